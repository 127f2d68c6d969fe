/-! free: the three steps -/
theorem sm3 {p : Nat} [NeZero p] (f : Nat → Fin p) {n : Nat} (hn : n ≤ 3) : sm f n = (if 0 < n then f 0 else 0) + (if 1 < n then f 1 else 0) + (if 2 < n then f 2 else 0) := by
  rcases (show n = 0 ∨ n = 1 ∨ n = 2 ∨ n = 3 by omega) with rfl | rfl | rfl | rfl
  · show (0 : Fin p) = _; simp
  · show 0 + f 0 = _; simp
  · show 0 + f 0 + f 1 = _; simp
  · show 0 + f 0 + f 1 + f 2 = _; simp
section FR
variable {p n ord : Nat}
/-- the rest of a letter times a product -/
def Rl [NeZero p] (n ord J : Nat) (P : Nat → Bool) (e : Nat → Nat → Fin p) (l s : Nat) : Mo2 → Fin p := rstf n ord (J + 1) P e (mulm (lt2 l) (dl (atm n ord J s)))
theorem rwT_at [NeZero p] {J : Nat} {P : Nat → Bool} {e : Nat → Nat → Fin p} {u s : Nat} (hn : n ≤ 3) (x : Nat × Mo2) : rwT n ord J P e u s x = (if 0 < n then (if bitN u 0 = true ∧ plN (u - 1) = x.1 then sgF (oppN u 0) (Rl n ord J P e 0 s x.2) else 0) else 0) + (if 1 < n then (if bitN u 1 = true ∧ plN (u - 2) = x.1 then sgF (oppN u 1) (Rl n ord J P e 1 s x.2) else 0) else 0) + (if 2 < n then (if bitN u 2 = true ∧ plN (u - 4) = x.1 then sgF (oppN u 2) (Rl n ord J P e 2 s x.2) else 0) else 0) := by
  unfold rwT
  rw [sm3 _ hn]
  rfl
def em [NeZero p] (f : Mo2 → Fin p) : Nat × Mo2 → Fin p := fun x => if x.1 = 0 then f x.2 else 0
theorem em_lin [NeZero p] : Lin (em (p := p)) := fun u v c x => by
  unfold em
  by_cases z : x.1 = 0
  · rw [if_pos z, if_pos z, if_pos z]
  · rw [if_neg z, if_neg z, if_neg z]; grind
theorem rw1 [NeZero p] {J : Nat} {P : Nat → Bool} {e : Nat → Nat → Fin p} {s : Nat} (hn : n ≤ 3) (h1 : 1 ≤ n) : rwT n ord J P e 1 s = em (Rl n ord J P e 0 s) := by
  funext x
  rw [rwT_at hn, if_pos (by omega)]
  unfold em
  rw [show bitN 1 0 = true by decide, show bitN 1 1 = false by decide, show bitN 1 2 = false by decide, show plN (1 - 1) = 0 by decide, show oppN 1 0 = false by decide]
  by_cases z : x.1 = 0
  · simp [z, sgF]
  · simp [z, Ne.symm z]
theorem rw2 [NeZero p] {J : Nat} {P : Nat → Bool} {e : Nat → Nat → Fin p} {s : Nat} (hn : n ≤ 3) (h1 : 2 ≤ n) : rwT n ord J P e 2 s = em (Rl n ord J P e 1 s) := by
  funext x
  rw [rwT_at hn, if_pos (show 0 < n by omega), if_pos (show 1 < n by omega)]
  unfold em
  rw [show bitN 2 0 = false by decide, show bitN 2 1 = true by decide, show bitN 2 2 = false by decide, show plN (2 - 2) = 0 by decide, show oppN 2 1 = false by decide]
  by_cases z : x.1 = 0
  · simp [z, sgF]
  · simp [z, Ne.symm z]
theorem rw4 [NeZero p] {J : Nat} {P : Nat → Bool} {e : Nat → Nat → Fin p} {s : Nat} (h1 : n = 3) : rwT n ord J P e 4 s = em (Rl n ord J P e 2 s) := by
  funext x
  rw [rwT_at (by omega), if_pos (show 0 < n by omega), if_pos (show 1 < n by omega), if_pos (show 2 < n by omega)]
  unfold em
  rw [show bitN 4 0 = false by decide, show bitN 4 1 = false by decide, show bitN 4 2 = true by decide, show plN (4 - 4) = 0 by decide, show oppN 4 2 = false by decide]
  by_cases z : x.1 = 0
  · simp [z, sgF]
  · simp [z, Ne.symm z]
theorem Rl0 [NeZero p] {J : Nat} {P : Nat → Bool} {e : Nat → Nat → Fin p} (s : Nat) : Rl n ord J P e 0 s = rstf n ord (J + 1) P e (dl (atm n ord J s)) := by
  unfold Rl
  have : mulm (lt2 0) (dl (p := p) (atm n ord J s)) = dl (atm n ord J s) := mulm_0 _
  rw [this]
theorem rst_neg [NeZero p] {d : Nat} {P : Nat → Bool} {e : Nat → Nat → Fin p} (f : Mo2 → Fin p) (m : Mo2) : rstf n ord d P e (fun q => 0 - f q) m = 0 - rstf n ord d P e f m := by
  have h1 := rstf_lin n ord d P e (fun _ => 0) f (-1) m
  have e0 : (fun j => (0 : Fin p) + -1 * f j) = fun q => 0 - f q := by funext q; grind
  rw [e0, (rstf_lin n ord d P e).z m] at h1
  rw [h1]; grind
theorem rst_00 [NeZero p] {d : Nat} {P : Nat → Bool} {e : Nat → Nat → Fin p} (m : Mo2) : rstf n ord d P e (fun _ => (0 : Fin p)) m = 0 := (rstf_lin n ord d P e).z m
theorem rw3 [NeZero p] {J : Nat} {P : Nat → Bool} {e : Nat → Nat → Fin p} {s : Nat} (hn : n ≤ 3) (h1 : 2 ≤ n) : rwT n ord J P e 3 s = Rt n ord (J + 1) P e (kz01 (dl (atm n ord J s))) := by
  funext ⟨l, m⟩
  rw [rwT_at hn, if_pos (show 0 < n by omega), if_pos (show 1 < n by omega)]
  rw [show bitN 3 0 = true by decide, show bitN 3 1 = true by decide, show bitN 3 2 = false by decide, show plN (3 - 1) = 1 by decide, show plN (3 - 2) = 0 by decide, show oppN 3 0 = false by decide, show oppN 3 1 = true by decide, Rl0]
  unfold Rt kz01
  by_cases z : l = 0
  · subst z
    simp only [if_true, true_and, if_neg (show ¬ (1 = 0) by omega), Bool.false_eq_true, false_and, if_false, ite_self]
    rw [rst_neg]
    unfold sgF Rl
    rw [if_pos rfl]
    show 0 + (0 - rstf n ord (J + 1) P e (mulm (1, 0) (dl (atm n ord J s))) m) + 0 = _
    grind
  · simp only [if_neg z]
    by_cases y : l = 1
    · subst y
      simp only [if_true, true_and, if_neg (show ¬ (0 = 1) by omega), Bool.false_eq_true, false_and, if_false, ite_self]
      unfold sgF
      rw [if_neg (by decide)]
      show rstf n ord (J + 1) P e (dl (atm n ord J s)) m + 0 + 0 = rstf n ord (J + 1) P e (dl (atm n ord J s)) m
      grind
    · simp only [if_neg y, true_and, if_neg (show ¬ (1 = l) by omega), if_neg (show ¬ (0 = l) by omega), Bool.false_eq_true, false_and, if_false, ite_self]
      rw [rst_00]; grind
theorem rw5 [NeZero p] {J : Nat} {P : Nat → Bool} {e : Nat → Nat → Fin p} {s : Nat} (h1 : n = 3) : rwT n ord J P e 5 s = Rt n ord (J + 1) P e (kz02 (dl (atm n ord J s))) := by
  funext ⟨l, m⟩
  rw [rwT_at (by omega), if_pos (show 0 < n by omega), if_pos (show 1 < n by omega), if_pos (show 2 < n by omega)]
  rw [show bitN 5 0 = true by decide, show bitN 5 1 = false by decide, show bitN 5 2 = true by decide, show plN (5 - 1) = 2 by decide, show plN (5 - 4) = 0 by decide, show oppN 5 0 = false by decide, show oppN 5 2 = true by decide, Rl0]
  unfold Rt kz02
  by_cases z : l = 0
  · subst z
    simp only [if_true, true_and, if_neg (show ¬ (2 = 0) by omega), Bool.false_eq_true, false_and, if_false]
    rw [rst_neg]
    unfold sgF Rl
    rw [if_pos rfl]
    show 0 + 0 + (0 - rstf n ord (J + 1) P e (mulm (0, 1) (dl (atm n ord J s))) m) = _
    grind
  · simp only [if_neg z]
    by_cases y : l = 2
    · subst y
      simp only [if_true, true_and, if_neg (show ¬ (0 = 2) by omega), Bool.false_eq_true, false_and, if_false]
      unfold sgF
      rw [if_neg (by decide)]
      show rstf n ord (J + 1) P e (dl (atm n ord J s)) m + 0 + 0 = rstf n ord (J + 1) P e (dl (atm n ord J s)) m
      grind
    · simp only [if_neg y, true_and, if_neg (show ¬ (2 = l) by omega), if_neg (show ¬ (0 = l) by omega), Bool.false_eq_true, false_and, if_false]
      rw [rst_00]; grind
theorem rw6 [NeZero p] {J : Nat} {P : Nat → Bool} {e : Nat → Nat → Fin p} {s : Nat} (h1 : n = 3) : rwT n ord J P e 6 s = Rt n ord (J + 1) P e (kz12 (dl (atm n ord J s))) := by
  funext ⟨l, m⟩
  rw [rwT_at (by omega), if_pos (show 0 < n by omega), if_pos (show 1 < n by omega), if_pos (show 2 < n by omega)]
  rw [show bitN 6 0 = false by decide, show bitN 6 1 = true by decide, show bitN 6 2 = true by decide, show plN (6 - 2) = 2 by decide, show plN (6 - 4) = 1 by decide, show oppN 6 1 = false by decide, show oppN 6 2 = true by decide]
  unfold Rt kz12
  by_cases z : l = 1
  · subst z
    simp only [if_true, true_and, if_neg (show ¬ (2 = 1) by omega), Bool.false_eq_true, false_and, if_false]
    rw [rst_neg]
    unfold sgF Rl
    rw [if_pos rfl]
    show 0 + 0 + (0 - rstf n ord (J + 1) P e (mulm (0, 1) (dl (atm n ord J s))) m) = _
    grind
  · simp only [if_neg z]
    by_cases y : l = 2
    · subst y
      simp only [if_true, true_and, if_neg (show ¬ (1 = 2) by omega), Bool.false_eq_true, false_and, if_false]
      unfold sgF Rl
      rw [if_neg (by decide)]
      show 0 + rstf n ord (J + 1) P e (mulm (1, 0) (dl (atm n ord J s))) m + 0 = rstf n ord (J + 1) P e (mulm (1, 0) (dl (atm n ord J s))) m
      grind
    · simp only [if_neg y, true_and, if_neg (show ¬ (2 = l) by omega), if_neg (show ¬ (1 = l) by omega), Bool.false_eq_true, false_and, if_false]
      rw [rst_00]; grind
/-- the third step -/
def k3m [NeZero p] (n ord J : Nat) (P : Nat → Bool) (e : Nat → Nat → Fin p) (f : Mo2 → Fin p) : Nat × Mo2 → Fin p := fun x => if x.1 = 2 then rstf n ord (J + 1) P e (mulm (lt2 0) f) x.2 else if x.1 = 1 then 0 - rstf n ord (J + 1) P e (mulm (lt2 1) f) x.2 else if x.1 = 0 then rstf n ord (J + 1) P e (mulm (lt2 2) f) x.2 else 0
def k3c [NeZero p] (n ord J : Nat) (P : Nat → Bool) (e : Nat → Nat → Fin p) (f : Mo2 → Fin p) : Nat × Mo2 → Fin p := fun x => if x.1 < 3 then rstf n ord (J + 1) P e (mulm (lt2 x.1) f) x.2 else 0
theorem rl_lin [NeZero p] (n ord d : Nat) (P : Nat → Bool) (e : Nat → Nat → Fin p) (l : Mo2) (u v : Mo2 → Fin p) (c : Fin p) (m : Mo2) : rstf n ord d P e (mulm l (fun j => u j + c * v j)) m = rstf n ord d P e (mulm l u) m + c * rstf n ord d P e (mulm l v) m := by
  rw [mulm_lin, rstf_lin n ord d P e (mulm l u) (mulm l v) c m]
theorem k3m_lin [NeZero p] (n ord J : Nat) (P : Nat → Bool) (e : Nat → Nat → Fin p) : Lin (k3m n ord J P e) := fun u v c x => by
  unfold k3m
  by_cases z : x.1 = 2
  · rw [if_pos z, if_pos z, if_pos z, rl_lin]
  · rw [if_neg z, if_neg z, if_neg z]
    by_cases y : x.1 = 1
    · rw [if_pos y, if_pos y, if_pos y, rl_lin]; grind
    · rw [if_neg y, if_neg y, if_neg y]
      by_cases w : x.1 = 0
      · rw [if_pos w, if_pos w, if_pos w, rl_lin]
      · rw [if_neg w, if_neg w, if_neg w]; grind
theorem k3c_lin [NeZero p] (n ord J : Nat) (P : Nat → Bool) (e : Nat → Nat → Fin p) : Lin (k3c n ord J P e) := fun u v c x => by
  unfold k3c
  by_cases z : x.1 < 3
  · rw [if_pos z, if_pos z, if_pos z, rl_lin]
  · rw [if_neg z, if_neg z, if_neg z]; grind
theorem k3_ker [NeZero p] {J : Nat} {P : Nat → Bool} {e : Nat → Nat → Fin p} (f : Mo2 → Fin p) : (∀ x, k3m n ord J P e f x = 0) ↔ ∀ x, k3c n ord J P e f x = 0 := by
  unfold k3m k3c
  constructor
  · intro h ⟨l, m⟩
    rcases (show l = 0 ∨ l = 1 ∨ l = 2 ∨ 3 ≤ l by omega) with rfl | rfl | rfl | z
    · have := h (2, m); simpa using this
    · have := h (1, m)
      simp at this
      simp only [if_pos (show 1 < 3 by omega)]
      grind
    · have := h (0, m); simpa using this
    · simp only [if_neg (show ¬ l < 3 by omega)]
  · intro h ⟨l, m⟩
    rcases (show l = 0 ∨ l = 1 ∨ l = 2 ∨ 3 ≤ l by omega) with rfl | rfl | rfl | z
    · have := h (2, m); simpa using this
    · have := h (1, m)
      simp only [if_pos (show 1 < 3 by omega)] at this
      simp
      rw [this]; grind
    · have := h (0, m); simpa using this
    · simp only [if_neg (show ¬ l = 2 by omega), if_neg (show ¬ l = 1 by omega), if_neg (show ¬ l = 0 by omega)]
theorem rw7 [NeZero p] {J : Nat} {P : Nat → Bool} {e : Nat → Nat → Fin p} {s : Nat} (h1 : n = 3) : rwT n ord J P e 7 s = k3m n ord J P e (dl (atm n ord J s)) := by
  funext ⟨l, m⟩
  rw [rwT_at (by omega), if_pos (show 0 < n by omega), if_pos (show 1 < n by omega), if_pos (show 2 < n by omega)]
  rw [show bitN 7 0 = true by decide, show bitN 7 1 = true by decide, show bitN 7 2 = true by decide, show plN (7 - 1) = 2 by decide, show plN (7 - 2) = 1 by decide, show plN (7 - 4) = 0 by decide, show oppN 7 0 = false by decide, show oppN 7 1 = true by decide, show oppN 7 2 = false by decide]
  unfold k3m sgF Rl
  rcases (show l = 0 ∨ l = 1 ∨ l = 2 ∨ 3 ≤ l by omega) with rfl | rfl | rfl | z
  · simp
  · simp
  · simp
  · simp only [true_and, if_neg (show ¬ (2 = l) by omega), if_neg (show ¬ (1 = l) by omega), if_neg (show ¬ (0 = l) by omega), if_neg (show ¬ l = 2 by omega), if_neg (show ¬ l = 1 by omega), if_neg (show ¬ l = 0 by omega)]; grind
theorem dl_St [NeZero p] {J s : Nat} {P : Nat → Bool} (hs : s < nM n ord J) (hP : P s = false) : StP (p := p) n ord J P (dl (atm n ord J s)) := ⟨dl_hom (atm_ok hs), fun i hi => by
  unfold vec dl
  by_cases z : i < nM n ord J
  · rw [if_pos z, if_neg]
    intro w
    rw [atm_inj z hs w, hP] at hi; exact absurd hi (by decide)
  · rw [if_neg z]⟩
theorem st_img [NeZero p] {J : Nat} {P : Nat → Bool} {κ : Type} {T : (Mo2 → Fin p) → κ → Fin p} (hT : Lin T) (t : κ → Fin p) : Spn (fun t => ∃ s, s < nM n ord J ∧ P s = false ∧ t = T (dl (atm n ord J s))) t ↔ img T (StP n ord J P) t := by
  constructor
  · intro ht
    refine Spn_le (img_sub hT (StP_sub n ord J P)) (fun u ⟨s, hs, hP, hu⟩ => ?_) t ht
    exact ⟨_, dl_St hs hP, fun i => by rw [hu]⟩
  · rintro ⟨f, hf, e⟩
    rw [funext e]
    exact st_span hT (Spn_sub _) (fun s hs hP => Spn_of ⟨s, hs, hP, rfl⟩) hf
theorem o_1 : ∀ u, u < 8 → onesN u = 1 → u = 1 ∨ u = 2 ∨ u = 4 := by decide +kernel
theorem o_2 : ∀ u, u < 8 → onesN u = 2 → u = 3 ∨ u = 5 ∨ u = 6 := by decide +kernel
theorem o_3 : ∀ u, u < 8 → onesN u = 3 → u = 7 := by decide +kernel
theorem p2_1 : ∀ n, n < 4 → (1 < 2 ^ n ↔ 1 ≤ n) ∧ (2 < 2 ^ n ↔ 2 ≤ n) ∧ (3 < 2 ^ n ↔ 2 ≤ n) ∧ (4 < 2 ^ n ↔ n = 3) ∧ (5 < 2 ^ n ↔ n = 3) ∧ (6 < 2 ^ n ↔ n = 3) ∧ (7 < 2 ^ n ↔ n = 3) := by decide +kernel
/-- what steps answers -/
def StR [NeZero p] (n ord : Nat) (G : Nat → (Mo2 → Fin p) → Prop) (i j r : Nat) : Prop := ((i = 0 ∨ n < i ∨ j < i) ∧ r = 0) ∨ (1 ≤ i ∧ i ≤ n ∧ i ≤ j ∧ ∃ e, Ech (nM n ord (j - i + 1)) (VV n ord (j - i + 1) (VP n G (j - i + 1))) (leadB (VV n ord (j - i + 1) (VP n G (j - i + 1)))) e ∧ Dim (Spn (RWT n ord (j - i) (leadB (VV n ord (j - i) (VP n G (j - i)))) (leadB (VV n ord (j - i + 1) (VP n G (j - i + 1)))) e i)) r)
theorem StR1 [NeZero p] {G : Nat → (Mo2 → Fin p) → Prop} {j r : Nat} (hF : isField p) (h1 : 1 ≤ n) (hn : n ≤ 3) (hG : ∀ e g, G e g → hom n e g) (hj : 1 ≤ j) (h : StR n ord G 1 j r) : r = nM n ord j - vdm n ord G j := by
  rcases h with ⟨z, _⟩ | ⟨_, _, _, e, hE, hD⟩
  · omega
  obtain ⟨J, rfl⟩ : ∃ J, j = J + 1 := ⟨j - 1, by omega⟩
  rw [Nat.add_sub_cancel] at hE hD
  have h8 := n_two n (by omega)
  have hp2 := p2_1 n (by omega)
  have h2 : Dim (Spn (RW1 n ord J (leadB (VV n ord J (VP n G J))) (leadB (VV n ord (J + 1) (VP n G (J + 1)))) e)) (nM n ord (J + 1) - vdm n ord G (J + 1)) := Dim_cong (fun f => (U1_eq hF h1 hn hG hE f).symm) (Dim_St hF hG hE)
  have h3 : Dim (img em (Spn (RW1 n ord J (leadB (VV n ord J (VP n G J))) (leadB (VV n ord (J + 1) (VP n G (J + 1)))) e))) r := by
    refine Dim_cong (fun t => ?_) hD
    rw [img_spn em_lin]
    refine Iff.of_eq (congrFun (Spn_iff (fun t => ?_)) t)
    constructor
    · rintro ⟨u, s, hu, ho, hs, hP, rfl⟩
      rcases o_1 u (by omega) ho with rfl | rfl | rfl
      · exact ⟨_, ⟨0, s, by omega, hs, hP, rfl⟩, rw1 hn h1⟩
      · exact ⟨_, ⟨1, s, by have := hp2.2.1.mp hu; omega, hs, hP, rfl⟩, rw2 hn (hp2.2.1.mp hu)⟩
      · exact ⟨_, ⟨2, s, by have := hp2.2.2.2.1.mp hu; omega, hs, hP, rfl⟩, rw4 (hp2.2.2.2.1.mp hu)⟩
    · rintro ⟨f, ⟨l, s, hl, hs, hP, rfl⟩, rfl⟩
      rcases (show l = 0 ∨ l = 1 ∨ l = 2 by omega) with rfl | rfl | rfl
      · exact ⟨1, s, hp2.1.mpr h1, by decide, hs, hP, (rw1 hn h1).symm⟩
      · exact ⟨2, s, hp2.2.1.mpr (by omega), by decide, hs, hP, (rw2 hn (by omega)).symm⟩
      · exact ⟨4, s, hp2.2.2.2.1.mpr (by omega), by decide, hs, hP, (rw4 (by omega)).symm⟩
  have := Dim_inj hF (Spn_sub _) em_lin h2 h3 (fun v _ h0 x => by have := h0 (0, x); exact this)
  omega
theorem StR2 [NeZero p] {G : Nat → (Mo2 → Fin p) → Prop} {j r : Nat} (hF : isField p) (h1 : 1 ≤ n) (hn : n ≤ 3) (hG : ∀ e g, G e g → hom n e g) (hj : 1 ≤ j) (h : StR n ord G 2 j r) : r + nM n ord j + n * vdm n ord G (j - 1) = n * nM n ord (j - 1) + vdm n ord (Gb j G) j := by
  rcases h with ⟨z, rfl⟩ | ⟨_, h2n, h2j, e, hE, hD⟩
  · obtain ⟨J, rfl⟩ : ∃ J, j = J + 1 := ⟨j - 1, by omega⟩
    have := U2_none (ord := ord) (J := J) hF h1 hn hG (by omega)
    rw [Nat.add_sub_cancel]
    omega
  · obtain ⟨K, rfl⟩ : ∃ K, j = K + 2 := ⟨j - 2, by omega⟩
    rw [show K + 2 - 2 = K by omega] at hE hD
    have h8 := n_two n (by omega)
    have hp2 := p2_1 n (by omega)
    obtain ⟨e', hE'⟩ := Ech_of (N := nM n ord K) hF (VV_sub (ord := ord) (VP_sub n G K)) (VV_range _)
    refine U2_dim (K := K) hF h1 hn hG hE hE' (Dim_cong (fun t => ?_) hD)
    refine Iff.of_eq (congrFun (Spn_iff (fun t => ?_)) t)
    constructor
    · rintro ⟨u, s, hu, ho, hs, hP, rfl⟩
      rcases o_2 u (by omega) ho with rfl | rfl | rfl
      · exact ⟨s, hs, hP, Or.inl ⟨h2n, rw3 hn h2n⟩⟩
      · exact ⟨s, hs, hP, Or.inr ⟨by have := hp2.2.2.2.2.1.mp hu; omega, Or.inl (rw5 (hp2.2.2.2.2.1.mp hu))⟩⟩
      · exact ⟨s, hs, hP, Or.inr ⟨by have := hp2.2.2.2.2.2.1.mp hu; omega, Or.inr (rw6 (hp2.2.2.2.2.2.1.mp hu))⟩⟩
    · rintro ⟨s, hs, hP, ⟨_, rfl⟩ | ⟨h3, rfl | rfl⟩⟩
      · exact ⟨3, s, hp2.2.2.1.mpr h2n, by decide, hs, hP, (rw3 hn h2n).symm⟩
      · exact ⟨5, s, hp2.2.2.2.2.1.mpr (by omega), by decide, hs, hP, (rw5 (by omega)).symm⟩
      · exact ⟨6, s, hp2.2.2.2.2.2.1.mpr (by omega), by decide, hs, hP, (rw6 (by omega)).symm⟩
/-- the third rank, as the class has it -/
def R3 [NeZero p] (n ord J : Nat) (G : Nat → (Mo2 → Fin p) → Prop) (r : Nat) : Prop := ∃ e, Ech (nM n ord (J + 1)) (VV n ord (J + 1) (VP n G (J + 1))) (leadB (VV n ord (J + 1) (VP n G (J + 1)))) e ∧ Dim (img (k3c n ord J (leadB (VV n ord (J + 1) (VP n G (J + 1)))) e) (StP n ord J (leadB (VV n ord J (VP n G J))))) r
theorem rst_one [NeZero p] {d : Nat} {G : Nat → (Mo2 → Fin p) → Prop} {P : Nat → Bool} {e e2 : Nat → Nat → Fin p} (hG : ∀ e g, G e g → hom n e g) (hE : Ech (nM n ord d) (VV n ord d (VP n G d)) P e) (hE2 : Ech (nM n ord d) (VV n ord d (VP n G d)) P e2) {f : Mo2 → Fin p} (hf : hom n d f) : rstf n ord d P e f = rstf n ord d P e2 f := by
  obtain ⟨⟨a1, a2⟩, a3⟩ := rst_ok hG hE hf
  obtain ⟨⟨b1, b2⟩, b3⟩ := rst_ok hG hE2 hf
  have h := (VP_sub n G d).sub b3 a3
  have e0 : (fun m => (f m - rstf n ord d P e2 f m) - (f m - rstf n ord d P e f m)) = fun m => rstf n ord d P e f m - rstf n ord d P e2 f m := by funext m; grind
  rw [e0] at h
  have hv : VV n ord d (VP n G d) (fun i => vec n ord d (rstf n ord d P e f) i - vec n ord d (rstf n ord d P e2 f) i) := by
    rw [← vec_sub]; exact ⟨_, h, rfl⟩
  have := hE.rest1 hv a2 b2
  rw [← unv_vec (ord := ord) a1, ← unv_vec (ord := ord) b1, this]
theorem StR3 [NeZero p] {G : Nat → (Mo2 → Fin p) → Prop} {J r r' : Nat} (hF : isField p) (h3 : n = 3) (hG : ∀ e g, G e g → hom n e g) (h : StR n ord G 3 (J + 3) r) (hc : R3 n ord J G r') : r = r' := by
  rcases h with ⟨z, _⟩ | ⟨_, _, _, e, hE, hD⟩
  · omega
  rw [show J + 3 - 3 = J by omega] at hE hD
  obtain ⟨e2, hE2, hD2⟩ := hc
  have h8 := n_two n (by omega)
  have hp2 := p2_1 n (by omega)
  obtain ⟨e', hE'⟩ := Ech_of (N := nM n ord J) hF (VV_sub (ord := ord) (VP_sub n G J)) (VV_range _)
  have q1 : Dim (img (k3m n ord J (leadB (VV n ord (J + 1) (VP n G (J + 1)))) e) (StP n ord J (leadB (VV n ord J (VP n G J))))) r := by
    refine Dim_cong (fun t => ?_) hD
    rw [← st_img (k3m_lin n ord J _ e)]
    refine Iff.of_eq (congrFun (Spn_iff (fun t => ?_)) t)
    constructor
    · rintro ⟨u, s, hu, ho, hs, hP, rfl⟩
      rw [o_3 u (by omega) ho]
      exact ⟨s, hs, hP, rw7 h3⟩
    · rintro ⟨s, hs, hP, rfl⟩
      exact ⟨7, s, hp2.2.2.2.2.2.2.mpr h3, by decide, hs, hP, (rw7 h3).symm⟩
  have q2 : Dim (img (k3c n ord J (leadB (VV n ord (J + 1) (VP n G (J + 1)))) e) (StP n ord J (leadB (VV n ord J (VP n G J))))) r' := by
    have e0 : ∀ f, StP (p := p) n ord J (leadB (VV n ord J (VP n G J))) f → k3c n ord J (leadB (VV n ord (J + 1) (VP n G (J + 1)))) e2 f = k3c n ord J (leadB (VV n ord (J + 1) (VP n G (J + 1)))) e f := fun f hf => by
      funext x
      unfold k3c
      by_cases z : x.1 < 3
      · rw [if_pos z, if_pos z, rst_one hG hE2 hE (hom_mulm hf.1 (okl (by omega) z))]
      · rw [if_neg z, if_neg z]
    refine Dim_cong (fun t => ⟨fun ⟨f, hf, ht⟩ => ⟨f, hf, fun i => by rw [ht i, e0 f hf]⟩, fun ⟨f, hf, ht⟩ => ⟨f, hf, fun i => by rw [ht i, e0 f hf]⟩⟩) hD2
  exact Dim_kereq hF (StP_sub _ _ _ _) (k3m_lin n ord J _ e) (k3c_lin n ord J _ e) (Dim_St hF hG hE') q1 q2 (fun v _ => k3_ker v)
end FR
