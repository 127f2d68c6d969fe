/-! what the letters bring to nought: exactly the differences of two letters -/
def kz01 {p : Nat} [NeZero p] (a : Mo2 → Fin p) : Nat × Mo2 → Fin p := fun x => if x.1 = 0 then 0 - mulm (1, 0) a x.2 else if x.1 = 1 then a x.2 else 0
def kz02 {p : Nat} [NeZero p] (a : Mo2 → Fin p) : Nat × Mo2 → Fin p := fun x => if x.1 = 0 then 0 - mulm (0, 1) a x.2 else if x.1 = 2 then a x.2 else 0
def kz12 {p : Nat} [NeZero p] (a : Mo2 → Fin p) : Nat × Mo2 → Fin p := fun x => if x.1 = 1 then 0 - mulm (0, 1) a x.2 else if x.1 = 2 then mulm (1, 0) a x.2 else 0
theorem kz01_lin {p : Nat} [NeZero p] : Lin (kz01 (p := p)) := fun u v c x => by
  unfold kz01
  by_cases h0 : x.1 = 0
  · rw [if_pos h0, if_pos h0, if_pos h0, mulm_lin]; grind
  · rw [if_neg h0, if_neg h0, if_neg h0]
    by_cases h1 : x.1 = 1
    · rw [if_pos h1, if_pos h1, if_pos h1]
    · rw [if_neg h1, if_neg h1, if_neg h1]; grind
theorem kz02_lin {p : Nat} [NeZero p] : Lin (kz02 (p := p)) := fun u v c x => by
  unfold kz02
  by_cases h0 : x.1 = 0
  · rw [if_pos h0, if_pos h0, if_pos h0, mulm_lin]; grind
  · rw [if_neg h0, if_neg h0, if_neg h0]
    by_cases h1 : x.1 = 2
    · rw [if_pos h1, if_pos h1, if_pos h1]
    · rw [if_neg h1, if_neg h1, if_neg h1]; grind
theorem kz12_lin {p : Nat} [NeZero p] : Lin (kz12 (p := p)) := fun u v c x => by
  unfold kz12
  by_cases h0 : x.1 = 1
  · rw [if_pos h0, if_pos h0, if_pos h0, mulm_lin]; grind
  · rw [if_neg h0, if_neg h0, if_neg h0]
    by_cases h1 : x.1 = 2
    · rw [if_pos h1, if_pos h1, if_pos h1, mulm_lin]
    · rw [if_neg h1, if_neg h1, if_neg h1]; grind
theorem mul10 {p : Nat} [NeZero p] (f : Mo2 → Fin p) (a b : Nat) : mulm (1, 0) f (a + 1, b) = f (a, b) := by
  unfold mulm; rw [if_pos ⟨by simp only; omega, by simp only; omega⟩]; rfl
theorem mul01 {p : Nat} [NeZero p] (f : Mo2 → Fin p) (a b : Nat) : mulm (0, 1) f (a, b + 1) = f (a, b) := by
  unfold mulm; rw [if_pos ⟨by simp only; omega, by simp only; omega⟩]; rfl
theorem mul10z {p : Nat} [NeZero p] (f : Mo2 → Fin p) (b : Nat) : mulm (1, 0) f (0, b) = 0 := by
  unfold mulm; rw [if_neg (fun h => by have := h.1; simp only at this; omega)]
theorem mul01z {p : Nat} [NeZero p] (f : Mo2 → Fin p) (a : Nat) : mulm (0, 1) f (a, 0) = 0 := by
  unfold mulm; rw [if_neg (fun h => by have := h.2; simp only at this; omega)]
theorem mul_cm {p : Nat} [NeZero p] (f : Mo2 → Fin p) : mulm (1, 0) (mulm (0, 1) f) = mulm (0, 1) (mulm (1, 0) f) := by
  rw [mulm_mulm, mulm_mulm]; rfl
section KOS2
variable {p n ord : Nat}
theorem exact0 [NeZero p] {t : Nat × Mo2 → Fin p} (ht : tup n (hom n 0) t) (hn : n ≤ 3) (hs : ∀ m, Sg t m = 0) : ∀ x, t x = 0 := by
  have hh : ∀ l m, t (l, m) ≠ 0 → m = (0, 0) := fun l m hm => by
    have hl : l < n := by
      rcases Nat.lt_or_ge l n with z | z
      · exact z
      · exact absurd (ht.2 l m z) hm
    have := (ht.1 l hl m hm).1
    apply Prod.ext <;> simp only <;> omega
  have z0 : ∀ l m, m ≠ (0, 0) → t (l, m) = 0 := fun l m hm => by
    by_cases q : t (l, m) = 0
    · exact q
    · exact absurd (hh l m q) hm
  have h1 : t (1, (0, 0)) = 0 := by
    have := hs (1, 0)
    unfold Sg at this
    rw [z0 0 (1, 0) (by intro e; cases e), mul10 _ 0 0, mul01z] at this
    grind
  have h2 : t (2, (0, 0)) = 0 := by
    have := hs (0, 1)
    unfold Sg at this
    rw [z0 0 (0, 1) (by intro e; cases e), mul10z, mul01 _ 0 0] at this
    grind
  have h0 : t (0, (0, 0)) = 0 := by
    have := hs (0, 0)
    unfold Sg at this
    rw [mul10z, mul01z] at this
    grind
  intro ⟨l, m⟩
  by_cases q : m = (0, 0)
  · subst q
    rcases (show l = 0 ∨ l = 1 ∨ l = 2 ∨ 3 ≤ l by omega) with rfl | rfl | rfl | z
    · exact h0
    · exact h1
    · exact h2
    · exact ht.2 l _ (by omega)
  · exact z0 l m q
theorem exact1 [NeZero p] {K : Nat} {t : Nat × Mo2 → Fin p} (ht : tup n (hom n (K + 1)) t) (hn : n ≤ 3) (hs : ∀ m, Sg t m = 0) : ∃ a b c, hom n K a ∧ hom n K b ∧ hom n K c ∧ (n < 2 → a = fun _ => 0) ∧ (n < 3 → b = (fun _ => 0) ∧ c = fun _ => 0) ∧ ∀ x, t x = kz01 a x + kz02 b x + kz12 c x := by
  have hok : ∀ l m, t (l, m) ≠ 0 → okm n (K + 1) m ∧ l < n := fun l m hm => by
    have hl : l < n := by
      rcases Nat.lt_or_ge l n with z | z
      · exact z
      · exact absurd (ht.2 l m z) hm
    exact ⟨ht.1 l hl m hm, hl⟩
  have hz : ∀ l m, ¬ okm n (K + 1) m → t (l, m) = 0 := fun l m hm => by
    by_cases q : t (l, m) = 0
    · exact q
    · exact absurd (hok l m q).1 hm
  have hd : ∀ l (m : Mo2), K + 1 < m.1 + m.2 → t (l, m) = 0 := fun l m hm => hz l m (fun h => by have := h.1; omega)
  obtain ⟨c, hc⟩ : ∃ c : Mo2 → Fin p, c = fun m => if m.1 + m.2 = K then 0 - t (1, (m.1, m.2 + 1)) else 0 := ⟨_, rfl⟩
  have c_at : ∀ m : Mo2, m.1 + m.2 = K → c m = 0 - t (1, (m.1, m.2 + 1)) := fun m hm => by rw [hc]; simp only; rw [if_pos hm]
  have c_ne : ∀ m : Mo2, c m ≠ 0 → m.1 + m.2 = K ∧ 3 ≤ n := fun m hm => by
    rw [hc] at hm
    simp only at hm
    by_cases q : m.1 + m.2 = K
    · rw [if_pos q] at hm
      have h1 : t (1, (m.1, m.2 + 1)) ≠ 0 := fun z => hm (by rw [z]; grind)
      have h2 := (hok _ _ h1).1.2.2
      refine ⟨q, ?_⟩
      rcases Nat.lt_or_ge n 3 with z | z
      · have := h2 z; simp only at this; omega
      · exact z
    · rw [if_neg q] at hm; exact absurd rfl hm
  have c_off : ∀ m : Mo2, m.1 + m.2 ≠ K → c m = 0 := fun m hm => by
    by_cases q : c m = 0
    · exact q
    · exact absurd (c_ne m q).1 hm
  have hch : hom n K c := fun m hm => ⟨by have := (c_ne m hm).1; omega, fun z => by have := (c_ne m hm).2; omega, fun z => by have := (c_ne m hm).2; omega⟩
  -- at the top
  have ta : ∀ m : Mo2, K < m.1 + m.2 → t (1, m) + mulm (0, 1) c m = 0 := by
    rintro ⟨y, z⟩ hm
    simp only at hm
    rcases Nat.lt_or_ge (K + 1) (y + z) with w | w
    · rw [hd 1 (y, z) w]
      cases z with
      | zero => rw [mul01z]; grind
      | succ z => rw [mul01, c_off (y, z) (by simp only; omega)]; grind
    · cases z with
      | zero =>
        have := hs (y + 1, 0)
        unfold Sg at this
        rw [hd 0 (y + 1, 0) (by simp only; omega), mul10, mul01z] at this
        rw [mul01z]; grind
      | succ z =>
        rw [mul01, c_at (y, z) (by simp only; omega)]; grind
  have tb : ∀ m : Mo2, K < m.1 + m.2 → t (2, m) - mulm (1, 0) c m = 0 := by
    rintro ⟨y, z⟩ hm
    simp only at hm
    rcases Nat.lt_or_ge (K + 1) (y + z) with w | w
    · rw [hd 2 (y, z) w]
      cases y with
      | zero => rw [mul10z]; grind
      | succ y => rw [mul10, c_off (y, z) (by simp only; omega)]; grind
    · cases y with
      | zero =>
        have := hs (0, z + 1)
        unfold Sg at this
        rw [hd 0 (0, z + 1) (by simp only; omega), mul10z, mul01] at this
        rw [mul10z]; grind
      | succ y =>
        have := hs (y + 1, z + 1)
        unfold Sg at this
        rw [hd 0 (y + 1, z + 1) (by simp only; omega), mul10, mul01] at this
        rw [mul10, c_at (y, z) (by simp only; omega)]; grind
  have hmc : ∀ (q m : Mo2), mulm q c m ≠ 0 → 3 ≤ n := fun q m hm => by
    unfold mulm at hm
    split at hm
    · exact (c_ne _ hm).2
    · exact absurd rfl hm
  have cl : ∀ (l : Nat) (m : Mo2) (v : Fin p), (v = t (l, m) + mulm (0, 1) c m ∨ v = t (l, m) - mulm (1, 0) c m) → v ≠ 0 → m.1 + m.2 ≤ K → okm n K m := by
    intro l m v hv hne hle
    by_cases q : t (l, m) = 0
    · have : 3 ≤ n := by
        rcases hv with hv | hv
        · exact hmc (0, 1) m (fun z => hne (by rw [hv, q, z]; grind))
        · exact hmc (1, 0) m (fun z => hne (by rw [hv, q, z]; grind))
      exact ⟨hle, fun z => by omega, fun z => by omega⟩
    · exact ⟨hle, (hok l m q).1.2⟩
  refine ⟨fun m => t (1, m) + mulm (0, 1) c m, fun m => t (2, m) - mulm (1, 0) c m, c, fun m hm => ?_, fun m hm => ?_, hch, fun h2 => ?_, fun h3 => ?_, ?_⟩
  · rcases Nat.lt_or_ge K (m.1 + m.2) with w | w
    · exact absurd (ta m w) hm
    · exact cl 1 m _ (Or.inl rfl) hm w
  · rcases Nat.lt_or_ge K (m.1 + m.2) with w | w
    · exact absurd (tb m w) hm
    · exact cl 2 m _ (Or.inr rfl) hm w
  · funext m
    have e1 : t (1, m) = 0 := ht.2 1 m (by omega)
    have e2 : mulm (0, 1) c m = 0 := Classical.byContradiction (fun z => by have := hmc _ _ z; omega)
    rw [e1, e2]; grind
  · have ec : ∀ m, c m = 0 := fun m => Classical.byContradiction (fun z => by have := (c_ne m z).2; omega)
    refine ⟨?_, funext ec⟩
    funext m
    have e1 : t (2, m) = 0 := ht.2 2 m (by omega)
    have e2 : mulm (1, 0) c m = 0 := Classical.byContradiction (fun z => by have := hmc _ _ z; omega)
    rw [e1, e2]; grind
  · intro ⟨l, m⟩
    unfold kz01 kz02 kz12
    rcases (show l = 0 ∨ l = 1 ∨ l = 2 ∨ 3 ≤ l by omega) with rfl | rfl | rfl | z
    · simp only [if_true, if_neg (show ¬ (0 = 1) by omega), if_neg (show ¬ (0 = 2) by omega)]
      have h1 : mulm (1, 0) (fun m => t (1, m) + mulm (0, 1) c m) m = mulm (1, 0) (fun m => t (1, m)) m + mulm (1, 0) (mulm (0, 1) c) m := by
        have := mulm_lin (1, 0) (fun m => t (1, m)) (mulm (0, 1) c) 1
        have e0 : (fun m => t (1, m) + 1 * mulm (0, 1) c m) = fun m => t (1, m) + mulm (0, 1) c m := by funext m; grind
        rw [e0] at this
        rw [this]; grind
      have h2 : mulm (0, 1) (fun m => t (2, m) - mulm (1, 0) c m) m = mulm (0, 1) (fun m => t (2, m)) m - mulm (0, 1) (mulm (1, 0) c) m := by
        have := mulm_lin (0, 1) (fun m => t (2, m)) (mulm (1, 0) c) (-1)
        have e0 : (fun m => t (2, m) + -1 * mulm (1, 0) c m) = fun m => t (2, m) - mulm (1, 0) c m := by funext m; grind
        rw [e0] at this
        rw [this]; grind
      rw [h1, h2, mul_cm]
      have := hs m
      unfold Sg at this
      grind
    · simp only [if_true, if_neg (show ¬ (1 = 0) by omega), if_neg (show ¬ (1 = 2) by omega)]; grind
    · simp only [if_true, if_neg (show ¬ (2 = 0) by omega), if_neg (show ¬ (2 = 1) by omega)]; grind
    · rw [ht.2 l m (by omega)]
      simp only [if_neg (show ¬ (l = 0) by omega), if_neg (show ¬ (l = 1) by omega), if_neg (show ¬ (l = 2) by omega)]; grind
/-- they go to nought -/
theorem kz_Sg [NeZero p] (a b c : Mo2 → Fin p) (m : Mo2) : Sg (fun x => kz01 a x + kz02 b x + kz12 c x) m = 0 := by
  unfold Sg kz01 kz02 kz12
  simp only [if_true, if_neg (show ¬ (0 = 1) by omega), if_neg (show ¬ (0 = 2) by omega), if_neg (show ¬ (1 = 0) by omega), if_neg (show ¬ (1 = 2) by omega), if_neg (show ¬ (2 = 0) by omega), if_neg (show ¬ (2 = 1) by omega)]
  have h1 : mulm (1, 0) (fun q => a q + 0 + (0 - mulm (0, 1) c q)) m = mulm (1, 0) a m - mulm (1, 0) (mulm (0, 1) c) m := by
    have := mulm_lin (1, 0) a (mulm (0, 1) c) (-1)
    have e0 : (fun q => a q + 0 + (0 - mulm (0, 1) c q)) = fun q => a q + -1 * mulm (0, 1) c q := by funext q; grind
    rw [e0, this]; grind
  have h2 : mulm (0, 1) (fun q => 0 + b q + mulm (1, 0) c q) m = mulm (0, 1) b m + mulm (0, 1) (mulm (1, 0) c) m := by
    have := mulm_lin (0, 1) b (mulm (1, 0) c) 1
    have e0 : (fun q => 0 + b q + mulm (1, 0) c q) = fun q => b q + 1 * mulm (1, 0) c q := by funext q; grind
    rw [e0, this]; grind
  rw [h1, h2, mul_cm]; grind
end KOS2
