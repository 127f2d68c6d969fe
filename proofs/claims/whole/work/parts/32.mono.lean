/-! products of one degree: by the powers (y, z) of letters 1 and 2 -/
abbrev Mo2 : Type := Nat × Nat
/-- the products of degree d in n letters, the greatest first -/
def mons (n ord d : Nat) : List Mo2 :=
  if ord = 0 then (List.range ((if 2 < n then d else 0) + 1)).flatMap (fun z => (List.range ((if 1 < n then d - z else 0) + 1)).map (fun y => (y, z)))
  else (List.range ((if 1 < n then d else 0) + 1)).flatMap (fun s => (List.range ((if 2 < n then s else 0) + 1)).map (fun z => (s - z, z)))
/-- there is such a product -/
def okm (n d : Nat) (m : Mo2) : Prop := m.1 + m.2 ≤ d ∧ (n < 2 → m.1 = 0) ∧ (n < 3 → m.2 = 0)
/-- m stands ahead of m' (of one degree) -/
def bef (ord : Nat) (m m' : Mo2) : Prop := if ord = 0 then m.2 < m'.2 ∨ (m.2 = m'.2 ∧ m.1 < m'.1) else m.1 + m.2 < m'.1 + m'.2 ∨ (m.1 + m.2 = m'.1 + m'.2 ∧ m.2 < m'.2)
theorem okm_dec (n d : Nat) (m : Mo2) : okm n d m ↔ (decide (m.1 + m.2 ≤ d) && (decide (2 ≤ n) || decide (m.1 = 0)) && (decide (3 ≤ n) || decide (m.2 = 0))) = true := by
  simp only [okm, Bool.and_eq_true, Bool.or_eq_true, decide_eq_true_eq]
  constructor
  · rintro ⟨a, b, c⟩
    refine ⟨⟨a, ?_⟩, ?_⟩ <;> omega
  · rintro ⟨⟨a, b⟩, c⟩
    exact ⟨a, by omega, by omega⟩
theorem mem_mons {n ord d : Nat} {m : Mo2} : m ∈ mons n ord d ↔ okm n d m := by
  unfold mons okm
  obtain ⟨y, z⟩ := m
  by_cases ho : ord = 0
  · rw [if_pos ho]
    simp only [List.mem_flatMap, List.mem_range, List.mem_map, Prod.mk.injEq]
    constructor
    · rintro ⟨a, ha, b, hb, rfl, rfl⟩
      by_cases h2 : 2 < n <;> by_cases h1 : 1 < n <;> simp only [h1, h2, if_true, if_false] at ha hb <;> refine ⟨?_, ?_, ?_⟩ <;> omega
    · rintro ⟨a, b, c⟩
      refine ⟨z, ?_, y, ?_, rfl, rfl⟩
      · by_cases h2 : 2 < n
        · simp only [h2, if_true]; omega
        · simp only [h2, if_false]; have := c (by omega); omega
      · by_cases h1 : 1 < n
        · simp only [h1, if_true]; omega
        · simp only [h1, if_false]; have := b (by omega); omega
  · rw [if_neg ho]
    simp only [List.mem_flatMap, List.mem_range, List.mem_map, Prod.mk.injEq]
    constructor
    · rintro ⟨a, ha, b, hb, rfl, rfl⟩
      by_cases h2 : 2 < n <;> by_cases h1 : 1 < n <;> simp only [h1, h2, if_true, if_false] at ha hb <;> refine ⟨?_, ?_, ?_⟩ <;> omega
    · rintro ⟨a, b, c⟩
      refine ⟨y + z, ?_, z, ?_, by omega, rfl⟩
      · by_cases h1 : 1 < n
        · simp only [h1, if_true]; omega
        · simp only [h1, if_false]; have := b (by omega); have := c (by omega); omega
      · by_cases h2 : 2 < n
        · simp only [h2, if_true]; omega
        · simp only [h2, if_false]; have := c (by omega); omega
theorem mons_sorted (n ord d : Nat) : (mons n ord d).Pairwise (bef ord) := by
  unfold mons
  by_cases ho : ord = 0
  · rw [if_pos ho, List.pairwise_flatMap]
    refine ⟨fun z _ => ?_, ?_⟩
    · rw [List.pairwise_map]
      exact List.pairwise_lt_range.imp (fun h => by simp [bef, ho, h])
    · refine List.pairwise_lt_range.imp (fun {a b} h => ?_)
      intro x hx y hy
      obtain ⟨i, -, rfl⟩ := List.mem_map.mp hx
      obtain ⟨j, -, rfl⟩ := List.mem_map.mp hy
      simp only [bef, ho, if_true]; exact Or.inl h
  · rw [if_neg ho, List.pairwise_flatMap]
    refine ⟨fun s _ => ?_, ?_⟩
    · rw [List.pairwise_map]
      refine List.pairwise_iff_getElem.mpr ?_
      intro i j hi hj hij
      simp only [List.getElem_range]
      simp only [List.length_range] at hi hj
      have hb : (if 2 < n then s else 0) ≤ s := by split <;> omega
      simp only [bef, ho, if_false]
      right
      constructor <;> omega
    · refine List.pairwise_lt_range.imp (fun {a b} h => ?_)
      intro x hx y hy
      obtain ⟨i, hi, rfl⟩ := List.mem_map.mp hx
      obtain ⟨j, hj, rfl⟩ := List.mem_map.mp hy
      have hi := List.mem_range.mp hi
      have hj := List.mem_range.mp hj
      have hb1 : (if 2 < n then a else 0) ≤ a := by split <;> omega
      have hb2 : (if 2 < n then b else 0) ≤ b := by split <;> omega
      simp only [bef, ho, if_false]
      left; omega
theorem bef_irr (ord : Nat) (m : Mo2) : ¬ bef ord m m := by
  unfold bef; split <;> omega
theorem bef_trans {ord : Nat} {a b c : Mo2} (h1 : bef ord a b) (h2 : bef ord b c) : bef ord a c := by
  unfold bef at *; split at h1 <;> rename_i h <;> simp only [h, if_true, if_false] at h2 ⊢ <;> omega
theorem bef_tot {ord : Nat} {a b : Mo2} (h : a ≠ b) : bef ord a b ∨ bef ord b a := by
  obtain ⟨a1, a2⟩ := a
  obtain ⟨b1, b2⟩ := b
  have h : ¬ (a1 = b1 ∧ a2 = b2) := fun q => h (by rw [q.1, q.2])
  unfold bef; split <;> simp only <;> omega
/-- both sides times a product -/
theorem bef_mul {ord : Nat} {a b c : Mo2} : bef ord (a.1 + c.1, a.2 + c.2) (b.1 + c.1, b.2 + c.2) ↔ bef ord a b := by
  unfold bef; split <;> simp only <;> omega
def nM (n ord d : Nat) : Nat := (mons n ord d).length
/-- the product at a position -/
def atm (n ord d i : Nat) : Mo2 := (mons n ord d).getD i (0, 0)
theorem atm_ok {n ord d i : Nat} (h : i < nM n ord d) : okm n d (atm n ord d i) := by
  rw [← mem_mons (ord := ord), atm, List.getD_eq_getElem?_getD, List.getElem?_eq_getElem h]
  exact List.getElem_mem h
theorem atm_bef {n ord d i j : Nat} (hj : j < nM n ord d) (h : i < j) : bef ord (atm n ord d i) (atm n ord d j) := by
  have hs := List.pairwise_iff_getElem.mp (mons_sorted n ord d) i j (Nat.lt_trans h hj) hj h
  rw [atm, atm, List.getD_eq_getElem?_getD, List.getD_eq_getElem?_getD, List.getElem?_eq_getElem (Nat.lt_trans h hj), List.getElem?_eq_getElem hj]
  exact hs
theorem atm_lt {n ord d i j : Nat} (hi : i < nM n ord d) (hj : j < nM n ord d) : bef ord (atm n ord d i) (atm n ord d j) ↔ i < j := by
  constructor
  · intro h
    rcases Nat.lt_trichotomy i j with q | q | q
    · exact q
    · subst q; exact absurd h (bef_irr _ _)
    · exact absurd (bef_trans h (atm_bef hi q)) (bef_irr _ _)
  · exact atm_bef hj
theorem atm_inj {n ord d i j : Nat} (hi : i < nM n ord d) (hj : j < nM n ord d) (h : atm n ord d i = atm n ord d j) : i = j := by
  rcases Nat.lt_trichotomy i j with q | q | q
  · exact absurd (h ▸ atm_bef hj q) (bef_irr _ _)
  · exact q
  · exact absurd (h ▸ atm_bef hi q) (bef_irr _ _)
/-- the position of a product -/
def psm (n ord d : Nat) (m : Mo2) : Nat := (mons n ord d).idxOf m
theorem psm_lt {n ord d : Nat} {m : Mo2} (h : okm n d m) : psm n ord d m < nM n ord d := List.idxOf_lt_length_of_mem (mem_mons.mpr h)
theorem atm_psm {n ord d : Nat} {m : Mo2} (h : okm n d m) : atm n ord d (psm n ord d m) = m := by
  have hl := psm_lt (ord := ord) h
  rw [atm, List.getD_eq_getElem?_getD, List.getElem?_eq_getElem hl]
  exact List.getElem_idxOf hl
theorem psm_atm {n ord d i : Nat} (h : i < nM n ord d) : psm n ord d (atm n ord d i) = i := atm_inj (psm_lt (atm_ok h)) h (atm_psm (atm_ok h))
