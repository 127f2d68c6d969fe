/-! products of polynomials, and sums of them -/
def mulP {p : Nat} [NeZero p] (n ord : Nat) (F : Nat → Mo2 → Fin p) (b : Nat) (g : Mo2 → Fin p) : Nat → Mo2 → Fin p := fun e => if b ≤ e then prodm n ord (e - b) (F (e - b)) g else fun _ => 0
def sumP {p : Nat} [NeZero p] (n ord : Nat) (H : Hp p) (C : Nat → Nat → Mo2 → Fin p) (i : Nat) : Nat → Mo2 → Fin p := fun e m => sm (fun r => mulP n ord (C r) (H.2.1 r) (H.2.2 r) e m) i
theorem prodm_0 {p : Nat} [NeZero p] (n ord d : Nat) (g : Mo2 → Fin p) : prodm n ord d (fun _ => 0) g = fun _ => 0 := by
  funext m
  exact sm_none (fun j _ => by grind)
theorem prodm_hom {p : Nat} [NeZero p] {n ord a b : Nat} {f g : Mo2 → Fin p} (hg : hom n b g) : hom n (a + b) (prodm n ord a f g) := by
  intro m hm
  by_cases q : okm n (a + b) m
  · exact q
  · exfalso
    apply hm
    refine sm_none (fun j hj => ?_)
    by_cases z : mulm (atm n ord a j) g m = 0
    · rw [z]; grind
    · have := hom_mulm hg (atm_ok hj) m z
      rw [Nat.add_comm] at this
      exact absurd this q
theorem mulP_hom {p : Nat} [NeZero p] {n ord b : Nat} {F : Nat → Mo2 → Fin p} {g : Mo2 → Fin p} (hg : hom n b g) (e : Nat) : hom n e (mulP n ord F b g e) := by
  unfold mulP
  by_cases q : b ≤ e
  · rw [if_pos q]
    have := prodm_hom (ord := ord) (a := e - b) (f := F (e - b)) hg
    rw [Nat.sub_add_cancel q] at this
    exact this
  · rw [if_neg q]; exact Dhom0
theorem mulP_one {p : Nat} [NeZero p] (n ord a b : Nat) (f g : Mo2 → Fin p) : mulP n ord (oneP a f) b g = oneP (a + b) (prodm n ord a f g) := by
  funext e
  unfold mulP oneP
  by_cases q : b ≤ e
  · rw [if_pos q]
    by_cases z : e = a + b
    · subst z
      rw [if_pos rfl, Nat.add_sub_cancel, if_pos rfl]
    · rw [if_neg z, if_neg (by omega), prodm_0]
  · rw [if_neg q, if_neg (by omega)]
theorem sumP_hom {p : Nat} [NeZero p] {n ord : Nat} {H : Hp p} {C : Nat → Nat → Mo2 → Fin p} {i : Nat} (hH : ∀ r, r < i → hom n (H.2.1 r) (H.2.2 r)) (e : Nat) : hom n e (sumP n ord H C i e) := by
  intro m hm
  by_cases q : okm n e m
  · exact q
  · exfalso
    apply hm
    refine sm_none (fun r hr => ?_)
    by_cases z : mulP n ord (C r) (H.2.1 r) (H.2.2 r) e m = 0
    · exact z
    · exact absurd (mulP_hom (hH r hr) e m z) q
