/-! the base: moved elements -/
def Elem {p : Nat} [NeZero p] (n ord : Nat) (G : Nat → (Mo2 → Fin p) → Prop) (dk : Nat) (h : Mo2) (g : Mo2 → Fin p) : Prop := okm n dk h ∧ VP n G dk g ∧ g h = 1 ∧ ∀ m, g m ≠ 0 → m = h ∨ bef ord h m
/-- the product h of degree dk divides m of degree d -/
def divm (dk : Nat) (h : Mo2) (d : Nat) (m : Mo2) : Prop := h.1 ≤ m.1 ∧ h.2 ≤ m.2 ∧ dk + m.1 + m.2 ≤ d + h.1 + h.2
def mv {p : Nat} [NeZero p] (m h : Mo2) (g : Mo2 → Fin p) : Mo2 → Fin p := mulm (m.1 - h.1, m.2 - h.2) g
theorem divm_q {n dk d : Nat} {h m : Mo2} (hm : okm n d m) (hd : divm dk h d m) : dk ≤ d ∧ okm n (d - dk) (m.1 - h.1, m.2 - h.2) := by
  obtain ⟨a, b, c⟩ := hd
  obtain ⟨a', b', c'⟩ := hm
  refine ⟨by omega, ?_, ?_, ?_⟩ <;> simp only <;> omega
theorem mv_in {p : Nat} [NeZero p] {n ord : Nat} {G : Nat → (Mo2 → Fin p) → Prop} {dk d : Nat} {h m : Mo2} {g : Mo2 → Fin p} (hE : Elem n ord G dk h g) (hm : okm n d m) (hd : divm dk h d m) : VP n G d (mv m h g) := by
  obtain ⟨q1, q2⟩ := divm_q hm hd
  have := VP_up q2 g hE.2.1
  rw [show dk + (d - dk) = d by omega] at this
  exact this
theorem mv_at {p : Nat} [NeZero p] {n ord : Nat} {G : Nat → (Mo2 → Fin p) → Prop} {dk d : Nat} {h m : Mo2} {g : Mo2 → Fin p} (hE : Elem n ord G dk h g) (hd : divm dk h d m) : mv m h g m = 1 := by
  obtain ⟨a, b, c⟩ := hd
  unfold mv mulm
  rw [if_pos (by simp only; omega)]
  have e : ((m.1 - (m.1 - h.1), m.2 - (m.2 - h.2)) : Mo2) = h := by
    obtain ⟨h1, h2⟩ := h
    simp only [Prod.mk.injEq]; simp only at a b; omega
  simp only [e]; exact hE.2.2.1
theorem mv_bef {p : Nat} [NeZero p] {n ord : Nat} {G : Nat → (Mo2 → Fin p) → Prop} {dk d : Nat} {h m : Mo2} {g : Mo2 → Fin p} (hE : Elem n ord G dk h g) (hd : divm dk h d m) {m' : Mo2} (h' : mv m h g m' ≠ 0) : m' = m ∨ bef ord m m' := by
  obtain ⟨a, b, c⟩ := hd
  unfold mv mulm at h'
  by_cases q : (m.1 - h.1, m.2 - h.2).1 ≤ m'.1 ∧ (m.1 - h.1, m.2 - h.2).2 ≤ m'.2
  · rw [if_pos q] at h'
    rcases hE.2.2.2 _ h' with e | e
    · left
      obtain ⟨m1, m2⟩ := m'
      obtain ⟨h1, h2⟩ := h
      simp only [Prod.mk.injEq] at e q
      obtain ⟨a1, a2⟩ := m
      simp only [Prod.mk.injEq]; simp only at a b e q; omega
    · right
      have e2 := (bef_mul (ord := ord) (a := h) (b := (m'.1 - (m.1 - h.1), m'.2 - (m.2 - h.2))) (c := (m.1 - h.1, m.2 - h.2))).mpr e
      have e3 : ((h.1 + (m.1 - h.1), h.2 + (m.2 - h.2)) : Mo2) = m := by
        obtain ⟨m1, m2⟩ := m
        simp only [Prod.mk.injEq]; simp only at a b; omega
      have e4 : ((m'.1 - (m.1 - h.1) + (m.1 - h.1), m'.2 - (m.2 - h.2) + (m.2 - h.2)) : Mo2) = m' := by
        obtain ⟨m1, m2⟩ := m'
        simp only [Prod.mk.injEq]; simp only at q; omega
      simp only [e3, e4] at e2
      exact e2
  · rw [if_neg q] at h'; exact absurd rfl h'
theorem mv_mulm {p : Nat} [NeZero p] {l m h : Mo2} {g : Mo2 → Fin p} (h1 : h.1 ≤ m.1) (h2 : h.2 ≤ m.2) : mulm l (mv m h g) = mv (l.1 + m.1, l.2 + m.2) h g := by
  unfold mv
  rw [mulm_mulm]
  congr 1
  simp only [Prod.mk.injEq]; omega
theorem mv_vec0 {p : Nat} [NeZero p] {n ord : Nat} {G : Nat → (Mo2 → Fin p) → Prop} {dk d : Nat} {h m : Mo2} {g : Mo2 → Fin p} (hE : Elem n ord G dk h g) (hm : okm n d m) (hd : divm dk h d m) : vec n ord d (mv m h g) (psm n ord d m) = 1 ∧ ∀ j, j < psm n ord d m → vec n ord d (mv m h g) j = 0 := by
  refine ⟨?_, fun j hj => ?_⟩
  · unfold vec
    rw [if_pos (psm_lt hm), atm_psm hm]; exact mv_at hE hd
  · have hjN := Nat.lt_trans hj (psm_lt hm)
    unfold vec
    rw [if_pos hjN]
    by_cases q : mv m h g (atm n ord d j) = 0
    · exact q
    · rcases mv_bef hE hd q with e | e
      · rw [← e, psm_atm hjN] at hj; omega
      · have e := (atm_lt (psm_lt hm) hjN).mp (by rw [atm_psm hm]; exact e)
        omega
theorem divm_up {dk d : Nat} {h m l : Mo2} {n : Nat} (hl : okm n 1 l) (hd : divm dk h d m) : divm dk h (d + 1) (l.1 + m.1, l.2 + m.2) := by
  obtain ⟨a, b, c⟩ := hd
  have := hl.1
  refine ⟨?_, ?_, ?_⟩ <;> simp only <;> omega
/-- sums -/
def sm {p : Nat} [NeZero p] (f : Nat → Fin p) : Nat → Fin p
  | 0 => 0
  | n + 1 => sm f n + f n
theorem sm_cong {p : Nat} [NeZero p] {f g : Nat → Fin p} : ∀ {n : Nat}, (∀ i, i < n → f i = g i) → sm f n = sm g n
  | 0, _ => rfl
  | n + 1, h => by
    show sm f n + f n = sm g n + g n
    rw [sm_cong (fun i hi => h i (by omega)), h n (by omega)]
theorem sm_0 {p : Nat} [NeZero p] : ∀ n : Nat, sm (fun _ => (0 : Fin p)) n = 0
  | 0 => rfl
  | n + 1 => by
    show sm (fun _ => (0 : Fin p)) n + 0 = 0
    rw [sm_0 n]; grind
theorem sm_add {p : Nat} [NeZero p] (f g : Nat → Fin p) : ∀ n, sm (fun i => f i + g i) n = sm f n + sm g n
  | 0 => by show (0 : Fin p) = 0 + 0; grind
  | n + 1 => by
    show sm (fun i => f i + g i) n + (f n + g n) = sm f n + f n + (sm g n + g n)
    rw [sm_add f g n]; grind
theorem sm_mul {p : Nat} [NeZero p] (c : Fin p) (f : Nat → Fin p) : ∀ n, sm (fun i => c * f i) n = c * sm f n
  | 0 => by show (0 : Fin p) = c * 0; grind
  | n + 1 => by
    show sm (fun i => c * f i) n + c * f n = c * (sm f n + f n)
    rw [sm_mul c f n]; grind
theorem sm_swap {p : Nat} [NeZero p] (f : Nat → Nat → Fin p) (k : Nat) : ∀ n, sm (fun i => sm (f i) k) n = sm (fun j => sm (fun i => f i j) n) k
  | 0 => by
    show (0 : Fin p) = sm (fun _ => 0) k
    rw [sm_0]
  | n + 1 => by
    show sm (fun i => sm (f i) k) n + sm (f n) k = sm (fun j => sm (fun i => f i j) n + f n j) k
    rw [sm_swap f k n, sm_add]
theorem sm_one {p : Nat} [NeZero p] {f : Nat → Fin p} {i : Nat} : ∀ {n : Nat}, i < n → (∀ j, j < n → j ≠ i → f j = 0) → sm f n = f i
  | 0, h, _ => absurd h (Nat.not_lt_zero i)
  | n + 1, h, h0 => by
    show sm f n + f n = f i
    by_cases e : i = n
    · subst e
      rw [sm_cong (g := fun _ => 0) (fun j hj => h0 j (by omega) (by omega)), sm_0]; grind
    · rw [sm_one (n := n) (by omega) (fun j hj q => h0 j (by omega) q), h0 n (by omega) (fun q => e q.symm)]; grind
theorem sm_none {p : Nat} [NeZero p] {f : Nat → Fin p} {n : Nat} (h0 : ∀ j, j < n → f j = 0) : sm f n = 0 := by
  rw [sm_cong (g := fun _ => 0) h0, sm_0]
/-- the product of two, by the products of the first -/
def prodm {p : Nat} [NeZero p] (n ord d : Nat) (f g : Mo2 → Fin p) : Mo2 → Fin p := fun m => sm (fun i => f (atm n ord d i) * mulm (atm n ord d i) g m) (nM n ord d)
theorem mulm_sm {p : Nat} [NeZero p] {n ord e : Nat} {g : Mo2 → Fin p} (hg : hom n e g) (c m : Mo2) : mulm c g m = sm (fun j => if (c.1 + (atm n ord e j).1, c.2 + (atm n ord e j).2) = m then g (atm n ord e j) else 0) (nM n ord e) := by
  unfold mulm
  by_cases q : c.1 ≤ m.1 ∧ c.2 ≤ m.2
  · rw [if_pos q]
    by_cases z : g (m.1 - c.1, m.2 - c.2) = 0
    · rw [z, sm_none]
      intro j hj
      by_cases e2 : ((c.1 + (atm n ord e j).1, c.2 + (atm n ord e j).2) : Mo2) = m
      · rw [if_pos e2]
        have e3 : atm n ord e j = (m.1 - c.1, m.2 - c.2) := by
          rw [← e2]
          obtain ⟨a, b⟩ := atm n ord e j
          simp only [Prod.mk.injEq]; omega
        rw [e3]; exact z
      · rw [if_neg e2]
    · have ho := hg _ z
      rw [sm_one (i := psm n ord e (m.1 - c.1, m.2 - c.2)) (psm_lt ho)]
      · rw [atm_psm ho, if_pos]
        obtain ⟨a, b⟩ := m
        simp only [Prod.mk.injEq]; simp only at q; omega
      · intro j hj hne
        by_cases e2 : ((c.1 + (atm n ord e j).1, c.2 + (atm n ord e j).2) : Mo2) = m
        · exfalso
          apply hne
          have e3 : atm n ord e j = (m.1 - c.1, m.2 - c.2) := by
            rw [← e2]
            obtain ⟨a, b⟩ := atm n ord e j
            simp only [Prod.mk.injEq]; omega
          rw [← e3, psm_atm hj]
        · rw [if_neg e2]
  · rw [if_neg q, sm_none]
    intro j hj
    rw [if_neg]
    intro e2
    apply q
    rw [← e2]; simp only; omega
theorem prodm_comm {p : Nat} [NeZero p] {n ord d e : Nat} {f g : Mo2 → Fin p} (hf : hom n d f) (hg : hom n e g) : prodm n ord d f g = prodm n ord e g f := by
  funext m
  unfold prodm
  have h1 : ∀ i, i < nM n ord d → f (atm n ord d i) * mulm (atm n ord d i) g m = sm (fun j => f (atm n ord d i) * (if ((atm n ord d i).1 + (atm n ord e j).1, (atm n ord d i).2 + (atm n ord e j).2) = m then g (atm n ord e j) else 0)) (nM n ord e) := by
    intro i hi
    rw [mulm_sm (ord := ord) hg, sm_mul]
  rw [sm_cong h1, sm_swap]
  refine sm_cong (fun j hj => ?_)
  rw [mulm_sm (ord := ord) hf, ← sm_mul]
  refine sm_cong (fun i hi => ?_)
  by_cases q : ((atm n ord d i).1 + (atm n ord e j).1, (atm n ord d i).2 + (atm n ord e j).2) = m
  · rw [if_pos q, if_pos (by rw [← q]; simp only [Prod.mk.injEq]; omega)]; grind
  · rw [if_neg q, if_neg (fun z => q (by rw [← z]; simp only [Prod.mk.injEq]; omega))]; grind
/-- the product is its head's part, and parts behind that -/
theorem prodm_split {p : Nat} [NeZero p] {n ord d : Nat} {f g : Mo2 → Fin p} {h : Mo2} (hh : okm n d h) (h1 : f h = 1) {W : (Mo2 → Fin p) → Prop} (hW : Sub W) (hb : ∀ m, okm n d m → f m ≠ 0 → m = h ∨ W (mulm m g)) : W (fun m => prodm n ord d f g m - mulm h g m) := by
  have key : ∀ k, W (fun m => sm (fun i => if i = psm n ord d h then 0 else (if i < nM n ord d then f (atm n ord d i) * mulm (atm n ord d i) g m else 0)) k) := by
    intro k
    induction k with
    | zero => exact hW.1
    | succ k ih =>
      show W (fun m => sm _ k + (if k = psm n ord d h then 0 else (if k < nM n ord d then f (atm n ord d k) * mulm (atm n ord d k) g m else 0)))
      by_cases e : k = psm n ord d h
      · simp only [if_pos e]
        have := hW.add ih hW.1
        exact this
      · simp only [if_neg e]
        by_cases q : k < nM n ord d
        · simp only [if_pos q]
          by_cases z : f (atm n ord d k) = 0
          · have := hW.add ih hW.1
            simp only [z]
            have e3 : (fun m => sm (fun i => if i = psm n ord d h then 0 else (if i < nM n ord d then f (atm n ord d i) * mulm (atm n ord d i) g m else 0)) k + 0 * mulm (atm n ord d k) g m) = (fun m => sm (fun i => if i = psm n ord d h then 0 else (if i < nM n ord d then f (atm n ord d i) * mulm (atm n ord d i) g m else 0)) k + 0) := by
              funext m; grind
            rw [e3]; exact this
          · rcases hb _ (atm_ok q) z with w | w
            · exact absurd (by rw [← w, psm_atm q]) e
            · exact hW.2 _ _ _ ih w
        · simp only [if_neg q]
          exact hW.add ih hW.1
  have e : (fun m => prodm n ord d f g m - mulm h g m) = fun m => sm (fun i => if i = psm n ord d h then 0 else (if i < nM n ord d then f (atm n ord d i) * mulm (atm n ord d i) g m else 0)) (nM n ord d) := by
    funext m
    have a : prodm n ord d f g m = sm (fun i => (if i = psm n ord d h then 0 else (if i < nM n ord d then f (atm n ord d i) * mulm (atm n ord d i) g m else 0)) + (if i = psm n ord d h then mulm h g m else 0)) (nM n ord d) := by
      unfold prodm
      refine sm_cong (fun i hi => ?_)
      by_cases e : i = psm n ord d h
      · rw [if_pos e, if_pos e, e, atm_psm hh, h1]; grind
      · rw [if_neg e, if_neg e, if_pos hi]; grind
    rw [a, sm_add, sm_one (f := fun i => if i = psm n ord d h then mulm h g m else 0) (psm_lt hh) (fun j _ q => if_neg q), if_pos rfl]
    grind
  rw [e]; exact key _
