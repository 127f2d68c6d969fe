/-! the reference's matrices, and what they are the rows of -/
theorem Dim_kereq {ι κ μ : Type} {p : Nat} [NeZero p] (hF : isField p) {V : (ι → Fin p) → Prop} (hV : Sub V) {T : (ι → Fin p) → κ → Fin p} {S : (ι → Fin p) → μ → Fin p} (hT : Lin T) (hS : Lin S) {k a b : Nat} (h1 : Dim V k) (h2 : Dim (img T V) a) (h3 : Dim (img S V) b) (h : ∀ v, V v → ((∀ i, T v i = 0) ↔ ∀ i, S v i = 0)) : a = b := by
  obtain ⟨q1, q2⟩ := Dim_ker hF hV hT h1 h2
  obtain ⟨q3, q4⟩ := Dim_ker hF hV hS h1 h3
  have hs : Sub (fun v => V v ∧ ∀ i, S v i = 0) := ⟨⟨hV.1, fun i => hS.z i⟩, fun u v c hu hv => ⟨hV.2 u v c hu.1 hv.1, fun i => by rw [hS u v c i, hu.2 i, hv.2 i]; grind⟩⟩
  have := Dim_fun hF hs (Dim_cong (fun v => ⟨fun ⟨z1, z2⟩ => ⟨z1, (h v z1).mp z2⟩, fun ⟨z1, z2⟩ => ⟨z1, (h v z1).mpr z2⟩⟩) q2) q4
  omega
theorem img_spn {ι κ : Type} {p : Nat} [NeZero p] {T : (ι → Fin p) → κ → Fin p} (hT : Lin T) (S : (ι → Fin p) → Prop) (w : κ → Fin p) : img T (Spn S) w ↔ Spn (fun s => ∃ v, S v ∧ s = T v) w := by
  have hz : T (fun _ => 0) = fun _ => 0 := funext (fun i => hT.z i)
  constructor
  · rintro ⟨v, hv, hw⟩
    have : w = T v := funext hw
    rw [this]
    refine Spn_le (V := fun v => Spn (fun s => ∃ v, S v ∧ s = T v) (T v)) ⟨?_, fun u v c hu hv => ?_⟩ (fun s hs => Spn_of ⟨s, hs, rfl⟩) v hv
    · show Spn _ (T (fun _ => 0))
      rw [hz]; exact (Spn_sub _).1
    · show Spn _ (T (fun i => u i + c * v i))
      have : T (fun i => u i + c * v i) = fun i => T u i + c * T v i := funext (fun i => hT u v c i)
      rw [this]; exact (Spn_sub _).2 _ _ c hu hv
  · intro hw
    refine Spn_le (img_sub hT (Spn_sub S)) (fun s hs => ?_) w hw
    obtain ⟨v, hv, rfl⟩ := hs
    exact ⟨v, Spn_of hv, fun _ => rfl⟩
theorem Sup_spn {ι : Type} {p : Nat} [NeZero p] {S : (ι → Fin p) → Prop} {N : Nat} {dc : Nat → ι} (h : Sup S N dc) : Sup (Spn S) N dc := by
  intro v hv x hx
  apply Classical.byContradiction
  intro hn
  apply hx
  refine Spn_le (V := fun v => v x = 0) ⟨rfl, fun a b c ha hb => ?_⟩ (fun s hs => ?_) v hv
  · show a x + c * b x = 0
    rw [ha, hb]; grind
  · by_cases z : s x = 0
    · exact z
    · exact absurd (h s hs x z) hn
/-- number x of the positions of Q -/
def nth (Q : Nat → Bool) : Nat → Nat → Nat
  | 0, _ => 0
  | N + 1, x => if Q N = true ∧ ct Q N = x then N else nth Q N x
theorem nth_ok {Q : Nat → Bool} : ∀ {N x : Nat}, x < ct Q N → nth Q N x < N ∧ Q (nth Q N x) = true ∧ ct Q (nth Q N x) = x := by
  intro N
  induction N with
  | zero => intro x h; exact absurd h (Nat.not_lt_zero x)
  | succ N ih =>
    intro x h
    unfold nth
    by_cases q : Q N = true ∧ ct Q N = x
    · rw [if_pos q]; exact ⟨by omega, q.1, q.2⟩
    · rw [if_neg q]
      have hx : x < ct Q N := by
        cases z : Q N
        · rw [ct_succ_f z] at h; exact h
        · rw [ct_succ_t z] at h
          have : ct Q N ≠ x := fun e => q ⟨z, e⟩
          omega
      have := ih hx
      exact ⟨by omega, this.2⟩
theorem ct_uni {Q : Nat → Bool} {i j : Nat} (hi : Q i = true) (hj : Q j = true) (h : ct Q i = ct Q j) : i = j := ct_inj hi hj (by rw [ct_succ_t hi, ct_succ_t hj, h])
theorem nth_ct {Q : Nat → Bool} {N s : Nat} (hs : s < N) (hQ : Q s = true) : nth Q N (ct Q s) = s := by
  have h1 : ct Q s < ct Q N := by
    have := ct_up (Q := Q) (show s + 1 ≤ N from hs)
    rw [ct_succ_t hQ] at this
    omega
  have := nth_ok h1
  exact ct_uni this.2.1 hQ this.2.2
section ST
variable {p n ord d : Nat}
/-- the rest of one product -/
theorem rs_unit [NeZero p] {G : Nat → (Mo2 → Fin p) → Prop} {P : Nat → Bool} {e : Nat → Nat → Fin p} (hG : ∀ e g, G e g → hom n e g) (hE : Ech (nM n ord d) (VV n ord d (VP n G d)) P e) (hR : Rref P e) {q k : Nat} (hq : q < nM n ord d) (hk : k < nM n ord d) (hP : P k = false) : rstf n ord d P e (dl (atm n ord d q)) (atm n ord d k) = if P q = true then 0 - e q k else if k = q then 1 else 0 := by
  have hVs : Sub (VV n ord d (VP n G d)) := VV_sub (VP_sub _ _ _)
  have hVr : inRange (nM n ord d) (VV n ord d (VP n G d)) := VV_range _
  have hdl := dl_hom (p := p) (atm_ok hq)
  obtain ⟨⟨s1, s2⟩, s3⟩ := rst_ok hG hE hdl
  have hu : VV n ord d (VP n G d) (fun i => vec n ord d (dl (atm n ord d q)) i - vec n ord d (rstf n ord d P e (dl (atm n ord d q))) i) := by
    rw [← vec_sub]; exact ⟨_, s3, rfl⟩
  have hdv : ∀ i, vec n ord d (dl (p := p) (atm n ord d q)) i = if i = q then 1 else 0 := fun i => by
    unfold vec dl
    by_cases z : i < nM n ord d
    · rw [if_pos z]
      by_cases y : i = q
      · rw [y, if_pos rfl, if_pos rfl]
      · rw [if_neg (fun w => y (atm_inj z hq w)), if_neg y]
    · rw [if_neg z, if_neg (by omega)]
  have hw : VV n ord d (VP n G d) (fun i => vec n ord d (dl (atm n ord d q)) i - (if P i = true then 0 else if P q = true then 0 - e q i else if i = q then 1 else 0)) := by
    by_cases y : P q = true
    · have h1 := (hE.1 q y).2.1
      have e0 : (fun i => vec n ord d (dl (p := p) (atm n ord d q)) i - (if P i = true then 0 else if P q = true then 0 - e q i else if i = q then 1 else 0)) = e q := by
        funext i
        rw [hdv i]
        by_cases z : P i = true
        · rw [if_pos z]
          by_cases x : i = q
          · rw [if_pos x, x, (hE.1 q y).2.2.1]; grind
          · rw [if_neg x, hR q i y z (Ne.symm x)]; grind
        · rw [if_neg z, if_pos y, if_neg (fun x => z (by rw [x]; exact y))]; grind
      rw [e0]; exact h1
    · have e0 : (fun i => vec n ord d (dl (p := p) (atm n ord d q)) i - (if P i = true then 0 else if P q = true then 0 - e q i else if i = q then 1 else 0)) = fun _ => 0 := by
        funext i
        rw [hdv i, if_neg y]
        by_cases z : P i = true
        · rw [if_pos z, if_neg (fun x => y (by rw [← x]; exact z))]; grind
        · rw [if_neg z]; grind
      rw [e0]; exact hVs.1
  have hd := hVs.sub hw hu
  have e1 : (fun i => (vec n ord d (dl (p := p) (atm n ord d q)) i - (if P i = true then 0 else if P q = true then 0 - e q i else if i = q then 1 else 0)) - (vec n ord d (dl (atm n ord d q)) i - vec n ord d (rstf n ord d P e (dl (atm n ord d q))) i)) = fun i => vec n ord d (rstf n ord d P e (dl (atm n ord d q))) i - (if P i = true then 0 else if P q = true then 0 - e q i else if i = q then 1 else 0) := by
    funext i; grind
  rw [e1] at hd
  have := hE.rest1 hd (fun i hi => s2 i hi) (fun i hi => by rw [if_pos hi])
  have e2 := congrFun this k
  rw [if_neg (by rw [hP]; decide)] at e2
  have e3 : vec n ord d (rstf n ord d P e (dl (atm n ord d q))) k = rstf n ord d P e (dl (atm n ord d q)) (atm n ord d k) := by unfold vec; rw [if_pos hk]
  rw [e3] at e2
  exact e2
end ST
/-! sets of letters, by number -/
def onesN (t : Nat) : Nat := t % 2 + t / 2 % 2 + t / 4 % 2
def bitN (t l : Nat) : Bool := decide (t / 2 ^ l % 2 = 1)
def plN (t : Nat) : Nat := ct (fun o => decide (onesN o = onesN t)) t
def stN (n i : Nat) : Nat := ct (fun t => decide (onesN t = i)) (2 ^ n)
def oppN (t l : Nat) : Bool := decide (onesN ((t - 2 ^ l) % 2 ^ l) % 2 = 1)
theorem b_ones : ∀ t, t < 8 → ((nI t &&& 1) + (((nI t : Int32) >>> ((1 : Int32) &&& 31)) &&& 1)) + (((nI t : Int32) >>> ((2 : Int32) &&& 31)) &&& 1) = nI (onesN t) := by decide +kernel
theorem b_two : ∀ n, n < 4 → (1 : Int32) <<< ((nI n : Int32) &&& 31) = nI (2 ^ n) := by decide +kernel
theorem b_bit : ∀ t, t < 8 → ∀ l, l < 3 → (((nI t : Int32) >>> ((nI l : Int32) &&& 31)) &&& 1) = if bitN t l = true then 1 else 0 := by decide +kernel
theorem b_less : ∀ t, t < 8 → ∀ l, l < 3 → bitN t l = true → (nI t &&& (((1 : Int32) <<< ((nI l : Int32) &&& 31)) ^^^ ((-1)))) = nI (t - 2 ^ l) ∧ t - 2 ^ l < 8 := by decide +kernel
theorem b_opp : ∀ t, t < 8 → ∀ l, l < 3 → bitN t l = true → (nI (t - 2 ^ l) &&& (((1 : Int32) <<< ((nI l : Int32) &&& 31)) - 1)) = nI ((t - 2 ^ l) % 2 ^ l) ∧ (t - 2 ^ l) % 2 ^ l < 8 := by decide +kernel
theorem n_small : ∀ t, t < 8 → onesN t ≤ 3 ∧ plN t ≤ 2 := by decide +kernel
theorem n_two : ∀ n, n < 4 → 2 ^ n ≤ 8 := by decide +kernel
theorem n_set1 : ∀ n, n < 4 → ∀ t, t < 8 → t < 2 ^ n → plN t < stN n (onesN t) := by decide +kernel
theorem n_set2 : ∀ n, n < 4 → ∀ t, t < 8 → ∀ l, l < 3 → (decide (t < 2 ^ n) && decide (l < n) && bitN t l) = true → plN (t - 2 ^ l) < stN n (onesN t - 1) := by decide +kernel
theorem n_set3 : ∀ n, n < 4 → ∀ t, t < 8 → ∀ l, l < 3 → (decide (t < 2 ^ n) && decide (l < n) && bitN t l) = true → onesN (t - 2 ^ l) + 1 = onesN t := by decide +kernel
theorem n_inj : ∀ t, t < 8 → ∀ u, u < 8 → onesN t = onesN u → plN t = plN u → t = u := by decide +kernel
theorem n_onto : ∀ n, n < 4 → ∀ i, i < 4 → ∀ q, q < stN n i → ∃ t, t < 2 ^ n ∧ onesN t = i ∧ plN t = q := by decide +kernel
theorem n_st : ∀ n, n < 4 → stN n 0 = 1 ∧ stN n 1 = n ∧ stN n 2 = n * (n - 1) / 2 ∧ stN n 3 = n * (n - 1) * (n - 2) / 6 := by decide +kernel
