/-! numbers modulo a prime, and rows that are filled -/
def sAll (I : Nat → Nat → Int32) (c : Nat) (f : Nat → Int32) : Nat → Nat → Int32 := fun a => if a = c then f else I a
theorem sAll_eq (I : Nat → Nat → Int32) (c : Nat) (f : Nat → Int32) : sAll I c f c = f := if_pos rfl
theorem sAll_ne {I : Nat → Nat → Int32} {c a : Nat} {f : Nat → Int32} (h : a ≠ c) : sAll I c f a = I a := if_neg h
theorem sAll_sAll (I : Nat → Nat → Int32) (c : Nat) (f g : Nat → Int32) : sAll (sAll I c f) c g = sAll I c g := by
  funext a; unfold sAll; by_cases h : a = c <;> simp [h]
theorem u2_sAll (I : Nat → Nat → Int32) (c : Nat) (f : Nat → Int32) (k : Nat) (v : Int32) : u2 (sAll I c f) c k v = sAll I c (upd f k v) := by
  funext a; unfold u2 sAll; by_cases h : a = c <;> simp [h]
theorem u2_s (I : Nat → Nat → Int32) (c k : Nat) (v : Int32) : u2 I c k v = sAll I c (upd (I c) k v) := rfl
theorem sAll_self (I : Nat → Nat → Int32) (c : Nat) : sAll I c (I c) = I := by
  funext a; unfold sAll; by_cases h : a = c <;> simp [h]
theorem upd_eq (f : Nat → Int32) (k : Nat) (v : Int32) : upd f k v k = v := pk_us
theorem upd_ne {f : Nat → Int32} {k j : Nat} {v : Int32} (h : j ≠ k) : upd f k v j = f j := pk_un h
theorem sp_fill2 {M : Mem} {I : Nat → Nat → Int32} {c n : Nat} {v : Int32} {post : Mem → Prop} (ha : arr M c 8 n) (hn : n < 2147483648) (h : post (wI M (sAll I c (fun j => if j < n then v else I c j)))) : T_Ar_fill2 c v (wI M I) post := by
  refine ⟨ha.1, ?_⟩
  rw [ln_wI, ha.2]
  have key : ∀ r i, i + r = n → L_Ar_fill2_5 post (r + 1) c v (nI i) (nI n) (wI M (sAll I c (fun j => if j < i then v else I c j))) := by
    intro r
    induction r with
    | zero =>
      intro i hi
      have e : i = n := by omega
      subst e
      show B_Ar_fill2_5 _ post c v (nI i) (nI i) _
      unfold B_Ar_fill2_5
      simp (disch := omega) only [lit_nI, nI_add, pk_mul, pk_sub, pk_div, rem_n, nI_clamp, nI_leI, nI_ltI, nI_eq, in_nI]
      exact ⟨fun _ => h, fun q => absurd (Nat.le_refl _) q⟩
    | succ r ih =>
      intro i hi
      show B_Ar_fill2_5 (L_Ar_fill2_5 post (r + 1)) post c v (nI i) (nI n) _
      unfold B_Ar_fill2_5
      simp (disch := omega) only [lit_nI, nI_add, pk_mul, pk_sub, pk_div, rem_n, nI_clamp, nI_leI, nI_ltI, nI_eq, in_nI]
      refine ⟨fun q => absurd q (by omega), fun _ => ⟨arr_A ha (by omega) hn, ?_⟩⟩
      rw [sI_wI, u2_sAll]
      have e : upd (fun j => if j < i then v else I c j) i v = fun j => if j < i + 1 then v else I c j := by
        funext j
        by_cases q : j = i
        · subst q; rw [upd_eq, if_pos (by omega)]
        · rw [upd_ne q]
          by_cases z : j < i
          · rw [if_pos z, if_pos (by omega)]
          · rw [if_neg z, if_neg (by omega)]
      rw [e]
      exact ih (i + 1) (by omega)
  have := key n 0 (by omega)
  have e : (fun j => if j < 0 then v else I c j) = I c := by funext j; rw [if_neg (by omega)]
  rw [e, sAll_self] at this
  exact ⟨_, this⟩
theorem sp_fill4 {M : Mem} {I : Nat → Nat → Int32} {c n a b : Nat} {v : Int32} {post : Mem → Prop} (ha : arr M c 8 n) (hn : n < 2147483648) (hab : a ≤ b) (hb : b ≤ n) (h : post (wI M (sAll I c (fun j => if a ≤ j ∧ j < b then v else I c j)))) : T_Ar_fill4 c (nI a) (nI b) v (wI M I) post := by
  refine ⟨ha.1, ?_⟩
  rw [ln_wI, ha.2]
  unfold T_Ar_rangeCheck
  simp (disch := omega) only [lit_nI, nI_add, pk_mul, pk_sub, pk_div, rem_n, nI_clamp, nI_leI, nI_ltI, nI_eq, in_nI]
  refine ⟨fun _ => ⟨fun _ => ⟨fun _ => ?_, fun q => absurd hb q⟩, fun q => absurd (Nat.zero_le _) q⟩, fun q => absurd hab q⟩
  have key : ∀ r i, a ≤ i → i + r = b → L_Ar_fill4_10 post (r + 1) c (nI b) v (nI i) (wI M (sAll I c (fun j => if a ≤ j ∧ j < i then v else I c j))) := by
    intro r
    induction r with
    | zero =>
      intro i h1 hi
      have e : i = b := by omega
      subst e
      show B_Ar_fill4_10 _ post c (nI i) v (nI i) _
      unfold B_Ar_fill4_10
      simp (disch := omega) only [lit_nI, nI_add, pk_mul, pk_sub, pk_div, rem_n, nI_clamp, nI_leI, nI_ltI, nI_eq, in_nI]
      exact ⟨fun _ => h, fun q => absurd (Nat.le_refl _) q⟩
    | succ r ih =>
      intro i h1 hi
      show B_Ar_fill4_10 (L_Ar_fill4_10 post (r + 1)) post c (nI b) v (nI i) _
      unfold B_Ar_fill4_10
      simp (disch := omega) only [lit_nI, nI_add, pk_mul, pk_sub, pk_div, rem_n, nI_clamp, nI_leI, nI_ltI, nI_eq, in_nI]
      refine ⟨fun q => absurd q (by omega), fun _ => ⟨arr_A ha (by omega) hn, ?_⟩⟩
      rw [sI_wI, u2_sAll]
      have e : upd (fun j => if a ≤ j ∧ j < i then v else I c j) i v = fun j => if a ≤ j ∧ j < i + 1 then v else I c j := by
        funext j
        by_cases q : j = i
        · subst q; rw [upd_eq, if_pos (by omega)]
        · rw [upd_ne q]
          by_cases z : a ≤ j ∧ j < i
          · rw [if_pos z, if_pos (by omega)]
          · rw [if_neg z, if_neg (by omega)]
      rw [e]
      exact ih (i + 1) (by omega) (by omega)
  have := key (b - a) a (Nat.le_refl _) (by omega)
  have e : (fun j => if a ≤ j ∧ j < a then v else I c j) = I c := by funext j; rw [if_neg (by omega)]
  rw [e, sAll_self] at this
  exact ⟨_, this⟩
theorem sp_max {a b : Nat} {M : Mem} {post : Int32 → Mem → Prop} (ha : a < 2147483648) (hb : b < 2147483648) (h : post (nI (max a b)) M) : T_Ma_max (nI a) (nI b) M post := by
  unfold T_Ma_max B_Ma_max_10
  simp (disch := omega) only [lit_nI, nI_add, pk_mul, pk_sub, pk_div, rem_n, nI_clamp, nI_leI, nI_ltI, nI_eq, in_nI]
  refine ⟨fun q => ?_, fun q => ?_⟩
  · rw [Nat.max_eq_right (by omega)] at h; exact h
  · rw [Nat.max_eq_left (by omega)] at h; exact h
theorem sp_min {a b : Nat} {M : Mem} {post : Int32 → Mem → Prop} (ha : a < 2147483648) (hb : b < 2147483648) (h : post (nI (min a b)) M) : T_Ma_min (nI a) (nI b) M post := by
  unfold T_Ma_min B_Ma_min_10
  simp (disch := omega) only [lit_nI, nI_add, pk_mul, pk_sub, pk_div, rem_n, nI_clamp, nI_leI, nI_ltI, nI_eq, in_nI]
  refine ⟨fun q => ?_, fun q => ?_⟩
  · rw [Nat.min_eq_right (by omega)] at h; exact h
  · rw [Nat.min_eq_left (by omega)] at h; exact h
/-! the rest modulo p of any number -/
theorem i32_bmod {z : Int} (h1 : -2147483648 ≤ z) (h2 : z < 2147483648) : z.bmod (2 ^ 32) = z := Int.bmod_eq_of_le (by omega) (by omega)
theorem i32_rng (x : Int32) : -2147483648 ≤ x.toInt ∧ x.toInt < 2147483648 := ⟨by have := x.le_toInt; simpa using this, by have := x.toInt_lt; simpa using this⟩
theorem i32_ext {x y : Int32} (h : x.toInt = y.toInt) : x = y := Int32.toInt_inj.mp h
theorem i32_abs (x : Int32) : (∃ a : Nat, a < 2147483648 ∧ x.toInt = a) ∨ ∃ a : Nat, 0 < a ∧ a ≤ 2147483648 ∧ x.toInt = -(a : Int) := by
  have r := i32_rng x
  rcases Int.lt_or_le x.toInt 0 with q | q
  · exact Or.inr ⟨x.toInt.natAbs, by omega, by omega, by omega⟩
  · exact Or.inl ⟨x.toInt.natAbs, by omega, by omega⟩
theorem i32_rem {x : Int32} {p : Nat} (hp : 1 < p) (hp2 : p < 1000) : (x - x / nI p * nI p).toInt = Int.tmod x.toInt p := by
  have e1 : (nI p).toInt = (p : Int) := nI_toInt (by omega)
  have key : ∀ q t : Int, x.toInt.tdiv p = q → x.toInt = q * p + t → -2147483648 ≤ q → q < 2147483648 → -2147483648 ≤ q * p → q * p < 2147483648 → -2147483648 ≤ t → t < 2147483648 → (x - x / nI p * nI p).toInt = t := by
    intro q t hq hx h1 h2 h3 h4 h5 h6
    have d1 : (x / nI p).toInt = q := by rw [Int32.toInt_div, e1, hq]; exact i32_bmod h1 h2
    have d2 : (x / nI p * nI p).toInt = q * p := by rw [Int32.toInt_mul, d1, e1]; exact i32_bmod h3 h4
    rw [Int32.toInt_sub, d2, hx]
    rw [show q * p + t - q * p = t by omega]
    exact i32_bmod h5 h6
  rcases i32_abs x with ⟨a, ha, hx⟩ | ⟨a, ha0, ha, hx⟩
  · have h1 := Nat.div_add_mod a p
    have h2 := Nat.mod_lt a (show 0 < p by omega)
    have h3 := Nat.div_le_self a p
    have h0 := Int.natCast_nonneg (a / p)
    have h4 := Nat.div_mul_le_self a p
    rw [hx, ← Int.ofNat_tmod]
    refine key ((a / p : Nat) : Int) _ (by rw [hx, ← Int.ofNat_tdiv]) ?_ (by omega) (by omega) ?_ ?_ (by omega) (by omega)
    · rw [hx, ← Int.natCast_mul, ← Int.natCast_add]; congr 1; rw [Nat.mul_comm]; exact h1.symm
    · rw [← Int.natCast_mul]; omega
    · rw [← Int.natCast_mul]; omega
  · have h1 := Nat.div_add_mod a p
    have h2 := Nat.mod_lt a (show 0 < p by omega)
    have h3 : a / p ≤ a / 2 := Nat.div_le_div_left (by omega) (by decide)
    have h0 := Int.natCast_nonneg (a / p)
    have h4 := Nat.div_mul_le_self a p
    rw [hx, Int.neg_tmod, ← Int.ofNat_tmod]
    refine key (-((a / p : Nat) : Int)) _ (by rw [hx, Int.neg_tdiv, ← Int.ofNat_tdiv]) ?_ (by omega) (by omega) ?_ ?_ (by omega) (by omega)
    · rw [hx, Int.neg_mul, ← Int.natCast_mul, ← Int.neg_add, ← Int.natCast_add]; congr 2; rw [Nat.mul_comm]; exact h1.symm
    · rw [Int.neg_mul, ← Int.natCast_mul]; omega
    · rw [Int.neg_mul, ← Int.natCast_mul]; omega
theorem i32_sign {x : Int32} {p : Nat} (hp : p < 1000) : 0 ≤ x ^^^ nI p ↔ 0 ≤ x.toInt := by
  have h : ∀ z : Int32, (0 ≤ z) ↔ z.toBitVec.msb = false := by
    intro z
    rw [Int32.le_iff_toInt_le, BitVec.msb_eq_toInt]
    have : z.toBitVec.toInt = z.toInt := rfl
    rw [this]
    have e0 : (0 : Int32).toInt = 0 := rfl
    rw [e0]
    simp
  have hpz : (nI p).toBitVec.msb = false := (h _).mp (by rw [Int32.le_iff_toInt_le, nI_toInt (by omega)]; show (0 : Int) ≤ p; omega)
  rw [h, Int32.toBitVec_xor, BitVec.msb_xor, hpz, Bool.xor_false, ← h, Int32.le_iff_toInt_le]
  rfl
/-- the rest modulo p -/
def md (p : Nat) (x : Int32) : Nat := (x.toInt % (p : Int)).toNat
theorem md_lt {p : Nat} (hp : 0 < p) (x : Int32) : md p x < p := by
  have h1 := Int.emod_nonneg x.toInt (show (p : Int) ≠ 0 by omega)
  have h2 := Int.emod_lt_of_pos x.toInt (show (0 : Int) < p by omega)
  unfold md; omega
theorem md_nI {p a : Nat} (ha : a < 2147483648) : md p (nI a) = a % p := by
  unfold md
  rw [nI_toInt ha, ← Int.natCast_emod]
  rfl
theorem sp_floorMod {x : Int32} {p : Nat} {M : Mem} {post : Int32 → Mem → Prop} (hp : 1 < p) (hp2 : p < 1000) (h : post (nI (md p x)) M) : T_Ma_floorMod x (nI p) M post := by
  unfold T_Ma_floorMod B_Ma_floorMod_18
  have hr := i32_rem (x := x) hp hp2
  have hpne : ¬ nI p = 0 := by rw [show (0 : Int32) = nI 0 from rfl, nI_eq (by omega) (by omega)]; omega
  have hz : ∀ y : Int32, y = 0 ↔ y.toInt = 0 := fun y => ⟨fun e => by rw [e]; rfl, fun e => i32_ext (by rw [e]; rfl)⟩
  refine ⟨hpne, fun q => ?_, fun q => ⟨fun z => ?_, fun z => ?_⟩⟩
  · rw [i32_sign (by omega)] at q
    have e : x - x / nI p * nI p = nI (md p x) := by
      refine i32_ext ?_
      rw [hr, nI_toInt (by have := md_lt (show 0 < p by omega) x; omega), Int.tmod_eq_emod_of_nonneg q]
      unfold md
      have := Int.emod_nonneg x.toInt (show (p : Int) ≠ 0 by omega)
      omega
    rw [e]; exact h
  · rw [i32_sign (by omega)] at q
    have e : x - x / nI p * nI p = nI (md p x) := by
      rw [z]
      rw [hz, hr] at z
      have h0 : x.toInt % (p : Int) = 0 := by
        rw [← Int.dvd_iff_emod_eq_zero, Int.dvd_iff_tmod_eq_zero]; exact z
      unfold md
      rw [h0]; rfl
    rw [e]; exact h
  · rw [i32_sign (by omega)] at q
    rw [hz, hr] at z
    have e : (x - x / nI p * nI p) + nI p = nI (md p x) := by
      refine i32_ext ?_
      have h1 : Int.tmod x.toInt p + p = x.toInt % (p : Int) := by
        rcases i32_abs x with ⟨a, ha, hx⟩ | ⟨a, ha0, ha, hx⟩
        · omega
        · rw [hx, Int.neg_tmod, ← Int.ofNat_tmod] at z ⊢
          have h2 := Nat.mod_lt a (show 0 < p by omega)
          have h3 : a % p ≠ 0 := fun e => z (by rw [e]; rfl)
          have h4 : (-(a : Int)) % (p : Int) = (p : Int) - ((a % p : Nat) : Int) := by
            have h5 := Nat.div_add_mod a p
            have : (-(a : Int)) = ((p : Int) - ((a % p : Nat) : Int)) + (p : Int) * (-((a / p : Nat) : Int) - 1) := by
              have h6 : (a : Int) = (p : Int) * ((a / p : Nat) : Int) + ((a % p : Nat) : Int) := by rw [← Int.natCast_mul, ← Int.natCast_add]; congr 1; exact h5.symm
              rw [Int.mul_sub, Int.mul_neg, Int.mul_one]; omega
            rw [this, Int.add_mul_emod_self_left, Int.emod_eq_of_lt (by omega) (by omega)]
          rw [h4]; omega
      have h2 := Int.emod_nonneg x.toInt (show (p : Int) ≠ 0 by omega)
      have h3 := Int.emod_lt_of_pos x.toInt (show (0 : Int) < p by omega)
      rw [Int32.toInt_add, hr, nI_toInt (show p < 2147483648 by omega), h1, i32_bmod (by omega) (by omega), nI_toInt (by have := md_lt (show 0 < p by omega) x; omega)]
      unfold md; omega
    rw [e]; exact h
