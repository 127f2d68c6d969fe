/-! the reference: numbers, products, its polynomials -/
def MdOK (M : Mem) : Prop := isK M 199 7 ∧ gR M 199 0 = some 200 ∧ gR M 199 6 = some 201 ∧ gR M 199 7 = some 202 ∧ gR M 199 9 = some 203 ∧ gR M 199 10 = some 204 ∧ gR M 199 11 = some 205 ∧ gR M 199 13 = some 206 ∧ gR M 199 14 = some 207 ∧ gR M 199 15 = some 208 ∧ gR M 199 17 = some 209 ∧ arr M 200 8 27951 ∧ arr M 201 8 66 ∧ arr M 202 8 1331 ∧ arr M 203 8 4356 ∧ arr M 204 8 66 ∧ arr M 205 9 66 ∧ arr M 206 9 1331 ∧ arr M 207 8 30000 ∧ arr M 208 8 66 ∧ arr M 209 8 66
def mdeg (m : Nat) : Nat := m / 121 + m / 11 % 11 + m % 11
def mmo (m : Nat) : Mo2 := (m / 11 % 11, m % 11)
/-- the reference's number of a product -/
def cdm (d : Nat) (q : Mo2) : Nat := 121 * (d - q.1 - q.2) + 11 * q.1 + q.2
theorem cdm_ok {d : Nat} {q : Mo2} (hd : d ≤ 10) (hq : q.1 + q.2 ≤ d) : cdm d q < 1331 ∧ mdeg (cdm d q) = d ∧ mmo (cdm d q) = q := by
  obtain ⟨y, z⟩ := q
  simp only at hq
  unfold cdm mdeg mmo
  simp only
  have e1 : (121 * (d - y - z) + 11 * y + z) / 121 = d - y - z := by omega
  have e2 : (121 * (d - y - z) + 11 * y + z) / 11 = 11 * (d - y - z) + y := by omega
  have e3 : (121 * (d - y - z) + 11 * y + z) % 11 = z := by omega
  have e4 : (11 * (d - y - z) + y) % 11 = y := by omega
  rw [e1, e2, e3, e4]
  exact ⟨by omega, by omega, rfl⟩
theorem mmo_ok {m : Nat} (hm : m < 1331) : (mmo m).1 + (mmo m).2 ≤ mdeg m ∧ cdm (mdeg m) (mmo m) = m := by
  unfold cdm mdeg mmo
  simp only
  constructor <;> omega
/-- the number at a product -/
def cf {p : Nat} [NeZero p] (F : Nat → Mo2 → Fin p) (m : Nat) : Fin p := if mdeg m ≤ 10 then F (mdeg m) (mmo m) else 0
theorem cf_at {p : Nat} [NeZero p] {F : Nat → Mo2 → Fin p} {d : Nat} {q : Mo2} (hd : d ≤ 10) (hq : q.1 + q.2 ≤ d) : cf F (cdm d q) = F d q := by
  have h := cdm_ok hd hq
  unfold cf; rw [h.2.1, h.2.2, if_pos hd]
/-- the polynomial k of the reference -/
def MRep {p : Nat} [NeZero p] (f : Nat → Int32) (k : Nat) (F : Nat → Mo2 → Fin p) : Prop := ∀ m, m < 1331 → f (1331 * k + m) = nI (cf F m).val
theorem MRep_kp {p : Nat} [NeZero p] {f g : Nat → Int32} {k : Nat} {F : Nat → Mo2 → Fin p} (h : ∀ m, m < 1331 → f (1331 * k + m) = g (1331 * k + m)) (hR : MRep g k F) : MRep f k F := fun m hm => by rw [h m hm, hR m hm]
theorem MRep_cong {p : Nat} [NeZero p] {f : Nat → Int32} {k : Nat} {F G : Nat → Mo2 → Fin p} (h : MRep f k F) (e : ∀ d, d ≤ 10 → ∀ m : Mo2, m.1 + m.2 ≤ d → F d m = G d m) : MRep f k G := fun m hm => by
  rw [h m hm]
  unfold cf
  by_cases q : mdeg m ≤ 10
  · rw [if_pos q, if_pos q, e _ q _ (mmo_ok hm).1]
  · rw [if_neg q, if_neg q]
theorem MRep_0 {p : Nat} [NeZero p] {f : Nat → Int32} {k : Nat} (h : ∀ m, m < 1331 → f (1331 * k + m) = 0) : MRep f k (fun _ _ => (0 : Fin p)) := fun m hm => by
  rw [h m hm]
  have : cf (fun _ _ => (0 : Fin p)) m = 0 := by unfold cf; split <;> rfl
  rw [this, show (0 : Fin p).val = 0 from Nat.zero_mod p]; rfl
/-! 64 bits -/
theorem i64_bmod {z : Int} (h1 : -9223372036854775808 ≤ z) (h2 : z < 9223372036854775808) : z.bmod (2 ^ 64) = z := Int.bmod_eq_of_le (by omega) (by omega)
theorem i64_add {x y : Int64} {a b : Int} (hx : x.toInt = a) (hy : y.toInt = b) (h1 : -9223372036854775808 ≤ a + b) (h2 : a + b < 9223372036854775808) : (x + y).toInt = a + b := by
  rw [Int64.toInt_add, hx, hy]; exact i64_bmod h1 h2
theorem i64_sub {x y : Int64} {a b : Int} (hx : x.toInt = a) (hy : y.toInt = b) (h1 : -9223372036854775808 ≤ a - b) (h2 : a - b < 9223372036854775808) : (x - y).toInt = a - b := by
  rw [Int64.toInt_sub, hx, hy]; exact i64_bmod h1 h2
theorem i64_mul {x y : Int64} {a b : Int} (hx : x.toInt = a) (hy : y.toInt = b) (h1 : -9223372036854775808 ≤ a * b) (h2 : a * b < 9223372036854775808) : (x * y).toInt = a * b := by
  rw [Int64.toInt_mul, hx, hy]; exact i64_bmod h1 h2
theorem i64_n {a : Nat} (h : a < 2147483648) : (Int32.toInt64 (nI a)).toInt = (a : Int) := by rw [Int32.toInt_toInt64, nI_toInt h]
theorem i64_rem {l : Int64} {z : Int} {p : Nat} (hp : 2 ≤ p ∧ p ≤ 97) (hz : l.toInt = z) (hz1 : -1000000000000 ≤ z) (hz2 : z ≤ 1000000000000) : ∃ q t : Int, (l - l / Int32.toInt64 (nI p) * Int32.toInt64 (nI p)).toInt = t ∧ z = q * p + t ∧ -(p : Int) < t ∧ t < p := by
  have e1 : (Int32.toInt64 (nI p)).toInt = (p : Int) := i64_n (by omega)
  have key : ∀ q t : Int, z.tdiv p = q → z = q * p + t → -1000000000000 ≤ q → q ≤ 1000000000000 → -1000000000000 ≤ q * p → q * p ≤ 1000000000000 → -(p : Int) < t → t < p → ∃ q t : Int, (l - l / Int32.toInt64 (nI p) * Int32.toInt64 (nI p)).toInt = t ∧ z = q * p + t ∧ -(p : Int) < t ∧ t < p := by
    intro q t hq hx h1 h2 h3 h4 h5 h6
    have d1 : (l / Int32.toInt64 (nI p)).toInt = q := by rw [Int64.toInt_div, e1, hz, hq]; exact i64_bmod (by omega) (by omega)
    have d2 : (l / Int32.toInt64 (nI p) * Int32.toInt64 (nI p)).toInt = q * p := i64_mul d1 e1 (by omega) (by omega)
    refine ⟨q, t, ?_, hx, h5, h6⟩
    rw [i64_sub hz d2 (by omega) (by omega)]; omega
  rcases Int.lt_or_le z 0 with g | g
  · obtain ⟨a, ha, hx⟩ : ∃ a : Nat, a ≤ 1000000000000 ∧ z = -(a : Int) := ⟨z.natAbs, by omega, by omega⟩
    have h1 := Nat.div_add_mod a p
    have h2 := Nat.mod_lt a (show 0 < p by omega)
    have h3 := Nat.div_le_self a p
    have h0 := Int.natCast_nonneg (a / p)
    have h4 := Nat.div_mul_le_self a p
    refine key (-((a / p : Nat) : Int)) (-((a % p : Nat) : Int)) (by rw [hx, Int.neg_tdiv, ← Int.ofNat_tdiv]) ?_ (by omega) (by omega) ?_ ?_ (by omega) (by omega)
    · rw [hx, Int.neg_mul, ← Int.natCast_mul, ← Int.neg_add, ← Int.natCast_add]; congr 2; rw [Nat.mul_comm]; exact h1.symm
    · rw [Int.neg_mul, ← Int.natCast_mul]; omega
    · rw [Int.neg_mul, ← Int.natCast_mul]; omega
  · obtain ⟨a, ha, hx⟩ : ∃ a : Nat, a ≤ 1000000000000 ∧ z = (a : Int) := ⟨z.natAbs, by omega, by omega⟩
    have h1 := Nat.div_add_mod a p
    have h2 := Nat.mod_lt a (show 0 < p by omega)
    have h3 := Nat.div_le_self a p
    have h0 := Int.natCast_nonneg (a / p)
    have h4 := Nat.div_mul_le_self a p
    refine key ((a / p : Nat) : Int) ((a % p : Nat) : Int) (by rw [hx, ← Int.ofNat_tdiv]) ?_ (by omega) (by omega) ?_ ?_ (by omega) (by omega)
    · rw [hx, ← Int.natCast_mul, ← Int.natCast_add]; congr 1; rw [Nat.mul_comm]; exact h1.symm
    · rw [← Int.natCast_mul]; omega
    · rw [← Int.natCast_mul]; omega
theorem emod_of {z q t : Int} {p : Nat} (h : z = q * p + t) (h1 : 0 ≤ t) (h2 : t < p) : z % (p : Int) = t := by
  rw [h, Int.add_comm, Int.add_mul_emod_self_right]; exact Int.emod_eq_of_lt h1 h2
/-- numbers modulo p, out of whole numbers -/
theorem md_sub {p : Nat} [NeZero p] (a b c : Fin p) : (((a.val : Int) - (b.val : Int) * (c.val : Int)) % (p : Int)).toNat = (a - b * c).val := by
  rw [← fin_sub_val]
  have hb := b.isLt
  have e : ((a.val : Int) - (b.val : Int) * (c.val : Int)) = ((a.val + (p - b.val) * c.val : Nat) : Int) + (-(c.val : Int)) * (p : Int) := by
    rw [Int.natCast_add, Int.natCast_mul, Int.natCast_sub (by omega)]
    grind
  rw [e, Int.add_mul_emod_self_right, ← Int.natCast_emod]; rfl
theorem md_addm {p : Nat} [NeZero p] (a b c : Fin p) : (((a.val : Int) + (b.val : Int) * (c.val : Int)) % (p : Int)).toNat = (a + b * c).val := by
  have e : ((a.val : Int) + (b.val : Int) * (c.val : Int)) = ((a.val + b.val * c.val : Nat) : Int) := by
    rw [Int.natCast_add, Int.natCast_mul]
  rw [e, ← Int.natCast_emod, Fin.val_add, Fin.val_mul, Nat.add_mod_mod]; rfl
theorem md_mul {p : Nat} [NeZero p] (b c : Fin p) : (((b.val : Int) * (c.val : Int)) % (p : Int)).toNat = (b * c).val := by
  rw [← Int.natCast_mul, ← Int.natCast_emod, Fin.val_mul]; rfl
theorem md_add {p : Nat} [NeZero p] (a b : Fin p) : (((a.val : Int) + (b.val : Int)) % (p : Int)).toNat = (a + b).val := by
  rw [← Int.natCast_add, ← Int.natCast_emod, Fin.val_add]; rfl
theorem md_addc {p : Nat} [NeZero p] (hp : 1 < p) (a : Fin p) (c : Int32) : (((a.val : Int) + c.toInt) % (p : Int)).toNat = (a + fmd p c).val := by
  rw [Fin.val_add, fmd_val]
  unfold md
  have h1 := Int.emod_nonneg c.toInt (show (p : Int) ≠ 0 by omega)
  rw [Int.add_emod, ← Int.natCast_emod]
  have e : c.toInt % (p : Int) = (((c.toInt % (p : Int)).toNat : Nat) : Int) := by omega
  rw [e, ← Int.natCast_add, ← Int.natCast_emod]
  have e2 : (((c.toInt % (p : Int)).toNat : Nat) : Int).toNat = (c.toInt % (p : Int)).toNat := by omega
  rw [show (((a.val % p + (c.toInt % (p : Int)).toNat) % p : Nat) : Int).toNat = (a.val % p + (c.toInt % (p : Int)).toNat) % p from rfl, Nat.mod_add_mod, e2]
section MO
variable {M : Mem} {I : Nat → Nat → Int32} {n ord p : Nat}
theorem sp_in3 {x y : Int32} {a b : Nat} {post : Int32 → Mem → Prop} (ha : a < 1000) (hb : b < 1000) (hy : y = nI b - 1) (h1 : ∀ d, a ≤ d → d < b → x = nI d → post 1 M) (h0 : (¬ ∃ d, a ≤ d ∧ d < b ∧ x = nI d) → post 0 M) : T_Mo_in3 x (nI a) y M post := by
  have ey : y.toInt = (b : Int) - 1 := by
    rw [hy]
    rcases Nat.eq_zero_or_pos b with rfl | q
    · decide
    · obtain ⟨k, rfl⟩ : ∃ k, b = k + 1 := ⟨b - 1, by omega⟩
      rw [nI_pred, nI_toInt (by omega)]; omega
  have en : ∀ d : Nat, d < 2000 → (nI d).toInt = (d : Int) := fun d hd => nI_toInt (by omega)
  unfold T_Mo_in3 B_Mo_in3_14 B_Mo_in3_15
  refine ⟨fun q => ⟨rfl, h0 (fun ⟨d, d1, d2, e⟩ => ?_)⟩, fun q => ⟨fun q2 => ⟨rfl, h0 (fun ⟨d, d1, d2, e⟩ => ?_)⟩, fun q2 => ⟨rfl, ?_⟩⟩⟩
  · rw [e, Int32.lt_iff_toInt_lt, en d (by omega), en a (by omega)] at q; omega
  · rw [e, Int32.lt_iff_toInt_lt, en d (by omega), ey] at q2; omega
  · rw [Int32.lt_iff_toInt_lt, en a (by omega)] at q
    rw [Int32.lt_iff_toInt_lt, ey] at q2
    refine h1 x.toInt.toNat (by omega) (by omega) (i32_ext ?_)
    rw [en _ (by omega)]; omega
theorem sp_Momod {l : Int64} {z : Int} {post : Int32 → Mem → Prop} (hM : MdOK M) (hI : I 199 2 = nI p) (hp : 2 ≤ p ∧ p ≤ 97) (hz : l.toInt = z) (hz1 : -1000000000000 ≤ z) (hz2 : z ≤ 1000000000000) (h : post (nI (z % (p : Int)).toNat) (wI M I)) : T_Mo_mod 199 l (wI M I) post := by
  obtain ⟨q, t, ht, hq, h1, h2⟩ := i64_rem hp hz hz1 hz2
  have e1 : (Int32.toInt64 (nI p)).toInt = (p : Int) := i64_n (by omega)
  have e0 : (0 : Int64).toInt = 0 := rfl
  unfold T_Mo_mod B_Mo_mod_25
  rw [gI_wI, hI]
  refine ⟨hM.1, fun e => ?_, fun g => ?_, fun g => ⟨hM.1, ?_⟩⟩
  · rw [e, e0] at e1; omega
  · rw [Int64.le_iff_toInt_le, ht, e0] at g
    have : Int64.toInt32 (l - l / Int32.toInt64 (nI p) * Int32.toInt64 (nI p)) = nI (z % (p : Int)).toNat := by
      refine i32_ext ?_
      rw [Int64.toInt_toInt32, ht, emod_of hq g h2, nI_toInt (by omega), i32_bmod (by omega) (by omega)]; omega
    rw [this]; exact h
  · rw [Int64.le_iff_toInt_le, ht, e0] at g
    have hs : ((l - l / Int32.toInt64 (nI p) * Int32.toInt64 (nI p)) + Int32.toInt64 (nI p)).toInt = t + p := i64_add ht e1 (by omega) (by omega)
    have hq2 : z = (q - 1) * p + (t + p) := by rw [hq, Int.sub_mul]; omega
    have : Int64.toInt32 ((l - l / Int32.toInt64 (nI p) * Int32.toInt64 (nI p)) + Int32.toInt64 (nI p)) = nI (z % (p : Int)).toNat := by
      refine i32_ext ?_
      rw [Int64.toInt_toInt32, hs, emod_of hq2 (by omega) (by omega), nI_toInt (by omega), i32_bmod (by omega) (by omega)]; omega
    rw [this]; exact h
theorem fv97 [NeZero p] (hp : p ≤ 97) (a : Fin p) : a.val < 97 := by have := a.isLt; omega
/-- the three forms in which mod is asked -/
theorem sp_modS [NeZero p] {x y w : Int32} {a b c : Fin p} {post : Int32 → Mem → Prop} (hM : MdOK M) (hI : I 199 2 = nI p) (hp : 2 ≤ p ∧ p ≤ 97) (hx : x = nI a.val) (hy : y = nI b.val) (hw : w = nI c.val) (h : post (nI (a - b * c).val) (wI M I)) : T_Mo_mod 199 (Int32.toInt64 x - Int32.toInt64 y * Int32.toInt64 w) (wI M I) post := by
  have ha := fv97 hp.2 a
  have hb := fv97 hp.2 b
  have hc := fv97 hp.2 c
  have hm : b.val * c.val ≤ 97 * 97 := Nat.mul_le_mul (by omega) (by omega)
  subst hx hy hw
  have e1 := i64_mul (i64_n (show b.val < 2147483648 by omega)) (i64_n (show c.val < 2147483648 by omega)) (by rw [← Int.natCast_mul]; omega) (by rw [← Int.natCast_mul]; omega)
  refine sp_Momod hM hI hp (i64_sub (i64_n (show a.val < 2147483648 by omega)) e1 (by rw [← Int.natCast_mul]; omega) (by rw [← Int.natCast_mul]; omega)) (by rw [← Int.natCast_mul]; omega) (by rw [← Int.natCast_mul]; omega) ?_
  rw [md_sub]; exact h
theorem sp_modA [NeZero p] {x y w : Int32} {a b c : Fin p} {post : Int32 → Mem → Prop} (hM : MdOK M) (hI : I 199 2 = nI p) (hp : 2 ≤ p ∧ p ≤ 97) (hx : x = nI a.val) (hy : y = nI b.val) (hw : w = nI c.val) (h : post (nI (a + b * c).val) (wI M I)) : T_Mo_mod 199 (Int32.toInt64 x + Int32.toInt64 y * Int32.toInt64 w) (wI M I) post := by
  have ha := fv97 hp.2 a
  have hb := fv97 hp.2 b
  have hc := fv97 hp.2 c
  have hm : b.val * c.val ≤ 97 * 97 := Nat.mul_le_mul (by omega) (by omega)
  subst hx hy hw
  have e1 := i64_mul (i64_n (show b.val < 2147483648 by omega)) (i64_n (show c.val < 2147483648 by omega)) (by rw [← Int.natCast_mul]; omega) (by rw [← Int.natCast_mul]; omega)
  refine sp_Momod hM hI hp (i64_add (i64_n (show a.val < 2147483648 by omega)) e1 (by rw [← Int.natCast_mul]; omega) (by rw [← Int.natCast_mul]; omega)) (by rw [← Int.natCast_mul]; omega) (by rw [← Int.natCast_mul]; omega) ?_
  rw [md_addm]; exact h
theorem sp_modM [NeZero p] {y w : Int32} {b c : Fin p} {post : Int32 → Mem → Prop} (hM : MdOK M) (hI : I 199 2 = nI p) (hp : 2 ≤ p ∧ p ≤ 97) (hy : y = nI b.val) (hw : w = nI c.val) (h : post (nI (b * c).val) (wI M I)) : T_Mo_mod 199 (Int32.toInt64 y * Int32.toInt64 w) (wI M I) post := by
  have hb := fv97 hp.2 b
  have hc := fv97 hp.2 c
  have hm : b.val * c.val ≤ 97 * 97 := Nat.mul_le_mul (by omega) (by omega)
  subst hy hw
  refine sp_Momod hM hI hp (i64_mul (i64_n (show b.val < 2147483648 by omega)) (i64_n (show c.val < 2147483648 by omega)) (by rw [← Int.natCast_mul]; omega) (by rw [← Int.natCast_mul]; omega)) (by rw [← Int.natCast_mul]; omega) (by rw [← Int.natCast_mul]; omega) ?_
  rw [md_mul]; exact h
theorem sp_modP [NeZero p] {x y : Int32} {a b : Fin p} {post : Int32 → Mem → Prop} (hM : MdOK M) (hI : I 199 2 = nI p) (hp : 2 ≤ p ∧ p ≤ 97) (hx : x = nI a.val) (hy : y = nI b.val) (h : post (nI (a + b).val) (wI M I)) : T_Mo_mod 199 (Int32.toInt64 x + Int32.toInt64 y) (wI M I) post := by
  have ha := fv97 hp.2 a
  have hb := fv97 hp.2 b
  subst hx hy
  refine sp_Momod hM hI hp (i64_add (i64_n (show a.val < 2147483648 by omega)) (i64_n (show b.val < 2147483648 by omega)) (by omega) (by omega)) (by omega) (by omega) ?_
  rw [md_add]; exact h
theorem sp_Moinv [NeZero p] {a : Fin p} {x : Int32} {post : Int32 → Mem → Prop} (hM : MdOK M) (hI : I 199 2 = nI p) (hp : prm p = true) (ha : a ≠ 0) (hx : x = nI a.val) (h : ∀ b : Fin p, b * a = 1 → post (nI b.val) (wI M I)) : T_Mo_inverse 199 x (wI M I) post := by
  have hp2 := prm_lt hp
  have ha0 : a.val ≠ 0 := fun e => ha (Fin.ext (by rw [e, show (0 : Fin p).val = 0 from Nat.zero_mod p]))
  have h1v : (1 : Fin p).val = 1 := Nat.mod_eq_of_lt (show 1 < p by omega)
  obtain ⟨v, hv, hv1⟩ := inv_ex hp a.val (by omega) a.isLt
  have hv0 : v ≠ 0 := fun e => by rw [e, Nat.mul_zero, Nat.zero_mod] at hv1; omega
  subst hx
  have key : ∀ r k, k + r = v → 1 ≤ k → L_Mo_inverse_2 post (r + 1) 199 (nI a.val) (nI k) (wI M I) := by
    intro r
    induction r with
    | zero =>
      intro k hk h1
      have e : k = v := by omega
      subst e
      show B_Mo_inverse_2 _ post 199 _ _ _
      refine ⟨hM.1, ?_⟩
      refine sp_modM (b := ⟨k, hv⟩) (c := a) hM hI hp2 rfl rfl ?_
      have eb : (⟨k, hv⟩ : Fin p) * a = 1 := Fin.ext (by rw [Fin.val_mul, h1v, Nat.mul_comm]; exact hv1)
      exact ⟨fun _ => h ⟨k, hv⟩ eb, fun q => absurd (by rw [eb, h1v]; rfl) q⟩
    | succ r ih =>
      intro k hk h1
      have hkp : k < p := by omega
      show B_Mo_inverse_2 (L_Mo_inverse_2 post (r + 1)) post 199 _ _ _
      refine ⟨hM.1, ?_⟩
      refine sp_modM (b := ⟨k, hkp⟩) (c := a) hM hI hp2 rfl rfl ?_
      refine ⟨fun q => h ⟨k, hkp⟩ (Fin.ext ?_), fun q => ?_⟩
      · rw [show (1 : Int32) = nI 1 from rfl, nI_eq (by have := fv97 hp2.2 ((⟨k, hkp⟩ : Fin p) * a); omega) (by omega)] at q
        rw [h1v]; exact q
      · rw [nI_1]; exact ih (k + 1) (by omega) (by omega)
  exact ⟨_, key (v - 1) 1 (by omega) (by omega)⟩
theorem sp_MoisProduct {x y z : Int32} {post : Int32 → Mem → Prop} (hM : MdOK M) (hn : I 199 1 = nI n) (hn3 : n ≤ 3) (h1 : ∀ a b c, IsP n x y z a b c → post 1 (wI M I)) (h0 : (¬ ∃ a b c, IsP n x y z a b c) → post 0 (wI M I)) : T_Mo_isProduct 199 x y z (wI M I) post := by
  have hk := hM.1
  unfold T_Mo_isProduct B_Mo_isProduct_24 B_Mo_isProduct_36 B_Mo_isProduct_55 B_Mo_isProduct_56
  have nat : ∀ w : Int32, ¬ w < 0 → ∃ a, a < 2147483648 ∧ w = nI a := fun w hw => nI_of hw
  have no : ∀ {P : Prop}, P → (∀ a b c, IsP n x y z a b c → ¬ P) → narrow .boolean (.int 0) = .int 0 ∧ post 0 (wI M I) := fun hp hh => ⟨rfl, h0 (fun ⟨a, b, c, hi⟩ => hh a b c hi hp)⟩
  rw [gI_wI, hn, show (1 : Int32) = nI 1 from rfl, show (2 : Int32) = nI 2 from rfl, nI_ltI (by omega) (by omega), nI_ltI (by omega) (by omega)]
  refine ⟨fun q => no q (fun a b c hi w => ?_), fun q => ⟨fun q2 => no q2 (fun a b c hi w => ?_), fun q2 => ⟨fun q3 => no q3 (fun a b c hi w => ?_), fun q3 => ⟨hk, ?_⟩⟩⟩⟩
  · rw [hi.1] at w; exact absurd w (nI_nlt0 (by have := hi.2.2.2.1; omega))
  · rw [hi.2.1] at w; exact absurd w (nI_nlt0 (by have := hi.2.2.2.1; omega))
  · rw [hi.2.2.1] at w; exact absurd w (nI_nlt0 (by have := hi.2.2.2.1; omega))
  · obtain ⟨a, ha, rfl⟩ := nat x q
    obtain ⟨b, hb, rfl⟩ := nat y q2
    obtain ⟨c, hc, rfl⟩ := nat z q3
    have uq : ∀ a' b' c', IsP n (nI a) (nI b) (nI c) a' b' c' → a' = a ∧ b' = b ∧ c' = c := fun a' b' c' hi => by
      obtain ⟨i1, i2, i3, i4, _⟩ := hi
      rw [nI_eq (by omega) (by omega)] at i1 i2 i3
      exact ⟨i1.symm, i2.symm, i3.symm⟩
    have hb0 : nI b = 0 ↔ b = 0 := by rw [show (0 : Int32) = nI 0 from rfl]; exact nI_eq (by omega) (by omega)
    have hc0 : nI c = 0 ↔ c = 0 := by rw [show (0 : Int32) = nI 0 from rfl]; exact nI_eq (by omega) (by omega)
    have hs : (Int32.toInt64 (nI a) + Int32.toInt64 (nI b) + Int32.toInt64 (nI c)).toInt = (a : Int) + b + c := i64_add (i64_add (i64_n ha) (i64_n hb) (by omega) (by omega)) (i64_n hc) (by omega) (by omega)
    have h10 : (10 : Int64).toInt = 10 := rfl
    rw [hb0, hc0, Int64.lt_iff_toInt_lt, hs, h10]
    have rest : (n < 2 → b = 0) → (n < 3 → c = 0) → ((10 : Int) < (a : Int) + b + c → narrow .boolean (.int 0) = .int 0 ∧ post 0 (wI M I)) ∧ (¬ (10 : Int) < (a : Int) + b + c → narrow .boolean (.int (nI 1)) = .int (nI 1) ∧ post (nI 1) (wI M I)) := by
      intro e1 e2
      refine ⟨fun w => no w (fun a' b' c' hi w => ?_), fun w => ⟨rfl, h1 a b c ⟨rfl, rfl, rfl, by omega, by simp only; omega, e1, e2⟩⟩⟩
      have := uq _ _ _ hi; have := hi.2.2.2.1; omega
    refine ⟨fun w0 => ⟨hk, fun w => rest (fun z => by omega) (fun z => by omega), fun w => ⟨fun w2 => no w2 (fun a' b' c' hi w3 => ?_), fun w2 => rest (fun z => by omega) (fun _ => w2)⟩⟩, fun w0 => ⟨fun w2 => no w2 (fun a' b' c' hi w3 => ?_), fun w1 => ⟨hk, fun w => rest (fun _ => w1) (fun z => by omega), fun w => ⟨fun w2 => no w2 (fun a' b' c' hi w3 => ?_), fun w2 => rest (fun _ => w1) (fun _ => w2)⟩⟩⟩⟩
    · have := uq _ _ _ hi; have := hi.2.2.2.2.2.2 (by omega); simp only at this; omega
    · have := uq _ _ _ hi; have := hi.2.2.2.2.2.1 (by omega); simp only at this; omega
    · have := uq _ _ _ hi; have := hi.2.2.2.2.2.2 (by omega); simp only at this; omega
/-- the powers of a product by its number -/
def pwm (m l : Nat) : Nat := if l = 0 then m / 121 else if l = 1 then m / 11 % 11 else m % 11
theorem pwm_le {m : Nat} (hm : m < 1331) (l : Nat) : pwm m l ≤ 10 := by unfold pwm; split <;> (try split) <;> omega
theorem sp_Mopower {m l : Nat} {post : Int32 → Mem → Prop} (hm : m < 1331) (hl : l < 3) (h : post (nI (pwm m l)) M) : T_Mo_power 199 (nI m) (nI l) M post := by
  unfold T_Mo_power B_Mo_power_30
  unfold pwm at h
  rcases (show l = 0 ∨ l = 1 ∨ l = 2 by omega) with rfl | rfl | rfl
  · refine ⟨fun q => absurd rfl q, fun _ => ⟨by decide, ?_⟩⟩
    rw [show (121 : Int32) = nI 121 from rfl, pk_div (by omega) (by omega) (by omega)]
    exact h
  · refine ⟨fun _ => ⟨fun q => absurd rfl q, fun _ => ⟨by decide, by decide, ?_⟩⟩, fun q => absurd q (by decide)⟩
    rw [show (11 : Int32) = nI 11 from rfl, pk_div (by omega) (by omega) (by omega), pk_rem (by omega) (by omega) (by omega)]
    exact h
  · refine ⟨fun _ => ⟨fun _ => ⟨by decide, ?_⟩, fun q => absurd q (by decide)⟩, fun q => absurd q (by decide)⟩
    rw [show (11 : Int32) = nI 11 from rfl, pk_rem (by omega) (by omega) (by omega)]
    exact h
theorem sp_ModegreeOf {m : Nat} {post : Int32 → Mem → Prop} (hm : m < 1331) (h : post (nI (mdeg m)) M) : T_Mo_degreeOf (nI m) M post := by
  unfold T_Mo_degreeOf
  refine ⟨by decide, by decide, by decide, by decide, ?_⟩
  rw [show (121 : Int32) = nI 121 from rfl, show (11 : Int32) = nI 11 from rfl, pk_div (show m < 2 ^ 31 by omega) (show 0 < 121 by omega) (by omega), pk_div (show m < 2 ^ 31 by omega) (show 0 < 11 by omega) (by omega), pk_rem (show m / 11 < 2 ^ 31 by omega) (by omega) (by omega), pk_mul, pk_sub (Nat.div_mul_le_self m 11), nI_add, nI_add]
  have : m / 121 + m / 11 % 11 + (m - m / 11 * 11) = mdeg m := by unfold mdeg; omega
  rw [this]; exact h
/-- greater, by number -/
def gtm (ord m o : Nat) : Prop := mdeg o < mdeg m ∨ (mdeg m = mdeg o ∧ bef ord (mmo m) (mmo o))
theorem sp_MoisGreater {m o : Nat} {post : Int32 → Mem → Prop} (hM : MdOK M) (ho : I 199 3 = nI ord) (ho1 : ord ≤ 1) (hm : m < 1331) (hom : o < 1331) (h1 : gtm ord m o → post 1 (wI M I)) (h0 : ¬ gtm ord m o → post 0 (wI M I)) : T_Mo_isGreater 199 (nI m) (nI o) (wI M I) post := by
  have hk := hM.1
  have b89 : ∀ N l, l < 3 → (pwm m l = pwm o l → L_Mo_isGreater_89 post N 199 (nI m) (nI o) (nI l + -1) (wI M I)) → (pwm m l < pwm o l → post 1 (wI M I)) → (pwm o l < pwm m l → post 0 (wI M I)) → L_Mo_isGreater_89 post (N + 1) 199 (nI m) (nI o) (nI l) (wI M I) := by
    intro N l hl e1 e2 e3
    have p1 := pwm_le hm l
    have p2 := pwm_le hom l
    show B_Mo_isGreater_89 (L_Mo_isGreater_89 post N) post 199 _ _ _ _
    unfold B_Mo_isGreater_89 B_Mo_isGreater_128
    refine ⟨fun q => absurd q (nI_nlt0 (by omega)), fun _ => ⟨hk, sp_Mopower hm hl ⟨hk, sp_Mopower hom hl ⟨fun q => e1 ((nI_eq (by omega) (by omega)).mp q), fun q => ⟨hk, sp_Mopower hm hl ⟨hk, sp_Mopower hom hl ⟨fun z => ⟨rfl, e3 ?_⟩, fun z => ⟨rfl, e2 ?_⟩⟩⟩⟩⟩⟩⟩⟩
    · rw [nI_eq (by omega) (by omega)] at q
      rw [nI_leI (by omega) (by omega)] at z; omega
    · rw [nI_leI (by omega) (by omega)] at z; omega
  have b38 : ∀ N l, l < 3 → (pwm m l = pwm o l → L_Mo_isGreater_38 post N 199 (nI m) (nI o) (nI l + 1) (wI M I)) → (pwm o l < pwm m l → post 1 (wI M I)) → (pwm m l < pwm o l → post 0 (wI M I)) → L_Mo_isGreater_38 post (N + 1) 199 (nI m) (nI o) (nI l) (wI M I) := by
    intro N l hl e1 e2 e3
    have p1 := pwm_le hm l
    have p2 := pwm_le hom l
    show B_Mo_isGreater_38 (L_Mo_isGreater_38 post N) post 199 _ _ _ _
    unfold B_Mo_isGreater_38 B_Mo_isGreater_78
    refine ⟨fun q => ?_, fun _ => ⟨hk, sp_Mopower hm hl ⟨hk, sp_Mopower hom hl ⟨fun q => e1 ((nI_eq (by omega) (by omega)).mp q), fun q => ⟨hk, sp_Mopower hm hl ⟨hk, sp_Mopower hom hl ⟨fun z => ⟨rfl, e3 ?_⟩, fun z => ⟨rfl, e2 ?_⟩⟩⟩⟩⟩⟩⟩⟩
    · rw [show (3 : Int32) = nI 3 from rfl, nI_leI (by omega) (by omega)] at q; omega
    · rw [nI_eq (by omega) (by omega)] at q
      rw [nI_leI (by omega) (by omega)] at z; omega
    · rw [nI_leI (by omega) (by omega)] at z; omega
  have hdm : mdeg m ≤ 30 := by unfold mdeg; omega
  have hdo : mdeg o ≤ 30 := by unfold mdeg; omega
  have P0 : ∀ w, pwm w 0 = w / 121 := fun w => rfl
  have P1 : ∀ w, pwm w 1 = w / 11 % 11 := fun w => rfl
  have P2 : ∀ w, pwm w 2 = w % 11 := fun w => rfl
  unfold T_Mo_isGreater B_Mo_isGreater_27
  refine sp_ModegreeOf hm (sp_ModegreeOf hom ⟨fun q => ⟨hk, fun g => ?_, fun g => ?_⟩, fun q => sp_ModegreeOf hm (sp_ModegreeOf hom ⟨fun z => ⟨rfl, h0 ?_⟩, fun z => ⟨rfl, h1 ?_⟩⟩)⟩)
  · rw [nI_eq (by omega) (by omega)] at q
    rw [gI_wI, ho, show (1 : Int32) = nI 1 from rfl, nI_eq (by omega) (by omega)] at g
    have ho0 : ord = 0 := by omega
    subst ho0
    have H1 : bef 0 (mmo m) (mmo o) → post 1 (wI M I) := fun z => h1 (Or.inr ⟨q, z⟩)
    have H0 : ¬ bef 0 (mmo m) (mmo o) → post 0 (wI M I) := fun z => h0 (fun y => by
      rcases y with y | y
      · omega
      · exact z y.2)
    have hb : bef 0 (mmo m) (mmo o) ↔ (m % 11 < o % 11 ∨ (m % 11 = o % 11 ∧ m / 11 % 11 < o / 11 % 11)) := by unfold bef mmo; simp
    rw [hb] at H1 H0
    refine ⟨4, b89 3 2 (by omega) (fun e2 => ?_) (fun y => H1 (by rw [P2, P2] at y; omega)) (fun y => H0 (by rw [P2, P2] at y; omega))⟩
    rw [P2, P2] at e2
    refine b89 2 1 (by omega) (fun e1 => ?_) (fun y => H1 (by rw [P1, P1] at y; omega)) (fun y => H0 (by rw [P1, P1] at y; omega))
    rw [P1, P1] at e1
    refine b89 1 0 (by omega) (fun e0 => ?_) (fun y => ?_) (fun y => ?_)
    · show B_Mo_isGreater_89 _ post 199 _ _ _ _
      exact ⟨fun _ => ⟨rfl, H0 (by omega)⟩, fun y => absurd (by decide) y⟩
    · rw [P0, P0] at y; unfold mdeg at q; omega
    · rw [P0, P0] at y; unfold mdeg at q; omega
  · rw [nI_eq (by omega) (by omega)] at q
    rw [gI_wI, ho, show (1 : Int32) = nI 1 from rfl, nI_eq (by omega) (by omega)] at g
    subst g
    have H1 : bef 1 (mmo m) (mmo o) → post 1 (wI M I) := fun z => h1 (Or.inr ⟨q, z⟩)
    have H0 : ¬ bef 1 (mmo m) (mmo o) → post 0 (wI M I) := fun z => h0 (fun y => by
      rcases y with y | y
      · omega
      · exact z y.2)
    have hb : bef 1 (mmo m) (mmo o) ↔ (m / 11 % 11 + m % 11 < o / 11 % 11 + o % 11 ∨ (m / 11 % 11 + m % 11 = o / 11 % 11 + o % 11 ∧ m % 11 < o % 11)) := by unfold bef mmo; simp
    rw [hb] at H1 H0
    unfold mdeg at q
    refine ⟨4, b38 3 0 (by omega) (fun e0 => ?_) (fun y => H1 (by rw [P0, P0] at y; omega)) (fun y => H0 (by rw [P0, P0] at y; omega))⟩
    rw [P0, P0] at e0
    refine b38 2 1 (by omega) (fun e1 => ?_) (fun y => H1 (by rw [P1, P1] at y; omega)) (fun y => H0 (by rw [P1, P1] at y; omega))
    rw [P1, P1] at e1
    refine b38 1 2 (by omega) (fun e2 => ?_) (fun y => ?_) (fun y => ?_)
    · show B_Mo_isGreater_38 _ post 199 _ _ _ _
      exact ⟨fun _ => ⟨rfl, H0 (by omega)⟩, fun y => absurd (by decide) y⟩
    · rw [P2, P2] at y; omega
    · rw [P2, P2] at y; omega
  · rw [nI_eq (by omega) (by omega)] at q
    rw [nI_leI (by omega) (by omega)] at z
    rintro (y | y)
    · omega
    · exact q y.1
  · rw [nI_leI (by omega) (by omega)] at z
    exact Or.inl (by omega)
theorem sp_Moget {k m : Nat} {post : Int32 → Mem → Prop} (hM : MdOK M) (hk : k ≤ 20) (hm : m < 1331) (h : post (I 200 (1331 * k + m)) (wI M I)) : T_Mo_get 199 (nI k) (nI m) (wI M I) post := by
  obtain ⟨k4, r0, r6, r7, r9, r10, r11, r13, r14, r15, r17, a5, a6, a7, a8, a9, a10, a11, a12, a13, a14⟩ := hM
  unfold T_Mo_get
  simp (disch := omega) only [isK_wI, isA_wI, gR_wI, gI_wI, sI_wI, true_and, and_true, Option.some.injEq, exists_eq_left', forall_const, not_true_eq_false, not_false_eq_true, false_implies, true_implies, ne_eq, lit_nI, nI_add, pk_mul, pk_sub, pk_div, rem_n, nI_clamp, nI_leI, nI_ltI, nI_eq, in_nI, k4, r0, isA_T a5]
  exact h
theorem sp_Moput {k m : Nat} {v : Int32} {post : Mem → Prop} (hM : MdOK M) (hk : k ≤ 20) (hm : m < 1331) (h : post (wI M (u2 I 200 (1331 * k + m) v))) : T_Mo_put 199 (nI k) (nI m) v (wI M I) post := by
  obtain ⟨k4, r0, r6, r7, r9, r10, r11, r13, r14, r15, r17, a5, a6, a7, a8, a9, a10, a11, a12, a13, a14⟩ := hM
  unfold T_Mo_put
  simp (disch := omega) only [isK_wI, isA_wI, gR_wI, gI_wI, sI_wI, true_and, and_true, Option.some.injEq, exists_eq_left', forall_const, not_true_eq_false, not_false_eq_true, false_implies, true_implies, ne_eq, lit_nI, nI_add, pk_mul, pk_sub, pk_div, rem_n, nI_clamp, nI_leI, nI_ltI, nI_eq, in_nI, k4, r0, isA_T a5]
  exact h
theorem sp_Moclear {k : Nat} {post : Mem → Prop} (hM : MdOK M) (hk : k ≤ 20) (h : ∀ f, (∀ m, m < 1331 → f (1331 * k + m) = 0) → (∀ j, (j < 1331 * k ∨ 1331 * k + 1331 ≤ j) → f j = I 200 j) → post (wI M (sAll I 200 f))) : T_Mo_clear 199 (nI k) (wI M I) post := by
  have := pk_loop (σ := Nat → Int32) (fun N i f => L_Mo_clear_2 post N 199 (nI k) (nI i) (wI M (sAll I 200 f))) (fun i f => (∀ m, m < i → f (1331 * k + m) = 0) ∧ ∀ j, (j < 1331 * k ∨ 1331 * k + 1331 ≤ j) → f j = I 200 j) 1331 0 (I 200) (by omega) ⟨fun m hm => absurd hm (Nat.not_lt_zero m), fun _ _ => rfl⟩ ?_ ?_
  · simp only [sAll_self] at this
    exact this
  · intro N f hf
    show B_Mo_clear_2 (L_Mo_clear_2 post N) post 199 _ _ _
    exact ⟨fun _ => h f hf.1 hf.2, fun q => absurd (by decide) q⟩
  · intro N i f hi hf ih
    show B_Mo_clear_2 (L_Mo_clear_2 post N) post 199 _ _ _
    unfold B_Mo_clear_2
    refine ⟨fun q => ?_, fun _ => ⟨hM.1, sp_Moput hM hk hi ?_⟩⟩
    · rw [show (1331 : Int32) = nI 1331 from rfl, nI_leI (by omega) (by omega)] at q; omega
    · rw [u2_sAll, nI_1]
      refine ih _ ⟨fun m hm => ?_, fun j hj => ?_⟩
      · by_cases e : m = i
        · subst e; exact upd_eq _ _ _
        · rw [upd_ne (by omega)]; exact hf.1 m (by omega)
      · rw [upd_ne (by omega)]; exact hf.2 j hj
theorem sp_Momove {a b : Nat} {post : Mem → Prop} (hM : MdOK M) (ha : a ≤ 20) (hb : b ≤ 20) (hab : a ≠ b) (h : ∀ f, (∀ m, m < 1331 → f (1331 * b + m) = I 200 (1331 * a + m)) → (∀ j, (j < 1331 * b ∨ 1331 * b + 1331 ≤ j) → f j = I 200 j) → post (wI M (sAll I 200 f))) : T_Mo_move 199 (nI a) (nI b) (wI M I) post := by
  have := pk_loop (σ := Nat → Int32) (fun N i f => L_Mo_move_2 post N 199 (nI a) (nI b) (nI i) (wI M (sAll I 200 f))) (fun i f => (∀ m, m < i → f (1331 * b + m) = I 200 (1331 * a + m)) ∧ ∀ j, (j < 1331 * b ∨ 1331 * b + 1331 ≤ j) → f j = I 200 j) 1331 0 (I 200) (by omega) ⟨fun m hm => absurd hm (Nat.not_lt_zero m), fun _ _ => rfl⟩ ?_ ?_
  · simp only [sAll_self] at this
    exact this
  · intro N f hf
    show B_Mo_move_2 (L_Mo_move_2 post N) post 199 _ _ _ _
    exact ⟨fun _ => h f hf.1 hf.2, fun q => absurd (by decide) q⟩
  · intro N i f hi hf ih
    show B_Mo_move_2 (L_Mo_move_2 post N) post 199 _ _ _ _
    unfold B_Mo_move_2
    refine ⟨fun q => ?_, fun _ => ⟨hM.1, sp_Moget hM ha hi ⟨hM.1, sp_Moput hM hb hi ?_⟩⟩⟩
    · rw [show (1331 : Int32) = nI 1331 from rfl, nI_leI (by omega) (by omega)] at q; omega
    · rw [u2_sAll, nI_1, sAll_eq]
      refine ih _ ⟨fun m hm => ?_, fun j hj => ?_⟩
      · by_cases e : m = i
        · subst e; rw [upd_eq]; exact hf.2 _ (by omega)
        · rw [upd_ne (by omega)]; exact hf.1 m (by omega)
      · rw [upd_ne (by omega)]; exact hf.2 j hj
end MO
