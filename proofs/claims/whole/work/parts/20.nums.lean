/-! numbers -/
theorem lit_nI (n : Nat) : (OfNat.ofNat n : Int32) = nI n := rfl
theorem in_nI {a N : Nat} (ha : a < 2147483648) (hN : N < 2147483648) : vp_in (nI a) N ↔ a < N := by
  rw [vp_in_iff, nI_toInt ha]
  omega
theorem rem_n (a d : Nat) : nI a - nI (a / d * d) = nI (a % d) := by
  have h := Nat.div_add_mod a d
  rw [Nat.mul_comm] at h
  rw [pk_sub (by omega)]
  congr 1
  omega
theorem ex_t1 (a b : Nat) (ha : a < 100) (hb : b < 100) : (nI a + 5 * nI b ≤ nI 700) ↔ a + 5 * b ≤ 700 := by
  simp (disch := omega) only [lit_nI, nI_add, pk_mul, pk_sub, pk_div, rem_n, nI_clamp, nI_leI, nI_ltI, nI_eq, in_nI]
theorem ex_t2 (a b : Nat) (ha : a < 100) (hb : b < 100) (h : vp_in (nI a + 1) 66) : a + 1 < 66 := by
  simp (disch := omega) only [lit_nI, nI_add, pk_mul, pk_sub, pk_div, rem_n, nI_clamp, nI_leI, nI_ltI, nI_eq, in_nI] at h
  exact h
/-- the value kept at cell c, slot k -/
def u2 (I : Nat → Nat → Int32) (c k : Nat) (v : Int32) : Nat → Nat → Int32 := fun a => if a = c then upd (I c) k v else I a
def wI (M : Mem) (I : Nat → Nat → Int32) : Mem := (M.1, I, M.2.2)
theorem sI_wI (M : Mem) (I : Nat → Nat → Int32) (c k : Nat) (v : Int32) : sI (wI M I) c k v = wI M (u2 I c k v) := rfl
theorem gI_wI (M : Mem) (I : Nat → Nat → Int32) (c k : Nat) : gI (wI M I) c k = I c k := rfl
theorem gR_wI (M : Mem) (I : Nat → Nat → Int32) (c k : Nat) : gR (wI M I) c k = gR M c k := rfl
theorem kd_wI (M : Mem) (I : Nat → Nat → Int32) (c : Nat) : kd (wI M I) c = kd M c := rfl
theorem ln_wI (M : Mem) (I : Nat → Nat → Int32) (c : Nat) : ln (wI M I) c = ln M c := rfl
theorem nC_wI (M : Mem) (I : Nat → Nat → Int32) : nC (wI M I) = nC M := rfl
theorem wI_wI (M : Mem) (I I' : Nat → Nat → Int32) : wI (wI M I) I' = wI M I' := rfl
theorem wI_self (M : Mem) : wI M M.2.1 = M := rfl
theorem isK_wI (M : Mem) (I : Nat → Nat → Int32) (c k : Nat) : isK (wI M I) c k = isK M c k := rfl
theorem isA_wI (M : Mem) (I : Nat → Nat → Int32) (c k : Nat) (i : Int32) : isA (wI M I) c k i = isA M c k i := rfl
theorem u2_eq (I : Nat → Nat → Int32) (c k : Nat) (v : Int32) : u2 I c k v c k = v := by simp [u2, upd]
theorem u2_ne {I : Nat → Nat → Int32} {c k : Nat} {v : Int32} {a j : Nat} (h : ¬ (a = c ∧ j = k)) : u2 I c k v a j = I a j := by
  unfold u2
  by_cases h1 : a = c
  · subst h1
    have h2 : j ≠ k := fun e => h ⟨rfl, e⟩
    simp [upd, h2]
  · simp [h1]
/-- an array is there, of kind k and n long -/
def arr (M : Mem) (c k n : Nat) : Prop := (c < nC M ∧ kd M c = k) ∧ ln M c = n
theorem arr_A {M : Mem} {c k n a : Nat} (h : arr M c k n) (ha : a < n) (hn : n < 2147483648) : isA M c k (nI a) := ⟨h.1, by rw [h.2]; exact (in_nI (by omega) hn).mpr ha⟩
theorem arr_K {M : Mem} {c k n : Nat} (h : arr M c k n) : isK M c k := h.1
theorem arr_wI {M : Mem} {I : Nat → Nat → Int32} {c k n : Nat} (h : arr M c k n) : arr (wI M I) c k n := h
