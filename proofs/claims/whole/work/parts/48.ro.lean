/-! Rows -/
theorem isA_T {M : Mem} {c k n a : Nat} (h : arr M c k n) (hn : n < 2147483648) (ha : a < n) : isA M c k (nI a) = True := eq_true (arr_A h ha hn)
def RoOK (M : Mem) : Prop := (isK M 8 5 ∧ gR M 8 0 = some 1 ∧ gR M 8 1 = some 6 ∧ gR M 8 2 = some 9 ∧ gR M 8 3 = some 76 ∧ gR M 8 4 = some 77) ∧ arr M 9 11 66 ∧ (∀ r, r < 66 → gR M 9 r = some (10 + r) ∧ arr M (10 + r) 8 66) ∧ arr M 76 8 66 ∧ arr M 77 8 66
/-- the numbers at the places of the line of degree d -/
def VR {p : Nat} [NeZero p] (n ord d : Nat) (f : Nat → Int32) (v : Nat → Fin p) : Prop := ∀ j, j < nM n ord d → f (pl (atm n ord d j)) = nI (v j).val
def RoL (n ord p d : Nat) (I : Nat → Nat → Int32) : Prop := (I 8 5 = nI (nM n ord d) ∧ I 8 6 = nI p) ∧ ∀ i, i < nM n ord d → I 77 i = nI (pl (atm n ord d i))
theorem fin_sub_val {p : Nat} [NeZero p] (v c w : Fin p) : (v.val + (p - c.val) * w.val) % p = (v - c * w).val := by
  have hc := c.isLt
  have e : (v - c * w).val = (p - (c.val * w.val % p) + v.val) % p := by rw [Fin.sub_def, Fin.mul_def]
  rw [e]
  have h1 := Nat.div_add_mod (c.val * w.val) p
  have h2 := Nat.mod_lt (c.val * w.val) (show 0 < p by omega)
  have h3 : (p - c.val) * w.val + c.val * w.val = p * w.val := by rw [← Nat.add_mul]; congr 1; omega
  have h4 : (v.val + (p - c.val) * w.val) + p * (c.val * w.val / p) + p = (p - c.val * w.val % p + v.val) + p * w.val := by omega
  have h5 : ((v.val + (p - c.val) * w.val) + p * (c.val * w.val / p) + p) % p = (v.val + (p - c.val) * w.val) % p := by rw [Nat.add_mod_right, Nat.add_mul_mod_self_left]
  rw [← h5, h4, Nat.add_mul_mod_self_left]
theorem ar_sub {p : Nat} [NeZero p] (hp : p ≤ 97) (v c w : Fin p) : (nI v.val + (nI p - nI c.val) * nI w.val) - (nI v.val + (nI p - nI c.val) * nI w.val) / nI p * nI p = nI (v - c * w).val := by
  have h1 := v.isLt
  have h2 := c.isLt
  have h3 := w.isLt
  have h4 : (p - c.val) * w.val ≤ 97 * 97 := Nat.mul_le_mul (by omega) (by omega)
  rw [pk_sub (by omega), pk_mul, nI_add, pk_div (by omega) (by omega) (by omega), pk_mul, rem_n, fin_sub_val]
theorem ar_sub2 {p : Nat} [NeZero p] (hp : p ≤ 97) (v c w : Fin p) : nI (v.val + (p - c.val) * w.val) - nI (v.val + (p - c.val) * w.val) / nI p * nI p = nI (v - c * w).val := by
  rw [← ar_sub hp, pk_sub (by have := c.isLt; omega), pk_mul, nI_add]
theorem ar_mul {p : Nat} [NeZero p] (hp : p ≤ 97) (v c : Fin p) : (nI v.val * nI c.val) - (nI v.val * nI c.val) / nI p * nI p = nI (v * c).val := by
  have h1 := v.isLt
  have h2 := c.isLt
  have h4 : v.val * c.val ≤ 97 * 97 := Nat.mul_le_mul (by omega) (by omega)
  rw [pk_mul, pk_div (by omega) (by omega) (by omega), pk_mul, rem_n, Fin.mul_def]
theorem ar_mul2 {p : Nat} [NeZero p] (hp : p ≤ 97) (v c : Fin p) : nI (v.val * c.val) - nI (v.val * c.val) / nI p * nI p = nI (v * c).val := by
  rw [← ar_mul hp, pk_mul]
theorem vz {p : Nat} [NeZero p] (hp : p ≤ 97) (a : Fin p) : (nI a.val = nI 0) = (a = 0) := propext (val_ne hp a)
theorem pl66 {n ord d i : Nat} (hd : d ≤ 10) (hi : i < nM n ord d) : pl (atm n ord d i) < 66 := pl_lt (by have := (atm_ok hi).1; omega)
theorem plInj {n ord d i j : Nat} (hd : d ≤ 10) (hi : i < nM n ord d) (hj : j < nM n ord d) (h : pl (atm n ord d i) = pl (atm n ord d j)) : i = j := atm_inj hi hj (pl_inj (by have := (atm_ok hi).1; omega) (by have := (atm_ok hj).1; omega) h)
theorem VR_upd {p : Nat} [NeZero p] {n ord d : Nat} (hd : d ≤ 10) {f : Nat → Int32} {v : Nat → Fin p} (h : VR n ord d f v) {i : Nat} (hi : i < nM n ord d) (x : Fin p) : VR n ord d (upd f (pl (atm n ord d i)) (nI x.val)) (fun j => if j = i then x else v j) := by
  intro j hj
  by_cases q : j = i
  · subst q; simp only [if_true]; rw [upd_eq]
  · simp only [if_neg q]
    rw [upd_ne (fun e => q (plInj hd hj hi e))]; exact h j hj
theorem VR_cong {p : Nat} [NeZero p] {n ord d : Nat} {f : Nat → Int32} {v w : Nat → Fin p} (h : VR n ord d f v) (e : ∀ j, j < nM n ord d → v j = w j) : VR n ord d f w := fun j hj => by rw [h j hj, e j hj]
section RO
variable {M : Mem} {I : Nat → Nat → Int32} {n ord p d : Nat}
theorem sp_subtract [NeZero p] {a a3 la lb : Nat} {c : Fin p} {v w : Nat → Fin p} {post : Mem → Prop} (hM : RoOK M) (hL : RoL n ord p d I) (hp : p ≤ 97) (hd : d ≤ 10) (hN : nM n ord d ≤ 66) (ha : arr M a 8 la) (hla : ∀ i, i < nM n ord d → pl (atm n ord d i) < la) (hla2 : la < 2147483648) (hb : arr M a3 8 lb) (hlb : ∀ i, i < nM n ord d → pl (atm n ord d i) < lb) (hlb2 : lb < 2147483648) (hn : a ≠ 8 ∧ a ≠ 77 ∧ a ≠ a3) (hv : VR n ord d (I a) v) (hw : VR n ord d (I a3) w) (h : ∀ f, VR n ord d f (fun j => v j - c * w j) → post (wI M (sAll I a f))) : T_Ro_subtract 8 a (nI c.val) a3 (wI M I) post := by
  obtain ⟨⟨k8, r0, r1, r2, r3, r4⟩, a9, aR, a76, a77⟩ := hM
  obtain ⟨⟨l5, l6⟩, l7⟩ := hL
  have key : ∀ r i f, i + r = nM n ord d → VR n ord d f (fun j => if j < i then v j - c * w j else v j) → L_Ro_subtract_3 post (r + 1) 8 a (nI c.val) a3 (nI i) (wI M (sAll I a f)) := by
    intro r
    induction r with
    | zero =>
      intro i f hi hf
      show B_Ro_subtract_3 _ post 8 a (nI c.val) a3 (nI i) _
      simp (disch := omega) only [isK_wI, isA_wI, gR_wI, gI_wI, sI_wI, true_and, and_true, Option.some.injEq, exists_eq_left', forall_const, lit_nI, nI_add, pk_mul, pk_sub, pk_div, rem_n, nI_clamp, nI_leI, nI_ltI, nI_eq, in_nI, B_Ro_subtract_3, B_Ro_subtract_63, k8, vz hp, sAll_ne (show 8 ≠ a from fun e => hn.1 e.symm), l5]
      have hh := h f (VR_cong hf (fun j hj => by rw [if_pos (by omega)]))
      exact ⟨fun _ => hh, fun _ => ⟨fun _ => hh, fun q => absurd (by omega) q⟩⟩
    | succ r ih =>
      intro i f hi hf
      have hi2 : i < nM n ord d := by omega
      have q1 := hla i hi2
      have q2 := hlb i hi2
      have q3 := pl66 (ord := ord) hd hi2
      show B_Ro_subtract_3 (L_Ro_subtract_3 post (r + 1)) post 8 a (nI c.val) a3 (nI i) _
      have e1 : I a3 (pl (atm n ord d i)) = nI (w i).val := hw i hi2
      have e2 : f (pl (atm n ord d i)) = nI (v i).val := by rw [hf i hi2]; simp only [if_neg (Nat.lt_irrefl i)]
      have hp0 : ¬ p = 0 := NeZero.ne p
      unfold B_Ro_subtract_3 B_Ro_subtract_57 B_Ro_subtract_63
      simp (disch := omega) only [isK_wI, isA_wI, gR_wI, gI_wI, sI_wI, true_and, and_true, Option.some.injEq, exists_eq_left', forall_const, lit_nI, nI_add, pk_mul, pk_sub, pk_div, rem_n, nI_clamp, nI_leI, nI_ltI, nI_eq, in_nI, k8, r4, vz hp, sAll_ne (show 8 ≠ a from fun e => hn.1 e.symm), sAll_ne (show 77 ≠ a from fun e => hn.2.1 e.symm), sAll_ne (show a3 ≠ a from fun e => hn.2.2 e.symm), sAll_eq, l5, l6, l7 i hi2, isA_T a77, isA_T hb, isA_T ha, e1, e2, ar_sub2 hp, u2_sAll]
      refine ⟨fun q => ?_, fun _ => ⟨fun q => absurd q (by omega), fun _ => ⟨fun q => ?_, fun q => ⟨hp0, ?_⟩⟩⟩⟩
      · -- c is 0
        have := h f (VR_cong hf (fun j hj => by subst q; split <;> grind))
        exact this
      · refine ih (i + 1) f (by omega) (VR_cong hf (fun j hj => ?_))
        by_cases z : j = i
        · subst z; rw [if_neg (Nat.lt_irrefl _), if_pos (by omega), q]; grind
        · by_cases u : j < i
          · rw [if_pos u, if_pos (by omega)]
          · rw [if_neg u, if_neg (by omega)]
      · refine ih (i + 1) _ (by omega) (VR_cong (VR_upd hd hf hi2 _) (fun j hj => ?_))
        by_cases z : j = i
        · subst z; simp only [if_true]; rw [if_pos (by omega)]
        · simp only [if_neg z]
          by_cases u : j < i
          · rw [if_pos u, if_pos (by omega)]
          · rw [if_neg u, if_neg (by omega)]
  have := key (nM n ord d) 0 (I a) (by omega) (VR_cong hv (fun j hj => by rw [if_neg (by omega)]))
  rw [sAll_self] at this
  exact ⟨_, this⟩
end RO
