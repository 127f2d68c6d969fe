/-! Products -/
def pl (m : Mo2) : Nat := (m.1 + m.2) * (m.1 + m.2 + 1) / 2 + m.2
def plL : List Mo2 := (List.range 11).flatMap (fun s => (List.range (s + 1)).map (fun z => (s - z, z)))
def unp (q : Nat) : Mo2 := plL.getD q (0, 0)
def fr (d : Nat) : Nat := [0, 1, 4, 10, 20, 35, 56, 84, 120, 165, 220, 286].getD d 0
theorem fst_fr : ∀ d, d < 12 → fst d = nI (fr d) := by decide +kernel
theorem unp_ok : ∀ q, q < 66 → pl (unp q) = q ∧ (unp q).1 + (unp q).2 ≤ 10 := by decide +kernel
theorem pl_ok' : ∀ y, y < 11 → ∀ z, z < 11 → y + z ≤ 10 → (pl (y, z) < 66 ∧ unp (pl (y, z)) = (y, z)) := by decide +kernel
theorem pl_lt {m : Mo2} (h : m.1 + m.2 ≤ 10) : pl m < 66 := (pl_ok' m.1 (by omega) m.2 (by omega) h).1
theorem unp_pl {m : Mo2} (h : m.1 + m.2 ≤ 10) : unp (pl m) = m := (pl_ok' m.1 (by omega) m.2 (by omega) h).2
theorem pl_inj {a b : Mo2} (ha : a.1 + a.2 ≤ 10) (hb : b.1 + b.2 ≤ 10) (h : pl a = pl b) : a = b := by rw [← unp_pl ha, ← unp_pl hb, h]
theorem pl_deg' : ∀ d, d < 11 → ∀ y, y < 11 → ∀ z, z < 11 → y + z ≤ d → fr d + pl (y, z) < fr (d + 1) := by decide +kernel
theorem pl_deg {d : Nat} {m : Mo2} (hd : d ≤ 10) (h : m.1 + m.2 ≤ d) : fr d + pl m < fr (d + 1) := pl_deg' d (by omega) m.1 (by omega) m.2 (by omega) h
theorem unp_deg : ∀ d, d < 11 → ∀ q, q < 66 → fr d + q < fr (d + 1) → (unp q).1 + (unp q).2 ≤ d := by decide +kernel
theorem fr_le : ∀ d, d < 11 → (fr d ≤ fr (d + 1) ∧ fr (d + 1) ≤ 286) := by decide +kernel
theorem nM_le : ∀ n, n < 4 → ∀ o, o < 2 → ∀ d, d < 11 → (nM n o d ≤ 66 ∧ fr d + nM n o d ≤ fr (d + 1) ∧ 0 < nM n o d) := by decide +kernel
def PrOK (M : Mem) : Prop := (isK M 1 4 ∧ gR M 1 0 = some 2 ∧ gR M 1 1 = some 3 ∧ gR M 1 2 = some 4 ∧ gR M 1 3 = some 5) ∧ arr M 2 8 66 ∧ arr M 3 8 66 ∧ arr M 4 8 286 ∧ arr M 5 8 11
def PrT (I : Nat → Nat → Int32) : Prop := ∀ q, q < 66 → I 2 q = nI (unp q).1 ∧ I 3 q = nI (unp q).2
def PrL (n ord d : Nat) (I : Nat → Nat → Int32) : Prop := I 5 d = nI (nM n ord d) ∧ ∀ i, i < nM n ord d → I 4 (fr d + i) = nI (pl (atm n ord d i))
/-- what Products holds -/
def PrSt (n ord : Nat) (I : Nat → Nat → Int32) : Prop := ((1 ≤ n ∧ n ≤ 3) ∧ ord ≤ 1) ∧ PrT I ∧ (I 1 4 = nI n ∧ I 1 5 = nI ord) ∧ ∀ d, d ≤ 10 → PrL n ord d I
theorem sp_place {y z : Nat} {M : Mem} {post : Int32 → Mem → Prop} (hy : y ≤ 100) (hz : z ≤ 100) (h : post (nI (pl (y, z))) M) : T_Pr_place (nI y) (nI z) M post := by
  unfold T_Pr_place
  have hb : (y + z) * (y + z + 1) ≤ 200 * 201 := Nat.mul_le_mul (by omega) (by omega)
  simp (disch := omega) only [lit_nI, nI_add, pk_mul, pk_sub, pk_div, rem_n, nI_clamp, nI_leI, nI_ltI, nI_eq, in_nI]
  exact ⟨by omega, h⟩
section PRS
variable {M : Mem} {I : Nat → Nat → Int32} {n ord : Nat}
theorem sp_letterCount {post : Int32 → Mem → Prop} (hM : PrOK M) (hS : PrSt n ord I) (h : post (nI n) (wI M I)) : T_Pr_letterCount 1 (wI M I) post := ⟨hM.1.1, by rw [gI_wI, hS.2.2.1.1]; exact h⟩
theorem sp_orderNow {post : Int32 → Mem → Prop} (hM : PrOK M) (hS : PrSt n ord I) (h : post (nI ord) (wI M I)) : T_Pr_orderNow 1 (wI M I) post := ⟨hM.1.1, by rw [gI_wI, hS.2.2.1.2]; exact h⟩
theorem sp_amount {d : Nat} {post : Int32 → Mem → Prop} (hM : PrOK M) (hS : PrSt n ord I) (hd : d ≤ 10) (h : post (nI (nM n ord d)) (wI M I)) : T_Pr_amount 1 (nI d) (wI M I) post := by
  refine ⟨hM.1.1, 5, hM.1.2.2.2.2, arr_A hM.2.2.2.2 (by omega) (by omega), ?_⟩
  rw [gI_wI, nI_clamp (by omega), (hS.2.2.2 d hd).1]; exact h
theorem nM_b (hS : PrSt n ord I) {d : Nat} (hd : d ≤ 10) : nM n ord d ≤ 66 ∧ fr d + nM n ord d ≤ fr (d + 1) ∧ 0 < nM n ord d := nM_le n (by have := hS.1; omega) ord (by have := hS.1; omega) d (by omega)
theorem sp_at {d i : Nat} {post : Int32 → Mem → Prop} (hM : PrOK M) (hS : PrSt n ord I) (hd : d ≤ 10) (hi : i < nM n ord d) (h : post (nI (pl (atm n ord d i))) (wI M I)) : T_Pr_at 1 (nI d) (nI i) (wI M I) post := by
  have hb := nM_b hS hd
  have hf := fr_le d (by omega)
  unfold T_Pr_at
  have e : fst (nI d).toNatClampNeg = nI (fr d) := by rw [nI_clamp (by omega), fst_fr d (by omega)]
  rw [e]
  refine ⟨hM.1.1, 4, hM.1.2.2.2.1, (in_nI (by omega) (by omega)).mpr (by omega), ?_, ?_⟩
  · rw [nI_add]; exact arr_A hM.2.2.2.1 (by omega) (by omega)
  · rw [nI_add, gI_wI, nI_clamp (by omega), (hS.2.2.2 d hd).2 i hi]; exact h
theorem sp_together {a b : Mo2} {post : Int32 → Mem → Prop} (hM : PrOK M) (hS : PrSt n ord I) (ha : a.1 + a.2 ≤ 10) (hb : b.1 + b.2 ≤ 10) (h : post (nI (pl (a.1 + b.1, a.2 + b.2))) (wI M I)) : T_Pr_together 1 (nI (pl a)) (nI (pl b)) (wI M I) post := by
  have h1 := pl_lt ha
  have h2 := pl_lt hb
  obtain ⟨⟨m1, m2, m3, -⟩, m5, m6, -⟩ := hM
  unfold T_Pr_together
  refine ⟨m1, 2, m2, arr_A m5 h1 (by omega), m1, 2, m2, arr_A m5 h2 (by omega), m1, 3, m3, arr_A m6 h1 (by omega), m1, 3, m3, arr_A m6 h2 (by omega), ?_⟩
  simp only [gI_wI]
  rw [nI_clamp (by omega), nI_clamp (by omega), (hS.2.1 _ h1).1, (hS.2.1 _ h2).1, (hS.2.1 _ h1).2, (hS.2.1 _ h2).2, unp_pl ha, unp_pl hb, nI_add, nI_add]
  exact sp_place (by omega) (by omega) h
theorem sp_power {d l : Nat} {m : Mo2} {post : Int32 → Mem → Prop} (hM : PrOK M) (hS : PrSt n ord I) (hd : d ≤ 10) (hm : m.1 + m.2 ≤ d) (hl : l < 3) (h : post (nI (if l = 0 then d - m.1 - m.2 else if l = 1 then m.1 else m.2)) (wI M I)) : T_Pr_power 1 (nI d) (nI (pl m)) (nI l) (wI M I) post := by
  have hm10 : m.1 + m.2 ≤ 10 := by omega
  have h1 := pl_lt hm10
  obtain ⟨⟨m1, m2, m3, -⟩, m5, m6, -⟩ := hM
  unfold T_Pr_power B_Pr_power_40
  simp only [gI_wI]
  rw [nI_clamp (show pl m < 2147483648 by omega)]
  have e1 := (hS.2.1 _ h1).1
  have e2 := (hS.2.1 _ h1).2
  rw [unp_pl hm10] at e1 e2
  simp (disch := omega) only [lit_nI, nI_add, pk_mul, pk_sub, pk_div, rem_n, nI_clamp, nI_leI, nI_ltI, nI_eq, in_nI]
  refine ⟨fun q => ⟨fun z => ⟨m1, 3, m3, arr_A m6 h1 (by omega), ?_⟩, fun z => ⟨m1, 2, m2, arr_A m5 h1 (by omega), ?_⟩⟩, fun q => ⟨m1, 2, m2, arr_A m5 h1 (by omega), m1, 3, m3, arr_A m6 h1 (by omega), ?_⟩⟩
  · rw [e2]; rw [if_neg q, if_neg z] at h; exact h
  · rw [e1]; rw [if_neg q, if_pos z] at h; exact h
  · rw [e1, e2]
    simp (disch := omega) only [lit_nI, nI_add, pk_mul, pk_sub, pk_div, rem_n, nI_clamp, nI_leI, nI_ltI, nI_eq, in_nI]
    rw [if_pos q] at h; exact h
/-- a letter's powers of letters 1 and 2 -/
def lt2 (l : Nat) : Mo2 := (if l = 1 then 1 else 0, if l = 2 then 1 else 0)
theorem sp_raised {l : Nat} {m : Mo2} {post : Int32 → Mem → Prop} (hM : PrOK M) (hS : PrSt n ord I) (hm : m.1 + m.2 ≤ 10) (hl : l < 3) (h : post (nI (pl (m.1 + (lt2 l).1, m.2 + (lt2 l).2))) (wI M I)) : T_Pr_raised 1 (nI (pl m)) (nI l) (wI M I) post := by
  have h1 := pl_lt hm
  obtain ⟨⟨m1, m2, m3, -⟩, m5, m6, -⟩ := hM
  unfold T_Pr_raised B_Pr_raised_16 B_Pr_raised_33
  simp only [gI_wI]
  rw [nI_clamp (show pl m < 2147483648 by omega)]
  have e1 := (hS.2.1 _ h1).1
  have e2 := (hS.2.1 _ h1).2
  rw [unp_pl hm] at e1 e2
  simp (disch := omega) only [lit_nI, nI_add, pk_mul, pk_sub, pk_div, rem_n, nI_clamp, nI_leI, nI_ltI, nI_eq, in_nI]
  refine ⟨m1, 2, m2, arr_A m5 h1 (by omega), fun q => ⟨m1, 3, m3, arr_A m6 h1 (by omega), fun z => ?_, fun z => ?_⟩, fun q => ⟨m1, 3, m3, arr_A m6 h1 (by omega), fun z => ?_, fun z => ?_⟩⟩
  · rw [e1, e2, nI_add, nI_add]
    refine sp_place (by omega) (by omega) ?_
    simp only [lt2, if_neg q, if_neg z] at h; exact h
  · rw [e1, e2, nI_add, nI_add]
    refine sp_place (by omega) (by omega) ?_
    simp only [lt2, if_neg q, if_pos z] at h; exact h
  · rw [e1, e2, nI_add, nI_add]
    refine sp_place (by omega) (by omega) ?_
    simp only [lt2, if_pos q, if_neg z] at h; exact h
  · omega
theorem sp_lowered {l : Nat} {m : Mo2} {post : Int32 → Mem → Prop} (hM : PrOK M) (hS : PrSt n ord I) (hm : m.1 + m.2 ≤ 10) (hl : l < 3) (hd : (lt2 l).1 ≤ m.1 ∧ (lt2 l).2 ≤ m.2) (h : post (nI (pl (m.1 - (lt2 l).1, m.2 - (lt2 l).2))) (wI M I)) : T_Pr_lowered 1 (nI (pl m)) (nI l) (wI M I) post := by
  have h1 := pl_lt hm
  obtain ⟨⟨m1, m2, m3, -⟩, m5, m6, -⟩ := hM
  unfold T_Pr_lowered B_Pr_lowered_16 B_Pr_lowered_33
  simp only [gI_wI]
  rw [nI_clamp (show pl m < 2147483648 by omega)]
  have e1 := (hS.2.1 _ h1).1
  have e2 := (hS.2.1 _ h1).2
  rw [unp_pl hm] at e1 e2
  simp (disch := omega) only [lit_nI, nI_add, pk_mul, pk_sub, pk_div, rem_n, nI_clamp, nI_leI, nI_ltI, nI_eq, in_nI]
  refine ⟨m1, 2, m2, arr_A m5 h1 (by omega), fun q => ⟨m1, 3, m3, arr_A m6 h1 (by omega), fun z => ?_, fun z => ?_⟩, fun q => ⟨m1, 3, m3, arr_A m6 h1 (by omega), fun z => ?_, fun z => ?_⟩⟩
  · simp only [lt2, if_neg q, if_neg z] at h hd
    rw [e1, e2, pk_sub hd.1, pk_sub hd.2]
    exact sp_place (by omega) (by omega) h
  · simp only [lt2, if_neg q, if_pos z] at h hd
    rw [e1, e2, pk_sub hd.1, pk_sub hd.2]
    exact sp_place (by omega) (by omega) h
  · simp only [lt2, if_pos q, if_neg z] at h hd
    rw [e1, e2, pk_sub hd.1, pk_sub hd.2]
    exact sp_place (by omega) (by omega) h
  · omega
end PRS
