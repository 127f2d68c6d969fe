/-! the lines of Products -/
/-- from off on the line holds l; all else is as it was -/
def Stl (I I' : Nat → Nat → Int32) (off : Nat) (l : List Mo2) : Prop := (∀ c, c ≠ 4 → I' c = I c) ∧ (∀ j, j < off ∨ off + l.length ≤ j → I' 4 j = I 4 j) ∧ ∀ i, i < l.length → I' 4 (off + i) = nI (pl (l.getD i (0, 0)))
theorem Stl_add {I I' : Nat → Nat → Int32} {off : Nat} {l : List Mo2} (h : Stl I I' off l) (m : Mo2) : Stl I (u2 I' 4 (off + l.length) (nI (pl m))) off (l ++ [m]) := by
  obtain ⟨h1, h2, h3⟩ := h
  refine ⟨fun c hc => ?_, fun j hj => ?_, fun i hi => ?_⟩
  · unfold u2; rw [if_neg hc]; exact h1 c hc
  · rw [List.length_append] at hj
    simp only [List.length_cons, List.length_nil] at hj
    rw [u2_ne (by omega)]
    exact h2 j (by omega)
  · rw [List.length_append] at hi
    simp only [List.length_cons, List.length_nil] at hi
    by_cases e : i = l.length
    · subst e
      rw [u2_eq]
      simp
    · rw [u2_ne (by omega), h3 i (by omega)]
      congr 2
      rw [List.getD_eq_getElem?_getD, List.getD_eq_getElem?_getD, List.getElem?_append_left (by omega)]
theorem range_map_succ {α : Type} (f : Nat → α) (y : Nat) : (List.range (y + 1)).map f = (List.range y).map f ++ [f y] := by rw [List.range_succ, List.map_append]; rfl
theorem flat_succ {α : Type} (f : Nat → List α) (z : Nat) : (List.range (z + 1)).flatMap f = (List.range z).flatMap f ++ f z := by rw [List.range_succ, List.flatMap_append]; simp
section PR2
variable {M : Mem} {I : Nat → Nat → Int32} {n : Nat}
theorem line_len : ∀ n, n < 4 → ∀ d, d < 11 → ((∀ z, z ≤ (if 2 < n then d else 0) → ((List.range (z + 1)).flatMap (fun z => (List.range ((if 1 < n then d - z else 0) + 1)).map (fun y => ((y, z) : Mo2)))).length ≤ 66) ∧ ∀ z, z ≤ (if 1 < n then d else 0) → ((List.range (z + 1)).flatMap (fun s => (List.range ((if 2 < n then s else 0) + 1)).map (fun z => ((s - z, z) : Mo2)))).length ≤ 66) := by decide +kernel
theorem sp_lineByLast {d : Nat} {post : Int32 → Mem → Prop} (hM : PrOK M) (hn : n ≤ 3) (h1 : 1 ≤ n) (hI : I 1 4 = nI n) (hd : d ≤ 10) (h : ∀ I', Stl I I' (fr d) (mons n 0 d) → post (nI (nM n 0 d)) (wI M I')) : T_Pr_lineByLast 1 (nI d) (wI M I) post := by
  obtain ⟨⟨m1, m2, m3, m4, m5⟩, -, -, m8, -⟩ := hM
  have hf := fr_le d (by omega)
  have hfd := fst_fr d (by omega)
  have hlen := (line_len n (by omega) d (by omega)).1
  have hmon : mons n 0 d = (List.range ((if 2 < n then d else 0) + 1)).flatMap (fun z => (List.range ((if 1 < n then d - z else 0) + 1)).map (fun y => ((y, z) : Mo2))) := by unfold mons; rw [if_pos rfl]
  have hfr : fr d + 66 ≤ 286 := by
    have : ∀ d, d < 11 → fr d + 66 ≤ 286 := by decide +kernel
    exact this d (by omega)
  unfold T_Pr_lineByLast
  have inner : ∀ (k4 : Nat → Int32 → Int32 → Int32 → Mem → Prop) (z : Nat), z ≤ (if 2 < n then d else 0) → z ≤ d → ∀ r y I', y + r = (if 1 < n then d - z else 0) + 1 → Stl I I' (fr d) ((List.range z).flatMap (fun z => (List.range ((if 1 < n then d - z else 0) + 1)).map (fun y => ((y, z) : Mo2))) ++ (List.range y).map (fun y => ((y, z) : Mo2))) → (∀ I'', Stl I I'' (fr d) ((List.range (z + 1)).flatMap (fun z => (List.range ((if 1 < n then d - z else 0) + 1)).map (fun y => ((y, z) : Mo2)))) → k4 1 (nI d) (nI ((List.range (z + 1)).flatMap (fun z => (List.range ((if 1 < n then d - z else 0) + 1)).map (fun y => ((y, z) : Mo2)))).length) (nI (z + 1)) (wI M I'')) → L_Pr_lineByLast_24 k4 post (r + 1) 1 (nI d) (nI ((List.range z).flatMap (fun z => (List.range ((if 1 < n then d - z else 0) + 1)).map (fun y => ((y, z) : Mo2))) ++ (List.range y).map (fun y => ((y, z) : Mo2))).length) (nI z) (nI y) (wI M I') := by
    intro k4 z hz hzd r
    have hl1 := hlen z hz
    rw [flat_succ, List.length_append, List.length_map, List.length_range] at hl1
    induction r with
    | zero =>
      intro y I' hy hS hk
      show B_Pr_lineByLast_24 k4 _ post 1 (nI d) _ (nI z) (nI y) _
      unfold B_Pr_lineByLast_24 B_Pr_lineByLast_41
      have e : I' 1 4 = nI n := by rw [hS.1 1 (by decide)]; exact hI
      have hy2 : y = (if 1 < n then d - z else 0) + 1 := by omega
      have hk' := hk I' (by rw [flat_succ, ← hy2]; exact hS)
      rw [flat_succ, ← hy2] at hk'
      rw [gI_wI, e]
      simp (disch := omega) only [lit_nI, nI_add, pk_mul, pk_sub, pk_div, rem_n, nI_clamp, nI_leI, nI_ltI, nI_eq, in_nI]
      refine ⟨m1, fun q => ⟨fun w => hk', fun w => ?_⟩, fun q => ⟨fun w => hk', fun w => ?_⟩⟩
      · rw [if_neg (show ¬ 1 < n by omega)] at hy2; omega
      · rw [if_pos (show 1 < n by omega)] at hy2; omega
    | succ r ih =>
      intro y I' hy hS hk
      show B_Pr_lineByLast_24 k4 (L_Pr_lineByLast_24 k4 post (r + 1)) post 1 (nI d) _ (nI z) (nI y) _
      unfold B_Pr_lineByLast_24 B_Pr_lineByLast_41
      have e : I' 1 4 = nI n := by rw [hS.1 1 (by decide)]; exact hI
      have hyb : y ≤ d := by
        have : (if 1 < n then d - z else 0) ≤ d := by split <;> omega
        omega
      have hstep : vp_in (nI d) 12 ∧ T_Pr_place (nI y) (nI z) (wI M I') (fun r58 M58 => isA M58 4 8 ((fst (Int32.toNatClampNeg (nI d))) + (nI ((List.range z).flatMap (fun z => (List.range ((if 1 < n then d - z else 0) + 1)).map (fun y => ((y, z) : Mo2))) ++ (List.range y).map (fun y => ((y, z) : Mo2))).length)) ∧ L_Pr_lineByLast_24 k4 post (r + 1) 1 (nI d) ((nI ((List.range z).flatMap (fun z => (List.range ((if 1 < n then d - z else 0) + 1)).map (fun y => ((y, z) : Mo2))) ++ (List.range y).map (fun y => ((y, z) : Mo2))).length) + 1) (nI z) (nI y + 1) (sI M58 4 (Int32.toNatClampNeg ((fst (Int32.toNatClampNeg (nI d))) + (nI ((List.range z).flatMap (fun z => (List.range ((if 1 < n then d - z else 0) + 1)).map (fun y => ((y, z) : Mo2))) ++ (List.range y).map (fun y => ((y, z) : Mo2))).length))) r58)) := by
        refine ⟨(in_nI (by omega) (by omega)).mpr (by omega), sp_place (by omega) (by omega) ?_⟩
        have hl2 : ((List.range z).flatMap (fun z => (List.range ((if 1 < n then d - z else 0) + 1)).map (fun y => ((y, z) : Mo2))) ++ (List.range y).map (fun y => ((y, z) : Mo2))).length < 66 := by
          rw [List.length_append, List.length_map, List.length_range]; omega
        have hih := ih (y + 1) _ (by omega) (by have := Stl_add hS (y, z); rw [List.append_assoc, ← range_map_succ (fun y => ((y, z) : Mo2))] at this; exact this) hk
        rw [range_map_succ (fun y => ((y, z) : Mo2)), ← List.append_assoc, List.length_append] at hih
        generalize ((List.range z).flatMap (fun z => (List.range ((if 1 < n then d - z else 0) + 1)).map (fun y => ((y, z) : Mo2))) ++ (List.range y).map (fun y => ((y, z) : Mo2))).length = len at hl2 hih ⊢
        rw [nI_clamp (show d < 2147483648 by omega), hfd, nI_add, nI_clamp (by omega), sI_wI, nI_1, nI_1]
        exact ⟨arr_A m8 (by omega) (by omega), hih⟩
      rw [gI_wI, e]
      simp (disch := omega) only [lit_nI, nI_leI, nI_ltI, pk_sub]
      refine ⟨m1, fun q => ⟨fun w => ?_, fun w => ⟨m1, 4, m4, hstep⟩⟩, fun q => ⟨fun w => ?_, fun w => ⟨m1, 4, m4, hstep⟩⟩⟩
      · rw [if_neg (show ¬ 1 < n by omega)] at hy; omega
      · rw [if_pos (show 1 < n by omega)] at hy; omega
  have outer : ∀ r z I', z + r = (if 2 < n then d else 0) + 1 → Stl I I' (fr d) ((List.range z).flatMap (fun z => (List.range ((if 1 < n then d - z else 0) + 1)).map (fun y => ((y, z) : Mo2)))) → L_Pr_lineByLast_4 post (r + 1) 1 (nI d) (nI ((List.range z).flatMap (fun z => (List.range ((if 1 < n then d - z else 0) + 1)).map (fun y => ((y, z) : Mo2)))).length) (nI z) (wI M I') := by
    intro r
    induction r with
    | zero =>
      intro z I' hz hS
      show B_Pr_lineByLast_4 _ post 1 (nI d) _ (nI z) _
      unfold B_Pr_lineByLast_4 B_Pr_lineByLast_18
      have e : I' 1 4 = nI n := by rw [hS.1 1 (by decide)]; exact hI
      have hz2 : z = (if 2 < n then d else 0) + 1 := by omega
      have hzb : z ≤ 11 := by
        have : (if 2 < n then d else 0) ≤ d := by split <;> omega
        omega
      have hk := h I' (by rw [hmon, ← hz2]; exact hS)
      have hk' : post (nI ((List.range z).flatMap (fun z => (List.range ((if 1 < n then d - z else 0) + 1)).map (fun y => ((y, z) : Mo2)))).length) (wI M I') := by
        have e2 : nM n 0 d = ((List.range z).flatMap (fun z => (List.range ((if 1 < n then d - z else 0) + 1)).map (fun y => ((y, z) : Mo2)))).length := by unfold nM; rw [hmon, ← hz2]
        rw [← e2]; exact hk
      rw [gI_wI, e]
      simp (disch := omega) only [lit_nI, nI_add, pk_mul, pk_sub, pk_div, rem_n, nI_clamp, nI_leI, nI_ltI, nI_eq, in_nI]
      refine ⟨m1, fun q => ⟨fun _ => hk', fun w => ?_⟩, fun q => ⟨fun _ => hk', fun w => ?_⟩⟩
      · rw [if_neg (show ¬ 2 < n by omega)] at hz2; omega
      · rw [if_pos (show 2 < n by omega)] at hz2; omega
    | succ r ih =>
      intro z I' hz hS
      show B_Pr_lineByLast_4 (L_Pr_lineByLast_4 post (r + 1)) post 1 (nI d) _ (nI z) _
      unfold B_Pr_lineByLast_4 B_Pr_lineByLast_18
      have e : I' 1 4 = nI n := by rw [hS.1 1 (by decide)]; exact hI
      have hzZ : z ≤ (if 2 < n then d else 0) := by omega
      have hzd : z ≤ d := by
        have : (if 2 < n then d else 0) ≤ d := by split <;> omega
        omega
      have hin := inner (L_Pr_lineByLast_4 post (r + 1)) z hzZ hzd ((if 1 < n then d - z else 0) + 1) 0 I' (by omega) (by simpa using hS) (fun I'' hS'' => ih (z + 1) I'' (by omega) hS'')
      have e0 : ((List.range z).flatMap (fun z => (List.range ((if 1 < n then d - z else 0) + 1)).map (fun y => ((y, z) : Mo2))) ++ (List.range 0).map (fun y => ((y, z) : Mo2))) = (List.range z).flatMap (fun z => (List.range ((if 1 < n then d - z else 0) + 1)).map (fun y => ((y, z) : Mo2))) := by simp
      rw [e0] at hin
      rw [gI_wI, e]
      simp (disch := omega) only [lit_nI, nI_add, pk_mul, pk_sub, pk_div, rem_n, nI_clamp, nI_leI, nI_ltI, nI_eq, in_nI]
      refine ⟨m1, fun q => ⟨fun w => ?_, fun _ => ⟨_, hin⟩⟩, fun q => ⟨fun w => ?_, fun _ => ⟨_, hin⟩⟩⟩
      · rw [if_neg (show ¬ 2 < n by omega)] at hz; omega
      · rw [if_pos (show 2 < n by omega)] at hz; omega
  exact ⟨_, outer ((if 2 < n then d else 0) + 1) 0 I (by omega) ⟨fun _ _ => rfl, fun _ _ => rfl, fun i hi => by simp at hi⟩⟩
theorem sp_lineByFirst {d : Nat} {post : Int32 → Mem → Prop} (hM : PrOK M) (hn : n ≤ 3) (h1 : 1 ≤ n) (hI : I 1 4 = nI n) (hd : d ≤ 10) (h : ∀ I', Stl I I' (fr d) (mons n 1 d) → post (nI (nM n 1 d)) (wI M I')) : T_Pr_lineByFirst 1 (nI d) (wI M I) post := by
  obtain ⟨⟨m1, m2, m3, m4, m5⟩, -, -, m8, -⟩ := hM
  have hf := fr_le d (by omega)
  have hfd := fst_fr d (by omega)
  have hlen := (line_len n (by omega) d (by omega)).2
  have hmon : mons n 1 d = (List.range ((if 1 < n then d else 0) + 1)).flatMap (fun s => (List.range ((if 2 < n then s else 0) + 1)).map (fun z => ((s - z, z) : Mo2))) := by unfold mons; rw [if_neg (by decide)]
  have hfr : fr d + 66 ≤ 286 := by
    have : ∀ d, d < 11 → fr d + 66 ≤ 286 := by decide +kernel
    exact this d (by omega)
  unfold T_Pr_lineByFirst
  have inner : ∀ (k4 : Nat → Int32 → Int32 → Int32 → Mem → Prop) (z : Nat), z ≤ (if 1 < n then d else 0) → z ≤ d → ∀ r y I', y + r = (if 2 < n then z else 0) + 1 → Stl I I' (fr d) ((List.range z).flatMap (fun s => (List.range ((if 2 < n then s else 0) + 1)).map (fun z => ((s - z, z) : Mo2))) ++ (List.range y).map (fun y => ((z - y, y) : Mo2))) → (∀ I'', Stl I I'' (fr d) ((List.range (z + 1)).flatMap (fun s => (List.range ((if 2 < n then s else 0) + 1)).map (fun z => ((s - z, z) : Mo2)))) → k4 1 (nI d) (nI ((List.range (z + 1)).flatMap (fun s => (List.range ((if 2 < n then s else 0) + 1)).map (fun z => ((s - z, z) : Mo2)))).length) (nI (z + 1)) (wI M I'')) → L_Pr_lineByFirst_24 k4 post (r + 1) 1 (nI d) (nI ((List.range z).flatMap (fun s => (List.range ((if 2 < n then s else 0) + 1)).map (fun z => ((s - z, z) : Mo2))) ++ (List.range y).map (fun y => ((z - y, y) : Mo2))).length) (nI z) (nI y) (wI M I') := by
    intro k4 z hz hzd r
    have hl1 := hlen z hz
    rw [flat_succ, List.length_append, List.length_map, List.length_range] at hl1
    induction r with
    | zero =>
      intro y I' hy hS hk
      show B_Pr_lineByFirst_24 k4 _ post 1 (nI d) _ (nI z) (nI y) _
      unfold B_Pr_lineByFirst_24 B_Pr_lineByFirst_39
      have e : I' 1 4 = nI n := by rw [hS.1 1 (by decide)]; exact hI
      have hy2 : y = (if 2 < n then z else 0) + 1 := by omega
      have hk' := hk I' (by rw [flat_succ, ← hy2]; exact hS)
      rw [flat_succ, ← hy2] at hk'
      rw [gI_wI, e]
      simp (disch := omega) only [lit_nI, nI_add, pk_mul, pk_sub, pk_div, rem_n, nI_clamp, nI_leI, nI_ltI, nI_eq, in_nI]
      refine ⟨m1, fun q => ⟨fun w => hk', fun w => ?_⟩, fun q => ⟨fun w => hk', fun w => ?_⟩⟩
      · rw [if_neg (show ¬ 2 < n by omega)] at hy2; omega
      · rw [if_pos (show 2 < n by omega)] at hy2; omega
    | succ r ih =>
      intro y I' hy hS hk
      show B_Pr_lineByFirst_24 k4 (L_Pr_lineByFirst_24 k4 post (r + 1)) post 1 (nI d) _ (nI z) (nI y) _
      unfold B_Pr_lineByFirst_24 B_Pr_lineByFirst_39
      have e : I' 1 4 = nI n := by rw [hS.1 1 (by decide)]; exact hI
      have hyb : y ≤ z := by
        have : (if 2 < n then z else 0) ≤ z := by split <;> omega
        omega
      have hstep : vp_in (nI d) 12 ∧ T_Pr_place (nI z - nI y) (nI y) (wI M I') (fun r58 M58 => isA M58 4 8 ((fst (Int32.toNatClampNeg (nI d))) + (nI ((List.range z).flatMap (fun s => (List.range ((if 2 < n then s else 0) + 1)).map (fun z => ((s - z, z) : Mo2))) ++ (List.range y).map (fun y => ((z - y, y) : Mo2))).length)) ∧ L_Pr_lineByFirst_24 k4 post (r + 1) 1 (nI d) ((nI ((List.range z).flatMap (fun s => (List.range ((if 2 < n then s else 0) + 1)).map (fun z => ((s - z, z) : Mo2))) ++ (List.range y).map (fun y => ((z - y, y) : Mo2))).length) + 1) (nI z) (nI y + 1) (sI M58 4 (Int32.toNatClampNeg ((fst (Int32.toNatClampNeg (nI d))) + (nI ((List.range z).flatMap (fun s => (List.range ((if 2 < n then s else 0) + 1)).map (fun z => ((s - z, z) : Mo2))) ++ (List.range y).map (fun y => ((z - y, y) : Mo2))).length))) r58)) := by
        rw [pk_sub (show y ≤ z by omega)]
        refine ⟨(in_nI (by omega) (by omega)).mpr (by omega), sp_place (by omega) (by omega) ?_⟩
        have hl2 : ((List.range z).flatMap (fun s => (List.range ((if 2 < n then s else 0) + 1)).map (fun z => ((s - z, z) : Mo2))) ++ (List.range y).map (fun y => ((z - y, y) : Mo2))).length < 66 := by
          rw [List.length_append, List.length_map, List.length_range]; omega
        have hih := ih (y + 1) _ (by omega) (by have := Stl_add hS (z - y, y); rw [List.append_assoc, ← range_map_succ (fun y => ((z - y, y) : Mo2))] at this; exact this) hk
        rw [range_map_succ (fun y => ((z - y, y) : Mo2)), ← List.append_assoc, List.length_append] at hih
        generalize ((List.range z).flatMap (fun s => (List.range ((if 2 < n then s else 0) + 1)).map (fun z => ((s - z, z) : Mo2))) ++ (List.range y).map (fun y => ((z - y, y) : Mo2))).length = len at hl2 hih ⊢
        rw [nI_clamp (show d < 2147483648 by omega), hfd, nI_add, nI_clamp (by omega), sI_wI, nI_1, nI_1]
        exact ⟨arr_A m8 (by omega) (by omega), hih⟩
      rw [gI_wI, e]
      simp (disch := omega) only [lit_nI, nI_leI, nI_ltI]
      refine ⟨m1, fun q => ⟨fun w => ?_, fun w => ⟨m1, 4, m4, hstep⟩⟩, fun q => ⟨fun w => ?_, fun w => ⟨m1, 4, m4, hstep⟩⟩⟩
      · rw [if_neg (show ¬ 2 < n by omega)] at hy; omega
      · rw [if_pos (show 2 < n by omega)] at hy; omega
  have outer : ∀ r z I', z + r = (if 1 < n then d else 0) + 1 → Stl I I' (fr d) ((List.range z).flatMap (fun s => (List.range ((if 2 < n then s else 0) + 1)).map (fun z => ((s - z, z) : Mo2)))) → L_Pr_lineByFirst_4 post (r + 1) 1 (nI d) (nI ((List.range z).flatMap (fun s => (List.range ((if 2 < n then s else 0) + 1)).map (fun z => ((s - z, z) : Mo2)))).length) (nI z) (wI M I') := by
    intro r
    induction r with
    | zero =>
      intro z I' hz hS
      show B_Pr_lineByFirst_4 _ post 1 (nI d) _ (nI z) _
      unfold B_Pr_lineByFirst_4 B_Pr_lineByFirst_18
      have e : I' 1 4 = nI n := by rw [hS.1 1 (by decide)]; exact hI
      have hz2 : z = (if 1 < n then d else 0) + 1 := by omega
      have hzb : z ≤ 11 := by
        have : (if 1 < n then d else 0) ≤ d := by split <;> omega
        omega
      have hk := h I' (by rw [hmon, ← hz2]; exact hS)
      have hk' : post (nI ((List.range z).flatMap (fun s => (List.range ((if 2 < n then s else 0) + 1)).map (fun z => ((s - z, z) : Mo2)))).length) (wI M I') := by
        have e2 : nM n 1 d = ((List.range z).flatMap (fun s => (List.range ((if 2 < n then s else 0) + 1)).map (fun z => ((s - z, z) : Mo2)))).length := by unfold nM; rw [hmon, ← hz2]
        rw [← e2]; exact hk
      rw [gI_wI, e]
      simp (disch := omega) only [lit_nI, nI_add, pk_mul, pk_sub, pk_div, rem_n, nI_clamp, nI_leI, nI_ltI, nI_eq, in_nI]
      refine ⟨m1, fun q => ⟨fun _ => hk', fun w => ?_⟩, fun q => ⟨fun _ => hk', fun w => ?_⟩⟩
      · rw [if_neg (show ¬ 1 < n by omega)] at hz2; omega
      · rw [if_pos (show 1 < n by omega)] at hz2; omega
    | succ r ih =>
      intro z I' hz hS
      show B_Pr_lineByFirst_4 (L_Pr_lineByFirst_4 post (r + 1)) post 1 (nI d) _ (nI z) _
      unfold B_Pr_lineByFirst_4 B_Pr_lineByFirst_18
      have e : I' 1 4 = nI n := by rw [hS.1 1 (by decide)]; exact hI
      have hzZ : z ≤ (if 1 < n then d else 0) := by omega
      have hzd : z ≤ d := by
        have : (if 1 < n then d else 0) ≤ d := by split <;> omega
        omega
      have hin := inner (L_Pr_lineByFirst_4 post (r + 1)) z hzZ hzd ((if 2 < n then z else 0) + 1) 0 I' (by omega) (by simpa using hS) (fun I'' hS'' => ih (z + 1) I'' (by omega) hS'')
      have e0 : ((List.range z).flatMap (fun s => (List.range ((if 2 < n then s else 0) + 1)).map (fun z => ((s - z, z) : Mo2))) ++ (List.range 0).map (fun y => ((z - y, y) : Mo2))) = (List.range z).flatMap (fun s => (List.range ((if 2 < n then s else 0) + 1)).map (fun z => ((s - z, z) : Mo2))) := by simp
      rw [e0] at hin
      rw [gI_wI, e]
      simp (disch := omega) only [lit_nI, nI_add, pk_mul, pk_sub, pk_div, rem_n, nI_clamp, nI_leI, nI_ltI, nI_eq, in_nI]
      refine ⟨m1, fun q => ⟨fun w => ?_, fun _ => ⟨_, hin⟩⟩, fun q => ⟨fun w => ?_, fun _ => ⟨_, hin⟩⟩⟩
      · rw [if_neg (show ¬ 1 < n by omega)] at hz; omega
      · rw [if_pos (show 1 < n by omega)] at hz; omega
  exact ⟨_, outer ((if 1 < n then d else 0) + 1) 0 I (by omega) ⟨fun _ _ => rfl, fun _ _ => rfl, fun i hi => by simp at hi⟩⟩
end PR2
