/-! Base: reduce, load, inherit -/
theorem RepV_VR {p : Nat} [NeZero p] {n ord d : Nat} {g : Nat → Int32} {f : Mo2 → Fin p} (h : RepV d g f) : VR n ord d g (vec n ord d f) := fun j hj => by
  rw [h _ (atm_ok hj).1]; unfold vec; rw [if_pos hj]
theorem hom_lin {p : Nat} [NeZero p] {n d : Nat} {f g : Mo2 → Fin p} (hf : hom n d f) (hg : hom n d g) (c : Fin p) : hom n d (fun q => f q + c * g q) := (hom_sub n d).2 f g c hf hg
theorem mv_hom {p : Nat} [NeZero p] {n ord d dk : Nat} {h m : Mo2} {g : Mo2 → Fin p} (hF : ElF n ord dk h g) (hm : okm n d m) (hd : divm dk h d m) : hom n d (mv m h g) := by
  have := divm_q hm hd
  have h2 := hom_mulm hF.2.2.1 this.2
  rw [show dk + (d - dk) = d by omega] at h2
  exact h2
theorem nI_1' : (1 : Int32) = nI 1 := rfl
theorem neg_val {p : Nat} [NeZero p] (a : Fin p) : (-a).val = (p - a.val) % p := by
  rw [Fin.neg_def]
section BA2
variable {M : Mem} {I : Nat → Nat → Int32} {n ord p d b : Nat}
theorem sp_reduce [NeZero p] {a la s : Nat} {dg : Nat → Nat} {hd : Nat → Mo2} {gl : Nat → Mo2 → Fin p} {ld : Nat → Nat} {f : Mo2 → Fin p} {post : Mem → Prop} (hB : BaOK M b) (hP : PrOK M) (hNu : NuOK M) (hS : PrSt n ord I) (hNs : NuSt p I) (hp : p ≤ 97) (h1p : (1 : Fin p) ≠ 0) (hd10 : d ≤ 10) (ha : arr M a 8 la) (hla : ∀ m : Mo2, m.1 + m.2 ≤ d → pl m < la) (hla2 : la < 2147483648) (han : 8 ≤ a ∧ (a < b ∨ b + 7 < a)) (hEl : ElM n ord b s dg gl I) (hF : ∀ k, k < s → ElF n ord (dg k) (hd k) (gl k)) (hL : I (b + 7) 2147483648 = 1) (hld : ∀ i, i < nM n ord d → I (b + 7) (fr d + pl (atm n ord d i)) = nI (ld i) ∧ (ld i ≠ 0 → ld i - 1 < s ∧ divm (dg (ld i - 1)) (hd (ld i - 1)) d (atm n ord d i))) (hR : RepV d (I a) f) (hh : hom n d f) (h : ∀ g f', RepV d g f' → hom n d f' → vec n ord d f' = red (fun i => decide (ld i ≠ 0)) (fun i => vec n ord d (mv (atm n ord d i) (hd (ld i - 1)) (gl (ld i - 1)))) (vec n ord d f) (nM n ord d) → post (wI M (sAll I a g))) : T_Ba_reduce b (nI d) a (wI M I) post := by
  have hB' := hB
  obtain ⟨⟨hb, hUq⟩, ⟨kb, g0, g1, g2, g3, g4, g5, g6, g7, g8, g9, g10, g11⟩, ⟨a1, a2, a3, a4, a5, a6, a7, a8⟩, a140⟩ := hB'
  have k1 := hP.1.1
  have k6 := hNu.1
  have hNb := nM_b hS hd10
  have hfr := fr_le d (by omega)
  have hs66 := hEl.1.2.2
  have key : ∀ r i g f', i + r = nM n ord d → RepV d g f' → hom n d f' → vec n ord d f' = red (fun i => decide (ld i ≠ 0)) (fun i => vec n ord d (mv (atm n ord d i) (hd (ld i - 1)) (gl (ld i - 1)))) (vec n ord d f) i → L_Ba_reduce_2 post (r + 1) b (nI d) a (nI i) (wI M (sAll I a g)) := by
    intro r
    induction r with
    | zero =>
      intro i g f' hi hg hf' he
      have hiN : i = nM n ord d := by omega
      subst hiN
      show B_Ba_reduce_2 _ post b _ a _ _
      unfold B_Ba_reduce_2
      simp (disch := omega) only [isK_wI, isA_wI, gR_wI, gI_wI, sI_wI, true_and, and_true, Option.some.injEq, exists_eq_left', forall_const, lit_nI, nI_add, pk_mul, pk_sub, pk_div, rem_n, nI_clamp, nI_leI, nI_ltI, nI_eq, in_nI, kb, g0, k1]
      refine sp_amount hP (PrSt_kp (kp_sAll han.1) hS) hd10 ?_
      simp (disch := omega) only [isK_wI, isA_wI, gR_wI, gI_wI, sI_wI, true_and, and_true, Option.some.injEq, exists_eq_left', forall_const, lit_nI, nI_add, pk_mul, pk_sub, pk_div, rem_n, nI_clamp, nI_leI, nI_ltI, nI_eq, in_nI, kb]
      exact ⟨fun _ => h g f' hg hf' he, fun z => absurd (Nat.le_refl _) z⟩
    | succ r ih =>
      intro i g f' hi hg hf' he
      have hi2 : i < nM n ord d := by omega
      have hS' := PrSt_kp (kp_sAll (I := I) (f := g) han.1) hS
      have hok := atm_ok hi2
      have p1 := hla _ hok.1
      have p2 := pl_deg hd10 hok.1
      have e1 := hg _ hok.1
      have e2 := (hld i hi2).1
      have hlds : ld i ≤ 66 := by
        by_cases z : ld i = 0
        · omega
        · have := ((hld i hi2).2 z).1; omega
      have hv : vec n ord d f' i = f' (atm n ord d i) := if_pos hi2
      -- nothing is taken away
      have same : (f' (atm n ord d i) = 0 ∨ ld i = 0) → vec n ord d f' = red (fun i => decide (ld i ≠ 0)) (fun i => vec n ord d (mv (atm n ord d i) (hd (ld i - 1)) (gl (ld i - 1)))) (vec n ord d f) (i + 1) := fun z => by
        rw [he]
        funext j
        show _ = if decide (ld i ≠ 0) = true then _ else _
        rcases z with z | z
        · rw [← he, hv, z]; split <;> grind
        · rw [if_neg (by simp [z])]
      show B_Ba_reduce_2 (L_Ba_reduce_2 post (r + 1)) post b _ a _ _
      unfold B_Ba_reduce_2
      simp (disch := omega) only [isK_wI, isA_wI, gR_wI, gI_wI, sI_wI, true_and, and_true, Option.some.injEq, exists_eq_left', forall_const, lit_nI, nI_add, pk_mul, pk_sub, pk_div, rem_n, nI_clamp, nI_leI, nI_ltI, nI_eq, in_nI, kb, g0, k1]
      refine sp_amount hP hS' hd10 ?_
      simp (disch := omega) only [isK_wI, isA_wI, gR_wI, gI_wI, sI_wI, true_and, and_true, Option.some.injEq, exists_eq_left', forall_const, lit_nI, nI_add, pk_mul, pk_sub, pk_div, rem_n, nI_clamp, nI_leI, nI_ltI, nI_eq, in_nI, kb, g0, k1]
      refine ⟨fun z => absurd z (by omega), fun _ => ?_⟩
      refine sp_at hP hS' hd10 hi2 ?_
      unfold B_Ba_reduce_49 B_Ba_reduce_79
      simp (disch := omega) only [isK_wI, isA_wI, gR_wI, gI_wI, sI_wI, true_and, and_true, Option.some.injEq, exists_eq_left', forall_const, lit_nI, nI_add, pk_mul, pk_sub, pk_div, rem_n, nI_clamp, nI_leI, nI_ltI, nI_eq, in_nI, kb, g1, g8, k6, isA_T ha, isZ_sA (show b + 7 ≠ a by omega), isZ_T a5 (by omega) hL, sAll_eq, sAll_ne (show b + 7 ≠ a by omega), fst_fr d (by omega), e1, e2, vz hp]
      refine ⟨fun z => ⟨by omega, fun z2 => ?_, fun z2 => ?_⟩, fun z => ⟨fun _ => ih (i + 1) g f' (by omega) hg hf' (same (Or.inl z)), fun z => absurd (Nat.le_refl _) z⟩⟩
      · exact ih (i + 1) g f' (by omega) hg hf' (same (Or.inr (by omega)))
      · have hl0 : ld i ≠ 0 := by omega
        obtain ⟨y1, y2⟩ := (hld i hi2).2 hl0
        refine sp_prime hNu (NuSt_kp (kp_sAll han.1) hNs) ?_
        have hvl := (f' (atm n ord d i)).isLt
        simp (disch := omega) only [isK_wI, isA_wI, gR_wI, gI_wI, sI_wI, true_and, and_true, Option.some.injEq, exists_eq_left', forall_const, lit_nI, nI_add, pk_mul, pk_sub, pk_div, rem_n, nI_clamp, nI_leI, nI_ltI, nI_eq, in_nI, kb, isA_T ha, sAll_eq, e1]
        refine sp_addMoved (c := - f' (atm n ord d i)) hB hP hNu hS' (NuSt_kp (kp_sAll han.1) hNs) hp hd10 ha hla hla2 han (s := s) (dg := dg) (gl := gl) ?_ y1 (hF _ y1) h1p hok y2 (by rw [sAll_eq]; exact hg) (by omega) (neg_val _) (fun g' hg' => ?_)
        · obtain ⟨⟨z3, z4, z5⟩, z6⟩ := hEl
          refine ⟨⟨fun k hk => by rw [sAll_ne (by omega)]; exact z3 k hk, z4, z5⟩, fun k hk => ?_⟩
          obtain ⟨z7, z8⟩ := z6 k hk
          refine ⟨by rw [sAll_ne (by omega)]; exact z7, fun j hj hne => ?_⟩
          rw [sAll_ne (by omega)]; exact z8 j hj hne
        · rw [sAll_sAll]
          refine ih (i + 1) g' _ (by omega) hg' (hom_lin hf' (mv_hom (hF _ y1) hok y2) _) ?_
          rw [vec_lin]
          funext j
          show _ = if decide (ld i ≠ 0) = true then _ else _
          rw [if_pos (by simp [hl0]), ← he, hv]
          grind
  have := key (nM n ord d) 0 (I a) f (by omega) hR hh rfl
  rw [sAll_self] at this
  exact ⟨_, this⟩
theorem sp_loadElement [NeZero p] {a la s k : Nat} {dg : Nat → Nat} {gl : Nat → Mo2 → Fin p} {hk : Mo2} {post : Mem → Prop} (hB : BaOK M b) (hp : p ≤ 97) (ha : arr M a 8 la) (hla : 66 ≤ la) (hla2 : la < 2147483648) (han : 8 ≤ a ∧ (a < b ∨ b + 7 < a)) (hEl : ElM n ord b s dg gl I) (hks : k < s) (hF : ElF n ord (dg k) hk (gl k)) (h : ∀ g, RepV (dg k) g (gl k) → post (wI M (sAll I a g))) : T_Ba_loadElement b (nI k) a (wI M I) post := by
  obtain ⟨⟨hb, hUq⟩, ⟨kb, g0, g1, g2, g3, g4, g5, g6, g7, g8, g9, g10, g11⟩, ⟨a1, a2, a3, a4, a5, a6, a7, a8⟩, a140⟩ := hB
  obtain ⟨⟨e3, hst, hs66⟩, hEk⟩ := hEl
  obtain ⟨e4, hT⟩ := hEk k hks
  have hst1 := stt_up (n := n) (ord := ord) (dg := dg) (gl := gl) (show k + 1 ≤ s by omega)
  have hst2 : stt n ord dg gl (k + 1) = stt n ord dg gl k + ct (Qf (vec n ord (dg k) (gl k))) (nM n ord (dg k)) := rfl
  have q3 := e3 k (by omega)
  have q3' := e3 (k + 1) (by omega)
  have hd10 := hF.1
  unfold T_Ba_loadElement
  refine sp_fill2 ha hla2 ?_
  simp (disch := omega) only [isK_wI, isA_wI, gR_wI, gI_wI, sI_wI, true_and, and_true, Option.some.injEq, exists_eq_left', forall_const, lit_nI, nI_add, pk_mul, pk_sub, pk_div, rem_n, nI_clamp, nI_leI, nI_ltI, nI_eq, in_nI, kb, g6, isA_T a3, sAll_ne (show b + 1 ≠ a by omega), q3]
  have key : ∀ r j g, ct (Qf (vec n ord (dg k) (gl k))) j + r = ct (Qf (vec n ord (dg k) (gl k))) (nM n ord (dg k)) → j ≤ nM n ord (dg k) → RepV (dg k) g (fun x => if psm n ord (dg k) x < j then gl k x else 0) → L_Ba_loadElement_12 post (r + 1) b (nI k) a (nI (stt n ord dg gl k + ct (Qf (vec n ord (dg k) (gl k))) j)) (wI M (sAll I a g)) := by
    intro r
    induction r with
    | zero =>
      intro j g hj hjN hg
      show B_Ba_loadElement_12 _ post b _ a _ _
      unfold B_Ba_loadElement_12
      simp (disch := omega) only [isK_wI, isA_wI, gR_wI, gI_wI, sI_wI, true_and, and_true, Option.some.injEq, exists_eq_left', forall_const, lit_nI, nI_add, pk_mul, pk_sub, pk_div, rem_n, nI_clamp, nI_leI, nI_ltI, nI_eq, in_nI, kb, g6, isA_T a3, sAll_ne (show b + 1 ≠ a by omega), q3']
      refine ⟨fun _ => h g (RepV_cong hg (fun q hq => ?_)), fun z => absurd (by omega) z⟩
      by_cases z2 : psm n ord (dg k) q < j
      · rw [if_pos z2]
      · rw [if_neg z2]
        by_cases z3 : gl k q = 0
        · exact z3.symm
        · have z4 := psm_lt (ord := ord) (hF.2.2.1 _ z3)
          have z5 := ct_end (show ct (Qf (vec n ord (dg k) (gl k))) j = ct (Qf (vec n ord (dg k) (gl k))) (nM n ord (dg k)) by omega) (Nat.le_of_not_lt z2) z4
          rw [Qf_f] at z5
          unfold vec at z5
          rw [if_pos z4, atm_psm (hF.2.2.1 _ z3)] at z5
          exact z5.symm
    | succ r ih =>
      intro j g hj hjN hg
      obtain ⟨i, i1, i2, i3, i4, i5⟩ := ct_next (Q := Qf (vec n ord (dg k) (gl k))) (nM n ord (dg k) - j) (j := j) (N := nM n ord (dg k)) (by omega) (by omega)
      have i3' := Qf_iff.mp i3
      obtain ⟨w1, w2⟩ := hT i i2 i3'
      rw [i4] at w2
      have hvi := (vec n ord (dg k) (gl k) i).isLt
      have hok := atm_ok i2
      have hq10 : (atm n ord (dg k) i).1 + (atm n ord (dg k) i).2 ≤ 10 := by have := hok.1; omega
      have pq := pl_lt hq10
      have i6 := ct_succ_t i3
      have i7 := ct_up (Q := Qf (vec n ord (dg k) (gl k))) (show i + 1 ≤ nM n ord (dg k) by omega)
      show B_Ba_loadElement_12 (L_Ba_loadElement_12 post (r + 1)) post b _ a _ _
      unfold B_Ba_loadElement_12
      simp (disch := omega) only [isK_wI, isA_wI, gR_wI, gI_wI, sI_wI, true_and, and_true, Option.some.injEq, exists_eq_left', forall_const, lit_nI, nI_add, pk_mul, pk_sub, pk_div, rem_n, nI_clamp, nI_leI, nI_ltI, nI_eq, in_nI, kb, g4, g6, isZ_sA (show b + 6 ≠ a by omega), isZ_T a1 (by omega) w1, isA_T a3, isA_T ha, sAll_ne (show b + 1 ≠ a by omega), sAll_ne (show b + 6 ≠ a by omega), sAll_eq, q3', w2, pkA, pkS, u2_sAll]
      refine ⟨fun z => absurd z (by omega), fun _ => ?_⟩
      have hih := ih (i + 1) (upd g (pl (atm n ord (dg k) i)) (nI (vec n ord (dg k) (gl k) i).val)) (by omega) (by omega) (RepV_cong (RepV_upd hd10 hg hok.1 _) (fun q hq => ?_))
      · rw [i6, i4, ← Nat.add_assoc] at hih
        exact hih
      · by_cases y : q = atm n ord (dg k) i
        · rw [if_pos y, y, psm_atm i2, if_pos (by omega)]
          exact if_pos i2
        · rw [if_neg y]
          by_cases z3 : gl k q = 0
          · rw [z3]; split <;> split <;> rfl
          · have z4 := hF.2.2.1 _ z3
            have z5 := atm_psm (ord := ord) z4
            have z6 := psm_lt (ord := ord) z4
            have z7 : psm n ord (dg k) q ≠ i := by
              intro e
              apply y
              rw [e] at z5
              exact z5.symm
            by_cases z8 : psm n ord (dg k) q < j
            · rw [if_pos z8, if_pos (by omega)]
            · rw [if_neg z8]
              by_cases z9 : psm n ord (dg k) q < i + 1
              · exfalso
                have := i5 _ (Nat.le_of_not_lt z8) (show psm n ord (dg k) q < i by omega)
                rw [Qf_f] at this
                unfold vec at this
                rw [if_pos z6, z5] at this
                exact z3 this
              · rw [if_neg z9]
  refine ⟨_, key (ct (Qf (vec n ord (dg k) (gl k))) (nM n ord (dg k))) 0 _ (by show 0 + _ = _; omega) (by omega) (fun q hq => ?_)⟩
  rw [if_pos (by have := pl_lt (m := q) (by omega); omega)]
  show _ = nI (if psm n ord (dg k) q < 0 then gl k q else 0).val
  rw [if_neg (Nat.not_lt_zero _)]
  show _ = nI ((0 : Fin p).val)
  rw [show (0 : Fin p).val = 0 from Nat.zero_mod p]
/-- a letter's power -/
def pw (d : Nat) (m : Mo2) (l : Nat) : Nat := if l = 0 then d - m.1 - m.2 else if l = 1 then m.1 else m.2
/-- the leader of a product without a letter -/
def lbel (d : Nat) (ldm : Mo2 → Nat) (m : Mo2) (l : Nat) : Nat := if d = 0 ∨ pw d m l = 0 then 0 else ldm (m.1 - (lt2 l).1, m.2 - (lt2 l).2)
def inh (d : Nat) (ldm : Mo2 → Nat) (m : Mo2) : Nat := if lbel d ldm m 0 ≠ 0 then lbel d ldm m 0 else if lbel d ldm m 1 ≠ 0 then lbel d ldm m 1 else lbel d ldm m 2
theorem pw_low {n d l : Nat} {m : Mo2} (hm : okm n d m) (hl : l < 3) (hd : d ≠ 0) (h : pw d m l ≠ 0) : okm n (d - 1) (m.1 - (lt2 l).1, m.2 - (lt2 l).2) ∧ (lt2 l).1 ≤ m.1 ∧ (lt2 l).2 ≤ m.2 := by
  obtain ⟨h1, h2, h3⟩ := hm
  unfold pw at h
  unfold okm lt2
  have : l = 0 ∨ l = 1 ∨ l = 2 := by omega
  rcases this with rfl | rfl | rfl
  · simp at h; simp; omega
  · simp at h; simp; omega
  · simp at h; simp; omega
theorem sp_leaderBelow {l : Nat} {m : Mo2} {ldm : Mo2 → Nat} {post : Int32 → Mem → Prop} (hL : I (b + 7) 2147483648 = 1) (hB : BaOK M b) (hP : PrOK M) (hS : PrSt n ord I) (hd : d ≤ 10) (hm : okm n d m) (hl : l < 3) (hld : d ≠ 0 → ∀ q, okm n (d - 1) q → I (b + 7) (fr (d - 1) + pl q) = nI (ldm q)) (h : post (nI (lbel d ldm m l)) (wI M I)) : T_Ba_leaderBelow b (nI d) (nI (pl m)) (nI l) (wI M I) post := by
  obtain ⟨⟨hb, hUq⟩, ⟨kb, g0, g1, g2, g3, g4, g5, g6, g7, g8, g9, g10, g11⟩, ⟨a1, a2, a3, a4, a5, a6, a7, a8⟩, a140⟩ := hB
  have k1 := hP.1.1
  have hm1 := hm.1
  unfold T_Ba_leaderBelow B_Ba_leaderBelow_17
  simp (disch := omega) only [isK_wI, isA_wI, gR_wI, gI_wI, sI_wI, true_and, and_true, Option.some.injEq, exists_eq_left', forall_const, lit_nI, nI_add, pk_mul, pk_sub, pk_div, rem_n, nI_clamp, nI_leI, nI_ltI, nI_eq, in_nI, kb, g0, k1]
  refine ⟨fun z => ?_, fun z => sp_power hP hS hd hm.1 hl ?_⟩
  · unfold lbel at h; rw [if_pos (Or.inl z)] at h; exact h
  · have hpw : (if l = 0 then d - m.1 - m.2 else if l = 1 then m.1 else m.2) = pw d m l := rfl
    rw [hpw]
    have hb2 : pw d m l ≤ 10 := by unfold pw; split <;> (try split) <;> omega
    simp (disch := omega) only [isK_wI, isA_wI, gR_wI, gI_wI, sI_wI, true_and, and_true, Option.some.injEq, exists_eq_left', forall_const, lit_nI, nI_add, pk_mul, pk_sub, pk_div, rem_n, nI_clamp, nI_leI, nI_ltI, nI_eq, in_nI, kb, g0, g8, k1]
    refine ⟨fun y => ⟨by omega, ?_⟩, fun y => ?_⟩
    · obtain ⟨w1, w2⟩ := pw_low hm hl z y
      refine sp_lowered hP hS (by omega) hl w2 ?_
      have w3 := hld z _ w1
      have w4 := pl_deg (show d - 1 ≤ 10 by omega) w1.1
      have w5 := fr_le (d - 1) (by omega)
      simp (disch := omega) only [isK_wI, isA_wI, gR_wI, gI_wI, sI_wI, true_and, and_true, Option.some.injEq, exists_eq_left', forall_const, lit_nI, nI_add, pk_mul, pk_sub, pk_div, rem_n, nI_clamp, nI_leI, nI_ltI, nI_eq, in_nI, isZ_T a5 (by omega) hL, fst_fr (d - 1) (by omega), w3]
      unfold lbel at h; rw [if_neg (by omega)] at h; exact h
    · unfold lbel at h; rw [if_pos (Or.inr y)] at h; exact h
theorem sp_inherit {ldm : Mo2 → Nat} {post : Mem → Prop} (hL : I (b + 7) 2147483648 = 1) (hB : BaOK M b) (hP : PrOK M) (hS : PrSt n ord I) (hd : d ≤ 10) (hl66 : ∀ q, ldm q ≤ 66) (hld : d ≠ 0 → ∀ q, okm n (d - 1) q → I (b + 7) (fr (d - 1) + pl q) = nI (ldm q)) (h : ∀ g, g 2147483648 = 1 → (∀ j, j < fr d → g j = I (b + 7) j) → (∀ i, i < nM n ord d → g (fr d + pl (atm n ord d i)) = nI (inh d ldm (atm n ord d i))) → post (wI M (sAll I (b + 7) g))) : T_Ba_inherit b (nI d) (wI M I) post := by
  have hB' := hB
  obtain ⟨⟨hb, hUq⟩, ⟨kb, g0, g1, g2, g3, g4, g5, g6, g7, g8, g9, g10, g11⟩, ⟨a1, a2, a3, a4, a5, a6, a7, a8⟩, a140⟩ := hB'
  have k1 := hP.1.1
  have hNb := nM_b hS hd
  have hlb : ∀ m l, lbel d ldm m l ≤ 66 := fun m l => by
    unfold lbel; split
    · omega
    · exact hl66 _
  have key : ∀ r i g, i + r = nM n ord d → g 2147483648 = 1 → (∀ j, j < fr d → g j = I (b + 7) j) → (∀ j, j < i → g (fr d + pl (atm n ord d j)) = nI (inh d ldm (atm n ord d j))) → L_Ba_inherit_2 post (r + 1) b (nI d) (nI i) (wI M (sAll I (b + 7) g)) := by
    intro r
    induction r with
    | zero =>
      intro i g hi hg0 hg hg2
      have hS' := PrSt_kp (kp_sAll (I := I) (a := b + 7) (f := g) (by omega)) hS
      show B_Ba_inherit_2 _ post b _ _ _
      unfold B_Ba_inherit_2
      simp (disch := omega) only [isK_wI, isA_wI, gR_wI, gI_wI, sI_wI, true_and, and_true, Option.some.injEq, exists_eq_left', forall_const, lit_nI, nI_add, pk_mul, pk_sub, pk_div, rem_n, nI_clamp, nI_leI, nI_ltI, nI_eq, in_nI, kb, g0, k1]
      refine sp_amount hP hS' hd ?_
      simp (disch := omega) only [isK_wI, isA_wI, gR_wI, gI_wI, sI_wI, true_and, and_true, Option.some.injEq, exists_eq_left', forall_const, lit_nI, nI_add, pk_mul, pk_sub, pk_div, rem_n, nI_clamp, nI_leI, nI_ltI, nI_eq, in_nI, kb]
      exact ⟨fun _ => h g hg0 hg (fun j hj => hg2 j (by omega)), fun z => absurd (by omega) z⟩
    | succ r ih =>
      intro i g hi hg0 hg hg2
      have hi2 : i < nM n ord d := by omega
      have hS' := PrSt_kp (kp_sAll (I := I) (a := b + 7) (f := g) (by omega)) hS
      have hL' : sAll I (b + 7) g (b + 7) 2147483648 = 1 := by rw [sAll_eq]; exact hg0
      have hok := atm_ok hi2
      have p2 := pl_deg hd hok.1
      have p3 := fr_le d (by omega)
      have hld' : d ≠ 0 → ∀ q, okm n (d - 1) q → sAll I (b + 7) g (b + 7) (fr (d - 1) + pl q) = nI (ldm q) := fun z q hq => by
        have w4 := pl_deg (show d - 1 ≤ 10 by omega) hq.1
        rw [show d - 1 + 1 = d by omega] at w4
        rw [sAll_eq, hg _ w4]; exact hld z q hq
      show B_Ba_inherit_2 (L_Ba_inherit_2 post (r + 1)) post b _ _ _
      unfold B_Ba_inherit_2
      simp (disch := omega) only [isK_wI, isA_wI, gR_wI, gI_wI, sI_wI, true_and, and_true, Option.some.injEq, exists_eq_left', forall_const, lit_nI, nI_add, pk_mul, pk_sub, pk_div, rem_n, nI_clamp, nI_leI, nI_ltI, nI_eq, in_nI, kb, g0, k1]
      refine sp_amount hP hS' hd ?_
      simp (disch := omega) only [isK_wI, isA_wI, gR_wI, gI_wI, sI_wI, true_and, and_true, Option.some.injEq, exists_eq_left', forall_const, lit_nI, nI_add, pk_mul, pk_sub, pk_div, rem_n, nI_clamp, nI_leI, nI_ltI, nI_eq, in_nI, kb, g0, k1]
      refine ⟨fun z => absurd z (by omega), fun _ => ?_⟩
      refine sp_at hP hS' hd hi2 ?_
      -- the store
      have fin : ∀ v, v = inh d ldm (atm n ord d i) → B_Ba_inherit_57 (L_Ba_inherit_2 post (r + 1)) post b (nI d) (nI i) (nI (pl (atm n ord d i))) (nI v) (wI M (sAll I (b + 7) g)) := by
        intro v hv
        unfold B_Ba_inherit_57
        simp (disch := omega) only [isK_wI, isA_wI, gR_wI, gI_wI, sI_wI, true_and, and_true, Option.some.injEq, exists_eq_left', forall_const, lit_nI, nI_add, pk_mul, pk_sub, pk_div, rem_n, nI_clamp, nI_leI, nI_ltI, nI_eq, in_nI, kb, g8, isZ_T a5 (by omega) hL', fst_fr d (by omega), u2_sAll]
        refine ⟨by omega, ih (i + 1) _ (by omega) (by rw [upd_ne (by omega)]; exact hg0) (fun j hj => ?_) (fun j hj => ?_)⟩
        · rw [upd_ne (by omega)]; exact hg j hj
        · by_cases z : j = i
          · subst z; rw [upd_eq, hv]
          · rw [upd_ne (fun e => z (plInj hd (by omega) hi2 (by omega)))]; exact hg2 j (by omega)
      refine ⟨4, ?_⟩
      have hi0 := hlb (atm n ord d i) 0
      have hi1 := hlb (atm n ord d i) 1
      have hi22 := hlb (atm n ord d i) 2
      show B_Ba_inherit_30 _ (L_Ba_inherit_30 _ post 3) post b _ _ _ 0 0 _
      unfold B_Ba_inherit_30
      simp (disch := omega) only [isK_wI, isA_wI, gR_wI, gI_wI, sI_wI, true_and, and_true, Option.some.injEq, exists_eq_left', forall_const, lit_nI, nI_add, pk_mul, pk_sub, pk_div, rem_n, nI_clamp, nI_leI, nI_ltI, nI_eq, in_nI, kb]
      refine ⟨fun z => absurd z (by omega), fun _ => ⟨fun z => absurd trivial z, ?_⟩⟩
      refine sp_leaderBelow (l := 0) hL' hB hP hS' hd hok (by omega) hld' ?_
      show B_Ba_inherit_30 _ (L_Ba_inherit_30 _ post 2) post b _ _ _ _ (0 + 1) _
      unfold B_Ba_inherit_30
      simp (disch := omega) only [isK_wI, isA_wI, gR_wI, gI_wI, sI_wI, true_and, and_true, Option.some.injEq, exists_eq_left', forall_const, lit_nI, nI_add, pk_mul, pk_sub, pk_div, rem_n, nI_clamp, nI_leI, nI_ltI, nI_eq, in_nI, kb]
      refine ⟨fun z => absurd z (by omega), fun _ => ⟨fun z => fin _ ?_, fun z0 => ?_⟩⟩
      · unfold inh; rw [if_pos z]
      refine sp_leaderBelow (l := 1) hL' hB hP hS' hd hok (by omega) hld' ?_
      show B_Ba_inherit_30 _ (L_Ba_inherit_30 _ post 1) post b _ _ _ _ (1 + 1) _
      unfold B_Ba_inherit_30
      simp (disch := omega) only [isK_wI, isA_wI, gR_wI, gI_wI, sI_wI, true_and, and_true, Option.some.injEq, exists_eq_left', forall_const, lit_nI, nI_add, pk_mul, pk_sub, pk_div, rem_n, nI_clamp, nI_leI, nI_ltI, nI_eq, in_nI, kb]
      refine ⟨fun z => absurd z (by omega), fun _ => ⟨fun z => fin _ ?_, fun z1 => ?_⟩⟩
      · unfold inh; rw [if_neg (by omega), if_pos z]
      refine sp_leaderBelow (l := 2) hL' hB hP hS' hd hok (by omega) hld' ?_
      show B_Ba_inherit_30 _ (L_Ba_inherit_30 _ post 0) post b _ _ _ _ (2 + 1) _
      unfold B_Ba_inherit_30
      simp (disch := omega) only [isK_wI, isA_wI, gR_wI, gI_wI, sI_wI, true_and, and_true, Option.some.injEq, exists_eq_left', forall_const, lit_nI, nI_add, pk_mul, pk_sub, pk_div, rem_n, nI_clamp, nI_leI, nI_ltI, nI_eq, in_nI, kb]
      refine ⟨fun _ => fin _ ?_, fun z => absurd (by omega) z⟩
      unfold inh; rw [if_neg (by omega), if_neg (by omega)]
  have := key (nM n ord d) 0 (I (b + 7)) (by omega) hL (fun j hj => rfl) (fun j hj => absurd hj (by omega))
  rw [sAll_self] at this
  exact ⟨_, this⟩
end BA2
