/-! Base: the differences -/
def MOK (M : Mem) : Prop := PrOK M ∧ NuOK M ∧ RoOK M
/-- the class's settings -/
def Cfg (n ord p : Nat) (I : Nat → Nat → Int32) : Prop := PrSt n ord I ∧ NuSt p I ∧ prm p = true
theorem Cfg_kp {n ord p : Nat} {I I' : Nat → Nat → Int32} (h : ∀ c, c < 8 → I' c = I c) (hS : Cfg n ord p I) : Cfg n ord p I' := ⟨PrSt_kp h hS.1, NuSt_kp h hS.2.1, hS.2.2⟩
theorem lbel_ok {n d l : Nat} {m : Mo2} {ldm : Mo2 → Nat} (hm : okm n d m) (hl : l < 3) (h : lbel d ldm m l ≠ 0) : d ≠ 0 ∧ pw d m l ≠ 0 ∧ okm n 1 (lt2 l) ∧ okm n (d - 1) (m.1 - (lt2 l).1, m.2 - (lt2 l).2) ∧ m = ((lt2 l).1 + (m.1 - (lt2 l).1), (lt2 l).2 + (m.2 - (lt2 l).2)) ∧ lbel d ldm m l = ldm (m.1 - (lt2 l).1, m.2 - (lt2 l).2) := by
  unfold lbel at h ⊢
  by_cases q : d = 0 ∨ pw d m l = 0
  · rw [if_pos q] at h; exact absurd rfl h
  · rw [if_neg q]
    have q1 : d ≠ 0 := fun e => q (Or.inl e)
    have q2 : pw d m l ≠ 0 := fun e => q (Or.inr e)
    obtain ⟨w1, w2, w3⟩ := pw_low hm hl q1 q2
    refine ⟨q1, q2, ?_, w1, ?_, rfl⟩
    · obtain ⟨h1, h2, h3⟩ := hm
      unfold okm lt2 at *
      have : l = 0 ∨ l = 1 ∨ l = 2 := by omega
      rcases this with rfl | rfl | rfl
      · simp
      · simp at w2 ⊢; omega
      · simp at w3 ⊢; omega
    · apply Prod.ext <;> simp only <;> omega
/-- the leader that is inherited at a position -/
def ihf (n ord d : Nat) (ldm : Mo2 → Nat) (i : Nat) : Nat := if i < nM n ord d then inh d ldm (atm n ord d i) else 0
theorem inh_ex {d : Nat} {ldm : Mo2 → Nat} {m : Mo2} : ∃ l, l < 3 ∧ inh d ldm m = lbel d ldm m l := by
  unfold inh
  split
  · exact ⟨0, by omega, rfl⟩
  · split
    · exact ⟨1, by omega, rfl⟩
    · exact ⟨2, by omega, rfl⟩
theorem inh_ne {d l : Nat} {ldm : Mo2 → Nat} {m : Mo2} (hl : l < 3) (h : lbel d ldm m l ≠ 0) : inh d ldm m ≠ 0 := by
  unfold inh
  have : l = 0 ∨ l = 1 ∨ l = 2 := by omega
  rcases this with rfl | rfl | rfl
  · rw [if_pos h]; exact h
  · split
    · assumption
    · exact h
  · split
    · assumption
    · split
      · assumption
      · exact h
theorem inh_0 {d : Nat} {ldm : Mo2 → Nat} {m : Mo2} (h : lbel d ldm m 0 ≠ 0) : inh d ldm m = lbel d ldm m 0 := by unfold inh; rw [if_pos h]
/-- the elements below degree d, and the leaders of degree d - 1 -/
def Els {p : Nat} [NeZero p] (n ord d s : Nat) (dg : Nat → Nat) (hd : Nat → Mo2) (gl : Nat → Mo2 → Fin p) (ldm : Mo2 → Nat) : Prop := (∀ k, k < s → ElF n ord (dg k) (hd k) (gl k)) ∧ (∀ q, ldm q ≤ s) ∧ s ≤ 66 ∧ ∀ q, okm n (d - 1) q → d ≠ 0 → ldm q ≠ 0 → divm (dg (ldm q - 1)) (hd (ldm q - 1)) (d - 1) q
theorem Els.lb {p : Nat} [NeZero p] {n ord d s : Nat} {dg : Nat → Nat} {hd : Nat → Mo2} {gl : Nat → Mo2 → Fin p} {ldm : Mo2 → Nat} (h : Els n ord d s dg hd gl ldm) {m : Mo2} (hm : okm n d m) {l : Nat} (hl : l < 3) (hne : lbel d ldm m l ≠ 0) : lbel d ldm m l - 1 < s ∧ divm (dg (lbel d ldm m l - 1)) (hd (lbel d ldm m l - 1)) d m := by
  obtain ⟨h1, h2, h3, h4, h5, h6⟩ := lbel_ok hm hl hne
  have := h.2.1 (m.1 - (lt2 l).1, m.2 - (lt2 l).2)
  rw [h6] at hne ⊢
  refine ⟨by omega, ?_⟩
  have h7 := divm_up h3 (h.2.2.2 _ h4 h1 hne)
  rw [show d - 1 + 1 = d by omega, ← h5] at h7
  exact h7
theorem Els.ih {p : Nat} [NeZero p] {n ord d s : Nat} {dg : Nat → Nat} {hd : Nat → Mo2} {gl : Nat → Mo2 → Fin p} {ldm : Mo2 → Nat} (h : Els n ord d s dg hd gl ldm) {i : Nat} (hne : ihf n ord d ldm i ≠ 0) : i < nM n ord d ∧ ihf n ord d ldm i - 1 < s ∧ divm (dg (ihf n ord d ldm i - 1)) (hd (ihf n ord d ldm i - 1)) d (atm n ord d i) := by
  unfold ihf at hne ⊢
  by_cases q : i < nM n ord d
  · rw [if_pos q] at hne ⊢
    obtain ⟨l, hl, e⟩ := inh_ex (d := d) (ldm := ldm) (m := atm n ord d i)
    rw [e] at hne ⊢
    exact ⟨q, h.lb (atm_ok q) hl hne⟩
  · rw [if_neg q] at hne; exact absurd rfl hne
/-- the moved leaders of degree d -/
def eff {p : Nat} [NeZero p] (n ord d : Nat) (hd : Nat → Mo2) (gl : Nat → Mo2 → Fin p) (ldm : Mo2 → Nat) (i : Nat) : Nat → Fin p := vec n ord d (mv (atm n ord d i) (hd (ihf n ord d ldm i - 1)) (gl (ihf n ord d ldm i - 1)))
def Pih (n ord d : Nat) (ldm : Mo2 → Nat) : Nat → Bool := fun i => decide (ihf n ord d ldm i ≠ 0)
def Esp {p : Nat} [NeZero p] (n ord d : Nat) (hd : Nat → Mo2) (gl : Nat → Mo2 → Fin p) (ldm : Mo2 → Nat) : (Nat → Fin p) → Prop := Spn (fun s => ∃ i, Pih n ord d ldm i = true ∧ s = eff n ord d hd gl ldm i)
theorem mv_vec0' {p : Nat} [NeZero p] {n ord dk d : Nat} {h m : Mo2} {g : Mo2 → Fin p} (hE : ElF n ord dk h g) (hm : okm n d m) (hd : divm dk h d m) : vec n ord d (mv m h g) (psm n ord d m) = 1 ∧ ∀ j, j < psm n ord d m → vec n ord d (mv m h g) j = 0 :=
  mv_vec0 (G := fun e f => hom n e f) ⟨hE.2.1, VP_row hE.2.2.1, hE.2.2.2⟩ hm hd
theorem Els.ech {p : Nat} [NeZero p] {n ord d s : Nat} {dg : Nat → Nat} {hd : Nat → Mo2} {gl : Nat → Mo2 → Fin p} {ldm : Mo2 → Nat} (h : Els n ord d s dg hd gl ldm) : Ech (nM n ord d) (Esp n ord d hd gl ldm) (Pih n ord d ldm) (eff n ord d hd gl ldm) := by
  refine Ech_spn (fun i hi => ?_)
  have hne : ihf n ord d ldm i ≠ 0 := by simpa [Pih] using hi
  obtain ⟨h1, h2, h3⟩ := h.ih hne
  have := mv_vec0' (ord := ord) (h.1 _ h2) (atm_ok h1) h3
  rw [psm_atm h1] at this
  exact ⟨h1, this⟩
/-- both lazy arrays have been made -/
def Fl (b : Nat) (I : Nat → Nat → Int32) : Prop := I (b + 6) 2147483648 = 1 ∧ I (b + 7) 2147483648 = 1
/-- memory while a degree is being built -/
def OpI {p : Nat} [NeZero p] (n ord b d s : Nat) (dg : Nat → Nat) (gl : Nat → Mo2 → Fin p) (ldm : Mo2 → Nat) (I : Nat → Nat → Int32) : Prop := ((I b 12 = nI s ∧ Fl b I) ∧ ElM n ord b s dg gl I) ∧ (d ≠ 0 → ∀ q, okm n (d - 1) q → I (b + 7) (fr (d - 1) + pl q) = nI (ldm q)) ∧ ∀ i, i < nM n ord d → I (b + 7) (fr d + pl (atm n ord d i)) = nI (ihf n ord d ldm i)
theorem ElM_kp {p : Nat} [NeZero p] {n ord b s : Nat} {dg : Nat → Nat} {gl : Nat → Mo2 → Fin p} {I I' : Nat → Nat → Int32} (h : ∀ c, b ≤ c → c ≤ b + 7 → (c < b + 3 ∨ b + 5 < c) → I' c = I c) (hE : ElM n ord b s dg gl I) : ElM n ord b s dg gl I' := by
  obtain ⟨⟨z3, z4, z5⟩, z6⟩ := hE
  refine ⟨⟨fun k hk => by rw [h _ (by omega) (by omega) (by omega)]; exact z3 k hk, z4, z5⟩, fun k hk => ?_⟩
  obtain ⟨z7, z8⟩ := z6 k hk
  refine ⟨by rw [h _ (by omega) (by omega) (by omega)]; exact z7, fun j hj hne => ?_⟩
  rw [h _ (by omega) (by omega) (by omega)]; exact z8 j hj hne
theorem OpI_kp {p : Nat} [NeZero p] {n ord b d s : Nat} {dg : Nat → Nat} {gl : Nat → Mo2 → Fin p} {ldm : Mo2 → Nat} {I I' : Nat → Nat → Int32} (h : ∀ c, b ≤ c → c ≤ b + 7 → (c < b + 3 ∨ b + 5 < c) → I' c = I c) (hE : OpI n ord b d s dg gl ldm I) : OpI n ord b d s dg gl ldm I' := by
  obtain ⟨⟨h1, h2⟩, h3, h4⟩ := hE
  refine ⟨⟨⟨by rw [h _ (by omega) (by omega) (by omega)]; exact h1.1, by rw [h _ (by omega) (by omega) (by omega)]; exact h1.2.1, by rw [h _ (by omega) (by omega) (by omega)]; exact h1.2.2⟩, ElM_kp h h2⟩, fun z q hq => by rw [h _ (by omega) (by omega) (by omega)]; exact h3 z q hq, fun i hi => by rw [h _ (by omega) (by omega) (by omega)]; exact h4 i hi⟩
/-- two elements tell nothing new at a product -/
def noNews (d : Nat) (m : Mo2) (da : Nat) (ha : Mo2) (db : Nat) (hb : Mo2) : Prop := (∃ l, l < 3 ∧ max (pw da ha l) (pw db hb l) ≠ pw d m l) ∨ ((∀ l, l < 3 → max (pw da ha l) (pw db hb l) = pw d m l) ∧ ∀ l, l < 3 → min (pw da ha l) (pw db hb l) = 0)
section BA4
variable {M : Mem} {I : Nat → Nat → Int32} {n ord p d b s : Nat} {dg : Nat → Nat} {hd : Nat → Mo2} {ldm : Mo2 → Nat}
theorem pw_le {d : Nat} {m : Mo2} (hm : m.1 + m.2 ≤ d) (l : Nat) : pw d m l ≤ d := by unfold pw; split <;> (try split) <;> omega
theorem head_mem [NeZero p] {gl : Nat → Mo2 → Fin p} {k : Nat} (h1p : (1 : Fin p) ≠ 0) (hEl : ElM n ord b s dg gl I) (hF : ElF n ord (dg k) (hd k) (gl k)) (hk : k < s) : I (b + 2) k = nI (dg k) ∧ I (b + 1) k = nI (stt n ord dg gl k) ∧ stt n ord dg gl k < 2560 ∧ (∃ w, w ≤ 1 ∧ I (b + 6) (stt n ord dg gl k) = nI (128 * w + pl (hd k))) ∧ I (b + 6) 2147483648 = 1 := by
  obtain ⟨⟨e3, hst, hs66⟩, hEk⟩ := hEl
  obtain ⟨e4, hT⟩ := hEk k hk
  have hN := psm_lt (ord := ord) hF.2.1
  obtain ⟨hfl, hh⟩ := hT (psm n ord (dg k) (hd k)) hN (by rw [hF.at]; exact h1p)
  rw [hF.ct0, atm_psm hF.2.1, hF.at] at hh
  have z1 := ct_succ_t (Q := Qf (vec n ord (dg k) (gl k))) (j := psm n ord (dg k) (hd k)) (Qf_iff.mpr (by rw [hF.at]; exact h1p))
  have z2 := ct_up (Q := Qf (vec n ord (dg k) (gl k))) (show psm n ord (dg k) (hd k) + 1 ≤ nM n ord (dg k) by omega)
  have hst1 := stt_up (n := n) (ord := ord) (dg := dg) (gl := gl) (show k + 1 ≤ s by omega)
  have hst2 : stt n ord dg gl (k + 1) = stt n ord dg gl k + ct (Qf (vec n ord (dg k) (gl k))) (nM n ord (dg k)) := rfl
  have h1 : (1 : Fin p).val ≤ 1 := Nat.mod_le 1 p
  refine ⟨e4, e3 k (by omega), by omega, ⟨(1 : Fin p).val, h1, ?_⟩, hfl⟩
  exact hh
theorem sp_isNews [NeZero p] {gl : Nat → Mo2 → Fin p} {ka kb : Nat} {m : Mo2} {post : Int32 → Mem → Prop} (hB : BaOK M b) (hP : PrOK M) (hS : PrSt n ord I) (h1p : (1 : Fin p) ≠ 0) (hd10 : d ≤ 10) (hm : okm n d m) (hEl : ElM n ord b s dg gl I) (hF : ∀ k, k < s → ElF n ord (dg k) (hd k) (gl k)) (hka : ka < s) (hkb : kb < s) (h1 : post 1 (wI M I)) (h0 : noNews d m (dg ka) (hd ka) (dg kb) (hd kb) → post 0 (wI M I)) : T_Ba_isNews b (nI d) (nI (pl m)) (nI ka) (nI kb) (wI M I) post := by
  obtain ⟨⟨hb, hUq⟩, ⟨kbb, g0, g1, g2, g3, g4, g5, g6, g7, g8, g9, g10, g11⟩, ⟨a1, a2, a3, a4, a5, a6, a7, a8⟩, a140⟩ := hB
  have k1 := hP.1.1
  have hs66 := hEl.1.2.2
  obtain ⟨u1, u2', u3, ⟨wa, hwa, u4⟩, hfl⟩ := head_mem h1p hEl (hF ka hka) hka
  obtain ⟨v1, v2, v3, ⟨wb, hwb, v4⟩, _⟩ := head_mem h1p hEl (hF kb hkb) hkb
  have hA := (hF ka hka)
  have hBk := (hF kb hkb)
  have key : ∀ r l sh, l + r = 3 → (sh = 1 ∨ (sh = 0 ∧ ∀ j, j < l → min (pw (dg ka) (hd ka) j) (pw (dg kb) (hd kb) j) = 0)) → (∀ j, j < l → max (pw (dg ka) (hd ka) j) (pw (dg kb) (hd kb) j) = pw d m j) → L_Ba_isNews_39 post (r + 1) b (nI d) (nI (pl m)) (nI ka) (nI kb) (nI (pl (hd ka))) (nI (pl (hd kb))) (nI sh) (nI l) (wI M I) := by
    intro r
    induction r with
    | zero =>
      intro l sh hl hsh hmx
      show B_Ba_isNews_39 _ post b _ _ _ _ _ _ _ _ _
      unfold B_Ba_isNews_39
      simp (disch := omega) only [isK_wI, isA_wI, gR_wI, gI_wI, sI_wI, true_and, and_true, Option.some.injEq, exists_eq_left', forall_const, not_true_eq_false, not_false_eq_true, false_implies, true_implies, ne_eq, lit_nI, nI_add, pk_mul, pk_sub, pk_div, rem_n, nI_clamp, nI_leI, nI_ltI, nI_eq, in_nI, kbb]
      refine ⟨fun _ => ?_, fun z => absurd (by omega) z⟩
      rcases hsh with rfl | ⟨rfl, hsh⟩
      · exact ⟨rfl, h1⟩
      · exact ⟨rfl, h0 (Or.inr ⟨fun l hl => hmx l (by omega), fun l hl => hsh l (by omega)⟩)⟩
    | succ r ih =>
      intro l sh hl hsh hmx
      have hl3 : l < 3 := by omega
      have p1 := pw_le hA.2.1.1 l
      have p2 := pw_le hBk.2.1.1 l
      have p3 := pw_le hm.1 l
      have q1 := hA.1
      have q2 := hBk.1
      show B_Ba_isNews_39 (L_Ba_isNews_39 post (r + 1)) post b _ _ _ _ _ _ _ _ _
      unfold B_Ba_isNews_39 B_Ba_isNews_122 B_Ba_isNews_127
      simp (disch := omega) only [isK_wI, isA_wI, gR_wI, gI_wI, sI_wI, true_and, and_true, Option.some.injEq, exists_eq_left', forall_const, not_true_eq_false, not_false_eq_true, false_implies, true_implies, ne_eq, lit_nI, nI_add, pk_mul, pk_sub, pk_div, rem_n, nI_clamp, nI_leI, nI_ltI, nI_eq, in_nI, kbb, g0, g7, k1, isA_T a4, u1]
      refine ⟨fun z => absurd z (by omega), fun _ => ?_⟩
      refine sp_power hP hS hA.1 hA.2.1.1 hl3 ?_
      simp (disch := omega) only [isK_wI, isA_wI, gR_wI, gI_wI, sI_wI, true_and, and_true, Option.some.injEq, exists_eq_left', forall_const, not_true_eq_false, not_false_eq_true, false_implies, true_implies, ne_eq, lit_nI, nI_add, pk_mul, pk_sub, pk_div, rem_n, nI_clamp, nI_leI, nI_ltI, nI_eq, in_nI, kbb, g0, g7, k1, isA_T a4, v1]
      refine sp_power hP hS hBk.1 hBk.2.1.1 hl3 ?_
      refine sp_max (by have : pw (dg ka) (hd ka) l ≤ 10 := by omega
                        exact Nat.lt_of_le_of_lt this (by omega)) (by have : pw (dg kb) (hd kb) l ≤ 10 := by omega
                                                                      exact Nat.lt_of_le_of_lt this (by omega)) ?_
      simp (disch := omega) only [isK_wI, isA_wI, gR_wI, gI_wI, sI_wI, true_and, and_true, Option.some.injEq, exists_eq_left', forall_const, not_true_eq_false, not_false_eq_true, false_implies, true_implies, ne_eq, lit_nI, nI_add, pk_mul, pk_sub, pk_div, rem_n, nI_clamp, nI_leI, nI_ltI, nI_eq, in_nI, kbb, g0, k1]
      refine sp_power hP hS hd10 hm.1 hl3 ?_
      have f1 : (if l = 0 then dg ka - (hd ka).1 - (hd ka).2 else if l = 1 then (hd ka).1 else (hd ka).2) = pw (dg ka) (hd ka) l := rfl
      have f2 : (if l = 0 then dg kb - (hd kb).1 - (hd kb).2 else if l = 1 then (hd kb).1 else (hd kb).2) = pw (dg kb) (hd kb) l := rfl
      have f3 : (if l = 0 then d - m.1 - m.2 else if l = 1 then m.1 else m.2) = pw d m l := rfl
      rw [f1, f2, f3]
      have hsh1 : sh ≤ 1 := by omega
      simp (disch := omega) only [isK_wI, isA_wI, gR_wI, gI_wI, sI_wI, true_and, and_true, Option.some.injEq, exists_eq_left', forall_const, not_true_eq_false, not_false_eq_true, false_implies, true_implies, ne_eq, lit_nI, nI_add, pk_mul, pk_sub, pk_div, rem_n, nI_clamp, nI_leI, nI_ltI, nI_eq, in_nI, kbb]
      refine ⟨fun z => ⟨fun z2 => ?_, fun z2 => ?_⟩, fun z => ⟨rfl, h0 (Or.inl ⟨l, hl3, z⟩)⟩⟩
      · refine ih (l + 1) 1 (by omega) (Or.inl rfl) (fun j hj => ?_)
        by_cases y : j = l
        · rw [y]; exact z
        · exact hmx j (by omega)
      · refine sp_min (by omega) (by omega) ?_
        have hmx' : ∀ j, j < l + 1 → max (pw (dg ka) (hd ka) j) (pw (dg kb) (hd kb) j) = pw d m j := fun j hj => by
          by_cases y : j = l
          · rw [y]; exact z
          · exact hmx j (by omega)
        simp (disch := omega) only [isK_wI, isA_wI, gR_wI, gI_wI, sI_wI, true_and, and_true, Option.some.injEq, exists_eq_left', forall_const, not_true_eq_false, not_false_eq_true, false_implies, true_implies, ne_eq, lit_nI, nI_add, pk_mul, pk_sub, pk_div, rem_n, nI_clamp, nI_leI, nI_ltI, nI_eq, in_nI, kbb]
        refine ⟨fun y => ?_, fun y => ih (l + 1) 1 (by omega) (Or.inl rfl) hmx'⟩
        refine ih (l + 1) 0 (by omega) (Or.inr ⟨rfl, fun j hj => ?_⟩) hmx'
        by_cases x : j = l
        · rw [x]; omega
        · rcases hsh with hsh | ⟨_, hsh⟩
          · omega
          · exact hsh j (by omega)
  have pla := pl_lt (m := hd ka) (by have := hA.1; have := hA.2.1.1; omega)
  have plb := pl_lt (m := hd kb) (by have := hBk.1; have := hBk.2.1.1; omega)
  unfold T_Ba_isNews
  simp (disch := omega) only [isK_wI, isA_wI, gR_wI, gI_wI, sI_wI, true_and, and_true, Option.some.injEq, exists_eq_left', forall_const, not_true_eq_false, not_false_eq_true, false_implies, true_implies, ne_eq, lit_nI, nI_add, pk_mul, pk_sub, pk_div, rem_n, nI_clamp, nI_leI, nI_ltI, nI_eq, in_nI, kbb, g4, g6, isA_T a3, isZ_T a1 (by omega) hfl, u2', v2, u4, v4, pkA]
  exact ⟨_, key 3 0 0 (by omega) (Or.inr ⟨rfl, fun j hj => absurd hj (by omega)⟩) (fun j hj => absurd hj (by omega))⟩
theorem sp_offerMoved [NeZero p] {gl : Nat → Mo2 → Fin p} {k : Nat} {m : Mo2} {R : (Nat → Fin p) → Prop} {Q : Nat → Bool} {e : Nat → Nat → Fin p} {post : Mem → Prop} (hB : BaOK M b) (hM : MOK M) (hC : Cfg n ord p I) (hd10 : d ≤ 10) (hm : okm n d m) (hEs : Els n ord d s dg hd gl ldm) (hO : OpI n ord b d s dg gl ldm I) (hRo : RoSt n ord d R Q e I) (hk : k < s) (hdv : divm (dg k) (hd k) d m)
    (h : ∀ I' Q' e', RoSt n ord d (more R (red (Pih n ord d ldm) (eff n ord d hd gl ldm) (vec n ord d (mv m (hd k) (gl k))) (nM n ord d))) Q' e' I' → (∀ c, c ≠ 140 → (c < 8 ∨ 77 < c) → I' c = I c) → post (wI M I')) : T_Ba_offerMoved b (nI d) (nI (pl m)) (nI k) (wI M I) post := by
  have hB' := hB
  obtain ⟨⟨hb, hUq⟩, ⟨kbb, g0, g1, g2, g3, g4, g5, g6, g7, g8, g9, g10, g11⟩, ⟨a1, a2, a3, a4, a5, a6, a7, a8⟩, a140⟩ := hB'
  obtain ⟨hP, hNu, hRoM⟩ := hM
  have k8 := hRoM.1.1
  have hp := hC.2.2
  have hF := prm_field hp
  have hp97 := (prm_lt hp).2
  have hNb := nM_b hC.1 hd10
  have la66 : ∀ m : Mo2, m.1 + m.2 ≤ d → pl m < 66 := fun m hm => pl_lt (by omega)
  unfold T_Ba_offerMoved
  simp (disch := omega) only [isK_wI, isA_wI, gR_wI, gI_wI, sI_wI, true_and, and_true, Option.some.injEq, exists_eq_left', forall_const, not_true_eq_false, not_false_eq_true, false_implies, true_implies, ne_eq, lit_nI, nI_add, pk_mul, pk_sub, pk_div, rem_n, nI_clamp, nI_leI, nI_ltI, nI_eq, in_nI, kbb, g3]
  refine sp_fill2 a140 (by omega) ?_
  simp (disch := omega) only [isK_wI, isA_wI, gR_wI, gI_wI, sI_wI, true_and, and_true, Option.some.injEq, exists_eq_left', forall_const, not_true_eq_false, not_false_eq_true, false_implies, true_implies, ne_eq, lit_nI, nI_add, pk_mul, pk_sub, pk_div, rem_n, nI_clamp, nI_leI, nI_ltI, nI_eq, in_nI, kbb, g3]
  have kk : ∀ (f : Nat → Int32) c, b ≤ c → c ≤ b + 7 → (c < b + 3 ∨ b + 5 < c) → sAll I 140 f c = I c := fun f c h1 h2 _ => sAll_ne (by omega)
  refine sp_addMoved (c := 1) (f := fun _ => 0) hB hP hNu (PrSt_kp (kp_sAll (by omega)) hC.1) (NuSt_kp (kp_sAll (by omega)) hC.2.1) hp97 hd10 a140 la66 (by omega) ⟨by omega, by omega⟩ (ElM_kp (kk _) hO.1.2) hk (hEs.1 k hk) hF.1 hm hdv ?_ (by omega) ?_ (fun g hg => ?_)
  · intro q hq
    rw [sAll_eq, if_pos (la66 q hq)]
    show _ = nI ((0 : Fin p).val)
    rw [show (0 : Fin p).val = 0 from Nat.zero_mod p]
  · rfl
  · rw [sAll_sAll]
    simp (disch := omega) only [isK_wI, isA_wI, gR_wI, gI_wI, sI_wI, true_and, and_true, Option.some.injEq, exists_eq_left', forall_const, not_true_eq_false, not_false_eq_true, false_implies, true_implies, ne_eq, lit_nI, nI_add, pk_mul, pk_sub, pk_div, rem_n, nI_clamp, nI_leI, nI_ltI, nI_eq, in_nI, kbb, g3]
    have hg' : RepV d g (mv m (hd k) (gl k)) := RepV_cong hg (fun q hq => by grind)
    have hO2 := OpI_kp (kk g) hO
    refine sp_reduce (ld := ihf n ord d ldm) (hd := hd) hB hP hNu (PrSt_kp (kp_sAll (by omega)) hC.1) (NuSt_kp (kp_sAll (by omega)) hC.2.1) hp97 hF.1 hd10 a140 la66 (by omega) ⟨by omega, by omega⟩ hO2.1.2 hEs.1 hO2.1.1.2.2 (fun i hi => ⟨hO2.2.2 i hi, fun z => (hEs.ih z).2⟩) (by rw [sAll_eq]; exact hg') (mv_hom (hEs.1 k hk) hm hdv) (fun gg f2 hg2 hh2 he2 => ?_)
    rw [sAll_sAll]
    simp (disch := omega) only [isK_wI, isA_wI, gR_wI, gI_wI, sI_wI, true_and, and_true, Option.some.injEq, exists_eq_left', forall_const, not_true_eq_false, not_false_eq_true, false_implies, true_implies, ne_eq, lit_nI, nI_add, pk_mul, pk_sub, pk_div, rem_n, nI_clamp, nI_leI, nI_ltI, nI_eq, in_nI, kbb, g2, g3, k8]
    have hRo' : RoSt n ord d R Q e (sAll I 140 gg) := by
      obtain ⟨⟨⟨l5, l6⟩, l7⟩, hW, h7, hno, hdr, hd1, hd2⟩ := hRo
      refine ⟨⟨⟨by rw [sAll_ne (by omega)]; exact l5, by rw [sAll_ne (by omega)]; exact l6⟩, fun i hi => by rw [sAll_ne (by omega)]; exact l7 i hi⟩, hW, by rw [sAll_ne (by omega)]; exact h7, fun i hi hPi => by rw [sAll_ne (by omega)]; exact hno i hi hPi, hdr, fun r hr => ?_, hd2⟩
      obtain ⟨z1, z2, z3, z4⟩ := hd1 r hr
      have := ct_le Q (nM n ord d)
      exact ⟨z1, z2, by rw [sAll_ne (by omega)]; exact z3, by rw [sAll_ne (by omega)]; exact z4⟩
    refine sp_Roadd hRoM hNu (NuSt_kp (kp_sAll (by omega)) hC.2.1) hp hd10 hNb.1 hRo' a140 (fun i hi => pl66 hd10 hi) (by omega) (by omega) (v := vec n ord d f2) (by rw [sAll_eq]; exact RepV_VR hg2) (fun i hi => if_neg (by omega)) (fun r I' P' e' _ hSt hfr => ?_)
    rw [he2] at hSt
    exact h I' P' e' hSt (fun c hc hc2 => by rw [hfr c hc hc2, sAll_ne hc])
end BA4
