/-! the reference: its state, and the calls that need no linear algebra -/
def MSt {p : Nat} [NeZero p] (n ord : Nat) (D : Nat → Mo2 → Fin p) (H O : Hp p) (C : Nat → Nat → Mo2 → Fin p) (I : Nat → Nat → Int32) : Prop :=
  (I 199 1 = nI n ∧ I 199 2 = nI p ∧ I 199 3 = nI ord ∧ I 199 4 = nI H.1 ∧ I 199 5 = nI O.1) ∧ MRep (I 200) 0 D ∧ (∀ r, r < H.1 → MRep (I 200) (1 + r) (oneP (H.2.1 r) (H.2.2 r))) ∧ (∀ r, r < H.1 → MRep (I 200) (7 + r) (C r)) ∧ ∀ r, r < O.1 → MRep (I 200) (13 + r) (oneP (O.2.1 r) (O.2.2 r))
def WfA {p : Nat} [NeZero p] (n ord : Nat) (D : Nat → Mo2 → Fin p) (H O : Hp p) (C : Nat → Nat → Mo2 → Fin p) : Prop := ((1 ≤ n ∧ n ≤ 3) ∧ ord ≤ 1 ∧ prm p = true) ∧ Wf n D H O C
def FM (I I' : Nat → Nat → Int32) : Prop := ∀ c, c < 199 → I' c = I c
theorem MSt_kp {p : Nat} [NeZero p] {n ord : Nat} {D : Nat → Mo2 → Fin p} {H O : Hp p} {C : Nat → Nat → Mo2 → Fin p} {I I' : Nat → Nat → Int32} (hH : H.1 ≤ 6) (hO : O.1 ≤ 6) (h1 : ∀ k, k ≤ 5 → I' 199 k = I 199 k) (h2 : ∀ j, j < 25289 → I' 200 j = I 200 j) (hS : MSt n ord D H O C I) : MSt n ord D H O C I' := by
  obtain ⟨⟨s1, s2, s3, s4, s5⟩, sD, sH, sC, sO⟩ := hS
  refine ⟨⟨by rw [h1 1 (by omega), s1], by rw [h1 2 (by omega), s2], by rw [h1 3 (by omega), s3], by rw [h1 4 (by omega), s4], by rw [h1 5 (by omega), s5]⟩, MRep_kp (fun m hm => h2 _ (by omega)) sD, fun r hr => MRep_kp (fun m hm => h2 _ (by omega)) (sH r hr), fun r hr => MRep_kp (fun m hm => h2 _ (by omega)) (sC r hr), fun r hr => MRep_kp (fun m hm => h2 _ (by omega)) (sO r hr)⟩
theorem MSt_draft {p : Nat} [NeZero p] {n ord : Nat} {D D' : Nat → Mo2 → Fin p} {H O : Hp p} {C : Nat → Nat → Mo2 → Fin p} {I I' : Nat → Nat → Int32} (hH : H.1 ≤ 6) (hO : O.1 ≤ 6) (h1 : ∀ k, k ≤ 5 → I' 199 k = I 199 k) (hR : MRep (I' 200) 0 D') (h2 : ∀ j, 1331 ≤ j → j < 25289 → I' 200 j = I 200 j) (hS : MSt n ord D H O C I) : MSt n ord D' H O C I' := by
  obtain ⟨⟨s1, s2, s3, s4, s5⟩, sD, sH, sC, sO⟩ := hS
  refine ⟨⟨by rw [h1 1 (by omega), s1], by rw [h1 2 (by omega), s2], by rw [h1 3 (by omega), s3], by rw [h1 4 (by omega), s4], by rw [h1 5 (by omega), s5]⟩, hR, fun r hr => MRep_kp (fun m hm => h2 _ (by omega) (by omega)) (sH r hr), fun r hr => MRep_kp (fun m hm => h2 _ (by omega) (by omega)) (sC r hr), fun r hr => MRep_kp (fun m hm => h2 _ (by omega) (by omega)) (sO r hr)⟩
theorem pow_cd (a b e : Nat) : 121 * nI a + 11 * nI b + nI e = nI (cdm (a + b + e) (b, e)) := by
  rw [show (121 : Int32) = nI 121 from rfl, show (11 : Int32) = nI 11 from rfl, pk_mul, pk_mul, nI_add, nI_add]
  congr 1
  unfold cdm; simp only; omega
theorem MRep_upd {p : Nat} [NeZero p] {f : Nat → Int32} {k : Nat} {F : Nat → Mo2 → Fin p} (h : MRep f k F) {d : Nat} {q : Mo2} (hd : d ≤ 10) (hq : q.1 + q.2 ≤ d) (v : Fin p) : MRep (upd f (1331 * k + cdm d q) (nI v.val)) k (updF F d q v) := by
  intro m hm
  by_cases e : m = cdm d q
  · subst e
    rw [upd_eq, cf_at hd hq]
    unfold updF; rw [if_pos ⟨rfl, rfl⟩]
  · rw [upd_ne (by omega), h m hm]
    unfold cf
    by_cases z : mdeg m ≤ 10
    · rw [if_pos z, if_pos z]
      unfold updF
      rw [if_neg]
      rintro ⟨z1, z2⟩
      apply e
      rw [← (mmo_ok hm).2, z1, z2]
    · rw [if_neg z, if_neg z]
theorem dig {m : Nat} (hm : m < 1331) : ∃ x y z, x ≤ 10 ∧ y ≤ 10 ∧ z ≤ 10 ∧ m = 121 * x + 11 * y + z ∧ mdeg m = x + y + z ∧ mmo m = (y, z) ∧ pwm m 0 = x ∧ pwm m 1 = y ∧ pwm m 2 = z := ⟨m / 121, m / 11 % 11, m % 11, by omega, by omega, by omega, by omega, rfl, rfl, rfl, rfl, rfl⟩
theorem cdm_add {d k : Nat} {q c : Mo2} (hq : q.1 + q.2 ≤ d) (hc : c.1 + c.2 ≤ k) : cdm d q + cdm k c = cdm (d + k) (q.1 + c.1, q.2 + c.2) := by
  unfold cdm; simp only; omega
/-- times a product, by numbers -/
theorem cf_up {p : Nat} [NeZero p] {n k : Nat} {c : Mo2} {D : Nat → Mo2 → Fin p} (hD : ∀ d, d ≤ 10 → hom n d (D d)) (hk : k ≤ 10) (hc : okm n k c) (hdg : dg1 D + k ≤ 11) {t : Nat} (ht : t < 1331) : (if cdm k c ≤ t then cf D (t - cdm k c) else 0) = cf (upF k c D) t := by
  have hc1 := hc.1
  by_cases q : (if cdm k c ≤ t then cf D (t - cdm k c) else 0) = 0
  · rw [q]
    by_cases z : cf (upF k c D) t = 0
    · exact z.symm
    · exfalso
      obtain ⟨z1, z2⟩ := cf_ne z
      unfold upF at z2
      by_cases y : k ≤ mdeg t
      · rw [if_pos y] at z2
        unfold mulm at z2
        by_cases x : c.1 ≤ (mmo t).1 ∧ c.2 ≤ (mmo t).2
        · rw [if_pos x] at z2
          have hok := hD (mdeg t - k) (by omega) _ z2
          have h1 := hok.1
          have h2 := mmo_ok ht
          have e : cdm (mdeg t - k) ((mmo t).1 - c.1, (mmo t).2 - c.2) + cdm k c = t := by
            rw [cdm_add h1 hc1, show mdeg t - k + k = mdeg t by omega]
            simp only
            rw [show (mmo t).1 - c.1 + c.1 = (mmo t).1 by omega, show (mmo t).2 - c.2 + c.2 = (mmo t).2 by omega]
            exact h2.2
          rw [if_pos (by omega), show t - cdm k c = cdm (mdeg t - k) ((mmo t).1 - c.1, (mmo t).2 - c.2) by omega, cf_at (by omega) h1] at q
          exact z2 q
        · rw [if_neg x] at z2; exact z2 rfl
      · rw [if_neg y] at z2; exact z2 rfl
  · by_cases y : cdm k c ≤ t
    · rw [if_pos y] at q ⊢
      obtain ⟨s, hs0⟩ : ∃ s, s = t - cdm k c := ⟨_, rfl⟩
      rw [← hs0] at q ⊢
      have hst : t = s + cdm k c := by omega
      obtain ⟨q1, q2⟩ := cf_ne q
      have hs : mdeg s < dg1 D := by
        rcases Nat.lt_or_ge (mdeg s) (dg1 D) with w | w
        · exact w
        · exact absurd (D_hi hD q1 w _) q2
      have h2 := mmo_ok (m := s) (by omega)
      have e : t = cdm (mdeg s + k) ((mmo s).1 + c.1, (mmo s).2 + c.2) := by
        rw [hst, ← cdm_add h2.1 hc1, h2.2]
      have hle : ((mmo s).1 + c.1, (mmo s).2 + c.2).1 + ((mmo s).1 + c.1, (mmo s).2 + c.2).2 ≤ mdeg s + k := by
        have := h2.1
        simp only; omega
      have e2 : cf (upF k c D) t = upF k c D (mdeg s + k) ((mmo s).1 + c.1, (mmo s).2 + c.2) := by
        rw [← cf_at (F := upF k c D) (by omega) hle, ← e]
      rw [e2]
      unfold upF
      rw [if_pos (by omega), Nat.add_sub_cancel]
      unfold mulm
      rw [if_pos ⟨by simp only; omega, by simp only; omega⟩]
      simp only [Nat.add_sub_cancel]
      unfold cf
      rw [if_pos q1]
    · rw [if_neg y] at q; exact absurd rfl q
theorem gtm_tr {ord a b c : Nat} (h1 : gtm ord a b) (h2 : gtm ord b c) : gtm ord a c := by
  rcases h1 with h1 | ⟨h1, h1'⟩
  · rcases h2 with h2 | ⟨h2, _⟩
    · exact Or.inl (by omega)
    · exact Or.inl (by omega)
  · rcases h2 with h2 | ⟨h2, h2'⟩
    · exact Or.inl (by omega)
    · exact Or.inr ⟨by omega, bef_trans h1' h2'⟩
theorem gtm_tot {ord a b : Nat} (ha : a < 1331) (hb : b < 1331) (h : a ≠ b) : gtm ord a b ∨ gtm ord b a := by
  rcases Nat.lt_trichotomy (mdeg a) (mdeg b) with q | q | q
  · exact Or.inr (Or.inl q)
  · have : mmo a ≠ mmo b := fun e => h (by rw [← (mmo_ok ha).2, ← (mmo_ok hb).2, q, e])
    rcases bef_tot (ord := ord) this with z | z
    · exact Or.inl (Or.inr ⟨q, z⟩)
    · exact Or.inr (Or.inr ⟨q.symm, z⟩)
  · exact Or.inl (Or.inl q)
section MO3
variable {M : Mem} {I : Nat → Nat → Int32} {n ord p : Nat}
theorem mo_term [NeZero p] {D : Nat → Mo2 → Fin p} {H O : Hp p} {C : Nat → Nat → Mo2 → Fin p} {c x y z : Int32} {post : Int32 → Mem → Prop} (hM : MdOK M) (hW : WfA n ord D H O C) (hS : MSt n ord D H O C I) (h1 : ∀ a b e, IsP n x y z a b e → ∀ I', MSt n ord (updF D (a + b + e) (b, e) (D (a + b + e) (b, e) + fmd p c)) H O C I' → FM I I' → post (nI (D (a + b + e) (b, e) + fmd p c).val) (wI M I')) (h0 : (¬ ∃ a b e, IsP n x y z a b e) → post (-1000000) (wI M I)) : T_Mo_term 199 c x y z (wI M I) post := by
  have hp := prm_lt hW.1.2.2
  have hk := hM.1
  have hH := hW.2.2.1.1
  have hO := hW.2.2.2.1.1
  refine ⟨hk, sp_MoisProduct hM hS.1.1 hW.1.1.2 (fun a b e hi => ⟨fun _ => ?_, fun q => absurd q (by decide)⟩) (fun hn => ⟨fun q => absurd rfl q, fun _ => h0 hn⟩)⟩
  have hi' := hi
  obtain ⟨rfl, rfl, rfl, hle, hok⟩ := hi
  unfold T_Mo_powers
  rw [pow_cd]
  have hcd := cdm_ok (d := a + b + e) (q := (b, e)) (by omega) (by simp only; omega)
  have hv := hS.2.1 (cdm (a + b + e) (b, e)) hcd.1
  rw [cf_at (by omega) (by simp only; omega)] at hv
  refine ⟨hk, sp_Moget (k := 0) hM (by omega) hcd.1 ⟨hk, ?_⟩⟩
  rw [hv]
  have hvl := (D (a + b + e) (b, e)).isLt
  have hc := i32_rng c
  refine sp_Momod hM hS.1.2.1 hp (i64_add (i64_n (by omega)) (Int32.toInt_toInt64 c) (by omega) (by omega)) (by omega) (by omega) ⟨hk, ?_⟩
  rw [md_addc (by omega)]
  refine sp_Moput (k := 0) hM (by omega) hcd.1 ⟨hk, sp_Moget (k := 0) hM (by omega) hcd.1 ?_⟩
  rw [u2_eq]
  refine h1 a b e hi' _ (MSt_draft hH hO (fun k _ => u2_ne (by omega)) ?_ (fun j _ _ => u2_ne (by omega)) hS) (fun c hc => by unfold u2; rw [if_neg (by omega)])
  rw [u2_s, sAll_eq]
  exact MRep_upd hS.2.1 (by omega) (by simp only; omega) _
theorem mo_number [NeZero p] {D : Nat → Mo2 → Fin p} {H O : Hp p} {C : Nat → Nat → Mo2 → Fin p} {x y z : Int32} {post : Int32 → Mem → Prop} (hM : MdOK M) (hW : WfA n ord D H O C) (hS : MSt n ord D H O C I) (h1 : ∀ a b e, IsP n x y z a b e → post (nI (D (a + b + e) (b, e)).val) (wI M I)) (h0 : (¬ ∃ a b e, IsP n x y z a b e) → post (-1000000) (wI M I)) : T_Mo_number 199 x y z (wI M I) post := by
  have hk := hM.1
  refine ⟨hk, sp_MoisProduct hM hS.1.1 hW.1.1.2 (fun a b e hi => ⟨fun q => absurd q (by decide), fun _ => ?_⟩) (fun hn => ⟨fun _ => h0 hn, fun q => absurd rfl q⟩)⟩
  have hi' := hi
  obtain ⟨rfl, rfl, rfl, hle, hok⟩ := hi
  unfold T_Mo_powers B_Mo_number_26
  rw [pow_cd]
  have hcd := cdm_ok (d := a + b + e) (q := (b, e)) (by omega) (by simp only; omega)
  have hv := hS.2.1 (cdm (a + b + e) (b, e)) hcd.1
  rw [cf_at (by omega) (by simp only; omega)] at hv
  refine ⟨hk, sp_Moget (k := 0) hM (by omega) hcd.1 ?_⟩
  rw [hv]
  exact h1 a b e hi'
theorem mo_wipe [NeZero p] {D : Nat → Mo2 → Fin p} {H O : Hp p} {C : Nat → Nat → Mo2 → Fin p} {post : Int32 → Mem → Prop} (hM : MdOK M) (hW : WfA n ord D H O C) (hS : MSt n ord D H O C I) (h : ∀ I', MSt n ord (fun _ _ => 0) H O C I' → FM I I' → post (nI (szP D)) (wI M I')) : T_Mo_wipe 199 (wI M I) post := by
  have hp := prm_lt hW.1.2.2
  have hk := hM.1
  have hH := hW.2.2.1.1
  have hO := hW.2.2.2.1.1
  refine ⟨hk, sp_Moproducts (k := 0) hM (by omega) hp.2 hS.2.1 ⟨hk, sp_Moclear (k := 0) hM (by omega) (fun f hf1 hf2 => ?_)⟩⟩
  exact h _ (MSt_draft hH hO (fun k _ => by rw [sAll_ne (by omega)]) (by rw [sAll_eq]; exact MRep_0 hf1) (fun j _ _ => by rw [sAll_eq]; exact hf2 j (by omega)) hS) (fun c hc => sAll_ne (by omega))
end MO3
