/-! HeapTower: draft and settings -/
def FR (I I' : Nat → Nat → Int32) : Prop := ∀ c, 199 ≤ c → I' c = I c
def sup (c : Nat) : Prop := c < 8 ∨ (126 ≤ c ∧ c ≤ 139) ∨ (141 ≤ c ∧ c ≤ 198)
theorem CSt_draft {p : Nat} [NeZero p] {n ord : Nat} {D D' : Nat → Mo2 → Fin p} {H O : Hp p} {C : Nat → Nat → Mo2 → Fin p} {sw : Bool} {I I' : Nat → Nat → Int32} {G : Nat → (Mo2 → Fin p) → Prop} (hS : CSt n ord D H O C sw I) (hD : ∀ d, d ≤ 10 → hom n d (D' d)) (hR : Rep (I' 126) D') (hb : BaSt n ord 157 G 0 I') (h : ∀ c, sup c → c ≠ 126 → c ≠ 157 → I' c = I c) : CSt n ord D' H O C sw I' := by
  obtain ⟨⟨w, c⟩, d, cl, ⟨e1, e2⟩, ⟨⟨r1, b1⟩, r2, b2⟩, ⟨r3, b3⟩, ⟨r4, b4⟩, r5, b5⟩ := hS
  have hsw := hh_ne sw
  unfold sup at h
  refine ⟨⟨⟨hD, w.2⟩, Cfg_kp (fun c hc => h c (by omega) (by omega) (by omega)) c⟩, hR, fun r hr => by rw [h _ (by omega) (by omega) (by omega)]; exact cl r hr, ⟨HeSt_kp (fun c hc => h c (by omega) (by omega) (by omega)) e1, HeSt_kp (fun c hc => h c (by omega) (by omega) (by omega)) e2⟩, ⟨⟨r1, BaSt_kp (fun c h1 h2 => h c (by omega) (by omega) (by omega)) b1⟩, r2, BaSt_kp (fun c h1 h2 => h c (by omega) (by omega) (by omega)) b2⟩, ⟨r3, BaSt_kp (fun c h1 h2 => h c (by omega) (by omega) (by omega)) b3⟩, ⟨r4, BaSt_kp (fun c h1 h2 => h c (by omega) (by omega) (by omega)) b4⟩, 0, Ba0_to _ (Ba0_of hb)⟩
theorem Rep_0 {p : Nat} [NeZero p] {f : Nat → Int32} (h : ∀ j, j < 286 → f j = 0) : Rep f (fun _ _ => (0 : Fin p)) := fun d hd m hm => by
  have h1 := pl_deg hd hm
  have h2 := fr_le d (by omega)
  rw [h _ (by omega)]
  show _ = nI ((0 : Fin p).val)
  rw [show (0 : Fin p).val = 0 from Nat.zero_mod p]; rfl
/-- the number that c is -/
def fmd (p : Nat) [NeZero p] (x : Int32) : Fin p := Fin.ofNat p (md p x)
theorem fmd_val {p : Nat} [NeZero p] (x : Int32) : (fmd p x).val = md p x := Nat.mod_eq_of_lt (md_lt (Nat.pos_of_neZero p) x)
theorem hom_upd {p : Nat} [NeZero p] {n d : Nat} {D : Nat → Mo2 → Fin p} {m : Mo2} {v : Fin p} (hD : ∀ d, d ≤ 10 → hom n d (D d)) (hm : okm n d m) : ∀ e, e ≤ 10 → hom n e (updF D d m v e) := by
  intro e he k hk
  unfold updF at hk
  by_cases q : e = d ∧ k = m
  · rw [q.1, q.2]; exact hm
  · rw [if_neg q] at hk; exact hD e he k hk
section HT2
variable {M : Mem} {I : Nat → Nat → Int32} {n ord p : Nat} {sw : Bool}
theorem sp_draftChanged [NeZero p] {G : Nat → (Mo2 → Fin p) → Prop} {post : Mem → Prop} (hT : HTOK M sw) (hb : ∃ r, BaSt n ord 157 G r I) (h : ∀ I', BaSt n ord 157 G 0 I' → (∀ c, c ≠ 157 → I' c = I c) → post (wI M I')) : T_HT_draftChanged 0 (wI M I) post := by
  obtain ⟨r, hb⟩ := hb
  obtain ⟨⟨k0, r0, r1, r2, r3, r4, r5, r6, r7, r8, r9, r10, r11⟩, _, _, _, ⟨b1, b2, b3⟩, _⟩ := hT
  have kb := b3.2.1.1
  unfold T_HT_draftChanged
  simp only [isK_wI, gR_wI, k0, r9, kb, true_and, Option.some.injEq, exists_eq_left']
  exact sp_forget (d := 0) b3 (by omega) hb (fun I' h1 h2 => h I' (by rw [Nat.min_eq_right (Nat.zero_le r)] at h1; exact h1) h2)
theorem op_term [NeZero p] {D : Nat → Mo2 → Fin p} {H O : Hp p} {C : Nat → Nat → Mo2 → Fin p} {c x y z : Int32} {post : Int32 → Mem → Prop} (hT : HTOK M sw) (hS : CSt n ord D H O C sw I) (h1 : ∀ a b e, IsP n x y z a b e → ∀ I', CSt n ord (updF D (a + b + e) (b, e) (D (a + b + e) (b, e) + fmd p c)) H O C sw I' → FR I I' → post (nI (D (a + b + e) (b, e) + fmd p c).val) (wI M I')) (h0 : (¬ ∃ a b e, IsP n x y z a b e) → post (-1000000) (wI M I)) : T_HT_term 0 c x y z (wI M I) post := by
  have hT' := hT
  obtain ⟨⟨k0, r0, r1, r2, r3, r4, r5, r6, r7, r8, r9, r10, r11⟩, _, hPo, _, _, _, hP, hNu, hRo⟩ := hT'
  have hS' := hS
  obtain ⟨⟨w, hC⟩, hD, cl, hes, hbs, hb3, hb4, hb5⟩ := hS'
  have hp97 := prm_lt hC.2.2
  unfold T_HT_term
  simp only [isK_wI, k0, true_and]
  refine sp_isProduct hT hC.1 (fun a b e hi => ?_) (fun hi => ?_)
  · refine ⟨fun _ => ?_, fun q => absurd q (by decide)⟩
    obtain ⟨rfl, rfl, rfl, i4, i5⟩ := hi
    refine sp_place (by omega) (by omega) ?_
    have kd := hPo.1.1
    have k6 := hNu.1
    simp only [isK_wI, gR_wI, k0, r1, r5, kd, true_and, Option.some.injEq, exists_eq_left', nI_add]
    refine sp_numberAt hPo i4 i5.1 ?_
    have e1 := hD (a + b + e) i4 (b, e) i5.1
    rw [e1]
    simp only [isK_wI, gR_wI, k0, r1, r5, k6, kd, true_and, Option.some.injEq, exists_eq_left', nI_add]
    refine sp_modulo hNu hC.2.1 hC.2.2 ?_
    simp only [isK_wI, gR_wI, k0, r1, r5, k6, kd, true_and, Option.some.injEq, exists_eq_left', nI_add]
    refine sp_modulo hNu hC.2.1 hC.2.2 ?_
    have hv := (D (a + b + e) (b, e)).isLt
    have hml := md_lt (p := p) (by omega) c
    have e2 : md p (nI ((D (a + b + e) (b, e)).val + md p c)) = (D (a + b + e) (b, e) + fmd p c).val := by
      rw [md_nI (by omega), Fin.val_add, fmd_val]
    rw [e2]
    simp only [isK_wI, gR_wI, k0, r1, r5, k6, kd, true_and, Option.some.injEq, exists_eq_left', nI_add]
    refine sp_setNumber hPo i4 i5.1 ?_
    simp only [isK_wI, k0, true_and]
    refine sp_draftChanged (n := n) (ord := ord) hT (G := Gquo H D) ?_ (fun I' hb hf => ?_)
    · obtain ⟨r, hb⟩ := hb5
      exact ⟨r, BaSt_kp (fun c h1 h2 => by unfold u2; rw [if_neg (by omega)]) hb⟩
    · refine h1 a b e ⟨rfl, rfl, rfl, i4, i5⟩ I' (CSt_draft hS (hom_upd w.1 i5) ?_ hb (fun c h1 h2 h3 => ?_)) (fun c hc => ?_)
      · rw [hf _ (by omega)]
        have : u2 I (125 + 1) (fr (a + b + e) + pl (b, e)) (nI (D (a + b + e) (b, e) + fmd p c).val) 126 = upd (I 126) (fr (a + b + e) + pl (b, e)) (nI (D (a + b + e) (b, e) + fmd p c).val) := by unfold u2; rw [if_pos rfl]
        rw [this]
        exact Rep_upd hD i4 i5.1 _
      · rw [hf _ h3]; unfold u2; rw [if_neg (by omega)]
      · rw [hf _ (by omega)]; unfold u2; rw [if_neg (by omega)]
  · exact ⟨fun q => absurd rfl q, fun _ => h0 hi⟩
theorem op_number [NeZero p] {D : Nat → Mo2 → Fin p} {H O : Hp p} {C : Nat → Nat → Mo2 → Fin p} {x y z : Int32} {post : Int32 → Mem → Prop} (hT : HTOK M sw) (hS : CSt n ord D H O C sw I) (h1 : ∀ a b e, IsP n x y z a b e → post (nI (D (a + b + e) (b, e)).val) (wI M I)) (h0 : (¬ ∃ a b e, IsP n x y z a b e) → post (-1000000) (wI M I)) : T_HT_number 0 x y z (wI M I) post := by
  have hT' := hT
  obtain ⟨⟨k0, r0, r1, r2, r3, r4, r5, r6, r7, r8, r9, r10, r11⟩, _, hPo, _, _, _, hP, hNu, hRo⟩ := hT'
  obtain ⟨⟨w, hC⟩, hD, cl, hes, hbs, hb3, hb4, hb5⟩ := hS
  unfold T_HT_number B_HT_number_32
  simp only [isK_wI, k0, true_and]
  refine sp_isProduct hT hC.1 (fun a b e hi => ?_) (fun hi => ?_)
  · refine ⟨fun q => absurd q (by decide), fun _ => ?_⟩
    have hi' := hi
    obtain ⟨rfl, rfl, rfl, i4, i5⟩ := hi'
    have kd := hPo.1.1
    simp only [isK_wI, gR_wI, k0, r5, kd, true_and, Option.some.injEq, exists_eq_left', nI_add]
    refine sp_place (by omega) (by omega) ?_
    simp only [isK_wI, gR_wI, k0, r5, kd, true_and, Option.some.injEq, exists_eq_left', nI_add]
    refine sp_numberAt hPo i4 i5.1 ?_
    have e1 := hD (a + b + e) i4 (b, e) i5.1
    rw [e1]
    exact h1 a b e hi
  · exact ⟨fun _ => h0 hi, fun q => absurd rfl q⟩
theorem op_wipe [NeZero p] {D : Nat → Mo2 → Fin p} {H O : Hp p} {C : Nat → Nat → Mo2 → Fin p} {post : Int32 → Mem → Prop} (hT : HTOK M sw) (hS : CSt n ord D H O C sw I) (h : ∀ I', CSt n ord (fun _ _ => 0) H O C sw I' → FR I I' → post (nI (szP D)) (wI M I')) : T_HT_wipe 0 (wI M I) post := by
  have hT' := hT
  obtain ⟨⟨k0, r0, r1, r2, r3, r4, r5, r6, r7, r8, r9, r10, r11⟩, _, hPo, _, _, _, hP, hNu, hRo⟩ := hT'
  have hS' := hS
  obtain ⟨⟨w, hC⟩, hD, cl, hes, hbs, hb3, hb4, hb5⟩ := hS'
  have hp97 := prm_lt hC.2.2
  have kd := hPo.1.1
  unfold T_HT_wipe
  simp only [isK_wI, gR_wI, k0, r5, kd, true_and, Option.some.injEq, exists_eq_left']
  refine sp_Posize hPo hp97.2 hD ?_
  simp only [isK_wI, gR_wI, k0, r5, kd, true_and, Option.some.injEq, exists_eq_left']
  refine sp_Poclear hPo (fun f hf => ?_)
  simp only [isK_wI, k0, true_and]
  refine sp_draftChanged (n := n) (ord := ord) hT (G := Gquo H D) ?_ (fun I' hb hf2 => ?_)
  · obtain ⟨r, hb⟩ := hb5
    exact ⟨r, BaSt_kp (fun c h1 h2 => sAll_ne (by omega)) hb⟩
  · refine h I' (CSt_draft hS (fun d _ => Dhom0) ?_ hb (fun c h1 h2 h3 => ?_)) (fun c hc => ?_)
    · rw [hf2 _ (by omega), sAll_eq]; exact Rep_0 hf
    · rw [hf2 _ h3, sAll_ne h2]
    · rw [hf2 _ (by omega), sAll_ne (by omega)]
/-- the head's number -/
def hdN (d : Nat) (m : Mo2) : Nat := 10000 * (d - m.1 - m.2) + 100 * m.1 + m.2
theorem dg1_zero {p : Nat} [NeZero p] {F : Nat → Mo2 → Fin p} {d : Nat} (h : dg1 F = d + 1) : szD F d ≠ 0 := by
  have key : ∀ k, dgf F k = d + 1 → szD F d ≠ 0 := by
    intro k
    induction k with
    | zero => intro h; exact absurd h (by simp [dgf])
    | succ k ih =>
      intro h
      unfold dgf at h
      split at h
      · have : k = d := by omega
        subst this; assumption
      · exact ih h
  exact key 11 h
end HT2
