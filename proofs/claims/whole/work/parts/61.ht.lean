/-! HeapTower: its state -/
abbrev Hp (p : Nat) [NeZero p] : Type := Nat × (Nat → Nat) × (Nat → Mo2 → Fin p)
def hh (sw : Bool) : Nat := if sw = true then 182 else 165
def oo (sw : Bool) : Nat := if sw = true then 165 else 182
def HTOK (M : Mem) (sw : Bool) : Prop := (isK M 0 6 ∧ gR M 0 0 = some 1 ∧ gR M 0 1 = some 6 ∧ gR M 0 2 = some 8 ∧ gR M 0 3 = some 78 ∧ gR M 0 4 = some 79 ∧ gR M 0 5 = some 125 ∧ gR M 0 6 = some 127 ∧ gR M 0 7 = some 141 ∧ gR M 0 8 = some 149 ∧ gR M 0 9 = some 157 ∧ gR M 0 10 = some (hh sw) ∧ gR M 0 11 = some (oo sw)) ∧
  (arr M 78 8 66 ∧ arr M 79 11 45 ∧ ∀ t, t < 45 → gR M 79 t = some (80 + t) ∧ arr M (80 + t) 8 36) ∧ PoOK M 125 ∧ (arr M 127 10 6 ∧ ∀ r, r < 6 → gR M 127 r = some (128 + 2 * r) ∧ PoOK M (128 + 2 * r)) ∧ (BaOK M 141 ∧ BaOK M 149 ∧ BaOK M 157) ∧ (HeOK M 165 ∧ HeOK M 182) ∧ MOK M
def Gh {p : Nat} [NeZero p] (H : Hp p) : Nat → (Mo2 → Fin p) → Prop := Grw H.1 H.2.1 H.2.2
def Gsum {p : Nat} [NeZero p] (H O : Hp p) : Nat → (Mo2 → Fin p) → Prop := fun e g => Gh H e g ∨ Gh O e g
def Gprd {p : Nat} [NeZero p] (n ord : Nat) (H O : Hp p) : Nat → (Mo2 → Fin p) → Prop := fun e g => ∃ a b, a < H.1 ∧ b < O.1 ∧ H.2.1 a + O.2.1 b = e ∧ g = prodm n ord (H.2.1 a) (H.2.2 a) (O.2.2 b)
def Gquo {p : Nat} [NeZero p] (H : Hp p) (D : Nat → Mo2 → Fin p) : Nat → (Mo2 → Fin p) → Prop := fun e g => Gh H e g ∨ (dg1 D = e + 1 ∧ g = D e)
/-- rows as they may be -/
def WfH {p : Nat} [NeZero p] (n : Nat) (H : Hp p) : Prop := H.1 ≤ 6 ∧ ∀ r, r < H.1 → (1 ≤ H.2.1 r ∧ H.2.1 r ≤ 5) ∧ hom n (H.2.1 r) (H.2.2 r) ∧ ∃ m, H.2.2 r m ≠ 0
def Wf {p : Nat} [NeZero p] (n : Nat) (D : Nat → Mo2 → Fin p) (H O : Hp p) (C : Nat → Nat → Mo2 → Fin p) : Prop := (∀ d, d ≤ 10 → hom n d (D d)) ∧ WfH n H ∧ WfH n O ∧ ∀ r, r < 6 → (∀ d, d ≤ 10 → hom n d (C r d)) ∧ (H.1 ≤ r → ∀ d, d ≤ 10 → ∀ m, C r d m = 0) ∧ (r < H.1 → ∀ d, d ≤ 10 → 10 < d + H.2.1 r → ∀ m, C r d m = 0)
def CSt {p : Nat} [NeZero p] (n ord : Nat) (D : Nat → Mo2 → Fin p) (H O : Hp p) (C : Nat → Nat → Mo2 → Fin p) (sw : Bool) (I : Nat → Nat → Int32) : Prop :=
  (Wf n D H O C ∧ Cfg n ord p I) ∧ Rep (I 126) D ∧ (∀ r, r < 6 → Rep (I (129 + 2 * r)) (C r)) ∧ (HeSt n (hh sw) H.1 H.2.1 H.2.2 I ∧ HeSt n (oo sw) O.1 O.2.1 O.2.2 I) ∧ ((∃ r, BaSt n ord (hh sw + 1) (Gh H) r I) ∧ ∃ r, BaSt n ord (oo sw + 1) (Gh O) r I) ∧ (∃ r, BaSt n ord 141 (Gsum H O) r I) ∧ (∃ r, BaSt n ord 149 (Gprd n ord H O) r I) ∧ ∃ r, BaSt n ord 157 (Gquo H D) r I
/-- an empty base -/
def Ba0 (b : Nat) (I : Nat → Nat → Int32) : Prop := I b 11 = -1 ∧ I b 12 = 0 ∧ I (b + 1) 0 = 0 ∧ (I (b + 6) 2147483648 = 1 ↔ I (b + 7) 2147483648 = 1)
theorem Ba0_of {p : Nat} [NeZero p] {n ord b : Nat} {G : Nat → (Mo2 → Fin p) → Prop} {I : Nat → Nat → Int32} (h : BaSt n ord b G 0 I) : Ba0 b I := by
  obtain ⟨sz, dg, hd, gl, ld, ⟨⟨m12, m13, mF⟩, mE, mD⟩, hT⟩ := h
  have hz0 : sz 0 = 0 := hT.1.1
  refine ⟨by rw [m12]; rfl, by rw [m13, hz0]; rfl, ?_, mF.2⟩
  have := mE.1.1 0 (Nat.zero_le _)
  rw [this]; rfl
theorem Ba0_to {p : Nat} [NeZero p] {n ord b : Nat} (G : Nat → (Mo2 → Fin p) → Prop) {I : Nat → Nat → Int32} (h : Ba0 b I) : BaSt n ord b G 0 I := by
  obtain ⟨h1, h2, h3, h4⟩ := h
  refine ⟨fun _ => 0, fun _ => 0, fun _ => (0, 0), fun _ _ => 0, fun _ _ => 0, ⟨⟨by rw [h1]; rfl, by rw [h2]; rfl, fun q => absurd rfl q, h4⟩, ⟨⟨fun k hk => ?_, Nat.zero_le _, Nat.zero_le _⟩, fun k hk => absurd hk (Nat.not_lt_zero k)⟩, fun d hd => absurd hd (Nat.not_lt_zero d)⟩, ⟨⟨rfl, Nat.zero_le _, fun d hd => absurd hd (Nat.not_lt_zero d)⟩, fun d hd => ⟨fun k hk => absurd hk (Nat.not_lt_zero k), Nat.zero_le _⟩, fun k hk => absurd hk (Nat.not_lt_zero k), fun d hd => absurd hd (Nat.not_lt_zero d), fun d hd => absurd hd (Nat.not_lt_zero d)⟩⟩
  rw [Nat.le_zero.mp hk, h3]; rfl
theorem Rep_kp {p : Nat} [NeZero p] {f g : Nat → Int32} {F : Nat → Mo2 → Fin p} (h : f = g) (hR : Rep g F) : Rep f F := by rw [h]; exact hR
theorem hh_ne (sw : Bool) : (hh sw = 165 ∧ oo sw = 182) ∨ (hh sw = 182 ∧ oo sw = 165) := by cases sw <;> simp [hh, oo]
/-- what is only scratch may change -/
theorem CSt_kp {p : Nat} [NeZero p] {n ord : Nat} {D : Nat → Mo2 → Fin p} {H O : Hp p} {C : Nat → Nat → Mo2 → Fin p} {sw : Bool} {I I' : Nat → Nat → Int32} (h : ∀ c, (c < 8 ∨ (126 ≤ c ∧ c ≤ 139) ∨ (141 ≤ c ∧ c ≤ 198)) → I' c = I c) (hS : CSt n ord D H O C sw I) : CSt n ord D H O C sw I' := by
  obtain ⟨⟨w, c⟩, d, cl, ⟨e1, e2⟩, ⟨⟨r1, b1⟩, r2, b2⟩, ⟨r3, b3⟩, ⟨r4, b4⟩, r5, b5⟩ := hS
  have hsw := hh_ne sw
  refine ⟨⟨w, Cfg_kp (fun c hc => h c (by omega)) c⟩, by rw [h _ (by omega)]; exact d, fun r hr => by rw [h _ (by omega)]; exact cl r hr, ⟨HeSt_kp (fun c hc => h c (by omega)) e1, HeSt_kp (fun c hc => h c (by omega)) e2⟩, ⟨⟨r1, BaSt_kp (fun c h1 h2 => h c (by omega)) b1⟩, r2, BaSt_kp (fun c h1 h2 => h c (by omega)) b2⟩, ⟨r3, BaSt_kp (fun c h1 h2 => h c (by omega)) b3⟩, ⟨r4, BaSt_kp (fun c h1 h2 => h c (by omega)) b4⟩, r5, BaSt_kp (fun c h1 h2 => h c (by omega)) b5⟩
theorem HeSt.wf {p : Nat} [NeZero p] {n h k : Nat} {dr : Nat → Nat} {rw : Nat → Mo2 → Fin p} {I : Nat → Nat → Int32} (hS : HeSt n h k dr rw I) {r : Nat} (hr : r < k) : dr r ≤ 5 := (hS.2.2 r hr).2.1.2
/-- a product that is asked for -/
def IsP (n : Nat) (x y z : Int32) (a b c : Nat) : Prop := x = nI a ∧ y = nI b ∧ z = nI c ∧ a + b + c ≤ 10 ∧ okm n (a + b + c) (b, c)
theorem Dhom0 {p : Nat} [NeZero p] {n d : Nat} : hom n d (fun _ => (0 : Fin p)) := (hom_sub n d).1
section HT
variable {M : Mem} {I : Nat → Nat → Int32} {n ord p : Nat} {sw : Bool}
theorem HTOK.he (h : HTOK M sw) : HeOK M (hh sw) ∧ HeOK M (oo sw) := by
  have h6 := h.2.2.2.2.2.1
  cases sw
  · exact ⟨h6.1, h6.2⟩
  · exact ⟨h6.2, h6.1⟩
theorem sp_isProduct {x y z : Int32} {post : Int32 → Mem → Prop} (hT : HTOK M sw) (hS : PrSt n ord I) (h1 : ∀ a b c, IsP n x y z a b c → post 1 (wI M I)) (h0 : (¬ ∃ a b c, IsP n x y z a b c) → post 0 (wI M I)) : T_HT_isProduct 0 x y z (wI M I) post := by
  have k0 := hT.1.1
  have r0 := hT.1.2.1
  have hP := hT.2.2.2.2.2.2.1
  have k1 := hP.1.1
  have hn := hS.1.1
  unfold T_HT_isProduct B_HT_isProduct_41 B_HT_isProduct_31 B_HT_isProduct_43 B_HT_isProduct_75 B_HT_isProduct_76
  simp only [isK_wI, gR_wI, k0, r0, k1, true_and, Option.some.injEq, exists_eq_left']
  refine sp_letterCount hP hS ?_
  have nat : ∀ w : Int32, ¬ w < 0 → ∃ a, a < 2147483648 ∧ w = nI a := fun w hw => by
    rcases i32_abs w with ⟨a, ha, e⟩ | ⟨a, ha, _, e⟩
    · exact ⟨a, ha, i32_ext (by rw [e, nI_toInt (by omega)])⟩
    · exfalso; apply hw; rw [Int32.lt_iff_toInt_lt, e]
      have : (0 : Int32).toInt = 0 := by decide
      omega
  have no : ∀ {P : Prop}, P → (∀ a b c, IsP n x y z a b c → ¬ P) → narrow .boolean (.int 0) = .int 0 ∧ post 0 (wI M I) := fun hp hh => ⟨rfl, h0 (fun ⟨a, b, c, hi⟩ => hh a b c hi hp)⟩
  refine ⟨fun q => no q (fun a b c hi w => ?_), fun q => ⟨fun q2 => no q2 (fun a b c hi w => ?_), fun q2 => ⟨fun q3 => no q3 (fun a b c hi w => ?_), fun q3 => ?_⟩⟩⟩
  · rw [hi.1] at w; exact absurd w (nI_nlt0 (by have := hi.2.2.2.1; omega))
  · rw [hi.2.1] at w; exact absurd w (nI_nlt0 (by have := hi.2.2.2.1; omega))
  · rw [hi.2.2.1] at w; exact absurd w (nI_nlt0 (by have := hi.2.2.2.1; omega))
  · obtain ⟨a, ha, rfl⟩ := nat x q
    obtain ⟨b, hb, rfl⟩ := nat y q2
    obtain ⟨c, hc, rfl⟩ := nat z q3
    have uq : ∀ a' b' c', IsP n (nI a) (nI b) (nI c) a' b' c' → a' = a ∧ b' = b ∧ c' = c := fun a' b' c' hi => by
      obtain ⟨i1, i2, i3, i4, _⟩ := hi
      rw [nI_eq (by omega) (by omega)] at i1 i2 i3
      exact ⟨i1.symm, i2.symm, i3.symm⟩
    simp (disch := omega) only [isK_wI, isA_wI, gR_wI, gI_wI, sI_wI, true_and, and_true, Option.some.injEq, exists_eq_left', forall_const, not_true_eq_false, not_false_eq_true, false_implies, true_implies, ne_eq, lit_nI, nI_add, pk_mul, pk_sub, pk_div, rem_n, nI_clamp, nI_leI, nI_ltI, nI_eq, in_nI, Nat.not_lt]
    have rest : (n < 2 → b = 0) → (n < 3 → c = 0) → (10 < a → narrow .boolean (.int (nI 0)) = .int (nI 0) ∧ post (nI 0) (wI M I)) ∧ (a ≤ 10 → (10 < b → narrow .boolean (.int (nI 0)) = .int (nI 0) ∧ post (nI 0) (wI M I)) ∧ (b ≤ 10 → (10 < c → narrow .boolean (.int (nI 0)) = .int (nI 0) ∧ post (nI 0) (wI M I)) ∧ (c ≤ 10 → (nI 10 < nI (a + b + c) → narrow .boolean (.int (nI 0)) = .int (nI 0) ∧ post (nI 0) (wI M I)) ∧ (¬ nI 10 < nI (a + b + c) → narrow .boolean (.int (nI 1)) = .int (nI 1) ∧ post (nI 1) (wI M I))))) := by
      intro hb0 hc0
      refine ⟨fun w => no w (fun a' b' c' hi w => ?_), fun w1 => ⟨fun w => no w (fun a' b' c' hi w => ?_), fun w2 => ⟨fun w => no w (fun a' b' c' hi w => ?_), fun w3 => ⟨fun w => no w (fun a' b' c' hi w => ?_), fun w4 => ⟨rfl, ?_⟩⟩⟩⟩⟩
      · have := uq _ _ _ hi; have := hi.2.2.2.1; omega
      · have := uq _ _ _ hi; have := hi.2.2.2.1; omega
      · have := uq _ _ _ hi; have := hi.2.2.2.1; omega
      · rw [nI_ltI (by omega) (by omega)] at w
        have := uq _ _ _ hi; have := hi.2.2.2.1; omega
      · rw [nI_ltI (by omega) (by omega)] at w4
        exact h1 a b c ⟨rfl, rfl, rfl, by omega, by simp only; omega, fun z => hb0 z, fun z => hc0 z⟩
    refine ⟨fun w0 => ⟨fun w => rest (fun z => by omega) (fun z => by omega), fun w => ⟨fun w2 => rest (fun z => by omega) (fun _ => w2), fun w2 => no w2 (fun a' b' c' hi w3 => ?_)⟩⟩, fun w0 => ⟨fun w2 => no w2 (fun a' b' c' hi w3 => ?_), fun w1 => ⟨fun w => rest (fun _ => w1) (fun z => by omega), fun w => ⟨fun w2 => rest (fun _ => w1) (fun _ => w2), fun w2 => no w2 (fun a' b' c' hi w3 => ?_)⟩⟩⟩⟩
    · have := uq _ _ _ hi; have := hi.2.2.2.2.2.2 (by omega); simp only at this; omega
    · have := uq _ _ _ hi; have := hi.2.2.2.2.2.1 (by omega); simp only at this; omega
    · have := uq _ _ _ hi; have := hi.2.2.2.2.2.2 (by omega); simp only at this; omega
end HT
