/-! the reference: sets, standard products, one product's rest in the matrix -/
def sgF {p : Nat} [NeZero p] (b : Bool) (v : Fin p) : Fin p := if b = true then 0 - v else v
def rwT {p : Nat} [NeZero p] (n ord J : Nat) (P : Nat → Bool) (e : Nat → Nat → Fin p) (u s : Nat) : Nat × Mo2 → Fin p := fun x => sm (fun l => if bitN u l = true ∧ plN (u - 2 ^ l) = x.1 then sgF (oppN u l) (rstf n ord (J + 1) P e (mulm (lt2 l) (dl (atm n ord J s))) x.2) else 0) n
/-- the rows of a step -/
def RWT {p : Nat} [NeZero p] (n ord J : Nat) (P' P : Nat → Bool) (e : Nat → Nat → Fin p) (i : Nat) : (Nat × Mo2 → Fin p) → Prop := fun t => ∃ u s, u < 2 ^ n ∧ onesN u = i ∧ s < nM n ord J ∧ P' s = false ∧ t = rwT n ord J P e u s
def SgV {p : Nat} [NeZero p] (s0 : Int32) (c : Fin p) : Prop := (∃ b : Fin p, s0 = nI b.val ∧ c = b) ∨ ∃ b : Fin p, s0 = -nI b.val ∧ c = 0 - b
theorem SgV_neg {p : Nat} [NeZero p] {s0 : Int32} {c : Fin p} (h : SgV s0 c) : SgV (-s0) (0 - c) := by
  rcases h with ⟨b, h1, h2⟩ | ⟨b, h1, h2⟩
  · exact Or.inr ⟨b, by rw [h1], by rw [h2]⟩
  · exact Or.inl ⟨b, by rw [h1, Int32.neg_neg], by rw [h2]; grind⟩
def SF (I I' : Nat → Nat → Int32) : Prop := (∀ c, c < 199 ∨ c = 200 → I' c = I c) ∧ ∀ k, k ≤ 5 → I' 199 k = I 199 k
theorem SF.tr {I J K : Nat → Nat → Int32} (h1 : SF I J) (h2 : SF J K) : SF I K := ⟨fun c hc => by rw [h2.1 c hc, h1.1 c hc], fun k hk => by rw [h2.2 k hk, h1.2 k hk]⟩
theorem EnF.sf {I J : Nat → Nat → Int32} (h : EnF I J) : SF I J := ⟨fun c hc => h.1 c (by omega) (by omega) (by omega) (by omega) (by omega) (by omega), fun k hk => h.2 k (by omega) (by omega)⟩
theorem SF_s {I : Nat → Nat → Int32} {a : Nat} {f : Nat → Int32} (h : 200 < a) : SF I (sAll I a f) := ⟨fun c hc => sAll_ne (by omega), fun k _ => by rw [sAll_ne (by omega)]⟩
theorem SF_u {I : Nat → Nat → Int32} {k : Nat} {v : Int32} (h : 5 < k) : SF I (u2 I 199 k v) := ⟨fun c hc => by unfold u2; rw [if_neg (by omega)], fun j hj => u2_ne (by omega)⟩
theorem SF.fm {I J : Nat → Nat → Int32} (h : SF I J) : FM I J := fun c hc => h.1 c (Or.inl hc)
theorem MSt_sf {p : Nat} [NeZero p] {n ord : Nat} {D : Nat → Mo2 → Fin p} {H O : Hp p} {C : Nat → Nat → Mo2 → Fin p} {I I' : Nat → Nat → Int32} (hW : WfA n ord D H O C) (hF : SF I I') (hS : MSt n ord D H O C I) : MSt n ord D H O C I' := MSt_kp hW.2.2.1.1 hW.2.2.2.1.1 hF.2 (fun j _ => by rw [hF.1 200 (Or.inr rfl)]) hS
section MO16
variable {M : Mem} {I : Nat → Nat → Int32} {n ord p d : Nat}
theorem sp_ones {t : Nat} {post : Int32 → Mem → Prop} (ht : t < 8) (h : post (nI (onesN t)) M) : T_Mo_ones (nI t) M post := by
  unfold T_Mo_ones; rw [b_ones t ht]; exact h
theorem sp_setsOf {i : Nat} {post : Int32 → Mem → Prop} (hM : MdOK M) (hn : I 199 1 = nI n) (hn3 : n ≤ 3) (hi : i ≤ 4) (h : post (nI (stN n i)) (wI M I)) : T_Mo_setsOf 199 (nI i) (wI M I) post := by
  have hk := hM.1
  have h8 := n_two n (by omega)
  refine pk_loop (σ := Unit) (fun N t _ => L_Mo_setsOf_4 post N 199 (nI i) (nI (ct (fun t => decide (onesN t = i)) t)) (nI t) (wI M I)) (fun t _ => True) (2 ^ n) 0 () (Nat.zero_le _) trivial ?_ ?_
  · intro N _ _
    show B_Mo_setsOf_4 (L_Mo_setsOf_4 post N) post 199 _ _ _ _
    unfold B_Mo_setsOf_4
    rw [gI_wI, hn, b_two n (by omega)]
    exact ⟨hk, fun _ => h, fun q => absurd (Int32.le_refl _) q⟩
  · intro N t _ ht _ ih
    have hih := ih () trivial
    have ho := (n_small t (by omega)).1
    show B_Mo_setsOf_4 (L_Mo_setsOf_4 post N) post 199 _ _ _ _
    unfold B_Mo_setsOf_4 B_Mo_setsOf_28
    rw [gI_wI, hn, b_two n (by omega), nI_leI (by omega) (by omega), nI_1]
    refine ⟨hk, fun q => absurd q (by omega), fun _ => sp_ones (by omega) ⟨fun q => ?_, fun q => ?_⟩⟩
    · rw [nI_eq (by omega) (by omega)] at q
      rw [ct_succ_f (decide_eq_false q)] at hih
      rw [show (0 : Int32) = nI 0 from rfl, nI_add, Nat.add_zero]; exact hih
    · rw [nI_eq (by omega) (by omega)] at q
      rw [ct_succ_t (decide_eq_true q)] at hih
      rw [show (1 : Int32) = nI 1 from rfl, nI_add]; exact hih
theorem sp_Moplace {t : Nat} {post : Int32 → Mem → Prop} (ht : t < 8) (h : post (nI (plN t)) M) : T_Mo_place 199 (nI t) M post := by
  refine pk_loop (σ := Unit) (fun N o _ => L_Mo_place_4 post N (nI t) (nI (ct (fun o => decide (onesN o = onesN t)) o)) (nI o) M) (fun o _ => True) t 0 () (by omega) trivial ?_ ?_
  · intro N _ _
    show B_Mo_place_4 (L_Mo_place_4 post N) post _ _ _ _
    exact ⟨fun _ => h, fun q => absurd (Int32.le_refl _) q⟩
  · intro N o _ ho _ ih
    have hih := ih () trivial
    have h1 := (n_small o (by omega)).1
    have h2 := (n_small t ht).1
    show B_Mo_place_4 (L_Mo_place_4 post N) post _ _ _ _
    unfold B_Mo_place_4 B_Mo_place_26
    rw [nI_leI (by omega) (by omega), nI_1]
    refine ⟨fun q => absurd q (by omega), fun _ => sp_ones (by omega) (sp_ones ht ⟨fun q => ?_, fun q => ?_⟩)⟩
    · rw [nI_eq (by omega) (by omega)] at q
      rw [ct_succ_f (decide_eq_false q)] at hih
      rw [show (0 : Int32) = nI 0 from rfl, nI_add, Nat.add_zero]; exact hih
    · rw [nI_eq (by omega) (by omega)] at q
      rw [ct_succ_t (decide_eq_true q)] at hih
      rw [show (1 : Int32) = nI 1 from rfl, nI_add]; exact hih
/-- positions that do not lead -/
def nQ (P : Nat → Bool) : Nat → Bool := fun k => !P k
theorem nQ_t {P : Nat → Bool} {k : Nat} : nQ P k = true ↔ P k = false := by unfold nQ; cases P k <;> simp
theorem nQ_f {P : Nat → Bool} {k : Nat} : nQ P k = false ↔ P k = true := by unfold nQ; cases P k <;> simp
theorem sp_takeStandard [NeZero p] {D : Nat → Mo2 → Fin p} {H O : Hp p} {C : Nat → Nat → Mo2 → Fin p} {post : Mem → Prop} (hM : MdOK M) (hW : WfA n ord D H O C) (hS : MSt n ord D H O C I) (hd : d ≤ 10) (h : ∀ I', I' 199 16 = nI (ct (nQ (leadB (VV n ord d (VP n (Gh H) d)))) (nM n ord d)) → (∀ x, x < ct (nQ (leadB (VV n ord d (VP n (Gh H) d)))) (nM n ord d) → I' 208 x = nI (cdm d (atm n ord d (nth (nQ (leadB (VV n ord d (VP n (Gh H) d)))) (nM n ord d) x)))) → SF I I' → post (wI M I')) : T_Mo_takeStandard 199 (nI d) (wI M I) post := by
  have hM' := hM
  obtain ⟨k4, r0, r6, r7, r9, r10, r11, r13, r14, r15, r17, a5, a6, a7, a8, a9, a10, a11, a12, a13, a14⟩ := hM'
  have hF := prm_field hW.1.2.2
  have hN := hW.n66 hd
  refine ⟨k4, sp_Moheap hM hW hS hd (fun J hEs hJ => ⟨k4, ?_⟩)⟩
  obtain ⟨e, hE⟩ := hEs.st hF.1
  rw [← VV_spn] at hE
  generalize hP : leadB (VV n ord d (VP n (Gh H) d)) = P at hE h
  obtain ⟨⟨h8, hli, _⟩, _, _, hpv, _⟩ := hE
  rw [sI_wI]
  have := pk_loop (σ := (Nat → Int32) × Int32) (fun N k s => L_Mo_takeStandard_12 post N 199 (nI k) (wI M (u2 (sAll J 208 s.1) 199 16 s.2))) (fun k s => s.2 = nI (ct (nQ P) k) ∧ ∀ t, t < k → P t = false → s.1 (ct (nQ P) t) = nI (cdm d (atm n ord d t))) (nM n ord d) 0 (J 208, 0) (by omega) ⟨rfl, fun t ht => absurd ht (Nat.not_lt_zero t)⟩ ?_ ?_
  · simp only [sAll_self] at this
    exact this
  · intro N ⟨g, c⟩ ⟨h1, h2⟩
    have h1 : c = nI (ct (nQ P) (nM n ord d)) := h1
    subst h1
    show B_Mo_takeStandard_12 (L_Mo_takeStandard_12 post N) post 199 _ (wI M (u2 (sAll J 208 g) 199 16 _))
    unfold B_Mo_takeStandard_12
    rw [gI_wI, u2_ne (by omega), sAll_ne (by omega), h8]
    refine ⟨k4, fun _ => h _ (u2_eq _ _ _ _) (fun x hx => ?_) (hJ.sf.tr ((SF_s (by omega)).tr (SF_u (by omega)))), fun q => absurd (Int32.le_refl _) q⟩
    have hn := nth_ok hx
    unfold u2
    rw [if_neg (by omega), sAll_eq]
    have := h2 _ hn.1 (nQ_t.mp hn.2.1)
    rw [hn.2.2] at this
    exact this
  · intro N k ⟨g, c⟩ hk ⟨h1, h2⟩ ih
    have h1 : c = nI (ct (nQ P) k) := h1
    subst h1
    have hctk := ct_le (nQ P) k
    have hlk := hli k hk
    have hpk := hpv k hk
    show B_Mo_takeStandard_12 (L_Mo_takeStandard_12 post N) post 199 _ (wI M (u2 (sAll J 208 g) 199 16 _))
    unfold B_Mo_takeStandard_12 B_Mo_takeStandard_57
    have e8 : u2 (sAll J 208 g) 199 16 (nI (ct (nQ P) k)) 199 8 = nI (nM n ord d) := by rw [u2_ne (by omega), sAll_ne (by omega), h8]
    have e10 : u2 (sAll J 208 g) 199 16 (nI (ct (nQ P) k)) 205 k = if P k = true then 1 else 0 := by rw [u2_ne (by omega), sAll_ne (by omega), hpk]
    have e6 : u2 (sAll J 208 g) 199 16 (nI (ct (nQ P) k)) 201 k = nI (cdm d (atm n ord d k)) := by rw [u2_ne (by omega), sAll_ne (by omega), hlk]
    have e16 : u2 (sAll J 208 g) 199 16 (nI (ct (nQ P) k)) 199 16 = nI (ct (nQ P) k) := u2_eq _ _ _ _
    simp (disch := omega) only [isK_wI, isA_wI, gR_wI, gI_wI, sI_wI, true_and, and_true, Option.some.injEq, exists_eq_left', forall_const, not_true_eq_false, not_false_eq_true, false_implies, true_implies, ne_eq, lit_nI, nI_add, pk_mul, pk_sub, pk_div, rem_n, nI_clamp, nI_leI, nI_ltI, nI_eq, in_nI, k4, r6, r11, r15, isA_T a10, isA_T a6, isA_T a13, e8, e10, e6, e16]
    refine ⟨fun q => absurd q (by omega), fun _ => ⟨fun q => ?_, fun q => ?_⟩⟩
    · have hPk : P k = false := by
        cases z : P k
        · rfl
        · rw [z] at q; exact absurd q (by decide)
      have ec : u2 (u2 (u2 (sAll J 208 g) 199 16 (nI (ct (nQ P) k))) 208 (ct (nQ P) k) (nI (cdm d (atm n ord d k)))) 199 16 (u2 (u2 (sAll J 208 g) 199 16 (nI (ct (nQ P) k))) 208 (ct (nQ P) k) (nI (cdm d (atm n ord d k))) 199 16 + nI 1) = u2 (sAll J 208 (upd g (ct (nQ P) k) (nI (cdm d (atm n ord d k))))) 199 16 (nI (ct (nQ P) (k + 1))) := by
        rw [ct_succ_t (nQ_t.mpr hPk), u2_ne (by omega), u2_eq, nI_add]
        funext c
        unfold u2 sAll
        by_cases z : c = 199
        · subst z
          simp only [if_true, if_neg (show ¬ (199 = 208) by omega)]
          funext j
          unfold upd
          split <;> rfl
        · simp only [if_neg z]
          by_cases y : c = 208
          · simp only [if_pos y, if_neg (show ¬ (208 = 199) by omega), if_true]
          · simp only [if_neg y, if_neg z]
      rw [ec]
      refine ih (upd g (ct (nQ P) k) (nI (cdm d (atm n ord d k))), _) ⟨rfl, fun t ht hPt => ?_⟩
      by_cases z : t = k
      · subst z; exact upd_eq _ _ _
      · show upd g (ct (nQ P) k) _ (ct (nQ P) t) = _
        rw [upd_ne (fun w => z (ct_uni (nQ_t.mpr hPt) (nQ_t.mpr hPk) w))]
        exact h2 t (by omega) hPt
    · have hPk : P k = true := by
        cases z : P k
        · rw [z] at q; exact absurd rfl q
        · rfl
      have := ih (g, nI (ct (nQ P) (k + 1))) ⟨rfl, fun t ht hPt => h2 t (by
        by_cases z : t = k
        · rw [z, hPk] at hPt; exact absurd hPt (by decide)
        · omega) hPt⟩
      rw [ct_succ_f (nQ_f.mpr hPk)] at this
      exact this
theorem sp_modSg [NeZero p] {a c : Fin p} {s0 : Int32} {post : Int32 → Mem → Prop} (hM : MdOK M) (hI : I 199 2 = nI p) (hp : 2 ≤ p ∧ p ≤ 97) (hs : SgV s0 c) (h : post (nI (a + c).val) (wI M I)) : T_Mo_mod 199 (Int32.toInt64 (nI a.val + s0)) (wI M I) post := by
  have ha := fv97 hp.2 a
  rcases hs with ⟨b, h1, h2⟩ | ⟨b, h1, h2⟩
  · have hb := fv97 hp.2 b
    refine sp_Momod (z := (a.val : Int) + b.val) hM hI hp (by rw [Int32.toInt_toInt64, h1, nI_add, nI_toInt (by omega)]; omega) (by omega) (by omega) ?_
    rw [md_add, ← h2]; exact h
  · have hb := fv97 hp.2 b
    have e1 : (nI a.val + -nI b.val).toInt = (a.val : Int) - b.val := by
      rw [← Int32.sub_eq_add_neg, Int32.toInt_sub, nI_toInt (by omega), nI_toInt (by omega)]
      exact i32_bmod (by omega) (by omega)
    refine sp_Momod (z := (a.val : Int) - b.val) hM hI hp (by rw [Int32.toInt_toInt64, h1]; exact e1) (by omega) (by omega) ?_
    have e2 : ((a.val : Int) - b.val) = (a.val : Int) - (b.val : Int) * ((1 : Fin p).val : Int) := by
      rw [show (1 : Fin p).val = 1 from Nat.mod_eq_of_lt (show 1 < p by omega)]; omega
    rw [e2, md_sub]
    have e3 : a - b * 1 = a + c := by rw [h2]; grind
    rw [e3]; exact h
theorem sp_product [NeZero p] {G : Nat → (Mo2 → Fin p) → Prop} {P : Nat → Bool} {e : Nat → Nat → Fin p} {q at' : Nat} {opp : Bool} {g : Nat → Fin p} {post : Mem → Prop} (hM : MdOK M) (hI2 : I 199 2 = nI p) (hp : 2 ≤ p ∧ p ≤ 97) (hG : ∀ e g, G e g → hom n e g) (hd : d ≤ 10) (hN : nM n ord d ≤ 66) (hEn : EnSt n ord d (VV n ord d (VP n G d)) P e I) (hcol : ∀ k, k < nM n ord d → P k = false → I 209 k = nI (ct (nQ P) k)) (hq : q < nM n ord d) (hat : at' + ct (nQ P) (nM n ord d) ≤ 30000) (hg : ∀ y, y < ct (nQ P) (nM n ord d) → I 207 (at' + y) = nI (g y).val) (h : ∀ f, (∀ y, y < ct (nQ P) (nM n ord d) → f (at' + y) = nI (g y + sgF opp (rstf n ord d P e (dl (atm n ord d q)) (atm n ord d (nth (nQ P) (nM n ord d) y)))).val) → (∀ j, (j < at' ∨ at' + ct (nQ P) (nM n ord d) ≤ j) → f j = I 207 j) → post (wI M (sAll I 207 f))) : T_Mo_product 199 (nI (cdm d (atm n ord d q))) (nI at') (if opp = true then 1 else 0) (wI M I) post := by
  have hM' := hM
  obtain ⟨k4, r0, r6, r7, r9, r10, r11, r13, r14, r15, r17, a5, a6, a7, a8, a9, a10, a11, a12, a13, a14⟩ := hM'
  obtain ⟨⟨h8, hli, hpl⟩, ⟨hW, hR, hE, hRr⟩, h12, hpv, hcl⟩ := hEn
  have hcd := cdm_ok hd (atm_ok hq).1
  have hplq := hpl q hq
  refine ⟨k4, 202, r7, arr_A a7 hcd.1 (by omega), ?_⟩
  rw [gI_wI, nI_clamp (by omega), hplq]
  have := pk_loop (σ := Nat → Int32) (fun N k f => L_Mo_product_11 post N 199 (nI at') (if opp = true then 1 else 0) (nI q) (nI k) (wI M (sAll I 207 f))) (fun k f => (∀ y, y < ct (nQ P) (nM n ord d) → f (at' + y) = nI (if y < ct (nQ P) k then g y + sgF opp (rstf n ord d P e (dl (atm n ord d q)) (atm n ord d (nth (nQ P) (nM n ord d) y))) else g y).val) ∧ ∀ j, (j < at' ∨ at' + ct (nQ P) (nM n ord d) ≤ j) → f j = I 207 j) (nM n ord d) 0 (I 207) (by omega) ⟨fun y hy => by rw [if_neg (by show ¬ y < 0; omega)]; exact hg y hy, fun _ _ => rfl⟩ ?_ ?_
  · simp only [sAll_self] at this
    exact this
  · intro N f ⟨f1, f2⟩
    show B_Mo_product_11 (L_Mo_product_11 post N) post 199 _ _ _ _ _
    unfold B_Mo_product_11
    rw [gI_wI, sAll_ne (by omega), h8]
    exact ⟨k4, fun _ => h f (fun y hy => by rw [f1 y hy, if_pos hy]) f2, fun q => absurd (Int32.le_refl _) q⟩
  · intro N k f hk ⟨f1, f2⟩ ih
    have hpk := hpv k hk
    have hpq := hpv q hq
    show B_Mo_product_11 (L_Mo_product_11 post N) post 199 _ _ _ _ _
    unfold B_Mo_product_11 B_Mo_product_120
    rw [nI_1]
    cases hPk : P k with
    | true =>
      rw [hPk, if_pos rfl] at hpk
      simp (disch := omega) only [isK_wI, isA_wI, gR_wI, gI_wI, sI_wI, true_and, and_true, Option.some.injEq, exists_eq_left', forall_const, not_true_eq_false, not_false_eq_true, false_implies, true_implies, ne_eq, lit_nI, nI_add, pk_mul, pk_sub, pk_div, rem_n, nI_clamp, nI_leI, nI_ltI, nI_eq, in_nI, k4, r11, isA_T a10, sAll_ne (show (199 : Nat) ≠ 207 by omega), sAll_ne (show (205 : Nat) ≠ 207 by omega), h8, hpk]
      refine ⟨fun z => absurd z (by omega), fun _ => ⟨fun z => absurd z (by decide), fun _ => ih f ⟨fun y hy => ?_, f2⟩⟩⟩
      rw [ct_succ_f (nQ_f.mpr hPk)]; exact f1 y hy
    | false =>
      rw [hPk, if_neg (by decide)] at hpk
      have hck := hcol k hk hPk
      have hyk : ct (nQ P) k < ct (nQ P) (nM n ord d) := by
        have := ct_up (Q := nQ P) (show k + 1 ≤ nM n ord d from hk)
        rw [ct_succ_t (nQ_t.mpr hPk)] at this
        omega
      have hrs := rs_unit hG hE hRr hq hk hPk
      have hnk := nth_ct hk (nQ_t.mpr hPk)
      have hctN := ct_le (nQ P) (nM n ord d)
      have go : ∀ s0 : Int32, SgV s0 (rstf n ord d P e (dl (atm n ord d q)) (atm n ord d k)) → B_Mo_product_72 (L_Mo_product_11 post N) post 199 (nI at') (if opp = true then 1 else 0) (nI q) (nI k) s0 (wI M (sAll I 207 f)) := by
        intro s0 hs0
        unfold B_Mo_product_72 B_Mo_product_114 B_Mo_product_120
        have hfk := f1 _ hyk
        rw [if_neg (by omega)] at hfk
        have fin : ∀ s1 : Int32, SgV s1 (sgF opp (rstf n ord d P e (dl (atm n ord d q)) (atm n ord d k))) → isK (wI M (sAll I 207 f)) 199 7 ∧ T_Mo_mod 199 (Int32.toInt64 (nI (g (ct (nQ P) k)).val + s1)) (wI M (sAll I 207 f)) (fun r116 M116 => isA M116 207 8 (nI (at' + ct (nQ P) k)) ∧ L_Mo_product_11 post N 199 (nI at') (if opp = true then 1 else 0) (nI q) (nI k + 1) (sI M116 207 (at' + ct (nQ P) k) r116)) := by
          intro s1 hs1
          refine ⟨k4, sp_modSg hM (by rw [sAll_ne (by omega)]; exact hI2) hp hs1 ⟨arr_A a12 (by omega) (by omega), ?_⟩⟩
          rw [sI_wI, u2_sAll, nI_1]
          refine ih _ ⟨fun y hy => ?_, fun j hj => ?_⟩
          · rw [ct_succ_t (nQ_t.mpr hPk)]
            by_cases z : y = ct (nQ P) k
            · subst z
              rw [upd_eq, if_pos (by omega), hnk]
            · rw [upd_ne (by omega), f1 y hy]
              by_cases w : y < ct (nQ P) k
              · rw [if_pos w, if_pos (by omega)]
              · rw [if_neg w, if_neg (by omega)]
          · rw [upd_ne (by omega)]; exact f2 j hj
        refine ⟨k4, 207, r14, k4, 209, r17, arr_A a14 (by omega) (by omega), k4, 207, r14, k4, 209, r17, arr_A a14 (by omega) (by omega), ?_⟩
        rw [gI_wI, gI_wI, nI_clamp (show k < 2 ^ 31 by omega), sAll_ne (show (209 : Nat) ≠ 207 by omega), hck, nI_add, nI_clamp (by omega), sAll_eq, hfk]
        refine ⟨arr_A a12 (by omega) (by omega), fun z => ?_, fun z => ?_⟩
        · have ho : opp = false := by
            cases w : opp
            · rfl
            · rw [w, if_pos rfl] at z; exact absurd z (by decide)
          refine fin s0 ?_
          rw [ho]; exact hs0
        · have ho : opp = true := by
            cases w : opp
            · rw [w, if_neg (by decide)] at z; exact absurd rfl z
            · rfl
          refine fin (-s0) ?_
          rw [ho]; exact SgV_neg hs0
      simp (disch := omega) only [isK_wI, isA_wI, gR_wI, gI_wI, sI_wI, true_and, and_true, Option.some.injEq, exists_eq_left', forall_const, not_true_eq_false, not_false_eq_true, false_implies, true_implies, ne_eq, lit_nI, nI_add, pk_mul, pk_sub, pk_div, rem_n, nI_clamp, nI_leI, nI_ltI, nI_eq, in_nI, k4, r9, r11, isA_T a10, isA_T a8, sAll_ne (show (199 : Nat) ≠ 207 by omega), sAll_ne (show (205 : Nat) ≠ 207 by omega), sAll_ne (show (203 : Nat) ≠ 207 by omega), h8, hpk]
      refine ⟨fun z => absurd z (by omega), ?_⟩
      rw [hpq]
      cases hPq : P q with
      | true =>
        have hclq := hcl q hq hPq k hk
        rw [hPq, if_pos rfl] at hrs
        rw [if_pos rfl]
        refine fun _ => ⟨fun z => absurd z (by decide), fun _ => go _ (Or.inr ⟨e q k, by rw [hclq], hrs⟩)⟩
      | false =>
        rw [hPq, if_neg (by decide)] at hrs
        rw [if_neg (by decide)]
        have h1v : (1 : Fin p).val = 1 := Nat.mod_eq_of_lt (show 1 < p by omega)
        have h0v : (0 : Fin p).val = 0 := Nat.zero_mod p
        refine fun _ => ⟨fun _ => ⟨fun z => go _ (Or.inl ⟨0, by rw [h0v], by rw [hrs, if_neg z]⟩), fun z => go _ (Or.inl ⟨1, by rw [h1v], by rw [hrs, if_pos z]⟩)⟩, fun z => absurd rfl z⟩
end MO16
