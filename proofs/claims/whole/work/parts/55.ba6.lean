/-! Base: the states, and its beginning of a degree -/
noncomputable def isnew {p : Nat} [NeZero p] (n ord : Nat) (G : Nat → (Mo2 → Fin p) → Prop) (d i : Nat) : Bool := @decide (lead (VV n ord d (VP n G d)) i ∧ ¬ ∃ l b : Mo2, okm n 1 l ∧ okm n (d - 1) b ∧ 1 ≤ d ∧ atm n ord d i = (l.1 + b.1, l.2 + b.2) ∧ lead (VV n ord (d - 1) (VP n G (d - 1))) (psm n ord (d - 1) b)) (Classical.propDecidable _)
theorem isnew_iff {p : Nat} [NeZero p] {n ord : Nat} {G : Nat → (Mo2 → Fin p) → Prop} {d i : Nat} : isnew n ord G d i = true ↔ (lead (VV n ord d (VP n G d)) i ∧ ¬ ∃ l b : Mo2, okm n 1 l ∧ okm n (d - 1) b ∧ 1 ≤ d ∧ atm n ord d i = (l.1 + b.1, l.2 + b.2) ∧ lead (VV n ord (d - 1) (VP n G (d - 1))) (psm n ord (d - 1) b)) := by
  unfold isnew; exact @decide_eq_true_iff _ (Classical.propDecidable _)
def qd (d : Nat) : Nat := [0, 0, 0, 0, 0, 0, 16, 64, 156, 306, 529].getD d 0
def qs : Nat → Nat
  | 0 => 0
  | d + 1 => qs d + qd d
/-- where the element with its head at position i of degree d stands -/
noncomputable def eix {p : Nat} [NeZero p] (n ord : Nat) (G : Nat → (Mo2 → Fin p) → Prop) (sz : Nat → Nat) (d i : Nat) : Nat := sz d + (ct (isnew n ord G d) (nM n ord d) - ct (isnew n ord G d) (i + 1))
def BaT {p : Nat} [NeZero p] (n ord : Nat) (G : Nat → (Mo2 → Fin p) → Prop) (r : Nat) (sz dg : Nat → Nat) (hd : Nat → Mo2) (gl : Nat → Mo2 → Fin p) (ld : Nat → Nat → Nat) : Prop :=
  (sz 0 = 0 ∧ r ≤ 11 ∧ ∀ d, d < r → sz (d + 1) = sz d + ct (isnew n ord G d) (nM n ord d)) ∧
  (∀ d, d ≤ r → (∀ k, k < sz d → dg k < d) ∧ stt n ord dg gl (sz d) ≤ 21 * sz d + qs d) ∧
  (∀ k, k < sz r → Elem n ord G (dg k) (hd k) (gl k)) ∧
  (∀ d, d < r → Ech (nM n ord d) (VV n ord d (VP n G d)) (fun i => decide (ld d i ≠ 0)) (fun i => vec n ord d (mv (atm n ord d i) (hd (ld d i - 1)) (gl (ld d i - 1)))) ∧ ∀ i, ld d i ≠ 0 → ld d i - 1 < sz (d + 1) ∧ divm (dg (ld d i - 1)) (hd (ld d i - 1)) d (atm n ord d i)) ∧
  ∀ d, d < r → ∀ i, i < nM n ord d → isnew n ord G d i = true → dg (eix n ord G sz d i) = d ∧ hd (eix n ord G sz d i) = atm n ord d i ∧ ∀ j, j ≠ i → leadB (VV n ord d (VP n G d)) j = true → vec n ord d (gl (eix n ord G sz d i)) j = 0
theorem isnew_cong {p : Nat} [NeZero p] {n ord d : Nat} {G G' : Nat → (Mo2 → Fin p) → Prop} (h : ∀ e, e ≤ d → ∀ g, G e g ↔ G' e g) : isnew n ord G d = isnew n ord G' d := by
  funext i
  unfold isnew
  rw [VP_cong h, VP_cong (fun e he => h e (by omega))]
theorem vdm_cong {p : Nat} [NeZero p] {n ord d : Nat} {G G' : Nat → (Mo2 → Fin p) → Prop} (h : ∀ e, e ≤ d → ∀ g, G e g ↔ G' e g) : vdm n ord G d = vdm n ord G' d := by
  unfold vdm; rw [VP_cong h]
theorem ndm_cong {p : Nat} [NeZero p] {n ord d : Nat} {G G' : Nat → (Mo2 → Fin p) → Prop} (h : ∀ e, e ≤ d → ∀ g, G e g ↔ G' e g) : ndm n ord G d = ndm n ord G' d := by
  unfold ndm
  rw [vdm_cong h, vdm_cong (G := Gb d G) (G' := Gb d G') (fun e he g => by unfold Gb; rw [h e he g])]
theorem BaT_cong {p : Nat} [NeZero p] {n ord r : Nat} {G G' : Nat → (Mo2 → Fin p) → Prop} {sz dg : Nat → Nat} {hd : Nat → Mo2} {gl : Nat → Mo2 → Fin p} {ld : Nat → Nat → Nat} (h : ∀ e, e < r → ∀ g, G e g ↔ G' e g) (hT : BaT n ord G r sz dg hd gl ld) : BaT n ord G' r sz dg hd gl ld := by
  obtain ⟨⟨t1, t2, t3⟩, t4, t5, t6, t7⟩ := hT
  refine ⟨⟨t1, t2, fun d hd => ?_⟩, t4, fun k hk => ?_, fun d hd => ?_, fun d hd i hi hn => ?_⟩
  · rw [← isnew_cong (fun e he => h e (by omega))]; exact t3 d hd
  · obtain ⟨a, b, c⟩ := t5 k hk
    have := (t4 r (Nat.le_refl r)).1 k hk
    exact ⟨a, by rw [← VP_cong (fun e he => h e (by omega))]; exact b, c⟩
  · have := t6 d hd
    rw [VP_cong (fun e he => h e (by omega))] at this; exact this
  · have e1 := isnew_cong (n := n) (ord := ord) (d := d) (fun e he => h e (by omega))
    rw [← e1] at hn
    have := t7 d hd i hi hn
    rw [VP_cong (fun e he => h e (by omega))] at this
    unfold eix at this ⊢
    rw [← e1]; exact this
def BaD {p : Nat} [NeZero p] (n ord b : Nat) (G : Nat → (Mo2 → Fin p) → Prop) (sz : Nat → Nat) (ld : Nat → Nat → Nat) (d : Nat) (I : Nat → Nat → Int32) : Prop := I (b + 3) d = nI (sz (d + 1)) ∧ I (b + 4) d = nI (nM n ord d - vdm n ord G d) ∧ I (b + 5) d = nI (ndm n ord G d) ∧ ∀ i, i < nM n ord d → I (b + 7) (fr d + pl (atm n ord d i)) = nI (ld d i)
/-- a base that is built at all has its lazy arrays; it has both or none -/
def FlS (b r : Nat) (I : Nat → Nat → Int32) : Prop := (r ≠ 0 → I (b + 6) 2147483648 = 1) ∧ (I (b + 6) 2147483648 = 1 ↔ I (b + 7) 2147483648 = 1)
def BaM {p : Nat} [NeZero p] (n ord b : Nat) (G : Nat → (Mo2 → Fin p) → Prop) (r : Nat) (sz dg : Nat → Nat) (gl : Nat → Mo2 → Fin p) (ld : Nat → Nat → Nat) (I : Nat → Nat → Int32) : Prop := (I b 11 = nI r - 1 ∧ I b 12 = nI (sz r) ∧ FlS b r I) ∧ ElM n ord b (sz r) dg gl I ∧ ∀ d, d < r → BaD n ord b G sz ld d I
/-- a base, built below degree r -/
def BaSt {p : Nat} [NeZero p] (n ord b : Nat) (G : Nat → (Mo2 → Fin p) → Prop) (r : Nat) (I : Nat → Nat → Int32) : Prop := ∃ sz dg hd gl ld, BaM n ord b G r sz dg gl ld I ∧ BaT n ord G r sz dg hd gl ld
theorem BaD_cong {p : Nat} [NeZero p] {n ord b d : Nat} {G G' : Nat → (Mo2 → Fin p) → Prop} {sz : Nat → Nat} {ld : Nat → Nat → Nat} {I : Nat → Nat → Int32} (h : ∀ e, e ≤ d → ∀ g, G e g ↔ G' e g) (hD : BaD n ord b G sz ld d I) : BaD n ord b G' sz ld d I := by
  unfold BaD at hD ⊢; rw [← vdm_cong h, ← ndm_cong h]; exact hD
theorem BaSt_cong {p : Nat} [NeZero p] {n ord b r : Nat} {G G' : Nat → (Mo2 → Fin p) → Prop} {I : Nat → Nat → Int32} (h : ∀ e, e < r → ∀ g, G e g ↔ G' e g) (hS : BaSt n ord b G r I) : BaSt n ord b G' r I := by
  obtain ⟨sz, dg, hd, gl, ld, ⟨m1, m2, m3⟩, hT⟩ := hS
  exact ⟨sz, dg, hd, gl, ld, ⟨m1, m2, fun d hd => BaD_cong (fun e he => h e (by omega)) (m3 d hd)⟩, BaT_cong h hT⟩
/-- the leaders of the degree below -/
def ldmf (n ord d : Nat) (ld : Nat → Nat → Nat) (q : Mo2) : Nat := if d = 0 then 0 else ld (d - 1) (psm n ord (d - 1) q)
theorem Elem.F {p : Nat} [NeZero p] {n ord dk : Nat} {G : Nat → (Mo2 → Fin p) → Prop} {h : Mo2} {g : Mo2 → Fin p} (hG : ∀ e g, G e g → hom n e g) (hd : dk ≤ 10) (hE : Elem n ord G dk h g) : ElF n ord dk h g := ⟨hd, hE.1, VP_hom hG g hE.2.1, hE.2.2⟩
theorem BaT.szm {p : Nat} [NeZero p] {n ord r : Nat} {G : Nat → (Mo2 → Fin p) → Prop} {sz dg : Nat → Nat} {hd : Nat → Mo2} {gl : Nat → Mo2 → Fin p} {ld : Nat → Nat → Nat} (hT : BaT n ord G r sz dg hd gl ld) {d : Nat} : ∀ {e : Nat}, d ≤ e → e ≤ r → sz d ≤ sz e
  | 0, h, _ => by rw [Nat.le_zero.mp h]; exact Nat.le_refl _
  | e + 1, h, hr => by
    by_cases q : d = e + 1
    · rw [q]; exact Nat.le_refl _
    · have := hT.szm (show d ≤ e by omega) (by omega)
      have := hT.1.2.2 e (by omega)
      omega
theorem BaT.els {p : Nat} [NeZero p] {n ord r : Nat} {G : Nat → (Mo2 → Fin p) → Prop} {sz dg : Nat → Nat} {hd : Nat → Mo2} {gl : Nat → Mo2 → Fin p} {ld : Nat → Nat → Nat} (hG : ∀ e g, G e g → hom n e g) (hT : BaT n ord G r sz dg hd gl ld) (h66 : sz r ≤ 66) : Els n ord r (sz r) dg hd gl (ldmf n ord r ld) := by
  obtain ⟨⟨t1, t2, t3⟩, t4, t5, t6, t7⟩ := hT
  refine ⟨fun k hk => (t5 k hk).F hG (by have := (t4 r (Nat.le_refl r)).1 k hk; omega), fun q => ?_, h66, fun q hq hr hne => ?_⟩
  · unfold ldmf
    split
    · omega
    · by_cases z : ld (r - 1) (psm n ord (r - 1) q) = 0
      · omega
      · have := ((t6 (r - 1) (by omega)).2 _ z).1
        rw [show r - 1 + 1 = r by omega] at this; omega
  · unfold ldmf at hne ⊢
    rw [if_neg hr] at hne ⊢
    have := ((t6 (r - 1) (by omega)).2 _ hne).2
    rw [atm_psm hq] at this; exact this
theorem nn_cases {n d da db : Nat} {m ha hb : Mo2} (hm : okm n (d + 1) m) (oa : okm n da ha) (ob : okm n db hb) (va : divm da ha (d + 1) m) (vb : divm db hb (d + 1) m) (h : noNews (d + 1) m da ha db hb) : bothBelow n d da ha db hb m ∨ (d + 1 = da + db ∧ m = (ha.1 + hb.1, ha.2 + hb.2)) := by
  obtain ⟨a1, a2, a3⟩ := va
  obtain ⟨b1, b2, b3⟩ := vb
  have oa1 := oa.1
  have ob1 := ob.1
  have hm1 := hm.1
  rcases h with ⟨l, hl, hne⟩ | ⟨hx, hn⟩
  · left
    have hle : pw da ha l ≤ pw (d + 1) m l ∧ pw db hb l ≤ pw (d + 1) m l := by
      unfold pw
      have : l = 0 ∨ l = 1 ∨ l = 2 := by omega
      rcases this with rfl | rfl | rfl <;> simp <;> omega
    have hlt : pw da ha l < pw (d + 1) m l ∧ pw db hb l < pw (d + 1) m l := by omega
    obtain ⟨w1, w2, w3⟩ := pw_low hm hl (by omega) (show pw (d + 1) m l ≠ 0 by omega)
    have w4 : okm n 1 (lt2 l) := by
      obtain ⟨h1, h2, h3⟩ := hm
      unfold okm lt2 at *
      have : l = 0 ∨ l = 1 ∨ l = 2 := by omega
      rcases this with rfl | rfl | rfl
      · simp
      · simp at w2 ⊢; omega
      · simp at w3 ⊢; omega
    refine ⟨lt2 l, _, w4, w1, ?_, ?_, ?_⟩
    · apply Prod.ext <;> simp only <;> omega
    · unfold divm; unfold pw lt2 at *
      have : l = 0 ∨ l = 1 ∨ l = 2 := by omega
      rcases this with rfl | rfl | rfl <;> simp at * <;> omega
    · unfold divm; unfold pw lt2 at *
      have : l = 0 ∨ l = 1 ∨ l = 2 := by omega
      rcases this with rfl | rfl | rfl <;> simp at * <;> omega
  · right
    have x0 := hx 0 (by omega)
    have x1 := hx 1 (by omega)
    have x2 := hx 2 (by omega)
    have n0 := hn 0 (by omega)
    have n1 := hn 1 (by omega)
    have n2 := hn 2 (by omega)
    unfold pw at x0 x1 x2 n0 n1 n2
    simp at x0 x1 x2 n0 n1 n2
    refine ⟨by omega, ?_⟩
    apply Prod.ext <;> simp only <;> omega
theorem okm1 {n : Nat} {l : Mo2} (h : okm n 1 l) : ∃ t, t < 3 ∧ l = lt2 t := by
  have := h.1
  unfold lt2
  by_cases a : l.1 = 1
  · exact ⟨1, by omega, by apply Prod.ext <;> simp <;> omega⟩
  · by_cases b : l.2 = 1
    · exact ⟨2, by omega, by apply Prod.ext <;> simp <;> omega⟩
    · exact ⟨0, by omega, by apply Prod.ext <;> simp <;> omega⟩
theorem lbel_at {n d : Nat} {m b : Mo2} {ldm : Mo2 → Nat} {t : Nat} (ht : t < 3) (hb : okm n d b) (h : m = ((lt2 t).1 + b.1, (lt2 t).2 + b.2)) : lbel (d + 1) ldm m t = ldm b := by
  unfold lbel
  have hb1 := hb.1
  have e1 : m.1 = (lt2 t).1 + b.1 := by rw [h]
  have e2 : m.2 = (lt2 t).2 + b.2 := by rw [h]
  have : ¬ (d + 1 = 0 ∨ pw (d + 1) m t = 0) := by
    unfold pw
    unfold lt2 at e1 e2
    have : t = 0 ∨ t = 1 ∨ t = 2 := by omega
    rcases this with rfl | rfl | rfl <;> simp at * <;> omega
  rw [if_neg this]
  congr 1
  apply Prod.ext <;> simp only <;> omega
/-- all that the letters make of the degree below -/
theorem open_math {p : Nat} [NeZero p] {n ord d : Nat} {G : Nat → (Mo2 → Fin p) → Prop} {sz dg : Nat → Nat} {hd : Nat → Mo2} {gl : Nat → Mo2 → Fin p} {ld : Nat → Nat → Nat} {R : (Nat → Fin p) → Prop} (h1p : (1 : Fin p) ≠ 0) (hG : ∀ e g, G e g → hom n e g) (hT : BaT n ord G d sz dg hd gl ld) (h66 : sz d ≤ 66) (hGb : ∀ e g, G e g → e < d) (hR : Sub R)
    (hD : ∀ i, i < nM n ord d → ∀ l, l < 3 → DifP n ord d dg hd gl (ldmf n ord d ld) R i l) : ∀ f, VP n G d f → sumV (Esp n ord d hd gl (ldmf n ord d ld)) R (vec n ord d f) := by
  have hEs := hT.els hG h66
  have hT' := hT
  obtain ⟨⟨t1, t2, t3⟩, t4, t5, t6, t7⟩ := hT
  have hSS : Sub (sumV (Esp n ord d hd gl (ldmf n ord d ld)) R) := sumV_sub (Spn_sub _) hR
  have hW : Sub (fun f : Mo2 → Fin p => hom n d f ∧ sumV (Esp n ord d hd gl (ldmf n ord d ld)) R (vec n ord d f)) := by
    refine ⟨⟨(hom_sub n d).1, by rw [vec_0]; exact hSS.1⟩, fun u v c hu hv => ⟨(hom_sub n d).2 u v c hu.1 hv.1, ?_⟩⟩
    rw [vec_lin]; exact hSS.2 _ _ c hu.2 hv.2
  have main : ∀ f, VP n G d f → (hom n d f ∧ sumV (Esp n ord d hd gl (ldmf n ord d ld)) R (vec n ord d f)) := by
    cases d with
    | zero =>
      refine Spn_le hW ?_
      rintro s ⟨e, g, c, h1, h2, h3, h4⟩
      have := hGb e g h1; omega
    | succ d =>
      have hmvW : ∀ i, i < nM n ord (d + 1) → ihf n ord (d + 1) (ldmf n ord (d + 1) ld) i ≠ 0 → hom n (d + 1) (mv (atm n ord (d + 1) i) (hd (ihf n ord (d + 1) (ldmf n ord (d + 1) ld) i - 1)) (gl (ihf n ord (d + 1) (ldmf n ord (d + 1) ld) i - 1))) ∧ sumV (Esp n ord (d + 1) hd gl (ldmf n ord (d + 1) ld)) R (vec n ord (d + 1) (mv (atm n ord (d + 1) i) (hd (ihf n ord (d + 1) (ldmf n ord (d + 1) ld) i - 1)) (gl (ihf n ord (d + 1) (ldmf n ord (d + 1) ld) i - 1)))) := by
        intro i hi hne
        obtain ⟨x1, x2, x3⟩ := hEs.ih hne
        refine ⟨mv_hom (hEs.1 _ x2) (atm_ok hi) x3, _, _, Spn_of ⟨i, by simp [Pih, hne], rfl⟩, hR.1, fun j => ?_⟩
        show _ = eff n ord (d + 1) hd gl (ldmf n ord (d + 1) ld) i j + 0
        unfold eff; grind
      have hgr := groeb (n := n) (ord := ord) (d := d) (G := G) h1p hG (s := sz (d + 1)) (dg := dg) (hd := hd) (gl := gl) t5 (ld := ld d) (t6 d (by omega)).1 (fun i hi hne => (t6 d (by omega)).2 i hne) hW (la := fun i => ihf n ord (d + 1) (ldmf n ord (d + 1) ld) i - 1) (by
        intro i hi l b hl hb hm hne
        obtain ⟨t, ht, rfl⟩ := okm1 hl
        have e1 : lbel (d + 1) (ldmf n ord (d + 1) ld) (atm n ord (d + 1) i) t = ld d (psm n ord d b) := by
          rw [lbel_at ht hb hm]; unfold ldmf; rw [if_neg (by omega)]; rfl
        have hne2 : lbel (d + 1) (ldmf n ord (d + 1) ld) (atm n ord (d + 1) i) t ≠ 0 := by rw [e1]; exact hne
        have hih : ihf n ord (d + 1) (ldmf n ord (d + 1) ld) i ≠ 0 := by unfold ihf; rw [if_pos hi]; exact inh_ne ht hne2
        obtain ⟨x1, x2, x3⟩ := hEs.ih hih
        have hdgk := (t4 (d + 1) (Nat.le_refl _)).1 _ x2
        refine ⟨⟨x2, by omega, x3, hmvW i hi hih⟩, ?_⟩
        have hdif := hD i hi t ht hne2
        rw [e1] at hdif
        obtain ⟨y1, y2⟩ := hEs.lb (atm_ok hi) ht hne2
        rw [e1] at y1 y2
        rcases hdif with w | w | w
        · left; rw [w]
        · exact Or.inr (Or.inl ⟨mv_hom (hEs.1 _ y1) (atm_ok hi) y2, w⟩)
        · rcases nn_cases (atm_ok hi) (hEs.1 _ x2).2.1 (hEs.1 _ y1).2.1 x3 y2 w with v | v
          · exact Or.inr (Or.inr (Or.inl v))
          · exact Or.inr (Or.inr (Or.inr v)))
      refine VP_rec hW hgr.2 (fun g hg => ?_)
      have := hGb _ _ hg; omega
  exact fun f hf => (main f hf).2
