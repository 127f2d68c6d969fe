/-! the rest as a map; letters -/
def rstf {p : Nat} [NeZero p] (n ord d : Nat) (P : Nat → Bool) (e : Nat → Nat → Fin p) (f : Mo2 → Fin p) : Mo2 → Fin p := unv n ord d (red P e (vec n ord d f) (nM n ord d))
theorem rstf_lin {p : Nat} [NeZero p] (n ord d : Nat) (P : Nat → Bool) (e : Nat → Nat → Fin p) : Lin (rstf n ord d P e) := fun u v c m => by
  unfold rstf
  have : red P e (fun m => vec n ord d u m + c * vec n ord d v m) (nM n ord d) = fun j => red P e (vec n ord d u) (nM n ord d) j + c * red P e (vec n ord d v) (nM n ord d) j := funext (fun j => red_lin P e _ _ c _ j)
  rw [vec_lin, this, unv_lin]
/-- standard polynomials -/
def StP {p : Nat} [NeZero p] (n ord d : Nat) (P : Nat → Bool) : (Mo2 → Fin p) → Prop := fun f => hom n d f ∧ ∀ i, P i = true → vec n ord d f i = 0
theorem StP_sub {p : Nat} [NeZero p] (n ord d : Nat) (P : Nat → Bool) : Sub (StP (p := p) n ord d P) := ⟨⟨(hom_sub n d).1, fun i _ => by rw [vec_0]⟩, fun u v c hu hv => ⟨(hom_sub n d).2 u v c hu.1 hv.1, fun i hi => by rw [vec_lin]; show vec n ord d u i + c * vec n ord d v i = 0; rw [hu.2 i hi, hv.2 i hi]; grind⟩⟩
/-- one product -/
def dl {p : Nat} [NeZero p] (q : Mo2) : Mo2 → Fin p := fun m => if m = q then 1 else 0
theorem dl_hom {p : Nat} [NeZero p] {n d : Nat} {q : Mo2} (h : okm n d q) : hom (p := p) n d (dl q) := fun m hm => by
  unfold dl at hm
  by_cases z : m = q
  · rw [z]; exact h
  · rw [if_neg z] at hm; exact absurd rfl hm
theorem dl_sum {p : Nat} [NeZero p] {n ord d : Nat} {f : Mo2 → Fin p} (hf : hom n d f) : f = fun m => sm (fun s => f (atm n ord d s) * dl (atm n ord d s) m) (nM n ord d) := by
  funext m
  by_cases q : okm n d m
  · rw [sm_one (psm_lt (ord := ord) q) (fun j hj hne => ?_), atm_psm q]
    · unfold dl; rw [if_pos rfl]; grind
    · unfold dl
      rw [if_neg (fun z => hne (by rw [z, psm_atm hj]))]; grind
  · rw [sm_none (fun j hj => ?_)]
    · by_cases z : f m = 0
      · exact z
      · exact absurd (hf m z) q
    · unfold dl
      rw [if_neg (fun z => q (by rw [z]; exact atm_ok hj))]; grind
theorem Lin_sm {ι κ : Type} {p : Nat} [NeZero p] {T : (ι → Fin p) → κ → Fin p} (hT : Lin T) (c : Nat → Fin p) (f : Nat → ι → Fin p) (i : κ) : ∀ N, T (fun x => sm (fun s => c s * f s x) N) i = sm (fun s => c s * T (f s) i) N := by
  intro N
  induction N with
  | zero => exact hT.z i
  | succ N ih =>
    show T (fun x => sm (fun s => c s * f s x) N + c N * f N x) i = sm (fun s => c s * T (f s) i) N + c N * T (f N) i
    rw [hT (fun x => sm (fun s => c s * f s x) N) (f N) (c N) i, ih]
section KOS
variable {p n ord d : Nat}
theorem rst_ok [NeZero p] {G : Nat → (Mo2 → Fin p) → Prop} {P : Nat → Bool} {e : Nat → Nat → Fin p} (hG : ∀ e g, G e g → hom n e g) (hE : Ech (nM n ord d) (VV n ord d (VP n G d)) P e) {f : Mo2 → Fin p} (hf : hom n d f) : StP n ord d P (rstf n ord d P e f) ∧ VP n G d (fun m => f m - rstf n ord d P e f m) := by
  have hVs : Sub (VV n ord d (VP n G d)) := VV_sub (VP_sub _ _ _)
  have hin : VV n ord d (VP n G d) (fun j => vec n ord d f j - red P e (vec n ord d f) (nM n ord d) j) := red_in (N := nM n ord d) hVs hE.inV _
  have hout : ∀ i, nM n ord d ≤ i → red P e (vec n ord d f) (nM n ord d) i = 0 := fun i hi => by
    have := VV_range _ _ hin i hi
    have e0 : vec n ord d f i = 0 := by unfold vec; rw [if_neg (by omega)]
    simp only [e0] at this
    grind
  have hv : vec n ord d (rstf n ord d P e f) = red P e (vec n ord d f) (nM n ord d) := vec_unv hout
  have hh : hom n d (rstf n ord d P e f) := unv_hom _
  refine ⟨⟨hh, fun i hi => ?_⟩, ?_⟩
  · rw [hv]; exact red_zero (P := P) hE.fam (nM n ord d) i (hE.1 i hi).1 hi
  · rw [← hv, ← vec_sub] at hin
    exact (VV_in (VP_hom hG) ((hom_sub n d).sub hf hh)).mp hin
theorem rst_z [NeZero p] {G : Nat → (Mo2 → Fin p) → Prop} {P : Nat → Bool} {e : Nat → Nat → Fin p} (hE : Ech (nM n ord d) (VV n ord d (VP n G d)) P e) {f : Mo2 → Fin p} (hf : VP n G d f) : rstf n ord d P e f = fun _ => 0 := by
  have hVs : Sub (VV n ord d (VP n G d)) := VV_sub (VP_sub _ _ _)
  have := hE.red0 hVs (v := vec n ord d f) ⟨f, hf, rfl⟩
  funext m
  unfold rstf unv
  split
  · exact this _
  · rfl
theorem rst_st [NeZero p] {P : Nat → Bool} {e : Nat → Nat → Fin p} {f : Mo2 → Fin p} (hf : StP n ord d P f) : rstf n ord d P e f = f := by
  unfold rstf
  rw [red_self _ (fun i _ hi => hf.2 i hi), unv_vec hf.1]
theorem rst_0 [NeZero p] {G : Nat → (Mo2 → Fin p) → Prop} {P : Nat → Bool} {e : Nat → Nat → Fin p} (hG : ∀ e g, G e g → hom n e g) (hE : Ech (nM n ord d) (VV n ord d (VP n G d)) P e) {f : Mo2 → Fin p} (hf : hom n d f) (hz : ∀ m, rstf n ord d P e f m = 0) : VP n G d f := by
  have := (rst_ok hG hE hf).2
  have e0 : (fun m => f m - rstf n ord d P e f m) = f := by funext m; rw [hz m]; grind
  rw [e0] at this; exact this
theorem Dim_St [NeZero p] {G : Nat → (Mo2 → Fin p) → Prop} {P : Nat → Bool} {e : Nat → Nat → Fin p} (hF : isField p) (hG : ∀ e g, G e g → hom n e g) (hE : Ech (nM n ord d) (VV n ord d (VP n G d)) P e) : Dim (StP (p := p) n ord d P) (nM n ord d - vdm n ord G d) := by
  obtain ⟨a, ha⟩ := Dim_ex (V := StP (p := p) n ord d P) (hom_sup (n := n) (ord := ord) (d := d) (fun f hf => hf.1))
  have hi : Dim (img (rstf n ord d P e) (hom n d)) a := Dim_cong (fun f => ⟨fun hf => ⟨f, hf.1, fun m => by rw [rst_st hf]⟩, fun ⟨g, hg, h⟩ => by rw [funext h]; exact (rst_ok hG hE hg).1⟩) ha
  obtain ⟨q1, q2⟩ := Dim_ker hF (hom_sub n d) (rstf_lin n ord d P e) (Dim_hom hF.1 n ord d) hi
  have q3 : Dim (VP n G d) (nM n ord d - a) := Dim_cong (fun f => ⟨fun ⟨h1, h2⟩ => rst_0 hG hE h1 h2, fun h => ⟨VP_hom hG f h, fun m => by rw [rst_z hE h]⟩⟩) q2
  have := Dim_fun hF (VP_sub n G d) q3 (Dim_VP (ord := ord) hG)
  have e1 : a = nM n ord d - vdm n ord G d := by omega
  rw [← e1]; exact ha
/-- a linear map over standard polynomials, by standard products -/
theorem st_span [NeZero p] {κ : Type} {P : Nat → Bool} {T : (Mo2 → Fin p) → κ → Fin p} (hT : Lin T) {V : (κ → Fin p) → Prop} (hV : Sub V) (h : ∀ s, s < nM n ord d → P s = false → V (T (dl (atm n ord d s)))) {f : Mo2 → Fin p} (hf : StP n ord d P f) : V (T f) := by
  have e1 := dl_sum (ord := ord) hf.1
  have e2 : T f = fun i => sm (fun s => f (atm n ord d s) * (if P s = true then (fun _ => 0) else T (dl (atm n ord d s))) i) (nM n ord d) := by
    funext i
    rw [e1, Lin_sm hT (fun s => f (atm n ord d s)) (fun s => dl (atm n ord d s)) i]
    refine sm_cong (fun s hs => ?_)
    rw [← e1]
    by_cases z : P s = true
    · have := hf.2 s z
      unfold vec at this
      rw [if_pos hs] at this
      rw [this]; grind
    · rw [if_neg z]
  rw [e2]
  refine sm_in hV (fun s => f (atm n ord d s)) (fun s => if P s = true then (fun _ => 0) else T (dl (atm n ord d s))) _ (fun s hs => ?_)
  by_cases z : P s = true
  · simp only [if_pos z]; exact hV.1
  · simp only [if_neg z]
    exact h s hs (by cases w : P s; rfl; exact absurd w z)
/-- the letters times what a tuple gives them -/
def Sg [NeZero p] (t : Nat × Mo2 → Fin p) : Mo2 → Fin p := fun m => t (0, m) + mulm (1, 0) (fun q => t (1, q)) m + mulm (0, 1) (fun q => t (2, q)) m
theorem Sg_lin [NeZero p] : Lin (Sg (p := p)) := fun u v c m => by
  unfold Sg
  rw [mulm_lin (1, 0) (fun q => u (1, q)) (fun q => v (1, q)) c, mulm_lin (0, 1) (fun q => u (2, q)) (fun q => v (2, q)) c]
  grind
theorem okl {n l : Nat} (hl : l < n) (h3 : l < 3) : okm n 1 (lt2 l) := by
  unfold lt2 okm
  rcases (show l = 0 ∨ l = 1 ∨ l = 2 by omega) with rfl | rfl | rfl <;> simp <;> omega
theorem Gb_VP [NeZero p] {G : Nat → (Mo2 → Fin p) → Prop} {J : Nat} : VP n (Gb (J + 1) G) J = VP n G J := VP_cong (fun e he g => ⟨fun z => z.2, fun z => ⟨by omega, z⟩⟩)
theorem Sg_in [NeZero p] {G : Nat → (Mo2 → Fin p) → Prop} {J : Nat} (h1 : 1 ≤ n) {t : Nat × Mo2 → Fin p} (ht : tup n (VP n G J) t) : VP n (Gb (J + 1) G) (J + 1) (Sg t) := by
  have hV := VP_sub n (Gb (J + 1) G) (J + 1)
  rw [← Gb_VP (G := G)] at ht
  have c0 : VP n (Gb (J + 1) G) (J + 1) (fun m => t (0, m)) := by
    have := VP_up (okl (l := 0) h1 (by omega)) _ (ht.1 0 h1)
    have e0 : mulm (lt2 0) (fun m => t (0, m)) = fun m => t (0, m) := mulm_0 _
    rw [e0] at this; exact this
  have c1 : VP n (Gb (J + 1) G) (J + 1) (fun m => mulm (1, 0) (fun q => t (1, q)) m) := by
    by_cases z : 1 < n
    · exact VP_up (okl (l := 1) z (by omega)) _ (ht.1 1 z)
    · have : (fun q => t (1, q)) = fun _ => 0 := funext (fun m => ht.2 1 m (by omega))
      rw [this, mulm_z]; exact hV.1
  have c2 : VP n (Gb (J + 1) G) (J + 1) (fun m => mulm (0, 1) (fun q => t (2, q)) m) := by
    by_cases z : 2 < n
    · exact VP_up (okl (l := 2) z (by omega)) _ (ht.1 2 z)
    · have : (fun q => t (2, q)) = fun _ => 0 := funext (fun m => ht.2 2 m (by omega))
      rw [this, mulm_z]; exact hV.1
  exact hV.add (hV.add c0 c1) c2
theorem Sg_on [NeZero p] {G : Nat → (Mo2 → Fin p) → Prop} {J : Nat} (h1n : 1 ≤ n) : ∀ f, VP n (Gb (J + 1) G) (J + 1) f → ∃ t, tup n (VP n G J) t ∧ ∀ m, f m = Sg t m := by
  have hV := tup_sub (n := n) (VP_sub n G J)
  refine VP_rec (W := fun f => ∃ t, tup n (VP n G J) t ∧ ∀ m, f m = Sg t m) ⟨⟨_, hV.1, fun m => (Sg_lin.z m).symm⟩, ?_⟩ (fun l f hl hf => ?_) (fun g hg => absurd hg.1 (by omega))
  · rintro u v c ⟨t, ht, e1⟩ ⟨s, hs, e2⟩
    refine ⟨_, hV.2 t s c ht hs, fun m => ?_⟩
    rw [Sg_lin t s c m, ← e1 m, ← e2 m]
  · rw [Gb_VP] at hf
    obtain ⟨k, hk, rfl⟩ := okm1 hl
    have hkn : k < n := by
      have h1 := hl.2.1
      have h2 := hl.2.2
      have h0 := hl.1
      unfold lt2 at h1 h2 h0
      rcases (show k = 0 ∨ k = 1 ∨ k = 2 by omega) with rfl | rfl | rfl
      · exact h1n
      · simp at h1; omega
      · simp at h2; omega
    refine ⟨fun x => if x.1 = k then f x.2 else 0, ⟨fun i hi => ?_, fun i m hi => if_neg (by simp only; omega)⟩, fun m => ?_⟩
    · by_cases z : i = k
      · simp only [if_pos z]; exact hf
      · simp only [if_neg z]; exact (VP_sub n G J).1
    · unfold Sg
      rcases (show k = 0 ∨ k = 1 ∨ k = 2 by omega) with rfl | rfl | rfl
      · simp only [if_true, if_neg (show ¬ (1 = 0) by omega), if_neg (show ¬ (2 = 0) by omega), mulm_z]
        have e0 : mulm (lt2 0) f = f := mulm_0 _
        rw [e0]; grind
      · simp only [if_true, if_neg (show ¬ (0 = 1) by omega), if_neg (show ¬ (2 = 1) by omega), mulm_z]
        show mulm (1, 0) f m = _
        grind
      · simp only [if_true, if_neg (show ¬ (0 = 2) by omega), if_neg (show ¬ (1 = 2) by omega), mulm_z]
        show mulm (0, 1) f m = _
        grind
/-- all polynomials, as a heap -/
def G1 [NeZero p] : Nat → (Mo2 → Fin p) → Prop := fun e g => e = 0 ∧ g = dl (0, 0)
theorem G1_hom [NeZero p] : ∀ e g, G1 (p := p) e g → hom n e g := fun e g ⟨h1, h2⟩ => by
  subst h1 h2
  exact dl_hom ⟨Nat.le_refl _, fun _ => rfl, fun _ => rfl⟩
theorem G1_VP [NeZero p] (ord d : Nat) : ∀ f, hom (p := p) n d f ↔ VP n G1 d f := by
  intro f
  constructor
  · intro hf
    rw [dl_sum (ord := ord) hf]
    refine sm_in (VP_sub n G1 d) (fun s => f (atm n ord d s)) (fun s => dl (atm n ord d s)) _ (fun s hs => Spn_of ⟨0, dl (0, 0), atm n ord d s, ⟨rfl, rfl⟩, Nat.zero_le _, atm_ok hs, ?_⟩)
    funext m
    unfold mulm dl
    by_cases z : m = atm n ord d s
    · rw [if_pos z, if_pos ⟨by rw [z]; exact Nat.le_refl _, by rw [z]; exact Nat.le_refl _⟩, if_pos (by rw [z]; simp)]
    · rw [if_neg z]
      split
      · rename_i h
        rw [if_neg]
        intro h2
        apply z
        have e1 := congrArg Prod.fst h2
        have e2 := congrArg Prod.snd h2
        simp only at e1 e2
        apply Prod.ext <;> omega
      · rfl
  · exact VP_hom G1_hom f
end KOS
