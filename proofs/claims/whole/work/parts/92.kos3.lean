/-! the ranks of the steps -/
def Rt {p : Nat} [NeZero p] (n ord d : Nat) (P : Nat → Bool) (e : Nat → Nat → Fin p) (t : Nat × Mo2 → Fin p) : Nat × Mo2 → Fin p := fun x => rstf n ord d P e (fun q => t (x.1, q)) x.2
theorem Rt_lin {p : Nat} [NeZero p] (n ord d : Nat) (P : Nat → Bool) (e : Nat → Nat → Fin p) : Lin (Rt n ord d P e) := fun u v c x => rstf_lin n ord d P e (fun q => u (x.1, q)) (fun q => v (x.1, q)) c x.2
/-- tuples that the letters bring to nought -/
def KS {p : Nat} [NeZero p] (n J : Nat) : (Nat × Mo2 → Fin p) → Prop := fun t => tup n (hom n J) t ∧ ∀ m, Sg t m = 0
theorem KS_sub {p : Nat} [NeZero p] (n J : Nat) : Sub (KS (p := p) n J) := ⟨⟨(tup_sub (hom_sub n J)).1, fun m => Sg_lin.z m⟩, fun u v c hu hv => ⟨(tup_sub (hom_sub n J)).2 u v c hu.1 hv.1, fun m => by rw [Sg_lin u v c m, hu.2 m, hv.2 m]; grind⟩⟩
section KOS3
variable {p n ord : Nat}
theorem hom_up1 [NeZero p] {d : Nat} {f : Mo2 → Fin p} (h : hom n d f) : hom n (d + 1) f := fun m hm => ⟨by have := (h m hm).1; omega, (h m hm).2⟩
theorem kos_dim [NeZero p] {J : Nat} {G : Nat → (Mo2 → Fin p) → Prop} {P : Nat → Bool} {e : Nat → Nat → Fin p} (hF : isField p) (h1 : 1 ≤ n) (hG : ∀ e g, G e g → hom n e g) (hE : Ech (nM n ord J) (VV n ord J (VP n G J)) P e) {r : Nat} (hr : Dim (img (Rt n ord J P e) (KS n J)) r) : r + nM n ord (J + 1) + n * vdm n ord G J = n * nM n ord J + vdm n ord (Gb (J + 1) G) (J + 1) := by
  have eh : ∀ d, hom (p := p) n d = VP n G1 d := fun d => funext (fun f => propext (G1_VP ord d f))
  have hA := Dim_tup hF (hom_sub n J) (Dim_hom (p := p) hF.1 n ord J) n
  have hG1 : VP n (Gb (J + 1) (G1 (p := p))) (J + 1) = VP n G1 (J + 1) := VP_cong (fun e he g => ⟨fun z => z.2, fun z => ⟨by have := z.1; omega, z⟩⟩)
  have iA : Dim (img Sg (tup n (hom (p := p) n J))) (nM n ord (J + 1)) := by
    refine Dim_cong (fun f => ⟨fun hf => ?_, ?_⟩) (Dim_hom (p := p) hF.1 n ord (J + 1))
    · rw [eh (J + 1), ← hG1] at hf
      obtain ⟨t, ht, e1⟩ := Sg_on h1 f hf
      exact ⟨t, by rw [eh J]; exact ht, e1⟩
    · rintro ⟨t, ht, e1⟩
      rw [eh J] at ht
      have := Sg_in h1 ht
      rw [hG1, ← eh (J + 1)] at this
      rw [funext e1]; exact this
  obtain ⟨a1, a2⟩ := Dim_ker hF (tup_sub (hom_sub n J)) Sg_lin hA iA
  have hB := Dim_tup hF (VP_sub n G J) (Dim_VP (ord := ord) hG) n
  have iB : Dim (img Sg (tup n (VP n G J))) (vdm n ord (Gb (J + 1) G) (J + 1)) := by
    refine Dim_cong (fun f => ⟨fun hf => ?_, ?_⟩) (Dim_VP (ord := ord) (Gb_hom hG))
    · obtain ⟨t, ht, e1⟩ := Sg_on h1 f hf
      exact ⟨t, ht, e1⟩
    · rintro ⟨t, ht, e1⟩
      rw [funext e1]; exact Sg_in h1 ht
  obtain ⟨b1, b2⟩ := Dim_ker hF (tup_sub (VP_sub n G J)) Sg_lin hB iB
  obtain ⟨c1, c2⟩ := Dim_ker hF (KS_sub n J) (Rt_lin n ord J P e) a2 hr
  have c3 : Dim (fun t => tup n (VP n G J) t ∧ ∀ m, Sg t m = 0) (n * nM n ord J - nM n ord (J + 1) - r) := by
    refine Dim_cong (fun t => ⟨?_, ?_⟩) c2
    · rintro ⟨⟨h2, h3⟩, h4⟩
      exact ⟨⟨fun l hl => rst_0 hG hE (h2.1 l hl) (fun m => h4 (l, m)), h2.2⟩, h3⟩
    · rintro ⟨h2, h3⟩
      refine ⟨⟨⟨fun l hl => VP_hom hG _ (h2.1 l hl), h2.2⟩, h3⟩, fun x => ?_⟩
      unfold Rt
      by_cases z : x.1 < n
      · rw [rst_z hE (h2.1 x.1 z)]
      · have : (fun q => t (x.1, q)) = fun _ => 0 := funext (fun q => h2.2 x.1 q (by omega))
        rw [this]; exact (rstf_lin n ord J P e).z x.2
  have hs : Sub (fun t : Nat × Mo2 → Fin p => tup n (VP n G J) t ∧ ∀ m, Sg t m = 0) := ⟨⟨(tup_sub (VP_sub n G J)).1, fun m => Sg_lin.z m⟩, fun u v c hu hv => ⟨(tup_sub (VP_sub n G J)).2 u v c hu.1 hv.1, fun m => by rw [Sg_lin u v c m, hu.2 m, hv.2 m]; grind⟩⟩
  have := Dim_fun hF hs b2 c3
  omega
/-- differences of two letters: a linear map, its standard products -/
theorem kz_span [NeZero p] {K : Nat} {G : Nat → (Mo2 → Fin p) → Prop} {P P' : Nat → Bool} {e e' : Nat → Nat → Fin p} (hG : ∀ e g, G e g → hom n e g) (hE : Ech (nM n ord (K + 1)) (VV n ord (K + 1) (VP n G (K + 1))) P e) (hE' : Ech (nM n ord K) (VV n ord K (VP n G K)) P' e') {κ : (Mo2 → Fin p) → Nat × Mo2 → Fin p} (hκ : Lin κ) (hv : ∀ v, VP n G K v → ∀ l, VP n G (K + 1) (fun q => κ v (l, q))) {S : (Nat × Mo2 → Fin p) → Prop} (hS : ∀ s, s < nM n ord K → P' s = false → S (Rt n ord (K + 1) P e (κ (dl (atm n ord K s))))) {a : Mo2 → Fin p} (ha : hom n K a) : Spn S (Rt n ord (K + 1) P e (κ a)) := by
  have hL : Lin (fun f => Rt n ord (K + 1) P e (κ f)) := (Rt_lin n ord (K + 1) P e).comp hκ
  obtain ⟨r1, r2⟩ := rst_ok hG hE' ha
  have h1 := st_span (n := n) (ord := ord) (d := K) (P := P') hL (Spn_sub S) (fun s hs hp => Spn_of (hS s hs hp)) r1
  have hz : ∀ x, Rt n ord (K + 1) P e (κ (fun m => a m - rstf n ord K P' e' a m)) x = 0 := fun x => by
    unfold Rt
    rw [rst_z hE (hv _ r2 x.1)]
  have e1 : Rt n ord (K + 1) P e (κ a) = Rt n ord (K + 1) P e (κ (rstf n ord K P' e' a)) := by
    funext x
    have := hL (rstf n ord K P' e' a) (fun m => a m - rstf n ord K P' e' a m) 1 x
    have e0 : (fun j => rstf n ord K P' e' a j + 1 * (a j - rstf n ord K P' e' a j)) = a := by funext j; grind
    simp only [e0, hz x] at this
    rw [this]; grind
  rw [e1]; exact h1
theorem VP_id [NeZero p] {G : Nat → (Mo2 → Fin p) → Prop} {K : Nat} {v : Mo2 → Fin p} (h1 : 1 ≤ n) (hv : VP n G K v) : VP n G (K + 1) v := by
  have := VP_up (okl (l := 0) h1 (by omega)) v hv
  have e0 : mulm (lt2 0) v = v := mulm_0 v
  rw [e0] at this; exact this
theorem kz01_V [NeZero p] {G : Nat → (Mo2 → Fin p) → Prop} {K : Nat} {V : Nat → (Mo2 → Fin p) → Prop} (hV : Sub (V (K + 1))) {v : Mo2 → Fin p} (h1 : V (K + 1) v) (h2 : V (K + 1) (mulm (1, 0) v)) (l : Nat) : V (K + 1) (fun q => kz01 v (l, q)) := by
  unfold kz01
  by_cases z : l = 0
  · simp only [if_pos z]
    exact hV.sub hV.1 h2
  · simp only [if_neg z]
    by_cases y : l = 1
    · simp only [if_pos y]; exact h1
    · simp only [if_neg y]; exact hV.1
theorem kz02_V [NeZero p] {K : Nat} {V : Nat → (Mo2 → Fin p) → Prop} (hV : Sub (V (K + 1))) {v : Mo2 → Fin p} (h1 : V (K + 1) v) (h2 : V (K + 1) (mulm (0, 1) v)) (l : Nat) : V (K + 1) (fun q => kz02 v (l, q)) := by
  unfold kz02
  by_cases z : l = 0
  · simp only [if_pos z]
    exact hV.sub hV.1 h2
  · simp only [if_neg z]
    by_cases y : l = 2
    · simp only [if_pos y]; exact h1
    · simp only [if_neg y]; exact hV.1
theorem kz12_V [NeZero p] {K : Nat} {V : Nat → (Mo2 → Fin p) → Prop} (hV : Sub (V (K + 1))) {v : Mo2 → Fin p} (h1 : V (K + 1) (mulm (1, 0) v)) (h2 : V (K + 1) (mulm (0, 1) v)) (l : Nat) : V (K + 1) (fun q => kz12 v (l, q)) := by
  unfold kz12
  by_cases z : l = 1
  · simp only [if_pos z]
    exact hV.sub hV.1 h2
  · simp only [if_neg z]
    by_cases y : l = 2
    · simp only [if_pos y]; exact h1
    · simp only [if_neg y]; exact hV.1
/-- the rows of the second step -/
def RW2 [NeZero p] (n ord K : Nat) (P' P : Nat → Bool) (e : Nat → Nat → Fin p) : (Nat × Mo2 → Fin p) → Prop := fun t => ∃ s, s < nM n ord K ∧ P' s = false ∧ ((2 ≤ n ∧ t = Rt n ord (K + 1) P e (kz01 (dl (atm n ord K s)))) ∨ (3 ≤ n ∧ (t = Rt n ord (K + 1) P e (kz02 (dl (atm n ord K s))) ∨ t = Rt n ord (K + 1) P e (kz12 (dl (atm n ord K s))))))
theorem U2_eq [NeZero p] {K : Nat} {G : Nat → (Mo2 → Fin p) → Prop} {P P' : Nat → Bool} {e e' : Nat → Nat → Fin p} (h1 : 1 ≤ n) (hn : n ≤ 3) (hG : ∀ e g, G e g → hom n e g) (hE : Ech (nM n ord (K + 1)) (VV n ord (K + 1) (VP n G (K + 1))) P e) (hE' : Ech (nM n ord K) (VV n ord K (VP n G K)) P' e') (t : Nat × Mo2 → Fin p) : Spn (RW2 n ord K P' P e) t ↔ img (Rt n ord (K + 1) P e) (KS n (K + 1)) t := by
  have hhs := hom_sub (p := p) n (K + 1)
  have zR : Rt (p := p) n ord (K + 1) P e (fun _ => 0) = fun _ => 0 := funext (fun x => (Rt_lin n ord (K + 1) P e).z x)
  have z1 : kz01 (p := p) (fun _ => 0) = fun _ => 0 := funext (fun x => kz01_lin.z x)
  have z2 : kz02 (p := p) (fun _ => 0) = fun _ => 0 := funext (fun x => kz02_lin.z x)
  have z3 : kz12 (p := p) (fun _ => 0) = fun _ => 0 := funext (fun x => kz12_lin.z x)
  have o10 : 2 ≤ n → okm n 1 (1, 0) := fun h => okl (l := 1) (by omega) (by omega)
  have o01 : 3 ≤ n → okm n 1 (0, 1) := fun h => okl (l := 2) (by omega) (by omega)
  constructor
  · intro ht
    refine Spn_le (img_sub (Rt_lin n ord (K + 1) P e) (KS_sub n (K + 1))) (fun u hu => ?_) t ht
    obtain ⟨s, hs, hp, hu⟩ := hu
    have hd := dl_hom (p := p) (atm_ok hs)
    have hd1 := hom_up1 hd
    rcases hu with ⟨h2, rfl⟩ | ⟨h3, rfl | rfl⟩
    · refine ⟨kz01 (dl (atm n ord K s)), ⟨⟨fun l _ => kz01_V (G := G) (V := fun d => hom n d) hhs hd1 (hom_mulm hd (o10 h2)) l, fun l m hl => ?_⟩, fun m => ?_⟩, fun _ => rfl⟩
      · unfold kz01
        rw [if_neg (by simp only; omega), if_neg (by simp only; omega)]
      · have := kz_Sg (dl (atm n ord K s)) (fun _ => (0 : Fin p)) (fun _ => 0) m
        rw [z2, z3] at this
        have e0 : (fun x => kz01 (dl (atm n ord K s)) x + 0 + (0 : Fin p)) = kz01 (dl (atm n ord K s)) := by funext x; grind
        rw [e0] at this; exact this
    · refine ⟨kz02 (dl (atm n ord K s)), ⟨⟨fun l _ => kz02_V (V := fun d => hom n d) hhs hd1 (hom_mulm hd (o01 h3)) l, fun l m hl => ?_⟩, fun m => ?_⟩, fun _ => rfl⟩
      · unfold kz02
        rw [if_neg (by simp only; omega), if_neg (by simp only; omega)]
      · have := kz_Sg (fun _ => (0 : Fin p)) (dl (atm n ord K s)) (fun _ => 0) m
        rw [z1, z3] at this
        have e0 : (fun x => 0 + kz02 (dl (atm n ord K s)) x + (0 : Fin p)) = kz02 (dl (atm n ord K s)) := by funext x; grind
        rw [e0] at this; exact this
    · refine ⟨kz12 (dl (atm n ord K s)), ⟨⟨fun l _ => kz12_V (V := fun d => hom n d) hhs (hom_mulm hd (o10 (by omega))) (hom_mulm hd (o01 h3)) l, fun l m hl => ?_⟩, fun m => ?_⟩, fun _ => rfl⟩
      · unfold kz12
        rw [if_neg (by simp only; omega), if_neg (by simp only; omega)]
      · have := kz_Sg (fun _ => (0 : Fin p)) (fun _ => 0) (dl (atm n ord K s)) m
        rw [z1, z2] at this
        have e0 : (fun x => 0 + 0 + kz12 (dl (p := p) (atm n ord K s)) x) = kz12 (dl (atm n ord K s)) := by funext x; grind
        rw [e0] at this; exact this
  · rintro ⟨u, ⟨u1, u2⟩, ht⟩
    obtain ⟨a, b, c, ha, hb, hc, a0, b0, he⟩ := exact1 u1 hn u2
    have hu : u = fun x => kz01 a x + kz02 b x + kz12 c x := funext he
    have hS := Spn_sub (RW2 (p := p) n ord K P' P e)
    have sa : Spn (RW2 n ord K P' P e) (Rt n ord (K + 1) P e (kz01 a)) := by
      by_cases z : 2 ≤ n
      · exact kz_span hG hE hE' kz01_lin (fun v hv l => kz01_V (G := G) (V := fun d => VP n G d) (VP_sub n G (K + 1)) (VP_id h1 hv) (VP_up (o10 z) v hv) l) (fun s hs hp => ⟨s, hs, hp, Or.inl ⟨z, rfl⟩⟩) ha
      · rw [a0 (by omega), z1, zR]; exact hS.1
    have sb : Spn (RW2 n ord K P' P e) (Rt n ord (K + 1) P e (kz02 b)) := by
      by_cases z : 3 ≤ n
      · exact kz_span hG hE hE' kz02_lin (fun v hv l => kz02_V (V := fun d => VP n G d) (VP_sub n G (K + 1)) (VP_id h1 hv) (VP_up (o01 z) v hv) l) (fun s hs hp => ⟨s, hs, hp, Or.inr ⟨z, Or.inl rfl⟩⟩) hb
      · rw [(b0 (by omega)).1, z2, zR]; exact hS.1
    have sc : Spn (RW2 n ord K P' P e) (Rt n ord (K + 1) P e (kz12 c)) := by
      by_cases z : 3 ≤ n
      · exact kz_span hG hE hE' kz12_lin (fun v hv l => kz12_V (V := fun d => VP n G d) (VP_sub n G (K + 1)) (VP_up (o10 (by omega)) v hv) (VP_up (o01 z) v hv) l) (fun s hs hp => ⟨s, hs, hp, Or.inr ⟨z, Or.inr rfl⟩⟩) hc
      · rw [(b0 (by omega)).2, z3, zR]; exact hS.1
    have := hS.add (hS.add sa sb) sc
    have e1 : t = fun x => Rt n ord (K + 1) P e (kz01 a) x + Rt n ord (K + 1) P e (kz02 b) x + Rt n ord (K + 1) P e (kz12 c) x := by
      funext x
      rw [ht x, hu]
      have q1 := Rt_lin n ord (K + 1) P e (fun x => kz01 a x + kz02 b x) (kz12 c) 1 x
      have q2 := Rt_lin n ord (K + 1) P e (kz01 a) (kz02 b) 1 x
      have e2 : (fun x => (kz01 a x + kz02 b x) + 1 * kz12 c x) = fun x => kz01 a x + kz02 b x + kz12 c x := by funext x; grind
      have e3 : (fun x => kz01 a x + 1 * kz02 b x) = fun x => kz01 a x + kz02 b x := by funext x; grind
      rw [e2] at q1
      rw [e3] at q2
      rw [q1, q2]; grind
    rw [e1]; exact this
/-- the second rank -/
theorem U2_dim [NeZero p] {K r : Nat} {G : Nat → (Mo2 → Fin p) → Prop} {P P' : Nat → Bool} {e e' : Nat → Nat → Fin p} (hF : isField p) (h1 : 1 ≤ n) (hn : n ≤ 3) (hG : ∀ e g, G e g → hom n e g) (hE : Ech (nM n ord (K + 1)) (VV n ord (K + 1) (VP n G (K + 1))) P e) (hE' : Ech (nM n ord K) (VV n ord K (VP n G K)) P' e') (hr : Dim (Spn (RW2 n ord K P' P e)) r) : r + nM n ord (K + 2) + n * vdm n ord G (K + 1) = n * nM n ord (K + 1) + vdm n ord (Gb (K + 2) G) (K + 2) := kos_dim hF h1 hG hE (Dim_cong (U2_eq h1 hn hG hE hE') hr)
/-- no row of the second step: one letter, or degree 1 -/
theorem U2_none [NeZero p] {J : Nat} {G : Nat → (Mo2 → Fin p) → Prop} (hF : isField p) (h1 : 1 ≤ n) (hn : n ≤ 3) (hG : ∀ e g, G e g → hom n e g) (h : J = 0 ∨ n = 1) : nM n ord (J + 1) + n * vdm n ord G J = n * nM n ord J + vdm n ord (Gb (J + 1) G) (J + 1) := by
  obtain ⟨e, hE⟩ := Ech_of (N := nM n ord J) hF (VV_sub (ord := ord) (VP_sub n G J)) (VV_range _)
  have hz : ∀ t, KS (p := p) n J t → ∀ x, t x = 0 := by
    rintro t ⟨t1, t2⟩
    rcases h with rfl | rfl
    · exact exact0 t1 hn t2
    · intro ⟨l, m⟩
      by_cases z : l = 0
      · subst z
        have := t2 m
        unfold Sg at this
        have e1 : (fun q => t (1, q)) = fun _ => 0 := funext (fun q => t1.2 1 q (by omega))
        have e2 : (fun q => t (2, q)) = fun _ => 0 := funext (fun q => t1.2 2 q (by omega))
        rw [e1, e2, mulm_z, mulm_z] at this
        grind
      · exact t1.2 l m (by omega)
  have hr : Dim (img (Rt n ord J (leadB (VV n ord J (VP n G J))) e) (KS n J)) 0 := Dim_0 (0, (0, 0)) (fun w ⟨t, ht, hw⟩ x => by
    rw [hw x]
    have e0 : t = fun _ => 0 := funext (hz t ht)
    rw [e0]; exact (Rt_lin n ord J _ e).z x)
  have := kos_dim hF h1 hG hE hr
  omega
/-- the rows of the first step, and their rank -/
def RW1 [NeZero p] (n ord J : Nat) (P' P : Nat → Bool) (e : Nat → Nat → Fin p) : (Mo2 → Fin p) → Prop := fun f => ∃ l s, l < n ∧ s < nM n ord J ∧ P' s = false ∧ f = rstf n ord (J + 1) P e (mulm (lt2 l) (dl (atm n ord J s)))
theorem mulm_dl [NeZero p] (l b : Mo2) : mulm l (dl (p := p) b) = dl (l.1 + b.1, l.2 + b.2) := by
  funext m
  unfold mulm dl
  by_cases z : m = (l.1 + b.1, l.2 + b.2)
  · subst z
    rw [if_pos ⟨by simp only; omega, by simp only; omega⟩, if_pos rfl, if_pos]
    apply Prod.ext <;> simp only <;> omega
  · rw [if_neg z]
    split
    · rename_i h
      rw [if_neg]
      intro h2
      apply z
      have e1 := congrArg Prod.fst h2
      have e2 := congrArg Prod.snd h2
      simp only at e1 e2
      apply Prod.ext <;> simp only <;> omega
    · rfl
theorem U1_eq [NeZero p] {J : Nat} {G : Nat → (Mo2 → Fin p) → Prop} {e : Nat → Nat → Fin p} (hF : isField p) (h1 : 1 ≤ n) (hn : n ≤ 3) (hG : ∀ e g, G e g → hom n e g) (hE : Ech (nM n ord (J + 1)) (VV n ord (J + 1) (VP n G (J + 1))) (leadB (VV n ord (J + 1) (VP n G (J + 1)))) e) (f : Mo2 → Fin p) : Spn (RW1 n ord J (leadB (VV n ord J (VP n G J))) (leadB (VV n ord (J + 1) (VP n G (J + 1)))) e) f ↔ StP n ord (J + 1) (leadB (VV n ord (J + 1) (VP n G (J + 1)))) f := by
  constructor
  · intro hf
    refine Spn_le (StP_sub _ _ _ _) (fun g hg => ?_) f hf
    obtain ⟨l, s, hl, hs, _, rfl⟩ := hg
    exact (rst_ok hG hE (hom_mulm (dl_hom (atm_ok hs)) (okl hl (by omega)))).1
  · intro hf
    have hid : Lin (fun f : Mo2 → Fin p => f) := fun u v c i => rfl
    refine st_span (T := fun f => f) hid (Spn_sub _) (fun s' hs' hp' => ?_) hf
    have hok := atm_ok hs'
    obtain ⟨l, b, hl, hb, hlb⟩ := okm_split hok
    obtain ⟨k, hk, rfl⟩ := okm1 hl
    have hkn : k < n := by
      have q1 := hl.2.1
      have q2 := hl.2.2
      unfold lt2 at q1 q2
      rcases (show k = 0 ∨ k = 1 ∨ k = 2 by omega) with rfl | rfl | rfl
      · exact h1
      · simp at q1; omega
      · simp at q2; omega
    refine Spn_of ⟨k, psm n ord J b, hkn, psm_lt hb, ?_, ?_⟩
    · cases z : leadB (VV n ord J (VP n G J)) (psm n ord J b)
      · rfl
      · exfalso
        have := lead_up hG hb hl (leadB_iff.mp z)
        rw [show ((b.1 + (lt2 k).1, b.2 + (lt2 k).2) : Mo2) = atm n ord (J + 1) s' by rw [hlb]; apply Prod.ext <;> simp only <;> omega, psm_atm hs'] at this
        rw [leadB_iff.mpr this] at hp'
        exact absurd hp' (by decide)
    · rw [atm_psm hb, mulm_dl, ← hlb]
      symm
      refine rst_st ⟨dl_hom hok, fun i hi => ?_⟩
      unfold vec dl
      by_cases z : i < nM n ord (J + 1)
      · rw [if_pos z, if_neg]
        intro w
        have := atm_inj z hs' w
        rw [this] at hi
        rw [hi] at hp'; exact absurd hp' (by decide)
      · rw [if_neg z]
end KOS3
