/-! Base: a degree closed, the mathematics -/
/-- the position of number j, counted from the end -/
def pick (Q : Nat → Bool) : Nat → Nat → Nat
  | 0, _ => 0
  | n + 1, j => if Q n = true then (if j = 0 then n else pick Q n (j - 1)) else pick Q n j
theorem pick_ok {Q : Nat → Bool} : ∀ {N j : Nat}, j < ct Q N → pick Q N j < N ∧ Q (pick Q N j) = true ∧ ct Q N - ct Q (pick Q N j + 1) = j
  | 0, j, h => absurd h (Nat.not_lt_zero j)
  | N + 1, j, h => by
    cases q : Q N
    · have e1 : pick Q (N + 1) j = pick Q N j := by show (if Q N = true then _ else _) = _; rw [if_neg (by rw [q]; decide)]
      rw [ct_succ_f q] at h ⊢
      rw [e1]
      obtain ⟨h1, h2, h3⟩ := pick_ok h
      exact ⟨by omega, h2, h3⟩
    · rw [ct_succ_t q] at h ⊢
      by_cases z : j = 0
      · have e1 : pick Q (N + 1) j = N := by show (if Q N = true then _ else _) = _; rw [if_pos q, if_pos z]
        rw [e1, ct_succ_t q]
        exact ⟨by omega, q, by omega⟩
      · have e1 : pick Q (N + 1) j = pick Q N (j - 1) := by show (if Q N = true then _ else _) = _; rw [if_pos q, if_neg z]
        rw [e1]
        obtain ⟨h1, h2, h3⟩ := pick_ok (Q := Q) (N := N) (j := j - 1) (by omega)
        have := ct_up (Q := Q) (show pick Q N (j - 1) + 1 ≤ N by omega)
        exact ⟨by omega, h2, by omega⟩
theorem ct_inj {Q : Nat → Bool} {i j : Nat} (hi : Q i = true) (hj : Q j = true) (h : ct Q (i + 1) = ct Q (j + 1)) : i = j := by
  rcases Nat.lt_trichotomy i j with q | q | q
  · have := ct_up (Q := Q) (show i + 1 ≤ j by omega)
    have := ct_succ_t hj
    omega
  · exact q
  · have := ct_up (Q := Q) (show j + 1 ≤ i by omega)
    have := ct_succ_t hi
    omega
theorem pick_eq {Q : Nat → Bool} {N i : Nat} (hi : i < N) (hQ : Q i = true) : pick Q N (ct Q N - ct Q (i + 1)) = i := by
  have a := ct_up (Q := Q) (show i + 1 ≤ N by omega)
  have b := ct_succ_t hQ
  obtain ⟨h1, h2, h3⟩ := pick_ok (Q := Q) (N := N) (j := ct Q N - ct Q (i + 1)) (by omega)
  have c := ct_up (Q := Q) (show pick Q N (ct Q N - ct Q (i + 1)) + 1 ≤ N by omega)
  exact ct_inj h2 hQ (by omega)
theorem pigeon {N : Nat} (f : Nat → Nat) : ∀ s, (∀ k, k < s → f k < N) → (∀ k k', k < s → k' < s → f k = f k' → k = k') → s ≤ N := by
  have key : ∀ s, (∀ k, k < s → f k < N) → (∀ k k', k < s → k' < s → f k = f k' → k = k') → ∃ Q : Nat → Bool, ct Q N = s ∧ ∀ j, Q j = true → ∃ k, k < s ∧ f k = j := by
    intro s
    induction s with
    | zero => intro _ _; exact ⟨fun _ => false, ct_0 N, fun j hj => absurd hj Bool.false_ne_true⟩
    | succ s ih =>
      intro h1 h2
      obtain ⟨Q, q1, q2⟩ := ih (fun k hk => h1 k (by omega)) (fun k k' a b => h2 k k' (by omega) (by omega))
      have hf : Q (f s) = false := by
        cases z : Q (f s)
        · rfl
        · obtain ⟨k, k1, k2⟩ := q2 _ z
          have := h2 k s (by omega) (by omega) k2
          omega
      refine ⟨addP Q (f s), by rw [ct_add hf (h1 s (by omega)), q1], fun j hj => ?_⟩
      by_cases z : j = f s
      · exact ⟨s, by omega, z.symm⟩
      · rw [addP_ne z] at hj
        obtain ⟨k, k1, k2⟩ := q2 j hj
        exact ⟨k, by omega, k2⟩
  intro s h1 h2
  obtain ⟨Q, q1, _⟩ := key s h1 h2
  rw [← q1]; exact ct_le Q N
theorem mv_lead {p : Nat} [NeZero p] {n ord : Nat} {G : Nat → (Mo2 → Fin p) → Prop} (h1p : (1 : Fin p) ≠ 0) {dk d : Nat} {h m : Mo2} {g : Mo2 → Fin p} (hE : Elem n ord G dk h g) (hm : okm n d m) (hd : divm dk h d m) : lead (VV n ord d (VP n G d)) (psm n ord d m) := by
  obtain ⟨a, b⟩ := mv_vec0 hE hm hd
  exact ⟨_, ⟨_, mv_in hE hm hd, rfl⟩, by rw [a]; exact h1p, b⟩
theorem eix_lt {p : Nat} [NeZero p] {n ord d i : Nat} {G : Nat → (Mo2 → Fin p) → Prop} {sz : Nat → Nat} (hi : i < nM n ord d) (hn : isnew n ord G d i = true) : eix n ord G sz d i < sz d + ct (isnew n ord G d) (nM n ord d) := by
  have a := ct_up (Q := isnew n ord G d) (show i + 1 ≤ nM n ord d by omega)
  have b := ct_succ_t hn
  unfold eix; omega
theorem BaT.ex {p : Nat} [NeZero p] {n ord r : Nat} {G : Nat → (Mo2 → Fin p) → Prop} {sz dg : Nat → Nat} {hd : Nat → Mo2} {gl : Nat → Mo2 → Fin p} {ld : Nat → Nat → Nat} (hT : BaT n ord G r sz dg hd gl ld) : ∀ d, d ≤ r → ∀ k, k < sz d → ∃ e i, e < d ∧ i < nM n ord e ∧ isnew n ord G e i = true ∧ k = eix n ord G sz e i
  | 0, _, k, hk => by rw [hT.1.1] at hk; omega
  | d + 1, hd, k, hk => by
    by_cases q : k < sz d
    · obtain ⟨e, i, a, b⟩ := hT.ex d (by omega) k q
      exact ⟨e, i, by omega, b⟩
    · rw [hT.1.2.2 d (by omega)] at hk
      obtain ⟨h1, h2, h3⟩ := pick_ok (Q := isnew n ord G d) (N := nM n ord d) (j := k - sz d) (by omega)
      exact ⟨d, pick (isnew n ord G d) (nM n ord d) (k - sz d), by omega, h1, h2, by unfold eix; omega⟩
theorem BaT.le66 {p : Nat} [NeZero p] {n ord r : Nat} {G : Nat → (Mo2 → Fin p) → Prop} {sz dg : Nat → Nat} {hd : Nat → Mo2} {gl : Nat → Mo2 → Fin p} {ld : Nat → Nat → Nat} (h1p : (1 : Fin p) ≠ 0) (hT : BaT n ord G r sz dg hd gl ld) : sz r ≤ 66 := by
  have hT' := hT
  obtain ⟨⟨t1, t2, t3⟩, t4, t5, t6, t7⟩ := hT
  have hdeg : ∀ k, k < sz r → dg k < r ∧ okm n (dg k) (hd k) := fun k hk => ⟨(t4 r (Nat.le_refl r)).1 k hk, (t5 k hk).1⟩
  -- one below the other
  have anti : ∀ k k', k < sz r → k' < sz r → dg k < dg k' → dg k - (hd k).1 - (hd k).2 = dg k' - (hd k').1 - (hd k').2 → (hd k).1 = (hd k').1 → False := by
    intro k k' hk hk' hlt hx hy
    obtain ⟨e, i, e1, e2, e3, e4⟩ := hT'.ex r (Nat.le_refl r) k' hk'
    obtain ⟨f1, f2, _⟩ := t7 e e1 i e2 e3
    rw [← e4] at f1 f2
    have o1 := (hdeg k hk).2
    have o2 := (hdeg k' hk').2
    have o1' := o1.1
    have o2' := o2.1
    have hz : (hd k).2 < (hd k').2 := by omega
    have hn3 : ¬ n < 3 := fun z => by have := o2.2.2 z; omega
    have ob : okm n (dg k' - 1) ((hd k').1, (hd k').2 - 1) := ⟨by simp only; omega, fun z => o2.2.1 z, fun z => absurd z hn3⟩
    apply (isnew_iff.mp e3).2
    rw [← f1]
    refine ⟨(0, 1), ((hd k').1, (hd k').2 - 1), ⟨by simp, fun _ => rfl, fun z => absurd z hn3⟩, ob, by omega, ?_, ?_⟩
    · rw [f1, ← f2]; apply Prod.ext <;> simp only <;> omega
    · exact mv_lead h1p (t5 k hk) ob ⟨by simp only; omega, by simp only; omega, by simp only; omega⟩
  refine pigeon (fun k => pl (dg k - (hd k).1 - (hd k).2, (hd k).1)) (sz r) (fun k hk => ?_) (fun k k' hk hk' he => ?_)
  · have := hdeg k hk
    exact pl_lt (by simp only; have := this.2.1; omega)
  · have w1 := hdeg k hk
    have w2 := hdeg k' hk'
    have w1' := w1.2.1
    have w2' := w2.2.1
    have := pl_inj (by simp only; omega) (by simp only; omega) he
    have x1 : dg k - (hd k).1 - (hd k).2 = dg k' - (hd k').1 - (hd k').2 := congrArg Prod.fst this
    have x2 : (hd k).1 = (hd k').1 := congrArg Prod.snd this
    rcases Nat.lt_trichotomy (dg k) (dg k') with q | q | q
    · exact (anti k k' hk hk' q x1 x2).elim
    · obtain ⟨e, i, e1, e2, e3, e4⟩ := hT'.ex r (Nat.le_refl r) k hk
      obtain ⟨e', i', e1', e2', e3', e4'⟩ := hT'.ex r (Nat.le_refl r) k' hk'
      obtain ⟨f1, f2, _⟩ := t7 e e1 i e2 e3
      obtain ⟨f1', f2', _⟩ := t7 e' e1' i' e2' e3'
      rw [← e4] at f1 f2
      rw [← e4'] at f1' f2'
      have ee : e = e' := by omega
      subst ee
      have : hd k = hd k' := by apply Prod.ext <;> omega
      have ii : i = i' := atm_inj e2 e2' (by rw [← f2, ← f2', this])
      rw [e4, e4', ii]
    · exact (anti k' k hk' hk q x1.symm x2.symm).elim
theorem Ech_f {p : Nat} [NeZero p] {N : Nat} {V V' : (Nat → Fin p) → Prop} {P P' : Nat → Bool} {e e' : Nat → Nat → Fin p} (hV : ∀ u, V u ↔ V' u) (hP : ∀ i, P i = P' i) (he : ∀ i, P i = true → e i = e' i) (h : Ech N V P e) : Ech N V' P' e' := by
  have e1 : V = V' := funext fun u => propext (hV u)
  have e2 : P = P' := funext hP
  subst e1 e2
  refine ⟨fun i hi => ?_, h.2⟩
  rw [← he i hi]; exact h.1 i hi
theorem stt_cong {p : Nat} [NeZero p] {n ord : Nat} {dg dg' : Nat → Nat} {gl gl' : Nat → Mo2 → Fin p} : ∀ {s : Nat}, (∀ k, k < s → dg k = dg' k ∧ gl k = gl' k) → stt n ord dg gl s = stt n ord dg' gl' s
  | 0, _ => rfl
  | s + 1, h => by
    show stt n ord dg gl s + _ = stt n ord dg' gl' s + _
    rw [stt_cong (fun k hk => h k (by omega)), (h s (by omega)).1, (h s (by omega)).2]
def n3 (d : Nat) : Nat := [1, 3, 6, 10, 15, 21, 28, 36, 45, 55, 66].getD d 0
theorem nM_n3 : ∀ n, n < 4 → ∀ o, o < 2 → ∀ d, d < 11 → nM n o d ≤ n3 d := by decide +kernel
theorem qd_ok : ∀ d, d < 11 → ∀ N, N < n3 d + 1 → ∀ K, K < N + 1 → K * (N + 1 - K) ≤ 21 * K + qd d := by decide +kernel
theorem mv_self {p : Nat} [NeZero p] (m : Mo2) (g : Mo2 → Fin p) : mv m m g = g := by
  unfold mv; rw [Nat.sub_self, Nat.sub_self, mulm_0]
section CL
variable {n ord p d s : Nat}
def dgF (s d : Nat) (dg : Nat → Nat) : Nat → Nat := fun k => if k < s then dg k else d
def hdF (n ord d s : Nat) (Q : Nat → Bool) (hd : Nat → Mo2) : Nat → Mo2 := fun k => if k < s then hd k else atm n ord d (pick Q (nM n ord d) (k - s))
def glF [NeZero p] (n ord d s : Nat) (Q : Nat → Bool) (e : Nat → Nat → Fin p) (gl : Nat → Mo2 → Fin p) : Nat → Mo2 → Fin p := fun k => if k < s then gl k else unv n ord d (e (pick Q (nM n ord d) (k - s)))
def szF (n ord d : Nat) (Q : Nat → Bool) (sz : Nat → Nat) : Nat → Nat := fun e => if e ≤ d then sz e else sz d + ct Q (nM n ord d)
def ldF (n ord d : Nat) (Q : Nat → Bool) (ldm : Mo2 → Nat) (sz : Nat → Nat) (ld : Nat → Nat → Nat) : Nat → Nat → Nat := fun e i => if e = d then (if Q i = true then sz d + (ct Q (nM n ord d) - ct Q (i + 1)) + 1 else ihf n ord d ldm i) else ld e i
theorem close_nzc [NeZero p] {R : (Nat → Fin p) → Prop} {Q : Nat → Bool} {e : Nat → Nat → Fin p} (hR : inRange (nM n ord d) R) (hE : Ech (nM n ord d) R Q e) (hRr : Rref Q e) {i : Nat} (hi : Q i = true) : nzc n ord d (unv n ord d (e i)) + ct Q (nM n ord d) ≤ nM n ord d + 1 := by
  have hin := hE.1 i hi
  unfold nzc
  rw [vec_unv (hR _ hin.2.1)]
  have h1 : ct (Qf (e i)) (nM n ord d) ≤ ct (addP (fun j => !Q j) i) (nM n ord d) := ct_mono (fun j hj hq => by
    by_cases z : j = i
    · rw [z]; exact addP_h _ _
    · rw [addP_ne z]
      cases y : Q j
      · rfl
      · exact absurd (hRr i j hi y (fun w => z w.symm)) (Qf_iff.mp hq))
  have h2 := ct_add (P := fun j => !Q j) (h := i) (by simp [hi]) hin.1
  have h3 := ct_not Q (nM n ord d)
  omega
theorem close_stt [NeZero p] {dg : Nat → Nat} {gl : Nat → Mo2 → Fin p} {R : (Nat → Fin p) → Prop} {Q : Nat → Bool} {e : Nat → Nat → Fin p} (hR : inRange (nM n ord d) R) (hE : Ech (nM n ord d) R Q e) (hRr : Rref Q e) : ∀ j, j ≤ ct Q (nM n ord d) → stt n ord (dgF s d dg) (glF n ord d s Q e gl) (s + j) ≤ stt n ord dg gl s + j * (nM n ord d + 1 - ct Q (nM n ord d))
  | 0, _ => by
    rw [Nat.zero_mul]
    exact Nat.le_of_eq (stt_cong (fun k hk => ⟨if_pos hk, if_pos hk⟩))
  | j + 1, hj => by
    have ih := close_stt (dg := dg) (gl := gl) hR hE hRr j (by omega)
    have q1 : dgF s d dg (s + j) = d := if_neg (by omega)
    have q2 : glF n ord d s Q e gl (s + j) = unv n ord d (e (pick Q (nM n ord d) j)) := by unfold glF; rw [if_neg (by omega), Nat.add_sub_cancel_left]
    have q3 := close_nzc hR hE hRr (pick_ok (Q := Q) (N := nM n ord d) (j := j) (by omega)).2.1
    show stt n ord (dgF s d dg) (glF n ord d s Q e gl) (s + j) + nzc n ord (dgF s d dg (s + j)) (glF n ord d s Q e gl (s + j)) ≤ _
    rw [q1, q2, Nat.add_mul, Nat.one_mul]
    omega
theorem close_math [NeZero p] {G : Nat → (Mo2 → Fin p) → Prop} {sz dg : Nat → Nat} {hd : Nat → Mo2} {gl : Nat → Mo2 → Fin p} {ld : Nat → Nat → Nat} {R : (Nat → Fin p) → Prop} {Q : Nat → Bool} {e : Nat → Nat → Fin p} (h1p : (1 : Fin p) ≠ 0) (hn : n ≤ 3) (ho : ord ≤ 1) (hd10 : d ≤ 10) (hG : ∀ e g, G e g → hom n e g) (hT : BaT n ord G d sz dg hd gl ld) (h66 : sz d ≤ 66) (hRs : Sub R) (hR : inRange (nM n ord d) R) (hE : Ech (nM n ord d) R Q e) (hRr : Rref Q e) (hz : ∀ w, R w → ∀ i, Pih n ord d (ldmf n ord d ld) i = true → w i = 0) (hEq : ∀ u, sumV (Esp n ord d hd gl (ldmf n ord d ld)) R u ↔ VV n ord d (VP n G d) u) :
    BaT n ord G (d + 1) (szF n ord d Q sz) (dgF (sz d) d dg) (hdF n ord d (sz d) Q hd) (glF n ord d (sz d) Q e gl) (ldF n ord d Q (ldmf n ord d ld) sz ld) ∧ (∀ i, i < nM n ord d → isnew n ord G d i = Q i) ∧ vdm n ord G d = ct (fun i => Pih n ord d (ldmf n ord d ld) i || Q i) (nM n ord d) := by
  have hEs := hT.els hG h66
  have hVs : Sub (VV n ord d (VP n G d)) := VV_sub (VP_sub _ _ _)
  obtain ⟨hS1, hS2⟩ := hEs.ech.sum h1p (Spn_sub _) hRs hE hz
  have hT' := hT
  obtain ⟨⟨t1, t2, t3⟩, t4, t5, t6, t7⟩ := hT
  have hS3 : Ech (nM n ord d) (VV n ord d (VP n G d)) (fun i => Pih n ord d (ldmf n ord d ld) i || Q i) (fun i => if Pih n ord d (ldmf n ord d ld) i = true then eff n ord d hd gl (ldmf n ord d ld) i else e i) := Ech_f hEq (fun _ => rfl) (fun _ _ => rfl) hS1
  have hQP : ∀ i, Q i = true → Pih n ord d (ldmf n ord d ld) i = false := fun i hi => by
    cases z : Pih n ord d (ldmf n ord d ld) i
    · rfl
    · rw [hS2 i z] at hi; exact absurd hi Bool.false_ne_true
  have hlead : ∀ i, lead (VV n ord d (VP n G d)) i ↔ (Pih n ord d (ldmf n ord d ld) i || Q i) = true := fun i => hS3.lead h1p hVs i
  have hinh : ∀ i, i < nM n ord d → ((∃ l b : Mo2, okm n 1 l ∧ okm n (d - 1) b ∧ 1 ≤ d ∧ atm n ord d i = (l.1 + b.1, l.2 + b.2) ∧ lead (VV n ord (d - 1) (VP n G (d - 1))) (psm n ord (d - 1) b)) ↔ Pih n ord d (ldmf n ord d ld) i = true) := by
    intro i hi
    have hlow : 1 ≤ d → ∀ j, lead (VV n ord (d - 1) (VP n G (d - 1))) j ↔ ld (d - 1) j ≠ 0 := fun h1 j => by
      rw [(t6 (d - 1) (by omega)).1.lead h1p (VV_sub (VP_sub _ _ _)) j]; simp
    constructor
    · rintro ⟨l, b, hl, hb, h1, hm, hle⟩
      obtain ⟨t, ht, rfl⟩ := okm1 hl
      have e1 := lbel_at (ldm := ldmf n ord d ld) ht hb hm
      rw [show d - 1 + 1 = d by omega] at e1
      have e2 : lbel d (ldmf n ord d ld) (atm n ord d i) t ≠ 0 := by
        rw [e1]; unfold ldmf; rw [if_neg (by omega)]; exact (hlow h1 _).mp hle
      unfold Pih ihf
      rw [if_pos hi]
      simpa using inh_ne ht e2
    · intro hP
      have hne : ihf n ord d (ldmf n ord d ld) i ≠ 0 := by simpa [Pih] using hP
      unfold ihf at hne
      rw [if_pos hi] at hne
      obtain ⟨t, ht, e1⟩ := inh_ex (d := d) (ldm := ldmf n ord d ld) (m := atm n ord d i)
      rw [e1] at hne
      obtain ⟨y1, y2, y3, y4, y5, y6⟩ := lbel_ok (atm_ok hi) ht hne
      refine ⟨lt2 t, _, y3, y4, by omega, y5, (hlow (by omega) _).mpr ?_⟩
      rw [y6] at hne
      unfold ldmf at hne; rw [if_neg y1] at hne; exact hne
  have hnew : ∀ i, i < nM n ord d → isnew n ord G d i = Q i := fun i hi => by
    apply Bool.eq_iff_iff.mpr
    rw [isnew_iff, hinh i hi, hlead]
    constructor
    · rintro ⟨a, b⟩
      rcases Bool.or_eq_true_iff.mp a with c | c
      · exact absurd c b
      · exact c
    · intro a
      refine ⟨Bool.or_eq_true_iff.mpr (Or.inr a), ?_⟩
      rw [hQP i a]; exact Bool.false_ne_true
  have hctn : ct (isnew n ord G d) (nM n ord d) = ct Q (nM n ord d) := ct_cong hnew
  have hctn2 : ∀ i, i < nM n ord d → ct (isnew n ord G d) (i + 1) = ct Q (i + 1) := fun i hi => ct_cong (fun j hj => hnew j (by omega))
  have szlo : ∀ e, e ≤ d → szF n ord d Q sz e = sz e := fun e he => if_pos he
  have szhi : szF n ord d Q sz (d + 1) = sz d + ct Q (nM n ord d) := if_neg (by omega)
  have hszm : ∀ e, e ≤ d → sz e ≤ sz d := fun e he => hT'.szm he (Nat.le_refl d)
  have dlo : ∀ k, k < sz d → dgF (sz d) d dg k = dg k := fun k hk => if_pos hk
  have hlo : ∀ k, k < sz d → hdF n ord d (sz d) Q hd k = hd k := fun k hk => if_pos hk
  have glo : ∀ k, k < sz d → glF n ord d (sz d) Q e gl k = gl k := fun k hk => if_pos hk
  have atI : ∀ i, Q i = true → dgF (sz d) d dg (sz d + (ct Q (nM n ord d) - ct Q (i + 1))) = d ∧ hdF n ord d (sz d) Q hd (sz d + (ct Q (nM n ord d) - ct Q (i + 1))) = atm n ord d i ∧ glF n ord d (sz d) Q e gl (sz d + (ct Q (nM n ord d) - ct Q (i + 1))) = unv n ord d (e i) := fun i hi => by
    have := pick_eq (N := nM n ord d) (hE.1 i hi).1 hi
    unfold dgF hdF glF
    rw [if_neg (by omega), if_neg (by omega), if_neg (by omega), Nat.add_sub_cancel_left, this]
    exact ⟨rfl, rfl, rfl⟩
  have hvecu : ∀ i, Q i = true → vec n ord d (unv n ord d (e i)) = e i := fun i hi => vec_unv (hR _ (hE.1 i hi).2.1)
  have hNle := nM_n3 n (by omega) ord (by omega) d (by omega)
  have hKN := ct_le Q (nM n ord d)
  refine ⟨⟨⟨?_, by omega, ?_⟩, ?_, ?_, ?_, ?_⟩, hnew, ?_⟩
  · rw [szlo 0 (by omega)]; exact t1
  · intro c hc
    by_cases z : c = d
    · subst z; rw [szhi, szlo c (Nat.le_refl c), hctn]
    · rw [szlo (c + 1) (by omega), szlo c (by omega)]; exact t3 c (by omega)
  · intro c hc
    by_cases z : c = d + 1
    · subst z
      rw [szhi]
      refine ⟨fun k hk => ?_, ?_⟩
      · unfold dgF
        split
        · have := (t4 d (Nat.le_refl d)).1 k (by assumption); omega
        · omega
      · have a := close_stt (s := sz d) (dg := dg) (gl := gl) hR hE hRr (ct Q (nM n ord d)) (Nat.le_refl _)
        have b := (t4 d (Nat.le_refl d)).2
        have c2 := qd_ok d (by omega) (nM n ord d) (by omega) (ct Q (nM n ord d)) (by omega)
        show _ ≤ 21 * (sz d + ct Q (nM n ord d)) + (qs d + qd d)
        omega
    · rw [szlo c (by omega)]
      have hsz := hszm c (by omega)
      refine ⟨fun k hk => by rw [dlo k (by omega)]; exact (t4 c (by omega)).1 k hk, ?_⟩
      rw [stt_cong (dg' := dg) (gl' := gl) (fun k hk => ⟨dlo k (by omega), glo k (by omega)⟩)]
      exact (t4 c (by omega)).2
  · intro k hk
    rw [szhi] at hk
    by_cases z : k < sz d
    · rw [dlo k z, hlo k z, glo k z]; exact t5 k z
    · obtain ⟨h1, h2, h3⟩ := pick_ok (Q := Q) (N := nM n ord d) (j := k - sz d) (by omega)
      have hke : k = sz d + (ct Q (nM n ord d) - ct Q (pick Q (nM n ord d) (k - sz d) + 1)) := by omega
      obtain ⟨b1, b2, b3⟩ := atI _ h2
      rw [← hke] at b1 b2 b3
      rw [b1, b2, b3]
      have hin := hE.1 _ h2
      refine ⟨atm_ok h1, ?_, ?_, fun m hm => ?_⟩
      · obtain ⟨f, hf, he⟩ := (hEq _).mp ⟨_, _, (Spn_sub _).1, hin.2.1, fun i => (Fin.zero_add _).symm⟩
        rw [he, unv_vec (VP_hom hG f hf)]; exact hf
      · unfold unv
        rw [if_pos (mem_mons.mpr (atm_ok h1)), psm_atm h1]; exact hin.2.2.1
      · unfold unv at hm
        by_cases y : m ∈ mons n ord d
        · rw [if_pos y] at hm
          have hok := mem_mons.mp y
          have h4 := psm_lt (ord := ord) hok
          have h5 : ¬ psm n ord d m < pick Q (nM n ord d) (k - sz d) := fun w => hm (hin.2.2.2 _ w)
          have h6 := atm_psm (ord := ord) hok
          by_cases w : psm n ord d m = pick Q (nM n ord d) (k - sz d)
          · left; rw [← w, h6]
          · right
            rw [← h6]
            exact (atm_lt h1 h4).mpr (by omega)
        · rw [if_neg y] at hm; exact absurd rfl hm
  · intro c hc
    by_cases z : c = d
    · subst z
      have ldq : ∀ i, Q i = true → ldF n ord c Q (ldmf n ord c ld) sz ld c i = sz c + (ct Q (nM n ord c) - ct Q (i + 1)) + 1 := fun i hi => by unfold ldF; rw [if_pos rfl, if_pos hi]
      have ldn : ∀ i, Q i ≠ true → ldF n ord c Q (ldmf n ord c ld) sz ld c i = ihf n ord c (ldmf n ord c ld) i := fun i hi => by unfold ldF; rw [if_pos rfl, if_neg hi]
      refine ⟨Ech_f (fun u => Iff.rfl) (fun i => ?_) (fun i hi => ?_) hS3, fun i hne => ?_⟩
      · by_cases y : Q i = true
        · rw [ldq i y, y]; simp
        · rw [ldn i y]
          have : Q i = false := by simpa using y
          rw [this]; simp [Pih]
      · by_cases y : Q i = true
        · rw [if_neg (by rw [hQP i y]; exact Bool.false_ne_true), ldq i y, Nat.add_sub_cancel]
          obtain ⟨b1, b2, b3⟩ := atI i y
          rw [b2, b3, mv_self, hvecu i y]
        · have hP : Pih n ord c (ldmf n ord c ld) i = true := by
            rcases Bool.or_eq_true_iff.mp hi with w | w
            · exact w
            · exact absurd w y
          have hne : ihf n ord c (ldmf n ord c ld) i ≠ 0 := by simpa [Pih] using hP
          obtain ⟨x1, x2, x3⟩ := hEs.ih hne
          rw [if_pos hP, ldn i y, hlo _ x2, glo _ x2]; rfl
      · by_cases y : Q i = true
        · rw [ldq i y, Nat.add_sub_cancel, szhi]
          obtain ⟨b1, b2, b3⟩ := atI i y
          rw [b1, b2]
          have w1 := ct_succ_t y
          have w2 := ct_up (Q := Q) (show i + 1 ≤ nM n ord c from (hE.1 i y).1)
          exact ⟨by omega, Nat.le_refl _, Nat.le_refl _, Nat.le_refl _⟩
        · rw [ldn i y] at hne ⊢
          obtain ⟨x1, x2, x3⟩ := hEs.ih hne
          rw [dlo _ x2, hlo _ x2, szhi]
          exact ⟨by omega, x3⟩
    · have hld : ∀ i, ldF n ord d Q (ldmf n ord d ld) sz ld c i = ld c i := fun i => by unfold ldF; rw [if_neg z]
      have hsz := hszm (c + 1) (by omega)
      obtain ⟨x1, x2⟩ := t6 c (by omega)
      refine ⟨Ech_f (fun u => Iff.rfl) (fun i => by rw [hld]) (fun i hi => ?_) x1, fun i hne => ?_⟩
      · have hne : ld c i ≠ 0 := by simpa using hi
        have := (x2 i hne).1
        rw [hld, hlo _ (by omega), glo _ (by omega)]
      · rw [hld] at hne ⊢
        have := x2 i hne
        rw [szlo _ (by omega), dlo _ (by omega), hlo _ (by omega)]; exact this
  · intro c hc i hi hn
    by_cases z : c = d
    · subst z
      have hQi : Q i = true := by rw [← hnew i hi]; exact hn
      have e1 : eix n ord G (szF n ord c Q sz) c i = sz c + (ct Q (nM n ord c) - ct Q (i + 1)) := by
        unfold eix; rw [szlo c (Nat.le_refl c), hctn, hctn2 i hi]
      obtain ⟨b1, b2, b3⟩ := atI i hQi
      rw [e1, b1, b2, b3, hvecu i hQi]
      refine ⟨rfl, rfl, fun j hj hl => ?_⟩
      rcases Bool.or_eq_true_iff.mp ((hlead j).mp (leadB_iff.mp hl)) with w | w
      · exact hz _ (hE.1 i hQi).2.1 j w
      · exact hRr i j hQi w (fun y => hj y.symm)
    · have hsz := hszm (c + 1) (by omega)
      have e1 : eix n ord G (szF n ord d Q sz) c i = eix n ord G sz c i := by unfold eix; rw [szlo c (by omega)]
      have e2 := eix_lt (sz := sz) hi hn
      have e3 := t3 c (by omega)
      rw [e1, dlo _ (by omega), hlo _ (by omega), glo _ (by omega)]
      exact t7 c (by omega) i hi hn
  · exact hS3.dm h1p hVs
end CL
