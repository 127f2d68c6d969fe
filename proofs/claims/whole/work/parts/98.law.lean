section LAW
variable {M : Mem} {I : Nat → Nat → Int32} {sw : Bool}
/-- the class and the reference hold the same -/
def LI (M : Mem) (sw : Bool) (I : Nat → Nat → Int32) : Prop := ∃ (p : Nat) (hz : NeZero p) (n ord : Nat) (D : Nat → Mo2 → Fin p) (H O : Hp p) (C : Nat → Nat → Mo2 → Fin p), HTOK M sw ∧ MdOK M ∧ CSt n ord D H O C sw I ∧ MSt n ord D H O C I
theorem m_kp {p : Nat} [NeZero p] {n ord : Nat} {D : Nat → Mo2 → Fin p} {H O : Hp p} {C : Nat → Nat → Mo2 → Fin p} {I' : Nat → Nat → Int32} (hS : CSt n ord D H O C sw I) (hm : MSt n ord D H O C I) (h : FR I I') : MSt n ord D H O C I' := MSt_kp hS.1.1.2.1.1 hS.1.1.2.2.1.1 (fun k _ => by rw [h 199 (by omega)]) (fun j _ => by rw [h 200 (by omega)]) hm
theorem c_kp {p : Nat} [NeZero p] {n ord : Nat} {D : Nat → Mo2 → Fin p} {H O : Hp p} {C : Nat → Nat → Mo2 → Fin p} {I' : Nat → Nat → Int32} (hS : CSt n ord D H O C sw I) (h : FM I I') : CSt n ord D H O C sw I' := CSt_kp (fun c hc => h c (by omega)) hS
theorem w_of {p : Nat} [NeZero p] {n ord : Nat} {D : Nat → Mo2 → Fin p} {H O : Hp p} {C : Nat → Nat → Mo2 → Fin p} (hS : CSt n ord D H O C sw I) : WfA n ord D H O C := ⟨⟨hS.1.2.1.1.1, hS.1.2.1.1.2, hS.1.2.2.2⟩, hS.1.1⟩
theorem IsP_u {n : Nat} {x y z : Int32} {a b c a' b' c' : Nat} (h : IsP n x y z a b c) (h' : IsP n x y z a' b' c') : a' = a ∧ b' = b ∧ c' = c := by
  obtain ⟨e1, e2, e3, e4, _⟩ := h
  obtain ⟨f1, f2, f3, f4, _⟩ := h'
  exact ⟨(nI_eq (by omega) (by omega)).mp (f1.symm.trans e1), (nI_eq (by omega) (by omega)).mp (f2.symm.trans e2), (nI_eq (by omega) (by omega)).mp (f3.symm.trans e3)⟩
theorem head_u {p : Nat} [NeZero p] {n ord : Nat} {D : Nat → Mo2 → Fin p} {d i d' i' : Nat} (h : isHead n ord D d i) (h' : isHead n ord D d' i') : d' = d ∧ i' = i := by
  obtain ⟨e1, e2, e3, e4⟩ := h
  obtain ⟨f1, f2, f3, f4⟩ := h'
  have : d' = d := by omega
  subst this
  refine ⟨rfl, ?_⟩
  rcases Nat.lt_trichotomy i' i with q | q | q
  · exact absurd (e4 i' q) f3
  · exact q
  · exact absurd (f4 i q) e3
theorem szc_up {p : Nat} [NeZero p] {n ord : Nat} {G : Nat → (Mo2 → Fin p) → Prop} {a b : Nat} (h : a ≤ b) : szc n ord G a ≤ szc n ord G b := by
  induction b with
  | zero => rw [Nat.le_zero.mp h]; exact Nat.le_refl _
  | succ b ih =>
    by_cases z : a = b + 1
    · rw [z]; exact Nat.le_refl _
    · have := ih (by omega)
      show _ ≤ szc n ord G b + _
      omega
theorem eix_e {p : Nat} [NeZero p] {n ord : Nat} {G : Nat → (Mo2 → Fin p) → Prop} {e i e' i' : Nat} (hi : i < nM n ord e) (hn : isnew n ord G e i = true) (h : eix n ord G (szc n ord G) e i = eix n ord G (szc n ord G) e' i') : ¬ e < e' := fun q => by
  have h1 := eix_lt (sz := szc n ord G) hi hn
  have h2 := szc_up (n := n) (ord := ord) (G := G) (show e + 1 ≤ e' from q)
  have h3 : szc n ord G (e + 1) = szc n ord G e + ct (isnew n ord G e) (nM n ord e) := rfl
  have h4 : szc n ord G e' ≤ eix n ord G (szc n ord G) e' i' := Nat.le_add_right _ _
  omega
theorem eix_u {p : Nat} [NeZero p] {n ord : Nat} {G : Nat → (Mo2 → Fin p) → Prop} {e i e' i' : Nat} (hi : i < nM n ord e) (hn : isnew n ord G e i = true) (hi' : i' < nM n ord e') (hn' : isnew n ord G e' i' = true) (h : eix n ord G (szc n ord G) e i = eix n ord G (szc n ord G) e' i') : e' = e ∧ i' = i := by
  have : e' = e := by
    have a1 := eix_e hi hn h
    have a2 := eix_e hi' hn' h.symm
    omega
  subst this
  refine ⟨rfl, ?_⟩
  unfold eix at h
  have b1 := ct_up (Q := isnew n ord G e') (show i + 1 ≤ nM n ord e' from hi)
  have b2 := ct_up (Q := isnew n ord G e') (show i' + 1 ≤ nM n ord e' from hi')
  have c1 := ct_succ_t hn
  have c2 := ct_succ_t hn'
  rcases Nat.lt_trichotomy i' i with q | q | q
  · have := ct_up (Q := isnew n ord G e') (show i' + 1 ≤ i from q)
    omega
  · exact q
  · have := ct_up (Q := isnew n ord G e') (show i + 1 ≤ i' from q)
    omega
theorem red_u {p : Nat} [NeZero p] {n ord d i : Nat} {G : Nat → (Mo2 → Fin p) → Prop} {f f' : Mo2 → Fin p} (hF : isField p) (hf : hom n d f) (hf' : hom n d f') (h : isRed n ord G d i f) (h' : isRed n ord G d i f') : f' = f := by
  obtain ⟨e, hE⟩ := Ech_of (N := nM n ord d) hF (VV_sub (ord := ord) (VP_sub n G d)) (VV_range _)
  have hz := (VP_sub n G d).sub h'.1 h.1
  have hv : VV n ord d (VP n G d) (fun j => (vec n ord d f' j - vec n ord d f j) - (fun _ => (0 : Fin p)) j) := ⟨_, hz, by rw [vec_sub]; funext j; simp only; grind⟩
  have := hE.rest1 (u := fun j => vec n ord d f' j - vec n ord d f j) (w := fun _ => 0) hv (fun j hj => by
    by_cases q : j = i
    · rw [q, h.2.1, h'.2.1]; grind
    · rw [h.2.2 j q hj, h'.2.2 j q hj]; grind) (fun _ _ => rfl)
  have e1 : vec n ord d f' = vec n ord d f := by
    funext j
    have := congrFun this j
    grind
  rw [← unv_vec (ord := ord) hf', ← unv_vec (ord := ord) hf, e1]
theorem rest_u {p : Nat} [NeZero p] {n ord d : Nat} {G : Nat → (Mo2 → Fin p) → Prop} {v : Nat → Fin p} {f f' : Mo2 → Fin p} (hF : isField p) (hf : hom n d f) (hf' : hom n d f') (h : isRest n ord G d v (vec n ord d f)) (h' : isRest n ord G d v (vec n ord d f')) : f' = f := by
  obtain ⟨e, hE⟩ := Ech_of (N := nM n ord d) hF (VV_sub (ord := ord) (VP_sub n G d)) (VV_range _)
  have hz := (VV_sub (ord := ord) (VP_sub n G d)).sub h.1 h'.1
  have hv : VV n ord d (VP n G d) (fun j => vec n ord d f' j - vec n ord d f j) := by
    have e0 : (fun j => (v j - vec n ord d f j) - (v j - vec n ord d f' j)) = fun j => vec n ord d f' j - vec n ord d f j := by funext j; grind
    rw [e0] at hz; exact hz
  have := hE.rest1 hv (fun j hj => h'.2 j hj) (fun j hj => h.2 j hj)
  rw [← unv_vec (ord := ord) hf', ← unv_vec (ord := ord) hf, this]
theorem szP_cong {p : Nat} [NeZero p] {F F' : Nat → Mo2 → Fin p} (h : ∀ d, d ≤ 10 → F d = F' d) : szP F = szP F' := ct_cong (fun j hj => by
  have := (dj_ok j hj).1
  rw [h _ (by omega)])
theorem MSt_D {p : Nat} [NeZero p] {n ord : Nat} {D D' : Nat → Mo2 → Fin p} {H O : Hp p} {C : Nat → Nat → Mo2 → Fin p} (h : ∀ d, d ≤ 10 → D' d = D d) (hm : MSt n ord D H O C I) : MSt n ord D' H O C I := ⟨hm.1, fun m hm' => by
  rw [hm.2.1 m hm']
  unfold cf
  by_cases z : mdeg m ≤ 10
  · rw [if_pos z, if_pos z, h _ z]
  · rw [if_neg z, if_neg z], hm.2.2⟩
theorem la_letters {x y : Int32} (hL : LI M sw I) {Pq : Int32 → Mem → Prop} {Q : Int32 → Int32 → Mem → Prop} (hQ : ∀ r M' sw' I', LI M' sw' I' → Q r r (wI M' I')) (hP : ∀ r M1, isK M1 199 7 → T_Mo_letters 199 x y M1 (Q r) → Pq r M1) : T_HT_letters 0 x y (wI M I) Pq := by
  obtain ⟨p, hz, n, ord, D, H, O, C, hT, hM, hS, hm⟩ := hL
  have hW := w_of hS
  have hH := hS.1.1.2.1.1
  have F0 : ∀ r, Q r r (wI M I) := fun r => hQ r M sw I ⟨p, hz, n, ord, D, H, O, C, hT, hM, hS, hm⟩
  refine op_letters hT hS (fun n' p' a1 a2 a3 a4 a5 hz' I1 hS1 hf1 => hP _ _ hM.1 ?_) (fun hn => hP _ _ hM.1 ?_)
  · refine mo_letters hM (m_kp hS hm hf1) (fun n2 p2 b1 b2 b3 b4 b5 hz2 I2 hm2 hf2 => ?_) (fun hn => absurd ⟨n', p', a1, a2, a3, a4, a5⟩ hn)
    have e1 : n2 = n' := (nI_eq (by omega) (by omega)).mp (b3.symm.trans a3)
    have e2 : p2 = p' := by
      have q1 := prm_lt a5
      have q2 := prm_lt b5
      exact (nI_eq (by omega) (by omega)).mp (b4.symm.trans a4)
    subst e1 e2
    exact hQ _ _ _ _ ⟨_, hz', _, _, _, _, _, _, hT, hM, c_kp hS1 hf2, hm2⟩
  · exact mo_letters hM hm (fun n2 p2 b1 b2 b3 b4 b5 hz2 I2 hm2 hf2 => absurd ⟨n2, p2, b1, b2, b3, b4, b5⟩ hn) (fun _ => F0 _)
theorem la_order {x : Int32} (hL : LI M sw I) {Pq : Int32 → Mem → Prop} {Q : Int32 → Int32 → Mem → Prop} (hQ : ∀ r M' sw' I', LI M' sw' I' → Q r r (wI M' I')) (hP : ∀ r M1, isK M1 199 7 → T_Mo_order 199 x M1 (Q r) → Pq r M1) : T_HT_order 0 x (wI M I) Pq := by
  obtain ⟨p, hz, n, ord, D, H, O, C, hT, hM, hS, hm⟩ := hL
  have hW := w_of hS
  have hH := hS.1.1.2.1.1
  have F0 : ∀ r, Q r r (wI M I) := fun r => hQ r M sw I ⟨p, hz, n, ord, D, H, O, C, hT, hM, hS, hm⟩
  refine op_order hT hS (fun o a1 a2 I1 hS1 hf1 => hP _ _ hM.1 ?_) (fun hn => hP _ _ hM.1 ?_)
  · refine mo_order hM (m_kp hS hm hf1) (fun o2 b1 b2 I2 hm2 hf2 => ?_) (fun hn => absurd ⟨o, a1, a2⟩ hn)
    have e1 : o2 = o := (nI_eq (by omega) (by omega)).mp (b2.symm.trans a2)
    subst e1
    exact hQ _ _ _ _ ⟨p, hz, n, _, _, _, _, _, hT, hM, c_kp hS1 hf2, hm2⟩
  · exact mo_order hM hm (fun o2 b1 b2 I2 hm2 hf2 => absurd ⟨o2, b1, b2⟩ hn) (fun _ => F0 _)
theorem la_term {c x y z : Int32} (hL : LI M sw I) {Pq : Int32 → Mem → Prop} {Q : Int32 → Int32 → Mem → Prop} (hQ : ∀ r M' sw' I', LI M' sw' I' → Q r r (wI M' I')) (hP : ∀ r M1, isK M1 199 7 → T_Mo_term 199 c x y z M1 (Q r) → Pq r M1) : T_HT_term 0 c x y z (wI M I) Pq := by
  obtain ⟨p, hz, n, ord, D, H, O, C, hT, hM, hS, hm⟩ := hL
  have hW := w_of hS
  have hH := hS.1.1.2.1.1
  have F0 : ∀ r, Q r r (wI M I) := fun r => hQ r M sw I ⟨p, hz, n, ord, D, H, O, C, hT, hM, hS, hm⟩
  refine op_term hT hS (fun a b e a1 I1 hS1 hf1 => hP _ _ hM.1 ?_) (fun hn => hP _ _ hM.1 ?_)
  · refine mo_term hM hW (m_kp hS hm hf1) (fun a' b' e' b1 I2 hm2 hf2 => ?_) (fun hn => absurd ⟨a, b, e, a1⟩ hn)
    obtain ⟨rfl, rfl, rfl⟩ := IsP_u a1 b1
    exact hQ _ _ _ _ ⟨p, hz, n, ord, _, _, _, _, hT, hM, c_kp hS1 hf2, hm2⟩
  · exact mo_term hM hW hm (fun a' b' e' b1 I2 hm2 hf2 => absurd ⟨a', b', e', b1⟩ hn) (fun _ => F0 _)
theorem la_number {x y z : Int32} (hL : LI M sw I) {Pq : Int32 → Mem → Prop} {Q : Int32 → Int32 → Mem → Prop} (hQ : ∀ r M' sw' I', LI M' sw' I' → Q r r (wI M' I')) (hP : ∀ r M1, isK M1 199 7 → T_Mo_number 199 x y z M1 (Q r) → Pq r M1) : T_HT_number 0 x y z (wI M I) Pq := by
  obtain ⟨p, hz, n, ord, D, H, O, C, hT, hM, hS, hm⟩ := hL
  have hW := w_of hS
  have hH := hS.1.1.2.1.1
  have F0 : ∀ r, Q r r (wI M I) := fun r => hQ r M sw I ⟨p, hz, n, ord, D, H, O, C, hT, hM, hS, hm⟩
  refine op_number hT hS (fun a b e a1 => hP _ _ hM.1 ?_) (fun hn => hP _ _ hM.1 ?_)
  · refine mo_number hM hW hm (fun a' b' e' b1 => ?_) (fun hn => absurd ⟨a, b, e, a1⟩ hn)
    obtain ⟨rfl, rfl, rfl⟩ := IsP_u a1 b1
    exact F0 _
  · exact mo_number hM hW hm (fun a' b' e' b1 => absurd ⟨a', b', e', b1⟩ hn) (fun _ => F0 _)
theorem la_wipe (hL : LI M sw I) {Pq : Int32 → Mem → Prop} {Q : Int32 → Int32 → Mem → Prop} (hQ : ∀ r M' sw' I', LI M' sw' I' → Q r r (wI M' I')) (hP : ∀ r M1, isK M1 199 7 → T_Mo_wipe 199 M1 (Q r) → Pq r M1) : T_HT_wipe 0 (wI M I) Pq := by
  obtain ⟨p, hz, n, ord, D, H, O, C, hT, hM, hS, hm⟩ := hL
  have hW := w_of hS
  have hH := hS.1.1.2.1.1
  have F0 : ∀ r, Q r r (wI M I) := fun r => hQ r M sw I ⟨p, hz, n, ord, D, H, O, C, hT, hM, hS, hm⟩
  refine op_wipe hT hS (fun I1 hS1 hf1 => hP _ _ hM.1 ?_)
  refine mo_wipe hM hW (m_kp hS hm hf1) (fun I2 hm2 hf2 => ?_)
  exact hQ _ _ _ _ ⟨p, hz, n, ord, _, _, _, _, hT, hM, c_kp hS1 hf2, hm2⟩
theorem la_keep (hL : LI M sw I) {Pq : Int32 → Mem → Prop} {Q : Int32 → Int32 → Mem → Prop} (hQ : ∀ r M' sw' I', LI M' sw' I' → Q r r (wI M' I')) (hP : ∀ r M1, isK M1 199 7 → T_Mo_keep 199 M1 (Q r) → Pq r M1) : T_HT_keep 0 (wI M I) Pq := by
  obtain ⟨p, hz, n, ord, D, H, O, C, hT, hM, hS, hm⟩ := hL
  have hW := w_of hS
  have hH := hS.1.1.2.1.1
  have F0 : ∀ r, Q r r (wI M I) := fun r => hQ r M sw I ⟨p, hz, n, ord, D, H, O, C, hT, hM, hS, hm⟩
  refine op_keep hT hS (fun I1 hS1 hf1 => hP _ _ hM.1 ?_)
  refine mo_keep hM hW (m_kp hS hm hf1) (fun I2 hm2 hf2 => ?_)
  exact hQ _ _ _ _ ⟨p, hz, n, ord, _, _, _, _, hT, hM, c_kp hS1 hf2, hm2⟩
theorem la_sum (hL : LI M sw I) {Pq : Int32 → Mem → Prop} {Q : Int32 → Int32 → Mem → Prop} (hQ : ∀ r M' sw' I', LI M' sw' I' → Q r r (wI M' I')) (hP : ∀ r M1, isK M1 199 7 → T_Mo_sum 199 M1 (Q r) → Pq r M1) : T_HT_sum 0 (wI M I) Pq := by
  obtain ⟨p, hz, n, ord, D, H, O, C, hT, hM, hS, hm⟩ := hL
  have hW := w_of hS
  have hH := hS.1.1.2.1.1
  have F0 : ∀ r, Q r r (wI M I) := fun r => hQ r M sw I ⟨p, hz, n, ord, D, H, O, C, hT, hM, hS, hm⟩
  refine op_sum hT hS (fun I1 hS1 hf1 => hP _ _ hM.1 ?_)
  refine mo_sum hM hW (m_kp hS hm hf1) (fun I2 hm2 hf2 => ?_)
  exact hQ _ _ _ _ ⟨p, hz, n, ord, _, _, _, _, hT, hM, c_kp hS1 hf2, hm2⟩
theorem la_draft {x : Int32} (hL : LI M sw I) {Pq : Int32 → Mem → Prop} {Q : Int32 → Int32 → Mem → Prop} (hQ : ∀ r M' sw' I', LI M' sw' I' → Q r r (wI M' I')) (hP : ∀ r M1, isK M1 199 7 → T_Mo_draft 199 x M1 (Q r) → Pq r M1) : T_HT_draft 0 x (wI M I) Pq := by
  obtain ⟨p, hz, n, ord, D, H, O, C, hT, hM, hS, hm⟩ := hL
  have hW := w_of hS
  have hH := hS.1.1.2.1.1
  have F0 : ∀ r, Q r r (wI M I) := fun r => hQ r M sw I ⟨p, hz, n, ord, D, H, O, C, hT, hM, hS, hm⟩
  refine op_draft hT hS (fun w => hP _ _ hM.1 ?_) (fun w => hP _ _ hM.1 ?_) (fun w => hP _ _ hM.1 ?_) (fun w v hv => hP _ _ hM.1 ?_) (fun w v hv => hP _ _ hM.1 ?_)
  · exact mo_draft hM hW hm (fun _ => F0 _) (fun w => absurd w (by omega)) (fun w => absurd w (by omega)) (fun w => absurd w (by omega)) (fun w => absurd w (by omega))
  · exact mo_draft hM hW hm (fun w => absurd w (by omega)) (fun _ => F0 _) (fun w => absurd w (by omega)) (fun w => absurd w (by omega)) (fun w => absurd w (by omega))
  · exact mo_draft hM hW hm (fun w => absurd w (by omega)) (fun w => absurd w (by omega)) (fun _ => F0 _) (fun w => absurd w (by omega)) (fun w => absurd w (by omega))
  · refine mo_draft hM hW hm (fun w => absurd w (by omega)) (fun w => absurd w (by omega)) (fun w => absurd w (by omega)) (fun _ v' hv' => ?_) (fun w => absurd w (by omega))
    have e : v' = v := by
      rcases hv with ⟨q1, q2⟩ | ⟨q1, q2⟩ <;> rcases hv' with ⟨q3, q4⟩ | ⟨q3, q4⟩
      · rw [q1, q3]
      · exact absurd q2 q4
      · exact absurd q4 q2
      · rw [q1, q3]
    rw [e]; exact F0 _
  · refine mo_draft hM hW hm (fun w => absurd w (by omega)) (fun w => absurd w (by omega)) (fun w => absurd w (by omega)) (fun w => absurd w (by omega)) (fun _ v' hv' => ?_)
    have e : v' = v := by
      rcases hv with ⟨q1, q2⟩ | ⟨d, i, q1, q2⟩ <;> rcases hv' with ⟨q3, q4⟩ | ⟨d', i', q3, q4⟩
      · rw [q1, q3]
      · have := q3.1; omega
      · have := q1.1; omega
      · obtain ⟨rfl, rfl⟩ := head_u q1 q3
        rw [q2, q4]
    rw [e]; exact F0 _
theorem la_times {x y z : Int32} (hL : LI M sw I) {Pq : Int32 → Mem → Prop} {Q : Int32 → Int32 → Mem → Prop} (hQ : ∀ r M' sw' I', LI M' sw' I' → Q r r (wI M' I')) (hP : ∀ r M1, isK M1 199 7 → T_Mo_times 199 x y z M1 (Q r) → Pq r M1) : T_HT_times 0 x y z (wI M I) Pq := by
  obtain ⟨p, hz, n, ord, D, H, O, C, hT, hM, hS, hm⟩ := hL
  have hW := w_of hS
  have hH := hS.1.1.2.1.1
  have F0 : ∀ r, Q r r (wI M I) := fun r => hQ r M sw I ⟨p, hz, n, ord, D, H, O, C, hT, hM, hS, hm⟩
  refine op_times hT hS (fun a b e a1 a2 I1 hS1 hf1 => hP _ _ hM.1 ?_) (fun hn => hP _ _ hM.1 ?_)
  · refine mo_times hM hW (m_kp hS hm hf1) (fun a' b' e' b1 b2 I2 hm2 hf2 => ?_) (fun hn => absurd ⟨a, b, e, a1, a2⟩ hn)
    obtain ⟨rfl, rfl, rfl⟩ := IsP_u a1 b1
    exact hQ _ _ _ _ ⟨p, hz, n, ord, _, _, _, _, hT, hM, c_kp hS1 hf2, hm2⟩
  · exact mo_times hM hW hm (fun a' b' e' b1 b2 I2 hm2 hf2 => absurd ⟨a', b', e', b1, b2⟩ hn) (fun _ => F0 _)
theorem la_row (hL : LI M sw I) {Pq : Int32 → Mem → Prop} {Q : Int32 → Int32 → Mem → Prop} (hQ : ∀ r M' sw' I', LI M' sw' I' → Q r r (wI M' I')) (hP : ∀ r M1, isK M1 199 7 → T_Mo_row 199 M1 (Q r) → Pq r M1) : T_HT_row 0 (wI M I) Pq := by
  obtain ⟨p, hz, n, ord, D, H, O, C, hT, hM, hS, hm⟩ := hL
  have hW := w_of hS
  have hH := hS.1.1.2.1.1
  have F0 : ∀ r, Q r r (wI M I) := fun r => hQ r M sw I ⟨p, hz, n, ord, D, H, O, C, hT, hM, hS, hm⟩
  refine op_row hT hS (fun d a1 a2 a3 a4 a5 I1 hS1 hf1 => hP _ _ hM.1 ?_) (fun hn => hP _ _ hM.1 ?_)
  · refine mo_row hM hW (m_kp hS hm hf1) (fun d' b1 b2 b3 b4 b5 I2 hm2 hf2 => ?_) (fun hn => absurd ⟨d, a1, a2, a3, a4, a5⟩ hn)
    have e1 : d' = d := by omega
    subst e1
    exact hQ _ _ _ _ ⟨p, hz, n, ord, _, _, _, _, hT, hM, c_kp hS1 hf2, hm2⟩
  · exact mo_row hM hW hm (fun d' b1 b2 b3 b4 b5 I2 hm2 hf2 => absurd ⟨d', b1, b2, b3, b4, b5⟩ hn) (fun _ => F0 _)
theorem la_drop (hL : LI M sw I) {Pq : Int32 → Mem → Prop} {Q : Int32 → Int32 → Mem → Prop} (hQ : ∀ r M' sw' I', LI M' sw' I' → Q r r (wI M' I')) (hP : ∀ r M1, isK M1 199 7 → T_Mo_drop 199 M1 (Q r) → Pq r M1) : T_HT_drop 0 (wI M I) Pq := by
  obtain ⟨p, hz, n, ord, D, H, O, C, hT, hM, hS, hm⟩ := hL
  have hW := w_of hS
  have hH := hS.1.1.2.1.1
  have F0 : ∀ r, Q r r (wI M I) := fun r => hQ r M sw I ⟨p, hz, n, ord, D, H, O, C, hT, hM, hS, hm⟩
  refine op_drop hT hS (fun d a1 I1 hS1 hf1 => hP _ _ hM.1 ?_) (fun hn => hP _ _ hM.1 ?_)
  · refine mo_drop hM hW (m_kp hS hm hf1) (fun d' b1 I2 hm2 hf2 => ?_) (fun hn => absurd hn (by omega))
    have e1 : d' = d := by omega
    subst e1
    exact hQ _ _ _ _ ⟨p, hz, n, ord, _, _, _, _, hT, hM, c_kp hS1 hf2, hm2⟩
  · exact mo_drop hM hW hm (fun d' b1 I2 hm2 hf2 => absurd hn (by omega)) (fun _ => F0 _)
theorem la_copy {x : Int32} (hL : LI M sw I) {Pq : Int32 → Mem → Prop} {Q : Int32 → Int32 → Mem → Prop} (hQ : ∀ r M' sw' I', LI M' sw' I' → Q r r (wI M' I')) (hP : ∀ r M1, isK M1 199 7 → T_Mo_copy 199 x M1 (Q r) → Pq r M1) : T_HT_copy 0 x (wI M I) Pq := by
  obtain ⟨p, hz, n, ord, D, H, O, C, hT, hM, hS, hm⟩ := hL
  have hW := w_of hS
  have hH := hS.1.1.2.1.1
  have F0 : ∀ r, Q r r (wI M I) := fun r => hQ r M sw I ⟨p, hz, n, ord, D, H, O, C, hT, hM, hS, hm⟩
  refine op_copy hT hS (fun d a1 a2 I1 hS1 hf1 => hP _ _ hM.1 ?_) (fun hn => hP _ _ hM.1 ?_)
  · refine mo_copy hM hW (m_kp hS hm hf1) (fun d' b1 b2 I2 hm2 hf2 => ?_) (fun hn => absurd a2 (hn d a1))
    have e1 : d' = d := (nI_eq (by omega) (by omega)).mp (b2.symm.trans a2)
    subst e1
    exact hQ _ _ _ _ ⟨p, hz, n, ord, _, _, _, _, hT, hM, c_kp hS1 hf2, hm2⟩
  · exact mo_copy hM hW hm (fun d' b1 b2 I2 hm2 hf2 => absurd b2 (hn d' b1)) (fun _ => F0 _)
theorem la_rest (hL : LI M sw I) {Pq : Int32 → Mem → Prop} {Q : Int32 → Int32 → Mem → Prop} (hQ : ∀ r M' sw' I', LI M' sw' I' → Q r r (wI M' I')) (hP : ∀ r M1, isK M1 0 6 → isK M1 199 7 → T_Mo_rest 199 M1 (Q r) → Pq r M1) : T_HT_rest 0 (wI M I) Pq := by
  obtain ⟨p, hz, n, ord, D, H, O, C, hT, hM, hS, hm⟩ := hL
  have hW := w_of hS
  have hH := hS.1.1.2.1.1
  have F0 : ∀ r, Q r r (wI M I) := fun r => hQ r M sw I ⟨p, hz, n, ord, D, H, O, C, hT, hM, hS, hm⟩
  refine op_rest hT hS (fun D1 I1 a1 hS1 hf1 => hP _ _ hT.1.1 hM.1 ?_)
  refine mo_rest hM hW (m_kp hS hm hf1) (fun D2 I2 b1 hm2 hf2 => ?_)
  have e : ∀ d, d ≤ 10 → D1 d = D2 d := fun d hd => rest_u (prm_field hW.1.2.2) (b1 d hd).1 (a1 d hd).1 (b1 d hd).2 (a1 d hd).2
  rw [← szP_cong e]
  exact hQ _ _ _ _ ⟨p, hz, n, ord, _, _, _, _, hT, hM, c_kp hS1 hf2, MSt_D e hm2⟩
theorem la_in (hL : LI M sw I) {Pq : Int32 → Mem → Prop} {Q : Int32 → Int32 → Mem → Prop} (hQ : ∀ r M' sw' I', LI M' sw' I' → Q r r (wI M' I')) (hP : ∀ r M1, isK M1 0 6 → isK M1 199 7 → T_Mo_in0 199 M1 (Q r) → Pq r M1) : T_HT_in 0 (wI M I) Pq := by
  obtain ⟨p, hz, n, ord, D, H, O, C, hT, hM, hS, hm⟩ := hL
  have hW := w_of hS
  have hH := hS.1.1.2.1.1
  have F0 : ∀ r, Q r r (wI M I) := fun r => hQ r M sw I ⟨p, hz, n, ord, D, H, O, C, hT, hM, hS, hm⟩
  refine op_in hT hS (fun a1 I1 hS1 hf1 => hP _ _ hT.1.1 hM.1 ?_) (fun a1 I1 hS1 hf1 => hP _ _ hT.1.1 hM.1 ?_)
  · refine mo_in hM hW (m_kp hS hm hf1) (fun b1 I2 hm2 hf2 => ?_) (fun hn => absurd a1 hn)
    exact hQ _ _ _ _ ⟨p, hz, n, ord, _, _, _, _, hT, hM, c_kp hS1 hf2, hm2⟩
  · refine mo_in hM hW (m_kp hS hm hf1) (fun b1 => absurd b1 a1) (fun _ I2 hm2 hf2 => ?_)
    exact hQ _ _ _ _ ⟨p, hz, n, ord, _, _, _, _, hT, hM, c_kp hS1 hf2, hm2⟩
theorem la_base {x : Int32} (hL : LI M sw I) {Pq : Int32 → Mem → Prop} {Q : Int32 → Int32 → Mem → Prop} (hQ : ∀ r M' sw' I', LI M' sw' I' → Q r r (wI M' I')) (hP : ∀ r M1, isK M1 0 6 → isK M1 199 7 → T_Mo_base 199 x M1 (Q r) → Pq r M1) : T_HT_base 0 x (wI M I) Pq := by
  obtain ⟨p, hz, n, ord, D, H, O, C, hT, hM, hS, hm⟩ := hL
  have hW := w_of hS
  have hH := hS.1.1.2.1.1
  have F0 : ∀ r, Q r r (wI M I) := fun r => hQ r M sw I ⟨p, hz, n, ord, D, H, O, C, hT, hM, hS, hm⟩
  refine op_base hT hS (fun d a0 a1 a2 I1 hS1 hf1 => hP _ _ hT.1.1 hM.1 ?_) (fun hn => hP _ _ hT.1.1 hM.1 ?_)
  · refine mo_base hM hW (m_kp hS hm hf1) (fun d' b0 b1 b2 I2 hm2 hf2 => ?_) (fun hn => absurd ⟨d, a0, a1, a2⟩ hn)
    have e1 : d' = d := (nI_eq (by omega) (by omega)).mp (b2.symm.trans a2)
    subst e1
    exact hQ _ _ _ _ ⟨p, hz, n, ord, _, _, _, _, hT, hM, c_kp hS1 hf2, hm2⟩
  · exact mo_base hM hW hm (fun d' b0 b1 b2 I2 hm2 hf2 => absurd ⟨d', b0, b1, b2⟩ hn) (fun _ => F0 _)
theorem la_element {x : Int32} (hL : LI M sw I) {Pq : Int32 → Mem → Prop} {Q : Int32 → Int32 → Mem → Prop} (hQ : ∀ r M' sw' I', LI M' sw' I' → Q r r (wI M' I')) (hP : ∀ r M1, isK M1 0 6 → isK M1 199 7 → T_Mo_element 199 x M1 (Q r) → Pq r M1) : T_HT_element 0 x (wI M I) Pq := by
  obtain ⟨p, hz, n, ord, D, H, O, C, hT, hM, hS, hm⟩ := hL
  have hW := w_of hS
  have hH := hS.1.1.2.1.1
  have F0 : ∀ r, Q r r (wI M I) := fun r => hQ r M sw I ⟨p, hz, n, ord, D, H, O, C, hT, hM, hS, hm⟩
  have h66 := szc_le (n := n) (ord := ord) (G := Gh H) (fun d hd => (nM_le n (by have := hW.1.1; omega) ord (by have := hW.1.2.1; omega) d (by omega)).1) 11 (by omega)
  refine op_element hT hS (fun k e i f a1 a2 a3 a4 a5 a6 a7 a8 I1 hS1 hf1 => hP _ _ hT.1.1 hM.1 ?_) (fun hn I1 hS1 hf1 => hP _ _ hT.1.1 hM.1 ?_)
  · refine mo_element hM hW (m_kp hS hm hf1) (fun k' e' i' f' b1 b2 b3 b4 b5 b6 b7 b8 I2 hm2 hf2 => ?_) (fun hn => absurd ⟨k, a1, a2⟩ hn)
    have e1 : k' = k := (nI_eq (by omega) (by omega)).mp (b2.symm.trans a2)
    subst e1
    obtain ⟨rfl, rfl⟩ := eix_u a4 a5 b4 b5 (a6.symm.trans b6)
    have e2 := red_u (prm_field hW.1.2.2) a8 b8 a7 b7
    subst e2
    exact hQ _ _ _ _ ⟨p, hz, n, ord, _, _, _, _, hT, hM, c_kp hS1 hf2, hm2⟩
  · refine mo_element hM hW (m_kp hS hm hf1) (fun k' e' i' f' b1 b2 b3 b4 b5 b6 b7 b8 I2 hm2 hf2 => absurd ⟨k', b1, b2⟩ hn) (fun _ I2 hm2 hf2 => ?_)
    exact hQ _ _ _ _ ⟨p, hz, n, ord, _, _, _, _, hT, hM, c_kp hS1 hf2, hm2⟩
theorem la_count {x : Int32} (hL : LI M sw I) {Pq : Int32 → Mem → Prop} {Q : Int32 → Int32 → Mem → Prop} (hQ : ∀ r M' sw' I', LI M' sw' I' → Q r r (wI M' I')) (hP : ∀ r M1, isK M1 0 6 → isK M1 199 7 → T_Mo_count 199 x M1 (Q r) → Pq r M1) : T_HT_count 0 x (wI M I) Pq := by
  obtain ⟨p, hz, n, ord, D, H, O, C, hT, hM, hS, hm⟩ := hL
  have hW := w_of hS
  have hH := hS.1.1.2.1.1
  have F0 : ∀ r, Q r r (wI M I) := fun r => hQ r M sw I ⟨p, hz, n, ord, D, H, O, C, hT, hM, hS, hm⟩
  refine op_count hT hS (fun d a1 a2 I1 hS1 hf1 => hP _ _ hT.1.1 hM.1 ?_) (fun hn => hP _ _ hT.1.1 hM.1 ?_)
  · refine mo_count hM hW (m_kp hS hm hf1) (fun d' b1 b2 I2 hm2 hf2 => ?_) (fun hn => absurd ⟨d, a1, a2⟩ hn)
    have e1 : d' = d := (nI_eq (by omega) (by omega)).mp (b2.symm.trans a2)
    subst e1
    exact hQ _ _ _ _ ⟨p, hz, n, ord, _, _, _, _, hT, hM, c_kp hS1 hf2, hm2⟩
  · exact mo_count hM hW hm (fun d' b1 b2 I2 hm2 hf2 => absurd ⟨d', b1, b2⟩ hn) (fun _ => F0 _)
theorem la_free {x y : Int32} (hL : LI M sw I) {Pq : Int32 → Mem → Prop} {Q : Int32 → Int32 → Mem → Prop} (hQ : ∀ r M' sw' I', LI M' sw' I' → Q r r (wI M' I')) (hP : ∀ r M1, isK M1 0 6 → isK M1 199 7 → T_Mo_free 199 x y M1 (Q r) → Pq r M1) : T_HT_free 0 x y (wI M I) Pq := by
  obtain ⟨p, hz, n, ord, D, H, O, C, hT, hM, hS, hm⟩ := hL
  have hW := w_of hS
  have hH := hS.1.1.2.1.1
  have F0 : ∀ r, Q r r (wI M I) := fun r => hQ r M sw I ⟨p, hz, n, ord, D, H, O, C, hT, hM, hS, hm⟩
  refine op_free hT hS (fun i j a1 a2 a3 a4 v a5 I1 hS1 hf1 => hP _ _ hT.1.1 hM.1 ?_) (fun hn => hP _ _ hT.1.1 hM.1 ?_)
  · refine mo_free hM hW (m_kp hS hm hf1) (fun i' j' b1 b2 b3 b4 v' b5 I2 hm2 hf2 => ?_) (fun hn => absurd ⟨i, j, a1, a2, a3, a4⟩ hn)
    have e1 : i' = i := (nI_eq (by omega) (by omega)).mp (b3.symm.trans a3)
    have e2 : j' = j := (nI_eq (by omega) (by omega)).mp (b4.symm.trans a4)
    subst e1 e2
    rw [a5 v' b5]
    exact hQ _ _ _ _ ⟨p, hz, n, ord, _, _, _, _, hT, hM, c_kp hS1 hf2, hm2⟩
  · exact mo_free hM hW hm (fun i' j' b1 b2 b3 b4 v' b5 I2 hm2 hf2 => absurd ⟨i', j', b1, b2, b3, b4⟩ hn) (fun _ => F0 _)
theorem la_quotient {x : Int32} (hL : LI M sw I) {Pq : Int32 → Mem → Prop} {Q : Int32 → Int32 → Mem → Prop} (hQ : ∀ r M' sw' I', LI M' sw' I' → Q r r (wI M' I')) (hP : ∀ r M1, isK M1 0 6 → isK M1 199 7 → T_Mo_quotient 199 x M1 (Q r) → Pq r M1) : T_HT_quotient 0 x (wI M I) Pq := by
  obtain ⟨p, hz, n, ord, D, H, O, C, hT, hM, hS, hm⟩ := hL
  have hW := w_of hS
  have hH := hS.1.1.2.1.1
  have F0 : ∀ r, Q r r (wI M I) := fun r => hQ r M sw I ⟨p, hz, n, ord, D, H, O, C, hT, hM, hS, hm⟩
  refine op_quotient hT hS (fun d f a1 a2 a3 a4 I1 hS1 hf1 => hP _ _ hT.1.1 hM.1 ?_) (fun hn => hP _ _ hT.1.1 hM.1 ?_)
  · refine mo_quotient hM hW (m_kp hS hm hf1) (fun d' f' b1 b2 b3 b4 I2 hm2 hf2 => ?_) (fun hn => absurd ⟨d, f, a1, a2, a3, a4⟩ hn)
    have e1 : d' = d := (nI_eq (by omega) (by omega)).mp (b3.symm.trans a3)
    have e2 : f' = f := by omega
    subst e1 e2
    exact hQ _ _ _ _ ⟨p, hz, n, ord, _, _, _, _, hT, hM, c_kp hS1 hf2, hm2⟩
  · exact mo_quotient hM hW hm (fun d' f' b1 b2 b3 b4 I2 hm2 hf2 => absurd ⟨d', f', b1, b2, b3, b4⟩ hn) (fun _ => F0 _)
theorem la_regular (hL : LI M sw I) {Pq : Int32 → Mem → Prop} {Q : Int32 → Int32 → Mem → Prop} (hQ : ∀ r M' sw' I', LI M' sw' I' → Q r r (wI M' I')) (hP : ∀ r M1, isK M1 0 6 → isK M1 199 7 → T_Mo_regular 199 M1 (Q r) → Pq r M1) : T_HT_regular 0 (wI M I) Pq := by
  obtain ⟨p, hz, n, ord, D, H, O, C, hT, hM, hS, hm⟩ := hL
  have hW := w_of hS
  have hH := hS.1.1.2.1.1
  have F0 : ∀ r, Q r r (wI M I) := fun r => hQ r M sw I ⟨p, hz, n, ord, D, H, O, C, hT, hM, hS, hm⟩
  refine op_regular hT hS (fun f a1 a2 v a3 I1 hS1 hf1 => hP _ _ hT.1.1 hM.1 ?_) (fun hn => hP _ _ hT.1.1 hM.1 ?_)
  · refine mo_regular hM hW (m_kp hS hm hf1) (fun f' b1 b2 v' b3 I2 hm2 hf2 => ?_) (fun hn => absurd ⟨f, a1, a2⟩ hn)
    have e2 : f' = f := by omega
    subst e2
    have e : v' = v := by
      rcases a3 with ⟨q1, q2⟩ | ⟨q1, d, q2, q3⟩ <;> rcases b3 with ⟨t1, t2⟩ | ⟨t1, d', t2, t3⟩
      · rw [q1, t1]
      · exact absurd (q2 d' t2) t3
      · exact absurd (t2 d q2) q3
      · rw [q1, t1]
    rw [e]
    exact hQ _ _ _ _ ⟨p, hz, n, ord, _, _, _, _, hT, hM, c_kp hS1 hf2, hm2⟩
  · exact mo_regular hM hW hm (fun f' b1 b2 v' b3 I2 hm2 hf2 => absurd ⟨f', b1, b2⟩ hn) (fun _ => F0 _)
theorem la_dimension {x y : Int32} (hL : LI M sw I) {Pq : Int32 → Mem → Prop} {Q : Int32 → Int32 → Mem → Prop} (hQ : ∀ r M' sw' I', LI M' sw' I' → Q r r (wI M' I')) (hP : ∀ r M1, isK M1 0 6 → isK M1 199 7 → T_Mo_dimension 199 x y M1 (Q r) → Pq r M1) : T_HT_dimension 0 x y (wI M I) Pq := by
  obtain ⟨p, hz, n, ord, D, H, O, C, hT, hM, hS, hm⟩ := hL
  have hW := w_of hS
  have hH := hS.1.1.2.1.1
  have F0 : ∀ r, Q r r (wI M I) := fun r => hQ r M sw I ⟨p, hz, n, ord, D, H, O, C, hT, hM, hS, hm⟩
  refine op_dimension hT hS (fun d a1 a2 v a3 I1 hS1 hf1 => hP _ _ hT.1.1 hM.1 ?_) (fun hn => hP _ _ hT.1.1 hM.1 ?_)
  · refine mo_dimension hM hW (m_kp hS hm hf1) (fun d' b1 b2 v' b3 I2 hm2 hf2 => ?_) (fun hn => absurd ⟨⟨by rcases a3 with q | q | q | q | q <;> omega, by rcases a3 with q | q | q | q | q <;> omega⟩, d, a1, a2⟩ hn)
    have e1 : d' = d := (nI_eq (by omega) (by omega)).mp (b2.symm.trans a2)
    subst e1
    have e : v' = v := by
      rcases a3 with ⟨q1, q2⟩ | ⟨q1, q2⟩ | ⟨q1, q2⟩ | ⟨q1, q2⟩ | ⟨q1, q2⟩ <;> rcases b3 with ⟨t1, t2⟩ | ⟨t1, t2⟩ | ⟨t1, t2⟩ | ⟨t1, t2⟩ | ⟨t1, t2⟩ <;> first | (rw [q2, t2]; done) | omega
    rw [e]
    exact hQ _ _ _ _ ⟨p, hz, n, ord, _, _, _, _, hT, hM, c_kp hS1 hf2, hm2⟩
  · exact mo_dimension hM hW hm (fun d' b1 b2 v' b3 I2 hm2 hf2 => absurd ⟨⟨by rcases b3 with q | q | q | q | q <;> omega, by rcases b3 with q | q | q | q | q <;> omega⟩, d', b1, b2⟩ hn) (fun _ => F0 _)
theorem la_parts (hL : LI M sw I) {Pq : Int32 → Mem → Prop} {Q : Int32 → Int32 → Mem → Prop} (hQ : ∀ r M' sw' I', LI M' sw' I' → Q r r (wI M' I')) (hP : ∀ r M1, isK M1 0 6 → isK M1 199 7 → T_Mo_parts 199 M1 (Q r) → Pq r M1) : T_HT_parts 0 (wI M I) Pq := by
  obtain ⟨p, hz, n, ord, D, H, O, C, hT, hM, hS, hm⟩ := hL
  have hW := w_of hS
  have hH := hS.1.1.2.1.1
  have F0 : ∀ r, Q r r (wI M I) := fun r => hQ r M sw I ⟨p, hz, n, ord, D, H, O, C, hT, hM, hS, hm⟩
  refine op_parts hT hS (fun l1 l2 v a1 a2 a3 a4 a5 I1 hS1 hf1 => hP _ _ hT.1.1 hM.1 ?_)
  obtain ⟨s1, s2, s3⟩ := parts_same (ord := ord) (prm_field hW.1.2.2) hS.1.1.2.1 hS.1.1.2.2.1 a1 a2 a3 a4
  refine mo_parts hM hW (m_kp hS hm hf1) (fun d b1 b2 b3 I2 hm2 hf2 => ?_) (fun b1 I2 hm2 hf2 => ?_)
  · have q : min l1 l2 ≤ 5 := Classical.byContradiction (fun q => b3 (s3 (by omega) d))
    have e : min l1 l2 = d := by
      rcases Nat.lt_trichotomy (min l1 l2) d with t | t | t
      · exact absurd (b2 _ t) (s2 q)
      · exact t
      · exact absurd (s1 d t) b3
    rw [a5, if_pos q, e]
    exact hQ _ _ _ _ ⟨p, hz, n, ord, _, _, _, _, hT, hM, c_kp hS1 hf2, hm2⟩
  · have q : ¬ min l1 l2 ≤ 5 := fun q => s2 q (b1 _ (by omega))
    rw [a5, if_neg q]
    exact hQ _ _ _ _ ⟨p, hz, n, ord, _, _, _, _, hT, hM, c_kp hS1 hf2, hm2⟩
theorem la_claim {x : Int32} (hL : LI M sw I) {Pq : Int32 → Mem → Prop} {Q : Int32 → Int32 → Mem → Prop} (hQ : ∀ r M' sw' I', LI M' sw' I' → Q r r (wI M' I')) (hP : ∀ r M1, isK M1 199 7 → T_Mo_claim 199 x M1 (Q r) → Pq r M1) : T_HT_claim 0 x (wI M I) Pq := by
  obtain ⟨p, hz, n, ord, D, H, O, C, hT, hM, hS, hm⟩ := hL
  have hW := w_of hS
  have hH := hS.1.1.2.1.1
  have F0 : ∀ r, Q r r (wI M I) := fun r => hQ r M sw I ⟨p, hz, n, ord, D, H, O, C, hT, hM, hS, hm⟩
  refine op_claim hT hS (fun d a1 a2 a3 I1 hS1 hf1 => hP _ _ hM.1 ?_) (fun hn => hP _ _ hM.1 ?_)
  · refine mo_claim hM hW (m_kp hS hm hf1) (fun d' b1 b2 b3 I2 hm2 hf2 => ?_) (fun hn => absurd ⟨d, a1, a2, a3⟩ hn)
    have e1 : d' = d := (nI_eq (by omega) (by omega)).mp (b2.symm.trans a2)
    subst e1
    exact hQ _ _ _ _ ⟨p, hz, n, ord, _, _, _, _, hT, hM, c_kp hS1 hf2, hm2⟩
  · exact mo_claim hM hW hm (fun d' b1 b2 b3 I2 hm2 hf2 => absurd ⟨d', b1, b2, b3⟩ hn) (fun _ => F0 _)
theorem la_told {x : Int32} (hL : LI M sw I) {Pq : Int32 → Mem → Prop} {Q : Int32 → Int32 → Mem → Prop} (hQ : ∀ r M' sw' I', LI M' sw' I' → Q r r (wI M' I')) (hP : ∀ r M1, isK M1 199 7 → T_Mo_told 199 x M1 (Q r) → Pq r M1) : T_HT_told 0 x (wI M I) Pq := by
  obtain ⟨p, hz, n, ord, D, H, O, C, hT, hM, hS, hm⟩ := hL
  have hW := w_of hS
  have hH := hS.1.1.2.1.1
  have F0 : ∀ r, Q r r (wI M I) := fun r => hQ r M sw I ⟨p, hz, n, ord, D, H, O, C, hT, hM, hS, hm⟩
  refine op_told hT hS (fun w => hP _ _ hM.1 ?_) (fun w => hP _ _ hM.1 ?_) (fun w => hP _ _ hM.1 ?_) (fun w => hP _ _ hM.1 ?_) (fun w => hP _ _ hM.1 ?_) (fun w => hP _ _ hM.1 ?_)
  · exact mo_told hM hm (fun _ => F0 _) (fun w => absurd w (by omega)) (fun w => absurd w (by omega)) (fun w => absurd w (by omega)) (fun w => absurd w (by omega)) (fun w => absurd w (by omega))
  · exact mo_told hM hm (fun w => absurd w (by omega)) (fun _ => F0 _) (fun w => absurd w (by omega)) (fun w => absurd w (by omega)) (fun w => absurd w (by omega)) (fun w => absurd w (by omega))
  · exact mo_told hM hm (fun w => absurd w (by omega)) (fun w => absurd w (by omega)) (fun _ => F0 _) (fun w => absurd w (by omega)) (fun w => absurd w (by omega)) (fun w => absurd w (by omega))
  · exact mo_told hM hm (fun w => absurd w (by omega)) (fun w => absurd w (by omega)) (fun w => absurd w (by omega)) (fun _ => F0 _) (fun w => absurd w (by omega)) (fun w => absurd w (by omega))
  · exact mo_told hM hm (fun w => absurd w (by omega)) (fun w => absurd w (by omega)) (fun w => absurd w (by omega)) (fun w => absurd w (by omega)) (fun _ => F0 _) (fun w => absurd w (by omega))
  · exact mo_told hM hm (fun w => absurd w (by omega)) (fun w => absurd w (by omega)) (fun w => absurd w (by omega)) (fun w => absurd w (by omega)) (fun w => absurd w (by omega)) (fun _ => F0 _)
/-- the memory after a swap -/
def swM (M : Mem) (sw : Bool) : Mem := sR (sR M 0 10 (some (oo sw))) 0 11 (some (hh sw))
theorem swM_R {M : Mem} {sw : Bool} {c k : Nat} (h : c ≠ 0) : gR (swM M sw) c k = gR M c k := by
  unfold swM sR gR
  simp only [if_neg h]
theorem swM_10 {M : Mem} {sw : Bool} : gR (swM M sw) 0 10 = some (oo sw) := rfl
theorem swM_11 {M : Mem} {sw : Bool} : gR (swM M sw) 0 11 = some (hh sw) := rfl
theorem hh_n (sw : Bool) : hh (!sw) = oo sw ∧ oo (!sw) = hh sw := by cases sw <;> exact ⟨rfl, rfl⟩
theorem swM_U {M : Mem} {sw : Bool} (hu : nC M ≤ 1000 ∧ Uq M) (h1 : isK M (hh sw) 1) (h2 : isK M (oo sw) 1) : nC (swM M sw) ≤ 1000 ∧ Uq (swM M sw) := by
  refine ⟨hu.1, fun a k v ha e => ?_⟩
  have ha' : a < nC M := ha
  have no : ∀ q, isK M q 1 → q < nC M ∧ (kd M q = 12 → (k = 9 ∧ q = a + 6 ∧ ln M q = 2560) ∨ (k = 10 ∧ q = a + 7 ∧ ln M q = 286)) := fun q hq => ⟨hq.1, fun z => by rw [hq.2] at z; cases z⟩
  show v < nC M ∧ (kd M v = 12 → (k = 9 ∧ v = a + 6 ∧ ln M v = 2560) ∨ (k = 10 ∧ v = a + 7 ∧ ln M v = 286))
  by_cases z : a = 0
  · subst z
    have e' : va_up (va_up (gR M 0) 10 (some (oo sw))) 11 (some (hh sw)) k = some v := e
    unfold va_up at e'
    by_cases y : k = 11
    · rw [if_pos y] at e'
      cases e'
      exact no _ h1
    · rw [if_neg y] at e'
      by_cases y2 : k = 10
      · rw [if_pos y2] at e'
        cases e'
        exact no _ h2
      · rw [if_neg y2] at e'
        exact hu.2 0 k v ha' e'
  · rw [swM_R z] at e
    exact hu.2 a k v ha' e
theorem swM_T {M : Mem} {sw : Bool} (h : HTOK M sw) : HTOK (swM M sw) (!sw) := by
  have hu := swM_U h.2.2.2.2.1.1.1.2 h.he.1.1.2.1 h.he.2.1.2.1
  obtain ⟨⟨k0, r0, r1, r2, r3, r4, r5, r6, r7, r8, r9, r10, r11⟩, ⟨a78, a79, a80⟩, hPo, ⟨c1, c2⟩, ⟨b1, b2, b3⟩, ⟨h1, h2⟩, hM⟩ := h
  refine ⟨⟨k0, r0, r1, r2, r3, r4, r5, r6, r7, r8, r9, ?_, ?_⟩, ⟨a78, a79, a80⟩, hPo, ⟨c1, fun r hr => ⟨(c2 r hr).1, ⟨(c2 r hr).2.1.1, ?_⟩, ?_, (c2 r hr).2.2.2⟩⟩, ⟨⟨⟨b1.1.1, hu⟩, b1.2⟩, ⟨⟨b2.1.1, hu⟩, b2.2⟩, ⟨b3.1.1, hu⟩, b3.2⟩, ⟨⟨h1.1, h1.2.1, h1.2.2.1, h1.2.2.2.1, ⟨h1.2.2.2.2.1.1, hu⟩, h1.2.2.2.2.2⟩, h2.1, h2.2.1, h2.2.2.1, h2.2.2.2.1, ⟨h2.2.2.2.2.1.1, hu⟩, h2.2.2.2.2.2⟩, hM⟩
  · rw [(hh_n sw).1]; rfl
  · rw [(hh_n sw).2]; rfl
  · rw [swM_R (by omega)]; exact (c2 r hr).2.1.2
  · rw [swM_R (by omega)]; exact (c2 r hr).2.2.1
theorem la_swap (hL : LI M sw I) {Pq : Int32 → Mem → Prop} {Q : Int32 → Int32 → Mem → Prop} (hQ : ∀ r M' sw' I', LI M' sw' I' → Q r r (wI M' I')) (hP : ∀ r M1, isK M1 199 7 → T_Mo_swap 199 M1 (Q r) → Pq r M1) : T_HT_swap 0 (wI M I) Pq := by
  obtain ⟨p, hz, n, ord, D, H, O, C, hT, hM, hS, hm⟩ := hL
  have hW := w_of hS
  have hM2 : MdOK (swM M sw) := hM
  refine op_swap (M' := swM M sw) hT hS (fun I => rfl) (swM_T hT) (fun I1 hS1 hf1 => hP _ _ hM.1 ?_)
  refine mo_swap hM2 hW (m_kp hS hm hf1) (fun I2 hm2 hf2 => ?_)
  exact hQ _ _ _ _ ⟨p, hz, n, ord, _, _, _, _, swM_T hT, hM2, c_kp hS1 hf2, hm2⟩
end LAW
