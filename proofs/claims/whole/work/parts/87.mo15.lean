/-! the reference: base, element -/
/-- a leading product times a product leads -/
theorem lead_up {p : Nat} [NeZero p] {n ord e k : Nat} {G : Nat → (Mo2 → Fin p) → Prop} {q c : Mo2} (hG : ∀ e g, G e g → hom n e g) (hq : okm n e q) (hc : okm n k c) (h : lead (VV n ord e (VP n G e)) (psm n ord e q)) : lead (VV n ord (e + k) (VP n G (e + k))) (psm n ord (e + k) (q.1 + c.1, q.2 + c.2)) := by
  obtain ⟨v, ⟨f, hf, rfl⟩, h1, h2⟩ := h
  have hqc := okm_add hq hc
  have hlt := psm_lt (ord := ord) hqc
  have hat := atm_psm (ord := ord) hqc
  have hlq := psm_lt (ord := ord) hq
  have haq := atm_psm (ord := ord) hq
  refine ⟨_, ⟨mulm c f, VP_up hc f hf, rfl⟩, ?_, fun j hj => ?_⟩
  · unfold vec at h1 ⊢
    rw [if_pos hlq, haq] at h1
    rw [if_pos hlt, hat]
    unfold mulm
    rw [if_pos ⟨by simp only; omega, by simp only; omega⟩]
    simp only [Nat.add_sub_cancel]
    exact h1
  · unfold vec
    rw [if_pos (by omega)]
    unfold mulm
    by_cases z : c.1 ≤ (atm n ord (e + k) j).1 ∧ c.2 ≤ (atm n ord (e + k) j).2
    · rw [if_pos z]
      by_cases y : f ((atm n ord (e + k) j).1 - c.1, (atm n ord (e + k) j).2 - c.2) = 0
      · exact y
      · exfalso
        have hr := VP_hom hG f hf _ y
        have hlr := psm_lt (ord := ord) hr
        have har := atm_psm (ord := ord) hr
        have hge : ¬ psm n ord e ((atm n ord (e + k) j).1 - c.1, (atm n ord (e + k) j).2 - c.2) < psm n ord e q := fun w => by
          have := h2 _ w
          unfold vec at this
          rw [if_pos hlr, har] at this
          exact y this
        have hb : bef ord (atm n ord (e + k) j) (q.1 + c.1, q.2 + c.2) := by
          rw [← hat]; exact (atm_lt (by omega) hlt).mpr hj
        have e1 : atm n ord (e + k) j = (((atm n ord (e + k) j).1 - c.1, (atm n ord (e + k) j).2 - c.2).1 + c.1, ((atm n ord (e + k) j).1 - c.1, (atm n ord (e + k) j).2 - c.2).2 + c.2) := by
          apply Prod.ext <;> simp only <;> omega
        rw [e1, bef_mul] at hb
        rw [← har, ← haq] at hb
        exact hge ((atm_lt hlr hlq).mp hb)
    · rw [if_neg z]
theorem nM_11 : ∀ n, n < 4 → ∀ o, o < 2 → nM n o 11 ≤ 78 := by decide +kernel
/-- m divides o, by powers -/
def dvm (m o : Nat) : Prop := pwm m 0 ≤ pwm o 0 ∧ pwm m 1 ≤ pwm o 1 ∧ pwm m 2 ≤ pwm o 2
/-- what the reference has marked as leading -/
def ldM {p : Nat} [NeZero p] (n ord : Nat) (G : Nat → (Mo2 → Fin p) → Prop) (d k m : Nat) : Prop := okm n (mdeg m) (mmo m) ∧ lead (VV n ord (mdeg m) (VP n G (mdeg m))) (psm n ord (mdeg m) (mmo m)) ∧ (mdeg m < d ∨ (mdeg m = d ∧ k ≤ psm n ord d (mmo m)))
def LdS {p : Nat} [NeZero p] (n ord : Nat) (G : Nat → (Mo2 → Fin p) → Prop) (d k : Nat) (I : Nat → Nat → Int32) : Prop := ∀ m, m < 1331 → (ldM n ord G d k m → I 206 m = 1) ∧ (¬ ldM n ord G d k m → I 206 m = 0)
theorem pw_cd {d : Nat} {q : Mo2} (hd : d ≤ 10) (hq : q.1 + q.2 ≤ d) : pwm (cdm d q) 0 = d - q.1 - q.2 ∧ pwm (cdm d q) 1 = q.1 ∧ pwm (cdm d q) 2 = q.2 := by
  have h := cdm_ok hd hq
  obtain ⟨x, y, z, _, _, _, h1, h2, h3, h4, h5, h6⟩ := dig h.1
  rw [h4, h5, h6]
  rw [h.2.1] at h2
  rw [h.2.2] at h3
  have e1 : q.1 = y := by rw [h3]
  have e2 : q.2 = z := by rw [h3]
  omega
theorem isnew_dv {p : Nat} [NeZero p] {n ord d i k : Nat} {G : Nat → (Mo2 → Fin p) → Prop} (hG : ∀ e g, G e g → hom n e g) (hd : d ≤ 10) (hi : i < nM n ord d) : isnew n ord G d i = true ↔ (lead (VV n ord d (VP n G d)) i ∧ ¬ ∃ m, m < 1331 ∧ ldM n ord G d k m ∧ mdeg m ≠ d ∧ dvm m (cdm d (atm n ord d i))) := by
  rw [isnew_iff]
  have hok := atm_ok hi
  have hpw := pw_cd hd hok.1
  refine and_congr_right (fun _ => not_congr ⟨?_, ?_⟩)
  · rintro ⟨l, b, h1, h2, h3, h4, h5⟩
    have hb := h2.1
    have hc := cdm_ok (show d - 1 ≤ 10 by omega) hb
    have hpb := pw_cd (show d - 1 ≤ 10 by omega) hb
    refine ⟨cdm (d - 1) b, hc.1, ⟨by rw [hc.2.1, hc.2.2]; exact h2, by rw [hc.2.1, hc.2.2]; exact h5, Or.inl (by rw [hc.2.1]; omega)⟩, by rw [hc.2.1]; omega, ?_⟩
    have l1 := h1.1
    have e1 : (atm n ord d i).1 = l.1 + b.1 := by rw [h4]
    have e2 : (atm n ord d i).2 = l.2 + b.2 := by rw [h4]
    refine ⟨?_, ?_, ?_⟩
    · rw [hpb.1, hpw.1]; omega
    · rw [hpb.2.1, hpw.2.1]; omega
    · rw [hpb.2.2, hpw.2.2]; omega
  · rintro ⟨m, hm, ⟨m1, m2, m3⟩, m4, m5, m6, m7⟩
    have hlt : mdeg m < d := by omega
    have hmm := mmo_ok hm
    have hpm := pw_cd (show mdeg m ≤ 10 by omega) hmm.1
    rw [hmm.2] at hpm
    rw [hpm.1, hpw.1] at m5
    rw [hpm.2.1, hpw.2.1] at m6
    rw [hpm.2.2, hpw.2.2] at m7
    have hq2 : okm n (d - mdeg m - 1 + 1) ((atm n ord d i).1 - (mmo m).1, (atm n ord d i).2 - (mmo m).2) := by
      have o1 := hok.1
      have o2 := hok.2.1
      have o3 := hok.2.2
      have o4 := hmm.1
      refine ⟨?_, fun z => ?_, fun z => ?_⟩
      · simp only; omega
      · have := o2 z; simp only; omega
      · have := o3 z; simp only; omega
    obtain ⟨l, c, l1, l2, l3⟩ := okm_split hq2
    have e1 : (atm n ord d i).1 - (mmo m).1 = l.1 + c.1 := by have := congrArg Prod.fst l3; simpa using this
    have e2 : (atm n ord d i).2 - (mmo m).2 = l.2 + c.2 := by have := congrArg Prod.snd l3; simpa using this
    have hup := lead_up hG m1 l2 m2
    have hde : mdeg m + (d - mdeg m - 1) = d - 1 := by omega
    have hob := okm_add m1 l2
    rw [hde] at hup hob
    refine ⟨l, ((mmo m).1 + c.1, (mmo m).2 + c.2), l1, hob, by omega, ?_, hup⟩
    apply Prod.ext <;> simp only <;> omega
/-- the draft, once number k of the base is (or isn't) there -/
def Dnv {p : Nat} [NeZero p] (n ord : Nat) (G : Nat → (Mo2 → Fin p) → Prop) (D : Nat → Mo2 → Fin p) (xn : Int32) (cur : Nat) (E : Nat → Mo2 → Fin p) : Prop := (E = D ∧ ∀ k, k < cur → xn ≠ nI k) ∨ ∃ k e i f, k < cur ∧ xn = nI k ∧ e ≤ 10 ∧ i < nM n ord e ∧ isnew n ord G e i = true ∧ k = eix n ord G (szc n ord G) e i ∧ isRed n ord G e i f ∧ hom n e f ∧ E = oneP e f
theorem Dnv_up {p : Nat} [NeZero p] {n ord : Nat} {G : Nat → (Mo2 → Fin p) → Prop} {D E : Nat → Mo2 → Fin p} {xn : Int32} {cur : Nat} (h : Dnv n ord G D xn cur E) (hne : xn ≠ nI cur) : Dnv n ord G D xn (cur + 1) E := by
  rcases h with ⟨h1, h2⟩ | ⟨k, e, i, f, h1, h2⟩
  · refine Or.inl ⟨h1, fun k hk => ?_⟩
    by_cases z : k = cur
    · rw [z]; exact hne
    · exact h2 k (by omega)
  · exact Or.inr ⟨k, e, i, f, by omega, h2⟩
theorem szc_le {p : Nat} [NeZero p] {n ord : Nat} {G : Nat → (Mo2 → Fin p) → Prop} (h66 : ∀ d, d ≤ 10 → nM n ord d ≤ 66) : ∀ d, d ≤ 11 → szc n ord G d ≤ 66 * d := by
  intro d
  induction d with
  | zero => intro _; exact Nat.le_refl _
  | succ d ih =>
    intro hd
    have h1 := ih (by omega)
    have h2 := ct_le (isnew n ord G d) (nM n ord d)
    have h3 := h66 d (by omega)
    show szc n ord G d + ct (isnew n ord G d) (nM n ord d) ≤ _
    omega
section MO15
variable {M : Mem} {I : Nat → Nat → Int32} {n ord p : Nat}
theorem sp_Modivides {m o : Nat} {post : Int32 → Mem → Prop} (hM : MdOK M) (hm : m < 1331) (ho : o < 1331) (h1 : dvm m o → post 1 (wI M I)) (h0 : ¬ dvm m o → post 0 (wI M I)) : T_Mo_divides 199 (nI m) (nI o) (wI M I) post := by
  have hk := hM.1
  have p0 := pwm_le hm 0
  have p1 := pwm_le hm 1
  have p2 := pwm_le hm 2
  have q0 := pwm_le ho 0
  have q1 := pwm_le ho 1
  have q2 := pwm_le ho 2
  unfold T_Mo_divides B_Mo_divides_49 B_Mo_divides_50
  refine ⟨hk, sp_Mopower (l := 0) hm (by omega) ⟨hk, sp_Mopower (l := 0) ho (by omega) ?_⟩⟩
  rw [nI_ltI (by omega) (by omega)]
  refine ⟨fun z => ⟨rfl, h0 (fun w => by have := w.1; omega)⟩, fun z0 => ⟨hk, sp_Mopower (l := 1) hm (by omega) ⟨hk, sp_Mopower (l := 1) ho (by omega) ?_⟩⟩⟩
  rw [nI_ltI (by omega) (by omega)]
  refine ⟨fun z => ⟨rfl, h0 (fun w => by have := w.2.1; omega)⟩, fun z1 => ⟨hk, sp_Mopower (l := 2) hm (by omega) ⟨hk, sp_Mopower (l := 2) ho (by omega) ?_⟩⟩⟩
  rw [nI_ltI (by omega) (by omega)]
  exact ⟨fun z => ⟨rfl, h0 (fun w => by have := w.2.2; omega)⟩, fun z2 => ⟨rfl, h1 ⟨by omega, by omega, by omega⟩⟩⟩
theorem sp_Mobases [NeZero p] {most : Nat} {xn : Int32} {D : Nat → Mo2 → Fin p} {H O : Hp p} {C : Nat → Nat → Mo2 → Fin p} {post : Int32 → Mem → Prop} (hM : MdOK M) (hW : WfA n ord D H O C) (hS : MSt n ord D H O C I) (hmo : most ≤ 10) (h : ∀ E I', Dnv n ord (Gh H) D xn (szc n ord (Gh H) (most + 1)) E → MSt n ord E H O C I' → FM I I' → post (nI (szc n ord (Gh H) (most + 1))) (wI M I')) : T_Mo_bases 199 (nI most) xn (wI M I) post := by
  have hk := hM.1
  have hM' := hM
  obtain ⟨k4, r0, r6, r7, r9, r10, r11, r13, r14, r15, r17, a5, a6, a7, a8, a9, a10, a11, a12, a13, a14⟩ := hM'
  have hp := prm_lt hW.1.2.2
  have hF := prm_field hW.1.2.2
  have hH := hW.2.2.1.1
  have hO := hW.2.2.2.1.1
  have hG : ∀ e g, Gh H e g → hom n e g := fun e g ⟨r, z1, z2, z3⟩ => by subst z2 z3; exact (hW.2.2.1.2 r z1).2.1
  have h66 := szc_le (G := Gh H) (fun d hd => hW.n66 hd)
  -- nothing is marked at first
  have := pk_loop (σ := Nat → Int32) (fun N i g => L_Mo_bases_5 post N 199 (nI most) xn 0 (nI i) (wI M (sAll I 206 g))) (fun i g => ∀ m, m < i → g m = 0) 1331 0 (I 206) (by omega) (fun k hk => absurd hk (Nat.not_lt_zero k)) ?_ ?_
  · simp only [sAll_self] at this
    exact this
  · intro N g hg
    show B_Mo_bases_5 (L_Mo_bases_5 post N) post 199 _ _ _ _ _
    unfold B_Mo_bases_5
    refine ⟨fun _ => ?_, fun q => absurd (by decide) q⟩
    -- degree by degree
    refine pk_loop (σ := (Nat → Nat → Int32) × (Nat → Mo2 → Fin p)) (fun N d s => L_Mo_bases_30 post N 199 (nI most) xn (nI (szc n ord (Gh H) d)) (nI d) (wI M s.1)) (fun d s => FM I s.1 ∧ MSt n ord s.2 H O C s.1 ∧ (∀ e, e ≤ 10 → hom n e (s.2 e)) ∧ Dnv n ord (Gh H) D xn (szc n ord (Gh H) d) s.2 ∧ LdS n ord (Gh H) d 1000 s.1) (most + 1) 0 (sAll I 206 g, D) (by omega) ⟨FM_s (by omega), MSt_kp hH hO (fun k _ => by show sAll I 206 g 199 k = _; rw [sAll_ne (by omega)]) (fun j _ => by show sAll I 206 g 200 j = _; rw [sAll_ne (by omega)]) hS, hW.2.1, Or.inl ⟨rfl, fun k hk => absurd hk (Nat.not_lt_zero k)⟩, fun m hm => ⟨fun z => ?_, fun _ => by show sAll I 206 g 206 m = 0; rw [sAll_eq]; exact hg m hm⟩⟩ ?_ ?_
    · have z1 := z.1
      have z3 := z.2.2
      rcases z3 with z3 | ⟨z3, z4⟩
      · omega
      · rw [z3] at z1
        have := psm_lt (ord := ord) z1
        have := hW.n66 (show 0 ≤ 10 by omega)
        omega
    · intro N ⟨K, E⟩ ⟨e1, e2, e3, e4, e5⟩
      show B_Mo_bases_30 (L_Mo_bases_30 post N) post 199 _ _ _ _ (wI M K)
      exact ⟨fun _ => h E K e4 e2 e1, fun q => absurd ((nI_ltI (by omega) (by omega)).mpr (by omega)) q⟩
    · intro N d ⟨K, E⟩ hd ⟨e1, e2, e3, e4, e5⟩ ih
      have e1 : FM I K := e1
      have e2 : MSt n ord E H O C K := e2
      have e3 : ∀ e, e ≤ 10 → hom n e (E e) := e3
      have e4 : Dnv n ord (Gh H) D xn (szc n ord (Gh H) d) E := e4
      have e5 : LdS n ord (Gh H) d 1000 K := e5
      have hWE := WfA_D hW e3
      have hd10 : d ≤ 10 := by omega
      have hN := hW.n66 hd10
      have hsz := h66 d (by omega)
      show B_Mo_bases_30 (L_Mo_bases_30 post N) post 199 _ _ _ _ (wI M K)
      unfold B_Mo_bases_30
      refine ⟨fun q => ?_, fun _ => ⟨hk, sp_Moheap hM hWE e2 hd10 (fun J hEs hJ => ⟨hk, ?_⟩)⟩⟩
      · rw [nI_ltI (by omega) (by omega)] at q; omega
      obtain ⟨e, hE⟩ := hEs.st hF.1
      rw [← VV_spn] at hE
      have hSJ := MSt_en hWE hJ e2
      have hT := hE.1
      have h8 := hT.1
      rw [gI_wI, h8]
      have hLJ : LdS n ord (Gh H) d (nM n ord d) J := fun m hm => by
        rw [hJ.1 206 (by omega) (by omega) (by omega) (by omega) (by omega) (by omega)]
        have hiff : ldM n ord (Gh H) d (nM n ord d) m ↔ ldM n ord (Gh H) d 1000 m := by
          unfold ldM
          refine and_congr_right (fun z1 => and_congr_right (fun _ => or_congr Iff.rfl (and_congr_right (fun z3 => ?_))))
          rw [z3] at z1
          have := psm_lt (ord := ord) z1
          constructor <;> intro <;> omega
        rw [hiff]; exact e5 m hm
      have hWV : inRange (nM n ord d) (VV n ord d (VP n (Gh H) d)) := hE.2.1.2.1
      obtain ⟨nw, hnw⟩ : ∃ nw, nw = isnew n ord (Gh H) d := ⟨_, rfl⟩
      have hszs : szc n ord (Gh H) (d + 1) = szc n ord (Gh H) d + ct nw (nM n ord d) := by rw [hnw]; rfl
      have ky := pk_loopD (σ := (Nat → Nat → Int32) × (Nat → Mo2 → Fin p)) (fun N' k s => L_Mo_bases_50 (L_Mo_bases_30 post N) post N' 199 (nI most) xn (nI (szc n ord (Gh H) d + (ct nw (nM n ord d) - ct nw k))) (nI d) (nI k - 1) (wI M s.1)) (fun k s => k ≤ nM n ord d ∧ FM I s.1 ∧ MSt n ord s.2 H O C s.1 ∧ (∀ e, e ≤ 10 → hom n e (s.2 e)) ∧ Dnv n ord (Gh H) D xn (szc n ord (Gh H) d + (ct nw (nM n ord d) - ct nw k)) s.2 ∧ LdS n ord (Gh H) d k s.1 ∧ EnSt n ord d (VV n ord d (VP n (Gh H) d)) (leadB (VV n ord d (VP n (Gh H) d))) e s.1) ?_ ?_ (nM n ord d) (J, E) ⟨Nat.le_refl _, e1.tr hJ.fm, hSJ, e3, by rw [Nat.sub_self, Nat.add_zero]; exact e4, hLJ, hE⟩
      · rw [Nat.sub_self, Nat.add_zero] at ky
        exact ⟨_, ky⟩
      · intro N' ⟨K', E'⟩ ⟨_, c1, c2, c3, c4, c5, c6⟩
        show B_Mo_bases_50 _ (L_Mo_bases_50 _ post N') post 199 _ _ _ _ _ (wI M K')
        refine ⟨fun _ => ?_, fun q => absurd (by decide) q⟩
        have ec : ct nw 0 = 0 := rfl
        rw [ec, Nat.sub_zero, ← hszs] at c4 ⊢
        rw [nI_1]
        refine ih (K', E') ⟨c1, c2, c3, c4, fun m hm => ?_⟩
        have hiff : ldM n ord (Gh H) (d + 1) 1000 m ↔ ldM n ord (Gh H) d 0 m := by
          unfold ldM
          refine and_congr_right (fun z1 => and_congr_right (fun _ => ?_))
          constructor
          · rintro (z | ⟨z, z2⟩)
            · omega
            · rw [z] at z1
              have hd11 : d + 1 ≤ 11 := by omega
              exfalso
              by_cases w : d + 1 ≤ 10
              · have := psm_lt (ord := ord) z1
                have := hW.n66 w
                omega
              · have : d = 10 := by omega
                subst this
                have h11 : nM n ord (10 + 1) ≤ 78 := nM_11 n (by have := hW.1.1; omega) ord (by have := hW.1.2.1; omega)
                have := psm_lt (ord := ord) z1
                omega
          · rintro (z | ⟨z, z2⟩)
            · exact Or.inl (by omega)
            · exact Or.inl (by omega)
        rw [hiff]; exact c5 m hm
      · intro N' k ⟨K', E'⟩ ⟨hk1, c1, c2, c3, c4, c5, c6⟩ ih'
        have c1 : FM I K' := c1
        have c2 : MSt n ord E' H O C K' := c2
        have c3 : ∀ e, e ≤ 10 → hom n e (E' e) := c3
        have c4 : Dnv n ord (Gh H) D xn (szc n ord (Gh H) d + (ct nw (nM n ord d) - ct nw (k + 1))) E' := c4
        have c5 : LdS n ord (Gh H) d (k + 1) K' := c5
        have c6 : EnSt n ord d (VV n ord d (VP n (Gh H) d)) (leadB (VV n ord d (VP n (Gh H) d))) e K' := c6
        have hki : k < nM n ord d := by omega
        have hok := atm_ok hki
        have hcd := cdm_ok hd10 hok.1
        have hpk := c6.2.2.2.1 k hki
        have hlk := c6.1.2.1 k hki
        have hctm := ct_up (Q := nw) (show k + 1 ≤ nM n ord d by omega)
        have hctN := ct_le nw (nM n ord d)
        obtain ⟨cur, hcur⟩ : ∃ cur, cur = szc n ord (Gh H) d + (ct nw (nM n ord d) - ct nw (k + 1)) := ⟨_, rfl⟩
        show B_Mo_bases_50 _ (L_Mo_bases_50 _ post N') post 199 _ _ _ _ _ (wI M K')
        unfold B_Mo_bases_50 B_Mo_bases_213
        rw [nI_pred, m1_eq, ← hcur]
        rw [← hcur] at c4
        have noNew : nw k = false → ∀ s : (Nat → Nat → Int32) × (Nat → Mo2 → Fin p), (FM I s.1 ∧ MSt n ord s.2 H O C s.1 ∧ (∀ e, e ≤ 10 → hom n e (s.2 e)) ∧ Dnv n ord (Gh H) D xn cur s.2 ∧ LdS n ord (Gh H) d k s.1 ∧ EnSt n ord d (VV n ord d (VP n (Gh H) d)) (leadB (VV n ord d (VP n (Gh H) d))) e s.1) → L_Mo_bases_50 (L_Mo_bases_30 post N) post N' 199 (nI most) xn (nI cur) (nI d) (nI k - 1) (wI M s.1) := by
          intro hf s hs
          have ec := ct_succ_f hf
          have := ih' s ⟨by omega, hs.1, hs.2.1, hs.2.2.1, by rw [← ec, ← hcur]; exact hs.2.2.2.1, hs.2.2.2.2⟩
          rw [← ec, ← hcur] at this
          exact this
        have yesNew : nw k = true → ∀ s : (Nat → Nat → Int32) × (Nat → Mo2 → Fin p), (FM I s.1 ∧ MSt n ord s.2 H O C s.1 ∧ (∀ e, e ≤ 10 → hom n e (s.2 e)) ∧ Dnv n ord (Gh H) D xn (cur + 1) s.2 ∧ LdS n ord (Gh H) d k s.1 ∧ EnSt n ord d (VV n ord d (VP n (Gh H) d)) (leadB (VV n ord d (VP n (Gh H) d))) e s.1) → L_Mo_bases_50 (L_Mo_bases_30 post N) post N' 199 (nI most) xn (nI (cur + 1)) (nI d) (nI k - 1) (wI M s.1) := by
          intro hf s hs
          have ec := ct_succ_t hf
          have e9 : szc n ord (Gh H) d + (ct nw (nM n ord d) - ct nw k) = cur + 1 := by omega
          have := ih' s ⟨by omega, hs.1, hs.2.1, hs.2.2.1, by rw [e9]; exact hs.2.2.2.1, hs.2.2.2.2⟩
          rw [e9] at this
          exact this
        refine ⟨fun q => absurd q (nI_nlt0 (by omega)), fun _ => ⟨hk, 205, r11, arr_A a10 (by omega) (by omega), ?_⟩⟩
        rw [gI_wI, nI_clamp (by omega), hpk]
        refine ⟨fun q => ?_, fun q => ?_⟩
        · -- it leads
          have hlead : leadB (VV n ord d (VP n (Gh H) d)) k = true := by
            cases z : leadB (VV n ord d (VP n (Gh H) d)) k
            · rw [z] at q; exact absurd rfl q
            · rfl
          have hlead' := leadB_iff.mp hlead
          have hdv := isnew_dv (k := k + 1) hG hd10 hki
          -- the mark
          have hmark : ∀ K2, K2 = sAll K' 206 (upd (K' 206) (cdm d (atm n ord d k)) 1) → LdS n ord (Gh H) d k K2 := by
            intro K2 hK2 m hm
            rw [hK2, sAll_eq]
            by_cases z : m = cdm d (atm n ord d k)
            · subst z
              rw [upd_eq]
              refine ⟨fun _ => rfl, fun w => absurd ?_ w⟩
              unfold ldM
              rw [hcd.2.1, hcd.2.2, psm_atm hki]
              exact ⟨hok, hlead', Or.inr ⟨rfl, Nat.le_refl _⟩⟩
            · rw [upd_ne z]
              have hiff : ldM n ord (Gh H) d k m ↔ ldM n ord (Gh H) d (k + 1) m := by
                unfold ldM
                refine and_congr_right (fun z1 => and_congr_right (fun _ => or_congr Iff.rfl (and_congr_right (fun z3 => ?_))))
                constructor
                · intro w
                  have : psm n ord d (mmo m) ≠ k := fun e0 => by
                    apply z
                    rw [z3] at z1
                    rw [← e0, atm_psm z1, ← z3]
                    exact (mmo_ok hm).2.symm
                  omega
                · intro w; omega
              rw [hiff]; exact c5 m hm
          have h136 : ∀ x6 : Int32, ((x6 = 1 ∧ nw k = true) ∨ (x6 = 0 ∧ nw k = false)) → B_Mo_bases_136 (L_Mo_bases_30 post N) (L_Mo_bases_50 (L_Mo_bases_30 post N) post N') post 199 (nI most) xn (nI cur) (nI d) (nI k) x6 (wI M K') := by
            intro x6 hx6
            unfold B_Mo_bases_136 B_Mo_bases_210 B_Mo_bases_213
            refine ⟨hk, 206, r13, hk, 201, r6, arr_A a6 (by omega) (by omega), ?_⟩
            rw [gI_wI, nI_clamp (by omega), hlk, nI_clamp (by omega), sI_wI, nar1, m1_eq, nI_1]
            obtain ⟨K2, hK2⟩ : ∃ K2, K2 = u2 K' 206 (cdm d (atm n ord d k)) 1 := ⟨_, rfl⟩
            have hL2 := hmark K2 (by rw [hK2, u2_s])
            have hK2' : K2 = sAll K' 206 (upd (K' 206) (cdm d (atm n ord d k)) 1) := by rw [hK2, u2_s]
            have f2 : FM I K2 := c1.tr (by rw [hK2']; exact FM_s (by omega))
            have s2 : MSt n ord E' H O C K2 := MSt_kp hH hO (fun k _ => by rw [hK2', sAll_ne (by omega)]) (fun j _ => by rw [hK2', sAll_ne (by omega)]) c2
            have en2 : EnSt n ord d (VV n ord d (VP n (Gh H) d)) (leadB (VV n ord d (VP n (Gh H) d))) e K2 := EnSt_kp (fun c hc => by rw [hK2', sAll_ne (by omega)]) c6
            rw [← hK2]
            refine ⟨arr_A a11 hcd.1 (by omega), fun w => ?_, fun w => ?_⟩
            · have hn : nw k = true := by
                rcases hx6 with ⟨_, z⟩ | ⟨z, _⟩
                · exact z
                · exact absurd z w
              have hns : isnew n ord (Gh H) d k = true := by rw [← hnw]; exact hn
              have hcx : cur = eix n ord (Gh H) (szc n ord (Gh H)) d k := by unfold eix; rw [hcur, hnw]
              refine ⟨fun w2 => yesNew hn (K2, E') ⟨f2, s2, c3, Dnv_up c4 (fun z => w2 z.symm), hL2, en2⟩, fun w2 => ⟨hk, sp_Moclear (k := 0) hM (by omega) (fun g0 g1 g2 => ?_)⟩⟩
              have hek := en2.2.2.2.2 k hki hlead
              -- its row comes to the draft
              have er : ∀ i, nM n ord d ≤ i → e k i = 0 := fun i hi => hWV _ ((en2.2.1.2.2.1.1 k hlead).2.1) i hi
              refine pk_loop (σ := Nat → Int32) (fun N2 i f => L_Mo_bases_170 (L_Mo_bases_30 post N) (L_Mo_bases_50 (L_Mo_bases_30 post N) post N') post N2 199 (nI most) xn (nI cur) (nI d) (nI k) (nI i) (wI M (sAll K2 200 f))) (fun i f => MRep f 0 (ptP n ord d (fun _ _ => 0) (e k) i) ∧ ∀ j, 1331 ≤ j → f j = K2 200 j) (nM n ord d) 0 g0 (by omega) ⟨MRep_cong (MRep_0 g1) (fun e' _ q _ => by unfold ptP; rw [if_neg (by omega)]), fun j hj => g2 j (by omega)⟩ ?_ ?_
              · intro N2 f ⟨f1, f2'⟩
                show B_Mo_bases_170 _ _ (L_Mo_bases_170 _ _ post N2) post 199 _ _ _ _ _ _ _
                unfold B_Mo_bases_170 B_Mo_bases_210 B_Mo_bases_213
                rw [gI_wI, sAll_ne (by omega), en2.1.1, nI_1, m1_eq]
                refine ⟨hk, fun _ => ?_, fun q => absurd (Int32.le_refl _) q⟩
                have hz0 : ∀ d, d ≤ 10 → hom n d ((fun _ _ => (0 : Fin p)) d : Mo2 → Fin p) := fun d _ => Dhom0
                have hph := ptP_hom (ord := ord) (d := d) (u := e k) (Nat.le_refl _) hz0
                have hEq : ptP n ord d (fun _ _ => 0) (e k) (nM n ord d) = oneP d (ptP n ord d (fun _ _ => 0) (e k) (nM n ord d) d) := by
                  funext e' q
                  unfold oneP
                  by_cases y : e' = d
                  · rw [if_pos y, y]
                  · rw [if_neg y, ptP_ne y]
                have hvv := ptP_vec (n := n) (ord := ord) (d := d) (D := fun _ _ => 0) (u := e k) er
                refine yesNew hn (sAll K2 200 f, ptP n ord d (fun _ _ => 0) (e k) (nM n ord d)) ⟨f2.tr (FM_s (by omega)), MSt_draft hH hO (fun k _ => ?_) ?_ (fun j h1 h2 => ?_) s2, hph, Or.inr ⟨cur, d, k, ptP n ord d (fun _ _ => 0) (e k) (nM n ord d) d, by omega, w2.symm, hd10, hki, hns, hcx, ⟨?_, ?_, fun j hj hl => ?_⟩, hph d hd10, hEq⟩, fun m hm => ?_, EnSt_kp (fun c hc => sAll_ne (by omega)) en2⟩
                · show sAll K2 200 f 199 k = _
                  rw [sAll_ne (by omega)]
                · show MRep (sAll K2 200 f 200) 0 _
                  rw [sAll_eq]; exact f1
                · show sAll K2 200 f 200 j = _
                  rw [sAll_eq]; exact f2' j h1
                · have hx := (en2.2.1.2.2.1.1 k hlead).2.1
                  rw [← hvv] at hx
                  exact (VV_in (VP_hom hG) (hph d hd10)).mp hx
                · rw [hvv]; exact (en2.2.1.2.2.1.1 k hlead).2.2.1
                · rw [hvv]; exact en2.2.1.2.2.2 k j hlead hl (Ne.symm hj)
                · show (ldM n ord (Gh H) d k m → sAll K2 200 f 206 m = 1) ∧ (¬ ldM n ord (Gh H) d k m → sAll K2 200 f 206 m = 0)
                  rw [sAll_ne (by omega)]; exact hL2 m hm
              · intro N2 i f hi ⟨f1, f2'⟩ ih2
                have hoi := atm_ok hi
                have hci := cdm_ok hd10 hoi.1
                have hli := en2.1.2.1 i hi
                have hei := hek i hi
                have e8 := en2.1.1
                show B_Mo_bases_170 _ _ (L_Mo_bases_170 _ _ post N2) post 199 _ _ _ _ _ _ _
                unfold B_Mo_bases_170
                simp (disch := omega) only [isK_wI, isA_wI, gR_wI, gI_wI, sI_wI, true_and, and_true, Option.some.injEq, exists_eq_left', forall_const, not_true_eq_false, not_false_eq_true, false_implies, true_implies, ne_eq, lit_nI, nI_add, pk_mul, pk_sub, pk_div, rem_n, nI_clamp, nI_leI, nI_ltI, nI_eq, in_nI, k4, r6, r9, isA_T a6, isA_T a8, sAll_ne (show (199 : Nat) ≠ 200 by omega), sAll_ne (show (201 : Nat) ≠ 200 by omega), sAll_ne (show (203 : Nat) ≠ 200 by omega), e8, hli, hei]
                refine ⟨fun q => absurd q (by omega), fun _ => sp_Moput (k := 0) hM (by omega) hci.1 ?_⟩
                rw [u2_sAll]
                refine ih2 _ ⟨MRep_cong (MRep_upd f1 hd10 hoi.1 (e k i)) (fun e' he' q hq => ?_), fun j hj => by rw [upd_ne (by omega)]; exact f2' j hj⟩
                unfold updF ptP
                by_cases z : e' = d ∧ q = atm n ord d i
                · rw [if_pos z, z.2, psm_atm hi, if_pos ⟨z.1, by omega⟩]
                · rw [if_neg z]
                  by_cases y : e' = d ∧ psm n ord d q < i
                  · rw [if_pos y, if_pos ⟨y.1, by omega⟩]
                  · rw [if_neg y, if_neg]
                    rintro ⟨y1, y2⟩
                    apply z
                    refine ⟨y1, ?_⟩
                    have : psm n ord d q = i := by omega
                    rw [← this, atm_psm (psm_mem (ord := ord) (by omega))]
            · have hn : nw k = false := by
                rcases hx6 with ⟨z, _⟩ | ⟨_, z⟩
                · rw [z] at w; exact absurd w (by decide)
                · exact z
              exact noNew hn (K2, E') ⟨f2, s2, c3, c4, hL2, en2⟩
          have bad1 : ∀ m, m < 1331 → ldM n ord (Gh H) d (k + 1) m → mdeg m ≠ d → dvm m (cdm d (atm n ord d k)) → nw k = false := by
            intro m hm m1 m2 m3
            cases z : nw k
            · rfl
            · rw [hnw] at z
              exact absurd ⟨m, hm, m1, m2, m3⟩ (hdv.mp z).2
          refine pk_loop (σ := Int32) (fun N2 i x6 => L_Mo_bases_74 (L_Mo_bases_30 post N) (L_Mo_bases_50 (L_Mo_bases_30 post N) post N') post N2 199 (nI most) xn (nI cur) (nI d) (nI k) x6 (nI i) (wI M K')) (fun i x6 => (x6 = 1 ∧ ∀ m, m < i → ¬ (ldM n ord (Gh H) d (k + 1) m ∧ mdeg m ≠ d ∧ dvm m (cdm d (atm n ord d k)))) ∨ (x6 = 0 ∧ nw k = false)) 1331 0 1 (by omega) (Or.inl ⟨rfl, fun m hm => absurd hm (Nat.not_lt_zero m)⟩) ?_ ?_
          · intro N2 x6 hx6
            show B_Mo_bases_74 _ _ (L_Mo_bases_74 _ _ post N2) post 199 _ _ _ _ _ _ _ _
            refine ⟨fun _ => h136 x6 ?_, fun q => absurd (by decide) q⟩
            rcases hx6 with ⟨z1, z2⟩ | z
            · refine Or.inl ⟨z1, ?_⟩
              rw [hnw]
              exact hdv.mpr ⟨hlead', fun ⟨m, m0, m1, m2, m3⟩ => z2 m m0 ⟨m1, m2, m3⟩⟩
            · exact Or.inr z
          · intro N2 i x6 hi hx6 ih2
            have hlm := c5 i hi
            have hmd : mdeg i ≤ 30 := by unfold mdeg; omega
            show B_Mo_bases_74 _ _ (L_Mo_bases_74 _ _ post N2) post 199 _ _ _ _ _ _ _ _
            unfold B_Mo_bases_74 B_Mo_bases_123 B_Mo_bases_128
            rw [nI_1]
            have next : (∀ m, m < i → ¬ (ldM n ord (Gh H) d (k + 1) m ∧ mdeg m ≠ d ∧ dvm m (cdm d (atm n ord d k)))) → ¬ (ldM n ord (Gh H) d (k + 1) i ∧ mdeg i ≠ d ∧ dvm i (cdm d (atm n ord d k))) → L_Mo_bases_74 (L_Mo_bases_30 post N) (L_Mo_bases_50 (L_Mo_bases_30 post N) post N') post N2 199 (nI most) xn (nI cur) (nI d) (nI k) 1 (nI (i + 1)) (wI M K') := fun z1 z2 => ih2 1 (Or.inl ⟨rfl, fun m hm => by
              by_cases y : m = i
              · rw [y]; exact z2
              · exact z1 m (by omega)⟩)
            refine ⟨fun q => ?_, fun _ => ⟨fun q => h136 x6 ?_, fun q => ?_⟩⟩
            · rw [show (1331 : Int32) = nI 1331 from rfl, nI_leI (by omega) (by omega)] at q; omega
            · rcases hx6 with ⟨z1, z2⟩ | z
              · rw [z1] at q; exact absurd q (by decide)
              · exact Or.inr z
            · rcases hx6 with ⟨z1, z2⟩ | ⟨z, _⟩
              · refine ⟨hk, 206, r13, arr_A a11 hi (by omega), ?_⟩
                rw [gI_wI, nI_clamp (by omega)]
                refine ⟨fun w => next z2 (fun y => ?_), fun w => ?_⟩
                · rw [hlm.1 y.1] at w; exact absurd w (by decide)
                · refine sp_ModegreeOf hi ⟨fun w2 => next z2 (fun y => y.2.1 ?_), fun w2 => ⟨hk, 201, r6, arr_A a6 (by omega) (by omega), hk, ?_⟩⟩
                  · rw [nI_eq (by omega) (by omega)] at w2; exact w2
                  · rw [gI_wI, nI_clamp (by omega), hlk]
                    have hld : ldM n ord (Gh H) d (k + 1) i := Classical.byContradiction (fun y => w (hlm.2 y))
                    have hne : mdeg i ≠ d := fun y => w2 (by rw [y])
                    exact sp_Modivides hM hi hcd.1 (fun y => ⟨fun _ => ih2 0 (Or.inr ⟨rfl, bad1 i hi hld hne y⟩), fun y2 => absurd y2 (by decide)⟩) (fun y => ⟨fun y2 => absurd rfl y2, fun _ => next z2 (fun v => y v.2.2)⟩)
              · exact absurd z q
        · -- it does not lead
          have hno : leadB (VV n ord d (VP n (Gh H) d)) k = false := by
            cases z : leadB (VV n ord d (VP n (Gh H) d)) k
            · rfl
            · rw [z] at q; exact absurd q (by decide)
          have hnl : ¬ lead (VV n ord d (VP n (Gh H) d)) k := fun z => by rw [leadB_iff.mpr z] at hno; exact absurd hno (by decide)
          have hn : nw k = false := by
            cases z : nw k
            · rfl
            · rw [hnw] at z
              exact absurd (isnew_iff.mp z).1 hnl
          refine noNew hn (K', E') ⟨c1, c2, c3, c4, fun m hm => ?_, c6⟩
          have hiff : ldM n ord (Gh H) d k m ↔ ldM n ord (Gh H) d (k + 1) m := by
            unfold ldM
            refine and_congr_right (fun z1 => and_congr_right (fun z2 => or_congr Iff.rfl (and_congr_right (fun z3 => ?_))))
            constructor
            · intro w
              have : psm n ord d (mmo m) ≠ k := fun e0 => by
                rw [z3, e0] at z2; exact hnl z2
              omega
            · intro w; omega
          rw [hiff]; exact c5 m hm
  · intro N i g hi hg ih
    show B_Mo_bases_5 (L_Mo_bases_5 post N) post 199 _ _ _ _ _
    unfold B_Mo_bases_5
    refine ⟨fun q => ?_, fun _ => ⟨hk, 206, r13, arr_A a11 hi (by omega), ?_⟩⟩
    · rw [show (1331 : Int32) = nI 1331 from rfl, nI_leI (by omega) (by omega)] at q; omega
    · rw [sI_wI, nI_clamp (by omega), u2_sAll, nar0, nI_1]
      refine ih _ (fun m hm => ?_)
      by_cases z : m = i
      · subst z; exact upd_eq _ _ _
      · rw [upd_ne z]; exact hg m (by omega)
theorem mo_base [NeZero p] {D : Nat → Mo2 → Fin p} {H O : Hp p} {C : Nat → Nat → Mo2 → Fin p} {x : Int32} {post : Int32 → Mem → Prop} (hM : MdOK M) (hW : WfA n ord D H O C) (hS : MSt n ord D H O C I) (h1 : ∀ d, 1 ≤ d → d ≤ 10 → x = nI d → ∀ I', MSt n ord D H O C I' → FM I I' → post (nI (szc n ord (Gh H) (d + 1))) (wI M I')) (h0 : (¬ ∃ d, 1 ≤ d ∧ d ≤ 10 ∧ x = nI d) → post (-1000000) (wI M I)) : T_Mo_base 199 x (wI M I) post := by
  have hk := hM.1
  have h66 := szc_le (G := Gh H) (fun d hd => hW.n66 (p := p) hd)
  unfold T_Mo_base B_Mo_base_21
  refine sp_in3 (a := 1) (b := 11) (by omega) (by omega) (by decide) (fun d d1 d2 e => ⟨fun q => absurd q (by decide), fun _ => ⟨hk, ?_⟩⟩) (fun hne => ⟨fun _ => h0 (fun ⟨d, w1, w2, w3⟩ => hne ⟨d, by omega, by omega, w3⟩), fun q => absurd rfl q⟩)
  subst e
  have := h66 (d + 1) (by omega)
  refine sp_Mobases hM hW hS (by omega) (fun E J hD hSJ hFJ => ?_)
  rcases hD with ⟨rfl, _⟩ | ⟨k, _, _, _, k1, k2, _⟩
  · exact h1 d d1 (by omega) rfl J hSJ hFJ
  · exfalso
    have : (-1 : Int32).toInt = (nI k).toInt := by rw [k2]
    rw [nI_toInt (by omega), show (-1 : Int32).toInt = -1 by decide] at this; omega
theorem mo_element [NeZero p] {D : Nat → Mo2 → Fin p} {H O : Hp p} {C : Nat → Nat → Mo2 → Fin p} {x : Int32} {post : Int32 → Mem → Prop} (hM : MdOK M) (hW : WfA n ord D H O C) (hS : MSt n ord D H O C I) (h1 : ∀ k e i f, k < szc n ord (Gh H) 11 → x = nI k → e ≤ 10 → i < nM n ord e → isnew n ord (Gh H) e i = true → k = eix n ord (Gh H) (szc n ord (Gh H)) e i → isRed n ord (Gh H) e i f → hom n e f → ∀ I', MSt n ord (oneP e f) H O C I' → FM I I' → post (nI (szP (oneP e f))) (wI M I')) (h0 : (¬ ∃ k, k < szc n ord (Gh H) 11 ∧ x = nI k) → ∀ I', MSt n ord D H O C I' → FM I I' → post (-1000000) (wI M I')) : T_Mo_element 199 x (wI M I) post := by
  have hk := hM.1
  have hp := prm_lt hW.1.2.2
  have h66 := szc_le (G := Gh H) (fun d hd => hW.n66 (p := p) hd) 11 (by omega)
  have h66' : szc n ord (Gh H) (10 + 1) ≤ 66 * 11 := h66
  unfold T_Mo_element B_Mo_element_15
  refine ⟨fun q => h0 (fun ⟨k, z1, z2⟩ => ?_) I hS (fun _ _ => rfl), fun q => ⟨hk, sp_Mobases (most := 10) hM hW hS (by omega) (fun E J hD hSJ hFJ => ?_)⟩⟩
  · rw [z2] at q; exact absurd q (nI_nlt0 (by omega))
  rcases hD with ⟨rfl, _⟩ | ⟨k, _, _, _, k1, k2, _⟩
  · refine ⟨fun q2 => ⟨hk, ?_⟩, fun q2 => h0 (fun ⟨k, z1, z2⟩ => q2 ?_) J hSJ hFJ⟩
    · refine sp_Mobases (most := 10) hM hW hSJ (by omega) (fun E2 J2 hD2 hSJ2 hFJ2 => ⟨hk, ?_⟩)
      rcases hD2 with ⟨_, z⟩ | ⟨k, e, i, f, k1, k2, k3, k4, k5, k6, k7, k8, k9⟩
      · exfalso
        obtain ⟨j, hj, hx⟩ := nI_of q
        rw [hx, nI_ltI (by omega) (by omega)] at q2
        exact z j q2 hx
      · subst k9
        exact sp_Moproducts (k := 0) hM (by omega) hp.2 hSJ2.2.1 (h1 k e i f k1 k2 k3 k4 k5 k6 k7 k8 J2 hSJ2 (hFJ.tr hFJ2))
    · rw [z2]; exact (nI_ltI (by omega) (by omega)).mpr z1
  · exfalso
    have : (-1 : Int32).toInt = (nI k).toInt := by rw [k2]
    rw [nI_toInt (by omega), show (-1 : Int32).toInt = -1 by decide] at this; omega
end MO15
