theorem PrSt_kp {n ord : Nat} {I I' : Nat → Nat → Int32} (h : ∀ c, c < 8 → I' c = I c) (hS : PrSt n ord I) : PrSt n ord I' := by
  obtain ⟨h1, h2, h3, h4⟩ := hS
  refine ⟨h1, fun q hq => ?_, ?_, fun d hd => ?_⟩
  · rw [h 2 (by decide), h 3 (by decide)]; exact h2 q hq
  · rw [h 1 (by decide)]; exact h3
  · unfold PrL; rw [h 5 (by decide), h 4 (by decide)]; exact h4 d hd
theorem NuSt_kp {p : Nat} {I I' : Nat → Nat → Int32} (h : ∀ c, c < 8 → I' c = I c) (hS : NuSt p I) : NuSt p I' := by
  unfold NuSt; rw [h 6 (by decide), h 7 (by decide)]; exact hS
theorem kp_sAll {I : Nat → Nat → Int32} {a : Nat} {f : Nat → Int32} (h : 8 ≤ a) : ∀ c, c < 8 → sAll I a f c = I c := fun c hc => sAll_ne (by omega)
theorem kp_u2 {I : Nat → Nat → Int32} {a k : Nat} {v : Int32} (h : 8 ≤ a) : ∀ c, c < 8 → u2 I a k v c = I c := fun c hc => by unfold u2; rw [if_neg (by omega)]
section PO3
variable {M : Mem} {I : Nat → Nat → Int32} {n ord a : Nat}
theorem sp_movePartUp {p : Nat} [NeZero p] {F : Nat → Mo2 → Fin p} {fm to : Nat} {c : Mo2} {post : Mem → Prop} (hP : PrOK M) (hS : PrSt n ord I) (ha : 8 ≤ a) (hM : PoOK M a) (hR : Rep (I (a + 1)) F) (hh : hom n fm (F fm)) (hlt : fm < to) (hto : to ≤ 10) (hc : okm n (to - fm) c) (hz : ∀ m, F to m = 0) (h : ∀ f, Rep f (fun e m => if e = to then mulm c (F fm) m else F e m) → post (wI M (sAll I (a + 1) f))) : T_Po_movePartUp a (nI fm) (nI to) (nI (pl c)) (wI M I) post := by
  have hb := nM_b hS (show fm ≤ 10 by omega)
  have hc1 := hc.1
  have key : ∀ r i f, i + r = nM n ord fm → Rep f (fun e m => if e = to then (if c.1 ≤ m.1 ∧ c.2 ≤ m.2 ∧ psm n ord fm (m.1 - c.1, m.2 - c.2) < i then F fm (m.1 - c.1, m.2 - c.2) else 0) else F e m) → L_Po_movePartUp_3 post (r + 1) a (nI fm) (nI to) (nI (pl c)) (nI i) (wI M (sAll I (a + 1) f)) := by
    intro r
    induction r with
    | zero =>
      intro i f hi hf
      have hS' := PrSt_kp (kp_sAll (I := I) (a := a + 1) (f := f) (by omega)) hS
      show B_Po_movePartUp_3 _ post a (nI fm) (nI to) (nI (pl c)) (nI i) _
      unfold B_Po_movePartUp_3
      refine ⟨hM.1.1, 1, hM.1.2, hP.1.1, sp_amount hP hS' (by omega) ⟨fun _ => h f (Rep_cong hf (fun e he m hm => ?_)), fun q => absurd ?_ q⟩⟩
      · by_cases q : e = to
        · simp only [if_pos q]
          unfold mulm
          by_cases w : c.1 ≤ m.1 ∧ c.2 ≤ m.2
          · rw [if_pos w]
            by_cases z : F fm (m.1 - c.1, m.2 - c.2) = 0
            · rw [z]; split <;> rfl
            · rw [if_pos ⟨w.1, w.2, by have := psm_lt (ord := ord) (hh _ z); omega⟩]
          · rw [if_neg w, if_neg (fun z => w ⟨z.1, z.2.1⟩)]
        · simp only [if_neg q]
      · rw [nI_leI (by omega) (by omega)]; omega
    | succ r ih =>
      intro i f hi hf
      have hiN : i < nM n ord fm := by omega
      have hok := atm_ok hiN
      have hok1 := hok.1
      have hS' := PrSt_kp (kp_sAll (I := I) (a := a + 1) (f := f) (by omega)) hS
      show B_Po_movePartUp_3 (L_Po_movePartUp_3 post (r + 1)) post a (nI fm) (nI to) (nI (pl c)) (nI i) _
      unfold B_Po_movePartUp_3
      refine ⟨hM.1.1, 1, hM.1.2, hP.1.1, sp_amount hP hS' (by omega) ⟨fun q => ?_, fun _ => ⟨hM.1.1, 1, hM.1.2, hP.1.1, sp_at hP hS' (by omega) hiN ⟨hM.1.1, 1, hM.1.2, hP.1.1, sp_together hP hS' (by omega) (by omega) ⟨hM.1.1, sp_numberAt hM (by omega) hok1 ⟨hM.1.1, sp_setNumber hM hto (by simp only; omega) ?_⟩⟩⟩⟩⟩⟩
      · rw [nI_leI (by omega) (by omega)] at q; omega
      · rw [sAll_eq, hf fm (by omega) _ hok1]
        simp only [if_neg (show ¬ fm = to by omega)]
        rw [u2_sAll, nI_1]
        refine ih (i + 1) _ (by omega) (Rep_cong (Rep_upd hf hto (by simp only; omega) _) (fun e he m hm => ?_))
        unfold updF
        by_cases q : e = to
        · subst q
          by_cases w : m = ((atm n ord fm i).1 + c.1, (atm n ord fm i).2 + c.2)
          · have e1 : ((m.1 - c.1, m.2 - c.2) : Mo2) = atm n ord fm i := by
              rw [w]
              apply Prod.ext <;> simp only <;> omega
            rw [if_pos ⟨rfl, w⟩]
            simp only [if_true]
            rw [if_pos ⟨by rw [w]; simp only; omega, by rw [w]; simp only; omega, by rw [e1, psm_atm hiN]; omega⟩, e1]
          · rw [if_neg (fun z => w z.2)]
            simp only [if_true]
            by_cases u : c.1 ≤ m.1 ∧ c.2 ≤ m.2
            · have hne : psm n ord fm (m.1 - c.1, m.2 - c.2) ≠ i ∨ F fm (m.1 - c.1, m.2 - c.2) = 0 := by
                by_cases z : F fm (m.1 - c.1, m.2 - c.2) = 0
                · exact Or.inr z
                · left
                  intro e2
                  apply w
                  have e3 := atm_psm (ord := ord) (hh _ z)
                  rw [e2] at e3
                  rw [e3]
                  apply Prod.ext <;> simp only <;> omega
              rcases hne with hne | hne
              · by_cases v : psm n ord fm (m.1 - c.1, m.2 - c.2) < i
                · rw [if_pos ⟨u.1, u.2, v⟩, if_pos ⟨u.1, u.2, by omega⟩]
                · rw [if_neg (fun z => v z.2.2), if_neg (fun z => v (by omega))]
              · rw [hne]; split <;> split <;> rfl
            · rw [if_neg (fun z => u ⟨z.1, z.2.1⟩), if_neg (fun z => u ⟨z.1, z.2.1⟩)]
        · rw [if_neg (fun z => q z.1)]
          simp only [if_neg q]
  have := key (nM n ord fm) 0 (I (a + 1)) (by omega) (Rep_cong hR (fun e he m hm => by
    by_cases q : e = to
    · rw [if_pos q, if_neg (by omega), q]; exact hz m
    · rw [if_neg q]))
  rw [sAll_self] at this
  exact ⟨_, this⟩
/-- times a product of degree k -/
def upF {p : Nat} [NeZero p] (k : Nat) (c : Mo2) (F : Nat → Mo2 → Fin p) : Nat → Mo2 → Fin p := fun d => if k ≤ d then mulm c (F (d - k)) else fun _ => 0
theorem sp_moveUp {p : Nat} [NeZero p] {F : Nat → Mo2 → Fin p} {k : Nat} {c : Mo2} {post : Mem → Prop} (hP : PrOK M) (hS : PrSt n ord I) (ha : 8 ≤ a) (hM : PoOK M a) (hR : Rep (I (a + 1)) F) (hh : ∀ d, d ≤ 10 → hom n d (F d)) (hk : k ≤ 10) (hc : okm n k c) (h : ∀ f, Rep f (upF k c F) → post (wI M (sAll I (a + 1) f))) : T_Po_moveUp a (nI k) (nI (pl c)) (wI M I) post := by
  by_cases hk0 : k = 0
  · subst hk0
    have hc0 : c = (0, 0) := by
      have := hc.1
      apply Prod.ext <;> simp only <;> omega
    have := h (I (a + 1)) (Rep_cong hR (fun d hd m hm => by unfold upF; rw [if_pos (Nat.zero_le d), hc0, mulm_0]; rfl))
    rw [sAll_self] at this
    refine ⟨1, ?_⟩
    show B_Po_moveUp_3 _ post a (nI 0) (nI (pl c)) 10 _
    unfold B_Po_moveUp_3 B_Po_moveUp_51
    exact ⟨fun _ => this, fun q => absurd (by decide) q⟩
  · -- after the degrees from e on
    have key : ∀ e f, e ≤ 11 → Rep f (fun d m => if e ≤ d then upF k c F d m else F d m) → L_Po_moveUp_3 post (e + 1) a (nI k) (nI (pl c)) (nI e - 1) (wI M (sAll I (a + 1) f)) := by
      intro e
      induction e with
      | zero =>
        intro f _ hf
        show B_Po_moveUp_3 _ post a (nI k) (nI (pl c)) (nI 0 - 1) _
        unfold B_Po_moveUp_3 B_Po_moveUp_51
        refine ⟨fun _ => h f (Rep_cong hf (fun d hd m hm => by rw [if_pos (Nat.zero_le d)])), fun _ => ⟨fun _ => h f (Rep_cong hf (fun d hd m hm => by rw [if_pos (Nat.zero_le d)])), fun q => absurd (by decide) q⟩⟩
      | succ e ih =>
        intro f he hf
        have he10 : e ≤ 10 := by omega
        have h2 := fr_le e (by omega)
        show B_Po_moveUp_3 (L_Po_moveUp_3 post (e + 1)) post a (nI k) (nI (pl c)) (nI (e + 1) - 1) _
        rw [nI_pred]
        unfold B_Po_moveUp_3 B_Po_moveUp_51 B_Po_moveUp_45
        refine ⟨fun q => ?_, fun _ => ⟨fun q => absurd q (nI_pos (by omega)), fun _ => ⟨hM.1.1, a + 1, hM.2.1, (in_nI (by omega) (by omega)).mpr (by omega), by rw [nI_1]; exact (in_nI (by omega) (by omega)).mpr (by omega), ?_⟩⟩⟩
        · rw [show (0 : Int32) = nI 0 from rfl, nI_leI (by omega) (by omega)] at q; omega
        · rw [nI_1, nI_clamp (show e < 2147483648 by omega), nI_clamp (show e + 1 < 2147483648 by omega), fst_fr e (by omega), fst_fr (e + 1) (by omega)]
          refine sp_fill4 hM.2.2 (by omega) h2.1 h2.2 ?_
          rw [sAll_sAll, sAll_eq]
          -- part e is 0 now
          have hf0 : Rep (fun j => if fr e ≤ j ∧ j < fr (e + 1) then 0 else f j) (fun d m => if d = e then 0 else (if e + 1 ≤ d then upF k c F d m else F d m)) := by
            intro d hd m hm
            have hpd := pl_deg hd hm
            by_cases q : d = e
            · subst q
              simp only [if_true]
              rw [if_pos (by omega)]
              show (0 : Int32) = nI ((0 : Fin p).val)
              rw [show (0 : Fin p).val = 0 from Nat.zero_mod p]; rfl
            · simp only [if_neg q]
              rw [if_neg]
              · exact hf d hd m hm
              · intro z
                rcases Nat.lt_or_ge d e with u | u
                · have := fr_mono e (by omega) d u; omega
                · have := fr_mono d (by omega) e (by omega); omega
          refine ⟨fun q => ?_, fun q => ⟨hM.1.1, ?_⟩⟩
          · rw [nI_ltI (by omega) (by omega)] at q
            rw [m1_eq]
            refine ih _ (by omega) (Rep_cong hf0 (fun d hd m hm => ?_))
            by_cases z : d = e
            · subst z
              simp only [if_true]
              rw [if_pos (Nat.le_refl _)]
              unfold upF; rw [if_neg (by omega)]
            · simp only [if_neg z]
              by_cases u : e + 1 ≤ d
              · rw [if_pos u, if_pos (by omega)]
              · rw [if_neg u, if_neg (by omega)]
          · rw [nI_ltI (by omega) (by omega)] at q
            rw [pk_sub (show k ≤ e by omega)]
            have hS' := PrSt_kp (kp_sAll (I := I) (a := a + 1) (f := fun j => if fr e ≤ j ∧ j < fr (e + 1) then 0 else f j) (by omega)) hS
            have hF1 : (fun m => if e - k = e then (0 : Fin p) else (if e + 1 ≤ e - k then upF k c F (e - k) m else F (e - k) m)) = F (e - k) := by
              funext m
              simp only [if_neg (show ¬ e - k = e by omega), if_neg (show ¬ e + 1 ≤ e - k by omega)]
            refine sp_movePartUp (F := fun d m => if d = e then (0 : Fin p) else (if e + 1 ≤ d then upF k c F d m else F d m)) hP hS' ha hM (by rw [sAll_eq]; exact hf0) (by rw [hF1]; exact hh _ (by omega)) (by omega) he10 (by rw [show e - (e - k) = k by omega]; exact hc) (fun m => by simp only [if_true]) (fun g hg => ?_)
            rw [sAll_sAll, m1_eq]
            refine ih _ (by omega) (Rep_cong hg (fun d hd m hm => ?_))
            by_cases z : d = e
            · subst z
              simp only [if_true]
              rw [hF1, if_pos (Nat.le_refl _)]
              unfold upF; rw [if_pos (by omega)]
            · simp only [if_neg z]
              by_cases u : e + 1 ≤ d
              · rw [if_pos u, if_pos (by omega)]
              · rw [if_neg u, if_neg (by omega)]
    have := key 11 (I (a + 1)) (Nat.le_refl _) (Rep_cong hR (fun d hd m hm => by rw [if_neg (by omega)]))
    rw [sAll_self] at this
    exact ⟨_, this⟩
end PO3
