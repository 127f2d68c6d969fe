/-! the reference: dimension, parts -/
theorem EnS.rank {p : Nat} [NeZero p] {n ord d : Nat} {S : (Nat → Fin p) → Prop} {I : Nat → Nat → Int32} (h1p : (1 : Fin p) ≠ 0) (h : EnS n ord d S I) : I 199 12 = nI (dm (nM n ord d) (Spn S)) := by
  obtain ⟨e, hE⟩ := h.st h1p
  exact hE.2.2.1
theorem vdm_RS {p : Nat} [NeZero p] {n ord d : Nat} {G : Nat → (Mo2 → Fin p) → Prop} : vdm n ord G d = dm (nM n ord d) (Spn (RS n ord d G)) := by unfold vdm; rw [VV_spn]
theorem RS_or {p : Nat} [NeZero p] {n ord d : Nat} {G1 G2 : Nat → (Mo2 → Fin p) → Prop} (s : Nat → Fin p) : (RS n ord d G1 s ∨ RS n ord d G2 s) ↔ RS n ord d (fun e g => G1 e g ∨ G2 e g) s := by
  constructor
  · rintro (⟨e, g, c, h1, h2⟩ | ⟨e, g, c, h1, h2⟩)
    · exact ⟨e, g, c, Or.inl h1, h2⟩
    · exact ⟨e, g, c, Or.inr h1, h2⟩
  · rintro ⟨e, g, c, h1 | h1, h2⟩
    · exact Or.inl ⟨e, g, c, h1, h2⟩
    · exact Or.inr ⟨e, g, c, h1, h2⟩
theorem dg1_0 {p : Nat} [NeZero p] {F : Nat → Mo2 → Fin p} (h : ∀ d m, F d m = 0) : dg1 F = 0 := by
  rcases Nat.eq_zero_or_pos (dg1 F) with z | z
  · exact z
  · obtain ⟨t, ht⟩ : ∃ t, dg1 F = t + 1 := ⟨dg1 F - 1, by omega⟩
    obtain ⟨m, hm⟩ := D_top ht
    exact absurd (h t m) hm
/-- products of rows, those so far -/
def PS {p : Nat} [NeZero p] (n ord d : Nat) (H O : Hp p) (r s : Nat) : (Nat → Fin p) → Prop := fun v => ∃ a b, (a < r ∨ (a = r ∧ b < s)) ∧ a < H.1 ∧ b < O.1 ∧ H.2.1 a + O.2.1 b ≤ d ∧ ∃ c, okm n (d - (H.2.1 a + O.2.1 b)) c ∧ v = vec n ord d (mulm c (prodm n ord (H.2.1 a) (H.2.2 a) (O.2.2 b)))
/-- what dimension answers -/
def dimV {p : Nat} [NeZero p] (n ord : Nat) (H O : Hp p) (w d : Nat) (v : Int32) : Prop := (w = 0 ∧ v = nI (vdm n ord (Gh H) d)) ∨ (w = 1 ∧ v = nI (vdm n ord (Gh O) d)) ∨ (w = 2 ∧ v = nI (vdm n ord (Gsum H O) d)) ∨ (w = 3 ∧ v = nI (vdm n ord (Gh H) d) + nI (vdm n ord (Gh O) d) - nI (vdm n ord (Gsum H O) d)) ∨ (w = 4 ∧ v = nI (vdm n ord (Gprd n ord H O) d))
section MO12
variable {M : Mem} {I : Nat → Nat → Int32} {n ord p d : Nat}
theorem sp_MobeginS [NeZero p] {D : Nat → Mo2 → Fin p} {H O : Hp p} {C : Nat → Nat → Mo2 → Fin p} {post : Mem → Prop} (hM : MdOK M) (hW : WfA n ord D H O C) (hS : MSt n ord D H O C I) (hd : d ≤ 10) (h : ∀ I', EnS (p := p) n ord d (fun _ => False) I' → EnF I I' → post (wI M I')) : T_Mo_begin 199 (nI d) (wI M I) post := by
  have hF := prm_field hW.1.2.2
  refine sp_Mobegin (p := p) hM hS.1.1 hW.1.1.2 hS.1.2.2.1 hW.1.2.1 hF.1 hd (fun J hE hJ => h J ⟨_, _, _, hE, fun u => ⟨fun hu => ?_, fun hu => ?_⟩⟩ hJ)
  · have : u = fun _ => 0 := funext hu
    rw [this]; exact (Spn_sub _).1
  · exact Spn_le (V := fun v => ∀ i, v i = 0) hE.2.1.1 (fun s hs => absurd hs id) u hu
theorem sp_ModimOf [NeZero p] {D : Nat → Mo2 → Fin p} {H O : Hp p} {C : Nat → Nat → Mo2 → Fin p} {w : Nat} {post : Int32 → Mem → Prop} (hM : MdOK M) (hW : WfA n ord D H O C) (hS : MSt n ord D H O C I) (hd : d ≤ 10) (hw : w ≤ 4) (h : ∀ I' v, dimV n ord H O w d v → MSt n ord D H O C I' → FM I I' → post v (wI M I')) : T_Mo_dimensionOf 199 (nI w) (nI d) (wI M I) post := by
  have hk := hM.1
  have hp := prm_lt hW.1.2.2
  have hF := prm_field hW.1.2.2
  have hH := hW.2.2.1.1
  have hO := hW.2.2.2.1.1
  have hn3 := hW.1.1.2
  unfold T_Mo_dimensionOf
  refine ⟨hk, sp_MobeginS hM hW hS hd (fun J hE hJ => ?_)⟩
  have hSJ := MSt_en hW hJ hS
  have fin : ∀ K, w ≠ 3 → w ≠ 4 → (∀ v, K 199 12 = v → dimV n ord H O w d v) → MSt n ord D H O C K → FM I K → B_Mo_dimensionOf_34 post 199 (nI w) (nI d) (wI M K) := by
    intro K w3 w4 hv hSK hFK
    unfold B_Mo_dimensionOf_34
    refine ⟨fun _ => ⟨1, ?_⟩, fun q => ?_⟩
    · show B_Mo_dimensionOf_47 _ post 199 _ _ _ _
      unfold B_Mo_dimensionOf_47 B_Mo_dimensionOf_115
      refine ⟨hk, fun _ => ⟨hk, h K _ (hv _ rfl) hSK hFK⟩, fun _ => ⟨fun _ => ⟨hk, h K _ (hv _ rfl) hSK hFK⟩, fun q => ?_⟩⟩
      rw [show (4 : Int32) = nI 4 from rfl, nI_eq (by omega) (by omega)] at q; omega
    · rw [show (3 : Int32) = nI 3 from rfl, nI_eq (by omega) (by omega)] at q; omega
  rcases (show w = 0 ∨ w = 1 ∨ w = 2 ∨ w = 3 ∨ w = 4 by omega) with rfl | rfl | rfl | rfl | rfl
  · refine ⟨fun _ => ⟨hk, sp_Moheap hM hW hSJ hd (fun K kE kF => ?_)⟩, fun q => absurd rfl q⟩
    unfold B_Mo_dimensionOf_19
    refine ⟨fun q => absurd q (by decide), fun _ => ⟨fun _ => fin K (by omega) (by omega) (fun v e => Or.inl ⟨rfl, ?_⟩) (MSt_en hW kF hSJ) (hJ.fm.tr kF.fm), fun q => absurd q (by decide)⟩⟩
    rw [← e, kE.rank hF.1, vdm_RS]
  · refine ⟨fun q => absurd q (by decide), fun _ => ⟨fun _ => ?_, fun q => absurd q (by decide)⟩⟩
    unfold B_Mo_dimensionOf_19 B_Mo_dimensionOf_29
    refine ⟨fun _ => ⟨hk, sp_MoaddOther hM hW hSJ hd hE (fun K kE kF => fin K (by omega) (by omega) (fun v e => Or.inr (Or.inl ⟨rfl, ?_⟩)) (MSt_en hW kF hSJ) (hJ.fm.tr kF.fm))⟩, fun q => absurd rfl q⟩
    have kE2 : EnS n ord d (RS n ord d (Gh O)) K := EnS_iff (fun s => ⟨fun z => z.elim (fun z => absurd z id) id, Or.inr⟩) kE
    rw [← e, kE2.rank hF.1, vdm_RS]
  · refine ⟨fun q => absurd q (by decide), fun _ => ⟨fun q => absurd rfl q, fun _ => ⟨hk, sp_Moheap hM hW hSJ hd (fun K kE kF => ?_)⟩⟩⟩
    have hSK := MSt_en hW kF hSJ
    unfold B_Mo_dimensionOf_19 B_Mo_dimensionOf_29
    refine ⟨fun q => absurd q (by decide), fun _ => ⟨fun q => absurd rfl q, fun _ => ⟨hk, sp_MoaddOther hM hW hSK hd kE (fun K2 kE2 kF2 => fin K2 (by omega) (by omega) (fun v e => Or.inr (Or.inr (Or.inl ⟨rfl, ?_⟩))) (MSt_en hW kF2 hSK) ((hJ.fm.tr kF.fm).tr kF2.fm))⟩⟩⟩
    have kE3 : EnS n ord d (RS n ord d (Gsum H O)) K2 := EnS_iff (fun s => RS_or s) kE2
    rw [← e, kE3.rank hF.1, vdm_RS]
  · refine ⟨fun q => absurd q (by decide), fun _ => ⟨fun _ => ?_, fun q => absurd q (by decide)⟩⟩
    unfold B_Mo_dimensionOf_19 B_Mo_dimensionOf_34 T_Mo_dimensionOf3
    refine ⟨fun q => absurd q (by decide), fun _ => ⟨fun _ => ⟨fun q => absurd rfl q, fun _ => ⟨hk, hk, ?_⟩⟩, fun q => absurd q (by decide)⟩⟩
    refine sp_Moheap hM hW hSJ hd (fun K kE kF => ⟨hk, hk, ?_⟩)
    have hSK := MSt_en hW kF hSJ
    refine sp_MoaddOther hM hW hSK hd kE (fun K2 kE2 kF2 => ⟨hk, hk, ?_⟩)
    have hSK2 := MSt_en hW kF2 hSK
    refine sp_MobeginS hM hW hSK2 hd (fun K3 kE3 kF3 => ⟨hk, ?_⟩)
    have hSK3 := MSt_en hW kF3 hSK2
    refine sp_MoaddOther hM hW hSK3 hd kE3 (fun K4 kE4 kF4 => ⟨hk, ?_⟩)
    have e2 : EnS n ord d (RS n ord d (Gsum H O)) K2 := EnS_iff (fun s => RS_or s) kE2
    have e4 : EnS n ord d (RS n ord d (Gh O)) K4 := EnS_iff (fun s => ⟨fun z => z.elim (fun z => absurd z id) id, Or.inr⟩) kE4
    rw [gI_wI, gI_wI, gI_wI, kE.rank hF.1, e2.rank hF.1, e4.rank hF.1, ← vdm_RS, ← vdm_RS, ← vdm_RS]
    exact h K4 _ (Or.inr (Or.inr (Or.inr (Or.inl ⟨rfl, rfl⟩)))) (MSt_en hW kF4 hSK3) ((((hJ.fm.tr kF.fm).tr kF2.fm).tr kF3.fm).tr kF4.fm)
  · refine ⟨fun q => absurd q (by decide), fun _ => ⟨fun _ => ?_, fun q => absurd q (by decide)⟩⟩
    unfold B_Mo_dimensionOf_19 B_Mo_dimensionOf_34
    refine ⟨fun q => absurd q (by decide), fun _ => ⟨fun _ => ⟨fun _ => ?_, fun q => absurd q (by decide)⟩, fun q => absurd q (by decide)⟩⟩
    refine pk_loop (σ := Nat → Nat → Int32) (fun N r K => L_Mo_dimensionOf_47 post N 199 (nI 4) (nI d) (nI r) (wI M K)) (fun r K => FM I K ∧ MSt n ord D H O C K ∧ EnS n ord d (PS n ord d H O r 0) K) H.1 0 J (by omega) ⟨hJ.fm, hSJ, EnS_iff (fun s => ⟨fun z => absurd z id, fun ⟨a, b, z, _⟩ => by omega⟩) hE⟩ ?_ ?_
    · intro N K ⟨k1, k2, k3⟩
      show B_Mo_dimensionOf_47 (L_Mo_dimensionOf_47 post N) post 199 _ _ _ _
      unfold B_Mo_dimensionOf_47 B_Mo_dimensionOf_115
      rw [gI_wI, gI_wI, k2.1.2.2.2.1]
      refine ⟨hk, fun _ => ⟨hk, h K _ (Or.inr (Or.inr (Or.inr (Or.inr ⟨rfl, ?_⟩)))) k2 k1⟩, fun q => absurd (Int32.le_refl _) q⟩
      have k4 : EnS n ord d (RS n ord d (Gprd n ord H O)) K := EnS_iff (fun s => ?_) k3
      · rw [k4.rank hF.1, vdm_RS]
      · constructor
        · rintro ⟨a, b, _, z1, z2, z3, c, z4, z5⟩
          exact ⟨_, _, c, ⟨a, b, z1, z2, rfl, rfl⟩, z3, z4, z5⟩
        · rintro ⟨e, g, c, ⟨a, b, z1, z2, rfl, rfl⟩, z3, z4, z5⟩
          exact ⟨a, b, Or.inl z1, z1, z2, z3, c, z4, z5⟩
    · intro N r K hr ⟨k1, k2, k3⟩ ih
      show B_Mo_dimensionOf_47 (L_Mo_dimensionOf_47 post N) post 199 _ _ _ _
      unfold B_Mo_dimensionOf_47
      rw [gI_wI, k2.1.2.2.2.1, nI_leI (by omega) (by omega)]
      refine ⟨hk, fun q => absurd q (by omega), fun _ => ⟨fun q => absurd rfl q, fun _ => ?_⟩⟩
      refine pk_loop (σ := Nat → Nat → Int32) (fun N' s K' => L_Mo_dimensionOf_63 (L_Mo_dimensionOf_47 post N) post N' 199 (nI 4) (nI d) (nI r) (nI s) (wI M K')) (fun s K' => FM I K' ∧ MSt n ord D H O C K' ∧ EnS n ord d (PS n ord d H O r s) K') O.1 0 K (by omega) ⟨k1, k2, k3⟩ ?_ ?_
      · intro N' K' ⟨k1, k2, k3⟩
        show B_Mo_dimensionOf_63 _ (L_Mo_dimensionOf_63 _ post N') post 199 _ _ _ _ _
        unfold B_Mo_dimensionOf_63
        rw [gI_wI, k2.1.2.2.2.2, nI_1]
        refine ⟨hk, fun _ => ih K' ⟨k1, k2, EnS_iff (fun s => ?_) k3⟩, fun q => absurd (Int32.le_refl _) q⟩
        constructor
        · rintro ⟨a, b, z0, z1, z2, z3⟩
          exact ⟨a, b, by omega, z1, z2, z3⟩
        · rintro ⟨a, b, z0, z1, z2, z3⟩
          exact ⟨a, b, by omega, z1, z2, z3⟩
      · intro N' s K' hs ⟨k1, k2, k3⟩ ih'
        obtain ⟨a1, a2, a3⟩ := hW.2.2.1.2 r hr
        obtain ⟨b1, b2, b3⟩ := hW.2.2.2.1.2 s hs
        have hpm := prodm_hom (ord := ord) (a := H.2.1 r) (f := H.2.2 r) b2
        show B_Mo_dimensionOf_63 _ (L_Mo_dimensionOf_63 _ post N') post 199 _ _ _ _ _
        unfold B_Mo_dimensionOf_63 B_Mo_dimensionOf_103
        rw [gI_wI, k2.1.2.2.2.2, nI_leI (by omega) (by omega), show (1 : Int32) + nI r = nI (1 + r) from nI_add 1 r, show (13 : Int32) + nI s = nI (13 + s) from nI_add 13 s, nI_1 s]
        refine ⟨hk, fun q => absurd q (by omega), fun _ => ⟨hk, ?_⟩⟩
        refine sp_Momultiply (ord := ord) (F := oneP (H.2.1 r) (H.2.2 r)) hM k2.1.2.1 hp (by omega) (by omega) (k2.2.2.1 r hr) (k2.2.2.2.2 s hs) (oneP_hom a2) (by omega) b2 (fun e he hlt m => by unfold oneP; rw [if_neg (by omega)]) (fun f f1 f2 => ⟨hk, ?_⟩)
        rw [mulP_one] at f1
        have hS2 : MSt n ord D H O C (sAll K' 200 f) := MSt_kp hH hO (fun k _ => by rw [sAll_ne (by omega)]) (fun j hj => by rw [sAll_eq]; exact f2 j hj) k2
        have hF2 : FM I (sAll K' 200 f) := k1.tr (FM_s (by omega))
        have hE2 : EnS n ord d (PS n ord d H O r s) (sAll K' 200 f) := EnS_kp (fun c hc => sAll_ne (by omega)) k3
        refine sp_Modegree (k := 19) hM (by omega) hp.2 (oneP_hom hpm) (by rw [sAll_eq]; exact f1) ?_
        by_cases nz : ∃ m, prodm n ord (H.2.1 r) (H.2.2 r) (O.2.2 s) m ≠ 0
        · have hdr := dg1_one (show H.2.1 r + O.2.1 s ≤ 10 by omega) hpm nz
          rw [hdr, nI_pred, nI_ltI (by omega) (by omega)]
          refine ⟨fun q => ih' _ ⟨hF2, hS2, EnS_iff (fun v => ?_) hE2⟩, fun q => ⟨hk, ?_⟩⟩
          · constructor
            · rintro ⟨a, b, z0, z1⟩
              exact ⟨a, b, by omega, z1⟩
            · rintro ⟨a, b, z0, z1, z2, z3, z4⟩
              refine ⟨a, b, ?_, z1, z2, z3, z4⟩
              by_cases y : a = r ∧ b = s
              · rw [y.1, y.2] at z3; omega
              · omega
          · refine sp_Mospread (k := 19) (up := d - (H.2.1 r + O.2.1 s)) hM hS2.1.1 hn3 hS2.1.2.1 hW.1.2.2 hd (hW.n66 hd) (by omega) (by rw [sAll_eq]; exact f1) (oneP_hom hpm) (by rw [hdr, nI_pred, pk_sub (by omega)]) (by omega) (fun _ => by omega) (fun m hm hc => by rw [cf_one_deg hc]; omega) hE2 (fun K2 e1 e2 => ih' K2 ⟨hF2.tr e2.fm, MSt_en hW e2 hS2, EnS_iff (fun v => ?_) e1⟩)
            constructor
            · rintro (⟨a, b, z0, z1⟩ | ⟨c, _, z1, z2⟩)
              · exact ⟨a, b, by omega, z1⟩
              · rw [upF_one (by omega)] at z2
                exact ⟨r, s, by omega, hr, hs, by omega, c, z1, z2⟩
            · rintro ⟨a, b, z0, z1, z2, z3, c, z4, z5⟩
              by_cases y : a = r ∧ b = s
              · rw [y.1, y.2] at z4 z5
                exact Or.inr ⟨c, by omega, z4, by rw [upF_one (by omega)]; exact z5⟩
              · exact Or.inl ⟨a, b, by omega, z1, z2, z3, c, z4, z5⟩
        · have hz : prodm n ord (H.2.1 r) (H.2.2 r) (O.2.2 s) = fun _ => 0 := by
            funext m
            by_cases y : prodm n ord (H.2.1 r) (H.2.2 r) (O.2.2 s) m = 0
            · exact y
            · exact absurd ⟨m, y⟩ nz
          have hz2 : ∀ e m, oneP (H.2.1 r + O.2.1 s) (prodm n ord (H.2.1 r) (H.2.2 r) (O.2.2 s)) e m = 0 := by
            intro e m
            unfold oneP; rw [hz]; split <;> rfl
          have hdr := dg1_0 hz2
          have em : (nI 0 - 1 : Int32) = -1 := by decide
          have hup : nI d - (nI 0 - 1) = nI (d + 1) := by rw [em, Int32.sub_neg, nI_1]
          rw [hdr]
          refine ⟨fun q => ?_, fun q => ⟨hk, ?_⟩⟩
          · rw [em, Int32.lt_iff_toInt_lt, nI_toInt (by omega), show (-1 : Int32).toInt = -1 by decide] at q; omega
          · refine sp_Mospread (k := 19) (up := d + 1) hM hS2.1.1 hn3 hS2.1.2.1 hW.1.2.2 hd (hW.n66 hd) (by omega) (by rw [sAll_eq]; exact f1) (oneP_hom hpm) (by rw [hdr]; exact hup) (by omega) (fun _ => by rw [hdr]; omega) (fun m hm hc => absurd (hz2 _ _) (cf_ne hc).2) hE2 (fun K2 e1 e2 => ih' K2 ⟨hF2.tr e2.fm, MSt_en hW e2 hS2, EnS_span (fun v hv => ?_) (fun v hv => ?_) e1⟩)
            · rcases hv with ⟨a, b, z0, z1⟩ | ⟨c, _, z1, z2⟩
              · exact Spn_of ⟨a, b, by omega, z1⟩
              · have : v = fun _ => 0 := by
                  rw [z2]; unfold upF; rw [if_neg (by omega), vec_0]
                rw [this]; exact (Spn_sub _).1
            · obtain ⟨a, b, z0, z1, z2, z3, c, z4, z5⟩ := hv
              by_cases y : a = r ∧ b = s
              · rw [y.1, y.2, hz, mulm_z, vec_0] at z5
                rw [z5]; exact (Spn_sub _).1
              · exact Spn_of (Or.inl ⟨a, b, by omega, z1, z2, z3, c, z4, z5⟩)
theorem mo_dimension [NeZero p] {D : Nat → Mo2 → Fin p} {H O : Hp p} {C : Nat → Nat → Mo2 → Fin p} {x y : Int32} {post : Int32 → Mem → Prop} (hM : MdOK M) (hW : WfA n ord D H O C) (hS : MSt n ord D H O C I) (h1 : ∀ d, d ≤ 10 → y = nI d → ∀ v, (x.toInt = 0 ∧ v = nI (vdm n ord (Gh H) d)) ∨ (x.toInt = 1 ∧ v = nI (vdm n ord (Gh O) d)) ∨ (x.toInt = 2 ∧ v = nI (vdm n ord (Gsum H O) d)) ∨ (x.toInt = 3 ∧ v = nI (vdm n ord (Gh H) d) + nI (vdm n ord (Gh O) d) - nI (vdm n ord (Gsum H O) d)) ∨ (x.toInt = 4 ∧ v = nI (vdm n ord (Gprd n ord H O) d)) → ∀ I', MSt n ord D H O C I' → FM I I' → post v (wI M I')) (h0 : (¬ ((0 ≤ x.toInt ∧ x.toInt ≤ 4) ∧ ∃ d, d ≤ 10 ∧ y = nI d)) → post (-1000000) (wI M I)) : T_Mo_dimension 199 x y (wI M I) post := by
  have hk := hM.1
  unfold T_Mo_dimension B_Mo_dimension_28 B_Mo_dimension_30
  refine sp_in3 (a := 0) (b := 5) (by omega) (by omega) (by decide) (fun w _ w2 e => ⟨fun q => absurd q (by decide), fun _ => ?_⟩) (fun hne => ⟨fun _ => h0 (fun ⟨z, _⟩ => hne ⟨x.toInt.toNat, by omega, by omega, i32_ext (by rw [nI_toInt (by omega)]; omega)⟩), fun q => absurd rfl q⟩)
  refine sp_in3 (a := 0) (b := 11) (by omega) (by omega) (by decide) (fun d _ d2 e2 => ⟨fun q => absurd q (by decide), fun _ => ⟨hk, ?_⟩⟩) (fun hne => ⟨fun _ => h0 (fun ⟨_, d, z1, z2⟩ => hne ⟨d, by omega, by omega, z2⟩), fun q => absurd rfl q⟩)
  subst e e2
  refine sp_ModimOf hM hW hS (by omega) (by omega) (fun J v hv hSJ hFJ => h1 d (by omega) rfl v ?_ J hSJ hFJ)
  rw [nI_toInt (by omega)]
  rcases hv with ⟨z, e⟩ | ⟨z, e⟩ | ⟨z, e⟩ | ⟨z, e⟩ | ⟨z, e⟩
  · exact Or.inl ⟨by omega, e⟩
  · exact Or.inr (Or.inl ⟨by omega, e⟩)
  · exact Or.inr (Or.inr (Or.inl ⟨by omega, e⟩))
  · exact Or.inr (Or.inr (Or.inr (Or.inl ⟨by omega, e⟩)))
  · exact Or.inr (Or.inr (Or.inr (Or.inr ⟨by omega, e⟩)))
/-- the heaps have the same of degree e -/
def samD [NeZero p] (n ord : Nat) (H O : Hp p) (e : Nat) : Prop := vdm n ord (Gh H) e = vdm n ord (Gsum H O) e ∧ vdm n ord (Gh O) e = vdm n ord (Gsum H O) e
theorem mo_parts [NeZero p] {D : Nat → Mo2 → Fin p} {H O : Hp p} {C : Nat → Nat → Mo2 → Fin p} {post : Int32 → Mem → Prop} (hM : MdOK M) (hW : WfA n ord D H O C) (hS : MSt n ord D H O C I) (h1 : ∀ d, d ≤ 10 → (∀ e, e < d → samD n ord H O e) → ¬ samD n ord H O d → ∀ I', MSt n ord D H O C I' → FM I I' → post (nI d) (wI M I')) (h0 : (∀ e, e ≤ 10 → samD n ord H O e) → ∀ I', MSt n ord D H O C I' → FM I I' → post (-1) (wI M I')) : T_Mo_parts 199 (wI M I) post := by
  have hk := hM.1
  refine pk_loop (σ := Nat → Nat → Int32) (fun N d K => L_Mo_parts_2 post N 199 (nI d) (wI M K)) (fun d K => FM I K ∧ MSt n ord D H O C K ∧ ∀ e, e < d → samD n ord H O e) 11 0 I (by omega) ⟨fun _ _ => rfl, hS, fun e he => absurd he (Nat.not_lt_zero e)⟩ ?_ ?_
  · intro N K ⟨k1, k2, k3⟩
    show B_Mo_parts_2 (L_Mo_parts_2 post N) post 199 _ _
    exact ⟨fun _ => h0 (fun e he => k3 e (by omega)) K k2 k1, fun q => absurd (by decide) q⟩
  · intro N d K hd ⟨k1, k2, k3⟩ ih
    have l0 := vdm_le n ord (Gh H) d
    have l1 := vdm_le n ord (Gh O) d
    have l2 := vdm_le n ord (Gsum H O) d
    have l66 := hW.n66 (show d ≤ 10 by omega)
    show B_Mo_parts_2 (L_Mo_parts_2 post N) post 199 _ _
    unfold B_Mo_parts_2 B_Mo_parts_35
    refine ⟨fun q => ?_, fun _ => ⟨hk, ?_⟩⟩
    · rw [show (10 : Int32) = nI 10 from rfl, nI_ltI (by omega) (by omega)] at q; omega
    refine sp_ModimOf (w := 2) hM hW k2 (by omega) (by omega) (fun K2 v2 e2 s2 f2 => ⟨hk, ?_⟩)
    refine sp_ModimOf (w := 0) hM hW s2 (by omega) (by omega) (fun K3 v3 e3 s3 f3 => ?_)
    have e2' : v2 = nI (vdm n ord (Gsum H O) d) := by
      rcases e2 with ⟨z, e⟩ | ⟨z, e⟩ | ⟨z, e⟩ | ⟨z, e⟩ | ⟨z, e⟩ <;> first | exact e | omega
    have e3' : v3 = nI (vdm n ord (Gh H) d) := by
      rcases e3 with ⟨z, e⟩ | ⟨z, e⟩ | ⟨z, e⟩ | ⟨z, e⟩ | ⟨z, e⟩ <;> first | exact e | omega
    rw [e2', e3', nI_eq (by omega) (by omega)]
    have hF3 := (k1.tr f2).tr f3
    refine ⟨fun q => h1 d (by omega) k3 (fun z => q z.1) K3 s3 hF3, fun q => ⟨hk, ?_⟩⟩
    refine sp_ModimOf (w := 1) hM hW s3 (by omega) (by omega) (fun K4 v4 e4 s4 f4 => ?_)
    have e4' : v4 = nI (vdm n ord (Gh O) d) := by
      rcases e4 with ⟨z, e⟩ | ⟨z, e⟩ | ⟨z, e⟩ | ⟨z, e⟩ | ⟨z, e⟩ <;> first | exact e | omega
    rw [e4', nI_eq (by omega) (by omega), nI_1]
    refine ⟨fun q2 => ih K4 ⟨hF3.tr f4, s4, fun e he => ?_⟩, fun q2 => h1 d (by omega) k3 (fun z => q2 z.2) K4 s4 (hF3.tr f4)⟩
    by_cases z : e = d
    · rw [z]; exact ⟨q, q2⟩
    · exact k3 e (by omega)
end MO12
/-! where two heaps part -/
theorem VP_gen {p : Nat} [NeZero p] {n e : Nat} {G G' : Nat → (Mo2 → Fin p) → Prop} (h : ∀ e', e' ≤ e → ∀ g, G e' g → VP n G' e' g) : ∀ f, VP n G e f → VP n G' e f := by
  refine Spn_le (VP_sub n G' e) (fun s hs => ?_)
  obtain ⟨e', g, c, h1, h2, h3, rfl⟩ := hs
  have := VP_up h3 g (h e' h2 g h1)
  rw [show e' + (e - e') = e by omega] at this
  exact this
theorem vdm_le_of {p : Nat} [NeZero p] {n ord e : Nat} {G G' : Nat → (Mo2 → Fin p) → Prop} (h : ∀ f, VP n G e f → VP n G' e f) : vdm n ord G e ≤ vdm n ord G' e := dm_mono (fun u ⟨f, a, b⟩ => ⟨f, h f a, b⟩)
theorem vdm_eq_of {p : Nat} [NeZero p] {n ord e : Nat} {G G' : Nat → (Mo2 → Fin p) → Prop} (hF : isField p) (hG : ∀ e g, G e g → hom n e g) (hG' : ∀ e g, G' e g → hom n e g) (h : ∀ f, VP n G e f → VP n G' e f) (he : vdm n ord G e = vdm n ord G' e) : ∀ f, VP n G' e f → VP n G e f := by
  intro f hf
  obtain ⟨e1, h1⟩ := Ech_of hF (VV_sub (ord := ord) (d := e) (VP_sub n G e)) (VV_range (ord := ord) (VP n G e))
  obtain ⟨e2, h2⟩ := Ech_of hF (VV_sub (ord := ord) (d := e) (VP_sub n G' e)) (VV_range (ord := ord) (VP n G' e))
  have := Ech.eq hF.1 (VV_sub (VP_sub n G e)) (VV_sub (VP_sub n G' e)) h1 h2 (fun u ⟨f, a, b⟩ => ⟨f, h f a, b⟩) he _ ⟨f, hf, rfl⟩
  exact (VV_in (VP_hom hG) (VP_hom hG' f hf)).mp this
theorem sam_lo {p : Nat} [NeZero p] {n ord e : Nat} {H O : Hp p} (h1 : ∀ r, r < H.1 → H.2.1 r ≤ e → VP n (Gh O) (H.2.1 r) (H.2.2 r)) (h2 : ∀ r, r < O.1 → O.2.1 r ≤ e → VP n (Gh H) (O.2.1 r) (O.2.2 r)) : samD n ord H O e := by
  constructor
  · refine Nat.le_antisymm (vdm_le_of (VP_mono (fun _ _ _ z => Or.inl z))) (vdm_le_of (VP_gen (fun e' he g z => ?_)))
    rcases z with z | ⟨r, z1, rfl, rfl⟩
    · exact VP_row z
    · exact h2 r z1 he
  · refine Nat.le_antisymm (vdm_le_of (VP_mono (fun _ _ _ z => Or.inr z))) (vdm_le_of (VP_gen (fun e' he g z => ?_)))
    rcases z with ⟨r, z1, rfl, rfl⟩ | z
    · exact h1 r z1 he
    · exact VP_row z
/-- both answer the same -/
theorem parts_same {p : Nat} [NeZero p] {n ord : Nat} {H O : Hp p} (hF : isField p) (hH : WfH n H) (hO : WfH n O) {l1 l2 : Nat} (h1 : Out n H (Gh O) l1) (h2 : Out n O (Gh H) l2) (hl1 : l1 ≤ 6) (hl2 : l2 ≤ 6) : (∀ e, e < min l1 l2 → samD n ord H O e) ∧ (min l1 l2 ≤ 5 → ¬ samD n ord H O (min l1 l2)) ∧ (5 < min l1 l2 → ∀ e, samD n ord H O e) := by
  have gH : ∀ e g, Gh H e g → hom n e g := fun e g ⟨r, z1, z2, z3⟩ => by subst z2 z3; exact (hH.2 r z1).2.1
  have gO : ∀ e g, Gh O e g → hom n e g := fun e g ⟨r, z1, z2, z3⟩ => by subst z2 z3; exact (hO.2 r z1).2.1
  have gS : ∀ e g, Gsum H O e g → hom n e g := fun e g z => z.elim (gH e g) (gO e g)
  refine ⟨fun e he => sam_lo (fun r hr hle => h1.1 r hr (by omega)) (fun r hr hle => h2.1 r hr (by omega)), fun hle hs => ?_, fun hlt e => sam_lo (fun r hr hle => h1.1 r hr (by have := (hH.2 r hr).1; omega)) (fun r hr hle => h2.1 r hr (by have := (hO.2 r hr).1; omega))⟩
  have k1 := vdm_eq_of hF gH gS (VP_mono (fun _ _ _ z => Or.inl z)) hs.1
  have k2 := vdm_eq_of hF gO gS (VP_mono (fun _ _ _ z => Or.inr z)) hs.2
  rcases Nat.le_total l1 l2 with q | q
  · rw [Nat.min_eq_left q] at k1 k2 hle
    rcases h1.2 with z | ⟨r, z1, z2, z3⟩
    · omega
    · apply z3
      rw [z2]
      exact k2 _ (VP_row (Or.inl ⟨r, z1, z2, rfl⟩))
  · rw [Nat.min_eq_right q] at k1 k2 hle
    rcases h2.2 with z | ⟨r, z1, z2, z3⟩
    · omega
    · apply z3
      rw [z2]
      exact k1 _ (VP_row (Or.inr ⟨r, z1, z2, rfl⟩))
