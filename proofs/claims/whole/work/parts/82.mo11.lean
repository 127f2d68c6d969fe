/-! the reference: heaps, products, count, sum -/
theorem EnSt_kp {p : Nat} [NeZero p] {n ord d : Nat} {W : (Nat → Fin p) → Prop} {P : Nat → Bool} {e : Nat → Nat → Fin p} {I I' : Nat → Nat → Int32} (h : ∀ c, c = 199 ∨ c = 201 ∨ c = 202 ∨ c = 203 ∨ c = 205 → I' c = I c) (hE : EnSt n ord d W P e I) : EnSt n ord d W P e I' := by
  obtain ⟨hT, hl, h12, hpv, hcl⟩ := hE
  exact ⟨TkS_kp (by rw [h 199 (by omega)]) (h 201 (by omega)) (h 202 (by omega)) hT, hl, by rw [h 199 (by omega)]; exact h12, fun k hk => by rw [h 205 (by omega)]; exact hpv k hk, fun k hk hP j hj => by rw [h 203 (by omega)]; exact hcl k hk hP j hj⟩
theorem EnS_kp {p : Nat} [NeZero p] {n ord d : Nat} {S : (Nat → Fin p) → Prop} {I I' : Nat → Nat → Int32} (h : ∀ c, c = 199 ∨ c = 201 ∨ c = 202 ∨ c = 203 ∨ c = 205 → I' c = I c) (hE : EnS n ord d S I) : EnS n ord d S I' := by
  obtain ⟨W, P, e, h1, h2⟩ := hE
  exact ⟨W, P, e, EnSt_kp h h1, h2⟩
theorem EnS_span {p : Nat} [NeZero p] {n ord d : Nat} {S S' : (Nat → Fin p) → Prop} {I : Nat → Nat → Int32} (h1 : ∀ s, S s → Spn S' s) (h2 : ∀ s, S' s → Spn S s) (hE : EnS n ord d S I) : EnS n ord d S' I := by
  obtain ⟨W, P, e, h3, h4⟩ := hE
  exact ⟨W, P, e, h3, fun u => ⟨fun hu => Spn_le (Spn_sub _) h1 u ((h4 u).mp hu), fun hu => (h4 u).mpr (Spn_le (Spn_sub _) h2 u hu)⟩⟩
theorem MSt_en {p : Nat} [NeZero p] {n ord : Nat} {D : Nat → Mo2 → Fin p} {H O : Hp p} {C : Nat → Nat → Mo2 → Fin p} {I I' : Nat → Nat → Int32} (hW : WfA n ord D H O C) (hF : EnF I I') (hS : MSt n ord D H O C I) : MSt n ord D H O C I' := MSt_kp hW.2.2.1.1 hW.2.2.2.1.1 (fun k hk => hF.2 k (by omega) (by omega)) (fun j _ => by rw [hF.1 200 (by omega) (by omega) (by omega) (by omega) (by omega) (by omega)]) hS
theorem EnF.fm {I I' : Nat → Nat → Int32} (h : EnF I I') : FM I I' := fun c hc => h.1 c (by omega) (by omega) (by omega) (by omega) (by omega) (by omega)
theorem FM.tr {I J K : Nat → Nat → Int32} (h1 : FM I J) (h2 : FM J K) : FM I K := fun c hc => by rw [h2 c hc, h1 c hc]
theorem FM_s {I : Nat → Nat → Int32} {a : Nat} {f : Nat → Int32} (h : 199 ≤ a) : FM I (sAll I a f) := fun c hc => sAll_ne (by omega)
theorem FM_u {I : Nat → Nat → Int32} {a k : Nat} {v : Int32} (h : 199 ≤ a) : FM I (u2 I a k v) := fun c hc => by unfold u2; rw [if_neg (by omega)]
theorem upF_one {p : Nat} [NeZero p] {e d : Nat} (he : e ≤ d) (c : Mo2) (g : Mo2 → Fin p) : upF (d - e) c (oneP e g) d = mulm c g := by
  unfold upF oneP
  rw [if_pos (by omega), if_pos (by omega)]
theorem cf_one_deg {p : Nat} [NeZero p] {e m : Nat} {g : Mo2 → Fin p} (h : cf (oneP e g) m ≠ 0) : mdeg m = e := by
  have := (cf_ne h).2
  by_cases z : mdeg m = e
  · exact z
  · unfold oneP at this; rw [if_neg z] at this; exact absurd rfl this
theorem RS_succ {p : Nat} [NeZero p] {n ord d i : Nat} {dr : Nat → Nat} {rw' : Nat → Mo2 → Fin p} (s : Nat → Fin p) : RS n ord d (Grw (i + 1) dr rw') s ↔ RS n ord d (Grw i dr rw') s ∨ (dr i ≤ d ∧ ∃ c, okm n (d - dr i) c ∧ s = vec n ord d (mulm c (rw' i))) := by
  constructor
  · rintro ⟨e, g, c, ⟨r, h1, rfl, rfl⟩, h4, h5, h6⟩
    by_cases z : r = i
    · subst z; exact Or.inr ⟨h4, c, h5, h6⟩
    · exact Or.inl ⟨_, _, c, ⟨r, by omega, rfl, rfl⟩, h4, h5, h6⟩
  · rintro (⟨e, g, c, ⟨r, h1, rfl, rfl⟩, h4, h5, h6⟩ | ⟨h1, c, h2, h3⟩)
    · exact ⟨_, _, c, ⟨r, by omega, rfl, rfl⟩, h4, h5, h6⟩
    · exact ⟨_, _, c, ⟨i, by omega, rfl, rfl⟩, h1, h2, h3⟩
theorem RS_0 {p : Nat} [NeZero p] {n ord d : Nat} {dr : Nat → Nat} {rw' : Nat → Mo2 → Fin p} (s : Nat → Fin p) : ¬ RS n ord d (Grw 0 dr rw') s := by
  rintro ⟨e, g, c, ⟨r, h1, _⟩, _⟩; omega
section MO11
variable {M : Mem} {I : Nat → Nat → Int32} {n ord p d : Nat}
theorem WfA.n66 [NeZero p] {D : Nat → Mo2 → Fin p} {H O : Hp p} {C : Nat → Nat → Mo2 → Fin p} (hW : WfA n ord D H O C) (hd : d ≤ 10) : nM n ord d ≤ 66 := (nM_le n (by have := hW.1.1; omega) ord (by have := hW.1.2.1; omega) d (by omega)).1
theorem sp_Moheap [NeZero p] {D : Nat → Mo2 → Fin p} {H O : Hp p} {C : Nat → Nat → Mo2 → Fin p} {post : Mem → Prop} (hM : MdOK M) (hW : WfA n ord D H O C) (hS : MSt n ord D H O C I) (hd : d ≤ 10) (h : ∀ I', EnS n ord d (RS n ord d (Gh H)) I' → EnF I I' → post (wI M I')) : T_Mo_heap 199 (nI d) (wI M I) post := by
  have hp := prm_lt hW.1.2.2
  have hF := prm_field hW.1.2.2
  have hk := hM.1
  have hH := hW.2.2.1.1
  refine ⟨hk, sp_Mobegin hM hS.1.1 hW.1.1.2 hS.1.2.2.1 hW.1.2.1 hF.1 hd (fun J hE hJ => ?_)⟩
  refine pk_loop (σ := Nat → Nat → Int32) (fun N i K => L_Mo_heap_7 post N 199 (nI d) (nI i) (wI M K)) (fun i K => EnF I K ∧ EnS n ord d (RS n ord d (Grw i H.2.1 H.2.2)) K) H.1 0 J (by omega) ⟨hJ, ⟨_, _, _, hE, fun u => ⟨fun hu => ?_, fun hu => ?_⟩⟩⟩ ?_ ?_
  · have : u = fun _ => 0 := funext hu
    rw [this]; exact (Spn_sub _).1
  · exact Spn_le (V := fun v => ∀ i, v i = 0) hE.2.1.1 (fun s hs => absurd hs (RS_0 s)) u hu
  · intro N K ⟨k1, k2⟩
    show B_Mo_heap_7 (L_Mo_heap_7 post N) post 199 _ _ _
    unfold B_Mo_heap_7
    rw [gI_wI, k1.2 4 (by omega) (by omega), hS.1.2.2.2.1]
    exact ⟨hk, fun _ => h K k2 k1, fun q => absurd (Int32.le_refl _) q⟩
  · intro N i K hi ⟨k1, k2⟩ ih
    obtain ⟨g1, g2, g3⟩ := hW.2.2.1.2 i hi
    have hSK := MSt_en hW k1 hS
    have hdr := dg1_one (show H.2.1 i ≤ 10 by omega) g2 g3
    show B_Mo_heap_7 (L_Mo_heap_7 post N) post 199 _ _ _
    unfold B_Mo_heap_7 B_Mo_heap_34
    rw [gI_wI, hSK.1.2.2.2.1, nI_leI (by omega) (by omega), show (1 : Int32) + nI i = nI (1 + i) from nI_add 1 i, nI_1]
    refine ⟨hk, fun q => absurd q (by omega), fun _ => ⟨hk, sp_Modegree hM (by omega) hp.2 (oneP_hom g2) (hSK.2.2.1 i hi) ?_⟩⟩
    rw [hdr, nI_pred, nI_ltI (by omega) (by omega)]
    refine ⟨fun q => ih K ⟨k1, EnS_iff (fun s => ?_) k2⟩, fun q => ⟨hk, ?_⟩⟩
    · rw [RS_succ]
      exact ⟨Or.inl, fun z => z.elim id (fun z => by omega)⟩
    · refine sp_Mospread (up := d - H.2.1 i) hM hSK.1.1 hW.1.1.2 hSK.1.2.1 hW.1.2.2 hd (hW.n66 hd) (by omega) (hSK.2.2.1 i hi) (oneP_hom g2) (by rw [hdr, nI_pred, pk_sub (by omega)]) (by omega) (fun _ => by omega) (fun m hm hc => by rw [cf_one_deg hc]; omega) k2 (fun K2 e1 e2 => ih K2 ⟨k1.tr e2, EnS_iff (fun s => ?_) e1⟩)
      rw [RS_succ]
      constructor
      · rintro (z | ⟨c, _, z1, z2⟩)
        · exact Or.inl z
        · rw [upF_one (by omega)] at z2
          exact Or.inr ⟨by omega, c, z1, z2⟩
      · rintro (z | ⟨_, c, z1, z2⟩)
        · exact Or.inl z
        · exact Or.inr ⟨c, by omega, z1, by rw [upF_one (by omega)]; exact z2⟩
theorem sp_MoaddOther [NeZero p] {D : Nat → Mo2 → Fin p} {H O : Hp p} {C : Nat → Nat → Mo2 → Fin p} {S : (Nat → Fin p) → Prop} {post : Mem → Prop} (hM : MdOK M) (hW : WfA n ord D H O C) (hS : MSt n ord D H O C I) (hd : d ≤ 10) (hE : EnS n ord d S I) (h : ∀ I', EnS n ord d (fun s => S s ∨ RS n ord d (Gh O) s) I' → EnF I I' → post (wI M I')) : T_Mo_addOther 199 (nI d) (wI M I) post := by
  have hp := prm_lt hW.1.2.2
  have hk := hM.1
  have hO := hW.2.2.2.1.1
  refine pk_loop (σ := Nat → Nat → Int32) (fun N i K => L_Mo_addOther_2 post N 199 (nI d) (nI i) (wI M K)) (fun i K => EnF I K ∧ EnS n ord d (fun s => S s ∨ RS n ord d (Grw i O.2.1 O.2.2) s) K) O.1 0 I (by omega) ⟨EnF.rf I, EnS_iff (fun s => ⟨Or.inl, fun z => z.elim id (fun z => absurd z (RS_0 s))⟩) hE⟩ ?_ ?_
  · intro N K ⟨k1, k2⟩
    show B_Mo_addOther_2 (L_Mo_addOther_2 post N) post 199 _ _ _
    unfold B_Mo_addOther_2
    rw [gI_wI, k1.2 5 (by omega) (by omega), hS.1.2.2.2.2]
    exact ⟨hk, fun _ => h K k2 k1, fun q => absurd (Int32.le_refl _) q⟩
  · intro N i K hi ⟨k1, k2⟩ ih
    obtain ⟨g1, g2, g3⟩ := hW.2.2.2.1.2 i hi
    have hSK := MSt_en hW k1 hS
    have hdr := dg1_one (show O.2.1 i ≤ 10 by omega) g2 g3
    show B_Mo_addOther_2 (L_Mo_addOther_2 post N) post 199 _ _ _
    unfold B_Mo_addOther_2 B_Mo_addOther_31
    rw [gI_wI, hSK.1.2.2.2.2, nI_leI (by omega) (by omega), show (13 : Int32) + nI i = nI (13 + i) from nI_add 13 i, nI_1]
    refine ⟨hk, fun q => absurd q (by omega), fun _ => ⟨hk, sp_Modegree hM (by omega) hp.2 (oneP_hom g2) (hSK.2.2.2.2 i hi) ?_⟩⟩
    rw [hdr, nI_pred, nI_ltI (by omega) (by omega)]
    refine ⟨fun q => ih K ⟨k1, EnS_iff (fun s => ?_) k2⟩, fun q => ⟨hk, ?_⟩⟩
    · rw [RS_succ]
      constructor
      · rintro (z | z)
        · exact Or.inl z
        · exact Or.inr (Or.inl z)
      · rintro (z | z | z)
        · exact Or.inl z
        · exact Or.inr z
        · omega
    · refine sp_Mospread (up := d - O.2.1 i) hM hSK.1.1 hW.1.1.2 hSK.1.2.1 hW.1.2.2 hd (hW.n66 hd) (by omega) (hSK.2.2.2.2 i hi) (oneP_hom g2) (by rw [hdr, nI_pred, pk_sub (by omega)]) (by omega) (fun _ => by omega) (fun m hm hc => by rw [cf_one_deg hc]; omega) k2 (fun K2 e1 e2 => ih K2 ⟨k1.tr e2, EnS_iff (fun s => ?_) e1⟩)
      rw [RS_succ]
      constructor
      · rintro ((z | z) | ⟨c, _, z1, z2⟩)
        · exact Or.inl z
        · exact Or.inr (Or.inl z)
        · rw [upF_one (by omega)] at z2
          exact Or.inr (Or.inr ⟨by omega, c, z1, z2⟩)
      · rintro (z | z | ⟨_, c, z1, z2⟩)
        · exact Or.inl (Or.inl z)
        · exact Or.inl (Or.inr z)
        · exact Or.inr ⟨c, by omega, z1, by rw [upF_one (by omega)]; exact z2⟩
theorem sp_Momultiply [NeZero p] {ka kb b : Nat} {F : Nat → Mo2 → Fin p} {g : Mo2 → Fin p} {post : Mem → Prop} (hM : MdOK M) (hI2 : I 199 2 = nI p) (hp : 2 ≤ p ∧ p ≤ 97) (hka : ka ≤ 18) (hkb : kb ≤ 18) (hRa : MRep (I 200) ka F) (hRb : MRep (I 200) kb (oneP b g)) (hF : ∀ d, d ≤ 10 → hom n d (F d)) (hb : b ≤ 10) (hg : hom n b g) (hbd : ∀ d, d ≤ 10 → 10 < d + b → ∀ m, F d m = 0) (h : ∀ f, MRep f 19 (mulP n ord F b g) → (∀ j, j < 25289 → f j = I 200 j) → post (wI M (sAll I 200 f))) : T_Mo_multiply 199 (nI ka) (nI kb) (nI 19) (wI M I) post := by
  have hk := hM.1
  have key : ∀ m o, m < 1331 → o < 1331 → cf F m ≠ 0 → cf (oneP b g) o ≠ 0 → m + o < 1331 := by
    intro m o hm ho h1 h2
    have e1 := cf_one_deg h2
    obtain ⟨f1, f2⟩ := cf_ne h1
    have hs : mdeg m + b ≤ 10 := by
      rcases Nat.lt_or_ge 10 (mdeg m + b) with z | z
      · exact absurd (hbd _ f1 z _) f2
      · exact z
    have u1 := mmo_ok hm
    have u2' := mmo_ok ho
    have u3 := cdm_add u1.1 u2'.1
    rw [u1.2, u2'.2, e1] at u3
    rw [u3]
    refine (cdm_ok hs ?_).1
    have v1 := u1.1
    have v2 := u2'.1
    rw [e1] at v2
    simp only; omega
  refine ⟨hk, sp_Moclear (k := 19) hM (by omega) (fun f0 c1 c2 => ?_)⟩
  refine pk_loop (σ := Nat → Int32) (fun N i f => L_Mo_multiply_8 post N 199 (nI ka) (nI kb) (nI 19) (nI i) (wI M (sAll I 200 f))) (fun i f => (∀ t, t < 1331 → f (1331 * 19 + t) = nI (sm (fun m => if m ≤ t then cf F m * cf (oneP b g) (t - m) else 0) i).val) ∧ ∀ j, j < 25289 → f j = I 200 j) 1331 0 f0 (by omega) ⟨fun t ht => ?_, fun j hj => c2 j (by omega)⟩ ?_ ?_
  · rw [c1 t ht]
    show 0 = nI (0 : Fin p).val
    rw [show (0 : Fin p).val = 0 from Nat.zero_mod p]; rfl
  · intro N f hf
    show B_Mo_multiply_8 (L_Mo_multiply_8 post N) post 199 _ _ _ _ _
    exact ⟨fun _ => h f (fun t ht => by rw [hf.1 t ht, cf_mul hF hb hg hbd ht]) hf.2, fun q => absurd (by decide) q⟩
  · intro N i f hi hf ih
    have hvi : sAll I 200 f 200 (1331 * ka + i) = nI (cf F i).val := by rw [sAll_eq, hf.2 _ (by omega)]; exact hRa i hi
    show B_Mo_multiply_8 (L_Mo_multiply_8 post N) post 199 _ _ _ _ _
    unfold B_Mo_multiply_8 B_Mo_multiply_99
    refine ⟨fun q => ?_, fun _ => ⟨hk, sp_Moget hM (by omega) hi ⟨fun q => ?_, fun q => ?_⟩⟩⟩
    · rw [show (1331 : Int32) = nI 1331 from rfl, nI_leI (by omega) (by omega)] at q; omega
    · rw [hvi, val_ne hp.2] at q
      refine pk_loop (σ := Nat → Int32) (fun N' j f' => L_Mo_multiply_32 (L_Mo_multiply_8 post N) post N' 199 (nI ka) (nI kb) (nI 19) (nI i) (nI j) (wI M (sAll I 200 f'))) (fun j f' => (∀ t, t < 1331 → f' (1331 * 19 + t) = nI (sm (fun m => if m ≤ t then cf F m * cf (oneP b g) (t - m) else 0) i + (if i ≤ t ∧ t - i < j then cf F i * cf (oneP b g) (t - i) else 0)).val) ∧ ∀ j, j < 25289 → f' j = I 200 j) 1331 0 f (by omega) ⟨fun t ht => ?_, hf.2⟩ ?_ ?_
      · rw [hf.1 t ht, if_neg (by omega)]; congr 2; grind
      · intro N' f' hf'
        show B_Mo_multiply_32 _ (L_Mo_multiply_32 _ post N') post 199 _ _ _ _ _ _
        unfold B_Mo_multiply_32 B_Mo_multiply_99
        refine ⟨fun _ => ?_, fun q => absurd (by decide) q⟩
        rw [nI_1]
        refine ih f' ⟨fun t ht => ?_, hf'.2⟩
        rw [hf'.1 t ht]
        show _ = nI (sm _ i + (if i ≤ t then cf F i * cf (oneP b g) (t - i) else 0)).val
        by_cases w : i ≤ t
        · rw [if_pos w, if_pos ⟨w, by omega⟩]
        · rw [if_neg w, if_neg (fun z => w z.1)]
      · intro N' j f' hj hf' ih'
        have hvj : sAll I 200 f' 200 (1331 * kb + j) = nI (cf (oneP b g) j).val := by rw [sAll_eq, hf'.2 _ (by omega)]; exact hRb j hj
        have hvi' : sAll I 200 f' 200 (1331 * ka + i) = nI (cf F i).val := by rw [sAll_eq, hf'.2 _ (by omega)]; exact hRa i hi
        show B_Mo_multiply_32 _ (L_Mo_multiply_32 _ post N') post 199 _ _ _ _ _ _
        unfold B_Mo_multiply_32 B_Mo_multiply_93
        refine ⟨fun q => ?_, fun _ => ⟨hk, sp_Moget hM (by omega) hj ⟨fun q2 => ?_, fun q2 => ⟨hk, ?_⟩⟩⟩⟩
        · rw [show (1331 : Int32) = nI 1331 from rfl, nI_leI (by omega) (by omega)] at q; omega
        · rw [hvj, val_ne hp.2] at q2
          rw [nI_1]
          refine ih' f' ⟨fun t ht => ?_, hf'.2⟩
          rw [hf'.1 t ht]
          by_cases w : i ≤ t ∧ t - i < j
          · rw [if_pos w, if_pos ⟨w.1, by omega⟩]
          · rw [if_neg w]
            by_cases w2 : i ≤ t ∧ t - i < j + 1
            · rw [if_pos w2, show t - i = j by omega, q2]; congr 2 <;> grind
            · rw [if_neg w2]
        · rw [hvj, val_ne hp.2] at q2
          have hs := key i j hi hj q q2
          rw [nI_add, nI_1]
          refine sp_Moget (k := 19) hM (by omega) hs ⟨hk, sp_Moget hM (by omega) hi ⟨hk, sp_Moget hM (by omega) hj ⟨hk, ?_⟩⟩⟩
          refine sp_modA (a := sm (fun m => if m ≤ i + j then cf F m * cf (oneP b g) (i + j - m) else 0) i) (b := cf F i) (c := cf (oneP b g) j) hM (by rw [sAll_ne (by omega)]; exact hI2) hp ?_ hvi' hvj ⟨hk, sp_Moput (k := 19) hM (by omega) hs ?_⟩
          · rw [sAll_eq, hf'.1 _ hs, if_neg (by omega)]; congr 2; grind
          · rw [u2_sAll]
            refine ih' _ ⟨fun t ht => ?_, fun j' hj' => ?_⟩
            · by_cases w : t = i + j
              · subst w
                rw [upd_eq, if_pos ⟨by omega, by omega⟩, show i + j - i = j by omega]
              · rw [upd_ne (by omega), hf'.1 t ht]
                by_cases w2 : i ≤ t ∧ t - i < j
                · rw [if_pos w2, if_pos ⟨w2.1, by omega⟩]
                · rw [if_neg w2, if_neg (by omega)]
            · rw [upd_ne (by omega)]; exact hf'.2 j' hj'
    · rw [hvi, val_ne hp.2] at q
      rw [nI_1]
      refine ih f ⟨fun t ht => ?_, hf.2⟩
      rw [hf.1 t ht]
      show _ = nI (sm _ i + (if i ≤ t then cf F i * cf (oneP b g) (t - i) else 0)).val
      rw [q]
      congr 2
      split <;> grind
theorem mo_count [NeZero p] {D : Nat → Mo2 → Fin p} {H O : Hp p} {C : Nat → Nat → Mo2 → Fin p} {x : Int32} {post : Int32 → Mem → Prop} (hM : MdOK M) (hW : WfA n ord D H O C) (hS : MSt n ord D H O C I) (h1 : ∀ d, d ≤ 10 → x = nI d → ∀ I', MSt n ord D H O C I' → FM I I' → post (nI (nM n ord d - vdm n ord (Gh H) d)) (wI M I')) (h0 : (¬ ∃ d, d ≤ 10 ∧ x = nI d) → post (-1000000) (wI M I)) : T_Mo_count 199 x (wI M I) post := by
  have hk := hM.1
  have hF := prm_field hW.1.2.2
  refine sp_in3 (a := 0) (b := 11) (by omega) (by omega) (by decide) (fun d _ d2 e => ⟨fun _ => ⟨hk, ?_⟩, fun q => absurd q (by decide)⟩) (fun hne => ⟨fun q => absurd rfl q, fun _ => h0 (fun ⟨d, w1, w2⟩ => hne ⟨d, by omega, by omega, w2⟩)⟩)
  subst e
  refine sp_Moheap hM hW hS (by omega) (fun J hE hJ => ⟨hk, hk, ?_⟩)
  obtain ⟨e, hE⟩ := hE.st hF.1
  rw [gI_wI, gI_wI, hE.1.1, hE.2.2.1, pk_sub (ct_le _ _)]
  have := h1 d (by omega) rfl J (MSt_en hW hJ hS) hJ.fm
  unfold vdm dm at this
  rw [VV_spn] at this
  exact this
theorem mo_sum [NeZero p] {D : Nat → Mo2 → Fin p} {H O : Hp p} {C : Nat → Nat → Mo2 → Fin p} {post : Int32 → Mem → Prop} (hM : MdOK M) (hW : WfA n ord D H O C) (hS : MSt n ord D H O C I) (h : ∀ I', MSt n ord (sumP n ord H C H.1) H O C I' → FM I I' → post (nI (szP (sumP n ord H C H.1))) (wI M I')) : T_Mo_sum 199 (wI M I) post := by
  have hk := hM.1
  have hp := prm_lt hW.1.2.2
  have hH := hW.2.2.1.1
  have hO := hW.2.2.2.1.1
  refine ⟨hk, sp_Moclear (k := 0) hM (by omega) (fun f0 c1 c2 => ?_)⟩
  refine pk_loop (σ := Nat → Int32) (fun N i f => L_Mo_sum_7 post N 199 (nI i) (wI M (sAll I 200 f))) (fun i f => MRep f 0 (sumP n ord H C i) ∧ ∀ j, 1331 ≤ j → j < 25289 → f j = I 200 j) H.1 0 f0 (by omega) ⟨MRep_0 c1, fun j h1 h2 => c2 j (by omega)⟩ ?_ ?_
  · intro N f hf
    show B_Mo_sum_7 (L_Mo_sum_7 post N) post 199 _ _
    unfold B_Mo_sum_7
    rw [gI_wI, sAll_ne (by omega), hS.1.2.2.2.1]
    refine ⟨hk, fun _ => ⟨hk, sp_Moproducts (k := 0) hM (by omega) hp.2 (by rw [sAll_eq]; exact hf.1) ?_⟩, fun q => absurd (Int32.le_refl _) q⟩
    exact h _ (MSt_draft hH hO (fun k _ => by rw [sAll_ne (by omega)]) (by rw [sAll_eq]; exact hf.1) (fun j h1 h2 => by rw [sAll_eq]; exact hf.2 j h1 h2) hS) (FM_s (by omega))
  · intro N i f hi hf ih
    obtain ⟨g1, g2, g3⟩ := hW.2.2.1.2 i hi
    obtain ⟨w1, w2, w3⟩ := hW.2.2.2.2 i (by omega)
    show B_Mo_sum_7 (L_Mo_sum_7 post N) post 199 _ _
    unfold B_Mo_sum_7
    rw [gI_wI, sAll_ne (show (199 : Nat) ≠ 200 by omega), hS.1.2.2.2.1, nI_leI (by omega) (by omega), show (1 : Int32) + nI i = nI (1 + i) from nI_add 1 i, show (7 : Int32) + nI i = nI (7 + i) from nI_add 7 i]
    refine ⟨hk, fun q => absurd q (by omega), fun _ => ⟨hk, ?_⟩⟩
    refine sp_Momultiply (ord := ord) (F := C i) (b := H.2.1 i) (g := H.2.2 i) hM (by rw [sAll_ne (by omega)]; exact hS.1.2.1) hp (by omega) (by omega) (by rw [sAll_eq]; exact MRep_kp (g := I 200) (fun m hm => hf.2 _ (by omega) (by omega)) (hS.2.2.2.1 i hi)) (by rw [sAll_eq]; exact MRep_kp (g := I 200) (fun m hm => hf.2 _ (by omega) (by omega)) (hS.2.2.1 i hi)) w1 (by omega) g2 (w3 hi) (fun f2 m1 m2 => ?_)
    rw [sAll_sAll]
    rw [sAll_eq] at m2
    refine pk_loop (σ := Nat → Int32) (fun N' j f' => L_Mo_sum_30 (L_Mo_sum_7 post N) post N' 199 (nI i) (nI j) (wI M (sAll I 200 f'))) (fun j f' => (∀ t, t < 1331 → f' (1331 * 0 + t) = nI (if t < j then cf (sumP n ord H C (i + 1)) t else cf (sumP n ord H C i) t).val) ∧ MRep f' 19 (mulP n ord (C i) (H.2.1 i) (H.2.2 i)) ∧ ∀ j, 1331 ≤ j → j < 25289 → f' j = I 200 j) 1331 0 f2 (by omega) ⟨fun t ht => by rw [if_neg (Nat.not_lt_zero t), m2 _ (by omega)]; exact hf.1 t ht, m1, fun j h1 h2 => by rw [m2 j h2]; exact hf.2 j h1 h2⟩ ?_ ?_
    · intro N' f' hf'
      show B_Mo_sum_30 _ (L_Mo_sum_30 _ post N') post 199 _ _ _
      refine ⟨fun _ => ?_, fun q => absurd (by decide) q⟩
      rw [nI_1]
      exact ih f' ⟨fun t ht => by rw [hf'.1 t ht, if_pos ht], hf'.2.2⟩
    · intro N' j f' hj hf' ih'
      have e0 := hf'.1 j hj
      rw [if_neg (by omega)] at e0
      have e1 := hf'.2.1 j hj
      have es : cf (sumP n ord H C (i + 1)) j = cf (sumP n ord H C i) j + cf (mulP n ord (C i) (H.2.1 i) (H.2.2 i)) j := by
        unfold cf
        by_cases w : mdeg j ≤ 10
        · rw [if_pos w, if_pos w, if_pos w]; rfl
        · rw [if_neg w, if_neg w, if_neg w]; grind
      show B_Mo_sum_30 _ (L_Mo_sum_30 _ post N') post 199 _ _ _
      unfold B_Mo_sum_30
      refine ⟨fun q => ?_, fun _ => ⟨hk, sp_Moget (k := 0) hM (by omega) hj ⟨hk, sp_Moget (k := 19) hM (by omega) hj ⟨hk, ?_⟩⟩⟩⟩
      · rw [show (1331 : Int32) = nI 1331 from rfl, nI_leI (by omega) (by omega)] at q; omega
      · refine sp_modP (a := cf (sumP n ord H C i) j) (b := cf (mulP n ord (C i) (H.2.1 i) (H.2.2 i)) j) hM (by rw [sAll_ne (by omega)]; exact hS.1.2.1) hp (by rw [sAll_eq]; exact e0) (by rw [sAll_eq]; exact e1) ⟨hk, sp_Moput (k := 0) hM (by omega) hj ?_⟩
        rw [u2_sAll, nI_1, ← es]
        refine ih' _ ⟨fun t ht => ?_, fun m hm => ?_, fun j' h1 h2 => ?_⟩
        · by_cases w : t = j
          · subst w; rw [upd_eq, if_pos (by omega)]
          · rw [upd_ne (by omega), hf'.1 t ht]
            by_cases w2 : t < j
            · rw [if_pos w2, if_pos (by omega)]
            · rw [if_neg w2, if_neg (by omega)]
        · rw [upd_ne (by omega)]; exact hf'.2.1 m hm
        · rw [upd_ne (by omega)]; exact hf'.2.2 j' h1 h2
end MO11
