/-! the reference: the rank of a matrix -/
def MxR {p : Nat} [NeZero p] (w L : Nat) (f : Nat → Int32) (b : Nat → Nat → Fin p) : Prop := ∀ r, r < L → ∀ c, c < w → f (w * r + c) = nI (b r c).val
theorem ix_lt {w L r c : Nat} (hr : r < L) (hc : c < w) : w * r + c < w * L := by
  have := Nat.mul_le_mul_left w (show r + 1 ≤ L from hr)
  rw [Nat.mul_succ] at this
  omega
theorem ix_inj {w r c r' c' : Nat} (hc : c < w) (hc' : c' < w) (h : w * r + c = w * r' + c') : r = r' ∧ c = c' := by
  have h1 : r = r' := by
    rcases Nat.lt_trichotomy r r' with z | z | z
    · have := Nat.mul_le_mul_left w (show r + 1 ≤ r' from z)
      rw [Nat.mul_succ] at this
      omega
    · exact z
    · have := Nat.mul_le_mul_left w (show r' + 1 ≤ r from z)
      rw [Nat.mul_succ] at this
      omega
  subst h1
  exact ⟨rfl, by omega⟩
theorem MxR_upd {p : Nat} [NeZero p] {w L : Nat} {f : Nat → Int32} {b b' : Nat → Nat → Fin p} (h : MxR w L f b) {r c : Nat} (hr : r < L) (hc : c < w) {v : Fin p} (hb : ∀ r', r' < L → ∀ c', c' < w → b' r' c' = if r' = r ∧ c' = c then v else b r' c') : MxR w L (upd f (w * r + c) (nI v.val)) b' := by
  intro r' hr' c' hc'
  rw [hb r' hr' c' hc']
  by_cases q : r' = r ∧ c' = c
  · rw [if_pos q, q.1, q.2, upd_eq]
  · rw [if_neg q, upd_ne (fun e => q (ix_inj hc' hc e)), h r' hr' c' hc']
theorem MxR_cong {p : Nat} [NeZero p] {w L : Nat} {f : Nat → Int32} {b b' : Nat → Nat → Fin p} (h : MxR w L f b) (hb : ∀ r', r' < L → ∀ c', c' < w → b' r' c' = b r' c') : MxR w L f b' := fun r hr c hc => by rw [h r hr c hc, hb r hr c hc]
/-- the rows of a matrix -/
def mrow {p : Nat} [NeZero p] (w : Nat) (b : Nat → Nat → Fin p) : Nat → Nat → Fin p := fun r c => if c < w then b r c else 0
theorem upto_of {p : Nat} [NeZero p] {f : Nat → Nat → Fin p} {r i : Nat} (h : i < r) : upto f r (f i) := Spn_of ⟨i, h, rfl⟩
theorem upto_le {p : Nat} [NeZero p] {f g : Nat → Nat → Fin p} {r s : Nat} (h : ∀ i, i < r → upto g s (f i)) : ∀ v, upto f r v → upto g s v := Spn_le (Spn_sub _) (fun v ⟨i, hi, e⟩ => by rw [e]; exact h i hi)
/-- where the elimination stands -/
def RkI {p : Nat} [NeZero p] (w L : Nat) (a b : Nat → Nat → Fin p) (c n : Nat) : Prop := (∀ v, upto (mrow w a) L v ↔ upto (mrow w b) L v) ∧ n ≤ L ∧ (∃ piv : Nat → Nat, (∀ i, i < n → piv i < c ∧ b i (piv i) ≠ 0 ∧ ∀ c', c' < piv i → b i c' = 0) ∧ ∀ i j, i < n → j < n → piv i = piv j → i = j) ∧ ∀ r, n ≤ r → r < L → ∀ c', c' < c → b r c' = 0
theorem rk_fin {p : Nat} [NeZero p] {w L c n : Nat} {a b : Nat → Nat → Fin p} (hF : isField p) (h : RkI w L a b c n) (hc : c ≤ w) (he : c = w ∨ n = L) : dm w (upto (mrow w a) L) = n := by
  obtain ⟨h1, h2, ⟨piv, h3, h4⟩, h5⟩ := h
  rw [dm_cong h1]
  have hz : ∀ i j, w ≤ j → mrow w b i j = 0 := fun i j hj => if_neg (by omega)
  apply Nat.le_antisymm
  · have : ∀ v, upto (mrow w b) L v → upto (mrow w b) n v := upto_le (fun i hi => by
      by_cases q : i < n
      · exact upto_of q
      · have : mrow w b i = fun _ => 0 := by
          funext j
          unfold mrow
          by_cases z : j < w
          · rw [if_pos z]
            rcases he with e | e
            · exact h5 i (by omega) hi j (by omega)
            · omega
          · rw [if_neg z]
        rw [this]; exact (Spn_sub _).1)
    exact Nat.le_trans (dm_mono this) (dm_upto hF hz n)
  · unfold dm
    have e : n = ct (fun _ => true) n := by
      have : ∀ n, ct (fun _ => true) n = n := by
        intro n
        induction n with
        | zero => rfl
        | succ n ih => rw [ct_succ_t rfl, ih]
      rw [this]
    rw [e]
    refine ct_map_le piv n _ (fun i hi _ => ?_) (fun i j hi hj _ _ e => h4 i j hi hj e)
    obtain ⟨p1, p2, p3⟩ := h3 i hi
    refine ⟨by omega, leadB_iff.mpr ⟨mrow w b i, upto_of (by omega), ?_, fun j hj => ?_⟩⟩
    · unfold mrow; rw [if_pos (by omega)]; exact p2
    · unfold mrow; rw [if_pos (by omega)]; exact p3 j hj
/-- two rows change places -/
def swp {p : Nat} [NeZero p] (b : Nat → Nat → Fin p) (n y : Nat) : Nat → Nat → Fin p := fun r c => if r = n then b y c else if r = y then b n c else b r c
/-- the rows behind n are cleared at c -/
def elm {p : Nat} [NeZero p] (s : Nat → Nat → Fin p) (n c : Nat) (v : Fin p) (t : Nat) : Nat → Nat → Fin p := fun r c' => if n < r ∧ r < t then s r c' - v * s r c * s n c' else s r c'
theorem rk_none {p : Nat} [NeZero p] {w L c n : Nat} {a b : Nat → Nat → Fin p} (h : RkI w L a b c n) (hz : ∀ r, n ≤ r → r < L → b r c = 0) : RkI w L a b (c + 1) n := by
  obtain ⟨h1, h2, ⟨piv, h3, h4⟩, h5⟩ := h
  refine ⟨h1, h2, ⟨piv, fun i hi => ⟨by have := (h3 i hi).1; omega, (h3 i hi).2⟩, h4⟩, fun r hr hL c' hc' => ?_⟩
  by_cases q : c' = c
  · rw [q]; exact hz r hr hL
  · exact h5 r hr hL c' (by omega)
theorem rk_step {p : Nat} [NeZero p] {w L c n y : Nat} {a b : Nat → Nat → Fin p} (h : RkI w L a b c n) (hc : c < w) (hn : n < L) (hy1 : n ≤ y) (hy : y < L) (hne : b y c ≠ 0) {v : Fin p} (hv : v * b y c = 1) : RkI w L a (elm (swp b n y) n c v L) (c + 1) (n + 1) := by
  obtain ⟨h1, h2, ⟨piv, h3, h4⟩, h5⟩ := h
  have es : ∀ r, swp b n y r = if r = n then b y else if r = y then b n else b r := by
    intro r; funext c'; unfold swp; split
    · rfl
    · split <;> rfl
  have hs0 : ∀ r, n ≤ r → r < L → ∀ c', c' < c → swp b n y r c' = 0 := by
    intro r hr hL c' hc'
    unfold swp
    split
    · exact h5 y hy1 hy c' hc'
    · split
      · exact h5 n (Nat.le_refl _) hn c' hc'
      · exact h5 r hr hL c' hc'
  have hsn : ∀ c', swp b n y n c' = b y c' := fun c' => if_pos rfl
  have hlow : ∀ i, i < n → ∀ c', elm (swp b n y) n c v L i c' = b i c' := by
    intro i hi c'
    unfold elm swp
    rw [if_neg (by omega), if_neg (by omega), if_neg (by omega)]
  -- rows of the one among those of the other
  have r1 : ∀ r, r < L → upto (mrow w b) L (mrow w (swp b n y) r) := by
    intro r hr
    have : mrow w (swp b n y) r = mrow w b (if r = n then y else if r = y then n else r) := by
      funext c'
      unfold mrow swp
      by_cases q : r = n
      · rw [if_pos q, if_pos q]
      · rw [if_neg q, if_neg q]
        by_cases z : r = y
        · rw [if_pos z, if_pos z]
        · rw [if_neg z, if_neg z]
    rw [this]
    refine upto_of ?_
    split
    · exact hy
    · split <;> omega
  have r2 : ∀ r, r < L → upto (mrow w (swp b n y)) L (mrow w b r) := by
    intro r hr
    have : mrow w b r = mrow w (swp b n y) (if r = n then y else if r = y then n else r) := by
      funext c'
      unfold mrow swp
      by_cases q : r = n
      · rw [if_pos q]
        by_cases z : y = n
        · rw [if_pos z, q, z]
        · rw [if_neg z, if_pos rfl, q]
      · rw [if_neg q]
        by_cases z : r = y
        · rw [if_pos z, if_pos rfl, z]
        · rw [if_neg z, if_neg q, if_neg z]
    rw [this]
    refine upto_of ?_
    split
    · exact hy
    · split <;> omega
  have r3 : ∀ r, r < L → upto (mrow w (swp b n y)) L (mrow w (elm (swp b n y) n c v L) r) := by
    intro r hr
    by_cases q : n < r
    · have := (Spn_sub (fun s => ∃ i, i < L ∧ s = mrow w (swp b n y) i)).msub (v * swp b n y r c) (Spn_of ⟨r, hr, rfl⟩) (Spn_of ⟨n, hn, rfl⟩)
      have e : mrow w (elm (swp b n y) n c v L) r = fun i => mrow w (swp b n y) r i - v * swp b n y r c * mrow w (swp b n y) n i := by
        funext c'
        unfold mrow elm
        by_cases z : c' < w
        · rw [if_pos z, if_pos z, if_pos z, if_pos ⟨q, hr⟩]
        · rw [if_neg z, if_neg z, if_neg z]; grind
      rw [e]; exact this
    · have e : mrow w (elm (swp b n y) n c v L) r = mrow w (swp b n y) r := by
        funext c'
        unfold mrow elm
        rw [if_neg (show ¬ (n < r ∧ r < L) by omega)]
      rw [e]; exact upto_of hr
  have en : mrow w (elm (swp b n y) n c v L) n = mrow w (swp b n y) n := by
    funext c'
    unfold mrow elm
    rw [if_neg (show ¬ (n < n ∧ n < L) by omega)]
  have r4 : ∀ r, r < L → upto (mrow w (elm (swp b n y) n c v L)) L (mrow w (swp b n y) r) := by
    intro r hr
    by_cases q : n < r
    · have := (Spn_sub (fun s => ∃ i, i < L ∧ s = mrow w (elm (swp b n y) n c v L) i)).2 _ _ (v * swp b n y r c) (Spn_of ⟨r, hr, rfl⟩) (Spn_of ⟨n, hn, rfl⟩)
      rw [en] at this
      have e : mrow w (swp b n y) r = fun i => mrow w (elm (swp b n y) n c v L) r i + v * swp b n y r c * mrow w (swp b n y) n i := by
        funext c'
        unfold mrow elm
        by_cases z : c' < w
        · rw [if_pos z, if_pos z, if_pos z, if_pos ⟨q, hr⟩]; grind
        · rw [if_neg z, if_neg z, if_neg z]; grind
      rw [e]; exact this
    · have e : mrow w (swp b n y) r = mrow w (elm (swp b n y) n c v L) r := by
        funext c'
        unfold mrow elm
        rw [if_neg (show ¬ (n < r ∧ r < L) by omega)]
      rw [e]; exact upto_of hr
  refine ⟨fun u => ⟨fun hu => upto_le r4 u (upto_le r2 u ((h1 u).mp hu)), fun hu => (h1 u).mpr (upto_le r1 u (upto_le r3 u hu))⟩, by omega, ⟨fun i => if i = n then c else piv i, fun i hi => ?_, fun i j hi hj e => ?_⟩, fun r hr hL c' hc' => ?_⟩
  · by_cases q : i = n
    · subst q
      have e : ∀ c', elm (swp b i y) i c v L i c' = b y c' := fun c' => by
        unfold elm; rw [if_neg (by omega)]; exact hsn c'
      simp only [if_pos]
      refine ⟨by omega, by rw [e]; exact hne, fun c' hc' => by rw [e]; exact h5 y hy1 hy c' hc'⟩
    · have hi' : i < n := by omega
      simp only [if_neg q]
      obtain ⟨p1, p2, p3⟩ := h3 i hi'
      exact ⟨by omega, by rw [hlow i hi']; exact p2, fun c' hc' => by rw [hlow i hi']; exact p3 c' hc'⟩
  · simp only at e
    by_cases q : i = n
    · by_cases q' : j = n
      · omega
      · rw [if_pos q, if_neg q'] at e
        have := (h3 j (by omega)).1; omega
    · by_cases q' : j = n
      · rw [if_neg q, if_pos q'] at e
        have := (h3 i (by omega)).1; omega
      · rw [if_neg q, if_neg q'] at e
        exact h4 i j (by omega) (by omega) e
  · unfold elm
    rw [if_pos ⟨by omega, hL⟩]
    by_cases q : c' = c
    · rw [q, hsn]
      have : v * swp b n y r c * b y c = swp b n y r c * (v * b y c) := by grind
      rw [this, hv]; grind
    · rw [hs0 r (by omega) hL c' (by omega), hs0 n (Nat.le_refl _) hn c' (by omega)]; grind
section RK
variable {M : Mem} {I : Nat → Nat → Int32} {p : Nat}
theorem sp_rankOf [NeZero p] {w L : Nat} {a : Nat → Nat → Fin p} {post : Int32 → Mem → Prop} (hM : MdOK M) (hI2 : I 199 2 = nI p) (hp : prm p = true) (hwL : w * L ≤ 30000) (hw : w < 30000) (hL : L < 30000) (hR : MxR w L (I 207) a) (h : ∀ f, post (nI (dm w (upto (mrow w a) L))) (wI M (sAll I 207 f))) : T_Mo_rankOf 199 (nI L) (nI w) (wI M I) post := by
  have hM' := hM
  obtain ⟨k4, r0, r6, r7, r9, r10, r11, r13, r14, r15, r17, a5, a6, a7, a8, a9, a10, a11, a12, a13, a14⟩ := hM'
  have hp2 := prm_lt hp
  have hF := prm_field hp
  have ix : ∀ {r c : Nat}, r < L → c < w → w * r + c < 30000 := fun hr hc => Nat.lt_of_lt_of_le (ix_lt hr hc) hwL
  have I2 : ∀ f, sAll I 207 f 199 2 = nI p := fun f => by rw [sAll_ne (by omega)]; exact hI2
  have := pk_loop (σ := (Nat → Int32) × Nat) (fun N c s => L_Mo_rankOf_5 post N 199 (nI L) (nI w) (nI s.2) (nI c) (wI M (sAll I 207 s.1))) (fun c s => c ≤ w ∧ ∃ b, MxR w L s.1 b ∧ RkI w L a b c s.2) w 0 (I 207, 0) (by omega) ⟨by omega, a, hR, fun _ => Iff.rfl, by omega, ⟨fun _ => 0, fun i hi => absurd hi (Nat.not_lt_zero i), fun i j hi => absurd hi (Nat.not_lt_zero i)⟩, fun r _ _ c' hc' => absurd hc' (Nat.not_lt_zero c')⟩ ?_ ?_
  · simp only [sAll_self] at this
    exact this
  · intro N ⟨f, m⟩ ⟨_, b, hb, hI⟩
    show B_Mo_rankOf_5 (L_Mo_rankOf_5 post N) post 199 _ _ _ _ _
    refine ⟨fun _ => ?_, fun q => absurd (Int32.le_refl _) q⟩
    have e := rk_fin hF hI (Nat.le_refl _) (Or.inl rfl)
    have hh := h f
    rw [e] at hh
    exact hh
  · intro N c ⟨f, m⟩ hc ⟨_, b, hb, hI⟩ ih
    have hb : MxR w L f b := hb
    have hI : RkI w L a b c m := hI
    have hmL := hI.2.1
    show B_Mo_rankOf_5 (L_Mo_rankOf_5 post N) post 199 _ _ (nI m) _ (wI M (sAll I 207 f))
    unfold B_Mo_rankOf_5 B_Mo_rankOf_252
    rw [nI_leI (by omega) (by omega), nI_leI (by omega) (by omega)]
    refine ⟨fun q => absurd q (by omega), fun _ => ⟨fun q => ?_, fun q => ?_⟩⟩
    · have e := rk_fin hF hI (by omega) (Or.inr (by omega))
      have hh := h f
      rw [e] at hh
      exact hh
    -- a row with a number at c
    have found : ∀ y, m ≤ y → y < L → b y c ≠ 0 → ∃ N', L_Mo_rankOf_58 (L_Mo_rankOf_5 post N) post N' 199 (nI L) (nI w) (nI m) (nI c) (nI y) 0 (wI M (sAll I 207 f)) := by
      intro y hy1 hy hne
      have hyx : ∀ t, t < w → w * y + t < 30000 := fun t ht => ix hy ht
      have hmx : ∀ t, t < w → w * m + t < 30000 := fun t ht => ix (by omega) ht
      refine pk_loop (σ := Nat → Int32) (fun K t g => L_Mo_rankOf_58 (L_Mo_rankOf_5 post N) post K 199 (nI L) (nI w) (nI m) (nI c) (nI y) (nI t) (wI M (sAll I 207 g))) (fun t g => MxR w L g (fun r c' => if c' < t then swp b m y r c' else b r c')) w 0 f (by omega) (MxR_cong hb (fun r _ c' _ => if_neg (Nat.not_lt_zero c'))) ?_ ?_
      · intro K g hg
        have hs : MxR w L g (swp b m y) := MxR_cong hg (fun r _ c' hc' => by rw [if_pos hc'])
        have hvc := hs m (by omega) c hc
        have esm : swp b m y m c = b y c := if_pos rfl
        rw [esm] at hvc
        have hmc := hmx c hc
        show B_Mo_rankOf_58 _ (L_Mo_rankOf_58 _ post K) post 199 _ _ _ _ _ _ _
        unfold B_Mo_rankOf_58
        rw [nI_leI (by omega) (by omega), pk_mul, nI_add]
        refine ⟨fun _ => ⟨k4, 207, r14, arr_A a12 hmc (by omega), k4, ?_⟩, fun q => absurd (Nat.le_refl _) q⟩
        rw [gI_wI, nI_clamp (by omega), sAll_eq, hvc]
        refine sp_Moinv hM (I2 g) hp hne rfl (fun v hv => ?_)
        rw [nI_1]
        -- the rows behind
        refine pk_loop (σ := Nat → Int32) (fun K r g' => L_Mo_rankOf_142 (L_Mo_rankOf_5 post N) post K 199 (nI L) (nI w) (nI m) (nI c) (nI v.val) (nI r) (wI M (sAll I 207 g'))) (fun r g' => m < r ∧ MxR w L g' (elm (swp b m y) m c v r)) L (m + 1) g (by omega) ⟨by omega, MxR_cong hs (fun r _ c' _ => by unfold elm; rw [if_neg (by omega)])⟩ ?_ ?_
        · intro K' g' ⟨_, hg'⟩
          show B_Mo_rankOf_142 _ (L_Mo_rankOf_142 _ post K') post 199 _ _ _ _ _ _ _
          unfold B_Mo_rankOf_142 B_Mo_rankOf_246
          rw [nI_1, nI_1]
          exact ⟨fun _ => ih (g', m + 1) ⟨by omega, _, hg', rk_step hI hc (by omega) hy1 hy hne hv⟩, fun q => absurd (Int32.le_refl _) q⟩
        · intro K' r g' hr ⟨hmr, hg'⟩ ihr
          have hrx : ∀ t, t < w → w * r + t < 30000 := fun t ht => ix hr ht
          have hrc := hrx c hc
          have e1 : g' (w * r + c) = nI (swp b m y r c).val := by
            rw [hg' r hr c hc]; unfold elm; rw [if_neg (by omega)]
          show B_Mo_rankOf_142 _ (L_Mo_rankOf_142 _ post K') post 199 _ _ _ _ _ _ _
          unfold B_Mo_rankOf_142
          rw [nI_leI (by omega) (by omega), pk_mul, nI_add]
          refine ⟨fun q => absurd q (by omega), fun _ => ⟨k4, 207, r14, arr_A a12 hrc (by omega), k4, ?_⟩⟩
          rw [gI_wI, nI_clamp (by omega), sAll_eq, e1]
          refine sp_modM hM (I2 g') hp2 rfl rfl ?_
          have hend : ∀ g2, MxR w L g2 (elm (swp b m y) m c v (r + 1)) → L_Mo_rankOf_142 (L_Mo_rankOf_5 post N) post K' 199 (nI L) (nI w) (nI m) (nI c) (nI v.val) (nI r + 1) (wI M (sAll I 207 g2)) := fun g2 h2 => by
            rw [nI_1]; exact ihr g2 ⟨by omega, h2⟩
          by_cases hz : v * swp b m y r c = 0
          · refine ⟨1, ?_⟩
            show B_Mo_rankOf_174 _ _ _ post 199 _ _ _ _ _ _ _ _ _
            unfold B_Mo_rankOf_174 B_Mo_rankOf_237
            have hsame : MxR w L g' (elm (swp b m y) m c v (r + 1)) := MxR_cong hg' (fun r' hr' c' hc' => by
              unfold elm
              by_cases z : m < r' ∧ r' < r
              · rw [if_pos z, if_pos (by omega)]
              · rw [if_neg z]
                by_cases z2 : m < r' ∧ r' < r + 1
                · rw [if_pos z2]
                  have : r' = r := by omega
                  rw [this, hz]; grind
                · rw [if_neg z2])
            refine ⟨fun _ => hend g' hsame, fun _ => ⟨fun _ => hend g' hsame, fun q => absurd ?_ q⟩⟩
            rw [hz, show (0 : Fin p).val = 0 from Nat.zero_mod p]; rfl
          · refine pk_loop (σ := Nat → Int32) (fun K2 t g2 => L_Mo_rankOf_174 (L_Mo_rankOf_5 post N) (L_Mo_rankOf_142 (L_Mo_rankOf_5 post N) post K') post K2 199 (nI L) (nI w) (nI m) (nI c) (nI v.val) (nI r) (nI (v * swp b m y r c).val) (nI t) (wI M (sAll I 207 g2))) (fun t g2 => MxR w L g2 (fun r' c' => if r' = r ∧ c' < t then swp b m y r c' - v * swp b m y r c * swp b m y m c' else elm (swp b m y) m c v r r' c')) w 0 g' (by omega) (MxR_cong hg' (fun r' _ c' _ => by rw [if_neg (by omega)])) ?_ ?_
            · intro K2 g2 hg2
              show B_Mo_rankOf_174 _ _ (L_Mo_rankOf_174 _ _ post K2) post 199 _ _ _ _ _ _ _ _ _
              unfold B_Mo_rankOf_174 B_Mo_rankOf_237
              refine ⟨fun _ => hend g2 (MxR_cong hg2 (fun r' hr' c' hc' => ?_)), fun q => absurd (Int32.le_refl _) q⟩
              unfold elm
              by_cases z : r' = r
              · rw [if_pos (show m < r' ∧ r' < r + 1 by omega), if_pos ⟨z, hc'⟩, z]
              · rw [if_neg (show ¬ (r' = r ∧ c' < w) from fun y => z y.1)]
                by_cases z2 : m < r' ∧ r' < r
                · rw [if_pos z2, if_pos (show m < r' ∧ r' < r + 1 by omega)]
                · rw [if_neg z2, if_neg (show ¬ (m < r' ∧ r' < r + 1) by omega)]
            · intro K2 t g2 ht hg2 ih2
              have x1 := hrx t ht
              have x2 := hmx t ht
              have u1 : g2 (w * r + t) = nI (swp b m y r t).val := by
                rw [hg2 r hr t ht]
                dsimp only
                rw [if_neg (by omega)]
                unfold elm; rw [if_neg (by omega)]
              have u2' : g2 (w * m + t) = nI (swp b m y m t).val := by
                rw [hg2 m (by omega) t ht]
                dsimp only
                rw [if_neg (by omega)]
                unfold elm; rw [if_neg (by omega)]
              show B_Mo_rankOf_174 _ _ (L_Mo_rankOf_174 _ _ post K2) post 199 _ _ _ _ _ _ _ _ _
              unfold B_Mo_rankOf_174 B_Mo_rankOf_237
              rw [nI_leI (by omega) (by omega), pk_mul, pk_mul, nI_add, nI_add, nI_1 t]
              refine ⟨fun q => absurd q (by omega), fun _ => ⟨fun q => absurd ((val_ne hp2.2 _).mp q) hz, fun _ => ⟨k4, 207, r14, k4, 207, r14, arr_A a12 x1 (by omega), k4, 207, r14, arr_A a12 x2 (by omega), k4, ?_⟩⟩⟩
              rw [gI_wI, gI_wI, nI_clamp (by omega), nI_clamp (by omega), sAll_eq, u1, u2']
              refine sp_modS hM (I2 g2) hp2 rfl rfl rfl ⟨arr_A a12 x1 (by omega), ?_⟩
              rw [sI_wI, u2_sAll]
              refine ih2 _ (MxR_upd hg2 hr ht (fun r' hr' c' hc' => ?_))
              by_cases z : r' = r ∧ c' = t
              · rw [if_pos z, if_pos ⟨z.1, by omega⟩, z.2]
              · rw [if_neg z]
                by_cases z2 : r' = r ∧ c' < t
                · rw [if_pos z2, if_pos ⟨z2.1, by omega⟩]
                · rw [if_neg z2, if_neg (by omega)]
      · intro K t g ht hg ih2
        have x1 := hyx t ht
        have x2 := hmx t ht
        have u1 : g (w * y + t) = nI (b y t).val := by rw [hg y hy t ht]; dsimp only; rw [if_neg (by omega)]
        have u2' : g (w * m + t) = nI (b m t).val := by rw [hg m (by omega) t ht]; dsimp only; rw [if_neg (by omega)]
        show B_Mo_rankOf_58 _ (L_Mo_rankOf_58 _ post K) post 199 _ _ _ _ _ _ _
        unfold B_Mo_rankOf_58
        rw [nI_leI (by omega) (by omega), pk_mul w m, pk_mul w y, nI_add (w * y) t, nI_add (w * m) t, nI_1 t]
        refine ⟨fun q => absurd q (by omega), fun _ => ⟨k4, 207, r14, arr_A a12 x1 (by omega), k4, 207, r14, k4, 207, r14, arr_A a12 x2 (by omega), arr_A a12 x1 (by omega), k4, 207, r14, arr_A a12 x2 (by omega), ?_⟩⟩
        rw [gI_wI, gI_wI, nI_clamp (show w * y + t < 2 ^ 31 by omega), nI_clamp (show w * m + t < 2 ^ 31 by omega), sI_wI, sI_wI, sAll_eq, u1, u2', u2_sAll, u2_sAll]
        refine ih2 _ (MxR_upd (MxR_upd (b' := fun r c' => if r = y ∧ c' = t then b m t else if c' < t then swp b m y r c' else b r c') hg hy ht (fun r' _ c' _ => rfl)) (by omega) ht (fun r' hr' c' hc' => ?_))
        by_cases z : c' = t
        · subst z
          rw [if_pos (show c' < c' + 1 by omega), if_neg (show ¬ c' < c' by omega)]
          unfold swp
          by_cases z2 : r' = m
          · rw [if_pos z2, if_pos (show r' = m ∧ c' = c' from ⟨z2, rfl⟩)]
          · rw [if_neg z2, if_neg (show ¬ (r' = m ∧ c' = c') from fun v => z2 v.1)]
            by_cases z3 : r' = y
            · rw [if_pos z3, if_pos (show r' = y ∧ c' = c' from ⟨z3, rfl⟩)]
            · rw [if_neg z3, if_neg (show ¬ (r' = y ∧ c' = c') from fun v => z3 v.1)]
        · rw [if_neg (show ¬ (r' = m ∧ c' = t) from fun v => z v.2), if_neg (show ¬ (r' = y ∧ c' = t) from fun v => z v.2)]
          by_cases z2 : c' < t
          · rw [if_pos z2, if_pos (show c' < t + 1 by omega)]
          · rw [if_neg z2, if_neg (show ¬ c' < t + 1 by omega)]
    refine pk_loop (σ := Unit) (fun K y _ => L_Mo_rankOf_19 (L_Mo_rankOf_5 post N) post K 199 (nI L) (nI w) (nI m) (nI c) (nI y) (wI M (sAll I 207 f))) (fun y _ => m ≤ y ∧ ∀ r, m ≤ r → r < y → b r c = 0) L m () (by omega) ⟨Nat.le_refl _, fun r h1 h2 => by omega⟩ ?_ ?_
    · intro K _ ⟨_, hz⟩
      show B_Mo_rankOf_19 _ (L_Mo_rankOf_19 _ post K) post 199 _ _ _ _ _ _
      unfold B_Mo_rankOf_19 B_Mo_rankOf_46 B_Mo_rankOf_246
      rw [nI_1]
      exact ⟨fun _ => ⟨fun q => absurd rfl q, fun _ => ih (f, m) ⟨by omega, b, hb, rk_none hI hz⟩⟩, fun q => absurd (Int32.le_refl _) q⟩
    · intro K y _ hy ⟨hy1, hz⟩ ihy
      have x1 := ix hy hc
      have u1 := hb y hy c hc
      show B_Mo_rankOf_19 _ (L_Mo_rankOf_19 _ post K) post 199 _ _ _ _ _ _
      unfold B_Mo_rankOf_19 B_Mo_rankOf_46
      rw [nI_leI (by omega) (by omega), pk_mul, nI_add, nI_1 y]
      refine ⟨fun q => absurd q (by omega), fun _ => ⟨k4, 207, r14, arr_A a12 x1 (by omega), ?_⟩⟩
      rw [gI_wI, nI_clamp (by omega), sAll_eq, u1, val_ne hp2.2]
      refine ⟨fun q => ⟨fun _ => found y hy1 hy q, fun q2 => ?_⟩, fun q => ihy () ⟨by omega, fun r h1 h2 => ?_⟩⟩
      · rw [nI_eq (by omega) (by omega)] at q2; omega
      · by_cases z : r = y
        · rw [z]; exact q
        · exact hz r h1 (by omega)
end RK
