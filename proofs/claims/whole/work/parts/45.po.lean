/-! Polynomial: what is held, by degree and place -/
def PoOK (M : Mem) (a : Nat) : Prop := (isK M a 3 ∧ gR M a 0 = some 1) ∧ gR M a 1 = some (a + 1) ∧ arr M (a + 1) 8 286
theorem cpM_wI (M : Mem) (I : Nat → Nat → Int32) (a : Nat) (sp : Int32) (b : Nat) (dp n : Int32) : cpM (wI M I) a sp b dp n = wI M (sAll I b (va_cpy (I a) (I b) sp.toNatClampNeg dp.toNatClampNeg n.toNatClampNeg)) := rfl
theorem cpOk_nI {M : Mem} {I : Nat → Nat → Int32} {a b la lb sp dp n : Nat} (ha : arr M a 8 la) (hb : arr M b 8 lb) (hla : la < 2147483648) (hlb : lb < 2147483648) (h1 : sp + n ≤ la) (h2 : dp + n ≤ lb) : cpOk (wI M I) a (nI sp) b (nI dp) (nI n) := by
  refine ⟨⟨⟨ha.1, hb.1⟩, nI_pos (by omega), nI_pos (by omega), nI_pos (by omega)⟩, ?_, ?_⟩
  · rw [nI_clamp (by omega), nI_clamp (by omega), ln_wI, ha.2]; exact h1
  · rw [nI_clamp (by omega), nI_clamp (by omega), ln_wI, hb.2]; exact h2
/-- f holds the polynomial F, its parts by degree -/
def Rep {p : Nat} [NeZero p] (f : Nat → Int32) (F : Nat → Mo2 → Fin p) : Prop := ∀ d, d ≤ 10 → ∀ m : Mo2, m.1 + m.2 ≤ d → f (fr d + pl m) = nI (F d m).val
/-- g holds f, a part of degree d -/
def RepV {p : Nat} [NeZero p] (d : Nat) (g : Nat → Int32) (f : Mo2 → Fin p) : Prop := ∀ m : Mo2, m.1 + m.2 ≤ d → g (pl m) = nI (f m).val
theorem fr_inj' : ∀ d, d < 11 → ∀ e, e < 11 → e < d → fr (e + 1) ≤ fr d := by decide +kernel
theorem fr_pl_inj {d e : Nat} {m k : Mo2} (hd : d ≤ 10) (he : e ≤ 10) (hm : m.1 + m.2 ≤ d) (hk : k.1 + k.2 ≤ e) (h : fr d + pl m = fr e + pl k) : d = e ∧ m = k := by
  have h1 := pl_deg hd hm
  have h2 := pl_deg he hk
  have e1 : d = e := by
    rcases Nat.lt_trichotomy d e with q | q | q
    · have := fr_inj' e (by omega) d (by omega) q; omega
    · exact q
    · have := fr_inj' d (by omega) e (by omega) q; omega
  subst e1
  exact ⟨rfl, pl_inj (by omega) (by omega) (by omega)⟩
/-- degree and product of a place of held -/
def djL : List (Nat × Mo2) := (List.range 11).flatMap (fun d => (List.range (fr (d + 1) - fr d)).map (fun q => (d, unp q)))
def dj (j : Nat) : Nat × Mo2 := djL.getD j (0, (0, 0))
theorem dj_ok : ∀ j, j < 286 → (dj j).1 < 11 ∧ (dj j).2.1 + (dj j).2.2 ≤ (dj j).1 ∧ fr (dj j).1 + pl (dj j).2 = j := by decide +kernel
theorem dj_fr {d : Nat} {m : Mo2} (hd : d ≤ 10) (hm : m.1 + m.2 ≤ d) : dj (fr d + pl m) = (d, m) := by
  have h1 := pl_deg hd hm
  have h2 := fr_le d (by omega)
  obtain ⟨a, b, c⟩ := dj_ok (fr d + pl m) (by omega)
  obtain ⟨e1, e2⟩ := fr_pl_inj (by omega) hd b hm c
  apply Prod.ext
  · exact e1
  · exact e2
theorem Rep_at {p : Nat} [NeZero p] {f : Nat → Int32} {F : Nat → Mo2 → Fin p} (h : Rep f F) {j : Nat} (hj : j < 286) : f j = nI (F (dj j).1 (dj j).2).val := by
  obtain ⟨a, b, c⟩ := dj_ok j hj
  have := h (dj j).1 (by omega) (dj j).2 b
  rw [c] at this; exact this
def szP {p : Nat} [NeZero p] (F : Nat → Mo2 → Fin p) : Nat := ct (fun j => decide (F (dj j).1 (dj j).2 ≠ 0)) 286
def szD {p : Nat} [NeZero p] (F : Nat → Mo2 → Fin p) (d : Nat) : Nat := ct (fun q => decide (F d (unp q) ≠ 0)) (fr (d + 1) - fr d)
theorem val_ne {p : Nat} [NeZero p] (hp : p ≤ 97) (a : Fin p) : nI a.val = 0 ↔ a = 0 := by
  have := a.isLt
  rw [show (0 : Int32) = nI 0 from rfl, nI_eq (by omega) (by omega)]
  constructor
  · intro h; apply Fin.ext; rw [h]; exact (Nat.zero_mod p).symm
  · intro h; rw [h]; exact Nat.zero_mod p
section POS
variable {M : Mem} {I : Nat → Nat → Int32} {n ord p a : Nat}
theorem sp_numberAt {d : Nat} {m : Mo2} {post : Int32 → Mem → Prop} (hM : PoOK M a) (hd : d ≤ 10) (hm : m.1 + m.2 ≤ d) (h : post (I (a + 1) (fr d + pl m)) (wI M I)) : T_Po_numberAt a (nI d) (nI (pl m)) (wI M I) post := by
  have h1 := pl_deg hd hm
  have h2 := fr_le d (by omega)
  refine ⟨hM.1.1, a + 1, hM.2.1, (in_nI (by omega) (by omega)).mpr (by omega), ?_, ?_⟩
  · rw [nI_clamp (by omega), fst_fr d (by omega), nI_add]; exact arr_A hM.2.2 (by omega) (by omega)
  · rw [nI_clamp (show d < 2147483648 by omega), fst_fr d (by omega), nI_add, nI_clamp (by omega), gI_wI]; exact h
theorem sp_setNumber {d : Nat} {m : Mo2} {v : Int32} {post : Mem → Prop} (hM : PoOK M a) (hd : d ≤ 10) (hm : m.1 + m.2 ≤ d) (h : post (wI M (u2 I (a + 1) (fr d + pl m) v))) : T_Po_setNumber a (nI d) (nI (pl m)) v (wI M I) post := by
  have h1 := pl_deg hd hm
  have h2 := fr_le d (by omega)
  refine ⟨hM.1.1, a + 1, hM.2.1, (in_nI (by omega) (by omega)).mpr (by omega), ?_, ?_⟩
  · rw [nI_clamp (by omega), fst_fr d (by omega), nI_add]; exact arr_A hM.2.2 (by omega) (by omega)
  · rw [nI_clamp (show d < 2147483648 by omega), fst_fr d (by omega), nI_add, nI_clamp (by omega), sI_wI]; exact h
theorem sp_Poclear {post : Mem → Prop} (hM : PoOK M a) (h : ∀ f, (∀ j, j < 286 → f j = 0) → post (wI M (sAll I (a + 1) f))) : T_Po_clear a (wI M I) post :=
  ⟨hM.1.1, a + 1, hM.2.1, sp_fill2 hM.2.2 (by omega) (h _ (fun j hj => by rw [if_pos hj]))⟩
theorem sp_Pobecome {b : Nat} {post : Mem → Prop} (hM : PoOK M a) (hB : PoOK M b) (h : ∀ f, (∀ j, j < 286 → f j = I (b + 1) j) → post (wI M (sAll I (a + 1) f))) : T_Po_become a b (wI M I) post := by
  refine ⟨hB.1.1, b + 1, hB.2.1, hM.1.1, a + 1, hM.2.1, ?_, ?_⟩
  · exact cpOk_nI (sp := 0) (dp := 0) (n := 286) hB.2.2 hM.2.2 (by omega) (by omega) (by omega) (by omega)
  · rw [cpM_wI]
    refine h _ (fun j hj => ?_)
    show va_cpy _ _ 0 0 286 j = _
    rw [pk_cpy_in (by omega) (by omega)]
    congr 1; omega
theorem sp_loadPart {d c len : Nat} {post : Mem → Prop} (hM : PoOK M a) (hd : d ≤ 10) (hc : arr M c 8 len) (hl : fr (d + 1) - fr d ≤ len) (hl2 : len < 2147483648) (h : ∀ f, (∀ q, q < fr (d + 1) - fr d → f q = I (a + 1) (fr d + q)) → (∀ q, fr (d + 1) - fr d ≤ q → f q = I c q) → post (wI M (sAll I c f))) : T_Po_loadPart a (nI d) c (wI M I) post := by
  have h2 := fr_le d (by omega)
  unfold T_Po_loadPart
  rw [nI_1, nI_clamp (show d < 2147483648 by omega), nI_clamp (show d + 1 < 2147483648 by omega), fst_fr d (by omega), fst_fr (d + 1) (by omega), pk_sub (by omega)]
  refine ⟨(in_nI (by omega) (by omega)).mpr (by omega), hM.1.1, a + 1, hM.2.1, (in_nI (by omega) (by omega)).mpr (by omega), cpOk_nI (dp := 0) hM.2.2 hc (by omega) hl2 (by omega) (by omega), ?_⟩
  rw [cpM_wI]
  refine h _ (fun q hq => ?_) (fun q hq => ?_)
  · rw [nI_clamp (show fr d < 2147483648 by omega), nI_clamp (show fr (d + 1) - fr d < 2147483648 by omega)]
    show va_cpy _ _ (fr d) 0 _ q = _
    rw [pk_cpy_in (by omega) (by omega)]
    congr 1
  · rw [nI_clamp (show fr d < 2147483648 by omega), nI_clamp (show fr (d + 1) - fr d < 2147483648 by omega)]
    show va_cpy _ _ (fr d) 0 _ q = _
    rw [pk_cpy_out (by omega)]
theorem sp_setPart {d c len : Nat} {post : Mem → Prop} (hM : PoOK M a) (hd : d ≤ 10) (hc : arr M c 8 len) (hl : fr (d + 1) - fr d ≤ len) (hl2 : len < 2147483648) (h : ∀ f, (∀ q, q < fr (d + 1) - fr d → f (fr d + q) = I c q) → (∀ j, j < fr d ∨ fr (d + 1) ≤ j → f j = I (a + 1) j) → post (wI M (sAll I (a + 1) f))) : T_Po_setPart a (nI d) c (wI M I) post := by
  have h2 := fr_le d (by omega)
  unfold T_Po_setPart
  rw [nI_1, nI_clamp (show d < 2147483648 by omega), nI_clamp (show d + 1 < 2147483648 by omega), fst_fr d (by omega), fst_fr (d + 1) (by omega), pk_sub (by omega)]
  refine ⟨(in_nI (by omega) (by omega)).mpr (by omega), hM.1.1, a + 1, hM.2.1, (in_nI (by omega) (by omega)).mpr (by omega), cpOk_nI (sp := 0) hc hM.2.2 hl2 (by omega) (by omega) (by omega), ?_⟩
  rw [cpM_wI]
  refine h _ (fun q hq => ?_) (fun j hj => ?_)
  · rw [nI_clamp (show fr d < 2147483648 by omega), nI_clamp (show fr (d + 1) - fr d < 2147483648 by omega)]
    show va_cpy _ _ 0 (fr d) _ (fr d + q) = _
    rw [pk_cpy_in (by omega) (by omega)]
    congr 1; omega
  · rw [nI_clamp (show fr d < 2147483648 by omega), nI_clamp (show fr (d + 1) - fr d < 2147483648 by omega)]
    show va_cpy _ _ 0 (fr d) _ j = _
    rw [pk_cpy_out (by omega)]
theorem sp_Posize {p : Nat} [NeZero p] {F : Nat → Mo2 → Fin p} {post : Int32 → Mem → Prop} (hM : PoOK M a) (hp : p ≤ 97) (hR : Rep (I (a + 1)) F) (h : post (nI (szP F)) (wI M I)) : T_Po_size a (wI M I) post := by
  have key : ∀ r i, i + r = 286 → L_Po_size_4 post (r + 1) a (nI (ct (fun j => decide (F (dj j).1 (dj j).2 ≠ 0)) i)) (nI i) (wI M I) := by
    intro r
    induction r with
    | zero =>
      intro i hi
      have e : i = 286 := by omega
      subst e
      show B_Po_size_4 _ post a _ (nI 286) _
      unfold B_Po_size_4
      exact ⟨fun _ => h, fun q => absurd (by rw [show (286 : Int32) = nI 286 from rfl, nI_leI (by omega) (by omega)]; exact Nat.le_refl _) q⟩
    | succ r ih =>
      intro i hi
      show B_Po_size_4 (L_Po_size_4 post (r + 1)) post a _ (nI i) _
      unfold B_Po_size_4 B_Po_size_26
      have hih := ih (i + 1) (by omega)
      have hv := Rep_at hR (show i < 286 by omega)
      refine ⟨fun q => ?_, fun _ => ⟨hM.1.1, a + 1, hM.2.1, arr_A hM.2.2 (by omega) (by omega), fun q => ?_, fun q => ?_⟩⟩
      · rw [show (286 : Int32) = nI 286 from rfl, nI_leI (by omega) (by omega)] at q; omega
      · rw [gI_wI, nI_clamp (by omega), hv, val_ne hp] at q
        have e : ct (fun j => decide (F (dj j).1 (dj j).2 ≠ 0)) (i + 1) = ct (fun j => decide (F (dj j).1 (dj j).2 ≠ 0)) i + 0 := by
          show _ + (if decide _ = true then 1 else 0) = _
          rw [if_neg (by simp [q])]
        rw [e] at hih
        rw [show (0 : Int32) = nI 0 from rfl, nI_add, nI_1]; exact hih
      · rw [gI_wI, nI_clamp (by omega), hv, val_ne hp] at q
        have e : ct (fun j => decide (F (dj j).1 (dj j).2 ≠ 0)) (i + 1) = ct (fun j => decide (F (dj j).1 (dj j).2 ≠ 0)) i + 1 := by
          show _ + (if decide _ = true then 1 else 0) = _
          rw [if_pos (by simp [q])]
        rw [e] at hih
        rw [show (1 : Int32) = nI 1 from rfl, nI_add, nI_add]; exact hih
  exact ⟨_, key 286 0 (by omega)⟩
theorem sp_sizeOf {p : Nat} [NeZero p] {F : Nat → Mo2 → Fin p} {d : Nat} {post : Int32 → Mem → Prop} (hM : PoOK M a) (hp : p ≤ 97) (hR : Rep (I (a + 1)) F) (hd : d ≤ 10) (h : post (nI (szD F d)) (wI M I)) : T_Po_sizeOf a (nI d) (wI M I) post := by
  have h2 := fr_le d (by omega)
  have hin : vp_in (nI d + 1) 12 := by rw [nI_1]; exact (in_nI (by omega) (by omega)).mpr (by omega)
  have key : ∀ r i, i + r = fr (d + 1) - fr d → L_Po_sizeOf_8 post (r + 1) a (nI d) (nI (ct (fun q => decide (F d (unp q) ≠ 0)) i)) (nI (fr d + i)) (wI M I) := by
    intro r
    induction r with
    | zero =>
      intro i hi
      have e : i = fr (d + 1) - fr d := by omega
      subst e
      show B_Po_sizeOf_8 _ post a (nI d) _ (nI _) _
      unfold B_Po_sizeOf_8
      refine ⟨hin, fun _ => h, fun q => absurd ?_ q⟩
      rw [nI_1, nI_clamp (by omega), fst_fr (d + 1) (by omega), nI_leI (by omega) (by omega)]; omega
    | succ r ih =>
      intro i hi
      show B_Po_sizeOf_8 (L_Po_sizeOf_8 post (r + 1)) post a (nI d) _ (nI _) _
      unfold B_Po_sizeOf_8 B_Po_sizeOf_34
      have hih := ih (i + 1) (by omega)
      have h66 : i < 66 := by
        have : ∀ d, d < 11 → fr (d + 1) - fr d ≤ 66 := by decide +kernel
        have := this d (by omega)
        omega
      have hu := unp_ok i h66
      have hdg := unp_deg d (by omega) i h66 (by omega)
      have hv := hR d hd (unp i) hdg
      rw [hu.1] at hv
      refine ⟨hin, fun q => ?_, fun _ => ⟨hM.1.1, a + 1, hM.2.1, arr_A hM.2.2 (by omega) (by omega), fun q => ?_, fun q => ?_⟩⟩
      · rw [nI_1, nI_clamp (by omega), fst_fr (d + 1) (by omega), nI_leI (by omega) (by omega)] at q; omega
      · rw [gI_wI, nI_clamp (by omega), hv, val_ne hp] at q
        have e : ct (fun q => decide (F d (unp q) ≠ 0)) (i + 1) = ct (fun q => decide (F d (unp q) ≠ 0)) i + 0 := by
          show _ + (if decide _ = true then 1 else 0) = _
          rw [if_neg (by simp [q])]
        rw [e] at hih
        rw [show (0 : Int32) = nI 0 from rfl, nI_add, nI_1]; exact hih
      · rw [gI_wI, nI_clamp (by omega), hv, val_ne hp] at q
        have e : ct (fun q => decide (F d (unp q) ≠ 0)) (i + 1) = ct (fun q => decide (F d (unp q) ≠ 0)) i + 1 := by
          show _ + (if decide _ = true then 1 else 0) = _
          rw [if_pos (by simp [q])]
        rw [e] at hih
        rw [show (1 : Int32) = nI 1 from rfl, nI_add, nI_add]; exact hih
  refine ⟨(in_nI (by omega) (by omega)).mpr (by omega), ?_⟩
  rw [nI_clamp (by omega), fst_fr d (by omega)]
  exact ⟨_, key (fr (d + 1) - fr d) 0 (by omega)⟩
end POS
