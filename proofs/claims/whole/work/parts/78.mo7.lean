/-! the reference: the products of a degree in line -/
def befb (ord : Nat) (m m' : Mo2) : Bool := if ord = 0 then (decide (m.2 < m'.2) || (decide (m.2 = m'.2) && decide (m.1 < m'.1))) else (decide (m.1 + m.2 < m'.1 + m'.2) || (decide (m.1 + m.2 = m'.1 + m'.2) && decide (m.2 < m'.2)))
theorem befb_iff {ord : Nat} {a b : Mo2} : befb ord a b = true ↔ bef ord a b := by
  unfold befb bef
  by_cases h : ord = 0
  · rw [if_pos h, if_pos h]; simp
  · rw [if_neg h, if_neg h]; simp
/-- where a product is put in -/
def insP (ord : Nat) (m : Mo2) (l : List Mo2) : Nat → Nat
  | 0 => 0
  | k + 1 => if befb ord m (l.getD k (0, 0)) = true then insP ord m l k else k + 1
def insL (ord : Nat) (m : Mo2) (l : List Mo2) : List Mo2 := l.take (insP ord m l l.length) ++ m :: l.drop (insP ord m l l.length)
def okb (n : Nat) (m : Mo2) : Bool := (decide (2 ≤ n) || decide (m.1 = 0)) && (decide (3 ≤ n) || decide (m.2 = 0))
def tkY (n ord d x : Nat) : Nat → List Mo2 → List Mo2
  | 0, l => l
  | y + 1, l => tkY n ord d x y (if okb n (y, d - x - y) = true then insL ord (y, d - x - y) l else l)
def tkX (n ord d : Nat) : Nat → List Mo2 → List Mo2
  | 0, l => l
  | x + 1, l => tkX n ord d x (tkY n ord d x (d - x + 1) l)
theorem tk_all : ∀ n, n < 4 → ∀ o, o < 2 → ∀ d, d < 11 → tkX n o d (d + 1) [] = mons n o d := by decide +kernel
theorem insL_len (ord : Nat) (m : Mo2) (l : List Mo2) : (insL ord m l).length = l.length + 1 := by
  unfold insL
  simp only [List.length_append, List.length_cons, List.length_take, List.length_drop]; omega
theorem tkY_len (n ord d x : Nat) : ∀ y l, l.length ≤ (tkY n ord d x y l).length := by
  intro y
  induction y with
  | zero => intro l; exact Nat.le_refl _
  | succ y ih =>
    intro l
    show _ ≤ (tkY n ord d x y _).length
    refine Nat.le_trans ?_ (ih _)
    split
    · rw [insL_len]; omega
    · exact Nat.le_refl _
theorem tkX_len (n ord d : Nat) : ∀ x l, l.length ≤ (tkX n ord d x l).length := by
  intro x
  induction x with
  | zero => intro l; exact Nat.le_refl _
  | succ x ih =>
    intro l
    exact Nat.le_trans (tkY_len n ord d x _ l) (ih _)
theorem insP_le (ord : Nat) (m : Mo2) (l : List Mo2) : ∀ k, insP ord m l k ≤ k := by
  intro k
  induction k with
  | zero => exact Nat.le_refl _
  | succ k ih =>
    unfold insP
    split
    · omega
    · exact Nat.le_refl _
theorem ins_getD {l : List Mo2} {k : Nat} (hk : k ≤ l.length) (m z : Mo2) (i : Nat) : (l.take k ++ m :: l.drop k).getD i z = if i < k then l.getD i z else if i = k then m else l.getD (i - 1) z := by
  have hl : (l.take k).length = k := by rw [List.length_take]; omega
  by_cases h1 : i < k
  · rw [if_pos h1, List.getD_eq_getElem?_getD, List.getElem?_append_left (by omega), List.getElem?_take_of_lt h1, ← List.getD_eq_getElem?_getD]
  · rw [if_neg h1, List.getD_eq_getElem?_getD, List.getElem?_append_right (by omega), hl]
    by_cases h2 : i = k
    · rw [if_pos h2, h2, Nat.sub_self]; rfl
    · rw [if_neg h2]
      obtain ⟨t, ht⟩ : ∃ t, i = k + t + 1 := ⟨i - k - 1, by omega⟩
      rw [show i - k = t + 1 by omega, List.getElem?_cons_succ, List.getElem?_drop, ← List.getD_eq_getElem?_getD, show i - 1 = k + t by omega]
/-- the line so far -/
def TkL (d : Nat) (l : List Mo2) (I : Nat → Nat → Int32) : Prop := I 199 8 = nI l.length ∧ (∀ i, i < l.length → I 201 i = nI (cdm d (l.getD i (0, 0)))) ∧ ∀ q ∈ l, q.1 + q.2 ≤ d
/-- the line, and the places in it -/
def TkS (n ord d : Nat) (I : Nat → Nat → Int32) : Prop := I 199 8 = nI (nM n ord d) ∧ (∀ k, k < nM n ord d → I 201 k = nI (cdm d (atm n ord d k))) ∧ ∀ k, k < nM n ord d → I 202 (cdm d (atm n ord d k)) = nI k
def TkF (I I' : Nat → Nat → Int32) : Prop := (∀ c, c ≠ 199 → c ≠ 201 → c ≠ 202 → I' c = I c) ∧ ∀ k, k ≠ 8 → I' 199 k = I 199 k
theorem TkF.tr {I J K : Nat → Nat → Int32} (h1 : TkF I J) (h2 : TkF J K) : TkF I K := ⟨fun c a b e => by rw [h2.1 c a b e, h1.1 c a b e], fun k hk => by rw [h2.2 k hk, h1.2 k hk]⟩
theorem TkF_u2 (I : Nat → Nat → Int32) (v : Int32) : TkF I (u2 I 199 8 v) := ⟨fun c a _ _ => by unfold u2; rw [if_neg a], fun k hk => u2_ne (by omega)⟩
theorem TkF_6 (I : Nat → Nat → Int32) (f : Nat → Int32) : TkF I (sAll I 201 f) := ⟨fun c _ b _ => sAll_ne b, fun k _ => by rw [sAll_ne (by omega)]⟩
theorem TkF_7 (I : Nat → Nat → Int32) (f : Nat → Int32) : TkF I (sAll I 202 f) := ⟨fun c _ _ b => sAll_ne b, fun k _ => by rw [sAll_ne (by omega)]⟩
theorem TkF.rf (I : Nat → Nat → Int32) : TkF I I := ⟨fun _ _ _ _ => rfl, fun _ _ => rfl⟩
theorem getD_mem {l : List Mo2} {i : Nat} (h : i < l.length) : l.getD i (0, 0) ∈ l := by
  rw [List.getD_eq_getElem?_getD, List.getElem?_eq_getElem h]; exact List.getElem_mem h
section MO7
variable {M : Mem} {I : Nat → Nat → Int32} {n ord p : Nat}
theorem sp_Moinsert {d : Nat} {m : Mo2} {l : List Mo2} {sx sy : Int32} {k7 : Nat → Int32 → Int32 → Mem → Prop} {k15 : Nat → Int32 → Int32 → Int32 → Mem → Prop} {post : Mem → Prop} (hM : MdOK M) (ho : I 199 3 = nI ord) (ho1 : ord ≤ 1) (hd : d ≤ 10) (hm : m.1 + m.2 ≤ d) (hl : l.length < 66) (hT : TkL d l I) (h : ∀ I', TkL d (insL ord m l) I' → TkF I I' → k15 199 (nI d) sx (sy + (-1)) (wI M I')) : ∃ N, L_Mo_take_55 k7 k15 post N 199 (nI d) sx sy (nI (cdm d m)) (I 199 8) (wI M I) := by
  obtain ⟨t1, t2, t3⟩ := hT
  have hM' := hM
  obtain ⟨k4, r0, r6, r7, r9, r10, r11, r13, r14, r15, r17, a5, a6, a7, a8, a9, a10, a11, a12, a13, a14⟩ := hM'
  have hcm := cdm_ok hd hm
  have hcl : ∀ i, i < l.length → cdm d (l.getD i (0, 0)) < 1331 ∧ mdeg (cdm d (l.getD i (0, 0))) = d ∧ mmo (cdm d (l.getD i (0, 0))) = l.getD i (0, 0) := fun i hi => cdm_ok hd (t3 _ (getD_mem hi))
  rw [t1]
  have fin : ∀ a g, a ≤ l.length → insP ord m l l.length = a → (∀ i, i < a → g i = nI (cdm d (l.getD i (0, 0)))) → (∀ i, a < i → i ≤ l.length → g i = nI (cdm d (l.getD (i - 1) (0, 0)))) → B_Mo_take_100 k7 k15 post 199 (nI d) sx sy (nI (cdm d m)) (nI a) (wI M (sAll I 201 g)) := by
    intro a g ha hp h1 h2
    unfold B_Mo_take_100 B_Mo_take_119
    simp (disch := omega) only [isK_wI, isA_wI, gR_wI, gI_wI, sI_wI, true_and, and_true, Option.some.injEq, exists_eq_left', forall_const, not_true_eq_false, not_false_eq_true, false_implies, true_implies, ne_eq, lit_nI, nI_add, pk_mul, pk_sub, pk_div, rem_n, nI_clamp, nI_leI, nI_ltI, nI_eq, in_nI, k4, r6, isA_T a6]
    rw [u2_sAll, sAll_ne (show (199 : Nat) ≠ 201 by omega), t1, nI_add]
    have hlen := insL_len ord m l
    refine h _ ⟨?_, fun i hi => ?_, fun q hq => ?_⟩ ((TkF_6 I _).tr (TkF_u2 _ _))
    · rw [u2_eq, hlen]
    · rw [hlen] at hi
      unfold u2
      rw [if_neg (by omega), sAll_eq]
      unfold insL
      rw [ins_getD (by omega), hp]
      by_cases e : i = a
      · subst e; rw [upd_eq, if_neg (by omega), if_pos rfl]
      · rw [upd_ne e]
        by_cases w : i < a
        · rw [if_pos w]; exact h1 i w
        · rw [if_neg w, if_neg e]; exact h2 i (by omega) (by omega)
    · unfold insL at hq
      rw [List.mem_append, List.mem_cons] at hq
      rcases hq with hq | rfl | hq
      · exact t3 q (List.mem_of_mem_take hq)
      · exact hm
      · exact t3 q (List.mem_of_mem_drop hq)
  have key := pk_loopD (σ := Nat → Int32) (fun N a g => L_Mo_take_55 k7 k15 post N 199 (nI d) sx sy (nI (cdm d m)) (nI a) (wI M (sAll I 201 g))) (fun a g => a ≤ l.length ∧ insP ord m l l.length = insP ord m l a ∧ (∀ i, i < a → g i = nI (cdm d (l.getD i (0, 0)))) ∧ ∀ i, a < i → i ≤ l.length → g i = nI (cdm d (l.getD (i - 1) (0, 0)))) ?_ ?_ l.length (I 201) ⟨Nat.le_refl _, rfl, t2, fun i h1 h2 => by omega⟩
  · simp only [sAll_self] at key
    exact ⟨_, key⟩
  · intro N g ⟨g1, g2, g3, g4⟩
    show B_Mo_take_55 k7 k15 (L_Mo_take_55 k7 k15 post N) post 199 _ _ _ _ _ _
    exact ⟨fun _ => fin 0 g g1 g2 g3 g4, fun q => absurd (by decide) q⟩
  · intro N a g ⟨g1, g2, g3, g4⟩ ih
    show B_Mo_take_55 k7 k15 (L_Mo_take_55 k7 k15 post N) post 199 _ _ _ _ _ _
    unfold B_Mo_take_55
    rw [nI_pred, pk_m1]
    have hv := g3 a (by omega)
    have hb : gtm ord (cdm d m) (cdm d (l.getD a (0, 0))) ↔ befb ord m (l.getD a (0, 0)) = true := by
      have h5 := hcl a (by omega)
      unfold gtm
      rw [hcm.2.1, hcm.2.2, h5.2.1, h5.2.2, befb_iff]
      constructor
      · rintro (w | w)
        · omega
        · exact w.2
      · intro w; exact Or.inr ⟨rfl, w⟩
    simp (disch := omega) only [isK_wI, isA_wI, gR_wI, gI_wI, sI_wI, true_and, and_true, Option.some.injEq, exists_eq_left', forall_const, not_true_eq_false, not_false_eq_true, false_implies, true_implies, ne_eq, lit_nI, nI_add, pk_mul, pk_sub, pk_div, rem_n, nI_clamp, nI_leI, nI_ltI, nI_eq, in_nI, k4, r6, isA_T a6, sAll_eq, hv]
    refine ⟨fun q => absurd q (by omega), fun _ => ?_⟩
    refine sp_MoisGreater hM (by rw [sAll_ne (by omega)]; exact ho) ho1 hcm.1 (hcl a (by omega)).1 (fun w => ⟨fun q => absurd q (by decide), fun _ => ?_⟩) (fun w => ⟨fun _ => ?_, fun q => absurd rfl q⟩)
    · simp (disch := omega) only [isK_wI, isA_wI, gR_wI, gI_wI, sI_wI, true_and, and_true, Option.some.injEq, exists_eq_left', forall_const, not_true_eq_false, not_false_eq_true, false_implies, true_implies, ne_eq, lit_nI, nI_add, pk_mul, pk_sub, pk_div, rem_n, nI_clamp, nI_leI, nI_ltI, nI_eq, in_nI, k4, r6, isA_T a6, sAll_eq, hv]
      rw [u2_sAll]
      refine ih _ ⟨by omega, ?_, fun i hi => ?_, fun i h1 h2 => ?_⟩
      · rw [g2]
        show (if befb ord m (l.getD a (0, 0)) = true then _ else _) = _
        rw [if_pos (hb.mp w)]
      · rw [upd_ne (by omega)]; exact g3 i (by omega)
      · by_cases e : i = a + 1
        · subst e; rw [upd_eq]; rfl
        · rw [upd_ne e]; exact g4 i (by omega) h2
    · refine fin (a + 1) g g1 ?_ g3 g4
      rw [g2]
      show (if befb ord m (l.getD a (0, 0)) = true then _ else _) = _
      rw [if_neg (fun z => w (hb.mpr z))]
theorem sp_Motake {d : Nat} {post : Mem → Prop} (hM : MdOK M) (hn : I 199 1 = nI n) (hn3 : n ≤ 3) (ho : I 199 3 = nI ord) (ho1 : ord ≤ 1) (hd : d ≤ 10) (h : ∀ I', TkS n ord d I' → TkF I I' → post (wI M I')) : T_Mo_take 199 (nI d) (wI M I) post := by
  have hM' := hM
  obtain ⟨k4, r0, r6, r7, r9, r10, r11, r13, r14, r15, r17, a5, a6, a7, a8, a9, a10, a11, a12, a13, a14⟩ := hM'
  have hmn := nM_le n (by omega) ord (by omega) d (by omega)
  refine ⟨k4, ?_⟩
  rw [sI_wI]
  -- the places
  have pls : ∀ J, TkL d (mons n ord d) J → TkF I J → ∃ N, L_Mo_take_133 post N 199 0 (wI M J) := by
    intro J ⟨j1, j2, j3⟩ hF
    have := pk_loop (σ := Nat → Int32) (fun N i g => L_Mo_take_133 post N 199 (nI i) (wI M (sAll J 202 g))) (fun i g => ∀ k, k < i → g (cdm d (atm n ord d k)) = nI k) (nM n ord d) 0 (J 202) (by omega) (fun k hk => absurd hk (Nat.not_lt_zero k)) ?_ ?_
    · simp only [sAll_self] at this
      exact this
    · intro N g hg
      show B_Mo_take_133 (L_Mo_take_133 post N) post 199 _ _
      unfold B_Mo_take_133
      rw [gI_wI, sAll_ne (by omega), j1]
      refine ⟨k4, fun _ => h _ ⟨by rw [sAll_ne (by omega)]; exact j1, fun k hk => by rw [sAll_ne (by omega)]; exact j2 k hk, fun k hk => by rw [sAll_eq]; exact hg k hk⟩ (hF.tr (TkF_7 _ _)), fun q => absurd (Int32.le_refl _) q⟩
    · intro N i g hi hg ih
      show B_Mo_take_133 (L_Mo_take_133 post N) post 199 _ _
      have hv : J 201 i = nI (cdm d (atm n ord d i)) := j2 i hi
      have hci := cdm_ok hd (atm_ok hi).1
      have j1' : J 199 8 = nI (nM n ord d) := j1
      unfold B_Mo_take_133
      simp (disch := omega) only [isK_wI, isA_wI, gR_wI, gI_wI, sI_wI, true_and, and_true, Option.some.injEq, exists_eq_left', forall_const, not_true_eq_false, not_false_eq_true, false_implies, true_implies, ne_eq, lit_nI, nI_add, pk_mul, pk_sub, pk_div, rem_n, nI_clamp, nI_leI, nI_ltI, nI_eq, in_nI, k4, r6, r7, isA_T a6, isA_T a7, sAll_ne (show (199 : Nat) ≠ 202 by omega), sAll_ne (show (201 : Nat) ≠ 202 by omega), j1', hv]
      refine ⟨fun q => absurd q (by omega), fun _ => ?_⟩
      rw [u2_sAll]
      refine ih _ (fun k hk => ?_)
      by_cases e : k = i
      · subst e; exact upd_eq _ _ _
      · have hck := cdm_ok hd (atm_ok (show k < nM n ord d by omega)).1
        rw [upd_ne (fun z => e (atm_inj (by omega) hi (by rw [← hck.2.2, ← hci.2.2, z])))]
        exact hg k (by omega)
  -- the products, x down
  have kx := pk_loopD (σ := (Nat → Nat → Int32) × List Mo2) (fun N x s => L_Mo_take_7 post N 199 (nI d) (nI x - 1) (wI M s.1)) (fun x s => x ≤ d + 1 ∧ TkL d s.2 s.1 ∧ TkF I s.1 ∧ tkX n ord d x s.2 = mons n ord d) ?_ ?_ (d + 1) (u2 I 199 8 0, []) ⟨Nat.le_refl _, ⟨(by show u2 I 199 8 0 199 8 = nI 0; exact u2_eq _ _ _ _), fun i hi => absurd hi (Nat.not_lt_zero i), fun q hq => by cases hq⟩, TkF_u2 _ _, tk_all n (by omega) ord (by omega) d (by omega)⟩
  · simp only [nI_pred] at kx
    exact ⟨_, kx⟩
  · intro N ⟨J, l⟩ ⟨_, s1, s2, s3⟩
    show B_Mo_take_7 (L_Mo_take_7 post N) post 199 _ _ _
    have s3' : l = mons n ord d := s3
    subst s3'
    exact ⟨fun _ => pls J s1 s2, fun q => absurd (by decide) q⟩
  · intro N x ⟨J, l⟩ ⟨hx, s1, s2, s3⟩ ih
    show B_Mo_take_7 (L_Mo_take_7 post N) post 199 _ _ _
    unfold B_Mo_take_7
    rw [nI_pred, pk_sub (show x ≤ d by omega)]
    refine ⟨fun q => absurd q (nI_nlt0 (by omega)), fun _ => ?_⟩
    have ky := pk_loopD (σ := (Nat → Nat → Int32) × List Mo2) (fun N' y s => L_Mo_take_15 (L_Mo_take_7 post N) post N' 199 (nI d) (nI x) (nI y - 1) (wI M s.1)) (fun y s => y ≤ d - x + 1 ∧ TkL d s.2 s.1 ∧ TkF I s.1 ∧ tkX n ord d x (tkY n ord d x y s.2) = mons n ord d) ?_ ?_ (d - x + 1) (J, l) ⟨Nat.le_refl _, s1, s2, s3⟩
    · simp only [nI_pred] at ky
      exact ⟨_, ky⟩
    · intro N' ⟨K, l'⟩ ⟨_, u1, u2', u3⟩
      show B_Mo_take_15 (L_Mo_take_7 post N) (L_Mo_take_15 (L_Mo_take_7 post N) post N') post 199 _ _ _ _
      refine ⟨fun _ => ?_, fun q => absurd (by decide) q⟩
      rw [m1_eq]
      exact ih (K, l') ⟨by omega, u1, u2', u3⟩
    · intro N' y ⟨K, l'⟩ ⟨hy, u1, u2', u3⟩ ihy
      have u1' : TkL d l' K := u1
      have u3' : tkX n ord d x (tkY n ord d x y (if okb n (y, d - x - y) = true then insL ord (y, d - x - y) l' else l')) = mons n ord d := u3
      show B_Mo_take_15 (L_Mo_take_7 post N) (L_Mo_take_15 (L_Mo_take_7 post N) post N') post 199 _ _ _ _
      unfold B_Mo_take_15 B_Mo_take_119
      rw [nI_pred, pk_sub (show x ≤ d by omega), pk_sub (show y ≤ d - x by omega)]
      refine ⟨fun q => absurd q (nI_nlt0 (by omega)), fun _ => ⟨k4, ?_⟩⟩
      refine sp_MoisProduct hM (by rw [u2'.2 1 (by omega)]; exact hn) hn3 (fun a b c hi => ⟨fun _ => ?_, fun q => absurd q (by decide)⟩) (fun hne => ⟨fun q => absurd rfl q, fun _ => ?_⟩)
      · obtain ⟨i1, i2, i3, i4, i5⟩ := hi
        rw [nI_eq (by omega) (by omega)] at i1 i2 i3
        subst i1 i2 i3
        have hok : okb n (y, d - x - y) = true := by
          unfold okb
          have h2 := i5.2.1
          have h3 := i5.2.2
          simp only at h2 h3
          simp only [Bool.and_eq_true, Bool.or_eq_true, decide_eq_true_eq]
          omega
        rw [if_pos hok] at u3'
        have hlen : l'.length < 66 := by
          have e1 := tkY_len n ord d x y (insL ord (y, d - x - y) l')
          have e2 := tkX_len n ord d x (tkY n ord d x y (insL ord (y, d - x - y) l'))
          rw [u3'] at e2
          rw [insL_len] at e1
          have : (mons n ord d).length ≤ 66 := hmn.1
          omega
        unfold T_Mo_powers
        rw [pow_cd, show x + y + (d - x - y) = d by omega]
        refine ⟨k4, ?_⟩
        rw [gI_wI]
        refine sp_Moinsert hM (by rw [u2'.2 3 (by omega)]; exact ho) ho1 hd (by simp only; omega) hlen u1' (fun K' v1 v2 => ?_)
        rw [m1_eq]
        exact ihy (K', insL ord (y, d - x - y) l') ⟨by omega, v1, u2'.tr v2, u3'⟩
      · have hok : ¬ okb n (y, d - x - y) = true := by
          intro w
          unfold okb at w
          simp only [Bool.and_eq_true, Bool.or_eq_true, decide_eq_true_eq] at w
          exact hne ⟨x, y, d - x - y, rfl, rfl, rfl, by omega, by simp only; omega, fun z => by simp only; omega, fun z => by simp only; omega⟩
        rw [if_neg hok] at u3'
        rw [m1_eq]
        exact ihy (K, l') ⟨by omega, u1', u2', u3'⟩
end MO7
