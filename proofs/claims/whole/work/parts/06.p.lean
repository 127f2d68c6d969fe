/-! THE CONTRACT OF SUCH A METHOD; A LAZY ARRAY IS MADE -/
section METD
variable {l : Launch} {y : MethodName} {bts : ByteArray} {maxL B t g fr lo : Nat} {d : Nat → Nat} {av : List Value} {M : Mem} {D : va_G} {ac : Nat → ClassId}
theorem iC_0 {x : Ctx} (h : (xs x).heap.size = xB x + nC M + xg x) : iC x M = 0 ∧ iS 0 x M = 0 := by
  unfold iS iC; omega
theorem bdg_D {x : Ctx} {z : Nat} (hR : xR x = rmD fr lo z) (h : (xs x).heap.size = xB x + z) (hz : z ≤ 2800) : Bdg x 0 := by
  unfold Bdg
  rw [hR, h]
  show _ ∧ _ ≤ _ + (2800 - z) ∧ _ ≤ 2560 * (2800 - z)
  omega
theorem met_iD {ty : FieldType} {post : Int32 → Mem → Prop} (hy : plainFor y = true) (hlen : (lg_sl av).length ≤ maxL) (hN : nC M + g ≤ 2800) (body : ∀ x : Ctx, xl x = l → ((xR x).frames = fr ∧ (xR x).locals = lo) → xD x = D → xB x = B → xt x = t → xA x = ac → xd x = d → xg x = g → Ok x bts maxL y.cls → Bdg x 0 → RetID x ty post (nC M + g) → nC M + xg x ≤ 2800 → J x maxL 0 (lv_args 0 av) [] (iC x M) (iS 0 x M) M) : Met l y (.code y bts maxL (some ty) :: gw) (rmD fr lo (nC M + g)) (va_Pc av (PRE D B d g t ac M)) (QID D B ac post) (2800 - (nC M + g)) (2560 * (2800 - (nC M + g))) (AB B) := by
  refine Met_ofWF (cc := bts) (maxL := maxL) (ret := some ty) hy rfl ?_
  intro p e s m args below meth c s₁ Bo hml hv
  obtain ⟨rfl, hsz, hP, hE⟩ := hv
  have hts := atoms_spec (ws := .code y bts maxL (some ty) :: gw) Bo.pre
  have hs := hsz.1
  have k := body (p, l, e, rmD fr lo (nC M + g), s, m, av.toArray, below, meth, c, MQ below (QID D B ac post) av.toArray s (2800 - (nC M + g)) (2560 * (2800 - (nC M + g))) (AB B), D, B, t, ac, d, g) rfl ⟨rfl, rfl⟩ rfl rfl rfl rfl rfl rfl ⟨Bo.exec, Bo.bytes, hml, findClass_of_methodNamed Bo.named, fun w hw => hts w (List.mem_cons_of_mem _ hw), hE, Bo.notSynchronized⟩ (bdg_D (fr := fr) (lo := lo) rfl (by rw [← Nat.add_assoc]; exact hs) hN) ⟨Bo.returns, rfl, by rw [← Nat.add_assoc]; exact hs⟩ hN
  have e0 := iC_0 (x := (p, l, e, rmD fr lo (nC M + g), s, m, av.toArray, below, meth, c, MQ below (QID D B ac post) av.toArray s (2800 - (nC M + g)) (2560 * (2800 - (nC M + g))) (AB B), D, B, t, ac, d, g)) (M := M) hs
  rw [e0.1, e0.2] at k
  exact entry_J k hlen hP hsz
theorem met_vD {post : Mem → Prop} (hy : plainFor y = true) (hlen : (lg_sl av).length ≤ maxL) (hN : nC M + g ≤ 2800) (body : ∀ x : Ctx, xl x = l → ((xR x).frames = fr ∧ (xR x).locals = lo) → xD x = D → xB x = B → xt x = t → xA x = ac → xd x = d → xg x = g → Ok x bts maxL y.cls → Bdg x 0 → RetVD x post (nC M + g) → nC M + xg x ≤ 2800 → J x maxL 0 (lv_args 0 av) [] (iC x M) (iS 0 x M) M) : Met l y (.code y bts maxL none :: gw) (rmD fr lo (nC M + g)) (va_Pc av (PRE D B d g t ac M)) (QVD D B ac post) (2800 - (nC M + g)) (2560 * (2800 - (nC M + g))) (AB B) := by
  refine Met_ofWF (cc := bts) (maxL := maxL) (ret := none) hy rfl ?_
  intro p e s m args below meth c s₁ Bo hml hv
  obtain ⟨rfl, hsz, hP, hE⟩ := hv
  have hts := atoms_spec (ws := .code y bts maxL none :: gw) Bo.pre
  have hs := hsz.1
  have k := body (p, l, e, rmD fr lo (nC M + g), s, m, av.toArray, below, meth, c, MQ below (QVD D B ac post) av.toArray s (2800 - (nC M + g)) (2560 * (2800 - (nC M + g))) (AB B), D, B, t, ac, d, g) rfl ⟨rfl, rfl⟩ rfl rfl rfl rfl rfl rfl ⟨Bo.exec, Bo.bytes, hml, findClass_of_methodNamed Bo.named, fun w hw => hts w (List.mem_cons_of_mem _ hw), hE, Bo.notSynchronized⟩ (bdg_D (fr := fr) (lo := lo) rfl (by rw [← Nat.add_assoc]; exact hs) hN) ⟨Bo.returns, rfl, by rw [← Nat.add_assoc]; exact hs⟩ hN
  have e0 := iC_0 (x := (p, l, e, rmD fr lo (nC M + g), s, m, av.toArray, below, meth, c, MQ below (QVD D B ac post) av.toArray s (2800 - (nC M + g)) (2560 * (2800 - (nC M + g))) (AB B), D, B, t, ac, d, g)) (M := M) hs
  rw [e0.1, e0.2] at k
  exact entry_J k hlen hP hsz
theorem met_rD {ty : FieldType} {post : Nat → Mem → Prop} (hy : plainFor y = true) (hty : (∃ n, ty = .object n) ∨ ∃ t, ty = .array t) (hlen : (lg_sl av).length ≤ maxL) (hN : nC M + g ≤ 2800) (body : ∀ x : Ctx, xl x = l → ((xR x).frames = fr ∧ (xR x).locals = lo) → xD x = D → xB x = B → xt x = t → xA x = ac → xd x = d → xg x = g → Ok x bts maxL y.cls → Bdg x 0 → RetRD x ty post (nC M + g) → nC M + xg x ≤ 2800 → J x maxL 0 (lv_args 0 av) [] (iC x M) (iS 0 x M) M) : Met l y (.code y bts maxL (some ty) :: gw) (rmD fr lo (nC M + g)) (va_Pc av (PRE D B d g t ac M)) (QRD D B ac post) (2800 - (nC M + g)) (2560 * (2800 - (nC M + g))) (AB B) := by
  refine Met_ofWF (cc := bts) (maxL := maxL) (ret := some ty) hy rfl ?_
  intro p e s m args below meth c s₁ Bo hml hv
  obtain ⟨rfl, hsz, hP, hE⟩ := hv
  have hts := atoms_spec (ws := .code y bts maxL (some ty) :: gw) Bo.pre
  have hs := hsz.1
  have k := body (p, l, e, rmD fr lo (nC M + g), s, m, av.toArray, below, meth, c, MQ below (QRD D B ac post) av.toArray s (2800 - (nC M + g)) (2560 * (2800 - (nC M + g))) (AB B), D, B, t, ac, d, g) rfl ⟨rfl, rfl⟩ rfl rfl rfl rfl rfl rfl ⟨Bo.exec, Bo.bytes, hml, findClass_of_methodNamed Bo.named, fun w hw => hts w (List.mem_cons_of_mem _ hw), hE, Bo.notSynchronized⟩ (bdg_D (fr := fr) (lo := lo) rfl (by rw [← Nat.add_assoc]; exact hs) hN) ⟨⟨Bo.returns, hty⟩, rfl, by rw [← Nat.add_assoc]; exact hs⟩ hN
  have e0 := iC_0 (x := (p, l, e, rmD fr lo (nC M + g), s, m, av.toArray, below, meth, c, MQ below (QRD D B ac post) av.toArray s (2800 - (nC M + g)) (2560 * (2800 - (nC M + g))) (AB B), D, B, t, ac, d, g)) (M := M) hs
  rw [e0.1, e0.2] at k
  exact entry_J k hlen hP hsz
end METD
theorem zf_g : zf 2147483648 = 1 := if_pos rfl
/-- a new lazy array, made at once, as one cell more -/
def mkz (M : Mem) (N : Nat) : Mem := (fun a => if a = nC M then (12, N) else M.1 a, fun a => if a = nC M then zf else M.2.1 a, fun a => if a = nC M then fun _ => none else M.2.2.1 a, nC M + 1)
/-- no reference goes astray; a lazy array is known to its base alone -/
def Uq (M : Mem) : Prop := ∀ a k v, a < nC M → gR M a k = some v → v < nC M ∧ (kd M v = 12 → (k = 9 ∧ v = a + 6 ∧ ln M v = 2560) ∨ (k = 10 ∧ v = a + 7 ∧ ln M v = 286))
theorem cellE_map {d d' : Nat → Nat} {ac : Nat → ClassId} {M M' : Mem} {c : Nat} (h1 : M'.1 c = M.1 c) (h2 : gI M' c = gI M c) (h3 : ∀ k, (gR M' c k).map d' = (gR M c k).map d) : cellE d' ac M' c = cellE d ac M c := by
  have e1 : kd M' c = kd M c := by unfold kd; rw [h1]
  have e2 : ln M' c = ln M c := by unfold ln; rw [h1]
  have e3 : (fun j => (gR M' c j).map d') = fun j => (gR M c j).map d := funext h3
  have e4 : fls (fB (kd M c)) d' (gI M c) (gR M' c) = fls (fB (kd M c)) d (gI M c) (gR M c) := by
    unfold fls
    congr 1
    funext k
    rw [h3]
  unfold cellE
  rw [e1, e2, h2, e4, e3]
section GROW
variable {x : Ctx} {cc : ByteArray} {nL pc ce sl : Nat} {own : String} {lv lv' : List (Nat × Value)} {st rest : List Value} {M : Mem}
theorem J_newY (C : Ok x cc nL own) {n : Int32} (N : Nat) {d1 : Nat → Nat} (hd1 : ∀ c, d1 c = if c = nC M then xB x + nC M + xg x else xd x c) (hw : Cond.arrayClass .int ∈ gw) (d : decode cc pc = .ok (.newarray .int, 2)) (hn : ¬ n < 0 ∧ n.toNatClampNeg = N) (hb : N * 4 ≤ 536870912) (hN : N < 2147483648) (hr : ce + 1 ≤ (xR x).cells ∧ sl + N ≤ (xR x).slots) (hcl : ∀ a k v, a < nC M → gR M a k = some v → v < nC M) (kk : xg x ≤ gC M → J (wd x d1 (xg x)) nL (pc + 2) lv (.ref (xB x + nC M + xg x) :: st) (ce + 1) (sl + N) (mkz M N)) : J x nL pc lv (.int n :: st) ce sl M := by
  intro H locs ls h1 h2 h3 h4
  have hlt : ∀ c, c < nC M → xd x c < H.size := fun c hc => (h1 c _ (ws_get hc)).lt
  have e0 : ∀ c, c < nC M → d1 c = xd x c := fun c hc => (hd1 c).trans (if_neg (Nat.ne_of_lt hc))
  have eN : d1 (nC M) = xB x + nC M + xg x := (hd1 _).trans (if_pos rfl)
  have hk0 : ∀ c, c < nC M → (mkz M N).1 c = M.1 c := fun c hc => if_neg (Nat.ne_of_lt hc)
  have hg0 : ∀ c, c < nC M → gI (mkz M N) c = gI M c := fun c hc => by
    funext j
    show (if c = nC M then zf else M.2.1 c) j = _
    rw [if_neg (Nat.ne_of_lt hc)]; rfl
  have hr0 : ∀ c, c < nC M → gR (mkz M N) c = gR M c := fun c hc => by
    funext j
    show (if c = nC M then (fun _ => none) else M.2.2.1 c) j = _
    rw [if_neg (Nat.ne_of_lt hc)]; rfl
  have hs3 : (xs x).heap.size ≤ H.size := h3.1
  have hs2 : H.size = xB x + nC M + xg x := h2.1
  refine va_newaK C.1 C.2.1 (atype := .int) (C.2.2.2.2.1 _ hw) rfl d rfl hn.1 hn.2 hb hr.1 hr.2 h2.1 fun H1 cA e1 z1 o1 hAr hNm => ?_
  refine kk h2.2.1 H1 locs ls (ws_grow (M' := mkz M N) (Nat.le_succ _) (fun c hc => ⟨e0 c hc, cellE_map (hk0 c hc) (hg0 c hc) (fun k => ?_)⟩) h1 (fun q hq => o1 q (by rw [← h2.1]; exact hq)) ?_) ⟨by rw [z1]; show _ = xB x + (nC M + 1) + xg x; omega, ?_, ?_, ?_⟩ ⟨Nat.le_trans h3.1 (by rw [z1, ← hs2]; exact Nat.le_succ _), fun q q1 q2 => (o1 q (by rw [← hs2]; exact Nat.lt_of_lt_of_le q1 hs3)).trans (h3.2.1 q q1 q2), h3.2.2⟩ h4
  · rw [hr0 c hc]
    cases hv : gR M c k with
    | none => rfl
    | some v => exact congrArg some (e0 v (hcl c k v hc hv))
  · intro c hc1 hc2
    have hc : c = nC M := by have : nC (mkz M N) = nC M + 1 := rfl; omega
    subst hc
    have e : cA = xA x 8 := cls_one (t := .int) hNm (C.2.2.2.2.2.1.1.2 0 _ rfl).2
    have k1 : kd (mkz M N) (nC M) = 12 := by simp [kd, mkz]
    have k2 : ln (mkz M N) (nC M) = N := by simp [ln, mkz]
    have k3 : gI (mkz M N) (nC M) = zf := by funext j; simp [gI, mkz]
    rw [cE_y k1, k2, k3, ← e]
    show H1[d1 (nC M)]? = some (vp_cell _ _)
    rw [eN, e1, if_pos zf_g, vp_cell_i]
    unfold arrV
    congr 2
    apply Array.ext'
    simp only [Array.toList_ofFn]
    congr 1
    funext j
    have hj := j.isLt
    show _ = Value.int (zf j.val)
    unfold zf
    rw [if_neg (by omega)]; rfl
  · show xg x ≤ gcf (isG (mkz M N)) (nC M) + _
    rw [gcf_cong (Q' := isG M) (fun c hc => isG_of (by unfold kd; rw [hk0 c hc]) (fun _ => by rw [hg0 c hc]))]
    exact Nat.le_trans h2.2.1 (Nat.le_add_right _ _)
  · intro c hc hk
    have hc' : c < nC M + 1 := hc
    by_cases z : c = nC M
    · subst z
      exact absurd (show kd (mkz M N) (nC M) = 12 by simp [kd, mkz]) hk
    · have hc2 : c < nC M := by omega
      show d1 c = _
      rw [e0 c hc2]
      exact h2.2.2.1 c hc2 (by unfold kd at hk ⊢; rw [hk0 c hc2] at hk; exact hk)
  · intro c hc hk
    have hc' : c < nC M + 1 := hc
    have hsz := h2.1
    by_cases z : c = nC M
    · subst z
      show xB x ≤ d1 (nC M) ∧ ∀ c', c' < nC M + 1 → c' ≠ nC M → d1 c' ≠ d1 (nC M)
      rw [eN]
      refine ⟨by omega, fun c' h h' => ?_⟩
      rw [e0 c' (by omega)]
      have := hlt c' (by omega)
      omega
    · have hc2 : c < nC M := by omega
      have hk2 : kd M c = 12 := by unfold kd at hk ⊢; rw [hk0 c hc2] at hk; exact hk
      have hb2 := h2.2.2.2 c hc2 hk2
      show xB x ≤ d1 c ∧ ∀ c', c' < nC M + 1 → c' ≠ c → d1 c' ≠ d1 c
      rw [e0 c hc2]
      refine ⟨hb2.1, fun c' h h' => ?_⟩
      by_cases y : c' = nC M
      · rw [y, eN]
        have := hlt c hc2
        omega
      · rw [e0 c' (by omega)]
        exact hb2.2 c' (by omega) h'
/-- the base forgets its empty array for the new one: the cell keeps its number -/
theorem J_ren {b k t N a : Nat} {d1 d2 : Nat → Nat} (hd1 : ∀ c, d1 c = if c = nC M then a else xd x c) (hd2 : ∀ c, d2 c = if c = t then a else xd x c) (ha : a = xB x + nC M + xg x) (hg : xg x ≤ gC M) (hb : b < nC M) (ht : gR M b k = some t) (htn : t < nC M) (hk : kd M t = 12) (hl : ln M t = N) (hfl : ¬ gI M t 2147483648 = 1) (hcl : ∀ a k v, a < nC M → gR M a k = some v → v < nC M) (huq : ∀ a j, a < nC M → gR M a j = some t → a = b ∧ j = k) (kk : J (wd x d2 (xg x + 1)) nL pc lv st ce sl (sA M t zf)) : J (wd x d1 (xg x)) nL pc lv st ce sl (sR (mkz M N) b k (some (nC M))) := by
  intro H locs ls h1 h2 h3 h4
  have d1o : ∀ c, c < nC M → d1 c = xd x c := fun c hc => (hd1 c).trans (if_neg (Nat.ne_of_lt hc))
  have d1n : d1 (nC M) = a := (hd1 _).trans (if_pos rfl)
  have d2o : ∀ c, c ≠ t → d2 c = xd x c := fun c hc => (hd2 c).trans (if_neg hc)
  have d2n : d2 t = a := (hd2 _).trans (if_pos rfl)
  have hbn : b ≠ nC M := Nat.ne_of_lt hb
  have htn' : t ≠ nC M := Nat.ne_of_lt htn
  have hn1 : nC (sR (mkz M N) b k (some (nC M))) = nC M + 1 := rfl
  have kk1 : ∀ c, c < nC M → (sR (mkz M N) b k (some (nC M))).1 c = M.1 c := fun c hc => if_neg (Nat.ne_of_lt hc)
  have kk2 : ∀ c, c < nC M → gI (sR (mkz M N) b k (some (nC M))) c = gI M c := fun c hc => by
    funext j
    show (if c = nC M then zf else M.2.1 c) j = _
    rw [if_neg (Nat.ne_of_lt hc)]; rfl
  have kk3 : ∀ c j, c < nC M → gR (sR (mkz M N) b k (some (nC M))) c j = if c = b ∧ j = k then some (nC M) else gR M c j := fun c j hc => by
    show (if c = b then va_up ((mkz M N).2.2.1 b) k (some (nC M)) else (mkz M N).2.2.1 c) j = _
    by_cases z : c = b
    · subst z
      rw [if_pos rfl]
      unfold va_up
      by_cases y : j = k
      · rw [if_pos y, if_pos ⟨rfl, y⟩]
      · rw [if_neg y, if_neg (fun w => y w.2)]
        show (if c = nC M then (fun _ => none) else M.2.2.1 c) j = _
        rw [if_neg hbn]; rfl
    · rw [if_neg z, if_neg (fun w => z w.1)]
      show (if c = nC M then (fun _ => none) else M.2.2.1 c) j = _
      rw [if_neg (Nat.ne_of_lt hc)]; rfl
  have kn1 : (sR (mkz M N) b k (some (nC M))).1 (nC M) = (12, N) := if_pos rfl
  have kn2 : gI (sR (mkz M N) b k (some (nC M))) (nC M) = zf := by
    funext j
    show (if nC M = nC M then zf else _) j = _
    rw [if_pos rfl]
  have hkd : ∀ c, c < nC M → kd (sR (mkz M N) b k (some (nC M))) c = kd M c := fun c hc => by unfold kd; rw [kk1 c hc]
  refine kk H locs ls ?_ ⟨?_, ?_, ?_, ?_⟩ h3 h4
  · intro c q hc
    by_cases hcl2 : c < nC M
    · rw [ws_get (show c < nC (sA M t zf) from hcl2)] at hc
      cases hc
      by_cases z : c = t
      · subst z
        have h := h1 (nC M) _ (ws_get (by rw [hn1]; omega))
        have hA : ∀ d : Nat → Nat, cellE d (xA x) (sR (mkz M N) b k (some (nC M))) (nC M) = .inl (xA x 8, (N, .inl zf)) := fun d => by
          rw [cE_y (by unfold kd; rw [kn1]), show ln (sR (mkz M N) b k (some (nC M))) (nC M) = N by unfold ln; rw [kn1], kn2, if_pos zf_g]
        have hB : ∀ d : Nat → Nat, cellE d (xA x) (sA M c zf) c = .inl (xA x 8, (N, .inl zf)) := fun d => by
          rw [cE_y (show kd (sA M c zf) c = 12 from hk), show ln (sA M c zf) c = N from hl, gI_sA, if_pos zf_g]
        rw [hA] at h
        rw [hB]
        have h' : va_at (xD x) hT_cl (d1 (nC M), .inl (xA x 8, (N, .inl zf))) H := h
        show va_at (xD x) hT_cl (d2 c, .inl (xA x 8, (N, .inl zf))) H
        rw [d1n] at h'
        rw [d2n]
        exact h'
      · have h := h1 c _ (ws_get (by rw [hn1]; omega))
        have e : cellE d2 (xA x) (sA M t zf) c = cellE d1 (xA x) (sR (mkz M N) b k (some (nC M))) c := by
          refine cellE_map (kk1 c hcl2).symm ?_ (fun j => ?_)
          · rw [kk2 c hcl2]
            funext j
            show (if c = t then zf else M.2.1 c) j = _
            rw [if_neg z]; rfl
          · rw [kk3 c j hcl2]
            show (gR M c j).map _ = _
            by_cases y : c = b ∧ j = k
            · rw [if_pos y, y.1, y.2, ht]
              show some (d2 t) = some (d1 (nC M))
              rw [d1n, d2n]
            · rw [if_neg y]
              cases hv : gR M c j with
              | none => rfl
              | some v =>
                show some (d2 v) = some (d1 v)
                have v1 : v ≠ t := fun w => y (huq c j hcl2 (by rw [← w]; exact hv))
                rw [d2o v v1, d1o v (hcl c j v hcl2 hv)]
        have h' : va_at (xD x) hT_cl (d1 c, cellE d1 (xA x) (sR (mkz M N) b k (some (nC M))) c) H := h
        show va_at (xD x) hT_cl (d2 c, cellE d2 (xA x) (sA M t zf) c) H
        rw [e, d2o c z, ← d1o c hcl2]
        exact h'
    · have : nC (sA M t zf) = nC M := rfl
      simp [wsM, this, hcl2] at hc
  · have := h2.1
    rw [hn1] at this
    show _ = xB x + nC M + (xg x + 1)
    have this' : H.size = xB x + (nC M + 1) + xg x := this
    omega
  · show xg x + 1 ≤ gcf (isG (sA M t zf)) (nC M)
    rw [gcf_one (Q := isG M) (c := t) (by simp [isG, hfl]) (by unfold isG; rw [show kd (sA M t zf) t = 12 from hk, gI_sA, zf_g, decide_eq_true rfl, decide_eq_true rfl]; rfl) (fun c hc => (isG_of (M := M) (M' := sA M t zf) (c := c) rfl (fun _ => by
      show (if c = t then zf else M.2.1 c) _ = _
      rw [if_neg hc]; rfl)).symm) htn]
    exact Nat.add_le_add_right hg 1
  · intro c hc hkc
    have hc' : c < nC M := hc
    have hkc' : kd M c ≠ 12 := hkc
    have z : c ≠ t := fun e => hkc' (by rw [e]; exact hk)
    have := h2.2.2.1 c (by rw [hn1]; omega) (by rw [hkd c hc']; exact hkc')
    have h' : d1 c = xB x + c := this
    show d2 c = xB x + c
    rw [d2o c z, ← d1o c hc']
    exact h'
  · intro c hc hkc
    have hc' : c < nC M := hc
    have hnew := h2.2.2.2 (nC M) (by rw [hn1]; omega) (by unfold kd; rw [kn1])
    have n1 : xB x ≤ a := by omega
    have n2 : ∀ c', c' < nC M → xd x c' ≠ a := fun c' h => by
      have h' : d1 c' ≠ d1 (nC M) := hnew.2 c' (by rw [hn1]; omega) (Nat.ne_of_lt h)
      rw [d1n, d1o c' h] at h'
      exact h'
    show xB x ≤ d2 c ∧ ∀ c', c' < nC M → c' ≠ c → d2 c' ≠ d2 c
    by_cases z : c = t
    · rw [z, d2n]
      refine ⟨n1, fun c' h h' => ?_⟩
      rw [d2o c' h']
      exact n2 c' h
    · rw [d2o c z]
      have ho := h2.2.2.2 c (by rw [hn1]; omega) (by rw [hkd c hc']; exact hkc)
      have o1 : xB x ≤ d1 c := ho.1
      rw [d1o c hc'] at o1
      refine ⟨o1, fun c' h h' => ?_⟩
      by_cases y : c' = t
      · rw [y, d2n]; exact fun e => n2 c hc' e.symm
      · rw [d2o c' y]
        have h'' : d1 c' ≠ d1 c := ho.2 c' (by rw [hn1]; omega) h'
        rw [d1o c' h, d1o c hc'] at h''
        exact h''
theorem J_grow (C : Ok x cc nL own) {n : Int32} {idx b k t : Nat} {d2 : Nat → Nat} (N : Nat) (hd2 : ∀ c, d2 c = if c = t then xB x + nC M + xg x else xd x c) (hw : Cond.arrayClass .int ∈ gw) (F : Fld own idx 0 k false false) (dc1 : decode cc pc = .ok (.newarray .int, 2)) (dc2 : decode cc (pc + 2) = .ok (.putfield idx, 3)) (hn : ¬ n < 0 ∧ n.toNatClampNeg = N) (hb : N * 4 ≤ 536870912) (hN : N < 2147483648) (hr : ce + 1 ≤ (xR x).cells ∧ sl + N ≤ (xR x).slots) (hB : isK M b 0) (ht : gR M b k = some t) (hk : isK M t 12) (hl : ln M t = N) (hfl : ¬ gI M t 2147483648 = 1) (hcl : ∀ a k v, a < nC M → gR M a k = some v → v < nC M) (huq : ∀ a j, a < nC M → gR M a j = some t → a = b ∧ j = k) (kk : J (wd x d2 (xg x + 1)) nL (pc + 2 + 3) lv st (ce + 1) (sl + N) (sA M t zf)) : J x nL pc lv (.int n :: .ref (xd x b) :: st) ce sl M := by
  obtain ⟨d1, hd1⟩ : ∃ d1 : Nat → Nat, ∀ c, d1 c = if c = nC M then xB x + nC M + xg x else xd x c := ⟨_, fun _ => rfl⟩
  refine J_newY C N hd1 hw dc1 hn hb hN hr hcl (fun hg => ?_)
  have e1 : xd x b = d1 b := ((hd1 b).trans (if_neg (Nat.ne_of_lt hB.1))).symm
  have e2 : xB x + nC M + xg x = d1 (nC M) := ((hd1 _).trans (if_pos rfl)).symm
  have C' : Ok (wd x d1 (xg x)) cc nL own := C
  have hB' : isK (mkz M N) b 0 := ⟨Nat.lt_succ_of_lt hB.1, by show ((if b = nC M then _ else M.1 b) : Nat × Nat).1 = 0; rw [if_neg (Nat.ne_of_lt hB.1)]; exact hB.2⟩
  have hk2 := J_ren (x := x) (lv := lv) (st := st) (nL := nL) (pc := pc + 2 + 3) (ce := ce + 1) (sl := sl + N) hd1 hd2 rfl hg hB.1 ht hk.1 hk.2 hl hfl hcl huq kk
  have hp := J_putR (x := wd x d1 (xg x)) (q := nC M) C' F dc2 hB' hk2
  rw [e1, e2]
  exact hp
end GROW
