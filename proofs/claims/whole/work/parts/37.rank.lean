theorem ct_split (P : Nat → Bool) (a : Nat) : ∀ b, ct P (a + b) = ct P a + ct (fun k => P (a + k)) b
  | 0 => rfl
  | b + 1 => by
    show ct P (a + b) + (if P (a + b) = true then 1 else 0) = ct P a + (ct (fun k => P (a + k)) b + (if P (a + b) = true then 1 else 0))
    rw [ct_split P a b]; omega
def grf {p : Nat} [NeZero p] (N' : Nat) (T : (Nat → Fin p) → Nat → Fin p) : (Nat → Fin p) → Nat → Fin p := fun v i => if i < N' then T v i else v (i - N')
theorem grf_lo {p : Nat} [NeZero p] {N' : Nat} {T : (Nat → Fin p) → Nat → Fin p} {v : Nat → Fin p} {i : Nat} (h : i < N') : grf N' T v i = T v i := if_pos h
theorem grf_hi {p : Nat} [NeZero p] {N' : Nat} {T : (Nat → Fin p) → Nat → Fin p} {v : Nat → Fin p} {i : Nat} (h : N' ≤ i) : grf N' T v i = v (i - N') := if_neg (by omega)
def shf {p : Nat} [NeZero p] (N' : Nat) : (Nat → Fin p) → Nat → Fin p := fun w i => w (i + N')
/-- image and kernel -/
theorem dm_ker {p : Nat} [NeZero p] {N N' : Nat} (hF : isField p) {V : (Nat → Fin p) → Prop} (hV : Sub V) (hN : inRange N V) {T : (Nat → Fin p) → Nat → Fin p} (hT : Lin T) (hT0 : ∀ v, V v → ∀ i, N' ≤ i → T v i = 0) : dm N V = dm N' (img T V) + dm N (fun v => V v ∧ ∀ i, T v i = 0) := by
  have hL : Lin (grf N' T) := by
    intro u v c i
    by_cases q : i < N'
    · rw [grf_lo q, grf_lo q, grf_lo q]; exact hT u v c i
    · rw [grf_hi (by omega), grf_hi (by omega), grf_hi (by omega)]
  have hL2 : Lin (shf (p := p) N') := fun u v c i => rfl
  have hG := img_sub hL hV
  have hGN : inRange (N' + N) (img (grf N' T) V) := by
    rintro w ⟨v, hv, hw⟩ i hi
    rw [hw i, grf_hi (by omega)]
    exact hN v hv _ (by omega)
  have h1 := dm_img (N' := N' + N) hF hV hN hL (fun v hv i hi => by rw [grf_hi (by omega)]; exact hN v hv _ (by omega))
  have h2 := dm_img (N' := N) hF hG hGN hL2 (fun w hw i hi => hGN w hw _ (by omega))
  have h3 : dm N V ≤ dm N (img (shf N') (img (grf N' T) V)) := by
    refine dm_mono (fun v hv => ⟨_, ⟨v, hv, fun i => rfl⟩, fun i => ?_⟩)
    show v i = grf N' T v (i + N')
    rw [grf_hi (by omega)]
    congr 1; omega
  have h4 : dm N V = dm (N' + N) (img (grf N' T) V) := by omega
  rw [h4]
  show ct _ (N' + N) = ct _ N' + ct _ N
  rw [ct_split]
  have e1 : ct (leadB (img (grf N' T) V)) N' = ct (leadB (img T V)) N' := by
    refine ct_cong (fun i hi => Bool.eq_iff_iff.mpr ?_)
    rw [leadB_iff, leadB_iff]
    constructor
    · rintro ⟨w, ⟨v, hv, hw⟩, a, b⟩
      refine ⟨T v, ⟨v, hv, fun _ => rfl⟩, ?_, fun j hj => ?_⟩
      · rw [hw i, grf_lo hi] at a; exact a
      · have := b j hj; rw [hw j, grf_lo (by omega)] at this; exact this
    · rintro ⟨w, ⟨v, hv, hw⟩, a, b⟩
      refine ⟨grf N' T v, ⟨v, hv, fun _ => rfl⟩, ?_, fun j hj => ?_⟩
      · rw [grf_lo hi, ← hw i]; exact a
      · rw [grf_lo (by omega), ← hw j]; exact b j hj
  have e2 : ct (fun k => leadB (img (grf N' T) V) (N' + k)) N = ct (leadB (fun v => V v ∧ ∀ i, T v i = 0)) N := by
    refine ct_cong (fun i hi => Bool.eq_iff_iff.mpr ?_)
    rw [leadB_iff, leadB_iff]
    constructor
    · rintro ⟨w, ⟨v, hv, hw⟩, a, b⟩
      refine ⟨v, ⟨hv, fun j => ?_⟩, ?_, fun j hj => ?_⟩
      · rcases Nat.lt_or_ge j N' with q | q
        · have := b j (by omega); rw [hw j, grf_lo q] at this; exact this
        · exact hT0 v hv j q
      · rw [hw, grf_hi (by omega), show N' + i - N' = i by omega] at a; exact a
      · have := b (N' + j) (by omega)
        rw [hw, grf_hi (by omega), show N' + j - N' = j by omega] at this; exact this
    · rintro ⟨v, ⟨hv, hz⟩, a, b⟩
      refine ⟨grf N' T v, ⟨v, hv, fun _ => rfl⟩, ?_, fun j hj => ?_⟩
      · rw [grf_hi (by omega), show N' + i - N' = i by omega]; exact a
      · by_cases q : j < N'
        · rw [grf_lo q]; exact hz j
        · rw [grf_hi (by omega)]; exact b _ (by omega)
  rw [e1, e2]
/-- what r vectors span, by numbers -/
theorem upto_coef {p : Nat} [NeZero p] (f : Nat → Nat → Fin p) (r : Nat) : ∀ v, upto f r v → ∃ β : Nat → Fin p, ∀ j, v j = sm (fun k => β k * f k j) r := by
  refine Spn_le ⟨⟨fun _ => 0, fun j => ?_⟩, ?_⟩ ?_
  · rw [sm_none]; intro k _; grind
  · rintro u v c ⟨a, ha⟩ ⟨b, hb⟩
    refine ⟨fun k => a k + c * b k, fun j => ?_⟩
    simp only [ha j, hb j]
    rw [← sm_mul, ← sm_add]
    exact sm_cong (fun k _ => by grind)
  · rintro s ⟨i, hi, rfl⟩
    refine ⟨fun k => if k = i then 1 else 0, fun j => ?_⟩
    rw [sm_one hi (fun k _ q => by simp only [if_neg q]; grind)]
    simp only [if_true]; grind
theorem sm_in {ι : Type} {p : Nat} [NeZero p] {V : (ι → Fin p) → Prop} (hV : Sub V) (c : Nat → Fin p) (f : Nat → ι → Fin p) : ∀ r, (∀ k, k < r → V (f k)) → V (fun j => sm (fun k => c k * f k j) r)
  | 0, _ => hV.1
  | r + 1, h => hV.2 _ (f r) (c r) (sm_in hV c f r (fun k hk => h k (by omega))) (h r (by omega))
/-- the rank by columns is at most the rank by rows -/
theorem rank_le {p : Nat} [NeZero p] (hF : isField p) (a : Nat → Nat → Fin p) (L w : Nat) : dm L (upto (fun c i => if i < L then a i c else 0) w) ≤ dm w (upto (fun i c => if c < w then a i c else 0) L) := by
  have hR : Sub (upto (fun i c => if c < w then a i c else 0) L) := Spn_sub _
  have hRN : inRange w (upto (fun i c => if c < w then a i c else 0) L) := upto_range (fun i j hj => by rw [if_neg (by omega)]) L
  obtain ⟨e, hE⟩ := Ech_of hF hR hRN
  obtain ⟨g, hg⟩ := ct_pick (leadB (upto (fun i c => if c < w then a i c else 0) L)) w
  generalize hr : dm w (upto (fun i c => if c < w then a i c else 0) L) = r
  have hr' : ct (leadB (upto (fun i c => if c < w then a i c else 0) L)) w = r := hr
  rw [hr'] at hg
  have hsp : ∀ v, upto (fun i c => if c < w then a i c else 0) L v → upto (fun j => e (g j)) r v := by
    intro v hv
    refine Spn_le (Spn_sub _) ?_ v (hE.span hR hv (b := 0) (fun j hj => absurd hj (Nat.not_lt_zero j)))
    rintro s ⟨j, -, hP, rfl⟩
    obtain ⟨k, hk, hgk⟩ := hg j (hE.1 j hP).1 hP
    exact Spn_of ⟨k, hk, by simp only [hgk]⟩
  have hβ : ∀ i, ∃ β : Nat → Fin p, i < L → ∀ j, j < w → a i j = sm (fun k => β k * e (g k) j) r := by
    intro i
    by_cases q : i < L
    · obtain ⟨β, hb⟩ := upto_coef _ r _ (hsp _ (Spn_of ⟨i, q, rfl⟩))
      exact ⟨β, fun _ j hj => by have := hb j; simp only [if_pos hj] at this; exact this⟩
    · exact ⟨fun _ => 0, fun z => absurd z q⟩
  have hC : ∀ v, upto (fun c i => if i < L then a i c else 0) w v → upto (fun k i => if i < L then Classical.choose (hβ i) k else 0) r v := by
    refine Spn_le (Spn_sub _) ?_
    rintro s ⟨j, hj, rfl⟩
    have := sm_in (V := upto (fun k i => if i < L then Classical.choose (hβ i) k else 0) r) (Spn_sub _) (fun k => e (g k) j) (fun k i => if i < L then Classical.choose (hβ i) k else 0) r (fun k hk => Spn_of ⟨k, hk, rfl⟩)
    have e2 : (fun i => sm (fun k => e (g k) j * (if i < L then Classical.choose (hβ i) k else 0)) r) = fun i => if i < L then a i j else 0 := by
      funext i
      by_cases q : i < L
      · simp only [if_pos q]
        rw [Classical.choose_spec (hβ i) q j hj]
        exact sm_cong (fun k _ => by grind)
      · simp only [if_neg q]
        rw [sm_none]; intro k _; grind
    rw [e2] at this; exact this
  exact Nat.le_trans (dm_mono hC) (dm_upto hF (fun i j hj => by rw [if_neg (by omega)]) r)
theorem rank_eq {p : Nat} [NeZero p] (hF : isField p) (a : Nat → Nat → Fin p) (L w : Nat) : dm L (upto (fun c i => if i < L then a i c else 0) w) = dm w (upto (fun i c => if c < w then a i c else 0) L) :=
  Nat.le_antisymm (rank_le hF a L w) (rank_le hF (fun c i => a i c) w L)
