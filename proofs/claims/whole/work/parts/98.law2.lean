theorem lt5 {L k : Nat} (hL : L ≤ 2560) (hk : k ≤ 2600) : (nI L - 5 < nI k) ↔ L < k + 5 := by
  rw [Int32.lt_iff_toInt_lt, show (5 : Int32) = nI 5 from rfl, pk_sub_toInt (by omega) (by omega), nI_toInt (by omega)]
  omega
theorem vpin {L k j : Nat} (h : k + j < L) (hL : L ≤ 2560) : vp_in (nI k + nI j) L := by
  rw [nI_add]
  unfold vp_in
  rw [nI_clamp (by omega)]
  rintro (q | q)
  · exact nI_nlt0 (by omega) q
  · omega
theorem law_loop {L : Nat} {sc : Nat → Int32} {post : Int32 → Mem → Prop} (hL : L ≤ 2560) (hp : ∀ M, post 1 M) : ∀ t k, L ≤ k + 5 * t → k ≤ 2600 → ∀ M sw I, LI M sw I → L_La_law_18 L sc post (t + 1) 0 199 (nI k) (wI M I) := by
  intro t
  induction t with
  | zero =>
    intro k h1 h2 M sw I hI
    show B_La_law_18 L sc (L_La_law_18 L sc post 0) post 0 199 _ _
    exact ⟨fun _ => hp _, fun q => absurd ((lt5 hL h2).mpr (by omega)) q⟩
  | succ t ih =>
    intro k h1 h2 M sw I hI
    show B_La_law_18 L sc (L_La_law_18 L sc post (t + 1)) post 0 199 _ _
    refine ⟨fun _ => hp _, fun q => ?_⟩
    have hk : k + 5 ≤ L := by
      rw [lt5 hL h2] at q; omega
    have nx : ∀ M sw I, LI M sw I → B_La_law_723 L sc (L_La_law_18 L sc post (t + 1)) post 0 199 (nI k) (wI M I) := fun M sw I h => by
      show L_La_law_18 L sc post (t + 1) 0 199 (nI k + 5) (wI M I)
      rw [show nI k + 5 = nI (k + 5) from nI_add k 5]
      exact ih (k + 5) (by omega) (by omega) M sw I h
    have hQ : ∀ (r : Int32) (M' : Mem) (sw' : Bool) (I' : Nat → Nat → Int32), LI M' sw' I' → (fun (r r' : Int32) (M2 : Mem) => (r = r' → B_La_law_723 L sc (L_La_law_18 L sc post (t + 1)) post 0 199 (nI k) M2) ∧ (¬ r = r' → post 0 M2)) r r (wI M' I') := fun r M' sw' I' h => ⟨fun _ => nx M' sw' I' h, fun z => absurd rfl z⟩
    have v0 : vp_in (nI k) L := by
      have := vpin (j := 0) (k := k) (by omega) hL
      rw [show nI k + nI 0 = nI k from nI_add k 0] at this; exact this
    have v1 : vp_in (nI k + 1) L := vpin (j := 1) (by omega) hL
    have v2 : vp_in (nI k + 2) L := vpin (j := 2) (by omega) hL
    have v3 : vp_in (nI k + 3) L := vpin (j := 3) (by omega) hL
    have v4 : vp_in (nI k + 4) L := vpin (j := 4) (by omega) hL
    have kM : isK M 199 7 := by obtain ⟨p, hz, n, ord, D, H, O, C, hT, hM, _⟩ := hI; exact hM.1
    have k6 : isK M 0 6 := by obtain ⟨p, hz, n, ord, D, H, O, C, hT, _⟩ := hI; exact hT.1.1
    refine ⟨v0, fun _ => nx M sw I hI, fun _ => ⟨v1, v2, k6, la_letters hI hQ (fun r M1 k7 g => ⟨v1, v2, k7, g⟩)⟩, fun _ => ⟨v1, k6, la_order hI hQ (fun r M1 k7 g => ⟨v1, k7, g⟩)⟩, fun _ => ⟨v1, v2, v3, v4, k6, la_term hI hQ (fun r M1 k7 g => ⟨v1, v2, v3, v4, k7, g⟩)⟩, fun _ => ⟨v1, v2, v3, k6, la_number hI hQ (fun r M1 k7 g => ⟨v1, v2, v3, k7, g⟩)⟩, fun _ => ⟨k6, la_wipe hI hQ (fun r M1 k7 g => ⟨k7, g⟩)⟩, fun _ => ⟨v1, k6, la_draft hI hQ (fun r M1 k7 g => ⟨v1, k7, g⟩)⟩, fun _ => ⟨v1, v2, v3, k6, la_times hI hQ (fun r M1 k7 g => ⟨v1, v2, v3, k7, g⟩)⟩, fun _ => ⟨k6, la_row hI hQ (fun r M1 k7 g => ⟨k7, g⟩)⟩, fun _ => ⟨k6, la_drop hI hQ (fun r M1 k7 g => ⟨k7, g⟩)⟩, fun _ => ⟨v1, k6, la_copy hI hQ (fun r M1 k7 g => ⟨v1, k7, g⟩)⟩, fun _ => ⟨k6, k6, kM, la_rest hI hQ (fun r M1 j6 k7 g => ⟨j6, k7, k7, g⟩)⟩, fun _ => ⟨k6, k6, kM, la_in hI hQ (fun r M1 j6 k7 g => ⟨j6, k7, k7, g⟩)⟩, fun _ => ⟨v1, k6, k6, kM, la_base hI hQ (fun r M1 j6 k7 g => ⟨j6, k7, v1, k7, g⟩)⟩, fun _ => ⟨v1, k6, k6, kM, la_element hI hQ (fun r M1 j6 k7 g => ⟨j6, k7, v1, k7, g⟩)⟩, fun _ => ⟨v1, k6, k6, kM, la_count hI hQ (fun r M1 j6 k7 g => ⟨j6, k7, v1, k7, g⟩)⟩, fun _ => ⟨v1, v2, k6, k6, kM, la_free hI hQ (fun r M1 j6 k7 g => ⟨j6, k7, v1, v2, k7, g⟩)⟩, fun _ => ⟨v1, k6, k6, kM, la_quotient hI hQ (fun r M1 j6 k7 g => ⟨j6, k7, v1, k7, g⟩)⟩, fun _ => ⟨k6, k6, kM, la_regular hI hQ (fun r M1 j6 k7 g => ⟨j6, k7, k7, g⟩)⟩, fun _ => ⟨k6, la_keep hI hQ (fun r M1 k7 g => ⟨k7, g⟩)⟩, fun _ => ⟨k6, la_swap hI hQ (fun r M1 k7 g => ⟨k7, g⟩)⟩, fun _ => ⟨v1, v2, k6, k6, kM, la_dimension hI hQ (fun r M1 j6 k7 g => ⟨j6, k7, v1, v2, k7, g⟩)⟩, fun _ => ⟨k6, k6, kM, la_parts hI hQ (fun r M1 j6 k7 g => ⟨j6, k7, k7, g⟩)⟩, fun _ => ⟨v1, k6, la_claim hI hQ (fun r M1 k7 g => ⟨v1, k7, g⟩)⟩, fun _ => ⟨k6, la_sum hI hQ (fun r M1 k7 g => ⟨k7, g⟩)⟩, fun _ => ⟨v1, k6, la_told hI hQ (fun r M1 k7 g => ⟨v1, k7, g⟩)⟩⟩
