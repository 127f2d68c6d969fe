section ST4
set_option maxRecDepth 100000 in
set_option maxHeartbeats 4000000 in
theorem s_Mo {M : Mem} {ρ : Nat → Nat → Option Nat} {E : Nat → Nat → Int32} {post : Mem → Prop} (s : SI M 200 ρ E) (hr : ρ 199 = fun _ => none) (hp : ∀ M' ρ', SI M' 210 ρ' (u2 (u2 E 199 1 3) 199 2 7) → (∀ c, c < 199 → ρ' c = ρ c) → (UqR ρ → UqR ρ') → MdOK M' → post M') : T_Mo_new 199 M post := by
  have km : (KT 199).1 = 7 := by decide +kernel
  unfold T_Mo_new
  rw [s.1]
  intro M1 e1
  replace s := s.m1 (k := 8) (n := 27951) (by decide +kernel); rw [← e1] at s
  replace s : SI M1 201 _ _ := s
  refine ⟨s.k (by omega) km, fun M2 e2 => ?_⟩
  replace s := s.sR (c := 199) (k := 0) (v := some 200) (by omega); rw [← e2] at s
  refine ⟨s.k (by omega) km, fun M3 e3 => ?_⟩
  replace s := s.sI (c := 199) (k := 1) (v := 3) (by omega); rw [← e3] at s
  refine ⟨s.k (by omega) km, fun M4 e4 => ?_⟩
  replace s := s.sI (c := 199) (k := 2) (v := 7) (by omega); rw [← e4] at s
  rw [s.1]
  intro M5 e5
  replace s := s.m1 (k := 8) (n := 66) (by decide +kernel); rw [← e5] at s
  replace s : SI M5 202 _ _ := s
  refine ⟨s.k (by omega) km, fun M6 e6 => ?_⟩
  replace s := s.sR (c := 199) (k := 6) (v := some 201) (by omega); rw [← e6] at s
  rw [s.1]
  intro M7 e7
  replace s := s.m1 (k := 8) (n := 1331) (by decide +kernel); rw [← e7] at s
  replace s : SI M7 203 _ _ := s
  refine ⟨s.k (by omega) km, fun M8 e8 => ?_⟩
  replace s := s.sR (c := 199) (k := 7) (v := some 202) (by omega); rw [← e8] at s
  rw [s.1]
  intro M9 e9
  replace s := s.m1 (k := 8) (n := 4356) (by decide +kernel); rw [← e9] at s
  replace s : SI M9 204 _ _ := s
  refine ⟨s.k (by omega) km, fun M10 e10 => ?_⟩
  replace s := s.sR (c := 199) (k := 9) (v := some 203) (by omega); rw [← e10] at s
  rw [s.1]
  intro M11 e11
  replace s := s.m1 (k := 8) (n := 66) (by decide +kernel); rw [← e11] at s
  replace s : SI M11 205 _ _ := s
  refine ⟨s.k (by omega) km, fun M12 e12 => ?_⟩
  replace s := s.sR (c := 199) (k := 10) (v := some 204) (by omega); rw [← e12] at s
  rw [s.1]
  intro M13 e13
  replace s := s.m1 (k := 9) (n := 66) (by decide +kernel); rw [← e13] at s
  replace s : SI M13 206 _ _ := s
  refine ⟨s.k (by omega) km, fun M14 e14 => ?_⟩
  replace s := s.sR (c := 199) (k := 11) (v := some 205) (by omega); rw [← e14] at s
  rw [s.1]
  intro M15 e15
  replace s := s.m1 (k := 9) (n := 1331) (by decide +kernel); rw [← e15] at s
  replace s : SI M15 207 _ _ := s
  refine ⟨s.k (by omega) km, fun M16 e16 => ?_⟩
  replace s := s.sR (c := 199) (k := 13) (v := some 206) (by omega); rw [← e16] at s
  rw [s.1]
  intro M17 e17
  replace s := s.m1 (k := 8) (n := 30000) (by decide +kernel); rw [← e17] at s
  replace s : SI M17 208 _ _ := s
  refine ⟨s.k (by omega) km, fun M18 e18 => ?_⟩
  replace s := s.sR (c := 199) (k := 14) (v := some 207) (by omega); rw [← e18] at s
  rw [s.1]
  intro M19 e19
  replace s := s.m1 (k := 8) (n := 66) (by decide +kernel); rw [← e19] at s
  replace s : SI M19 209 _ _ := s
  refine ⟨s.k (by omega) km, fun M20 e20 => ?_⟩
  replace s := s.sR (c := 199) (k := 15) (v := some 208) (by omega); rw [← e20] at s
  rw [s.1]
  intro M21 e21
  replace s := s.m1 (k := 8) (n := 66) (by decide +kernel); rw [← e21] at s
  replace s : SI M21 210 _ _ := s
  refine ⟨s.k (by omega) km, fun M22 e22 => ?_⟩
  replace s := s.sR (c := 199) (k := 17) (v := some 209) (by omega); rw [← e22] at s
  refine hp _ _ s (fun c hc => ?_) (fun u => s.uq (by repeat (first | exact u | refine UqR.up ?_ (by decide +kernel)))) ?_
  · unfold r2
    simp only [if_neg (show c ≠ 199 by omega)]
  refine ⟨s.k (by omega) km, s.r (by omega) (by simp [r2, va_up]), s.r (by omega) (by simp [r2, va_up]), s.r (by omega) (by simp [r2, va_up]), s.r (by omega) (by simp [r2, va_up]), s.r (by omega) (by simp [r2, va_up]), s.r (by omega) (by simp [r2, va_up]), s.r (by omega) (by simp [r2, va_up]), s.r (by omega) (by simp [r2, va_up]), s.r (by omega) (by simp [r2, va_up]), s.r (by omega) (by simp [r2, va_up]), s.a (by omega) (by decide +kernel), s.a (by omega) (by decide +kernel), s.a (by omega) (by decide +kernel), s.a (by omega) (by decide +kernel), s.a (by omega) (by decide +kernel), s.a (by omega) (by decide +kernel), s.a (by omega) (by decide +kernel), s.a (by omega) (by decide +kernel), s.a (by omega) (by decide +kernel), s.a (by omega) (by decide +kernel)⟩
theorem s_LI {M : Mem} {ρ : Nat → Nat → Option Nat} {En : Nat → Nat → Int32} (s : SI M 210 ρ (u2 (u2 (u2 (u2 (u2 (u2 (u2 En 141 11 (-1)) 149 11 (-1)) 157 11 (-1)) 166 11 (-1)) 183 11 (-1)) 199 1 3) 199 2 7)) (hz : ∀ c, 8 ≤ c → En c = fun _ => 0) (hPr : PrSt 3 0 En) (hNu : NuSt 7 En) (hT : HTOK (lzf M) false) (hM : MdOK (lzf M)) : LI (lzf M) false M.2.1 ∧ Lz0 M := by
  have hI : ∀ c, c < 210 → M.2.1 c = (u2 (u2 (u2 (u2 (u2 (u2 (u2 En 141 11 (-1)) 149 11 (-1)) 157 11 (-1)) 166 11 (-1)) 183 11 (-1)) 199 1 3) 199 2 7) c := fun c hc => (s.2.1 c hc).2.1
  have h0 : ∀ c, 8 ≤ c → c < 210 → c ≠ 141 → c ≠ 149 → c ≠ 157 → c ≠ 166 → c ≠ 183 → c ≠ 199 → ∀ k, M.2.1 c k = 0 := fun c h1 h2 q1 q2 q3 q4 q5 q6 k => by
    rw [hI c h2]
    unfold u2
    rw [if_neg q6, if_neg q6, if_neg q5, if_neg q4, if_neg q3, if_neg q2, if_neg q1, hz c h1]
  have hb : ∀ b, b = 141 ∨ b = 149 ∨ b = 157 ∨ b = 166 ∨ b = 183 → Ba0 b M.2.1 := fun b hb => by
    rcases hb with rfl | rfl | rfl | rfl | rfl
    all_goals
      refine ⟨?_, ?_, h0 _ (by omega) (by omega) (by omega) (by omega) (by omega) (by omega) (by omega) (by omega) 0, by rw [h0 _ (by omega) (by omega) (by omega) (by omega) (by omega) (by omega) (by omega) (by omega), h0 _ (by omega) (by omega) (by omega) (by omega) (by omega) (by omega) (by omega) (by omega)]⟩
      · rw [hI _ (by omega)]; simp [u2, upd]
      · rw [hI _ (by omega)]; simp [u2, upd, hz]
  have hlo : ∀ c, c < 8 → M.2.1 c = En c := fun c hc => by
    rw [hI c (by omega)]
    unfold u2
    rw [if_neg (by omega), if_neg (by omega), if_neg (by omega), if_neg (by omega), if_neg (by omega), if_neg (by omega), if_neg (by omega)]
  have hz7 : NeZero 7 := ⟨by decide⟩
  have hmr : ∀ k, 8 ≤ k → k < 210 → k ≠ 141 → k ≠ 149 → k ≠ 157 → k ≠ 166 → k ≠ 183 → k ≠ 199 → Rep (p := 7) (M.2.1 k) (fun _ _ => 0) := fun k h1 h2 q1 q2 q3 q4 q5 q6 d _ m _ => h0 k h1 h2 q1 q2 q3 q4 q5 q6 _
  have hWf : WfH (p := 7) 3 (hpE 7) := ⟨Nat.zero_le _, fun r hr => absurd hr (Nat.not_lt_zero r)⟩
  have hd0 : ∀ d, d ≤ 10 → hom (p := 7) 3 d ((fun _ _ => 0 : Nat → Mo2 → Fin 7) d) := fun d _ => Dhom0
  have hLz : Lz0 M := fun c hc => by
    have hl : ∀ c, c < 210 → lzk c ≠ 0 → KT c = (8, 0) ∧ 141 ≤ c ∧ c ≠ 141 ∧ c ≠ 149 ∧ c ≠ 157 ∧ c ≠ 166 ∧ c ≠ 183 ∧ c ≠ 199 := by decide +kernel
    have hc2 : c < 210 := by
      unfold lzk at hc
      split at hc
      · omega
      · split at hc
        · omega
        · exact absurd rfl hc
    obtain ⟨q0, q1, q2, q3, q4, q5, q6, q7⟩ := hl c hc2 hc
    have e := (s.2.1 c hc2).1
    refine ⟨by unfold kd; rw [e, q0], by unfold ln; rw [e, q0], ?_⟩
    show ¬ M.2.1 c 2147483648 = 1
    rw [h0 c (by omega) hc2 q2 q3 q4 q5 q6 q7]; decide
  refine ⟨?_, hLz⟩
  refine ⟨7, hz7, 3, 0, fun _ _ => 0, hpE 7, hpE 7, fun _ _ _ => 0, hT, hM, ?_, ?_⟩
  · refine ⟨⟨⟨hd0, hWf, hWf, fun r hr => ⟨hd0, fun _ _ _ _ => rfl, fun _ _ _ _ _ => rfl⟩⟩, PrSt_kp hlo hPr, NuSt_kp hlo hNu, by decide +kernel⟩, hmr 126 (by omega) (by omega) (by omega) (by omega) (by omega) (by omega) (by omega) (by omega), fun r hr => hmr (129 + 2 * r) (by omega) (by omega) (by omega) (by omega) (by omega) (by omega) (by omega) (by omega), ⟨⟨?_, Nat.zero_le _, fun r hr => absurd hr (Nat.not_lt_zero r)⟩, ⟨?_, Nat.zero_le _, fun r hr => absurd hr (Nat.not_lt_zero r)⟩⟩, ⟨⟨0, Ba0_to _ (hb 166 (by omega))⟩, 0, Ba0_to _ (hb 183 (by omega))⟩, ⟨0, Ba0_to _ (hb 141 (by omega))⟩, ⟨0, Ba0_to _ (hb 149 (by omega))⟩, 0, Ba0_to _ (hb 157 (by omega))⟩
    · exact h0 165 (by omega) (by omega) (by omega) (by omega) (by omega) (by omega) (by omega) (by omega) 4
    · exact h0 182 (by omega) (by omega) (by omega) (by omega) (by omega) (by omega) (by omega) (by omega) 4
  · refine ⟨⟨?_, ?_, ?_, ?_, ?_⟩, fun m hm => ?_, fun r hr => absurd hr (Nat.not_lt_zero r), fun r hr => absurd hr (Nat.not_lt_zero r), fun r hr => absurd hr (Nat.not_lt_zero r)⟩
    · rw [hI _ (by omega)]; simp [u2, upd]; rfl
    · rw [hI _ (by omega)]; simp [u2, upd]; rfl
    · rw [hI _ (by omega)]; simp [u2, upd, hz]; rfl
    · rw [hI _ (by omega)]; simp [u2, upd, hz]; rfl
    · rw [hI _ (by omega)]; simp [u2, upd, hz]; rfl
    · rw [h0 200 (by omega) (by omega) (by omega) (by omega) (by omega) (by omega) (by omega) (by omega)]
      unfold cf
      split <;> rfl
theorem lzk_lt {c : Nat} (h : lzk c ≠ 0) : c < 199 := by
  unfold lzk at h
  split at h
  · omega
  · split at h
    · omega
    · exact absurd rfl h
theorem kd_lz {M : Mem} {c : Nat} (h : lzk c = 0) : (lzf M).1 c = M.1 c := if_pos h
theorem kd_lz2 {M : Mem} {c : Nat} (h : lzk c ≠ 0) : (lzf M).1 c = (12, lzk c) := if_neg h
theorem isK_lz {M : Mem} {c k : Nat} (h : lzk c = 0) (i : isK M c k) : isK (lzf M) c k := ⟨i.1, by unfold kd; rw [kd_lz h]; exact i.2⟩
theorem arr_lz {M : Mem} {c k n : Nat} (h : lzk c = 0) (i : arr M c k n) : arr (lzf M) c k n := ⟨isK_lz h i.1, by unfold ln; rw [kd_lz h]; exact i.2⟩
theorem SI_lz {M M' : Mem} {ρ ρ' : Nat → Nat → Option Nat} {E E' : Nat → Nat → Int32} (s : SI M 199 ρ E) (s' : SI M' 210 ρ' E') (h : ∀ c, c < 199 → ρ' c = ρ c) (u : UqR ρ') : LastZ M (lzf M') := by
  have hn : nC (lzf M') = 210 := s'.1
  have hkt : ∀ c, c < 210 → (KT c).1 ≠ 12 := by decide +kernel
  have hK : ∀ c k, isK M c k → isK M' c k := fun c k ⟨h1, h2⟩ => by
    rw [s.1] at h1
    have e1 := (s.2.1 c h1).1
    have e2 := (s'.2.1 c (by omega)).1
    exact ⟨by rw [s'.1]; omega, by unfold kd at h2 ⊢; rw [e2, ← e1]; exact h2⟩
  refine ⟨fun c k v hc e => ?_, fun c k z i => isK_lz z (hK c k i), fun c k n z i => arr_lz z ⟨hK c k i.1, ?_⟩, fun c z => ?_, by rw [hn]; omega, fun a k v ha e => ?_⟩
  · show gR M' c k = v
    rw [s'.r (c := c) (k := k) (v := ρ' c k) (by omega) rfl, h c hc, ← s.r (c := c) (k := k) (v := ρ c k) hc rfl]; exact e
  · have h1 := i.1.1
    rw [s.1] at h1
    have e1 := (s.2.1 c h1).1
    have e2 := (s'.2.1 c (by omega)).1
    have h3 := i.2
    unfold ln at h3 ⊢; rw [e2, ← e1]; exact h3
  · have := lzk_lt z
    exact ⟨⟨by rw [hn]; omega, by unfold kd; rw [kd_lz2 z]⟩, by unfold ln; rw [kd_lz2 z]⟩
  · rw [hn] at ha
    have e' : gR M' a k = some v := e
    rw [s'.r (c := a) (k := k) (v := ρ' a k) ha rfl] at e'
    obtain ⟨u1, u2⟩ := u a k v e'
    refine ⟨by rw [hn]; exact u1, fun hv => ?_⟩
    have hz : lzk v ≠ 0 := fun z => by
      have hv' : (M'.1 v).1 = 12 := by unfold kd at hv; rw [kd_lz z] at hv; exact hv
      rw [(s'.2.1 v u1).1] at hv'
      exact hkt v u1 hv'
    have hl : ln (lzf M') v = lzk v := by unfold ln; rw [kd_lz2 hz]
    rw [hl]; exact u2 hz
end ST4
