section ST4
set_option maxRecDepth 100000 in
set_option maxHeartbeats 4000000 in
theorem s_Mo {M : Mem} {ρ : Nat → Nat → Option Nat} {E : Nat → Nat → Int32} {post : Mem → Prop} (s : SI M 205 ρ E) (hr : ρ 204 = fun _ => none) (hp : ∀ M' ρ', SI M' 215 ρ' (u2 (u2 E 204 1 3) 204 2 7) → (∀ c, c < 204 → ρ' c = ρ c) → MdOK M' → post M') : T_Mo_new 204 M post := by
  have km : (KT 204).1 = 7 := by decide +kernel
  unfold T_Mo_new
  rw [s.1]
  intro M1 e1
  replace s := s.m1 (k := 8) (n := 27951) (by decide +kernel); rw [← e1] at s
  replace s : SI M1 206 _ _ := s
  refine ⟨s.k (by omega) km, fun M2 e2 => ?_⟩
  replace s := s.sR (c := 204) (k := 0) (v := some 205) (by omega); rw [← e2] at s
  refine ⟨s.k (by omega) km, fun M3 e3 => ?_⟩
  replace s := s.sI (c := 204) (k := 1) (v := 3) (by omega); rw [← e3] at s
  refine ⟨s.k (by omega) km, fun M4 e4 => ?_⟩
  replace s := s.sI (c := 204) (k := 2) (v := 7) (by omega); rw [← e4] at s
  rw [s.1]
  intro M5 e5
  replace s := s.m1 (k := 8) (n := 66) (by decide +kernel); rw [← e5] at s
  replace s : SI M5 207 _ _ := s
  refine ⟨s.k (by omega) km, fun M6 e6 => ?_⟩
  replace s := s.sR (c := 204) (k := 6) (v := some 206) (by omega); rw [← e6] at s
  rw [s.1]
  intro M7 e7
  replace s := s.m1 (k := 8) (n := 1331) (by decide +kernel); rw [← e7] at s
  replace s : SI M7 208 _ _ := s
  refine ⟨s.k (by omega) km, fun M8 e8 => ?_⟩
  replace s := s.sR (c := 204) (k := 7) (v := some 207) (by omega); rw [← e8] at s
  rw [s.1]
  intro M9 e9
  replace s := s.m1 (k := 8) (n := 4356) (by decide +kernel); rw [← e9] at s
  replace s : SI M9 209 _ _ := s
  refine ⟨s.k (by omega) km, fun M10 e10 => ?_⟩
  replace s := s.sR (c := 204) (k := 9) (v := some 208) (by omega); rw [← e10] at s
  rw [s.1]
  intro M11 e11
  replace s := s.m1 (k := 8) (n := 66) (by decide +kernel); rw [← e11] at s
  replace s : SI M11 210 _ _ := s
  refine ⟨s.k (by omega) km, fun M12 e12 => ?_⟩
  replace s := s.sR (c := 204) (k := 10) (v := some 209) (by omega); rw [← e12] at s
  rw [s.1]
  intro M13 e13
  replace s := s.m1 (k := 9) (n := 66) (by decide +kernel); rw [← e13] at s
  replace s : SI M13 211 _ _ := s
  refine ⟨s.k (by omega) km, fun M14 e14 => ?_⟩
  replace s := s.sR (c := 204) (k := 11) (v := some 210) (by omega); rw [← e14] at s
  rw [s.1]
  intro M15 e15
  replace s := s.m1 (k := 9) (n := 1331) (by decide +kernel); rw [← e15] at s
  replace s : SI M15 212 _ _ := s
  refine ⟨s.k (by omega) km, fun M16 e16 => ?_⟩
  replace s := s.sR (c := 204) (k := 13) (v := some 211) (by omega); rw [← e16] at s
  rw [s.1]
  intro M17 e17
  replace s := s.m1 (k := 8) (n := 30000) (by decide +kernel); rw [← e17] at s
  replace s : SI M17 213 _ _ := s
  refine ⟨s.k (by omega) km, fun M18 e18 => ?_⟩
  replace s := s.sR (c := 204) (k := 14) (v := some 212) (by omega); rw [← e18] at s
  rw [s.1]
  intro M19 e19
  replace s := s.m1 (k := 8) (n := 66) (by decide +kernel); rw [← e19] at s
  replace s : SI M19 214 _ _ := s
  refine ⟨s.k (by omega) km, fun M20 e20 => ?_⟩
  replace s := s.sR (c := 204) (k := 15) (v := some 213) (by omega); rw [← e20] at s
  rw [s.1]
  intro M21 e21
  replace s := s.m1 (k := 8) (n := 66) (by decide +kernel); rw [← e21] at s
  replace s : SI M21 215 _ _ := s
  refine ⟨s.k (by omega) km, fun M22 e22 => ?_⟩
  replace s := s.sR (c := 204) (k := 17) (v := some 214) (by omega); rw [← e22] at s
  refine hp _ _ s (fun c hc => ?_) ?_
  · unfold r2
    simp only [if_neg (show c ≠ 204 by omega)]
  refine ⟨s.k (by omega) km, s.r (by omega) (by simp [r2, va_up]), s.r (by omega) (by simp [r2, va_up]), s.r (by omega) (by simp [r2, va_up]), s.r (by omega) (by simp [r2, va_up]), s.r (by omega) (by simp [r2, va_up]), s.r (by omega) (by simp [r2, va_up]), s.r (by omega) (by simp [r2, va_up]), s.r (by omega) (by simp [r2, va_up]), s.r (by omega) (by simp [r2, va_up]), s.r (by omega) (by simp [r2, va_up]), s.a (by omega) (by decide +kernel), s.a (by omega) (by decide +kernel), s.a (by omega) (by decide +kernel), s.a (by omega) (by decide +kernel), s.a (by omega) (by decide +kernel), s.a (by omega) (by decide +kernel), s.a (by omega) (by decide +kernel), s.a (by omega) (by decide +kernel), s.a (by omega) (by decide +kernel), s.a (by omega) (by decide +kernel)⟩
theorem s_LI {M : Mem} {ρ : Nat → Nat → Option Nat} {En : Nat → Nat → Int32} (s : SI M 215 ρ (u2 (u2 (u2 (u2 (u2 (u2 (u2 En 141 12 (-1)) 150 12 (-1)) 159 12 (-1)) 169 12 (-1)) 187 12 (-1)) 204 1 3) 204 2 7)) (hz : ∀ c, 8 ≤ c → En c = fun _ => 0) (hPr : PrSt 3 0 En) (hNu : NuSt 7 En) (hT : HTOK M false) (hM : MdOK M) : LI M false M.2.1 := by
  have hI : ∀ c, c < 215 → M.2.1 c = (u2 (u2 (u2 (u2 (u2 (u2 (u2 En 141 12 (-1)) 150 12 (-1)) 159 12 (-1)) 169 12 (-1)) 187 12 (-1)) 204 1 3) 204 2 7) c := fun c hc => (s.2.1 c hc).2.1
  have h0 : ∀ c, 8 ≤ c → c < 215 → c ≠ 141 → c ≠ 150 → c ≠ 159 → c ≠ 169 → c ≠ 187 → c ≠ 204 → ∀ k, M.2.1 c k = 0 := fun c h1 h2 q1 q2 q3 q4 q5 q6 k => by
    rw [hI c h2]
    unfold u2
    rw [if_neg q6, if_neg q6, if_neg q5, if_neg q4, if_neg q3, if_neg q2, if_neg q1, hz c h1]
  have hb : ∀ b, b = 141 ∨ b = 150 ∨ b = 159 ∨ b = 169 ∨ b = 187 → Ba0 b M.2.1 := fun b hb => by
    rcases hb with rfl | rfl | rfl | rfl | rfl
    all_goals
      refine ⟨?_, ?_, h0 _ (by omega) (by omega) (by omega) (by omega) (by omega) (by omega) (by omega) (by omega) 0⟩
      · rw [hI _ (by omega)]; simp [u2, upd]
      · rw [hI _ (by omega)]; simp [u2, upd, hz]
  have hlo : ∀ c, c < 8 → M.2.1 c = En c := fun c hc => by
    rw [hI c (by omega)]
    unfold u2
    rw [if_neg (by omega), if_neg (by omega), if_neg (by omega), if_neg (by omega), if_neg (by omega), if_neg (by omega), if_neg (by omega)]
  have hz7 : NeZero 7 := ⟨by decide⟩
  have hmr : ∀ k, 8 ≤ k → k < 215 → k ≠ 141 → k ≠ 150 → k ≠ 159 → k ≠ 169 → k ≠ 187 → k ≠ 204 → Rep (p := 7) (M.2.1 k) (fun _ _ => 0) := fun k h1 h2 q1 q2 q3 q4 q5 q6 d _ m _ => h0 k h1 h2 q1 q2 q3 q4 q5 q6 _
  have hWf : WfH (p := 7) 3 (hpE 7) := ⟨Nat.zero_le _, fun r hr => absurd hr (Nat.not_lt_zero r)⟩
  have hd0 : ∀ d, d ≤ 10 → hom (p := 7) 3 d ((fun _ _ => 0 : Nat → Mo2 → Fin 7) d) := fun d _ => Dhom0
  refine ⟨7, hz7, 3, 0, fun _ _ => 0, hpE 7, hpE 7, fun _ _ _ => 0, hT, hM, ?_, ?_⟩
  · refine ⟨⟨⟨hd0, hWf, hWf, fun r hr => ⟨hd0, fun _ _ _ _ => rfl, fun _ _ _ _ _ => rfl⟩⟩, PrSt_kp hlo hPr, NuSt_kp hlo hNu, by decide +kernel⟩, hmr 126 (by omega) (by omega) (by omega) (by omega) (by omega) (by omega) (by omega) (by omega), fun r hr => hmr (129 + 2 * r) (by omega) (by omega) (by omega) (by omega) (by omega) (by omega) (by omega) (by omega), ⟨⟨?_, Nat.zero_le _, fun r hr => absurd hr (Nat.not_lt_zero r)⟩, ⟨?_, Nat.zero_le _, fun r hr => absurd hr (Nat.not_lt_zero r)⟩⟩, ⟨⟨0, Ba0_to _ (hb 169 (by omega))⟩, 0, Ba0_to _ (hb 187 (by omega))⟩, ⟨0, Ba0_to _ (hb 141 (by omega))⟩, ⟨0, Ba0_to _ (hb 150 (by omega))⟩, 0, Ba0_to _ (hb 159 (by omega))⟩
    · exact h0 168 (by omega) (by omega) (by omega) (by omega) (by omega) (by omega) (by omega) (by omega) 4
    · exact h0 186 (by omega) (by omega) (by omega) (by omega) (by omega) (by omega) (by omega) (by omega) 4
  · refine ⟨⟨?_, ?_, ?_, ?_, ?_⟩, fun m hm => ?_, fun r hr => absurd hr (Nat.not_lt_zero r), fun r hr => absurd hr (Nat.not_lt_zero r), fun r hr => absurd hr (Nat.not_lt_zero r)⟩
    · rw [hI _ (by omega)]; simp [u2, upd]; rfl
    · rw [hI _ (by omega)]; simp [u2, upd]; rfl
    · rw [hI _ (by omega)]; simp [u2, upd, hz]; rfl
    · rw [hI _ (by omega)]; simp [u2, upd, hz]; rfl
    · rw [hI _ (by omega)]; simp [u2, upd, hz]; rfl
    · rw [h0 205 (by omega) (by omega) (by omega) (by omega) (by omega) (by omega) (by omega) (by omega)]
      unfold cf
      split <;> rfl
theorem HT_kp {M M' : Mem} {ρ ρ' : Nat → Nat → Option Nat} {E E' : Nat → Nat → Int32} (s : SI M 204 ρ E) (s' : SI M' 215 ρ' E') (h : ∀ c, c < 204 → ρ' c = ρ c) : (∀ c k, c < 204 → gR M' c k = gR M c k) ∧ ∀ c k n, arr M c k n → arr M' c k n := by
  refine ⟨fun c k hc => ?_, fun c k n ⟨⟨h1, h2⟩, h3⟩ => ?_⟩
  · rw [s'.r (c := c) (k := k) (v := ρ' c k) (by omega) rfl, s.r (c := c) (k := k) (v := ρ c k) hc rfl, h c hc]
  · rw [s.1] at h1
    have e1 := (s.2.1 c h1).1
    have e2 := (s'.2.1 c (by omega)).1
    refine ⟨⟨by rw [s'.1]; omega, ?_⟩, ?_⟩
    · unfold kd at h2 ⊢; rw [e2, ← e1]; exact h2
    · unfold ln at h3 ⊢; rw [e2, ← e1]; exact h3
end ST4
