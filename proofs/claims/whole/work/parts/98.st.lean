/-! the start: kinds and lengths of the cells -/
def KL : List (Nat × Nat) := [(6, 0), (4, 0), (8, 66), (8, 66), (8, 286), (8, 11), (2, 0), (8, 97), (5, 0), (11, 66)] ++ List.replicate 69 (8, 66) ++ [(11, 45)] ++ List.replicate 45 (8, 36) ++ [(3, 0), (8, 286), (10, 6)] ++ (List.replicate 6 [(3, 0), (8, 286)]).flatten ++ [(8, 66)] ++ (List.replicate 3 [(0, 0), (8, 67), (8, 66), (8, 11), (8, 11), (8, 11), (8, 0), (8, 0)]).flatten ++ (List.replicate 2 [(1, 0), (0, 0), (8, 67), (8, 66), (8, 11), (8, 11), (8, 11), (8, 0), (8, 0), (8, 6), (11, 6), (8, 21), (8, 21), (8, 21), (8, 21), (8, 21), (8, 21)]).flatten ++ [(7, 0), (8, 27951), (8, 66), (8, 1331), (8, 4356), (8, 66), (9, 66), (9, 1331), (8, 30000), (8, 66), (8, 66)]
def KT (c : Nat) : Nat × Nat := KL.getD c (0, 0)
def r2 (ρ : Nat → Nat → Option Nat) (c k : Nat) (v : Option Nat) : Nat → Nat → Option Nat := fun a => if a = c then va_up (ρ c) k v else ρ a
def a2 (ρ : Nat → Nat → Option Nat) (N n : Nat) : Nat → Nat → Option Nat := fun a => if a = N then (fun i => if i < n then some (N + 1 + i) else none) else ρ a
def SI (M : Mem) (N : Nat) (ρ : Nat → Nat → Option Nat) (E : Nat → Nat → Int32) : Prop := nC M = N ∧ (∀ c, c < N → M.1 c = KT c ∧ M.2.1 c = E c ∧ M.2.2.1 c = ρ c) ∧ ∀ c, N ≤ c → ρ c = (fun _ => none) ∧ E c = fun _ => 0
section ST
variable {M : Mem} {N : Nat} {ρ : Nat → Nat → Option Nat} {E : Nat → Nat → Int32}
theorem SI.m1 {k n : Nat} (h : SI M N ρ E) (hK : KT N = (k, n)) : SI (mk M k n) (N + 1) ρ E := by
  obtain ⟨h1, h2, h3⟩ := h
  refine ⟨by rw [← h1]; rfl, fun c hc => ?_, fun c hc => h3 c (by omega)⟩
  unfold mk
  simp only [h1]
  by_cases z : c = N
  · subst z
    simp only [if_pos]
    exact ⟨hK.symm, (h3 c (Nat.le_refl c)).2.symm, (h3 c (Nat.le_refl c)).1.symm⟩
  · simp only [if_neg z]
    exact h2 c (by omega)
theorem SI.m2 {n w : Nat} (h : SI M N ρ E) (hK : KT N = (11, n)) (hw : ∀ a, a < n → KT (N + 1 + a) = (8, w)) : SI (mk2 M n w) (N + 1 + n) (a2 ρ N n) E := by
  obtain ⟨h1, h2, h3⟩ := h
  refine ⟨by rw [← h1]; rfl, fun c hc => ?_, fun c hc => ?_⟩
  · unfold mk2 a2
    simp only [h1]
    by_cases z : c = N
    · subst z
      rw [if_pos rfl, if_pos ⟨Nat.le_refl c, by omega⟩, if_pos rfl, if_pos rfl]
      exact ⟨hK.symm, (h3 c (Nat.le_refl c)).2.symm, rfl⟩
    · rw [if_neg z, if_neg z, if_neg z]
      by_cases y : N < c
      · rw [if_pos ⟨y, by omega⟩, if_pos ⟨by omega, by omega⟩, if_pos ⟨y, by omega⟩]
        have := hw (c - N - 1) (by omega)
        rw [show N + 1 + (c - N - 1) = c by omega] at this
        exact ⟨this.symm, (h3 c (by omega)).2.symm, (h3 c (by omega)).1.symm⟩
      · rw [if_neg (by omega), if_neg (by omega), if_neg (by omega)]
        exact h2 c (by omega)
  · unfold a2
    rw [if_neg (by omega)]
    exact h3 c (by omega)
theorem SI.sR {c k : Nat} {v : Option Nat} (h : SI M N ρ E) (hc : c < N) : SI (sR M c k v) N (r2 ρ c k v) E := by
  obtain ⟨h1, h2, h3⟩ := h
  refine ⟨h1, fun a ha => ⟨(h2 a ha).1, (h2 a ha).2.1, ?_⟩, fun a ha => ⟨?_, (h3 a ha).2⟩⟩
  · show (if a = c then va_up (M.2.2.1 c) k v else M.2.2.1 a) = _
    unfold r2
    by_cases z : a = c
    · rw [if_pos z, if_pos z, (h2 c hc).2.2]
    · rw [if_neg z, if_neg z, (h2 a ha).2.2]
  · unfold r2
    rw [if_neg (by omega)]; exact (h3 a ha).1
theorem SI.sI {c k : Nat} {v : Int32} (h : SI M N ρ E) (hc : c < N) : SI (sI M c k v) N ρ (u2 E c k v) := by
  obtain ⟨h1, h2, h3⟩ := h
  refine ⟨h1, fun a ha => ⟨(h2 a ha).1, ?_, (h2 a ha).2.2⟩, fun a ha => ⟨(h3 a ha).1, ?_⟩⟩
  · show (if a = c then upd (M.2.1 c) k v else M.2.1 a) = _
    unfold u2
    by_cases z : a = c
    · rw [if_pos z, if_pos z, (h2 c hc).2.1]
    · rw [if_neg z, if_neg z, (h2 a ha).2.1]
  · unfold u2
    rw [if_neg (by omega)]; exact (h3 a ha).2
theorem SI.wI {I : Nat → Nat → Int32} (h : SI M N ρ E) : SI (wI M I) N ρ (fun c => if c < N then I c else fun _ => 0) := ⟨h.1, fun c hc => ⟨(h.2.1 c hc).1, by show I c = if c < N then I c else fun _ => 0; rw [if_pos hc], (h.2.1 c hc).2.2⟩, fun c hc => ⟨(h.2.2 c hc).1, if_neg (by omega)⟩⟩
theorem SI.k {c k : Nat} (h : SI M N ρ E) (hc : c < N) (hk : (KT c).1 = k) : isK M c k := ⟨by rw [h.1]; exact hc, by unfold kd; rw [(h.2.1 c hc).1]; exact hk⟩
theorem SI.a {c k n : Nat} (h : SI M N ρ E) (hc : c < N) (hk : KT c = (k, n)) : arr M c k n := ⟨h.k hc (by rw [hk]), by unfold ln; rw [(h.2.1 c hc).1, hk]⟩
theorem SI.r {c k : Nat} {v : Option Nat} (h : SI M N ρ E) (hc : c < N) (hv : ρ c k = v) : gR M c k = v := by unfold gR; rw [(h.2.1 c hc).2.2]; exact hv
theorem SI.i {c k : Nat} (h : SI M N ρ E) (hc : c < N) : M.2.1 c k = E c k := by rw [(h.2.1 c hc).2.1]
theorem s_Po {a a1 : Nat} {post : Mem → Prop} (h : SI M (a + 1) ρ E) (k0 : (KT a).1 = 3) (k1 : KT (a + 1) = (8, 286)) (hp : ∀ M', SI M' (a + 2) (r2 (r2 ρ a 1 (some (a + 1))) a 0 (some a1)) E → post M') : T_Po_new a a1 M post := by
  unfold T_Po_new
  rw [h.1]
  intro M8 e8
  have s8 : SI M8 (a + 2) ρ E := e8 ▸ h.m1 k1
  refine ⟨s8.k (by omega) k0, fun M10 e10 => ?_⟩
  have s10 := s8.sR (c := a) (k := 1) (v := some (a + 1)) (by omega)
  rw [← e10] at s10
  refine ⟨s10.k (by omega) k0, fun M15 e15 => ?_⟩
  have s15 := s10.sR (c := a) (k := 0) (v := some a1) (by omega)
  rw [← e15] at s15
  exact hp M15 s15
theorem s_Ba {b a1 a2 a3 a4 : Nat} {post : Mem → Prop} (h : SI M (b + 1) ρ E) (k0 : (KT b).1 = 0) (k1 : KT (b + 1) = (8, 67)) (k2 : KT (b + 2) = (8, 66)) (k3 : KT (b + 3) = (8, 11)) (k4 : KT (b + 4) = (8, 11)) (k5 : KT (b + 5) = (8, 11)) (k6 : KT (b + 6) = (8, 0)) (k7 : KT (b + 7) = (8, 0)) (hp : ∀ M', SI M' (b + 8) (r2 (r2 (r2 (r2 (r2 (r2 (r2 (r2 (r2 (r2 (r2 ρ b 4 (some (b + 1))) b 5 (some (b + 2))) b 6 (some (b + 3))) b 7 (some (b + 4))) b 8 (some (b + 5))) b 9 (some (b + 6))) b 10 (some (b + 7))) b 0 (some a1)) b 1 (some a2)) b 2 (some a3)) b 3 (some a4)) (u2 E b 11 (-1)) → post M') : T_Ba_new b a1 a2 a3 a4 M post := by
  unfold T_Ba_new
  have s := h
  rw [s.1]
  intro M1 e1
  replace s := s.m1 k1; rw [← e1] at s
  refine ⟨s.k (by omega) k0, fun N1 f1 => ?_⟩
  replace s := s.sR (c := b) (k := 4) (v := some (b + 1)) (by omega); rw [← f1] at s
  rw [s.1]
  intro M2 e2
  replace s := s.m1 k2; rw [← e2] at s
  refine ⟨s.k (by omega) k0, fun N2 f2 => ?_⟩
  replace s := s.sR (c := b) (k := 5) (v := some (b + 2)) (by omega); rw [← f2] at s
  rw [s.1]
  intro M3 e3
  replace s := s.m1 k3; rw [← e3] at s
  refine ⟨s.k (by omega) k0, fun N3 f3 => ?_⟩
  replace s := s.sR (c := b) (k := 6) (v := some (b + 3)) (by omega); rw [← f3] at s
  rw [s.1]
  intro M4 e4
  replace s := s.m1 k4; rw [← e4] at s
  refine ⟨s.k (by omega) k0, fun N4 f4 => ?_⟩
  replace s := s.sR (c := b) (k := 7) (v := some (b + 4)) (by omega); rw [← f4] at s
  rw [s.1]
  intro M5 e5
  replace s := s.m1 k5; rw [← e5] at s
  refine ⟨s.k (by omega) k0, fun N5 f5 => ?_⟩
  replace s := s.sR (c := b) (k := 8) (v := some (b + 5)) (by omega); rw [← f5] at s
  rw [s.1]
  intro M6 e6
  replace s := s.m1 k6; rw [← e6] at s
  refine ⟨s.k (by omega) k0, fun N6 f6 => ?_⟩
  replace s := s.sR (c := b) (k := 9) (v := some (b + 6)) (by omega); rw [← f6] at s
  rw [s.1]
  intro M7 e7
  replace s := s.m1 k7; rw [← e7] at s
  refine ⟨s.k (by omega) k0, fun N7 f7 => ?_⟩
  replace s := s.sR (c := b) (k := 10) (v := some (b + 7)) (by omega); rw [← f7] at s
  refine ⟨s.k (by omega) k0, fun N9 f9 => ?_⟩
  replace s := s.sI (c := b) (k := 11) (v := -1) (by omega); rw [← f9] at s
  refine ⟨s.k (by omega) k0, fun P1 g1 => ?_⟩
  replace s := s.sR (c := b) (k := 0) (v := some a1) (by omega); rw [← g1] at s
  refine ⟨s.k (by omega) k0, fun P2 g2 => ?_⟩
  replace s := s.sR (c := b) (k := 1) (v := some a2) (by omega); rw [← g2] at s
  refine ⟨s.k (by omega) k0, fun P3 g3 => ?_⟩
  replace s := s.sR (c := b) (k := 2) (v := some a3) (by omega); rw [← g3] at s
  refine ⟨s.k (by omega) k0, fun P4 g4 => ?_⟩
  replace s := s.sR (c := b) (k := 3) (v := some a4) (by omega); rw [← g4] at s
  exact hp P4 s
theorem s_He {h a1 a2' N' : Nat} {post : Mem → Prop} (s : SI M N' ρ E) (hN : N' = h + 9) (k0 : (KT h).1 = 1) (k1 : KT (h + 9) = (8, 6)) (k2 : KT (h + 10) = (11, 6)) (k3 : ∀ a, a < 6 → KT (h + 10 + 1 + a) = (8, 21)) (hp : ∀ M', SI M' (h + 17) (r2 (r2 (r2 (a2 (r2 ρ h 2 (some (h + 9))) (h + 10) 6) h 3 (some (h + 10))) h 0 (some a1)) h 1 (some a2')) E → post M') : T_He_new h a1 a2' M post := by
  subst hN
  unfold T_He_new
  rw [s.1]
  intro M1 e1
  replace s := s.m1 k1; rw [← e1] at s
  refine ⟨s.k (by omega) k0, fun N1 f1 => ?_⟩
  replace s := s.sR (c := h) (k := 2) (v := some (h + 9)) (by omega); rw [← f1] at s
  rw [s.1]
  intro M2 e2
  replace s := s.m2 (n := 6) (w := 21) k2 k3; rw [← e2] at s
  refine ⟨s.k (by omega) k0, fun N2 f2 => ?_⟩
  replace s := s.sR (c := h) (k := 3) (v := some (h + 10)) (by omega); rw [← f2] at s
  refine ⟨s.k (by omega) k0, fun N3 f3 => ?_⟩
  replace s := s.sR (c := h) (k := 0) (v := some a1) (by omega); rw [← f3] at s
  refine ⟨s.k (by omega) k0, fun N4 f4 => ?_⟩
  replace s := s.sR (c := h) (k := 1) (v := some a2') (by omega); rw [← f4] at s
  exact hp N4 s
theorem s_Ro {a1 a2' : Nat} {post : Mem → Prop} (s : SI M 9 ρ E) (hp : ∀ M', SI M' 78 (r2 (r2 (r2 (r2 (r2 (a2 ρ 9 66) 8 2 (some 9)) 8 3 (some 76)) 8 4 (some 77)) 8 0 (some a1)) 8 1 (some a2')) E → post M') : T_Ro_new 8 a1 a2' M post := by
  unfold T_Ro_new
  have k0 : (KT 8).1 = 5 := by decide +kernel
  rw [s.1]
  intro M1 e1
  replace s := s.m2 (n := 66) (w := 66) (by decide +kernel) (by decide +kernel); rw [← e1] at s
  refine ⟨s.k (by omega) k0, fun N1 f1 => ?_⟩
  replace s := s.sR (c := 8) (k := 2) (v := some 9) (by omega); rw [← f1] at s
  rw [s.1]
  intro M2 e2
  replace s := s.m1 (k := 8) (n := 66) (by decide +kernel); rw [← e2] at s
  refine ⟨s.k (by omega) k0, fun N2 f2 => ?_⟩
  replace s := s.sR (c := 8) (k := 3) (v := some 76) (by omega); rw [← f2] at s
  rw [s.1]
  intro M3 e3
  replace s := s.m1 (k := 8) (n := 66) (by decide +kernel); rw [← e3] at s
  refine ⟨s.k (by omega) k0, fun N3 f3 => ?_⟩
  replace s := s.sR (c := 8) (k := 4) (v := some 77) (by omega); rw [← f3] at s
  refine ⟨s.k (by omega) k0, fun N4 f4 => ?_⟩
  replace s := s.sR (c := 8) (k := 0) (v := some a1) (by omega); rw [← f4] at s
  refine ⟨s.k (by omega) k0, fun N5 f5 => ?_⟩
  replace s := s.sR (c := 8) (k := 1) (v := some a2') (by omega); rw [← f5] at s
  exact hp N5 s
end ST
/-! references go to what is there; a lazy array is known to its base alone -/
def UqR (ρ : Nat → Nat → Option Nat) : Prop := ∀ c k v, ρ c k = some v → v < 210 ∧ (lzk v ≠ 0 → (k = 9 ∧ v = c + 6 ∧ lzk v = 2560) ∨ (k = 10 ∧ v = c + 7 ∧ lzk v = 286))
theorem UqR.nil : UqR (fun _ _ => none) := fun c k v h => by cases h
theorem UqR.up {ρ : Nat → Nat → Option Nat} {c k v : Nat} (u : UqR ρ) (h : v < 210 ∧ (lzk v ≠ 0 → (k = 9 ∧ v = c + 6 ∧ lzk v = 2560) ∨ (k = 10 ∧ v = c + 7 ∧ lzk v = 286))) : UqR (r2 ρ c k (some v)) := by
  intro c' k' v' e
  unfold r2 at e
  by_cases z : c' = c
  · rw [if_pos z] at e
    unfold va_up at e
    by_cases y : k' = k
    · rw [if_pos y] at e
      cases e
      rw [z, y]; exact h
    · rw [if_neg y] at e
      rw [z]; exact u c k' v' e
  · rw [if_neg z] at e
    exact u c' k' v' e
theorem UqR.al {ρ : Nat → Nat → Option Nat} {N n : Nat} (u : UqR ρ) (h : ∀ i, i < n → N + 1 + i < 210 ∧ lzk (N + 1 + i) = 0) : UqR (a2 ρ N n) := by
  intro c' k' v' e
  unfold a2 at e
  by_cases z : c' = N
  · rw [if_pos z] at e
    by_cases y : k' < n
    · rw [if_pos y] at e
      cases e
      exact ⟨(h k' y).1, fun q => absurd (h k' y).2 q⟩
    · rw [if_neg y] at e; cases e
  · rw [if_neg z] at e
    exact u c' k' v' e
theorem SI.uq {M : Mem} {N : Nat} {ρ : Nat → Nat → Option Nat} {E : Nat → Nat → Int32} (_ : SI M N ρ E) (u : UqR ρ) : UqR ρ := u
/-- what the class needs of its cells lasts; its empty arrays are lazy ones -/
def LastZ (M M2 : Mem) : Prop := (∀ c k v, c < 199 → gR M c k = v → gR M2 c k = v) ∧ (∀ c k, lzk c = 0 → isK M c k → isK M2 c k) ∧ (∀ c k n, lzk c = 0 → arr M c k n → arr M2 c k n) ∧ (∀ c, lzk c ≠ 0 → arr M2 c 12 (lzk c)) ∧ nC M2 ≤ 1000 ∧ Uq M2
