section ST3
theorem SI.rs {M : Mem} {N : Nat} {ρ : Nat → Nat → Option Nat} {E : Nat → Nat → Int32} {c n v : Nat} (h : SI M N ρ E) (hc : c < N) (hv : ∀ t, t < n → ρ c t = some (v + t)) : ∀ t, t < n → gR M c t = some (v + t) := fun t ht => h.r hc (hv t ht)
set_option maxRecDepth 100000 in
set_option maxHeartbeats 4000000 in
theorem s_HT {M : Mem} {post : Mem → Prop} (s : SI M 1 (fun _ _ => none) (fun _ _ => 0)) (hp : ∀ M' ρ' En, (∀ c, 8 ≤ c → En c = fun _ => 0) → PrSt 3 0 En → NuSt 7 En → SI M' 199 ρ' (u2 (u2 (u2 (u2 (u2 En 141 11 (-1)) 149 11 (-1)) 157 11 (-1)) 166 11 (-1)) 183 11 (-1)) → UqR ρ' → (∀ M2, LastZ M' M2 → HTOK M2 false) → post M') : T_HT_new 0 M post := by
  have k0 : (KT 0).1 = 6 := by decide +kernel
  unfold T_HT_new
  rw [s.1]
  intro M1 e1
  replace s := s.m1 (k := 4) (n := 0) (by decide +kernel); rw [← e1] at s
  replace s : SI M1 2 _ _ := s
  refine s_Pr s (fun Mp Ep s hPr => ?_)
  replace s : SI Mp 6 _ _ := s
  refine ⟨s.k (by omega) k0, fun M2 e2 => ?_⟩
  replace s := s.sR (c := 0) (k := 0) (v := some 1) (by omega); rw [← e2] at s
  rw [s.1]
  intro M3 e3
  replace s := s.m1 (k := 2) (n := 0) (by decide +kernel); rw [← e3] at s
  replace s : SI M3 7 _ _ := s
  refine s_Nu s hPr (fun Mn En s hPr hNu => ?_)
  replace s : SI Mn 8 _ _ := s
  have hz : ∀ c, 8 ≤ c → En c = fun _ => 0 := fun c hc => (s.2.2 c hc).2
  refine ⟨s.k (by omega) k0, fun M4 e4 => ?_⟩
  replace s := s.sR (c := 0) (k := 1) (v := some 6) (by omega); rw [← e4] at s
  rw [s.1]
  intro M5 e5
  replace s := s.m1 (k := 5) (n := 0) (by decide +kernel); rw [← e5] at s
  replace s : SI M5 9 _ _ := s
  refine ⟨s.k (by omega) k0, 1, s.r (by omega) (by decide +kernel), ?_⟩
  refine ⟨s.k (by omega) k0, 6, s.r (by omega) (by decide +kernel), ?_⟩
  refine s_Ro s (fun Mr s => ?_)
  refine ⟨s.k (by omega) k0, fun M6 e6 => ?_⟩
  replace s := s.sR (c := 0) (k := 2) (v := some 8) (by omega); rw [← e6] at s
  rw [s.1]
  intro M7 e7
  replace s := s.m1 (k := 8) (n := 66) (by decide +kernel); rw [← e7] at s
  replace s : SI M7 79 _ _ := s
  refine ⟨s.k (by omega) k0, fun M8 e8 => ?_⟩
  replace s := s.sR (c := 0) (k := 3) (v := some 78) (by omega); rw [← e8] at s
  rw [s.1]
  intro M9 e9
  replace s := s.m2 (n := 45) (w := 36) (by decide +kernel) (by decide +kernel); rw [← e9] at s
  replace s : SI M9 125 _ _ := s
  refine ⟨s.k (by omega) k0, fun M10 e10 => ?_⟩
  replace s := s.sR (c := 0) (k := 4) (v := some 79) (by omega); rw [← e10] at s
  rw [s.1]
  intro M11 e11
  replace s := s.m1 (k := 3) (n := 0) (by decide +kernel); rw [← e11] at s
  replace s : SI M11 126 _ _ := s
  refine ⟨s.k (by omega) k0, 1, s.r (by omega) (by decide +kernel), ?_⟩
  refine s_Po (a := 125) s (by decide +kernel) (by decide +kernel) (fun M12 s => ?_)
  replace s : SI M12 127 _ _ := s
  refine ⟨s.k (by omega) k0, fun M13 e13 => ?_⟩
  replace s := s.sR (c := 0) (k := 5) (v := some 125) (by omega); rw [← e13] at s
  rw [s.1]
  intro M14 e14
  replace s := s.m1 (k := 10) (n := 6) (by decide +kernel); rw [← e14] at s
  replace s : SI M14 128 _ _ := s
  refine ⟨s.k (by omega) k0, fun M15 e15 => ?_⟩
  replace s := s.sR (c := 0) (k := 6) (v := some 127) (by omega); rw [← e15] at s
  refine ⟨s.k (by omega) k0, 127, s.r (by omega) (by decide +kernel), ?_⟩
  rw [s.1]
  intro M16 e16
  replace s := s.m1 (k := 3) (n := 0) (by decide +kernel); rw [← e16] at s
  replace s : SI M16 129 _ _ := s
  refine ⟨s.k (by omega) k0, 1, s.r (by omega) (by decide +kernel), ?_⟩
  refine s_Po (a := 128) s (by decide +kernel) (by decide +kernel) (fun M17 s => ?_)
  replace s : SI M17 130 _ _ := s
  refine ⟨arr_A (a := 0) (s.a (by omega) (show KT 127 = (10, 6) by decide +kernel)) (by omega) (by omega), s.k (by omega) (by decide +kernel), fun M18 e18 => ?_⟩
  rw [show Int32.toNatClampNeg 0 = 0 by decide] at e18
  replace s := s.sR (c := 127) (k := 0) (v := some 128) (by omega); rw [← e18] at s
  refine ⟨s.k (by omega) k0, 127, s.r (by omega) (by decide +kernel), ?_⟩
  rw [s.1]
  intro M19 e19
  replace s := s.m1 (k := 3) (n := 0) (by decide +kernel); rw [← e19] at s
  replace s : SI M19 131 _ _ := s
  refine ⟨s.k (by omega) k0, 1, s.r (by omega) (by decide +kernel), ?_⟩
  refine s_Po (a := 130) s (by decide +kernel) (by decide +kernel) (fun M20 s => ?_)
  replace s : SI M20 132 _ _ := s
  refine ⟨arr_A (a := 1) (s.a (by omega) (show KT 127 = (10, 6) by decide +kernel)) (by omega) (by omega), s.k (by omega) (by decide +kernel), fun M21 e21 => ?_⟩
  rw [show Int32.toNatClampNeg 1 = 1 by decide] at e21
  replace s := s.sR (c := 127) (k := 1) (v := some 130) (by omega); rw [← e21] at s
  refine ⟨s.k (by omega) k0, 127, s.r (by omega) (by decide +kernel), ?_⟩
  rw [s.1]
  intro M22 e22
  replace s := s.m1 (k := 3) (n := 0) (by decide +kernel); rw [← e22] at s
  replace s : SI M22 133 _ _ := s
  refine ⟨s.k (by omega) k0, 1, s.r (by omega) (by decide +kernel), ?_⟩
  refine s_Po (a := 132) s (by decide +kernel) (by decide +kernel) (fun M23 s => ?_)
  replace s : SI M23 134 _ _ := s
  refine ⟨arr_A (a := 2) (s.a (by omega) (show KT 127 = (10, 6) by decide +kernel)) (by omega) (by omega), s.k (by omega) (by decide +kernel), fun M24 e24 => ?_⟩
  rw [show Int32.toNatClampNeg 2 = 2 by decide] at e24
  replace s := s.sR (c := 127) (k := 2) (v := some 132) (by omega); rw [← e24] at s
  refine ⟨s.k (by omega) k0, 127, s.r (by omega) (by decide +kernel), ?_⟩
  rw [s.1]
  intro M25 e25
  replace s := s.m1 (k := 3) (n := 0) (by decide +kernel); rw [← e25] at s
  replace s : SI M25 135 _ _ := s
  refine ⟨s.k (by omega) k0, 1, s.r (by omega) (by decide +kernel), ?_⟩
  refine s_Po (a := 134) s (by decide +kernel) (by decide +kernel) (fun M26 s => ?_)
  replace s : SI M26 136 _ _ := s
  refine ⟨arr_A (a := 3) (s.a (by omega) (show KT 127 = (10, 6) by decide +kernel)) (by omega) (by omega), s.k (by omega) (by decide +kernel), fun M27 e27 => ?_⟩
  rw [show Int32.toNatClampNeg 3 = 3 by decide] at e27
  replace s := s.sR (c := 127) (k := 3) (v := some 134) (by omega); rw [← e27] at s
  refine ⟨s.k (by omega) k0, 127, s.r (by omega) (by decide +kernel), ?_⟩
  rw [s.1]
  intro M28 e28
  replace s := s.m1 (k := 3) (n := 0) (by decide +kernel); rw [← e28] at s
  replace s : SI M28 137 _ _ := s
  refine ⟨s.k (by omega) k0, 1, s.r (by omega) (by decide +kernel), ?_⟩
  refine s_Po (a := 136) s (by decide +kernel) (by decide +kernel) (fun M29 s => ?_)
  replace s : SI M29 138 _ _ := s
  refine ⟨arr_A (a := 4) (s.a (by omega) (show KT 127 = (10, 6) by decide +kernel)) (by omega) (by omega), s.k (by omega) (by decide +kernel), fun M30 e30 => ?_⟩
  rw [show Int32.toNatClampNeg 4 = 4 by decide] at e30
  replace s := s.sR (c := 127) (k := 4) (v := some 136) (by omega); rw [← e30] at s
  refine ⟨s.k (by omega) k0, 127, s.r (by omega) (by decide +kernel), ?_⟩
  rw [s.1]
  intro M31 e31
  replace s := s.m1 (k := 3) (n := 0) (by decide +kernel); rw [← e31] at s
  replace s : SI M31 139 _ _ := s
  refine ⟨s.k (by omega) k0, 1, s.r (by omega) (by decide +kernel), ?_⟩
  refine s_Po (a := 138) s (by decide +kernel) (by decide +kernel) (fun M32 s => ?_)
  replace s : SI M32 140 _ _ := s
  refine ⟨arr_A (a := 5) (s.a (by omega) (show KT 127 = (10, 6) by decide +kernel)) (by omega) (by omega), s.k (by omega) (by decide +kernel), fun M33 e33 => ?_⟩
  rw [show Int32.toNatClampNeg 5 = 5 by decide] at e33
  replace s := s.sR (c := 127) (k := 5) (v := some 138) (by omega); rw [← e33] at s
  rw [s.1]
  intro M34 e34
  replace s := s.m1 (k := 8) (n := 66) (by decide +kernel); rw [← e34] at s
  replace s : SI M34 141 _ _ := s
  rw [s.1]
  intro M35 e35
  replace s := s.m1 (k := 0) (n := 0) (by decide +kernel); rw [← e35] at s
  replace s : SI M35 142 _ _ := s
  refine ⟨s.k (by omega) k0, 1, s.r (by omega) (by decide +kernel), ?_⟩
  refine ⟨s.k (by omega) k0, 6, s.r (by omega) (by decide +kernel), ?_⟩
  refine ⟨s.k (by omega) k0, 8, s.r (by omega) (by decide +kernel), ?_⟩
  refine s_Ba (b := 141) s (by decide +kernel) (by decide +kernel) (by decide +kernel) (by decide +kernel) (by decide +kernel) (by decide +kernel) (by decide +kernel) (by decide +kernel) (fun M36 s => ?_)
  replace s : SI M36 149 _ _ := s
  refine ⟨s.k (by omega) k0, fun M37 e37 => ?_⟩
  replace s := s.sR (c := 0) (k := 7) (v := some 141) (by omega); rw [← e37] at s
  rw [s.1]
  intro M38 e38
  replace s := s.m1 (k := 0) (n := 0) (by decide +kernel); rw [← e38] at s
  replace s : SI M38 150 _ _ := s
  refine ⟨s.k (by omega) k0, 1, s.r (by omega) (by decide +kernel), ?_⟩
  refine ⟨s.k (by omega) k0, 6, s.r (by omega) (by decide +kernel), ?_⟩
  refine ⟨s.k (by omega) k0, 8, s.r (by omega) (by decide +kernel), ?_⟩
  refine s_Ba (b := 149) s (by decide +kernel) (by decide +kernel) (by decide +kernel) (by decide +kernel) (by decide +kernel) (by decide +kernel) (by decide +kernel) (by decide +kernel) (fun M39 s => ?_)
  replace s : SI M39 157 _ _ := s
  refine ⟨s.k (by omega) k0, fun M40 e40 => ?_⟩
  replace s := s.sR (c := 0) (k := 8) (v := some 149) (by omega); rw [← e40] at s
  rw [s.1]
  intro M41 e41
  replace s := s.m1 (k := 0) (n := 0) (by decide +kernel); rw [← e41] at s
  replace s : SI M41 158 _ _ := s
  refine ⟨s.k (by omega) k0, 1, s.r (by omega) (by decide +kernel), ?_⟩
  refine ⟨s.k (by omega) k0, 6, s.r (by omega) (by decide +kernel), ?_⟩
  refine ⟨s.k (by omega) k0, 8, s.r (by omega) (by decide +kernel), ?_⟩
  refine s_Ba (b := 157) s (by decide +kernel) (by decide +kernel) (by decide +kernel) (by decide +kernel) (by decide +kernel) (by decide +kernel) (by decide +kernel) (by decide +kernel) (fun M42 s => ?_)
  replace s : SI M42 165 _ _ := s
  refine ⟨s.k (by omega) k0, fun M43 e43 => ?_⟩
  replace s := s.sR (c := 0) (k := 9) (v := some 157) (by omega); rw [← e43] at s
  rw [s.1]
  intro M44 e44
  replace s := s.m1 (k := 1) (n := 0) (by decide +kernel); rw [← e44] at s
  replace s : SI M44 166 _ _ := s
  rw [s.1]
  intro M45 e45
  replace s := s.m1 (k := 0) (n := 0) (by decide +kernel); rw [← e45] at s
  replace s : SI M45 167 _ _ := s
  refine ⟨s.k (by omega) k0, 1, s.r (by omega) (by decide +kernel), ?_⟩
  refine ⟨s.k (by omega) k0, 6, s.r (by omega) (by decide +kernel), ?_⟩
  refine ⟨s.k (by omega) k0, 8, s.r (by omega) (by decide +kernel), ?_⟩
  refine s_Ba (b := 166) s (by decide +kernel) (by decide +kernel) (by decide +kernel) (by decide +kernel) (by decide +kernel) (by decide +kernel) (by decide +kernel) (by decide +kernel) (fun M46 s => ?_)
  replace s : SI M46 174 _ _ := s
  refine s_He (h := 165) s (by omega) (by decide +kernel) (by decide +kernel) (by decide +kernel) (by decide +kernel) (fun M47 s => ?_)
  replace s : SI M47 182 _ _ := s
  refine ⟨s.k (by omega) k0, fun M48 e48 => ?_⟩
  replace s := s.sR (c := 0) (k := 10) (v := some 165) (by omega); rw [← e48] at s
  rw [s.1]
  intro M49 e49
  replace s := s.m1 (k := 1) (n := 0) (by decide +kernel); rw [← e49] at s
  replace s : SI M49 183 _ _ := s
  rw [s.1]
  intro M50 e50
  replace s := s.m1 (k := 0) (n := 0) (by decide +kernel); rw [← e50] at s
  replace s : SI M50 184 _ _ := s
  refine ⟨s.k (by omega) k0, 1, s.r (by omega) (by decide +kernel), ?_⟩
  refine ⟨s.k (by omega) k0, 6, s.r (by omega) (by decide +kernel), ?_⟩
  refine ⟨s.k (by omega) k0, 8, s.r (by omega) (by decide +kernel), ?_⟩
  refine s_Ba (b := 183) s (by decide +kernel) (by decide +kernel) (by decide +kernel) (by decide +kernel) (by decide +kernel) (by decide +kernel) (by decide +kernel) (by decide +kernel) (fun M51 s => ?_)
  replace s : SI M51 191 _ _ := s
  refine s_He (h := 182) s (by omega) (by decide +kernel) (by decide +kernel) (by decide +kernel) (by decide +kernel) (fun M52 s => ?_)
  replace s : SI M52 199 _ _ := s
  refine ⟨s.k (by omega) k0, fun M53 e53 => ?_⟩
  replace s := s.sR (c := 0) (k := 11) (v := some 182) (by omega); rw [← e53] at s
  refine hp _ _ En hz hPr hNu s (s.uq (by repeat (first | exact UqR.nil | refine UqR.up ?_ (by decide +kernel) | refine UqR.al ?_ (by decide +kernel)))) (fun M2 L2 => ?_)
  have q66 : ∀ t, t < 66 → KT (10 + t) = (8, 66) ∧ lzk (10 + t) = 0 := by decide +kernel
  have q45 : ∀ t, t < 45 → KT (80 + t) = (8, 36) ∧ lzk (80 + t) = 0 := by decide +kernel
  have qa : ∀ t, t < 6 → KT (165 + 11 + t) = (8, 21) ∧ lzk (165 + 11 + t) = 0 := by decide +kernel
  have qb : ∀ t, t < 6 → KT (182 + 11 + t) = (8, 21) ∧ lzk (182 + 11 + t) = 0 := by decide +kernel
  have g9 := s.rs (c := 9) (n := 66) (v := 10) (by omega) (by decide +kernel)
  have g79 := s.rs (c := 79) (n := 45) (v := 80) (by omega) (by decide +kernel)
  have ga := s.rs (c := 175) (n := 6) (v := 176) (by omega) (by decide +kernel)
  have gb := s.rs (c := 192) (n := 6) (v := 193) (by omega) (by decide +kernel)
  have hB1 : BaOK M2 141 := ⟨⟨by omega, L2.2.2.2.2⟩, ⟨L2.2.1 _ _ (by decide +kernel) (s.k (c := 141) (by omega) (by decide +kernel)), L2.1 _ _ _ (by omega) (s.r (c := 141) (by omega) (by decide +kernel)), L2.1 _ _ _ (by omega) (s.r (c := 141) (by omega) (by decide +kernel)), L2.1 _ _ _ (by omega) (s.r (c := 141) (by omega) (by decide +kernel)), L2.1 _ _ _ (by omega) (s.r (c := 141) (by omega) (by decide +kernel)), L2.1 _ _ _ (by omega) (s.r (c := 141) (by omega) (by decide +kernel)), L2.1 _ _ _ (by omega) (s.r (c := 141) (by omega) (by decide +kernel)), L2.1 _ _ _ (by omega) (s.r (c := 141) (by omega) (by decide +kernel)), L2.1 _ _ _ (by omega) (s.r (c := 141) (by omega) (by decide +kernel)), L2.1 _ _ _ (by omega) (s.r (c := 141) (by omega) (by decide +kernel)), L2.1 _ _ _ (by omega) (s.r (c := 141) (by omega) (by decide +kernel)), L2.1 _ _ _ (by omega) (s.r (c := 141) (by omega) (by decide +kernel)), L2.1 _ _ _ (by omega) (s.r (c := 141) (by omega) (by decide +kernel))⟩, ⟨(show arr _ 147 12 2560 from L2.2.2.2.1 147 (by decide +kernel)), (show arr _ 147 12 2560 from L2.2.2.2.1 147 (by decide +kernel)), L2.2.2.1 _ _ _ (by decide +kernel) (s.a (c := 142) (by omega) (by decide +kernel)), L2.2.2.1 _ _ _ (by decide +kernel) (s.a (c := 143) (by omega) (by decide +kernel)), (show arr _ 148 12 286 from L2.2.2.2.1 148 (by decide +kernel)), L2.2.2.1 _ _ _ (by decide +kernel) (s.a (c := 144) (by omega) (by decide +kernel)), L2.2.2.1 _ _ _ (by decide +kernel) (s.a (c := 145) (by omega) (by decide +kernel)), L2.2.2.1 _ _ _ (by decide +kernel) (s.a (c := 146) (by omega) (by decide +kernel))⟩, L2.2.2.1 _ _ _ (by decide +kernel) (s.a (c := 140) (by omega) (by decide +kernel))⟩
  have hB2 : BaOK M2 149 := ⟨⟨by omega, L2.2.2.2.2⟩, ⟨L2.2.1 _ _ (by decide +kernel) (s.k (c := 149) (by omega) (by decide +kernel)), L2.1 _ _ _ (by omega) (s.r (c := 149) (by omega) (by decide +kernel)), L2.1 _ _ _ (by omega) (s.r (c := 149) (by omega) (by decide +kernel)), L2.1 _ _ _ (by omega) (s.r (c := 149) (by omega) (by decide +kernel)), L2.1 _ _ _ (by omega) (s.r (c := 149) (by omega) (by decide +kernel)), L2.1 _ _ _ (by omega) (s.r (c := 149) (by omega) (by decide +kernel)), L2.1 _ _ _ (by omega) (s.r (c := 149) (by omega) (by decide +kernel)), L2.1 _ _ _ (by omega) (s.r (c := 149) (by omega) (by decide +kernel)), L2.1 _ _ _ (by omega) (s.r (c := 149) (by omega) (by decide +kernel)), L2.1 _ _ _ (by omega) (s.r (c := 149) (by omega) (by decide +kernel)), L2.1 _ _ _ (by omega) (s.r (c := 149) (by omega) (by decide +kernel)), L2.1 _ _ _ (by omega) (s.r (c := 149) (by omega) (by decide +kernel)), L2.1 _ _ _ (by omega) (s.r (c := 149) (by omega) (by decide +kernel))⟩, ⟨(show arr _ 155 12 2560 from L2.2.2.2.1 155 (by decide +kernel)), (show arr _ 155 12 2560 from L2.2.2.2.1 155 (by decide +kernel)), L2.2.2.1 _ _ _ (by decide +kernel) (s.a (c := 150) (by omega) (by decide +kernel)), L2.2.2.1 _ _ _ (by decide +kernel) (s.a (c := 151) (by omega) (by decide +kernel)), (show arr _ 156 12 286 from L2.2.2.2.1 156 (by decide +kernel)), L2.2.2.1 _ _ _ (by decide +kernel) (s.a (c := 152) (by omega) (by decide +kernel)), L2.2.2.1 _ _ _ (by decide +kernel) (s.a (c := 153) (by omega) (by decide +kernel)), L2.2.2.1 _ _ _ (by decide +kernel) (s.a (c := 154) (by omega) (by decide +kernel))⟩, L2.2.2.1 _ _ _ (by decide +kernel) (s.a (c := 140) (by omega) (by decide +kernel))⟩
  have hB3 : BaOK M2 157 := ⟨⟨by omega, L2.2.2.2.2⟩, ⟨L2.2.1 _ _ (by decide +kernel) (s.k (c := 157) (by omega) (by decide +kernel)), L2.1 _ _ _ (by omega) (s.r (c := 157) (by omega) (by decide +kernel)), L2.1 _ _ _ (by omega) (s.r (c := 157) (by omega) (by decide +kernel)), L2.1 _ _ _ (by omega) (s.r (c := 157) (by omega) (by decide +kernel)), L2.1 _ _ _ (by omega) (s.r (c := 157) (by omega) (by decide +kernel)), L2.1 _ _ _ (by omega) (s.r (c := 157) (by omega) (by decide +kernel)), L2.1 _ _ _ (by omega) (s.r (c := 157) (by omega) (by decide +kernel)), L2.1 _ _ _ (by omega) (s.r (c := 157) (by omega) (by decide +kernel)), L2.1 _ _ _ (by omega) (s.r (c := 157) (by omega) (by decide +kernel)), L2.1 _ _ _ (by omega) (s.r (c := 157) (by omega) (by decide +kernel)), L2.1 _ _ _ (by omega) (s.r (c := 157) (by omega) (by decide +kernel)), L2.1 _ _ _ (by omega) (s.r (c := 157) (by omega) (by decide +kernel)), L2.1 _ _ _ (by omega) (s.r (c := 157) (by omega) (by decide +kernel))⟩, ⟨(show arr _ 163 12 2560 from L2.2.2.2.1 163 (by decide +kernel)), (show arr _ 163 12 2560 from L2.2.2.2.1 163 (by decide +kernel)), L2.2.2.1 _ _ _ (by decide +kernel) (s.a (c := 158) (by omega) (by decide +kernel)), L2.2.2.1 _ _ _ (by decide +kernel) (s.a (c := 159) (by omega) (by decide +kernel)), (show arr _ 164 12 286 from L2.2.2.2.1 164 (by decide +kernel)), L2.2.2.1 _ _ _ (by decide +kernel) (s.a (c := 160) (by omega) (by decide +kernel)), L2.2.2.1 _ _ _ (by decide +kernel) (s.a (c := 161) (by omega) (by decide +kernel)), L2.2.2.1 _ _ _ (by decide +kernel) (s.a (c := 162) (by omega) (by decide +kernel))⟩, L2.2.2.1 _ _ _ (by decide +kernel) (s.a (c := 140) (by omega) (by decide +kernel))⟩
  have hB4 : BaOK M2 166 := ⟨⟨by omega, L2.2.2.2.2⟩, ⟨L2.2.1 _ _ (by decide +kernel) (s.k (c := 166) (by omega) (by decide +kernel)), L2.1 _ _ _ (by omega) (s.r (c := 166) (by omega) (by decide +kernel)), L2.1 _ _ _ (by omega) (s.r (c := 166) (by omega) (by decide +kernel)), L2.1 _ _ _ (by omega) (s.r (c := 166) (by omega) (by decide +kernel)), L2.1 _ _ _ (by omega) (s.r (c := 166) (by omega) (by decide +kernel)), L2.1 _ _ _ (by omega) (s.r (c := 166) (by omega) (by decide +kernel)), L2.1 _ _ _ (by omega) (s.r (c := 166) (by omega) (by decide +kernel)), L2.1 _ _ _ (by omega) (s.r (c := 166) (by omega) (by decide +kernel)), L2.1 _ _ _ (by omega) (s.r (c := 166) (by omega) (by decide +kernel)), L2.1 _ _ _ (by omega) (s.r (c := 166) (by omega) (by decide +kernel)), L2.1 _ _ _ (by omega) (s.r (c := 166) (by omega) (by decide +kernel)), L2.1 _ _ _ (by omega) (s.r (c := 166) (by omega) (by decide +kernel)), L2.1 _ _ _ (by omega) (s.r (c := 166) (by omega) (by decide +kernel))⟩, ⟨(show arr _ 172 12 2560 from L2.2.2.2.1 172 (by decide +kernel)), (show arr _ 172 12 2560 from L2.2.2.2.1 172 (by decide +kernel)), L2.2.2.1 _ _ _ (by decide +kernel) (s.a (c := 167) (by omega) (by decide +kernel)), L2.2.2.1 _ _ _ (by decide +kernel) (s.a (c := 168) (by omega) (by decide +kernel)), (show arr _ 173 12 286 from L2.2.2.2.1 173 (by decide +kernel)), L2.2.2.1 _ _ _ (by decide +kernel) (s.a (c := 169) (by omega) (by decide +kernel)), L2.2.2.1 _ _ _ (by decide +kernel) (s.a (c := 170) (by omega) (by decide +kernel)), L2.2.2.1 _ _ _ (by decide +kernel) (s.a (c := 171) (by omega) (by decide +kernel))⟩, L2.2.2.1 _ _ _ (by decide +kernel) (s.a (c := 140) (by omega) (by decide +kernel))⟩
  have hB5 : BaOK M2 183 := ⟨⟨by omega, L2.2.2.2.2⟩, ⟨L2.2.1 _ _ (by decide +kernel) (s.k (c := 183) (by omega) (by decide +kernel)), L2.1 _ _ _ (by omega) (s.r (c := 183) (by omega) (by decide +kernel)), L2.1 _ _ _ (by omega) (s.r (c := 183) (by omega) (by decide +kernel)), L2.1 _ _ _ (by omega) (s.r (c := 183) (by omega) (by decide +kernel)), L2.1 _ _ _ (by omega) (s.r (c := 183) (by omega) (by decide +kernel)), L2.1 _ _ _ (by omega) (s.r (c := 183) (by omega) (by decide +kernel)), L2.1 _ _ _ (by omega) (s.r (c := 183) (by omega) (by decide +kernel)), L2.1 _ _ _ (by omega) (s.r (c := 183) (by omega) (by decide +kernel)), L2.1 _ _ _ (by omega) (s.r (c := 183) (by omega) (by decide +kernel)), L2.1 _ _ _ (by omega) (s.r (c := 183) (by omega) (by decide +kernel)), L2.1 _ _ _ (by omega) (s.r (c := 183) (by omega) (by decide +kernel)), L2.1 _ _ _ (by omega) (s.r (c := 183) (by omega) (by decide +kernel)), L2.1 _ _ _ (by omega) (s.r (c := 183) (by omega) (by decide +kernel))⟩, ⟨(show arr _ 189 12 2560 from L2.2.2.2.1 189 (by decide +kernel)), (show arr _ 189 12 2560 from L2.2.2.2.1 189 (by decide +kernel)), L2.2.2.1 _ _ _ (by decide +kernel) (s.a (c := 184) (by omega) (by decide +kernel)), L2.2.2.1 _ _ _ (by decide +kernel) (s.a (c := 185) (by omega) (by decide +kernel)), (show arr _ 190 12 286 from L2.2.2.2.1 190 (by decide +kernel)), L2.2.2.1 _ _ _ (by decide +kernel) (s.a (c := 186) (by omega) (by decide +kernel)), L2.2.2.1 _ _ _ (by decide +kernel) (s.a (c := 187) (by omega) (by decide +kernel)), L2.2.2.1 _ _ _ (by decide +kernel) (s.a (c := 188) (by omega) (by decide +kernel))⟩, L2.2.2.1 _ _ _ (by decide +kernel) (s.a (c := 140) (by omega) (by decide +kernel))⟩
  have hH1 : HeOK M2 165 := ⟨⟨by omega, L2.2.1 _ _ (by decide +kernel) (s.k (c := 165) (by omega) (by decide +kernel)), L2.1 _ _ _ (by omega) (s.r (c := 165) (by omega) (by decide +kernel)), L2.1 _ _ _ (by omega) (s.r (c := 165) (by omega) (by decide +kernel)), L2.1 _ _ _ (by omega) (s.r (c := 165) (by omega) (by decide +kernel)), L2.1 _ _ _ (by omega) (s.r (c := 165) (by omega) (by decide +kernel))⟩, L2.2.2.1 _ _ _ (by decide +kernel) (s.a (c := 174) (by omega) (by decide +kernel)), L2.2.2.1 _ _ _ (by decide +kernel) (s.a (c := 175) (by omega) (by decide +kernel)), fun t ht => ⟨L2.1 _ _ _ (by omega) (ga t ht), L2.2.2.1 _ _ _ (qa t ht).2 (s.a (by omega) (qa t ht).1)⟩, hB4⟩
  have hH2 : HeOK M2 182 := ⟨⟨by omega, L2.2.1 _ _ (by decide +kernel) (s.k (c := 182) (by omega) (by decide +kernel)), L2.1 _ _ _ (by omega) (s.r (c := 182) (by omega) (by decide +kernel)), L2.1 _ _ _ (by omega) (s.r (c := 182) (by omega) (by decide +kernel)), L2.1 _ _ _ (by omega) (s.r (c := 182) (by omega) (by decide +kernel)), L2.1 _ _ _ (by omega) (s.r (c := 182) (by omega) (by decide +kernel))⟩, L2.2.2.1 _ _ _ (by decide +kernel) (s.a (c := 191) (by omega) (by decide +kernel)), L2.2.2.1 _ _ _ (by decide +kernel) (s.a (c := 192) (by omega) (by decide +kernel)), fun t ht => ⟨L2.1 _ _ _ (by omega) (gb t ht), L2.2.2.1 _ _ _ (qb t ht).2 (s.a (by omega) (qb t ht).1)⟩, hB5⟩
  have hPP : PrOK M2 := ⟨⟨L2.2.1 _ _ (by decide +kernel) (s.k (c := 1) (by omega) (by decide +kernel)), L2.1 _ _ _ (by omega) (s.r (c := 1) (by omega) (by decide +kernel)), L2.1 _ _ _ (by omega) (s.r (c := 1) (by omega) (by decide +kernel)), L2.1 _ _ _ (by omega) (s.r (c := 1) (by omega) (by decide +kernel)), L2.1 _ _ _ (by omega) (s.r (c := 1) (by omega) (by decide +kernel))⟩, L2.2.2.1 _ _ _ (by decide +kernel) (s.a (c := 2) (by omega) (by decide +kernel)), L2.2.2.1 _ _ _ (by decide +kernel) (s.a (c := 3) (by omega) (by decide +kernel)), L2.2.2.1 _ _ _ (by decide +kernel) (s.a (c := 4) (by omega) (by decide +kernel)), L2.2.2.1 _ _ _ (by decide +kernel) (s.a (c := 5) (by omega) (by decide +kernel))⟩
  have hNN : NuOK M2 := ⟨L2.2.1 _ _ (by decide +kernel) (s.k (c := 6) (by omega) (by decide +kernel)), L2.1 _ _ _ (by omega) (s.r (c := 6) (by omega) (by decide +kernel)), L2.2.2.1 _ _ _ (by decide +kernel) (s.a (c := 7) (by omega) (by decide +kernel))⟩
  have hRR : RoOK M2 := ⟨⟨L2.2.1 _ _ (by decide +kernel) (s.k (c := 8) (by omega) (by decide +kernel)), L2.1 _ _ _ (by omega) (s.r (c := 8) (by omega) (by decide +kernel)), L2.1 _ _ _ (by omega) (s.r (c := 8) (by omega) (by decide +kernel)), L2.1 _ _ _ (by omega) (s.r (c := 8) (by omega) (by decide +kernel)), L2.1 _ _ _ (by omega) (s.r (c := 8) (by omega) (by decide +kernel)), L2.1 _ _ _ (by omega) (s.r (c := 8) (by omega) (by decide +kernel))⟩, L2.2.2.1 _ _ _ (by decide +kernel) (s.a (c := 9) (by omega) (by decide +kernel)), fun t ht => ⟨L2.1 _ _ _ (by omega) (g9 t ht), L2.2.2.1 _ _ _ (q66 t ht).2 (s.a (by omega) (q66 t ht).1)⟩, L2.2.2.1 _ _ _ (by decide +kernel) (s.a (c := 76) (by omega) (by decide +kernel)), L2.2.2.1 _ _ _ (by decide +kernel) (s.a (c := 77) (by omega) (by decide +kernel))⟩
  refine ⟨⟨L2.2.1 _ _ (by decide +kernel) (s.k (c := 0) (by omega) (by decide +kernel)), L2.1 _ _ _ (by omega) (s.r (c := 0) (by omega) (by decide +kernel)), L2.1 _ _ _ (by omega) (s.r (c := 0) (by omega) (by decide +kernel)), L2.1 _ _ _ (by omega) (s.r (c := 0) (by omega) (by decide +kernel)), L2.1 _ _ _ (by omega) (s.r (c := 0) (by omega) (by decide +kernel)), L2.1 _ _ _ (by omega) (s.r (c := 0) (by omega) (by decide +kernel)), L2.1 _ _ _ (by omega) (s.r (c := 0) (by omega) (by decide +kernel)), L2.1 _ _ _ (by omega) (s.r (c := 0) (by omega) (by decide +kernel)), L2.1 _ _ _ (by omega) (s.r (c := 0) (by omega) (by decide +kernel)), L2.1 _ _ _ (by omega) (s.r (c := 0) (by omega) (by decide +kernel)), L2.1 _ _ _ (by omega) (s.r (c := 0) (by omega) (by decide +kernel)), L2.1 _ _ _ (by omega) (s.r (c := 0) (by omega) (by decide +kernel)), L2.1 _ _ _ (by omega) (s.r (c := 0) (by omega) (by decide +kernel))⟩, ⟨L2.2.2.1 _ _ _ (by decide +kernel) (s.a (c := 78) (by omega) (by decide +kernel)), L2.2.2.1 _ _ _ (by decide +kernel) (s.a (c := 79) (by omega) (by decide +kernel)), fun t ht => ⟨L2.1 _ _ _ (by omega) (g79 t ht), L2.2.2.1 _ _ _ (q45 t ht).2 (s.a (by omega) (q45 t ht).1)⟩⟩, ⟨⟨L2.2.1 _ _ (by decide +kernel) (s.k (c := 125) (by omega) (by decide +kernel)), L2.1 _ _ _ (by omega) (s.r (c := 125) (by omega) (by decide +kernel))⟩, L2.1 _ _ _ (by omega) (s.r (c := 125) (by omega) (by decide +kernel)), L2.2.2.1 _ _ _ (by decide +kernel) (s.a (c := 126) (by omega) (by decide +kernel))⟩, ⟨L2.2.2.1 _ _ _ (by decide +kernel) (s.a (c := 127) (by omega) (by decide +kernel)), fun t ht => ?_⟩, ⟨hB1, hB2, hB3⟩, ⟨hH1, hH2⟩, hPP, hNN, hRR⟩
  rcases (show t = 0 ∨ t = 1 ∨ t = 2 ∨ t = 3 ∨ t = 4 ∨ t = 5 by omega) with rfl | rfl | rfl | rfl | rfl | rfl
  · exact ⟨L2.1 _ _ _ (by omega) (s.r (c := 127) (by omega) (by decide +kernel)), ⟨⟨L2.2.1 _ _ (by decide +kernel) (s.k (c := 128) (by omega) (by decide +kernel)), L2.1 _ _ _ (by omega) (s.r (c := 128) (by omega) (by decide +kernel))⟩, L2.1 _ _ _ (by omega) (s.r (c := 128) (by omega) (by decide +kernel)), L2.2.2.1 _ _ _ (by decide +kernel) (s.a (c := 129) (by omega) (by decide +kernel))⟩⟩
  · exact ⟨L2.1 _ _ _ (by omega) (s.r (c := 127) (by omega) (by decide +kernel)), ⟨⟨L2.2.1 _ _ (by decide +kernel) (s.k (c := 130) (by omega) (by decide +kernel)), L2.1 _ _ _ (by omega) (s.r (c := 130) (by omega) (by decide +kernel))⟩, L2.1 _ _ _ (by omega) (s.r (c := 130) (by omega) (by decide +kernel)), L2.2.2.1 _ _ _ (by decide +kernel) (s.a (c := 131) (by omega) (by decide +kernel))⟩⟩
  · exact ⟨L2.1 _ _ _ (by omega) (s.r (c := 127) (by omega) (by decide +kernel)), ⟨⟨L2.2.1 _ _ (by decide +kernel) (s.k (c := 132) (by omega) (by decide +kernel)), L2.1 _ _ _ (by omega) (s.r (c := 132) (by omega) (by decide +kernel))⟩, L2.1 _ _ _ (by omega) (s.r (c := 132) (by omega) (by decide +kernel)), L2.2.2.1 _ _ _ (by decide +kernel) (s.a (c := 133) (by omega) (by decide +kernel))⟩⟩
  · exact ⟨L2.1 _ _ _ (by omega) (s.r (c := 127) (by omega) (by decide +kernel)), ⟨⟨L2.2.1 _ _ (by decide +kernel) (s.k (c := 134) (by omega) (by decide +kernel)), L2.1 _ _ _ (by omega) (s.r (c := 134) (by omega) (by decide +kernel))⟩, L2.1 _ _ _ (by omega) (s.r (c := 134) (by omega) (by decide +kernel)), L2.2.2.1 _ _ _ (by decide +kernel) (s.a (c := 135) (by omega) (by decide +kernel))⟩⟩
  · exact ⟨L2.1 _ _ _ (by omega) (s.r (c := 127) (by omega) (by decide +kernel)), ⟨⟨L2.2.1 _ _ (by decide +kernel) (s.k (c := 136) (by omega) (by decide +kernel)), L2.1 _ _ _ (by omega) (s.r (c := 136) (by omega) (by decide +kernel))⟩, L2.1 _ _ _ (by omega) (s.r (c := 136) (by omega) (by decide +kernel)), L2.2.2.1 _ _ _ (by decide +kernel) (s.a (c := 137) (by omega) (by decide +kernel))⟩⟩
  · exact ⟨L2.1 _ _ _ (by omega) (s.r (c := 127) (by omega) (by decide +kernel)), ⟨⟨L2.2.1 _ _ (by decide +kernel) (s.k (c := 138) (by omega) (by decide +kernel)), L2.1 _ _ _ (by omega) (s.r (c := 138) (by omega) (by decide +kernel))⟩, L2.1 _ _ _ (by omega) (s.r (c := 138) (by omega) (by decide +kernel)), L2.2.2.1 _ _ _ (by decide +kernel) (s.a (c := 139) (by omega) (by decide +kernel))⟩⟩
end ST3
