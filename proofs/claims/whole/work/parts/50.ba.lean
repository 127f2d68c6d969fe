/-! Base: elements in memory, moved, reduce -/
def BaOK (M : Mem) (b : Nat) : Prop := (141 ≤ b ∧ nC M ≤ 1000 ∧ Uq M) ∧ (isK M b 0 ∧ gR M b 0 = some 1 ∧ gR M b 1 = some 6 ∧ gR M b 2 = some 8 ∧ gR M b 3 = some 140 ∧ gR M b 9 = some (b + 6) ∧ gR M b 9 = some (b + 6) ∧ gR M b 4 = some (b + 1) ∧ gR M b 5 = some (b + 2) ∧ gR M b 10 = some (b + 7) ∧ gR M b 6 = some (b + 3) ∧ gR M b 7 = some (b + 4) ∧ gR M b 8 = some (b + 5)) ∧
  (arr M (b + 6) 12 2560 ∧ arr M (b + 6) 12 2560 ∧ arr M (b + 1) 8 67 ∧ arr M (b + 2) 8 66 ∧ arr M (b + 7) 12 286 ∧ arr M (b + 3) 8 11 ∧ arr M (b + 4) 8 11 ∧ arr M (b + 5) 8 11) ∧ arr M 140 8 66
theorem isZ_T {M : Mem} {I : Nat → Nat → Int32} {c n a : Nat} (h : arr M c 12 n) (hn : n < 2147483648) (hf : I c 2147483648 = 1) (ha : a < n) : isZ (wI M I) c (nI a) = True := eq_true ⟨h.1, hf, by
  show vp_in (nI a) (ln M c)
  rw [h.2]; exact (in_nI (by omega) hn).mpr ha⟩
theorem isZ_u2 {M : Mem} {I : Nat → Nat → Int32} {c k a : Nat} {v i : Int32} (hk : k < 2147483648) : isZ (wI M (u2 I c k v)) a i = isZ (wI M I) a i := by
  have e : u2 I c k v a 2147483648 = I a 2147483648 := u2_ne (fun z => by omega)
  unfold isZ
  rw [gI_wI, gI_wI, e]; rfl
theorem isZ_sA {M : Mem} {I : Nat → Nat → Int32} {c a : Nat} {f : Nat → Int32} {i : Int32} (h : a ≠ c) : isZ (wI M (sAll I c f)) a i = isZ (wI M I) a i := by
  unfold isZ
  rw [gI_wI, gI_wI, sAll_ne h]; rfl
theorem pk3 : ∀ v, v < 98 → ∀ q, q < 128 → (nI (128 * v + q) &&& nI 127 = nI q ∧ nI (128 * v + q) >>> (nI 7 &&& nI 31) = nI v) ∧ (nI v <<< (nI 7 &&& nI 31)) ||| nI q = nI (128 * v + q) := by decide +kernel
theorem pkA {v q : Nat} (hv : v < 98) (hq : q < 128) : nI (128 * v + q) &&& nI 127 = nI q := (pk3 v hv q hq).1.1
theorem pkS {v q : Nat} (hv : v < 98) (hq : q < 128) : nI (128 * v + q) >>> (nI 7 &&& nI 31) = nI v := (pk3 v hv q hq).1.2
theorem pkO {v q : Nat} (hv : v < 98) (hq : q < 128) : (nI v <<< (nI 7 &&& nI 31)) ||| nI q = nI (128 * v + q) := (pk3 v hv q hq).2
def Qf {p : Nat} [NeZero p] (v : Nat → Fin p) : Nat → Bool := fun j => decide (v j ≠ 0)
theorem Qf_iff {p : Nat} [NeZero p] {v : Nat → Fin p} {j : Nat} : Qf v j = true ↔ v j ≠ 0 := by simp [Qf]
theorem Qf_f {p : Nat} [NeZero p] {v : Nat → Fin p} {j : Nat} : Qf v j = false ↔ v j = 0 := by simp [Qf]
theorem ct_succ_t {Q : Nat → Bool} {j : Nat} (h : Q j = true) : ct Q (j + 1) = ct Q j + 1 := by show ct Q j + _ = _; rw [if_pos h]
theorem ct_succ_f {Q : Nat → Bool} {j : Nat} (h : Q j = false) : ct Q (j + 1) = ct Q j := by show ct Q j + _ = _; rw [if_neg (by rw [h]; decide)]; rfl
theorem ct_up {Q : Nat → Bool} {j N : Nat} (h : j ≤ N) : ct Q j ≤ ct Q N := by
  have := ct_split Q j (N - j)
  rw [show j + (N - j) = N by omega] at this
  omega
theorem ct_next {Q : Nat → Bool} : ∀ (r : Nat) {j N : Nat}, j + r = N → ct Q j < ct Q N → ∃ i, j ≤ i ∧ i < N ∧ Q i = true ∧ ct Q i = ct Q j ∧ ∀ k, j ≤ k → k < i → Q k = false
  | 0, j, N, h, hl => by
    have : j = N := by omega
    subst this; omega
  | r + 1, j, N, h, hl => by
    cases q : Q j
    · have e := ct_succ_f q
      obtain ⟨i, h1, h2, h3, h4, h5⟩ := ct_next (Q := Q) r (j := j + 1) (N := N) (by omega) (by omega)
      refine ⟨i, by omega, h2, h3, by omega, fun k hk hk2 => ?_⟩
      by_cases z : k = j
      · rw [z]; exact q
      · exact h5 k (by omega) hk2
    · exact ⟨j, Nat.le_refl j, by omega, q, rfl, fun k h1 h2 => by omega⟩
theorem ct_end {Q : Nat → Bool} {j N : Nat} (h : ct Q j = ct Q N) {k : Nat} (h1 : j ≤ k) (h2 : k < N) : Q k = false := by
  cases q : Q k
  · rfl
  · have a := ct_succ_t q
    have b := ct_up (Q := Q) h1
    have c := ct_up (Q := Q) (show k + 1 ≤ N by omega)
    omega
theorem ct_none {Q : Nat → Bool} : ∀ {n : Nat}, (∀ j, j < n → Q j = false) → ct Q n = 0
  | 0, _ => rfl
  | n + 1, h => by rw [ct_succ_f (h n (by omega))]; exact ct_none (fun j hj => h j (by omega))
/-- how many terms -/
def nzc {p : Nat} [NeZero p] (n ord d : Nat) (g : Mo2 → Fin p) : Nat := ct (Qf (vec n ord d g)) (nM n ord d)
def stt {p : Nat} [NeZero p] (n ord : Nat) (dg : Nat → Nat) (gl : Nat → Mo2 → Fin p) : Nat → Nat
  | 0 => 0
  | k + 1 => stt n ord dg gl k + nzc n ord (dg k) (gl k)
theorem stt_up {p : Nat} [NeZero p] {n ord : Nat} {dg : Nat → Nat} {gl : Nat → Mo2 → Fin p} {k : Nat} : ∀ {s : Nat}, k ≤ s → stt n ord dg gl k ≤ stt n ord dg gl s
  | 0, h => by rw [Nat.le_zero.mp h]; exact Nat.le_refl _
  | s + 1, h => by
    by_cases q : k = s + 1
    · rw [q]; exact Nat.le_refl _
    · have := stt_up (n := n) (ord := ord) (dg := dg) (gl := gl) (show k ≤ s by omega)
      show _ ≤ stt n ord dg gl s + _
      omega
/-- element k in memory -/
def ElK {p : Nat} [NeZero p] (n ord b : Nat) (dg : Nat → Nat) (gl : Nat → Mo2 → Fin p) (k : Nat) (I : Nat → Nat → Int32) : Prop := I (b + 2) k = nI (dg k) ∧ ∀ j, j < nM n ord (dg k) → vec n ord (dg k) (gl k) j ≠ 0 → I (b + 6) 2147483648 = 1 ∧ I (b + 6) (stt n ord dg gl k + ct (Qf (vec n ord (dg k) (gl k))) j) = nI (128 * (vec n ord (dg k) (gl k) j).val + pl (atm n ord (dg k) j))
def ElM {p : Nat} [NeZero p] (n ord b : Nat) (s : Nat) (dg : Nat → Nat) (gl : Nat → Mo2 → Fin p) (I : Nat → Nat → Int32) : Prop := ((∀ k, k ≤ s → I (b + 1) k = nI (stt n ord dg gl k)) ∧ stt n ord dg gl s ≤ 2560 ∧ s ≤ 66) ∧ ∀ k, k < s → ElK n ord b dg gl k I
/-- what makes an element -/
def ElF {p : Nat} [NeZero p] (n ord : Nat) (dk : Nat) (h : Mo2) (g : Mo2 → Fin p) : Prop := dk ≤ 10 ∧ okm n dk h ∧ hom n dk g ∧ g h = 1 ∧ ∀ m, g m ≠ 0 → m = h ∨ bef ord h m
theorem ElF.lo {p : Nat} [NeZero p] {n ord dk : Nat} {h : Mo2} {g : Mo2 → Fin p} (hE : ElF n ord dk h g) {j : Nat} (hj : j < psm n ord dk h) : vec n ord dk g j = 0 := by
  have hN := psm_lt (ord := ord) hE.2.1
  unfold vec
  rw [if_pos (by omega)]
  by_cases q : g (atm n ord dk j) = 0
  · exact q
  · exfalso
    rcases hE.2.2.2.2 _ q with e | e
    · have := psm_atm (n := n) (ord := ord) (d := dk) (i := j) (by omega)
      rw [e] at this; omega
    · have h2 := atm_psm (ord := ord) hE.2.1
      rw [← h2] at e
      have := (atm_lt hN (show j < nM n ord dk by omega)).mp e
      omega
theorem ElF.at {p : Nat} [NeZero p] {n ord dk : Nat} {h : Mo2} {g : Mo2 → Fin p} (hE : ElF n ord dk h g) : vec n ord dk g (psm n ord dk h) = 1 := by
  unfold vec
  rw [if_pos (psm_lt hE.2.1), atm_psm hE.2.1]; exact hE.2.2.2.1
theorem ElF.ct0 {p : Nat} [NeZero p] {n ord dk : Nat} {h : Mo2} {g : Mo2 → Fin p} (hE : ElF n ord dk h g) : ct (Qf (vec n ord dk g)) (psm n ord dk h) = 0 := ct_none (fun j hj => Qf_f.mpr (hE.lo hj))
theorem plI2 {a b : Nat} (h : a + b ≤ 100) : nI ((a + b) * (a + b + 1)) / nI 2 + nI b = nI (pl (a, b)) := by
  have : (a + b) * (a + b + 1) ≤ 100 * 101 := Nat.mul_le_mul (by omega) (by omega)
  rw [pk_div (by omega) (by omega) (by omega), nI_add]; rfl
theorem ar_add2 {p : Nat} [NeZero p] (hp : p ≤ 97) {cc : Nat} (hcc : cc ≤ 97) {c : Fin p} (hc : c.val = cc % p) (v w : Fin p) : nI (v.val + cc * w.val) - nI (v.val + cc * w.val) / nI p * nI p = nI (v + c * w).val := by
  have h1 := v.isLt
  have h3 := w.isLt
  have h4 : cc * w.val ≤ 97 * 97 := Nat.mul_le_mul (by omega) (by omega)
  rw [pk_div (by omega) (by omega) (by omega), pk_mul, rem_n]
  congr 1
  rw [Fin.val_add, Fin.val_mul, hc]
  simp [Nat.add_mod, Nat.mul_mod]
theorem RepV_upd {p : Nat} [NeZero p] {d : Nat} (hd : d ≤ 10) {g : Nat → Int32} {f : Mo2 → Fin p} (h : RepV d g f) {m : Mo2} (hm : m.1 + m.2 ≤ d) (v : Fin p) : RepV d (upd g (pl m) (nI v.val)) (fun k => if k = m then v else f k) := by
  intro k hk
  by_cases q : k = m
  · subst q; simp only [if_true]; rw [upd_eq]
  · simp only [if_neg q]
    rw [upd_ne (fun e => q (pl_inj (by omega) (by omega) e))]; exact h k hk
theorem RepV_cong {p : Nat} [NeZero p] {d : Nat} {g : Nat → Int32} {f f' : Mo2 → Fin p} (h : RepV d g f) (e : ∀ m : Mo2, m.1 + m.2 ≤ d → f m = f' m) : RepV d g f' := fun m hm => by rw [h m hm, e m hm]
section BA
variable {M : Mem} {I : Nat → Nat → Int32} {n ord p d b : Nat}
theorem sp_addMoved [NeZero p] {a la s k : Nat} {dg : Nat → Nat} {gl : Nat → Mo2 → Fin p} {hk m : Mo2} {f : Mo2 → Fin p} {cc : Nat} {c : Fin p} {post : Mem → Prop} (hB : BaOK M b) (hP : PrOK M) (hNu : NuOK M) (hS : PrSt n ord I) (hNs : NuSt p I) (hp : p ≤ 97) (hd : d ≤ 10) (ha : arr M a 8 la) (hla : ∀ m : Mo2, m.1 + m.2 ≤ d → pl m < la) (hla2 : la < 2147483648) (han : 8 ≤ a ∧ (a < b ∨ b + 7 < a)) (hEl : ElM n ord b s dg gl I) (hks : k < s) (hF : ElF n ord (dg k) hk (gl k)) (h1p : (1 : Fin p) ≠ 0) (hm : okm n d m) (hdv : divm (dg k) hk d m) (hR : RepV d (I a) f) (hcc : cc ≤ 97) (hc : c.val = cc % p) (h : ∀ g, RepV d g (fun q => f q + c * mv m hk (gl k) q) → post (wI M (sAll I a g))) : T_Ba_addMoved b a (nI k) (nI (pl m)) (nI cc) (wI M I) post := by
  obtain ⟨⟨hb, hUq⟩, ⟨kb, g0, g1, g2, g3, g4, g5, g6, g7, g8, g9, g10, g11⟩, ⟨a1, a2, a3, a4, a5, a6, a7, a8⟩, a140⟩ := hB
  obtain ⟨⟨k1, s0, s1, -⟩, t2, t3, -⟩ := hP
  have k6 := hNu.1
  have hp6 := hNs.1
  obtain ⟨⟨e3, hst, hs66⟩, hEk⟩ := hEl
  obtain ⟨e4, hT⟩ := hEk k hks
  have hst1 := stt_up (n := n) (ord := ord) (dg := dg) (gl := gl) (show k + 1 ≤ s by omega)
  have hst2 : stt n ord dg gl (k + 1) = stt n ord dg gl k + ct (Qf (vec n ord (dg k) (gl k))) (nM n ord (dg k)) := rfl
  have q3 := e3 k (by omega)
  have q3' := e3 (k + 1) (by omega)
  have hd10 := hF.1
  have hN := psm_lt (ord := ord) hF.2.1
  have hdd := divm_q hm hdv
  have hpos : 0 < ct (Qf (vec n ord (dg k) (gl k))) (nM n ord (dg k)) := by
    have z1 := ct_succ_t (Q := Qf (vec n ord (dg k) (gl k))) (j := psm n ord (dg k) hk) (Qf_iff.mpr (by rw [hF.at]; exact h1p))
    have z2 := ct_up (Q := Qf (vec n ord (dg k) (gl k))) (show psm n ord (dg k) hk + 1 ≤ nM n ord (dg k) by omega)
    omega
  obtain ⟨hfl, hh⟩ := hT (psm n ord (dg k) hk) hN (by rw [hF.at]; exact h1p)
  rw [hF.ct0, atm_psm hF.2.1] at hh
  simp only [Nat.add_zero] at hh
  have hvb := (vec n ord (dg k) (gl k) (psm n ord (dg k) hk)).isLt
  have hkm : hk.1 + hk.2 ≤ 10 := by have := hF.2.1.1; omega
  have hmm : m.1 + m.2 ≤ 10 := by have := hm.1; omega
  have pk := pl_lt hkm
  have pm := pl_lt hmm
  have u1 := (hS.2.1 _ pk).1
  have u2' := (hS.2.1 _ pk).2
  have u3 := (hS.2.1 _ pm).1
  have u4 := (hS.2.1 _ pm).2
  rw [unp_pl hkm] at u1 u2'
  rw [unp_pl hmm] at u3 u4
  have hle1 := hdv.1
  have hle2 := hdv.2.1
  unfold T_Ba_addMoved
  simp (disch := omega) only [isK_wI, isA_wI, gR_wI, gI_wI, sI_wI, true_and, and_true, Option.some.injEq, exists_eq_left', forall_const, lit_nI, nI_add, pk_mul, pk_sub, pk_div, rem_n, nI_clamp, nI_leI, nI_ltI, nI_eq, in_nI, kb, g0, g1, g4, g6, k1, k6, s0, s1, isA_T a3, isZ_T a1 (by omega) hfl, isA_T t2, isA_T t3, q3, hh, pkA, u1, u2', u3, u4, hp6]
  have key : ∀ r j g, ct (Qf (vec n ord (dg k) (gl k))) j + r = ct (Qf (vec n ord (dg k) (gl k))) (nM n ord (dg k)) → j ≤ nM n ord (dg k) → RepV d g (fun q => f q + c * mv m hk (fun x => if psm n ord (dg k) x < j then gl k x else 0) q) → L_Ba_addMoved_75 post (r + 1) b a (nI k) (nI cc) (nI p) 2 3 (nI (m.1 - hk.1)) (nI (m.2 - hk.2)) (nI (stt n ord dg gl k + ct (Qf (vec n ord (dg k) (gl k))) j)) (wI M (sAll I a g)) := by
    intro r
    induction r with
    | zero =>
      intro j g hj hjN hg
      show B_Ba_addMoved_75 _ post b a _ _ _ _ _ _ _ _ _
      unfold B_Ba_addMoved_75
      simp (disch := omega) only [isK_wI, isA_wI, gR_wI, gI_wI, sI_wI, true_and, and_true, Option.some.injEq, exists_eq_left', forall_const, lit_nI, nI_add, pk_mul, pk_sub, pk_div, rem_n, nI_clamp, nI_leI, nI_ltI, nI_eq, in_nI, kb, g6, isA_T a3, sAll_ne (show b + 1 ≠ a by omega), q3']
      refine ⟨fun _ => h g (RepV_cong hg (fun q hq => ?_)), fun z => absurd (by omega) z⟩
      congr 2
      unfold mv mulm
      by_cases z : m.1 - hk.1 ≤ q.1 ∧ m.2 - hk.2 ≤ q.2
      · simp only [if_pos z]
        by_cases z2 : psm n ord (dg k) (q.1 - (m.1 - hk.1), q.2 - (m.2 - hk.2)) < j
        · rw [if_pos z2]
        · rw [if_neg z2]
          by_cases z3 : gl k (q.1 - (m.1 - hk.1), q.2 - (m.2 - hk.2)) = 0
          · exact z3.symm
          · have z4 := psm_lt (ord := ord) (hF.2.2.1 _ z3)
            have z5 := ct_end (show ct (Qf (vec n ord (dg k) (gl k))) j = ct (Qf (vec n ord (dg k) (gl k))) (nM n ord (dg k)) by omega) (Nat.le_of_not_lt z2) z4
            rw [Qf_f] at z5
            unfold vec at z5
            rw [if_pos z4, atm_psm (hF.2.2.1 _ z3)] at z5
            exact z5.symm
      · simp only [if_neg z]
    | succ r ih =>
      intro j g hj hjN hg
      obtain ⟨i, i1, i2, i3, i4, i5⟩ := ct_next (Q := Qf (vec n ord (dg k) (gl k))) (nM n ord (dg k) - j) (j := j) (N := nM n ord (dg k)) (by omega) (by omega)
      have i3' := Qf_iff.mp i3
      obtain ⟨w1, w2⟩ := hT i i2 i3'
      rw [i4] at w2
      have hvi := (vec n ord (dg k) (gl k) i).isLt
      have hok := atm_ok i2
      have hq10 : (atm n ord (dg k) i).1 + (atm n ord (dg k) i).2 ≤ 10 := by have := hok.1; omega
      have pq := pl_lt hq10
      have v1 := (hS.2.1 _ pq).1
      have v2 := (hS.2.1 _ pq).2
      rw [unp_pl hq10] at v1 v2
      have htok := okm_add hok hdd.2
      have htd : (atm n ord (dg k) i).1 + (m.1 - hk.1) + ((atm n ord (dg k) i).2 + (m.2 - hk.2)) ≤ d := by have := htok.1; simp only at this; omega
      have ptla := hla ((atm n ord (dg k) i).1 + (m.1 - hk.1), (atm n ord (dg k) i).2 + (m.2 - hk.2)) htd
      have w3 := hg ((atm n ord (dg k) i).1 + (m.1 - hk.1), (atm n ord (dg k) i).2 + (m.2 - hk.2)) htd
      have hct := ct_up (Q := Qf (vec n ord (dg k) (gl k))) hjN
      have i6 := ct_succ_t i3
      have i7 := ct_up (Q := Qf (vec n ord (dg k) (gl k))) (show i + 1 ≤ nM n ord (dg k) by omega)
      have hp0 : ¬ p = 0 := NeZero.ne p
      show B_Ba_addMoved_75 (L_Ba_addMoved_75 post (r + 1)) post b a _ _ _ _ _ _ _ _ _
      unfold B_Ba_addMoved_75
      simp (disch := omega) only [isK_wI, isA_wI, gR_wI, gI_wI, sI_wI, true_and, and_true, Option.some.injEq, exists_eq_left', forall_const, lit_nI, nI_add, pk_mul, pk_sub, pk_div, rem_n, nI_clamp, nI_leI, nI_ltI, nI_eq, in_nI, kb, g4, g6, isZ_sA (show b + 6 ≠ a by omega), isZ_T a1 (by omega) hfl, isA_T a3, isA_T t2, isA_T t3, isA_T ha, sAll_ne (show b + 1 ≠ a by omega), sAll_ne (show b + 6 ≠ a by omega), sAll_ne (show 2 ≠ a by omega), sAll_ne (show 3 ≠ a by omega), sAll_eq, q3', w2, pkA, pkS, v1, v2, plI2, w3, ar_add2 hp hcc hc, u2_sAll]
      refine ⟨fun z => absurd z (by omega), fun _ => ⟨by omega, hp0, ?_⟩⟩
      have hih := ih (i + 1) (upd g (pl ((atm n ord (dg k) i).1 + (m.1 - hk.1), (atm n ord (dg k) i).2 + (m.2 - hk.2))) (nI (f ((atm n ord (dg k) i).1 + (m.1 - hk.1), (atm n ord (dg k) i).2 + (m.2 - hk.2)) + c * mv m hk (fun x => if psm n ord (dg k) x < j then gl k x else 0) ((atm n ord (dg k) i).1 + (m.1 - hk.1), (atm n ord (dg k) i).2 + (m.2 - hk.2)) + c * vec n ord (dg k) (gl k) i).val)) (by omega) (by omega) (RepV_cong (RepV_upd hd hg htd _) (fun q hq => ?_))
      · rw [i6, i4, ← Nat.add_assoc] at hih
        exact hih
      · have hmvv : ∀ jj, mv m hk (fun x => if psm n ord (dg k) x < jj then gl k x else 0) q = if m.1 - hk.1 ≤ q.1 ∧ m.2 - hk.2 ≤ q.2 then (if psm n ord (dg k) (q.1 - (m.1 - hk.1), q.2 - (m.2 - hk.2)) < jj then gl k (q.1 - (m.1 - hk.1), q.2 - (m.2 - hk.2)) else 0) else 0 := fun jj => rfl
        by_cases y : q = ((atm n ord (dg k) i).1 + (m.1 - hk.1), (atm n ord (dg k) i).2 + (m.2 - hk.2))
        · rw [if_pos y]
          have y1 : q.1 - (m.1 - hk.1) = (atm n ord (dg k) i).1 := by rw [y]; simp only; omega
          have y2 : q.2 - (m.2 - hk.2) = (atm n ord (dg k) i).2 := by rw [y]; simp only; omega
          have y3 : m.1 - hk.1 ≤ q.1 ∧ m.2 - hk.2 ≤ q.2 := by rw [y]; simp only; omega
          rw [← y, hmvv, hmvv, if_pos y3, if_pos y3, y1, y2]
          have y4 : ((atm n ord (dg k) i).1, (atm n ord (dg k) i).2) = atm n ord (dg k) i := rfl
          rw [y4, psm_atm i2, if_neg (by omega), if_pos (by omega)]
          have y5 : vec n ord (dg k) (gl k) i = gl k (atm n ord (dg k) i) := if_pos i2
          rw [y5]; grind
        · rw [if_neg y, hmvv, hmvv]
          by_cases y3 : m.1 - hk.1 ≤ q.1 ∧ m.2 - hk.2 ≤ q.2
          · rw [if_pos y3, if_pos y3]
            congr 2
            by_cases z3 : gl k (q.1 - (m.1 - hk.1), q.2 - (m.2 - hk.2)) = 0
            · rw [z3]; split <;> split <;> rfl
            · have z4 := hF.2.2.1 _ z3
              have z5 := atm_psm (ord := ord) z4
              have z6 := psm_lt (ord := ord) z4
              have z7 : psm n ord (dg k) (q.1 - (m.1 - hk.1), q.2 - (m.2 - hk.2)) ≠ i := by
                intro e
                apply y
                rw [e] at z5
                rw [z5]
                apply Prod.ext <;> simp only <;> omega
              by_cases z8 : psm n ord (dg k) (q.1 - (m.1 - hk.1), q.2 - (m.2 - hk.2)) < j
              · rw [if_pos z8, if_pos (by omega)]
              · rw [if_neg z8]
                by_cases z9 : psm n ord (dg k) (q.1 - (m.1 - hk.1), q.2 - (m.2 - hk.2)) < i + 1
                · exfalso
                  have := i5 _ (Nat.le_of_not_lt z8) (show psm n ord (dg k) (q.1 - (m.1 - hk.1), q.2 - (m.2 - hk.2)) < i by omega)
                  rw [Qf_f] at this
                  unfold vec at this
                  rw [if_pos z6, z5] at this
                  exact z3 this
                · rw [if_neg z9]
          · rw [if_neg y3, if_neg y3]
  have := key (ct (Qf (vec n ord (dg k) (gl k))) (nM n ord (dg k))) 0 (I a) (by show 0 + _ = _; omega) (by omega) (RepV_cong hR (fun q hq => by
    have e0 : mv m hk (fun x => if psm n ord (dg k) x < 0 then gl k x else 0) q = 0 := by
      unfold mv mulm
      simp only [Nat.not_lt_zero, if_false]
      split <;> rfl
    rw [e0]; grind))
  rw [sAll_self] at this
  exact ⟨_, this⟩
end BA
