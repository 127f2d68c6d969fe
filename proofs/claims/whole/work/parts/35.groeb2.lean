/-- both divide, with a letter left -/
def bothBelow (n d : Nat) (da : Nat) (ha : Mo2) (dk : Nat) (hk m : Mo2) : Prop := ∃ l b : Mo2, okm n 1 l ∧ okm n d b ∧ m = (l.1 + b.1, l.2 + b.2) ∧ divm da ha d b ∧ divm dk hk d b
/-- THE BASE, one degree on: what the differences that are looked at make, all make -/
theorem groeb {p : Nat} [NeZero p] {n ord d : Nat} {G : Nat → (Mo2 → Fin p) → Prop} (h1p : (1 : Fin p) ≠ 0) (hG : ∀ e g, G e g → hom n e g)
    {s : Nat} {dg : Nat → Nat} {hd : Nat → Mo2} {gl : Nat → Mo2 → Fin p} (hEl : ∀ k, k < s → Elem n ord G (dg k) (hd k) (gl k))
    {ld : Nat → Nat} (hE : Ech (nM n ord d) (VV n ord d (VP n G d)) (fun i => decide (ld i ≠ 0)) (fun i => vec n ord d (mv (atm n ord d i) (hd (ld i - 1)) (gl (ld i - 1)))))
    (hld : ∀ i, i < nM n ord d → ld i ≠ 0 → ld i - 1 < s ∧ divm (dg (ld i - 1)) (hd (ld i - 1)) d (atm n ord d i))
    {W : (Mo2 → Fin p) → Prop} (hW : Sub W) {la : Nat → Nat}
    (hW1 : ∀ i, i < nM n ord (d + 1) → ∀ l b : Mo2, okm n 1 l → okm n d b → atm n ord (d + 1) i = (l.1 + b.1, l.2 + b.2) → ld (psm n ord d b) ≠ 0 →
      (la i < s ∧ dg (la i) ≤ d ∧ divm (dg (la i)) (hd (la i)) (d + 1) (atm n ord (d + 1) i) ∧ W (mv (atm n ord (d + 1) i) (hd (la i)) (gl (la i)))) ∧
      (ld (psm n ord d b) - 1 = la i ∨ W (mv (atm n ord (d + 1) i) (hd (ld (psm n ord d b) - 1)) (gl (ld (psm n ord d b) - 1))) ∨
        bothBelow n d (dg (la i)) (hd (la i)) (dg (ld (psm n ord d b) - 1)) (hd (ld (psm n ord d b) - 1)) (atm n ord (d + 1) i) ∨
        (d + 1 = dg (la i) + dg (ld (psm n ord d b) - 1) ∧ atm n ord (d + 1) i = ((hd (la i)).1 + (hd (ld (psm n ord d b) - 1)).1, (hd (la i)).2 + (hd (ld (psm n ord d b) - 1)).2)))) :
    (∀ i, i < nM n ord (d + 1) → ∀ k, k < s → dg k ≤ d → divm (dg k) (hd k) (d + 1) (atm n ord (d + 1) i) → W (mv (atm n ord (d + 1) i) (hd k) (gl k))) ∧
      ∀ l f, okm n 1 l → VP n G d f → W (mulm l f) := by
  have hVs := VP_sub n G d
  have hVVs : Sub (VV n ord d (VP n G d)) := VV_sub hVs
  -- a polynomial of degree d, 0 ahead of b, times a letter
  have HH : ∀ (l : Mo2), okm n 1 l → ∀ (b : Nat), (∀ j, b ≤ j → j < nM n ord d → ld j ≠ 0 → W (mv (l.1 + (atm n ord d j).1, l.2 + (atm n ord d j).2) (hd (ld j - 1)) (gl (ld j - 1)))) → ∀ f, VP n G d f → (∀ j, j < b → vec n ord d f j = 0) → W (mulm l f) := by
    intro l hl b hb f hf h0
    have hs := hE.span hVVs (v := vec n ord d f) ⟨f, hf, rfl⟩ (b := b) h0
    have := Spn_le (V := fun v => W (mulm l (unv n ord d v))) ⟨?_, ?_⟩ ?_ _ hs
    · rw [unv_vec (VP_hom hG f hf)] at this; exact this
    · show W (mulm l (unv n ord d fun _ => 0))
      have e : unv n ord d (fun _ => (0 : Fin p)) = fun _ => 0 := by funext m; unfold unv; split <;> rfl
      rw [e, mulm_z]; exact hW.1
    · intro u v c hu hv
      show W (mulm l (unv n ord d fun i => u i + c * v i))
      rw [unv_lin, mulm_lin]; exact hW.2 _ _ c hu hv
    · rintro s ⟨j, hj, hP, rfl⟩
      have hlj : ld j ≠ 0 := by simpa using hP
      have hjN : j < nM n ord d := (hE.1 j hP).1
      obtain ⟨g1, g2⟩ := hld j hjN hlj
      show W (mulm l (unv n ord d (vec n ord d (mv (atm n ord d j) (hd (ld j - 1)) (gl (ld j - 1))))))
      rw [unv_vec (VP_hom hG _ (mv_in (hEl _ g1) (atm_ok hjN) g2)), mv_mulm g2.1 g2.2.1]
      exact hb j hj hjN hlj
  have main : ∀ t i, nM n ord (d + 1) - i ≤ t → i < nM n ord (d + 1) → ∀ k, k < s → dg k ≤ d → divm (dg k) (hd k) (d + 1) (atm n ord (d + 1) i) → W (mv (atm n ord (d + 1) i) (hd k) (gl k)) := by
    intro t
    induction t with
    | zero => intro i h1 h2; omega
    | succ t ih =>
      intro i hti hi k hk hdk hdiv
      have IH : ∀ i', i < i' → i' < nM n ord (d + 1) → ∀ k, k < s → dg k ≤ d → divm (dg k) (hd k) (d + 1) (atm n ord (d + 1) i') → W (mv (atm n ord (d + 1) i') (hd k) (gl k)) := fun i' h1 h2 => ih i' (by omega) h2
      -- behind the product at i
      have later : ∀ m', okm n (d + 1) m' → bef ord (atm n ord (d + 1) i) m' → ∀ k, k < s → dg k ≤ d → divm (dg k) (hd k) (d + 1) m' → W (mv m' (hd k) (gl k)) := by
        intro m' hm' hb k hk hdk hdv
        have e := atm_psm (ord := ord) hm'
        have hlt : i < psm n ord (d + 1) m' := (atm_lt hi (psm_lt hm')).mp (by rw [e]; exact hb)
        have := IH _ hlt (psm_lt hm') k hk hdk (by rw [e]; exact hdv)
        rw [e] at this; exact this
      -- the difference of two elements at a product of degree d, times a letter
      have two : ∀ (l b : Mo2), okm n 1 l → okm n d b → atm n ord (d + 1) i = (l.1 + b.1, l.2 + b.2) → ∀ k1 k2, k1 < s → k2 < s → divm (dg k1) (hd k1) d b → divm (dg k2) (hd k2) d b → W (fun m => mv (atm n ord (d + 1) i) (hd k1) (gl k1) m - mv (atm n ord (d + 1) i) (hd k2) (gl k2) m) := by
        intro l b hl hb hm k1 k2 hk1 hk2 hd1 hd2
        have v1 := mv_vec0 (hEl k1 hk1) hb hd1
        have v2 := mv_vec0 (hEl k2 hk2) hb hd2
        have hf : VP n G d (fun m => mv b (hd k1) (gl k1) m - mv b (hd k2) (gl k2) m) := hVs.sub (mv_in (hEl k1 hk1) hb hd1) (mv_in (hEl k2 hk2) hb hd2)
        have := HH l hl (psm n ord d b + 1) ?_ _ hf ?_
        · have e1 : mulm l (fun m => mv b (hd k1) (gl k1) m - mv b (hd k2) (gl k2) m) = fun m => mulm l (mv b (hd k1) (gl k1)) m - mulm l (mv b (hd k2) (gl k2)) m := by
            have := mulm_lin l (mv b (hd k1) (gl k1)) (mv b (hd k2) (gl k2)) (-1)
            have a : (fun m => mv b (hd k1) (gl k1) m - mv b (hd k2) (gl k2) m) = fun m => mv b (hd k1) (gl k1) m + (-1) * mv b (hd k2) (gl k2) m := by funext m; grind
            rw [a, this]; funext m; grind
          rw [e1, mv_mulm hd1.1 hd1.2.1, mv_mulm hd2.1 hd2.2.1, ← hm] at this
          exact this
        · intro j hj hjN hlj
          obtain ⟨g1, g2⟩ := hld j hjN hlj
          have hbf : bef ord b (atm n ord d j) := by
            have := (atm_lt (psm_lt hb) hjN).mpr (show psm n ord d b < j by omega)
            rw [atm_psm hb] at this; exact this
          refine later _ ?_ ?_ _ g1 (divm_q (atm_ok hjN) g2).1 (divm_up hl g2)
          · have := okm_add (atm_ok hjN) hl
            have e : ((atm n ord d j).1 + l.1, (atm n ord d j).2 + l.2) = (l.1 + (atm n ord d j).1, l.2 + (atm n ord d j).2) := by simp only [Prod.mk.injEq]; omega
            rw [e] at this; exact this
          · rw [hm]
            have := (bef_mul (ord := ord) (a := b) (b := atm n ord d j) (c := l)).mpr hbf
            have e1 : ((b.1 + l.1, b.2 + l.2) : Mo2) = (l.1 + b.1, l.2 + b.2) := by simp only [Prod.mk.injEq]; omega
            have e2 : (((atm n ord d j).1 + l.1, (atm n ord d j).2 + l.2) : Mo2) = (l.1 + (atm n ord d j).1, l.2 + (atm n ord d j).2) := by simp only [Prod.mk.injEq]; omega
            rw [e1, e2] at this; exact this
        · intro j hj
          rw [vec_sub]
          by_cases e : j = psm n ord d b
          · subst e
            simp only [v1.1, v2.1]; grind
          · simp only [v1.2 j (by omega), v2.2 j (by omega)]; grind
      -- the leader below, at i
      have star : ∀ (l b : Mo2), okm n 1 l → okm n d b → atm n ord (d + 1) i = (l.1 + b.1, l.2 + b.2) → ld (psm n ord d b) ≠ 0 → W (mv (atm n ord (d + 1) i) (hd (ld (psm n ord d b) - 1)) (gl (ld (psm n ord d b) - 1))) := by
        intro l b hl hb hm hne
        obtain ⟨⟨a1, a2, a3, a4⟩, hcase⟩ := hW1 i hi l b hl hb hm hne
        obtain ⟨g1, g2⟩ := hld _ (psm_lt hb) hne
        rw [atm_psm hb] at g2
        rcases hcase with q | q | ⟨l', b', hl', hb', hm', q1, q2⟩ | ⟨q1, q2⟩
        · rw [q]; exact a4
        · exact q
        · have := two l' b' hl' hb' hm' _ _ g1 a1 q2 q1
          have := hW.add this a4
          have e : (fun m => mv (atm n ord (d + 1) i) (hd (ld (psm n ord d b) - 1)) (gl (ld (psm n ord d b) - 1)) m - mv (atm n ord (d + 1) i) (hd (la i)) (gl (la i)) m + mv (atm n ord (d + 1) i) (hd (la i)) (gl (la i)) m) = mv (atm n ord (d + 1) i) (hd (ld (psm n ord d b) - 1)) (gl (ld (psm n ord d b) - 1)) := by funext m; grind
          rw [e] at this; exact this
        · -- the heads share no letter
          generalize hK : ld (psm n ord d b) - 1 = K at *
          have EA := hEl _ a1
          have EK := hEl _ g1
          have dK : dg K ≤ d := (divm_q hb g2).1
          have mA : mv (atm n ord (d + 1) i) (hd (la i)) (gl (la i)) = mulm (hd K) (gl (la i)) := by
            unfold mv; rw [q2]; congr 1
            obtain ⟨x1, x2⟩ := hd K
            simp only [Prod.mk.injEq]; omega
          have mK : mv (atm n ord (d + 1) i) (hd K) (gl K) = mulm (hd (la i)) (gl K) := by
            unfold mv; rw [q2]; congr 1
            obtain ⟨x1, x2⟩ := hd (la i)
            simp only [Prod.mk.injEq]; omega
          have tail : ∀ (X Y : Nat), X < s → Y < s → dg X ≤ d → dg Y ≤ d → d + 1 = dg X + dg Y → atm n ord (d + 1) i = ((hd X).1 + (hd Y).1, (hd X).2 + (hd Y).2) → ∀ m, okm n (dg X) m → gl X m ≠ 0 → m = hd X ∨ W (mulm m (gl Y)) := by
            intro X Y hX hY dX dY hdd hm m ho hz
            rcases (hEl X hX).2.2.2 m hz with e | e
            · exact Or.inl e
            · right
              have hoY := (hEl Y hY).1
              have hm' : okm n (d + 1) (m.1 + (hd Y).1, m.2 + (hd Y).2) := by rw [hdd]; exact okm_add ho hoY
              have hdv : divm (dg Y) (hd Y) (d + 1) (m.1 + (hd Y).1, m.2 + (hd Y).2) := by
                have := ho.1
                refine ⟨?_, ?_, ?_⟩ <;> simp only <;> omega
              have := later _ hm' (by rw [hm]; exact (bef_mul (c := hd Y)).mpr e) Y hY dY hdv
              unfold mv at this
              have e2 : ((m.1 + (hd Y).1 - (hd Y).1, m.2 + (hd Y).2 - (hd Y).2) : Mo2) = m := by
                obtain ⟨x1, x2⟩ := m
                simp only [Prod.mk.injEq]; omega
              simp only [e2] at this
              exact this
          have pA := prodm_split (ord := ord) (g := gl K) EA.1 EA.2.2.1 hW (tail (la i) K a1 g1 a2 dK q1 q2)
          have pK := prodm_split (ord := ord) (g := gl (la i)) EK.1 EK.2.2.1 hW (tail K (la i) g1 a1 dK a2 (by omega) (by rw [q2]; simp only [Prod.mk.injEq]; omega))
          have pc := prodm_comm (ord := ord) (VP_hom hG _ EA.2.1) (VP_hom hG _ EK.2.1)
          rw [pc] at pA
          rw [mA] at a4
          rw [mK]
          have := hW.add (hW.sub pK pA) a4
          have e : (fun m => prodm n ord (dg K) (gl K) (gl (la i)) m - mulm (hd K) (gl (la i)) m - (prodm n ord (dg K) (gl K) (gl (la i)) m - mulm (hd (la i)) (gl K) m) + mulm (hd K) (gl (la i)) m) = mulm (hd (la i)) (gl K) := by funext m; grind
          rw [e] at this; exact this
      -- any element
      have hmi := atm_ok hi
      obtain ⟨q1, q2⟩ := divm_q hmi hdiv
      rw [show d + 1 - dg k = (d - dg k) + 1 by omega] at q2
      obtain ⟨l, c, hl, hc, hlc⟩ := okm_split q2
      have hok := (hEl k hk).1
      have hb : okm n d ((hd k).1 + c.1, (hd k).2 + c.2) := by
        have := okm_add hok hc
        rw [show dg k + (d - dg k) = d by omega] at this; exact this
      have hm : atm n ord (d + 1) i = (l.1 + ((hd k).1 + c.1), l.2 + ((hd k).2 + c.2)) := by
        obtain ⟨u1, u2, u3⟩ := hdiv
        have e1 := congrArg Prod.fst hlc
        have e2 := congrArg Prod.snd hlc
        simp only at e1 e2
        apply Prod.ext <;> simp only <;> omega
      have hdb : divm (dg k) (hd k) d ((hd k).1 + c.1, (hd k).2 + c.2) := by
        have := hc.1
        refine ⟨?_, ?_, ?_⟩ <;> simp only <;> omega
      have hlead : ld (psm n ord d ((hd k).1 + c.1, (hd k).2 + c.2)) ≠ 0 := by
        have v1 := mv_vec0 (hEl k hk) hb hdb
        have := (hE.lead h1p hVVs (psm n ord d ((hd k).1 + c.1, (hd k).2 + c.2))).mp ⟨_, ⟨_, mv_in (hEl k hk) hb hdb, rfl⟩, by rw [v1.1]; exact h1p, v1.2⟩
        simpa using this
      obtain ⟨g1, g2⟩ := hld _ (psm_lt hb) hlead
      rw [atm_psm hb] at g2
      have w1 := two l _ hl hb hm k _ hk g1 hdb g2
      have w2 := star l _ hl hb hm hlead
      have := hW.add w1 w2
      have e : (fun m => mv (atm n ord (d + 1) i) (hd k) (gl k) m - mv (atm n ord (d + 1) i) (hd (ld (psm n ord d ((hd k).1 + c.1, (hd k).2 + c.2)) - 1)) (gl (ld (psm n ord d ((hd k).1 + c.1, (hd k).2 + c.2)) - 1)) m + mv (atm n ord (d + 1) i) (hd (ld (psm n ord d ((hd k).1 + c.1, (hd k).2 + c.2)) - 1)) (gl (ld (psm n ord d ((hd k).1 + c.1, (hd k).2 + c.2)) - 1)) m) = mv (atm n ord (d + 1) i) (hd k) (gl k) := by funext m; grind
      rw [e] at this; exact this
  refine ⟨fun i hi => main _ i (Nat.le_refl _) hi, fun l f hl hf => ?_⟩
  refine HH l hl 0 (fun j _ hjN hlj => ?_) f hf (fun j hj => absurd hj (Nat.not_lt_zero j))
  obtain ⟨g1, g2⟩ := hld j hjN hlj
  have hm : okm n (d + 1) (l.1 + (atm n ord d j).1, l.2 + (atm n ord d j).2) := by
    have := okm_add (atm_ok hjN) hl
    have e : ((atm n ord d j).1 + l.1, (atm n ord d j).2 + l.2) = (l.1 + (atm n ord d j).1, l.2 + (atm n ord d j).2) := by simp only [Prod.mk.injEq]; omega
    rw [e] at this; exact this
  have := main _ _ (Nat.le_refl _) (psm_lt hm) _ g1 (divm_q (atm_ok hjN) g2).1 (by rw [atm_psm hm]; exact divm_up hl g2)
  rw [atm_psm hm] at this; exact this
