section ST5
variable {M M' : Mem}
/-- what the class needs of its cells lasts -/
def Last (M M' : Mem) : Prop := (∀ c k v, c < 204 → gR M c k = v → gR M' c k = v) ∧ (∀ c k, isK M c k → isK M' c k) ∧ ∀ c k n, arr M c k n → arr M' c k n
theorem Po_ls (h : Last M M') {a : Nat} (ha : a < 204) (q : PoOK M a) : PoOK M' a := ⟨⟨h.2.1 _ _ q.1.1, h.1 _ _ _ ha q.1.2⟩, h.1 _ _ _ ha q.2.1, h.2.2 _ _ _ q.2.2⟩
theorem Ba_ls (h : Last M M') {b : Nat} (hb : b < 204) (q : BaOK M b) : BaOK M' b := by
  obtain ⟨q0, ⟨k0, r0, r1, r2, r3, r4, r5, r6, r7, r8, r9, r10, r11⟩, ⟨a1, a2, a3, a4, a5, a6, a7, a8⟩, a9⟩ := q
  have g := fun {k : Nat} {v : Option Nat} (e : gR M b k = v) => h.1 b k v hb e
  have a := fun {c k n : Nat} (e : arr M c k n) => h.2.2 c k n e
  exact ⟨q0, ⟨h.2.1 _ _ k0, g r0, g r1, g r2, g r3, g r4, g r5, g r6, g r7, g r8, g r9, g r10, g r11⟩, ⟨a a1, a a2, a a3, a a4, a a5, a a6, a a7, a a8⟩, a a9⟩
theorem He_ls (h : Last M M') {b : Nat} (hb : b < 190) (q : HeOK M b) : HeOK M' b := by
  obtain ⟨⟨q0, k0, r0, r1, r2, r3⟩, a1, a2, a3, hB⟩ := q
  have g := fun {k : Nat} {v : Option Nat} (e : gR M b k = v) => h.1 b k v (by omega) e
  exact ⟨⟨q0, h.2.1 _ _ k0, g r0, g r1, g r2, g r3⟩, h.2.2 _ _ _ a1, h.2.2 _ _ _ a2, fun t ht => ⟨h.1 _ _ _ (by omega) (a3 t ht).1, h.2.2 _ _ _ (a3 t ht).2⟩, Ba_ls h (by omega) hB⟩
theorem HT_ls {sw : Bool} (h : Last M M') (q : HTOK M sw) : HTOK M' sw := by
  obtain ⟨⟨k0, r0, r1, r2, r3, r4, r5, r6, r7, r8, r9, r10, r11⟩, ⟨a78, a79, a80⟩, hPo, ⟨c1, c2⟩, ⟨b1, b2, b3⟩, ⟨h1, h2⟩, hP, hN, hR⟩ := q
  have g := fun {c k : Nat} {v : Option Nat} (hc : c < 204) (e : gR M c k = v) => h.1 c k v hc e
  have a := fun {c k n : Nat} (e : arr M c k n) => h.2.2 c k n e
  have z0 : 0 < 204 := by omega
  refine ⟨⟨h.2.1 _ _ k0, g z0 r0, g z0 r1, g z0 r2, g z0 r3, g z0 r4, g z0 r5, g z0 r6, g z0 r7, g z0 r8, g z0 r9, g z0 r10, g z0 r11⟩, ⟨a a78, a a79, fun t ht => ⟨g (by omega) (a80 t ht).1, a (a80 t ht).2⟩⟩, Po_ls h (by omega) hPo, ⟨a c1, fun r hr => ⟨g (by omega) (c2 r hr).1, Po_ls h (by omega) (c2 r hr).2⟩⟩, ⟨Ba_ls h (by omega) b1, Ba_ls h (by omega) b2, Ba_ls h (by omega) b3⟩, ⟨He_ls h (by omega) h1, He_ls h (by omega) h2⟩, ?_, ?_, ?_⟩
  · obtain ⟨⟨k1, p0, p1, p2, p3⟩, x1, x2, x3, x4⟩ := hP
    exact ⟨⟨h.2.1 _ _ k1, g (by omega) p0, g (by omega) p1, g (by omega) p2, g (by omega) p3⟩, a x1, a x2, a x3, a x4⟩
  · exact ⟨h.2.1 _ _ hN.1, g (by omega) hN.2.1, a hN.2.2⟩
  · obtain ⟨⟨k1, p0, p1, p2, p3, p4⟩, x1, x2, x3, x4⟩ := hR
    exact ⟨⟨h.2.1 _ _ k1, g (by omega) p0, g (by omega) p1, g (by omega) p2, g (by omega) p3, g (by omega) p4⟩, a x1, fun r hr => ⟨g (by omega) (x2 r hr).1, a (x2 r hr).2⟩, a x3, a x4⟩
theorem SI_ls {ρ ρ' : Nat → Nat → Option Nat} {E E' : Nat → Nat → Int32} (s : SI M 204 ρ E) (s' : SI M' 215 ρ' E') (h : ∀ c, c < 204 → ρ' c = ρ c) : Last M M' := by
  have hk := HT_kp s s' h
  refine ⟨fun c k v hc e => by rw [hk.1 c k hc]; exact e, fun c k ⟨h1, h2⟩ => ?_, hk.2⟩
  have := (hk.2 c k _ ⟨⟨h1, h2⟩, rfl⟩).1
  exact this
end ST5
