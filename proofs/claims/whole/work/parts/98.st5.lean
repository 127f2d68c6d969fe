section ST5
theorem Md_lz {M : Mem} (h : MdOK M) : MdOK (lzf M) := by
  obtain ⟨k, r0, r6, r7, r9, r10, r11, r13, r14, r15, r17, a0, a1, a2, a3, a4, a5, a6, a7, a8, a9⟩ := h
  have z0 : ∀ c, c < 210 → 199 ≤ c → lzk c = 0 := by decide +kernel
  have z : ∀ c, 199 ≤ c → c < 210 → lzk c = 0 := fun c h1 h2 => z0 c h2 h1
  exact ⟨isK_lz (z _ (by omega) (by omega)) k, r0, r6, r7, r9, r10, r11, r13, r14, r15, r17, arr_lz (z _ (by omega) (by omega)) a0, arr_lz (z _ (by omega) (by omega)) a1, arr_lz (z _ (by omega) (by omega)) a2, arr_lz (z _ (by omega) (by omega)) a3, arr_lz (z _ (by omega) (by omega)) a4, arr_lz (z _ (by omega) (by omega)) a5, arr_lz (z _ (by omega) (by omega)) a6, arr_lz (z _ (by omega) (by omega)) a7, arr_lz (z _ (by omega) (by omega)) a8, arr_lz (z _ (by omega) (by omega)) a9⟩
end ST5
