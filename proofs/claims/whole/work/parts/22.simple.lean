/-! ===== methods that are alike by cases ===== -/
theorem e_count (L : LawT) : EQ_count (Rel1 L) := by
  intro x m a1 hR
  obtain ⟨a, rfl, ha1, ha2⟩ := iI_of a1
  obtain ⟨⟨n, nb, hP, hC, hT, hD, hI, hK, hS⟩, hL⟩ := id hR
  obtain ⟨hn, e1, e2, -⟩ := hP
  obtain ⟨d, c, hdc, hc, e3, e4, -⟩ := hC
  obtain ⟨tp, ht, e5, e6, -⟩ := hT
  obtain ⟨hnb, e7, e8, -, r, hr, e9, e10, -⟩ := hK
  unfold f_X9_count f_X10_count
  simp (disch := omega) only [gl_e, iI_lit, iI_neg, iI_add, iI_sub, iI_mul, gk_t, b_some, bz0, bz1, pI_row, pI_snd, pA_row, pA_snd, pL_fst, pL_row, pB_fst, pB_row, upd_at, ↓reduceIte, iI_lt, iI_le, iI_eq, iI_inb, iI_nat, iI_nz]
  rw [e1, e2, e3, e4, e5, e6, e7, e8, e9, e10]
  by_cases c0 : a = 0
  · exact ⟨_, by simp only [c0, ↓reduceIte]; rfl, by simp only [c0, ↓reduceIte], hR⟩
  by_cases c1 : a = 1
  · exact ⟨_, by simp only [c0, c1, ↓reduceIte]; rfl, by simp only [c0, c1, ↓reduceIte]; rfl, hR⟩
  by_cases c2 : a = 2
  · exact ⟨_, by simp only [c0, c1, c2, ↓reduceIte]; rfl, by simp only [c0, c1, c2, ↓reduceIte]; rfl, hR⟩
  by_cases c3 : a = 3
  · exact ⟨_, by simp only [c0, c1, c2, c3, ↓reduceIte]; rfl, by simp only [c0, c1, c2, c3, ↓reduceIte]; rfl, hR⟩
  by_cases c4 : a = 4
  · exact ⟨_, by simp only [c0, c1, c2, c3, c4, ↓reduceIte]; rfl, by simp only [c0, c1, c2, c3, c4, ↓reduceIte]; rfl, hR⟩
  exact ⟨_, by simp only [c0, c1, c2, c3, c4, ↓reduceIte]; rfl, by simp only [c0, c1, c2, c3, c4, ↓reduceIte], hR⟩
