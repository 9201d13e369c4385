/-! ===== methods that are alike by cases ===== -/
theorem e_count (L : LawT) : EQ_count (Rel1 L) := by
  intro x m a1 hR
  obtain ⟨a, rfl, ha1, ha2⟩ := iI_of a1
  obtain ⟨⟨n, nb, hP, hC, hT, hD, hI, hK, hS⟩, hL⟩ := id hR
  obtain ⟨hn, e1, e2, -⟩ := hP
  obtain ⟨d, c, hdc, hc, e3, e4, -⟩ := hC
  obtain ⟨tp, ht, e5, e6, -⟩ := hT
  obtain ⟨hnb, e7, e8, -, r, hr, e9, e10, -⟩ := hK
  unfold f_X9_count f_X10_count
  simp +decide (disch := omega) only [gl_e, iI_lit, iI_neg, iI_add, iI_sub, iI_mul, gk_t, b_some, bz0, bz1, pI_row, pI_snd, pA_row, pA_snd, pL_fst, pL_row, pB_fst, pB_row, upd_at, ↓reduceIte, Int.reduceToNat, Nat.reduceEqDiff, iI_lt, iI_le, iI_eq, iI_inb, iI_nat, iI_nz]
  rw [e1, e2, e3, e4, e5, e6, e7, e8, e9, e10]
  (repeat' split) <;> first | exact ⟨_, rfl, rfl, hR⟩ | (exfalso; omega)
theorem e_trace (L : LawT) : EQ_trace (Rel1 L) := by
  intro x m a1 hR
  obtain ⟨a, rfl, ha1, ha2⟩ := iI_of a1
  obtain ⟨⟨n, nb, hP, hC, hT, hD, hI, hK, hS⟩, hL⟩ := id hR
  obtain ⟨hnb, e7, e8, -, r, hr, e9, e10, hra⟩ := hK
  unfold f_X9_trace f_X10_trace f_X3_traced
  rw [e9, e10]
  simp +decide (disch := omega) only [gl_e, iI_lit, iI_neg, iI_add, iI_sub, iI_mul, gk_t, b_some, bz0, bz1, pI_row, pI_snd, pA_row, pA_snd, pL_fst, pL_row, pB_fst, pB_row, upd_at, ↓reduceIte, Int.reduceToNat, Nat.reduceEqDiff, iI_lt, iI_le, iI_eq, iI_inb, iI_nat, iI_nz, jmin_i]
  have e : (if (24 : Int) < r then (24 : Int) else r) = (if (r : Int) < 24 then (r : Int) else 24) := by
    split <;> split <;> omega
  rw [← e]
  generalize hz : (if (24 : Int) < r then (24 : Int) else r) = z
  have hz1 : z ≤ r ∧ z ≤ 24 ∧ 0 ≤ z := by
    rw [← hz]
    split <;> omega
  simp +decide (disch := omega) only [gl_e, iI_lit, iI_neg, iI_add, iI_sub, iI_mul, gk_t, b_some, bz0, bz1, pI_row, pI_snd, pA_row, pA_snd, pL_fst, pL_row, pB_fst, pB_row, upd_at, ↓reduceIte, Int.reduceToNat, Nat.reduceEqDiff, iI_lt, iI_le, iI_eq, iI_inb, iI_nat, iI_nz, s_wi, bI_0]
  by_cases c1 : 0 ≤ a ∧ a ≤ z - 1
  · have c2 : ¬ a < 0 := by omega
    have c3 : a < z := by omega
    simp +decide (disch := omega) only [c1, c2, c3, gl_e, iI_lit, iI_neg, iI_add, iI_sub, iI_mul, gk_t, b_some, bz0, bz1, pI_row, pI_snd, pA_row, pA_snd, pL_fst, pL_row, pB_fst, pB_row, upd_at, ↓reduceIte, Int.reduceToNat, Nat.reduceEqDiff, iI_lt, iI_le, iI_eq, iI_inb, iI_nat, iI_nz, not_true_eq_false, and_self]
    exact ⟨_, rfl, by rw [hra a.toNat (by omega) (by omega)], hR⟩
  · simp only [c1, not_false_eq_true, ↓reduceIte]
    by_cases c2 : a < 0
    · simp only [c2, ↓reduceIte]
      exact ⟨_, rfl, rfl, hR⟩
    · have c3 : ¬ a < z := by omega
      simp only [c2, c3, ↓reduceIte]
      exact ⟨_, rfl, rfl, hR⟩
theorem e_led (L : LawT) : EQ_led (Rel1 L) := by
  intro x m a1 hR
  obtain ⟨a, rfl, ha1, ha2⟩ := iI_of a1
  obtain ⟨⟨n, nb, hP, hC, hT, hD, hI, hK, hS⟩, hL⟩ := id hR
  obtain ⟨-, ⟨w, hw, e1, e2⟩, ⟨e3, e4, e5, e6⟩, -⟩ := hD
  unfold f_X9_led f_X10_led
  rw [e1, e2, ← e3, ← e4, ← e5, ← e6]
  simp +decide (disch := omega) only [gl_e, iI_lit, iI_neg, iI_add, iI_sub, iI_mul, gk_t, b_some, bz0, bz1, pI_row, pI_snd, pA_row, pA_snd, pL_fst, pL_row, pB_fst, pB_row, upd_at, ↓reduceIte, Int.reduceToNat, Nat.reduceEqDiff, iI_lt, iI_le, iI_eq, iI_inb, iI_nat, iI_nz, s_wi, bI_0]
  by_cases c0 : a = 0
  · subst c0; exact ⟨_, rfl, rfl, hR⟩
  by_cases c1 : a = 1
  · subst c1; exact ⟨_, rfl, rfl, hR⟩
  by_cases c2 : a = 2
  · subst c2; exact ⟨_, rfl, rfl, hR⟩
  by_cases c3 : a = 3
  · subst c3; exact ⟨_, rfl, rfl, hR⟩
  by_cases c4 : a = 4
  · subst c4; exact ⟨_, rfl, rfl, hR⟩
  have c5 : ¬ (0 ≤ a ∧ a ≤ 3) := by omega
  simp only [c0, c1, c2, c3, c4, c5, not_false_eq_true, ↓reduceIte]
  exact ⟨_, rfl, rfl, hR⟩
