/-! ===== taken ===== -/
def und (k t : Nat) : Bool := Nat.testBit 10610811756907660033 (8 * k + t)
theorem s_und (σ : gS) (k t : Nat) (hk : k ≤ 7) (ht : t ≤ 7) : f_X3_isUnder σ (iI k) (iI t) = some (if und k t then iI 1 else iI 0) ∧ f_X10_taken_61 σ gN (iI t) (iI k) (iI k) = some (if und k t then iI k else iI (-12)) := match k, hk, t, ht with
  | 0, _, 0, _ => ⟨rfl, rfl⟩
  | 0, _, 1, _ => ⟨rfl, rfl⟩
  | 0, _, 2, _ => ⟨rfl, rfl⟩
  | 0, _, 3, _ => ⟨rfl, rfl⟩
  | 0, _, 4, _ => ⟨rfl, rfl⟩
  | 0, _, 5, _ => ⟨rfl, rfl⟩
  | 0, _, 6, _ => ⟨rfl, rfl⟩
  | 0, _, 7, _ => ⟨rfl, rfl⟩
  | 1, _, 0, _ => ⟨rfl, rfl⟩
  | 1, _, 1, _ => ⟨rfl, rfl⟩
  | 1, _, 2, _ => ⟨rfl, rfl⟩
  | 1, _, 3, _ => ⟨rfl, rfl⟩
  | 1, _, 4, _ => ⟨rfl, rfl⟩
  | 1, _, 5, _ => ⟨rfl, rfl⟩
  | 1, _, 6, _ => ⟨rfl, rfl⟩
  | 1, _, 7, _ => ⟨rfl, rfl⟩
  | 2, _, 0, _ => ⟨rfl, rfl⟩
  | 2, _, 1, _ => ⟨rfl, rfl⟩
  | 2, _, 2, _ => ⟨rfl, rfl⟩
  | 2, _, 3, _ => ⟨rfl, rfl⟩
  | 2, _, 4, _ => ⟨rfl, rfl⟩
  | 2, _, 5, _ => ⟨rfl, rfl⟩
  | 2, _, 6, _ => ⟨rfl, rfl⟩
  | 2, _, 7, _ => ⟨rfl, rfl⟩
  | 3, _, 0, _ => ⟨rfl, rfl⟩
  | 3, _, 1, _ => ⟨rfl, rfl⟩
  | 3, _, 2, _ => ⟨rfl, rfl⟩
  | 3, _, 3, _ => ⟨rfl, rfl⟩
  | 3, _, 4, _ => ⟨rfl, rfl⟩
  | 3, _, 5, _ => ⟨rfl, rfl⟩
  | 3, _, 6, _ => ⟨rfl, rfl⟩
  | 3, _, 7, _ => ⟨rfl, rfl⟩
  | 4, _, 0, _ => ⟨rfl, rfl⟩
  | 4, _, 1, _ => ⟨rfl, rfl⟩
  | 4, _, 2, _ => ⟨rfl, rfl⟩
  | 4, _, 3, _ => ⟨rfl, rfl⟩
  | 4, _, 4, _ => ⟨rfl, rfl⟩
  | 4, _, 5, _ => ⟨rfl, rfl⟩
  | 4, _, 6, _ => ⟨rfl, rfl⟩
  | 4, _, 7, _ => ⟨rfl, rfl⟩
  | 5, _, 0, _ => ⟨rfl, rfl⟩
  | 5, _, 1, _ => ⟨rfl, rfl⟩
  | 5, _, 2, _ => ⟨rfl, rfl⟩
  | 5, _, 3, _ => ⟨rfl, rfl⟩
  | 5, _, 4, _ => ⟨rfl, rfl⟩
  | 5, _, 5, _ => ⟨rfl, rfl⟩
  | 5, _, 6, _ => ⟨rfl, rfl⟩
  | 5, _, 7, _ => ⟨rfl, rfl⟩
  | 6, _, 0, _ => ⟨rfl, rfl⟩
  | 6, _, 1, _ => ⟨rfl, rfl⟩
  | 6, _, 2, _ => ⟨rfl, rfl⟩
  | 6, _, 3, _ => ⟨rfl, rfl⟩
  | 6, _, 4, _ => ⟨rfl, rfl⟩
  | 6, _, 5, _ => ⟨rfl, rfl⟩
  | 6, _, 6, _ => ⟨rfl, rfl⟩
  | 6, _, 7, _ => ⟨rfl, rfl⟩
  | 7, _, 0, _ => ⟨rfl, rfl⟩
  | 7, _, 1, _ => ⟨rfl, rfl⟩
  | 7, _, 2, _ => ⟨rfl, rfl⟩
  | 7, _, 3, _ => ⟨rfl, rfl⟩
  | 7, _, 4, _ => ⟨rfl, rfl⟩
  | 7, _, 5, _ => ⟨rfl, rfl⟩
  | 7, _, 6, _ => ⟨rfl, rfl⟩
  | 7, _, 7, _ => ⟨rfl, rfl⟩
  | n + 8, h, _, _ => absurd h (by omega)
  | _, _, n + 8, h => absurd h (by omega)
theorem s_undN (σ : gS) (t : Int32) : f_X3_isUnder σ (iI (-1)) t = some (iI 0) := rfl
theorem e_taken (L : LawT) : EQ_taken (Rel1 L) := by
  intro x m a1 a2 hR
  obtain ⟨s, rfl, hs1, hs2⟩ := iI_of a1
  obtain ⟨t, rfl, ht1, ht2⟩ := iI_of a2
  obtain ⟨⟨n, nb, hP, hC, hT, hD, hI, hK, hS⟩, hL⟩ := id hR
  obtain ⟨hnb, e7, e8, hkk, hr⟩ := id hK
  unfold f_X9_taken f_X10_taken
  simp +decide (disch := omega) only [s_shX, s_shM, b_some, iI_lit, bI_0, s_kind, s_wi]
  by_cases c1 : 0 ≤ s ∧ s ≤ 5
  · by_cases c0 : 0 ≤ t ∧ t ≤ 7
    · obtain ⟨k, hk, rfl⟩ : ∃ k : Nat, k < 6 ∧ s = (k : Int) := ⟨s.toNat, by omega, by omega⟩
      obtain ⟨u, hu, rfl⟩ : ∃ u : Nat, u ≤ 7 ∧ t = (u : Int) := ⟨t.toNat, by omega, by omega⟩
      simp only [c0, c1, not_true_eq_false, ↓reduceIte, and_self]
      simp +decide (disch := omega) only [s_shAt, Int.toNat_natCast, iI_lt, iI_le, iI_eq, iI_inb, iI_nat, iI_nz, gk_t]
      obtain ⟨hc, hm⟩ := id (hS k hk)
      unfold f_X9_taken_56
      rcases hc with ⟨g1, g2, g3, g4⟩ | ⟨b, hb, g1, g2, g3, g4, g5⟩ | ⟨q, z, hq, hz, g1, g2, g3, g4, g5, g6⟩
      · simp +decide (disch := omega) only [gl_e, iI_lit, iI_neg, iI_add, iI_sub, iI_mul, gk_t, b_some, bz0, bz1, pI_row, pI_snd, pA_row, pA_snd, pL_fst, pL_row, pB_fst, pB_row, upd_at, ↓reduceIte, Int.reduceToNat, Nat.reduceEqDiff, iI_lt, iI_le, iI_eq, iI_inb, iI_nat, iI_nz, g1, g2, bI_0]
        exact ⟨_, rfl, rfl, hR⟩
      · obtain ⟨q1, kd, hkd, q2⟩ := hkk b hb
        have hu2 := s_und x kd u hkd hu
        have hu3 := s_und m kd u hkd hu
        have c2 : ¬ (0 ≤ (10 : Int) + b ∧ (10 : Int) + b ≤ 4) := by omega
        have c3 : ¬ (10 : Int) + b = -1 := by omega
        have c4 : (10 : Int) + b - 10 = b := by omega
        have c5 : 0 ≤ (b : Int) ∧ (b : Int) < nb := by omega
        unfold f_X3_kindOf
        rw [s_isRow hk g3 (by omega) (by omega)]
        simp +decide (disch := omega) only [gl_e, iI_lit, iI_neg, iI_add, iI_sub, iI_mul, gk_t, b_some, bz0, bz1, pI_row, pI_snd, pA_row, pA_snd, pL_fst, pL_row, pB_fst, pB_row, upd_at, ↓reduceIte, Int.reduceToNat, Nat.reduceEqDiff, iI_lt, iI_le, iI_eq, iI_inb, iI_nat, iI_nz, g1, g2, g3, bI_0, c2, c3, c4, c5, s_key hnb e7, not_true_eq_false, not_false_eq_true, and_self, Int.toNat_natCast, q1, q2]
        rw [hu2.1, hu3.2]
        cases und kd u
        · exact ⟨_, rfl, rfl, hR⟩
        · exact ⟨_, rfl, rfl, hR⟩
      · have c2 : (0 ≤ (q : Int) ∧ (q : Int) ≤ 4) := by omega
        have c3 : ¬ (q : Int) = -1 := by omega
        rw [s_isRow hk g3 (by omega) (by omega)]
        simp +decide (disch := omega) only [gl_e, iI_lit, iI_neg, iI_add, iI_sub, iI_mul, gk_t, b_some, bz0, bz1, pI_row, pI_snd, pA_row, pA_snd, pL_fst, pL_row, pB_fst, pB_row, upd_at, ↓reduceIte, Int.reduceToNat, Nat.reduceEqDiff, iI_lt, iI_le, iI_eq, iI_inb, iI_nat, iI_nz, g1, g3, bI_0, c2, c3, s_undN, not_true_eq_false, and_self]
        exact ⟨_, rfl, rfl, hR⟩
    · simp only [c0, c1, not_true_eq_false, not_false_eq_true, and_self, ↓reduceIte]
      exact ⟨_, rfl, rfl, hR⟩
  · simp only [c1, not_false_eq_true, ↓reduceIte]
    exact ⟨_, rfl, rfl, hR⟩
/-! ===== rows on shelves ===== -/
def rowB (q : Nat) (lo hi : Int) (s z : Nat) (rw : Nat → Int) (x m : gS) : Prop := z ≤ 60 ∧ x.1 (14 + 2 * s) 1 = iI 2 ∧ x.1 (14 + 2 * s) 3 = iI q ∧ x.1 (14 + 2 * s) 4 = iI z ∧ m.1 24 s = iI q ∧ m.1 25 s = iI z ∧ ∀ i, i < z → lo ≤ rw i ∧ rw i ≤ hi ∧ x.2 (15 + 2 * s) i = lL (rw i) ∧ m.2 26 (60 * s + i) = lL (rw i)
theorem lL_back (v : Int64) : lL v.toInt = v := Int64.ofInt_toInt v
theorem s_ref {x m : gS} {nb s : Nat} (hs : s < 6) (hnb : nb ≤ 50) (hS : RSs nb x.1 x.2 (m.1 24) (m.1 25) (m.2 26)) {q0 : Nat} {lo hi : Int} (hq : (q0 = 0 ∧ lo = -128 ∧ hi = 127) ∨ (q0 = 1 ∧ lo = -32768 ∧ hi = 32767)) : (f_X5_refusalFor x (14 + 2 * s) (iI q0) = some (iI (-11)) ∧ m.1 24 s = iI (-1) ∧ x.1 (14 + 2 * s) 1 = iI 0) ∨ (f_X5_refusalFor x (14 + 2 * s) (iI q0) = some (iI (-12)) ∧ (∃ h : Nat, m.1 24 s = iI h ∧ h ≠ q0 ∧ h ≤ 60) ∧ ∃ k : Nat, x.1 (14 + 2 * s) 1 = iI k ∧ 1 ≤ k ∧ k ≤ 2) ∨ (f_X5_refusalFor x (14 + 2 * s) (iI q0) = some (iI 0) ∧ ∃ z rw, rowB q0 lo hi s z rw x m) := by
  obtain ⟨hc, hm⟩ := id (hS s hs)
  unfold f_X5_refusalFor
  rcases hc with ⟨g1, g2, g3, g4⟩ | ⟨b, hb, g1, g2, g3, g4, g5⟩ | ⟨q, z, hq2, hz, g1, g2, g3, g4, g5, g6⟩
  · refine Or.inl ⟨?_, g2, g1⟩
    simp +decide (disch := omega) only [gl_e, iI_lit, iI_neg, iI_add, iI_sub, iI_mul, gk_t, b_some, bz0, bz1, pI_row, pI_snd, pA_row, pA_snd, pL_fst, pL_row, pB_fst, pB_row, upd_at, ↓reduceIte, Int.reduceToNat, Nat.reduceEqDiff, iI_lt, iI_le, iI_eq, iI_inb, iI_nat, iI_nz, g1]
  · refine Or.inr (Or.inl ⟨?_, ⟨10 + b, g3, by omega, by omega⟩, 1, g1, by omega, by omega⟩)
    simp +decide (disch := omega) only [gl_e, iI_lit, iI_neg, iI_add, iI_sub, iI_mul, gk_t, b_some, bz0, bz1, pI_row, pI_snd, pA_row, pA_snd, pL_fst, pL_row, pB_fst, pB_row, upd_at, ↓reduceIte, Int.reduceToNat, Nat.reduceEqDiff, iI_lt, iI_le, iI_eq, iI_inb, iI_nat, iI_nz, g1]
  · by_cases c : q = q0
    · subst c
      refine Or.inr (Or.inr ⟨?_, z, fun i => (x.2 (15 + 2 * s) i).toInt, hz, g1, g2, g4, g3, g5, fun i hz2 => ?_⟩)
      · simp +decide (disch := omega) only [gl_e, iI_lit, iI_neg, iI_add, iI_sub, iI_mul, gk_t, b_some, bz0, bz1, pI_row, pI_snd, pA_row, pA_snd, pL_fst, pL_row, pB_fst, pB_row, upd_at, ↓reduceIte, Int.reduceToNat, Nat.reduceEqDiff, iI_lt, iI_le, iI_eq, iI_inb, iI_nat, iI_nz, g1, g2]
      · obtain ⟨r0, r1⟩ := g6 i hz2
        have e : m.2 26 (60 * s + i) = x.2 (15 + 2 * s) i := hm i (by omega)
        have r : ∃ a : Int, x.2 (15 + 2 * s) i = lL a ∧ lo ≤ a ∧ a ≤ hi ∧ -9223372036854775808 ≤ a ∧ a < 9223372036854775808 := by
          rcases hq with ⟨a1, a2, a3⟩ | ⟨a1, a2, a3⟩
          · obtain ⟨a, b1, b2, b3⟩ := r0 a1
            exact ⟨a, b1, by omega, by omega, by omega, by omega⟩
          · obtain ⟨a, b1, b2, b3⟩ := r1 a1
            exact ⟨a, b1, by omega, by omega, by omega, by omega⟩
        obtain ⟨a, b1, b2, b3, b4, b5⟩ := r
        have e3 : (x.2 (15 + 2 * s) i).toInt = a := by rw [b1, lL_toInt b4 b5]
        show lo ≤ (x.2 (15 + 2 * s) i).toInt ∧ (x.2 (15 + 2 * s) i).toInt ≤ hi ∧ x.2 (15 + 2 * s) i = lL (x.2 (15 + 2 * s) i).toInt ∧ m.2 26 (60 * s + i) = lL (x.2 (15 + 2 * s) i).toInt
        rw [e3, e, b1]
        exact ⟨b2, b3, rfl, rfl⟩
    · have c2 : ¬ (q : Int) = q0 := by omega
      refine Or.inr (Or.inl ⟨?_, ⟨q, g3, c, by omega⟩, 2, g1, by omega, by omega⟩)
      have hq3 : q0 ≤ 1 := by omega
      simp +decide (disch := omega) only [gl_e, iI_lit, iI_neg, iI_add, iI_sub, iI_mul, gk_t, b_some, bz0, bz1, pI_row, pI_snd, pA_row, pA_snd, pL_fst, pL_row, pB_fst, pB_row, upd_at, ↓reduceIte, Int.reduceToNat, Nat.reduceEqDiff, iI_lt, iI_le, iI_eq, iI_inb, iI_nat, iI_nz, g1, g2, c2]
theorem s_cell {x m : gS} {q s z : Nat} {lo hi : Int} {rw : Nat → Int} (h : rowB q lo hi s z rw x m) {j : Nat} (hj : j < z) : f_X5_cellAt x (14 + 2 * s) (iI j) = some (lL (rw j)) := by
  obtain ⟨h1, h2, h3, h4, h5, h6, h7⟩ := h
  have g7 : ¬ (j : Int) < 0 := by omega
  have g8 : ¬ (z : Int) ≤ j := by omega
  unfold f_X5_cellAt
  simp +decide (disch := omega) only [gl_e, iI_lit, iI_neg, iI_add, iI_sub, iI_mul, gk_t, b_some, bz0, bz1, pI_row, pI_snd, pA_row, pA_snd, pL_fst, pL_row, pB_fst, pB_row, upd_at, ↓reduceIte, Int.reduceToNat, Nat.reduceEqDiff, iI_lt, iI_le, iI_eq, iI_inb, iI_nat, iI_nz, h4, g7, g8, Int.toNat_natCast]
  rw [show 14 + 2 * s + 1 = 15 + 2 * s by omega, (h7 j hj).2.2.1]
theorem s_cellN {x m : gS} {q s z : Nat} {lo hi : Int} {rw : Nat → Int} (h : rowB q lo hi s z rw x m) {j : Int} (h1 : -2147483648 ≤ j) (h2 : j < 2147483648) (hj : ¬ (0 ≤ j ∧ j < z)) : f_X5_cellAt x (14 + 2 * s) (iI j) = some (lL 0) := by
  obtain ⟨k1, k2, k3, k4, h5, h6, h7⟩ := h
  unfold f_X5_cellAt
  by_cases c : j < 0
  · simp +decide (disch := omega) only [gl_e, iI_lit, iI_neg, iI_add, iI_sub, iI_mul, gk_t, b_some, bz0, bz1, pI_row, pI_snd, pA_row, pA_snd, pL_fst, pL_row, pB_fst, pB_row, upd_at, ↓reduceIte, Int.reduceToNat, Nat.reduceEqDiff, iI_lt, iI_le, iI_eq, iI_inb, iI_nat, iI_nz, k4, c]
  · have c2 : (z : Int) ≤ j := by omega
    simp +decide (disch := omega) only [gl_e, iI_lit, iI_neg, iI_add, iI_sub, iI_mul, gk_t, b_some, bz0, bz1, pI_row, pI_snd, pA_row, pA_snd, pL_fst, pL_row, pB_fst, pB_row, upd_at, ↓reduceIte, Int.reduceToNat, Nat.reduceEqDiff, iI_lt, iI_le, iI_eq, iI_inb, iI_nat, iI_nz, k4, c, c2]
theorem lL_add (a b : Int) : lL a + lL b = lL (a + b) := (Int64.ofInt_add a b).symm
theorem lL_mul (a b : Int) : lL a * lL b = lL (a * b) := (Int64.ofInt_mul a b).symm
theorem lL_32 (a : Int) : (lL a).toInt32 = iI a := by
  unfold lL iI
  simp
