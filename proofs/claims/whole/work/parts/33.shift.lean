/-! ===== comparing longs ===== -/
theorem lc_lt {a b : Int} (h1 : -9223372036854775808 ≤ a) (h2 : a < 9223372036854775808) (h3 : -9223372036854775808 ≤ b) (h4 : b < 9223372036854775808) : lg_cmp (lL a) (lL b) < iI 0 ↔ a < b := by
  rw [lc_i h1 h2 h3 h4, iI_lt (by split <;> (try split) <;> omega) (by split <;> (try split) <;> omega) (by omega) (by omega)]
  split <;> (try split) <;> omega
theorem lc_le {a b : Int} (h1 : -9223372036854775808 ≤ a) (h2 : a < 9223372036854775808) (h3 : -9223372036854775808 ≤ b) (h4 : b < 9223372036854775808) : lg_cmp (lL a) (lL b) ≤ iI 0 ↔ a ≤ b := by
  rw [lc_i h1 h2 h3 h4, iI_le (by split <;> (try split) <;> omega) (by split <;> (try split) <;> omega) (by omega) (by omega)]
  split <;> (try split) <;> omega
theorem lc_gt {a b : Int} (h1 : -9223372036854775808 ≤ a) (h2 : a < 9223372036854775808) (h3 : -9223372036854775808 ≤ b) (h4 : b < 9223372036854775808) : iI 0 < lg_cmp (lL a) (lL b) ↔ b < a := by
  rw [lc_i h1 h2 h3 h4, iI_lt (by omega) (by omega) (by split <;> (try split) <;> omega) (by split <;> (try split) <;> omega)]
  split <;> (try split) <;> omega
theorem lc_ge {a b : Int} (h1 : -9223372036854775808 ≤ a) (h2 : a < 9223372036854775808) (h3 : -9223372036854775808 ≤ b) (h4 : b < 9223372036854775808) : iI 0 ≤ lg_cmp (lL a) (lL b) ↔ b ≤ a := by
  rw [lc_i h1 h2 h3 h4, iI_le (by omega) (by omega) (by split <;> (try split) <;> omega) (by split <;> (try split) <;> omega)]
  split <;> (try split) <;> omega
theorem lc_eq {a b : Int} (h1 : -9223372036854775808 ≤ a) (h2 : a < 9223372036854775808) (h3 : -9223372036854775808 ≤ b) (h4 : b < 9223372036854775808) : lg_cmp (lL a) (lL b) = iI 0 ↔ a = b := by
  rw [lc_i h1 h2 h3 h4, iI_eq (by split <;> (try split) <;> omega) (by split <;> (try split) <;> omega) (by omega) (by omega)]
  split <;> (try split) <;> omega
/-! ===== posts ===== -/
theorem rowB_ad {q s z : Nat} {lo hi : Int} {rw : Nat → Int} {x m : gS} (h : rowB q lo hi s z rw x m) (n : Nat) (a b c : Int32) : rowB q lo hi s z rw (adX x n a b c) (adM m n a b c) := by
  obtain ⟨h1, h2, h3, h4, h5, h6, h7⟩ := h
  have e : (adX x n a b c).1 (14 + 2 * s) = x.1 (14 + 2 * s) := by
    unfold adX
    simp +decide (maxSteps := 2000000) (disch := omega) only [pI_off]
  refine ⟨h1, ?_, ?_, ?_, h5, h6, h7⟩ <;> rw [e] <;> assumption
theorem w_posts (L : LawT) {s z N : Nat} {st : Int} {rw : Nat → Int} (hs : s < 6) (hN : N ≤ 9) (st1 : -2147483648 ≤ st) (st2 : st < 2147483648) : ∀ (r k f n nb : Nat) (x m : gS), k + r = N → r ≤ f → Rel0 n nb x m → L (x.1 7 6) (x.1 10) (m.1 0 8) (m.1 0 9) (m.1 7) (m.1 8) (m.1 9) (m.1 10) → rowB 0 (-128) 127 s z rw x m → ∃ (v : Int32) (x2 m2 : gS), f_X9_addPostsFrom_3 (14 + 2 * s) (f + 1) (iI st) (iI N) (iI k) x = some (v, x2) ∧ f_X10_posts_49 (f + 1) (iI s) (iI st) (iI N) (iI k) (iI k) m = some (v, m2) ∧ Rel1 L x2 m2 := by
  intro r
  induction r with
  | zero =>
    intro k f n nb x m hk hf h0 hL hB
    have g : N ≤ k := by omega
    have ek : k = N := by omega
    subst ek
    unfold f_X9_addPostsFrom_3 f_X10_posts_49
    simp +decide (maxSteps := 2000000) (disch := omega) only [gl_e, iI_lit, iI_neg, iI_add, iI_sub, iI_mul, gk_t, b_some, bz0, bz1, pI_row, pI_snd, pA_row, pA_snd, pL_fst, pL_row, pB_fst, pB_row, upd_at, ↓reduceIte, Int.reduceToNat, Nat.reduceEqDiff, iI_lt, iI_le, iI_eq, iI_inb, iI_nat, iI_nz, Int.le_refl]
    exact ⟨_, _, _, rfl, rfl, ⟨n, nb, h0⟩, hL⟩
  | succ r ih =>
    intro k f n nb x m hk hf h0 hL hB
    obtain ⟨f2, rfl⟩ : ∃ f2, f = f2 + 1 := ⟨f - 1, by omega⟩
    obtain ⟨hz, b1, b2, b3, b4, b5, b6⟩ := id hB
    have hR : Rel1 L x m := ⟨⟨n, nb, h0⟩, hL⟩
    have hP := h0.1
    have hn := hP.1
    have g : ¬ (N : Int) ≤ k := by omega
    unfold f_X9_addPostsFrom_3 f_X10_posts_49
    simp +decide (maxSteps := 2000000) (disch := omega) only [gl_e, iI_lit, iI_neg, iI_add, iI_sub, iI_mul, gk_t, b_some, bz0, bz1, pI_row, pI_snd, pA_row, pA_snd, pL_fst, pL_row, pB_fst, pB_row, upd_at, ↓reduceIte, Int.reduceToNat, Nat.reduceEqDiff, iI_lt, iI_le, iI_eq, iI_inb, iI_nat, iI_nz, g, lL_i, lL_lit, lL_add, lL_mul, lc_lt, lc_ge, lc_gt, b3, b5, Int.toNat_natCast, hP.2.1, hP.2.2.1, lL_32]
    by_cases c1 : st + 3 * (k : Int) < 0
    · simp only [c1, ↓reduceIte]
      exact ⟨_, _, _, rfl, rfl, hR⟩
    · by_cases c2 : (z : Int) ≤ st + 3 * (k : Int) + 2
      · have c3 : (z : Int) < st + 3 * (k : Int) + 3 := by omega
        simp only [c1, c2, c3, ↓reduceIte]
        exact ⟨_, _, _, rfl, rfl, hR⟩
      · have c3 : ¬ (z : Int) < st + 3 * (k : Int) + 3 := by omega
        by_cases c4 : n < 9
        · have c5 : (n : Int) < 9 := by omega
          have c6 : ¬ (n : Int) = 9 := by omega
          simp only [c1, c2, c3, c5, c6, ↓reduceIte]
          obtain ⟨j, hj⟩ : ∃ j : Nat, st + 3 * (k : Int) = j := ⟨(st + 3 * (k : Int)).toNat, by omega⟩
          have j1 : j < z := by omega
          have j2 : j + 1 < z := by omega
          have j3 : j + 2 < z := by omega
          have z1 : (j : Int) + 1 = ((j + 1 : Nat) : Int) := by omega
          have z2 : (j : Int) + 2 = ((j + 2 : Nat) : Int) := by omega
          rw [hj, z1, z2, s_cell hB j1, s_cell hB j2, s_cell hB j3]
          have t0 : (60 * (s : Int) + (j : Int)).toNat = 60 * s + j := by omega
          have t1 : (60 * (s : Int) + (j : Int) + 1).toNat = 60 * s + (j + 1) := by omega
          have t2 : (60 * (s : Int) + (j : Int) + 2).toNat = 60 * s + (j + 2) := by omega
          obtain ⟨q1, q2, -, q3⟩ := b6 j j1
          obtain ⟨r1, r2, -, r3⟩ := b6 (j + 1) j2
          obtain ⟨u1, u2, -, u3⟩ := b6 (j + 2) j3
          simp +decide (maxSteps := 2000000) (disch := omega) only [gl_e, iI_lit, iI_neg, iI_add, iI_sub, iI_mul, gk_t, b_some, bz0, bz1, pI_row, pI_snd, pA_row, pA_snd, pL_fst, pL_row, pB_fst, pB_row, upd_at, ↓reduceIte, Int.reduceToNat, Nat.reduceEqDiff, iI_lt, iI_le, iI_eq, iI_inb, iI_nat, iI_nz, lL_32, t0, t1, t2, q3, r3, u3, s_wi, bI_0]
          have f0 := s_fits x (by decide : 0 ≤ 7) (v := rw j) (by omega) (by omega)
          have f1 := s_fits x (by decide : 1 ≤ 7) (v := rw (j + 1)) (by omega) (by omega)
          have f2' := s_fits x (by decide : 2 ≤ 7) (v := rw (j + 2)) (by omega) (by omega)
          have lh0 : loW 0 = 0 ∧ hiW 0 = 15 ∧ loW 1 = 0 ∧ hiW 1 = 15 ∧ loW 2 = 0 ∧ hiW 2 = 9 := by decide
          rw [lh0.1, lh0.2.1] at f0
          rw [lh0.2.2.1, lh0.2.2.2.1] at f1
          rw [lh0.2.2.2.2.1, lh0.2.2.2.2.2] at f2'
          rw [show iI 0 = iI ((0 : Nat) : Int) from rfl, show iI 1 = iI ((1 : Nat) : Int) from rfl, show iI 2 = iI ((2 : Nat) : Int) from rfl, f0, f1, f2']
          simp only [b_some, show iI ((0 : Nat) : Int) = iI 0 from rfl, show iI ((1 : Nat) : Int) = iI 1 from rfl, bI_0]
          by_cases d0 : 0 ≤ rw j ∧ rw j ≤ 15
          · by_cases d1 : 0 ≤ rw (j + 1) ∧ rw (j + 1) ≤ 15
            · by_cases d2 : 0 ≤ rw (j + 2) ∧ rw (j + 2) ≤ 9
              · simp only [d0, d1, d2, and_self, not_true_eq_false, ↓reduceIte]
                rw [s_adX c4 hP.2.1, s_adM c4 hP.2.2.1]
                simp only [b_some]
                rw [show (k : Int) + 1 = ((k + 1 : Nat) : Int) by omega]
                exact ih (k + 1) f2 (n + 1) nb _ _ (by omega) (by omega) (Rel1_ad (L := L) c4 h0 hL d0.1 d0.2 d1.1 d1.2 d2.1 d2.2) hL (rowB_ad hB n _ _ _)
              · simp only [d0, d1, d2, and_self, not_true_eq_false, not_false_eq_true, ↓reduceIte]
                exact ⟨_, _, _, rfl, rfl, hR⟩
            · simp only [d0, d1, and_self, not_true_eq_false, not_false_eq_true, ↓reduceIte]
              exact ⟨_, _, _, rfl, rfl, hR⟩
          · simp only [d0, not_false_eq_true, ↓reduceIte]
            exact ⟨_, _, _, rfl, rfl, hR⟩
        · have c5 : ¬ (n : Int) < 9 := by omega
          have c6 : (n : Int) = 9 := by omega
          simp only [c1, c2, c3, c5, c6, ↓reduceIte]
          exact ⟨_, _, _, rfl, rfl, hR⟩
theorem e_posts (L : LawT) : EQ_posts (Rel1 L) := by
  intro x m a1 a2 a3 hR
  obtain ⟨s, rfl, hs1, hs2⟩ := iI_of a1
  obtain ⟨i, rfl, hi1, hi2⟩ := iI_of a2
  obtain ⟨c, rfl, hc1, hc2⟩ := iI_of a3
  obtain ⟨⟨n, nb, h0⟩, hL⟩ := id hR
  have hS := h0.2.2.2.2.2.2
  have hnb := h0.2.2.2.2.2.1.1
  unfold f_X9_posts f_X10_posts f_X9_addPostsFrom
  simp +decide (maxSteps := 2000000) (disch := omega) only [gl_e, iI_lit, iI_neg, iI_add, iI_sub, iI_mul, gk_t, b_some, bz0, bz1, pI_row, pI_snd, pA_row, pA_snd, pL_fst, pL_row, pB_fst, pB_row, upd_at, ↓reduceIte, Int.reduceToNat, Nat.reduceEqDiff, iI_lt, iI_le, iI_eq, iI_inb, iI_nat, iI_nz, s_shX, s_shM, bI_0, s_wi]
  by_cases c1 : 0 ≤ s ∧ s ≤ 5
  · by_cases c2 : 1 ≤ c ∧ c ≤ 9
    · obtain ⟨k, hk, rfl⟩ : ∃ k : Nat, k < 6 ∧ s = (k : Int) := ⟨s.toNat, by omega, by omega⟩
      obtain ⟨N, hN, rfl⟩ : ∃ N : Nat, N ≤ 9 ∧ c = (N : Int) := ⟨c.toNat, by omega, by omega⟩
      have c3 : ¬ (N : Int) < 1 := by omega
      have c4 : (N : Int) ≤ 9 := by omega
      simp only [c1, c2, c3, c4, not_true_eq_false, ↓reduceIte, and_self]
      simp +decide (maxSteps := 2000000) (disch := omega) only [s_shAt, Int.toNat_natCast, iI_lt, iI_le, iI_eq, iI_inb, iI_nat, iI_nz, gk_t]
      rcases s_ref hk hnb hS (q0 := 0) (Or.inl ⟨rfl, rfl, rfl⟩) with ⟨r1, r2, r3⟩ | ⟨r1, ⟨h, r2, r3, r4⟩, -⟩ | ⟨r1, z, rw, hB⟩
      · simp only [show f_X5_refusalFor x (14 + 2 * k) (iI 0) = _ from r1, r2]
        simp +decide (maxSteps := 2000000) (disch := omega) only [gl_e, iI_lit, iI_neg, iI_add, iI_sub, iI_mul, gk_t, b_some, bz0, bz1, pI_row, pI_snd, pA_row, pA_snd, pL_fst, pL_row, pB_fst, pB_row, upd_at, ↓reduceIte, Int.reduceToNat, Nat.reduceEqDiff, iI_lt, iI_le, iI_eq, iI_inb, iI_nat, iI_nz]
        exact ⟨_, _, _, rfl, rfl, hR⟩
      · have d1 : ¬ (h : Int) = -1 := by omega
        have d2 : ¬ (h : Int) = 0 := by omega
        simp only [show f_X5_refusalFor x (14 + 2 * k) (iI 0) = _ from r1, r2]
        simp +decide (maxSteps := 2000000) (disch := omega) only [gl_e, iI_lit, iI_neg, iI_add, iI_sub, iI_mul, gk_t, b_some, bz0, bz1, pI_row, pI_snd, pA_row, pA_snd, pL_fst, pL_row, pB_fst, pB_row, upd_at, ↓reduceIte, Int.reduceToNat, Nat.reduceEqDiff, iI_lt, iI_le, iI_eq, iI_inb, iI_nat, iI_nz, d1, d2]
        exact ⟨_, _, _, rfl, rfl, hR⟩
      · simp only [show f_X5_refusalFor x (14 + 2 * k) (iI 0) = _ from r1, show m.1 24 k = iI 0 from hB.2.2.2.2.1]
        obtain ⟨v, x2, m2, w1, w2, w3⟩ := w_posts L hk hN hi1 hi2 N 0 999999 n nb x m (by omega) (by omega) h0 hL hB
        rw [show f_X9_addPostsFrom_3 (14 + 2 * k) gN (iI i) (iI N) (iI 0) x = _ from w1, show f_X10_posts_49 gN (iI k) (iI i) (iI N) (iI 0) (iI 0) m = _ from w2]
        simp +decide (maxSteps := 2000000) (disch := omega) only [gl_e, iI_lit, iI_neg, iI_add, iI_sub, iI_mul, gk_t, b_some, bz0, bz1, pI_row, pI_snd, pA_row, pA_snd, pL_fst, pL_row, pB_fst, pB_row, upd_at, ↓reduceIte, Int.reduceToNat, Nat.reduceEqDiff, iI_lt, iI_le, iI_eq, iI_inb, iI_nat, iI_nz]
        exact ⟨_, _, _, rfl, rfl, w3⟩
    · by_cases c3 : c < 1
      · simp only [c1, c2, c3, not_true_eq_false, not_false_eq_true, and_self, ↓reduceIte]
        exact ⟨_, _, _, rfl, rfl, hR⟩
      · have c4 : ¬ c ≤ 9 := by omega
        simp only [c1, c3, c4, not_true_eq_false, not_false_eq_true, and_self, and_false, ↓reduceIte]
        exact ⟨_, _, _, rfl, rfl, hR⟩
  · simp only [c1, not_false_eq_true, ↓reduceIte]
    exact ⟨_, _, _, rfl, rfl, hR⟩
