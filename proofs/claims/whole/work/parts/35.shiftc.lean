theorem e_shift (L : LawT) : EQ_shift (Rel1 L) := by
  intro x m a1 a2 a3 a4 a5 hR
  obtain ⟨s', rfl, hs1, hs2⟩ := iI_of a1
  obtain ⟨i', rfl, hi1, hi2⟩ := iI_of a2
  obtain ⟨o', rfl, ho1, ho2⟩ := iI_of a3
  obtain ⟨j', rfl, hj1, hj2⟩ := iI_of a4
  obtain ⟨n', rfl, hn1, hn2⟩ := iI_of a5
  obtain ⟨⟨n, nb, h0⟩, hL⟩ := id hR
  have hS := h0.2.2.2.2.2.2
  have hnb := h0.2.2.2.2.2.1.1
  unfold f_X9_shift f_X10_shift
  rw [s_shX x hs1 hs2, s_shM m hs1 hs2, s_shX x ho1 ho2, s_shM m ho1 ho2]
  by_cases c1 : 0 ≤ s' ∧ s' ≤ 5
  rotate_left
  · simp +decide (maxSteps := 2000000) (disch := omega) only [↓gl_p, ↓bs_p, iI_lit, iI_neg, iI_add, iI_sub, iI_mul, gk_p, bs_p, bz0, bz1, pI_row, pI_snd, pA_row, pA_snd, pL_fst, pL_row, pB_fst, pB_row, upd_at, ↓reduceIte, Int.reduceToNat, Nat.reduceEqDiff, iI_lt, iI_le, iI_eq, iI_inb, iI_nat, iI_nz, bI_0, c1, not_false_eq_true]
    exact ⟨_, _, _, rfl, rfl, hR⟩
  by_cases c2 : 0 ≤ o' ∧ o' ≤ 5
  rotate_left
  · simp +decide (maxSteps := 2000000) (disch := omega) only [↓gl_p, ↓bs_p, iI_lit, iI_neg, iI_add, iI_sub, iI_mul, gk_p, bs_p, bz0, bz1, pI_row, pI_snd, pA_row, pA_snd, pL_fst, pL_row, pB_fst, pB_row, upd_at, ↓reduceIte, Int.reduceToNat, Nat.reduceEqDiff, iI_lt, iI_le, iI_eq, iI_inb, iI_nat, iI_nz, bI_0, c1, c2, and_self, not_true_eq_false, not_false_eq_true]
    exact ⟨_, _, _, rfl, rfl, hR⟩
  obtain ⟨s, hs, rfl⟩ : ∃ k : Nat, k < 6 ∧ s' = (k : Int) := ⟨s'.toNat, by omega, by omega⟩
  obtain ⟨o, ho, rfl⟩ : ∃ k : Nat, k < 6 ∧ o' = (k : Int) := ⟨o'.toNat, by omega, by omega⟩
  have es : ((s : Int)).toNat = s := by omega
  have eo : ((o : Int)).toNat = o := by omega
  have as := fun (A : Nat → Option (Int32 × gS)) => s_shAt (A := A) c1.1 c1.2
  have ao := fun (A : Nat → Option (Int32 × gS)) => s_shAt (A := A) c2.1 c2.2
  simp only [as, ao, es, eo]
  obtain ⟨hcs, hms⟩ := id (hS s hs)
  obtain ⟨hco, hmo⟩ := id (hS o ho)
  rcases hcs with ⟨g1, g2, g3, g4⟩ | ⟨b, hb, g1, g2, g3, g4, g5⟩ | ⟨q, z, hq, hz, g1, g2, g3, g4, g5, g6⟩
  · simp +decide (maxSteps := 2000000) (disch := omega) only [↓gl_p, ↓bs_p, iI_lit, iI_neg, iI_add, iI_sub, iI_mul, gk_p, bs_p, bz0, bz1, pI_row, pI_snd, pA_row, pA_snd, pL_fst, pL_row, pB_fst, pB_row, upd_at, ↓reduceIte, Int.reduceToNat, Nat.reduceEqDiff, iI_lt, iI_le, iI_eq, iI_inb, iI_nat, iI_nz, bI_0, c1, c2, and_self, not_true_eq_false, Int.toNat_natCast, g1, g2]
    exact ⟨_, _, _, rfl, rfl, hR⟩
  · have d1 : ¬ (10 : Int) + b = -1 := by omega
    have d2 : ¬ (0 ≤ (10 : Int) + b ∧ (10 : Int) + b ≤ 4) := by omega
    rw [s_isRow hs g3 (by omega) (by omega)]
    rcases hco with ⟨k1, k2, k3, k4⟩ | ⟨b', hb', k1, k2, k3, k4, k5⟩ | ⟨q', z', hq', hz', k1, k2, k3, k4, k5, k6⟩
    · simp +decide (maxSteps := 2000000) (disch := omega) only [↓gl_p, ↓bs_p, iI_lit, iI_neg, iI_add, iI_sub, iI_mul, gk_p, bs_p, bz0, bz1, pI_row, pI_snd, pA_row, pA_snd, pL_fst, pL_row, pB_fst, pB_row, upd_at, ↓reduceIte, Int.reduceToNat, Nat.reduceEqDiff, iI_lt, iI_le, iI_eq, iI_inb, iI_nat, iI_nz, bI_0, c1, c2, and_self, not_true_eq_false, Int.toNat_natCast, g1, g3, d1, k1, k2]
      exact ⟨_, _, _, rfl, rfl, hR⟩
    · have d3 : ¬ (10 : Int) + b' = -1 := by omega
      simp +decide (maxSteps := 2000000) (disch := omega) only [↓gl_p, ↓bs_p, iI_lit, iI_neg, iI_add, iI_sub, iI_mul, gk_p, bs_p, bz0, bz1, pI_row, pI_snd, pA_row, pA_snd, pL_fst, pL_row, pB_fst, pB_row, upd_at, ↓reduceIte, Int.reduceToNat, Nat.reduceEqDiff, iI_lt, iI_le, iI_eq, iI_inb, iI_nat, iI_nz, bI_0, c1, c2, and_self, not_true_eq_false, Int.toNat_natCast, g1, g3, d1, d2, d3, k1, k3, not_false_eq_true]
      exact ⟨_, _, _, rfl, rfl, hR⟩
    · have d3 : ¬ (q' : Int) = -1 := by omega
      simp +decide (maxSteps := 2000000) (disch := omega) only [↓gl_p, ↓bs_p, iI_lit, iI_neg, iI_add, iI_sub, iI_mul, gk_p, bs_p, bz0, bz1, pI_row, pI_snd, pA_row, pA_snd, pL_fst, pL_row, pB_fst, pB_row, upd_at, ↓reduceIte, Int.reduceToNat, Nat.reduceEqDiff, iI_lt, iI_le, iI_eq, iI_inb, iI_nat, iI_nz, bI_0, c1, c2, and_self, not_true_eq_false, Int.toNat_natCast, g1, g3, d1, d2, d3, k1, k3, not_false_eq_true]
      exact ⟨_, _, _, rfl, rfl, hR⟩
  · have d1 : ¬ (q : Int) = -1 := by omega
    have d2 : (0 ≤ (q : Int) ∧ (q : Int) ≤ 4) := by omega
    rw [s_isRow hs g3 (by omega) (by omega)]
    rcases hco with ⟨k1, k2, k3, k4⟩ | ⟨b', hb', k1, k2, k3, k4, k5⟩ | ⟨q', z', hq', hz', k1, k2, k3, k4, k5, k6⟩
    · simp +decide (maxSteps := 2000000) (disch := omega) only [↓gl_p, ↓bs_p, iI_lit, iI_neg, iI_add, iI_sub, iI_mul, gk_p, bs_p, bz0, bz1, pI_row, pI_snd, pA_row, pA_snd, pL_fst, pL_row, pB_fst, pB_row, upd_at, ↓reduceIte, Int.reduceToNat, Nat.reduceEqDiff, iI_lt, iI_le, iI_eq, iI_inb, iI_nat, iI_nz, bI_0, c1, c2, and_self, not_true_eq_false, Int.toNat_natCast, g1, g3, d1, k1, k2]
      exact ⟨_, _, _, rfl, rfl, hR⟩
    · have d3 : ¬ (10 : Int) + b' = -1 := by omega
      have d4 : ¬ (0 ≤ (10 : Int) + b' ∧ (10 : Int) + b' ≤ 4) := by omega
      rw [s_isRow ho k3 (by omega) (by omega)]
      simp +decide (maxSteps := 2000000) (disch := omega) only [↓gl_p, ↓bs_p, iI_lit, iI_neg, iI_add, iI_sub, iI_mul, gk_p, bs_p, bz0, bz1, pI_row, pI_snd, pA_row, pA_snd, pL_fst, pL_row, pB_fst, pB_row, upd_at, ↓reduceIte, Int.reduceToNat, Nat.reduceEqDiff, iI_lt, iI_le, iI_eq, iI_inb, iI_nat, iI_nz, bI_0, c1, c2, and_self, not_true_eq_false, Int.toNat_natCast, g1, g3, d1, d2, d3, d4, k1, k3, not_false_eq_true]
      exact ⟨_, _, _, rfl, rfl, hR⟩
    · have d3 : ¬ (q' : Int) = -1 := by omega
      have d4 : (0 ≤ (q' : Int) ∧ (q' : Int) ≤ 4) := by omega
      rw [s_isRow ho k3 (by omega) (by omega)]
      by_cases eq : q = q'
      rotate_left
      · have d5 : ¬ (q : Int) = q' := by omega
        simp +decide (maxSteps := 2000000) (disch := omega) only [↓gl_p, ↓bs_p, iI_lit, iI_neg, iI_add, iI_sub, iI_mul, gk_p, bs_p, bz0, bz1, pI_row, pI_snd, pA_row, pA_snd, pL_fst, pL_row, pB_fst, pB_row, upd_at, ↓reduceIte, Int.reduceToNat, Nat.reduceEqDiff, iI_lt, iI_le, iI_eq, iI_inb, iI_nat, iI_nz, bI_0, c1, c2, and_self, not_true_eq_false, Int.toNat_natCast, g1, g2, g3, d1, d2, d3, d4, d5, k1, k2, k3]
        exact ⟨_, _, _, rfl, rfl, hR⟩
      subst eq
      rw [s_hasP hz g4 hi1 hi2 hn1 hn2, s_hasP hz' k4 hj1 hj2 hn1 hn2]
      by_cases p1 : n' < 0
      · have p2 : ¬ (0 ≤ i' ∧ 0 ≤ n' ∧ i' ≤ z ∧ n' ≤ (z : Int) - i') := by omega
        simp +decide (maxSteps := 2000000) (disch := omega) only [↓gl_p, ↓bs_p, iI_lit, iI_neg, iI_add, iI_sub, iI_mul, gk_p, bs_p, bz0, bz1, pI_row, pI_snd, pA_row, pA_snd, pL_fst, pL_row, pB_fst, pB_row, upd_at, ↓reduceIte, Int.reduceToNat, Nat.reduceEqDiff, iI_lt, iI_le, iI_eq, iI_inb, iI_nat, iI_nz, bI_0, c1, c2, and_self, not_true_eq_false, Int.toNat_natCast, g1, g2, g3, g5, d1, d2, d3, d4, k1, k2, k3, k5, lL_i, lL_add, lc_gt, lc_le, p1, p2, not_false_eq_true, and_false, false_and]
        exact ⟨_, _, _, rfl, rfl, hR⟩
      by_cases p3 : i' < 0
      · have p2 : ¬ (0 ≤ i' ∧ 0 ≤ n' ∧ i' ≤ z ∧ n' ≤ (z : Int) - i') := by omega
        simp +decide (maxSteps := 2000000) (disch := omega) only [↓gl_p, ↓bs_p, iI_lit, iI_neg, iI_add, iI_sub, iI_mul, gk_p, bs_p, bz0, bz1, pI_row, pI_snd, pA_row, pA_snd, pL_fst, pL_row, pB_fst, pB_row, upd_at, ↓reduceIte, Int.reduceToNat, Nat.reduceEqDiff, iI_lt, iI_le, iI_eq, iI_inb, iI_nat, iI_nz, bI_0, c1, c2, and_self, not_true_eq_false, Int.toNat_natCast, g1, g2, g3, g5, d1, d2, d3, d4, k1, k2, k3, k5, lL_i, lL_add, lc_gt, lc_le, p1, p3, p2, not_false_eq_true, and_false, false_and]
        exact ⟨_, _, _, rfl, rfl, hR⟩
      by_cases p5 : j' < 0
      · have p6 : ¬ (0 ≤ j' ∧ 0 ≤ n' ∧ j' ≤ z' ∧ n' ≤ (z' : Int) - j') := by omega
        by_cases p4 : (z : Int) < i' + n'
        · have p2 : ¬ (0 ≤ i' ∧ 0 ≤ n' ∧ i' ≤ z ∧ n' ≤ (z : Int) - i') := by omega
          simp +decide (maxSteps := 2000000) (disch := omega) only [↓gl_p, ↓bs_p, iI_lit, iI_neg, iI_add, iI_sub, iI_mul, gk_p, bs_p, bz0, bz1, pI_row, pI_snd, pA_row, pA_snd, pL_fst, pL_row, pB_fst, pB_row, upd_at, ↓reduceIte, Int.reduceToNat, Nat.reduceEqDiff, iI_lt, iI_le, iI_eq, iI_inb, iI_nat, iI_nz, bI_0, c1, c2, and_self, not_true_eq_false, Int.toNat_natCast, g1, g2, g3, g5, d1, d2, d3, d4, k1, k2, k3, k5, lL_i, lL_add, lc_gt, lc_le, p1, p3, p4, p5, p2, not_false_eq_true, and_false, false_and]
          exact ⟨_, _, _, rfl, rfl, hR⟩
        · have p2 : 0 ≤ i' ∧ 0 ≤ n' ∧ i' ≤ z ∧ n' ≤ (z : Int) - i' := by omega
          simp +decide (maxSteps := 2000000) (disch := omega) only [↓gl_p, ↓bs_p, iI_lit, iI_neg, iI_add, iI_sub, iI_mul, gk_p, bs_p, bz0, bz1, pI_row, pI_snd, pA_row, pA_snd, pL_fst, pL_row, pB_fst, pB_row, upd_at, ↓reduceIte, Int.reduceToNat, Nat.reduceEqDiff, iI_lt, iI_le, iI_eq, iI_inb, iI_nat, iI_nz, bI_0, c1, c2, and_self, not_true_eq_false, Int.toNat_natCast, g1, g2, g3, g5, d1, d2, d3, d4, k1, k2, k3, k5, lL_i, lL_add, lc_gt, lc_le, p1, p3, p4, p5, p2, not_false_eq_true, and_false, false_and]
          exact ⟨_, _, _, if_pos (by simp only [true_and]; omega), rfl, hR⟩
      by_cases p4 : (z : Int) < i' + n'
      · have p2 : ¬ (0 ≤ i' ∧ 0 ≤ n' ∧ i' ≤ z ∧ n' ≤ (z : Int) - i') := by omega
        simp +decide (maxSteps := 2000000) (disch := omega) only [↓gl_p, ↓bs_p, iI_lit, iI_neg, iI_add, iI_sub, iI_mul, gk_p, bs_p, bz0, bz1, pI_row, pI_snd, pA_row, pA_snd, pL_fst, pL_row, pB_fst, pB_row, upd_at, ↓reduceIte, Int.reduceToNat, Nat.reduceEqDiff, iI_lt, iI_le, iI_eq, iI_inb, iI_nat, iI_nz, bI_0, c1, c2, and_self, not_true_eq_false, Int.toNat_natCast, g1, g2, g3, g5, d1, d2, d3, d4, k1, k2, k3, k5, lL_i, lL_add, lc_gt, lc_le, p1, p3, p4, p5, p2, not_false_eq_true, and_false, false_and]
        exact ⟨_, _, _, rfl, rfl, hR⟩
      have p2 : 0 ≤ i' ∧ 0 ≤ n' ∧ i' ≤ z ∧ n' ≤ (z : Int) - i' := by omega
      by_cases p7 : j' + n' ≤ (z' : Int)
      rotate_left
      · have p6 : ¬ (0 ≤ j' ∧ 0 ≤ n' ∧ j' ≤ z' ∧ n' ≤ (z' : Int) - j') := by omega
        simp +decide (maxSteps := 2000000) (disch := omega) only [↓gl_p, ↓bs_p, iI_lit, iI_neg, iI_add, iI_sub, iI_mul, gk_p, bs_p, bz0, bz1, pI_row, pI_snd, pA_row, pA_snd, pL_fst, pL_row, pB_fst, pB_row, upd_at, ↓reduceIte, Int.reduceToNat, Nat.reduceEqDiff, iI_lt, iI_le, iI_eq, iI_inb, iI_nat, iI_nz, bI_0, c1, c2, and_self, not_true_eq_false, Int.toNat_natCast, g1, g2, g3, g5, d1, d2, d3, d4, k1, k2, k3, k5, lL_i, lL_add, lc_gt, lc_le, p1, p3, p4, p5, p7, p2, not_false_eq_true, and_false, false_and]
        exact ⟨_, _, _, if_pos (by simp only [true_and]; omega), rfl, hR⟩
      have p6 : 0 ≤ j' ∧ 0 ≤ n' ∧ j' ≤ z' ∧ n' ≤ (z' : Int) - j' := by omega
      simp +decide (maxSteps := 2000000) (disch := omega) only [↓gl_p, ↓bs_p, iI_lit, iI_neg, iI_add, iI_sub, iI_mul, gk_p, bs_p, bz0, bz1, pI_row, pI_snd, pA_row, pA_snd, pL_fst, pL_row, pB_fst, pB_row, upd_at, ↓reduceIte, Int.reduceToNat, Nat.reduceEqDiff, iI_lt, iI_le, iI_eq, iI_inb, iI_nat, iI_nz, bI_0, c1, c2, and_self, not_true_eq_false, Int.toNat_natCast, g1, g2, g3, g5, d1, d2, d3, d4, k1, k2, k3, k5, lL_i, lL_add, lc_gt, lc_le, p1, p3, p4, p5, p6, p7, p2]
      obtain ⟨i, rfl⟩ : ∃ k : Nat, i' = (k : Int) := ⟨i'.toNat, by omega⟩
      obtain ⟨j, rfl⟩ : ∃ k : Nat, j' = (k : Int) := ⟨j'.toNat, by omega⟩
      obtain ⟨N, rfl⟩ : ∃ k : Nat, n' = (k : Int) := ⟨n'.toNat, by omega⟩
      have hiN : i + N ≤ z := by omega
      have hjN : j + N ≤ z' := by omega
      rw [s_cpok (by omega) (by omega)]
      simp +decide (maxSteps := 2000000) (disch := omega) only [gk_t, Int.toNat_natCast]
      have key : (if (s : Int) = o then (if (j : Int) ≤ i then f_X10_shift_188 gN (iI s) (iI i) (iI o) (iI j) (iI N) (iI 0) m else f_X10_shift_142 gN (iI s) (iI i) (iI o) (iI j) (iI N) (iI ((N : Int) - 1)) m) else f_X10_shift_188 gN (iI s) (iI i) (iI o) (iI j) (iI N) (iI 0) m) = some (iI N, pB m 26 (va_cpy (m.2 26) (m.2 26) (60 * s + i) (60 * o + j) N)) := by
        have up := fun hd => w_sh188 (R := m.2 26) hs ho (i := i) (j := j) (n := N) (by omega) (by omega) hd N 0 999999 m (by omega) (by omega) (va0 _ _ _).symm
        by_cases e1 : s = o
        · subst e1
          rw [if_pos rfl]
          by_cases e2 : j ≤ i
          · rw [if_pos (by omega)]
            exact up (Or.inr e2)
          · rw [if_neg (by omega)]
            refine w_sh142 (R := m.2 26) hs (by omega) (by omega) (by omega) N 999999 m (Nat.le_refl _) (by omega) ?_
            rw [Nat.sub_self]
            exact (va0 _ _ _).symm
        · rw [if_neg (by omega)]
          exact up (Or.inl e1)
      rw [key]
      refine ⟨_, _, _, rfl, rfl, Rel1_sh hR (fun c hc => rfl) (fun c hc => rfl) (fun n2 nb2 hh => ?_)⟩
      have hS2 := hh.2.2.2.2.2.2
      refine RSs_put ho hS2 (fun c h1 h2 h3 => rfl) (fun c h1 h2 h3 => ?_) (fun j2 hj2 => rfl) (fun j2 hj2 => rfl) (fun j2 hj2 i2 hi2 => ?_) ⟨?_, fun i2 hi2 => ?_⟩
      · rw [pB_row, if_neg (by omega)]
      · rw [pB_row, if_pos rfl]
        exact pk_cpy_out (by omega)
      · refine Or.inr (Or.inr ⟨q, z', hq, hz', k1, k2, k3, k4, k5, fun i2 hi2 => ?_⟩)
        rw [pB_row, if_pos (by omega)]
        by_cases cc : j ≤ i2 ∧ i2 < j + N
        · rw [pk_cpy_in cc.1 cc.2, show 14 + 2 * s + 1 = 15 + 2 * s by omega]
          exact g6 _ (by omega)
        · rw [pk_cpy_out (by omega), show 14 + 2 * o + 1 = 15 + 2 * o by omega]
          exact k6 i2 hi2
      · rw [pB_row, pB_row, if_pos rfl, if_pos (by omega)]
        show va_cpy (m.2 26) (m.2 26) (60 * s + i) (60 * o + j) N (60 * o + i2) = va_cpy (x.2 (14 + 2 * s + 1)) (x.2 (14 + 2 * o + 1)) i j N i2
        by_cases cc : j ≤ i2 ∧ i2 < j + N
        · rw [pk_cpy_in cc.1 cc.2, pk_cpy_in (by omega) (by omega), show 14 + 2 * s + 1 = 15 + 2 * s by omega, ← hms (i + (i2 - j)) (by omega)]
          exact congrArg (m.2 26) (by omega)
        · rw [pk_cpy_out (by omega), pk_cpy_out (by omega), show 14 + 2 * o + 1 = 15 + 2 * o by omega]
          exact hmo i2 hi2
