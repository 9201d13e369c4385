/-! ===== lost: running a piece of the law ===== -/
theorem cr_num {x : gS} {D p h v f : Nat} (e : x.1 7 6 = iI D) (hD : D ≤ 241) (hp : p + 2 ≤ D) (c1 : x.1 10 p = iI 35) (c2 : x.1 10 (p + 1) = iI v) (hh : h < 120) : f_X4_run_4 (f + 1) (iI h) (iI p) x = f_X4_run_4 f (iI ((h : Int) + 1)) (iI ((p : Int) + 1 + 1)) (pI x 11 h (iI v)) := by
  have g1 : ¬ (D : Int) ≤ (p : Int) := by omega
  have g2 : ¬ (D : Int) ≤ (p : Int) + 1 := by omega
  have g3 : (h : Int) < 120 := by omega
  have n1 : ((p : Int) + 1).toNat = p + 1 := by omega
  rw [f_X4_run_4]
  unfold f_X4_run_41 f_X4_run_55 f_X4_run_74 f_X4_push
  simp +decide (maxSteps := 2000000) (disch := omega) only [↓gl_p, ↓bs_p, iI_lit, iI_neg, iI_add, iI_sub, iI_mul, gk_p, bs_p, bz0, bz1, pI_row, pI_snd, pA_row, pA_snd, pL_fst, pL_row, pB_fst, pB_row, upd_at, ↓reduceIte, Int.reduceToNat, Nat.reduceEqDiff, iI_lt, iI_le, iI_eq, iI_inb, iI_nat, iI_nz, e, g1, g2, c1, c2, n1, Int.toNat_natCast, eq_true g3]
theorem cr_name {x : gS} {D p h v f : Nat} (e : x.1 7 6 = iI D) (hD : D ≤ 241) (hp : p + 2 ≤ D) (c1 : x.1 10 p = iI 36) (c2 : x.1 10 (p + 1) = iI v) (hv : v < 6) (hh : h < 120) : f_X4_run_4 (f + 1) (iI h) (iI p) x = f_X4_run_4 f (iI ((h : Int) + 1)) (iI ((p : Int) + 1 + 1)) (pI x 11 h (x.1 12 v)) := by
  have g1 : ¬ (D : Int) ≤ (p : Int) := by omega
  have g2 : ¬ (D : Int) ≤ (p : Int) + 1 := by omega
  have g3 : (h : Int) < 120 := by omega
  have g4 : ¬ (v : Int) < 0 := by omega
  have g5 : ¬ (6 : Int) ≤ (v : Int) := by omega
  have n1 : ((p : Int) + 1).toNat = p + 1 := by omega
  rw [f_X4_run_4]
  unfold f_X4_run_41 f_X4_run_55 f_X4_run_74 f_X4_push f_X4_nameAt
  simp +decide (maxSteps := 2000000) (disch := omega) only [↓gl_p, ↓bs_p, iI_lit, iI_neg, iI_add, iI_sub, iI_mul, gk_p, bs_p, bz0, bz1, pI_row, pI_snd, pA_row, pA_snd, pL_fst, pL_row, pB_fst, pB_row, upd_at, ↓reduceIte, Int.reduceToNat, Nat.reduceEqDiff, iI_lt, iI_le, iI_eq, iI_inb, iI_nat, iI_nz, e, g1, g2, c1, c2, n1, Int.toNat_natCast, eq_true g3, g4, g5]
theorem cr_op {x : gS} {D p h v f : Nat} (e : x.1 7 6 = iI D) (hD : D ≤ 241) (hp : p < D) (c1 : x.1 10 p = iI v) (hv : v ≤ 255) (h1 : v ≠ 35 ∧ v ≠ 36 ∧ v ≠ 63 ∧ v ≠ 59) : f_X4_run_4 (f + 1) (iI h) (iI p) x = (f_X4_work x (iI v) (iI h)).bind fun q1 => f_X4_run_4 f q1.1 (iI ((p : Int) + 1)) q1.2 := by
  have g1 : ¬ (D : Int) ≤ (p : Int) := by omega
  have n1 : ((p : Int) + 1).toNat = p + 1 := by omega
  have v1 : ¬ (v : Int) = 35 := by omega
  have v2 : ¬ (v : Int) = 36 := by omega
  have v3 : ¬ (v : Int) = 63 := by omega
  have v4 : ¬ (v : Int) = 59 := by omega
  rw [f_X4_run_4]
  unfold f_X4_run_41
  by_cases g2 : (D : Int) ≤ (p : Int) + 1
  · simp +decide (maxSteps := 2000000) (disch := omega) only [↓gl_p, ↓bs_p, iI_lit, iI_neg, iI_add, iI_sub, iI_mul, gk_p, bs_p, bz0, bz1, pI_row, pI_snd, pA_row, pA_snd, pL_fst, pL_row, pB_fst, pB_row, upd_at, ↓reduceIte, Int.reduceToNat, Nat.reduceEqDiff, iI_lt, iI_le, iI_eq, iI_inb, iI_nat, iI_nz, e, g1, g2, c1, n1, Int.toNat_natCast, v1, v2, v3, v4]
  · simp +decide (maxSteps := 2000000) (disch := omega) only [↓gl_p, ↓bs_p, iI_lit, iI_neg, iI_add, iI_sub, iI_mul, gk_p, bs_p, bz0, bz1, pI_row, pI_snd, pA_row, pA_snd, pL_fst, pL_row, pB_fst, pB_row, upd_at, ↓reduceIte, Int.reduceToNat, Nat.reduceEqDiff, iI_lt, iI_le, iI_eq, iI_inb, iI_nat, iI_nz, e, g1, g2, c1, n1, Int.toNat_natCast, v1, v2, v3, v4]
theorem wr_num {m : gS} {e h c t f : Nat} (he : e ≤ 120) (hc : c < e) (c1 : m.1 10 c = iI t) (ht : 18 ≤ t) (ht2 : t < 10018) (hh : h < 120) : f_X10_worked_5 (f + 1) (iI e) (iI h) (iI c) m = f_X10_worked_5 f (iI e) (iI ((h : Int) + 1)) (iI ((c : Int) + 1)) (pI m 15 h (iI ((t - 18 : Nat) : Int))) := by
  have g1 : ¬ (e : Int) ≤ (c : Int) := by omega
  have g2 : (18 : Int) ≤ (t : Int) := by omega
  have g3 : ¬ (t : Int) < 18 := by omega
  rw [f_X10_worked_5, show ((t - 18 : Nat) : Int) = (t : Int) - 18 by omega]
  unfold f_X10_worked_33 f_X10_worked_63
  simp +decide (maxSteps := 2000000) (disch := omega) only [↓gl_p, ↓bs_p, iI_lit, iI_neg, iI_add, iI_sub, iI_mul, gk_p, bs_p, bz0, bz1, pI_row, pI_snd, pA_row, pA_snd, pL_fst, pL_row, pB_fst, pB_row, upd_at, ↓reduceIte, Int.reduceToNat, Nat.reduceEqDiff, iI_lt, iI_le, iI_eq, iI_inb, iI_nat, iI_nz, g1, c1, Int.toNat_natCast, eq_true g2, g3]
theorem wr_name {m : gS} {e h c t f : Nat} (he : e ≤ 120) (hc : c < e) (c1 : m.1 10 c = iI t) (ht : t < 6) (hh : h < 120) : f_X10_worked_5 (f + 1) (iI e) (iI h) (iI c) m = f_X10_worked_5 f (iI e) (iI ((h : Int) + 1)) (iI ((c : Int) + 1)) (pI m 15 h (m.1 16 t)) := by
  have g1 : ¬ (e : Int) ≤ (c : Int) := by omega
  have g2 : ¬ (18 : Int) ≤ (t : Int) := by omega
  have g3 : (t : Int) < 18 := by omega
  have g4 : ¬ (5 : Int) < (t : Int) := by omega
  rw [f_X10_worked_5]
  unfold f_X10_worked_33 f_X10_worked_63
  simp +decide (maxSteps := 2000000) (disch := omega) only [↓gl_p, ↓bs_p, iI_lit, iI_neg, iI_add, iI_sub, iI_mul, gk_p, bs_p, bz0, bz1, pI_row, pI_snd, pA_row, pA_snd, pL_fst, pL_row, pB_fst, pB_row, upd_at, ↓reduceIte, Int.reduceToNat, Nat.reduceEqDiff, iI_lt, iI_le, iI_eq, iI_inb, iI_nat, iI_nz, g1, c1, Int.toNat_natCast, g2, eq_true g3, g4]
theorem cw_un {x : gS} {h t : Nat} (ht : t = 16 ∨ t = 17) (h1 : 1 ≤ h) (hh : h ≤ 120) : f_X4_work x (iI (sgz t)) (iI h) = some (iI h, pI x 11 (h - 1) (if t = 17 then -(x.1 11 (h - 1)) else if x.1 11 (h - 1) = 0 then iI 1 else iI 0)) := by
  have n1 : ((h : Int) - 1).toNat = h - 1 := by omega
  have g1 : ¬ (h : Int) < 1 := by omega
  have t0 : f_X4_truth x (iI 1) = some (iI 1) := rfl
  have t1 : f_X4_truth x (iI 0) = some (iI 0) := rfl
  unfold f_X4_work f_X4_work_12 f_X4_work_58 f_X4_work_61
  rcases ht with rfl | rfl
  · rw [show ((sgz 16 : Nat) : Int) = 33 from rfl]
    by_cases c : x.1 11 (h - 1) = iI 0
    · simp +decide (maxSteps := 2000000) (disch := omega) only [↓gl_p, ↓bs_p, iI_lit, iI_neg, iI_add, iI_sub, iI_mul, gk_p, bs_p, bz0, bz1, pI_row, pI_snd, pA_row, pA_snd, pL_fst, pL_row, pB_fst, pB_row, upd_at, ↓reduceIte, Int.reduceToNat, Nat.reduceEqDiff, iI_lt, iI_le, iI_eq, iI_inb, iI_nat, iI_nz, n1, g1, t0, t1, eq_true c]
    · simp +decide (maxSteps := 2000000) (disch := omega) only [↓gl_p, ↓bs_p, iI_lit, iI_neg, iI_add, iI_sub, iI_mul, gk_p, bs_p, bz0, bz1, pI_row, pI_snd, pA_row, pA_snd, pL_fst, pL_row, pB_fst, pB_row, upd_at, ↓reduceIte, Int.reduceToNat, Nat.reduceEqDiff, iI_lt, iI_le, iI_eq, iI_inb, iI_nat, iI_nz, n1, g1, t0, t1, c]
  · rw [show ((sgz 17 : Nat) : Int) = 126 from rfl]
    simp +decide (maxSteps := 2000000) (disch := omega) only [↓gl_p, ↓bs_p, iI_lit, iI_neg, iI_add, iI_sub, iI_mul, gk_p, bs_p, bz0, bz1, pI_row, pI_snd, pA_row, pA_snd, pL_fst, pL_row, pB_fst, pB_row, upd_at, ↓reduceIte, Int.reduceToNat, Nat.reduceEqDiff, iI_lt, iI_le, iI_eq, iI_inb, iI_nat, iI_nz, n1, g1]
theorem wr_un {m : gS} {e h c t f : Nat} (he : e ≤ 120) (hc : c < e) (c1 : m.1 10 c = iI t) (ht : t = 16 ∨ t = 17) (h1 : 1 ≤ h) (hh : h ≤ 120) : f_X10_worked_5 (f + 1) (iI e) (iI h) (iI c) m = f_X10_worked_5 f (iI e) (iI h) (iI ((c : Int) + 1)) (pI m 15 (h - 1) (if t = 17 then -(m.1 15 (h - 1)) else if m.1 15 (h - 1) = 0 then iI 1 else iI 0)) := by
  have g1 : ¬ (e : Int) ≤ (c : Int) := by omega
  have n1 : ((h : Int) - 1).toNat = h - 1 := by omega
  rw [f_X10_worked_5]
  unfold f_X10_worked_81 f_X10_worked_123
  rcases ht with rfl | rfl
  · by_cases c : m.1 15 (h - 1) = iI 0
    · simp +decide (maxSteps := 2000000) (disch := omega) only [↓gl_p, ↓bs_p, iI_lit, iI_neg, iI_add, iI_sub, iI_mul, gk_p, bs_p, bz0, bz1, pI_row, pI_snd, pA_row, pA_snd, pL_fst, pL_row, pB_fst, pB_row, upd_at, ↓reduceIte, Int.reduceToNat, Nat.reduceEqDiff, iI_lt, iI_le, iI_eq, iI_inb, iI_nat, iI_nz, g1, c1, Int.toNat_natCast, n1, eq_true c]
    · simp +decide (maxSteps := 2000000) (disch := omega) only [↓gl_p, ↓bs_p, iI_lit, iI_neg, iI_add, iI_sub, iI_mul, gk_p, bs_p, bz0, bz1, pI_row, pI_snd, pA_row, pA_snd, pL_fst, pL_row, pB_fst, pB_row, upd_at, ↓reduceIte, Int.reduceToNat, Nat.reduceEqDiff, iI_lt, iI_le, iI_eq, iI_inb, iI_nat, iI_nz, g1, c1, Int.toNat_natCast, n1, c]
  · simp +decide (maxSteps := 2000000) (disch := omega) only [↓gl_p, ↓bs_p, iI_lit, iI_neg, iI_add, iI_sub, iI_mul, gk_p, bs_p, bz0, bz1, pI_row, pI_snd, pA_row, pA_snd, pL_fst, pL_row, pB_fst, pB_row, upd_at, ↓reduceIte, Int.reduceToNat, Nat.reduceEqDiff, iI_lt, iI_le, iI_eq, iI_inb, iI_nat, iI_nz, g1, c1, Int.toNat_natCast, n1]
