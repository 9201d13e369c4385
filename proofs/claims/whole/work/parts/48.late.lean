theorem s_num {x : gS} {n : Nat} {mn : Int32} {px py wo du wa : Nat → Int32} (h : RP n (x.1 1 1) (x.1 2) mn px py wo du wa) {p q : Nat} (hp : p < n) (hq : q ≤ 3) : f_X8_numberOf x (iI p) (iI q) = some (x.1 2 (4 * p + q)) := by
  have hn := h.1
  have pl := (s_plc (x := x) hn h.2.1 (p := (p : Int)) (w := (q : Int)) (by omega) (by omega) (by omega) (by omega)).1 (Or.inl ⟨by omega, by omega, by omega, by omega⟩)
  have e : plc ((p : Int)).toNat ((q : Int)).toNat = 4 * p + q := by
    unfold plc
    rw [Int.toNat_natCast, Int.toNat_natCast, if_pos hq]
  rw [e] at pl
  have g : (0 : Int) ≤ ((4 * p + q : Nat) : Int) := by omega
  unfold f_X8_numberOf
  simp +decide (maxSteps := 2000000) (disch := omega) only [↓gl_p, ↓bs_p, iI_lit, iI_neg, iI_add, iI_sub, iI_mul, gk_p, bs_p, bz0, bz1, pI_row, pI_snd, pA_row, pA_snd, pL_fst, pL_row, pB_fst, pB_row, upd_at, ↓reduceIte, Int.reduceToNat, Nat.reduceEqDiff, iI_lt, iI_le, iI_eq, iI_inb, iI_nat, iI_nz, pl, g, Int.toNat_natCast]
theorem w_late {x m : gS} {n k sd : Nat} {w : Nat → Nat → Nat} {S : Nat → Nat} (hP : RP n (x.1 1 1) (x.1 2) (m.1 0 0) (m.1 1) (m.1 2) (m.1 3) (m.1 4) (m.1 5)) (hw : ∀ p q, okP n p → okP n q → w p q ≤ 270) (hd : sd ≤ 9) (hC : CO 26 n k w sd S x) (hO : RO n k S m) (hM : YM n w sd m) : ∀ (r i f f2 : Nat) (b : Int32), i + r = n → r ≤ f → r ≤ f2 → ∃ q, f_X9_late_26 (f + 1) b (iI i) x = some (q, x) ∧ f_X10_late_32 (f2 + 1) b (iI i) m = some (q, m) := by
  have hn := hP.1
  intro r
  induction r with
  | zero =>
    intro i f f2 b hi hf hf2
    have g : (n : Int) ≤ (i : Int) := by omega
    rw [f_X9_late_26, f_X10_late_32]
    simp +decide (maxSteps := 2000000) (disch := omega) only [↓gl_p, ↓bs_p, iI_lit, iI_neg, iI_add, iI_sub, iI_mul, gk_p, bs_p, bz0, bz1, pI_row, pI_snd, pA_row, pA_snd, pL_fst, pL_row, pB_fst, pB_row, upd_at, ↓reduceIte, Int.reduceToNat, Nat.reduceEqDiff, iI_lt, iI_le, iI_eq, iI_inb, iI_nat, iI_nz, hP.2.1, hP.2.2.1, g]
    exact ⟨_, rfl, rfl⟩
  | succ r ih =>
    intro i f f2 b hi hf hf2
    obtain ⟨f, rfl⟩ : ∃ q, f = q + 1 := ⟨f - 1, by omega⟩
    obtain ⟨f2, rfl⟩ : ∃ q, f2 = q + 1 := ⟨f2 - 1, by omega⟩
    have g : ¬ (n : Int) ≤ (i : Int) := by omega
    have hp : i < n := by omega
    have gx := s_lgo hn hw hd hC hp
    have gm := s_gpo hn hw hd hO hM hp
    have gr := gpo_rg hw hd hC.1 hC.2.1 i
    have nu : f_X8_numberOf x (iI i) (iI 3) = some (x.1 2 (4 * i + 3)) := s_num hP hp (q := 3) (by omega)
    have du := (hP.2.2.2.1 i hp).2.2.2
    obtain ⟨a, ea, a1, a2⟩ := (hP.2.2.2.2.2.1 i hp).2.2.2
    have a3 : 1 ≤ a ∧ a ≤ 999 := by
      unfold loW at a1
      unfold hiW at a2
      simp at a1 a2
      omega
    rw [ea] at nu du
    have n1 := ih (i + 1) f f2 b (by omega) (by omega) (by omega)
    have n2 := ih (i + 1) f f2 (b ||| bt i) (by omega) (by omega) (by omega)
    rw [f_X9_late_26, f_X10_late_32]
    unfold f_X9_late_71 f_X10_late_68
    by_cases c : gpo w sd S k i = -2
    · simp +decide (maxSteps := 2000000) (disch := omega) only [↓gl_p, ↓bs_p, iI_lit, iI_neg, iI_add, iI_sub, iI_mul, gk_p, bs_p, bz0, bz1, pI_row, pI_snd, pA_row, pA_snd, pL_fst, pL_row, pB_fst, pB_row, upd_at, ↓reduceIte, Int.reduceToNat, Nat.reduceEqDiff, iI_lt, iI_le, iI_eq, iI_inb, iI_nat, iI_nz, hP.2.1, hP.2.2.1, g, gx, gm, eq_true c, bt_e]
      exact n2
    · by_cases c2 : gpo w sd S k i ≤ a
      · simp +decide (maxSteps := 2000000) (disch := omega) only [↓gl_p, ↓bs_p, iI_lit, iI_neg, iI_add, iI_sub, iI_mul, gk_p, bs_p, bz0, bz1, pI_row, pI_snd, pA_row, pA_snd, pL_fst, pL_row, pB_fst, pB_row, upd_at, ↓reduceIte, Int.reduceToNat, Nat.reduceEqDiff, iI_lt, iI_le, iI_eq, iI_inb, iI_nat, iI_nz, hP.2.1, hP.2.2.1, g, gx, gm, c, c2, nu, du, bt_e, Int.toNat_natCast]
        exact n1
      · simp +decide (maxSteps := 2000000) (disch := omega) only [↓gl_p, ↓bs_p, iI_lit, iI_neg, iI_add, iI_sub, iI_mul, gk_p, bs_p, bz0, bz1, pI_row, pI_snd, pA_row, pA_snd, pL_fst, pL_row, pB_fst, pB_row, upd_at, ↓reduceIte, Int.reduceToNat, Nat.reduceEqDiff, iI_lt, iI_le, iI_eq, iI_inb, iI_nat, iI_nz, hP.2.1, hP.2.2.1, g, gx, gm, c, c2, nu, du, bt_e, Int.toNat_natCast]
        exact n2
theorem e_late (L : LawT) : EQ_late (Rel1 L) := by
  intro x m a1 hR
  obtain ⟨s, rfl, hs1, hs2⟩ := iI_of a1
  obtain ⟨⟨n, nb, hP, hC, hT, hD, hI, hK, hS⟩, hL⟩ := id hR
  have hn := hP.1
  unfold f_X9_late f_X10_late
  by_cases c1 : 0 ≤ s ∧ s ≤ 5
  rotate_left
  · simp +decide (maxSteps := 2000000) (disch := omega) only [↓gl_p, ↓bs_p, iI_lit, iI_neg, iI_add, iI_sub, iI_mul, gk_p, bs_p, bz0, bz1, pI_row, pI_snd, pA_row, pA_snd, pL_fst, pL_row, pB_fst, pB_row, upd_at, ↓reduceIte, Int.reduceToNat, Nat.reduceEqDiff, iI_lt, iI_le, iI_eq, iI_inb, iI_nat, iI_nz, c1, s_shX, s_shM, bI_0, not_false_eq_true]
    exact ⟨_, _, _, rfl, rfl, hR⟩
  obtain ⟨u, hu, rfl⟩ : ∃ k : Nat, k < 6 ∧ s = (k : Int) := ⟨s.toNat, by omega, by omega⟩
  rcases lay3 hP hK.1 hS hu with ⟨b, hb, l1, l2⟩ | ⟨k, w, sd, S, y, m2, l1, l2, l3, h1, h2, hY, hM, hC, hO⟩
  · have hb2 : ¬ 0 ≤ b := by omega
    simp +decide (maxSteps := 2000000) (disch := omega) only [↓gl_p, ↓bs_p, iI_lit, iI_neg, iI_add, iI_sub, iI_mul, gk_p, bs_p, bz0, bz1, pI_row, pI_snd, pA_row, pA_snd, pL_fst, pL_row, pB_fst, pB_row, upd_at, ↓reduceIte, Int.reduceToNat, Nat.reduceEqDiff, iI_lt, iI_le, iI_eq, iI_inb, iI_nat, iI_nz, c1, s_shX, s_shM, bI_0, not_true_eq_false, and_self, l1, l2, hb2]
    exact ⟨_, _, _, rfl, rfl, hR⟩
  · have hw : ∀ p q, okP n p → okP n q → w p q ≤ 270 := fun p q hp hq => (hY.2.2.2.2 p q hp hq).1
    have sx := sc_co (by omega) (by omega) h1
    have sm := sc_rd h2
    have hR2 := Rel1_sc hR sx sm
    obtain ⟨q, k1, k2⟩ := w_late (RP_sc hP sx sm) hw hY.2.1 hC hO hM n 0 999999 999999 (iI 0) (by omega) (by omega) (by omega)
    simp +decide (maxSteps := 2000000) (disch := omega) only [↓gl_p, ↓bs_p, iI_lit, iI_neg, iI_add, iI_sub, iI_mul, gk_p, bs_p, bz0, bz1, pI_row, pI_snd, pA_row, pA_snd, pL_fst, pL_row, pB_fst, pB_row, upd_at, ↓reduceIte, Int.reduceToNat, Nat.reduceEqDiff, iI_lt, iI_le, iI_eq, iI_inb, iI_nat, iI_nz, c1, s_shX, s_shM, bI_0, not_true_eq_false, and_self, l1, l2, l3]
    exact ⟨_, _, _, k1, k2, hR2⟩
