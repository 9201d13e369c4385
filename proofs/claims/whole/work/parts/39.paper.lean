/-! ===== a paper ===== -/
def ltr (n : Nat) (td : Nat → Int32) (sd : Int) (z : Nat) (rw : Nat → Int) (i : Nat) : Int :=
  if z ≤ 2 * i + 1 then -9999 else if ¬ (0 ≤ rw (2 * i) ∧ rw (2 * i) < n) then -9999 else if i = 0 then rw (2 * i + 1) - wy td 9 (rw (2 * i)).toNat else if ¬ (0 ≤ rw (2 * i - 2) ∧ rw (2 * i - 2) < n) then -9999 else rw (2 * i + 1) - rw (2 * i - 1) - sd - wy td (rw (2 * i - 2)).toNat (rw (2 * i)).toNat
theorem s_told {x m : gS} {q s z : Nat} {lo hi : Int} {rw : Nat → Int} (hs : s < 6) (h : rowB q lo hi s z rw x m) {j : Nat} (hj : j < z) : f_X10_toldAt m (iI s) (iI j) = some (iI (rw j)) := by
  obtain ⟨h1, h2, h3, h4, h5, h6, h7⟩ := h
  have t : (60 * (s : Int) + (j : Int)).toNat = 60 * s + j := by omega
  unfold f_X10_toldAt
  simp +decide (maxSteps := 2000000) (disch := omega) only [↓gl_p, ↓bs_p, iI_lit, iI_neg, iI_add, iI_sub, iI_mul, gk_p, bs_p, bz0, bz1, pI_row, pI_snd, pA_row, pA_snd, pL_fst, pL_row, pB_fst, pB_row, upd_at, ↓reduceIte, Int.reduceToNat, Nat.reduceEqDiff, iI_lt, iI_le, iI_eq, iI_inb, iI_nat, iI_nz, t]
  rw [(h7 j hj).2.2.2, lL_32]
theorem ltr_rg {n z : Nat} {sz mn : Int32} {td px py wo du wa : Nat → Int32} (h : RP n sz td mn px py wo du wa) {sd : Int} (s1 : 0 ≤ sd) (s2 : sd ≤ 9) {rw : Nat → Int} (hr : ∀ i, i < z → -32768 ≤ rw i ∧ rw i ≤ 32767) (i : Nat) : -70000 ≤ ltr n td sd z rw i ∧ ltr n td sd z rw i ≤ 70000 := by
  unfold ltr
  have h9 : okP n 9 := Or.inr rfl
  by_cases c1 : z ≤ 2 * i + 1
  · rw [if_pos c1]
    omega
  rw [if_neg c1]
  by_cases c2 : 0 ≤ rw (2 * i) ∧ rw (2 * i) < n
  rotate_left
  · rw [if_pos c2]
    omega
  rw [if_neg (by exact fun e => e c2)]
  have r1 := hr (2 * i + 1) (by omega)
  have p1 : okP n (rw (2 * i)).toNat := Or.inl (by omega)
  by_cases c3 : i = 0
  · rw [if_pos c3]
    have w := wy_rg h h9 p1
    omega
  rw [if_neg c3]
  by_cases c4 : 0 ≤ rw (2 * i - 2) ∧ rw (2 * i - 2) < n
  rotate_left
  · rw [if_pos c4]
    omega
  rw [if_neg (by exact fun e => e c4)]
  have r2 := hr (2 * i - 1) (by omega)
  have w := wy_rg h (Or.inl (by omega) : okP n (rw (2 * i - 2)).toNat) p1
  omega
theorem s_wyX2 {x : gS} {n : Nat} {mn : Int32} {px py wo du wa : Nat → Int32} (h : RP n (x.1 1 1) (x.1 2) mn px py wo du wa) {a b : Int} (ha : 0 ≤ a ∧ a < n) (hb : 0 ≤ b ∧ b < n) : f_X8_way x (iI a) (iI b) = some (iI (wy (x.1 2) a.toNat b.toNat)) := by
  have w := s_wyX h (Or.inl (by omega) : okP n a.toNat) (Or.inl (by omega) : okP n b.toNat)
  rw [show ((a.toNat : Nat) : Int) = a by omega, show ((b.toNat : Nat) : Int) = b by omega] at w
  exact w
theorem s_wyX9 {x : gS} {n : Nat} {mn : Int32} {px py wo du wa : Nat → Int32} (h : RP n (x.1 1 1) (x.1 2) mn px py wo du wa) {b : Int} (hb : 0 ≤ b ∧ b < n) : f_X8_way x (iI 9) (iI b) = some (iI (wy (x.1 2) 9 b.toNat)) := by
  have w := s_wyX h (Or.inr rfl : okP n 9) (Or.inl (by omega) : okP n b.toNat)
  rw [show ((b.toNat : Nat) : Int) = b by omega] at w
  exact w
theorem s_wyM2 {m : gS} {n : Nat} {sz : Int32} {td : Nat → Int32} (h : RP n sz td (m.1 0 0) (m.1 1) (m.1 2) (m.1 3) (m.1 4) (m.1 5)) {a b : Int} (ha : 0 ≤ a ∧ a < n) (hb : 0 ≤ b ∧ b < n) : f_X10_minutes m (iI a) (iI b) = some (iI (wy td a.toNat b.toNat)) := by
  have hn := h.1
  have w := s_wyM h (Or.inl (by omega) : okP n a.toNat) (Or.inl (by omega) : okP n b.toNat)
  rw [show mP a.toNat = a by unfold mP; rw [if_neg (by omega)]; omega, show mP b.toNat = b by unfold mP; rw [if_neg (by omega)]; omega] at w
  exact w
theorem s_wyM9 {m : gS} {n : Nat} {sz : Int32} {td : Nat → Int32} (h : RP n sz td (m.1 0 0) (m.1 1) (m.1 2) (m.1 3) (m.1 4) (m.1 5)) {b : Int} (hb : 0 ≤ b ∧ b < n) : f_X10_minutes m (iI (-1)) (iI b) = some (iI (wy td 9 b.toNat)) := by
  have hn := h.1
  have w := s_wyM h (Or.inr rfl : okP n 9) (Or.inl (by omega) : okP n b.toNat)
  rw [show mP b.toNat = b by unfold mP; rw [if_neg (by omega)]; omega] at w
  exact w
section
variable {x m : gS} {n s z : Nat} {rw : Nat → Int} {sd : Int}
theorem s_later (hs : s < 6) (h : RP n (x.1 1 1) (x.1 2) (m.1 0 0) (m.1 1) (m.1 2) (m.1 3) (m.1 4) (m.1 5)) (hb : rowB 1 (-32768) 32767 s z rw x m) (hd : x.1 2 39 = iI sd) {i : Nat} (hi : 2 * i < z) : f_X10_later m (iI s) (iI i) = some (iI (ltr n (x.1 2) sd z rw i)) := by
  have hn := h.1
  have hz := hb.1
  have hl := hb.2.2.2.2.2.1
  have hr := hb.2.2.2.2.2.2
  have hd2 : m.1 5 3 = iI sd := h.2.2.2.2.1.2.2.2.trans hd
  unfold f_X10_later ltr
  by_cases c1 : z ≤ 2 * i + 1
  · have c2 : ¬ 2 * (i : Int) + 1 < z := by omega
    simp +decide (maxSteps := 2000000) (disch := omega) only [↓gl_p, ↓bs_p, iI_lit, iI_neg, iI_add, iI_sub, iI_mul, gk_p, bs_p, bz0, bz1, pI_row, pI_snd, pA_row, pA_snd, pL_fst, pL_row, pB_fst, pB_row, upd_at, ↓reduceIte, Int.reduceToNat, Nat.reduceEqDiff, iI_lt, iI_le, iI_eq, iI_inb, iI_nat, iI_nz, hl, c1, c2, Int.toNat_natCast]
  have c2 : 2 * (i : Int) + 1 < z := by omega
  have t1 := s_told hs hb hi
  have t2 := s_told hs hb (by omega : 2 * i + 1 < z)
  have e1 : ((2 * i : Nat) : Int) = 2 * (i : Int) := by omega
  have e2 : ((2 * i + 1 : Nat) : Int) = 2 * (i : Int) + 1 := by omega
  rw [e1] at t1
  rw [e2] at t2
  have r1 := hr (2 * i) hi
  have r2 := hr (2 * i + 1) (by omega)
  have sp := s_poM hn h.2.2.1 (a := rw (2 * i)) (by omega) (by omega)
  by_cases c3 : 0 ≤ rw (2 * i) ∧ rw (2 * i) < n
  rotate_left
  · simp +decide (maxSteps := 2000000) (disch := omega) only [↓gl_p, ↓bs_p, iI_lit, iI_neg, iI_add, iI_sub, iI_mul, gk_p, bs_p, bz0, bz1, pI_row, pI_snd, pA_row, pA_snd, pL_fst, pL_row, pB_fst, pB_row, upd_at, ↓reduceIte, Int.reduceToNat, Nat.reduceEqDiff, iI_lt, iI_le, iI_eq, iI_inb, iI_nat, iI_nz, hl, c1, c2, Int.toNat_natCast, t1, t2, lL_i, sp, bI_0, c3, not_false_eq_true]
  by_cases c4 : i = 0
  · have c5 := eq_true (show (i : Int) = 0 by omega)
    have c6 := eq_true c4
    have w := s_wyM9 h c3
    simp +decide (maxSteps := 2000000) (disch := omega) only [↓gl_p, ↓bs_p, iI_lit, iI_neg, iI_add, iI_sub, iI_mul, gk_p, bs_p, bz0, bz1, pI_row, pI_snd, pA_row, pA_snd, pL_fst, pL_row, pB_fst, pB_row, upd_at, ↓reduceIte, Int.reduceToNat, Nat.reduceEqDiff, iI_lt, iI_le, iI_eq, iI_inb, iI_nat, iI_nz, hl, c1, c2, Int.toNat_natCast, t1, t2, lL_i, sp, bI_0, c3, c5, c6, w, not_true_eq_false, and_self]
  have c5 : ¬ (i : Int) = 0 := by omega
  have t3 := s_told hs hb (by omega : 2 * i - 2 < z)
  have t4 := s_told hs hb (by omega : 2 * i - 1 < z)
  have e3 : ((2 * i - 2 : Nat) : Int) = 2 * (i : Int) - 2 := by omega
  have e4 : ((2 * i - 1 : Nat) : Int) = 2 * (i : Int) - 1 := by omega
  rw [e3] at t3
  rw [e4] at t4
  have r3 := hr (2 * i - 2) (by omega)
  have sp3 := s_poM hn h.2.2.1 (a := rw (2 * i - 2)) (by omega) (by omega)
  by_cases c6 : 0 ≤ rw (2 * i - 2) ∧ rw (2 * i - 2) < n
  rotate_left
  · simp +decide (maxSteps := 2000000) (disch := omega) only [↓gl_p, ↓bs_p, iI_lit, iI_neg, iI_add, iI_sub, iI_mul, gk_p, bs_p, bz0, bz1, pI_row, pI_snd, pA_row, pA_snd, pL_fst, pL_row, pB_fst, pB_row, upd_at, ↓reduceIte, Int.reduceToNat, Nat.reduceEqDiff, iI_lt, iI_le, iI_eq, iI_inb, iI_nat, iI_nz, hl, c1, c2, Int.toNat_natCast, t1, t2, t3, lL_i, sp, sp3, bI_0, c3, c4, c5, c6, not_true_eq_false, not_false_eq_true, and_self]
  have w := s_wyM2 h c6 c3
  simp +decide (maxSteps := 2000000) (disch := omega) only [↓gl_p, ↓bs_p, iI_lit, iI_neg, iI_add, iI_sub, iI_mul, gk_p, bs_p, bz0, bz1, pI_row, pI_snd, pA_row, pA_snd, pL_fst, pL_row, pB_fst, pB_row, upd_at, ↓reduceIte, Int.reduceToNat, Nat.reduceEqDiff, iI_lt, iI_le, iI_eq, iI_inb, iI_nat, iI_nz, hl, c1, c2, Int.toNat_natCast, t1, t2, t3, t4, lL_i, sp, sp3, bI_0, c3, c4, c5, c6, w, hd2, not_true_eq_false, and_self]
theorem s_spare (h : RP n (x.1 1 1) (x.1 2) (m.1 0 0) (m.1 1) (m.1 2) (m.1 3) (m.1 4) (m.1 5)) (hb : rowB 1 (-32768) 32767 s z rw x m) (hd : x.1 2 39 = iI sd) (sd1 : 0 ≤ sd) (sd2 : sd ≤ 9) {i : Nat} (hi : 2 * i < z) : f_X9_spare x (14 + 2 * s) (iI i) = some (iI (if ltr n (x.1 2) sd z rw i < 0 then -1 else ltr n (x.1 2) sd z rw i)) := by
  have hn := h.1
  have hz := hb.1
  have hl := hb.2.2.2.1
  have hr := hb.2.2.2.2.2.2
  unfold f_X9_spare f_X9_spare_107 ltr
  have t1 := s_cell hb hi
  have e1 : ((2 * i : Nat) : Int) = 2 * (i : Int) := by omega
  rw [e1] at t1
  by_cases c1 : z ≤ 2 * i + 1
  · have c2 : (z : Int) ≤ 2 * (i : Int) + 1 := by omega
    simp +decide (maxSteps := 2000000) (disch := omega) only [↓gl_p, ↓bs_p, iI_lit, iI_neg, iI_add, iI_sub, iI_mul, gk_p, bs_p, bz0, bz1, pI_row, pI_snd, pA_row, pA_snd, pL_fst, pL_row, pB_fst, pB_row, upd_at, ↓reduceIte, Int.reduceToNat, Nat.reduceEqDiff, iI_lt, iI_le, iI_eq, iI_inb, iI_nat, iI_nz, hl, c1, c2, t1]
  have c2 : ¬ (z : Int) ≤ 2 * (i : Int) + 1 := by omega
  have t2 := s_cell hb (by omega : 2 * i + 1 < z)
  have e2 : ((2 * i + 1 : Nat) : Int) = 2 * (i : Int) + 1 := by omega
  rw [e2] at t2
  have r1 := hr (2 * i) hi
  have r2 := hr (2 * i + 1) (by omega)
  have sp := s_poX hn h.2.1 (a := rw (2 * i)) (by omega) (by omega)
  by_cases c3 : 0 ≤ rw (2 * i) ∧ rw (2 * i) < n
  rotate_left
  · simp +decide (maxSteps := 2000000) (disch := omega) only [↓gl_p, ↓bs_p, iI_lit, iI_neg, iI_add, iI_sub, iI_mul, gk_p, bs_p, bz0, bz1, pI_row, pI_snd, pA_row, pA_snd, pL_fst, pL_row, pB_fst, pB_row, upd_at, ↓reduceIte, Int.reduceToNat, Nat.reduceEqDiff, iI_lt, iI_le, iI_eq, iI_inb, iI_nat, iI_nz, hl, c1, c2, t1, t2, lL_32, sp, bI_0, c3, not_false_eq_true]
  have w9 := s_wyX9 h c3
  have w9r := wy_rg h (Or.inr rfl : okP n 9) (Or.inl (by omega) : okP n (rw (2 * i)).toNat)
  by_cases c4 : i = 0
  · have c5 : (i : Int) ≤ 0 := by omega
    subst c4
    generalize wy (x.1 2) 9 (rw (2 * 0)).toNat = v at w9 w9r
    simp +decide (maxSteps := 2000000) (disch := omega) only [↓gl_p, ↓bs_p, iI_lit, iI_neg, iI_add, iI_sub, iI_mul, gk_p, bs_p, bz0, bz1, pI_row, pI_snd, pA_row, pA_snd, pL_fst, pL_row, pB_fst, pB_row, upd_at, ↓reduceIte, Int.reduceToNat, Nat.reduceEqDiff, iI_lt, iI_le, iI_eq, iI_inb, iI_nat, iI_nz, hl, c1, c2, t1, t2, lL_32, sp, bI_0, c3, c5, w9, jmax_i, not_true_eq_false, and_self]
    (repeat' split) <;> first | rfl | (exfalso; omega) | (congr 2; omega)
  have c5 : ¬ (i : Int) ≤ 0 := by omega
  have t3 := s_cell hb (by omega : 2 * i - 2 < z)
  have t4 := s_cell hb (by omega : 2 * i - 1 < z)
  have e3 : ((2 * i - 2 : Nat) : Int) = 2 * (i : Int) - 2 := by omega
  have e4 : ((2 * i - 1 : Nat) : Int) = 2 * (i : Int) - 1 := by omega
  rw [e3] at t3
  rw [e4] at t4
  have r3 := hr (2 * i - 2) (by omega)
  have r4 := hr (2 * i - 1) (by omega)
  have sp3 := s_poX hn h.2.1 (a := rw (2 * i - 2)) (by omega) (by omega)
  by_cases c6 : 0 ≤ rw (2 * i - 2) ∧ rw (2 * i - 2) < n
  rotate_left
  · simp +decide (maxSteps := 2000000) (disch := omega) only [↓gl_p, ↓bs_p, iI_lit, iI_neg, iI_add, iI_sub, iI_mul, gk_p, bs_p, bz0, bz1, pI_row, pI_snd, pA_row, pA_snd, pL_fst, pL_row, pB_fst, pB_row, upd_at, ↓reduceIte, Int.reduceToNat, Nat.reduceEqDiff, iI_lt, iI_le, iI_eq, iI_inb, iI_nat, iI_nz, hl, c1, c2, t1, t2, t3, lL_32, sp, sp3, bI_0, c3, c4, c5, c6, w9, not_true_eq_false, not_false_eq_true, and_self]
  have w := s_wyX2 h c6 c3
  have wr := wy_rg h (Or.inl (by omega) : okP n (rw (2 * i - 2)).toNat) (Or.inl (by omega) : okP n (rw (2 * i)).toNat)
  generalize wy (x.1 2) (rw (2 * i - 2)).toNat (rw (2 * i)).toNat = v at w wr
  simp +decide (maxSteps := 2000000) (disch := omega) only [↓gl_p, ↓bs_p, iI_lit, iI_neg, iI_add, iI_sub, iI_mul, gk_p, bs_p, bz0, bz1, pI_row, pI_snd, pA_row, pA_snd, pL_fst, pL_row, pB_fst, pB_row, upd_at, ↓reduceIte, Int.reduceToNat, Nat.reduceEqDiff, iI_lt, iI_le, iI_eq, iI_inb, iI_nat, iI_nz, hl, c1, c2, t1, t2, t3, t4, lL_32, sp, sp3, bI_0, c3, c4, c5, c6, w9, w, s_stand hd, jmax_i, not_true_eq_false, and_self]
  (repeat' split) <;> first | rfl | (exfalso; omega) | (congr 2; omega)
end
def pW (l : Nat → Int) : Nat → Nat → Int
  | 0, _ => -2
  | r + 1, i => if l i < 0 then i else pW l r (i + 1)
def pS (l : Nat → Int) : Nat → Nat → Int → Int
  | 0, _, s => s
  | r + 1, i, s => if l i < 0 then s else pS l r (i + 1) (s + l i)
def pM (l : Nat → Int) : Nat → Nat → Int → Int → Int
  | 0, _, _, w => w
  | r + 1, i, mo, w => if l i < 0 then w else if l i ≤ mo then pM l r (i + 1) mo w else pM l r (i + 1) (l i) i
def pF (l : Nat → Int) : Nat → Nat → Int → Int
  | 0, _, c => c
  | r + 1, i, c => if l i < 0 then pF l r (i + 1) (c + 1) else pF l r (i + 1) c
def pA4 (w a b c d : Int) : Int := if w = 0 then a else if w = 1 then b else if w = 2 then c else d
section
variable {x m : gS} {s z N : Nat} {l : Nat → Int}
theorem w_paM2 (hs : s < 6) (hz : z ≤ 60) (hl : m.1 25 s = iI z) (hN : N = (z + 1) / 2) (lr : ∀ i, -70000 ≤ l i ∧ l i ≤ 70000) (hla : ∀ i, i < N → f_X10_later m (iI s) (iI i) = some (iI (l i))) {w : Int} (w1 : 0 ≤ w) (w2 : w ≤ 3) {j : Int} (j1 : 0 ≤ j) (j2 : j ≤ 60) (sl mo wh : Int) : ∀ (r i f : Nat) (fo : Int), i + r = N → r ≤ f → f_X10_paper_51 m (f + 1) (iI s) (iI w) (iI j) (iI sl) (iI mo) (iI wh) (iI fo) (iI i) = some (iI (pA4 w j sl wh (pF l r i fo))) := by
  have cj : ¬ j = -2 := by omega
  intro r
  induction r with
  | zero =>
    intro i f fo hi hf
    have g : (z : Int) ≤ 2 * (i : Int) := by omega
    rw [f_X10_paper_51]
    simp +decide (maxSteps := 2000000) (disch := omega) only [↓gl_p, ↓bs_p, iI_lit, iI_neg, iI_add, iI_sub, iI_mul, gk_p, bs_p, bz0, bz1, pI_row, pI_snd, pA_row, pA_snd, pL_fst, pL_row, pB_fst, pB_row, upd_at, ↓reduceIte, Int.reduceToNat, Nat.reduceEqDiff, iI_lt, iI_le, iI_eq, iI_inb, iI_nat, iI_nz, hl, g, Int.toNat_natCast]
    unfold pA4 pF
    (repeat' split) <;> rfl
  | succ r ih =>
    intro i f fo hi hf
    obtain ⟨f, rfl⟩ : ∃ q, f = q + 1 := ⟨f - 1, by omega⟩
    have g : ¬ (z : Int) ≤ 2 * (i : Int) := by omega
    have l1 := lr i
    have w0 := hla i (by omega)
    rw [f_X10_paper_51, w0]
    unfold f_X10_paper_92
    by_cases c : l i < 0
    · have c2 : ¬ 0 ≤ l i := by omega
      have k := ih (i + 1) f (fo + 1) (by omega) (by omega)
      simp +decide (maxSteps := 2000000) (disch := omega) only [↓gl_p, ↓bs_p, iI_lit, iI_neg, iI_add, iI_sub, iI_mul, gk_p, bs_p, bz0, bz1, pI_row, pI_snd, pA_row, pA_snd, pL_fst, pL_row, pB_fst, pB_row, upd_at, ↓reduceIte, Int.reduceToNat, Nat.reduceEqDiff, iI_lt, iI_le, iI_eq, iI_inb, iI_nat, iI_nz, hl, g, Int.toNat_natCast, c2, cj]
      rw [show pF l (r + 1) i fo = pF l r (i + 1) (fo + 1) from if_pos c]
      exact k
    · have c2 : 0 ≤ l i := by omega
      have k := ih (i + 1) f fo (by omega) (by omega)
      simp +decide (maxSteps := 2000000) (disch := omega) only [↓gl_p, ↓bs_p, iI_lit, iI_neg, iI_add, iI_sub, iI_mul, gk_p, bs_p, bz0, bz1, pI_row, pI_snd, pA_row, pA_snd, pL_fst, pL_row, pB_fst, pB_row, upd_at, ↓reduceIte, Int.reduceToNat, Nat.reduceEqDiff, iI_lt, iI_le, iI_eq, iI_inb, iI_nat, iI_nz, hl, g, Int.toNat_natCast, c2, cj]
      rw [show pF l (r + 1) i fo = pF l r (i + 1) fo from if_neg c]
      exact k
theorem w_paM (hs : s < 6) (hz : z ≤ 60) (hl : m.1 25 s = iI z) (hN : N = (z + 1) / 2) (lr : ∀ i, -70000 ≤ l i ∧ l i ≤ 70000) (hla : ∀ i, i < N → f_X10_later m (iI s) (iI i) = some (iI (l i))) {w : Int} (w1 : 0 ≤ w) (w2 : w ≤ 3) : ∀ (r i f : Nat) (sl mo wh fo : Int), i + r = N → r ≤ f → 0 ≤ mo → mo ≤ 70000 → f_X10_paper_51 m (f + 1) (iI s) (iI w) (iI (-2)) (iI sl) (iI mo) (iI wh) (iI fo) (iI i) = some (iI (pA4 w (pW l r i) (pS l r i sl) (pM l r i mo wh) (pF l r i fo))) := by
  intro r
  induction r with
  | zero =>
    intro i f sl mo wh fo hi hf m1 m2
    have g : (z : Int) ≤ 2 * (i : Int) := by omega
    rw [f_X10_paper_51]
    simp +decide (maxSteps := 2000000) (disch := omega) only [↓gl_p, ↓bs_p, iI_lit, iI_neg, iI_add, iI_sub, iI_mul, gk_p, bs_p, bz0, bz1, pI_row, pI_snd, pA_row, pA_snd, pL_fst, pL_row, pB_fst, pB_row, upd_at, ↓reduceIte, Int.reduceToNat, Nat.reduceEqDiff, iI_lt, iI_le, iI_eq, iI_inb, iI_nat, iI_nz, hl, g, Int.toNat_natCast]
    unfold pA4 pF pW pS pM
    (repeat' split) <;> rfl
  | succ r ih =>
    intro i f sl mo wh fo hi hf m1 m2
    obtain ⟨f, rfl⟩ : ∃ q, f = q + 1 := ⟨f - 1, by omega⟩
    have g : ¬ (z : Int) ≤ 2 * (i : Int) := by omega
    have l1 := lr i
    have w0 := hla i (by omega)
    rw [f_X10_paper_51, w0]
    unfold f_X10_paper_92
    by_cases c : l i < 0
    · have c2 : ¬ 0 ≤ l i := by omega
      have ci : ¬ (i : Int) = -2 := by omega
      have k := w_paM2 hs hz hl hN lr hla w1 w2 (j := (i : Int)) (by omega) (by omega) sl mo wh r (i + 1) f (fo + 1) (by omega) (by omega)
      simp +decide (maxSteps := 2000000) (disch := omega) only [↓gl_p, ↓bs_p, iI_lit, iI_neg, iI_add, iI_sub, iI_mul, gk_p, bs_p, bz0, bz1, pI_row, pI_snd, pA_row, pA_snd, pL_fst, pL_row, pB_fst, pB_row, upd_at, ↓reduceIte, Int.reduceToNat, Nat.reduceEqDiff, iI_lt, iI_le, iI_eq, iI_inb, iI_nat, iI_nz, hl, g, Int.toNat_natCast, c2, ci]
      rw [show pF l (r + 1) i fo = pF l r (i + 1) (fo + 1) from if_pos c, show pW l (r + 1) i = i from if_pos c, show pS l (r + 1) i sl = sl from if_pos c, show pM l (r + 1) i mo wh = wh from if_pos c]
      exact k
    · have c2 : 0 ≤ l i := by omega
      rw [show pF l (r + 1) i fo = pF l r (i + 1) fo from if_neg c, show pW l (r + 1) i = pW l r (i + 1) from if_neg c, show pS l (r + 1) i sl = pS l r (i + 1) (sl + l i) from if_neg c, show pM l (r + 1) i mo wh = if l i ≤ mo then pM l r (i + 1) mo wh else pM l r (i + 1) (l i) i from if_neg c]
      by_cases c3 : l i ≤ mo
      · have c4 : ¬ mo < l i := by omega
        have k := ih (i + 1) f (sl + l i) mo wh fo (by omega) (by omega) m1 m2
        simp +decide (maxSteps := 2000000) (disch := omega) only [↓gl_p, ↓bs_p, iI_lit, iI_neg, iI_add, iI_sub, iI_mul, gk_p, bs_p, bz0, bz1, pI_row, pI_snd, pA_row, pA_snd, pL_fst, pL_row, pB_fst, pB_row, upd_at, ↓reduceIte, Int.reduceToNat, Nat.reduceEqDiff, iI_lt, iI_le, iI_eq, iI_inb, iI_nat, iI_nz, hl, g, Int.toNat_natCast, c2, c3, c4]
        exact k
      · have c4 : mo < l i := by omega
        have k := ih (i + 1) f (sl + l i) (l i) i fo (by omega) (by omega) (by omega) (by omega)
        simp +decide (maxSteps := 2000000) (disch := omega) only [↓gl_p, ↓bs_p, iI_lit, iI_neg, iI_add, iI_sub, iI_mul, gk_p, bs_p, bz0, bz1, pI_row, pI_snd, pA_row, pA_snd, pL_fst, pL_row, pB_fst, pB_row, upd_at, ↓reduceIte, Int.reduceToNat, Nat.reduceEqDiff, iI_lt, iI_le, iI_eq, iI_inb, iI_nat, iI_nz, hl, g, Int.toNat_natCast, c2, c3, c4]
        exact k
def spr (v : Int) : Int := if v < 0 then -1 else v
theorem spr_p {v : Int} (h : v < 0) : spr v = -1 := if_pos h
theorem spr_n {v : Int} (h : ¬ v < 0) : spr v = v := if_neg h
theorem w_p0 (hN : N ≤ 30) (lr : ∀ i, -70000 ≤ l i ∧ l i ≤ 70000) {K : Nat} (hla : ∀ i, i < N → f_X9_spare x K (iI i) = some (iI (spr (l i)))) : ∀ (r i f : Nat), i + r = N → r ≤ f → f_X9_firstThatCannotBe_7 x K (f + 1) (iI N) (iI i) = some (iI (pW l r i)) := by
  intro r
  induction r with
  | zero =>
    intro i f hi hf
    have g : (N : Int) ≤ (i : Int) := by omega
    rw [f_X9_firstThatCannotBe_7]
    simp +decide (maxSteps := 2000000) (disch := omega) only [↓gl_p, ↓bs_p, iI_lit, iI_neg, iI_add, iI_sub, iI_mul, gk_p, bs_p, bz0, bz1, pI_row, pI_snd, pA_row, pA_snd, pL_fst, pL_row, pB_fst, pB_row, upd_at, ↓reduceIte, Int.reduceToNat, Nat.reduceEqDiff, iI_lt, iI_le, iI_eq, iI_inb, iI_nat, iI_nz, g]
    rfl
  | succ r ih =>
    intro i f hi hf
    obtain ⟨f, rfl⟩ : ∃ q, f = q + 1 := ⟨f - 1, by omega⟩
    have g : ¬ (N : Int) ≤ (i : Int) := by omega
    have l1 := lr i
    rw [f_X9_firstThatCannotBe_7, hla i (by omega)]
    by_cases c : l i < 0
    · rw [spr_p c, show pW l (r + 1) i = i from if_pos c]
      simp +decide (maxSteps := 2000000) (disch := omega) only [↓gl_p, ↓bs_p, iI_lit, iI_neg, iI_add, iI_sub, iI_mul, gk_p, bs_p, bz0, bz1, pI_row, pI_snd, pA_row, pA_snd, pL_fst, pL_row, pB_fst, pB_row, upd_at, ↓reduceIte, Int.reduceToNat, Nat.reduceEqDiff, iI_lt, iI_le, iI_eq, iI_inb, iI_nat, iI_nz, g]
    · have c2 : 0 ≤ l i := by omega
      have k := ih (i + 1) f (by omega) (by omega)
      rw [spr_n c, show pW l (r + 1) i = pW l r (i + 1) from if_neg c]
      simp +decide (maxSteps := 2000000) (disch := omega) only [↓gl_p, ↓bs_p, iI_lit, iI_neg, iI_add, iI_sub, iI_mul, gk_p, bs_p, bz0, bz1, pI_row, pI_snd, pA_row, pA_snd, pL_fst, pL_row, pB_fst, pB_row, upd_at, ↓reduceIte, Int.reduceToNat, Nat.reduceEqDiff, iI_lt, iI_le, iI_eq, iI_inb, iI_nat, iI_nz, g, c2]
      exact k
theorem w_p1 (hN : N ≤ 30) (lr : ∀ i, -70000 ≤ l i ∧ l i ≤ 70000) {K : Nat} (hla : ∀ i, i < N → f_X9_spare x K (iI i) = some (iI (spr (l i)))) : ∀ (r i f : Nat) (sl : Int), i + r = N → r ≤ f → f_X9_slept_10 x K (f + 1) (iI N) (iI sl) (iI i) = some (iI (pS l r i sl)) := by
  intro r
  induction r with
  | zero =>
    intro i f sl hi hf
    have g : (N : Int) ≤ (i : Int) := by omega
    rw [f_X9_slept_10]
    simp +decide (maxSteps := 2000000) (disch := omega) only [↓gl_p, ↓bs_p, iI_lit, iI_neg, iI_add, iI_sub, iI_mul, gk_p, bs_p, bz0, bz1, pI_row, pI_snd, pA_row, pA_snd, pL_fst, pL_row, pB_fst, pB_row, upd_at, ↓reduceIte, Int.reduceToNat, Nat.reduceEqDiff, iI_lt, iI_le, iI_eq, iI_inb, iI_nat, iI_nz, g]
    rfl
  | succ r ih =>
    intro i f sl hi hf
    obtain ⟨f, rfl⟩ : ∃ q, f = q + 1 := ⟨f - 1, by omega⟩
    have g : ¬ (N : Int) ≤ (i : Int) := by omega
    have l1 := lr i
    rw [f_X9_slept_10, hla i (by omega)]
    by_cases c : l i < 0
    · rw [spr_p c, show pS l (r + 1) i sl = sl from if_pos c]
      simp +decide (maxSteps := 2000000) (disch := omega) only [↓gl_p, ↓bs_p, iI_lit, iI_neg, iI_add, iI_sub, iI_mul, gk_p, bs_p, bz0, bz1, pI_row, pI_snd, pA_row, pA_snd, pL_fst, pL_row, pB_fst, pB_row, upd_at, ↓reduceIte, Int.reduceToNat, Nat.reduceEqDiff, iI_lt, iI_le, iI_eq, iI_inb, iI_nat, iI_nz, g]
    · have c2 : 0 ≤ l i := by omega
      have k := ih (i + 1) f (sl + l i) (by omega) (by omega)
      rw [spr_n c, show pS l (r + 1) i sl = pS l r (i + 1) (sl + l i) from if_neg c]
      simp +decide (maxSteps := 2000000) (disch := omega) only [↓gl_p, ↓bs_p, iI_lit, iI_neg, iI_add, iI_sub, iI_mul, gk_p, bs_p, bz0, bz1, pI_row, pI_snd, pA_row, pA_snd, pL_fst, pL_row, pB_fst, pB_row, upd_at, ↓reduceIte, Int.reduceToNat, Nat.reduceEqDiff, iI_lt, iI_le, iI_eq, iI_inb, iI_nat, iI_nz, g, c2]
      exact k
theorem w_p2 (hN : N ≤ 30) (lr : ∀ i, -70000 ≤ l i ∧ l i ≤ 70000) {K : Nat} (hla : ∀ i, i < N → f_X9_spare x K (iI i) = some (iI (spr (l i)))) : ∀ (r i f : Nat) (mo wh : Int), i + r = N → r ≤ f → 0 ≤ mo → mo ≤ 70000 → f_X9_whereMostSlept_14 x K (f + 1) (iI N) (iI mo) (iI wh) (iI i) = some (iI (pM l r i mo wh)) := by
  intro r
  induction r with
  | zero =>
    intro i f mo wh hi hf m1 m2
    have g : (N : Int) ≤ (i : Int) := by omega
    rw [f_X9_whereMostSlept_14]
    simp +decide (maxSteps := 2000000) (disch := omega) only [↓gl_p, ↓bs_p, iI_lit, iI_neg, iI_add, iI_sub, iI_mul, gk_p, bs_p, bz0, bz1, pI_row, pI_snd, pA_row, pA_snd, pL_fst, pL_row, pB_fst, pB_row, upd_at, ↓reduceIte, Int.reduceToNat, Nat.reduceEqDiff, iI_lt, iI_le, iI_eq, iI_inb, iI_nat, iI_nz, g]
    rfl
  | succ r ih =>
    intro i f mo wh hi hf m1 m2
    obtain ⟨f, rfl⟩ : ∃ q, f = q + 1 := ⟨f - 1, by omega⟩
    have g : ¬ (N : Int) ≤ (i : Int) := by omega
    have l1 := lr i
    rw [f_X9_whereMostSlept_14, hla i (by omega)]
    by_cases c : l i < 0
    · rw [spr_p c, show pM l (r + 1) i mo wh = wh from if_pos c]
      simp +decide (maxSteps := 2000000) (disch := omega) only [↓gl_p, ↓bs_p, iI_lit, iI_neg, iI_add, iI_sub, iI_mul, gk_p, bs_p, bz0, bz1, pI_row, pI_snd, pA_row, pA_snd, pL_fst, pL_row, pB_fst, pB_row, upd_at, ↓reduceIte, Int.reduceToNat, Nat.reduceEqDiff, iI_lt, iI_le, iI_eq, iI_inb, iI_nat, iI_nz, g]
    · have c2 : 0 ≤ l i := by omega
      rw [spr_n c, show pM l (r + 1) i mo wh = if l i ≤ mo then pM l r (i + 1) mo wh else pM l r (i + 1) (l i) i from if_neg c]
      by_cases c3 : l i ≤ mo
      · have k := ih (i + 1) f mo wh (by omega) (by omega) m1 m2
        simp +decide (maxSteps := 2000000) (disch := omega) only [↓gl_p, ↓bs_p, iI_lit, iI_neg, iI_add, iI_sub, iI_mul, gk_p, bs_p, bz0, bz1, pI_row, pI_snd, pA_row, pA_snd, pL_fst, pL_row, pB_fst, pB_row, upd_at, ↓reduceIte, Int.reduceToNat, Nat.reduceEqDiff, iI_lt, iI_le, iI_eq, iI_inb, iI_nat, iI_nz, g, c2, c3]
        exact k
      · have k := ih (i + 1) f (l i) i (by omega) (by omega) (by omega) (by omega)
        simp +decide (maxSteps := 2000000) (disch := omega) only [↓gl_p, ↓bs_p, iI_lit, iI_neg, iI_add, iI_sub, iI_mul, gk_p, bs_p, bz0, bz1, pI_row, pI_snd, pA_row, pA_snd, pL_fst, pL_row, pB_fst, pB_row, upd_at, ↓reduceIte, Int.reduceToNat, Nat.reduceEqDiff, iI_lt, iI_le, iI_eq, iI_inb, iI_nat, iI_nz, g, c2, c3]
        exact k
theorem w_p3 (hN : N ≤ 30) (lr : ∀ i, -70000 ≤ l i ∧ l i ≤ 70000) {K : Nat} (hla : ∀ i, i < N → f_X9_spare x K (iI i) = some (iI (spr (l i)))) : ∀ (r i f : Nat) (fo : Int), i + r = N → r ≤ f → f_X9_forged_10 x K (f + 1) (iI N) (iI fo) (iI i) = some (iI (pF l r i fo)) := by
  intro r
  induction r with
  | zero =>
    intro i f fo hi hf
    have g : (N : Int) ≤ (i : Int) := by omega
    rw [f_X9_forged_10]
    simp +decide (maxSteps := 2000000) (disch := omega) only [↓gl_p, ↓bs_p, iI_lit, iI_neg, iI_add, iI_sub, iI_mul, gk_p, bs_p, bz0, bz1, pI_row, pI_snd, pA_row, pA_snd, pL_fst, pL_row, pB_fst, pB_row, upd_at, ↓reduceIte, Int.reduceToNat, Nat.reduceEqDiff, iI_lt, iI_le, iI_eq, iI_inb, iI_nat, iI_nz, g]
    rfl
  | succ r ih =>
    intro i f fo hi hf
    obtain ⟨f, rfl⟩ : ∃ q, f = q + 1 := ⟨f - 1, by omega⟩
    have g : ¬ (N : Int) ≤ (i : Int) := by omega
    have l1 := lr i
    rw [f_X9_forged_10, hla i (by omega)]
    by_cases c : l i < 0
    · have k := ih (i + 1) f (fo + 1) (by omega) (by omega)
      rw [spr_p c, show pF l (r + 1) i fo = pF l r (i + 1) (fo + 1) from if_pos c]
      simp +decide (maxSteps := 2000000) (disch := omega) only [↓gl_p, ↓bs_p, iI_lit, iI_neg, iI_add, iI_sub, iI_mul, gk_p, bs_p, bz0, bz1, pI_row, pI_snd, pA_row, pA_snd, pL_fst, pL_row, pB_fst, pB_row, upd_at, ↓reduceIte, Int.reduceToNat, Nat.reduceEqDiff, iI_lt, iI_le, iI_eq, iI_inb, iI_nat, iI_nz, g]
      exact k
    · have c2 : 0 ≤ l i := by omega
      have k := ih (i + 1) f fo (by omega) (by omega)
      rw [spr_n c, show pF l (r + 1) i fo = pF l r (i + 1) fo from if_neg c]
      simp +decide (maxSteps := 2000000) (disch := omega) only [↓gl_p, ↓bs_p, iI_lit, iI_neg, iI_add, iI_sub, iI_mul, gk_p, bs_p, bz0, bz1, pI_row, pI_snd, pA_row, pA_snd, pL_fst, pL_row, pB_fst, pB_row, upd_at, ↓reduceIte, Int.reduceToNat, Nat.reduceEqDiff, iI_lt, iI_le, iI_eq, iI_inb, iI_nat, iI_nz, g, c2]
      exact k
end
theorem s_twos {x : gS} {K z : Nat} (hz : z ≤ 60) (e : x.1 K 4 = iI z) : f_X5_twos x K = some (iI ((z + 1) / 2 : Nat)) := by
  have r : (iI z + 1) / 2 = iI (((z + 1) / 2 : Nat) : Int) := by
    rw [iI_s, show (2 : Int32) = iI 2 from rfl, iI_div (by omega) (by omega) (by omega) (by omega)]
    rfl
  unfold f_X5_twos
  rw [e, r]
  rfl
theorem s_nr1 {m : gS} {s : Nat} (hs : s < 6) {q : Int32} (e : m.1 24 s = iI (-1)) : f_X10_noRow m (iI s) q = some (iI (-11)) := by
  unfold f_X10_noRow
  simp +decide (maxSteps := 2000000) (disch := omega) only [↓gl_p, ↓bs_p, iI_lit, iI_neg, iI_add, iI_sub, iI_mul, gk_p, bs_p, bz0, bz1, pI_row, pI_snd, pA_row, pA_snd, pL_fst, pL_row, pB_fst, pB_row, upd_at, ↓reduceIte, Int.reduceToNat, Nat.reduceEqDiff, iI_lt, iI_le, iI_eq, iI_inb, iI_nat, iI_nz, e, Int.toNat_natCast]
theorem s_nr2 {m : gS} {s : Nat} (hs : s < 6) {h q : Nat} (e : m.1 24 s = iI h) (hh : h ≤ 60) (hq : q ≤ 1) (hne : h ≠ q) : f_X10_noRow m (iI s) (iI q) = some (iI (-12)) := by
  have d1 : ¬ (h : Int) = -1 := by omega
  have d2 : ¬ (h : Int) = q := by omega
  unfold f_X10_noRow
  simp +decide (maxSteps := 2000000) (disch := omega) only [↓gl_p, ↓bs_p, iI_lit, iI_neg, iI_add, iI_sub, iI_mul, gk_p, bs_p, bz0, bz1, pI_row, pI_snd, pA_row, pA_snd, pL_fst, pL_row, pB_fst, pB_row, upd_at, ↓reduceIte, Int.reduceToNat, Nat.reduceEqDiff, iI_lt, iI_le, iI_eq, iI_inb, iI_nat, iI_nz, e, d1, d2, Int.toNat_natCast]
theorem s_nr0 {m : gS} {s : Nat} (hs : s < 6) {q : Nat} (e : m.1 24 s = iI q) (hq : q ≤ 1) : f_X10_noRow m (iI s) (iI q) = some (iI 0) := by
  have d1 : ¬ (q : Int) = -1 := by omega
  unfold f_X10_noRow
  simp +decide (maxSteps := 2000000) (disch := omega) only [↓gl_p, ↓bs_p, iI_lit, iI_neg, iI_add, iI_sub, iI_mul, gk_p, bs_p, bz0, bz1, pI_row, pI_snd, pA_row, pA_snd, pL_fst, pL_row, pB_fst, pB_row, upd_at, ↓reduceIte, Int.reduceToNat, Nat.reduceEqDiff, iI_lt, iI_le, iI_eq, iI_inb, iI_nat, iI_nz, e, d1, Int.toNat_natCast]
theorem e_paper (L : LawT) : EQ_paper (Rel1 L) := by
  intro x m a1 a2 hR
  obtain ⟨s, rfl, hs1, hs2⟩ := iI_of a1
  obtain ⟨w, rfl, hw1, hw2⟩ := iI_of a2
  obtain ⟨⟨n, nb, hP, hC, hT, hD, hI, hK, hS⟩, hL⟩ := id hR
  have hn := hP.1
  unfold f_X9_paper f_X10_paper
  by_cases c1 : 0 ≤ s ∧ s ≤ 5
  rotate_left
  · simp +decide (maxSteps := 2000000) (disch := omega) only [↓gl_p, ↓bs_p, iI_lit, iI_neg, iI_add, iI_sub, iI_mul, gk_p, bs_p, bz0, bz1, pI_row, pI_snd, pA_row, pA_snd, pL_fst, pL_row, pB_fst, pB_row, upd_at, ↓reduceIte, Int.reduceToNat, Nat.reduceEqDiff, iI_lt, iI_le, iI_eq, iI_inb, iI_nat, iI_nz, c1, s_shX, s_shM, bI_0, not_false_eq_true]
    exact ⟨_, rfl, rfl, hR⟩
  by_cases c2 : 0 ≤ w ∧ w ≤ 3
  rotate_left
  · by_cases c3 : w < 0
    · simp +decide (maxSteps := 2000000) (disch := omega) only [↓gl_p, ↓bs_p, iI_lit, iI_neg, iI_add, iI_sub, iI_mul, gk_p, bs_p, bz0, bz1, pI_row, pI_snd, pA_row, pA_snd, pL_fst, pL_row, pB_fst, pB_row, upd_at, ↓reduceIte, Int.reduceToNat, Nat.reduceEqDiff, iI_lt, iI_le, iI_eq, iI_inb, iI_nat, iI_nz, c1, c2, c3, s_shX, s_shM, s_wi, bI_0, not_false_eq_true, not_true_eq_false, and_self]
      exact ⟨_, rfl, rfl, hR⟩
    · have c4 : ¬ w ≤ 3 := by omega
      simp +decide (maxSteps := 2000000) (disch := omega) only [↓gl_p, ↓bs_p, iI_lit, iI_neg, iI_add, iI_sub, iI_mul, gk_p, bs_p, bz0, bz1, pI_row, pI_snd, pA_row, pA_snd, pL_fst, pL_row, pB_fst, pB_row, upd_at, ↓reduceIte, Int.reduceToNat, Nat.reduceEqDiff, iI_lt, iI_le, iI_eq, iI_inb, iI_nat, iI_nz, c1, c2, c3, c4, s_shX, s_shM, s_wi, bI_0, not_false_eq_true, not_true_eq_false, and_self, and_false]
      exact ⟨_, rfl, rfl, hR⟩
  have c3 : ¬ w < 0 := by omega
  have c4 : w ≤ 3 := by omega
  obtain ⟨k, hk, rfl⟩ : ∃ k : Nat, k < 6 ∧ s = (k : Int) := ⟨s.toNat, by omega, by omega⟩
  simp +decide (maxSteps := 2000000) (disch := omega) only [↓gl_p, ↓bs_p, iI_lit, iI_neg, iI_add, iI_sub, iI_mul, gk_p, bs_p, bz0, bz1, pI_row, pI_snd, pA_row, pA_snd, pL_fst, pL_row, pB_fst, pB_row, upd_at, ↓reduceIte, Int.reduceToNat, Nat.reduceEqDiff, iI_lt, iI_le, iI_eq, iI_inb, iI_nat, iI_nz, c1, c2, c3, c4, s_shX, s_shM, s_wi, bI_0, not_false_eq_true, not_true_eq_false, and_self, s_shAt, Int.toNat_natCast]
  rcases s_ref hk hK.1 hS (q0 := 1) (Or.inr ⟨rfl, rfl, rfl⟩) with ⟨r1, r2, -⟩ | ⟨r1, ⟨h, r2, r3, r4⟩, -⟩ | ⟨r1, z, rw, hb⟩
  · have nr := s_nr1 hk (q := iI 1) r2
    simp only [show f_X5_refusalFor x (14 + 2 * k) (iI 1) = _ from r1, nr]
    simp +decide (maxSteps := 2000000) (disch := omega) only [↓gl_p, ↓bs_p, iI_lit, iI_neg, iI_add, iI_sub, iI_mul, gk_p, bs_p, bz0, bz1, pI_row, pI_snd, pA_row, pA_snd, pL_fst, pL_row, pB_fst, pB_row, upd_at, ↓reduceIte, Int.reduceToNat, Nat.reduceEqDiff, iI_lt, iI_le, iI_eq, iI_inb, iI_nat, iI_nz]
    exact ⟨_, rfl, rfl, hR⟩
  · have nr := s_nr2 hk (q := 1) r2 (by omega) (by omega) r3
    simp only [show f_X5_refusalFor x (14 + 2 * k) (iI 1) = _ from r1, show f_X10_noRow m (iI k) (iI 1) = _ from nr]
    simp +decide (maxSteps := 2000000) (disch := omega) only [↓gl_p, ↓bs_p, iI_lit, iI_neg, iI_add, iI_sub, iI_mul, gk_p, bs_p, bz0, bz1, pI_row, pI_snd, pA_row, pA_snd, pL_fst, pL_row, pB_fst, pB_row, upd_at, ↓reduceIte, Int.reduceToNat, Nat.reduceEqDiff, iI_lt, iI_le, iI_eq, iI_inb, iI_nat, iI_nz]
    exact ⟨_, rfl, rfl, hR⟩
  · have nr := s_nr0 hk (q := 1) hb.2.2.2.2.1 (by omega)
    obtain ⟨sd, hd, d1, d2⟩ := s_sd hP
    have hz := hb.1
    have lr := ltr_rg hP d1 d2 (z := z) (rw := rw) (fun i hi => ⟨(hb.2.2.2.2.2.2 i hi).1, (hb.2.2.2.2.2.2 i hi).2.1⟩)
    have hx : ∀ i, i < (z + 1) / 2 → f_X9_spare x (14 + 2 * k) (iI i) = some (iI (spr (ltr n (x.1 2) sd z rw i))) := fun i hi => s_spare hP hb hd d1 d2 (by omega)
    have hm : ∀ i, i < (z + 1) / 2 → f_X10_later m (iI k) (iI i) = some (iI (ltr n (x.1 2) sd z rw i)) := fun i hi => s_later hk hP hb hd (by omega)
    generalize ltr n (x.1 2) sd z rw = l at lr hx hm
    have km := w_paM hk hz hb.2.2.2.2.2.1 rfl lr hm c2.1 c2.2 ((z + 1) / 2) 0 999999 0 0 (-2) 0 (by omega) (by omega) (by omega) (by omega)
    have k0 := w_p0 (by omega) lr hx ((z + 1) / 2) 0 999999 (by omega) (by omega)
    have k1 := w_p1 (by omega) lr hx ((z + 1) / 2) 0 999999 0 (by omega) (by omega)
    have k2 := w_p2 (by omega) lr hx ((z + 1) / 2) 0 999999 0 (-2) (by omega) (by omega) (by omega) (by omega)
    have k3 := w_p3 (by omega) lr hx ((z + 1) / 2) 0 999999 0 (by omega) (by omega)
    have tw := s_twos hz hb.2.2.2.1
    simp only [show f_X5_refusalFor x (14 + 2 * k) (iI 1) = _ from r1, show f_X10_noRow m (iI k) (iI 1) = _ from nr]
    unfold f_X9_firstThatCannotBe f_X9_slept f_X9_whereMostSlept f_X9_forged
    rw [tw]
    have q0 : f_X9_firstThatCannotBe_7 x (14 + 2 * k) gN (iI ((z + 1) / 2 : Nat)) 0 = _ := k0
    have q1 : f_X9_slept_10 x (14 + 2 * k) gN (iI ((z + 1) / 2 : Nat)) 0 0 = _ := k1
    have q2 : f_X9_whereMostSlept_14 x (14 + 2 * k) gN (iI ((z + 1) / 2 : Nat)) 0 (-2) 0 = _ := k2
    have q3 : f_X9_forged_10 x (14 + 2 * k) gN (iI ((z + 1) / 2 : Nat)) 0 0 = _ := k3
    have qm : f_X10_paper_51 m gN (iI k) (iI w) (iI (-2)) (iI 0) (iI 0) (iI (-2)) (iI 0) (iI 0) = _ := km
    simp only [bs_p, q0, q1, q2, q3]
    simp +decide (maxSteps := 2000000) (disch := omega) only [↓gl_p, ↓bs_p, iI_lit, iI_neg, iI_add, iI_sub, iI_mul, gk_p, bs_p, bz0, bz1, pI_row, pI_snd, pA_row, pA_snd, pL_fst, pL_row, pB_fst, pB_row, upd_at, ↓reduceIte, Int.reduceToNat, Nat.reduceEqDiff, iI_lt, iI_le, iI_eq, iI_inb, iI_nat, iI_nz, qm]
    unfold pA4
    rcases (show w = 0 ∨ w = 1 ∨ w = 2 ∨ w = 3 by omega) with e | e | e | e <;> subst e <;> exact ⟨_, rfl, rfl, hR⟩
