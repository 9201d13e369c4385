/-! ===== does a round make a paper ===== -/
def mkp (w : Nat → Nat → Nat) (sd : Nat) (S : Nat → Nat) (k z : Nat) (rw : Nat → Int) : Nat → Nat → Bool
  | 0, _ => true
  | r + 1, i => if z ≤ 2 * i + 1 then false else if Tm w sd S k i < 2000 ∧ rw (2 * i) = (S (i % k) : Nat) ∧ rw (2 * i + 1) = (Tm w sd S k i : Nat) then mkp w sd S k z rw r (i + 1) else false
section
variable {w : Nat → Nat → Nat} {sd k z r i : Nat} {S : Nat → Nat} {rw : Nat → Int}
theorem mkp_y (c1 : ¬ z ≤ 2 * i + 1) (h1 : Tm w sd S k i < 2000) (h2 : rw (2 * i) = (S (i % k) : Nat)) (h3 : rw (2 * i + 1) = (Tm w sd S k i : Nat)) : mkp w sd S k z rw (r + 1) i = mkp w sd S k z rw r (i + 1) := by
  show (if z ≤ 2 * i + 1 then false else if Tm w sd S k i < 2000 ∧ rw (2 * i) = (S (i % k) : Nat) ∧ rw (2 * i + 1) = (Tm w sd S k i : Nat) then mkp w sd S k z rw r (i + 1) else false) = _
  rw [if_neg c1, if_pos ⟨h1, h2, h3⟩]
theorem mkp_n (c1 : ¬ z ≤ 2 * i + 1) (h : ¬ (Tm w sd S k i < 2000 ∧ rw (2 * i) = (S (i % k) : Nat) ∧ rw (2 * i + 1) = (Tm w sd S k i : Nat))) : mkp w sd S k z rw (r + 1) i = false := by
  show (if z ≤ 2 * i + 1 then false else if Tm w sd S k i < 2000 ∧ rw (2 * i) = (S (i % k) : Nat) ∧ rw (2 * i + 1) = (Tm w sd S k i : Nat) then mkp w sd S k z rw r (i + 1) else false) = _
  rw [if_neg c1, if_neg h]
end
theorem Tm_bd3 {n k sd : Nat} {w : Nat → Nat → Nat} {S : Nat → Nat} (hw : ∀ p q, okP n p → okP n q → w p q ≤ 270) (hd : sd ≤ 9) (hk : k ≤ 20) (hS : ∀ i, i < k → S i < n) {i : Nat} (hi : i ≤ 40) : Tm w sd S k i ≤ 300000 := by
  by_cases c : k = 0
  · unfold Tm
    rw [if_pos c]
    omega
  · have g := offs_bd hw hd hS (i % k) (Nat.mod_lt i (by omega))
    have g2 := hw 9 (S 0) (Or.inr rfl) (Or.inl (hS 0 (by omega)))
    have g3 := perd_bd hw hd hS hk
    have g4 := Nat.mul_le_mul (Nat.le_trans (Nat.div_le_self i k) hi) g3
    have g5 := Nat.mod_lt i (show 0 < k by omega)
    rw [Tm_e (by omega)]
    omega
theorem w_mk_26 {x m : gS} {n k sd s z : Nat} {w : Nat → Nat → Nat} {S : Nat → Nat} {rw : Nat → Int} (hn : n ≤ 9) (hw : ∀ p q, okP n p → okP n q → w p q ≤ 270) (hd : sd ≤ 9) (hC : CO 26 n k w sd S x) (hb : rowB 1 (-32768) 32767 s z rw x m) {N : Nat} (hN : N = (z + 1) / 2) : ∀ (r i f : Nat), i + r = N → r ≤ f → f_X1_makes_7 x 26 (14 + 2 * s) (f + 1) (iI N) (iI i) = some (bB (mkp w sd S k z rw r i)) := by
  have hz := hb.1
  have ez := hb.2.2.2.1
  have hr := hb.2.2.2.2.2.2
  have hk := hC.1
  have e4 := hC.2.2.1
  intro r
  induction r with
  | zero =>
    intro i f hi hf
    have g : (N : Int) ≤ (i : Int) := by omega
    rw [f_X1_makes_7]
    simp +decide (maxSteps := 2000000) (disch := omega) only [↓gl_p, ↓bs_p, iI_lit, iI_neg, iI_add, iI_sub, iI_mul, gk_p, bs_p, bz0, bz1, pI_row, pI_snd, pA_row, pA_snd, pL_fst, pL_row, pB_fst, pB_row, upd_at, ↓reduceIte, Int.reduceToNat, Nat.reduceEqDiff, iI_lt, iI_le, iI_eq, iI_inb, iI_nat, iI_nz, g]
    rfl
  | succ r ih =>
    intro i f hi hf
    obtain ⟨f, rfl⟩ : ∃ q, f = q + 1 := ⟨f - 1, by omega⟩
    have g : ¬ (N : Int) ≤ (i : Int) := by omega
    rw [f_X1_makes_7]
    by_cases c1 : z ≤ 2 * i + 1
    · have c2 : (z : Int) ≤ 2 * (i : Int) + 1 := by omega
      rw [show mkp w sd S k z rw (r + 1) i = false from if_pos c1]
      simp +decide (maxSteps := 2000000) (disch := omega) only [↓gl_p, ↓bs_p, iI_lit, iI_neg, iI_add, iI_sub, iI_mul, gk_p, bs_p, bz0, bz1, pI_row, pI_snd, pA_row, pA_snd, pL_fst, pL_row, pB_fst, pB_row, upd_at, ↓reduceIte, Int.reduceToNat, Nat.reduceEqDiff, iI_lt, iI_le, iI_eq, iI_inb, iI_nat, iI_nz, g, ez, c2]
    · have c2 : ¬ (z : Int) ≤ 2 * (i : Int) + 1 := by omega
      by_cases c3 : k = 0
      · have c4 := eq_true (show (k : Int) = 0 by omega)
        have c5 : ¬ (Tm w sd S k i < 2000 ∧ rw (2 * i) = (S (i % k) : Nat) ∧ rw (2 * i + 1) = (Tm w sd S k i : Nat)) := fun h => by
          have q := h.1
          unfold Tm at q
          rw [if_pos c3] at q
          omega
        rw [mkp_n c1 c5]
        simp +decide (maxSteps := 2000000) (disch := omega) only [↓gl_p, ↓bs_p, iI_lit, iI_neg, iI_add, iI_sub, iI_mul, gk_p, bs_p, bz0, bz1, pI_row, pI_snd, pA_row, pA_snd, pL_fst, pL_row, pB_fst, pB_row, upd_at, ↓reduceIte, Int.reduceToNat, Nat.reduceEqDiff, iI_lt, iI_le, iI_eq, iI_inb, iI_nat, iI_nz, g, ez, c2, e4, c4]
      · have c4 : ¬ (k : Int) = 0 := by omega
        have hSi := hC.2.1 (i % k) (Nat.mod_lt i (by omega))
        have bT := Tm_bd3 hw hd hk hC.2.1 (i := i) (by omega)
        have mi := s_minu_26 hC (by omega) (i := i) (by omega)
        have st := s_stop_26 hC (by omega) (i := i) (by omega)
        have t1 := s_cell hb (show 2 * i < z by omega)
        have t2 := s_cell hb (show 2 * i + 1 < z by omega)
        rw [show ((2 * i : Nat) : Int) = 2 * (i : Int) by omega] at t1
        rw [show ((2 * i + 1 : Nat) : Int) = 2 * (i : Int) + 1 by omega] at t2
        have r1 := hr (2 * i) (by omega)
        have r2 := hr (2 * i + 1) (by omega)
        by_cases c5 : Tm w sd S k i < 2000
        · have c6 : ((Tm w sd S k i : Nat) : Int) ≤ 1999 := by omega
          by_cases c7 : rw (2 * i) = (S (i % k) : Nat)
          · by_cases c8 : rw (2 * i + 1) = (Tm w sd S k i : Nat)
            · have k2 := ih (i + 1) f (by omega) (by omega)
              rw [mkp_y c1 c5 c7 c8]
              simp +decide (maxSteps := 2000000) (disch := omega) only [↓gl_p, ↓bs_p, iI_lit, iI_neg, iI_add, iI_sub, iI_mul, gk_p, bs_p, bz0, bz1, pI_row, pI_snd, pA_row, pA_snd, pL_fst, pL_row, pB_fst, pB_row, upd_at, ↓reduceIte, Int.reduceToNat, Nat.reduceEqDiff, iI_lt, iI_le, iI_eq, iI_inb, iI_nat, iI_nz, g, ez, c2, e4, c4, mi, st, t1, t2, c6, lL_i, lc_eq, eq_true c7, eq_true c8]
              exact k2
            · rw [mkp_n c1 (fun h => c8 h.2.2)]
              simp +decide (maxSteps := 2000000) (disch := omega) only [↓gl_p, ↓bs_p, iI_lit, iI_neg, iI_add, iI_sub, iI_mul, gk_p, bs_p, bz0, bz1, pI_row, pI_snd, pA_row, pA_snd, pL_fst, pL_row, pB_fst, pB_row, upd_at, ↓reduceIte, Int.reduceToNat, Nat.reduceEqDiff, iI_lt, iI_le, iI_eq, iI_inb, iI_nat, iI_nz, g, ez, c2, e4, c4, mi, st, t1, t2, c6, lL_i, lc_eq, eq_true c7, c8]
          · rw [mkp_n c1 (fun h => c7 h.2.1)]
            simp +decide (maxSteps := 2000000) (disch := omega) only [↓gl_p, ↓bs_p, iI_lit, iI_neg, iI_add, iI_sub, iI_mul, gk_p, bs_p, bz0, bz1, pI_row, pI_snd, pA_row, pA_snd, pL_fst, pL_row, pB_fst, pB_row, upd_at, ↓reduceIte, Int.reduceToNat, Nat.reduceEqDiff, iI_lt, iI_le, iI_eq, iI_inb, iI_nat, iI_nz, g, ez, c2, e4, c4, mi, st, t1, c6, lL_i, lc_eq, c7]
        · have c6 : ¬ ((Tm w sd S k i : Nat) : Int) ≤ 1999 := by omega
          rw [mkp_n c1 (fun h => c5 h.1)]
          simp +decide (maxSteps := 2000000) (disch := omega) only [↓gl_p, ↓bs_p, iI_lit, iI_neg, iI_add, iI_sub, iI_mul, gk_p, bs_p, bz0, bz1, pI_row, pI_snd, pA_row, pA_snd, pL_fst, pL_row, pB_fst, pB_row, upd_at, ↓reduceIte, Int.reduceToNat, Nat.reduceEqDiff, iI_lt, iI_le, iI_eq, iI_inb, iI_nat, iI_nz, g, ez, c2, e4, c4, mi, c6]
theorem s_mk_26 {x m : gS} {n k sd s z : Nat} {w : Nat → Nat → Nat} {S : Nat → Nat} {rw : Nat → Int} (hn : n ≤ 9) (hw : ∀ p q, okP n p → okP n q → w p q ≤ 270) (hd : sd ≤ 9) (hC : CO 26 n k w sd S x) (hb : rowB 1 (-32768) 32767 s z rw x m) : f_X1_makes x 26 (14 + 2 * s) = some (bB (mkp w sd S k z rw ((z + 1) / 2) 0)) := by
  have hz := hb.1
  unfold f_X1_makes
  rw [s_twos hb.1 hb.2.2.2.1]
  simp only [bs_p]
  exact w_mk_26 hn hw hd hC hb rfl ((z + 1) / 2) 0 999999 (by omega) (by omega)
theorem w_mk_29 {x m : gS} {n k sd s z : Nat} {w : Nat → Nat → Nat} {S : Nat → Nat} {rw : Nat → Int} (hn : n ≤ 9) (hw : ∀ p q, okP n p → okP n q → w p q ≤ 270) (hd : sd ≤ 9) (hC : CO 29 n k w sd S x) (hb : rowB 1 (-32768) 32767 s z rw x m) {N : Nat} (hN : N = (z + 1) / 2) : ∀ (r i f : Nat), i + r = N → r ≤ f → f_X1_makes_7 x 29 (14 + 2 * s) (f + 1) (iI N) (iI i) = some (bB (mkp w sd S k z rw r i)) := by
  have hz := hb.1
  have ez := hb.2.2.2.1
  have hr := hb.2.2.2.2.2.2
  have hk := hC.1
  have e4 := hC.2.2.1
  intro r
  induction r with
  | zero =>
    intro i f hi hf
    have g : (N : Int) ≤ (i : Int) := by omega
    rw [f_X1_makes_7]
    simp +decide (maxSteps := 2000000) (disch := omega) only [↓gl_p, ↓bs_p, iI_lit, iI_neg, iI_add, iI_sub, iI_mul, gk_p, bs_p, bz0, bz1, pI_row, pI_snd, pA_row, pA_snd, pL_fst, pL_row, pB_fst, pB_row, upd_at, ↓reduceIte, Int.reduceToNat, Nat.reduceEqDiff, iI_lt, iI_le, iI_eq, iI_inb, iI_nat, iI_nz, g]
    rfl
  | succ r ih =>
    intro i f hi hf
    obtain ⟨f, rfl⟩ : ∃ q, f = q + 1 := ⟨f - 1, by omega⟩
    have g : ¬ (N : Int) ≤ (i : Int) := by omega
    rw [f_X1_makes_7]
    by_cases c1 : z ≤ 2 * i + 1
    · have c2 : (z : Int) ≤ 2 * (i : Int) + 1 := by omega
      rw [show mkp w sd S k z rw (r + 1) i = false from if_pos c1]
      simp +decide (maxSteps := 2000000) (disch := omega) only [↓gl_p, ↓bs_p, iI_lit, iI_neg, iI_add, iI_sub, iI_mul, gk_p, bs_p, bz0, bz1, pI_row, pI_snd, pA_row, pA_snd, pL_fst, pL_row, pB_fst, pB_row, upd_at, ↓reduceIte, Int.reduceToNat, Nat.reduceEqDiff, iI_lt, iI_le, iI_eq, iI_inb, iI_nat, iI_nz, g, ez, c2]
    · have c2 : ¬ (z : Int) ≤ 2 * (i : Int) + 1 := by omega
      by_cases c3 : k = 0
      · have c4 := eq_true (show (k : Int) = 0 by omega)
        have c5 : ¬ (Tm w sd S k i < 2000 ∧ rw (2 * i) = (S (i % k) : Nat) ∧ rw (2 * i + 1) = (Tm w sd S k i : Nat)) := fun h => by
          have q := h.1
          unfold Tm at q
          rw [if_pos c3] at q
          omega
        rw [mkp_n c1 c5]
        simp +decide (maxSteps := 2000000) (disch := omega) only [↓gl_p, ↓bs_p, iI_lit, iI_neg, iI_add, iI_sub, iI_mul, gk_p, bs_p, bz0, bz1, pI_row, pI_snd, pA_row, pA_snd, pL_fst, pL_row, pB_fst, pB_row, upd_at, ↓reduceIte, Int.reduceToNat, Nat.reduceEqDiff, iI_lt, iI_le, iI_eq, iI_inb, iI_nat, iI_nz, g, ez, c2, e4, c4]
      · have c4 : ¬ (k : Int) = 0 := by omega
        have hSi := hC.2.1 (i % k) (Nat.mod_lt i (by omega))
        have bT := Tm_bd3 hw hd hk hC.2.1 (i := i) (by omega)
        have mi := s_minu_29 hC (by omega) (i := i) (by omega)
        have st := s_stop_29 hC (by omega) (i := i) (by omega)
        have t1 := s_cell hb (show 2 * i < z by omega)
        have t2 := s_cell hb (show 2 * i + 1 < z by omega)
        rw [show ((2 * i : Nat) : Int) = 2 * (i : Int) by omega] at t1
        rw [show ((2 * i + 1 : Nat) : Int) = 2 * (i : Int) + 1 by omega] at t2
        have r1 := hr (2 * i) (by omega)
        have r2 := hr (2 * i + 1) (by omega)
        by_cases c5 : Tm w sd S k i < 2000
        · have c6 : ((Tm w sd S k i : Nat) : Int) ≤ 1999 := by omega
          by_cases c7 : rw (2 * i) = (S (i % k) : Nat)
          · by_cases c8 : rw (2 * i + 1) = (Tm w sd S k i : Nat)
            · have k2 := ih (i + 1) f (by omega) (by omega)
              rw [mkp_y c1 c5 c7 c8]
              simp +decide (maxSteps := 2000000) (disch := omega) only [↓gl_p, ↓bs_p, iI_lit, iI_neg, iI_add, iI_sub, iI_mul, gk_p, bs_p, bz0, bz1, pI_row, pI_snd, pA_row, pA_snd, pL_fst, pL_row, pB_fst, pB_row, upd_at, ↓reduceIte, Int.reduceToNat, Nat.reduceEqDiff, iI_lt, iI_le, iI_eq, iI_inb, iI_nat, iI_nz, g, ez, c2, e4, c4, mi, st, t1, t2, c6, lL_i, lc_eq, eq_true c7, eq_true c8]
              exact k2
            · rw [mkp_n c1 (fun h => c8 h.2.2)]
              simp +decide (maxSteps := 2000000) (disch := omega) only [↓gl_p, ↓bs_p, iI_lit, iI_neg, iI_add, iI_sub, iI_mul, gk_p, bs_p, bz0, bz1, pI_row, pI_snd, pA_row, pA_snd, pL_fst, pL_row, pB_fst, pB_row, upd_at, ↓reduceIte, Int.reduceToNat, Nat.reduceEqDiff, iI_lt, iI_le, iI_eq, iI_inb, iI_nat, iI_nz, g, ez, c2, e4, c4, mi, st, t1, t2, c6, lL_i, lc_eq, eq_true c7, c8]
          · rw [mkp_n c1 (fun h => c7 h.2.1)]
            simp +decide (maxSteps := 2000000) (disch := omega) only [↓gl_p, ↓bs_p, iI_lit, iI_neg, iI_add, iI_sub, iI_mul, gk_p, bs_p, bz0, bz1, pI_row, pI_snd, pA_row, pA_snd, pL_fst, pL_row, pB_fst, pB_row, upd_at, ↓reduceIte, Int.reduceToNat, Nat.reduceEqDiff, iI_lt, iI_le, iI_eq, iI_inb, iI_nat, iI_nz, g, ez, c2, e4, c4, mi, st, t1, c6, lL_i, lc_eq, c7]
        · have c6 : ¬ ((Tm w sd S k i : Nat) : Int) ≤ 1999 := by omega
          rw [mkp_n c1 (fun h => c5 h.1)]
          simp +decide (maxSteps := 2000000) (disch := omega) only [↓gl_p, ↓bs_p, iI_lit, iI_neg, iI_add, iI_sub, iI_mul, gk_p, bs_p, bz0, bz1, pI_row, pI_snd, pA_row, pA_snd, pL_fst, pL_row, pB_fst, pB_row, upd_at, ↓reduceIte, Int.reduceToNat, Nat.reduceEqDiff, iI_lt, iI_le, iI_eq, iI_inb, iI_nat, iI_nz, g, ez, c2, e4, c4, mi, c6]
theorem s_mk_29 {x m : gS} {n k sd s z : Nat} {w : Nat → Nat → Nat} {S : Nat → Nat} {rw : Nat → Int} (hn : n ≤ 9) (hw : ∀ p q, okP n p → okP n q → w p q ≤ 270) (hd : sd ≤ 9) (hC : CO 29 n k w sd S x) (hb : rowB 1 (-32768) 32767 s z rw x m) : f_X1_makes x 29 (14 + 2 * s) = some (bB (mkp w sd S k z rw ((z + 1) / 2) 0)) := by
  have hz := hb.1
  unfold f_X1_makes
  rw [s_twos hb.1 hb.2.2.2.1]
  simp only [bs_p]
  exact w_mk_29 hn hw hd hC hb rfl ((z + 1) / 2) 0 999999 (by omega) (by omega)
theorem w_pp {x m : gS} {n k sd s z D : Nat} {w : Nat → Nat → Nat} {S : Nat → Nat} {rw : Nat → Int} (hs : s < 6) (hn : n ≤ 9) (hS : ∀ i, i < k → S i < n) (hW : WK 30 D w sd S k m) (hb : rowB 1 (-32768) 32767 s z rw x m) : ∀ (r i f : Nat), i + r = (z + 1) / 2 → r ≤ f → f_X10_isPaper_8 (f + 1) (iI s) (iI i) m = some (bB (mkp w sd S k z rw r i), m) := by
  have hz := hb.1
  have ez := hb.2.2.2.2.2.1
  have hr := hb.2.2.2.2.2.2
  have hWk := fun h => WK_k hW (h : 0 < D)
  obtain ⟨d1, d2, d3, d4⟩ := id hW
  intro r
  induction r with
  | zero =>
    intro i f hi hf
    have g : (z : Int) ≤ 2 * (i : Int) := by omega
    rw [f_X10_isPaper_8]
    simp +decide (maxSteps := 2000000) (disch := omega) only [↓gl_p, ↓bs_p, iI_lit, iI_neg, iI_add, iI_sub, iI_mul, gk_p, bs_p, bz0, bz1, pI_row, pI_snd, pA_row, pA_snd, pL_fst, pL_row, pB_fst, pB_row, upd_at, ↓reduceIte, Int.reduceToNat, Nat.reduceEqDiff, iI_lt, iI_le, iI_eq, iI_inb, iI_nat, iI_nz, ez, g, Int.toNat_natCast]
    rfl
  | succ r ih =>
    intro i f hi hf
    obtain ⟨f, rfl⟩ : ∃ q, f = q + 1 := ⟨f - 1, by omega⟩
    have g : ¬ (z : Int) ≤ 2 * (i : Int) := by omega
    rw [f_X10_isPaper_8]
    by_cases c1 : z ≤ 2 * i + 1
    · have c2 : (z : Int) ≤ 2 * (i : Int) + 1 := by omega
      rw [show mkp w sd S k z rw (r + 1) i = false from if_pos c1]
      simp +decide (maxSteps := 2000000) (disch := omega) only [↓gl_p, ↓bs_p, iI_lit, iI_neg, iI_add, iI_sub, iI_mul, gk_p, bs_p, bz0, bz1, pI_row, pI_snd, pA_row, pA_snd, pL_fst, pL_row, pB_fst, pB_row, upd_at, ↓reduceIte, Int.reduceToNat, Nat.reduceEqDiff, iI_lt, iI_le, iI_eq, iI_inb, iI_nat, iI_nz, g, ez, c2, Int.toNat_natCast]
      rfl
    · have c2 : ¬ (z : Int) ≤ 2 * (i : Int) + 1 := by omega
      by_cases c5 : Tm w sd S k i < 2000
      · have hD := WK_in hW (show i < 30 by omega) c5
        have c6 : (i : Int) < (D : Int) := by omega
        have q := d3 i hD
        have hSi := hS (i % k) (Nat.mod_lt i (hWk (by omega)))
        have t1 := s_told hs hb (show 2 * i < z by omega)
        have t2 := s_told hs hb (show 2 * i + 1 < z by omega)
        rw [show ((2 * i : Nat) : Int) = 2 * (i : Int) by omega] at t1
        rw [show ((2 * i + 1 : Nat) : Int) = 2 * (i : Int) + 1 by omega] at t2
        have r1 := hr (2 * i) (by omega)
        have r2 := hr (2 * i + 1) (by omega)
        by_cases c7 : rw (2 * i) = (S (i % k) : Nat)
        · by_cases c8 : rw (2 * i + 1) = (Tm w sd S k i : Nat)
          · have k2 := ih (i + 1) f (by omega) (by omega)
            rw [mkp_y c1 c5 c7 c8]
            simp +decide (maxSteps := 2000000) (disch := omega) only [↓gl_p, ↓bs_p, iI_lit, iI_neg, iI_add, iI_sub, iI_mul, gk_p, bs_p, bz0, bz1, pI_row, pI_snd, pA_row, pA_snd, pL_fst, pL_row, pB_fst, pB_row, upd_at, ↓reduceIte, Int.reduceToNat, Nat.reduceEqDiff, iI_lt, iI_le, iI_eq, iI_inb, iI_nat, iI_nz, g, ez, c2, d2, c6, t1, t2, q.1, q.2.1, eq_true c7, eq_true c8, Int.toNat_natCast]
            exact k2
          · rw [mkp_n c1 (fun h => c8 h.2.2)]
            simp +decide (maxSteps := 2000000) (disch := omega) only [↓gl_p, ↓bs_p, iI_lit, iI_neg, iI_add, iI_sub, iI_mul, gk_p, bs_p, bz0, bz1, pI_row, pI_snd, pA_row, pA_snd, pL_fst, pL_row, pB_fst, pB_row, upd_at, ↓reduceIte, Int.reduceToNat, Nat.reduceEqDiff, iI_lt, iI_le, iI_eq, iI_inb, iI_nat, iI_nz, g, ez, c2, d2, c6, t1, t2, q.1, q.2.1, eq_true c7, c8, Int.toNat_natCast]
            rfl
        · rw [mkp_n c1 (fun h => c7 h.2.1)]
          simp +decide (maxSteps := 2000000) (disch := omega) only [↓gl_p, ↓bs_p, iI_lit, iI_neg, iI_add, iI_sub, iI_mul, gk_p, bs_p, bz0, bz1, pI_row, pI_snd, pA_row, pA_snd, pL_fst, pL_row, pB_fst, pB_row, upd_at, ↓reduceIte, Int.reduceToNat, Nat.reduceEqDiff, iI_lt, iI_le, iI_eq, iI_inb, iI_nat, iI_nz, g, ez, c2, d2, c6, t1, q.2.1, c7, Int.toNat_natCast]
          rfl
      · have hD : ¬ i < D := fun h => c5 (d3 i h).2.2
        have c6 : ¬ (i : Int) < (D : Int) := by omega
        rw [mkp_n c1 (fun h => c5 h.1)]
        simp +decide (maxSteps := 2000000) (disch := omega) only [↓gl_p, ↓bs_p, iI_lit, iI_neg, iI_add, iI_sub, iI_mul, gk_p, bs_p, bz0, bz1, pI_row, pI_snd, pA_row, pA_snd, pL_fst, pL_row, pB_fst, pB_row, upd_at, ↓reduceIte, Int.reduceToNat, Nat.reduceEqDiff, iI_lt, iI_le, iI_eq, iI_inb, iI_nat, iI_nz, g, ez, c2, d2, c6, Int.toNat_natCast]
        rfl
theorem s_pp {x m : gS} {n k sd s z : Nat} {w : Nat → Nat → Nat} {S : Nat → Nat} {rw : Nat → Int} (hs : s < 6) (hn : n ≤ 9) (hw : ∀ p q, okP n p → okP n q → w p q ≤ 270) (hd : sd ≤ 9) (hO : RO n k S m) (hM : YM n w sd m) (hb : rowB 1 (-32768) 32767 s z rw x m) : ∃ τ, f_X10_isPaper m (iI s) = some (bB (mkp w sd S k z rw ((z + 1) / 2) 0), τ) ∧ Ch waC m τ := by
  have hz := hb.1
  obtain ⟨τ, D, w1, w2, hW⟩ := s_walks hn hw hd hO hM (high := 30) (by omega)
  have hb2 := rowB_m hb (Ch_row w2 (c := 24) (fun _ => rfl)) (Ch_row w2 (c := 25) (fun _ => rfl)) w2.1
  refine ⟨τ, ?_, w2⟩
  unfold f_X10_isPaper
  rw [show f_X10_walks m 30 = _ from w1]
  simp only [bs_p]
  exact w_pp hs hn hO.2.1 hW hb2 ((z + 1) / 2) 0 999999 (by omega) (by omega)
theorem ref_cong {x y : gS} {K : Nat} (h : y.1 K = x.1 K) (q : Int32) : f_X5_refusalFor y K q = f_X5_refusalFor x K q := by
  unfold f_X5_refusalFor
  rw [h]
theorem sc_tu {x y : gS} (h : Ch tuC x y) : Ch scM x y := sc_bo (bo_tu h)
theorem e_which (L : LawT) : EQ_which (Rel1 L) := by
  intro x m a1 hR
  obtain ⟨v, rfl, hv1, hv2⟩ := iI_of a1
  obtain ⟨⟨n, nb, hP, hC, hT, hD, hI, hK, hS⟩, hL⟩ := id hR
  have hn := hP.1
  unfold f_X9_which f_X10_which
  by_cases c0 : v < 0
  · simp +decide (maxSteps := 2000000) (disch := omega) only [↓gl_p, ↓bs_p, iI_lit, iI_neg, iI_add, iI_sub, iI_mul, gk_p, bs_p, bz0, bz1, pI_row, pI_snd, pA_row, pA_snd, pL_fst, pL_row, pB_fst, pB_row, upd_at, ↓reduceIte, Int.reduceToNat, Nat.reduceEqDiff, iI_lt, iI_le, iI_eq, iI_inb, iI_nat, iI_nz, c0]
    exact ⟨_, _, _, rfl, rfl, hR⟩
  have ed : iI v / iI 10 = iI (v / 10) := iI_div (by omega) (by omega) (by omega) (by omega)
  by_cases c1 : 0 ≤ v / 10 ∧ v / 10 ≤ 5
  rotate_left
  · simp +decide (maxSteps := 2000000) (disch := omega) only [↓gl_p, ↓bs_p, iI_lit, iI_neg, iI_add, iI_sub, iI_mul, gk_p, bs_p, bz0, bz1, pI_row, pI_snd, pA_row, pA_snd, pL_fst, pL_row, pB_fst, pB_row, upd_at, ↓reduceIte, Int.reduceToNat, Nat.reduceEqDiff, iI_lt, iI_le, iI_eq, iI_inb, iI_nat, iI_nz, c0, c1, ed, s_shX, s_shM, bI_0, not_false_eq_true]
    exact ⟨_, _, _, rfl, rfl, hR⟩
  by_cases c2 : 0 ≤ v - v / 10 * 10 ∧ v - v / 10 * 10 ≤ 5
  rotate_left
  · simp +decide (maxSteps := 2000000) (disch := omega) only [↓gl_p, ↓bs_p, iI_lit, iI_neg, iI_add, iI_sub, iI_mul, gk_p, bs_p, bz0, bz1, pI_row, pI_snd, pA_row, pA_snd, pL_fst, pL_row, pB_fst, pB_row, upd_at, ↓reduceIte, Int.reduceToNat, Nat.reduceEqDiff, iI_lt, iI_le, iI_eq, iI_inb, iI_nat, iI_nz, c0, c1, c2, ed, s_shX, s_shM, bI_0, not_false_eq_true, not_true_eq_false, and_self]
    exact ⟨_, _, _, rfl, rfl, hR⟩
  obtain ⟨a, ha, ea⟩ : ∃ a : Nat, a < 6 ∧ v / 10 = (a : Int) := ⟨(v / 10).toNat, by omega, by omega⟩
  obtain ⟨b, hb, eb⟩ : ∃ b : Nat, b < 6 ∧ v - v / 10 * 10 = (b : Int) := ⟨(v - v / 10 * 10).toNat, by omega, by omega⟩
  have eb2 : v - (a : Int) * 10 = (b : Int) := by omega
  have c3 : 0 ≤ (a : Int) ∧ (a : Int) ≤ 5 := by omega
  have c4 : 0 ≤ (b : Int) ∧ (b : Int) ≤ 5 := by omega
  rw [ea] at ed
  simp +decide (maxSteps := 2000000) (disch := omega) only [↓gl_p, ↓bs_p, iI_lit, iI_neg, iI_add, iI_sub, iI_mul, gk_p, bs_p, bz0, bz1, pI_row, pI_snd, pA_row, pA_snd, pL_fst, pL_row, pB_fst, pB_row, upd_at, ↓reduceIte, Int.reduceToNat, Nat.reduceEqDiff, iI_lt, iI_le, iI_eq, iI_inb, iI_nat, iI_nz, c0, ed, eb2, c3, c4, s_shX, s_shM, bI_0, not_true_eq_false, and_self, s_shAt, Int.toNat_natCast]
  rcases s_ref hb hK.1 hS (q0 := 1) (Or.inr ⟨rfl, rfl, rfl⟩) with ⟨r1, r2, r3⟩ | ⟨r1, ⟨h, r2, r3, r4⟩, k1, r5, r6, r7⟩ | ⟨r1, z, rw, hB⟩
  · simp +decide (maxSteps := 2000000) (disch := omega) only [↓gl_p, ↓bs_p, iI_lit, iI_neg, iI_add, iI_sub, iI_mul, gk_p, bs_p, bz0, bz1, pI_row, pI_snd, pA_row, pA_snd, pL_fst, pL_row, pB_fst, pB_row, upd_at, ↓reduceIte, Int.reduceToNat, Nat.reduceEqDiff, iI_lt, iI_le, iI_eq, iI_inb, iI_nat, iI_nz, r2, r3]
    refine ⟨_, _, _, rfl, ?_, hR⟩
    split <;> rfl
  · have d1 : ¬ (k1 : Int) = 0 := by omega
    have d2 : ¬ (h : Int) = -1 := by omega
    have d3 : ¬ (h : Int) = 1 := by omega
    rcases s_ref ha hK.1 hS (q0 := 0) (Or.inl ⟨rfl, rfl, rfl⟩) with ⟨s1, s2, s3⟩ | ⟨s1, ⟨g, s2, s3, s4⟩, k2, s5, s6, s7⟩ | ⟨s1, z, rw, hB⟩
    · simp +decide (maxSteps := 2000000) (disch := omega) only [↓gl_p, ↓bs_p, iI_lit, iI_neg, iI_add, iI_sub, iI_mul, gk_p, bs_p, bz0, bz1, pI_row, pI_snd, pA_row, pA_snd, pL_fst, pL_row, pB_fst, pB_row, upd_at, ↓reduceIte, Int.reduceToNat, Nat.reduceEqDiff, iI_lt, iI_le, iI_eq, iI_inb, iI_nat, iI_nz, r2, r5, d1, d2, s2, s3]
      exact ⟨_, _, _, rfl, rfl, hR⟩
    · have d4 : ¬ (k2 : Int) = 0 := by omega
      have d5 : ¬ (g : Int) = -1 := by omega
      have d6 : ¬ (g : Int) = 0 := by omega
      unfold f_X9_layBoth f_X9_layForth f_X9_which_80
      simp +decide (maxSteps := 2000000) (disch := omega) only [↓gl_p, ↓bs_p, iI_lit, iI_neg, iI_add, iI_sub, iI_mul, gk_p, bs_p, bz0, bz1, pI_row, pI_snd, pA_row, pA_snd, pL_fst, pL_row, pB_fst, pB_row, upd_at, ↓reduceIte, Int.reduceToNat, Nat.reduceEqDiff, iI_lt, iI_le, iI_eq, iI_inb, iI_nat, iI_nz, r2, r5, d1, d2, s2, s5, d4, d5, d6, s_shAt, Int.toNat_natCast, show f_X5_refusalFor x (14 + 2 * a) (iI 0) = _ from s1]
      exact ⟨_, _, _, rfl, rfl, hR⟩
    · rcases lay4 hP hK.1 hS ha with ⟨e, he, l1, l2⟩ | ⟨k, w, sd, S, y, m2, l1, l2, l3, h1, h2, hY, hM, hC, hC2, hO⟩
      · have nr := s_nr0 ha (q := 0) hB.2.2.2.2.1 (by omega)
        have e2 := Option.some.inj (l2.symm.trans nr)
        rw [iI_eq (by omega) (by omega) (by omega) (by omega)] at e2
        omega
      · have hR2 := Rel1_sc (m := m) (k := m) hR h1 (Ch_refl _ _)
        have rf := (ref_cong (Ch_row h1 (scX_f (c := 14 + 2 * b) (by omega))) (iI 1)).trans r1
        unfold f_X9_which_80
        simp +decide (maxSteps := 2000000) (disch := omega) only [↓gl_p, ↓bs_p, iI_lit, iI_neg, iI_add, iI_sub, iI_mul, gk_p, bs_p, bz0, bz1, pI_row, pI_snd, pA_row, pA_snd, pL_fst, pL_row, pB_fst, pB_row, upd_at, ↓reduceIte, Int.reduceToNat, Nat.reduceEqDiff, iI_lt, iI_le, iI_eq, iI_inb, iI_nat, iI_nz, r2, r5, d1, d2, d3, show m.1 24 a = iI 0 from hB.2.2.2.2.1, hB.2.1, l1, rf]
        exact ⟨_, _, _, rfl, rfl, hR2⟩
  · rcases s_ref ha hK.1 hS (q0 := 0) (Or.inl ⟨rfl, rfl, rfl⟩) with ⟨s1, s2, s3⟩ | ⟨s1, ⟨g, s2, s3, s4⟩, k2, s5, s6, s7⟩ | ⟨s1, z2, rw2, hB2⟩
    · simp +decide (maxSteps := 2000000) (disch := omega) only [↓gl_p, ↓bs_p, iI_lit, iI_neg, iI_add, iI_sub, iI_mul, gk_p, bs_p, bz0, bz1, pI_row, pI_snd, pA_row, pA_snd, pL_fst, pL_row, pB_fst, pB_row, upd_at, ↓reduceIte, Int.reduceToNat, Nat.reduceEqDiff, iI_lt, iI_le, iI_eq, iI_inb, iI_nat, iI_nz, hB.2.1, show m.1 24 b = iI 1 from hB.2.2.2.2.1, s2, s3]
      exact ⟨_, _, _, rfl, rfl, hR⟩
    · have d4 : ¬ (k2 : Int) = 0 := by omega
      have d5 : ¬ (g : Int) = -1 := by omega
      have d6 : ¬ (g : Int) = 0 := by omega
      unfold f_X9_layBoth f_X9_layForth f_X9_which_80
      simp +decide (maxSteps := 2000000) (disch := omega) only [↓gl_p, ↓bs_p, iI_lit, iI_neg, iI_add, iI_sub, iI_mul, gk_p, bs_p, bz0, bz1, pI_row, pI_snd, pA_row, pA_snd, pL_fst, pL_row, pB_fst, pB_row, upd_at, ↓reduceIte, Int.reduceToNat, Nat.reduceEqDiff, iI_lt, iI_le, iI_eq, iI_inb, iI_nat, iI_nz, hB.2.1, show m.1 24 b = iI 1 from hB.2.2.2.2.1, s2, s5, d4, d5, d6, s_shAt, Int.toNat_natCast, show f_X5_refusalFor x (14 + 2 * a) (iI 0) = _ from s1]
      exact ⟨_, _, _, rfl, rfl, hR⟩
    · rcases lay4 hP hK.1 hS ha with ⟨e, he, l1, l2⟩ | ⟨k, w, sd, S, y, m2, l1, l2, l3, h1, h2, hY, hM, hC, hC2, hO⟩
      · have nr := s_nr0 ha (q := 0) hB2.2.2.2.2.1 (by omega)
        have e2 := Option.some.inj (l2.symm.trans nr)
        rw [iI_eq (by omega) (by omega) (by omega) (by omega)] at e2
        omega
      · have hw : ∀ p q, okP n p → okP n q → w p q ≤ 270 := fun p q hp hq => (hY.2.2.2.2 p q hp hq).1
        have hBx := rowB_x hB (Ch_row h1 (scX_f (c := 14 + 2 * b) (by omega))) h1.1
        have m26 := s_mk_26 hn hw hY.2.1 hC hBx
        have m29 := s_mk_29 hn hw hY.2.1 hC2 hBx
        have rf := (ref_cong (Ch_row h1 (scX_f (c := 14 + 2 * b) (by omega))) (iI 1)).trans r1
        have hBm := rowB_m hB (Ch_row h2 (c := 24) (fun _ => rfl)) (Ch_row h2 (c := 25) (fun _ => rfl)) h2.1
        obtain ⟨m3, p1, p2⟩ := s_pp hb hn hw hY.2.1 hO hM hBm
        have O3 : RO n k S m3 := ⟨hO.1, hO.2.1, (p2.2 0 44 rfl).trans hO.2.2.1, fun i hi => (p2.2 27 i rfl).trans (hO.2.2.2 i hi)⟩
        obtain ⟨m4, t1, t2, t3⟩ := s_turnM O3
        have M4 := YM_ch (YM_ch hM p2 rfl (fun _ => rfl) (fun _ => rfl) (fun _ => rfl)) t2 rfl (fun _ => rfl) (fun _ => rfl) (fun _ => rfl)
        have hB3 := rowB_m hBm (Ch_row p2 (c := 24) (fun _ => rfl)) (Ch_row p2 (c := 25) (fun _ => rfl)) p2.1
        have hB4 := rowB_m hB3 (Ch_row t2 (c := 24) (fun _ => rfl)) (Ch_row t2 (c := 25) (fun _ => rfl)) t2.1
        obtain ⟨m5, p3, p4⟩ := s_pp hb hn hw hY.2.1 t3 M4 hB4
        have hR2 := Rel1_sc hR h1 (Ch_tr (sc_rd h2) (Ch_tr (sc_wa p2) (Ch_tr (sc_tu t2) (sc_wa p4))))
        generalize mkp w sd S k z rw ((z + 1) / 2) 0 = cf at m26 p1
        generalize mkp w sd (rvS S k) k z rw ((z + 1) / 2) 0 = cb at m29 p3
        unfold f_X9_which_80 f_X9_which_102 f_X10_which_107
        have o1 : iI 0 ||| iI 0 = iI 0 := by decide
        have o2 : iI 0 ||| iI 2 = iI 2 := by decide
        have o3 : iI 1 ||| iI 0 = iI 1 := by decide
        have o4 : iI 1 ||| iI 2 = iI 3 := by decide
        cases cf <;> cases cb
        · simp +decide (maxSteps := 2000000) (disch := omega) only [↓gl_p, ↓bs_p, iI_lit, iI_neg, iI_add, iI_sub, iI_mul, gk_p, bs_p, bz0, bz1, pI_row, pI_snd, pA_row, pA_snd, pL_fst, pL_row, pB_fst, pB_row, upd_at, ↓reduceIte, Int.reduceToNat, Nat.reduceEqDiff, iI_lt, iI_le, iI_eq, iI_inb, iI_nat, iI_nz, hB.2.1, show m.1 24 b = iI 1 from hB.2.2.2.2.1, show m.1 24 a = iI 0 from hB2.2.2.2.2.1, hB2.2.1, l1, l3, rf, m26, m29, p1, p3, t1, bB_0, Bool.true_eq_false, ed, eb2, o1]
          exact ⟨_, _, _, rfl, rfl, hR2⟩
        · simp +decide (maxSteps := 2000000) (disch := omega) only [↓gl_p, ↓bs_p, iI_lit, iI_neg, iI_add, iI_sub, iI_mul, gk_p, bs_p, bz0, bz1, pI_row, pI_snd, pA_row, pA_snd, pL_fst, pL_row, pB_fst, pB_row, upd_at, ↓reduceIte, Int.reduceToNat, Nat.reduceEqDiff, iI_lt, iI_le, iI_eq, iI_inb, iI_nat, iI_nz, hB.2.1, show m.1 24 b = iI 1 from hB.2.2.2.2.1, show m.1 24 a = iI 0 from hB2.2.2.2.2.1, hB2.2.1, l1, l3, rf, m26, m29, p1, p3, t1, bB_0, Bool.true_eq_false, ed, eb2, o2]
          exact ⟨_, _, _, rfl, rfl, hR2⟩
        · simp +decide (maxSteps := 2000000) (disch := omega) only [↓gl_p, ↓bs_p, iI_lit, iI_neg, iI_add, iI_sub, iI_mul, gk_p, bs_p, bz0, bz1, pI_row, pI_snd, pA_row, pA_snd, pL_fst, pL_row, pB_fst, pB_row, upd_at, ↓reduceIte, Int.reduceToNat, Nat.reduceEqDiff, iI_lt, iI_le, iI_eq, iI_inb, iI_nat, iI_nz, hB.2.1, show m.1 24 b = iI 1 from hB.2.2.2.2.1, show m.1 24 a = iI 0 from hB2.2.2.2.2.1, hB2.2.1, l1, l3, rf, m26, m29, p1, p3, t1, bB_0, Bool.true_eq_false, ed, eb2, o3]
          exact ⟨_, _, _, rfl, rfl, hR2⟩
        · simp +decide (maxSteps := 2000000) (disch := omega) only [↓gl_p, ↓bs_p, iI_lit, iI_neg, iI_add, iI_sub, iI_mul, gk_p, bs_p, bz0, bz1, pI_row, pI_snd, pA_row, pA_snd, pL_fst, pL_row, pB_fst, pB_row, upd_at, ↓reduceIte, Int.reduceToNat, Nat.reduceEqDiff, iI_lt, iI_le, iI_eq, iI_inb, iI_nat, iI_nz, hB.2.1, show m.1 24 b = iI 1 from hB.2.2.2.2.1, show m.1 24 a = iI 0 from hB2.2.2.2.2.1, hB2.2.1, l1, l3, rf, m26, m29, p1, p3, t1, bB_0, Bool.true_eq_false, ed, eb2, o4]
          exact ⟨_, _, _, rfl, rfl, hR2⟩
