def og (S : Nat → Nat) (k lo hi : Nat) : Nat → Int32
  | 0 => iI 0
  | i + 1 => if lo ≤ i ∧ i < hi then og S k lo hi i ||| bt (S (i % k)) else og S k lo hi i
theorem og_lo {S : Nat → Nat} {k lo hi : Nat} : ∀ i, i ≤ lo → og S k lo hi i = iI 0 := by
  intro i
  induction i with
  | zero => exact fun _ => rfl
  | succ i ih =>
    intro h
    show (if lo ≤ i ∧ i < hi then _ else og S k lo hi i) = _
    rw [if_neg (by omega)]
    exact ih (by omega)
theorem og_hi {S : Nat → Nat} {k lo hi : Nat} : ∀ r, og S k lo hi (hi + r) = og S k lo hi hi := by
  intro r
  induction r with
  | zero => rfl
  | succ r ih =>
    show (if lo ≤ hi + r ∧ hi + r < hi then _ else og S k lo hi (hi + r)) = _
    rw [if_neg (by omega)]
    exact ih
theorem w_dw18 {x : gS} {n k sd lo hi : Nat} {w : Nat → Nat → Nat} {S : Nat → Nat} (hC : CO 26 n k w sd S x) (hk0 : lo < hi → 0 < k) (h4 : hi ≤ 4000) : ∀ (r i f : Nat), i + r = hi → lo ≤ i → r ≤ f → f_X1_dentedWithin_18 x 26 (f + 1) (iI hi) (og S k lo hi i) (iI i) = some (og S k lo hi hi) := by
  intro r
  induction r with
  | zero =>
    intro i f hi1 hlo hf
    have g : (hi : Int) ≤ (i : Int) := by omega
    rw [f_X1_dentedWithin_18, show i = hi by omega]
    simp +decide (maxSteps := 2000000) (disch := omega) only [↓gl_p, ↓bs_p, iI_lit, iI_neg, iI_add, iI_sub, iI_mul, gk_p, bs_p, bz0, bz1, pI_row, pI_snd, pA_row, pA_snd, pL_fst, pL_row, pB_fst, pB_row, upd_at, ↓reduceIte, Int.reduceToNat, Nat.reduceEqDiff, iI_lt, iI_le, iI_eq, iI_inb, iI_nat, iI_nz, Int.le_refl]
  | succ r ih =>
    intro i f hi1 hlo hf
    obtain ⟨f, rfl⟩ : ∃ q, f = q + 1 := ⟨f - 1, by omega⟩
    have g : ¬ (hi : Int) ≤ (i : Int) := by omega
    have st := s_stop_26 hC (hk0 (by omega)) (i := i) (by omega)
    have k2 := ih (i + 1) f (by omega) (by omega) (by omega)
    rw [show og S k lo hi (i + 1) = og S k lo hi i ||| bt (S (i % k)) from if_pos (by omega)] at k2
    rw [f_X1_dentedWithin_18]
    simp +decide (maxSteps := 2000000) (disch := omega) only [↓gl_p, ↓bs_p, iI_lit, iI_neg, iI_add, iI_sub, iI_mul, gk_p, bs_p, bz0, bz1, pI_row, pI_snd, pA_row, pA_snd, pL_fst, pL_row, pB_fst, pB_row, upd_at, ↓reduceIte, Int.reduceToNat, Nat.reduceEqDiff, iI_lt, iI_le, iI_eq, iI_inb, iI_nat, iI_nz, g, st, bt_e]
    exact k2
theorem w_r57 {m : gS} {k sd D lo hi : Nat} {w : Nat → Nat → Nat} {S : Nat → Nat} (hW : WK 4000 D w sd S k m) {h : Nat} (hh : h ≤ 15) (hlo : isC (Tm w sd S k) (60 * (h : Int) - 1) lo) (hhi : isC (Tm w sd S k) (60 * (h : Int) + 59) hi) (A : Int32) : ∀ (r i f : Nat), i + r = D → r ≤ f → f_X10_red_57 (f + 1) (iI h) (A &&& (og S k lo hi i ^^^ iI (-1))) (iI i) m = some (A &&& (og S k lo hi D ^^^ iI (-1)), m) := by
  obtain ⟨d1, d2, d3, d4⟩ := hW
  obtain ⟨l1, l2, l3⟩ := hlo
  obtain ⟨u1, u2, u3⟩ := hhi
  intro r
  induction r with
  | zero =>
    intro i f hi1 hf
    have g : (D : Int) ≤ (i : Int) := by omega
    rw [f_X10_red_57, show i = D by omega]
    simp +decide (maxSteps := 2000000) (disch := omega) only [↓gl_p, ↓bs_p, iI_lit, iI_neg, iI_add, iI_sub, iI_mul, gk_p, bs_p, bz0, bz1, pI_row, pI_snd, pA_row, pA_snd, pL_fst, pL_row, pB_fst, pB_row, upd_at, ↓reduceIte, Int.reduceToNat, Nat.reduceEqDiff, iI_lt, iI_le, iI_eq, iI_inb, iI_nat, iI_nz, d2, Int.le_refl]
  | succ r ih =>
    intro i f hi1 hf
    obtain ⟨f, rfl⟩ : ∃ q, f = q + 1 := ⟨f - 1, by omega⟩
    have g : ¬ (D : Int) ≤ (i : Int) := by omega
    have q := d3 i (by omega)
    have k2 := ih (i + 1) f (by omega) (by omega)
    have hlo2 : lo ≤ i ↔ 60 * (h : Int) ≤ (Tm w sd S k i : Nat) := by
      constructor
      · intro e
        have g1 := Tm_mono (w := w) (sd := sd) (S := S) (k := k) e
        have g2 := l3 (by omega)
        omega
      · intro e
        by_cases c : i < lo
        · have g1 := l2 i c
          omega
        · omega
    have hhi2 : i < hi ↔ ((Tm w sd S k i : Nat) : Int) ≤ 60 * (h : Int) + 59 := by
      constructor
      · exact u2 i
      · intro e
        by_cases c : i < hi
        · exact c
        · have g1 := Tm_mono (w := w) (sd := sd) (S := S) (k := k) (show hi ≤ i by omega)
          have g2 := u3 (by omega)
          omega
    have ed : iI (Tm w sd S k i : Nat) / iI 60 = iI (((Tm w sd S k i : Nat) : Int) / 60) := iI_div (by omega) (by omega) (by omega) (by omega)
    by_cases c : ((Tm w sd S k i : Nat) : Int) / 60 = h
    · rw [show og S k lo hi (i + 1) = og S k lo hi i ||| bt (S (i % k)) from if_pos (by omega), ← and_nor] at k2
      rw [f_X10_red_57]
      simp +decide (maxSteps := 2000000) (disch := omega) only [↓gl_p, ↓bs_p, iI_lit, iI_neg, iI_add, iI_sub, iI_mul, gk_p, bs_p, bz0, bz1, pI_row, pI_snd, pA_row, pA_snd, pL_fst, pL_row, pB_fst, pB_row, upd_at, ↓reduceIte, Int.reduceToNat, Nat.reduceEqDiff, iI_lt, iI_le, iI_eq, iI_inb, iI_nat, iI_nz, d2, g, q.1, q.2.1, ed, eq_true c, bt_e, Int.toNat_natCast]
      exact k2
    · rw [show og S k lo hi (i + 1) = og S k lo hi i from if_neg (by omega)] at k2
      rw [f_X10_red_57]
      simp +decide (maxSteps := 2000000) (disch := omega) only [↓gl_p, ↓bs_p, iI_lit, iI_neg, iI_add, iI_sub, iI_mul, gk_p, bs_p, bz0, bz1, pI_row, pI_snd, pA_row, pA_snd, pL_fst, pL_row, pB_fst, pB_row, upd_at, ↓reduceIte, Int.reduceToNat, Nat.reduceEqDiff, iI_lt, iI_le, iI_eq, iI_inb, iI_nat, iI_nz, d2, g, q.1, ed, c, Int.toNat_natCast]
      exact k2
theorem RP_sc {x m y k : gS} {n : Nat} (hP : RP n (x.1 1 1) (x.1 2) (m.1 0 0) (m.1 1) (m.1 2) (m.1 3) (m.1 4) (m.1 5)) (hx : Ch scX x y) (hm : Ch scM m k) : RP n (y.1 1 1) (y.1 2) (k.1 0 0) (k.1 1) (k.1 2) (k.1 3) (k.1 4) (k.1 5) := by
  rw [Ch_row hx (scX_f (c := 1) (by omega)), Ch_row hx (scX_f (c := 2) (by omega)), hm.2 0 0 rfl, Ch_row hm (scM_f (c := 1) (by omega)), Ch_row hm (scM_f (c := 2) (by omega)), Ch_row hm (scM_f (c := 3) (by omega)), Ch_row hm (scM_f (c := 4) (by omega)), Ch_row hm (scM_f (c := 5) (by omega))]
  exact hP
theorem e_red (L : LawT) : EQ_red (Rel1 L) := by
  intro x m a1 a2 hR
  obtain ⟨s, rfl, hs1, hs2⟩ := iI_of a1
  obtain ⟨v, rfl, hv1, hv2⟩ := iI_of a2
  obtain ⟨⟨n, nb, hP, hC, hT, hD, hI, hK, hS⟩, hL⟩ := id hR
  have hn := hP.1
  unfold f_X9_red f_X10_red
  by_cases c1 : 0 ≤ s ∧ s ≤ 5
  rotate_left
  · simp +decide (maxSteps := 2000000) (disch := omega) only [↓gl_p, ↓bs_p, iI_lit, iI_neg, iI_add, iI_sub, iI_mul, gk_p, bs_p, bz0, bz1, pI_row, pI_snd, pA_row, pA_snd, pL_fst, pL_row, pB_fst, pB_row, upd_at, ↓reduceIte, Int.reduceToNat, Nat.reduceEqDiff, iI_lt, iI_le, iI_eq, iI_inb, iI_nat, iI_nz, c1, s_shX, s_shM, bI_0, not_false_eq_true]
    exact ⟨_, _, _, rfl, rfl, hR⟩
  by_cases c2 : 0 ≤ v ∧ v ≤ 15
  rotate_left
  · by_cases c3 : v < 0
    · simp +decide (maxSteps := 2000000) (disch := omega) only [↓gl_p, ↓bs_p, iI_lit, iI_neg, iI_add, iI_sub, iI_mul, gk_p, bs_p, bz0, bz1, pI_row, pI_snd, pA_row, pA_snd, pL_fst, pL_row, pB_fst, pB_row, upd_at, ↓reduceIte, Int.reduceToNat, Nat.reduceEqDiff, iI_lt, iI_le, iI_eq, iI_inb, iI_nat, iI_nz, c1, c2, c3, s_shX, s_shM, s_wi, bI_0, not_false_eq_true, not_true_eq_false, and_self]
      exact ⟨_, _, _, rfl, rfl, hR⟩
    · have c4 : ¬ v ≤ 15 := by omega
      simp +decide (maxSteps := 2000000) (disch := omega) only [↓gl_p, ↓bs_p, iI_lit, iI_neg, iI_add, iI_sub, iI_mul, gk_p, bs_p, bz0, bz1, pI_row, pI_snd, pA_row, pA_snd, pL_fst, pL_row, pB_fst, pB_row, upd_at, ↓reduceIte, Int.reduceToNat, Nat.reduceEqDiff, iI_lt, iI_le, iI_eq, iI_inb, iI_nat, iI_nz, c1, c2, c3, c4, s_shX, s_shM, s_wi, bI_0, not_false_eq_true, not_true_eq_false, and_self, and_false]
      exact ⟨_, _, _, rfl, rfl, hR⟩
  have c3 : ¬ v < 0 := by omega
  have c4 : v ≤ 15 := by omega
  obtain ⟨u, hu, rfl⟩ : ∃ k : Nat, k < 6 ∧ s = (k : Int) := ⟨s.toNat, by omega, by omega⟩
  obtain ⟨h, hh, rfl⟩ : ∃ k : Nat, k ≤ 15 ∧ v = (k : Int) := ⟨v.toNat, by omega, by omega⟩
  rcases lay3 hP hK.1 hS hu with ⟨b, hb, l1, l2⟩ | ⟨k, w, sd, S, y, m2, l1, l2, l3, h1, h2, hY, hM, hC, hO⟩
  · have hb2 : ¬ 0 ≤ b := by omega
    simp +decide (maxSteps := 2000000) (disch := omega) only [↓gl_p, ↓bs_p, iI_lit, iI_neg, iI_add, iI_sub, iI_mul, gk_p, bs_p, bz0, bz1, pI_row, pI_snd, pA_row, pA_snd, pL_fst, pL_row, pB_fst, pB_row, upd_at, ↓reduceIte, Int.reduceToNat, Nat.reduceEqDiff, iI_lt, iI_le, iI_eq, iI_inb, iI_nat, iI_nz, c1, c2, c3, c4, s_shX, s_shM, s_wi, bI_0, not_true_eq_false, and_self, l1, l2, hb2]
    exact ⟨_, _, _, rfl, rfl, hR⟩
  · have hw : ∀ p q, okP n p → okP n q → w p q ≤ 270 := fun p q hp hq => (hY.2.2.2.2 p q hp hq).1
    obtain ⟨m3, D, w1, w2, hW⟩ := s_walks hn hw hY.2.1 hO hM (high := 4000) (by omega)
    have hR2 := Rel1_sc hR (sc_co (by omega) (by omega) h1) (Ch_tr (sc_rd h2) (sc_wa w2))
    have w1' : f_X10_walks m2 (iI 4000) = some m3 := w1
    have en : m3.1 0 0 = iI n := (w2.2 0 0 rfl).trans hM.1
    obtain ⟨lo, q1, q2⟩ := s_dBy_26 hC hw hY.2.1 (v := 60 * (h : Int) - 1) (by omega) (by omega)
    obtain ⟨hi, q3, q4⟩ := s_dBy_26 hC hw hY.2.1 (v := 60 * (h : Int) + 59) (by omega) (by omega)
    have hlh : lo ≤ hi := by
      by_cases c : hi < lo
      · have g1 := q2.2.1 hi c
        have g2 := q4.2.2 (by have := q2.1; omega)
        omega
      · omega
    have hiD : hi ≤ D := by
      by_cases c : D < hi
      · have g1 := q4.2.1 D c
        have g2 := hW.2.2.2 (by have := q4.1; omega)
        omega
      · omega
    have kx := w_dw18 (lo := lo) (hi := hi) hC (fun hlt => WK_k hW (by omega)) q4.1 (hi - lo) lo 999999 (by omega) (by omega) (by have := q4.1; omega)
    have km := w_r57 hW hh q2 q4 (iI 1 <<< (iI n &&& iI 31) - iI 1) D 0 999999 (by omega) (by have := hW.1; omega)
    rw [og_lo lo (by omega)] at kx
    rw [show og S k lo hi 0 = iI 0 from rfl, and_m1, show D = hi + (D - hi) by omega, og_hi] at km
    unfold f_X8_all f_X1_dentedWithin
    simp +decide (maxSteps := 2000000) (disch := omega) only [↓gl_p, ↓bs_p, iI_lit, iI_neg, iI_add, iI_sub, iI_mul, gk_p, bs_p, bz0, bz1, pI_row, pI_snd, pA_row, pA_snd, pL_fst, pL_row, pB_fst, pB_row, upd_at, ↓reduceIte, Int.reduceToNat, Nat.reduceEqDiff, iI_lt, iI_le, iI_eq, iI_inb, iI_nat, iI_nz, c1, c2, c3, c4, s_shX, s_shM, s_wi, bI_0, not_true_eq_false, and_self, l1, l2, l3, w1', q1, q3, hY.2.2.1, en]
    rw [show f_X1_dentedWithin_18 y 26 gN (iI hi) (iI 0) (iI lo) = _ from kx]
    exact ⟨_, _, _, rfl, km, hR2⟩
