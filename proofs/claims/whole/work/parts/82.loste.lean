/-! ===== lost: minutes and posts ===== -/
theorem w_lo {y m : gS} {k sd p z U v0 : Nat} {w : Nat → Nat → Nat} {S f : Nat → Nat} (hG : GR z f y) (hP : GP (dn w sd S k p) U z f) (hU : U ≤ 999) (hz : z ≤ 2198) (hw : y.1 32 2 = iI (wdo sd : Nat)) (hsd : sd ≤ 9) (e5 : m.1 5 3 = iI sd) (hT : LT w sd S k m) (hp : p < 9) (hL : LW (y.1 7 6) (y.1 10) (m.1 0 8) (m.1 0 9) (m.1 7) (m.1 8) (m.1 9) (m.1 10)) (hv : v0 ≤ 9) (e3 : m.1 3 p = iI v0) (n0 : y.1 12 0 = iI v0) (n3 : y.1 12 3 = m.1 4 p) (n4 : y.1 12 4 = iI p) (n5 : y.1 12 5 = m.1 0 44) (K : Int32 → Int32 → Int32 → Int32 → Int32 → gS → Option (Int32 × gS)) (X2 X3 B : Int32) (hX : X2 = iI (-1) ∨ X2 = iI p) : ∀ (r t fx fr cnt : Nat) (A : Int32) (σ τ : gS), t + r = U + 1 → r ≤ fx → r ≤ fr → cnt ≤ z → (∀ i, i < cnt → f i ≤ t) → Ch cwX y σ → Ch cwM m τ → ∃ A2 σ2 τ2, f_X9_lostAt_55 (fx + 1) (iI U) A (iI cnt) (iI t) σ = some (A2, σ2) ∧ f_X10_lost_87 K (fr + 1) X2 X3 (iI U) (B + A) (iI p) (iI t) τ = K X2 X3 (iI U) (B + A2) (iI ((p : Int) + 1)) τ2 ∧ Ch cwX y σ2 ∧ Ch cwM m τ2 := by
  intro r
  induction r with
  | zero =>
    intro t fx fr cnt A σ τ ht h1 h2 h3 h4 h5 h6
    have g : (U : Int) < (t : Int) := by omega
    refine ⟨A, σ, τ, ?_, ?_, h5, h6⟩
    · rw [f_X9_lostAt_55]
      simp +decide (maxSteps := 2000000) (disch := omega) only [↓gl_p, ↓bs_p, iI_lit, iI_neg, iI_add, iI_sub, iI_mul, gk_p, bs_p, bz0, bz1, pI_row, pI_snd, pA_row, pA_snd, pL_fst, pL_row, pB_fst, pB_row, upd_at, ↓reduceIte, Int.reduceToNat, Nat.reduceEqDiff, iI_lt, iI_le, iI_eq, iI_inb, iI_nat, iI_nz, eq_true g]
    · rw [f_X10_lost_87]
      simp +decide (maxSteps := 2000000) (disch := omega) only [↓gl_p, ↓bs_p, iI_lit, iI_neg, iI_add, iI_sub, iI_mul, gk_p, bs_p, bz0, bz1, pI_row, pI_snd, pA_row, pA_snd, pL_fst, pL_row, pB_fst, pB_row, upd_at, ↓reduceIte, Int.reduceToNat, Nat.reduceEqDiff, iI_lt, iI_le, iI_eq, iI_inb, iI_nat, iI_nz, eq_true g]
  | succ r ih =>
    intro t fx fr cnt A σ τ ht h1 h2 h3 h4 h5 h6
    obtain ⟨fx, rfl⟩ : ∃ q, fx = q + 1 := ⟨fx - 1, by omega⟩
    obtain ⟨fr, rfl⟩ : ∃ q, fr = q + 1 := ⟨fr - 1, by omega⟩
    have g : ¬ (U : Int) < (t : Int) := by omega
    have G2 : GR z f σ := ⟨(h5.2 32 1 rfl).trans hG.1, fun i hi => (h5.2 33 i rfl).trans (hG.2 i hi)⟩
    obtain ⟨c, c1, c2, c3, c4, c5⟩ := w_cb6 G2 hP (by omega) hz (v := t) (by omega) (by omega) (z - cnt) cnt 999999 (by omega) (by omega) (fun j hj => by
      have := h4 j hj
      omega)
    have cb : f_X6_countBy σ (iI t) (iI cnt) = some (iI (c : Nat)) := by
      unfold f_X6_countBy
      rw [show (0 : Int32) = iI 0 from rfl, jmax_i (by omega) (by omega) (by omega) (by omega), gl_e, gN_s, show (if (0 : Int) < (cnt : Int) then (cnt : Int) else 0) = (cnt : Int) by split <;> omega]
      exact c1
    have c4n : ∀ i, i < c → f i ≤ t := fun i hi => by
      have := c4 i hi
      omega
    have c5n : c < z → t < f c := fun h => by
      have := c5 h
      omega
    have sx := s_seeA G2 hP (by omega) hz ((h5.2 32 2 rfl).trans hw) (wdo_rg hsd).1 (wdo_rg hsd).2 (c := c) (v := t) (by omega) c3 c4n c5n
    have ux := s_unsA G2 hP (by omega) hz (c := c) (v := t) (by omega) c3 c4n c5n
    have T2 : LT w sd S k τ := fun q s q1 q2 => (h6.2 30 _ rfl).trans (hT q s q1 q2)
    have sm := s_isSeen hsd ((h6.2 5 3 rfl).trans e5) T2 (p := p) (v := t) hp (by omega)
    have um := s_unsF T2 (p := p) (v := t) hp (by omega)
    have lr := ld_rg (b := dn w sd S k p) t
    have ur : 0 ≤ uns (ld (dn w sd S k p) t) t ∧ uns (ld (dn w sd S k p) t) t ≤ 2000 := by
      unfold uns
      split <;> omega
    have n1 : ((t + 1 : Nat) : Int) = (t : Int) + 1 := by omega
    have hR : f_X10_lost_87 K (fr + 1 + 1) X2 X3 (iI U) (B + A) (iI p) (iI t) τ = f_X10_lost_105 K (f_X10_lost_87 K (fr + 1)) X2 X3 (iI U) (B + A) (iI p) (iI t) τ := by
      rw [f_X10_lost_87]
      rcases hX with hX | hX
      · rw [hX]
        simp +decide (maxSteps := 2000000) (disch := omega) only [↓gl_p, ↓bs_p, iI_lit, iI_neg, iI_add, iI_sub, iI_mul, gk_p, bs_p, bz0, bz1, pI_row, pI_snd, pA_row, pA_snd, pL_fst, pL_row, pB_fst, pB_row, upd_at, ↓reduceIte, Int.reduceToNat, Nat.reduceEqDiff, iI_lt, iI_le, iI_eq, iI_inb, iI_nat, iI_nz, g]
      · by_cases c : X2 = iI (-1)
        · rw [c]
          simp +decide (maxSteps := 2000000) (disch := omega) only [↓gl_p, ↓bs_p, iI_lit, iI_neg, iI_add, iI_sub, iI_mul, gk_p, bs_p, bz0, bz1, pI_row, pI_snd, pA_row, pA_snd, pL_fst, pL_row, pB_fst, pB_row, upd_at, ↓reduceIte, Int.reduceToNat, Nat.reduceEqDiff, iI_lt, iI_le, iI_eq, iI_inb, iI_nat, iI_nz, g]
        · rw [hX] at c ⊢
          have gt : ¬ iI (U : Int) < iI (t : Int) := by
            rw [iI_lt (by omega) (by omega) (by omega) (by omega)]
            omega
          rw [if_neg gt, if_neg (show ¬ iI (p : Int) = -1 from fun h => c (h.trans (by decide))), if_pos rfl]
    rw [hR, f_X9_lostAt_55]
    unfold f_X10_lost_105
    by_cases cs : 0 ≤ ld (dn w sd S k p) t ∧ (t : Int) - ld (dn w sd S k p) t < (wdo sd : Nat)
    · obtain ⟨A2, σ2, τ2, k1, k2, k3, k4⟩ := ih (t + 1) fx fr c A σ τ (by omega) (by omega) (by omega) c3 (fun i hi => by
        have := c4n i hi
        omega) h5 h6
      rw [n1] at k1 k2
      refine ⟨A2, σ2, τ2, ?_, ?_, k3, k4⟩
      · simp +decide (maxSteps := 2000000) (disch := omega) only [↓gl_p, ↓bs_p, iI_lit, iI_neg, iI_add, iI_sub, iI_mul, gk_p, bs_p, bz0, bz1, pI_row, pI_snd, pA_row, pA_snd, pL_fst, pL_row, pB_fst, pB_row, upd_at, ↓reduceIte, Int.reduceToNat, Nat.reduceEqDiff, iI_lt, iI_le, iI_eq, iI_inb, iI_nat, iI_nz, g, cb, sx, bI_0, cs, not_true_eq_false, and_self]
        exact k1
      · simp +decide (maxSteps := 2000000) (disch := omega) only [↓gl_p, ↓bs_p, iI_lit, iI_neg, iI_add, iI_sub, iI_mul, gk_p, bs_p, bz0, bz1, pI_row, pI_snd, pA_row, pA_snd, pL_fst, pL_row, pB_fst, pB_row, upd_at, ↓reduceIte, Int.reduceToNat, Nat.reduceEqDiff, iI_lt, iI_le, iI_eq, iI_inb, iI_nat, iI_nz, sm, bI_0, cs, not_true_eq_false, and_self]
        exact k2
    · obtain ⟨v, σ1, τ1, w1, w2, w3, w4⟩ := wl_sim (x := σ) (m := τ) (p := p) (v0 := v0) (t := t) (u := uns (ld (dn w sd S k p) t) t) (by
        rw [h5.2 7 6 rfl, show σ.1 10 = y.1 10 from Ch_row h5 (fun j => rfl), h6.2 0 8 rfl, h6.2 0 9 rfl, show τ.1 7 = m.1 7 from Ch_row h6 (fun j => rfl), show τ.1 8 = m.1 8 from Ch_row h6 (fun j => rfl), show τ.1 9 = m.1 9 from Ch_row h6 (fun j => rfl), show τ.1 10 = m.1 10 from Ch_row h6 (fun j => rfl)]
        exact hL) hp hv ((h6.2 3 p rfl).trans e3) ((h5.2 12 0 rfl).trans n0) (((h5.2 12 3 rfl).trans n3).trans (h6.2 4 p rfl).symm) ((h5.2 12 4 rfl).trans n4) (((h5.2 12 5 rfl).trans n5).trans (h6.2 0 44 rfl).symm) ur.1 ur.2
      obtain ⟨A2, σ2, τ2, k1, k2, k3, k4⟩ := ih (t + 1) fx fr c (A + v) σ1 τ1 (by omega) (by omega) (by omega) c3 (fun i hi => by
        have := c4n i hi
        omega) (Ch_tr h5 w3) (Ch_tr h6 w4)
      rw [n1] at k1 k2
      rw [← Int32.add_assoc] at k2
      refine ⟨A2, σ2, τ2, ?_, ?_, k3, k4⟩
      · simp +decide (maxSteps := 2000000) (disch := omega) only [↓gl_p, ↓bs_p, iI_lit, iI_neg, iI_add, iI_sub, iI_mul, gk_p, bs_p, bz0, bz1, pI_row, pI_snd, pA_row, pA_snd, pL_fst, pL_row, pB_fst, pB_row, upd_at, ↓reduceIte, Int.reduceToNat, Nat.reduceEqDiff, iI_lt, iI_le, iI_eq, iI_inb, iI_nat, iI_nz, g, cb, sx, bI_0, cs, not_false_eq_true, ux, w1]
        exact k1
      · simp +decide (maxSteps := 2000000) (disch := omega) only [↓gl_p, ↓bs_p, iI_lit, iI_neg, iI_add, iI_sub, iI_mul, gk_p, bs_p, bz0, bz1, pI_row, pI_snd, pA_row, pA_snd, pL_fst, pL_row, pB_fst, pB_row, upd_at, ↓reduceIte, Int.reduceToNat, Nat.reduceEqDiff, iI_lt, iI_le, iI_eq, iI_inb, iI_nat, iI_nz, sm, bI_0, cs, not_false_eq_true, um, w2]
        exact k2
def gX (c _j : Nat) : Bool := c == 11 || c == 12 || c == 32 || c == 33
theorem s_setP (x : gS) (a b c d : Int32) : f_X4_setPost x a b c d = some (pI (pI (pI (pI x 12 0 a) 12 3 b) 12 4 c) 12 5 d) := by
  have i0 : inb 0 6 = true := by decide
  have i3 : inb 3 6 = true := by decide
  have i4 : inb 4 6 = true := by decide
  have i5 : inb 5 6 = true := by decide
  unfold f_X4_setPost
  rw [i0, i3, i4, i5]
  rfl
theorem P_at {x y1 : gS} {p a U : Int32} {b c : Int32} {r : Option (Int32 × gS)} (g1 : f_X6_gather x 26 p U = some y1) (u2 : f_X8_numberOf y1 p 2 = some b) (u3 : f_X8_numberOf y1 p 3 = some c) (k1 : f_X9_lostAt_55 gN U 0 0 a (pI (pI (pI (pI y1 12 0 b) 12 3 c) 12 4 p) 12 5 (y1.1 26 4)) = r) : f_X9_lostAt x p a U = r := by
  unfold f_X9_lostAt
  rw [g1, b_some, u2, b_some, u3, b_some, s_setP, b_some]
  exact k1
theorem P_lo {x m : gS} {n k sd p a U : Nat} {w : Nat → Nat → Nat} {S : Nat → Nat} (hR : Rel1 LW x m) (hPP : RP n (x.1 1 1) (x.1 2) (m.1 0 0) (m.1 1) (m.1 2) (m.1 3) (m.1 4) (m.1 5)) (hY : YD n w sd x) (hC : CO 26 n k w sd S x) (e5 : m.1 5 3 = iI sd) (hT : LT w sd S k m) (e44 : m.1 0 44 = iI k) (hp : p < n) (ha : a ≤ U) (hU : U ≤ 999) (K : Int32 → Int32 → Int32 → Int32 → Int32 → gS → Option (Int32 × gS)) (X2 X3 B : Int32) (hX : X2 = iI (-1) ∨ X2 = iI p) : ∃ v y τ, f_X9_lostAt x (iI p) (iI a) (iI U) = some (v, y) ∧ f_X10_lost_87 K gN X2 X3 (iI U) B (iI p) (iI a) m = K X2 X3 (iI U) (B + v) (iI ((p : Int) + 1)) τ ∧ Ch gX x y ∧ Ch cwM m τ := by
  have hn := hY.1
  obtain ⟨y1, C, z, f, g1, g2, g3, g4, g5, g6⟩ := s_gath_26 hY hC hp (U := U) (by omega)
  have hG := GP_of g6 g3
  have hz := GP_sz g6 hG (by omega)
  have P1 : RP n (y1.1 1 1) (y1.1 2) (m.1 0 0) (m.1 1) (m.1 2) (m.1 3) (m.1 4) (m.1 5) := RP_sc hPP (sc_ga g2) (Ch_refl _ _)
  have u2 := s_num P1 hp (q := 2) (by omega)
  have u3 := s_num P1 hp (q := 3) (by omega)
  obtain ⟨a1, a2, a3, a4⟩ := P1.2.2.2.1 p hp
  obtain ⟨v0, hv0, hv1, hv2⟩ := (P1.2.2.2.2.2.1 p hp).2.2.1
  have hv1 : 0 ≤ v0 := hv1
  have hv2 : v0 ≤ 9 := hv2
  obtain ⟨v0, rfl⟩ : ∃ q : Nat, v0 = (q : Int) := ⟨v0.toNat, by omega⟩
  have i0 : inb 0 6 = true := by decide
  have i3 : inb 3 6 = true := by decide
  have i4 : inb 4 6 = true := by decide
  have i5 : inb 5 6 = true := by decide
  have c26 : y1.1 26 4 = iI k := (g2.2 26 4 rfl).trans hC.2.2.1
  have hL2 := (Rel1_sc hR (sc_ga g2) (Ch_refl scM m)).2
  have lp := w_lo (y := pI (pI (pI (pI y1 12 0 (y1.1 2 (4 * p + 2))) 12 3 (y1.1 2 (4 * p + 3))) 12 4 (iI p)) 12 5 (y1.1 26 4)) (m := m) (v0 := v0) g5 hG hU hz g4 hY.2.1 e5 hT (by omega) hL2 (by omega) (a3.trans hv0) hv0 a4.symm rfl (c26.trans e44.symm) K X2 X3 B hX (U + 1 - a) a 999999 999999 0 (iI 0) _ _ (by omega) (by omega) (by omega) (by omega) (fun i hi => absurd hi (by omega)) (Ch_refl _ _) (Ch_refl _ _)
  rw [← gN_s] at lp
  obtain ⟨A2, σ2, τ2, k1, k2, k3, k4⟩ := lp
  rw [show B + iI 0 = B from Int32.add_zero B] at k2
  refine ⟨A2, σ2, τ2, ?_, k2, ?_, k4⟩
  · exact P_at g1 u2 u3 k1
  · have q1 : Ch gX x y1 := Ch_mo g2 (fun c j hd => by
      unfold gX at hd
      unfold gaC
      simp at hd ⊢
      omega)
    have q2 : Ch gX _ σ2 := Ch_mo k3 (fun c j hd => by
      unfold gX at hd
      unfold cwX
      simp at hd ⊢
      omega)
    exact Ch_tr (Ch_pI (Ch_pI (Ch_pI (Ch_pI q1 rfl) rfl) rfl) rfl) q2
