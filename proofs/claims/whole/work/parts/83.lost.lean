/-! ===== lost ===== -/
theorem scX_g {x y : gS} (h : Ch gX x y) : Ch scX x y := Ch_mo h (fun c j hd => by
  unfold scX at hd
  unfold gX
  simp at hd ⊢
  omega)
theorem scM_w {x y : gS} (h : Ch cwM x y) : Ch scM x y := Ch_mo h (fun c j hd => by
  unfold scM at hd
  unfold cwM
  simp at hd ⊢
  omega)
def PB (n k sd : Nat) (w : Nat → Nat → Nat) (S : Nat → Nat) (x m : gS) : Prop := Rel1 LW x m ∧ RP n (x.1 1 1) (x.1 2) (m.1 0 0) (m.1 1) (m.1 2) (m.1 3) (m.1 4) (m.1 5) ∧ YD n w sd x ∧ CO 26 n k w sd S x ∧ m.1 5 3 = iI sd ∧ LT w sd S k m ∧ m.1 0 44 = iI k
theorem PB_ch {n k sd : Nat} {w : Nat → Nat → Nat} {S : Nat → Nat} {x m y τ : gS} (h : PB n k sd w S x m) (h1 : Ch gX x y) (h2 : Ch cwM m τ) : PB n k sd w S y τ :=
  ⟨Rel1_sc h.1 (scX_g h1) (scM_w h2), RP_sc h.2.1 (scX_g h1) (scM_w h2), YD_ch h.2.2.1 h1 (fun _ => rfl) (fun _ => rfl), CO_ch_26 h.2.2.2.1 h1 (fun _ => rfl) (fun _ => rfl) (fun _ => rfl), (h2.2 5 3 rfl).trans h.2.2.2.2.1, fun p t q1 q2 => (h2.2 30 _ rfl).trans (h.2.2.2.2.2.1 p t q1 q2), (h2.2 0 44 rfl).trans h.2.2.2.2.2.2⟩
theorem w_all {n k sd a U : Nat} {w : Nat → Nat → Nat} {S : Nat → Nat} (ha : a ≤ U) (hU : U ≤ 999) : ∀ (r q f g : Nat) (A : Int32) (x m : gS), q + r = n → r ≤ f → r ≤ g → PB n k sd w S x m → ∃ v y τ, f_X9_lost_93 (f + 1) (iI a) (iI U) A (iI q) x = some (v, y) ∧ f_X10_lost_75 (g + 1) (iI (-1)) (iI a) (iI U) A (iI q) m = some (v, τ) ∧ Rel1 LW y τ := by
  intro r
  induction r with
  | zero =>
    intro q f g A x m hq hf hg hB
    have hn := hB.2.1.1
    have e1 := hB.2.1.2.1
    have e2 := hB.2.1.2.2.1
    have g1 : (n : Int) ≤ (q : Int) := by omega
    refine ⟨A, x, m, ?_, ?_, hB.1⟩
    · rw [f_X9_lost_93]
      simp +decide (maxSteps := 2000000) (disch := omega) only [↓gl_p, ↓bs_p, iI_lit, iI_neg, iI_add, iI_sub, iI_mul, gk_p, bs_p, bz0, bz1, pI_row, pI_snd, pA_row, pA_snd, pL_fst, pL_row, pB_fst, pB_row, upd_at, ↓reduceIte, Int.reduceToNat, Nat.reduceEqDiff, iI_lt, iI_le, iI_eq, iI_inb, iI_nat, iI_nz, e1, eq_true g1]
    · rw [f_X10_lost_75]
      simp +decide (maxSteps := 2000000) (disch := omega) only [↓gl_p, ↓bs_p, iI_lit, iI_neg, iI_add, iI_sub, iI_mul, gk_p, bs_p, bz0, bz1, pI_row, pI_snd, pA_row, pA_snd, pL_fst, pL_row, pB_fst, pB_row, upd_at, ↓reduceIte, Int.reduceToNat, Nat.reduceEqDiff, iI_lt, iI_le, iI_eq, iI_inb, iI_nat, iI_nz, e2, eq_true g1]
  | succ r ih =>
    intro q f g A x m hq hf hg hB
    obtain ⟨f, rfl⟩ : ∃ s, f = s + 1 := ⟨f - 1, by omega⟩
    obtain ⟨g, rfl⟩ : ∃ s, g = s + 1 := ⟨g - 1, by omega⟩
    have hn := hB.2.1.1
    have e1 := hB.2.1.2.1
    have e2 := hB.2.1.2.2.1
    have g1 : ¬ (n : Int) ≤ (q : Int) := by omega
    obtain ⟨v, y, τ, k1, k2, k3, k4⟩ := P_lo hB.1 hB.2.1 hB.2.2.1 hB.2.2.2.1 hB.2.2.2.2.1 hB.2.2.2.2.2.1 hB.2.2.2.2.2.2 (show q < n by omega) ha hU (f_X10_lost_75 (g + 1)) (iI (-1)) (iI a) A (Or.inl rfl)
    obtain ⟨v2, y2, τ2, j1, j2, j3⟩ := ih (q + 1) f g (A + v) y τ (by omega) (by omega) (by omega) (PB_ch hB k3 k4)
    rw [show ((q + 1 : Nat) : Int) = (q : Int) + 1 by omega] at j1 j2
    refine ⟨v2, y2, τ2, ?_, ?_, j3⟩
    · rw [f_X9_lost_93]
      simp +decide (maxSteps := 2000000) (disch := omega) only [↓gl_p, ↓bs_p, iI_lit, iI_neg, iI_add, iI_sub, iI_mul, gk_p, bs_p, bz0, bz1, pI_row, pI_snd, pA_row, pA_snd, pL_fst, pL_row, pB_fst, pB_row, upd_at, ↓reduceIte, Int.reduceToNat, Nat.reduceEqDiff, iI_lt, iI_le, iI_eq, iI_inb, iI_nat, iI_nz, e1, g1, k1]
      exact j1
    · rw [f_X10_lost_75]
      simp +decide (maxSteps := 2000000) (disch := omega) only [↓gl_p, ↓bs_p, iI_lit, iI_neg, iI_add, iI_sub, iI_mul, gk_p, bs_p, bz0, bz1, pI_row, pI_snd, pA_row, pA_snd, pL_fst, pL_row, pB_fst, pB_row, upd_at, ↓reduceIte, Int.reduceToNat, Nat.reduceEqDiff, iI_lt, iI_le, iI_eq, iI_inb, iI_nat, iI_nz, e2, g1]
      exact k2.trans j2
theorem w_skip {q p U : Nat} {X3 B : Int32} {m : gS} (hU : U ≤ 999) (hq : q < 9) (hp : p < 9) (hne : q ≠ p) (K : Int32 → Int32 → Int32 → Int32 → Int32 → gS → Option (Int32 × gS)) : ∀ (r t f : Nat), t + r = U + 1 → r ≤ f → f_X10_lost_87 K (f + 1) (iI p) X3 (iI U) B (iI q) (iI t) m = K (iI p) X3 (iI U) B (iI ((q : Int) + 1)) m := by
  intro r
  induction r with
  | zero =>
    intro t f ht hf
    have g : (U : Int) < (t : Int) := by omega
    rw [f_X10_lost_87]
    simp +decide (maxSteps := 2000000) (disch := omega) only [↓gl_p, ↓bs_p, iI_lit, iI_neg, iI_add, iI_sub, iI_mul, gk_p, bs_p, bz0, bz1, pI_row, pI_snd, pA_row, pA_snd, pL_fst, pL_row, pB_fst, pB_row, upd_at, ↓reduceIte, Int.reduceToNat, Nat.reduceEqDiff, iI_lt, iI_le, iI_eq, iI_inb, iI_nat, iI_nz, eq_true g]
  | succ r ih =>
    intro t f ht hf
    obtain ⟨f, rfl⟩ : ∃ s, f = s + 1 := ⟨f - 1, by omega⟩
    have g : ¬ (U : Int) < (t : Int) := by omega
    have g2 : ¬ (p : Int) = -1 := by omega
    have g3 : ¬ (p : Int) = (q : Int) := by omega
    have k := ih (t + 1) f (by omega) (by omega)
    rw [show ((t + 1 : Nat) : Int) = (t : Int) + 1 by omega] at k
    rw [f_X10_lost_87]
    simp +decide (maxSteps := 2000000) (disch := omega) only [↓gl_p, ↓bs_p, iI_lit, iI_neg, iI_add, iI_sub, iI_mul, gk_p, bs_p, bz0, bz1, pI_row, pI_snd, pA_row, pA_snd, pL_fst, pL_row, pB_fst, pB_row, upd_at, ↓reduceIte, Int.reduceToNat, Nat.reduceEqDiff, iI_lt, iI_le, iI_eq, iI_inb, iI_nat, iI_nz, g, g2, g3]
    exact k
theorem w_aft {n p a U : Nat} {B : Int32} {m : gS} (hn : n ≤ 9) (ha : a ≤ U) (hU : U ≤ 999) (hp : p < n) (e2 : m.1 0 0 = iI n) : ∀ (r q g : Nat), q + r = n → r ≤ g → p < q → f_X10_lost_75 (g + 1) (iI p) (iI a) (iI U) B (iI q) m = some (B, m) := by
  intro r
  induction r with
  | zero =>
    intro q g hq hg h
    have g1 : (n : Int) ≤ (q : Int) := by omega
    rw [f_X10_lost_75]
    simp +decide (maxSteps := 2000000) (disch := omega) only [↓gl_p, ↓bs_p, iI_lit, iI_neg, iI_add, iI_sub, iI_mul, gk_p, bs_p, bz0, bz1, pI_row, pI_snd, pA_row, pA_snd, pL_fst, pL_row, pB_fst, pB_row, upd_at, ↓reduceIte, Int.reduceToNat, Nat.reduceEqDiff, iI_lt, iI_le, iI_eq, iI_inb, iI_nat, iI_nz, e2, eq_true g1]
  | succ r ih =>
    intro q g hq hg h
    obtain ⟨g, rfl⟩ : ∃ s, g = s + 1 := ⟨g - 1, by omega⟩
    have g1 : ¬ (n : Int) ≤ (q : Int) := by omega
    have k := ih (q + 1) g (by omega) (by omega) (by omega)
    rw [show ((q + 1 : Nat) : Int) = (q : Int) + 1 by omega] at k
    have s := w_skip (X3 := iI a) (B := B) (m := m) hU (show q < 9 by omega) (show p < 9 by omega) (by omega) (f_X10_lost_75 (g + 1)) (U + 1 - a) a 999999 (by omega) (by omega)
    rw [← gN_s] at s
    rw [f_X10_lost_75]
    simp +decide (maxSteps := 2000000) (disch := omega) only [↓gl_p, ↓bs_p, iI_lit, iI_neg, iI_add, iI_sub, iI_mul, gk_p, bs_p, bz0, bz1, pI_row, pI_snd, pA_row, pA_snd, pL_fst, pL_row, pB_fst, pB_row, upd_at, ↓reduceIte, Int.reduceToNat, Nat.reduceEqDiff, iI_lt, iI_le, iI_eq, iI_inb, iI_nat, iI_nz, e2, g1]
    exact s.trans k
theorem w_onl {n k sd p a U : Nat} {w : Nat → Nat → Nat} {S : Nat → Nat} {x m : gS} (ha : a ≤ U) (hU : U ≤ 999) (hp : p < n) (hB : PB n k sd w S x m) : ∀ (r q g : Nat), q + r = p → n - q ≤ g → ∃ v y τ, f_X9_lostAt x (iI p) (iI a) (iI U) = some (v, y) ∧ f_X10_lost_75 (g + 1) (iI p) (iI a) (iI U) (iI 0) (iI q) m = some (v, τ) ∧ Rel1 LW y τ := by
  have hn := hB.2.1.1
  have e2 := hB.2.1.2.2.1
  intro r
  induction r with
  | zero =>
    intro q g hq hg
    have eq : q = p := by omega
    subst eq
    obtain ⟨g, rfl⟩ : ∃ s, g = s + 1 := ⟨g - 1, by omega⟩
    have g1 : ¬ (n : Int) ≤ (q : Int) := by omega
    obtain ⟨v, y, τ, k1, k2, k3, k4⟩ := P_lo hB.1 hB.2.1 hB.2.2.1 hB.2.2.2.1 hB.2.2.2.2.1 hB.2.2.2.2.2.1 hB.2.2.2.2.2.2 hp ha hU (f_X10_lost_75 (g + 1)) (iI q) (iI a) (iI 0) (Or.inr rfl)
    have hB2 := PB_ch hB k3 k4
    have k5 := w_aft (B := iI 0 + v) hn ha hU hp hB2.2.1.2.2.1 (n - q - 1) (q + 1) g (by omega) (by omega) (by omega)
    rw [show ((q + 1 : Nat) : Int) = (q : Int) + 1 by omega] at k5
    refine ⟨v, y, τ, k1, ?_, hB2.1⟩
    rw [f_X10_lost_75]
    simp +decide (maxSteps := 2000000) (disch := omega) only [↓gl_p, ↓bs_p, iI_lit, iI_neg, iI_add, iI_sub, iI_mul, gk_p, bs_p, bz0, bz1, pI_row, pI_snd, pA_row, pA_snd, pL_fst, pL_row, pB_fst, pB_row, upd_at, ↓reduceIte, Int.reduceToNat, Nat.reduceEqDiff, iI_lt, iI_le, iI_eq, iI_inb, iI_nat, iI_nz, e2, g1]
    refine (k2.trans k5).trans ?_
    rw [show iI 0 + v = v from Int32.zero_add v]
  | succ r ih =>
    intro q g hq hg
    obtain ⟨g, rfl⟩ : ∃ s, g = s + 1 := ⟨g - 1, by omega⟩
    have g1 : ¬ (n : Int) ≤ (q : Int) := by omega
    obtain ⟨v, y, τ, k1, k2, k3⟩ := ih (q + 1) g (by omega) (by omega)
    rw [show ((q + 1 : Nat) : Int) = (q : Int) + 1 by omega] at k2
    have s := w_skip (X3 := iI a) (B := iI 0) (m := m) hU (show q < 9 by omega) (show p < 9 by omega) (by omega) (f_X10_lost_75 (g + 1)) (U + 1 - a) a 999999 (by omega) (by omega)
    rw [← gN_s] at s
    refine ⟨v, y, τ, k1, ?_, k3⟩
    rw [f_X10_lost_75]
    simp +decide (maxSteps := 2000000) (disch := omega) only [↓gl_p, ↓bs_p, iI_lit, iI_neg, iI_add, iI_sub, iI_mul, gk_p, bs_p, bz0, bz1, pI_row, pI_snd, pA_row, pA_snd, pL_fst, pL_row, pB_fst, pB_row, upd_at, ↓reduceIte, Int.reduceToNat, Nat.reduceEqDiff, iI_lt, iI_le, iI_eq, iI_inb, iI_nat, iI_nz, e2, g1]
    exact s.trans k2
theorem e_lost : EQ_lost (Rel1 LW) := by
  intro x m a1 a2 a3 a4 hR
  obtain ⟨s, rfl, hs1, hs2⟩ := iI_of a1
  obtain ⟨v, rfl, hv1, hv2⟩ := iI_of a2
  obtain ⟨t, rfl, ht1, ht2⟩ := iI_of a3
  obtain ⟨q, rfl, hq1, hq2⟩ := iI_of a4
  obtain ⟨⟨n, nb, hP, hC, hT, hD, hI, hK, hS⟩, hL⟩ := id hR
  have hn := hP.1
  have px := s_poX (σ := x) hn hP.2.1 hv1 hv2
  have pm := s_poM (σ := m) hn hP.2.2.1 hv1 hv2
  unfold f_X9_lost f_X10_lost f_X9_lost_10 f_X10_lost_21 f_X9_lost_35
  by_cases c1 : 0 ≤ s ∧ s ≤ 5
  rotate_left
  · by_cases c0 : v = -1
    · simp +decide (maxSteps := 2000000) (disch := omega) only [↓gl_p, ↓bs_p, iI_lit, iI_neg, iI_add, iI_sub, iI_mul, gk_p, bs_p, bz0, bz1, pI_row, pI_snd, pA_row, pA_snd, pL_fst, pL_row, pB_fst, pB_row, upd_at, ↓reduceIte, Int.reduceToNat, Nat.reduceEqDiff, iI_lt, iI_le, iI_eq, iI_inb, iI_nat, iI_nz, eq_true c0, c1, s_shX, s_shM, bI_0, not_false_eq_true]
      exact ⟨_, _, _, rfl, rfl, hR⟩
    · simp +decide (maxSteps := 2000000) (disch := omega) only [↓gl_p, ↓bs_p, iI_lit, iI_neg, iI_add, iI_sub, iI_mul, gk_p, bs_p, bz0, bz1, pI_row, pI_snd, pA_row, pA_snd, pL_fst, pL_row, pB_fst, pB_row, upd_at, ↓reduceIte, Int.reduceToNat, Nat.reduceEqDiff, iI_lt, iI_le, iI_eq, iI_inb, iI_nat, iI_nz, c0, c1, s_shX, s_shM, bI_0, not_false_eq_true]
      exact ⟨_, _, _, rfl, rfl, hR⟩
  obtain ⟨u, hu, rfl⟩ : ∃ k : Nat, k < 6 ∧ s = (k : Int) := ⟨s.toNat, by omega, by omega⟩
  by_cases c0 : v = -1
  · by_cases c3 : 0 ≤ t ∧ t ≤ 999
    rotate_left
    · simp +decide (maxSteps := 2000000) (disch := omega) only [↓gl_p, ↓bs_p, iI_lit, iI_neg, iI_add, iI_sub, iI_mul, gk_p, bs_p, bz0, bz1, pI_row, pI_snd, pA_row, pA_snd, pL_fst, pL_row, pB_fst, pB_row, upd_at, ↓reduceIte, Int.reduceToNat, Nat.reduceEqDiff, iI_lt, iI_le, iI_eq, iI_inb, iI_nat, iI_nz, eq_true c0, c1, c3, s_shX, s_shM, s_miX, s_miM, bI_0, not_false_eq_true, not_true_eq_false, and_self]
      exact ⟨_, _, _, rfl, rfl, hR⟩
    by_cases c4 : 0 ≤ q ∧ q ≤ 999
    rotate_left
    · simp +decide (maxSteps := 2000000) (disch := omega) only [↓gl_p, ↓bs_p, iI_lit, iI_neg, iI_add, iI_sub, iI_mul, gk_p, bs_p, bz0, bz1, pI_row, pI_snd, pA_row, pA_snd, pL_fst, pL_row, pB_fst, pB_row, upd_at, ↓reduceIte, Int.reduceToNat, Nat.reduceEqDiff, iI_lt, iI_le, iI_eq, iI_inb, iI_nat, iI_nz, eq_true c0, c1, c3, c4, s_shX, s_shM, s_miX, s_miM, bI_0, not_false_eq_true, not_true_eq_false, and_self]
      exact ⟨_, _, _, rfl, rfl, hR⟩
    by_cases c5 : t ≤ q
    rotate_left
    · simp +decide (maxSteps := 2000000) (disch := omega) only [↓gl_p, ↓bs_p, iI_lit, iI_neg, iI_add, iI_sub, iI_mul, gk_p, bs_p, bz0, bz1, pI_row, pI_snd, pA_row, pA_snd, pL_fst, pL_row, pB_fst, pB_row, upd_at, ↓reduceIte, Int.reduceToNat, Nat.reduceEqDiff, iI_lt, iI_le, iI_eq, iI_inb, iI_nat, iI_nz, eq_true c0, c1, c3, c4, c5, s_shX, s_shM, s_miX, s_miM, bI_0, not_false_eq_true, not_true_eq_false, and_self]
      exact ⟨_, _, _, rfl, rfl, hR⟩
    obtain ⟨a, ha, rfl⟩ : ∃ k : Nat, k ≤ 999 ∧ t = (k : Int) := ⟨t.toNat, by omega, by omega⟩
    obtain ⟨U, hU, rfl⟩ : ∃ k : Nat, k ≤ 999 ∧ q = (k : Int) := ⟨q.toNat, by omega, by omega⟩
    rcases lay3 hP hK.1 hS hu with ⟨b, hb, l1, l2⟩ | ⟨k, w, sd, S, y, m2, l1, l2, l3, h1, h2, hY, hM, hC, hO⟩
    · have hb2 : ¬ 0 ≤ b := by omega
      simp +decide (maxSteps := 2000000) (disch := omega) only [↓gl_p, ↓bs_p, iI_lit, iI_neg, iI_add, iI_sub, iI_mul, gk_p, bs_p, bz0, bz1, pI_row, pI_snd, pA_row, pA_snd, pL_fst, pL_row, pB_fst, pB_row, upd_at, ↓reduceIte, Int.reduceToNat, Nat.reduceEqDiff, iI_lt, iI_le, iI_eq, iI_inb, iI_nat, iI_nz, eq_true c0, c1, c3, c4, eq_true c5, s_shX, s_shM, s_miX, s_miM, bI_0, not_true_eq_false, and_self, l1, l2, hb2]
      exact ⟨_, _, _, rfl, rfl, hR⟩
    · have hw : ∀ p q, okP n p → okP n q → w p q ≤ 270 := fun p q hp hq => (hY.2.2.2.2 p q hp hq).1
      obtain ⟨m3, w1, w2, hT⟩ := s_looks hn hw hY.2.1 hO hM
      have X := sc_co (by omega) (by omega) h1
      have M := Ch_tr (sc_rd h2) (sc_lk w2)
      have hB : PB n k sd w S y m3 := ⟨Rel1_sc hR X M, RP_sc hP X M, hY, hC, (w2.2 5 3 rfl).trans hM.2.1, hT, (w2.2 0 44 rfl).trans hO.2.2.1⟩
      obtain ⟨v2, y2, τ2, j1, j2, j3⟩ := w_all (a := a) (by omega) hU n 0 999999 999999 (iI 0) y m3 (by omega) (by omega) (by omega) hB
      rw [← gN_s] at j1 j2
      subst c0
      simp +decide (maxSteps := 2000000) (disch := omega) only [↓gl_p, ↓bs_p, iI_lit, iI_neg, iI_add, iI_sub, iI_mul, gk_p, bs_p, bz0, bz1, pI_row, pI_snd, pA_row, pA_snd, pL_fst, pL_row, pB_fst, pB_row, upd_at, ↓reduceIte, Int.reduceToNat, Nat.reduceEqDiff, iI_lt, iI_le, iI_eq, iI_inb, iI_nat, iI_nz, c1, c3, c4, eq_true c5, s_shX, s_shM, s_miX, s_miM, bI_0, not_true_eq_false, and_self, l1, l2, l3, w1]
      exact ⟨_, _, _, j1, j2, j3⟩
  · by_cases c2 : 0 ≤ v ∧ v < n
    rotate_left
    · simp +decide (maxSteps := 2000000) (disch := omega) only [↓gl_p, ↓bs_p, iI_lit, iI_neg, iI_add, iI_sub, iI_mul, gk_p, bs_p, bz0, bz1, pI_row, pI_snd, pA_row, pA_snd, pL_fst, pL_row, pB_fst, pB_row, upd_at, ↓reduceIte, Int.reduceToNat, Nat.reduceEqDiff, iI_lt, iI_le, iI_eq, iI_inb, iI_nat, iI_nz, c0, c1, c2, s_shX, s_shM, lL_i, px, pm, bI_0, not_false_eq_true, not_true_eq_false, and_self]
      exact ⟨_, _, _, rfl, rfl, hR⟩
    by_cases c3 : 0 ≤ t ∧ t ≤ 999
    rotate_left
    · simp +decide (maxSteps := 2000000) (disch := omega) only [↓gl_p, ↓bs_p, iI_lit, iI_neg, iI_add, iI_sub, iI_mul, gk_p, bs_p, bz0, bz1, pI_row, pI_snd, pA_row, pA_snd, pL_fst, pL_row, pB_fst, pB_row, upd_at, ↓reduceIte, Int.reduceToNat, Nat.reduceEqDiff, iI_lt, iI_le, iI_eq, iI_inb, iI_nat, iI_nz, c0, c1, c2, c3, s_shX, s_shM, lL_i, px, pm, s_miX, s_miM, bI_0, not_false_eq_true, not_true_eq_false, and_self]
      exact ⟨_, _, _, rfl, rfl, hR⟩
    by_cases c4 : 0 ≤ q ∧ q ≤ 999
    rotate_left
    · simp +decide (maxSteps := 2000000) (disch := omega) only [↓gl_p, ↓bs_p, iI_lit, iI_neg, iI_add, iI_sub, iI_mul, gk_p, bs_p, bz0, bz1, pI_row, pI_snd, pA_row, pA_snd, pL_fst, pL_row, pB_fst, pB_row, upd_at, ↓reduceIte, Int.reduceToNat, Nat.reduceEqDiff, iI_lt, iI_le, iI_eq, iI_inb, iI_nat, iI_nz, c0, c1, c2, c3, c4, s_shX, s_shM, lL_i, px, pm, s_miX, s_miM, bI_0, not_false_eq_true, not_true_eq_false, and_self]
      exact ⟨_, _, _, rfl, rfl, hR⟩
    by_cases c5 : t ≤ q
    rotate_left
    · simp +decide (maxSteps := 2000000) (disch := omega) only [↓gl_p, ↓bs_p, iI_lit, iI_neg, iI_add, iI_sub, iI_mul, gk_p, bs_p, bz0, bz1, pI_row, pI_snd, pA_row, pA_snd, pL_fst, pL_row, pB_fst, pB_row, upd_at, ↓reduceIte, Int.reduceToNat, Nat.reduceEqDiff, iI_lt, iI_le, iI_eq, iI_inb, iI_nat, iI_nz, c0, c1, c2, c3, c4, c5, s_shX, s_shM, lL_i, px, pm, s_miX, s_miM, bI_0, not_false_eq_true, not_true_eq_false, and_self]
      exact ⟨_, _, _, rfl, rfl, hR⟩
    obtain ⟨a, ha, rfl⟩ : ∃ k : Nat, k ≤ 999 ∧ t = (k : Int) := ⟨t.toNat, by omega, by omega⟩
    obtain ⟨U, hU, rfl⟩ : ∃ k : Nat, k ≤ 999 ∧ q = (k : Int) := ⟨q.toNat, by omega, by omega⟩
    obtain ⟨p, hp, rfl⟩ : ∃ k : Nat, k < n ∧ v = (k : Int) := ⟨v.toNat, by omega, by omega⟩
    rcases lay3 hP hK.1 hS hu with ⟨b, hb, l1, l2⟩ | ⟨k, w, sd, S, y, m2, l1, l2, l3, h1, h2, hY, hM, hC, hO⟩
    · have hb2 : ¬ 0 ≤ b := by omega
      simp +decide (maxSteps := 2000000) (disch := omega) only [↓gl_p, ↓bs_p, iI_lit, iI_neg, iI_add, iI_sub, iI_mul, gk_p, bs_p, bz0, bz1, pI_row, pI_snd, pA_row, pA_snd, pL_fst, pL_row, pB_fst, pB_row, upd_at, ↓reduceIte, Int.reduceToNat, Nat.reduceEqDiff, iI_lt, iI_le, iI_eq, iI_inb, iI_nat, iI_nz, c0, c1, c2, c3, c4, eq_true c5, s_shX, s_shM, lL_i, px, pm, s_miX, s_miM, bI_0, not_true_eq_false, and_self, l1, l2, hb2]
      exact ⟨_, _, _, rfl, rfl, hR⟩
    · have hw : ∀ p q, okP n p → okP n q → w p q ≤ 270 := fun p q hp hq => (hY.2.2.2.2 p q hp hq).1
      obtain ⟨m3, w1, w2, hT⟩ := s_looks hn hw hY.2.1 hO hM
      have X := sc_co (by omega) (by omega) h1
      have M := Ch_tr (sc_rd h2) (sc_lk w2)
      have hB : PB n k sd w S y m3 := ⟨Rel1_sc hR X M, RP_sc hP X M, hY, hC, (w2.2 5 3 rfl).trans hM.2.1, hT, (w2.2 0 44 rfl).trans hO.2.2.1⟩
      obtain ⟨v2, y2, τ2, j1, j2, j3⟩ := w_onl (a := a) (by omega) hU hp hB p 0 999999 (by omega) (by omega)
      rw [← gN_s] at j2
      simp +decide (maxSteps := 2000000) (disch := omega) only [↓gl_p, ↓bs_p, iI_lit, iI_neg, iI_add, iI_sub, iI_mul, gk_p, bs_p, bz0, bz1, pI_row, pI_snd, pA_row, pA_snd, pL_fst, pL_row, pB_fst, pB_row, upd_at, ↓reduceIte, Int.reduceToNat, Nat.reduceEqDiff, iI_lt, iI_le, iI_eq, iI_inb, iI_nat, iI_nz, c0, c1, c2, c3, c4, eq_true c5, s_shX, s_shM, lL_i, px, pm, s_miX, s_miM, bI_0, not_true_eq_false, and_self, l1, l2, l3, w1, j1]
      exact ⟨_, _, _, rfl, j2, j3⟩
