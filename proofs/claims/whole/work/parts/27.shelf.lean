/-! ===== shelves ===== -/
theorem Rel1_sh {L : LawT} {x m y w : gS} (hR : Rel1 L x m) (h1 : ∀ c, (c < 14 ∨ 25 < c) → y.1 c = x.1 c) (h2 : ∀ c, (c < 24 ∨ 25 < c) → w.1 c = m.1 c) (h3 : ∀ n nb, Rel0 n nb x m → RSs nb y.1 y.2 (w.1 24) (w.1 25) (w.2 26)) : Rel1 L y w := by
  obtain ⟨⟨n, nb, h0⟩, hL⟩ := hR
  have hS := h3 n nb h0
  obtain ⟨hP, hC, hT, hD, hI, hK, -⟩ := h0
  have ex0 := h1 0 (by omega)
  have ex1 := h1 1 (by omega)
  have ex2 := h1 2 (by omega)
  have ex3 := h1 3 (by omega)
  have ex4 := h1 4 (by omega)
  have ex5 := h1 5 (by omega)
  have ex6 := h1 6 (by omega)
  have ex7 := h1 7 (by omega)
  have ex8 := h1 8 (by omega)
  have ex10 := h1 10 (by omega)
  have ex37 := h1 37 (by omega)
  have ex38 := h1 38 (by omega)
  have ex39 := h1 39 (by omega)
  have ex40 := h1 40 (by omega)
  have ex41 := h1 41 (by omega)
  have ex42 := h1 42 (by omega)
  have ex43 := h1 43 (by omega)
  have em0 := h2 0 (by omega)
  have em1 := h2 1 (by omega)
  have em2 := h2 2 (by omega)
  have em3 := h2 3 (by omega)
  have em4 := h2 4 (by omega)
  have em5 := h2 5 (by omega)
  have em6 := h2 6 (by omega)
  have em7 := h2 7 (by omega)
  have em8 := h2 8 (by omega)
  have em9 := h2 9 (by omega)
  have em10 := h2 10 (by omega)
  have em17 := h2 17 (by omega)
  have em18 := h2 18 (by omega)
  have em19 := h2 19 (by omega)
  have em20 := h2 20 (by omega)
  have em21 := h2 21 (by omega)
  have em22 := h2 22 (by omega)
  have em23 := h2 23 (by omega)
  refine ⟨⟨n, nb, ?_, ?_, ?_, ?_, ?_, ?_, hS⟩, ?_⟩
  · rw [ex1, ex2, em0, em1, em2, em3, em4, em5]; exact hP
  · rw [ex3, ex4, ex5, ex6, em0, em21]; exact hC
  · rw [ex7, ex8, em0, em6]; exact hT
  · rw [ex37, ex38, em0, em17, em18]; exact hD
  · rw [ex0, ex39, ex40, em0, em19, em20]; exact hI
  · rw [ex41, ex42, ex43, em0, em22, em23]; exact hK
  · rw [ex7, ex10, em0, em7, em8, em9, em10]; exact hL
theorem e_keep (L : LawT) : EQ_keep (Rel1 L) := by
  intro x m a1 a2 hR
  obtain ⟨s, rfl, hs1, hs2⟩ := iI_of a1
  obtain ⟨b, rfl, hb1, hb2⟩ := iI_of a2
  obtain ⟨⟨n, nb, hP, hC, hT, hD, hI, hK, hS⟩, hL⟩ := id hR
  obtain ⟨hnb, e7, e8, hkk, hr⟩ := id hK
  unfold f_X9_keep f_X10_keep
  simp +decide (disch := omega) only [gl_e, iI_lit, iI_neg, iI_add, iI_sub, iI_mul, gk_t, b_some, bz0, bz1, pI_row, pI_snd, pA_row, pA_snd, pL_fst, pL_row, pB_fst, pB_row, upd_at, ↓reduceIte, Int.reduceToNat, Nat.reduceEqDiff, iI_lt, iI_le, iI_eq, iI_inb, iI_nat, iI_nz, s_shX, s_shM, s_wi, s_key hnb e7, bI_0, e7, e8]
  by_cases c1 : 0 ≤ s ∧ s ≤ 5
  · obtain ⟨k, hk, rfl⟩ : ∃ k : Nat, k < 6 ∧ s = (k : Int) := ⟨s.toNat, by omega, by omega⟩
    simp only [c1, not_true_eq_false, ↓reduceIte, and_self]
    by_cases c2 : -1 ≤ b ∧ b ≤ (nb : Int) - 1
    · simp only [c2, not_true_eq_false, ↓reduceIte, and_self]
      unfold f_X9_keep_25 f_X5_holdKey f_X5_holdKey_10 f_X10_keep_40
      simp +decide (disch := omega) only [gl_e, iI_lit, iI_neg, iI_add, iI_sub, iI_mul, gk_t, b_some, bz0, bz1, pI_row, pI_snd, pA_row, pA_snd, pL_fst, pL_row, pB_fst, pB_row, upd_at, ↓reduceIte, Int.reduceToNat, Nat.reduceEqDiff, iI_lt, iI_le, iI_eq, iI_inb, iI_nat, iI_nz, s_shAt, Int.toNat_natCast]
      by_cases c3 : b = -1
      · have c4 : ¬ 0 ≤ b := by omega
        simp only [c3, ↓reduceIte]
        simp +decide only [↓reduceIte, b_some]
        refine ⟨_, _, _, rfl, rfl, Rel1_sh hR (fun c hc => by simp +decide (disch := omega) only [pI_off]) (fun c hc => by simp +decide (disch := omega) only [pI_off]) (fun n2 nb2 h0 => ?_)⟩
        have hS2 := h0.2.2.2.2.2.2
        refine RSs_put hk hS2 (fun c h1 h2 h3 => by simp +decide (disch := omega) only [pI_off]) (fun c _ _ _ => rfl) (fun j hj => ?_) (fun j hj => ?_) (fun j _ i _ => rfl) ?_
        · simp +decide only [pI_row, ↓reduceIte, upd_at, if_neg hj]
        · simp +decide only [pI_row, ↓reduceIte, upd_at, if_neg hj]
        · refine ⟨Or.inl ?_, (hS2 k hk).2⟩
          simp +decide only [pI_row, ↓reduceIte, upd_at, and_self]
      · have c4 : 0 ≤ b := by omega
        have c5 : 0 ≤ b ∧ b < (nb : Int) := by omega
        simp only [c3, c4, c5, not_true_eq_false, ↓reduceIte, and_self, b_some]
        refine ⟨_, _, _, rfl, rfl, Rel1_sh hR (fun c hc => by simp +decide (disch := omega) only [pI_off]) (fun c hc => by simp +decide (disch := omega) only [pI_off]) (fun n2 nb2 h0 => ?_)⟩
        have hS2 := h0.2.2.2.2.2.2
        have hb2 : nb2 = nb := by
          have := h0.2.2.2.2.2.1.2.1
          rw [e7] at this
          have h3 := h0.2.2.2.2.2.1.1
          rw [iI_eq (by omega) (by omega) (by omega) (by omega)] at this
          omega
        refine RSs_put hk hS2 (fun c h1 h2 h3 => by simp +decide (disch := omega) only [pI_off]) (fun c _ _ _ => rfl) (fun j hj => ?_) (fun j hj => ?_) (fun j _ i _ => rfl) ?_
        · simp +decide only [pI_row, ↓reduceIte, upd_at, if_neg hj]
        · simp +decide only [pI_row, ↓reduceIte, upd_at, if_neg hj]
        · refine ⟨Or.inr (Or.inl ⟨b.toNat, by omega, ?_⟩), (hS2 k hk).2⟩
          rw [Int.toNat_of_nonneg c4]
          simp +decide only [pI_row, ↓reduceIte, upd_at, and_self]
    · have c3 : ¬ b = -1 := by omega
      have c5 : ¬ (0 ≤ b ∧ b < (nb : Int)) := by omega
      simp only [c2, c3, c5, not_false_eq_true, ↓reduceIte]
      exact ⟨_, _, _, rfl, rfl, hR⟩
  · simp only [c1, not_false_eq_true, ↓reduceIte]
    exact ⟨_, _, _, rfl, rfl, hR⟩
theorem s_hasP {x : gS} {K s : Nat} (hs : s ≤ 60) (e : x.1 K 4 = iI s) {a b : Int} (h1 : -2147483648 ≤ a) (h2 : a < 2147483648) (h3 : -2147483648 ≤ b) (h4 : b < 2147483648) : f_X5_hasPlaces x K (iI a) (iI b) = some (bI (0 ≤ a ∧ 0 ≤ b ∧ a ≤ s ∧ b ≤ s - a)) := by
  unfold f_X5_hasPlaces bI
  rw [e]
  simp +decide (disch := omega) only [gl_e, iI_lit, iI_neg, iI_add, iI_sub, iI_mul, gk_t, b_some, bz0, bz1, pI_row, pI_snd, pA_row, pA_snd, pL_fst, pL_row, pB_fst, pB_row, upd_at, ↓reduceIte, Int.reduceToNat, Nat.reduceEqDiff, iI_lt, iI_le, iI_eq, iI_inb, iI_nat, iI_nz]
  by_cases c1 : a < 0
  · have c2 : ¬ (0 ≤ a ∧ 0 ≤ b ∧ a ≤ (s : Int) ∧ b ≤ (s : Int) - a) := by omega
    simp only [c1, c2, ↓reduceIte]
  by_cases c3 : b < 0
  · have c2 : ¬ (0 ≤ a ∧ 0 ≤ b ∧ a ≤ (s : Int) ∧ b ≤ (s : Int) - a) := by omega
    simp only [c1, c3, c2, ↓reduceIte]
  by_cases c4 : (s : Int) < a
  · have c2 : ¬ (0 ≤ a ∧ 0 ≤ b ∧ a ≤ (s : Int) ∧ b ≤ (s : Int) - a) := by omega
    simp only [c1, c3, c4, c2, ↓reduceIte]
  simp +decide (disch := omega) only [c1, c3, c4, gl_e, iI_lit, iI_neg, iI_add, iI_sub, iI_mul, gk_t, b_some, bz0, bz1, pI_row, pI_snd, pA_row, pA_snd, pL_fst, pL_row, pB_fst, pB_row, upd_at, ↓reduceIte, Int.reduceToNat, Nat.reduceEqDiff, iI_lt, iI_le, iI_eq, iI_inb, iI_nat, iI_nz]
  (repeat' split) <;> first | rfl | (exfalso; omega)
theorem s_isRow {m : gS} {k : Nat} (hk : k < 6) {h : Int} (e : m.1 24 k = iI h) (h1 : -2147483648 ≤ h) (h2 : h < 2147483648) : f_X10_isRow m (iI k) = some (bI (0 ≤ h ∧ h ≤ 4)) := by
  unfold f_X10_isRow
  simp +decide (disch := omega) only [gl_e, iI_lit, iI_neg, iI_add, iI_sub, iI_mul, gk_t, b_some, bz0, bz1, pI_row, pI_snd, pA_row, pA_snd, pL_fst, pL_row, pB_fst, pB_row, upd_at, ↓reduceIte, Int.reduceToNat, Nat.reduceEqDiff, iI_lt, iI_le, iI_eq, iI_inb, iI_nat, iI_nz, Int.toNat_natCast, e, s_wi, bI_z]
theorem e_element (L : LawT) : EQ_element (Rel1 L) := by
  intro x m a1 a2 hR
  obtain ⟨s, rfl, hs1, hs2⟩ := iI_of a1
  obtain ⟨i, rfl, hi1, hi2⟩ := iI_of a2
  obtain ⟨⟨n, nb, hP, hC, hT, hD, hI, hK, hS⟩, hL⟩ := id hR
  have hnb := hK.1
  unfold f_X9_element f_X10_element
  simp +decide (disch := omega) only [s_shX, s_shM, b_some, iI_lit, bI_0]
  by_cases c1 : 0 ≤ s ∧ s ≤ 5
  · obtain ⟨k, hk, rfl⟩ : ∃ k : Nat, k < 6 ∧ s = (k : Int) := ⟨s.toNat, by omega, by omega⟩
    simp only [c1, not_true_eq_false, ↓reduceIte, and_self]
    simp +decide (disch := omega) only [s_shAt, Int.toNat_natCast]
    unfold f_X5_refusalForPlace
    obtain ⟨hc, hm⟩ := hS k hk
    rcases hc with ⟨g1, g2, g3, g4⟩ | ⟨b, hb, g1, g2, g3, g4, g5⟩ | ⟨q, z, hq, hz, g1, g2, g3, g4, g5, g6⟩
    · rw [s_isRow hk g2 (by omega) (by omega)]
      simp +decide (disch := omega) only [gl_e, iI_lit, iI_neg, iI_add, iI_sub, iI_mul, gk_t, b_some, bz0, bz1, pI_row, pI_snd, pA_row, pA_snd, pL_fst, pL_row, pB_fst, pB_row, upd_at, ↓reduceIte, Int.reduceToNat, Nat.reduceEqDiff, iI_lt, iI_le, iI_eq, iI_inb, iI_nat, iI_nz, g1, bI_0]
      exact ⟨_, rfl, rfl, hR⟩
    · rw [s_isRow hk g3 (by omega) (by omega)]
      have c2 : ¬ (0 ≤ (10 : Int) + b ∧ (10 : Int) + b ≤ 4) := by omega
      simp +decide (disch := omega) only [gl_e, iI_lit, iI_neg, iI_add, iI_sub, iI_mul, gk_t, b_some, bz0, bz1, pI_row, pI_snd, pA_row, pA_snd, pL_fst, pL_row, pB_fst, pB_row, upd_at, ↓reduceIte, Int.reduceToNat, Nat.reduceEqDiff, iI_lt, iI_le, iI_eq, iI_inb, iI_nat, iI_nz, g1, bI_0, c2, not_false_eq_true]
      exact ⟨_, rfl, rfl, hR⟩
    · rw [s_isRow hk g3 (by omega) (by omega)]
      have c2 : (0 ≤ (q : Int) ∧ (q : Int) ≤ 4) := by omega
      simp +decide (disch := omega) only [gl_e, iI_lit, iI_neg, iI_add, iI_sub, iI_mul, gk_t, b_some, bz0, bz1, pI_row, pI_snd, pA_row, pA_snd, pL_fst, pL_row, pB_fst, pB_row, upd_at, ↓reduceIte, Int.reduceToNat, Nat.reduceEqDiff, iI_lt, iI_le, iI_eq, iI_inb, iI_nat, iI_nz, g1, bI_0, c2, not_true_eq_false, and_self, s_hasP hz g4, Int.toNat_natCast, g5, s_wi]
      by_cases c3 : 0 ≤ i ∧ i ≤ (z : Int) - 1
      · have c4 : 0 ≤ i ∧ 0 ≤ (1 : Int) ∧ i ≤ (z : Int) ∧ 1 ≤ (z : Int) - i := by omega
        obtain ⟨j, hj, rfl⟩ : ∃ j : Nat, j < z ∧ i = (j : Int) := ⟨i.toNat, by omega, by omega⟩
        have t0 : (60 * (k : Int) + (j : Int)).toNat = 60 * k + j := by omega
        unfold f_X5_cellAt
        have g7 : ¬ (j : Int) < 0 := by omega
        have g8 : ¬ (z : Int) ≤ j := by omega
        simp +decide (disch := omega) only [gl_e, iI_lit, iI_neg, iI_add, iI_sub, iI_mul, gk_t, b_some, bz0, bz1, pI_row, pI_snd, pA_row, pA_snd, pL_fst, pL_row, pB_fst, pB_row, upd_at, ↓reduceIte, Int.reduceToNat, Nat.reduceEqDiff, iI_lt, iI_le, iI_eq, iI_inb, iI_nat, iI_nz, c3, c4, not_true_eq_false, and_self, g4, g7, g8, Int.toNat_natCast, t0]
        refine ⟨_, rfl, ?_, hR⟩
        rw [show 14 + 2 * k + 1 = 15 + 2 * k by omega, ← hm j (by omega)]
      · have c4 : ¬ (0 ≤ i ∧ True ∧ i ≤ (z : Int) ∧ 1 ≤ (z : Int) - i) := by
          simp only [true_and]
          omega
        simp +decide (disch := omega) only [gl_e, iI_lit, iI_neg, iI_add, iI_sub, iI_mul, gk_t, b_some, bz0, bz1, pI_row, pI_snd, pA_row, pA_snd, pL_fst, pL_row, pB_fst, pB_row, upd_at, ↓reduceIte, Int.reduceToNat, Nat.reduceEqDiff, iI_lt, iI_le, iI_eq, iI_inb, iI_nat, iI_nz, c3, c4, not_false_eq_true]
        exact ⟨_, rfl, rfl, hR⟩
  · simp only [c1, not_false_eq_true, ↓reduceIte]
    exact ⟨_, rfl, rfl, hR⟩
/-! what is put in -/
def kpt (q : Nat) (v : Int64) : Int64 := if q = 0 then v.toInt32.toInt8.toInt32.toInt64 else if q = 1 then v.toInt32.toInt16.toInt32.toInt64 else if q = 2 then v.toInt32.toInt64 else if q = 3 then v else if lg_cmp v 0 = 0 then 0 else 1
theorem s_kept (m : gS) {q : Nat} (hq : q ≤ 4) (v : Int64) : f_X10_kept m (iI q) v = some (kpt q v) := by
  unfold f_X10_kept kpt
  match q, hq with
  | 0, _ => rfl
  | 1, _ => rfl
  | 2, _ => rfl
  | 3, _ => rfl
  | 4, _ =>
    simp +decide only [↓reduceIte]
    split <;> rfl
  | n + 5, h => exact absurd h (by omega)
theorem kpt_rg (q : Nat) (v : Int64) : (q = 0 → ∃ a : Int, kpt q v = lL a ∧ -128 ≤ a ∧ a ≤ 127) ∧ (q = 1 → ∃ a : Int, kpt q v = lL a ∧ -32768 ≤ a ∧ a ≤ 32767) := by
  have key : ∀ w : Int32, w.toInt64 = lL w.toInt := by
    intro w
    have h1 := Int32.le_toInt w
    have h2 := Int32.toInt_lt w
    have h := lL_i (a := w.toInt) (by omega) (by omega)
    have e : iI w.toInt = w := Int32.ofInt_toInt w
    rw [e] at h
    exact h
  constructor
  · intro e
    subst e
    refine ⟨v.toInt32.toInt8.toInt32.toInt, key _, ?_⟩
    rw [Int8.toInt_toInt32]
    have h1 := Int8.le_toInt v.toInt32.toInt8
    have h2 := Int8.toInt_lt v.toInt32.toInt8
    omega
  · intro e
    subst e
    refine ⟨v.toInt32.toInt16.toInt32.toInt, key _, ?_⟩
    rw [Int16.toInt_toInt32]
    have h1 := Int16.le_toInt v.toInt32.toInt16
    have h2 := Int16.toInt_lt v.toInt32.toInt16
    omega
theorem s_setC {x : gS} {K z q j : Nat} (hz : z ≤ 60) (hj : j < z) (hq : q ≤ 4) (e1 : x.1 K 4 = iI z) (e2 : x.1 K 3 = iI q) (v : Int64) : f_X5_setCell x K (iI j) v = some (pL x (K + 1) j (kpt q v)) := by
  unfold f_X5_setCell f_X5_setCell_106 f_X5_setCell_110 kpt
  have g1 : ¬ (j : Int) < 0 := by omega
  have g2 : (j : Int) < z := by omega
  rw [e1, e2]
  simp +decide (disch := omega) only [gl_e, iI_lit, iI_lt, iI_le, iI_eq, iI_inb, iI_nat, iI_nz, gk_t, ↓reduceIte, g1, g2, Int.toNat_natCast]
  match q, hq with
  | 0, _ => rfl
  | 1, _ => rfl
  | 2, _ => rfl
  | 3, _ => rfl
  | 4, _ =>
    simp +decide only [↓reduceIte]
    by_cases c : lg_cmp v 0 = iI 0
    · have c2 : lg_cmp v 0 = 0 := c
      simp only [c, c2, ↓reduceIte]
    · have c2 : ¬ lg_cmp v 0 = 0 := c
      simp only [c, c2, ↓reduceIte]
  | n + 5, h => exact absurd h (by omega)
theorem updL_at (f : Nat → Int64) (k j : Nat) (v : Int64) : vp_updL f k v j = if j = k then v else f j := rfl
theorem e_put (L : LawT) : EQ_put (Rel1 L) := by
  intro x m a1 a2 v hR
  obtain ⟨s, rfl, hs1, hs2⟩ := iI_of a1
  obtain ⟨i, rfl, hi1, hi2⟩ := iI_of a2
  obtain ⟨⟨n, nb, hP, hC, hT, hD, hI, hK, hS⟩, hL⟩ := id hR
  have hnb := hK.1
  unfold f_X9_put f_X10_put
  simp +decide (disch := omega) only [s_shX, s_shM, b_some, iI_lit, bI_0]
  by_cases c1 : 0 ≤ s ∧ s ≤ 5
  · obtain ⟨k, hk, rfl⟩ : ∃ k : Nat, k < 6 ∧ s = (k : Int) := ⟨s.toNat, by omega, by omega⟩
    simp only [c1, not_true_eq_false, ↓reduceIte, and_self]
    simp +decide (disch := omega) only [s_shAt, Int.toNat_natCast, iI_lt, iI_le, iI_eq, iI_inb, iI_nat, iI_nz, gk_t]
    unfold f_X5_refusalForPlace
    obtain ⟨hc, hm⟩ := id (hS k hk)
    rcases hc with ⟨g1, g2, g3, g4⟩ | ⟨b, hb, g1, g2, g3, g4, g5⟩ | ⟨q, z, hq, hz, g1, g2, g3, g4, g5, g6⟩
    · simp +decide (disch := omega) only [gl_e, iI_lit, iI_neg, iI_add, iI_sub, iI_mul, gk_t, b_some, bz0, bz1, pI_row, pI_snd, pA_row, pA_snd, pL_fst, pL_row, pB_fst, pB_row, upd_at, ↓reduceIte, Int.reduceToNat, Nat.reduceEqDiff, iI_lt, iI_le, iI_eq, iI_inb, iI_nat, iI_nz, g1, g2, bI_0]
      exact ⟨_, _, _, rfl, rfl, hR⟩
    · rw [s_isRow hk g3 (by omega) (by omega)]
      have c2 : ¬ (0 ≤ (10 : Int) + b ∧ (10 : Int) + b ≤ 4) := by omega
      have c3 : ¬ (10 : Int) + b = -1 := by omega
      simp +decide (disch := omega) only [gl_e, iI_lit, iI_neg, iI_add, iI_sub, iI_mul, gk_t, b_some, bz0, bz1, pI_row, pI_snd, pA_row, pA_snd, pL_fst, pL_row, pB_fst, pB_row, upd_at, ↓reduceIte, Int.reduceToNat, Nat.reduceEqDiff, iI_lt, iI_le, iI_eq, iI_inb, iI_nat, iI_nz, g1, g3, bI_0, c2, c3, not_false_eq_true]
      exact ⟨_, _, _, rfl, rfl, hR⟩
    · rw [s_isRow hk g3 (by omega) (by omega)]
      have c2 : (0 ≤ (q : Int) ∧ (q : Int) ≤ 4) := by omega
      have c9 : ¬ (q : Int) = -1 := by omega
      simp +decide (disch := omega) only [gl_e, iI_lit, iI_neg, iI_add, iI_sub, iI_mul, gk_t, b_some, bz0, bz1, pI_row, pI_snd, pA_row, pA_snd, pL_fst, pL_row, pB_fst, pB_row, upd_at, ↓reduceIte, Int.reduceToNat, Nat.reduceEqDiff, iI_lt, iI_le, iI_eq, iI_inb, iI_nat, iI_nz, g1, g3, bI_0, c2, c9, not_true_eq_false, and_self, s_hasP hz g4, g5, s_wi]
      by_cases c3 : 0 ≤ i ∧ i ≤ (z : Int) - 1
      · have c4 : 0 ≤ i ∧ True ∧ i ≤ (z : Int) ∧ 1 ≤ (z : Int) - i := by
          simp only [true_and]
          omega
        obtain ⟨j, hj, rfl⟩ : ∃ j : Nat, j < z ∧ i = (j : Int) := ⟨i.toNat, by omega, by omega⟩
        have t0 : (60 * (k : Int) + (j : Int)).toNat = 60 * k + j := by omega
        simp +decide (disch := omega) only [gl_e, iI_lit, iI_neg, iI_add, iI_sub, iI_mul, gk_t, b_some, bz0, bz1, pI_row, pI_snd, pA_row, pA_snd, pL_fst, pL_row, pB_fst, pB_row, upd_at, ↓reduceIte, Int.reduceToNat, Nat.reduceEqDiff, iI_lt, iI_le, iI_eq, iI_inb, iI_nat, iI_nz, c3, c4, not_true_eq_false, and_self, g3, s_setC hz hj hq g4 g2, s_kept m hq, t0]
        refine ⟨_, _, _, rfl, rfl, Rel1_sh hR (fun c hc => rfl) (fun c hc => rfl) (fun n2 nb2 h0 => ?_)⟩
        have hS2 := h0.2.2.2.2.2.2
        refine RSs_put hk hS2 (fun c h1 h2 h3 => rfl) (fun c h1 h2 h3 => ?_) (fun j2 hj2 => rfl) (fun j2 hj2 => rfl) (fun j2 hj2 i2 hi2 => ?_) ⟨?_, fun i2 hi2 => ?_⟩
        · show (if c = 14 + 2 * k + 1 then _ else x.2 c) = x.2 c
          rw [if_neg (by omega)]
        · show vp_updL (m.2 26) (60 * k + j) (kpt q v) (60 * j2 + i2) = m.2 26 (60 * j2 + i2)
          rw [updL_at, if_neg (by omega)]
        · refine Or.inr (Or.inr ⟨q, z, hq, hz, g1, g2, g3, g4, g5, fun i2 hi2 => ?_⟩)
          have e3 : (pL x (14 + 2 * k + 1) j (kpt q v)).2 (15 + 2 * k) i2 = if i2 = j then kpt q v else x.2 (15 + 2 * k) i2 := by
            show (if 15 + 2 * k = 14 + 2 * k + 1 then vp_updL (x.2 (14 + 2 * k + 1)) j (kpt q v) else x.2 (15 + 2 * k)) i2 = _
            rw [if_pos (by omega), updL_at, show 14 + 2 * k + 1 = 15 + 2 * k by omega]
          rw [e3]
          split
          · exact kpt_rg q v
          · exact g6 i2 hi2
        · have e3 : (pL x (14 + 2 * k + 1) j (kpt q v)).2 (15 + 2 * k) i2 = if i2 = j then kpt q v else x.2 (15 + 2 * k) i2 := by
            show (if 15 + 2 * k = 14 + 2 * k + 1 then vp_updL (x.2 (14 + 2 * k + 1)) j (kpt q v) else x.2 (15 + 2 * k)) i2 = _
            rw [if_pos (by omega), updL_at, show 14 + 2 * k + 1 = 15 + 2 * k by omega]
          rw [e3]
          show vp_updL (m.2 26) (60 * k + j) (kpt q v) (60 * k + i2) = _
          rw [updL_at]
          by_cases c6 : i2 = j
          · rw [if_pos (by omega), if_pos c6]
          · rw [if_neg (by omega), if_neg c6]
            exact hm i2 hi2
      · have c4 : ¬ (0 ≤ i ∧ True ∧ i ≤ (z : Int) ∧ 1 ≤ (z : Int) - i) := by
          simp only [true_and]
          omega
        simp +decide (disch := omega) only [gl_e, iI_lit, iI_neg, iI_add, iI_sub, iI_mul, gk_t, b_some, bz0, bz1, pI_row, pI_snd, pA_row, pA_snd, pL_fst, pL_row, pB_fst, pB_row, upd_at, ↓reduceIte, Int.reduceToNat, Nat.reduceEqDiff, iI_lt, iI_le, iI_eq, iI_inb, iI_nat, iI_nz, c3, c4, not_false_eq_true]
        exact ⟨_, _, _, rfl, rfl, hR⟩
  · simp only [c1, not_false_eq_true, ↓reduceIte]
    exact ⟨_, _, _, rfl, rfl, hR⟩
