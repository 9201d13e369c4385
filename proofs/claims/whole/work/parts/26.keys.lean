/-! ===== keys, the tape ===== -/
theorem s_kind (σ : gS) {a : Int} (h1 : -2147483648 ≤ a) (h2 : a < 2147483648) : f_X3_isKind σ (iI a) = some (bI (0 ≤ a ∧ a ≤ 7)) := by
  unfold f_X3_isKind bI
  simp +decide (disch := omega) only [gl_e, iI_lit, iI_neg, iI_add, iI_sub, iI_mul, gk_t, b_some, bz0, bz1, pI_row, pI_snd, pA_row, pA_snd, pL_fst, pL_row, pB_fst, pB_row, upd_at, ↓reduceIte, Int.reduceToNat, Nat.reduceEqDiff, iI_lt, iI_le, iI_eq, iI_inb, iI_nat, iI_nz]
  (repeat' split) <;> first | rfl | (exfalso; omega)
theorem s_key {σ : gS} {nb : Nat} (hnb : nb ≤ 50) (e : σ.1 41 2 = iI nb) {a : Int} (h1 : -2147483648 ≤ a) (h2 : a < 2147483648) : f_X3_isKey σ (iI a) = some (bI (0 ≤ a ∧ a < nb)) := by
  unfold f_X3_isKey bI
  rw [e]
  simp +decide (disch := omega) only [gl_e, iI_lit, iI_neg, iI_add, iI_sub, iI_mul, gk_t, b_some, bz0, bz1, pI_row, pI_snd, pA_row, pA_snd, pL_fst, pL_row, pB_fst, pB_row, upd_at, ↓reduceIte, Int.reduceToNat, Nat.reduceEqDiff, iI_lt, iI_le, iI_eq, iI_inb, iI_nat, iI_nz]
  (repeat' split) <;> first | rfl | (exfalso; omega)
theorem RS_mono {nb nc : Nat} (hb : nb ≤ nc) {hd ky so sz : Int32} {ce : Nat → Int64} {mh ml : Int32} {mr : Nat → Int64} (h : RS nb hd ky so sz ce mh ml mr) : RS nc hd ky so sz ce mh ml mr := by
  obtain ⟨h1, h2⟩ := h
  refine ⟨?_, h2⟩
  rcases h1 with g | ⟨b, hb2, g⟩ | g
  · exact Or.inl g
  · exact Or.inr (Or.inl ⟨b, by omega, g⟩)
  · exact Or.inr (Or.inr g)
theorem RSs_mono {nb nc : Nat} (hb : nb ≤ nc) {x1 : Nat → Nat → Int32} {x2 : Nat → Nat → Int64} {mh ml : Nat → Int32} {mr : Nat → Int64} (h : RSs nb x1 x2 mh ml mr) : RSs nc x1 x2 mh ml mr := fun k hk => RS_mono hb (h k hk)
theorem e_body (L : LawT) : EQ_body (Rel1 L) := by
  intro x m a1 hR
  obtain ⟨a, rfl, ha1, ha2⟩ := iI_of a1
  obtain ⟨⟨n, nb, hP, hC, hT, hD, hI, hK, hS⟩, hL⟩ := id hR
  obtain ⟨hnb, e7, e8, hkk, hr⟩ := id hK
  unfold f_X9_body f_X3_add f_X10_body
  simp +decide (disch := omega) only [gl_e, iI_lit, iI_neg, iI_add, iI_sub, iI_mul, gk_t, b_some, bz0, bz1, pI_row, pI_snd, pA_row, pA_snd, pL_fst, pL_row, pB_fst, pB_row, upd_at, ↓reduceIte, Int.reduceToNat, Nat.reduceEqDiff, iI_lt, iI_le, iI_eq, iI_inb, iI_nat, iI_nz, s_kind, s_wi, bI_0, e7, e8]
  by_cases c1 : 0 ≤ a ∧ a ≤ 7
  · by_cases c2 : (nb : Int) < 50
    · have c3 : ¬ (nb : Int) = 50 := by omega
      simp +decide (disch := omega) only [c1, c2, c3, gl_e, iI_lit, iI_neg, iI_add, iI_sub, iI_mul, gk_t, b_some, bz0, bz1, pI_row, pI_snd, pA_row, pA_snd, pL_fst, pL_row, pB_fst, pB_row, upd_at, ↓reduceIte, Int.reduceToNat, Nat.reduceEqDiff, iI_lt, iI_le, iI_eq, iI_inb, iI_nat, iI_nz, not_true_eq_false, and_self, e7, e8, Int.toNat_natCast]
      refine ⟨_, _, _, rfl, rfl, ⟨n, nb + 1, hP, hC, hT, hD, hI, ?_, RSs_mono (Nat.le_succ nb) (RSs_x hS (fun c h1 h2 => by simp (disch := omega) only [pI_off, pA_off]))⟩, hL⟩
      refine ⟨by omega, rfl, rfl, fun i hi => ?_, hr⟩
      show upd (m.1 22) nb (iI a) i = upd (x.1 42) nb (iI a) i ∧ ∃ b : Nat, b ≤ 7 ∧ upd (x.1 42) nb (iI a) i = iI b
      rw [upd_at, upd_at]
      by_cases c4 : i = nb
      · rw [if_pos c4, if_pos c4]
        exact ⟨rfl, a.toNat, by omega, by rw [Int.toNat_of_nonneg c1.1]⟩
      · rw [if_neg c4, if_neg c4]
        exact hkk i (by omega)
    · have c3 : (nb : Int) = 50 := by omega
      simp +decide (disch := omega) only [c1, c3, gl_e, iI_lit, iI_neg, iI_add, iI_sub, iI_mul, gk_t, b_some, bz0, bz1, pI_row, pI_snd, pA_row, pA_snd, pL_fst, pL_row, pB_fst, pB_row, upd_at, ↓reduceIte, Int.reduceToNat, Nat.reduceEqDiff, iI_lt, iI_le, iI_eq, iI_inb, iI_nat, iI_nz, not_true_eq_false, and_self, e7, e8]
      exact ⟨_, _, _, rfl, rfl, hR⟩
  · simp only [c1, not_false_eq_true, ↓reduceIte]
    exact ⟨_, _, _, rfl, rfl, hR⟩
theorem e_feed (L : LawT) : EQ_feed (Rel1 L) := by
  intro x m a1 hR
  obtain ⟨a, rfl, ha1, ha2⟩ := iI_of a1
  obtain ⟨⟨n, nb, hP, hC, hT, hD, hI, hK, hS⟩, hL⟩ := id hR
  obtain ⟨t, ht, e1, e2, htt⟩ := id hT
  unfold f_X9_feed f_X4_take f_X10_feed
  simp +decide (disch := omega) only [gl_e, iI_lit, iI_neg, iI_add, iI_sub, iI_mul, gk_t, b_some, bz0, bz1, pI_row, pI_snd, pA_row, pA_snd, pL_fst, pL_row, pB_fst, pB_row, upd_at, ↓reduceIte, Int.reduceToNat, Nat.reduceEqDiff, iI_lt, iI_le, iI_eq, iI_inb, iI_nat, iI_nz, s_wi, bI_0, e1, e2]
  by_cases c1 : 0 ≤ a ∧ a ≤ 255
  · have c0 : ¬ a < 0 := by omega
    have c5 : a ≤ 255 := by omega
    by_cases c2 : (t : Int) < 120
    · have c3 : ¬ (t : Int) = 120 := by omega
      simp +decide (disch := omega) only [c0, c1, c2, c3, c5, gl_e, iI_lit, iI_neg, iI_add, iI_sub, iI_mul, gk_t, b_some, bz0, bz1, pI_row, pI_snd, pA_row, pA_snd, pL_fst, pL_row, pB_fst, pB_row, upd_at, ↓reduceIte, Int.reduceToNat, Nat.reduceEqDiff, iI_lt, iI_le, iI_eq, iI_inb, iI_nat, iI_nz, not_true_eq_false, and_self, e1, e2, Int.toNat_natCast]
      refine ⟨_, _, _, rfl, rfl, ⟨n, nb, hP, hC, ?_, hD, hI, hK, RSs_x hS (fun c h1 h2 => by simp (disch := omega) only [pI_off, pA_off])⟩, hL⟩
      refine ⟨t + 1, by omega, rfl, rfl, fun i hi => ?_⟩
      show upd (m.1 6) t (iI a) i = upd (x.1 8) t (iI a) i ∧ ∃ b : Nat, b ≤ 255 ∧ upd (x.1 8) t (iI a) i = iI b
      rw [upd_at, upd_at]
      by_cases c4 : i = t
      · rw [if_pos c4, if_pos c4]
        exact ⟨rfl, a.toNat, by omega, by rw [Int.toNat_of_nonneg c1.1]⟩
      · rw [if_neg c4, if_neg c4]
        exact htt i (by omega)
    · have c3 : (t : Int) = 120 := by omega
      simp +decide (disch := omega) only [c0, c1, c3, c5, gl_e, iI_lit, iI_neg, iI_add, iI_sub, iI_mul, gk_t, b_some, bz0, bz1, pI_row, pI_snd, pA_row, pA_snd, pL_fst, pL_row, pB_fst, pB_row, upd_at, ↓reduceIte, Int.reduceToNat, Nat.reduceEqDiff, iI_lt, iI_le, iI_eq, iI_inb, iI_nat, iI_nz, not_true_eq_false, and_self, e1, e2]
      exact ⟨_, _, _, rfl, rfl, hR⟩
  · simp only [c1, not_false_eq_true, ↓reduceIte]
    by_cases c2 : a < 0
    · simp only [c2, ↓reduceIte]
      exact ⟨_, _, _, rfl, rfl, hR⟩
    · have c3 : ¬ a ≤ 255 := by omega
      simp only [c2, c3, ↓reduceIte]
      exact ⟨_, _, _, rfl, rfl, hR⟩
/-! shelves -/
theorem RSs_put {nb k : Nat} (hk : k < 6) {x1 y1 : Nat → Nat → Int32} {x2 y2 : Nat → Nat → Int64} {mh ml nh nl : Nat → Int32} {mr nr : Nat → Int64} (h : RSs nb x1 x2 mh ml mr) (h1 : ∀ c, c ≠ 14 + 2 * k → 14 ≤ c → c ≤ 25 → y1 c = x1 c) (h2 : ∀ c, c ≠ 15 + 2 * k → 14 ≤ c → c ≤ 25 → y2 c = x2 c) (h3 : ∀ j, j ≠ k → nh j = mh j) (h4 : ∀ j, j ≠ k → nl j = ml j) (h5 : ∀ j, j ≠ k → ∀ i, i < 60 → nr (60 * j + i) = mr (60 * j + i)) (h6 : RS nb (y1 (14 + 2 * k) 1) (y1 (14 + 2 * k) 2) (y1 (14 + 2 * k) 3) (y1 (14 + 2 * k) 4) (y2 (15 + 2 * k)) (nh k) (nl k) (fun i => nr (60 * k + i))) : RSs nb y1 y2 nh nl nr := by
  intro j hj
  by_cases e : j = k
  · rw [e]; exact h6
  · rw [h1 (14 + 2 * j) (by omega) (by omega) (by omega), h2 (15 + 2 * j) (by omega) (by omega) (by omega), h3 j e, h4 j e]
    obtain ⟨g1, g2⟩ := h j hj
    exact ⟨g1, fun i hi => by show nr (60 * j + i) = _; rw [h5 j e i hi]; exact g2 i hi⟩
