/-! ===== shelves ===== -/
theorem Rel1_sh {L : LawT} {x m y w : gS} (hR : Rel1 L x m) (h1 : ∀ c, (c < 14 ∨ 25 < c) → y.1 c = x.1 c) (h2 : ∀ c, (c < 24 ∨ 25 < c) → w.1 c = m.1 c) (h3 : ∀ n nb, Rel0 n nb x m → RSs nb y.1 y.2 (w.1 24) (w.1 25) (w.2 26)) : Rel1 L y w := by
  obtain ⟨⟨n, nb, h0⟩, hL⟩ := hR
  have hS := h3 n nb h0
  obtain ⟨hP, hC, hT, hD, hI, hK, -⟩ := h0
  have ex0 := h1 0 (by omega)
  have ex1 := h1 1 (by omega)
  have ex2 := h1 2 (by omega)
  have ex3 := h1 3 (by omega)
  have ex4 := h1 4 (by omega)
  have ex5 := h1 5 (by omega)
  have ex6 := h1 6 (by omega)
  have ex7 := h1 7 (by omega)
  have ex8 := h1 8 (by omega)
  have ex10 := h1 10 (by omega)
  have ex37 := h1 37 (by omega)
  have ex38 := h1 38 (by omega)
  have ex39 := h1 39 (by omega)
  have ex40 := h1 40 (by omega)
  have ex41 := h1 41 (by omega)
  have ex42 := h1 42 (by omega)
  have ex43 := h1 43 (by omega)
  have em0 := h2 0 (by omega)
  have em1 := h2 1 (by omega)
  have em2 := h2 2 (by omega)
  have em3 := h2 3 (by omega)
  have em4 := h2 4 (by omega)
  have em5 := h2 5 (by omega)
  have em6 := h2 6 (by omega)
  have em7 := h2 7 (by omega)
  have em8 := h2 8 (by omega)
  have em9 := h2 9 (by omega)
  have em10 := h2 10 (by omega)
  have em17 := h2 17 (by omega)
  have em18 := h2 18 (by omega)
  have em19 := h2 19 (by omega)
  have em20 := h2 20 (by omega)
  have em21 := h2 21 (by omega)
  have em22 := h2 22 (by omega)
  have em23 := h2 23 (by omega)
  refine ⟨⟨n, nb, ?_, ?_, ?_, ?_, ?_, ?_, hS⟩, ?_⟩
  · rw [ex1, ex2, em0, em1, em2, em3, em4, em5]; exact hP
  · rw [ex3, ex4, ex5, ex6, em0, em21]; exact hC
  · rw [ex7, ex8, em0, em6]; exact hT
  · rw [ex37, ex38, em0, em17, em18]; exact hD
  · rw [ex0, ex39, ex40, em0, em19, em20]; exact hI
  · rw [ex41, ex42, ex43, em0, em22, em23]; exact hK
  · rw [ex7, ex10, em0, em7, em8, em9, em10]; exact hL
theorem e_keep (L : LawT) : EQ_keep (Rel1 L) := by
  intro x m a1 a2 hR
  obtain ⟨s, rfl, hs1, hs2⟩ := iI_of a1
  obtain ⟨b, rfl, hb1, hb2⟩ := iI_of a2
  obtain ⟨⟨n, nb, hP, hC, hT, hD, hI, hK, hS⟩, hL⟩ := id hR
  obtain ⟨hnb, e7, e8, hkk, hr⟩ := id hK
  unfold f_X9_keep f_X10_keep
  simp +decide (disch := omega) only [gl_e, iI_lit, iI_neg, iI_add, iI_sub, iI_mul, gk_t, b_some, bz0, bz1, pI_row, pI_snd, pA_row, pA_snd, pL_fst, pL_row, pB_fst, pB_row, upd_at, ↓reduceIte, Int.reduceToNat, Nat.reduceEqDiff, iI_lt, iI_le, iI_eq, iI_inb, iI_nat, iI_nz, s_shX, s_shM, s_wi, s_key hnb e7, bI_0, e7, e8]
  by_cases c1 : 0 ≤ s ∧ s ≤ 5
  · obtain ⟨k, hk, rfl⟩ : ∃ k : Nat, k < 6 ∧ s = (k : Int) := ⟨s.toNat, by omega, by omega⟩
    simp only [c1, not_true_eq_false, ↓reduceIte, and_self]
    by_cases c2 : -1 ≤ b ∧ b ≤ (nb : Int) - 1
    · simp only [c2, not_true_eq_false, ↓reduceIte, and_self]
      unfold f_X9_keep_25 f_X5_holdKey f_X5_holdKey_10 f_X10_keep_40
      simp +decide (disch := omega) only [gl_e, iI_lit, iI_neg, iI_add, iI_sub, iI_mul, gk_t, b_some, bz0, bz1, pI_row, pI_snd, pA_row, pA_snd, pL_fst, pL_row, pB_fst, pB_row, upd_at, ↓reduceIte, Int.reduceToNat, Nat.reduceEqDiff, iI_lt, iI_le, iI_eq, iI_inb, iI_nat, iI_nz, s_shAt, Int.toNat_natCast]
      by_cases c3 : b = -1
      · have c4 : ¬ 0 ≤ b := by omega
        simp only [c3, ↓reduceIte]
        simp +decide only [↓reduceIte, b_some]
        refine ⟨_, _, _, rfl, rfl, Rel1_sh hR (fun c hc => by simp +decide (disch := omega) only [pI_off]) (fun c hc => by simp +decide (disch := omega) only [pI_off]) (fun n2 nb2 h0 => ?_)⟩
        have hS2 := h0.2.2.2.2.2.2
        refine RSs_put hk hS2 (fun c h1 h2 h3 => by simp +decide (disch := omega) only [pI_off]) (fun c _ _ _ => rfl) (fun j hj => ?_) (fun j hj => ?_) (fun j _ i _ => rfl) ?_
        · simp +decide only [pI_row, ↓reduceIte, upd_at, if_neg hj]
        · simp +decide only [pI_row, ↓reduceIte, upd_at, if_neg hj]
        · refine ⟨Or.inl ?_, (hS2 k hk).2⟩
          simp +decide only [pI_row, ↓reduceIte, upd_at, and_self]
      · have c4 : 0 ≤ b := by omega
        have c5 : 0 ≤ b ∧ b < (nb : Int) := by omega
        simp only [c3, c4, c5, not_true_eq_false, ↓reduceIte, and_self, b_some]
        refine ⟨_, _, _, rfl, rfl, Rel1_sh hR (fun c hc => by simp +decide (disch := omega) only [pI_off]) (fun c hc => by simp +decide (disch := omega) only [pI_off]) (fun n2 nb2 h0 => ?_)⟩
        have hS2 := h0.2.2.2.2.2.2
        have hb2 : nb2 = nb := by
          have := h0.2.2.2.2.2.1.2.1
          rw [e7] at this
          have h3 := h0.2.2.2.2.2.1.1
          rw [iI_eq (by omega) (by omega) (by omega) (by omega)] at this
          omega
        refine RSs_put hk hS2 (fun c h1 h2 h3 => by simp +decide (disch := omega) only [pI_off]) (fun c _ _ _ => rfl) (fun j hj => ?_) (fun j hj => ?_) (fun j _ i _ => rfl) ?_
        · simp +decide only [pI_row, ↓reduceIte, upd_at, if_neg hj]
        · simp +decide only [pI_row, ↓reduceIte, upd_at, if_neg hj]
        · refine ⟨Or.inr (Or.inl ⟨b.toNat, by omega, ?_⟩), (hS2 k hk).2⟩
          rw [Int.toNat_of_nonneg c4]
          simp +decide only [pI_row, ↓reduceIte, upd_at, and_self]
    · have c3 : ¬ b = -1 := by omega
      have c5 : ¬ (0 ≤ b ∧ b < (nb : Int)) := by omega
      simp only [c2, c3, c5, not_false_eq_true, ↓reduceIte]
      exact ⟨_, _, _, rfl, rfl, hR⟩
  · simp only [c1, not_false_eq_true, ↓reduceIte]
    exact ⟨_, _, _, rfl, rfl, hR⟩
