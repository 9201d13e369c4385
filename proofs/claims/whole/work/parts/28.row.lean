/-! ===== rows made, taken ===== -/
theorem pB_pB {σ : gS} {k : Nat} {f g : Nat → Int64} : pB (pB σ k g) k f = pB σ k f := by
  unfold pB
  refine Prod.ext rfl (funext fun i => ?_)
  show (if i = k then f else if i = k then g else σ.2 i) = if i = k then f else σ.2 i
  by_cases c : i = k
  · rw [if_pos c, if_pos c]
  · rw [if_neg c, if_neg c, if_neg c]
theorem w_hr17 (K : Nat) : ∀ (k i n : Nat) (σ : gS), i + k = 60 → k ≤ n → f_X5_holdRow_17 K (n + 1) (iI i) σ = some (pB σ (K + 1) (fun j => if i ≤ j ∧ j < 60 then 0 else σ.2 (K + 1) j)) := by
  intro k
  induction k with
  | zero =>
    intro i n σ h1 h2
    have g : 60 ≤ (i : Int) := by omega
    unfold f_X5_holdRow_17
    simp +decide (disch := omega) only [gl_e, iI_lit, iI_neg, iI_add, iI_sub, iI_mul, gk_t, b_some, bz0, bz1, pI_row, pI_snd, pA_row, pA_snd, pL_fst, pL_row, pB_fst, pB_row, upd_at, ↓reduceIte, Int.reduceToNat, Nat.reduceEqDiff, iI_lt, iI_le, iI_eq, iI_inb, iI_nat, iI_nz, g]
    congr 1
    unfold pB
    refine Prod.ext rfl (funext fun c => ?_)
    show σ.2 c = if c = K + 1 then _ else σ.2 c
    by_cases c1 : c = K + 1
    · rw [if_pos c1, c1]
      funext j
      rw [if_neg (by omega)]
    · rw [if_neg c1]
  | succ k ih =>
    intro i n σ h1 h2
    obtain ⟨n2, rfl⟩ : ∃ n2, n = n2 + 1 := ⟨n - 1, by omega⟩
    have g : ¬ 60 ≤ (i : Int) := by omega
    unfold f_X5_holdRow_17
    simp +decide (disch := omega) only [gl_e, iI_lit, iI_add, iI_lt, iI_le, iI_eq, iI_inb, iI_nat, iI_nz, gk_t, ↓reduceIte, g, Int.toNat_natCast]
    rw [show (i : Int) + 1 = ((i + 1 : Nat) : Int) by omega, ih (i + 1) n2 _ (by omega) (by omega)]
    unfold pL
    rw [pB_pB]
    congr 2
    funext j
    rw [pB_s, updL_at]
    by_cases c1 : j = i
    · rw [if_neg (by omega), if_pos c1, if_pos (by omega)]
    · rw [if_neg c1]
      by_cases c2 : i + 1 ≤ j ∧ j < 60
      · rw [if_pos c2, if_pos (by omega)]
      · rw [if_neg c2, if_neg (by omega)]
theorem w_ro48 (s : Nat) (hs : s < 6) : ∀ (k i n : Nat) (σ : gS), i + k = 60 → k ≤ n → f_X10_row_48 (n + 1) (iI s) (iI i) σ = some (iI 1, pB σ 26 (fun j => if 60 * s + i ≤ j ∧ j < 60 * s + 60 then 0 else σ.2 26 j)) := by
  intro k
  induction k with
  | zero =>
    intro i n σ h1 h2
    have g : 60 ≤ (i : Int) := by omega
    unfold f_X10_row_48
    simp +decide (disch := omega) only [gl_e, iI_lit, iI_neg, iI_add, iI_sub, iI_mul, gk_t, b_some, bz0, bz1, pI_row, pI_snd, pA_row, pA_snd, pL_fst, pL_row, pB_fst, pB_row, upd_at, ↓reduceIte, Int.reduceToNat, Nat.reduceEqDiff, iI_lt, iI_le, iI_eq, iI_inb, iI_nat, iI_nz, g]
    congr 2
    unfold pB
    refine Prod.ext rfl (funext fun c => ?_)
    show σ.2 c = if c = 26 then _ else σ.2 c
    by_cases c1 : c = 26
    · rw [if_pos c1, c1]
      funext j
      rw [if_neg (by omega)]
    · rw [if_neg c1]
  | succ k ih =>
    intro i n σ h1 h2
    obtain ⟨n2, rfl⟩ : ∃ n2, n = n2 + 1 := ⟨n - 1, by omega⟩
    have g : ¬ 60 ≤ (i : Int) := by omega
    have t0 : (60 * (s : Int) + (i : Int)).toNat = 60 * s + i := by omega
    unfold f_X10_row_48
    simp +decide (disch := omega) only [gl_e, iI_lit, iI_add, iI_mul, iI_lt, iI_le, iI_eq, iI_inb, iI_nat, iI_nz, gk_t, ↓reduceIte, g, t0]
    rw [show (i : Int) + 1 = ((i + 1 : Nat) : Int) by omega, ih (i + 1) n2 _ (by omega) (by omega)]
    unfold pL
    rw [pB_pB]
    congr 3
    funext j
    rw [pB_s, updL_at]
    by_cases c1 : j = 60 * s + i
    · rw [if_neg (by omega), if_pos c1, if_pos (by omega)]
    · rw [if_neg c1]
      by_cases c2 : 60 * s + (i + 1) ≤ j ∧ j < 60 * s + 60
      · rw [if_pos c2, if_pos (by omega)]
      · rw [if_neg c2, if_neg (by omega)]
theorem lL_0 : (0 : Int64) = lL 0 := rfl
theorem e_row (L : LawT) : EQ_row (Rel1 L) := by
  intro x m a1 a2 a3 hR
  obtain ⟨s, rfl, hs1, hs2⟩ := iI_of a1
  obtain ⟨q, rfl, hq1, hq2⟩ := iI_of a2
  obtain ⟨z, rfl, hz1, hz2⟩ := iI_of a3
  unfold f_X9_row f_X10_row
  simp +decide (disch := omega) only [gl_e, iI_lit, iI_neg, iI_add, iI_sub, iI_mul, gk_t, b_some, bz0, bz1, pI_row, pI_snd, pA_row, pA_snd, pL_fst, pL_row, pB_fst, pB_row, upd_at, ↓reduceIte, Int.reduceToNat, Nat.reduceEqDiff, iI_lt, iI_le, iI_eq, iI_inb, iI_nat, iI_nz, s_shX, s_shM, s_wi, bI_0]
  by_cases c1 : 0 ≤ s ∧ s ≤ 5
  · obtain ⟨k, hk, rfl⟩ : ∃ k : Nat, k < 6 ∧ s = (k : Int) := ⟨s.toNat, by omega, by omega⟩
    simp only [c1, not_true_eq_false, ↓reduceIte, and_self]
    by_cases c2 : 0 ≤ q ∧ q ≤ 4
    · have c3 : ¬ q < 0 := by omega
      have c4 : ¬ 4 < q := by omega
      simp only [c2, c3, c4, not_true_eq_false, ↓reduceIte, and_self]
      by_cases c5 : z ≤ 60
      · simp only [c5, ↓reduceIte]
        by_cases c6 : 0 ≤ z
        · simp only [c6, ↓reduceIte]
          have e0 : iI 0 = iI ((0 : Nat) : Int) := rfl
          unfold f_X5_holdRow
          simp +decide (disch := omega) only [gl_e, iI_lit, iI_lt, iI_le, iI_eq, iI_inb, iI_nat, iI_nz, gk_t, s_shAt, Int.toNat_natCast]
          rw [gN_s, e0, w_hr17 _ 60 0 999999 _ rfl (by omega), w_ro48 k hk 60 0 999999 _ rfl (by omega)]
          simp only [b_some]
          refine ⟨_, _, _, rfl, rfl, Rel1_sh hR (fun c hc => ?_) (fun c hc => ?_) (fun n2 nb2 h0 => ?_)⟩
          · show (pI _ _ _ _).1 c = x.1 c
            simp +decide (disch := omega) only [pI_off]
          · show (pI _ _ _ _).1 c = m.1 c
            simp +decide (disch := omega) only [pI_off]
          · have hS2 := h0.2.2.2.2.2.2
            refine RSs_put hk hS2 (fun c h1 h2 h3 => ?_) (fun c h1 h2 h3 => ?_) (fun j hj => ?_) (fun j hj => ?_) (fun j hj i hi => ?_) ⟨Or.inr (Or.inr ⟨q.toNat, z.toNat, by omega, by omega, ?_⟩), fun i hi => ?_⟩
            · show (pI _ _ _ _).1 c = x.1 c
              simp +decide (disch := omega) only [pI_off]
            · show (if c = 14 + 2 * k + 1 then _ else x.2 c) = x.2 c
              rw [if_neg (by omega)]
            · show upd (m.1 24) k (iI q) j = m.1 24 j
              rw [upd_at, if_neg hj]
            · show upd (m.1 25) k (iI z) j = m.1 25 j
              rw [upd_at, if_neg hj]
            · show (if 60 * k + 0 ≤ 60 * j + i ∧ 60 * j + i < 60 * k + 60 then (0 : Int64) else m.2 26 (60 * j + i)) = m.2 26 (60 * j + i)
              rw [if_neg (by omega)]
            · rw [Int.toNat_of_nonneg c2.1, Int.toNat_of_nonneg c6]
              refine ⟨?_, ?_, ?_, ?_, ?_, fun i hi => ?_⟩
              · show (pI _ _ _ _).1 _ _ = _
                simp +decide only [pI_row, ↓reduceIte, upd_at]
              · show (pI _ _ _ _).1 _ _ = _
                simp +decide only [pI_row, ↓reduceIte, upd_at]
              · show upd (m.1 24) k (iI q) k = iI q
                rw [upd_at, if_pos rfl]
              · show (pI _ _ _ _).1 _ _ = _
                simp +decide only [pI_row, ↓reduceIte, upd_at]
              · show upd (m.1 25) k (iI z) k = iI z
                rw [upd_at, if_pos rfl]
              · have e3 : (pB (pI (pI (pI x (14 + 2 * k) 1 (iI 2)) (14 + 2 * k) 3 (iI q)) (14 + 2 * k) 4 (iI z)) (14 + 2 * k + 1) (fun j => if 0 ≤ j ∧ j < 60 then 0 else x.2 (14 + 2 * k + 1) j)).2 (15 + 2 * k) i = 0 := by
                  show (if 15 + 2 * k = 14 + 2 * k + 1 then (fun j => if 0 ≤ j ∧ j < 60 then (0 : Int64) else x.2 (14 + 2 * k + 1) j) else x.2 (15 + 2 * k)) i = 0
                  rw [if_pos (by omega)]
                  show (if 0 ≤ i ∧ i < 60 then (0 : Int64) else _) = 0
                  rw [if_pos (by omega)]
                exact ⟨fun _ => ⟨0, e3, by omega, by omega⟩, fun _ => ⟨0, e3, by omega, by omega⟩⟩
            · show (if 60 * k + 0 ≤ 60 * k + i ∧ 60 * k + i < 60 * k + 60 then (0 : Int64) else m.2 26 (60 * k + i)) = (if 15 + 2 * k = 14 + 2 * k + 1 then (fun j => if 0 ≤ j ∧ j < 60 then (0 : Int64) else x.2 (14 + 2 * k + 1) j) else x.2 (15 + 2 * k)) i
              rw [if_pos (by omega), if_pos (by omega)]
              show (0 : Int64) = (if 0 ≤ i ∧ i < 60 then (0 : Int64) else _)
              rw [if_pos (by omega)]
        · simp only [c6, ↓reduceIte]
          exact ⟨_, _, _, rfl, rfl, hR⟩
      · simp only [c5, ↓reduceIte]
        exact ⟨_, _, _, rfl, rfl, hR⟩
    · simp only [c2, not_false_eq_true, ↓reduceIte]
      by_cases c3 : q < 0
      · simp only [c3, ↓reduceIte]
        exact ⟨_, _, _, rfl, rfl, hR⟩
      · have c4 : 4 < q := by omega
        simp only [c3, c4, ↓reduceIte]
        exact ⟨_, _, _, rfl, rfl, hR⟩
  · simp only [c1, not_false_eq_true, ↓reduceIte]
    exact ⟨_, _, _, rfl, rfl, hR⟩
