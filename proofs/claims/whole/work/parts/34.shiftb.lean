theorem gl_p {α β : Type} (x : α) (k : α → β) : gl x k = k x := by
  have h : gl x k = k x := rfl
  exact h
theorem bs_p {α β : Type} (a : α) (k : α → Option β) : (some a).bind k = k a := by
  have h : (some a).bind k = k a := rfl
  exact h
theorem gk_p {α : Type} {k : Option α} : gk true k = k := by
  have h : gk true k = k := rfl
  exact h
/-! ===== shift ===== -/
theorem pB_pL {σ : gS} {k j : Nat} {v : Int64} {f : Nat → Int64} : pB (pL σ k j v) k f = pB σ k f := pB_pB
theorem pB_self (σ : gS) (k : Nat) : pB σ k (σ.2 k) = σ := by
  unfold pB
  refine Prod.ext rfl (funext fun i => ?_)
  show (if i = k then σ.2 k else σ.2 i) = σ.2 i
  by_cases h : i = k
  · rw [if_pos h, h]
  · rw [if_neg h]
theorem w_sh188 {s o i j n : Nat} {R : Nat → Int64} (hs : s < 6) (ho : o < 6) (hi : i + n ≤ 60) (hj : j + n ≤ 60) (hd : s ≠ o ∨ j ≤ i) : ∀ (r k f : Nat) (σ : gS), k + r = n → r ≤ f → σ.2 26 = va_cpy R R (60 * s + i) (60 * o + j) k → f_X10_shift_188 (f + 1) (iI s) (iI i) (iI o) (iI j) (iI n) (iI k) σ = some (iI n, pB σ 26 (va_cpy R R (60 * s + i) (60 * o + j) n)) := by
  intro r
  induction r with
  | zero =>
    intro k f σ hk hf hc
    have ek : k = n := by omega
    subst ek
    unfold f_X10_shift_188
    simp +decide (maxSteps := 2000000) (disch := omega) only [↓gl_p, ↓bs_p, iI_lit, iI_neg, iI_add, iI_sub, iI_mul, gk_p, bs_p, bz0, bz1, pI_row, pI_snd, pA_row, pA_snd, pL_fst, pL_row, pB_fst, pB_row, upd_at, ↓reduceIte, Int.reduceToNat, Nat.reduceEqDiff, iI_lt, iI_le, iI_eq, iI_inb, iI_nat, iI_nz, Int.le_refl]
    rw [← hc, pB_self]
  | succ r ih =>
    intro k f σ hk hf hc
    obtain ⟨f2, rfl⟩ : ∃ f2, f = f2 + 1 := ⟨f - 1, by omega⟩
    have g : ¬ (n : Int) ≤ k := by omega
    have t0 : (60 * (s : Int) + (i : Int) + (k : Int)).toNat = 60 * s + i + k := by omega
    have t1 : (60 * (o : Int) + (j : Int) + (k : Int)).toNat = 60 * o + j + k := by omega
    unfold f_X10_shift_188
    simp +decide (maxSteps := 2000000) (disch := omega) only [↓gl_p, ↓bs_p, iI_lit, iI_neg, iI_add, iI_sub, iI_mul, gk_p, bs_p, bz0, bz1, pI_row, pI_snd, pA_row, pA_snd, pL_fst, pL_row, pB_fst, pB_row, upd_at, ↓reduceIte, Int.reduceToNat, Nat.reduceEqDiff, iI_lt, iI_le, iI_eq, iI_inb, iI_nat, iI_nz, g, t0, t1]
    rw [show (k : Int) + 1 = ((k + 1 : Nat) : Int) by omega, ih (k + 1) f2 _ (by omega) (by omega) ?_, pB_pL]
    show vp_updL (σ.2 26) (60 * o + j + k) (σ.2 26 (60 * s + i + k)) = _
    rw [hc]
    funext p
    rw [updL_at]
    have e : va_cpy R R (60 * s + i) (60 * o + j) k (60 * s + i + k) = R (60 * s + i + k) := pk_cpy_out (by omega)
    rw [e]
    by_cases c : p = 60 * o + j + k
    · rw [if_pos c, pk_cpy_in (by omega) (by omega), c]
      exact congrArg R (by omega)
    · rw [if_neg c]
      by_cases c2 : 60 * o + j ≤ p ∧ p < 60 * o + j + k
      · rw [pk_cpy_in c2.1 c2.2, pk_cpy_in c2.1 (by omega)]
      · rw [pk_cpy_out (by omega), pk_cpy_out (by omega)]
theorem w_sh142 {s i j n : Nat} {R : Nat → Int64} (hs : s < 6) (hi : i + n ≤ 60) (hj : j + n ≤ 60) (hd : i < j) : ∀ (k f : Nat) (σ : gS), k ≤ n → k ≤ f → σ.2 26 = va_cpy R R (60 * s + i + k) (60 * s + j + k) (n - k) → f_X10_shift_142 (f + 1) (iI s) (iI i) (iI s) (iI j) (iI n) (iI ((k : Int) - 1)) σ = some (iI n, pB σ 26 (va_cpy R R (60 * s + i) (60 * s + j) n)) := by
  intro k
  induction k with
  | zero =>
    intro f σ hk hf hc
    unfold f_X10_shift_142
    rw [if_pos (by rw [show (0 : Int32) = iI 0 from rfl, iI_lt (by omega) (by omega) (by omega) (by omega)]; omega)]
    rw [Nat.add_zero, Nat.add_zero, Nat.sub_zero] at hc
    rw [← hc, pB_self]
  | succ k ih =>
    intro f σ hk hf hc
    obtain ⟨f2, rfl⟩ : ∃ f2, f = f2 + 1 := ⟨f - 1, by omega⟩
    have g : ¬ (k : Int) < 0 := by omega
    have t0 : (60 * (s : Int) + (i : Int) + (k : Int)).toNat = 60 * s + i + k := by omega
    have t1 : (60 * (s : Int) + (j : Int) + (k : Int)).toNat = 60 * s + j + k := by omega
    unfold f_X10_shift_142
    rw [show ((k + 1 : Nat) : Int) - 1 = (k : Int) by omega]
    simp +decide (maxSteps := 2000000) (disch := omega) only [↓gl_p, ↓bs_p, iI_lit, iI_neg, iI_add, iI_sub, iI_mul, gk_p, bs_p, bz0, bz1, pI_row, pI_snd, pA_row, pA_snd, pL_fst, pL_row, pB_fst, pB_row, upd_at, ↓reduceIte, Int.reduceToNat, Nat.reduceEqDiff, iI_lt, iI_le, iI_eq, iI_inb, iI_nat, iI_nz, g, t0, t1]
    rw [show (k : Int) + -1 = (k : Int) - 1 by omega, ih f2 _ (by omega) (by omega) ?_, pB_pL]
    show vp_updL (σ.2 26) (60 * s + j + k) (σ.2 26 (60 * s + i + k)) = _
    rw [hc]
    funext p
    rw [updL_at]
    have e : va_cpy R R (60 * s + i + (k + 1)) (60 * s + j + (k + 1)) (n - (k + 1)) (60 * s + i + k) = R (60 * s + i + k) := pk_cpy_out (by omega)
    rw [e]
    by_cases c : p = 60 * s + j + k
    · rw [if_pos c, pk_cpy_in (by omega) (by omega), c]
      exact congrArg R (by omega)
    · rw [if_neg c]
      by_cases c2 : 60 * s + j + (k + 1) ≤ p ∧ p < 60 * s + j + (k + 1) + (n - (k + 1))
      · rw [pk_cpy_in c2.1 c2.2, pk_cpy_in (by omega) (by omega)]
        exact congrArg R (by omega)
      · rw [pk_cpy_out (by omega), pk_cpy_out (by omega)]
theorem s_cpok {a b c : Nat} (h1 : a + c ≤ 60) (h2 : b + c ≤ 60) : cpok (iI a) (iI b) (iI c) 60 60 = true := by
  unfold cpok
  rw [iI_toInt (by omega) (by omega), iI_toInt (by omega) (by omega), iI_toInt (by omega) (by omega)]
  simp only [Bool.and_eq_true, decide_eq_true_eq]
  omega
theorem va0 {α : Type} (R : Nat → α) (a b : Nat) : va_cpy R R a b 0 = R := by
  funext p
  exact pk_cpy_out (by omega)
