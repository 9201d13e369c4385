/-! ===== small methods ===== -/
def bI (c : Prop) [Decidable c] : Int32 := if c then iI 1 else iI 0
theorem bI_0 {c : Prop} [Decidable c] : bI c = iI 0 ↔ ¬ c := by
  unfold bI
  by_cases h : c
  · simp only [h, ↓reduceIte]
    constructor
    · intro e
      exact absurd e (by decide)
    · intro e
      exact absurd trivial e
  · simp only [h, ↓reduceIte, not_false_eq_true]
theorem bI_z {c : Prop} [Decidable c] : bz (bI c) = true := by
  unfold bI
  by_cases h : c <;> simp only [h, ↓reduceIte] <;> rfl
theorem jmin_i {a b : Int} (h1 : -2147483648 ≤ a) (h2 : a < 2147483648) (h3 : -2147483648 ≤ b) (h4 : b < 2147483648) : jmin (iI a) (iI b) = iI (if b < a then b else a) := by
  unfold jmin
  simp only [iI_lt h3 h4 h1 h2]
  split <;> rfl
theorem jmax_i {a b : Int} (h1 : -2147483648 ≤ a) (h2 : a < 2147483648) (h3 : -2147483648 ≤ b) (h4 : b < 2147483648) : jmax (iI a) (iI b) = iI (if a < b then b else a) := by
  unfold jmax
  simp only [iI_lt h1 h2 h3 h4]
  split <;> rfl
theorem jabs_i {a : Int} (h1 : -2147483648 ≤ a) (h2 : a < 2147483648) : jabs (iI a) = iI (if 0 ≤ a then a else 0 - a) := by
  unfold jabs
  simp +decide (disch := omega) only [gl_e, iI_lit, iI_neg, iI_add, iI_sub, iI_mul, gk_t, b_some, bz0, bz1, pI_row, pI_snd, pA_row, pA_snd, pL_fst, pL_row, pB_fst, pB_row, upd_at, ↓reduceIte, Int.reduceToNat, Nat.reduceEqDiff, iI_lt, iI_le, iI_eq, iI_inb, iI_nat, iI_nz]
  split <;> rfl
theorem s_wi (σ : gS) {a b c : Int} (h1 : -2147483648 ≤ a) (h2 : a < 2147483648) (h3 : -2147483648 ≤ b) (h4 : b < 2147483648) (h5 : -2147483648 ≤ c) (h6 : c < 2147483648) : f_X10_within σ (iI a) (iI b) (iI c) = some (bI (b ≤ a ∧ a ≤ c)) := by
  unfold f_X10_within bI
  simp +decide (disch := omega) only [gl_e, iI_lit, iI_neg, iI_add, iI_sub, iI_mul, gk_t, b_some, bz0, bz1, pI_row, pI_snd, pA_row, pA_snd, pL_fst, pL_row, pB_fst, pB_row, upd_at, ↓reduceIte, Int.reduceToNat, Nat.reduceEqDiff, iI_lt, iI_le, iI_eq, iI_inb, iI_nat, iI_nz]
  (repeat' split) <;> first | rfl | (exfalso; omega)
theorem s_shM (σ : gS) {a : Int} (h1 : -2147483648 ≤ a) (h2 : a < 2147483648) : f_X10_isShelf σ (iI a) = some (bI (0 ≤ a ∧ a ≤ 5)) := by
  unfold f_X10_isShelf
  simp +decide (disch := omega) only [gl_e, iI_lit, iI_neg, iI_add, iI_sub, iI_mul, gk_t, b_some, bz0, bz1, pI_row, pI_snd, pA_row, pA_snd, pL_fst, pL_row, pB_fst, pB_row, upd_at, ↓reduceIte, Int.reduceToNat, Nat.reduceEqDiff, iI_lt, iI_le, iI_eq, iI_inb, iI_nat, iI_nz, s_wi, bI_z]
theorem s_shX (σ : gS) {a : Int} (h1 : -2147483648 ≤ a) (h2 : a < 2147483648) : f_X9_isShelf σ (iI a) = some (bI (0 ≤ a ∧ a ≤ 5)) := by
  unfold f_X9_isShelf bI
  simp +decide (disch := omega) only [gl_e, iI_lit, iI_neg, iI_add, iI_sub, iI_mul, gk_t, b_some, bz0, bz1, pI_row, pI_snd, pA_row, pA_snd, pL_fst, pL_row, pB_fst, pB_row, upd_at, ↓reduceIte, Int.reduceToNat, Nat.reduceEqDiff, iI_lt, iI_le, iI_eq, iI_inb, iI_nat, iI_nz]
  (repeat' split) <;> first | rfl | (exfalso; omega)
theorem s_shAt {α : Type} {a : Int} {A : Nat → Option α} (h1 : 0 ≤ a) (h2 : a ≤ 5) : shAt (iI a) A = A (14 + 2 * a.toNat) := by
  unfold shAt
  have e : shTs.length = 6 := rfl
  rw [e, iI_inb h1 (by omega) (by omega), iI_nat (by omega) (by omega)]
  obtain ⟨k, hk, rfl⟩ : ∃ k : Nat, k ≤ 5 ∧ a = (k : Int) := ⟨a.toNat, by omega, by omega⟩
  rw [Int.toNat_natCast]
  match k, hk with
  | 0, _ => rfl
  | 1, _ => rfl
  | 2, _ => rfl
  | 3, _ => rfl
  | 4, _ => rfl
  | 5, _ => rfl
  | n + 6, h => exact absurd h (by omega)
theorem s_poX {σ : gS} {n : Nat} (hn : n ≤ 9) (e : σ.1 1 1 = iI n) {a : Int} (h1 : -2147483648 ≤ a) (h2 : a < 2147483648) : f_X8_isPost σ (iI a) = some (bI (0 ≤ a ∧ a < n)) := by
  unfold f_X8_isPost bI
  rw [e]
  simp +decide (disch := omega) only [gl_e, iI_lit, iI_neg, iI_add, iI_sub, iI_mul, gk_t, b_some, bz0, bz1, pI_row, pI_snd, pA_row, pA_snd, pL_fst, pL_row, pB_fst, pB_row, upd_at, ↓reduceIte, Int.reduceToNat, Nat.reduceEqDiff, iI_lt, iI_le, iI_eq, iI_inb, iI_nat, iI_nz]
  (repeat' split) <;> first | rfl | (exfalso; omega)
theorem lL_toInt {a : Int} (h1 : -9223372036854775808 ≤ a) (h2 : a < 9223372036854775808) : (lL a).toInt = a := by
  unfold lL
  rw [Int64.toInt_ofInt]
  show Int.bmod a (2 ^ 64) = a
  rw [Int.bmod_eq_of_le (by omega) (by omega)]
theorem lL_i {a : Int} (h1 : -2147483648 ≤ a) (h2 : a < 2147483648) : (iI a).toInt64 = lL a := by
  apply Int64.toInt_inj.mp
  rw [lL_toInt (by omega) (by omega), Int32.toInt_toInt64, iI_toInt h1 h2]
theorem lc_i {a b : Int} (h1 : -9223372036854775808 ≤ a) (h2 : a < 9223372036854775808) (h3 : -9223372036854775808 ≤ b) (h4 : b < 9223372036854775808) : lg_cmp (lL a) (lL b) = iI (if b < a then 1 else if a = b then 0 else -1) := by
  unfold lg_cmp
  have e1 : lL a > lL b ↔ b < a := by
    show lL b < lL a ↔ b < a
    rw [Int64.lt_iff_toInt_lt, lL_toInt h1 h2, lL_toInt h3 h4]
  have e2 : lL a = lL b ↔ a = b := by
    constructor
    · intro e
      have e2 := congrArg Int64.toInt e
      rw [lL_toInt h1 h2, lL_toInt h3 h4] at e2
      exact e2
    · intro e
      rw [e]
  simp only [e1, e2]
  (repeat' split) <;> rfl
theorem lL_lit (n : Nat) : (OfNat.ofNat n : Int64) = lL (OfNat.ofNat n : Int) := by
  show Int64.ofNat n = Int64.ofInt (Int.ofNat n)
  first | rfl | exact (Int64.ofInt_natCast n).symm | exact (Int64.ofInt_eq_ofNat).symm | simp
theorem s_poM {σ : gS} {n : Nat} (hn : n ≤ 9) (e : σ.1 0 0 = iI n) {a : Int} (h1 : -2147483648 ≤ a) (h2 : a < 2147483648) : f_X10_isPost σ (lL a) = some (bI (0 ≤ a ∧ a < n)) := by
  unfold f_X10_isPost bI
  rw [e]
  simp +decide (disch := omega) only [gl_e, iI_lit, iI_neg, iI_add, iI_sub, iI_mul, gk_t, b_some, bz0, bz1, pI_row, pI_snd, pA_row, pA_snd, pL_fst, pL_row, pB_fst, pB_row, upd_at, ↓reduceIte, Int.reduceToNat, Nat.reduceEqDiff, iI_lt, iI_le, iI_eq, iI_inb, iI_nat, iI_nz, lL_i, lL_lit, lc_i]
  (repeat' split) <;> first | rfl | (exfalso; omega)
theorem RSs_x {nb : Nat} {x1 y1 : Nat → Nat → Int32} {x2 : Nat → Nat → Int64} {mh ml : Nat → Int32} {mr : Nat → Int64} (h : RSs nb x1 x2 mh ml mr) (hx : ∀ c, 14 ≤ c → c ≤ 25 → y1 c = x1 c) : RSs nb y1 x2 mh ml mr := by
  intro k hk
  rw [hx (14 + 2 * k) (by omega) (by omega)]
  exact h k hk
