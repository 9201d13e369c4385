/-! ===== posts, numbers told ===== -/
theorem lohi {k : Nat} (hk : k ≤ 7) : 0 ≤ loW k ∧ loW k ≤ 1 ∧ 9 ≤ hiW k ∧ hiW k ≤ 999 := by
  unfold loW hiW
  (repeat' split) <;> omega
theorem zLo {k : Nat} (hk : k ≤ 7) : zLEAST.getD k (iI 0) = iI (loW k) := match k, hk with
  | 0, _ => rfl
  | 1, _ => rfl
  | 2, _ => rfl
  | 3, _ => rfl
  | 4, _ => rfl
  | 5, _ => rfl
  | 6, _ => rfl
  | 7, _ => rfl
  | n + 8, h => absurd h (by omega)
theorem zHi {k : Nat} (hk : k ≤ 7) : zMOST.getD k (iI 0) = iI (hiW k) := match k, hk with
  | 0, _ => rfl
  | 1, _ => rfl
  | 2, _ => rfl
  | 3, _ => rfl
  | 4, _ => rfl
  | 5, _ => rfl
  | 6, _ => rfl
  | 7, _ => rfl
  | n + 8, h => absurd h (by omega)
theorem s_fits (σ : gS) {k : Nat} (hk : k ≤ 7) {v : Int} (h1 : -2147483648 ≤ v) (h2 : v < 2147483648) : f_X8_fits σ (iI k) (iI v) = some (bI (loW k ≤ v ∧ v ≤ hiW k)) := by
  obtain ⟨b1, b2, b3, b4⟩ := lohi hk
  have g1 : ¬ (k : Int) < 0 := by omega
  have g2 : ¬ 8 ≤ (k : Int) := by omega
  unfold f_X8_fits bI
  simp +decide (disch := omega) only [gl_e, iI_lit, iI_neg, iI_add, iI_sub, iI_mul, gk_t, b_some, bz0, bz1, pI_row, pI_snd, pA_row, pA_snd, pL_fst, pL_row, pB_fst, pB_row, upd_at, ↓reduceIte, Int.reduceToNat, Nat.reduceEqDiff, iI_lt, iI_le, iI_eq, iI_inb, iI_nat, iI_nz, g1, g2, Int.toNat_natCast, zLo hk, zHi hk]
  (repeat' split) <;> first | rfl | (exfalso; omega)
theorem s_fitM (σ : gS) {k : Nat} (hk : k ≤ 7) {v : Int} (h1 : -2147483648 ≤ v) (h2 : v < 2147483648) : f_X10_isFit σ (iI k) (iI v) = some (bI (loW k ≤ v ∧ v ≤ hiW k)) := by
  unfold f_X10_isFit f_X10_isFit_40 f_X10_isFit_65
  simp +decide (disch := omega) only [gl_e, iI_lit, iI_neg, iI_add, iI_sub, iI_mul, gk_t, b_some, bz0, bz1, pI_row, pI_snd, pA_row, pA_snd, pL_fst, pL_row, pB_fst, pB_row, upd_at, ↓reduceIte, Int.reduceToNat, Nat.reduceEqDiff, iI_lt, iI_le, iI_eq, iI_inb, iI_nat, iI_nz, s_wi, bI_z]
  match k, hk with
  | 0, _ => rfl
  | 1, _ => rfl
  | 2, _ => rfl
  | 3, _ => rfl
  | 4, _ => rfl
  | 5, _ => rfl
  | 6, _ => rfl
  | 7, _ => rfl
  | n + 8, h => exact absurd h (by omega)
def plc (p w : Nat) : Nat := if w ≤ 3 then 4 * p + w else 32 + w
def okW (n p w : Nat) : Prop := w ≤ 7 ∧ (w ≤ 3 → p < n) ∧ (4 ≤ w → p = 0)
def okI (n : Nat) (p w : Int) : Prop := (0 ≤ w ∧ w ≤ 3 ∧ 0 ≤ p ∧ p < n) ∨ (4 ≤ w ∧ w ≤ 7 ∧ p = 0)
theorem okI_of {n : Nat} {p w : Int} (h : okI n p w) : ∃ a b : Nat, p = (a : Int) ∧ w = (b : Int) ∧ okW n a b := by
  unfold okI at h
  refine ⟨p.toNat, w.toNat, ?_, ?_, ?_, fun _ => ?_, fun _ => ?_⟩ <;> omega
theorem s_plc {x : gS} {n : Nat} (hn : n ≤ 9) (e : x.1 1 1 = iI n) {p w : Int} (h1 : -2147483648 ≤ p) (h2 : p < 2147483648) (h3 : -2147483648 ≤ w) (h4 : w < 2147483648) : (okI n p w → f_X8_placeOf x (iI p) (iI w) = some (iI ((plc p.toNat w.toNat : Nat) : Int))) ∧ (¬ okI n p w → f_X8_placeOf x (iI p) (iI w) = some (iI (-1))) := by
  unfold f_X8_placeOf f_X8_placeOf_27
  simp +decide (disch := omega) only [gl_e, iI_lit, iI_neg, iI_add, iI_sub, iI_mul, gk_t, b_some, bz0, bz1, pI_row, pI_snd, pA_row, pA_snd, pL_fst, pL_row, pB_fst, pB_row, upd_at, ↓reduceIte, Int.reduceToNat, Nat.reduceEqDiff, iI_lt, iI_le, iI_eq, iI_inb, iI_nat, iI_nz, s_poX hn e, bI_0]
  refine ⟨fun h => ?_, fun h => ?_⟩
  · unfold okI at h
    rcases h with ⟨a1, a2, a3, a4⟩ | ⟨a1, a2, a3⟩
    · have g1 : ¬ w < 0 := by omega
      have g2 : ¬ 3 < w := by omega
      have g3 : 0 ≤ p ∧ p < (n : Int) := by omega
      simp only [g1, g2, g3, not_true_eq_false, and_self, ↓reduceIte]
      have e2 : ((plc p.toNat w.toNat : Nat) : Int) = 4 * p + w := by
        unfold plc
        split <;> omega
      rw [e2]
    · have g1 : ¬ w < 0 := by omega
      have g2 : 3 < w := by omega
      have g4 : ¬ w < 4 := by omega
      have g5 : ¬ 7 < w := by omega
      have e2 : ((plc p.toNat w.toNat : Nat) : Int) = 36 + w - 4 := by
        unfold plc
        split <;> omega
      rw [e2]
      simp only [g1, g2, g4, g5, a3, ↓reduceIte]
  · unfold okI at h
    by_cases g1 : w < 0
    · have g4 : w < 4 := by omega
      simp only [g1, g4, ↓reduceIte]
    · by_cases g2 : 3 < w
      · have g4 : ¬ w < 4 := by omega
        simp only [g1, g2, g4, ↓reduceIte]
        by_cases g5 : 7 < w
        · simp only [g5, ↓reduceIte]
        · have g6 : ¬ p = 0 := by omega
          simp only [g5, g6, ↓reduceIte]
      · have g3 : ¬ (0 ≤ p ∧ p < (n : Int)) := by omega
        simp only [g1, g2, g3, not_false_eq_true, ↓reduceIte]
theorem s_isOf {m : gS} {n : Nat} (hn : n ≤ 9) (e : m.1 0 0 = iI n) {p w : Int} (h1 : -2147483648 ≤ p) (h2 : p < 2147483648) (h3 : -2147483648 ≤ w) (h4 : w < 2147483648) : (okI n p w → f_X10_isOf m (iI p) (iI w) = some (iI 1)) ∧ (¬ okI n p w → f_X10_isOf m (iI p) (iI w) = some (iI 0)) := by
  unfold f_X10_isOf
  simp +decide (disch := omega) only [gl_e, iI_lit, iI_neg, iI_add, iI_sub, iI_mul, gk_t, b_some, bz0, bz1, pI_row, pI_snd, pA_row, pA_snd, pL_fst, pL_row, pB_fst, pB_row, upd_at, ↓reduceIte, Int.reduceToNat, Nat.reduceEqDiff, iI_lt, iI_le, iI_eq, iI_inb, iI_nat, iI_nz, s_wi, bI_0, lL_i, s_poM hn e, bI_z]
  unfold okI
  refine ⟨fun h => ?_, fun h => ?_⟩
  · rcases h with ⟨a1, a2, a3, a4⟩ | ⟨a1, a2, a3⟩
    · have g1 : 0 ≤ w ∧ w ≤ 3 := by omega
      have g3 : 0 ≤ p ∧ p < (n : Int) := by omega
      simp only [g1, not_true_eq_false, and_self, ↓reduceIte, bI, g3]
    · have g1 : ¬ (0 ≤ w ∧ w ≤ 3) := by omega
      have g2 : 4 ≤ w ∧ w ≤ 7 := by omega
      simp only [g1, g2, a3, not_true_eq_false, not_false_eq_true, and_self, ↓reduceIte]
  · by_cases g1 : 0 ≤ w ∧ w ≤ 3
    · have g3 : ¬ (0 ≤ p ∧ p < (n : Int)) := by omega
      simp only [g1, not_true_eq_false, and_self, ↓reduceIte, bI, g3]
    · by_cases g2 : 4 ≤ w ∧ w ≤ 7
      · have g4 : ¬ p = 0 := by omega
        simp only [g1, g2, g4, not_true_eq_false, not_false_eq_true, and_self, ↓reduceIte]
      · simp only [g1, g2, not_false_eq_true, ↓reduceIte]
theorem s_get {m : gS} {n : Nat} {sz : Int32} {td : Nat → Int32} (h : RP n sz td (m.1 0 0) (m.1 1) (m.1 2) (m.1 3) (m.1 4) (m.1 5)) {p w : Nat} (hw : okW n p w) : f_X10_get m (iI p) (iI w) = some (td (plc p w)) := by
  obtain ⟨hn, -, -, hr, ⟨w0, w1, w2, w3⟩, -⟩ := h
  obtain ⟨h7, ha, hb⟩ := hw
  unfold f_X10_get plc
  match w, h7 with
  | 0, _ =>
    have hp := ha (by omega)
    simp +decide (disch := omega) only [gl_e, iI_lit, iI_neg, iI_add, iI_sub, iI_mul, gk_t, b_some, bz0, bz1, pI_row, pI_snd, pA_row, pA_snd, pL_fst, pL_row, pB_fst, pB_row, upd_at, ↓reduceIte, Int.reduceToNat, Nat.reduceEqDiff, iI_lt, iI_le, iI_eq, iI_inb, iI_nat, iI_nz, Int.toNat_natCast]
    rw [(hr p hp).1]; rfl
  | 1, _ =>
    have hp := ha (by omega)
    simp +decide (disch := omega) only [gl_e, iI_lit, iI_neg, iI_add, iI_sub, iI_mul, gk_t, b_some, bz0, bz1, pI_row, pI_snd, pA_row, pA_snd, pL_fst, pL_row, pB_fst, pB_row, upd_at, ↓reduceIte, Int.reduceToNat, Nat.reduceEqDiff, iI_lt, iI_le, iI_eq, iI_inb, iI_nat, iI_nz, Int.toNat_natCast]
    rw [(hr p hp).2.1]
  | 2, _ =>
    have hp := ha (by omega)
    simp +decide (disch := omega) only [gl_e, iI_lit, iI_neg, iI_add, iI_sub, iI_mul, gk_t, b_some, bz0, bz1, pI_row, pI_snd, pA_row, pA_snd, pL_fst, pL_row, pB_fst, pB_row, upd_at, ↓reduceIte, Int.reduceToNat, Nat.reduceEqDiff, iI_lt, iI_le, iI_eq, iI_inb, iI_nat, iI_nz, Int.toNat_natCast]
    rw [(hr p hp).2.2.1]
  | 3, _ =>
    have hp := ha (by omega)
    simp +decide (disch := omega) only [gl_e, iI_lit, iI_neg, iI_add, iI_sub, iI_mul, gk_t, b_some, bz0, bz1, pI_row, pI_snd, pA_row, pA_snd, pL_fst, pL_row, pB_fst, pB_row, upd_at, ↓reduceIte, Int.reduceToNat, Nat.reduceEqDiff, iI_lt, iI_le, iI_eq, iI_inb, iI_nat, iI_nz, Int.toNat_natCast]
    rw [(hr p hp).2.2.2]
  | 4, _ => exact congrArg some w0
  | 5, _ => exact congrArg some w1
  | 6, _ => exact congrArg some w2
  | 7, _ => exact congrArg some w3
  | k + 8, h => exact absurd h (by omega)
