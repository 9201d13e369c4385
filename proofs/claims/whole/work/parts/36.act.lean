/-! ===== acts ===== -/
def lgX (σ : gS) (r : Nat) (b : Int32) : gS := pI (if 24 ≤ r then σ else pI σ 43 r b) 41 3 (iI (r + 1 : Nat))
def lgM (σ : gS) (r : Nat) (b : Int32) : gS := pI (if 24 ≤ r then σ else pI σ 23 r b) 0 39 (iI (r + 1 : Nat))
/-- what both keep in an act; what else there is stays -/
def aJ (x0 m0 : gS) (b own r : Nat) (x m : gS) : Prop := x.1 41 3 = iI r ∧ m.1 0 39 = iI r ∧ (∀ i, i < r → i < 24 → m.1 23 i = x.1 43 i) ∧ x.1 41 4 = iI b ∧ x.1 42 b = iI own ∧ m.1 22 b = iI own ∧ (∀ c, c ≠ 41 → c ≠ 43 → x.1 c = x0.1 c) ∧ (x.1 41 2 = x0.1 41 2 ∧ ∃ nb : Nat, nb ≤ 50 ∧ x0.1 41 2 = iI nb ∧ b < nb) ∧ x.2 = x0.2 ∧ (∀ c, c ≠ 0 → c ≠ 23 → m.1 c = m0.1 c) ∧ (∀ j, j ≠ 39 → m.1 0 j = m0.1 0 j) ∧ m.2 = m0.2
def eff (act k : Nat) : Nat := match act with
  | 0 => (match k with | 0 => 0 | 1 => 1 | 2 => 0 | 3 => 0 | 4 => 1 | 5 => 0 | 6 => 6 | _ => 1)
  | 1 => (match k with | 0 => 0 | 1 => 0 | 2 => 2 | 3 => 3 | 4 => 0 | 5 => 3 | 6 => 0 | _ => 7)
  | 2 => (match k with | 0 => 0 | 1 => 0 | 2 => 0 | 3 => 3 | 4 => 4 | 5 => 3 | 6 => 0 | _ => 4)
  | _ => (match k with | 0 => 0 | 1 => 0 | 2 => 0 | 3 => 0 | 4 => 0 | 5 => 5 | 6 => 0 | _ => 7)
theorem w_rf6 (RB RF : gS → Int32 → Int32 → Int32 → Int32 → Option (Int32 × gS)) (act k : Nat) (ha : act ≤ 3) (hk : k ≤ 7) (X E : Int32) (σ : gS) : f_X3_runFrom_6 RB RF gN (iI act) X E (iI k) 0 σ = f_X3_runFrom_48 RB RF (iI act) X E (iI (eff act k : Nat)) σ := match act, ha, k, hk with
  | 0, _, 0, _ => rfl
  | 0, _, 1, _ => rfl
  | 0, _, 2, _ => rfl
  | 0, _, 3, _ => rfl
  | 0, _, 4, _ => rfl
  | 0, _, 5, _ => rfl
  | 0, _, 6, _ => rfl
  | 0, _, 7, _ => rfl
  | 1, _, 0, _ => rfl
  | 1, _, 1, _ => rfl
  | 1, _, 2, _ => rfl
  | 1, _, 3, _ => rfl
  | 1, _, 4, _ => rfl
  | 1, _, 5, _ => rfl
  | 1, _, 6, _ => rfl
  | 1, _, 7, _ => rfl
  | 2, _, 0, _ => rfl
  | 2, _, 1, _ => rfl
  | 2, _, 2, _ => rfl
  | 2, _, 3, _ => rfl
  | 2, _, 4, _ => rfl
  | 2, _, 5, _ => rfl
  | 2, _, 6, _ => rfl
  | 2, _, 7, _ => rfl
  | 3, _, 0, _ => rfl
  | 3, _, 1, _ => rfl
  | 3, _, 2, _ => rfl
  | 3, _, 3, _ => rfl
  | 3, _, 4, _ => rfl
  | 3, _, 5, _ => rfl
  | 3, _, 6, _ => rfl
  | 3, _, 7, _ => rfl
  | n + 4, h, _, _ => absurd h (by omega)
  | _, _, n + 8, h => absurd h (by omega)
theorem eff_le (act k : Nat) : eff act k ≤ 7 := by
  unfold eff
  split <;> split <;> decide
theorem b_eta {α β : Type} (o : Option (α × β)) : (o.bind fun q => some (q.1, q.2)) = o := by
  cases o <;> rfl
theorem s_rf (RB RF : gS → Int32 → Int32 → Int32 → Int32 → Option (Int32 × gS)) {act k e r : Nat} (ha : act ≤ 3) (hk : k ≤ 7) (he : e ≤ 40) (hr : r ≤ 1000) (X : Int32) {σ : gS} (e1 : σ.1 41 3 = iI r) : f_X3_runFrom_48 RB RF (iI act) X (iI e) (iI k) σ = RB (lgX σ r (zBODIES.getD (4 * k + act) (iI 0))) (zBODIES.getD (4 * k + act) (iI 0)) (zABOVE.getD k (iI 0)) X (iI (e + 1 : Nat)) := by
  have t0 : (4 * (k : Int) + (act : Int)).toNat = 4 * k + act := by omega
  have g0 : 0 ≤ (k : Int) ∧ (k : Int) ≤ 7 := by omega
  have g1 : (e : Int) ≤ 40 := by omega
  unfold f_X3_runFrom_48 f_X3_runFrom_97 lgX
  by_cases c : 24 ≤ r
  · have c2 : 24 ≤ (r : Int) := by omega
    simp +decide (maxSteps := 2000000) (disch := omega) only [↓gl_p, ↓bs_p, iI_lit, iI_neg, iI_add, iI_sub, iI_mul, gk_p, bs_p, bz0, bz1, pI_row, pI_snd, pA_row, pA_snd, pL_fst, pL_row, pB_fst, pB_row, upd_at, ↓reduceIte, Int.reduceToNat, Nat.reduceEqDiff, iI_lt, iI_le, iI_eq, iI_inb, iI_nat, iI_nz, e1, s_kind, bI_0, g0, g1, t0, c, c2, Int.toNat_natCast, and_self, not_true_eq_false, b_eta]
    rfl
  · have c2 : ¬ 24 ≤ (r : Int) := by omega
    simp +decide (maxSteps := 2000000) (disch := omega) only [↓gl_p, ↓bs_p, iI_lit, iI_neg, iI_add, iI_sub, iI_mul, gk_p, bs_p, bz0, bz1, pI_row, pI_snd, pA_row, pA_snd, pL_fst, pL_row, pB_fst, pB_row, upd_at, ↓reduceIte, Int.reduceToNat, Nat.reduceEqDiff, iI_lt, iI_le, iI_eq, iI_inb, iI_nat, iI_nz, e1, s_kind, bI_0, g0, g1, t0, c, c2, Int.toNat_natCast, and_self, not_true_eq_false, b_eta]
    rfl
theorem s_rfK {act k d e r : Nat} (ha : act ≤ 3) (hk : k ≤ 7) (he : e ≤ 40) (hr : r ≤ 1000) (X : Int32) {σ : gS} (e1 : σ.1 41 3 = iI r) : (fR_X3_runBody (d + 2)).2 σ (iI k) (iI act) X (iI e) = F_X3_runBody (fR_X3_runBody d).1 (fR_X3_runBody d).2 (lgX σ r (zBODIES.getD (4 * eff act k + act) (iI 0))) (zBODIES.getD (4 * eff act k + act) (iI 0)) (zABOVE.getD (eff act k) (iI 0)) X (iI (e + 1 : Nat)) := by
  show f_X3_runFrom_6 _ _ gN (iI act) X (iI e) (iI k) 0 σ = _
  rw [w_rf6 _ _ act k ha hk, s_rf _ _ ha (eff_le act k) he hr X e1]
  rfl
theorem s_ran {m : gS} {r : Nat} (hr : r ≤ 1000) (e : m.1 0 39 = iI r) (b : Int32) : f_X10_ran m b = some (lgM m r b) := by
  unfold f_X10_ran f_X10_ran_19 lgM
  by_cases c : 24 ≤ r
  · have c2 : 24 ≤ (r : Int) := by omega
    simp +decide (maxSteps := 2000000) (disch := omega) only [↓gl_p, ↓bs_p, iI_lit, iI_neg, iI_add, iI_sub, iI_mul, gk_p, bs_p, bz0, bz1, pI_row, pI_snd, pA_row, pA_snd, pL_fst, pL_row, pB_fst, pB_row, upd_at, ↓reduceIte, Int.reduceToNat, Nat.reduceEqDiff, iI_lt, iI_le, iI_eq, iI_inb, iI_nat, iI_nz, e, c, c2, Int.toNat_natCast]
    rfl
  · have c2 : ¬ 24 ≤ (r : Int) := by omega
    simp +decide (maxSteps := 2000000) (disch := omega) only [↓gl_p, ↓bs_p, iI_lit, iI_neg, iI_add, iI_sub, iI_mul, gk_p, bs_p, bz0, bz1, pI_row, pI_snd, pA_row, pA_snd, pL_fst, pL_row, pB_fst, pB_row, upd_at, ↓reduceIte, Int.reduceToNat, Nat.reduceEqDiff, iI_lt, iI_le, iI_eq, iI_inb, iI_nat, iI_nz, e, c, c2, Int.toNat_natCast]
    rfl
theorem aJ_lg {x0 m0 : gS} {b own r : Nat} {x m : gS} (h : aJ x0 m0 b own r x m) (v : Int32) : aJ x0 m0 b own (r + 1) (lgX x r v) (lgM m r v) := by
  obtain ⟨h1, h2, h3, h4, h5, h6, h7, h8, h9, h10, h11, h12⟩ := h
  unfold lgX lgM
  by_cases c : 24 ≤ r
  · rw [if_pos c, if_pos c]
    refine ⟨rfl, rfl, fun i i1 i2 => h3 i (by omega) i2, h4, h5, h6, fun c d1 d2 => ?_, h8, h9, fun c d1 d2 => ?_, fun j hj => ?_, h12⟩
    · rw [pI_off d1]; exact h7 c d1 d2
    · rw [pI_off d1]; exact h10 c d1 d2
    · rw [pI_row, if_pos rfl, upd_ne hj]; exact h11 j hj
  · rw [if_neg c, if_neg c]
    refine ⟨rfl, rfl, fun i i1 i2 => ?_, h4, h5, h6, fun c d1 d2 => ?_, h8, h9, fun c d1 d2 => ?_, fun j hj => ?_, h12⟩
    · show upd (m.1 23) r v i = upd (x.1 43) r v i
      rw [upd_at, upd_at]
      by_cases c3 : i = r
      · rw [if_pos c3, if_pos c3]
      · rw [if_neg c3, if_neg c3]; exact h3 i (by omega) i2
    · rw [pI_off d1, pI_off d2]; exact h7 c d1 d2
    · rw [pI_off d1, pI_off d2]; exact h10 c d1 d2
    · rw [pI_row, if_pos rfl, upd_ne hj]; exact h11 j hj
/-- the kind that the class reads in an act is the key's own -/
theorem aJ_kind {x0 m0 : gS} {b own r : Nat} {x m : gS} (h : aJ x0 m0 b own r x m) (hb : b < 50) : f_X3_kindOf x (x.1 41 4) = some (iI own) := by
  obtain ⟨_, _, _, h4, h5, _, _, ⟨h8, nb, hnb, e7, hbn⟩, _⟩ := h
  have c1 : 0 ≤ (b : Int) ∧ (b : Int) < nb := by omega
  unfold f_X3_kindOf
  rw [h4]
  simp +decide (maxSteps := 2000000) (disch := omega) only [↓gl_p, ↓bs_p, iI_lit, iI_neg, iI_add, iI_sub, iI_mul, gk_p, bs_p, bz0, bz1, pI_row, pI_snd, pA_row, pA_snd, pL_fst, pL_row, pB_fst, pB_row, upd_at, ↓reduceIte, Int.reduceToNat, Nat.reduceEqDiff, iI_lt, iI_le, iI_eq, iI_inb, iI_nat, iI_nz, s_key (σ := x) hnb (h8.trans e7), bI_0, c1, not_true_eq_false, and_self, Int.toNat_natCast, h5]
def refA : Nat → Nat → gS → Int32 → Int32 → Int32 → Option (Int32 × gS)
  | 0 => fR_X10_turnsBy
  | 1 => fR_X10_seesBy
  | 2 => fR_X10_fearsBy
  | _ => fR_X10_tells
def aS (x0 m0 : gS) (b own act k D R : Nat) : Prop := ∀ (d d2 e r : Nat) (x m : gS) (X : Int32), 2 * D ≤ d → D ≤ d2 → e + D ≤ 40 → r + R ≤ 1000 → aJ x0 m0 b own r x m → ∃ (v : Int32) (x2 m2 : gS) (r2 : Nat), (fR_X3_runBody d).2 x (iI k) (iI act) X (iI e) = some (v, x2) ∧ refA act d2 m (iI b) (iI k) X = some (v, m2) ∧ aJ x0 m0 b own r2 x2 m2 ∧ r2 ≤ r + R
theorem aS_le {x0 m0 : gS} {b own act k D R D2 R2 : Nat} (h : aS x0 m0 b own act k D R) (h1 : D ≤ D2) (h2 : R ≤ R2) : aS x0 m0 b own act k D2 R2 := by
  intro d d2 e r x m X q1 q2 q3 q4 q5
  obtain ⟨v, x2, m2, r2, w1, w2, w3, w4⟩ := h d d2 e r x m X (by omega) (by omega) (by omega) (by omega) q5
  exact ⟨v, x2, m2, r2, w1, w2, w3, by omega⟩
/-- a kind that has no act of its own -/
theorem aS_up {x0 m0 : gS} {b own act k k2 D R : Nat} (ha : act ≤ 3) (hk : k ≤ 7) (hk2 : k2 ≤ 7) (he : eff act k = eff act k2) (hr : ∀ (d : Nat) (m : gS) (X : Int32), refA act (d + 1) m (iI b) (iI k) X = refA act d m (iI b) (iI k2) X) (hD : 1 ≤ D) (h : aS x0 m0 b own act k2 D R) : aS x0 m0 b own act k (D + 1) R := by
  intro d d2 e r x m X q1 q2 q3 q4 q5
  obtain ⟨d3, rfl⟩ : ∃ d3, d2 = d3 + 1 := ⟨d2 - 1, by omega⟩
  obtain ⟨d4, rfl⟩ : ∃ d4, d = d4 + 2 := ⟨d - 2, by omega⟩
  obtain ⟨v, x2, m2, r2, w1, w2, w3, w4⟩ := h (d4 + 2) d3 e r x m X (by omega) (by omega) (by omega) (by omega) q5
  refine ⟨v, x2, m2, r2, ?_, (hr d3 m X).trans w2, w3, w4⟩
  rw [s_rfK ha hk2 (by omega) (by omega) X q5.1] at w1
  rw [s_rfK ha hk (by omega) (by omega) X q5.1, he]
  exact w1
theorem a_0_0 {x0 m0 : gS} {b own : Nat} (hb : b < 50) : aS x0 m0 b own 0 0 1 1 := by
  intro d d2 e r x m X q1 q2 q3 q4 q5
  obtain ⟨d3, rfl⟩ : ∃ d3, d2 = d3 + 1 := ⟨d2 - 1, by omega⟩
  obtain ⟨d4, rfl⟩ : ∃ d4, d = d4 + 2 := ⟨d - 2, by omega⟩
  rw [s_rfK (by decide) (by decide) (by omega) (by omega) X q5.1]
  have q6 := aJ_lg q5 (iI 1)
  have er := s_ran (by omega : r ≤ 1000) q5.2.1 (iI 1)
  rw [show (zBODIES.getD (4 * eff 0 0 + 0) (iI 0)) = iI 1 from rfl, show refA 0 (d3 + 1) = F_X10_turnsBy (fR_X10_turnsBy d3) from rfl]
  generalize lgX x r (iI 1) = x1 at q6
  generalize lgM m r (iI 1) = m1 at q6 er
  obtain ⟨j1, j2, j3, j4, j5, j6, j7⟩ := id q6
  unfold F_X3_runBody F_X10_turnsBy
  rw [aJ_kind q6 hb]
  simp +decide (maxSteps := 2000000) (disch := omega) only [↓gl_p, ↓bs_p, iI_lit, iI_neg, iI_add, iI_sub, iI_mul, gk_p, bs_p, bz0, bz1, pI_row, pI_snd, pA_row, pA_snd, pL_fst, pL_row, pB_fst, pB_row, upd_at, ↓reduceIte, Int.reduceToNat, Nat.reduceEqDiff, iI_lt, iI_le, iI_eq, iI_inb, iI_nat, iI_nz, er, j4, j5, Int.toNat_natCast]
  exact ⟨_, _, _, r + 1, rfl, rfl, q6, by omega⟩
theorem a_0_1 {x0 m0 : gS} {b own : Nat} (hb : b < 50) (h0 : aS x0 m0 b own 0 0 1 1) : aS x0 m0 b own 0 1 2 2 := by
  intro d d2 e r x m X q1 q2 q3 q4 q5
  obtain ⟨d3, rfl⟩ : ∃ d3, d2 = d3 + 1 := ⟨d2 - 1, by omega⟩
  obtain ⟨d4, rfl⟩ : ∃ d4, d = d4 + 2 := ⟨d - 2, by omega⟩
  rw [s_rfK (by decide) (by decide) (by omega) (by omega) X q5.1]
  have q6 := aJ_lg q5 (iI 20)
  have er := s_ran (by omega : r ≤ 1000) q5.2.1 (iI 20)
  rw [show zABOVE.getD (eff 0 1) (iI 0) = iI 0 from rfl, show (zBODIES.getD (4 * eff 0 1 + 0) (iI 0)) = iI 20 from rfl, show refA 0 (d3 + 1) = F_X10_turnsBy (fR_X10_turnsBy d3) from rfl]
  generalize lgX x r (iI 20) = x1 at q6
  generalize lgM m r (iI 20) = m1 at q6 er
  obtain ⟨j1, j2, j3, j4, j5, j6, j7⟩ := id q6
  unfold F_X3_runBody F_X10_turnsBy
  rw [aJ_kind q6 hb]
  obtain ⟨v0, y0, n0, r0, w0, u0, t0, s0⟩ := h0 d4 d3 (e + 1) (r + 1) x1 m1 X (by omega) (by omega) (by omega) (by omega) q6
  have w02 := w0
  have u02 := u0
  simp +decide (maxSteps := 2000000) (disch := omega) only [↓gl_p, ↓bs_p, iI_lit, iI_neg, iI_add, iI_sub, iI_mul, gk_p, bs_p, bz0, bz1, pI_row, pI_snd, pA_row, pA_snd, pL_fst, pL_row, pB_fst, pB_row, upd_at, ↓reduceIte, Int.reduceToNat, Nat.reduceEqDiff, iI_lt, iI_le, iI_eq, iI_inb, iI_nat, iI_nz, er, j4, j5, j6, Int.toNat_natCast, show (((e + 1 : Nat) : Int)) = (e : Int) + 1 from rfl, show (fR_X3_runBody d4).2 x1 (iI 0) (iI 0) X (iI ((e : Int) + 1)) = _ from w0, show fR_X10_turnsBy d3 m1 (iI b) (iI 0) X = _ from u0]
  exact ⟨_, _, _, r0, rfl, rfl, t0, by omega⟩
theorem a_0_6 {x0 m0 : gS} {b own : Nat} (hb : b < 50) (h0 : aS x0 m0 b own 0 0 1 1) : aS x0 m0 b own 0 6 2 2 := by
  intro d d2 e r x m X q1 q2 q3 q4 q5
  obtain ⟨d3, rfl⟩ : ∃ d3, d2 = d3 + 1 := ⟨d2 - 1, by omega⟩
  obtain ⟨d4, rfl⟩ : ∃ d4, d = d4 + 2 := ⟨d - 2, by omega⟩
  rw [s_rfK (by decide) (by decide) (by omega) (by omega) X q5.1]
  have q6 := aJ_lg q5 (iI 70)
  have er := s_ran (by omega : r ≤ 1000) q5.2.1 (iI 70)
  rw [show zABOVE.getD (eff 0 6) (iI 0) = iI 0 from rfl, show (zBODIES.getD (4 * eff 0 6 + 0) (iI 0)) = iI 70 from rfl, show refA 0 (d3 + 1) = F_X10_turnsBy (fR_X10_turnsBy d3) from rfl]
  generalize lgX x r (iI 70) = x1 at q6
  generalize lgM m r (iI 70) = m1 at q6 er
  obtain ⟨j1, j2, j3, j4, j5, j6, j7⟩ := id q6
  unfold F_X3_runBody F_X10_turnsBy
  rw [aJ_kind q6 hb]
  obtain ⟨v0, y0, n0, r0, w0, u0, t0, s0⟩ := h0 d4 d3 (e + 1) (r + 1) x1 m1 X (by omega) (by omega) (by omega) (by omega) q6
  have w02 := w0
  have u02 := u0
  simp +decide (maxSteps := 2000000) (disch := omega) only [↓gl_p, ↓bs_p, iI_lit, iI_neg, iI_add, iI_sub, iI_mul, gk_p, bs_p, bz0, bz1, pI_row, pI_snd, pA_row, pA_snd, pL_fst, pL_row, pB_fst, pB_row, upd_at, ↓reduceIte, Int.reduceToNat, Nat.reduceEqDiff, iI_lt, iI_le, iI_eq, iI_inb, iI_nat, iI_nz, er, j4, j5, j6, Int.toNat_natCast, show (((e + 1 : Nat) : Int)) = (e : Int) + 1 from rfl, show (fR_X3_runBody d4).2 x1 (iI 0) (iI 0) X (iI ((e : Int) + 1)) = _ from w0, show fR_X10_turnsBy d3 m1 (iI b) (iI 0) X = _ from u0]
  exact ⟨_, _, _, r0, rfl, rfl, t0, by omega⟩
theorem a_2_0 {x0 m0 : gS} {b own : Nat} (hb : b < 50) : aS x0 m0 b own 2 0 1 1 := by
  intro d d2 e r x m X q1 q2 q3 q4 q5
  obtain ⟨d3, rfl⟩ : ∃ d3, d2 = d3 + 1 := ⟨d2 - 1, by omega⟩
  obtain ⟨d4, rfl⟩ : ∃ d4, d = d4 + 2 := ⟨d - 2, by omega⟩
  rw [s_rfK (by decide) (by decide) (by omega) (by omega) X q5.1]
  have q6 := aJ_lg q5 (iI 11)
  have er := s_ran (by omega : r ≤ 1000) q5.2.1 (iI 11)
  rw [show (zBODIES.getD (4 * eff 2 0 + 2) (iI 0)) = iI 11 from rfl, show refA 2 (d3 + 1) = F_X10_fearsBy (fR_X10_fearsBy d3) from rfl]
  generalize lgX x r (iI 11) = x1 at q6
  generalize lgM m r (iI 11) = m1 at q6 er
  obtain ⟨j1, j2, j3, j4, j5, j6, j7⟩ := id q6
  unfold F_X3_runBody F_X10_fearsBy
  rw [aJ_kind q6 hb]
  simp +decide (maxSteps := 2000000) (disch := omega) only [↓gl_p, ↓bs_p, iI_lit, iI_neg, iI_add, iI_sub, iI_mul, gk_p, bs_p, bz0, bz1, pI_row, pI_snd, pA_row, pA_snd, pL_fst, pL_row, pB_fst, pB_row, upd_at, ↓reduceIte, Int.reduceToNat, Nat.reduceEqDiff, iI_lt, iI_le, iI_eq, iI_inb, iI_nat, iI_nz, er, j4, j5, Int.toNat_natCast]
  exact ⟨_, _, _, r + 1, rfl, rfl, q6, by omega⟩
theorem a_2_3 {x0 m0 : gS} {b own : Nat} (hb : b < 50) (h0 : aS x0 m0 b own 2 2 2 1) : aS x0 m0 b own 2 3 3 2 := by
  intro d d2 e r x m X q1 q2 q3 q4 q5
  obtain ⟨d3, rfl⟩ : ∃ d3, d2 = d3 + 1 := ⟨d2 - 1, by omega⟩
  obtain ⟨d4, rfl⟩ : ∃ d4, d = d4 + 2 := ⟨d - 2, by omega⟩
  rw [s_rfK (by decide) (by decide) (by omega) (by omega) X q5.1]
  have q6 := aJ_lg q5 (iI 40)
  have er := s_ran (by omega : r ≤ 1000) q5.2.1 (iI 40)
  rw [show zABOVE.getD (eff 2 3) (iI 0) = iI 2 from rfl, show (zBODIES.getD (4 * eff 2 3 + 2) (iI 0)) = iI 40 from rfl, show refA 2 (d3 + 1) = F_X10_fearsBy (fR_X10_fearsBy d3) from rfl]
  generalize lgX x r (iI 40) = x1 at q6
  generalize lgM m r (iI 40) = m1 at q6 er
  obtain ⟨j1, j2, j3, j4, j5, j6, j7⟩ := id q6
  unfold F_X3_runBody F_X10_fearsBy
  rw [aJ_kind q6 hb]
  obtain ⟨v0, y0, n0, r0, w0, u0, t0, s0⟩ := h0 d4 d3 (e + 1) (r + 1) x1 m1 X (by omega) (by omega) (by omega) (by omega) q6
  have w02 := w0
  have u02 := u0
  simp +decide (maxSteps := 2000000) (disch := omega) only [↓gl_p, ↓bs_p, iI_lit, iI_neg, iI_add, iI_sub, iI_mul, gk_p, bs_p, bz0, bz1, pI_row, pI_snd, pA_row, pA_snd, pL_fst, pL_row, pB_fst, pB_row, upd_at, ↓reduceIte, Int.reduceToNat, Nat.reduceEqDiff, iI_lt, iI_le, iI_eq, iI_inb, iI_nat, iI_nz, er, j4, j5, j6, Int.toNat_natCast, show (((e + 1 : Nat) : Int)) = (e : Int) + 1 from rfl, show (fR_X3_runBody d4).2 x1 (iI 2) (iI 2) X (iI ((e : Int) + 1)) = _ from w0, show fR_X10_fearsBy d3 m1 (iI b) (iI 2) X = _ from u0]
  exact ⟨_, _, _, r0, rfl, rfl, t0, by omega⟩
theorem a_2_4 {x0 m0 : gS} {b own : Nat} (hb : b < 50) (h0 : aS x0 m0 b own 2 1 2 1) (h1 : aS x0 m0 b own 0 own 4 2) : aS x0 m0 b own 2 4 5 4 := by
  intro d d2 e r x m X q1 q2 q3 q4 q5
  obtain ⟨d3, rfl⟩ : ∃ d3, d2 = d3 + 1 := ⟨d2 - 1, by omega⟩
  obtain ⟨d4, rfl⟩ : ∃ d4, d = d4 + 2 := ⟨d - 2, by omega⟩
  rw [s_rfK (by decide) (by decide) (by omega) (by omega) X q5.1]
  have q6 := aJ_lg q5 (iI 50)
  have er := s_ran (by omega : r ≤ 1000) q5.2.1 (iI 50)
  rw [show zABOVE.getD (eff 2 4) (iI 0) = iI 1 from rfl, show (zBODIES.getD (4 * eff 2 4 + 2) (iI 0)) = iI 50 from rfl, show refA 2 (d3 + 1) = F_X10_fearsBy (fR_X10_fearsBy d3) from rfl]
  generalize lgX x r (iI 50) = x1 at q6
  generalize lgM m r (iI 50) = m1 at q6 er
  obtain ⟨j1, j2, j3, j4, j5, j6, j7⟩ := id q6
  unfold F_X3_runBody F_X10_fearsBy
  rw [aJ_kind q6 hb]
  obtain ⟨v0, y0, n0, r0, w0, u0, t0, s0⟩ := h0 d4 d3 (e + 1) (r + 1) x1 m1 X (by omega) (by omega) (by omega) (by omega) q6
  obtain ⟨v1, y1, n1, r1, w1, u1, t1, s1⟩ := h1 d4 64 (e + 1) (r0) y0 n0 (iI 2) (by omega) (by omega) (by omega) (by omega) t0
  have w02 := w0
  have u02 := u0
  have w12 := w1
  have u12 := u1
  simp +decide (maxSteps := 2000000) (disch := omega) only [↓gl_p, ↓bs_p, iI_lit, iI_neg, iI_add, iI_sub, iI_mul, gk_p, bs_p, bz0, bz1, pI_row, pI_snd, pA_row, pA_snd, pL_fst, pL_row, pB_fst, pB_row, upd_at, ↓reduceIte, Int.reduceToNat, Nat.reduceEqDiff, iI_lt, iI_le, iI_eq, iI_inb, iI_nat, iI_nz, er, j4, j5, j6, Int.toNat_natCast, show (((e + 1 : Nat) : Int)) = (e : Int) + 1 from rfl, t0.2.2.2.2.2.1, t0.2.2.2.2.1, show (fR_X3_runBody d4).2 x1 (iI 1) (iI 2) X (iI ((e : Int) + 1)) = _ from w0, show fR_X10_fearsBy d3 m1 (iI b) (iI 1) X = _ from u0, show (fR_X3_runBody d4).2 y0 (iI own) (iI 0) (iI 2) (iI ((e : Int) + 1)) = _ from w1, show f_X10_turnsBy n0 (iI b) (iI own) (iI 2) = _ from u1]
  exact ⟨_, _, _, r1, rfl, rfl, t1, by omega⟩
theorem a_1_0 {x0 m0 : gS} {b own : Nat} (hb : b < 50) (h0 : aS x0 m0 b own 0 own 4 2) : aS x0 m0 b own 1 0 5 3 := by
  intro d d2 e r x m X q1 q2 q3 q4 q5
  obtain ⟨d3, rfl⟩ : ∃ d3, d2 = d3 + 1 := ⟨d2 - 1, by omega⟩
  obtain ⟨d4, rfl⟩ : ∃ d4, d = d4 + 2 := ⟨d - 2, by omega⟩
  rw [s_rfK (by decide) (by decide) (by omega) (by omega) X q5.1]
  have q6 := aJ_lg q5 (iI 10)
  have er := s_ran (by omega : r ≤ 1000) q5.2.1 (iI 10)
  rw [show (zBODIES.getD (4 * eff 1 0 + 1) (iI 0)) = iI 10 from rfl, show refA 1 (d3 + 1) = F_X10_seesBy (fR_X10_seesBy d3) from rfl]
  generalize lgX x r (iI 10) = x1 at q6
  generalize lgM m r (iI 10) = m1 at q6 er
  obtain ⟨j1, j2, j3, j4, j5, j6, j7⟩ := id q6
  unfold F_X3_runBody F_X10_seesBy
  rw [aJ_kind q6 hb]
  obtain ⟨v0, y0, n0, r0, w0, u0, t0, s0⟩ := h0 d4 64 (e + 1) (r + 1) x1 m1 X (by omega) (by omega) (by omega) (by omega) q6
  have w02 := w0
  have u02 := u0
  simp +decide (maxSteps := 2000000) (disch := omega) only [↓gl_p, ↓bs_p, iI_lit, iI_neg, iI_add, iI_sub, iI_mul, gk_p, bs_p, bz0, bz1, pI_row, pI_snd, pA_row, pA_snd, pL_fst, pL_row, pB_fst, pB_row, upd_at, ↓reduceIte, Int.reduceToNat, Nat.reduceEqDiff, iI_lt, iI_le, iI_eq, iI_inb, iI_nat, iI_nz, er, j4, j5, j6, Int.toNat_natCast, show (((e + 1 : Nat) : Int)) = (e : Int) + 1 from rfl, show (fR_X3_runBody d4).2 x1 (iI own) (iI 0) X (iI ((e : Int) + 1)) = _ from w0, show f_X10_turnsBy m1 (iI b) (iI own) X = _ from u0]
  exact ⟨_, _, _, r0, rfl, rfl, t0, by omega⟩
theorem a_1_2 {x0 m0 : gS} {b own : Nat} (hb : b < 50) (h0 : aS x0 m0 b own 1 0 5 3) : aS x0 m0 b own 1 2 6 4 := by
  intro d d2 e r x m X q1 q2 q3 q4 q5
  obtain ⟨d3, rfl⟩ : ∃ d3, d2 = d3 + 1 := ⟨d2 - 1, by omega⟩
  obtain ⟨d4, rfl⟩ : ∃ d4, d = d4 + 2 := ⟨d - 2, by omega⟩
  rw [s_rfK (by decide) (by decide) (by omega) (by omega) X q5.1]
  have q6 := aJ_lg q5 (iI 30)
  have er := s_ran (by omega : r ≤ 1000) q5.2.1 (iI 30)
  rw [show zABOVE.getD (eff 1 2) (iI 0) = iI 0 from rfl, show (zBODIES.getD (4 * eff 1 2 + 1) (iI 0)) = iI 30 from rfl, show refA 1 (d3 + 1) = F_X10_seesBy (fR_X10_seesBy d3) from rfl]
  generalize lgX x r (iI 30) = x1 at q6
  generalize lgM m r (iI 30) = m1 at q6 er
  obtain ⟨j1, j2, j3, j4, j5, j6, j7⟩ := id q6
  unfold F_X3_runBody F_X10_seesBy
  rw [aJ_kind q6 hb]
  obtain ⟨v0, y0, n0, r0, w0, u0, t0, s0⟩ := h0 d4 d3 (e + 1) (r + 1) x1 m1 X (by omega) (by omega) (by omega) (by omega) q6
  have w02 := w0
  have u02 := u0
  simp +decide (maxSteps := 2000000) (disch := omega) only [↓gl_p, ↓bs_p, iI_lit, iI_neg, iI_add, iI_sub, iI_mul, gk_p, bs_p, bz0, bz1, pI_row, pI_snd, pA_row, pA_snd, pL_fst, pL_row, pB_fst, pB_row, upd_at, ↓reduceIte, Int.reduceToNat, Nat.reduceEqDiff, iI_lt, iI_le, iI_eq, iI_inb, iI_nat, iI_nz, er, j4, j5, j6, Int.toNat_natCast, show (((e + 1 : Nat) : Int)) = (e : Int) + 1 from rfl, show (fR_X3_runBody d4).2 x1 (iI 0) (iI 1) X (iI ((e : Int) + 1)) = _ from w0, show fR_X10_seesBy d3 m1 (iI b) (iI 0) X = _ from u0]
  exact ⟨_, _, _, r0, rfl, rfl, t0, by omega⟩
theorem a_1_3 {x0 m0 : gS} {b own : Nat} (hb : b < 50) (h0 : aS x0 m0 b own 1 2 6 4) : aS x0 m0 b own 1 3 7 5 := by
  intro d d2 e r x m X q1 q2 q3 q4 q5
  obtain ⟨d3, rfl⟩ : ∃ d3, d2 = d3 + 1 := ⟨d2 - 1, by omega⟩
  obtain ⟨d4, rfl⟩ : ∃ d4, d = d4 + 2 := ⟨d - 2, by omega⟩
  rw [s_rfK (by decide) (by decide) (by omega) (by omega) X q5.1]
  have q6 := aJ_lg q5 (iI 41)
  have er := s_ran (by omega : r ≤ 1000) q5.2.1 (iI 41)
  rw [show zABOVE.getD (eff 1 3) (iI 0) = iI 2 from rfl, show (zBODIES.getD (4 * eff 1 3 + 1) (iI 0)) = iI 41 from rfl, show refA 1 (d3 + 1) = F_X10_seesBy (fR_X10_seesBy d3) from rfl]
  generalize lgX x r (iI 41) = x1 at q6
  generalize lgM m r (iI 41) = m1 at q6 er
  obtain ⟨j1, j2, j3, j4, j5, j6, j7⟩ := id q6
  unfold F_X3_runBody F_X10_seesBy
  rw [aJ_kind q6 hb]
  obtain ⟨v0, y0, n0, r0, w0, u0, t0, s0⟩ := h0 d4 d3 (e + 1) (r + 1) x1 m1 (X + iI 1) (by omega) (by omega) (by omega) (by omega) q6
  have w02 := w0
  have u02 := u0
  simp +decide (maxSteps := 2000000) (disch := omega) only [↓gl_p, ↓bs_p, iI_lit, iI_neg, iI_add, iI_sub, iI_mul, gk_p, bs_p, bz0, bz1, pI_row, pI_snd, pA_row, pA_snd, pL_fst, pL_row, pB_fst, pB_row, upd_at, ↓reduceIte, Int.reduceToNat, Nat.reduceEqDiff, iI_lt, iI_le, iI_eq, iI_inb, iI_nat, iI_nz, er, j4, j5, j6, Int.toNat_natCast, show (((e + 1 : Nat) : Int)) = (e : Int) + 1 from rfl, show (fR_X3_runBody d4).2 x1 (iI 2) (iI 1) (X + iI 1) (iI ((e : Int) + 1)) = _ from w0, show fR_X10_seesBy d3 m1 (iI b) (iI 2) (X + iI 1) = _ from u0]
  exact ⟨_, _, _, r0, rfl, rfl, t0, by omega⟩
theorem a_1_7 {x0 m0 : gS} {b own : Nat} (hb : b < 50) (h0 : aS x0 m0 b own 1 4 7 3) (h1 : aS x0 m0 b own 2 own 6 4) : aS x0 m0 b own 1 7 8 8 := by
  intro d d2 e r x m X q1 q2 q3 q4 q5
  obtain ⟨d3, rfl⟩ : ∃ d3, d2 = d3 + 1 := ⟨d2 - 1, by omega⟩
  obtain ⟨d4, rfl⟩ : ∃ d4, d = d4 + 2 := ⟨d - 2, by omega⟩
  rw [s_rfK (by decide) (by decide) (by omega) (by omega) X q5.1]
  have q6 := aJ_lg q5 (iI 80)
  have er := s_ran (by omega : r ≤ 1000) q5.2.1 (iI 80)
  rw [show zABOVE.getD (eff 1 7) (iI 0) = iI 4 from rfl, show (zBODIES.getD (4 * eff 1 7 + 1) (iI 0)) = iI 80 from rfl, show refA 1 (d3 + 1) = F_X10_seesBy (fR_X10_seesBy d3) from rfl]
  generalize lgX x r (iI 80) = x1 at q6
  generalize lgM m r (iI 80) = m1 at q6 er
  obtain ⟨j1, j2, j3, j4, j5, j6, j7⟩ := id q6
  unfold F_X3_runBody F_X10_seesBy
  rw [aJ_kind q6 hb]
  obtain ⟨v0, y0, n0, r0, w0, u0, t0, s0⟩ := h0 d4 d3 (e + 1) (r + 1) x1 m1 X (by omega) (by omega) (by omega) (by omega) q6
  obtain ⟨v1, y1, n1, r1, w1, u1, t1, s1⟩ := h1 d4 64 (e + 1) (r0) y0 n0 (iI 2) (by omega) (by omega) (by omega) (by omega) t0
  have w02 := w0
  have u02 := u0
  have w12 := w1
  have u12 := u1
  simp +decide (maxSteps := 2000000) (disch := omega) only [↓gl_p, ↓bs_p, iI_lit, iI_neg, iI_add, iI_sub, iI_mul, gk_p, bs_p, bz0, bz1, pI_row, pI_snd, pA_row, pA_snd, pL_fst, pL_row, pB_fst, pB_row, upd_at, ↓reduceIte, Int.reduceToNat, Nat.reduceEqDiff, iI_lt, iI_le, iI_eq, iI_inb, iI_nat, iI_nz, er, j4, j5, j6, Int.toNat_natCast, show (((e + 1 : Nat) : Int)) = (e : Int) + 1 from rfl, t0.2.2.2.2.2.1, t0.2.2.2.2.1, show (fR_X3_runBody d4).2 x1 (iI 4) (iI 1) X (iI ((e : Int) + 1)) = _ from w0, show fR_X10_seesBy d3 m1 (iI b) (iI 4) X = _ from u0, show (fR_X3_runBody d4).2 y0 (iI own) (iI 2) (iI 2) (iI ((e : Int) + 1)) = _ from w1, show f_X10_fearsBy n0 (iI b) (iI own) (iI 2) = _ from u1]
  exact ⟨_, _, _, r1, rfl, rfl, t1, by omega⟩
theorem a_3_0 {x0 m0 : gS} {b own : Nat} (hb : b < 50) (h0 : aS x0 m0 b own 1 own 8 8) (h1 : aS x0 m0 b own 2 own 6 4) : aS x0 m0 b own 3 0 9 13 := by
  intro d d2 e r x m X q1 q2 q3 q4 q5
  obtain ⟨d3, rfl⟩ : ∃ d3, d2 = d3 + 1 := ⟨d2 - 1, by omega⟩
  obtain ⟨d4, rfl⟩ : ∃ d4, d = d4 + 2 := ⟨d - 2, by omega⟩
  rw [s_rfK (by decide) (by decide) (by omega) (by omega) X q5.1]
  have q6 := aJ_lg q5 (iI 2)
  have er := s_ran (by omega : r ≤ 1000) q5.2.1 (iI 2)
  rw [show (zBODIES.getD (4 * eff 3 0 + 3) (iI 0)) = iI 2 from rfl, show refA 3 (d3 + 1) = F_X10_tells (fR_X10_tells d3) from rfl]
  generalize lgX x r (iI 2) = x1 at q6
  generalize lgM m r (iI 2) = m1 at q6 er
  obtain ⟨j1, j2, j3, j4, j5, j6, j7⟩ := id q6
  unfold F_X3_runBody F_X10_tells
  rw [aJ_kind q6 hb]
  obtain ⟨v0, y0, n0, r0, w0, u0, t0, s0⟩ := h0 d4 64 (e + 1) (r + 1) x1 m1 X (by omega) (by omega) (by omega) (by omega) q6
  obtain ⟨v1, y1, n1, r1, w1, u1, t1, s1⟩ := h1 d4 64 (e + 1) (r0) y0 n0 (iI 1) (by omega) (by omega) (by omega) (by omega) t0
  have w02 := w0
  have u02 := u0
  have w12 := w1
  have u12 := u1
  simp +decide (maxSteps := 2000000) (disch := omega) only [↓gl_p, ↓bs_p, iI_lit, iI_neg, iI_add, iI_sub, iI_mul, gk_p, bs_p, bz0, bz1, pI_row, pI_snd, pA_row, pA_snd, pL_fst, pL_row, pB_fst, pB_row, upd_at, ↓reduceIte, Int.reduceToNat, Nat.reduceEqDiff, iI_lt, iI_le, iI_eq, iI_inb, iI_nat, iI_nz, er, j4, j5, j6, Int.toNat_natCast, show (((e + 1 : Nat) : Int)) = (e : Int) + 1 from rfl, t0.2.2.2.2.2.1, t0.2.2.2.2.1, show (fR_X3_runBody d4).2 x1 (iI own) (iI 1) X (iI ((e : Int) + 1)) = _ from w0, show f_X10_seesBy m1 (iI b) (iI own) X = _ from u0, show (fR_X3_runBody d4).2 y0 (iI own) (iI 2) (iI 1) (iI ((e : Int) + 1)) = _ from w1, show f_X10_fearsBy n0 (iI b) (iI own) (iI 1) = _ from u1]
  exact ⟨_, _, _, r1, rfl, rfl, t1, by omega⟩
theorem a_3_5 {x0 m0 : gS} {b own : Nat} (hb : b < 50) (h0 : aS x0 m0 b own 3 3 11 13) : aS x0 m0 b own 3 5 12 14 := by
  intro d d2 e r x m X q1 q2 q3 q4 q5
  obtain ⟨d3, rfl⟩ : ∃ d3, d2 = d3 + 1 := ⟨d2 - 1, by omega⟩
  obtain ⟨d4, rfl⟩ : ∃ d4, d = d4 + 2 := ⟨d - 2, by omega⟩
  rw [s_rfK (by decide) (by decide) (by omega) (by omega) X q5.1]
  have q6 := aJ_lg q5 (iI 60)
  have er := s_ran (by omega : r ≤ 1000) q5.2.1 (iI 60)
  rw [show zABOVE.getD (eff 3 5) (iI 0) = iI 3 from rfl, show (zBODIES.getD (4 * eff 3 5 + 3) (iI 0)) = iI 60 from rfl, show refA 3 (d3 + 1) = F_X10_tells (fR_X10_tells d3) from rfl]
  generalize lgX x r (iI 60) = x1 at q6
  generalize lgM m r (iI 60) = m1 at q6 er
  obtain ⟨j1, j2, j3, j4, j5, j6, j7⟩ := id q6
  unfold F_X3_runBody F_X10_tells
  rw [aJ_kind q6 hb]
  obtain ⟨v0, y0, n0, r0, w0, u0, t0, s0⟩ := h0 d4 d3 (e + 1) (r + 1) x1 m1 X (by omega) (by omega) (by omega) (by omega) q6
  have w02 := w0
  have u02 := u0
  simp +decide (maxSteps := 2000000) (disch := omega) only [↓gl_p, ↓bs_p, iI_lit, iI_neg, iI_add, iI_sub, iI_mul, gk_p, bs_p, bz0, bz1, pI_row, pI_snd, pA_row, pA_snd, pL_fst, pL_row, pB_fst, pB_row, upd_at, ↓reduceIte, Int.reduceToNat, Nat.reduceEqDiff, iI_lt, iI_le, iI_eq, iI_inb, iI_nat, iI_nz, er, j4, j5, j6, Int.toNat_natCast, show (((e + 1 : Nat) : Int)) = (e : Int) + 1 from rfl, show (fR_X3_runBody d4).2 x1 (iI 3) (iI 3) X (iI ((e : Int) + 1)) = _ from w0, show fR_X10_tells d3 m1 (iI b) (iI 3) X = _ from u0]
  exact ⟨_, _, _, r0, rfl, rfl, t0, by omega⟩
theorem a_3_7 {x0 m0 : gS} {b own : Nat} (hb : b < 50) (h0 : aS x0 m0 b own 3 4 11 13) : aS x0 m0 b own 3 7 12 14 := by
  intro d d2 e r x m X q1 q2 q3 q4 q5
  obtain ⟨d3, rfl⟩ : ∃ d3, d2 = d3 + 1 := ⟨d2 - 1, by omega⟩
  obtain ⟨d4, rfl⟩ : ∃ d4, d = d4 + 2 := ⟨d - 2, by omega⟩
  rw [s_rfK (by decide) (by decide) (by omega) (by omega) X q5.1]
  have q6 := aJ_lg q5 (iI 81)
  have er := s_ran (by omega : r ≤ 1000) q5.2.1 (iI 81)
  rw [show zABOVE.getD (eff 3 7) (iI 0) = iI 4 from rfl, show (zBODIES.getD (4 * eff 3 7 + 3) (iI 0)) = iI 81 from rfl, show refA 3 (d3 + 1) = F_X10_tells (fR_X10_tells d3) from rfl]
  generalize lgX x r (iI 81) = x1 at q6
  generalize lgM m r (iI 81) = m1 at q6 er
  obtain ⟨j1, j2, j3, j4, j5, j6, j7⟩ := id q6
  unfold F_X3_runBody F_X10_tells
  rw [aJ_kind q6 hb]
  obtain ⟨v0, y0, n0, r0, w0, u0, t0, s0⟩ := h0 d4 d3 (e + 1) (r + 1) x1 m1 X (by omega) (by omega) (by omega) (by omega) q6
  have w02 := w0
  have u02 := u0
  simp +decide (maxSteps := 2000000) (disch := omega) only [↓gl_p, ↓bs_p, iI_lit, iI_neg, iI_add, iI_sub, iI_mul, gk_p, bs_p, bz0, bz1, pI_row, pI_snd, pA_row, pA_snd, pL_fst, pL_row, pB_fst, pB_row, upd_at, ↓reduceIte, Int.reduceToNat, Nat.reduceEqDiff, iI_lt, iI_le, iI_eq, iI_inb, iI_nat, iI_nz, er, j4, j5, j6, Int.toNat_natCast, show (((e + 1 : Nat) : Int)) = (e : Int) + 1 from rfl, show (fR_X3_runBody d4).2 x1 (iI 4) (iI 3) X (iI ((e : Int) + 1)) = _ from w0, show fR_X10_tells d3 m1 (iI b) (iI 4) X = _ from u0]
  exact ⟨_, _, _, r0, rfl, rfl, t0, by omega⟩
theorem a_turns {x0 m0 : gS} {b own : Nat} (hb : b < 50) (k : Nat) (hk : k ≤ 7) : aS x0 m0 b own 0 k 4 2 := by
  have h0 := aS_le (a_0_0 (x0 := x0) (m0 := m0) (own := own) hb) (Nat.le_refl 1) (by decide : 1 ≤ 2)
  have h1 := a_0_1 (x0 := x0) (m0 := m0) (own := own) hb (a_0_0 hb)
  have h6 := a_0_6 (x0 := x0) (m0 := m0) (own := own) hb (a_0_0 hb)
  have h2 := aS_up (act := 0) (k := 2) (k2 := 0) (by decide) (by decide) (by decide) rfl (fun d m X => b_eta _) (by decide) h0
  have h3 := aS_up (act := 0) (k := 3) (k2 := 2) (by decide) (by decide) (by decide) rfl (fun d m X => b_eta _) (by decide) h2
  have h4 := aS_up (act := 0) (k := 4) (k2 := 1) (by decide) (by decide) (by decide) rfl (fun d m X => b_eta _) (by decide) h1
  have h5 := aS_up (act := 0) (k := 5) (k2 := 3) (by decide) (by decide) (by decide) rfl (fun d m X => b_eta _) (by decide) h3
  have h7 := aS_up (act := 0) (k := 7) (k2 := 4) (by decide) (by decide) (by decide) rfl (fun d m X => b_eta _) (by decide) h4
  match k, hk with
  | 0, _ => exact aS_le h0 (by decide) (by decide)
  | 1, _ => exact aS_le h1 (by decide) (by decide)
  | 2, _ => exact aS_le h2 (by decide) (by decide)
  | 3, _ => exact aS_le h3 (by decide) (by decide)
  | 4, _ => exact aS_le h4 (by decide) (by decide)
  | 5, _ => exact aS_le h5 (by decide) (by decide)
  | 6, _ => exact aS_le h6 (by decide) (by decide)
  | 7, _ => exact aS_le h7 (by decide) (by decide)
  | n + 8, h => exact absurd h (by omega)
theorem a_fears {x0 m0 : gS} {b own : Nat} (hb : b < 50) (ho : own ≤ 7) (k : Nat) (hk : k ≤ 7) : aS x0 m0 b own 2 k 6 4 := by
  have h0 := a_2_0 (x0 := x0) (m0 := m0) (own := own) hb
  have h1 := aS_up (act := 2) (k := 1) (k2 := 0) (by decide) (by decide) (by decide) rfl (fun d m X => b_eta _) (by decide) h0
  have h2 := aS_up (act := 2) (k := 2) (k2 := 0) (by decide) (by decide) (by decide) rfl (fun d m X => b_eta _) (by decide) h0
  have h3 := a_2_3 hb h2
  have h4 := a_2_4 hb h1 (a_turns hb own ho)
  have h5 := aS_up (act := 2) (k := 5) (k2 := 3) (by decide) (by decide) (by decide) rfl (fun d m X => b_eta _) (by decide) h3
  have h6 := aS_up (act := 2) (k := 6) (k2 := 0) (by decide) (by decide) (by decide) rfl (fun d m X => b_eta _) (by decide) h0
  have h7 := aS_up (act := 2) (k := 7) (k2 := 4) (by decide) (by decide) (by decide) rfl (fun d m X => b_eta _) (by decide) h4
  match k, hk with
  | 0, _ => exact aS_le h0 (by decide) (by decide)
  | 1, _ => exact aS_le h1 (by decide) (by decide)
  | 2, _ => exact aS_le h2 (by decide) (by decide)
  | 3, _ => exact aS_le h3 (by decide) (by decide)
  | 4, _ => exact aS_le h4 (by decide) (by decide)
  | 5, _ => exact aS_le h5 (by decide) (by decide)
  | 6, _ => exact aS_le h6 (by decide) (by decide)
  | 7, _ => exact aS_le h7 (by decide) (by decide)
  | n + 8, h => exact absurd h (by omega)
theorem a_sees {x0 m0 : gS} {b own : Nat} (hb : b < 50) (ho : own ≤ 7) (k : Nat) (hk : k ≤ 7) : aS x0 m0 b own 1 k 8 8 := by
  have h0 := a_1_0 hb (a_turns (x0 := x0) (m0 := m0) (own := own) hb own ho)
  have h1 := aS_up (act := 1) (k := 1) (k2 := 0) (by decide) (by decide) (by decide) rfl (fun d m X => b_eta _) (by decide) h0
  have h2 := a_1_2 hb h0
  have h3 := a_1_3 hb h2
  have h4 := aS_up (act := 1) (k := 4) (k2 := 1) (by decide) (by decide) (by decide) rfl (fun d m X => b_eta _) (by decide) h1
  have h5 := aS_up (act := 1) (k := 5) (k2 := 3) (by decide) (by decide) (by decide) rfl (fun d m X => b_eta _) (by decide) h3
  have h6 := aS_up (act := 1) (k := 6) (k2 := 0) (by decide) (by decide) (by decide) rfl (fun d m X => b_eta _) (by decide) h0
  have h7 := a_1_7 hb h4 (a_fears hb ho own ho)
  match k, hk with
  | 0, _ => exact aS_le h0 (by decide) (by decide)
  | 1, _ => exact aS_le h1 (by decide) (by decide)
  | 2, _ => exact aS_le h2 (by decide) (by decide)
  | 3, _ => exact aS_le h3 (by decide) (by decide)
  | 4, _ => exact aS_le h4 (by decide) (by decide)
  | 5, _ => exact aS_le h5 (by decide) (by decide)
  | 6, _ => exact aS_le h6 (by decide) (by decide)
  | 7, _ => exact aS_le h7 (by decide) (by decide)
  | n + 8, h => exact absurd h (by omega)
theorem a_tells {x0 m0 : gS} {b own : Nat} (hb : b < 50) (ho : own ≤ 7) (k : Nat) (hk : k ≤ 7) : aS x0 m0 b own 3 k 12 14 := by
  have h0 := a_3_0 hb (a_sees (x0 := x0) (m0 := m0) (own := own) hb ho own ho) (a_fears hb ho own ho)
  have h1 := aS_up (act := 3) (k := 1) (k2 := 0) (by decide) (by decide) (by decide) rfl (fun d m X => b_eta _) (by decide) h0
  have h2 := aS_up (act := 3) (k := 2) (k2 := 0) (by decide) (by decide) (by decide) rfl (fun d m X => b_eta _) (by decide) h0
  have h3 := aS_up (act := 3) (k := 3) (k2 := 2) (by decide) (by decide) (by decide) rfl (fun d m X => b_eta _) (by decide) h2
  have h4 := aS_up (act := 3) (k := 4) (k2 := 1) (by decide) (by decide) (by decide) rfl (fun d m X => b_eta _) (by decide) h1
  have h5 := a_3_5 hb h3
  have h6 := aS_up (act := 3) (k := 6) (k2 := 0) (by decide) (by decide) (by decide) rfl (fun d m X => b_eta _) (by decide) h0
  have h7 := a_3_7 hb h4
  match k, hk with
  | 0, _ => exact aS_le h0 (by decide) (by decide)
  | 1, _ => exact aS_le h1 (by decide) (by decide)
  | 2, _ => exact aS_le h2 (by decide) (by decide)
  | 3, _ => exact aS_le h3 (by decide) (by decide)
  | 4, _ => exact aS_le h4 (by decide) (by decide)
  | 5, _ => exact aS_le h5 (by decide) (by decide)
  | 6, _ => exact aS_le h6 (by decide) (by decide)
  | 7, _ => exact aS_le h7 (by decide) (by decide)
  | n + 8, h => exact absurd h (by omega)
theorem a_all {x0 m0 : gS} {b own : Nat} (hb : b < 50) (ho : own ≤ 7) (a : Nat) (ha : a ≤ 3) : aS x0 m0 b own a own 12 14 := match a, ha with
  | 0, _ => aS_le (a_turns hb own ho) (by decide) (by decide)
  | 1, _ => aS_le (a_sees hb ho own ho) (by decide) (by decide)
  | 2, _ => aS_le (a_fears hb ho own ho) (by decide) (by decide)
  | 3, _ => a_tells hb ho own ho
  | n + 4, h => absurd h (by omega)
theorem refA_if (a : Nat) (ha : a ≤ 3) (σ : gS) (b k X : Int32) : (if (a : Int) = 0 then f_X10_turnsBy σ b k X else if (a : Int) = 1 then f_X10_seesBy σ b k X else if (a : Int) = 2 then f_X10_fearsBy σ b k X else f_X10_tells σ b k X) = refA a 64 σ b k X := match a, ha with
  | 0, _ => rfl
  | 1, _ => rfl
  | 2, _ => rfl
  | 3, _ => rfl
  | n + 4, h => absurd h (by omega)
theorem e_act (L : LawT) : EQ_act (Rel1 L) := by
  intro x m a1 a2 X hR
  obtain ⟨b', rfl, hb1, hb2⟩ := iI_of a1
  obtain ⟨a', rfl, ha1, ha2⟩ := iI_of a2
  obtain ⟨⟨n, nb, hP, hC, hT, hD, hI, hK, hS⟩, hL⟩ := id hR
  obtain ⟨hnb, e7, e8, hkk, hr⟩ := id hK
  have hR0 : Rel1 L (pI x 41 3 (iI 0)) (pI m 0 39 (iI 0)) := by
    refine ⟨⟨n, nb, hP, hC, hT, hD, hI, ⟨hnb, e7, e8, hkk, 0, by omega, rfl, rfl, fun i h1 h2 => absurd h1 (by omega)⟩, RSs_x hS (fun c h1 h2 => pI_off (by omega))⟩, hL⟩
  unfold f_X9_act f_X3_perform f_X10_act
  rw [b_eta]
  by_cases c1 : 0 ≤ b' ∧ b' < nb
  rotate_left
  · have c2 : ¬ (0 ≤ b' ∧ b' ≤ (nb : Int) - 1) := by omega
    simp +decide (maxSteps := 2000000) (disch := omega) only [↓gl_p, ↓bs_p, iI_lit, iI_neg, iI_add, iI_sub, iI_mul, gk_p, bs_p, bz0, bz1, pI_row, pI_snd, pA_row, pA_snd, pL_fst, pL_row, pB_fst, pB_row, upd_at, ↓reduceIte, Int.reduceToNat, Nat.reduceEqDiff, iI_lt, iI_le, iI_eq, iI_inb, iI_nat, iI_nz, s_key (σ := pI x 41 3 (iI 0)) hnb e7, e8, s_wi, bI_0, c1, c2, not_false_eq_true]
    exact ⟨_, _, _, rfl, rfl, hR0⟩
  have c2 : 0 ≤ b' ∧ b' ≤ (nb : Int) - 1 := by omega
  by_cases c3 : 0 ≤ a' ∧ a' ≤ 3
  rotate_left
  · by_cases c4 : a' < 0
    · simp +decide (maxSteps := 2000000) (disch := omega) only [↓gl_p, ↓bs_p, iI_lit, iI_neg, iI_add, iI_sub, iI_mul, gk_p, bs_p, bz0, bz1, pI_row, pI_snd, pA_row, pA_snd, pL_fst, pL_row, pB_fst, pB_row, upd_at, ↓reduceIte, Int.reduceToNat, Nat.reduceEqDiff, iI_lt, iI_le, iI_eq, iI_inb, iI_nat, iI_nz, s_key (σ := pI x 41 3 (iI 0)) hnb e7, e8, s_wi, bI_0, c1, c2, c3, c4, not_false_eq_true, not_true_eq_false, and_self]
      exact ⟨_, _, _, rfl, rfl, hR0⟩
    · have c5 : ¬ a' < 4 := by omega
      simp +decide (maxSteps := 2000000) (disch := omega) only [↓gl_p, ↓bs_p, iI_lit, iI_neg, iI_add, iI_sub, iI_mul, gk_p, bs_p, bz0, bz1, pI_row, pI_snd, pA_row, pA_snd, pL_fst, pL_row, pB_fst, pB_row, upd_at, ↓reduceIte, Int.reduceToNat, Nat.reduceEqDiff, iI_lt, iI_le, iI_eq, iI_inb, iI_nat, iI_nz, s_key (σ := pI x 41 3 (iI 0)) hnb e7, e8, s_wi, bI_0, c1, c2, c3, c4, c5, not_false_eq_true, not_true_eq_false, and_self]
      exact ⟨_, _, _, rfl, rfl, hR0⟩
  have c4 : ¬ a' < 0 := by omega
  have c5 : a' < 4 := by omega
  obtain ⟨b, hb, rfl⟩ : ∃ b : Nat, b < nb ∧ b' = (b : Int) := ⟨b'.toNat, by omega, by omega⟩
  obtain ⟨a, ha, rfl⟩ : ∃ a : Nat, a ≤ 3 ∧ a' = (a : Int) := ⟨a'.toNat, by omega, by omega⟩
  obtain ⟨q1, own, hown, q2⟩ := hkk b hb
  simp +decide (maxSteps := 2000000) (disch := omega) only [↓gl_p, ↓bs_p, iI_lit, iI_neg, iI_add, iI_sub, iI_mul, gk_p, bs_p, bz0, bz1, pI_row, pI_snd, pA_row, pA_snd, pL_fst, pL_row, pB_fst, pB_row, upd_at, ↓reduceIte, Int.reduceToNat, Nat.reduceEqDiff, iI_lt, iI_le, iI_eq, iI_inb, iI_nat, iI_nz, s_key (σ := pI x 41 3 (iI 0)) hnb e7, e8, s_wi, bI_0, c1, c2, c3, c4, c5, not_true_eq_false, and_self, Int.toNat_natCast, q1, q2, b_eta]
  have hJ : aJ x m b own 0 (pI (pI x 41 3 (iI 0)) 41 4 (iI b)) (pI m 0 39 (iI 0)) := by
    refine ⟨rfl, rfl, fun i h1 h2 => absurd h1 (by omega), rfl, q2, q1.trans q2, fun c d1 d2 => ?_, ⟨rfl, nb, hnb, e7, hb⟩, rfl, fun c d1 d2 => ?_, fun j hj => ?_, rfl⟩
    · rw [pI_off d1, pI_off d1]
    · rw [pI_off d1]
    · rw [pI_row, if_pos rfl, upd_ne hj]
  have key : ∃ (v : Int32) (x2 m2 : gS) (r2 : Nat), f_X3_runFrom (pI (pI x 41 3 (iI 0)) 41 4 (iI b)) (iI own) (iI a) X (iI 0) = some (v, x2) ∧ refA a 64 (pI m 0 39 (iI 0)) (iI b) (iI own) X = some (v, m2) ∧ aJ x m b own r2 x2 m2 ∧ r2 ≤ 14 := by
    obtain ⟨v, x2, m2, r2, w1, w2, w3, w4⟩ := a_all (by omega) hown a ha 64 64 0 0 _ _ X (by omega) (by omega) (by omega) (by omega) hJ
    exact ⟨v, x2, m2, r2, w1, w2, w3, by omega⟩
  obtain ⟨v, x2, m2, r2, w1, w2, w3, w4⟩ := key
  have hrel : Rel1 L x2 m2 := by
    obtain ⟨h1, h2, h3, h4, h5, h6, h7, h8, h9, h10, h11, h12⟩ := w3
    refine ⟨⟨n, nb, ?_, ?_, ?_, ?_, ?_, ?_, ?_⟩, ?_⟩
    · rw [h7 1 (by decide) (by decide), h7 2 (by decide) (by decide), h11 0 (by decide), h10 1 (by decide) (by decide), h10 2 (by decide) (by decide), h10 3 (by decide) (by decide), h10 4 (by decide) (by decide), h10 5 (by decide) (by decide)]
      exact hP
    · rw [h7 3 (by decide) (by decide), h7 4 (by decide) (by decide), h7 5 (by decide) (by decide), h7 6 (by decide) (by decide), h11 34 (by decide), h11 35 (by decide), h10 21 (by decide) (by decide)]
      exact hC
    · rw [h7 7 (by decide) (by decide), h7 8 (by decide) (by decide), h11 6 (by decide), h10 6 (by decide) (by decide)]
      exact hT
    · rw [h7 37 (by decide) (by decide), h7 38 (by decide) (by decide), h11 24 (by decide), h11 25 (by decide), h10 17 (by decide) (by decide), h10 18 (by decide) (by decide)]
      exact hD
    · rw [h7 0 (by decide) (by decide), h7 39 (by decide) (by decide), h7 40 (by decide) (by decide), h11 28 (by decide), h11 29 (by decide), h11 30 (by decide), h11 31 (by decide), h10 19 (by decide) (by decide), h10 20 (by decide) (by decide)]
      exact hI
    · rw [h8.1, h7 42 (by decide) (by decide), h11 37 (by decide), h10 22 (by decide) (by decide)]
      exact ⟨hnb, e7, e8, hkk, r2, by omega, h1, h2, h3⟩
    · rw [h9, h12, h10 24 (by decide) (by decide), h10 25 (by decide) (by decide)]
      exact RSs_x hS (fun c d1 d2 => h7 c (by omega) (by omega))
    · rw [h7 7 (by decide) (by decide), h7 10 (by decide) (by decide), h11 8 (by decide), h11 9 (by decide), h10 7 (by decide) (by decide), h10 8 (by decide) (by decide), h10 9 (by decide) (by decide), h10 10 (by decide) (by decide)]
      exact hL
  refine ⟨v, x2, m2, w1, ?_, hrel⟩
  rw [← refA_if a ha] at w2
  exact w2
