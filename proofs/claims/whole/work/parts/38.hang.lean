/-! ===== where one more would hang ===== -/
theorem iI_s (c : Nat) : iI c + 1 = iI ((c + 1 : Nat) : Int) := iI_add (c : Int) 1
def ct (td : Nat → Int32) (p u v : Nat) : Int := jI ((td (4 * p)).toInt - u) + jI ((td (4 * p + 1)).toInt - v)
theorem bt16 : ∀ c : Nat, c < 256 → (iI c &&& 15 = iI ((c % 16 : Nat) : Int) ∧ iI c >>> (4 &&& 31) = iI ((c / 16 : Nat) : Int)) := by decide +kernel
theorem ct_rg {n : Nat} {sz mn : Int32} {td px py wo du wa : Nat → Int32} (h : RP n sz td mn px py wo du wa) {p u v : Nat} (hp : okP n p) (hu : u ≤ 15) (hv : v ≤ 15) : 0 ≤ ct td p u v ∧ ct td p u v ≤ 30 := by
  obtain ⟨a, b, e1, a1, a2, e2, b1, b2⟩ := s_co h hp
  unfold ct
  rw [e1, e2, iI_toInt (by omega) (by omega), iI_toInt (by omega) (by omega)]
  have g1 := jI_le a1 a2 (by omega : (0 : Int) ≤ u) (by omega)
  have g2 := jI_le b1 b2 (by omega : (0 : Int) ≤ v) (by omega)
  omega
theorem s_ctX {x : gS} {n : Nat} {mn : Int32} {px py wo du wa : Nat → Int32} (h : RP n (x.1 1 1) (x.1 2) mn px py wo du wa) {p u v : Nat} (hp : okP n p) (hu : u ≤ 15) (hv : v ≤ 15) : f_X8_cellsTo x (iI p) (iI u) (iI v) = some (iI (ct (x.1 2) p u v)) := by
  obtain ⟨a, b, e1, a1, a2, e2, b1, b2⟩ := s_co h hp
  have hn := h.1
  have p9 : p ≤ 9 := by rcases hp with g | g <;> omega
  have t0 : (4 * (p : Int) + 0).toNat = 4 * p := by omega
  have t1 : (4 * (p : Int) + 1).toNat = 4 * p + 1 := by omega
  unfold f_X8_cellsTo ct
  have g2 : ¬ (p : Int) < 0 := by omega
  have g3 : (p : Int) ≤ 9 := by omega
  simp +decide (maxSteps := 2000000) (disch := omega) only [↓gl_p, ↓bs_p, iI_lit, iI_neg, iI_add, iI_sub, iI_mul, gk_p, bs_p, bz0, bz1, pI_row, pI_snd, pA_row, pA_snd, pL_fst, pL_row, pB_fst, pB_row, upd_at, ↓reduceIte, Int.reduceToNat, Nat.reduceEqDiff, iI_lt, iI_le, iI_eq, iI_inb, iI_nat, iI_nz, g2, g3, t0, t1, e1, e2]
  simp +decide (maxSteps := 2000000) (disch := omega) only [↓gl_p, ↓bs_p, iI_lit, iI_neg, iI_add, iI_sub, iI_mul, gk_p, bs_p, bz0, bz1, pI_row, pI_snd, pA_row, pA_snd, pL_fst, pL_row, pB_fst, pB_row, upd_at, ↓reduceIte, Int.reduceToNat, Nat.reduceEqDiff, iI_lt, iI_le, iI_eq, iI_inb, iI_nat, iI_nz, jabs_i]
  simp +decide (maxSteps := 2000000) (disch := omega) only [iI_toInt]
  rfl
theorem s_ctM {m : gS} {n : Nat} {sz : Int32} {td : Nat → Int32} (h : RP n sz td (m.1 0 0) (m.1 1) (m.1 2) (m.1 3) (m.1 4) (m.1 5)) {p c : Nat} (hp : okP n p) (hc : c < 256) : f_X10_apartFrom m (iI (mP p)) (iI c) = some (iI (ct td p (c % 16) (c / 16))) := by
  obtain ⟨a, b, e1, a1, a2, e2, b1, b2⟩ := s_co h hp
  have e16 : (16 : Int32) = iI ((16 : Nat) : Int) := rfl
  have r1 : iI c - iI c / iI ((16 : Nat) : Int) * iI ((16 : Nat) : Int) = iI ((c % 16 : Nat) : Int) := iI_rem (by omega) (by omega) (by omega)
  have r2 : iI c / iI ((16 : Nat) : Int) = iI ((c / 16 : Nat) : Int) := iI_div (by omega) (by omega) (by omega) (by omega)
  have z16 : nz (iI ((16 : Nat) : Int)) = true := rfl
  have hu : c % 16 ≤ 15 := by omega
  have hv : c / 16 ≤ 15 := by omega
  unfold f_X10_apartFrom ct
  rw [(s_xO h hp).1, (s_xO h hp).2, e16, r1, r2, z16]
  generalize c % 16 = u at hu
  generalize c / 16 = v at hv
  simp +decide (maxSteps := 2000000) (disch := omega) only [↓gl_p, ↓bs_p, iI_lit, iI_neg, iI_add, iI_sub, iI_mul, gk_p, bs_p, bz0, bz1, pI_row, pI_snd, pA_row, pA_snd, pL_fst, pL_row, pB_fst, pB_row, upd_at, ↓reduceIte, Int.reduceToNat, Nat.reduceEqDiff, iI_lt, iI_le, iI_eq, iI_inb, iI_nat, iI_nz, e1, e2, jabs_i]
  simp +decide (maxSteps := 2000000) (disch := omega) only [iI_toInt]
  rfl
def nrm (td : Nat → Int32) (u v : Nat) : Nat → Int
  | 0 => 30
  | k + 1 => if ct td k u v < nrm td u v k then ct td k u v else nrm td u v k
theorem nrm_rg {n : Nat} {sz mn : Int32} {td px py wo du wa : Nat → Int32} (h : RP n sz td mn px py wo du wa) {u v : Nat} (hu : u ≤ 15) (hv : v ≤ 15) : ∀ k, k ≤ n → 0 ≤ nrm td u v k ∧ nrm td u v k ≤ 30 := by
  intro k
  induction k with
  | zero =>
    intro _
    show (0 : Int) ≤ 30 ∧ (30 : Int) ≤ 30
    omega
  | succ k ih =>
    intro hk
    have g := ct_rg h (Or.inl (by omega) : okP n k) hu hv
    have g2 := ih (by omega)
    show 0 ≤ (if ct td k u v < nrm td u v k then ct td k u v else nrm td u v k) ∧ (if ct td k u v < nrm td u v k then ct td k u v else nrm td u v k) ≤ 30
    split <;> omega
def near (td : Nat → Int32) (n u v : Nat) : Int := if n = 0 then 0 else nrm td u v n
theorem w_nrX {x : gS} {n : Nat} {mn : Int32} {px py wo du wa : Nat → Int32} (h : RP n (x.1 1 1) (x.1 2) mn px py wo du wa) {u v : Nat} (hu : u ≤ 15) (hv : v ≤ 15) : ∀ (r k f : Nat), k + r = n → r ≤ f → f_X8_cellsToNearestPost_17 x (f + 1) (iI u) (iI v) (iI (nrm (x.1 2) u v k)) (iI k) = some (iI (nrm (x.1 2) u v n)) := by
  have hn := h.1
  intro r
  induction r with
  | zero =>
    intro k f hk hf
    have g : (n : Int) ≤ (k : Int) := by omega
    have e : k = n := by omega
    rw [f_X8_cellsToNearestPost_17]
    simp +decide (maxSteps := 2000000) (disch := omega) only [↓gl_p, ↓bs_p, iI_lit, iI_neg, iI_add, iI_sub, iI_mul, gk_p, bs_p, bz0, bz1, pI_row, pI_snd, pA_row, pA_snd, pL_fst, pL_row, pB_fst, pB_row, upd_at, ↓reduceIte, Int.reduceToNat, Nat.reduceEqDiff, iI_lt, iI_le, iI_eq, iI_inb, iI_nat, iI_nz, h.2.1, g]
    rw [e]
  | succ r ih =>
    intro k f hk hf
    obtain ⟨f, rfl⟩ : ∃ q, f = q + 1 := ⟨f - 1, by omega⟩
    have g : ¬ (n : Int) ≤ (k : Int) := by omega
    have g1 := ct_rg h (Or.inl (by omega) : okP n k) hu hv
    have g2 := nrm_rg h hu hv k (by omega)
    have c1 := s_ctX h (Or.inl (by omega) : okP n k) hu hv
    have w := ih (k + 1) f (by omega) (by omega)
    rw [f_X8_cellsToNearestPost_17]
    rw [c1]
    simp +decide (maxSteps := 2000000) (disch := omega) only [↓gl_p, ↓bs_p, iI_lit, iI_neg, iI_add, iI_sub, iI_mul, gk_p, bs_p, bz0, bz1, pI_row, pI_snd, pA_row, pA_snd, pL_fst, pL_row, pB_fst, pB_row, upd_at, ↓reduceIte, Int.reduceToNat, Nat.reduceEqDiff, iI_lt, iI_le, iI_eq, iI_inb, iI_nat, iI_nz, h.2.1, g, jmin_i]
    exact w
theorem s_nrX {x : gS} {n : Nat} {mn : Int32} {px py wo du wa : Nat → Int32} (h : RP n (x.1 1 1) (x.1 2) mn px py wo du wa) {u v : Nat} (hu : u ≤ 15) (hv : v ≤ 15) : f_X8_cellsToNearestPost x (iI u) (iI v) = some (iI (near (x.1 2) n u v)) := by
  have hn := h.1
  unfold f_X8_cellsToNearestPost near
  by_cases c : n = 0
  · subst c
    rw [gN_s, f_X8_cellsToNearestPost_17]
    simp +decide (maxSteps := 2000000) (disch := omega) only [↓gl_p, ↓bs_p, iI_lit, iI_neg, iI_add, iI_sub, iI_mul, gk_p, bs_p, bz0, bz1, pI_row, pI_snd, pA_row, pA_snd, pL_fst, pL_row, pB_fst, pB_row, upd_at, ↓reduceIte, Int.reduceToNat, Nat.reduceEqDiff, iI_lt, iI_le, iI_eq, iI_inb, iI_nat, iI_nz, h.2.1]
  · have c2 : ¬ (n : Int) = 0 := by omega
    have w := w_nrX h hu hv n 0 999999 (by omega) (by omega)
    rw [if_neg c, gN_s]
    simp +decide (maxSteps := 2000000) (disch := omega) only [↓gl_p, ↓bs_p, iI_lit, iI_neg, iI_add, iI_sub, iI_mul, gk_p, bs_p, bz0, bz1, pI_row, pI_snd, pA_row, pA_snd, pL_fst, pL_row, pB_fst, pB_row, upd_at, ↓reduceIte, Int.reduceToNat, Nat.reduceEqDiff, iI_lt, iI_le, iI_eq, iI_inb, iI_nat, iI_nz, h.2.1, c2]
    exact w
theorem w_nrM {m : gS} {n : Nat} {sz : Int32} {td : Nat → Int32} (h : RP n sz td (m.1 0 0) (m.1 1) (m.1 2) (m.1 3) (m.1 4) (m.1 5)) {c : Nat} (hc : c < 256) : ∀ (r k f : Nat), k + 1 + r = n → r ≤ f → f_X10_nearest_4 m (f + 1) (iI c) (iI (nrm td (c % 16) (c / 16) (k + 1))) (iI (k + 1 : Nat)) = some (iI (nrm td (c % 16) (c / 16) n)) := by
  have hn := h.1
  have hu : c % 16 ≤ 15 := by omega
  have hv : c / 16 ≤ 15 := by omega
  intro r
  induction r with
  | zero =>
    intro k f hk hf
    have g : (n : Int) ≤ ((k + 1 : Nat) : Int) := by omega
    have e : k + 1 = n := by omega
    rw [f_X10_nearest_4]
    simp +decide (maxSteps := 2000000) (disch := omega) only [↓gl_p, ↓bs_p, iI_lit, iI_neg, iI_add, iI_sub, iI_mul, gk_p, bs_p, bz0, bz1, pI_row, pI_snd, pA_row, pA_snd, pL_fst, pL_row, pB_fst, pB_row, upd_at, ↓reduceIte, Int.reduceToNat, Nat.reduceEqDiff, iI_lt, iI_le, iI_eq, iI_inb, iI_nat, iI_nz, h.2.2.1, g]
    rw [e]
  | succ r ih =>
    intro k f hk hf
    obtain ⟨f, rfl⟩ : ∃ q, f = q + 1 := ⟨f - 1, by omega⟩
    have g : ¬ (n : Int) ≤ ((k + 1 : Nat) : Int) := by omega
    have g0 : ¬ ((k + 1 : Nat) : Int) = 0 := by omega
    have g1 := ct_rg h (Or.inl (by omega) : okP n (k + 1)) hu hv
    have g2 := nrm_rg h hu hv (k + 1) (by omega)
    have c1 := s_ctM h (Or.inl (by omega) : okP n (k + 1)) hc
    rw [show mP (k + 1) = ((k + 1 : Nat) : Int) from if_neg (by omega)] at c1
    have w := ih (k + 1) f (by omega) (by omega)
    rw [f_X10_nearest_4]
    rw [c1]
    simp +decide (maxSteps := 2000000) (disch := omega) only [↓gl_p, ↓bs_p, iI_lit, iI_neg, iI_add, iI_sub, iI_mul, gk_p, bs_p, bz0, bz1, pI_row, pI_snd, pA_row, pA_snd, pL_fst, pL_row, pB_fst, pB_row, upd_at, ↓reduceIte, Int.reduceToNat, Nat.reduceEqDiff, iI_lt, iI_le, iI_eq, iI_inb, iI_nat, iI_nz, h.2.2.1, g, g0, jmin_i]
    exact w
theorem s_nrM {m : gS} {n : Nat} {sz : Int32} {td : Nat → Int32} (h : RP n sz td (m.1 0 0) (m.1 1) (m.1 2) (m.1 3) (m.1 4) (m.1 5)) {c : Nat} (hc : c < 256) : f_X10_nearest m (iI c) = some (iI (near td n (c % 16) (c / 16))) := by
  have hn := h.1
  have hu : c % 16 ≤ 15 := by omega
  have hv : c / 16 ≤ 15 := by omega
  unfold f_X10_nearest near
  by_cases e0 : n = 0
  · subst e0
    rw [gN_s, f_X10_nearest_4]
    simp +decide (maxSteps := 2000000) (disch := omega) only [↓gl_p, ↓bs_p, iI_lit, iI_neg, iI_add, iI_sub, iI_mul, gk_p, bs_p, bz0, bz1, pI_row, pI_snd, pA_row, pA_snd, pL_fst, pL_row, pB_fst, pB_row, upd_at, ↓reduceIte, Int.reduceToNat, Nat.reduceEqDiff, iI_lt, iI_le, iI_eq, iI_inb, iI_nat, iI_nz, h.2.2.1]
  · have g : ¬ (n : Int) ≤ 0 := by omega
    have g1 := ct_rg h (Or.inl (by omega) : okP n 0) hu hv
    have c1 := s_ctM h (Or.inl (by omega) : okP n 0) hc
    rw [show mP 0 = 0 from rfl] at c1
    have w := w_nrM h hc (n - 1) 0 999998 (by omega) (by omega)
    have e1 : nrm td (c % 16) (c / 16) (0 + 1) = ct td 0 (c % 16) (c / 16) := by
      show (if ct td 0 (c % 16) (c / 16) < 30 then ct td 0 (c % 16) (c / 16) else 30) = _
      split <;> omega
    rw [e1] at w
    rw [if_neg e0, gN_s, f_X10_nearest_4]
    simp +decide (maxSteps := 2000000) (disch := omega) only [↓gl_p, ↓bs_p, iI_lit, iI_neg, iI_add, iI_sub, iI_mul, gk_p, bs_p, bz0, bz1, pI_row, pI_snd, pA_row, pA_snd, pL_fst, pL_row, pB_fst, pB_row, upd_at, ↓reduceIte, Int.reduceToNat, Nat.reduceEqDiff, iI_lt, iI_le, iI_eq, iI_inb, iI_nat, iI_nz, h.2.2.1, g, c1]
    exact w
theorem near_rg {n : Nat} {sz mn : Int32} {td px py wo du wa : Nat → Int32} (h : RP n sz td mn px py wo du wa) {u v : Nat} (hu : u ≤ 15) (hv : v ≤ 15) : 0 ≤ near td n u v ∧ near td n u v ≤ 30 := by
  unfold near
  split
  · omega
  · exact nrm_rg h hu hv n (Nat.le_refl n)
theorem w_hang {x m : gS} {n : Nat} (h : RP n (x.1 1 1) (x.1 2) (m.1 0 0) (m.1 1) (m.1 2) (m.1 3) (m.1 4) (m.1 5)) {d w : Int} (d1 : 0 ≤ d) (d2 : d ≤ 30) (w1 : 0 ≤ w) (w2 : w ≤ 1) {g : Nat} (hg : g < 256) (hg2 : ct (x.1 2) 9 (g % 16) (g / 16) = 0) : ∀ (r c f f2 : Nat) (bx bm far : Int), c + r = 256 → r ≤ f → r ≤ f2 → -1 ≤ far → far ≤ 30 → ((far = -1 ∧ c ≤ g) ∨ (0 ≤ far ∧ bx = bm)) → ∃ q, f_X9_hang_28 x (f + 1) (iI d) (iI w) (iI bx) (iI far) (iI c) = some q ∧ f_X10_hang_29 m (f2 + 1) (iI d) (iI w) (iI bm) (iI far) (iI c) = some q := by
  have hn := h.1
  intro r
  induction r with
  | zero =>
    intro c f f2 bx bm far hc hf hf2 f1 f3 hi
    have g1 : 256 ≤ (c : Int) := by omega
    have eb : bx = bm := by rcases hi with ⟨_, k⟩ | ⟨_, k⟩ <;> omega
    rw [f_X9_hang_28, f_X10_hang_29, eb]
    simp +decide (maxSteps := 2000000) (disch := omega) only [↓gl_p, ↓bs_p, iI_lit, iI_neg, iI_add, iI_sub, iI_mul, gk_p, bs_p, bz0, bz1, pI_row, pI_snd, pA_row, pA_snd, pL_fst, pL_row, pB_fst, pB_row, upd_at, ↓reduceIte, Int.reduceToNat, Nat.reduceEqDiff, iI_lt, iI_le, iI_eq, iI_inb, iI_nat, iI_nz, g1]
    split <;> exact ⟨_, rfl, rfl⟩
  | succ r ih =>
    intro c f f2 bx bm far hc hf hf2 f1 f3 hi
    obtain ⟨f, rfl⟩ : ∃ q, f = q + 1 := ⟨f - 1, by omega⟩
    obtain ⟨f2, rfl⟩ : ∃ q, f2 = q + 1 := ⟨f2 - 1, by omega⟩
    have g1 : ¬ 256 ≤ (c : Int) := by omega
    have hc2 : c < 256 := by omega
    have hu : c % 16 ≤ 15 := by omega
    have hv : c / 16 ≤ 15 := by omega
    have h9 : okP n 9 := Or.inr rfl
    have k1 := s_ctX h h9 hu hv
    have k2 := s_ctM h h9 hc2
    have k3 := ct_rg h h9 hu hv
    have k4 := s_nrX h hu hv
    have k5 := s_nrM h hc2
    have k6 := near_rg h hu hv
    have l9 : (9 : Int32) = iI ((9 : Nat) : Int) := rfl
    have lm : (-1 : Int32) = iI (mP 9) := rfl
    have es := iI_s c
    have hgc : ct (x.1 2) 9 (c % 16) (c / 16) ≤ d ∨ c ≠ g := by
      by_cases e : c = g
      · left
        rw [e, hg2]
        exact d1
      · exact Or.inr e
    rw [f_X9_hang_28, f_X10_hang_29, (bt16 c hc2).1, (bt16 c hc2).2, l9, k1, lm, k2, k4, k5, es]
    generalize ct (x.1 2) 9 (c % 16) (c / 16) = a at k3 hgc
    generalize near (x.1 2) n (c % 16) (c / 16) = b at k6
    by_cases ca : a ≤ d
    · have ca2 : ¬ d < a := by omega
      by_cases cb : b ≤ far
      · have cb2 : ¬ far < b := by omega
        simp +decide (maxSteps := 2000000) (disch := omega) only [↓gl_p, ↓bs_p, iI_lit, iI_neg, iI_add, iI_sub, iI_mul, gk_p, bs_p, bz0, bz1, pI_row, pI_snd, pA_row, pA_snd, pL_fst, pL_row, pB_fst, pB_row, upd_at, ↓reduceIte, Int.reduceToNat, Nat.reduceEqDiff, iI_lt, iI_le, iI_eq, iI_inb, iI_nat, iI_nz, g1, ca, ca2, cb, cb2]
        exact ih (c + 1) f f2 bx bm far (by omega) (by omega) (by omega) f1 f3 (by omega)
      · have cb2 : far < b := by omega
        simp +decide (maxSteps := 2000000) (disch := omega) only [↓gl_p, ↓bs_p, iI_lit, iI_neg, iI_add, iI_sub, iI_mul, gk_p, bs_p, bz0, bz1, pI_row, pI_snd, pA_row, pA_snd, pL_fst, pL_row, pB_fst, pB_row, upd_at, ↓reduceIte, Int.reduceToNat, Nat.reduceEqDiff, iI_lt, iI_le, iI_eq, iI_inb, iI_nat, iI_nz, g1, ca, ca2, cb, cb2]
        exact ih (c + 1) f f2 c c b (by omega) (by omega) (by omega) (by omega) (by omega) (Or.inr ⟨by omega, rfl⟩)
    · have ca2 : d < a := by omega
      simp +decide (maxSteps := 2000000) (disch := omega) only [↓gl_p, ↓bs_p, iI_lit, iI_neg, iI_add, iI_sub, iI_mul, gk_p, bs_p, bz0, bz1, pI_row, pI_snd, pA_row, pA_snd, pL_fst, pL_row, pB_fst, pB_row, upd_at, ↓reduceIte, Int.reduceToNat, Nat.reduceEqDiff, iI_lt, iI_le, iI_eq, iI_inb, iI_nat, iI_nz, g1, ca, ca2]
      exact ih (c + 1) f f2 bx bm far (by omega) (by omega) (by omega) f1 f3 (by omega)
theorem e_hang (L : LawT) : EQ_hang (Rel1 L) := by
  intro x m a1 a2 hR
  obtain ⟨d, rfl, hd1, hd2⟩ := iI_of a1
  obtain ⟨w, rfl, hw1, hw2⟩ := iI_of a2
  obtain ⟨⟨n, nb, hP, hC, hT, hD, hI, hK, hS⟩, hL⟩ := id hR
  have hn := hP.1
  unfold f_X9_hang f_X10_hang
  by_cases c1 : 0 ≤ d ∧ d ≤ 30
  rotate_left
  · by_cases c2 : d < 0
    · simp +decide (maxSteps := 2000000) (disch := omega) only [↓gl_p, ↓bs_p, iI_lit, iI_neg, iI_add, iI_sub, iI_mul, gk_p, bs_p, bz0, bz1, pI_row, pI_snd, pA_row, pA_snd, pL_fst, pL_row, pB_fst, pB_row, upd_at, ↓reduceIte, Int.reduceToNat, Nat.reduceEqDiff, iI_lt, iI_le, iI_eq, iI_inb, iI_nat, iI_nz, c1, c2, s_wi, bI_0, not_false_eq_true]
      exact ⟨_, rfl, rfl, hR⟩
    · have c3 : 30 < d := by omega
      simp +decide (maxSteps := 2000000) (disch := omega) only [↓gl_p, ↓bs_p, iI_lit, iI_neg, iI_add, iI_sub, iI_mul, gk_p, bs_p, bz0, bz1, pI_row, pI_snd, pA_row, pA_snd, pL_fst, pL_row, pB_fst, pB_row, upd_at, ↓reduceIte, Int.reduceToNat, Nat.reduceEqDiff, iI_lt, iI_le, iI_eq, iI_inb, iI_nat, iI_nz, c1, c2, c3, s_wi, bI_0, not_false_eq_true]
      exact ⟨_, rfl, rfl, hR⟩
  have c2 : ¬ d < 0 := by omega
  have c3 : ¬ 30 < d := by omega
  by_cases c4 : 0 ≤ w ∧ w ≤ 1
  rotate_left
  · simp +decide (maxSteps := 2000000) (disch := omega) only [↓gl_p, ↓bs_p, iI_lit, iI_neg, iI_add, iI_sub, iI_mul, gk_p, bs_p, bz0, bz1, pI_row, pI_snd, pA_row, pA_snd, pL_fst, pL_row, pB_fst, pB_row, upd_at, ↓reduceIte, Int.reduceToNat, Nat.reduceEqDiff, iI_lt, iI_le, iI_eq, iI_inb, iI_nat, iI_nz, c1, c2, c3, c4, s_wi, s_eith, bI_0, not_false_eq_true, not_true_eq_false, and_self]
    exact ⟨_, rfl, rfl, hR⟩
  have h9 : okP n 9 := Or.inr rfl
  obtain ⟨a, b, e1, q1, q2, e2, q3, q4⟩ := s_co hP h9
  have hg : (16 * b + a).toNat < 256 := by omega
  have hg2 : ct (x.1 2) 9 ((16 * b + a).toNat % 16) ((16 * b + a).toNat / 16) = 0 := by
    unfold ct jI
    rw [e1, e2, iI_toInt (by omega) (by omega), iI_toInt (by omega) (by omega)]
    have u1 : (((16 * b + a).toNat % 16 : Nat) : Int) = a := by omega
    have u2 : (((16 * b + a).toNat / 16 : Nat) : Int) = b := by omega
    rw [u1, u2]
    split <;> split <;> omega
  obtain ⟨q, k1, k2⟩ := w_hang hP c1.1 c1.2 c4.1 c4.2 hg hg2 256 0 999999 999999 (-2) 0 (-1) (by omega) (by omega) (by omega) (by omega) (by omega) (Or.inl ⟨rfl, by omega⟩)
  simp +decide (maxSteps := 2000000) (disch := omega) only [↓gl_p, ↓bs_p, iI_lit, iI_neg, iI_add, iI_sub, iI_mul, gk_p, bs_p, bz0, bz1, pI_row, pI_snd, pA_row, pA_snd, pL_fst, pL_row, pB_fst, pB_row, upd_at, ↓reduceIte, Int.reduceToNat, Nat.reduceEqDiff, iI_lt, iI_le, iI_eq, iI_inb, iI_nat, iI_nz, c1, c2, c3, c4, s_wi, s_eith, bI_0, not_false_eq_true, not_true_eq_false, and_self]
  exact ⟨q, k1, k2, hR⟩
