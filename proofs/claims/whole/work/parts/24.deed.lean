/-! ===== ways ===== -/
def okP (n p : Nat) : Prop := p < n ∨ p = 9
def mP (p : Nat) : Int := if p = 9 then -1 else p
def jI (z : Int) : Int := if 0 ≤ z then z else 0 - z
/-- minutes from a place to another (9: the gate) -/
def wy (td : Nat → Int32) (p q : Nat) : Int := (jI ((td (4 * p)).toInt - (td (4 * q)).toInt) + jI ((td (4 * p + 1)).toInt - (td (4 * q + 1)).toInt)) * (td 38).toInt
theorem rg15 {w : Nat} {v : Int32} (hw : w = 0 ∨ w = 1 ∨ w = 4 ∨ w = 5) (h : rgW w v) : ∃ a : Int, v = iI a ∧ 0 ≤ a ∧ a ≤ 15 := by
  obtain ⟨a, e, h1, h2⟩ := h
  refine ⟨a, e, ?_, ?_⟩ <;> rcases hw with rfl | rfl | rfl | rfl <;> simp only [loW, hiW] at h1 h2 <;> omega
section
variable {n : Nat} {sz mn : Int32} {td px py wo du wa : Nat → Int32}
theorem s_co (h : RP n sz td mn px py wo du wa) {p : Nat} (hp : okP n p) : ∃ a b : Int, td (4 * p) = iI a ∧ 0 ≤ a ∧ a ≤ 15 ∧ td (4 * p + 1) = iI b ∧ 0 ≤ b ∧ b ≤ 15 := by
  obtain ⟨hn, -, -, -, -, hr, h4, h5, -⟩ := h
  rcases hp with hp | rfl
  · obtain ⟨r0, r1, -⟩ := hr p hp
    obtain ⟨a, e1, a1, a2⟩ := rg15 (Or.inl rfl) r0
    obtain ⟨b, e2, b1, b2⟩ := rg15 (Or.inr (Or.inl rfl)) r1
    exact ⟨a, b, e1, a1, a2, e2, b1, b2⟩
  · obtain ⟨a, e1, a1, a2⟩ := rg15 (Or.inr (Or.inr (Or.inl rfl))) h4
    obtain ⟨b, e2, b1, b2⟩ := rg15 (Or.inr (Or.inr (Or.inr rfl))) h5
    exact ⟨a, b, e1, a1, a2, e2, b1, b2⟩
theorem s_pa (h : RP n sz td mn px py wo du wa) : ∃ a : Int, td 38 = iI a ∧ 1 ≤ a ∧ a ≤ 9 := by
  obtain ⟨hn, -, -, -, -, hr, h4, h5, ⟨a, e, h1, h2⟩, -⟩ := h
  simp only [loW, hiW] at h1 h2
  exact ⟨a, e, by simpa using h1, by simpa using h2⟩
theorem s_sd (h : RP n sz td mn px py wo du wa) : ∃ a : Int, td 39 = iI a ∧ 0 ≤ a ∧ a ≤ 9 := by
  obtain ⟨hn, -, -, -, -, hr, h4, h5, h6, ⟨a, e, h1, h2⟩⟩ := h
  simp only [loW, hiW] at h1 h2
  exact ⟨a, e, by simpa using h1, by simpa using h2⟩
theorem jI_le {a b : Int} (h1 : 0 ≤ a) (h2 : a ≤ 15) (h3 : 0 ≤ b) (h4 : b ≤ 15) : 0 ≤ jI (a - b) ∧ jI (a - b) ≤ 15 := by
  unfold jI
  split <;> omega
theorem mul9 {s c : Int} (h1 : 0 ≤ s) (h2 : s ≤ 30) (h3 : 1 ≤ c) (h4 : c ≤ 9) : 0 ≤ s * c ∧ s * c ≤ 270 := by
  have e := Int.mul_le_mul h2 h4 (by omega) (by omega : (0 : Int) ≤ 30)
  exact ⟨Int.mul_nonneg h1 (by omega), by omega⟩
theorem wy_rg (h : RP n sz td mn px py wo du wa) {p q : Nat} (hp : okP n p) (hq : okP n q) : 0 ≤ wy td p q ∧ wy td p q ≤ 270 := by
  obtain ⟨a, b, e1, a1, a2, e2, b1, b2⟩ := s_co h hp
  obtain ⟨c, d, e3, c1, c2, e4, d1, d2⟩ := s_co h hq
  obtain ⟨f, e5, f1, f2⟩ := s_pa h
  unfold wy
  rw [e1, e2, e3, e4, e5, iI_toInt (by omega) (by omega), iI_toInt (by omega) (by omega), iI_toInt (by omega) (by omega), iI_toInt (by omega) (by omega), iI_toInt (by omega) (by omega)]
  have g1 := jI_le a1 a2 c1 c2
  have g2 := jI_le b1 b2 d1 d2
  exact mul9 (by omega) (by omega) f1 f2
end
theorem s_wyX {x : gS} {n : Nat} {mn : Int32} {px py wo du wa : Nat → Int32} (h : RP n (x.1 1 1) (x.1 2) mn px py wo du wa) {p q : Nat} (hp : okP n p) (hq : okP n q) : f_X8_way x (iI p) (iI q) = some (iI (wy (x.1 2) p q)) := by
  obtain ⟨a, b, e1, a1, a2, e2, b1, b2⟩ := s_co h hp
  obtain ⟨c, d, e3, c1, c2, e4, d1, d2⟩ := s_co h hq
  obtain ⟨f, e5, f1, f2⟩ := s_pa h
  have hn := h.1
  have p9 : p ≤ 9 := by rcases hp with g | g <;> omega
  have q9 : q ≤ 9 := by rcases hq with g | g <;> omega
  have t0 : (4 * (p : Int) + 0).toNat = 4 * p := by omega
  have t1 : (4 * (p : Int) + 1).toNat = 4 * p + 1 := by omega
  have t2 : (4 * (q : Int) + 0).toNat = 4 * q := by omega
  have t3 : (4 * (q : Int) + 1).toNat = 4 * q + 1 := by omega
  unfold f_X8_way f_X8_cellsTo wy
  have g0 : ¬ (q : Int) < 0 := by omega
  have g1 : (q : Int) ≤ 9 := by omega
  have g2 : ¬ (p : Int) < 0 := by omega
  have g3 : (p : Int) ≤ 9 := by omega
  simp +decide (disch := omega) only [gl_e, iI_lit, iI_neg, iI_add, iI_sub, iI_mul, gk_t, b_some, bz0, bz1, pI_row, pI_snd, pA_row, pA_snd, pL_fst, pL_row, pB_fst, pB_row, upd_at, ↓reduceIte, Int.reduceToNat, Nat.reduceEqDiff, iI_lt, iI_le, iI_eq, iI_inb, iI_nat, iI_nz, g0, g1, g2, g3, t0, t1, t2, t3, e1, e2, e3, e4]
  simp +decide (disch := omega) only [gl_e, iI_lit, iI_neg, iI_add, iI_sub, iI_mul, gk_t, b_some, bz0, bz1, pI_row, pI_snd, pA_row, pA_snd, pL_fst, pL_row, pB_fst, pB_row, upd_at, ↓reduceIte, Int.reduceToNat, Nat.reduceEqDiff, iI_lt, iI_le, iI_eq, iI_inb, iI_nat, iI_nz, jabs_i]
  rw [e5]
  simp +decide (disch := omega) only [iI_mul, iI_toInt]
  rfl
theorem s_xO {m : gS} {n : Nat} {sz : Int32} {td : Nat → Int32} (h : RP n sz td (m.1 0 0) (m.1 1) (m.1 2) (m.1 3) (m.1 4) (m.1 5)) {p : Nat} (hp : okP n p) : f_X10_xOf m (iI (mP p)) = some (td (4 * p)) ∧ f_X10_yOf m (iI (mP p)) = some (td (4 * p + 1)) := by
  obtain ⟨hn, -, -, hr, ⟨w0, w1, -⟩, -⟩ := h
  unfold f_X10_xOf f_X10_yOf mP
  rcases hp with hp | rfl
  · have g : ¬ p = 9 := by omega
    have g2 : ¬ (p : Int) = -1 := by omega
    obtain ⟨r0, r1, -⟩ := hr p hp
    simp +decide (disch := omega) only [gl_e, iI_lit, iI_neg, iI_add, iI_sub, iI_mul, gk_t, b_some, bz0, bz1, pI_row, pI_snd, pA_row, pA_snd, pL_fst, pL_row, pB_fst, pB_row, upd_at, ↓reduceIte, Int.reduceToNat, Nat.reduceEqDiff, iI_lt, iI_le, iI_eq, iI_inb, iI_nat, iI_nz, g, g2, Int.toNat_natCast, r0, r1, and_self]
  · simp +decide (disch := omega) only [gl_e, iI_lit, iI_neg, iI_add, iI_sub, iI_mul, gk_t, b_some, bz0, bz1, pI_row, pI_snd, pA_row, pA_snd, pL_fst, pL_row, pB_fst, pB_row, upd_at, ↓reduceIte, Int.reduceToNat, Nat.reduceEqDiff, iI_lt, iI_le, iI_eq, iI_inb, iI_nat, iI_nz]
    exact ⟨by rw [w0], by rw [w1]⟩
theorem s_wyM {m : gS} {n : Nat} {sz : Int32} {td : Nat → Int32} (h : RP n sz td (m.1 0 0) (m.1 1) (m.1 2) (m.1 3) (m.1 4) (m.1 5)) {p q : Nat} (hp : okP n p) (hq : okP n q) : f_X10_minutes m (iI (mP p)) (iI (mP q)) = some (iI (wy td p q)) := by
  obtain ⟨a, b, e1, a1, a2, e2, b1, b2⟩ := s_co h hp
  obtain ⟨c, d, e3, c1, c2, e4, d1, d2⟩ := s_co h hq
  obtain ⟨f, e5, f1, f2⟩ := s_pa h
  have w2 : m.1 5 2 = td 38 := h.2.2.2.2.1.2.2.1
  unfold f_X10_minutes f_X10_apart wy
  rw [(s_xO h hp).1, (s_xO h hp).2, (s_xO h hq).1, (s_xO h hq).2]
  simp +decide (disch := omega) only [gl_e, iI_lit, iI_neg, iI_add, iI_sub, iI_mul, gk_t, b_some, bz0, bz1, pI_row, pI_snd, pA_row, pA_snd, pL_fst, pL_row, pB_fst, pB_row, upd_at, ↓reduceIte, Int.reduceToNat, Nat.reduceEqDiff, iI_lt, iI_le, iI_eq, iI_inb, iI_nat, iI_nz, e1, e2, e3, e4, jabs_i]
  rw [w2, e5]
  simp +decide (disch := omega) only [iI_mul, iI_toInt]
  rfl
/-! ===== the deeds ===== -/
theorem e_waits (L : LawT) : EQ_waits (Rel1 L) := by
  intro x m a1 hR
  obtain ⟨w, rfl, hw1, hw2⟩ := iI_of a1
  obtain ⟨⟨n, nb, hP, hC, hT, hD, hI, hK, hS⟩, hL⟩ := id hR
  obtain ⟨hat, ⟨a, ha, e1, e2⟩, ⟨e3, e4, e5, e6⟩, hd1, hd2⟩ := id hD
  unfold f_X9_waits f_X2_waitFor f_X10_waits
  simp +decide (disch := omega) only [gl_e, iI_lit, iI_neg, iI_add, iI_sub, iI_mul, gk_t, b_some, bz0, bz1, pI_row, pI_snd, pA_row, pA_snd, pL_fst, pL_row, pB_fst, pB_row, upd_at, ↓reduceIte, Int.reduceToNat, Nat.reduceEqDiff, iI_lt, iI_le, iI_eq, iI_inb, iI_nat, iI_nz, e1, e2, s_wi, bI_0]
  by_cases c1 : 1 ≤ w ∧ w ≤ 999
  · have c2 : ¬ w < 1 := by omega
    have c3 : w ≤ 999 := by omega
    by_cases c4 : (a : Int) + w ≤ 9999
    · simp +decide (disch := omega) only [c1, c2, c3, c4, gl_e, iI_lit, iI_neg, iI_add, iI_sub, iI_mul, gk_t, b_some, bz0, bz1, pI_row, pI_snd, pA_row, pA_snd, pL_fst, pL_row, pB_fst, pB_row, upd_at, ↓reduceIte, Int.reduceToNat, Nat.reduceEqDiff, iI_lt, iI_le, iI_eq, iI_inb, iI_nat, iI_nz, not_true_eq_false, and_self, e1, e2]
      refine ⟨_, _, _, rfl, rfl, ⟨n, nb, hP, hC, hT, ?_, hI, hK, RSs_x hS (fun c h1 h2 => by simp (disch := omega) only [pI_off, pA_off])⟩, hL⟩
      have e : ((a : Int) + w) = (((a : Int) + w).toNat : Int) := by omega
      refine ⟨hat, ⟨((a : Int) + w).toNat, by omega, ?_, ?_⟩, ⟨e3, e4, e5, ?_⟩, hd1, hd2⟩
      · rw [← e]; rfl
      · rw [← e]; rfl
      · show m.1 18 3 + iI w = x.1 37 6 + iI w
        rw [e6]
    · simp +decide (disch := omega) only [c1, c2, c3, c4, gl_e, iI_lit, iI_neg, iI_add, iI_sub, iI_mul, gk_t, b_some, bz0, bz1, pI_row, pI_snd, pA_row, pA_snd, pL_fst, pL_row, pB_fst, pB_row, upd_at, ↓reduceIte, Int.reduceToNat, Nat.reduceEqDiff, iI_lt, iI_le, iI_eq, iI_inb, iI_nat, iI_nz, not_true_eq_false, and_self, e1, e2]
      exact ⟨_, _, _, rfl, rfl, hR⟩
  · simp only [c1, not_false_eq_true, ↓reduceIte]
    by_cases c2 : w < 1
    · simp only [c2, ↓reduceIte]
      exact ⟨_, _, _, rfl, rfl, hR⟩
    · have c3 : ¬ w ≤ 999 := by omega
      simp only [c2, c3, ↓reduceIte]
      exact ⟨_, _, _, rfl, rfl, hR⟩
theorem e_home (L : LawT) : EQ_home (Rel1 L) := by
  intro x m hR
  obtain ⟨⟨n, nb, hP, hC, hT, hD, hI, hK, hS⟩, hL⟩ := id hR
  obtain ⟨⟨p, hp⟩, ⟨a, ha, e1, e2⟩, ⟨e3, e4, e5, e6⟩, hd1, hd2⟩ := id hD
  have hn := hP.1
  have hok : okP n p := by
    rcases hp with ⟨g, -⟩ | ⟨g, -⟩
    · exact Or.inl g
    · exact Or.inr g
  have ea : x.1 37 1 = iI p := by
    rcases hp with ⟨-, g, -⟩ | ⟨g0, g, -⟩
    · exact g
    · rw [g, g0]; rfl
  have em : m.1 0 24 = iI (mP p) := by
    unfold mP
    rcases hp with ⟨g, -, g1⟩ | ⟨g0, -, g1⟩
    · rw [if_neg (by omega)]; exact g1
    · rw [if_pos g0]; exact g1
  have h9 : okP n 9 := Or.inr rfl
  have w1 := s_wyX hP hok h9
  have w2 := s_wyM hP hok h9
  have wr := wy_rg hP hok h9
  generalize wy (x.1 2) p 9 = w at w1 w2 wr
  have l9 : (9 : Int32) = iI ((9 : Nat) : Int) := rfl
  have lm : (-1 : Int32) = iI (mP 9) := rfl
  unfold f_X9_home f_X2_goHome f_X10_home
  rw [ea, em, l9, w1, lm, w2]
  simp +decide (disch := omega) only [gl_e, iI_lit, iI_neg, iI_add, iI_sub, iI_mul, gk_t, b_some, bz0, bz1, pI_row, pI_snd, pA_row, pA_snd, pL_fst, pL_row, pB_fst, pB_row, upd_at, ↓reduceIte, Int.reduceToNat, Nat.reduceEqDiff, iI_lt, iI_le, iI_eq, iI_inb, iI_nat, iI_nz, e1, e2]
  by_cases c4 : (a : Int) + w ≤ 9999
  · simp +decide (disch := omega) only [c4, gl_e, iI_lit, iI_neg, iI_add, iI_sub, iI_mul, gk_t, b_some, bz0, bz1, pI_row, pI_snd, pA_row, pA_snd, pL_fst, pL_row, pB_fst, pB_row, upd_at, ↓reduceIte, Int.reduceToNat, Nat.reduceEqDiff, iI_lt, iI_le, iI_eq, iI_inb, iI_nat, iI_nz, e1, e2]
    refine ⟨_, _, _, rfl, rfl, ⟨n, nb, hP, hC, hT, ?_, hI, hK, RSs_x hS (fun c h1 h2 => by simp (disch := omega) only [pI_off, pA_off])⟩, hL⟩
    have e : ((a : Int) + w) = (((a : Int) + w).toNat : Int) := by omega
    refine ⟨⟨9, Or.inr ⟨rfl, rfl, rfl⟩⟩, ⟨((a : Int) + w).toNat, by omega, ?_, ?_⟩, ⟨?_, e4, e5, e6⟩, hd1, hd2⟩
    · rw [← e]; rfl
    · rw [← e]; rfl
    · show m.1 18 0 + iI w = x.1 37 3 + iI w
      rw [e3]
  · simp +decide (disch := omega) only [c4, gl_e, iI_lit, iI_neg, iI_add, iI_sub, iI_mul, gk_t, b_some, bz0, bz1, pI_row, pI_snd, pA_row, pA_snd, pL_fst, pL_row, pB_fst, pB_row, upd_at, ↓reduceIte, Int.reduceToNat, Nat.reduceEqDiff, iI_lt, iI_le, iI_eq, iI_inb, iI_nat, iI_nz, e1, e2]
    exact ⟨_, _, _, rfl, rfl, hR⟩
theorem hat_of {n p : Nat} {at_ ms : Int32} (hn : n ≤ 9) (hp : (p < n ∧ at_ = iI p ∧ ms = iI p) ∨ (p = 9 ∧ at_ = iI 9 ∧ ms = iI (-1))) : okP n p ∧ at_ = iI p ∧ ms = iI (mP p) := by
  unfold mP
  rcases hp with ⟨g, g1, g2⟩ | ⟨g, g1, g2⟩
  · exact ⟨Or.inl g, g1, by rw [if_neg (by omega)]; exact g2⟩
  · exact ⟨Or.inr g, by rw [g1, g]; rfl, by rw [if_pos g]; exact g2⟩
theorem e_walk (L : LawT) : EQ_walk (Rel1 L) := by
  intro x m a1 hR
  obtain ⟨q, rfl, hq1, hq2⟩ := iI_of a1
  obtain ⟨⟨n, nb, hP, hC, hT, hD, hI, hK, hS⟩, hL⟩ := id hR
  obtain ⟨⟨p, hp⟩, ⟨a, ha, e1, e2⟩, ⟨e3, e4, e5, e6⟩, hd1, hd2⟩ := id hD
  have hn := hP.1
  obtain ⟨hok, ea, em⟩ := hat_of hn hp
  unfold f_X9_walk f_X2_walkTo f_X10_walk f_X8_stand
  rw [ea, em]
  simp +decide (disch := omega) only [gl_e, iI_lit, iI_neg, iI_add, iI_sub, iI_mul, gk_t, b_some, bz0, bz1, pI_row, pI_snd, pA_row, pA_snd, pL_fst, pL_row, pB_fst, pB_row, upd_at, ↓reduceIte, Int.reduceToNat, Nat.reduceEqDiff, iI_lt, iI_le, iI_eq, iI_inb, iI_nat, iI_nz, lL_i, s_poX hn hP.2.1, s_poM hn hP.2.2.1, bI_0]
  by_cases c1 : 0 ≤ q ∧ q < n
  · obtain ⟨k, hk, rfl⟩ : ∃ k : Nat, k < n ∧ q = (k : Int) := ⟨q.toNat, by omega, by omega⟩
    have hkk : okP n k := Or.inl hk
    have emk : (k : Int) = mP k := by unfold mP; rw [if_neg (by omega)]
    have w1 := s_wyX hP hok hkk
    have w2 := s_wyM hP hok hkk
    rw [← emk] at w2
    have wr := wy_rg hP hok hkk
    obtain ⟨t, es, t1, t2⟩ := s_sd hP
    have es2 : m.1 5 3 = iI t := by rw [hP.2.2.2.2.1.2.2.2]; exact es
    rw [w1, w2]
    generalize wy (x.1 2) p k = w at w1 w2 wr
    have g0 : ¬ (k : Int) < 0 := by omega
    have g1 : ¬ 9 ≤ (k : Int) := by omega
    simp +decide (disch := omega) only [gl_e, iI_lit, iI_neg, iI_add, iI_sub, iI_mul, gk_t, b_some, bz0, bz1, pI_row, pI_snd, pA_row, pA_snd, pL_fst, pL_row, pB_fst, pB_row, upd_at, ↓reduceIte, Int.reduceToNat, Nat.reduceEqDiff, iI_lt, iI_le, iI_eq, iI_inb, iI_nat, iI_nz, c1, g0, g1, es, es2, e1, e2, not_true_eq_false, and_self]
    by_cases c4 : (a : Int) + w + t ≤ 9999
    · simp +decide (disch := omega) only [c4, gl_e, iI_lit, iI_neg, iI_add, iI_sub, iI_mul, gk_t, b_some, bz0, bz1, pI_row, pI_snd, pA_row, pA_snd, pL_fst, pL_row, pB_fst, pB_row, upd_at, ↓reduceIte, Int.reduceToNat, Nat.reduceEqDiff, iI_lt, iI_le, iI_eq, iI_inb, iI_nat, iI_nz, e1, e2, es, es2, Int.toNat_natCast]
      refine ⟨_, _, _, rfl, rfl, ⟨n, nb, hP, hC, hT, ?_, hI, hK, RSs_x hS (fun c h1 h2 => by simp (disch := omega) only [pI_off, pA_off])⟩, hL⟩
      have e : ((a : Int) + (w + t)) = (((a : Int) + (w + t)).toNat : Int) := by omega
      refine ⟨⟨k, Or.inl ⟨hk, rfl, rfl⟩⟩, ⟨((a : Int) + (w + t)).toNat, by omega, ?_, ?_⟩, ⟨?_, ?_, ?_, e6⟩, fun i hi => ?_, fun i h1 h2 => ?_⟩
      · rw [← e]; rfl
      · rw [← e]; rfl
      · show m.1 18 0 + iI w = x.1 37 3 + iI w
        rw [e3]
      · show m.1 18 1 + iI 1 = x.1 37 4 + iI 1
        rw [e4]
      · show m.1 18 2 + iI t = x.1 37 5 + iI t
        rw [e5]
      · show upd (m.1 17) k (m.1 17 k + iI 1) i = upd (x.1 38) k (x.1 38 k + iI 1) i
        rw [upd_at, upd_at, hd1 i hi, hd1 k (by omega)]
      · show upd (x.1 38) k (x.1 38 k + iI 1) i = iI 0
        rw [upd_at, if_neg (by omega)]
        exact hd2 i h1 h2
    · simp +decide (disch := omega) only [c4, gl_e, iI_lit, iI_neg, iI_add, iI_sub, iI_mul, gk_t, b_some, bz0, bz1, pI_row, pI_snd, pA_row, pA_snd, pL_fst, pL_row, pB_fst, pB_row, upd_at, ↓reduceIte, Int.reduceToNat, Nat.reduceEqDiff, iI_lt, iI_le, iI_eq, iI_inb, iI_nat, iI_nz, e1, e2, es, es2]
      exact ⟨_, _, _, rfl, rfl, hR⟩
  · simp only [c1, not_false_eq_true, ↓reduceIte]
    exact ⟨_, _, _, rfl, rfl, hR⟩
