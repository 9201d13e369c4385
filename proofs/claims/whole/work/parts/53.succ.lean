/-! ===== success ===== -/
def tw4 (cf cb : Bool) (p : Int) : Int := (if cf then p else 0) + (if cb then 12 - p else 0)
def b4 (cf cb : Bool) : Int := if cf then (if cb then 3 else 1) else (if cb then 2 else 0)
theorem s_tw (σ : gS) (cf cb : Bool) (p : Int) : f_X9_twelfths σ (iI (b4 cf cb)) (iI p) = some (iI (tw4 cf cb p)) := by
  unfold f_X9_twelfths f_X9_twelfths_11 tw4 b4
  cases cf <;> cases cb <;> simp only [Bool.false_eq_true, ↓reduceIte]
  · rw [if_pos (by decide), if_pos (by decide)]
    rfl
  · rw [if_pos (by decide), if_neg (by decide), show (12 : Int32) = iI 12 from rfl, show (0 : Int32) = iI 0 from rfl, iI_sub, iI_add]
  · rw [if_neg (by decide), if_pos (by decide), show (0 : Int32) = iI 0 from rfl, iI_add]
  · rw [if_neg (by decide), if_neg (by decide), show (12 : Int32) = iI 12 from rfl, iI_sub, iI_add]
theorem tw4_rg {p : Int} (h1 : 0 ≤ p) (h2 : p ≤ 12) (cf cb : Bool) : 0 ≤ tw4 cf cb p ∧ tw4 cf cb p ≤ 12 := by
  unfold tw4
  cases cf <;> cases cb <;> simp <;> omega
theorem s_succ {m : gS} {k sd : Nat} {w : Nat → Nat → Nat} {S : Nat → Nat} {p : Nat} (hB : SB w sd S k p m) {v N : Nat} (hv : v + N ≤ 2000) (q : Int) : f_X10_succeeds m (iI v) (iI q) (iI N) = some (iI (tw4 (frb (dn w sd S k p) (wdo sd) v N) (frb (dn w sd (rvS S k) k p) (wdo sd) v N) q)) := by
  have a := s_frM0 hB hv
  have b := s_frM1 hB hv
  unfold f_X10_succeeds f_X10_succeeds_15 tw4
  generalize frb (dn w sd S k p) (wdo sd) v N = cf at a
  generalize frb (dn w sd (rvS S k) k p) (wdo sd) v N = cb at b
  cases cf <;> cases cb <;> simp +decide (maxSteps := 2000000) (disch := omega) only [↓gl_p, ↓bs_p, iI_lit, iI_neg, iI_add, iI_sub, iI_mul, gk_p, bs_p, bz0, bz1, pI_row, pI_snd, pA_row, pA_snd, pL_fst, pL_row, pB_fst, pB_row, upd_at, ↓reduceIte, Int.reduceToNat, Nat.reduceEqDiff, iI_lt, iI_le, iI_eq, iI_inb, iI_nat, iI_nz, a, b, bB_0, Bool.false_eq_true, Bool.true_eq_false]
theorem s_odd (σ : gS) {a : Int} (h1 : -2147483648 ≤ a) (h2 : a < 2147483648) : f_X9_isOddsAndNeed σ (iI a) = some (bI (0 ≤ a ∧ a / 100 ≤ 12 ∧ 1 ≤ a - a / 100 * 100)) ∧ f_X10_isMix σ (iI a) = some (bI (0 ≤ a ∧ a / 100 ≤ 12 ∧ 1 ≤ a - a / 100 * 100)) := by
  unfold f_X9_isOddsAndNeed f_X10_isMix bI
  by_cases c : a < 0
  · have c2 : ¬ (0 ≤ a ∧ a / 100 ≤ 12 ∧ 1 ≤ a - a / 100 * 100) := by omega
    rw [if_neg c2]
    simp +decide (maxSteps := 2000000) (disch := omega) only [↓gl_p, ↓bs_p, iI_lit, iI_neg, iI_add, iI_sub, iI_mul, gk_p, bs_p, bz0, bz1, pI_row, pI_snd, pA_row, pA_snd, pL_fst, pL_row, pB_fst, pB_row, upd_at, ↓reduceIte, Int.reduceToNat, Nat.reduceEqDiff, iI_lt, iI_le, iI_eq, iI_inb, iI_nat, iI_nz, c]
  · have ed : iI a / iI 100 = iI (a / 100) := iI_div (by omega) (by omega) (by omega) (by omega)
    by_cases c3 : 12 < a / 100
    · have c2 : ¬ (0 ≤ a ∧ a / 100 ≤ 12 ∧ 1 ≤ a - a / 100 * 100) := by omega
      have c4 : 13 ≤ a / 100 := by omega
      rw [if_neg c2]
      simp +decide (maxSteps := 2000000) (disch := omega) only [↓gl_p, ↓bs_p, iI_lit, iI_neg, iI_add, iI_sub, iI_mul, gk_p, bs_p, bz0, bz1, pI_row, pI_snd, pA_row, pA_snd, pL_fst, pL_row, pB_fst, pB_row, upd_at, ↓reduceIte, Int.reduceToNat, Nat.reduceEqDiff, iI_lt, iI_le, iI_eq, iI_inb, iI_nat, iI_nz, c, ed, c3, c4, and_self]
    · have c4 : ¬ 13 ≤ a / 100 := by omega
      by_cases c5 : 1 ≤ a - a / 100 * 100
      · have c2 : 0 ≤ a ∧ a / 100 ≤ 12 ∧ 1 ≤ a - a / 100 * 100 := by omega
        have c6 : ¬ a - a / 100 * 100 ≤ 0 := by omega
        have c7 : 1 ≤ a - a / 100 * 100 ∧ a - a / 100 * 100 ≤ 99 := by omega
        rw [if_pos c2]
        simp +decide (maxSteps := 2000000) (disch := omega) only [↓gl_p, ↓bs_p, iI_lit, iI_neg, iI_add, iI_sub, iI_mul, gk_p, bs_p, bz0, bz1, pI_row, pI_snd, pA_row, pA_snd, pL_fst, pL_row, pB_fst, pB_row, upd_at, ↓reduceIte, Int.reduceToNat, Nat.reduceEqDiff, iI_lt, iI_le, iI_eq, iI_inb, iI_nat, iI_nz, c, ed, c3, c4, c6, c7, s_need, bI_0, not_true_eq_false, and_self]
      · have c2 : ¬ (0 ≤ a ∧ a / 100 ≤ 12 ∧ 1 ≤ a - a / 100 * 100) := by omega
        have c6 : a - a / 100 * 100 ≤ 0 := by omega
        have c7 : ¬ (1 ≤ a - a / 100 * 100 ∧ a - a / 100 * 100 ≤ 99) := by omega
        rw [if_neg c2]
        simp +decide (maxSteps := 2000000) (disch := omega) only [↓gl_p, ↓bs_p, iI_lit, iI_neg, iI_add, iI_sub, iI_mul, gk_p, bs_p, bz0, bz1, pI_row, pI_snd, pA_row, pA_snd, pL_fst, pL_row, pB_fst, pB_row, upd_at, ↓reduceIte, Int.reduceToNat, Nat.reduceEqDiff, iI_lt, iI_le, iI_eq, iI_inb, iI_nat, iI_nz, c, ed, c3, c4, c6, c7, s_need, bI_0, not_false_eq_true, and_self]
/-- both courses laid -/
theorem lay4 {x m : gS} {n nb s : Nat} (hP : RP n (x.1 1 1) (x.1 2) (m.1 0 0) (m.1 1) (m.1 2) (m.1 3) (m.1 4) (m.1 5)) (hnb : nb ≤ 50) (hS : RSs nb x.1 x.2 (m.1 24) (m.1 25) (m.2 26)) (hs : s < 6) : (∃ b : Int, (b = -11 ∨ b = -12) ∧ f_X9_layBoth x (iI s) = some (iI b, x) ∧ f_X10_noRow m (iI s) (iI 0) = some (iI b)) ∨ (∃ k w sd S y m2, f_X9_layBoth x (iI s) = some (iI 0, y) ∧ f_X10_noRow m (iI s) (iI 0) = some (iI 0) ∧ f_X10_reads m (iI s) = some m2 ∧ Ch scX x y ∧ Ch rdC m m2 ∧ YD n w sd y ∧ YM n w sd m2 ∧ CO 26 n k w sd S y ∧ CO 29 n k w sd (rvS S k) y ∧ RO n k S m2) := by
  rcases lay3 hP hnb hS hs with ⟨b, hb, l1, l2⟩ | ⟨k, w, sd, S, y, m2, l1, l2, l3, h1, h2, hY, hM, hC, hO⟩
  · refine Or.inl ⟨b, hb, ?_, l2⟩
    have c : ¬ b = 0 := by omega
    unfold f_X9_layBoth
    simp +decide (maxSteps := 2000000) (disch := omega) only [↓gl_p, ↓bs_p, iI_lit, iI_neg, iI_add, iI_sub, iI_mul, gk_p, bs_p, bz0, bz1, pI_row, pI_snd, pA_row, pA_snd, pL_fst, pL_row, pB_fst, pB_row, upd_at, ↓reduceIte, Int.reduceToNat, Nat.reduceEqDiff, iI_lt, iI_le, iI_eq, iI_inb, iI_nat, iI_nz, l1, c]
  · obtain ⟨y2, t1, t2, t3⟩ := s_turnX hY hC
    refine Or.inr ⟨k, w, sd, S, y2, m2, ?_, l2, l3, Ch_tr (sc_co (by omega) (by omega) h1) (sc_co (by omega) (by omega) t2), h2, YD_ch hY t2 (fun _ => rfl) (fun _ => rfl), hM, CO_ch_26 hC t2 (fun _ => rfl) (fun _ => rfl) (fun _ => rfl), t3, hO⟩
    unfold f_X9_layBoth
    simp +decide (maxSteps := 2000000) (disch := omega) only [↓gl_p, ↓bs_p, iI_lit, iI_neg, iI_add, iI_sub, iI_mul, gk_p, bs_p, bz0, bz1, pI_row, pI_snd, pA_row, pA_snd, pL_fst, pL_row, pB_fst, pB_row, upd_at, ↓reduceIte, Int.reduceToNat, Nat.reduceEqDiff, iI_lt, iI_le, iI_eq, iI_inb, iI_nat, iI_nz, l1, t1]
theorem e_success (L : LawT) : EQ_success (Rel1 L) := by
  intro x m a1 a2 a3 a4 hR
  obtain ⟨s, rfl, hs1, hs2⟩ := iI_of a1
  obtain ⟨v, rfl, hv1, hv2⟩ := iI_of a2
  obtain ⟨t, rfl, ht1, ht2⟩ := iI_of a3
  obtain ⟨q, rfl, hq1, hq2⟩ := iI_of a4
  obtain ⟨⟨n, nb, hP, hC, hT, hD, hI, hK, hS⟩, hL⟩ := id hR
  have hn := hP.1
  have px := s_poX (σ := x) hn hP.2.1 hv1 hv2
  have pm := s_poM (σ := m) hn hP.2.2.1 hv1 hv2
  have ox := (s_odd x hq1 hq2).1
  have om := (s_odd m hq1 hq2).2
  unfold f_X9_success f_X10_success
  by_cases c1 : 0 ≤ s ∧ s ≤ 5
  rotate_left
  · simp +decide (maxSteps := 2000000) (disch := omega) only [↓gl_p, ↓bs_p, iI_lit, iI_neg, iI_add, iI_sub, iI_mul, gk_p, bs_p, bz0, bz1, pI_row, pI_snd, pA_row, pA_snd, pL_fst, pL_row, pB_fst, pB_row, upd_at, ↓reduceIte, Int.reduceToNat, Nat.reduceEqDiff, iI_lt, iI_le, iI_eq, iI_inb, iI_nat, iI_nz, c1, s_shX, s_shM, bI_0, not_false_eq_true]
    exact ⟨_, _, _, rfl, rfl, hR⟩
  by_cases c2 : 0 ≤ v ∧ v < n
  rotate_left
  · simp +decide (maxSteps := 2000000) (disch := omega) only [↓gl_p, ↓bs_p, iI_lit, iI_neg, iI_add, iI_sub, iI_mul, gk_p, bs_p, bz0, bz1, pI_row, pI_snd, pA_row, pA_snd, pL_fst, pL_row, pB_fst, pB_row, upd_at, ↓reduceIte, Int.reduceToNat, Nat.reduceEqDiff, iI_lt, iI_le, iI_eq, iI_inb, iI_nat, iI_nz, c1, c2, s_shX, s_shM, lL_i, px, pm, bI_0, not_false_eq_true, not_true_eq_false, and_self]
    exact ⟨_, _, _, rfl, rfl, hR⟩
  by_cases c3 : 0 ≤ t ∧ t ≤ 599
  rotate_left
  · by_cases c5 : t < 0
    · simp +decide (maxSteps := 2000000) (disch := omega) only [↓gl_p, ↓bs_p, iI_lit, iI_neg, iI_add, iI_sub, iI_mul, gk_p, bs_p, bz0, bz1, pI_row, pI_snd, pA_row, pA_snd, pL_fst, pL_row, pB_fst, pB_row, upd_at, ↓reduceIte, Int.reduceToNat, Nat.reduceEqDiff, iI_lt, iI_le, iI_eq, iI_inb, iI_nat, iI_nz, c1, c2, c3, c5, s_shX, s_shM, lL_i, px, pm, s_wi, bI_0, not_false_eq_true, not_true_eq_false, and_self]
      exact ⟨_, _, _, rfl, rfl, hR⟩
    · have c6 : 600 ≤ t := by omega
      simp +decide (maxSteps := 2000000) (disch := omega) only [↓gl_p, ↓bs_p, iI_lit, iI_neg, iI_add, iI_sub, iI_mul, gk_p, bs_p, bz0, bz1, pI_row, pI_snd, pA_row, pA_snd, pL_fst, pL_row, pB_fst, pB_row, upd_at, ↓reduceIte, Int.reduceToNat, Nat.reduceEqDiff, iI_lt, iI_le, iI_eq, iI_inb, iI_nat, iI_nz, c1, c2, c3, c5, c6, s_shX, s_shM, lL_i, px, pm, s_wi, bI_0, not_false_eq_true, not_true_eq_false, and_self]
      exact ⟨_, _, _, rfl, rfl, hR⟩
  have c5 : ¬ t < 0 := by omega
  have c6 : ¬ 600 ≤ t := by omega
  by_cases c4 : 0 ≤ q ∧ q / 100 ≤ 12 ∧ 1 ≤ q - q / 100 * 100
  rotate_left
  · simp +decide (maxSteps := 2000000) (disch := omega) only [↓gl_p, ↓bs_p, iI_lit, iI_neg, iI_add, iI_sub, iI_mul, gk_p, bs_p, bz0, bz1, pI_row, pI_snd, pA_row, pA_snd, pL_fst, pL_row, pB_fst, pB_row, upd_at, ↓reduceIte, Int.reduceToNat, Nat.reduceEqDiff, iI_lt, iI_le, iI_eq, iI_inb, iI_nat, iI_nz, c1, c2, c3, c5, c6, s_shX, s_shM, lL_i, px, pm, s_wi, ox, om, bI_0, c4, not_false_eq_true, not_true_eq_false, and_self]
    exact ⟨_, _, _, rfl, rfl, hR⟩
  obtain ⟨u, hu, rfl⟩ : ∃ k : Nat, k < 6 ∧ s = (k : Int) := ⟨s.toNat, by omega, by omega⟩
  obtain ⟨p, hp, rfl⟩ : ∃ k : Nat, k < n ∧ v = (k : Int) := ⟨v.toNat, by omega, by omega⟩
  obtain ⟨v, hv, rfl⟩ : ∃ k : Nat, k ≤ 599 ∧ t = (k : Int) := ⟨t.toNat, by omega, by omega⟩
  obtain ⟨N, hN⟩ : ∃ N : Nat, q - q / 100 * 100 = (N : Int) := ⟨(q - q / 100 * 100).toNat, by omega⟩
  have ed : iI q / iI 100 = iI (q / 100) := iI_div (by omega) (by omega) (by omega) (by omega)
  have oc := eq_true c4
  have oc2 := eq_true (show 0 ≤ q ∧ q / 100 ≤ 12 ∧ 1 ≤ (N : Int) by omega)
  rcases lay4 hP hK.1 hS hu with ⟨b, hb, l1, l2⟩ | ⟨k, w, sd, S, y, m2, l1, l2, l3, h1, h2, hY, hM, hC, hC2, hO⟩
  · have hb2 : ¬ 0 ≤ b := by omega
    simp +decide (maxSteps := 2000000) (disch := omega) only [↓gl_p, ↓bs_p, iI_lit, iI_neg, iI_add, iI_sub, iI_mul, gk_p, bs_p, bz0, bz1, pI_row, pI_snd, pA_row, pA_snd, pL_fst, pL_row, pB_fst, pB_row, upd_at, ↓reduceIte, Int.reduceToNat, Nat.reduceEqDiff, iI_lt, iI_le, iI_eq, iI_inb, iI_nat, iI_nz, c1, c2, c3, c5, c6, s_shX, s_shM, lL_i, px, pm, s_wi, ox, om, bI_0, oc, not_true_eq_false, and_self, l1, l2, hb2]
    exact ⟨_, _, _, rfl, rfl, hR⟩
  · have hw : ∀ p q, okP n p → okP n q → w p q ≤ 270 := fun p q hp hq => (hY.2.2.2.2 p q hp hq).1
    obtain ⟨m3, w1, w2, hB⟩ := s_both hn hw hY.2.1 hO hM hp
    have su := s_succ hB (v := v) (N := N) (by omega) (q / 100)
    obtain ⟨y2, f1, f2⟩ := s_frX_26 hY hC (v := v) (N := N) hp hv (by omega) (by omega)
    obtain ⟨y3, f3, f4⟩ := s_frX_29 (YD_ch hY f2 (fun _ => rfl) (fun _ => rfl)) (CO_ch_29 hC2 f2 (fun _ => rfl) (fun _ => rfl) (fun _ => rfl)) (v := v) (N := N) hp hv (by omega) (by omega)
    have hR2 := Rel1_sc hR (Ch_tr h1 (Ch_tr (sc_ga f2) (sc_ga f4))) (Ch_tr (sc_rd h2) (sc_bo w2))
    unfold f_X9_success_81 f_X9_success_104
    generalize frb (dn w sd S k p) (wdo sd) v N = cf at su f1
    generalize frb (dn w sd (rvS S k) k p) (wdo sd) v N = cb at su f3
    have tw := s_tw y3 cf cb (q / 100)
    unfold b4 at tw
    have o1 : iI 1 ||| iI 2 = iI 3 := by decide
    have o2 : iI 0 ||| iI 2 = iI 2 := by decide
    cases cf <;> cases cb <;> simp only [Bool.false_eq_true, ↓reduceIte] at tw
    · simp +decide (maxSteps := 2000000) (disch := omega) only [↓gl_p, ↓bs_p, iI_lit, iI_neg, iI_add, iI_sub, iI_mul, gk_p, bs_p, bz0, bz1, pI_row, pI_snd, pA_row, pA_snd, pL_fst, pL_row, pB_fst, pB_row, upd_at, ↓reduceIte, Int.reduceToNat, Nat.reduceEqDiff, iI_lt, iI_le, iI_eq, iI_inb, iI_nat, iI_nz, c1, c2, c3, c5, c6, s_shX, s_shM, lL_i, px, pm, s_wi, ox, om, bI_0, oc, oc2, not_true_eq_false, and_self, l1, l2, l3, w1, ed, hN, f1, f3, bB_0, Bool.true_eq_false, su, tw]
      exact ⟨_, _, _, rfl, rfl, hR2⟩
    · simp +decide (maxSteps := 2000000) (disch := omega) only [↓gl_p, ↓bs_p, iI_lit, iI_neg, iI_add, iI_sub, iI_mul, gk_p, bs_p, bz0, bz1, pI_row, pI_snd, pA_row, pA_snd, pL_fst, pL_row, pB_fst, pB_row, upd_at, ↓reduceIte, Int.reduceToNat, Nat.reduceEqDiff, iI_lt, iI_le, iI_eq, iI_inb, iI_nat, iI_nz, c1, c2, c3, c5, c6, s_shX, s_shM, lL_i, px, pm, s_wi, ox, om, bI_0, oc, oc2, not_true_eq_false, and_self, l1, l2, l3, w1, ed, hN, f1, f3, bB_0, Bool.true_eq_false, o2, su, tw]
      exact ⟨_, _, _, rfl, rfl, hR2⟩
    · simp +decide (maxSteps := 2000000) (disch := omega) only [↓gl_p, ↓bs_p, iI_lit, iI_neg, iI_add, iI_sub, iI_mul, gk_p, bs_p, bz0, bz1, pI_row, pI_snd, pA_row, pA_snd, pL_fst, pL_row, pB_fst, pB_row, upd_at, ↓reduceIte, Int.reduceToNat, Nat.reduceEqDiff, iI_lt, iI_le, iI_eq, iI_inb, iI_nat, iI_nz, c1, c2, c3, c5, c6, s_shX, s_shM, lL_i, px, pm, s_wi, ox, om, bI_0, oc, oc2, not_true_eq_false, and_self, l1, l2, l3, w1, ed, hN, f1, f3, bB_0, Bool.true_eq_false, su, tw]
      exact ⟨_, _, _, rfl, rfl, hR2⟩
    · simp +decide (maxSteps := 2000000) (disch := omega) only [↓gl_p, ↓bs_p, iI_lit, iI_neg, iI_add, iI_sub, iI_mul, gk_p, bs_p, bz0, bz1, pI_row, pI_snd, pA_row, pA_snd, pL_fst, pL_row, pB_fst, pB_row, upd_at, ↓reduceIte, Int.reduceToNat, Nat.reduceEqDiff, iI_lt, iI_le, iI_eq, iI_inb, iI_nat, iI_nz, c1, c2, c3, c5, c6, s_shX, s_shM, lL_i, px, pm, s_wi, ox, om, bI_0, oc, oc2, not_true_eq_false, and_self, l1, l2, l3, w1, ed, hN, f1, f3, bB_0, Bool.true_eq_false, o1, su, tw]
      exact ⟨_, _, _, rfl, rfl, hR2⟩
