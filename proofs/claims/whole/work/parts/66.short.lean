/-! ===== shortest, left out ===== -/
theorem Pm_full {mem : List Nat} (h : mem.length ≤ 7) : Pm mem (2 ^ mem.length - 1) = mem := by
  unfold Pm
  have e : (List.range mem.length).filter (fun i => (2 ^ mem.length - 1).testBit i) = List.range mem.length := List.filter_eq_self.mpr (fun a ha => by
    have := List.mem_range.mp ha
    rw [mkB5 mem.length (by omega) a (by omega)]
    simpa using this)
  rw [e]
  exact gD_self mem
theorem sc_tR {x y : gS} (h : Ch tuR x y) : Ch scX x y := Ch_mo h fun c j hd => by
  unfold scX at hd
  unfold tuR
  simp at hd ⊢
  omega
theorem tR_7 {x y : gS} (h : Ch r7C x y) : Ch tuR x y := Ch_mo h fun c j hd => by
  unfold tuR at hd
  unfold r7C
  simp at hd ⊢
  omega
theorem tR_6 {x y : gS} (h : Ch t36 x y) : Ch tuR x y := Ch_mo h fun c j hd => by
  unfold tuR at hd
  unfold t36
  simp at hd ⊢
  omega
theorem s_reck {x : gS} {n sd s : Nat} {w : Nat → Nat → Nat} (hY : YD n w sd x) (hs : s < 2 ^ n) (h7 : (pfx s n).length ≤ 7) : ∃ τ, f_X7_reckon x (iI s) = some (iI ((bst w sd (pfx s n).length (pfx s n) 9).1 : Nat), τ) ∧ Ch tuR x τ ∧ TS (pfx s n) τ ∧ RTb w sd (pfx s n) (2 ^ (pfx s n).length) τ := by
  have hn := hY.1
  have hw : ∀ p q, okP n p → okP n q → w p q ≤ 270 := fun p q hp hq => (hY.2.2.2.2 p q hp hq).1
  have mo := pfx_memO h7
  obtain ⟨y, a1, a2, a3⟩ := w_rk7 (x := x) hn (pow9 hn hs) hY.2.2.1 h7 n 0 999999 (pI x 34 3 (iI 0)) (by omega) (by omega) (Ch_pI (Ch_refl _ _) rfl) ⟨rfl, fun i hi => absurd hi (Nat.not_lt_zero i)⟩
  have hp : 2 ^ (pfx s n).length ≤ 128 := Nat.pow_le_pow_right (by omega) h7
  obtain ⟨τ, b1, b2, b3⟩ := w_rk60 (YD_ch hY a2 (fun _ => rfl) (fun _ => rfl)) hw hY.2.1 mo a3 (2 ^ (pfx s n).length) 0 999999 y (by omega) (by omega) (Ch_refl _ _) (fun mk hmk => absurd hmk (by omega))
  refine ⟨τ, ?_, Ch_tr (tR_7 a2) (tR_6 b2), ⟨(b2.2 34 3 rfl).trans a3.1, fun i hi => (b2.2 35 i rfl).trans (a3.2 i hi)⟩, b3⟩
  have e : Vb w sd (pfx s n) (2 ^ (pfx s n).length - 1) 9 = bst w sd (pfx s n).length (pfx s n) 9 := by
    unfold Vb
    rw [Pm_full h7]
  rw [e] at b1
  unfold f_X7_reckon
  simp +decide (maxSteps := 2000000) (disch := omega) only [↓gl_p, ↓bs_p, iI_lit, iI_neg, iI_add, iI_sub, iI_mul, gk_p, bs_p, bz0, bz1, pI_row, pI_snd, pA_row, pA_snd, pL_fst, pL_row, pB_fst, pB_row, upd_at, ↓reduceIte, Int.reduceToNat, Nat.reduceEqDiff, iI_lt, iI_le, iI_eq, iI_inb, iI_nat, iI_nz]
  rw [show f_X7_reckon_7 gN (iI s) (iI 0) (pI x 34 3 (iI 0)) = _ from a1]
  exact b1
theorem s_isSX {x : gS} {n : Nat} (hn : n ≤ 9) (e : x.1 1 1 = iI n) {v : Int} (h1 : -2147483648 ≤ v) (h2 : v < 2147483648) : f_X8_isSet x (iI v) = some (bI (0 ≤ v ∧ v < (2 ^ n : Nat))) := by
  have b := mkB4 n (by omega)
  have hp : 2 ^ n ≤ 2 ^ 9 := Nat.pow_le_pow_right (by omega) hn
  have h6 : (2 : Nat) ^ 9 = 512 := by decide
  have hpos : 0 < 2 ^ n := Nat.pow_pos (by omega)
  generalize 2 ^ n = P at b hp hpos
  unfold f_X8_isSet f_X8_all bI
  simp +decide (maxSteps := 2000000) (disch := omega) only [↓gl_p, ↓bs_p, iI_lit, iI_neg, iI_add, iI_sub, iI_mul, gk_p, bs_p, bz0, bz1, pI_row, pI_snd, pA_row, pA_snd, pL_fst, pL_row, pB_fst, pB_row, upd_at, ↓reduceIte, Int.reduceToNat, Nat.reduceEqDiff, iI_lt, iI_le, iI_eq, iI_inb, iI_nat, iI_nz, e, b]
  (repeat' split) <;> first | rfl | (exfalso; omega)
theorem s_isSM {m : gS} {n : Nat} (hn : n ≤ 9) (e : m.1 0 0 = iI n) {v : Int} (h1 : -2147483648 ≤ v) (h2 : v < 2147483648) : f_X10_isSet m (iI v) = some (bI (0 ≤ v ∧ v < (2 ^ n : Nat))) := by
  have b := mkB4 n (by omega)
  have hp : 2 ^ n ≤ 2 ^ 9 := Nat.pow_le_pow_right (by omega) hn
  have h6 : (2 : Nat) ^ 9 = 512 := by decide
  have hpos : 0 < 2 ^ n := Nat.pow_pos (by omega)
  generalize 2 ^ n = P at b hp hpos
  unfold f_X10_isSet
  simp +decide (maxSteps := 2000000) (disch := omega) only [↓gl_p, ↓bs_p, iI_lit, iI_neg, iI_add, iI_sub, iI_mul, gk_p, bs_p, bz0, bz1, pI_row, pI_snd, pA_row, pA_snd, pL_fst, pL_row, pB_fst, pB_row, upd_at, ↓reduceIte, Int.reduceToNat, Nat.reduceEqDiff, iI_lt, iI_le, iI_eq, iI_inb, iI_nat, iI_nz, e, b, s_wi, bI_z]
  unfold bI
  (repeat' split) <;> first | rfl | (exfalso; omega)
theorem popc_le (s : Nat) : popc s ≤ 9 := by
  unfold popc
  have := List.length_filter_le (fun p => s.testBit p) (List.range 9)
  rw [List.length_range] at this
  exact this
theorem e_shortest (L : LawT) : EQ_shortest (Rel1 L) := by
  intro x m a1 a2 hR
  obtain ⟨v, rfl, hv1, hv2⟩ := iI_of a1
  obtain ⟨q, rfl, hq1, hq2⟩ := iI_of a2
  obtain ⟨⟨n, nb, hP, hC, hT, hD, hI, hK, hS⟩, hL⟩ := id hR
  have hn := hP.1
  have ix := s_isSX (x := x) hn hP.2.1 hv1 hv2
  have im := s_isSM (m := m) hn hP.2.2.1 hv1 hv2
  unfold f_X9_shortest f_X10_shortest
  by_cases c1 : 0 ≤ v ∧ v < (2 ^ n : Nat)
  rotate_left
  · simp +decide (maxSteps := 2000000) (disch := omega) only [↓gl_p, ↓bs_p, iI_lit, iI_neg, iI_add, iI_sub, iI_mul, gk_p, bs_p, bz0, bz1, pI_row, pI_snd, pA_row, pA_snd, pL_fst, pL_row, pB_fst, pB_row, upd_at, ↓reduceIte, Int.reduceToNat, Nat.reduceEqDiff, iI_lt, iI_le, iI_eq, iI_inb, iI_nat, iI_nz, ix, im, c1, bI_0, not_false_eq_true]
    exact ⟨_, _, _, rfl, rfl, hR⟩
  by_cases c2 : -1 ≤ q
  rotate_left
  · simp +decide (maxSteps := 2000000) (disch := omega) only [↓gl_p, ↓bs_p, iI_lit, iI_neg, iI_add, iI_sub, iI_mul, gk_p, bs_p, bz0, bz1, pI_row, pI_snd, pA_row, pA_snd, pL_fst, pL_row, pB_fst, pB_row, upd_at, ↓reduceIte, Int.reduceToNat, Nat.reduceEqDiff, iI_lt, iI_le, iI_eq, iI_inb, iI_nat, iI_nz, ix, im, eq_true c1, c2, bI_0, not_true_eq_false]
    exact ⟨_, _, _, rfl, rfl, hR⟩
  obtain ⟨s, hs, rfl⟩ : ∃ s : Nat, s < 2 ^ n ∧ v = (s : Int) := ⟨v.toNat, by omega, by omega⟩
  have bc := s_bitc x (pow9 hn hs)
  have bm := s_bitc m (pow9 hn hs)
  have pl := popc_le s
  by_cases c3 : popc s ≤ 7
  rotate_left
  · have c4 : ¬ ((popc s : Nat) : Int) ≤ 7 := by omega
    simp +decide (maxSteps := 2000000) (disch := omega) only [↓gl_p, ↓bs_p, iI_lit, iI_neg, iI_add, iI_sub, iI_mul, gk_p, bs_p, bz0, bz1, pI_row, pI_snd, pA_row, pA_snd, pL_fst, pL_row, pB_fst, pB_row, upd_at, ↓reduceIte, Int.reduceToNat, Nat.reduceEqDiff, iI_lt, iI_le, iI_eq, iI_inb, iI_nat, iI_nz, ix, im, eq_true c1, c2, bI_0, not_true_eq_false, bc, bm, c4]
    exact ⟨_, _, _, rfl, rfl, hR⟩
  have c4 : ((popc s : Nat) : Int) ≤ 7 := by omega
  have el := pfx_pop hn hs
  obtain ⟨w, sd, hY, hM⟩ := YD_of hP
  have hw : ∀ p q, okP n p → okP n q → w p q ≤ 270 := fun p q hp hq => (hY.2.2.2.2 p q hp hq).1
  obtain ⟨y, r1, r2, r3, r4⟩ := s_reck hY hs (by omega)
  have mo := pfx_memO (s := s) (n := n) (by omega)
  have bb := bst_bd hw hY.2.1 (pfx s n).length (pfx s n) 9 (fun x hx => pfx_in hx) (Or.inr rfl)
  have pw : (pfx s n).Pairwise (fun a b => a ≠ b) := (pfx_lt s n).imp (fun h => Nat.ne_of_lt h)
  have bl := bst_len (w := w) (sd := sd) (pfx s n).length (pfx s n) 9 rfl pw
  by_cases c5 : q < ((popc s : Nat) : Int)
  rotate_left
  · have c6 : ¬ q = -1 := by omega
    have c7 : (((pfx s n).length : Nat) : Int) ≤ q := by omega
    have hR2 := Rel1_sc (m := m) (k := m) hR (sc_tR r2) (Ch_refl _ _)
    simp +decide (maxSteps := 2000000) (disch := omega) only [↓gl_p, ↓bs_p, iI_lit, iI_neg, iI_add, iI_sub, iI_mul, gk_p, bs_p, bz0, bz1, pI_row, pI_snd, pA_row, pA_snd, pL_fst, pL_row, pB_fst, pB_row, upd_at, ↓reduceIte, Int.reduceToNat, Nat.reduceEqDiff, iI_lt, iI_le, iI_eq, iI_inb, iI_nat, iI_nz, ix, im, eq_true c1, c2, bI_0, not_true_eq_false, bc, bm, c4, c5, c6, r1, r3.1, c7]
    exact ⟨_, _, _, rfl, rfl, hR2⟩
  obtain ⟨m2, t1, t2, t3⟩ := s_shoM hn hw hY.2.1 hM hs (by omega)
  have hR2 := Rel1_sc hR (sc_tR r2) (sc_os t2)
  by_cases c6 : q = -1
  · simp +decide (maxSteps := 2000000) (disch := omega) only [↓gl_p, ↓bs_p, iI_lit, iI_neg, iI_add, iI_sub, iI_mul, gk_p, bs_p, bz0, bz1, pI_row, pI_snd, pA_row, pA_snd, pL_fst, pL_row, pB_fst, pB_row, upd_at, ↓reduceIte, Int.reduceToNat, Nat.reduceEqDiff, iI_lt, iI_le, iI_eq, iI_inb, iI_nat, iI_nz, ix, im, eq_true c1, c2, bI_0, not_true_eq_false, bc, bm, c4, c5, eq_true c6, r1, t1]
    exact ⟨_, _, _, rfl, rfl, hR2⟩
  · obtain ⟨k, hk, rfl⟩ : ∃ k : Nat, k < popc s ∧ q = (k : Int) := ⟨q.toNat, by omega, by omega⟩
    have c7 : ¬ (((pfx s n).length : Nat) : Int) ≤ (k : Int) := by omega
    have hp128 : 2 ^ (pfx s n).length ≤ 128 := Nat.pow_le_pow_right (by omega) (show (pfx s n).length ≤ 7 by omega)
    have hpos : 0 < 2 ^ (pfx s n).length := Nat.pow_pos (by omega)
    have e : Vb w sd (pfx s n) (2 ^ (pfx s n).length - 1) 9 = bst w sd (pfx s n).length (pfx s n) 9 := by
      unfold Vb
      rw [Pm_full (by omega)]
    have sa := w_sa (YD_ch hY r2 (fun _ => rfl) (fun _ => rfl)) hw hY.2.1 mo r3 r4 (k := k) (by omega) k 0 999998 9 (2 ^ (pfx s n).length - 1) (by omega) (by omega) (Or.inr rfl) (by omega) (by omega) (by rw [e, bl]; omega)
    rw [e] at sa
    have b4 := mkB4 (pfx s n).length (by omega)
    have e1 : ((2 ^ (pfx s n).length : Nat) : Int) - 1 = ((2 ^ (pfx s n).length - 1 : Nat) : Int) := by omega
    have st : f_X7_stopAt y (iI k) = some (iI ((bst w sd (pfx s n).length (pfx s n) 9).2.getD k 0)) := by
      unfold f_X7_stopAt
      simp +decide (maxSteps := 2000000) (disch := omega) only [↓gl_p, ↓bs_p, iI_lit, iI_neg, iI_add, iI_sub, iI_mul, gk_p, bs_p, bz0, bz1, pI_row, pI_snd, pA_row, pA_snd, pL_fst, pL_row, pB_fst, pB_row, upd_at, ↓reduceIte, Int.reduceToNat, Nat.reduceEqDiff, iI_lt, iI_le, iI_eq, iI_inb, iI_nat, iI_nz, r3.1, b4, e1]
      exact sa
    have t3k := t3 k (by omega)
    simp +decide (maxSteps := 2000000) (disch := omega) only [↓gl_p, ↓bs_p, iI_lit, iI_neg, iI_add, iI_sub, iI_mul, gk_p, bs_p, bz0, bz1, pI_row, pI_snd, pA_row, pA_snd, pL_fst, pL_row, pB_fst, pB_row, upd_at, ↓reduceIte, Int.reduceToNat, Nat.reduceEqDiff, iI_lt, iI_le, iI_eq, iI_inb, iI_nat, iI_nz, ix, im, eq_true c1, c2, bI_0, not_true_eq_false, bc, bm, c4, c5, c6, r1, t1, r3.1, c7, st, t3k, Int.toNat_natCast]
    exact ⟨_, _, _, rfl, rfl, hR2⟩
/-- without one of them -/
theorem pfx_clr {s n p : Nat} (hn : n ≤ 9) (hs : s < 512) (hp : p < 9) : pfx (clr9 s p) n = (pfx s n).filter (fun y => y != p) := by
  unfold pfx
  rw [List.filter_filter]
  refine List.filter_congr fun j hj => ?_
  have := List.mem_range.mp hj
  rw [mkB8 s hs p hp j (by omega), Bool.and_comm]
theorem w_left {y m : gS} {n sd s : Nat} {w : Nat → Nat → Nat} (hY : YD n w sd y) (hM : YM n w sd m) (hs : s < 2 ^ n) (h7 : (pfx s n).length ≤ 7) (hT : TS (pfx s n) y) (hR : RTb w sd (pfx s n) (2 ^ (pfx s n).length) y) {v : Int} (v1 : 0 ≤ v ∧ v ≤ 1) : ∀ (r p f f2 : Nat) (σ : gS) (fo le : Int), p + r = n → r ≤ f → r ≤ f2 → Ch osC m σ → ((fo = -2 ∧ le = -2) ∨ (0 ≤ fo ∧ fo ≤ 9 ∧ 0 ≤ le ∧ le ≤ 5000)) → ∃ q τ, f_X9_leftOut_51 (f + 1) (iI v) (iI fo) (iI le) (iI ((pfx s p).length : Nat)) y = some (q, y) ∧ f_X10_leftOut_41 (f2 + 1) (iI s) (iI v) (iI fo) (iI le) (iI p) σ = some (q, τ) ∧ Ch osC m τ := by
  have hn := hY.1
  have hw : ∀ p q, okP n p → okP n q → w p q ≤ 270 := fun p q hp hq => (hY.2.2.2.2 p q hp hq).1
  have mo := pfx_memO h7
  have hs9 := pow9 hn hs
  have hp128 : 2 ^ (pfx s n).length ≤ 128 := Nat.pow_le_pow_right (by omega) h7
  have hpos : 0 < 2 ^ (pfx s n).length := Nat.pow_pos (by omega)
  have b4 := mkB4 (pfx s n).length (by omega)
  intro r
  induction r with
  | zero =>
    intro p f f2 σ fo le hp hf hf2 hc hi
    have e : p = n := by omega
    subst e
    have s0 : σ.1 0 0 = iI p := (hc.2 0 0 rfl).trans hM.1
    have g : (p : Int) ≤ (p : Int) := by omega
    rw [f_X9_leftOut_51, f_X10_leftOut_41]
    by_cases c : v = 0
    · simp +decide (maxSteps := 2000000) (disch := omega) only [↓gl_p, ↓bs_p, iI_lit, iI_neg, iI_add, iI_sub, iI_mul, gk_p, bs_p, bz0, bz1, pI_row, pI_snd, pA_row, pA_snd, pL_fst, pL_row, pB_fst, pB_row, upd_at, ↓reduceIte, Int.reduceToNat, Nat.reduceEqDiff, iI_lt, iI_le, iI_eq, iI_inb, iI_nat, iI_nz, hT.1, s0, Int.le_refl, eq_true c]
      exact ⟨_, _, rfl, rfl, hc⟩
    · simp +decide (maxSteps := 2000000) (disch := omega) only [↓gl_p, ↓bs_p, iI_lit, iI_neg, iI_add, iI_sub, iI_mul, gk_p, bs_p, bz0, bz1, pI_row, pI_snd, pA_row, pA_snd, pL_fst, pL_row, pB_fst, pB_row, upd_at, ↓reduceIte, Int.reduceToNat, Nat.reduceEqDiff, iI_lt, iI_le, iI_eq, iI_inb, iI_nat, iI_nz, hT.1, s0, Int.le_refl, c]
      exact ⟨_, _, rfl, rfl, hc⟩
  | succ r ih =>
    intro p f f2 σ fo le hp hf hf2 hc hi
    obtain ⟨f, rfl⟩ : ∃ q, f = q + 1 := ⟨f - 1, by omega⟩
    obtain ⟨f2, rfl⟩ : ∃ q, f2 = q + 1 := ⟨f2 - 1, by omega⟩
    have s0 : σ.1 0 0 = iI n := (hc.2 0 0 rfl).trans hM.1
    have g : ¬ (n : Int) ≤ (p : Int) := by omega
    have b := mkB6 s hs9 p (by omega)
    cases hb : s.testBit p
    · rw [hb] at b
      have b2 : (iI s >>> (iI p &&& iI 31)) &&& iI 1 = iI 0 := b
      obtain ⟨q, τ, k1, k2, k3⟩ := ih (p + 1) (f + 1) f2 σ fo le (by omega) (by omega) (by omega) hc hi
      rw [pfx_n hb] at k1
      refine ⟨q, τ, k1, ?_, k3⟩
      rw [f_X10_leftOut_41]
      simp +decide (maxSteps := 2000000) (disch := omega) only [↓gl_p, ↓bs_p, iI_lit, iI_neg, iI_add, iI_sub, iI_mul, gk_p, bs_p, bz0, bz1, pI_row, pI_snd, pA_row, pA_snd, pL_fst, pL_row, pB_fst, pB_row, upd_at, ↓reduceIte, Int.reduceToNat, Nat.reduceEqDiff, iI_lt, iI_le, iI_eq, iI_inb, iI_nat, iI_nz, s0, g, b2]
      exact k2
    · rw [hb] at b
      have b2 : (iI s >>> (iI p &&& iI 31)) &&& iI 1 = iI 1 := b
      obtain ⟨X, hX⟩ := pfx_pre s (p + 1) r
      rw [show p + 1 + r = n by omega, pfx_y hb, List.append_assoc] at hX
      have eA : (pfx s n).getD (pfx s p).length 0 = p := by
        rw [hX]
        exact gD_x
      have hil : (pfx s p).length < (pfx s n).length := by
        rw [hX, List.length_append, List.length_append]
        show _ < _ + (1 + _)
        omega
      obtain ⟨d1, d2, d3, d4⟩ := mkB2 (2 ^ (pfx s n).length - 1) (by omega) (pfx s p).length (by omega)
      have sY : f_X7_leastFrom y (iI 9) (iI (clr (2 ^ (pfx s n).length - 1) (pfx s p).length : Nat)) = _ := s_lf hY hw hY.2.1 mo hT hR (p := 9) (mask := clr (2 ^ (pfx s n).length - 1) (pfx s p).length) (Or.inr rfl) (by
        by_cases q : (2 ^ (pfx s n).length - 1).testBit (pfx s p).length = true
        · have := d4 q
          omega
        · unfold clr
          rw [if_neg q]
          omega) (by
        by_cases q : (2 ^ (pfx s n).length - 1).testBit (pfx s p).length = true
        · have := d4 q
          omega
        · unfold clr
          rw [if_neg q]
          omega)
      have eV2 : Vb w sd (pfx s n) (clr (2 ^ (pfx s n).length - 1) (pfx s p).length) 9 = bst w sd ((pfx s n).filter (fun y => y != p)).length ((pfx s n).filter (fun y => y != p)) 9 := by
        unfold Vb
        rw [← Pm_clr mo (by omega) hil, Pm_full h7, eA]
      rw [eV2] at sY
      obtain ⟨c1, c2⟩ := mkB7 s hs9 p (by omega)
      have ep := pfx_clr (n := n) hn hs9 (show p < 9 by omega)
      have hl2 : (pfx (clr9 s p) n).length ≤ 7 := by
        rw [ep]
        have := List.length_filter_le (fun y => y != p) (pfx s n)
        omega
      obtain ⟨σ2, t1, t2, t3⟩ := s_shoM (m := σ) (s := clr9 s p) hn hw hY.2.1 (YM_ch hM hc rfl (fun _ => rfl) (fun _ => rfl) (fun _ => rfl)) (by omega) hl2
      rw [ep] at t1
      have bb := bst_bd hw hY.2.1 ((pfx s n).filter (fun y => y != p)).length ((pfx s n).filter (fun y => y != p)) 9 (fun x hx => pfx_in (List.mem_filter.mp hx).1) (Or.inr rfl)
      have bl : ((pfx s n).filter (fun y => y != p)).length ≤ 7 := by
        rw [← ep]
        exact hl2
      generalize (bst w sd ((pfx s n).filter (fun y => y != p)).length ((pfx s n).filter (fun y => y != p)) 9).1 = V at sY t1 bb
      have mw : f_X7_minutesWithout y (iI ((pfx s p).length : Nat)) = some (iI (V : Nat)) := by
        unfold f_X7_minutesWithout
        have e1 : ((2 ^ (pfx s n).length : Nat) : Int) - 1 = ((2 ^ (pfx s n).length - 1 : Nat) : Int) := by omega
        simp +decide (maxSteps := 2000000) (disch := omega) only [↓gl_p, ↓bs_p, iI_lit, iI_neg, iI_add, iI_sub, iI_mul, gk_p, bs_p, bz0, bz1, pI_row, pI_snd, pA_row, pA_snd, pL_fst, pL_row, pB_fst, pB_row, upd_at, ↓reduceIte, Int.reduceToNat, Nat.reduceEqDiff, iI_lt, iI_le, iI_eq, iI_inb, iI_nat, iI_nz, hT.1, b4, e1, d1, sY]
      have q1 := hT.2 (pfx s p).length hil
      rw [eA] at q1
      have el : (pfx s (p + 1)).length = (pfx s p).length + 1 := by
        rw [pfx_y hb, List.length_append]
        rfl
      have g2 : ¬ (((pfx s n).length : Nat) : Int) ≤ (((pfx s p).length : Nat) : Int) := by omega
      have take : ∃ q τ, f_X9_leftOut_87 (f_X9_leftOut_51 (f + 1)) (iI v) (iI ((pfx s p).length : Nat)) (iI (V : Nat)) y = some (q, y) ∧ f_X10_leftOut_92 (f_X10_leftOut_41 (f2 + 1)) (iI s) (iI v) (iI p) (iI (V : Nat)) σ2 = some (q, τ) ∧ Ch osC m τ := by
        obtain ⟨q, τ, k1, k2, k3⟩ := ih (p + 1) f f2 σ2 p V (by omega) (by omega) (by omega) (Ch_tr hc t2) (Or.inr (by omega))
        rw [el] at k1
        refine ⟨q, τ, ?_, ?_, k3⟩
        · unfold f_X9_leftOut_87
          simp +decide (maxSteps := 2000000) (disch := omega) only [↓gl_p, ↓bs_p, iI_lit, iI_neg, iI_add, iI_sub, iI_mul, gk_p, bs_p, bz0, bz1, pI_row, pI_snd, pA_row, pA_snd, pL_fst, pL_row, pB_fst, pB_row, upd_at, ↓reduceIte, Int.reduceToNat, Nat.reduceEqDiff, iI_lt, iI_le, iI_eq, iI_inb, iI_nat, iI_nz, q1, Int.toNat_natCast]
          exact k1
        · unfold f_X10_leftOut_92
          simp +decide (maxSteps := 2000000) (disch := omega) only [↓gl_p, ↓bs_p, iI_lit, iI_neg, iI_add, iI_sub, iI_mul, gk_p, bs_p, bz0, bz1, pI_row, pI_snd, pA_row, pA_snd, pL_fst, pL_row, pB_fst, pB_row, upd_at, ↓reduceIte, Int.reduceToNat, Nat.reduceEqDiff, iI_lt, iI_le, iI_eq, iI_inb, iI_nat, iI_nz]
          exact k2
      rw [f_X9_leftOut_51, f_X10_leftOut_41]
      by_cases c3 : fo = -2
      · obtain ⟨q, τ, k1, k2, k3⟩ := take
        refine ⟨q, τ, ?_, ?_, k3⟩
        · simp +decide (maxSteps := 2000000) (disch := omega) only [↓gl_p, ↓bs_p, iI_lit, iI_neg, iI_add, iI_sub, iI_mul, gk_p, bs_p, bz0, bz1, pI_row, pI_snd, pA_row, pA_snd, pL_fst, pL_row, pB_fst, pB_row, upd_at, ↓reduceIte, Int.reduceToNat, Nat.reduceEqDiff, iI_lt, iI_le, iI_eq, iI_inb, iI_nat, iI_nz, hT.1, g2, mw, eq_true c3]
          exact k1
        · simp +decide (maxSteps := 2000000) (disch := omega) only [↓gl_p, ↓bs_p, iI_lit, iI_neg, iI_add, iI_sub, iI_mul, gk_p, bs_p, bz0, bz1, pI_row, pI_snd, pA_row, pA_snd, pL_fst, pL_row, pB_fst, pB_row, upd_at, ↓reduceIte, Int.reduceToNat, Nat.reduceEqDiff, iI_lt, iI_le, iI_eq, iI_inb, iI_nat, iI_nz, s0, g, b2, c1, t1, eq_true c3]
          exact k2
      · by_cases c4 : le ≤ (V : Int)
        · have c5 : ¬ (V : Int) < le := by omega
          obtain ⟨q, τ, k1, k2, k3⟩ := ih (p + 1) f f2 σ2 fo le (by omega) (by omega) (by omega) (Ch_tr hc t2) hi
          rw [el] at k1
          refine ⟨q, τ, ?_, ?_, k3⟩
          · simp +decide (maxSteps := 2000000) (disch := omega) only [↓gl_p, ↓bs_p, iI_lit, iI_neg, iI_add, iI_sub, iI_mul, gk_p, bs_p, bz0, bz1, pI_row, pI_snd, pA_row, pA_snd, pL_fst, pL_row, pB_fst, pB_row, upd_at, ↓reduceIte, Int.reduceToNat, Nat.reduceEqDiff, iI_lt, iI_le, iI_eq, iI_inb, iI_nat, iI_nz, hT.1, g2, mw, c3, c4]
            exact k1
          · simp +decide (maxSteps := 2000000) (disch := omega) only [↓gl_p, ↓bs_p, iI_lit, iI_neg, iI_add, iI_sub, iI_mul, gk_p, bs_p, bz0, bz1, pI_row, pI_snd, pA_row, pA_snd, pL_fst, pL_row, pB_fst, pB_row, upd_at, ↓reduceIte, Int.reduceToNat, Nat.reduceEqDiff, iI_lt, iI_le, iI_eq, iI_inb, iI_nat, iI_nz, s0, g, b2, c1, t1, c3, c5]
            exact k2
        · have c5 : (V : Int) < le := by omega
          obtain ⟨q, τ, k1, k2, k3⟩ := take
          refine ⟨q, τ, ?_, ?_, k3⟩
          · simp +decide (maxSteps := 2000000) (disch := omega) only [↓gl_p, ↓bs_p, iI_lit, iI_neg, iI_add, iI_sub, iI_mul, gk_p, bs_p, bz0, bz1, pI_row, pI_snd, pA_row, pA_snd, pL_fst, pL_row, pB_fst, pB_row, upd_at, ↓reduceIte, Int.reduceToNat, Nat.reduceEqDiff, iI_lt, iI_le, iI_eq, iI_inb, iI_nat, iI_nz, hT.1, g2, mw, c3, c4]
            exact k1
          · simp +decide (maxSteps := 2000000) (disch := omega) only [↓gl_p, ↓bs_p, iI_lit, iI_neg, iI_add, iI_sub, iI_mul, gk_p, bs_p, bz0, bz1, pI_row, pI_snd, pA_row, pA_snd, pL_fst, pL_row, pB_fst, pB_row, upd_at, ↓reduceIte, Int.reduceToNat, Nat.reduceEqDiff, iI_lt, iI_le, iI_eq, iI_inb, iI_nat, iI_nz, s0, g, b2, c1, t1, c3, c5]
            exact k2
theorem e_leftOut (L : LawT) : EQ_leftOut (Rel1 L) := by
  intro x m a1 a2 hR
  obtain ⟨v, rfl, hv1, hv2⟩ := iI_of a1
  obtain ⟨q, rfl, hq1, hq2⟩ := iI_of a2
  obtain ⟨⟨n, nb, hP, hC, hT, hD, hI, hK, hS⟩, hL⟩ := id hR
  have hn := hP.1
  have ix := s_isSX (x := x) hn hP.2.1 hv1 hv2
  have im := s_isSM (m := m) hn hP.2.2.1 hv1 hv2
  unfold f_X9_leftOut f_X10_leftOut
  by_cases c1 : 0 ≤ v ∧ v < (2 ^ n : Nat)
  rotate_left
  · simp +decide (maxSteps := 2000000) (disch := omega) only [↓gl_p, ↓bs_p, iI_lit, iI_neg, iI_add, iI_sub, iI_mul, gk_p, bs_p, bz0, bz1, pI_row, pI_snd, pA_row, pA_snd, pL_fst, pL_row, pB_fst, pB_row, upd_at, ↓reduceIte, Int.reduceToNat, Nat.reduceEqDiff, iI_lt, iI_le, iI_eq, iI_inb, iI_nat, iI_nz, ix, im, c1, bI_0, not_false_eq_true]
    exact ⟨_, _, _, rfl, rfl, hR⟩
  by_cases c2 : 0 ≤ q ∧ q ≤ 1
  rotate_left
  · simp +decide (maxSteps := 2000000) (disch := omega) only [↓gl_p, ↓bs_p, iI_lit, iI_neg, iI_add, iI_sub, iI_mul, gk_p, bs_p, bz0, bz1, pI_row, pI_snd, pA_row, pA_snd, pL_fst, pL_row, pB_fst, pB_row, upd_at, ↓reduceIte, Int.reduceToNat, Nat.reduceEqDiff, iI_lt, iI_le, iI_eq, iI_inb, iI_nat, iI_nz, ix, im, eq_true c1, c2, s_eith, s_wi, bI_0, not_true_eq_false, not_false_eq_true]
    exact ⟨_, _, _, rfl, rfl, hR⟩
  obtain ⟨s, hs, rfl⟩ : ∃ s : Nat, s < 2 ^ n ∧ v = (s : Int) := ⟨v.toNat, by omega, by omega⟩
  have bc := s_bitc x (pow9 hn hs)
  have bm := s_bitc m (pow9 hn hs)
  have pl := popc_le s
  by_cases c3 : popc s ≤ 7
  rotate_left
  · have c4 : ¬ ((popc s : Nat) : Int) ≤ 7 := by omega
    simp +decide (maxSteps := 2000000) (disch := omega) only [↓gl_p, ↓bs_p, iI_lit, iI_neg, iI_add, iI_sub, iI_mul, gk_p, bs_p, bz0, bz1, pI_row, pI_snd, pA_row, pA_snd, pL_fst, pL_row, pB_fst, pB_row, upd_at, ↓reduceIte, Int.reduceToNat, Nat.reduceEqDiff, iI_lt, iI_le, iI_eq, iI_inb, iI_nat, iI_nz, ix, im, eq_true c1, eq_true c2, s_eith, s_wi, bI_0, not_true_eq_false, bc, bm, c4]
    exact ⟨_, _, _, rfl, rfl, hR⟩
  have c4 : ((popc s : Nat) : Int) ≤ 7 := by omega
  have el := pfx_pop hn hs
  obtain ⟨w, sd, hY, hM⟩ := YD_of hP
  obtain ⟨y, r1, r2, r3, r4⟩ := s_reck hY hs (by omega)
  obtain ⟨Q, τ, k1, k2, k3⟩ := w_left (YD_ch hY r2 (fun _ => rfl) (fun _ => rfl)) hM hs (by omega) r3 r4 c2 n 0 999999 999999 m (-2) (-2) (by omega) (by omega) (by omega) (Ch_refl _ _) (Or.inl ⟨rfl, rfl⟩)
  have hR2 := Rel1_sc hR (sc_tR r2) (sc_os k3)
  simp +decide (maxSteps := 2000000) (disch := omega) only [↓gl_p, ↓bs_p, iI_lit, iI_neg, iI_add, iI_sub, iI_mul, gk_p, bs_p, bz0, bz1, pI_row, pI_snd, pA_row, pA_snd, pL_fst, pL_row, pB_fst, pB_row, upd_at, ↓reduceIte, Int.reduceToNat, Nat.reduceEqDiff, iI_lt, iI_le, iI_eq, iI_inb, iI_nat, iI_nz, ix, im, eq_true c1, eq_true c2, s_eith, s_wi, bI_0, not_true_eq_false, bc, bm, c4, r1]
  exact ⟨_, _, _, k1, k2, hR2⟩
