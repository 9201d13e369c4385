/-! ===== best minute, mix ===== -/
/-- the first of the greatest, ahead of i -/
def amx (g : Nat → Int) : Nat → Nat
  | 0 => 0
  | i + 1 => if g (amx g i) < g i then i else amx g i
theorem amx_lt {g : Nat → Int} : ∀ i, amx g i = 0 ∨ amx g i < i := by
  intro i
  induction i with
  | zero => exact Or.inl rfl
  | succ i ih =>
    show (if g (amx g i) < g i then i else amx g i) = 0 ∨ (if g (amx g i) < g i then i else amx g i) < i + 1
    split <;> omega
theorem amx_max {g : Nat → Int} : ∀ i j, j < i → g j ≤ g (amx g i) := by
  intro i
  induction i with
  | zero =>
    intro j hj
    exact absurd hj (by omega)
  | succ i ih =>
    intro j hj
    show g j ≤ g (if g (amx g i) < g i then i else amx g i)
    by_cases c : g (amx g i) < g i
    · rw [if_pos c]
      by_cases e : j = i
      · rw [e]
        exact Int.le_refl _
      · have q := ih j (by omega)
        omega
    · rw [if_neg c]
      by_cases e : j = i
      · rw [e]
        omega
      · exact ih j (by omega)
theorem w_bmM {m : gS} {g : Nat → Int} {N : Nat} {q : Int} (hg : ∀ v : Nat, v < 600 → f_X10_succeeds m (iI v) (iI q) (iI N) = some (iI (g v))) (hr : ∀ v, 0 ≤ g v ∧ g v ≤ 12) : ∀ (r v f : Nat), v + 1 + r = 600 → r ≤ f → f_X10_bestMinute_8 m (f + 1) (iI q) (iI N) (iI (amx g (v + 1) : Nat)) (iI (g (amx g (v + 1)))) (iI (v + 1 : Nat)) = some (iI (amx g 600 : Nat)) := by
  intro r
  induction r with
  | zero =>
    intro v f hv hf
    have c : 600 ≤ ((v + 1 : Nat) : Int) := by omega
    rw [f_X10_bestMinute_8, show v + 1 = 600 by omega]
    simp +decide (maxSteps := 2000000) (disch := omega) only [↓gl_p, ↓bs_p, iI_lit, iI_neg, iI_add, iI_sub, iI_mul, gk_p, bs_p, bz0, bz1, pI_row, pI_snd, pA_row, pA_snd, pL_fst, pL_row, pB_fst, pB_row, upd_at, ↓reduceIte, Int.reduceToNat, Nat.reduceEqDiff, iI_lt, iI_le, iI_eq, iI_inb, iI_nat, iI_nz]
  | succ r ih =>
    intro v f hv hf
    obtain ⟨f, rfl⟩ : ∃ q, f = q + 1 := ⟨f - 1, by omega⟩
    have c : ¬ 600 ≤ ((v + 1 : Nat) : Int) := by omega
    have su := hg (v + 1) (by omega)
    have r1 := hr (v + 1)
    have r2 := hr (amx g (v + 1))
    have k2 := ih (v + 1) f (by omega) (by omega)
    rw [f_X10_bestMinute_8]
    by_cases c2 : g (amx g (v + 1)) < g (v + 1)
    · rw [show amx g (v + 1 + 1) = v + 1 from if_pos c2] at k2
      simp +decide (maxSteps := 2000000) (disch := omega) only [↓gl_p, ↓bs_p, iI_lit, iI_neg, iI_add, iI_sub, iI_mul, gk_p, bs_p, bz0, bz1, pI_row, pI_snd, pA_row, pA_snd, pL_fst, pL_row, pB_fst, pB_row, upd_at, ↓reduceIte, Int.reduceToNat, Nat.reduceEqDiff, iI_lt, iI_le, iI_eq, iI_inb, iI_nat, iI_nz, c, su, c2]
      exact k2
    · rw [show amx g (v + 1 + 1) = amx g (v + 1) from if_neg c2] at k2
      simp +decide (maxSteps := 2000000) (disch := omega) only [↓gl_p, ↓bs_p, iI_lit, iI_neg, iI_add, iI_sub, iI_mul, gk_p, bs_p, bz0, bz1, pI_row, pI_snd, pA_row, pA_snd, pL_fst, pL_row, pB_fst, pB_row, upd_at, ↓reduceIte, Int.reduceToNat, Nat.reduceEqDiff, iI_lt, iI_le, iI_eq, iI_inb, iI_nat, iI_nz, c, su, c2]
      exact k2
theorem s_bmM {m : gS} {g : Nat → Int} {N : Nat} {q : Int} (hg : ∀ v : Nat, v < 600 → f_X10_succeeds m (iI v) (iI q) (iI N) = some (iI (g v))) (hr : ∀ v, 0 ≤ g v ∧ g v ≤ 12) : f_X10_bestMinute m (iI q) (iI N) = some (iI (amx g 600 : Nat)) := by
  have k2 := w_bmM hg hr 599 0 999998 (by omega) (by omega)
  have su : f_X10_succeeds m (iI 0) (iI q) (iI N) = some (iI (g 0)) := hg 0 (by omega)
  have r0 := hr 0
  have c : -1 < g 0 := by omega
  have e : amx g (0 + 1) = 0 := by
    show (if g 0 < g 0 then 0 else 0) = 0
    rw [if_neg (by omega)]
  rw [e] at k2
  unfold f_X10_bestMinute
  rw [gN_s, f_X10_bestMinute_8]
  simp +decide (maxSteps := 2000000) (disch := omega) only [↓gl_p, ↓bs_p, iI_lit, iI_neg, iI_add, iI_sub, iI_mul, gk_p, bs_p, bz0, bz1, pI_row, pI_snd, pA_row, pA_snd, pL_fst, pL_row, pB_fst, pB_row, upd_at, ↓reduceIte, Int.reduceToNat, Nat.reduceEqDiff, iI_lt, iI_le, iI_eq, iI_inb, iI_nat, iI_nz, su, c]
  exact k2
theorem w_bmX {y : gS} {cf cb : Nat → Bool} (hy : ∀ t, t < 600 → y.1 44 t = iI (b4 (cf t) (cb t))) {x3 : Int32} {q x4 : Int} (hq : x3 / iI 100 = iI q) (q1 : 0 ≤ q) (q2 : q ≤ 12) (h4 : 0 ≤ x4 ∧ x4 ≤ 1) : ∀ (r v f : Nat), v + 1 + r = 600 → r ≤ f → f_X9_bestMinute_65 (f + 1) x3 (iI x4) (iI (amx (fun t => tw4 (cf t) (cb t) q) (v + 1) : Nat)) (iI (v + 1 : Nat)) y = some (iI (if x4 = 0 then ((amx (fun t => tw4 (cf t) (cb t) q) 600 : Nat) : Int) else tw4 (cf (amx (fun t => tw4 (cf t) (cb t) q) 600)) (cb (amx (fun t => tw4 (cf t) (cb t) q) 600)) q), y) := by
  intro r
  induction r with
  | zero =>
    intro v f hv hf
    have c : 600 ≤ ((v + 1 : Nat) : Int) := by omega
    have hl := amx_lt (g := fun t => tw4 (cf t) (cb t) q) 600
    have e0 := hy (amx (fun t => tw4 (cf t) (cb t) q) 600) (by omega)
    rw [f_X9_bestMinute_65, show v + 1 = 600 by omega]
    generalize amx (fun t => tw4 (cf t) (cb t) q) 600 = a at hl e0
    by_cases c4 : x4 = 0
    · rw [if_pos c4]
      simp +decide (maxSteps := 2000000) (disch := omega) only [↓gl_p, ↓bs_p, iI_lit, iI_neg, iI_add, iI_sub, iI_mul, gk_p, bs_p, bz0, bz1, pI_row, pI_snd, pA_row, pA_snd, pL_fst, pL_row, pB_fst, pB_row, upd_at, ↓reduceIte, Int.reduceToNat, Nat.reduceEqDiff, iI_lt, iI_le, iI_eq, iI_inb, iI_nat, iI_nz, eq_true c4]
    · rw [if_neg c4]
      simp +decide (maxSteps := 2000000) (disch := omega) only [↓gl_p, ↓bs_p, iI_lit, iI_neg, iI_add, iI_sub, iI_mul, gk_p, bs_p, bz0, bz1, pI_row, pI_snd, pA_row, pA_snd, pL_fst, pL_row, pB_fst, pB_row, upd_at, ↓reduceIte, Int.reduceToNat, Nat.reduceEqDiff, iI_lt, iI_le, iI_eq, iI_inb, iI_nat, iI_nz, c4, e0, hq, s_tw, Int.toNat_natCast]
  | succ r ih =>
    intro v f hv hf
    obtain ⟨f, rfl⟩ : ∃ q, f = q + 1 := ⟨f - 1, by omega⟩
    have c : ¬ 600 ≤ ((v + 1 : Nat) : Int) := by omega
    have hl := amx_lt (g := fun t => tw4 (cf t) (cb t) q) (v + 1)
    have e0 := hy (amx (fun t => tw4 (cf t) (cb t) q) (v + 1)) (by omega)
    have e1 := hy (v + 1) (by omega)
    have k2 := ih (v + 1) f (by omega) (by omega)
    rw [f_X9_bestMinute_65]
    have ea : amx (fun t => tw4 (cf t) (cb t) q) (v + 1 + 1) = if tw4 (cf (amx (fun t => tw4 (cf t) (cb t) q) (v + 1))) (cb (amx (fun t => tw4 (cf t) (cb t) q) (v + 1))) q < tw4 (cf (v + 1)) (cb (v + 1)) q then v + 1 else amx (fun t => tw4 (cf t) (cb t) q) (v + 1) := rfl
    rw [ea] at k2
    generalize amx (fun t => tw4 (cf t) (cb t) q) (v + 1) = a at hl e0 k2
    have r1 := tw4_rg q1 q2 (cf (v + 1)) (cb (v + 1))
    have r2 := tw4_rg q1 q2 (cf a) (cb a)
    by_cases c2 : tw4 (cf a) (cb a) q < tw4 (cf (v + 1)) (cb (v + 1)) q
    · have c3 : ¬ tw4 (cf (v + 1)) (cb (v + 1)) q ≤ tw4 (cf a) (cb a) q := by omega
      rw [if_pos c2] at k2
      simp +decide (maxSteps := 2000000) (disch := omega) only [↓gl_p, ↓bs_p, iI_lit, iI_neg, iI_add, iI_sub, iI_mul, gk_p, bs_p, bz0, bz1, pI_row, pI_snd, pA_row, pA_snd, pL_fst, pL_row, pB_fst, pB_row, upd_at, ↓reduceIte, Int.reduceToNat, Nat.reduceEqDiff, iI_lt, iI_le, iI_eq, iI_inb, iI_nat, iI_nz, c, e0, e1, hq, s_tw, c3, Int.toNat_natCast]
      exact k2
    · have c3 : tw4 (cf (v + 1)) (cb (v + 1)) q ≤ tw4 (cf a) (cb a) q := by omega
      rw [if_neg c2] at k2
      simp +decide (maxSteps := 2000000) (disch := omega) only [↓gl_p, ↓bs_p, iI_lit, iI_neg, iI_add, iI_sub, iI_mul, gk_p, bs_p, bz0, bz1, pI_row, pI_snd, pA_row, pA_snd, pL_fst, pL_row, pB_fst, pB_row, upd_at, ↓reduceIte, Int.reduceToNat, Nat.reduceEqDiff, iI_lt, iI_le, iI_eq, iI_inb, iI_nat, iI_nz, c, e0, e1, hq, s_tw, c3, Int.toNat_natCast]
      exact k2
theorem e_bestMinute (L : LawT) : EQ_bestMinute (Rel1 L) := by
  intro x m a1 a2 a3 a4 hR
  obtain ⟨s, rfl, hs1, hs2⟩ := iI_of a1
  obtain ⟨v, rfl, hv1, hv2⟩ := iI_of a2
  obtain ⟨q, rfl, hq1, hq2⟩ := iI_of a3
  obtain ⟨t, rfl, ht1, ht2⟩ := iI_of a4
  obtain ⟨⟨n, nb, hP, hC, hT, hD, hI, hK, hS⟩, hL⟩ := id hR
  have hn := hP.1
  have px := s_poX (σ := x) hn hP.2.1 hv1 hv2
  have pm := s_poM (σ := m) hn hP.2.2.1 hv1 hv2
  have ox := (s_odd x hq1 hq2).1
  have om := (s_odd m hq1 hq2).2
  unfold f_X9_bestMinute f_X10_bestMinute_
  by_cases c1 : 0 ≤ s ∧ s ≤ 5
  rotate_left
  · simp +decide (maxSteps := 2000000) (disch := omega) only [↓gl_p, ↓bs_p, iI_lit, iI_neg, iI_add, iI_sub, iI_mul, gk_p, bs_p, bz0, bz1, pI_row, pI_snd, pA_row, pA_snd, pL_fst, pL_row, pB_fst, pB_row, upd_at, ↓reduceIte, Int.reduceToNat, Nat.reduceEqDiff, iI_lt, iI_le, iI_eq, iI_inb, iI_nat, iI_nz, c1, s_shX, s_shM, bI_0, not_false_eq_true]
    exact ⟨_, _, _, rfl, rfl, hR⟩
  by_cases c2 : 0 ≤ v ∧ v < n
  rotate_left
  · simp +decide (maxSteps := 2000000) (disch := omega) only [↓gl_p, ↓bs_p, iI_lit, iI_neg, iI_add, iI_sub, iI_mul, gk_p, bs_p, bz0, bz1, pI_row, pI_snd, pA_row, pA_snd, pL_fst, pL_row, pB_fst, pB_row, upd_at, ↓reduceIte, Int.reduceToNat, Nat.reduceEqDiff, iI_lt, iI_le, iI_eq, iI_inb, iI_nat, iI_nz, c1, c2, s_shX, s_shM, lL_i, px, pm, bI_0, not_false_eq_true, not_true_eq_false, and_self]
    exact ⟨_, _, _, rfl, rfl, hR⟩
  by_cases c4 : 0 ≤ q ∧ q / 100 ≤ 12 ∧ 1 ≤ q - q / 100 * 100
  rotate_left
  · simp +decide (maxSteps := 2000000) (disch := omega) only [↓gl_p, ↓bs_p, iI_lit, iI_neg, iI_add, iI_sub, iI_mul, gk_p, bs_p, bz0, bz1, pI_row, pI_snd, pA_row, pA_snd, pL_fst, pL_row, pB_fst, pB_row, upd_at, ↓reduceIte, Int.reduceToNat, Nat.reduceEqDiff, iI_lt, iI_le, iI_eq, iI_inb, iI_nat, iI_nz, c1, c2, s_shX, s_shM, lL_i, px, pm, ox, om, bI_0, c4, not_false_eq_true, not_true_eq_false, and_self]
    exact ⟨_, _, _, rfl, rfl, hR⟩
  have oc := eq_true c4
  by_cases c3 : 0 ≤ t ∧ t ≤ 1
  rotate_left
  · simp +decide (maxSteps := 2000000) (disch := omega) only [↓gl_p, ↓bs_p, iI_lit, iI_neg, iI_add, iI_sub, iI_mul, gk_p, bs_p, bz0, bz1, pI_row, pI_snd, pA_row, pA_snd, pL_fst, pL_row, pB_fst, pB_row, upd_at, ↓reduceIte, Int.reduceToNat, Nat.reduceEqDiff, iI_lt, iI_le, iI_eq, iI_inb, iI_nat, iI_nz, c1, c2, c3, s_shX, s_shM, lL_i, px, pm, s_wi, s_eith, ox, om, oc, bI_0, not_false_eq_true, not_true_eq_false, and_self]
    exact ⟨_, _, _, rfl, rfl, hR⟩
  obtain ⟨u, hu, rfl⟩ : ∃ k : Nat, k < 6 ∧ s = (k : Int) := ⟨s.toNat, by omega, by omega⟩
  obtain ⟨p, hp, rfl⟩ : ∃ k : Nat, k < n ∧ v = (k : Int) := ⟨v.toNat, by omega, by omega⟩
  obtain ⟨N, hN⟩ : ∃ N : Nat, q - q / 100 * 100 = (N : Int) := ⟨(q - q / 100 * 100).toNat, by omega⟩
  have ed : iI q / iI 100 = iI (q / 100) := iI_div (by omega) (by omega) (by omega) (by omega)
  have oc2 := eq_true (show 0 ≤ q ∧ q / 100 ≤ 12 ∧ 1 ≤ (N : Int) by omega)
  rcases lay4 hP hK.1 hS hu with ⟨b, hb, l1, l2⟩ | ⟨k, w, sd, S, y, m2, l1, l2, l3, h1, h2, hY, hM, hC, hC2, hO⟩
  · have hb2 : ¬ 0 ≤ b := by omega
    simp +decide (maxSteps := 2000000) (disch := omega) only [↓gl_p, ↓bs_p, iI_lit, iI_neg, iI_add, iI_sub, iI_mul, gk_p, bs_p, bz0, bz1, pI_row, pI_snd, pA_row, pA_snd, pL_fst, pL_row, pB_fst, pB_row, upd_at, ↓reduceIte, Int.reduceToNat, Nat.reduceEqDiff, iI_lt, iI_le, iI_eq, iI_inb, iI_nat, iI_nz, c1, c2, c3, s_shX, s_shM, lL_i, px, pm, s_wi, s_eith, ox, om, bI_0, oc, not_true_eq_false, and_self, l1, l2, hb2]
    exact ⟨_, _, _, rfl, rfl, hR⟩
  · have hw : ∀ p q, okP n p → okP n q → w p q ≤ 270 := fun p q hp hq => (hY.2.2.2.2 p q hp hq).1
    obtain ⟨m3, w1, w2, hB⟩ := s_both hn hw hY.2.1 hO hM hp
    have su := fun (v : Nat) (hv : v < 600) => s_succ hB (v := v) (N := N) (by omega) (q / 100)
    obtain ⟨y2, f1, f2, f3⟩ := s_mark hY hC hC2 hp (N := N) (by omega) (by omega)
    have hR2 := Rel1_sc hR (Ch_tr h1 (sc_mf f2)) (Ch_tr (sc_rd h2) (sc_bo w2))
    have hg := s_bmM (g := fun t => tw4 (frb (dn w sd S k p) (wdo sd) t N) (frb (dn w sd (rvS S k) k p) (wdo sd) t N) (q / 100)) su (fun v => tw4_rg (by omega) (by omega) _ _)
    have bx := w_bmX (cf := fun t => frb (dn w sd S k p) (wdo sd) t N) (cb := fun t => frb (dn w sd (rvS S k) k p) (wdo sd) t N) f3 (x3 := iI q) ed (by omega) (by omega) c3 599 0 999999 (by omega) (by omega)
    have hl := amx_lt (g := fun t => tw4 (frb (dn w sd S k p) (wdo sd) t N) (frb (dn w sd (rvS S k) k p) (wdo sd) t N) (q / 100)) 600
    have su2 := su (amx (fun t => tw4 (frb (dn w sd S k p) (wdo sd) t N) (frb (dn w sd (rvS S k) k p) (wdo sd) t N) (q / 100)) 600) (by omega)
    have e0 : amx (fun t => tw4 (frb (dn w sd S k p) (wdo sd) t N) (frb (dn w sd (rvS S k) k p) (wdo sd) t N) (q / 100)) (0 + 1) = 0 := by
      show (if _ < _ then 0 else 0) = 0
      split <;> rfl
    rw [e0] at bx
    have bx' : f_X9_bestMinute_65 gN (iI q) (iI t) (iI 0) (iI 1) y2 = _ := bx
    by_cases c6 : t = 0
    · rw [if_pos c6] at bx'
      simp +decide (maxSteps := 2000000) (disch := omega) only [↓gl_p, ↓bs_p, iI_lit, iI_neg, iI_add, iI_sub, iI_mul, gk_p, bs_p, bz0, bz1, pI_row, pI_snd, pA_row, pA_snd, pL_fst, pL_row, pB_fst, pB_row, upd_at, ↓reduceIte, Int.reduceToNat, Nat.reduceEqDiff, iI_lt, iI_le, iI_eq, iI_inb, iI_nat, iI_nz, c1, c2, c3, s_shX, s_shM, lL_i, px, pm, s_wi, s_eith, ox, om, bI_0, oc, oc2, not_true_eq_false, and_self, l1, l2, l3, w1, ed, hN, f1, hg, bx', eq_true c6]
      exact ⟨_, _, _, rfl, rfl, hR2⟩
    · rw [if_neg c6] at bx'
      simp +decide (maxSteps := 2000000) (disch := omega) only [↓gl_p, ↓bs_p, iI_lit, iI_neg, iI_add, iI_sub, iI_mul, gk_p, bs_p, bz0, bz1, pI_row, pI_snd, pA_row, pA_snd, pL_fst, pL_row, pB_fst, pB_row, upd_at, ↓reduceIte, Int.reduceToNat, Nat.reduceEqDiff, iI_lt, iI_le, iI_eq, iI_inb, iI_nat, iI_nz, c1, c2, c3, s_shX, s_shM, lL_i, px, pm, s_wi, s_eith, ox, om, bI_0, oc, oc2, not_true_eq_false, and_self, l1, l2, l3, w1, ed, hN, f1, hg, bx', c6, su2]
      exact ⟨_, _, _, rfl, rfl, hR2⟩
