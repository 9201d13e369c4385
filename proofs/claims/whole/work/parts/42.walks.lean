/-! ===== dents by a minute, and all of them ===== -/
section
variable {n k sd : Nat} {w : Nat → Nat → Nat} {S : Nat → Nat}
theorem offs_bd (hw : ∀ p q, okP n p → okP n q → w p q ≤ 270) (hd : sd ≤ 9) (hS : ∀ i, i < k → S i < n) : ∀ i, i < k → offs w sd S i ≤ 279 * i := by
  intro i
  induction i with
  | zero =>
    intro _
    exact Nat.le_refl 0
  | succ i ih =>
    intro hi
    have g := ih (by omega)
    have g2 := hw (S i) (S (i + 1)) (Or.inl (hS i (by omega))) (Or.inl (hS (i + 1) hi))
    show offs w sd S i + sd + w (S i) (S (i + 1)) ≤ _
    omega
theorem perd_bd (hw : ∀ p q, okP n p → okP n q → w p q ≤ 270) (hd : sd ≤ 9) (hS : ∀ i, i < k → S i < n) (hk : k ≤ 20) : perd w sd S k ≤ 5580 := by
  by_cases c : k = 0
  · unfold perd
    rw [if_pos c]
    omega
  · have g := offs_bd hw hd hS (k - 1) (by omega)
    have g2 := hw (S (k - 1)) (S 0) (Or.inl (hS (k - 1) (by omega))) (Or.inl (hS 0 (by omega)))
    rw [perd_e (by omega)]
    omega
end
theorem ej4 {a : Nat} (h : a ≤ 100000) : jmin (iI a) (iI 4000) = iI ((if 4000 < a then 4000 else a : Nat) : Int) := by
  rw [jmin_i (by omega) (by omega) (by omega) (by omega)]
  by_cases c : 4000 < a
  · rw [if_pos (by omega), if_pos c]
    rfl
  · rw [if_neg (by omega), if_neg c]
theorem w_d52_26 {x : gS} {n k sd : Nat} {w : Nat → Nat → Nat} {S : Nat → Nat} (hC : CO 26 n k w sd S x) (hw : ∀ p q, okP n p → okP n q → w p q ≤ 270) (hd : sd ≤ 9) (hp : 0 < perd w sd S k) {a q : Nat} (ha : a ≤ 1999) (hq : q ≤ 40000) : ∀ (r c f : Nat), c + r = k → r ≤ f → (∀ j, j < c → offs w sd S j ≤ a % perd w sd S k) → ∃ c2, c2 ≤ k ∧ (∀ j, j < c2 → offs w sd S j ≤ a % perd w sd S k) ∧ (c2 < k → a % perd w sd S k < offs w sd S c2) ∧ f_X1_dentsBy_52 x 26 (f + 1) (iI a) (iI (q + c : Nat)) (iI c) = some (iI ((if 4000 < q + c2 then 4000 else q + c2 : Nat) : Int)) := by
  obtain ⟨hk, hS, e4, e3, e5, eS⟩ := hC
  have bp := perd_bd hw hd hS hk
  have er : iI a - iI a / iI (perd w sd S k : Nat) * iI (perd w sd S k : Nat) = iI ((a % perd w sd S k : Nat) : Int) := iI_rem (by omega) hp (by omega)
  have hm : a % perd w sd S k < perd w sd S k := Nat.mod_lt a hp
  intro r
  induction r with
  | zero =>
    intro c f hc hf h1
    have g : (k : Int) ≤ (c : Int) := by omega
    refine ⟨c, by omega, h1, fun h => absurd h (by omega), ?_⟩
    rw [f_X1_dentsBy_52]
    unfold f_X1_dentsBy_86
    simp +decide (maxSteps := 2000000) (disch := omega) only [↓gl_p, ↓bs_p, iI_lit, iI_neg, iI_add, iI_sub, iI_mul, gk_p, bs_p, bz0, bz1, pI_row, pI_snd, pA_row, pA_snd, pL_fst, pL_row, pB_fst, pB_row, upd_at, ↓reduceIte, Int.reduceToNat, Nat.reduceEqDiff, iI_lt, iI_le, iI_eq, iI_inb, iI_nat, iI_nz, e4, g]
    rw [ej4 (by omega)]
  | succ r ih =>
    intro c f hc hf h1
    obtain ⟨f, rfl⟩ : ∃ q, f = q + 1 := ⟨f - 1, by omega⟩
    have g : ¬ (k : Int) ≤ (c : Int) := by omega
    have ec := (eS c (by omega)).2
    have bo := offs_bd hw hd hS c (by omega)
    have cz : ((perd w sd S k : Nat) : Int) ≠ 0 := by omega
    by_cases h : a % perd w sd S k < offs w sd S c
    · have h2 : ((a % perd w sd S k : Nat) : Int) < ((offs w sd S c : Nat) : Int) := by omega
      refine ⟨c, by omega, h1, fun _ => h, ?_⟩
      rw [f_X1_dentsBy_52]
      unfold f_X1_dentsBy_86
      simp +decide (maxSteps := 2000000) (disch := omega) only [↓gl_p, ↓bs_p, iI_lit, iI_neg, iI_add, iI_sub, iI_mul, gk_p, bs_p, bz0, bz1, pI_row, pI_snd, pA_row, pA_snd, pL_fst, pL_row, pB_fst, pB_row, upd_at, ↓reduceIte, Int.reduceToNat, Nat.reduceEqDiff, iI_lt, iI_le, iI_eq, iI_inb, iI_nat, iI_nz, Nat.reduceAdd, e4, e5, g, ec, er, h2, Int.toNat_natCast]
      rw [ej4 (by omega)]
    · have h2 : ¬ ((a % perd w sd S k : Nat) : Int) < ((offs w sd S c : Nat) : Int) := by omega
      obtain ⟨c2, b1, b2, b3, b4⟩ := ih (c + 1) f (by omega) (by omega) (fun j hj => by
        by_cases e : j = c
        · rw [e]
          omega
        · exact h1 j (by omega))
      refine ⟨c2, b1, b2, b3, ?_⟩
      rw [f_X1_dentsBy_52]
      simp +decide (maxSteps := 2000000) (disch := omega) only [↓gl_p, ↓bs_p, iI_lit, iI_neg, iI_add, iI_sub, iI_mul, gk_p, bs_p, bz0, bz1, pI_row, pI_snd, pA_row, pA_snd, pL_fst, pL_row, pB_fst, pB_row, upd_at, ↓reduceIte, Int.reduceToNat, Nat.reduceEqDiff, iI_lt, iI_le, iI_eq, iI_inb, iI_nat, iI_nz, Nat.reduceAdd, e4, e5, g, ec, er, h2, Int.toNat_natCast]
      exact b4
theorem s_dBy_26 {x : gS} {n k sd : Nat} {w : Nat → Nat → Nat} {S : Nat → Nat} (hC : CO 26 n k w sd S x) (hw : ∀ p q, okP n p → okP n q → w p q ≤ 270) (hd : sd ≤ 9) {v : Int} (v1 : -1 ≤ v) (v2 : v ≤ 1999) : ∃ C, f_X1_dentsBy x 26 (iI v) = some (iI (C : Nat)) ∧ isC (Tm w sd S k) v C := by
  obtain ⟨hk, hS, e4, e3, e5, eS⟩ := id hC
  have bp := perd_bd hw hd hS hk
  have ej : jmin (iI v) (iI 1999) = iI v := by
    rw [jmin_i (by omega) (by omega) (by omega) (by omega), if_neg (by omega)]
  unfold f_X1_dentsBy
  by_cases c0 : k = 0
  · have c1 : (k : Int) = 0 := by omega
    refine ⟨0, ?_, by omega, fun i hi => absurd hi (by omega), fun _ => ?_⟩
    · simp +decide (maxSteps := 2000000) (disch := omega) only [↓gl_p, ↓bs_p, iI_lit, iI_neg, iI_add, iI_sub, iI_mul, gk_p, bs_p, bz0, bz1, pI_row, pI_snd, pA_row, pA_snd, pL_fst, pL_row, pB_fst, pB_row, upd_at, ↓reduceIte, Int.reduceToNat, Nat.reduceEqDiff, iI_lt, iI_le, iI_eq, iI_inb, iI_nat, iI_nz, e4, c1]
    · unfold Tm
      rw [if_pos c0]
      omega
  have c1 : ¬ (k : Int) = 0 := by omega
  have el : ledM w S k = w 9 (S 0) := if_neg c0
  have wl := hw 9 (S 0) (Or.inr rfl) (Or.inl (hS 0 (by omega)))
  rw [el] at e3
  by_cases c2 : 0 ≤ v - ((w 9 (S 0) : Nat) : Int)
  rotate_left
  · refine ⟨0, ?_, by omega, fun i hi => absurd hi (by omega), fun _ => ?_⟩
    · simp +decide (maxSteps := 2000000) (disch := omega) only [↓gl_p, ↓bs_p, iI_lit, iI_neg, iI_add, iI_sub, iI_mul, gk_p, bs_p, bz0, bz1, pI_row, pI_snd, pA_row, pA_snd, pL_fst, pL_row, pB_fst, pB_row, upd_at, ↓reduceIte, Int.reduceToNat, Nat.reduceEqDiff, iI_lt, iI_le, iI_eq, iI_inb, iI_nat, iI_nz, e4, e3, c1, ej, c2]
    · rw [Tm_0 (by omega)]
      omega
  by_cases c3 : perd w sd S k = 0
  · have c4 : ((perd w sd S k : Nat) : Int) = 0 := by omega
    refine ⟨4000, ?_, by omega, fun i hi => ?_, fun h => absurd h (by omega)⟩
    · simp +decide (maxSteps := 2000000) (disch := omega) only [↓gl_p, ↓bs_p, iI_lit, iI_neg, iI_add, iI_sub, iI_mul, gk_p, bs_p, bz0, bz1, pI_row, pI_snd, pA_row, pA_snd, pL_fst, pL_row, pB_fst, pB_row, upd_at, ↓reduceIte, Int.reduceToNat, Nat.reduceEqDiff, iI_lt, iI_le, iI_eq, iI_inb, iI_nat, iI_nz, e4, e3, e5, c1, ej, c2, c4]
    · have g := offs_per (w := w) (sd := sd) (S := S) (k := k) (by omega) (Nat.mod_lt i (by omega))
      rw [Tm_e (by omega), c3, Nat.mul_zero]
      omega
  have c4 : ¬ ((perd w sd S k : Nat) : Int) = 0 := by omega
  obtain ⟨a, ha⟩ : ∃ a : Nat, v - ((w 9 (S 0) : Nat) : Int) = (a : Int) := ⟨(v - ((w 9 (S 0) : Nat) : Int)).toNat, by omega⟩
  have hq : a / perd w sd S k * k ≤ 40000 := by
    have g1 := Nat.mul_le_mul (Nat.div_le_self a (perd w sd S k)) hk
    omega
  obtain ⟨c, b1, b2, b3, b4⟩ := w_d52_26 hC hw hd (by omega) (a := a) (q := a / perd w sd S k * k) (by omega) hq k 0 999999 (by omega) (by omega) (fun j hj => absurd hj (by omega))
  refine ⟨_, ?_, isC_dent (by omega) (by omega) (by omega) b1 b2 b3 rfl⟩
  have ed : iI a / iI (perd w sd S k : Nat) = iI ((a / perd w sd S k : Nat) : Int) := iI_div (by omega) (by omega) (by omega) (by omega)
  rw [ha] at c2
  simp +decide (maxSteps := 2000000) (disch := omega) only [↓gl_p, ↓bs_p, iI_lit, iI_neg, iI_add, iI_sub, iI_mul, gk_p, bs_p, bz0, bz1, pI_row, pI_snd, pA_row, pA_snd, pL_fst, pL_row, pB_fst, pB_row, upd_at, ↓reduceIte, Int.reduceToNat, Nat.reduceEqDiff, iI_lt, iI_le, iI_eq, iI_inb, iI_nat, iI_nz, e4, e3, e5, c1, ej, ha, c2, c4, ed]
  exact b4
theorem s_stop_26 {x : gS} {n k sd : Nat} {w : Nat → Nat → Nat} {S : Nat → Nat} (hC : CO 26 n k w sd S x) (hk0 : 0 < k) {i : Nat} (hi : i ≤ 4000) : f_X1_stopOf x 26 (iI i) = some (iI (S (i % k))) := by
  obtain ⟨hk, hS, e4, e3, e5, eS⟩ := hC
  have er : iI i - iI i / iI k * iI k = iI ((i % k : Nat) : Int) := iI_rem (by omega) hk0 (by omega)
  have hm : i % k < k := Nat.mod_lt i hk0
  have c1 : ¬ (k : Int) = 0 := by omega
  have c2 : (0 : Int) ≤ i := by omega
  have eq := (eS (i % k) hm).1
  unfold f_X1_stopOf
  simp +decide (maxSteps := 2000000) (disch := omega) only [↓gl_p, ↓bs_p, iI_lit, iI_neg, iI_add, iI_sub, iI_mul, gk_p, bs_p, bz0, bz1, pI_row, pI_snd, pA_row, pA_snd, pL_fst, pL_row, pB_fst, pB_row, upd_at, ↓reduceIte, Int.reduceToNat, Nat.reduceEqDiff, iI_lt, iI_le, iI_eq, iI_inb, iI_nat, iI_nz, Nat.reduceAdd, e4, c1, c2, er, Int.toNat_natCast, eq]
theorem s_minu_26 {x : gS} {n k sd : Nat} {w : Nat → Nat → Nat} {S : Nat → Nat} (hC : CO 26 n k w sd S x) (hk0 : 0 < k) {i : Nat} (hi : i ≤ 4000) : f_X1_minuteOf x 26 (iI i) = some (iI (Tm w sd S k i : Nat)) := by
  obtain ⟨hk, hS, e4, e3, e5, eS⟩ := hC
  have er : iI i - iI i / iI k * iI k = iI ((i % k : Nat) : Int) := iI_rem (by omega) hk0 (by omega)
  have ed : iI i / iI k = iI ((i / k : Nat) : Int) := iI_div (by omega) (by omega) (by omega) (by omega)
  have hm : i % k < k := Nat.mod_lt i hk0
  have c1 : ¬ (k : Int) = 0 := by omega
  have c2 : (0 : Int) ≤ i := by omega
  have eq := (eS (i % k) hm).2
  have el : ledM w S k = w 9 (S 0) := if_neg (by omega)
  rw [el] at e3
  unfold f_X1_minuteOf
  rw [e4, er, ed]
  simp +decide (maxSteps := 2000000) (disch := omega) only [↓gl_p, ↓bs_p, iI_lit, iI_neg, iI_add, iI_sub, iI_mul, gk_p, bs_p, bz0, bz1, pI_row, pI_snd, pA_row, pA_snd, pL_fst, pL_row, pB_fst, pB_row, upd_at, ↓reduceIte, Int.reduceToNat, Nat.reduceEqDiff, iI_lt, iI_le, iI_eq, iI_inb, iI_nat, iI_nz, Nat.reduceAdd, e5, e3, c1, c2, Int.toNat_natCast, eq]
  rw [Tm_e hk0]
  rfl
theorem w_d52_29 {x : gS} {n k sd : Nat} {w : Nat → Nat → Nat} {S : Nat → Nat} (hC : CO 29 n k w sd S x) (hw : ∀ p q, okP n p → okP n q → w p q ≤ 270) (hd : sd ≤ 9) (hp : 0 < perd w sd S k) {a q : Nat} (ha : a ≤ 1999) (hq : q ≤ 40000) : ∀ (r c f : Nat), c + r = k → r ≤ f → (∀ j, j < c → offs w sd S j ≤ a % perd w sd S k) → ∃ c2, c2 ≤ k ∧ (∀ j, j < c2 → offs w sd S j ≤ a % perd w sd S k) ∧ (c2 < k → a % perd w sd S k < offs w sd S c2) ∧ f_X1_dentsBy_52 x 29 (f + 1) (iI a) (iI (q + c : Nat)) (iI c) = some (iI ((if 4000 < q + c2 then 4000 else q + c2 : Nat) : Int)) := by
  obtain ⟨hk, hS, e4, e3, e5, eS⟩ := hC
  have bp := perd_bd hw hd hS hk
  have er : iI a - iI a / iI (perd w sd S k : Nat) * iI (perd w sd S k : Nat) = iI ((a % perd w sd S k : Nat) : Int) := iI_rem (by omega) hp (by omega)
  have hm : a % perd w sd S k < perd w sd S k := Nat.mod_lt a hp
  intro r
  induction r with
  | zero =>
    intro c f hc hf h1
    have g : (k : Int) ≤ (c : Int) := by omega
    refine ⟨c, by omega, h1, fun h => absurd h (by omega), ?_⟩
    rw [f_X1_dentsBy_52]
    unfold f_X1_dentsBy_86
    simp +decide (maxSteps := 2000000) (disch := omega) only [↓gl_p, ↓bs_p, iI_lit, iI_neg, iI_add, iI_sub, iI_mul, gk_p, bs_p, bz0, bz1, pI_row, pI_snd, pA_row, pA_snd, pL_fst, pL_row, pB_fst, pB_row, upd_at, ↓reduceIte, Int.reduceToNat, Nat.reduceEqDiff, iI_lt, iI_le, iI_eq, iI_inb, iI_nat, iI_nz, e4, g]
    rw [ej4 (by omega)]
  | succ r ih =>
    intro c f hc hf h1
    obtain ⟨f, rfl⟩ : ∃ q, f = q + 1 := ⟨f - 1, by omega⟩
    have g : ¬ (k : Int) ≤ (c : Int) := by omega
    have ec := (eS c (by omega)).2
    have bo := offs_bd hw hd hS c (by omega)
    have cz : ((perd w sd S k : Nat) : Int) ≠ 0 := by omega
    by_cases h : a % perd w sd S k < offs w sd S c
    · have h2 : ((a % perd w sd S k : Nat) : Int) < ((offs w sd S c : Nat) : Int) := by omega
      refine ⟨c, by omega, h1, fun _ => h, ?_⟩
      rw [f_X1_dentsBy_52]
      unfold f_X1_dentsBy_86
      simp +decide (maxSteps := 2000000) (disch := omega) only [↓gl_p, ↓bs_p, iI_lit, iI_neg, iI_add, iI_sub, iI_mul, gk_p, bs_p, bz0, bz1, pI_row, pI_snd, pA_row, pA_snd, pL_fst, pL_row, pB_fst, pB_row, upd_at, ↓reduceIte, Int.reduceToNat, Nat.reduceEqDiff, iI_lt, iI_le, iI_eq, iI_inb, iI_nat, iI_nz, Nat.reduceAdd, e4, e5, g, ec, er, h2, Int.toNat_natCast]
      rw [ej4 (by omega)]
    · have h2 : ¬ ((a % perd w sd S k : Nat) : Int) < ((offs w sd S c : Nat) : Int) := by omega
      obtain ⟨c2, b1, b2, b3, b4⟩ := ih (c + 1) f (by omega) (by omega) (fun j hj => by
        by_cases e : j = c
        · rw [e]
          omega
        · exact h1 j (by omega))
      refine ⟨c2, b1, b2, b3, ?_⟩
      rw [f_X1_dentsBy_52]
      simp +decide (maxSteps := 2000000) (disch := omega) only [↓gl_p, ↓bs_p, iI_lit, iI_neg, iI_add, iI_sub, iI_mul, gk_p, bs_p, bz0, bz1, pI_row, pI_snd, pA_row, pA_snd, pL_fst, pL_row, pB_fst, pB_row, upd_at, ↓reduceIte, Int.reduceToNat, Nat.reduceEqDiff, iI_lt, iI_le, iI_eq, iI_inb, iI_nat, iI_nz, Nat.reduceAdd, e4, e5, g, ec, er, h2, Int.toNat_natCast]
      exact b4
theorem s_dBy_29 {x : gS} {n k sd : Nat} {w : Nat → Nat → Nat} {S : Nat → Nat} (hC : CO 29 n k w sd S x) (hw : ∀ p q, okP n p → okP n q → w p q ≤ 270) (hd : sd ≤ 9) {v : Int} (v1 : -1 ≤ v) (v2 : v ≤ 1999) : ∃ C, f_X1_dentsBy x 29 (iI v) = some (iI (C : Nat)) ∧ isC (Tm w sd S k) v C := by
  obtain ⟨hk, hS, e4, e3, e5, eS⟩ := id hC
  have bp := perd_bd hw hd hS hk
  have ej : jmin (iI v) (iI 1999) = iI v := by
    rw [jmin_i (by omega) (by omega) (by omega) (by omega), if_neg (by omega)]
  unfold f_X1_dentsBy
  by_cases c0 : k = 0
  · have c1 : (k : Int) = 0 := by omega
    refine ⟨0, ?_, by omega, fun i hi => absurd hi (by omega), fun _ => ?_⟩
    · simp +decide (maxSteps := 2000000) (disch := omega) only [↓gl_p, ↓bs_p, iI_lit, iI_neg, iI_add, iI_sub, iI_mul, gk_p, bs_p, bz0, bz1, pI_row, pI_snd, pA_row, pA_snd, pL_fst, pL_row, pB_fst, pB_row, upd_at, ↓reduceIte, Int.reduceToNat, Nat.reduceEqDiff, iI_lt, iI_le, iI_eq, iI_inb, iI_nat, iI_nz, e4, c1]
    · unfold Tm
      rw [if_pos c0]
      omega
  have c1 : ¬ (k : Int) = 0 := by omega
  have el : ledM w S k = w 9 (S 0) := if_neg c0
  have wl := hw 9 (S 0) (Or.inr rfl) (Or.inl (hS 0 (by omega)))
  rw [el] at e3
  by_cases c2 : 0 ≤ v - ((w 9 (S 0) : Nat) : Int)
  rotate_left
  · refine ⟨0, ?_, by omega, fun i hi => absurd hi (by omega), fun _ => ?_⟩
    · simp +decide (maxSteps := 2000000) (disch := omega) only [↓gl_p, ↓bs_p, iI_lit, iI_neg, iI_add, iI_sub, iI_mul, gk_p, bs_p, bz0, bz1, pI_row, pI_snd, pA_row, pA_snd, pL_fst, pL_row, pB_fst, pB_row, upd_at, ↓reduceIte, Int.reduceToNat, Nat.reduceEqDiff, iI_lt, iI_le, iI_eq, iI_inb, iI_nat, iI_nz, e4, e3, c1, ej, c2]
    · rw [Tm_0 (by omega)]
      omega
  by_cases c3 : perd w sd S k = 0
  · have c4 : ((perd w sd S k : Nat) : Int) = 0 := by omega
    refine ⟨4000, ?_, by omega, fun i hi => ?_, fun h => absurd h (by omega)⟩
    · simp +decide (maxSteps := 2000000) (disch := omega) only [↓gl_p, ↓bs_p, iI_lit, iI_neg, iI_add, iI_sub, iI_mul, gk_p, bs_p, bz0, bz1, pI_row, pI_snd, pA_row, pA_snd, pL_fst, pL_row, pB_fst, pB_row, upd_at, ↓reduceIte, Int.reduceToNat, Nat.reduceEqDiff, iI_lt, iI_le, iI_eq, iI_inb, iI_nat, iI_nz, e4, e3, e5, c1, ej, c2, c4]
    · have g := offs_per (w := w) (sd := sd) (S := S) (k := k) (by omega) (Nat.mod_lt i (by omega))
      rw [Tm_e (by omega), c3, Nat.mul_zero]
      omega
  have c4 : ¬ ((perd w sd S k : Nat) : Int) = 0 := by omega
  obtain ⟨a, ha⟩ : ∃ a : Nat, v - ((w 9 (S 0) : Nat) : Int) = (a : Int) := ⟨(v - ((w 9 (S 0) : Nat) : Int)).toNat, by omega⟩
  have hq : a / perd w sd S k * k ≤ 40000 := by
    have g1 := Nat.mul_le_mul (Nat.div_le_self a (perd w sd S k)) hk
    omega
  obtain ⟨c, b1, b2, b3, b4⟩ := w_d52_29 hC hw hd (by omega) (a := a) (q := a / perd w sd S k * k) (by omega) hq k 0 999999 (by omega) (by omega) (fun j hj => absurd hj (by omega))
  refine ⟨_, ?_, isC_dent (by omega) (by omega) (by omega) b1 b2 b3 rfl⟩
  have ed : iI a / iI (perd w sd S k : Nat) = iI ((a / perd w sd S k : Nat) : Int) := iI_div (by omega) (by omega) (by omega) (by omega)
  rw [ha] at c2
  simp +decide (maxSteps := 2000000) (disch := omega) only [↓gl_p, ↓bs_p, iI_lit, iI_neg, iI_add, iI_sub, iI_mul, gk_p, bs_p, bz0, bz1, pI_row, pI_snd, pA_row, pA_snd, pL_fst, pL_row, pB_fst, pB_row, upd_at, ↓reduceIte, Int.reduceToNat, Nat.reduceEqDiff, iI_lt, iI_le, iI_eq, iI_inb, iI_nat, iI_nz, e4, e3, e5, c1, ej, ha, c2, c4, ed]
  exact b4
theorem s_stop_29 {x : gS} {n k sd : Nat} {w : Nat → Nat → Nat} {S : Nat → Nat} (hC : CO 29 n k w sd S x) (hk0 : 0 < k) {i : Nat} (hi : i ≤ 4000) : f_X1_stopOf x 29 (iI i) = some (iI (S (i % k))) := by
  obtain ⟨hk, hS, e4, e3, e5, eS⟩ := hC
  have er : iI i - iI i / iI k * iI k = iI ((i % k : Nat) : Int) := iI_rem (by omega) hk0 (by omega)
  have hm : i % k < k := Nat.mod_lt i hk0
  have c1 : ¬ (k : Int) = 0 := by omega
  have c2 : (0 : Int) ≤ i := by omega
  have eq := (eS (i % k) hm).1
  unfold f_X1_stopOf
  simp +decide (maxSteps := 2000000) (disch := omega) only [↓gl_p, ↓bs_p, iI_lit, iI_neg, iI_add, iI_sub, iI_mul, gk_p, bs_p, bz0, bz1, pI_row, pI_snd, pA_row, pA_snd, pL_fst, pL_row, pB_fst, pB_row, upd_at, ↓reduceIte, Int.reduceToNat, Nat.reduceEqDiff, iI_lt, iI_le, iI_eq, iI_inb, iI_nat, iI_nz, Nat.reduceAdd, e4, c1, c2, er, Int.toNat_natCast, eq]
theorem s_minu_29 {x : gS} {n k sd : Nat} {w : Nat → Nat → Nat} {S : Nat → Nat} (hC : CO 29 n k w sd S x) (hk0 : 0 < k) {i : Nat} (hi : i ≤ 4000) : f_X1_minuteOf x 29 (iI i) = some (iI (Tm w sd S k i : Nat)) := by
  obtain ⟨hk, hS, e4, e3, e5, eS⟩ := hC
  have er : iI i - iI i / iI k * iI k = iI ((i % k : Nat) : Int) := iI_rem (by omega) hk0 (by omega)
  have ed : iI i / iI k = iI ((i / k : Nat) : Int) := iI_div (by omega) (by omega) (by omega) (by omega)
  have hm : i % k < k := Nat.mod_lt i hk0
  have c1 : ¬ (k : Int) = 0 := by omega
  have c2 : (0 : Int) ≤ i := by omega
  have eq := (eS (i % k) hm).2
  have el : ledM w S k = w 9 (S 0) := if_neg (by omega)
  rw [el] at e3
  unfold f_X1_minuteOf
  rw [e4, er, ed]
  simp +decide (maxSteps := 2000000) (disch := omega) only [↓gl_p, ↓bs_p, iI_lit, iI_neg, iI_add, iI_sub, iI_mul, gk_p, bs_p, bz0, bz1, pI_row, pI_snd, pA_row, pA_snd, pL_fst, pL_row, pB_fst, pB_row, upd_at, ↓reduceIte, Int.reduceToNat, Nat.reduceEqDiff, iI_lt, iI_le, iI_eq, iI_inb, iI_nat, iI_nz, Nat.reduceAdd, e5, e3, c1, c2, Int.toNat_natCast, eq]
  rw [Tm_e hk0]
  rfl
def waC (c j : Nat) : Bool := (c == 0 && j == 46) || c == 28 || c == 29
def WK (high D : Nat) (w : Nat → Nat → Nat) (sd : Nat) (S : Nat → Nat) (k : Nat) (m : gS) : Prop := D ≤ high ∧ m.1 0 46 = iI D ∧ (∀ i, i < D → m.1 28 i = iI (Tm w sd S k i : Nat) ∧ m.1 29 i = iI (S (i % k)) ∧ Tm w sd S k i < 2000) ∧ (D < high → 2000 ≤ Tm w sd S k D)
theorem w_wa12 {m : gS} {n k sd high : Nat} {w : Nat → Nat → Nat} {S : Nat → Nat} (hn : n ≤ 9) (hw : ∀ p q, okP n p → okP n q → w p q ≤ 270) (hd : sd ≤ 9) (hk0 : 0 < k) (hR : RO n k S m) (hM : YM n w sd m) (hh : high ≤ 4000) : ∀ (r d f : Nat) (σ : gS) (t p : Nat), d + r = high → r ≤ f → Ch waC m σ → σ.1 0 46 = iI d → (∀ i, i < d → σ.1 28 i = iI (Tm w sd S k i : Nat) ∧ σ.1 29 i = iI (S (i % k)) ∧ Tm w sd S k i < 2000) → okP n p → t + w p (S (d % k)) = Tm w sd S k d → t ≤ 2009 → ∃ τ D, f_X10_walks_12 (f + 1) (iI high) (iI t) (iI (mP p)) (iI (d % k : Nat)) σ = some τ ∧ Ch waC m τ ∧ WK high D w sd S k τ := by
  obtain ⟨hk, hS, e44, eS⟩ := hR
  intro r
  induction r with
  | zero =>
    intro d f σ t p hdr hf hc e46 ho hp ht ht2
    have s44 : σ.1 0 44 = iI k := (hc.2 0 44 rfl).trans e44
    have g1 : ¬ (k : Int) ≤ 0 := by omega
    have g2 : (high : Int) ≤ (d : Int) := by omega
    refine ⟨σ, d, ?_, hc, by omega, e46, ho, fun h => absurd h (by omega)⟩
    rw [f_X10_walks_12]
    simp +decide (maxSteps := 2000000) (disch := omega) only [↓gl_p, ↓bs_p, iI_lit, iI_neg, iI_add, iI_sub, iI_mul, gk_p, bs_p, bz0, bz1, pI_row, pI_snd, pA_row, pA_snd, pL_fst, pL_row, pB_fst, pB_row, upd_at, ↓reduceIte, Int.reduceToNat, Nat.reduceEqDiff, iI_lt, iI_le, iI_eq, iI_inb, iI_nat, iI_nz, s44, e46, g1, g2]
  | succ r ih =>
    intro d f σ t p hdr hf hc e46 ho hp ht ht2
    obtain ⟨f, rfl⟩ : ∃ q, f = q + 1 := ⟨f - 1, by omega⟩
    have hm : d % k < k := Nat.mod_lt d hk0
    have hSd := hS (d % k) hm
    have s44 : σ.1 0 44 = iI k := (hc.2 0 44 rfl).trans e44
    have sS : σ.1 27 (d % k) = iI (S (d % k)) := (hc.2 27 _ rfl).trans (eS _ hm)
    have sY := YM_ch hM hc rfl (fun _ => rfl) (fun _ => rfl) (fun _ => rfl)
    have s53 := sY.2.1
    have wm := sY.2.2 p (S (d % k)) hp (Or.inl hSd)
    rw [show mP (S (d % k)) = ((S (d % k) : Nat) : Int) from if_neg (by omega)] at wm
    have wb := hw p (S (d % k)) hp (Or.inl hSd)
    have et : ((t : Nat) : Int) + ((w p (S (d % k)) : Nat) : Int) = ((Tm w sd S k d : Nat) : Int) := by omega
    have g1 : ¬ (k : Int) ≤ 0 := by omega
    have g2 : ¬ (high : Int) ≤ (d : Int) := by omega
    have er : iI (((d % k : Nat) : Int) + 1) - iI (((d % k : Nat) : Int) + 1) / iI k * iI k = iI (((d + 1) % k : Nat) : Int) := by
      rw [show ((d % k : Nat) : Int) + 1 = ((d % k + 1 : Nat) : Int) from rfl, iI_rem (by omega) hk0 (by omega), Nat.mod_add_mod]
    by_cases h : Tm w sd S k d < 2000
    · have h2 : ((Tm w sd S k d : Nat) : Int) < 2000 := by omega
      obtain ⟨τ, D, a1, a2, a3⟩ := ih (d + 1) f (pI (pI (pI σ 28 d (iI (Tm w sd S k d : Nat))) 0 46 (iI ((d : Int) + 1))) 29 d (iI (S (d % k)))) (Tm w sd S k d + sd) (S (d % k)) (by omega) (by omega) (Ch_pI (Ch_pI (Ch_pI hc rfl) rfl) rfl) rfl (fun i hi => by
        rw [pI_off (by decide), pI_off (by decide), pI_row, if_pos rfl, upd_at, pI_row, if_pos rfl, upd_at]
        by_cases e : i = d
        · rw [if_pos e, if_pos e, e]
          exact ⟨rfl, rfl, h⟩
        · rw [if_neg e, if_neg e]
          exact ho i (by omega)) (Or.inl hSd) (Tm_s hk0 d).symm (by omega)
      refine ⟨τ, D, ?_, a2, a3⟩
      rw [show mP (S (d % k)) = ((S (d % k) : Nat) : Int) from if_neg (by omega)] at a1
      rw [f_X10_walks_12]
      simp +decide (maxSteps := 2000000) (disch := omega) only [↓gl_p, ↓bs_p, iI_lit, iI_neg, iI_add, iI_sub, iI_mul, gk_p, bs_p, bz0, bz1, pI_row, pI_snd, pA_row, pA_snd, pL_fst, pL_row, pB_fst, pB_row, upd_at, ↓reduceIte, Int.reduceToNat, Nat.reduceEqDiff, iI_lt, iI_le, iI_eq, iI_inb, iI_nat, iI_nz, s44, e46, g1, g2, sS, wm, et, h2, s53, er, Int.toNat_natCast]
      exact a1
    · have h2 : ¬ ((Tm w sd S k d : Nat) : Int) < 2000 := by omega
      refine ⟨σ, d, ?_, hc, by omega, e46, ho, fun _ => by omega⟩
      rw [f_X10_walks_12]
      simp +decide (maxSteps := 2000000) (disch := omega) only [↓gl_p, ↓bs_p, iI_lit, iI_neg, iI_add, iI_sub, iI_mul, gk_p, bs_p, bz0, bz1, pI_row, pI_snd, pA_row, pA_snd, pL_fst, pL_row, pB_fst, pB_row, upd_at, ↓reduceIte, Int.reduceToNat, Nat.reduceEqDiff, iI_lt, iI_le, iI_eq, iI_inb, iI_nat, iI_nz, s44, e46, g1, g2, sS, wm, et, h2, Int.toNat_natCast]
theorem s_walks {m : gS} {n k sd high : Nat} {w : Nat → Nat → Nat} {S : Nat → Nat} (hn : n ≤ 9) (hw : ∀ p q, okP n p → okP n q → w p q ≤ 270) (hd : sd ≤ 9) (hR : RO n k S m) (hM : YM n w sd m) (hh : high ≤ 4000) : ∃ τ D, f_X10_walks m (iI high) = some τ ∧ Ch waC m τ ∧ WK high D w sd S k τ := by
  unfold f_X10_walks
  by_cases c : k = 0
  · have g : (k : Int) ≤ 0 := by omega
    refine ⟨pI m 0 46 (iI 0), 0, ?_, Ch_pI (Ch_refl _ _) rfl, by omega, rfl, fun i hi => absurd hi (by omega), fun _ => ?_⟩
    · simp +decide (maxSteps := 2000000) (disch := omega) only [↓gl_p, ↓bs_p, iI_lit, iI_neg, iI_add, iI_sub, iI_mul, gk_p, bs_p, bz0, bz1, pI_row, pI_snd, pA_row, pA_snd, pL_fst, pL_row, pB_fst, pB_row, upd_at, ↓reduceIte, Int.reduceToNat, Nat.reduceEqDiff, iI_lt, iI_le, iI_eq, iI_inb, iI_nat, iI_nz]
      rw [gN_s, f_X10_walks_12]
      simp +decide (maxSteps := 2000000) (disch := omega) only [↓gl_p, ↓bs_p, iI_lit, iI_neg, iI_add, iI_sub, iI_mul, gk_p, bs_p, bz0, bz1, pI_row, pI_snd, pA_row, pA_snd, pL_fst, pL_row, pB_fst, pB_row, upd_at, ↓reduceIte, Int.reduceToNat, Nat.reduceEqDiff, iI_lt, iI_le, iI_eq, iI_inb, iI_nat, iI_nz, hR.2.2.1, g]
    · unfold Tm
      rw [if_pos c]
      omega
  · obtain ⟨τ, D, a1, a2, a3⟩ := w_wa12 hn hw hd (by omega) hR hM hh high 0 999999 (pI m 0 46 (iI 0)) 0 9 (by omega) (by omega) (Ch_pI (Ch_refl _ _) rfl) rfl (fun i hi => absurd hi (by omega)) (Or.inr rfl) (by
      rw [Tm_0 (by omega), Nat.zero_mod]
      omega) (by omega)
    refine ⟨τ, D, ?_, a2, a3⟩
    rw [Nat.zero_mod] at a1
    simp +decide (maxSteps := 2000000) (disch := omega) only [↓gl_p, ↓bs_p, iI_lit, iI_neg, iI_add, iI_sub, iI_mul, gk_p, bs_p, bz0, bz1, pI_row, pI_snd, pA_row, pA_snd, pL_fst, pL_row, pB_fst, pB_row, upd_at, ↓reduceIte, Int.reduceToNat, Nat.reduceEqDiff, iI_lt, iI_le, iI_eq, iI_inb, iI_nat, iI_nz]
    exact a1
theorem lay3 {x m : gS} {n nb s : Nat} (hP : RP n (x.1 1 1) (x.1 2) (m.1 0 0) (m.1 1) (m.1 2) (m.1 3) (m.1 4) (m.1 5)) (hnb : nb ≤ 50) (hS : RSs nb x.1 x.2 (m.1 24) (m.1 25) (m.2 26)) (hs : s < 6) : (∃ b : Int, (b = -11 ∨ b = -12) ∧ f_X9_layForth x (iI s) = some (iI b, x) ∧ f_X10_noRow m (iI s) (iI 0) = some (iI b)) ∨ (∃ k w sd S y m2, f_X9_layForth x (iI s) = some (iI 0, y) ∧ f_X10_noRow m (iI s) (iI 0) = some (iI 0) ∧ f_X10_reads m (iI s) = some m2 ∧ Ch (coC 26) x y ∧ Ch rdC m m2 ∧ YD n w sd y ∧ YM n w sd m2 ∧ CO 26 n k w sd S y ∧ RO n k S m2) := by
  have c1 : (s : Int) ≤ 5 := by omega
  have c0 : (0 : Int) ≤ s := by omega
  rcases s_ref hs hnb hS (q0 := 0) (Or.inl ⟨rfl, rfl, rfl⟩) with ⟨r1, r2, -⟩ | ⟨r1, ⟨h, r2, r3, r4⟩, -⟩ | ⟨r1, z, rw, hb⟩
  · have nr := s_nr1 hs (q := iI 0) r2
    refine Or.inl ⟨-11, Or.inl rfl, ?_, nr⟩
    unfold f_X9_layForth
    simp +decide (maxSteps := 2000000) (disch := omega) only [↓gl_p, ↓bs_p, iI_lit, iI_neg, iI_add, iI_sub, iI_mul, gk_p, bs_p, bz0, bz1, pI_row, pI_snd, pA_row, pA_snd, pL_fst, pL_row, pB_fst, pB_row, upd_at, ↓reduceIte, Int.reduceToNat, Nat.reduceEqDiff, iI_lt, iI_le, iI_eq, iI_inb, iI_nat, iI_nz, s_shAt, Int.toNat_natCast, show f_X5_refusalFor x (14 + 2 * s) (iI 0) = _ from r1]
  · have nr := s_nr2 hs (q := 0) r2 (by omega) (by omega) r3
    refine Or.inl ⟨-12, Or.inr rfl, ?_, nr⟩
    unfold f_X9_layForth
    simp +decide (maxSteps := 2000000) (disch := omega) only [↓gl_p, ↓bs_p, iI_lit, iI_neg, iI_add, iI_sub, iI_mul, gk_p, bs_p, bz0, bz1, pI_row, pI_snd, pA_row, pA_snd, pL_fst, pL_row, pB_fst, pB_row, upd_at, ↓reduceIte, Int.reduceToNat, Nat.reduceEqDiff, iI_lt, iI_le, iI_eq, iI_inb, iI_nat, iI_nz, s_shAt, Int.toNat_natCast, show f_X5_refusalFor x (14 + 2 * s) (iI 0) = _ from r1]
  · have nr := s_nr0 hs (q := 0) hb.2.2.2.2.1 (by omega)
    obtain ⟨w, sd, hY, hM⟩ := YD_of hP
    obtain ⟨y, k, S, m2, l1, l2, l3, l4, l5, l6⟩ := s_lay hs hb r1 hY hM
    exact Or.inr ⟨k, w, sd, S, y, m2, l1, nr, l2, l3, l4, YD_ch hY l3 (fun _ => rfl) (fun _ => rfl), YM_ch hM l4 rfl (fun _ => rfl) (fun _ => rfl) (fun _ => rfl), l5, l6⟩
theorem sc_co {x y : gS} {kC : Nat} (h1 : 26 ≤ kC) (h2 : kC ≤ 29) (h : Ch (coC kC) x y) : Ch scX x y := Ch_mo h fun c j hd => by
  unfold scX at hd
  unfold coC
  simp at hd ⊢
  omega
theorem sc_rd {x y : gS} (h : Ch rdC x y) : Ch scM x y := Ch_mo h fun c j hd => by
  unfold scM at hd
  unfold rdC
  simp at hd ⊢
  omega
theorem sc_wa {x y : gS} (h : Ch waC x y) : Ch scM x y := Ch_mo h fun c j hd => by
  unfold scM at hd
  unfold waC
  simp at hd ⊢
  omega
