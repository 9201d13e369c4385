/-! ===== the image ===== -/
/-- g at i, i + 1 .., n times -/
def itS (g : Nat → gS → gS) : Nat → Nat → gS → gS
  | _, 0, σ => σ
  | i, n + 1, σ => itS g (i + 1) n (g i σ)
theorem w_im57 : ∀ (k i n : Nat) (σ : gS), i + k = 4 → k ≤ n → f_X10_image_57 (n + 1) (iI i) σ = some ((itS (fun j s => pI s 20 j (s.1 18 j)) i k σ).1 0 25, itS (fun j s => pI s 20 j (s.1 18 j)) i k σ) := by
  intro k
  induction k with
  | zero =>
    intro i n σ h1 h2
    have g : 4 ≤ (i : Int) := by omega
    unfold f_X10_image_57
    simp +decide (disch := omega) only [gl_e, iI_lit, iI_neg, iI_add, iI_sub, iI_mul, gk_t, b_some, bz0, bz1, pI_row, pI_snd, pA_row, pA_snd, pL_fst, pL_row, pB_fst, pB_row, upd_at, ↓reduceIte, Int.reduceToNat, Nat.reduceEqDiff, iI_lt, iI_le, iI_eq, iI_inb, iI_nat, iI_nz, g]
    rfl
  | succ k ih =>
    intro i n σ h1 h2
    obtain ⟨n2, rfl⟩ : ∃ n2, n = n2 + 1 := ⟨n - 1, by omega⟩
    have g : ¬ 4 ≤ (i : Int) := by omega
    unfold f_X10_image_57
    simp +decide (disch := omega) only [gl_e, iI_lit, iI_neg, iI_add, iI_sub, iI_mul, gk_t, b_some, bz0, bz1, pI_row, pI_snd, pA_row, pA_snd, pL_fst, pL_row, pB_fst, pB_row, upd_at, ↓reduceIte, Int.reduceToNat, Nat.reduceEqDiff, iI_lt, iI_le, iI_eq, iI_inb, iI_nat, iI_nz, g, Int.toNat_natCast]
    rw [show (i : Int) + 1 = ((i + 1 : Nat) : Int) by omega, ih (i + 1) n2 _ (by omega) (by omega)]
    rfl
theorem w_im31 : ∀ (k i n : Nat) (σ : gS), i + k = 9 → k ≤ n → f_X10_image_31 (n + 1) (iI i) σ = f_X10_image_57 gN (iI 0) (itS (fun j s => pI s 19 j (s.1 17 j)) i k σ) := by
  intro k
  induction k with
  | zero =>
    intro i n σ h1 h2
    have g : 9 ≤ (i : Int) := by omega
    unfold f_X10_image_31
    simp +decide (disch := omega) only [gl_e, iI_lit, iI_neg, iI_add, iI_sub, iI_mul, gk_t, b_some, bz0, bz1, pI_row, pI_snd, pA_row, pA_snd, pL_fst, pL_row, pB_fst, pB_row, upd_at, ↓reduceIte, Int.reduceToNat, Nat.reduceEqDiff, iI_lt, iI_le, iI_eq, iI_inb, iI_nat, iI_nz, g]
    rfl
  | succ k ih =>
    intro i n σ h1 h2
    obtain ⟨n2, rfl⟩ : ∃ n2, n = n2 + 1 := ⟨n - 1, by omega⟩
    have g : ¬ 9 ≤ (i : Int) := by omega
    unfold f_X10_image_31
    simp +decide (disch := omega) only [gl_e, iI_lit, iI_neg, iI_add, iI_sub, iI_mul, gk_t, b_some, bz0, bz1, pI_row, pI_snd, pA_row, pA_snd, pL_fst, pL_row, pB_fst, pB_row, upd_at, ↓reduceIte, Int.reduceToNat, Nat.reduceEqDiff, iI_lt, iI_le, iI_eq, iI_inb, iI_nat, iI_nz, g, Int.toNat_natCast]
    rw [show (i : Int) + 1 = ((i + 1 : Nat) : Int) by omega, ih (i + 1) n2 _ (by omega) (by omega)]
    rfl
theorem gN_s : gN = 999999 + 1 := rfl
theorem lt9 {P : Nat → Prop} (h0 : P 0) (h1 : P 1) (h2 : P 2) (h3 : P 3) (h4 : P 4) (h5 : P 5) (h6 : P 6) (h7 : P 7) (h8 : P 8) : ∀ i, i < 9 → P i := fun i hi => match i, hi with
  | 0, _ => h0
  | 1, _ => h1
  | 2, _ => h2
  | 3, _ => h3
  | 4, _ => h4
  | 5, _ => h5
  | 6, _ => h6
  | 7, _ => h7
  | 8, _ => h8
  | n + 9, h => absurd h (by omega)
theorem cpok9 : cpok (iI 0) (iI 0) (iI 9) 9 9 = true := by decide
theorem cpy9 {f g : Nat → Int32} {i : Nat} (hi : i < 9) : va_cpy f g 0 0 9 i = f i := by
  have h := pk_cpy_in (f := f) (g := g) (sp := 0) (dp := 0) (n := 9) (j := i) (by omega) (by omega)
  rw [h, Nat.zero_add, Nat.sub_zero]
theorem s_imM (m : gS) : ∃ m2, f_X10_image m = some (m2.1 0 25, m2) ∧ m2 = itS (fun j s => pI s 20 j (s.1 18 j)) 0 4 (itS (fun j s => pI s 19 j (s.1 17 j)) 0 9 (pI (pI (pI (pI m 0 28 (iI 1)) 0 29 (m.1 0 0)) 0 30 (m.1 0 24)) 0 31 (m.1 0 25))) := by
  refine ⟨_, ?_, rfl⟩
  unfold f_X10_image
  simp +decide (disch := omega) only [gl_e, iI_lit, iI_neg, iI_add, iI_sub, iI_mul, gk_t, b_some, bz0, bz1, pI_row, pI_snd, pA_row, pA_snd, pL_fst, pL_row, pB_fst, pB_row, upd_at, ↓reduceIte, Int.reduceToNat, Nat.reduceEqDiff, iI_lt, iI_le, iI_eq, iI_inb, iI_nat, iI_nz]
  have e0 : iI 0 = iI ((0 : Nat) : Int) := rfl
  rw [gN_s, e0, w_im31 9 0 999999 _ rfl (by omega), gN_s, e0, w_im57 4 0 999999 _ rfl (by omega)]
theorem e_image (L : LawT) : EQ_image (Rel1 L) := by
  intro x m hR
  obtain ⟨⟨n, nb, hP, hC, hT, hD, hI, hK, hS⟩, hL⟩ := id hR
  have hn := hP.1
  obtain ⟨m2, h1, h2⟩ := s_imM m
  rw [h1]
  unfold f_X9_image f_X2_become
  simp +decide (disch := omega) only [gl_e, iI_lit, iI_neg, iI_add, iI_sub, iI_mul, gk_t, b_some, bz0, bz1, pI_row, pI_snd, pA_row, pA_snd, pL_fst, pL_row, pB_fst, pB_row, upd_at, ↓reduceIte, Int.reduceToNat, Nat.reduceEqDiff, iI_lt, iI_le, iI_eq, iI_inb, iI_nat, iI_nz, cpok9]
  have e1 : m2.1 0 25 = x.1 37 2 := by
    obtain ⟨-, ⟨a, ha, e1, e2⟩, -⟩ := hD
    rw [e1, ← e2, h2]
    rfl
  rw [e1]
  refine ⟨_, _, _, rfl, rfl, ⟨n, nb, ?_, ?_, ?_, ?_, ?_, ?_, RSs_x (x1 := x.1) ?_ (fun c h1 h2 => by simp (disch := omega) only [pI_off, pA_off])⟩, ?_⟩
  · rw [h2]; exact hP
  · rw [h2]; exact hC
  · rw [h2]; exact hT
  · rw [h2]; exact hD
  · rw [h2]
    refine Or.inr ⟨rfl, rfl, n, Nat.le_refl _, hP.2.2.1, ?_⟩
    obtain ⟨hat, hnow, ⟨e3, e4, e5, e6⟩, hd1, hd2⟩ := hD
    refine ⟨hat, hnow, ⟨e3, e4, e5, e6⟩, fun i hi => ?_, fun i h3 h4 => ?_⟩
    · show _ = va_cpy (x.1 38) (x.1 40) 0 0 9 i
      rw [cpy9 hi, ← hd1 i hi]
      revert i
      exact lt9 rfl rfl rfl rfl rfl rfl rfl rfl rfl
    · show va_cpy (x.1 38) (x.1 40) 0 0 9 i = iI 0
      rw [cpy9 h4]
      exact hd2 i h3 h4
  · rw [h2]; exact hK
  · rw [h2]; exact hS
  · rw [h2]; exact hL
/-! laid back -/
theorem w_bk66 : ∀ (k i n : Nat) (σ : gS), i + k = 4 → k ≤ n → f_X10_back_66 (n + 1) (iI i) σ = some ((itS (fun j s => pI s 18 j (s.1 20 j)) i k σ).1 0 25, itS (fun j s => pI s 18 j (s.1 20 j)) i k σ) := by
  intro k
  induction k with
  | zero =>
    intro i n σ h1 h2
    have g : 4 ≤ (i : Int) := by omega
    unfold f_X10_back_66
    simp +decide (disch := omega) only [gl_e, iI_lit, iI_neg, iI_add, iI_sub, iI_mul, gk_t, b_some, bz0, bz1, pI_row, pI_snd, pA_row, pA_snd, pL_fst, pL_row, pB_fst, pB_row, upd_at, ↓reduceIte, Int.reduceToNat, Nat.reduceEqDiff, iI_lt, iI_le, iI_eq, iI_inb, iI_nat, iI_nz, g]
    rfl
  | succ k ih =>
    intro i n σ h1 h2
    obtain ⟨n2, rfl⟩ : ∃ n2, n = n2 + 1 := ⟨n - 1, by omega⟩
    have g : ¬ 4 ≤ (i : Int) := by omega
    unfold f_X10_back_66
    simp +decide (disch := omega) only [gl_e, iI_lit, iI_neg, iI_add, iI_sub, iI_mul, gk_t, b_some, bz0, bz1, pI_row, pI_snd, pA_row, pA_snd, pL_fst, pL_row, pB_fst, pB_row, upd_at, ↓reduceIte, Int.reduceToNat, Nat.reduceEqDiff, iI_lt, iI_le, iI_eq, iI_inb, iI_nat, iI_nz, g, Int.toNat_natCast]
    rw [show (i : Int) + 1 = ((i + 1 : Nat) : Int) by omega, ih (i + 1) n2 _ (by omega) (by omega)]
    rfl
def bkS (o : Nat) (j : Nat) (s : gS) : gS := pI s 17 j (if o ≤ j then iI 0 else s.1 19 j)
theorem w_bk28 (o : Nat) (ho : o ≤ 9) : ∀ (k i n : Nat) (σ : gS), σ.1 0 29 = iI o → i + k = 9 → k ≤ n → f_X10_back_28 (n + 1) (iI i) σ = f_X10_back_66 gN (iI 0) (itS (bkS o) i k σ) := by
  intro k
  induction k with
  | zero =>
    intro i n σ e h1 h2
    have g : 9 ≤ (i : Int) := by omega
    unfold f_X10_back_28
    simp +decide (disch := omega) only [gl_e, iI_lit, iI_neg, iI_add, iI_sub, iI_mul, gk_t, b_some, bz0, bz1, pI_row, pI_snd, pA_row, pA_snd, pL_fst, pL_row, pB_fst, pB_row, upd_at, ↓reduceIte, Int.reduceToNat, Nat.reduceEqDiff, iI_lt, iI_le, iI_eq, iI_inb, iI_nat, iI_nz, g]
    rfl
  | succ k ih =>
    intro i n σ e h1 h2
    obtain ⟨n2, rfl⟩ : ∃ n2, n = n2 + 1 := ⟨n - 1, by omega⟩
    have g : ¬ 9 ≤ (i : Int) := by omega
    have st : ∀ v, f_X10_back_57 (f_X10_back_28 (n2 + 1)) (iI i) v (iI i) σ = f_X10_back_28 (n2 + 1) (iI ((i + 1 : Nat) : Int)) (pI σ 17 i v) := by
      intro v
      unfold f_X10_back_57
      simp +decide (disch := omega) only [gl_e, iI_lit, iI_neg, iI_add, iI_sub, iI_mul, gk_t, b_some, bz0, bz1, pI_row, pI_snd, pA_row, pA_snd, pL_fst, pL_row, pB_fst, pB_row, upd_at, ↓reduceIte, Int.reduceToNat, Nat.reduceEqDiff, iI_lt, iI_le, iI_eq, iI_inb, iI_nat, iI_nz, Int.toNat_natCast]
      rw [show (i : Int) + 1 = ((i + 1 : Nat) : Int) by omega]
    rw [f_X10_back_28]
    simp +decide (disch := omega) only [gl_e, iI_lit, iI_neg, iI_add, iI_sub, iI_mul, gk_t, b_some, bz0, bz1, pI_row, pI_snd, pA_row, pA_snd, pL_fst, pL_row, pB_fst, pB_row, upd_at, ↓reduceIte, Int.reduceToNat, Nat.reduceEqDiff, iI_lt, iI_le, iI_eq, iI_inb, iI_nat, iI_nz, g, e, Int.toNat_natCast, st]
    by_cases c : (o : Int) ≤ i
    · simp only [c, ↓reduceIte]
      rw [ih (i + 1) n2 _ (by exact e) (by omega) (by omega)]
      show _ = f_X10_back_66 gN (iI 0) (itS (bkS o) (i + 1) k (bkS o i σ))
      rw [bkS, if_pos (by omega)]
    · simp only [c, ↓reduceIte]
      rw [ih (i + 1) n2 _ (by exact e) (by omega) (by omega)]
      show _ = f_X10_back_66 gN (iI 0) (itS (bkS o) (i + 1) k (bkS o i σ))
      rw [bkS, if_neg (by omega)]
theorem e_back (L : LawT) : EQ_back (Rel1 L) := by
  intro x m hR
  obtain ⟨⟨n, nb, hP, hC, hT, hD, hI, hK, hS⟩, hL⟩ := id hR
  have hn := hP.1
  unfold f_X9_back f_X2_become f_X10_back
  rcases id hI with ⟨e1, e2⟩ | ⟨e1, e2, o, ho, eo, hO⟩
  · rw [e1, e2]
    simp +decide (disch := omega) only [gl_e, iI_lit, iI_neg, iI_add, iI_sub, iI_mul, gk_t, b_some, bz0, bz1, pI_row, pI_snd, pA_row, pA_snd, pL_fst, pL_row, pB_fst, pB_row, upd_at, ↓reduceIte, Int.reduceToNat, Nat.reduceEqDiff, iI_lt, iI_le, iI_eq, iI_inb, iI_nat, iI_nz]
    exact ⟨_, _, _, rfl, rfl, hR⟩
  · rw [e1, e2]
    have e0 : iI 0 = iI ((0 : Nat) : Int) := rfl
    have hb := w_bk28 o (by omega) 9 0 999999 (pI (pI m 0 24 (m.1 0 30)) 0 25 (m.1 0 31)) eo rfl (by omega)
    have hc := w_bk66 4 0 999999 (itS (bkS o) 0 9 (pI (pI m 0 24 (m.1 0 30)) 0 25 (m.1 0 31))) rfl (by omega)
    simp +decide (disch := omega) only [gl_e, iI_lit, iI_neg, iI_add, iI_sub, iI_mul, gk_t, b_some, bz0, bz1, pI_row, pI_snd, pA_row, pA_snd, pL_fst, pL_row, pB_fst, pB_row, upd_at, ↓reduceIte, Int.reduceToNat, Nat.reduceEqDiff, iI_lt, iI_le, iI_eq, iI_inb, iI_nat, iI_nz, cpok9]
    rw [gN_s, e0, hb, gN_s, e0, hc]
    obtain ⟨m2, h2⟩ : ∃ m2, m2 = itS (fun j s => pI s 18 j (s.1 20 j)) 0 4 (itS (bkS o) 0 9 (pI (pI m 0 24 (m.1 0 30)) 0 25 (m.1 0 31))) := ⟨_, rfl⟩
    rw [← h2]
    obtain ⟨⟨p, hp⟩, ⟨a, ha, a1, a2⟩, ⟨e3, e4, e5, e6⟩, hd1, hd2⟩ := hO
    have er : m2.1 0 25 = x.1 39 2 := by
      rw [a1, ← a2, h2]
      rfl
    rw [er]
    refine ⟨_, _, _, rfl, rfl, ⟨n, nb, ?_, ?_, ?_, ?_, ?_, ?_, RSs_x (x1 := x.1) ?_ (fun c h1 h2 => by simp (disch := omega) only [pI_off, pA_off])⟩, ?_⟩
    · rw [h2]; exact hP
    · rw [h2]; exact hC
    · rw [h2]; exact hT
    · rw [h2]
      refine ⟨⟨p, ?_⟩, ⟨a, ha, a1, a2⟩, ⟨e3, e4, e5, e6⟩, fun i hi => ?_, fun i h3 h4 => ?_⟩
      · rcases hp with ⟨g1, g2, g3⟩ | g
        · exact Or.inl ⟨by omega, g2, g3⟩
        · exact Or.inr g
      · show _ = va_cpy (x.1 40) (x.1 38) 0 0 9 i
        rw [cpy9 hi]
        have key : (itS (fun j s => pI s 18 j (s.1 20 j)) 0 4 (itS (bkS o) 0 9 (pI (pI m 0 24 (m.1 0 30)) 0 25 (m.1 0 31)))).1 17 i = if o ≤ i then iI 0 else m.1 19 i := by
          revert i
          exact lt9 rfl rfl rfl rfl rfl rfl rfl rfl rfl
        rw [key]
        split
        · rename_i g
          exact (hd2 i g hi).symm
        · exact hd1 i hi
      · show va_cpy (x.1 40) (x.1 38) 0 0 9 i = iI 0
        rw [cpy9 h4]
        exact hd2 i (by omega) h4
    · rw [h2]
      exact Or.inr ⟨e1, e2, o, ho, eo, ⟨p, hp⟩, ⟨a, ha, a1, a2⟩, ⟨e3, e4, e5, e6⟩, hd1, hd2⟩
    · rw [h2]; exact hK
    · rw [h2]; exact hS
    · rw [h2]; exact hL
