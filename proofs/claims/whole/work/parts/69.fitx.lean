/-! ===== fit: the class ===== -/
theorem mkC1 : ∀ s : Nat, s < 512 → ∀ i : Nat, i < 9 → (iI s ||| (iI 1 <<< (iI i &&& iI 31)) = iI ((s ||| 2 ^ i : Nat) : Int) ∧ s ||| 2 ^ i < 512) := by decide +kernel
theorem mkC2 : ∀ s : Nat, s < 512 → ∀ i : Nat, i < 9 → ∀ y : Nat, y < 9 → (s ||| 2 ^ i).testBit y = (s.testBit y || (y == i)) := by decide +kernel
def c46 (c _j : Nat) : Bool := c == 46
def tqs (rw : Nat → Int) (t : Nat) : List Nat := (List.range t).map (fun j => (rw (2 * j)).toNat)
def okQ (n : Nat) (rw : Nat → Int) (k : Nat) : Prop := (∀ j, j < k → 0 ≤ rw (2 * j) ∧ rw (2 * j) < n) ∧ (∀ i j, i < j → j < k → rw (2 * i) ≠ rw (2 * j))
theorem w_cf22 {x m : gS} {n s z t : Nat} {rw : Nat → Int} (hn : n ≤ 6) (e1 : x.1 1 1 = iI n) (hb : rowB 1 (-32768) 32767 s z rw x m) (hs : s < 6) (ht : t ≤ n) (ht2 : 2 * t ≤ z) : ∀ (r k f : Nat) (σ : gS) (U : Nat), k + r = t → r ≤ f → Ch c46 x σ → okQ n rw k → (∀ j, j < k → σ.1 46 j = iI (rw (2 * j))) → U < 512 → (∀ p, p < 9 → (U.testBit p = true ↔ ∃ j, j < k ∧ rw (2 * j) = (p : Nat))) → (∃ τ, f_X9_countFits_22 (14 + 2 * s) (f + 1) (iI t) (iI U) (iI k) σ = some (iI 0, τ) ∧ Ch c46 x τ ∧ ¬ okQ n rw t) ∨ (∃ (τ : gS) (U2 : Nat), f_X9_countFits_22 (14 + 2 * s) (f + 1) (iI t) (iI U) (iI k) σ = f_X9_countFits_93 (14 + 2 * s) gN (iI t) (iI U2) (iI t) (iI 1) (iI 0) τ ∧ Ch c46 x τ ∧ okQ n rw t ∧ (∀ j, j < t → τ.1 46 j = iI (rw (2 * j))) ∧ U2 < 512 ∧ (∀ p, p < 9 → (U2.testBit p = true ↔ ∃ j, j < t ∧ rw (2 * j) = (p : Nat)))) := by
  have hr := hb.2.2.2.2.2.2
  intro r
  induction r with
  | zero =>
    intro k f σ U hk hf hc hq ho hU hUb
    have g : (t : Int) ≤ (k : Int) := by omega
    have e : k = t := by omega
    subst e
    refine Or.inr ⟨σ, U, ?_, hc, hq, ho, hU, hUb⟩
    rw [f_X9_countFits_22]
    simp +decide (maxSteps := 2000000) (disch := omega) only [↓gl_p, ↓bs_p, iI_lit, iI_neg, iI_add, iI_sub, iI_mul, gk_p, bs_p, bz0, bz1, pI_row, pI_snd, pA_row, pA_snd, pL_fst, pL_row, pB_fst, pB_row, upd_at, ↓reduceIte, Int.reduceToNat, Nat.reduceEqDiff, iI_lt, iI_le, iI_eq, iI_inb, iI_nat, iI_nz, Int.le_refl]
  | succ r ih =>
    intro k f σ U hk hf hc hq ho hU hUb
    obtain ⟨f, rfl⟩ : ∃ q, f = q + 1 := ⟨f - 1, by omega⟩
    have g : ¬ (t : Int) ≤ (k : Int) := by omega
    have s1 : σ.1 1 1 = iI n := (hc.2 1 1 rfl).trans e1
    have row : σ.1 (14 + 2 * s) = x.1 (14 + 2 * s) := Ch_row hc (fun j => by
      unfold c46
      simp
      omega)
    have cl := s_cell (rowB_x hb row hc.1) (show 2 * k < z by omega)
    rw [show ((2 * k : Nat) : Int) = 2 * (k : Int) by omega] at cl
    have r1 := hr (2 * k) (by omega)
    have po := s_poX (σ := σ) (by omega) s1 (a := rw (2 * k)) (by omega) (by omega)
    rw [f_X9_countFits_22]
    by_cases c1 : 0 ≤ rw (2 * k) ∧ rw (2 * k) < n
    rotate_left
    · refine Or.inl ⟨σ, ?_, hc, fun h => c1 (h.1 k (by omega))⟩
      simp +decide (maxSteps := 2000000) (disch := omega) only [↓gl_p, ↓bs_p, iI_lit, iI_neg, iI_add, iI_sub, iI_mul, gk_p, bs_p, bz0, bz1, pI_row, pI_snd, pA_row, pA_snd, pL_fst, pL_row, pB_fst, pB_row, upd_at, ↓reduceIte, Int.reduceToNat, Nat.reduceEqDiff, iI_lt, iI_le, iI_eq, iI_inb, iI_nat, iI_nz, g, cl, lL_32, po, bI_0, c1, not_false_eq_true]
    · obtain ⟨p, hp⟩ : ∃ p : Nat, rw (2 * k) = (p : Int) := ⟨(rw (2 * k)).toNat, by omega⟩
      have b := mkB6 U hU p (by omega)
      obtain ⟨d1, d2⟩ := mkC1 U hU p (by omega)
      have hup := hUb p (by omega)
      rw [hp] at cl po c1
      cases hb2 : U.testBit p
      · rw [hb2] at b
        have b2 : (iI U >>> (iI p &&& iI 31)) &&& iI 1 = iI 0 := b
        have hnew : okQ n rw (k + 1) := by
          refine ⟨fun j hj => ?_, fun i j hij hj => ?_⟩
          · by_cases e : j = k
            · rw [e, hp]
              exact c1
            · exact hq.1 j (by omega)
          · by_cases e : j = k
            · rw [e, hp]
              intro e2
              have := hup.mpr ⟨i, by omega, e2⟩
              rw [hb2] at this
              exact absurd this (by decide)
            · exact hq.2 i j hij (by omega)
        have k2 := ih (k + 1) f (pI σ 46 k (iI (p : Nat))) (U ||| 2 ^ p) (by omega) (by omega) (Ch_pI hc rfl) hnew (fun j hj => by
          rw [pI_row, if_pos rfl, upd_at]
          by_cases e : j = k
          · rw [if_pos e, e, hp]
          · rw [if_neg e]
            exact ho j (by omega)) d2 (fun y hy => by
          rw [mkC2 U hU p (by omega) y hy, Bool.or_eq_true, hUb y hy, beq_iff_eq]
          constructor
          · rintro (⟨j, j1, j2⟩ | h)
            · exact ⟨j, by omega, j2⟩
            · exact ⟨k, by omega, by rw [hp, h]⟩
          · rintro ⟨j, j1, j2⟩
            by_cases e : j = k
            · right
              rw [e, hp] at j2
              omega
            · exact Or.inl ⟨j, by omega, j2⟩)
        have step : f_X9_countFits_22 (14 + 2 * s) (f + 1 + 1) (iI t) (iI U) (iI k) σ = f_X9_countFits_22 (14 + 2 * s) (f + 1) (iI t) (iI ((U ||| 2 ^ p : Nat) : Int)) (iI ((k : Int) + 1)) (pI σ 46 k (iI (p : Nat))) := by
          rw [f_X9_countFits_22]
          simp +decide (maxSteps := 2000000) (disch := omega) only [↓gl_p, ↓bs_p, iI_lit, iI_neg, iI_add, iI_sub, iI_mul, gk_p, bs_p, bz0, bz1, pI_row, pI_snd, pA_row, pA_snd, pL_fst, pL_row, pB_fst, pB_row, upd_at, ↓reduceIte, Int.reduceToNat, Nat.reduceEqDiff, iI_lt, iI_le, iI_eq, iI_inb, iI_nat, iI_nz, g, cl, lL_32, po, bI_0, c1, b2, d1, not_true_eq_false, and_self, Int.toNat_natCast]
        rw [← f_X9_countFits_22, step]
        exact k2
      · rw [hb2] at b
        have b2 : (iI U >>> (iI p &&& iI 31)) &&& iI 1 = iI 1 := b
        obtain ⟨j, j1, j2⟩ := hup.mp hb2
        refine Or.inl ⟨σ, ?_, hc, fun h => h.2 j k j1 (by omega) (by rw [j2, hp])⟩
        simp +decide (maxSteps := 2000000) (disch := omega) only [↓gl_p, ↓bs_p, iI_lit, iI_neg, iI_add, iI_sub, iI_mul, gk_p, bs_p, bz0, bz1, pI_row, pI_snd, pA_row, pA_snd, pL_fst, pL_row, pB_fst, pB_row, upd_at, ↓reduceIte, Int.reduceToNat, Nat.reduceEqDiff, iI_lt, iI_le, iI_eq, iI_inb, iI_nat, iI_nz, g, cl, lL_32, po, bI_0, c1, b2, not_true_eq_false, and_self]
theorem fct_rg : ∀ k : Nat, k < 7 → 1 ≤ fct k ∧ fct k ≤ 720 := by decide +kernel
def unq (q : List Nat) (p : Nat) : List Nat := (List.range p).filter (ntin q)
theorem unq_y {q : List Nat} {p : Nat} (h : ntin q p = true) : unq q (p + 1) = unq q p ++ [p] := by
  unfold unq
  rw [List.range_succ, List.filter_append, List.filter_cons_of_pos h]
  rfl
theorem unq_n {q : List Nat} {p : Nat} (h : ntin q p = false) : unq q (p + 1) = unq q p := by
  unfold unq
  rw [List.range_succ, List.filter_append, List.filter_cons_of_neg (by simp [h])]
  exact List.append_nil _
theorem unq_pre (q : List Nat) (p : Nat) : ∀ r, ∃ X, unq q (p + r) = unq q p ++ X := by
  intro r
  induction r with
  | zero => exact ⟨[], (List.append_nil _).symm⟩
  | succ r ih =>
    obtain ⟨X, hX⟩ := ih
    cases h : ntin q (p + r)
    · exact ⟨X, by rw [show p + (r + 1) = p + r + 1 by omega, unq_n h, hX]⟩
    · exact ⟨X ++ [p + r], by rw [show p + (r + 1) = p + r + 1 by omega, unq_y h, hX, List.append_assoc]⟩
theorem w_cf93 {x : gS} {n s t U : Nat} {q : List Nat} (hn : n ≤ 6) (e1 : x.1 1 1 = iI n) (hU : U < 512) (hq : ∀ p, p < 9 → U.testBit p = !(ntin q p)) (hql : q.length = t) (htn : t + (unq q n).length = n) : ∀ (r p f : Nat) (σ : gS), p + r = n → r ≤ f → Ch c46 x σ → (∀ i, i < t + (unq q p).length → σ.1 46 i = iI ((q ++ unq q p).getD i 0)) → ∃ τ, f_X9_countFits_93 (14 + 2 * s) (f + 1) (iI t) (iI U) (iI (t + (unq q p).length : Nat)) (iI (fct (unq q p).length : Nat)) (iI p) σ = f_X9_countFits_148 (14 + 2 * s) (iI n) (iI (fct (unq q n).length : Nat)) τ ∧ Ch c46 x τ ∧ ∀ i, i < n → τ.1 46 i = iI ((q ++ unq q n).getD i 0) := by
  intro r
  induction r with
  | zero =>
    intro p f σ hp hf hc ho
    have s1 : σ.1 1 1 = iI n := (hc.2 1 1 rfl).trans e1
    have e : p = n := by omega
    subst e
    refine ⟨σ, ?_, hc, fun i hi => ho i (by omega)⟩
    rw [f_X9_countFits_93, htn]
    simp +decide (maxSteps := 2000000) (disch := omega) only [↓gl_p, ↓bs_p, iI_lit, iI_neg, iI_add, iI_sub, iI_mul, gk_p, bs_p, bz0, bz1, pI_row, pI_snd, pA_row, pA_snd, pL_fst, pL_row, pB_fst, pB_row, upd_at, ↓reduceIte, Int.reduceToNat, Nat.reduceEqDiff, iI_lt, iI_le, iI_eq, iI_inb, iI_nat, iI_nz, s1, Int.le_refl]
  | succ r ih =>
    intro p f σ hp hf hc ho
    obtain ⟨f, rfl⟩ : ∃ k, f = k + 1 := ⟨f - 1, by omega⟩
    have s1 : σ.1 1 1 = iI n := (hc.2 1 1 rfl).trans e1
    have g : ¬ (n : Int) ≤ (p : Int) := by omega
    obtain ⟨X, hX⟩ := unq_pre q p (r + 1)
    rw [hp] at hX
    have hlen := congrArg List.length hX
    rw [List.length_append] at hlen
    rw [f_X9_countFits_93]
    by_cases c : 6 ≤ t + (unq q p).length
    · have c2 : 6 ≤ ((t + (unq q p).length : Nat) : Int) := by omega
      have e : unq q n = unq q p := by
        have : X = [] := List.length_eq_zero_iff.mp (by omega)
        rw [hX, this, List.append_nil]
      refine ⟨σ, ?_, hc, fun i hi => by rw [e]; exact ho i (by rw [e] at htn; omega)⟩
      have e3 : t + (unq q p).length = n := by rw [← e]; exact htn
      rw [e]
      rw [e3] at c2
      rw [e3]
      simp +decide (maxSteps := 2000000) (disch := omega) only [↓gl_p, ↓bs_p, iI_lit, iI_neg, iI_add, iI_sub, iI_mul, gk_p, bs_p, bz0, bz1, pI_row, pI_snd, pA_row, pA_snd, pL_fst, pL_row, pB_fst, pB_row, upd_at, ↓reduceIte, Int.reduceToNat, Nat.reduceEqDiff, iI_lt, iI_le, iI_eq, iI_inb, iI_nat, iI_nz, s1, g, c2]
    · have c2 : ¬ 6 ≤ ((t + (unq q p).length : Nat) : Int) := by omega
      have b := mkB6 U hU p (by omega)
      rw [hq p (by omega)] at b
      cases hb : ntin q p
      · rw [hb] at b
        have b2 : (iI U >>> (iI p &&& iI 31)) &&& iI 1 = iI 1 := b
        obtain ⟨τ, a1, a2, a3⟩ := ih (p + 1) f σ (by omega) (by omega) hc (by rw [unq_n hb]; exact ho)
        rw [unq_n hb] at a1
        refine ⟨τ, ?_, a2, a3⟩
        simp +decide (maxSteps := 2000000) (disch := omega) only [↓gl_p, ↓bs_p, iI_lit, iI_neg, iI_add, iI_sub, iI_mul, gk_p, bs_p, bz0, bz1, pI_row, pI_snd, pA_row, pA_snd, pL_fst, pL_row, pB_fst, pB_row, upd_at, ↓reduceIte, Int.reduceToNat, Nat.reduceEqDiff, iI_lt, iI_le, iI_eq, iI_inb, iI_nat, iI_nz, s1, g, c2, b2]
        exact a1
      · rw [hb] at b
        have b2 : (iI U >>> (iI p &&& iI 31)) &&& iI 1 = iI 0 := b
        have el : (unq q (p + 1)).length = (unq q p).length + 1 := by
          rw [unq_y hb, List.length_append]
          rfl
        obtain ⟨τ, a1, a2, a3⟩ := ih (p + 1) f (pI σ 46 (t + (unq q p).length) (iI p)) (by omega) (by omega) (Ch_pI hc rfl) (fun i hi => by
          rw [el] at hi
          rw [pI_row, if_pos rfl, upd_at, unq_y hb, ← List.append_assoc]
          by_cases e : i = t + (unq q p).length
          · rw [if_pos e, e, show t + (unq q p).length = (q ++ unq q p).length by rw [List.length_append, hql], gD_x]
          · rw [if_neg e, gD_l (by rw [List.length_append, hql]; omega)]
            exact ho i (by omega))
        rw [el] at a1
        refine ⟨τ, ?_, a2, a3⟩
        have e5 : ((fct (unq q p).length : Nat) : Int) * (((t + (unq q p).length : Nat) : Int) + 1 - (t : Int)) = ((fct ((unq q p).length + 1) : Nat) : Int) := by
          show _ = ((fct (unq q p).length * ((unq q p).length + 1) : Nat) : Int)
          rw [show ((t + (unq q p).length : Nat) : Int) + 1 - (t : Int) = (((unq q p).length + 1 : Nat) : Int) by omega]
          rfl
        simp +decide (maxSteps := 2000000) (disch := omega) only [↓gl_p, ↓bs_p, iI_lit, iI_neg, iI_add, iI_sub, iI_mul, gk_p, bs_p, bz0, bz1, pI_row, pI_snd, pA_row, pA_snd, pL_fst, pL_row, pB_fst, pB_row, upd_at, ↓reduceIte, Int.reduceToNat, Nat.reduceEqDiff, iI_lt, iI_le, iI_eq, iI_inb, iI_nat, iI_nz, s1, g, c2, b2, e5, Int.toNat_natCast]
        exact a1
theorem w_lo17 {x : gS} {n : Nat} {S : Nat → Nat} (hn : n ≤ 6) (e4 : x.1 26 4 = iI n) (eo : ∀ i, i < n → x.1 46 i = iI (S i)) : ∀ (r i f : Nat) (σ : gS), i + r = n → r ≤ f → Ch tuC x σ → (∀ j, j < i → σ.1 27 j = iI (S j)) → ∃ τ, f_X1_layOrder_17 26 (f + 1) (iI i) σ = (f_X1_measure τ 26).bind (fun q => some q) ∧ Ch tuC x τ ∧ ∀ j, j < n → τ.1 27 j = iI (S j) := by
  intro r
  induction r with
  | zero =>
    intro i f σ hi hf hc ho
    have s4 : σ.1 26 4 = iI n := (hc.2 26 4 rfl).trans e4
    have g : (n : Int) ≤ (i : Int) := by omega
    refine ⟨σ, ?_, hc, fun j hj => ho j (by omega)⟩
    rw [f_X1_layOrder_17]
    simp +decide (maxSteps := 2000000) (disch := omega) only [↓gl_p, ↓bs_p, iI_lit, iI_neg, iI_add, iI_sub, iI_mul, gk_p, bs_p, bz0, bz1, pI_row, pI_snd, pA_row, pA_snd, pL_fst, pL_row, pB_fst, pB_row, upd_at, ↓reduceIte, Int.reduceToNat, Nat.reduceEqDiff, iI_lt, iI_le, iI_eq, iI_inb, iI_nat, iI_nz, s4, g]
  | succ r ih =>
    intro i f σ hi hf hc ho
    obtain ⟨f, rfl⟩ : ∃ q, f = q + 1 := ⟨f - 1, by omega⟩
    have s4 : σ.1 26 4 = iI n := (hc.2 26 4 rfl).trans e4
    have g : ¬ (n : Int) ≤ (i : Int) := by omega
    have q : σ.1 46 i = iI (S i) := (hc.2 46 i rfl).trans (eo i (by omega))
    obtain ⟨τ, a1, a2, a3⟩ := ih (i + 1) f (pI σ 27 i (iI (S i))) (by omega) (by omega) (Ch_pI hc rfl) (fun j hj => by
      rw [pI_row, if_pos rfl, upd_at]
      by_cases e : j = i
      · rw [if_pos e, e]
      · rw [if_neg e]
        exact ho j (by omega))
    refine ⟨τ, ?_, a2, a3⟩
    rw [f_X1_layOrder_17]
    simp +decide (maxSteps := 2000000) (disch := omega) only [↓gl_p, ↓bs_p, iI_lit, iI_neg, iI_add, iI_sub, iI_mul, gk_p, bs_p, bz0, bz1, pI_row, pI_snd, pA_row, pA_snd, pL_fst, pL_row, pB_fst, pB_row, upd_at, ↓reduceIte, Int.reduceToNat, Nat.reduceEqDiff, iI_lt, iI_le, iI_eq, iI_inb, iI_nat, iI_nz, Nat.reduceAdd, s4, g, q, Int.toNat_natCast]
    exact a1
theorem s_layO {x : gS} {n sd : Nat} {w : Nat → Nat → Nat} {S : Nat → Nat} (hY : YD n w sd x) (hn : n ≤ 6) (hS : ∀ i, i < n → S i < n) (eo : ∀ i, i < n → x.1 46 i = iI (S i)) : ∃ y, f_X1_layOrder x 26 (iI n) = some y ∧ Ch (coC 26) x y ∧ CO 26 n n w sd S y := by
  obtain ⟨σ, a1, a2, a3⟩ := w_lo17 (x := pI x 26 4 (iI n)) (n := n) (S := S) hn rfl eo n 0 999999 (pI x 26 4 (iI n)) (by omega) (by omega) (Ch_refl _ _) (fun j hj => absurd hj (by omega))
  have c1 : Ch (coC 26) x σ := Ch_tr (Ch_pI (Ch_refl _ _) rfl) (Ch_mo a2 fun c j h => by
    unfold coC at h
    unfold tuC
    simp at h ⊢
    omega)
  obtain ⟨y, b1, b2, b3⟩ := s_meas_26 (S := S) (show n ≤ 20 by omega) hS (YD_ch hY c1 (fun _ => rfl) (fun _ => rfl)) (a2.2 26 4 rfl) a3
  have ej : jmin (iI n) (jmin (iI 20) (iI 6)) = iI n := by
    rw [show jmin (iI 20) (iI 6) = iI 6 by decide, jmin_i (by omega) (by omega) (by omega) (by omega), if_neg (by omega)]
  refine ⟨y, ?_, Ch_tr c1 (Ch_mo b2 fun c j h => ?_), b3⟩
  · rw [b1] at a1
    unfold f_X1_layOrder
    simp +decide (maxSteps := 2000000) (disch := omega) only [↓gl_p, ↓bs_p, iI_lit, iI_neg, iI_add, iI_sub, iI_mul, gk_p, bs_p, bz0, bz1, pI_row, pI_snd, pA_row, pA_snd, pL_fst, pL_row, pB_fst, pB_row, upd_at, ↓reduceIte, Int.reduceToNat, Nat.reduceEqDiff, iI_lt, iI_le, iI_eq, iI_inb, iI_nat, iI_nz]
    rw [ej]
    exact a1
  · unfold coC at h
    unfold meC
    simp at h ⊢
    omega
theorem sc_46 {x y : gS} (h : Ch c46 x y) : Ch scX x y := Ch_mo h fun c j hd => by
  unfold scX at hd
  unfold c46
  simp at hd ⊢
  omega
/-- as many orders fit as the class tells -/
theorem fit_eq {w : Nat → Nat → Nat} {sd n z t : Nat} {rw : Nat → Int} (ht : t = if z / 2 < n then z / 2 else n) (hq : okQ n rw t) : (lexp n (List.range n)).filter (ppl w sd n z rw) = if ppl w sd n z rw (tqs rw t ++ unq (tqs rw t) n) = true then (lexp n (List.range n)).filter (hasP (tqs rw t)) else [] := by
  have ht2 : t ≤ n ∧ t ≤ z / 2 := by
    rw [ht]
    split <;> omega
  have hql : (tqs rw t).length = t := by
    unfold tqs
    rw [List.length_map, List.length_range]
  have hqg : ∀ j, j < t → (tqs rw t).getD j 0 = (rw (2 * j)).toNat := fun j hj => by
    unfold tqs
    rw [List.getD_eq_getElem?_getD, List.getElem?_map, List.getElem?_range hj]
    rfl
  have key : ∀ l, l ∈ lexp n (List.range n) → ppl w sd n z rw l = (hasP (tqs rw t) l && ppl w sd n z rw (tqs rw t ++ unq (tqs rw t) n)) := fun l hl => by
    obtain ⟨l1, l2⟩ := lexp_in n (List.range n) l hl
    cases hp : hasP (tqs rw t) l
    · cases hpp : ppl w sd n z rw l
      · rfl
      · have h3 : hasP (tqs rw t) l = true := (hasP_iff _ _).mpr ⟨by omega, fun j hj => by
          rw [hql] at hj
          have h4 := mkp_po ((z + 1) / 2) 0 hpp j (by omega) (by omega)
          rw [Nat.mod_eq_of_lt (by omega)] at h4
          rw [hqg j hj, h4]
          rfl⟩
        rw [hp] at h3
        exact absurd h3 (by decide)
    · have h3 := ((hasP_iff _ _).mp hp).2
      rw [hql] at h3
      have h4 : ∀ j, j < t → l.getD j 0 = (tqs rw t ++ unq (tqs rw t) n).getD j 0 := fun j hj => by
        rw [gD_l (by omega)]
        exact h3 j hj
      rw [Bool.true_and]
      by_cases c : z / 2 < n
      · have et : t = z / 2 := by rw [ht, if_pos c]
        by_cases c2 : (z + 1) / 2 = t
        · unfold ppl
          rw [c2]
          exact mkp_cg t 0 t (by omega) ht2.1 h4
        · have c3 : (z + 1) / 2 = t + 1 := by omega
          unfold ppl
          rw [c3, mkp_od t 0 (by omega), mkp_od t 0 (by omega)]
      · have et : t = n := by rw [ht, if_neg c]
        have pr := lexp_pre (tqs rw t) n (List.range n) List.length_range List.nodup_range (by
          unfold tqs
          rw [List.pairwise_map]
          refine List.Pairwise.imp_of_mem (fun {a b} ha hb hab q => ?_) (List.pairwise_lt_range (n := t))
          have h5 := hq.1 a (List.mem_range.mp ha)
          have h6 := hq.1 b (List.mem_range.mp hb)
          exact hq.2 a b hab (List.mem_range.mp hb) (by omega)) (fun y hy => by
          unfold tqs at hy
          obtain ⟨j, j1, j2⟩ := List.mem_map.mp hy
          have h5 := hq.1 j (List.mem_range.mp j1)
          exact List.mem_range.mpr (by omega))
        have e6 : unq (tqs rw t) n = [] := List.length_eq_zero_iff.mp (by
          have h7 := pr.2.2
          rw [hql] at h7
          show ((List.range n).filter (ntin (tqs rw t))).length = 0
          omega)
        have e7 : l = tqs rw t ++ unq (tqs rw t) n := by
          rw [e6, List.append_nil]
          rw [← gD_self l, ← gD_self (tqs rw t), l1, hql, et]
          exact List.map_congr_left (fun j hj => by
            have hj2 := List.mem_range.mp hj
            rw [← et] at hj2
            have h8 := h3 j hj2
            rw [et] at h8
            exact h8)
        rw [← e7]
  rw [List.filter_congr key]
  cases hpp : ppl w sd n z rw (tqs rw t ++ unq (tqs rw t) n)
  · rw [if_neg (by decide)]
    exact List.filter_eq_nil_iff.mpr (fun l _ => by simp)
  · rw [if_pos rfl]
    exact List.filter_congr (fun l _ => Bool.and_true _)
theorem fit_no {w : Nat → Nat → Nat} {sd n z t : Nat} {rw : Nat → Int} (ht : t = if z / 2 < n then z / 2 else n) (hq : ¬ okQ n rw t) : (lexp n (List.range n)).filter (ppl w sd n z rw) = [] := by
  have ht2 : t ≤ n ∧ t ≤ z / 2 := by
    rw [ht]
    split <;> omega
  refine List.filter_eq_nil_iff.mpr (fun l hl hp => hq ?_)
  obtain ⟨l1, l2⟩ := lexp_in n (List.range n) l hl
  have nd := lexp_nd n (List.range n) l List.nodup_range hl
  have h4 : ∀ j, j < t → rw (2 * j) = (l.getD j 0 : Nat) := fun j hj => by
    have h := mkp_po ((z + 1) / 2) 0 hp j (by omega) (by omega)
    rw [Nat.mod_eq_of_lt (by omega)] at h
    exact h
  refine ⟨fun j hj => ?_, fun i j hij hj e => ?_⟩
  · have := List.mem_range.mp (l2 _ (gD_m (i := j) (by omega)))
    rw [h4 j hj]
    omega
  · rw [h4 i (by omega), h4 j hj] at e
    have h5 := List.pairwise_iff_getElem.mp nd i j (by omega) (by omega) hij
    rw [← gD_e (by omega), ← gD_e (by omega)] at h5
    omega
theorem e_fit (L : LawT) : EQ_fit (Rel1 L) := by
  intro x m a1 a2 hR
  obtain ⟨v, rfl, hv1, hv2⟩ := iI_of a1
  obtain ⟨q, rfl, hq1, hq2⟩ := iI_of a2
  obtain ⟨⟨n, nb, hP, hC, hT, hD, hI, hK, hS⟩, hL⟩ := id hR
  have hn9 := hP.1
  unfold f_X9_fit f_X10_fit
  by_cases c1 : 0 ≤ v ∧ v ≤ 5
  rotate_left
  · simp +decide (maxSteps := 2000000) (disch := omega) only [↓gl_p, ↓bs_p, iI_lit, iI_neg, iI_add, iI_sub, iI_mul, gk_p, bs_p, bz0, bz1, pI_row, pI_snd, pA_row, pA_snd, pL_fst, pL_row, pB_fst, pB_row, upd_at, ↓reduceIte, Int.reduceToNat, Nat.reduceEqDiff, iI_lt, iI_le, iI_eq, iI_inb, iI_nat, iI_nz, c1, s_shX, s_shM, bI_0, not_false_eq_true]
    exact ⟨_, _, _, rfl, rfl, hR⟩
  by_cases c2 : -1 ≤ q
  rotate_left
  · simp +decide (maxSteps := 2000000) (disch := omega) only [↓gl_p, ↓bs_p, iI_lit, iI_neg, iI_add, iI_sub, iI_mul, gk_p, bs_p, bz0, bz1, pI_row, pI_snd, pA_row, pA_snd, pL_fst, pL_row, pB_fst, pB_row, upd_at, ↓reduceIte, Int.reduceToNat, Nat.reduceEqDiff, iI_lt, iI_le, iI_eq, iI_inb, iI_nat, iI_nz, c1, c2, s_shX, s_shM, bI_0, not_true_eq_false, and_self]
    exact ⟨_, _, _, rfl, rfl, hR⟩
  obtain ⟨s, hs, rfl⟩ : ∃ k : Nat, k < 6 ∧ v = (k : Int) := ⟨v.toNat, by omega, by omega⟩
  simp +decide (maxSteps := 2000000) (disch := omega) only [↓gl_p, ↓bs_p, iI_lit, iI_neg, iI_add, iI_sub, iI_mul, gk_p, bs_p, bz0, bz1, pI_row, pI_snd, pA_row, pA_snd, pL_fst, pL_row, pB_fst, pB_row, upd_at, ↓reduceIte, Int.reduceToNat, Nat.reduceEqDiff, iI_lt, iI_le, iI_eq, iI_inb, iI_nat, iI_nz, c1, c2, s_shX, s_shM, bI_0, not_true_eq_false, and_self, s_shAt, Int.toNat_natCast]
  rcases s_ref hs hK.1 hS (q0 := 1) (Or.inr ⟨rfl, rfl, rfl⟩) with ⟨r1, r2, -⟩ | ⟨r1, ⟨h, r2, r3, r4⟩, -⟩ | ⟨r1, z, rw, hb⟩
  · have nr := s_nr1 hs (q := iI 1) r2
    simp +decide (maxSteps := 2000000) (disch := omega) only [↓gl_p, ↓bs_p, iI_lit, iI_neg, iI_add, iI_sub, iI_mul, gk_p, bs_p, bz0, bz1, pI_row, pI_snd, pA_row, pA_snd, pL_fst, pL_row, pB_fst, pB_row, upd_at, ↓reduceIte, Int.reduceToNat, Nat.reduceEqDiff, iI_lt, iI_le, iI_eq, iI_inb, iI_nat, iI_nz, show f_X5_refusalFor x (14 + 2 * s) (iI 1) = _ from r1, nr]
    exact ⟨_, _, _, rfl, rfl, hR⟩
  · have nr := s_nr2 hs (q := 1) r2 (by omega) (by omega) r3
    simp +decide (maxSteps := 2000000) (disch := omega) only [↓gl_p, ↓bs_p, iI_lit, iI_neg, iI_add, iI_sub, iI_mul, gk_p, bs_p, bz0, bz1, pI_row, pI_snd, pA_row, pA_snd, pL_fst, pL_row, pB_fst, pB_row, upd_at, ↓reduceIte, Int.reduceToNat, Nat.reduceEqDiff, iI_lt, iI_le, iI_eq, iI_inb, iI_nat, iI_nz, show f_X5_refusalFor x (14 + 2 * s) (iI 1) = _ from r1, show f_X10_noRow m (iI s) (iI 1) = _ from nr]
    exact ⟨_, _, _, rfl, rfl, hR⟩
  have nr := s_nr0 hs (q := 1) hb.2.2.2.2.1 (by omega)
  by_cases c3 : n ≤ 6
  rotate_left
  · have c4 : ¬ (n : Int) ≤ 6 := by omega
    simp +decide (maxSteps := 2000000) (disch := omega) only [↓gl_p, ↓bs_p, iI_lit, iI_neg, iI_add, iI_sub, iI_mul, gk_p, bs_p, bz0, bz1, pI_row, pI_snd, pA_row, pA_snd, pL_fst, pL_row, pB_fst, pB_row, upd_at, ↓reduceIte, Int.reduceToNat, Nat.reduceEqDiff, iI_lt, iI_le, iI_eq, iI_inb, iI_nat, iI_nz, show f_X5_refusalFor x (14 + 2 * s) (iI 1) = _ from r1, show f_X10_noRow m (iI s) (iI 1) = _ from nr, hP.2.1, hP.2.2.1, c4]
    exact ⟨_, _, _, rfl, rfl, hR⟩
  have c4 : (n : Int) ≤ 6 := by omega
  obtain ⟨w, sd, hY, hM⟩ := YD_of hP
  have hw : ∀ p q, okP n p → okP n q → w p q ≤ 270 := fun p q hp hq => (hY.2.2.2.2 p q hp hq).1
  obtain ⟨m2, f1, f2, f3⟩ := s_fiM hs c3 hw hY.2.1 hM hb (iI q)
  have hz := hb.1
  obtain ⟨t, ht⟩ : ∃ t, t = if z / 2 < n then z / 2 else n := ⟨_, rfl⟩
  have ht2 : t ≤ n ∧ t ≤ z / 2 := by
    rw [ht]
    split <;> omega
  have ej : jmin (iI z / iI 2) (iI n) = iI t := by
    rw [iI_div (by omega) (by omega) (by omega) (by omega), jmin_i (by omega) (by omega) (by omega) (by omega), ht]
    by_cases c : z / 2 < n
    · rw [if_neg (by omega), if_pos c]
      rfl
    · by_cases c5 : (n : Int) < (z : Int) / 2
      · rw [if_pos c5, if_neg c]
      · rw [if_neg c5, if_neg c, show (z : Int) / 2 = (n : Int) by omega]
  have cfs : f_X9_countFits x (14 + 2 * s) = f_X9_countFits_22 (14 + 2 * s) gN (iI t) (iI 0) (iI 0) x := by
    unfold f_X9_countFits
    simp +decide (maxSteps := 2000000) (disch := omega) only [↓gl_p, ↓bs_p, iI_lit, iI_neg, iI_add, iI_sub, iI_mul, gk_p, bs_p, bz0, bz1, pI_row, pI_snd, pA_row, pA_snd, pL_fst, pL_row, pB_fst, pB_row, upd_at, ↓reduceIte, Int.reduceToNat, Nat.reduceEqDiff, iI_lt, iI_le, iI_eq, iI_inb, iI_nat, iI_nz, hb.2.2.2.1, hY.2.2.1]
    rw [ej]
  have k22 := w_cf22 (x := x) (m := m) c3 hY.2.2.1 hb hs ht2.1 (by omega) t 0 999999 x 0 (by omega) (by omega) (Ch_refl _ _) ⟨fun j hj => absurd hj (by omega), fun i j _ hj => absurd hj (by omega)⟩ (fun j hj => absurd hj (by omega)) (by omega) (fun p hp => ⟨fun h => absurd h (by simp), fun ⟨j, j1, _⟩ => absurd j1 (by omega)⟩)
  -- the answer, once both numbers are known
  have fin : ∀ (V : Nat) (y : gS) (l0 : List Nat), f_X9_countFits x (14 + 2 * s) = some (iI (V : Nat), y) → Ch scX x y → V ≤ 720 → ((lexp n (List.range n)).filter (ppl w sd n z rw)).length = V → (V ≠ 0 → (∀ i, i < n → y.1 46 i = iI (l0.getD i 0)) ∧ ((lexp n (List.range n)).filter (ppl w sd n z rw)).head? = some l0) → ∃ (r : Int32) (σ1 : gS) (σ2 : gS), (if iI 0 ≤ iI 0 then (if x.1 1 1 ≤ iI 6 then (f_X9_countFits x (14 + 2 * s)).bind fun q4 => (if q = -1 then some (q4.1, q4.2) else (if q4.1 = iI 0 then some (iI (-2), q4.2) else (if iI q < (q4.2.1 1 1) then gk (inb (iI q) 6) (some ((q4.2.1 46 q.toNat), q4.2)) else some (iI (-2), q4.2)))) else some (iI (-5), x)) else some (iI 0, x)) = some (r, σ1) ∧ (if iI 0 ≤ iI 0 then (if m.1 0 0 ≤ iI 6 then f_X10_fit_42 gN (iI s) (iI q) (iI 0) m else some (iI (-5), m)) else some (iI 0, m)) = some (r, σ2) ∧ Rel1 L σ1 σ2 := by
    intro V y l0 h1 h2 h3 h4 h5
    have hR2 := Rel1_sc hR h2 (sc_ff f2)
    have y1 : y.1 1 1 = iI n := (h2.2 1 1 rfl).trans hY.2.2.1
    have m0 : m2.1 0 0 = iI n := (f2.2 0 0 rfl).trans hM.1
    rw [f1, h1, h4]
    unfold ftE
    by_cases d1 : q = -1
    · simp +decide (maxSteps := 2000000) (disch := omega) only [↓gl_p, ↓bs_p, iI_lit, iI_neg, iI_add, iI_sub, iI_mul, gk_p, bs_p, bz0, bz1, pI_row, pI_snd, pA_row, pA_snd, pL_fst, pL_row, pB_fst, pB_row, upd_at, ↓reduceIte, Int.reduceToNat, Nat.reduceEqDiff, iI_lt, iI_le, iI_eq, iI_inb, iI_nat, iI_nz, hP.2.1, hP.2.2.1, c4, eq_true d1]
      exact ⟨_, _, _, rfl, rfl, hR2⟩
    by_cases d2 : V = 0
    · have d3 := eq_true (show (V : Int) = 0 by omega)
      have d4 : (V : Int) ≤ 0 := by omega
      simp +decide (maxSteps := 2000000) (disch := omega) only [↓gl_p, ↓bs_p, iI_lit, iI_neg, iI_add, iI_sub, iI_mul, gk_p, bs_p, bz0, bz1, pI_row, pI_snd, pA_row, pA_snd, pL_fst, pL_row, pB_fst, pB_row, upd_at, ↓reduceIte, Int.reduceToNat, Nat.reduceEqDiff, iI_lt, iI_le, iI_eq, iI_inb, iI_nat, iI_nz, hP.2.1, hP.2.2.1, c4, d1, d3, d4]
      exact ⟨_, _, _, rfl, rfl, hR2⟩
    have d3 : ¬ (V : Int) = 0 := by omega
    have d4 : ¬ (V : Int) ≤ 0 := by omega
    obtain ⟨h6, h7⟩ := h5 d2
    by_cases d5 : q < n
    · have d6 : ¬ (n : Int) ≤ q := by omega
      obtain ⟨k, hk, rfl⟩ : ∃ k : Nat, k < n ∧ q = (k : Int) := ⟨q.toNat, by omega, by omega⟩
      have b46 := h6 k hk
      have b34 : m2.1 34 k = iI (l0.getD k 0) := by
        cases hF : (lexp n (List.range n)).filter (ppl w sd n z rw) with
        | nil =>
          rw [hF] at h7
          exact absurd h7 (by simp)
        | cons b r =>
          rw [hF] at h7 f3
          have h8 : some b = some l0 := h7
          rw [← Option.some.inj h8]
          exact f3 k hk
      simp +decide (maxSteps := 2000000) (disch := omega) only [↓gl_p, ↓bs_p, iI_lit, iI_neg, iI_add, iI_sub, iI_mul, gk_p, bs_p, bz0, bz1, pI_row, pI_snd, pA_row, pA_snd, pL_fst, pL_row, pB_fst, pB_row, upd_at, ↓reduceIte, Int.reduceToNat, Nat.reduceEqDiff, iI_lt, iI_le, iI_eq, iI_inb, iI_nat, iI_nz, hP.2.1, hP.2.2.1, c4, d1, d3, d4, d5, d6, y1, m0, b46, b34, Int.toNat_natCast]
      exact ⟨_, _, _, rfl, rfl, hR2⟩
    · have d6 : (n : Int) ≤ q := by omega
      simp +decide (maxSteps := 2000000) (disch := omega) only [↓gl_p, ↓bs_p, iI_lit, iI_neg, iI_add, iI_sub, iI_mul, gk_p, bs_p, bz0, bz1, pI_row, pI_snd, pA_row, pA_snd, pL_fst, pL_row, pB_fst, pB_row, upd_at, ↓reduceIte, Int.reduceToNat, Nat.reduceEqDiff, iI_lt, iI_le, iI_eq, iI_inb, iI_nat, iI_nz, hP.2.1, hP.2.2.1, c4, d1, d3, d4, d5, d6, y1, m0]
      exact ⟨_, _, _, rfl, rfl, hR2⟩
  simp only [show f_X5_refusalFor x (14 + 2 * s) (iI 1) = _ from r1, show f_X10_noRow m (iI s) (iI 1) = _ from nr, bs_p]
  rcases k22 with ⟨y, k1, k2, k3⟩ | ⟨y, U, k1, k2, k3, k4, k5, k6⟩
  · refine fin 0 y [] (cfs.trans k1) (sc_46 k2) (by omega) ?_ (fun h => absurd rfl h)
    rw [fit_no ht k3]
    rfl
  · have hql : (tqs rw t).length = t := by
      unfold tqs
      rw [List.length_map, List.length_range]
    have hqg : ∀ j, j < t → (tqs rw t).getD j 0 = (rw (2 * j)).toNat := fun j hj => by
      unfold tqs
      rw [List.getD_eq_getElem?_getD, List.getElem?_map, List.getElem?_range hj]
      rfl
    have pr := lexp_pre (tqs rw t) n (List.range n) List.length_range List.nodup_range (by
      unfold tqs
      rw [List.pairwise_map]
      refine List.Pairwise.imp_of_mem (fun {a b} ha hb hab q => ?_) (List.pairwise_lt_range (n := t))
      have h5 := k3.1 a (List.mem_range.mp ha)
      have h6 := k3.1 b (List.mem_range.mp hb)
      exact k3.2 a b hab (List.mem_range.mp hb) (by omega)) (fun y hy => by
      unfold tqs at hy
      obtain ⟨j, j1, j2⟩ := List.mem_map.mp hy
      have h5 := k3.1 j (List.mem_range.mp j1)
      exact List.mem_range.mpr (by omega))
    have htn : t + (unq (tqs rw t) n).length = n := by
      have h7 := pr.2.2
      rw [hql] at h7
      exact h7
    have hub : ∀ p, p < 9 → U.testBit p = !(ntin (tqs rw t) p) := fun p hp => by
      have h8 : (tqs rw t).contains p = true ↔ ∃ j, j < t ∧ rw (2 * j) = (p : Nat) := by
        rw [List.contains_iff_mem]
        constructor
        · intro h
          unfold tqs at h
          obtain ⟨j, j1, j2⟩ := List.mem_map.mp h
          have h5 := k3.1 j (List.mem_range.mp j1)
          exact ⟨j, List.mem_range.mp j1, by omega⟩
        · rintro ⟨j, j1, j2⟩
          unfold tqs
          exact List.mem_map.mpr ⟨j, List.mem_range.mpr j1, by rw [j2]; rfl⟩
      unfold ntin
      rw [Bool.not_not]
      cases h9 : (tqs rw t).contains p
      · refine bool_f (fun h => ?_)
        rw [h8.mpr ((k6 p hp).mp h)] at h9
        exact absurd h9 (by decide)
      · exact (k6 p hp).mpr (h8.mp h9)
    obtain ⟨y2, b1, b2, b3⟩ := w_cf93 (x := y) (s := s) c3 ((k2.2 1 1 rfl).trans hY.2.2.1) k5 hub hql htn n 0 999999 y (by omega) (by omega) (Ch_refl _ _) (fun i hi => by
      have hi2 : i < t := by
        rw [show (unq (tqs rw t) 0).length = 0 from rfl] at hi
        omega
      rw [show unq (tqs rw t) 0 = [] from rfl, List.append_nil, hqg i hi2, k4 i hi2]
      have h5 := k3.1 i hi2
      rw [show (((rw (2 * i)).toNat : Nat) : Int) = rw (2 * i) by omega])
    have hl0 : (tqs rw t ++ unq (tqs rw t) n).length = n := by
      rw [List.length_append, hql]
      exact htn
    have c12 := Ch_tr k2 b2
    have Y2 := YD_ch hY c12 (fun _ => rfl) (fun _ => rfl)
    obtain ⟨y3, l1, l2, l3⟩ := s_layO (S := fun i => (tqs rw t ++ unq (tqs rw t) n).getD i 0) Y2 c3 (fun i hi => by
      have h := gD_m (l := tqs rw t ++ unq (tqs rw t) n) (i := i) (by omega)
      rcases List.mem_append.mp h with h | h
      · unfold tqs at h
        obtain ⟨j, j1, j2⟩ := List.mem_map.mp h
        have h5 := k3.1 j (List.mem_range.mp j1)
        show (tqs rw t ++ unq (tqs rw t) n).getD i 0 < n
        unfold tqs
        omega
      · exact List.mem_range.mp (List.mem_filter.mp h).1) b3
    have c13 := Ch_tr (sc_46 c12) (sc_co (by omega) (by omega) l2)
    have hbx := rowB_x hb (Ch_row c13 (scX_f (c := 14 + 2 * s) (by omega))) c13.1
    have mk26 : f_X1_makes y3 26 (14 + 2 * s) = some (bB (ppl w sd n z rw (tqs rw t ++ unq (tqs rw t) n))) := s_mk_26 (by omega) hw hY.2.1 l3 hbx
    have fe := fit_eq (w := w) (sd := sd) (n := n) (z := z) (rw := rw) ht k3
    have cf : f_X9_countFits x (14 + 2 * s) = f_X9_countFits_148 (14 + 2 * s) (iI n) (iI (fct (unq (tqs rw t) n).length : Nat)) y2 := by
      have hb1 : f_X9_countFits_93 (14 + 2 * s) gN (iI t) (iI U) (iI t) (iI 1) (iI 0) y = _ := b1
      exact cfs.trans (k1.trans hb1)
    have fr := fct_rg (unq (tqs rw t) n).length (by omega)
    have e46 : ∀ i, i < n → y3.1 46 i = iI ((tqs rw t ++ unq (tqs rw t) n).getD i 0) := fun i hi => (l2.2 46 i rfl).trans (b3 i hi)
    cases hpp : ppl w sd n z rw (tqs rw t ++ unq (tqs rw t) n)
    · rw [hpp, if_neg (by decide)] at fe
      rw [hpp] at mk26
      refine fin 0 y3 [] ?_ c13 (by omega) (by rw [fe]; rfl) (fun h => absurd rfl h)
      rw [cf]
      unfold f_X9_countFits_148
      rw [l1]
      simp only [bs_p]
      rw [mk26]
      rfl
    · rw [hpp, if_pos rfl] at fe
      rw [hpp] at mk26
      refine fin (fct (unq (tqs rw t) n).length) y3 (tqs rw t ++ unq (tqs rw t) n) ?_ c13 fr.2 ?_ (fun _ => ⟨e46, ?_⟩)
      · rw [cf]
        unfold f_X9_countFits_148
        rw [l1]
        simp only [bs_p]
        rw [mk26]
        rfl
      · rw [fe, pr.1, hql, show n - t = (unq (tqs rw t) n).length by omega]
      · rw [fe]
        exact pr.2.1
