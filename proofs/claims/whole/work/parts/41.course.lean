/-! ===== the yard as both have it ===== -/
def YD (n : Nat) (w : Nat → Nat → Nat) (sd : Nat) (x : gS) : Prop := n ≤ 9 ∧ sd ≤ 9 ∧ x.1 1 1 = iI n ∧ x.1 2 39 = iI sd ∧ ∀ p q, okP n p → okP n q → w p q ≤ 270 ∧ f_X8_way x (iI p) (iI q) = some (iI (w p q : Nat))
def YM (n : Nat) (w : Nat → Nat → Nat) (sd : Nat) (m : gS) : Prop := m.1 0 0 = iI n ∧ m.1 5 3 = iI sd ∧ ∀ p q, okP n p → okP n q → f_X10_minutes m (iI (mP p)) (iI (mP q)) = some (iI (w p q : Nat))
theorem way_cong {x y : gS} (h : y.1 2 = x.1 2) (a b : Int32) : f_X8_way y a b = f_X8_way x a b := by
  unfold f_X8_way f_X8_cellsTo
  rw [h]
theorem min_cong {x y : gS} (h1 : y.1 1 = x.1 1) (h2 : y.1 2 = x.1 2) (h5 : y.1 5 = x.1 5) (a b : Int32) : f_X10_minutes y a b = f_X10_minutes x a b := by
  unfold f_X10_minutes f_X10_apart f_X10_xOf f_X10_yOf
  rw [h1, h2, h5]
theorem YD_of {x m : gS} {n : Nat} (h : RP n (x.1 1 1) (x.1 2) (m.1 0 0) (m.1 1) (m.1 2) (m.1 3) (m.1 4) (m.1 5)) : ∃ w sd, YD n w sd x ∧ YM n w sd m := by
  obtain ⟨a, e, a1, a2⟩ := s_sd h
  have ea : ((a.toNat : Nat) : Int) = a := by omega
  have ew : ∀ p q, okP n p → okP n q → (((wy (x.1 2) p q).toNat : Nat) : Int) = wy (x.1 2) p q := fun p q hp hq => by
    have g := wy_rg h hp hq
    omega
  refine ⟨fun p q => (wy (x.1 2) p q).toNat, a.toNat, ⟨h.1, by omega, h.2.1, by rw [ea]; exact e, fun p q hp hq => ⟨?_, ?_⟩⟩, ⟨h.2.2.1, ?_, fun p q hp hq => ?_⟩⟩
  · have g := wy_rg h hp hq
    show (wy (x.1 2) p q).toNat ≤ 270
    omega
  · show f_X8_way x (iI p) (iI q) = some (iI (((wy (x.1 2) p q).toNat : Nat) : Int))
    rw [ew p q hp hq]
    exact s_wyX h hp hq
  · rw [ea]
    exact h.2.2.2.2.1.2.2.2.trans e
  · show f_X10_minutes m (iI (mP p)) (iI (mP q)) = some (iI (((wy (x.1 2) p q).toNat : Nat) : Int))
    rw [ew p q hp hq]
    exact s_wyM h hp hq
theorem YD_ch {C : Nat → Nat → Bool} {n sd : Nat} {w : Nat → Nat → Nat} {x y : gS} (h : YD n w sd x) (hc : Ch C x y) (h1 : ∀ j, C 1 j = false) (h2 : ∀ j, C 2 j = false) : YD n w sd y := by
  obtain ⟨a1, a2, a3, a4, a5⟩ := h
  have e2 := Ch_row hc h2
  refine ⟨a1, a2, (hc.2 1 1 (h1 1)).trans a3, (hc.2 2 39 (h2 39)).trans a4, fun p q hp hq => ⟨(a5 p q hp hq).1, ?_⟩⟩
  rw [way_cong e2]
  exact (a5 p q hp hq).2
theorem YM_ch {C : Nat → Nat → Bool} {n sd : Nat} {w : Nat → Nat → Nat} {x y : gS} (h : YM n w sd x) (hc : Ch C x y) (h0 : C 0 0 = false) (h1 : ∀ j, C 1 j = false) (h2 : ∀ j, C 2 j = false) (h5 : ∀ j, C 5 j = false) : YM n w sd y := by
  obtain ⟨a3, a4, a5⟩ := h
  refine ⟨(hc.2 0 0 h0).trans a3, (hc.2 5 3 (h5 3)).trans a4, fun p q hp hq => ?_⟩
  rw [min_cong (Ch_row hc h1) (Ch_row hc h2) (Ch_row hc h5)]
  exact a5 p q hp hq
theorem YM_m {n sd : Nat} {w : Nat → Nat → Nat} {m : gS} (hn : n ≤ 9) (h : YM n w sd m) {p q : Nat} (hp : p < n) (hq : q < n) : f_X10_minutes m (iI p) (iI q) = some (iI (w p q : Nat)) := by
  have g := h.2.2 p q (Or.inl hp) (Or.inl hq)
  rw [show mP p = (p : Int) from if_neg (by omega), show mP q = (q : Int) from if_neg (by omega)] at g
  exact g
theorem YM_g {n sd : Nat} {w : Nat → Nat → Nat} {m : gS} (hn : n ≤ 9) (h : YM n w sd m) {q : Nat} (hq : q < n) : f_X10_minutes m (iI (-1)) (iI q) = some (iI (w 9 q : Nat)) := by
  have g := h.2.2 9 q (Or.inr rfl) (Or.inl hq)
  rw [show mP q = (q : Int) from if_neg (by omega)] at g
  exact g
/-! ===== a course laid out ===== -/
def meC (kC c j : Nat) : Bool := (c == kC && (j == 3 || j == 5)) || c == kC + 2
def coC (kC c _j : Nat) : Bool := c == kC || c == kC + 1 || c == kC + 2
def CO (kC n k : Nat) (w : Nat → Nat → Nat) (sd : Nat) (S : Nat → Nat) (x : gS) : Prop := k ≤ 20 ∧ (∀ i, i < k → S i < n) ∧ x.1 kC 4 = iI k ∧ x.1 kC 3 = iI (ledM w S k : Nat) ∧ x.1 kC 5 = iI (perd w sd S k : Nat) ∧ ∀ i, i < k → x.1 (kC + 1) i = iI (S i) ∧ x.1 (kC + 2) i = iI (offs w sd S i : Nat)
def RO (n k : Nat) (S : Nat → Nat) (m : gS) : Prop := k ≤ 20 ∧ (∀ i, i < k → S i < n) ∧ m.1 0 44 = iI k ∧ ∀ i, i < k → m.1 27 i = iI (S i)
theorem w_me46_26 {x : gS} {n k sd : Nat} {w : Nat → Nat → Nat} {S : Nat → Nat} (hk : k ≤ 20) (hS : ∀ i, i < k → S i < n) (hY : YD n w sd x) (e4 : x.1 26 4 = iI k) (eS : ∀ i, i < k → x.1 27 i = iI (S i)) : ∀ (r i f : Nat) (σ : gS), i + r = k → 1 ≤ i → r ≤ f → Ch (meC 26) x σ → (∀ j, j < i → σ.1 28 j = iI (offs w sd S j : Nat)) → ∃ τ, f_X1_measure_46 26 (f + 1) (iI i) σ = some τ ∧ Ch (meC 26) x τ ∧ τ.1 26 3 = σ.1 26 3 ∧ τ.1 26 5 = iI (perd w sd S k : Nat) ∧ ∀ j, j < k → τ.1 28 j = iI (offs w sd S j : Nat) := by
  intro r
  induction r with
  | zero =>
    intro i f σ hi h1 hf hc ho
    have g : (k : Int) ≤ (i : Int) := by omega
    have s4 : σ.1 26 4 = iI k := (hc.2 26 4 rfl).trans e4
    have sS : ∀ j, j < k → σ.1 27 j = iI (S j) := fun j h => (hc.2 27 j rfl).trans (eS j h)
    have sY := YD_ch hY hc (fun _ => rfl) (fun _ => rfl)
    have t1 : ((k : Int) - 1).toNat = k - 1 := by omega
    have wl := (sY.2.2.2.2 (S (k - 1)) (S 0) (Or.inl (hS _ (by omega))) (Or.inl (hS 0 (by omega)))).2
    have st := s_stand sY.2.2.2.1
    have q1 := sS (k - 1) (by omega)
    have q2 := sS 0 (by omega)
    have q3 := ho (k - 1) (by omega)
    refine ⟨pI σ 26 5 (iI (perd w sd S k : Nat)), ?_, Ch_pI hc rfl, rfl, rfl, fun j hj => ho j (by omega)⟩
    rw [f_X1_measure_46]
    simp +decide (maxSteps := 2000000) (disch := omega) only [↓gl_p, ↓bs_p, iI_lit, iI_neg, iI_add, iI_sub, iI_mul, gk_p, bs_p, bz0, bz1, pI_row, pI_snd, pA_row, pA_snd, pL_fst, pL_row, pB_fst, pB_row, upd_at, ↓reduceIte, Int.reduceToNat, Nat.reduceEqDiff, iI_lt, iI_le, iI_eq, iI_inb, iI_nat, iI_nz, Nat.reduceAdd, s4, g, t1, q1, q2, q3, st, wl]
    rw [perd_e (by omega)]
    rfl
  | succ r ih =>
    intro i f σ hi h1 hf hc ho
    obtain ⟨f, rfl⟩ : ∃ q, f = q + 1 := ⟨f - 1, by omega⟩
    have g : ¬ (k : Int) ≤ (i : Int) := by omega
    have s4 : σ.1 26 4 = iI k := (hc.2 26 4 rfl).trans e4
    have sS : ∀ j, j < k → σ.1 27 j = iI (S j) := fun j h => (hc.2 27 j rfl).trans (eS j h)
    have sY := YD_ch hY hc (fun _ => rfl) (fun _ => rfl)
    have t1 : ((i : Int) - 1).toNat = i - 1 := by omega
    have wl := (sY.2.2.2.2 (S (i - 1)) (S i) (Or.inl (hS _ (by omega))) (Or.inl (hS i (by omega)))).2
    have st := s_stand sY.2.2.2.1
    have q1 := sS (i - 1) (by omega)
    have q2 := sS i (by omega)
    have q3 := ho (i - 1) (by omega)
    have eo : offs w sd S i = offs w sd S (i - 1) + sd + w (S (i - 1)) (S i) := by
      obtain ⟨q, rfl⟩ : ∃ q, i = q + 1 := ⟨i - 1, by omega⟩
      rfl
    obtain ⟨τ, a1, a2, a3, a4, a5⟩ := ih (i + 1) f (pI σ 28 i (iI (offs w sd S i : Nat))) (by omega) (by omega) (by omega) (Ch_pI hc rfl) (fun j hj => by
      rw [pI_row, if_pos rfl, upd_at]
      by_cases e : j = i
      · rw [if_pos e, e]
      · rw [if_neg e]
        exact ho j (by omega))
    refine ⟨τ, ?_, a2, a3, a4, a5⟩
    rw [f_X1_measure_46]
    simp +decide (maxSteps := 2000000) (disch := omega) only [↓gl_p, ↓bs_p, iI_lit, iI_neg, iI_add, iI_sub, iI_mul, gk_p, bs_p, bz0, bz1, pI_row, pI_snd, pA_row, pA_snd, pL_fst, pL_row, pB_fst, pB_row, upd_at, ↓reduceIte, Int.reduceToNat, Nat.reduceEqDiff, iI_lt, iI_le, iI_eq, iI_inb, iI_nat, iI_nz, Nat.reduceAdd, s4, g, t1, q1, q2, q3, st, wl, Int.toNat_natCast]
    rw [eo] at a1
    exact a1
theorem s_meas_26 {x : gS} {n k sd : Nat} {w : Nat → Nat → Nat} {S : Nat → Nat} (hk : k ≤ 20) (hS : ∀ i, i < k → S i < n) (hY : YD n w sd x) (e4 : x.1 26 4 = iI k) (eS : ∀ i, i < k → x.1 27 i = iI (S i)) : ∃ τ, f_X1_measure x 26 = some τ ∧ Ch (meC 26) x τ ∧ CO 26 n k w sd S τ := by
  unfold f_X1_measure
  by_cases c : k = 0
  · subst c
    refine ⟨pI (pI x 26 3 (iI 0)) 26 5 (iI 0), ?_, Ch_pI (Ch_pI (Ch_refl _ _) rfl) rfl, by omega, hS, e4, rfl, rfl, fun i hi => absurd hi (by omega)⟩
    simp +decide (maxSteps := 2000000) (disch := omega) only [↓gl_p, ↓bs_p, iI_lit, iI_neg, iI_add, iI_sub, iI_mul, gk_p, bs_p, bz0, bz1, pI_row, pI_snd, pA_row, pA_snd, pL_fst, pL_row, pB_fst, pB_row, upd_at, ↓reduceIte, Int.reduceToNat, Nat.reduceEqDiff, iI_lt, iI_le, iI_eq, iI_inb, iI_nat, iI_nz, e4]
  · have c2 : ¬ (k : Int) = 0 := by omega
    have wl : f_X8_way (pI (pI x 26 3 (iI 0)) 26 5 (iI 0)) (iI 9) (iI (S 0)) = some (iI (w 9 (S 0) : Nat)) := (way_cong rfl _ _).trans (hY.2.2.2.2 9 (S 0) (Or.inr rfl) (Or.inl (hS 0 (by omega)))).2
    have q2 := eS 0 (by omega)
    obtain ⟨τ, a1, a2, a3, a4, a5⟩ := w_me46_26 hk hS hY e4 eS (k - 1) 1 999999 (pI (pI (pI (pI x 26 3 (iI 0)) 26 5 (iI 0)) 26 3 (iI (w 9 (S 0) : Nat))) 28 0 (iI 0)) (by omega) (by omega) (by omega) (Ch_pI (Ch_pI (Ch_pI (Ch_pI (Ch_refl _ _) rfl) rfl) rfl) rfl) (fun j hj => by
      have e : j = 0 := by omega
      subst e
      rfl)
    refine ⟨τ, ?_, a2, hk, hS, (a2.2 26 4 rfl).trans e4, ?_, a4, fun i hi => ⟨(a2.2 27 i rfl).trans (eS i hi), a5 i hi⟩⟩
    · simp +decide (maxSteps := 2000000) (disch := omega) only [↓gl_p, ↓bs_p, iI_lit, iI_neg, iI_add, iI_sub, iI_mul, gk_p, bs_p, bz0, bz1, pI_row, pI_snd, pA_row, pA_snd, pL_fst, pL_row, pB_fst, pB_row, upd_at, ↓reduceIte, Int.reduceToNat, Nat.reduceEqDiff, iI_lt, iI_le, iI_eq, iI_inb, iI_nat, iI_nz, Nat.reduceAdd, e4, c2, wl, q2]
      exact a1
    · rw [a3]
      unfold ledM
      rw [if_neg c]
      rfl
theorem w_me46_29 {x : gS} {n k sd : Nat} {w : Nat → Nat → Nat} {S : Nat → Nat} (hk : k ≤ 20) (hS : ∀ i, i < k → S i < n) (hY : YD n w sd x) (e4 : x.1 29 4 = iI k) (eS : ∀ i, i < k → x.1 30 i = iI (S i)) : ∀ (r i f : Nat) (σ : gS), i + r = k → 1 ≤ i → r ≤ f → Ch (meC 29) x σ → (∀ j, j < i → σ.1 31 j = iI (offs w sd S j : Nat)) → ∃ τ, f_X1_measure_46 29 (f + 1) (iI i) σ = some τ ∧ Ch (meC 29) x τ ∧ τ.1 29 3 = σ.1 29 3 ∧ τ.1 29 5 = iI (perd w sd S k : Nat) ∧ ∀ j, j < k → τ.1 31 j = iI (offs w sd S j : Nat) := by
  intro r
  induction r with
  | zero =>
    intro i f σ hi h1 hf hc ho
    have g : (k : Int) ≤ (i : Int) := by omega
    have s4 : σ.1 29 4 = iI k := (hc.2 29 4 rfl).trans e4
    have sS : ∀ j, j < k → σ.1 30 j = iI (S j) := fun j h => (hc.2 30 j rfl).trans (eS j h)
    have sY := YD_ch hY hc (fun _ => rfl) (fun _ => rfl)
    have t1 : ((k : Int) - 1).toNat = k - 1 := by omega
    have wl := (sY.2.2.2.2 (S (k - 1)) (S 0) (Or.inl (hS _ (by omega))) (Or.inl (hS 0 (by omega)))).2
    have st := s_stand sY.2.2.2.1
    have q1 := sS (k - 1) (by omega)
    have q2 := sS 0 (by omega)
    have q3 := ho (k - 1) (by omega)
    refine ⟨pI σ 29 5 (iI (perd w sd S k : Nat)), ?_, Ch_pI hc rfl, rfl, rfl, fun j hj => ho j (by omega)⟩
    rw [f_X1_measure_46]
    simp +decide (maxSteps := 2000000) (disch := omega) only [↓gl_p, ↓bs_p, iI_lit, iI_neg, iI_add, iI_sub, iI_mul, gk_p, bs_p, bz0, bz1, pI_row, pI_snd, pA_row, pA_snd, pL_fst, pL_row, pB_fst, pB_row, upd_at, ↓reduceIte, Int.reduceToNat, Nat.reduceEqDiff, iI_lt, iI_le, iI_eq, iI_inb, iI_nat, iI_nz, Nat.reduceAdd, s4, g, t1, q1, q2, q3, st, wl]
    rw [perd_e (by omega)]
    rfl
  | succ r ih =>
    intro i f σ hi h1 hf hc ho
    obtain ⟨f, rfl⟩ : ∃ q, f = q + 1 := ⟨f - 1, by omega⟩
    have g : ¬ (k : Int) ≤ (i : Int) := by omega
    have s4 : σ.1 29 4 = iI k := (hc.2 29 4 rfl).trans e4
    have sS : ∀ j, j < k → σ.1 30 j = iI (S j) := fun j h => (hc.2 30 j rfl).trans (eS j h)
    have sY := YD_ch hY hc (fun _ => rfl) (fun _ => rfl)
    have t1 : ((i : Int) - 1).toNat = i - 1 := by omega
    have wl := (sY.2.2.2.2 (S (i - 1)) (S i) (Or.inl (hS _ (by omega))) (Or.inl (hS i (by omega)))).2
    have st := s_stand sY.2.2.2.1
    have q1 := sS (i - 1) (by omega)
    have q2 := sS i (by omega)
    have q3 := ho (i - 1) (by omega)
    have eo : offs w sd S i = offs w sd S (i - 1) + sd + w (S (i - 1)) (S i) := by
      obtain ⟨q, rfl⟩ : ∃ q, i = q + 1 := ⟨i - 1, by omega⟩
      rfl
    obtain ⟨τ, a1, a2, a3, a4, a5⟩ := ih (i + 1) f (pI σ 31 i (iI (offs w sd S i : Nat))) (by omega) (by omega) (by omega) (Ch_pI hc rfl) (fun j hj => by
      rw [pI_row, if_pos rfl, upd_at]
      by_cases e : j = i
      · rw [if_pos e, e]
      · rw [if_neg e]
        exact ho j (by omega))
    refine ⟨τ, ?_, a2, a3, a4, a5⟩
    rw [f_X1_measure_46]
    simp +decide (maxSteps := 2000000) (disch := omega) only [↓gl_p, ↓bs_p, iI_lit, iI_neg, iI_add, iI_sub, iI_mul, gk_p, bs_p, bz0, bz1, pI_row, pI_snd, pA_row, pA_snd, pL_fst, pL_row, pB_fst, pB_row, upd_at, ↓reduceIte, Int.reduceToNat, Nat.reduceEqDiff, iI_lt, iI_le, iI_eq, iI_inb, iI_nat, iI_nz, Nat.reduceAdd, s4, g, t1, q1, q2, q3, st, wl, Int.toNat_natCast]
    rw [eo] at a1
    exact a1
theorem s_meas_29 {x : gS} {n k sd : Nat} {w : Nat → Nat → Nat} {S : Nat → Nat} (hk : k ≤ 20) (hS : ∀ i, i < k → S i < n) (hY : YD n w sd x) (e4 : x.1 29 4 = iI k) (eS : ∀ i, i < k → x.1 30 i = iI (S i)) : ∃ τ, f_X1_measure x 29 = some τ ∧ Ch (meC 29) x τ ∧ CO 29 n k w sd S τ := by
  unfold f_X1_measure
  by_cases c : k = 0
  · subst c
    refine ⟨pI (pI x 29 3 (iI 0)) 29 5 (iI 0), ?_, Ch_pI (Ch_pI (Ch_refl _ _) rfl) rfl, by omega, hS, e4, rfl, rfl, fun i hi => absurd hi (by omega)⟩
    simp +decide (maxSteps := 2000000) (disch := omega) only [↓gl_p, ↓bs_p, iI_lit, iI_neg, iI_add, iI_sub, iI_mul, gk_p, bs_p, bz0, bz1, pI_row, pI_snd, pA_row, pA_snd, pL_fst, pL_row, pB_fst, pB_row, upd_at, ↓reduceIte, Int.reduceToNat, Nat.reduceEqDiff, iI_lt, iI_le, iI_eq, iI_inb, iI_nat, iI_nz, e4]
  · have c2 : ¬ (k : Int) = 0 := by omega
    have wl : f_X8_way (pI (pI x 29 3 (iI 0)) 29 5 (iI 0)) (iI 9) (iI (S 0)) = some (iI (w 9 (S 0) : Nat)) := (way_cong rfl _ _).trans (hY.2.2.2.2 9 (S 0) (Or.inr rfl) (Or.inl (hS 0 (by omega)))).2
    have q2 := eS 0 (by omega)
    obtain ⟨τ, a1, a2, a3, a4, a5⟩ := w_me46_29 hk hS hY e4 eS (k - 1) 1 999999 (pI (pI (pI (pI x 29 3 (iI 0)) 29 5 (iI 0)) 29 3 (iI (w 9 (S 0) : Nat))) 31 0 (iI 0)) (by omega) (by omega) (by omega) (Ch_pI (Ch_pI (Ch_pI (Ch_pI (Ch_refl _ _) rfl) rfl) rfl) rfl) (fun j hj => by
      have e : j = 0 := by omega
      subst e
      rfl)
    refine ⟨τ, ?_, a2, hk, hS, (a2.2 29 4 rfl).trans e4, ?_, a4, fun i hi => ⟨(a2.2 30 i rfl).trans (eS i hi), a5 i hi⟩⟩
    · simp +decide (maxSteps := 2000000) (disch := omega) only [↓gl_p, ↓bs_p, iI_lit, iI_neg, iI_add, iI_sub, iI_mul, gk_p, bs_p, bz0, bz1, pI_row, pI_snd, pA_row, pA_snd, pL_fst, pL_row, pB_fst, pB_row, upd_at, ↓reduceIte, Int.reduceToNat, Nat.reduceEqDiff, iI_lt, iI_le, iI_eq, iI_inb, iI_nat, iI_nz, Nat.reduceAdd, e4, c2, wl, q2]
      exact a1
    · rw [a3]
      unfold ledM
      rw [if_neg c]
      rfl
def rcn (rw : Nat → Int) (n : Nat) : Nat → Nat → Nat
  | 0, i => i
  | r + 1, i => if 0 ≤ rw i ∧ rw i < n then rcn rw n r (i + 1) else i
theorem rcn_le {rw : Nat → Int} {n : Nat} : ∀ r i, i ≤ rcn rw n r i ∧ rcn rw n r i ≤ i + r := by
  intro r
  induction r with
  | zero =>
    intro i
    show i ≤ i ∧ i ≤ i + 0
    omega
  | succ r ih =>
    intro i
    have h := ih (i + 1)
    show i ≤ (if 0 ≤ rw i ∧ rw i < n then rcn rw n r (i + 1) else i) ∧ (if 0 ≤ rw i ∧ rw i < n then rcn rw n r (i + 1) else i) ≤ i + (r + 1)
    split <;> omega
theorem rcn_in {rw : Nat → Int} {n : Nat} : ∀ r i j, i ≤ j → j < rcn rw n r i → 0 ≤ rw j ∧ rw j < n := by
  intro r
  induction r with
  | zero =>
    intro i j h1 h2
    have h3 : j < i := h2
    omega
  | succ r ih =>
    intro i j h1 h2
    have h3 : j < (if 0 ≤ rw i ∧ rw i < n then rcn rw n r (i + 1) else i) := h2
    split at h3
    · rename_i c
      by_cases e : j = i
      · rw [e]
        exact c
      · exact ih (i + 1) j (by omega) h3
    · omega
theorem rowB_x {x y m : gS} {q s z : Nat} {lo hi : Int} {rw : Nat → Int} (h : rowB q lo hi s z rw x m) (h1 : y.1 (14 + 2 * s) = x.1 (14 + 2 * s)) (h2 : y.2 = x.2) : rowB q lo hi s z rw y m := by
  unfold rowB at *
  rw [h1, h2]
  exact h
theorem rowB_m {x k m : gS} {q s z : Nat} {lo hi : Int} {rw : Nat → Int} (h : rowB q lo hi s z rw x m) (h1 : k.1 24 = m.1 24) (h3 : k.1 25 = m.1 25) (h2 : k.2 = m.2) : rowB q lo hi s z rw x k := by
  unfold rowB at *
  rw [h1, h2, h3]
  exact h
def lrC (c j : Nat) : Bool := (c == 26 && j == 4) || c == 27
theorem lrC_f {c : Nat} (h : c ≤ 25) (j : Nat) : lrC c j = false := by
  unfold lrC
  simp
  omega
theorem w_lr17 {x m : gS} {n s z N : Nat} {rw : Nat → Int} (hs : s < 6) (hb : rowB 0 (-128) 127 s z rw x m) (hn : n ≤ 9) (e1 : x.1 1 1 = iI n) (hN : N ≤ 20) (hN2 : N ≤ z) : ∀ (r i f : Nat) (σ : gS), i + r = N → r ≤ f → Ch lrC x σ → σ.1 26 4 = iI i → (∀ j, j < i → σ.1 27 j = iI (rw j)) → ∃ τ, f_X1_layRound_17 26 (14 + 2 * s) (f + 1) (iI N) (iI i) σ = f_X1_layRound_66 26 (14 + 2 * s) τ ∧ Ch lrC x τ ∧ τ.1 26 4 = iI (rcn rw n r i : Nat) ∧ ∀ j, j < rcn rw n r i → τ.1 27 j = iI (rw j) := by
  intro r
  induction r with
  | zero =>
    intro i f σ hi hf hc e4 eS
    have g : (N : Int) ≤ (i : Int) := by omega
    refine ⟨σ, ?_, hc, e4, eS⟩
    rw [f_X1_layRound_17]
    simp +decide (maxSteps := 2000000) (disch := omega) only [↓gl_p, ↓bs_p, iI_lit, iI_neg, iI_add, iI_sub, iI_mul, gk_p, bs_p, bz0, bz1, pI_row, pI_snd, pA_row, pA_snd, pL_fst, pL_row, pB_fst, pB_row, upd_at, ↓reduceIte, Int.reduceToNat, Nat.reduceEqDiff, iI_lt, iI_le, iI_eq, iI_inb, iI_nat, iI_nz, g]
  | succ r ih =>
    intro i f σ hi hf hc e4 eS
    obtain ⟨f, rfl⟩ : ∃ q, f = q + 1 := ⟨f - 1, by omega⟩
    have g : ¬ (N : Int) ≤ (i : Int) := by omega
    have hr := hb.2.2.2.2.2.2 i (by omega)
    have cl := s_cell (rowB_x hb (Ch_row hc (lrC_f (by omega))) hc.1) (show i < z by omega)
    have po := s_poX (σ := σ) hn ((hc.2 1 1 rfl).trans e1) (a := rw i) (by omega) (by omega)
    by_cases c : 0 ≤ rw i ∧ rw i < n
    · have er : rcn rw n (r + 1) i = rcn rw n r (i + 1) := if_pos c
      rw [er]
      have hc2 : Ch lrC x (pI σ 26 4 (iI ((i : Int) + 1))) := Ch_pI hc rfl
      have cl2 := s_cell (rowB_x hb (Ch_row hc2 (lrC_f (by omega))) hc2.1) (show i < z by omega)
      obtain ⟨τ, a1, a2, a3, a4⟩ := ih (i + 1) f (pI (pI σ 26 4 (iI ((i : Int) + 1))) 27 i (iI (rw i))) (by omega) (by omega) (Ch_pI hc2 rfl) rfl (fun j hj => by
        rw [pI_row, if_pos rfl, upd_at]
        by_cases e : j = i
        · rw [if_pos e, e]
        · rw [if_neg e]
          exact eS j (by omega))
      refine ⟨τ, ?_, a2, a3, a4⟩
      rw [f_X1_layRound_17]
      simp +decide (maxSteps := 2000000) (disch := omega) only [↓gl_p, ↓bs_p, iI_lit, iI_neg, iI_add, iI_sub, iI_mul, gk_p, bs_p, bz0, bz1, pI_row, pI_snd, pA_row, pA_snd, pL_fst, pL_row, pB_fst, pB_row, upd_at, ↓reduceIte, Int.reduceToNat, Nat.reduceEqDiff, iI_lt, iI_le, iI_eq, iI_inb, iI_nat, iI_nz, Nat.reduceAdd, g, cl, cl2, lL_32, po, bI_0, c, e4, not_true_eq_false, and_self, Int.toNat_natCast]
      exact a1
    · have er : rcn rw n (r + 1) i = i := if_neg c
      rw [er]
      refine ⟨σ, ?_, hc, e4, eS⟩
      rw [f_X1_layRound_17]
      simp +decide (maxSteps := 2000000) (disch := omega) only [↓gl_p, ↓bs_p, iI_lit, iI_neg, iI_add, iI_sub, iI_mul, gk_p, bs_p, bz0, bz1, pI_row, pI_snd, pA_row, pA_snd, pL_fst, pL_row, pB_fst, pB_row, upd_at, ↓reduceIte, Int.reduceToNat, Nat.reduceEqDiff, iI_lt, iI_le, iI_eq, iI_inb, iI_nat, iI_nz, g, cl, lL_32, po, bI_0, c, not_false_eq_true]
def rdC (c j : Nat) : Bool := (c == 0 && j == 44) || c == 27
theorem rdC_f {c : Nat} (h : 1 ≤ c ∧ c ≠ 27) (j : Nat) : rdC c j = false := by
  unfold rdC
  simp
  omega
theorem w_rd5 {x m : gS} {n s z N : Nat} {rw : Nat → Int} (hs : s < 6) (hb : rowB 0 (-128) 127 s z rw x m) (hn : n ≤ 9) (e0 : m.1 0 0 = iI n) (hN : N = if z < 20 then z else 20) : ∀ (r i f : Nat) (σ : gS), i + r = N → r ≤ f → Ch rdC m σ → σ.1 0 44 = iI i → (∀ j, j < i → σ.1 27 j = iI (rw j)) → ∃ τ, f_X10_reads_5 (f + 1) (iI s) σ = some τ ∧ Ch rdC m τ ∧ τ.1 0 44 = iI (rcn rw n r i : Nat) ∧ ∀ j, j < rcn rw n r i → τ.1 27 j = iI (rw j) := by
  have hz := hb.1
  have hN3 : N ≤ 20 ∧ N ≤ z ∧ (N = 20 ∨ N = z) := by
    rw [hN]
    split <;> omega
  intro r
  induction r with
  | zero =>
    intro i f σ hi hf hc e4 eS
    have el : σ.1 25 s = iI z := (hc.2 25 s rfl).trans hb.2.2.2.2.2.1
    refine ⟨σ, ?_, hc, e4, eS⟩
    rw [f_X10_reads_5]
    by_cases c : 20 ≤ (i : Int)
    · simp +decide (maxSteps := 2000000) (disch := omega) only [↓gl_p, ↓bs_p, iI_lit, iI_neg, iI_add, iI_sub, iI_mul, gk_p, bs_p, bz0, bz1, pI_row, pI_snd, pA_row, pA_snd, pL_fst, pL_row, pB_fst, pB_row, upd_at, ↓reduceIte, Int.reduceToNat, Nat.reduceEqDiff, iI_lt, iI_le, iI_eq, iI_inb, iI_nat, iI_nz, c, e4]
    · have c2 : (z : Int) ≤ (i : Int) := by omega
      simp +decide (maxSteps := 2000000) (disch := omega) only [↓gl_p, ↓bs_p, iI_lit, iI_neg, iI_add, iI_sub, iI_mul, gk_p, bs_p, bz0, bz1, pI_row, pI_snd, pA_row, pA_snd, pL_fst, pL_row, pB_fst, pB_row, upd_at, ↓reduceIte, Int.reduceToNat, Nat.reduceEqDiff, iI_lt, iI_le, iI_eq, iI_inb, iI_nat, iI_nz, c, c2, e4, el, Int.toNat_natCast]
  | succ r ih =>
    intro i f σ hi hf hc e4 eS
    obtain ⟨f, rfl⟩ : ∃ q, f = q + 1 := ⟨f - 1, by omega⟩
    have el : σ.1 25 s = iI z := (hc.2 25 s rfl).trans hb.2.2.2.2.2.1
    have g : ¬ 20 ≤ (i : Int) := by omega
    have g2 : ¬ (z : Int) ≤ (i : Int) := by omega
    have hr := hb.2.2.2.2.2.2 i (by omega)
    have er2 : σ.2 26 (60 * s + i) = lL (rw i) := by
      rw [hc.1]
      exact hr.2.2.2
    have t : (60 * (s : Int) + (i : Int)).toNat = 60 * s + i := by omega
    have po := s_poM (σ := σ) hn ((hc.2 0 0 rfl).trans e0) (a := rw i) (by omega) (by omega)
    have cl := s_told hs (rowB_m hb (Ch_row hc (rdC_f (by omega))) (Ch_row hc (rdC_f (by omega))) hc.1) (show i < z by omega)
    by_cases c : 0 ≤ rw i ∧ rw i < n
    · have er : rcn rw n (r + 1) i = rcn rw n r (i + 1) := if_pos c
      rw [er]
      obtain ⟨τ, a1, a2, a3, a4⟩ := ih (i + 1) f (pI (pI σ 27 i (iI (rw i))) 0 44 (iI ((i : Int) + 1))) (by omega) (by omega) (Ch_pI (Ch_pI hc rfl) rfl) rfl (fun j hj => by
        rw [pI_row, if_neg (by decide), pI_row, if_pos rfl, upd_at]
        by_cases e : j = i
        · rw [if_pos e, e]
        · rw [if_neg e]
          exact eS j (by omega))
      refine ⟨τ, ?_, a2, a3, a4⟩
      rw [f_X10_reads_5]
      simp +decide (maxSteps := 2000000) (disch := omega) only [↓gl_p, ↓bs_p, iI_lit, iI_neg, iI_add, iI_sub, iI_mul, gk_p, bs_p, bz0, bz1, pI_row, pI_snd, pA_row, pA_snd, pL_fst, pL_row, pB_fst, pB_row, upd_at, ↓reduceIte, Int.reduceToNat, Nat.reduceEqDiff, iI_lt, iI_le, iI_eq, iI_inb, iI_nat, iI_nz, g, g2, t, er2, cl, po, bI_0, c, e4, el, not_true_eq_false, and_self, Int.toNat_natCast]
      exact a1
    · have er : rcn rw n (r + 1) i = i := if_neg c
      rw [er]
      refine ⟨σ, ?_, hc, e4, eS⟩
      rw [f_X10_reads_5]
      simp +decide (maxSteps := 2000000) (disch := omega) only [↓gl_p, ↓bs_p, iI_lit, iI_neg, iI_add, iI_sub, iI_mul, gk_p, bs_p, bz0, bz1, pI_row, pI_snd, pA_row, pA_snd, pL_fst, pL_row, pB_fst, pB_row, upd_at, ↓reduceIte, Int.reduceToNat, Nat.reduceEqDiff, iI_lt, iI_le, iI_eq, iI_inb, iI_nat, iI_nz, g, g2, t, er2, po, bI_0, c, e4, el, not_false_eq_true, Int.toNat_natCast]
theorem s_lay {x m : gS} {n s z sd : Nat} {w : Nat → Nat → Nat} {rw : Nat → Int} (hs : s < 6) (hb : rowB 0 (-128) 127 s z rw x m) (hr : f_X5_refusalFor x (14 + 2 * s) (iI 0) = some (iI 0)) (hY : YD n w sd x) (hM : YM n w sd m) : ∃ y k S m2, f_X9_layForth x (iI s) = some (iI 0, y) ∧ f_X10_reads m (iI s) = some m2 ∧ Ch (coC 26) x y ∧ Ch rdC m m2 ∧ CO 26 n k w sd S y ∧ RO n k S m2 := by
  have hn := hY.1
  have hz := hb.1
  obtain ⟨N, hN⟩ : ∃ N, N = if z < 20 then z else 20 := ⟨_, rfl⟩
  have hN3 : N ≤ 20 ∧ N ≤ z := by
    rw [hN]
    split <;> omega
  have hk := rcn_le (rw := rw) (n := n) N 0
  have hin := rcn_in (rw := rw) (n := n) N 0
  obtain ⟨τ, a1, a2, a3, a4⟩ := w_lr17 hs hb hn hY.2.2.1 hN3.1 hN3.2 N 0 999999 (pI x 26 4 (iI 0)) (by omega) (by omega) (Ch_pI (Ch_refl _ _) rfl) rfl (fun j hj => absurd hj (by omega))
  obtain ⟨m2, b1, b2, b3, b4⟩ := w_rd5 hs hb hn hM.1 hN N 0 999999 (pI m 0 44 (iI 0)) (by omega) (by omega) (Ch_pI (Ch_refl _ _) rfl) rfl (fun j hj => absurd hj (by omega))
  generalize rcn rw n N 0 = k at hk hin a3 a4 b3 b4
  have eS : ∀ i, i < k → iI (rw i) = iI ((rw i).toNat : Nat) := fun i hi => by
    have g := hin i (by omega) hi
    rw [show (((rw i).toNat : Nat) : Int) = rw i by omega]
  have hS : ∀ i, i < k → (rw i).toNat < n := fun i hi => by
    have g := hin i (by omega) hi
    omega
  obtain ⟨y, c1, c2, c3⟩ := s_meas_26 (S := fun i => (rw i).toNat) (show k ≤ 20 by omega) hS (YD_ch hY a2 (fun _ => rfl) (fun _ => rfl)) a3 (fun i hi => (a4 i hi).trans (eS i hi))
  refine ⟨y, k, fun i => (rw i).toNat, m2, ?_, ?_, ?_, b2, c3, by omega, hS, b3, fun i hi => (b4 i hi).trans (eS i hi)⟩
  · have ez : jmin 20 (iI z) = iI N := by
      rw [show (20 : Int32) = iI 20 from rfl, jmin_i (by omega) (by omega) (by omega) (by omega), hN]
      split <;> split <;> first | rfl | (exfalso; omega)
    have ne : ¬ 14 + 2 * s = 26 := by omega
    have e4 := hb.2.2.2.1
    unfold f_X9_layForth f_X1_layRound
    unfold f_X1_layRound_66 at a1
    rw [c1] at a1
    simp +decide (maxSteps := 2000000) (disch := omega) only [↓gl_p, ↓bs_p, iI_lit, iI_neg, iI_add, iI_sub, iI_mul, gk_p, bs_p, bz0, bz1, pI_row, pI_snd, pA_row, pA_snd, pL_fst, pL_row, pB_fst, pB_row, upd_at, ↓reduceIte, Int.reduceToNat, Nat.reduceEqDiff, iI_lt, iI_le, iI_eq, iI_inb, iI_nat, iI_nz, s_shAt, Int.toNat_natCast, hr, ne, e4]
    rw [show jmin (iI 20) (iI z) = iI N from ez, show f_X1_layRound_17 26 (14 + 2 * s) gN (iI N) (iI 0) (pI x 26 4 (iI 0)) = _ from a1]
    rfl
  · unfold f_X10_reads
    simp +decide (maxSteps := 2000000) (disch := omega) only [↓gl_p, ↓bs_p, iI_lit, iI_neg, iI_add, iI_sub, iI_mul, gk_p, bs_p, bz0, bz1, pI_row, pI_snd, pA_row, pA_snd, pL_fst, pL_row, pB_fst, pB_row, upd_at, ↓reduceIte, Int.reduceToNat, Nat.reduceEqDiff, iI_lt, iI_le, iI_eq, iI_inb, iI_nat, iI_nz]
    exact b1
  · refine Ch_tr (Ch_mo a2 fun c j h => ?_) (Ch_mo c2 fun c j h => ?_)
    · unfold coC at h
      unfold lrC
      simp at h ⊢
      omega
    · unfold coC at h
      unfold meC
      simp at h ⊢
      omega
