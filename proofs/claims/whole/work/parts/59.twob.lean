/-! ===== two behind one another: the reference ===== -/
def mcn (S T : Nat → Nat) (k p o : Nat) : Nat → Nat → Nat
  | 0, _ => 0
  | i + 1, t => mcn S T k p o i t + (if (S (i % k) = p ∧ o ≤ T i) ∧ T i = t then 1 else 0) + (if S (i % k) = p ∧ T i + o = t then 1 else 0)
def sg (c : Nat → Nat) : Nat → Nat
  | 0 => 0
  | t + 1 => sg c t + c t
theorem sg_add {c d : Nat → Nat} {P : Prop} [Decidable P] {x : Nat} (h : ∀ t, d t = c t + (if P ∧ x = t then 1 else 0)) : ∀ M, sg d M = sg c M + (if P ∧ x < M then 1 else 0) := by
  intro M
  induction M with
  | zero =>
    show 0 = 0 + _
    rw [if_neg (by omega)]
  | succ M ih =>
    show sg d M + d M = sg c M + c M + _
    rw [ih, h M]
    by_cases hP : P
    · by_cases e : x = M
      · rw [if_neg (show ¬ (P ∧ x < M) by omega), if_pos ⟨hP, e⟩, if_pos ⟨hP, by omega⟩]
        omega
      · by_cases c2 : x < M
        · rw [if_pos ⟨hP, c2⟩, if_neg (fun q => e q.2), if_pos ⟨hP, by omega⟩]
          omega
        · rw [if_neg (fun q => c2 q.2), if_neg (fun q => e q.2), if_neg (fun q => by have := q.2; omega)]
          omega
    · rw [if_neg (fun q => hP q.1), if_neg (fun q => hP q.1), if_neg (fun q => hP q.1)]
      omega
def hA (S T : Nat → Nat) (k p o i : Nat) : Prop := S (i % k) = p ∧ o ≤ T i ∧ T i < 1000
def hB (S T : Nat → Nat) (k p o i : Nat) : Prop := S (i % k) = p ∧ T i + o < 1000
section
variable {S T : Nat → Nat} {k p o : Nat}
theorem tot_s (i : Nat) : sg (mcn S T k p o (i + 1)) 1000 = sg (mcn S T k p o i) 1000 + (if (S (i % k) = p ∧ o ≤ T i) ∧ T i < 1000 then 1 else 0) + (if S (i % k) = p ∧ T i + o < 1000 then 1 else 0) := by
  have e1 := sg_add (c := mcn S T k p o i) (d := fun t => mcn S T k p o i t + (if (S (i % k) = p ∧ o ≤ T i) ∧ T i = t then 1 else 0)) (P := S (i % k) = p ∧ o ≤ T i) (x := T i) (fun _ => rfl) 1000
  have e2 := sg_add (c := fun t => mcn S T k p o i t + (if (S (i % k) = p ∧ o ≤ T i) ∧ T i = t then 1 else 0)) (d := mcn S T k p o (i + 1)) (P := S (i % k) = p) (x := T i + o) (fun _ => rfl) 1000
  rw [e2, e1]
theorem tot_1 : ∀ D, 1 ≤ sg (mcn S T k p o D) 1000 ↔ ∃ i, i < D ∧ (hA S T k p o i ∨ hB S T k p o i) := by
  intro D
  induction D with
  | zero =>
    have e : sg (mcn S T k p o 0) 1000 = 0 := by
      have : ∀ M, sg (mcn S T k p o 0) M = 0 := by
        intro M
        induction M with
        | zero => rfl
        | succ M ih =>
          show sg (mcn S T k p o 0) M + 0 = 0
          omega
      exact this 1000
    rw [e]
    constructor
    · intro h
      omega
    · rintro ⟨i, h, -⟩
      omega
  | succ D ih =>
    rw [tot_s]
    constructor
    · intro h
      by_cases c : 1 ≤ sg (mcn S T k p o D) 1000
      · obtain ⟨i, h1, h2⟩ := ih.mp c
        exact ⟨i, by omega, h2⟩
      · refine ⟨D, by omega, ?_⟩
        by_cases c1 : (S (D % k) = p ∧ o ≤ T D) ∧ T D < 1000
        · exact Or.inl ⟨c1.1.1, c1.1.2, c1.2⟩
        · by_cases c2 : S (D % k) = p ∧ T D + o < 1000
          · exact Or.inr c2
          · rw [if_neg c1, if_neg c2] at h
            omega
    · rintro ⟨i, h1, h2⟩
      by_cases e : i = D
      · subst e
        rcases h2 with h2 | h2
        · rw [if_pos (show (S (i % k) = p ∧ o ≤ T i) ∧ T i < 1000 from ⟨⟨h2.1, h2.2.1⟩, h2.2.2⟩)]
          omega
        · rw [if_pos (show S (i % k) = p ∧ T i + o < 1000 from h2)]
          omega
      · have := ih.mpr ⟨i, by omega, h2⟩
        omega
theorem tot_2 : ∀ D, 2 ≤ sg (mcn S T k p o D) 1000 ↔ (∃ i, i < D ∧ hA S T k p o i ∧ hB S T k p o i) ∨ (∃ i j, i < j ∧ j < D ∧ (hA S T k p o i ∨ hB S T k p o i) ∧ (hA S T k p o j ∨ hB S T k p o j)) := by
  intro D
  induction D with
  | zero =>
    constructor
    · intro h
      obtain ⟨i, h1, -⟩ := (tot_1 (S := S) (T := T) (k := k) (p := p) (o := o) 0).mp (by omega)
      omega
    · rintro (⟨i, h, -⟩ | ⟨i, j, -, h, -⟩)
      · omega
      · omega
  | succ D ih =>
    have t1 := tot_1 (S := S) (T := T) (k := k) (p := p) (o := o) D
    rw [tot_s]
    by_cases cA : (S (D % k) = p ∧ o ≤ T D) ∧ T D < 1000
    · have hAD : hA S T k p o D := ⟨cA.1.1, cA.1.2, cA.2⟩
      rw [if_pos cA]
      by_cases cB : S (D % k) = p ∧ T D + o < 1000
      · rw [if_pos cB]
        exact ⟨fun _ => Or.inl ⟨D, by omega, hAD, cB⟩, fun _ => by omega⟩
      · rw [if_neg cB]
        constructor
        · intro h
          obtain ⟨i, h1, h2⟩ := t1.mp (by omega)
          exact Or.inr ⟨i, D, h1, by omega, h2, Or.inl hAD⟩
        · rintro (⟨i, h1, h2, h3⟩ | ⟨i, j, h1, h2, h3, h4⟩)
          · by_cases e : i = D
            · subst e
              exact absurd h3 cB
            · have := t1.mpr ⟨i, by omega, Or.inl h2⟩
              omega
          · have := t1.mpr ⟨i, by omega, h3⟩
            omega
    · rw [if_neg cA]
      by_cases cB : S (D % k) = p ∧ T D + o < 1000
      · rw [if_pos cB]
        constructor
        · intro h
          obtain ⟨i, h1, h2⟩ := t1.mp (by omega)
          exact Or.inr ⟨i, D, h1, by omega, h2, Or.inr cB⟩
        · rintro (⟨i, h1, h2, h3⟩ | ⟨i, j, h1, h2, h3, h4⟩)
          · by_cases e : i = D
            · subst e
              exact absurd ⟨⟨h2.1, h2.2.1⟩, h2.2.2⟩ cA
            · have := t1.mpr ⟨i, by omega, Or.inl h2⟩
              omega
          · have := t1.mpr ⟨i, by omega, h3⟩
            omega
      · rw [if_neg cB]
        constructor
        · intro h
          rcases ih.mp (by omega) with ⟨i, h1, h2⟩ | ⟨i, j, h1, h2, h3⟩
          · exact Or.inl ⟨i, by omega, h2⟩
          · exact Or.inr ⟨i, j, h1, by omega, h3⟩
        · rintro (⟨i, h1, h2, h3⟩ | ⟨i, j, h1, h2, h3, h4⟩)
          · by_cases e : i = D
            · subst e
              exact absurd h3 cB
            · have := ih.mpr (Or.inl ⟨i, by omega, h2, h3⟩)
              omega
          · by_cases e : j = D
            · subst e
              rcases h4 with h4 | h4
              · exact absurd ⟨⟨h4.1, h4.2.1⟩, h4.2.2⟩ cA
              · exact absurd h4 cB
            · have := ih.mpr (Or.inr ⟨i, j, h1, by omega, h3, h4⟩)
              omega
theorem mcn_pos {t : Nat} : ∀ D, mcn S T k p o D t = 0 ∨ ∃ i, i < D ∧ S (i % k) = p ∧ ((o ≤ T i ∧ T i = t) ∨ T i + o = t) := by
  intro D
  induction D with
  | zero => exact Or.inl rfl
  | succ D ih =>
    by_cases cA : (S (D % k) = p ∧ o ≤ T D) ∧ T D = t
    · exact Or.inr ⟨D, by omega, cA.1.1, Or.inl ⟨cA.1.2, cA.2⟩⟩
    by_cases cB : S (D % k) = p ∧ T D + o = t
    · exact Or.inr ⟨D, by omega, cB.1, Or.inr cB.2⟩
    rcases ih with h | ⟨i, h1, h2⟩
    · left
      show mcn S T k p o D t + _ + _ = 0
      rw [if_neg cA, if_neg cB]
      omega
    · exact Or.inr ⟨i, by omega, h2⟩
theorem mcn_ge {t : Nat} : ∀ D i, i < D → S (i % k) = p → ((o ≤ T i ∧ T i = t) ∨ T i + o = t) → 0 < mcn S T k p o D t := by
  intro D
  induction D with
  | zero =>
    intro i h
    omega
  | succ D ih =>
    intro i h1 h2 h3
    show 0 < mcn S T k p o D t + _ + _
    by_cases e : i = D
    · subst e
      rcases h3 with h3 | h3
      · rw [if_pos (show (S (i % k) = p ∧ o ≤ T i) ∧ T i = t from ⟨⟨h2, h3.1⟩, h3.2⟩)]
        omega
      · rw [if_pos (show S (i % k) = p ∧ T i + o = t from ⟨h2, h3⟩)]
        omega
    · have := ih i (by omega) h2 h3
      omega
theorem mcn_le {t : Nat} : ∀ D, mcn S T k p o D t ≤ 2 * D := by
  intro D
  induction D with
  | zero => exact Nat.le_refl 0
  | succ D ih =>
    show mcn S T k p o D t + _ + _ ≤ _
    split <;> split <;> omega
theorem sg_le {c : Nat → Nat} {B : Nat} (h : ∀ t, c t ≤ B) : ∀ M, sg c M ≤ B * M := by
  intro M
  induction M with
  | zero => exact Nat.zero_le _
  | succ M ih =>
    have := h M
    show sg c M + c M ≤ B * (M + 1)
    rw [Nat.mul_succ]
    omega
end
def m2C (c _j : Nat) : Bool := c == 32
theorem w_to2 : ∀ (r i f : Nat) (m σ : gS) (p o : Int32), i + r = 1000 → r ≤ f → Ch m2C m σ → (∀ t, t < i → σ.1 32 t = iI 0) → ∃ τ, f_X10_twoOf_2 (f + 1) p o (iI i) σ = f_X10_twoOf_24 gN p o (iI 0) τ ∧ Ch m2C m τ ∧ ∀ t, t < 1000 → τ.1 32 t = iI 0 := by
  intro r
  induction r with
  | zero =>
    intro i f m σ p o hi hf hc ho
    have g : 1000 ≤ (i : Int) := by omega
    refine ⟨σ, ?_, hc, fun t ht => ho t (by omega)⟩
    rw [f_X10_twoOf_2]
    simp +decide (maxSteps := 2000000) (disch := omega) only [↓gl_p, ↓bs_p, iI_lit, iI_neg, iI_add, iI_sub, iI_mul, gk_p, bs_p, bz0, bz1, pI_row, pI_snd, pA_row, pA_snd, pL_fst, pL_row, pB_fst, pB_row, upd_at, ↓reduceIte, Int.reduceToNat, Nat.reduceEqDiff, iI_lt, iI_le, iI_eq, iI_inb, iI_nat, iI_nz, g]
  | succ r ih =>
    intro i f m σ p o hi hf hc ho
    obtain ⟨f, rfl⟩ : ∃ q, f = q + 1 := ⟨f - 1, by omega⟩
    have g : ¬ 1000 ≤ (i : Int) := by omega
    obtain ⟨τ, a1, a2, a3⟩ := ih (i + 1) f m (pI σ 32 i (iI 0)) p o (by omega) (by omega) (Ch_pI hc rfl) (fun t ht => by
      rw [pI_row, if_pos rfl, upd_at]
      by_cases e : t = i
      · rw [if_pos e]
      · rw [if_neg e]
        exact ho t (by omega))
    refine ⟨τ, ?_, a2, a3⟩
    rw [f_X10_twoOf_2]
    simp +decide (maxSteps := 2000000) (disch := omega) only [↓gl_p, ↓bs_p, iI_lit, iI_neg, iI_add, iI_sub, iI_mul, gk_p, bs_p, bz0, bz1, pI_row, pI_snd, pA_row, pA_snd, pL_fst, pL_row, pB_fst, pB_row, upd_at, ↓reduceIte, Int.reduceToNat, Nat.reduceEqDiff, iI_lt, iI_le, iI_eq, iI_inb, iI_nat, iI_nz, g, Int.toNat_natCast]
    exact a1
theorem w_to24 {m : gS} {n k sd D p o : Nat} {w : Nat → Nat → Nat} {S : Nat → Nat} (hn : n ≤ 9) (hS : ∀ i, i < k → S i < n) (hp : p < n) (ho : o ≤ 99) (hW : WK 4000 D w sd S k m) : ∀ (r i f : Nat) (σ : gS), i + r = D → r ≤ f → Ch m2C m σ → (∀ t, t < 1000 → σ.1 32 t = iI (mcn S (Tm w sd S k) k p o i t : Nat)) → ∃ τ, f_X10_twoOf_24 (f + 1) (iI p) (iI o) (iI i) σ = f_X10_twoOf_118 gN (iI 0) (iI (-1)) (iI 0) (iI 0) τ ∧ Ch m2C m τ ∧ ∀ t, t < 1000 → τ.1 32 t = iI (mcn S (Tm w sd S k) k p o D t : Nat) := by
  have hk0 := fun h => WK_k hW (h : 0 < D)
  obtain ⟨d1, d2, d3, d4⟩ := hW
  intro r
  induction r with
  | zero =>
    intro i f σ hi hf hc hm
    have s46 : σ.1 0 46 = iI D := (hc.2 0 46 rfl).trans d2
    have g : (D : Int) ≤ (i : Int) := by omega
    refine ⟨σ, ?_, hc, by rw [show D = i by omega]; exact hm⟩
    rw [f_X10_twoOf_24]
    simp +decide (maxSteps := 2000000) (disch := omega) only [↓gl_p, ↓bs_p, iI_lit, iI_neg, iI_add, iI_sub, iI_mul, gk_p, bs_p, bz0, bz1, pI_row, pI_snd, pA_row, pA_snd, pL_fst, pL_row, pB_fst, pB_row, upd_at, ↓reduceIte, Int.reduceToNat, Nat.reduceEqDiff, iI_lt, iI_le, iI_eq, iI_inb, iI_nat, iI_nz, s46, g]
  | succ r ih =>
    intro i f σ hi hf hc hm
    obtain ⟨f, rfl⟩ : ∃ q, f = q + 1 := ⟨f - 1, by omega⟩
    have s46 : σ.1 0 46 = iI D := (hc.2 0 46 rfl).trans d2
    have g : ¬ (D : Int) ≤ (i : Int) := by omega
    have q := d3 i (by omega)
    have s28 : σ.1 28 i = iI (Tm w sd S k i : Nat) := (hc.2 28 i rfl).trans q.1
    have s29 : σ.1 29 i = iI (S (i % k)) := (hc.2 29 i rfl).trans q.2.1
    have hSi := hS (i % k) (Nat.mod_lt _ (hk0 (by omega)))
    have q3 := q.2.2
    generalize hTi : Tm w sd S k i = T at s28 q3
    have es : ∀ t, mcn S (Tm w sd S k) k p o (i + 1) t = mcn S (Tm w sd S k) k p o i t + (if (S (i % k) = p ∧ o ≤ T) ∧ T = t then 1 else 0) + (if S (i % k) = p ∧ T + o = t then 1 else 0) := fun t => by
      rw [← hTi]
      rfl
    rw [f_X10_twoOf_24]
    by_cases c : S (i % k) = p
    · have c2 := eq_true (show ((S (i % k) : Nat) : Int) = p by omega)
      -- the second one's mark
      have st78 : ∀ σ2 : gS, Ch m2C m σ2 → (∀ t, t < 1000 → σ2.1 32 t = iI ((mcn S (Tm w sd S k) k p o i t + (if (S (i % k) = p ∧ o ≤ T) ∧ T = t then 1 else 0) : Nat) : Int)) → ∃ τ, f_X10_twoOf_78 (f_X10_twoOf_24 (f + 1)) (iI p) (iI o) (iI i) (iI T) σ2 = f_X10_twoOf_118 gN (iI 0) (iI (-1)) (iI 0) (iI 0) τ ∧ Ch m2C m τ ∧ ∀ t, t < 1000 → τ.1 32 t = iI (mcn S (Tm w sd S k) k p o D t : Nat) := by
        intro σ2 h1 h2
        unfold f_X10_twoOf_78
        by_cases c3 : T + o < 1000
        · have c4 : ¬ 1000 ≤ (T : Int) + (o : Int) := by omega
          have t1 : ((T : Int) + (o : Int)).toNat = T + o := by omega
          have v := h2 (T + o) c3
          obtain ⟨τ, a1, a2, a3⟩ := ih (i + 1) f (pI σ2 32 (T + o) (iI (((mcn S (Tm w sd S k) k p o i (T + o) + (if (S (i % k) = p ∧ o ≤ T) ∧ T = T + o then 1 else 0) : Nat) : Int) + 1))) (by omega) (by omega) (Ch_pI h1 rfl) (fun t ht => by
            rw [pI_row, if_pos rfl, upd_at, es t]
            by_cases e : t = T + o
            · rw [if_pos e, if_pos (show S (i % k) = p ∧ T + o = t from ⟨c, e.symm⟩), e]
              rfl
            · rw [if_neg e, if_neg (show ¬ (S (i % k) = p ∧ T + o = t) from fun q => e q.2.symm), Nat.add_zero]
              exact h2 t ht)
          refine ⟨τ, ?_, a2, a3⟩
          simp +decide (maxSteps := 2000000) (disch := omega) only [↓gl_p, ↓bs_p, iI_lit, iI_neg, iI_add, iI_sub, iI_mul, gk_p, bs_p, bz0, bz1, pI_row, pI_snd, pA_row, pA_snd, pL_fst, pL_row, pB_fst, pB_row, upd_at, ↓reduceIte, Int.reduceToNat, Nat.reduceEqDiff, iI_lt, iI_le, iI_eq, iI_inb, iI_nat, iI_nz, c4, t1, v]
          exact a1
        · have c4 : 1000 ≤ (T : Int) + (o : Int) := by omega
          obtain ⟨τ, a1, a2, a3⟩ := ih (i + 1) f σ2 (by omega) (by omega) h1 (fun t ht => by
            rw [es t, if_neg (show ¬ (S (i % k) = p ∧ T + o = t) from fun q => by have := q.2; omega), Nat.add_zero]
            exact h2 t ht)
          refine ⟨τ, ?_, a2, a3⟩
          simp +decide (maxSteps := 2000000) (disch := omega) only [↓gl_p, ↓bs_p, iI_lit, iI_neg, iI_add, iI_sub, iI_mul, gk_p, bs_p, bz0, bz1, pI_row, pI_snd, pA_row, pA_snd, pL_fst, pL_row, pB_fst, pB_row, upd_at, ↓reduceIte, Int.reduceToNat, Nat.reduceEqDiff, iI_lt, iI_le, iI_eq, iI_inb, iI_nat, iI_nz, c4]
          exact a1
      by_cases c3 : T < o
      · have c4 : (T : Int) < (o : Int) := by omega
        obtain ⟨τ, a1, a2, a3⟩ := st78 σ hc (fun t ht => by
          rw [if_neg (show ¬ ((S (i % k) = p ∧ o ≤ T) ∧ T = t) from fun q => by have := q.1.2; omega), Nat.add_zero]
          exact hm t ht)
        refine ⟨τ, ?_, a2, a3⟩
        simp +decide (maxSteps := 2000000) (disch := omega) only [↓gl_p, ↓bs_p, iI_lit, iI_neg, iI_add, iI_sub, iI_mul, gk_p, bs_p, bz0, bz1, pI_row, pI_snd, pA_row, pA_snd, pL_fst, pL_row, pB_fst, pB_row, upd_at, ↓reduceIte, Int.reduceToNat, Nat.reduceEqDiff, iI_lt, iI_le, iI_eq, iI_inb, iI_nat, iI_nz, s46, g, s28, s29, c2, c4, Int.toNat_natCast]
        exact a1
      · have c4 : ¬ (T : Int) < (o : Int) := by omega
        by_cases c5 : 1000 ≤ T
        · have c6 : 1000 ≤ (T : Int) := by omega
          obtain ⟨τ, a1, a2, a3⟩ := st78 σ hc (fun t ht => by
            rw [if_neg (show ¬ ((S (i % k) = p ∧ o ≤ T) ∧ T = t) from fun q => by have := q.2; omega), Nat.add_zero]
            exact hm t ht)
          refine ⟨τ, ?_, a2, a3⟩
          simp +decide (maxSteps := 2000000) (disch := omega) only [↓gl_p, ↓bs_p, iI_lit, iI_neg, iI_add, iI_sub, iI_mul, gk_p, bs_p, bz0, bz1, pI_row, pI_snd, pA_row, pA_snd, pL_fst, pL_row, pB_fst, pB_row, upd_at, ↓reduceIte, Int.reduceToNat, Nat.reduceEqDiff, iI_lt, iI_le, iI_eq, iI_inb, iI_nat, iI_nz, s46, g, s28, s29, c2, c4, c6, Int.toNat_natCast]
          exact a1
        · have c6 : ¬ 1000 ≤ (T : Int) := by omega
          have v := hm T (by omega)
          obtain ⟨τ, a1, a2, a3⟩ := st78 (pI σ 32 T (iI (((mcn S (Tm w sd S k) k p o i T : Nat) : Int) + 1))) (Ch_pI hc rfl) (fun t ht => by
            rw [pI_row, if_pos rfl, upd_at]
            by_cases e : t = T
            · rw [if_pos e, if_pos (show (S (i % k) = p ∧ o ≤ T) ∧ T = t from ⟨⟨c, by omega⟩, e.symm⟩), e]
              rfl
            · rw [if_neg e, if_neg (show ¬ ((S (i % k) = p ∧ o ≤ T) ∧ T = t) from fun q => e q.2.symm), Nat.add_zero]
              exact hm t ht)
          refine ⟨τ, ?_, a2, a3⟩
          simp +decide (maxSteps := 2000000) (disch := omega) only [↓gl_p, ↓bs_p, iI_lit, iI_neg, iI_add, iI_sub, iI_mul, gk_p, bs_p, bz0, bz1, pI_row, pI_snd, pA_row, pA_snd, pL_fst, pL_row, pB_fst, pB_row, upd_at, ↓reduceIte, Int.reduceToNat, Nat.reduceEqDiff, iI_lt, iI_le, iI_eq, iI_inb, iI_nat, iI_nz, s46, g, s28, s29, c2, c4, c6, v, Int.toNat_natCast]
          exact a1
    · have c2 : ¬ ((S (i % k) : Nat) : Int) = p := by omega
      obtain ⟨τ, a1, a2, a3⟩ := ih (i + 1) f σ (by omega) (by omega) hc (fun t ht => by
        rw [es t, if_neg (show ¬ ((S (i % k) = p ∧ o ≤ T) ∧ T = t) from fun q => c q.1.1), if_neg (show ¬ (S (i % k) = p ∧ T + o = t) from fun q => c q.1)]
        exact hm t ht)
      refine ⟨τ, ?_, a2, a3⟩
      simp +decide (maxSteps := 2000000) (disch := omega) only [↓gl_p, ↓bs_p, iI_lit, iI_neg, iI_add, iI_sub, iI_mul, gk_p, bs_p, bz0, bz1, pI_row, pI_snd, pA_row, pA_snd, pL_fst, pL_row, pB_fst, pB_row, upd_at, ↓reduceIte, Int.reduceToNat, Nat.reduceEqDiff, iI_lt, iI_le, iI_eq, iI_inb, iI_nat, iI_nz, s46, g, s29, c2, Int.toNat_natCast]
      exact a1
theorem w_to118 {m : gS} {c : Nat → Nat} {ev : Nat → Bool} (hm : ∀ t, t < 1000 → m.1 32 t = iI (c t : Nat)) (hc : ∀ t, c t ≤ 8000) (hev : ∀ t, t < 1000 → (c t = 0 ↔ ev t = false)) : ∀ (r t f : Nat), t + r = 1000 → r ≤ f → f_X10_twoOf_118 (f + 1) (iI (sg c t : Nat)) (iI (eAh ev t)) (iI (eMo ev t)) (iI t) m = some (iI (if sg c 1000 < 2 then -2 else eMo ev 1000), m) := by
  intro r
  induction r with
  | zero =>
    intro t f ht hf
    have g : 1000 ≤ (t : Int) := by omega
    have e : t = 1000 := by omega
    have sb := sg_le hc 1000
    rw [f_X10_twoOf_118, e]
    by_cases c2 : sg c 1000 < 2
    · have c3 : ¬ 2 ≤ ((sg c 1000 : Nat) : Int) := by omega
      rw [if_pos c2]
      simp +decide (maxSteps := 2000000) (disch := omega) only [↓gl_p, ↓bs_p, iI_lit, iI_neg, iI_add, iI_sub, iI_mul, gk_p, bs_p, bz0, bz1, pI_row, pI_snd, pA_row, pA_snd, pL_fst, pL_row, pB_fst, pB_row, upd_at, ↓reduceIte, Int.reduceToNat, Nat.reduceEqDiff, iI_lt, iI_le, iI_eq, iI_inb, iI_nat, iI_nz, c3]
    · have c3 : 2 ≤ ((sg c 1000 : Nat) : Int) := by omega
      rw [if_neg c2]
      simp +decide (maxSteps := 2000000) (disch := omega) only [↓gl_p, ↓bs_p, iI_lit, iI_neg, iI_add, iI_sub, iI_mul, gk_p, bs_p, bz0, bz1, pI_row, pI_snd, pA_row, pA_snd, pL_fst, pL_row, pB_fst, pB_row, upd_at, ↓reduceIte, Int.reduceToNat, Nat.reduceEqDiff, iI_lt, iI_le, iI_eq, iI_inb, iI_nat, iI_nz, c3]
  | succ r ih =>
    intro t f ht hf
    obtain ⟨f, rfl⟩ : ∃ q, f = q + 1 := ⟨f - 1, by omega⟩
    have g : ¬ 1000 ≤ (t : Int) := by omega
    have v := hm t (by omega)
    have cb := hc t
    have k2 := ih (t + 1) f (by omega) (by omega)
    have ar := eAh_rg (ev := ev) t
    have mr := eMo_rg (ev := ev) t
    rw [show sg c (t + 1) = sg c t + c t from rfl] at k2
    rw [f_X10_twoOf_118]
    unfold f_X10_twoOf_166
    by_cases c2 : c t = 0
    · have c3 := eq_true (show ((c t : Nat) : Int) = 0 by omega)
      have e := (hev t (by omega)).mp c2
      rw [eAh_n e, eMo_n e, c2, Nat.add_zero] at k2
      simp +decide (maxSteps := 2000000) (disch := omega) only [↓gl_p, ↓bs_p, iI_lit, iI_neg, iI_add, iI_sub, iI_mul, gk_p, bs_p, bz0, bz1, pI_row, pI_snd, pA_row, pA_snd, pL_fst, pL_row, pB_fst, pB_row, upd_at, ↓reduceIte, Int.reduceToNat, Nat.reduceEqDiff, iI_lt, iI_le, iI_eq, iI_inb, iI_nat, iI_nz, g, v, c3, Int.toNat_natCast]
      exact k2
    · have c3 : ¬ ((c t : Nat) : Int) = 0 := by omega
      have e : ev t = true := by
        cases h : ev t
        · exact absurd ((hev t (by omega)).mpr h) c2
        · rfl
      rw [eAh_y e, eMo_y e] at k2
      by_cases c4 : eAh ev t < 0
      · rw [if_pos c4] at k2
        simp +decide (maxSteps := 2000000) (disch := omega) only [↓gl_p, ↓bs_p, iI_lit, iI_neg, iI_add, iI_sub, iI_mul, gk_p, bs_p, bz0, bz1, pI_row, pI_snd, pA_row, pA_snd, pL_fst, pL_row, pB_fst, pB_row, upd_at, ↓reduceIte, Int.reduceToNat, Nat.reduceEqDiff, iI_lt, iI_le, iI_eq, iI_inb, iI_nat, iI_nz, g, v, c3, c4, Int.toNat_natCast]
        exact k2
      · rw [if_neg c4] at k2
        simp +decide (maxSteps := 2000000) (disch := omega) only [↓gl_p, ↓bs_p, iI_lit, iI_neg, iI_add, iI_sub, iI_mul, gk_p, bs_p, bz0, bz1, pI_row, pI_snd, pA_row, pA_snd, pL_fst, pL_row, pB_fst, pB_row, upd_at, ↓reduceIte, Int.reduceToNat, Nat.reduceEqDiff, iI_lt, iI_le, iI_eq, iI_inb, iI_nat, iI_nz, g, v, c3, c4, jmax_i, Int.toNat_natCast]
        exact k2
/-- the answer for a post and a lateness -/
def tws (w : Nat → Nat → Nat) (sd : Nat) (S : Nat → Nat) (k D p o : Nat) : Int := if sg (mcn S (Tm w sd S k) k p o D) 1000 < 2 then -2 else eMo (evb (dn w sd S k p) o) 1000
theorem tws_rg {w : Nat → Nat → Nat} {sd k D p o : Nat} {S : Nat → Nat} : -2 ≤ tws w sd S k D p o ∧ tws w sd S k D p o ≤ 1000 ∧ ¬ tws w sd S k D p o = -1 := by
  unfold tws
  have g := eMo_rg (ev := evb (dn w sd S k p) o) 1000
  split <;> omega
theorem s_twoM {m : gS} {n k sd D p o : Nat} {w : Nat → Nat → Nat} {S : Nat → Nat} (hn : n ≤ 9) (hS : ∀ i, i < k → S i < n) (hp : p < n) (ho : o ≤ 99) (hW : WK 4000 D w sd S k m) : ∃ τ, f_X10_twoOf m (iI p) (iI o) = some (iI (tws w sd S k D p o), τ) ∧ Ch m2C m τ := by
  obtain ⟨m1, a1, a2, a3⟩ := w_to2 1000 0 999999 m m (iI p) (iI o) (by omega) (by omega) (Ch_refl _ _) (fun t ht => absurd ht (by omega))
  have hD := hW.1
  obtain ⟨m2, b1, b2, b3⟩ := w_to24 hn hS hp ho hW D 0 999999 m1 (by omega) (by omega) a2 (fun t ht => a3 t ht)
  have k2 := w_to118 (c := mcn S (Tm w sd S k) k p o D) (ev := evb (dn w sd S k p) o) b3 (fun t => by have := mcn_le (S := S) (T := Tm w sd S k) (k := k) (p := p) (o := o) (t := t) D; omega) (fun t ht => by
    constructor
    · intro h
      refine bool_f fun he => ?_
      obtain ⟨e1, e2⟩ := evb_iff.mp he
      rcases e2 with e2 | e2
      · obtain ⟨j, j1, j2, j3⟩ := dn_iff.mp e2
        have g := mcn_ge (S := S) (T := Tm w sd S k) (k := k) (p := p) (o := o) (t := t) D j (WK_in hW j1 (by omega)) j2 (Or.inl ⟨by omega, j3⟩)
        omega
      · obtain ⟨j, j1, j2, j3⟩ := dn_iff.mp e2
        have g := mcn_ge (S := S) (T := Tm w sd S k) (k := k) (p := p) (o := o) (t := t) D j (WK_in hW j1 (by omega)) j2 (Or.inr (by omega))
        omega
    · intro h
      rcases mcn_pos (S := S) (T := Tm w sd S k) (k := k) (p := p) (o := o) (t := t) D with h2 | ⟨j, j1, j2, j3⟩
      · exact h2
      · have he : evb (dn w sd S k p) o t = true := by
          rcases j3 with ⟨q1, q2⟩ | q2
          · exact evb_iff.mpr ⟨by omega, Or.inl (dn_iff.mpr ⟨j, by omega, j2, q2⟩)⟩
          · exact evb_iff.mpr ⟨by omega, Or.inr (dn_iff.mpr ⟨j, by omega, j2, by omega⟩)⟩
        rw [h] at he
        exact absurd he (by decide)) 1000 0 999999 (by omega) (by omega)
  refine ⟨m2, ?_, b2⟩
  unfold f_X10_twoOf
  rw [show f_X10_twoOf_2 gN (iI p) (iI o) 0 m = _ from a1, show f_X10_twoOf_24 gN (iI p) (iI o) (iI 0) m1 = _ from b1]
  exact k2
/-- as many count in both -/
theorem two_cnt {w : Nat → Nat → Nat} {sd k D p o C z own nb st : Nat} {S f : Nat → Nat} {m : gS} (hW : WK 4000 D w sd S k m) (hC : isC (Tm w sd S k) 999 C) (hN : NP S (Tm w sd S k) k p C z f) (hG : GP (dn w sd S k p) 999 z f) (hst : st = (z - own) + nb) (h1 : own ≤ z) (h2 : ∀ i, i < own → f i < o) (h3 : own < z → o ≤ f own) (h4 : nb ≤ z) (h5 : ∀ j, j < nb → f j + o ≤ 999) (h6 : nb < z → 999 < f nb + o) : (2 ≤ st ↔ 2 ≤ sg (mcn S (Tm w sd S k) k p o D) 1000) := by
  have toC : ∀ i, i < D → Tm w sd S k i ≤ 999 → i < C := fun i hi ht => by
    by_cases c : i < C
    · exact c
    · have g := hC.2.2 (by have := hW.1; omega)
      have g2 := Tm_mono (w := w) (sd := sd) (S := S) (k := k) (show C ≤ i by omega)
      omega
  have toD : ∀ i, i < C → i < D ∧ Tm w sd S k i ≤ 999 := fun i hi => by
    have g := hC.2.1 i hi
    have g2 := hC.1
    exact ⟨WK_in hW (by omega) (by omega), by omega⟩
  have inA : ∀ i, i < z → o ≤ f i → own ≤ i := fun i hi ho => by
    by_cases c : own ≤ i
    · exact c
    · have := h2 i (by omega)
      omega
  have inB : ∀ i, i < z → f i + o ≤ 999 → i < nb := fun i hi ho => by
    by_cases c : i < nb
    · exact c
    · have g := hG.2.2 nb i (by omega) hi
      have := h6 (by omega)
      omega
  have hown : ∀ i, own ≤ i → i < z → o ≤ f i := fun i q1 q2 => by
    have g := hG.2.2 own i q1 q2
    have := h3 (by omega)
    omega
  rw [tot_2]
  constructor
  · intro h
    by_cases cA : own + 2 ≤ z
    · right
      by_cases e : f own = f (own + 1)
      · obtain ⟨a, b, q1, q2, q3, q4, q5, q6⟩ := hN.2.2.2.2.2 own (by omega) e
        have d1 := toD a (by omega)
        have d2 := toD b q2
        have o1 := hown own (by omega) (by omega)
        exact ⟨a, b, q1, d2.1, Or.inl ⟨q3, by omega, by omega⟩, Or.inl ⟨q4, by omega, by omega⟩⟩
      · obtain ⟨a, a1, a2, a3⟩ := hN.2.2.1 own (by omega)
        obtain ⟨b, b1, b2, b3⟩ := hN.2.2.1 (own + 1) (by omega)
        have d1 := toD a a1
        have d2 := toD b b1
        have o1 := hown own (by omega) (by omega)
        have o2 := hown (own + 1) (by omega) (by omega)
        rcases Nat.lt_trichotomy a b with c | c | c
        · exact ⟨a, b, c, d2.1, Or.inl ⟨a2, by omega, by omega⟩, Or.inl ⟨b2, by omega, by omega⟩⟩
        · subst c
          omega
        · exact ⟨b, a, c, d1.1, Or.inl ⟨b2, by omega, by omega⟩, Or.inl ⟨a2, by omega, by omega⟩⟩
    by_cases cB : 2 ≤ nb
    · right
      have o1 := h5 0 (by omega)
      have o2 := h5 1 (by omega)
      by_cases e : f 0 = f (0 + 1)
      · obtain ⟨a, b, q1, q2, q3, q4, q5, q6⟩ := hN.2.2.2.2.2 0 (by omega) e
        have d1 := toD a (by omega)
        have d2 := toD b q2
        exact ⟨a, b, q1, d2.1, Or.inr ⟨q3, by omega⟩, Or.inr ⟨q4, by omega⟩⟩
      · rw [Nat.zero_add] at e
        obtain ⟨a, a1, a2, a3⟩ := hN.2.2.1 0 (by omega)
        obtain ⟨b, b1, b2, b3⟩ := hN.2.2.1 1 (by omega)
        have d1 := toD a a1
        have d2 := toD b b1
        rcases Nat.lt_trichotomy a b with c | c | c
        · exact ⟨a, b, c, d2.1, Or.inr ⟨a2, by omega⟩, Or.inr ⟨b2, by omega⟩⟩
        · subst c
          omega
        · exact ⟨b, a, c, d1.1, Or.inr ⟨b2, by omega⟩, Or.inr ⟨a2, by omega⟩⟩
    have o1 := h5 0 (by omega)
    have o2 := hown (z - 1) (by omega) (by omega)
    obtain ⟨a, a1, a2, a3⟩ := hN.2.2.1 (z - 1) (by omega)
    obtain ⟨b, b1, b2, b3⟩ := hN.2.2.1 0 (by omega)
    have d1 := toD a a1
    have d2 := toD b b1
    have A : hA S (Tm w sd S k) k p o a := ⟨a2, by omega, by omega⟩
    have B : hB S (Tm w sd S k) k p o b := ⟨b2, by omega⟩
    rcases Nat.lt_trichotomy a b with c | c | c
    · exact Or.inr ⟨a, b, c, d2.1, Or.inl A, Or.inr B⟩
    · subst c
      exact Or.inl ⟨a, d1.1, A, B⟩
    · exact Or.inr ⟨b, a, c, d1.1, Or.inr B, Or.inl A⟩
  · have one : ∀ i, i < D → (hA S (Tm w sd S k) k p o i → own < z) ∧ (hB S (Tm w sd S k) k p o i → 1 ≤ nb) := fun i hi => by
      refine ⟨fun h => ?_, fun h => ?_⟩
      · obtain ⟨e, e1, e2⟩ := hN.2.2.2.1 i (toC i hi (by have := h.2.2; omega)) h.1
        have := inA e e1 (by have := h.2.1; omega)
        omega
      · obtain ⟨e, e1, e2⟩ := hN.2.2.2.1 i (toC i hi (by have := h.2; omega)) h.1
        have := inB e e1 (by have := h.2; omega)
        omega
    rintro (⟨i, i1, iA, iB⟩ | ⟨i, j, ij, jD, hi, hj⟩)
    · have q1 := (one i i1).1 iA
      have q2 := (one i i1).2 iB
      omega
    · have T2 := Tm_mono (w := w) (sd := sd) (S := S) (k := k) (show i ≤ j by omega)
      rcases hi with hi | hi <;> rcases hj with hj | hj
      · have ci := toC i (by omega) (by have := hi.2.2; omega)
        have cj := toC j jD (by have := hj.2.2; omega)
        by_cases e : Tm w sd S k i = Tm w sd S k j
        · obtain ⟨u, u1, u2, u3⟩ := hN.2.2.2.2.1 i j ij cj hi.1 hj.1 e
          have := inA u (by omega) (by have := hi.2.1; omega)
          omega
        · obtain ⟨u, u1, u2⟩ := hN.2.2.2.1 i ci hi.1
          obtain ⟨v, v1, v2⟩ := hN.2.2.2.1 j cj hj.1
          have q1 := inA u u1 (by have := hi.2.1; omega)
          have q2 := inA v v1 (by have := hj.2.1; omega)
          have : u ≠ v := fun h => by
            subst h
            omega
          omega
      · have q1 := (one i (by omega)).1 hi
        have q2 := (one j jD).2 hj
        omega
      · have q1 := (one i (by omega)).2 hi
        have q2 := (one j jD).1 hj
        omega
      · have ci := toC i (by omega) (by have := hi.2; omega)
        have cj := toC j jD (by have := hj.2; omega)
        by_cases e : Tm w sd S k i = Tm w sd S k j
        · obtain ⟨u, u1, u2, u3⟩ := hN.2.2.2.2.1 i j ij cj hi.1 hj.1 e
          have := inB (u + 1) (by omega) (by have := hi.2; omega)
          omega
        · obtain ⟨u, u1, u2⟩ := hN.2.2.2.1 i ci hi.1
          obtain ⟨v, v1, v2⟩ := hN.2.2.2.1 j cj hj.1
          have q1 := inB u u1 (by have := hi.2; omega)
          have q2 := inB v v1 (by have := hj.2; omega)
          have : u ≠ v := fun h => by
            subst h
            omega
          omega
theorem s_twoX {y m : gS} {n k sd D p : Nat} {w : Nat → Nat → Nat} {S : Nat → Nat} (hY : YD n w sd y) (hC : CO 26 n k w sd S y) (hW : WK 4000 D w sd S k m) (hp : p < n) : ∃ y2, f_X6_gather y 26 (iI p) (iI 999) = some y2 ∧ Ch gaC y y2 ∧ ∀ o : Nat, o ≤ 99 → ∀ σ : gS, σ.1 32 = y2.1 32 → σ.1 33 = y2.1 33 → f_X6_widestOfTwo σ (iI o) (iI 999) = some (iI (tws w sd S k D p o)) := by
  obtain ⟨y2, C, z, f, g1, g2, g3, g4, g5, g6⟩ := s_gath_26 hY hC hp (U := 999) (by omega)
  have hG := GP_of g6 g3
  have hz := GP_sz g6 hG (by omega)
  refine ⟨y2, g1, g2, fun o ho σ e1 e2 => ?_⟩
  have g7 : GR z f σ := by
    unfold GR
    rw [e1, e2]
    exact g5
  obtain ⟨st, own, nb, k1, k2, k3, k4, k5, k6, k7, k8⟩ := s_wot g7 hG hz ho
  have tc := two_cnt hW g3 g6 hG k2 k3 k4 k5 k6 k7 k8
  rw [k1]
  unfold tws
  by_cases c : st < 2
  · rw [if_pos c, if_pos (by omega)]
  · rw [if_neg c, if_neg (by omega)]
