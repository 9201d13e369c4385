/-! ===== when each post was dented last ===== -/
def mk (S T : Nat → Nat) (k p : Nat) : Nat → Nat → Bool
  | 0, _ => false
  | i + 1, t => mk S T k p i t || (S (i % k) == p && T i == t)
theorem mk_iff {S T : Nat → Nat} {k p t : Nat} : ∀ i, mk S T k p i t = true ↔ ∃ j, j < i ∧ S (j % k) = p ∧ T j = t := by
  intro i
  induction i with
  | zero =>
    constructor
    · intro h
      have h2 : false = true := h
      exact absurd h2 (by decide)
    · rintro ⟨j, hj, -⟩
      exact absurd hj (by omega)
  | succ i ih =>
    show (mk S T k p i t || (S (i % k) == p && T i == t)) = true ↔ _
    rw [Bool.or_eq_true, ih, Bool.and_eq_true, beq_iff_eq, beq_iff_eq]
    constructor
    · rintro (⟨j, h1, h2⟩ | ⟨h1, h2⟩)
      · exact ⟨j, by omega, h2⟩
      · exact ⟨i, by omega, h1, h2⟩
    · rintro ⟨j, h1, h2⟩
      by_cases e : j = i
      · subst e
        exact Or.inr h2
      · exact Or.inl ⟨j, by omega, h2⟩
/-- the last minute of b by v -/
def ld (b : Nat → Bool) : Nat → Int
  | 0 => if b 0 then 0 else -1
  | v + 1 => if b (v + 1) then ((v + 1 : Nat) : Int) else ld b v
theorem ld_rg {b : Nat → Bool} : ∀ v, -1 ≤ ld b v ∧ ld b v ≤ v := by
  intro v
  induction v with
  | zero =>
    unfold ld
    split <;> omega
  | succ v ih =>
    show -1 ≤ (if b (v + 1) then ((v + 1 : Nat) : Int) else ld b v) ∧ (if b (v + 1) then ((v + 1 : Nat) : Int) else ld b v) ≤ ((v + 1 : Nat) : Int)
    split <;> omega
theorem ld_none {b : Nat → Bool} : ∀ v, (∀ t, t ≤ v → b t = false) → ld b v = -1 := by
  intro v
  induction v with
  | zero =>
    intro h
    show (if b 0 then _ else _) = _
    rw [h 0 (by omega)]
    rfl
  | succ v ih =>
    intro h
    show (if b (v + 1) then _ else ld b v) = _
    rw [h (v + 1) (by omega)]
    exact ih (fun t ht => h t (by omega))
theorem ld_some {b : Nat → Bool} : ∀ v t, t ≤ v → b t = true → (∀ s, t < s → s ≤ v → b s = false) → ld b v = t := by
  intro v
  induction v with
  | zero =>
    intro t h1 h2 h3
    have e : t = 0 := by omega
    subst e
    show (if b 0 then _ else _) = _
    rw [h2]
    rfl
  | succ v ih =>
    intro t h1 h2 h3
    show (if b (v + 1) then ((v + 1 : Nat) : Int) else ld b v) = _
    by_cases e : t = v + 1
    · subst e
      rw [h2]
      rfl
    · rw [h3 (v + 1) (by omega) (by omega)]
      exact ih t (by omega) h2 (fun s q1 q2 => h3 s q1 (by omega))
theorem ld_in {b : Nat → Bool} : ∀ v t, ld b v = ((t : Nat) : Int) → b t = true ∧ t ≤ v := by
  intro v
  induction v with
  | zero =>
    intro t h
    have h2 : (if b 0 then (0 : Int) else -1) = ((t : Nat) : Int) := h
    cases hb : b 0
    · rw [hb] at h2
      exact absurd h2 (by simp)
    · rw [hb] at h2
      have e : t = 0 := by
        simp at h2
        omega
      subst e
      exact ⟨hb, by omega⟩
  | succ v ih =>
    intro t h
    have h2 : (if b (v + 1) then ((v + 1 : Nat) : Int) else ld b v) = ((t : Nat) : Int) := h
    cases hb : b (v + 1)
    · rw [hb] at h2
      have g := ih t h2
      exact ⟨g.1, by omega⟩
    · rw [hb] at h2
      have e : t = v + 1 := by
        simp at h2
        omega
      subst e
      exact ⟨hb, by omega⟩
theorem ld_max {b : Nat → Bool} : ∀ v t, t ≤ v → b t = true → (t : Int) ≤ ld b v := by
  intro v
  induction v with
  | zero =>
    intro t h1 h2
    have e : t = 0 := by omega
    subst e
    show _ ≤ (if b 0 then (0 : Int) else -1)
    rw [h2]
    exact Int.le_refl _
  | succ v ih =>
    intro t h1 h2
    show _ ≤ (if b (v + 1) then ((v + 1 : Nat) : Int) else ld b v)
    cases hb : b (v + 1)
    · have e : t ≠ v + 1 := by
        intro e
        subst e
        rw [h2] at hb
        exact absurd hb (by decide)
      exact ih t (by omega) h2
    · show (t : Int) ≤ ((v + 1 : Nat) : Int)
      omega
/-- what counts of a table of b by t alone -/
theorem ld_cong {a b : Nat → Bool} : ∀ v, (∀ t, t ≤ v → a t = b t) → ld a v = ld b v := by
  intro v
  induction v with
  | zero =>
    intro h
    show (if a 0 then (0 : Int) else -1) = (if b 0 then (0 : Int) else -1)
    rw [h 0 (by omega)]
  | succ v ih =>
    intro h
    show (if a (v + 1) then _ else ld a v) = (if b (v + 1) then _ else ld b v)
    rw [h (v + 1) (by omega), ih (fun t ht => h t (by omega))]
def lkC (c j : Nat) : Bool := (c == 0 && j == 46) || c == 28 || c == 29 || c == 30
def l3C (c _j : Nat) : Bool := c == 30
theorem w_lk9 : ∀ (r i f : Nat) (m σ : gS), i + r = 18000 → r ≤ f → Ch l3C m σ → (∀ c, c < i → σ.1 30 c = iI (-1)) → ∃ τ, f_X10_looks_9 (f + 1) (iI i) σ = f_X10_looks_31 gN (iI 0) τ ∧ Ch l3C m τ ∧ ∀ c, c < 18000 → τ.1 30 c = iI (-1) := by
  intro r
  induction r with
  | zero =>
    intro i f m σ hi hf hc ho
    have g : 18000 ≤ (i : Int) := by omega
    refine ⟨σ, ?_, hc, fun c h => ho c (by omega)⟩
    rw [f_X10_looks_9]
    simp +decide (maxSteps := 2000000) (disch := omega) only [↓gl_p, ↓bs_p, iI_lit, iI_neg, iI_add, iI_sub, iI_mul, gk_p, bs_p, bz0, bz1, pI_row, pI_snd, pA_row, pA_snd, pL_fst, pL_row, pB_fst, pB_row, upd_at, ↓reduceIte, Int.reduceToNat, Nat.reduceEqDiff, iI_lt, iI_le, iI_eq, iI_inb, iI_nat, iI_nz, g]
  | succ r ih =>
    intro i f m σ hi hf hc ho
    obtain ⟨f, rfl⟩ : ∃ q, f = q + 1 := ⟨f - 1, by omega⟩
    have g : ¬ 18000 ≤ (i : Int) := by omega
    obtain ⟨τ, a1, a2, a3⟩ := ih (i + 1) f m (pI σ 30 i (iI (-1))) (by omega) (by omega) (Ch_pI hc rfl) (fun c h => by
      rw [pI_row, if_pos rfl, upd_at]
      by_cases e : c = i
      · rw [if_pos e]
      · rw [if_neg e]
        exact ho c (by omega))
    refine ⟨τ, ?_, a2, a3⟩
    rw [f_X10_looks_9]
    simp +decide (maxSteps := 2000000) (disch := omega) only [↓gl_p, ↓bs_p, iI_lit, iI_neg, iI_add, iI_sub, iI_mul, gk_p, bs_p, bz0, bz1, pI_row, pI_snd, pA_row, pA_snd, pL_fst, pL_row, pB_fst, pB_row, upd_at, ↓reduceIte, Int.reduceToNat, Nat.reduceEqDiff, iI_lt, iI_le, iI_eq, iI_inb, iI_nat, iI_nz, g, Int.toNat_natCast]
    exact a1
def rwv (b : Bool) (t : Nat) : Int := if b then (t : Int) else -1
theorem w_lk31 {m : gS} {n k sd D : Nat} {w : Nat → Nat → Nat} {S : Nat → Nat} (hn : n ≤ 9) (hS : ∀ i, i < k → S i < n) (hW : WK 4000 D w sd S k m) : ∀ (r i f : Nat) (σ : gS), i + r = D → r ≤ f → Ch l3C m σ → (∀ p t, p < 9 → t < 2000 → σ.1 30 (2000 * p + t) = iI (rwv (mk S (Tm w sd S k) k p i t) t)) → ∃ τ, f_X10_looks_31 (f + 1) (iI i) σ = f_X10_looks_75 gN (iI 0) τ ∧ Ch l3C m τ ∧ ∀ p t, p < 9 → t < 2000 → τ.1 30 (2000 * p + t) = iI (rwv (mk S (Tm w sd S k) k p D t) t) := by
  have hk0 := fun h => WK_k hW (h : 0 < D)
  obtain ⟨d1, d2, d3, d4⟩ := hW
  intro r
  induction r with
  | zero =>
    intro i f σ hi hf hc ho
    have s46 : σ.1 0 46 = iI D := (hc.2 0 46 rfl).trans d2
    have g : (D : Int) ≤ (i : Int) := by omega
    refine ⟨σ, ?_, hc, by rw [show D = i by omega]; exact ho⟩
    rw [f_X10_looks_31]
    simp +decide (maxSteps := 2000000) (disch := omega) only [↓gl_p, ↓bs_p, iI_lit, iI_neg, iI_add, iI_sub, iI_mul, gk_p, bs_p, bz0, bz1, pI_row, pI_snd, pA_row, pA_snd, pL_fst, pL_row, pB_fst, pB_row, upd_at, ↓reduceIte, Int.reduceToNat, Nat.reduceEqDiff, iI_lt, iI_le, iI_eq, iI_inb, iI_nat, iI_nz, s46, g]
  | succ r ih =>
    intro i f σ hi hf hc ho
    obtain ⟨f, rfl⟩ : ∃ q, f = q + 1 := ⟨f - 1, by omega⟩
    have s46 : σ.1 0 46 = iI D := (hc.2 0 46 rfl).trans d2
    have g : ¬ (D : Int) ≤ (i : Int) := by omega
    have q := d3 i (by omega)
    have s28 : σ.1 28 i = iI (Tm w sd S k i : Nat) := (hc.2 28 i rfl).trans q.1
    have s29 : σ.1 29 i = iI (S (i % k)) := (hc.2 29 i rfl).trans q.2.1
    have hSi := hS (i % k) (Nat.mod_lt _ (hk0 (by omega)))
    have q3 := q.2.2
    have t1 : (2000 * ((S (i % k) : Nat) : Int) + ((Tm w sd S k i : Nat) : Int)).toNat = 2000 * S (i % k) + Tm w sd S k i := by omega
    obtain ⟨τ, a1, a2, a3⟩ := ih (i + 1) f (pI σ 30 (2000 * S (i % k) + Tm w sd S k i) (iI (Tm w sd S k i : Nat))) (by omega) (by omega) (Ch_pI hc rfl) (fun p t hp ht => by
      rw [pI_row, if_pos rfl, upd_at]
      show _ = iI (rwv (mk S (Tm w sd S k) k p i t || (S (i % k) == p && Tm w sd S k i == t)) t)
      by_cases e : 2000 * p + t = 2000 * S (i % k) + Tm w sd S k i
      · have e1 : S (i % k) = p := by omega
        have e2 : Tm w sd S k i = t := by omega
        rw [if_pos e, e1, e2, beq_self_eq_true, beq_self_eq_true, Bool.and_self, Bool.or_true]
        rfl
      · rw [if_neg e]
        have e3 : (S (i % k) == p && Tm w sd S k i == t) = false := by
          cases h : (S (i % k) == p && Tm w sd S k i == t)
          · rfl
          · rw [Bool.and_eq_true, beq_iff_eq, beq_iff_eq] at h
            exact absurd (by rw [h.1, h.2]) e
        rw [e3, Bool.or_false]
        exact ho p t hp ht)
    refine ⟨τ, ?_, a2, a3⟩
    rw [f_X10_looks_31]
    simp +decide (maxSteps := 2000000) (disch := omega) only [↓gl_p, ↓bs_p, iI_lit, iI_neg, iI_add, iI_sub, iI_mul, gk_p, bs_p, bz0, bz1, pI_row, pI_snd, pA_row, pA_snd, pL_fst, pL_row, pB_fst, pB_row, upd_at, ↓reduceIte, Int.reduceToNat, Nat.reduceEqDiff, iI_lt, iI_le, iI_eq, iI_inb, iI_nat, iI_nz, s46, g, s28, s29, t1, Int.toNat_natCast]
    exact a1
theorem w_lk83 {K : Int32 → gS → Option gS} {p : Nat} (hp : p < 9) {b : Nat → Bool} : ∀ (r v f : Nat) (m σ : gS), v + 1 + r = 2000 → r ≤ f → Ch l3C m σ → (∀ c, (c < 2000 * p ∨ 2000 * p + 2000 ≤ c) → σ.1 30 c = m.1 30 c) → (∀ t, t ≤ v → σ.1 30 (2000 * p + t) = iI (ld b t)) → (∀ t, v < t → t < 2000 → σ.1 30 (2000 * p + t) = iI (rwv (b t) t)) → ∃ τ, f_X10_looks_83 K (f + 1) (iI p) (iI (v + 1 : Nat)) σ = K (iI (p + 1 : Nat)) τ ∧ Ch l3C m τ ∧ (∀ c, (c < 2000 * p ∨ 2000 * p + 2000 ≤ c) → τ.1 30 c = m.1 30 c) ∧ ∀ t, t < 2000 → τ.1 30 (2000 * p + t) = iI (ld b t) := by
  intro r
  induction r with
  | zero =>
    intro v f m σ hv hf hc hoff h1 h2
    have g : 2000 ≤ ((v + 1 : Nat) : Int) := by omega
    refine ⟨σ, ?_, hc, hoff, fun t ht => h1 t (by omega)⟩
    rw [f_X10_looks_83]
    simp +decide (maxSteps := 2000000) (disch := omega) only [↓gl_p, ↓bs_p, iI_lit, iI_neg, iI_add, iI_sub, iI_mul, gk_p, bs_p, bz0, bz1, pI_row, pI_snd, pA_row, pA_snd, pL_fst, pL_row, pB_fst, pB_row, upd_at, ↓reduceIte, Int.reduceToNat, Nat.reduceEqDiff, iI_lt, iI_le, iI_eq, iI_inb, iI_nat, iI_nz, g]
    rfl
  | succ r ih =>
    intro v f m σ hv hf hc hoff h1 h2
    obtain ⟨f, rfl⟩ : ∃ q, f = q + 1 := ⟨f - 1, by omega⟩
    have g : ¬ 2000 ≤ ((v + 1 : Nat) : Int) := by omega
    have t1 : (2000 * (p : Int) + ((v + 1 : Nat) : Int)).toNat = 2000 * p + (v + 1) := by omega
    have t2 : (2000 * (p : Int) + ((v + 1 : Nat) : Int) - 1).toNat = 2000 * p + v := by omega
    have q1 := h2 (v + 1) (by omega) (by omega)
    have q2 := h1 v (by omega)
    have lr := ld_rg (b := b) v
    cases hb : b (v + 1)
    · rw [hb, show rwv false (v + 1) = -1 from rfl] at q1
      have el : ld b (v + 1) = ld b v := by
        show (if b (v + 1) then _ else ld b v) = _
        rw [hb]
        rfl
      obtain ⟨τ, a1, a2, a3, a4⟩ := ih (v + 1) f m (pI σ 30 (2000 * p + (v + 1)) (iI (ld b v))) (by omega) (by omega) (Ch_pI hc rfl) (fun c h => by
        rw [pI_row, if_pos rfl, upd_at, if_neg (by omega)]
        exact hoff c h) (fun t ht => by
        rw [pI_row, if_pos rfl, upd_at]
        by_cases e : t = v + 1
        · rw [if_pos (by omega), e, el]
        · rw [if_neg (by omega)]
          exact h1 t (by omega)) (fun t h3 h4 => by
        rw [pI_row, if_pos rfl, upd_at, if_neg (by omega)]
        exact h2 t (by omega) h4)
      refine ⟨τ, ?_, a2, a3, a4⟩
      rw [f_X10_looks_83]
      simp +decide (maxSteps := 2000000) (disch := omega) only [↓gl_p, ↓bs_p, iI_lit, iI_neg, iI_add, iI_sub, iI_mul, gk_p, bs_p, bz0, bz1, pI_row, pI_snd, pA_row, pA_snd, pL_fst, pL_row, pB_fst, pB_row, upd_at, ↓reduceIte, Int.reduceToNat, Nat.reduceEqDiff, iI_lt, iI_le, iI_eq, iI_inb, iI_nat, iI_nz, g, t1, t2, q1, q2, Int.toNat_natCast]
      exact a1
    · rw [hb, show rwv true (v + 1) = ((v + 1 : Nat) : Int) from rfl] at q1
      have el : ld b (v + 1) = ((v + 1 : Nat) : Int) := by
        show (if b (v + 1) then _ else ld b v) = _
        rw [hb]
        rfl
      have g0 : (0 : Int) ≤ ((v + 1 : Nat) : Int) := by omega
      obtain ⟨τ, a1, a2, a3, a4⟩ := ih (v + 1) f m σ (by omega) (by omega) hc hoff (fun t ht => by
        by_cases e : t = v + 1
        · rw [e, el]
          exact q1
        · exact h1 t (by omega)) (fun t h3 h4 => h2 t (by omega) h4)
      refine ⟨τ, ?_, a2, a3, a4⟩
      rw [f_X10_looks_83]
      simp +decide (maxSteps := 2000000) (disch := omega) only [↓gl_p, ↓bs_p, iI_lit, iI_neg, iI_add, iI_sub, iI_mul, gk_p, bs_p, bz0, bz1, pI_row, pI_snd, pA_row, pA_snd, pL_fst, pL_row, pB_fst, pB_row, upd_at, ↓reduceIte, Int.reduceToNat, Nat.reduceEqDiff, iI_lt, iI_le, iI_eq, iI_inb, iI_nat, iI_nz, g, g0, t1, q1, Int.toNat_natCast]
      exact a1
theorem w_lk75 {B : Nat → Nat → Bool} : ∀ (r p f : Nat) (m σ : gS), p + r = 9 → r ≤ f → Ch l3C m σ → (∀ q t, q < p → t < 2000 → σ.1 30 (2000 * q + t) = iI (ld (B q) t)) → (∀ q t, p ≤ q → q < 9 → t < 2000 → σ.1 30 (2000 * q + t) = iI (rwv (B q t) t)) → ∃ τ, f_X10_looks_75 (f + 1) (iI p) σ = some τ ∧ Ch l3C m τ ∧ ∀ q t, q < 9 → t < 2000 → τ.1 30 (2000 * q + t) = iI (ld (B q) t) := by
  intro r
  induction r with
  | zero =>
    intro p f m σ hp hf hc h1 h2
    have g : 9 ≤ (p : Int) := by omega
    refine ⟨σ, ?_, hc, fun q t hq ht => h1 q t (by omega) ht⟩
    rw [f_X10_looks_75]
    simp +decide (maxSteps := 2000000) (disch := omega) only [↓gl_p, ↓bs_p, iI_lit, iI_neg, iI_add, iI_sub, iI_mul, gk_p, bs_p, bz0, bz1, pI_row, pI_snd, pA_row, pA_snd, pL_fst, pL_row, pB_fst, pB_row, upd_at, ↓reduceIte, Int.reduceToNat, Nat.reduceEqDiff, iI_lt, iI_le, iI_eq, iI_inb, iI_nat, iI_nz, g]
  | succ r ih =>
    intro p f m σ hp hf hc h1 h2
    obtain ⟨f, rfl⟩ : ∃ q, f = q + 1 := ⟨f - 1, by omega⟩
    have g : ¬ 9 ≤ (p : Int) := by omega
    obtain ⟨τ, a1, a2, a3, a4⟩ := w_lk83 (K := f_X10_looks_75 (f + 1)) (p := p) (by omega) (b := B p) 1999 0 999999 σ σ (by omega) (by omega) (Ch_refl _ _) (fun _ _ => rfl) (fun t ht => by
      have e : t = 0 := by omega
      subst e
      rw [h2 p 0 (by omega) (by omega) (by omega)]
      rfl) (fun t h3 h4 => h2 p t (by omega) (by omega) h4)
    obtain ⟨υ, b1, b2, b3⟩ := ih (p + 1) f m τ (by omega) (by omega) (Ch_tr hc a2) (fun q t hq ht => by
      by_cases e : q = p
      · rw [e]
        exact a4 t ht
      · rw [a3 _ (by omega)]
        exact h1 q t (by omega) ht) (fun q t h3 h4 h5 => by
      rw [a3 _ (by omega)]
      exact h2 q t (by omega) h4 h5)
    refine ⟨υ, ?_, b2, b3⟩
    rw [f_X10_looks_75]
    simp +decide (maxSteps := 2000000) (disch := omega) only [↓gl_p, ↓bs_p, iI_lit, iI_neg, iI_add, iI_sub, iI_mul, gk_p, bs_p, bz0, bz1, pI_row, pI_snd, pA_row, pA_snd, pL_fst, pL_row, pB_fst, pB_row, upd_at, ↓reduceIte, Int.reduceToNat, Nat.reduceEqDiff, iI_lt, iI_le, iI_eq, iI_inb, iI_nat, iI_nz, g]
    rw [show f_X10_looks_83 (f_X10_looks_75 (f + 1)) gN (iI p) (iI 1) σ = _ from a1]
    exact b1
/-- whether a post is dented in a minute -/
def dn (w : Nat → Nat → Nat) (sd : Nat) (S : Nat → Nat) (k p t : Nat) : Bool := mk S (Tm w sd S k) k p 4000 t
theorem dn_iff {w : Nat → Nat → Nat} {sd : Nat} {S : Nat → Nat} {k p t : Nat} : dn w sd S k p t = true ↔ ∃ j, j < 4000 ∧ S (j % k) = p ∧ Tm w sd S k j = t := mk_iff 4000
/-- the table of last dents -/
def LT (w : Nat → Nat → Nat) (sd : Nat) (S : Nat → Nat) (k : Nat) (m : gS) : Prop := ∀ p t, p < 9 → t < 2000 → m.1 30 (2000 * p + t) = iI (ld (dn w sd S k p) t)
theorem mk_D {w : Nat → Nat → Nat} {sd : Nat} {S : Nat → Nat} {k p t D : Nat} (h : D ≤ 4000) (h2 : ∀ j, D ≤ j → j < 4000 → Tm w sd S k j ≠ t) : mk S (Tm w sd S k) k p D t = dn w sd S k p t := by
  cases h3 : dn w sd S k p t
  · cases h4 : mk S (Tm w sd S k) k p D t
    · rfl
    · obtain ⟨j, q1, q2⟩ := (mk_iff D).mp h4
      rw [dn_iff.mpr ⟨j, by omega, q2⟩] at h3
      exact absurd h3 (by decide)
  · obtain ⟨j, q1, q2, q3⟩ := dn_iff.mp h3
    refine (mk_iff D).mpr ⟨j, ?_, q2, q3⟩
    by_cases c : j < D
    · exact c
    · exact absurd q3 (h2 j (by omega) q1)
theorem s_looks {m : gS} {n k sd : Nat} {w : Nat → Nat → Nat} {S : Nat → Nat} (hn : n ≤ 9) (hw : ∀ p q, okP n p → okP n q → w p q ≤ 270) (hd : sd ≤ 9) (hR : RO n k S m) (hM : YM n w sd m) : ∃ τ, f_X10_looks m = some τ ∧ Ch lkC m τ ∧ LT w sd S k τ := by
  obtain ⟨m1, D, w1, w2, hW⟩ := s_walks hn hw hd hR hM (high := 4000) (by omega)
  obtain ⟨m2, a1, a2, a3⟩ := w_lk9 18000 0 999999 m1 m1 (by omega) (by omega) (Ch_refl _ _) (fun c h => absurd h (by omega))
  obtain ⟨m3, b1, b2, b3⟩ := w_lk31 hn hR.2.1 hW D 0 999999 m2 (by omega) (by have := hW.1; omega) a2 (fun p t hp ht => by
    rw [a3 _ (by omega)]
    rfl)
  obtain ⟨m4, c1, c2, c3⟩ := w_lk75 (B := fun p t => mk S (Tm w sd S k) k p D t) 9 0 999999 m1 m3 (by omega) (by omega) b2 (fun q t hq => absurd hq (by omega)) (fun q t _ h2 h3 => b3 q t h2 h3)
  refine ⟨m4, ?_, ?_, fun p t hp ht => ?_⟩
  · unfold f_X10_looks
    rw [show f_X10_walks m 4000 = _ from w1]
    simp only [bs_p]
    rw [show f_X10_looks_9 gN 0 m1 = _ from a1, show f_X10_looks_31 gN (iI 0) m2 = _ from b1]
    exact c1
  · refine Ch_tr (Ch_mo w2 fun c j h => ?_) (Ch_mo c2 fun c j h => ?_)
    · unfold lkC at h
      unfold waC
      simp at h ⊢
      omega
    · unfold lkC at h
      unfold l3C
      simp at h ⊢
      omega
  · have e : ld (fun t => mk S (Tm w sd S k) k p D t) t = ld (dn w sd S k p) t := ld_cong t (fun s hs => mk_D hW.1 (fun j h1 h2 => by
      have g1 := hW.2.2.2 (by omega)
      have g2 := Tm_mono (w := w) (sd := sd) (S := S) (k := k) h1
      omega))
    exact (c3 p t hp ht).trans (congrArg iI e)
