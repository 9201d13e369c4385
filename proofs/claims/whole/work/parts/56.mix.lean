/-! ===== mix ===== -/
def mt (a b c d : Bool) : Int32 := (if a then iI 1 else iI 0) ||| (if b then iI 2 else iI 0) ||| (if c then iI 4 else iI 0) ||| (if d then iI 8 else iI 0)
theorem mt_s (a b c d cf cb : Bool) : mt a b c d ||| (iI 1 <<< (iI (b4 cf cb) &&& iI 31)) = mt (a || (!cf && !cb)) (b || (cf && !cb)) (c || (!cf && cb)) (d || (cf && cb)) := by
  cases a <;> cases b <;> cases c <;> cases d <;> cases cf <;> cases cb <;> decide
def sel (a b c d cf cb : Bool) : Bool := if cf then (if cb then d else b) else (if cb then c else a)
theorem mt_b (a b c d cf cb : Bool) : ((mt a b c d >>> (iI (b4 cf cb) &&& iI 31)) &&& iI 1 = iI 0) ↔ sel a b c d cf cb = false := by
  cases a <;> cases b <;> cases c <;> cases d <;> cases cf <;> cases cb <;> decide
def mx (c : Bool) (a g : Int) : Int := if c then (if g < a then a else g) else g
theorem mx_p (c : Bool) (a g : Int) : g ≤ mx c a g ∧ (c = true → a ≤ mx c a g) ∧ (mx c a g = g ∨ (c = true ∧ mx c a g = a)) := by
  cases c
  · exact ⟨Int.le_refl _, fun h => absurd h (by decide), Or.inl rfl⟩
  · show g ≤ (if g < a then a else g) ∧ (true = true → a ≤ (if g < a then a else g)) ∧ ((if g < a then a else g) = g ∨ (true = true ∧ (if g < a then a else g) = a))
    by_cases h : g < a
    · rw [if_pos h]
      exact ⟨by omega, fun _ => by omega, Or.inr ⟨rfl, rfl⟩⟩
    · rw [if_neg h]
      exact ⟨by omega, fun _ => by omega, Or.inl rfl⟩
theorem gts (σ : gS) (n : Nat) (a b c d cf cb : Bool) {p g : Int} (p1 : 0 ≤ p) (p2 : p ≤ 12) (g1 : 0 ≤ g) (g2 : g ≤ 12) : f_X9_greatestTwelfths_4 σ (n + 1) (mt a b c d) (iI p) (iI g) (iI (b4 cf cb)) = f_X9_greatestTwelfths_4 σ n (mt a b c d) (iI p) (iI (mx (sel a b c d cf cb) (tw4 cf cb p) g)) (iI (b4 cf cb + 1)) := by
  have hb := mt_b a b c d cf cb
  have tr := tw4_rg p1 p2 cf cb
  have b1 : 0 ≤ b4 cf cb ∧ b4 cf cb ≤ 3 := by
    unfold b4
    cases cf <;> cases cb <;> simp
  have g0 : ¬ 4 ≤ b4 cf cb := by omega
  have tw := s_tw σ cf cb p
  rw [f_X9_greatestTwelfths_4]
  cases hs : sel a b c d cf cb
  · have h0 := eq_true (hb.mpr hs)
    simp +decide (maxSteps := 2000000) (disch := omega) only [↓gl_p, ↓bs_p, iI_lit, iI_neg, iI_add, iI_sub, iI_mul, gk_p, bs_p, bz0, bz1, pI_row, pI_snd, pA_row, pA_snd, pL_fst, pL_row, pB_fst, pB_row, upd_at, ↓reduceIte, Int.reduceToNat, Nat.reduceEqDiff, iI_lt, iI_le, iI_eq, iI_inb, iI_nat, iI_nz, g0, h0]
    rfl
  · have h0 : ¬ (mt a b c d >>> (iI (b4 cf cb) &&& iI 31)) &&& iI 1 = iI 0 := fun h => by
      rw [hb.mp h] at hs
      exact absurd hs (by decide)
    simp +decide (maxSteps := 2000000) (disch := omega) only [↓gl_p, ↓bs_p, iI_lit, iI_neg, iI_add, iI_sub, iI_mul, gk_p, bs_p, bz0, bz1, pI_row, pI_snd, pA_row, pA_snd, pL_fst, pL_row, pB_fst, pB_row, upd_at, ↓reduceIte, Int.reduceToNat, Nat.reduceEqDiff, iI_lt, iI_le, iI_eq, iI_inb, iI_nat, iI_nz, g0, h0, tw, jmax_i]
    rfl
def gt4 (a b c d : Bool) (p : Int) : Int := mx d (tw4 true true p) (mx c (tw4 false true p) (mx b (tw4 true false p) (mx a (tw4 false false p) 0)))
theorem mx_rg {c : Bool} {a g : Int} (a1 : 0 ≤ a ∧ a ≤ 12) (g1 : 0 ≤ g ∧ g ≤ 12) : 0 ≤ mx c a g ∧ mx c a g ≤ 12 := by
  rcases (mx_p c a g).2.2 with h | ⟨-, h⟩ <;> rw [h]
  · exact g1
  · exact a1
theorem s_gtw (σ : gS) (a b c d : Bool) {p : Int} (p1 : 0 ≤ p) (p2 : p ≤ 12) : f_X9_greatestTwelfths σ (mt a b c d) (iI p) = some (iI (gt4 a b c d p)) := by
  have r0 := tw4_rg p1 p2 false false
  have r1 := tw4_rg p1 p2 true false
  have r2 := tw4_rg p1 p2 false true
  have m0 := mx_rg (c := a) r0 (g := 0) (by omega)
  have m1 := mx_rg (c := b) r1 m0
  have m2 := mx_rg (c := c) r2 m1
  have s0 : f_X9_greatestTwelfths_4 σ (999995 + 1 + 1 + 1 + 1 + 1) (mt a b c d) (iI p) (iI 0) (iI 0) = _ := gts σ (999995 + 1 + 1 + 1 + 1) a b c d false false p1 p2 (by omega) (by omega)
  have s1 : f_X9_greatestTwelfths_4 σ (999995 + 1 + 1 + 1 + 1) (mt a b c d) (iI p) (iI (mx a (tw4 false false p) 0)) (iI 1) = _ := gts σ (999995 + 1 + 1 + 1) a b c d true false p1 p2 m0.1 m0.2
  have s2 : f_X9_greatestTwelfths_4 σ (999995 + 1 + 1 + 1) (mt a b c d) (iI p) (iI (mx b (tw4 true false p) (mx a (tw4 false false p) 0))) (iI 2) = _ := gts σ (999995 + 1 + 1) a b c d false true p1 p2 m1.1 m1.2
  have s3 : f_X9_greatestTwelfths_4 σ (999995 + 1 + 1) (mt a b c d) (iI p) (iI (mx c (tw4 false true p) (mx b (tw4 true false p) (mx a (tw4 false false p) 0)))) (iI 3) = _ := gts σ (999995 + 1) a b c d true true p1 p2 m2.1 m2.2
  show f_X9_greatestTwelfths_4 σ (999995 + 1 + 1 + 1 + 1 + 1) (mt a b c d) (iI p) (iI 0) (iI 0) = _
  refine s0.trans (s1.trans (s2.trans (s3.trans ?_)))
  show f_X9_greatestTwelfths_4 σ (999995 + 1) (mt a b c d) (iI p) (iI (gt4 a b c d p)) (iI 4) = _
  rw [f_X9_greatestTwelfths_4]
  simp +decide (maxSteps := 2000000) (disch := omega) only [↓gl_p, ↓bs_p, iI_lit, iI_neg, iI_add, iI_sub, iI_mul, gk_p, bs_p, bz0, bz1, pI_row, pI_snd, pA_row, pA_snd, pL_fst, pL_row, pB_fst, pB_row, upd_at, ↓reduceIte, Int.reduceToNat, Nat.reduceEqDiff, iI_lt, iI_le, iI_eq, iI_inb, iI_nat, iI_nz]
def pr (cf cb : Nat → Bool) (x y : Bool) : Nat → Bool
  | 0 => false
  | v + 1 => pr cf cb x y v || (cf v == x && cb v == y)
theorem pr_iff {cf cb : Nat → Bool} {x y : Bool} : ∀ v, pr cf cb x y v = true ↔ ∃ t, t < v ∧ cf t = x ∧ cb t = y := by
  intro v
  induction v with
  | zero =>
    constructor
    · intro h
      have h2 : false = true := h
      exact absurd h2 (by decide)
    · rintro ⟨j, hj, -⟩
      exact absurd hj (by omega)
  | succ v ih =>
    show (pr cf cb x y v || (cf v == x && cb v == y)) = true ↔ _
    rw [Bool.or_eq_true, ih, Bool.and_eq_true, beq_iff_eq, beq_iff_eq]
    constructor
    · rintro (⟨j, h1, h2⟩ | ⟨h1, h2⟩)
      · exact ⟨j, by omega, h2⟩
      · exact ⟨v, by omega, h1, h2⟩
    · rintro ⟨j, h1, h2⟩
      by_cases e : j = v
      · subst e
        exact Or.inr h2
      · exact Or.inl ⟨j, by omega, h2⟩
def met (cf cb : Nat → Bool) (v : Nat) : Int32 := mt (pr cf cb false false v) (pr cf cb true false v) (pr cf cb false true v) (pr cf cb true true v)
theorem met_s (cf cb : Nat → Bool) (v : Nat) : met cf cb v ||| (iI 1 <<< (iI (b4 (cf v) (cb v)) &&& iI 31)) = met cf cb (v + 1) := by
  unfold met
  rw [mt_s]
  show mt _ _ _ _ = mt (pr cf cb false false v || (cf v == false && cb v == false)) (pr cf cb true false v || (cf v == true && cb v == false)) (pr cf cb false true v || (cf v == false && cb v == true)) (pr cf cb true true v || (cf v == true && cb v == true))
  cases cf v <;> cases cb v <;> rfl
theorem w_mx54 {y : gS} {cf cb : Nat → Bool} (hy : ∀ t, t < 600 → y.1 44 t = iI (b4 (cf t) (cb t))) : ∀ (r v f : Nat), v + r = 600 → r ≤ f → f_X9_mix_54 (f + 1) (met cf cb v) (iI v) y = (f_X9_greatestTwelfths y (met cf cb 600) (iI 0)).bind fun q1 => f_X9_mix_96 gN (met cf cb 600) (iI 0) q1 (iI 1) y := by
  intro r
  induction r with
  | zero =>
    intro v f hv hf
    rw [f_X9_mix_54, show v = 600 by omega]
    simp +decide (maxSteps := 2000000) (disch := omega) only [↓gl_p, ↓bs_p, iI_lit, iI_neg, iI_add, iI_sub, iI_mul, gk_p, bs_p, bz0, bz1, pI_row, pI_snd, pA_row, pA_snd, pL_fst, pL_row, pB_fst, pB_row, upd_at, ↓reduceIte, Int.reduceToNat, Nat.reduceEqDiff, iI_lt, iI_le, iI_eq, iI_inb, iI_nat, iI_nz]
  | succ r ih =>
    intro v f hv hf
    obtain ⟨f, rfl⟩ : ∃ q, f = q + 1 := ⟨f - 1, by omega⟩
    have c : ¬ 600 ≤ (v : Int) := by omega
    have q := hy v (by omega)
    have k2 := ih (v + 1) f (by omega) (by omega)
    rw [← met_s] at k2
    rw [f_X9_mix_54]
    simp +decide (maxSteps := 2000000) (disch := omega) only [↓gl_p, ↓bs_p, iI_lit, iI_neg, iI_add, iI_sub, iI_mul, gk_p, bs_p, bz0, bz1, pI_row, pI_snd, pA_row, pA_snd, pL_fst, pL_row, pB_fst, pB_row, upd_at, ↓reduceIte, Int.reduceToNat, Nat.reduceEqDiff, iI_lt, iI_le, iI_eq, iI_inb, iI_nat, iI_nz, c, q, Int.toNat_natCast]
    exact k2
/-- the greatest by what was met is the greatest of the minutes -/
theorem gt_amx {cf cb : Nat → Bool} {p : Int} (p1 : 0 ≤ p) (p2 : p ≤ 12) : gt4 (pr cf cb false false 600) (pr cf cb true false 600) (pr cf cb false true 600) (pr cf cb true true 600) p = tw4 (cf (amx (fun t => tw4 (cf t) (cb t) p) 600)) (cb (amx (fun t => tw4 (cf t) (cb t) p) 600)) p := by
  have hmax : ∀ t, t < 600 → tw4 (cf t) (cb t) p ≤ tw4 (cf (amx (fun t => tw4 (cf t) (cb t) p) 600)) (cb (amx (fun t => tw4 (cf t) (cb t) p) 600)) p := fun t ht => amx_max (g := fun t => tw4 (cf t) (cb t) p) 600 t ht
  have hl := amx_lt (g := fun t => tw4 (cf t) (cb t) p) 600
  generalize amx (fun t => tw4 (cf t) (cb t) p) 600 = a at hmax hl
  have ra := tw4_rg p1 p2 (cf a) (cb a)
  have hpr : ∀ x y, pr cf cb x y 600 = true → tw4 x y p ≤ tw4 (cf a) (cb a) p := fun x y h => by
    obtain ⟨t, h1, h2, h3⟩ := (pr_iff 600).mp h
    have q := hmax t h1
    rw [h2, h3] at q
    exact q
  have hin : pr cf cb (cf a) (cb a) 600 = true := (pr_iff 600).mpr ⟨a, by omega, rfl, rfl⟩
  have A := mx_p (pr cf cb false false 600) (tw4 false false p) 0
  have B := mx_p (pr cf cb true false 600) (tw4 true false p) (mx (pr cf cb false false 600) (tw4 false false p) 0)
  have C := mx_p (pr cf cb false true 600) (tw4 false true p) (mx (pr cf cb true false 600) (tw4 true false p) (mx (pr cf cb false false 600) (tw4 false false p) 0))
  have D := mx_p (pr cf cb true true 600) (tw4 true true p) (mx (pr cf cb false true 600) (tw4 false true p) (mx (pr cf cb true false 600) (tw4 true false p) (mx (pr cf cb false false 600) (tw4 false false p) 0)))
  have up : gt4 (pr cf cb false false 600) (pr cf cb true false 600) (pr cf cb false true 600) (pr cf cb true true 600) p ≤ tw4 (cf a) (cb a) p := by
    unfold gt4
    rcases D.2.2 with h | ⟨h0, h⟩
    · rw [h]
      rcases C.2.2 with h | ⟨h0, h⟩
      · rw [h]
        rcases B.2.2 with h | ⟨h0, h⟩
        · rw [h]
          rcases A.2.2 with h | ⟨h0, h⟩
          · rw [h]
            omega
          · rw [h]
            exact hpr _ _ h0
        · rw [h]
          exact hpr _ _ h0
      · rw [h]
        exact hpr _ _ h0
    · rw [h]
      exact hpr _ _ h0
  have dn : tw4 (cf a) (cb a) p ≤ gt4 (pr cf cb false false 600) (pr cf cb true false 600) (pr cf cb false true 600) (pr cf cb true true 600) p := by
    unfold gt4
    cases hcf : cf a <;> cases hcb : cb a <;> rw [hcf, hcb] at hin
    · have q := A.2.1 hin
      omega
    · have q := C.2.1 hin
      omega
    · have q := B.2.1 hin
      omega
    · exact D.2.1 hin
  omega
theorem w_mix {y m : gS} {a b c d : Bool} {N : Nat} {G : Int → Int} (hG : ∀ p, 0 ≤ p → p ≤ 12 → gt4 a b c d p = G p) (hr : ∀ p, 0 ≤ p → p ≤ 12 → 0 ≤ G p ∧ G p ≤ 12) (hm : ∀ p : Nat, p ≤ 12 → ∃ q, f_X10_bestMinute m (iI p) (iI N) = some q ∧ f_X10_succeeds m q (iI p) (iI N) = some (iI (G p))) : ∀ (r p f f2 : Nat) (bs ls : Int), p + r = 13 → r ≤ f → r ≤ f2 → 0 ≤ ls → ls ≤ 12 → ∃ q, f_X9_mix_96 (f + 1) (mt a b c d) (iI bs) (iI ls) (iI p) y = some (q, y) ∧ f_X10_mix_64 (f2 + 1) (iI N) (iI bs) (iI ls) (iI p) m = some (q, m) := by
  intro r
  induction r with
  | zero =>
    intro p f f2 bs ls hp hf hf2 l1 l2
    have c1 : 12 < (p : Int) := by omega
    have c2 : 13 ≤ (p : Int) := by omega
    rw [f_X9_mix_96, f_X10_mix_64]
    simp +decide (maxSteps := 2000000) (disch := omega) only [↓gl_p, ↓bs_p, iI_lit, iI_neg, iI_add, iI_sub, iI_mul, gk_p, bs_p, bz0, bz1, pI_row, pI_snd, pA_row, pA_snd, pL_fst, pL_row, pB_fst, pB_row, upd_at, ↓reduceIte, Int.reduceToNat, Nat.reduceEqDiff, iI_lt, iI_le, iI_eq, iI_inb, iI_nat, iI_nz, c1, c2]
    exact ⟨_, rfl, rfl⟩
  | succ r ih =>
    intro p f f2 bs ls hp hf hf2 l1 l2
    obtain ⟨f, rfl⟩ : ∃ q, f = q + 1 := ⟨f - 1, by omega⟩
    obtain ⟨f2, rfl⟩ : ∃ q, f2 = q + 1 := ⟨f2 - 1, by omega⟩
    have c1 : ¬ 12 < (p : Int) := by omega
    have c2 : ¬ 13 ≤ (p : Int) := by omega
    have gx := s_gtw y a b c d (p := (p : Int)) (by omega) (by omega)
    rw [hG p (by omega) (by omega)] at gx
    obtain ⟨q, b1, b2⟩ := hm p (by omega)
    have rg := hr p (by omega) (by omega)
    rw [f_X9_mix_96, f_X10_mix_64]
    by_cases h : ls ≤ G p
    · have h2 : ¬ G p < ls := by omega
      simp +decide (maxSteps := 2000000) (disch := omega) only [↓gl_p, ↓bs_p, iI_lit, iI_neg, iI_add, iI_sub, iI_mul, gk_p, bs_p, bz0, bz1, pI_row, pI_snd, pA_row, pA_snd, pL_fst, pL_row, pB_fst, pB_row, upd_at, ↓reduceIte, Int.reduceToNat, Nat.reduceEqDiff, iI_lt, iI_le, iI_eq, iI_inb, iI_nat, iI_nz, c1, c2, gx, b1, b2, h, h2]
      exact ih (p + 1) f f2 bs ls (by omega) (by omega) (by omega) l1 l2
    · have h2 : G p < ls := by omega
      simp +decide (maxSteps := 2000000) (disch := omega) only [↓gl_p, ↓bs_p, iI_lit, iI_neg, iI_add, iI_sub, iI_mul, gk_p, bs_p, bz0, bz1, pI_row, pI_snd, pA_row, pA_snd, pL_fst, pL_row, pB_fst, pB_row, upd_at, ↓reduceIte, Int.reduceToNat, Nat.reduceEqDiff, iI_lt, iI_le, iI_eq, iI_inb, iI_nat, iI_nz, c1, c2, gx, b1, b2, h, h2]
      exact ih (p + 1) f f2 p (G p) (by omega) (by omega) (by omega) (by omega) (by omega)
theorem e_mix (L : LawT) : EQ_mix (Rel1 L) := by
  intro x m a1 a2 a3 hR
  obtain ⟨s, rfl, hs1, hs2⟩ := iI_of a1
  obtain ⟨v, rfl, hv1, hv2⟩ := iI_of a2
  obtain ⟨q, rfl, hq1, hq2⟩ := iI_of a3
  obtain ⟨⟨n, nb, hP, hC, hT, hD, hI, hK, hS⟩, hL⟩ := id hR
  have hn := hP.1
  have px := s_poX (σ := x) hn hP.2.1 hv1 hv2
  have pm := s_poM (σ := m) hn hP.2.2.1 hv1 hv2
  unfold f_X9_mix f_X10_mix
  by_cases c1 : 0 ≤ s ∧ s ≤ 5
  rotate_left
  · simp +decide (maxSteps := 2000000) (disch := omega) only [↓gl_p, ↓bs_p, iI_lit, iI_neg, iI_add, iI_sub, iI_mul, gk_p, bs_p, bz0, bz1, pI_row, pI_snd, pA_row, pA_snd, pL_fst, pL_row, pB_fst, pB_row, upd_at, ↓reduceIte, Int.reduceToNat, Nat.reduceEqDiff, iI_lt, iI_le, iI_eq, iI_inb, iI_nat, iI_nz, c1, s_shX, s_shM, bI_0, not_false_eq_true]
    exact ⟨_, _, _, rfl, rfl, hR⟩
  by_cases c2 : 0 ≤ v ∧ v < n
  rotate_left
  · simp +decide (maxSteps := 2000000) (disch := omega) only [↓gl_p, ↓bs_p, iI_lit, iI_neg, iI_add, iI_sub, iI_mul, gk_p, bs_p, bz0, bz1, pI_row, pI_snd, pA_row, pA_snd, pL_fst, pL_row, pB_fst, pB_row, upd_at, ↓reduceIte, Int.reduceToNat, Nat.reduceEqDiff, iI_lt, iI_le, iI_eq, iI_inb, iI_nat, iI_nz, c1, c2, s_shX, s_shM, lL_i, px, pm, bI_0, not_false_eq_true, not_true_eq_false, and_self]
    exact ⟨_, _, _, rfl, rfl, hR⟩
  by_cases c4 : 1 ≤ q ∧ q ≤ 99
  rotate_left
  · simp +decide (maxSteps := 2000000) (disch := omega) only [↓gl_p, ↓bs_p, iI_lit, iI_neg, iI_add, iI_sub, iI_mul, gk_p, bs_p, bz0, bz1, pI_row, pI_snd, pA_row, pA_snd, pL_fst, pL_row, pB_fst, pB_row, upd_at, ↓reduceIte, Int.reduceToNat, Nat.reduceEqDiff, iI_lt, iI_le, iI_eq, iI_inb, iI_nat, iI_nz, c1, c2, c4, s_shX, s_shM, lL_i, px, pm, s_wi, s_need, bI_0, not_false_eq_true, not_true_eq_false, and_self]
    exact ⟨_, _, _, rfl, rfl, hR⟩
  obtain ⟨u, hu, rfl⟩ : ∃ k : Nat, k < 6 ∧ s = (k : Int) := ⟨s.toNat, by omega, by omega⟩
  obtain ⟨p, hp, rfl⟩ : ∃ k : Nat, k < n ∧ v = (k : Int) := ⟨v.toNat, by omega, by omega⟩
  obtain ⟨N, hN, rfl⟩ : ∃ k : Nat, k ≤ 99 ∧ q = (k : Int) := ⟨q.toNat, by omega, by omega⟩
  rcases lay4 hP hK.1 hS hu with ⟨b, hb, l1, l2⟩ | ⟨k, w, sd, S, y, m2, l1, l2, l3, h1, h2, hY, hM, hC, hC2, hO⟩
  · have hb2 : ¬ 0 ≤ b := by omega
    simp +decide (maxSteps := 2000000) (disch := omega) only [↓gl_p, ↓bs_p, iI_lit, iI_neg, iI_add, iI_sub, iI_mul, gk_p, bs_p, bz0, bz1, pI_row, pI_snd, pA_row, pA_snd, pL_fst, pL_row, pB_fst, pB_row, upd_at, ↓reduceIte, Int.reduceToNat, Nat.reduceEqDiff, iI_lt, iI_le, iI_eq, iI_inb, iI_nat, iI_nz, c1, c2, c4, s_shX, s_shM, lL_i, px, pm, s_wi, s_need, bI_0, not_true_eq_false, and_self, l1, l2, hb2]
    exact ⟨_, _, _, rfl, rfl, hR⟩
  · have hw : ∀ p q, okP n p → okP n q → w p q ≤ 270 := fun p q hp hq => (hY.2.2.2.2 p q hp hq).1
    obtain ⟨m3, w1, w2, hB⟩ := s_both hn hw hY.2.1 hO hM hp
    have su := fun (v : Nat) (hv : v < 600) (q : Int) => s_succ hB (v := v) (N := N) (by omega) q
    obtain ⟨y2, f1, f2, f3⟩ := s_mark hY hC hC2 hp (N := N) (by omega) (by omega)
    have hR2 := Rel1_sc hR (Ch_tr h1 (sc_mf f2)) (Ch_tr (sc_rd h2) (sc_bo w2))
    obtain ⟨cf, hcf⟩ : ∃ cf : Nat → Bool, ∀ t, frb (dn w sd S k p) (wdo sd) t N = cf t := ⟨_, fun _ => rfl⟩
    obtain ⟨cb, hcb⟩ : ∃ cb : Nat → Bool, ∀ t, frb (dn w sd (rvS S k) k p) (wdo sd) t N = cb t := ⟨_, fun _ => rfl⟩
    have su2 : ∀ (q : Int) (v : Nat), v < 600 → f_X10_succeeds m3 (iI v) (iI q) (iI N) = some (iI (tw4 (cf v) (cb v) q)) := fun q v hv => by
      rw [su v hv q, hcf, hcb]
    have f4 : ∀ t, t < 600 → y2.1 44 t = iI (b4 (cf t) (cb t)) := fun t ht => by
      rw [f3 t ht, hcf, hcb]
    have k54 := w_mx54 f4 600 0 999999 (by omega) (by omega)
    have hm : ∀ p : Nat, p ≤ 12 → ∃ q, f_X10_bestMinute m3 (iI p) (iI N) = some q ∧ f_X10_succeeds m3 q (iI p) (iI N) = some (iI ((fun p : Int => tw4 (cf (amx (fun t => tw4 (cf t) (cb t) p) 600)) (cb (amx (fun t => tw4 (cf t) (cb t) p) 600)) p) p)) := fun p hp => by
      refine ⟨_, s_bmM (g := fun t => tw4 (cf t) (cb t) p) (su2 p) (fun v => tw4_rg (by omega) (by omega) _ _), ?_⟩
      have hl := amx_lt (g := fun t => tw4 (cf t) (cb t) p) 600
      exact su2 p _ (by omega)
    have hr : ∀ p : Int, 0 ≤ p → p ≤ 12 → 0 ≤ (fun p : Int => tw4 (cf (amx (fun t => tw4 (cf t) (cb t) p) 600)) (cb (amx (fun t => tw4 (cf t) (cb t) p) 600)) p) p ∧ (fun p : Int => tw4 (cf (amx (fun t => tw4 (cf t) (cb t) p) 600)) (cb (amx (fun t => tw4 (cf t) (cb t) p) 600)) p) p ≤ 12 := fun p q1 q2 => tw4_rg q1 q2 _ _
    have hG : ∀ p : Int, 0 ≤ p → p ≤ 12 → gt4 (pr cf cb false false 600) (pr cf cb true false 600) (pr cf cb false true 600) (pr cf cb true true 600) p = (fun p : Int => tw4 (cf (amx (fun t => tw4 (cf t) (cb t) p) 600)) (cb (amx (fun t => tw4 (cf t) (cb t) p) 600)) p) p := fun p q1 q2 => gt_amx q1 q2
    generalize (fun p : Int => tw4 (cf (amx (fun t => tw4 (cf t) (cb t) p) 600)) (cb (amx (fun t => tw4 (cf t) (cb t) p) 600)) p) = G at hm hr hG
    have g0 := s_gtw y2 (pr cf cb false false 600) (pr cf cb true false 600) (pr cf cb false true 600) (pr cf cb true true 600) (p := 0) (by omega) (by omega)
    rw [hG 0 (by omega) (by omega)] at g0
    have r0 := hr 0 (by omega) (by omega)
    obtain ⟨Q, k1, k2⟩ := w_mix (y := y2) hG hr hm 12 1 999999 999998 0 (G 0) (by omega) (by omega) (by omega) r0.1 r0.2
    obtain ⟨q0, b1, b2⟩ := hm 0 (by omega)
    have b1' : f_X10_bestMinute m3 (iI 0) (iI N) = some q0 := b1
    have b2' : f_X10_succeeds m3 q0 (iI 0) (iI N) = some (iI (G 0)) := b2
    have c5 : G 0 < 99 := by omega
    have em0 : met cf cb 0 = iI 0 := by
      show mt false false false false = iI 0
      decide
    rw [em0] at k54
    have g0' : f_X9_greatestTwelfths y2 (met cf cb 600) (iI 0) = some (iI (G 0)) := by
      unfold met
      exact g0
    rw [g0'] at k54
    have e6 : met cf cb 600 = mt (pr cf cb false false 600) (pr cf cb true false 600) (pr cf cb false true 600) (pr cf cb true true 600) := by
      unfold met
      rfl
    rw [e6] at k54
    simp +decide (maxSteps := 2000000) (disch := omega) only [↓gl_p, ↓bs_p, iI_lit, iI_neg, iI_add, iI_sub, iI_mul, gk_p, bs_p, bz0, bz1, pI_row, pI_snd, pA_row, pA_snd, pL_fst, pL_row, pB_fst, pB_row, upd_at, ↓reduceIte, Int.reduceToNat, Nat.reduceEqDiff, iI_lt, iI_le, iI_eq, iI_inb, iI_nat, iI_nz, c1, c2, c4, s_shX, s_shM, lL_i, px, pm, s_wi, s_need, bI_0, not_true_eq_false, and_self, l1, l2, l3, w1, f1]
    rw [show f_X9_mix_54 gN (iI 0) (iI 0) y2 = _ from k54, gN_s, f_X10_mix_64]
    simp +decide (maxSteps := 2000000) (disch := omega) only [↓gl_p, ↓bs_p, iI_lit, iI_neg, iI_add, iI_sub, iI_mul, gk_p, bs_p, bz0, bz1, pI_row, pI_snd, pA_row, pA_snd, pL_fst, pL_row, pB_fst, pB_row, upd_at, ↓reduceIte, Int.reduceToNat, Nat.reduceEqDiff, iI_lt, iI_le, iI_eq, iI_inb, iI_nat, iI_nz, b1', b2', c5]
    exact ⟨_, _, _, k1, k2, hR2⟩
