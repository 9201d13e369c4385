theorem Tm_bd2 {n k sd : Nat} {w : Nat → Nat → Nat} {S : Nat → Nat} (hw : ∀ p q, okP n p → okP n q → w p q ≤ 270) (hd : sd ≤ 9) (hk : k ≤ 20) (hS : ∀ i, i < k → S i < n) {i : Nat} (hi : i < 2 * k) : Tm w sd S k i ≤ 12000 := by
  by_cases c : i < k
  · have g := Tm_bd hw hd hk hS c
    omega
  · have g := Tm_bd hw hd hk hS (show i - k < k by omega)
    have g2 := perd_bd hw hd hS hk
    have g3 := Tm_k (w := w) (sd := sd) (S := S) (k := k) (by omega) (i - k)
    rw [show k + (i - k) = i by omega] at g3
    omega
theorem w_lg21 {x : gS} {n k sd : Nat} {w : Nat → Nat → Nat} {S : Nat → Nat} (hn : n ≤ 9) (hw : ∀ p q, okP n p → okP n q → w p q ≤ 270) (hd : sd ≤ 9) (hC : CO 26 n k w sd S x) {p : Nat} (hp : p < n) {F : Int} (f1 : 0 ≤ F) (f2 : F ≤ 12000) : ∀ (r i f : Nat), i + r = 2 * k → r ≤ f → f_X1_longestGapOf_21 x 26 (f + 1) (iI p) (iI (gaL S (Tm w sd S k) k p F i)) (iI (gaA S (Tm w sd S k) k p i)) (iI i) = some (iI (gaL S (Tm w sd S k) k p F (2 * k))) := by
  have hk := hC.1
  have hS := hC.2.1
  have e4 := hC.2.2.1
  have hT : ∀ i, i < 2 * k → Tm w sd S k i ≤ 12000 := fun i hi => Tm_bd2 hw hd hk hS hi
  intro r
  induction r with
  | zero =>
    intro i f hi hf
    have g : 2 * (k : Int) ≤ (i : Int) := by omega
    rw [f_X1_longestGapOf_21, show i = 2 * k by omega]
    have g : 2 * (k : Int) ≤ ((2 * k : Nat) : Int) := by omega
    simp +decide (maxSteps := 2000000) (disch := omega) only [↓gl_p, ↓bs_p, iI_lit, iI_neg, iI_add, iI_sub, iI_mul, gk_p, bs_p, bz0, bz1, pI_row, pI_snd, pA_row, pA_snd, pL_fst, pL_row, pB_fst, pB_row, upd_at, ↓reduceIte, Int.reduceToNat, Nat.reduceEqDiff, iI_lt, iI_le, iI_eq, iI_inb, iI_nat, iI_nz, e4, g]
  | succ r ih =>
    intro i f hi hf
    obtain ⟨f, rfl⟩ : ∃ q, f = q + 1 := ⟨f - 1, by omega⟩
    have g : ¬ 2 * (k : Int) ≤ (i : Int) := by omega
    have st := s_stop_26 hC (by omega) (i := i) (by omega)
    have mi := s_minu_26 hC (by omega) (i := i) (by omega)
    have hSi := hS (i % k) (Nat.mod_lt _ (by omega))
    have k2 := ih (i + 1) f (by omega) (by omega)
    have ga := gaA_rg (S := S) (k := k) (p := p) hT i (by omega)
    have gl := gaL_rg (S := S) (k := k) (p := p) hT f1 f2 i (by omega)
    have hTi := hT i (by omega)
    rw [f_X1_longestGapOf_21]
    unfold f_X1_longestGapOf_64
    by_cases c : S (i % k) = p
    · have c2 := eq_true (show ((S (i % k) : Nat) : Int) = p by omega)
      by_cases c3 : gaA S (Tm w sd S k) k p i = -2
      · rw [gaL_y0 c c3, gaA_y c] at k2
        simp +decide (maxSteps := 2000000) (disch := omega) only [↓gl_p, ↓bs_p, iI_lit, iI_neg, iI_add, iI_sub, iI_mul, gk_p, bs_p, bz0, bz1, pI_row, pI_snd, pA_row, pA_snd, pL_fst, pL_row, pB_fst, pB_row, upd_at, ↓reduceIte, Int.reduceToNat, Nat.reduceEqDiff, iI_lt, iI_le, iI_eq, iI_inb, iI_nat, iI_nz, e4, g, st, mi, c2, eq_true c3]
        exact k2
      · rw [gaL_y1 c c3, gaA_y c] at k2
        simp +decide (maxSteps := 2000000) (disch := omega) only [↓gl_p, ↓bs_p, iI_lit, iI_neg, iI_add, iI_sub, iI_mul, gk_p, bs_p, bz0, bz1, pI_row, pI_snd, pA_row, pA_snd, pL_fst, pL_row, pB_fst, pB_row, upd_at, ↓reduceIte, Int.reduceToNat, Nat.reduceEqDiff, iI_lt, iI_le, iI_eq, iI_inb, iI_nat, iI_nz, e4, g, st, mi, c2, c3, jmax_i]
        exact k2
    · have c2 : ¬ ((S (i % k) : Nat) : Int) = p := by omega
      rw [gaL_n c, gaA_n c] at k2
      simp +decide (maxSteps := 2000000) (disch := omega) only [↓gl_p, ↓bs_p, iI_lit, iI_neg, iI_add, iI_sub, iI_mul, gk_p, bs_p, bz0, bz1, pI_row, pI_snd, pA_row, pA_snd, pL_fst, pL_row, pB_fst, pB_row, upd_at, ↓reduceIte, Int.reduceToNat, Nat.reduceEqDiff, iI_lt, iI_le, iI_eq, iI_inb, iI_nat, iI_nz, e4, g, st, c2]
      exact k2
/-- the gap of a post, as both tell it -/
def gpo (w : Nat → Nat → Nat) (sd : Nat) (S : Nat → Nat) (k p : Nat) : Int := if fio S p k 0 < k then gaL S (Tm w sd S k) k p (fmin w sd S k p) (2 * k) else -2
theorem s_lgo {x : gS} {n k sd : Nat} {w : Nat → Nat → Nat} {S : Nat → Nat} (hn : n ≤ 9) (hw : ∀ p q, okP n p → okP n q → w p q ≤ 270) (hd : sd ≤ 9) (hC : CO 26 n k w sd S x) {p : Nat} (hp : p < n) : f_X1_longestGapOf x 26 (iI p) = some (iI (gpo w sd S k p)) := by
  have fm := s_fmo hn hC hp
  unfold f_X1_longestGapOf gpo
  by_cases c : fio S p k 0 < k
  · have ef : fmin w sd S k p = ((Tm w sd S k (fio S p k 0) : Nat) : Int) := if_pos c
    have bf := Tm_bd hw hd hC.1 hC.2.1 c
    have c2 : ¬ fmin w sd S k p = -2 := by omega
    have k2 := w_lg21 hn hw hd hC hp (F := fmin w sd S k p) (by omega) (by omega) (2 * k) 0 999999 (by omega) (by have := hC.1; omega)
    rw [if_pos c]
    simp +decide (maxSteps := 2000000) (disch := omega) only [↓gl_p, ↓bs_p, iI_lit, iI_neg, iI_add, iI_sub, iI_mul, gk_p, bs_p, bz0, bz1, pI_row, pI_snd, pA_row, pA_snd, pL_fst, pL_row, pB_fst, pB_row, upd_at, ↓reduceIte, Int.reduceToNat, Nat.reduceEqDiff, iI_lt, iI_le, iI_eq, iI_inb, iI_nat, iI_nz, fm, c2]
    exact k2
  · have ef : fmin w sd S k p = -2 := if_neg c
    rw [if_neg c]
    rw [ef] at fm
    simp +decide (maxSteps := 2000000) (disch := omega) only [↓gl_p, ↓bs_p, iI_lit, iI_neg, iI_add, iI_sub, iI_mul, gk_p, bs_p, bz0, bz1, pI_row, pI_snd, pA_row, pA_snd, pL_fst, pL_row, pB_fst, pB_row, upd_at, ↓reduceIte, Int.reduceToNat, Nat.reduceEqDiff, iI_lt, iI_le, iI_eq, iI_inb, iI_nat, iI_nz, fm]
theorem gpo_rg {n k sd : Nat} {w : Nat → Nat → Nat} {S : Nat → Nat} (hw : ∀ p q, okP n p → okP n q → w p q ≤ 270) (hd : sd ≤ 9) (hk : k ≤ 20) (hS : ∀ i, i < k → S i < n) (p : Nat) : -2 ≤ gpo w sd S k p ∧ gpo w sd S k p ≤ 12000 := by
  unfold gpo
  by_cases c : fio S p k 0 < k
  · have ef : fmin w sd S k p = ((Tm w sd S k (fio S p k 0) : Nat) : Int) := if_pos c
    have bf := Tm_bd hw hd hk hS c
    have g := gaL_rg (S := S) (T := Tm w sd S k) (k := k) (p := p) (N := 2 * k) (B := 12000) (F := fmin w sd S k p) (fun i hi => Tm_bd2 hw hd hk hS hi) (by omega) (by omega) (2 * k) (Nat.le_refl _)
    rw [if_pos c]
    omega
  · rw [if_neg c]
    omega
theorem w_gp41 {m : gS} {n k sd : Nat} {w : Nat → Nat → Nat} {S : Nat → Nat} (hn : n ≤ 9) (hw : ∀ p q, okP n p → okP n q → w p q ≤ 270) (hd : sd ≤ 9) (hO : RO n k S m) (hM : YM n w sd m) {p : Nat} (hp : p < n) : ∀ (r i f : Nat) (ga fi ah : Int), i + r = k → r ≤ f → (i ≤ fio S p k 0 → ga = -2 ∧ fi = -1 ∧ ah = -1) → (fio S p k 0 < i → ga = gaL S (Tm w sd S k) k p (fmin w sd S k p) i ∧ fi = fmin w sd S k p ∧ ah = gaA S (Tm w sd S k) k p i) → f_X10_gapOf_41 m (f + 1) (iI p) (iI (perd w sd S k : Nat)) (iI ga) (iI fi) (iI ah) (iI (if i < k then ((Tm w sd S k i : Nat) : Int) else ((w 9 (S 0) + perd w sd S k : Nat) : Int))) (iI i) = some (iI (gpo w sd S k p)) := by
  obtain ⟨hk, hS, e44, eS⟩ := hO
  obtain ⟨b1, b2, b3, b4⟩ := fio_sp (S := S) (p := p) k 0
  have hT : ∀ i, i < k → Tm w sd S k i ≤ 6000 := fun i hi => Tm_bd hw hd hk hS hi
  have bp := perd_bd hw hd hS hk
  intro r
  induction r with
  | zero =>
    intro i f ga fi ah hi hf hA hB
    have g : (k : Int) ≤ (i : Int) := by omega
    rw [f_X10_gapOf_41]
    by_cases c : fio S p k 0 < k
    · obtain ⟨rfl, rfl, rfl⟩ := hB (by omega)
      have ef : fmin w sd S k p = ((Tm w sd S k (fio S p k 0) : Nat) : Int) := if_pos c
      have bf := hT _ c
      have e : i = k := by omega
      subst e
      have g2 := gaL_rg (S := S) (T := Tm w sd S i) (k := i) (p := p) (N := i) (B := 6000) (F := fmin w sd S i p) hT (by omega) (by omega) i (Nat.le_refl _)
      have g3 := gaA_post (T := Tm w sd S i) c (b4 (by omega)) (i - (fio S p i 0 + 1)) (by omega)
      rw [show fio S p i 0 + 1 + (i - (fio S p i 0 + 1)) = i by omega] at g3
      have g4 := gaA_rg (S := S) (T := Tm w sd S i) (k := i) (p := p) (N := i) (B := 6000) hT i (Nat.le_refl _)
      have g5 := (gaL_two (T := Tm w sd S i) (F := fmin w sd S i p) (P := perd w sd S i) c (fun j hj => b3 j (by omega) hj) (b4 (by omega)) ef (fun j => Tm_k (by omega) j) i (Nat.le_refl _)).2 c
      have c3 : ¬ gaL S (Tm w sd S i) i p (fmin w sd S i p) i = -2 := by omega
      have eg : gpo w sd S i p = if gaL S (Tm w sd S i) i p (fmin w sd S i p) i < (perd w sd S i : Int) + fmin w sd S i p - gaA S (Tm w sd S i) i p i then (perd w sd S i : Int) + fmin w sd S i p - gaA S (Tm w sd S i) i p i else gaL S (Tm w sd S i) i p (fmin w sd S i p) i := by
        unfold gpo
        rw [if_pos c, show 2 * i = i + i by omega]
        exact g5.1
      rw [eg]
      by_cases c4 : perd w sd S i = 0
      · have c5 := eq_true (show ((perd w sd S i : Nat) : Int) = 0 by omega)
        have g6 : ∀ j, j < i → Tm w sd S i j = w 9 (S 0) := fun j hj => by
          have q1 := offs_per (w := w) (sd := sd) (S := S) (show 0 < i by omega) hj
          rw [Tm_lt hj]
          omega
        have g7 : ∀ j, j ≤ i → gaA S (Tm w sd S i) i p j = -2 ∨ gaA S (Tm w sd S i) i p j = (w 9 (S 0) : Nat) := by
          intro j
          induction j with
          | zero => exact fun _ => Or.inl rfl
          | succ j ihj =>
            intro hj
            by_cases cj : S (j % i) = p
            · rw [gaA_y cj, g6 j (by omega)]
              exact Or.inr rfl
            · rw [gaA_n cj]
              exact ihj (by omega)
        have g8 := g7 i (Nat.le_refl _)
        have g9 := g6 _ c
        simp +decide (maxSteps := 2000000) (disch := omega) only [↓gl_p, ↓bs_p, iI_lit, iI_neg, iI_add, iI_sub, iI_mul, gk_p, bs_p, bz0, bz1, pI_row, pI_snd, pA_row, pA_snd, pL_fst, pL_row, pB_fst, pB_row, upd_at, ↓reduceIte, Int.reduceToNat, Nat.reduceEqDiff, iI_lt, iI_le, iI_eq, iI_inb, iI_nat, iI_nz, e44, g, c3, c5]
        rw [if_neg (by omega)]
      · have c5 : ¬ ((perd w sd S i : Nat) : Int) = 0 := by omega
        simp +decide (maxSteps := 2000000) (disch := omega) only [↓gl_p, ↓bs_p, iI_lit, iI_neg, iI_add, iI_sub, iI_mul, gk_p, bs_p, bz0, bz1, pI_row, pI_snd, pA_row, pA_snd, pL_fst, pL_row, pB_fst, pB_row, upd_at, ↓reduceIte, Int.reduceToNat, Nat.reduceEqDiff, iI_lt, iI_le, iI_eq, iI_inb, iI_nat, iI_nz, e44, g, c3, c5, jmax_i]
        congr 2
        split <;> split <;> omega
    · obtain ⟨rfl, rfl, rfl⟩ := hA (by omega)
      have eg : gpo w sd S k p = -2 := if_neg c
      rw [eg]
      simp +decide (maxSteps := 2000000) (disch := omega) only [↓gl_p, ↓bs_p, iI_lit, iI_neg, iI_add, iI_sub, iI_mul, gk_p, bs_p, bz0, bz1, pI_row, pI_snd, pA_row, pA_snd, pL_fst, pL_row, pB_fst, pB_row, upd_at, ↓reduceIte, Int.reduceToNat, Nat.reduceEqDiff, iI_lt, iI_le, iI_eq, iI_inb, iI_nat, iI_nz, e44, g]
  | succ r ih =>
    intro i f ga fi ah hi hf hA hB
    obtain ⟨f, rfl⟩ : ∃ q, f = q + 1 := ⟨f - 1, by omega⟩
    have g : ¬ (k : Int) ≤ (i : Int) := by omega
    have hk0 : 0 < k := by omega
    have hm : (i + 1) % k < k := Nat.mod_lt _ hk0
    have ei : i % k = i := Nat.mod_eq_of_lt (by omega)
    have er : iI ((i : Int) + 1) - iI ((i : Int) + 1) / iI k * iI k = iI (((i + 1) % k : Nat) : Int) := by
      rw [show (i : Int) + 1 = ((i + 1 : Nat) : Int) from rfl, iI_rem (by omega) hk0 (by omega)]
    have q1 := eS i (by omega)
    have q2 := eS ((i + 1) % k) hm
    have wm := YM_m hn hM (hS i (by omega)) (hS ((i + 1) % k) hm)
    have hSi := hS i (by omega)
    have s53 := hM.2.1
    have hTi := hT i (by omega)
    rw [if_pos (by omega)]
    have et : ((Tm w sd S k i : Nat) : Int) + ((sd : Int) + (w (S i) (S ((i + 1) % k)) : Nat)) = if i + 1 < k then ((Tm w sd S k (i + 1) : Nat) : Int) else ((w 9 (S 0) + perd w sd S k : Nat) : Int) := by
      have e1 := Tm_s (w := w) (sd := sd) (S := S) hk0 i
      rw [ei] at e1
      by_cases c : i + 1 < k
      · rw [if_pos c]
        omega
      · have e2 := Tm_k (w := w) (sd := sd) (S := S) hk0 0
        rw [Tm_0 hk0, show k + 0 = i + 1 by omega] at e2
        rw [if_neg c]
        omega
    have step : ∀ ga2 fi2 ah2 : Int, (i + 1 ≤ fio S p k 0 → ga2 = -2 ∧ fi2 = -1 ∧ ah2 = -1) → (fio S p k 0 < i + 1 → ga2 = gaL S (Tm w sd S k) k p (fmin w sd S k p) (i + 1) ∧ fi2 = fmin w sd S k p ∧ ah2 = gaA S (Tm w sd S k) k p (i + 1)) → f_X10_gapOf_102 m (f_X10_gapOf_41 m (f + 1)) (iI p) (iI (perd w sd S k : Nat)) (iI ga2) (iI fi2) (iI ah2) (iI (Tm w sd S k i : Nat)) (iI i) = some (iI (gpo w sd S k p)) := by
      intro ga2 fi2 ah2 hA2 hB2
      have k2 := ih (i + 1) f ga2 fi2 ah2 (by omega) (by omega) hA2 hB2
      rw [← et] at k2
      unfold f_X10_gapOf_102
      simp +decide (maxSteps := 2000000) (disch := omega) only [↓gl_p, ↓bs_p, iI_lit, iI_neg, iI_add, iI_sub, iI_mul, gk_p, bs_p, bz0, bz1, pI_row, pI_snd, pA_row, pA_snd, pL_fst, pL_row, pB_fst, pB_row, upd_at, ↓reduceIte, Int.reduceToNat, Nat.reduceEqDiff, iI_lt, iI_le, iI_eq, iI_inb, iI_nat, iI_nz, e44, er, q1, q2, wm, s53, Int.toNat_natCast]
      exact k2
    rw [f_X10_gapOf_41]
    unfold f_X10_gapOf_85 f_X10_gapOf_98
    by_cases c : S i = p
    · have c2 := eq_true (show ((S i : Nat) : Int) = p by omega)
      have cm : S (i % k) = p := by
        rw [ei]
        exact c
      have hlt : fio S p k 0 ≤ i := by
        by_cases q : i < fio S p k 0
        · exact absurd c (b3 i (by omega) q)
        · omega
      by_cases c3 : i = fio S p k 0
      · obtain ⟨rfl, rfl, rfl⟩ := hA (by omega)
        have ef : fmin w sd S k p = ((Tm w sd S k i : Nat) : Int) := by
          unfold fmin
          rw [if_pos (by omega), ← c3]
        have pre := gaA_pre (T := Tm w sd S k) (F := fmin w sd S k p) (show i ≤ k by omega) (fun j hj => b3 j (by omega) (by omega)) i (Nat.le_refl _)
        have s1 := step ((Tm w sd S k i : Nat) : Int) ((Tm w sd S k i : Nat) : Int) ((Tm w sd S k i : Nat) : Int) (fun h => absurd h (by omega)) (fun _ => ⟨by rw [gaL_y0 cm pre.1, pre.2, ef], ef.symm, by rw [gaA_y cm]⟩)
        have ej : jmax (iI (-2)) (iI (Tm w sd S k i : Nat)) = iI (Tm w sd S k i : Nat) := by
          rw [jmax_i (by omega) (by omega) (by omega) (by omega), if_pos (by omega)]
        simp +decide (maxSteps := 2000000) (disch := omega) only [↓gl_p, ↓bs_p, iI_lit, iI_neg, iI_add, iI_sub, iI_mul, gk_p, bs_p, bz0, bz1, pI_row, pI_snd, pA_row, pA_snd, pL_fst, pL_row, pB_fst, pB_row, upd_at, ↓reduceIte, Int.reduceToNat, Nat.reduceEqDiff, iI_lt, iI_le, iI_eq, iI_inb, iI_nat, iI_nz, e44, g, q1, c2, ej, Int.toNat_natCast]
        exact s1
      · obtain ⟨rfl, rfl, rfl⟩ := hB (by omega)
        have ef : fmin w sd S k p = ((Tm w sd S k (fio S p k 0) : Nat) : Int) := if_pos (by omega)
        have bf := hT _ (show fio S p k 0 < k by omega)
        have g2 := gaL_rg (S := S) (T := Tm w sd S k) (k := k) (p := p) (N := k) (B := 6000) (F := fmin w sd S k p) hT (by omega) (by omega) i (by omega)
        have g3 := gaA_post (T := Tm w sd S k) (show fio S p k 0 < k by omega) (b4 (by omega)) (i - (fio S p k 0 + 1)) (by omega)
        rw [show fio S p k 0 + 1 + (i - (fio S p k 0 + 1)) = i by omega] at g3
        have g4 := gaA_rg (S := S) (T := Tm w sd S k) (k := k) (p := p) (N := k) (B := 6000) hT i (by omega)
        have c4 : ¬ gaA S (Tm w sd S k) k p i = -2 := by omega
        have c6 : 0 ≤ fmin w sd S k p := by omega
        have s1 := step (gaL S (Tm w sd S k) k p (fmin w sd S k p) (i + 1)) (fmin w sd S k p) ((Tm w sd S k i : Nat) : Int) (fun h => absurd h (by omega)) (fun _ => ⟨rfl, rfl, by rw [gaA_y cm]⟩)
        by_cases c7 : perd w sd S k = 0
        · have c8 := eq_true (show ((perd w sd S k : Nat) : Int) = 0 by omega)
          have g6 : ∀ j, j < k → Tm w sd S k j = w 9 (S 0) := fun j hj => by
            have q1 := offs_per (w := w) (sd := sd) (S := S) (show 0 < k by omega) hj
            rw [Tm_lt hj]
            omega
          have g7 : ∀ j, j ≤ k → gaA S (Tm w sd S k) k p j = -2 ∨ gaA S (Tm w sd S k) k p j = (w 9 (S 0) : Nat) := by
            intro j
            induction j with
            | zero => exact fun _ => Or.inl rfl
            | succ j ihj =>
              intro hj
              by_cases cj : S (j % k) = p
              · rw [gaA_y cj, g6 j (by omega)]
                exact Or.inr rfl
              · rw [gaA_n cj]
                exact ihj (by omega)
          have g8 := g7 i (by omega)
          have g9 := g6 i (by omega)
          have e9 : gaL S (Tm w sd S k) k p (fmin w sd S k p) (i + 1) = gaL S (Tm w sd S k) k p (fmin w sd S k p) i := by
            rw [gaL_y1 cm c4, if_neg (by omega)]
          rw [e9] at s1
          have ej : jmax (iI (gaL S (Tm w sd S k) k p (fmin w sd S k p) i)) (iI 0) = iI (gaL S (Tm w sd S k) k p (fmin w sd S k p) i) := by
            rw [jmax_i (by omega) (by omega) (by omega) (by omega), if_neg (by omega)]
          simp +decide (maxSteps := 2000000) (disch := omega) only [↓gl_p, ↓bs_p, iI_lit, iI_neg, iI_add, iI_sub, iI_mul, gk_p, bs_p, bz0, bz1, pI_row, pI_snd, pA_row, pA_snd, pL_fst, pL_row, pB_fst, pB_row, upd_at, ↓reduceIte, Int.reduceToNat, Nat.reduceEqDiff, iI_lt, iI_le, iI_eq, iI_inb, iI_nat, iI_nz, e44, g, q1, c2, g3, c6, c8, ej, Int.toNat_natCast]
          exact s1
        · have c8 : ¬ ((perd w sd S k : Nat) : Int) = 0 := by omega
          rw [gaL_y1 cm c4] at s1
          simp +decide (maxSteps := 2000000) (disch := omega) only [↓gl_p, ↓bs_p, iI_lit, iI_neg, iI_add, iI_sub, iI_mul, gk_p, bs_p, bz0, bz1, pI_row, pI_snd, pA_row, pA_snd, pL_fst, pL_row, pB_fst, pB_row, upd_at, ↓reduceIte, Int.reduceToNat, Nat.reduceEqDiff, iI_lt, iI_le, iI_eq, iI_inb, iI_nat, iI_nz, e44, g, q1, c2, g3, c6, c8, jmax_i, Int.toNat_natCast]
          exact s1
    · have c2 : ¬ ((S i : Nat) : Int) = p := by omega
      have cm : ¬ S (i % k) = p := by
        rw [ei]
        exact c
      have c3 : i ≠ fio S p k 0 := by
        intro e
        exact c (by rw [e]; exact b4 (by omega))
      have s1 := step ga fi ah (fun h => hA (by omega)) (fun h => by
        rw [gaL_n cm, gaA_n cm]
        exact hB (by omega))
      simp +decide (maxSteps := 2000000) (disch := omega) only [↓gl_p, ↓bs_p, iI_lit, iI_neg, iI_add, iI_sub, iI_mul, gk_p, bs_p, bz0, bz1, pI_row, pI_snd, pA_row, pA_snd, pL_fst, pL_row, pB_fst, pB_row, upd_at, ↓reduceIte, Int.reduceToNat, Nat.reduceEqDiff, iI_lt, iI_le, iI_eq, iI_inb, iI_nat, iI_nz, e44, g, q1, c2, Int.toNat_natCast]
      exact s1
theorem s_gpo {m : gS} {n k sd : Nat} {w : Nat → Nat → Nat} {S : Nat → Nat} (hn : n ≤ 9) (hw : ∀ p q, okP n p → okP n q → w p q ≤ 270) (hd : sd ≤ 9) (hO : RO n k S m) (hM : YM n w sd m) {p : Nat} (hp : p < n) : f_X10_gapOf m (iI p) = some (iI (gpo w sd S k p)) := by
  have o1 := s_one hn hO hM
  have hk20 := hO.1
  have k2 := w_gp41 hn hw hd hO hM hp k 0 999999 (-2) (-1) (-1) (by omega) (by have := hO.1; omega) (fun _ => ⟨rfl, rfl, rfl⟩) (fun h => absurd h (by omega))
  unfold f_X10_gapOf
  by_cases c : k = 0
  · have c2 := eq_true (show (k : Int) = 0 by omega)
    have eg : gpo w sd S k p = -2 := if_neg (by rw [c]; exact Nat.not_lt_zero _)
    have g : (k : Int) ≤ 0 := by omega
    rw [eg]
    simp +decide (maxSteps := 2000000) (disch := omega) only [↓gl_p, ↓bs_p, iI_lit, iI_neg, iI_add, iI_sub, iI_mul, gk_p, bs_p, bz0, bz1, pI_row, pI_snd, pA_row, pA_snd, pL_fst, pL_row, pB_fst, pB_row, upd_at, ↓reduceIte, Int.reduceToNat, Nat.reduceEqDiff, iI_lt, iI_le, iI_eq, iI_inb, iI_nat, iI_nz, o1, hO.2.2.1, c2]
    rw [gN_s, f_X10_gapOf_41]
    simp +decide (maxSteps := 2000000) (disch := omega) only [↓gl_p, ↓bs_p, iI_lit, iI_neg, iI_add, iI_sub, iI_mul, gk_p, bs_p, bz0, bz1, pI_row, pI_snd, pA_row, pA_snd, pL_fst, pL_row, pB_fst, pB_row, upd_at, ↓reduceIte, Int.reduceToNat, Nat.reduceEqDiff, iI_lt, iI_le, iI_eq, iI_inb, iI_nat, iI_nz, hO.2.2.1, g]
  · have c2 : ¬ (k : Int) = 0 := by omega
    have wm := YM_g hn hM (hO.2.1 0 (by omega))
    have q1 := hO.2.2.2 0 (by omega)
    rw [if_pos (by omega), Tm_0 (by omega)] at k2
    simp +decide (maxSteps := 2000000) (disch := omega) only [↓gl_p, ↓bs_p, iI_lit, iI_neg, iI_add, iI_sub, iI_mul, gk_p, bs_p, bz0, bz1, pI_row, pI_snd, pA_row, pA_snd, pL_fst, pL_row, pB_fst, pB_row, upd_at, ↓reduceIte, Int.reduceToNat, Nat.reduceEqDiff, iI_lt, iI_le, iI_eq, iI_inb, iI_nat, iI_nz, o1, hO.2.2.1, c2, wm, q1]
    exact k2
theorem e_gap (L : LawT) : EQ_gap (Rel1 L) := by
  intro x m a1 a2 hR
  obtain ⟨s, rfl, hs1, hs2⟩ := iI_of a1
  obtain ⟨v, rfl, hv1, hv2⟩ := iI_of a2
  obtain ⟨⟨n, nb, hP, hC, hT, hD, hI, hK, hS⟩, hL⟩ := id hR
  have hn := hP.1
  have px := s_poX (σ := x) hn hP.2.1 hv1 hv2
  have pm := s_poM (σ := m) hn hP.2.2.1 hv1 hv2
  unfold f_X9_gap f_X10_gap
  by_cases c1 : 0 ≤ s ∧ s ≤ 5
  rotate_left
  · simp +decide (maxSteps := 2000000) (disch := omega) only [↓gl_p, ↓bs_p, iI_lit, iI_neg, iI_add, iI_sub, iI_mul, gk_p, bs_p, bz0, bz1, pI_row, pI_snd, pA_row, pA_snd, pL_fst, pL_row, pB_fst, pB_row, upd_at, ↓reduceIte, Int.reduceToNat, Nat.reduceEqDiff, iI_lt, iI_le, iI_eq, iI_inb, iI_nat, iI_nz, c1, s_shX, s_shM, bI_0, not_false_eq_true]
    exact ⟨_, _, _, rfl, rfl, hR⟩
  by_cases c2 : 0 ≤ v ∧ v < n
  rotate_left
  · simp +decide (maxSteps := 2000000) (disch := omega) only [↓gl_p, ↓bs_p, iI_lit, iI_neg, iI_add, iI_sub, iI_mul, gk_p, bs_p, bz0, bz1, pI_row, pI_snd, pA_row, pA_snd, pL_fst, pL_row, pB_fst, pB_row, upd_at, ↓reduceIte, Int.reduceToNat, Nat.reduceEqDiff, iI_lt, iI_le, iI_eq, iI_inb, iI_nat, iI_nz, c1, c2, s_shX, s_shM, lL_i, px, pm, bI_0, not_false_eq_true, not_true_eq_false, and_self]
    exact ⟨_, _, _, rfl, rfl, hR⟩
  obtain ⟨u, hu, rfl⟩ : ∃ k : Nat, k < 6 ∧ s = (k : Int) := ⟨s.toNat, by omega, by omega⟩
  obtain ⟨p, hp, rfl⟩ : ∃ k : Nat, k < n ∧ v = (k : Int) := ⟨v.toNat, by omega, by omega⟩
  rcases lay3 hP hK.1 hS hu with ⟨b, hb, l1, l2⟩ | ⟨k, w, sd, S, y, m2, l1, l2, l3, h1, h2, hY, hM, hC, hO⟩
  · have hb2 : ¬ 0 ≤ b := by omega
    simp +decide (maxSteps := 2000000) (disch := omega) only [↓gl_p, ↓bs_p, iI_lit, iI_neg, iI_add, iI_sub, iI_mul, gk_p, bs_p, bz0, bz1, pI_row, pI_snd, pA_row, pA_snd, pL_fst, pL_row, pB_fst, pB_row, upd_at, ↓reduceIte, Int.reduceToNat, Nat.reduceEqDiff, iI_lt, iI_le, iI_eq, iI_inb, iI_nat, iI_nz, c1, c2, s_shX, s_shM, lL_i, px, pm, bI_0, not_true_eq_false, and_self, l1, l2, hb2]
    exact ⟨_, _, _, rfl, rfl, hR⟩
  · have hw : ∀ p q, okP n p → okP n q → w p q ≤ 270 := fun p q hp hq => (hY.2.2.2.2 p q hp hq).1
    have hR2 := Rel1_sc hR (sc_co (by omega) (by omega) h1) (sc_rd h2)
    have gx := s_lgo hn hw hY.2.1 hC hp
    have gm := s_gpo hn hw hY.2.1 hO hM hp
    simp +decide (maxSteps := 2000000) (disch := omega) only [↓gl_p, ↓bs_p, iI_lit, iI_neg, iI_add, iI_sub, iI_mul, gk_p, bs_p, bz0, bz1, pI_row, pI_snd, pA_row, pA_snd, pL_fst, pL_row, pB_fst, pB_row, upd_at, ↓reduceIte, Int.reduceToNat, Nat.reduceEqDiff, iI_lt, iI_le, iI_eq, iI_inb, iI_nat, iI_nz, c1, c2, s_shX, s_shM, lL_i, px, pm, bI_0, not_true_eq_false, and_self, l1, l2, l3, gx, gm]
    exact ⟨_, _, _, rfl, rfl, hR2⟩
