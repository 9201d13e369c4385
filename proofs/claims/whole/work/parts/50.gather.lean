/-! ===== the minutes in which a post is dented ===== -/
/-- what the row of minutes holds, the dents ahead of J told -/
def NP (S T : Nat → Nat) (k p J z : Nat) (f : Nat → Nat) : Prop :=
  (∀ i, i + 2 < z → f i < f (i + 2)) ∧ (∀ i, i + 1 < z → f i ≤ f (i + 1)) ∧ (∀ i, i < z → ∃ j, j < J ∧ S (j % k) = p ∧ T j = f i) ∧ (∀ j, j < J → S (j % k) = p → ∃ i, i < z ∧ f i = T j) ∧ (∀ a b, a < b → b < J → S (a % k) = p → S (b % k) = p → T a = T b → ∃ i, i + 1 < z ∧ f i = T a ∧ f (i + 1) = T a) ∧ (∀ i, i + 1 < z → f i = f (i + 1) → ∃ a b, a < b ∧ b < J ∧ S (a % k) = p ∧ S (b % k) = p ∧ T a = f i ∧ T b = f i)
section
variable {S T : Nat → Nat} {k p J z : Nat} {f : Nat → Nat}
theorem NP_mono (h : NP S T k p J z f) {i j : Nat} (hij : i ≤ j) (hj : j < z) : f i ≤ f j := by
  induction hij with
  | refl => exact Nat.le_refl _
  | step _ ih => exact Nat.le_trans (ih (by omega)) (h.2.1 _ (by omega))
theorem NP_sz (h : NP S T k p J z f) : ∀ i, 2 * i < z → i ≤ f (2 * i) := by
  intro i
  induction i with
  | zero => exact fun _ => Nat.zero_le _
  | succ i ih =>
    intro hi
    have g1 := ih (by omega)
    have g2 := h.1 (2 * i) (by omega)
    rw [show 2 * (i + 1) = 2 * i + 2 by omega]
    omega
theorem NP_bd (h : NP S T k p J z f) {U : Nat} (hU : ∀ i, i < z → f i ≤ U) : z ≤ 2 * U + 2 := by
  by_cases c : z ≤ 2 * U + 2
  · exact c
  · have g1 := NP_sz h (U + 1) (by omega)
    have g2 := hU (2 * (U + 1)) (by omega)
    omega
theorem NP_0 (f : Nat → Nat) : NP S T k p 0 0 f := ⟨fun i h => absurd h (by omega), fun i h => absurd h (by omega), fun i h => absurd h (by omega), fun i h => absurd h (by omega), fun a b _ h => absurd h (by omega), fun i h => absurd h (by omega)⟩
theorem NP_skip (h : NP S T k p J z f) (hs : S (J % k) ≠ p) : NP S T k p (J + 1) z f := by
  obtain ⟨h1, h2, h3, h4, h5, h6⟩ := h
  refine ⟨h1, h2, fun i hi => ?_, fun j hj hp => ?_, fun a b hab hb ha hb2 e => ?_, fun i hi e => ?_⟩
  · obtain ⟨j, q1, q2⟩ := h3 i hi
    exact ⟨j, by omega, q2⟩
  · by_cases e : j = J
    · subst e
      exact absurd hp hs
    · exact h4 j (by omega) hp
  · by_cases e2 : b = J
    · subst e2
      exact absurd hb2 hs
    · exact h5 a b hab (by omega) ha hb2 e
  · obtain ⟨a, b, q1, q2, q3⟩ := h6 i hi e
    exact ⟨a, b, q1, by omega, q3⟩
theorem NP_top (h : NP S T k p J z f) (hT : ∀ i j, i ≤ j → T i ≤ T j) {i : Nat} (hi : i < z) : f i ≤ T J := by
  obtain ⟨j, q1, -, q3⟩ := h.2.2.1 i hi
  have g := hT j J (by omega)
  omega
theorem NP_third (h : NP S T k p J z f) (hT : ∀ i j, i ≤ j → T i ≤ T j) (hs : S (J % k) = p) (hz : 2 ≤ z) (e : f (z - 2) = T J) : NP S T k p (J + 1) z f := by
  have ht1 := NP_top h hT (show z - 1 < z by omega)
  have hm := NP_mono h (show z - 2 ≤ z - 1 by omega) (by omega)
  obtain ⟨h1, h2, h3, h4, h5, h6⟩ := h
  have e1 : f (z - 1) = T J := by omega
  refine ⟨h1, h2, fun i hi => ?_, fun j hj hp => ?_, fun a b hab hb ha hb2 e => ?_, fun i hi e => ?_⟩
  · obtain ⟨j, q1, q2⟩ := h3 i hi
    exact ⟨j, by omega, q2⟩
  · by_cases e2 : j = J
    · subst e2
      exact ⟨z - 1, by omega, e1⟩
    · exact h4 j (by omega) hp
  · by_cases e2 : b = J
    · subst e2
      refine ⟨z - 2, by omega, by omega, ?_⟩
      rw [show z - 2 + 1 = z - 1 by omega]
      omega
    · exact h5 a b hab (by omega) ha hb2 e
  · obtain ⟨a, b, q1, q2, q3⟩ := h6 i hi e
    exact ⟨a, b, q1, by omega, q3⟩
def ap1 (f : Nat → Nat) (z t : Nat) (i : Nat) : Nat := if i = z then t else f i
theorem ap1_z (f : Nat → Nat) (z t : Nat) : ap1 f z t z = t := if_pos rfl
theorem ap1_o {f : Nat → Nat} {z t i : Nat} (h : i < z) : ap1 f z t i = f i := if_neg (by omega)
theorem NP_add (h : NP S T k p J z f) (hT : ∀ i j, i ≤ j → T i ≤ T j) (hs : S (J % k) = p) (e : 2 ≤ z → f (z - 2) ≠ T J) : NP S T k p (J + 1) (z + 1) (ap1 f z (T J)) := by
  have htop : ∀ i, i < z → f i ≤ T J := fun i hi => NP_top h hT hi
  have hmono : ∀ i j, i ≤ j → j < z → f i ≤ f j := fun i j h1 h2 => NP_mono h h1 h2
  obtain ⟨h1, h2, h3, h4, h5, h6⟩ := h
  refine ⟨fun i hi => ?_, fun i hi => ?_, fun i hi => ?_, fun j hj hp => ?_, fun a b hab hb ha hb2 e2 => ?_, fun i hi e2 => ?_⟩
  · by_cases c : i + 2 = z
    · rw [c, ap1_z, ap1_o (by omega)]
      have g1 := htop i (by omega)
      have g2 := e (by omega)
      rw [show z - 2 = i by omega] at g2
      omega
    · rw [ap1_o (by omega), ap1_o (by omega)]
      exact h1 i (by omega)
  · by_cases c : i + 1 = z
    · rw [c, ap1_z, ap1_o (by omega)]
      exact htop i (by omega)
    · rw [ap1_o (by omega), ap1_o (by omega)]
      exact h2 i (by omega)
  · by_cases c : i = z
    · rw [c, ap1_z]
      exact ⟨J, by omega, hs, rfl⟩
    · rw [ap1_o (by omega)]
      obtain ⟨j, q1, q2⟩ := h3 i (by omega)
      exact ⟨j, by omega, q2⟩
  · by_cases c : j = J
    · exact ⟨z, by omega, by rw [ap1_z, c]⟩
    · obtain ⟨i, q1, q2⟩ := h4 j (by omega) hp
      exact ⟨i, by omega, by rw [ap1_o q1]; exact q2⟩
  · by_cases c : b = J
    · subst c
      obtain ⟨i, q1, q2⟩ := h4 a hab ha
      have g1 := hmono i (z - 1) (by omega) (by omega)
      have g2 := htop (z - 1) (by omega)
      refine ⟨z - 1, by omega, ?_, ?_⟩
      · rw [ap1_o (by omega)]
        omega
      · rw [show z - 1 + 1 = z by omega, ap1_z]
        omega
    · obtain ⟨i, q1, q2, q3⟩ := h5 a b hab (by omega) ha hb2 e2
      exact ⟨i, by omega, by rw [ap1_o (by omega)]; exact q2, by rw [ap1_o (by omega)]; exact q3⟩
  · by_cases c : i + 1 = z
    · rw [c, ap1_z, ap1_o (by omega)] at e2
      obtain ⟨j, q1, q2, q3⟩ := h3 i (by omega)
      rw [ap1_o (by omega)]
      exact ⟨j, J, q1, by omega, q2, hs, q3, by omega⟩
    · rw [ap1_o (by omega), ap1_o (by omega)] at e2
      obtain ⟨a, b, q1, q2, q3⟩ := h6 i (by omega) e2
      rw [ap1_o (by omega)]
      exact ⟨a, b, q1, by omega, q3⟩
end
def gaC (c _j : Nat) : Bool := c == 32 || c == 33
def g3C (c j : Nat) : Bool := (c == 32 && j == 1) || c == 33
/-- the row of minutes as the class has it -/
def GR (z : Nat) (f : Nat → Nat) (x : gS) : Prop := x.1 32 1 = iI z ∧ ∀ i, i < z → x.1 33 i = iI (f i)
theorem s_note {σ : gS} {S T : Nat → Nat} {k p J z : Nat} {f : Nat → Nat} (hG : GR z f σ) (h : NP S T k p J z f) (hT : ∀ i j, i ≤ j → T i ≤ T j) (hU : T J ≤ 1098) (hs : S (J % k) = p) : ∃ τ z2 f2, f_X6_note σ (iI (T J : Nat)) = some τ ∧ Ch g3C σ τ ∧ GR z2 f2 τ ∧ NP S T k p (J + 1) z2 f2 := by
  obtain ⟨g1, g2⟩ := hG
  have hz : z ≤ 2198 := NP_bd h (U := 1098) (fun i hi => Nat.le_trans (NP_top h hT hi) hU)
  have hadd : ∃ τ, f_X6_note_28 (iI (T J : Nat)) (iI 0) σ = some τ ∧ Ch g3C σ τ ∧ GR (z + 1) (ap1 f z (T J)) τ := by
    have c1 : ¬ 2200 ≤ (z : Int) := by omega
    refine ⟨pI (pI σ 32 1 (iI ((z : Int) + 1))) 33 z (iI (T J : Nat)), ?_, Ch_pI (Ch_pI (Ch_refl _ _) rfl) rfl, rfl, fun i hi => ?_⟩
    · unfold f_X6_note_28
      simp +decide (maxSteps := 2000000) (disch := omega) only [↓gl_p, ↓bs_p, iI_lit, iI_neg, iI_add, iI_sub, iI_mul, gk_p, bs_p, bz0, bz1, pI_row, pI_snd, pA_row, pA_snd, pL_fst, pL_row, pB_fst, pB_row, upd_at, ↓reduceIte, Int.reduceToNat, Nat.reduceEqDiff, iI_lt, iI_le, iI_eq, iI_inb, iI_nat, iI_nz, g1, c1, Int.toNat_natCast]
    · rw [pI_row, if_pos rfl, upd_at]
      by_cases e : i = z
      · rw [if_pos e, e, ap1_z]
      · rw [if_neg e, ap1_o (by omega)]
        exact g2 i (by omega)
  unfold f_X6_note f_X6_note_27
  by_cases c : 2 ≤ z
  · have c1 : ¬ (z : Int) < 2 := by omega
    have t1 : ((z : Int) - 2).toNat = z - 2 := by omega
    have q := g2 (z - 2) (by omega)
    have b1 := Nat.le_trans (NP_top h hT (show z - 2 < z by omega)) hU
    by_cases e : f (z - 2) = T J
    · have e2 := eq_true (show ((f (z - 2) : Nat) : Int) = ((T J : Nat) : Int) by omega)
      refine ⟨σ, z, f, ?_, Ch_refl _ _, ⟨g1, g2⟩, NP_third h hT hs c e⟩
      unfold f_X6_note_28
      simp +decide (maxSteps := 2000000) (disch := omega) only [↓gl_p, ↓bs_p, iI_lit, iI_neg, iI_add, iI_sub, iI_mul, gk_p, bs_p, bz0, bz1, pI_row, pI_snd, pA_row, pA_snd, pL_fst, pL_row, pB_fst, pB_row, upd_at, ↓reduceIte, Int.reduceToNat, Nat.reduceEqDiff, iI_lt, iI_le, iI_eq, iI_inb, iI_nat, iI_nz, g1, c1, t1, q, e2]
    · have e2 : ¬ ((f (z - 2) : Nat) : Int) = ((T J : Nat) : Int) := by omega
      obtain ⟨τ, a1, a2, a3⟩ := hadd
      refine ⟨τ, z + 1, _, ?_, a2, a3, NP_add h hT hs (fun _ => e)⟩
      simp +decide (maxSteps := 2000000) (disch := omega) only [↓gl_p, ↓bs_p, iI_lit, iI_neg, iI_add, iI_sub, iI_mul, gk_p, bs_p, bz0, bz1, pI_row, pI_snd, pA_row, pA_snd, pL_fst, pL_row, pB_fst, pB_row, upd_at, ↓reduceIte, Int.reduceToNat, Nat.reduceEqDiff, iI_lt, iI_le, iI_eq, iI_inb, iI_nat, iI_nz, g1, c1, t1, q, e2]
      exact a1
  · have c1 : (z : Int) < 2 := by omega
    obtain ⟨τ, a1, a2, a3⟩ := hadd
    refine ⟨τ, z + 1, _, ?_, a2, a3, NP_add h hT hs (fun h => absurd h c)⟩
    simp +decide (maxSteps := 2000000) (disch := omega) only [↓gl_p, ↓bs_p, iI_lit, iI_neg, iI_add, iI_sub, iI_mul, gk_p, bs_p, bz0, bz1, pI_row, pI_snd, pA_row, pA_snd, pL_fst, pL_row, pB_fst, pB_row, upd_at, ↓reduceIte, Int.reduceToNat, Nat.reduceEqDiff, iI_lt, iI_le, iI_eq, iI_inb, iI_nat, iI_nz, g1, c1]
    exact a1
theorem CO_ch_26 {x y : gS} {n k sd : Nat} {w : Nat → Nat → Nat} {S : Nat → Nat} {C : Nat → Nat → Bool} (hC : CO 26 n k w sd S x) (hc : Ch C x y) (h0 : ∀ j, C 26 j = false) (h1 : ∀ j, C 27 j = false) (h2 : ∀ j, C 28 j = false) : CO 26 n k w sd S y := by
  obtain ⟨a1, a2, a3, a4, a5, a6⟩ := hC
  exact ⟨a1, a2, (hc.2 26 4 (h0 4)).trans a3, (hc.2 26 3 (h0 3)).trans a4, (hc.2 26 5 (h0 5)).trans a5, fun i hi => ⟨(hc.2 27 i (h1 i)).trans (a6 i hi).1, (hc.2 28 i (h2 i)).trans (a6 i hi).2⟩⟩
theorem w_td66_26 {x : gS} {n k sd : Nat} {w : Nat → Nat → Nat} {S : Nat → Nat} (hn : n ≤ 9) (hC : CO 26 n k w sd S x) {K : Int32 → Int32 → Int32 → Int32 → gS → Option gS} {p : Nat} (hp : p < n) {t M : Nat} (ht : t ≤ 4000) (hM : M ≤ k) (hU : ∀ j, j < t * k + M → Tm w sd S k j ≤ 1098) (q1 q2 : Int32) : ∀ (r i f : Nat) (σ : gS) (z : Nat) (g : Nat → Nat), i + r = M → r ≤ f → Ch g3C x σ → GR z g σ → NP S (Tm w sd S k) k p (t * k + i) z g → ∃ τ z2 g2, f_X1_tellDents_66 26 K (f + 1) (iI p) q1 q2 (iI t) (iI M) (iI i) σ = K (iI p) q1 q2 (iI (t + 1 : Nat)) τ ∧ Ch g3C x τ ∧ GR z2 g2 τ ∧ NP S (Tm w sd S k) k p (t * k + M) z2 g2 := by
  have hk := hC.1
  have hS := hC.2.1
  intro r
  induction r with
  | zero =>
    intro i f σ z g hi hf hc hG hN
    have g0 : (M : Int) ≤ (i : Int) := by omega
    refine ⟨σ, z, g, ?_, hc, hG, by rw [show M = i by omega]; exact hN⟩
    rw [f_X1_tellDents_66]
    simp +decide (maxSteps := 2000000) (disch := omega) only [↓gl_p, ↓bs_p, iI_lit, iI_neg, iI_add, iI_sub, iI_mul, gk_p, bs_p, bz0, bz1, pI_row, pI_snd, pA_row, pA_snd, pL_fst, pL_row, pB_fst, pB_row, upd_at, ↓reduceIte, Int.reduceToNat, Nat.reduceEqDiff, iI_lt, iI_le, iI_eq, iI_inb, iI_nat, iI_nz, g0]
    rfl
  | succ r ih =>
    intro i f σ z g hi hf hc hG hN
    obtain ⟨f, rfl⟩ : ∃ q, f = q + 1 := ⟨f - 1, by omega⟩
    have g0 : ¬ (M : Int) ≤ (i : Int) := by omega
    have hk0 : 0 < k := by omega
    have hCs := CO_ch_26 hC hc (fun _ => rfl) (fun _ => rfl) (fun _ => rfl)
    obtain ⟨-, -, e4, e3, e5, eS⟩ := hCs
    have hSi := hS i (by omega)
    have em : (t * k + i) % k = i := Nat.mul_add_mod_of_lt (by omega)
    have ev : (t * k + i) / k = t := by
      rw [Nat.mul_comm t k, Nat.mul_add_div hk0, Nat.div_eq_of_lt (by omega), Nat.add_zero]
    have eT : Tm w sd S k (t * k + i) = w 9 (S 0) + t * perd w sd S k + offs w sd S i := by
      rw [Tm_e hk0, em, ev]
    have el : ledM w S k = w 9 (S 0) := if_neg (by omega)
    rw [el] at e3
    have qs := eS i (by omega)
    by_cases c : S i = p
    · have c2 := eq_true (show ((S i : Nat) : Int) = p by omega)
      have et : ((w 9 (S 0) : Nat) : Int) + (t : Int) * ((perd w sd S k : Nat) : Int) + ((offs w sd S i : Nat) : Int) = ((Tm w sd S k (t * k + i) : Nat) : Int) := by
        rw [eT]
        rfl
      obtain ⟨σ2, z2, g2, a1, a2, a3, a4⟩ := s_note hG hN (fun i j h => Tm_mono h) (hU (t * k + i) (by omega)) (by rw [em]; exact c)
      obtain ⟨τ, z3, g3, b1, b2, b3, b4⟩ := ih (i + 1) f σ2 z2 g2 (by omega) (by omega) (Ch_tr hc a2) a3 a4
      refine ⟨τ, z3, g3, ?_, b2, b3, b4⟩
      rw [f_X1_tellDents_66]
      simp +decide (maxSteps := 2000000) (disch := omega) only [↓gl_p, ↓bs_p, iI_lit, iI_neg, iI_add, iI_sub, iI_mul, gk_p, bs_p, bz0, bz1, pI_row, pI_snd, pA_row, pA_snd, pL_fst, pL_row, pB_fst, pB_row, upd_at, ↓reduceIte, Int.reduceToNat, Nat.reduceEqDiff, iI_lt, iI_le, iI_eq, iI_inb, iI_nat, iI_nz, Nat.reduceAdd, g0, qs.1, qs.2, c2, e3, e5, et, a1, Int.toNat_natCast]
      exact b1
    · have c2 : ¬ ((S i : Nat) : Int) = p := by omega
      obtain ⟨τ, z3, g3, b1, b2, b3, b4⟩ := ih (i + 1) f σ z g (by omega) (by omega) hc hG (NP_skip hN (show S ((t * k + i) % k) ≠ p by rw [em]; exact c))
      refine ⟨τ, z3, g3, ?_, b2, b3, b4⟩
      rw [f_X1_tellDents_66]
      simp +decide (maxSteps := 2000000) (disch := omega) only [↓gl_p, ↓bs_p, iI_lit, iI_neg, iI_add, iI_sub, iI_mul, gk_p, bs_p, bz0, bz1, pI_row, pI_snd, pA_row, pA_snd, pL_fst, pL_row, pB_fst, pB_row, upd_at, ↓reduceIte, Int.reduceToNat, Nat.reduceEqDiff, iI_lt, iI_le, iI_eq, iI_inb, iI_nat, iI_nz, Nat.reduceAdd, g0, qs.1, c2, Int.toNat_natCast]
      exact b1
theorem w_td37_26 {x : gS} {n k sd : Nat} {w : Nat → Nat → Nat} {S : Nat → Nat} (hn : n ≤ 9) (hC : CO 26 n k w sd S x) (hk0 : 0 < k) {p : Nat} (hp : p < n) {C N : Nat} (hC4 : C ≤ 4000) (hN : N = (C + k - 1) / k) (hU : ∀ j, j < C → Tm w sd S k j ≤ 1098) : ∀ (r t f : Nat) (σ : gS) (z : Nat) (g : Nat → Nat), t + r = N → r ≤ f → Ch g3C x σ → GR z g σ → NP S (Tm w sd S k) k p (if C < t * k then C else t * k) z g → ∃ τ z2 g2, f_X1_tellDents_37 26 (f + 1) (iI p) (iI C) (iI N) (iI t) σ = some τ ∧ Ch g3C x τ ∧ GR z2 g2 τ ∧ NP S (Tm w sd S k) k p C z2 g2 := by
  have hk := hC.1
  have hNk : C ≤ N * k ∧ ∀ t, t < N → t * k < C := by
    have e := Nat.div_add_mod (C + k - 1) k
    have hm := Nat.mod_lt (C + k - 1) hk0
    rw [← hN] at e
    have ec : k * N = N * k := Nat.mul_comm _ _
    refine ⟨by omega, fun t ht => ?_⟩
    have g := Nat.mul_le_mul_right k (show t + 1 ≤ N from ht)
    rw [Nat.succ_mul] at g
    omega
  have hN4 : N ≤ 4000 := by
    by_cases c : N ≤ 4000
    · exact c
    · have g := hNk.2 4000 (by omega)
      omega
  intro r
  induction r with
  | zero =>
    intro t f σ z g ht hf hc hG hNP
    have g0 : (N : Int) ≤ (t : Int) := by omega
    have e : (if C < t * k then C else t * k) = C := by
      have g2 := hNk.1
      rw [show N = t by omega] at g2
      split <;> omega
    rw [e] at hNP
    refine ⟨σ, z, g, ?_, hc, hG, hNP⟩
    rw [f_X1_tellDents_37]
    simp +decide (maxSteps := 2000000) (disch := omega) only [↓gl_p, ↓bs_p, iI_lit, iI_neg, iI_add, iI_sub, iI_mul, gk_p, bs_p, bz0, bz1, pI_row, pI_snd, pA_row, pA_snd, pL_fst, pL_row, pB_fst, pB_row, upd_at, ↓reduceIte, Int.reduceToNat, Nat.reduceEqDiff, iI_lt, iI_le, iI_eq, iI_inb, iI_nat, iI_nz, g0]
  | succ r ih =>
    intro t f σ z g ht hf hc hG hNP
    obtain ⟨f, rfl⟩ : ∃ q, f = q + 1 := ⟨f - 1, by omega⟩
    have g0 : ¬ (N : Int) ≤ (t : Int) := by omega
    have h1 := hNk.2 t (by omega)
    rw [if_neg (by omega)] at hNP
    have hCs := CO_ch_26 hC hc (fun _ => rfl) (fun _ => rfl) (fun _ => rfl)
    have e4 := hCs.2.2.1
    obtain ⟨M, hM⟩ : ∃ M, M = if C - t * k < k then C - t * k else k := ⟨_, rfl⟩
    have hM2 : M ≤ k ∧ t * k + M ≤ C := by
      rw [hM]
      split <;> omega
    have ej : jmin (iI k) (iI ((C : Int) - (t : Int) * (k : Int))) = iI M := by
      have e1 : (C : Int) - (t : Int) * (k : Int) = ((C - t * k : Nat) : Int) := by
        rw [Int.natCast_sub (by omega)]
        rfl
      rw [e1, jmin_i (by omega) (by omega) (by omega) (by omega), hM]
      by_cases c : C - t * k < k
      · rw [if_pos (by omega), if_pos c]
      · rw [if_neg (by omega), if_neg c]
    obtain ⟨σ2, z2, g2, a1, a2, a3, a4⟩ := w_td66_26 hn hC (K := f_X1_tellDents_37 26 (f + 1)) hp (t := t) (M := M) (by omega) hM2.1 (fun j hj => hU j (by omega)) (iI C) (iI N) M 0 999999 σ z g (by omega) (by omega) hc hG hNP
    have e2 : t * k + M = if C < (t + 1) * k then C else (t + 1) * k := by
      rw [Nat.succ_mul, hM]
      split <;> split <;> omega
    rw [e2] at a4
    obtain ⟨τ, z3, g3, b1, b2, b3, b4⟩ := ih (t + 1) f σ2 z2 g2 (by omega) (by omega) a2 a3 a4
    refine ⟨τ, z3, g3, ?_, b2, b3, b4⟩
    rw [f_X1_tellDents_37]
    simp +decide (maxSteps := 2000000) (disch := omega) only [↓gl_p, ↓bs_p, iI_lit, iI_neg, iI_add, iI_sub, iI_mul, gk_p, bs_p, bz0, bz1, pI_row, pI_snd, pA_row, pA_snd, pL_fst, pL_row, pB_fst, pB_row, upd_at, ↓reduceIte, Int.reduceToNat, Nat.reduceEqDiff, iI_lt, iI_le, iI_eq, iI_inb, iI_nat, iI_nz, g0, e4]
    rw [ej, show f_X1_tellDents_66 26 (f_X1_tellDents_37 26 (f + 1)) gN (iI p) (iI C) (iI N) (iI t) (iI M) (iI 0) σ = _ from a1]
    exact b1
theorem s_gath_26 {x : gS} {n k sd : Nat} {w : Nat → Nat → Nat} {S : Nat → Nat} (hY : YD n w sd x) (hC : CO 26 n k w sd S x) {p : Nat} (hp : p < n) {U : Nat} (hU : U ≤ 1098) : ∃ y C z f, f_X6_gather x 26 (iI p) (iI U) = some y ∧ Ch gaC x y ∧ isC (Tm w sd S k) U C ∧ y.1 32 2 = iI ((if 1 < sd then sd else 1 : Nat) : Int) ∧ GR z f y ∧ NP S (Tm w sd S k) k p C z f := by
  have hn := hY.1
  have hd := hY.2.1
  have hw : ∀ p q, okP n p → okP n q → w p q ≤ 270 := fun p q hp hq => (hY.2.2.2.2 p q hp hq).1
  obtain ⟨σ, hσ⟩ : ∃ σ, σ = pI (pI x 32 1 (iI 0)) 32 2 (iI ((if 1 < sd then sd else 1 : Nat) : Int)) := ⟨_, rfl⟩
  have hc : Ch gaC x σ := by
    rw [hσ]
    exact Ch_pI (Ch_pI (Ch_refl _ _) rfl) rfl
  have hCs := CO_ch_26 hC hc (fun _ => rfl) (fun _ => rfl) (fun _ => rfl)
  obtain ⟨C, d1, d2⟩ := s_dBy_26 hCs hw hd (v := (U : Int)) (by omega) (by omega)
  have hUj : ∀ j, j < C → Tm w sd S k j ≤ 1098 := fun j hj => by
    have g := d2.2.1 j hj
    omega
  have st : f_X8_stand (pI x 32 1 (iI 0)) = some (iI sd) := s_stand (x := pI x 32 1 (iI 0)) hY.2.2.2.1
  have ej : jmax (iI 1) (iI sd) = iI ((if 1 < sd then sd else 1 : Nat) : Int) := by
    rw [jmax_i (by omega) (by omega) (by omega) (by omega)]
    by_cases c : 1 < sd
    · rw [if_pos (by omega), if_pos c]
    · rw [if_neg (by omega), if_neg c]
      rfl
  have fin : ∀ τ z f, f_X1_tellDents σ 26 (iI p) (iI U) = some τ → Ch g3C σ τ → GR z f τ → NP S (Tm w sd S k) k p C z f → ∃ y C z f, f_X6_gather x 26 (iI p) (iI U) = some y ∧ Ch gaC x y ∧ isC (Tm w sd S k) U C ∧ y.1 32 2 = iI ((if 1 < sd then sd else 1 : Nat) : Int) ∧ GR z f y ∧ NP S (Tm w sd S k) k p C z f := by
    intro τ z f h1 h2 h3 h4
    refine ⟨τ, C, z, f, ?_, Ch_tr hc (Ch_mo h2 fun c j h => ?_), d2, ?_, h3, h4⟩
    · unfold f_X6_gather f_X1_seenMinutes
      simp +decide (maxSteps := 2000000) (disch := omega) only [↓gl_p, ↓bs_p, iI_lit, iI_neg, iI_add, iI_sub, iI_mul, gk_p, bs_p, bz0, bz1, pI_row, pI_snd, pA_row, pA_snd, pL_fst, pL_row, pB_fst, pB_row, upd_at, ↓reduceIte, Int.reduceToNat, Nat.reduceEqDiff, iI_lt, iI_le, iI_eq, iI_inb, iI_nat, iI_nz, st, ej]
      rw [← hσ, h1]
      rfl
    · unfold gaC at h
      unfold g3C
      simp at h ⊢
      omega
    · rw [h2.2 32 2 rfl, hσ]
      rfl
  by_cases c : k = 0
  · have hC0 : C = 0 := by
      by_cases q : C = 0
      · exact q
      · have g := d2.2.1 0 (by omega)
        unfold Tm at g
        rw [if_pos c] at g
        omega
    have c2 := eq_true (show (k : Int) = 0 by omega)
    refine fin σ 0 (fun _ => 0) ?_ (Ch_refl _ _) ⟨by rw [hσ]; rfl, fun i hi => absurd hi (by omega)⟩ (by rw [hC0]; exact NP_0 _)
    have hk := hC.1
    unfold f_X1_tellDents
    simp +decide (maxSteps := 2000000) (disch := omega) only [↓gl_p, ↓bs_p, iI_lit, iI_neg, iI_add, iI_sub, iI_mul, gk_p, bs_p, bz0, bz1, pI_row, pI_snd, pA_row, pA_snd, pL_fst, pL_row, pB_fst, pB_row, upd_at, ↓reduceIte, Int.reduceToNat, Nat.reduceEqDiff, iI_lt, iI_le, iI_eq, iI_inb, iI_nat, iI_nz, d1, hCs.2.2.1, c2]
    rw [gN_s, f_X1_tellDents_37]
    simp +decide (maxSteps := 2000000) (disch := omega) only [↓gl_p, ↓bs_p, iI_lit, iI_neg, iI_add, iI_sub, iI_mul, gk_p, bs_p, bz0, bz1, pI_row, pI_snd, pA_row, pA_snd, pL_fst, pL_row, pB_fst, pB_row, upd_at, ↓reduceIte, Int.reduceToNat, Nat.reduceEqDiff, iI_lt, iI_le, iI_eq, iI_inb, iI_nat, iI_nz]
  · have c2 : ¬ (k : Int) = 0 := by omega
    have hk := hC.1
    have hC4 := d2.1
    have en : (iI C + iI k - iI 1) / iI k = iI (((C + k - 1) / k : Nat) : Int) := by
      rw [iI_add, iI_sub, show (C : Int) + (k : Int) - 1 = ((C + k - 1 : Nat) : Int) by omega, iI_div (by omega) (by omega) (by omega) (by omega)]
      rfl
    have en2 : iI ((C : Int) + (k : Int) - 1) / iI k = iI (((C + k - 1) / k : Nat) : Int) := by
      rw [← en, iI_add, iI_sub]
    have hN4 : (C + k - 1) / k ≤ 999999 := Nat.le_trans (Nat.div_le_self _ _) (by omega)
    obtain ⟨τ, z, f, a1, a2, a3, a4⟩ := w_td37_26 hn hCs (by omega) hp d2.1 rfl hUj ((C + k - 1) / k) 0 999999 σ 0 (fun _ => 0) (by omega) hN4 (Ch_refl _ _) ⟨by rw [hσ]; rfl, fun i hi => absurd hi (by omega)⟩ (by
      rw [Nat.zero_mul, if_neg (by omega)]
      exact NP_0 _)
    refine fin τ z f ?_ a2 a3 a4
    unfold f_X1_tellDents
    simp +decide (maxSteps := 2000000) (disch := omega) only [↓gl_p, ↓bs_p, iI_lit, iI_neg, iI_add, iI_sub, iI_mul, gk_p, bs_p, bz0, bz1, pI_row, pI_snd, pA_row, pA_snd, pL_fst, pL_row, pB_fst, pB_row, upd_at, ↓reduceIte, Int.reduceToNat, Nat.reduceEqDiff, iI_lt, iI_le, iI_eq, iI_inb, iI_nat, iI_nz, d1, hCs.2.2.1, c2, en2]
    exact a1
theorem CO_ch_29 {x y : gS} {n k sd : Nat} {w : Nat → Nat → Nat} {S : Nat → Nat} {C : Nat → Nat → Bool} (hC : CO 29 n k w sd S x) (hc : Ch C x y) (h0 : ∀ j, C 29 j = false) (h1 : ∀ j, C 30 j = false) (h2 : ∀ j, C 31 j = false) : CO 29 n k w sd S y := by
  obtain ⟨a1, a2, a3, a4, a5, a6⟩ := hC
  exact ⟨a1, a2, (hc.2 29 4 (h0 4)).trans a3, (hc.2 29 3 (h0 3)).trans a4, (hc.2 29 5 (h0 5)).trans a5, fun i hi => ⟨(hc.2 30 i (h1 i)).trans (a6 i hi).1, (hc.2 31 i (h2 i)).trans (a6 i hi).2⟩⟩
theorem w_td66_29 {x : gS} {n k sd : Nat} {w : Nat → Nat → Nat} {S : Nat → Nat} (hn : n ≤ 9) (hC : CO 29 n k w sd S x) {K : Int32 → Int32 → Int32 → Int32 → gS → Option gS} {p : Nat} (hp : p < n) {t M : Nat} (ht : t ≤ 4000) (hM : M ≤ k) (hU : ∀ j, j < t * k + M → Tm w sd S k j ≤ 1098) (q1 q2 : Int32) : ∀ (r i f : Nat) (σ : gS) (z : Nat) (g : Nat → Nat), i + r = M → r ≤ f → Ch g3C x σ → GR z g σ → NP S (Tm w sd S k) k p (t * k + i) z g → ∃ τ z2 g2, f_X1_tellDents_66 29 K (f + 1) (iI p) q1 q2 (iI t) (iI M) (iI i) σ = K (iI p) q1 q2 (iI (t + 1 : Nat)) τ ∧ Ch g3C x τ ∧ GR z2 g2 τ ∧ NP S (Tm w sd S k) k p (t * k + M) z2 g2 := by
  have hk := hC.1
  have hS := hC.2.1
  intro r
  induction r with
  | zero =>
    intro i f σ z g hi hf hc hG hN
    have g0 : (M : Int) ≤ (i : Int) := by omega
    refine ⟨σ, z, g, ?_, hc, hG, by rw [show M = i by omega]; exact hN⟩
    rw [f_X1_tellDents_66]
    simp +decide (maxSteps := 2000000) (disch := omega) only [↓gl_p, ↓bs_p, iI_lit, iI_neg, iI_add, iI_sub, iI_mul, gk_p, bs_p, bz0, bz1, pI_row, pI_snd, pA_row, pA_snd, pL_fst, pL_row, pB_fst, pB_row, upd_at, ↓reduceIte, Int.reduceToNat, Nat.reduceEqDiff, iI_lt, iI_le, iI_eq, iI_inb, iI_nat, iI_nz, g0]
    rfl
  | succ r ih =>
    intro i f σ z g hi hf hc hG hN
    obtain ⟨f, rfl⟩ : ∃ q, f = q + 1 := ⟨f - 1, by omega⟩
    have g0 : ¬ (M : Int) ≤ (i : Int) := by omega
    have hk0 : 0 < k := by omega
    have hCs := CO_ch_29 hC hc (fun _ => rfl) (fun _ => rfl) (fun _ => rfl)
    obtain ⟨-, -, e4, e3, e5, eS⟩ := hCs
    have hSi := hS i (by omega)
    have em : (t * k + i) % k = i := Nat.mul_add_mod_of_lt (by omega)
    have ev : (t * k + i) / k = t := by
      rw [Nat.mul_comm t k, Nat.mul_add_div hk0, Nat.div_eq_of_lt (by omega), Nat.add_zero]
    have eT : Tm w sd S k (t * k + i) = w 9 (S 0) + t * perd w sd S k + offs w sd S i := by
      rw [Tm_e hk0, em, ev]
    have el : ledM w S k = w 9 (S 0) := if_neg (by omega)
    rw [el] at e3
    have qs := eS i (by omega)
    by_cases c : S i = p
    · have c2 := eq_true (show ((S i : Nat) : Int) = p by omega)
      have et : ((w 9 (S 0) : Nat) : Int) + (t : Int) * ((perd w sd S k : Nat) : Int) + ((offs w sd S i : Nat) : Int) = ((Tm w sd S k (t * k + i) : Nat) : Int) := by
        rw [eT]
        rfl
      obtain ⟨σ2, z2, g2, a1, a2, a3, a4⟩ := s_note hG hN (fun i j h => Tm_mono h) (hU (t * k + i) (by omega)) (by rw [em]; exact c)
      obtain ⟨τ, z3, g3, b1, b2, b3, b4⟩ := ih (i + 1) f σ2 z2 g2 (by omega) (by omega) (Ch_tr hc a2) a3 a4
      refine ⟨τ, z3, g3, ?_, b2, b3, b4⟩
      rw [f_X1_tellDents_66]
      simp +decide (maxSteps := 2000000) (disch := omega) only [↓gl_p, ↓bs_p, iI_lit, iI_neg, iI_add, iI_sub, iI_mul, gk_p, bs_p, bz0, bz1, pI_row, pI_snd, pA_row, pA_snd, pL_fst, pL_row, pB_fst, pB_row, upd_at, ↓reduceIte, Int.reduceToNat, Nat.reduceEqDiff, iI_lt, iI_le, iI_eq, iI_inb, iI_nat, iI_nz, Nat.reduceAdd, g0, qs.1, qs.2, c2, e3, e5, et, a1, Int.toNat_natCast]
      exact b1
    · have c2 : ¬ ((S i : Nat) : Int) = p := by omega
      obtain ⟨τ, z3, g3, b1, b2, b3, b4⟩ := ih (i + 1) f σ z g (by omega) (by omega) hc hG (NP_skip hN (show S ((t * k + i) % k) ≠ p by rw [em]; exact c))
      refine ⟨τ, z3, g3, ?_, b2, b3, b4⟩
      rw [f_X1_tellDents_66]
      simp +decide (maxSteps := 2000000) (disch := omega) only [↓gl_p, ↓bs_p, iI_lit, iI_neg, iI_add, iI_sub, iI_mul, gk_p, bs_p, bz0, bz1, pI_row, pI_snd, pA_row, pA_snd, pL_fst, pL_row, pB_fst, pB_row, upd_at, ↓reduceIte, Int.reduceToNat, Nat.reduceEqDiff, iI_lt, iI_le, iI_eq, iI_inb, iI_nat, iI_nz, Nat.reduceAdd, g0, qs.1, c2, Int.toNat_natCast]
      exact b1
theorem w_td37_29 {x : gS} {n k sd : Nat} {w : Nat → Nat → Nat} {S : Nat → Nat} (hn : n ≤ 9) (hC : CO 29 n k w sd S x) (hk0 : 0 < k) {p : Nat} (hp : p < n) {C N : Nat} (hC4 : C ≤ 4000) (hN : N = (C + k - 1) / k) (hU : ∀ j, j < C → Tm w sd S k j ≤ 1098) : ∀ (r t f : Nat) (σ : gS) (z : Nat) (g : Nat → Nat), t + r = N → r ≤ f → Ch g3C x σ → GR z g σ → NP S (Tm w sd S k) k p (if C < t * k then C else t * k) z g → ∃ τ z2 g2, f_X1_tellDents_37 29 (f + 1) (iI p) (iI C) (iI N) (iI t) σ = some τ ∧ Ch g3C x τ ∧ GR z2 g2 τ ∧ NP S (Tm w sd S k) k p C z2 g2 := by
  have hk := hC.1
  have hNk : C ≤ N * k ∧ ∀ t, t < N → t * k < C := by
    have e := Nat.div_add_mod (C + k - 1) k
    have hm := Nat.mod_lt (C + k - 1) hk0
    rw [← hN] at e
    have ec : k * N = N * k := Nat.mul_comm _ _
    refine ⟨by omega, fun t ht => ?_⟩
    have g := Nat.mul_le_mul_right k (show t + 1 ≤ N from ht)
    rw [Nat.succ_mul] at g
    omega
  have hN4 : N ≤ 4000 := by
    by_cases c : N ≤ 4000
    · exact c
    · have g := hNk.2 4000 (by omega)
      omega
  intro r
  induction r with
  | zero =>
    intro t f σ z g ht hf hc hG hNP
    have g0 : (N : Int) ≤ (t : Int) := by omega
    have e : (if C < t * k then C else t * k) = C := by
      have g2 := hNk.1
      rw [show N = t by omega] at g2
      split <;> omega
    rw [e] at hNP
    refine ⟨σ, z, g, ?_, hc, hG, hNP⟩
    rw [f_X1_tellDents_37]
    simp +decide (maxSteps := 2000000) (disch := omega) only [↓gl_p, ↓bs_p, iI_lit, iI_neg, iI_add, iI_sub, iI_mul, gk_p, bs_p, bz0, bz1, pI_row, pI_snd, pA_row, pA_snd, pL_fst, pL_row, pB_fst, pB_row, upd_at, ↓reduceIte, Int.reduceToNat, Nat.reduceEqDiff, iI_lt, iI_le, iI_eq, iI_inb, iI_nat, iI_nz, g0]
  | succ r ih =>
    intro t f σ z g ht hf hc hG hNP
    obtain ⟨f, rfl⟩ : ∃ q, f = q + 1 := ⟨f - 1, by omega⟩
    have g0 : ¬ (N : Int) ≤ (t : Int) := by omega
    have h1 := hNk.2 t (by omega)
    rw [if_neg (by omega)] at hNP
    have hCs := CO_ch_29 hC hc (fun _ => rfl) (fun _ => rfl) (fun _ => rfl)
    have e4 := hCs.2.2.1
    obtain ⟨M, hM⟩ : ∃ M, M = if C - t * k < k then C - t * k else k := ⟨_, rfl⟩
    have hM2 : M ≤ k ∧ t * k + M ≤ C := by
      rw [hM]
      split <;> omega
    have ej : jmin (iI k) (iI ((C : Int) - (t : Int) * (k : Int))) = iI M := by
      have e1 : (C : Int) - (t : Int) * (k : Int) = ((C - t * k : Nat) : Int) := by
        rw [Int.natCast_sub (by omega)]
        rfl
      rw [e1, jmin_i (by omega) (by omega) (by omega) (by omega), hM]
      by_cases c : C - t * k < k
      · rw [if_pos (by omega), if_pos c]
      · rw [if_neg (by omega), if_neg c]
    obtain ⟨σ2, z2, g2, a1, a2, a3, a4⟩ := w_td66_29 hn hC (K := f_X1_tellDents_37 29 (f + 1)) hp (t := t) (M := M) (by omega) hM2.1 (fun j hj => hU j (by omega)) (iI C) (iI N) M 0 999999 σ z g (by omega) (by omega) hc hG hNP
    have e2 : t * k + M = if C < (t + 1) * k then C else (t + 1) * k := by
      rw [Nat.succ_mul, hM]
      split <;> split <;> omega
    rw [e2] at a4
    obtain ⟨τ, z3, g3, b1, b2, b3, b4⟩ := ih (t + 1) f σ2 z2 g2 (by omega) (by omega) a2 a3 a4
    refine ⟨τ, z3, g3, ?_, b2, b3, b4⟩
    rw [f_X1_tellDents_37]
    simp +decide (maxSteps := 2000000) (disch := omega) only [↓gl_p, ↓bs_p, iI_lit, iI_neg, iI_add, iI_sub, iI_mul, gk_p, bs_p, bz0, bz1, pI_row, pI_snd, pA_row, pA_snd, pL_fst, pL_row, pB_fst, pB_row, upd_at, ↓reduceIte, Int.reduceToNat, Nat.reduceEqDiff, iI_lt, iI_le, iI_eq, iI_inb, iI_nat, iI_nz, g0, e4]
    rw [ej, show f_X1_tellDents_66 29 (f_X1_tellDents_37 29 (f + 1)) gN (iI p) (iI C) (iI N) (iI t) (iI M) (iI 0) σ = _ from a1]
    exact b1
theorem s_gath_29 {x : gS} {n k sd : Nat} {w : Nat → Nat → Nat} {S : Nat → Nat} (hY : YD n w sd x) (hC : CO 29 n k w sd S x) {p : Nat} (hp : p < n) {U : Nat} (hU : U ≤ 1098) : ∃ y C z f, f_X6_gather x 29 (iI p) (iI U) = some y ∧ Ch gaC x y ∧ isC (Tm w sd S k) U C ∧ y.1 32 2 = iI ((if 1 < sd then sd else 1 : Nat) : Int) ∧ GR z f y ∧ NP S (Tm w sd S k) k p C z f := by
  have hn := hY.1
  have hd := hY.2.1
  have hw : ∀ p q, okP n p → okP n q → w p q ≤ 270 := fun p q hp hq => (hY.2.2.2.2 p q hp hq).1
  obtain ⟨σ, hσ⟩ : ∃ σ, σ = pI (pI x 32 1 (iI 0)) 32 2 (iI ((if 1 < sd then sd else 1 : Nat) : Int)) := ⟨_, rfl⟩
  have hc : Ch gaC x σ := by
    rw [hσ]
    exact Ch_pI (Ch_pI (Ch_refl _ _) rfl) rfl
  have hCs := CO_ch_29 hC hc (fun _ => rfl) (fun _ => rfl) (fun _ => rfl)
  obtain ⟨C, d1, d2⟩ := s_dBy_29 hCs hw hd (v := (U : Int)) (by omega) (by omega)
  have hUj : ∀ j, j < C → Tm w sd S k j ≤ 1098 := fun j hj => by
    have g := d2.2.1 j hj
    omega
  have st : f_X8_stand (pI x 32 1 (iI 0)) = some (iI sd) := s_stand (x := pI x 32 1 (iI 0)) hY.2.2.2.1
  have ej : jmax (iI 1) (iI sd) = iI ((if 1 < sd then sd else 1 : Nat) : Int) := by
    rw [jmax_i (by omega) (by omega) (by omega) (by omega)]
    by_cases c : 1 < sd
    · rw [if_pos (by omega), if_pos c]
    · rw [if_neg (by omega), if_neg c]
      rfl
  have fin : ∀ τ z f, f_X1_tellDents σ 29 (iI p) (iI U) = some τ → Ch g3C σ τ → GR z f τ → NP S (Tm w sd S k) k p C z f → ∃ y C z f, f_X6_gather x 29 (iI p) (iI U) = some y ∧ Ch gaC x y ∧ isC (Tm w sd S k) U C ∧ y.1 32 2 = iI ((if 1 < sd then sd else 1 : Nat) : Int) ∧ GR z f y ∧ NP S (Tm w sd S k) k p C z f := by
    intro τ z f h1 h2 h3 h4
    refine ⟨τ, C, z, f, ?_, Ch_tr hc (Ch_mo h2 fun c j h => ?_), d2, ?_, h3, h4⟩
    · unfold f_X6_gather f_X1_seenMinutes
      simp +decide (maxSteps := 2000000) (disch := omega) only [↓gl_p, ↓bs_p, iI_lit, iI_neg, iI_add, iI_sub, iI_mul, gk_p, bs_p, bz0, bz1, pI_row, pI_snd, pA_row, pA_snd, pL_fst, pL_row, pB_fst, pB_row, upd_at, ↓reduceIte, Int.reduceToNat, Nat.reduceEqDiff, iI_lt, iI_le, iI_eq, iI_inb, iI_nat, iI_nz, st, ej]
      rw [← hσ, h1]
      rfl
    · unfold gaC at h
      unfold g3C
      simp at h ⊢
      omega
    · rw [h2.2 32 2 rfl, hσ]
      rfl
  by_cases c : k = 0
  · have hC0 : C = 0 := by
      by_cases q : C = 0
      · exact q
      · have g := d2.2.1 0 (by omega)
        unfold Tm at g
        rw [if_pos c] at g
        omega
    have c2 := eq_true (show (k : Int) = 0 by omega)
    refine fin σ 0 (fun _ => 0) ?_ (Ch_refl _ _) ⟨by rw [hσ]; rfl, fun i hi => absurd hi (by omega)⟩ (by rw [hC0]; exact NP_0 _)
    have hk := hC.1
    unfold f_X1_tellDents
    simp +decide (maxSteps := 2000000) (disch := omega) only [↓gl_p, ↓bs_p, iI_lit, iI_neg, iI_add, iI_sub, iI_mul, gk_p, bs_p, bz0, bz1, pI_row, pI_snd, pA_row, pA_snd, pL_fst, pL_row, pB_fst, pB_row, upd_at, ↓reduceIte, Int.reduceToNat, Nat.reduceEqDiff, iI_lt, iI_le, iI_eq, iI_inb, iI_nat, iI_nz, d1, hCs.2.2.1, c2]
    rw [gN_s, f_X1_tellDents_37]
    simp +decide (maxSteps := 2000000) (disch := omega) only [↓gl_p, ↓bs_p, iI_lit, iI_neg, iI_add, iI_sub, iI_mul, gk_p, bs_p, bz0, bz1, pI_row, pI_snd, pA_row, pA_snd, pL_fst, pL_row, pB_fst, pB_row, upd_at, ↓reduceIte, Int.reduceToNat, Nat.reduceEqDiff, iI_lt, iI_le, iI_eq, iI_inb, iI_nat, iI_nz]
  · have c2 : ¬ (k : Int) = 0 := by omega
    have hk := hC.1
    have hC4 := d2.1
    have en : (iI C + iI k - iI 1) / iI k = iI (((C + k - 1) / k : Nat) : Int) := by
      rw [iI_add, iI_sub, show (C : Int) + (k : Int) - 1 = ((C + k - 1 : Nat) : Int) by omega, iI_div (by omega) (by omega) (by omega) (by omega)]
      rfl
    have en2 : iI ((C : Int) + (k : Int) - 1) / iI k = iI (((C + k - 1) / k : Nat) : Int) := by
      rw [← en, iI_add, iI_sub]
    have hN4 : (C + k - 1) / k ≤ 999999 := Nat.le_trans (Nat.div_le_self _ _) (by omega)
    obtain ⟨τ, z, f, a1, a2, a3, a4⟩ := w_td37_29 hn hCs (by omega) hp d2.1 rfl hUj ((C + k - 1) / k) 0 999999 σ 0 (fun _ => 0) (by omega) hN4 (Ch_refl _ _) ⟨by rw [hσ]; rfl, fun i hi => absurd hi (by omega)⟩ (by
      rw [Nat.zero_mul, if_neg (by omega)]
      exact NP_0 _)
    refine fin τ z f ?_ a2 a3 a4
    unfold f_X1_tellDents
    simp +decide (maxSteps := 2000000) (disch := omega) only [↓gl_p, ↓bs_p, iI_lit, iI_neg, iI_add, iI_sub, iI_mul, gk_p, bs_p, bz0, bz1, pI_row, pI_snd, pA_row, pA_snd, pL_fst, pL_row, pB_fst, pB_row, upd_at, ↓reduceIte, Int.reduceToNat, Nat.reduceEqDiff, iI_lt, iI_le, iI_eq, iI_inb, iI_nat, iI_nz, d1, hCs.2.2.1, c2, en2]
    exact a1
