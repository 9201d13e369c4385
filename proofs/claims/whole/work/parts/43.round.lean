/-! ===== round, first, by ===== -/
def rsum (w : Nat → Nat → Nat) (sd : Nat) (S : Nat → Nat) (k i : Nat) : Nat := if i < k then offs w sd S i else perd w sd S k
theorem w_one {m : gS} {n k sd : Nat} {w : Nat → Nat → Nat} {S : Nat → Nat} (hn : n ≤ 9) (hR : RO n k S m) (hM : YM n w sd m) : ∀ (r i f : Nat), i + r = k → r ≤ f → f_X10_oneRound_4 m (f + 1) (iI (rsum w sd S k i : Nat)) (iI i) = some (iI (perd w sd S k : Nat)) := by
  obtain ⟨hk, hS, e44, eS⟩ := hR
  intro r
  induction r with
  | zero =>
    intro i f hi hf
    have g : (k : Int) ≤ (i : Int) := by omega
    have e : rsum w sd S k i = perd w sd S k := if_neg (by omega)
    rw [f_X10_oneRound_4, e]
    simp +decide (maxSteps := 2000000) (disch := omega) only [↓gl_p, ↓bs_p, iI_lit, iI_neg, iI_add, iI_sub, iI_mul, gk_p, bs_p, bz0, bz1, pI_row, pI_snd, pA_row, pA_snd, pL_fst, pL_row, pB_fst, pB_row, upd_at, ↓reduceIte, Int.reduceToNat, Nat.reduceEqDiff, iI_lt, iI_le, iI_eq, iI_inb, iI_nat, iI_nz, e44, g]
  | succ r ih =>
    intro i f hi hf
    obtain ⟨f, rfl⟩ : ∃ q, f = q + 1 := ⟨f - 1, by omega⟩
    have g : ¬ (k : Int) ≤ (i : Int) := by omega
    have hk0 : 0 < k := by omega
    have hm : (i + 1) % k < k := Nat.mod_lt _ hk0
    have er : iI i + iI 1 - (iI i + iI 1) / iI k * iI k = iI (((i + 1) % k : Nat) : Int) := by
      rw [show iI i + iI 1 = iI ((i + 1 : Nat) : Int) from iI_add _ _, iI_rem (by omega) hk0 (by omega)]
    have q1 := eS i (by omega)
    have q2 := eS ((i + 1) % k) hm
    have wm := YM_m hn hM (hS i (by omega)) (hS ((i + 1) % k) hm)
    have ev : rsum w sd S k i + (sd + w (S i) (S ((i + 1) % k))) = rsum w sd S k (i + 1) := by
      rw [show rsum w sd S k i = offs w sd S i from if_pos (by omega)]
      by_cases c : i + 1 < k
      · rw [show rsum w sd S k (i + 1) = offs w sd S (i + 1) from if_pos c, Nat.mod_eq_of_lt c]
        show _ = offs w sd S i + sd + w (S i) (S (i + 1))
        omega
      · have e1 : (i + 1) % k = 0 := by
          rw [show i + 1 = k by omega]
          exact Nat.mod_self k
        rw [show rsum w sd S k (i + 1) = perd w sd S k from if_neg c, e1, perd_e hk0, show k - 1 = i by omega]
        omega
    have k2 := ih (i + 1) f (by omega) (by omega)
    rw [← ev] at k2
    rw [f_X10_oneRound_4, e44]
    rw [show (1 : Int32) = iI 1 from rfl, er]
    simp +decide (maxSteps := 2000000) (disch := omega) only [↓gl_p, ↓bs_p, iI_lit, iI_neg, iI_add, iI_sub, iI_mul, gk_p, bs_p, bz0, bz1, pI_row, pI_snd, pA_row, pA_snd, pL_fst, pL_row, pB_fst, pB_row, upd_at, ↓reduceIte, Int.reduceToNat, Nat.reduceEqDiff, iI_lt, iI_le, iI_eq, iI_inb, iI_nat, iI_nz, g, q1, q2, wm, hM.2.1, Int.toNat_natCast]
    exact k2
theorem s_one {m : gS} {n k sd : Nat} {w : Nat → Nat → Nat} {S : Nat → Nat} (hn : n ≤ 9) (hR : RO n k S m) (hM : YM n w sd m) : f_X10_oneRound m = some (iI (perd w sd S k : Nat)) := by
  have h := w_one hn hR hM k 0 999999 (by omega) (by have := hR.1; omega)
  have e : rsum w sd S k 0 = 0 := by
    unfold rsum
    split
    · rfl
    · unfold perd
      rw [if_pos (by omega)]
  rw [e] at h
  exact h
theorem e_round (L : LawT) : EQ_round (Rel1 L) := by
  intro x m a1 a2 hR
  obtain ⟨s, rfl, hs1, hs2⟩ := iI_of a1
  obtain ⟨v, rfl, hv1, hv2⟩ := iI_of a2
  obtain ⟨⟨n, nb, hP, hC, hT, hD, hI, hK, hS⟩, hL⟩ := id hR
  have hn := hP.1
  unfold f_X9_round f_X10_round
  by_cases c1 : 0 ≤ s ∧ s ≤ 5
  rotate_left
  · simp +decide (maxSteps := 2000000) (disch := omega) only [↓gl_p, ↓bs_p, iI_lit, iI_neg, iI_add, iI_sub, iI_mul, gk_p, bs_p, bz0, bz1, pI_row, pI_snd, pA_row, pA_snd, pL_fst, pL_row, pB_fst, pB_row, upd_at, ↓reduceIte, Int.reduceToNat, Nat.reduceEqDiff, iI_lt, iI_le, iI_eq, iI_inb, iI_nat, iI_nz, c1, s_shX, s_shM, bI_0, not_false_eq_true]
    exact ⟨_, _, _, rfl, rfl, hR⟩
  by_cases c2 : 0 ≤ v ∧ v ≤ 1
  rotate_left
  · simp +decide (maxSteps := 2000000) (disch := omega) only [↓gl_p, ↓bs_p, iI_lit, iI_neg, iI_add, iI_sub, iI_mul, gk_p, bs_p, bz0, bz1, pI_row, pI_snd, pA_row, pA_snd, pL_fst, pL_row, pB_fst, pB_row, upd_at, ↓reduceIte, Int.reduceToNat, Nat.reduceEqDiff, iI_lt, iI_le, iI_eq, iI_inb, iI_nat, iI_nz, c1, c2, s_shX, s_shM, s_wi, s_eith, bI_0, not_false_eq_true, not_true_eq_false, and_self]
    exact ⟨_, _, _, rfl, rfl, hR⟩
  obtain ⟨u, hu, rfl⟩ : ∃ k : Nat, k < 6 ∧ s = (k : Int) := ⟨s.toNat, by omega, by omega⟩
  rcases lay3 hP hK.1 hS hu with ⟨b, hb, l1, l2⟩ | ⟨k, w, sd, S, y, m2, l1, l2, l3, h1, h2, hY, hM, hC, hO⟩
  · have hb2 : ¬ 0 ≤ b := by omega
    simp +decide (maxSteps := 2000000) (disch := omega) only [↓gl_p, ↓bs_p, iI_lit, iI_neg, iI_add, iI_sub, iI_mul, gk_p, bs_p, bz0, bz1, pI_row, pI_snd, pA_row, pA_snd, pL_fst, pL_row, pB_fst, pB_row, upd_at, ↓reduceIte, Int.reduceToNat, Nat.reduceEqDiff, iI_lt, iI_le, iI_eq, iI_inb, iI_nat, iI_nz, c1, c2, s_shX, s_shM, s_wi, s_eith, bI_0, not_true_eq_false, and_self, l1, l2, hb2]
    exact ⟨_, _, _, rfl, rfl, hR⟩
  · have hR2 := Rel1_sc hR (sc_co (by omega) (by omega) h1) (sc_rd h2)
    have o1 := s_one hn hO hM
    simp +decide (maxSteps := 2000000) (disch := omega) only [↓gl_p, ↓bs_p, iI_lit, iI_neg, iI_add, iI_sub, iI_mul, gk_p, bs_p, bz0, bz1, pI_row, pI_snd, pA_row, pA_snd, pL_fst, pL_row, pB_fst, pB_row, upd_at, ↓reduceIte, Int.reduceToNat, Nat.reduceEqDiff, iI_lt, iI_le, iI_eq, iI_inb, iI_nat, iI_nz, c1, c2, s_shX, s_shM, s_wi, s_eith, bI_0, not_true_eq_false, and_self, l1, l2, l3, o1, hC.2.2.1, hC.2.2.2.2.1, hO.2.2.1]
    by_cases c3 : v = 0
    · simp only [c3, ↓reduceIte]
      exact ⟨_, _, _, rfl, rfl, hR2⟩
    · simp only [c3, ↓reduceIte]
      exact ⟨_, _, _, rfl, rfl, hR2⟩
/-- the first place of a post -/
def fio (S : Nat → Nat) (p : Nat) : Nat → Nat → Nat
  | 0, i => i
  | r + 1, i => if S i = p then i else fio S p r (i + 1)
theorem fio_sp {S : Nat → Nat} {p : Nat} : ∀ r i, i ≤ fio S p r i ∧ fio S p r i ≤ i + r ∧ (∀ j, i ≤ j → j < fio S p r i → S j ≠ p) ∧ (fio S p r i < i + r → S (fio S p r i) = p) := by
  intro r
  induction r with
  | zero =>
    intro i
    exact ⟨Nat.le_refl _, Nat.le_refl _, fun j h1 h2 => by
      have h3 : j < i := h2
      omega, fun h => by
      have h3 : i < i + 0 := h
      omega⟩
  | succ r ih =>
    intro i
    by_cases c : S i = p
    · have e : fio S p (r + 1) i = i := if_pos c
      rw [e]
      exact ⟨Nat.le_refl _, by omega, fun j h1 h2 => by omega, fun _ => c⟩
    · have e : fio S p (r + 1) i = fio S p r (i + 1) := if_neg c
      obtain ⟨a1, a2, a3, a4⟩ := ih (i + 1)
      rw [e]
      refine ⟨by omega, by omega, fun j h1 h2 => ?_, fun h => a4 (by omega)⟩
      by_cases ej : j = i
      · rw [ej]
        exact c
      · exact a3 j (by omega) h2
def fmin (w : Nat → Nat → Nat) (sd : Nat) (S : Nat → Nat) (k p : Nat) : Int := if fio S p k 0 < k then ((Tm w sd S k (fio S p k 0) : Nat) : Int) else -2
theorem w_fmo {x : gS} {n k sd : Nat} {w : Nat → Nat → Nat} {S : Nat → Nat} (hn : n ≤ 9) (hC : CO 26 n k w sd S x) {p : Nat} (hp : p < n) : ∀ (r i f : Nat), i + r = k → r ≤ f → f_X1_firstMinuteOf_2 x 26 (f + 1) (iI p) (iI i) = some (iI (if fio S p r i < k then ((Tm w sd S k (fio S p r i) : Nat) : Int) else -2)) := by
  obtain ⟨hk, hS, e4, e3, e5, eS⟩ := hC
  intro r
  induction r with
  | zero =>
    intro i f hi hf
    have g : (k : Int) ≤ (i : Int) := by omega
    have e : ¬ fio S p 0 i < k := by
      show ¬ i < k
      omega
    rw [f_X1_firstMinuteOf_2, if_neg e]
    simp +decide (maxSteps := 2000000) (disch := omega) only [↓gl_p, ↓bs_p, iI_lit, iI_neg, iI_add, iI_sub, iI_mul, gk_p, bs_p, bz0, bz1, pI_row, pI_snd, pA_row, pA_snd, pL_fst, pL_row, pB_fst, pB_row, upd_at, ↓reduceIte, Int.reduceToNat, Nat.reduceEqDiff, iI_lt, iI_le, iI_eq, iI_inb, iI_nat, iI_nz, e4, g]
  | succ r ih =>
    intro i f hi hf
    obtain ⟨f, rfl⟩ : ∃ q, f = q + 1 := ⟨f - 1, by omega⟩
    have g : ¬ (k : Int) ≤ (i : Int) := by omega
    have q1 := eS i (by omega)
    have hSi := hS i (by omega)
    by_cases c : S i = p
    · have e : fio S p (r + 1) i = i := if_pos c
      have c2 : ((S i : Nat) : Int) = p := by omega
      rw [e, if_pos (by omega), Tm_lt (by omega)]
      have el : ledM w S k = w 9 (S 0) := if_neg (by omega)
      rw [el] at e3
      rw [f_X1_firstMinuteOf_2]
      simp +decide (maxSteps := 2000000) (disch := omega) only [↓gl_p, ↓bs_p, iI_lit, iI_neg, iI_add, iI_sub, iI_mul, gk_p, bs_p, bz0, bz1, pI_row, pI_snd, pA_row, pA_snd, pL_fst, pL_row, pB_fst, pB_row, upd_at, ↓reduceIte, Int.reduceToNat, Nat.reduceEqDiff, iI_lt, iI_le, iI_eq, iI_inb, iI_nat, iI_nz, Nat.reduceAdd, e4, e3, g, q1.1, q1.2, c2, Int.toNat_natCast]
      rfl
    · have e : fio S p (r + 1) i = fio S p r (i + 1) := if_neg c
      have c2 : ¬ ((S i : Nat) : Int) = p := by omega
      have k2 := ih (i + 1) f (by omega) (by omega)
      rw [e, f_X1_firstMinuteOf_2]
      simp +decide (maxSteps := 2000000) (disch := omega) only [↓gl_p, ↓bs_p, iI_lit, iI_neg, iI_add, iI_sub, iI_mul, gk_p, bs_p, bz0, bz1, pI_row, pI_snd, pA_row, pA_snd, pL_fst, pL_row, pB_fst, pB_row, upd_at, ↓reduceIte, Int.reduceToNat, Nat.reduceEqDiff, iI_lt, iI_le, iI_eq, iI_inb, iI_nat, iI_nz, Nat.reduceAdd, e4, g, q1.1, c2, Int.toNat_natCast]
      exact k2
theorem s_fmo {x : gS} {n k sd : Nat} {w : Nat → Nat → Nat} {S : Nat → Nat} (hn : n ≤ 9) (hC : CO 26 n k w sd S x) {p : Nat} (hp : p < n) : f_X1_firstMinuteOf x 26 (iI p) = some (iI (fmin w sd S k p)) := w_fmo hn hC hp k 0 999999 (by omega) (by have := hC.1; omega)
theorem Tm_bd {n k sd : Nat} {w : Nat → Nat → Nat} {S : Nat → Nat} (hw : ∀ p q, okP n p → okP n q → w p q ≤ 270) (hd : sd ≤ 9) (hk : k ≤ 20) (hS : ∀ i, i < k → S i < n) {i : Nat} (hi : i < k) : Tm w sd S k i ≤ 6000 := by
  have g := offs_bd hw hd hS i hi
  have g2 := hw 9 (S 0) (Or.inr rfl) (Or.inl (hS 0 (by omega)))
  rw [Tm_lt hi]
  omega
theorem w_f46a {m : gS} {n k sd D : Nat} {w : Nat → Nat → Nat} {S : Nat → Nat} (hn : n ≤ 9) (hS : ∀ i, i < k → S i < n) (hk0 : 0 < k) (hW : WK 4000 D w sd S k m) {p : Nat} (hp : p < n) {i0 : Nat} (h0 : i0 < D) (h1 : S (i0 % k) = p) (h2 : ∀ j, j < i0 → S (j % k) ≠ p) (h3 : Tm w sd S k i0 ≤ 999) : ∀ (r i f : Nat), i + r = i0 → r ≤ f → f_X10_first_46 (f + 1) (iI p) (iI i) m = some (iI (Tm w sd S k i0 : Nat), m) := by
  obtain ⟨d1, d2, d3, d4⟩ := hW
  intro r
  induction r with
  | zero =>
    intro i f hi hf
    have e : i = i0 := by omega
    subst e
    have g : ¬ (D : Int) ≤ (i : Int) := by omega
    have q := d3 i h0
    have hSi := hS (i % k) (Nat.mod_lt _ hk0)
    have c2 : ((S (i % k) : Nat) : Int) = p := by omega
    have c3 : ¬ 1000 ≤ ((Tm w sd S k i : Nat) : Int) := by omega
    rw [f_X10_first_46]
    simp +decide (maxSteps := 2000000) (disch := omega) only [↓gl_p, ↓bs_p, iI_lit, iI_neg, iI_add, iI_sub, iI_mul, gk_p, bs_p, bz0, bz1, pI_row, pI_snd, pA_row, pA_snd, pL_fst, pL_row, pB_fst, pB_row, upd_at, ↓reduceIte, Int.reduceToNat, Nat.reduceEqDiff, iI_lt, iI_le, iI_eq, iI_inb, iI_nat, iI_nz, d2, g, q.1, q.2.1, c2, c3, Int.toNat_natCast]
  | succ r ih =>
    intro i f hi hf
    obtain ⟨f, rfl⟩ : ∃ q, f = q + 1 := ⟨f - 1, by omega⟩
    have g : ¬ (D : Int) ≤ (i : Int) := by omega
    have q := d3 i (by omega)
    have hSi := hS (i % k) (Nat.mod_lt _ hk0)
    have c1 := h2 i (by omega)
    have c2 : ¬ ((S (i % k) : Nat) : Int) = p := by omega
    have k2 := ih (i + 1) f (by omega) (by omega)
    rw [f_X10_first_46]
    simp +decide (maxSteps := 2000000) (disch := omega) only [↓gl_p, ↓bs_p, iI_lit, iI_neg, iI_add, iI_sub, iI_mul, gk_p, bs_p, bz0, bz1, pI_row, pI_snd, pA_row, pA_snd, pL_fst, pL_row, pB_fst, pB_row, upd_at, ↓reduceIte, Int.reduceToNat, Nat.reduceEqDiff, iI_lt, iI_le, iI_eq, iI_inb, iI_nat, iI_nz, d2, g, q.2.1, c2, Int.toNat_natCast]
    exact k2
theorem w_f46b {m : gS} {n k sd D : Nat} {w : Nat → Nat → Nat} {S : Nat → Nat} (hn : n ≤ 9) (hS : ∀ i, i < k → S i < n) (hW : WK 4000 D w sd S k m) (hk0 : 0 < D → 0 < k) {p : Nat} (hp : p < n) (h2 : ∀ j, j < D → S (j % k) = p → 1000 ≤ Tm w sd S k j) : ∀ (r i f : Nat), i + r = D → r ≤ f → f_X10_first_46 (f + 1) (iI p) (iI i) m = some (iI (-2), m) := by
  obtain ⟨d1, d2, d3, d4⟩ := hW
  intro r
  induction r with
  | zero =>
    intro i f hi hf
    have g : (D : Int) ≤ (i : Int) := by omega
    rw [f_X10_first_46]
    simp +decide (maxSteps := 2000000) (disch := omega) only [↓gl_p, ↓bs_p, iI_lit, iI_neg, iI_add, iI_sub, iI_mul, gk_p, bs_p, bz0, bz1, pI_row, pI_snd, pA_row, pA_snd, pL_fst, pL_row, pB_fst, pB_row, upd_at, ↓reduceIte, Int.reduceToNat, Nat.reduceEqDiff, iI_lt, iI_le, iI_eq, iI_inb, iI_nat, iI_nz, d2, g]
  | succ r ih =>
    intro i f hi hf
    obtain ⟨f, rfl⟩ : ∃ q, f = q + 1 := ⟨f - 1, by omega⟩
    have g : ¬ (D : Int) ≤ (i : Int) := by omega
    have q := d3 i (by omega)
    have hSi := hS (i % k) (Nat.mod_lt _ (hk0 (by omega)))
    have k2 := ih (i + 1) f (by omega) (by omega)
    by_cases c : S (i % k) = p
    · have c2 : ((S (i % k) : Nat) : Int) = p := by omega
      have c4 := h2 i (by omega) c
      have c3 : 1000 ≤ ((Tm w sd S k i : Nat) : Int) := by omega
      rw [f_X10_first_46]
      simp +decide (maxSteps := 2000000) (disch := omega) only [↓gl_p, ↓bs_p, iI_lit, iI_neg, iI_add, iI_sub, iI_mul, gk_p, bs_p, bz0, bz1, pI_row, pI_snd, pA_row, pA_snd, pL_fst, pL_row, pB_fst, pB_row, upd_at, ↓reduceIte, Int.reduceToNat, Nat.reduceEqDiff, iI_lt, iI_le, iI_eq, iI_inb, iI_nat, iI_nz, d2, g, q.1, q.2.1, c2, c3, Int.toNat_natCast]
      exact k2
    · have c2 : ¬ ((S (i % k) : Nat) : Int) = p := by omega
      rw [f_X10_first_46]
      simp +decide (maxSteps := 2000000) (disch := omega) only [↓gl_p, ↓bs_p, iI_lit, iI_neg, iI_add, iI_sub, iI_mul, gk_p, bs_p, bz0, bz1, pI_row, pI_snd, pA_row, pA_snd, pL_fst, pL_row, pB_fst, pB_row, upd_at, ↓reduceIte, Int.reduceToNat, Nat.reduceEqDiff, iI_lt, iI_le, iI_eq, iI_inb, iI_nat, iI_nz, d2, g, q.2.1, c2, Int.toNat_natCast]
      exact k2
theorem WK_k {m : gS} {k sd D high : Nat} {w : Nat → Nat → Nat} {S : Nat → Nat} (hW : WK high D w sd S k m) (h : 0 < D) : 0 < k := by
  rcases Nat.eq_zero_or_pos k with e | e
  · have g := (hW.2.2.1 0 h).2.2
    unfold Tm at g
    rw [if_pos e] at g
    omega
  · exact e
theorem WK_in {m : gS} {k sd D high i : Nat} {w : Nat → Nat → Nat} {S : Nat → Nat} (hW : WK high D w sd S k m) (hi : i < high) (h : Tm w sd S k i < 2000) : i < D := by
  by_cases c : i < D
  · exact c
  · have g := hW.2.2.2 (by omega)
    have g2 := Tm_mono (w := w) (sd := sd) (S := S) (k := k) (show D ≤ i by omega)
    omega
theorem e_first (L : LawT) : EQ_first (Rel1 L) := by
  intro x m a1 a2 hR
  obtain ⟨s, rfl, hs1, hs2⟩ := iI_of a1
  obtain ⟨v, rfl, hv1, hv2⟩ := iI_of a2
  obtain ⟨⟨n, nb, hP, hC, hT, hD, hI, hK, hS⟩, hL⟩ := id hR
  have hn := hP.1
  have px := s_poX (σ := x) hn hP.2.1 hv1 hv2
  have pm := s_poM (σ := m) hn hP.2.2.1 hv1 hv2
  unfold f_X9_first f_X10_first
  by_cases c1 : 0 ≤ s ∧ s ≤ 5
  rotate_left
  · simp +decide (maxSteps := 2000000) (disch := omega) only [↓gl_p, ↓bs_p, iI_lit, iI_neg, iI_add, iI_sub, iI_mul, gk_p, bs_p, bz0, bz1, pI_row, pI_snd, pA_row, pA_snd, pL_fst, pL_row, pB_fst, pB_row, upd_at, ↓reduceIte, Int.reduceToNat, Nat.reduceEqDiff, iI_lt, iI_le, iI_eq, iI_inb, iI_nat, iI_nz, c1, s_shX, s_shM, bI_0, not_false_eq_true]
    exact ⟨_, _, _, rfl, rfl, hR⟩
  by_cases c2 : 0 ≤ v ∧ v < n
  rotate_left
  · simp +decide (maxSteps := 2000000) (disch := omega) only [↓gl_p, ↓bs_p, iI_lit, iI_neg, iI_add, iI_sub, iI_mul, gk_p, bs_p, bz0, bz1, pI_row, pI_snd, pA_row, pA_snd, pL_fst, pL_row, pB_fst, pB_row, upd_at, ↓reduceIte, Int.reduceToNat, Nat.reduceEqDiff, iI_lt, iI_le, iI_eq, iI_inb, iI_nat, iI_nz, c1, c2, s_shX, s_shM, lL_i, px, pm, bI_0, not_false_eq_true, not_true_eq_false, and_self]
    exact ⟨_, _, _, rfl, rfl, hR⟩
  obtain ⟨u, hu, rfl⟩ : ∃ k : Nat, k < 6 ∧ s = (k : Int) := ⟨s.toNat, by omega, by omega⟩
  obtain ⟨p, hp, rfl⟩ : ∃ k : Nat, k < n ∧ v = (k : Int) := ⟨v.toNat, by omega, by omega⟩
  rcases lay3 hP hK.1 hS hu with ⟨b, hb, l1, l2⟩ | ⟨k, w, sd, S, y, m2, l1, l2, l3, h1, h2, hY, hM, hC, hO⟩
  · have hb2 : ¬ 0 ≤ b := by omega
    simp +decide (maxSteps := 2000000) (disch := omega) only [↓gl_p, ↓bs_p, iI_lit, iI_neg, iI_add, iI_sub, iI_mul, gk_p, bs_p, bz0, bz1, pI_row, pI_snd, pA_row, pA_snd, pL_fst, pL_row, pB_fst, pB_row, upd_at, ↓reduceIte, Int.reduceToNat, Nat.reduceEqDiff, iI_lt, iI_le, iI_eq, iI_inb, iI_nat, iI_nz, c1, c2, s_shX, s_shM, lL_i, px, pm, bI_0, not_true_eq_false, and_self, l1, l2, hb2]
    exact ⟨_, _, _, rfl, rfl, hR⟩
  · have hw : ∀ p q, okP n p → okP n q → w p q ≤ 270 := fun p q hp hq => (hY.2.2.2.2 p q hp hq).1
    obtain ⟨m3, D, w1, w2, hW⟩ := s_walks hn hw hY.2.1 hO hM (high := 4000) (by omega)
    have hR2 := Rel1_sc hR (sc_co (by omega) (by omega) h1) (Ch_tr (sc_rd h2) (sc_wa w2))
    have fm := s_fmo hn hC hp
    obtain ⟨b1, b2, b3, b4⟩ := fio_sp (S := S) (p := p) k 0
    have w1' : f_X10_walks m2 (iI 4000) = some m3 := w1
    by_cases ca : fio S p k 0 < k ∧ Tm w sd S k (fio S p k 0) ≤ 999
    · have ef : fmin w sd S k p = ((Tm w sd S k (fio S p k 0) : Nat) : Int) := if_pos ca.1
      have g : ((Tm w sd S k (fio S p k 0) : Nat) : Int) ≤ 999 := by omega
      rw [ef] at fm
      have em : fio S p k 0 % k = fio S p k 0 := Nat.mod_eq_of_lt ca.1
      have hk20 := hC.1
      have k2 := w_f46a hn hC.2.1 (by omega) hW hp (i0 := fio S p k 0) (WK_in hW (by omega) (by omega)) (by rw [em]; exact b4 (by omega)) (fun j hj => by
        rw [Nat.mod_eq_of_lt (by omega)]
        exact b3 j (by omega) hj) ca.2 (fio S p k 0) 0 999999 (by omega) (by omega)
      simp +decide (maxSteps := 2000000) (disch := omega) only [↓gl_p, ↓bs_p, iI_lit, iI_neg, iI_add, iI_sub, iI_mul, gk_p, bs_p, bz0, bz1, pI_row, pI_snd, pA_row, pA_snd, pL_fst, pL_row, pB_fst, pB_row, upd_at, ↓reduceIte, Int.reduceToNat, Nat.reduceEqDiff, iI_lt, iI_le, iI_eq, iI_inb, iI_nat, iI_nz, c1, c2, s_shX, s_shM, lL_i, px, pm, bI_0, not_true_eq_false, and_self, l1, l2, l3, w1', fm, g]
      exact ⟨_, _, _, rfl, k2, hR2⟩
    · have k2 := w_f46b hn hC.2.1 hW (WK_k hW) hp (fun j hj hSj => by
        have hk0 := WK_k hW (by omega)
        have hm := Nat.mod_lt j hk0
        have hle := Nat.mod_le j k
        have q1 : fio S p k 0 ≤ j % k := by
          by_cases q : j % k < fio S p k 0
          · exact absurd hSj (b3 (j % k) (by omega) q)
          · omega
        have q2 := Tm_mono (w := w) (sd := sd) (S := S) (k := k) (show fio S p k 0 ≤ j by omega)
        omega) D 0 999999 (by omega) (by have := hW.1; omega)
      have fr : fmin w sd S k p = -2 ∨ (1000 ≤ fmin w sd S k p ∧ fmin w sd S k p ≤ 6000) := by
        unfold fmin
        split
        · rename_i q
          have q2 := Tm_bd hw hY.2.1 hC.1 hC.2.1 q
          omega
        · exact Or.inl rfl
      rcases fr with fr | fr
      · rw [fr] at fm
        simp +decide (maxSteps := 2000000) (disch := omega) only [↓gl_p, ↓bs_p, iI_lit, iI_neg, iI_add, iI_sub, iI_mul, gk_p, bs_p, bz0, bz1, pI_row, pI_snd, pA_row, pA_snd, pL_fst, pL_row, pB_fst, pB_row, upd_at, ↓reduceIte, Int.reduceToNat, Nat.reduceEqDiff, iI_lt, iI_le, iI_eq, iI_inb, iI_nat, iI_nz, c1, c2, s_shX, s_shM, lL_i, px, pm, bI_0, not_true_eq_false, and_self, l1, l2, l3, w1', fm]
        exact ⟨_, _, _, rfl, k2, hR2⟩
      · have g : ¬ fmin w sd S k p ≤ 999 := by omega
        simp +decide (maxSteps := 2000000) (disch := omega) only [↓gl_p, ↓bs_p, iI_lit, iI_neg, iI_add, iI_sub, iI_mul, gk_p, bs_p, bz0, bz1, pI_row, pI_snd, pA_row, pA_snd, pL_fst, pL_row, pB_fst, pB_row, upd_at, ↓reduceIte, Int.reduceToNat, Nat.reduceEqDiff, iI_lt, iI_le, iI_eq, iI_inb, iI_nat, iI_nz, c1, c2, s_shX, s_shM, lL_i, px, pm, bI_0, not_true_eq_false, and_self, l1, l2, l3, w1', fm, g]
        exact ⟨_, _, _, rfl, k2, hR2⟩
theorem w_by56 {m : gS} {k sd D : Nat} {w : Nat → Nat → Nat} {S : Nat → Nat} (hW : WK 4000 D w sd S k m) {v : Int} (v1 : 0 ≤ v) (v2 : v ≤ 1999) (q : Int32) : ∀ (r c f : Nat), c + r = D → r ≤ f → (∀ i, i < c → ((Tm w sd S k i : Nat) : Int) ≤ v) → ∃ C, isC (Tm w sd S k) v C ∧ C ≤ D ∧ f_X10_by_56 (f + 1) (iI v) q (iI c) m = f_X10_by_82 q (iI C) m := by
  obtain ⟨d1, d2, d3, d4⟩ := hW
  intro r
  induction r with
  | zero =>
    intro c f hc hf ho
    have g : (D : Int) ≤ (c : Int) := by omega
    refine ⟨c, ⟨by omega, ho, fun h => ?_⟩, by omega, ?_⟩
    · have q := d4 (by omega)
      rw [show c = D by omega]
      omega
    · rw [f_X10_by_56]
      simp +decide (maxSteps := 2000000) (disch := omega) only [↓gl_p, ↓bs_p, iI_lit, iI_neg, iI_add, iI_sub, iI_mul, gk_p, bs_p, bz0, bz1, pI_row, pI_snd, pA_row, pA_snd, pL_fst, pL_row, pB_fst, pB_row, upd_at, ↓reduceIte, Int.reduceToNat, Nat.reduceEqDiff, iI_lt, iI_le, iI_eq, iI_inb, iI_nat, iI_nz, d2, g]
  | succ r ih =>
    intro c f hc hf ho
    obtain ⟨f, rfl⟩ : ∃ q, f = q + 1 := ⟨f - 1, by omega⟩
    have g : ¬ (D : Int) ≤ (c : Int) := by omega
    have q := d3 c (by omega)
    by_cases h : v < ((Tm w sd S k c : Nat) : Int)
    · refine ⟨c, ⟨by omega, ho, fun _ => h⟩, by omega, ?_⟩
      rw [f_X10_by_56]
      simp +decide (maxSteps := 2000000) (disch := omega) only [↓gl_p, ↓bs_p, iI_lit, iI_neg, iI_add, iI_sub, iI_mul, gk_p, bs_p, bz0, bz1, pI_row, pI_snd, pA_row, pA_snd, pL_fst, pL_row, pB_fst, pB_row, upd_at, ↓reduceIte, Int.reduceToNat, Nat.reduceEqDiff, iI_lt, iI_le, iI_eq, iI_inb, iI_nat, iI_nz, d2, g, q.1, h, Int.toNat_natCast]
    · obtain ⟨C, a1, a2, a3⟩ := ih (c + 1) f (by omega) (by omega) (fun i hi => by
        by_cases e : i = c
        · rw [e]
          omega
        · exact ho i (by omega))
      refine ⟨C, a1, a2, ?_⟩
      rw [f_X10_by_56]
      simp +decide (maxSteps := 2000000) (disch := omega) only [↓gl_p, ↓bs_p, iI_lit, iI_neg, iI_add, iI_sub, iI_mul, gk_p, bs_p, bz0, bz1, pI_row, pI_snd, pA_row, pA_snd, pL_fst, pL_row, pB_fst, pB_row, upd_at, ↓reduceIte, Int.reduceToNat, Nat.reduceEqDiff, iI_lt, iI_le, iI_eq, iI_inb, iI_nat, iI_nz, d2, g, q.1, h, Int.toNat_natCast]
      exact a3
theorem s_miX (σ : gS) {a : Int} (h1 : -2147483648 ≤ a) (h2 : a < 2147483648) : f_X9_isMinute σ (iI a) = some (bI (0 ≤ a ∧ a ≤ 999)) := by
  unfold f_X9_isMinute bI
  simp +decide (maxSteps := 2000000) (disch := omega) only [↓gl_p, ↓bs_p, iI_lit, iI_neg, iI_add, iI_sub, iI_mul, gk_p, bs_p, bz0, bz1, pI_row, pI_snd, pA_row, pA_snd, pL_fst, pL_row, pB_fst, pB_row, upd_at, ↓reduceIte, Int.reduceToNat, Nat.reduceEqDiff, iI_lt, iI_le, iI_eq, iI_inb, iI_nat, iI_nz]
  (repeat' split) <;> first | rfl | (exfalso; omega)
theorem s_miM (σ : gS) {a : Int} (h1 : -2147483648 ≤ a) (h2 : a < 2147483648) : f_X10_isMinute σ (iI a) = some (bI (0 ≤ a ∧ a ≤ 999)) := by
  unfold f_X10_isMinute
  simp +decide (maxSteps := 2000000) (disch := omega) only [↓gl_p, ↓bs_p, iI_lit, iI_neg, iI_add, iI_sub, iI_mul, gk_p, bs_p, bz0, bz1, pI_row, pI_snd, pA_row, pA_snd, pL_fst, pL_row, pB_fst, pB_row, upd_at, ↓reduceIte, Int.reduceToNat, Nat.reduceEqDiff, iI_lt, iI_le, iI_eq, iI_inb, iI_nat, iI_nz, s_wi, bI_z]
theorem e_by (L : LawT) : EQ_by (Rel1 L) := by
  intro x m a1 a2 a3 hR
  obtain ⟨s, rfl, hs1, hs2⟩ := iI_of a1
  obtain ⟨v, rfl, hv1, hv2⟩ := iI_of a2
  obtain ⟨q, rfl, hq1, hq2⟩ := iI_of a3
  obtain ⟨⟨n, nb, hP, hC, hT, hD, hI, hK, hS⟩, hL⟩ := id hR
  have hn := hP.1
  unfold f_X9_by f_X10_by
  by_cases c1 : 0 ≤ s ∧ s ≤ 5
  rotate_left
  · simp +decide (maxSteps := 2000000) (disch := omega) only [↓gl_p, ↓bs_p, iI_lit, iI_neg, iI_add, iI_sub, iI_mul, gk_p, bs_p, bz0, bz1, pI_row, pI_snd, pA_row, pA_snd, pL_fst, pL_row, pB_fst, pB_row, upd_at, ↓reduceIte, Int.reduceToNat, Nat.reduceEqDiff, iI_lt, iI_le, iI_eq, iI_inb, iI_nat, iI_nz, c1, s_shX, s_shM, bI_0, not_false_eq_true]
    exact ⟨_, _, _, rfl, rfl, hR⟩
  by_cases c2 : 0 ≤ v ∧ v ≤ 999
  rotate_left
  · simp +decide (maxSteps := 2000000) (disch := omega) only [↓gl_p, ↓bs_p, iI_lit, iI_neg, iI_add, iI_sub, iI_mul, gk_p, bs_p, bz0, bz1, pI_row, pI_snd, pA_row, pA_snd, pL_fst, pL_row, pB_fst, pB_row, upd_at, ↓reduceIte, Int.reduceToNat, Nat.reduceEqDiff, iI_lt, iI_le, iI_eq, iI_inb, iI_nat, iI_nz, c1, c2, s_shX, s_shM, s_miX, s_miM, bI_0, not_false_eq_true, not_true_eq_false, and_self]
    exact ⟨_, _, _, rfl, rfl, hR⟩
  by_cases c3 : 0 ≤ q ∧ q ≤ 1
  rotate_left
  · simp +decide (maxSteps := 2000000) (disch := omega) only [↓gl_p, ↓bs_p, iI_lit, iI_neg, iI_add, iI_sub, iI_mul, gk_p, bs_p, bz0, bz1, pI_row, pI_snd, pA_row, pA_snd, pL_fst, pL_row, pB_fst, pB_row, upd_at, ↓reduceIte, Int.reduceToNat, Nat.reduceEqDiff, iI_lt, iI_le, iI_eq, iI_inb, iI_nat, iI_nz, c1, c2, c3, s_shX, s_shM, s_miX, s_miM, s_wi, s_eith, bI_0, not_false_eq_true, not_true_eq_false, and_self]
    exact ⟨_, _, _, rfl, rfl, hR⟩
  obtain ⟨u, hu, rfl⟩ : ∃ k : Nat, k < 6 ∧ s = (k : Int) := ⟨s.toNat, by omega, by omega⟩
  rcases lay3 hP hK.1 hS hu with ⟨b, hb, l1, l2⟩ | ⟨k, w, sd, S, y, m2, l1, l2, l3, h1, h2, hY, hM, hC, hO⟩
  · have hb2 : ¬ 0 ≤ b := by omega
    simp +decide (maxSteps := 2000000) (disch := omega) only [↓gl_p, ↓bs_p, iI_lit, iI_neg, iI_add, iI_sub, iI_mul, gk_p, bs_p, bz0, bz1, pI_row, pI_snd, pA_row, pA_snd, pL_fst, pL_row, pB_fst, pB_row, upd_at, ↓reduceIte, Int.reduceToNat, Nat.reduceEqDiff, iI_lt, iI_le, iI_eq, iI_inb, iI_nat, iI_nz, c1, c2, c3, s_shX, s_shM, s_miX, s_miM, s_wi, s_eith, bI_0, not_true_eq_false, and_self, l1, l2, hb2]
    exact ⟨_, _, _, rfl, rfl, hR⟩
  · have hw : ∀ p q, okP n p → okP n q → w p q ≤ 270 := fun p q hp hq => (hY.2.2.2.2 p q hp hq).1
    obtain ⟨m3, D, w1, w2, hW⟩ := s_walks hn hw hY.2.1 hO hM (high := 4000) (by omega)
    have hR2 := Rel1_sc hR (sc_co (by omega) (by omega) h1) (Ch_tr (sc_rd h2) (sc_wa w2))
    have w1' : f_X10_walks m2 (iI 4000) = some m3 := w1
    obtain ⟨C, q1, q2⟩ := s_dBy_26 hC hw hY.2.1 (v := v) (by omega) (by omega)
    obtain ⟨C2, q3, q4, q5⟩ := w_by56 hW c2.1 (by omega) (iI q) D 0 999999 (by omega) (by have := hW.1; omega) (fun i hi => absurd hi (by omega))
    have e : C2 = C := isC_u q3 q2
    subst e
    have hC4 := q2.1
    simp +decide (maxSteps := 2000000) (disch := omega) only [↓gl_p, ↓bs_p, iI_lit, iI_neg, iI_add, iI_sub, iI_mul, gk_p, bs_p, bz0, bz1, pI_row, pI_snd, pA_row, pA_snd, pL_fst, pL_row, pB_fst, pB_row, upd_at, ↓reduceIte, Int.reduceToNat, Nat.reduceEqDiff, iI_lt, iI_le, iI_eq, iI_inb, iI_nat, iI_nz, c1, c2, c3, s_shX, s_shM, s_miX, s_miM, s_wi, s_eith, bI_0, not_true_eq_false, and_self, l1, l2, l3, w1', q1]
    rw [show f_X10_by_56 gN (iI v) (iI q) (iI 0) m3 = _ from q5]
    unfold f_X10_by_82
    by_cases c4 : q = 1
    · simp +decide (maxSteps := 2000000) (disch := omega) only [↓gl_p, ↓bs_p, iI_lit, iI_neg, iI_add, iI_sub, iI_mul, gk_p, bs_p, bz0, bz1, pI_row, pI_snd, pA_row, pA_snd, pL_fst, pL_row, pB_fst, pB_row, upd_at, ↓reduceIte, Int.reduceToNat, Nat.reduceEqDiff, iI_lt, iI_le, iI_eq, iI_inb, iI_nat, iI_nz, c4]
      exact ⟨_, _, _, rfl, rfl, hR2⟩
    by_cases c5 : C2 = 0
    · have c6 : (C2 : Int) = 0 := by omega
      simp +decide (maxSteps := 2000000) (disch := omega) only [↓gl_p, ↓bs_p, iI_lit, iI_neg, iI_add, iI_sub, iI_mul, gk_p, bs_p, bz0, bz1, pI_row, pI_snd, pA_row, pA_snd, pL_fst, pL_row, pB_fst, pB_row, upd_at, ↓reduceIte, Int.reduceToNat, Nat.reduceEqDiff, iI_lt, iI_le, iI_eq, iI_inb, iI_nat, iI_nz, c4, c6]
      exact ⟨_, _, _, rfl, rfl, hR2⟩
    · have c6 : ¬ (C2 : Int) = 0 := by omega
      have hk0 := WK_k hW (by omega)
      have st := s_stop_26 hC hk0 (i := C2 - 1) (by omega)
      have e1 : ((C2 - 1 : Nat) : Int) = (C2 : Int) - 1 := by omega
      have t1 : ((C2 : Int) - 1).toNat = C2 - 1 := by omega
      rw [e1] at st
      have dp := (hW.2.2.1 (C2 - 1) (by omega)).2.1
      simp +decide (maxSteps := 2000000) (disch := omega) only [↓gl_p, ↓bs_p, iI_lit, iI_neg, iI_add, iI_sub, iI_mul, gk_p, bs_p, bz0, bz1, pI_row, pI_snd, pA_row, pA_snd, pL_fst, pL_row, pB_fst, pB_row, upd_at, ↓reduceIte, Int.reduceToNat, Nat.reduceEqDiff, iI_lt, iI_le, iI_eq, iI_inb, iI_nat, iI_nz, c4, c6, st, t1, dp]
      exact ⟨_, _, _, rfl, rfl, hR2⟩
