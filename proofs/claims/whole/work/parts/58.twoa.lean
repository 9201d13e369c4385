/-! ===== two behind one another: pure, and the class ===== -/
def eAh (ev : Nat → Bool) : Nat → Int
  | 0 => -1
  | t + 1 => if ev t then (t : Int) else eAh ev t
def eMo (ev : Nat → Bool) : Nat → Int
  | 0 => 0
  | t + 1 => if ev t then (if eAh ev t < 0 then eMo ev t else if eMo ev t < (t : Int) - eAh ev t then (t : Int) - eAh ev t else eMo ev t) else eMo ev t
theorem eAh_rg {ev : Nat → Bool} : ∀ t, -1 ≤ eAh ev t ∧ eAh ev t < t := by
  intro t
  induction t with
  | zero =>
    show (-1 : Int) ≤ -1 ∧ (-1 : Int) < ((0 : Nat) : Int)
    omega
  | succ t ih =>
    show -1 ≤ (if ev t then (t : Int) else eAh ev t) ∧ (if ev t then (t : Int) else eAh ev t) < ((t + 1 : Nat) : Int)
    split <;> omega
theorem eMo_rg {ev : Nat → Bool} : ∀ t, 0 ≤ eMo ev t ∧ eMo ev t ≤ t := by
  intro t
  induction t with
  | zero =>
    show (0 : Int) ≤ 0 ∧ (0 : Int) ≤ ((0 : Nat) : Int)
    omega
  | succ t ih =>
    have g := eAh_rg (ev := ev) t
    show 0 ≤ (if ev t then (if eAh ev t < 0 then eMo ev t else if eMo ev t < (t : Int) - eAh ev t then (t : Int) - eAh ev t else eMo ev t) else eMo ev t) ∧ (if ev t then (if eAh ev t < 0 then eMo ev t else if eMo ev t < (t : Int) - eAh ev t then (t : Int) - eAh ev t else eMo ev t) else eMo ev t) ≤ ((t + 1 : Nat) : Int)
    (repeat' split) <;> omega
theorem eAh_y {ev : Nat → Bool} {t : Nat} (h : ev t = true) : eAh ev (t + 1) = t := by
  show (if ev t then (t : Int) else eAh ev t) = t
  rw [h]
  rfl
theorem eAh_n {ev : Nat → Bool} {t : Nat} (h : ev t = false) : eAh ev (t + 1) = eAh ev t := by
  show (if ev t then (t : Int) else eAh ev t) = _
  rw [h]
  rfl
theorem eMo_n {ev : Nat → Bool} {t : Nat} (h : ev t = false) : eMo ev (t + 1) = eMo ev t := by
  show (if ev t then _ else eMo ev t) = _
  rw [h]
  rfl
theorem eMo_y {ev : Nat → Bool} {t : Nat} (h : ev t = true) : eMo ev (t + 1) = if eAh ev t < 0 then eMo ev t else if eMo ev t < (t : Int) - eAh ev t then (t : Int) - eAh ev t else eMo ev t := by
  show (if ev t then (if eAh ev t < 0 then eMo ev t else if eMo ev t < (t : Int) - eAh ev t then (t : Int) - eAh ev t else eMo ev t) else eMo ev t) = _
  rw [h]
  rfl
theorem eGap {ev : Nat → Bool} {a : Nat} : ∀ r, (∀ s, a ≤ s → s < a + r → ev s = false) → eAh ev (a + r) = eAh ev a ∧ eMo ev (a + r) = eMo ev a := by
  intro r
  induction r with
  | zero => exact fun _ => ⟨rfl, rfl⟩
  | succ r ih =>
    intro h
    have g := ih (fun s h1 h2 => h s h1 (by omega))
    have e := h (a + r) (by omega) (by omega)
    rw [show a + (r + 1) = a + r + 1 by omega, eAh_n e, eMo_n e]
    exact g
/-- a gap needs two -/
theorem eMo_pos {ev : Nat → Bool} : ∀ t, 0 < eMo ev t → ∃ a b, a < b ∧ b < t ∧ ev a = true ∧ ev b = true := by
  intro t
  induction t with
  | zero =>
    intro h
    have h2 : (0 : Int) < 0 := h
    omega
  | succ t ih =>
    intro h
    cases hb : ev t
    · rw [eMo_n hb] at h
      obtain ⟨a, b, h1, h2, h3⟩ := ih h
      exact ⟨a, b, h1, by omega, h3⟩
    · by_cases c : eAh ev t < 0
      · rw [eMo_y hb, if_pos c] at h
        obtain ⟨a, b, h1, h2, h3⟩ := ih h
        exact ⟨a, b, h1, by omega, h3⟩
      · have key : ∀ u, 0 ≤ eAh ev u → ∃ a, a < u ∧ ev a = true := by
          intro u
          induction u with
          | zero =>
            intro q
            have q2 : (0 : Int) ≤ -1 := q
            omega
          | succ u ihu =>
            intro q
            cases hu : ev u
            · rw [eAh_n hu] at q
              obtain ⟨a, a1, a2⟩ := ihu q
              exact ⟨a, by omega, a2⟩
            · exact ⟨u, by omega, hu⟩
        obtain ⟨a, a1, a2⟩ := key t (by omega)
        exact ⟨a, t, a1, by omega, a2, hb⟩
def evb (b : Nat → Bool) (o t : Nat) : Bool := decide (o ≤ t) && (b t || b (t - o))
theorem evb_iff {b : Nat → Bool} {o t : Nat} : evb b o t = true ↔ o ≤ t ∧ (b t = true ∨ b (t - o) = true) := by
  unfold evb
  rw [Bool.and_eq_true, decide_eq_true_eq, Bool.or_eq_true]
theorem bool_f {c : Bool} (h : ¬ c = true) : c = false := by
  cases c
  · rfl
  · exact absurd rfl h
/-- what stands when the class has gone so far -/
def wInv (ev : Nat → Bool) (f : Nat → Nat) (o z own0 own sec st : Nat) (wi ah : Int) : Prop := (st = 0 ∧ ah = -2 ∧ wi = -2) ∨ (∃ t : Nat, 1 ≤ st ∧ ah = t ∧ t ≤ 999 ∧ eAh ev (t + 1) = t ∧ wi = (if st = 1 then -2 else eMo ev (t + 1)) ∧ (st = 1 → eMo ev (t + 1) = 0) ∧ (∀ i, own0 ≤ i → i < own → f i ≤ t) ∧ (∀ j, j < sec → f j + o ≤ t) ∧ (own < z → t ≤ f own) ∧ (sec < z → t ≤ f sec + o))
def wNx (ah wi : Int) (t : Nat) : Int := if ah = -2 then -2 else if wi < (t : Int) - ah then (t : Int) - ah else wi
section
variable {b : Nat → Bool} {f : Nat → Nat} {o z own0 own sec st : Nat} {wi ah : Int}
/-- one more of them: the values -/
theorem wAdv (hI : wInv (evb b o) f o z own0 own sec st wi ah) {t : Nat} (ht : t ≤ 999) (he : evb b o t = true) (hm : ∀ u : Nat, ah = u → u ≤ t) (hgap : ∀ s, s < t → evb b o s = true → ∃ u : Nat, ah = u ∧ s ≤ u) : eAh (evb b o) (t + 1) = t ∧ wNx ah wi t = (if st + 1 = 1 then -2 else eMo (evb b o) (t + 1)) ∧ (st + 1 = 1 → eMo (evb b o) (t + 1) = 0) := by
  refine ⟨eAh_y he, ?_⟩
  unfold wNx
  rcases hI with ⟨h0, h1, h2⟩ | ⟨u, h0, h1, h2, h3, h4, h5, -⟩
  · have g := eGap (ev := evb b o) (a := 0) t (fun s _ h4 => bool_f (fun h => by
      obtain ⟨u, u1, u2⟩ := hgap s (by omega) h
      omega))
    rw [Nat.zero_add] at g
    have e : eMo (evb b o) (t + 1) = 0 := by
      rw [eMo_y he, g.1, g.2]
      rfl
    rw [if_pos h1, if_pos (by omega)]
    exact ⟨rfl, fun _ => e⟩
  · have hu := hm u h1
    have g := eGap (ev := evb b o) (a := u + 1) (t - (u + 1)) (fun s q1 q2 => bool_f (fun h => by
      obtain ⟨v, v1, v2⟩ := hgap s (by omega) h
      omega))
    have mr := eMo_rg (ev := evb b o) (u + 1)
    refine ⟨?_, fun h => absurd h (by omega)⟩
    rw [if_neg (show ¬ ah = -2 by omega), if_neg (show ¬ st + 1 = 1 by omega)]
    by_cases c : u = t
    · subst c
      by_cases c1 : st = 1
      · rw [if_pos c1] at h4
        have e := h5 c1
        rw [if_pos (by omega)]
        omega
      · rw [if_neg c1] at h4
        rw [if_neg (by omega)]
        exact h4
    · rw [show u + 1 + (t - (u + 1)) = t by omega] at g
      have e2 : eMo (evb b o) (t + 1) = if eMo (evb b o) (u + 1) < (t : Int) - (u : Int) then (t : Int) - (u : Int) else eMo (evb b o) (u + 1) := by
        rw [eMo_y he, g.1, g.2, h3, if_neg (show ¬ (u : Int) < 0 by omega)]
      rw [e2]
      by_cases c1 : st = 1
      · rw [if_pos c1] at h4
        have e := h5 c1
        rw [if_pos (show wi < (t : Int) - ah by omega), if_pos (show eMo (evb b o) (u + 1) < (t : Int) - (u : Int) by omega)]
        omega
      · rw [if_neg c1] at h4
        rw [h4, h1]
end
theorem jm_i {wi ah : Int} {t : Nat} (h1 : -2 ≤ wi) (h2 : wi ≤ 2000) (h3 : -2 ≤ ah) (h4 : ah ≤ 999) (ht : t ≤ 999) (hn : ¬ ah = -2) : jmax (iI wi) (iI ((t : Int) - ah)) = iI (wNx ah wi t) := by
  unfold wNx
  rw [if_neg hn, jmax_i (by omega) (by omega) (by omega) (by omega)]
def wRes (b : Nat → Bool) (f : Nat → Nat) (o z own0 : Nat) (e : Option Int32) : Prop := ∃ st2 nb, e = some (iI (if st2 < 2 then -2 else eMo (evb b o) 1000)) ∧ st2 = (z - own0) + nb ∧ nb ≤ z ∧ (∀ j, j < nb → f j + o ≤ 999) ∧ (nb < z → 999 < f nb + o)
theorem w_wt23 {y : gS} {z o own0 : Nat} {f : Nat → Nat} {b : Nat → Bool} (hG : GR z f y) (hP : GP b 999 z f) (hz : z ≤ 2198) (ho : o ≤ 99) (h0 : own0 ≤ z) (h01 : ∀ i, i < own0 → f i < o) (h02 : own0 < z → o ≤ f own0) : ∀ (r own sec g st : Nat) (wi ah : Int), (z - own) + (z - sec) = r → r ≤ g → own0 ≤ own → own ≤ z → sec ≤ z → st = (own - own0) + sec → wInv (evb b o) f o z own0 own sec st wi ah → ∃ st2 nb, f_X6_widestOfTwo_23 y (g + 1) (iI o) (iI 999) (iI own) (iI sec) (iI wi) (iI ah) (iI st) = some (iI (if st2 < 2 then -2 else eMo (evb b o) 1000)) ∧ st2 = (z - own0) + nb ∧ nb ≤ z ∧ (∀ j, j < nb → f j + o ≤ 999) ∧ (nb < z → 999 < f nb + o) := by
  obtain ⟨g1, g2⟩ := hG
  obtain ⟨p1, p2, p3⟩ := hP
  have hown : ∀ i, own0 ≤ i → i < z → o ≤ f i := fun i h1 h2 => by
    have q := p3 own0 i h1 h2
    have q2 := h02 (by omega)
    omega
  -- the events are those that are left or gone
  have evIn : ∀ s, s ≤ 999 → evb b o s = true → (∃ i, own0 ≤ i ∧ i < z ∧ f i = s) ∨ (∃ j, j < z ∧ f j + o = s) := fun s hs he => by
    obtain ⟨e1, e2⟩ := evb_iff.mp he
    rcases e2 with e2 | e2
    · obtain ⟨i, i1, i2⟩ := p2 s hs e2
      refine Or.inl ⟨i, ?_, i1, i2⟩
      by_cases c : i < own0
      · have q := h01 i c
        omega
      · omega
    · obtain ⟨j, j1, j2⟩ := p2 (s - o) (by omega) e2
      exact Or.inr ⟨j, j1, by omega⟩
  have evOwn : ∀ i, own0 ≤ i → i < z → evb b o (f i) = true := fun i h1 h2 => evb_iff.mpr ⟨hown i h1 h2, Or.inl (p1 i h2).2⟩
  have evSec : ∀ j, j < z → evb b o (f j + o) = true := fun j h2 => evb_iff.mpr ⟨by omega, Or.inr (by rw [Nat.add_sub_cancel]; exact (p1 j h2).2)⟩
  intro r
  induction r with
  | zero =>
    intro own sec g st wi ah hr hg o1 o2 s1 hst hI
    have eo : own = z := by omega
    have es : sec = z := by omega
    have fin : wi = if st < 2 then -2 else eMo (evb b o) 1000 := by
      rcases hI with ⟨q0, q1, q2⟩ | ⟨t, q0, q1, q2, q3, q4, q5, q6, q7, -⟩
      · rw [if_pos (by omega)]
        exact q2
      · have gp := eGap (ev := evb b o) (a := t + 1) (1000 - (t + 1)) (fun s u1 u2 => bool_f (fun h => by
          rcases evIn s (by omega) h with ⟨i, i1, i2, i3⟩ | ⟨j, j1, j2⟩
          · have q := q6 i i1 (by omega)
            omega
          · have q := q7 j (by omega)
            omega))
        rw [show t + 1 + (1000 - (t + 1)) = 1000 by omega] at gp
        by_cases c : st = 1
        · rw [if_pos c] at q4
          rw [if_pos (by omega)]
          exact q4
        · rw [if_neg c] at q4
          rw [if_neg (by omega), gp.2]
          exact q4
    refine ⟨st, z, ?_, by omega, by omega, fun j hj => ?_, fun h => absurd h (by omega)⟩
    · rw [← fin]
      have c1 : (z : Int) ≤ (own : Int) := by omega
      have c2 : (z : Int) ≤ (sec : Int) := by omega
      have c3 : ¬ (2147483647 : Int) ≤ 999 := by omega
      have ej : jmin (iI 2147483647) (iI 2147483647) = iI 2147483647 := by
        rw [jmin_i (by omega) (by omega) (by omega) (by omega)]
        rfl
      rw [f_X6_widestOfTwo_23]
      unfold f_X6_widestOfTwo_53 f_X6_widestOfTwo_78
      by_cases c4 : 2 * (z : Int) ≤ (st : Int)
      · simp +decide (maxSteps := 2000000) (disch := omega) only [↓gl_p, ↓bs_p, iI_lit, iI_neg, iI_add, iI_sub, iI_mul, gk_p, bs_p, bz0, bz1, pI_row, pI_snd, pA_row, pA_snd, pL_fst, pL_row, pB_fst, pB_row, upd_at, ↓reduceIte, Int.reduceToNat, Nat.reduceEqDiff, iI_lt, iI_le, iI_eq, iI_inb, iI_nat, iI_nz, g1, c4]
      · simp +decide (maxSteps := 2000000) (disch := omega) only [↓gl_p, ↓bs_p, iI_lit, iI_neg, iI_add, iI_sub, iI_mul, gk_p, bs_p, bz0, bz1, pI_row, pI_snd, pA_row, pA_snd, pL_fst, pL_row, pB_fst, pB_row, upd_at, ↓reduceIte, Int.reduceToNat, Nat.reduceEqDiff, iI_lt, iI_le, iI_eq, iI_inb, iI_nat, iI_nz, g1, c1, c2, c4, ej]
    · rcases hI with ⟨q0, q1, q2⟩ | ⟨t, q0, q1, q2, q3, q4, q5, q6, q7, -⟩
      · omega
      · have q := q7 j (by omega)
        omega
  | succ r ih =>
    intro own sec g st wi ah hr hg o1 o2 s1 hst hI
    obtain ⟨g, rfl⟩ : ∃ q, g = q + 1 := ⟨g - 1, by omega⟩
    have rng : -2 ≤ wi ∧ wi ≤ 2000 ∧ -2 ≤ ah ∧ ah ≤ 999 := by
      rcases hI with ⟨q0, q1, q2⟩ | ⟨t, q0, q1, q2, q3, q4, q5, q6, q7, -⟩
      · omega
      · have mr := eMo_rg (ev := evb b o) (t + 1)
        split at q4 <;> omega
    have c4 : ¬ 2 * (z : Int) ≤ (st : Int) := by omega
    have hu : ∀ u : Nat, ah = u → (∀ i, own0 ≤ i → i < own → f i ≤ u) ∧ (∀ j, j < sec → f j + o ≤ u) ∧ (own < z → u ≤ f own) ∧ (sec < z → u ≤ f sec + o) := fun u hu => by
      rcases hI with ⟨q0, q1, q2⟩ | ⟨t, q0, q1, q2, q3, q4, q5, q6, q7, q8, q9⟩
      · omega
      · have e : t = u := by omega
        subst e
        exact ⟨q6, q7, q8, q9⟩
    have hnone : st = 0 → own = own0 ∧ sec = 0 := fun h => by omega
    have hpast : ∀ s t : Nat, s < t → (own < z → t ≤ f own) → (sec < z → t ≤ f sec + o) → t ≤ 999 → evb b o s = true → ∃ u : Nat, ah = u ∧ s ≤ u := fun s t h1 h2 h3 h4 h5 => by
      rcases evIn s (by omega) h5 with ⟨i, i1, i2, i3⟩ | ⟨j, j1, j2⟩
      · have hi : i < own := by
          by_cases c : i < own
          · exact c
          · have q := p3 own i (by omega) i2
            have q2 := h2 (by omega)
            omega
        rcases id hI with ⟨q0, q1, q2⟩ | ⟨t2, q0, q1, q2, q3, q4, q5, q6, q7, q8, q9⟩
        · omega
        · exact ⟨t2, q1, by have := q6 i i1 hi; omega⟩
      · have hj : j < sec := by
          by_cases c : j < sec
          · exact c
          · have q := p3 sec j (by omega) j1
            have q2 := h3 (by omega)
            omega
        rcases id hI with ⟨q0, q1, q2⟩ | ⟨t2, q0, q1, q2, q3, q4, q5, q6, q7, q8, q9⟩
        · omega
        · exact ⟨t2, q1, by have := q7 j hj; omega⟩
    -- the two ways on
    have goOwn : own < z → (sec < z → f own ≤ f sec + o) → wRes b f o z own0 (f_X6_widestOfTwo_114 y (f_X6_widestOfTwo_23 y (g + 1)) (iI o) (iI 999) (iI ((own : Int) + 1)) (iI sec) (iI wi) (iI ah) (iI st) (iI (f own))) := fun h1 h2 => by
      have f1 := (p1 own h1).1
      have ad := wAdv hI (t := f own) f1 (evOwn own o1 h1) (fun u e => (hu u e).2.2.1 h1) (fun s h3 h4 => hpast s (f own) h3 (fun _ => Nat.le_refl _) h2 f1 h4)
      have hI2 : wInv (evb b o) f o z own0 (own + 1) sec (st + 1) (wNx ah wi (f own)) ((f own : Nat) : Int) := by
        refine Or.inr ⟨f own, by omega, rfl, f1, ad.1, ad.2.1, ad.2.2, fun i i1 i2 => p3 i own (by omega) h1, fun j hj => ?_, fun h3 => p3 own (own + 1) (by omega) h3, fun h3 => h2 h3⟩
        rcases id hI with ⟨q0, q1, q2⟩ | ⟨t2, q0, q1, q2, q3, q4, q5, q6, q7, q8, q9⟩
        · have := hnone q0
          omega
        · have q := q7 j hj
          have q' := q8 h1
          omega
      obtain ⟨st2, nb, k1, k2⟩ := ih (own + 1) sec g (st + 1) (wNx ah wi (f own)) ((f own : Nat) : Int) (by omega) (by omega) (by omega) (by omega) s1 (by omega) hI2
      refine ⟨st2, nb, ?_, k2⟩
      unfold f_X6_widestOfTwo_114 f_X6_widestOfTwo_136
      by_cases c : ah = -2
      · rw [show wNx ah wi (f own) = -2 from if_pos c] at k1
        simp +decide (maxSteps := 2000000) (disch := omega) only [↓gl_p, ↓bs_p, iI_lit, iI_neg, iI_add, iI_sub, iI_mul, gk_p, bs_p, bz0, bz1, pI_row, pI_snd, pA_row, pA_snd, pL_fst, pL_row, pB_fst, pB_row, upd_at, ↓reduceIte, Int.reduceToNat, Nat.reduceEqDiff, iI_lt, iI_le, iI_eq, iI_inb, iI_nat, iI_nz, eq_true c]
        exact k1
      · rw [← jm_i rng.1 rng.2.1 rng.2.2.1 rng.2.2.2 f1 c] at k1
        simp +decide (maxSteps := 2000000) (disch := omega) only [↓gl_p, ↓bs_p, iI_lit, iI_neg, iI_add, iI_sub, iI_mul, gk_p, bs_p, bz0, bz1, pI_row, pI_snd, pA_row, pA_snd, pL_fst, pL_row, pB_fst, pB_row, upd_at, ↓reduceIte, Int.reduceToNat, Nat.reduceEqDiff, iI_lt, iI_le, iI_eq, iI_inb, iI_nat, iI_nz, c]
        exact k1
    have goSec : sec < z → f sec + o ≤ 999 → (own < z → f sec + o ≤ f own) → wRes b f o z own0 (f_X6_widestOfTwo_114 y (f_X6_widestOfTwo_23 y (g + 1)) (iI o) (iI 999) (iI own) (iI ((sec : Int) + 1)) (iI wi) (iI ah) (iI st) (iI ((f sec + o : Nat) : Int))) := fun h1 f1 h2 => by
      have ad := wAdv hI (t := f sec + o) f1 (evSec sec h1) (fun u e => (hu u e).2.2.2 h1) (fun s h3 h4 => hpast s (f sec + o) h3 h2 (fun _ => Nat.le_refl _) f1 h4)
      have hI2 : wInv (evb b o) f o z own0 own (sec + 1) (st + 1) (wNx ah wi (f sec + o)) ((f sec + o : Nat) : Int) := by
        refine Or.inr ⟨f sec + o, by omega, rfl, f1, ad.1, ad.2.1, ad.2.2, fun i i1 i2 => ?_, fun j hj => ?_, h2, fun h3 => ?_⟩
        · rcases id hI with ⟨q0, q1, q2⟩ | ⟨t2, q0, q1, q2, q3, q4, q5, q6, q7, q8, q9⟩
          · have := hnone q0
            omega
          · have q := q6 i i1 i2
            have q' := q9 h1
            omega
        · have q := p3 j sec (by omega) h1
          omega
        · have q := p3 sec (sec + 1) (by omega) h3
          omega
      obtain ⟨st2, nb, k1, k2⟩ := ih own (sec + 1) g (st + 1) (wNx ah wi (f sec + o)) ((f sec + o : Nat) : Int) (by omega) (by omega) o1 o2 (by omega) (by omega) hI2
      refine ⟨st2, nb, ?_, k2⟩
      unfold f_X6_widestOfTwo_114 f_X6_widestOfTwo_136
      by_cases c : ah = -2
      · rw [show wNx ah wi (f sec + o) = -2 from if_pos c] at k1
        simp +decide (maxSteps := 2000000) (disch := omega) only [↓gl_p, ↓bs_p, iI_lit, iI_neg, iI_add, iI_sub, iI_mul, gk_p, bs_p, bz0, bz1, pI_row, pI_snd, pA_row, pA_snd, pL_fst, pL_row, pB_fst, pB_row, upd_at, ↓reduceIte, Int.reduceToNat, Nat.reduceEqDiff, iI_lt, iI_le, iI_eq, iI_inb, iI_nat, iI_nz, eq_true c]
        exact k1
      · rw [← jm_i rng.1 rng.2.1 rng.2.2.1 rng.2.2.2 f1 c] at k1
        simp +decide (maxSteps := 2000000) (disch := omega) only [↓gl_p, ↓bs_p, iI_lit, iI_neg, iI_add, iI_sub, iI_mul, gk_p, bs_p, bz0, bz1, pI_row, pI_snd, pA_row, pA_snd, pL_fst, pL_row, pB_fst, pB_row, upd_at, ↓reduceIte, Int.reduceToNat, Nat.reduceEqDiff, iI_lt, iI_le, iI_eq, iI_inb, iI_nat, iI_nz, c]
        exact k1
    have ec : ((f sec : Nat) : Int) + (o : Int) = ((f sec + o : Nat) : Int) := rfl
    rw [f_X6_widestOfTwo_23]
    unfold f_X6_widestOfTwo_53 f_X6_widestOfTwo_78
    by_cases co : own < z
    · have c1 : ¬ (z : Int) ≤ (own : Int) := by omega
      have qo := g2 own co
      have f1 := (p1 own co).1
      by_cases cs : sec < z
      · have c2 : ¬ (z : Int) ≤ (sec : Int) := by omega
        have qs := g2 sec cs
        have f2 := (p1 sec cs).1
        by_cases c5 : f sec + o < f own
        · have c6 : ((f sec + o : Nat) : Int) < ((f own : Nat) : Int) := by omega
          have ej : jmin (iI (f own)) (iI ((f sec + o : Nat) : Int)) = iI ((f sec + o : Nat) : Int) := by
            rw [jmin_i (by omega) (by omega) (by omega) (by omega), if_pos c6]
          have c7 : ((f sec + o : Nat) : Int) ≤ 999 := by omega
          simp +decide (maxSteps := 2000000) (disch := omega) only [↓gl_p, ↓bs_p, iI_lit, iI_neg, iI_add, iI_sub, iI_mul, gk_p, bs_p, bz0, bz1, pI_row, pI_snd, pA_row, pA_snd, pL_fst, pL_row, pB_fst, pB_row, upd_at, ↓reduceIte, Int.reduceToNat, Nat.reduceEqDiff, iI_lt, iI_le, iI_eq, iI_inb, iI_nat, iI_nz, g1, c1, c2, c4, qo, qs, ec, ej, c6, c7, Int.toNat_natCast]
          exact goSec cs (by omega) (fun _ => by omega)
        · have c6 : ¬ ((f sec + o : Nat) : Int) < ((f own : Nat) : Int) := by omega
          have ej : jmin (iI (f own)) (iI ((f sec + o : Nat) : Int)) = iI (f own) := by
            rw [jmin_i (by omega) (by omega) (by omega) (by omega), if_neg c6]
          have c7 : ((f own : Nat) : Int) ≤ 999 := by omega
          simp +decide (maxSteps := 2000000) (disch := omega) only [↓gl_p, ↓bs_p, iI_lit, iI_neg, iI_add, iI_sub, iI_mul, gk_p, bs_p, bz0, bz1, pI_row, pI_snd, pA_row, pA_snd, pL_fst, pL_row, pB_fst, pB_row, upd_at, ↓reduceIte, Int.reduceToNat, Nat.reduceEqDiff, iI_lt, iI_le, iI_eq, iI_inb, iI_nat, iI_nz, g1, c1, c2, c4, qo, qs, ec, ej, c6, c7, Int.toNat_natCast]
          exact goOwn co (fun _ => by omega)
      · have c2 : (z : Int) ≤ (sec : Int) := by omega
        have c6 : ¬ (2147483647 : Int) < ((f own : Nat) : Int) := by omega
        have ej : jmin (iI (f own)) (iI 2147483647) = iI (f own) := by
          rw [jmin_i (by omega) (by omega) (by omega) (by omega), if_neg c6]
        have c7 : ((f own : Nat) : Int) ≤ 999 := by omega
        simp +decide (maxSteps := 2000000) (disch := omega) only [↓gl_p, ↓bs_p, iI_lit, iI_neg, iI_add, iI_sub, iI_mul, gk_p, bs_p, bz0, bz1, pI_row, pI_snd, pA_row, pA_snd, pL_fst, pL_row, pB_fst, pB_row, upd_at, ↓reduceIte, Int.reduceToNat, Nat.reduceEqDiff, iI_lt, iI_le, iI_eq, iI_inb, iI_nat, iI_nz, g1, c1, c2, c4, qo, ej, c6, c7, Int.toNat_natCast]
        exact goOwn co (fun h => absurd h cs)
    · have c1 : (z : Int) ≤ (own : Int) := by omega
      have cs : sec < z := by omega
      have c2 : ¬ (z : Int) ≤ (sec : Int) := by omega
      have qs := g2 sec cs
      have f2 := (p1 sec cs).1
      have c6 : ((f sec + o : Nat) : Int) < 2147483647 := by omega
      have ej : jmin (iI 2147483647) (iI ((f sec + o : Nat) : Int)) = iI ((f sec + o : Nat) : Int) := by
        rw [jmin_i (by omega) (by omega) (by omega) (by omega), if_pos c6]
      by_cases c5 : f sec + o ≤ 999
      · have c7 : ((f sec + o : Nat) : Int) ≤ 999 := by omega
        simp +decide (maxSteps := 2000000) (disch := omega) only [↓gl_p, ↓bs_p, iI_lit, iI_neg, iI_add, iI_sub, iI_mul, gk_p, bs_p, bz0, bz1, pI_row, pI_snd, pA_row, pA_snd, pL_fst, pL_row, pB_fst, pB_row, upd_at, ↓reduceIte, Int.reduceToNat, Nat.reduceEqDiff, iI_lt, iI_le, iI_eq, iI_inb, iI_nat, iI_nz, g1, c1, c2, c4, qs, ec, ej, c6, c7, Int.toNat_natCast]
        exact goSec cs c5 (fun h => absurd h co)
      · have c7 : ¬ ((f sec + o : Nat) : Int) ≤ 999 := by omega
        have fin : wi = if st < 2 then -2 else eMo (evb b o) 1000 := by
          rcases hI with ⟨q0, q1, q2⟩ | ⟨t, q0, q1, q2, q3, q4, q5, q6, q7, -⟩
          · rw [if_pos (by omega)]
            exact q2
          · have gp := eGap (ev := evb b o) (a := t + 1) (1000 - (t + 1)) (fun s u1 u2 => bool_f (fun h => by
              rcases evIn s (by omega) h with ⟨i, i1, i2, i3⟩ | ⟨j, j1, j2⟩
              · have q := q6 i i1 (by omega)
                omega
              · by_cases cj : j < sec
                · have q := q7 j cj
                  omega
                · have q := p3 sec j (by omega) j1
                  omega))
            rw [show t + 1 + (1000 - (t + 1)) = 1000 by omega] at gp
            by_cases c : st = 1
            · rw [if_pos c] at q4
              rw [if_pos (by omega)]
              exact q4
            · rw [if_neg c] at q4
              rw [if_neg (by omega), gp.2]
              exact q4
        refine ⟨st, sec, ?_, by omega, by omega, fun j hj => ?_, fun _ => by omega⟩
        · rw [← fin]
          simp +decide (maxSteps := 2000000) (disch := omega) only [↓gl_p, ↓bs_p, iI_lit, iI_neg, iI_add, iI_sub, iI_mul, gk_p, bs_p, bz0, bz1, pI_row, pI_snd, pA_row, pA_snd, pL_fst, pL_row, pB_fst, pB_row, upd_at, ↓reduceIte, Int.reduceToNat, Nat.reduceEqDiff, iI_lt, iI_le, iI_eq, iI_inb, iI_nat, iI_nz, g1, c1, c2, c4, qs, ec, ej, c6, c7, Int.toNat_natCast]
        · rcases hI with ⟨q0, q1, q2⟩ | ⟨t, q0, q1, q2, q3, q4, q5, q6, q7, -⟩
          · have := hnone q0
            omega
          · have q := q7 j hj
            omega
theorem w_cb6 {y : gS} {z U : Nat} {f : Nat → Nat} {b : Nat → Bool} (hG : GR z f y) (hP : GP b U z f) (hU : U ≤ 1098) (hz : z ≤ 2198) {v : Int} (v1 : -1 ≤ v) (v2 : v ≤ 2000) : ∀ (r i g : Nat), i + r = z → r ≤ g → (∀ j, j < i → ((f j : Nat) : Int) ≤ v) → ∃ c, f_X6_countBy_6 y (g + 1) (iI v) (iI i) = some (iI (c : Nat)) ∧ i ≤ c ∧ c ≤ z ∧ (∀ j, j < c → ((f j : Nat) : Int) ≤ v) ∧ (c < z → v < ((f c : Nat) : Int)) := by
  obtain ⟨g1, g2⟩ := hG
  intro r
  induction r with
  | zero =>
    intro i g hi hg ho
    have c : (z : Int) ≤ (i : Int) := by omega
    refine ⟨i, ?_, by omega, by omega, ho, fun h => absurd h (by omega)⟩
    rw [f_X6_countBy_6]
    simp +decide (maxSteps := 2000000) (disch := omega) only [↓gl_p, ↓bs_p, iI_lit, iI_neg, iI_add, iI_sub, iI_mul, gk_p, bs_p, bz0, bz1, pI_row, pI_snd, pA_row, pA_snd, pL_fst, pL_row, pB_fst, pB_row, upd_at, ↓reduceIte, Int.reduceToNat, Nat.reduceEqDiff, iI_lt, iI_le, iI_eq, iI_inb, iI_nat, iI_nz, g1, c]
  | succ r ih =>
    intro i g hi hg ho
    obtain ⟨g, rfl⟩ : ∃ q, g = q + 1 := ⟨g - 1, by omega⟩
    have c : ¬ (z : Int) ≤ (i : Int) := by omega
    have q := g2 i (by omega)
    have q1 := (hP.1 i (by omega)).1
    by_cases c2 : v < ((f i : Nat) : Int)
    · refine ⟨i, ?_, by omega, by omega, ho, fun _ => c2⟩
      rw [f_X6_countBy_6]
      simp +decide (maxSteps := 2000000) (disch := omega) only [↓gl_p, ↓bs_p, iI_lit, iI_neg, iI_add, iI_sub, iI_mul, gk_p, bs_p, bz0, bz1, pI_row, pI_snd, pA_row, pA_snd, pL_fst, pL_row, pB_fst, pB_row, upd_at, ↓reduceIte, Int.reduceToNat, Nat.reduceEqDiff, iI_lt, iI_le, iI_eq, iI_inb, iI_nat, iI_nz, g1, c, q, c2, Int.toNat_natCast]
    · obtain ⟨c3, k1, k2, k3, k4, k5⟩ := ih (i + 1) g (by omega) (by omega) (fun j hj => by
        by_cases e : j = i
        · rw [e]
          omega
        · exact ho j (by omega))
      refine ⟨c3, ?_, by omega, k3, k4, k5⟩
      rw [f_X6_countBy_6]
      simp +decide (maxSteps := 2000000) (disch := omega) only [↓gl_p, ↓bs_p, iI_lit, iI_neg, iI_add, iI_sub, iI_mul, gk_p, bs_p, bz0, bz1, pI_row, pI_snd, pA_row, pA_snd, pL_fst, pL_row, pB_fst, pB_row, upd_at, ↓reduceIte, Int.reduceToNat, Nat.reduceEqDiff, iI_lt, iI_le, iI_eq, iI_inb, iI_nat, iI_nz, g1, c, q, c2, Int.toNat_natCast]
      exact k1
theorem s_wot {y : gS} {z o : Nat} {f : Nat → Nat} {b : Nat → Bool} (hG : GR z f y) (hP : GP b 999 z f) (hz : z ≤ 2198) (ho : o ≤ 99) : ∃ st own nb, f_X6_widestOfTwo y (iI o) (iI 999) = some (iI (if st < 2 then -2 else eMo (evb b o) 1000)) ∧ st = (z - own) + nb ∧ own ≤ z ∧ (∀ i, i < own → f i < o) ∧ (own < z → o ≤ f own) ∧ nb ≤ z ∧ (∀ j, j < nb → f j + o ≤ 999) ∧ (nb < z → 999 < f nb + o) := by
  obtain ⟨own, k1, k2, k3, k4, k5⟩ := w_cb6 hG hP (by omega) hz (v := (o : Int) - 1) (by omega) (by omega) z 0 999999 (by omega) (by omega) (fun j hj => absurd hj (by omega))
  obtain ⟨st, nb, j1, j2, j3, j4, j5⟩ := w_wt23 hG hP hz ho k3 (fun i hi => by have := k4 i hi; omega) (fun h => by have := k5 h; omega) ((z - own) + (z - 0)) own 0 999999 0 (-2) (-2) rfl (by omega) (by omega) k3 (by omega) (by omega) (Or.inl ⟨rfl, rfl, rfl⟩)
  refine ⟨st, own, nb, ?_, j2, k3, fun i hi => by have := k4 i hi; omega, fun h => by have := k5 h; omega, j3, j4, j5⟩
  unfold f_X6_widestOfTwo f_X6_countBy
  have ej : jmax (iI 0) (iI 0) = iI 0 := by decide
  simp +decide (maxSteps := 2000000) (disch := omega) only [↓gl_p, ↓bs_p, iI_lit, iI_neg, iI_add, iI_sub, iI_mul, gk_p, bs_p, bz0, bz1, pI_row, pI_snd, pA_row, pA_snd, pL_fst, pL_row, pB_fst, pB_row, upd_at, ↓reduceIte, Int.reduceToNat, Nat.reduceEqDiff, iI_lt, iI_le, iI_eq, iI_inb, iI_nat, iI_nz, ej, show f_X6_countBy_6 y gN (iI ((o : Int) - 1)) (iI 0) = _ from k1]
  exact j1
