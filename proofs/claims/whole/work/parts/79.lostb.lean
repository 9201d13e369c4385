/-! ===== lost: running, the two alike ===== -/
theorem nz_of {a : Int32} (h : ¬ a = iI 0) : nz a = true := by
  have h3 : ¬ a = 0 := h
  simp [nz, h3]
theorem jo_bo (σ τ : gS) (a b : Int32) {t : Nat} (h : 6 ≤ t ∧ t ≤ 15) : ∃ r, f_X4_join σ (iI (sgz t)) a b = some r ∧ f_X10_both τ (iI t) a b = some r := by
  have t0 : f_X4_truth σ (iI 1) = some (iI 1) := rfl
  have t1 : f_X4_truth σ (iI 0) = some (iI 0) := rfl
  unfold f_X4_join f_X10_both f_X4_join_92 f_X4_join_97 f_X4_join_113 f_X4_join_114 f_X4_join_128 f_X4_join_142 f_X4_join_156
  rcases (show t = 6 ∨ t = 7 ∨ t = 8 ∨ t = 9 ∨ t = 10 ∨ t = 11 ∨ t = 12 ∨ t = 13 ∨ t = 14 ∨ t = 15 by omega) with rfl | rfl | rfl | rfl | rfl | rfl | rfl | rfl | rfl | rfl
  · rw [show ((sgz 6 : Nat) : Int) = 124 from rfl]
    by_cases c1 : a = iI 0
    · by_cases c2 : b = iI 0
      · simp +decide (maxSteps := 2000000) (disch := omega) only [↓gl_p, ↓bs_p, iI_lit, iI_neg, iI_add, iI_sub, iI_mul, gk_p, bs_p, bz0, bz1, pI_row, pI_snd, pA_row, pA_snd, pL_fst, pL_row, pB_fst, pB_row, upd_at, ↓reduceIte, Int.reduceToNat, Nat.reduceEqDiff, iI_lt, iI_le, iI_eq, iI_inb, iI_nat, iI_nz, eq_true c1, eq_true c2, t0, t1]
        first | done | exact ⟨_, rfl, rfl⟩
      · simp +decide (maxSteps := 2000000) (disch := omega) only [↓gl_p, ↓bs_p, iI_lit, iI_neg, iI_add, iI_sub, iI_mul, gk_p, bs_p, bz0, bz1, pI_row, pI_snd, pA_row, pA_snd, pL_fst, pL_row, pB_fst, pB_row, upd_at, ↓reduceIte, Int.reduceToNat, Nat.reduceEqDiff, iI_lt, iI_le, iI_eq, iI_inb, iI_nat, iI_nz, eq_true c1, c2, t0, t1]
        first | done | exact ⟨_, rfl, rfl⟩
    · simp +decide (maxSteps := 2000000) (disch := omega) only [↓gl_p, ↓bs_p, iI_lit, iI_neg, iI_add, iI_sub, iI_mul, gk_p, bs_p, bz0, bz1, pI_row, pI_snd, pA_row, pA_snd, pL_fst, pL_row, pB_fst, pB_row, upd_at, ↓reduceIte, Int.reduceToNat, Nat.reduceEqDiff, iI_lt, iI_le, iI_eq, iI_inb, iI_nat, iI_nz, c1, t0, t1]
      first | done | exact ⟨_, rfl, rfl⟩
  · rw [show ((sgz 7 : Nat) : Int) = 38 from rfl]
    by_cases c1 : a = iI 0
    · simp +decide (maxSteps := 2000000) (disch := omega) only [↓gl_p, ↓bs_p, iI_lit, iI_neg, iI_add, iI_sub, iI_mul, gk_p, bs_p, bz0, bz1, pI_row, pI_snd, pA_row, pA_snd, pL_fst, pL_row, pB_fst, pB_row, upd_at, ↓reduceIte, Int.reduceToNat, Nat.reduceEqDiff, iI_lt, iI_le, iI_eq, iI_inb, iI_nat, iI_nz, eq_true c1, t0, t1]
      first | done | exact ⟨_, rfl, rfl⟩
    · by_cases c2 : b = iI 0
      · simp +decide (maxSteps := 2000000) (disch := omega) only [↓gl_p, ↓bs_p, iI_lit, iI_neg, iI_add, iI_sub, iI_mul, gk_p, bs_p, bz0, bz1, pI_row, pI_snd, pA_row, pA_snd, pL_fst, pL_row, pB_fst, pB_row, upd_at, ↓reduceIte, Int.reduceToNat, Nat.reduceEqDiff, iI_lt, iI_le, iI_eq, iI_inb, iI_nat, iI_nz, c1, eq_true c2, t0, t1]
        first | done | exact ⟨_, rfl, rfl⟩
      · simp +decide (maxSteps := 2000000) (disch := omega) only [↓gl_p, ↓bs_p, iI_lit, iI_neg, iI_add, iI_sub, iI_mul, gk_p, bs_p, bz0, bz1, pI_row, pI_snd, pA_row, pA_snd, pL_fst, pL_row, pB_fst, pB_row, upd_at, ↓reduceIte, Int.reduceToNat, Nat.reduceEqDiff, iI_lt, iI_le, iI_eq, iI_inb, iI_nat, iI_nz, c1, c2, t0, t1]
        first | done | exact ⟨_, rfl, rfl⟩
  · rw [show ((sgz 8 : Nat) : Int) = 60 from rfl]
    by_cases c1 : b ≤ a
    · simp +decide (maxSteps := 2000000) (disch := omega) only [↓gl_p, ↓bs_p, iI_lit, iI_neg, iI_add, iI_sub, iI_mul, gk_p, bs_p, bz0, bz1, pI_row, pI_snd, pA_row, pA_snd, pL_fst, pL_row, pB_fst, pB_row, upd_at, ↓reduceIte, Int.reduceToNat, Nat.reduceEqDiff, iI_lt, iI_le, iI_eq, iI_inb, iI_nat, iI_nz, eq_true c1, t0, t1]
      first | done | exact ⟨_, rfl, rfl⟩
    · simp +decide (maxSteps := 2000000) (disch := omega) only [↓gl_p, ↓bs_p, iI_lit, iI_neg, iI_add, iI_sub, iI_mul, gk_p, bs_p, bz0, bz1, pI_row, pI_snd, pA_row, pA_snd, pL_fst, pL_row, pB_fst, pB_row, upd_at, ↓reduceIte, Int.reduceToNat, Nat.reduceEqDiff, iI_lt, iI_le, iI_eq, iI_inb, iI_nat, iI_nz, c1, t0, t1]
      first | done | exact ⟨_, rfl, rfl⟩
  · rw [show ((sgz 9 : Nat) : Int) = 61 from rfl]
    by_cases c1 : a = b
    · simp +decide (maxSteps := 2000000) (disch := omega) only [↓gl_p, ↓bs_p, iI_lit, iI_neg, iI_add, iI_sub, iI_mul, gk_p, bs_p, bz0, bz1, pI_row, pI_snd, pA_row, pA_snd, pL_fst, pL_row, pB_fst, pB_row, upd_at, ↓reduceIte, Int.reduceToNat, Nat.reduceEqDiff, iI_lt, iI_le, iI_eq, iI_inb, iI_nat, iI_nz, eq_true c1, t0, t1]
      first | done | exact ⟨_, rfl, rfl⟩
    · simp +decide (maxSteps := 2000000) (disch := omega) only [↓gl_p, ↓bs_p, iI_lit, iI_neg, iI_add, iI_sub, iI_mul, gk_p, bs_p, bz0, bz1, pI_row, pI_snd, pA_row, pA_snd, pL_fst, pL_row, pB_fst, pB_row, upd_at, ↓reduceIte, Int.reduceToNat, Nat.reduceEqDiff, iI_lt, iI_le, iI_eq, iI_inb, iI_nat, iI_nz, c1, t0, t1]
      first | done | exact ⟨_, rfl, rfl⟩
  · rw [show ((sgz 10 : Nat) : Int) = 62 from rfl]
    by_cases c1 : a ≤ b
    · simp +decide (maxSteps := 2000000) (disch := omega) only [↓gl_p, ↓bs_p, iI_lit, iI_neg, iI_add, iI_sub, iI_mul, gk_p, bs_p, bz0, bz1, pI_row, pI_snd, pA_row, pA_snd, pL_fst, pL_row, pB_fst, pB_row, upd_at, ↓reduceIte, Int.reduceToNat, Nat.reduceEqDiff, iI_lt, iI_le, iI_eq, iI_inb, iI_nat, iI_nz, eq_true c1, t0, t1]
      first | done | exact ⟨_, rfl, rfl⟩
    · simp +decide (maxSteps := 2000000) (disch := omega) only [↓gl_p, ↓bs_p, iI_lit, iI_neg, iI_add, iI_sub, iI_mul, gk_p, bs_p, bz0, bz1, pI_row, pI_snd, pA_row, pA_snd, pL_fst, pL_row, pB_fst, pB_row, upd_at, ↓reduceIte, Int.reduceToNat, Nat.reduceEqDiff, iI_lt, iI_le, iI_eq, iI_inb, iI_nat, iI_nz, c1, t0, t1]
      first | done | exact ⟨_, rfl, rfl⟩
  · rw [show ((sgz 11 : Nat) : Int) = 43 from rfl]
    simp +decide (maxSteps := 2000000) (disch := omega) only [↓gl_p, ↓bs_p, iI_lit, iI_neg, iI_add, iI_sub, iI_mul, gk_p, bs_p, bz0, bz1, pI_row, pI_snd, pA_row, pA_snd, pL_fst, pL_row, pB_fst, pB_row, upd_at, ↓reduceIte, Int.reduceToNat, Nat.reduceEqDiff, iI_lt, iI_le, iI_eq, iI_inb, iI_nat, iI_nz]
    first | done | exact ⟨_, rfl, rfl⟩
  · rw [show ((sgz 12 : Nat) : Int) = 45 from rfl]
    simp +decide (maxSteps := 2000000) (disch := omega) only [↓gl_p, ↓bs_p, iI_lit, iI_neg, iI_add, iI_sub, iI_mul, gk_p, bs_p, bz0, bz1, pI_row, pI_snd, pA_row, pA_snd, pL_fst, pL_row, pB_fst, pB_row, upd_at, ↓reduceIte, Int.reduceToNat, Nat.reduceEqDiff, iI_lt, iI_le, iI_eq, iI_inb, iI_nat, iI_nz]
    first | done | exact ⟨_, rfl, rfl⟩
  · rw [show ((sgz 13 : Nat) : Int) = 42 from rfl]
    simp +decide (maxSteps := 2000000) (disch := omega) only [↓gl_p, ↓bs_p, iI_lit, iI_neg, iI_add, iI_sub, iI_mul, gk_p, bs_p, bz0, bz1, pI_row, pI_snd, pA_row, pA_snd, pL_fst, pL_row, pB_fst, pB_row, upd_at, ↓reduceIte, Int.reduceToNat, Nat.reduceEqDiff, iI_lt, iI_le, iI_eq, iI_inb, iI_nat, iI_nz]
    first | done | exact ⟨_, rfl, rfl⟩
  · rw [show ((sgz 14 : Nat) : Int) = 47 from rfl]
    by_cases c1 : b = iI 0
    · simp +decide (maxSteps := 2000000) (disch := omega) only [↓gl_p, ↓bs_p, iI_lit, iI_neg, iI_add, iI_sub, iI_mul, gk_p, bs_p, bz0, bz1, pI_row, pI_snd, pA_row, pA_snd, pL_fst, pL_row, pB_fst, pB_row, upd_at, ↓reduceIte, Int.reduceToNat, Nat.reduceEqDiff, iI_lt, iI_le, iI_eq, iI_inb, iI_nat, iI_nz, eq_true c1]
      first | done | exact ⟨_, rfl, rfl⟩
    · have c2 := nz_of c1
      simp +decide (maxSteps := 2000000) (disch := omega) only [↓gl_p, ↓bs_p, iI_lit, iI_neg, iI_add, iI_sub, iI_mul, gk_p, bs_p, bz0, bz1, pI_row, pI_snd, pA_row, pA_snd, pL_fst, pL_row, pB_fst, pB_row, upd_at, ↓reduceIte, Int.reduceToNat, Nat.reduceEqDiff, iI_lt, iI_le, iI_eq, iI_inb, iI_nat, iI_nz, c1, c2]
      first | done | exact ⟨_, rfl, rfl⟩
  · rw [show ((sgz 15 : Nat) : Int) = 37 from rfl]
    by_cases c1 : b = iI 0
    · simp +decide (maxSteps := 2000000) (disch := omega) only [↓gl_p, ↓bs_p, iI_lit, iI_neg, iI_add, iI_sub, iI_mul, gk_p, bs_p, bz0, bz1, pI_row, pI_snd, pA_row, pA_snd, pL_fst, pL_row, pB_fst, pB_row, upd_at, ↓reduceIte, Int.reduceToNat, Nat.reduceEqDiff, iI_lt, iI_le, iI_eq, iI_inb, iI_nat, iI_nz, eq_true c1]
      first | done | exact ⟨_, rfl, rfl⟩
    · have c2 := nz_of c1
      simp +decide (maxSteps := 2000000) (disch := omega) only [↓gl_p, ↓bs_p, iI_lit, iI_neg, iI_add, iI_sub, iI_mul, gk_p, bs_p, bz0, bz1, pI_row, pI_snd, pA_row, pA_snd, pL_fst, pL_row, pB_fst, pB_row, upd_at, ↓reduceIte, Int.reduceToNat, Nat.reduceEqDiff, iI_lt, iI_le, iI_eq, iI_inb, iI_nat, iI_nz, c1, c2]
      first | done | exact ⟨_, rfl, rfl⟩
theorem sgz_r : ∀ t : Nat, t < 18 → 6 ≤ t → (sgz t ≤ 255 ∧ sgz t ≠ 35 ∧ sgz t ≠ 36 ∧ sgz t ≠ 63 ∧ sgz t ≠ 59) ∧ (t < 16 → sgz t ≠ 126 ∧ sgz t ≠ 33) := by decide +kernel
theorem cw_bin {x : gS} {h t : Nat} {r : Int32} (ht : 6 ≤ t ∧ t ≤ 15) (h1 : 2 ≤ h) (hh : h ≤ 120) (hr : f_X4_join x (iI (sgz t)) (x.1 11 (h - 2)) (x.1 11 (h - 1)) = some r) : f_X4_work x (iI (sgz t)) (iI h) = some (iI ((h : Int) - 1), pI x 11 (h - 2) r) := by
  obtain ⟨s1, s2⟩ := sgz_r t (by omega) (by omega)
  have s3 := s2 (by omega)
  have n1 : ((h : Int) - 1).toNat = h - 1 := by omega
  have n2 : ((h : Int) - 2).toNat = h - 2 := by omega
  have g1 : (2 : Int) ≤ (h : Int) := by omega
  have g2 : ¬ ((sgz t : Nat) : Int) = 126 := by omega
  have g3 : ¬ ((sgz t : Nat) : Int) = 33 := by omega
  unfold f_X4_work
  simp +decide (maxSteps := 2000000) (disch := omega) only [↓gl_p, ↓bs_p, iI_lit, iI_neg, iI_add, iI_sub, iI_mul, gk_p, bs_p, bz0, bz1, pI_row, pI_snd, pA_row, pA_snd, pL_fst, pL_row, pB_fst, pB_row, upd_at, ↓reduceIte, Int.reduceToNat, Nat.reduceEqDiff, iI_lt, iI_le, iI_eq, iI_inb, iI_nat, iI_nz, n1, n2, eq_true g1, g2, g3, hr]
theorem wr_bin {m : gS} {e h c t f : Nat} {r : Int32} (he : e ≤ 120) (hc : c < e) (c1 : m.1 10 c = iI t) (ht : 6 ≤ t ∧ t ≤ 15) (h1 : 2 ≤ h) (hh : h ≤ 120) (hr : f_X10_both m (iI t) (m.1 15 (h - 2)) (m.1 15 (h - 1)) = some r) : f_X10_worked_5 (f + 1) (iI e) (iI h) (iI c) m = f_X10_worked_5 f (iI e) (iI ((h : Int) - 1)) (iI ((c : Int) + 1)) (pI m 15 (h - 2) r) := by
  have g1 : ¬ (e : Int) ≤ (c : Int) := by omega
  have n1 : ((h : Int) + -1).toNat = h - 1 := by omega
  have n2 : ((h : Int) + -1 - 1).toNat = h - 2 := by omega
  have g2 : ¬ (18 : Int) ≤ (t : Int) := by omega
  have g3 : (5 : Int) < (t : Int) := by omega
  have g4 : ¬ (t : Int) = 16 := by omega
  have g5 : ¬ (t : Int) = 17 := by omega
  rw [f_X10_worked_5]
  simp +decide (maxSteps := 2000000) (disch := omega) only [↓gl_p, ↓bs_p, iI_lit, iI_neg, iI_add, iI_sub, iI_mul, gk_p, bs_p, bz0, bz1, pI_row, pI_snd, pA_row, pA_snd, pL_fst, pL_row, pB_fst, pB_row, upd_at, ↓reduceIte, Int.reduceToNat, Nat.reduceEqDiff, iI_lt, iI_le, iI_eq, iI_inb, iI_nat, iI_nz, g1, c1, Int.toNat_natCast, n1, n2, g2, eq_true g3, g4, g5, hr]
  rfl
def c11 (c _j : Nat) : Bool := c == 11
def c15 (c _j : Nat) : Bool := c == 15
theorem AT_c {l s u : List Nat} {p : Nat} (h : AT l p (s ++ u)) : AT l p s ∧ AT l (p + s.length) u := by
  obtain ⟨h1, h2⟩ := h
  rw [List.length_append] at h1
  refine ⟨⟨by omega, fun q hq => ?_⟩, by omega, fun q hq => ?_⟩
  · rw [h2 q (by
      rw [List.length_append]
      omega), gD_l hq]
  · rw [show p + s.length + q = p + (s.length + q) by omega, h2 (s.length + q) (by
      rw [List.length_append]
      omega), gD_r s u (by omega), show s.length + q - s.length = q by omega]
/-- the two laws as they lie -/
def XL (ds : List Nat) (x : gS) : Prop := x.1 7 6 = iI ds.length ∧ ∀ k, k < ds.length → x.1 10 k = iI (ds.getD k 0 : Nat)
def ML (ts : List Nat) (m : gS) : Prop := ∀ k, k < ts.length → m.1 10 k = iI (ts.getD k 0 : Nat)
theorem XL_ch {ds : List Nat} {x y : gS} (h : XL ds x) (hc : Ch c11 x y) : XL ds y := ⟨(hc.2 7 6 rfl).trans h.1, fun k hk => (hc.2 10 k rfl).trans (h.2 k hk)⟩
theorem ML_ch {ts : List Nat} {m w : gS} (h : ML ts m) (hc : Ch c15 m w) : ML ts w := fun k hk => (hc.2 10 k rfl).trans (h k hk)
theorem st_p {x m : gS} {h k : Nat} {v : Int32} (hs : ∀ q, q < h → x.1 11 q = m.1 15 q) : ∀ q, q < h ∨ q = k → (pI x 11 k v).1 11 q = (pI m 15 k v).1 15 q := fun q hq => by
  show upd (x.1 11) k v q = upd (m.1 15) k v q
  rw [upd_at, upd_at]
  by_cases c : q = k
  · rw [if_pos c, if_pos c]
  · rw [if_neg c, if_neg c]
    exact hs q (by omega)
theorem ru_sim {ds ts : List Nat} (hds : ds.length ≤ 241) {e : Nat} (he : e ≤ 120) : ∀ (us : List Nat) (h h2 p c fx fr : Nat) (x m : gS), hgl us h = some h2 → (∀ t, t ∈ us → t < 10018) → h + us.length ≤ 120 → c + us.length ≤ e → AT ds p (trs us) → AT ts c us → XL ds x → ML ts m → (∀ q, q < 6 → x.1 12 q = m.1 16 q) → (∀ q, q < h → x.1 11 q = m.1 15 q) → ∃ y w, f_X4_run_4 (fx + us.length) (iI h) (iI p) x = f_X4_run_4 fx (iI h2) (iI ((p + (trs us).length : Nat) : Int)) y ∧ f_X10_worked_5 (fr + us.length) (iI e) (iI h) (iI c) m = f_X10_worked_5 fr (iI e) (iI h2) (iI ((c + us.length : Nat) : Int)) w ∧ Ch c11 x y ∧ Ch c15 m w ∧ (∀ q, q < h2 → y.1 11 q = w.1 15 q) := by
  intro us
  induction us with
  | nil =>
    intro h h2 p c fx fr x m hg ht hh hc ax am hx hm hn hs
    have e2 : h = h2 := Option.some.inj hg
    subst e2
    exact ⟨x, m, rfl, rfl, Ch_refl _ _, Ch_refl _ _, hs⟩
  | cons t us ih =>
    intro h h2 p c fx fr x m hg ht hh hc ax am hx hm hn hs
    have tl := ht t (List.mem_cons_self)
    rw [List.length_cons] at hh hc
    have hg : ((hg1 h t).bind fun k => hgl us k) = some h2 := hg
    rw [show trs (t :: us) = tr1 t ++ trs us from (trs_app [t] us).trans (by rw [trs_1])] at ax ⊢
    rw [show t :: us = [t] ++ us from rfl] at am
    obtain ⟨ax1, ax2⟩ := AT_c ax
    obtain ⟨am1, am2⟩ := AT_c am
    have m1 : m.1 10 c = iI t := by
      have k1 := am1.1
      have k2 := am1.2 0 (by simp)
      rw [hm c (by
        rw [List.length_singleton] at k1
        omega)]
      exact congrArg (fun q : Nat => iI (q : Int)) k2
    have S : ∀ (h3 : Nat) (x2 m2 : gS), hg1 h t = some h3 → h3 ≤ h + 1 → Ch c11 x x2 → Ch c15 m m2 → (∀ q, q < h3 → x2.1 11 q = m2.1 15 q) → (∀ f, f_X4_run_4 (f + 1) (iI h) (iI p) x = f_X4_run_4 f (iI h3) (iI ((p + (tr1 t).length : Nat) : Int)) x2) → (∀ f, f_X10_worked_5 (f + 1) (iI e) (iI h) (iI c) m = f_X10_worked_5 f (iI e) (iI h3) (iI ((c + 1 : Nat) : Int)) m2) → ∃ y w, f_X4_run_4 (fx + (t :: us).length) (iI h) (iI p) x = f_X4_run_4 fx (iI h2) (iI ((p + (tr1 t ++ trs us).length : Nat) : Int)) y ∧ f_X10_worked_5 (fr + (t :: us).length) (iI e) (iI h) (iI c) m = f_X10_worked_5 fr (iI e) (iI h2) (iI ((c + (t :: us).length : Nat) : Int)) w ∧ Ch c11 x y ∧ Ch c15 m w ∧ (∀ q, q < h2 → y.1 11 q = w.1 15 q) := by
      intro h3 x2 m2 q1 q2 q3 q4 q5 q6 q7
      rw [q1] at hg
      obtain ⟨y, w, k1, k2, k3, k4, k5⟩ := ih h3 h2 (p + (tr1 t).length) (c + 1) fx fr x2 m2 hg (fun s hs => ht s (List.mem_cons_of_mem t hs)) (by omega) (by omega) ax2 am2 (XL_ch hx q3) (ML_ch hm q4) (fun q hq => ((q3.2 12 q rfl).trans (hn q hq)).trans (q4.2 16 q rfl).symm) q5
      refine ⟨y, w, ?_, ?_, Ch_tr q3 k3, Ch_tr q4 k4, k5⟩
      · rw [List.length_cons, ← Nat.add_assoc, q6, k1, List.length_append, Nat.add_assoc]
      · rw [List.length_cons, ← Nat.add_assoc, q7, k2, show c + 1 + us.length = c + (us.length + 1) by omega]
    by_cases c1 : t < 6
    · have et : tr1 t = [36, t] := by
        unfold tr1
        rw [if_pos c1]
      rw [et] at ax1
      have b1 := ax1.1
      have b2 : ds.getD (p + 0) 0 = 36 := ax1.2 0 (by simp)
      have b3 : ds.getD (p + 1) 0 = t := ax1.2 1 (by simp)
      rw [show ([36, t] : List Nat).length = 2 from rfl] at b1
      have x1 := hx.2 p (by omega)
      have x2 := hx.2 (p + 1) (by omega)
      rw [show ds.getD p 0 = 36 from b2] at x1
      rw [b3] at x2
      refine S (h + 1) (pI x 11 h (x.1 12 t)) (pI m 15 h (m.1 16 t)) (by
        unfold hg1
        rw [if_pos (by omega)]) (by omega) (Ch_pI (Ch_refl _ _) rfl) (Ch_pI (Ch_refl _ _) rfl) (fun q hq => ?_) (fun f => ?_) (fun f => ?_)
      · rw [hn t c1]
        exact st_p hs q (by omega)
      · rw [et]
        exact cr_name hx.1 hds (by omega) x1 x2 c1 (by omega)
      · exact wr_name he (by omega) m1 c1 (by omega)
    · by_cases c2 : 18 ≤ t
      · have et : tr1 t = [35, t - 18] := by
          unfold tr1
          rw [if_neg c1, if_pos c2]
        rw [et] at ax1
        have b1 := ax1.1
        have b2 : ds.getD (p + 0) 0 = 35 := ax1.2 0 (by simp)
        have b3 : ds.getD (p + 1) 0 = t - 18 := ax1.2 1 (by simp)
        rw [show ([35, t - 18] : List Nat).length = 2 from rfl] at b1
        have x1 := hx.2 p (by omega)
        have x2 := hx.2 (p + 1) (by omega)
        rw [show ds.getD p 0 = 35 from b2] at x1
        rw [b3] at x2
        refine S (h + 1) (pI x 11 h (iI ((t - 18 : Nat) : Int))) (pI m 15 h (iI ((t - 18 : Nat) : Int))) (by
          unfold hg1
          rw [if_pos (by omega)]) (by omega) (Ch_pI (Ch_refl _ _) rfl) (Ch_pI (Ch_refl _ _) rfl) (fun q hq => ?_) (fun f => ?_) (fun f => ?_)
        · exact st_p hs q (by omega)
        · rw [et]
          exact cr_num hx.1 hds (by omega) x1 x2 (by omega)
        · exact wr_num he (by omega) m1 c2 tl (by omega)
      · have et : tr1 t = [sgz t] := by
          unfold tr1
          rw [if_neg c1, if_neg c2]
        rw [et] at ax1
        have b1 := ax1.1
        have b2 : ds.getD (p + 0) 0 = sgz t := ax1.2 0 (by simp)
        rw [show ([sgz t] : List Nat).length = 1 from rfl] at b1
        have x1 := hx.2 p (by omega)
        rw [show ds.getD p 0 = sgz t from b2] at x1
        obtain ⟨s1, s2⟩ := sgz_r t (by omega) (by omega)
        have co := fun f => cr_op (h := h) (f := f) hx.1 hds (show p < ds.length by omega) x1 s1.1 s1.2
        by_cases c3 : t = 16 ∨ t = 17
        · by_cases c4 : 1 ≤ h
          · have hc1 := hs (h - 1) (by omega)
            refine S h (pI x 11 (h - 1) (if t = 17 then -(x.1 11 (h - 1)) else if x.1 11 (h - 1) = 0 then iI 1 else iI 0)) (pI m 15 (h - 1) (if t = 17 then -(m.1 15 (h - 1)) else if m.1 15 (h - 1) = 0 then iI 1 else iI 0)) (by
              unfold hg1
              rw [if_neg (by omega), if_pos c3, if_pos c4]) (by omega) (Ch_pI (Ch_refl _ _) rfl) (Ch_pI (Ch_refl _ _) rfl) (fun q hq => ?_) (fun f => ?_) (fun f => ?_)
            · rw [hc1]
              exact st_p hs q (by omega)
            · rw [co f, cw_un c3 c4 (by omega), b_some, et]
              rfl
            · exact wr_un he (by omega) m1 c3 c4 (by omega)
          · unfold hg1 at hg
            rw [if_neg (by omega), if_pos c3, if_neg c4] at hg
            exact absurd hg (by simp)
        · by_cases c4 : 2 ≤ h
          · have hc1 := hs (h - 1) (by omega)
            have hc2 := hs (h - 2) (by omega)
            obtain ⟨r, r1, r2⟩ := jo_bo x m (x.1 11 (h - 2)) (x.1 11 (h - 1)) (t := t) (by omega)
            rw [hc1, hc2] at r2
            refine S (h - 1) (pI x 11 (h - 2) r) (pI m 15 (h - 2) r) (by
              unfold hg1
              rw [if_neg (by omega), if_neg c3, if_pos c4]) (by omega) (Ch_pI (Ch_refl _ _) rfl) (Ch_pI (Ch_refl _ _) rfl) (fun q hq => ?_) (fun f => ?_) (fun f => ?_)
            · exact st_p hs q (by omega)
            · rw [co f, cw_bin (by omega) c4 (by omega) r1, b_some, et, show ((h - 1 : Nat) : Int) = (h : Int) - 1 by omega]
              rfl
            · rw [show ((h - 1 : Nat) : Int) = (h : Int) - 1 by omega]
              exact wr_bin he (by omega) m1 (by omega) c4 (by omega) r2
          · unfold hg1 at hg
            rw [if_neg (by omega), if_neg c3, if_neg c4] at hg
            exact absurd hg (by simp)
