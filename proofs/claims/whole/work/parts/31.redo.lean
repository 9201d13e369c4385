theorem e_redo (L : LawT) : EQ_redo (Rel1 L) := by
  intro x m hR
  obtain ⟨⟨n, nb, hP, hC, hT, hD, hI, hK, hS⟩, hL⟩ := id hR
  obtain ⟨d, c, h1, h2, e1, e2, e3, e4, hc⟩ := id hC
  have hn := hP.1
  unfold f_X9_redo f_X0_doAgain f_X0_lay f_X10_redo
  by_cases cd : d = c
  · subst cd
    simp +decide (disch := omega) only [gl_e, iI_lit, iI_neg, iI_add, iI_sub, iI_mul, gk_t, b_some, bz0, bz1, pI_row, pI_snd, pA_row, pA_snd, pL_fst, pL_row, pB_fst, pB_row, upd_at, ↓reduceIte, Int.reduceToNat, Nat.reduceEqDiff, iI_lt, iI_le, iI_eq, iI_inb, iI_nat, iI_nz, e1, e2, e3, e4, Int.lt_irrefl]
    exact ⟨_, _, _, rfl, rfl, hR⟩
  · obtain ⟨g1, g2, p, w, g3, g4, g5, g6, g7, g8, g9, g10⟩ := hc d (by omega)
    have ho : okW n p w := ⟨g3, g4, g5⟩
    have hpl := plc_lt hn ho
    rw [plc_i] at g8
    have l0 : ¬ ((plc p w : Nat) : Int) < 0 := by omega
    have l1 : ¬ 40 ≤ ((plc p w : Nat) : Int) := by omega
    have c1 : (d : Int) < c := by omega
    have c2 : ¬ (d : Int) = c := by omega
    have t0 : (4 * (d : Int)).toNat = 4 * d := by omega
    have t1 : (4 * (d : Int) + 1).toNat = 4 * d + 1 := by omega
    have t2 : (4 * (d : Int) + 3).toNat = 4 * d + 3 := by omega
    simp +decide (disch := omega) only [gl_e, iI_lit, iI_neg, iI_add, iI_sub, iI_mul, gk_t, b_some, bz0, bz1, pI_row, pI_snd, pA_row, pA_snd, pL_fst, pL_row, pB_fst, pB_row, upd_at, ↓reduceIte, Int.reduceToNat, Nat.reduceEqDiff, iI_lt, iI_le, iI_eq, iI_inb, iI_nat, iI_nz, e1, e2, e3, e4, c1, c2, Int.toNat_natCast, g8, l0, l1, t0, t1, t2, g6, g7, s_bec hn ho, (bec_off m p w _).1 0 (Or.inl rfl)]
    refine ⟨_, _, _, rfl, rfl, Rel1_ch hR (fun c h1 h2 h3 h4 h5 => ?_) rfl (fun c h1 h2 h3 h4 h5 h6 h7 => ?_) (fun j h1 h2 => ?_) ?_ (fun n2 hP2 hC2 => ?_)⟩
    · simp +decide (disch := omega) only [pI_off]
    · rw [pI_off h1, (bec_off _ p w _).1 c (by omega)]
    · rw [pI_row, if_pos rfl, upd_ne h2, (bec_off _ p w _).1 0 (by omega)]
    · rw [pI_snd, (bec_off _ p w _).2]
    · have en : n2 = n := by
        have q := hP.2.1.symm.trans hP2.2.1
        rw [iI_eq (by omega) (by omega) (by omega) (by have := hP2.1; omega)] at q
        omega
      subst en
      constructor
      · have h := RP_upd (m := m) hP ho (v := m.1 21 (4 * d + 3)) g10
        rw [(bec_off _ p w _).1 0 (Or.inl rfl)] at h
        rw [← g2] at h ⊢
        exact h
      · refine ⟨d + 1, c, by omega, h2, rfl, rfl, e3, ?_, fun i hi => ?_⟩
        · rw [pI_row, if_pos rfl, upd_ne (by decide), (bec_off _ p w _).1 0 (Or.inl rfl)]
          exact e4
        · have e21 : (pI (bec m p w (m.1 21 (4 * d + 3))) 0 35 (iI (↑d + 1))).1 21 = m.1 21 := (pI_off (by decide)).trans ((bec_off m p w _).1 21 (Or.inr (by decide)))
          rw [e21]
          exact hc i hi
/-! a change is noted -/
theorem RC_note {n d c : Nat} (hd : d < 40) {pl ws bc ch : Nat → Int32} (h1 : d ≤ c) (h : ∀ i, i < c → ws i = ch (4 * i + 2) ∧ bc i = ch (4 * i + 3) ∧ ∃ p w : Nat, w ≤ 7 ∧ (w ≤ 3 → p < n) ∧ (4 ≤ w → p = 0) ∧ ch (4 * i) = iI p ∧ ch (4 * i + 1) = iI w ∧ pl i = iI (if w ≤ 3 then 4 * (p : Int) + w else 32 + w) ∧ rgW w (ch (4 * i + 2)) ∧ rgW w (ch (4 * i + 3))) {p w : Nat} (ho : okW n p w) {a b : Int32} (ha : rgW w a) (hb : rgW w b) : RC n (iI (d + 1 : Nat)) (iI (d + 1 : Nat)) (upd pl d (iI (plc p w : Nat))) (upd ws d a) (upd bc d b) (iI (d + 1 : Nat)) (iI (d + 1 : Nat)) (upd (upd (upd (upd ch (4 * d) (iI p)) (4 * d + 1) (iI w)) (4 * d + 2) a) (4 * d + 3) b) := by
  refine ⟨d + 1, d + 1, by omega, by omega, rfl, rfl, rfl, rfl, fun i hi => ?_⟩
  by_cases c : i = d
  · subst c
    simp +decide (disch := omega) only [upd_ne, upd_self]
    exact ⟨trivial, trivial, p, w, ho.1, ho.2.1, ho.2.2, rfl, rfl, by rw [plc_i], ha, hb⟩
  · simp +decide (disch := omega) only [upd_ne]
    exact h i (by omega)
def sh4 (i : Nat) (f : Nat → Int32) (j : Nat) : Int32 := if i ≤ j ∧ j < 156 then f (j + 4) else f j
theorem sh4_s (i : Nat) (hi : i < 156) (f : Nat → Int32) : sh4 (i + 1) (upd f i (f (i + 4))) = sh4 i f := by
  funext j
  unfold sh4
  by_cases c : i + 1 ≤ j ∧ j < 156
  · rw [if_pos c, if_pos (by omega), upd_ne (by omega)]
  · rw [if_neg c]
    by_cases c2 : j = i
    · subst c2
      rw [upd_self, if_pos (by omega)]
    · rw [upd_ne c2, if_neg (by omega)]
theorem w_me55 (x1 x2 x3 x4 : Int32) : ∀ (k i n : Nat) (σ : gS), i + k = 156 → k ≤ n → f_X10_mend_55 (n + 1) x1 x2 x3 x4 (iI i) σ = f_X10_mend_95 x1 x2 x3 x4 (pI (pA σ 21 (sh4 i (σ.1 21))) 0 35 (σ.1 0 35 - iI 1)) := by
  intro k
  induction k with
  | zero =>
    intro i n σ h1 h2
    have g : 156 ≤ (i : Int) := by omega
    have e : sh4 i (σ.1 21) = σ.1 21 := by
      funext j
      unfold sh4
      rw [if_neg (by omega)]
    unfold f_X10_mend_55
    rw [e, pA_self]
    simp +decide (disch := omega) only [gl_e, iI_lit, iI_neg, iI_add, iI_sub, iI_mul, gk_t, b_some, bz0, bz1, pI_row, pI_snd, pA_row, pA_snd, pL_fst, pL_row, pB_fst, pB_row, upd_at, ↓reduceIte, Int.reduceToNat, Nat.reduceEqDiff, iI_lt, iI_le, iI_eq, iI_inb, iI_nat, iI_nz, g]
  | succ k ih =>
    intro i n σ h1 h2
    obtain ⟨n2, rfl⟩ : ∃ n2, n = n2 + 1 := ⟨n - 1, by omega⟩
    have g : ¬ 156 ≤ (i : Int) := by omega
    have t : ((i : Int) + 4).toNat = i + 4 := by omega
    unfold f_X10_mend_55
    simp +decide (disch := omega) only [gl_e, iI_lit, iI_neg, iI_add, iI_sub, iI_mul, gk_t, b_some, bz0, bz1, pI_row, pI_snd, pA_row, pA_snd, pL_fst, pL_row, pB_fst, pB_row, upd_at, ↓reduceIte, Int.reduceToNat, Nat.reduceEqDiff, iI_lt, iI_le, iI_eq, iI_inb, iI_nat, iI_nz, g, Int.toNat_natCast, t]
    rw [show (i : Int) + 1 = ((i + 1 : Nat) : Int) by omega, ih (i + 1) n2 _ (by omega) (by omega), pA_pI]
    rw [show (pI σ 21 i (σ.1 21 (i + 4))).1 21 = upd (σ.1 21) i (σ.1 21 (i + 4)) from rfl, sh4_s i (by omega)]
    rfl
theorem s_me95 {m : gS} {d : Nat} (hd : d < 40) (e : m.1 0 35 = iI d) (x1 x2 x3 x4 : Int32) : f_X10_mend_95 x1 x2 x3 x4 m = some (x4, pI (pI (pA m 21 (upd (upd (upd (upd (m.1 21) (4 * d) x1) (4 * d + 1) x2) (4 * d + 2) x4) (4 * d + 3) x3)) 0 35 (iI (d + 1 : Nat))) 0 34 (iI (d + 1 : Nat))) := by
  have t0 : (4 * (d : Int)).toNat = 4 * d := by omega
  have t1 : (4 * (d : Int) + 1).toNat = 4 * d + 1 := by omega
  have t2 : (4 * (d : Int) + 2).toNat = 4 * d + 2 := by omega
  have t3 : (4 * (d : Int) + 3).toNat = 4 * d + 3 := by omega
  unfold f_X10_mend_95
  simp +decide (disch := omega) only [gl_e, iI_lit, iI_neg, iI_add, iI_sub, iI_mul, gk_t, b_some, bz0, bz1, pI_row, pI_snd, pA_row, pA_snd, pL_fst, pL_row, pB_fst, pB_row, upd_at, ↓reduceIte, Int.reduceToNat, Nat.reduceEqDiff, iI_lt, iI_le, iI_eq, iI_inb, iI_nat, iI_nz, e, t0, t1, t2, t3]
  unfold pI
  simp only [pA_pA]
  rfl
theorem s_no13 {x : gS} {d : Nat} (hd : d < 40) (e : x.1 3 3 = iI d) (a b c : Int32) : f_X0_note_13 a b c x = some (pI (pI (pI (pI (pI x 4 d a) 5 d b) 6 d c) 3 3 (iI (d + 1 : Nat))) 3 4 (iI (d + 1 : Nat))) := by
  unfold f_X0_note_13
  simp +decide (disch := omega) only [gl_e, iI_lit, iI_neg, iI_add, iI_sub, iI_mul, gk_t, b_some, bz0, bz1, pI_row, pI_snd, pA_row, pA_snd, pL_fst, pL_row, pB_fst, pB_row, upd_at, ↓reduceIte, Int.reduceToNat, Nat.reduceEqDiff, iI_lt, iI_le, iI_eq, iI_inb, iI_nat, iI_nz, e, Int.toNat_natCast]
  rfl
theorem cpy39 {f g : Nat → Int32} {i : Nat} (hi : i < 39) : va_cpy f g 1 0 39 i = f (i + 1) := by
  have h := pk_cpy_in (f := f) (g := g) (sp := 1) (dp := 0) (n := 39) (j := i) (by omega) (by omega)
  rw [h, Nat.sub_zero, Nat.add_comm]
theorem s_drop (x : gS) : f_X0_dropOldest x = some (pI (pA (pA (pA x 4 (va_cpy (x.1 4) (x.1 4) 1 0 39)) 5 (va_cpy (x.1 5) (x.1 5) 1 0 39)) 6 (va_cpy (x.1 6) (x.1 6) 1 0 39)) 3 3 (iI 39)) := by
  unfold f_X0_dropOldest
  have e : cpok 1 0 39 40 40 = true := by decide
  simp only [e, gk_t, gl_e]
  rfl
theorem rg_of {n : Nat} {sz mn : Int32} {td px py wo du wa : Nat → Int32} (h : RP n sz td mn px py wo du wa) {p w : Nat} (ho : okW n p w) : rgW w (td (plc p w)) := by
  obtain ⟨q1, q2, q3, q4, q5, q6, q7, q8, q9, q10⟩ := h
  obtain ⟨h7, ha, hb⟩ := ho
  match w, h7 with
  | 0, _ => exact (q6 p (ha (by decide))).1
  | 1, _ => exact (q6 p (ha (by decide))).2.1
  | 2, _ => exact (q6 p (ha (by decide))).2.2.1
  | 3, _ => exact (q6 p (ha (by decide))).2.2.2
  | 4, _ => exact q7
  | 5, _ => exact q8
  | 6, _ => exact q9
  | 7, _ => exact q10
  | k + 8, h => exact absurd h (by omega)
theorem e_mend (L : LawT) : EQ_mend (Rel1 L) := by
  intro x m a1 a2 a3 hR
  obtain ⟨p, rfl, hp1, hp2⟩ := iI_of a1
  obtain ⟨w, rfl, hw1, hw2⟩ := iI_of a2
  obtain ⟨v, rfl, hv1, hv2⟩ := iI_of a3
  obtain ⟨⟨n, nb, hP, hC, hT, hD, hI, hK, hS⟩, hL⟩ := id hR
  obtain ⟨d, c, h1, h2, e1, e2, e3, e4, hc⟩ := id hC
  have hn := hP.1
  unfold f_X9_mend f_X10_mend
  by_cases c1 : okI n p w
  · rw [(s_plc hn hP.2.1 hp1 hp2 hw1 hw2).1 c1, (s_isOf hn hP.2.2.1 hp1 hp2 hw1 hw2).1 c1]
    obtain ⟨a, b, rfl, rfl, ho⟩ := okI_of c1
    have h40 := plc_lt hn ho
    have g : ¬ ((plc a b : Nat) : Int) < 0 := by omega
    rw [Int.toNat_natCast, Int.toNat_natCast, s_get hP ho, s_fits x ho.1 hv1 hv2, s_fitM m ho.1 hv1 hv2]
    simp +decide (disch := omega) only [gl_e, iI_lit, iI_neg, iI_add, iI_sub, iI_mul, gk_t, b_some, bz0, bz1, pI_row, pI_snd, pA_row, pA_snd, pL_fst, pL_row, pB_fst, pB_row, upd_at, ↓reduceIte, Int.reduceToNat, Nat.reduceEqDiff, iI_lt, iI_le, iI_eq, iI_inb, iI_nat, iI_nz, bI_0, g, Int.toNat_natCast]
    by_cases c2 : loW b ≤ v ∧ v ≤ hiW b
    · simp only [c2, and_self, not_true_eq_false, ↓reduceIte]
      by_cases c3 : x.1 2 (plc a b) = iI v
      · simp only [c3, ↓reduceIte]
        exact ⟨_, _, _, rfl, rfl, hR⟩
      · simp only [c3, ↓reduceIte]
        have hrv : rgW b (iI v) := ⟨v, rfl, c2.1, c2.2⟩
        have hro : rgW b (x.1 2 (plc a b)) := rg_of hP ho
        have hRP := RP_upd hP ho hrv
        rw [s_bec hn ho, b_some]
        generalize x.1 2 (plc a b) = had at hro
        have b35 : (bec m a b (iI v)).1 0 35 = iI d := by
          rw [(bec_off m a b (iI v)).1 0 (Or.inl rfl)]; exact e2
        have en : ∀ n2, RP n2 (x.1 1 1) (x.1 2) (m.1 0 0) (m.1 1) (m.1 2) (m.1 3) (m.1 4) (m.1 5) → n2 = n := by
          intro n2 hP2
          have q := hP.2.1.symm.trans hP2.2.1
          rw [iI_eq (by omega) (by omega) (by omega) (by have := hP2.1; omega)] at q
          omega
        have b0 : (bec m a b (iI v)).1 0 0 = m.1 0 0 := by
          rw [(bec_off m a b (iI v)).1 0 (Or.inl rfl)]
        rw [b0] at hRP
        unfold f_X0_note
        by_cases c4 : d < 40
        · have c5 : (d : Int) < 40 := by omega
          have c6 : ¬ (d : Int) = 40 := by omega
          rw [s_me95 c4 b35, s_no13 (x := pI x 2 (plc a b) (iI v)) c4 e1]
          simp +decide (disch := omega) only [gl_e, iI_lit, iI_neg, iI_add, iI_sub, iI_mul, gk_t, b_some, bz0, bz1, pI_row, pI_snd, pA_row, pA_snd, pL_fst, pL_row, pB_fst, pB_row, upd_at, ↓reduceIte, Int.reduceToNat, Nat.reduceEqDiff, iI_lt, iI_le, iI_eq, iI_inb, iI_nat, iI_nz, e1, b35, c5, c6]
          refine ⟨_, _, _, rfl, rfl, Rel1_ch hR (fun c h1 h2 h3 h4 h5 => ?_) rfl (fun c h1 h2 h3 h4 h5 h6 h7 => ?_) (fun j h1 h2 => ?_) ?_ (fun n2 hP2 hC2 => ?_)⟩
          · simp +decide (disch := omega) only [pI_off]
          · rw [pI_off h1, pI_off h1, pA_off h7, (bec_off _ a b _).1 c (by omega)]
          · rw [pI_row, if_pos rfl, upd_ne h1, pI_row, if_pos rfl, upd_ne h2, pA_off (by decide), (bec_off _ a b _).1 0 (by omega)]
          · rw [pI_snd, pI_snd, pA_snd, (bec_off _ a b _).2]
          · have q := en n2 hP2
            subst q
            refine ⟨hRP, ?_⟩
            have h := RC_note c4 h1 hc ho hro hrv
            rw [← (bec_off m a b (iI v)).1 21 (Or.inr (by decide))] at h
            exact h
        · have c5 : ¬ (d : Int) < 40 := by omega
          have c6 : (d : Int) = 40 := by omega
          have d4 : d = 40 := by omega
          subst d4
          have cc : c = 40 := by omega
          subst cc
          rw [if_neg (show ¬ (pI x 2 (plc a b) (iI v)).1 3 3 < 40 by rw [show (pI x 2 (plc a b) (iI v)).1 3 3 = iI 40 from e1]; decide)]
          rw [gN_s, show iI 0 = iI ((0 : Nat) : Int) from rfl, w_me55 _ _ _ _ 156 0 999999 _ (by omega) (by omega), s_drop, b_some]
          rw [s_me95 (d := 39) (by omega) (by rw [pI_row, if_pos rfl, upd_self, b35]; rfl), s_no13 (d := 39) (by omega) rfl]
          simp +decide (disch := omega) only [gl_e, iI_lit, iI_neg, iI_add, iI_sub, iI_mul, gk_t, b_some, bz0, bz1, pI_row, pI_snd, pA_row, pA_snd, pL_fst, pL_row, pB_fst, pB_row, upd_at, ↓reduceIte, Int.reduceToNat, Nat.reduceEqDiff, iI_lt, iI_le, iI_eq, iI_inb, iI_nat, iI_nz, e1, b35, c5, c6]
          refine ⟨_, _, _, rfl, rfl, Rel1_ch hR (fun c h1 h2 h3 h4 h5 => ?_) rfl (fun c h1 h2 h3 h4 h5 h6 h7 => ?_) (fun j h1 h2 => ?_) ?_ (fun n2 hP2 hC2 => ?_)⟩
          · simp +decide (disch := omega) only [pI_off, pA_off]
          · rw [pI_off h1, pI_off h1, pA_off h7, pI_off h1, pA_off h7, (bec_off _ a b _).1 c (by omega)]
          · rw [pI_row, if_pos rfl, upd_ne h1, pI_row, if_pos rfl, upd_ne h2, pA_off (by decide), pI_row, if_pos rfl, upd_ne h2, pA_off (by decide), (bec_off _ a b _).1 0 (by omega)]
          · rw [pI_snd, pI_snd, pA_snd, pI_snd, pA_snd, (bec_off _ a b _).2]
          · have q := en n2 hP2
            subst q
            refine ⟨hRP, ?_⟩
            have h := RC_note (d := 39) (c := 39) (by omega) (Nat.le_refl _) (pl := va_cpy (x.1 4) (x.1 4) 1 0 39) (ws := va_cpy (x.1 5) (x.1 5) 1 0 39) (bc := va_cpy (x.1 6) (x.1 6) 1 0 39) (ch := sh4 0 (m.1 21)) (fun i hi => ?_) ho hro hrv
            · rw [← (bec_off m a b (iI v)).1 21 (Or.inr (by decide))] at h
              exact h
            · rw [cpy39 hi, cpy39 hi, cpy39 hi]
              have z : ∀ q, q < 4 → sh4 0 (m.1 21) (4 * i + q) = m.1 21 (4 * (i + 1) + q) := by
                intro q hq
                unfold sh4
                rw [if_pos (by omega)]
                exact congrArg (m.1 21) (by omega)
              have h := hc (i + 1) (by omega)
              rw [z 2 (by omega), z 3 (by omega), z 1 (by omega), show sh4 0 (m.1 21) (4 * i) = m.1 21 (4 * (i + 1)) from z 0 (by omega)]
              exact h
    · simp only [c2, not_false_eq_true, ↓reduceIte]
      exact ⟨_, _, _, rfl, rfl, hR⟩
  · rw [(s_plc hn hP.2.1 hp1 hp2 hw1 hw2).2 c1, (s_isOf hn hP.2.2.1 hp1 hp2 hw1 hw2).2 c1]
    simp +decide (disch := omega) only [gl_e, iI_lit, iI_neg, iI_add, iI_sub, iI_mul, gk_t, b_some, bz0, bz1, pI_row, pI_snd, pA_row, pA_snd, pL_fst, pL_row, pB_fst, pB_row, upd_at, ↓reduceIte, Int.reduceToNat, Nat.reduceEqDiff, iI_lt, iI_le, iI_eq, iI_inb, iI_nat, iI_nz]
    exact ⟨_, _, _, rfl, rfl, hR⟩
