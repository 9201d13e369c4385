/-! ===== unseen, thief, safe ===== -/
def GP (b : Nat → Bool) (U z : Nat) (f : Nat → Nat) : Prop := (∀ i, i < z → f i ≤ U ∧ b (f i) = true) ∧ (∀ t, t ≤ U → b t = true → ∃ i, i < z ∧ f i = t) ∧ (∀ i j, i ≤ j → j < z → f i ≤ f j)
theorem GP_of {w : Nat → Nat → Nat} {sd k p C z U : Nat} {S f : Nat → Nat} (hN : NP S (Tm w sd S k) k p C z f) (hC : isC (Tm w sd S k) U C) : GP (dn w sd S k p) U z f := by
  refine ⟨fun i hi => ?_, fun t ht hb => ?_, fun i j h1 h2 => NP_mono hN h1 h2⟩
  · obtain ⟨j, q1, q2, q3⟩ := hN.2.2.1 i hi
    have g := hC.2.1 j q1
    have g2 := hC.1
    exact ⟨by omega, dn_iff.mpr ⟨j, by omega, q2, q3⟩⟩
  · obtain ⟨j, q1, q2, q3⟩ := dn_iff.mp hb
    have hj : j < C := by
      by_cases c : j < C
      · exact c
      · have g := hC.2.2 (by omega)
        have g2 := Tm_mono (w := w) (sd := sd) (S := S) (k := k) (show C ≤ j by omega)
        omega
    obtain ⟨i, q4, q5⟩ := hN.2.2.2.1 j hj q2
    exact ⟨i, q4, by omega⟩
/-- seen: a dent no longer ago than that -/
def sn (b : Nat → Bool) (wd v : Nat) : Prop := ∃ t, t ≤ v ∧ v < t + wd ∧ b t = true
theorem sn_iff {b : Nat → Bool} {wd v : Nat} : sn b wd v ↔ 0 ≤ ld b v ∧ (v : Int) - ld b v < wd := by
  constructor
  · rintro ⟨t, h1, h2, h3⟩
    have g := ld_max v t h1 h3
    omega
  · rintro ⟨h1, h2⟩
    have e : ld b v = (((ld b v).toNat : Nat) : Int) := by omega
    obtain ⟨g1, g2⟩ := ld_in v _ e
    exact ⟨(ld b v).toNat, g2, by omega, g1⟩
theorem cnt_ld {b : Nat → Bool} {U z c v : Nat} {f : Nat → Nat} (h : GP b U z f) (hv : v ≤ U) (hc : c ≤ z) (h1 : ∀ i, i < c → f i ≤ v) (h2 : c < z → v < f c) : ld b v = if c = 0 then -1 else ((f (c - 1) : Nat) : Int) := by
  obtain ⟨a1, a2, a3⟩ := h
  have out : ∀ t, t ≤ v → b t = true → ∃ i, i < c ∧ f i = t := fun t ht hb => by
    obtain ⟨i, q1, q2⟩ := a2 t (by omega) hb
    refine ⟨i, ?_, q2⟩
    by_cases q : i < c
    · exact q
    · have g := a3 c i (by omega) q1
      have g2 := h2 (by omega)
      omega
  by_cases e : c = 0
  · rw [if_pos e]
    refine ld_none v fun t ht => ?_
    cases hb : b t
    · rfl
    · obtain ⟨i, q1, q2⟩ := out t ht hb
      omega
  · rw [if_neg e]
    refine ld_some v _ (h1 (c - 1) (by omega)) (a1 (c - 1) (by omega)).2 fun s q1 q2 => ?_
    cases hb : b s
    · rfl
    · obtain ⟨i, q3, q4⟩ := out s q2 hb
      have g := a3 i (c - 1) (by omega) (by omega)
      omega
def wdo (sd : Nat) : Nat := if 1 < sd then sd else 1
theorem wdo_rg {sd : Nat} (h : sd ≤ 9) : 1 ≤ wdo sd ∧ wdo sd ≤ 9 := by
  unfold wdo
  split <;> omega
theorem jmax1 {sd : Nat} (h : sd ≤ 9) : jmax (iI 1) (iI sd) = iI (wdo sd : Nat) := by
  unfold wdo
  rw [jmax_i (by omega) (by omega) (by omega) (by omega)]
  by_cases c : 1 < sd
  · rw [if_pos (by omega), if_pos c]
  · rw [if_neg (by omega), if_neg c]
    rfl
section
variable {m : gS} {sd k : Nat} {w : Nat → Nat → Nat} {S : Nat → Nat}
theorem s_isSeen (hd : sd ≤ 9) (e5 : m.1 5 3 = iI sd) (hT : LT w sd S k m) {p v : Nat} (hp : p < 9) (hv : v < 2000) : f_X10_isSeen m (iI p) (iI v) = some (bI (0 ≤ ld (dn w sd S k p) v ∧ (v : Int) - ld (dn w sd S k p) v < (wdo sd : Nat))) := by
  have q := hT p v hp hv
  have lr := ld_rg (b := dn w sd S k p) v
  have wr := wdo_rg hd
  have t1 : (2000 * (p : Int) + (v : Int)).toNat = 2000 * p + v := by omega
  generalize ld (dn w sd S k p) v = l at q lr
  unfold f_X10_isSeen bI
  by_cases c : l < 0
  · have c2 : ¬ (0 ≤ l ∧ (v : Int) - l < (wdo sd : Nat)) := by omega
    rw [if_neg c2]
    simp +decide (maxSteps := 2000000) (disch := omega) only [↓gl_p, ↓bs_p, iI_lit, iI_neg, iI_add, iI_sub, iI_mul, gk_p, bs_p, bz0, bz1, pI_row, pI_snd, pA_row, pA_snd, pL_fst, pL_row, pB_fst, pB_row, upd_at, ↓reduceIte, Int.reduceToNat, Nat.reduceEqDiff, iI_lt, iI_le, iI_eq, iI_inb, iI_nat, iI_nz, t1, q, c]
  · by_cases c3 : ((wdo sd : Nat) : Int) ≤ (v : Int) - l
    · have c2 : ¬ (0 ≤ l ∧ (v : Int) - l < (wdo sd : Nat)) := by omega
      rw [if_neg c2]
      simp +decide (maxSteps := 2000000) (disch := omega) only [↓gl_p, ↓bs_p, iI_lit, iI_neg, iI_add, iI_sub, iI_mul, gk_p, bs_p, bz0, bz1, pI_row, pI_snd, pA_row, pA_snd, pL_fst, pL_row, pB_fst, pB_row, upd_at, ↓reduceIte, Int.reduceToNat, Nat.reduceEqDiff, iI_lt, iI_le, iI_eq, iI_inb, iI_nat, iI_nz, t1, q, c, e5, jmax1 hd, c3]
    · have c2 : 0 ≤ l ∧ (v : Int) - l < (wdo sd : Nat) := by omega
      rw [if_pos c2]
      simp +decide (maxSteps := 2000000) (disch := omega) only [↓gl_p, ↓bs_p, iI_lit, iI_neg, iI_add, iI_sub, iI_mul, gk_p, bs_p, bz0, bz1, pI_row, pI_snd, pA_row, pA_snd, pL_fst, pL_row, pB_fst, pB_row, upd_at, ↓reduceIte, Int.reduceToNat, Nat.reduceEqDiff, iI_lt, iI_le, iI_eq, iI_inb, iI_nat, iI_nz, t1, q, c, e5, jmax1 hd, c3]
def uns (l : Int) (v : Nat) : Int := if 0 ≤ l then (v : Int) - l else (v : Int) + 1
theorem s_unsF (hT : LT w sd S k m) {p v : Nat} (hp : p < 9) (hv : v < 2000) : f_X10_unseenFor m (iI p) (iI v) = some (iI (uns (ld (dn w sd S k p) v) v)) := by
  have q := hT p v hp hv
  have lr := ld_rg (b := dn w sd S k p) v
  have t1 : (2000 * (p : Int) + (v : Int)).toNat = 2000 * p + v := by omega
  generalize ld (dn w sd S k p) v = l at q lr
  unfold f_X10_unseenFor uns
  by_cases c : 0 ≤ l
  · rw [if_pos c]
    simp +decide (maxSteps := 2000000) (disch := omega) only [↓gl_p, ↓bs_p, iI_lit, iI_neg, iI_add, iI_sub, iI_mul, gk_p, bs_p, bz0, bz1, pI_row, pI_snd, pA_row, pA_snd, pL_fst, pL_row, pB_fst, pB_row, upd_at, ↓reduceIte, Int.reduceToNat, Nat.reduceEqDiff, iI_lt, iI_le, iI_eq, iI_inb, iI_nat, iI_nz, t1, q, c]
  · rw [if_neg c]
    simp +decide (maxSteps := 2000000) (disch := omega) only [↓gl_p, ↓bs_p, iI_lit, iI_neg, iI_add, iI_sub, iI_mul, gk_p, bs_p, bz0, bz1, pI_row, pI_snd, pA_row, pA_snd, pL_fst, pL_row, pB_fst, pB_row, upd_at, ↓reduceIte, Int.reduceToNat, Nat.reduceEqDiff, iI_lt, iI_le, iI_eq, iI_inb, iI_nat, iI_nz, t1, q, c]
end
section
variable {y : gS} {z U wd : Nat} {f : Nat → Nat} {b : Nat → Bool}
/-- behind c of the minutes -/
theorem s_unsA (hG : GR z f y) (hP : GP b U z f) (hU : U ≤ 1098) (hz : z ≤ 2198) {c v : Nat} (hv : v ≤ U) (hc : c ≤ z) (h1 : ∀ i, i < c → f i ≤ v) (h2 : c < z → v < f c) : f_X6_unseenAfter y (iI c) (iI v) = some (iI (uns (ld b v) v)) := by
  obtain ⟨g1, g2⟩ := hG
  rw [cnt_ld hP hv hc h1 h2]
  unfold f_X6_unseenAfter uns
  by_cases e : c = 0
  · have c1 : (c : Int) < 1 := by omega
    rw [if_pos e]
    simp +decide (maxSteps := 2000000) (disch := omega) only [↓gl_p, ↓bs_p, iI_lit, iI_neg, iI_add, iI_sub, iI_mul, gk_p, bs_p, bz0, bz1, pI_row, pI_snd, pA_row, pA_snd, pL_fst, pL_row, pB_fst, pB_row, upd_at, ↓reduceIte, Int.reduceToNat, Nat.reduceEqDiff, iI_lt, iI_le, iI_eq, iI_inb, iI_nat, iI_nz, c1]
  · have c1 : ¬ (c : Int) < 1 := by omega
    have c2 : (c : Int) ≤ (z : Int) := by omega
    have t1 : ((c : Int) - 1).toNat = c - 1 := by omega
    have q := g2 (c - 1) (by omega)
    have c3 : (0 : Int) ≤ ((f (c - 1) : Nat) : Int) := by omega
    rw [if_neg e, if_pos c3]
    simp +decide (maxSteps := 2000000) (disch := omega) only [↓gl_p, ↓bs_p, iI_lit, iI_neg, iI_add, iI_sub, iI_mul, gk_p, bs_p, bz0, bz1, pI_row, pI_snd, pA_row, pA_snd, pL_fst, pL_row, pB_fst, pB_row, upd_at, ↓reduceIte, Int.reduceToNat, Nat.reduceEqDiff, iI_lt, iI_le, iI_eq, iI_inb, iI_nat, iI_nz, g1, c1, c2, t1, q]
theorem s_seeA (hG : GR z f y) (hP : GP b U z f) (hU : U ≤ 1098) (hz : z ≤ 2198) (hw : y.1 32 2 = iI (wd : Nat)) (w1 : 1 ≤ wd) (w2 : wd ≤ 9) {c v : Nat} (hv : v ≤ U) (hc : c ≤ z) (h1 : ∀ i, i < c → f i ≤ v) (h2 : c < z → v < f c) : f_X6_seenAfter y (iI c) (iI v) = some (bI (0 ≤ ld b v ∧ (v : Int) - ld b v < wd)) := by
  obtain ⟨g1, g2⟩ := hG
  rw [cnt_ld hP hv hc h1 h2]
  unfold f_X6_seenAfter bI
  by_cases e : c = 0
  · have c1 : (c : Int) < 1 := by omega
    have c9 : ¬ (0 ≤ (-1 : Int) ∧ (v : Int) - (-1) < wd) := by omega
    rw [if_pos e, if_neg c9]
    simp +decide (maxSteps := 2000000) (disch := omega) only [↓gl_p, ↓bs_p, iI_lit, iI_neg, iI_add, iI_sub, iI_mul, gk_p, bs_p, bz0, bz1, pI_row, pI_snd, pA_row, pA_snd, pL_fst, pL_row, pB_fst, pB_row, upd_at, ↓reduceIte, Int.reduceToNat, Nat.reduceEqDiff, iI_lt, iI_le, iI_eq, iI_inb, iI_nat, iI_nz, c1]
  · have c1 : ¬ (c : Int) < 1 := by omega
    have c2 : ¬ (z : Int) < (c : Int) := by omega
    have t1 : ((c : Int) - 1).toNat = c - 1 := by omega
    have q := g2 (c - 1) (by omega)
    have q2 := h1 (c - 1) (by omega)
    rw [if_neg e]
    by_cases c3 : (wd : Int) ≤ (v : Int) - ((f (c - 1) : Nat) : Int)
    · have c9 : ¬ (0 ≤ ((f (c - 1) : Nat) : Int) ∧ (v : Int) - ((f (c - 1) : Nat) : Int) < wd) := by omega
      rw [if_neg c9]
      simp +decide (maxSteps := 2000000) (disch := omega) only [↓gl_p, ↓bs_p, iI_lit, iI_neg, iI_add, iI_sub, iI_mul, gk_p, bs_p, bz0, bz1, pI_row, pI_snd, pA_row, pA_snd, pL_fst, pL_row, pB_fst, pB_row, upd_at, ↓reduceIte, Int.reduceToNat, Nat.reduceEqDiff, iI_lt, iI_le, iI_eq, iI_inb, iI_nat, iI_nz, g1, hw, c1, c2, t1, q, c3]
    · have c9 : 0 ≤ ((f (c - 1) : Nat) : Int) ∧ (v : Int) - ((f (c - 1) : Nat) : Int) < wd := by omega
      rw [if_pos c9]
      simp +decide (maxSteps := 2000000) (disch := omega) only [↓gl_p, ↓bs_p, iI_lit, iI_neg, iI_add, iI_sub, iI_mul, gk_p, bs_p, bz0, bz1, pI_row, pI_snd, pA_row, pA_snd, pL_fst, pL_row, pB_fst, pB_row, upd_at, ↓reduceIte, Int.reduceToNat, Nat.reduceEqDiff, iI_lt, iI_le, iI_eq, iI_inb, iI_nat, iI_nz, g1, hw, c1, c2, t1, q, c3]
end
theorem sc_ga {x y : gS} (h : Ch gaC x y) : Ch scX x y := Ch_mo h fun c j hd => by
  unfold scX at hd
  unfold gaC
  simp at hd ⊢
  omega
theorem sc_lk {x y : gS} (h : Ch lkC x y) : Ch scM x y := Ch_mo h fun c j hd => by
  unfold scM at hd
  unfold lkC
  simp at hd ⊢
  omega
theorem GP_sz {w : Nat → Nat → Nat} {sd k p C z U : Nat} {S f : Nat → Nat} (hN : NP S (Tm w sd S k) k p C z f) (hP : GP (dn w sd S k p) U z f) (hU : U ≤ 1098) : z ≤ 2198 := by
  have g := NP_bd hN (U := U) (fun i hi => (hP.1 i hi).1)
  omega
theorem e_unseen (L : LawT) : EQ_unseen (Rel1 L) := by
  intro x m a1 a2 a3 a4 hR
  obtain ⟨s, rfl, hs1, hs2⟩ := iI_of a1
  obtain ⟨v, rfl, hv1, hv2⟩ := iI_of a2
  obtain ⟨t, rfl, ht1, ht2⟩ := iI_of a3
  obtain ⟨q, rfl, hq1, hq2⟩ := iI_of a4
  obtain ⟨⟨n, nb, hP, hC, hT, hD, hI, hK, hS⟩, hL⟩ := id hR
  have hn := hP.1
  have px := s_poX (σ := x) hn hP.2.1 hv1 hv2
  have pm := s_poM (σ := m) hn hP.2.2.1 hv1 hv2
  unfold f_X9_unseen f_X10_unseen
  by_cases c1 : 0 ≤ s ∧ s ≤ 5
  rotate_left
  · simp +decide (maxSteps := 2000000) (disch := omega) only [↓gl_p, ↓bs_p, iI_lit, iI_neg, iI_add, iI_sub, iI_mul, gk_p, bs_p, bz0, bz1, pI_row, pI_snd, pA_row, pA_snd, pL_fst, pL_row, pB_fst, pB_row, upd_at, ↓reduceIte, Int.reduceToNat, Nat.reduceEqDiff, iI_lt, iI_le, iI_eq, iI_inb, iI_nat, iI_nz, c1, s_shX, s_shM, bI_0, not_false_eq_true]
    exact ⟨_, _, _, rfl, rfl, hR⟩
  by_cases c2 : 0 ≤ v ∧ v < n
  rotate_left
  · simp +decide (maxSteps := 2000000) (disch := omega) only [↓gl_p, ↓bs_p, iI_lit, iI_neg, iI_add, iI_sub, iI_mul, gk_p, bs_p, bz0, bz1, pI_row, pI_snd, pA_row, pA_snd, pL_fst, pL_row, pB_fst, pB_row, upd_at, ↓reduceIte, Int.reduceToNat, Nat.reduceEqDiff, iI_lt, iI_le, iI_eq, iI_inb, iI_nat, iI_nz, c1, c2, s_shX, s_shM, lL_i, px, pm, bI_0, not_false_eq_true, not_true_eq_false, and_self]
    exact ⟨_, _, _, rfl, rfl, hR⟩
  by_cases c3 : 0 ≤ t ∧ t ≤ 999
  rotate_left
  · simp +decide (maxSteps := 2000000) (disch := omega) only [↓gl_p, ↓bs_p, iI_lit, iI_neg, iI_add, iI_sub, iI_mul, gk_p, bs_p, bz0, bz1, pI_row, pI_snd, pA_row, pA_snd, pL_fst, pL_row, pB_fst, pB_row, upd_at, ↓reduceIte, Int.reduceToNat, Nat.reduceEqDiff, iI_lt, iI_le, iI_eq, iI_inb, iI_nat, iI_nz, c1, c2, c3, s_shX, s_shM, lL_i, px, pm, s_miX, s_miM, bI_0, not_false_eq_true, not_true_eq_false, and_self]
    exact ⟨_, _, _, rfl, rfl, hR⟩
  by_cases c4 : 0 ≤ q ∧ q ≤ 1
  rotate_left
  · simp +decide (maxSteps := 2000000) (disch := omega) only [↓gl_p, ↓bs_p, iI_lit, iI_neg, iI_add, iI_sub, iI_mul, gk_p, bs_p, bz0, bz1, pI_row, pI_snd, pA_row, pA_snd, pL_fst, pL_row, pB_fst, pB_row, upd_at, ↓reduceIte, Int.reduceToNat, Nat.reduceEqDiff, iI_lt, iI_le, iI_eq, iI_inb, iI_nat, iI_nz, c1, c2, c3, c4, s_shX, s_shM, lL_i, px, pm, s_miX, s_miM, s_wi, s_eith, bI_0, not_false_eq_true, not_true_eq_false, and_self]
    exact ⟨_, _, _, rfl, rfl, hR⟩
  obtain ⟨u, hu, rfl⟩ : ∃ k : Nat, k < 6 ∧ s = (k : Int) := ⟨s.toNat, by omega, by omega⟩
  obtain ⟨p, hp, rfl⟩ : ∃ k : Nat, k < n ∧ v = (k : Int) := ⟨v.toNat, by omega, by omega⟩
  obtain ⟨U, hU, rfl⟩ : ∃ k : Nat, k ≤ 999 ∧ t = (k : Int) := ⟨t.toNat, by omega, by omega⟩
  rcases lay3 hP hK.1 hS hu with ⟨b, hb, l1, l2⟩ | ⟨k, w, sd, S, y, m2, l1, l2, l3, h1, h2, hY, hM, hC, hO⟩
  · have hb2 : ¬ 0 ≤ b := by omega
    simp +decide (maxSteps := 2000000) (disch := omega) only [↓gl_p, ↓bs_p, iI_lit, iI_neg, iI_add, iI_sub, iI_mul, gk_p, bs_p, bz0, bz1, pI_row, pI_snd, pA_row, pA_snd, pL_fst, pL_row, pB_fst, pB_row, upd_at, ↓reduceIte, Int.reduceToNat, Nat.reduceEqDiff, iI_lt, iI_le, iI_eq, iI_inb, iI_nat, iI_nz, c1, c2, c3, c4, s_shX, s_shM, lL_i, px, pm, s_miX, s_miM, s_wi, s_eith, bI_0, not_true_eq_false, and_self, l1, l2, hb2]
    exact ⟨_, _, _, rfl, rfl, hR⟩
  · have hw : ∀ p q, okP n p → okP n q → w p q ≤ 270 := fun p q hp hq => (hY.2.2.2.2 p q hp hq).1
    obtain ⟨m3, w1, w2, hT⟩ := s_looks hn hw hY.2.1 hO hM
    obtain ⟨y2, C, z, f, g1, g2, g3, g4, g5, g6⟩ := s_gath_26 hY hC hp (U := U) (by omega)
    have hR2 := Rel1_sc hR (Ch_tr (sc_co (by omega) (by omega) h1) (sc_ga g2)) (Ch_tr (sc_rd h2) (sc_lk w2))
    have hG := GP_of g6 g3
    have hz := GP_sz g6 hG (by omega)
    have e5 : m3.1 5 3 = iI sd := (w2.2 5 3 rfl).trans hM.2.1
    have ux := s_unsA g5 hG (by omega) hz (c := z) (v := U) (Nat.le_refl _) (Nat.le_refl _) (fun i hi => (hG.1 i hi).1) (fun h => absurd h (by omega))
    have sx := s_seeA g5 hG (by omega) hz (wd := wdo sd) g4 (wdo_rg hY.2.1).1 (wdo_rg hY.2.1).2 (c := z) (v := U) (Nat.le_refl _) (Nat.le_refl _) (fun i hi => (hG.1 i hi).1) (fun h => absurd h (by omega))
    have um := s_unsF hT (p := p) (v := U) (by omega) (by omega)
    have sm := s_isSeen hY.2.1 e5 hT (p := p) (v := U) (by omega) (by omega)
    have ez := g5.1
    unfold f_X6_unseenAtEnd f_X6_seenAtEnd
    by_cases c5 : q = 0
    · simp +decide (maxSteps := 2000000) (disch := omega) only [↓gl_p, ↓bs_p, iI_lit, iI_neg, iI_add, iI_sub, iI_mul, gk_p, bs_p, bz0, bz1, pI_row, pI_snd, pA_row, pA_snd, pL_fst, pL_row, pB_fst, pB_row, upd_at, ↓reduceIte, Int.reduceToNat, Nat.reduceEqDiff, iI_lt, iI_le, iI_eq, iI_inb, iI_nat, iI_nz, c1, c2, c3, c4, eq_true c5, s_shX, s_shM, lL_i, px, pm, s_miX, s_miM, s_wi, s_eith, bI_0, not_true_eq_false, and_self, l1, l2, l3, w1, g1, ez, ux, um]
      exact ⟨_, _, _, rfl, rfl, hR2⟩
    · simp +decide (maxSteps := 2000000) (disch := omega) only [↓gl_p, ↓bs_p, iI_lit, iI_neg, iI_add, iI_sub, iI_mul, gk_p, bs_p, bz0, bz1, pI_row, pI_snd, pA_row, pA_snd, pL_fst, pL_row, pB_fst, pB_row, upd_at, ↓reduceIte, Int.reduceToNat, Nat.reduceEqDiff, iI_lt, iI_le, iI_eq, iI_inb, iI_nat, iI_nz, c1, c2, c3, c4, c5, s_shX, s_shM, lL_i, px, pm, s_miX, s_miM, s_wi, s_eith, bI_0, bI_z, not_true_eq_false, and_self, l1, l2, l3, w1, g1, ez, sx, sm]
      by_cases c6 : 0 ≤ ld (dn w sd S k p) U ∧ (U : Int) - ld (dn w sd S k p) U < (wdo sd : Nat)
      · simp only [c6, not_true_eq_false, and_self, ↓reduceIte]
        exact ⟨_, _, _, rfl, rfl, hR2⟩
      · simp only [c6, not_false_eq_true, ↓reduceIte]
        exact ⟨_, _, _, rfl, rfl, hR2⟩
/-! the first minute from which it is not seen for long -/
def isTh (b : Nat → Bool) (wd a n : Nat) (q : Int) : Prop := (q = -2 ∧ ∀ s, a ≤ s → s ≤ 999 → ∃ v, s ≤ v ∧ v < s + n ∧ sn b wd v) ∨ (∃ s : Nat, q = s ∧ a ≤ s ∧ s ≤ 999 ∧ (∀ v, s ≤ v → v < s + n → ¬ sn b wd v) ∧ ∀ s2, a ≤ s2 → s2 < s → ∃ v, s2 ≤ v ∧ v < s2 + n ∧ sn b wd v)
theorem isTh_u {b : Nat → Bool} {wd a n : Nat} {q r : Int} (h1 : isTh b wd a n q) (h2 : isTh b wd a n r) : q = r := by
  rcases h1 with ⟨e1, f1⟩ | ⟨s, e1, s1, s2, s3, s4⟩ <;> rcases h2 with ⟨e2, f2⟩ | ⟨t, e2, t1, t2, t3, t4⟩
  · omega
  · obtain ⟨v, v1, v2, v3⟩ := f1 t t1 t2
    exact absurd v3 (t3 v v1 v2)
  · obtain ⟨v, v1, v2, v3⟩ := f2 s s1 s2
    exact absurd v3 (s3 v v1 v2)
  · rcases Nat.lt_trichotomy s t with c | c | c
    · obtain ⟨v, v1, v2, v3⟩ := t4 s s1 c
      exact absurd v3 (s3 v v1 v2)
    · omega
    · obtain ⟨v, v1, v2, v3⟩ := s4 t t1 c
      exact absurd v3 (t3 v v1 v2)
theorem w_free {y : gS} {z U wd a n : Nat} {f : Nat → Nat} {b : Nat → Bool} (hG : GR z f y) (hP : GP b U z f) (hU : U ≤ 1098) (hz : z ≤ 2198) (hw : y.1 32 2 = iI (wd : Nat)) (w1 : 1 ≤ wd) (w2 : wd ≤ 9) (hn1 : 1 ≤ n) (hn : n ≤ 99) (ha : a ≤ 1200) : ∀ (r i g st : Nat), i + r = z → r ≤ g → a ≤ st → st ≤ 1200 → (∀ s, a ≤ s → s < st → ∃ v, s ≤ v ∧ v < s + n ∧ sn b wd v) → (∀ j, j < i → f j + wd ≤ st) → ∃ s2, f_X6_freeFrom_5 y (g + 1) (iI n) (iI st) (iI i) = some (iI (s2 : Nat)) ∧ a ≤ s2 ∧ s2 ≤ 1200 ∧ (∀ s, a ≤ s → s < s2 → ∃ v, s ≤ v ∧ v < s + n ∧ sn b wd v) ∧ (s2 + n ≤ U + 1 → ∀ v, s2 ≤ v → v < s2 + n → ¬ sn b wd v) := by
  obtain ⟨g1, g2⟩ := hG
  obtain ⟨p1, p2, p3⟩ := hP
  intro r
  induction r with
  | zero =>
    intro i g st hi hg a1 a2 h1 h2
    have c : (z : Int) ≤ (i : Int) := by omega
    refine ⟨st, ?_, a1, a2, h1, fun h3 v v1 v2 hs => ?_⟩
    · rw [f_X6_freeFrom_5]
      simp +decide (maxSteps := 2000000) (disch := omega) only [↓gl_p, ↓bs_p, iI_lit, iI_neg, iI_add, iI_sub, iI_mul, gk_p, bs_p, bz0, bz1, pI_row, pI_snd, pA_row, pA_snd, pL_fst, pL_row, pB_fst, pB_row, upd_at, ↓reduceIte, Int.reduceToNat, Nat.reduceEqDiff, iI_lt, iI_le, iI_eq, iI_inb, iI_nat, iI_nz, g1, c]
    · obtain ⟨t, t1, t2, t3⟩ := hs
      obtain ⟨j, j1, j2⟩ := p2 t (by omega) t3
      have q := h2 j (by omega)
      omega
  | succ r ih =>
    intro i g st hi hg a1 a2 h1 h2
    obtain ⟨g, rfl⟩ : ∃ q, g = q + 1 := ⟨g - 1, by omega⟩
    have c : ¬ (z : Int) ≤ (i : Int) := by omega
    have q := g2 i (by omega)
    have q1 := p1 i (by omega)
    by_cases c2 : st + n ≤ f i
    · have c3 : (st : Int) + (n : Int) ≤ ((f i : Nat) : Int) := by omega
      refine ⟨st, ?_, a1, a2, h1, fun h3 v v1 v2 hs => ?_⟩
      · rw [f_X6_freeFrom_5]
        simp +decide (maxSteps := 2000000) (disch := omega) only [↓gl_p, ↓bs_p, iI_lit, iI_neg, iI_add, iI_sub, iI_mul, gk_p, bs_p, bz0, bz1, pI_row, pI_snd, pA_row, pA_snd, pL_fst, pL_row, pB_fst, pB_row, upd_at, ↓reduceIte, Int.reduceToNat, Nat.reduceEqDiff, iI_lt, iI_le, iI_eq, iI_inb, iI_nat, iI_nz, g1, c, q, c3, Int.toNat_natCast]
      · obtain ⟨t, t1, t2, t3⟩ := hs
        obtain ⟨j, j1, j2⟩ := p2 t (by omega) t3
        by_cases c4 : j < i
        · have q := h2 j c4
          omega
        · have q := p3 i j (by omega) j1
          omega
    · have c3 : ¬ (st : Int) + (n : Int) ≤ ((f i : Nat) : Int) := by omega
      obtain ⟨st2, hst2⟩ : ∃ st2, st2 = if st < f i + wd then f i + wd else st := ⟨_, rfl⟩
      have ej : jmax (iI st) (iI (((f i : Nat) : Int) + (wd : Int))) = iI st2 := by
        rw [jmax_i (by omega) (by omega) (by omega) (by omega), hst2]
        by_cases c4 : st < f i + wd
        · rw [if_pos (by omega), if_pos c4]
          rfl
        · rw [if_neg (by omega), if_neg c4]
      have b1 : st ≤ st2 ∧ f i + wd ≤ st2 ∧ (st2 = st ∨ st2 = f i + wd) := by
        rw [hst2]
        split <;> omega
      obtain ⟨s2, k1, k2, k3, k4, k5⟩ := ih (i + 1) g st2 (by omega) (by omega) (by omega) (by omega) (fun s s1 s2 => by
        by_cases c4 : s < st
        · exact h1 s s1 c4
        · by_cases c5 : s ≤ f i
          · exact ⟨f i, by omega, by omega, f i, by omega, by omega, q1.2⟩
          · exact ⟨s, by omega, by omega, f i, by omega, by omega, q1.2⟩) (fun j hj => by
        by_cases e : j = i
        · rw [e]
          omega
        · have q := h2 j (by omega)
          omega)
      refine ⟨s2, ?_, k2, k3, k4, k5⟩
      rw [f_X6_freeFrom_5]
      simp +decide (maxSteps := 2000000) (disch := omega) only [↓gl_p, ↓bs_p, iI_lit, iI_neg, iI_add, iI_sub, iI_mul, gk_p, bs_p, bz0, bz1, pI_row, pI_snd, pA_row, pA_snd, pL_fst, pL_row, pB_fst, pB_row, upd_at, ↓reduceIte, Int.reduceToNat, Nat.reduceEqDiff, iI_lt, iI_le, iI_eq, iI_inb, iI_nat, iI_nz, g1, hw, c, q, c3, Int.toNat_natCast]
      rw [ej]
      exact k1
theorem s_free {y : gS} {n0 k sd : Nat} {w : Nat → Nat → Nat} {S : Nat → Nat} (hY : YD n0 w sd y) (hC : CO 26 n0 k w sd S y) {p a n : Nat} (hp : p < n0) (ha : a ≤ 999) (h1 : 1 ≤ n) (h2 : n ≤ 99) : ∃ q y2, f_X9_freeStart y (iI p) (iI a) (iI n) = some (iI q, y2) ∧ Ch gaC y y2 ∧ isTh (dn w sd S k p) (wdo sd) a n q ∧ -2 ≤ q ∧ q ≤ 999 := by
  obtain ⟨y2, C, z, f, g1, g2, g3, g4, g5, g6⟩ := s_gath_26 hY hC hp (U := 999 + n - 1) (by omega)
  have hG := GP_of g6 g3
  have hz := GP_sz g6 hG (by omega)
  obtain ⟨s2, k1, k2, k3, k4, k5⟩ := w_free g5 hG (by omega) hz (wd := wdo sd) g4 (wdo_rg hY.2.1).1 (wdo_rg hY.2.1).2 h1 h2 (a := a) (by omega) z 0 999999 a (by omega) (by omega) (by omega) (by omega) (fun s h1 h2 => absurd h1 (by omega)) (fun j hj => absurd hj (by omega))
  have eU : (999 : Int) + (n : Int) - 1 = ((999 + n - 1 : Nat) : Int) := by omega
  have k1' : f_X6_freeFrom_5 y2 gN (iI n) (iI a) (iI 0) = some (iI (s2 : Nat)) := k1
  by_cases c : s2 ≤ 999
  · have c2 : (s2 : Int) ≤ 999 := by omega
    refine ⟨s2, y2, ?_, g2, Or.inr ⟨s2, rfl, k2, c, k5 (by omega), k4⟩, by omega, by omega⟩
    unfold f_X9_freeStart f_X6_freeFrom
    simp +decide (maxSteps := 2000000) (disch := omega) only [↓gl_p, ↓bs_p, iI_lit, iI_neg, iI_add, iI_sub, iI_mul, gk_p, bs_p, bz0, bz1, pI_row, pI_snd, pA_row, pA_snd, pL_fst, pL_row, pB_fst, pB_row, upd_at, ↓reduceIte, Int.reduceToNat, Nat.reduceEqDiff, iI_lt, iI_le, iI_eq, iI_inb, iI_nat, iI_nz, eU, g1, k1', c2]
  · have c2 : ¬ (s2 : Int) ≤ 999 := by omega
    refine ⟨-2, y2, ?_, g2, Or.inl ⟨rfl, fun s h1 h2 => k4 s h1 (by omega)⟩, by omega, by omega⟩
    unfold f_X9_freeStart f_X6_freeFrom
    simp +decide (maxSteps := 2000000) (disch := omega) only [↓gl_p, ↓bs_p, iI_lit, iI_neg, iI_add, iI_sub, iI_mul, gk_p, bs_p, bz0, bz1, pI_row, pI_snd, pA_row, pA_snd, pL_fst, pL_row, pB_fst, pB_row, upd_at, ↓reduceIte, Int.reduceToNat, Nat.reduceEqDiff, iI_lt, iI_le, iI_eq, iI_inb, iI_nat, iI_nz, eU, g1, k1', c2]
theorem w_th6 {m : gS} {sd k : Nat} {w : Nat → Nat → Nat} {S : Nat → Nat} (hd : sd ≤ 9) (e5 : m.1 5 3 = iI sd) (hT : LT w sd S k m) {p : Nat} (hp : p < 9) {a n : Nat} (ha : a ≤ 999) (h1 : 1 ≤ n) (h2 : n ≤ 99) : ∀ (r v f st : Nat), v + r = 999 + n → r ≤ f → a ≤ st → st ≤ v → v - st < n → (∀ s, a ≤ s → s < st → ∃ v, s ≤ v ∧ v < s + n ∧ sn (dn w sd S k p) (wdo sd) v) → (∀ u, st ≤ u → u < v → ¬ sn (dn w sd S k p) (wdo sd) u) → ∃ q, f_X10_thiefAt_6 m (f + 1) (iI p) (iI n) (iI (v - st : Nat)) (iI v) = some (iI q) ∧ isTh (dn w sd S k p) (wdo sd) a n q := by
  intro r
  induction r with
  | zero =>
    intro v f st hv hf a1 a2 a3 h3 h4
    have g : 999 + (n : Int) ≤ (v : Int) := by omega
    refine ⟨-2, ?_, Or.inl ⟨rfl, fun s s1 s2 => h3 s s1 (by omega)⟩⟩
    rw [f_X10_thiefAt_6]
    simp +decide (maxSteps := 2000000) (disch := omega) only [↓gl_p, ↓bs_p, iI_lit, iI_neg, iI_add, iI_sub, iI_mul, gk_p, bs_p, bz0, bz1, pI_row, pI_snd, pA_row, pA_snd, pL_fst, pL_row, pB_fst, pB_row, upd_at, ↓reduceIte, Int.reduceToNat, Nat.reduceEqDiff, iI_lt, iI_le, iI_eq, iI_inb, iI_nat, iI_nz, g]
  | succ r ih =>
    intro v f st hv hf a1 a2 a3 h3 h4
    obtain ⟨f, rfl⟩ : ∃ q, f = q + 1 := ⟨f - 1, by omega⟩
    have g : ¬ 999 + (n : Int) ≤ (v : Int) := by omega
    have se := s_isSeen hd e5 hT hp (v := v) (by omega)
    have si := sn_iff (b := dn w sd S k p) (wd := wdo sd) (v := v)
    rw [f_X10_thiefAt_6]
    unfold f_X10_thiefAt_34
    by_cases c : sn (dn w sd S k p) (wdo sd) v
    · have c2 := si.mp c
      have n0 : ¬ (0 : Int) = (n : Int) := by omega
      obtain ⟨q, k1, k2⟩ := ih (v + 1) f (v + 1) (by omega) (by omega) (by omega) (by omega) (by omega) (fun s s1 s2 => by
        by_cases c3 : s < st
        · exact h3 s s1 c3
        · exact ⟨v, by omega, by omega, c⟩) (fun u u1 u2 => absurd u1 (by omega))
      refine ⟨q, ?_, k2⟩
      rw [Nat.sub_self] at k1
      simp +decide (maxSteps := 2000000) (disch := omega) only [↓gl_p, ↓bs_p, iI_lit, iI_neg, iI_add, iI_sub, iI_mul, gk_p, bs_p, bz0, bz1, pI_row, pI_snd, pA_row, pA_snd, pL_fst, pL_row, pB_fst, pB_row, upd_at, ↓reduceIte, Int.reduceToNat, Nat.reduceEqDiff, iI_lt, iI_le, iI_eq, iI_inb, iI_nat, iI_nz, g, se, bI_0, c2, n0, not_true_eq_false, and_self]
      exact k1
    · have c2 : ¬ (0 ≤ ld (dn w sd S k p) v ∧ (v : Int) - ld (dn w sd S k p) v < (wdo sd : Nat)) := fun h => c (si.mpr h)
      have h5 : ∀ u, st ≤ u → u < v + 1 → ¬ sn (dn w sd S k p) (wdo sd) u := fun u u1 u2 => by
        by_cases e : u = v
        · rw [e]
          exact c
        · exact h4 u u1 (by omega)
      by_cases c3 : v - st + 1 = n
      · have c4 := eq_true (show ((v - st : Nat) : Int) + 1 = (n : Int) by omega)
        refine ⟨(v : Int) - n + 1, ?_, Or.inr ⟨st, by omega, a1, by omega, fun u u1 u2 => h5 u u1 (by omega), h3⟩⟩
        simp +decide (maxSteps := 2000000) (disch := omega) only [↓gl_p, ↓bs_p, iI_lit, iI_neg, iI_add, iI_sub, iI_mul, gk_p, bs_p, bz0, bz1, pI_row, pI_snd, pA_row, pA_snd, pL_fst, pL_row, pB_fst, pB_row, upd_at, ↓reduceIte, Int.reduceToNat, Nat.reduceEqDiff, iI_lt, iI_le, iI_eq, iI_inb, iI_nat, iI_nz, g, se, bI_0, c2, c4, not_false_eq_true]
      · have c4 : ¬ ((v - st : Nat) : Int) + 1 = (n : Int) := by omega
        obtain ⟨q, k1, k2⟩ := ih (v + 1) f st (by omega) (by omega) (by omega) (by omega) (by omega) h3 h5
        refine ⟨q, ?_, k2⟩
        rw [show v + 1 - st = v - st + 1 by omega] at k1
        simp +decide (maxSteps := 2000000) (disch := omega) only [↓gl_p, ↓bs_p, iI_lit, iI_neg, iI_add, iI_sub, iI_mul, gk_p, bs_p, bz0, bz1, pI_row, pI_snd, pA_row, pA_snd, pL_fst, pL_row, pB_fst, pB_row, upd_at, ↓reduceIte, Int.reduceToNat, Nat.reduceEqDiff, iI_lt, iI_le, iI_eq, iI_inb, iI_nat, iI_nz, g, se, bI_0, c2, c4, not_false_eq_true]
        exact k1
theorem s_thief {m : gS} {sd k : Nat} {w : Nat → Nat → Nat} {S : Nat → Nat} (hd : sd ≤ 9) (e5 : m.1 5 3 = iI sd) (hT : LT w sd S k m) {p : Nat} (hp : p < 9) {a n : Nat} (ha : a ≤ 999) (h1 : 1 ≤ n) (h2 : n ≤ 99) : ∃ q, f_X10_thiefAt m (iI p) (iI a) (iI n) = some (iI q) ∧ isTh (dn w sd S k p) (wdo sd) a n q := by
  obtain ⟨q, k1, k2⟩ := w_th6 hd e5 hT hp ha h1 h2 (999 + n - a) a 999999 a (by omega) (by omega) (by omega) (by omega) (by omega) (fun s s1 s2 => absurd s1 (by omega)) (fun u u1 u2 => absurd u1 (by omega))
  refine ⟨q, ?_, k2⟩
  rw [Nat.sub_self] at k1
  exact k1
theorem s_need (σ : gS) {a : Int} (h1 : -2147483648 ≤ a) (h2 : a < 2147483648) : f_X9_isNeed σ (iI a) = some (bI (1 ≤ a ∧ a ≤ 99)) := by
  unfold f_X9_isNeed bI
  simp +decide (maxSteps := 2000000) (disch := omega) only [↓gl_p, ↓bs_p, iI_lit, iI_neg, iI_add, iI_sub, iI_mul, gk_p, bs_p, bz0, bz1, pI_row, pI_snd, pA_row, pA_snd, pL_fst, pL_row, pB_fst, pB_row, upd_at, ↓reduceIte, Int.reduceToNat, Nat.reduceEqDiff, iI_lt, iI_le, iI_eq, iI_inb, iI_nat, iI_nz]
  (repeat' split) <;> first | rfl | (exfalso; omega)
theorem e_thief (L : LawT) : EQ_thief (Rel1 L) := by
  intro x m a1 a2 a3 a4 hR
  obtain ⟨s, rfl, hs1, hs2⟩ := iI_of a1
  obtain ⟨v, rfl, hv1, hv2⟩ := iI_of a2
  obtain ⟨t, rfl, ht1, ht2⟩ := iI_of a3
  obtain ⟨q, rfl, hq1, hq2⟩ := iI_of a4
  obtain ⟨⟨n, nb, hP, hC, hT, hD, hI, hK, hS⟩, hL⟩ := id hR
  have hn := hP.1
  have px := s_poX (σ := x) hn hP.2.1 hv1 hv2
  have pm := s_poM (σ := m) hn hP.2.2.1 hv1 hv2
  unfold f_X9_thief f_X10_thief
  by_cases c1 : 0 ≤ s ∧ s ≤ 5
  rotate_left
  · simp +decide (maxSteps := 2000000) (disch := omega) only [↓gl_p, ↓bs_p, iI_lit, iI_neg, iI_add, iI_sub, iI_mul, gk_p, bs_p, bz0, bz1, pI_row, pI_snd, pA_row, pA_snd, pL_fst, pL_row, pB_fst, pB_row, upd_at, ↓reduceIte, Int.reduceToNat, Nat.reduceEqDiff, iI_lt, iI_le, iI_eq, iI_inb, iI_nat, iI_nz, c1, s_shX, s_shM, bI_0, not_false_eq_true]
    exact ⟨_, _, _, rfl, rfl, hR⟩
  by_cases c2 : 0 ≤ v ∧ v < n
  rotate_left
  · simp +decide (maxSteps := 2000000) (disch := omega) only [↓gl_p, ↓bs_p, iI_lit, iI_neg, iI_add, iI_sub, iI_mul, gk_p, bs_p, bz0, bz1, pI_row, pI_snd, pA_row, pA_snd, pL_fst, pL_row, pB_fst, pB_row, upd_at, ↓reduceIte, Int.reduceToNat, Nat.reduceEqDiff, iI_lt, iI_le, iI_eq, iI_inb, iI_nat, iI_nz, c1, c2, s_shX, s_shM, lL_i, px, pm, bI_0, not_false_eq_true, not_true_eq_false, and_self]
    exact ⟨_, _, _, rfl, rfl, hR⟩
  by_cases c3 : 0 ≤ t ∧ t ≤ 999
  rotate_left
  · simp +decide (maxSteps := 2000000) (disch := omega) only [↓gl_p, ↓bs_p, iI_lit, iI_neg, iI_add, iI_sub, iI_mul, gk_p, bs_p, bz0, bz1, pI_row, pI_snd, pA_row, pA_snd, pL_fst, pL_row, pB_fst, pB_row, upd_at, ↓reduceIte, Int.reduceToNat, Nat.reduceEqDiff, iI_lt, iI_le, iI_eq, iI_inb, iI_nat, iI_nz, c1, c2, c3, s_shX, s_shM, lL_i, px, pm, s_miX, s_miM, bI_0, not_false_eq_true, not_true_eq_false, and_self]
    exact ⟨_, _, _, rfl, rfl, hR⟩
  by_cases c4 : 1 ≤ q ∧ q ≤ 99
  rotate_left
  · simp +decide (maxSteps := 2000000) (disch := omega) only [↓gl_p, ↓bs_p, iI_lit, iI_neg, iI_add, iI_sub, iI_mul, gk_p, bs_p, bz0, bz1, pI_row, pI_snd, pA_row, pA_snd, pL_fst, pL_row, pB_fst, pB_row, upd_at, ↓reduceIte, Int.reduceToNat, Nat.reduceEqDiff, iI_lt, iI_le, iI_eq, iI_inb, iI_nat, iI_nz, c1, c2, c3, c4, s_shX, s_shM, lL_i, px, pm, s_miX, s_miM, s_wi, s_need, bI_0, not_false_eq_true, not_true_eq_false, and_self]
    exact ⟨_, _, _, rfl, rfl, hR⟩
  obtain ⟨u, hu, rfl⟩ : ∃ k : Nat, k < 6 ∧ s = (k : Int) := ⟨s.toNat, by omega, by omega⟩
  obtain ⟨p, hp, rfl⟩ : ∃ k : Nat, k < n ∧ v = (k : Int) := ⟨v.toNat, by omega, by omega⟩
  obtain ⟨a, ha, rfl⟩ : ∃ k : Nat, k ≤ 999 ∧ t = (k : Int) := ⟨t.toNat, by omega, by omega⟩
  obtain ⟨N, hN, rfl⟩ : ∃ k : Nat, k ≤ 99 ∧ q = (k : Int) := ⟨q.toNat, by omega, by omega⟩
  rcases lay3 hP hK.1 hS hu with ⟨b, hb, l1, l2⟩ | ⟨k, w, sd, S, y, m2, l1, l2, l3, h1, h2, hY, hM, hC, hO⟩
  · have hb2 : ¬ 0 ≤ b := by omega
    simp +decide (maxSteps := 2000000) (disch := omega) only [↓gl_p, ↓bs_p, iI_lit, iI_neg, iI_add, iI_sub, iI_mul, gk_p, bs_p, bz0, bz1, pI_row, pI_snd, pA_row, pA_snd, pL_fst, pL_row, pB_fst, pB_row, upd_at, ↓reduceIte, Int.reduceToNat, Nat.reduceEqDiff, iI_lt, iI_le, iI_eq, iI_inb, iI_nat, iI_nz, c1, c2, c3, c4, s_shX, s_shM, lL_i, px, pm, s_miX, s_miM, s_wi, s_need, bI_0, not_true_eq_false, and_self, l1, l2, hb2]
    exact ⟨_, _, _, rfl, rfl, hR⟩
  · have hw : ∀ p q, okP n p → okP n q → w p q ≤ 270 := fun p q hp hq => (hY.2.2.2.2 p q hp hq).1
    obtain ⟨m3, w1, w2, hT⟩ := s_looks hn hw hY.2.1 hO hM
    have e5 : m3.1 5 3 = iI sd := (w2.2 5 3 rfl).trans hM.2.1
    obtain ⟨r, y2, f1, f2, f3, f4, f5⟩ := s_free hY hC hp ha (by omega) hN
    obtain ⟨r2, t1, t2⟩ := s_thief hY.2.1 e5 hT (p := p) (by omega) ha (by omega) hN
    have hR2 := Rel1_sc hR (Ch_tr (sc_co (by omega) (by omega) h1) (sc_ga f2)) (Ch_tr (sc_rd h2) (sc_lk w2))
    rw [isTh_u t2 f3] at t1
    simp +decide (maxSteps := 2000000) (disch := omega) only [↓gl_p, ↓bs_p, iI_lit, iI_neg, iI_add, iI_sub, iI_mul, gk_p, bs_p, bz0, bz1, pI_row, pI_snd, pA_row, pA_snd, pL_fst, pL_row, pB_fst, pB_row, upd_at, ↓reduceIte, Int.reduceToNat, Nat.reduceEqDiff, iI_lt, iI_le, iI_eq, iI_inb, iI_nat, iI_nz, c1, c2, c3, c4, s_shX, s_shM, lL_i, px, pm, s_miX, s_miM, s_wi, s_need, bI_0, not_true_eq_false, and_self, l1, l2, l3, w1, f1, t1]
    exact ⟨_, _, _, rfl, rfl, hR2⟩
theorem w_safe {y m : gS} {n k sd : Nat} {w : Nat → Nat → Nat} {S : Nat → Nat} (hY : YD n w sd y) (hC : CO 26 n k w sd S y) (e0 : m.1 0 0 = iI n) (e5 : m.1 5 3 = iI sd) (hT : LT w sd S k m) {N : Nat} (h1 : 1 ≤ N) (h2 : N ≤ 99) : ∀ (r i f f2 : Nat) (b : Int32) (σ : gS), i + r = n → r ≤ f → r ≤ f2 → Ch gaC y σ → ∃ q τ, f_X9_safe_34 (f + 1) (iI N) b (iI i) σ = some (q, τ) ∧ f_X10_safe_47 (f2 + 1) (iI N) b (iI i) m = some (q, m) ∧ Ch gaC y τ := by
  have hn := hY.1
  intro r
  induction r with
  | zero =>
    intro i f f2 b σ hi hf hf2 hc
    have g : (n : Int) ≤ (i : Int) := by omega
    have s1 : σ.1 1 1 = iI n := (hc.2 1 1 rfl).trans hY.2.2.1
    refine ⟨b, σ, ?_, ?_, hc⟩
    · rw [f_X9_safe_34]
      simp +decide (maxSteps := 2000000) (disch := omega) only [↓gl_p, ↓bs_p, iI_lit, iI_neg, iI_add, iI_sub, iI_mul, gk_p, bs_p, bz0, bz1, pI_row, pI_snd, pA_row, pA_snd, pL_fst, pL_row, pB_fst, pB_row, upd_at, ↓reduceIte, Int.reduceToNat, Nat.reduceEqDiff, iI_lt, iI_le, iI_eq, iI_inb, iI_nat, iI_nz, s1, g]
    · rw [f_X10_safe_47]
      simp +decide (maxSteps := 2000000) (disch := omega) only [↓gl_p, ↓bs_p, iI_lit, iI_neg, iI_add, iI_sub, iI_mul, gk_p, bs_p, bz0, bz1, pI_row, pI_snd, pA_row, pA_snd, pL_fst, pL_row, pB_fst, pB_row, upd_at, ↓reduceIte, Int.reduceToNat, Nat.reduceEqDiff, iI_lt, iI_le, iI_eq, iI_inb, iI_nat, iI_nz, e0, g]
  | succ r ih =>
    intro i f f2 b σ hi hf hf2 hc
    obtain ⟨f, rfl⟩ : ∃ q, f = q + 1 := ⟨f - 1, by omega⟩
    obtain ⟨f2, rfl⟩ : ∃ q, f2 = q + 1 := ⟨f2 - 1, by omega⟩
    have g : ¬ (n : Int) ≤ (i : Int) := by omega
    have sY := YD_ch hY hc (fun _ => rfl) (fun _ => rfl)
    have sC := CO_ch_26 hC hc (fun _ => rfl) (fun _ => rfl) (fun _ => rfl)
    have s1 := sY.2.2.1
    obtain ⟨q, τ, a1, a2, a3, a4, a5⟩ := s_free sY sC (p := i) (a := 0) (by omega) (by omega) h1 h2
    obtain ⟨q2, b1, b2⟩ := s_thief hY.2.1 e5 hT (p := i) (a := 0) (by omega) (by omega) h1 h2
    rw [isTh_u b2 a3] at b1
    have a1' : f_X9_freeStart σ (iI i) (iI 0) (iI N) = some (iI q, τ) := a1
    have b1' : f_X10_thiefAt m (iI i) (iI 0) (iI N) = some (iI q) := b1
    by_cases c : q = -2
    · obtain ⟨Q, τ2, k1, k2, k3⟩ := ih (i + 1) f f2 (b ||| bt i) τ (by omega) (by omega) (by omega) (Ch_tr hc a2)
      refine ⟨Q, τ2, ?_, ?_, k3⟩
      · rw [f_X9_safe_34]
        simp +decide (maxSteps := 2000000) (disch := omega) only [↓gl_p, ↓bs_p, iI_lit, iI_neg, iI_add, iI_sub, iI_mul, gk_p, bs_p, bz0, bz1, pI_row, pI_snd, pA_row, pA_snd, pL_fst, pL_row, pB_fst, pB_row, upd_at, ↓reduceIte, Int.reduceToNat, Nat.reduceEqDiff, iI_lt, iI_le, iI_eq, iI_inb, iI_nat, iI_nz, s1, g, a1', eq_true c, bt_e]
        exact k1
      · rw [f_X10_safe_47]
        simp +decide (maxSteps := 2000000) (disch := omega) only [↓gl_p, ↓bs_p, iI_lit, iI_neg, iI_add, iI_sub, iI_mul, gk_p, bs_p, bz0, bz1, pI_row, pI_snd, pA_row, pA_snd, pL_fst, pL_row, pB_fst, pB_row, upd_at, ↓reduceIte, Int.reduceToNat, Nat.reduceEqDiff, iI_lt, iI_le, iI_eq, iI_inb, iI_nat, iI_nz, e0, g, b1', eq_true c, bt_e]
        exact k2
    · obtain ⟨Q, τ2, k1, k2, k3⟩ := ih (i + 1) f f2 b τ (by omega) (by omega) (by omega) (Ch_tr hc a2)
      refine ⟨Q, τ2, ?_, ?_, k3⟩
      · rw [f_X9_safe_34]
        simp +decide (maxSteps := 2000000) (disch := omega) only [↓gl_p, ↓bs_p, iI_lit, iI_neg, iI_add, iI_sub, iI_mul, gk_p, bs_p, bz0, bz1, pI_row, pI_snd, pA_row, pA_snd, pL_fst, pL_row, pB_fst, pB_row, upd_at, ↓reduceIte, Int.reduceToNat, Nat.reduceEqDiff, iI_lt, iI_le, iI_eq, iI_inb, iI_nat, iI_nz, s1, g, a1', c]
        exact k1
      · rw [f_X10_safe_47]
        simp +decide (maxSteps := 2000000) (disch := omega) only [↓gl_p, ↓bs_p, iI_lit, iI_neg, iI_add, iI_sub, iI_mul, gk_p, bs_p, bz0, bz1, pI_row, pI_snd, pA_row, pA_snd, pL_fst, pL_row, pB_fst, pB_row, upd_at, ↓reduceIte, Int.reduceToNat, Nat.reduceEqDiff, iI_lt, iI_le, iI_eq, iI_inb, iI_nat, iI_nz, e0, g, b1', c]
        exact k2
theorem e_safe (L : LawT) : EQ_safe (Rel1 L) := by
  intro x m a1 a2 hR
  obtain ⟨s, rfl, hs1, hs2⟩ := iI_of a1
  obtain ⟨q, rfl, hq1, hq2⟩ := iI_of a2
  obtain ⟨⟨n, nb, hP, hC, hT, hD, hI, hK, hS⟩, hL⟩ := id hR
  have hn := hP.1
  unfold f_X9_safe f_X10_safe
  by_cases c1 : 0 ≤ s ∧ s ≤ 5
  rotate_left
  · simp +decide (maxSteps := 2000000) (disch := omega) only [↓gl_p, ↓bs_p, iI_lit, iI_neg, iI_add, iI_sub, iI_mul, gk_p, bs_p, bz0, bz1, pI_row, pI_snd, pA_row, pA_snd, pL_fst, pL_row, pB_fst, pB_row, upd_at, ↓reduceIte, Int.reduceToNat, Nat.reduceEqDiff, iI_lt, iI_le, iI_eq, iI_inb, iI_nat, iI_nz, c1, s_shX, s_shM, bI_0, not_false_eq_true]
    exact ⟨_, _, _, rfl, rfl, hR⟩
  by_cases c4 : 1 ≤ q ∧ q ≤ 99
  rotate_left
  · simp +decide (maxSteps := 2000000) (disch := omega) only [↓gl_p, ↓bs_p, iI_lit, iI_neg, iI_add, iI_sub, iI_mul, gk_p, bs_p, bz0, bz1, pI_row, pI_snd, pA_row, pA_snd, pL_fst, pL_row, pB_fst, pB_row, upd_at, ↓reduceIte, Int.reduceToNat, Nat.reduceEqDiff, iI_lt, iI_le, iI_eq, iI_inb, iI_nat, iI_nz, c1, c4, s_shX, s_shM, s_wi, s_need, bI_0, not_false_eq_true, not_true_eq_false, and_self]
    exact ⟨_, _, _, rfl, rfl, hR⟩
  obtain ⟨u, hu, rfl⟩ : ∃ k : Nat, k < 6 ∧ s = (k : Int) := ⟨s.toNat, by omega, by omega⟩
  obtain ⟨N, hN, rfl⟩ : ∃ k : Nat, k ≤ 99 ∧ q = (k : Int) := ⟨q.toNat, by omega, by omega⟩
  rcases lay3 hP hK.1 hS hu with ⟨b, hb, l1, l2⟩ | ⟨k, w, sd, S, y, m2, l1, l2, l3, h1, h2, hY, hM, hC, hO⟩
  · have hb2 : ¬ 0 ≤ b := by omega
    simp +decide (maxSteps := 2000000) (disch := omega) only [↓gl_p, ↓bs_p, iI_lit, iI_neg, iI_add, iI_sub, iI_mul, gk_p, bs_p, bz0, bz1, pI_row, pI_snd, pA_row, pA_snd, pL_fst, pL_row, pB_fst, pB_row, upd_at, ↓reduceIte, Int.reduceToNat, Nat.reduceEqDiff, iI_lt, iI_le, iI_eq, iI_inb, iI_nat, iI_nz, c1, c4, s_shX, s_shM, s_wi, s_need, bI_0, not_true_eq_false, and_self, l1, l2, hb2]
    exact ⟨_, _, _, rfl, rfl, hR⟩
  · have hw : ∀ p q, okP n p → okP n q → w p q ≤ 270 := fun p q hp hq => (hY.2.2.2.2 p q hp hq).1
    obtain ⟨m3, w1, w2, hT⟩ := s_looks hn hw hY.2.1 hO hM
    have e5 : m3.1 5 3 = iI sd := (w2.2 5 3 rfl).trans hM.2.1
    have e0 : m3.1 0 0 = iI n := (w2.2 0 0 rfl).trans hM.1
    obtain ⟨Q, τ, k1, k2, k3⟩ := w_safe hY hC e0 e5 hT (N := N) (by omega) hN n 0 999999 999999 (iI 0) y (by omega) (by omega) (by omega) (Ch_refl _ _)
    have hR2 := Rel1_sc hR (Ch_tr (sc_co (by omega) (by omega) h1) (sc_ga k3)) (Ch_tr (sc_rd h2) (sc_lk w2))
    simp +decide (maxSteps := 2000000) (disch := omega) only [↓gl_p, ↓bs_p, iI_lit, iI_neg, iI_add, iI_sub, iI_mul, gk_p, bs_p, bz0, bz1, pI_row, pI_snd, pA_row, pA_snd, pL_fst, pL_row, pB_fst, pB_row, upd_at, ↓reduceIte, Int.reduceToNat, Nat.reduceEqDiff, iI_lt, iI_le, iI_eq, iI_inb, iI_nat, iI_nz, c1, c4, s_shX, s_shM, s_wi, s_need, bI_0, not_true_eq_false, and_self, l1, l2, l3, w1]
    exact ⟨_, _, _, k1, k2, hR2⟩
