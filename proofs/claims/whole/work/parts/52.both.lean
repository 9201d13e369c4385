/-! ===== forth and back ===== -/
def rvS (S : Nat → Nat) (k i : Nat) : Nat := S (k - 1 - i)
def t1C (c j : Nat) : Bool := (c == 29 && j == 4) || c == 30
theorem w_lt10 {x : gS} {n k sd : Nat} {w : Nat → Nat → Nat} {S : Nat → Nat} (hC : CO 26 n k w sd S x) : ∀ (r i f : Nat) (σ : gS), i + r = k → r ≤ f → Ch t1C x σ → σ.1 29 4 = iI k → (∀ j, j < i → σ.1 30 j = iI (rvS S k j)) → ∃ τ, f_X1_layTurned_10 (f + 1) (iI i) σ = (f_X1_measure τ 29).bind (fun q => some q) ∧ Ch t1C x τ ∧ τ.1 29 4 = iI k ∧ ∀ j, j < k → τ.1 30 j = iI (rvS S k j) := by
  obtain ⟨hk, hS, e4, e3, e5, eS⟩ := hC
  intro r
  induction r with
  | zero =>
    intro i f σ hi hf hc s4 ho
    have g : (k : Int) ≤ (i : Int) := by omega
    refine ⟨σ, ?_, hc, s4, fun j hj => ho j (by omega)⟩
    rw [f_X1_layTurned_10]
    simp +decide (maxSteps := 2000000) (disch := omega) only [↓gl_p, ↓bs_p, iI_lit, iI_neg, iI_add, iI_sub, iI_mul, gk_p, bs_p, bz0, bz1, pI_row, pI_snd, pA_row, pA_snd, pL_fst, pL_row, pB_fst, pB_row, upd_at, ↓reduceIte, Int.reduceToNat, Nat.reduceEqDiff, iI_lt, iI_le, iI_eq, iI_inb, iI_nat, iI_nz, s4, g]
  | succ r ih =>
    intro i f σ hi hf hc s4 ho
    obtain ⟨f, rfl⟩ : ∃ q, f = q + 1 := ⟨f - 1, by omega⟩
    have g : ¬ (k : Int) ≤ (i : Int) := by omega
    have t1 : ((k : Int) - 1 - (i : Int)).toNat = k - 1 - i := by omega
    have q : σ.1 27 (k - 1 - i) = iI (rvS S k i) := (hc.2 27 _ rfl).trans (eS (k - 1 - i) (by omega)).1
    obtain ⟨τ, a1, a2, a3, a4⟩ := ih (i + 1) f (pI σ 30 i (iI (rvS S k i))) (by omega) (by omega) (Ch_pI hc rfl) s4 (fun j hj => by
      rw [pI_row, if_pos rfl, upd_at]
      by_cases e : j = i
      · rw [if_pos e, e]
      · rw [if_neg e]
        exact ho j (by omega))
    refine ⟨τ, ?_, a2, a3, a4⟩
    rw [f_X1_layTurned_10]
    simp +decide (maxSteps := 2000000) (disch := omega) only [↓gl_p, ↓bs_p, iI_lit, iI_neg, iI_add, iI_sub, iI_mul, gk_p, bs_p, bz0, bz1, pI_row, pI_snd, pA_row, pA_snd, pL_fst, pL_row, pB_fst, pB_row, upd_at, ↓reduceIte, Int.reduceToNat, Nat.reduceEqDiff, iI_lt, iI_le, iI_eq, iI_inb, iI_nat, iI_nz, s4, g, t1, q, Int.toNat_natCast]
    exact a1
theorem s_turnX {x : gS} {n k sd : Nat} {w : Nat → Nat → Nat} {S : Nat → Nat} (hY : YD n w sd x) (hC : CO 26 n k w sd S x) : ∃ y, f_X1_layTurned x = some y ∧ Ch (coC 29) x y ∧ CO 29 n k w sd (rvS S k) y := by
  have hk := hC.1
  obtain ⟨σ, a1, a2, a3, a4⟩ := w_lt10 hC k 0 999999 (pI x 29 4 (iI k)) (by omega) (by omega) (Ch_pI (Ch_refl _ _) rfl) rfl (fun j hj => absurd hj (by omega))
  obtain ⟨y, b1, b2, b3⟩ := s_meas_29 (S := rvS S k) hk (fun i hi => hC.2.1 (k - 1 - i) (by omega)) (YD_ch hY a2 (fun _ => rfl) (fun _ => rfl)) a3 a4
  refine ⟨y, ?_, Ch_tr (Ch_mo a2 fun c j h => ?_) (Ch_mo b2 fun c j h => ?_), b3⟩
  · rw [b1] at a1
    unfold f_X1_layTurned
    simp +decide (maxSteps := 2000000) (disch := omega) only [↓gl_p, ↓bs_p, iI_lit, iI_neg, iI_add, iI_sub, iI_mul, gk_p, bs_p, bz0, bz1, pI_row, pI_snd, pA_row, pA_snd, pL_fst, pL_row, pB_fst, pB_row, upd_at, ↓reduceIte, Int.reduceToNat, Nat.reduceEqDiff, iI_lt, iI_le, iI_eq, iI_inb, iI_nat, iI_nz, hC.2.2.1]
    exact a1
  · unfold coC at h
    unfold t1C
    simp at h ⊢
    omega
  · unfold coC at h
    unfold meC
    simp at h ⊢
    omega
def tuC (c _j : Nat) : Bool := c == 27
theorem w_tu9 {m : gS} {n k : Nat} {S : Nat → Nat} (hO : RO n k S m) : ∀ (r a f : Nat) (σ : gS), a + r = k → r ≤ f → 2 * a ≤ k → Ch tuC m σ → (∀ j, j < k → σ.1 27 j = iI (if j < a ∨ k ≤ j + a then S (k - 1 - j) else S j)) → ∃ τ, f_X10_turns_9 (f + 1) (iI a) (iI ((k : Int) - 1 - a)) σ = some τ ∧ Ch tuC m τ ∧ ∀ j, j < k → τ.1 27 j = iI (rvS S k j) := by
  obtain ⟨hk, hS, e44, eS⟩ := hO
  intro r
  induction r with
  | zero =>
    intro a f σ ha hf h2 hc ho
    have g : (k : Int) - 1 - (a : Int) ≤ (a : Int) := by omega
    refine ⟨σ, ?_, hc, fun j hj => absurd hj (by omega)⟩
    rw [f_X10_turns_9]
    simp +decide (maxSteps := 2000000) (disch := omega) only [↓gl_p, ↓bs_p, iI_lit, iI_neg, iI_add, iI_sub, iI_mul, gk_p, bs_p, bz0, bz1, pI_row, pI_snd, pA_row, pA_snd, pL_fst, pL_row, pB_fst, pB_row, upd_at, ↓reduceIte, Int.reduceToNat, Nat.reduceEqDiff, iI_lt, iI_le, iI_eq, iI_inb, iI_nat, iI_nz, g]
  | succ r ih =>
    intro a f σ ha hf h2 hc ho
    obtain ⟨f, rfl⟩ : ∃ q, f = q + 1 := ⟨f - 1, by omega⟩
    by_cases g : (k : Int) - 1 - (a : Int) ≤ (a : Int)
    · refine ⟨σ, ?_, hc, fun j hj => ?_⟩
      · rw [f_X10_turns_9]
        simp +decide (maxSteps := 2000000) (disch := omega) only [↓gl_p, ↓bs_p, iI_lit, iI_neg, iI_add, iI_sub, iI_mul, gk_p, bs_p, bz0, bz1, pI_row, pI_snd, pA_row, pA_snd, pL_fst, pL_row, pB_fst, pB_row, upd_at, ↓reduceIte, Int.reduceToNat, Nat.reduceEqDiff, iI_lt, iI_le, iI_eq, iI_inb, iI_nat, iI_nz, g]
      · rw [ho j hj]
        unfold rvS
        by_cases c : j < a ∨ k ≤ j + a
        · rw [if_pos c]
        · rw [if_neg c, show k - 1 - j = j by omega]
    · have t1 : ((k : Int) - 1 - (a : Int)).toNat = k - 1 - a := by omega
      have q1 := ho a (by omega)
      have q2 := ho (k - 1 - a) (by omega)
      rw [if_neg (by omega)] at q1 q2
      obtain ⟨τ, b1, b2, b3⟩ := ih (a + 1) f (pI (pI σ 27 a (iI (S (k - 1 - a)))) 27 (k - 1 - a) (iI (S a))) (by omega) (by omega) (by omega) (Ch_pI (Ch_pI hc rfl) rfl) (fun j hj => by
        rw [pI_row, if_pos rfl, upd_at, pI_row, if_pos rfl, upd_at]
        by_cases e1 : j = k - 1 - a
        · rw [if_pos e1, if_pos (by omega), show k - 1 - j = a by omega]
        · rw [if_neg e1]
          by_cases e2 : j = a
          · rw [if_pos e2, if_pos (by omega), e2]
          · rw [if_neg e2, ho j hj]
            by_cases c : j < a ∨ k ≤ j + a
            · rw [if_pos c, if_pos (by omega)]
            · rw [if_neg c, if_neg (by omega)])
      refine ⟨τ, ?_, b2, b3⟩
      rw [f_X10_turns_9]
      simp +decide (maxSteps := 2000000) (disch := omega) only [↓gl_p, ↓bs_p, iI_lit, iI_neg, iI_add, iI_sub, iI_mul, gk_p, bs_p, bz0, bz1, pI_row, pI_snd, pA_row, pA_snd, pL_fst, pL_row, pB_fst, pB_row, upd_at, ↓reduceIte, Int.reduceToNat, Nat.reduceEqDiff, iI_lt, iI_le, iI_eq, iI_inb, iI_nat, iI_nz, g, t1, q1, q2, Int.toNat_natCast]
      rw [show (k : Int) - 1 - ((a + 1 : Nat) : Int) = (k : Int) - 1 - (a : Int) + -1 by omega] at b1
      exact b1
theorem s_turnM {m : gS} {n k : Nat} {S : Nat → Nat} (hO : RO n k S m) : ∃ τ, f_X10_turns m = some τ ∧ Ch tuC m τ ∧ RO n k (rvS S k) τ := by
  have hk := hO.1
  obtain ⟨τ, a1, a2, a3⟩ := w_tu9 hO k 0 999999 m (by omega) (by omega) (by omega) (Ch_refl _ _) (fun j hj => by
    rw [if_neg (by omega)]
    exact hO.2.2.2 j hj)
  refine ⟨τ, ?_, a2, hk, fun i hi => hO.2.1 (k - 1 - i) (by omega), (a2.2 0 44 rfl).trans hO.2.2.1, a3⟩
  unfold f_X10_turns
  simp +decide (maxSteps := 2000000) (disch := omega) only [↓gl_p, ↓bs_p, iI_lit, iI_neg, iI_add, iI_sub, iI_mul, gk_p, bs_p, bz0, bz1, pI_row, pI_snd, pA_row, pA_snd, pL_fst, pL_row, pB_fst, pB_row, upd_at, ↓reduceIte, Int.reduceToNat, Nat.reduceEqDiff, iI_lt, iI_le, iI_eq, iI_inb, iI_nat, iI_nz, hO.2.2.1]
  rw [show (k : Int) - 1 - ((0 : Nat) : Int) = (k : Int) - 1 by omega] at a1
  exact a1
theorem RO_cong {m : gS} {n k : Nat} {S R : Nat → Nat} (hO : RO n k S m) (h : ∀ i, i < k → S i = R i) : RO n k R m := by
  obtain ⟨a1, a2, a3, a4⟩ := hO
  exact ⟨a1, fun i hi => by rw [← h i hi]; exact a2 i hi, a3, fun i hi => by rw [← h i hi]; exact a4 i hi⟩
def sv (b : Nat → Bool) (wd v : Nat) : Int32 := bI (0 ≤ ld b v ∧ (v : Int) - ld b v < (wd : Nat))
theorem sv_0 {b : Nat → Bool} {wd v : Nat} : sv b wd v = iI 0 ↔ ¬ sn b wd v := by
  unfold sv
  rw [bI_0, sn_iff]
theorem sv_nar (b : Nat → Bool) (wd v : Nat) : vp_nar .boolean (sv b wd v) = sv b wd v := by
  unfold sv bI
  split <;> rfl
def s1C (c _j : Nat) : Bool := c == 31
theorem w_bw41 {m : gS} {n sd k : Nat} {w : Nat → Nat → Nat} {S : Nat → Nat} (hd : sd ≤ 9) (e5 : m.1 5 3 = iI sd) (hT : LT w sd S k m) {p : Nat} (hp : p < 9) : ∀ (r v f : Nat) (σ : gS), v + r = 2000 → r ≤ f → Ch s1C m σ → (∀ u, u < 2000 → σ.1 31 u = m.1 31 u) → (∀ u, u < v → σ.1 31 (2000 + u) = sv (dn w sd S k p) (wdo sd) u) → ∃ τ, f_X10_bothWays_41 (f + 1) (iI p) (iI v) σ = (f_X10_turns τ).bind (fun q => some q) ∧ Ch s1C m τ ∧ (∀ u, u < 2000 → τ.1 31 u = m.1 31 u) ∧ ∀ u, u < 2000 → τ.1 31 (2000 + u) = sv (dn w sd S k p) (wdo sd) u := by
  intro r
  induction r with
  | zero =>
    intro v f σ hv hf hc h0 ho
    have g : 2000 ≤ (v : Int) := by omega
    refine ⟨σ, ?_, hc, h0, fun u hu => ho u (by omega)⟩
    rw [f_X10_bothWays_41]
    simp +decide (maxSteps := 2000000) (disch := omega) only [↓gl_p, ↓bs_p, iI_lit, iI_neg, iI_add, iI_sub, iI_mul, gk_p, bs_p, bz0, bz1, pI_row, pI_snd, pA_row, pA_snd, pL_fst, pL_row, pB_fst, pB_row, upd_at, ↓reduceIte, Int.reduceToNat, Nat.reduceEqDiff, iI_lt, iI_le, iI_eq, iI_inb, iI_nat, iI_nz, g]
  | succ r ih =>
    intro v f σ hv hf hc h0 ho
    obtain ⟨f, rfl⟩ : ∃ q, f = q + 1 := ⟨f - 1, by omega⟩
    have g : ¬ 2000 ≤ (v : Int) := by omega
    have t1 : (2000 + (v : Int)).toNat = 2000 + v := by omega
    have sT : LT w sd S k σ := fun p t hp ht => (hc.2 30 _ rfl).trans (hT p t hp ht)
    have se : f_X10_isSeen σ (iI p) (iI v) = some (sv (dn w sd S k p) (wdo sd) v) := s_isSeen hd ((hc.2 5 3 rfl).trans e5) sT hp (by omega)
    obtain ⟨τ, a1, a2, a3, a4⟩ := ih (v + 1) f (pI σ 31 (2000 + v) (sv (dn w sd S k p) (wdo sd) v)) (by omega) (by omega) (Ch_pI hc rfl) (fun u hu => by
      rw [pI_row, if_pos rfl, upd_at, if_neg (by omega)]
      exact h0 u hu) (fun u hu => by
      rw [pI_row, if_pos rfl, upd_at]
      by_cases e : u = v
      · rw [if_pos (by omega), e]
      · rw [if_neg (by omega)]
        exact ho u (by omega))
    refine ⟨τ, ?_, a2, a3, a4⟩
    rw [f_X10_bothWays_41]
    simp +decide (maxSteps := 2000000) (disch := omega) only [↓gl_p, ↓bs_p, iI_lit, iI_neg, iI_add, iI_sub, iI_mul, gk_p, bs_p, bz0, bz1, pI_row, pI_snd, pA_row, pA_snd, pL_fst, pL_row, pB_fst, pB_row, upd_at, ↓reduceIte, Int.reduceToNat, Nat.reduceEqDiff, iI_lt, iI_le, iI_eq, iI_inb, iI_nat, iI_nz, g, t1, se, sv_nar]
    exact a1
theorem w_bw6 {m : gS} {sd k : Nat} {w : Nat → Nat → Nat} {S : Nat → Nat} (hd : sd ≤ 9) (e5 : m.1 5 3 = iI sd) (hT : LT w sd S k m) {p : Nat} (hp : p < 9) : ∀ (r v f : Nat) (σ : gS), v + r = 2000 → r ≤ f → Ch s1C m σ → (∀ u, u < v → σ.1 31 u = sv (dn w sd S k p) (wdo sd) u) → ∃ τ, f_X10_bothWays_6 (f + 1) (iI p) (iI v) σ = (f_X10_turns τ).bind (fun q1 => (f_X10_looks q1).bind fun q2 => f_X10_bothWays_41 gN (iI p) (iI 0) q2) ∧ Ch s1C m τ ∧ ∀ u, u < 2000 → τ.1 31 u = sv (dn w sd S k p) (wdo sd) u := by
  intro r
  induction r with
  | zero =>
    intro v f σ hv hf hc ho
    have g : 2000 ≤ (v : Int) := by omega
    refine ⟨σ, ?_, hc, fun u hu => ho u (by omega)⟩
    rw [f_X10_bothWays_6]
    simp +decide (maxSteps := 2000000) (disch := omega) only [↓gl_p, ↓bs_p, iI_lit, iI_neg, iI_add, iI_sub, iI_mul, gk_p, bs_p, bz0, bz1, pI_row, pI_snd, pA_row, pA_snd, pL_fst, pL_row, pB_fst, pB_row, upd_at, ↓reduceIte, Int.reduceToNat, Nat.reduceEqDiff, iI_lt, iI_le, iI_eq, iI_inb, iI_nat, iI_nz, g]
  | succ r ih =>
    intro v f σ hv hf hc ho
    obtain ⟨f, rfl⟩ : ∃ q, f = q + 1 := ⟨f - 1, by omega⟩
    have g : ¬ 2000 ≤ (v : Int) := by omega
    have sT : LT w sd S k σ := fun p t hp ht => (hc.2 30 _ rfl).trans (hT p t hp ht)
    have se : f_X10_isSeen σ (iI p) (iI v) = some (sv (dn w sd S k p) (wdo sd) v) := s_isSeen hd ((hc.2 5 3 rfl).trans e5) sT hp (by omega)
    obtain ⟨τ, a1, a2, a3⟩ := ih (v + 1) f (pI σ 31 v (sv (dn w sd S k p) (wdo sd) v)) (by omega) (by omega) (Ch_pI hc rfl) (fun u hu => by
      rw [pI_row, if_pos rfl, upd_at]
      by_cases e : u = v
      · rw [if_pos e, e]
      · rw [if_neg e]
        exact ho u (by omega))
    refine ⟨τ, ?_, a2, a3⟩
    rw [f_X10_bothWays_6]
    simp +decide (maxSteps := 2000000) (disch := omega) only [↓gl_p, ↓bs_p, iI_lit, iI_neg, iI_add, iI_sub, iI_mul, gk_p, bs_p, bz0, bz1, pI_row, pI_snd, pA_row, pA_snd, pL_fst, pL_row, pB_fst, pB_row, upd_at, ↓reduceIte, Int.reduceToNat, Nat.reduceEqDiff, iI_lt, iI_le, iI_eq, iI_inb, iI_nat, iI_nz, g, se, sv_nar, Int.toNat_natCast]
    exact a1
def boC (c j : Nat) : Bool := (c == 0 && j == 46) || (27 ≤ c && c ≤ 31)
theorem bo_lk {x y : gS} (h : Ch lkC x y) : Ch boC x y := Ch_mo h fun c j hd => by
  unfold boC at hd
  unfold lkC
  simp at hd ⊢
  omega
theorem bo_tu {x y : gS} (h : Ch tuC x y) : Ch boC x y := Ch_mo h fun c j hd => by
  unfold boC at hd
  unfold tuC
  simp at hd ⊢
  omega
theorem bo_s1 {x y : gS} (h : Ch s1C x y) : Ch boC x y := Ch_mo h fun c j hd => by
  unfold boC at hd
  unfold s1C
  simp at hd ⊢
  omega
theorem sc_bo {x y : gS} (h : Ch boC x y) : Ch scM x y := Ch_mo h fun c j hd => by
  unfold scM at hd
  unfold boC
  simp at hd ⊢
  omega
def SB (w : Nat → Nat → Nat) (sd : Nat) (S : Nat → Nat) (k p : Nat) (m : gS) : Prop := ∀ v, v < 2000 → m.1 31 v = sv (dn w sd S k p) (wdo sd) v ∧ m.1 31 (2000 + v) = sv (dn w sd (rvS S k) k p) (wdo sd) v
theorem s_both {m : gS} {n k sd : Nat} {w : Nat → Nat → Nat} {S : Nat → Nat} (hn : n ≤ 9) (hw : ∀ p q, okP n p → okP n q → w p q ≤ 270) (hd : sd ≤ 9) (hO : RO n k S m) (hM : YM n w sd m) {p : Nat} (hp : p < n) : ∃ τ, f_X10_bothWays m (iI p) = some τ ∧ Ch boC m τ ∧ SB w sd S k p τ := by
  obtain ⟨m1, a1, a2, a3⟩ := s_looks hn hw hd hO hM
  have c1 := bo_lk a2
  have M1 := YM_ch hM c1 rfl (fun _ => rfl) (fun _ => rfl) (fun _ => rfl)
  have O1 : RO n k S m1 := ⟨hO.1, hO.2.1, (a2.2 0 44 rfl).trans hO.2.2.1, fun i hi => (a2.2 27 i rfl).trans (hO.2.2.2 i hi)⟩
  obtain ⟨m2, b1, b2, b3⟩ := w_bw6 hd M1.2.1 a3 (p := p) (by omega) 2000 0 999999 m1 (by omega) (by omega) (Ch_refl _ _) (fun u hu => absurd hu (by omega))
  have c2 := Ch_tr c1 (bo_s1 b2)
  have O2 : RO n k S m2 := ⟨hO.1, hO.2.1, (b2.2 0 44 rfl).trans O1.2.2.1, fun i hi => (b2.2 27 i rfl).trans (O1.2.2.2 i hi)⟩
  obtain ⟨m3, d1, d2, d3⟩ := s_turnM O2
  have c3 := Ch_tr c2 (bo_tu d2)
  have M3 := YM_ch hM c3 rfl (fun _ => rfl) (fun _ => rfl) (fun _ => rfl)
  obtain ⟨m4, e1, e2, e3⟩ := s_looks hn hw hd d3 M3
  have c4 := Ch_tr c3 (bo_lk e2)
  have M4 := YM_ch hM c4 rfl (fun _ => rfl) (fun _ => rfl) (fun _ => rfl)
  have O4 : RO n k (rvS S k) m4 := ⟨hO.1, d3.2.1, (e2.2 0 44 rfl).trans d3.2.2.1, fun i hi => (e2.2 27 i rfl).trans (d3.2.2.2 i hi)⟩
  obtain ⟨m5, f1, f2, f3, f4⟩ := w_bw41 (n := n) hd M4.2.1 e3 (p := p) (by omega) 2000 0 999999 m4 (by omega) (by omega) (Ch_refl _ _) (fun _ _ => rfl) (fun u hu => absurd hu (by omega))
  have O5 : RO n k (rvS S k) m5 := ⟨hO.1, d3.2.1, (f2.2 0 44 rfl).trans O4.2.2.1, fun i hi => (f2.2 27 i rfl).trans (O4.2.2.2 i hi)⟩
  obtain ⟨m6, g1, g2, g3⟩ := s_turnM O5
  refine ⟨m6, ?_, Ch_tr c4 (Ch_tr (bo_s1 f2) (bo_tu g2)), fun v hv => ⟨?_, ?_⟩⟩
  · unfold f_X10_bothWays
    rw [a1]
    simp only [bs_p]
    rw [show f_X10_bothWays_6 gN (iI p) 0 m1 = _ from b1, d1]
    simp only [bs_p]
    rw [e1]
    simp only [bs_p]
    rw [show f_X10_bothWays_41 gN (iI p) (iI 0) m4 = _ from f1, g1]
    rfl
  · rw [g2.2 31 v rfl, f3 v hv, e2.2 31 v rfl, d2.2 31 v rfl]
    exact b3 v hv
  · rw [g2.2 31 (2000 + v) rfl]
    exact f4 v hv
/-! free for so long from a minute on -/
def fr (b : Nat → Bool) (wd v N : Nat) : Prop := ∀ u, v ≤ u → u < v + N → ¬ sn b wd u
def snb (b : Nat → Bool) (wd v : Nat) : Bool := decide (0 ≤ ld b v ∧ (v : Int) - ld b v < (wd : Nat))
def frb (b : Nat → Bool) (wd v : Nat) : Nat → Bool
  | 0 => true
  | N + 1 => frb b wd v N && !(snb b wd (v + N))
theorem frb_iff {b : Nat → Bool} {wd v : Nat} : ∀ N, frb b wd v N = true ↔ fr b wd v N := by
  intro N
  induction N with
  | zero =>
    constructor
    · intro _ u h1 h2
      omega
    · intro _
      rfl
  | succ N ih =>
    show (frb b wd v N && !(snb b wd (v + N))) = true ↔ _
    rw [Bool.and_eq_true, ih, Bool.not_eq_true']
    have e : snb b wd (v + N) = false ↔ ¬ sn b wd (v + N) := by
      unfold snb
      rw [decide_eq_false_iff_not, sn_iff]
    rw [e]
    constructor
    · rintro ⟨h1, h2⟩ u u1 u2
      by_cases c : u = v + N
      · rw [c]
        exact h2
      · exact h1 u u1 (by omega)
    · intro h
      exact ⟨fun u u1 u2 => h u u1 (by omega), h (v + N) (by omega) (by omega)⟩
def bB (c : Bool) : Int32 := if c then iI 1 else iI 0
theorem bB_z (c : Bool) : bz (bB c) = true := by
  cases c <;> rfl
theorem bB_0 {c : Bool} : bB c = iI 0 ↔ c = false := by
  cases c
  · exact ⟨fun _ => rfl, fun _ => rfl⟩
  · exact ⟨fun h => absurd h (by decide), fun h => absurd h (by decide)⟩
theorem w_fr3 {m : gS} {b : Nat → Bool} {wd way v N : Nat} (hway : way ≤ 1) (hv : v + N ≤ 2000) (hm : ∀ u, u < 2000 → m.1 31 (2000 * way + u) = sv b wd u) : ∀ (r u f : Nat), u + r = v + N → v ≤ u → r ≤ f → (∀ t, v ≤ t → t < u → ¬ sn b wd t) → f_X10_isFree_3 m (f + 1) (iI way) (iI v) (iI N) (iI u) = some (bB (frb b wd v N)) := by
  intro r
  induction r with
  | zero =>
    intro u f hu hv2 hf ho
    have g : (v : Int) + (N : Int) ≤ (u : Int) := by omega
    have e : frb b wd v N = true := (frb_iff N).mpr (fun t h1 h2 => ho t h1 (by omega))
    rw [f_X10_isFree_3, e]
    simp +decide (maxSteps := 2000000) (disch := omega) only [↓gl_p, ↓bs_p, iI_lit, iI_neg, iI_add, iI_sub, iI_mul, gk_p, bs_p, bz0, bz1, pI_row, pI_snd, pA_row, pA_snd, pL_fst, pL_row, pB_fst, pB_row, upd_at, ↓reduceIte, Int.reduceToNat, Nat.reduceEqDiff, iI_lt, iI_le, iI_eq, iI_inb, iI_nat, iI_nz, g]
  | succ r ih =>
    intro u f hu hv2 hf ho
    obtain ⟨f, rfl⟩ : ∃ q, f = q + 1 := ⟨f - 1, by omega⟩
    have g : ¬ (v : Int) + (N : Int) ≤ (u : Int) := by omega
    have t1 : (2000 * (way : Int) + (u : Int)).toNat = 2000 * way + u := by omega
    have q := hm u (by omega)
    rw [f_X10_isFree_3]
    by_cases c : sn b wd u
    · have c2 : ¬ sv b wd u = iI 0 := fun h => (sv_0.mp h) c
      have e : frb b wd v N = false := by
        cases h : frb b wd v N
        · rfl
        · exact absurd c ((frb_iff N).mp h u hv2 (by omega))
      rw [e]
      simp +decide (maxSteps := 2000000) (disch := omega) only [↓gl_p, ↓bs_p, iI_lit, iI_neg, iI_add, iI_sub, iI_mul, gk_p, bs_p, bz0, bz1, pI_row, pI_snd, pA_row, pA_snd, pL_fst, pL_row, pB_fst, pB_row, upd_at, ↓reduceIte, Int.reduceToNat, Nat.reduceEqDiff, iI_lt, iI_le, iI_eq, iI_inb, iI_nat, iI_nz, g, t1, q, c2]
    · have c2 := eq_true (sv_0.mpr c)
      have k2 := ih (u + 1) f (by omega) (by omega) (by omega) (fun t h1 h2 => by
        by_cases e : t = u
        · rw [e]
          exact c
        · exact ho t h1 (by omega))
      simp +decide (maxSteps := 2000000) (disch := omega) only [↓gl_p, ↓bs_p, iI_lit, iI_neg, iI_add, iI_sub, iI_mul, gk_p, bs_p, bz0, bz1, pI_row, pI_snd, pA_row, pA_snd, pL_fst, pL_row, pB_fst, pB_row, upd_at, ↓reduceIte, Int.reduceToNat, Nat.reduceEqDiff, iI_lt, iI_le, iI_eq, iI_inb, iI_nat, iI_nz, g, t1, q, c2]
      exact k2
theorem s_frM0 {m : gS} {k sd : Nat} {w : Nat → Nat → Nat} {S : Nat → Nat} {p : Nat} (hB : SB w sd S k p m) {v N : Nat} (hv : v + N ≤ 2000) : f_X10_isFree m (iI 0) (iI v) (iI N) = some (bB (frb (dn w sd S k p) (wdo sd) v N)) := w_fr3 (way := 0) (by omega) hv (fun u hu => by
    rw [show 2000 * 0 + u = u by omega]
    exact (hB u hu).1) N v 999999 (by omega) (by omega) (by omega) (fun t h1 h2 => absurd h1 (by omega))
theorem s_frM1 {m : gS} {k sd : Nat} {w : Nat → Nat → Nat} {S : Nat → Nat} {p : Nat} (hB : SB w sd S k p m) {v N : Nat} (hv : v + N ≤ 2000) : f_X10_isFree m (iI 1) (iI v) (iI N) = some (bB (frb (dn w sd (rvS S k) k p) (wdo sd) v N)) := w_fr3 (way := 1) (by omega) hv (fun u hu => (hB u hu).2) N v 999999 (by omega) (by omega) (by omega) (fun t h1 h2 => absurd h1 (by omega))
theorem s_frX_26 {y : gS} {n0 k sd : Nat} {w : Nat → Nat → Nat} {S : Nat → Nat} (hY : YD n0 w sd y) (hC : CO 26 n0 k w sd S y) {p v N : Nat} (hp : p < n0) (hv : v ≤ 599) (h1 : 1 ≤ N) (h2 : N ≤ 99) : ∃ y2, f_X9_isFree y 26 (iI p) (iI v) (iI N) = some (bB (frb (dn w sd S k p) (wdo sd) v N), y2) ∧ Ch gaC y y2 := by
  obtain ⟨y2, C, z, f, g1, g2, g3, g4, g5, g6⟩ := s_gath_26 hY hC hp (U := v + N - 1) (by omega)
  have hG := GP_of g6 g3
  have hz := GP_sz g6 hG (by omega)
  obtain ⟨s2, k1, k2, k3, k4, k5⟩ := w_free g5 hG (by omega) hz (wd := wdo sd) g4 (wdo_rg hY.2.1).1 (wdo_rg hY.2.1).2 h1 h2 (a := v) (by omega) z 0 999999 v (by omega) (by omega) (by omega) (by omega) (fun s h1 h2 => absurd h1 (by omega)) (fun j hj => absurd hj (by omega))
  have eU : (v : Int) + (N : Int) - 1 = ((v + N - 1 : Nat) : Int) := by omega
  have k1' : f_X6_freeFrom_5 y2 gN (iI N) (iI v) (iI 0) = some (iI (s2 : Nat)) := k1
  refine ⟨y2, ?_, g2⟩
  unfold f_X9_isFree f_X6_freeFrom
  by_cases c : s2 = v
  · have c2 := eq_true (show (s2 : Int) = (v : Int) by omega)
    have e : frb (dn w sd S k p) (wdo sd) v N = true := (frb_iff N).mpr (by
      rw [c] at k5
      exact k5 (by omega))
    rw [e]
    simp +decide (maxSteps := 2000000) (disch := omega) only [↓gl_p, ↓bs_p, iI_lit, iI_neg, iI_add, iI_sub, iI_mul, gk_p, bs_p, bz0, bz1, pI_row, pI_snd, pA_row, pA_snd, pL_fst, pL_row, pB_fst, pB_row, upd_at, ↓reduceIte, Int.reduceToNat, Nat.reduceEqDiff, iI_lt, iI_le, iI_eq, iI_inb, iI_nat, iI_nz, eU, g1, k1', c2]
    rfl
  · have c2 : ¬ (s2 : Int) = (v : Int) := by omega
    have e : frb (dn w sd S k p) (wdo sd) v N = false := by
      cases h : frb (dn w sd S k p) (wdo sd) v N
      · rfl
      · obtain ⟨u, u1, u2, u3⟩ := k4 v (by omega) (by omega)
        exact absurd u3 ((frb_iff N).mp h u u1 u2)
    rw [e]
    simp +decide (maxSteps := 2000000) (disch := omega) only [↓gl_p, ↓bs_p, iI_lit, iI_neg, iI_add, iI_sub, iI_mul, gk_p, bs_p, bz0, bz1, pI_row, pI_snd, pA_row, pA_snd, pL_fst, pL_row, pB_fst, pB_row, upd_at, ↓reduceIte, Int.reduceToNat, Nat.reduceEqDiff, iI_lt, iI_le, iI_eq, iI_inb, iI_nat, iI_nz, eU, g1, k1', c2]
    rfl
theorem s_frX_29 {y : gS} {n0 k sd : Nat} {w : Nat → Nat → Nat} {S : Nat → Nat} (hY : YD n0 w sd y) (hC : CO 29 n0 k w sd S y) {p v N : Nat} (hp : p < n0) (hv : v ≤ 599) (h1 : 1 ≤ N) (h2 : N ≤ 99) : ∃ y2, f_X9_isFree y 29 (iI p) (iI v) (iI N) = some (bB (frb (dn w sd S k p) (wdo sd) v N), y2) ∧ Ch gaC y y2 := by
  obtain ⟨y2, C, z, f, g1, g2, g3, g4, g5, g6⟩ := s_gath_29 hY hC hp (U := v + N - 1) (by omega)
  have hG := GP_of g6 g3
  have hz := GP_sz g6 hG (by omega)
  obtain ⟨s2, k1, k2, k3, k4, k5⟩ := w_free g5 hG (by omega) hz (wd := wdo sd) g4 (wdo_rg hY.2.1).1 (wdo_rg hY.2.1).2 h1 h2 (a := v) (by omega) z 0 999999 v (by omega) (by omega) (by omega) (by omega) (fun s h1 h2 => absurd h1 (by omega)) (fun j hj => absurd hj (by omega))
  have eU : (v : Int) + (N : Int) - 1 = ((v + N - 1 : Nat) : Int) := by omega
  have k1' : f_X6_freeFrom_5 y2 gN (iI N) (iI v) (iI 0) = some (iI (s2 : Nat)) := k1
  refine ⟨y2, ?_, g2⟩
  unfold f_X9_isFree f_X6_freeFrom
  by_cases c : s2 = v
  · have c2 := eq_true (show (s2 : Int) = (v : Int) by omega)
    have e : frb (dn w sd S k p) (wdo sd) v N = true := (frb_iff N).mpr (by
      rw [c] at k5
      exact k5 (by omega))
    rw [e]
    simp +decide (maxSteps := 2000000) (disch := omega) only [↓gl_p, ↓bs_p, iI_lit, iI_neg, iI_add, iI_sub, iI_mul, gk_p, bs_p, bz0, bz1, pI_row, pI_snd, pA_row, pA_snd, pL_fst, pL_row, pB_fst, pB_row, upd_at, ↓reduceIte, Int.reduceToNat, Nat.reduceEqDiff, iI_lt, iI_le, iI_eq, iI_inb, iI_nat, iI_nz, eU, g1, k1', c2]
    rfl
  · have c2 : ¬ (s2 : Int) = (v : Int) := by omega
    have e : frb (dn w sd S k p) (wdo sd) v N = false := by
      cases h : frb (dn w sd S k p) (wdo sd) v N
      · rfl
      · obtain ⟨u, u1, u2, u3⟩ := k4 v (by omega) (by omega)
        exact absurd u3 ((frb_iff N).mp h u u1 u2)
    rw [e]
    simp +decide (maxSteps := 2000000) (disch := omega) only [↓gl_p, ↓bs_p, iI_lit, iI_neg, iI_add, iI_sub, iI_mul, gk_p, bs_p, bz0, bz1, pI_row, pI_snd, pA_row, pA_snd, pL_fst, pL_row, pB_fst, pB_row, upd_at, ↓reduceIte, Int.reduceToNat, Nat.reduceEqDiff, iI_lt, iI_le, iI_eq, iI_inb, iI_nat, iI_nz, eU, g1, k1', c2]
    rfl
