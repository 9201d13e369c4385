/-! ===== posts: of, post ===== -/
theorem iI_div {a b : Int} (h0 : 0 ≤ a) (h1 : a < 2147483648) (h2 : 0 < b) (h3 : b < 2147483648) : iI a / iI b = iI (a / b) := by
  apply Int32.toInt_inj.mp
  have q1 : 0 ≤ a / b := Int.ediv_nonneg h0 (by omega)
  have q2 : a / b ≤ a := Int.ediv_le_self b h0
  rw [Int32.toInt_div, iI_toInt (by omega) h1, iI_toInt (by omega) h3, iI_toInt (by omega) (by omega), Int.tdiv_eq_ediv_of_nonneg h0]
  show Int.bmod (a / b) (2 ^ 32) = a / b
  rw [Int.bmod_eq_of_le (by omega) (by omega)]
theorem pA_pA (σ : gS) (k : Nat) (f g : Nat → Int32) : pA (pA σ k f) k g = pA σ k g := by
  unfold pA
  refine Prod.ext (funext fun i => ?_) rfl
  show (if i = k then g else if i = k then f else σ.1 i) = if i = k then g else σ.1 i
  by_cases h : i = k
  · rw [if_pos h, if_pos h]
  · rw [if_neg h, if_neg h, if_neg h]
theorem pA_pI (σ : gS) (k j : Nat) (v : Int32) (g : Nat → Int32) : pA (pI σ k j v) k g = pA σ k g := pA_pA _ _ _ _
theorem pA_self (σ : gS) (k : Nat) : pA σ k (σ.1 k) = σ := by
  unfold pA
  refine Prod.ext (funext fun i => ?_) rfl
  show (if i = k then σ.1 k else σ.1 i) = σ.1 i
  by_cases h : i = k
  · rw [if_pos h, h]
  · rw [if_neg h]
theorem upd_ne {f : Nat → Int32} {k j : Nat} {v : Int32} (h : ¬ j = k) : upd f k v j = f j := by
  rw [upd_at, if_neg h]
theorem upd_self (f : Nat → Int32) (k : Nat) (v : Int32) : upd f k v k = v := by
  rw [upd_at, if_pos rfl]
theorem e_of (L : LawT) : EQ_of (Rel1 L) := by
  intro x m a1 a2 hR
  obtain ⟨p, rfl, hp1, hp2⟩ := iI_of a1
  obtain ⟨w, rfl, hw1, hw2⟩ := iI_of a2
  obtain ⟨⟨n, nb, hP, hC, hT, hD, hI, hK, hS⟩, hL⟩ := id hR
  have hn := hP.1
  unfold f_X9_of f_X10_of
  by_cases c0 : w = 8
  · simp +decide (disch := omega) only [gl_e, iI_lit, iI_neg, iI_add, iI_sub, iI_mul, gk_t, b_some, bz0, bz1, pI_row, pI_snd, pA_row, pA_snd, pL_fst, pL_row, pB_fst, pB_row, upd_at, ↓reduceIte, Int.reduceToNat, Nat.reduceEqDiff, iI_lt, iI_le, iI_eq, iI_inb, iI_nat, iI_nz, c0, lL_i, s_poX hn hP.2.1, s_poM hn hP.2.2.1, bI_0]
    by_cases c1 : 0 ≤ p ∧ p < n
    · obtain ⟨k, hk, rfl⟩ : ∃ k : Nat, k < n ∧ p = (k : Int) := ⟨p.toNat, by omega, by omega⟩
      simp +decide (disch := omega) only [gl_e, iI_lit, iI_neg, iI_add, iI_sub, iI_mul, gk_t, b_some, bz0, bz1, pI_row, pI_snd, pA_row, pA_snd, pL_fst, pL_row, pB_fst, pB_row, upd_at, ↓reduceIte, Int.reduceToNat, Nat.reduceEqDiff, iI_lt, iI_le, iI_eq, iI_inb, iI_nat, iI_nz, c1, and_self, not_true_eq_false, Int.toNat_natCast]
      exact ⟨_, rfl, by rw [hD.2.2.2.1 k (by omega)], hR⟩
    · simp +decide (disch := omega) only [gl_e, iI_lit, iI_neg, iI_add, iI_sub, iI_mul, gk_t, b_some, bz0, bz1, pI_row, pI_snd, pA_row, pA_snd, pL_fst, pL_row, pB_fst, pB_row, upd_at, ↓reduceIte, Int.reduceToNat, Nat.reduceEqDiff, iI_lt, iI_le, iI_eq, iI_inb, iI_nat, iI_nz, c1, not_false_eq_true]
      exact ⟨_, rfl, rfl, hR⟩
  · simp +decide (disch := omega) only [gl_e, iI_lit, iI_neg, iI_add, iI_sub, iI_mul, gk_t, b_some, bz0, bz1, pI_row, pI_snd, pA_row, pA_snd, pL_fst, pL_row, pB_fst, pB_row, upd_at, ↓reduceIte, Int.reduceToNat, Nat.reduceEqDiff, iI_lt, iI_le, iI_eq, iI_inb, iI_nat, iI_nz, c0]
    by_cases c1 : okI n p w
    · rw [(s_plc hn hP.2.1 hp1 hp2 hw1 hw2).1 c1, (s_isOf hn hP.2.2.1 hp1 hp2 hw1 hw2).1 c1]
      obtain ⟨a, b, rfl, rfl, ho⟩ := okI_of c1
      have h40 : plc a b < 40 := by
        obtain ⟨o1, o2, o3⟩ := ho
        unfold plc
        split <;> omega
      have g : (0 : Int) ≤ (plc a b : Nat) := by omega
      rw [Int.toNat_natCast, Int.toNat_natCast, s_get hP ho]
      simp +decide (disch := omega) only [gl_e, iI_lit, iI_neg, iI_add, iI_sub, iI_mul, gk_t, b_some, bz0, bz1, pI_row, pI_snd, pA_row, pA_snd, pL_fst, pL_row, pB_fst, pB_row, upd_at, ↓reduceIte, Int.reduceToNat, Nat.reduceEqDiff, iI_lt, iI_le, iI_eq, iI_inb, iI_nat, iI_nz, g, Int.toNat_natCast]
      exact ⟨_, rfl, rfl, hR⟩
    · rw [(s_plc hn hP.2.1 hp1 hp2 hw1 hw2).2 c1, (s_isOf hn hP.2.2.1 hp1 hp2 hw1 hw2).2 c1]
      simp +decide (disch := omega) only [gl_e, iI_lit, iI_neg, iI_add, iI_sub, iI_mul, gk_t, b_some, bz0, bz1, pI_row, pI_snd, pA_row, pA_snd, pL_fst, pL_row, pB_fst, pB_row, upd_at, ↓reduceIte, Int.reduceToNat, Nat.reduceEqDiff, iI_lt, iI_le, iI_eq, iI_inb, iI_nat, iI_nz]
      exact ⟨_, rfl, rfl, hR⟩
/-! a post is put in -/
def adX (x : gS) (n : Nat) (a b c : Int32) : gS := pI (pI (pI (pI (pI x 2 (4 * n) a) 2 (4 * n + 1) b) 2 (4 * n + 2) c) 2 (4 * n + 3) (iI 60)) 1 1 (iI (n + 1 : Nat))
def adM (m : gS) (n : Nat) (a b c : Int32) : gS := pI (pI (pI (pI (pI (pI m 1 n a) 2 n b) 3 n c) 4 n (iI 60)) 17 n (iI 0)) 0 0 (iI (n + 1 : Nat))
theorem s_adX {x : gS} {n : Nat} (hn : n < 9) (e : x.1 1 1 = iI n) (a b c : Int32) : f_X8_add x a b c = some (iI n, adX x n a b c) := by
  have g : (n : Int) < 9 := by omega
  have t0 : (4 * (n : Int) + 0).toNat = 4 * n := by omega
  have t1 : (4 * (n : Int) + 1).toNat = 4 * n + 1 := by omega
  have t2 : (4 * (n : Int) + 2).toNat = 4 * n + 2 := by omega
  have t3 : (4 * (n : Int) + 3).toNat = 4 * n + 3 := by omega
  unfold f_X8_add adX
  simp +decide (disch := omega) only [gl_e, iI_lit, iI_neg, iI_add, iI_sub, iI_mul, gk_t, b_some, bz0, bz1, pI_row, pI_snd, pA_row, pA_snd, pL_fst, pL_row, pB_fst, pB_row, upd_at, ↓reduceIte, Int.reduceToNat, Nat.reduceEqDiff, iI_lt, iI_le, iI_eq, iI_inb, iI_nat, iI_nz, e, g, t0, t1, t2, t3]
  rfl
theorem s_adM {m : gS} {n : Nat} (hn : n < 9) (e : m.1 0 0 = iI n) (a b c : Int32) : f_X10_newPost m a b c = some (iI n, adM m n a b c) := by
  unfold f_X10_newPost adM
  simp +decide (disch := omega) only [gl_e, iI_lit, iI_neg, iI_add, iI_sub, iI_mul, gk_t, b_some, bz0, bz1, pI_row, pI_snd, pA_row, pA_snd, pL_fst, pL_row, pB_fst, pB_row, upd_at, ↓reduceIte, Int.reduceToNat, Nat.reduceEqDiff, iI_lt, iI_le, iI_eq, iI_inb, iI_nat, iI_nz, e, Int.toNat_natCast]
  rfl
theorem RC_mono {n o : Nat} (ho : n ≤ o) {dn sz : Int32} {pl ws bc : Nat → Int32} {mc md : Int32} {ch : Nat → Int32} (h : RC n dn sz pl ws bc mc md ch) : RC o dn sz pl ws bc mc md ch := by
  obtain ⟨d, c, h1, h2, h3, h4, h5, h6, h7⟩ := h
  refine ⟨d, c, h1, h2, h3, h4, h5, h6, fun i hi => ?_⟩
  obtain ⟨q1, q2, p, w, q3, q4, q5, q6⟩ := h7 i hi
  exact ⟨q1, q2, p, w, q3, fun hw => Nat.lt_of_lt_of_le (q4 hw) ho, q5, q6⟩
theorem RI_mono {n o : Nat} (ho : n ≤ o) {hi at_ nw wk dn sd wt : Int32} {dt : Nat → Int32} {mi mo ms mn : Int32} {md ml : Nat → Int32} (h : RI n hi at_ nw wk dn sd wt dt mi mo ms mn md ml) : RI o hi at_ nw wk dn sd wt dt mi mo ms mn md ml := by
  rcases h with h | ⟨h1, h2, q, h3, h4⟩
  · exact Or.inl h
  · exact Or.inr ⟨h1, h2, q, Nat.le_trans h3 ho, h4⟩
theorem Rel1_ad {L : LawT} {x m : gS} {n nb : Nat} (hn : n < 9) (h0 : Rel0 n nb x m) (hL : L (x.1 7 6) (x.1 10) (m.1 0 8) (m.1 0 9) (m.1 7) (m.1 8) (m.1 9) (m.1 10)) {a b c : Int} (a1 : 0 ≤ a) (a2 : a ≤ 15) (b1 : 0 ≤ b) (b2 : b ≤ 15) (c1 : 0 ≤ c) (c2 : c ≤ 9) : Rel0 (n + 1) nb (adX x n (iI a) (iI b) (iI c)) (adM m n (iI a) (iI b) (iI c)) := by
  obtain ⟨hP, hC, hT, hD, hI, hK, hS⟩ := h0
  refine ⟨?_, RC_mono (Nat.le_succ n) hC, hT, ?_, RI_mono (Nat.le_succ n) hI, hK, RSs_x hS (by unfold adX; exact (fun c h1 h2 => by simp (disch := omega) only [pI_off, pA_off]))⟩
  · obtain ⟨q1, q2, q3, q4, q5, q6, q7, q8, q9, q10⟩ := hP
    refine ⟨by omega, rfl, rfl, fun p hp => ?_, ?_, fun p hp => ?_, ?_, ?_, ?_, ?_⟩
    · show upd (m.1 1) n (iI a) p = upd (upd (upd (upd (x.1 2) (4 * n) (iI a)) (4 * n + 1) (iI b)) (4 * n + 2) (iI c)) (4 * n + 3) (iI 60) (4 * p) ∧ upd (m.1 2) n (iI b) p = upd (upd (upd (upd (x.1 2) (4 * n) (iI a)) (4 * n + 1) (iI b)) (4 * n + 2) (iI c)) (4 * n + 3) (iI 60) (4 * p + 1) ∧ upd (m.1 3) n (iI c) p = upd (upd (upd (upd (x.1 2) (4 * n) (iI a)) (4 * n + 1) (iI b)) (4 * n + 2) (iI c)) (4 * n + 3) (iI 60) (4 * p + 2) ∧ upd (m.1 4) n (iI 60) p = upd (upd (upd (upd (x.1 2) (4 * n) (iI a)) (4 * n + 1) (iI b)) (4 * n + 2) (iI c)) (4 * n + 3) (iI 60) (4 * p + 3)
      by_cases c : p = n
      · subst c
        simp +decide (disch := omega) only [upd_ne, upd_self, and_self]
      · simp +decide (disch := omega) only [upd_ne]
        exact q4 p (by omega)
    · show m.1 5 0 = upd (upd (upd (upd (x.1 2) (4 * n) (iI a)) (4 * n + 1) (iI b)) (4 * n + 2) (iI c)) (4 * n + 3) (iI 60) 36 ∧ m.1 5 1 = upd (upd (upd (upd (x.1 2) (4 * n) (iI a)) (4 * n + 1) (iI b)) (4 * n + 2) (iI c)) (4 * n + 3) (iI 60) 37 ∧ m.1 5 2 = upd (upd (upd (upd (x.1 2) (4 * n) (iI a)) (4 * n + 1) (iI b)) (4 * n + 2) (iI c)) (4 * n + 3) (iI 60) 38 ∧ m.1 5 3 = upd (upd (upd (upd (x.1 2) (4 * n) (iI a)) (4 * n + 1) (iI b)) (4 * n + 2) (iI c)) (4 * n + 3) (iI 60) 39
      simp +decide (disch := omega) only [upd_ne]
      exact q5
    · show rgW 0 (upd (upd (upd (upd (x.1 2) (4 * n) (iI a)) (4 * n + 1) (iI b)) (4 * n + 2) (iI c)) (4 * n + 3) (iI 60) (4 * p)) ∧ rgW 1 (upd (upd (upd (upd (x.1 2) (4 * n) (iI a)) (4 * n + 1) (iI b)) (4 * n + 2) (iI c)) (4 * n + 3) (iI 60) (4 * p + 1)) ∧ rgW 2 (upd (upd (upd (upd (x.1 2) (4 * n) (iI a)) (4 * n + 1) (iI b)) (4 * n + 2) (iI c)) (4 * n + 3) (iI 60) (4 * p + 2)) ∧ rgW 3 (upd (upd (upd (upd (x.1 2) (4 * n) (iI a)) (4 * n + 1) (iI b)) (4 * n + 2) (iI c)) (4 * n + 3) (iI 60) (4 * p + 3))
      by_cases c : p = n
      · subst c
        simp +decide (disch := omega) only [upd_ne, upd_self]
        exact ⟨⟨a, rfl, a1, a2⟩, ⟨b, rfl, b1, b2⟩, ⟨_, rfl, c1, c2⟩, ⟨60, rfl, by decide, by decide⟩⟩
      · simp +decide (disch := omega) only [upd_ne]
        exact q6 p (by omega)
    · show rgW 4 (upd (upd (upd (upd (x.1 2) (4 * n) (iI a)) (4 * n + 1) (iI b)) (4 * n + 2) (iI c)) (4 * n + 3) (iI 60) 36)
      simp +decide (disch := omega) only [upd_ne]
      exact q7
    · show rgW 5 (upd (upd (upd (upd (x.1 2) (4 * n) (iI a)) (4 * n + 1) (iI b)) (4 * n + 2) (iI c)) (4 * n + 3) (iI 60) 37)
      simp +decide (disch := omega) only [upd_ne]
      exact q8
    · show rgW 6 (upd (upd (upd (upd (x.1 2) (4 * n) (iI a)) (4 * n + 1) (iI b)) (4 * n + 2) (iI c)) (4 * n + 3) (iI 60) 38)
      simp +decide (disch := omega) only [upd_ne]
      exact q9
    · show rgW 7 (upd (upd (upd (upd (x.1 2) (4 * n) (iI a)) (4 * n + 1) (iI b)) (4 * n + 2) (iI c)) (4 * n + 3) (iI 60) 39)
      simp +decide (disch := omega) only [upd_ne]
      exact q10
  · obtain ⟨⟨p, hp⟩, q2, q3, q4, q5⟩ := hD
    refine ⟨⟨p, ?_⟩, q2, q3, fun i hi => ?_, fun i h1 h2 => q5 i (by omega) h2⟩
    · rcases hp with ⟨g, g1⟩ | g
      · exact Or.inl ⟨by omega, g1⟩
      · exact Or.inr g
    · show upd (m.1 17) n (iI 0) i = x.1 38 i
      rw [upd_at]
      split
      · rename_i h; rw [h, q5 n (by omega) hn]
      · exact q4 i hi
theorem e_post (L : LawT) : EQ_post (Rel1 L) := by
  intro x m a1 hR
  obtain ⟨v, rfl, hv1, hv2⟩ := iI_of a1
  obtain ⟨⟨n, nb, h0⟩, hL⟩ := id hR
  obtain ⟨hP, hC, hT, hD, hI, hK, hS⟩ := id h0
  have hn := hP.1
  unfold f_X9_post f_X10_post
  by_cases c0 : v < 0
  · simp +decide (disch := omega) only [gl_e, iI_lit, iI_neg, iI_add, iI_sub, iI_mul, gk_t, b_some, bz0, bz1, pI_row, pI_snd, pA_row, pA_snd, pL_fst, pL_row, pB_fst, pB_row, upd_at, ↓reduceIte, Int.reduceToNat, Nat.reduceEqDiff, iI_lt, iI_le, iI_eq, iI_inb, iI_nat, iI_nz, c0]
    exact ⟨_, _, _, rfl, rfl, hR⟩
  · have l0 : iI 0 = iI ((0 : Nat) : Int) := rfl
    have l1 : iI 1 = iI ((1 : Nat) : Int) := rfl
    simp +decide (disch := omega) only [gl_e, iI_lit, iI_neg, iI_add, iI_sub, iI_mul, gk_t, b_some, bz0, bz1, pI_row, pI_snd, pA_row, pA_snd, pL_fst, pL_row, pB_fst, pB_row, upd_at, ↓reduceIte, Int.reduceToNat, Nat.reduceEqDiff, iI_lt, iI_le, iI_eq, iI_inb, iI_nat, iI_nz, c0, iI_div]
    rw [l0, s_fits x (Nat.zero_le 7) (v := v - v / 100 * 100) (by omega) (by omega)]
    rw [l1, s_fits x (by decide : 1 ≤ 7) (v := v / 100) (by omega) (by omega)]
    simp only [← l0, ← l1]
    simp +decide (disch := omega) only [gl_e, iI_lit, iI_neg, iI_add, iI_sub, iI_mul, gk_t, b_some, bz0, bz1, pI_row, pI_snd, pA_row, pA_snd, pL_fst, pL_row, pB_fst, pB_row, upd_at, ↓reduceIte, Int.reduceToNat, Nat.reduceEqDiff, iI_lt, iI_le, iI_eq, iI_inb, iI_nat, iI_nz, bI_0, hP.2.1, hP.2.2.1, loW, hiW]
    by_cases c1 : v - v / 100 * 100 ≤ 15
    · by_cases c2 : v / 100 ≤ 15
      · have c3 : 0 ≤ v - v / 100 * 100 ∧ v - v / 100 * 100 ≤ 15 := by omega
        have c4 : 0 ≤ v / 100 ∧ v / 100 ≤ 15 := by omega
        have c5 : ¬ 15 < v / 100 := by omega
        by_cases c6 : n < 9
        · have c7 : (n : Int) < 9 := by omega
          have c8 : ¬ (n : Int) = 9 := by omega
          rw [s_adX c6 hP.2.1, s_adM c6 hP.2.2.1]
          simp +decide (disch := omega) only [gl_e, iI_lit, iI_neg, iI_add, iI_sub, iI_mul, gk_t, b_some, bz0, bz1, pI_row, pI_snd, pA_row, pA_snd, pL_fst, pL_row, pB_fst, pB_row, upd_at, ↓reduceIte, Int.reduceToNat, Nat.reduceEqDiff, iI_lt, iI_le, iI_eq, iI_inb, iI_nat, iI_nz, c1, c3, c4, c5, c7, c8, and_self, not_true_eq_false]
          exact ⟨_, _, _, rfl, rfl, ⟨n + 1, nb, Rel1_ad (L := L) c6 h0 hL c3.1 c3.2 c4.1 c4.2 (by decide) (by decide)⟩, hL⟩
        · have c7 : ¬ (n : Int) < 9 := by omega
          have c8 : (n : Int) = 9 := by omega
          simp +decide (disch := omega) only [gl_e, iI_lit, iI_neg, iI_add, iI_sub, iI_mul, gk_t, b_some, bz0, bz1, pI_row, pI_snd, pA_row, pA_snd, pL_fst, pL_row, pB_fst, pB_row, upd_at, ↓reduceIte, Int.reduceToNat, Nat.reduceEqDiff, iI_lt, iI_le, iI_eq, iI_inb, iI_nat, iI_nz, c1, c3, c4, c5, c7, c8, and_self, not_true_eq_false]
          exact ⟨_, _, _, rfl, rfl, hR⟩
      · have c4 : ¬ (0 ≤ v / 100 ∧ v / 100 ≤ 15) := by omega
        have c5 : 15 < v / 100 := by omega
        have c3 : 0 ≤ v - v / 100 * 100 ∧ v - v / 100 * 100 ≤ 15 := by omega
        simp +decide (disch := omega) only [gl_e, iI_lit, iI_neg, iI_add, iI_sub, iI_mul, gk_t, b_some, bz0, bz1, pI_row, pI_snd, pA_row, pA_snd, pL_fst, pL_row, pB_fst, pB_row, upd_at, ↓reduceIte, Int.reduceToNat, Nat.reduceEqDiff, iI_lt, iI_le, iI_eq, iI_inb, iI_nat, iI_nz, c3, c4, c5, not_false_eq_true, and_self, not_true_eq_false]
        exact ⟨_, _, _, rfl, rfl, hR⟩
    · have c3 : ¬ (0 ≤ v - v / 100 * 100 ∧ v - v / 100 * 100 ≤ 15) := by omega
      simp +decide (disch := omega) only [gl_e, iI_lit, iI_neg, iI_add, iI_sub, iI_mul, gk_t, b_some, bz0, bz1, pI_row, pI_snd, pA_row, pA_snd, pL_fst, pL_row, pB_fst, pB_row, upd_at, ↓reduceIte, Int.reduceToNat, Nat.reduceEqDiff, iI_lt, iI_le, iI_eq, iI_inb, iI_nat, iI_nz, c1, not_false_eq_true, and_false]
      refine ⟨_, _, _, rfl, ?_, hR⟩
      split <;> rfl
/-! ===== mend, undo, redo ===== -/
def bec (m : gS) (p w : Nat) (v : Int32) : gS := match w with
  | 0 => pI m 1 p v
  | 1 => pI m 2 p v
  | 2 => pI m 3 p v
  | 3 => pI m 4 p v
  | k + 4 => pI m 5 k v
theorem s_bec {m : gS} {n p w : Nat} (hn : n ≤ 9) (hw : okW n p w) (v : Int32) : f_X10_becomes m (iI p) (iI w) v = some (bec m p w v) := by
  obtain ⟨h7, ha, hb⟩ := hw
  unfold f_X10_becomes
  match w, h7 with
  | 0, _ =>
    have hp := ha (by omega)
    simp +decide (disch := omega) only [gl_e, iI_lit, iI_neg, iI_add, iI_sub, iI_mul, gk_t, b_some, bz0, bz1, pI_row, pI_snd, pA_row, pA_snd, pL_fst, pL_row, pB_fst, pB_row, upd_at, ↓reduceIte, Int.reduceToNat, Nat.reduceEqDiff, iI_lt, iI_le, iI_eq, iI_inb, iI_nat, iI_nz, Int.toNat_natCast]
    rfl
  | 1, _ =>
    have hp := ha (by omega)
    simp +decide (disch := omega) only [gl_e, iI_lit, iI_neg, iI_add, iI_sub, iI_mul, gk_t, b_some, bz0, bz1, pI_row, pI_snd, pA_row, pA_snd, pL_fst, pL_row, pB_fst, pB_row, upd_at, ↓reduceIte, Int.reduceToNat, Nat.reduceEqDiff, iI_lt, iI_le, iI_eq, iI_inb, iI_nat, iI_nz, Int.toNat_natCast]
    rfl
  | 2, _ =>
    have hp := ha (by omega)
    simp +decide (disch := omega) only [gl_e, iI_lit, iI_neg, iI_add, iI_sub, iI_mul, gk_t, b_some, bz0, bz1, pI_row, pI_snd, pA_row, pA_snd, pL_fst, pL_row, pB_fst, pB_row, upd_at, ↓reduceIte, Int.reduceToNat, Nat.reduceEqDiff, iI_lt, iI_le, iI_eq, iI_inb, iI_nat, iI_nz, Int.toNat_natCast]
    rfl
  | 3, _ =>
    have hp := ha (by omega)
    simp +decide (disch := omega) only [gl_e, iI_lit, iI_neg, iI_add, iI_sub, iI_mul, gk_t, b_some, bz0, bz1, pI_row, pI_snd, pA_row, pA_snd, pL_fst, pL_row, pB_fst, pB_row, upd_at, ↓reduceIte, Int.reduceToNat, Nat.reduceEqDiff, iI_lt, iI_le, iI_eq, iI_inb, iI_nat, iI_nz, Int.toNat_natCast]
    rfl
  | 4, _ => rfl
  | 5, _ => rfl
  | 6, _ => rfl
  | 7, _ => rfl
  | k + 8, h => exact absurd h (by omega)
theorem RP_upd {m : gS} {n : Nat} {sz : Int32} {td : Nat → Int32} (h : RP n sz td (m.1 0 0) (m.1 1) (m.1 2) (m.1 3) (m.1 4) (m.1 5)) {p w : Nat} (hw : okW n p w) {v : Int32} (hv : rgW w v) : RP n sz (upd td (plc p w) v) ((bec m p w v).1 0 0) ((bec m p w v).1 1) ((bec m p w v).1 2) ((bec m p w v).1 3) ((bec m p w v).1 4) ((bec m p w v).1 5) := by
  obtain ⟨q1, q2, q3, q4, ⟨w0, w1, w2, w3⟩, q6, q7, q8, q9, q10⟩ := h
  obtain ⟨h7, ha, hb⟩ := hw
  match w, h7, hv with
  | 0, _, hv =>
    have hp := ha (by omega)
    have e : plc p 0 = 4 * p := rfl
    rw [e]
    refine ⟨q1, q2, q3, fun q hq => ?_, ?_, fun q hq => ?_, ?_, ?_, ?_, ?_⟩
    · show upd (m.1 1) p v q = _ ∧ m.1 2 q = _ ∧ m.1 3 q = _ ∧ m.1 4 q = _
      by_cases c : q = p
      · subst c
        simp +decide (disch := omega) only [upd_ne, upd_self]
        exact ⟨trivial, (q4 q hq).2⟩
      · simp +decide (disch := omega) only [upd_ne]
        exact q4 q hq
    · simp +decide (disch := omega) only [upd_ne]
      exact ⟨w0, w1, w2, w3⟩
    · by_cases c : q = p
      · subst c
        simp +decide (disch := omega) only [upd_ne, upd_self]
        exact ⟨hv, (q6 q hq).2⟩
      · simp +decide (disch := omega) only [upd_ne]
        exact q6 q hq
    all_goals simp +decide (disch := omega) only [upd_ne]; assumption
  | 1, _, hv =>
    have hp := ha (by omega)
    have e : plc p 1 = 4 * p + 1 := rfl
    rw [e]
    refine ⟨q1, q2, q3, fun q hq => ?_, ?_, fun q hq => ?_, ?_, ?_, ?_, ?_⟩
    · show m.1 1 q = _ ∧ upd (m.1 2) p v q = _ ∧ m.1 3 q = _ ∧ m.1 4 q = _
      by_cases c : q = p
      · subst c
        simp +decide (disch := omega) only [upd_ne, upd_self]
        exact ⟨(q4 q hq).1, trivial, (q4 q hq).2.2⟩
      · simp +decide (disch := omega) only [upd_ne]
        exact q4 q hq
    · simp +decide (disch := omega) only [upd_ne]
      exact ⟨w0, w1, w2, w3⟩
    · by_cases c : q = p
      · subst c
        simp +decide (disch := omega) only [upd_ne, upd_self]
        exact ⟨(q6 q hq).1, hv, (q6 q hq).2.2⟩
      · simp +decide (disch := omega) only [upd_ne]
        exact q6 q hq
    all_goals simp +decide (disch := omega) only [upd_ne]; assumption
  | 2, _, hv =>
    have hp := ha (by omega)
    have e : plc p 2 = 4 * p + 2 := rfl
    rw [e]
    refine ⟨q1, q2, q3, fun q hq => ?_, ?_, fun q hq => ?_, ?_, ?_, ?_, ?_⟩
    · show m.1 1 q = _ ∧ m.1 2 q = _ ∧ upd (m.1 3) p v q = _ ∧ m.1 4 q = _
      by_cases c : q = p
      · subst c
        simp +decide (disch := omega) only [upd_ne, upd_self]
        exact ⟨(q4 q hq).1, (q4 q hq).2.1, trivial, (q4 q hq).2.2.2⟩
      · simp +decide (disch := omega) only [upd_ne]
        exact q4 q hq
    · simp +decide (disch := omega) only [upd_ne]
      exact ⟨w0, w1, w2, w3⟩
    · by_cases c : q = p
      · subst c
        simp +decide (disch := omega) only [upd_ne, upd_self]
        exact ⟨(q6 q hq).1, (q6 q hq).2.1, hv, (q6 q hq).2.2.2⟩
      · simp +decide (disch := omega) only [upd_ne]
        exact q6 q hq
    all_goals simp +decide (disch := omega) only [upd_ne]; assumption
  | 3, _, hv =>
    have hp := ha (by omega)
    have e : plc p 3 = 4 * p + 3 := rfl
    rw [e]
    refine ⟨q1, q2, q3, fun q hq => ?_, ?_, fun q hq => ?_, ?_, ?_, ?_, ?_⟩
    · show m.1 1 q = _ ∧ m.1 2 q = _ ∧ m.1 3 q = _ ∧ upd (m.1 4) p v q = _
      by_cases c : q = p
      · subst c
        simp +decide (disch := omega) only [upd_ne, upd_self]
        exact ⟨(q4 q hq).1, (q4 q hq).2.1, (q4 q hq).2.2.1, trivial⟩
      · simp +decide (disch := omega) only [upd_ne]
        exact q4 q hq
    · simp +decide (disch := omega) only [upd_ne]
      exact ⟨w0, w1, w2, w3⟩
    · by_cases c : q = p
      · subst c
        simp +decide (disch := omega) only [upd_ne, upd_self]
        exact ⟨(q6 q hq).1, (q6 q hq).2.1, (q6 q hq).2.2.1, hv⟩
      · simp +decide (disch := omega) only [upd_ne]
        exact q6 q hq
    all_goals simp +decide (disch := omega) only [upd_ne]; assumption
  | 4, _, hv =>
    have e : plc p 4 = 36 := rfl
    rw [e]
    refine ⟨q1, q2, q3, fun q hq => ?_, ?_, fun q hq => ?_, hv, q8, q9, q10⟩
    · simp +decide (disch := omega) only [upd_ne]
      exact q4 q hq
    · exact ⟨rfl, w1, w2, w3⟩
    · simp +decide (disch := omega) only [upd_ne]
      exact q6 q hq
  | 5, _, hv =>
    have e : plc p 5 = 37 := rfl
    rw [e]
    refine ⟨q1, q2, q3, fun q hq => ?_, ?_, fun q hq => ?_, q7, hv, q9, q10⟩
    · simp +decide (disch := omega) only [upd_ne]
      exact q4 q hq
    · exact ⟨w0, rfl, w2, w3⟩
    · simp +decide (disch := omega) only [upd_ne]
      exact q6 q hq
  | 6, _, hv =>
    have e : plc p 6 = 38 := rfl
    rw [e]
    refine ⟨q1, q2, q3, fun q hq => ?_, ?_, fun q hq => ?_, q7, q8, hv, q10⟩
    · simp +decide (disch := omega) only [upd_ne]
      exact q4 q hq
    · exact ⟨w0, w1, rfl, w3⟩
    · simp +decide (disch := omega) only [upd_ne]
      exact q6 q hq
  | 7, _, hv =>
    have e : plc p 7 = 39 := rfl
    rw [e]
    refine ⟨q1, q2, q3, fun q hq => ?_, ?_, fun q hq => ?_, q7, q8, q9, hv⟩
    · simp +decide (disch := omega) only [upd_ne]
      exact q4 q hq
    · exact ⟨w0, w1, w2, rfl⟩
    · simp +decide (disch := omega) only [upd_ne]
      exact q6 q hq
  | k + 8, h, _ => exact absurd h (by omega)
/-- what becomes changes nothing else -/
theorem bec_off (m : gS) (p w : Nat) (v : Int32) : (∀ c, c = 0 ∨ 6 ≤ c → (bec m p w v).1 c = m.1 c) ∧ (bec m p w v).2 = m.2 := by
  match w with
  | 0 => exact ⟨fun c hc => pI_off (by omega), rfl⟩
  | 1 => exact ⟨fun c hc => pI_off (by omega), rfl⟩
  | 2 => exact ⟨fun c hc => pI_off (by omega), rfl⟩
  | 3 => exact ⟨fun c hc => pI_off (by omega), rfl⟩
  | k + 4 => exact ⟨fun c hc => pI_off (by omega), rfl⟩
theorem plc_lt {n p w : Nat} (hn : n ≤ 9) (hw : okW n p w) : plc p w < 40 := by
  obtain ⟨o1, o2, o3⟩ := hw
  unfold plc
  split <;> omega
theorem plc_i (p w : Nat) : (if w ≤ 3 then 4 * (p : Int) + w else 32 + w) = ((plc p w : Nat) : Int) := by
  unfold plc
  split <;> omega
/-- the relation moves along where told rows and changes are told anew -/
theorem Rel1_ch {L : LawT} {x m y k : gS} (hR : Rel1 L x m) (hx : ∀ c, c ≠ 2 → c ≠ 3 → c ≠ 4 → c ≠ 5 → c ≠ 6 → y.1 c = x.1 c) (hx2 : y.2 = x.2) (hm : ∀ c, c ≠ 0 → c ≠ 1 → c ≠ 2 → c ≠ 3 → c ≠ 4 → c ≠ 5 → c ≠ 21 → k.1 c = m.1 c) (hm0 : ∀ j, j ≠ 34 → j ≠ 35 → k.1 0 j = m.1 0 j) (hm2 : k.2 = m.2) (hn : ∀ n, RP n (x.1 1 1) (x.1 2) (m.1 0 0) (m.1 1) (m.1 2) (m.1 3) (m.1 4) (m.1 5) → RC n (x.1 3 3) (x.1 3 4) (x.1 4) (x.1 5) (x.1 6) (m.1 0 34) (m.1 0 35) (m.1 21) → RP n (x.1 1 1) (y.1 2) (m.1 0 0) (k.1 1) (k.1 2) (k.1 3) (k.1 4) (k.1 5) ∧ RC n (y.1 3 3) (y.1 3 4) (y.1 4) (y.1 5) (y.1 6) (k.1 0 34) (k.1 0 35) (k.1 21)) : Rel1 L y k := by
  obtain ⟨⟨n, nb, hP, hC, hT, hD, hI, hK, hS⟩, hL⟩ := hR
  obtain ⟨g1, g2⟩ := hn n hP hC
  refine ⟨⟨n, nb, ?_, ?_, ?_, ?_, ?_, ?_, ?_⟩, ?_⟩
  · rw [hx 1 (by decide) (by decide) (by decide) (by decide) (by decide), hm0 0 (by decide) (by decide)]
    exact g1
  · exact g2
  · rw [hx 7 (by decide) (by decide) (by decide) (by decide) (by decide), hx 8 (by decide) (by decide) (by decide) (by decide) (by decide), hm0 6 (by decide) (by decide), hm 6 (by decide) (by decide) (by decide) (by decide) (by decide) (by decide) (by decide)]
    exact hT
  · rw [hx 37 (by decide) (by decide) (by decide) (by decide) (by decide), hx 38 (by decide) (by decide) (by decide) (by decide) (by decide), hm0 24 (by decide) (by decide), hm0 25 (by decide) (by decide), hm 17 (by decide) (by decide) (by decide) (by decide) (by decide) (by decide) (by decide), hm 18 (by decide) (by decide) (by decide) (by decide) (by decide) (by decide) (by decide)]
    exact hD
  · rw [hx 0 (by decide) (by decide) (by decide) (by decide) (by decide), hx 39 (by decide) (by decide) (by decide) (by decide) (by decide), hx 40 (by decide) (by decide) (by decide) (by decide) (by decide), hm0 28 (by decide) (by decide), hm0 29 (by decide) (by decide), hm0 30 (by decide) (by decide), hm0 31 (by decide) (by decide), hm 19 (by decide) (by decide) (by decide) (by decide) (by decide) (by decide) (by decide), hm 20 (by decide) (by decide) (by decide) (by decide) (by decide) (by decide) (by decide)]
    exact hI
  · rw [hx 41 (by decide) (by decide) (by decide) (by decide) (by decide), hx 42 (by decide) (by decide) (by decide) (by decide) (by decide), hx 43 (by decide) (by decide) (by decide) (by decide) (by decide), hm0 37 (by decide) (by decide), hm0 39 (by decide) (by decide), hm 22 (by decide) (by decide) (by decide) (by decide) (by decide) (by decide) (by decide), hm 23 (by decide) (by decide) (by decide) (by decide) (by decide) (by decide) (by decide)]
    exact hK
  · rw [hx2, hm2, hm 24 (by decide) (by decide) (by decide) (by decide) (by decide) (by decide) (by decide), hm 25 (by decide) (by decide) (by decide) (by decide) (by decide) (by decide) (by decide)]
    exact RSs_x hS (fun c h1 h2 => hx c (by omega) (by omega) (by omega) (by omega) (by omega))
  · rw [hx 7 (by decide) (by decide) (by decide) (by decide) (by decide), hx 10 (by decide) (by decide) (by decide) (by decide) (by decide), hm0 8 (by decide) (by decide), hm0 9 (by decide) (by decide), hm 7 (by decide) (by decide) (by decide) (by decide) (by decide) (by decide) (by decide), hm 8 (by decide) (by decide) (by decide) (by decide) (by decide) (by decide) (by decide), hm 9 (by decide) (by decide) (by decide) (by decide) (by decide) (by decide) (by decide), hm 10 (by decide) (by decide) (by decide) (by decide) (by decide) (by decide) (by decide)]
    exact hL
theorem e_undo (L : LawT) : EQ_undo (Rel1 L) := by
  intro x m hR
  obtain ⟨⟨n, nb, hP, hC, hT, hD, hI, hK, hS⟩, hL⟩ := id hR
  obtain ⟨d, c, h1, h2, e1, e2, e3, e4, hc⟩ := id hC
  have hn := hP.1
  unfold f_X9_undo f_X0_takeBack f_X0_lay f_X10_undo
  match d, h1, e1, e2 with
  | 0, _, e1, e2 =>
    simp +decide (disch := omega) only [gl_e, iI_lit, iI_neg, iI_add, iI_sub, iI_mul, gk_t, b_some, bz0, bz1, pI_row, pI_snd, pA_row, pA_snd, pL_fst, pL_row, pB_fst, pB_row, upd_at, ↓reduceIte, Int.reduceToNat, Nat.reduceEqDiff, iI_lt, iI_le, iI_eq, iI_inb, iI_nat, iI_nz, e1, e2]
    exact ⟨_, _, _, rfl, rfl, hR⟩
  | d + 1, h1, e1, e2 =>
    obtain ⟨g1, g2, p, w, g3, g4, g5, g6, g7, g8, g9, g10⟩ := hc d (by omega)
    have ho : okW n p w := ⟨g3, g4, g5⟩
    have hpl := plc_lt hn ho
    rw [plc_i] at g8
    have l0 : ¬ ((plc p w : Nat) : Int) < 0 := by omega
    have l1 : ¬ 40 ≤ ((plc p w : Nat) : Int) := by omega
    have c1 : (0 : Int) < ((d + 1 : Nat) : Int) := by omega
    have c2 : ¬ ((d + 1 : Nat) : Int) = 0 := by omega
    have z : ((d + 1 : Nat) : Int) - 1 = (d : Int) := by omega
    have t0 : (4 * (d : Int)).toNat = 4 * d := by omega
    have t1 : (4 * (d : Int) + 1).toNat = 4 * d + 1 := by omega
    have t2 : (4 * (d : Int) + 2).toNat = 4 * d + 2 := by omega
    simp +decide (disch := omega) only [gl_e, iI_lit, iI_neg, iI_add, iI_sub, iI_mul, gk_t, b_some, bz0, bz1, pI_row, pI_snd, pA_row, pA_snd, pL_fst, pL_row, pB_fst, pB_row, upd_at, ↓reduceIte, Int.reduceToNat, Nat.reduceEqDiff, iI_lt, iI_le, iI_eq, iI_inb, iI_nat, iI_nz, e1, e2, c1, c2, z, Int.toNat_natCast, g8, l0, l1, t0, t1, t2, g6, g7, s_bec hn ho]
    have e35 : (bec (pI m 0 35 (iI d)) p w (m.1 21 (4 * d + 2))).1 0 35 = iI d := by
      rw [(bec_off _ p w _).1 0 (Or.inl rfl)]
      rfl
    rw [e35]
    refine ⟨_, _, _, rfl, rfl, Rel1_ch hR (fun c h1 h2 h3 h4 h5 => ?_) rfl (fun c h1 h2 h3 h4 h5 h6 h7 => ?_) (fun j h1 h2 => ?_) ?_ (fun n2 hP2 hC2 => ?_)⟩
    · simp +decide (disch := omega) only [pI_off]
    · rw [(bec_off _ p w _).1 c (by omega), pI_off h1]
    · rw [(bec_off _ p w _).1 0 (by omega)]
      show upd (m.1 0) 35 (iI d) j = m.1 0 j
      rw [upd_ne h2]
    · rw [(bec_off _ p w _).2]
      rfl
    · have en : n2 = n := by
        have q := hP.2.1.symm.trans hP2.2.1
        rw [iI_eq (by omega) (by omega) (by omega) (by have := hP2.1; omega)] at q
        omega
      subst en
      constructor
      · have h := RP_upd (m := pI m 0 35 (iI d)) hP ho (v := m.1 21 (4 * d + 2)) g9
        rw [(bec_off _ p w _).1 0 (Or.inl rfl)] at h
        rw [← g1] at h ⊢
        exact h
      · refine ⟨d, c, by omega, h2, rfl, ?_, e3, ?_, fun i hi => ?_⟩
        · rw [(bec_off _ p w _).1 0 (Or.inl rfl)]; rfl
        · rw [(bec_off _ p w _).1 0 (Or.inl rfl)]; exact e4
        · rw [(bec_off _ p w _).1 21 (Or.inr (by decide))]
          exact hc i hi
