/-! ===== nights by draws ===== -/
theorem iI_rem {a b : Nat} (h1 : a < 2147483648) (h2 : 0 < b) (h3 : b < 2147483648) : iI a - iI a / iI b * iI b = iI ((a % b : Nat) : Int) := by
  rw [iI_div (by omega) (by omega) (by omega) (by omega), iI_mul, iI_sub]
  congr 1
  rw [show ((a % b : Nat) : Int) = (a : Int) % (b : Int) from rfl, Int.emod_def, Int.mul_comm]
theorem jus8 (v : Int32) : ∃ u : Nat, u < 16777216 ∧ jushr v 8 = iI u := by
  refine ⟨(v.toUInt32 >>> 8).toNat, ?_, ?_⟩
  · rw [UInt32.toNat_shiftRight]
    have h := v.toUInt32.toNat_lt
    rw [show (8 : UInt32).toNat % 32 = 8 from rfl, Nat.shiftRight_eq_div_pow]
    omega
  · unfold jushr
    rw [show (8 : Int32).toUInt32 &&& Int32.toUInt32 31 = 8 by decide]
    generalize v.toUInt32 >>> 8 = w
    unfold iI
    apply Int32.toBitVec_inj.mp
    simp
def ps (n p st i : Nat) : Nat := (p + i * st) % n
theorem ps_s (n p st i : Nat) : ps n p st (i + 1) = (ps n p st i + st) % n := by
  unfold ps
  rw [Nat.mod_add_mod]
  congr 1
  rw [Nat.succ_mul]
  omega
theorem ps_lt {n : Nat} (hn : 0 < n) (p st i : Nat) : ps n p st i < n := Nat.mod_lt _ hn
/-- minutes through i more posts -/
def tw (td : Nat → Int32) (d : Int) (n p st : Nat) : Nat → Int
  | 0 => 0
  | i + 1 => tw td d n p st i + wy td (ps n p st i) (ps n p st (i + 1)) + d
theorem s_stand {x : gS} {d : Int} (hd : x.1 2 39 = iI d) : f_X8_stand x = some (iI d) := by
  unfold f_X8_stand
  simp +decide (maxSteps := 2000000) (disch := omega) only [↓gl_p, ↓bs_p, iI_lit, iI_neg, iI_add, iI_sub, iI_mul, gk_p, bs_p, bz0, bz1, pI_row, pI_snd, pA_row, pA_snd, pL_fst, pL_row, pB_fst, pB_row, upd_at, ↓reduceIte, Int.reduceToNat, Nat.reduceEqDiff, iI_lt, iI_le, iI_eq, iI_inb, iI_nat, iI_nz, hd]
theorem w_wt20 {x : gS} {n p st : Nat} {d : Int} {mn : Int32} {px py wo du wa : Nat → Int32} (h : RP n (x.1 1 1) (x.1 2) mn px py wo du wa) (hn : 0 < n) (hst : st ≤ 9) (hd : x.1 2 39 = iI d) : ∀ (r i f : Nat), i + 1 + r = n → r ≤ f → f_X8_wholeTurn_20 x (f + 1) (iI st) (iI (d + tw (x.1 2) d n p st i)) (iI (ps n p st i)) (iI (i + 1 : Nat)) = some (iI (d + tw (x.1 2) d n p st (n - 1))) := by
  have hn9 := h.1
  intro r
  induction r with
  | zero =>
    intro i f hi hf
    have e : n - 1 = i := by omega
    have g : (n : Int) ≤ ((i + 1 : Nat) : Int) := by omega
    unfold f_X8_wholeTurn_20
    simp +decide (maxSteps := 2000000) (disch := omega) only [↓gl_p, ↓bs_p, iI_lit, iI_neg, iI_add, iI_sub, iI_mul, gk_p, bs_p, bz0, bz1, pI_row, pI_snd, pA_row, pA_snd, pL_fst, pL_row, pB_fst, pB_row, upd_at, ↓reduceIte, Int.reduceToNat, Nat.reduceEqDiff, iI_lt, iI_le, iI_eq, iI_inb, iI_nat, iI_nz, h.2.1, g, e]
  | succ r ih =>
    intro i f hi hf
    obtain ⟨f2, rfl⟩ : ∃ f2, f = f2 + 1 := ⟨f - 1, by omega⟩
    have g : ¬ (n : Int) ≤ ((i + 1 : Nat) : Int) := by omega
    have hl := ps_lt hn p st i
    have hl2 := ps_lt hn p st (i + 1)
    have er : iI (ps n p st i) + iI st - (iI (ps n p st i) + iI st) / iI n * iI n = iI (ps n p st (i + 1)) := by
      rw [ps_s, iI_add, show ((ps n p st i : Nat) : Int) + (st : Int) = ((ps n p st i + st : Nat) : Int) from rfl, iI_rem (by omega) hn (by omega)]
    unfold f_X8_wholeTurn_20
    rw [h.2.1, er]
    have w1 := s_wyX h (Or.inl hl) (Or.inl hl2)
    simp +decide (maxSteps := 2000000) (disch := omega) only [↓gl_p, ↓bs_p, iI_lit, iI_neg, iI_add, iI_sub, iI_mul, gk_p, bs_p, bz0, bz1, pI_row, pI_snd, pA_row, pA_snd, pL_fst, pL_row, pB_fst, pB_row, upd_at, ↓reduceIte, Int.reduceToNat, Nat.reduceEqDiff, iI_lt, iI_le, iI_eq, iI_inb, iI_nat, iI_nz, g, w1, s_stand hd]
    have e2 : d + tw (x.1 2) d n p st i + (wy (x.1 2) (ps n p st i) (ps n p st (i + 1)) + d) = d + tw (x.1 2) d n p st (i + 1) := by
      show _ = d + (tw (x.1 2) d n p st i + wy (x.1 2) (ps n p st i) (ps n p st (i + 1)) + d)
      omega
    rw [e2, show ((i + 1 : Nat) : Int) + 1 = ((i + 1 + 1 : Nat) : Int) from rfl]
    exact ih (i + 1) f2 (by omega) (by omega)
theorem s_wt {x : gS} {n p st : Nat} {d : Int} {mn : Int32} {px py wo du wa : Nat → Int32} (h : RP n (x.1 1 1) (x.1 2) mn px py wo du wa) (hn : 0 < n) (hp : p < n) (hst : st ≤ 9) (hd : x.1 2 39 = iI d) : f_X8_wholeTurn x (iI p) (iI st) = some (iI (d + tw (x.1 2) d n p st (n - 1))) := by
  have hn9 := h.1
  have g : ¬ (n : Int) = 0 := by omega
  have e0 : ps n p st 0 = p := by
    unfold ps
    rw [Nat.zero_mul, Nat.add_zero, Nat.mod_eq_of_lt hp]
  have w := w_wt20 (p := p) h hn hst hd (n - 1) 0 999999 (by omega) (by omega)
  rw [e0] at w
  unfold f_X8_wholeTurn
  simp +decide (maxSteps := 2000000) (disch := omega) only [↓gl_p, ↓bs_p, iI_lit, iI_neg, iI_add, iI_sub, iI_mul, gk_p, bs_p, bz0, bz1, pI_row, pI_snd, pA_row, pA_snd, pL_fst, pL_row, pB_fst, pB_row, upd_at, ↓reduceIte, Int.reduceToNat, Nat.reduceEqDiff, iI_lt, iI_le, iI_eq, iI_inb, iI_nat, iI_nz, h.2.1, g, s_stand hd]
  have e1 : d + tw (x.1 2) d n p st 0 = d := Int.add_zero d
  rw [e1] at w
  exact w
theorem w_dr131 {m : gS} {K : Int32 → Int32 → Int32 → Int32 → Int32 → Int32 → Option Int32} {K2 : Int32 → Int32 → Int32 → Int32 → Int32 → Int32 → Int32 → Int32 → Int32 → Option Int32} {n p st : Nat} {d : Int} {sz : Int32} {td : Nat → Int32} (h : RP n sz td (m.1 0 0) (m.1 1) (m.1 2) (m.1 3) (m.1 4) (m.1 5)) (hn : 0 < n) (hst : st ≤ 9) (hd : m.1 5 3 = iI d) (a b c s g v k : Int32) (T : Int) : ∀ (r i f : Nat), i + 1 + r = n → r ≤ f → f_X10_drawn_131 m K K2 (f + 1) a b c s g v (iI (T + tw td d n p st i)) (iI (ps n p st i)) k (iI (ps n p st (i + 1))) (iI st) (iI (i + 1 : Nat)) = K2 a b c s g v (iI (T + tw td d n p st (n - 1))) (iI (ps n p st (n - 1))) (k + iI 1) := by
  have hn9 := h.1
  intro r
  induction r with
  | zero =>
    intro i f hi hf
    have e : n - 1 = i := by omega
    have g : (n : Int) ≤ ((i + 1 : Nat) : Int) := by omega
    unfold f_X10_drawn_131
    simp +decide (maxSteps := 2000000) (disch := omega) only [↓gl_p, ↓bs_p, iI_lit, iI_neg, iI_add, iI_sub, iI_mul, gk_p, bs_p, bz0, bz1, pI_row, pI_snd, pA_row, pA_snd, pL_fst, pL_row, pB_fst, pB_row, upd_at, ↓reduceIte, Int.reduceToNat, Nat.reduceEqDiff, iI_lt, iI_le, iI_eq, iI_inb, iI_nat, iI_nz, h.2.2.1, g, e]
  | succ r ih =>
    intro i f hi hf
    obtain ⟨f2, rfl⟩ : ∃ f2, f = f2 + 1 := ⟨f - 1, by omega⟩
    have g : ¬ (n : Int) ≤ ((i + 1 : Nat) : Int) := by omega
    have hl := ps_lt hn p st i
    have hl2 := ps_lt hn p st (i + 1)
    have er : iI (ps n p st (i + 1)) + iI st - (iI (ps n p st (i + 1)) + iI st) / iI n * iI n = iI (ps n p st (i + 1 + 1)) := by
      rw [ps_s n p st (i + 1), iI_add, show ((ps n p st (i + 1) : Nat) : Int) + (st : Int) = ((ps n p st (i + 1) + st : Nat) : Int) from rfl, iI_rem (by omega) hn (by omega)]
    have w1 := s_wyM h (Or.inl hl) (Or.inl hl2)
    rw [show mP (ps n p st i) = ((ps n p st i : Nat) : Int) from if_neg (by omega), show mP (ps n p st (i + 1)) = ((ps n p st (i + 1) : Nat) : Int) from if_neg (by omega)] at w1
    unfold f_X10_drawn_131
    rw [h.2.2.1, er, w1]
    simp +decide (maxSteps := 2000000) (disch := omega) only [↓gl_p, ↓bs_p, iI_lit, iI_neg, iI_add, iI_sub, iI_mul, gk_p, bs_p, bz0, bz1, pI_row, pI_snd, pA_row, pA_snd, pL_fst, pL_row, pB_fst, pB_row, upd_at, ↓reduceIte, Int.reduceToNat, Nat.reduceEqDiff, iI_lt, iI_le, iI_eq, iI_inb, iI_nat, iI_nz, g, hd]
    have e2 : T + tw td d n p st i + (wy td (ps n p st i) (ps n p st (i + 1)) + d) = T + tw td d n p st (i + 1) := by
      show _ = T + (tw td d n p st i + wy td (ps n p st i) (ps n p st (i + 1)) + d)
      omega
    rw [e2, show ((i + 1 : Nat) : Int) + 1 = ((i + 1 + 1 : Nat) : Int) from rfl]
    exact ih (i + 1) f2 (by omega) (by omega)
theorem s_dr131 {m : gS} {K : Int32 → Int32 → Int32 → Int32 → Int32 → Int32 → Option Int32} {K2 : Int32 → Int32 → Int32 → Int32 → Int32 → Int32 → Int32 → Int32 → Int32 → Option Int32} {n p st at_ : Nat} {d : Int} {sz : Int32} {td : Nat → Int32} (h : RP n sz td (m.1 0 0) (m.1 1) (m.1 2) (m.1 3) (m.1 4) (m.1 5)) (hn : 0 < n) (hp : p < n) (hat : okP n at_) (hst : st ≤ 9) (hd : m.1 5 3 = iI d) (a b c s g v k : Int32) (T : Int) : f_X10_drawn_131 m K K2 gN a b c s g v (iI T) (iI (mP at_)) k (iI p) (iI st) (iI 0) = K2 a b c s g v (iI (T + (wy td at_ p + (d + tw td d n p st (n - 1))))) (iI (ps n p st (n - 1))) (k + iI 1) := by
  have hn9 := h.1
  have g0 : ¬ (n : Int) ≤ 0 := by omega
  have e0 : ps n p st 0 = p := by
    unfold ps
    rw [Nat.zero_mul, Nat.add_zero, Nat.mod_eq_of_lt hp]
  have er : iI p + iI st - (iI p + iI st) / iI n * iI n = iI (ps n p st (0 + 1)) := by
    rw [ps_s n p st 0, e0, iI_add, show ((p : Nat) : Int) + (st : Int) = ((p + st : Nat) : Int) from rfl, iI_rem (by omega) hn (by omega)]
  have w1 := s_wyM h hat (Or.inl hp)
  rw [show mP p = ((p : Nat) : Int) from if_neg (by omega)] at w1
  rw [gN_s, f_X10_drawn_131]
  rw [h.2.2.1, er, w1]
  simp +decide (maxSteps := 2000000) (disch := omega) only [↓gl_p, ↓bs_p, iI_lit, iI_neg, iI_add, iI_sub, iI_mul, gk_p, bs_p, bz0, bz1, pI_row, pI_snd, pA_row, pA_snd, pL_fst, pL_row, pB_fst, pB_row, upd_at, ↓reduceIte, Int.reduceToNat, Nat.reduceEqDiff, iI_lt, iI_le, iI_eq, iI_inb, iI_nat, iI_nz, g0, hd]
  have w := w_dr131 (K := K) (K2 := K2) (p := p) h hn hst hd a b c s g v k (T + (wy td at_ p + d)) (n - 1) 0 999998 (by omega) (by omega)
  rw [e0] at w
  have e1 : T + (wy td at_ p + d) + tw td d n p st 0 = T + (wy td at_ p + d) := Int.add_zero _
  rw [e1] at w
  have e2 : T + (wy td at_ p + d) + tw td d n p st (n - 1) = T + (wy td at_ p + (d + tw td d n p st (n - 1))) := by omega
  rw [e2] at w
  exact w
theorem w_rounds {x m : gS} {n : Nat} {d : Int} (h : RP n (x.1 1 1) (x.1 2) (m.1 0 0) (m.1 1) (m.1 2) (m.1 3) (m.1 4) (m.1 5)) (hn : 0 < n) (hd : x.1 2 39 = iI d) {K : Int32 → Int32 → Int32 → Int32 → Int32 → Int32 → Int32 → Option Int32} {K2 : Int32 → Int32 → Int32 → Int32 → Int32 → Int32 → Option Int32} {w N R nm : Int} (hR : nm - nm / 10 * 10 = R) (hnm : 0 ≤ nm) (hnm2 : nm < 2147483648) (s g v : Int32) (hK : ∀ z s2 g2, ∃ r, K (iI w) (iI N) (iI R) z s2 g2 (v + iI 1) = some r ∧ K2 (iI nm) (iI w) z s2 g2 (v + iI 1) = some r) : ∀ (r i f f2 at_ : Nat) (z : Int32) (T : Int), (i : Int) + r = R → r ≤ f → r ≤ f2 → okP n at_ → ∃ q, f_X9_drawn_85 x K (f + 1) (iI w) (iI N) (iI R) z s g v (iI at_) (iI T) (iI i) = some q ∧ f_X10_drawn_72 m K2 (f2 + 1) (iI nm) (iI w) z s g v (iI T) (iI (mP at_)) (iI i) = some q := by
  have hn9 := h.1
  have hd2 : m.1 5 3 = iI d := h.2.2.2.2.1.2.2.2.trans hd
  intro r
  induction r with
  | zero =>
    intro i f f2 at_ z T hi hf hf2 hat
    have g1 : R ≤ (i : Int) := by omega
    obtain ⟨q, k1, k2⟩ := hK z (s + iI T) (jmax g (iI T))
    refine ⟨q, ?_, ?_⟩
    · rw [f_X9_drawn_85]
      simp +decide (maxSteps := 2000000) (disch := omega) only [↓gl_p, ↓bs_p, iI_lit, iI_neg, iI_add, iI_sub, iI_mul, gk_p, bs_p, bz0, bz1, pI_row, pI_snd, pA_row, pA_snd, pL_fst, pL_row, pB_fst, pB_row, upd_at, ↓reduceIte, Int.reduceToNat, Nat.reduceEqDiff, iI_lt, iI_le, iI_eq, iI_inb, iI_nat, iI_nz, g1]
      exact k1
    · rw [f_X10_drawn_72]
      simp +decide (maxSteps := 2000000) (disch := omega) only [↓gl_p, ↓bs_p, iI_lit, iI_neg, iI_add, iI_sub, iI_mul, gk_p, bs_p, bz0, bz1, pI_row, pI_snd, pA_row, pA_snd, pL_fst, pL_row, pB_fst, pB_row, upd_at, ↓reduceIte, Int.reduceToNat, Nat.reduceEqDiff, iI_lt, iI_le, iI_eq, iI_inb, iI_nat, iI_nz, g1, iI_div, hR]
      exact k2
  | succ r ih =>
    intro i f f2 at_ z T hi hf hf2 hat
    obtain ⟨f, rfl⟩ : ∃ k, f = k + 1 := ⟨f - 1, by omega⟩
    obtain ⟨f2, rfl⟩ : ∃ k, f2 = k + 1 := ⟨f2 - 1, by omega⟩
    have g1 : ¬ R ≤ (i : Int) := by omega
    have i1 : -2147483648 ≤ R := by omega
    have i2 : R < 2147483648 := by omega
    rw [f_X9_drawn_85, f_X10_drawn_72]
    rw [h.2.1, h.2.2.1]
    generalize ez : z * 1103515245 + 12345 = z2
    obtain ⟨u, hu, eu⟩ := jus8 z2
    have hun : u % n < n := Nat.mod_lt _ hn
    have er : iI u - iI u / iI n * iI n = iI ((u % n : Nat) : Int) := iI_rem (by omega) hn (by omega)
    have cz : (n : Int) ≠ 0 := by omega
    have wx := s_wyX h hat (Or.inl hun)
    have fin : ∀ st : Nat, (st = 1 ∨ st = n - 1) → ∃ q, f_X9_drawn_143 x K (f_X9_drawn_85 x K (f + 1)) (iI w) (iI N) (iI R) z2 s g v (iI at_) (iI T) (iI i) (iI ((u % n : Nat) : Int)) (iI st) = some q ∧ f_X10_drawn_131 m K2 (f_X10_drawn_72 m K2 (f2 + 1)) gN (iI nm) (iI w) z2 s g v (iI T) (iI (mP at_)) (iI i) (iI ((u % n : Nat) : Int)) (iI st) (iI 0) = some q := by
      intro st hst
      have hst9 : st ≤ 9 := by omega
      rw [s_dr131 h hn hun hat hst9 hd2]
      have e3 : ps n (u % n) st (n - 1) < n := ps_lt hn _ _ _
      obtain ⟨q, k1, k2⟩ := ih (i + 1) f f2 (ps n (u % n) st (n - 1)) z2 (T + (wy (x.1 2) at_ (u % n) + (d + tw (x.1 2) d n (u % n) st (n - 1)))) (by omega) (by omega) (by omega) (Or.inl e3)
      refine ⟨q, ?_, ?_⟩
      · unfold f_X9_drawn_143
        rw [wx, s_wt h hn hun hst9 hd, h.2.1]
        have hb : st * (n - 1) ≤ 81 := by
          have := Nat.mul_le_mul hst9 (by omega : n - 1 ≤ 9)
          omega
        have e4 : iI ((u % n : Nat) : Int) + iI st * (iI n - iI 1) - (iI ((u % n : Nat) : Int) + iI st * (iI n - iI 1)) / iI n * iI n = iI (ps n (u % n) st (n - 1) : Nat) := by
          rw [iI_sub, show (n : Int) - 1 = ((n - 1 : Nat) : Int) by omega, iI_mul, iI_add, show ((u % n : Nat) : Int) + (st : Int) * ((n - 1 : Nat) : Int) = ((u % n + st * (n - 1) : Nat) : Int) from rfl, iI_rem (by omega) hn (by omega)]
          unfold ps
          rw [Nat.mul_comm st]
        have l1 : (1 : Int32) = iI 1 := rfl
        rw [l1]
        simp only [bs_p, gl_p, e4, iI_nz cz (by omega) (by omega), gk_p, iI_add]
        exact k1
      · rw [show iI i + iI 1 = iI ((i + 1 : Nat) : Int) from iI_add _ _]
        have e5 : mP (ps n (u % n) st (n - 1)) = ((ps n (u % n) st (n - 1) : Nat) : Int) := if_neg (by omega)
        rw [e5] at k2
        exact k2
    have e8 : nz 10 = true := rfl
    have en : nz (iI n) = true := iI_nz cz (by omega) (by omega)
    have c10 : iI nm - iI nm / 10 * 10 = iI R := by
      rw [show (10 : Int32) = iI 10 from rfl, iI_div (by omega) (by omega) (by omega) (by omega), iI_mul, iI_sub, hR]
    have cl : ¬ iI R ≤ iI i := by
      rw [iI_le i1 i2 (by omega) (by omega)]
      exact g1
    rw [c10, e8]
    simp only [gl_p, gk_p, ez, eu, er, en, cl, if_false]
    by_cases cb : jushr z2 16 &&& 1 = 1
    · simp only [cb, if_true]
      rw [show iI n - 1 = iI ((n - 1 : Nat) : Int) by
        rw [show (1 : Int32) = iI 1 from rfl, iI_sub]
        congr 1
        omega]
      exact fin (n - 1) (Or.inr rfl)
    · simp only [cb, if_false]
      exact fin 1 (Or.inl rfl)
theorem w_nights {x m : gS} {n : Nat} {d : Int} (h : RP n (x.1 1 1) (x.1 2) (m.1 0 0) (m.1 1) (m.1 2) (m.1 3) (m.1 4) (m.1 5)) (hn : 0 < n) (hd : x.1 2 39 = iI d) {w N R nm : Int} (w1 : -2147483648 ≤ w) (w2 : w < 2147483648) (hN : nm / 10 = N) (hR : nm - nm / 10 * 10 = R) (hnm : 0 ≤ nm) (hnm2 : nm < 2147483648) : ∀ (r v f f2 : Nat) (z s g : Int32), (v : Int) + r = N → r ≤ f → r ≤ f2 → ∃ q, f_X9_drawn_68 x (f + 1) (iI w) (iI N) (iI R) z s g (iI v) = some q ∧ f_X10_drawn_47 m (f2 + 1) (iI nm) (iI w) z s g (iI v) = some q := by
  have hn9 := h.1
  intro r
  induction r with
  | zero =>
    intro v f f2 z s g hv hf hf2
    have g1 : N ≤ (v : Int) := by omega
    rw [f_X9_drawn_68, f_X10_drawn_47]
    unfold f_X10_drawn_210
    simp +decide (maxSteps := 2000000) (disch := omega) only [↓gl_p, ↓bs_p, iI_lit, iI_neg, iI_add, iI_sub, iI_mul, gk_p, bs_p, bz0, bz1, pI_row, pI_snd, pA_row, pA_snd, pL_fst, pL_row, pB_fst, pB_row, upd_at, ↓reduceIte, Int.reduceToNat, Nat.reduceEqDiff, iI_lt, iI_le, iI_eq, iI_inb, iI_nat, iI_nz, g1, iI_div, hN]
    by_cases c : w = 0
    · simp only [c, if_true]
      exact ⟨_, rfl, rfl⟩
    · simp only [c, if_false]
      exact ⟨_, rfl, rfl⟩
  | succ r ih =>
    intro v f f2 z s g hv hf hf2
    obtain ⟨f, rfl⟩ : ∃ k, f = k + 1 := ⟨f - 1, by omega⟩
    obtain ⟨f2, rfl⟩ : ∃ k, f2 = k + 1 := ⟨f2 - 1, by omega⟩
    have g1 : ¬ N ≤ (v : Int) := by omega
    have g2 : ¬ (n : Int) ≤ 0 := by omega
    rw [f_X9_drawn_68, f_X10_drawn_47]
    simp +decide (maxSteps := 2000000) (disch := omega) only [↓gl_p, ↓bs_p, iI_lit, iI_neg, iI_add, iI_sub, iI_mul, gk_p, bs_p, bz0, bz1, pI_row, pI_snd, pA_row, pA_snd, pL_fst, pL_row, pB_fst, pB_row, upd_at, ↓reduceIte, Int.reduceToNat, Nat.reduceEqDiff, iI_lt, iI_le, iI_eq, iI_inb, iI_nat, iI_nz, g1, g2, iI_div, hN, h.2.2.1]
    have hK : ∀ z s2 g2, ∃ r, f_X9_drawn_68 x (f + 1) (iI w) (iI N) (iI R) z s2 g2 (iI v + iI 1) = some r ∧ f_X10_drawn_47 m (f2 + 1) (iI nm) (iI w) z s2 g2 (iI v + iI 1) = some r := by
      intro z s2 g2
      rw [show iI v + iI 1 = iI ((v + 1 : Nat) : Int) from iI_add _ _]
      exact ih (v + 1) f f2 z s2 g2 (by omega) (by omega) (by omega)
    obtain ⟨q, k1, k2⟩ := w_rounds (K := f_X9_drawn_68 x (f + 1)) (K2 := f_X10_drawn_47 m (f2 + 1)) h hn hd hR hnm hnm2 s g (iI v) hK R.toNat 0 999999 999999 9 z 0 (by omega) (by omega) (by omega) (Or.inr rfl)
    exact ⟨q, k1, k2⟩
theorem s_eith (σ : gS) {a : Int} (h1 : -2147483648 ≤ a) (h2 : a < 2147483648) : f_X9_isEither σ (iI a) = some (bI (0 ≤ a ∧ a ≤ 1)) := by
  unfold f_X9_isEither bI
  simp +decide (maxSteps := 2000000) (disch := omega) only [↓gl_p, ↓bs_p, iI_lit, iI_neg, iI_add, iI_sub, iI_mul, gk_p, bs_p, bz0, bz1, pI_row, pI_snd, pA_row, pA_snd, pL_fst, pL_row, pB_fst, pB_row, upd_at, ↓reduceIte, Int.reduceToNat, Nat.reduceEqDiff, iI_lt, iI_le, iI_eq, iI_inb, iI_nat, iI_nz]
  (repeat' split) <;> first | rfl | (exfalso; omega)
theorem e_drawn (L : LawT) : EQ_drawn (Rel1 L) := by
  intro x m z a2 a3 hR
  obtain ⟨nm, rfl, hm1, hm2⟩ := iI_of a2
  obtain ⟨w, rfl, hw1, hw2⟩ := iI_of a3
  obtain ⟨⟨n, nb, hP, hC, hT, hD, hI, hK, hS⟩, hL⟩ := id hR
  obtain ⟨d, hd, -, -⟩ := s_sd hP
  have hn := hP.1
  unfold f_X9_drawn f_X10_drawn
  by_cases c0 : nm < 0
  · have e10 : nz 10 = true := rfl
    have cl : iI nm < 0 := by
      rw [show (0 : Int32) = iI 0 from rfl, iI_lt hm1 hm2 (by omega) (by omega)]
      exact c0
    rw [e10]
    simp only [gl_p, gk_p, cl, if_true]
    exact ⟨_, rfl, rfl, hR⟩
  by_cases c1 : 1 ≤ nm / 10 ∧ nm / 10 ≤ 30
  rotate_left
  · by_cases c2 : nm / 10 < 1
    · simp +decide (maxSteps := 2000000) (disch := omega) only [↓gl_p, ↓bs_p, iI_lit, iI_neg, iI_add, iI_sub, iI_mul, gk_p, bs_p, bz0, bz1, pI_row, pI_snd, pA_row, pA_snd, pL_fst, pL_row, pB_fst, pB_row, upd_at, ↓reduceIte, Int.reduceToNat, Nat.reduceEqDiff, iI_lt, iI_le, iI_eq, iI_inb, iI_nat, iI_nz, c0, c1, c2, iI_div, s_wi, bI_0, not_false_eq_true]
      exact ⟨_, rfl, rfl, hR⟩
    · have c3 : 30 < nm / 10 := by omega
      simp +decide (maxSteps := 2000000) (disch := omega) only [↓gl_p, ↓bs_p, iI_lit, iI_neg, iI_add, iI_sub, iI_mul, gk_p, bs_p, bz0, bz1, pI_row, pI_snd, pA_row, pA_snd, pL_fst, pL_row, pB_fst, pB_row, upd_at, ↓reduceIte, Int.reduceToNat, Nat.reduceEqDiff, iI_lt, iI_le, iI_eq, iI_inb, iI_nat, iI_nz, c0, c1, c2, c3, iI_div, s_wi, bI_0, not_false_eq_true]
      exact ⟨_, rfl, rfl, hR⟩
  have c2 : ¬ nm / 10 < 1 := by omega
  have c3 : ¬ 30 < nm / 10 := by omega
  by_cases c4 : nm - nm / 10 * 10 < 1
  · have c5 : nm - nm / 10 * 10 = 0 := by omega
    simp +decide (maxSteps := 2000000) (disch := omega) only [↓gl_p, ↓bs_p, iI_lit, iI_neg, iI_add, iI_sub, iI_mul, gk_p, bs_p, bz0, bz1, pI_row, pI_snd, pA_row, pA_snd, pL_fst, pL_row, pB_fst, pB_row, upd_at, ↓reduceIte, Int.reduceToNat, Nat.reduceEqDiff, iI_lt, iI_le, iI_eq, iI_inb, iI_nat, iI_nz, c0, c1, c2, c3, c5, iI_div, s_wi, bI_0, not_true_eq_false, and_self]
    exact ⟨_, rfl, rfl, hR⟩
  have c5 : ¬ nm - nm / 10 * 10 = 0 := by omega
  by_cases c6 : 0 ≤ w ∧ w ≤ 1
  rotate_left
  · simp +decide (maxSteps := 2000000) (disch := omega) only [↓gl_p, ↓bs_p, iI_lit, iI_neg, iI_add, iI_sub, iI_mul, gk_p, bs_p, bz0, bz1, pI_row, pI_snd, pA_row, pA_snd, pL_fst, pL_row, pB_fst, pB_row, upd_at, ↓reduceIte, Int.reduceToNat, Nat.reduceEqDiff, iI_lt, iI_le, iI_eq, iI_inb, iI_nat, iI_nz, c0, c1, c2, c3, c4, c5, c6, iI_div, s_wi, bI_0, not_true_eq_false, not_false_eq_true, and_self, s_eith]
    exact ⟨_, rfl, rfl, hR⟩
  by_cases c7 : n = 0
  · subst c7
    have c8 : ¬ nm / 10 ≤ 0 := by omega
    simp +decide (maxSteps := 2000000) (disch := omega) only [↓gl_p, ↓bs_p, iI_lit, iI_neg, iI_add, iI_sub, iI_mul, gk_p, bs_p, bz0, bz1, pI_row, pI_snd, pA_row, pA_snd, pL_fst, pL_row, pB_fst, pB_row, upd_at, ↓reduceIte, Int.reduceToNat, Nat.reduceEqDiff, iI_lt, iI_le, iI_eq, iI_inb, iI_nat, iI_nz, c0, c1, c2, c3, c4, c5, c6, iI_div, s_wi, bI_0, not_true_eq_false, and_self, s_eith, hP.2.1]
    rw [gN_s, f_X10_drawn_47]
    unfold f_X10_drawn_210
    simp +decide (maxSteps := 2000000) (disch := omega) only [↓gl_p, ↓bs_p, iI_lit, iI_neg, iI_add, iI_sub, iI_mul, gk_p, bs_p, bz0, bz1, pI_row, pI_snd, pA_row, pA_snd, pL_fst, pL_row, pB_fst, pB_row, upd_at, ↓reduceIte, Int.reduceToNat, Nat.reduceEqDiff, iI_lt, iI_le, iI_eq, iI_inb, iI_nat, iI_nz, c8, iI_div, hP.2.2.1]
    refine ⟨_, rfl, ?_, hR⟩
    split <;> rfl
  have c8 : ¬ (n : Int) = 0 := by omega
  simp +decide (maxSteps := 2000000) (disch := omega) only [↓gl_p, ↓bs_p, iI_lit, iI_neg, iI_add, iI_sub, iI_mul, gk_p, bs_p, bz0, bz1, pI_row, pI_snd, pA_row, pA_snd, pL_fst, pL_row, pB_fst, pB_row, upd_at, ↓reduceIte, Int.reduceToNat, Nat.reduceEqDiff, iI_lt, iI_le, iI_eq, iI_inb, iI_nat, iI_nz, c0, c1, c2, c3, c4, c5, c6, c8, iI_div, s_wi, bI_0, not_true_eq_false, and_self, s_eith, hP.2.1]
  obtain ⟨q, k1, k2⟩ := w_nights hP (by omega) hd hw1 hw2 rfl rfl (by omega) hm2 (nm / 10).toNat 0 999999 999999 z (iI 0) (iI 0) (by omega) (by omega) (by omega)
  exact ⟨q, k1, k2, hR⟩
