/-! ===== law ===== -/
def lwX (c j : Nat) : Bool := c == 9 || c == 10 || (c == 7 && 5 ≤ j && j ≤ 9)
def lwM (c j : Nat) : Bool := (7 ≤ c && c ≤ 14) || (c == 0 && (j == 6 || j == 8 || j == 9 || (14 ≤ j && j ≤ 17)))
theorem lwX_f {c : Nat} (h : c ≤ 6 ∨ c = 8 ∨ 11 ≤ c) (j : Nat) : lwX c j = false := by
  unfold lwX
  simp
  omega
theorem lwM_f {c : Nat} (h : (1 ≤ c ∧ c ≤ 6) ∨ 15 ≤ c) (j : Nat) : lwM c j = false := by
  unfold lwM
  simp
  omega
theorem lwX_of {x y : gS} (h : Ch pcX x y) : Ch lwX x y := Ch_mo h (fun c j hd => by
  unfold lwX at hd
  unfold pcX
  simp at hd ⊢
  omega)
theorem lwM_of {m w : gS} (h : Ch pcL m w) : Ch lwM m w := Ch_mo h (fun c j hd => by
  unfold lwM at hd
  unfold pcL
  simp at hd ⊢
  omega)
theorem Rel1_lw {L : LawT} {x m y k : gS} (hR : Rel1 L x m) (hx : Ch lwX x y) (hm : Ch lwM m k) (e1 : y.1 7 9 = iI 0) (e2 : k.1 0 6 = iI 0) (hL : L (y.1 7 6) (y.1 10) (k.1 0 8) (k.1 0 9) (k.1 7) (k.1 8) (k.1 9) (k.1 10)) : Rel1 L y k := by
  obtain ⟨⟨n, nb, hP, hC, hT, hD, hI, hK, hS⟩, _⟩ := hR
  have X : ∀ c, (c ≤ 6 ∨ c = 8 ∨ 11 ≤ c) → y.1 c = x.1 c := fun c h => Ch_row hx (lwX_f h)
  have M : ∀ c, ((1 ≤ c ∧ c ≤ 6) ∨ 15 ≤ c) → k.1 c = m.1 c := fun c h => Ch_row hm (lwM_f h)
  have Z : ∀ j, lwM 0 j = false → k.1 0 j = m.1 0 j := fun j h => hm.2 0 j h
  refine ⟨⟨n, nb, ?_, ?_, ?_, ?_, ?_, ?_, ?_⟩, hL⟩
  · rw [X 1 (by omega), X 2 (by omega), Z 0 rfl, M 1 (by omega), M 2 (by omega), M 3 (by omega), M 4 (by omega), M 5 (by omega)]
    exact hP
  · rw [X 3 (by omega), X 4 (by omega), X 5 (by omega), X 6 (by omega), Z 34 rfl, Z 35 rfl, M 21 (by omega)]
    exact hC
  · exact ⟨0, by omega, e1, e2, fun i hi => absurd hi (by omega)⟩
  · rw [X 37 (by omega), X 38 (by omega), Z 24 rfl, Z 25 rfl, M 17 (by omega), M 18 (by omega)]
    exact hD
  · rw [X 0 (by omega), X 39 (by omega), X 40 (by omega), Z 28 rfl, Z 29 rfl, Z 30 rfl, Z 31 rfl, M 19 (by omega), M 20 (by omega)]
    exact hI
  · rw [X 41 (by omega), X 42 (by omega), X 43 (by omega), Z 37 rfl, Z 39 rfl, M 22 (by omega), M 23 (by omega)]
    exact hK
  · rw [M 24 (by omega), M 25 (by omega), hm.1, hx.1]
    exact RSs_x hS (fun c h1 h2 => X c (by omega))
def c79 (c _j : Nat) : Bool := c == 7 || c == 8 || c == 9
def c10 (c _j : Nat) : Bool := c == 10
theorem w_l99 {σ0 : gS} {K : Nat} (hK : K ≤ 60) (e : σ0.1 0 9 = iI K) : ∀ (r k f : Nat) (σ : gS), k + r = K → r ≤ f → Ch c79 σ0 σ → (∀ q, q < k → σ.1 7 q = σ0.1 11 q ∧ σ.1 8 q = σ0.1 12 q ∧ σ.1 9 q = σ0.1 13 q) → ∃ τ, f_X10_law_99 (f + 1) (iI k) σ = f_X10_law_151 gN (iI 0) τ ∧ Ch c79 σ0 τ ∧ ∀ q, q < K → τ.1 7 q = σ0.1 11 q ∧ τ.1 8 q = σ0.1 12 q ∧ τ.1 9 q = σ0.1 13 q := by
  intro r
  induction r with
  | zero =>
    intro k f σ hk hf hc hq
    have e2 : σ.1 0 9 = iI K := (hc.2 0 9 rfl).trans e
    have g : (K : Int) ≤ (k : Int) := by omega
    refine ⟨σ, ?_, hc, fun q h => hq q (by omega)⟩
    rw [f_X10_law_99]
    simp +decide (maxSteps := 2000000) (disch := omega) only [↓gl_p, ↓bs_p, iI_lit, iI_neg, iI_add, iI_sub, iI_mul, gk_p, bs_p, bz0, bz1, pI_row, pI_snd, pA_row, pA_snd, pL_fst, pL_row, pB_fst, pB_row, upd_at, ↓reduceIte, Int.reduceToNat, Nat.reduceEqDiff, iI_lt, iI_le, iI_eq, iI_inb, iI_nat, iI_nz, e2, g]
  | succ r ih =>
    intro k f σ hk hf hc hq
    obtain ⟨f, rfl⟩ : ∃ q, f = q + 1 := ⟨f - 1, by omega⟩
    have e2 : σ.1 0 9 = iI K := (hc.2 0 9 rfl).trans e
    have g : ¬ (K : Int) ≤ (k : Int) := by omega
    have r11 : σ.1 11 k = σ0.1 11 k := hc.2 11 k rfl
    have r12 : σ.1 12 k = σ0.1 12 k := hc.2 12 k rfl
    have r13 : σ.1 13 k = σ0.1 13 k := hc.2 13 k rfl
    have k2 := ih (k + 1) f (pI (pI (pI σ 7 k (σ0.1 11 k)) 8 k (σ0.1 12 k)) 9 k (σ0.1 13 k)) (by omega) (by omega) (Ch_pI (Ch_pI (Ch_pI hc rfl) rfl) rfl) (fun q h => by
      show upd (σ.1 7) k _ q = _ ∧ upd (σ.1 8) k _ q = _ ∧ upd (σ.1 9) k _ q = _
      rw [upd_at, upd_at, upd_at]
      by_cases c : q = k
      · rw [if_pos c, if_pos c, if_pos c, c]
        exact ⟨rfl, rfl, rfl⟩
      · rw [if_neg c, if_neg c, if_neg c]
        exact hq q (by omega))
    obtain ⟨τ, t1, t2⟩ := k2
    refine ⟨τ, ?_, t2⟩
    rw [f_X10_law_99]
    simp +decide (maxSteps := 2000000) (disch := omega) only [↓gl_p, ↓bs_p, iI_lit, iI_neg, iI_add, iI_sub, iI_mul, gk_p, bs_p, bz0, bz1, pI_row, pI_snd, pA_row, pA_snd, pL_fst, pL_row, pB_fst, pB_row, upd_at, ↓reduceIte, Int.reduceToNat, Nat.reduceEqDiff, iI_lt, iI_le, iI_eq, iI_inb, iI_nat, iI_nz, e2, g, Int.toNat_natCast, r11, r12, r13]
    exact t1
theorem w_l151 {σ0 : gS} {K : Nat} (hK : K ≤ 120) (e : σ0.1 0 16 = iI K) : ∀ (r k f : Nat) (σ : gS), k + r = K → r ≤ f → Ch c10 σ0 σ → (∀ q, q < k → σ.1 10 q = σ0.1 14 q) → ∃ τ, f_X10_law_151 (f + 1) (iI k) σ = some (iI 1, τ) ∧ Ch c10 σ0 τ ∧ ∀ q, q < K → τ.1 10 q = σ0.1 14 q := by
  intro r
  induction r with
  | zero =>
    intro k f σ hk hf hc hq
    have e2 : σ.1 0 16 = iI K := (hc.2 0 16 rfl).trans e
    have g : (K : Int) ≤ (k : Int) := by omega
    refine ⟨σ, ?_, hc, fun q h => hq q (by omega)⟩
    rw [f_X10_law_151]
    simp +decide (maxSteps := 2000000) (disch := omega) only [↓gl_p, ↓bs_p, iI_lit, iI_neg, iI_add, iI_sub, iI_mul, gk_p, bs_p, bz0, bz1, pI_row, pI_snd, pA_row, pA_snd, pL_fst, pL_row, pB_fst, pB_row, upd_at, ↓reduceIte, Int.reduceToNat, Nat.reduceEqDiff, iI_lt, iI_le, iI_eq, iI_inb, iI_nat, iI_nz, e2, g]
  | succ r ih =>
    intro k f σ hk hf hc hq
    obtain ⟨f, rfl⟩ : ∃ q, f = q + 1 := ⟨f - 1, by omega⟩
    have e2 : σ.1 0 16 = iI K := (hc.2 0 16 rfl).trans e
    have g : ¬ (K : Int) ≤ (k : Int) := by omega
    have r14 : σ.1 14 k = σ0.1 14 k := hc.2 14 k rfl
    have k2 := ih (k + 1) f (pI σ 10 k (σ0.1 14 k)) (by omega) (by omega) (Ch_pI hc rfl) (fun q h => by
      show upd (σ.1 10) k _ q = _
      rw [upd_at]
      by_cases c : q = k
      · rw [if_pos c, c]
      · rw [if_neg c]
        exact hq q (by omega))
    obtain ⟨τ, t1, t2⟩ := k2
    refine ⟨τ, ?_, t2⟩
    rw [f_X10_law_151]
    simp +decide (maxSteps := 2000000) (disch := omega) only [↓gl_p, ↓bs_p, iI_lit, iI_neg, iI_add, iI_sub, iI_mul, gk_p, bs_p, bz0, bz1, pI_row, pI_snd, pA_row, pA_snd, pL_fst, pL_row, pB_fst, pB_row, upd_at, ↓reduceIte, Int.reduceToNat, Nat.reduceEqDiff, iI_lt, iI_le, iI_eq, iI_inb, iI_nat, iI_nz, e2, g, Int.toNat_natCast, r14]
    exact t1
theorem LNS_c {K : Nat} {ds ts : List Nat} {A S E A2 S2 E2 : Nat → Int32} {ps cs : Nat → Nat} (h : LNS K ds ts A S E ps cs) (h1 : ∀ k, k < K → A2 k = A k ∧ S2 k = S k ∧ E2 k = E k) : LNS K ds ts A2 S2 E2 ps cs := by
  obtain ⟨p1, p2, p3, p4, p5⟩ := h
  refine ⟨p1, p2, p3, p4, fun k hk => ?_⟩
  obtain ⟨te2, bo2, q1, q2, q3, q4, q5, q6, q7⟩ := p5 k hk
  obtain ⟨a1, a2, a3⟩ := h1 k hk
  exact ⟨te2, bo2, q1, q2, q3, a1.trans q4, a2.trans q5, a3.trans q6, q7⟩
theorem cp256 : cpok 0 0 256 256 256 = true := by decide
theorem cpy256 {f g : Nat → Int32} {i : Nat} (hi : i < 256) : va_cpy f g 0 0 256 i = f i := by
  unfold va_cpy
  rw [if_pos (by omega)]
  congr 1
  omega
theorem Ch_pA10 {x y : gS} {f : Nat → Int32} (h : Ch lwX x y) : Ch lwX x (pA y 10 f) := by
  refine ⟨h.1, fun c j hd => ?_⟩
  by_cases e : c = 10
  · rw [e] at hd
    exact absurd hd (show ¬ lwX 10 j = false from fun q => Bool.noConfusion q)
  · rw [pA_off e]
    exact h.2 c j hd
theorem e_law : EQ_law (Rel1 LW) := by
  intro x m hR
  obtain ⟨⟨n, nb, hP, hC, hT, hD, hI, hK, hS⟩, hL⟩ := id hR
  obtain ⟨a, ha, e1, e2, htt⟩ := id hT
  have tb : ∀ i, i < a → (x.1 8 i).toNatClampNeg ≤ 255 ∧ x.1 8 i = iI ((x.1 8 i).toNatClampNeg : Nat) := fun i hi => by
    obtain ⟨_, b, hb, e⟩ := htt i hi
    rw [e, iI_nat (by omega) (by omega), Int.toNat_natCast]
    exact ⟨hb, rfl⟩
  have TPa : TP a (fun i => (x.1 8 i).toNatClampNeg) := ⟨ha, fun i hi => (tb i hi).1⟩
  have xs : XS a (fun i => (x.1 8 i).toNatClampNeg) 0 [] (pI (pI (pI x 7 7 (iI 0)) 7 5 (iI 0)) 7 8 (iI 0)) := ⟨⟨e1, fun k hk => (tb k hk).2⟩, rfl, rfl, rfl, fun k hk => absurd hk (by simp)⟩
  have ms : MS a (fun i => (x.1 8 i).toNatClampNeg) 0 0 [] (pI (pI (pI (pI m 0 14 (iI 0)) 0 15 (iI 0)) 0 16 (iI 0)) 0 17 (iI 0)) := ⟨⟨e2, fun k hk => ((htt k hk).1).trans (tb k hk).2⟩, rfl, rfl, rfl, fun k hk => absurd hk (by simp)⟩
  have hl : LNS 0 [] [] ((pI (pI (pI (pI m 0 14 (iI 0)) 0 15 (iI 0)) 0 16 (iI 0)) 0 17 (iI 0)).1 11) ((pI (pI (pI (pI m 0 14 (iI 0)) 0 15 (iI 0)) 0 16 (iI 0)) 0 17 (iI 0)).1 12) ((pI (pI (pI (pI m 0 14 (iI 0)) 0 15 (iI 0)) 0 16 (iI 0)) 0 17 (iI 0)).1 13) (fun _ => 0) (fun _ => 0) := ⟨rfl, rfl, rfl, rfl, fun k hk => absurd hk (by omega)⟩
  have cx : Ch pcX x (pI (pI (pI x 7 7 (iI 0)) 7 5 (iI 0)) 7 8 (iI 0)) := Ch_pI (Ch_pI (Ch_pI (Ch_refl _ _) rfl) rfl) rfl
  have cm : Ch pcL m (pI (pI (pI (pI m 0 14 (iI 0)) 0 15 (iI 0)) 0 16 (iI 0)) 0 17 (iI 0)) := Ch_pI (Ch_pI (Ch_pI (Ch_pI (Ch_refl _ _) rfl) rfl) rfl) rfl
  have k := Tx_sim TPa (a + 1) a (by omega) 0 0 999999 999999 [] [] _ _ _ _ (by omega) (by omega) (by omega) (by simp) (by simp) (by omega) cx cm xs ms rfl hl
  rw [← gN_s] at k
  obtain ⟨y, w, g1, g2, g3⟩ := k
  have hX : f_X9_law x = ((f_X4_readText_17 gN (iI ((0 : Nat) : Int)) (pI (pI (pI x 7 7 (iI 0)) 7 5 (iI 0)) 7 8 (iI 0))).bind fun q1 => (if 0 ≤ q1.1 then f_X4_adopt_33 q1.1 q1.2 else gk (cpok 0 0 256 256 256) (gl (pA q1.2 10 (va_cpy (q1.2.1 9) (q1.2.1 10) (0 : Int32).toNatClampNeg (0 : Int32).toNatClampNeg (256 : Int32).toNatClampNeg)) fun s2 => gl (pI s2 7 6 (s2.1 7 5)) fun s3 => f_X4_adopt_33 q1.1 s3))).bind fun q1 => (if 0 ≤ q1.1 then some (((-100) - q1.1), q1.2) else some (1, q1.2)) := by
    unfold f_X9_law f_X4_adopt f_X4_readText
    generalize gN = N
    rfl
  have hM : f_X10_law m = ((f_X10_isLine (pI (pI (pI (pI m 0 14 (iI 0)) 0 15 (iI 0)) 0 16 (iI 0)) 0 17 (iI 0))).bind fun q => f_X10_law_25 gN q.1 q.2) := by
    unfold f_X10_law
    generalize gN = N
    rfl
  rcases g3 with ⟨j, g4, g5, g6, g7⟩ | ⟨g5, g6, K, ds, ts, ps, cs, k1, k2, k3, k4, k5, k6, k7, k8, k9⟩
  · have z : (0 : Int32) ≤ iI (j : Int) := by
      show iI 0 ≤ iI (j : Int)
      rw [iI_le (by omega) (by omega) (by omega) (by omega)]
      omega
    have nn : (-100 : Int32) - iI (j : Int) = iI (-100 - (j : Int)) := by
      rw [show (-100 : Int32) = iI (-100) by decide, iI_sub]
    refine ⟨iI (-100 - j), pI y 7 9 (iI 0), pI w 0 6 (iI 0), ?_, ?_, Rel1_lw hR (Ch_pI (lwX_of g1) rfl) (Ch_pI (lwM_of g2) rfl) rfl rfl ?_⟩
    · rw [hX, g5, b_some, if_pos z]
      unfold f_X4_adopt_33
      rw [gl_e, b_some, if_pos z]
      show some ((-100) - iI (j : Int), pI y 7 9 (iI 0)) = _
      rw [nn]
    · rw [hM, g6]
      unfold f_X10_law_66
      rw [gl_e, if_pos (show iI 0 = 0 from rfl)]
      show some ((-100) - w.1 0 14, pI w 0 6 (iI 0)) = _
      rw [g7, nn]
    · have q1 := g1.2 7 6 rfl
      have q2 : y.1 10 = x.1 10 := Ch_row g1 (fun j => rfl)
      have q3 := g2.2 0 8 rfl
      have q4 := g2.2 0 9 rfl
      have q5 : w.1 7 = m.1 7 := Ch_row g2 (fun j => rfl)
      have q6 : w.1 8 = m.1 8 := Ch_row g2 (fun j => rfl)
      have q7 : w.1 9 = m.1 9 := Ch_row g2 (fun j => rfl)
      have q8 : w.1 10 = m.1 10 := Ch_row g2 (fun j => rfl)
      show LW (y.1 7 6) (y.1 10) (w.1 0 8) (w.1 0 9) (w.1 7) (w.1 8) (w.1 9) (w.1 10)
      rw [q1, q2, q3, q4, q5, q6, q7, q8]
      exact hL
  · have z : ¬ (0 : Int32) ≤ iI (-1) := by decide
    obtain ⟨τ, t1, t2, t3⟩ := w_l99 (σ0 := pI (pI (pI w 0 6 (iI 0)) 0 8 (iI 1)) 0 9 (iI K)) k2 rfl K 0 999999 _ (by omega) (by omega) (Ch_refl _ _) (fun q hq => absurd hq (by omega))
    have u16 : τ.1 0 16 = iI ts.length := (t2.2 0 16 rfl).trans k7.1
    obtain ⟨υ, v1, v2, v3⟩ := w_l151 (σ0 := τ) k5 u16 ts.length 0 999999 _ (by omega) (by omega) (Ch_refl _ _) (fun q hq => absurd hq (by omega))
    refine ⟨iI 1, pI (pI (pA y 10 (va_cpy (y.1 9) (y.1 10) 0 0 256)) 7 6 (iI ds.length)) 7 9 (iI 0), υ, ?_, ?_, Rel1_lw hR (Ch_pI (Ch_pI (Ch_pA10 (lwX_of g1)) rfl) rfl) ?_ rfl ?_ ?_⟩
    · rw [hX, g5, b_some, if_neg z, cp256, gk_t]
      unfold f_X4_adopt_33
      rw [gl_e, gl_e, gl_e, b_some, if_neg z]
      show some (iI 1, pI (pI (pA y 10 (va_cpy (y.1 9) (y.1 10) 0 0 256)) 7 6 (y.1 7 5)) 7 9 (iI 0)) = _
      rw [k6.1]
    · rw [hM, g6]
      unfold f_X10_law_66
      rw [gl_e, if_neg (show ¬ iI 1 = 0 from n10)]
      show f_X10_law_99 gN (iI 0) (pI (pI (pI w 0 6 (iI 0)) 0 8 (iI 1)) 0 9 (w.1 0 17)) = _
      rw [k8, gN_s]
      exact t1.trans v1
    · have h1 : Ch lwM m (pI (pI (pI w 0 6 (iI 0)) 0 8 (iI 1)) 0 9 (iI K)) := Ch_pI (Ch_pI (Ch_pI (lwM_of g2) rfl) rfl) rfl
      have h2 : Ch lwM _ τ := Ch_mo t2 (fun c j hd => by
        unfold lwM at hd
        unfold c79
        simp at hd ⊢
        omega)
      have h3 : Ch lwM _ υ := Ch_mo v2 (fun c j hd => by
        unfold lwM at hd
        unfold c10
        simp at hd ⊢
        omega)
      exact Ch_tr h1 (Ch_tr h2 h3)
    · exact (v2.2 0 6 rfl).trans (t2.2 0 6 rfl)
    · refine Or.inr ⟨(v2.2 0 8 rfl).trans (t2.2 0 8 rfl), K, ds, ts, ps, cs, k1, k2, k3, k4, k5, rfl, (v2.2 0 9 rfl).trans (t2.2 0 9 rfl), fun k hk => ?_, fun k hk => ?_, LNS_c k9 (fun k hk => ?_)⟩
      · show va_cpy (y.1 9) (y.1 10) 0 0 256 k = _
        rw [cpy256 (by omega)]
        exact k6.2 k hk
      · have h1 : τ.1 14 k = w.1 14 k := t2.2 14 k rfl
        rw [v3 k hk, h1]
        exact k7.2 k hk
      · obtain ⟨b1, b2, b3⟩ := t3 k hk
        exact ⟨(v2.2 7 k rfl).trans b1, (v2.2 8 k rfl).trans b2, (v2.2 9 k rfl).trans b3⟩
