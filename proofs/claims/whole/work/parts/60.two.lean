/-! ===== two ===== -/
def wmx (W : Nat → Int) : Nat → Int
  | 0 => -2
  | p + 1 => if wmx W p < W p then W p else wmx W p
def mmx (W : Nat → Int) : Nat → Int
  | 0 => 0
  | p + 1 => if mmx W p < W p then W p else mmx W p
theorem wmx_rg {W : Nat → Int} (h : ∀ p, -2 ≤ W p ∧ W p ≤ 1000 ∧ ¬ W p = -1) : ∀ n, -2 ≤ wmx W n ∧ wmx W n ≤ 1000 ∧ ¬ wmx W n = -1 := by
  intro n
  induction n with
  | zero =>
    show -2 ≤ (-2 : Int) ∧ (-2 : Int) ≤ 1000 ∧ ¬ (-2 : Int) = -1
    omega
  | succ n ih =>
    have := h n
    show -2 ≤ (if wmx W n < W n then W n else wmx W n) ∧ (if wmx W n < W n then W n else wmx W n) ≤ 1000 ∧ ¬ (if wmx W n < W n then W n else wmx W n) = -1
    split <;> omega
theorem wmx_ge {W : Nat → Int} : ∀ n p, p < n → W p ≤ wmx W n := by
  intro n
  induction n with
  | zero =>
    intro p h
    omega
  | succ n ih =>
    intro p h
    show W p ≤ (if wmx W n < W n then W n else wmx W n)
    by_cases e : p = n
    · rw [e]
      split <;> omega
    · have := ih p (by omega)
      split <;> omega
theorem wmx_in {W : Nat → Int} : ∀ n, wmx W n = -2 ∨ ∃ p, p < n ∧ wmx W n = W p := by
  intro n
  induction n with
  | zero => exact Or.inl rfl
  | succ n ih =>
    show (if wmx W n < W n then W n else wmx W n) = -2 ∨ ∃ p, p < n + 1 ∧ (if wmx W n < W n then W n else wmx W n) = W p
    by_cases c : wmx W n < W n
    · rw [if_pos c]
      exact Or.inr ⟨n, by omega, rfl⟩
    · rw [if_neg c]
      rcases ih with h | ⟨p, h1, h2⟩
      · exact Or.inl h
      · exact Or.inr ⟨p, by omega, h2⟩
theorem mmx_e {W : Nat → Int} : ∀ n, mmx W n = if wmx W n < 0 then 0 else wmx W n := by
  intro n
  induction n with
  | zero => rfl
  | succ n ih =>
    show (if mmx W n < W n then W n else mmx W n) = if (if wmx W n < W n then W n else wmx W n) < 0 then 0 else (if wmx W n < W n then W n else wmx W n)
    rw [ih]
    (repeat' split) <;> omega
/-- the first of the least ahead of i -/
def amn (W : Nat → Int) : Nat → Nat
  | 0 => 0
  | i + 1 => if W i < W (amn W i) then i else amn W i
theorem amn_lt {W : Nat → Int} : ∀ i, amn W i = 0 ∨ amn W i < i := by
  intro i
  induction i with
  | zero => exact Or.inl rfl
  | succ i ih =>
    show (if W i < W (amn W i) then i else amn W i) = 0 ∨ (if W i < W (amn W i) then i else amn W i) < i + 1
    split <;> omega
section
variable {w : Nat → Nat → Nat} {sd k D : Nat} {S : Nat → Nat} {m : gS}
theorem tws_p (hW : WK 4000 D w sd S k m) {p : Nat} (h : 0 < tws w sd S k D p 0) {o : Nat} (ho : o ≤ 99) : 0 ≤ tws w sd S k D p o := by
  unfold tws at h
  by_cases c : sg (mcn S (Tm w sd S k) k p 0 D) 1000 < 2
  · rw [if_pos c] at h
    omega
  · rw [if_neg c] at h
    obtain ⟨a, b, h1, h2, h3, h4⟩ := eMo_pos 1000 h
    have da : dn w sd S k p a = true := by
      rcases (evb_iff.mp h3).2 with q | q <;> exact q
    have db : dn w sd S k p b = true := by
      rcases (evb_iff.mp h4).2 with q | q <;> exact q
    obtain ⟨i, i1, i2, i3⟩ := dn_iff.mp da
    obtain ⟨j, j1, j2, j3⟩ := dn_iff.mp db
    have iD := WK_in hW i1 (by omega)
    have jD := WK_in hW j1 (by omega)
    have hij : i < j := by
      by_cases q : i < j
      · exact q
      · have := Tm_mono (w := w) (sd := sd) (S := S) (k := k) (show j ≤ i by omega)
        omega
    have t2 : 2 ≤ sg (mcn S (Tm w sd S k) k p o D) 1000 := (tot_2 D).mpr (Or.inr ⟨i, j, hij, jD, by
      by_cases q : a + o < 1000
      · exact Or.inr ⟨i2, by omega⟩
      · exact Or.inl ⟨i2, by omega, by omega⟩, by
      by_cases q : o ≤ b
      · exact Or.inl ⟨j2, by omega, by omega⟩
      · exact Or.inr ⟨j2, by omega⟩⟩)
    unfold tws
    rw [if_neg (by omega)]
    exact (eMo_rg 1000).1
theorem tws_n (hW : WK 4000 D w sd S k m) {p : Nat} (h : tws w sd S k D p 0 = -2) (o : Nat) : tws w sd S k D p o = -2 := by
  have none : ∀ i, i < D → S (i % k) = p → ¬ Tm w sd S k i < 1000 := fun i hi hs ht => by
    have t2 : 2 ≤ sg (mcn S (Tm w sd S k) k p 0 D) 1000 := (tot_2 D).mpr (Or.inl ⟨i, hi, ⟨hs, by omega, ht⟩, hs, by omega⟩)
    unfold tws at h
    rw [if_neg (by omega)] at h
    have := (eMo_rg (ev := evb (dn w sd S k p) 0) 1000).1
    omega
  have t2 : ¬ 2 ≤ sg (mcn S (Tm w sd S k) k p o D) 1000 := fun q => by
    rcases (tot_2 D).mp q with ⟨i, i1, i2, i3⟩ | ⟨i, j, h1, h2, h3, h4⟩
    · exact none i i1 i2.1 i2.2.2
    · rcases h3 with h3 | h3
      · exact none i (by omega) h3.1 h3.2.2
      · exact none i (by omega) h3.1 (by have := h3.2; omega)
  unfold tws
  rw [if_pos (by omega)]
/-- three kinds of rounds -/
theorem two_3 (hW : WK 4000 D w sd S k m) (n : Nat) : (∀ o, o < 100 → 0 ≤ wmx (fun p => tws w sd S k D p o) n) ∨ (wmx (fun p => tws w sd S k D p 0) n ≤ 0 ∧ ∀ o, o < 100 → wmx (fun p => tws w sd S k D p o) n = -2 ∨ (wmx (fun p => tws w sd S k D p 0) n = 0 ∧ 0 ≤ wmx (fun p => tws w sd S k D p o) n)) := by
  have rg : ∀ o, -2 ≤ wmx (fun p => tws w sd S k D p o) n ∧ wmx (fun p => tws w sd S k D p o) n ≤ 1000 ∧ ¬ wmx (fun p => tws w sd S k D p o) n = -1 := fun o => wmx_rg (fun p => tws_rg) n
  have r0 := rg 0
  by_cases c : 0 < wmx (fun p => tws w sd S k D p 0) n
  · left
    rcases wmx_in (W := fun p => tws w sd S k D p 0) n with h | ⟨p, h1, h2⟩
    · omega
    · intro o ho
      have q := tws_p hW (p := p) (by rw [h2] at c; exact c) (o := o) (by omega)
      have q2 : tws w sd S k D p o ≤ wmx (fun p => tws w sd S k D p o) n := wmx_ge (W := fun p => tws w sd S k D p o) n p h1
      omega
  · right
    refine ⟨by omega, fun o ho => ?_⟩
    by_cases c2 : wmx (fun p => tws w sd S k D p 0) n = 0
    · have r1 := rg o
      by_cases c3 : wmx (fun p => tws w sd S k D p o) n = -2
      · exact Or.inl c3
      · exact Or.inr ⟨c2, by omega⟩
    · have e0 : wmx (fun p => tws w sd S k D p 0) n = -2 := by omega
      left
      rcases wmx_in (W := fun p => tws w sd S k D p o) n with h | ⟨p, h1, h2⟩
      · exact h
      · have q2 : tws w sd S k D p 0 ≤ wmx (fun p => tws w sd S k D p 0) n := wmx_ge (W := fun p => tws w sd S k D p 0) n p h1
        have q3 := tws_rg (w := w) (sd := sd) (S := S) (k := k) (D := D) (p := p) (o := 0)
        rw [h2]
        exact tws_n hW (by omega) o
end
def b2C (c _j : Nat) : Bool := c == 45 || c == 32 || c == 33
def b3C (c _j : Nat) : Bool := c == 45
theorem b2_ga {x y : gS} (h : Ch gaC x y) : Ch b2C x y := Ch_mo h fun c j hd => by
  unfold b2C at hd
  unfold gaC
  simp at hd ⊢
  omega
theorem b2_3 {x y : gS} (h : Ch b3C x y) : Ch b2C x y := Ch_mo h fun c j hd => by
  unfold b2C at hd
  unfold b3C
  simp at hd ⊢
  omega
theorem sc_b2 {x y : gS} (h : Ch b2C x y) : Ch scX x y := Ch_mo h fun c j hd => by
  unfold scX at hd
  unfold b2C
  simp at hd ⊢
  omega
theorem w_bs2 : ∀ (r i f : Nat) (x σ : gS), i + r = 100 → r ≤ f → Ch b3C x σ → (∀ t, t < i → σ.1 45 t = iI (-2)) → ∃ τ, f_X9_bestSecond_2 (f + 1) (iI i) σ = f_X9_bestSecond_24 gN (iI 0) τ ∧ Ch b3C x τ ∧ ∀ t, t < 100 → τ.1 45 t = iI (-2) := by
  intro r
  induction r with
  | zero =>
    intro i f x σ hi hf hc ho
    have g : 99 < (i : Int) := by omega
    refine ⟨σ, ?_, hc, fun t ht => ho t (by omega)⟩
    rw [f_X9_bestSecond_2]
    simp +decide (maxSteps := 2000000) (disch := omega) only [↓gl_p, ↓bs_p, iI_lit, iI_neg, iI_add, iI_sub, iI_mul, gk_p, bs_p, bz0, bz1, pI_row, pI_snd, pA_row, pA_snd, pL_fst, pL_row, pB_fst, pB_row, upd_at, ↓reduceIte, Int.reduceToNat, Nat.reduceEqDiff, iI_lt, iI_le, iI_eq, iI_inb, iI_nat, iI_nz, g]
  | succ r ih =>
    intro i f x σ hi hf hc ho
    obtain ⟨f, rfl⟩ : ∃ q, f = q + 1 := ⟨f - 1, by omega⟩
    have g : ¬ 99 < (i : Int) := by omega
    obtain ⟨τ, a1, a2, a3⟩ := ih (i + 1) f x (pI σ 45 i (iI (-2))) (by omega) (by omega) (Ch_pI hc rfl) (fun t ht => by
      rw [pI_row, if_pos rfl, upd_at]
      by_cases e : t = i
      · rw [if_pos e]
      · rw [if_neg e]
        exact ho t (by omega))
    refine ⟨τ, ?_, a2, a3⟩
    rw [f_X9_bestSecond_2]
    simp +decide (maxSteps := 2000000) (disch := omega) only [↓gl_p, ↓bs_p, iI_lit, iI_neg, iI_add, iI_sub, iI_mul, gk_p, bs_p, bz0, bz1, pI_row, pI_snd, pA_row, pA_snd, pL_fst, pL_row, pB_fst, pB_row, upd_at, ↓reduceIte, Int.reduceToNat, Nat.reduceEqDiff, iI_lt, iI_le, iI_eq, iI_inb, iI_nat, iI_nz, g, Int.toNat_natCast]
    exact a1
theorem w_bs52 {K : Int32 → gS → Option (Int32 × gS)} {x : gS} {p : Nat} {W V : Nat → Int} (hp : p ≤ 9) (hV : ∀ o, -2 ≤ V o ∧ V o ≤ 1000) (hW : ∀ o, -2 ≤ W o ∧ W o ≤ 1000) (hx : ∀ o : Nat, o ≤ 99 → ∀ σ : gS, σ.1 32 = x.1 32 → σ.1 33 = x.1 33 → f_X6_widestOfTwo σ (iI o) (iI 999) = some (iI (W o))) : ∀ (r o f : Nat) (σ : gS), o + r = 100 → r ≤ f → Ch b3C x σ → (∀ t, t < 100 → σ.1 45 t = iI (if t < o then (if V t < W t then W t else V t) else V t)) → ∃ τ, f_X9_bestSecond_52 K (f + 1) (iI p) (iI o) σ = K (iI (p + 1 : Nat)) τ ∧ Ch b3C x τ ∧ ∀ t, t < 100 → τ.1 45 t = iI (if V t < W t then W t else V t) := by
  intro r
  induction r with
  | zero =>
    intro o f σ hi hf hc ho
    have g : 99 < (o : Int) := by omega
    refine ⟨σ, ?_, hc, fun t ht => ?_⟩
    · rw [f_X9_bestSecond_52]
      simp +decide (maxSteps := 2000000) (disch := omega) only [↓gl_p, ↓bs_p, iI_lit, iI_neg, iI_add, iI_sub, iI_mul, gk_p, bs_p, bz0, bz1, pI_row, pI_snd, pA_row, pA_snd, pL_fst, pL_row, pB_fst, pB_row, upd_at, ↓reduceIte, Int.reduceToNat, Nat.reduceEqDiff, iI_lt, iI_le, iI_eq, iI_inb, iI_nat, iI_nz, g]
      rfl
    · rw [ho t ht, if_pos (show t < o by omega)]
  | succ r ih =>
    intro o f σ hi hf hc ho
    obtain ⟨f, rfl⟩ : ∃ q, f = q + 1 := ⟨f - 1, by omega⟩
    have g : ¬ 99 < (o : Int) := by omega
    have v := ho o (by omega)
    rw [if_neg (show ¬ o < o by omega)] at v
    have wv := hx o (by omega) σ (Ch_row hc (fun _ => rfl)) (Ch_row hc (fun _ => rfl))
    have h1 := hV o
    have h2 := hW o
    obtain ⟨τ, a1, a2, a3⟩ := ih (o + 1) f (pI σ 45 o (iI (if V o < W o then W o else V o))) (by omega) (by omega) (Ch_pI hc rfl) (fun t ht => by
      rw [pI_row, if_pos rfl, upd_at]
      by_cases e : t = o
      · rw [if_pos e, e, if_pos (show o < o + 1 by omega)]
      · rw [if_neg e, ho t ht]
        by_cases c : t < o
        · rw [if_pos c, if_pos (show t < o + 1 by omega)]
        · rw [if_neg c, if_neg (show ¬ t < o + 1 by omega)])
    refine ⟨τ, ?_, a2, a3⟩
    rw [f_X9_bestSecond_52]
    simp +decide (maxSteps := 2000000) (disch := omega) only [↓gl_p, ↓bs_p, iI_lit, iI_neg, iI_add, iI_sub, iI_mul, gk_p, bs_p, bz0, bz1, pI_row, pI_snd, pA_row, pA_snd, pL_fst, pL_row, pB_fst, pB_row, upd_at, ↓reduceIte, Int.reduceToNat, Nat.reduceEqDiff, iI_lt, iI_le, iI_eq, iI_inb, iI_nat, iI_nz, g, v, wv, jmax_i, Int.toNat_natCast]
    exact a1
theorem w_bs24 {y m : gS} {n k sd D : Nat} {w : Nat → Nat → Nat} {S : Nat → Nat} (hY : YD n w sd y) (hC : CO 26 n k w sd S y) (hW : WK 4000 D w sd S k m) : ∀ (r p f : Nat) (σ : gS), p + r = n → r ≤ f → Ch b2C y σ → (∀ o, o < 100 → σ.1 45 o = iI (wmx (fun q => tws w sd S k D q o) p)) → ∃ τ, f_X9_bestSecond_24 (f + 1) (iI p) σ = f_X9_bestSecond_100 gN (iI 0) (iI 1) τ ∧ Ch b2C y τ ∧ ∀ o, o < 100 → τ.1 45 o = iI (wmx (fun q => tws w sd S k D q o) n) := by
  have hn := hY.1
  intro r
  induction r with
  | zero =>
    intro p f σ hp hf hc ho
    have s1 : σ.1 1 1 = iI n := (hc.2 1 1 rfl).trans hY.2.2.1
    have g : (n : Int) ≤ (p : Int) := by omega
    refine ⟨σ, ?_, hc, by rw [show n = p by omega]; exact ho⟩
    rw [f_X9_bestSecond_24]
    simp +decide (maxSteps := 2000000) (disch := omega) only [↓gl_p, ↓bs_p, iI_lit, iI_neg, iI_add, iI_sub, iI_mul, gk_p, bs_p, bz0, bz1, pI_row, pI_snd, pA_row, pA_snd, pL_fst, pL_row, pB_fst, pB_row, upd_at, ↓reduceIte, Int.reduceToNat, Nat.reduceEqDiff, iI_lt, iI_le, iI_eq, iI_inb, iI_nat, iI_nz, s1, g]
  | succ r ih =>
    intro p f σ hp hf hc ho
    obtain ⟨f, rfl⟩ : ∃ q, f = q + 1 := ⟨f - 1, by omega⟩
    have sY := YD_ch hY hc (fun _ => rfl) (fun _ => rfl)
    have sC := CO_ch_26 hC hc (fun _ => rfl) (fun _ => rfl) (fun _ => rfl)
    have s1 := sY.2.2.1
    have g : ¬ (n : Int) ≤ (p : Int) := by omega
    obtain ⟨σ2, a1, a2, a3⟩ := s_twoX sY sC hW (p := p) (by omega)
    obtain ⟨σ3, b1, b2, b3⟩ := w_bs52 (K := f_X9_bestSecond_24 (f + 1)) (x := σ2) (p := p) (W := fun o => tws w sd S k D p o) (V := fun o => wmx (fun q => tws w sd S k D q o) p) (by omega) (fun o => ⟨(wmx_rg (fun p => tws_rg) p).1, (wmx_rg (fun p => tws_rg) p).2.1⟩) (fun o => ⟨tws_rg.1, tws_rg.2.1⟩) a3 100 0 999999 σ2 (by omega) (by omega) (Ch_refl _ _) (fun t ht => by
      rw [if_neg (show ¬ t < 0 by omega), a2.2 45 t rfl]
      exact ho t ht)
    obtain ⟨τ, c1, c2, c3⟩ := ih (p + 1) f σ3 (by omega) (by omega) (Ch_tr hc (Ch_tr (b2_ga a2) (b2_3 b2))) (fun o ho2 => b3 o ho2)
    refine ⟨τ, ?_, c2, c3⟩
    rw [f_X9_bestSecond_24]
    simp +decide (maxSteps := 2000000) (disch := omega) only [↓gl_p, ↓bs_p, iI_lit, iI_neg, iI_add, iI_sub, iI_mul, gk_p, bs_p, bz0, bz1, pI_row, pI_snd, pA_row, pA_snd, pL_fst, pL_row, pB_fst, pB_row, upd_at, ↓reduceIte, Int.reduceToNat, Nat.reduceEqDiff, iI_lt, iI_le, iI_eq, iI_inb, iI_nat, iI_nz, s1, g, a1]
    rw [show f_X9_bestSecond_52 (f_X9_bestSecond_24 (f + 1)) gN (iI p) (iI 0) σ2 = _ from b1]
    exact c1
theorem w_b100a {σ : gS} {W : Nat → Int} (hW : ∀ o, o < 100 → 0 ≤ W o ∧ W o ≤ 1000) (hs : ∀ o, o < 100 → σ.1 45 o = iI (W o)) : ∀ (r o f : Nat), o + 1 + r = 100 → r ≤ f → f_X9_bestSecond_100 (f + 1) (iI (amn W (o + 1) : Nat)) (iI (o + 1 : Nat)) σ = some (iI (amn W 100 : Nat), σ) := by
  intro r
  induction r with
  | zero =>
    intro o f ho hf
    rw [f_X9_bestSecond_100, show o + 1 = 100 by omega]
    simp +decide (maxSteps := 2000000) (disch := omega) only [↓gl_p, ↓bs_p, iI_lit, iI_neg, iI_add, iI_sub, iI_mul, gk_p, bs_p, bz0, bz1, pI_row, pI_snd, pA_row, pA_snd, pL_fst, pL_row, pB_fst, pB_row, upd_at, ↓reduceIte, Int.reduceToNat, Nat.reduceEqDiff, iI_lt, iI_le, iI_eq, iI_inb, iI_nat, iI_nz]
  | succ r ih =>
    intro o f ho hf
    obtain ⟨f, rfl⟩ : ∃ q, f = q + 1 := ⟨f - 1, by omega⟩
    have g : ¬ 99 < ((o + 1 : Nat) : Int) := by omega
    have al := amn_lt (W := W) (o + 1)
    have v := hs (o + 1) (by omega)
    have v2 := hs (amn W (o + 1)) (by omega)
    have h1 := hW (o + 1) (by omega)
    have h2 := hW (amn W (o + 1)) (by omega)
    have c1 : ¬ W (o + 1) = -2 := by omega
    have c2 : ¬ W (amn W (o + 1)) = -2 := by omega
    have k2 := ih (o + 1) f (by omega) (by omega)
    rw [f_X9_bestSecond_100]
    unfold f_X9_bestSecond_143
    by_cases c : W (o + 1) < W (amn W (o + 1))
    · have c3 : ¬ W (amn W (o + 1)) ≤ W (o + 1) := by omega
      rw [show amn W (o + 1 + 1) = o + 1 from if_pos c] at k2
      simp +decide (maxSteps := 2000000) (disch := omega) only [↓gl_p, ↓bs_p, iI_lit, iI_neg, iI_add, iI_sub, iI_mul, gk_p, bs_p, bz0, bz1, pI_row, pI_snd, pA_row, pA_snd, pL_fst, pL_row, pB_fst, pB_row, upd_at, ↓reduceIte, Int.reduceToNat, Nat.reduceEqDiff, iI_lt, iI_le, iI_eq, iI_inb, iI_nat, iI_nz, g, v, v2, c1, c2, c3, Int.toNat_natCast]
      exact k2
    · have c3 : W (amn W (o + 1)) ≤ W (o + 1) := by omega
      rw [show amn W (o + 1 + 1) = amn W (o + 1) from if_neg c] at k2
      simp +decide (maxSteps := 2000000) (disch := omega) only [↓gl_p, ↓bs_p, iI_lit, iI_neg, iI_add, iI_sub, iI_mul, gk_p, bs_p, bz0, bz1, pI_row, pI_snd, pA_row, pA_snd, pL_fst, pL_row, pB_fst, pB_row, upd_at, ↓reduceIte, Int.reduceToNat, Nat.reduceEqDiff, iI_lt, iI_le, iI_eq, iI_inb, iI_nat, iI_nz, g, v, v2, c1, c2, c3, Int.toNat_natCast]
      exact k2
theorem w_b100b {σ : gS} {W : Nat → Int} (hW : ∀ o, o < 100 → -2 ≤ W o ∧ W o ≤ 1000) (h3 : ∀ o, o < 100 → W o = -2 ∨ (W 0 = 0 ∧ 0 ≤ W o)) (hs : ∀ o, o < 100 → σ.1 45 o = iI (W o)) : ∀ (r o f : Nat), o + 1 + r = 100 → r ≤ f → f_X9_bestSecond_100 (f + 1) (iI 0) (iI (o + 1 : Nat)) σ = some (iI 0, σ) := by
  intro r
  induction r with
  | zero =>
    intro o f ho hf
    have g : 99 < ((o + 1 : Nat) : Int) := by omega
    rw [f_X9_bestSecond_100]
    simp +decide (maxSteps := 2000000) (disch := omega) only [↓gl_p, ↓bs_p, iI_lit, iI_neg, iI_add, iI_sub, iI_mul, gk_p, bs_p, bz0, bz1, pI_row, pI_snd, pA_row, pA_snd, pL_fst, pL_row, pB_fst, pB_row, upd_at, ↓reduceIte, Int.reduceToNat, Nat.reduceEqDiff, iI_lt, iI_le, iI_eq, iI_inb, iI_nat, iI_nz, g]
  | succ r ih =>
    intro o f ho hf
    obtain ⟨f, rfl⟩ : ∃ q, f = q + 1 := ⟨f - 1, by omega⟩
    have g : ¬ 99 < ((o + 1 : Nat) : Int) := by omega
    have v := hs (o + 1) (by omega)
    have v2 := hs 0 (by omega)
    have h1 := hW (o + 1) (by omega)
    have h2 := hW 0 (by omega)
    have k2 := ih (o + 1) f (by omega) (by omega)
    rw [f_X9_bestSecond_100]
    by_cases c : W (o + 1) = -2
    · simp +decide (maxSteps := 2000000) (disch := omega) only [↓gl_p, ↓bs_p, iI_lit, iI_neg, iI_add, iI_sub, iI_mul, gk_p, bs_p, bz0, bz1, pI_row, pI_snd, pA_row, pA_snd, pL_fst, pL_row, pB_fst, pB_row, upd_at, ↓reduceIte, Int.reduceToNat, Nat.reduceEqDiff, iI_lt, iI_le, iI_eq, iI_inb, iI_nat, iI_nz, g, v, eq_true c, Int.toNat_natCast]
      exact k2
    · have h4 := h3 (o + 1) (by omega)
      have c2 : ¬ W 0 = -2 := by omega
      have c3 : W 0 ≤ W (o + 1) := by omega
      simp +decide (maxSteps := 2000000) (disch := omega) only [↓gl_p, ↓bs_p, iI_lit, iI_neg, iI_add, iI_sub, iI_mul, gk_p, bs_p, bz0, bz1, pI_row, pI_snd, pA_row, pA_snd, pL_fst, pL_row, pB_fst, pB_row, upd_at, ↓reduceIte, Int.reduceToNat, Nat.reduceEqDiff, iI_lt, iI_le, iI_eq, iI_inb, iI_nat, iI_nz, g, v, v2, c, c2, c3, Int.toNat_natCast]
      exact k2
theorem WK_m2 {m τ : gS} {w : Nat → Nat → Nat} {sd k D high : Nat} {S : Nat → Nat} (hW : WK high D w sd S k m) (hc : Ch m2C m τ) : WK high D w sd S k τ := by
  obtain ⟨d1, d2, d3, d4⟩ := hW
  exact ⟨d1, (hc.2 0 46 rfl).trans d2, fun i hi => ⟨(hc.2 28 i rfl).trans (d3 i hi).1, (hc.2 29 i rfl).trans (d3 i hi).2.1, (d3 i hi).2.2⟩, d4⟩
theorem w_b18 {K : Int32 → Int32 → Int32 → gS → Option (Int32 × gS)} {m : gS} {n k sd D o : Nat} {w : Nat → Nat → Nat} {S : Nat → Nat} (hn : n ≤ 9) (hS : ∀ i, i < k → S i < n) (ho : o ≤ 99) (e0 : m.1 0 0 = iI n) (hW : WK 4000 D w sd S k m) {fo le : Int} (l1 : -1 ≤ le) (l2 : le ≤ 1000) : ∀ (r p f : Nat) (σ : gS), p + r = n → r ≤ f → Ch m2C m σ → ∃ τ, f_X10_bestTwo_18 K (f + 1) (iI fo) (iI le) (iI o) (iI (mmx (fun q => tws w sd S k D q o) p)) (iI p) σ = (if le < 0 ∨ mmx (fun q => tws w sd S k D q o) n < le then K (iI o) (iI (mmx (fun q => tws w sd S k D q o) n)) (iI (o + 1 : Nat)) τ else K (iI fo) (iI le) (iI (o + 1 : Nat)) τ) ∧ Ch m2C m τ := by
  have mr : ∀ p, 0 ≤ mmx (fun q => tws w sd S k D q o) p ∧ mmx (fun q => tws w sd S k D q o) p ≤ 1000 := fun p => by
    have h := wmx_rg (W := fun q => tws w sd S k D q o) (fun q => tws_rg) p
    rw [mmx_e]
    split <;> omega
  intro r
  induction r with
  | zero =>
    intro p f σ hp hf hc
    have s0 : σ.1 0 0 = iI n := (hc.2 0 0 rfl).trans e0
    have g : (n : Int) ≤ (p : Int) := by omega
    have mn := mr n
    refine ⟨σ, ?_, hc⟩
    rw [f_X10_bestTwo_18, show p = n by omega]
    unfold f_X10_bestTwo_60
    generalize mmx (fun q => tws w sd S k D q o) n = M at mn
    by_cases c1 : le < 0
    · rw [if_pos (show le < 0 ∨ M < le from Or.inl c1)]
      simp +decide (maxSteps := 2000000) (disch := omega) only [↓gl_p, ↓bs_p, iI_lit, iI_neg, iI_add, iI_sub, iI_mul, gk_p, bs_p, bz0, bz1, pI_row, pI_snd, pA_row, pA_snd, pL_fst, pL_row, pB_fst, pB_row, upd_at, ↓reduceIte, Int.reduceToNat, Nat.reduceEqDiff, iI_lt, iI_le, iI_eq, iI_inb, iI_nat, iI_nz, s0, Int.le_refl, c1]
      rfl
    · by_cases c2 : M < le
      · rw [if_pos (show le < 0 ∨ M < le from Or.inr c2)]
        simp +decide (maxSteps := 2000000) (disch := omega) only [↓gl_p, ↓bs_p, iI_lit, iI_neg, iI_add, iI_sub, iI_mul, gk_p, bs_p, bz0, bz1, pI_row, pI_snd, pA_row, pA_snd, pL_fst, pL_row, pB_fst, pB_row, upd_at, ↓reduceIte, Int.reduceToNat, Nat.reduceEqDiff, iI_lt, iI_le, iI_eq, iI_inb, iI_nat, iI_nz, s0, Int.le_refl, c1, c2]
        rfl
      · rw [if_neg (show ¬ (le < 0 ∨ M < le) by omega)]
        simp +decide (maxSteps := 2000000) (disch := omega) only [↓gl_p, ↓bs_p, iI_lit, iI_neg, iI_add, iI_sub, iI_mul, gk_p, bs_p, bz0, bz1, pI_row, pI_snd, pA_row, pA_snd, pL_fst, pL_row, pB_fst, pB_row, upd_at, ↓reduceIte, Int.reduceToNat, Nat.reduceEqDiff, iI_lt, iI_le, iI_eq, iI_inb, iI_nat, iI_nz, s0, Int.le_refl, c1, c2]
        rfl
  | succ r ih =>
    intro p f σ hp hf hc
    obtain ⟨f, rfl⟩ : ∃ q, f = q + 1 := ⟨f - 1, by omega⟩
    have s0 : σ.1 0 0 = iI n := (hc.2 0 0 rfl).trans e0
    have g : ¬ (n : Int) ≤ (p : Int) := by omega
    obtain ⟨σ2, a1, a2⟩ := s_twoM hn hS (p := p) (o := o) (by omega) ho (WK_m2 hW hc)
    have mp := mr p
    have tr := tws_rg (w := w) (sd := sd) (S := S) (k := k) (D := D) (p := p) (o := o)
    obtain ⟨τ, b1, b2⟩ := ih (p + 1) f σ2 (by omega) (by omega) (Ch_tr hc a2)
    rw [show mmx (fun q => tws w sd S k D q o) (p + 1) = if mmx (fun q => tws w sd S k D q o) p < tws w sd S k D p o then tws w sd S k D p o else mmx (fun q => tws w sd S k D q o) p from rfl] at b1
    refine ⟨τ, ?_, b2⟩
    rw [f_X10_bestTwo_18]
    simp +decide (maxSteps := 2000000) (disch := omega) only [↓gl_p, ↓bs_p, iI_lit, iI_neg, iI_add, iI_sub, iI_mul, gk_p, bs_p, bz0, bz1, pI_row, pI_snd, pA_row, pA_snd, pL_fst, pL_row, pB_fst, pB_row, upd_at, ↓reduceIte, Int.reduceToNat, Nat.reduceEqDiff, iI_lt, iI_le, iI_eq, iI_inb, iI_nat, iI_nz, s0, g, a1, jmax_i]
    exact b1
theorem w_b6a {m : gS} {n k sd D : Nat} {w : Nat → Nat → Nat} {S : Nat → Nat} (hn : n ≤ 9) (hS : ∀ i, i < k → S i < n) (e0 : m.1 0 0 = iI n) (hW : WK 4000 D w sd S k m) (h0 : ∀ o, o < 100 → 0 ≤ wmx (fun p => tws w sd S k D p o) n) : ∀ (r o f : Nat) (σ : gS), o + 1 + r = 100 → r ≤ f → Ch m2C m σ → ∃ τ, f_X10_bestTwo_6 (f + 1) (iI (amn (fun o => wmx (fun p => tws w sd S k D p o) n) (o + 1) : Nat)) (iI (wmx (fun p => tws w sd S k D p (amn (fun o => wmx (fun p => tws w sd S k D p o) n) (o + 1))) n)) (iI (o + 1 : Nat)) σ = some (iI (amn (fun o => wmx (fun p => tws w sd S k D p o) n) 100 : Nat), τ) ∧ Ch m2C m τ := by
  intro r
  induction r with
  | zero =>
    intro o f σ ho hf hc
    refine ⟨σ, ?_, hc⟩
    rw [f_X10_bestTwo_6, show o + 1 = 100 by omega]
    simp +decide (maxSteps := 2000000) (disch := omega) only [↓gl_p, ↓bs_p, iI_lit, iI_neg, iI_add, iI_sub, iI_mul, gk_p, bs_p, bz0, bz1, pI_row, pI_snd, pA_row, pA_snd, pL_fst, pL_row, pB_fst, pB_row, upd_at, ↓reduceIte, Int.reduceToNat, Nat.reduceEqDiff, iI_lt, iI_le, iI_eq, iI_inb, iI_nat, iI_nz]
  | succ r ih =>
    intro o f σ ho hf hc
    obtain ⟨f, rfl⟩ : ∃ q, f = q + 1 := ⟨f - 1, by omega⟩
    have g : ¬ 100 ≤ ((o + 1 : Nat) : Int) := by omega
    have al := amn_lt (W := fun o => wmx (fun p => tws w sd S k D p o) n) (o + 1)
    have ea : amn (fun o => wmx (fun p => tws w sd S k D p o) n) (o + 1 + 1) = if wmx (fun p => tws w sd S k D p (o + 1)) n < wmx (fun p => tws w sd S k D p (amn (fun o => wmx (fun p => tws w sd S k D p o) n) (o + 1))) n then o + 1 else amn (fun o => wmx (fun p => tws w sd S k D p o) n) (o + 1) := rfl
    have ih2 := ih (o + 1) f
    rw [ea] at ih2
    generalize amn (fun o => wmx (fun p => tws w sd S k D p o) n) (o + 1) = a at al ih2
    have r1 := wmx_rg (W := fun p => tws w sd S k D p a) (fun q => tws_rg) n
    have h1 := h0 a (by omega)
    have h2 := h0 (o + 1) (by omega)
    have s0 : σ.1 0 0 = iI n := (hc.2 0 0 rfl).trans e0
    obtain ⟨σ2, b1, b2⟩ := w_b18 (K := f_X10_bestTwo_6 (f + 1)) (m := σ) hn hS (o := o + 1) (by omega) s0 (WK_m2 hW hc) (fo := (a : Int)) (le := wmx (fun p => tws w sd S k D p a) n) (by omega) r1.2.1 n 0 999999 σ (by omega) (by omega) (Ch_refl _ _)
    rw [mmx_e n, if_neg (show ¬ wmx (fun p => tws w sd S k D p (o + 1)) n < 0 by omega)] at b1
    obtain ⟨τ, c1, c2⟩ := ih2 σ2 (by omega) (by omega) (Ch_tr hc b2)
    refine ⟨τ, ?_, c2⟩
    rw [f_X10_bestTwo_6]
    simp +decide (maxSteps := 2000000) (disch := omega) only [↓gl_p, ↓bs_p, iI_lit, iI_neg, iI_add, iI_sub, iI_mul, gk_p, bs_p, bz0, bz1, pI_row, pI_snd, pA_row, pA_snd, pL_fst, pL_row, pB_fst, pB_row, upd_at, ↓reduceIte, Int.reduceToNat, Nat.reduceEqDiff, iI_lt, iI_le, iI_eq, iI_inb, iI_nat, iI_nz, g]
    rw [show f_X10_bestTwo_18 (f_X10_bestTwo_6 (f + 1)) gN (iI a) (iI (wmx (fun p => tws w sd S k D p a) n)) (iI ((o + 1 : Nat) : Int)) (iI 0) (iI 0) σ = _ from b1]
    by_cases c : wmx (fun p => tws w sd S k D p (o + 1)) n < wmx (fun p => tws w sd S k D p a) n
    · rw [if_pos c] at c1
      rw [if_pos (Or.inr c)]
      exact c1
    · rw [if_neg c] at c1
      rw [if_neg (show ¬ (wmx (fun p => tws w sd S k D p a) n < 0 ∨ wmx (fun p => tws w sd S k D p (o + 1)) n < wmx (fun p => tws w sd S k D p a) n) by omega)]
      exact c1
theorem w_b6b {m : gS} {n k sd D : Nat} {w : Nat → Nat → Nat} {S : Nat → Nat} (hn : n ≤ 9) (hS : ∀ i, i < k → S i < n) (e0 : m.1 0 0 = iI n) (hW : WK 4000 D w sd S k m) : ∀ (r o f : Nat) (σ : gS), o + 1 + r = 100 → r ≤ f → Ch m2C m σ → ∃ τ, f_X10_bestTwo_6 (f + 1) (iI 0) (iI 0) (iI (o + 1 : Nat)) σ = some (iI 0, τ) ∧ Ch m2C m τ := by
  intro r
  induction r with
  | zero =>
    intro o f σ ho hf hc
    have g : 100 ≤ ((o + 1 : Nat) : Int) := by omega
    refine ⟨σ, ?_, hc⟩
    rw [f_X10_bestTwo_6]
    simp +decide (maxSteps := 2000000) (disch := omega) only [↓gl_p, ↓bs_p, iI_lit, iI_neg, iI_add, iI_sub, iI_mul, gk_p, bs_p, bz0, bz1, pI_row, pI_snd, pA_row, pA_snd, pL_fst, pL_row, pB_fst, pB_row, upd_at, ↓reduceIte, Int.reduceToNat, Nat.reduceEqDiff, iI_lt, iI_le, iI_eq, iI_inb, iI_nat, iI_nz, g]
  | succ r ih =>
    intro o f σ ho hf hc
    obtain ⟨f, rfl⟩ : ∃ q, f = q + 1 := ⟨f - 1, by omega⟩
    have g : ¬ 100 ≤ ((o + 1 : Nat) : Int) := by omega
    have s0 : σ.1 0 0 = iI n := (hc.2 0 0 rfl).trans e0
    have mr : 0 ≤ mmx (fun q => tws w sd S k D q (o + 1)) n := by
      rw [mmx_e]
      split <;> omega
    obtain ⟨σ2, b1, b2⟩ := w_b18 (K := f_X10_bestTwo_6 (f + 1)) (m := σ) hn hS (o := o + 1) (by omega) s0 (WK_m2 hW hc) (fo := 0) (le := 0) (by omega) (by omega) n 0 999999 σ (by omega) (by omega) (Ch_refl _ _)
    rw [if_neg (show ¬ ((0 : Int) < 0 ∨ mmx (fun q => tws w sd S k D q (o + 1)) n < 0) by omega)] at b1
    obtain ⟨τ, c1, c2⟩ := ih (o + 1) f σ2 (by omega) (by omega) (Ch_tr hc b2)
    refine ⟨τ, ?_, c2⟩
    rw [f_X10_bestTwo_6]
    simp +decide (maxSteps := 2000000) (disch := omega) only [↓gl_p, ↓bs_p, iI_lit, iI_neg, iI_add, iI_sub, iI_mul, gk_p, bs_p, bz0, bz1, pI_row, pI_snd, pA_row, pA_snd, pL_fst, pL_row, pB_fst, pB_row, upd_at, ↓reduceIte, Int.reduceToNat, Nat.reduceEqDiff, iI_lt, iI_le, iI_eq, iI_inb, iI_nat, iI_nz, g]
    rw [show f_X10_bestTwo_18 (f_X10_bestTwo_6 (f + 1)) gN (iI 0) (iI 0) (iI ((o + 1 : Nat) : Int)) (iI 0) (iI 0) σ = _ from b1]
    exact c1
theorem sc_m2 {x y : gS} (h : Ch m2C x y) : Ch scM x y := Ch_mo h fun c j hd => by
  unfold scM at hd
  unfold m2C
  simp at hd ⊢
  omega
theorem s_best2 {y m : gS} {n k sd D : Nat} {w : Nat → Nat → Nat} {S : Nat → Nat} (hY : YD n w sd y) (hC : CO 26 n k w sd S y) (e0 : m.1 0 0 = iI n) (hW : WK 4000 D w sd S k m) : ∃ q y2 m2, f_X9_bestSecond y = some (q, y2) ∧ f_X10_bestTwo m = some (q, m2) ∧ Ch b2C y y2 ∧ Ch m2C m m2 := by
  have hn := hY.1
  have hS := hC.2.1
  obtain ⟨y1, a1, a2, a3⟩ := w_bs2 100 0 999999 y y (by omega) (by omega) (Ch_refl _ _) (fun t ht => absurd ht (by omega))
  have c1 := b2_3 a2
  obtain ⟨y2, b1, b2, b3⟩ := w_bs24 (YD_ch hY c1 (fun _ => rfl) (fun _ => rfl)) (CO_ch_26 hC c1 (fun _ => rfl) (fun _ => rfl) (fun _ => rfl)) hW n 0 999999 y1 (by omega) (by omega) (Ch_refl _ _) (fun o ho => a3 o ho)
  have rg : ∀ o, -2 ≤ wmx (fun p => tws w sd S k D p o) n ∧ wmx (fun p => tws w sd S k D p o) n ≤ 1000 ∧ ¬ wmx (fun p => tws w sd S k D p o) n = -1 := fun o => wmx_rg (fun p => tws_rg) n
  obtain ⟨m1, d1, d2⟩ := w_b18 (K := f_X10_bestTwo_6 999999) (m := m) hn hS (o := 0) (by omega) e0 hW (fo := 0) (le := -1) (by omega) (by omega) n 0 999999 m (by omega) (by omega) (Ch_refl _ _)
  rw [if_pos (show ((-1 : Int) < 0 ∨ mmx (fun q => tws w sd S k D q 0) n < -1) from Or.inl (by omega)), mmx_e n] at d1
  have e01 : m1.1 0 0 = iI n := (d2.2 0 0 rfl).trans e0
  have hx : f_X9_bestSecond y = f_X9_bestSecond_100 gN (iI 0) (iI 1) y2 := by
    unfold f_X9_bestSecond
    rw [show f_X9_bestSecond_2 gN 0 y = _ from a1]
    exact b1
  have hm : ∀ q τ, f_X10_bestTwo_6 999999 (iI ((0 : Nat) : Int)) (iI (if wmx (fun p => tws w sd S k D p 0) n < 0 then 0 else wmx (fun p => tws w sd S k D p 0) n)) (iI ((0 + 1 : Nat) : Int)) m1 = some (q, τ) → f_X10_bestTwo m = some (q, τ) := fun q τ h => by
    unfold f_X10_bestTwo
    rw [gN_s, f_X10_bestTwo_6]
    simp +decide (maxSteps := 2000000) (disch := omega) only [↓gl_p, ↓bs_p, iI_lit, iI_neg, iI_add, iI_sub, iI_mul, gk_p, bs_p, bz0, bz1, pI_row, pI_snd, pA_row, pA_snd, pL_fst, pL_row, pB_fst, pB_row, upd_at, ↓reduceIte, Int.reduceToNat, Nat.reduceEqDiff, iI_lt, iI_le, iI_eq, iI_inb, iI_nat, iI_nz]
    rw [show f_X10_bestTwo_18 (f_X10_bestTwo_6 999999) gN (iI 0) (iI (-1)) (iI 0) (iI 0) (iI 0) m = _ from d1]
    exact h
  have ea : amn (fun o => wmx (fun p => tws w sd S k D p o) n) (0 + 1) = 0 := by
    show (if _ < _ then 0 else 0) = 0
    split <;> rfl
  rcases two_3 hW n with h | ⟨h1, h2⟩
  · have k1 := w_b100a (W := fun o => wmx (fun p => tws w sd S k D p o) n) (fun o ho => ⟨h o ho, (rg o).2.1⟩) b3 99 0 999999 (by omega) (by omega)
    obtain ⟨m2, k2, k3⟩ := w_b6a hn hS e01 (WK_m2 hW d2) h 99 0 999998 m1 (by omega) (by omega) (Ch_refl _ _)
    rw [ea] at k1 k2
    have h0 := h 0 (by omega)
    refine ⟨_, y2, m2, hx.trans k1, hm _ _ ?_, Ch_tr c1 b2, Ch_tr d2 k3⟩
    rw [if_neg (show ¬ wmx (fun p => tws w sd S k D p 0) n < 0 by omega)]
    exact k2
  · have k1 := w_b100b (W := fun o => wmx (fun p => tws w sd S k D p o) n) (fun o ho => ⟨(rg o).1, (rg o).2.1⟩) h2 b3 99 0 999999 (by omega) (by omega)
    obtain ⟨m2, k2, k3⟩ := w_b6b hn hS e01 (WK_m2 hW d2) 99 0 999998 m1 (by omega) (by omega) (Ch_refl _ _)
    refine ⟨_, y2, m2, hx.trans k1, hm _ _ ?_, Ch_tr c1 b2, Ch_tr d2 k3⟩
    have e : (if wmx (fun p => tws w sd S k D p 0) n < 0 then 0 else wmx (fun p => tws w sd S k D p 0) n) = 0 := by
      split <;> omega
    rw [e]
    exact k2
theorem e_two (L : LawT) : EQ_two (Rel1 L) := by
  intro x m a1 a2 a3 hR
  obtain ⟨s, rfl, hs1, hs2⟩ := iI_of a1
  obtain ⟨v, rfl, hv1, hv2⟩ := iI_of a2
  obtain ⟨q, rfl, hq1, hq2⟩ := iI_of a3
  obtain ⟨⟨n, nb, hP, hC, hT, hD, hI, hK, hS⟩, hL⟩ := id hR
  have hn := hP.1
  have px := s_poX (σ := x) hn hP.2.1 hv1 hv2
  have pm := s_poM (σ := m) hn hP.2.2.1 hv1 hv2
  unfold f_X9_two f_X9_two_10 f_X10_two
  by_cases c1 : 0 ≤ s ∧ s ≤ 5
  rotate_left
  · simp +decide (maxSteps := 2000000) (disch := omega) only [↓gl_p, ↓bs_p, iI_lit, iI_neg, iI_add, iI_sub, iI_mul, gk_p, bs_p, bz0, bz1, pI_row, pI_snd, pA_row, pA_snd, pL_fst, pL_row, pB_fst, pB_row, upd_at, ↓reduceIte, Int.reduceToNat, Nat.reduceEqDiff, iI_lt, iI_le, iI_eq, iI_inb, iI_nat, iI_nz, c1, s_shX, s_shM, bI_0, not_false_eq_true]
    refine ⟨iI (-1), x, m, ?_, rfl, hR⟩
    split <;> rfl
  obtain ⟨u, hu, rfl⟩ : ∃ k : Nat, k < 6 ∧ s = (k : Int) := ⟨s.toNat, by omega, by omega⟩
  by_cases c2 : v = -1
  · have c3 := eq_true c2
    unfold f_X9_two_47 f_X10_two_33
    rcases lay3 hP hK.1 hS hu with ⟨b, hb, l1, l2⟩ | ⟨k, w, sd, S, y, m2, l1, l2, l3, h1, h2, hY, hM, hC, hO⟩
    · have hb2 : ¬ 0 ≤ b := by omega
      simp +decide (maxSteps := 2000000) (disch := omega) only [↓gl_p, ↓bs_p, iI_lit, iI_neg, iI_add, iI_sub, iI_mul, gk_p, bs_p, bz0, bz1, pI_row, pI_snd, pA_row, pA_snd, pL_fst, pL_row, pB_fst, pB_row, upd_at, ↓reduceIte, Int.reduceToNat, Nat.reduceEqDiff, iI_lt, iI_le, iI_eq, iI_inb, iI_nat, iI_nz, c1, c3, s_shX, s_shM, bI_0, not_true_eq_false, and_self, l1, l2, hb2]
      exact ⟨_, _, _, rfl, rfl, hR⟩
    · have hw : ∀ p q, okP n p → okP n q → w p q ≤ 270 := fun p q hp hq => (hY.2.2.2.2 p q hp hq).1
      obtain ⟨m3, D, w1, w2, hW⟩ := s_walks hn hw hY.2.1 hO hM (high := 4000) (by omega)
      have w1' : f_X10_walks m2 (iI 4000) = some m3 := w1
      obtain ⟨Q, y2, m4, k1, k2, k3, k4⟩ := s_best2 hY hC ((w2.2 0 0 rfl).trans hM.1) hW
      have hR2 := Rel1_sc hR (Ch_tr (sc_co (by omega) (by omega) h1) (sc_b2 k3)) (Ch_tr (sc_rd h2) (Ch_tr (sc_wa w2) (sc_m2 k4)))
      simp +decide (maxSteps := 2000000) (disch := omega) only [↓gl_p, ↓bs_p, iI_lit, iI_neg, iI_add, iI_sub, iI_mul, gk_p, bs_p, bz0, bz1, pI_row, pI_snd, pA_row, pA_snd, pL_fst, pL_row, pB_fst, pB_row, upd_at, ↓reduceIte, Int.reduceToNat, Nat.reduceEqDiff, iI_lt, iI_le, iI_eq, iI_inb, iI_nat, iI_nz, c1, c3, s_shX, s_shM, bI_0, not_true_eq_false, and_self, l1, l2, l3, w1', k1, k2]
      exact ⟨_, _, _, rfl, rfl, hR2⟩
  by_cases c4 : 0 ≤ v ∧ v < n
  rotate_left
  · simp +decide (maxSteps := 2000000) (disch := omega) only [↓gl_p, ↓bs_p, iI_lit, iI_neg, iI_add, iI_sub, iI_mul, gk_p, bs_p, bz0, bz1, pI_row, pI_snd, pA_row, pA_snd, pL_fst, pL_row, pB_fst, pB_row, upd_at, ↓reduceIte, Int.reduceToNat, Nat.reduceEqDiff, iI_lt, iI_le, iI_eq, iI_inb, iI_nat, iI_nz, c1, c2, c4, s_shX, s_shM, lL_i, px, pm, bI_0, not_false_eq_true, not_true_eq_false, and_self]
    exact ⟨_, _, _, rfl, rfl, hR⟩
  by_cases c5 : 0 ≤ q ∧ q ≤ 99
  rotate_left
  · by_cases c6 : q < 0
    · simp +decide (maxSteps := 2000000) (disch := omega) only [↓gl_p, ↓bs_p, iI_lit, iI_neg, iI_add, iI_sub, iI_mul, gk_p, bs_p, bz0, bz1, pI_row, pI_snd, pA_row, pA_snd, pL_fst, pL_row, pB_fst, pB_row, upd_at, ↓reduceIte, Int.reduceToNat, Nat.reduceEqDiff, iI_lt, iI_le, iI_eq, iI_inb, iI_nat, iI_nz, c1, c2, c4, c5, c6, s_shX, s_shM, lL_i, px, pm, s_wi, bI_0, not_false_eq_true, not_true_eq_false, and_self]
      exact ⟨_, _, _, rfl, rfl, hR⟩
    · have c7 : ¬ q ≤ 99 := by omega
      simp +decide (maxSteps := 2000000) (disch := omega) only [↓gl_p, ↓bs_p, iI_lit, iI_neg, iI_add, iI_sub, iI_mul, gk_p, bs_p, bz0, bz1, pI_row, pI_snd, pA_row, pA_snd, pL_fst, pL_row, pB_fst, pB_row, upd_at, ↓reduceIte, Int.reduceToNat, Nat.reduceEqDiff, iI_lt, iI_le, iI_eq, iI_inb, iI_nat, iI_nz, c1, c2, c4, c5, c6, c7, s_shX, s_shM, lL_i, px, pm, s_wi, bI_0, not_false_eq_true, not_true_eq_false, and_self, and_false]
      exact ⟨_, _, _, rfl, rfl, hR⟩
  have c6 : ¬ q < 0 := by omega
  have c7 : q ≤ 99 := by omega
  obtain ⟨p, hp, rfl⟩ : ∃ k : Nat, k < n ∧ v = (k : Int) := ⟨v.toNat, by omega, by omega⟩
  obtain ⟨o, ho, rfl⟩ : ∃ k : Nat, k ≤ 99 ∧ q = (k : Int) := ⟨q.toNat, by omega, by omega⟩
  unfold f_X9_two_47 f_X10_two_33
  rcases lay3 hP hK.1 hS hu with ⟨b, hb, l1, l2⟩ | ⟨k, w, sd, S, y, m2, l1, l2, l3, h1, h2, hY, hM, hC, hO⟩
  · have hb2 : ¬ 0 ≤ b := by omega
    simp +decide (maxSteps := 2000000) (disch := omega) only [↓gl_p, ↓bs_p, iI_lit, iI_neg, iI_add, iI_sub, iI_mul, gk_p, bs_p, bz0, bz1, pI_row, pI_snd, pA_row, pA_snd, pL_fst, pL_row, pB_fst, pB_row, upd_at, ↓reduceIte, Int.reduceToNat, Nat.reduceEqDiff, iI_lt, iI_le, iI_eq, iI_inb, iI_nat, iI_nz, c1, c2, c4, c5, c6, c7, s_shX, s_shM, lL_i, px, pm, s_wi, bI_0, not_true_eq_false, and_self, l1, l2, hb2]
    exact ⟨_, _, _, rfl, rfl, hR⟩
  · have hw : ∀ p q, okP n p → okP n q → w p q ≤ 270 := fun p q hp hq => (hY.2.2.2.2 p q hp hq).1
    obtain ⟨m3, D, w1, w2, hW⟩ := s_walks hn hw hY.2.1 hO hM (high := 4000) (by omega)
    have w1' : f_X10_walks m2 (iI 4000) = some m3 := w1
    obtain ⟨y2, g1, g2, g3⟩ := s_twoX hY hC hW hp
    have g4 := g3 o ho y2 rfl rfl
    obtain ⟨m4, t1, t2⟩ := s_twoM hn hC.2.1 hp ho hW
    have hR2 := Rel1_sc hR (Ch_tr (sc_co (by omega) (by omega) h1) (sc_ga g2)) (Ch_tr (sc_rd h2) (Ch_tr (sc_wa w2) (sc_m2 t2)))
    simp +decide (maxSteps := 2000000) (disch := omega) only [↓gl_p, ↓bs_p, iI_lit, iI_neg, iI_add, iI_sub, iI_mul, gk_p, bs_p, bz0, bz1, pI_row, pI_snd, pA_row, pA_snd, pL_fst, pL_row, pB_fst, pB_row, upd_at, ↓reduceIte, Int.reduceToNat, Nat.reduceEqDiff, iI_lt, iI_le, iI_eq, iI_inb, iI_nat, iI_nz, c1, c2, c4, c5, c6, c7, s_shX, s_shM, lL_i, px, pm, s_wi, bI_0, not_true_eq_false, and_self, l1, l2, l3, w1', g1, g4, t1]
    exact ⟨_, _, _, rfl, rfl, hR2⟩
