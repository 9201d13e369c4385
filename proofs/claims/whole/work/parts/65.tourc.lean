/-! ===== the shortest way: members, the reference ===== -/
def pfx (s q : Nat) : List Nat := (List.range q).filter (fun p => s.testBit p)
theorem pfx_y {s q : Nat} (h : s.testBit q = true) : pfx s (q + 1) = pfx s q ++ [q] := by
  unfold pfx
  rw [List.range_succ, List.filter_append, List.filter_cons_of_pos h]
  rfl
theorem pfx_n {s q : Nat} (h : s.testBit q = false) : pfx s (q + 1) = pfx s q := by
  unfold pfx
  rw [List.range_succ, List.filter_append, List.filter_cons_of_neg (by simp [h])]
  exact List.append_nil _
theorem pfx_pre (s q : Nat) : ∀ r, ∃ X, pfx s (q + r) = pfx s q ++ X := by
  intro r
  induction r with
  | zero => exact ⟨[], (List.append_nil _).symm⟩
  | succ r ih =>
    obtain ⟨X, hX⟩ := ih
    cases h : s.testBit (q + r)
    · exact ⟨X, by rw [show q + (r + 1) = q + r + 1 by omega, pfx_n h, hX]⟩
    · exact ⟨X ++ [q + r], by rw [show q + (r + 1) = q + r + 1 by omega, pfx_y h, hX, List.append_assoc]⟩
theorem gD_l {l X : List Nat} {i : Nat} (h : i < l.length) : (l ++ X).getD i 0 = l.getD i 0 := by
  rw [List.getD_eq_getElem?_getD, List.getD_eq_getElem?_getD, List.getElem?_append_left h]
theorem gD_x {l X : List Nat} {x : Nat} : (l ++ x :: X).getD l.length 0 = x := by
  rw [List.getD_eq_getElem?_getD, List.getElem?_append_right (Nat.le_refl _), Nat.sub_self]
  rfl
theorem gD_e {l : List Nat} {i : Nat} (h : i < l.length) : l.getD i 0 = l[i] := by
  rw [List.getD_eq_getElem?_getD, List.getElem?_eq_getElem h]
  rfl
theorem gD_m {l : List Nat} {i : Nat} (h : i < l.length) : l.getD i 0 ∈ l := by
  rw [gD_e h]
  exact List.getElem_mem h
theorem gD_map {l : List Nat} {a : Nat → Nat} {i : Nat} (h : i < l.length) : (l.map a).getD i 0 = a (l.getD i 0) := by
  rw [List.getD_eq_getElem?_getD, List.getD_eq_getElem?_getD, List.getElem?_map, List.getElem?_eq_getElem h]
  rfl
theorem gD_self (l : List Nat) : (List.range l.length).map (fun i => l.getD i 0) = l := by
  apply List.ext_getElem?
  intro i
  rw [List.getElem?_map]
  by_cases c : i < l.length
  · rw [List.getElem?_range c, List.getElem?_eq_getElem c]
    show some (l.getD i 0) = _
    rw [gD_e c]
  · rw [List.getElem?_eq_none_iff.mpr (by rw [List.length_range]; omega), List.getElem?_eq_none_iff.mpr (by omega)]
    rfl
theorem pfx_lt (s q : Nat) : (pfx s q).Pairwise (fun a b => a < b) := List.Pairwise.filter _ List.pairwise_lt_range
theorem pfx_mo {s q i j : Nat} (hij : i < j) (hj : j < (pfx s q).length) : (pfx s q).getD i 0 < (pfx s q).getD j 0 := by
  rw [gD_e (by omega), gD_e hj]
  exact List.pairwise_iff_getElem.mp (pfx_lt s q) i j (by omega) hj hij
theorem pfx_in {s q x : Nat} (h : x ∈ pfx s q) : x < q := List.mem_range.mp (List.mem_filter.mp h).1
theorem pfx_memO {s n : Nat} (h : (pfx s n).length ≤ 7) : memO n (pfx s n) := by
  refine ⟨h, fun i hi => pfx_in (gD_m hi), fun i j hi hj e => ?_⟩
  rcases Nat.lt_trichotomy i j with c | c | c
  · have := pfx_mo c hj
    omega
  · exact c
  · have := pfx_mo c hi
    omega
theorem pfx_pop {s n : Nat} (hn : n ≤ 9) (hs : s < 2 ^ n) : (pfx s n).length = popc s := by
  obtain ⟨X, hX⟩ := pfx_pre s n (9 - n)
  have h5 : 2 ^ n ≤ 2 ^ 9 := Nat.pow_le_pow_right (by omega) hn
  have h6 : (2 : Nat) ^ 9 = 512 := by decide
  have key : ∀ r, n + r ≤ 9 → pfx s (n + r) = pfx s n := by
    intro r
    induction r with
    | zero => exact fun _ => rfl
    | succ r ih =>
      intro hr
      rw [show n + (r + 1) = n + r + 1 by omega, pfx_n (mkBa n (by omega) s (by omega) hs (n + r) (by omega) (by omega))]
      exact ih (by omega)
  have e := key (9 - n) (by omega)
  rw [show n + (9 - n) = 9 by omega] at e
  unfold popc
  rw [← e]
  rfl
theorem pow9 {n s : Nat} (hn : n ≤ 9) (hs : s < 2 ^ n) : s < 512 := by
  have h5 : 2 ^ n ≤ 2 ^ 9 := Nat.pow_le_pow_right (by omega) hn
  have h6 : (2 : Nat) ^ 9 = 512 := by decide
  omega
/-! the members, as both gather them -/
def r7C (c j : Nat) : Bool := (c == 34 && j == 3) || c == 35
theorem w_rk7 {x : gS} {n s : Nat} (hn : n ≤ 9) (hs : s < 512) (e1 : x.1 1 1 = iI n) (h7 : (pfx s n).length ≤ 7) : ∀ (r q f : Nat) (σ : gS), q + r = n → r ≤ f → Ch r7C x σ → TS (pfx s q) σ → ∃ τ, f_X7_reckon_7 (f + 1) (iI s) (iI q) σ = f_X7_reckon_60 gN (iI 0) τ ∧ Ch r7C x τ ∧ TS (pfx s n) τ := by
  intro r
  induction r with
  | zero =>
    intro q f σ hq hf hc hT
    have s1 : σ.1 1 1 = iI n := (hc.2 1 1 rfl).trans e1
    have g : (n : Int) ≤ (q : Int) := by omega
    refine ⟨σ, ?_, hc, by rw [show n = q by omega]; exact hT⟩
    rw [f_X7_reckon_7]
    simp +decide (maxSteps := 2000000) (disch := omega) only [↓gl_p, ↓bs_p, iI_lit, iI_neg, iI_add, iI_sub, iI_mul, gk_p, bs_p, bz0, bz1, pI_row, pI_snd, pA_row, pA_snd, pL_fst, pL_row, pB_fst, pB_row, upd_at, ↓reduceIte, Int.reduceToNat, Nat.reduceEqDiff, iI_lt, iI_le, iI_eq, iI_inb, iI_nat, iI_nz, s1, g]
  | succ r ih =>
    intro q f σ hq hf hc hT
    obtain ⟨f, rfl⟩ : ∃ k, f = k + 1 := ⟨f - 1, by omega⟩
    have s1 : σ.1 1 1 = iI n := (hc.2 1 1 rfl).trans e1
    have g : ¬ (n : Int) ≤ (q : Int) := by omega
    obtain ⟨X, hX⟩ := pfx_pre s q (r + 1)
    rw [hq] at hX
    have hlen := congrArg List.length hX
    rw [List.length_append] at hlen
    rw [f_X7_reckon_7]
    by_cases c : 7 ≤ (pfx s q).length
    · have c2 : 7 ≤ (((pfx s q).length : Nat) : Int) := by omega
      have e : pfx s n = pfx s q := by
        have : X = [] := List.length_eq_zero_iff.mp (by omega)
        rw [hX, this, List.append_nil]
      refine ⟨σ, ?_, hc, by rw [e]; exact hT⟩
      simp +decide (maxSteps := 2000000) (disch := omega) only [↓gl_p, ↓bs_p, iI_lit, iI_neg, iI_add, iI_sub, iI_mul, gk_p, bs_p, bz0, bz1, pI_row, pI_snd, pA_row, pA_snd, pL_fst, pL_row, pB_fst, pB_row, upd_at, ↓reduceIte, Int.reduceToNat, Nat.reduceEqDiff, iI_lt, iI_le, iI_eq, iI_inb, iI_nat, iI_nz, s1, g, hT.1, c2]
    · have c2 : ¬ 7 ≤ (((pfx s q).length : Nat) : Int) := by omega
      have b := mkB6 s hs q (by omega)
      cases hb : s.testBit q
      · rw [hb] at b
        have b2 : (iI s >>> (iI q &&& iI 31)) &&& iI 1 = iI 0 := b
        obtain ⟨τ, a1, a2, a3⟩ := ih (q + 1) f σ (by omega) (by omega) hc (by rw [pfx_n hb]; exact hT)
        refine ⟨τ, ?_, a2, a3⟩
        simp +decide (maxSteps := 2000000) (disch := omega) only [↓gl_p, ↓bs_p, iI_lit, iI_neg, iI_add, iI_sub, iI_mul, gk_p, bs_p, bz0, bz1, pI_row, pI_snd, pA_row, pA_snd, pL_fst, pL_row, pB_fst, pB_row, upd_at, ↓reduceIte, Int.reduceToNat, Nat.reduceEqDiff, iI_lt, iI_le, iI_eq, iI_inb, iI_nat, iI_nz, s1, g, hT.1, c2, b2]
        exact a1
      · rw [hb] at b
        have b2 : (iI s >>> (iI q &&& iI 31)) &&& iI 1 = iI 1 := b
        obtain ⟨τ, a1, a2, a3⟩ := ih (q + 1) f (pI (pI σ 34 3 (iI ((((pfx s q).length : Nat) : Int) + 1))) 35 (pfx s q).length (iI q)) (by omega) (by omega) (Ch_pI (Ch_pI hc rfl) rfl) (by
          rw [pfx_y hb]
          refine ⟨?_, fun i hi => ?_⟩
          · rw [List.length_append]
            rfl
          · rw [List.length_append] at hi
            have hi2 : i < (pfx s q).length + 1 := hi
            rw [pI_row, if_pos rfl, upd_at]
            by_cases e : i = (pfx s q).length
            · rw [if_pos e, e, gD_x]
            · rw [if_neg e, gD_l (by omega)]
              exact hT.2 i (by omega))
        refine ⟨τ, ?_, a2, a3⟩
        simp +decide (maxSteps := 2000000) (disch := omega) only [↓gl_p, ↓bs_p, iI_lit, iI_neg, iI_add, iI_sub, iI_mul, gk_p, bs_p, bz0, bz1, pI_row, pI_snd, pA_row, pA_snd, pL_fst, pL_row, pB_fst, pB_row, upd_at, ↓reduceIte, Int.reduceToNat, Nat.reduceEqDiff, iI_lt, iI_le, iI_eq, iI_inb, iI_nat, iI_nz, s1, g, hT.1, c2, b2, Int.toNat_natCast]
        exact a1
theorem w_so4 {m : gS} {n s : Nat} (hn : n ≤ 9) (hs : s < 512) (e0 : m.1 0 0 = iI n) : ∀ (r q f : Nat) (σ : gS), q + r = n → r ≤ f → Ch orC m σ → (pfx s q).length ≤ q → (∀ i, i < (pfx s q).length → σ.1 33 i = iI ((pfx s q).getD i 0)) → ∃ τ, f_X10_shortestOf_4 (f + 1) (iI s) (iI ((pfx s q).length : Nat)) (iI q) σ = f_X10_shortestOf_42 gN (iI ((pfx s n).length : Nat)) (iI (-1)) (iI 1) τ ∧ Ch orC m τ ∧ ∀ i, i < (pfx s n).length → τ.1 33 i = iI ((pfx s n).getD i 0) := by
  intro r
  induction r with
  | zero =>
    intro q f σ hq hf hc hl ho
    have s0 : σ.1 0 0 = iI n := (hc.2 0 0 rfl).trans e0
    have g : (n : Int) ≤ (q : Int) := by omega
    have e : q = n := by omega
    subst e
    refine ⟨σ, ?_, hc, ho⟩
    rw [f_X10_shortestOf_4]
    simp +decide (maxSteps := 2000000) (disch := omega) only [↓gl_p, ↓bs_p, iI_lit, iI_neg, iI_add, iI_sub, iI_mul, gk_p, bs_p, bz0, bz1, pI_row, pI_snd, pA_row, pA_snd, pL_fst, pL_row, pB_fst, pB_row, upd_at, ↓reduceIte, Int.reduceToNat, Nat.reduceEqDiff, iI_lt, iI_le, iI_eq, iI_inb, iI_nat, iI_nz, s0, Int.le_refl]
  | succ r ih =>
    intro q f σ hq hf hc hl ho
    obtain ⟨f, rfl⟩ : ∃ k, f = k + 1 := ⟨f - 1, by omega⟩
    have s0 : σ.1 0 0 = iI n := (hc.2 0 0 rfl).trans e0
    have g : ¬ (n : Int) ≤ (q : Int) := by omega
    have b := mkB6 s hs q (by omega)
    rw [f_X10_shortestOf_4]
    cases hb : s.testBit q
    · rw [hb] at b
      have b2 : (iI s >>> (iI q &&& iI 31)) &&& iI 1 = iI 0 := b
      obtain ⟨τ, a1, a2, a3⟩ := ih (q + 1) f σ (by omega) (by omega) hc (by rw [pfx_n hb]; omega) (by rw [pfx_n hb]; exact ho)
      refine ⟨τ, ?_, a2, a3⟩
      rw [pfx_n hb] at a1
      simp +decide (maxSteps := 2000000) (disch := omega) only [↓gl_p, ↓bs_p, iI_lit, iI_neg, iI_add, iI_sub, iI_mul, gk_p, bs_p, bz0, bz1, pI_row, pI_snd, pA_row, pA_snd, pL_fst, pL_row, pB_fst, pB_row, upd_at, ↓reduceIte, Int.reduceToNat, Nat.reduceEqDiff, iI_lt, iI_le, iI_eq, iI_inb, iI_nat, iI_nz, s0, g, b2]
      exact a1
    · rw [hb] at b
      have b2 : (iI s >>> (iI q &&& iI 31)) &&& iI 1 = iI 1 := b
      have el : (pfx s (q + 1)).length = (pfx s q).length + 1 := by
        rw [pfx_y hb, List.length_append]
        rfl
      obtain ⟨τ, a1, a2, a3⟩ := ih (q + 1) f (pI σ 33 (pfx s q).length (iI q)) (by omega) (by omega) (Ch_pI hc rfl) (by omega) (fun i hi => by
        rw [el] at hi
        rw [pI_row, if_pos rfl, upd_at, pfx_y hb]
        by_cases e : i = (pfx s q).length
        · rw [if_pos e, e, gD_x]
        · rw [if_neg e, gD_l (by omega)]
          exact ho i (by omega))
      refine ⟨τ, ?_, a2, a3⟩
      rw [el] at a1
      simp +decide (maxSteps := 2000000) (disch := omega) only [↓gl_p, ↓bs_p, iI_lit, iI_neg, iI_add, iI_sub, iI_mul, gk_p, bs_p, bz0, bz1, pI_row, pI_snd, pA_row, pA_snd, pL_fst, pL_row, pB_fst, pB_row, upd_at, ↓reduceIte, Int.reduceToNat, Nat.reduceEqDiff, iI_lt, iI_le, iI_eq, iI_inb, iI_nat, iI_nz, s0, g, b2, Int.toNat_natCast]
      exact a1
/-! what an order takes -/
theorem w_took {m : gS} {n sd : Nat} {w : Nat → Nat → Nat} (hn : n ≤ 9) (hM : YM n w sd m) {L : List Nat} (hL : L.length ≤ 9) (hin : ∀ x, x ∈ L → x < n) (ho : ∀ i, i < L.length → m.1 33 i = iI (L.getD i 0)) : ∀ (L2 L1 : List Nat) (f t p : Nat), L = L1 ++ L2 → L2.length ≤ f → okP n p → f_X10_took_7 m (f + 1) (iI (L.length : Nat)) (iI t) (iI (mP p)) (iI (L1.length : Nat)) = some (iI ((t + ctc w sd p L2 : Nat) : Int)) := by
  intro L2
  induction L2 with
  | nil =>
    intro L1 f t p hl hf hp
    have e : L1.length = L.length := by
      rw [hl, List.append_nil]
    have wm : f_X10_minutes m (iI (mP p)) (iI (-1)) = some (iI (w p 9 : Nat)) := hM.2.2 p 9 hp (Or.inr rfl)
    rw [f_X10_took_7, e]
    simp +decide (maxSteps := 2000000) (disch := omega) only [↓gl_p, ↓bs_p, iI_lit, iI_neg, iI_add, iI_sub, iI_mul, gk_p, bs_p, bz0, bz1, pI_row, pI_snd, pA_row, pA_snd, pL_fst, pL_row, pB_fst, pB_row, upd_at, ↓reduceIte, Int.reduceToNat, Nat.reduceEqDiff, iI_lt, iI_le, iI_eq, iI_inb, iI_nat, iI_nz, Int.le_refl, wm]
    rfl
  | cons x L2 ih =>
    intro L1 f t p hl hf hp
    have hlen := congrArg List.length hl
    rw [List.length_append, List.length_cons] at hlen
    obtain ⟨f, rfl⟩ : ∃ k, f = k + 1 := ⟨f - 1, by rw [List.length_cons] at hf; omega⟩
    rw [List.length_cons] at hf
    have g : ¬ ((L.length : Nat) : Int) ≤ ((L1.length : Nat) : Int) := by omega
    have q := ho L1.length (by omega)
    have ex : L.getD L1.length 0 = x := by
      rw [hl, gD_x]
    rw [ex] at q
    have hx : x < n := hin x (by rw [hl]; exact List.mem_append_right _ List.mem_cons_self)
    have wm := hM.2.2 p x hp (Or.inl hx)
    have emx : mP x = (x : Int) := if_neg (by omega)
    rw [emx] at wm
    have k2 := ih (L1 ++ [x]) f (t + (w p x + sd)) x (by rw [hl]; simp) (by omega) (Or.inl hx)
    rw [emx, List.length_append] at k2
    have e2 : t + (w p x + sd) + ctc w sd x L2 = t + ctc w sd p (x :: L2) := by
      show _ = t + (w p x + sd + ctc w sd x L2)
      omega
    rw [e2] at k2
    rw [f_X10_took_7]
    simp +decide (maxSteps := 2000000) (disch := omega) only [↓gl_p, ↓bs_p, iI_lit, iI_neg, iI_add, iI_sub, iI_mul, gk_p, bs_p, bz0, bz1, pI_row, pI_snd, pA_row, pA_snd, pL_fst, pL_row, pB_fst, pB_row, upd_at, ↓reduceIte, Int.reduceToNat, Nat.reduceEqDiff, iI_lt, iI_le, iI_eq, iI_inb, iI_nat, iI_nz, g, q, wm, hM.2.1, Int.toNat_natCast]
    exact k2
theorem ctc_bd {w : Nat → Nat → Nat} {sd n : Nat} (hw : ∀ p q, okP n p → okP n q → w p q ≤ 270) (hd : sd ≤ 9) : ∀ (L : List Nat) (p : Nat), (∀ x, x ∈ L → x < n) → okP n p → ctc w sd p L ≤ 279 * L.length + 270 := by
  intro L
  induction L with
  | nil =>
    intro p _ hp
    have := hw p 9 hp (Or.inr rfl)
    show w p 9 ≤ _
    omega
  | cons x L ih =>
    intro p h hp
    have hx : okP n x := Or.inl (h x List.mem_cons_self)
    have g1 := hw p x hp hx
    have g2 := ih x (fun y hy => h y (List.mem_cons_of_mem _ hy)) hx
    show w p x + sd + ctc w sd x L ≤ 279 * (L.length + 1) + 270
    omega
theorem lexp_in : ∀ (k : Nat) (M l : List Nat), l ∈ lexp k M → l.length = k ∧ ∀ x, x ∈ l → x ∈ M := by
  intro k
  induction k with
  | zero =>
    intro M l h
    have h2 : l ∈ [[]] := h
    have e : l = [] := by simpa using h2
    rw [e]
    exact ⟨rfl, fun x hx => absurd hx (by simp)⟩
  | succ k ih =>
    intro M l h
    obtain ⟨x, hx, h2⟩ := List.mem_flatMap.mp h
    obtain ⟨l2, h3, h4⟩ := List.mem_map.mp h2
    obtain ⟨a1, a2⟩ := ih _ _ h3
    rw [← h4]
    refine ⟨by rw [List.length_cons, a1], fun y hy => ?_⟩
    rcases List.mem_cons.mp hy with q | q
    · rw [q]
      exact hx
    · exact (List.mem_filter.mp (a2 y q)).1
def osC (c _j : Nat) : Bool := c == 33 || c == 34
def oBC (c _j : Nat) : Bool := c == 34
theorem os_or {x y : gS} (h : Ch orC x y) : Ch osC x y := Ch_mo h fun c j hd => by
  unfold osC at hd
  unfold orC
  simp at hd ⊢
  omega
theorem os_b {x y : gS} (h : Ch oBC x y) : Ch osC x y := Ch_mo h fun c j hd => by
  unfold osC at hd
  unfold oBC
  simp at hd ⊢
  omega
theorem sc_os {x y : gS} (h : Ch osC x y) : Ch scM x y := Ch_mo h fun c j hd => by
  unfold scM at hd
  unfold osC
  simp at hd ⊢
  omega
theorem w_so70 {K : Int32 → Int32 → Int32 → gS → Option (Int32 × gS)} {m : gS} {z : Nat} (hz : z ≤ 9) (ls : Int32) : ∀ (r i f : Nat) (σ : gS), i + r = z → r ≤ f → Ch oBC m σ → (∀ j, j < i → σ.1 34 j = m.1 33 j) → ∃ τ, f_X10_shortestOf_70 K (f + 1) (iI z) ls (iI i) σ = f_X10_shortestOf_96 K (iI z) ls τ ∧ Ch oBC m τ ∧ ∀ j, j < z → τ.1 34 j = m.1 33 j := by
  intro r
  induction r with
  | zero =>
    intro i f σ hi hf hc ho
    have g : (z : Int) ≤ (i : Int) := by omega
    refine ⟨σ, ?_, hc, fun j hj => ho j (by omega)⟩
    rw [f_X10_shortestOf_70]
    simp +decide (maxSteps := 2000000) (disch := omega) only [↓gl_p, ↓bs_p, iI_lit, iI_neg, iI_add, iI_sub, iI_mul, gk_p, bs_p, bz0, bz1, pI_row, pI_snd, pA_row, pA_snd, pL_fst, pL_row, pB_fst, pB_row, upd_at, ↓reduceIte, Int.reduceToNat, Nat.reduceEqDiff, iI_lt, iI_le, iI_eq, iI_inb, iI_nat, iI_nz, g]
  | succ r ih =>
    intro i f σ hi hf hc ho
    obtain ⟨f, rfl⟩ : ∃ q, f = q + 1 := ⟨f - 1, by omega⟩
    have g : ¬ (z : Int) ≤ (i : Int) := by omega
    have q : σ.1 33 i = m.1 33 i := hc.2 33 i rfl
    obtain ⟨τ, a1, a2, a3⟩ := ih (i + 1) f (pI σ 34 i (m.1 33 i)) (by omega) (by omega) (Ch_pI hc rfl) (fun j hj => by
      rw [pI_row, if_pos rfl, upd_at]
      by_cases e : j = i
      · rw [if_pos e, e]
      · rw [if_neg e]
        exact ho j (by omega))
    refine ⟨τ, ?_, a2, a3⟩
    rw [f_X10_shortestOf_70]
    simp +decide (maxSteps := 2000000) (disch := omega) only [↓gl_p, ↓bs_p, iI_lit, iI_neg, iI_add, iI_sub, iI_mul, gk_p, bs_p, bz0, bz1, pI_row, pI_snd, pA_row, pA_snd, pL_fst, pL_row, pB_fst, pB_row, upd_at, ↓reduceIte, Int.reduceToNat, Nat.reduceEqDiff, iI_lt, iI_le, iI_eq, iI_inb, iI_nat, iI_nz, g, q, Int.toNat_natCast]
    exact a1
/-- the least so far, and its order -/
def lsI (s : Option (Nat × List Nat)) : Int := match s with | none => -1 | some B => (B.1 : Int)
def bsI (z : Nat) (s : Option (Nat × List Nat)) (m : gS) : Prop := match s with | none => True | some B => B.1 ≤ 3000 ∧ ∀ q, q < z → m.1 34 q = iI (B.2.getD q 0)
theorem lxf {z : Nat} {L : List (List Nat)} (h : (match L with | [] => false | a :: r => decide (a = List.range z) && decide (r.length ≤ 10000)) = true) : ∃ rest, L = List.range z :: rest ∧ rest.length ≤ 10000 := by
  cases L with
  | nil => exact absurd h (by simp)
  | cons a r =>
    have h2 : (decide (a = List.range z) && decide (r.length ≤ 10000)) = true := h
    rw [Bool.and_eq_true, decide_eq_true_eq, decide_eq_true_eq] at h2
    exact ⟨r, by rw [h2.1], h2.2⟩
theorem lxf0 : ∃ rest, lexp 0 (List.range 0) = List.range 0 :: rest ∧ rest.length ≤ 10000 := lxf (by decide +kernel)
theorem lxf1 : ∃ rest, lexp 1 (List.range 1) = List.range 1 :: rest ∧ rest.length ≤ 10000 := lxf (by decide +kernel)
theorem lxf2 : ∃ rest, lexp 2 (List.range 2) = List.range 2 :: rest ∧ rest.length ≤ 10000 := lxf (by decide +kernel)
theorem lxf3 : ∃ rest, lexp 3 (List.range 3) = List.range 3 :: rest ∧ rest.length ≤ 10000 := lxf (by decide +kernel)
theorem lxf4 : ∃ rest, lexp 4 (List.range 4) = List.range 4 :: rest ∧ rest.length ≤ 10000 := lxf (by decide +kernel)
theorem lxf5 : ∃ rest, lexp 5 (List.range 5) = List.range 5 :: rest ∧ rest.length ≤ 10000 := lxf (by decide +kernel)
theorem lxf6 : ∃ rest, lexp 6 (List.range 6) = List.range 6 :: rest ∧ rest.length ≤ 10000 := lxf (by decide +kernel)
theorem lxf7 : ∃ rest, lexp 7 (List.range 7) = List.range 7 :: rest ∧ rest.length ≤ 10000 := lxf (by decide +kernel)
theorem lnx_n {l : List Nat} (h : lnx l = none) : fiX (fun q => l.getD q 0) (l.length - 1) = none := by
  unfold lnx at h
  cases hf : fiX (fun q => l.getD q 0) (l.length - 1) with
  | none => rfl
  | some i =>
    rw [hf] at h
    exact absurd h (by simp)
theorem lnx_s {l b : List Nat} (h : lnx l = some b) : ∃ i, fiX (fun q => l.getD q 0) (l.length - 1) = some i ∧ b = (List.range l.length).map (nxr l.length (fun q => l.getD q 0) i) := by
  unfold lnx at h
  cases hf : fiX (fun q => l.getD q 0) (l.length - 1) with
  | none =>
    rw [hf] at h
    exact absurd h (by simp)
  | some i =>
    rw [hf] at h
    exact ⟨i, rfl, (Option.some.inj h).symm⟩
section
variable {m : gS} {n sd z : Nat} {w : Nat → Nat → Nat} {a : Nat → Nat}
theorem so_step (hn : n ≤ 9) (hw : ∀ p q, okP n p → okP n q → w p q ≤ 270) (hd : sd ≤ 9) {σ : gS} (hM : YM n w sd σ) (hz : z ≤ 7) (hb : ∀ u, u < z → a u < n) {l : List Nat} (hl : l.length = z) (hlz : ∀ x, x ∈ l → x < z) (ho : ∀ q, q < z → σ.1 33 q = iI (a (l.getD q 0))) (s : Option (Nat × List Nat)) (hB : bsI z s σ) (f : Nat) : ∃ τ, f_X10_shortestOf_42 (f + 1) (iI z) (iI (lsI s)) (iI 1) σ = f_X10_shortestOf_96 (f_X10_shortestOf_42 f) (iI z) (iI (lsI (up1 s (ctc w sd 9 (l.map a), l.map a)))) τ ∧ Ch oBC σ τ ∧ bsI z (up1 s (ctc w sd 9 (l.map a), l.map a)) τ := by
  have hin : ∀ x, x ∈ l.map a → x < n := fun x hx => by
    obtain ⟨y, h1, h2⟩ := List.mem_map.mp hx
    rw [← h2]
    exact hb y (hlz y h1)
  have hll : (l.map a).length = z := by rw [List.length_map, hl]
  have ho2 : ∀ i, i < (l.map a).length → σ.1 33 i = iI ((l.map a).getD i 0) := fun i hi => by
    rw [hll] at hi
    rw [gD_map (by omega)]
    exact ho i hi
  have tk := w_took hn hM (L := l.map a) (by omega) hin ho2 (l.map a) [] 999999 0 9 rfl (by omega) (Or.inr rfl)
  rw [hll, Nat.zero_add] at tk
  have tk2 : f_X10_took σ (iI z) = some (iI (ctc w sd 9 (l.map a) : Nat)) := tk
  have cb := ctc_bd hw hd (l.map a) 9 hin (Or.inr rfl)
  rw [hll] at cb
  have cp : ∃ τ, f_X10_shortestOf_64 (f_X10_shortestOf_42 f) (iI z) (iI (ctc w sd 9 (l.map a) : Nat)) σ = f_X10_shortestOf_96 (f_X10_shortestOf_42 f) (iI z) (iI (ctc w sd 9 (l.map a) : Nat)) τ ∧ Ch oBC σ τ ∧ bsI z (some (ctc w sd 9 (l.map a), l.map a)) τ := by
    obtain ⟨τ, a1, a2, a3⟩ := w_so70 (K := f_X10_shortestOf_42 f) (m := σ) (z := z) (by omega) (iI (ctc w sd 9 (l.map a) : Nat)) z 0 999999 σ (by omega) (by omega) (Ch_refl _ _) (fun j hj => absurd hj (by omega))
    refine ⟨τ, a1, a2, by omega, fun q hq => ?_⟩
    rw [a3 q hq]
    exact ho2 q (by omega)
  rw [f_X10_shortestOf_42]
  cases s with
  | none =>
    obtain ⟨τ, a1, a2, a3⟩ := cp
    refine ⟨τ, ?_, a2, a3⟩
    show (if iI 1 = 0 then _ else _) = _
    simp +decide (maxSteps := 2000000) (disch := omega) only [↓gl_p, ↓bs_p, iI_lit, iI_neg, iI_add, iI_sub, iI_mul, gk_p, bs_p, bz0, bz1, pI_row, pI_snd, pA_row, pA_snd, pL_fst, pL_row, pB_fst, pB_row, upd_at, ↓reduceIte, Int.reduceToNat, Nat.reduceEqDiff, iI_lt, iI_le, iI_eq, iI_inb, iI_nat, iI_nz, tk2, show lsI none = -1 from rfl]
    exact a1
  | some B =>
    obtain ⟨hB1, hB2⟩ := hB
    by_cases c : ctc w sd 9 (l.map a) < B.1
    · obtain ⟨τ, a1, a2, a3⟩ := cp
      have c1 : ¬ ((B.1 : Nat) : Int) < 0 := by omega
      have c2 : ¬ ((B.1 : Nat) : Int) ≤ ((ctc w sd 9 (l.map a) : Nat) : Int) := by omega
      have e : up1 (some B) (ctc w sd 9 (l.map a), l.map a) = some (ctc w sd 9 (l.map a), l.map a) := if_pos c
      rw [e]
      refine ⟨τ, ?_, a2, a3⟩
      simp +decide (maxSteps := 2000000) (disch := omega) only [↓gl_p, ↓bs_p, iI_lit, iI_neg, iI_add, iI_sub, iI_mul, gk_p, bs_p, bz0, bz1, pI_row, pI_snd, pA_row, pA_snd, pL_fst, pL_row, pB_fst, pB_row, upd_at, ↓reduceIte, Int.reduceToNat, Nat.reduceEqDiff, iI_lt, iI_le, iI_eq, iI_inb, iI_nat, iI_nz, tk2, show lsI (some B) = ((B.1 : Nat) : Int) from rfl, c1, c2]
      exact a1
    · have c1 : ¬ ((B.1 : Nat) : Int) < 0 := by omega
      have c2 : ((B.1 : Nat) : Int) ≤ ((ctc w sd 9 (l.map a) : Nat) : Int) := by omega
      have e : up1 (some B) (ctc w sd 9 (l.map a), l.map a) = some B := if_neg c
      rw [e]
      refine ⟨σ, ?_, Ch_refl _ _, hB1, hB2⟩
      simp +decide (maxSteps := 2000000) (disch := omega) only [↓gl_p, ↓bs_p, iI_lit, iI_neg, iI_add, iI_sub, iI_mul, gk_p, bs_p, bz0, bz1, pI_row, pI_snd, pA_row, pA_snd, pL_fst, pL_row, pB_fst, pB_row, upd_at, ↓reduceIte, Int.reduceToNat, Nat.reduceEqDiff, iI_lt, iI_le, iI_eq, iI_inb, iI_nat, iI_nz, tk2, show lsI (some B) = ((B.1 : Nat) : Int) from rfl, c1, c2]
end
theorem w_so42 {m : gS} {n sd z : Nat} {w : Nat → Nat → Nat} {a : Nat → Nat} (hn : n ≤ 9) (hw : ∀ p q, okP n p → okP n q → w p q ≤ 270) (hd : sd ≤ 9) (hM : YM n w sd m) (hz : z ≤ 7) (ha : ∀ u v, u < z → v < z → (a u ≤ a v ↔ u ≤ v)) (hb : ∀ u, u < z → a u < n) : ∀ (rest : List (List Nat)) (l : List Nat) (f : Nat) (σ : gS) (s : Option (Nat × List Nat)), lch (l :: rest) = true → (∀ k, k ∈ l :: rest → k.length = z ∧ ∀ x, x ∈ k → x < z) → rest.length + 1 ≤ f → Ch osC m σ → (∀ q, q < z → σ.1 33 q = iI (a (l.getD q 0))) → bsI z s σ → ∃ τ B, f_X10_shortestOf_42 (f + 1) (iI z) (iI (lsI s)) (iI 1) σ = some (iI ((B.1 : Nat) : Int), τ) ∧ Ch osC m τ ∧ (l :: rest).foldl (fun s k => up1 s (ctc w sd 9 (k.map a), k.map a)) s = some B ∧ ∀ q, q < z → τ.1 34 q = iI (B.2.getD q 0) := by
  intro rest
  induction rest with
  | nil =>
    intro l f σ s hch hk hf hc ho hB
    obtain ⟨f, rfl⟩ : ∃ q, f = q + 1 := ⟨f - 1, by omega⟩
    obtain ⟨k1, k2⟩ := hk l List.mem_cons_self
    have sM := YM_ch hM hc rfl (fun _ => rfl) (fun _ => rfl) (fun _ => rfl)
    obtain ⟨τ, s1, s2, s3⟩ := so_step hn hw hd sM hz hb k1 k2 ho s hB (f + 1)
    have h1 : ((lnx l == none) && true) = true := hch
    rw [Bool.and_true] at h1
    have fn := lnx_n (eq_of_beq h1)
    rw [k1] at fn
    have nx := (s_next (m := τ) (n := z) (N := z) (g := fun q => l.getD q 0) (a := a) (by omega) (fun q hq => k2 _ (gD_m (by omega))) ha (fun u hu => by have := hb u hu; omega) (fun q hq => by rw [s2.2 33 q rfl]; exact ho q hq)).1 fn
    have hfin : ∃ B, up1 s (ctc w sd 9 (l.map a), l.map a) = some B := by
      cases s with
      | none => exact ⟨_, rfl⟩
      | some t =>
        show ∃ B, (if _ < t.1 then some _ else some t) = some B
        split
        · exact ⟨_, rfl⟩
        · exact ⟨_, rfl⟩
    obtain ⟨B, hB2⟩ := hfin
    rw [hB2] at s1 s3
    refine ⟨τ, B, ?_, Ch_tr hc (os_b s2), hB2, s3.2⟩
    rw [s1]
    unfold f_X10_shortestOf_96
    rw [nx]
    simp only [bs_p]
    rw [f_X10_shortestOf_42]
    simp +decide (maxSteps := 2000000) (disch := omega) only [↓gl_p, ↓bs_p, iI_lit, iI_neg, iI_add, iI_sub, iI_mul, gk_p, bs_p, bz0, bz1, pI_row, pI_snd, pA_row, pA_snd, pL_fst, pL_row, pB_fst, pB_row, upd_at, ↓reduceIte, Int.reduceToNat, Nat.reduceEqDiff, iI_lt, iI_le, iI_eq, iI_inb, iI_nat, iI_nz]
    rfl
  | cons b rest ih =>
    intro l f σ s hch hk hf hc ho hB
    rw [List.length_cons] at hf
    obtain ⟨f, rfl⟩ : ∃ q, f = q + 1 := ⟨f - 1, by omega⟩
    obtain ⟨k1, k2⟩ := hk l List.mem_cons_self
    have sM := YM_ch hM hc rfl (fun _ => rfl) (fun _ => rfl) (fun _ => rfl)
    obtain ⟨τ, s1, s2, s3⟩ := so_step hn hw hd sM hz hb k1 k2 ho s hB (f + 1)
    have h1 : ((lnx l == some b) && lch (b :: rest)) = true := hch
    rw [Bool.and_eq_true] at h1
    obtain ⟨i, fi, eb⟩ := lnx_s (eq_of_beq h1.1)
    rw [k1] at fi eb
    obtain ⟨τ2, n1, n2, n3⟩ := (s_next (m := τ) (n := z) (N := z) (g := fun q => l.getD q 0) (a := a) (by omega) (fun q hq => k2 _ (gD_m (by omega))) ha (fun u hu => by have := hb u hu; omega) (fun q hq => by rw [s2.2 33 q rfl]; exact ho q hq)).2 i fi
    obtain ⟨τ3, B, c1, c2, c3, c4⟩ := ih b f τ2 (up1 s (ctc w sd 9 (l.map a), l.map a)) h1.2 (fun k hk2 => hk k (List.mem_cons_of_mem _ hk2)) (by omega) (Ch_tr hc (Ch_tr (os_b s2) (os_or n2))) (fun q hq => by
      rw [n3 q hq, eb, List.getD_eq_getElem?_getD, List.getElem?_map, List.getElem?_range hq]
      rfl) (by
      cases hs : up1 s (ctc w sd 9 (l.map a), l.map a) with
      | none => trivial
      | some B =>
        rw [hs] at s3
        exact ⟨s3.1, fun q hq => (n2.2 34 q rfl).trans (s3.2 q hq)⟩)
    refine ⟨τ3, B, ?_, c2, c3, c4⟩
    rw [s1]
    unfold f_X10_shortestOf_96
    rw [n1]
    simp only [bs_p]
    exact c1
theorem s_shoM {m : gS} {n sd s : Nat} {w : Nat → Nat → Nat} (hn : n ≤ 9) (hw : ∀ p q, okP n p → okP n q → w p q ≤ 270) (hd : sd ≤ 9) (hM : YM n w sd m) (hs : s < 2 ^ n) (h7 : (pfx s n).length ≤ 7) : ∃ τ, f_X10_shortestOf m (iI s) = some (iI ((bst w sd (pfx s n).length (pfx s n) 9).1 : Nat), τ) ∧ Ch osC m τ ∧ ∀ q, q < (pfx s n).length → τ.1 34 q = iI ((bst w sd (pfx s n).length (pfx s n) 9).2.getD q 0) := by
  obtain ⟨m1, a1, a2, a3⟩ := w_so4 (m := m) hn (pow9 hn hs) hM.1 n 0 999999 m (by omega) (by omega) (Ch_refl _ _) (Nat.le_refl _) (fun i hi => absurd hi (Nat.not_lt_zero i))
  have mo := pfx_memO h7
  have pw : (pfx s n).Pairwise (fun a b => a ≠ b) := (pfx_lt s n).imp (fun h => Nat.ne_of_lt h)
  obtain ⟨z, hz⟩ : ∃ z, z = (pfx s n).length := ⟨_, rfl⟩
  have hch : lch (lexp z (List.range z)) = true := by
    rcases (show z = 0 ∨ z = 1 ∨ z = 2 ∨ z = 3 ∨ z = 4 ∨ z = 5 ∨ z = 6 ∨ z = 7 by omega) with e | e | e | e | e | e | e | e <;> rw [e]
    · exact lch0
    · exact lch1
    · exact lch2
    · exact lch3
    · exact lch4
    · exact lch5
    · exact lch6
    · exact lch7
  have hfirst : ∃ rest, lexp z (List.range z) = List.range z :: rest ∧ rest.length ≤ 10000 := by
    rcases (show z = 0 ∨ z = 1 ∨ z = 2 ∨ z = 3 ∨ z = 4 ∨ z = 5 ∨ z = 6 ∨ z = 7 by omega) with e | e | e | e | e | e | e | e <;> rw [e]
    · exact lxf0
    · exact lxf1
    · exact lxf2
    · exact lxf3
    · exact lxf4
    · exact lxf5
    · exact lxf6
    · exact lxf7
  obtain ⟨rest, hr, hrl⟩ := hfirst
  rw [hr] at hch
  have hmono : ∀ u v, u < z → v < z → ((pfx s n).getD u 0 ≤ (pfx s n).getD v 0 ↔ u ≤ v) := fun u v hu hv => by
    constructor
    · intro q
      by_cases c : u ≤ v
      · exact c
      · have := pfx_mo (s := s) (q := n) (i := v) (j := u) (by omega) (by omega)
        omega
    · intro q
      by_cases c : u = v
      · rw [c]
        exact Nat.le_refl _
      · have := pfx_mo (s := s) (q := n) (i := u) (j := v) (by omega) (by omega)
        omega
  obtain ⟨τ, B, c1, c2, c3, c4⟩ := w_so42 (a := fun i => (pfx s n).getD i 0) hn hw hd (YM_ch hM a2 rfl (fun _ => rfl) (fun _ => rfl) (fun _ => rfl)) (by omega) hmono (fun u hu => mo.2.1 u (by omega)) rest (List.range z) 999999 m1 none hch (fun k hk => by
    rw [← hr] at hk
    obtain ⟨q1, q2⟩ := lexp_in z (List.range z) k hk
    exact ⟨q1, fun x hx => List.mem_range.mp (q2 x hx)⟩) (by omega) (Ch_refl _ _) (fun q hq => by
    have e : (List.range z).getD q 0 = q := by
      rw [List.getD_eq_getElem?_getD, List.getElem?_range hq]
      rfl
    show m1.1 33 q = iI ((pfx s n).getD ((List.range z).getD q 0) 0)
    rw [e]
    exact a3 q (by omega)) trivial
  have eB : B = bst w sd (pfx s n).length (pfx s n) 9 := by
    have lb := lex_bst w sd z (pfx s n) 9 hz.symm pw 0 (fun l => l) none
    have e1 : lexp z (pfx s n) = (lexp z (List.range z)).map (List.map (fun i => (pfx s n).getD i 0)) := by
      rw [← lexp_map (fun i => (pfx s n).getD i 0) z (List.range z) (fun x y hx hy e => mo.2.2 x y (by rw [← hz]; exact List.mem_range.mp hx) (by rw [← hz]; exact List.mem_range.mp hy) e), hz, gD_self]
    rw [e1, List.foldl_map, hr] at lb
    simp only [Nat.zero_add] at lb
    rw [c3] at lb
    have lb2 := Option.some.inj lb
    rw [← hz, lb2]
  rw [← eB]
  refine ⟨τ, ?_, Ch_tr (os_or a2) c2, fun q hq => c4 q (by omega)⟩
  unfold f_X10_shortestOf
  rw [show f_X10_shortestOf_4 gN (iI s) 0 0 m = _ from a1, ← hz]
  exact c1
