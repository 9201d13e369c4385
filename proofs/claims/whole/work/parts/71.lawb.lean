/-! ===== the law: numbers and operands ===== -/
theorem s_digX (σ : gS) {c : Int} (h1 : -1 ≤ c) (h2 : c ≤ 255) : f_X4_isDigit σ (iI c) = some (bI (48 ≤ c ∧ c ≤ 57)) := by
  unfold f_X4_isDigit bI
  simp +decide (maxSteps := 2000000) (disch := omega) only [↓gl_p, ↓bs_p, iI_lit, iI_neg, iI_add, iI_sub, iI_mul, gk_p, bs_p, bz0, bz1, pI_row, pI_snd, pA_row, pA_snd, pL_fst, pL_row, pB_fst, pB_row, upd_at, ↓reduceIte, Int.reduceToNat, Nat.reduceEqDiff, iI_lt, iI_le, iI_eq, iI_inb, iI_nat, iI_nz]
  (repeat' split) <;> first | rfl | (exfalso; omega)
theorem s_digM {σ : gS} {c : Int} (e : f_X10_sign σ = some (iI c)) (h1 : -1 ≤ c) (h2 : c ≤ 255) : f_X10_isDigit σ = some (bI (48 ≤ c ∧ c ≤ 57)) := by
  unfold f_X10_isDigit bI
  rw [e]
  simp +decide (maxSteps := 2000000) (disch := omega) only [↓gl_p, ↓bs_p, iI_lit, iI_neg, iI_add, iI_sub, iI_mul, gk_p, bs_p, bz0, bz1, pI_row, pI_snd, pA_row, pA_snd, pL_fst, pL_row, pB_fst, pB_row, upd_at, ↓reduceIte, Int.reduceToNat, Nat.reduceEqDiff, iI_lt, iI_le, iI_eq, iI_inb, iI_nat, iI_nz]
  (repeat' split) <;> first | rfl | (exfalso; omega)
def bdn (k : Nat) : Nat := [0, 9, 99, 999, 9999].getD k 0
theorem bdn_s : ∀ k : Nat, k < 4 → bdn (k + 1) = 10 * bdn k + 9 := by decide +kernel
theorem bdn_4 : ∀ k : Nat, k < 5 → bdn k ≤ 9999 := by decide +kernel
theorem w_num {a : Nat} {tp : Nat → Nat} {ds ts : List Nat} {op : Nat} (hT : TP a tp) (A B C D E F : gS → Option (Int32 × gS)) : ∀ (r k i v f : Nat) (x m : gS), k + r = 4 → r ≤ f → i ≤ a → v ≤ bdn k → XS a tp i ds x → MS a tp i op ts m → ∃ (j v2 : Nat) (y w : gS), i ≤ j ∧ j ≤ a ∧ v2 ≤ 9999 ∧ (0 < r → i < a → 48 ≤ tp i → tp i ≤ 57 → i < j) ∧ f_X4_readNumber_4 (f + 1) (iI v) (iI k) x = f_X4_readNumber_48 (iI v2) y ∧ f_X10_isO_11 A B C D E F (f + 1) (iI v) (iI k) m = f_X10_isO_57 A B C D E F (iI v2) w ∧ Ch pcX x y ∧ Ch pcM m w ∧ XS a tp j ds y ∧ MS a tp j op ts w := by
  intro r
  induction r with
  | zero =>
    intro k i v f x m hk hf hi hv hx hm
    have b := bdn_4 k (by omega)
    have g : (4 : Int) ≤ (k : Int) := by omega
    refine ⟨i, v, x, m, by omega, hi, by omega, fun h => absurd h (by omega), ?_, ?_, Ch_refl _ _, Ch_refl _ _, hx, hm⟩
    · rw [f_X4_readNumber_4]
      simp +decide (maxSteps := 2000000) (disch := omega) only [↓gl_p, ↓bs_p, iI_lit, iI_neg, iI_add, iI_sub, iI_mul, gk_p, bs_p, bz0, bz1, pI_row, pI_snd, pA_row, pA_snd, pL_fst, pL_row, pB_fst, pB_row, upd_at, ↓reduceIte, Int.reduceToNat, Nat.reduceEqDiff, iI_lt, iI_le, iI_eq, iI_inb, iI_nat, iI_nz, g]
    · rw [f_X10_isO_11]
      simp +decide (maxSteps := 2000000) (disch := omega) only [↓gl_p, ↓bs_p, iI_lit, iI_neg, iI_add, iI_sub, iI_mul, gk_p, bs_p, bz0, bz1, pI_row, pI_snd, pA_row, pA_snd, pL_fst, pL_row, pB_fst, pB_row, upd_at, ↓reduceIte, Int.reduceToNat, Nat.reduceEqDiff, iI_lt, iI_le, iI_eq, iI_inb, iI_nat, iI_nz, g]
  | succ r ih =>
    intro k i v f x m hk hf hi hv hx hm
    obtain ⟨f, rfl⟩ : ∃ q, f = q + 1 := ⟨f - 1, by omega⟩
    have b := bdn_4 k (by omega)
    have b2 := bdn_s k (by omega)
    have b3 := bdn_4 (k + 1) (by omega)
    have g : ¬ (4 : Int) ≤ (k : Int) := by omega
    have h1 := hT.1
    have pr := pk_r hT i
    have px := s_peek hT hx.1.1 hx.1.2 hx.2.1 hi
    have pm := s_sign hT hm.1.1 hm.1.2 hm.2.1 hi
    have dm := s_digM pm pr.1 pr.2
    have dx := s_digX x pr.1 pr.2
    by_cases c : 48 ≤ pk a tp i ∧ pk a tp i ≤ 57
    · have hia : i < a := by
        by_cases h : a ≤ i
        · unfold pk at c
          rw [if_pos h] at c
          omega
        · omega
      have ep : pk a tp i = tp i := by
        unfold pk
        rw [if_neg (by omega)]
      obtain ⟨j, v2, y, w, k1, k2, k3, k4, k5, k6, k7, k8, k9, k10⟩ := ih (k + 1) (i + 1) (10 * v + tp i - 48) f _ _ (by omega) (by omega) (by omega) (by omega) (XS_go hx) (MS_go hm)
      have n1 : ((10 * v + tp i - 48 : Nat) : Int) = 10 * (v : Int) + (tp i : Int) - 48 := by omega
      have n2 : ((k + 1 : Nat) : Int) = (k : Int) + 1 := by omega
      have tm := hm.1.2 i hia
      have c2 := hx.2.1
      have c3 := hm.2.1
      rw [n1, n2] at k5 k6
      rw [ep] at px dx dm c
      refine ⟨j, v2, y, w, by omega, k2, k3, fun _ _ _ _ => by omega, ?_, ?_, Ch_tr (Ch_pI (Ch_refl _ _) rfl) k7, Ch_tr (Ch_pI (Ch_refl _ _) rfl) k8, k9, k10⟩
      · rw [f_X4_readNumber_4]
        simp +decide (maxSteps := 2000000) (disch := omega) only [↓gl_p, ↓bs_p, iI_lit, iI_neg, iI_add, iI_sub, iI_mul, gk_p, bs_p, bz0, bz1, pI_row, pI_snd, pA_row, pA_snd, pL_fst, pL_row, pB_fst, pB_row, upd_at, ↓reduceIte, Int.reduceToNat, Nat.reduceEqDiff, iI_lt, iI_le, iI_eq, iI_inb, iI_nat, iI_nz, g, px, dx, bI_0, c, not_true_eq_false, c2]
        exact k5
      · rw [f_X10_isO_11]
        simp +decide (maxSteps := 2000000) (disch := omega) only [↓gl_p, ↓bs_p, iI_lit, iI_neg, iI_add, iI_sub, iI_mul, gk_p, bs_p, bz0, bz1, pI_row, pI_snd, pA_row, pA_snd, pL_fst, pL_row, pB_fst, pB_row, upd_at, ↓reduceIte, Int.reduceToNat, Nat.reduceEqDiff, iI_lt, iI_le, iI_eq, iI_inb, iI_nat, iI_nz, g, dm, bI_0, c, not_true_eq_false, c3, Int.toNat_natCast, tm]
        exact k6
    · refine ⟨i, v, x, m, by omega, hi, by omega, fun _ h2 h3 h4 => absurd (show 48 ≤ pk a tp i ∧ pk a tp i ≤ 57 by
        unfold pk
        rw [if_neg (by omega)]
        omega) c, ?_, ?_, Ch_refl _ _, Ch_refl _ _, hx, hm⟩
      · rw [f_X4_readNumber_4]
        simp +decide (maxSteps := 2000000) (disch := omega) only [↓gl_p, ↓bs_p, iI_lit, iI_neg, iI_add, iI_sub, iI_mul, gk_p, bs_p, bz0, bz1, pI_row, pI_snd, pA_row, pA_snd, pL_fst, pL_row, pB_fst, pB_row, upd_at, ↓reduceIte, Int.reduceToNat, Nat.reduceEqDiff, iI_lt, iI_le, iI_eq, iI_inb, iI_nat, iI_nz, g, px, dx, bI_0, c, not_false_eq_true]
      · rw [f_X10_isO_11]
        simp +decide (maxSteps := 2000000) (disch := omega) only [↓gl_p, ↓bs_p, iI_lit, iI_neg, iI_add, iI_sub, iI_mul, gk_p, bs_p, bz0, bz1, pI_row, pI_snd, pA_row, pA_snd, pL_fst, pL_row, pB_fst, pB_row, upd_at, ↓reduceIte, Int.reduceToNat, Nat.reduceEqDiff, iI_lt, iI_le, iI_eq, iI_inb, iI_nat, iI_nz, g, dm, bI_0, c, not_false_eq_true]
def XF (j : Nat) (x : gS) : Prop := x.1 7 7 = iI j ∧ x.1 7 8 = iI 1 ∧ DF x
def OUT (a : Nat) (tp : Nat → Nat) (i op : Nat) (ds ts : List Nat) (x m : gS) (rx : Option gS) (rm : Option (Int32 × gS)) : Prop :=
  ∃ (y w : gS) (j : Nat), i ≤ j ∧ j ≤ a ∧ rx = some y ∧ Ch pcX x y ∧ Ch pcM m w ∧ ((rm = some (iI 0, w) ∧ XF j y ∧ w.1 0 14 = iI j) ∨ (rm = some (iI 1, w) ∧ i < j ∧ ∃ us, WF us ∧ us.length + i ≤ j ∧ (trs us).length + 2 * i ≤ 2 * j ∧ XS a tp j (ds ++ trs us) y ∧ MS a tp j op (ts ++ us) w))
def SO (a : Nat) (tp : Nat → Nat) (op : Nat) (fx : gS → Option gS) (fm : gS → Option (Int32 × gS)) : Prop :=
  ∀ (i : Nat) (ds ts : List Nat) (x m : gS), i ≤ a → ds.length ≤ 2 * i → ts.length ≤ i → XS a tp i ds x → MS a tp i op ts m → OUT a tp i op ds ts x m (fx x) (fm m)
theorem s_is {a : Nat} {tp : Nat → Nat} {i op : Nat} {ts : List Nat} {m : gS} (hT : TP a tp) (hi : i ≤ a) (hm : MS a tp i op ts m) {v : Int} (h1 : 0 ≤ v) (h2 : v ≤ 255) : f_X10_is m (iI v) = some (if pk a tp i = v then (iI 1, pI m 0 14 (iI ((i : Int) + 1))) else (iI 0, m)) := by
  have pr := pk_r hT i
  have pm := s_sign hT hm.1.1 hm.1.2 hm.2.1 hi
  have c3 := hm.2.1
  unfold f_X10_is
  by_cases c : pk a tp i = v
  · rw [if_pos c]
    rw [c] at pm
    simp +decide (maxSteps := 2000000) (disch := omega) only [↓gl_p, ↓bs_p, iI_lit, iI_neg, iI_add, iI_sub, iI_mul, gk_p, bs_p, bz0, bz1, pI_row, pI_snd, pA_row, pA_snd, pL_fst, pL_row, pB_fst, pB_row, upd_at, ↓reduceIte, Int.reduceToNat, Nat.reduceEqDiff, iI_lt, iI_le, iI_eq, iI_inb, iI_nat, iI_nz, pm, c3]
  · rw [if_neg c]
    simp +decide (maxSteps := 2000000) (disch := omega) only [↓gl_p, ↓bs_p, iI_lit, iI_neg, iI_add, iI_sub, iI_mul, gk_p, bs_p, bz0, bz1, pI_row, pI_snd, pA_row, pA_snd, pL_fst, pL_row, pB_fst, pB_row, upd_at, ↓reduceIte, Int.reduceToNat, Nat.reduceEqDiff, iI_lt, iI_le, iI_eq, iI_inb, iI_nat, iI_nz, pm, c]
theorem pkn_ {a : Nat} {tp : Nat → Nat} {i : Nat} (h : 0 ≤ pk a tp i) : i < a ∧ pk a tp i = tp i := by
  unfold pk at h ⊢
  by_cases c : a ≤ i
  · rw [if_pos c] at h
    omega
  · rw [if_neg c]
    exact ⟨by omega, rfl⟩
theorem OUT_no {a : Nat} {tp : Nat → Nat} {i op : Nat} {ds ts : List Nat} {x m w : gS} (hi : i ≤ a) (hd : ds.length ≤ 256) (hx : XS a tp i ds x) (hw : Ch pcM m w) (e : w.1 0 14 = iI i) : OUT a tp i op ds ts x m (some (pI x 7 8 (iI 1))) (some (iI 0, w)) :=
  ⟨pI x 7 8 (iI 1), w, i, Nat.le_refl _, hi, rfl, Ch_pI (Ch_refl _ _) rfl, hw, Or.inl ⟨rfl, ⟨hx.2.1, rfl, DF_of hx.2.2.2 hd⟩, e⟩⟩
theorem tr1_v {v : Nat} (h : v < 6) : trs [v] = [36] ++ [v] := by
  rw [trs_1]
  unfold tr1
  rw [if_pos h]
  rfl
theorem tr1_n (v : Nat) : trs [18 + v] = [35] ++ [v] := by
  rw [trs_1]
  unfold tr1
  rw [if_neg (by omega), if_pos (by omega), show 18 + v - 18 = v by omega]
  rfl
theorem O_num {a : Nat} {tp : Nat → Nat} {op : Nat} {ds ts : List Nat} (hT : TP a tp) (A B C D E F : gS → Option (Int32 × gS)) {i : Nat} {x m : gS} (hi : i ≤ a) (hd : ds.length ≤ 2 * i) (ht : ts.length ≤ i) (hx : XS a tp i ds x) (hm : MS a tp i op ts m) (c : 48 ≤ pk a tp i ∧ pk a tp i ≤ 57) : OUT a tp i op ds ts x m (f_X4_readNumber x) (f_X10_isO_11 A B C D E F gN (iI 0) (iI 0) m) := by
  have h1 := hT.1
  obtain ⟨p1, p2⟩ := pkn_ (a := a) (tp := tp) (i := i) (by omega)
  rw [p2] at c
  obtain ⟨j, v, y, w, k1, k2, k3, k4, k5, k6, k7, k8, k9, k10⟩ := w_num hT A B C D E F 4 0 i 0 999999 x m rfl (by omega) hi (by omega) hx hm
  have k5 : f_X4_readNumber_4 gN (iI 0) (iI 0) x = f_X4_readNumber_48 (iI v) y := k5
  have k6 : f_X10_isO_11 A B C D E F gN (iI 0) (iI 0) m = f_X10_isO_57 A B C D E F (iI v) w := k6
  have k4 := k4 (by omega) p1 (by omega) (by omega)
  obtain ⟨y1, a1, a2, a3⟩ := XS_emit 35 k9 (by omega)
  obtain ⟨y2, b1, b2, b3⟩ := XS_emit v a3 (by
    rw [len_s]
    omega)
  obtain ⟨w2, d1, d2, d3⟩ := MS_codes (18 + v) k10 (by omega)
  refine ⟨y2, w2, j, k1, k2, ?_, Ch_tr k7 (Ch_tr a2 b2), Ch_tr k8 d2, Or.inr ⟨?_, k4, [18 + v], WF_1 (by omega) (by omega), ?_, ?_, ?_, d3⟩⟩
  · show f_X4_readNumber_4 gN (iI 0) (iI 0) x = some y2
    rw [k5]
    unfold f_X4_readNumber_48
    rw [show (35 : Int32) = iI ((35 : Nat) : Int) from rfl, a1, b_some, b1, b_some]
  · rw [k6]
    unfold f_X10_isO_57
    rw [show (18 : Int32) + iI v = iI ((18 + v : Nat) : Int) by
      rw [show (18 : Int32) = iI 18 from rfl, iI_add]
      rfl, d1, b_some]
    rfl
  · show 1 + i ≤ j
    omega
  · rw [tr1_n]
    show 2 + 2 * i ≤ 2 * j
    omega
  · rw [tr1_n, ← List.append_assoc]
    exact b3
