/-! ===== fit: the reference ===== -/
def ffC (c j : Nat) : Bool := (c == 0 && (j == 44 || j == 46)) || (27 ≤ c && c ≤ 29) || c == 33 || c == 34
theorem ff_wa {x y : gS} (h : Ch waC x y) : Ch ffC x y := Ch_mo h fun c j hd => by
  unfold ffC at hd
  unfold waC
  simp at hd ⊢
  omega
theorem ff_os {x y : gS} (h : Ch osC x y) : Ch ffC x y := Ch_mo h fun c j hd => by
  unfold ffC at hd
  unfold osC
  simp at hd ⊢
  omega
theorem ff_rd {x y : gS} (h : Ch rdC x y) : Ch ffC x y := Ch_mo h fun c j hd => by
  unfold ffC at hd
  unfold rdC
  simp at hd ⊢
  omega
theorem sc_ff {x y : gS} (h : Ch ffC x y) : Ch scM x y := Ch_mo h fun c j hd => by
  unfold scM at hd
  unfold ffC
  simp at hd ⊢
  omega
theorem w_ft88 {K : Int32 → Int32 → Int32 → Int32 → gS → Option (Int32 × gS)} {m : gS} {n : Nat} (hn : n ≤ 9) (e0 : m.1 0 0 = iI n) (x1 x2 x4 : Int32) : ∀ (r i f : Nat) (σ : gS), i + r = n → r ≤ f → Ch rdC m σ → σ.1 0 44 = m.1 0 44 → (∀ j, j < i → σ.1 27 j = m.1 33 j) → ∃ τ, f_X10_fit_88 K (f + 1) x1 x2 x4 (iI i) σ = ((f_X10_isPaper τ x1).bind fun q1 => (if q1.1 = iI 0 then f_X10_fit_165 K x1 x2 x4 q1.2 else (if x4 = iI 0 then f_X10_fit_136 K gN x1 x2 (x4 + iI 1) (iI 0) q1.2 else f_X10_fit_165 K x1 x2 (x4 + iI 1) q1.2))) ∧ Ch rdC m τ ∧ τ.1 0 44 = m.1 0 44 ∧ ∀ j, j < n → τ.1 27 j = m.1 33 j := by
  intro r
  induction r with
  | zero =>
    intro i f σ hi hf hc h44 ho
    have s0 : σ.1 0 0 = iI n := (hc.2 0 0 rfl).trans e0
    have g : (n : Int) ≤ (i : Int) := by omega
    refine ⟨σ, ?_, hc, h44, fun j hj => ho j (by omega)⟩
    rw [f_X10_fit_88]
    simp +decide (maxSteps := 2000000) (disch := omega) only [↓gl_p, ↓bs_p, iI_lit, iI_neg, iI_add, iI_sub, iI_mul, gk_p, bs_p, bz0, bz1, pI_row, pI_snd, pA_row, pA_snd, pL_fst, pL_row, pB_fst, pB_row, upd_at, ↓reduceIte, Int.reduceToNat, Nat.reduceEqDiff, iI_lt, iI_le, iI_eq, iI_inb, iI_nat, iI_nz, s0, g]
  | succ r ih =>
    intro i f σ hi hf hc h44 ho
    obtain ⟨f, rfl⟩ : ∃ q, f = q + 1 := ⟨f - 1, by omega⟩
    have s0 : σ.1 0 0 = iI n := (hc.2 0 0 rfl).trans e0
    have g : ¬ (n : Int) ≤ (i : Int) := by omega
    have q : σ.1 33 i = m.1 33 i := hc.2 33 i rfl
    obtain ⟨τ, a1, a2, a3, a4⟩ := ih (i + 1) f (pI σ 27 i (m.1 33 i)) (by omega) (by omega) (Ch_pI hc rfl) h44 (fun j hj => by
      rw [pI_row, if_pos rfl, upd_at]
      by_cases e : j = i
      · rw [if_pos e, e]
      · rw [if_neg e]
        exact ho j (by omega))
    refine ⟨τ, ?_, a2, a3, a4⟩
    rw [f_X10_fit_88]
    simp +decide (maxSteps := 2000000) (disch := omega) only [↓gl_p, ↓bs_p, iI_lit, iI_neg, iI_add, iI_sub, iI_mul, gk_p, bs_p, bz0, bz1, pI_row, pI_snd, pA_row, pA_snd, pL_fst, pL_row, pB_fst, pB_row, upd_at, ↓reduceIte, Int.reduceToNat, Nat.reduceEqDiff, iI_lt, iI_le, iI_eq, iI_inb, iI_nat, iI_nz, s0, g, q, Int.toNat_natCast]
    exact a1
theorem w_ft136 {K : Int32 → Int32 → Int32 → Int32 → gS → Option (Int32 × gS)} {m : gS} {n : Nat} (hn : n ≤ 9) (e0 : m.1 0 0 = iI n) (x1 x2 x4 : Int32) : ∀ (r i f : Nat) (σ : gS), i + r = n → r ≤ f → Ch oBC m σ → (∀ j, j < i → σ.1 34 j = m.1 33 j) → ∃ τ, f_X10_fit_136 K (f + 1) x1 x2 x4 (iI i) σ = f_X10_fit_165 K x1 x2 x4 τ ∧ Ch oBC m τ ∧ ∀ j, j < n → τ.1 34 j = m.1 33 j := by
  intro r
  induction r with
  | zero =>
    intro i f σ hi hf hc ho
    have s0 : σ.1 0 0 = iI n := (hc.2 0 0 rfl).trans e0
    have g : (n : Int) ≤ (i : Int) := by omega
    refine ⟨σ, ?_, hc, fun j hj => ho j (by omega)⟩
    rw [f_X10_fit_136]
    simp +decide (maxSteps := 2000000) (disch := omega) only [↓gl_p, ↓bs_p, iI_lit, iI_neg, iI_add, iI_sub, iI_mul, gk_p, bs_p, bz0, bz1, pI_row, pI_snd, pA_row, pA_snd, pL_fst, pL_row, pB_fst, pB_row, upd_at, ↓reduceIte, Int.reduceToNat, Nat.reduceEqDiff, iI_lt, iI_le, iI_eq, iI_inb, iI_nat, iI_nz, s0, g]
  | succ r ih =>
    intro i f σ hi hf hc ho
    obtain ⟨f, rfl⟩ : ∃ q, f = q + 1 := ⟨f - 1, by omega⟩
    have s0 : σ.1 0 0 = iI n := (hc.2 0 0 rfl).trans e0
    have g : ¬ (n : Int) ≤ (i : Int) := by omega
    have q : σ.1 33 i = m.1 33 i := hc.2 33 i rfl
    obtain ⟨τ, a1, a2, a3⟩ := ih (i + 1) f (pI σ 34 i (m.1 33 i)) (by omega) (by omega) (Ch_pI hc rfl) (fun j hj => by
      rw [pI_row, if_pos rfl, upd_at]
      by_cases e : j = i
      · rw [if_pos e, e]
      · rw [if_neg e]
        exact ho j (by omega))
    refine ⟨τ, ?_, a2, a3⟩
    rw [f_X10_fit_136]
    simp +decide (maxSteps := 2000000) (disch := omega) only [↓gl_p, ↓bs_p, iI_lit, iI_neg, iI_add, iI_sub, iI_mul, gk_p, bs_p, bz0, bz1, pI_row, pI_snd, pA_row, pA_snd, pL_fst, pL_row, pB_fst, pB_row, upd_at, ↓reduceIte, Int.reduceToNat, Nat.reduceEqDiff, iI_lt, iI_le, iI_eq, iI_inb, iI_nat, iI_nz, s0, g, q, Int.toNat_natCast]
    exact a1
def ppl (w : Nat → Nat → Nat) (sd n z : Nat) (rw : Nat → Int) (l : List Nat) : Bool := mkp w sd (fun i => l.getD i 0) n z rw ((z + 1) / 2) 0
def bsF (n : Nat) (D : List (List Nat)) (m : gS) : Prop := match D with | [] => True | b :: _ => ∀ q, q < n → m.1 34 q = iI (b.getD q 0)
theorem ft_step {x m : gS} {n sd s z : Nat} {w : Nat → Nat → Nat} {rw : Nat → Int} (hs : s < 6) (hn : n ≤ 6) (hw : ∀ p q, okP n p → okP n q → w p q ≤ 270) (hd : sd ≤ 9) (hM : YM n w sd m) (hb : rowB 1 (-32768) 32767 s z rw x m) {l : List Nat} (hl : l.length = n) (hln : ∀ y, y ∈ l → y < n) (ho : ∀ q, q < n → m.1 33 q = iI (l.getD q 0)) (D : List (List Nat)) (hDl : D.length ≤ 100000) (hB : bsF n D m) (kk : Int32) (f : Nat) : ∃ τ, f_X10_fit_72 (f + 1) (iI s) kk (iI (D.length : Nat)) (iI 1) m = f_X10_fit_165 (f_X10_fit_72 f) (iI s) kk (iI ((D ++ [l].filter (ppl w sd n z rw)).length : Nat)) τ ∧ Ch ffC m τ ∧ (∀ q, q < n → τ.1 33 q = iI (l.getD q 0)) ∧ bsF n (D ++ [l].filter (ppl w sd n z rw)) τ := by
  obtain ⟨m1, a1, a2, a3, a4⟩ := w_ft88 (K := f_X10_fit_72 f) (m := pI m 0 44 (iI n)) (n := n) (by omega) (by exact hM.1) (iI s) kk (iI (D.length : Nat)) n 0 999999 (pI m 0 44 (iI n)) (by omega) (by omega) (Ch_refl _ _) rfl (fun j hj => absurd hj (by omega))
  have c1 : Ch rdC m m1 := Ch_tr (Ch_pI (Ch_refl _ _) rfl) a2
  have M1 := YM_ch hM c1 rfl (fun _ => rfl) (fun _ => rfl) (fun _ => rfl)
  have hb1 := rowB_m hb (Ch_row c1 (c := 24) (fun _ => rfl)) (Ch_row c1 (c := 25) (fun _ => rfl)) c1.1
  have O1 : RO n n (fun i => l.getD i 0) m1 := ⟨by omega, fun i hi => hln _ (gD_m (by omega)), a3, fun i hi => (a4 i hi).trans (ho i hi)⟩
  obtain ⟨m2, p1, p2⟩ := s_pp hs (by omega) hw hd O1 M1 hb1
  have c2 := Ch_tr (ff_rd c1) (ff_wa p2)
  have o2 : ∀ q, q < n → m2.1 33 q = iI (l.getD q 0) := fun q hq => by
    rw [p2.2 33 q rfl, c1.2 33 q rfl]
    exact ho q hq
  have e34 : ∀ q, m2.1 34 q = m.1 34 q := fun q => (p2.2 34 q rfl).trans (c1.2 34 q rfl)
  have start : f_X10_fit_72 (f + 1) (iI s) kk (iI (D.length : Nat)) (iI 1) m = f_X10_fit_88 (f_X10_fit_72 f) gN (iI s) kk (iI (D.length : Nat)) (iI 0) (pI m 0 44 (iI n)) := by
    rw [f_X10_fit_72]
    simp +decide (maxSteps := 2000000) (disch := omega) only [↓gl_p, ↓bs_p, iI_lit, iI_neg, iI_add, iI_sub, iI_mul, gk_p, bs_p, bz0, bz1, pI_row, pI_snd, pA_row, pA_snd, pL_fst, pL_row, pB_fst, pB_row, upd_at, ↓reduceIte, Int.reduceToNat, Nat.reduceEqDiff, iI_lt, iI_le, iI_eq, iI_inb, iI_nat, iI_nz, hM.1]
  have p1' : f_X10_isPaper m1 (iI s) = some (bB (ppl w sd n z rw l), m2) := p1
  rw [start, show f_X10_fit_88 (f_X10_fit_72 f) gN (iI s) kk (iI (D.length : Nat)) (iI 0) (pI m 0 44 (iI n)) = _ from a1, p1']
  simp only [bs_p]
  cases hp : ppl w sd n z rw l
  · have e : D ++ [l].filter (ppl w sd n z rw) = D := by
      rw [List.filter_cons_of_neg (by simp [hp])]
      exact List.append_nil _
    rw [e]
    refine ⟨m2, ?_, c2, o2, ?_⟩
    · rw [if_pos (show bB false = iI 0 from rfl)]
    · cases D with
      | nil => trivial
      | cons b D => exact fun q hq => (e34 q).trans (hB q hq)
  · have e : D ++ [l].filter (ppl w sd n z rw) = D ++ [l] := by
      rw [List.filter_cons_of_pos hp]
      rfl
    rw [e, List.length_append]
    have ea : iI (D.length : Nat) + iI 1 = iI ((D.length + [l].length : Nat) : Int) := iI_add _ _
    rw [if_neg (show ¬ bB true = iI 0 by decide), ea]
    cases D with
    | nil =>
      have M2 : m2.1 0 0 = iI n := (p2.2 0 0 rfl).trans M1.1
      obtain ⟨τ, b1, b2, b3⟩ := w_ft136 (K := f_X10_fit_72 f) (m := m2) (n := n) (by omega) M2 (iI s) kk (iI (([] : List (List Nat)).length + [l].length : Nat)) n 0 999999 m2 (by omega) (by omega) (Ch_refl _ _) (fun j hj => absurd hj (by omega))
      refine ⟨τ, ?_, Ch_tr c2 (ff_os (os_b b2)), fun q hq => (b2.2 33 q rfl).trans (o2 q hq), fun q hq => (b3 q hq).trans (o2 q hq)⟩
      rw [if_pos (show iI (([] : List (List Nat)).length : Nat) = iI 0 from rfl)]
      exact b1
    | cons b D =>
      refine ⟨m2, ?_, c2, o2, fun q hq => (e34 q).trans (hB q hq)⟩
      rw [if_neg (by
        rw [iI_eq (by omega) (by omega) (by omega) (by omega), List.length_cons]
        omega)]
def ftE (x2 x4 : Int32) (τ : gS) : Option (Int32 × gS) := if x2 = iI (-1) then some (x4, τ) else if x4 ≤ iI 0 then some (iI (-2), τ) else if τ.1 0 0 ≤ x2 then some (iI (-2), τ) else gk (inb x2 9) (some (τ.1 34 x2.toNatClampNeg, τ))
theorem ft_end (f : Nat) (a b c : Int32) (τ : gS) : f_X10_fit_72 (f + 1) a b c (iI 0) τ = ftE b c τ := by
  rw [f_X10_fit_72, if_pos (show iI 0 = 0 from rfl)]
  rfl
theorem w_ft72 {x m : gS} {n sd s z : Nat} {w : Nat → Nat → Nat} {rw : Nat → Int} (hs : s < 6) (hn : n ≤ 6) (hw : ∀ p q, okP n p → okP n q → w p q ≤ 270) (hd : sd ≤ 9) (hM : YM n w sd m) (hb : rowB 1 (-32768) 32767 s z rw x m) (kk : Int32) : ∀ (rest : List (List Nat)) (l : List Nat) (f : Nat) (σ : gS) (D : List (List Nat)), lch (l :: rest) = true → (∀ k, k ∈ l :: rest → k.length = n ∧ ∀ y, y ∈ k → y < n) → rest.length + 1 ≤ f → D.length + rest.length ≤ 50000 → Ch ffC m σ → (∀ q, q < n → σ.1 33 q = iI (l.getD q 0)) → bsF n D σ → ∃ τ, f_X10_fit_72 (f + 1) (iI s) kk (iI (D.length : Nat)) (iI 1) σ = ftE kk (iI ((D ++ (l :: rest).filter (ppl w sd n z rw)).length : Nat)) τ ∧ Ch ffC m τ ∧ bsF n (D ++ (l :: rest).filter (ppl w sd n z rw)) τ := by
  intro rest
  induction rest with
  | nil =>
    intro l f σ D hch hk hf hD hc ho hB
    obtain ⟨f, rfl⟩ : ∃ q, f = q + 1 := ⟨f - 1, by omega⟩
    obtain ⟨k1, k2⟩ := hk l List.mem_cons_self
    have sM := YM_ch hM hc rfl (fun _ => rfl) (fun _ => rfl) (fun _ => rfl)
    have sb := rowB_m hb (Ch_row hc (c := 24) (fun _ => rfl)) (Ch_row hc (c := 25) (fun _ => rfl)) hc.1
    obtain ⟨τ, s1, s2, s3, s4⟩ := ft_step hs hn hw hd sM sb k1 k2 ho D (by omega) hB kk (f + 1)
    have h1 : ((lnx l == none) && true) = true := hch
    rw [Bool.and_true] at h1
    have fn := lnx_n (eq_of_beq h1)
    rw [k1] at fn
    have nx := (s_next (m := τ) (n := n) (N := n) (g := fun q => l.getD q 0) (a := fun u => u) (by omega) (fun q hq => k2 _ (gD_m (by omega))) (fun _ _ _ _ => Iff.rfl) (fun u hu => by omega) s3).1 fn
    have e0 : τ.1 0 0 = iI n := (s2.2 0 0 rfl).trans sM.1
    refine ⟨τ, ?_, Ch_tr hc s2, s4⟩
    rw [s1]
    unfold f_X10_fit_165
    rw [e0, nx]
    simp only [bs_p]
    exact ft_end f _ _ _ _
  | cons b rest ih =>
    intro l f σ D hch hk hf hD hc ho hB
    rw [List.length_cons] at hf hD
    obtain ⟨f, rfl⟩ : ∃ q, f = q + 1 := ⟨f - 1, by omega⟩
    obtain ⟨k1, k2⟩ := hk l List.mem_cons_self
    have sM := YM_ch hM hc rfl (fun _ => rfl) (fun _ => rfl) (fun _ => rfl)
    have sb := rowB_m hb (Ch_row hc (c := 24) (fun _ => rfl)) (Ch_row hc (c := 25) (fun _ => rfl)) hc.1
    obtain ⟨τ, s1, s2, s3, s4⟩ := ft_step hs hn hw hd sM sb k1 k2 ho D (by omega) hB kk (f + 1)
    have h1 : ((lnx l == some b) && lch (b :: rest)) = true := hch
    rw [Bool.and_eq_true] at h1
    obtain ⟨i, fi, eb⟩ := lnx_s (eq_of_beq h1.1)
    rw [k1] at fi eb
    obtain ⟨τ2, n1, n2, n3⟩ := (s_next (m := τ) (n := n) (N := n) (g := fun q => l.getD q 0) (a := fun u => u) (by omega) (fun q hq => k2 _ (gD_m (by omega))) (fun _ _ _ _ => Iff.rfl) (fun u hu => by omega) s3).2 i fi
    have e0 : τ.1 0 0 = iI n := (s2.2 0 0 rfl).trans sM.1
    have hlen : (D ++ [l].filter (ppl w sd n z rw)).length + rest.length ≤ 50000 := by
      rw [List.length_append]
      have := List.length_filter_le (ppl w sd n z rw) [l]
      rw [show [l].length = 1 from rfl] at this
      omega
    obtain ⟨τ3, c1, c2, c3⟩ := ih b f τ2 (D ++ [l].filter (ppl w sd n z rw)) h1.2 (fun k hk2 => hk k (List.mem_cons_of_mem _ hk2)) (by omega) hlen (Ch_tr hc (Ch_tr s2 (ff_os (os_or n2)))) (fun q hq => by
      rw [n3 q hq, eb, List.getD_eq_getElem?_getD, List.getElem?_map, List.getElem?_range hq]
      rfl) (by
      cases hs2 : D ++ [l].filter (ppl w sd n z rw) with
      | nil => trivial
      | cons B D2 =>
        rw [hs2] at s4
        exact fun q hq => (n2.2 34 q rfl).trans (s4 q hq))
    have ef : (l :: b :: rest).filter (ppl w sd n z rw) = [l].filter (ppl w sd n z rw) ++ (b :: rest).filter (ppl w sd n z rw) := by
      rw [← List.filter_append]
      rfl
    rw [List.append_assoc, ← ef] at c1 c3
    refine ⟨τ3, ?_, c2, c3⟩
    rw [s1]
    unfold f_X10_fit_165
    rw [e0, n1]
    simp only [bs_p]
    exact c1
theorem w_ft42 {m : gS} {n : Nat} (hn : n ≤ 9) (e0 : m.1 0 0 = iI n) (x1 x2 : Int32) : ∀ (r i f : Nat) (σ : gS), i + r = n → r ≤ f → Ch orC m σ → (∀ j, j < i → σ.1 33 j = iI j) → ∃ τ, f_X10_fit_42 (f + 1) x1 x2 (iI i) σ = f_X10_fit_72 gN x1 x2 (iI 0) (iI 1) τ ∧ Ch orC m τ ∧ ∀ j : Nat, j < n → τ.1 33 j = iI j := by
  intro r
  induction r with
  | zero =>
    intro i f σ hi hf hc ho
    have s0 : σ.1 0 0 = iI n := (hc.2 0 0 rfl).trans e0
    have g : (n : Int) ≤ (i : Int) := by omega
    refine ⟨σ, ?_, hc, fun j hj => ho j (by omega)⟩
    rw [f_X10_fit_42]
    simp +decide (maxSteps := 2000000) (disch := omega) only [↓gl_p, ↓bs_p, iI_lit, iI_neg, iI_add, iI_sub, iI_mul, gk_p, bs_p, bz0, bz1, pI_row, pI_snd, pA_row, pA_snd, pL_fst, pL_row, pB_fst, pB_row, upd_at, ↓reduceIte, Int.reduceToNat, Nat.reduceEqDiff, iI_lt, iI_le, iI_eq, iI_inb, iI_nat, iI_nz, s0, g]
  | succ r ih =>
    intro i f σ hi hf hc ho
    obtain ⟨f, rfl⟩ : ∃ q, f = q + 1 := ⟨f - 1, by omega⟩
    have s0 : σ.1 0 0 = iI n := (hc.2 0 0 rfl).trans e0
    have g : ¬ (n : Int) ≤ (i : Int) := by omega
    obtain ⟨τ, a1, a2, a3⟩ := ih (i + 1) f (pI σ 33 i (iI i)) (by omega) (by omega) (Ch_pI hc rfl) (fun j hj => by
      rw [pI_row, if_pos rfl, upd_at]
      by_cases e : j = i
      · rw [if_pos e, e]
      · rw [if_neg e]
        exact ho j (by omega))
    refine ⟨τ, ?_, a2, a3⟩
    rw [f_X10_fit_42]
    simp +decide (maxSteps := 2000000) (disch := omega) only [↓gl_p, ↓bs_p, iI_lit, iI_neg, iI_add, iI_sub, iI_mul, gk_p, bs_p, bz0, bz1, pI_row, pI_snd, pA_row, pA_snd, pL_fst, pL_row, pB_fst, pB_row, upd_at, ↓reduceIte, Int.reduceToNat, Nat.reduceEqDiff, iI_lt, iI_le, iI_eq, iI_inb, iI_nat, iI_nz, s0, g, Int.toNat_natCast]
    exact a1
/-- what the reference tells -/
theorem s_fiM {x m : gS} {n sd s z : Nat} {w : Nat → Nat → Nat} {rw : Nat → Int} (hs : s < 6) (hn : n ≤ 6) (hw : ∀ p q, okP n p → okP n q → w p q ≤ 270) (hd : sd ≤ 9) (hM : YM n w sd m) (hb : rowB 1 (-32768) 32767 s z rw x m) (kk : Int32) : ∃ τ, f_X10_fit_42 gN (iI s) kk (iI 0) m = ftE kk (iI (((lexp n (List.range n)).filter (ppl w sd n z rw)).length : Nat)) τ ∧ Ch ffC m τ ∧ bsF n ((lexp n (List.range n)).filter (ppl w sd n z rw)) τ := by
  have hch : lch (lexp n (List.range n)) = true ∧ ∃ rest, lexp n (List.range n) = List.range n :: rest ∧ rest.length ≤ 10000 := by
    rcases (show n = 0 ∨ n = 1 ∨ n = 2 ∨ n = 3 ∨ n = 4 ∨ n = 5 ∨ n = 6 by omega) with e | e | e | e | e | e | e <;> rw [e]
    · exact ⟨lch0, lxf0⟩
    · exact ⟨lch1, lxf1⟩
    · exact ⟨lch2, lxf2⟩
    · exact ⟨lch3, lxf3⟩
    · exact ⟨lch4, lxf4⟩
    · exact ⟨lch5, lxf5⟩
    · exact ⟨lch6, lxf6⟩
  obtain ⟨h1, rest, hr, hrl⟩ := hch
  obtain ⟨m1, a1, a2, a3⟩ := w_ft42 (m := m) (n := n) (by omega) hM.1 (iI s) kk n 0 999999 m (by omega) (by omega) (Ch_refl _ _) (fun j hj => absurd hj (by omega))
  have c1 := ff_os (os_or a2)
  have sM := YM_ch hM c1 rfl (fun _ => rfl) (fun _ => rfl) (fun _ => rfl)
  have sb := rowB_m hb (Ch_row c1 (c := 24) (fun _ => rfl)) (Ch_row c1 (c := 25) (fun _ => rfl)) c1.1
  rw [hr] at h1
  obtain ⟨τ, b1, b2, b3⟩ := w_ft72 hs hn hw hd sM sb kk rest (List.range n) 999999 m1 [] h1 (fun k hk => by
    rw [← hr] at hk
    obtain ⟨q1, q2⟩ := lexp_in n (List.range n) k hk
    exact ⟨q1, fun y hy => List.mem_range.mp (q2 y hy)⟩) (by omega) (by rw [List.length_nil]; omega) (Ch_refl _ _) (fun q hq => by
    have e : (List.range n).getD q 0 = q := by
      rw [List.getD_eq_getElem?_getD, List.getElem?_range hq]
      rfl
    rw [e]
    exact a3 q hq) trivial
  rw [← hr, List.nil_append] at b1 b3
  refine ⟨τ, ?_, Ch_tr c1 b2, b3⟩
  rw [show f_X10_fit_42 gN (iI s) kk (iI 0) m = _ from a1]
  exact b1
