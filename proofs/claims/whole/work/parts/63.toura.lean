/-! ===== the shortest way: pure ===== -/
def ctc (w : Nat → Nat → Nat) (sd : Nat) : Nat → List Nat → Nat
  | p, [] => w p 9
  | p, x :: l => w p x + sd + ctc w sd x l
def up1 (s : Option (Nat × List Nat)) (p : Nat × List Nat) : Option (Nat × List Nat) :=
  match s with
  | none => some p
  | some q => if p.1 < q.1 then some p else some q
def bst (w : Nat → Nat → Nat) (sd : Nat) : Nat → List Nat → Nat → Nat × List Nat
  | 0, _, p => (w p 9, [])
  | k + 1, M, p => (M.foldl (fun s x => up1 s (w p x + sd + (bst w sd k (M.filter (fun y => y != x)) x).1, x :: (bst w sd k (M.filter (fun y => y != x)) x).2)) none).getD (0, [])
def ups (s t : Option (Nat × List Nat)) : Option (Nat × List Nat) :=
  match t with
  | none => s
  | some p => up1 s p
def shf (off : Nat) (pr : List Nat → List Nat) (t : Option (Nat × List Nat)) : Option (Nat × List Nat) := t.map (fun p => (off + p.1, pr p.2))
theorem ups_up (s t : Option (Nat × List Nat)) (off : Nat) (pr : List Nat → List Nat) (p : Nat × List Nat) : up1 (ups s (shf off pr t)) (off + p.1, pr p.2) = ups s (shf off pr (up1 t p)) := by
  cases t with
  | none => rfl
  | some t =>
    cases s with
    | none =>
      show (if off + p.1 < off + t.1 then some (off + p.1, pr p.2) else some (off + t.1, pr t.2)) = ups none (shf off pr (if p.1 < t.1 then some p else some t))
      by_cases c : p.1 < t.1
      · rw [if_pos (by omega), if_pos c]
        rfl
      · rw [if_neg (by omega), if_neg c]
        rfl
    | some s =>
      show up1 (if off + t.1 < s.1 then some (off + t.1, pr t.2) else some s) (off + p.1, pr p.2) = ups (some s) (shf off pr (if p.1 < t.1 then some p else some t))
      by_cases c1 : off + t.1 < s.1
      · rw [if_pos c1]
        show (if off + p.1 < off + t.1 then some (off + p.1, pr p.2) else some (off + t.1, pr t.2)) = _
        by_cases c : p.1 < t.1
        · rw [if_pos (by omega), if_pos c]
          show _ = (if off + p.1 < s.1 then some (off + p.1, pr p.2) else some s)
          rw [if_pos (by omega)]
        · rw [if_neg (by omega), if_neg c]
          show _ = (if off + t.1 < s.1 then some (off + t.1, pr t.2) else some s)
          rw [if_pos c1]
      · rw [if_neg c1]
        show (if off + p.1 < s.1 then some (off + p.1, pr p.2) else some s) = _
        by_cases c : p.1 < t.1
        · rw [if_pos c]
          rfl
        · rw [if_neg c]
          show _ = (if off + t.1 < s.1 then some (off + t.1, pr t.2) else some s)
          rw [if_neg c1, if_neg (by omega)]
theorem fold_sh {α : Type} (e : α → Nat × List Nat) (off : Nat) (pr : List Nat → List Nat) (s : Option (Nat × List Nat)) : ∀ (M : List α) (t : Option (Nat × List Nat)), M.foldl (fun s x => up1 s (off + (e x).1, pr (e x).2)) (ups s (shf off pr t)) = ups s (shf off pr (M.foldl (fun s x => up1 s (e x)) t)) := by
  intro M
  induction M with
  | nil => exact fun _ => rfl
  | cons x M ih =>
    intro t
    show M.foldl _ (up1 (ups s (shf off pr t)) (off + (e x).1, pr (e x).2)) = ups s (shf off pr (M.foldl _ (up1 t (e x))))
    rw [ups_up]
    exact ih _
theorem fold_some {α : Type} (e : α → Nat × List Nat) : ∀ (M : List α) (t : Nat × List Nat), ∃ q, M.foldl (fun s x => up1 s (e x)) (some t) = some q := by
  intro M
  induction M with
  | nil => exact fun t => ⟨t, rfl⟩
  | cons x M ih =>
    intro t
    show ∃ q, M.foldl _ (if (e x).1 < t.1 then some (e x) else some t) = some q
    by_cases c : (e x).1 < t.1
    · rw [if_pos c]
      exact ih _
    · rw [if_neg c]
      exact ih _
theorem fold_ne {α : Type} (e : α → Nat × List Nat) (M : List α) (h : M ≠ []) : ∃ q, M.foldl (fun s x => up1 s (e x)) none = some q := by
  cases M with
  | nil => exact absurd rfl h
  | cons x M => exact fold_some e M (e x)
/-- those of M without x -/
theorem fil_len {x : Nat} : ∀ (M : List Nat), M.Pairwise (fun a b => a ≠ b) → x ∈ M → (M.filter (fun y => y != x)).length + 1 = M.length := by
  intro M
  induction M with
  | nil =>
    intro _ h
    exact absurd h (by simp)
  | cons z M ih =>
    intro hp hx
    rw [List.pairwise_cons] at hp
    by_cases c : z = x
    · subst c
      have e : M.filter (fun y => y != z) = M := List.filter_eq_self.mpr (fun a ha => by
        have := hp.1 a ha
        simp
        intro q
        exact this q.symm)
      rw [List.filter_cons_of_neg (by simp), e]
      rfl
    · rw [List.filter_cons_of_pos (by simpa using c)]
      have hx2 : x ∈ M := by
        rcases List.mem_cons.mp hx with q | q
        · exact absurd q.symm c
        · exact q
      have := ih hp.2 hx2
      show (M.filter (fun y => y != x)).length + 1 + 1 = M.length + 1
      omega
theorem foldl_cg {α β : Type} {f g : β → α → β} : ∀ (M : List α) (s : β), (∀ x ∈ M, ∀ s, f s x = g s x) → M.foldl f s = M.foldl g s := by
  intro M
  induction M with
  | nil => exact fun _ _ => rfl
  | cons x M ih =>
    intro s h
    show M.foldl f (f s x) = M.foldl g (g s x)
    rw [h x (List.mem_cons_self) s]
    exact ih _ (fun y hy => h y (List.mem_cons_of_mem _ hy))
theorem lex_bst (w : Nat → Nat → Nat) (sd : Nat) : ∀ (k : Nat) (M : List Nat) (p : Nat), M.length = k → M.Pairwise (fun a b => a ≠ b) → ∀ (off : Nat) (pr : List Nat → List Nat) (s : Option (Nat × List Nat)), (lexp k M).foldl (fun s l => up1 s (off + ctc w sd p l, pr l)) s = up1 s (off + (bst w sd k M p).1, pr (bst w sd k M p).2) := by
  intro k
  induction k with
  | zero =>
    intro M p _ _ off pr s
    rfl
  | succ k ih =>
    intro M p hl hp off pr s
    show (M.flatMap (fun x => (lexp k (M.filter (fun y => y != x))).map (fun l => x :: l))).foldl _ s = _
    rw [List.foldl_flatMap]
    have e1 : M.foldl (fun acc x => ((lexp k (M.filter (fun y => y != x))).map (fun l => x :: l)).foldl (fun s l => up1 s (off + ctc w sd p l, pr l)) acc) s = M.foldl (fun s x => up1 s (off + (w p x + sd + (bst w sd k (M.filter (fun y => y != x)) x).1), pr (x :: (bst w sd k (M.filter (fun y => y != x)) x).2))) s := foldl_cg M s (fun x hx s => by
      rw [List.foldl_map]
      have h1 := fil_len M hp hx
      have h2 := ih (M.filter (fun y => y != x)) x (by omega) (hp.filter _) (off + (w p x + sd)) (fun l => pr (x :: l)) s
      have e2 : (fun (s : Option (Nat × List Nat)) (l : List Nat) => up1 s (off + ctc w sd p (x :: l), pr (x :: l))) = (fun s l => up1 s (off + (w p x + sd) + ctc w sd x l, (fun l => pr (x :: l)) l)) := by
        funext s l
        show up1 s (off + (w p x + sd + ctc w sd x l), pr (x :: l)) = _
        rw [show off + (w p x + sd + ctc w sd x l) = off + (w p x + sd) + ctc w sd x l by omega]
      rw [e2, h2, show off + (w p x + sd) + (bst w sd k (M.filter (fun y => y != x)) x).1 = off + (w p x + sd + (bst w sd k (M.filter (fun y => y != x)) x).1) by omega])
    rw [e1]
    have h3 := fold_sh (fun x => (w p x + sd + (bst w sd k (M.filter (fun y => y != x)) x).1, x :: (bst w sd k (M.filter (fun y => y != x)) x).2)) off pr s M none
    have e3 : ups s (shf off pr none) = s := rfl
    rw [e3] at h3
    obtain ⟨q, hq⟩ := fold_ne (fun x => (w p x + sd + (bst w sd k (M.filter (fun y => y != x)) x).1, x :: (bst w sd k (M.filter (fun y => y != x)) x).2)) M (by
      intro e
      rw [e] at hl
      exact absurd hl (by simp))
    have e4 : bst w sd (k + 1) M p = q := by
      show (M.foldl _ none).getD (0, []) = q
      rw [hq]
      rfl
    rw [e4]
    rw [hq] at h3
    exact h3
theorem lexp_map (a : Nat → Nat) : ∀ (k : Nat) (R : List Nat), (∀ x y, x ∈ R → y ∈ R → a x = a y → x = y) → lexp k (R.map a) = (lexp k R).map (List.map a) := by
  intro k
  induction k with
  | zero =>
    intro R _
    rfl
  | succ k ih =>
    intro R h
    show (R.map a).flatMap (fun x => (lexp k ((R.map a).filter (fun y => y != x))).map (fun l => x :: l)) = (R.flatMap (fun x => (lexp k (R.filter (fun y => y != x))).map (fun l => x :: l))).map (List.map a)
    rw [List.flatMap_map, List.map_flatMap]
    have key : ∀ (Q : List Nat), (∀ x, x ∈ Q → x ∈ R) → Q.flatMap (fun x => (lexp k ((R.map a).filter (fun y => y != a x))).map (fun l => a x :: l)) = Q.flatMap (fun x => ((lexp k (R.filter (fun y => y != x))).map (fun l => x :: l)).map (List.map a)) := by
      intro Q
      induction Q with
      | nil => exact fun _ => rfl
      | cons x Q ihQ =>
        intro hQ
        rw [List.flatMap_cons, List.flatMap_cons, ihQ (fun y hy => hQ y (List.mem_cons_of_mem _ hy))]
        congr 1
        have hx := hQ x (List.mem_cons_self)
        have e1 : (R.map a).filter (fun y => y != a x) = (R.filter (fun y => y != x)).map a := by
          rw [List.filter_map]
          congr 1
          refine List.filter_congr fun y hy => ?_
          show (a y != a x) = (y != x)
          by_cases c : y = x
          · rw [c]
            simp
          · have c2 : ¬ a y = a x := fun q => c (h y x hy hx q)
            rw [show (a y != a x) = true by simpa using c2, show (y != x) = true by simpa using c]
        rw [e1, ih (R.filter (fun y => y != x)) (fun u v hu hv => h u v (List.mem_filter.mp hu).1 (List.mem_filter.mp hv).1), List.map_map, List.map_map]
        rfl
    exact key R (fun _ h => h)
/-! by masks -/
def rnx (tb : Nat → Bool) (e : Nat → Nat × List Nat) : Nat → Option (Nat × List Nat)
  | 0 => none
  | i + 1 => if tb i then up1 (rnx tb e i) (e i) else rnx tb e i
theorem rnx_fold (tb : Nat → Bool) (A : Nat → Nat) (e : Nat → Nat × List Nat) : ∀ i, (((List.range i).filter tb).map A).foldl (fun s x => up1 s (e x)) none = rnx tb (fun j => e (A j)) i := by
  intro i
  induction i with
  | zero => rfl
  | succ i ih =>
    rw [List.range_succ, List.filter_append, List.map_append, List.foldl_append, ih]
    show _ = (if tb i then up1 (rnx tb (fun j => e (A j)) i) (e (A i)) else rnx tb (fun j => e (A j)) i)
    cases h : tb i
    · rw [List.filter_cons_of_neg (by simp [h])]
      rfl
    · rw [List.filter_cons_of_pos h]
      rfl
theorem rnx_p {tb : Nat → Bool} {e : Nat → Nat × List Nat} : ∀ i, (rnx tb e i = none ∧ ∀ j, j < i → tb j = false) ∨ (∃ B j, rnx tb e i = some B ∧ j < i ∧ tb j = true ∧ e j = B ∧ (∀ q, q < j → tb q = true → B.1 < (e q).1) ∧ (∀ q, q < i → tb q = true → B.1 ≤ (e q).1)) := by
  intro i
  induction i with
  | zero => exact Or.inl ⟨rfl, fun j hj => absurd hj (by omega)⟩
  | succ i ih =>
    have es : rnx tb e (i + 1) = if tb i then up1 (rnx tb e i) (e i) else rnx tb e i := rfl
    cases h : tb i
    · rw [h] at es
      have es2 : rnx tb e (i + 1) = rnx tb e i := es
      rw [es2]
      rcases ih with ⟨h1, h2⟩ | ⟨B, j, h1, h2, h3, h4, h5, h6⟩
      · refine Or.inl ⟨h1, fun j hj => ?_⟩
        by_cases c : j = i
        · rw [c]
          exact h
        · exact h2 j (by omega)
      · refine Or.inr ⟨B, j, h1, by omega, h3, h4, h5, fun q hq hb => ?_⟩
        by_cases c : q = i
        · rw [c, h] at hb
          exact absurd hb (by decide)
        · exact h6 q (by omega) hb
    · rw [h] at es
      have es2 : rnx tb e (i + 1) = up1 (rnx tb e i) (e i) := es
      right
      rcases ih with ⟨h1, h2⟩ | ⟨B, j, h1, h2, h3, h4, h5, h6⟩
      · rw [h1] at es2
        refine ⟨e i, i, es2, by omega, h, rfl, fun q hq hb => ?_, fun q hq hb => ?_⟩
        · rw [h2 q hq] at hb
          exact absurd hb (by decide)
        · by_cases c : q = i
          · rw [c]
            exact Nat.le_refl _
          · rw [h2 q (by omega)] at hb
            exact absurd hb (by decide)
      · rw [h1] at es2
        have es3 : rnx tb e (i + 1) = if (e i).1 < B.1 then some (e i) else some B := es2
        by_cases c : (e i).1 < B.1
        · rw [if_pos c] at es3
          refine ⟨e i, i, es3, by omega, h, rfl, fun q hq hb => ?_, fun q hq hb => ?_⟩
          · have := h6 q hq hb
            omega
          · by_cases c2 : q = i
            · rw [c2]
              exact Nat.le_refl _
            · have := h6 q (by omega) hb
              omega
        · rw [if_neg c] at es3
          refine ⟨B, j, es3, by omega, h3, h4, h5, fun q hq hb => ?_⟩
          by_cases c2 : q = i
          · rw [c2]
            omega
          · exact h6 q (by omega) hb
def clr (mask i : Nat) : Nat := if mask.testBit i then mask - 2 ^ i else mask
theorem mkB1 : ∀ mask : Nat, mask < 128 → ∀ i : Nat, i < 7 → (iI mask >>> (iI i &&& iI 31)) &&& iI 1 = (if mask.testBit i then iI 1 else iI 0) := by decide +kernel
theorem mkB2 : ∀ mask : Nat, mask < 128 → ∀ i : Nat, i < 7 → (iI mask &&& ((iI 1 <<< (iI i &&& iI 31)) ^^^ iI (-1)) = iI (clr mask i : Nat) ∧ clr mask i < 128 ∧ (clr mask i).testBit i = false ∧ (mask.testBit i = true → clr mask i < mask)) := by decide +kernel
theorem mkB3 : ∀ mask : Nat, mask < 128 → ∀ i : Nat, i < 7 → ∀ y : Nat, y < 7 → (clr mask i).testBit y = (mask.testBit y && (y != i)) := by decide +kernel
theorem mkB4 : ∀ z : Nat, z < 10 → (iI 1 <<< (iI z &&& iI 31) = iI (2 ^ z : Nat)) := by decide +kernel
theorem mkB5 : ∀ z : Nat, z < 8 → ∀ i : Nat, i < 7 → (2 ^ z - 1).testBit i = decide (i < z) := by decide +kernel
theorem mkB6 : ∀ s : Nat, s < 512 → ∀ i : Nat, i < 9 → (iI s >>> (iI i &&& iI 31)) &&& iI 1 = (if s.testBit i then iI 1 else iI 0) := by decide +kernel
def clr9 (s i : Nat) : Nat := if s.testBit i then s - 2 ^ i else s
theorem mkB7 : ∀ s : Nat, s < 512 → ∀ i : Nat, i < 9 → (iI s &&& ((iI 1 <<< (iI i &&& iI 31)) ^^^ iI (-1)) = iI (clr9 s i : Nat) ∧ clr9 s i ≤ s) := by decide +kernel
theorem mkB8 : ∀ s : Nat, s < 512 → ∀ i : Nat, i < 9 → ∀ y : Nat, y < 9 → (clr9 s i).testBit y = (s.testBit y && (y != i)) := by decide +kernel
def popc (s : Nat) : Nat := ((List.range 9).filter (fun p => s.testBit p)).length
def sg0 : gS := (fun _ _ => 0, fun _ _ => 0)
theorem mkB9 : ∀ s : Nat, s < 512 → f_J6_bitCount_0f7a4 sg0 (iI s) = some (iI (popc s : Nat)) := by decide +kernel
theorem s_bitc (σ : gS) {s : Nat} (hs : s < 512) : f_J6_bitCount_0f7a4 σ (iI s) = some (iI (popc s : Nat)) := mkB9 s hs
theorem mkBa : ∀ n : Nat, n < 10 → ∀ s : Nat, s < 512 → s < 2 ^ n → ∀ y : Nat, y < 9 → n ≤ y → s.testBit y = false := by decide +kernel
