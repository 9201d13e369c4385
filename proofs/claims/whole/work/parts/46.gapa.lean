/-! ===== gaps ===== -/
def gaA (S T : Nat → Nat) (k p : Nat) : Nat → Int
  | 0 => -2
  | i + 1 => if S (i % k) = p then ((T i : Nat) : Int) else gaA S T k p i
def gaL (S T : Nat → Nat) (k p : Nat) (F : Int) : Nat → Int
  | 0 => F
  | i + 1 => if S (i % k) = p then (if gaA S T k p i = -2 then gaL S T k p F i else if gaL S T k p F i < (T i : Int) - gaA S T k p i then (T i : Int) - gaA S T k p i else gaL S T k p F i) else gaL S T k p F i
section
variable {S T : Nat → Nat} {k p : Nat} {F : Int}
theorem gaA_y {i : Nat} (h : S (i % k) = p) : gaA S T k p (i + 1) = ((T i : Nat) : Int) := if_pos h
theorem gaA_n {i : Nat} (h : ¬ S (i % k) = p) : gaA S T k p (i + 1) = gaA S T k p i := if_neg h
theorem gaL_n {i : Nat} (h : ¬ S (i % k) = p) : gaL S T k p F (i + 1) = gaL S T k p F i := if_neg h
theorem gaL_y0 {i : Nat} (h : S (i % k) = p) (h2 : gaA S T k p i = -2) : gaL S T k p F (i + 1) = gaL S T k p F i := by
  show (if S (i % k) = p then (if gaA S T k p i = -2 then gaL S T k p F i else _) else _) = _
  rw [if_pos h, if_pos h2]
theorem gaL_y1 {i : Nat} (h : S (i % k) = p) (h2 : ¬ gaA S T k p i = -2) : gaL S T k p F (i + 1) = if gaL S T k p F i < (T i : Int) - gaA S T k p i then (T i : Int) - gaA S T k p i else gaL S T k p F i := by
  show (if S (i % k) = p then (if gaA S T k p i = -2 then gaL S T k p F i else _) else _) = _
  rw [if_pos h, if_neg h2]
theorem gaA_rg {N B : Nat} (hT : ∀ i, i < N → T i ≤ B) : ∀ i, i ≤ N → gaA S T k p i = -2 ∨ (0 ≤ gaA S T k p i ∧ gaA S T k p i ≤ B) := by
  intro i
  induction i with
  | zero => exact fun _ => Or.inl rfl
  | succ i ih =>
    intro hi
    have g := hT i (by omega)
    by_cases c : S (i % k) = p
    · rw [gaA_y c]
      omega
    · rw [gaA_n c]
      exact ih (by omega)
theorem gaL_rg {N B : Nat} (hT : ∀ i, i < N → T i ≤ B) (h1 : 0 ≤ F) (h2 : F ≤ B) : ∀ i, i ≤ N → 0 ≤ gaL S T k p F i ∧ gaL S T k p F i ≤ B := by
  intro i
  induction i with
  | zero => exact fun _ => ⟨h1, h2⟩
  | succ i ih =>
    intro hi
    have g := hT i (by omega)
    have g1 := ih (by omega)
    have g2 := gaA_rg (S := S) (k := k) (p := p) hT i (by omega)
    by_cases c : S (i % k) = p
    · by_cases c2 : gaA S T k p i = -2
      · rw [gaL_y0 c c2]
        exact g1
      · rw [gaL_y1 c c2]
        split <;> omega
    · rw [gaL_n c]
      exact g1
theorem gaL_le (i : Nat) : gaL S T k p F i ≤ gaL S T k p F (i + 1) := by
  by_cases c : S (i % k) = p
  · by_cases c2 : gaA S T k p i = -2
    · rw [gaL_y0 c c2]
      omega
    · rw [gaL_y1 c c2]
      split <;> omega
  · rw [gaL_n c]
    omega
theorem gaL_mono {i j : Nat} (h : i ≤ j) : gaL S T k p F i ≤ gaL S T k p F j := by
  induction h with
  | refl => omega
  | step _ ih => exact Int.le_trans ih (gaL_le _)
/-- before the first place of the post -/
theorem gaA_pre {i0 : Nat} (h0 : i0 ≤ k) (h : ∀ j, j < i0 → S j ≠ p) : ∀ i, i ≤ i0 → gaA S T k p i = -2 ∧ gaL S T k p F i = F := by
  intro i
  induction i with
  | zero => exact fun _ => ⟨rfl, rfl⟩
  | succ i ih =>
    intro hi
    have c : ¬ S (i % k) = p := by
      rw [Nat.mod_eq_of_lt (by omega)]
      exact h i (by omega)
    rw [gaA_n c, gaL_n c]
    exact ih (by omega)
theorem gaA_post {i0 : Nat} (h0 : i0 < k) (hp : S i0 = p) : ∀ r, i0 + 1 + r ≤ k → 0 ≤ gaA S T k p (i0 + 1 + r) := by
  intro r
  induction r with
  | zero =>
    intro _
    have c : S (i0 % k) = p := by
      rw [Nat.mod_eq_of_lt h0]
      exact hp
    show 0 ≤ gaA S T k p (i0 + 1)
    rw [gaA_y c]
    omega
  | succ r ih =>
    intro hr
    show 0 ≤ gaA S T k p (i0 + 1 + r + 1)
    by_cases c : S ((i0 + 1 + r) % k) = p
    · rw [gaA_y c]
      omega
    · rw [gaA_n c]
      exact ih (by omega)
/-- the second turn adds one gap alone -/
theorem gaL_two {i0 P : Nat} (h0 : i0 < k) (h : ∀ j, j < i0 → S j ≠ p) (hp : S i0 = p) (hF : F = ((T i0 : Nat) : Int)) (hT : ∀ i, T (k + i) = T i + P) : ∀ i, i ≤ k → (i ≤ i0 → gaL S T k p F (k + i) = gaL S T k p F k ∧ gaA S T k p (k + i) = gaA S T k p k) ∧ (i0 < i → gaL S T k p F (k + i) = (if gaL S T k p F k < (P : Int) + F - gaA S T k p k then (P : Int) + F - gaA S T k p k else gaL S T k p F k) ∧ gaA S T k p (k + i) = P + gaA S T k p i) := by
  intro i
  induction i with
  | zero => exact fun _ => ⟨fun _ => ⟨rfl, rfl⟩, fun h => absurd h (by omega)⟩
  | succ i ih =>
    intro hi
    obtain ⟨a1, a2⟩ := ih (by omega)
    have em : (k + i) % k = i % k := Nat.add_mod_left k i
    have ei : i % k = i := Nat.mod_eq_of_lt (by omega)
    have eT := hT i
    have ek := gaA_post (T := T) h0 hp (k - (i0 + 1)) (by omega)
    rw [show i0 + 1 + (k - (i0 + 1)) = k by omega] at ek
    rw [show k + (i + 1) = k + i + 1 by omega]
    by_cases c : S (i % k) = p
    · have c2 : S ((k + i) % k) = p := by
        rw [em]
        exact c
      rw [gaA_y c2, gaA_y c, eT]
      refine ⟨fun h1 => ?_, fun h1 => ⟨?_, by omega⟩⟩
      · rw [ei] at c
        exact absurd c (h i (by omega))
      · by_cases c3 : i ≤ i0
        · have e : i = i0 := by
            rw [ei] at c
            by_cases c4 : i < i0
            · exact absurd c (h i c4)
            · omega
          obtain ⟨b1, b2⟩ := a1 c3
          rw [gaL_y1 c2 (by rw [b2]; omega), b1, b2, eT, e, hF]
          have e2 : (((T i0 + P : Nat) : Int)) = (P : Int) + ((T i0 : Nat) : Int) := by omega
          rw [e2]
        · obtain ⟨b1, b2⟩ := a2 (by omega)
          have g0 := gaA_post (T := T) h0 hp (i - (i0 + 1)) (by omega)
          rw [show i0 + 1 + (i - (i0 + 1)) = i by omega] at g0
          have g1 : (T i : Int) - gaA S T k p i ≤ gaL S T k p F (i + 1) := by
            rw [gaL_y1 c (by omega)]
            split <;> omega
          have g2 := gaL_mono (S := S) (T := T) (k := k) (p := p) (F := F) (show i + 1 ≤ k by omega)
          rw [gaL_y1 c2 (by rw [b2]; omega), b1, b2, eT]
          have e2 : (((T i + P : Nat) : Int)) - ((P : Int) + gaA S T k p i) = (T i : Int) - gaA S T k p i := by omega
          rw [e2]
          generalize (T i : Int) - gaA S T k p i = d at g1
          split <;> split <;> omega
    · have c2 : ¬ S ((k + i) % k) = p := by
        rw [em]
        exact c
      rw [gaA_n c2, gaA_n c, gaL_n c2]
      refine ⟨fun h1 => a1 (by omega), fun h1 => ?_⟩
      by_cases c3 : i0 < i
      · exact a2 c3
      · have e : i = i0 := by omega
        rw [ei, e] at c
        exact absurd hp c
end
