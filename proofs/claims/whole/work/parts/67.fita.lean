/-! ===== orders that begin so ===== -/
def fct : Nat → Nat
  | 0 => 1
  | k + 1 => fct k * (k + 1)
def hasP (q l : List Nat) : Bool :=
  match q with
  | [] => true
  | x :: q => (match l with | [] => false | y :: l => y == x && hasP q l)
def ntin (q : List Nat) (y : Nat) : Bool := !(q.contains y)
theorem flat_one {x : Nat} (G : List (List Nat)) : ∀ (M : List Nat), M.Pairwise (fun a b => a ≠ b) → x ∈ M → M.flatMap (fun y => if y = x then G else []) = G := by
  intro M
  have none : ∀ (M : List Nat), x ∉ M → M.flatMap (fun y => if y = x then G else []) = [] := by
    intro M
    induction M with
    | nil => exact fun _ => rfl
    | cons z M ih =>
      intro h
      rw [List.flatMap_cons, if_neg (fun e => h (by rw [e]; exact List.mem_cons_self)), ih (fun q => h (List.mem_cons_of_mem _ q))]
      rfl
  induction M with
  | nil =>
    intro _ h
    exact absurd h (by simp)
  | cons z M ih =>
    intro hp hx
    rw [List.pairwise_cons] at hp
    rw [List.flatMap_cons]
    by_cases c : z = x
    · rw [if_pos c, none M (fun q => hp.1 x q c)]
      exact List.append_nil _
    · rw [if_neg c]
      rcases List.mem_cons.mp hx with q | q
      · exact absurd q.symm c
      · exact ih hp.2 q
theorem fil_flat {α : Type} (f : Nat → List α) (p : α → Bool) : ∀ (M : List Nat), (M.flatMap f).filter p = M.flatMap (fun y => (f y).filter p) := by
  intro M
  induction M with
  | nil => rfl
  | cons x M ih => rw [List.flatMap_cons, List.flatMap_cons, List.filter_append, ih]
theorem flat_cg {f g : Nat → List (List Nat)} : ∀ (M : List Nat), (∀ x, x ∈ M → f x = g x) → M.flatMap f = M.flatMap g := by
  intro M
  induction M with
  | nil => exact fun _ => rfl
  | cons x M ih =>
    intro h
    rw [List.flatMap_cons, List.flatMap_cons, h x List.mem_cons_self, ih (fun y hy => h y (List.mem_cons_of_mem _ hy))]
/-- all of them: how many, and the first -/
theorem lexp_all : ∀ (k : Nat) (M : List Nat), M.length = k → M.Pairwise (fun a b => a ≠ b) → (lexp k M).length = fct k ∧ (lexp k M).head? = some M := by
  intro k
  induction k with
  | zero =>
    intro M hl _
    rw [List.length_eq_zero_iff.mp hl]
    exact ⟨rfl, rfl⟩
  | succ k ih =>
    intro M hl hp
    refine ⟨?_, ?_⟩
    · have key : ∀ (Q : List Nat), (∀ x, x ∈ Q → x ∈ M) → (Q.flatMap (fun x => (lexp k (M.filter (fun y => y != x))).map (fun l => x :: l))).length = fct k * Q.length := by
        intro Q
        induction Q with
        | nil => exact fun _ => rfl
        | cons x Q ihQ =>
          intro hQ
          have h1 := fil_len M hp (hQ x List.mem_cons_self)
          have h2 := (ih (M.filter (fun y => y != x)) (by omega) (hp.filter _)).1
          rw [List.flatMap_cons, List.length_append, List.length_map, h2, ihQ (fun y hy => hQ y (List.mem_cons_of_mem _ hy)), List.length_cons, Nat.mul_succ]
          omega
      show (M.flatMap _).length = fct k * (k + 1)
      rw [key M (fun _ h => h), hl]
    · cases M with
      | nil => exact absurd hl (by simp)
      | cons x M =>
        have h1 := fil_len (x :: M) hp (List.mem_cons_self)
        have hp2 := (List.pairwise_cons.mp hp)
        have e : (x :: M).filter (fun y => y != x) = M := by
          rw [List.filter_cons_of_neg (by simp)]
          exact List.filter_eq_self.mpr (fun a ha => by
            have := hp2.1 a ha
            simp
            intro q
            exact this q.symm)
        have h2 := (ih M (by rw [List.length_cons] at hl; omega) hp2.2).2
        show ((x :: M).flatMap (fun x_1 => (lexp k ((x :: M).filter (fun y => y != x_1))).map (fun l => x_1 :: l))).head? = _
        rw [List.flatMap_cons, e]
        cases hL : lexp k M with
        | nil =>
          rw [hL] at h2
          exact absurd h2 (by simp)
        | cons a r =>
          rw [hL] at h2
          have h3 : some a = some M := h2
          rw [Option.some.inj h3]
          rfl
/-- those that begin with q -/
theorem lexp_pre : ∀ (q : List Nat) (k : Nat) (M : List Nat), M.length = k → M.Pairwise (fun a b => a ≠ b) → q.Pairwise (fun a b => a ≠ b) → (∀ x, x ∈ q → x ∈ M) → ((lexp k M).filter (hasP q)).length = fct (k - q.length) ∧ ((lexp k M).filter (hasP q)).head? = some (q ++ M.filter (ntin q)) ∧ q.length + (M.filter (ntin q)).length = k := by
  intro q
  induction q with
  | nil =>
    intro k M hl hp _ _
    have e1 : (lexp k M).filter (hasP []) = lexp k M := List.filter_eq_self.mpr (fun _ _ => rfl)
    have e2 : M.filter (ntin []) = M := List.filter_eq_self.mpr (fun _ _ => rfl)
    obtain ⟨a1, a2⟩ := lexp_all k M hl hp
    rw [e1, e2]
    exact ⟨a1, a2, by rw [hl]; exact Nat.zero_add _⟩
  | cons x q ih =>
    intro k M hl hp hq hin
    rw [List.pairwise_cons] at hq
    have hxM := hin x List.mem_cons_self
    have h1 := fil_len M hp hxM
    obtain ⟨k, rfl⟩ : ∃ j, k = j + 1 := ⟨k - 1, by omega⟩
    have e1 : (lexp (k + 1) M).filter (hasP (x :: q)) = ((lexp k (M.filter (fun y => y != x))).filter (hasP q)).map (fun l => x :: l) := by
      show (M.flatMap (fun z => (lexp k (M.filter (fun y => y != z))).map (fun l => z :: l))).filter (hasP (x :: q)) = _
      rw [fil_flat, flat_cg (g := fun z => if z = x then ((lexp k (M.filter (fun y => y != x))).filter (hasP q)).map (fun l => x :: l) else []) M (fun z hz => by
        by_cases c : z = x
        · rw [if_pos c, c, List.filter_map]
          congr 1
          refine List.filter_congr fun l _ => ?_
          show (x == x && hasP q l) = hasP q l
          rw [beq_self_eq_true, Bool.true_and]
        · rw [if_neg c]
          refine List.filter_eq_nil_iff.mpr fun l hl2 => ?_
          obtain ⟨l2, q1, q2⟩ := List.mem_map.mp hl2
          rw [← q2]
          show ¬ (z == x && hasP q l2) = true
          rw [show (z == x) = false by simpa using c]
          simp)]
      exact flat_one _ M hp hxM
    have hq2 : ∀ y, y ∈ q → y ∈ M.filter (fun y => y != x) := fun y hy => List.mem_filter.mpr ⟨hin y (List.mem_cons_of_mem _ hy), by
      have := hq.1 y hy
      simp
      intro e
      exact this e.symm⟩
    obtain ⟨b1, b2, b3⟩ := ih k (M.filter (fun y => y != x)) (by omega) (hp.filter _) hq.2 hq2
    have e2 : (M.filter (fun y => y != x)).filter (ntin q) = M.filter (ntin (x :: q)) := by
      rw [List.filter_filter]
      refine List.filter_congr fun y _ => ?_
      show (!(q.contains y) && (y != x)) = !((x :: q).contains y)
      rw [List.contains_cons, Bool.not_or, Bool.and_comm]
      rfl
    rw [e2] at b2 b3
    rw [e1]
    refine ⟨?_, ?_, ?_⟩
    · rw [List.length_map, b1, List.length_cons, show k + 1 - (q.length + 1) = k - q.length by omega]
    · rw [List.head?_map, b2]
      rfl
    · rw [List.length_cons]
      omega
/-! a paper looks at the first ones alone -/
section
variable {w : Nat → Nat → Nat} {sd n z : Nat} {rw : Nat → Int} {S R : Nat → Nat}
theorem offs_cg : ∀ i, (∀ j, j ≤ i → S j = R j) → offs w sd S i = offs w sd R i := by
  intro i
  induction i with
  | zero => exact fun _ => rfl
  | succ i ih =>
    intro h
    show offs w sd S i + sd + w (S i) (S (i + 1)) = offs w sd R i + sd + w (R i) (R (i + 1))
    rw [ih (fun j hj => h j (by omega)), h i (by omega), h (i + 1) (by omega)]
theorem mkp_cg : ∀ (r i t : Nat), i + r ≤ t → t ≤ n → (∀ j, j < t → S j = R j) → mkp w sd S n z rw r i = mkp w sd R n z rw r i := by
  intro r
  induction r with
  | zero => exact fun _ _ _ _ _ => rfl
  | succ r ih =>
    intro i t h1 h2 h3
    have e1 : Tm w sd S n i = Tm w sd R n i := by
      rw [Tm_lt (by omega), Tm_lt (by omega), h3 0 (by omega), offs_cg i (fun j hj => h3 j (by omega))]
    have e2 : S (i % n) = R (i % n) := by
      rw [Nat.mod_eq_of_lt (by omega)]
      exact h3 i (by omega)
    show (if z ≤ 2 * i + 1 then false else if Tm w sd S n i < 2000 ∧ rw (2 * i) = (S (i % n) : Nat) ∧ rw (2 * i + 1) = (Tm w sd S n i : Nat) then mkp w sd S n z rw r (i + 1) else false) = (if z ≤ 2 * i + 1 then false else if Tm w sd R n i < 2000 ∧ rw (2 * i) = (R (i % n) : Nat) ∧ rw (2 * i + 1) = (Tm w sd R n i : Nat) then mkp w sd R n z rw r (i + 1) else false)
    rw [e1, e2, ih (i + 1) t (by omega) h2 h3]
theorem mkp_od : ∀ (r i : Nat), z ≤ 2 * (i + r) + 1 → mkp w sd S n z rw (r + 1) i = false := by
  intro r
  induction r with
  | zero =>
    intro i h
    show (if z ≤ 2 * i + 1 then false else _) = false
    rw [if_pos (by omega)]
  | succ r ih =>
    intro i h
    show (if z ≤ 2 * i + 1 then false else if Tm w sd S n i < 2000 ∧ rw (2 * i) = (S (i % n) : Nat) ∧ rw (2 * i + 1) = (Tm w sd S n i : Nat) then mkp w sd S n z rw (r + 1) (i + 1) else false) = false
    rw [ih (i + 1) (by omega)]
    split
    · rfl
    · split <;> rfl
theorem mkp_po : ∀ (r i : Nat), mkp w sd S n z rw r i = true → ∀ j, i ≤ j → j < i + r → rw (2 * j) = (S (j % n) : Nat) := by
  intro r
  induction r with
  | zero =>
    intro i _ j h1 h2
    omega
  | succ r ih =>
    intro i h j h1 h2
    have h3 : (if z ≤ 2 * i + 1 then false else if Tm w sd S n i < 2000 ∧ rw (2 * i) = (S (i % n) : Nat) ∧ rw (2 * i + 1) = (Tm w sd S n i : Nat) then mkp w sd S n z rw r (i + 1) else false) = true := h
    by_cases c1 : z ≤ 2 * i + 1
    · rw [if_pos c1] at h3
      exact absurd h3 (by decide)
    · rw [if_neg c1] at h3
      by_cases c2 : Tm w sd S n i < 2000 ∧ rw (2 * i) = (S (i % n) : Nat) ∧ rw (2 * i + 1) = (Tm w sd S n i : Nat)
      · rw [if_pos c2] at h3
        by_cases e : j = i
        · rw [e]
          exact c2.2.1
        · exact ih (i + 1) h3 j (by omega) (by omega)
      · rw [if_neg c2] at h3
        exact absurd h3 (by decide)
end
theorem hasP_iff : ∀ (q l : List Nat), hasP q l = true ↔ (q.length ≤ l.length ∧ ∀ i, i < q.length → l.getD i 0 = q.getD i 0) := by
  intro q
  induction q with
  | nil =>
    intro l
    exact ⟨fun _ => ⟨Nat.zero_le _, fun i hi => absurd hi (Nat.not_lt_zero i)⟩, fun _ => rfl⟩
  | cons x q ih =>
    intro l
    cases l with
    | nil =>
      constructor
      · intro h
        have h2 : false = true := h
        exact absurd h2 (by decide)
      · rintro ⟨h, -⟩
        exact absurd h (by simp)
    | cons y l =>
      show (y == x && hasP q l) = true ↔ _
      rw [Bool.and_eq_true, beq_iff_eq, ih]
      constructor
      · rintro ⟨h1, h2, h3⟩
        refine ⟨by rw [List.length_cons, List.length_cons]; omega, fun i hi => ?_⟩
        cases i with
        | zero => exact h1
        | succ i =>
          rw [List.length_cons] at hi
          exact h3 i (by omega)
      · rintro ⟨h1, h2⟩
        rw [List.length_cons, List.length_cons] at h1
        exact ⟨h2 0 (by rw [List.length_cons]; omega), by omega, fun i hi => h2 (i + 1) (by rw [List.length_cons]; omega)⟩
theorem lexp_nd : ∀ (k : Nat) (M l : List Nat), M.Pairwise (fun a b => a ≠ b) → l ∈ lexp k M → l.Pairwise (fun a b => a ≠ b) := by
  intro k
  induction k with
  | zero =>
    intro M l _ h
    have h2 : l ∈ [[]] := h
    have e : l = [] := by simpa using h2
    rw [e]
    exact List.Pairwise.nil
  | succ k ih =>
    intro M l hp h
    obtain ⟨x, hx, h2⟩ := List.mem_flatMap.mp h
    obtain ⟨l2, h3, h4⟩ := List.mem_map.mp h2
    rw [← h4, List.pairwise_cons]
    refine ⟨fun y hy e => ?_, ih _ _ (hp.filter _) h3⟩
    have := (List.mem_filter.mp ((lexp_in k _ l2 h3).2 y hy)).2
    rw [← e] at this
    exact absurd this (by simp)
