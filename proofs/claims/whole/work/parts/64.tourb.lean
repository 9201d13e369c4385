/-! ===== the shortest way: the class ===== -/
theorem fold_mem {α : Type} (e : α → Nat × List Nat) : ∀ (M : List α) (s : Option (Nat × List Nat)) (q : Nat × List Nat), M.foldl (fun s x => up1 s (e x)) s = some q → s = some q ∨ ∃ x, x ∈ M ∧ q = e x := by
  intro M
  induction M with
  | nil =>
    intro s q h
    exact Or.inl h
  | cons x M ih =>
    intro s q h
    have h2 : M.foldl (fun s x => up1 s (e x)) (up1 s (e x)) = some q := h
    rcases ih _ _ h2 with h3 | ⟨y, h3, h4⟩
    · cases s with
      | none =>
        have h5 : some (e x) = some q := h3
        exact Or.inr ⟨x, List.mem_cons_self, (Option.some.inj h5).symm⟩
      | some t =>
        have h5 : (if (e x).1 < t.1 then some (e x) else some t) = some q := h3
        by_cases c : (e x).1 < t.1
        · rw [if_pos c] at h5
          exact Or.inr ⟨x, List.mem_cons_self, (Option.some.inj h5).symm⟩
        · rw [if_neg c] at h5
          exact Or.inl h5
    · exact Or.inr ⟨y, List.mem_cons_of_mem _ h3, h4⟩
theorem bst_s {w : Nat → Nat → Nat} {sd k : Nat} {M : List Nat} {p : Nat} (hM : M ≠ []) : ∃ x, x ∈ M ∧ bst w sd (k + 1) M p = (w p x + sd + (bst w sd k (M.filter (fun y => y != x)) x).1, x :: (bst w sd k (M.filter (fun y => y != x)) x).2) := by
  obtain ⟨q, hq⟩ := fold_ne (fun x => (w p x + sd + (bst w sd k (M.filter (fun y => y != x)) x).1, x :: (bst w sd k (M.filter (fun y => y != x)) x).2)) M hM
  rcases fold_mem _ M none q hq with h | ⟨x, h1, h2⟩
  · exact absurd h (by simp)
  · refine ⟨x, h1, ?_⟩
    show (M.foldl _ none).getD (0, []) = _
    rw [hq, h2]
    rfl
theorem bst_bd {w : Nat → Nat → Nat} {sd n : Nat} (hw : ∀ p q, okP n p → okP n q → w p q ≤ 270) (hd : sd ≤ 9) : ∀ (k : Nat) (M : List Nat) (p : Nat), (∀ x, x ∈ M → x < n) → okP n p → (bst w sd k M p).1 ≤ 279 * k + 270 := by
  intro k
  induction k with
  | zero =>
    intro M p _ hp
    have := hw p 9 hp (Or.inr rfl)
    show w p 9 ≤ _
    omega
  | succ k ih =>
    intro M p hM hp
    by_cases c : M = []
    · subst c
      exact Nat.zero_le _
    · obtain ⟨x, h1, h2⟩ := bst_s (w := w) (sd := sd) (k := k) (p := p) c
      have hx : okP n x := Or.inl (hM x h1)
      have g1 := hw p x hp hx
      have g2 := ih (M.filter (fun y => y != x)) x (fun y hy => hM y (List.mem_filter.mp hy).1) hx
      rw [h2]
      show w p x + sd + _ ≤ _
      omega
theorem bst_len {w : Nat → Nat → Nat} {sd : Nat} : ∀ (k : Nat) (M : List Nat) (p : Nat), M.length = k → M.Pairwise (fun a b => a ≠ b) → (bst w sd k M p).2.length = k := by
  intro k
  induction k with
  | zero =>
    intro M p _ _
    rfl
  | succ k ih =>
    intro M p hl hp
    obtain ⟨x, h1, h2⟩ := bst_s (w := w) (sd := sd) (k := k) (p := p) (M := M) (by
      intro e
      rw [e] at hl
      exact absurd hl (by simp))
    have g := ih (M.filter (fun y => y != x)) x (by have := fil_len M hp h1; omega) (hp.filter _)
    rw [h2]
    show (bst w sd k (M.filter (fun y => y != x)) x).2.length + 1 = k + 1
    omega
theorem rnx_cg {tb : Nat → Bool} {e d : Nat → Nat × List Nat} : ∀ i, (∀ j, j < i → tb j = true → e j = d j) → rnx tb e i = rnx tb d i := by
  intro i
  induction i with
  | zero => exact fun _ => rfl
  | succ i ih =>
    intro h
    show (if tb i then up1 (rnx tb e i) (e i) else rnx tb e i) = (if tb i then up1 (rnx tb d i) (d i) else rnx tb d i)
    rw [ih (fun j hj => h j (by omega))]
    cases hb : tb i
    · rfl
    · rw [h i (by omega) hb]
/-- the posts of a mask -/
def Pm (mem : List Nat) (mask : Nat) : List Nat := ((List.range mem.length).filter (fun i => mask.testBit i)).map (fun i => mem.getD i 0)
def Vb (w : Nat → Nat → Nat) (sd : Nat) (mem : List Nat) (mask p : Nat) : Nat × List Nat := bst w sd (Pm mem mask).length (Pm mem mask) p
/-- posts that follow each other -/
def memO (n : Nat) (mem : List Nat) : Prop := mem.length ≤ 7 ∧ (∀ i, i < mem.length → mem.getD i 0 < n) ∧ (∀ i j, i < mem.length → j < mem.length → mem.getD i 0 = mem.getD j 0 → i = j)
section
variable {w : Nat → Nat → Nat} {sd n : Nat} {mem : List Nat}
theorem Pm_in (h : memO n mem) {mask x : Nat} (hx : x ∈ Pm mem mask) : x < n := by
  obtain ⟨i, h1, h2⟩ := List.mem_map.mp hx
  have := List.mem_range.mp (List.mem_filter.mp h1).1
  rw [← h2]
  exact h.2.1 i this
theorem Pm_pw (h : memO n mem) (mask : Nat) : (Pm mem mask).Pairwise (fun a b => a ≠ b) := by
  unfold Pm
  rw [List.pairwise_map]
  have h1 : ((List.range mem.length).filter (fun i => mask.testBit i)).Pairwise (fun a b => a ≠ b) := List.Pairwise.filter _ List.nodup_range
  refine List.Pairwise.imp_of_mem (fun {a b} ha hb hab q => ?_) h1
  exact hab (h.2.2 a b (List.mem_range.mp (List.mem_filter.mp ha).1) (List.mem_range.mp (List.mem_filter.mp hb).1) q)
theorem Pm_clr (h : memO n mem) {mask i : Nat} (hm : mask < 128) (hi : i < mem.length) : (Pm mem mask).filter (fun y => y != mem.getD i 0) = Pm mem (clr mask i) := by
  unfold Pm
  rw [List.filter_map, List.filter_filter]
  congr 1
  refine List.filter_congr fun j hj => ?_
  have hj2 := List.mem_range.mp hj
  have hz := h.1
  rw [mkB3 mask hm i (by omega) j (by omega)]
  show (mem.getD j 0 != mem.getD i 0 && mask.testBit j) = (mask.testBit j && (j != i))
  by_cases c : j = i
  · rw [c]
    simp
  · have c2 : ¬ mem.getD j 0 = mem.getD i 0 := fun q => c (h.2.2 j i hj2 hi q)
    rw [show (mem.getD j 0 != mem.getD i 0) = true by simpa using c2, show (j != i) = true by simpa using c]
    simp
theorem Pm_has {i mask : Nat} (hi : i < mem.length) (hb : mask.testBit i = true) : mem.getD i 0 ∈ Pm mem mask := List.mem_map.mpr ⟨i, List.mem_filter.mpr ⟨List.mem_range.mpr hi, hb⟩, rfl⟩
def eV (w : Nat → Nat → Nat) (sd : Nat) (mem : List Nat) (mask p i : Nat) : Nat × List Nat := (w p (mem.getD i 0) + sd + (Vb w sd mem (clr mask i) (mem.getD i 0)).1, mem.getD i 0 :: (Vb w sd mem (clr mask i) (mem.getD i 0)).2)
theorem Vb_s (h : memO n mem) {mask : Nat} (hm : mask < 128) (hb : ∃ i, i < mem.length ∧ mask.testBit i = true) (p : Nat) : rnx (fun i => mask.testBit i) (eV w sd mem mask p) mem.length = some (Vb w sd mem mask p) := by
  obtain ⟨i0, i1, i2⟩ := hb
  have hin := Pm_has i1 i2
  have hne : Pm mem mask ≠ [] := fun e => by
    rw [e] at hin
    exact absurd hin (by simp)
  obtain ⟨k, hk⟩ : ∃ k, (Pm mem mask).length = k + 1 := by
    cases hh : Pm mem mask with
    | nil => exact absurd hh hne
    | cons x l => exact ⟨l.length, rfl⟩
  obtain ⟨q, hq⟩ := fold_ne (fun x => (w p x + sd + (bst w sd k ((Pm mem mask).filter (fun y => y != x)) x).1, x :: (bst w sd k ((Pm mem mask).filter (fun y => y != x)) x).2)) (Pm mem mask) hne
  have e1 : Vb w sd mem mask p = q := by
    unfold Vb
    rw [hk]
    show ((Pm mem mask).foldl _ none).getD (0, []) = q
    rw [hq]
    rfl
  have e2 := rnx_fold (fun i => mask.testBit i) (fun i => mem.getD i 0) (fun x => (w p x + sd + (bst w sd k ((Pm mem mask).filter (fun y => y != x)) x).1, x :: (bst w sd k ((Pm mem mask).filter (fun y => y != x)) x).2)) mem.length
  have e3 : (((List.range mem.length).filter (fun i => mask.testBit i)).map (fun i => mem.getD i 0)) = Pm mem mask := rfl
  rw [e3, hq] at e2
  rw [e1, e2]
  refine rnx_cg mem.length fun j hj hjb => ?_
  have hl := fil_len (Pm mem mask) (Pm_pw h mask) (Pm_has hj hjb)
  have hc := Pm_clr h hm hj
  unfold eV Vb
  rw [hc] at hl
  show _ = (w p (mem.getD j 0) + sd + (bst w sd k ((Pm mem mask).filter (fun y => y != mem.getD j 0)) (mem.getD j 0)).1, mem.getD j 0 :: (bst w sd k ((Pm mem mask).filter (fun y => y != mem.getD j 0)) (mem.getD j 0)).2)
  rw [hc, show (Pm mem (clr mask j)).length = k by omega]
theorem Vb_0 (p : Nat) : Vb w sd mem 0 p = (w p 9, []) := by
  unfold Vb
  have e : Pm mem 0 = [] := by
    unfold Pm
    rw [List.filter_eq_nil_iff.mpr (fun a _ => by simp)]
    rfl
  rw [e]
  rfl
theorem Vb_bd (hw : ∀ p q, okP n p → okP n q → w p q ≤ 270) (hd : sd ≤ 9) (h : memO n mem) (mask : Nat) {p : Nat} (hp : okP n p) : (Vb w sd mem mask p).1 ≤ 2223 := by
  have g := bst_bd hw hd (Pm mem mask).length (Pm mem mask) p (fun x hx => Pm_in h hx) hp
  have g2 : (Pm mem mask).length ≤ mem.length := by
    unfold Pm
    rw [List.length_map]
    have := List.length_filter_le (fun i => mask.testBit i) (List.range mem.length)
    rw [List.length_range] at this
    exact this
  have g3 := h.1
  unfold Vb
  omega
end
theorem mkBb : ∀ z : Nat, z < 8 → ∀ mask : Nat, mask < 128 → mask < 2 ^ z → mask = 0 ∨ (List.range z).any (fun i => mask.testBit i) = true := by decide +kernel
theorem mk_bit {z mask : Nat} (hz : z ≤ 7) (hm : mask < 2 ^ z) (h0 : mask ≠ 0) : mask < 128 ∧ ∃ i, i < z ∧ mask.testBit i = true := by
  have h1 : 2 ^ z ≤ 128 := Nat.pow_le_pow_right (by omega) hz
  refine ⟨by omega, ?_⟩
  rcases mkBb z (by omega) mask (by omega) hm with h | h
  · exact absurd h h0
  · obtain ⟨i, i1, i2⟩ := List.any_eq_true.mp h
    exact ⟨i, List.mem_range.mp i1, i2⟩
def TS (mem : List Nat) (y : gS) : Prop := y.1 34 3 = iI mem.length ∧ ∀ i, i < mem.length → y.1 35 i = iI (mem.getD i 0)
def RTb (w : Nat → Nat → Nat) (sd : Nat) (mem : List Nat) (m0 : Nat) (y : gS) : Prop := ∀ mk, mk < m0 → ∀ i, i < mem.length → mk.testBit i = false → y.1 36 (mk * 7 + i) = iI ((Vb w sd mem mk (mem.getD i 0)).1 : Nat)
section
variable {w : Nat → Nat → Nat} {sd n : Nat} {mem : List Nat} {y : gS}
theorem s_thr (hY : YD n w sd y) (h : memO n mem) (hT : TS mem y) {m0 : Nat} (hR : RTb w sd mem m0 y) {p mask i : Nat} (hp : okP n p) (hm : mask < 128) (hm0 : mask ≤ m0) (hi : i < mem.length) (hb : mask.testBit i = true) : f_X7_throughFirst y (iI p) (iI mask) (iI i) = some (iI ((eV w sd mem mask p i).1 : Nat)) := by
  have hz := h.1
  obtain ⟨b1, b2, b3, b4⟩ := mkB2 mask hm i (by omega)
  have b5 := b4 hb
  have q1 := hT.2 i hi
  have wl := (hY.2.2.2.2 p (mem.getD i 0) hp (Or.inl (h.2.1 i hi))).2
  have st := s_stand hY.2.2.2.1
  have q2 := hR (clr mask i) (by omega) i hi b3
  have t1 : (((clr mask i : Nat) : Int) * 7 + (i : Int)).toNat = clr mask i * 7 + i := by omega
  unfold f_X7_throughFirst
  simp +decide (maxSteps := 2000000) (disch := omega) only [↓gl_p, ↓bs_p, iI_lit, iI_neg, iI_add, iI_sub, iI_mul, gk_p, bs_p, bz0, bz1, pI_row, pI_snd, pA_row, pA_snd, pL_fst, pL_row, pB_fst, pB_row, upd_at, ↓reduceIte, Int.reduceToNat, Nat.reduceEqDiff, iI_lt, iI_le, iI_eq, iI_inb, iI_nat, iI_nz, b1, q1, wl, st, t1, q2, Int.toNat_natCast]
  rfl
def nev (o : Option (Nat × List Nat)) : Int := match o with | none => 2147483647 | some B => (B.1 : Int)
theorem w_lf21 (hY : YD n w sd y) (hw : ∀ p q, okP n p → okP n q → w p q ≤ 270) (hd : sd ≤ 9) (h : memO n mem) (hT : TS mem y) {m0 : Nat} (hR : RTb w sd mem m0 y) {p mask : Nat} (hp : okP n p) (hm : mask < 128) (hm0 : mask ≤ m0) : ∀ (r i f : Nat), i + r = mem.length → r ≤ f → f_X7_leastFrom_21 y (f + 1) (iI p) (iI mask) (iI (nev (rnx (fun i => mask.testBit i) (eV w sd mem mask p) i))) (iI i) = some (iI (nev (rnx (fun i => mask.testBit i) (eV w sd mem mask p) mem.length))) := by
  have hz := h.1
  have ev : ∀ j, j < mem.length → (eV w sd mem mask p j).1 ≤ 2600 := fun j hj => by
    have hj2 : okP n (mem.getD j 0) := Or.inl (h.2.1 j hj)
    have g1 := Vb_bd hw hd h (clr mask j) hj2
    have g2 := hw p (mem.getD j 0) hp hj2
    show w p (mem.getD j 0) + sd + (Vb w sd mem (clr mask j) (mem.getD j 0)).1 ≤ 2600
    omega
  intro r
  induction r with
  | zero =>
    intro i f hi hf
    have g : ((mem.length : Nat) : Int) ≤ (i : Int) := by omega
    rw [f_X7_leastFrom_21, show mem.length = i by omega]
    have e : y.1 34 3 = iI i := by
      rw [hT.1, show mem.length = i by omega]
    simp +decide (maxSteps := 2000000) (disch := omega) only [↓gl_p, ↓bs_p, iI_lit, iI_neg, iI_add, iI_sub, iI_mul, gk_p, bs_p, bz0, bz1, pI_row, pI_snd, pA_row, pA_snd, pL_fst, pL_row, pB_fst, pB_row, upd_at, ↓reduceIte, Int.reduceToNat, Nat.reduceEqDiff, iI_lt, iI_le, iI_eq, iI_inb, iI_nat, iI_nz, e, Int.le_refl]
  | succ r ih =>
    intro i f hi hf
    obtain ⟨f, rfl⟩ : ∃ q, f = q + 1 := ⟨f - 1, by omega⟩
    have g : ¬ ((mem.length : Nat) : Int) ≤ (i : Int) := by omega
    have b1 := mkB1 mask hm i (by omega)
    have k2 := ih (i + 1) f (by omega) (by omega)
    have e4 := hT.1
    have es : rnx (fun i => mask.testBit i) (eV w sd mem mask p) (i + 1) = if mask.testBit i then up1 (rnx (fun i => mask.testBit i) (eV w sd mem mask p) i) (eV w sd mem mask p i) else rnx (fun i => mask.testBit i) (eV w sd mem mask p) i := rfl
    rw [f_X7_leastFrom_21]
    cases hb : mask.testBit i
    · rw [hb] at b1 es
      have b2 : (iI mask >>> (iI i &&& iI 31)) &&& iI 1 = iI 0 := b1
      have es2 : rnx (fun i => mask.testBit i) (eV w sd mem mask p) (i + 1) = rnx (fun i => mask.testBit i) (eV w sd mem mask p) i := es
      rw [es2] at k2
      simp +decide (maxSteps := 2000000) (disch := omega) only [↓gl_p, ↓bs_p, iI_lit, iI_neg, iI_add, iI_sub, iI_mul, gk_p, bs_p, bz0, bz1, pI_row, pI_snd, pA_row, pA_snd, pL_fst, pL_row, pB_fst, pB_row, upd_at, ↓reduceIte, Int.reduceToNat, Nat.reduceEqDiff, iI_lt, iI_le, iI_eq, iI_inb, iI_nat, iI_nz, e4, g, b2]
      exact k2
    · rw [hb] at b1 es
      have b2 : (iI mask >>> (iI i &&& iI 31)) &&& iI 1 = iI 1 := b1
      have es2 : rnx (fun i => mask.testBit i) (eV w sd mem mask p) (i + 1) = up1 (rnx (fun i => mask.testBit i) (eV w sd mem mask p) i) (eV w sd mem mask p i) := es
      rw [es2] at k2
      have th := s_thr hY h hT hR hp hm hm0 (by omega) hb
      have evi := ev i (by omega)
      have ej : jmin (iI (nev (rnx (fun i => mask.testBit i) (eV w sd mem mask p) i))) (iI ((eV w sd mem mask p i).1 : Nat)) = iI (nev (up1 (rnx (fun i => mask.testBit i) (eV w sd mem mask p) i) (eV w sd mem mask p i))) := by
        rcases rnx_p (tb := fun i => mask.testBit i) (e := eV w sd mem mask p) i with ⟨h1, -⟩ | ⟨B, j, h1, h2, h3, h4, -⟩
        · rw [h1]
          show jmin (iI 2147483647) (iI ((eV w sd mem mask p i).1 : Nat)) = iI ((eV w sd mem mask p i).1 : Nat)
          rw [jmin_i (by omega) (by omega) (by omega) (by omega), if_pos (by omega)]
        · rw [h1]
          have evj := ev j (by omega)
          rw [h4] at evj
          show jmin (iI (B.1 : Nat)) (iI ((eV w sd mem mask p i).1 : Nat)) = iI (nev (if (eV w sd mem mask p i).1 < B.1 then some (eV w sd mem mask p i) else some B))
          rw [jmin_i (by omega) (by omega) (by omega) (by omega)]
          by_cases c : (eV w sd mem mask p i).1 < B.1
          · rw [if_pos (by omega), if_pos c]
            rfl
          · rw [if_neg (by omega), if_neg c]
            rfl
      rw [← ej] at k2
      simp +decide (maxSteps := 2000000) (disch := omega) only [↓gl_p, ↓bs_p, iI_lit, iI_neg, iI_add, iI_sub, iI_mul, gk_p, bs_p, bz0, bz1, pI_row, pI_snd, pA_row, pA_snd, pL_fst, pL_row, pB_fst, pB_row, upd_at, ↓reduceIte, Int.reduceToNat, Nat.reduceEqDiff, iI_lt, iI_le, iI_eq, iI_inb, iI_nat, iI_nz, e4, g, b2, th]
      exact k2
theorem s_lf (hY : YD n w sd y) (hw : ∀ p q, okP n p → okP n q → w p q ≤ 270) (hd : sd ≤ 9) (h : memO n mem) (hT : TS mem y) {m0 : Nat} (hR : RTb w sd mem m0 y) {p mask : Nat} (hp : okP n p) (hm : mask < 2 ^ mem.length) (hm0 : mask ≤ m0) : f_X7_leastFrom y (iI p) (iI mask) = some (iI ((Vb w sd mem mask p).1 : Nat)) := by
  have hz := h.1
  unfold f_X7_leastFrom
  by_cases c : mask = 0
  · subst c
    have wl : f_X8_way y (iI p) (iI 9) = some (iI (w p 9 : Nat)) := (hY.2.2.2.2 p 9 hp (Or.inr rfl)).2
    rw [Vb_0]
    simp +decide (maxSteps := 2000000) (disch := omega) only [↓gl_p, ↓bs_p, iI_lit, iI_neg, iI_add, iI_sub, iI_mul, gk_p, bs_p, bz0, bz1, pI_row, pI_snd, pA_row, pA_snd, pL_fst, pL_row, pB_fst, pB_row, upd_at, ↓reduceIte, Int.reduceToNat, Nat.reduceEqDiff, iI_lt, iI_le, iI_eq, iI_inb, iI_nat, iI_nz, wl]
  · obtain ⟨b1, b2⟩ := mk_bit hz hm c
    have c2 : ¬ (mask : Int) = 0 := by omega
    have k2 := w_lf21 hY hw hd h hT hR hp b1 hm0 mem.length 0 999999 (by omega) (by omega)
    rw [Vb_s h b1 b2 p] at k2
    simp +decide (maxSteps := 2000000) (disch := omega) only [↓gl_p, ↓bs_p, iI_lit, iI_neg, iI_add, iI_sub, iI_mul, gk_p, bs_p, bz0, bz1, pI_row, pI_snd, pA_row, pA_snd, pL_fst, pL_row, pB_fst, pB_row, upd_at, ↓reduceIte, Int.reduceToNat, Nat.reduceEqDiff, iI_lt, iI_le, iI_eq, iI_inb, iI_nat, iI_nz, c2]
    exact k2
theorem s_fol (hY : YD n w sd y) (hw : ∀ p q, okP n p → okP n q → w p q ≤ 270) (hd : sd ≤ 9) (h : memO n mem) (hT : TS mem y) {m0 : Nat} (hR : RTb w sd mem m0 y) {p mask : Nat} (hp : okP n p) (hm : mask < 2 ^ mem.length) (hm0 : mask ≤ m0) (h0 : mask ≠ 0) : ∃ j, j < mem.length ∧ mask.testBit j = true ∧ f_X7_firstOfLeast y (iI p) (iI mask) = some (iI (j : Nat)) ∧ Vb w sd mem mask p = eV w sd mem mask p j := by
  have hz := h.1
  obtain ⟨b1, b2⟩ := mk_bit hz hm h0
  have vs := Vb_s (w := w) (sd := sd) h b1 b2 p
  have vb := Vb_bd hw hd h mask hp
  rcases rnx_p (tb := fun i => mask.testBit i) (e := eV w sd mem mask p) mem.length with ⟨h1, -⟩ | ⟨B, j, h1, h2, h3, h4, h5, h6⟩
  · rw [h1] at vs
    exact absurd vs (by simp)
  · rw [h1] at vs
    have eB := Option.some.inj vs
    refine ⟨j, h2, h3, ?_, by rw [← eB, h4]⟩
    have key : ∀ (r i f : Nat), i + r = j → r ≤ f → f_X7_firstOfLeast_10 y (f + 1) (iI p) (iI mask) (iI (B.1 : Nat)) (iI i) = some (iI (j : Nat)) := by
      intro r
      induction r with
      | zero =>
        intro i f hi hf
        have e : i = j := by omega
        subst e
        have g : ¬ ((mem.length : Nat) : Int) ≤ (i : Int) := by omega
        have c1 := mkB1 mask b1 i (by omega)
        rw [h3] at c1
        have c2 : (iI mask >>> (iI i &&& iI 31)) &&& iI 1 = iI 1 := c1
        have th := s_thr hY h hT hR hp b1 hm0 h2 h3
        rw [h4] at th
        rw [f_X7_firstOfLeast_10]
        simp +decide (maxSteps := 2000000) (disch := omega) only [↓gl_p, ↓bs_p, iI_lit, iI_neg, iI_add, iI_sub, iI_mul, gk_p, bs_p, bz0, bz1, pI_row, pI_snd, pA_row, pA_snd, pL_fst, pL_row, pB_fst, pB_row, upd_at, ↓reduceIte, Int.reduceToNat, Nat.reduceEqDiff, iI_lt, iI_le, iI_eq, iI_inb, iI_nat, iI_nz, hT.1, g, c2, th]
      | succ r ih =>
        intro i f hi hf
        obtain ⟨f, rfl⟩ : ∃ q, f = q + 1 := ⟨f - 1, by omega⟩
        have g : ¬ ((mem.length : Nat) : Int) ≤ (i : Int) := by omega
        have c1 := mkB1 mask b1 i (by omega)
        have k2 := ih (i + 1) f (by omega) (by omega)
        rw [f_X7_firstOfLeast_10]
        cases hb : mask.testBit i
        · rw [hb] at c1
          have c2 : (iI mask >>> (iI i &&& iI 31)) &&& iI 1 = iI 0 := c1
          simp +decide (maxSteps := 2000000) (disch := omega) only [↓gl_p, ↓bs_p, iI_lit, iI_neg, iI_add, iI_sub, iI_mul, gk_p, bs_p, bz0, bz1, pI_row, pI_snd, pA_row, pA_snd, pL_fst, pL_row, pB_fst, pB_row, upd_at, ↓reduceIte, Int.reduceToNat, Nat.reduceEqDiff, iI_lt, iI_le, iI_eq, iI_inb, iI_nat, iI_nz, hT.1, g, c2]
          exact k2
        · rw [hb] at c1
          have c2 : (iI mask >>> (iI i &&& iI 31)) &&& iI 1 = iI 1 := c1
          have th := s_thr hY h hT hR hp b1 hm0 (i := i) (by omega) hb
          have q1 := h5 i (by omega) hb
          have q2 : (eV w sd mem mask p i).1 ≤ 2600 := by
            have hj2 : okP n (mem.getD i 0) := Or.inl (h.2.1 i (by omega))
            have g1 := Vb_bd hw hd h (clr mask i) hj2
            have g2 := hw p (mem.getD i 0) hp hj2
            show w p (mem.getD i 0) + sd + (Vb w sd mem (clr mask i) (mem.getD i 0)).1 ≤ 2600
            omega
          have q3 : ¬ (((eV w sd mem mask p i).1 : Nat) : Int) = ((B.1 : Nat) : Int) := by omega
          simp +decide (maxSteps := 2000000) (disch := omega) only [↓gl_p, ↓bs_p, iI_lit, iI_neg, iI_add, iI_sub, iI_mul, gk_p, bs_p, bz0, bz1, pI_row, pI_snd, pA_row, pA_snd, pL_fst, pL_row, pB_fst, pB_row, upd_at, ↓reduceIte, Int.reduceToNat, Nat.reduceEqDiff, iI_lt, iI_le, iI_eq, iI_inb, iI_nat, iI_nz, hT.1, g, c2, th, q3]
          exact k2
    have lf := s_lf hY hw hd h hT hR hp hm hm0
    rw [← eB] at lf
    unfold f_X7_firstOfLeast
    simp +decide (maxSteps := 2000000) (disch := omega) only [↓gl_p, ↓bs_p, iI_lit, iI_neg, iI_add, iI_sub, iI_mul, gk_p, bs_p, bz0, bz1, pI_row, pI_snd, pA_row, pA_snd, pL_fst, pL_row, pB_fst, pB_row, upd_at, ↓reduceIte, Int.reduceToNat, Nat.reduceEqDiff, iI_lt, iI_le, iI_eq, iI_inb, iI_nat, iI_nz, lf]
    exact key j 0 999999 (by omega) (by omega)
theorem w_sa (hY : YD n w sd y) (hw : ∀ p q, okP n p → okP n q → w p q ≤ 270) (hd : sd ≤ 9) (h : memO n mem) (hT : TS mem y) {m0 : Nat} (hR : RTb w sd mem m0 y) {k : Nat} (hk : k < 7) : ∀ (r st f p mask : Nat), st + r = k → r ≤ f → okP n p → mask < 2 ^ mem.length → mask ≤ m0 → r < (Vb w sd mem mask p).2.length → f_X7_stopAt_15 y (f + 2) (iI k) (iI p) (iI mask) (iI st) = some (iI ((Vb w sd mem mask p).2.getD r 0)) := by
  have hz := h.1
  have h128 : 2 ^ mem.length ≤ 128 := Nat.pow_le_pow_right (by omega) hz
  intro r
  induction r with
  | zero =>
    intro st f p mask hst hf hp hm hm0 hl
    have h0 : mask ≠ 0 := fun e => by
      rw [e, Vb_0] at hl
      exact absurd hl (by simp)
    obtain ⟨j, j1, j2, j3, j4⟩ := s_fol hY hw hd h hT hR hp hm hm0 h0
    obtain ⟨b1, b2, b3, b4⟩ := mkB2 mask (by omega) j (by omega)
    have q1 := hT.2 j j1
    have g : ¬ (k : Int) < (st : Int) := by omega
    have g2 : ¬ (mask : Int) = 0 := by omega
    have g3 : (k : Int) < (st : Int) + 1 := by omega
    rw [j4]
    rw [f_X7_stopAt_15]
    simp +decide (maxSteps := 2000000) (disch := omega) only [↓gl_p, ↓bs_p, iI_lit, iI_neg, iI_add, iI_sub, iI_mul, gk_p, bs_p, bz0, bz1, pI_row, pI_snd, pA_row, pA_snd, pL_fst, pL_row, pB_fst, pB_row, upd_at, ↓reduceIte, Int.reduceToNat, Nat.reduceEqDiff, iI_lt, iI_le, iI_eq, iI_inb, iI_nat, iI_nz, g, g2, j3, b1, q1, Int.toNat_natCast]
    rw [f_X7_stopAt_15]
    simp +decide (maxSteps := 2000000) (disch := omega) only [↓gl_p, ↓bs_p, iI_lit, iI_neg, iI_add, iI_sub, iI_mul, gk_p, bs_p, bz0, bz1, pI_row, pI_snd, pA_row, pA_snd, pL_fst, pL_row, pB_fst, pB_row, upd_at, ↓reduceIte, Int.reduceToNat, Nat.reduceEqDiff, iI_lt, iI_le, iI_eq, iI_inb, iI_nat, iI_nz, g3]
    rfl
  | succ r ih =>
    intro st f p mask hst hf hp hm hm0 hl
    obtain ⟨f, rfl⟩ : ∃ q, f = q + 1 := ⟨f - 1, by omega⟩
    have h0 : mask ≠ 0 := fun e => by
      rw [e, Vb_0] at hl
      exact absurd hl (by simp)
    obtain ⟨j, j1, j2, j3, j4⟩ := s_fol hY hw hd h hT hR hp hm hm0 h0
    obtain ⟨b1, b2, b3, b4⟩ := mkB2 mask (by omega) j (by omega)
    have b5 := b4 j2
    have q1 := hT.2 j j1
    have g : ¬ (k : Int) < (st : Int) := by omega
    have g2 : ¬ (mask : Int) = 0 := by omega
    rw [j4] at hl
    have hl2 : r + 1 < (Vb w sd mem (clr mask j) (mem.getD j 0)).2.length + 1 := hl
    have k2 := ih (st + 1) f (mem.getD j 0) (clr mask j) (by omega) (by omega) (Or.inl (h.2.1 j j1)) (by omega) (by omega) (by omega)
    rw [j4]
    rw [f_X7_stopAt_15]
    simp +decide (maxSteps := 2000000) (disch := omega) only [↓gl_p, ↓bs_p, iI_lit, iI_neg, iI_add, iI_sub, iI_mul, gk_p, bs_p, bz0, bz1, pI_row, pI_snd, pA_row, pA_snd, pL_fst, pL_row, pB_fst, pB_row, upd_at, ↓reduceIte, Int.reduceToNat, Nat.reduceEqDiff, iI_lt, iI_le, iI_eq, iI_inb, iI_nat, iI_nz, g, g2, j3, b1, q1, Int.toNat_natCast]
    exact k2
end
def tuR (c j : Nat) : Bool := (c == 34 && j == 3) || c == 35 || c == 36
def t36 (c _j : Nat) : Bool := c == 36
section
variable {w : Nat → Nat → Nat} {sd n : Nat} {mem : List Nat}
theorem w_rk72 {K : Int32 → gS → Option (Int32 × gS)} {y : gS} (hY : YD n w sd y) (hw : ∀ p q, okP n p → okP n q → w p q ≤ 270) (hd : sd ≤ 9) (h : memO n mem) (hT : TS mem y) {mask : Nat} (hm : mask < 2 ^ mem.length) : ∀ (r i f : Nat) (σ : gS), i + r = mem.length → r ≤ f → Ch t36 y σ → RTb w sd mem mask σ → (∀ j, j < i → mask.testBit j = false → σ.1 36 (mask * 7 + j) = iI ((Vb w sd mem mask (mem.getD j 0)).1 : Nat)) → ∃ τ, f_X7_reckon_72 K (f + 1) (iI mask) (iI i) σ = K (iI (mask + 1 : Nat)) τ ∧ Ch t36 y τ ∧ RTb w sd mem (mask + 1) τ := by
  have hz := h.1
  have h128 : 2 ^ mem.length ≤ 128 := Nat.pow_le_pow_right (by omega) hz
  intro r
  induction r with
  | zero =>
    intro i f σ hi hf hc hR ho
    have e4 : σ.1 34 3 = iI mem.length := (hc.2 34 3 rfl).trans hT.1
    have g : ((mem.length : Nat) : Int) ≤ (i : Int) := by omega
    refine ⟨σ, ?_, hc, fun mk hmk j hj hb => ?_⟩
    · rw [f_X7_reckon_72]
      simp +decide (maxSteps := 2000000) (disch := omega) only [↓gl_p, ↓bs_p, iI_lit, iI_neg, iI_add, iI_sub, iI_mul, gk_p, bs_p, bz0, bz1, pI_row, pI_snd, pA_row, pA_snd, pL_fst, pL_row, pB_fst, pB_row, upd_at, ↓reduceIte, Int.reduceToNat, Nat.reduceEqDiff, iI_lt, iI_le, iI_eq, iI_inb, iI_nat, iI_nz, e4, g]
      rfl
    · by_cases c : mk = mask
      · subst c
        exact ho j (by omega) hb
      · exact hR mk (by omega) j hj hb
  | succ r ih =>
    intro i f σ hi hf hc hR ho
    obtain ⟨f, rfl⟩ : ∃ q, f = q + 1 := ⟨f - 1, by omega⟩
    have sT : TS mem σ := ⟨(hc.2 34 3 rfl).trans hT.1, fun j hj => (hc.2 35 j rfl).trans (hT.2 j hj)⟩
    have sY := YD_ch hY hc (fun _ => rfl) (fun _ => rfl)
    have g : ¬ ((mem.length : Nat) : Int) ≤ (i : Int) := by omega
    have c1 := mkB1 mask (by omega) i (by omega)
    rw [f_X7_reckon_72]
    cases hb : mask.testBit i
    · rw [hb] at c1
      have c2 : (iI mask >>> (iI i &&& iI 31)) &&& iI 1 = iI 0 := c1
      have q1 := sT.2 i (by omega)
      have lf := s_lf sY hw hd h sT hR (p := mem.getD i 0) (Or.inl (h.2.1 i (by omega))) hm (Nat.le_refl _)
      have t1 : ((mask : Int) * 7 + (i : Int)).toNat = mask * 7 + i := by omega
      obtain ⟨τ, a1, a2, a3⟩ := ih (i + 1) f (pI σ 36 (mask * 7 + i) (iI ((Vb w sd mem mask (mem.getD i 0)).1 : Nat))) (by omega) (by omega) (Ch_pI hc rfl) (fun mk hmk j hj hb2 => by
        rw [pI_row, if_pos rfl, upd_at, if_neg (by omega)]
        exact hR mk hmk j hj hb2) (fun j hj hb2 => by
        rw [pI_row, if_pos rfl, upd_at]
        by_cases e : j = i
        · rw [if_pos (by omega), e]
        · rw [if_neg (by omega)]
          exact ho j (by omega) hb2)
      refine ⟨τ, ?_, a2, a3⟩
      simp +decide (maxSteps := 2000000) (disch := omega) only [↓gl_p, ↓bs_p, iI_lit, iI_neg, iI_add, iI_sub, iI_mul, gk_p, bs_p, bz0, bz1, pI_row, pI_snd, pA_row, pA_snd, pL_fst, pL_row, pB_fst, pB_row, upd_at, ↓reduceIte, Int.reduceToNat, Nat.reduceEqDiff, iI_lt, iI_le, iI_eq, iI_inb, iI_nat, iI_nz, sT.1, g, c2, q1, lf, t1, Int.toNat_natCast]
      exact a1
    · rw [hb] at c1
      have c2 : (iI mask >>> (iI i &&& iI 31)) &&& iI 1 = iI 1 := c1
      obtain ⟨τ, a1, a2, a3⟩ := ih (i + 1) f σ (by omega) (by omega) hc hR (fun j hj hb2 => by
        by_cases e : j = i
        · rw [e, hb] at hb2
          exact absurd hb2 (by decide)
        · exact ho j (by omega) hb2)
      refine ⟨τ, ?_, a2, a3⟩
      simp +decide (maxSteps := 2000000) (disch := omega) only [↓gl_p, ↓bs_p, iI_lit, iI_neg, iI_add, iI_sub, iI_mul, gk_p, bs_p, bz0, bz1, pI_row, pI_snd, pA_row, pA_snd, pL_fst, pL_row, pB_fst, pB_row, upd_at, ↓reduceIte, Int.reduceToNat, Nat.reduceEqDiff, iI_lt, iI_le, iI_eq, iI_inb, iI_nat, iI_nz, sT.1, g, c2]
      exact a1
theorem w_rk60 {y : gS} (hY : YD n w sd y) (hw : ∀ p q, okP n p → okP n q → w p q ≤ 270) (hd : sd ≤ 9) (h : memO n mem) (hT : TS mem y) : ∀ (r mask f : Nat) (σ : gS), mask + r = 2 ^ mem.length → r ≤ f → Ch t36 y σ → RTb w sd mem mask σ → ∃ τ, f_X7_reckon_60 (f + 1) (iI mask) σ = some (iI ((Vb w sd mem (2 ^ mem.length - 1) 9).1 : Nat), τ) ∧ Ch t36 y τ ∧ RTb w sd mem (2 ^ mem.length) τ := by
  have hz := h.1
  have h128 : 2 ^ mem.length ≤ 128 := Nat.pow_le_pow_right (by omega) hz
  have hpos : 0 < 2 ^ mem.length := Nat.pow_pos (by omega)
  have b4 := mkB4 mem.length (by omega)
  intro r
  induction r with
  | zero =>
    intro mask f σ hi hf hc hR
    have sT : TS mem σ := ⟨(hc.2 34 3 rfl).trans hT.1, fun j hj => (hc.2 35 j rfl).trans (hT.2 j hj)⟩
    have sY := YD_ch hY hc (fun _ => rfl) (fun _ => rfl)
    have g : ((2 ^ mem.length : Nat) : Int) ≤ (mask : Int) := by omega
    have lf : f_X7_leastFrom σ (iI 9) (iI ((2 ^ mem.length - 1 : Nat) : Int)) = _ := s_lf sY hw hd h sT hR (p := 9) (mask := 2 ^ mem.length - 1) (Or.inr rfl) (by omega) (by omega)
    have e1 : ((2 ^ mem.length : Nat) : Int) - 1 = ((2 ^ mem.length - 1 : Nat) : Int) := by omega
    refine ⟨σ, ?_, hc, by rw [show 2 ^ mem.length = mask by omega]; exact hR⟩
    rw [f_X7_reckon_60]
    simp +decide (maxSteps := 2000000) (disch := omega) only [↓gl_p, ↓bs_p, iI_lit, iI_neg, iI_add, iI_sub, iI_mul, gk_p, bs_p, bz0, bz1, pI_row, pI_snd, pA_row, pA_snd, pL_fst, pL_row, pB_fst, pB_row, upd_at, ↓reduceIte, Int.reduceToNat, Nat.reduceEqDiff, iI_lt, iI_le, iI_eq, iI_inb, iI_nat, iI_nz, sT.1, b4, g, e1, lf]
  | succ r ih =>
    intro mask f σ hi hf hc hR
    obtain ⟨f, rfl⟩ : ∃ q, f = q + 1 := ⟨f - 1, by omega⟩
    have sT : TS mem σ := ⟨(hc.2 34 3 rfl).trans hT.1, fun j hj => (hc.2 35 j rfl).trans (hT.2 j hj)⟩
    have sY := YD_ch hY hc (fun _ => rfl) (fun _ => rfl)
    have g : ¬ ((2 ^ mem.length : Nat) : Int) ≤ (mask : Int) := by omega
    obtain ⟨σ2, a1, a2, a3⟩ := w_rk72 (K := f_X7_reckon_60 (f + 1)) sY hw hd h sT (mask := mask) (by omega) mem.length 0 999999 σ (by omega) (by omega) (Ch_refl _ _) hR (fun j hj => absurd hj (by omega))
    obtain ⟨τ, b1, b2, b3⟩ := ih (mask + 1) f σ2 (by omega) (by omega) (Ch_tr hc a2) a3
    refine ⟨τ, ?_, b2, b3⟩
    rw [f_X7_reckon_60]
    simp +decide (maxSteps := 2000000) (disch := omega) only [↓gl_p, ↓bs_p, iI_lit, iI_neg, iI_add, iI_sub, iI_mul, gk_p, bs_p, bz0, bz1, pI_row, pI_snd, pA_row, pA_snd, pL_fst, pL_row, pB_fst, pB_row, upd_at, ↓reduceIte, Int.reduceToNat, Nat.reduceEqDiff, iI_lt, iI_le, iI_eq, iI_inb, iI_nat, iI_nz, sT.1, b4, g]
    rw [show f_X7_reckon_72 (f_X7_reckon_60 (f + 1)) gN (iI mask) (iI 0) σ = _ from a1]
    exact b1
end
