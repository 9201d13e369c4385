/-! ===== the next order ===== -/
def fiX (g : Nat → Nat) : Nat → Option Nat
  | 0 => none
  | c + 1 => if g c ≤ g (c + 1) then some c else fiX g c
def fjX (g : Nat → Nat) (v : Nat) : Nat → Nat
  | 0 => 0
  | c + 1 => if v ≤ g (c + 1) then c + 1 else fjX g v c
def nxr (n : Nat) (g : Nat → Nat) (i q : Nat) : Nat :=
  let h := fun r => if r = fjX g (g i) (n - 1) then g i else if r = i then g (fjX g (g i) (n - 1)) else g r
  if q ≤ i then h q else h (i + n - q)
theorem fiX_lt {g : Nat → Nat} {i : Nat} : ∀ c, fiX g c = some i → i < c := by
  intro c
  induction c with
  | zero =>
    intro h
    have h2 : none = some i := h
    exact absurd h2 (by simp)
  | succ c ih =>
    intro h
    have h2 : (if g c ≤ g (c + 1) then some c else fiX g c) = some i := h
    by_cases q : g c ≤ g (c + 1)
    · rw [if_pos q] at h2
      have := Option.some.inj h2
      omega
    · rw [if_neg q] at h2
      have := ih h2
      omega
theorem fjX_rg {g : Nat → Nat} {i : Nat} : ∀ c, i ≤ c → i ≤ fjX g (g i) c ∧ fjX g (g i) c ≤ c := by
  intro c
  induction c with
  | zero =>
    intro h
    show i ≤ 0 ∧ 0 ≤ 0
    omega
  | succ c ih =>
    intro h
    show i ≤ (if g i ≤ g (c + 1) then c + 1 else fjX g (g i) c) ∧ (if g i ≤ g (c + 1) then c + 1 else fjX g (g i) c) ≤ c + 1
    by_cases q : g i ≤ g (c + 1)
    · rw [if_pos q]
      omega
    · rw [if_neg q]
      by_cases e : i = c + 1
      · rw [e] at q
        omega
      · have := ih (by omega)
        omega
def orC (c _j : Nat) : Bool := c == 33
section
variable {n N : Nat} {g a : Nat → Nat}
theorem w_n4 {m : gS} (hn : n ≤ 9) (hg : ∀ q, q < n → g q < N) (ha : ∀ u v, u < N → v < N → (a u ≤ a v ↔ u ≤ v)) (hb : ∀ u, u < N → a u ≤ 9) (ho : ∀ q, q < n → m.1 33 q = iI (a (g q))) : ∀ (c f : Nat), c + 1 ≤ n → c ≤ f → f_X10_nextOrder_4 (f + 1) (iI n) (iI ((c : Int) - 1)) m = f_X10_nextOrder_31 (iI n) (iI (match fiX g c with | none => -1 | some i => (i : Int))) m := by
  intro c
  induction c with
  | zero =>
    intro f hc hf
    rw [f_X10_nextOrder_4]
    have g0 : ((0 : Nat) : Int) - 1 < 0 := by omega
    simp +decide (maxSteps := 2000000) (disch := omega) only [↓gl_p, ↓bs_p, iI_lit, iI_neg, iI_add, iI_sub, iI_mul, gk_p, bs_p, bz0, bz1, pI_row, pI_snd, pA_row, pA_snd, pL_fst, pL_row, pB_fst, pB_row, upd_at, ↓reduceIte, Int.reduceToNat, Nat.reduceEqDiff, iI_lt, iI_le, iI_eq, iI_inb, iI_nat, iI_nz, g0]
    rfl
  | succ c ih =>
    intro f hc hf
    obtain ⟨f, rfl⟩ : ∃ q, f = q + 1 := ⟨f - 1, by omega⟩
    have e0 : ((c + 1 : Nat) : Int) - 1 = (c : Int) := by omega
    have g0 : ¬ (c : Int) < 0 := by omega
    have t1 : ((c : Int) + 1).toNat = c + 1 := by omega
    have q1 := ho c (by omega)
    have q2 := ho (c + 1) (by omega)
    have b1 := hb (g c) (hg c (by omega))
    have b2 := hb (g (c + 1)) (hg (c + 1) (by omega))
    have hh := ha (g c) (g (c + 1)) (hg c (by omega)) (hg (c + 1) (by omega))
    rw [f_X10_nextOrder_4, e0]
    by_cases h : g c ≤ g (c + 1)
    · have h2 : ((a (g c) : Nat) : Int) ≤ ((a (g (c + 1)) : Nat) : Int) := by
        have := hh.mpr h
        omega
      rw [show fiX g (c + 1) = some c from if_pos h]
      simp +decide (maxSteps := 2000000) (disch := omega) only [↓gl_p, ↓bs_p, iI_lit, iI_neg, iI_add, iI_sub, iI_mul, gk_p, bs_p, bz0, bz1, pI_row, pI_snd, pA_row, pA_snd, pL_fst, pL_row, pB_fst, pB_row, upd_at, ↓reduceIte, Int.reduceToNat, Nat.reduceEqDiff, iI_lt, iI_le, iI_eq, iI_inb, iI_nat, iI_nz, g0, t1, q1, q2, h2, Int.toNat_natCast]
    · have h2 : ¬ ((a (g c) : Nat) : Int) ≤ ((a (g (c + 1)) : Nat) : Int) := by
        intro q
        exact h (hh.mp (by omega))
      rw [show fiX g (c + 1) = fiX g c from if_neg h]
      have k2 := ih f (by omega) (by omega)
      simp +decide (maxSteps := 2000000) (disch := omega) only [↓gl_p, ↓bs_p, iI_lit, iI_neg, iI_add, iI_sub, iI_mul, gk_p, bs_p, bz0, bz1, pI_row, pI_snd, pA_row, pA_snd, pL_fst, pL_row, pB_fst, pB_row, upd_at, ↓reduceIte, Int.reduceToNat, Nat.reduceEqDiff, iI_lt, iI_le, iI_eq, iI_inb, iI_nat, iI_nz, g0, t1, q1, q2, h2, Int.toNat_natCast]
      exact k2
theorem w_n41 {m : gS} (hn : n ≤ 9) (hg : ∀ q, q < n → g q < N) (ha : ∀ u v, u < N → v < N → (a u ≤ a v ↔ u ≤ v)) (hb : ∀ u, u < N → a u ≤ 9) (ho : ∀ q, q < n → m.1 33 q = iI (a (g q))) {i : Nat} : ∀ (c f : Nat), i ≤ c → c < n → c ≤ f → f_X10_nextOrder_41 (f + 1) (iI n) (iI i) (iI c) m = (f_X10_exchange m (iI i) (iI (fjX g (g i) c : Nat))).bind fun q1 => f_X10_nextOrder_78 gN (iI ((i : Int) + 1)) (iI ((n : Int) - 1)) q1 := by
  intro c
  induction c with
  | zero =>
    intro f h1 h2 hf
    have e : i = 0 := by omega
    subst e
    have q1 := ho 0 (by omega)
    have b1 := hb (g 0) (hg 0 (by omega))
    rw [f_X10_nextOrder_41]
    simp +decide (maxSteps := 2000000) (disch := omega) only [↓gl_p, ↓bs_p, iI_lit, iI_neg, iI_add, iI_sub, iI_mul, gk_p, bs_p, bz0, bz1, pI_row, pI_snd, pA_row, pA_snd, pL_fst, pL_row, pB_fst, pB_row, upd_at, ↓reduceIte, Int.reduceToNat, Nat.reduceEqDiff, iI_lt, iI_le, iI_eq, iI_inb, iI_nat, iI_nz, q1, Int.toNat_natCast, Int.le_refl]
    rfl
  | succ c ih =>
    intro f h1 h2 hf
    obtain ⟨f, rfl⟩ : ∃ q, f = q + 1 := ⟨f - 1, by omega⟩
    have q1 := ho i (by omega)
    have q2 := ho (c + 1) (by omega)
    have b1 := hb (g i) (hg i (by omega))
    have b2 := hb (g (c + 1)) (hg (c + 1) (by omega))
    have hh := ha (g i) (g (c + 1)) (hg i (by omega)) (hg (c + 1) (by omega))
    rw [f_X10_nextOrder_41]
    by_cases h : g i ≤ g (c + 1)
    · have h2 : ((a (g i) : Nat) : Int) ≤ ((a (g (c + 1)) : Nat) : Int) := by
        have := hh.mpr h
        omega
      rw [show fjX g (g i) (c + 1) = c + 1 from if_pos h]
      simp +decide (maxSteps := 2000000) (disch := omega) only [↓gl_p, ↓bs_p, iI_lit, iI_neg, iI_add, iI_sub, iI_mul, gk_p, bs_p, bz0, bz1, pI_row, pI_snd, pA_row, pA_snd, pL_fst, pL_row, pB_fst, pB_row, upd_at, ↓reduceIte, Int.reduceToNat, Nat.reduceEqDiff, iI_lt, iI_le, iI_eq, iI_inb, iI_nat, iI_nz, q1, q2, h2, Int.toNat_natCast]
    · have h2 : ¬ ((a (g i) : Nat) : Int) ≤ ((a (g (c + 1)) : Nat) : Int) := by
        intro q
        exact h (hh.mp (by omega))
      have hic : i ≠ c + 1 := by
        intro e
        rw [e] at h
        omega
      rw [show fjX g (g i) (c + 1) = fjX g (g i) c from if_neg h]
      have k2 := ih f (by omega) (by omega) (by omega)
      simp +decide (maxSteps := 2000000) (disch := omega) only [↓gl_p, ↓bs_p, iI_lit, iI_neg, iI_add, iI_sub, iI_mul, gk_p, bs_p, bz0, bz1, pI_row, pI_snd, pA_row, pA_snd, pL_fst, pL_row, pB_fst, pB_row, upd_at, ↓reduceIte, Int.reduceToNat, Nat.reduceEqDiff, iI_lt, iI_le, iI_eq, iI_inb, iI_nat, iI_nz, q1, q2, h2, Int.toNat_natCast]
      rw [show ((c + 1 : Nat) : Int) + -1 = (c : Int) by omega]
      exact k2
end
theorem s_exch {m : gS} {i j : Nat} (hi : i < 9) (hj : j < 9) : f_X10_exchange m (iI i) (iI j) = some (pI (pI m 33 i (m.1 33 j)) 33 j (m.1 33 i)) := by
  unfold f_X10_exchange
  simp +decide (maxSteps := 2000000) (disch := omega) only [↓gl_p, ↓bs_p, iI_lit, iI_neg, iI_add, iI_sub, iI_mul, gk_p, bs_p, bz0, bz1, pI_row, pI_snd, pA_row, pA_snd, pL_fst, pL_row, pB_fst, pB_row, upd_at, ↓reduceIte, Int.reduceToNat, Nat.reduceEqDiff, iI_lt, iI_le, iI_eq, iI_inb, iI_nat, iI_nz, Int.toNat_natCast]
theorem w_n78 {m : gS} {n lo hi : Nat} (hn : n ≤ 9) (hlo : lo ≤ hi) (hhi : hi < n) : ∀ (r s f : Nat) (σ : gS), s + r = hi + 1 - lo → r ≤ f → 2 * s ≤ hi + 1 - lo → Ch orC m σ → (∀ q, q < n → σ.1 33 q = m.1 33 (if (lo ≤ q ∧ q < lo + s) ∨ (hi < q + s ∧ q ≤ hi) then lo + hi - q else q)) → ∃ τ, f_X10_nextOrder_78 (f + 1) (iI (lo + s : Nat)) (iI ((hi : Int) - s)) σ = some (iI 1, τ) ∧ Ch orC m τ ∧ ∀ q, q < n → τ.1 33 q = m.1 33 (if lo ≤ q ∧ q ≤ hi then lo + hi - q else q) := by
  intro r
  induction r with
  | zero =>
    intro s f σ hs hf h2 hc ho
    omega
  | succ r ih =>
    intro s f σ hs hf h2 hc ho
    obtain ⟨f, rfl⟩ : ∃ q, f = q + 1 := ⟨f - 1, by omega⟩
    by_cases g0 : (hi : Int) - (s : Int) ≤ ((lo + s : Nat) : Int)
    · refine ⟨σ, ?_, hc, fun q hq => ?_⟩
      · rw [f_X10_nextOrder_78]
        simp +decide (maxSteps := 2000000) (disch := omega) only [↓gl_p, ↓bs_p, iI_lit, iI_neg, iI_add, iI_sub, iI_mul, gk_p, bs_p, bz0, bz1, pI_row, pI_snd, pA_row, pA_snd, pL_fst, pL_row, pB_fst, pB_row, upd_at, ↓reduceIte, Int.reduceToNat, Nat.reduceEqDiff, iI_lt, iI_le, iI_eq, iI_inb, iI_nat, iI_nz, g0]
      · rw [ho q hq]
        by_cases c1 : (lo ≤ q ∧ q < lo + s) ∨ (hi < q + s ∧ q ≤ hi)
        · rw [if_pos c1, if_pos (show lo ≤ q ∧ q ≤ hi by omega)]
        · rw [if_neg c1]
          by_cases c2 : lo ≤ q ∧ q ≤ hi
          · rw [if_pos c2, show lo + hi - q = q by omega]
          · rw [if_neg c2]
    · have e1 : (hi : Int) - (s : Int) = ((hi - s : Nat) : Int) := by omega
      have ex := s_exch (m := σ) (i := lo + s) (j := hi - s) (by omega) (by omega)
      have q1 := ho (lo + s) (by omega)
      have q2 := ho (hi - s) (by omega)
      rw [if_neg (by omega)] at q1 q2
      rw [q1, q2] at ex
      obtain ⟨τ, b1, b2, b3⟩ := ih (s + 1) f (pI (pI σ 33 (lo + s) (m.1 33 (hi - s))) 33 (hi - s) (m.1 33 (lo + s))) (by omega) (by omega) (by omega) (Ch_pI (Ch_pI hc rfl) rfl) (fun q hq => by
        rw [pI_row, if_pos rfl, upd_at, pI_row, if_pos rfl, upd_at]
        by_cases c1 : q = hi - s
        · rw [if_pos c1, if_pos (show (lo ≤ q ∧ q < lo + (s + 1)) ∨ (hi < q + (s + 1) ∧ q ≤ hi) by omega), show lo + hi - q = lo + s by omega]
        · rw [if_neg c1]
          by_cases c2 : q = lo + s
          · rw [if_pos c2, if_pos (show (lo ≤ q ∧ q < lo + (s + 1)) ∨ (hi < q + (s + 1) ∧ q ≤ hi) by omega), show lo + hi - q = hi - s by omega]
          · rw [if_neg c2, ho q hq]
            by_cases c3 : (lo ≤ q ∧ q < lo + s) ∨ (hi < q + s ∧ q ≤ hi)
            · rw [if_pos c3, if_pos (show (lo ≤ q ∧ q < lo + (s + 1)) ∨ (hi < q + (s + 1) ∧ q ≤ hi) by omega)]
            · rw [if_neg c3, if_neg (show ¬ ((lo ≤ q ∧ q < lo + (s + 1)) ∨ (hi < q + (s + 1) ∧ q ≤ hi)) by omega)])
      refine ⟨τ, ?_, b2, b3⟩
      rw [f_X10_nextOrder_78]
      rw [e1] at g0 ⊢
      simp +decide (maxSteps := 2000000) (disch := omega) only [↓gl_p, ↓bs_p, iI_lit, iI_neg, iI_add, iI_sub, iI_mul, gk_p, bs_p, bz0, bz1, pI_row, pI_snd, pA_row, pA_snd, pL_fst, pL_row, pB_fst, pB_row, upd_at, ↓reduceIte, Int.reduceToNat, Nat.reduceEqDiff, iI_lt, iI_le, iI_eq, iI_inb, iI_nat, iI_nz, g0, ex]
      rw [show (hi : Int) - ((s + 1 : Nat) : Int) = ((hi - s : Nat) : Int) + -1 by omega] at b1
      exact b1
theorem s_next {m : gS} {n N : Nat} {g a : Nat → Nat} (hn : n ≤ 9) (hg : ∀ q, q < n → g q < N) (ha : ∀ u v, u < N → v < N → (a u ≤ a v ↔ u ≤ v)) (hb : ∀ u, u < N → a u ≤ 9) (ho : ∀ q, q < n → m.1 33 q = iI (a (g q))) : (fiX g (n - 1) = none → f_X10_nextOrder m (iI n) = some (iI 0, m)) ∧ (∀ i, fiX g (n - 1) = some i → ∃ τ, f_X10_nextOrder m (iI n) = some (iI 1, τ) ∧ Ch orC m τ ∧ ∀ q, q < n → τ.1 33 q = iI (a (nxr n g i q))) := by
  by_cases c0 : n = 0
  · subst c0
    refine ⟨fun _ => ?_, fun i h => ?_⟩
    · unfold f_X10_nextOrder
      rw [gN_s]
      simp +decide (maxSteps := 2000000) (disch := omega) only [↓gl_p, ↓bs_p, iI_lit, iI_neg, iI_add, iI_sub, iI_mul, gk_p, bs_p, bz0, bz1, pI_row, pI_snd, pA_row, pA_snd, pL_fst, pL_row, pB_fst, pB_row, upd_at, ↓reduceIte, Int.reduceToNat, Nat.reduceEqDiff, iI_lt, iI_le, iI_eq, iI_inb, iI_nat, iI_nz]
      rw [f_X10_nextOrder_4]
      unfold f_X10_nextOrder_31
      simp +decide (maxSteps := 2000000) (disch := omega) only [↓gl_p, ↓bs_p, iI_lit, iI_neg, iI_add, iI_sub, iI_mul, gk_p, bs_p, bz0, bz1, pI_row, pI_snd, pA_row, pA_snd, pL_fst, pL_row, pB_fst, pB_row, upd_at, ↓reduceIte, Int.reduceToNat, Nat.reduceEqDiff, iI_lt, iI_le, iI_eq, iI_inb, iI_nat, iI_nz]
    · have h2 : none = some i := h
      exact absurd h2 (by simp)
  have k4 := w_n4 hn hg ha hb ho (n - 1) 999999 (by omega) (by omega)
  rw [show ((n - 1 : Nat) : Int) - 1 = (n : Int) - 2 by omega] at k4
  have k4' : f_X10_nextOrder m (iI n) = f_X10_nextOrder_31 (iI n) (iI (match fiX g (n - 1) with | none => -1 | some i => (i : Int))) m := by
    unfold f_X10_nextOrder
    simp +decide (maxSteps := 2000000) (disch := omega) only [↓gl_p, ↓bs_p, iI_lit, iI_neg, iI_add, iI_sub, iI_mul, gk_p, bs_p, bz0, bz1, pI_row, pI_snd, pA_row, pA_snd, pL_fst, pL_row, pB_fst, pB_row, upd_at, ↓reduceIte, Int.reduceToNat, Nat.reduceEqDiff, iI_lt, iI_le, iI_eq, iI_inb, iI_nat, iI_nz]
    exact k4
  refine ⟨fun h => ?_, fun i h => ?_⟩
  · rw [h] at k4'
    rw [k4']
    unfold f_X10_nextOrder_31
    simp +decide (maxSteps := 2000000) (disch := omega) only [↓gl_p, ↓bs_p, iI_lit, iI_neg, iI_add, iI_sub, iI_mul, gk_p, bs_p, bz0, bz1, pI_row, pI_snd, pA_row, pA_snd, pL_fst, pL_row, pB_fst, pB_row, upd_at, ↓reduceIte, Int.reduceToNat, Nat.reduceEqDiff, iI_lt, iI_le, iI_eq, iI_inb, iI_nat, iI_nz]
  · rw [h] at k4'
    have hi := fiX_lt (n - 1) h
    have hj := fjX_rg (g := g) (i := i) (n - 1) (by omega)
    have g0 : (0 : Int) ≤ (i : Int) := by omega
    have k41 := w_n41 hn hg ha hb ho (i := i) (n - 1) 999999 (by omega) (by omega) (by omega)
    generalize hjj : fjX g (g i) (n - 1) = j at k41 hj
    rw [s_exch (by omega) (by omega)] at k41
    simp only [bs_p] at k41
    have k78 := w_n78 (m := pI (pI m 33 i (m.1 33 j)) 33 j (m.1 33 i)) (n := n) (lo := i + 1) (hi := n - 1) hn (by omega) (by omega) (n - 1 + 1 - (i + 1)) 0 999999 (pI (pI m 33 i (m.1 33 j)) 33 j (m.1 33 i)) (by omega) (by omega) (by omega) (Ch_refl _ _) (fun q hq => by
      rw [if_neg (by omega)])
    obtain ⟨τ, b1, b2, b3⟩ := k78
    refine ⟨τ, ?_, Ch_tr (Ch_pI (Ch_pI (Ch_refl _ _) rfl) rfl) b2, fun q hq => ?_⟩
    · rw [k4']
      unfold f_X10_nextOrder_31
      rw [show ((n - 1 : Nat) : Int) - ((0 : Nat) : Int) = (n : Int) - 1 by omega] at b1
      rw [show ((n - 1 : Nat) : Int) = (n : Int) - 1 by omega] at k41
      simp +decide (maxSteps := 2000000) (disch := omega) only [↓gl_p, ↓bs_p, iI_lit, iI_neg, iI_add, iI_sub, iI_mul, gk_p, bs_p, bz0, bz1, pI_row, pI_snd, pA_row, pA_snd, pL_fst, pL_row, pB_fst, pB_row, upd_at, ↓reduceIte, Int.reduceToNat, Nat.reduceEqDiff, iI_lt, iI_le, iI_eq, iI_inb, iI_nat, iI_nz, g0]
      exact (show f_X10_nextOrder_41 gN (iI n) (iI i) (iI ((n : Int) - 1)) m = _ from k41).trans b1
    · rw [b3 q hq]
      unfold nxr
      rw [hjj]
      have hv : ∀ r, r < n → (pI (pI m 33 i (m.1 33 j)) 33 j (m.1 33 i)).1 33 r = iI (a (if r = j then g i else if r = i then g j else g r)) := fun r hr => by
        rw [pI_row, if_pos rfl, upd_at, pI_row, if_pos rfl, upd_at]
        by_cases c1 : r = j
        · rw [if_pos c1, if_pos c1, ho i (by omega)]
        · rw [if_neg c1, if_neg c1]
          by_cases c2 : r = i
          · rw [if_pos c2, if_pos c2, ho j (by omega)]
          · rw [if_neg c2, if_neg c2, ho r hr]
      by_cases c : q ≤ i
      · rw [if_neg (show ¬ (i + 1 ≤ q ∧ q ≤ n - 1) by omega), hv q hq]
        show _ = iI (a (if q ≤ i then (if q = j then g i else if q = i then g j else g q) else _))
        rw [if_pos c]
      · rw [if_pos (show i + 1 ≤ q ∧ q ≤ n - 1 by omega), show i + 1 + (n - 1) - q = i + n - q by omega, hv (i + n - q) (by omega)]
        show _ = iI (a (if q ≤ i then _ else (if i + n - q = j then g i else if i + n - q = i then g j else g (i + n - q))))
        rw [if_neg c]
/-! all orders, by their first ones -/
def lexp : Nat → List Nat → List (List Nat)
  | 0, _ => [[]]
  | k + 1, M => M.flatMap (fun x => (lexp k (M.filter (fun y => y != x))).map (fun l => x :: l))
def lnx (l : List Nat) : Option (List Nat) :=
  match fiX (fun q => l.getD q 0) (l.length - 1) with
  | none => none
  | some i => some ((List.range l.length).map (nxr l.length (fun q => l.getD q 0) i))
def lch : List (List Nat) → Bool
  | [] => true
  | a :: r => (match r with | [] => lnx a == none | b :: _ => lnx a == some b) && lch r
theorem lch0 : lch (lexp 0 (List.range 0)) = true := by decide +kernel
theorem lch1 : lch (lexp 1 (List.range 1)) = true := by decide +kernel
theorem lch2 : lch (lexp 2 (List.range 2)) = true := by decide +kernel
theorem lch3 : lch (lexp 3 (List.range 3)) = true := by decide +kernel
theorem lch4 : lch (lexp 4 (List.range 4)) = true := by decide +kernel
theorem lch5 : lch (lexp 5 (List.range 5)) = true := by decide +kernel
theorem lch6 : lch (lexp 6 (List.range 6)) = true := by decide +kernel
