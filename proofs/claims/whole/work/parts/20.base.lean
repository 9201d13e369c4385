/-! ===== the numbers: every int is iI of an integer ===== -/
def iI (a : Int) : Int32 := Int32.ofInt a
theorem iI_of (x : Int32) : ∃ a : Int, x = iI a ∧ -2147483648 ≤ a ∧ a < 2147483648 := by
  have h1 := Int32.le_toInt x
  have h2 := Int32.toInt_lt x
  exact ⟨x.toInt, (Int32.ofInt_toInt x).symm, by omega, by omega⟩
theorem iI_toInt {a : Int} (h1 : -2147483648 ≤ a) (h2 : a < 2147483648) : (iI a).toInt = a := by
  unfold iI
  rw [Int32.toInt_ofInt]
  show Int.bmod a (2 ^ 32) = a
  rw [Int.bmod_eq_of_le (by omega) (by omega)]
theorem iI_add (a b : Int) : iI a + iI b = iI (a + b) := (Int32.ofInt_add a b).symm
theorem iI_sub (a b : Int) : iI a - iI b = iI (a - b) := (Int32.ofInt_sub a b).symm
theorem iI_mul (a b : Int) : iI a * iI b = iI (a * b) := (Int32.ofInt_mul a b).symm
theorem iI_neg (a : Int) : -iI a = iI (-a) := (Int32.ofInt_neg a).symm
theorem iI_lt {a b : Int} (h1 : -2147483648 ≤ a) (h2 : a < 2147483648) (h3 : -2147483648 ≤ b) (h4 : b < 2147483648) : iI a < iI b ↔ a < b := by
  rw [Int32.lt_iff_toInt_lt, iI_toInt h1 h2, iI_toInt h3 h4]
theorem iI_le {a b : Int} (h1 : -2147483648 ≤ a) (h2 : a < 2147483648) (h3 : -2147483648 ≤ b) (h4 : b < 2147483648) : iI a ≤ iI b ↔ a ≤ b := by
  rw [Int32.le_iff_toInt_le, iI_toInt h1 h2, iI_toInt h3 h4]
theorem iI_eq {a b : Int} (h1 : -2147483648 ≤ a) (h2 : a < 2147483648) (h3 : -2147483648 ≤ b) (h4 : b < 2147483648) : iI a = iI b ↔ a = b := by
  constructor
  · intro e
    have e2 := congrArg Int32.toInt e
    rw [iI_toInt h1 h2, iI_toInt h3 h4] at e2
    exact e2
  · intro e
    rw [e]
theorem iI_nat {a : Int} (h1 : -2147483648 ≤ a) (h2 : a < 2147483648) : (iI a).toNatClampNeg = a.toNat := by
  show (iI a).toInt.toNat = a.toNat
  rw [iI_toInt h1 h2]
theorem iI_inb {a : Int} {n : Nat} (h1 : 0 ≤ a) (h2 : a < n) (h3 : n ≤ 2147483647) : inb (iI a) n = true := by
  unfold inb
  rw [iI_toInt (by omega) (by omega)]
  simp [h1, h2]
theorem iI_lit (n : Nat) : (OfNat.ofNat n : Int32) = iI (OfNat.ofNat n : Int) := by
  show Int32.ofNat n = Int32.ofInt (Int.ofNat n)
  first | rfl | exact (Int32.ofInt_natCast n).symm | exact (Int32.ofInt_eq_ofNat).symm | simp
theorem gk_t {α : Type} {k : Option α} : gk true k = k := rfl
theorem bz_0 : bz 0 = true := rfl
theorem bz_1 : bz 1 = true := rfl
theorem bz0 : bz (iI 0) = true := rfl
theorem bz1 : bz (iI 1) = true := rfl
theorem iI_nz {a : Int} (h0 : a ≠ 0) (h1 : -2147483648 ≤ a) (h2 : a < 2147483648) : nz (iI a) = true := by
  have h : ¬ iI a = iI 0 := by
    rw [iI_eq h1 h2 (by decide) (by decide)]
    exact h0
  have h3 : ¬ iI a = 0 := h
  simp [nz, h3]
theorem gl_e {α β : Type} (x : α) (k : α → β) : gl x k = k x := rfl
theorem b_some {α β : Type} (a : α) (k : α → Option β) : (some a).bind k = k a := rfl
/-! reads behind writes -/
theorem upd_at (f : Nat → Int32) (k j : Nat) (v : Int32) : upd f k v j = if j = k then v else f j := rfl
theorem pI_row (σ : gS) (k j : Nat) (v : Int32) (i : Nat) : (pI σ k j v).1 i = if i = k then upd (σ.1 k) j v else σ.1 i := rfl
theorem pI_snd (σ : gS) (k j : Nat) (v : Int32) : (pI σ k j v).2 = σ.2 := rfl
theorem pA_row (σ : gS) (k : Nat) (f : Nat → Int32) (i : Nat) : (pA σ k f).1 i = if i = k then f else σ.1 i := rfl
theorem pA_snd (σ : gS) (k : Nat) (f : Nat → Int32) : (pA σ k f).2 = σ.2 := rfl
theorem pL_fst (σ : gS) (k j : Nat) (v : Int64) : (pL σ k j v).1 = σ.1 := rfl
theorem pL_row (σ : gS) (k j : Nat) (v : Int64) (i : Nat) : (pL σ k j v).2 i = if i = k then vp_updL (σ.2 k) j v else σ.2 i := rfl
theorem pB_fst (σ : gS) (k : Nat) (f : Nat → Int64) : (pB σ k f).1 = σ.1 := rfl
theorem pB_row (σ : gS) (k : Nat) (f : Nat → Int64) (i : Nat) : (pB σ k f).2 i = if i = k then f else σ.2 i := rfl
theorem pI_off {σ : gS} {k j i : Nat} {v : Int32} (h : ¬ i = k) : (pI σ k j v).1 i = σ.1 i := by
  rw [pI_row, if_neg h]
theorem pA_off {σ : gS} {k i : Nat} {f : Nat → Int32} (h : ¬ i = k) : (pA σ k f).1 i = σ.1 i := by
  rw [pA_row, if_neg h]
