/-! ===== minutes of a round: pure ===== -/
def offs (w : Nat → Nat → Nat) (sd : Nat) (S : Nat → Nat) : Nat → Nat
  | 0 => 0
  | i + 1 => offs w sd S i + sd + w (S i) (S (i + 1))
def ledM (w : Nat → Nat → Nat) (S : Nat → Nat) (k : Nat) : Nat := if k = 0 then 0 else w 9 (S 0)
def perd (w : Nat → Nat → Nat) (sd : Nat) (S : Nat → Nat) (k : Nat) : Nat := if k = 0 then 0 else offs w sd S (k - 1) + sd + w (S (k - 1)) (S 0)
def Tm (w : Nat → Nat → Nat) (sd : Nat) (S : Nat → Nat) (k i : Nat) : Nat := if k = 0 then 5000 else w 9 (S 0) + i / k * perd w sd S k + offs w sd S (i % k)
def isC (T : Nat → Nat) (v : Int) (C : Nat) : Prop := C ≤ 4000 ∧ (∀ i, i < C → (T i : Int) ≤ v) ∧ (C < 4000 → v < (T C : Int))
theorem isC_u {T : Nat → Nat} {v : Int} {C D : Nat} (h1 : isC T v C) (h2 : isC T v D) : C = D := by
  obtain ⟨a1, a2, a3⟩ := h1
  obtain ⟨b1, b2, b3⟩ := h2
  rcases Nat.lt_trichotomy C D with h | h | h
  · have q1 := b2 C h
    have q2 := a3 (by omega)
    omega
  · exact h
  · have q1 := a2 D h
    have q2 := b3 (by omega)
    omega
section
variable {w : Nat → Nat → Nat} {sd k : Nat} {S : Nat → Nat}
theorem offs_le (i : Nat) : offs w sd S i ≤ offs w sd S (i + 1) := by
  show _ ≤ offs w sd S i + sd + w (S i) (S (i + 1))
  omega
theorem offs_mono {i j : Nat} (h : i ≤ j) : offs w sd S i ≤ offs w sd S j := by
  induction h with
  | refl => exact Nat.le_refl _
  | step _ ih => exact Nat.le_trans ih (offs_le _)
theorem perd_e (hk : 0 < k) : perd w sd S k = offs w sd S (k - 1) + sd + w (S (k - 1)) (S 0) := by
  unfold perd
  rw [if_neg (by omega)]
theorem offs_per (hk : 0 < k) {i : Nat} (hi : i < k) : offs w sd S i ≤ perd w sd S k := by
  rw [perd_e hk]
  have := offs_mono (w := w) (sd := sd) (S := S) (show i ≤ k - 1 by omega)
  omega
theorem Tm_e (hk : 0 < k) (i : Nat) : Tm w sd S k i = w 9 (S 0) + i / k * perd w sd S k + offs w sd S (i % k) := by
  unfold Tm
  rw [if_neg (by omega)]
theorem Tm_s (hk : 0 < k) (i : Nat) : Tm w sd S k (i + 1) = Tm w sd S k i + sd + w (S (i % k)) (S ((i + 1) % k)) := by
  have e := Nat.div_add_mod i k
  have hr := Nat.mod_lt i hk
  rw [Tm_e hk, Tm_e hk]
  generalize i / k = q at e
  generalize i % k = r at e hr
  by_cases c : r + 1 < k
  · have e1 : (i + 1) / k = q := by
      rw [← e, Nat.add_assoc, Nat.mul_add_div hk, Nat.div_eq_of_lt c, Nat.add_zero]
    have e2 : (i + 1) % k = r + 1 := by
      rw [← e, Nat.add_assoc, Nat.mul_add_mod, Nat.mod_eq_of_lt c]
    rw [e1, e2]
    show w 9 (S 0) + q * perd w sd S k + (offs w sd S r + sd + w (S r) (S (r + 1))) = _
    omega
  · have e0 : i + 1 = k * (q + 1) := by
      rw [Nat.mul_succ]
      omega
    have e1 : (i + 1) / k = q + 1 := by
      rw [e0, Nat.mul_div_cancel_left _ hk]
    have e2 : (i + 1) % k = 0 := by
      rw [e0, Nat.mul_mod_right]
    rw [e1, e2, Nat.succ_mul]
    have e3 : perd w sd S k = offs w sd S r + sd + w (S r) (S 0) := by
      rw [perd_e hk, show k - 1 = r by omega]
    show w 9 (S 0) + (q * perd w sd S k + perd w sd S k) + 0 = _
    omega
theorem Tm_lt {i : Nat} (hi : i < k) : Tm w sd S k i = w 9 (S 0) + offs w sd S i := by
  rw [Tm_e (by omega), Nat.div_eq_of_lt hi, Nat.mod_eq_of_lt hi, Nat.zero_mul, Nat.add_zero]
theorem Tm_0 (hk : 0 < k) : Tm w sd S k 0 = w 9 (S 0) := by
  rw [Tm_lt hk]
  rfl
theorem Tm_le (i : Nat) : Tm w sd S k i ≤ Tm w sd S k (i + 1) := by
  by_cases hk : k = 0
  · unfold Tm
    rw [if_pos hk, if_pos hk]
    exact Nat.le_refl _
  · rw [Tm_s (by omega)]
    omega
theorem Tm_mono {i j : Nat} (h : i ≤ j) : Tm w sd S k i ≤ Tm w sd S k j := by
  induction h with
  | refl => exact Nat.le_refl _
  | step _ ih => exact Nat.le_trans ih (Tm_le _)
theorem Tm_k (hk : 0 < k) (i : Nat) : Tm w sd S k (k + i) = Tm w sd S k i + perd w sd S k := by
  rw [Tm_e hk, Tm_e hk, Nat.add_div_left i hk, Nat.add_mod_left, Nat.succ_mul]
  omega
theorem isC_dent (hk : 0 < k) (hp : 0 < perd w sd S k) {v : Int} {a : Nat} (hv : v = ((w 9 (S 0) + a : Nat) : Int)) {c : Nat} (hc : c ≤ k) (h1 : ∀ j, j < c → offs w sd S j ≤ a % perd w sd S k) (h2 : c < k → a % perd w sd S k < offs w sd S c) {C : Nat} (hC : C = if 4000 < a / perd w sd S k * k + c then 4000 else a / perd w sd S k * k + c) : isC (Tm w sd S k) v C := by
  have e := Nat.div_add_mod a (perd w sd S k)
  have hr := Nat.mod_lt a hp
  generalize a / perd w sd S k = q at e hC
  generalize a % perd w sd S k = r at e h1 h2 hr
  have ec : perd w sd S k * q = q * perd w sd S k := Nat.mul_comm _ _
  refine ⟨by rw [hC]; split <;> omega, fun i hi => ?_, fun h4 => ?_⟩
  · have hi2 : i < q * k + c := by
      rw [hC] at hi
      split at hi <;> omega
    have ei := Nat.div_add_mod i k
    have hir := Nat.mod_lt i hk
    have ho := offs_per (w := w) (sd := sd) (S := S) hk hir
    rw [Tm_e hk, hv]
    generalize i / k = iq at ei
    generalize i % k = ir at ei hir ho
    rcases Nat.lt_trichotomy iq q with h | h | h
    · have g := Nat.mul_le_mul_right (perd w sd S k) (show iq + 1 ≤ q from h)
      rw [Nat.succ_mul] at g
      omega
    · subst h
      have ek : k * iq = iq * k := Nat.mul_comm _ _
      have g := h1 ir (by omega)
      omega
    · have g := Nat.mul_le_mul_left k (show q + 1 ≤ iq from h)
      rw [Nat.mul_succ] at g
      have ek : k * q = q * k := Nat.mul_comm _ _
      omega
  · have hC2 : C = q * k + c := by
      by_cases hh : 4000 < q * k + c
      · rw [if_pos hh] at hC
        omega
      · rw [if_neg hh] at hC
        exact hC
    have ek : k * q = q * k := Nat.mul_comm _ _
    rw [hv, Tm_e hk]
    by_cases hck : c < k
    · have g := h2 hck
      have e1 : C / k = q := by
        rw [hC2, ← ek, Nat.mul_add_div hk, Nat.div_eq_of_lt hck, Nat.add_zero]
      have e2 : C % k = c := by
        rw [hC2, ← ek, Nat.mul_add_mod, Nat.mod_eq_of_lt hck]
      rw [e1, e2]
      omega
    · have e0 : C = k * (q + 1) := by
        rw [Nat.mul_succ]
        omega
      have e1 : C / k = q + 1 := by
        rw [e0, Nat.mul_div_cancel_left _ hk]
      have e2 : C % k = 0 := by
        rw [e0, Nat.mul_mod_right]
      rw [e1, e2, Nat.succ_mul]
      show _ < ((w 9 (S 0) + (q * perd w sd S k + perd w sd S k) + 0 : Nat) : Int)
      omega
end
/-! ===== what a call changes of the cells ===== -/
def Ch (C : Nat → Nat → Bool) (σ τ : gS) : Prop := τ.2 = σ.2 ∧ ∀ c j, C c j = false → τ.1 c j = σ.1 c j
theorem Ch_refl (C : Nat → Nat → Bool) (σ : gS) : Ch C σ σ := ⟨rfl, fun _ _ _ => rfl⟩
theorem Ch_tr {C : Nat → Nat → Bool} {σ τ υ : gS} (h1 : Ch C σ τ) (h2 : Ch C τ υ) : Ch C σ υ := ⟨h2.1.trans h1.1, fun c j h => (h2.2 c j h).trans (h1.2 c j h)⟩
theorem Ch_pI {C : Nat → Nat → Bool} {σ τ : gS} (h1 : Ch C σ τ) {c j : Nat} {v : Int32} (h : C c j = true) : Ch C σ (pI τ c j v) := by
  refine ⟨h1.1, fun d i hd => ?_⟩
  rw [pI_row]
  by_cases e : d = c
  · rw [if_pos e, upd_at]
    by_cases e2 : i = j
    · subst e e2
      rw [h] at hd
      exact absurd hd (by decide)
    · rw [if_neg e2, ← e]
      exact h1.2 d i hd
  · rw [if_neg e]
    exact h1.2 d i hd
theorem Ch_mo {C D : Nat → Nat → Bool} {σ τ : gS} (h : Ch C σ τ) (hs : ∀ c j, D c j = false → C c j = false) : Ch D σ τ := ⟨h.1, fun c j hd => h.2 c j (hs c j hd)⟩
theorem Ch_row {C : Nat → Nat → Bool} {σ τ : gS} (h : Ch C σ τ) {c : Nat} (hs : ∀ j, C c j = false) : τ.1 c = σ.1 c := funext fun j => h.2 c j (hs j)
def scX (c _j : Nat) : Bool := c == 11 || c == 12 || (26 ≤ c && c ≤ 36) || (44 ≤ c && c ≤ 46)
def scM (c j : Nat) : Bool := c == 15 || c == 16 || (27 ≤ c && c ≤ 34) || (c == 0 && (j == 44 || j == 46))
theorem scX_f {c : Nat} (h : c ≤ 10 ∨ (13 ≤ c ∧ c ≤ 25) ∨ (37 ≤ c ∧ c ≤ 43)) (j : Nat) : scX c j = false := by
  unfold scX
  simp
  omega
theorem scM_f {c : Nat} (h : (1 ≤ c ∧ c ≤ 14) ∨ (17 ≤ c ∧ c ≤ 26)) (j : Nat) : scM c j = false := by
  unfold scM
  simp
  omega
theorem Rel1_sc {L : LawT} {x m y k : gS} (hR : Rel1 L x m) (hx : Ch scX x y) (hm : Ch scM m k) : Rel1 L y k := by
  obtain ⟨⟨n, nb, hP, hC, hT, hD, hI, hK, hS⟩, hL⟩ := hR
  have X : ∀ c, (c ≤ 10 ∨ (13 ≤ c ∧ c ≤ 25) ∨ (37 ≤ c ∧ c ≤ 43)) → y.1 c = x.1 c := fun c h => Ch_row hx (scX_f h)
  have M : ∀ c, ((1 ≤ c ∧ c ≤ 14) ∨ (17 ≤ c ∧ c ≤ 26)) → k.1 c = m.1 c := fun c h => Ch_row hm (scM_f h)
  have Z : ∀ j, scM 0 j = false → k.1 0 j = m.1 0 j := fun j h => hm.2 0 j h
  refine ⟨⟨n, nb, ?_, ?_, ?_, ?_, ?_, ?_, ?_⟩, ?_⟩
  · rw [X 1 (by omega), X 2 (by omega), Z 0 rfl, M 1 (by omega), M 2 (by omega), M 3 (by omega), M 4 (by omega), M 5 (by omega)]
    exact hP
  · rw [X 3 (by omega), X 4 (by omega), X 5 (by omega), X 6 (by omega), Z 34 rfl, Z 35 rfl, M 21 (by omega)]
    exact hC
  · rw [X 7 (by omega), X 8 (by omega), Z 6 rfl, M 6 (by omega)]
    exact hT
  · rw [X 37 (by omega), X 38 (by omega), Z 24 rfl, Z 25 rfl, M 17 (by omega), M 18 (by omega)]
    exact hD
  · rw [X 0 (by omega), X 39 (by omega), X 40 (by omega), Z 28 rfl, Z 29 rfl, Z 30 rfl, Z 31 rfl, M 19 (by omega), M 20 (by omega)]
    exact hI
  · rw [X 41 (by omega), X 42 (by omega), X 43 (by omega), Z 37 rfl, Z 39 rfl, M 22 (by omega), M 23 (by omega)]
    exact hK
  · rw [M 24 (by omega), M 25 (by omega), hm.1, hx.1]
    exact RSs_x hS (fun c h1 h2 => X c (by omega))
  · rw [X 7 (by omega), X 10 (by omega), Z 8 rfl, Z 9 rfl, M 7 (by omega), M 8 (by omega), M 9 (by omega), M 10 (by omega)]
    exact hL
