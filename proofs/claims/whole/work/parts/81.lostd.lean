/-! ===== lost: worth and loss ===== -/
def cwX (c j : Nat) : Bool := c == 11 || (c == 12 && (j == 1 || j == 2))
def cwM (c _j : Nat) : Bool := c == 15 || c == 16
theorem cwX_of {x y : gS} (h : Ch c11 x y) : Ch cwX x y := Ch_mo h (fun c j hd => by
  unfold cwX at hd
  unfold c11
  simp at hd ⊢
  omega)
theorem cwM_of {x y : gS} (h : Ch c15 x y) : Ch cwM x y := Ch_mo h (fun c j hd => by
  unfold cwM at hd
  unfold c15
  simp at hd ⊢
  omega)
theorem if_pos_or (V : Int) (h : 0 ≤ V) : (if 0 < (if V < 99 then V else 99) then (if V < 99 then V else 99) else 0) = (if V < 99 then V else 99) := by
  (repeat' split) <;> omega
theorem wl_sim {x m : gS} (hL : LW (x.1 7 6) (x.1 10) (m.1 0 8) (m.1 0 9) (m.1 7) (m.1 8) (m.1 9) (m.1 10)) {p v0 t : Nat} {u : Int} (hp : p < 9) (hv : v0 ≤ 9) (e3 : m.1 3 p = iI v0) (n0 : x.1 12 0 = iI v0) (n3 : x.1 12 3 = m.1 4 p) (n4 : x.1 12 4 = iI p) (n5 : x.1 12 5 = m.1 0 44) (hu1 : 0 ≤ u) (hu : u ≤ 2000) : ∃ v y w, f_X4_worth x (iI u) (iI t) = some (v, y) ∧ f_X10_loss m (iI p) (iI u) (iI t) = some (v, w) ∧ Ch cwX x y ∧ Ch cwM m w := by
  have i1 : inb 1 6 = true := by decide
  have i2 : inb 2 6 = true := by decide
  have i0 : inb 0 6 = true := by decide
  have i3 : inb 3 6 = true := by decide
  have i4 : inb 4 6 = true := by decide
  have i5 : inb 5 6 = true := by decide
  have ip : inb (iI (p : Int)) 9 = true := iI_inb (by omega) (by omega) (by omega)
  have tp : (iI (p : Int)).toNatClampNeg = p := by
    rw [iI_nat (by omega) (by omega), Int.toNat_natCast]
  have nz10 : nz 10 = true := by decide
  have cx : Ch cwX x (pI (pI x 12 1 (iI u)) 12 2 (iI t)) := Ch_pI (Ch_pI (Ch_refl _ _) rfl) rfl
  have hX : f_X4_worth x (iI u) (iI t) = if x.1 7 6 = 0 then f_X4_worth_44 (((x.1 12 0) * (iI u)) / 10) (pI (pI x 12 1 (iI u)) 12 2 (iI t)) else (f_X4_run (pI (pI x 12 1 (iI u)) 12 2 (iI t))).bind fun q3 => f_X4_worth_44 q3.1 q3.2 := by
    unfold f_X4_worth
    rw [i1, i2, i0, nz10]
    rfl
  rcases hL with ⟨h1, h2⟩ | ⟨h1, K, ds, ts, ps, cs, k1, k2, k3, k4, k5, k6, k7, k8, k9, k10⟩
  · have b0 : 0 ≤ (v0 : Int) * u := Int.mul_nonneg (by omega) hu1
    have b1 : (v0 : Int) * u ≤ 9 * 2000 := Int.mul_le_mul (by omega) hu hu1 (by omega)
    have ed : iI (v0 : Int) * iI u / 10 = iI ((v0 : Int) * u / 10) := by
      rw [show (10 : Int32) = iI 10 from rfl, iI_mul, iI_div b0 (by omega) (by omega) (by omega)]
    have b2 : 0 ≤ (v0 : Int) * u / 10 := by omega
    have b3 : (v0 : Int) * u / 10 ≤ 1800 := by omega
    generalize (v0 : Int) * u / 10 = V at ed b2 b3
    refine ⟨iI (if V < 99 then V else 99), _, m, ?_, ?_, cx, Ch_refl _ _⟩
    · rw [hX, h1, if_pos (show iI 0 = 0 from rfl), n0, ed]
      unfold f_X4_worth_44
      rw [show (99 : Int32) = iI 99 from rfl, show (0 : Int32) = iI 0 from rfl, jmin_i (by omega) (by omega) (by omega) (by omega), jmax_i (by omega) (by omega) (by split <;> omega) (by split <;> omega), if_pos_or V b2]
    · unfold f_X10_loss
      rw [h2, if_pos (show iI 0 = 0 from rfl), ip, nz10, tp, e3, ed, gk_t, gk_t, show (99 : Int32) = iI 99 from rfl, jmin_i (by omega) (by omega) (by omega) (by omega)]
  · have nK : ¬ x.1 7 6 = 0 := by
      rw [k6]
      show ¬ iI _ = iI 0
      rw [iI_eq (by omega) (by omega) (by omega) (by omega)]
      omega
    have nT : ¬ m.1 0 8 = 0 := by
      rw [h1]
      exact n10
    have hM : f_X10_loss m (iI p) (iI u) (iI t) = f_X10_loss_82 gN (iI ((0 : Nat) : Int)) (pI (pI (pI (pI (pI (pI m 16 0 (m.1 3 p)) 16 1 (iI u)) 16 2 (iI t)) 16 3 (m.1 4 p)) 16 4 (iI p)) 16 5 (m.1 0 44)) := by
      unfold f_X10_loss
      rw [if_neg nT, ip, i0, i1, i2, i3, i4, i5, tp]
      generalize gN = N
      rfl
    have nms : NMS (pI (pI x 12 1 (iI u)) 12 2 (iI t)) (pI (pI (pI (pI (pI (pI m 16 0 (m.1 3 p)) 16 1 (iI u)) 16 2 (iI t)) 16 3 (m.1 4 p)) 16 4 (iI p)) 16 5 (m.1 0 44)) := fun q hq => by
      rcases (show q = 0 ∨ q = 1 ∨ q = 2 ∨ q = 3 ∨ q = 4 ∨ q = 5 by omega) with rfl | rfl | rfl | rfl | rfl | rfl
      · exact n0.trans e3.symm
      · rfl
      · rfl
      · exact n3
      · exact n4
      · exact n5
    have cm : Ch cwM m (pI (pI (pI (pI (pI (pI m 16 0 (m.1 3 p)) 16 1 (iI u)) 16 2 (iI t)) 16 3 (m.1 4 p)) 16 4 (iI p)) 16 5 (m.1 0 44)) := Ch_pI (Ch_pI (Ch_pI (Ch_pI (Ch_pI (Ch_pI (Ch_refl _ _) rfl) rfl) rfl) rfl) rfl) rfl
    obtain ⟨v, y, w, r1, r2, r3, r4⟩ := rl_sim k2 k4 k5 k10 K 0 (999999 + 1) 999999 _ _ (by omega) (by
      rw [k10.2.1]
      omega) (by omega) (show XL ds (pI (pI x 12 1 (iI u)) 12 2 (iI t)) from ⟨k6, k8⟩) (show ML ts (pI (pI (pI (pI (pI (pI m 16 0 (m.1 3 p)) 16 1 (iI u)) 16 2 (iI t)) 16 3 (m.1 4 p)) 16 4 (iI p)) 16 5 (m.1 0 44)) from k9) k7 (fun k _ => ⟨rfl, rfl, rfl⟩) nms (by
      rw [k10.2.1]
      omega)
    rw [← gN_s] at r1 r2
    rw [k10.1] at r1
    refine ⟨jmax (iI 0) (jmin (iI 99) v), y, w, ?_, ?_, Ch_tr cx (cwX_of r3), Ch_tr cm (cwM_of r4)⟩
    · rw [hX, if_neg nK]
      unfold f_X4_run
      rw [show f_X4_run_4 gN 0 0 _ = _ from r1, b_some]
      rfl
    · exact hM.trans r2
