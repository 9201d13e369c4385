/-! ===== lost: the lines of the law ===== -/
theorem cr_59 {x : gS} {D p h f : Nat} (e : x.1 7 6 = iI D) (hD : D ≤ 241) (hp : p < D) (c1 : x.1 10 p = iI 59) : f_X4_run_4 (f + 1) (iI h) (iI p) x = some (x.1 11 0, x) := by
  have g1 : ¬ (D : Int) ≤ (p : Int) := by omega
  have n1 : ((p : Int) + 1).toNat = p + 1 := by omega
  rw [f_X4_run_4]
  unfold f_X4_run_41
  by_cases g2 : (D : Int) ≤ (p : Int) + 1
  · simp +decide (maxSteps := 2000000) (disch := omega) only [↓gl_p, ↓bs_p, iI_lit, iI_neg, iI_add, iI_sub, iI_mul, gk_p, bs_p, bz0, bz1, pI_row, pI_snd, pA_row, pA_snd, pL_fst, pL_row, pB_fst, pB_row, upd_at, ↓reduceIte, Int.reduceToNat, Nat.reduceEqDiff, iI_lt, iI_le, iI_eq, iI_inb, iI_nat, iI_nz, e, g1, g2, c1, n1, Int.toNat_natCast]
  · simp +decide (maxSteps := 2000000) (disch := omega) only [↓gl_p, ↓bs_p, iI_lit, iI_neg, iI_add, iI_sub, iI_mul, gk_p, bs_p, bz0, bz1, pI_row, pI_snd, pA_row, pA_snd, pL_fst, pL_row, pB_fst, pB_row, upd_at, ↓reduceIte, Int.reduceToNat, Nat.reduceEqDiff, iI_lt, iI_le, iI_eq, iI_inb, iI_nat, iI_nz, e, g1, g2, c1, n1, Int.toNat_natCast]
theorem cr_63 {x : gS} {D p h v f : Nat} (e : x.1 7 6 = iI D) (hD : D ≤ 241) (hp : p + 2 ≤ D) (c1 : x.1 10 p = iI 63) (c2 : x.1 10 (p + 1) = iI v) (hv : p + 2 ≤ v) (hv2 : v ≤ 300) : f_X4_run_4 (f + 1) (iI h) (iI p) x = if x.1 11 0 = 0 then f_X4_run_4 f (iI 0) (iI v) x else f_X4_run_4 f (iI 0) (iI ((p + 2 : Nat) : Int)) x := by
  have g1 : ¬ (D : Int) ≤ (p : Int) := by omega
  have g2 : ¬ (D : Int) ≤ (p : Int) + 1 := by omega
  have n1 : ((p : Int) + 1).toNat = p + 1 := by omega
  have j1 : jmax (iI (p : Int)) (iI ((v : Int) - 1)) = iI ((v : Int) - 1) := by
    rw [jmax_i (by omega) (by omega) (by omega) (by omega)]
    congr 1
    split <;> omega
  have n2 : (v : Int) - 1 + 1 = v := by omega
  have n3 : (p : Int) + 1 + 1 = ((p + 2 : Nat) : Int) := by omega
  rw [f_X4_run_4]
  unfold f_X4_run_41 f_X4_run_115
  by_cases c : x.1 11 0 = iI 0
  · simp +decide (maxSteps := 2000000) (disch := omega) only [↓gl_p, ↓bs_p, iI_lit, iI_neg, iI_add, iI_sub, iI_mul, gk_p, bs_p, bz0, bz1, pI_row, pI_snd, pA_row, pA_snd, pL_fst, pL_row, pB_fst, pB_row, upd_at, ↓reduceIte, Int.reduceToNat, Nat.reduceEqDiff, iI_lt, iI_le, iI_eq, iI_inb, iI_nat, iI_nz, e, g1, g2, c1, c2, n1, Int.toNat_natCast, j1, n2, eq_true c]
  · simp +decide (maxSteps := 2000000) (disch := omega) only [↓gl_p, ↓bs_p, iI_lit, iI_neg, iI_add, iI_sub, iI_mul, gk_p, bs_p, bz0, bz1, pI_row, pI_snd, pA_row, pA_snd, pL_fst, pL_row, pB_fst, pB_row, upd_at, ↓reduceIte, Int.reduceToNat, Nat.reduceEqDiff, iI_lt, iI_le, iI_eq, iI_inb, iI_nat, iI_nz, e, g1, g2, c1, c2, n1, Int.toNat_natCast, j1, n3, c]
theorem wk_end (m : gS) {e h f : Nat} (he : e ≤ 120) : f_X10_worked_5 (f + 1) (iI e) (iI h) (iI e) m = some (m.1 15 0, m) := by
  have g : (e : Int) ≤ (e : Int) := by omega
  rw [f_X10_worked_5]
  simp +decide (maxSteps := 2000000) (disch := omega) only [↓gl_p, ↓bs_p, iI_lit, iI_neg, iI_add, iI_sub, iI_mul, gk_p, bs_p, bz0, bz1, pI_row, pI_snd, pA_row, pA_snd, pL_fst, pL_row, pB_fst, pB_row, upd_at, ↓reduceIte, Int.reduceToNat, Nat.reduceEqDiff, iI_lt, iI_le, iI_eq, iI_inb, iI_nat, iI_nz, eq_true g, Int.le_refl]
theorem pc_sim {ds ts us : List Nat} (hds : ds.length ≤ 241) (hw : WF us) (hu : us.length ≤ 120) {p c e fx : Nat} {x m : gS} (he : e ≤ 120) (hce : c + us.length = e) (ax : AT ds p (trs us)) (am : AT ts c us) (hx : XL ds x) (hm : ML ts m) (hn : ∀ q, q < 6 → x.1 12 q = m.1 16 q) : ∃ y w, f_X4_run_4 (fx + us.length) (iI 0) (iI p) x = f_X4_run_4 fx (iI 1) (iI ((p + (trs us).length : Nat) : Int)) y ∧ f_X10_worked m (iI c) (iI e) = some (w.1 15 0, w) ∧ Ch c11 x y ∧ Ch c15 m w ∧ y.1 11 0 = w.1 15 0 := by
  obtain ⟨y, w, k1, k2, k3, k4, k5⟩ := ru_sim hds he us 0 1 p c fx (999999 - us.length + 1) x m (hw.2 0) hw.1 (by omega) (by omega) ax am hx hm hn (fun q hq => absurd hq (by omega))
  refine ⟨y, w, k1, ?_, k3, k4, k5 0 (by omega)⟩
  unfold f_X10_worked
  rw [gN_s, show 999999 + 1 = 999999 - us.length + 1 + us.length by omega]
  refine Eq.trans k2 ?_
  rw [hce]
  exact wk_end w he
def NMS (x m : gS) : Prop := ∀ q, q < 6 → x.1 12 q = m.1 16 q
theorem NMS_c {x m y w : gS} (h : NMS x m) (h1 : Ch c11 x y) (h2 : Ch c15 m w) : NMS y w := fun q hq => ((h1.2 12 q rfl).trans (h q hq)).trans (h2.2 16 q rfl).symm
theorem lo_132 {m w : gS} {k c e : Nat} {v : Int32} (hk : k < 60) (e8 : m.1 8 k = iI c) (e9 : m.1 9 k = iI e) (h : f_X10_worked m (iI c) (iI e) = some (v, w)) : f_X10_loss_132 (iI k) m = some (jmax (iI 0) (jmin (iI 99) v), w) := by
  unfold f_X10_loss_132
  simp +decide (maxSteps := 2000000) (disch := omega) only [↓gl_p, ↓bs_p, iI_lit, iI_neg, iI_add, iI_sub, iI_mul, gk_p, bs_p, bz0, bz1, pI_row, pI_snd, pA_row, pA_snd, pL_fst, pL_row, pB_fst, pB_row, upd_at, ↓reduceIte, Int.reduceToNat, Nat.reduceEqDiff, iI_lt, iI_le, iI_eq, iI_inb, iI_nat, iI_nz, e8, e9, Int.toNat_natCast, h]
theorem rl_sim {ds ts : List Nat} {K : Nat} {ps cs : Nat → Nat} {A S E : Nat → Int32} (hK : K ≤ 60) (hds : ds.length ≤ 241) (hts : ts.length ≤ 120) (hL : LNS K ds ts A S E ps cs) : ∀ (r k fx fr : Nat) (x m : gS), k + r = K → (ts.length - cs k) + 2 * r < fx → r ≤ fr → XL ds x → ML ts m → m.1 0 9 = iI K → (∀ k, k < K → m.1 7 k = A k ∧ m.1 8 k = S k ∧ m.1 9 k = E k) → NMS x m → cs k ≤ ts.length → ∃ v y w, f_X4_run_4 fx (iI 0) (iI (ps k)) x = some (v, y) ∧ f_X10_loss_82 (fr + 1) (iI k) m = some (jmax (iI 0) (jmin (iI 99) v), w) ∧ Ch c11 x y ∧ Ch c15 m w := by
  intro r
  induction r with
  | zero =>
    intro k fx fr x m hk hf hg hx hm e9 hA hn hc
    have ek : k = K := by omega
    obtain ⟨fx, rfl⟩ : ∃ q, fx = q + 1 := ⟨fx - 1, by omega⟩
    have e6 := hx.1
    have g1 : ((ds.length : Nat) : Int) ≤ ((ds.length : Nat) : Int) := by omega
    have g2 : (K : Int) ≤ (K : Int) := by omega
    refine ⟨iI 0, x, m, ?_, ?_, Ch_refl _ _, Ch_refl _ _⟩
    · rw [ek, hL.2.2.1, f_X4_run_4]
      simp +decide (maxSteps := 2000000) (disch := omega) only [↓gl_p, ↓bs_p, iI_lit, iI_neg, iI_add, iI_sub, iI_mul, gk_p, bs_p, bz0, bz1, pI_row, pI_snd, pA_row, pA_snd, pL_fst, pL_row, pB_fst, pB_row, upd_at, ↓reduceIte, Int.reduceToNat, Nat.reduceEqDiff, iI_lt, iI_le, iI_eq, iI_inb, iI_nat, iI_nz, e6, eq_true g1, Int.le_refl]
    · rw [ek, f_X10_loss_82]
      simp +decide (maxSteps := 2000000) (disch := omega) only [↓gl_p, ↓bs_p, iI_lit, iI_neg, iI_add, iI_sub, iI_mul, gk_p, bs_p, bz0, bz1, pI_row, pI_snd, pA_row, pA_snd, pL_fst, pL_row, pB_fst, pB_row, upd_at, ↓reduceIte, Int.reduceToNat, Nat.reduceEqDiff, iI_lt, iI_le, iI_eq, iI_inb, iI_nat, iI_nz, e9, eq_true g2, Int.le_refl]
      rfl
  | succ r ih =>
    intro k fx fr x m hk hf hg hx hm e9 hA hn hc
    obtain ⟨te, bo, w1, w2, w3, q4, q5, q6, q7, q8, q9, q10⟩ := hL.2.2.2.2 k (by omega)
    obtain ⟨a7, a8, a9⟩ := hA k (by omega)
    rw [q4] at a7
    rw [q5] at a8
    rw [q6] at a9
    have g1 : ¬ (K : Int) ≤ (k : Int) := by omega
    have le1 := q9.1
    rw [List.length_append] at le1
    obtain ⟨qt, qb⟩ := AT_c q9
    rw [f_X10_loss_82]
    rcases w2 with w2 | w2
    · subst w2
      rw [lnc_1] at q10 q8
      obtain ⟨x1, x2⟩ := AT_c q10
      have l0 : ([] : List Nat).length = 0 := rfl
      rw [l0] at a8 a9 qb q7
      have lx := x2.1
      have ly := x2.2 0 (by simp)
      rw [List.length_singleton] at lx
      have ly : ds.getD (ps k + (trs bo).length) 0 = 59 := ly
      have f59 := hx.2 (ps k + (trs bo).length) (by omega)
      rw [ly] at f59
      obtain ⟨y, w, k1, k2, k3, k4, k5⟩ := pc_sim (fx := fx - bo.length) hds w1 (by omega) (e := cs k + 0 + bo.length) (by omega) rfl x1 qb hx hm hn
      have g2 : ((cs k + 0 : Nat) : Int) ≤ ((cs k : Nat) : Int) := by omega
      refine ⟨y.1 11 0, y, w, ?_, ?_, k3, k4⟩
      · rw [show fx = fx - bo.length + bo.length by omega, k1, show fx - bo.length = (fx - bo.length - 1) + 1 by omega]
        exact cr_59 (h := 1) (XL_ch hx k3).1 hds (by omega) ((k3.2 10 _ rfl).trans f59)
      · have l3 := lo_132 (by omega) a8 a9 k2
        rw [k5]
        simp +decide (maxSteps := 2000000) (disch := omega) only [↓gl_p, ↓bs_p, iI_lit, iI_neg, iI_add, iI_sub, iI_mul, gk_p, bs_p, bz0, bz1, pI_row, pI_snd, pA_row, pA_snd, pL_fst, pL_row, pB_fst, pB_row, upd_at, ↓reduceIte, Int.reduceToNat, Nat.reduceEqDiff, iI_lt, iI_le, iI_eq, iI_inb, iI_nat, iI_nz, e9, g1, a7, a8, Int.toNat_natCast, eq_true g2]
        exact l3
    · rw [lnc_2 w2] at q10 q8
      have hte : 1 ≤ te.length := by
        cases te with
        | nil => exact absurd rfl (WF_ne w2)
        | cons a l => simp
      rw [List.append_assoc, List.append_assoc] at q10
      obtain ⟨x1, x2⟩ := AT_c q10
      obtain ⟨x3, x4⟩ := AT_c x2
      obtain ⟨x5, x6⟩ := AT_c x4
      obtain ⟨x7, x8⟩ := AT_c x6
      rw [List.length_singleton] at x4 x6 x8
      rw [List.length_singleton] at x6 x8
      have p2 : ps (k + 1) = ps k + (trs te).length + (trs bo).length + 3 := by
        rw [q8]
        simp only [List.length_append, List.length_singleton]
        omega
      have lx := x8.1
      rw [List.length_singleton] at lx
      have f63 := hx.2 (ps k + (trs te).length) (by omega)
      have v63 : ds.getD (ps k + (trs te).length + 0) 0 = 63 := x3.2 0 (by simp)
      rw [show ds.getD (ps k + (trs te).length) 0 = 63 from v63] at f63
      have fho := hx.2 (ps k + (trs te).length + 1) (by omega)
      have vho : ds.getD (ps k + (trs te).length + 1 + 0) 0 = ps k + (trs te).length + (trs bo).length + 3 := x5.2 0 (by simp)
      rw [show ds.getD (ps k + (trs te).length + 1) 0 = _ from vho, ← p2] at fho
      obtain ⟨y, w, k1, k2, k3, k4, k5⟩ := pc_sim (fx := fx - te.length) hds w2 (by omega) (e := cs k + te.length) (by omega) rfl x1 qt hx hm hn
      have hx2 := XL_ch hx k3
      have hm2 := ML_ch hm k4
      have g2 : ¬ ((cs k + te.length : Nat) : Int) ≤ ((cs k : Nat) : Int) := by omega
      have R := cr_63 (h := 1) (f := fx - te.length - 1) hx2.1 hds (by omega) ((k3.2 10 _ rfl).trans f63) ((k3.2 10 _ rfl).trans fho) (by omega) (by omega)
      rw [show fx = fx - te.length + te.length by omega, k1, show fx - te.length = (fx - te.length - 1) + 1 by omega]
      by_cases c : w.1 15 0 = iI 0
      · rw [show y.1 11 0 = 0 from k5.trans c, if_pos rfl] at R
        obtain ⟨fr, rfl⟩ : ∃ q, fr = q + 1 := ⟨fr - 1, by omega⟩
        obtain ⟨v, y2, w2', r1, r2, r3, r4⟩ := ih (k + 1) (fx - te.length - 1) fr y w (by omega) (by omega) (by omega) hx2 hm2 ((k4.2 0 9 rfl).trans e9) (fun k2 hk2 => by
          obtain ⟨b7, b8, b9⟩ := hA k2 hk2
          exact ⟨(k4.2 7 k2 rfl).trans b7, (k4.2 8 k2 rfl).trans b8, (k4.2 9 k2 rfl).trans b9⟩) (NMS_c hn k3 k4) (by omega)
        refine ⟨v, y2, w2', ?_, ?_, Ch_tr k3 r3, Ch_tr k4 r4⟩
        · exact R.trans r1
        · simp +decide (maxSteps := 2000000) (disch := omega) only [↓gl_p, ↓bs_p, iI_lit, iI_neg, iI_add, iI_sub, iI_mul, gk_p, bs_p, bz0, bz1, pI_row, pI_snd, pA_row, pA_snd, pL_fst, pL_row, pB_fst, pB_row, upd_at, ↓reduceIte, Int.reduceToNat, Nat.reduceEqDiff, iI_lt, iI_le, iI_eq, iI_inb, iI_nat, iI_nz, e9, g1, a7, a8, Int.toNat_natCast, g2, k2, eq_true c]
          exact r2
      · rw [if_neg (show ¬ y.1 11 0 = 0 from fun h => c (k5.symm.trans h))] at R
        obtain ⟨y3, w3, s1, s2, s3, s4, s5⟩ := pc_sim (fx := fx - te.length - 1 - bo.length) (p := ps k + (trs te).length + 2) (c := cs k + te.length) hds w1 (by omega) (e := cs k + te.length + bo.length) (by omega) rfl (by
          rw [show ps k + (trs te).length + 2 = ps k + (trs te).length + 1 + 1 by omega]
          exact x7) qb hx2 hm2 (NMS_c hn k3 k4)
        have f59 := hx2.2 (ps k + (trs te).length + 2 + (trs bo).length) (by omega)
        have ly : ds.getD (ps k + (trs te).length + 1 + 1 + (trs bo).length + 0) 0 = 59 := x8.2 0 (by simp)
        rw [show ds.getD (ps k + (trs te).length + 2 + (trs bo).length) 0 = 59 from ly] at f59
        refine ⟨y3.1 11 0, y3, w3, ?_, ?_, Ch_tr k3 s3, Ch_tr k4 s4⟩
        · refine R.trans ?_
          rw [show fx - te.length - 1 = fx - te.length - 1 - bo.length + bo.length by omega]
          refine s1.trans ?_
          rw [show fx - te.length - 1 - bo.length = (fx - te.length - 1 - bo.length - 1) + 1 by omega]
          exact cr_59 (h := 1) (XL_ch hx2 s3).1 hds (by omega) ((s3.2 10 _ rfl).trans f59)
        · have l3 := lo_132 (m := w) (k := k) (by omega) ((k4.2 8 k rfl).trans a8) ((k4.2 9 k rfl).trans a9) s2
          rw [s5]
          simp +decide (maxSteps := 2000000) (disch := omega) only [↓gl_p, ↓bs_p, iI_lit, iI_neg, iI_add, iI_sub, iI_mul, gk_p, bs_p, bz0, bz1, pI_row, pI_snd, pA_row, pA_snd, pL_fst, pL_row, pB_fst, pB_row, upd_at, ↓reduceIte, Int.reduceToNat, Nat.reduceEqDiff, iI_lt, iI_le, iI_eq, iI_inb, iI_nat, iI_nz, e9, g1, a7, a8, Int.toNat_natCast, g2, k2, c]
          exact l3
