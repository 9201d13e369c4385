/-! ===== the law: terms, the two alike ===== -/
def cl (d b op f M k : Nat) (x : gS) : Option gS := f_X4_readTerm_10 (fR_X4_readOpened d).1 (fR_X4_readOpened d).2.1 (fR_X4_readOpened d).2.2 f (iI b) (iI op) (iI ((M : Int) - 1)) (iI k) x
theorem cl_stop {a : Nat} {tp : Nat → Nat} {d b op f M k i : Nat} {ds : List Nat} {x : gS} (hT : TP a tp) (hi : i ≤ a) (hb : b ≤ 5) (hM : M ≤ 5) (hk : k < 120) (hx : XS a tp i ds x) (h : lvI (pk a tp i) < b ∨ (M : Int) ≤ lvI (pk a tp i)) : cl d b op (f + 1) M k x = some x := by
  have pr := pk_r hT i
  have px := s_peek hT hx.1.1 hx.1.2 hx.2.1 hi
  have bx := s_lv x pr.1 pr.2
  have lr := lv_r (pk a tp i)
  have e1 := hx.2.2.1
  have g1 : ¬ (120 : Int) ≤ (k : Int) := by omega
  unfold cl
  rw [f_X4_readTerm_10]
  simp +decide (maxSteps := 2000000) (disch := omega) only [↓gl_p, ↓bs_p, iI_lit, iI_neg, iI_add, iI_sub, iI_mul, gk_p, bs_p, bz0, bz1, pI_row, pI_snd, pA_row, pA_snd, pL_fst, pL_row, pB_fst, pB_row, upd_at, ↓reduceIte, Int.reduceToNat, Nat.reduceEqDiff, iI_lt, iI_le, iI_eq, iI_inb, iI_nat, iI_nz, g1, e1, px, bx]
  by_cases c : lvI (pk a tp i) < b
  · rw [if_pos c]
  · rw [if_neg c, if_neg (by omega)]
theorem cl_dec {a : Nat} {tp : Nat → Nat} {d b op f M k i : Nat} {ds : List Nat} {x : gS} (hT : TP a tp) (hi : i ≤ a) (hb : b ≤ 5) (hM : M ≤ 5) (hk : k < 120) (hx : XS a tp i ds x) (h : ¬ lvI (pk a tp i) = M) : cl d b op (f + 1) (M + 1) k x = cl d b op (f + 1) M k x := by
  have pr := pk_r hT i
  have px := s_peek hT hx.1.1 hx.1.2 hx.2.1 hi
  have bx := s_lv x pr.1 pr.2
  have lr := lv_r (pk a tp i)
  have e1 := hx.2.2.1
  have g1 : ¬ (120 : Int) ≤ (k : Int) := by omega
  have g2 : (lvI (pk a tp i) ≤ ((M + 1 : Nat) : Int) - 1) = (lvI (pk a tp i) ≤ (M : Int) - 1) := by
    apply propext
    constructor <;> intro h2 <;> omega
  unfold cl
  rw [f_X4_readTerm_10, f_X4_readTerm_10]
  simp +decide (maxSteps := 2000000) (disch := omega) only [↓gl_p, ↓bs_p, iI_lit, iI_neg, iI_add, iI_sub, iI_mul, gk_p, bs_p, bz0, bz1, pI_row, pI_snd, pA_row, pA_snd, pL_fst, pL_row, pB_fst, pB_row, upd_at, ↓reduceIte, Int.reduceToNat, Nat.reduceEqDiff, iI_lt, iI_le, iI_eq, iI_inb, iI_nat, iI_nz, g1, e1, px, bx, g2]
theorem cl_brk {d b op f M k : Nat} {x : gS} {v : Int32} (hk : k ≤ 120) (e1 : x.1 7 8 = iI 1) : f_X4_readTerm_10 (fR_X4_readOpened d).1 (fR_X4_readOpened d).2.1 (fR_X4_readOpened d).2.2 (f + 1) (iI b) (iI op) v (iI k) x = some x := by
  rw [f_X4_readTerm_10]
  by_cases c : (120 : Int) ≤ (k : Int)
  · simp +decide (maxSteps := 2000000) (disch := omega) only [↓gl_p, ↓bs_p, iI_lit, iI_neg, iI_add, iI_sub, iI_mul, gk_p, bs_p, bz0, bz1, pI_row, pI_snd, pA_row, pA_snd, pL_fst, pL_row, pB_fst, pB_row, upd_at, ↓reduceIte, Int.reduceToNat, Nat.reduceEqDiff, iI_lt, iI_le, iI_eq, iI_inb, iI_nat, iI_nz, c]
  · simp +decide (maxSteps := 2000000) (disch := omega) only [↓gl_p, ↓bs_p, iI_lit, iI_neg, iI_add, iI_sub, iI_mul, gk_p, bs_p, bz0, bz1, pI_row, pI_snd, pA_row, pA_snd, pL_fst, pL_row, pB_fst, pB_row, upd_at, ↓reduceIte, Int.reduceToNat, Nat.reduceEqDiff, iI_lt, iI_le, iI_eq, iI_inb, iI_nat, iI_nz, c, e1]
theorem cl_op {a : Nat} {tp : Nat → Nat} {d b op f M k i : Nat} {ds : List Nat} {x : gS} (hT : TP a tp) (hi : i ≤ a) (hb : b ≤ M) (hM : M ≤ 4) (hk : k < 120) (hx : XS a tp i ds x) (h : lvI (pk a tp i) = M) : cl d b op (f + 1) (M + 1) k x = ((fR_X4_readOpened d).2.2 (pI x 7 7 (iI ((i : Int) + 1))) (iI ((M : Int) + 1)) (iI op)).bind fun q4 => (f_X4_emit q4 (iI (pk a tp i))).bind fun q5 => cl d b op f (if M = 2 then 2 else M + 1) (k + 1) q5 := by
  have pr := pk_r hT i
  have px := s_peek hT hx.1.1 hx.1.2 hx.2.1 hi
  have bx := s_lv x pr.1 pr.2
  have e1 := hx.2.2.1
  have e2 := hx.2.1
  have g1 : ¬ (120 : Int) ≤ (k : Int) := by omega
  have g2 : ¬ (M : Int) < (b : Int) := by omega
  have g3 : (M : Int) ≤ ((M + 1 : Nat) : Int) - 1 := by omega
  have n1 : ((k + 1 : Nat) : Int) = (k : Int) + 1 := by omega
  rw [h] at bx
  unfold cl
  rw [f_X4_readTerm_10, n1]
  simp +decide (maxSteps := 2000000) (disch := omega) only [↓gl_p, ↓bs_p, iI_lit, iI_neg, iI_add, iI_sub, iI_mul, gk_p, bs_p, bz0, bz1, pI_row, pI_snd, pA_row, pA_snd, pL_fst, pL_row, pB_fst, pB_row, upd_at, ↓reduceIte, Int.reduceToNat, Nat.reduceEqDiff, iI_lt, iI_le, iI_eq, iI_inb, iI_nat, iI_nz, g1, e1, e2, px, bx, g2, g3]
  by_cases c : M = 2
  · subst c
    rfl
  · have c2 : ¬ (M : Int) = 2 := by omega
    have n2 : ((M + 1 : Nat) : Int) - 1 = M := by omega
    simp only [c, c2, ↓reduceIte, n2]
theorem OUT_fin {a : Nat} {tp : Nat → Nat} {i0 i op : Nat} {ds ts us : List Nat} {x0 m0 x m : gS} (hi : i ≤ a) (h0 : i0 < i) (hx : Ch pcX x0 x) (hm : Ch pcM m0 m) (hw : WF us) (h1 : us.length + i0 ≤ i) (h2 : (trs us).length + 2 * i0 ≤ 2 * i) (h3 : XS a tp i (ds ++ trs us) x) (h4 : MS a tp i op (ts ++ us) m) : OUT a tp i0 op ds ts x0 m0 (some x) (some (iI 1, m)) :=
  ⟨x, m, i, by omega, hi, rfl, hx, hm, Or.inr ⟨rfl, h0, us, hw, h1, h2, h3, h4⟩⟩
theorem L_sim {a : Nat} {tp : Nat → Nat} {op d e b : Nat} (hT : TP a tp) (hb : b ≤ 5) (hI : ∀ c, b ≤ c → c ≤ 4 → SO a tp op (fun x => (fR_X4_readOpened d).2.2 x (iI ((c : Int) + 1)) (iI op)) (TT (c + 1) e)) {i0 : Nat} {ds ts : List Nat} {x0 m0 : gS} (hd : ds.length ≤ 2 * i0) (ht : ts.length ≤ i0) : ∀ (N r : Nat), r < N → ∀ (M i k f : Nat) (F : Nat → Nat) (us : List Nat) (x m : gS), M ≤ 5 → i + r = a → r ≤ f → (∀ c, r < F c) → k < i → i0 < i → Ch pcX x0 x → Ch pcM m0 m → WF us → us.length + i0 ≤ i → (trs us).length + 2 * i0 ≤ 2 * i → XS a tp i (ds ++ trs us) x → MS a tp i op (ts ++ us) m → OUT a tp i0 op ds ts x0 m0 (cl d b op (f + 1) M k x) (RN b e F M m) := by
  have ha := hT.1
  intro N
  induction N with
  | zero => intro r hr; exact absurd hr (by omega)
  | succ N ihN =>
    intro r hr M
    induction M with
    | zero =>
      intro i k f F us x m hM hir hf hF hk h0 cx cm hw u1 u2 hx hm
      rw [cl_stop hT (by omega) hb (by omega) (by omega) hx (by
        have lr := lv_r (pk a tp i)
        omega)]
      exact OUT_fin (by omega) h0 cx cm hw u1 u2 hx hm
    | succ M ihM =>
      intro i k f F us x m hM hir hf hF hk h0 cx cm hw u1 u2 hx hm
      have pr := pk_r hT i
      have lr := lv_r (pk a tp i)
      have ps := s_sign hT hm.1.1 hm.1.2 hm.2.1 (show i ≤ a by omega)
      rw [RN]
      by_cases c1 : M < b
      · rw [if_pos c1, cl_stop hT (by omega) hb (by omega) (by omega) hx (by omega)]
        exact OUT_fin (by omega) h0 cx cm hw u1 u2 hx hm
      · rw [if_neg c1]
        by_cases c2 : lvI (pk a tp i) = M
        · obtain ⟨p1, p2⟩ := pkn_ (a := a) (tp := tp) (i := i) (by
            by_cases h : pk a tp i = -1
            · rw [h] at c2
              exact absurd (show lvI (-1) = -1 from rfl) (by omega)
            · omega)
          have h255 := hT.2 i p1
          have tk := tk_k (tp i) (by omega) (by
            rw [← p2]
            omega)
          rw [← p2] at tk
          obtain ⟨t1, t2, t3⟩ := tk
          have ub : ds.length + (trs us).length ≤ 2 * i := by omega
          have S := hI M (by omega) (by omega) (i + 1) (ds ++ trs us) (ts ++ us) _ _ (by omega) (by
            rw [List.length_append]
            omega) (by
            rw [List.length_append]
            omega) (XS_go hx) (MS_go hm)
          have hlo : ∀ g, lo M e (g + 1) m = _ := fun g => lo_op (e := e) (f := g) (by omega) ps c2
          rw [cl_op hT (by omega) (by omega) (by omega) (by omega) hx c2]
          rw [hm.2.1, iI_p1] at hlo
          obtain ⟨y, w, j, g1, g2, g3, g4, g5, g6⟩ := S
          rw [show (fR_X4_readOpened d).2.2 (pI x 7 7 (iI ((i : Int) + 1))) (iI ((M : Int) + 1)) (iI op) = some y from g3, b_some]
          have cx2 : Ch pcX x0 y := Ch_tr cx (Ch_tr (Ch_pI (Ch_refl _ _) rfl) g4)
          have cm2 : Ch pcM m0 w := Ch_tr cm (Ch_tr (Ch_pI (Ch_refl _ _) rfl) g5)
          obtain ⟨fM, hfM⟩ : ∃ q, F M = q + 1 := ⟨F M - 1, by have := hF M; omega⟩
          obtain ⟨f, rfl⟩ : ∃ q, f = q + 1 := ⟨f - 1, by omega⟩
          rcases g6 with ⟨g7, g8, g9⟩ | ⟨g7, g8, vs, v1, v2, v3, v4, v5⟩
          · obtain ⟨z, k1, k2, k3, k4, k5⟩ := s_emitF (iI (pk a tp i)) g8.2.2
            have l0 : lo M e (F M) m = some (iI 0, w) := by
              rw [hfM, hlo, g7, bnd_0]
            have rn : (if M = b then lo b e (F b) m else bnd (lo M e (F M) m) (RN b e F M)) = some (iI 0, w) := by
              by_cases c3 : M = b
              · rw [if_pos c3, ← c3, l0]
              · rw [if_neg c3, l0, bnd_0]
            rw [rn, k1, b_some]
            unfold cl
            rw [cl_brk (M := 0) (by omega) (k4.trans g8.2.1)]
            exact ⟨z, w, j, by omega, g2, rfl, Ch_tr cx2 k2, cm2, Or.inl ⟨rfl, ⟨k3.trans g8.1, k4.trans g8.2.1, k5⟩, g9⟩⟩
          · obtain ⟨z, k1, k2, k3⟩ := XS_emit (sgz (tkI (pk a tp i))) v4 (by
              rw [List.length_append, List.length_append]
              omega)
            obtain ⟨q, d1, d2, d3⟩ := MS_codes (tkI (pk a tp i)) v5 (by
              rw [List.length_append, List.length_append]
              omega)
            have t4 : ((sgz (tkI (pk a tp i)) : Nat) : Int) = pk a tp i := by
              rw [t3, p2]
            rw [t4] at k1
            have l0 : lo M e (F M) m = if M = 2 then some (iI 1, q) else lo M e fM q := by
              rw [hfM, hlo, g7, bnd_1, d1, b_some]
            have tr2 : trs (us ++ vs ++ [tkI (pk a tp i)]) = trs us ++ trs vs ++ [sgz (tkI (pk a tp i))] := by
              rw [trs_app, trs_app, tr1_s (by omega) (by omega)]
            have l1 : (us ++ vs ++ [tkI (pk a tp i)]).length = us.length + vs.length + 1 := by
              rw [len_s, List.length_append]
            have l2 : (trs (us ++ vs ++ [tkI (pk a tp i)])).length = (trs us).length + (trs vs).length + 1 := by
              rw [tr2, len_s, List.length_append]
            have ih := ihN (a - j) (by omega) (if M = 2 then 2 else M + 1) j (k + 1) f (fun c => if c = M then fM else F c) (us ++ vs ++ [tkI (pk a tp i)]) z q (by split <;> omega) (by omega) (by omega) (fun c => by
              have h1 := hF c
              have h2 := hF M
              show a - j < if c = M then fM else F c
              split <;> omega) (by omega) (by omega) (Ch_tr cx2 k2) (Ch_tr cm2 d2) (WF_b hw v1 ⟨t1, t2⟩) (by omega) (by omega) (by
              rw [tr2, ← List.append_assoc, ← List.append_assoc]
              exact k3) (by
              rw [← List.append_assoc, ← List.append_assoc]
              exact d3)
            have rn : (if M = b then lo b e (F b) m else bnd (lo M e (F M) m) (RN b e F M)) = RN b e (fun c => if c = M then fM else F c) (if M = 2 then 2 else M + 1) q := by
              by_cases c4 : M = 2
              · rw [if_pos c4] at l0
                rw [if_pos c4]
                by_cases c3 : M = b
                · rw [if_pos c3, ← c3, l0, RN, if_pos (by omega)]
                · rw [if_neg c3, l0, bnd_1, RN_F (G := fun c => if c = M then fM else F c) M (fun c hc => by
                    show F c = if c = M then fM else F c
                    rw [if_neg (by omega)]), c4]
              · rw [if_neg c4] at l0
                rw [if_neg c4, RN, if_neg c1]
                by_cases c3 : M = b
                · rw [if_pos c3, if_pos c3, ← c3, l0]
                  show lo M e fM q = lo M e (if M = M then fM else F M) q
                  rw [if_pos rfl]
                · rw [if_neg c3, if_neg c3, l0, RN_F (G := fun c => if c = M then fM else F c) M (fun c hc => by
                    show F c = if c = M then fM else F c
                    rw [if_neg (by omega)])]
                  show _ = bnd (lo M e (if M = M then fM else F M) q) _
                  rw [if_pos rfl]
            rw [rn, k1, b_some]
            exact ih
        · have l0 : lo M e (F M) m = some (iI 1, m) := by
            obtain ⟨fM, hfM⟩ : ∃ q, F M = q + 1 := ⟨F M - 1, by have := hF M; omega⟩
            rw [hfM]
            exact lo_no (by omega) ps pr.1 pr.2 c2
          by_cases c3 : M = b
          · rw [if_pos c3, ← c3, l0, c3, cl_stop hT (by omega) hb (by omega) (by omega) hx (by omega)]
            exact OUT_fin (by omega) h0 cx cm hw u1 u2 hx hm
          · rw [if_neg c3, l0, bnd_1, cl_dec hT (by omega) hb (by omega) (by omega) hx c2]
            exact ihM i k f F us x m (by omega) hir hf hF hk h0 cx cm hw u1 u2 hx hm
theorem fX_s (d : Nat) (x : gS) (b op : Int32) : (fR_X4_readOpened (d + 1)).2.2 x b op = ((fR_X4_readOpened d).2.1 x op).bind fun q1 => f_X4_readTerm_10 (fR_X4_readOpened d).1 (fR_X4_readOpened d).2.1 (fR_X4_readOpened d).2.2 gN b op 4 0 q1 := by
  show F_X4_readTerm _ _ _ x b op = _
  unfold F_X4_readTerm
  rfl
theorem T_sim {a : Nat} {tp : Nat → Nat} {op d e b : Nat} (hT : TP a tp) (hb : b ≤ 5) (hO : SO a tp op (fun x => (fR_X4_readOpened d).2.1 x (iI op)) (TT 5 e)) (hI : ∀ c, b ≤ c → c ≤ 4 → SO a tp op (fun x => (fR_X4_readOpened d).2.2 x (iI ((c : Int) + 1)) (iI op)) (TT (c + 1) e)) : SO a tp op (fun x => (fR_X4_readOpened (d + 1)).2.2 x (iI b) (iI op)) (TT b e) := by
  intro i ds ts x m hi hd ht hx hm
  have ha := hT.1
  obtain ⟨y, w, j, g1, g2, g3, g4, g5, g6⟩ := hO i ds ts x m hi hd ht hx hm
  show OUT a tp i op ds ts x m ((fR_X4_readOpened (d + 1)).2.2 x (iI b) (iI op)) (TT b e m)
  rw [fX_s, show (fR_X4_readOpened d).2.1 x (iI op) = some y from g3, b_some]
  rcases g6 with ⟨g7, g8, g9⟩ | ⟨g7, g8, us, v1, v2, v3, v4, v5⟩
  · rw [TT_no hb g7, gN_s, show (0 : Int32) = iI ((0 : Nat) : Int) from rfl, cl_brk (M := 0) (by omega) g8.2.1]
    exact ⟨y, w, j, by omega, g2, rfl, g4, g5, Or.inl ⟨rfl, g8, g9⟩⟩
  · rw [TT_ok hb g7]
    have k := L_sim hT hb hI hd ht (x0 := x) (m0 := m) (a - j + 1) (a - j) (by omega) 5 j 0 999999 (fun _ => gN) us y w (by omega) (by omega) (by omega) (fun c => by
      show a - j < gN
      rw [gN_s]
      omega) (by omega) g8 g4 g5 v1 v2 v3 v4 v5
    exact k
theorem A_ind {a : Nat} {tp : Nat → Nat} (hT : TP a tp) {w : Nat} (h1 : ∀ d e, 8 * w + 2 ≤ d → 6 * w + 1 ≤ e → SO a tp (6 - w) (fun x => (fR_X4_readOpened d).2.1 x (iI ((6 - w : Nat) : Int))) (TT 5 e)) : ∀ (r b d e : Nat), b + r = 5 → 8 * w + 8 ≤ d + b → 6 * w + 1 ≤ e → SO a tp (6 - w) (fun x => (fR_X4_readOpened d).2.2 x (iI b) (iI ((6 - w : Nat) : Int))) (TT b e) := by
  suffices H : ∀ (N r : Nat), r < N → ∀ (b d e : Nat), b + r = 5 → 8 * w + 8 ≤ d + b → 6 * w + 1 ≤ e → SO a tp (6 - w) (fun x => (fR_X4_readOpened d).2.2 x (iI b) (iI ((6 - w : Nat) : Int))) (TT b e) from fun r => H (r + 1) r (by omega)
  intro N
  induction N with
  | zero => intro r hr; exact absurd hr (by omega)
  | succ N ih =>
    intro r hr b d e hb hd he
    obtain ⟨d, rfl⟩ : ∃ q, d = q + 1 := ⟨d - 1, by omega⟩
    refine T_sim hT (by omega) (h1 d e (by omega) he) (fun c hc1 hc2 => ?_)
    exact ih (5 - (c + 1)) (by omega) (c + 1) d e (by omega) (by omega) he
theorem A_sim {a : Nat} {tp : Nat → Nat} (hT : TP a tp) : ∀ w : Nat, w ≤ 6 → (∀ d e, 8 * w + 2 ≤ d → 6 * w + 1 ≤ e → SO a tp (6 - w) (fun x => (fR_X4_readOpened d).2.1 x (iI ((6 - w : Nat) : Int))) (TT 5 e)) ∧ (∀ (r b d e : Nat), b + r = 5 → 8 * w + 8 ≤ d + b → 6 * w + 1 ≤ e → SO a tp (6 - w) (fun x => (fR_X4_readOpened d).2.2 x (iI b) (iI ((6 - w : Nat) : Int))) (TT b e)) := by
  intro w
  induction w with
  | zero =>
    intro _
    have h1 : ∀ d e, 8 * 0 + 2 ≤ d → 6 * 0 + 1 ≤ e → SO a tp (6 - 0) (fun x => (fR_X4_readOpened d).2.1 x (iI ((6 - 0 : Nat) : Int))) (TT 5 e) := by
      intro d e hd he
      obtain ⟨d, rfl⟩ : ∃ q, d = q + 2 := ⟨d - 2, by omega⟩
      obtain ⟨e, rfl⟩ : ∃ q, e = q + 1 := ⟨e - 1, by omega⟩
      exact O_sim (op := 6) hT (by omega) d e (fun h => absurd h (by omega)) (fun h => absurd h (by omega))
    exact ⟨h1, A_ind hT h1⟩
  | succ w ih =>
    intro hw
    obtain ⟨k1, k2⟩ := ih (by omega)
    have n0 : 6 - w = (6 - (w + 1)) + 1 := by omega
    have n1 : ((6 - w : Nat) : Int) = ((6 - (w + 1) : Nat) : Int) + 1 := by omega
    have h1 : ∀ d e, 8 * (w + 1) + 2 ≤ d → 6 * (w + 1) + 1 ≤ e → SO a tp (6 - (w + 1)) (fun x => (fR_X4_readOpened d).2.1 x (iI ((6 - (w + 1) : Nat) : Int))) (TT 5 e) := by
      intro d e hd he
      obtain ⟨d, rfl⟩ : ∃ q, d = q + 2 := ⟨d - 2, by omega⟩
      obtain ⟨e, rfl⟩ : ∃ q, e = q + 6 := ⟨e - 6, by omega⟩
      refine O_sim (op := 6 - (w + 1)) hT (by omega) d (e + 5) (fun _ => ?_) (fun _ => ?_)
      · have k := k1 d (e + 5) (by omega) (by omega)
        rw [n1, n0] at k
        exact k
      · have k := k2 5 0 d e (by omega) (by omega) (by omega)
        rw [n1, n0] at k
        exact k
    exact ⟨h1, A_ind hT h1⟩
