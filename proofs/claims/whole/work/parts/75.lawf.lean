/-! ===== the law: lines ===== -/
theorem E_sim {a : Nat} {tp : Nat → Nat} (hT : TP a tp) : SO a tp 0 (fun x => f_X4_readTerm x (iI 0) (iI 0)) f_X10_isE := by
  have k := (A_sim hT 6 (by omega)).2 5 0 64 59 (by omega) (by omega) (by omega)
  intro i ds ts x m h1 h2 h3 h4 h5
  exact k i ds ts x m h1 h2 h3 h4 h5
def lnc (te bo : List Nat) (p : Nat) : List Nat := if te = [] then trs bo ++ [59] else trs te ++ [63] ++ [p + (trs te).length + (trs bo).length + 3] ++ (trs bo ++ [59])
theorem DR_set {A B : List Nat} {n z : Nat} {σ : gS} (h : DR (A ++ [z] ++ B) σ) : DR (A ++ [n] ++ B) (pI σ 9 A.length (iI n)) := by
  obtain ⟨h1, h2⟩ := h
  have l1 : (A ++ [z] ++ B).length = A.length + 1 + B.length := by
    simp
    omega
  have l2 : (A ++ [n] ++ B).length = A.length + 1 + B.length := by
    simp
    omega
  refine ⟨?_, fun k hk => ?_⟩
  · rw [l2, ← l1]
    exact h1
  · show upd (σ.1 9) A.length (iI n) k = _
    rw [upd_at]
    have k2 := h2 k (by omega)
    have a1 : ∀ u : Nat, (A ++ [u]).length = A.length + 1 := fun u => len_s A u
    by_cases c : k = A.length
    · rw [if_pos c, gD_l (show k < (A ++ [n]).length by
        rw [a1]
        omega), gD_s A n k (by
        rw [a1]
        omega), if_pos c]
    · rw [if_neg c, k2]
      by_cases c2 : k < A.length + 1
      · rw [gD_l (show k < (A ++ [n]).length by
          rw [a1]
          omega), gD_l (show k < (A ++ [z]).length by
          rw [a1]
          omega), gD_s A n k (by
          rw [a1]
          omega), gD_s A z k (by
          rw [a1]
          omega), if_neg c, if_neg c]
      · rw [gD_r (A ++ [n]) B (by
          rw [a1]
          omega), gD_r (A ++ [z]) B (by
          rw [a1]
          omega), a1, a1]
def pcL (c j : Nat) : Bool := c == 11 || c == 12 || c == 13 || c == 14 || (c == 0 && (j == 14 || j == 15 || j == 16 || j == 17))
theorem pcL_of {m w : gS} (h : Ch pcM m w) : Ch pcL m w := Ch_mo h (fun c j hd => by
  unfold pcL at hd
  unfold pcM
  simp at hd ⊢
  omega)
def LOUT (a : Nat) (tp : Nat → Nat) (i K : Nat) (ds ts : List Nat) (x m : gS) (rx : Option gS) (rm : Option (Int32 × gS)) : Prop :=
  ∃ (y w : gS) (j : Nat), i ≤ j ∧ j ≤ a ∧ rx = some y ∧ Ch pcX x y ∧ Ch pcL m w ∧ ((rm = some (iI 0, w) ∧ XF j y ∧ w.1 0 14 = iI j) ∨ (rm = some (iI 1, w) ∧ i < j ∧ ∃ te bo, WF bo ∧ (te = [] ∨ WF te) ∧ te.length + bo.length + i ≤ j ∧ (lnc te bo ds.length).length + 2 * i ≤ 2 * j + 1 ∧ XS a tp j (ds ++ lnc te bo ds.length) y ∧ MS a tp j 0 (ts ++ te ++ bo) w ∧ w.1 0 17 = iI ((K + 1 : Nat) : Int) ∧ (∀ k, k ≠ K → w.1 11 k = m.1 11 k ∧ w.1 12 k = m.1 12 k ∧ w.1 13 k = m.1 13 k) ∧ w.1 11 K = iI ts.length ∧ w.1 12 K = iI ((ts.length + te.length : Nat) : Int) ∧ w.1 13 K = iI ((ts.length + te.length + bo.length : Nat) : Int)))
theorem s_l71 {a : Nat} {tp : Nat → Nat} {j K : Nat} {us : List Nat} {m : gS} (hK : K ≤ 60) (e : m.1 0 17 = iI K) (h : MS a tp j 0 us m) : f_X10_isLine_71 m = some (iI 1, pI (pI m 0 17 (iI ((K + 1 : Nat) : Int))) 13 K (iI us.length)) := by
  have e2 := h.2.2.2.1
  unfold f_X10_isLine_71
  simp +decide (maxSteps := 2000000) (disch := omega) only [↓gl_p, ↓bs_p, iI_lit, iI_neg, iI_add, iI_sub, iI_mul, gk_p, bs_p, bz0, bz1, pI_row, pI_snd, pA_row, pA_snd, pL_fst, pL_row, pB_fst, pB_row, upd_at, ↓reduceIte, Int.reduceToNat, Nat.reduceEqDiff, iI_lt, iI_le, iI_eq, iI_inb, iI_nat, iI_nz, e, e2, Int.toNat_natCast]
  rfl
theorem WF_ne {us : List Nat} (h : WF us) : us ≠ [] := fun e => by
  have k := h.2 0
  rw [e] at k
  exact absurd k (by decide)
theorem n01 : (0 : Int32) = iI 0 := rfl
theorem lnc_1 (bo : List Nat) (p : Nat) : lnc [] bo p = trs bo ++ [59] := rfl
theorem lnc_2 {te : List Nat} (h : WF te) (bo : List Nat) (p : Nat) : lnc te bo p = trs te ++ [63] ++ [p + (trs te).length + (trs bo).length + 3] ++ (trs bo ++ [59]) := by
  unfold lnc
  rw [if_neg (WF_ne h)]
theorem Li_sim {a : Nat} {tp : Nat → Nat} (hT : TP a tp) {i K : Nat} {ds ts : List Nat} {x m : gS} (hi : i ≤ a) (hd : ds.length ≤ 2 * i) (ht : ts.length ≤ i) (hK : 2 * K ≤ i) (hx : XS a tp i ds x) (hm : MS a tp i 0 ts m) (e17 : m.1 0 17 = iI K) : LOUT a tp i K ds ts x m (f_X4_readLine x) (f_X10_isLine m) := by
  have ha := hT.1
  have e16 := hm.2.2.2.1
  have i1 : inb (iI (K : Int)) 61 = true := iI_inb (by omega) (by omega) (by omega)
  have t1 : (iI (K : Int)).toNatClampNeg = K := by
    rw [iI_nat (by omega) (by omega)]
    rfl
  have m1 : MS a tp i 0 ts (pI m 11 K (iI ts.length)) := hm
  have mc1 : Ch pcL m (pI m 11 K (iI ts.length)) := Ch_pI (Ch_refl _ _) rfl
  have h11 : (pI m 11 K (iI ts.length)).1 11 = upd (m.1 11) K (iI ts.length) := rfl
  have h12 : (pI m 11 K (iI ts.length)).1 12 = m.1 12 := rfl
  have h13 : (pI m 11 K (iI ts.length)).1 13 = m.1 13 := rfl
  have h17 : (pI m 11 K (iI ts.length)).1 0 17 = iI K := e17
  unfold f_X4_readLine f_X10_isLine
  rw [e17, i1, gk_t, e16, t1, gl_e]
  generalize pI m 11 K (iI ts.length) = n at m1 mc1 h11 h12 h13 h17
  obtain ⟨y, w, j, g1, g2, g3, g4, g5, g6⟩ := E_sim hT i ds ts x n hi hd ht hx m1
  rw [show f_X4_readTerm x 0 0 = some y from g3, b_some]
  rcases g6 with ⟨g7, g8, g9⟩ | ⟨g7, g8, te, u1, u2, u3, u4, u5⟩
  · obtain ⟨z, k1, k2, k3, k4, k5⟩ := s_emitF 59 g8.2.2
    unfold f_X4_readLine_22
    rw [g7, b_some, if_pos (show (iI 0, w).1 = 0 from rfl), g8.2.1, if_neg (show ¬ iI 1 = 0 from n10), k1]
    exact ⟨z, w, j, g1, g2, rfl, Ch_tr g4 k2, Ch_tr mc1 (pcL_of g5), Or.inl ⟨rfl, ⟨k3.trans g8.1, k4.trans g8.2.1, k5⟩, g9⟩⟩
  · have w11 : w.1 11 = upd (m.1 11) K (iI ts.length) := (Ch_row g5 (fun j => rfl)).trans h11
    have w12 : w.1 12 = m.1 12 := (Ch_row g5 (fun j => rfl)).trans h12
    have w13 : w.1 13 = m.1 13 := (Ch_row g5 (fun j => rfl)).trans h13
    have w17 : w.1 0 17 = iI K := (g5.2 0 17 rfl).trans h17
    have px := s_peek hT u4.1.1 u4.1.2 u4.2.1 g2
    have pr := pk_r hT j
    have b1 := u4.2.2.1
    have wK : w.1 11 K = iI ts.length := by
      rw [w11, upd_at, if_pos rfl]
    have mc2 : Ch pcL m w := Ch_tr mc1 (pcL_of g5)
    rw [g7, b_some, if_neg (show ¬ (iI 1, w).1 = 0 from n10), b1, if_pos (show iI 0 = 0 from rfl), px, b_some]
    show LOUT a tp i K ds ts x m _ (gk (inb (w.1 0 17) 61) (gk (inb (w.1 0 17) 61) (gl (pI w 12 ((w.1 0 17)).toNatClampNeg (w.1 11 ((w.1 0 17)).toNatClampNeg)) _)))
    rw [w17, i1, gk_t, gk_t, t1, wK, gl_e, gl_e]
    have m3 : MS a tp j 0 (ts ++ te) (pI w 12 K (iI ts.length)) := u5
    have mc3 : Ch pcL m (pI w 12 K (iI ts.length)) := Ch_pI mc2 rfl
    have l0 : (ds ++ trs te).length = ds.length + (trs te).length := List.length_append
    by_cases c : pk a tp j = 63
    · obtain ⟨p1, p2⟩ := pkn_ (a := a) (tp := tp) (i := j) (by omega)
      have q1 : f_X10_is (pI w 12 K (iI ts.length)) 63 = _ := s_is hT g2 m3 (v := 63) (by omega) (by omega)
      rw [q1, if_pos c, b_some, if_neg (show ¬ (iI 1, pI (pI w 12 K (iI ts.length)) 0 14 (iI ((j : Int) + 1))).1 = 0 from n10), c, if_pos (show iI 63 = 63 from rfl), u4.2.1, iI_p1]
      obtain ⟨y1, a1, a2, a3⟩ := XS_emit 63 (XS_go u4) (by omega)
      have l1 : (ds ++ trs te ++ [63]).length = ds.length + (trs te).length + 1 := by
        rw [len_s, l0]
      obtain ⟨y2, b1, b2, b3⟩ := XS_emit 0 a3 (by omega)
      have l2 : (ds ++ trs te ++ [63] ++ [0]).length = ds.length + (trs te).length + 2 := by
        rw [len_s, l1]
      rw [show f_X4_emit (pI y 7 7 (iI ((j : Int) + 1))) 63 = some y1 from a1, b_some, gl_e, show f_X4_emit y1 0 = some y2 from b1, b_some, a3.2.2.2.1]
      show LOUT a tp i K ds ts x m _ (gk (inb (w.1 0 17) 61) (gl (pI (pI (pI w 12 K (iI ts.length)) 0 14 (iI ((j : Int) + 1))) 12 ((w.1 0 17)).toNatClampNeg (w.1 0 16)) _))
      rw [w17, i1, gk_t, t1, u5.2.2.2.1, gl_e]
      have m40 := MS_go m3
      have m4 : MS a tp (j + 1) 0 (ts ++ te) (pI (pI (pI w 12 K (iI ts.length)) 0 14 (iI ((j : Int) + 1))) 12 K (iI (ts ++ te).length)) := m40
      have mc4 : Ch pcL m (pI (pI (pI w 12 K (iI ts.length)) 0 14 (iI ((j : Int) + 1))) 12 K (iI (ts ++ te).length)) := Ch_pI (Ch_pI mc3 rfl) rfl
      have r11 : (pI (pI (pI w 12 K (iI ts.length)) 0 14 (iI ((j : Int) + 1))) 12 K (iI (ts ++ te).length)).1 11 = w.1 11 := rfl
      have r12 : (pI (pI (pI w 12 K (iI ts.length)) 0 14 (iI ((j : Int) + 1))) 12 K (iI (ts ++ te).length)).1 12 = upd (upd (w.1 12) K (iI ts.length)) K (iI (ts ++ te).length) := rfl
      have r13 : (pI (pI (pI w 12 K (iI ts.length)) 0 14 (iI ((j : Int) + 1))) 12 K (iI (ts ++ te).length)).1 13 = w.1 13 := rfl
      have r17 : (pI (pI (pI w 12 K (iI ts.length)) 0 14 (iI ((j : Int) + 1))) 12 K (iI (ts ++ te).length)).1 0 17 = iI K := w17
      generalize pI (pI (pI w 12 K (iI ts.length)) 0 14 (iI ((j : Int) + 1))) 12 K (iI (ts ++ te).length) = n2 at m4 mc4 r11 r12 r13 r17
      have lt : (ts ++ te).length = ts.length + te.length := List.length_append
      obtain ⟨y3, w3, j3, s1, s2, s3, s4, s5, s6⟩ := E_sim hT (j + 1) (ds ++ trs te ++ [63] ++ [0]) (ts ++ te) y2 n2 (by omega) (by omega) (by omega) b3 m4
      have cx3 : Ch pcX x y3 := Ch_tr g4 (Ch_tr (Ch_pI (Ch_refl _ _) rfl) (Ch_tr a2 (Ch_tr b2 s4)))
      have hif : ¬ 256 ≤ iI ((ds ++ trs te ++ [63]).length : Int) := by
        show ¬ iI 256 ≤ iI ((ds ++ trs te ++ [63]).length : Int)
        rw [iI_le (by omega) (by omega) (by omega) (by omega)]
        omega
      have hin : inb (iI ((ds ++ trs te ++ [63]).length : Int)) 256 = true := iI_inb (by omega) (by omega) (by omega)
      have hna : (iI ((ds ++ trs te ++ [63]).length : Int)).toNatClampNeg = (ds ++ trs te ++ [63]).length := by
        rw [iI_nat (by omega) (by omega), Int.toNat_natCast]
      rw [show f_X4_readTerm y2 0 0 = some y3 from s3, b_some]
      simp only [hif, ↓reduceIte, hin, gk_t, hna, gl_e]
      rcases s6 with ⟨s7, s8, s9⟩ | ⟨s7, s8, bo, v1, v2, v3, v4, v5⟩
      · obtain ⟨z, k1, k2, k3, k4, k5⟩ := s_emitF 59 s8.2.2
        rw [s7, b_some, if_pos (show (iI 0, w3).1 = 0 from rfl), k1]
        exact ⟨_, w3, j3, by omega, s2, rfl, Ch_pI (Ch_tr cx3 k2) rfl, Ch_tr mc4 (pcL_of s5), Or.inl ⟨rfl, ⟨k3.trans s8.1, k4.trans s8.2.1, k5⟩, s9⟩⟩
      · have l3 : (ds ++ trs te ++ [63] ++ [0] ++ trs bo).length = ds.length + (trs te).length + 2 + (trs bo).length := by
          rw [List.length_append, l2]
        obtain ⟨z, k1, k2, k3⟩ := XS_emit 59 v4 (by omega)
        have x17 : w3.1 0 17 = iI K := (s5.2 0 17 rfl).trans r17
        have x11 : w3.1 11 = w.1 11 := (Ch_row s5 (fun j => rfl)).trans r11
        have x12 : w3.1 12 = upd (upd (w.1 12) K (iI ts.length)) K (iI (ts ++ te).length) := (Ch_row s5 (fun j => rfl)).trans r12
        have x13 : w3.1 13 = w.1 13 := (Ch_row s5 (fun j => rfl)).trans r13
        rw [s7, b_some, if_neg (show ¬ (iI 1, w3).1 = 0 from n10), show f_X4_emit y3 59 = some z from k1, b_some, s_l71 (by omega) x17 v5, k3.2.2.2.1]
        have l4 : (ds ++ trs te ++ [63] ++ [0] ++ trs bo ++ [59]).length = ds.length + (trs te).length + (trs bo).length + 3 := by
          rw [len_s, l3]
          omega
        refine ⟨_, _, j3, by omega, s2, rfl, Ch_pI (Ch_tr cx3 k2) rfl, Ch_pI (Ch_pI (Ch_tr mc4 (pcL_of s5)) rfl) rfl, Or.inr ⟨rfl, by omega, te, bo, v1, Or.inr u1, by omega, ?_, ?_, ?_, rfl, fun k hk => ⟨?_, ?_, ?_⟩, ?_, ?_, ?_⟩⟩
        · rw [lnc_2 u1, List.length_append, len_s, len_s, len_s]
          omega
        · have kd := k3.2.2.2
          rw [List.append_assoc (ds ++ trs te ++ [63] ++ [0])] at kd
          have kk := DR_set (n := ds.length + (trs te).length + (trs bo).length + 3) kd
          rw [lnc_2 u1, l4, show ds ++ (trs te ++ [63] ++ [ds.length + (trs te).length + (trs bo).length + 3] ++ (trs bo ++ [59])) = ds ++ trs te ++ [63] ++ [ds.length + (trs te).length + (trs bo).length + 3] ++ (trs bo ++ [59]) by
            simp only [List.append_assoc]]
          exact XS_ch k3 (Ch_pI (Ch_refl _ _) rfl) k3.2.1 k3.2.2.1 kk
        · exact v5
        · show w3.1 11 k = _
          rw [x11, w11, upd_at, if_neg hk]
        · show w3.1 12 k = _
          rw [x12, upd_at, if_neg hk, upd_at, if_neg hk, w12]
        · show upd (w3.1 13) K _ k = _
          rw [upd_at, if_neg hk, x13, w13]
        · show w3.1 11 K = _
          rw [x11, wK]
        · show w3.1 12 K = _
          rw [x12, upd_at, if_pos rfl, lt]
        · show upd (w3.1 13) K _ K = _
          rw [upd_at, if_pos rfl, List.length_append, lt]
    · have q1 : f_X10_is (pI w 12 K (iI ts.length)) 63 = _ := s_is hT g2 m3 (v := 63) (by omega) (by omega)
      have c2 : ¬ iI (pk a tp j) = 63 := lv_neq pr.1 pr.2 (v := 63) (by omega) (by omega) c
      obtain ⟨z, k1, k2, k3⟩ := XS_emit 59 u4 (by omega)
      unfold f_X4_readLine_22
      rw [q1, if_neg c, b_some, if_pos (show (iI 0, pI w 12 K (iI ts.length)).1 = 0 from rfl), if_neg c2, show f_X4_emit y 59 = some z from k1, s_l71 (by omega) (show (pI w 12 K (iI ts.length)).1 0 17 = iI K from w17) m3]
      refine ⟨z, _, j, by omega, g2, rfl, Ch_tr g4 k2, Ch_pI (Ch_pI mc3 rfl) rfl, Or.inr ⟨rfl, by omega, [], te, u1, Or.inl rfl, ?_, ?_, ?_, ?_, rfl, fun k hk => ⟨?_, ?_, ?_⟩, ?_, ?_, ?_⟩⟩
      · show 0 + te.length + i ≤ j
        omega
      · rw [lnc_1, len_s]
        omega
      · rw [lnc_1, ← List.append_assoc]
        exact k3
      · rw [List.append_nil]
        exact u5
      · show w.1 11 k = _
        rw [w11, upd_at, if_neg hk]
      · show upd (w.1 12) K _ k = _
        rw [upd_at, if_neg hk, w12]
      · show upd (w.1 13) K _ k = _
        rw [upd_at, if_neg hk, w13]
      · exact wK
      · show upd (w.1 12) K _ K = _
        rw [upd_at, if_pos rfl]
        rfl
      · show upd (w.1 13) K _ K = _
        rw [upd_at, if_pos rfl, List.length_append]
        rfl
