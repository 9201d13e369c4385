/-! ===== the law: an operand, the two alike ===== -/
theorem n10 : ¬ iI 1 = iI 0 := by decide
theorem iI_p1 (a : Int) : iI a + 1 = iI (a + 1) := iI_add a 1
theorem OUT_go {a : Nat} {tp : Nat → Nat} {i op oq : Nat} {ds ts : List Nat} {x m x1 m1 : gS} {rx : Option gS} {rm : Option (Int32 × gS)} (hx : Ch pcX x x1) (hm : Ch pcM m m1) (h : OUT a tp (i + 1) op ds ts x1 m1 rx rm) : ∃ (y w : gS) (j : Nat), i < j ∧ j ≤ a ∧ rx = some y ∧ Ch pcX x y ∧ Ch pcM m w ∧ ((rm = some (iI 0, w) ∧ XF j y ∧ w.1 0 14 = iI j) ∨ (rm = some (iI 1, w) ∧ i + 1 < j ∧ ∃ us, WF us ∧ us.length + (i + 1) ≤ j ∧ (trs us).length + 2 * (i + 1) ≤ 2 * j ∧ XS a tp j (ds ++ trs us) y ∧ MS a tp j op (ts ++ us) w)) := by
  obtain ⟨y, w, j, h1, h2, h3, h4, h5, h6⟩ := h
  exact ⟨y, w, j, by omega, h2, h3, Ch_tr hx h4, Ch_tr hm h5, h6⟩
theorem MS_op {a : Nat} {tp : Nat → Nat} {i op : Nat} {ts : List Nat} {m : gS} (oq : Nat) (h : MS a tp i op ts m) : MS a tp i oq ts (pI m 0 15 (iI oq)) :=
  MS_ch h (Ch_pI (Ch_refl _ _) rfl) h.2.1 rfl h.2.2.2
theorem tr1_s {t : Nat} (h1 : 6 ≤ t) (h2 : t < 18) : trs [t] = [sgz t] := by
  rw [trs_1]
  unfold tr1
  rw [if_neg (by omega), if_neg (by omega)]
theorem O_name {a : Nat} {tp : Nat → Nat} {op : Nat} {ds ts : List Nat} (hT : TP a tp) {i : Nat} {x m : gS} (hi : i ≤ a) (hd : ds.length ≤ 2 * i) (ht : ts.length ≤ i) (hx : XS a tp i ds x) (hm : MS a tp i op ts m) (c : 0 ≤ pk a tp i) {v : Nat} (hv : nm (pk a tp i) = v) : OUT a tp i op ds ts x m ((f_X4_emit x 36).bind fun q4 => (f_J0_indexOf_0f7a4 q4 (jc (iI (pk a tp i)))).bind fun q5 => (f_X4_emit q4 q5).bind fun q6 => gl (pI q6 7 7 ((q6.1 7 7) + 1)) fun s7 => some s7) (gl (pI m 0 14 ((m.1 0 14) + 1)) fun s14 => (f_X10_codes s14 (iI v)).bind fun q15 => gk (bz q15.1) (some (q15.1, q15.2))) := by
  have h1 := hT.1
  obtain ⟨p1, p2⟩ := pkn_ c
  have hv2 := nmr_ (pk a tp i)
  have h255 := hT.2 i p1
  obtain ⟨y1, a1, a2, a3⟩ := XS_emit 36 hx (by omega)
  obtain ⟨y2, b1, b2, b3⟩ := XS_emit v a3 (by
    rw [len_s]
    omega)
  obtain ⟨w2, d1, d2, d3⟩ := MS_codes v (MS_go hm) (by omega)
  refine ⟨pI y2 7 7 (iI ((i : Int) + 1)), w2, i + 1, by omega, by omega, ?_, Ch_tr a2 (Ch_tr b2 (Ch_pI (Ch_refl _ _) rfl)), Ch_tr (Ch_pI (Ch_refl _ _) rfl) d2, Or.inr ⟨?_, by omega, [v], WF_1 (by omega) (by omega), ?_, ?_, ?_, d3⟩⟩
  rotate_left
  · rw [hm.2.1, gl_e, iI_p1, d1]
    rfl
  · show 1 + i ≤ i + 1
    omega
  · rw [tr1_v (by omega)]
    show 2 + 2 * i ≤ 2 * (i + 1)
    omega
  · rw [tr1_v (by omega), ← List.append_assoc]
    exact XS_go b3
  · rw [show (36 : Int32) = iI ((36 : Nat) : Int) from rfl, a1, b_some, p2, s_nameX y1 (by omega), b_some, ← p2, hv, b1, b_some, gl_e, b3.2.1, iI_p1]
theorem O_un {a : Nat} {tp : Nat → Nat} {op : Nat} {ds ts : List Nat} (hT : TP a tp) {i t : Nat} {x m x1 m1 : gS} (hd : ds.length ≤ 2 * i) (ht : ts.length ≤ i) (h16 : t = 16 ∨ t = 17) {rx : Option gS} {rm : Option (Int32 × gS)} (hx : Ch pcX x x1) (hm : Ch pcM m m1) (h : OUT a tp (i + 1) (op + 1) ds ts x1 m1 rx rm) (A B C D E F : gS → Option (Int32 × gS)) : OUT a tp i op ds ts x m (rx.bind fun q4 => (f_X4_emit q4 (iI (sgz t))).bind fun q1 => some q1) (rm.bind fun q12 => (if q12.1 = iI 0 then f_X10_isO_214 A B C D E F (iI 0) q12.2 else (f_X10_codes q12.2 (iI t)).bind fun q13 => (if q13.1 = iI 0 then f_X10_isO_214 A B C D E F (iI 0) q13.2 else f_X10_isO_214 A B C D E F (iI 1) q13.2))) := by
  have h1 := hT.1
  have e0 : ∀ (r : Int32) (w : gS), f_X10_isO_214 A B C D E F (iI 0) w = some (iI 0, pI w 0 15 ((w.1 0 15) - 1)) := fun r w => rfl
  have e1 : ∀ (w : gS), f_X10_isO_214 A B C D E F (iI 1) w = some (iI 1, pI w 0 15 ((w.1 0 15) - 1)) := fun w => rfl
  obtain ⟨y, w, j, g1, g2, g3, g4, g5, g6⟩ := OUT_go (oq := op) hx hm h
  rw [g3, b_some]
  rcases g6 with ⟨g7, g8, g9⟩ | ⟨g7, g8, us, u1, u2, u3, u4, u5⟩
  · obtain ⟨z, k1, k2, k3, k4, k5⟩ := s_emitF (iI (sgz t)) g8.2.2
    rw [g7, k1, b_some, b_some, if_pos rfl, e0 0]
    exact ⟨z, _, j, by omega, g2, rfl, Ch_tr g4 k2, Ch_pI g5 rfl, Or.inl ⟨rfl, ⟨k3.trans g8.1, k4.trans g8.2.1, k5⟩, g9⟩⟩
  · obtain ⟨z, k1, k2, k3⟩ := XS_emit (sgz t) u4 (by
      rw [List.length_append]
      omega)
    obtain ⟨v, d1, d2, d3⟩ := MS_codes t u5 (by
      rw [List.length_append]
      omega)
    rw [g7, k1]
    simp only [b_some, n10, ↓reduceIte, d1, e1]
    refine ⟨z, _, j, by omega, g2, rfl, Ch_tr g4 k2, Ch_pI (Ch_tr g5 d2) rfl, Or.inr ⟨rfl, by omega, us ++ [t], WF_u u1 h16, ?_, ?_, ?_, ?_⟩⟩
    · rw [len_s]
      omega
    · rw [trs_app, tr1_s (by omega) (by omega), len_s]
      omega
    · rw [trs_app, tr1_s (by omega) (by omega), ← List.append_assoc]
      exact k3
    · rw [← List.append_assoc]
      have k := MS_op op d3
      rw [d3.2.2.1, show iI ((op + 1 : Nat) : Int) - 1 = iI (op : Int) by
        rw [show (1 : Int32) = iI 1 from rfl, iI_sub]
        congr 1
        omega]
      exact k
theorem O_par {a : Nat} {tp : Nat → Nat} {op : Nat} {ds ts : List Nat} (hT : TP a tp) {i : Nat} {x m x1 m1 : gS} (hd : ds.length ≤ 2 * i) (ht : ts.length ≤ i) {rx : Option gS} {rm : Option (Int32 × gS)} (hx : Ch pcX x x1) (hm : Ch pcM m m1) (h : OUT a tp (i + 1) (op + 1) ds ts x1 m1 rx rm) (A B C D E F : gS → Option (Int32 × gS)) : OUT a tp i op ds ts x m (rx.bind fun q1 => (if (q1.1 7 8) = iI 0 then (f_X4_peek q1).bind fun q2 => (if q2 = iI 41 then gl (pI q1 7 7 ((q1.1 7 7) + 1)) fun s3 => some s3 else some (pI q1 7 8 (iI 1))) else some (pI q1 7 8 (iI 1)))) (rm.bind fun q8 => (if q8.1 = iI 0 then f_X10_isO_214 A B C D E F (iI 0) q8.2 else (f_X10_is q8.2 (iI 41)).bind fun q9 => (if q9.1 = iI 0 then f_X10_isO_214 A B C D E F (iI 0) q9.2 else f_X10_isO_214 A B C D E F (iI 1) q9.2))) := by
  have h1 := hT.1
  have e0 : ∀ (w : gS), f_X10_isO_214 A B C D E F (iI 0) w = some (iI 0, pI w 0 15 ((w.1 0 15) - 1)) := fun w => rfl
  have e1 : ∀ (w : gS), f_X10_isO_214 A B C D E F (iI 1) w = some (iI 1, pI w 0 15 ((w.1 0 15) - 1)) := fun w => rfl
  obtain ⟨y, w, j, g1, g2, g3, g4, g5, g6⟩ := OUT_go (oq := op) hx hm h
  rw [g3, b_some]
  rcases g6 with ⟨g7, g8, g9⟩ | ⟨g7, g8, us, u1, u2, u3, u4, u5⟩
  · have b1 := g8.2.1
    rw [g7]
    simp only [b_some, b1, n10, ↓reduceIte, e0]
    exact ⟨_, _, j, by omega, g2, rfl, Ch_pI g4 rfl, Ch_pI g5 rfl, Or.inl ⟨rfl, ⟨g8.1, rfl, g8.2.2⟩, g9⟩⟩
  · have px := s_peek hT u4.1.1 u4.1.2 u4.2.1 g2
    have pr := pk_r hT j
    have b1 := u4.2.2.1
    have b2 := s_is hT g2 u5 (v := 41) (by omega) (by omega)
    rw [g7]
    simp only [b_some, b1, b2, n10, ↓reduceIte, px]
    by_cases c : pk a tp j = 41
    · obtain ⟨p1, p2⟩ := pkn_ (a := a) (tp := tp) (i := j) (by omega)
      simp only [c, ↓reduceIte, n10, e1, gl_e]
      refine ⟨_, _, j + 1, by omega, by omega, rfl, Ch_pI g4 rfl, Ch_pI (Ch_pI g5 rfl) rfl, Or.inr ⟨rfl, by omega, us, u1, by omega, by omega, ?_, ?_⟩⟩
      · rw [u4.2.1, iI_p1]
        exact XS_go u4
      · have k := MS_op op (MS_go u5)
        rw [show (pI w 0 14 (iI ((j : Int) + 1))).1 0 15 = iI ((op + 1 : Nat) : Int) from u5.2.2.1, show iI ((op + 1 : Nat) : Int) - 1 = iI (op : Int) by
          rw [show (1 : Int32) = iI 1 from rfl, iI_sub]
          congr 1
          omega]
        exact k
    · have c2 : ¬ iI (pk a tp j) = iI 41 := by
        rw [iI_eq (by omega) (by omega) (by omega) (by omega)]
        exact c
      simp only [c, c2, ↓reduceIte, e0]
      exact ⟨_, _, j, by omega, g2, rfl, Ch_pI g4 rfl, Ch_pI g5 rfl, Or.inl ⟨rfl, ⟨u4.2.1, rfl, DF_of u4.2.2.2 (by
        rw [List.length_append]
        omega)⟩, u5.2.1⟩⟩
theorem OUT_b {a : Nat} {tp : Nat → Nat} {i op : Nat} {ds ts : List Nat} {x m : gS} {rx ry : Option gS} {rm : Option (Int32 × gS)} (h : OUT a tp i op ds ts x m rx rm) (e : ry = rx) : OUT a tp i op ds ts x m (ry.bind fun q => some q) rm := by
  obtain ⟨y, w, j, k1, k2, k3, k4⟩ := h
  refine ⟨y, w, j, k1, k2, ?_, k4⟩
  rw [e, k3]
  rfl
theorem O_sim {a : Nat} {tp : Nat → Nat} {op : Nat} (hT : TP a tp) (hop : op ≤ 6) (d e : Nat) (hO : op < 6 → SO a tp (op + 1) (fun x => (fR_X4_readOpened d).2.1 x (iI ((op : Int) + 1))) ((fR_X10_isA e).2.2.2.1)) (hE : op < 6 → SO a tp (op + 1) (fun x => (fR_X4_readOpened d).2.2 x (iI 0) (iI ((op : Int) + 1))) ((fR_X10_isA e).2.2.1)) : SO a tp op (fun x => (fR_X4_readOpened (d + 2)).2.1 x (iI op)) ((fR_X10_isA (e + 1)).2.2.2.1) := by
  intro i ds ts x m hi hd ht hx hm
  have h1 := hT.1
  have pr := pk_r hT i
  have px := s_peek hT hx.1.1 hx.1.2 hx.2.1 hi
  have pm := s_sign hT hm.1.1 hm.1.2 hm.2.1 hi
  have dm := s_digM pm pr.1 pr.2
  have dx := s_digX x pr.1 pr.2
  have nv := s_nameM m pr.1 pr.2
  have nr := nmr_ (pk a tp i)
  show OUT a tp i op ds ts x m (F_X4_readOperand (fR_X4_readOpened (d + 1)).1 (fR_X4_readOpened (d + 1)).2.1 (fR_X4_readOpened (d + 1)).2.2 x (iI op)) (F_X10_isO (fR_X10_isA e).1 (fR_X10_isA e).2.1 (fR_X10_isA e).2.2.1 (fR_X10_isA e).2.2.2.1 (fR_X10_isA e).2.2.2.2.1 (fR_X10_isA e).2.2.2.2.2 m)
  unfold F_X4_readOperand F_X10_isO
  rw [px, b_some, dx, b_some, dm, b_some]
  by_cases c : 48 ≤ pk a tp i ∧ pk a tp i ≤ 57
  · have b : bI (48 ≤ pk a tp i ∧ pk a tp i ≤ 57) = iI 1 := by
      unfold bI
      rw [if_pos c]
    rw [b, if_neg (by decide), if_neg (by decide)]
    have k := O_num hT (fR_X10_isA e).1 (fR_X10_isA e).2.1 (fR_X10_isA e).2.2.1 (fR_X10_isA e).2.2.2.1 (fR_X10_isA e).2.2.2.2.1 (fR_X10_isA e).2.2.2.2.2 hi hd ht hx hm c
    obtain ⟨y, w, j, k1, k2, k3, k4⟩ := k
    refine ⟨y, w, j, k1, k2, ?_, k4⟩
    rw [k3]
    rfl
  · have b : bI (48 ≤ pk a tp i ∧ pk a tp i ≤ 57) = iI 0 := by
      unfold bI
      rw [if_neg c]
    rw [b, if_pos (show iI 0 = 0 from rfl), if_pos (show iI 0 = 0 from rfl), pm, b_some, nv, b_some]
    by_cases c2 : 0 ≤ nm (pk a tp i)
    · have c3 : 0 ≤ pk a tp i := by
        by_cases h : pk a tp i = -1
        · rw [h] at c2
          exact absurd c2 (by decide)
        · omega
      obtain ⟨v, hv⟩ : ∃ v : Nat, nm (pk a tp i) = v := ⟨(nm (pk a tp i)).toNat, by omega⟩
      obtain ⟨p1, p2⟩ := pkn_ c3
      have h255 := hT.2 i p1
      have k := O_name hT hi hd ht hx hm c3 hv
      have s1 := s_nameX x (n := tp i) (by omega)
      rw [← p2] at s1
      have n1 : ¬ iI (pk a tp i) < 0 := by
        show ¬ iI (pk a tp i) < iI 0
        rw [iI_lt (by omega) (by omega) (by omega) (by omega)]
        omega
      have n2 : ¬ iI (nm (pk a tp i)) < 0 := by
        show ¬ iI (nm (pk a tp i)) < iI 0
        rw [iI_lt (by omega) (by omega) (by omega) (by omega)]
        omega
      rw [if_neg n1, if_neg n2, s1, b_some, if_neg n2, hv]
      exact k
    · have n2 : iI (nm (pk a tp i)) < 0 := by
        show iI (nm (pk a tp i)) < iI 0
        rw [iI_lt (by omega) (by omega) (by omega) (by omega)]
        omega
      have hX : ∀ R : Option gS, (if iI (pk a tp i) < 0 then R else (f_J0_indexOf_0f7a4 x ((jc (iI (pk a tp i) : Int32)))).bind fun q3 => (if q3 < 0 then R else (f_X4_emit x 36).bind fun q4 => (f_J0_indexOf_0f7a4 q4 ((jc (iI (pk a tp i) : Int32)))).bind fun q5 => (f_X4_emit q4 q5).bind fun q6 => gl (pI q6 7 7 ((q6.1 7 7) + 1)) fun s7 => some s7)) = R := by
        intro R
        by_cases h : pk a tp i < 0
        · have n1 : iI (pk a tp i) < 0 := by
            show iI (pk a tp i) < iI 0
            rw [iI_lt (by omega) (by omega) (by omega) (by omega)]
            omega
          rw [if_pos n1]
        · have n1 : ¬ iI (pk a tp i) < 0 := by
            show ¬ iI (pk a tp i) < iI 0
            rw [iI_lt (by omega) (by omega) (by omega) (by omega)]
            omega
          obtain ⟨p1, p2⟩ := pkn_ (a := a) (tp := tp) (i := i) (by omega)
          have h255 := hT.2 i p1
          have s1 := s_nameX x (n := tp i) (by omega)
          rw [← p2] at s1
          rw [if_neg n1, s1, b_some, if_pos n2]
      rw [hX, if_pos n2]
      unfold f_X4_readOperand_63
      by_cases o6 : op = 6
      · have g : (6 : Int) ≤ (op : Int) := by omega
        have c4 := hm.2.2.1
        have k := OUT_no (op := op) (ts := ts) hi (by omega) hx (Ch_refl pcM m) hm.2.1
        rw [if_pos (show (6 : Int32) ≤ iI op by
          show iI 6 ≤ iI op
          rw [iI_le (by omega) (by omega) (by omega) (by omega)]
          exact g), if_pos (show m.1 0 15 = 6 by
          rw [c4, o6]
          rfl)]
        exact k
      · have g : ¬ (6 : Int32) ≤ iI op := by
          show ¬ iI 6 ≤ iI op
          rw [iI_le (by omega) (by omega) (by omega) (by omega)]
          omega
        have g2 : ¬ m.1 0 15 = 6 := by
          rw [hm.2.2.1]
          show ¬ iI op = iI 6
          rw [iI_eq (by omega) (by omega) (by omega) (by omega)]
          omega
        have hO := hO (by omega)
        have hE := hE (by omega)
        rw [if_neg g, if_neg g2, gl_e]
        have m1 : MS a tp i (op + 1) ts (pI m 0 15 ((m.1 0 15) + 1)) := by
          rw [hm.2.2.1, iI_p1]
          exact MS_op (op + 1) hm
        have mc : Ch pcM m (pI m 0 15 ((m.1 0 15) + 1)) := Ch_pI (Ch_refl _ _) rfl
        generalize pI m 0 15 ((m.1 0 15) + 1) = w at m1 mc
        have q1 : ∀ v : Int, 0 ≤ v → v ≤ 255 → pk a tp i = v → f_X10_is w (iI v) = some (iI 1, pI w 0 14 (iI ((i : Int) + 1))) := fun v h2 h3 h4 => by
          rw [s_is hT hi m1 h2 h3, if_pos h4]
        have q0 : ∀ v : Int, 0 ≤ v → v ≤ 255 → ¬ pk a tp i = v → f_X10_is w (iI v) = some (iI 0, w) := fun v h2 h3 h4 => by
          rw [s_is hT hi m1 h2 h3, if_neg h4]
        have xc : Ch pcX x (pI x 7 7 (iI ((i : Int) + 1))) := Ch_pI (Ch_refl _ _) rfl
        have wc : Ch pcM m (pI w 0 14 (iI ((i : Int) + 1))) := Ch_pI mc rfl
        have eq : ∀ v u : Int, 0 ≤ u → u ≤ 255 → 0 ≤ v → v ≤ 255 → ¬ u = v → ¬ iI u = iI v := fun v u h1 h2 h3 h4 h5 => by
          rw [iI_eq (by omega) (by omega) (by omega) (by omega)]
          exact h5
        have x1 := hx.2.1
        have i1 : iI (i : Int) + 1 = iI ((i : Int) + 1) := iI_p1 _
        have o1 : iI (op : Int) + 1 = iI ((op : Int) + 1) := iI_p1 _
        by_cases p33 : pk a tp i = 33
        · obtain ⟨p1, p2⟩ := pkn_ (a := a) (tp := tp) (i := i) (by omega)
          have k := O_un hT hd ht (t := 16) (by omega) xc wc (hO (i + 1) ds ts _ _ (by omega) (by omega) (by omega) (XS_go hx) (MS_go m1)) (fR_X10_isA e).1 (fR_X10_isA e).2.1 (fR_X10_isA e).2.2.1 (fR_X10_isA e).2.2.2.1 (fR_X10_isA e).2.2.2.2.1 (fR_X10_isA e).2.2.2.2.2
          rw [show (33 : Int32) = iI 33 from rfl, show (f_X10_is w (iI 33)) = _ from q1 33 (by omega) (by omega) p33, b_some, p33, if_neg (show ¬ iI 33 = 40 by decide), if_pos rfl, if_neg (show ¬ (iI 1, pI w 0 14 (iI ((i : Int) + 1))).1 = 0 from by
            show ¬ iI 1 = iI 0
            decide)]
          unfold f_X4_readOperand_87
          rw [x1, i1, o1, gl_e]
          refine OUT_b k ?_
          show F_X4_readOpened (fR_X4_readOpened d).1 (fR_X4_readOpened d).2.1 (fR_X4_readOpened d).2.2 _ (iI 33) _ = _
          unfold F_X4_readOpened f_X4_readOpened_24
          rw [if_neg (show ¬ iI 33 = 40 by decide)]
          simp only [show ¬ iI 33 = 45 by decide, ↓reduceIte]
          rfl
        · have p0 := q0 33 (by omega) (by omega) p33
          have r33 : ¬ iI (pk a tp i) = 33 := by
            show ¬ iI (pk a tp i) = iI 33
            rw [iI_eq (by omega) (by omega) (by omega) (by omega)]
            exact p33
          have hM : ∀ (K : Int32 × gS → Option (Int32 × gS)) (K2 : Int32 × gS → Option (Int32 × gS)), ((f_X10_is w 33).bind fun q5 => if q5.1 = 0 then K q5 else K2 q5) = K (iI 0, w) := fun K K2 => by
            rw [show f_X10_is w 33 = _ from p0, b_some]
            rfl
          rw [hM]
          by_cases p45 : pk a tp i = 45
          · obtain ⟨p1, p2⟩ := pkn_ (a := a) (tp := tp) (i := i) (by omega)
            have k := O_un hT hd ht (t := 17) (by omega) xc wc (hO (i + 1) ds ts _ _ (by omega) (by omega) (by omega) (XS_go hx) (MS_go m1)) (fR_X10_isA e).1 (fR_X10_isA e).2.1 (fR_X10_isA e).2.2.1 (fR_X10_isA e).2.2.2.1 (fR_X10_isA e).2.2.2.2.1 (fR_X10_isA e).2.2.2.2.2
            rw [show f_X10_is (iI 0, w).2 45 = _ from q1 45 (by omega) (by omega) p45, b_some, p45, if_neg (show ¬ iI 45 = 40 by decide), if_neg (show ¬ iI 45 = 33 by decide), if_pos (show iI 45 = 45 from rfl), if_neg (show ¬ (iI 1, pI w 0 14 (iI ((i : Int) + 1))).1 = 0 from n10)]
            unfold f_X4_readOperand_87
            rw [x1, i1, o1, gl_e]
            refine OUT_b k ?_
            show F_X4_readOpened (fR_X4_readOpened d).1 (fR_X4_readOpened d).2.1 (fR_X4_readOpened d).2.2 _ (iI 45) _ = _
            unfold F_X4_readOpened f_X4_readOpened_24
            rw [if_neg (show ¬ iI 45 = 40 by decide)]
            simp only [eq_true (show iI 45 = (45 : Int32) from rfl), ↓reduceIte]
            rfl
          · have p0 := q0 45 (by omega) (by omega) p45
            have r45 : ¬ iI (pk a tp i) = 45 := by
              show ¬ iI (pk a tp i) = iI 45
              rw [iI_eq (by omega) (by omega) (by omega) (by omega)]
              exact p45
            have hM : ∀ (K : Int32 × gS → Option (Int32 × gS)) (K2 : Int32 × gS → Option (Int32 × gS)), ((f_X10_is (iI 0, w).2 45).bind fun q5 => if q5.1 = 0 then K q5 else K2 q5) = K (iI 0, w) := fun K K2 => by
              rw [show f_X10_is (iI 0, w).2 45 = _ from p0, b_some]
              rfl
            rw [hM]
            by_cases p40 : pk a tp i = 40
            · obtain ⟨p1, p2⟩ := pkn_ (a := a) (tp := tp) (i := i) (by omega)
              have k := O_par hT hd ht xc wc (hE (i + 1) ds ts _ _ (by omega) (by omega) (by omega) (XS_go hx) (MS_go m1)) (fR_X10_isA e).1 (fR_X10_isA e).2.1 (fR_X10_isA e).2.2.1 (fR_X10_isA e).2.2.2.1 (fR_X10_isA e).2.2.2.2.1 (fR_X10_isA e).2.2.2.2.2
              rw [show f_X10_is (iI 0, w).2 40 = _ from q1 40 (by omega) (by omega) p40, b_some, p40, if_pos (show iI 40 = 40 from rfl), if_neg (show ¬ (iI 1, pI w 0 14 (iI ((i : Int) + 1))).1 = 0 from n10)]
              unfold f_X4_readOperand_87
              rw [x1, i1, o1, gl_e]
              refine OUT_b k ?_
              show F_X4_readOpened (fR_X4_readOpened d).1 (fR_X4_readOpened d).2.1 (fR_X4_readOpened d).2.2 _ (iI 40) _ = _
              unfold F_X4_readOpened f_X4_readOpened_50
              rw [if_pos (show iI 40 = 40 from rfl)]
              rfl
            · have p0 := q0 40 (by omega) (by omega) p40
              have r40 : ¬ iI (pk a tp i) = 40 := by
                show ¬ iI (pk a tp i) = iI 40
                rw [iI_eq (by omega) (by omega) (by omega) (by omega)]
                exact p40
              rw [if_neg r40, if_neg r33, if_neg r45, show f_X10_is (iI 0, w).2 40 = _ from p0, b_some, if_pos (show (iI 0, w).1 = 0 from rfl)]
              exact OUT_no (op := op) (ts := ts) (w := pI w 0 15 ((w.1 0 15) - 1)) hi (by omega) hx (Ch_pI mc rfl) m1.2.1
