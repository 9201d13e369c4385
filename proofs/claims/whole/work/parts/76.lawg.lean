/-! ===== the law: the whole text ===== -/
def AT (l : List Nat) (p : Nat) (s : List Nat) : Prop := p + s.length ≤ l.length ∧ ∀ q, q < s.length → l.getD (p + q) 0 = s.getD q 0
theorem AT_app {l s : List Nat} {p : Nat} (u : List Nat) (h : AT l p s) : AT (l ++ u) p s := by
  have h1 := h.1
  refine ⟨?_, fun q hq => ?_⟩
  · rw [List.length_append]
    omega
  · rw [gD_l (by omega)]
    exact h.2 q hq
theorem AT_new (l s : List Nat) : AT (l ++ s) l.length s := by
  refine ⟨?_, fun q hq => ?_⟩
  · rw [List.length_append]
    omega
  · rw [gD_r l s (by omega), show l.length + q - l.length = q by omega]
def OKL (ds ts : List Nat) (A S E : Nat → Int32) (p p2 c c2 k : Nat) : Prop :=
  ∃ te bo : List Nat, WF bo ∧ (te = [] ∨ WF te) ∧ te.length + bo.length ≤ 120 ∧ A k = iI c ∧ S k = iI ((c + te.length : Nat) : Int) ∧ E k = iI ((c + te.length + bo.length : Nat) : Int) ∧ c2 = c + te.length + bo.length ∧ p2 = p + (lnc te bo p).length ∧ AT ts c (te ++ bo) ∧ AT ds p (lnc te bo p)
def LNS (K : Nat) (ds ts : List Nat) (A S E : Nat → Int32) (ps cs : Nat → Nat) : Prop :=
  ps 0 = 0 ∧ cs 0 = 0 ∧ ps K = ds.length ∧ cs K = ts.length ∧ ∀ k, k < K → OKL ds ts A S E (ps k) (ps (k + 1)) (cs k) (cs (k + 1)) k
theorem LNS_s {K : Nat} {ds ts te bo : List Nat} {A S E A2 S2 E2 : Nat → Int32} {ps cs : Nat → Nat} (h : LNS K ds ts A S E ps cs) (w1 : WF bo) (w2 : te = [] ∨ WF te) (w3 : te.length + bo.length ≤ 120) (h1 : ∀ k, k ≠ K → A2 k = A k ∧ S2 k = S k ∧ E2 k = E k) (hA : A2 K = iI ts.length) (hS : S2 K = iI ((ts.length + te.length : Nat) : Int)) (hE : E2 K = iI ((ts.length + te.length + bo.length : Nat) : Int)) : LNS (K + 1) (ds ++ lnc te bo ds.length) (ts ++ te ++ bo) A2 S2 E2 (fun k => if k ≤ K then ps k else (ds ++ lnc te bo ds.length).length) (fun k => if k ≤ K then cs k else (ts ++ te ++ bo).length) := by
  obtain ⟨p1, p2, p3, p4, p5⟩ := h
  refine ⟨?_, ?_, ?_, ?_, fun k hk => ?_⟩
  · show (if 0 ≤ K then ps 0 else _) = 0
    rw [if_pos (by omega), p1]
  · show (if 0 ≤ K then cs 0 else _) = 0
    rw [if_pos (by omega), p2]
  · show (if K + 1 ≤ K then ps (K + 1) else _) = _
    rw [if_neg (by omega)]
  · show (if K + 1 ≤ K then cs (K + 1) else _) = _
    rw [if_neg (by omega)]
  · show OKL _ _ A2 S2 E2 (if k ≤ K then ps k else _) (if k + 1 ≤ K then ps (k + 1) else _) (if k ≤ K then cs k else _) (if k + 1 ≤ K then cs (k + 1) else _) k
    rw [if_pos (show k ≤ K by omega), if_pos (show k ≤ K by omega)]
    by_cases c : k = K
    · rw [if_neg (by omega), if_neg (by omega), c, p3, p4]
      refine ⟨te, bo, w1, w2, w3, hA, hS, hE, ?_, ?_, ?_, AT_new _ _⟩
      · rw [List.length_append, List.length_append]
      · rw [List.length_append]
      · rw [List.append_assoc]
        exact AT_new _ _
    · rw [if_pos (by omega), if_pos (by omega)]
      obtain ⟨te2, bo2, q1, q2, q3, q4, q5, q6, q7, q8, q9, q10⟩ := p5 k (by omega)
      obtain ⟨a1, a2, a3⟩ := h1 k c
      refine ⟨te2, bo2, q1, q2, q3, a1.trans q4, a2.trans q5, a3.trans q6, q7, q8, ?_, AT_app _ q10⟩
      rw [List.append_assoc]
      exact AT_app _ q9
def LW : LawT := fun sz xc told ln A S E mc => (sz = iI 0 ∧ told = iI 0) ∨ (told = iI 1 ∧ ∃ (K : Nat) (ds ts : List Nat) (ps cs : Nat → Nat), 1 ≤ K ∧ K ≤ 60 ∧ 1 ≤ ds.length ∧ ds.length ≤ 241 ∧ ts.length ≤ 120 ∧ sz = iI ds.length ∧ ln = iI K ∧ (∀ k, k < ds.length → xc k = iI (ds.getD k 0 : Nat)) ∧ (∀ k, k < ts.length → mc k = iI (ts.getD k 0 : Nat)) ∧ LNS K ds ts A S E ps cs)
theorem lnc_len (te bo : List Nat) (p : Nat) : 1 ≤ (lnc te bo p).length := by
  unfold lnc
  by_cases c : te = []
  · rw [if_pos c, len_s]
    omega
  · rw [if_neg c, List.length_append, len_s, len_s]
    omega
def TOUT (a : Nat) (x m : gS) (rx rm : Option (Int32 × gS)) : Prop :=
  ∃ (y w : gS), Ch pcX x y ∧ Ch pcL m w ∧ ((∃ j : Nat, j ≤ a ∧ rx = some (iI j, y) ∧ rm = f_X10_law_66 (iI 0) w ∧ w.1 0 14 = iI j) ∨ (rx = some (iI (-1), y) ∧ rm = f_X10_law_66 (iI 1) w ∧ ∃ (K : Nat) (ds ts : List Nat) (ps cs : Nat → Nat), 1 ≤ K ∧ K ≤ 60 ∧ 1 ≤ ds.length ∧ ds.length ≤ 241 ∧ ts.length ≤ 120 ∧ DR ds y ∧ NC ts w ∧ w.1 0 17 = iI K ∧ LNS K ds ts (w.1 11) (w.1 12) (w.1 13) ps cs))
theorem Tx_sim {a : Nat} {tp : Nat → Nat} (hT : TP a tp) {x0 m0 : gS} : ∀ (N r : Nat), r < N → ∀ (K i f g : Nat) (ds ts : List Nat) (ps cs : Nat → Nat) (x m : gS), i + r = a → r ≤ f → r ≤ g → ds.length ≤ 2 * i → ts.length ≤ i → 2 * K ≤ i → Ch pcX x0 x → Ch pcL m0 m → XS a tp i ds x → MS a tp i 0 ts m → m.1 0 17 = iI K → LNS K ds ts (m.1 11) (m.1 12) (m.1 13) ps cs → TOUT a x0 m0 (f_X4_readText_17 (f + 1) (iI K) x) ((f_X10_isLine m).bind fun q => f_X10_law_25 (g + 1) q.1 q.2) := by
  have ha := hT.1
  intro N
  induction N with
  | zero => intro r hr; exact absurd hr (by omega)
  | succ N ih =>
    intro r hr K i f g ds ts ps cs x m hir hf hg hd ht hK cx cm hx hm e17 hL
    obtain ⟨y, w, j, g1, g2, g3, g4, g5, g6⟩ := Li_sim hT (by omega) hd ht hK hx hm e17
    have c0 : ¬ (120 : Int32) ≤ iI (K : Int) := by
      show ¬ iI 120 ≤ iI (K : Int)
      rw [iI_le (by omega) (by omega) (by omega) (by omega)]
      omega
    rw [f_X4_readText_17, if_neg c0, g3, b_some]
    rcases g6 with ⟨g7, g8, g9⟩ | ⟨g7, g8, te, bo, v1, v2, v3, v4, v5, v6, v7, v8, v9, v10, v11⟩
    · rw [g7, b_some, g8.2.1, if_neg (show ¬ iI 1 = 0 from n10), g8.1, f_X10_law_25, if_pos (show (iI 0, w).1 = 0 from rfl)]
      exact ⟨y, w, Ch_tr cx g4, Ch_tr cm g5, Or.inl ⟨j, g2, rfl, rfl, g9⟩⟩
    · have b1 := v5.2.2.1
      have b2 := v5.2.1
      have b3 := v5.1.1
      have hl := LNS_s hL v1 v2 (by omega) v8 v9 v10 v11
      have ld : (ds ++ lnc te bo ds.length).length = ds.length + (lnc te bo ds.length).length := List.length_append
      have lt : (ts ++ te ++ bo).length = ts.length + te.length + bo.length := by
        rw [List.length_append, List.length_append]
      have ln1 := lnc_len te bo ds.length
      have q1 : f_X10_is w 59 = _ := s_is hT g2 v6 (v := 59) (by omega) (by omega)
      rw [g7, b_some, f_X10_law_25, if_neg (show ¬ (iI 1, w).1 = 0 from n10)]
      show TOUT a x0 m0 _ ((f_X10_is w 59).bind _)
      rw [q1, b_some, b1, if_pos (show iI 0 = 0 from rfl), b2, b3]
      by_cases c : j < a
      · have c2 : iI (j : Int) < iI (a : Int) := by
          rw [iI_lt (by omega) (by omega) (by omega) (by omega)]
          omega
        have b4 := v5.1.2 j c
        have p2 : pk a tp j = tp j := by
          unfold pk
          rw [if_neg (by omega)]
        rw [if_pos c2, iI_inb (by omega) (by omega) (by omega), gk_t, iI_nat (by omega) (by omega), Int.toNat_natCast, b4, p2]
        have h255 := hT.2 j c
        by_cases c3 : tp j = 59
        · have c4 : ((tp j : Nat) : Int) = 59 := by omega
          rw [c4, if_pos rfl, if_pos (show iI 59 = 59 from rfl), if_neg (show ¬ (iI 1, pI w 0 14 (iI ((j : Int) + 1))).1 = 0 from n10), gl_e, gl_e, iI_p1, iI_p1]
          obtain ⟨f, rfl⟩ : ∃ q, f = q + 1 := ⟨f - 1, by omega⟩
          obtain ⟨g, rfl⟩ : ∃ q, g = q + 1 := ⟨g - 1, by omega⟩
          have k := ih (a - (j + 1)) (by omega) (K + 1) (j + 1) f g _ _ _ _ (pI y 7 7 (iI ((j : Int) + 1))) (pI w 0 14 (iI ((j : Int) + 1))) (by omega) (by omega) (by omega) (by omega) (by omega) (by omega) (Ch_tr cx (Ch_pI g4 rfl)) (Ch_tr cm (Ch_pI g5 rfl)) (XS_go v5) (MS_go v6) v7 hl
          exact k
        · have c4 : ¬ ((tp j : Nat) : Int) = 59 := by omega
          have c5 : ¬ iI ((tp j : Nat) : Int) = 59 := lv_neq (c := ((tp j : Nat) : Int)) (by omega) (by omega) (v := 59) (by omega) (by omega) c4
          rw [if_neg c4, if_neg c5, if_pos (show (iI 0, w).1 = 0 from rfl)]
          unfold f_X10_law_46
          have z1 : ¬ w.1 0 14 = w.1 0 6 := by
            rw [v6.2.1, v6.1.1, iI_eq (by omega) (by omega) (by omega) (by omega)]
            omega
          rw [if_neg (show ¬ (iI 1, w).1 = 0 from n10), if_neg (show ¬ (iI 0, w).2.1 0 14 = (iI 0, w).2.1 0 6 from z1)]
          exact ⟨y, w, Ch_tr cx g4, Ch_tr cm g5, Or.inl ⟨j, g2, rfl, rfl, v6.2.1⟩⟩
      · have e : j = a := by omega
        have c2 : ¬ iI (j : Int) < iI (a : Int) := by
          rw [iI_lt (by omega) (by omega) (by omega) (by omega)]
          omega
        have p2 : ¬ pk a tp j = 59 := by
          unfold pk
          rw [if_pos (by omega)]
          decide
        rw [if_neg c2, if_neg p2, if_pos (show (iI 0, w).1 = 0 from rfl)]
        unfold f_X10_law_46
        have z1 : w.1 0 14 = w.1 0 6 := by
          rw [v6.2.1, v6.1.1, e]
        rw [if_neg (show ¬ (iI 1, w).1 = 0 from n10), if_pos (show (iI 0, w).2.1 0 14 = (iI 0, w).2.1 0 6 from z1)]
        exact ⟨y, w, Ch_tr cx g4, Ch_tr cm g5, Or.inr ⟨rfl, rfl, K + 1, _, _, _, _, by omega, by omega, by omega, by omega, by omega, v5.2.2.2, v6.2.2.2, v7, hl⟩⟩
