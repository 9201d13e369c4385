/-! ===== minutes struck out ===== -/
def hb (f : Nat → Nat) (N wd : Nat) : Nat → Nat → Bool
  | 0, _ => false
  | i + 1, t => hb f N wd i t || (decide (f i + 1 ≤ t + N) && decide (t < f i + wd))
theorem hb_iff {f : Nat → Nat} {N wd t : Nat} : ∀ i, hb f N wd i t = true ↔ ∃ j, j < i ∧ f j + 1 ≤ t + N ∧ t < f j + wd := by
  intro i
  induction i with
  | zero =>
    constructor
    · intro h
      have h2 : false = true := h
      exact absurd h2 (by decide)
    · rintro ⟨j, hj, -⟩
      exact absurd hj (by omega)
  | succ i ih =>
    show (hb f N wd i t || (decide (f i + 1 ≤ t + N) && decide (t < f i + wd))) = true ↔ _
    rw [Bool.or_eq_true, ih, Bool.and_eq_true, decide_eq_true_eq, decide_eq_true_eq]
    constructor
    · rintro (⟨j, h1, h2⟩ | ⟨h1, h2⟩)
      · exact ⟨j, by omega, h2⟩
      · exact ⟨i, by omega, h1, h2⟩
    · rintro ⟨j, h1, h2⟩
      by_cases e : j = i
      · subst e
        exact Or.inr h2
      · exact Or.inl ⟨j, by omega, h2⟩
def ap2 (c : Bool) (v k : Int32) : Int32 := if c then v &&& k else v
theorem and_idem (v k : Int32) : v &&& k &&& k = v &&& k := by
  apply Int32.toBitVec_inj.mp
  simp only [Int32.toBitVec_and]
  ext i hi
  simp only [BitVec.getElem_and]
  cases v.toBitVec[i] <;> cases k.toBitVec[i] <;> rfl
def soC (c _j : Nat) : Bool := c == 44
theorem w_so52 {K : Int32 → Int32 → Int32 → Int32 → gS → Option gS} {x : gS} {N nx e E i : Nat} (bit : Int32) (he : e ≤ 600) (hE : E = if nx < e then e else nx) (hnx : nx ≤ 2000) : ∀ (r u f : Nat) (σ : gS), u + r = E → nx ≤ u → r ≤ f → Ch soC x σ → (∀ t, t < 600 → σ.1 44 t = if nx ≤ t ∧ t < u then x.1 44 t &&& (bit ^^^ iI (-1)) else x.1 44 t) → ∃ τ, f_X6_strikeOut_52 K (f + 1) (iI N) bit (iI u) (iI i) (iI e) σ = K (iI N) bit (iI E) (iI (i + 1 : Nat)) τ ∧ Ch soC x τ ∧ ∀ t, t < 600 → τ.1 44 t = if nx ≤ t ∧ t < E then x.1 44 t &&& (bit ^^^ iI (-1)) else x.1 44 t := by
  have hE2 : E ≤ 2000 ∧ e ≤ E ∧ (E = e ∨ E = nx) := by
    rw [hE]
    split <;> omega
  intro r
  induction r with
  | zero =>
    intro u f σ hu hnu hf hc ho
    have g : (e : Int) ≤ (u : Int) := by omega
    have eu : u = E := by omega
    refine ⟨σ, ?_, hc, by rw [← eu]; exact ho⟩
    rw [f_X6_strikeOut_52]
    simp +decide (maxSteps := 2000000) (disch := omega) only [↓gl_p, ↓bs_p, iI_lit, iI_neg, iI_add, iI_sub, iI_mul, gk_p, bs_p, bz0, bz1, pI_row, pI_snd, pA_row, pA_snd, pL_fst, pL_row, pB_fst, pB_row, upd_at, ↓reduceIte, Int.reduceToNat, Nat.reduceEqDiff, iI_lt, iI_le, iI_eq, iI_inb, iI_nat, iI_nz, g]
    rw [eu]
    rfl
  | succ r ih =>
    intro u f σ hu hnu hf hc ho
    obtain ⟨f, rfl⟩ : ∃ q, f = q + 1 := ⟨f - 1, by omega⟩
    have g : ¬ (e : Int) ≤ (u : Int) := by omega
    have q := ho u (by omega)
    rw [if_neg (by omega)] at q
    obtain ⟨τ, a1, a2, a3⟩ := ih (u + 1) f (pI σ 44 u (x.1 44 u &&& (bit ^^^ iI (-1)))) (by omega) (by omega) (by omega) (Ch_pI hc rfl) (fun t ht => by
      rw [pI_row, if_pos rfl, upd_at]
      by_cases e2 : t = u
      · rw [if_pos e2, if_pos (by omega), e2]
      · rw [if_neg e2, ho t ht]
        by_cases c : nx ≤ t ∧ t < u
        · rw [if_pos c, if_pos (by omega)]
        · rw [if_neg c, if_neg (by omega)])
    refine ⟨τ, ?_, a2, a3⟩
    rw [f_X6_strikeOut_52]
    simp +decide (maxSteps := 2000000) (disch := omega) only [↓gl_p, ↓bs_p, iI_lit, iI_neg, iI_add, iI_sub, iI_mul, gk_p, bs_p, bz0, bz1, pI_row, pI_snd, pA_row, pA_snd, pL_fst, pL_row, pB_fst, pB_row, upd_at, ↓reduceIte, Int.reduceToNat, Nat.reduceEqDiff, iI_lt, iI_le, iI_eq, iI_inb, iI_nat, iI_nz, g, q, Int.toNat_natCast]
    exact a1
theorem w_so6 {x : gS} {z wd N : Nat} {f : Nat → Nat} (hG : GR z f x) (hw : x.1 32 2 = iI (wd : Nat)) (w1 : 1 ≤ wd) (w2 : wd ≤ 9) (hN : N ≤ 99) (hN1 : 1 ≤ N) (hm : ∀ i j, i ≤ j → j < z → f i ≤ f j) (hf : ∀ i, i < z → f i ≤ 1098) (hz : z ≤ 2198) (bit : Int32) : ∀ (r i g nx : Nat) (σ : gS), i + r = z → r ≤ g → nx ≤ 2000 → Ch soC x σ → (∀ t, t < 600 → σ.1 44 t = ap2 (hb f N wd i t) (x.1 44 t) (bit ^^^ iI (-1))) → (∀ t, t < 600 → t < nx → (0 < i → f (i - 1) + 1 ≤ t + N) → hb f N wd i t = true) → ∃ τ, f_X6_strikeOut_6 (g + 1) (iI N) bit (iI nx) (iI i) σ = some τ ∧ Ch soC x τ ∧ ∀ t, t < 600 → τ.1 44 t = ap2 (hb f N wd z t) (x.1 44 t) (bit ^^^ iI (-1)) := by
  obtain ⟨g1, g2⟩ := hG
  intro r
  induction r with
  | zero =>
    intro i g nx σ hi hg hnx hc ho hB
    have c : (z : Int) ≤ (i : Int) := by omega
    have s1 : σ.1 32 1 = iI z := (hc.2 32 1 rfl).trans g1
    refine ⟨σ, ?_, hc, by rw [show z = i by omega]; exact ho⟩
    rw [f_X6_strikeOut_6]
    simp +decide (maxSteps := 2000000) (disch := omega) only [↓gl_p, ↓bs_p, iI_lit, iI_neg, iI_add, iI_sub, iI_mul, gk_p, bs_p, bz0, bz1, pI_row, pI_snd, pA_row, pA_snd, pL_fst, pL_row, pB_fst, pB_row, upd_at, ↓reduceIte, Int.reduceToNat, Nat.reduceEqDiff, iI_lt, iI_le, iI_eq, iI_inb, iI_nat, iI_nz, s1, c]
  | succ r ih =>
    intro i g nx σ hi hg hnx hc ho hB
    obtain ⟨g, rfl⟩ : ∃ q, g = q + 1 := ⟨g - 1, by omega⟩
    have c : ¬ (z : Int) ≤ (i : Int) := by omega
    have s1 : σ.1 32 1 = iI z := (hc.2 32 1 rfl).trans g1
    have s2 : σ.1 32 2 = iI (wd : Nat) := (hc.2 32 2 rfl).trans hw
    have sf : σ.1 33 i = iI (f i) := (hc.2 33 i rfl).trans (g2 i (by omega))
    have bf := hf i (by omega)
    obtain ⟨e, he⟩ : ∃ e, e = if f i + wd < 600 then f i + wd else 600 := ⟨_, rfl⟩
    obtain ⟨n2, hn2⟩ : ∃ n2, n2 = if nx + N < f i + 1 then f i + 1 - N else nx := ⟨_, rfl⟩
    obtain ⟨E, hE⟩ : ∃ E, E = if n2 < e then e else n2 := ⟨_, rfl⟩
    have he2 : e ≤ 600 ∧ e ≤ f i + wd ∧ (e = 600 ∨ e = f i + wd) := by
      rw [he]
      split <;> omega
    have hn3 : nx ≤ n2 ∧ f i + 1 ≤ n2 + N ∧ n2 ≤ 2000 ∧ (n2 = nx ∨ n2 + N = f i + 1) := by
      rw [hn2]
      split <;> omega
    have hE2 : n2 ≤ E ∧ e ≤ E ∧ (E = e ∨ E = n2) := by
      rw [hE]
      split <;> omega
    have ej1 : jmin (iI 600) (iI (((f i : Nat) : Int) + (wd : Int))) = iI e := by
      rw [jmin_i (by omega) (by omega) (by omega) (by omega), he]
      by_cases q : f i + wd < 600
      · rw [if_pos (by omega), if_pos q]
        rfl
      · rw [if_neg (by omega), if_neg q]
        rfl
    have ej2 : jmax (iI nx) (iI (((f i : Nat) : Int) - (N : Int) + 1)) = iI n2 := by
      rw [jmax_i (by omega) (by omega) (by omega) (by omega), hn2]
      by_cases q : nx + N < f i + 1
      · rw [if_pos (by omega), if_pos q, show ((f i + 1 - N : Nat) : Int) = ((f i : Nat) : Int) - (N : Int) + 1 by omega]
      · rw [if_neg (by omega), if_neg q]
    obtain ⟨σ2, a1, a2, a3⟩ := w_so52 (K := f_X6_strikeOut_6 (g + 1)) (x := σ) (N := N) (nx := n2) (e := e) (E := E) (i := i) bit he2.1 hE hn3.2.2.1 (E - n2) n2 999999 σ (by omega) (by omega) (by omega) (Ch_refl _ _) (fun t ht => by
      rw [if_neg (by omega)])
    have hb1 : ∀ t, hb f N wd (i + 1) t = (hb f N wd i t || (decide (f i + 1 ≤ t + N) && decide (t < f i + wd))) := fun _ => rfl
    obtain ⟨τ, b1, b2, b3⟩ := ih (i + 1) g E σ2 (by omega) (by omega) (by omega) (Ch_tr hc a2) (fun t ht => by
      rw [a3 t ht, ho t ht]
      by_cases q : n2 ≤ t ∧ t < E
      · have hq : hb f N wd (i + 1) t = true := (hb_iff (i + 1)).mpr ⟨i, by omega, by omega, by omega⟩
        rw [if_pos q, hq]
        unfold ap2
        cases hb f N wd i t
        · rfl
        · exact and_idem _ _
      · rw [if_neg q]
        have hq : hb f N wd (i + 1) t = hb f N wd i t := by
          rw [hb1]
          by_cases q2 : f i + 1 ≤ t + N ∧ t < f i + wd
          · have q3 : hb f N wd i t = true := hB t ht (by omega) (fun h => by
              have := hm (i - 1) i (by omega) (by omega)
              omega)
            rw [q3]
            rfl
          · have q4 : (decide (f i + 1 ≤ t + N) && decide (t < f i + wd)) = false := by
              cases h : (decide (f i + 1 ≤ t + N) && decide (t < f i + wd))
              · rfl
              · rw [Bool.and_eq_true, decide_eq_true_eq, decide_eq_true_eq] at h
                exact absurd h q2
            rw [q4, Bool.or_false]
        rw [hq]) (fun t ht h1 h2 => by
      have h3 := h2 (by omega)
      rw [show i + 1 - 1 = i by omega] at h3
      by_cases q : n2 ≤ t
      · exact (hb_iff (i + 1)).mpr ⟨i, by omega, by omega, by omega⟩
      · have q3 : hb f N wd i t = true := hB t ht (by omega) (fun h => by
          have := hm (i - 1) i (by omega) (by omega)
          omega)
        rw [hb1, q3]
        rfl)
    refine ⟨τ, ?_, b2, b3⟩
    rw [f_X6_strikeOut_6]
    simp +decide (maxSteps := 2000000) (disch := omega) only [↓gl_p, ↓bs_p, iI_lit, iI_neg, iI_add, iI_sub, iI_mul, gk_p, bs_p, bz0, bz1, pI_row, pI_snd, pA_row, pA_snd, pL_fst, pL_row, pB_fst, pB_row, upd_at, ↓reduceIte, Int.reduceToNat, Nat.reduceEqDiff, iI_lt, iI_le, iI_eq, iI_inb, iI_nat, iI_nz, s1, s2, sf, c, Int.toNat_natCast]
    rw [ej1, ej2, show f_X6_strikeOut_52 (f_X6_strikeOut_6 (g + 1)) gN (iI N) bit (iI n2) (iI i) (iI e) σ = _ from a1]
    exact b1
def mfC (c _j : Nat) : Bool := c == 44 || c == 32 || c == 33
theorem mf_ga {x y : gS} (h : Ch gaC x y) : Ch mfC x y := Ch_mo h fun c j hd => by
  unfold mfC at hd
  unfold gaC
  simp at hd ⊢
  omega
theorem mf_so {x y : gS} (h : Ch soC x y) : Ch mfC x y := Ch_mo h fun c j hd => by
  unfold mfC at hd
  unfold soC
  simp at hd ⊢
  omega
theorem sc_mf {x y : gS} (h : Ch mfC x y) : Ch scX x y := Ch_mo h fun c j hd => by
  unfold scX at hd
  unfold mfC
  simp at hd ⊢
  omega
/-- struck out is what is not free -/
theorem hb_fr {b : Nat → Bool} {U z wd N t : Nat} {f : Nat → Nat} (hP : GP b U z f) (w1 : 1 ≤ wd) (hN : 1 ≤ N) (hU : t + N ≤ U + 1) : hb f N wd z t = !(frb b wd t N) := by
  have e : hb f N wd z t = true ↔ ¬ fr b wd t N := by
    rw [hb_iff]
    constructor
    · rintro ⟨j, h1, h2, h3⟩ h
      have q := hP.1 j h1
      by_cases c : f j ≤ t
      · exact h t (by omega) (by omega) ⟨f j, by omega, by omega, q.2⟩
      · exact h (f j) (by omega) (by omega) ⟨f j, by omega, by omega, q.2⟩
    · intro h
      by_cases c : ∃ j, j < z ∧ f j + 1 ≤ t + N ∧ t < f j + wd
      · exact c
      · refine absurd (fun u u1 u2 hs => ?_) h
        obtain ⟨s, s1, s2, s3⟩ := hs
        obtain ⟨j, j1, j2⟩ := hP.2.1 s (by omega) s3
        exact c ⟨j, j1, by omega, by omega⟩
  cases h : frb b wd t N
  · have h2 : ¬ fr b wd t N := fun q => by
      rw [(frb_iff N).mpr q] at h
      exact absurd h (by decide)
    exact e.mpr h2
  · have h2 := (frb_iff N).mp h
    cases h3 : hb f N wd z t
    · rfl
    · exact absurd h2 (e.mp h3)
theorem s_str_26 {x : gS} {n k sd : Nat} {w : Nat → Nat → Nat} {S : Nat → Nat} (hY : YD n w sd x) (hC : CO 26 n k w sd S x) {p N : Nat} (hp : p < n) (h1 : 1 ≤ N) (h2 : N ≤ 99) (bit : Int32) : ∃ y z, f_X6_gather x 26 (iI p) (iI ((600 + N - 2 : Nat) : Int)) = some y ∧ f_X6_strikeOut y (iI N) bit = some z ∧ Ch mfC x z ∧ ∀ t, t < 600 → z.1 44 t = ap2 (!(frb (dn w sd S k p) (wdo sd) t N)) (x.1 44 t) (bit ^^^ iI (-1)) := by
  obtain ⟨y, C, z, f, g1, g2, g3, g4, g5, g6⟩ := s_gath_26 hY hC hp (U := 600 + N - 2) (by omega)
  have hG := GP_of g6 g3
  have hz := GP_sz g6 hG (by omega)
  obtain ⟨τ, a1, a2, a3⟩ := w_so6 g5 (wd := wdo sd) g4 (wdo_rg hY.2.1).1 (wdo_rg hY.2.1).2 h2 h1 hG.2.2 (fun i hi => Nat.le_trans (hG.1 i hi).1 (by omega)) hz bit z 0 999999 0 y (by omega) (by omega) (by omega) (Ch_refl _ _) (fun t ht => rfl) (fun t ht h => absurd h (by omega))
  refine ⟨y, τ, g1, a1, Ch_tr (mf_ga g2) (mf_so a2), fun t ht => ?_⟩
  rw [a3 t ht, hb_fr hG (wdo_rg hY.2.1).1 h1 (by omega), g2.2 44 t rfl]
theorem s_str_29 {x : gS} {n k sd : Nat} {w : Nat → Nat → Nat} {S : Nat → Nat} (hY : YD n w sd x) (hC : CO 29 n k w sd S x) {p N : Nat} (hp : p < n) (h1 : 1 ≤ N) (h2 : N ≤ 99) (bit : Int32) : ∃ y z, f_X6_gather x 29 (iI p) (iI ((600 + N - 2 : Nat) : Int)) = some y ∧ f_X6_strikeOut y (iI N) bit = some z ∧ Ch mfC x z ∧ ∀ t, t < 600 → z.1 44 t = ap2 (!(frb (dn w sd S k p) (wdo sd) t N)) (x.1 44 t) (bit ^^^ iI (-1)) := by
  obtain ⟨y, C, z, f, g1, g2, g3, g4, g5, g6⟩ := s_gath_29 hY hC hp (U := 600 + N - 2) (by omega)
  have hG := GP_of g6 g3
  have hz := GP_sz g6 hG (by omega)
  obtain ⟨τ, a1, a2, a3⟩ := w_so6 g5 (wd := wdo sd) g4 (wdo_rg hY.2.1).1 (wdo_rg hY.2.1).2 h2 h1 hG.2.2 (fun i hi => Nat.le_trans (hG.1 i hi).1 (by omega)) hz bit z 0 999999 0 y (by omega) (by omega) (by omega) (Ch_refl _ _) (fun t ht => rfl) (fun t ht h => absurd h (by omega))
  refine ⟨y, τ, g1, a1, Ch_tr (mf_ga g2) (mf_so a2), fun t ht => ?_⟩
  rw [a3 t ht, hb_fr hG (wdo_rg hY.2.1).1 h1 (by omega), g2.2 44 t rfl]
theorem w_mf2 {p N : Int32} : ∀ (r i f : Nat) (x σ : gS), i + r = 600 → r ≤ f → Ch soC x σ → (∀ t, t < i → σ.1 44 t = iI 3) → ∃ τ, f_X9_markFree_2 (f + 1) p N (iI i) σ = (f_X6_gather τ 26 p (iI 600 + N - iI 2)).bind (fun q1 => (f_X6_strikeOut q1 N (iI 1)).bind fun q2 => (f_X6_gather q2 29 p (iI 600 + N - iI 2)).bind fun q3 => (f_X6_strikeOut q3 N (iI 2)).bind fun q4 => some q4) ∧ Ch soC x τ ∧ ∀ t, t < 600 → τ.1 44 t = iI 3 := by
  intro r
  induction r with
  | zero =>
    intro i f x σ hi hf hc ho
    have g : 600 ≤ (i : Int) := by omega
    refine ⟨σ, ?_, hc, fun t ht => ho t (by omega)⟩
    rw [f_X9_markFree_2]
    simp +decide (maxSteps := 2000000) (disch := omega) only [↓gl_p, ↓bs_p, iI_lit, iI_neg, iI_add, iI_sub, iI_mul, gk_p, bs_p, bz0, bz1, pI_row, pI_snd, pA_row, pA_snd, pL_fst, pL_row, pB_fst, pB_row, upd_at, ↓reduceIte, Int.reduceToNat, Nat.reduceEqDiff, iI_lt, iI_le, iI_eq, iI_inb, iI_nat, iI_nz, g]
  | succ r ih =>
    intro i f x σ hi hf hc ho
    obtain ⟨f, rfl⟩ : ∃ q, f = q + 1 := ⟨f - 1, by omega⟩
    have g : ¬ 600 ≤ (i : Int) := by omega
    obtain ⟨τ, a1, a2, a3⟩ := ih (i + 1) f x (pI σ 44 i (iI 3)) (by omega) (by omega) (Ch_pI hc rfl) (fun t ht => by
      rw [pI_row, if_pos rfl, upd_at]
      by_cases e : t = i
      · rw [if_pos e]
      · rw [if_neg e]
        exact ho t (by omega))
    refine ⟨τ, ?_, a2, a3⟩
    rw [f_X9_markFree_2]
    simp +decide (maxSteps := 2000000) (disch := omega) only [↓gl_p, ↓bs_p, iI_lit, iI_neg, iI_add, iI_sub, iI_mul, gk_p, bs_p, bz0, bz1, pI_row, pI_snd, pA_row, pA_snd, pL_fst, pL_row, pB_fst, pB_row, upd_at, ↓reduceIte, Int.reduceToNat, Nat.reduceEqDiff, iI_lt, iI_le, iI_eq, iI_inb, iI_nat, iI_nz, g, Int.toNat_natCast]
    exact a1
theorem b4_ap (cf cb : Bool) : ap2 (!cb) (ap2 (!cf) (iI 3) (iI 1 ^^^ iI (-1))) (iI 2 ^^^ iI (-1)) = iI (b4 cf cb) := by
  cases cf <;> cases cb <;> decide
theorem s_mark {x : gS} {n k sd : Nat} {w : Nat → Nat → Nat} {S R : Nat → Nat} (hY : YD n w sd x) (hC : CO 26 n k w sd S x) (hC2 : CO 29 n k w sd R x) {p N : Nat} (hp : p < n) (h1 : 1 ≤ N) (h2 : N ≤ 99) : ∃ y, f_X9_markFree x (iI p) (iI N) = some y ∧ Ch mfC x y ∧ ∀ t, t < 600 → y.1 44 t = iI (b4 (frb (dn w sd S k p) (wdo sd) t N) (frb (dn w sd R k p) (wdo sd) t N)) := by
  obtain ⟨x1, a1, a2, a3⟩ := w_mf2 (p := iI p) (N := iI N) 600 0 999999 x x (by omega) (by omega) (Ch_refl _ _) (fun t ht => absurd ht (by omega))
  have c1 := mf_so a2
  obtain ⟨x2, x3, b1, b2, b3, b4⟩ := s_str_26 (YD_ch hY c1 (fun _ => rfl) (fun _ => rfl)) (CO_ch_26 hC c1 (fun _ => rfl) (fun _ => rfl) (fun _ => rfl)) hp h1 h2 (iI 1)
  have c3 := Ch_tr c1 b3
  obtain ⟨x4, x5, d1, d2, d3, d4⟩ := s_str_29 (YD_ch hY c3 (fun _ => rfl) (fun _ => rfl)) (CO_ch_29 hC2 c3 (fun _ => rfl) (fun _ => rfl) (fun _ => rfl)) hp h1 h2 (iI 2)
  have eU : iI 600 + iI N - iI 2 = iI ((600 + N - 2 : Nat) : Int) := by
    rw [iI_add, iI_sub, show (600 : Int) + (N : Int) - 2 = ((600 + N - 2 : Nat) : Int) by omega]
  refine ⟨x5, ?_, Ch_tr c3 d3, fun t ht => ?_⟩
  · unfold f_X9_markFree
    rw [show f_X9_markFree_2 gN (iI p) (iI N) 0 x = _ from a1, eU, b1]
    simp only [bs_p]
    rw [b2]
    simp only [bs_p]
    rw [d1]
    simp only [bs_p]
    rw [d2]
    rfl
  · rw [d4 t ht, b4 t ht, a3 t ht]
    exact b4_ap _ _
