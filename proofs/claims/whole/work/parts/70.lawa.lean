/-! ===== the law: tokens, and the two drafts ===== -/
def sgz (t : Nat) : Nat := [124, 38, 60, 61, 62, 43, 45, 42, 47, 37, 33, 126].getD (t - 6) 0
def tr1 (t : Nat) : List Nat := if t < 6 then [36, t] else if 18 ≤ t then [35, t - 18] else [sgz t]
def trs (l : List Nat) : List Nat := l.flatMap tr1
theorem trs_app (a b : List Nat) : trs (a ++ b) = trs a ++ trs b := List.flatMap_append
theorem trs_1 (t : Nat) : trs [t] = tr1 t := by
  unfold trs
  rw [List.flatMap_cons, List.flatMap_nil, List.append_nil]
def hg1 (h t : Nat) : Option Nat := if t < 6 ∨ 18 ≤ t then some (h + 1) else if t = 16 ∨ t = 17 then (if 1 ≤ h then some h else none) else if 2 ≤ h then some (h - 1) else none
def hgl : List Nat → Nat → Option Nat
  | [], h => some h
  | t :: l, h => (hg1 h t).bind fun k => hgl l k
theorem hgl_app (a b : List Nat) : ∀ h, hgl (a ++ b) h = (hgl a h).bind fun k => hgl b k := by
  induction a with
  | nil => intro h; rfl
  | cons t l ih =>
    intro h
    show (hg1 h t).bind (fun k => hgl (l ++ b) k) = ((hg1 h t).bind fun k => hgl l k).bind fun k => hgl b k
    cases hg1 h t with
    | none => rfl
    | some k => exact ih k
def WF (us : List Nat) : Prop := (∀ t, t ∈ us → t < 10018) ∧ ∀ h, hgl us h = some (h + 1)
theorem WF_1 {t : Nat} (h : t < 6 ∨ 18 ≤ t) (h2 : t < 10018) : WF [t] := by
  refine ⟨fun s hs => ?_, fun k => ?_⟩
  · rw [List.mem_singleton.mp hs]
    exact h2
  · show (hg1 k t).bind (fun k => hgl [] k) = _
    unfold hg1
    rw [if_pos h]
    rfl
theorem WF_u {us : List Nat} {t : Nat} (hu : WF us) (h : t = 16 ∨ t = 17) : WF (us ++ [t]) := by
  refine ⟨fun s hs => ?_, fun k => ?_⟩
  · rcases List.mem_append.mp hs with g | g
    · exact hu.1 s g
    · rw [List.mem_singleton.mp g]
      omega
  · rw [hgl_app, hu.2 k]
    show (hg1 (k + 1) t).bind (fun k => hgl [] k) = _
    unfold hg1
    rw [if_neg (by omega), if_pos h, if_pos (by omega)]
    rfl
theorem WF_b {us vs : List Nat} {t : Nat} (hu : WF us) (hv : WF vs) (h : 6 ≤ t ∧ t ≤ 15) : WF (us ++ vs ++ [t]) := by
  refine ⟨fun s hs => ?_, fun k => ?_⟩
  · rcases List.mem_append.mp hs with g | g
    · rcases List.mem_append.mp g with g | g
      · exact hu.1 s g
      · exact hv.1 s g
    · rw [List.mem_singleton.mp g]
      omega
  · rw [hgl_app, hgl_app, hu.2 k]
    show ((hgl vs (k + 1)).bind fun k => hgl [t] k) = _
    rw [hv.2 (k + 1)]
    show (hg1 (k + 1 + 1) t).bind (fun k => hgl [] k) = _
    unfold hg1
    rw [if_neg (by omega), if_neg (by omega), if_pos (by omega)]
    rfl
def pcX (c j : Nat) : Bool := c == 9 || (c == 7 && (j == 5 || j == 7 || j == 8))
def pcM (c j : Nat) : Bool := c == 14 || (c == 0 && (j == 14 || j == 15 || j == 16))
def DR (ds : List Nat) (σ : gS) : Prop := σ.1 7 5 = iI ds.length ∧ ∀ k, k < ds.length → σ.1 9 k = iI (ds.getD k 0 : Nat)
def NC (ts : List Nat) (σ : gS) : Prop := σ.1 0 16 = iI ts.length ∧ ∀ k, k < ts.length → σ.1 14 k = iI (ts.getD k 0 : Nat)
theorem gD_r (a b : List Nat) {k : Nat} (h : a.length ≤ k) : (a ++ b).getD k 0 = b.getD (k - a.length) 0 := by
  rw [List.getD_eq_getElem?_getD, List.getD_eq_getElem?_getD, List.getElem?_append_right h]
theorem gD_s (a : List Nat) (n k : Nat) (h : k < (a ++ [n]).length) : (a ++ [n]).getD k 0 = if k = a.length then n else a.getD k 0 := by
  have h2 : (a ++ [n]).length = a.length + 1 := by simp
  by_cases e : k = a.length
  · rw [if_pos e, gD_r a [n] (by omega), e, Nat.sub_self]
    rfl
  · rw [if_neg e, gD_l (X := [n]) (show k < a.length by omega)]
theorem len_s (a : List Nat) (n : Nat) : (a ++ [n]).length = a.length + 1 := by simp
theorem s_emit {σ : gS} {ds : List Nat} {n : Nat} (h : DR ds σ) (hl : ds.length < 256) : ∃ τ, f_X4_emit σ (iI n) = some τ ∧ Ch pcX σ τ ∧ τ.1 7 7 = σ.1 7 7 ∧ τ.1 7 8 = σ.1 7 8 ∧ DR (ds ++ [n]) τ := by
  obtain ⟨e, hd⟩ := h
  have g : ¬ (256 : Int) ≤ (ds.length : Int) := by omega
  refine ⟨pI (pI σ 7 5 (iI ((ds.length : Int) + 1))) 9 ds.length (iI n), ?_, Ch_pI (Ch_pI (Ch_refl _ _) rfl) rfl, rfl, rfl, ?_, fun k hk => ?_⟩
  · unfold f_X4_emit
    simp +decide (maxSteps := 2000000) (disch := omega) only [↓gl_p, ↓bs_p, iI_lit, iI_neg, iI_add, iI_sub, iI_mul, gk_p, bs_p, bz0, bz1, pI_row, pI_snd, pA_row, pA_snd, pL_fst, pL_row, pB_fst, pB_row, upd_at, ↓reduceIte, Int.reduceToNat, Nat.reduceEqDiff, iI_lt, iI_le, iI_eq, iI_inb, iI_nat, iI_nz, e, g, Int.toNat_natCast]
  · rw [len_s]
    rfl
  · rw [gD_s ds n k hk]
    show upd (σ.1 9) ds.length (iI n) k = _
    rw [upd_at]
    by_cases c : k = ds.length
    · rw [if_pos c, if_pos c]
    · rw [if_neg c, if_neg c]
      rw [len_s] at hk
      exact hd k (by omega)
def DF (σ : gS) : Prop := ∃ D : Nat, D ≤ 256 ∧ σ.1 7 5 = iI D
theorem DF_of {ds : List Nat} {σ : gS} (h : DR ds σ) (hl : ds.length ≤ 256) : DF σ := ⟨ds.length, hl, h.1⟩
theorem s_emitF {σ : gS} (v : Int32) (h : DF σ) : ∃ τ, f_X4_emit σ v = some τ ∧ Ch pcX σ τ ∧ τ.1 7 7 = σ.1 7 7 ∧ τ.1 7 8 = σ.1 7 8 ∧ DF τ := by
  obtain ⟨D, hD, e⟩ := h
  by_cases c : 256 ≤ D
  · refine ⟨σ, ?_, Ch_refl _ _, rfl, rfl, D, hD, e⟩
    have g : (256 : Int) ≤ (D : Int) := by omega
    unfold f_X4_emit
    simp +decide (maxSteps := 2000000) (disch := omega) only [↓gl_p, ↓bs_p, iI_lit, iI_neg, iI_add, iI_sub, iI_mul, gk_p, bs_p, bz0, bz1, pI_row, pI_snd, pA_row, pA_snd, pL_fst, pL_row, pB_fst, pB_row, upd_at, ↓reduceIte, Int.reduceToNat, Nat.reduceEqDiff, iI_lt, iI_le, iI_eq, iI_inb, iI_nat, iI_nz, e, g]
  · have g : ¬ (256 : Int) ≤ (D : Int) := by omega
    refine ⟨pI (pI σ 7 5 (iI ((D : Int) + 1))) 9 D v, ?_, Ch_pI (Ch_pI (Ch_refl _ _) rfl) rfl, rfl, rfl, D + 1, by omega, rfl⟩
    unfold f_X4_emit
    simp +decide (maxSteps := 2000000) (disch := omega) only [↓gl_p, ↓bs_p, iI_lit, iI_neg, iI_add, iI_sub, iI_mul, gk_p, bs_p, bz0, bz1, pI_row, pI_snd, pA_row, pA_snd, pL_fst, pL_row, pB_fst, pB_row, upd_at, ↓reduceIte, Int.reduceToNat, Nat.reduceEqDiff, iI_lt, iI_le, iI_eq, iI_inb, iI_nat, iI_nz, e, g, Int.toNat_natCast]
theorem s_codes {σ : gS} {ts : List Nat} {n : Nat} (h : NC ts σ) (hl : ts.length < 200) : ∃ τ, f_X10_codes σ (iI n) = some (iI 1, τ) ∧ Ch pcM σ τ ∧ τ.1 0 14 = σ.1 0 14 ∧ τ.1 0 15 = σ.1 0 15 ∧ NC (ts ++ [n]) τ := by
  obtain ⟨e, hd⟩ := h
  refine ⟨pI (pI σ 0 16 (iI ((ts.length : Int) + 1))) 14 ts.length (iI n), ?_, Ch_pI (Ch_pI (Ch_refl _ _) rfl) rfl, rfl, rfl, ?_, fun k hk => ?_⟩
  · unfold f_X10_codes
    simp +decide (maxSteps := 2000000) (disch := omega) only [↓gl_p, ↓bs_p, iI_lit, iI_neg, iI_add, iI_sub, iI_mul, gk_p, bs_p, bz0, bz1, pI_row, pI_snd, pA_row, pA_snd, pL_fst, pL_row, pB_fst, pB_row, upd_at, ↓reduceIte, Int.reduceToNat, Nat.reduceEqDiff, iI_lt, iI_le, iI_eq, iI_inb, iI_nat, iI_nz, e, Int.toNat_natCast]
  · rw [len_s]
    rfl
  · rw [gD_s ts n k hk]
    show upd (σ.1 14) ts.length (iI n) k = _
    rw [upd_at]
    by_cases c : k = ts.length
    · rw [if_pos c, if_pos c]
    · rw [if_neg c, if_neg c]
      rw [len_s] at hk
      exact hd k (by omega)
/-! the tape, and where the two stand -/
def pk (a : Nat) (tp : Nat → Nat) (i : Nat) : Int := if a ≤ i then -1 else (tp i : Int)
def TP (a : Nat) (tp : Nat → Nat) : Prop := a ≤ 120 ∧ ∀ i, i < a → tp i ≤ 255
def XS (a : Nat) (tp : Nat → Nat) (i : Nat) (ds : List Nat) (x : gS) : Prop := (x.1 7 9 = iI a ∧ ∀ k, k < a → x.1 8 k = iI (tp k)) ∧ x.1 7 7 = iI i ∧ x.1 7 8 = iI 0 ∧ DR ds x
def MS (a : Nat) (tp : Nat → Nat) (i op : Nat) (ts : List Nat) (m : gS) : Prop := (m.1 0 6 = iI a ∧ ∀ k, k < a → m.1 6 k = iI (tp k)) ∧ m.1 0 14 = iI i ∧ m.1 0 15 = iI op ∧ NC ts m
theorem pk_r {a : Nat} {tp : Nat → Nat} (h : TP a tp) (i : Nat) : -1 ≤ pk a tp i ∧ pk a tp i ≤ 255 := by
  unfold pk
  by_cases c : a ≤ i
  · rw [if_pos c]
    omega
  · rw [if_neg c]
    have := h.2 i (by omega)
    omega
theorem s_peek {a : Nat} {tp : Nat → Nat} {i : Nat} {x : gS} (h : TP a tp) (e1 : x.1 7 9 = iI a) (e2 : ∀ k, k < a → x.1 8 k = iI (tp k)) (e3 : x.1 7 7 = iI i) (hi : i ≤ a) : f_X4_peek x = some (iI (pk a tp i)) := by
  have h1 := h.1
  unfold f_X4_peek pk
  by_cases c : a ≤ i
  · have g : (a : Int) ≤ (i : Int) := by omega
    simp +decide (maxSteps := 2000000) (disch := omega) only [↓gl_p, ↓bs_p, iI_lit, iI_neg, iI_add, iI_sub, iI_mul, gk_p, bs_p, bz0, bz1, pI_row, pI_snd, pA_row, pA_snd, pL_fst, pL_row, pB_fst, pB_row, upd_at, ↓reduceIte, Int.reduceToNat, Nat.reduceEqDiff, iI_lt, iI_le, iI_eq, iI_inb, iI_nat, iI_nz, e1, e3, g, c]
  · have g : ¬ (a : Int) ≤ (i : Int) := by omega
    have e4 := e2 i (by omega)
    simp +decide (maxSteps := 2000000) (disch := omega) only [↓gl_p, ↓bs_p, iI_lit, iI_neg, iI_add, iI_sub, iI_mul, gk_p, bs_p, bz0, bz1, pI_row, pI_snd, pA_row, pA_snd, pL_fst, pL_row, pB_fst, pB_row, upd_at, ↓reduceIte, Int.reduceToNat, Nat.reduceEqDiff, iI_lt, iI_le, iI_eq, iI_inb, iI_nat, iI_nz, e1, e3, g, c, e4, Int.toNat_natCast]
theorem s_sign {a : Nat} {tp : Nat → Nat} {i : Nat} {m : gS} (h : TP a tp) (e1 : m.1 0 6 = iI a) (e2 : ∀ k, k < a → m.1 6 k = iI (tp k)) (e3 : m.1 0 14 = iI i) (hi : i ≤ a) : f_X10_sign m = some (iI (pk a tp i)) := by
  have h1 := h.1
  unfold f_X10_sign pk
  by_cases c : a ≤ i
  · have g : (a : Int) ≤ (i : Int) := by omega
    simp +decide (maxSteps := 2000000) (disch := omega) only [↓gl_p, ↓bs_p, iI_lit, iI_neg, iI_add, iI_sub, iI_mul, gk_p, bs_p, bz0, bz1, pI_row, pI_snd, pA_row, pA_snd, pL_fst, pL_row, pB_fst, pB_row, upd_at, ↓reduceIte, Int.reduceToNat, Nat.reduceEqDiff, iI_lt, iI_le, iI_eq, iI_inb, iI_nat, iI_nz, e1, e3, g, c]
  · have g : ¬ (a : Int) ≤ (i : Int) := by omega
    have e4 := e2 i (by omega)
    simp +decide (maxSteps := 2000000) (disch := omega) only [↓gl_p, ↓bs_p, iI_lit, iI_neg, iI_add, iI_sub, iI_mul, gk_p, bs_p, bz0, bz1, pI_row, pI_snd, pA_row, pA_snd, pL_fst, pL_row, pB_fst, pB_row, upd_at, ↓reduceIte, Int.reduceToNat, Nat.reduceEqDiff, iI_lt, iI_le, iI_eq, iI_inb, iI_nat, iI_nz, e1, e3, g, c, e4, Int.toNat_natCast]
theorem XS_ch {a : Nat} {tp : Nat → Nat} {i j : Nat} {ds es : List Nat} {x y : gS} (h : XS a tp i ds x) (hc : Ch pcX x y) (e1 : y.1 7 7 = iI j) (e2 : y.1 7 8 = iI 0) (e3 : DR es y) : XS a tp j es y :=
  ⟨⟨(hc.2 7 9 rfl).trans h.1.1, fun k hk => (hc.2 8 k rfl).trans (h.1.2 k hk)⟩, e1, e2, e3⟩
theorem MS_ch {a : Nat} {tp : Nat → Nat} {i j op oq : Nat} {ts us : List Nat} {m w : gS} (h : MS a tp i op ts m) (hc : Ch pcM m w) (e1 : w.1 0 14 = iI j) (e2 : w.1 0 15 = iI oq) (e3 : NC us w) : MS a tp j oq us w :=
  ⟨⟨(hc.2 0 6 rfl).trans h.1.1, fun k hk => (hc.2 6 k rfl).trans (h.1.2 k hk)⟩, e1, e2, e3⟩
theorem XS_go {a : Nat} {tp : Nat → Nat} {i : Nat} {ds : List Nat} {x : gS} (h : XS a tp i ds x) : XS a tp (i + 1) ds (pI x 7 7 (iI ((i : Int) + 1))) :=
  XS_ch h (Ch_pI (Ch_refl _ _) rfl) rfl h.2.2.1 h.2.2.2
theorem MS_go {a : Nat} {tp : Nat → Nat} {i op : Nat} {ts : List Nat} {m : gS} (h : MS a tp i op ts m) : MS a tp (i + 1) op ts (pI m 0 14 (iI ((i : Int) + 1))) :=
  MS_ch h (Ch_pI (Ch_refl _ _) rfl) rfl h.2.2.1 h.2.2.2
theorem XS_emit {a : Nat} {tp : Nat → Nat} {i : Nat} {ds : List Nat} {x : gS} (n : Nat) (h : XS a tp i ds x) (hl : ds.length < 256) : ∃ y, f_X4_emit x (iI n) = some y ∧ Ch pcX x y ∧ XS a tp i (ds ++ [n]) y := by
  obtain ⟨y, h1, h2, h3, h4, h5⟩ := s_emit (n := n) h.2.2.2 hl
  exact ⟨y, h1, h2, XS_ch h h2 (h3.trans h.2.1) (h4.trans h.2.2.1) h5⟩
theorem MS_codes {a : Nat} {tp : Nat → Nat} {i op : Nat} {ts : List Nat} {m : gS} (n : Nat) (h : MS a tp i op ts m) (hl : ts.length < 200) : ∃ w, f_X10_codes m (iI n) = some (iI 1, w) ∧ Ch pcM m w ∧ MS a tp i op (ts ++ [n]) w := by
  obtain ⟨y, h1, h2, h3, h4, h5⟩ := s_codes (n := n) h.2.2.2 hl
  exact ⟨y, h1, h2, MS_ch h h2 (h3.trans h.2.1) (h4.trans h.2.2.1) h5⟩
/-! names -/
def nm (c : Int) : Int := if c = 118 then 0 else if c = 117 then 1 else if c = 109 then 2 else if c = 100 then 3 else if c = 112 then 4 else if c = 110 then 5 else -1
theorem nmr_ (c : Int) : -1 ≤ nm c ∧ nm c ≤ 5 := by
  unfold nm
  (repeat' split) <;> omega
def gZ : gS := (fun _ _ => 0, fun _ _ => 0)
theorem nm_k : ∀ n : Nat, n < 257 → f_X10_nameOf gZ (iI ((n : Int) - 1)) = some (iI (nm ((n : Int) - 1))) := by decide +kernel
theorem s_nameM (σ : gS) {c : Int} (h1 : -1 ≤ c) (h2 : c ≤ 255) : f_X10_nameOf σ (iI c) = some (iI (nm c)) := by
  have k := nm_k (c + 1).toNat (by omega)
  rw [show (((c + 1).toNat : Nat) : Int) - 1 = c by omega] at k
  exact k
theorem jc_k : ∀ n : Nat, n < 256 → jc (iI n) = iI n ∧ (iI n).toInt8.toInt32 = iI (if n < 128 then (n : Int) else (n : Int) - 256) := by decide +kernel
theorem ioc_i (σ : gS) : ∀ (f : Nat) (x3 x4 x5 : Int32), f_J1_indexOfChar_4cfef_7 σ f x3 x4 x5 = f_J1_indexOfChar_4cfef_7 gZ f x3 x4 x5 := by
  intro f
  induction f with
  | zero => intro _ _ _; rfl
  | succ f ih =>
    intro x3 x4 x5
    simp only [f_J1_indexOfChar_4cfef_7, gl_e, ih]
theorem ioc_k : ∀ n : Nat, n < 256 → f_J1_indexOfChar_4cfef_7 gZ gN (iI 6) (iI ((n : Int) - 128)) (iI 0) = some (iI (nm ((n : Int) - 128))) := by decide +kernel
theorem w_ioc (σ : gS) {c : Int} (h1 : -128 ≤ c) (h2 : c ≤ 127) : f_J1_indexOfChar_4cfef_7 σ gN (iI 6) (iI c) (iI 0) = some (iI (nm c)) := by
  have k := ioc_k (c + 128).toNat (by omega)
  rw [show (((c + 128).toNat : Nat) : Int) - 128 = c by omega] at k
  rw [ioc_i]
  exact k
theorem s_nameX (σ : gS) {n : Nat} (h : n < 256) : f_J0_indexOf_0f7a4 σ (jc (iI n)) = some (iI (nm n)) := by
  obtain ⟨h1, h2⟩ := jc_k n h
  have e : nm (if n < 128 then (n : Int) else (n : Int) - 256) = nm n := by
    by_cases c : n < 128
    · rw [if_pos c]
    · rw [if_neg c]
      unfold nm
      (repeat' split) <;> omega
  have k := w_ioc σ (c := if n < 128 then (n : Int) else (n : Int) - 256) (by split <;> omega) (by split <;> omega)
  have g1 : ¬ (n : Int) < 0 := by omega
  have g2 : ¬ (255 : Int) < (n : Int) := by omega
  have j1 : jmax (iI 0) (iI 0) = iI 0 := rfl
  have j2 : jmin (iI 6) (iI 6) = iI 6 := rfl
  have j3 : iI 6 >>> (iI 0 &&& iI 31) = iI 6 := rfl
  have b8 : b8 (iI 0) = true := rfl
  unfold f_J0_indexOf_0f7a4 f_J0_indexOf_7cf53 f_J0_isLatin1_aae02 f_J0_length_8abf5 f_J0_coder_7d493 f_J1_indexOf_4cfef f_J1_canEncode_9a6ad f_J1_indexOfChar_4cfef
  rw [h1]
  simp +decide (maxSteps := 2000000) (disch := omega) only [↓gl_p, ↓bs_p, iI_lit, iI_neg, iI_add, iI_sub, iI_mul, gk_p, bs_p, bz0, bz1, pI_row, pI_snd, pA_row, pA_snd, pL_fst, pL_row, pB_fst, pB_row, upd_at, ↓reduceIte, Int.reduceToNat, Nat.reduceEqDiff, iI_lt, iI_le, iI_eq, iI_inb, iI_nat, iI_nz, g1, g2, j1, j2, j3, b8, h2, k, e]
