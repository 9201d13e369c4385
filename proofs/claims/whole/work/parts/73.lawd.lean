/-! ===== the law: terms ===== -/
def bnd (u : Option (Int32 × gS)) (f : gS → Option (Int32 × gS)) : Option (Int32 × gS) := u.bind fun q => if q.1 = 0 then gk (bz 0) (some (0, q.2)) else f q.2
theorem bnd_0 (w : gS) (f : gS → Option (Int32 × gS)) : bnd (some (iI 0, w)) f = some (iI 0, w) := rfl
theorem bnd_1 (w : gS) (f : gS → Option (Int32 × gS)) : bnd (some (iI 1, w)) f = f w := rfl
theorem bnd_a (u : Option (Int32 × gS)) (f g : gS → Option (Int32 × gS)) : bnd (bnd u f) g = bnd u (fun s => bnd (f s) g) := by
  cases u with
  | none => rfl
  | some q =>
    unfold bnd
    by_cases c : q.1 = 0
    · simp only [b_some, c, ↓reduceIte]
      rfl
    · simp only [b_some, c, ↓reduceIte]
abbrev R6 : Type := (gS → Option (Int32 × gS)) × (gS → Option (Int32 × gS)) × (gS → Option (Int32 × gS)) × (gS → Option (Int32 × gS)) × (gS → Option (Int32 × gS)) × (gS → Option (Int32 × gS))
def TTm (c : Nat) (R : R6) : gS → Option (Int32 × gS) := match c with
  | 0 => R.2.2.1
  | 1 => R.1
  | 2 => R.2.1
  | 3 => R.2.2.2.2.2
  | 4 => R.2.2.2.2.1
  | _ => R.2.2.2.1
def loB (R : R6) (σ : gS) : Option (Int32 × gS) := (f_X10_sign σ).bind fun q2 => (if q2 = 60 then f_X10_isB_52 R.1 R.2.1 R.2.2.1 R.2.2.2.1 R.2.2.2.2.1 R.2.2.2.2.2 8 σ else (f_X10_sign σ).bind fun q3 => (if q3 = 61 then f_X10_isB_52 R.1 R.2.1 R.2.2.1 R.2.2.2.1 R.2.2.2.2.1 R.2.2.2.2.2 9 σ else (f_X10_sign σ).bind fun q4 => (if q4 = 62 then f_X10_isB_52 R.1 R.2.1 R.2.2.1 R.2.2.2.1 R.2.2.2.2.1 R.2.2.2.2.2 10 σ else f_X10_isB_52 R.1 R.2.1 R.2.2.1 R.2.2.2.1 R.2.2.2.2.1 R.2.2.2.2.2 (-1) σ)))
def loM (c : Nat) (R : R6) (f : Nat) : gS → Option (Int32 × gS) := match c with
  | 0 => f_X10_isE_9 R.1 R.2.1 R.2.2.1 R.2.2.2.1 R.2.2.2.2.1 R.2.2.2.2.2 f
  | 1 => f_X10_isA_9 R.1 R.2.1 R.2.2.1 R.2.2.2.1 R.2.2.2.2.1 R.2.2.2.2.2 f
  | 2 => loB R
  | 3 => f_X10_isS_9 R.1 R.2.1 R.2.2.1 R.2.2.2.1 R.2.2.2.2.1 R.2.2.2.2.2 f
  | _ => f_X10_isP_9 R.1 R.2.1 R.2.2.1 R.2.2.2.1 R.2.2.2.2.1 R.2.2.2.2.2 f
def TT (c e : Nat) : gS → Option (Int32 × gS) := TTm c (fR_X10_isA (e + (5 - c)))
def lo (c e f : Nat) : gS → Option (Int32 × gS) := loM c (fR_X10_isA (e + (4 - c))) f
theorem fR_s (d : Nat) : fR_X10_isA (d + 1) = (F_X10_isA ((fR_X10_isA d).1) ((fR_X10_isA d).2.1) ((fR_X10_isA d).2.2.1) ((fR_X10_isA d).2.2.2.1) ((fR_X10_isA d).2.2.2.2.1) ((fR_X10_isA d).2.2.2.2.2), F_X10_isB ((fR_X10_isA d).1) ((fR_X10_isA d).2.1) ((fR_X10_isA d).2.2.1) ((fR_X10_isA d).2.2.2.1) ((fR_X10_isA d).2.2.2.2.1) ((fR_X10_isA d).2.2.2.2.2), F_X10_isE ((fR_X10_isA d).1) ((fR_X10_isA d).2.1) ((fR_X10_isA d).2.2.1) ((fR_X10_isA d).2.2.2.1) ((fR_X10_isA d).2.2.2.2.1) ((fR_X10_isA d).2.2.2.2.2), F_X10_isO ((fR_X10_isA d).1) ((fR_X10_isA d).2.1) ((fR_X10_isA d).2.2.1) ((fR_X10_isA d).2.2.2.1) ((fR_X10_isA d).2.2.2.2.1) ((fR_X10_isA d).2.2.2.2.2), F_X10_isP ((fR_X10_isA d).1) ((fR_X10_isA d).2.1) ((fR_X10_isA d).2.2.1) ((fR_X10_isA d).2.2.2.1) ((fR_X10_isA d).2.2.2.2.1) ((fR_X10_isA d).2.2.2.2.2), F_X10_isS ((fR_X10_isA d).1) ((fR_X10_isA d).2.1) ((fR_X10_isA d).2.2.1) ((fR_X10_isA d).2.2.2.1) ((fR_X10_isA d).2.2.2.2.1) ((fR_X10_isA d).2.2.2.2.2)) := rfl
theorem Fb_0 (R : R6) (σ : gS) : F_X10_isE R.1 R.2.1 R.2.2.1 R.2.2.2.1 R.2.2.2.2.1 R.2.2.2.2.2 σ = bnd (TTm 1 R σ) (loM 0 R gN) := by
  unfold F_X10_isE bnd loM TTm
  generalize gN = n
  rfl
theorem Fb_1 (R : R6) (σ : gS) : F_X10_isA R.1 R.2.1 R.2.2.1 R.2.2.2.1 R.2.2.2.2.1 R.2.2.2.2.2 σ = bnd (TTm 2 R σ) (loM 1 R gN) := by
  unfold F_X10_isA bnd loM TTm
  generalize gN = n
  rfl
theorem Fb_2 (R : R6) (σ : gS) : F_X10_isB R.1 R.2.1 R.2.2.1 R.2.2.2.1 R.2.2.2.2.1 R.2.2.2.2.2 σ = bnd (TTm 3 R σ) (loM 2 R gN) := by
  unfold F_X10_isB bnd loM TTm loB
  generalize gN = n
  rfl
theorem Fb_3 (R : R6) (σ : gS) : F_X10_isS R.1 R.2.1 R.2.2.1 R.2.2.2.1 R.2.2.2.2.1 R.2.2.2.2.2 σ = bnd (TTm 4 R σ) (loM 3 R gN) := by
  unfold F_X10_isS bnd loM TTm
  generalize gN = n
  rfl
theorem Fb_4 (R : R6) (σ : gS) : F_X10_isP R.1 R.2.1 R.2.2.1 R.2.2.2.1 R.2.2.2.2.1 R.2.2.2.2.2 σ = bnd (TTm 5 R σ) (loM 4 R gN) := by
  unfold F_X10_isP bnd loM TTm
  generalize gN = n
  rfl
theorem TT_s {c : Nat} (h : c ≤ 4) (e : Nat) (σ : gS) : TT c e σ = bnd (TT (c + 1) e σ) (lo c e gN) := by
  unfold TT lo
  rcases (show c = 0 ∨ c = 1 ∨ c = 2 ∨ c = 3 ∨ c = 4 by omega) with rfl | rfl | rfl | rfl | rfl
  · rw [show e + (5 - 0) = (e + (4 - 0)) + 1 by omega, show e + (5 - (0 + 1)) = e + (4 - 0) by omega, fR_s]
    exact Fb_0 _ σ
  · rw [show e + (5 - 1) = (e + (4 - 1)) + 1 by omega, show e + (5 - (1 + 1)) = e + (4 - 1) by omega, fR_s]
    exact Fb_1 _ σ
  · rw [show e + (5 - 2) = (e + (4 - 2)) + 1 by omega, show e + (5 - (2 + 1)) = e + (4 - 2) by omega, fR_s]
    exact Fb_2 _ σ
  · rw [show e + (5 - 3) = (e + (4 - 3)) + 1 by omega, show e + (5 - (3 + 1)) = e + (4 - 3) by omega, fR_s]
    exact Fb_3 _ σ
  · rw [show e + (5 - 4) = (e + (4 - 4)) + 1 by omega, show e + (5 - (4 + 1)) = e + (4 - 4) by omega, fR_s]
    exact Fb_4 _ σ
def lvI (c : Int) : Int := if c = 37 then 4 else if c = 38 then 1 else if c = 42 then 4 else if c = 43 then 3 else if c = 45 then 3 else if c = 47 then 4 else if c = 60 then 2 else if c = 61 then 2 else if c = 62 then 2 else if c = 124 then 0 else -1
def tkI (c : Int) : Nat := if c = 37 then 15 else if c = 38 then 7 else if c = 42 then 13 else if c = 43 then 11 else if c = 45 then 12 else if c = 47 then 14 else if c = 60 then 8 else if c = 61 then 9 else if c = 62 then 10 else 6
theorem lv_k : ∀ n : Nat, n < 257 → f_X4_bindingOf gZ (iI ((n : Int) - 1)) = some (iI (lvI ((n : Int) - 1))) := by decide +kernel
theorem s_lv (σ : gS) {c : Int} (h1 : -1 ≤ c) (h2 : c ≤ 255) : f_X4_bindingOf σ (iI c) = some (iI (lvI c)) := by
  have k := lv_k (c + 1).toNat (by omega)
  rw [show (((c + 1).toNat : Nat) : Int) - 1 = c by omega] at k
  exact k
theorem lv_r (c : Int) : -1 ≤ lvI c ∧ lvI c ≤ 4 := by
  unfold lvI
  (repeat' split) <;> omega
theorem tk_k : ∀ n : Nat, n < 256 → 0 ≤ lvI n → (6 ≤ tkI n ∧ tkI n ≤ 15 ∧ sgz (tkI n) = n) := by decide +kernel
theorem lv_neq {c : Int} {v : Int} (h1 : -1 ≤ c) (h2 : c ≤ 255) (h3 : 0 ≤ v) (h4 : v ≤ 255) (h : ¬ c = v) : ¬ iI c = iI v := by
  rw [iI_eq (by omega) (by omega) (by omega) (by omega)]
  exact h
theorem cod1 {σ : gS} {t : Int32} {q : Int32 × gS} (h : f_X10_codes σ t = some q) : q.1 = 1 := by
  unfold f_X10_codes at h
  rw [gl_e, gl_e] at h
  cases hb : inb (σ.1 0 16) 200 with
  | false =>
    rw [hb] at h
    exact absurd h (by simp [gk])
  | true =>
    rw [hb] at h
    have h : some ((1 : Int32), _) = some q := h
    rw [← Option.some.inj h]
theorem lo_no {c e f : Nat} {σ : gS} {v : Int} (hc : c ≤ 4) (hs : f_X10_sign σ = some (iI v)) (h1 : -1 ≤ v) (h2 : v ≤ 255) (hl : ¬ lvI v = c) : lo c e (f + 1) σ = some (iI 1, σ) := by
  rcases (show c = 0 ∨ c = 1 ∨ c = 2 ∨ c = 3 ∨ c = 4 by omega) with rfl | rfl | rfl | rfl | rfl
  · have g : ¬ iI v = 124 := lv_neq h1 h2 (v := 124) (by omega) (by omega) (fun h => hl (by rw [h]; rfl))
    show f_X10_isE_9 _ _ _ _ _ _ (f + 1) σ = _
    rw [f_X10_isE_9]
    unfold f_X10_is
    rw [hs, b_some, if_neg g]
    rfl
  · have g : ¬ iI v = 38 := lv_neq h1 h2 (v := 38) (by omega) (by omega) (fun h => hl (by rw [h]; rfl))
    show f_X10_isA_9 _ _ _ _ _ _ (f + 1) σ = _
    rw [f_X10_isA_9]
    unfold f_X10_is
    rw [hs, b_some, if_neg g]
    rfl
  · have g : ¬ iI v = 60 := lv_neq h1 h2 (v := 60) (by omega) (by omega) (fun h => hl (by rw [h]; rfl))
    have g2 : ¬ iI v = 61 := lv_neq h1 h2 (v := 61) (by omega) (by omega) (fun h => hl (by rw [h]; rfl))
    have g3 : ¬ iI v = 62 := lv_neq h1 h2 (v := 62) (by omega) (by omega) (fun h => hl (by rw [h]; rfl))
    show loB _ σ = _
    unfold loB
    rw [hs, b_some, if_neg g, b_some, if_neg g2, b_some, if_neg g3]
    rfl
  · have g : ¬ iI v = 43 := lv_neq h1 h2 (v := 43) (by omega) (by omega) (fun h => hl (by rw [h]; rfl))
    have g2 : ¬ iI v = 45 := lv_neq h1 h2 (v := 45) (by omega) (by omega) (fun h => hl (by rw [h]; rfl))
    show f_X10_isS_9 _ _ _ _ _ _ (f + 1) σ = _
    rw [f_X10_isS_9, hs, b_some, if_neg g, b_some, if_neg g2]
    rfl
  · have g : ¬ iI v = 42 := lv_neq h1 h2 (v := 42) (by omega) (by omega) (fun h => hl (by rw [h]; rfl))
    have g2 : ¬ iI v = 47 := lv_neq h1 h2 (v := 47) (by omega) (by omega) (fun h => hl (by rw [h]; rfl))
    have g3 : ¬ iI v = 37 := lv_neq h1 h2 (v := 37) (by omega) (by omega) (fun h => hl (by rw [h]; rfl))
    show f_X10_isP_9 _ _ _ _ _ _ (f + 1) σ = _
    rw [f_X10_isP_9, hs, b_some, if_neg g, b_some, if_neg g2, b_some, if_neg g3]
    rfl
theorem lv_4 {v : Int} (h : lvI v = 4) : v = 42 ∨ v = 47 ∨ v = 37 := by
  unfold lvI at h
  (repeat' split at h) <;> omega
theorem lv_3 {v : Int} (h : lvI v = 3) : v = 43 ∨ v = 45 := by
  unfold lvI at h
  (repeat' split at h) <;> omega
theorem lv_2 {v : Int} (h : lvI v = 2) : v = 60 ∨ v = 61 ∨ v = 62 := by
  unfold lvI at h
  (repeat' split at h) <;> omega
theorem lv_1 {v : Int} (h : lvI v = 1) : v = 38 := by
  unfold lvI at h
  (repeat' split at h) <;> omega
theorem lv_0 {v : Int} (h : lvI v = 0) : v = 124 := by
  unfold lvI at h
  (repeat' split at h) <;> omega
theorem loB_s (R : R6) (t : Int32) (ht : (0 : Int32) ≤ t) (σ : gS) : f_X10_isB_52 R.1 R.2.1 R.2.2.1 R.2.2.2.1 R.2.2.2.2.1 R.2.2.2.2.2 t σ = bnd (R.2.2.2.2.2 (pI σ 0 14 ((σ.1 0 14) + 1))) (fun s => (f_X10_codes s t).bind fun q => some (iI 1, q.2)) := by
  unfold f_X10_isB_52
  rw [if_pos ht, gl_e]
  unfold bnd
  congr 1
  funext q
  by_cases c : q.1 = 0
  · rw [if_pos c, if_pos c]
  · rw [if_neg c, if_neg c]
    show ((f_X10_codes q.2 t).bind _) = (f_X10_codes q.2 t).bind _
    cases h : f_X10_codes q.2 t with
    | none => rfl
    | some p =>
      rw [b_some, b_some, cod1 h]
      rfl
theorem lo_op {c e f : Nat} {σ : gS} {v : Int} (hc : c ≤ 4) (hs : f_X10_sign σ = some (iI v)) (hl : lvI v = c) : lo c e (f + 1) σ = bnd (TT (c + 1) e (pI σ 0 14 ((σ.1 0 14) + 1))) (fun s => (f_X10_codes s (iI (tkI v))).bind fun q => if c = 2 then some (iI 1, q.2) else lo c e f q.2) := by
  rcases (show c = 0 ∨ c = 1 ∨ c = 2 ∨ c = 3 ∨ c = 4 by omega) with rfl | rfl | rfl | rfl | rfl
  · have g := lv_0 hl
    subst g
    show f_X10_isE_9 _ _ _ _ _ _ (f + 1) σ = _
    rw [f_X10_isE_9]
    unfold f_X10_is
    rw [hs, b_some, if_pos (show iI 124 = 124 from rfl)]
    rfl
  · have g := lv_1 hl
    subst g
    show f_X10_isA_9 _ _ _ _ _ _ (f + 1) σ = _
    rw [f_X10_isA_9]
    unfold f_X10_is
    rw [hs, b_some, if_pos (show iI 38 = 38 from rfl)]
    rfl
  · show loB _ σ = _
    unfold loB
    rcases lv_2 hl with g | g | g <;> subst g
    · rw [hs, b_some, if_pos (show iI 60 = 60 from rfl), loB_s _ _ (by decide)]
      rfl
    · rw [hs, b_some, if_neg (show ¬ iI 61 = 60 by decide), b_some, if_pos (show iI 61 = 61 from rfl), loB_s _ _ (by decide)]
      rfl
    · rw [hs, b_some, if_neg (show ¬ iI 62 = 60 by decide), b_some, if_neg (show ¬ iI 62 = 61 by decide), b_some, if_pos (show iI 62 = 62 from rfl), loB_s _ _ (by decide)]
      rfl
  · show f_X10_isS_9 _ _ _ _ _ _ (f + 1) σ = _
    rw [f_X10_isS_9]
    unfold f_X10_isS_38
    rcases lv_3 hl with g | g <;> subst g
    · rw [hs, b_some, if_pos (show iI 43 = 43 from rfl), if_pos (show (0 : Int32) ≤ 11 by decide)]
      rfl
    · rw [hs, b_some, if_neg (show ¬ iI 45 = 43 by decide), b_some, if_pos (show iI 45 = 45 from rfl), if_pos (show (0 : Int32) ≤ 12 by decide)]
      rfl
  · show f_X10_isP_9 _ _ _ _ _ _ (f + 1) σ = _
    rw [f_X10_isP_9]
    unfold f_X10_isP_52
    rcases lv_4 hl with g | g | g <;> subst g
    · rw [hs, b_some, if_pos (show iI 42 = 42 from rfl), if_pos (show (0 : Int32) ≤ 13 by decide)]
      rfl
    · rw [hs, b_some, if_neg (show ¬ iI 47 = 42 by decide), b_some, if_pos (show iI 47 = 47 from rfl), if_pos (show (0 : Int32) ≤ 14 by decide)]
      rfl
    · rw [hs, b_some, if_neg (show ¬ iI 37 = 42 by decide), b_some, if_neg (show ¬ iI 37 = 47 by decide), b_some, if_pos (show iI 37 = 37 from rfl), if_pos (show (0 : Int32) ≤ 15 by decide)]
      rfl
def RN (b e : Nat) (F : Nat → Nat) : Nat → gS → Option (Int32 × gS)
  | 0, σ => some (iI 1, σ)
  | M + 1, σ => if M < b then some (iI 1, σ) else if M = b then lo b e (F b) σ else bnd (lo M e (F M) σ) (RN b e F M)
theorem RN_F {b e : Nat} {F G : Nat → Nat} : ∀ M : Nat, (∀ c, c < M → F c = G c) → RN b e F M = RN b e G M := by
  intro M
  induction M with
  | zero => intro _; rfl
  | succ M ih =>
    intro h
    funext σ
    rw [RN, RN, ih (fun c hc => h c (by omega))]
    by_cases c1 : M < b
    · rw [if_pos c1, if_pos c1]
    · by_cases c2 : M = b
      · rw [if_neg c1, if_neg c1, if_pos c2, if_pos c2, h b (by omega)]
      · rw [if_neg c1, if_neg c1, if_neg c2, if_neg c2, h M (by omega)]
theorem TT_no {b e : Nat} (hb : b ≤ 5) {m w : gS} (h : TT 5 e m = some (iI 0, w)) : TT b e m = some (iI 0, w) := by
  have h4 : TT 4 e m = some (iI 0, w) := by rw [TT_s (by omega), h, bnd_0]
  have h3 : TT 3 e m = some (iI 0, w) := by rw [TT_s (by omega), h4, bnd_0]
  have h2 : TT 2 e m = some (iI 0, w) := by rw [TT_s (by omega), h3, bnd_0]
  have h1 : TT 1 e m = some (iI 0, w) := by rw [TT_s (by omega), h2, bnd_0]
  have h0 : TT 0 e m = some (iI 0, w) := by rw [TT_s (by omega), h1, bnd_0]
  rcases (show b = 0 ∨ b = 1 ∨ b = 2 ∨ b = 3 ∨ b = 4 ∨ b = 5 by omega) with rfl | rfl | rfl | rfl | rfl | rfl <;> assumption
theorem TT_ok {b e : Nat} (hb : b ≤ 5) {m w : gS} (h : TT 5 e m = some (iI 1, w)) : TT b e m = RN b e (fun _ => gN) 5 w := by
  have h4 : TT 4 e m = lo 4 e gN w := by rw [TT_s (by omega), h, bnd_1]
  have h3 : TT 3 e m = bnd (lo 4 e gN w) (lo 3 e gN) := by rw [TT_s (by omega), h4]
  have h2 : TT 2 e m = bnd (lo 4 e gN w) (fun s => bnd (lo 3 e gN s) (lo 2 e gN)) := by rw [TT_s (by omega), h3, bnd_a]
  have h1 : TT 1 e m = bnd (lo 4 e gN w) (fun s => bnd (lo 3 e gN s) (fun s => bnd (lo 2 e gN s) (lo 1 e gN))) := by
    rw [TT_s (by omega), h2]
    simp only [bnd_a]
  have h0 : TT 0 e m = bnd (lo 4 e gN w) (fun s => bnd (lo 3 e gN s) (fun s => bnd (lo 2 e gN s) (fun s => bnd (lo 1 e gN s) (lo 0 e gN)))) := by
    rw [TT_s (by omega), h1]
    simp only [bnd_a]
  rcases (show b = 0 ∨ b = 1 ∨ b = 2 ∨ b = 3 ∨ b = 4 ∨ b = 5 by omega) with rfl | rfl | rfl | rfl | rfl | rfl
  · exact h0
  · exact h1
  · exact h2
  · exact h3
  · exact h4
  · exact h
