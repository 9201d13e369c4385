/-! ===== what the two states have in common ===== -/
def loW (w : Nat) : Int := if w = 3 then 1 else if w = 6 then 1 else 0
def hiW (w : Nat) : Int := if w = 2 then 9 else if w = 3 then 999 else if w = 6 then 9 else if w = 7 then 9 else 15
def rgW (w : Nat) (x : Int32) : Prop := ∃ a : Int, x = iI a ∧ loW w ≤ a ∧ a ≤ hiW w
/-- the posts and the ways -/
def RP (n : Nat) (sz : Int32) (td : Nat → Int32) (mn : Int32) (px py wo du wa : Nat → Int32) : Prop :=
  n ≤ 9 ∧ sz = iI n ∧ mn = iI n ∧ (∀ p, p < n → px p = td (4 * p) ∧ py p = td (4 * p + 1) ∧ wo p = td (4 * p + 2) ∧ du p = td (4 * p + 3)) ∧ (wa 0 = td 36 ∧ wa 1 = td 37 ∧ wa 2 = td 38 ∧ wa 3 = td 39) ∧ (∀ p, p < n → rgW 0 (td (4 * p)) ∧ rgW 1 (td (4 * p + 1)) ∧ rgW 2 (td (4 * p + 2)) ∧ rgW 3 (td (4 * p + 3))) ∧ rgW 4 (td 36) ∧ rgW 5 (td 37) ∧ rgW 6 (td 38) ∧ rgW 7 (td 39)
/-- the changes -/
def RC (n : Nat) (dn sz : Int32) (pl ws bc : Nat → Int32) (mc md : Int32) (ch : Nat → Int32) : Prop :=
  ∃ d c : Nat, d ≤ c ∧ c ≤ 40 ∧ dn = iI d ∧ md = iI d ∧ sz = iI c ∧ mc = iI c ∧ ∀ i, i < c → ws i = ch (4 * i + 2) ∧ bc i = ch (4 * i + 3) ∧ ∃ p w : Nat, w ≤ 7 ∧ (w ≤ 3 → p < n) ∧ (4 ≤ w → p = 0) ∧ ch (4 * i) = iI p ∧ ch (4 * i + 1) = iI w ∧ pl i = iI (if w ≤ 3 then 4 * (p : Int) + w else 32 + w) ∧ rgW w (ch (4 * i + 2)) ∧ rgW w (ch (4 * i + 3))
/-- the tape -/
def RT (fd : Int32) (tp : Nat → Int32) (mf : Int32) (mp : Nat → Int32) : Prop :=
  ∃ a : Nat, a ≤ 120 ∧ fd = iI a ∧ mf = iI a ∧ ∀ i, i < a → mp i = tp i ∧ ∃ b : Nat, b ≤ 255 ∧ tp i = iI b
/-- the deeds: at, now, walked, dents, stood, waited, and the rows by posts -/
def RD (n : Nat) (at_ nw wk dn sd wt : Int32) (dt : Nat → Int32) (ms mn : Int32) (md ml : Nat → Int32) : Prop :=
  (∃ p : Nat, (p < n ∧ at_ = iI p ∧ ms = iI p) ∨ (p = 9 ∧ at_ = iI 9 ∧ ms = iI (-1))) ∧ (∃ a : Nat, a ≤ 9999 ∧ nw = iI a ∧ mn = iI a) ∧ (ml 0 = wk ∧ ml 1 = dn ∧ ml 2 = sd ∧ ml 3 = wt) ∧ (∀ i, i < 9 → md i = dt i) ∧ (∀ i, n ≤ i → i < 9 → dt i = iI 0)
/-- the image -/
def RI (n : Nat) (hi : Int32) (at_ nw wk dn sd wt : Int32) (dt : Nat → Int32) (mi mo ms mn : Int32) (md ml : Nat → Int32) : Prop :=
  (hi = iI 0 ∧ mi = iI 0) ∨ (hi = iI 1 ∧ mi = iI 1 ∧ ∃ o : Nat, o ≤ n ∧ mo = iI o ∧ RD o at_ nw wk dn sd wt dt ms mn md ml)
/-- the keys -/
def RK (nb : Nat) (sz rn : Int32) (kn ra : Nat → Int32) (mb mt : Int32) (mk mr : Nat → Int32) : Prop :=
  nb ≤ 50 ∧ sz = iI nb ∧ mb = iI nb ∧ (∀ i, i < nb → mk i = kn i ∧ ∃ b : Nat, b ≤ 7 ∧ kn i = iI b) ∧ ∃ r : Nat, r ≤ 1000 ∧ rn = iI r ∧ mt = iI r ∧ ∀ i, i < r → i < 24 → mr i = ra i
def lL (a : Int) : Int64 := Int64.ofInt a
/-- one shelf -/
def RS (nb : Nat) (hd ky so sz : Int32) (ce : Nat → Int64) (mh ml : Int32) (mr : Nat → Int64) : Prop :=
  ((hd = iI 0 ∧ mh = iI (-1) ∧ sz = iI 0 ∧ ml = iI 0) ∨ (∃ b : Nat, b < nb ∧ hd = iI 1 ∧ ky = iI b ∧ mh = iI (10 + b) ∧ sz = iI 0 ∧ ml = iI 0) ∨ (∃ q k : Nat, q ≤ 4 ∧ k ≤ 60 ∧ hd = iI 2 ∧ so = iI q ∧ mh = iI q ∧ sz = iI k ∧ ml = iI k ∧ ∀ i, i < k → (q = 0 → ∃ a : Int, ce i = lL a ∧ -128 ≤ a ∧ a ≤ 127) ∧ (q = 1 → ∃ a : Int, ce i = lL a ∧ -32768 ≤ a ∧ a ≤ 32767))) ∧ ∀ i, i < 60 → mr i = ce i
def RSs (nb : Nat) (x1 : Nat → Nat → Int32) (x2 : Nat → Nat → Int64) (mh ml : Nat → Int32) (mr : Nat → Int64) : Prop :=
  ∀ k, k < 6 → RS nb (x1 (14 + 2 * k) 1) (x1 (14 + 2 * k) 2) (x1 (14 + 2 * k) 3) (x1 (14 + 2 * k) 4) (x2 (15 + 2 * k)) (mh k) (ml k) (fun i => mr (60 * k + i))
/-- all, but for the law, whose relation is L -/
def Rel0 (n nb : Nat) (x m : gS) : Prop :=
  RP n (x.1 1 1) (x.1 2) (m.1 0 0) (m.1 1) (m.1 2) (m.1 3) (m.1 4) (m.1 5) ∧ RC n (x.1 3 3) (x.1 3 4) (x.1 4) (x.1 5) (x.1 6) (m.1 0 34) (m.1 0 35) (m.1 21) ∧ RT (x.1 7 9) (x.1 8) (m.1 0 6) (m.1 6) ∧ RD n (x.1 37 1) (x.1 37 2) (x.1 37 3) (x.1 37 4) (x.1 37 5) (x.1 37 6) (x.1 38) (m.1 0 24) (m.1 0 25) (m.1 17) (m.1 18) ∧ RI n (x.1 0 14) (x.1 39 1) (x.1 39 2) (x.1 39 3) (x.1 39 4) (x.1 39 5) (x.1 39 6) (x.1 40) (m.1 0 28) (m.1 0 29) (m.1 0 30) (m.1 0 31) (m.1 19) (m.1 20) ∧ RK nb (x.1 41 2) (x.1 41 3) (x.1 42) (x.1 43) (m.1 0 37) (m.1 0 39) (m.1 22) (m.1 23) ∧ RSs nb x.1 x.2 (m.1 24) (m.1 25) (m.2 26)
def Rel1 (L : (Int32 → (Nat → Int32) → Int32 → Int32 → (Nat → Int32) → (Nat → Int32) → (Nat → Int32) → (Nat → Int32) → Prop)) (x m : gS) : Prop :=
  (∃ n nb : Nat, Rel0 n nb x m) ∧ L (x.1 7 6) (x.1 10) (m.1 0 8) (m.1 0 9) (m.1 7) (m.1 8) (m.1 9) (m.1 10)
abbrev LawT : Type := Int32 → (Nat → Int32) → Int32 → Int32 → (Nat → Int32) → (Nat → Int32) → (Nat → Int32) → (Nat → Int32) → Prop
