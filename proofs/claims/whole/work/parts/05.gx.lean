/-! ===== a world by its shape: cells at addresses ad 0, ad 1 ..; what they hold is a state σ (ints, longs, by cell and place) ===== -/
abbrev gS : Type := (Nat → Nat → Int32) × (Nat → Nat → Int64)
/-- a cell: a row of numbers (0 ints, 1 longs, 2 booleans; its length), an object (its number in vwCl; per field the cell that it refers to, or none: a number), a row of references -/
abbrev gKd : Type := (Nat × Nat) ⊕ (Nat × List (Option Nat)) ⊕ (List Nat)
abbrev gT : Type := ClassId × ClassId × ClassId × ClassId
def pA (σ : gS) (k : Nat) (f : Nat → Int32) : gS := (fun k' => if k' = k then f else σ.1 k', σ.2)
def pB (σ : gS) (k : Nat) (f : Nat → Int64) : gS := (σ.1, fun k' => if k' = k then f else σ.2 k')
def pI (σ : gS) (k j : Nat) (v : Int32) : gS := pA σ k (upd (σ.1 k) j v)
def pL (σ : gS) (k j : Nat) (v : Int64) : gS := pB σ k (vp_updL (σ.2 k) j v)
theorem pA_s {σ : gS} {k : Nat} {f : Nat → Int32} : (pA σ k f).1 k = f := by simp [pA]
theorem pB_s {σ : gS} {k : Nat} {f : Nat → Int64} : (pB σ k f).2 k = f := by simp [pB]
def gFs (ad : Nat → Nat) (f : Nat → Int32) (sl : List (Option Nat)) : List Value := sl.mapIdx (fun j o => match o with | some q => .ref (ad q) | none => .int (f j))
def gE (t : gT) (ad : Nat → Nat) (f : Nat → Int32) (g : Nat → Int64) : gKd → va_E
  | .inl (0, n) => .inl (t.1, n, .inl f)
  | .inl (1, n) => .inl (t.2.1, n, .inr (.inl g))
  | .inl (_ + 2, n) => .inl (t.2.2.1, n, .inl f)
  | .inr (.inl (ci, sl)) => .inr (ci, gFs ad f sl)
  | .inr (.inr ts) => .inl (t.2.2.2, ts.length, .inr (.inr (.inr (.inr (fun i => (ts[i]?).map ad)))))
def gW (sh : List gKd) (t : gT) (ad : Nat → Nat) (σ : gS) : va_W := sh.mapIdx (fun k kd => (ad k, gE t ad (σ.1 k) (σ.2 k) kd))
def gA (sh : List gKd) (ad : Nat → Nat) : Nat → Prop := fun q => ∃ k, k < sh.length ∧ ad k = q
def gJ (sh : List gKd) (ad : Nat → Nat) : Prop := ∀ i j, i < sh.length → j < sh.length → ad i = ad j → i = j
def gTy (t : gT) : List (ClassId × FieldType) := [(t.1, .int), (t.2.1, .long), (t.2.2.1, .boolean), (t.2.2.2, .object "NineKeysRound$Shelf")]
theorem gW_get {sh : List gKd} {t : gT} {ad : Nat → Nat} {σ : gS} {k : Nat} {kd : gKd} (h : sh[k]? = some kd) : (gW sh t ad σ)[k]? = some (ad k, gE t ad (σ.1 k) (σ.2 k) kd) := by
  simp [gW, List.getElem?_mapIdx, h]
theorem gW_len {sh : List gKd} {t : gT} {ad : Nat → Nat} {σ : gS} : (gW sh t ad σ).length = sh.length := by simp [gW]
theorem gW_at {sh : List gKd} {t : gT} {ad : Nat → Nat} {σ : gS} {k : Nat} {q : Nat × va_E} (h : (gW sh t ad σ)[k]? = some q) : k < sh.length ∧ q.1 = ad k := by
  have h2 := h
  rw [gW, List.getElem?_mapIdx] at h2
  cases hk : sh[k]? with
  | none => rw [hk] at h2; cases h2
  | some kd => rw [hk] at h2; cases h2; exact ⟨(List.getElem?_eq_some_iff.mp hk).1, rfl⟩
theorem gW_set {sh : List gKd} {t : gT} {ad : Nat → Nat} {σ σ2 : gS} {k : Nat} {kd : gKd} (h : sh[k]? = some kd) (ho : ∀ i, i ≠ k → σ2.1 i = σ.1 i ∧ σ2.2 i = σ.2 i) : (gW sh t ad σ).set k (ad k, gE t ad (σ2.1 k) (σ2.2 k) kd) = gW sh t ad σ2 := by
  apply List.ext_getElem?
  intro i
  by_cases hi : i = k
  · subst hi
    have hl : i < (gW sh t ad σ).length := by rw [gW_len]; exact (List.getElem?_eq_some_iff.mp h).1
    rw [List.getElem?_set_self hl, gW_get h]
  · rw [List.getElem?_set_ne (fun q => hi q.symm), gW, gW, List.getElem?_mapIdx, List.getElem?_mapIdx, (ho i hi).1, (ho i hi).2]
theorem gW_A {sh : List gKd} {t : gT} {ad : Nat → Nat} {σ : gS} {k : Nat} {kd : gKd} {f : Nat → Int32} (h : sh[k]? = some kd) : (gW sh t ad σ).set k (ad k, gE t ad f (σ.2 k) kd) = gW sh t ad (pA σ k f) := by
  have e := gW_set (t := t) (ad := ad) (σ := σ) (σ2 := pA σ k f) h (fun i hi => ⟨by simp [pA, hi], rfl⟩)
  rw [pA_s] at e
  exact e
theorem gW_B {sh : List gKd} {t : gT} {ad : Nat → Nat} {σ : gS} {k : Nat} {kd : gKd} {f : Nat → Int64} (h : sh[k]? = some kd) : (gW sh t ad σ).set k (ad k, gE t ad (σ.1 k) f kd) = gW sh t ad (pB σ k f) := by
  have e := gW_set (t := t) (ad := ad) (σ := σ) (σ2 := pB σ k f) h (fun i hi => ⟨rfl, by simp [pB, hi]⟩)
  rw [pB_s] at e
  exact e
theorem gD {sh : List gKd} {t : gT} {ad : Nat → Nat} {σ : gS} (hJ : gJ sh ad) : va_D (gA sh ad) (gW sh t ad σ) := by
  refine ⟨fun i j p q hp hq e => ?_, fun k q hq => ?_⟩
  · obtain ⟨h1, h2⟩ := gW_at hp
    obtain ⟨h3, h4⟩ := gW_at hq
    exact hJ i j h1 h3 (by rw [← h2, ← h4]; exact e)
  · obtain ⟨h1, h2⟩ := gW_at hq
    exact ⟨k, h1, h2.symm⟩
theorem gFs_get {ad : Nat → Nat} {f : Nat → Int32} {sl : List (Option Nat)} {j : Nat} (h : sl[j]? = some none) : (gFs ad f sl)[j]? = some (.int (f j)) := by simp [gFs, List.getElem?_mapIdx, h]
theorem gFs_ref {ad : Nat → Nat} {f : Nat → Int32} {sl : List (Option Nat)} {j q : Nat} (h : sl[j]? = some (some q)) : (gFs ad f sl)[j]? = some (.ref (ad q)) := by simp [gFs, List.getElem?_mapIdx, h]
theorem gFs_len {ad : Nat → Nat} {f : Nat → Int32} {sl : List (Option Nat)} : (gFs ad f sl).length = sl.length := by simp [gFs]
theorem gFs_set {ad : Nat → Nat} {f : Nat → Int32} {sl : List (Option Nat)} {j : Nat} {v : Int32} (h : sl[j]? = some none) : (gFs ad f sl).set j (.int v) = gFs ad (upd f j v) sl := by
  apply List.ext_getElem?
  intro i
  by_cases hi : i = j
  · subst hi
    have hl : i < (gFs ad f sl).length := by rw [gFs_len]; exact (List.getElem?_eq_some_iff.mp h).1
    rw [List.getElem?_set_self hl, gFs_get h]
    simp [upd]
  · rw [List.getElem?_set_ne (fun q => hi q.symm), gFs, gFs, List.getElem?_mapIdx, List.getElem?_mapIdx]
    cases sl[i]? with
    | none => rfl
    | some o => cases o <;> simp [upd, hi]
/-- the tests of the functions -/
def inb (i : Int32) (n : Nat) : Bool := decide (0 ≤ i.toInt) && decide (i.toInt < n)
theorem inb_in {i : Int32} {n : Nat} (h : inb i n = true) : vp_in i n := by
  simp [inb] at h
  exact vp_in_iff.mpr h
def gk {α : Type} (b : Bool) (k : Option α) : Option α := if b then k else none
theorem gk_some {α : Type} {b : Bool} {k : Option α} {r : α} (h : gk b k = some r) : b = true ∧ k = some r := by
  cases b with
  | false => simp [gk] at h
  | true => exact ⟨rfl, by simpa [gk] using h⟩
def gl {α β : Type} (x : α) (k : α → β) : β := k x
theorem bind_some' {α β : Type} {x : Option α} {k : α → Option β} {r : β} (h : x.bind k = some r) : ∃ a, x = some a ∧ k a = some r := by
  cases x with
  | none => simp at h
  | some a => exact ⟨a, rfl, h⟩
/-- the static tables: class, name, what they hold -/
def zLEAST : List Int32 := [0, 0, 0, 1, 0, 0, 1, 0]
def zMOST : List Int32 := [15, 15, 9, 999, 15, 15, 9, 9]
def zABOVE : List Int32 := [-1, 0, 0, 2, 1, 3, 0, 4]
def zBODIES : List Int32 := [1, 10, 11, 2, 20, 0, 0, 0, 0, 30, 0, 0, 0, 41, 40, 0, 0, 0, 50, 0, 0, 0, 0, 60, 70, 0, 0, 0, 0, 80, 0, 81]
def zTab : List (String × String × List Int32) := [("NineKeysRound$Yard", "LEAST", zLEAST), ("NineKeysRound$Yard", "MOST", zMOST), ("NineKeysRound$Keys", "ABOVE", zABOVE), ("NineKeysRound$Keys", "BODIES", zBODIES)]
/-- the names' text, and what String's own methods read -/
def zNAMES : List Int32 := [118, 117, 109, 100, 112, 110]
def gStr (z : Nat → Nat) (A : Nat → Prop) (U : State) (H : Heap) : Prop := vk_R "NineKeysRound$Law" 80 "vumdpn" (z 4) U ∧ vk_S 1 [6] [zNAMES] (fun _ => z 4) (fun _ => z 5) A U H ∧ va_Z "java/lang/String" "COMPACT_STRINGS" "Z" (.int 1) A U H
def gZs (z : Nat → Nat) (A : Nat → Prop) (U : State) (H : Heap) : Prop := (∀ (i : Nat) (q : String × String × List Int32), zTab[i]? = some q → va_Z q.1 q.2.1 "[I" (.ref (z i)) A U H ∧ va_T .int (z i) q.2.2.length (fun j => .int (q.2.2.getD j 0)) A U H) ∧ gStr z A U H
theorem gZs.warm {z : Nat → Nat} {A : Nat → Prop} {s U : State} {H : Heap} (hW : s.WarmedH U.vm) (h : gZs z A s H) : gZs z A U H := ⟨fun i q hq => ⟨(h.1 i q hq).1.moved hW.alike, (h.1 i q hq).2.moved hW.alike⟩, h.2.1.warm hW, h.2.2.1.moved hW.alike, h.2.2.2.moved hW.alike⟩
theorem gZs.same {z : Nat → Nat} {A : Nat → Prop} {u U : State} {H : Heap} (hv : U.vm = u.vm) (h : gZs z A u H) : gZs z A U H := ⟨fun i q hq => ⟨(h.1 i q hq).1.moved (hv ▸ Vm.Alike.refl u.vm), (h.1 i q hq).2.moved (hv ▸ Vm.Alike.refl u.vm)⟩, h.2.1.same hv, h.2.2.1.moved (hv ▸ Vm.Alike.refl u.vm), h.2.2.2.moved (hv ▸ Vm.Alike.refl u.vm)⟩
theorem gZs.kept {z : Nat → Nat} {A : Nat → Prop} {U : State} {H H1 : Heap} {locs : List Loc} (h : gZs z A U H) (hS : va_S A H H1 locs) : gZs z A U H1 := ⟨fun i q hq => ⟨(h.1 i q hq).1.kept hS.2.1, (h.1 i q hq).2.kept hS.2.1⟩, h.2.1, h.2.2.1.kept hS.2.1, h.2.2.2.kept hS.2.1⟩
theorem gZs.narrow {z : Nat → Nat} {A B : Nat → Prop} {U : State} {H : Heap} (h : gZs z A U H) (hAB : ∀ q, B q → A q) : gZs z B U H := ⟨fun i q hq => ⟨(h.1 i q hq).1.narrow hAB, (h.1 i q hq).2.narrow hAB⟩, h.2.1, h.2.2.1.narrow hAB, h.2.2.2.narrow hAB⟩
/-- what stands fast in a method's walk -/
def gC (p : Program) (s : State) (m : MethodId) (args : Array Value) (meth : Method) (c : Code) (cc : ByteArray) (nL : Nat) (own : String) (D : va_G) (t : gT) (sh : List gKd) (ad z : Nat → Nat) : Prop :=
  p.tables.exec = Jvm.exec ∧ c.code = cc ∧ c.maxLocals = nL ∧ s.vm.findClass own = some m.cls ∧ (∀ w ∈ lw_tb, w.before args s = true) ∧ va_K D vwCl (gTy t) s ∧ gJ sh ad ∧ meth.locks = false ∧ gZs z (gA sh ad) s s.heap
/-- the world in a walk -/
def gI (sh : List gKd) (t : gT) (ad : Nat → Nat) (D : va_G) (H0 : Heap) (σ : gS) (H : Heap) (locs : List Loc) : Prop := va_P D vwCl (gW sh t ad σ) H ∧ va_S (gA sh ad) H0 H locs
section GX
variable {p : Program} {l : Launch} {e : Env} {R : Room} {s : State} {m : MethodId} {args : Array Value} {below : List Frame} {meth : Method} {c : Code} {H : Heap} {locs : List Loc} {cells slots : Nat} {Q : State → Prop} {pc nL : Nat} {ls : Array Slot} {rest : List Value} {cc : ByteArray} {own : String} {D : va_G} {t : gT} {sh : List gKd} {ad : Nat → Nat} {z : Nat → Nat} {H0 : Heap} {σ : gS} {α : Type} {r : α}
theorem gx_get (C : gC p s m args meth c cc nL own D t sh ad z) (hI : gI sh t ad D H0 σ H locs) {k ci : Nat} {sl : List (Option Nat)} (hk : sh[k]? = some (.inr (.inl (ci, sl)))) {Cn : String} {T : u_T} {N : Nat} (hc : vwCl[ci]? = some (Cn, T, N)) (hin : ∀ w ∈ u_ws Cn T N, w ∈ lw_tb) (j : Nat) (hj : j < N) {index : Nat} (hlink : Cond.fieldLink own index (T j).1 (T j).2.1 (T j).2.2.1 ∈ lw_tb) (hs : sl[j]? = some none) (hdg : decode cc pc = .ok (.getfield index, 3))
    (kk : W p l e R s m args below meth c H locs cells slots Q (F0 m (pc + 3) ls (.int (σ.1 k j) :: rest))) : W p l e R s m args below meth c H locs cells slots Q (F0 m pc ls (.ref (ad k) :: rest)) := by
  obtain ⟨hx, hb, hml, hown, hts, hK, hJ, -⟩ := C
  exact va_get hx hb hts hin hown hK hI.1 k (gW_get hk) hc j hj (hts _ hlink) (fun _ h => h) (gFs_get hs) hdg kk
theorem gx_getr (C : gC p s m args meth c cc nL own D t sh ad z) (hI : gI sh t ad D H0 σ H locs) {k ci : Nat} {sl : List (Option Nat)} (hk : sh[k]? = some (.inr (.inl (ci, sl)))) {Cn : String} {T : u_T} {N : Nat} (hc : vwCl[ci]? = some (Cn, T, N)) (hin : ∀ w ∈ u_ws Cn T N, w ∈ lw_tb) (j : Nat) (hj : j < N) {index : Nat} (hlink : Cond.fieldLink own index (T j).1 (T j).2.1 (T j).2.2.1 ∈ lw_tb) {q : Nat} (hs : sl[j]? = some (some q)) (hdg : decode cc pc = .ok (.getfield index, 3))
    (kk : W p l e R s m args below meth c H locs cells slots Q (F0 m (pc + 3) ls (.ref (ad q) :: rest))) : W p l e R s m args below meth c H locs cells slots Q (F0 m pc ls (.ref (ad k) :: rest)) := by
  obtain ⟨hx, hb, hml, hown, hts, hK, hJ, -⟩ := C
  exact va_get hx hb hts hin hown hK hI.1 k (gW_get hk) hc j hj (hts _ hlink) (fun _ h => h) (gFs_ref hs) hdg kk
theorem gx_put (C : gC p s m args meth c cc nL own D t sh ad z) (hI : gI sh t ad D H0 σ H locs) {k ci : Nat} {sl : List (Option Nat)} (hk : sh[k]? = some (.inr (.inl (ci, sl)))) {Cn : String} {T : u_T} {N : Nat} (hc : vwCl[ci]? = some (Cn, T, N)) (hin : ∀ w ∈ u_ws Cn T N, w ∈ lw_tb) (ty0 : Nat → FieldType) (hty : ∀ k, k < N → parseFieldDescriptor (T k).2.2.1 = some (ty0 k)) (hnm : ∀ a, a < N → ∀ b, b < N → a ≠ b → (T a).2.1 ≠ (T b).2.1) (j : Nat) (hj : j < N) {index : Nat} (hlink : Cond.fieldLink own index (T j).1 (T j).2.1 (T j).2.2.1 ∈ lw_tb) (hfin : (T j).2.2.2 = false) {ty : FieldType} (hd : parseFieldDescriptor (T j).2.2.1 = some ty) (hs : sl[j]? = some none) {v : Int32} (hn : narrow ty (.int v) = .int v) (hfit : fits ty (.int v) = true) (hdg : decode cc pc = .ok (.putfield index, 3))
    (kk : ∀ (H1 : Heap) (locs1 : List Loc), gI sh t ad D H0 (pI σ k j v) H1 locs1 → W p l e R s m args below meth c H1 locs1 cells slots Q (F0 m (pc + 3) ls rest)) : W p l e R s m args below meth c H locs cells slots Q (F0 m pc ls (.int v :: .ref (ad k) :: rest)) := by
  obtain ⟨hx, hb, hml, hown, hts, hK, hJ, -⟩ := C
  refine va_put hx hb hts hin ty0 hty hnm hown hK hI.1 (gD hJ) hI.2 k (gW_get hk) hc j hj (hts _ hlink) (fun _ h => h) hfin hd hn hfit (by rw [gFs_len]; exact (List.getElem?_eq_some_iff.mp hs).1) hdg (fun H1 locs1 hP hD hS => kk H1 locs1 ⟨?_, hS⟩)
  rw [gFs_set hs] at hP
  exact (gW_A (f := upd (σ.1 k) j v) hk) ▸ hP
theorem gx_iald (C : gC p s m args meth c cc nL own D t sh ad z) (hI : gI sh t ad D H0 σ H locs) {k n : Nat} (hk : sh[k]? = some (.inl (0, n))) {i : Int32} {A : Option α} (h : gk (inb i n) A = some r) (hdg : decode cc pc = .ok (.iaload, 1))
    (kk : A = some r → W p l e R s m args below meth c H locs cells slots Q (F0 m (pc + 1) ls (.int (σ.1 k i.toNatClampNeg) :: rest))) : W p l e R s m args below meth c H locs cells slots Q (F0 m pc ls (.int i :: .ref (ad k) :: rest)) := by
  obtain ⟨hx, hb, hml, hown, hts, hK, hJ, -⟩ := C
  obtain ⟨h1, h2⟩ := gk_some h
  exact va_iald hx hb hK hI.1 k 0 (gW_get hk) rfl (inb_in h1) hdg (kk h2)
theorem gx_zald (C : gC p s m args meth c cc nL own D t sh ad z) (hI : gI sh t ad D H0 σ H locs) {k n : Nat} (hk : sh[k]? = some (.inl (2, n))) {i : Int32} {A : Option α} (h : gk (inb i n) A = some r) (hdg : decode cc pc = .ok (.baload, 1))
    (kk : A = some r → W p l e R s m args below meth c H locs cells slots Q (F0 m (pc + 1) ls (.int (σ.1 k i.toNatClampNeg) :: rest))) : W p l e R s m args below meth c H locs cells slots Q (F0 m pc ls (.int i :: .ref (ad k) :: rest)) := by
  obtain ⟨hx, hb, hml, hown, hts, hK, hJ, -⟩ := C
  obtain ⟨h1, h2⟩ := gk_some h
  exact va_zald hx hb hK hI.1 k 2 (gW_get hk) rfl (inb_in h1) hdg (kk h2)
theorem gx_lald (C : gC p s m args meth c cc nL own D t sh ad z) (hI : gI sh t ad D H0 σ H locs) {k n : Nat} (hk : sh[k]? = some (.inl (1, n))) {i : Int32} {A : Option α} (h : gk (inb i n) A = some r) (hdg : decode cc pc = .ok (.laload, 1))
    (kk : A = some r → W p l e R s m args below meth c H locs cells slots Q (F0 m (pc + 1) ls (.long (σ.2 k i.toNatClampNeg) :: rest))) : W p l e R s m args below meth c H locs cells slots Q (F0 m pc ls (.int i :: .ref (ad k) :: rest)) := by
  obtain ⟨hx, hb, hml, hown, hts, hK, hJ, -⟩ := C
  obtain ⟨h1, h2⟩ := gk_some h
  exact va_lald hx hb hK hI.1 k 1 (gW_get hk) rfl (inb_in h1) hdg (kk h2)
theorem gx_iast (C : gC p s m args meth c cc nL own D t sh ad z) (hI : gI sh t ad D H0 σ H locs) {k n : Nat} (hk : sh[k]? = some (.inl (0, n))) {i v : Int32} {A : Option α} (h : gk (inb i n) A = some r) (hdg : decode cc pc = .ok (.iastore, 1))
    (kk : ∀ (H1 : Heap) (locs1 : List Loc), A = some r → gI sh t ad D H0 (pI σ k i.toNatClampNeg v) H1 locs1 → W p l e R s m args below meth c H1 locs1 cells slots Q (F0 m (pc + 1) ls rest)) : W p l e R s m args below meth c H locs cells slots Q (F0 m pc ls (.int v :: .int i :: .ref (ad k) :: rest)) := by
  obtain ⟨hx, hb, hml, hown, hts, hK, hJ, -⟩ := C
  obtain ⟨h1, h2⟩ := gk_some h
  exact va_iast hx hb hK hI.1 (gD hJ) hI.2 k 0 (gW_get hk) rfl (inb_in h1) hdg (fun H1 locs1 hP hD hS => kk H1 locs1 h2 ⟨(gW_A (f := upd (σ.1 k) i.toNatClampNeg v) hk) ▸ hP, hS⟩)
theorem gx_zast (C : gC p s m args meth c cc nL own D t sh ad z) (hI : gI sh t ad D H0 σ H locs) {k n : Nat} (hk : sh[k]? = some (.inl (2, n))) {i v : Int32} {A : Option α} (h : gk (inb i n) A = some r) (hdg : decode cc pc = .ok (.bastore, 1))
    (kk : ∀ (H1 : Heap) (locs1 : List Loc), A = some r → gI sh t ad D H0 (pI σ k i.toNatClampNeg (vp_nar .boolean v)) H1 locs1 → W p l e R s m args below meth c H1 locs1 cells slots Q (F0 m (pc + 1) ls rest)) : W p l e R s m args below meth c H locs cells slots Q (F0 m pc ls (.int v :: .int i :: .ref (ad k) :: rest)) := by
  obtain ⟨hx, hb, hml, hown, hts, hK, hJ, -⟩ := C
  obtain ⟨h1, h2⟩ := gk_some h
  exact va_zast hx hb hK hI.1 (gD hJ) hI.2 k 2 (gW_get hk) rfl (inb_in h1) hdg (fun H1 locs1 hP hD hS => kk H1 locs1 h2 ⟨(gW_A (f := upd (σ.1 k) i.toNatClampNeg (vp_nar .boolean v)) hk) ▸ hP, hS⟩)
theorem gx_last (C : gC p s m args meth c cc nL own D t sh ad z) (hI : gI sh t ad D H0 σ H locs) {k n : Nat} (hk : sh[k]? = some (.inl (1, n))) {i : Int32} {v : Int64} {A : Option α} (h : gk (inb i n) A = some r) (hdg : decode cc pc = .ok (.lastore, 1))
    (kk : ∀ (H1 : Heap) (locs1 : List Loc), A = some r → gI sh t ad D H0 (pL σ k i.toNatClampNeg v) H1 locs1 → W p l e R s m args below meth c H1 locs1 cells slots Q (F0 m (pc + 1) ls rest)) : W p l e R s m args below meth c H locs cells slots Q (F0 m pc ls (.long v :: .int i :: .ref (ad k) :: rest)) := by
  obtain ⟨hx, hb, hml, hown, hts, hK, hJ, -⟩ := C
  obtain ⟨h1, h2⟩ := gk_some h
  exact va_last hx hb hK hI.1 (gD hJ) hI.2 k 1 (gW_get hk) rfl (inb_in h1) hdg (fun H1 locs1 hP hD hS => kk H1 locs1 h2 ⟨(gW_B (f := vp_updL (σ.2 k) i.toNatClampNeg v) hk) ▸ hP, hS⟩)
theorem gx_alen (C : gC p s m args meth c cc nL own D t sh ad z) (hI : gI sh t ad D H0 σ H locs) {k n : Nat} (hk : sh[k]? = some (.inl (0, n))) {v : Int32} (hv : Int32.ofNat n = v) (hdg : decode cc pc = .ok (.arraylength, 1))
    (kk : W p l e R s m args below meth c H locs cells slots Q (F0 m (pc + 1) ls (.int v :: rest))) : W p l e R s m args below meth c H locs cells slots Q (F0 m pc ls (.ref (ad k) :: rest)) := by
  obtain ⟨hx, hb, hml, hown, hts, hK, hJ, -⟩ := C
  exact va_alen hx hb hK hI.1 k 0 (gW_get hk) rfl hv hdg kk
theorem gx_aald (C : gC p s m args meth c cc nL own D t sh ad z) (hI : gI sh t ad D H0 σ H locs) {k : Nat} {ts : List Nat} (hk : sh[k]? = some (.inr (.inr ts))) {i : Int32} {A : Nat → Option α} (h : (if inb i ts.length then (ts[i.toNatClampNeg]?).bind A else none) = some r) (hdg : decode cc pc = .ok (.aaload, 1))
    (kk : ∀ q : Nat, q ∈ ts → ts[i.toNatClampNeg]? = some q → A q = some r → W p l e R s m args below meth c H locs cells slots Q (F0 m (pc + 1) ls (.ref (ad q) :: rest))) : W p l e R s m args below meth c H locs cells slots Q (F0 m pc ls (.int i :: .ref (ad k) :: rest)) := by
  obtain ⟨hx, hb, hml, hown, hts, hK, hJ, -⟩ := C
  obtain ⟨h1, h2⟩ := gk_some h
  obtain ⟨q, h3, h4⟩ := bind_some' h2
  refine va_aldq hx hb hK hI.1 k 3 (gW_get hk) rfl (inb_in h1) hdg ?_
  rw [h3]
  exact kk q (List.mem_of_getElem? h3) h3 h4
/-- a number gets a name -/
theorem gx_topi {x : Int32} {k : Int32 → Option α} (h : gl x k = some r) (kk : ∀ y : Int32, k y = some r → W p l e R s m args below meth c H locs cells slots Q (F0 m pc ls (.int y :: rest))) : W p l e R s m args below meth c H locs cells slots Q (F0 m pc ls (.int x :: rest)) := kk x h
theorem gx_topl {x : Int64} {k : Int64 → Option α} (h : gl x k = some r) (kk : ∀ y : Int64, k y = some r → W p l e R s m args below meth c H locs cells slots Q (F0 m pc ls (.long y :: rest))) : W p l e R s m args below meth c H locs cells slots Q (F0 m pc ls (.long x :: rest)) := kk x h
/-- a state gets a name -/
theorem gx_st {g : JFrame} {k : gS → Option α} (h : gl σ k = some r) (hI : gI sh t ad D H0 σ H locs) (kk : ∀ σ2 : gS, k σ2 = some r → gI sh t ad D H0 σ2 H locs → W p l e R s m args below meth c H locs cells slots Q g) : W p l e R s m args below meth c H locs cells slots Q g := kk σ h hI
theorem gx_gets (C : gC p s m args meth c cc nL own D t sh ad z) (hI : gI sh t ad D s.heap σ H locs) {i : Nat} {q : String × String × List Int32} (hq : zTab[i]? = some q) {index : Nat} (hlink : Cond.fieldLink own index q.1 q.2.1 "[I" ∈ lw_tb) (hdg : decode cc pc = .ok (.getstatic index, 3))
    (kk : W p l e R s m args below meth c H locs cells slots Q (F0 m (pc + 3) ls (.ref (z i) :: rest))) : W p l e R s m args below meth c H locs cells slots Q (F0 m pc ls rest) := by
  obtain ⟨hx, hb, hml, hown, hts, hK, hJ, -, hZ⟩ := C
  exact va_gets hx hb (hZ.1 i q hq).1 hI.2 hown (hts _ hlink) (fun _ h => h) hdg kk
theorem gx_ti (C : gC p s m args meth c cc nL own D t sh ad z) (hI : gI sh t ad D s.heap σ H locs) (i : Nat) {q : String × String × List Int32} (hq : zTab[i]? = some q) {j : Int32} {A : Option α} (h : gk (inb j q.2.2.length) A = some r) (hdg : decode cc pc = .ok (.iaload, 1))
    (kk : A = some r → W p l e R s m args below meth c H locs cells slots Q (F0 m (pc + 1) ls (.int (q.2.2.getD j.toNatClampNeg 0) :: rest))) : W p l e R s m args below meth c H locs cells slots Q (F0 m pc ls (.int j :: .ref (z i) :: rest)) := by
  obtain ⟨hx, hb, hml, hown, hts, hK, hJ, -, hZ⟩ := C
  obtain ⟨h1, h2⟩ := gk_some h
  exact va_ti hx hb (hZ.1 i q hq).2 hI.2 (inb_in h1) rfl hdg (kk h2)
theorem gx_tlen (C : gC p s m args meth c cc nL own D t sh ad z) (hI : gI sh t ad D s.heap σ H locs) (i : Nat) {q : String × String × List Int32} (hq : zTab[i]? = some q) {v : Int32} (hv : Int32.ofNat q.2.2.length = v) (hdg : decode cc pc = .ok (.arraylength, 1))
    (kk : W p l e R s m args below meth c H locs cells slots Q (F0 m (pc + 1) ls (.int v :: rest))) : W p l e R s m args below meth c H locs cells slots Q (F0 m pc ls (.ref (z i) :: rest)) := by
  obtain ⟨hx, hb, hml, hown, hts, hK, hJ, -, hZ⟩ := C
  exact va_tlen hx hb (hZ.1 i q hq).2 hI.2 hv hdg kk
theorem gx_ldcS (C : gC p s m args meth c cc nL "NineKeysRound$Law" D t sh ad z) (hdg : decode cc pc = .ok (.ldc 80, 2))
    (kk : W p l e R s m args below meth c H locs cells slots Q (F0 m (pc + 2) ls (.ref (z 4) :: rest))) : W p l e R s m args below meth c H locs cells slots Q (F0 m pc ls rest) := by
  obtain ⟨hx, hb, hml, hown, hts, hK, hJ, -, hZ⟩ := C
  exact va_ldcS hx hb hown hZ.2.1 hdg kk
theorem gx_sval (C : gC p s m args meth c cc nL own D t sh ad z) (hI : gI sh t ad D s.heap σ H locs) {index : Nat} (hlink : Cond.fieldLink own index "java/lang/String" "value" "[B" ∈ lw_tb) (hdg : decode cc pc = .ok (.getfield index, 3))
    (kk : W p l e R s m args below meth c H locs cells slots Q (F0 m (pc + 3) ls (.ref (z 5) :: rest))) : W p l e R s m args below meth c H locs cells slots Q (F0 m pc ls (.ref (z 4) :: rest)) := by
  obtain ⟨hx, hb, hml, hown, hts, hK, hJ, -, hZ⟩ := C
  exact vk_getf hx hb (hZ.2.2.1.1 0 (by decide)).2.2.1 hI.2 hown (hts _ hlink) (fun _ h => h) hdg kk
theorem gx_scod (C : gC p s m args meth c cc nL own D t sh ad z) (hI : gI sh t ad D s.heap σ H locs) {index : Nat} (hlink : Cond.fieldLink own index "java/lang/String" "coder" "B" ∈ lw_tb) (hdg : decode cc pc = .ok (.getfield index, 3))
    (kk : W p l e R s m args below meth c H locs cells slots Q (F0 m (pc + 3) ls (.int 0 :: rest))) : W p l e R s m args below meth c H locs cells slots Q (F0 m pc ls (.ref (z 4) :: rest)) := by
  obtain ⟨hx, hb, hml, hown, hts, hK, hJ, -, hZ⟩ := C
  exact vk_getf hx hb (hZ.2.2.1.1 0 (by decide)).2.1 hI.2 hown (hts _ hlink) (fun _ h => h) hdg kk
theorem gx_comp (C : gC p s m args meth c cc nL own D t sh ad z) (hI : gI sh t ad D s.heap σ H locs) {index : Nat} (hlink : Cond.fieldLink own index "java/lang/String" "COMPACT_STRINGS" "Z" ∈ lw_tb) (hdg : decode cc pc = .ok (.getstatic index, 3))
    (kk : W p l e R s m args below meth c H locs cells slots Q (F0 m (pc + 3) ls (.int 1 :: rest))) : W p l e R s m args below meth c H locs cells slots Q (F0 m pc ls rest) := by
  obtain ⟨hx, hb, hml, hown, hts, hK, hJ, -, hZ⟩ := C
  exact va_gets hx hb hZ.2.2.2 hI.2 hown (hts _ hlink) (fun _ h => h) hdg kk
theorem gx_slen (C : gC p s m args meth c cc nL own D t sh ad z) (hI : gI sh t ad D s.heap σ H locs) {v : Int32} (hv : Int32.ofNat 6 = v) (hdg : decode cc pc = .ok (.arraylength, 1))
    (kk : W p l e R s m args below meth c H locs cells slots Q (F0 m (pc + 1) ls (.int v :: rest))) : W p l e R s m args below meth c H locs cells slots Q (F0 m pc ls (.ref (z 5) :: rest)) := by
  obtain ⟨hx, hb, hml, hown, hts, hK, hJ, -, hZ⟩ := C
  exact va_tlen hx hb (hZ.2.2.1.1 0 (by decide)).2.2.2 hI.2 hv hdg kk
theorem gx_tb (C : gC p s m args meth c cc nL own D t sh ad z) (hI : gI sh t ad D s.heap σ H locs) {j : Int32} {A : Option α} (h : gk (inb j 6) A = some r) (hdg : decode cc pc = .ok (.baload, 1))
    (kk : A = some r → W p l e R s m args below meth c H locs cells slots Q (F0 m (pc + 1) ls (.int (zNAMES.getD j.toNatClampNeg 0) :: rest))) : W p l e R s m args below meth c H locs cells slots Q (F0 m pc ls (.int j :: .ref (z 5) :: rest)) := by
  obtain ⟨hx, hb, hml, hown, hts, hK, hJ, -, hZ⟩ := C
  obtain ⟨h1, h2⟩ := gk_some h
  exact va_tb hx hb (hZ.2.2.1.1 0 (by decide)).2.2.2 hI.2 (inb_in h1) rfl hdg (kk h2)
end GX
