/-! THE CLAIM OUT OF ONE WALK OF THE LAW'S BODY. Your part is whole_start (and what it stands on); all else here is the same for every law, but numbers. -/
def R_law : String := "NineKeysRoundLaw"
def lw_P (b : Addr) (xs : List Int32) (args : Array Value) (s : State) : Prop := args = #[.ref b] ∧ s.IntsAt b xs ∧ xs.length ≤ 3072 ∧ (Jvm.Cond.and given_1 narrow_1).before args s = true
def lw_Q (_ : Array Value) (s : State) (o : Outcome) (t : State) : Prop := o = .returned (some (.int 1)) ∧ Framed s o t [] 600000 7302250
def lw_Z (below : List Frame) (a : Array Value) (s : State) : State → Prop := fun t => ∃ o, t.status = .running ∧ Ended t below o ∧ lw_Q a s o t
/-- the law's own end, with 1 on the stack, nothing written that was there before, its room as the claim has it -/
theorem lw_ret {p : Program} {l : Launch} {e : Env} {s : State} {m : MethodId} {below : List Frame} {meth : Method} {c : Code} {b : Nat} (hx : p.tables.exec = Jvm.exec) (hb : c.code = code) (hr : meth.sig.returnType = ret) (hlocks : meth.locks = false) {pc : Nat} {H : Heap} {ls : Array Slot} (hdg : decode code pc = .ok (.ireturn, 1)) : W p l e room_1 s m #[Value.ref b] below meth c H [] 600000 7302250 (lw_Z below #[Value.ref b] s) (F0 m pc ls [.int 1]) := by
  intro T hT X
  obtain ⟨fs, hret, hrun, hended, hW, hframe⟩ := X.leave (v := some (.int 1)) (hlocks := hlocks) (fun h => by rw [hr] at h; cases h)
  have hmeth' : T.vm.method? m = some meth := X.method'
  refine ⟨T.setFrames fs, ?_, .returned (some (.int 1)), hrun, hended, rfl, ⟨_, rfl⟩, hW, hframe⟩
  jvm_step X.here [X.here.top, hx, hb, hdg, hmeth', hr, ret, narrow_b1]
  (try refine ⟨rfl, ?_⟩); (try refine ⟨rfl, ?_⟩)
  first | (intro acts; rw [hret _ acts rfl rfl rfl]) | rw [hret _ _ rfl rfl rfl]
  exact Steps.refl _
/-- what holds at the law's entry: the machine, the code, the tables' words (any of lw_tbl by 'hts w (by decide +kernel)'), the script of L ints xs at the cell b, what the Statement gives of the start (any of its parts by flat_of_before) -/
def lw_At (p : Program) (s : State) (m : MethodId) (meth : Method) (c : Code) (b L : Nat) (xs : Nat → Int32) : Prop :=
  p.tables.exec = Jvm.exec ∧ c.code = code ∧ meth.sig.returnType = ret ∧ c.maxLocals = 4 ∧ s.vm.findClass R_law = some m.cls ∧ (∀ w ∈ lw_tbl, w.before #[Value.ref b] s = true) ∧ va_X b L xs s s.heap ∧ b < s.heap.size ∧ meth.locks = false ∧ (Jvm.Cond.and given_1 narrow_1).before #[Value.ref b] s = true
def jlshl (x : Int64) (y : Int32) : Int64 := x <<< (y.toInt64 &&& 63)
/-- what stands fast in the law's walk, once the two objects are made -/
def lwF (s : State) (D : va_G) (t : gT) (adX adM z : Nat → Nat) : Prop := gJ shX adX ∧ gJ shM adM ∧ (∀ q, gA shX adX q → s.heap.size ≤ q) ∧ (∀ q, gA shM adM q → s.heap.size ≤ q) ∧ (∀ q, gA shX adX q → ¬ gA shM adM q) ∧ va_K D vwCl (gTy t) s ∧ gZs z (fun q => s.heap.size ≤ q) s s.heap
def lwI (s : State) (D : va_G) (t : gT) (adX adM : Nat → Nat) (σx σm : gS) (H : Heap) (locs : List Loc) : Prop := va_P D vwCl (gW shX t adX σx) H ∧ va_P D vwCl (gW shM t adM σm) H ∧ va_S (fun q : Nat => s.heap.size ≤ q) s.heap H locs
def lwC (p : Program) (s : State) (m : MethodId) (args : Array Value) (c : Code) (nL : Nat) : Prop := p.tables.exec = Jvm.exec ∧ c.code = code ∧ c.maxLocals = nL ∧ s.vm.findClass "NineKeysRoundLaw" = some m.cls ∧ (∀ w ∈ lw_tb, w.before args s = true)
theorem gW_keep {D : va_G} {sh : List gKd} {t : gT} {ad : Nat → Nat} {σ : gS} {H H1 : Heap} {B : Nat → Prop} (h : va_P D vwCl (gW sh t ad σ) H) (hd : ∀ q, gA sh ad q → ¬ B q) (hk : ∀ q : Nat, q < H.size → ¬ B q → H1[q]? = H[q]?) : va_P D vwCl (gW sh t ad σ) H1 := by
  refine h.kept (fun k q hq => hk q.1 (h k q hq).lt (hd q.1 ?_))
  obtain ⟨h1, h2⟩ := gW_at hq
  exact ⟨k, h1, h2.symm⟩
section LW
variable {p : Program} {l : Launch} {e : Env} {R : Room} {s : State} {m : MethodId} {args : Array Value} {below : List Frame} {meth : Method} {c : Code} {H : Heap} {locs : List Loc} {cells slots : Nat} {Q : State → Prop} {pc nL : Nat} {ls : Array Slot} {rest : List Value} {D : va_G} {t : gT} {adX adM z : Nat → Nat} {σx σm : gS}
theorem lx_i (C : lwC p s m args c nL) (hF : lwF s D t adX adM z) (hI : lwI s D t adX adM σx σm H locs) (hls : ls.size = nL) {y : MethodName} {bytes : ByteArray} {maxL n index : Nat} {ret : Option FieldType} {fr lo : Nat} {As st : List Value} {ci : Nat} {sl : List (Option Nat)} {T : u_T} {N : Nat} (hk : shX[0]? = some (.inr (.inl (ci, sl)))) (hc : vwCl[ci]? = some (y.cls, T, N)) (hy : gYv y bytes maxL ret n) (hlink : Cond.methodLink "NineKeysRoundLaw" index y ∈ lw_tb) {r1 : Int32} {σ1 : gS} (hM : Met l y (Cond.code y bytes maxL ret :: lw_tb) (gR fr lo) (gPc shX t adX D z (Value.ref (adX 0) :: As) σx) (gQi shX t adX D r1 σ1) 0 0 (gA shX adX)) (hn : As.length = n) (hst : st = As.reverse ++ .ref (adX 0) :: rest) (hR : fr + 1 ≤ R.frames ∧ 8 + (maxL + 11) + lo ≤ R.locals) (hcs : cells ≤ R.cells ∧ slots ≤ R.slots) (hw8 : (rest.map fun v => v.category).sum ≤ 8) (hdg : decode code pc = .ok (.invokevirtual index, 3))
    (kk : ∀ (H1 : Heap) (locs1 : List Loc), lwI s D t adX adM σ1 σm H1 locs1 → W p l e R s m args below meth c H1 locs1 cells slots Q (F0 m (pc + 3) ls (.int r1 :: rest))) : W p l e R s m args below meth c H locs cells slots Q (F0 m pc ls st) := by
  obtain ⟨hx, hb, hml, hown, hts⟩ := C
  have hK := hF.2.2.2.2.2.1
  have hZ : gZs z (gA shX adX) s H := (hF.2.2.2.2.2.2.kept hI.2.2).narrow hF.2.2.1
  refine va_calli (va_runV (As := As) (rest := rest) ⟨hx, hb, hml, hown, hts⟩ hM ⟨callB_of n hts (gGood hy.2.2.2.1) rfl rfl rfl (hts _ hy.2.2.1) (hts _ hlink) ⟨hy.2.2.2.2.1.1, hy.2.2.2.2.1.2, hy.2.2.2.2.2⟩ hR, hts _ hy.1, hts _ hy.2.1⟩ ⟨gPc_blind, va_recv hK hI.1 hc (gW_get hk), fun U hU hW => ⟨rfl, by rw [hU]; exact hI.1, va_K.moved hW.alike hK, by rw [hU]; exact gZs.warm hW hZ⟩⟩ rfl hn hls hst (lv_room hw8) hdg ⟨hcs.1, hcs.2⟩) hI.2.2 (fun q _ hq => hF.2.2.1 q hq) (fun q hq => hF.2.2.1 q hq) (fun r_1 u t1 H1 locs1 ht hvm hw hB hz1 hk1 hS => ?_)
  obtain ⟨e1, e2⟩ := hw
  have hB2 : va_P D vwCl (gW shX t adX u) t1.heap := hB
  rw [e2, ht] at hB2
  rw [e1]
  exact kk H1 locs1 ⟨hB2, gW_keep hI.2.1 (fun q hq hb2 => hF.2.2.2.2.1 q hb2 hq) hk1, hS⟩
theorem lx_l (C : lwC p s m args c nL) (hF : lwF s D t adX adM z) (hI : lwI s D t adX adM σx σm H locs) (hls : ls.size = nL) {y : MethodName} {bytes : ByteArray} {maxL n index : Nat} {ret : Option FieldType} {fr lo : Nat} {As st : List Value} {ci : Nat} {sl : List (Option Nat)} {T : u_T} {N : Nat} (hk : shX[0]? = some (.inr (.inl (ci, sl)))) (hc : vwCl[ci]? = some (y.cls, T, N)) (hy : gYv y bytes maxL ret n) (hlink : Cond.methodLink "NineKeysRoundLaw" index y ∈ lw_tb) {r1 : Int64} {σ1 : gS} (hM : Met l y (Cond.code y bytes maxL ret :: lw_tb) (gR fr lo) (gPc shX t adX D z (Value.ref (adX 0) :: As) σx) (gQl shX t adX D r1 σ1) 0 0 (gA shX adX)) (hn : As.length = n) (hst : st = As.reverse ++ .ref (adX 0) :: rest) (hR : fr + 1 ≤ R.frames ∧ 8 + (maxL + 11) + lo ≤ R.locals) (hcs : cells ≤ R.cells ∧ slots ≤ R.slots) (hw8 : (rest.map fun v => v.category).sum ≤ 8) (hdg : decode code pc = .ok (.invokevirtual index, 3))
    (kk : ∀ (H1 : Heap) (locs1 : List Loc), lwI s D t adX adM σ1 σm H1 locs1 → W p l e R s m args below meth c H1 locs1 cells slots Q (F0 m (pc + 3) ls (.long r1 :: rest))) : W p l e R s m args below meth c H locs cells slots Q (F0 m pc ls st) := by
  obtain ⟨hx, hb, hml, hown, hts⟩ := C
  have hK := hF.2.2.2.2.2.1
  have hZ : gZs z (gA shX adX) s H := (hF.2.2.2.2.2.2.kept hI.2.2).narrow hF.2.2.1
  refine va_calll (va_runV (As := As) (rest := rest) ⟨hx, hb, hml, hown, hts⟩ hM ⟨callB_of n hts (gGood hy.2.2.2.1) rfl rfl rfl (hts _ hy.2.2.1) (hts _ hlink) ⟨hy.2.2.2.2.1.1, hy.2.2.2.2.1.2, hy.2.2.2.2.2⟩ hR, hts _ hy.1, hts _ hy.2.1⟩ ⟨gPc_blind, va_recv hK hI.1 hc (gW_get hk), fun U hU hW => ⟨rfl, by rw [hU]; exact hI.1, va_K.moved hW.alike hK, by rw [hU]; exact gZs.warm hW hZ⟩⟩ rfl hn hls hst (lv_room hw8) hdg ⟨hcs.1, hcs.2⟩) hI.2.2 (fun q _ hq => hF.2.2.1 q hq) (fun q hq => hF.2.2.1 q hq) (fun r_1 u t1 H1 locs1 ht hvm hw hB hz1 hk1 hS => ?_)
  obtain ⟨e1, e2⟩ := hw
  have hB2 : va_P D vwCl (gW shX t adX u) t1.heap := hB
  rw [e2, ht] at hB2
  rw [e1]
  exact kk H1 locs1 ⟨hB2, gW_keep hI.2.1 (fun q hq hb2 => hF.2.2.2.2.1 q hb2 hq) hk1, hS⟩
theorem lm_i (C : lwC p s m args c nL) (hF : lwF s D t adX adM z) (hI : lwI s D t adX adM σx σm H locs) (hls : ls.size = nL) {y : MethodName} {bytes : ByteArray} {maxL n index : Nat} {ret : Option FieldType} {fr lo : Nat} {As st : List Value} {ci : Nat} {sl : List (Option Nat)} {T : u_T} {N : Nat} (hk : shM[0]? = some (.inr (.inl (ci, sl)))) (hc : vwCl[ci]? = some (y.cls, T, N)) (hy : gYv y bytes maxL ret n) (hlink : Cond.methodLink "NineKeysRoundLaw" index y ∈ lw_tb) {r1 : Int32} {σ1 : gS} (hM : Met l y (Cond.code y bytes maxL ret :: lw_tb) (gR fr lo) (gPc shM t adM D z (Value.ref (adM 0) :: As) σm) (gQi shM t adM D r1 σ1) 0 0 (gA shM adM)) (hn : As.length = n) (hst : st = As.reverse ++ .ref (adM 0) :: rest) (hR : fr + 1 ≤ R.frames ∧ 8 + (maxL + 11) + lo ≤ R.locals) (hcs : cells ≤ R.cells ∧ slots ≤ R.slots) (hw8 : (rest.map fun v => v.category).sum ≤ 8) (hdg : decode code pc = .ok (.invokevirtual index, 3))
    (kk : ∀ (H1 : Heap) (locs1 : List Loc), lwI s D t adX adM σx σ1 H1 locs1 → W p l e R s m args below meth c H1 locs1 cells slots Q (F0 m (pc + 3) ls (.int r1 :: rest))) : W p l e R s m args below meth c H locs cells slots Q (F0 m pc ls st) := by
  obtain ⟨hx, hb, hml, hown, hts⟩ := C
  have hK := hF.2.2.2.2.2.1
  have hZ : gZs z (gA shM adM) s H := (hF.2.2.2.2.2.2.kept hI.2.2).narrow hF.2.2.2.1
  refine va_calli (va_runV (As := As) (rest := rest) ⟨hx, hb, hml, hown, hts⟩ hM ⟨callB_of n hts (gGood hy.2.2.2.1) rfl rfl rfl (hts _ hy.2.2.1) (hts _ hlink) ⟨hy.2.2.2.2.1.1, hy.2.2.2.2.1.2, hy.2.2.2.2.2⟩ hR, hts _ hy.1, hts _ hy.2.1⟩ ⟨gPc_blind, va_recv hK hI.2.1 hc (gW_get hk), fun U hU hW => ⟨rfl, by rw [hU]; exact hI.2.1, va_K.moved hW.alike hK, by rw [hU]; exact gZs.warm hW hZ⟩⟩ rfl hn hls hst (lv_room hw8) hdg ⟨hcs.1, hcs.2⟩) hI.2.2 (fun q _ hq => hF.2.2.2.1 q hq) (fun q hq => hF.2.2.2.1 q hq) (fun r_1 u t1 H1 locs1 ht hvm hw hB hz1 hk1 hS => ?_)
  obtain ⟨e1, e2⟩ := hw
  have hB2 : va_P D vwCl (gW shM t adM u) t1.heap := hB
  rw [e2, ht] at hB2
  rw [e1]
  exact kk H1 locs1 ⟨gW_keep hI.1 (fun q hq => hF.2.2.2.2.1 q hq) hk1, hB2, hS⟩
theorem lm_l (C : lwC p s m args c nL) (hF : lwF s D t adX adM z) (hI : lwI s D t adX adM σx σm H locs) (hls : ls.size = nL) {y : MethodName} {bytes : ByteArray} {maxL n index : Nat} {ret : Option FieldType} {fr lo : Nat} {As st : List Value} {ci : Nat} {sl : List (Option Nat)} {T : u_T} {N : Nat} (hk : shM[0]? = some (.inr (.inl (ci, sl)))) (hc : vwCl[ci]? = some (y.cls, T, N)) (hy : gYv y bytes maxL ret n) (hlink : Cond.methodLink "NineKeysRoundLaw" index y ∈ lw_tb) {r1 : Int64} {σ1 : gS} (hM : Met l y (Cond.code y bytes maxL ret :: lw_tb) (gR fr lo) (gPc shM t adM D z (Value.ref (adM 0) :: As) σm) (gQl shM t adM D r1 σ1) 0 0 (gA shM adM)) (hn : As.length = n) (hst : st = As.reverse ++ .ref (adM 0) :: rest) (hR : fr + 1 ≤ R.frames ∧ 8 + (maxL + 11) + lo ≤ R.locals) (hcs : cells ≤ R.cells ∧ slots ≤ R.slots) (hw8 : (rest.map fun v => v.category).sum ≤ 8) (hdg : decode code pc = .ok (.invokevirtual index, 3))
    (kk : ∀ (H1 : Heap) (locs1 : List Loc), lwI s D t adX adM σx σ1 H1 locs1 → W p l e R s m args below meth c H1 locs1 cells slots Q (F0 m (pc + 3) ls (.long r1 :: rest))) : W p l e R s m args below meth c H locs cells slots Q (F0 m pc ls st) := by
  obtain ⟨hx, hb, hml, hown, hts⟩ := C
  have hK := hF.2.2.2.2.2.1
  have hZ : gZs z (gA shM adM) s H := (hF.2.2.2.2.2.2.kept hI.2.2).narrow hF.2.2.2.1
  refine va_calll (va_runV (As := As) (rest := rest) ⟨hx, hb, hml, hown, hts⟩ hM ⟨callB_of n hts (gGood hy.2.2.2.1) rfl rfl rfl (hts _ hy.2.2.1) (hts _ hlink) ⟨hy.2.2.2.2.1.1, hy.2.2.2.2.1.2, hy.2.2.2.2.2⟩ hR, hts _ hy.1, hts _ hy.2.1⟩ ⟨gPc_blind, va_recv hK hI.2.1 hc (gW_get hk), fun U hU hW => ⟨rfl, by rw [hU]; exact hI.2.1, va_K.moved hW.alike hK, by rw [hU]; exact gZs.warm hW hZ⟩⟩ rfl hn hls hst (lv_room hw8) hdg ⟨hcs.1, hcs.2⟩) hI.2.2 (fun q _ hq => hF.2.2.2.1 q hq) (fun q hq => hF.2.2.2.1 q hq) (fun r_1 u t1 H1 locs1 ht hvm hw hB hz1 hk1 hS => ?_)
  obtain ⟨e1, e2⟩ := hw
  have hB2 : va_P D vwCl (gW shM t adM u) t1.heap := hB
  rw [e2, ht] at hB2
  rw [e1]
  exact kk H1 locs1 ⟨gW_keep hI.1 (fun q hq => hF.2.2.2.2.1 q hq) hk1, hB2, hS⟩
end LW
/-- post: class and reference answer alike, and stay alike -/
def EQ_post (Rel : gS → gS → Prop) : Prop := ∀ (σx σm : gS) (a1 : Int32), Rel σx σm → ∃ (r : Int32) (σ1 : gS) (σ2 : gS), f_X9_post σx a1 = some (r, σ1) ∧ f_X10_post σm a1 = some (r, σ2) ∧ Rel σ1 σ2
/-- posts: class and reference answer alike, and stay alike -/
def EQ_posts (Rel : gS → gS → Prop) : Prop := ∀ (σx σm : gS) (a1 : Int32) (a2 : Int32) (a3 : Int32), Rel σx σm → ∃ (r : Int32) (σ1 : gS) (σ2 : gS), f_X9_posts σx a1 a2 a3 = some (r, σ1) ∧ f_X10_posts σm a1 a2 a3 = some (r, σ2) ∧ Rel σ1 σ2
/-- mend: class and reference answer alike, and stay alike -/
def EQ_mend (Rel : gS → gS → Prop) : Prop := ∀ (σx σm : gS) (a1 : Int32) (a2 : Int32) (a3 : Int32), Rel σx σm → ∃ (r : Int32) (σ1 : gS) (σ2 : gS), f_X9_mend σx a1 a2 a3 = some (r, σ1) ∧ f_X10_mend σm a1 a2 a3 = some (r, σ2) ∧ Rel σ1 σ2
/-- of: class and reference answer alike, and stay alike -/
def EQ_of (Rel : gS → gS → Prop) : Prop := ∀ (σx σm : gS) (a1 : Int32) (a2 : Int32), Rel σx σm → ∃ (r : Int32), f_X9_of σx a1 a2 = some r ∧ f_X10_of σm a1 a2 = some r ∧ Rel σx σm
/-- feed: class and reference answer alike, and stay alike -/
def EQ_feed (Rel : gS → gS → Prop) : Prop := ∀ (σx σm : gS) (a1 : Int32), Rel σx σm → ∃ (r : Int32) (σ1 : gS) (σ2 : gS), f_X9_feed σx a1 = some (r, σ1) ∧ f_X10_feed σm a1 = some (r, σ2) ∧ Rel σ1 σ2
/-- law: class and reference answer alike, and stay alike -/
def EQ_law (Rel : gS → gS → Prop) : Prop := ∀ (σx σm : gS), Rel σx σm → ∃ (r : Int32) (σ1 : gS) (σ2 : gS), f_X9_law σx = some (r, σ1) ∧ f_X10_law σm = some (r, σ2) ∧ Rel σ1 σ2
/-- round: class and reference answer alike, and stay alike -/
def EQ_round (Rel : gS → gS → Prop) : Prop := ∀ (σx σm : gS) (a1 : Int32) (a2 : Int32), Rel σx σm → ∃ (r : Int32) (σ1 : gS) (σ2 : gS), f_X9_round σx a1 a2 = some (r, σ1) ∧ f_X10_round σm a1 a2 = some (r, σ2) ∧ Rel σ1 σ2
/-- first: class and reference answer alike, and stay alike -/
def EQ_first (Rel : gS → gS → Prop) : Prop := ∀ (σx σm : gS) (a1 : Int32) (a2 : Int32), Rel σx σm → ∃ (r : Int32) (σ1 : gS) (σ2 : gS), f_X9_first σx a1 a2 = some (r, σ1) ∧ f_X10_first σm a1 a2 = some (r, σ2) ∧ Rel σ1 σ2
/-- by: class and reference answer alike, and stay alike -/
def EQ_by (Rel : gS → gS → Prop) : Prop := ∀ (σx σm : gS) (a1 : Int32) (a2 : Int32) (a3 : Int32), Rel σx σm → ∃ (r : Int32) (σ1 : gS) (σ2 : gS), f_X9_by σx a1 a2 a3 = some (r, σ1) ∧ f_X10_by σm a1 a2 a3 = some (r, σ2) ∧ Rel σ1 σ2
/-- unseen: class and reference answer alike, and stay alike -/
def EQ_unseen (Rel : gS → gS → Prop) : Prop := ∀ (σx σm : gS) (a1 : Int32) (a2 : Int32) (a3 : Int32) (a4 : Int32), Rel σx σm → ∃ (r : Int32) (σ1 : gS) (σ2 : gS), f_X9_unseen σx a1 a2 a3 a4 = some (r, σ1) ∧ f_X10_unseen σm a1 a2 a3 a4 = some (r, σ2) ∧ Rel σ1 σ2
/-- lost: class and reference answer alike, and stay alike -/
def EQ_lost (Rel : gS → gS → Prop) : Prop := ∀ (σx σm : gS) (a1 : Int32) (a2 : Int32) (a3 : Int32) (a4 : Int32), Rel σx σm → ∃ (r : Int32) (σ1 : gS) (σ2 : gS), f_X9_lost σx a1 a2 a3 a4 = some (r, σ1) ∧ f_X10_lost σm a1 a2 a3 a4 = some (r, σ2) ∧ Rel σ1 σ2
/-- red: class and reference answer alike, and stay alike -/
def EQ_red (Rel : gS → gS → Prop) : Prop := ∀ (σx σm : gS) (a1 : Int32) (a2 : Int32), Rel σx σm → ∃ (r : Int32) (σ1 : gS) (σ2 : gS), f_X9_red σx a1 a2 = some (r, σ1) ∧ f_X10_red σm a1 a2 = some (r, σ2) ∧ Rel σ1 σ2
/-- gap: class and reference answer alike, and stay alike -/
def EQ_gap (Rel : gS → gS → Prop) : Prop := ∀ (σx σm : gS) (a1 : Int32) (a2 : Int32), Rel σx σm → ∃ (r : Int32) (σ1 : gS) (σ2 : gS), f_X9_gap σx a1 a2 = some (r, σ1) ∧ f_X10_gap σm a1 a2 = some (r, σ2) ∧ Rel σ1 σ2
/-- late: class and reference answer alike, and stay alike -/
def EQ_late (Rel : gS → gS → Prop) : Prop := ∀ (σx σm : gS) (a1 : Int32), Rel σx σm → ∃ (r : Int32) (σ1 : gS) (σ2 : gS), f_X9_late σx a1 = some (r, σ1) ∧ f_X10_late σm a1 = some (r, σ2) ∧ Rel σ1 σ2
/-- shortest: class and reference answer alike, and stay alike -/
def EQ_shortest (Rel : gS → gS → Prop) : Prop := ∀ (σx σm : gS) (a1 : Int32) (a2 : Int32), Rel σx σm → ∃ (r : Int32) (σ1 : gS) (σ2 : gS), f_X9_shortest σx a1 a2 = some (r, σ1) ∧ f_X10_shortest σm a1 a2 = some (r, σ2) ∧ Rel σ1 σ2
/-- leftOut: class and reference answer alike, and stay alike -/
def EQ_leftOut (Rel : gS → gS → Prop) : Prop := ∀ (σx σm : gS) (a1 : Int32) (a2 : Int32), Rel σx σm → ∃ (r : Int32) (σ1 : gS) (σ2 : gS), f_X9_leftOut σx a1 a2 = some (r, σ1) ∧ f_X10_leftOut σm a1 a2 = some (r, σ2) ∧ Rel σ1 σ2
/-- thief: class and reference answer alike, and stay alike -/
def EQ_thief (Rel : gS → gS → Prop) : Prop := ∀ (σx σm : gS) (a1 : Int32) (a2 : Int32) (a3 : Int32) (a4 : Int32), Rel σx σm → ∃ (r : Int32) (σ1 : gS) (σ2 : gS), f_X9_thief σx a1 a2 a3 a4 = some (r, σ1) ∧ f_X10_thief σm a1 a2 a3 a4 = some (r, σ2) ∧ Rel σ1 σ2
/-- safe: class and reference answer alike, and stay alike -/
def EQ_safe (Rel : gS → gS → Prop) : Prop := ∀ (σx σm : gS) (a1 : Int32) (a2 : Int32), Rel σx σm → ∃ (r : Int32) (σ1 : gS) (σ2 : gS), f_X9_safe σx a1 a2 = some (r, σ1) ∧ f_X10_safe σm a1 a2 = some (r, σ2) ∧ Rel σ1 σ2
/-- two: class and reference answer alike, and stay alike -/
def EQ_two (Rel : gS → gS → Prop) : Prop := ∀ (σx σm : gS) (a1 : Int32) (a2 : Int32) (a3 : Int32), Rel σx σm → ∃ (r : Int32) (σ1 : gS) (σ2 : gS), f_X9_two σx a1 a2 a3 = some (r, σ1) ∧ f_X10_two σm a1 a2 a3 = some (r, σ2) ∧ Rel σ1 σ2
/-- success: class and reference answer alike, and stay alike -/
def EQ_success (Rel : gS → gS → Prop) : Prop := ∀ (σx σm : gS) (a1 : Int32) (a2 : Int32) (a3 : Int32) (a4 : Int32), Rel σx σm → ∃ (r : Int32) (σ1 : gS) (σ2 : gS), f_X9_success σx a1 a2 a3 a4 = some (r, σ1) ∧ f_X10_success σm a1 a2 a3 a4 = some (r, σ2) ∧ Rel σ1 σ2
/-- bestMinute: class and reference answer alike, and stay alike -/
def EQ_bestMinute (Rel : gS → gS → Prop) : Prop := ∀ (σx σm : gS) (a1 : Int32) (a2 : Int32) (a3 : Int32) (a4 : Int32), Rel σx σm → ∃ (r : Int32) (σ1 : gS) (σ2 : gS), f_X9_bestMinute σx a1 a2 a3 a4 = some (r, σ1) ∧ f_X10_bestMinute_ σm a1 a2 a3 a4 = some (r, σ2) ∧ Rel σ1 σ2
/-- mix: class and reference answer alike, and stay alike -/
def EQ_mix (Rel : gS → gS → Prop) : Prop := ∀ (σx σm : gS) (a1 : Int32) (a2 : Int32) (a3 : Int32), Rel σx σm → ∃ (r : Int32) (σ1 : gS) (σ2 : gS), f_X9_mix σx a1 a2 a3 = some (r, σ1) ∧ f_X10_mix σm a1 a2 a3 = some (r, σ2) ∧ Rel σ1 σ2
/-- paper: class and reference answer alike, and stay alike -/
def EQ_paper (Rel : gS → gS → Prop) : Prop := ∀ (σx σm : gS) (a1 : Int32) (a2 : Int32), Rel σx σm → ∃ (r : Int32), f_X9_paper σx a1 a2 = some r ∧ f_X10_paper σm a1 a2 = some r ∧ Rel σx σm
/-- which: class and reference answer alike, and stay alike -/
def EQ_which (Rel : gS → gS → Prop) : Prop := ∀ (σx σm : gS) (a1 : Int32), Rel σx σm → ∃ (r : Int32) (σ1 : gS) (σ2 : gS), f_X9_which σx a1 = some (r, σ1) ∧ f_X10_which σm a1 = some (r, σ2) ∧ Rel σ1 σ2
/-- fit: class and reference answer alike, and stay alike -/
def EQ_fit (Rel : gS → gS → Prop) : Prop := ∀ (σx σm : gS) (a1 : Int32) (a2 : Int32), Rel σx σm → ∃ (r : Int32) (σ1 : gS) (σ2 : gS), f_X9_fit σx a1 a2 = some (r, σ1) ∧ f_X10_fit σm a1 a2 = some (r, σ2) ∧ Rel σ1 σ2
/-- hang: class and reference answer alike, and stay alike -/
def EQ_hang (Rel : gS → gS → Prop) : Prop := ∀ (σx σm : gS) (a1 : Int32) (a2 : Int32), Rel σx σm → ∃ (r : Int32), f_X9_hang σx a1 a2 = some r ∧ f_X10_hang σm a1 a2 = some r ∧ Rel σx σm
/-- drawn: class and reference answer alike, and stay alike -/
def EQ_drawn (Rel : gS → gS → Prop) : Prop := ∀ (σx σm : gS) (a1 : Int32) (a2 : Int32) (a3 : Int32), Rel σx σm → ∃ (r : Int32), f_X9_drawn σx a1 a2 a3 = some r ∧ f_X10_drawn σm a1 a2 a3 = some r ∧ Rel σx σm
/-- walk: class and reference answer alike, and stay alike -/
def EQ_walk (Rel : gS → gS → Prop) : Prop := ∀ (σx σm : gS) (a1 : Int32), Rel σx σm → ∃ (r : Int32) (σ1 : gS) (σ2 : gS), f_X9_walk σx a1 = some (r, σ1) ∧ f_X10_walk σm a1 = some (r, σ2) ∧ Rel σ1 σ2
/-- waits: class and reference answer alike, and stay alike -/
def EQ_waits (Rel : gS → gS → Prop) : Prop := ∀ (σx σm : gS) (a1 : Int32), Rel σx σm → ∃ (r : Int32) (σ1 : gS) (σ2 : gS), f_X9_waits σx a1 = some (r, σ1) ∧ f_X10_waits σm a1 = some (r, σ2) ∧ Rel σ1 σ2
/-- home: class and reference answer alike, and stay alike -/
def EQ_home (Rel : gS → gS → Prop) : Prop := ∀ (σx σm : gS), Rel σx σm → ∃ (r : Int32) (σ1 : gS) (σ2 : gS), f_X9_home σx = some (r, σ1) ∧ f_X10_home σm = some (r, σ2) ∧ Rel σ1 σ2
/-- led: class and reference answer alike, and stay alike -/
def EQ_led (Rel : gS → gS → Prop) : Prop := ∀ (σx σm : gS) (a1 : Int32), Rel σx σm → ∃ (r : Int32), f_X9_led σx a1 = some r ∧ f_X10_led σm a1 = some r ∧ Rel σx σm
/-- image: class and reference answer alike, and stay alike -/
def EQ_image (Rel : gS → gS → Prop) : Prop := ∀ (σx σm : gS), Rel σx σm → ∃ (r : Int32) (σ1 : gS) (σ2 : gS), f_X9_image σx = some (r, σ1) ∧ f_X10_image σm = some (r, σ2) ∧ Rel σ1 σ2
/-- back: class and reference answer alike, and stay alike -/
def EQ_back (Rel : gS → gS → Prop) : Prop := ∀ (σx σm : gS), Rel σx σm → ∃ (r : Int32) (σ1 : gS) (σ2 : gS), f_X9_back σx = some (r, σ1) ∧ f_X10_back σm = some (r, σ2) ∧ Rel σ1 σ2
/-- undo: class and reference answer alike, and stay alike -/
def EQ_undo (Rel : gS → gS → Prop) : Prop := ∀ (σx σm : gS), Rel σx σm → ∃ (r : Int32) (σ1 : gS) (σ2 : gS), f_X9_undo σx = some (r, σ1) ∧ f_X10_undo σm = some (r, σ2) ∧ Rel σ1 σ2
/-- redo: class and reference answer alike, and stay alike -/
def EQ_redo (Rel : gS → gS → Prop) : Prop := ∀ (σx σm : gS), Rel σx σm → ∃ (r : Int32) (σ1 : gS) (σ2 : gS), f_X9_redo σx = some (r, σ1) ∧ f_X10_redo σm = some (r, σ2) ∧ Rel σ1 σ2
/-- body: class and reference answer alike, and stay alike -/
def EQ_body (Rel : gS → gS → Prop) : Prop := ∀ (σx σm : gS) (a1 : Int32), Rel σx σm → ∃ (r : Int32) (σ1 : gS) (σ2 : gS), f_X9_body σx a1 = some (r, σ1) ∧ f_X10_body σm a1 = some (r, σ2) ∧ Rel σ1 σ2
/-- act: class and reference answer alike, and stay alike -/
def EQ_act (Rel : gS → gS → Prop) : Prop := ∀ (σx σm : gS) (a1 : Int32) (a2 : Int32) (a3 : Int32), Rel σx σm → ∃ (r : Int32) (σ1 : gS) (σ2 : gS), f_X9_act σx a1 a2 a3 = some (r, σ1) ∧ f_X10_act σm a1 a2 a3 = some (r, σ2) ∧ Rel σ1 σ2
/-- trace: class and reference answer alike, and stay alike -/
def EQ_trace (Rel : gS → gS → Prop) : Prop := ∀ (σx σm : gS) (a1 : Int32), Rel σx σm → ∃ (r : Int32), f_X9_trace σx a1 = some r ∧ f_X10_trace σm a1 = some r ∧ Rel σx σm
/-- keep: class and reference answer alike, and stay alike -/
def EQ_keep (Rel : gS → gS → Prop) : Prop := ∀ (σx σm : gS) (a1 : Int32) (a2 : Int32), Rel σx σm → ∃ (r : Int32) (σ1 : gS) (σ2 : gS), f_X9_keep σx a1 a2 = some (r, σ1) ∧ f_X10_keep σm a1 a2 = some (r, σ2) ∧ Rel σ1 σ2
/-- row: class and reference answer alike, and stay alike -/
def EQ_row (Rel : gS → gS → Prop) : Prop := ∀ (σx σm : gS) (a1 : Int32) (a2 : Int32) (a3 : Int32), Rel σx σm → ∃ (r : Int32) (σ1 : gS) (σ2 : gS), f_X9_row σx a1 a2 a3 = some (r, σ1) ∧ f_X10_row σm a1 a2 a3 = some (r, σ2) ∧ Rel σ1 σ2
/-- put: class and reference answer alike, and stay alike -/
def EQ_put (Rel : gS → gS → Prop) : Prop := ∀ (σx σm : gS) (a1 : Int32) (a2 : Int32) (a3 : Int64), Rel σx σm → ∃ (r : Int32) (σ1 : gS) (σ2 : gS), f_X9_put σx a1 a2 a3 = some (r, σ1) ∧ f_X10_put σm a1 a2 a3 = some (r, σ2) ∧ Rel σ1 σ2
/-- element: class and reference answer alike, and stay alike -/
def EQ_element (Rel : gS → gS → Prop) : Prop := ∀ (σx σm : gS) (a1 : Int32) (a2 : Int32), Rel σx σm → ∃ (r : Int64), f_X9_element σx a1 a2 = some r ∧ f_X10_element σm a1 a2 = some r ∧ Rel σx σm
/-- shift: class and reference answer alike, and stay alike -/
def EQ_shift (Rel : gS → gS → Prop) : Prop := ∀ (σx σm : gS) (a1 : Int32) (a2 : Int32) (a3 : Int32) (a4 : Int32) (a5 : Int32), Rel σx σm → ∃ (r : Int32) (σ1 : gS) (σ2 : gS), f_X9_shift σx a1 a2 a3 a4 a5 = some (r, σ1) ∧ f_X10_shift σm a1 a2 a3 a4 a5 = some (r, σ2) ∧ Rel σ1 σ2
/-- taken: class and reference answer alike, and stay alike -/
def EQ_taken (Rel : gS → gS → Prop) : Prop := ∀ (σx σm : gS) (a1 : Int32) (a2 : Int32), Rel σx σm → ∃ (r : Int32), f_X9_taken σx a1 a2 = some r ∧ f_X10_taken σm a1 a2 = some r ∧ Rel σx σm
/-- count: class and reference answer alike, and stay alike -/
def EQ_count (Rel : gS → gS → Prop) : Prop := ∀ (σx σm : gS) (a1 : Int32), Rel σx σm → ∃ (r : Int32), f_X9_count σx a1 = some r ∧ f_X10_count σm a1 = some r ∧ Rel σx σm
def EQs (Rel : gS → gS → Prop) : Prop := EQ_post Rel ∧ EQ_posts Rel ∧ EQ_mend Rel ∧ EQ_of Rel ∧ EQ_feed Rel ∧ EQ_law Rel ∧ EQ_round Rel ∧ EQ_first Rel ∧ EQ_by Rel ∧ EQ_unseen Rel ∧ EQ_lost Rel ∧ EQ_red Rel ∧ EQ_gap Rel ∧ EQ_late Rel ∧ EQ_shortest Rel ∧ EQ_leftOut Rel ∧ EQ_thief Rel ∧ EQ_safe Rel ∧ EQ_two Rel ∧ EQ_success Rel ∧ EQ_bestMinute Rel ∧ EQ_mix Rel ∧ EQ_paper Rel ∧ EQ_which Rel ∧ EQ_fit Rel ∧ EQ_hang Rel ∧ EQ_drawn Rel ∧ EQ_walk Rel ∧ EQ_waits Rel ∧ EQ_home Rel ∧ EQ_led Rel ∧ EQ_image Rel ∧ EQ_back Rel ∧ EQ_undo Rel ∧ EQ_redo Rel ∧ EQ_body Rel ∧ EQ_act Rel ∧ EQ_trace Rel ∧ EQ_keep Rel ∧ EQ_row Rel ∧ EQ_put Rel ∧ EQ_element Rel ∧ EQ_shift Rel ∧ EQ_taken Rel ∧ EQ_count Rel
theorem lg_cmp_self (x : Int64) : lg_cmp x x = 0 := by
  unfold lg_cmp
  rw [if_neg (by intro h; exact Int64.lt_irrefl h), if_pos rfl]
set_option maxRecDepth 100000 in
set_option maxHeartbeats 4000000 in
theorem lc_0 {p : Program} {l : Launch} {e : Env} {s : State} {m : MethodId} {below : List Frame} {meth : Method} {c : Code} {D : va_G} {t : gT} {adX adM z : Nat → Nat} {b L : Nat} {xs : Nat → Int32} (C : lwC p s m #[Value.ref b] c 4) (hX : va_X b L xs s s.heap) (hbl : b < s.heap.size) (hF : lwF s D t adX adM z) {Rel : gS → gS → Prop} (hE : EQ_post Rel) {x3 : Int32} (hin_1 : vp_in (x3 + 1) L) (hK : ∀ (σx σm : gS) (H : Heap) (locs : List Loc) (ls : Array Slot), Rel σx σm → lwI s D t adX adM σx σm H locs → lv_has ls 4 [(0, .ref b), (1, .ref (adX 0)), (2, .ref (adM 0)), (3, .int x3)] → W p l e room_1 s m #[Value.ref b] below meth c H locs 82 38218 (lw_Z below #[Value.ref b] s) (F0 m 1744 ls [])) (σx σm : gS) (H : Heap) (locs : List Loc) (ls : Array Slot) (hRel : Rel σx σm) (hI : lwI s D t adX adM σx σm H locs) (hl : lv_has ls 4 [(0, .ref b), (1, .ref (adX 0)), (2, .ref (adM 0)), (3, .int x3)]) : W p l e room_1 s m #[Value.ref b] below meth c H locs 82 38218 (lw_Z below #[Value.ref b] s) (F0 m 228 ls []) := by
  obtain ⟨hx, hb, hml, hown, hts⟩ := id C
  have hbA : ¬ (fun q : Nat => s.heap.size ≤ q) b := Nat.not_le.mpr hbl
  obtain ⟨r, σ1, σ2, hx_, hm_, hRel2⟩ := hE σx σm (xs (x3 + 1).toNatClampNeg) hRel
  refine lv_aload_n hx hb dL_law_228 rfl (lv_at hl 1 rfl) ?_
  refine lv_aload_n hx hb dL_law_229 rfl (lv_at hl 0 rfl) ?_
  refine lv_iload_n hx hb dL_law_230 rfl (lv_at hl 3 rfl) ?_
  refine lv_iconst hx hb dL_law_231 ci_1 ?_
  refine lv_iadd hx hb dL_law_232 ?_
  refine va_sld hx hb hX hbl hbA hI.2.2 hin_1 dL_law_233 ?_
  refine lx_i C hF hI hl.1 (rest := []) shX_0 rfl yv_X9_post k_307 (c_X9_post l D t adX z hF.1 σx (xs (x3 + 1).toNatClampNeg) _ hx_) (As := [.int (xs (x3 + 1).toNatClampNeg)]) rfl rfl ⟨Nat.le_of_ble_eq_true rfl, Nat.le_of_ble_eq_true rfl⟩ ⟨Nat.le_of_ble_eq_true rfl, Nat.le_of_ble_eq_true rfl⟩ (Nat.le_of_ble_eq_true rfl) dL_law_234 (fun H locs hI => ?_)
  refine lv_aload_n hx hb dL_law_237 rfl (lv_at hl 2 rfl) ?_
  refine lv_aload_n hx hb dL_law_238 rfl (lv_at hl 0 rfl) ?_
  refine lv_iload_n hx hb dL_law_239 rfl (lv_at hl 3 rfl) ?_
  refine lv_iconst hx hb dL_law_240 ci_1 ?_
  refine lv_iadd hx hb dL_law_241 ?_
  refine va_sld hx hb hX hbl hbA hI.2.2 hin_1 dL_law_242 ?_
  refine lm_i C hF hI hl.1 (rest := [.int r]) shM_0 rfl yv_X10_post k_1225 (c_X10_post l D t adM z hF.2.1 σm (xs (x3 + 1).toNatClampNeg) _ hm_) (As := [.int (xs (x3 + 1).toNatClampNeg)]) rfl rfl ⟨Nat.le_of_ble_eq_true rfl, Nat.le_of_ble_eq_true rfl⟩ ⟨Nat.le_of_ble_eq_true rfl, Nat.le_of_ble_eq_true rfl⟩ (Nat.le_of_ble_eq_true rfl) dL_law_243 (fun H locs hI => ?_)
  refine lv_icmp_eq (tgt := 1744) hx hb dL_law_246 (by decide) (fun _ => ?_) (fun c0 => absurd rfl c0)
  exact hK _ _ _ _ _ hRel2 hI hl
set_option maxRecDepth 100000 in
set_option maxHeartbeats 4000000 in
theorem lc_1 {p : Program} {l : Launch} {e : Env} {s : State} {m : MethodId} {below : List Frame} {meth : Method} {c : Code} {D : va_G} {t : gT} {adX adM z : Nat → Nat} {b L : Nat} {xs : Nat → Int32} (C : lwC p s m #[Value.ref b] c 4) (hX : va_X b L xs s s.heap) (hbl : b < s.heap.size) (hF : lwF s D t adX adM z) {Rel : gS → gS → Prop} (hE : EQ_posts Rel) {x3 : Int32} (hin_1 : vp_in (x3 + 1) L) (hin_2 : vp_in (x3 + 2) L) (hin_3 : vp_in (x3 + 3) L) (hK : ∀ (σx σm : gS) (H : Heap) (locs : List Loc) (ls : Array Slot), Rel σx σm → lwI s D t adX adM σx σm H locs → lv_has ls 4 [(0, .ref b), (1, .ref (adX 0)), (2, .ref (adM 0)), (3, .int x3)] → W p l e room_1 s m #[Value.ref b] below meth c H locs 82 38218 (lw_Z below #[Value.ref b] s) (F0 m 1744 ls [])) (σx σm : gS) (H : Heap) (locs : List Loc) (ls : Array Slot) (hRel : Rel σx σm) (hI : lwI s D t adX adM σx σm H locs) (hl : lv_has ls 4 [(0, .ref b), (1, .ref (adX 0)), (2, .ref (adM 0)), (3, .int x3)]) : W p l e room_1 s m #[Value.ref b] below meth c H locs 82 38218 (lw_Z below #[Value.ref b] s) (F0 m 251 ls []) := by
  obtain ⟨hx, hb, hml, hown, hts⟩ := id C
  have hbA : ¬ (fun q : Nat => s.heap.size ≤ q) b := Nat.not_le.mpr hbl
  obtain ⟨r, σ1, σ2, hx_, hm_, hRel2⟩ := hE σx σm (xs (x3 + 1).toNatClampNeg) (xs (x3 + 2).toNatClampNeg) (xs (x3 + 3).toNatClampNeg) hRel
  refine lv_aload_n hx hb dL_law_251 rfl (lv_at hl 1 rfl) ?_
  refine lv_aload_n hx hb dL_law_252 rfl (lv_at hl 0 rfl) ?_
  refine lv_iload_n hx hb dL_law_253 rfl (lv_at hl 3 rfl) ?_
  refine lv_iconst hx hb dL_law_254 ci_1 ?_
  refine lv_iadd hx hb dL_law_255 ?_
  refine va_sld hx hb hX hbl hbA hI.2.2 hin_1 dL_law_256 ?_
  refine lv_aload_n hx hb dL_law_257 rfl (lv_at hl 0 rfl) ?_
  refine lv_iload_n hx hb dL_law_258 rfl (lv_at hl 3 rfl) ?_
  refine lv_iconst hx hb dL_law_259 ci_2 ?_
  refine lv_iadd hx hb dL_law_260 ?_
  refine va_sld hx hb hX hbl hbA hI.2.2 hin_2 dL_law_261 ?_
  refine lv_aload_n hx hb dL_law_262 rfl (lv_at hl 0 rfl) ?_
  refine lv_iload_n hx hb dL_law_263 rfl (lv_at hl 3 rfl) ?_
  refine lv_iconst hx hb dL_law_264 ci_3 ?_
  refine lv_iadd hx hb dL_law_265 ?_
  refine va_sld hx hb hX hbl hbA hI.2.2 hin_3 dL_law_266 ?_
  refine lx_i C hF hI hl.1 (rest := []) shX_0 rfl yv_X9_posts k_322 (c_X9_posts l D t adX z hF.1 σx (xs (x3 + 1).toNatClampNeg) (xs (x3 + 2).toNatClampNeg) (xs (x3 + 3).toNatClampNeg) _ hx_) (As := [.int (xs (x3 + 1).toNatClampNeg), .int (xs (x3 + 2).toNatClampNeg), .int (xs (x3 + 3).toNatClampNeg)]) rfl rfl ⟨Nat.le_of_ble_eq_true rfl, Nat.le_of_ble_eq_true rfl⟩ ⟨Nat.le_of_ble_eq_true rfl, Nat.le_of_ble_eq_true rfl⟩ (Nat.le_of_ble_eq_true rfl) dL_law_267 (fun H locs hI => ?_)
  refine lv_aload_n hx hb dL_law_270 rfl (lv_at hl 2 rfl) ?_
  refine lv_aload_n hx hb dL_law_271 rfl (lv_at hl 0 rfl) ?_
  refine lv_iload_n hx hb dL_law_272 rfl (lv_at hl 3 rfl) ?_
  refine lv_iconst hx hb dL_law_273 ci_1 ?_
  refine lv_iadd hx hb dL_law_274 ?_
  refine va_sld hx hb hX hbl hbA hI.2.2 hin_1 dL_law_275 ?_
  refine lv_aload_n hx hb dL_law_276 rfl (lv_at hl 0 rfl) ?_
  refine lv_iload_n hx hb dL_law_277 rfl (lv_at hl 3 rfl) ?_
  refine lv_iconst hx hb dL_law_278 ci_2 ?_
  refine lv_iadd hx hb dL_law_279 ?_
  refine va_sld hx hb hX hbl hbA hI.2.2 hin_2 dL_law_280 ?_
  refine lv_aload_n hx hb dL_law_281 rfl (lv_at hl 0 rfl) ?_
  refine lv_iload_n hx hb dL_law_282 rfl (lv_at hl 3 rfl) ?_
  refine lv_iconst hx hb dL_law_283 ci_3 ?_
  refine lv_iadd hx hb dL_law_284 ?_
  refine va_sld hx hb hX hbl hbA hI.2.2 hin_3 dL_law_285 ?_
  refine lm_i C hF hI hl.1 (rest := [.int r]) shM_0 rfl yv_X10_posts k_1233 (c_X10_posts l D t adM z hF.2.1 σm (xs (x3 + 1).toNatClampNeg) (xs (x3 + 2).toNatClampNeg) (xs (x3 + 3).toNatClampNeg) _ hm_) (As := [.int (xs (x3 + 1).toNatClampNeg), .int (xs (x3 + 2).toNatClampNeg), .int (xs (x3 + 3).toNatClampNeg)]) rfl rfl ⟨Nat.le_of_ble_eq_true rfl, Nat.le_of_ble_eq_true rfl⟩ ⟨Nat.le_of_ble_eq_true rfl, Nat.le_of_ble_eq_true rfl⟩ (Nat.le_of_ble_eq_true rfl) dL_law_286 (fun H locs hI => ?_)
  refine lv_icmp_eq (tgt := 1744) hx hb dL_law_289 (by decide) (fun _ => ?_) (fun c0 => absurd rfl c0)
  exact hK _ _ _ _ _ hRel2 hI hl
set_option maxRecDepth 100000 in
set_option maxHeartbeats 4000000 in
theorem lc_2 {p : Program} {l : Launch} {e : Env} {s : State} {m : MethodId} {below : List Frame} {meth : Method} {c : Code} {D : va_G} {t : gT} {adX adM z : Nat → Nat} {b L : Nat} {xs : Nat → Int32} (C : lwC p s m #[Value.ref b] c 4) (hX : va_X b L xs s s.heap) (hbl : b < s.heap.size) (hF : lwF s D t adX adM z) {Rel : gS → gS → Prop} (hE : EQ_mend Rel) {x3 : Int32} (hin_1 : vp_in (x3 + 1) L) (hin_2 : vp_in (x3 + 2) L) (hin_3 : vp_in (x3 + 3) L) (hK : ∀ (σx σm : gS) (H : Heap) (locs : List Loc) (ls : Array Slot), Rel σx σm → lwI s D t adX adM σx σm H locs → lv_has ls 4 [(0, .ref b), (1, .ref (adX 0)), (2, .ref (adM 0)), (3, .int x3)] → W p l e room_1 s m #[Value.ref b] below meth c H locs 82 38218 (lw_Z below #[Value.ref b] s) (F0 m 1744 ls [])) (σx σm : gS) (H : Heap) (locs : List Loc) (ls : Array Slot) (hRel : Rel σx σm) (hI : lwI s D t adX adM σx σm H locs) (hl : lv_has ls 4 [(0, .ref b), (1, .ref (adX 0)), (2, .ref (adM 0)), (3, .int x3)]) : W p l e room_1 s m #[Value.ref b] below meth c H locs 82 38218 (lw_Z below #[Value.ref b] s) (F0 m 294 ls []) := by
  obtain ⟨hx, hb, hml, hown, hts⟩ := id C
  have hbA : ¬ (fun q : Nat => s.heap.size ≤ q) b := Nat.not_le.mpr hbl
  obtain ⟨r, σ1, σ2, hx_, hm_, hRel2⟩ := hE σx σm (xs (x3 + 1).toNatClampNeg) (xs (x3 + 2).toNatClampNeg) (xs (x3 + 3).toNatClampNeg) hRel
  refine lv_aload_n hx hb dL_law_294 rfl (lv_at hl 1 rfl) ?_
  refine lv_aload_n hx hb dL_law_295 rfl (lv_at hl 0 rfl) ?_
  refine lv_iload_n hx hb dL_law_296 rfl (lv_at hl 3 rfl) ?_
  refine lv_iconst hx hb dL_law_297 ci_1 ?_
  refine lv_iadd hx hb dL_law_298 ?_
  refine va_sld hx hb hX hbl hbA hI.2.2 hin_1 dL_law_299 ?_
  refine lv_aload_n hx hb dL_law_300 rfl (lv_at hl 0 rfl) ?_
  refine lv_iload_n hx hb dL_law_301 rfl (lv_at hl 3 rfl) ?_
  refine lv_iconst hx hb dL_law_302 ci_2 ?_
  refine lv_iadd hx hb dL_law_303 ?_
  refine va_sld hx hb hX hbl hbA hI.2.2 hin_2 dL_law_304 ?_
  refine lv_aload_n hx hb dL_law_305 rfl (lv_at hl 0 rfl) ?_
  refine lv_iload_n hx hb dL_law_306 rfl (lv_at hl 3 rfl) ?_
  refine lv_iconst hx hb dL_law_307 ci_3 ?_
  refine lv_iadd hx hb dL_law_308 ?_
  refine va_sld hx hb hX hbl hbA hI.2.2 hin_3 dL_law_309 ?_
  refine lx_i C hF hI hl.1 (rest := []) shX_0 rfl yv_X9_mend k_343 (c_X9_mend l D t adX z hF.1 σx (xs (x3 + 1).toNatClampNeg) (xs (x3 + 2).toNatClampNeg) (xs (x3 + 3).toNatClampNeg) _ hx_) (As := [.int (xs (x3 + 1).toNatClampNeg), .int (xs (x3 + 2).toNatClampNeg), .int (xs (x3 + 3).toNatClampNeg)]) rfl rfl ⟨Nat.le_of_ble_eq_true rfl, Nat.le_of_ble_eq_true rfl⟩ ⟨Nat.le_of_ble_eq_true rfl, Nat.le_of_ble_eq_true rfl⟩ (Nat.le_of_ble_eq_true rfl) dL_law_310 (fun H locs hI => ?_)
  refine lv_aload_n hx hb dL_law_313 rfl (lv_at hl 2 rfl) ?_
  refine lv_aload_n hx hb dL_law_314 rfl (lv_at hl 0 rfl) ?_
  refine lv_iload_n hx hb dL_law_315 rfl (lv_at hl 3 rfl) ?_
  refine lv_iconst hx hb dL_law_316 ci_1 ?_
  refine lv_iadd hx hb dL_law_317 ?_
  refine va_sld hx hb hX hbl hbA hI.2.2 hin_1 dL_law_318 ?_
  refine lv_aload_n hx hb dL_law_319 rfl (lv_at hl 0 rfl) ?_
  refine lv_iload_n hx hb dL_law_320 rfl (lv_at hl 3 rfl) ?_
  refine lv_iconst hx hb dL_law_321 ci_2 ?_
  refine lv_iadd hx hb dL_law_322 ?_
  refine va_sld hx hb hX hbl hbA hI.2.2 hin_2 dL_law_323 ?_
  refine lv_aload_n hx hb dL_law_324 rfl (lv_at hl 0 rfl) ?_
  refine lv_iload_n hx hb dL_law_325 rfl (lv_at hl 3 rfl) ?_
  refine lv_iconst hx hb dL_law_326 ci_3 ?_
  refine lv_iadd hx hb dL_law_327 ?_
  refine va_sld hx hb hX hbl hbA hI.2.2 hin_3 dL_law_328 ?_
  refine lm_i C hF hI hl.1 (rest := [.int r]) shM_0 rfl yv_X10_mend k_1244 (c_X10_mend l D t adM z hF.2.1 σm (xs (x3 + 1).toNatClampNeg) (xs (x3 + 2).toNatClampNeg) (xs (x3 + 3).toNatClampNeg) _ hm_) (As := [.int (xs (x3 + 1).toNatClampNeg), .int (xs (x3 + 2).toNatClampNeg), .int (xs (x3 + 3).toNatClampNeg)]) rfl rfl ⟨Nat.le_of_ble_eq_true rfl, Nat.le_of_ble_eq_true rfl⟩ ⟨Nat.le_of_ble_eq_true rfl, Nat.le_of_ble_eq_true rfl⟩ (Nat.le_of_ble_eq_true rfl) dL_law_329 (fun H locs hI => ?_)
  refine lv_icmp_eq (tgt := 1744) hx hb dL_law_332 (by decide) (fun _ => ?_) (fun c0 => absurd rfl c0)
  exact hK _ _ _ _ _ hRel2 hI hl
set_option maxRecDepth 100000 in
set_option maxHeartbeats 4000000 in
theorem lc_3 {p : Program} {l : Launch} {e : Env} {s : State} {m : MethodId} {below : List Frame} {meth : Method} {c : Code} {D : va_G} {t : gT} {adX adM z : Nat → Nat} {b L : Nat} {xs : Nat → Int32} (C : lwC p s m #[Value.ref b] c 4) (hX : va_X b L xs s s.heap) (hbl : b < s.heap.size) (hF : lwF s D t adX adM z) {Rel : gS → gS → Prop} (hE : EQ_of Rel) {x3 : Int32} (hin_1 : vp_in (x3 + 1) L) (hin_2 : vp_in (x3 + 2) L) (hK : ∀ (σx σm : gS) (H : Heap) (locs : List Loc) (ls : Array Slot), Rel σx σm → lwI s D t adX adM σx σm H locs → lv_has ls 4 [(0, .ref b), (1, .ref (adX 0)), (2, .ref (adM 0)), (3, .int x3)] → W p l e room_1 s m #[Value.ref b] below meth c H locs 82 38218 (lw_Z below #[Value.ref b] s) (F0 m 1744 ls [])) (σx σm : gS) (H : Heap) (locs : List Loc) (ls : Array Slot) (hRel : Rel σx σm) (hI : lwI s D t adX adM σx σm H locs) (hl : lv_has ls 4 [(0, .ref b), (1, .ref (adX 0)), (2, .ref (adM 0)), (3, .int x3)]) : W p l e room_1 s m #[Value.ref b] below meth c H locs 82 38218 (lw_Z below #[Value.ref b] s) (F0 m 337 ls []) := by
  obtain ⟨hx, hb, hml, hown, hts⟩ := id C
  have hbA : ¬ (fun q : Nat => s.heap.size ≤ q) b := Nat.not_le.mpr hbl
  obtain ⟨r, hx_, hm_, hRel2⟩ := hE σx σm (xs (x3 + 1).toNatClampNeg) (xs (x3 + 2).toNatClampNeg) hRel
  refine lv_aload_n hx hb dL_law_337 rfl (lv_at hl 1 rfl) ?_
  refine lv_aload_n hx hb dL_law_338 rfl (lv_at hl 0 rfl) ?_
  refine lv_iload_n hx hb dL_law_339 rfl (lv_at hl 3 rfl) ?_
  refine lv_iconst hx hb dL_law_340 ci_1 ?_
  refine lv_iadd hx hb dL_law_341 ?_
  refine va_sld hx hb hX hbl hbA hI.2.2 hin_1 dL_law_342 ?_
  refine lv_aload_n hx hb dL_law_343 rfl (lv_at hl 0 rfl) ?_
  refine lv_iload_n hx hb dL_law_344 rfl (lv_at hl 3 rfl) ?_
  refine lv_iconst hx hb dL_law_345 ci_2 ?_
  refine lv_iadd hx hb dL_law_346 ?_
  refine va_sld hx hb hX hbl hbA hI.2.2 hin_2 dL_law_347 ?_
  refine lx_i C hF hI hl.1 (rest := []) shX_0 rfl yv_X9_of k_366 (c_X9_of l D t adX z hF.1 σx (xs (x3 + 1).toNatClampNeg) (xs (x3 + 2).toNatClampNeg) _ hx_) (As := [.int (xs (x3 + 1).toNatClampNeg), .int (xs (x3 + 2).toNatClampNeg)]) rfl rfl ⟨Nat.le_of_ble_eq_true rfl, Nat.le_of_ble_eq_true rfl⟩ ⟨Nat.le_of_ble_eq_true rfl, Nat.le_of_ble_eq_true rfl⟩ (Nat.le_of_ble_eq_true rfl) dL_law_348 (fun H locs hI => ?_)
  refine lv_aload_n hx hb dL_law_351 rfl (lv_at hl 2 rfl) ?_
  refine lv_aload_n hx hb dL_law_352 rfl (lv_at hl 0 rfl) ?_
  refine lv_iload_n hx hb dL_law_353 rfl (lv_at hl 3 rfl) ?_
  refine lv_iconst hx hb dL_law_354 ci_1 ?_
  refine lv_iadd hx hb dL_law_355 ?_
  refine va_sld hx hb hX hbl hbA hI.2.2 hin_1 dL_law_356 ?_
  refine lv_aload_n hx hb dL_law_357 rfl (lv_at hl 0 rfl) ?_
  refine lv_iload_n hx hb dL_law_358 rfl (lv_at hl 3 rfl) ?_
  refine lv_iconst hx hb dL_law_359 ci_2 ?_
  refine lv_iadd hx hb dL_law_360 ?_
  refine va_sld hx hb hX hbl hbA hI.2.2 hin_2 dL_law_361 ?_
  refine lm_i C hF hI hl.1 (rest := [.int r]) shM_0 rfl yv_X10_of k_1267 (c_X10_of l D t adM z hF.2.1 σm (xs (x3 + 1).toNatClampNeg) (xs (x3 + 2).toNatClampNeg) _ hm_) (As := [.int (xs (x3 + 1).toNatClampNeg), .int (xs (x3 + 2).toNatClampNeg)]) rfl rfl ⟨Nat.le_of_ble_eq_true rfl, Nat.le_of_ble_eq_true rfl⟩ ⟨Nat.le_of_ble_eq_true rfl, Nat.le_of_ble_eq_true rfl⟩ (Nat.le_of_ble_eq_true rfl) dL_law_362 (fun H locs hI => ?_)
  refine lv_icmp_eq (tgt := 1744) hx hb dL_law_365 (by decide) (fun _ => ?_) (fun c0 => absurd rfl c0)
  exact hK _ _ _ _ _ hRel2 hI hl
set_option maxRecDepth 100000 in
set_option maxHeartbeats 4000000 in
theorem lc_4 {p : Program} {l : Launch} {e : Env} {s : State} {m : MethodId} {below : List Frame} {meth : Method} {c : Code} {D : va_G} {t : gT} {adX adM z : Nat → Nat} {b L : Nat} {xs : Nat → Int32} (C : lwC p s m #[Value.ref b] c 4) (hX : va_X b L xs s s.heap) (hbl : b < s.heap.size) (hF : lwF s D t adX adM z) {Rel : gS → gS → Prop} (hE : EQ_feed Rel) {x3 : Int32} (hin_1 : vp_in (x3 + 1) L) (hK : ∀ (σx σm : gS) (H : Heap) (locs : List Loc) (ls : Array Slot), Rel σx σm → lwI s D t adX adM σx σm H locs → lv_has ls 4 [(0, .ref b), (1, .ref (adX 0)), (2, .ref (adM 0)), (3, .int x3)] → W p l e room_1 s m #[Value.ref b] below meth c H locs 82 38218 (lw_Z below #[Value.ref b] s) (F0 m 1744 ls [])) (σx σm : gS) (H : Heap) (locs : List Loc) (ls : Array Slot) (hRel : Rel σx σm) (hI : lwI s D t adX adM σx σm H locs) (hl : lv_has ls 4 [(0, .ref b), (1, .ref (adX 0)), (2, .ref (adM 0)), (3, .int x3)]) : W p l e room_1 s m #[Value.ref b] below meth c H locs 82 38218 (lw_Z below #[Value.ref b] s) (F0 m 370 ls []) := by
  obtain ⟨hx, hb, hml, hown, hts⟩ := id C
  have hbA : ¬ (fun q : Nat => s.heap.size ≤ q) b := Nat.not_le.mpr hbl
  obtain ⟨r, σ1, σ2, hx_, hm_, hRel2⟩ := hE σx σm (xs (x3 + 1).toNatClampNeg) hRel
  refine lv_aload_n hx hb dL_law_370 rfl (lv_at hl 1 rfl) ?_
  refine lv_aload_n hx hb dL_law_371 rfl (lv_at hl 0 rfl) ?_
  refine lv_iload_n hx hb dL_law_372 rfl (lv_at hl 3 rfl) ?_
  refine lv_iconst hx hb dL_law_373 ci_1 ?_
  refine lv_iadd hx hb dL_law_374 ?_
  refine va_sld hx hb hX hbl hbA hI.2.2 hin_1 dL_law_375 ?_
  refine lx_i C hF hI hl.1 (rest := []) shX_0 rfl yv_X9_feed k_371 (c_X9_feed l D t adX z hF.1 σx (xs (x3 + 1).toNatClampNeg) _ hx_) (As := [.int (xs (x3 + 1).toNatClampNeg)]) rfl rfl ⟨Nat.le_of_ble_eq_true rfl, Nat.le_of_ble_eq_true rfl⟩ ⟨Nat.le_of_ble_eq_true rfl, Nat.le_of_ble_eq_true rfl⟩ (Nat.le_of_ble_eq_true rfl) dL_law_376 (fun H locs hI => ?_)
  refine lv_aload_n hx hb dL_law_379 rfl (lv_at hl 2 rfl) ?_
  refine lv_aload_n hx hb dL_law_380 rfl (lv_at hl 0 rfl) ?_
  refine lv_iload_n hx hb dL_law_381 rfl (lv_at hl 3 rfl) ?_
  refine lv_iconst hx hb dL_law_382 ci_1 ?_
  refine lv_iadd hx hb dL_law_383 ?_
  refine va_sld hx hb hX hbl hbA hI.2.2 hin_1 dL_law_384 ?_
  refine lm_i C hF hI hl.1 (rest := [.int r]) shM_0 rfl yv_X10_feed k_1279 (c_X10_feed l D t adM z hF.2.1 σm (xs (x3 + 1).toNatClampNeg) _ hm_) (As := [.int (xs (x3 + 1).toNatClampNeg)]) rfl rfl ⟨Nat.le_of_ble_eq_true rfl, Nat.le_of_ble_eq_true rfl⟩ ⟨Nat.le_of_ble_eq_true rfl, Nat.le_of_ble_eq_true rfl⟩ (Nat.le_of_ble_eq_true rfl) dL_law_385 (fun H locs hI => ?_)
  refine lv_icmp_eq (tgt := 1744) hx hb dL_law_388 (by decide) (fun _ => ?_) (fun c0 => absurd rfl c0)
  exact hK _ _ _ _ _ hRel2 hI hl
set_option maxRecDepth 100000 in
set_option maxHeartbeats 4000000 in
theorem lc_5 {p : Program} {l : Launch} {e : Env} {s : State} {m : MethodId} {below : List Frame} {meth : Method} {c : Code} {D : va_G} {t : gT} {adX adM z : Nat → Nat} {b L : Nat} {xs : Nat → Int32} (C : lwC p s m #[Value.ref b] c 4) (hX : va_X b L xs s s.heap) (hbl : b < s.heap.size) (hF : lwF s D t adX adM z) {Rel : gS → gS → Prop} (hE : EQ_law Rel) {x3 : Int32} (hK : ∀ (σx σm : gS) (H : Heap) (locs : List Loc) (ls : Array Slot), Rel σx σm → lwI s D t adX adM σx σm H locs → lv_has ls 4 [(0, .ref b), (1, .ref (adX 0)), (2, .ref (adM 0)), (3, .int x3)] → W p l e room_1 s m #[Value.ref b] below meth c H locs 82 38218 (lw_Z below #[Value.ref b] s) (F0 m 1744 ls [])) (σx σm : gS) (H : Heap) (locs : List Loc) (ls : Array Slot) (hRel : Rel σx σm) (hI : lwI s D t adX adM σx σm H locs) (hl : lv_has ls 4 [(0, .ref b), (1, .ref (adX 0)), (2, .ref (adM 0)), (3, .int x3)]) : W p l e room_1 s m #[Value.ref b] below meth c H locs 82 38218 (lw_Z below #[Value.ref b] s) (F0 m 393 ls []) := by
  obtain ⟨hx, hb, hml, hown, hts⟩ := id C
  have hbA : ¬ (fun q : Nat => s.heap.size ≤ q) b := Nat.not_le.mpr hbl
  obtain ⟨r, σ1, σ2, hx_, hm_, hRel2⟩ := hE σx σm hRel
  refine lv_aload_n hx hb dL_law_393 rfl (lv_at hl 1 rfl) ?_
  refine lx_i C hF hI hl.1 (rest := []) shX_0 rfl yv_X9_law k_379 (c_X9_law l D t adX z hF.1 σx  _ hx_) (As := []) rfl rfl ⟨Nat.le_of_ble_eq_true rfl, Nat.le_of_ble_eq_true rfl⟩ ⟨Nat.le_of_ble_eq_true rfl, Nat.le_of_ble_eq_true rfl⟩ (Nat.le_of_ble_eq_true rfl) dL_law_394 (fun H locs hI => ?_)
  refine lv_aload_n hx hb dL_law_397 rfl (lv_at hl 2 rfl) ?_
  refine lm_i C hF hI hl.1 (rest := [.int r]) shM_0 rfl yv_X10_law k_1283 (c_X10_law l D t adM z hF.2.1 σm  _ hm_) (As := []) rfl rfl ⟨Nat.le_of_ble_eq_true rfl, Nat.le_of_ble_eq_true rfl⟩ ⟨Nat.le_of_ble_eq_true rfl, Nat.le_of_ble_eq_true rfl⟩ (Nat.le_of_ble_eq_true rfl) dL_law_398 (fun H locs hI => ?_)
  refine lv_icmp_eq (tgt := 1744) hx hb dL_law_401 (by decide) (fun _ => ?_) (fun c0 => absurd rfl c0)
  exact hK _ _ _ _ _ hRel2 hI hl
set_option maxRecDepth 100000 in
set_option maxHeartbeats 4000000 in
theorem lc_6 {p : Program} {l : Launch} {e : Env} {s : State} {m : MethodId} {below : List Frame} {meth : Method} {c : Code} {D : va_G} {t : gT} {adX adM z : Nat → Nat} {b L : Nat} {xs : Nat → Int32} (C : lwC p s m #[Value.ref b] c 4) (hX : va_X b L xs s s.heap) (hbl : b < s.heap.size) (hF : lwF s D t adX adM z) {Rel : gS → gS → Prop} (hE : EQ_round Rel) {x3 : Int32} (hin_1 : vp_in (x3 + 1) L) (hin_2 : vp_in (x3 + 2) L) (hK : ∀ (σx σm : gS) (H : Heap) (locs : List Loc) (ls : Array Slot), Rel σx σm → lwI s D t adX adM σx σm H locs → lv_has ls 4 [(0, .ref b), (1, .ref (adX 0)), (2, .ref (adM 0)), (3, .int x3)] → W p l e room_1 s m #[Value.ref b] below meth c H locs 82 38218 (lw_Z below #[Value.ref b] s) (F0 m 1744 ls [])) (σx σm : gS) (H : Heap) (locs : List Loc) (ls : Array Slot) (hRel : Rel σx σm) (hI : lwI s D t adX adM σx σm H locs) (hl : lv_has ls 4 [(0, .ref b), (1, .ref (adX 0)), (2, .ref (adM 0)), (3, .int x3)]) : W p l e room_1 s m #[Value.ref b] below meth c H locs 82 38218 (lw_Z below #[Value.ref b] s) (F0 m 406 ls []) := by
  obtain ⟨hx, hb, hml, hown, hts⟩ := id C
  have hbA : ¬ (fun q : Nat => s.heap.size ≤ q) b := Nat.not_le.mpr hbl
  obtain ⟨r, σ1, σ2, hx_, hm_, hRel2⟩ := hE σx σm (xs (x3 + 1).toNatClampNeg) (xs (x3 + 2).toNatClampNeg) hRel
  refine lv_aload_n hx hb dL_law_406 rfl (lv_at hl 1 rfl) ?_
  refine lv_aload_n hx hb dL_law_407 rfl (lv_at hl 0 rfl) ?_
  refine lv_iload_n hx hb dL_law_408 rfl (lv_at hl 3 rfl) ?_
  refine lv_iconst hx hb dL_law_409 ci_1 ?_
  refine lv_iadd hx hb dL_law_410 ?_
  refine va_sld hx hb hX hbl hbA hI.2.2 hin_1 dL_law_411 ?_
  refine lv_aload_n hx hb dL_law_412 rfl (lv_at hl 0 rfl) ?_
  refine lv_iload_n hx hb dL_law_413 rfl (lv_at hl 3 rfl) ?_
  refine lv_iconst hx hb dL_law_414 ci_2 ?_
  refine lv_iadd hx hb dL_law_415 ?_
  refine va_sld hx hb hX hbl hbA hI.2.2 hin_2 dL_law_416 ?_
  refine lx_i C hF hI hl.1 (rest := []) shX_0 rfl yv_X9_round k_514 (c_X9_round l D t adX z hF.1 σx (xs (x3 + 1).toNatClampNeg) (xs (x3 + 2).toNatClampNeg) _ hx_) (As := [.int (xs (x3 + 1).toNatClampNeg), .int (xs (x3 + 2).toNatClampNeg)]) rfl rfl ⟨Nat.le_of_ble_eq_true rfl, Nat.le_of_ble_eq_true rfl⟩ ⟨Nat.le_of_ble_eq_true rfl, Nat.le_of_ble_eq_true rfl⟩ (Nat.le_of_ble_eq_true rfl) dL_law_417 (fun H locs hI => ?_)
  refine lv_aload_n hx hb dL_law_420 rfl (lv_at hl 2 rfl) ?_
  refine lv_aload_n hx hb dL_law_421 rfl (lv_at hl 0 rfl) ?_
  refine lv_iload_n hx hb dL_law_422 rfl (lv_at hl 3 rfl) ?_
  refine lv_iconst hx hb dL_law_423 ci_1 ?_
  refine lv_iadd hx hb dL_law_424 ?_
  refine va_sld hx hb hX hbl hbA hI.2.2 hin_1 dL_law_425 ?_
  refine lv_aload_n hx hb dL_law_426 rfl (lv_at hl 0 rfl) ?_
  refine lv_iload_n hx hb dL_law_427 rfl (lv_at hl 3 rfl) ?_
  refine lv_iconst hx hb dL_law_428 ci_2 ?_
  refine lv_iadd hx hb dL_law_429 ?_
  refine va_sld hx hb hX hbl hbA hI.2.2 hin_2 dL_law_430 ?_
  refine lm_i C hF hI hl.1 (rest := [.int r]) shM_0 rfl yv_X10_round k_1334 (c_X10_round l D t adM z hF.2.1 σm (xs (x3 + 1).toNatClampNeg) (xs (x3 + 2).toNatClampNeg) _ hm_) (As := [.int (xs (x3 + 1).toNatClampNeg), .int (xs (x3 + 2).toNatClampNeg)]) rfl rfl ⟨Nat.le_of_ble_eq_true rfl, Nat.le_of_ble_eq_true rfl⟩ ⟨Nat.le_of_ble_eq_true rfl, Nat.le_of_ble_eq_true rfl⟩ (Nat.le_of_ble_eq_true rfl) dL_law_431 (fun H locs hI => ?_)
  refine lv_icmp_eq (tgt := 1744) hx hb dL_law_434 (by decide) (fun _ => ?_) (fun c0 => absurd rfl c0)
  exact hK _ _ _ _ _ hRel2 hI hl
set_option maxRecDepth 100000 in
set_option maxHeartbeats 4000000 in
theorem lc_7 {p : Program} {l : Launch} {e : Env} {s : State} {m : MethodId} {below : List Frame} {meth : Method} {c : Code} {D : va_G} {t : gT} {adX adM z : Nat → Nat} {b L : Nat} {xs : Nat → Int32} (C : lwC p s m #[Value.ref b] c 4) (hX : va_X b L xs s s.heap) (hbl : b < s.heap.size) (hF : lwF s D t adX adM z) {Rel : gS → gS → Prop} (hE : EQ_first Rel) {x3 : Int32} (hin_1 : vp_in (x3 + 1) L) (hin_2 : vp_in (x3 + 2) L) (hK : ∀ (σx σm : gS) (H : Heap) (locs : List Loc) (ls : Array Slot), Rel σx σm → lwI s D t adX adM σx σm H locs → lv_has ls 4 [(0, .ref b), (1, .ref (adX 0)), (2, .ref (adM 0)), (3, .int x3)] → W p l e room_1 s m #[Value.ref b] below meth c H locs 82 38218 (lw_Z below #[Value.ref b] s) (F0 m 1744 ls [])) (σx σm : gS) (H : Heap) (locs : List Loc) (ls : Array Slot) (hRel : Rel σx σm) (hI : lwI s D t adX adM σx σm H locs) (hl : lv_has ls 4 [(0, .ref b), (1, .ref (adX 0)), (2, .ref (adM 0)), (3, .int x3)]) : W p l e room_1 s m #[Value.ref b] below meth c H locs 82 38218 (lw_Z below #[Value.ref b] s) (F0 m 439 ls []) := by
  obtain ⟨hx, hb, hml, hown, hts⟩ := id C
  have hbA : ¬ (fun q : Nat => s.heap.size ≤ q) b := Nat.not_le.mpr hbl
  obtain ⟨r, σ1, σ2, hx_, hm_, hRel2⟩ := hE σx σm (xs (x3 + 1).toNatClampNeg) (xs (x3 + 2).toNatClampNeg) hRel
  refine lv_aload_n hx hb dL_law_439 rfl (lv_at hl 1 rfl) ?_
  refine lv_aload_n hx hb dL_law_440 rfl (lv_at hl 0 rfl) ?_
  refine lv_iload_n hx hb dL_law_441 rfl (lv_at hl 3 rfl) ?_
  refine lv_iconst hx hb dL_law_442 ci_1 ?_
  refine lv_iadd hx hb dL_law_443 ?_
  refine va_sld hx hb hX hbl hbA hI.2.2 hin_1 dL_law_444 ?_
  refine lv_aload_n hx hb dL_law_445 rfl (lv_at hl 0 rfl) ?_
  refine lv_iload_n hx hb dL_law_446 rfl (lv_at hl 3 rfl) ?_
  refine lv_iconst hx hb dL_law_447 ci_2 ?_
  refine lv_iadd hx hb dL_law_448 ?_
  refine va_sld hx hb hX hbl hbA hI.2.2 hin_2 dL_law_449 ?_
  refine lx_i C hF hI hl.1 (rest := []) shX_0 rfl yv_X9_first k_551 (c_X9_first l D t adX z hF.1 σx (xs (x3 + 1).toNatClampNeg) (xs (x3 + 2).toNatClampNeg) _ hx_) (As := [.int (xs (x3 + 1).toNatClampNeg), .int (xs (x3 + 2).toNatClampNeg)]) rfl rfl ⟨Nat.le_of_ble_eq_true rfl, Nat.le_of_ble_eq_true rfl⟩ ⟨Nat.le_of_ble_eq_true rfl, Nat.le_of_ble_eq_true rfl⟩ (Nat.le_of_ble_eq_true rfl) dL_law_450 (fun H locs hI => ?_)
  refine lv_aload_n hx hb dL_law_453 rfl (lv_at hl 2 rfl) ?_
  refine lv_aload_n hx hb dL_law_454 rfl (lv_at hl 0 rfl) ?_
  refine lv_iload_n hx hb dL_law_455 rfl (lv_at hl 3 rfl) ?_
  refine lv_iconst hx hb dL_law_456 ci_1 ?_
  refine lv_iadd hx hb dL_law_457 ?_
  refine va_sld hx hb hX hbl hbA hI.2.2 hin_1 dL_law_458 ?_
  refine lv_aload_n hx hb dL_law_459 rfl (lv_at hl 0 rfl) ?_
  refine lv_iload_n hx hb dL_law_460 rfl (lv_at hl 3 rfl) ?_
  refine lv_iconst hx hb dL_law_461 ci_2 ?_
  refine lv_iadd hx hb dL_law_462 ?_
  refine va_sld hx hb hX hbl hbA hI.2.2 hin_2 dL_law_463 ?_
  refine lm_i C hF hI hl.1 (rest := [.int r]) shM_0 rfl yv_X10_first k_1371 (c_X10_first l D t adM z hF.2.1 σm (xs (x3 + 1).toNatClampNeg) (xs (x3 + 2).toNatClampNeg) _ hm_) (As := [.int (xs (x3 + 1).toNatClampNeg), .int (xs (x3 + 2).toNatClampNeg)]) rfl rfl ⟨Nat.le_of_ble_eq_true rfl, Nat.le_of_ble_eq_true rfl⟩ ⟨Nat.le_of_ble_eq_true rfl, Nat.le_of_ble_eq_true rfl⟩ (Nat.le_of_ble_eq_true rfl) dL_law_464 (fun H locs hI => ?_)
  refine lv_icmp_eq (tgt := 1744) hx hb dL_law_467 (by decide) (fun _ => ?_) (fun c0 => absurd rfl c0)
  exact hK _ _ _ _ _ hRel2 hI hl
set_option maxRecDepth 100000 in
set_option maxHeartbeats 4000000 in
theorem lc_8 {p : Program} {l : Launch} {e : Env} {s : State} {m : MethodId} {below : List Frame} {meth : Method} {c : Code} {D : va_G} {t : gT} {adX adM z : Nat → Nat} {b L : Nat} {xs : Nat → Int32} (C : lwC p s m #[Value.ref b] c 4) (hX : va_X b L xs s s.heap) (hbl : b < s.heap.size) (hF : lwF s D t adX adM z) {Rel : gS → gS → Prop} (hE : EQ_by Rel) {x3 : Int32} (hin_1 : vp_in (x3 + 1) L) (hin_2 : vp_in (x3 + 2) L) (hin_3 : vp_in (x3 + 3) L) (hK : ∀ (σx σm : gS) (H : Heap) (locs : List Loc) (ls : Array Slot), Rel σx σm → lwI s D t adX adM σx σm H locs → lv_has ls 4 [(0, .ref b), (1, .ref (adX 0)), (2, .ref (adM 0)), (3, .int x3)] → W p l e room_1 s m #[Value.ref b] below meth c H locs 82 38218 (lw_Z below #[Value.ref b] s) (F0 m 1744 ls [])) (σx σm : gS) (H : Heap) (locs : List Loc) (ls : Array Slot) (hRel : Rel σx σm) (hI : lwI s D t adX adM σx σm H locs) (hl : lv_has ls 4 [(0, .ref b), (1, .ref (adX 0)), (2, .ref (adM 0)), (3, .int x3)]) : W p l e room_1 s m #[Value.ref b] below meth c H locs 82 38218 (lw_Z below #[Value.ref b] s) (F0 m 472 ls []) := by
  obtain ⟨hx, hb, hml, hown, hts⟩ := id C
  have hbA : ¬ (fun q : Nat => s.heap.size ≤ q) b := Nat.not_le.mpr hbl
  obtain ⟨r, σ1, σ2, hx_, hm_, hRel2⟩ := hE σx σm (xs (x3 + 1).toNatClampNeg) (xs (x3 + 2).toNatClampNeg) (xs (x3 + 3).toNatClampNeg) hRel
  refine lv_aload_n hx hb dL_law_472 rfl (lv_at hl 1 rfl) ?_
  refine lv_aload_n hx hb dL_law_473 rfl (lv_at hl 0 rfl) ?_
  refine lv_iload_n hx hb dL_law_474 rfl (lv_at hl 3 rfl) ?_
  refine lv_iconst hx hb dL_law_475 ci_1 ?_
  refine lv_iadd hx hb dL_law_476 ?_
  refine va_sld hx hb hX hbl hbA hI.2.2 hin_1 dL_law_477 ?_
  refine lv_aload_n hx hb dL_law_478 rfl (lv_at hl 0 rfl) ?_
  refine lv_iload_n hx hb dL_law_479 rfl (lv_at hl 3 rfl) ?_
  refine lv_iconst hx hb dL_law_480 ci_2 ?_
  refine lv_iadd hx hb dL_law_481 ?_
  refine va_sld hx hb hX hbl hbA hI.2.2 hin_2 dL_law_482 ?_
  refine lv_aload_n hx hb dL_law_483 rfl (lv_at hl 0 rfl) ?_
  refine lv_iload_n hx hb dL_law_484 rfl (lv_at hl 3 rfl) ?_
  refine lv_iconst hx hb dL_law_485 ci_3 ?_
  refine lv_iadd hx hb dL_law_486 ?_
  refine va_sld hx hb hX hbl hbA hI.2.2 hin_3 dL_law_487 ?_
  refine lx_i C hF hI hl.1 (rest := []) shX_0 rfl yv_X9_by k_559 (c_X9_by l D t adX z hF.1 σx (xs (x3 + 1).toNatClampNeg) (xs (x3 + 2).toNatClampNeg) (xs (x3 + 3).toNatClampNeg) _ hx_) (As := [.int (xs (x3 + 1).toNatClampNeg), .int (xs (x3 + 2).toNatClampNeg), .int (xs (x3 + 3).toNatClampNeg)]) rfl rfl ⟨Nat.le_of_ble_eq_true rfl, Nat.le_of_ble_eq_true rfl⟩ ⟨Nat.le_of_ble_eq_true rfl, Nat.le_of_ble_eq_true rfl⟩ (Nat.le_of_ble_eq_true rfl) dL_law_488 (fun H locs hI => ?_)
  refine lv_aload_n hx hb dL_law_491 rfl (lv_at hl 2 rfl) ?_
  refine lv_aload_n hx hb dL_law_492 rfl (lv_at hl 0 rfl) ?_
  refine lv_iload_n hx hb dL_law_493 rfl (lv_at hl 3 rfl) ?_
  refine lv_iconst hx hb dL_law_494 ci_1 ?_
  refine lv_iadd hx hb dL_law_495 ?_
  refine va_sld hx hb hX hbl hbA hI.2.2 hin_1 dL_law_496 ?_
  refine lv_aload_n hx hb dL_law_497 rfl (lv_at hl 0 rfl) ?_
  refine lv_iload_n hx hb dL_law_498 rfl (lv_at hl 3 rfl) ?_
  refine lv_iconst hx hb dL_law_499 ci_2 ?_
  refine lv_iadd hx hb dL_law_500 ?_
  refine va_sld hx hb hX hbl hbA hI.2.2 hin_2 dL_law_501 ?_
  refine lv_aload_n hx hb dL_law_502 rfl (lv_at hl 0 rfl) ?_
  refine lv_iload_n hx hb dL_law_503 rfl (lv_at hl 3 rfl) ?_
  refine lv_iconst hx hb dL_law_504 ci_3 ?_
  refine lv_iadd hx hb dL_law_505 ?_
  refine va_sld hx hb hX hbl hbA hI.2.2 hin_3 dL_law_506 ?_
  refine lm_i C hF hI hl.1 (rest := [.int r]) shM_0 rfl yv_X10_by k_1379 (c_X10_by l D t adM z hF.2.1 σm (xs (x3 + 1).toNatClampNeg) (xs (x3 + 2).toNatClampNeg) (xs (x3 + 3).toNatClampNeg) _ hm_) (As := [.int (xs (x3 + 1).toNatClampNeg), .int (xs (x3 + 2).toNatClampNeg), .int (xs (x3 + 3).toNatClampNeg)]) rfl rfl ⟨Nat.le_of_ble_eq_true rfl, Nat.le_of_ble_eq_true rfl⟩ ⟨Nat.le_of_ble_eq_true rfl, Nat.le_of_ble_eq_true rfl⟩ (Nat.le_of_ble_eq_true rfl) dL_law_507 (fun H locs hI => ?_)
  refine lv_icmp_eq (tgt := 1744) hx hb dL_law_510 (by decide) (fun _ => ?_) (fun c0 => absurd rfl c0)
  exact hK _ _ _ _ _ hRel2 hI hl
set_option maxRecDepth 100000 in
set_option maxHeartbeats 4000000 in
theorem lc_9 {p : Program} {l : Launch} {e : Env} {s : State} {m : MethodId} {below : List Frame} {meth : Method} {c : Code} {D : va_G} {t : gT} {adX adM z : Nat → Nat} {b L : Nat} {xs : Nat → Int32} (C : lwC p s m #[Value.ref b] c 4) (hX : va_X b L xs s s.heap) (hbl : b < s.heap.size) (hF : lwF s D t adX adM z) {Rel : gS → gS → Prop} (hE : EQ_unseen Rel) {x3 : Int32} (hin_1 : vp_in (x3 + 1) L) (hin_2 : vp_in (x3 + 2) L) (hin_3 : vp_in (x3 + 3) L) (hin_4 : vp_in (x3 + 4) L) (hK : ∀ (σx σm : gS) (H : Heap) (locs : List Loc) (ls : Array Slot), Rel σx σm → lwI s D t adX adM σx σm H locs → lv_has ls 4 [(0, .ref b), (1, .ref (adX 0)), (2, .ref (adM 0)), (3, .int x3)] → W p l e room_1 s m #[Value.ref b] below meth c H locs 82 38218 (lw_Z below #[Value.ref b] s) (F0 m 1744 ls [])) (σx σm : gS) (H : Heap) (locs : List Loc) (ls : Array Slot) (hRel : Rel σx σm) (hI : lwI s D t adX adM σx σm H locs) (hl : lv_has ls 4 [(0, .ref b), (1, .ref (adX 0)), (2, .ref (adM 0)), (3, .int x3)]) : W p l e room_1 s m #[Value.ref b] below meth c H locs 82 38218 (lw_Z below #[Value.ref b] s) (F0 m 515 ls []) := by
  obtain ⟨hx, hb, hml, hown, hts⟩ := id C
  have hbA : ¬ (fun q : Nat => s.heap.size ≤ q) b := Nat.not_le.mpr hbl
  obtain ⟨r, σ1, σ2, hx_, hm_, hRel2⟩ := hE σx σm (xs (x3 + 1).toNatClampNeg) (xs (x3 + 2).toNatClampNeg) (xs (x3 + 3).toNatClampNeg) (xs (x3 + 4).toNatClampNeg) hRel
  refine lv_aload_n hx hb dL_law_515 rfl (lv_at hl 1 rfl) ?_
  refine lv_aload_n hx hb dL_law_516 rfl (lv_at hl 0 rfl) ?_
  refine lv_iload_n hx hb dL_law_517 rfl (lv_at hl 3 rfl) ?_
  refine lv_iconst hx hb dL_law_518 ci_1 ?_
  refine lv_iadd hx hb dL_law_519 ?_
  refine va_sld hx hb hX hbl hbA hI.2.2 hin_1 dL_law_520 ?_
  refine lv_aload_n hx hb dL_law_521 rfl (lv_at hl 0 rfl) ?_
  refine lv_iload_n hx hb dL_law_522 rfl (lv_at hl 3 rfl) ?_
  refine lv_iconst hx hb dL_law_523 ci_2 ?_
  refine lv_iadd hx hb dL_law_524 ?_
  refine va_sld hx hb hX hbl hbA hI.2.2 hin_2 dL_law_525 ?_
  refine lv_aload_n hx hb dL_law_526 rfl (lv_at hl 0 rfl) ?_
  refine lv_iload_n hx hb dL_law_527 rfl (lv_at hl 3 rfl) ?_
  refine lv_iconst hx hb dL_law_528 ci_3 ?_
  refine lv_iadd hx hb dL_law_529 ?_
  refine va_sld hx hb hX hbl hbA hI.2.2 hin_3 dL_law_530 ?_
  refine lv_aload_n hx hb dL_law_531 rfl (lv_at hl 0 rfl) ?_
  refine lv_iload_n hx hb dL_law_532 rfl (lv_at hl 3 rfl) ?_
  refine lv_iconst hx hb dL_law_533 ci_4 ?_
  refine lv_iadd hx hb dL_law_534 ?_
  refine va_sld hx hb hX hbl hbA hI.2.2 hin_4 dL_law_535 ?_
  refine lx_i C hF hI hl.1 (rest := []) shX_0 rfl yv_X9_unseen k_574 (c_X9_unseen l D t adX z hF.1 σx (xs (x3 + 1).toNatClampNeg) (xs (x3 + 2).toNatClampNeg) (xs (x3 + 3).toNatClampNeg) (xs (x3 + 4).toNatClampNeg) _ hx_) (As := [.int (xs (x3 + 1).toNatClampNeg), .int (xs (x3 + 2).toNatClampNeg), .int (xs (x3 + 3).toNatClampNeg), .int (xs (x3 + 4).toNatClampNeg)]) rfl rfl ⟨Nat.le_of_ble_eq_true rfl, Nat.le_of_ble_eq_true rfl⟩ ⟨Nat.le_of_ble_eq_true rfl, Nat.le_of_ble_eq_true rfl⟩ (Nat.le_of_ble_eq_true rfl) dL_law_536 (fun H locs hI => ?_)
  refine lv_aload_n hx hb dL_law_539 rfl (lv_at hl 2 rfl) ?_
  refine lv_aload_n hx hb dL_law_540 rfl (lv_at hl 0 rfl) ?_
  refine lv_iload_n hx hb dL_law_541 rfl (lv_at hl 3 rfl) ?_
  refine lv_iconst hx hb dL_law_542 ci_1 ?_
  refine lv_iadd hx hb dL_law_543 ?_
  refine va_sld hx hb hX hbl hbA hI.2.2 hin_1 dL_law_544 ?_
  refine lv_aload_n hx hb dL_law_545 rfl (lv_at hl 0 rfl) ?_
  refine lv_iload_n hx hb dL_law_546 rfl (lv_at hl 3 rfl) ?_
  refine lv_iconst hx hb dL_law_547 ci_2 ?_
  refine lv_iadd hx hb dL_law_548 ?_
  refine va_sld hx hb hX hbl hbA hI.2.2 hin_2 dL_law_549 ?_
  refine lv_aload_n hx hb dL_law_550 rfl (lv_at hl 0 rfl) ?_
  refine lv_iload_n hx hb dL_law_551 rfl (lv_at hl 3 rfl) ?_
  refine lv_iconst hx hb dL_law_552 ci_3 ?_
  refine lv_iadd hx hb dL_law_553 ?_
  refine va_sld hx hb hX hbl hbA hI.2.2 hin_3 dL_law_554 ?_
  refine lv_aload_n hx hb dL_law_555 rfl (lv_at hl 0 rfl) ?_
  refine lv_iload_n hx hb dL_law_556 rfl (lv_at hl 3 rfl) ?_
  refine lv_iconst hx hb dL_law_557 ci_4 ?_
  refine lv_iadd hx hb dL_law_558 ?_
  refine va_sld hx hb hX hbl hbA hI.2.2 hin_4 dL_law_559 ?_
  refine lm_i C hF hI hl.1 (rest := [.int r]) shM_0 rfl yv_X10_unseen k_1386 (c_X10_unseen l D t adM z hF.2.1 σm (xs (x3 + 1).toNatClampNeg) (xs (x3 + 2).toNatClampNeg) (xs (x3 + 3).toNatClampNeg) (xs (x3 + 4).toNatClampNeg) _ hm_) (As := [.int (xs (x3 + 1).toNatClampNeg), .int (xs (x3 + 2).toNatClampNeg), .int (xs (x3 + 3).toNatClampNeg), .int (xs (x3 + 4).toNatClampNeg)]) rfl rfl ⟨Nat.le_of_ble_eq_true rfl, Nat.le_of_ble_eq_true rfl⟩ ⟨Nat.le_of_ble_eq_true rfl, Nat.le_of_ble_eq_true rfl⟩ (Nat.le_of_ble_eq_true rfl) dL_law_560 (fun H locs hI => ?_)
  refine lv_icmp_eq (tgt := 1744) hx hb dL_law_563 (by decide) (fun _ => ?_) (fun c0 => absurd rfl c0)
  exact hK _ _ _ _ _ hRel2 hI hl
set_option maxRecDepth 100000 in
set_option maxHeartbeats 4000000 in
theorem lc_10 {p : Program} {l : Launch} {e : Env} {s : State} {m : MethodId} {below : List Frame} {meth : Method} {c : Code} {D : va_G} {t : gT} {adX adM z : Nat → Nat} {b L : Nat} {xs : Nat → Int32} (C : lwC p s m #[Value.ref b] c 4) (hX : va_X b L xs s s.heap) (hbl : b < s.heap.size) (hF : lwF s D t adX adM z) {Rel : gS → gS → Prop} (hE : EQ_lost Rel) {x3 : Int32} (hin_1 : vp_in (x3 + 1) L) (hin_2 : vp_in (x3 + 2) L) (hin_3 : vp_in (x3 + 3) L) (hin_4 : vp_in (x3 + 4) L) (hK : ∀ (σx σm : gS) (H : Heap) (locs : List Loc) (ls : Array Slot), Rel σx σm → lwI s D t adX adM σx σm H locs → lv_has ls 4 [(0, .ref b), (1, .ref (adX 0)), (2, .ref (adM 0)), (3, .int x3)] → W p l e room_1 s m #[Value.ref b] below meth c H locs 82 38218 (lw_Z below #[Value.ref b] s) (F0 m 1744 ls [])) (σx σm : gS) (H : Heap) (locs : List Loc) (ls : Array Slot) (hRel : Rel σx σm) (hI : lwI s D t adX adM σx σm H locs) (hl : lv_has ls 4 [(0, .ref b), (1, .ref (adX 0)), (2, .ref (adM 0)), (3, .int x3)]) : W p l e room_1 s m #[Value.ref b] below meth c H locs 82 38218 (lw_Z below #[Value.ref b] s) (F0 m 568 ls []) := by
  obtain ⟨hx, hb, hml, hown, hts⟩ := id C
  have hbA : ¬ (fun q : Nat => s.heap.size ≤ q) b := Nat.not_le.mpr hbl
  obtain ⟨r, σ1, σ2, hx_, hm_, hRel2⟩ := hE σx σm (xs (x3 + 1).toNatClampNeg) (xs (x3 + 2).toNatClampNeg) (xs (x3 + 3).toNatClampNeg) (xs (x3 + 4).toNatClampNeg) hRel
  refine lv_aload_n hx hb dL_law_568 rfl (lv_at hl 1 rfl) ?_
  refine lv_aload_n hx hb dL_law_569 rfl (lv_at hl 0 rfl) ?_
  refine lv_iload_n hx hb dL_law_570 rfl (lv_at hl 3 rfl) ?_
  refine lv_iconst hx hb dL_law_571 ci_1 ?_
  refine lv_iadd hx hb dL_law_572 ?_
  refine va_sld hx hb hX hbl hbA hI.2.2 hin_1 dL_law_573 ?_
  refine lv_aload_n hx hb dL_law_574 rfl (lv_at hl 0 rfl) ?_
  refine lv_iload_n hx hb dL_law_575 rfl (lv_at hl 3 rfl) ?_
  refine lv_iconst hx hb dL_law_576 ci_2 ?_
  refine lv_iadd hx hb dL_law_577 ?_
  refine va_sld hx hb hX hbl hbA hI.2.2 hin_2 dL_law_578 ?_
  refine lv_aload_n hx hb dL_law_579 rfl (lv_at hl 0 rfl) ?_
  refine lv_iload_n hx hb dL_law_580 rfl (lv_at hl 3 rfl) ?_
  refine lv_iconst hx hb dL_law_581 ci_3 ?_
  refine lv_iadd hx hb dL_law_582 ?_
  refine va_sld hx hb hX hbl hbA hI.2.2 hin_3 dL_law_583 ?_
  refine lv_aload_n hx hb dL_law_584 rfl (lv_at hl 0 rfl) ?_
  refine lv_iload_n hx hb dL_law_585 rfl (lv_at hl 3 rfl) ?_
  refine lv_iconst hx hb dL_law_586 ci_4 ?_
  refine lv_iadd hx hb dL_law_587 ?_
  refine va_sld hx hb hX hbl hbA hI.2.2 hin_4 dL_law_588 ?_
  refine lx_i C hF hI hl.1 (rest := []) shX_0 rfl yv_X9_lost k_612 (c_X9_lost l D t adX z hF.1 σx (xs (x3 + 1).toNatClampNeg) (xs (x3 + 2).toNatClampNeg) (xs (x3 + 3).toNatClampNeg) (xs (x3 + 4).toNatClampNeg) _ hx_) (As := [.int (xs (x3 + 1).toNatClampNeg), .int (xs (x3 + 2).toNatClampNeg), .int (xs (x3 + 3).toNatClampNeg), .int (xs (x3 + 4).toNatClampNeg)]) rfl rfl ⟨Nat.le_of_ble_eq_true rfl, Nat.le_of_ble_eq_true rfl⟩ ⟨Nat.le_of_ble_eq_true rfl, Nat.le_of_ble_eq_true rfl⟩ (Nat.le_of_ble_eq_true rfl) dL_law_589 (fun H locs hI => ?_)
  refine lv_aload_n hx hb dL_law_592 rfl (lv_at hl 2 rfl) ?_
  refine lv_aload_n hx hb dL_law_593 rfl (lv_at hl 0 rfl) ?_
  refine lv_iload_n hx hb dL_law_594 rfl (lv_at hl 3 rfl) ?_
  refine lv_iconst hx hb dL_law_595 ci_1 ?_
  refine lv_iadd hx hb dL_law_596 ?_
  refine va_sld hx hb hX hbl hbA hI.2.2 hin_1 dL_law_597 ?_
  refine lv_aload_n hx hb dL_law_598 rfl (lv_at hl 0 rfl) ?_
  refine lv_iload_n hx hb dL_law_599 rfl (lv_at hl 3 rfl) ?_
  refine lv_iconst hx hb dL_law_600 ci_2 ?_
  refine lv_iadd hx hb dL_law_601 ?_
  refine va_sld hx hb hX hbl hbA hI.2.2 hin_2 dL_law_602 ?_
  refine lv_aload_n hx hb dL_law_603 rfl (lv_at hl 0 rfl) ?_
  refine lv_iload_n hx hb dL_law_604 rfl (lv_at hl 3 rfl) ?_
  refine lv_iconst hx hb dL_law_605 ci_3 ?_
  refine lv_iadd hx hb dL_law_606 ?_
  refine va_sld hx hb hX hbl hbA hI.2.2 hin_3 dL_law_607 ?_
  refine lv_aload_n hx hb dL_law_608 rfl (lv_at hl 0 rfl) ?_
  refine lv_iload_n hx hb dL_law_609 rfl (lv_at hl 3 rfl) ?_
  refine lv_iconst hx hb dL_law_610 ci_4 ?_
  refine lv_iadd hx hb dL_law_611 ?_
  refine va_sld hx hb hX hbl hbA hI.2.2 hin_4 dL_law_612 ?_
  refine lm_i C hF hI hl.1 (rest := [.int r]) shM_0 rfl yv_X10_lost k_1403 (c_X10_lost l D t adM z hF.2.1 σm (xs (x3 + 1).toNatClampNeg) (xs (x3 + 2).toNatClampNeg) (xs (x3 + 3).toNatClampNeg) (xs (x3 + 4).toNatClampNeg) _ hm_) (As := [.int (xs (x3 + 1).toNatClampNeg), .int (xs (x3 + 2).toNatClampNeg), .int (xs (x3 + 3).toNatClampNeg), .int (xs (x3 + 4).toNatClampNeg)]) rfl rfl ⟨Nat.le_of_ble_eq_true rfl, Nat.le_of_ble_eq_true rfl⟩ ⟨Nat.le_of_ble_eq_true rfl, Nat.le_of_ble_eq_true rfl⟩ (Nat.le_of_ble_eq_true rfl) dL_law_613 (fun H locs hI => ?_)
  refine lv_icmp_eq (tgt := 1744) hx hb dL_law_616 (by decide) (fun _ => ?_) (fun c0 => absurd rfl c0)
  exact hK _ _ _ _ _ hRel2 hI hl
set_option maxRecDepth 100000 in
set_option maxHeartbeats 4000000 in
theorem lc_11 {p : Program} {l : Launch} {e : Env} {s : State} {m : MethodId} {below : List Frame} {meth : Method} {c : Code} {D : va_G} {t : gT} {adX adM z : Nat → Nat} {b L : Nat} {xs : Nat → Int32} (C : lwC p s m #[Value.ref b] c 4) (hX : va_X b L xs s s.heap) (hbl : b < s.heap.size) (hF : lwF s D t adX adM z) {Rel : gS → gS → Prop} (hE : EQ_red Rel) {x3 : Int32} (hin_1 : vp_in (x3 + 1) L) (hin_2 : vp_in (x3 + 2) L) (hK : ∀ (σx σm : gS) (H : Heap) (locs : List Loc) (ls : Array Slot), Rel σx σm → lwI s D t adX adM σx σm H locs → lv_has ls 4 [(0, .ref b), (1, .ref (adX 0)), (2, .ref (adM 0)), (3, .int x3)] → W p l e room_1 s m #[Value.ref b] below meth c H locs 82 38218 (lw_Z below #[Value.ref b] s) (F0 m 1744 ls [])) (σx σm : gS) (H : Heap) (locs : List Loc) (ls : Array Slot) (hRel : Rel σx σm) (hI : lwI s D t adX adM σx σm H locs) (hl : lv_has ls 4 [(0, .ref b), (1, .ref (adX 0)), (2, .ref (adM 0)), (3, .int x3)]) : W p l e room_1 s m #[Value.ref b] below meth c H locs 82 38218 (lw_Z below #[Value.ref b] s) (F0 m 621 ls []) := by
  obtain ⟨hx, hb, hml, hown, hts⟩ := id C
  have hbA : ¬ (fun q : Nat => s.heap.size ≤ q) b := Nat.not_le.mpr hbl
  obtain ⟨r, σ1, σ2, hx_, hm_, hRel2⟩ := hE σx σm (xs (x3 + 1).toNatClampNeg) (xs (x3 + 2).toNatClampNeg) hRel
  refine lv_aload_n hx hb dL_law_621 rfl (lv_at hl 1 rfl) ?_
  refine lv_aload_n hx hb dL_law_622 rfl (lv_at hl 0 rfl) ?_
  refine lv_iload_n hx hb dL_law_623 rfl (lv_at hl 3 rfl) ?_
  refine lv_iconst hx hb dL_law_624 ci_1 ?_
  refine lv_iadd hx hb dL_law_625 ?_
  refine va_sld hx hb hX hbl hbA hI.2.2 hin_1 dL_law_626 ?_
  refine lv_aload_n hx hb dL_law_627 rfl (lv_at hl 0 rfl) ?_
  refine lv_iload_n hx hb dL_law_628 rfl (lv_at hl 3 rfl) ?_
  refine lv_iconst hx hb dL_law_629 ci_2 ?_
  refine lv_iadd hx hb dL_law_630 ?_
  refine va_sld hx hb hX hbl hbA hI.2.2 hin_2 dL_law_631 ?_
  refine lx_i C hF hI hl.1 (rest := []) shX_0 rfl yv_X9_red k_664 (c_X9_red l D t adX z hF.1 σx (xs (x3 + 1).toNatClampNeg) (xs (x3 + 2).toNatClampNeg) _ hx_) (As := [.int (xs (x3 + 1).toNatClampNeg), .int (xs (x3 + 2).toNatClampNeg)]) rfl rfl ⟨Nat.le_of_ble_eq_true rfl, Nat.le_of_ble_eq_true rfl⟩ ⟨Nat.le_of_ble_eq_true rfl, Nat.le_of_ble_eq_true rfl⟩ (Nat.le_of_ble_eq_true rfl) dL_law_632 (fun H locs hI => ?_)
  refine lv_aload_n hx hb dL_law_635 rfl (lv_at hl 2 rfl) ?_
  refine lv_aload_n hx hb dL_law_636 rfl (lv_at hl 0 rfl) ?_
  refine lv_iload_n hx hb dL_law_637 rfl (lv_at hl 3 rfl) ?_
  refine lv_iconst hx hb dL_law_638 ci_1 ?_
  refine lv_iadd hx hb dL_law_639 ?_
  refine va_sld hx hb hX hbl hbA hI.2.2 hin_1 dL_law_640 ?_
  refine lv_aload_n hx hb dL_law_641 rfl (lv_at hl 0 rfl) ?_
  refine lv_iload_n hx hb dL_law_642 rfl (lv_at hl 3 rfl) ?_
  refine lv_iconst hx hb dL_law_643 ci_2 ?_
  refine lv_iadd hx hb dL_law_644 ?_
  refine va_sld hx hb hX hbl hbA hI.2.2 hin_2 dL_law_645 ?_
  refine lm_i C hF hI hl.1 (rest := [.int r]) shM_0 rfl yv_X10_red k_1419 (c_X10_red l D t adM z hF.2.1 σm (xs (x3 + 1).toNatClampNeg) (xs (x3 + 2).toNatClampNeg) _ hm_) (As := [.int (xs (x3 + 1).toNatClampNeg), .int (xs (x3 + 2).toNatClampNeg)]) rfl rfl ⟨Nat.le_of_ble_eq_true rfl, Nat.le_of_ble_eq_true rfl⟩ ⟨Nat.le_of_ble_eq_true rfl, Nat.le_of_ble_eq_true rfl⟩ (Nat.le_of_ble_eq_true rfl) dL_law_646 (fun H locs hI => ?_)
  refine lv_icmp_eq (tgt := 1744) hx hb dL_law_649 (by decide) (fun _ => ?_) (fun c0 => absurd rfl c0)
  exact hK _ _ _ _ _ hRel2 hI hl
set_option maxRecDepth 100000 in
set_option maxHeartbeats 4000000 in
theorem lc_12 {p : Program} {l : Launch} {e : Env} {s : State} {m : MethodId} {below : List Frame} {meth : Method} {c : Code} {D : va_G} {t : gT} {adX adM z : Nat → Nat} {b L : Nat} {xs : Nat → Int32} (C : lwC p s m #[Value.ref b] c 4) (hX : va_X b L xs s s.heap) (hbl : b < s.heap.size) (hF : lwF s D t adX adM z) {Rel : gS → gS → Prop} (hE : EQ_gap Rel) {x3 : Int32} (hin_1 : vp_in (x3 + 1) L) (hin_2 : vp_in (x3 + 2) L) (hK : ∀ (σx σm : gS) (H : Heap) (locs : List Loc) (ls : Array Slot), Rel σx σm → lwI s D t adX adM σx σm H locs → lv_has ls 4 [(0, .ref b), (1, .ref (adX 0)), (2, .ref (adM 0)), (3, .int x3)] → W p l e room_1 s m #[Value.ref b] below meth c H locs 82 38218 (lw_Z below #[Value.ref b] s) (F0 m 1744 ls [])) (σx σm : gS) (H : Heap) (locs : List Loc) (ls : Array Slot) (hRel : Rel σx σm) (hI : lwI s D t adX adM σx σm H locs) (hl : lv_has ls 4 [(0, .ref b), (1, .ref (adX 0)), (2, .ref (adM 0)), (3, .int x3)]) : W p l e room_1 s m #[Value.ref b] below meth c H locs 82 38218 (lw_Z below #[Value.ref b] s) (F0 m 654 ls []) := by
  obtain ⟨hx, hb, hml, hown, hts⟩ := id C
  have hbA : ¬ (fun q : Nat => s.heap.size ≤ q) b := Nat.not_le.mpr hbl
  obtain ⟨r, σ1, σ2, hx_, hm_, hRel2⟩ := hE σx σm (xs (x3 + 1).toNatClampNeg) (xs (x3 + 2).toNatClampNeg) hRel
  refine lv_aload_n hx hb dL_law_654 rfl (lv_at hl 1 rfl) ?_
  refine lv_aload_n hx hb dL_law_655 rfl (lv_at hl 0 rfl) ?_
  refine lv_iload_n hx hb dL_law_656 rfl (lv_at hl 3 rfl) ?_
  refine lv_iconst hx hb dL_law_657 ci_1 ?_
  refine lv_iadd hx hb dL_law_658 ?_
  refine va_sld hx hb hX hbl hbA hI.2.2 hin_1 dL_law_659 ?_
  refine lv_aload_n hx hb dL_law_660 rfl (lv_at hl 0 rfl) ?_
  refine lv_iload_n hx hb dL_law_661 rfl (lv_at hl 3 rfl) ?_
  refine lv_iconst hx hb dL_law_662 ci_2 ?_
  refine lv_iadd hx hb dL_law_663 ?_
  refine va_sld hx hb hX hbl hbA hI.2.2 hin_2 dL_law_664 ?_
  refine lx_i C hF hI hl.1 (rest := []) shX_0 rfl yv_X9_gap k_677 (c_X9_gap l D t adX z hF.1 σx (xs (x3 + 1).toNatClampNeg) (xs (x3 + 2).toNatClampNeg) _ hx_) (As := [.int (xs (x3 + 1).toNatClampNeg), .int (xs (x3 + 2).toNatClampNeg)]) rfl rfl ⟨Nat.le_of_ble_eq_true rfl, Nat.le_of_ble_eq_true rfl⟩ ⟨Nat.le_of_ble_eq_true rfl, Nat.le_of_ble_eq_true rfl⟩ (Nat.le_of_ble_eq_true rfl) dL_law_665 (fun H locs hI => ?_)
  refine lv_aload_n hx hb dL_law_668 rfl (lv_at hl 2 rfl) ?_
  refine lv_aload_n hx hb dL_law_669 rfl (lv_at hl 0 rfl) ?_
  refine lv_iload_n hx hb dL_law_670 rfl (lv_at hl 3 rfl) ?_
  refine lv_iconst hx hb dL_law_671 ci_1 ?_
  refine lv_iadd hx hb dL_law_672 ?_
  refine va_sld hx hb hX hbl hbA hI.2.2 hin_1 dL_law_673 ?_
  refine lv_aload_n hx hb dL_law_674 rfl (lv_at hl 0 rfl) ?_
  refine lv_iload_n hx hb dL_law_675 rfl (lv_at hl 3 rfl) ?_
  refine lv_iconst hx hb dL_law_676 ci_2 ?_
  refine lv_iadd hx hb dL_law_677 ?_
  refine va_sld hx hb hX hbl hbA hI.2.2 hin_2 dL_law_678 ?_
  refine lm_i C hF hI hl.1 (rest := [.int r]) shM_0 rfl yv_X10_gap k_1423 (c_X10_gap l D t adM z hF.2.1 σm (xs (x3 + 1).toNatClampNeg) (xs (x3 + 2).toNatClampNeg) _ hm_) (As := [.int (xs (x3 + 1).toNatClampNeg), .int (xs (x3 + 2).toNatClampNeg)]) rfl rfl ⟨Nat.le_of_ble_eq_true rfl, Nat.le_of_ble_eq_true rfl⟩ ⟨Nat.le_of_ble_eq_true rfl, Nat.le_of_ble_eq_true rfl⟩ (Nat.le_of_ble_eq_true rfl) dL_law_679 (fun H locs hI => ?_)
  refine lv_icmp_eq (tgt := 1744) hx hb dL_law_682 (by decide) (fun _ => ?_) (fun c0 => absurd rfl c0)
  exact hK _ _ _ _ _ hRel2 hI hl
set_option maxRecDepth 100000 in
set_option maxHeartbeats 4000000 in
theorem lc_13 {p : Program} {l : Launch} {e : Env} {s : State} {m : MethodId} {below : List Frame} {meth : Method} {c : Code} {D : va_G} {t : gT} {adX adM z : Nat → Nat} {b L : Nat} {xs : Nat → Int32} (C : lwC p s m #[Value.ref b] c 4) (hX : va_X b L xs s s.heap) (hbl : b < s.heap.size) (hF : lwF s D t adX adM z) {Rel : gS → gS → Prop} (hE : EQ_late Rel) {x3 : Int32} (hin_1 : vp_in (x3 + 1) L) (hK : ∀ (σx σm : gS) (H : Heap) (locs : List Loc) (ls : Array Slot), Rel σx σm → lwI s D t adX adM σx σm H locs → lv_has ls 4 [(0, .ref b), (1, .ref (adX 0)), (2, .ref (adM 0)), (3, .int x3)] → W p l e room_1 s m #[Value.ref b] below meth c H locs 82 38218 (lw_Z below #[Value.ref b] s) (F0 m 1744 ls [])) (σx σm : gS) (H : Heap) (locs : List Loc) (ls : Array Slot) (hRel : Rel σx σm) (hI : lwI s D t adX adM σx σm H locs) (hl : lv_has ls 4 [(0, .ref b), (1, .ref (adX 0)), (2, .ref (adM 0)), (3, .int x3)]) : W p l e room_1 s m #[Value.ref b] below meth c H locs 82 38218 (lw_Z below #[Value.ref b] s) (F0 m 687 ls []) := by
  obtain ⟨hx, hb, hml, hown, hts⟩ := id C
  have hbA : ¬ (fun q : Nat => s.heap.size ≤ q) b := Nat.not_le.mpr hbl
  obtain ⟨r, σ1, σ2, hx_, hm_, hRel2⟩ := hE σx σm (xs (x3 + 1).toNatClampNeg) hRel
  refine lv_aload_n hx hb dL_law_687 rfl (lv_at hl 1 rfl) ?_
  refine lv_aload_n hx hb dL_law_688 rfl (lv_at hl 0 rfl) ?_
  refine lv_iload_n hx hb dL_law_689 rfl (lv_at hl 3 rfl) ?_
  refine lv_iconst hx hb dL_law_690 ci_1 ?_
  refine lv_iadd hx hb dL_law_691 ?_
  refine va_sld hx hb hX hbl hbA hI.2.2 hin_1 dL_law_692 ?_
  refine lx_i C hF hI hl.1 (rest := []) shX_0 rfl yv_X9_late k_690 (c_X9_late l D t adX z hF.1 σx (xs (x3 + 1).toNatClampNeg) _ hx_) (As := [.int (xs (x3 + 1).toNatClampNeg)]) rfl rfl ⟨Nat.le_of_ble_eq_true rfl, Nat.le_of_ble_eq_true rfl⟩ ⟨Nat.le_of_ble_eq_true rfl, Nat.le_of_ble_eq_true rfl⟩ (Nat.le_of_ble_eq_true rfl) dL_law_693 (fun H locs hI => ?_)
  refine lv_aload_n hx hb dL_law_696 rfl (lv_at hl 2 rfl) ?_
  refine lv_aload_n hx hb dL_law_697 rfl (lv_at hl 0 rfl) ?_
  refine lv_iload_n hx hb dL_law_698 rfl (lv_at hl 3 rfl) ?_
  refine lv_iconst hx hb dL_law_699 ci_1 ?_
  refine lv_iadd hx hb dL_law_700 ?_
  refine va_sld hx hb hX hbl hbA hI.2.2 hin_1 dL_law_701 ?_
  refine lm_i C hF hI hl.1 (rest := [.int r]) shM_0 rfl yv_X10_late k_1431 (c_X10_late l D t adM z hF.2.1 σm (xs (x3 + 1).toNatClampNeg) _ hm_) (As := [.int (xs (x3 + 1).toNatClampNeg)]) rfl rfl ⟨Nat.le_of_ble_eq_true rfl, Nat.le_of_ble_eq_true rfl⟩ ⟨Nat.le_of_ble_eq_true rfl, Nat.le_of_ble_eq_true rfl⟩ (Nat.le_of_ble_eq_true rfl) dL_law_702 (fun H locs hI => ?_)
  refine lv_icmp_eq (tgt := 1744) hx hb dL_law_705 (by decide) (fun _ => ?_) (fun c0 => absurd rfl c0)
  exact hK _ _ _ _ _ hRel2 hI hl
set_option maxRecDepth 100000 in
set_option maxHeartbeats 4000000 in
theorem lc_14 {p : Program} {l : Launch} {e : Env} {s : State} {m : MethodId} {below : List Frame} {meth : Method} {c : Code} {D : va_G} {t : gT} {adX adM z : Nat → Nat} {b L : Nat} {xs : Nat → Int32} (C : lwC p s m #[Value.ref b] c 4) (hX : va_X b L xs s s.heap) (hbl : b < s.heap.size) (hF : lwF s D t adX adM z) {Rel : gS → gS → Prop} (hE : EQ_shortest Rel) {x3 : Int32} (hin_1 : vp_in (x3 + 1) L) (hin_2 : vp_in (x3 + 2) L) (hK : ∀ (σx σm : gS) (H : Heap) (locs : List Loc) (ls : Array Slot), Rel σx σm → lwI s D t adX adM σx σm H locs → lv_has ls 4 [(0, .ref b), (1, .ref (adX 0)), (2, .ref (adM 0)), (3, .int x3)] → W p l e room_1 s m #[Value.ref b] below meth c H locs 82 38218 (lw_Z below #[Value.ref b] s) (F0 m 1744 ls [])) (σx σm : gS) (H : Heap) (locs : List Loc) (ls : Array Slot) (hRel : Rel σx σm) (hI : lwI s D t adX adM σx σm H locs) (hl : lv_has ls 4 [(0, .ref b), (1, .ref (adX 0)), (2, .ref (adM 0)), (3, .int x3)]) : W p l e room_1 s m #[Value.ref b] below meth c H locs 82 38218 (lw_Z below #[Value.ref b] s) (F0 m 710 ls []) := by
  obtain ⟨hx, hb, hml, hown, hts⟩ := id C
  have hbA : ¬ (fun q : Nat => s.heap.size ≤ q) b := Nat.not_le.mpr hbl
  obtain ⟨r, σ1, σ2, hx_, hm_, hRel2⟩ := hE σx σm (xs (x3 + 1).toNatClampNeg) (xs (x3 + 2).toNatClampNeg) hRel
  refine lv_aload_n hx hb dL_law_710 rfl (lv_at hl 1 rfl) ?_
  refine lv_aload_n hx hb dL_law_711 rfl (lv_at hl 0 rfl) ?_
  refine lv_iload_n hx hb dL_law_712 rfl (lv_at hl 3 rfl) ?_
  refine lv_iconst hx hb dL_law_713 ci_1 ?_
  refine lv_iadd hx hb dL_law_714 ?_
  refine va_sld hx hb hX hbl hbA hI.2.2 hin_1 dL_law_715 ?_
  refine lv_aload_n hx hb dL_law_716 rfl (lv_at hl 0 rfl) ?_
  refine lv_iload_n hx hb dL_law_717 rfl (lv_at hl 3 rfl) ?_
  refine lv_iconst hx hb dL_law_718 ci_2 ?_
  refine lv_iadd hx hb dL_law_719 ?_
  refine va_sld hx hb hX hbl hbA hI.2.2 hin_2 dL_law_720 ?_
  refine lx_i C hF hI hl.1 (rest := []) shX_0 rfl yv_X9_shortest k_694 (c_X9_shortest l D t adX z hF.1 σx (xs (x3 + 1).toNatClampNeg) (xs (x3 + 2).toNatClampNeg) _ hx_) (As := [.int (xs (x3 + 1).toNatClampNeg), .int (xs (x3 + 2).toNatClampNeg)]) rfl rfl ⟨Nat.le_of_ble_eq_true rfl, Nat.le_of_ble_eq_true rfl⟩ ⟨Nat.le_of_ble_eq_true rfl, Nat.le_of_ble_eq_true rfl⟩ (Nat.le_of_ble_eq_true rfl) dL_law_721 (fun H locs hI => ?_)
  refine lv_aload_n hx hb dL_law_724 rfl (lv_at hl 2 rfl) ?_
  refine lv_aload_n hx hb dL_law_725 rfl (lv_at hl 0 rfl) ?_
  refine lv_iload_n hx hb dL_law_726 rfl (lv_at hl 3 rfl) ?_
  refine lv_iconst hx hb dL_law_727 ci_1 ?_
  refine lv_iadd hx hb dL_law_728 ?_
  refine va_sld hx hb hX hbl hbA hI.2.2 hin_1 dL_law_729 ?_
  refine lv_aload_n hx hb dL_law_730 rfl (lv_at hl 0 rfl) ?_
  refine lv_iload_n hx hb dL_law_731 rfl (lv_at hl 3 rfl) ?_
  refine lv_iconst hx hb dL_law_732 ci_2 ?_
  refine lv_iadd hx hb dL_law_733 ?_
  refine va_sld hx hb hX hbl hbA hI.2.2 hin_2 dL_law_734 ?_
  refine lm_i C hF hI hl.1 (rest := [.int r]) shM_0 rfl yv_X10_shortest k_1435 (c_X10_shortest l D t adM z hF.2.1 σm (xs (x3 + 1).toNatClampNeg) (xs (x3 + 2).toNatClampNeg) _ hm_) (As := [.int (xs (x3 + 1).toNatClampNeg), .int (xs (x3 + 2).toNatClampNeg)]) rfl rfl ⟨Nat.le_of_ble_eq_true rfl, Nat.le_of_ble_eq_true rfl⟩ ⟨Nat.le_of_ble_eq_true rfl, Nat.le_of_ble_eq_true rfl⟩ (Nat.le_of_ble_eq_true rfl) dL_law_735 (fun H locs hI => ?_)
  refine lv_icmp_eq (tgt := 1744) hx hb dL_law_738 (by decide) (fun _ => ?_) (fun c0 => absurd rfl c0)
  exact hK _ _ _ _ _ hRel2 hI hl
set_option maxRecDepth 100000 in
set_option maxHeartbeats 4000000 in
theorem lc_15 {p : Program} {l : Launch} {e : Env} {s : State} {m : MethodId} {below : List Frame} {meth : Method} {c : Code} {D : va_G} {t : gT} {adX adM z : Nat → Nat} {b L : Nat} {xs : Nat → Int32} (C : lwC p s m #[Value.ref b] c 4) (hX : va_X b L xs s s.heap) (hbl : b < s.heap.size) (hF : lwF s D t adX adM z) {Rel : gS → gS → Prop} (hE : EQ_leftOut Rel) {x3 : Int32} (hin_1 : vp_in (x3 + 1) L) (hin_2 : vp_in (x3 + 2) L) (hK : ∀ (σx σm : gS) (H : Heap) (locs : List Loc) (ls : Array Slot), Rel σx σm → lwI s D t adX adM σx σm H locs → lv_has ls 4 [(0, .ref b), (1, .ref (adX 0)), (2, .ref (adM 0)), (3, .int x3)] → W p l e room_1 s m #[Value.ref b] below meth c H locs 82 38218 (lw_Z below #[Value.ref b] s) (F0 m 1744 ls [])) (σx σm : gS) (H : Heap) (locs : List Loc) (ls : Array Slot) (hRel : Rel σx σm) (hI : lwI s D t adX adM σx σm H locs) (hl : lv_has ls 4 [(0, .ref b), (1, .ref (adX 0)), (2, .ref (adM 0)), (3, .int x3)]) : W p l e room_1 s m #[Value.ref b] below meth c H locs 82 38218 (lw_Z below #[Value.ref b] s) (F0 m 743 ls []) := by
  obtain ⟨hx, hb, hml, hown, hts⟩ := id C
  have hbA : ¬ (fun q : Nat => s.heap.size ≤ q) b := Nat.not_le.mpr hbl
  obtain ⟨r, σ1, σ2, hx_, hm_, hRel2⟩ := hE σx σm (xs (x3 + 1).toNatClampNeg) (xs (x3 + 2).toNatClampNeg) hRel
  refine lv_aload_n hx hb dL_law_743 rfl (lv_at hl 1 rfl) ?_
  refine lv_aload_n hx hb dL_law_744 rfl (lv_at hl 0 rfl) ?_
  refine lv_iload_n hx hb dL_law_745 rfl (lv_at hl 3 rfl) ?_
  refine lv_iconst hx hb dL_law_746 ci_1 ?_
  refine lv_iadd hx hb dL_law_747 ?_
  refine va_sld hx hb hX hbl hbA hI.2.2 hin_1 dL_law_748 ?_
  refine lv_aload_n hx hb dL_law_749 rfl (lv_at hl 0 rfl) ?_
  refine lv_iload_n hx hb dL_law_750 rfl (lv_at hl 3 rfl) ?_
  refine lv_iconst hx hb dL_law_751 ci_2 ?_
  refine lv_iadd hx hb dL_law_752 ?_
  refine va_sld hx hb hX hbl hbA hI.2.2 hin_2 dL_law_753 ?_
  refine lx_i C hF hI hl.1 (rest := []) shX_0 rfl yv_X9_leftOut k_733 (c_X9_leftOut l D t adX z hF.1 σx (xs (x3 + 1).toNatClampNeg) (xs (x3 + 2).toNatClampNeg) _ hx_) (As := [.int (xs (x3 + 1).toNatClampNeg), .int (xs (x3 + 2).toNatClampNeg)]) rfl rfl ⟨Nat.le_of_ble_eq_true rfl, Nat.le_of_ble_eq_true rfl⟩ ⟨Nat.le_of_ble_eq_true rfl, Nat.le_of_ble_eq_true rfl⟩ (Nat.le_of_ble_eq_true rfl) dL_law_754 (fun H locs hI => ?_)
  refine lv_aload_n hx hb dL_law_757 rfl (lv_at hl 2 rfl) ?_
  refine lv_aload_n hx hb dL_law_758 rfl (lv_at hl 0 rfl) ?_
  refine lv_iload_n hx hb dL_law_759 rfl (lv_at hl 3 rfl) ?_
  refine lv_iconst hx hb dL_law_760 ci_1 ?_
  refine lv_iadd hx hb dL_law_761 ?_
  refine va_sld hx hb hX hbl hbA hI.2.2 hin_1 dL_law_762 ?_
  refine lv_aload_n hx hb dL_law_763 rfl (lv_at hl 0 rfl) ?_
  refine lv_iload_n hx hb dL_law_764 rfl (lv_at hl 3 rfl) ?_
  refine lv_iconst hx hb dL_law_765 ci_2 ?_
  refine lv_iadd hx hb dL_law_766 ?_
  refine va_sld hx hb hX hbl hbA hI.2.2 hin_2 dL_law_767 ?_
  refine lm_i C hF hI hl.1 (rest := [.int r]) shM_0 rfl yv_X10_leftOut k_1460 (c_X10_leftOut l D t adM z hF.2.1 σm (xs (x3 + 1).toNatClampNeg) (xs (x3 + 2).toNatClampNeg) _ hm_) (As := [.int (xs (x3 + 1).toNatClampNeg), .int (xs (x3 + 2).toNatClampNeg)]) rfl rfl ⟨Nat.le_of_ble_eq_true rfl, Nat.le_of_ble_eq_true rfl⟩ ⟨Nat.le_of_ble_eq_true rfl, Nat.le_of_ble_eq_true rfl⟩ (Nat.le_of_ble_eq_true rfl) dL_law_768 (fun H locs hI => ?_)
  refine lv_icmp_eq (tgt := 1744) hx hb dL_law_771 (by decide) (fun _ => ?_) (fun c0 => absurd rfl c0)
  exact hK _ _ _ _ _ hRel2 hI hl
set_option maxRecDepth 100000 in
set_option maxHeartbeats 4000000 in
theorem lc_16 {p : Program} {l : Launch} {e : Env} {s : State} {m : MethodId} {below : List Frame} {meth : Method} {c : Code} {D : va_G} {t : gT} {adX adM z : Nat → Nat} {b L : Nat} {xs : Nat → Int32} (C : lwC p s m #[Value.ref b] c 4) (hX : va_X b L xs s s.heap) (hbl : b < s.heap.size) (hF : lwF s D t adX adM z) {Rel : gS → gS → Prop} (hE : EQ_thief Rel) {x3 : Int32} (hin_1 : vp_in (x3 + 1) L) (hin_2 : vp_in (x3 + 2) L) (hin_3 : vp_in (x3 + 3) L) (hin_4 : vp_in (x3 + 4) L) (hK : ∀ (σx σm : gS) (H : Heap) (locs : List Loc) (ls : Array Slot), Rel σx σm → lwI s D t adX adM σx σm H locs → lv_has ls 4 [(0, .ref b), (1, .ref (adX 0)), (2, .ref (adM 0)), (3, .int x3)] → W p l e room_1 s m #[Value.ref b] below meth c H locs 82 38218 (lw_Z below #[Value.ref b] s) (F0 m 1744 ls [])) (σx σm : gS) (H : Heap) (locs : List Loc) (ls : Array Slot) (hRel : Rel σx σm) (hI : lwI s D t adX adM σx σm H locs) (hl : lv_has ls 4 [(0, .ref b), (1, .ref (adX 0)), (2, .ref (adM 0)), (3, .int x3)]) : W p l e room_1 s m #[Value.ref b] below meth c H locs 82 38218 (lw_Z below #[Value.ref b] s) (F0 m 776 ls []) := by
  obtain ⟨hx, hb, hml, hown, hts⟩ := id C
  have hbA : ¬ (fun q : Nat => s.heap.size ≤ q) b := Nat.not_le.mpr hbl
  obtain ⟨r, σ1, σ2, hx_, hm_, hRel2⟩ := hE σx σm (xs (x3 + 1).toNatClampNeg) (xs (x3 + 2).toNatClampNeg) (xs (x3 + 3).toNatClampNeg) (xs (x3 + 4).toNatClampNeg) hRel
  refine lv_aload_n hx hb dL_law_776 rfl (lv_at hl 1 rfl) ?_
  refine lv_aload_n hx hb dL_law_777 rfl (lv_at hl 0 rfl) ?_
  refine lv_iload_n hx hb dL_law_778 rfl (lv_at hl 3 rfl) ?_
  refine lv_iconst hx hb dL_law_779 ci_1 ?_
  refine lv_iadd hx hb dL_law_780 ?_
  refine va_sld hx hb hX hbl hbA hI.2.2 hin_1 dL_law_781 ?_
  refine lv_aload_n hx hb dL_law_782 rfl (lv_at hl 0 rfl) ?_
  refine lv_iload_n hx hb dL_law_783 rfl (lv_at hl 3 rfl) ?_
  refine lv_iconst hx hb dL_law_784 ci_2 ?_
  refine lv_iadd hx hb dL_law_785 ?_
  refine va_sld hx hb hX hbl hbA hI.2.2 hin_2 dL_law_786 ?_
  refine lv_aload_n hx hb dL_law_787 rfl (lv_at hl 0 rfl) ?_
  refine lv_iload_n hx hb dL_law_788 rfl (lv_at hl 3 rfl) ?_
  refine lv_iconst hx hb dL_law_789 ci_3 ?_
  refine lv_iadd hx hb dL_law_790 ?_
  refine va_sld hx hb hX hbl hbA hI.2.2 hin_3 dL_law_791 ?_
  refine lv_aload_n hx hb dL_law_792 rfl (lv_at hl 0 rfl) ?_
  refine lv_iload_n hx hb dL_law_793 rfl (lv_at hl 3 rfl) ?_
  refine lv_iconst hx hb dL_law_794 ci_4 ?_
  refine lv_iadd hx hb dL_law_795 ?_
  refine va_sld hx hb hX hbl hbA hI.2.2 hin_4 dL_law_796 ?_
  refine lx_i C hF hI hl.1 (rest := []) shX_0 rfl yv_X9_thief k_741 (c_X9_thief l D t adX z hF.1 σx (xs (x3 + 1).toNatClampNeg) (xs (x3 + 2).toNatClampNeg) (xs (x3 + 3).toNatClampNeg) (xs (x3 + 4).toNatClampNeg) _ hx_) (As := [.int (xs (x3 + 1).toNatClampNeg), .int (xs (x3 + 2).toNatClampNeg), .int (xs (x3 + 3).toNatClampNeg), .int (xs (x3 + 4).toNatClampNeg)]) rfl rfl ⟨Nat.le_of_ble_eq_true rfl, Nat.le_of_ble_eq_true rfl⟩ ⟨Nat.le_of_ble_eq_true rfl, Nat.le_of_ble_eq_true rfl⟩ (Nat.le_of_ble_eq_true rfl) dL_law_797 (fun H locs hI => ?_)
  refine lv_aload_n hx hb dL_law_800 rfl (lv_at hl 2 rfl) ?_
  refine lv_aload_n hx hb dL_law_801 rfl (lv_at hl 0 rfl) ?_
  refine lv_iload_n hx hb dL_law_802 rfl (lv_at hl 3 rfl) ?_
  refine lv_iconst hx hb dL_law_803 ci_1 ?_
  refine lv_iadd hx hb dL_law_804 ?_
  refine va_sld hx hb hX hbl hbA hI.2.2 hin_1 dL_law_805 ?_
  refine lv_aload_n hx hb dL_law_806 rfl (lv_at hl 0 rfl) ?_
  refine lv_iload_n hx hb dL_law_807 rfl (lv_at hl 3 rfl) ?_
  refine lv_iconst hx hb dL_law_808 ci_2 ?_
  refine lv_iadd hx hb dL_law_809 ?_
  refine va_sld hx hb hX hbl hbA hI.2.2 hin_2 dL_law_810 ?_
  refine lv_aload_n hx hb dL_law_811 rfl (lv_at hl 0 rfl) ?_
  refine lv_iload_n hx hb dL_law_812 rfl (lv_at hl 3 rfl) ?_
  refine lv_iconst hx hb dL_law_813 ci_3 ?_
  refine lv_iadd hx hb dL_law_814 ?_
  refine va_sld hx hb hX hbl hbA hI.2.2 hin_3 dL_law_815 ?_
  refine lv_aload_n hx hb dL_law_816 rfl (lv_at hl 0 rfl) ?_
  refine lv_iload_n hx hb dL_law_817 rfl (lv_at hl 3 rfl) ?_
  refine lv_iconst hx hb dL_law_818 ci_4 ?_
  refine lv_iadd hx hb dL_law_819 ?_
  refine va_sld hx hb hX hbl hbA hI.2.2 hin_4 dL_law_820 ?_
  refine lm_i C hF hI hl.1 (rest := [.int r]) shM_0 rfl yv_X10_thief k_1464 (c_X10_thief l D t adM z hF.2.1 σm (xs (x3 + 1).toNatClampNeg) (xs (x3 + 2).toNatClampNeg) (xs (x3 + 3).toNatClampNeg) (xs (x3 + 4).toNatClampNeg) _ hm_) (As := [.int (xs (x3 + 1).toNatClampNeg), .int (xs (x3 + 2).toNatClampNeg), .int (xs (x3 + 3).toNatClampNeg), .int (xs (x3 + 4).toNatClampNeg)]) rfl rfl ⟨Nat.le_of_ble_eq_true rfl, Nat.le_of_ble_eq_true rfl⟩ ⟨Nat.le_of_ble_eq_true rfl, Nat.le_of_ble_eq_true rfl⟩ (Nat.le_of_ble_eq_true rfl) dL_law_821 (fun H locs hI => ?_)
  refine lv_icmp_eq (tgt := 1744) hx hb dL_law_824 (by decide) (fun _ => ?_) (fun c0 => absurd rfl c0)
  exact hK _ _ _ _ _ hRel2 hI hl
set_option maxRecDepth 100000 in
set_option maxHeartbeats 4000000 in
theorem lc_17 {p : Program} {l : Launch} {e : Env} {s : State} {m : MethodId} {below : List Frame} {meth : Method} {c : Code} {D : va_G} {t : gT} {adX adM z : Nat → Nat} {b L : Nat} {xs : Nat → Int32} (C : lwC p s m #[Value.ref b] c 4) (hX : va_X b L xs s s.heap) (hbl : b < s.heap.size) (hF : lwF s D t adX adM z) {Rel : gS → gS → Prop} (hE : EQ_safe Rel) {x3 : Int32} (hin_1 : vp_in (x3 + 1) L) (hin_2 : vp_in (x3 + 2) L) (hK : ∀ (σx σm : gS) (H : Heap) (locs : List Loc) (ls : Array Slot), Rel σx σm → lwI s D t adX adM σx σm H locs → lv_has ls 4 [(0, .ref b), (1, .ref (adX 0)), (2, .ref (adM 0)), (3, .int x3)] → W p l e room_1 s m #[Value.ref b] below meth c H locs 82 38218 (lw_Z below #[Value.ref b] s) (F0 m 1744 ls [])) (σx σm : gS) (H : Heap) (locs : List Loc) (ls : Array Slot) (hRel : Rel σx σm) (hI : lwI s D t adX adM σx σm H locs) (hl : lv_has ls 4 [(0, .ref b), (1, .ref (adX 0)), (2, .ref (adM 0)), (3, .int x3)]) : W p l e room_1 s m #[Value.ref b] below meth c H locs 82 38218 (lw_Z below #[Value.ref b] s) (F0 m 829 ls []) := by
  obtain ⟨hx, hb, hml, hown, hts⟩ := id C
  have hbA : ¬ (fun q : Nat => s.heap.size ≤ q) b := Nat.not_le.mpr hbl
  obtain ⟨r, σ1, σ2, hx_, hm_, hRel2⟩ := hE σx σm (xs (x3 + 1).toNatClampNeg) (xs (x3 + 2).toNatClampNeg) hRel
  refine lv_aload_n hx hb dL_law_829 rfl (lv_at hl 1 rfl) ?_
  refine lv_aload_n hx hb dL_law_830 rfl (lv_at hl 0 rfl) ?_
  refine lv_iload_n hx hb dL_law_831 rfl (lv_at hl 3 rfl) ?_
  refine lv_iconst hx hb dL_law_832 ci_1 ?_
  refine lv_iadd hx hb dL_law_833 ?_
  refine va_sld hx hb hX hbl hbA hI.2.2 hin_1 dL_law_834 ?_
  refine lv_aload_n hx hb dL_law_835 rfl (lv_at hl 0 rfl) ?_
  refine lv_iload_n hx hb dL_law_836 rfl (lv_at hl 3 rfl) ?_
  refine lv_iconst hx hb dL_law_837 ci_2 ?_
  refine lv_iadd hx hb dL_law_838 ?_
  refine va_sld hx hb hX hbl hbA hI.2.2 hin_2 dL_law_839 ?_
  refine lx_i C hF hI hl.1 (rest := []) shX_0 rfl yv_X9_safe k_756 (c_X9_safe l D t adX z hF.1 σx (xs (x3 + 1).toNatClampNeg) (xs (x3 + 2).toNatClampNeg) _ hx_) (As := [.int (xs (x3 + 1).toNatClampNeg), .int (xs (x3 + 2).toNatClampNeg)]) rfl rfl ⟨Nat.le_of_ble_eq_true rfl, Nat.le_of_ble_eq_true rfl⟩ ⟨Nat.le_of_ble_eq_true rfl, Nat.le_of_ble_eq_true rfl⟩ (Nat.le_of_ble_eq_true rfl) dL_law_840 (fun H locs hI => ?_)
  refine lv_aload_n hx hb dL_law_843 rfl (lv_at hl 2 rfl) ?_
  refine lv_aload_n hx hb dL_law_844 rfl (lv_at hl 0 rfl) ?_
  refine lv_iload_n hx hb dL_law_845 rfl (lv_at hl 3 rfl) ?_
  refine lv_iconst hx hb dL_law_846 ci_1 ?_
  refine lv_iadd hx hb dL_law_847 ?_
  refine va_sld hx hb hX hbl hbA hI.2.2 hin_1 dL_law_848 ?_
  refine lv_aload_n hx hb dL_law_849 rfl (lv_at hl 0 rfl) ?_
  refine lv_iload_n hx hb dL_law_850 rfl (lv_at hl 3 rfl) ?_
  refine lv_iconst hx hb dL_law_851 ci_2 ?_
  refine lv_iadd hx hb dL_law_852 ?_
  refine va_sld hx hb hX hbl hbA hI.2.2 hin_2 dL_law_853 ?_
  refine lm_i C hF hI hl.1 (rest := [.int r]) shM_0 rfl yv_X10_safe k_1472 (c_X10_safe l D t adM z hF.2.1 σm (xs (x3 + 1).toNatClampNeg) (xs (x3 + 2).toNatClampNeg) _ hm_) (As := [.int (xs (x3 + 1).toNatClampNeg), .int (xs (x3 + 2).toNatClampNeg)]) rfl rfl ⟨Nat.le_of_ble_eq_true rfl, Nat.le_of_ble_eq_true rfl⟩ ⟨Nat.le_of_ble_eq_true rfl, Nat.le_of_ble_eq_true rfl⟩ (Nat.le_of_ble_eq_true rfl) dL_law_854 (fun H locs hI => ?_)
  refine lv_icmp_eq (tgt := 1744) hx hb dL_law_857 (by decide) (fun _ => ?_) (fun c0 => absurd rfl c0)
  exact hK _ _ _ _ _ hRel2 hI hl
set_option maxRecDepth 100000 in
set_option maxHeartbeats 4000000 in
theorem lc_18 {p : Program} {l : Launch} {e : Env} {s : State} {m : MethodId} {below : List Frame} {meth : Method} {c : Code} {D : va_G} {t : gT} {adX adM z : Nat → Nat} {b L : Nat} {xs : Nat → Int32} (C : lwC p s m #[Value.ref b] c 4) (hX : va_X b L xs s s.heap) (hbl : b < s.heap.size) (hF : lwF s D t adX adM z) {Rel : gS → gS → Prop} (hE : EQ_two Rel) {x3 : Int32} (hin_1 : vp_in (x3 + 1) L) (hin_2 : vp_in (x3 + 2) L) (hin_3 : vp_in (x3 + 3) L) (hK : ∀ (σx σm : gS) (H : Heap) (locs : List Loc) (ls : Array Slot), Rel σx σm → lwI s D t adX adM σx σm H locs → lv_has ls 4 [(0, .ref b), (1, .ref (adX 0)), (2, .ref (adM 0)), (3, .int x3)] → W p l e room_1 s m #[Value.ref b] below meth c H locs 82 38218 (lw_Z below #[Value.ref b] s) (F0 m 1744 ls [])) (σx σm : gS) (H : Heap) (locs : List Loc) (ls : Array Slot) (hRel : Rel σx σm) (hI : lwI s D t adX adM σx σm H locs) (hl : lv_has ls 4 [(0, .ref b), (1, .ref (adX 0)), (2, .ref (adM 0)), (3, .int x3)]) : W p l e room_1 s m #[Value.ref b] below meth c H locs 82 38218 (lw_Z below #[Value.ref b] s) (F0 m 862 ls []) := by
  obtain ⟨hx, hb, hml, hown, hts⟩ := id C
  have hbA : ¬ (fun q : Nat => s.heap.size ≤ q) b := Nat.not_le.mpr hbl
  obtain ⟨r, σ1, σ2, hx_, hm_, hRel2⟩ := hE σx σm (xs (x3 + 1).toNatClampNeg) (xs (x3 + 2).toNatClampNeg) (xs (x3 + 3).toNatClampNeg) hRel
  refine lv_aload_n hx hb dL_law_862 rfl (lv_at hl 1 rfl) ?_
  refine lv_aload_n hx hb dL_law_863 rfl (lv_at hl 0 rfl) ?_
  refine lv_iload_n hx hb dL_law_864 rfl (lv_at hl 3 rfl) ?_
  refine lv_iconst hx hb dL_law_865 ci_1 ?_
  refine lv_iadd hx hb dL_law_866 ?_
  refine va_sld hx hb hX hbl hbA hI.2.2 hin_1 dL_law_867 ?_
  refine lv_aload_n hx hb dL_law_868 rfl (lv_at hl 0 rfl) ?_
  refine lv_iload_n hx hb dL_law_869 rfl (lv_at hl 3 rfl) ?_
  refine lv_iconst hx hb dL_law_870 ci_2 ?_
  refine lv_iadd hx hb dL_law_871 ?_
  refine va_sld hx hb hX hbl hbA hI.2.2 hin_2 dL_law_872 ?_
  refine lv_aload_n hx hb dL_law_873 rfl (lv_at hl 0 rfl) ?_
  refine lv_iload_n hx hb dL_law_874 rfl (lv_at hl 3 rfl) ?_
  refine lv_iconst hx hb dL_law_875 ci_3 ?_
  refine lv_iadd hx hb dL_law_876 ?_
  refine va_sld hx hb hX hbl hbA hI.2.2 hin_3 dL_law_877 ?_
  refine lx_i C hF hI hl.1 (rest := []) shX_0 rfl yv_X9_two k_760 (c_X9_two l D t adX z hF.1 σx (xs (x3 + 1).toNatClampNeg) (xs (x3 + 2).toNatClampNeg) (xs (x3 + 3).toNatClampNeg) _ hx_) (As := [.int (xs (x3 + 1).toNatClampNeg), .int (xs (x3 + 2).toNatClampNeg), .int (xs (x3 + 3).toNatClampNeg)]) rfl rfl ⟨Nat.le_of_ble_eq_true rfl, Nat.le_of_ble_eq_true rfl⟩ ⟨Nat.le_of_ble_eq_true rfl, Nat.le_of_ble_eq_true rfl⟩ (Nat.le_of_ble_eq_true rfl) dL_law_878 (fun H locs hI => ?_)
  refine lv_aload_n hx hb dL_law_881 rfl (lv_at hl 2 rfl) ?_
  refine lv_aload_n hx hb dL_law_882 rfl (lv_at hl 0 rfl) ?_
  refine lv_iload_n hx hb dL_law_883 rfl (lv_at hl 3 rfl) ?_
  refine lv_iconst hx hb dL_law_884 ci_1 ?_
  refine lv_iadd hx hb dL_law_885 ?_
  refine va_sld hx hb hX hbl hbA hI.2.2 hin_1 dL_law_886 ?_
  refine lv_aload_n hx hb dL_law_887 rfl (lv_at hl 0 rfl) ?_
  refine lv_iload_n hx hb dL_law_888 rfl (lv_at hl 3 rfl) ?_
  refine lv_iconst hx hb dL_law_889 ci_2 ?_
  refine lv_iadd hx hb dL_law_890 ?_
  refine va_sld hx hb hX hbl hbA hI.2.2 hin_2 dL_law_891 ?_
  refine lv_aload_n hx hb dL_law_892 rfl (lv_at hl 0 rfl) ?_
  refine lv_iload_n hx hb dL_law_893 rfl (lv_at hl 3 rfl) ?_
  refine lv_iconst hx hb dL_law_894 ci_3 ?_
  refine lv_iadd hx hb dL_law_895 ?_
  refine va_sld hx hb hX hbl hbA hI.2.2 hin_3 dL_law_896 ?_
  refine lm_i C hF hI hl.1 (rest := [.int r]) shM_0 rfl yv_X10_two k_1476 (c_X10_two l D t adM z hF.2.1 σm (xs (x3 + 1).toNatClampNeg) (xs (x3 + 2).toNatClampNeg) (xs (x3 + 3).toNatClampNeg) _ hm_) (As := [.int (xs (x3 + 1).toNatClampNeg), .int (xs (x3 + 2).toNatClampNeg), .int (xs (x3 + 3).toNatClampNeg)]) rfl rfl ⟨Nat.le_of_ble_eq_true rfl, Nat.le_of_ble_eq_true rfl⟩ ⟨Nat.le_of_ble_eq_true rfl, Nat.le_of_ble_eq_true rfl⟩ (Nat.le_of_ble_eq_true rfl) dL_law_897 (fun H locs hI => ?_)
  refine lv_icmp_eq (tgt := 1744) hx hb dL_law_900 (by decide) (fun _ => ?_) (fun c0 => absurd rfl c0)
  exact hK _ _ _ _ _ hRel2 hI hl
set_option maxRecDepth 100000 in
set_option maxHeartbeats 4000000 in
theorem lc_19 {p : Program} {l : Launch} {e : Env} {s : State} {m : MethodId} {below : List Frame} {meth : Method} {c : Code} {D : va_G} {t : gT} {adX adM z : Nat → Nat} {b L : Nat} {xs : Nat → Int32} (C : lwC p s m #[Value.ref b] c 4) (hX : va_X b L xs s s.heap) (hbl : b < s.heap.size) (hF : lwF s D t adX adM z) {Rel : gS → gS → Prop} (hE : EQ_success Rel) {x3 : Int32} (hin_1 : vp_in (x3 + 1) L) (hin_2 : vp_in (x3 + 2) L) (hin_3 : vp_in (x3 + 3) L) (hin_4 : vp_in (x3 + 4) L) (hK : ∀ (σx σm : gS) (H : Heap) (locs : List Loc) (ls : Array Slot), Rel σx σm → lwI s D t adX adM σx σm H locs → lv_has ls 4 [(0, .ref b), (1, .ref (adX 0)), (2, .ref (adM 0)), (3, .int x3)] → W p l e room_1 s m #[Value.ref b] below meth c H locs 82 38218 (lw_Z below #[Value.ref b] s) (F0 m 1744 ls [])) (σx σm : gS) (H : Heap) (locs : List Loc) (ls : Array Slot) (hRel : Rel σx σm) (hI : lwI s D t adX adM σx σm H locs) (hl : lv_has ls 4 [(0, .ref b), (1, .ref (adX 0)), (2, .ref (adM 0)), (3, .int x3)]) : W p l e room_1 s m #[Value.ref b] below meth c H locs 82 38218 (lw_Z below #[Value.ref b] s) (F0 m 905 ls []) := by
  obtain ⟨hx, hb, hml, hown, hts⟩ := id C
  have hbA : ¬ (fun q : Nat => s.heap.size ≤ q) b := Nat.not_le.mpr hbl
  obtain ⟨r, σ1, σ2, hx_, hm_, hRel2⟩ := hE σx σm (xs (x3 + 1).toNatClampNeg) (xs (x3 + 2).toNatClampNeg) (xs (x3 + 3).toNatClampNeg) (xs (x3 + 4).toNatClampNeg) hRel
  refine lv_aload_n hx hb dL_law_905 rfl (lv_at hl 1 rfl) ?_
  refine lv_aload_n hx hb dL_law_906 rfl (lv_at hl 0 rfl) ?_
  refine lv_iload_n hx hb dL_law_907 rfl (lv_at hl 3 rfl) ?_
  refine lv_iconst hx hb dL_law_908 ci_1 ?_
  refine lv_iadd hx hb dL_law_909 ?_
  refine va_sld hx hb hX hbl hbA hI.2.2 hin_1 dL_law_910 ?_
  refine lv_aload_n hx hb dL_law_911 rfl (lv_at hl 0 rfl) ?_
  refine lv_iload_n hx hb dL_law_912 rfl (lv_at hl 3 rfl) ?_
  refine lv_iconst hx hb dL_law_913 ci_2 ?_
  refine lv_iadd hx hb dL_law_914 ?_
  refine va_sld hx hb hX hbl hbA hI.2.2 hin_2 dL_law_915 ?_
  refine lv_aload_n hx hb dL_law_916 rfl (lv_at hl 0 rfl) ?_
  refine lv_iload_n hx hb dL_law_917 rfl (lv_at hl 3 rfl) ?_
  refine lv_iconst hx hb dL_law_918 ci_3 ?_
  refine lv_iadd hx hb dL_law_919 ?_
  refine va_sld hx hb hX hbl hbA hI.2.2 hin_3 dL_law_920 ?_
  refine lv_aload_n hx hb dL_law_921 rfl (lv_at hl 0 rfl) ?_
  refine lv_iload_n hx hb dL_law_922 rfl (lv_at hl 3 rfl) ?_
  refine lv_iconst hx hb dL_law_923 ci_4 ?_
  refine lv_iadd hx hb dL_law_924 ?_
  refine va_sld hx hb hX hbl hbA hI.2.2 hin_4 dL_law_925 ?_
  refine lx_i C hF hI hl.1 (rest := []) shX_0 rfl yv_X9_success k_776 (c_X9_success l D t adX z hF.1 σx (xs (x3 + 1).toNatClampNeg) (xs (x3 + 2).toNatClampNeg) (xs (x3 + 3).toNatClampNeg) (xs (x3 + 4).toNatClampNeg) _ hx_) (As := [.int (xs (x3 + 1).toNatClampNeg), .int (xs (x3 + 2).toNatClampNeg), .int (xs (x3 + 3).toNatClampNeg), .int (xs (x3 + 4).toNatClampNeg)]) rfl rfl ⟨Nat.le_of_ble_eq_true rfl, Nat.le_of_ble_eq_true rfl⟩ ⟨Nat.le_of_ble_eq_true rfl, Nat.le_of_ble_eq_true rfl⟩ (Nat.le_of_ble_eq_true rfl) dL_law_926 (fun H locs hI => ?_)
  refine lv_aload_n hx hb dL_law_929 rfl (lv_at hl 2 rfl) ?_
  refine lv_aload_n hx hb dL_law_930 rfl (lv_at hl 0 rfl) ?_
  refine lv_iload_n hx hb dL_law_931 rfl (lv_at hl 3 rfl) ?_
  refine lv_iconst hx hb dL_law_932 ci_1 ?_
  refine lv_iadd hx hb dL_law_933 ?_
  refine va_sld hx hb hX hbl hbA hI.2.2 hin_1 dL_law_934 ?_
  refine lv_aload_n hx hb dL_law_935 rfl (lv_at hl 0 rfl) ?_
  refine lv_iload_n hx hb dL_law_936 rfl (lv_at hl 3 rfl) ?_
  refine lv_iconst hx hb dL_law_937 ci_2 ?_
  refine lv_iadd hx hb dL_law_938 ?_
  refine va_sld hx hb hX hbl hbA hI.2.2 hin_2 dL_law_939 ?_
  refine lv_aload_n hx hb dL_law_940 rfl (lv_at hl 0 rfl) ?_
  refine lv_iload_n hx hb dL_law_941 rfl (lv_at hl 3 rfl) ?_
  refine lv_iconst hx hb dL_law_942 ci_3 ?_
  refine lv_iadd hx hb dL_law_943 ?_
  refine va_sld hx hb hX hbl hbA hI.2.2 hin_3 dL_law_944 ?_
  refine lv_aload_n hx hb dL_law_945 rfl (lv_at hl 0 rfl) ?_
  refine lv_iload_n hx hb dL_law_946 rfl (lv_at hl 3 rfl) ?_
  refine lv_iconst hx hb dL_law_947 ci_4 ?_
  refine lv_iadd hx hb dL_law_948 ?_
  refine va_sld hx hb hX hbl hbA hI.2.2 hin_4 dL_law_949 ?_
  refine lm_i C hF hI hl.1 (rest := [.int r]) shM_0 rfl yv_X10_success k_1488 (c_X10_success l D t adM z hF.2.1 σm (xs (x3 + 1).toNatClampNeg) (xs (x3 + 2).toNatClampNeg) (xs (x3 + 3).toNatClampNeg) (xs (x3 + 4).toNatClampNeg) _ hm_) (As := [.int (xs (x3 + 1).toNatClampNeg), .int (xs (x3 + 2).toNatClampNeg), .int (xs (x3 + 3).toNatClampNeg), .int (xs (x3 + 4).toNatClampNeg)]) rfl rfl ⟨Nat.le_of_ble_eq_true rfl, Nat.le_of_ble_eq_true rfl⟩ ⟨Nat.le_of_ble_eq_true rfl, Nat.le_of_ble_eq_true rfl⟩ (Nat.le_of_ble_eq_true rfl) dL_law_950 (fun H locs hI => ?_)
  refine lv_icmp_eq (tgt := 1744) hx hb dL_law_953 (by decide) (fun _ => ?_) (fun c0 => absurd rfl c0)
  exact hK _ _ _ _ _ hRel2 hI hl
set_option maxRecDepth 100000 in
set_option maxHeartbeats 4000000 in
theorem lc_20 {p : Program} {l : Launch} {e : Env} {s : State} {m : MethodId} {below : List Frame} {meth : Method} {c : Code} {D : va_G} {t : gT} {adX adM z : Nat → Nat} {b L : Nat} {xs : Nat → Int32} (C : lwC p s m #[Value.ref b] c 4) (hX : va_X b L xs s s.heap) (hbl : b < s.heap.size) (hF : lwF s D t adX adM z) {Rel : gS → gS → Prop} (hE : EQ_bestMinute Rel) {x3 : Int32} (hin_1 : vp_in (x3 + 1) L) (hin_2 : vp_in (x3 + 2) L) (hin_3 : vp_in (x3 + 3) L) (hin_4 : vp_in (x3 + 4) L) (hK : ∀ (σx σm : gS) (H : Heap) (locs : List Loc) (ls : Array Slot), Rel σx σm → lwI s D t adX adM σx σm H locs → lv_has ls 4 [(0, .ref b), (1, .ref (adX 0)), (2, .ref (adM 0)), (3, .int x3)] → W p l e room_1 s m #[Value.ref b] below meth c H locs 82 38218 (lw_Z below #[Value.ref b] s) (F0 m 1744 ls [])) (σx σm : gS) (H : Heap) (locs : List Loc) (ls : Array Slot) (hRel : Rel σx σm) (hI : lwI s D t adX adM σx σm H locs) (hl : lv_has ls 4 [(0, .ref b), (1, .ref (adX 0)), (2, .ref (adM 0)), (3, .int x3)]) : W p l e room_1 s m #[Value.ref b] below meth c H locs 82 38218 (lw_Z below #[Value.ref b] s) (F0 m 958 ls []) := by
  obtain ⟨hx, hb, hml, hown, hts⟩ := id C
  have hbA : ¬ (fun q : Nat => s.heap.size ≤ q) b := Nat.not_le.mpr hbl
  obtain ⟨r, σ1, σ2, hx_, hm_, hRel2⟩ := hE σx σm (xs (x3 + 1).toNatClampNeg) (xs (x3 + 2).toNatClampNeg) (xs (x3 + 3).toNatClampNeg) (xs (x3 + 4).toNatClampNeg) hRel
  refine lv_aload_n hx hb dL_law_958 rfl (lv_at hl 1 rfl) ?_
  refine lv_aload_n hx hb dL_law_959 rfl (lv_at hl 0 rfl) ?_
  refine lv_iload_n hx hb dL_law_960 rfl (lv_at hl 3 rfl) ?_
  refine lv_iconst hx hb dL_law_961 ci_1 ?_
  refine lv_iadd hx hb dL_law_962 ?_
  refine va_sld hx hb hX hbl hbA hI.2.2 hin_1 dL_law_963 ?_
  refine lv_aload_n hx hb dL_law_964 rfl (lv_at hl 0 rfl) ?_
  refine lv_iload_n hx hb dL_law_965 rfl (lv_at hl 3 rfl) ?_
  refine lv_iconst hx hb dL_law_966 ci_2 ?_
  refine lv_iadd hx hb dL_law_967 ?_
  refine va_sld hx hb hX hbl hbA hI.2.2 hin_2 dL_law_968 ?_
  refine lv_aload_n hx hb dL_law_969 rfl (lv_at hl 0 rfl) ?_
  refine lv_iload_n hx hb dL_law_970 rfl (lv_at hl 3 rfl) ?_
  refine lv_iconst hx hb dL_law_971 ci_3 ?_
  refine lv_iadd hx hb dL_law_972 ?_
  refine va_sld hx hb hX hbl hbA hI.2.2 hin_3 dL_law_973 ?_
  refine lv_aload_n hx hb dL_law_974 rfl (lv_at hl 0 rfl) ?_
  refine lv_iload_n hx hb dL_law_975 rfl (lv_at hl 3 rfl) ?_
  refine lv_iconst hx hb dL_law_976 ci_4 ?_
  refine lv_iadd hx hb dL_law_977 ?_
  refine va_sld hx hb hX hbl hbA hI.2.2 hin_4 dL_law_978 ?_
  refine lx_i C hF hI hl.1 (rest := []) shX_0 rfl yv_X9_bestMinute k_798 (c_X9_bestMinute l D t adX z hF.1 σx (xs (x3 + 1).toNatClampNeg) (xs (x3 + 2).toNatClampNeg) (xs (x3 + 3).toNatClampNeg) (xs (x3 + 4).toNatClampNeg) _ hx_) (As := [.int (xs (x3 + 1).toNatClampNeg), .int (xs (x3 + 2).toNatClampNeg), .int (xs (x3 + 3).toNatClampNeg), .int (xs (x3 + 4).toNatClampNeg)]) rfl rfl ⟨Nat.le_of_ble_eq_true rfl, Nat.le_of_ble_eq_true rfl⟩ ⟨Nat.le_of_ble_eq_true rfl, Nat.le_of_ble_eq_true rfl⟩ (Nat.le_of_ble_eq_true rfl) dL_law_979 (fun H locs hI => ?_)
  refine lv_aload_n hx hb dL_law_982 rfl (lv_at hl 2 rfl) ?_
  refine lv_aload_n hx hb dL_law_983 rfl (lv_at hl 0 rfl) ?_
  refine lv_iload_n hx hb dL_law_984 rfl (lv_at hl 3 rfl) ?_
  refine lv_iconst hx hb dL_law_985 ci_1 ?_
  refine lv_iadd hx hb dL_law_986 ?_
  refine va_sld hx hb hX hbl hbA hI.2.2 hin_1 dL_law_987 ?_
  refine lv_aload_n hx hb dL_law_988 rfl (lv_at hl 0 rfl) ?_
  refine lv_iload_n hx hb dL_law_989 rfl (lv_at hl 3 rfl) ?_
  refine lv_iconst hx hb dL_law_990 ci_2 ?_
  refine lv_iadd hx hb dL_law_991 ?_
  refine va_sld hx hb hX hbl hbA hI.2.2 hin_2 dL_law_992 ?_
  refine lv_aload_n hx hb dL_law_993 rfl (lv_at hl 0 rfl) ?_
  refine lv_iload_n hx hb dL_law_994 rfl (lv_at hl 3 rfl) ?_
  refine lv_iconst hx hb dL_law_995 ci_3 ?_
  refine lv_iadd hx hb dL_law_996 ?_
  refine va_sld hx hb hX hbl hbA hI.2.2 hin_3 dL_law_997 ?_
  refine lv_aload_n hx hb dL_law_998 rfl (lv_at hl 0 rfl) ?_
  refine lv_iload_n hx hb dL_law_999 rfl (lv_at hl 3 rfl) ?_
  refine lv_iconst hx hb dL_law_1000 ci_4 ?_
  refine lv_iadd hx hb dL_law_1001 ?_
  refine va_sld hx hb hX hbl hbA hI.2.2 hin_4 dL_law_1002 ?_
  refine lm_i C hF hI hl.1 (rest := [.int r]) shM_0 rfl yv_X10_bestMinute_ k_1511 (c_X10_bestMinute_ l D t adM z hF.2.1 σm (xs (x3 + 1).toNatClampNeg) (xs (x3 + 2).toNatClampNeg) (xs (x3 + 3).toNatClampNeg) (xs (x3 + 4).toNatClampNeg) _ hm_) (As := [.int (xs (x3 + 1).toNatClampNeg), .int (xs (x3 + 2).toNatClampNeg), .int (xs (x3 + 3).toNatClampNeg), .int (xs (x3 + 4).toNatClampNeg)]) rfl rfl ⟨Nat.le_of_ble_eq_true rfl, Nat.le_of_ble_eq_true rfl⟩ ⟨Nat.le_of_ble_eq_true rfl, Nat.le_of_ble_eq_true rfl⟩ (Nat.le_of_ble_eq_true rfl) dL_law_1003 (fun H locs hI => ?_)
  refine lv_icmp_eq (tgt := 1744) hx hb dL_law_1006 (by decide) (fun _ => ?_) (fun c0 => absurd rfl c0)
  exact hK _ _ _ _ _ hRel2 hI hl
set_option maxRecDepth 100000 in
set_option maxHeartbeats 4000000 in
theorem lc_21 {p : Program} {l : Launch} {e : Env} {s : State} {m : MethodId} {below : List Frame} {meth : Method} {c : Code} {D : va_G} {t : gT} {adX adM z : Nat → Nat} {b L : Nat} {xs : Nat → Int32} (C : lwC p s m #[Value.ref b] c 4) (hX : va_X b L xs s s.heap) (hbl : b < s.heap.size) (hF : lwF s D t adX adM z) {Rel : gS → gS → Prop} (hE : EQ_mix Rel) {x3 : Int32} (hin_1 : vp_in (x3 + 1) L) (hin_2 : vp_in (x3 + 2) L) (hin_3 : vp_in (x3 + 3) L) (hK : ∀ (σx σm : gS) (H : Heap) (locs : List Loc) (ls : Array Slot), Rel σx σm → lwI s D t adX adM σx σm H locs → lv_has ls 4 [(0, .ref b), (1, .ref (adX 0)), (2, .ref (adM 0)), (3, .int x3)] → W p l e room_1 s m #[Value.ref b] below meth c H locs 82 38218 (lw_Z below #[Value.ref b] s) (F0 m 1744 ls [])) (σx σm : gS) (H : Heap) (locs : List Loc) (ls : Array Slot) (hRel : Rel σx σm) (hI : lwI s D t adX adM σx σm H locs) (hl : lv_has ls 4 [(0, .ref b), (1, .ref (adX 0)), (2, .ref (adM 0)), (3, .int x3)]) : W p l e room_1 s m #[Value.ref b] below meth c H locs 82 38218 (lw_Z below #[Value.ref b] s) (F0 m 1011 ls []) := by
  obtain ⟨hx, hb, hml, hown, hts⟩ := id C
  have hbA : ¬ (fun q : Nat => s.heap.size ≤ q) b := Nat.not_le.mpr hbl
  obtain ⟨r, σ1, σ2, hx_, hm_, hRel2⟩ := hE σx σm (xs (x3 + 1).toNatClampNeg) (xs (x3 + 2).toNatClampNeg) (xs (x3 + 3).toNatClampNeg) hRel
  refine lv_aload_n hx hb dL_law_1011 rfl (lv_at hl 1 rfl) ?_
  refine lv_aload_n hx hb dL_law_1012 rfl (lv_at hl 0 rfl) ?_
  refine lv_iload_n hx hb dL_law_1013 rfl (lv_at hl 3 rfl) ?_
  refine lv_iconst hx hb dL_law_1014 ci_1 ?_
  refine lv_iadd hx hb dL_law_1015 ?_
  refine va_sld hx hb hX hbl hbA hI.2.2 hin_1 dL_law_1016 ?_
  refine lv_aload_n hx hb dL_law_1017 rfl (lv_at hl 0 rfl) ?_
  refine lv_iload_n hx hb dL_law_1018 rfl (lv_at hl 3 rfl) ?_
  refine lv_iconst hx hb dL_law_1019 ci_2 ?_
  refine lv_iadd hx hb dL_law_1020 ?_
  refine va_sld hx hb hX hbl hbA hI.2.2 hin_2 dL_law_1021 ?_
  refine lv_aload_n hx hb dL_law_1022 rfl (lv_at hl 0 rfl) ?_
  refine lv_iload_n hx hb dL_law_1023 rfl (lv_at hl 3 rfl) ?_
  refine lv_iconst hx hb dL_law_1024 ci_3 ?_
  refine lv_iadd hx hb dL_law_1025 ?_
  refine va_sld hx hb hX hbl hbA hI.2.2 hin_3 dL_law_1026 ?_
  refine lx_i C hF hI hl.1 (rest := []) shX_0 rfl yv_X9_mix k_810 (c_X9_mix l D t adX z hF.1 σx (xs (x3 + 1).toNatClampNeg) (xs (x3 + 2).toNatClampNeg) (xs (x3 + 3).toNatClampNeg) _ hx_) (As := [.int (xs (x3 + 1).toNatClampNeg), .int (xs (x3 + 2).toNatClampNeg), .int (xs (x3 + 3).toNatClampNeg)]) rfl rfl ⟨Nat.le_of_ble_eq_true rfl, Nat.le_of_ble_eq_true rfl⟩ ⟨Nat.le_of_ble_eq_true rfl, Nat.le_of_ble_eq_true rfl⟩ (Nat.le_of_ble_eq_true rfl) dL_law_1027 (fun H locs hI => ?_)
  refine lv_aload_n hx hb dL_law_1030 rfl (lv_at hl 2 rfl) ?_
  refine lv_aload_n hx hb dL_law_1031 rfl (lv_at hl 0 rfl) ?_
  refine lv_iload_n hx hb dL_law_1032 rfl (lv_at hl 3 rfl) ?_
  refine lv_iconst hx hb dL_law_1033 ci_1 ?_
  refine lv_iadd hx hb dL_law_1034 ?_
  refine va_sld hx hb hX hbl hbA hI.2.2 hin_1 dL_law_1035 ?_
  refine lv_aload_n hx hb dL_law_1036 rfl (lv_at hl 0 rfl) ?_
  refine lv_iload_n hx hb dL_law_1037 rfl (lv_at hl 3 rfl) ?_
  refine lv_iconst hx hb dL_law_1038 ci_2 ?_
  refine lv_iadd hx hb dL_law_1039 ?_
  refine va_sld hx hb hX hbl hbA hI.2.2 hin_2 dL_law_1040 ?_
  refine lv_aload_n hx hb dL_law_1041 rfl (lv_at hl 0 rfl) ?_
  refine lv_iload_n hx hb dL_law_1042 rfl (lv_at hl 3 rfl) ?_
  refine lv_iconst hx hb dL_law_1043 ci_3 ?_
  refine lv_iadd hx hb dL_law_1044 ?_
  refine va_sld hx hb hX hbl hbA hI.2.2 hin_3 dL_law_1045 ?_
  refine lm_i C hF hI hl.1 (rest := [.int r]) shM_0 rfl yv_X10_mix k_1519 (c_X10_mix l D t adM z hF.2.1 σm (xs (x3 + 1).toNatClampNeg) (xs (x3 + 2).toNatClampNeg) (xs (x3 + 3).toNatClampNeg) _ hm_) (As := [.int (xs (x3 + 1).toNatClampNeg), .int (xs (x3 + 2).toNatClampNeg), .int (xs (x3 + 3).toNatClampNeg)]) rfl rfl ⟨Nat.le_of_ble_eq_true rfl, Nat.le_of_ble_eq_true rfl⟩ ⟨Nat.le_of_ble_eq_true rfl, Nat.le_of_ble_eq_true rfl⟩ (Nat.le_of_ble_eq_true rfl) dL_law_1046 (fun H locs hI => ?_)
  refine lv_icmp_eq (tgt := 1744) hx hb dL_law_1049 (by decide) (fun _ => ?_) (fun c0 => absurd rfl c0)
  exact hK _ _ _ _ _ hRel2 hI hl
set_option maxRecDepth 100000 in
set_option maxHeartbeats 4000000 in
theorem lc_22 {p : Program} {l : Launch} {e : Env} {s : State} {m : MethodId} {below : List Frame} {meth : Method} {c : Code} {D : va_G} {t : gT} {adX adM z : Nat → Nat} {b L : Nat} {xs : Nat → Int32} (C : lwC p s m #[Value.ref b] c 4) (hX : va_X b L xs s s.heap) (hbl : b < s.heap.size) (hF : lwF s D t adX adM z) {Rel : gS → gS → Prop} (hE : EQ_paper Rel) {x3 : Int32} (hin_1 : vp_in (x3 + 1) L) (hin_2 : vp_in (x3 + 2) L) (hK : ∀ (σx σm : gS) (H : Heap) (locs : List Loc) (ls : Array Slot), Rel σx σm → lwI s D t adX adM σx σm H locs → lv_has ls 4 [(0, .ref b), (1, .ref (adX 0)), (2, .ref (adM 0)), (3, .int x3)] → W p l e room_1 s m #[Value.ref b] below meth c H locs 82 38218 (lw_Z below #[Value.ref b] s) (F0 m 1744 ls [])) (σx σm : gS) (H : Heap) (locs : List Loc) (ls : Array Slot) (hRel : Rel σx σm) (hI : lwI s D t adX adM σx σm H locs) (hl : lv_has ls 4 [(0, .ref b), (1, .ref (adX 0)), (2, .ref (adM 0)), (3, .int x3)]) : W p l e room_1 s m #[Value.ref b] below meth c H locs 82 38218 (lw_Z below #[Value.ref b] s) (F0 m 1054 ls []) := by
  obtain ⟨hx, hb, hml, hown, hts⟩ := id C
  have hbA : ¬ (fun q : Nat => s.heap.size ≤ q) b := Nat.not_le.mpr hbl
  obtain ⟨r, hx_, hm_, hRel2⟩ := hE σx σm (xs (x3 + 1).toNatClampNeg) (xs (x3 + 2).toNatClampNeg) hRel
  refine lv_aload_n hx hb dL_law_1054 rfl (lv_at hl 1 rfl) ?_
  refine lv_aload_n hx hb dL_law_1055 rfl (lv_at hl 0 rfl) ?_
  refine lv_iload_n hx hb dL_law_1056 rfl (lv_at hl 3 rfl) ?_
  refine lv_iconst hx hb dL_law_1057 ci_1 ?_
  refine lv_iadd hx hb dL_law_1058 ?_
  refine va_sld hx hb hX hbl hbA hI.2.2 hin_1 dL_law_1059 ?_
  refine lv_aload_n hx hb dL_law_1060 rfl (lv_at hl 0 rfl) ?_
  refine lv_iload_n hx hb dL_law_1061 rfl (lv_at hl 3 rfl) ?_
  refine lv_iconst hx hb dL_law_1062 ci_2 ?_
  refine lv_iadd hx hb dL_law_1063 ?_
  refine va_sld hx hb hX hbl hbA hI.2.2 hin_2 dL_law_1064 ?_
  refine lx_i C hF hI hl.1 (rest := []) shX_0 rfl yv_X9_paper k_817 (c_X9_paper l D t adX z hF.1 σx (xs (x3 + 1).toNatClampNeg) (xs (x3 + 2).toNatClampNeg) _ hx_) (As := [.int (xs (x3 + 1).toNatClampNeg), .int (xs (x3 + 2).toNatClampNeg)]) rfl rfl ⟨Nat.le_of_ble_eq_true rfl, Nat.le_of_ble_eq_true rfl⟩ ⟨Nat.le_of_ble_eq_true rfl, Nat.le_of_ble_eq_true rfl⟩ (Nat.le_of_ble_eq_true rfl) dL_law_1065 (fun H locs hI => ?_)
  refine lv_aload_n hx hb dL_law_1068 rfl (lv_at hl 2 rfl) ?_
  refine lv_aload_n hx hb dL_law_1069 rfl (lv_at hl 0 rfl) ?_
  refine lv_iload_n hx hb dL_law_1070 rfl (lv_at hl 3 rfl) ?_
  refine lv_iconst hx hb dL_law_1071 ci_1 ?_
  refine lv_iadd hx hb dL_law_1072 ?_
  refine va_sld hx hb hX hbl hbA hI.2.2 hin_1 dL_law_1073 ?_
  refine lv_aload_n hx hb dL_law_1074 rfl (lv_at hl 0 rfl) ?_
  refine lv_iload_n hx hb dL_law_1075 rfl (lv_at hl 3 rfl) ?_
  refine lv_iconst hx hb dL_law_1076 ci_2 ?_
  refine lv_iadd hx hb dL_law_1077 ?_
  refine va_sld hx hb hX hbl hbA hI.2.2 hin_2 dL_law_1078 ?_
  refine lm_i C hF hI hl.1 (rest := [.int r]) shM_0 rfl yv_X10_paper k_1523 (c_X10_paper l D t adM z hF.2.1 σm (xs (x3 + 1).toNatClampNeg) (xs (x3 + 2).toNatClampNeg) _ hm_) (As := [.int (xs (x3 + 1).toNatClampNeg), .int (xs (x3 + 2).toNatClampNeg)]) rfl rfl ⟨Nat.le_of_ble_eq_true rfl, Nat.le_of_ble_eq_true rfl⟩ ⟨Nat.le_of_ble_eq_true rfl, Nat.le_of_ble_eq_true rfl⟩ (Nat.le_of_ble_eq_true rfl) dL_law_1079 (fun H locs hI => ?_)
  refine lv_icmp_eq (tgt := 1744) hx hb dL_law_1082 (by decide) (fun _ => ?_) (fun c0 => absurd rfl c0)
  exact hK _ _ _ _ _ hRel2 hI hl
set_option maxRecDepth 100000 in
set_option maxHeartbeats 4000000 in
theorem lc_23 {p : Program} {l : Launch} {e : Env} {s : State} {m : MethodId} {below : List Frame} {meth : Method} {c : Code} {D : va_G} {t : gT} {adX adM z : Nat → Nat} {b L : Nat} {xs : Nat → Int32} (C : lwC p s m #[Value.ref b] c 4) (hX : va_X b L xs s s.heap) (hbl : b < s.heap.size) (hF : lwF s D t adX adM z) {Rel : gS → gS → Prop} (hE : EQ_which Rel) {x3 : Int32} (hin_1 : vp_in (x3 + 1) L) (hK : ∀ (σx σm : gS) (H : Heap) (locs : List Loc) (ls : Array Slot), Rel σx σm → lwI s D t adX adM σx σm H locs → lv_has ls 4 [(0, .ref b), (1, .ref (adX 0)), (2, .ref (adM 0)), (3, .int x3)] → W p l e room_1 s m #[Value.ref b] below meth c H locs 82 38218 (lw_Z below #[Value.ref b] s) (F0 m 1744 ls [])) (σx σm : gS) (H : Heap) (locs : List Loc) (ls : Array Slot) (hRel : Rel σx σm) (hI : lwI s D t adX adM σx σm H locs) (hl : lv_has ls 4 [(0, .ref b), (1, .ref (adX 0)), (2, .ref (adM 0)), (3, .int x3)]) : W p l e room_1 s m #[Value.ref b] below meth c H locs 82 38218 (lw_Z below #[Value.ref b] s) (F0 m 1087 ls []) := by
  obtain ⟨hx, hb, hml, hown, hts⟩ := id C
  have hbA : ¬ (fun q : Nat => s.heap.size ≤ q) b := Nat.not_le.mpr hbl
  obtain ⟨r, σ1, σ2, hx_, hm_, hRel2⟩ := hE σx σm (xs (x3 + 1).toNatClampNeg) hRel
  refine lv_aload_n hx hb dL_law_1087 rfl (lv_at hl 1 rfl) ?_
  refine lv_aload_n hx hb dL_law_1088 rfl (lv_at hl 0 rfl) ?_
  refine lv_iload_n hx hb dL_law_1089 rfl (lv_at hl 3 rfl) ?_
  refine lv_iconst hx hb dL_law_1090 ci_1 ?_
  refine lv_iadd hx hb dL_law_1091 ?_
  refine va_sld hx hb hX hbl hbA hI.2.2 hin_1 dL_law_1092 ?_
  refine lx_i C hF hI hl.1 (rest := []) shX_0 rfl yv_X9_which k_847 (c_X9_which l D t adX z hF.1 σx (xs (x3 + 1).toNatClampNeg) _ hx_) (As := [.int (xs (x3 + 1).toNatClampNeg)]) rfl rfl ⟨Nat.le_of_ble_eq_true rfl, Nat.le_of_ble_eq_true rfl⟩ ⟨Nat.le_of_ble_eq_true rfl, Nat.le_of_ble_eq_true rfl⟩ (Nat.le_of_ble_eq_true rfl) dL_law_1093 (fun H locs hI => ?_)
  refine lv_aload_n hx hb dL_law_1096 rfl (lv_at hl 2 rfl) ?_
  refine lv_aload_n hx hb dL_law_1097 rfl (lv_at hl 0 rfl) ?_
  refine lv_iload_n hx hb dL_law_1098 rfl (lv_at hl 3 rfl) ?_
  refine lv_iconst hx hb dL_law_1099 ci_1 ?_
  refine lv_iadd hx hb dL_law_1100 ?_
  refine va_sld hx hb hX hbl hbA hI.2.2 hin_1 dL_law_1101 ?_
  refine lm_i C hF hI hl.1 (rest := [.int r]) shM_0 rfl yv_X10_which k_1531 (c_X10_which l D t adM z hF.2.1 σm (xs (x3 + 1).toNatClampNeg) _ hm_) (As := [.int (xs (x3 + 1).toNatClampNeg)]) rfl rfl ⟨Nat.le_of_ble_eq_true rfl, Nat.le_of_ble_eq_true rfl⟩ ⟨Nat.le_of_ble_eq_true rfl, Nat.le_of_ble_eq_true rfl⟩ (Nat.le_of_ble_eq_true rfl) dL_law_1102 (fun H locs hI => ?_)
  refine lv_icmp_eq (tgt := 1744) hx hb dL_law_1105 (by decide) (fun _ => ?_) (fun c0 => absurd rfl c0)
  exact hK _ _ _ _ _ hRel2 hI hl
set_option maxRecDepth 100000 in
set_option maxHeartbeats 4000000 in
theorem lc_24 {p : Program} {l : Launch} {e : Env} {s : State} {m : MethodId} {below : List Frame} {meth : Method} {c : Code} {D : va_G} {t : gT} {adX adM z : Nat → Nat} {b L : Nat} {xs : Nat → Int32} (C : lwC p s m #[Value.ref b] c 4) (hX : va_X b L xs s s.heap) (hbl : b < s.heap.size) (hF : lwF s D t adX adM z) {Rel : gS → gS → Prop} (hE : EQ_fit Rel) {x3 : Int32} (hin_1 : vp_in (x3 + 1) L) (hin_2 : vp_in (x3 + 2) L) (hK : ∀ (σx σm : gS) (H : Heap) (locs : List Loc) (ls : Array Slot), Rel σx σm → lwI s D t adX adM σx σm H locs → lv_has ls 4 [(0, .ref b), (1, .ref (adX 0)), (2, .ref (adM 0)), (3, .int x3)] → W p l e room_1 s m #[Value.ref b] below meth c H locs 82 38218 (lw_Z below #[Value.ref b] s) (F0 m 1744 ls [])) (σx σm : gS) (H : Heap) (locs : List Loc) (ls : Array Slot) (hRel : Rel σx σm) (hI : lwI s D t adX adM σx σm H locs) (hl : lv_has ls 4 [(0, .ref b), (1, .ref (adX 0)), (2, .ref (adM 0)), (3, .int x3)]) : W p l e room_1 s m #[Value.ref b] below meth c H locs 82 38218 (lw_Z below #[Value.ref b] s) (F0 m 1110 ls []) := by
  obtain ⟨hx, hb, hml, hown, hts⟩ := id C
  have hbA : ¬ (fun q : Nat => s.heap.size ≤ q) b := Nat.not_le.mpr hbl
  obtain ⟨r, σ1, σ2, hx_, hm_, hRel2⟩ := hE σx σm (xs (x3 + 1).toNatClampNeg) (xs (x3 + 2).toNatClampNeg) hRel
  refine lv_aload_n hx hb dL_law_1110 rfl (lv_at hl 1 rfl) ?_
  refine lv_aload_n hx hb dL_law_1111 rfl (lv_at hl 0 rfl) ?_
  refine lv_iload_n hx hb dL_law_1112 rfl (lv_at hl 3 rfl) ?_
  refine lv_iconst hx hb dL_law_1113 ci_1 ?_
  refine lv_iadd hx hb dL_law_1114 ?_
  refine va_sld hx hb hX hbl hbA hI.2.2 hin_1 dL_law_1115 ?_
  refine lv_aload_n hx hb dL_law_1116 rfl (lv_at hl 0 rfl) ?_
  refine lv_iload_n hx hb dL_law_1117 rfl (lv_at hl 3 rfl) ?_
  refine lv_iconst hx hb dL_law_1118 ci_2 ?_
  refine lv_iadd hx hb dL_law_1119 ?_
  refine va_sld hx hb hX hbl hbA hI.2.2 hin_2 dL_law_1120 ?_
  refine lx_i C hF hI hl.1 (rest := []) shX_0 rfl yv_X9_fit k_856 (c_X9_fit l D t adX z hF.1 σx (xs (x3 + 1).toNatClampNeg) (xs (x3 + 2).toNatClampNeg) _ hx_) (As := [.int (xs (x3 + 1).toNatClampNeg), .int (xs (x3 + 2).toNatClampNeg)]) rfl rfl ⟨Nat.le_of_ble_eq_true rfl, Nat.le_of_ble_eq_true rfl⟩ ⟨Nat.le_of_ble_eq_true rfl, Nat.le_of_ble_eq_true rfl⟩ (Nat.le_of_ble_eq_true rfl) dL_law_1121 (fun H locs hI => ?_)
  refine lv_aload_n hx hb dL_law_1124 rfl (lv_at hl 2 rfl) ?_
  refine lv_aload_n hx hb dL_law_1125 rfl (lv_at hl 0 rfl) ?_
  refine lv_iload_n hx hb dL_law_1126 rfl (lv_at hl 3 rfl) ?_
  refine lv_iconst hx hb dL_law_1127 ci_1 ?_
  refine lv_iadd hx hb dL_law_1128 ?_
  refine va_sld hx hb hX hbl hbA hI.2.2 hin_1 dL_law_1129 ?_
  refine lv_aload_n hx hb dL_law_1130 rfl (lv_at hl 0 rfl) ?_
  refine lv_iload_n hx hb dL_law_1131 rfl (lv_at hl 3 rfl) ?_
  refine lv_iconst hx hb dL_law_1132 ci_2 ?_
  refine lv_iadd hx hb dL_law_1133 ?_
  refine va_sld hx hb hX hbl hbA hI.2.2 hin_2 dL_law_1134 ?_
  refine lm_i C hF hI hl.1 (rest := [.int r]) shM_0 rfl yv_X10_fit k_1539 (c_X10_fit l D t adM z hF.2.1 σm (xs (x3 + 1).toNatClampNeg) (xs (x3 + 2).toNatClampNeg) _ hm_) (As := [.int (xs (x3 + 1).toNatClampNeg), .int (xs (x3 + 2).toNatClampNeg)]) rfl rfl ⟨Nat.le_of_ble_eq_true rfl, Nat.le_of_ble_eq_true rfl⟩ ⟨Nat.le_of_ble_eq_true rfl, Nat.le_of_ble_eq_true rfl⟩ (Nat.le_of_ble_eq_true rfl) dL_law_1135 (fun H locs hI => ?_)
  refine lv_icmp_eq (tgt := 1744) hx hb dL_law_1138 (by decide) (fun _ => ?_) (fun c0 => absurd rfl c0)
  exact hK _ _ _ _ _ hRel2 hI hl
set_option maxRecDepth 100000 in
set_option maxHeartbeats 4000000 in
theorem lc_25 {p : Program} {l : Launch} {e : Env} {s : State} {m : MethodId} {below : List Frame} {meth : Method} {c : Code} {D : va_G} {t : gT} {adX adM z : Nat → Nat} {b L : Nat} {xs : Nat → Int32} (C : lwC p s m #[Value.ref b] c 4) (hX : va_X b L xs s s.heap) (hbl : b < s.heap.size) (hF : lwF s D t adX adM z) {Rel : gS → gS → Prop} (hE : EQ_hang Rel) {x3 : Int32} (hin_1 : vp_in (x3 + 1) L) (hin_2 : vp_in (x3 + 2) L) (hK : ∀ (σx σm : gS) (H : Heap) (locs : List Loc) (ls : Array Slot), Rel σx σm → lwI s D t adX adM σx σm H locs → lv_has ls 4 [(0, .ref b), (1, .ref (adX 0)), (2, .ref (adM 0)), (3, .int x3)] → W p l e room_1 s m #[Value.ref b] below meth c H locs 82 38218 (lw_Z below #[Value.ref b] s) (F0 m 1744 ls [])) (σx σm : gS) (H : Heap) (locs : List Loc) (ls : Array Slot) (hRel : Rel σx σm) (hI : lwI s D t adX adM σx σm H locs) (hl : lv_has ls 4 [(0, .ref b), (1, .ref (adX 0)), (2, .ref (adM 0)), (3, .int x3)]) : W p l e room_1 s m #[Value.ref b] below meth c H locs 82 38218 (lw_Z below #[Value.ref b] s) (F0 m 1143 ls []) := by
  obtain ⟨hx, hb, hml, hown, hts⟩ := id C
  have hbA : ¬ (fun q : Nat => s.heap.size ≤ q) b := Nat.not_le.mpr hbl
  obtain ⟨r, hx_, hm_, hRel2⟩ := hE σx σm (xs (x3 + 1).toNatClampNeg) (xs (x3 + 2).toNatClampNeg) hRel
  refine lv_aload_n hx hb dL_law_1143 rfl (lv_at hl 1 rfl) ?_
  refine lv_aload_n hx hb dL_law_1144 rfl (lv_at hl 0 rfl) ?_
  refine lv_iload_n hx hb dL_law_1145 rfl (lv_at hl 3 rfl) ?_
  refine lv_iconst hx hb dL_law_1146 ci_1 ?_
  refine lv_iadd hx hb dL_law_1147 ?_
  refine va_sld hx hb hX hbl hbA hI.2.2 hin_1 dL_law_1148 ?_
  refine lv_aload_n hx hb dL_law_1149 rfl (lv_at hl 0 rfl) ?_
  refine lv_iload_n hx hb dL_law_1150 rfl (lv_at hl 3 rfl) ?_
  refine lv_iconst hx hb dL_law_1151 ci_2 ?_
  refine lv_iadd hx hb dL_law_1152 ?_
  refine va_sld hx hb hX hbl hbA hI.2.2 hin_2 dL_law_1153 ?_
  refine lx_i C hF hI hl.1 (rest := []) shX_0 rfl yv_X9_hang k_869 (c_X9_hang l D t adX z hF.1 σx (xs (x3 + 1).toNatClampNeg) (xs (x3 + 2).toNatClampNeg) _ hx_) (As := [.int (xs (x3 + 1).toNatClampNeg), .int (xs (x3 + 2).toNatClampNeg)]) rfl rfl ⟨Nat.le_of_ble_eq_true rfl, Nat.le_of_ble_eq_true rfl⟩ ⟨Nat.le_of_ble_eq_true rfl, Nat.le_of_ble_eq_true rfl⟩ (Nat.le_of_ble_eq_true rfl) dL_law_1154 (fun H locs hI => ?_)
  refine lv_aload_n hx hb dL_law_1157 rfl (lv_at hl 2 rfl) ?_
  refine lv_aload_n hx hb dL_law_1158 rfl (lv_at hl 0 rfl) ?_
  refine lv_iload_n hx hb dL_law_1159 rfl (lv_at hl 3 rfl) ?_
  refine lv_iconst hx hb dL_law_1160 ci_1 ?_
  refine lv_iadd hx hb dL_law_1161 ?_
  refine va_sld hx hb hX hbl hbA hI.2.2 hin_1 dL_law_1162 ?_
  refine lv_aload_n hx hb dL_law_1163 rfl (lv_at hl 0 rfl) ?_
  refine lv_iload_n hx hb dL_law_1164 rfl (lv_at hl 3 rfl) ?_
  refine lv_iconst hx hb dL_law_1165 ci_2 ?_
  refine lv_iadd hx hb dL_law_1166 ?_
  refine va_sld hx hb hX hbl hbA hI.2.2 hin_2 dL_law_1167 ?_
  refine lm_i C hF hI hl.1 (rest := [.int r]) shM_0 rfl yv_X10_hang k_1543 (c_X10_hang l D t adM z hF.2.1 σm (xs (x3 + 1).toNatClampNeg) (xs (x3 + 2).toNatClampNeg) _ hm_) (As := [.int (xs (x3 + 1).toNatClampNeg), .int (xs (x3 + 2).toNatClampNeg)]) rfl rfl ⟨Nat.le_of_ble_eq_true rfl, Nat.le_of_ble_eq_true rfl⟩ ⟨Nat.le_of_ble_eq_true rfl, Nat.le_of_ble_eq_true rfl⟩ (Nat.le_of_ble_eq_true rfl) dL_law_1168 (fun H locs hI => ?_)
  refine lv_icmp_eq (tgt := 1744) hx hb dL_law_1171 (by decide) (fun _ => ?_) (fun c0 => absurd rfl c0)
  exact hK _ _ _ _ _ hRel2 hI hl
set_option maxRecDepth 100000 in
set_option maxHeartbeats 4000000 in
theorem lc_26 {p : Program} {l : Launch} {e : Env} {s : State} {m : MethodId} {below : List Frame} {meth : Method} {c : Code} {D : va_G} {t : gT} {adX adM z : Nat → Nat} {b L : Nat} {xs : Nat → Int32} (C : lwC p s m #[Value.ref b] c 4) (hX : va_X b L xs s s.heap) (hbl : b < s.heap.size) (hF : lwF s D t adX adM z) {Rel : gS → gS → Prop} (hE : EQ_drawn Rel) {x3 : Int32} (hin_1 : vp_in (x3 + 1) L) (hin_2 : vp_in (x3 + 2) L) (hin_3 : vp_in (x3 + 3) L) (hK : ∀ (σx σm : gS) (H : Heap) (locs : List Loc) (ls : Array Slot), Rel σx σm → lwI s D t adX adM σx σm H locs → lv_has ls 4 [(0, .ref b), (1, .ref (adX 0)), (2, .ref (adM 0)), (3, .int x3)] → W p l e room_1 s m #[Value.ref b] below meth c H locs 82 38218 (lw_Z below #[Value.ref b] s) (F0 m 1744 ls [])) (σx σm : gS) (H : Heap) (locs : List Loc) (ls : Array Slot) (hRel : Rel σx σm) (hI : lwI s D t adX adM σx σm H locs) (hl : lv_has ls 4 [(0, .ref b), (1, .ref (adX 0)), (2, .ref (adM 0)), (3, .int x3)]) : W p l e room_1 s m #[Value.ref b] below meth c H locs 82 38218 (lw_Z below #[Value.ref b] s) (F0 m 1176 ls []) := by
  obtain ⟨hx, hb, hml, hown, hts⟩ := id C
  have hbA : ¬ (fun q : Nat => s.heap.size ≤ q) b := Nat.not_le.mpr hbl
  obtain ⟨r, hx_, hm_, hRel2⟩ := hE σx σm (xs (x3 + 1).toNatClampNeg) (xs (x3 + 2).toNatClampNeg) (xs (x3 + 3).toNatClampNeg) hRel
  refine lv_aload_n hx hb dL_law_1176 rfl (lv_at hl 1 rfl) ?_
  refine lv_aload_n hx hb dL_law_1177 rfl (lv_at hl 0 rfl) ?_
  refine lv_iload_n hx hb dL_law_1178 rfl (lv_at hl 3 rfl) ?_
  refine lv_iconst hx hb dL_law_1179 ci_1 ?_
  refine lv_iadd hx hb dL_law_1180 ?_
  refine va_sld hx hb hX hbl hbA hI.2.2 hin_1 dL_law_1181 ?_
  refine lv_aload_n hx hb dL_law_1182 rfl (lv_at hl 0 rfl) ?_
  refine lv_iload_n hx hb dL_law_1183 rfl (lv_at hl 3 rfl) ?_
  refine lv_iconst hx hb dL_law_1184 ci_2 ?_
  refine lv_iadd hx hb dL_law_1185 ?_
  refine va_sld hx hb hX hbl hbA hI.2.2 hin_2 dL_law_1186 ?_
  refine lv_aload_n hx hb dL_law_1187 rfl (lv_at hl 0 rfl) ?_
  refine lv_iload_n hx hb dL_law_1188 rfl (lv_at hl 3 rfl) ?_
  refine lv_iconst hx hb dL_law_1189 ci_3 ?_
  refine lv_iadd hx hb dL_law_1190 ?_
  refine va_sld hx hb hX hbl hbA hI.2.2 hin_3 dL_law_1191 ?_
  refine lx_i C hF hI hl.1 (rest := []) shX_0 rfl yv_X9_drawn k_879 (c_X9_drawn l D t adX z hF.1 σx (xs (x3 + 1).toNatClampNeg) (xs (x3 + 2).toNatClampNeg) (xs (x3 + 3).toNatClampNeg) _ hx_) (As := [.int (xs (x3 + 1).toNatClampNeg), .int (xs (x3 + 2).toNatClampNeg), .int (xs (x3 + 3).toNatClampNeg)]) rfl rfl ⟨Nat.le_of_ble_eq_true rfl, Nat.le_of_ble_eq_true rfl⟩ ⟨Nat.le_of_ble_eq_true rfl, Nat.le_of_ble_eq_true rfl⟩ (Nat.le_of_ble_eq_true rfl) dL_law_1192 (fun H locs hI => ?_)
  refine lv_aload_n hx hb dL_law_1195 rfl (lv_at hl 2 rfl) ?_
  refine lv_aload_n hx hb dL_law_1196 rfl (lv_at hl 0 rfl) ?_
  refine lv_iload_n hx hb dL_law_1197 rfl (lv_at hl 3 rfl) ?_
  refine lv_iconst hx hb dL_law_1198 ci_1 ?_
  refine lv_iadd hx hb dL_law_1199 ?_
  refine va_sld hx hb hX hbl hbA hI.2.2 hin_1 dL_law_1200 ?_
  refine lv_aload_n hx hb dL_law_1201 rfl (lv_at hl 0 rfl) ?_
  refine lv_iload_n hx hb dL_law_1202 rfl (lv_at hl 3 rfl) ?_
  refine lv_iconst hx hb dL_law_1203 ci_2 ?_
  refine lv_iadd hx hb dL_law_1204 ?_
  refine va_sld hx hb hX hbl hbA hI.2.2 hin_2 dL_law_1205 ?_
  refine lv_aload_n hx hb dL_law_1206 rfl (lv_at hl 0 rfl) ?_
  refine lv_iload_n hx hb dL_law_1207 rfl (lv_at hl 3 rfl) ?_
  refine lv_iconst hx hb dL_law_1208 ci_3 ?_
  refine lv_iadd hx hb dL_law_1209 ?_
  refine va_sld hx hb hX hbl hbA hI.2.2 hin_3 dL_law_1210 ?_
  refine lm_i C hF hI hl.1 (rest := [.int r]) shM_0 rfl yv_X10_drawn k_1555 (c_X10_drawn l D t adM z hF.2.1 σm (xs (x3 + 1).toNatClampNeg) (xs (x3 + 2).toNatClampNeg) (xs (x3 + 3).toNatClampNeg) _ hm_) (As := [.int (xs (x3 + 1).toNatClampNeg), .int (xs (x3 + 2).toNatClampNeg), .int (xs (x3 + 3).toNatClampNeg)]) rfl rfl ⟨Nat.le_of_ble_eq_true rfl, Nat.le_of_ble_eq_true rfl⟩ ⟨Nat.le_of_ble_eq_true rfl, Nat.le_of_ble_eq_true rfl⟩ (Nat.le_of_ble_eq_true rfl) dL_law_1211 (fun H locs hI => ?_)
  refine lv_icmp_eq (tgt := 1744) hx hb dL_law_1214 (by decide) (fun _ => ?_) (fun c0 => absurd rfl c0)
  exact hK _ _ _ _ _ hRel2 hI hl
set_option maxRecDepth 100000 in
set_option maxHeartbeats 4000000 in
theorem lc_27 {p : Program} {l : Launch} {e : Env} {s : State} {m : MethodId} {below : List Frame} {meth : Method} {c : Code} {D : va_G} {t : gT} {adX adM z : Nat → Nat} {b L : Nat} {xs : Nat → Int32} (C : lwC p s m #[Value.ref b] c 4) (hX : va_X b L xs s s.heap) (hbl : b < s.heap.size) (hF : lwF s D t adX adM z) {Rel : gS → gS → Prop} (hE : EQ_walk Rel) {x3 : Int32} (hin_1 : vp_in (x3 + 1) L) (hK : ∀ (σx σm : gS) (H : Heap) (locs : List Loc) (ls : Array Slot), Rel σx σm → lwI s D t adX adM σx σm H locs → lv_has ls 4 [(0, .ref b), (1, .ref (adX 0)), (2, .ref (adM 0)), (3, .int x3)] → W p l e room_1 s m #[Value.ref b] below meth c H locs 82 38218 (lw_Z below #[Value.ref b] s) (F0 m 1744 ls [])) (σx σm : gS) (H : Heap) (locs : List Loc) (ls : Array Slot) (hRel : Rel σx σm) (hI : lwI s D t adX adM σx σm H locs) (hl : lv_has ls 4 [(0, .ref b), (1, .ref (adX 0)), (2, .ref (adM 0)), (3, .int x3)]) : W p l e room_1 s m #[Value.ref b] below meth c H locs 82 38218 (lw_Z below #[Value.ref b] s) (F0 m 1219 ls []) := by
  obtain ⟨hx, hb, hml, hown, hts⟩ := id C
  have hbA : ¬ (fun q : Nat => s.heap.size ≤ q) b := Nat.not_le.mpr hbl
  obtain ⟨r, σ1, σ2, hx_, hm_, hRel2⟩ := hE σx σm (xs (x3 + 1).toNatClampNeg) hRel
  refine lv_aload_n hx hb dL_law_1219 rfl (lv_at hl 1 rfl) ?_
  refine lv_aload_n hx hb dL_law_1220 rfl (lv_at hl 0 rfl) ?_
  refine lv_iload_n hx hb dL_law_1221 rfl (lv_at hl 3 rfl) ?_
  refine lv_iconst hx hb dL_law_1222 ci_1 ?_
  refine lv_iadd hx hb dL_law_1223 ?_
  refine va_sld hx hb hX hbl hbA hI.2.2 hin_1 dL_law_1224 ?_
  refine lx_i C hF hI hl.1 (rest := []) shX_0 rfl yv_X9_walk k_890 (c_X9_walk l D t adX z hF.1 σx (xs (x3 + 1).toNatClampNeg) _ hx_) (As := [.int (xs (x3 + 1).toNatClampNeg)]) rfl rfl ⟨Nat.le_of_ble_eq_true rfl, Nat.le_of_ble_eq_true rfl⟩ ⟨Nat.le_of_ble_eq_true rfl, Nat.le_of_ble_eq_true rfl⟩ (Nat.le_of_ble_eq_true rfl) dL_law_1225 (fun H locs hI => ?_)
  refine lv_aload_n hx hb dL_law_1228 rfl (lv_at hl 2 rfl) ?_
  refine lv_aload_n hx hb dL_law_1229 rfl (lv_at hl 0 rfl) ?_
  refine lv_iload_n hx hb dL_law_1230 rfl (lv_at hl 3 rfl) ?_
  refine lv_iconst hx hb dL_law_1231 ci_1 ?_
  refine lv_iadd hx hb dL_law_1232 ?_
  refine va_sld hx hb hX hbl hbA hI.2.2 hin_1 dL_law_1233 ?_
  refine lm_i C hF hI hl.1 (rest := [.int r]) shM_0 rfl yv_X10_walk k_1560 (c_X10_walk l D t adM z hF.2.1 σm (xs (x3 + 1).toNatClampNeg) _ hm_) (As := [.int (xs (x3 + 1).toNatClampNeg)]) rfl rfl ⟨Nat.le_of_ble_eq_true rfl, Nat.le_of_ble_eq_true rfl⟩ ⟨Nat.le_of_ble_eq_true rfl, Nat.le_of_ble_eq_true rfl⟩ (Nat.le_of_ble_eq_true rfl) dL_law_1234 (fun H locs hI => ?_)
  refine lv_icmp_eq (tgt := 1744) hx hb dL_law_1237 (by decide) (fun _ => ?_) (fun c0 => absurd rfl c0)
  exact hK _ _ _ _ _ hRel2 hI hl
set_option maxRecDepth 100000 in
set_option maxHeartbeats 4000000 in
theorem lc_28 {p : Program} {l : Launch} {e : Env} {s : State} {m : MethodId} {below : List Frame} {meth : Method} {c : Code} {D : va_G} {t : gT} {adX adM z : Nat → Nat} {b L : Nat} {xs : Nat → Int32} (C : lwC p s m #[Value.ref b] c 4) (hX : va_X b L xs s s.heap) (hbl : b < s.heap.size) (hF : lwF s D t adX adM z) {Rel : gS → gS → Prop} (hE : EQ_waits Rel) {x3 : Int32} (hin_1 : vp_in (x3 + 1) L) (hK : ∀ (σx σm : gS) (H : Heap) (locs : List Loc) (ls : Array Slot), Rel σx σm → lwI s D t adX adM σx σm H locs → lv_has ls 4 [(0, .ref b), (1, .ref (adX 0)), (2, .ref (adM 0)), (3, .int x3)] → W p l e room_1 s m #[Value.ref b] below meth c H locs 82 38218 (lw_Z below #[Value.ref b] s) (F0 m 1744 ls [])) (σx σm : gS) (H : Heap) (locs : List Loc) (ls : Array Slot) (hRel : Rel σx σm) (hI : lwI s D t adX adM σx σm H locs) (hl : lv_has ls 4 [(0, .ref b), (1, .ref (adX 0)), (2, .ref (adM 0)), (3, .int x3)]) : W p l e room_1 s m #[Value.ref b] below meth c H locs 82 38218 (lw_Z below #[Value.ref b] s) (F0 m 1242 ls []) := by
  obtain ⟨hx, hb, hml, hown, hts⟩ := id C
  have hbA : ¬ (fun q : Nat => s.heap.size ≤ q) b := Nat.not_le.mpr hbl
  obtain ⟨r, σ1, σ2, hx_, hm_, hRel2⟩ := hE σx σm (xs (x3 + 1).toNatClampNeg) hRel
  refine lv_aload_n hx hb dL_law_1242 rfl (lv_at hl 1 rfl) ?_
  refine lv_aload_n hx hb dL_law_1243 rfl (lv_at hl 0 rfl) ?_
  refine lv_iload_n hx hb dL_law_1244 rfl (lv_at hl 3 rfl) ?_
  refine lv_iconst hx hb dL_law_1245 ci_1 ?_
  refine lv_iadd hx hb dL_law_1246 ?_
  refine va_sld hx hb hX hbl hbA hI.2.2 hin_1 dL_law_1247 ?_
  refine lx_i C hF hI hl.1 (rest := []) shX_0 rfl yv_X9_waits k_898 (c_X9_waits l D t adX z hF.1 σx (xs (x3 + 1).toNatClampNeg) _ hx_) (As := [.int (xs (x3 + 1).toNatClampNeg)]) rfl rfl ⟨Nat.le_of_ble_eq_true rfl, Nat.le_of_ble_eq_true rfl⟩ ⟨Nat.le_of_ble_eq_true rfl, Nat.le_of_ble_eq_true rfl⟩ (Nat.le_of_ble_eq_true rfl) dL_law_1248 (fun H locs hI => ?_)
  refine lv_aload_n hx hb dL_law_1251 rfl (lv_at hl 2 rfl) ?_
  refine lv_aload_n hx hb dL_law_1252 rfl (lv_at hl 0 rfl) ?_
  refine lv_iload_n hx hb dL_law_1253 rfl (lv_at hl 3 rfl) ?_
  refine lv_iconst hx hb dL_law_1254 ci_1 ?_
  refine lv_iadd hx hb dL_law_1255 ?_
  refine va_sld hx hb hX hbl hbA hI.2.2 hin_1 dL_law_1256 ?_
  refine lm_i C hF hI hl.1 (rest := [.int r]) shM_0 rfl yv_X10_waits k_1564 (c_X10_waits l D t adM z hF.2.1 σm (xs (x3 + 1).toNatClampNeg) _ hm_) (As := [.int (xs (x3 + 1).toNatClampNeg)]) rfl rfl ⟨Nat.le_of_ble_eq_true rfl, Nat.le_of_ble_eq_true rfl⟩ ⟨Nat.le_of_ble_eq_true rfl, Nat.le_of_ble_eq_true rfl⟩ (Nat.le_of_ble_eq_true rfl) dL_law_1257 (fun H locs hI => ?_)
  refine lv_icmp_eq (tgt := 1744) hx hb dL_law_1260 (by decide) (fun _ => ?_) (fun c0 => absurd rfl c0)
  exact hK _ _ _ _ _ hRel2 hI hl
set_option maxRecDepth 100000 in
set_option maxHeartbeats 4000000 in
theorem lc_29 {p : Program} {l : Launch} {e : Env} {s : State} {m : MethodId} {below : List Frame} {meth : Method} {c : Code} {D : va_G} {t : gT} {adX adM z : Nat → Nat} {b L : Nat} {xs : Nat → Int32} (C : lwC p s m #[Value.ref b] c 4) (hX : va_X b L xs s s.heap) (hbl : b < s.heap.size) (hF : lwF s D t adX adM z) {Rel : gS → gS → Prop} (hE : EQ_home Rel) {x3 : Int32} (hK : ∀ (σx σm : gS) (H : Heap) (locs : List Loc) (ls : Array Slot), Rel σx σm → lwI s D t adX adM σx σm H locs → lv_has ls 4 [(0, .ref b), (1, .ref (adX 0)), (2, .ref (adM 0)), (3, .int x3)] → W p l e room_1 s m #[Value.ref b] below meth c H locs 82 38218 (lw_Z below #[Value.ref b] s) (F0 m 1744 ls [])) (σx σm : gS) (H : Heap) (locs : List Loc) (ls : Array Slot) (hRel : Rel σx σm) (hI : lwI s D t adX adM σx σm H locs) (hl : lv_has ls 4 [(0, .ref b), (1, .ref (adX 0)), (2, .ref (adM 0)), (3, .int x3)]) : W p l e room_1 s m #[Value.ref b] below meth c H locs 82 38218 (lw_Z below #[Value.ref b] s) (F0 m 1265 ls []) := by
  obtain ⟨hx, hb, hml, hown, hts⟩ := id C
  have hbA : ¬ (fun q : Nat => s.heap.size ≤ q) b := Nat.not_le.mpr hbl
  obtain ⟨r, σ1, σ2, hx_, hm_, hRel2⟩ := hE σx σm hRel
  refine lv_aload_n hx hb dL_law_1265 rfl (lv_at hl 1 rfl) ?_
  refine lx_i C hF hI hl.1 (rest := []) shX_0 rfl yv_X9_home k_906 (c_X9_home l D t adX z hF.1 σx  _ hx_) (As := []) rfl rfl ⟨Nat.le_of_ble_eq_true rfl, Nat.le_of_ble_eq_true rfl⟩ ⟨Nat.le_of_ble_eq_true rfl, Nat.le_of_ble_eq_true rfl⟩ (Nat.le_of_ble_eq_true rfl) dL_law_1266 (fun H locs hI => ?_)
  refine lv_aload_n hx hb dL_law_1269 rfl (lv_at hl 2 rfl) ?_
  refine lm_i C hF hI hl.1 (rest := [.int r]) shM_0 rfl yv_X10_home k_1568 (c_X10_home l D t adM z hF.2.1 σm  _ hm_) (As := []) rfl rfl ⟨Nat.le_of_ble_eq_true rfl, Nat.le_of_ble_eq_true rfl⟩ ⟨Nat.le_of_ble_eq_true rfl, Nat.le_of_ble_eq_true rfl⟩ (Nat.le_of_ble_eq_true rfl) dL_law_1270 (fun H locs hI => ?_)
  refine lv_icmp_eq (tgt := 1744) hx hb dL_law_1273 (by decide) (fun _ => ?_) (fun c0 => absurd rfl c0)
  exact hK _ _ _ _ _ hRel2 hI hl
set_option maxRecDepth 100000 in
set_option maxHeartbeats 4000000 in
theorem lc_30 {p : Program} {l : Launch} {e : Env} {s : State} {m : MethodId} {below : List Frame} {meth : Method} {c : Code} {D : va_G} {t : gT} {adX adM z : Nat → Nat} {b L : Nat} {xs : Nat → Int32} (C : lwC p s m #[Value.ref b] c 4) (hX : va_X b L xs s s.heap) (hbl : b < s.heap.size) (hF : lwF s D t adX adM z) {Rel : gS → gS → Prop} (hE : EQ_led Rel) {x3 : Int32} (hin_1 : vp_in (x3 + 1) L) (hK : ∀ (σx σm : gS) (H : Heap) (locs : List Loc) (ls : Array Slot), Rel σx σm → lwI s D t adX adM σx σm H locs → lv_has ls 4 [(0, .ref b), (1, .ref (adX 0)), (2, .ref (adM 0)), (3, .int x3)] → W p l e room_1 s m #[Value.ref b] below meth c H locs 82 38218 (lw_Z below #[Value.ref b] s) (F0 m 1744 ls [])) (σx σm : gS) (H : Heap) (locs : List Loc) (ls : Array Slot) (hRel : Rel σx σm) (hI : lwI s D t adX adM σx σm H locs) (hl : lv_has ls 4 [(0, .ref b), (1, .ref (adX 0)), (2, .ref (adM 0)), (3, .int x3)]) : W p l e room_1 s m #[Value.ref b] below meth c H locs 82 38218 (lw_Z below #[Value.ref b] s) (F0 m 1278 ls []) := by
  obtain ⟨hx, hb, hml, hown, hts⟩ := id C
  have hbA : ¬ (fun q : Nat => s.heap.size ≤ q) b := Nat.not_le.mpr hbl
  obtain ⟨r, hx_, hm_, hRel2⟩ := hE σx σm (xs (x3 + 1).toNatClampNeg) hRel
  refine lv_aload_n hx hb dL_law_1278 rfl (lv_at hl 1 rfl) ?_
  refine lv_aload_n hx hb dL_law_1279 rfl (lv_at hl 0 rfl) ?_
  refine lv_iload_n hx hb dL_law_1280 rfl (lv_at hl 3 rfl) ?_
  refine lv_iconst hx hb dL_law_1281 ci_1 ?_
  refine lv_iadd hx hb dL_law_1282 ?_
  refine va_sld hx hb hX hbl hbA hI.2.2 hin_1 dL_law_1283 ?_
  refine lx_i C hF hI hl.1 (rest := []) shX_0 rfl yv_X9_led k_914 (c_X9_led l D t adX z hF.1 σx (xs (x3 + 1).toNatClampNeg) _ hx_) (As := [.int (xs (x3 + 1).toNatClampNeg)]) rfl rfl ⟨Nat.le_of_ble_eq_true rfl, Nat.le_of_ble_eq_true rfl⟩ ⟨Nat.le_of_ble_eq_true rfl, Nat.le_of_ble_eq_true rfl⟩ (Nat.le_of_ble_eq_true rfl) dL_law_1284 (fun H locs hI => ?_)
  refine lv_aload_n hx hb dL_law_1287 rfl (lv_at hl 2 rfl) ?_
  refine lv_aload_n hx hb dL_law_1288 rfl (lv_at hl 0 rfl) ?_
  refine lv_iload_n hx hb dL_law_1289 rfl (lv_at hl 3 rfl) ?_
  refine lv_iconst hx hb dL_law_1290 ci_1 ?_
  refine lv_iadd hx hb dL_law_1291 ?_
  refine va_sld hx hb hX hbl hbA hI.2.2 hin_1 dL_law_1292 ?_
  refine lm_i C hF hI hl.1 (rest := [.int r]) shM_0 rfl yv_X10_led k_1572 (c_X10_led l D t adM z hF.2.1 σm (xs (x3 + 1).toNatClampNeg) _ hm_) (As := [.int (xs (x3 + 1).toNatClampNeg)]) rfl rfl ⟨Nat.le_of_ble_eq_true rfl, Nat.le_of_ble_eq_true rfl⟩ ⟨Nat.le_of_ble_eq_true rfl, Nat.le_of_ble_eq_true rfl⟩ (Nat.le_of_ble_eq_true rfl) dL_law_1293 (fun H locs hI => ?_)
  refine lv_icmp_eq (tgt := 1744) hx hb dL_law_1296 (by decide) (fun _ => ?_) (fun c0 => absurd rfl c0)
  exact hK _ _ _ _ _ hRel2 hI hl
set_option maxRecDepth 100000 in
set_option maxHeartbeats 4000000 in
theorem lc_31 {p : Program} {l : Launch} {e : Env} {s : State} {m : MethodId} {below : List Frame} {meth : Method} {c : Code} {D : va_G} {t : gT} {adX adM z : Nat → Nat} {b L : Nat} {xs : Nat → Int32} (C : lwC p s m #[Value.ref b] c 4) (hX : va_X b L xs s s.heap) (hbl : b < s.heap.size) (hF : lwF s D t adX adM z) {Rel : gS → gS → Prop} (hE : EQ_image Rel) {x3 : Int32} (hK : ∀ (σx σm : gS) (H : Heap) (locs : List Loc) (ls : Array Slot), Rel σx σm → lwI s D t adX adM σx σm H locs → lv_has ls 4 [(0, .ref b), (1, .ref (adX 0)), (2, .ref (adM 0)), (3, .int x3)] → W p l e room_1 s m #[Value.ref b] below meth c H locs 82 38218 (lw_Z below #[Value.ref b] s) (F0 m 1744 ls [])) (σx σm : gS) (H : Heap) (locs : List Loc) (ls : Array Slot) (hRel : Rel σx σm) (hI : lwI s D t adX adM σx σm H locs) (hl : lv_has ls 4 [(0, .ref b), (1, .ref (adX 0)), (2, .ref (adM 0)), (3, .int x3)]) : W p l e room_1 s m #[Value.ref b] below meth c H locs 82 38218 (lw_Z below #[Value.ref b] s) (F0 m 1301 ls []) := by
  obtain ⟨hx, hb, hml, hown, hts⟩ := id C
  have hbA : ¬ (fun q : Nat => s.heap.size ≤ q) b := Nat.not_le.mpr hbl
  obtain ⟨r, σ1, σ2, hx_, hm_, hRel2⟩ := hE σx σm hRel
  refine lv_aload_n hx hb dL_law_1301 rfl (lv_at hl 1 rfl) ?_
  refine lx_i C hF hI hl.1 (rest := []) shX_0 rfl yv_X9_image k_918 (c_X9_image l D t adX z hF.1 σx  _ hx_) (As := []) rfl rfl ⟨Nat.le_of_ble_eq_true rfl, Nat.le_of_ble_eq_true rfl⟩ ⟨Nat.le_of_ble_eq_true rfl, Nat.le_of_ble_eq_true rfl⟩ (Nat.le_of_ble_eq_true rfl) dL_law_1302 (fun H locs hI => ?_)
  refine lv_aload_n hx hb dL_law_1305 rfl (lv_at hl 2 rfl) ?_
  refine lm_i C hF hI hl.1 (rest := [.int r]) shM_0 rfl yv_X10_image k_1576 (c_X10_image l D t adM z hF.2.1 σm  _ hm_) (As := []) rfl rfl ⟨Nat.le_of_ble_eq_true rfl, Nat.le_of_ble_eq_true rfl⟩ ⟨Nat.le_of_ble_eq_true rfl, Nat.le_of_ble_eq_true rfl⟩ (Nat.le_of_ble_eq_true rfl) dL_law_1306 (fun H locs hI => ?_)
  refine lv_icmp_eq (tgt := 1744) hx hb dL_law_1309 (by decide) (fun _ => ?_) (fun c0 => absurd rfl c0)
  exact hK _ _ _ _ _ hRel2 hI hl
set_option maxRecDepth 100000 in
set_option maxHeartbeats 4000000 in
theorem lc_32 {p : Program} {l : Launch} {e : Env} {s : State} {m : MethodId} {below : List Frame} {meth : Method} {c : Code} {D : va_G} {t : gT} {adX adM z : Nat → Nat} {b L : Nat} {xs : Nat → Int32} (C : lwC p s m #[Value.ref b] c 4) (hX : va_X b L xs s s.heap) (hbl : b < s.heap.size) (hF : lwF s D t adX adM z) {Rel : gS → gS → Prop} (hE : EQ_back Rel) {x3 : Int32} (hK : ∀ (σx σm : gS) (H : Heap) (locs : List Loc) (ls : Array Slot), Rel σx σm → lwI s D t adX adM σx σm H locs → lv_has ls 4 [(0, .ref b), (1, .ref (adX 0)), (2, .ref (adM 0)), (3, .int x3)] → W p l e room_1 s m #[Value.ref b] below meth c H locs 82 38218 (lw_Z below #[Value.ref b] s) (F0 m 1744 ls [])) (σx σm : gS) (H : Heap) (locs : List Loc) (ls : Array Slot) (hRel : Rel σx σm) (hI : lwI s D t adX adM σx σm H locs) (hl : lv_has ls 4 [(0, .ref b), (1, .ref (adX 0)), (2, .ref (adM 0)), (3, .int x3)]) : W p l e room_1 s m #[Value.ref b] below meth c H locs 82 38218 (lw_Z below #[Value.ref b] s) (F0 m 1314 ls []) := by
  obtain ⟨hx, hb, hml, hown, hts⟩ := id C
  have hbA : ¬ (fun q : Nat => s.heap.size ≤ q) b := Nat.not_le.mpr hbl
  obtain ⟨r, σ1, σ2, hx_, hm_, hRel2⟩ := hE σx σm hRel
  refine lv_aload_n hx hb dL_law_1314 rfl (lv_at hl 1 rfl) ?_
  refine lx_i C hF hI hl.1 (rest := []) shX_0 rfl yv_X9_back k_927 (c_X9_back l D t adX z hF.1 σx  _ hx_) (As := []) rfl rfl ⟨Nat.le_of_ble_eq_true rfl, Nat.le_of_ble_eq_true rfl⟩ ⟨Nat.le_of_ble_eq_true rfl, Nat.le_of_ble_eq_true rfl⟩ (Nat.le_of_ble_eq_true rfl) dL_law_1315 (fun H locs hI => ?_)
  refine lv_aload_n hx hb dL_law_1318 rfl (lv_at hl 2 rfl) ?_
  refine lm_i C hF hI hl.1 (rest := [.int r]) shM_0 rfl yv_X10_back k_1580 (c_X10_back l D t adM z hF.2.1 σm  _ hm_) (As := []) rfl rfl ⟨Nat.le_of_ble_eq_true rfl, Nat.le_of_ble_eq_true rfl⟩ ⟨Nat.le_of_ble_eq_true rfl, Nat.le_of_ble_eq_true rfl⟩ (Nat.le_of_ble_eq_true rfl) dL_law_1319 (fun H locs hI => ?_)
  refine lv_icmp_eq (tgt := 1744) hx hb dL_law_1322 (by decide) (fun _ => ?_) (fun c0 => absurd rfl c0)
  exact hK _ _ _ _ _ hRel2 hI hl
set_option maxRecDepth 100000 in
set_option maxHeartbeats 4000000 in
theorem lc_33 {p : Program} {l : Launch} {e : Env} {s : State} {m : MethodId} {below : List Frame} {meth : Method} {c : Code} {D : va_G} {t : gT} {adX adM z : Nat → Nat} {b L : Nat} {xs : Nat → Int32} (C : lwC p s m #[Value.ref b] c 4) (hX : va_X b L xs s s.heap) (hbl : b < s.heap.size) (hF : lwF s D t adX adM z) {Rel : gS → gS → Prop} (hE : EQ_undo Rel) {x3 : Int32} (hK : ∀ (σx σm : gS) (H : Heap) (locs : List Loc) (ls : Array Slot), Rel σx σm → lwI s D t adX adM σx σm H locs → lv_has ls 4 [(0, .ref b), (1, .ref (adX 0)), (2, .ref (adM 0)), (3, .int x3)] → W p l e room_1 s m #[Value.ref b] below meth c H locs 82 38218 (lw_Z below #[Value.ref b] s) (F0 m 1744 ls [])) (σx σm : gS) (H : Heap) (locs : List Loc) (ls : Array Slot) (hRel : Rel σx σm) (hI : lwI s D t adX adM σx σm H locs) (hl : lv_has ls 4 [(0, .ref b), (1, .ref (adX 0)), (2, .ref (adM 0)), (3, .int x3)]) : W p l e room_1 s m #[Value.ref b] below meth c H locs 82 38218 (lw_Z below #[Value.ref b] s) (F0 m 1327 ls []) := by
  obtain ⟨hx, hb, hml, hown, hts⟩ := id C
  have hbA : ¬ (fun q : Nat => s.heap.size ≤ q) b := Nat.not_le.mpr hbl
  obtain ⟨r, σ1, σ2, hx_, hm_, hRel2⟩ := hE σx σm hRel
  refine lv_aload_n hx hb dL_law_1327 rfl (lv_at hl 1 rfl) ?_
  refine lx_i C hF hI hl.1 (rest := []) shX_0 rfl yv_X9_undo k_931 (c_X9_undo l D t adX z hF.1 σx  _ hx_) (As := []) rfl rfl ⟨Nat.le_of_ble_eq_true rfl, Nat.le_of_ble_eq_true rfl⟩ ⟨Nat.le_of_ble_eq_true rfl, Nat.le_of_ble_eq_true rfl⟩ (Nat.le_of_ble_eq_true rfl) dL_law_1328 (fun H locs hI => ?_)
  refine lv_aload_n hx hb dL_law_1331 rfl (lv_at hl 2 rfl) ?_
  refine lm_i C hF hI hl.1 (rest := [.int r]) shM_0 rfl yv_X10_undo k_1271 (c_X10_undo l D t adM z hF.2.1 σm  _ hm_) (As := []) rfl rfl ⟨Nat.le_of_ble_eq_true rfl, Nat.le_of_ble_eq_true rfl⟩ ⟨Nat.le_of_ble_eq_true rfl, Nat.le_of_ble_eq_true rfl⟩ (Nat.le_of_ble_eq_true rfl) dL_law_1332 (fun H locs hI => ?_)
  refine lv_icmp_eq (tgt := 1744) hx hb dL_law_1335 (by decide) (fun _ => ?_) (fun c0 => absurd rfl c0)
  exact hK _ _ _ _ _ hRel2 hI hl
set_option maxRecDepth 100000 in
set_option maxHeartbeats 4000000 in
theorem lc_34 {p : Program} {l : Launch} {e : Env} {s : State} {m : MethodId} {below : List Frame} {meth : Method} {c : Code} {D : va_G} {t : gT} {adX adM z : Nat → Nat} {b L : Nat} {xs : Nat → Int32} (C : lwC p s m #[Value.ref b] c 4) (hX : va_X b L xs s s.heap) (hbl : b < s.heap.size) (hF : lwF s D t adX adM z) {Rel : gS → gS → Prop} (hE : EQ_redo Rel) {x3 : Int32} (hK : ∀ (σx σm : gS) (H : Heap) (locs : List Loc) (ls : Array Slot), Rel σx σm → lwI s D t adX adM σx σm H locs → lv_has ls 4 [(0, .ref b), (1, .ref (adX 0)), (2, .ref (adM 0)), (3, .int x3)] → W p l e room_1 s m #[Value.ref b] below meth c H locs 82 38218 (lw_Z below #[Value.ref b] s) (F0 m 1744 ls [])) (σx σm : gS) (H : Heap) (locs : List Loc) (ls : Array Slot) (hRel : Rel σx σm) (hI : lwI s D t adX adM σx σm H locs) (hl : lv_has ls 4 [(0, .ref b), (1, .ref (adX 0)), (2, .ref (adM 0)), (3, .int x3)]) : W p l e room_1 s m #[Value.ref b] below meth c H locs 82 38218 (lw_Z below #[Value.ref b] s) (F0 m 1340 ls []) := by
  obtain ⟨hx, hb, hml, hown, hts⟩ := id C
  have hbA : ¬ (fun q : Nat => s.heap.size ≤ q) b := Nat.not_le.mpr hbl
  obtain ⟨r, σ1, σ2, hx_, hm_, hRel2⟩ := hE σx σm hRel
  refine lv_aload_n hx hb dL_law_1340 rfl (lv_at hl 1 rfl) ?_
  refine lx_i C hF hI hl.1 (rest := []) shX_0 rfl yv_X9_redo k_942 (c_X9_redo l D t adX z hF.1 σx  _ hx_) (As := []) rfl rfl ⟨Nat.le_of_ble_eq_true rfl, Nat.le_of_ble_eq_true rfl⟩ ⟨Nat.le_of_ble_eq_true rfl, Nat.le_of_ble_eq_true rfl⟩ (Nat.le_of_ble_eq_true rfl) dL_law_1341 (fun H locs hI => ?_)
  refine lv_aload_n hx hb dL_law_1344 rfl (lv_at hl 2 rfl) ?_
  refine lm_i C hF hI hl.1 (rest := [.int r]) shM_0 rfl yv_X10_redo k_1275 (c_X10_redo l D t adM z hF.2.1 σm  _ hm_) (As := []) rfl rfl ⟨Nat.le_of_ble_eq_true rfl, Nat.le_of_ble_eq_true rfl⟩ ⟨Nat.le_of_ble_eq_true rfl, Nat.le_of_ble_eq_true rfl⟩ (Nat.le_of_ble_eq_true rfl) dL_law_1345 (fun H locs hI => ?_)
  refine lv_icmp_eq (tgt := 1744) hx hb dL_law_1348 (by decide) (fun _ => ?_) (fun c0 => absurd rfl c0)
  exact hK _ _ _ _ _ hRel2 hI hl
set_option maxRecDepth 100000 in
set_option maxHeartbeats 4000000 in
theorem lc_35 {p : Program} {l : Launch} {e : Env} {s : State} {m : MethodId} {below : List Frame} {meth : Method} {c : Code} {D : va_G} {t : gT} {adX adM z : Nat → Nat} {b L : Nat} {xs : Nat → Int32} (C : lwC p s m #[Value.ref b] c 4) (hX : va_X b L xs s s.heap) (hbl : b < s.heap.size) (hF : lwF s D t adX adM z) {Rel : gS → gS → Prop} (hE : EQ_body Rel) {x3 : Int32} (hin_1 : vp_in (x3 + 1) L) (hK : ∀ (σx σm : gS) (H : Heap) (locs : List Loc) (ls : Array Slot), Rel σx σm → lwI s D t adX adM σx σm H locs → lv_has ls 4 [(0, .ref b), (1, .ref (adX 0)), (2, .ref (adM 0)), (3, .int x3)] → W p l e room_1 s m #[Value.ref b] below meth c H locs 82 38218 (lw_Z below #[Value.ref b] s) (F0 m 1744 ls [])) (σx σm : gS) (H : Heap) (locs : List Loc) (ls : Array Slot) (hRel : Rel σx σm) (hI : lwI s D t adX adM σx σm H locs) (hl : lv_has ls 4 [(0, .ref b), (1, .ref (adX 0)), (2, .ref (adM 0)), (3, .int x3)]) : W p l e room_1 s m #[Value.ref b] below meth c H locs 82 38218 (lw_Z below #[Value.ref b] s) (F0 m 1353 ls []) := by
  obtain ⟨hx, hb, hml, hown, hts⟩ := id C
  have hbA : ¬ (fun q : Nat => s.heap.size ≤ q) b := Nat.not_le.mpr hbl
  obtain ⟨r, σ1, σ2, hx_, hm_, hRel2⟩ := hE σx σm (xs (x3 + 1).toNatClampNeg) hRel
  refine lv_aload_n hx hb dL_law_1353 rfl (lv_at hl 1 rfl) ?_
  refine lv_aload_n hx hb dL_law_1354 rfl (lv_at hl 0 rfl) ?_
  refine lv_iload_n hx hb dL_law_1355 rfl (lv_at hl 3 rfl) ?_
  refine lv_iconst hx hb dL_law_1356 ci_1 ?_
  refine lv_iadd hx hb dL_law_1357 ?_
  refine va_sld hx hb hX hbl hbA hI.2.2 hin_1 dL_law_1358 ?_
  refine lx_i C hF hI hl.1 (rest := []) shX_0 rfl yv_X9_body k_950 (c_X9_body l D t adX z hF.1 σx (xs (x3 + 1).toNatClampNeg) _ hx_) (As := [.int (xs (x3 + 1).toNatClampNeg)]) rfl rfl ⟨Nat.le_of_ble_eq_true rfl, Nat.le_of_ble_eq_true rfl⟩ ⟨Nat.le_of_ble_eq_true rfl, Nat.le_of_ble_eq_true rfl⟩ (Nat.le_of_ble_eq_true rfl) dL_law_1359 (fun H locs hI => ?_)
  refine lv_aload_n hx hb dL_law_1362 rfl (lv_at hl 2 rfl) ?_
  refine lv_aload_n hx hb dL_law_1363 rfl (lv_at hl 0 rfl) ?_
  refine lv_iload_n hx hb dL_law_1364 rfl (lv_at hl 3 rfl) ?_
  refine lv_iconst hx hb dL_law_1365 ci_1 ?_
  refine lv_iadd hx hb dL_law_1366 ?_
  refine va_sld hx hb hX hbl hbA hI.2.2 hin_1 dL_law_1367 ?_
  refine lm_i C hF hI hl.1 (rest := [.int r]) shM_0 rfl yv_X10_body k_1584 (c_X10_body l D t adM z hF.2.1 σm (xs (x3 + 1).toNatClampNeg) _ hm_) (As := [.int (xs (x3 + 1).toNatClampNeg)]) rfl rfl ⟨Nat.le_of_ble_eq_true rfl, Nat.le_of_ble_eq_true rfl⟩ ⟨Nat.le_of_ble_eq_true rfl, Nat.le_of_ble_eq_true rfl⟩ (Nat.le_of_ble_eq_true rfl) dL_law_1368 (fun H locs hI => ?_)
  refine lv_icmp_eq (tgt := 1744) hx hb dL_law_1371 (by decide) (fun _ => ?_) (fun c0 => absurd rfl c0)
  exact hK _ _ _ _ _ hRel2 hI hl
set_option maxRecDepth 100000 in
set_option maxHeartbeats 4000000 in
theorem lc_36 {p : Program} {l : Launch} {e : Env} {s : State} {m : MethodId} {below : List Frame} {meth : Method} {c : Code} {D : va_G} {t : gT} {adX adM z : Nat → Nat} {b L : Nat} {xs : Nat → Int32} (C : lwC p s m #[Value.ref b] c 4) (hX : va_X b L xs s s.heap) (hbl : b < s.heap.size) (hF : lwF s D t adX adM z) {Rel : gS → gS → Prop} (hE : EQ_act Rel) {x3 : Int32} (hin_1 : vp_in (x3 + 1) L) (hin_2 : vp_in (x3 + 2) L) (hin_3 : vp_in (x3 + 3) L) (hK : ∀ (σx σm : gS) (H : Heap) (locs : List Loc) (ls : Array Slot), Rel σx σm → lwI s D t adX adM σx σm H locs → lv_has ls 4 [(0, .ref b), (1, .ref (adX 0)), (2, .ref (adM 0)), (3, .int x3)] → W p l e room_1 s m #[Value.ref b] below meth c H locs 82 38218 (lw_Z below #[Value.ref b] s) (F0 m 1744 ls [])) (σx σm : gS) (H : Heap) (locs : List Loc) (ls : Array Slot) (hRel : Rel σx σm) (hI : lwI s D t adX adM σx σm H locs) (hl : lv_has ls 4 [(0, .ref b), (1, .ref (adX 0)), (2, .ref (adM 0)), (3, .int x3)]) : W p l e room_1 s m #[Value.ref b] below meth c H locs 82 38218 (lw_Z below #[Value.ref b] s) (F0 m 1376 ls []) := by
  obtain ⟨hx, hb, hml, hown, hts⟩ := id C
  have hbA : ¬ (fun q : Nat => s.heap.size ≤ q) b := Nat.not_le.mpr hbl
  obtain ⟨r, σ1, σ2, hx_, hm_, hRel2⟩ := hE σx σm (xs (x3 + 1).toNatClampNeg) (xs (x3 + 2).toNatClampNeg) (xs (x3 + 3).toNatClampNeg) hRel
  refine lv_aload_n hx hb dL_law_1376 rfl (lv_at hl 1 rfl) ?_
  refine lv_aload_n hx hb dL_law_1377 rfl (lv_at hl 0 rfl) ?_
  refine lv_iload_n hx hb dL_law_1378 rfl (lv_at hl 3 rfl) ?_
  refine lv_iconst hx hb dL_law_1379 ci_1 ?_
  refine lv_iadd hx hb dL_law_1380 ?_
  refine va_sld hx hb hX hbl hbA hI.2.2 hin_1 dL_law_1381 ?_
  refine lv_aload_n hx hb dL_law_1382 rfl (lv_at hl 0 rfl) ?_
  refine lv_iload_n hx hb dL_law_1383 rfl (lv_at hl 3 rfl) ?_
  refine lv_iconst hx hb dL_law_1384 ci_2 ?_
  refine lv_iadd hx hb dL_law_1385 ?_
  refine va_sld hx hb hX hbl hbA hI.2.2 hin_2 dL_law_1386 ?_
  refine lv_aload_n hx hb dL_law_1387 rfl (lv_at hl 0 rfl) ?_
  refine lv_iload_n hx hb dL_law_1388 rfl (lv_at hl 3 rfl) ?_
  refine lv_iconst hx hb dL_law_1389 ci_3 ?_
  refine lv_iadd hx hb dL_law_1390 ?_
  refine va_sld hx hb hX hbl hbA hI.2.2 hin_3 dL_law_1391 ?_
  refine lx_i C hF hI hl.1 (rest := []) shX_0 rfl yv_X9_act k_961 (c_X9_act l D t adX z hF.1 σx (xs (x3 + 1).toNatClampNeg) (xs (x3 + 2).toNatClampNeg) (xs (x3 + 3).toNatClampNeg) _ hx_) (As := [.int (xs (x3 + 1).toNatClampNeg), .int (xs (x3 + 2).toNatClampNeg), .int (xs (x3 + 3).toNatClampNeg)]) rfl rfl ⟨Nat.le_of_ble_eq_true rfl, Nat.le_of_ble_eq_true rfl⟩ ⟨Nat.le_of_ble_eq_true rfl, Nat.le_of_ble_eq_true rfl⟩ (Nat.le_of_ble_eq_true rfl) dL_law_1392 (fun H locs hI => ?_)
  refine lv_aload_n hx hb dL_law_1395 rfl (lv_at hl 2 rfl) ?_
  refine lv_aload_n hx hb dL_law_1396 rfl (lv_at hl 0 rfl) ?_
  refine lv_iload_n hx hb dL_law_1397 rfl (lv_at hl 3 rfl) ?_
  refine lv_iconst hx hb dL_law_1398 ci_1 ?_
  refine lv_iadd hx hb dL_law_1399 ?_
  refine va_sld hx hb hX hbl hbA hI.2.2 hin_1 dL_law_1400 ?_
  refine lv_aload_n hx hb dL_law_1401 rfl (lv_at hl 0 rfl) ?_
  refine lv_iload_n hx hb dL_law_1402 rfl (lv_at hl 3 rfl) ?_
  refine lv_iconst hx hb dL_law_1403 ci_2 ?_
  refine lv_iadd hx hb dL_law_1404 ?_
  refine va_sld hx hb hX hbl hbA hI.2.2 hin_2 dL_law_1405 ?_
  refine lv_aload_n hx hb dL_law_1406 rfl (lv_at hl 0 rfl) ?_
  refine lv_iload_n hx hb dL_law_1407 rfl (lv_at hl 3 rfl) ?_
  refine lv_iconst hx hb dL_law_1408 ci_3 ?_
  refine lv_iadd hx hb dL_law_1409 ?_
  refine va_sld hx hb hX hbl hbA hI.2.2 hin_3 dL_law_1410 ?_
  refine lm_i C hF hI hl.1 (rest := [.int r]) shM_0 rfl yv_X10_act k_1588 (c_X10_act l D t adM z hF.2.1 σm (xs (x3 + 1).toNatClampNeg) (xs (x3 + 2).toNatClampNeg) (xs (x3 + 3).toNatClampNeg) _ hm_) (As := [.int (xs (x3 + 1).toNatClampNeg), .int (xs (x3 + 2).toNatClampNeg), .int (xs (x3 + 3).toNatClampNeg)]) rfl rfl ⟨Nat.le_of_ble_eq_true rfl, Nat.le_of_ble_eq_true rfl⟩ ⟨Nat.le_of_ble_eq_true rfl, Nat.le_of_ble_eq_true rfl⟩ (Nat.le_of_ble_eq_true rfl) dL_law_1411 (fun H locs hI => ?_)
  refine lv_icmp_eq (tgt := 1744) hx hb dL_law_1414 (by decide) (fun _ => ?_) (fun c0 => absurd rfl c0)
  exact hK _ _ _ _ _ hRel2 hI hl
set_option maxRecDepth 100000 in
set_option maxHeartbeats 4000000 in
theorem lc_37 {p : Program} {l : Launch} {e : Env} {s : State} {m : MethodId} {below : List Frame} {meth : Method} {c : Code} {D : va_G} {t : gT} {adX adM z : Nat → Nat} {b L : Nat} {xs : Nat → Int32} (C : lwC p s m #[Value.ref b] c 4) (hX : va_X b L xs s s.heap) (hbl : b < s.heap.size) (hF : lwF s D t adX adM z) {Rel : gS → gS → Prop} (hE : EQ_trace Rel) {x3 : Int32} (hin_1 : vp_in (x3 + 1) L) (hK : ∀ (σx σm : gS) (H : Heap) (locs : List Loc) (ls : Array Slot), Rel σx σm → lwI s D t adX adM σx σm H locs → lv_has ls 4 [(0, .ref b), (1, .ref (adX 0)), (2, .ref (adM 0)), (3, .int x3)] → W p l e room_1 s m #[Value.ref b] below meth c H locs 82 38218 (lw_Z below #[Value.ref b] s) (F0 m 1744 ls [])) (σx σm : gS) (H : Heap) (locs : List Loc) (ls : Array Slot) (hRel : Rel σx σm) (hI : lwI s D t adX adM σx σm H locs) (hl : lv_has ls 4 [(0, .ref b), (1, .ref (adX 0)), (2, .ref (adM 0)), (3, .int x3)]) : W p l e room_1 s m #[Value.ref b] below meth c H locs 82 38218 (lw_Z below #[Value.ref b] s) (F0 m 1419 ls []) := by
  obtain ⟨hx, hb, hml, hown, hts⟩ := id C
  have hbA : ¬ (fun q : Nat => s.heap.size ≤ q) b := Nat.not_le.mpr hbl
  obtain ⟨r, hx_, hm_, hRel2⟩ := hE σx σm (xs (x3 + 1).toNatClampNeg) hRel
  refine lv_aload_n hx hb dL_law_1419 rfl (lv_at hl 1 rfl) ?_
  refine lv_aload_n hx hb dL_law_1420 rfl (lv_at hl 0 rfl) ?_
  refine lv_iload_n hx hb dL_law_1421 rfl (lv_at hl 3 rfl) ?_
  refine lv_iconst hx hb dL_law_1422 ci_1 ?_
  refine lv_iadd hx hb dL_law_1423 ?_
  refine va_sld hx hb hX hbl hbA hI.2.2 hin_1 dL_law_1424 ?_
  refine lx_i C hF hI hl.1 (rest := []) shX_0 rfl yv_X9_trace k_990 (c_X9_trace l D t adX z hF.1 σx (xs (x3 + 1).toNatClampNeg) _ hx_) (As := [.int (xs (x3 + 1).toNatClampNeg)]) rfl rfl ⟨Nat.le_of_ble_eq_true rfl, Nat.le_of_ble_eq_true rfl⟩ ⟨Nat.le_of_ble_eq_true rfl, Nat.le_of_ble_eq_true rfl⟩ (Nat.le_of_ble_eq_true rfl) dL_law_1425 (fun H locs hI => ?_)
  refine lv_aload_n hx hb dL_law_1428 rfl (lv_at hl 2 rfl) ?_
  refine lv_aload_n hx hb dL_law_1429 rfl (lv_at hl 0 rfl) ?_
  refine lv_iload_n hx hb dL_law_1430 rfl (lv_at hl 3 rfl) ?_
  refine lv_iconst hx hb dL_law_1431 ci_1 ?_
  refine lv_iadd hx hb dL_law_1432 ?_
  refine va_sld hx hb hX hbl hbA hI.2.2 hin_1 dL_law_1433 ?_
  refine lm_i C hF hI hl.1 (rest := [.int r]) shM_0 rfl yv_X10_trace k_1615 (c_X10_trace l D t adM z hF.2.1 σm (xs (x3 + 1).toNatClampNeg) _ hm_) (As := [.int (xs (x3 + 1).toNatClampNeg)]) rfl rfl ⟨Nat.le_of_ble_eq_true rfl, Nat.le_of_ble_eq_true rfl⟩ ⟨Nat.le_of_ble_eq_true rfl, Nat.le_of_ble_eq_true rfl⟩ (Nat.le_of_ble_eq_true rfl) dL_law_1434 (fun H locs hI => ?_)
  refine lv_icmp_eq (tgt := 1744) hx hb dL_law_1437 (by decide) (fun _ => ?_) (fun c0 => absurd rfl c0)
  exact hK _ _ _ _ _ hRel2 hI hl
set_option maxRecDepth 100000 in
set_option maxHeartbeats 4000000 in
theorem lc_38 {p : Program} {l : Launch} {e : Env} {s : State} {m : MethodId} {below : List Frame} {meth : Method} {c : Code} {D : va_G} {t : gT} {adX adM z : Nat → Nat} {b L : Nat} {xs : Nat → Int32} (C : lwC p s m #[Value.ref b] c 4) (hX : va_X b L xs s s.heap) (hbl : b < s.heap.size) (hF : lwF s D t adX adM z) {Rel : gS → gS → Prop} (hE : EQ_keep Rel) {x3 : Int32} (hin_1 : vp_in (x3 + 1) L) (hin_2 : vp_in (x3 + 2) L) (hK : ∀ (σx σm : gS) (H : Heap) (locs : List Loc) (ls : Array Slot), Rel σx σm → lwI s D t adX adM σx σm H locs → lv_has ls 4 [(0, .ref b), (1, .ref (adX 0)), (2, .ref (adM 0)), (3, .int x3)] → W p l e room_1 s m #[Value.ref b] below meth c H locs 82 38218 (lw_Z below #[Value.ref b] s) (F0 m 1744 ls [])) (σx σm : gS) (H : Heap) (locs : List Loc) (ls : Array Slot) (hRel : Rel σx σm) (hI : lwI s D t adX adM σx σm H locs) (hl : lv_has ls 4 [(0, .ref b), (1, .ref (adX 0)), (2, .ref (adM 0)), (3, .int x3)]) : W p l e room_1 s m #[Value.ref b] below meth c H locs 82 38218 (lw_Z below #[Value.ref b] s) (F0 m 1442 ls []) := by
  obtain ⟨hx, hb, hml, hown, hts⟩ := id C
  have hbA : ¬ (fun q : Nat => s.heap.size ≤ q) b := Nat.not_le.mpr hbl
  obtain ⟨r, σ1, σ2, hx_, hm_, hRel2⟩ := hE σx σm (xs (x3 + 1).toNatClampNeg) (xs (x3 + 2).toNatClampNeg) hRel
  refine lv_aload_n hx hb dL_law_1442 rfl (lv_at hl 1 rfl) ?_
  refine lv_aload_n hx hb dL_law_1443 rfl (lv_at hl 0 rfl) ?_
  refine lv_iload_n hx hb dL_law_1444 rfl (lv_at hl 3 rfl) ?_
  refine lv_iconst hx hb dL_law_1445 ci_1 ?_
  refine lv_iadd hx hb dL_law_1446 ?_
  refine va_sld hx hb hX hbl hbA hI.2.2 hin_1 dL_law_1447 ?_
  refine lv_aload_n hx hb dL_law_1448 rfl (lv_at hl 0 rfl) ?_
  refine lv_iload_n hx hb dL_law_1449 rfl (lv_at hl 3 rfl) ?_
  refine lv_iconst hx hb dL_law_1450 ci_2 ?_
  refine lv_iadd hx hb dL_law_1451 ?_
  refine va_sld hx hb hX hbl hbA hI.2.2 hin_2 dL_law_1452 ?_
  refine lx_i C hF hI hl.1 (rest := []) shX_0 rfl yv_X9_keep k_999 (c_X9_keep l D t adX z hF.1 σx (xs (x3 + 1).toNatClampNeg) (xs (x3 + 2).toNatClampNeg) _ hx_) (As := [.int (xs (x3 + 1).toNatClampNeg), .int (xs (x3 + 2).toNatClampNeg)]) rfl rfl ⟨Nat.le_of_ble_eq_true rfl, Nat.le_of_ble_eq_true rfl⟩ ⟨Nat.le_of_ble_eq_true rfl, Nat.le_of_ble_eq_true rfl⟩ (Nat.le_of_ble_eq_true rfl) dL_law_1453 (fun H locs hI => ?_)
  refine lv_aload_n hx hb dL_law_1456 rfl (lv_at hl 2 rfl) ?_
  refine lv_aload_n hx hb dL_law_1457 rfl (lv_at hl 0 rfl) ?_
  refine lv_iload_n hx hb dL_law_1458 rfl (lv_at hl 3 rfl) ?_
  refine lv_iconst hx hb dL_law_1459 ci_1 ?_
  refine lv_iadd hx hb dL_law_1460 ?_
  refine va_sld hx hb hX hbl hbA hI.2.2 hin_1 dL_law_1461 ?_
  refine lv_aload_n hx hb dL_law_1462 rfl (lv_at hl 0 rfl) ?_
  refine lv_iload_n hx hb dL_law_1463 rfl (lv_at hl 3 rfl) ?_
  refine lv_iconst hx hb dL_law_1464 ci_2 ?_
  refine lv_iadd hx hb dL_law_1465 ?_
  refine va_sld hx hb hX hbl hbA hI.2.2 hin_2 dL_law_1466 ?_
  refine lm_i C hF hI hl.1 (rest := [.int r]) shM_0 rfl yv_X10_keep k_1619 (c_X10_keep l D t adM z hF.2.1 σm (xs (x3 + 1).toNatClampNeg) (xs (x3 + 2).toNatClampNeg) _ hm_) (As := [.int (xs (x3 + 1).toNatClampNeg), .int (xs (x3 + 2).toNatClampNeg)]) rfl rfl ⟨Nat.le_of_ble_eq_true rfl, Nat.le_of_ble_eq_true rfl⟩ ⟨Nat.le_of_ble_eq_true rfl, Nat.le_of_ble_eq_true rfl⟩ (Nat.le_of_ble_eq_true rfl) dL_law_1467 (fun H locs hI => ?_)
  refine lv_icmp_eq (tgt := 1744) hx hb dL_law_1470 (by decide) (fun _ => ?_) (fun c0 => absurd rfl c0)
  exact hK _ _ _ _ _ hRel2 hI hl
set_option maxRecDepth 100000 in
set_option maxHeartbeats 4000000 in
theorem lc_39 {p : Program} {l : Launch} {e : Env} {s : State} {m : MethodId} {below : List Frame} {meth : Method} {c : Code} {D : va_G} {t : gT} {adX adM z : Nat → Nat} {b L : Nat} {xs : Nat → Int32} (C : lwC p s m #[Value.ref b] c 4) (hX : va_X b L xs s s.heap) (hbl : b < s.heap.size) (hF : lwF s D t adX adM z) {Rel : gS → gS → Prop} (hE : EQ_row Rel) {x3 : Int32} (hin_1 : vp_in (x3 + 1) L) (hin_2 : vp_in (x3 + 2) L) (hin_3 : vp_in (x3 + 3) L) (hK : ∀ (σx σm : gS) (H : Heap) (locs : List Loc) (ls : Array Slot), Rel σx σm → lwI s D t adX adM σx σm H locs → lv_has ls 4 [(0, .ref b), (1, .ref (adX 0)), (2, .ref (adM 0)), (3, .int x3)] → W p l e room_1 s m #[Value.ref b] below meth c H locs 82 38218 (lw_Z below #[Value.ref b] s) (F0 m 1744 ls [])) (σx σm : gS) (H : Heap) (locs : List Loc) (ls : Array Slot) (hRel : Rel σx σm) (hI : lwI s D t adX adM σx σm H locs) (hl : lv_has ls 4 [(0, .ref b), (1, .ref (adX 0)), (2, .ref (adM 0)), (3, .int x3)]) : W p l e room_1 s m #[Value.ref b] below meth c H locs 82 38218 (lw_Z below #[Value.ref b] s) (F0 m 1475 ls []) := by
  obtain ⟨hx, hb, hml, hown, hts⟩ := id C
  have hbA : ¬ (fun q : Nat => s.heap.size ≤ q) b := Nat.not_le.mpr hbl
  obtain ⟨r, σ1, σ2, hx_, hm_, hRel2⟩ := hE σx σm (xs (x3 + 1).toNatClampNeg) (xs (x3 + 2).toNatClampNeg) (xs (x3 + 3).toNatClampNeg) hRel
  refine lv_aload_n hx hb dL_law_1475 rfl (lv_at hl 1 rfl) ?_
  refine lv_aload_n hx hb dL_law_1476 rfl (lv_at hl 0 rfl) ?_
  refine lv_iload_n hx hb dL_law_1477 rfl (lv_at hl 3 rfl) ?_
  refine lv_iconst hx hb dL_law_1478 ci_1 ?_
  refine lv_iadd hx hb dL_law_1479 ?_
  refine va_sld hx hb hX hbl hbA hI.2.2 hin_1 dL_law_1480 ?_
  refine lv_aload_n hx hb dL_law_1481 rfl (lv_at hl 0 rfl) ?_
  refine lv_iload_n hx hb dL_law_1482 rfl (lv_at hl 3 rfl) ?_
  refine lv_iconst hx hb dL_law_1483 ci_2 ?_
  refine lv_iadd hx hb dL_law_1484 ?_
  refine va_sld hx hb hX hbl hbA hI.2.2 hin_2 dL_law_1485 ?_
  refine lv_aload_n hx hb dL_law_1486 rfl (lv_at hl 0 rfl) ?_
  refine lv_iload_n hx hb dL_law_1487 rfl (lv_at hl 3 rfl) ?_
  refine lv_iconst hx hb dL_law_1488 ci_3 ?_
  refine lv_iadd hx hb dL_law_1489 ?_
  refine va_sld hx hb hX hbl hbA hI.2.2 hin_3 dL_law_1490 ?_
  refine lx_i C hF hI hl.1 (rest := []) shX_0 rfl yv_X9_row k_1008 (c_X9_row l D t adX z hF.1 σx (xs (x3 + 1).toNatClampNeg) (xs (x3 + 2).toNatClampNeg) (xs (x3 + 3).toNatClampNeg) _ hx_) (As := [.int (xs (x3 + 1).toNatClampNeg), .int (xs (x3 + 2).toNatClampNeg), .int (xs (x3 + 3).toNatClampNeg)]) rfl rfl ⟨Nat.le_of_ble_eq_true rfl, Nat.le_of_ble_eq_true rfl⟩ ⟨Nat.le_of_ble_eq_true rfl, Nat.le_of_ble_eq_true rfl⟩ (Nat.le_of_ble_eq_true rfl) dL_law_1491 (fun H locs hI => ?_)
  refine lv_aload_n hx hb dL_law_1494 rfl (lv_at hl 2 rfl) ?_
  refine lv_aload_n hx hb dL_law_1495 rfl (lv_at hl 0 rfl) ?_
  refine lv_iload_n hx hb dL_law_1496 rfl (lv_at hl 3 rfl) ?_
  refine lv_iconst hx hb dL_law_1497 ci_1 ?_
  refine lv_iadd hx hb dL_law_1498 ?_
  refine va_sld hx hb hX hbl hbA hI.2.2 hin_1 dL_law_1499 ?_
  refine lv_aload_n hx hb dL_law_1500 rfl (lv_at hl 0 rfl) ?_
  refine lv_iload_n hx hb dL_law_1501 rfl (lv_at hl 3 rfl) ?_
  refine lv_iconst hx hb dL_law_1502 ci_2 ?_
  refine lv_iadd hx hb dL_law_1503 ?_
  refine va_sld hx hb hX hbl hbA hI.2.2 hin_2 dL_law_1504 ?_
  refine lv_aload_n hx hb dL_law_1505 rfl (lv_at hl 0 rfl) ?_
  refine lv_iload_n hx hb dL_law_1506 rfl (lv_at hl 3 rfl) ?_
  refine lv_iconst hx hb dL_law_1507 ci_3 ?_
  refine lv_iadd hx hb dL_law_1508 ?_
  refine va_sld hx hb hX hbl hbA hI.2.2 hin_3 dL_law_1509 ?_
  refine lm_i C hF hI hl.1 (rest := [.int r]) shM_0 rfl yv_X10_row k_1623 (c_X10_row l D t adM z hF.2.1 σm (xs (x3 + 1).toNatClampNeg) (xs (x3 + 2).toNatClampNeg) (xs (x3 + 3).toNatClampNeg) _ hm_) (As := [.int (xs (x3 + 1).toNatClampNeg), .int (xs (x3 + 2).toNatClampNeg), .int (xs (x3 + 3).toNatClampNeg)]) rfl rfl ⟨Nat.le_of_ble_eq_true rfl, Nat.le_of_ble_eq_true rfl⟩ ⟨Nat.le_of_ble_eq_true rfl, Nat.le_of_ble_eq_true rfl⟩ (Nat.le_of_ble_eq_true rfl) dL_law_1510 (fun H locs hI => ?_)
  refine lv_icmp_eq (tgt := 1744) hx hb dL_law_1513 (by decide) (fun _ => ?_) (fun c0 => absurd rfl c0)
  exact hK _ _ _ _ _ hRel2 hI hl
set_option maxRecDepth 100000 in
set_option maxHeartbeats 4000000 in
theorem lc_40 {p : Program} {l : Launch} {e : Env} {s : State} {m : MethodId} {below : List Frame} {meth : Method} {c : Code} {D : va_G} {t : gT} {adX adM z : Nat → Nat} {b L : Nat} {xs : Nat → Int32} (C : lwC p s m #[Value.ref b] c 4) (hX : va_X b L xs s s.heap) (hbl : b < s.heap.size) (hF : lwF s D t adX adM z) {Rel : gS → gS → Prop} (hE : EQ_put Rel) {x3 : Int32} (hin_1 : vp_in (x3 + 1) L) (hin_2 : vp_in (x3 + 2) L) (hin_3 : vp_in (x3 + 3) L) (hin_4 : vp_in (x3 + 4) L) (hK : ∀ (σx σm : gS) (H : Heap) (locs : List Loc) (ls : Array Slot), Rel σx σm → lwI s D t adX adM σx σm H locs → lv_has ls 4 [(0, .ref b), (1, .ref (adX 0)), (2, .ref (adM 0)), (3, .int x3)] → W p l e room_1 s m #[Value.ref b] below meth c H locs 82 38218 (lw_Z below #[Value.ref b] s) (F0 m 1744 ls [])) (σx σm : gS) (H : Heap) (locs : List Loc) (ls : Array Slot) (hRel : Rel σx σm) (hI : lwI s D t adX adM σx σm H locs) (hl : lv_has ls 4 [(0, .ref b), (1, .ref (adX 0)), (2, .ref (adM 0)), (3, .int x3)]) : W p l e room_1 s m #[Value.ref b] below meth c H locs 82 38218 (lw_Z below #[Value.ref b] s) (F0 m 1518 ls []) := by
  obtain ⟨hx, hb, hml, hown, hts⟩ := id C
  have hbA : ¬ (fun q : Nat => s.heap.size ≤ q) b := Nat.not_le.mpr hbl
  obtain ⟨r, σ1, σ2, hx_, hm_, hRel2⟩ := hE σx σm (xs (x3 + 1).toNatClampNeg) (xs (x3 + 2).toNatClampNeg) ((jlshl ((xs (x3 + 3).toNatClampNeg).toInt64) 32) ||| ((xs (x3 + 4).toNatClampNeg).toInt64 &&& (4294967295 : Int64))) hRel
  refine lv_aload_n hx hb dL_law_1518 rfl (lv_at hl 1 rfl) ?_
  refine lv_aload_n hx hb dL_law_1519 rfl (lv_at hl 0 rfl) ?_
  refine lv_iload_n hx hb dL_law_1520 rfl (lv_at hl 3 rfl) ?_
  refine lv_iconst hx hb dL_law_1521 ci_1 ?_
  refine lv_iadd hx hb dL_law_1522 ?_
  refine va_sld hx hb hX hbl hbA hI.2.2 hin_1 dL_law_1523 ?_
  refine lv_aload_n hx hb dL_law_1524 rfl (lv_at hl 0 rfl) ?_
  refine lv_iload_n hx hb dL_law_1525 rfl (lv_at hl 3 rfl) ?_
  refine lv_iconst hx hb dL_law_1526 ci_2 ?_
  refine lv_iadd hx hb dL_law_1527 ?_
  refine va_sld hx hb hX hbl hbA hI.2.2 hin_2 dL_law_1528 ?_
  refine lv_aload_n hx hb dL_law_1529 rfl (lv_at hl 0 rfl) ?_
  refine lv_iload_n hx hb dL_law_1530 rfl (lv_at hl 3 rfl) ?_
  refine lv_iconst hx hb dL_law_1531 ci_3 ?_
  refine lv_iadd hx hb dL_law_1532 ?_
  refine va_sld hx hb hX hbl hbA hI.2.2 hin_3 dL_law_1533 ?_
  refine lv_i2l (v := (xs (x3 + 3).toNatClampNeg).toInt64) hx hb dL_law_1534 rfl ?_
  refine lv_bipush hx hb dL_law_1535 cb_32 ?_
  refine lv_lshl (v := jlshl ((xs (x3 + 3).toNatClampNeg).toInt64) 32) hx hb dL_law_1537 rfl ?_
  refine lv_aload_n hx hb dL_law_1538 rfl (lv_at hl 0 rfl) ?_
  refine lv_iload_n hx hb dL_law_1539 rfl (lv_at hl 3 rfl) ?_
  refine lv_iconst hx hb dL_law_1540 ci_4 ?_
  refine lv_iadd hx hb dL_law_1541 ?_
  refine va_sld hx hb hX hbl hbA hI.2.2 hin_4 dL_law_1542 ?_
  refine lv_i2l (v := (xs (x3 + 4).toNatClampNeg).toInt64) hx hb dL_law_1543 rfl ?_
  refine lv_ldc2 hx hb hown (hts _ k_1655) dL_law_1544 ?_
  refine lv_land hx hb dL_law_1547 ?_
  refine lv_lor hx hb dL_law_1548 ?_
  refine lx_i C hF hI hl.1 (rest := []) shX_0 rfl yv_X9_put k_1016 (c_X9_put l D t adX z hF.1 σx (xs (x3 + 1).toNatClampNeg) (xs (x3 + 2).toNatClampNeg) ((jlshl ((xs (x3 + 3).toNatClampNeg).toInt64) 32) ||| ((xs (x3 + 4).toNatClampNeg).toInt64 &&& (4294967295 : Int64))) _ hx_) (As := [.int (xs (x3 + 1).toNatClampNeg), .int (xs (x3 + 2).toNatClampNeg), .long ((jlshl ((xs (x3 + 3).toNatClampNeg).toInt64) 32) ||| ((xs (x3 + 4).toNatClampNeg).toInt64 &&& (4294967295 : Int64)))]) rfl rfl ⟨Nat.le_of_ble_eq_true rfl, Nat.le_of_ble_eq_true rfl⟩ ⟨Nat.le_of_ble_eq_true rfl, Nat.le_of_ble_eq_true rfl⟩ (Nat.le_of_ble_eq_true rfl) dL_law_1549 (fun H locs hI => ?_)
  refine lv_aload_n hx hb dL_law_1552 rfl (lv_at hl 2 rfl) ?_
  refine lv_aload_n hx hb dL_law_1553 rfl (lv_at hl 0 rfl) ?_
  refine lv_iload_n hx hb dL_law_1554 rfl (lv_at hl 3 rfl) ?_
  refine lv_iconst hx hb dL_law_1555 ci_1 ?_
  refine lv_iadd hx hb dL_law_1556 ?_
  refine va_sld hx hb hX hbl hbA hI.2.2 hin_1 dL_law_1557 ?_
  refine lv_aload_n hx hb dL_law_1558 rfl (lv_at hl 0 rfl) ?_
  refine lv_iload_n hx hb dL_law_1559 rfl (lv_at hl 3 rfl) ?_
  refine lv_iconst hx hb dL_law_1560 ci_2 ?_
  refine lv_iadd hx hb dL_law_1561 ?_
  refine va_sld hx hb hX hbl hbA hI.2.2 hin_2 dL_law_1562 ?_
  refine lv_aload_n hx hb dL_law_1563 rfl (lv_at hl 0 rfl) ?_
  refine lv_iload_n hx hb dL_law_1564 rfl (lv_at hl 3 rfl) ?_
  refine lv_iconst hx hb dL_law_1565 ci_3 ?_
  refine lv_iadd hx hb dL_law_1566 ?_
  refine va_sld hx hb hX hbl hbA hI.2.2 hin_3 dL_law_1567 ?_
  refine lv_i2l (v := (xs (x3 + 3).toNatClampNeg).toInt64) hx hb dL_law_1568 rfl ?_
  refine lv_bipush hx hb dL_law_1569 cb_32 ?_
  refine lv_lshl (v := jlshl ((xs (x3 + 3).toNatClampNeg).toInt64) 32) hx hb dL_law_1571 rfl ?_
  refine lv_aload_n hx hb dL_law_1572 rfl (lv_at hl 0 rfl) ?_
  refine lv_iload_n hx hb dL_law_1573 rfl (lv_at hl 3 rfl) ?_
  refine lv_iconst hx hb dL_law_1574 ci_4 ?_
  refine lv_iadd hx hb dL_law_1575 ?_
  refine va_sld hx hb hX hbl hbA hI.2.2 hin_4 dL_law_1576 ?_
  refine lv_i2l (v := (xs (x3 + 4).toNatClampNeg).toInt64) hx hb dL_law_1577 rfl ?_
  refine lv_ldc2 hx hb hown (hts _ k_1655) dL_law_1578 ?_
  refine lv_land hx hb dL_law_1581 ?_
  refine lv_lor hx hb dL_law_1582 ?_
  refine lm_i C hF hI hl.1 (rest := [.int r]) shM_0 rfl yv_X10_put k_1627 (c_X10_put l D t adM z hF.2.1 σm (xs (x3 + 1).toNatClampNeg) (xs (x3 + 2).toNatClampNeg) ((jlshl ((xs (x3 + 3).toNatClampNeg).toInt64) 32) ||| ((xs (x3 + 4).toNatClampNeg).toInt64 &&& (4294967295 : Int64))) _ hm_) (As := [.int (xs (x3 + 1).toNatClampNeg), .int (xs (x3 + 2).toNatClampNeg), .long ((jlshl ((xs (x3 + 3).toNatClampNeg).toInt64) 32) ||| ((xs (x3 + 4).toNatClampNeg).toInt64 &&& (4294967295 : Int64)))]) rfl rfl ⟨Nat.le_of_ble_eq_true rfl, Nat.le_of_ble_eq_true rfl⟩ ⟨Nat.le_of_ble_eq_true rfl, Nat.le_of_ble_eq_true rfl⟩ (Nat.le_of_ble_eq_true rfl) dL_law_1583 (fun H locs hI => ?_)
  refine lv_icmp_eq (tgt := 1744) hx hb dL_law_1586 (by decide) (fun _ => ?_) (fun c0 => absurd rfl c0)
  exact hK _ _ _ _ _ hRel2 hI hl
set_option maxRecDepth 100000 in
set_option maxHeartbeats 4000000 in
theorem lc_41 {p : Program} {l : Launch} {e : Env} {s : State} {m : MethodId} {below : List Frame} {meth : Method} {c : Code} {D : va_G} {t : gT} {adX adM z : Nat → Nat} {b L : Nat} {xs : Nat → Int32} (C : lwC p s m #[Value.ref b] c 4) (hX : va_X b L xs s s.heap) (hbl : b < s.heap.size) (hF : lwF s D t adX adM z) {Rel : gS → gS → Prop} (hE : EQ_element Rel) {x3 : Int32} (hin_1 : vp_in (x3 + 1) L) (hin_2 : vp_in (x3 + 2) L) (hK : ∀ (σx σm : gS) (H : Heap) (locs : List Loc) (ls : Array Slot), Rel σx σm → lwI s D t adX adM σx σm H locs → lv_has ls 4 [(0, .ref b), (1, .ref (adX 0)), (2, .ref (adM 0)), (3, .int x3)] → W p l e room_1 s m #[Value.ref b] below meth c H locs 82 38218 (lw_Z below #[Value.ref b] s) (F0 m 1744 ls [])) (σx σm : gS) (H : Heap) (locs : List Loc) (ls : Array Slot) (hRel : Rel σx σm) (hI : lwI s D t adX adM σx σm H locs) (hl : lv_has ls 4 [(0, .ref b), (1, .ref (adX 0)), (2, .ref (adM 0)), (3, .int x3)]) : W p l e room_1 s m #[Value.ref b] below meth c H locs 82 38218 (lw_Z below #[Value.ref b] s) (F0 m 1591 ls []) := by
  obtain ⟨hx, hb, hml, hown, hts⟩ := id C
  have hbA : ¬ (fun q : Nat => s.heap.size ≤ q) b := Nat.not_le.mpr hbl
  obtain ⟨r, hx_, hm_, hRel2⟩ := hE σx σm (xs (x3 + 1).toNatClampNeg) (xs (x3 + 2).toNatClampNeg) hRel
  refine lv_aload_n hx hb dL_law_1591 rfl (lv_at hl 1 rfl) ?_
  refine lv_aload_n hx hb dL_law_1592 rfl (lv_at hl 0 rfl) ?_
  refine lv_iload_n hx hb dL_law_1593 rfl (lv_at hl 3 rfl) ?_
  refine lv_iconst hx hb dL_law_1594 ci_1 ?_
  refine lv_iadd hx hb dL_law_1595 ?_
  refine va_sld hx hb hX hbl hbA hI.2.2 hin_1 dL_law_1596 ?_
  refine lv_aload_n hx hb dL_law_1597 rfl (lv_at hl 0 rfl) ?_
  refine lv_iload_n hx hb dL_law_1598 rfl (lv_at hl 3 rfl) ?_
  refine lv_iconst hx hb dL_law_1599 ci_2 ?_
  refine lv_iadd hx hb dL_law_1600 ?_
  refine va_sld hx hb hX hbl hbA hI.2.2 hin_2 dL_law_1601 ?_
  refine lx_l C hF hI hl.1 (rest := []) shX_0 rfl yv_X9_element k_1032 (c_X9_element l D t adX z hF.1 σx (xs (x3 + 1).toNatClampNeg) (xs (x3 + 2).toNatClampNeg) _ hx_) (As := [.int (xs (x3 + 1).toNatClampNeg), .int (xs (x3 + 2).toNatClampNeg)]) rfl rfl ⟨Nat.le_of_ble_eq_true rfl, Nat.le_of_ble_eq_true rfl⟩ ⟨Nat.le_of_ble_eq_true rfl, Nat.le_of_ble_eq_true rfl⟩ (Nat.le_of_ble_eq_true rfl) dL_law_1602 (fun H locs hI => ?_)
  refine lv_aload_n hx hb dL_law_1605 rfl (lv_at hl 2 rfl) ?_
  refine lv_aload_n hx hb dL_law_1606 rfl (lv_at hl 0 rfl) ?_
  refine lv_iload_n hx hb dL_law_1607 rfl (lv_at hl 3 rfl) ?_
  refine lv_iconst hx hb dL_law_1608 ci_1 ?_
  refine lv_iadd hx hb dL_law_1609 ?_
  refine va_sld hx hb hX hbl hbA hI.2.2 hin_1 dL_law_1610 ?_
  refine lv_aload_n hx hb dL_law_1611 rfl (lv_at hl 0 rfl) ?_
  refine lv_iload_n hx hb dL_law_1612 rfl (lv_at hl 3 rfl) ?_
  refine lv_iconst hx hb dL_law_1613 ci_2 ?_
  refine lv_iadd hx hb dL_law_1614 ?_
  refine va_sld hx hb hX hbl hbA hI.2.2 hin_2 dL_law_1615 ?_
  refine lm_l C hF hI hl.1 (rest := [.long r]) shM_0 rfl yv_X10_element k_1638 (c_X10_element l D t adM z hF.2.1 σm (xs (x3 + 1).toNatClampNeg) (xs (x3 + 2).toNatClampNeg) _ hm_) (As := [.int (xs (x3 + 1).toNatClampNeg), .int (xs (x3 + 2).toNatClampNeg)]) rfl rfl ⟨Nat.le_of_ble_eq_true rfl, Nat.le_of_ble_eq_true rfl⟩ ⟨Nat.le_of_ble_eq_true rfl, Nat.le_of_ble_eq_true rfl⟩ (Nat.le_of_ble_eq_true rfl) dL_law_1616 (fun H locs hI => ?_)
  refine W.lcmp hx hb dL_law_1619 ?_
  refine lv_if_eq (tgt := 1744) hx hb dL_law_1620 (by decide) (fun _ => ?_) (fun c0 => absurd (lg_cmp_self _) c0)
  exact hK _ _ _ _ _ hRel2 hI hl
set_option maxRecDepth 100000 in
set_option maxHeartbeats 4000000 in
theorem lc_42 {p : Program} {l : Launch} {e : Env} {s : State} {m : MethodId} {below : List Frame} {meth : Method} {c : Code} {D : va_G} {t : gT} {adX adM z : Nat → Nat} {b L : Nat} {xs : Nat → Int32} (C : lwC p s m #[Value.ref b] c 4) (hX : va_X b L xs s s.heap) (hbl : b < s.heap.size) (hF : lwF s D t adX adM z) {Rel : gS → gS → Prop} (hE : EQ_shift Rel) {x3 : Int32} (hin_1 : vp_in (x3 + 1) L) (hin_2 : vp_in (x3 + 2) L) (hin_3 : vp_in (x3 + 3) L) (hin_4 : vp_in (x3 + 4) L) (hin_5 : vp_in (x3 + 5) L) (hK : ∀ (σx σm : gS) (H : Heap) (locs : List Loc) (ls : Array Slot), Rel σx σm → lwI s D t adX adM σx σm H locs → lv_has ls 4 [(0, .ref b), (1, .ref (adX 0)), (2, .ref (adM 0)), (3, .int x3)] → W p l e room_1 s m #[Value.ref b] below meth c H locs 82 38218 (lw_Z below #[Value.ref b] s) (F0 m 1744 ls [])) (σx σm : gS) (H : Heap) (locs : List Loc) (ls : Array Slot) (hRel : Rel σx σm) (hI : lwI s D t adX adM σx σm H locs) (hl : lv_has ls 4 [(0, .ref b), (1, .ref (adX 0)), (2, .ref (adM 0)), (3, .int x3)]) : W p l e room_1 s m #[Value.ref b] below meth c H locs 82 38218 (lw_Z below #[Value.ref b] s) (F0 m 1625 ls []) := by
  obtain ⟨hx, hb, hml, hown, hts⟩ := id C
  have hbA : ¬ (fun q : Nat => s.heap.size ≤ q) b := Nat.not_le.mpr hbl
  obtain ⟨r, σ1, σ2, hx_, hm_, hRel2⟩ := hE σx σm (xs (x3 + 1).toNatClampNeg) (xs (x3 + 2).toNatClampNeg) (xs (x3 + 3).toNatClampNeg) (xs (x3 + 4).toNatClampNeg) (xs (x3 + 5).toNatClampNeg) hRel
  refine lv_aload_n hx hb dL_law_1625 rfl (lv_at hl 1 rfl) ?_
  refine lv_aload_n hx hb dL_law_1626 rfl (lv_at hl 0 rfl) ?_
  refine lv_iload_n hx hb dL_law_1627 rfl (lv_at hl 3 rfl) ?_
  refine lv_iconst hx hb dL_law_1628 ci_1 ?_
  refine lv_iadd hx hb dL_law_1629 ?_
  refine va_sld hx hb hX hbl hbA hI.2.2 hin_1 dL_law_1630 ?_
  refine lv_aload_n hx hb dL_law_1631 rfl (lv_at hl 0 rfl) ?_
  refine lv_iload_n hx hb dL_law_1632 rfl (lv_at hl 3 rfl) ?_
  refine lv_iconst hx hb dL_law_1633 ci_2 ?_
  refine lv_iadd hx hb dL_law_1634 ?_
  refine va_sld hx hb hX hbl hbA hI.2.2 hin_2 dL_law_1635 ?_
  refine lv_aload_n hx hb dL_law_1636 rfl (lv_at hl 0 rfl) ?_
  refine lv_iload_n hx hb dL_law_1637 rfl (lv_at hl 3 rfl) ?_
  refine lv_iconst hx hb dL_law_1638 ci_3 ?_
  refine lv_iadd hx hb dL_law_1639 ?_
  refine va_sld hx hb hX hbl hbA hI.2.2 hin_3 dL_law_1640 ?_
  refine lv_aload_n hx hb dL_law_1641 rfl (lv_at hl 0 rfl) ?_
  refine lv_iload_n hx hb dL_law_1642 rfl (lv_at hl 3 rfl) ?_
  refine lv_iconst hx hb dL_law_1643 ci_4 ?_
  refine lv_iadd hx hb dL_law_1644 ?_
  refine va_sld hx hb hX hbl hbA hI.2.2 hin_4 dL_law_1645 ?_
  refine lv_aload_n hx hb dL_law_1646 rfl (lv_at hl 0 rfl) ?_
  refine lv_iload_n hx hb dL_law_1647 rfl (lv_at hl 3 rfl) ?_
  refine lv_iconst hx hb dL_law_1648 ci_5 ?_
  refine lv_iadd hx hb dL_law_1649 ?_
  refine va_sld hx hb hX hbl hbA hI.2.2 hin_5 dL_law_1650 ?_
  refine lx_i C hF hI hl.1 (rest := []) shX_0 rfl yv_X9_shift k_1037 (c_X9_shift l D t adX z hF.1 σx (xs (x3 + 1).toNatClampNeg) (xs (x3 + 2).toNatClampNeg) (xs (x3 + 3).toNatClampNeg) (xs (x3 + 4).toNatClampNeg) (xs (x3 + 5).toNatClampNeg) _ hx_) (As := [.int (xs (x3 + 1).toNatClampNeg), .int (xs (x3 + 2).toNatClampNeg), .int (xs (x3 + 3).toNatClampNeg), .int (xs (x3 + 4).toNatClampNeg), .int (xs (x3 + 5).toNatClampNeg)]) rfl rfl ⟨Nat.le_of_ble_eq_true rfl, Nat.le_of_ble_eq_true rfl⟩ ⟨Nat.le_of_ble_eq_true rfl, Nat.le_of_ble_eq_true rfl⟩ (Nat.le_of_ble_eq_true rfl) dL_law_1651 (fun H locs hI => ?_)
  refine lv_aload_n hx hb dL_law_1654 rfl (lv_at hl 2 rfl) ?_
  refine lv_aload_n hx hb dL_law_1655 rfl (lv_at hl 0 rfl) ?_
  refine lv_iload_n hx hb dL_law_1656 rfl (lv_at hl 3 rfl) ?_
  refine lv_iconst hx hb dL_law_1657 ci_1 ?_
  refine lv_iadd hx hb dL_law_1658 ?_
  refine va_sld hx hb hX hbl hbA hI.2.2 hin_1 dL_law_1659 ?_
  refine lv_aload_n hx hb dL_law_1660 rfl (lv_at hl 0 rfl) ?_
  refine lv_iload_n hx hb dL_law_1661 rfl (lv_at hl 3 rfl) ?_
  refine lv_iconst hx hb dL_law_1662 ci_2 ?_
  refine lv_iadd hx hb dL_law_1663 ?_
  refine va_sld hx hb hX hbl hbA hI.2.2 hin_2 dL_law_1664 ?_
  refine lv_aload_n hx hb dL_law_1665 rfl (lv_at hl 0 rfl) ?_
  refine lv_iload_n hx hb dL_law_1666 rfl (lv_at hl 3 rfl) ?_
  refine lv_iconst hx hb dL_law_1667 ci_3 ?_
  refine lv_iadd hx hb dL_law_1668 ?_
  refine va_sld hx hb hX hbl hbA hI.2.2 hin_3 dL_law_1669 ?_
  refine lv_aload_n hx hb dL_law_1670 rfl (lv_at hl 0 rfl) ?_
  refine lv_iload_n hx hb dL_law_1671 rfl (lv_at hl 3 rfl) ?_
  refine lv_iconst hx hb dL_law_1672 ci_4 ?_
  refine lv_iadd hx hb dL_law_1673 ?_
  refine va_sld hx hb hX hbl hbA hI.2.2 hin_4 dL_law_1674 ?_
  refine lv_aload_n hx hb dL_law_1675 rfl (lv_at hl 0 rfl) ?_
  refine lv_iload_n hx hb dL_law_1676 rfl (lv_at hl 3 rfl) ?_
  refine lv_iconst hx hb dL_law_1677 ci_5 ?_
  refine lv_iadd hx hb dL_law_1678 ?_
  refine va_sld hx hb hX hbl hbA hI.2.2 hin_5 dL_law_1679 ?_
  refine lm_i C hF hI hl.1 (rest := [.int r]) shM_0 rfl yv_X10_shift k_1643 (c_X10_shift l D t adM z hF.2.1 σm (xs (x3 + 1).toNatClampNeg) (xs (x3 + 2).toNatClampNeg) (xs (x3 + 3).toNatClampNeg) (xs (x3 + 4).toNatClampNeg) (xs (x3 + 5).toNatClampNeg) _ hm_) (As := [.int (xs (x3 + 1).toNatClampNeg), .int (xs (x3 + 2).toNatClampNeg), .int (xs (x3 + 3).toNatClampNeg), .int (xs (x3 + 4).toNatClampNeg), .int (xs (x3 + 5).toNatClampNeg)]) rfl rfl ⟨Nat.le_of_ble_eq_true rfl, Nat.le_of_ble_eq_true rfl⟩ ⟨Nat.le_of_ble_eq_true rfl, Nat.le_of_ble_eq_true rfl⟩ (Nat.le_of_ble_eq_true rfl) dL_law_1680 (fun H locs hI => ?_)
  refine lv_icmp_eq (tgt := 1744) hx hb dL_law_1683 (by decide) (fun _ => ?_) (fun c0 => absurd rfl c0)
  exact hK _ _ _ _ _ hRel2 hI hl
set_option maxRecDepth 100000 in
set_option maxHeartbeats 4000000 in
theorem lc_43 {p : Program} {l : Launch} {e : Env} {s : State} {m : MethodId} {below : List Frame} {meth : Method} {c : Code} {D : va_G} {t : gT} {adX adM z : Nat → Nat} {b L : Nat} {xs : Nat → Int32} (C : lwC p s m #[Value.ref b] c 4) (hX : va_X b L xs s s.heap) (hbl : b < s.heap.size) (hF : lwF s D t adX adM z) {Rel : gS → gS → Prop} (hE : EQ_taken Rel) {x3 : Int32} (hin_1 : vp_in (x3 + 1) L) (hin_2 : vp_in (x3 + 2) L) (hK : ∀ (σx σm : gS) (H : Heap) (locs : List Loc) (ls : Array Slot), Rel σx σm → lwI s D t adX adM σx σm H locs → lv_has ls 4 [(0, .ref b), (1, .ref (adX 0)), (2, .ref (adM 0)), (3, .int x3)] → W p l e room_1 s m #[Value.ref b] below meth c H locs 82 38218 (lw_Z below #[Value.ref b] s) (F0 m 1744 ls [])) (σx σm : gS) (H : Heap) (locs : List Loc) (ls : Array Slot) (hRel : Rel σx σm) (hI : lwI s D t adX adM σx σm H locs) (hl : lv_has ls 4 [(0, .ref b), (1, .ref (adX 0)), (2, .ref (adM 0)), (3, .int x3)]) : W p l e room_1 s m #[Value.ref b] below meth c H locs 82 38218 (lw_Z below #[Value.ref b] s) (F0 m 1688 ls []) := by
  obtain ⟨hx, hb, hml, hown, hts⟩ := id C
  have hbA : ¬ (fun q : Nat => s.heap.size ≤ q) b := Nat.not_le.mpr hbl
  obtain ⟨r, hx_, hm_, hRel2⟩ := hE σx σm (xs (x3 + 1).toNatClampNeg) (xs (x3 + 2).toNatClampNeg) hRel
  refine lv_aload_n hx hb dL_law_1688 rfl (lv_at hl 1 rfl) ?_
  refine lv_aload_n hx hb dL_law_1689 rfl (lv_at hl 0 rfl) ?_
  refine lv_iload_n hx hb dL_law_1690 rfl (lv_at hl 3 rfl) ?_
  refine lv_iconst hx hb dL_law_1691 ci_1 ?_
  refine lv_iadd hx hb dL_law_1692 ?_
  refine va_sld hx hb hX hbl hbA hI.2.2 hin_1 dL_law_1693 ?_
  refine lv_aload_n hx hb dL_law_1694 rfl (lv_at hl 0 rfl) ?_
  refine lv_iload_n hx hb dL_law_1695 rfl (lv_at hl 3 rfl) ?_
  refine lv_iconst hx hb dL_law_1696 ci_2 ?_
  refine lv_iadd hx hb dL_law_1697 ?_
  refine va_sld hx hb hX hbl hbA hI.2.2 hin_2 dL_law_1698 ?_
  refine lx_i C hF hI hl.1 (rest := []) shX_0 rfl yv_X9_taken k_1043 (c_X9_taken l D t adX z hF.1 σx (xs (x3 + 1).toNatClampNeg) (xs (x3 + 2).toNatClampNeg) _ hx_) (As := [.int (xs (x3 + 1).toNatClampNeg), .int (xs (x3 + 2).toNatClampNeg)]) rfl rfl ⟨Nat.le_of_ble_eq_true rfl, Nat.le_of_ble_eq_true rfl⟩ ⟨Nat.le_of_ble_eq_true rfl, Nat.le_of_ble_eq_true rfl⟩ (Nat.le_of_ble_eq_true rfl) dL_law_1699 (fun H locs hI => ?_)
  refine lv_aload_n hx hb dL_law_1702 rfl (lv_at hl 2 rfl) ?_
  refine lv_aload_n hx hb dL_law_1703 rfl (lv_at hl 0 rfl) ?_
  refine lv_iload_n hx hb dL_law_1704 rfl (lv_at hl 3 rfl) ?_
  refine lv_iconst hx hb dL_law_1705 ci_1 ?_
  refine lv_iadd hx hb dL_law_1706 ?_
  refine va_sld hx hb hX hbl hbA hI.2.2 hin_1 dL_law_1707 ?_
  refine lv_aload_n hx hb dL_law_1708 rfl (lv_at hl 0 rfl) ?_
  refine lv_iload_n hx hb dL_law_1709 rfl (lv_at hl 3 rfl) ?_
  refine lv_iconst hx hb dL_law_1710 ci_2 ?_
  refine lv_iadd hx hb dL_law_1711 ?_
  refine va_sld hx hb hX hbl hbA hI.2.2 hin_2 dL_law_1712 ?_
  refine lm_i C hF hI hl.1 (rest := [.int r]) shM_0 rfl yv_X10_taken k_1647 (c_X10_taken l D t adM z hF.2.1 σm (xs (x3 + 1).toNatClampNeg) (xs (x3 + 2).toNatClampNeg) _ hm_) (As := [.int (xs (x3 + 1).toNatClampNeg), .int (xs (x3 + 2).toNatClampNeg)]) rfl rfl ⟨Nat.le_of_ble_eq_true rfl, Nat.le_of_ble_eq_true rfl⟩ ⟨Nat.le_of_ble_eq_true rfl, Nat.le_of_ble_eq_true rfl⟩ (Nat.le_of_ble_eq_true rfl) dL_law_1713 (fun H locs hI => ?_)
  refine lv_icmp_eq (tgt := 1744) hx hb dL_law_1716 (by decide) (fun _ => ?_) (fun c0 => absurd rfl c0)
  exact hK _ _ _ _ _ hRel2 hI hl
set_option maxRecDepth 100000 in
set_option maxHeartbeats 4000000 in
theorem lc_44 {p : Program} {l : Launch} {e : Env} {s : State} {m : MethodId} {below : List Frame} {meth : Method} {c : Code} {D : va_G} {t : gT} {adX adM z : Nat → Nat} {b L : Nat} {xs : Nat → Int32} (C : lwC p s m #[Value.ref b] c 4) (hX : va_X b L xs s s.heap) (hbl : b < s.heap.size) (hF : lwF s D t adX adM z) {Rel : gS → gS → Prop} (hE : EQ_count Rel) {x3 : Int32} (hin_1 : vp_in (x3 + 1) L) (hK : ∀ (σx σm : gS) (H : Heap) (locs : List Loc) (ls : Array Slot), Rel σx σm → lwI s D t adX adM σx σm H locs → lv_has ls 4 [(0, .ref b), (1, .ref (adX 0)), (2, .ref (adM 0)), (3, .int x3)] → W p l e room_1 s m #[Value.ref b] below meth c H locs 82 38218 (lw_Z below #[Value.ref b] s) (F0 m 1744 ls [])) (σx σm : gS) (H : Heap) (locs : List Loc) (ls : Array Slot) (hRel : Rel σx σm) (hI : lwI s D t adX adM σx σm H locs) (hl : lv_has ls 4 [(0, .ref b), (1, .ref (adX 0)), (2, .ref (adM 0)), (3, .int x3)]) : W p l e room_1 s m #[Value.ref b] below meth c H locs 82 38218 (lw_Z below #[Value.ref b] s) (F0 m 1721 ls []) := by
  obtain ⟨hx, hb, hml, hown, hts⟩ := id C
  have hbA : ¬ (fun q : Nat => s.heap.size ≤ q) b := Nat.not_le.mpr hbl
  obtain ⟨r, hx_, hm_, hRel2⟩ := hE σx σm (xs (x3 + 1).toNatClampNeg) hRel
  refine lv_aload_n hx hb dL_law_1721 rfl (lv_at hl 1 rfl) ?_
  refine lv_aload_n hx hb dL_law_1722 rfl (lv_at hl 0 rfl) ?_
  refine lv_iload_n hx hb dL_law_1723 rfl (lv_at hl 3 rfl) ?_
  refine lv_iconst hx hb dL_law_1724 ci_1 ?_
  refine lv_iadd hx hb dL_law_1725 ?_
  refine va_sld hx hb hX hbl hbA hI.2.2 hin_1 dL_law_1726 ?_
  refine lx_i C hF hI hl.1 (rest := []) shX_0 rfl yv_X9_count k_1051 (c_X9_count l D t adX z hF.1 σx (xs (x3 + 1).toNatClampNeg) _ hx_) (As := [.int (xs (x3 + 1).toNatClampNeg)]) rfl rfl ⟨Nat.le_of_ble_eq_true rfl, Nat.le_of_ble_eq_true rfl⟩ ⟨Nat.le_of_ble_eq_true rfl, Nat.le_of_ble_eq_true rfl⟩ (Nat.le_of_ble_eq_true rfl) dL_law_1727 (fun H locs hI => ?_)
  refine lv_aload_n hx hb dL_law_1730 rfl (lv_at hl 2 rfl) ?_
  refine lv_aload_n hx hb dL_law_1731 rfl (lv_at hl 0 rfl) ?_
  refine lv_iload_n hx hb dL_law_1732 rfl (lv_at hl 3 rfl) ?_
  refine lv_iconst hx hb dL_law_1733 ci_1 ?_
  refine lv_iadd hx hb dL_law_1734 ?_
  refine va_sld hx hb hX hbl hbA hI.2.2 hin_1 dL_law_1735 ?_
  refine lm_i C hF hI hl.1 (rest := [.int r]) shM_0 rfl yv_X10_count k_1651 (c_X10_count l D t adM z hF.2.1 σm (xs (x3 + 1).toNatClampNeg) _ hm_) (As := [.int (xs (x3 + 1).toNatClampNeg)]) rfl rfl ⟨Nat.le_of_ble_eq_true rfl, Nat.le_of_ble_eq_true rfl⟩ ⟨Nat.le_of_ble_eq_true rfl, Nat.le_of_ble_eq_true rfl⟩ (Nat.le_of_ble_eq_true rfl) dL_law_1736 (fun H locs hI => ?_)
  refine lv_icmp_eq (tgt := 1744) hx hb dL_law_1739 (by decide) (fun _ => ?_) (fun c0 => absurd rfl c0)
  exact hK _ _ _ _ _ hRel2 hI hl
theorem vi_of {x : Int32} {i j L : Nat} (hx : x = nI i) (hL : L ≤ 3072) (h : i + j < L) : vp_in (x + nI j) L := by
  rw [hx, nI_add]
  exact vp_in_nI h (by omega)
set_option maxRecDepth 100000 in
set_option maxHeartbeats 8000000 in
/-- the law's loop -/
theorem law_loop {p : Program} {l : Launch} {e : Env} {s : State} {m : MethodId} {below : List Frame} {meth : Method} {c : Code} {D : va_G} {t : gT} {adX adM z : Nat → Nat} {b L : Nat} {xs : Nat → Int32} (C : lwC p s m #[Value.ref b] c 4) (hX : va_X b L xs s s.heap) (hbl : b < s.heap.size) (hF : lwF s D t adX adM z) {Rel : gS → gS → Prop} (hL : L ≤ 3072) (hr : meth.sig.returnType = ret) (hlocks : meth.locks = false) (hE : EQs Rel) : ∀ (n i : Nat) (x3 : Int32), L < i + 6 * n → x3 = nI i → i ≤ L + 6 → ∀ (σx σm : gS) (H : Heap) (locs : List Loc) (ls : Array Slot), Rel σx σm → lwI s D t adX adM σx σm H locs → lv_has ls 4 [(0, .ref b), (1, .ref (adX 0)), (2, .ref (adM 0)), (3, .int x3)] → W p l e room_1 s m #[Value.ref b] below meth c H locs 82 38218 (lw_Z below #[Value.ref b] s) (F0 m 18 ls []) := by
  obtain ⟨hx, hb, hml, hown, hts⟩ := id C
  have hbA : ¬ (fun q : Nat => s.heap.size ≤ q) b := Nat.not_le.mpr hbl
  have fin : ∀ (σx σm : gS) (H : Heap) (locs : List Loc) (ls : Array Slot), lwI s D t adX adM σx σm H locs → W p l e room_1 s m #[Value.ref b] below meth c H locs 82 38218 (lw_Z below #[Value.ref b] s) (F0 m 1750 ls []) := by
    intro σx σm H locs ls hI
    refine lv_iconst (v := 1) hx hb dL_law_1750 (by decide) ?_
    refine va_forget (fun q hq => hI.2.2.2.2 q hq) ?_
    refine W.widen (k := 600000) (n := 7302250) (by decide) (by decide) ?_
    exact lw_ret hx hb hr hlocks dL_law_1751
  have head : ∀ (i : Nat) (x3 : Int32), x3 = nI i → i ≤ L + 6 → ∀ (σx σm : gS) (H : Heap) (locs : List Loc) (ls : Array Slot), lwI s D t adX adM σx σm H locs → lv_has ls 4 [(0, .ref b), (1, .ref (adX 0)), (2, .ref (adM 0)), (3, .int x3)] → (i + 6 ≤ L → W p l e room_1 s m #[Value.ref b] below meth c H locs 82 38218 (lw_Z below #[Value.ref b] s) (F0 m 27 ls [])) → W p l e room_1 s m #[Value.ref b] below meth c H locs 82 38218 (lw_Z below #[Value.ref b] s) (F0 m 18 ls []) := by
    intro i x3 ex3 hi σx σm H locs ls hI hl kk
    refine lv_iload_n hx hb dL_law_18 rfl (lv_at hl 3 rfl) ?_
    refine lv_aload_n hx hb dL_law_19 rfl (lv_at hl 0 rfl) ?_
    refine va_slen hx hb hX hbl hbA hI.2.2 dL_law_20 ?_
    refine lv_bipush hx hb dL_law_21 cb_6 ?_
    refine lv_isub hx hb dL_law_23 ?_
    refine lv_icmp_gt (tgt := 1750) hx hb dL_law_24 (by decide) (fun _ => fin σx σm H locs ls hI) (fun c0 => kk ?_)
    rcases Nat.lt_or_ge L (i + 6) with q | q
    · refine absurd ?_ c0
      rw [ex3, Int32.lt_iff_toInt_lt, nI_toInt (by omega)]
      have e1 : (Int32.ofNat L - 6).toInt = (L : Int) - 6 := by
        have h6 : (6 : Int32) = nI 6 := by decide
        rw [h6]
        exact pk_sub_toInt (by omega) (by omega)
      first | (rw [e1]; omega) | (show (nI L - 6).toInt < _; have h6 : (6 : Int32) = nI 6 := by decide
                                  rw [h6, pk_sub_toInt (by omega) (by omega)]; omega)
    · exact q
  intro n
  induction n with
  | zero =>
    intro i x3 hn ex3 hi σx σm H locs ls hRel hI hl
    exact head i x3 ex3 hi σx σm H locs ls hI hl (fun h => absurd h (by omega))
  | succ n ih =>
    intro i x3 hn ex3 hi σx σm H locs ls hRel hI hl
    refine head i x3 ex3 hi σx σm H locs ls hI hl (fun hlt => ?_)
    have hin_0 : vp_in x3 L := by rw [ex3]; exact vp_in_nI (by omega) (by omega)
    have hin_1 : vp_in (x3 + 1) L := vi_of (j := 1) ex3 hL (by omega)
    have hin_2 : vp_in (x3 + 2) L := vi_of (j := 2) ex3 hL (by omega)
    have hin_3 : vp_in (x3 + 3) L := vi_of (j := 3) ex3 hL (by omega)
    have hin_4 : vp_in (x3 + 4) L := vi_of (j := 4) ex3 hL (by omega)
    have hin_5 : vp_in (x3 + 5) L := vi_of (j := 5) ex3 hL (by omega)
    have hK : ∀ (σx σm : gS) (H : Heap) (locs : List Loc) (ls : Array Slot), Rel σx σm → lwI s D t adX adM σx σm H locs → lv_has ls 4 [(0, .ref b), (1, .ref (adX 0)), (2, .ref (adM 0)), (3, .int x3)] → W p l e room_1 s m #[Value.ref b] below meth c H locs 82 38218 (lw_Z below #[Value.ref b] s) (F0 m 1744 ls []) := by
      intro σx σm H locs ls hRel hI hl
      obtain ⟨x4, ex4⟩ : ∃ y : Int32, y = x3 + 6 := ⟨_, rfl⟩
      refine lv_iinc (v := x4) (lv' := [(3, .int x4), (0, .ref b), (1, .ref (adX 0)), (2, .ref (adM 0))]) hx hb dL_law_1744 hl (k := 3) rfl (by rw [ex4]; rfl) (by decide) rfl (fun ls hl => ?_)
      refine lv_goto (tgt := 18) hx hb dL_law_1747 (by decide) ?_
      exact ih (i + 6) x4 (by omega) (by rw [ex4, ex3]; exact nI_add i 6) (by omega) σx σm H locs ls hRel hI (lv_sub hl [1, 2, 3, 0] rfl)
    refine lv_aload_n hx hb dL_law_27 rfl (lv_at hl 0 rfl) ?_
    refine lv_iload_n hx hb dL_law_28 rfl (lv_at hl 3 rfl) ?_
    refine va_sld hx hb hX hbl hbA hI.2.2 hin_0 dL_law_29 ?_
    refine lv_bipush hx hb dL_law_30 cb_63 ?_
    refine lv_iand hx hb dL_law_32 ?_
    refine lv_topi (fun v ev => ?_)
    by_cases hc0 : v = 0
    · refine lv_tableIn (tgt := 228) (off := 195) hx hb dL_law_33 (by rw [hc0]; decide) (by rw [hc0]; decide) (by rw [hc0]; rfl) (by decide) ?_
      exact lc_0 C hX hbl hF (hE.1) hin_1 hK σx σm H locs ls hRel hI hl
    by_cases hc1 : v = 1
    · refine lv_tableIn (tgt := 251) (off := 218) hx hb dL_law_33 (by rw [hc1]; decide) (by rw [hc1]; decide) (by rw [hc1]; rfl) (by decide) ?_
      exact lc_1 C hX hbl hF (hE.2.1) hin_1 hin_2 hin_3 hK σx σm H locs ls hRel hI hl
    by_cases hc2 : v = 2
    · refine lv_tableIn (tgt := 294) (off := 261) hx hb dL_law_33 (by rw [hc2]; decide) (by rw [hc2]; decide) (by rw [hc2]; rfl) (by decide) ?_
      exact lc_2 C hX hbl hF (hE.2.2.1) hin_1 hin_2 hin_3 hK σx σm H locs ls hRel hI hl
    by_cases hc3 : v = 3
    · refine lv_tableIn (tgt := 337) (off := 304) hx hb dL_law_33 (by rw [hc3]; decide) (by rw [hc3]; decide) (by rw [hc3]; rfl) (by decide) ?_
      exact lc_3 C hX hbl hF (hE.2.2.2.1) hin_1 hin_2 hK σx σm H locs ls hRel hI hl
    by_cases hc4 : v = 4
    · refine lv_tableIn (tgt := 370) (off := 337) hx hb dL_law_33 (by rw [hc4]; decide) (by rw [hc4]; decide) (by rw [hc4]; rfl) (by decide) ?_
      exact lc_4 C hX hbl hF (hE.2.2.2.2.1) hin_1 hK σx σm H locs ls hRel hI hl
    by_cases hc5 : v = 5
    · refine lv_tableIn (tgt := 393) (off := 360) hx hb dL_law_33 (by rw [hc5]; decide) (by rw [hc5]; decide) (by rw [hc5]; rfl) (by decide) ?_
      exact lc_5 C hX hbl hF (hE.2.2.2.2.2.1)  hK σx σm H locs ls hRel hI hl
    by_cases hc6 : v = 6
    · refine lv_tableIn (tgt := 406) (off := 373) hx hb dL_law_33 (by rw [hc6]; decide) (by rw [hc6]; decide) (by rw [hc6]; rfl) (by decide) ?_
      exact lc_6 C hX hbl hF (hE.2.2.2.2.2.2.1) hin_1 hin_2 hK σx σm H locs ls hRel hI hl
    by_cases hc7 : v = 7
    · refine lv_tableIn (tgt := 439) (off := 406) hx hb dL_law_33 (by rw [hc7]; decide) (by rw [hc7]; decide) (by rw [hc7]; rfl) (by decide) ?_
      exact lc_7 C hX hbl hF (hE.2.2.2.2.2.2.2.1) hin_1 hin_2 hK σx σm H locs ls hRel hI hl
    by_cases hc8 : v = 8
    · refine lv_tableIn (tgt := 472) (off := 439) hx hb dL_law_33 (by rw [hc8]; decide) (by rw [hc8]; decide) (by rw [hc8]; rfl) (by decide) ?_
      exact lc_8 C hX hbl hF (hE.2.2.2.2.2.2.2.2.1) hin_1 hin_2 hin_3 hK σx σm H locs ls hRel hI hl
    by_cases hc9 : v = 9
    · refine lv_tableIn (tgt := 515) (off := 482) hx hb dL_law_33 (by rw [hc9]; decide) (by rw [hc9]; decide) (by rw [hc9]; rfl) (by decide) ?_
      exact lc_9 C hX hbl hF (hE.2.2.2.2.2.2.2.2.2.1) hin_1 hin_2 hin_3 hin_4 hK σx σm H locs ls hRel hI hl
    by_cases hc10 : v = 10
    · refine lv_tableIn (tgt := 568) (off := 535) hx hb dL_law_33 (by rw [hc10]; decide) (by rw [hc10]; decide) (by rw [hc10]; rfl) (by decide) ?_
      exact lc_10 C hX hbl hF (hE.2.2.2.2.2.2.2.2.2.2.1) hin_1 hin_2 hin_3 hin_4 hK σx σm H locs ls hRel hI hl
    by_cases hc11 : v = 11
    · refine lv_tableIn (tgt := 621) (off := 588) hx hb dL_law_33 (by rw [hc11]; decide) (by rw [hc11]; decide) (by rw [hc11]; rfl) (by decide) ?_
      exact lc_11 C hX hbl hF (hE.2.2.2.2.2.2.2.2.2.2.2.1) hin_1 hin_2 hK σx σm H locs ls hRel hI hl
    by_cases hc12 : v = 12
    · refine lv_tableIn (tgt := 654) (off := 621) hx hb dL_law_33 (by rw [hc12]; decide) (by rw [hc12]; decide) (by rw [hc12]; rfl) (by decide) ?_
      exact lc_12 C hX hbl hF (hE.2.2.2.2.2.2.2.2.2.2.2.2.1) hin_1 hin_2 hK σx σm H locs ls hRel hI hl
    by_cases hc13 : v = 13
    · refine lv_tableIn (tgt := 687) (off := 654) hx hb dL_law_33 (by rw [hc13]; decide) (by rw [hc13]; decide) (by rw [hc13]; rfl) (by decide) ?_
      exact lc_13 C hX hbl hF (hE.2.2.2.2.2.2.2.2.2.2.2.2.2.1) hin_1 hK σx σm H locs ls hRel hI hl
    by_cases hc14 : v = 14
    · refine lv_tableIn (tgt := 710) (off := 677) hx hb dL_law_33 (by rw [hc14]; decide) (by rw [hc14]; decide) (by rw [hc14]; rfl) (by decide) ?_
      exact lc_14 C hX hbl hF (hE.2.2.2.2.2.2.2.2.2.2.2.2.2.2.1) hin_1 hin_2 hK σx σm H locs ls hRel hI hl
    by_cases hc15 : v = 15
    · refine lv_tableIn (tgt := 743) (off := 710) hx hb dL_law_33 (by rw [hc15]; decide) (by rw [hc15]; decide) (by rw [hc15]; rfl) (by decide) ?_
      exact lc_15 C hX hbl hF (hE.2.2.2.2.2.2.2.2.2.2.2.2.2.2.2.1) hin_1 hin_2 hK σx σm H locs ls hRel hI hl
    by_cases hc16 : v = 16
    · refine lv_tableIn (tgt := 776) (off := 743) hx hb dL_law_33 (by rw [hc16]; decide) (by rw [hc16]; decide) (by rw [hc16]; rfl) (by decide) ?_
      exact lc_16 C hX hbl hF (hE.2.2.2.2.2.2.2.2.2.2.2.2.2.2.2.2.1) hin_1 hin_2 hin_3 hin_4 hK σx σm H locs ls hRel hI hl
    by_cases hc17 : v = 17
    · refine lv_tableIn (tgt := 829) (off := 796) hx hb dL_law_33 (by rw [hc17]; decide) (by rw [hc17]; decide) (by rw [hc17]; rfl) (by decide) ?_
      exact lc_17 C hX hbl hF (hE.2.2.2.2.2.2.2.2.2.2.2.2.2.2.2.2.2.1) hin_1 hin_2 hK σx σm H locs ls hRel hI hl
    by_cases hc18 : v = 18
    · refine lv_tableIn (tgt := 862) (off := 829) hx hb dL_law_33 (by rw [hc18]; decide) (by rw [hc18]; decide) (by rw [hc18]; rfl) (by decide) ?_
      exact lc_18 C hX hbl hF (hE.2.2.2.2.2.2.2.2.2.2.2.2.2.2.2.2.2.2.1) hin_1 hin_2 hin_3 hK σx σm H locs ls hRel hI hl
    by_cases hc19 : v = 19
    · refine lv_tableIn (tgt := 905) (off := 872) hx hb dL_law_33 (by rw [hc19]; decide) (by rw [hc19]; decide) (by rw [hc19]; rfl) (by decide) ?_
      exact lc_19 C hX hbl hF (hE.2.2.2.2.2.2.2.2.2.2.2.2.2.2.2.2.2.2.2.1) hin_1 hin_2 hin_3 hin_4 hK σx σm H locs ls hRel hI hl
    by_cases hc20 : v = 20
    · refine lv_tableIn (tgt := 958) (off := 925) hx hb dL_law_33 (by rw [hc20]; decide) (by rw [hc20]; decide) (by rw [hc20]; rfl) (by decide) ?_
      exact lc_20 C hX hbl hF (hE.2.2.2.2.2.2.2.2.2.2.2.2.2.2.2.2.2.2.2.2.1) hin_1 hin_2 hin_3 hin_4 hK σx σm H locs ls hRel hI hl
    by_cases hc21 : v = 21
    · refine lv_tableIn (tgt := 1011) (off := 978) hx hb dL_law_33 (by rw [hc21]; decide) (by rw [hc21]; decide) (by rw [hc21]; rfl) (by decide) ?_
      exact lc_21 C hX hbl hF (hE.2.2.2.2.2.2.2.2.2.2.2.2.2.2.2.2.2.2.2.2.2.1) hin_1 hin_2 hin_3 hK σx σm H locs ls hRel hI hl
    by_cases hc22 : v = 22
    · refine lv_tableIn (tgt := 1054) (off := 1021) hx hb dL_law_33 (by rw [hc22]; decide) (by rw [hc22]; decide) (by rw [hc22]; rfl) (by decide) ?_
      exact lc_22 C hX hbl hF (hE.2.2.2.2.2.2.2.2.2.2.2.2.2.2.2.2.2.2.2.2.2.2.1) hin_1 hin_2 hK σx σm H locs ls hRel hI hl
    by_cases hc23 : v = 23
    · refine lv_tableIn (tgt := 1087) (off := 1054) hx hb dL_law_33 (by rw [hc23]; decide) (by rw [hc23]; decide) (by rw [hc23]; rfl) (by decide) ?_
      exact lc_23 C hX hbl hF (hE.2.2.2.2.2.2.2.2.2.2.2.2.2.2.2.2.2.2.2.2.2.2.2.1) hin_1 hK σx σm H locs ls hRel hI hl
    by_cases hc24 : v = 24
    · refine lv_tableIn (tgt := 1110) (off := 1077) hx hb dL_law_33 (by rw [hc24]; decide) (by rw [hc24]; decide) (by rw [hc24]; rfl) (by decide) ?_
      exact lc_24 C hX hbl hF (hE.2.2.2.2.2.2.2.2.2.2.2.2.2.2.2.2.2.2.2.2.2.2.2.2.1) hin_1 hin_2 hK σx σm H locs ls hRel hI hl
    by_cases hc25 : v = 25
    · refine lv_tableIn (tgt := 1143) (off := 1110) hx hb dL_law_33 (by rw [hc25]; decide) (by rw [hc25]; decide) (by rw [hc25]; rfl) (by decide) ?_
      exact lc_25 C hX hbl hF (hE.2.2.2.2.2.2.2.2.2.2.2.2.2.2.2.2.2.2.2.2.2.2.2.2.2.1) hin_1 hin_2 hK σx σm H locs ls hRel hI hl
    by_cases hc26 : v = 26
    · refine lv_tableIn (tgt := 1176) (off := 1143) hx hb dL_law_33 (by rw [hc26]; decide) (by rw [hc26]; decide) (by rw [hc26]; rfl) (by decide) ?_
      exact lc_26 C hX hbl hF (hE.2.2.2.2.2.2.2.2.2.2.2.2.2.2.2.2.2.2.2.2.2.2.2.2.2.2.1) hin_1 hin_2 hin_3 hK σx σm H locs ls hRel hI hl
    by_cases hc27 : v = 27
    · refine lv_tableIn (tgt := 1219) (off := 1186) hx hb dL_law_33 (by rw [hc27]; decide) (by rw [hc27]; decide) (by rw [hc27]; rfl) (by decide) ?_
      exact lc_27 C hX hbl hF (hE.2.2.2.2.2.2.2.2.2.2.2.2.2.2.2.2.2.2.2.2.2.2.2.2.2.2.2.1) hin_1 hK σx σm H locs ls hRel hI hl
    by_cases hc28 : v = 28
    · refine lv_tableIn (tgt := 1242) (off := 1209) hx hb dL_law_33 (by rw [hc28]; decide) (by rw [hc28]; decide) (by rw [hc28]; rfl) (by decide) ?_
      exact lc_28 C hX hbl hF (hE.2.2.2.2.2.2.2.2.2.2.2.2.2.2.2.2.2.2.2.2.2.2.2.2.2.2.2.2.1) hin_1 hK σx σm H locs ls hRel hI hl
    by_cases hc29 : v = 29
    · refine lv_tableIn (tgt := 1265) (off := 1232) hx hb dL_law_33 (by rw [hc29]; decide) (by rw [hc29]; decide) (by rw [hc29]; rfl) (by decide) ?_
      exact lc_29 C hX hbl hF (hE.2.2.2.2.2.2.2.2.2.2.2.2.2.2.2.2.2.2.2.2.2.2.2.2.2.2.2.2.2.1)  hK σx σm H locs ls hRel hI hl
    by_cases hc30 : v = 30
    · refine lv_tableIn (tgt := 1278) (off := 1245) hx hb dL_law_33 (by rw [hc30]; decide) (by rw [hc30]; decide) (by rw [hc30]; rfl) (by decide) ?_
      exact lc_30 C hX hbl hF (hE.2.2.2.2.2.2.2.2.2.2.2.2.2.2.2.2.2.2.2.2.2.2.2.2.2.2.2.2.2.2.1) hin_1 hK σx σm H locs ls hRel hI hl
    by_cases hc31 : v = 31
    · refine lv_tableIn (tgt := 1301) (off := 1268) hx hb dL_law_33 (by rw [hc31]; decide) (by rw [hc31]; decide) (by rw [hc31]; rfl) (by decide) ?_
      exact lc_31 C hX hbl hF (hE.2.2.2.2.2.2.2.2.2.2.2.2.2.2.2.2.2.2.2.2.2.2.2.2.2.2.2.2.2.2.2.1)  hK σx σm H locs ls hRel hI hl
    by_cases hc32 : v = 32
    · refine lv_tableIn (tgt := 1314) (off := 1281) hx hb dL_law_33 (by rw [hc32]; decide) (by rw [hc32]; decide) (by rw [hc32]; rfl) (by decide) ?_
      exact lc_32 C hX hbl hF (hE.2.2.2.2.2.2.2.2.2.2.2.2.2.2.2.2.2.2.2.2.2.2.2.2.2.2.2.2.2.2.2.2.1)  hK σx σm H locs ls hRel hI hl
    by_cases hc33 : v = 33
    · refine lv_tableIn (tgt := 1327) (off := 1294) hx hb dL_law_33 (by rw [hc33]; decide) (by rw [hc33]; decide) (by rw [hc33]; rfl) (by decide) ?_
      exact lc_33 C hX hbl hF (hE.2.2.2.2.2.2.2.2.2.2.2.2.2.2.2.2.2.2.2.2.2.2.2.2.2.2.2.2.2.2.2.2.2.1)  hK σx σm H locs ls hRel hI hl
    by_cases hc34 : v = 34
    · refine lv_tableIn (tgt := 1340) (off := 1307) hx hb dL_law_33 (by rw [hc34]; decide) (by rw [hc34]; decide) (by rw [hc34]; rfl) (by decide) ?_
      exact lc_34 C hX hbl hF (hE.2.2.2.2.2.2.2.2.2.2.2.2.2.2.2.2.2.2.2.2.2.2.2.2.2.2.2.2.2.2.2.2.2.2.1)  hK σx σm H locs ls hRel hI hl
    by_cases hc35 : v = 35
    · refine lv_tableIn (tgt := 1353) (off := 1320) hx hb dL_law_33 (by rw [hc35]; decide) (by rw [hc35]; decide) (by rw [hc35]; rfl) (by decide) ?_
      exact lc_35 C hX hbl hF (hE.2.2.2.2.2.2.2.2.2.2.2.2.2.2.2.2.2.2.2.2.2.2.2.2.2.2.2.2.2.2.2.2.2.2.2.1) hin_1 hK σx σm H locs ls hRel hI hl
    by_cases hc36 : v = 36
    · refine lv_tableIn (tgt := 1376) (off := 1343) hx hb dL_law_33 (by rw [hc36]; decide) (by rw [hc36]; decide) (by rw [hc36]; rfl) (by decide) ?_
      exact lc_36 C hX hbl hF (hE.2.2.2.2.2.2.2.2.2.2.2.2.2.2.2.2.2.2.2.2.2.2.2.2.2.2.2.2.2.2.2.2.2.2.2.2.1) hin_1 hin_2 hin_3 hK σx σm H locs ls hRel hI hl
    by_cases hc37 : v = 37
    · refine lv_tableIn (tgt := 1419) (off := 1386) hx hb dL_law_33 (by rw [hc37]; decide) (by rw [hc37]; decide) (by rw [hc37]; rfl) (by decide) ?_
      exact lc_37 C hX hbl hF (hE.2.2.2.2.2.2.2.2.2.2.2.2.2.2.2.2.2.2.2.2.2.2.2.2.2.2.2.2.2.2.2.2.2.2.2.2.2.1) hin_1 hK σx σm H locs ls hRel hI hl
    by_cases hc38 : v = 38
    · refine lv_tableIn (tgt := 1442) (off := 1409) hx hb dL_law_33 (by rw [hc38]; decide) (by rw [hc38]; decide) (by rw [hc38]; rfl) (by decide) ?_
      exact lc_38 C hX hbl hF (hE.2.2.2.2.2.2.2.2.2.2.2.2.2.2.2.2.2.2.2.2.2.2.2.2.2.2.2.2.2.2.2.2.2.2.2.2.2.2.1) hin_1 hin_2 hK σx σm H locs ls hRel hI hl
    by_cases hc39 : v = 39
    · refine lv_tableIn (tgt := 1475) (off := 1442) hx hb dL_law_33 (by rw [hc39]; decide) (by rw [hc39]; decide) (by rw [hc39]; rfl) (by decide) ?_
      exact lc_39 C hX hbl hF (hE.2.2.2.2.2.2.2.2.2.2.2.2.2.2.2.2.2.2.2.2.2.2.2.2.2.2.2.2.2.2.2.2.2.2.2.2.2.2.2.1) hin_1 hin_2 hin_3 hK σx σm H locs ls hRel hI hl
    by_cases hc40 : v = 40
    · refine lv_tableIn (tgt := 1518) (off := 1485) hx hb dL_law_33 (by rw [hc40]; decide) (by rw [hc40]; decide) (by rw [hc40]; rfl) (by decide) ?_
      exact lc_40 C hX hbl hF (hE.2.2.2.2.2.2.2.2.2.2.2.2.2.2.2.2.2.2.2.2.2.2.2.2.2.2.2.2.2.2.2.2.2.2.2.2.2.2.2.2.1) hin_1 hin_2 hin_3 hin_4 hK σx σm H locs ls hRel hI hl
    by_cases hc41 : v = 41
    · refine lv_tableIn (tgt := 1591) (off := 1558) hx hb dL_law_33 (by rw [hc41]; decide) (by rw [hc41]; decide) (by rw [hc41]; rfl) (by decide) ?_
      exact lc_41 C hX hbl hF (hE.2.2.2.2.2.2.2.2.2.2.2.2.2.2.2.2.2.2.2.2.2.2.2.2.2.2.2.2.2.2.2.2.2.2.2.2.2.2.2.2.2.1) hin_1 hin_2 hK σx σm H locs ls hRel hI hl
    by_cases hc42 : v = 42
    · refine lv_tableIn (tgt := 1625) (off := 1592) hx hb dL_law_33 (by rw [hc42]; decide) (by rw [hc42]; decide) (by rw [hc42]; rfl) (by decide) ?_
      exact lc_42 C hX hbl hF (hE.2.2.2.2.2.2.2.2.2.2.2.2.2.2.2.2.2.2.2.2.2.2.2.2.2.2.2.2.2.2.2.2.2.2.2.2.2.2.2.2.2.2.1) hin_1 hin_2 hin_3 hin_4 hin_5 hK σx σm H locs ls hRel hI hl
    by_cases hc43 : v = 43
    · refine lv_tableIn (tgt := 1688) (off := 1655) hx hb dL_law_33 (by rw [hc43]; decide) (by rw [hc43]; decide) (by rw [hc43]; rfl) (by decide) ?_
      exact lc_43 C hX hbl hF (hE.2.2.2.2.2.2.2.2.2.2.2.2.2.2.2.2.2.2.2.2.2.2.2.2.2.2.2.2.2.2.2.2.2.2.2.2.2.2.2.2.2.2.2.1) hin_1 hin_2 hK σx σm H locs ls hRel hI hl
    by_cases hc44 : v = 44
    · refine lv_tableIn (tgt := 1721) (off := 1688) hx hb dL_law_33 (by rw [hc44]; decide) (by rw [hc44]; decide) (by rw [hc44]; rfl) (by decide) ?_
      exact lc_44 C hX hbl hF (hE.2.2.2.2.2.2.2.2.2.2.2.2.2.2.2.2.2.2.2.2.2.2.2.2.2.2.2.2.2.2.2.2.2.2.2.2.2.2.2.2.2.2.2.2) hin_1 hK σx σm H locs ls hRel hI hl
    have hout : v.toInt < 0 ∨ 44 < v.toInt := by
      have e0 := tsne (c := 0) (z := 0) (by decide) hc0
      have e1 := tsne (c := 1) (z := 1) (by decide) hc1
      have e2 := tsne (c := 2) (z := 2) (by decide) hc2
      have e3 := tsne (c := 3) (z := 3) (by decide) hc3
      have e4 := tsne (c := 4) (z := 4) (by decide) hc4
      have e5 := tsne (c := 5) (z := 5) (by decide) hc5
      have e6 := tsne (c := 6) (z := 6) (by decide) hc6
      have e7 := tsne (c := 7) (z := 7) (by decide) hc7
      have e8 := tsne (c := 8) (z := 8) (by decide) hc8
      have e9 := tsne (c := 9) (z := 9) (by decide) hc9
      have e10 := tsne (c := 10) (z := 10) (by decide) hc10
      have e11 := tsne (c := 11) (z := 11) (by decide) hc11
      have e12 := tsne (c := 12) (z := 12) (by decide) hc12
      have e13 := tsne (c := 13) (z := 13) (by decide) hc13
      have e14 := tsne (c := 14) (z := 14) (by decide) hc14
      have e15 := tsne (c := 15) (z := 15) (by decide) hc15
      have e16 := tsne (c := 16) (z := 16) (by decide) hc16
      have e17 := tsne (c := 17) (z := 17) (by decide) hc17
      have e18 := tsne (c := 18) (z := 18) (by decide) hc18
      have e19 := tsne (c := 19) (z := 19) (by decide) hc19
      have e20 := tsne (c := 20) (z := 20) (by decide) hc20
      have e21 := tsne (c := 21) (z := 21) (by decide) hc21
      have e22 := tsne (c := 22) (z := 22) (by decide) hc22
      have e23 := tsne (c := 23) (z := 23) (by decide) hc23
      have e24 := tsne (c := 24) (z := 24) (by decide) hc24
      have e25 := tsne (c := 25) (z := 25) (by decide) hc25
      have e26 := tsne (c := 26) (z := 26) (by decide) hc26
      have e27 := tsne (c := 27) (z := 27) (by decide) hc27
      have e28 := tsne (c := 28) (z := 28) (by decide) hc28
      have e29 := tsne (c := 29) (z := 29) (by decide) hc29
      have e30 := tsne (c := 30) (z := 30) (by decide) hc30
      have e31 := tsne (c := 31) (z := 31) (by decide) hc31
      have e32 := tsne (c := 32) (z := 32) (by decide) hc32
      have e33 := tsne (c := 33) (z := 33) (by decide) hc33
      have e34 := tsne (c := 34) (z := 34) (by decide) hc34
      have e35 := tsne (c := 35) (z := 35) (by decide) hc35
      have e36 := tsne (c := 36) (z := 36) (by decide) hc36
      have e37 := tsne (c := 37) (z := 37) (by decide) hc37
      have e38 := tsne (c := 38) (z := 38) (by decide) hc38
      have e39 := tsne (c := 39) (z := 39) (by decide) hc39
      have e40 := tsne (c := 40) (z := 40) (by decide) hc40
      have e41 := tsne (c := 41) (z := 41) (by decide) hc41
      have e42 := tsne (c := 42) (z := 42) (by decide) hc42
      have e43 := tsne (c := 43) (z := 43) (by decide) hc43
      have e44 := tsne (c := 44) (z := 44) (by decide) hc44
      omega
    refine lv_tableOut (tgt := 1744) hx hb dL_law_33 hout (by decide) ?_
    exact hK σx σm H locs ls hRel hI hl
