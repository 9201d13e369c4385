section CL
variable {p : Program} {l : Launch} {e : Env} {R : Room} {s : State} {m : MethodId} {args : Array Value} {below : List Frame} {meth : Method} {c : Code} {H : Heap} {locs : List Loc} {cells slots : Nat} {Q : State → Prop} {pc nL : Nat} {ls : Array Slot} {rest : List Value} {cc : ByteArray} {D : va_G} {t : gT}
theorem gc_newi (hx : p.tables.exec = Jvm.exec) (hb : c.code = cc) (hts : ∀ w ∈ lw_tb, w.before args s = true) (hK : va_K D vwCl (gTy t) s) {ws : va_W} {A : Nat → Prop} {H0 : Heap} (hP : va_P D vwCl ws H) (hD : va_D A ws) (hS : va_S A H0 H locs) (hA : ∀ q, H0.size ≤ q → A q) {n : Int32} (N : Nat) (hn : ¬ n < 0) (hN : n.toNatClampNeg = N) (hbytes : N * componentBytes .int ≤ 536870912) (hcells : cells + 1 ≤ R.cells) (hslots : slots + N ≤ R.slots) (hdg : decode cc pc = .ok (.newarray .int, 2))
    (kk : ∀ (q : Nat) (H1 : Heap), va_P D vwCl (ws ++ [(q, .inl (t.1, N, .inl (fun _ => 0)))]) H1 → va_D A (ws ++ [(q, .inl (t.1, N, .inl (fun _ => 0)))]) → va_S A H0 H1 locs → W p l e R s m args below meth c H1 locs (cells + 1) (slots + N) Q (F0 m (pc + 2) ls (.ref q :: rest))) : W p l e R s m args below meth c H locs cells slots Q (F0 m pc ls (.int n :: rest)) := by
  refine va_newa (atype := .int) (a0 := (N, .inl (fun _ => 0))) hx hb (hts _ k_44) rfl hK hP hD hS hA (fun cA => rfl) hn hN hbytes hcells hslots hdg (fun q cA H1 hK2 hP2 hD2 hS2 => ?_)
  have e1 : va_RA s cA .int := (hK2.2 4 (cA, .int) rfl).2
  have e2 : va_RA s t.1 .int := (hK.2 0 (t.1, .int) rfl).2
  have e3 : cA = t.1 := Option.some.inj (e1.symm.trans e2)
  subst e3
  exact kk q H1 hP2 hD2 hS2
theorem gc_newl (hx : p.tables.exec = Jvm.exec) (hb : c.code = cc) (hts : ∀ w ∈ lw_tb, w.before args s = true) (hK : va_K D vwCl (gTy t) s) {ws : va_W} {A : Nat → Prop} {H0 : Heap} (hP : va_P D vwCl ws H) (hD : va_D A ws) (hS : va_S A H0 H locs) (hA : ∀ q, H0.size ≤ q → A q) {n : Int32} (N : Nat) (hn : ¬ n < 0) (hN : n.toNatClampNeg = N) (hbytes : N * componentBytes .long ≤ 536870912) (hcells : cells + 1 ≤ R.cells) (hslots : slots + N ≤ R.slots) (hdg : decode cc pc = .ok (.newarray .long, 2))
    (kk : ∀ (q : Nat) (H1 : Heap), va_P D vwCl (ws ++ [(q, .inl (t.2.1, N, .inr (.inl (fun _ => 0))))]) H1 → va_D A (ws ++ [(q, .inl (t.2.1, N, .inr (.inl (fun _ => 0))))]) → va_S A H0 H1 locs → W p l e R s m args below meth c H1 locs (cells + 1) (slots + N) Q (F0 m (pc + 2) ls (.ref q :: rest))) : W p l e R s m args below meth c H locs cells slots Q (F0 m pc ls (.int n :: rest)) := by
  refine va_newa (atype := .long) (a0 := (N, .inr (.inl (fun _ => 0)))) hx hb (hts _ k_260) rfl hK hP hD hS hA (fun cA => rfl) hn hN hbytes hcells hslots hdg (fun q cA H1 hK2 hP2 hD2 hS2 => ?_)
  have e1 : va_RA s cA .long := (hK2.2 4 (cA, .long) rfl).2
  have e2 : va_RA s t.2.1 .long := (hK.2 1 (t.2.1, .long) rfl).2
  have e3 : cA = t.2.1 := Option.some.inj (e1.symm.trans e2)
  subst e3
  exact kk q H1 hP2 hD2 hS2
theorem gc_newz (hx : p.tables.exec = Jvm.exec) (hb : c.code = cc) (hts : ∀ w ∈ lw_tb, w.before args s = true) (hK : va_K D vwCl (gTy t) s) {ws : va_W} {A : Nat → Prop} {H0 : Heap} (hP : va_P D vwCl ws H) (hD : va_D A ws) (hS : va_S A H0 H locs) (hA : ∀ q, H0.size ≤ q → A q) {n : Int32} (N : Nat) (hn : ¬ n < 0) (hN : n.toNatClampNeg = N) (hbytes : N * componentBytes .boolean ≤ 536870912) (hcells : cells + 1 ≤ R.cells) (hslots : slots + N ≤ R.slots) (hdg : decode cc pc = .ok (.newarray .boolean, 2))
    (kk : ∀ (q : Nat) (H1 : Heap), va_P D vwCl (ws ++ [(q, .inl (t.2.2.1, N, .inl (fun _ => 0)))]) H1 → va_D A (ws ++ [(q, .inl (t.2.2.1, N, .inl (fun _ => 0)))]) → va_S A H0 H1 locs → W p l e R s m args below meth c H1 locs (cells + 1) (slots + N) Q (F0 m (pc + 2) ls (.ref q :: rest))) : W p l e R s m args below meth c H locs cells slots Q (F0 m pc ls (.int n :: rest)) := by
  refine va_newa (atype := .boolean) (a0 := (N, .inl (fun _ => 0))) hx hb (hts _ k_1224) rfl hK hP hD hS hA (fun cA => rfl) hn hN hbytes hcells hslots hdg (fun q cA H1 hK2 hP2 hD2 hS2 => ?_)
  have e1 : va_RA s cA .boolean := (hK2.2 4 (cA, .boolean) rfl).2
  have e2 : va_RA s t.2.2.1 .boolean := (hK.2 2 (t.2.2.1, .boolean) rfl).2
  have e3 : cA = t.2.2.1 := Option.some.inj (e1.symm.trans e2)
  subst e3
  exact kk q H1 hP2 hD2 hS2
theorem gc_newq (hx : p.tables.exec = Jvm.exec) (hb : c.code = cc) {own : String} {index : Nat} (hown : s.vm.findClass own = some m.cls) (hcl : (Cond.classLink own index "NineKeysRound$Shelf").before args s = true) (hO : va_AO "NineKeysRound$Shelf" s) (hK : va_K D vwCl (gTy t) s) {ws : va_W} {A : Nat → Prop} {H0 : Heap} (hP : va_P D vwCl ws H) (hD : va_D A ws) (hS : va_S A H0 H locs) (hA : ∀ q, H0.size ≤ q → A q) {n : Int32} (N : Nat) (hn : ¬ n < 0) (hN : n.toNatClampNeg = N) (hbytes : N * 4 ≤ 536870912) (hcells : cells + 1 ≤ R.cells) (hslots : slots + N ≤ R.slots) (hdg : decode cc pc = .ok (.anewarray index, 3))
    (kk : ∀ (q : Nat) (H1 : Heap), va_P D vwCl (ws ++ [(q, .inl (t.2.2.2, N, .inr (.inr (.inr (.inr (fun _ => none))))))]) H1 → va_D A (ws ++ [(q, .inl (t.2.2.2, N, .inr (.inr (.inr (.inr (fun _ => none))))))]) → va_S A H0 H1 locs → W p l e R s m args below meth c H1 locs (cells + 1) (slots + N) Q (F0 m (pc + 3) ls (.ref q :: rest))) : W p l e R s m args below meth c H locs cells slots Q (F0 m pc ls (.int n :: rest)) := by
  refine va_newq hx hb hown hcl hO hK hP hD hS hA hn hN hbytes hcells hslots hdg (fun q cA H1 hK2 hP2 hD2 hS2 => ?_)
  obtain ⟨_, _, _, _, _, e1⟩ := (hK2.2 4 (cA, .object "NineKeysRound$Shelf") rfl).2
  obtain ⟨_, _, _, _, _, e2⟩ := (hK.2 3 (t.2.2.2, .object "NineKeysRound$Shelf") rfl).2
  have e3 : cA = t.2.2.2 := Option.some.inj (e1.symm.trans e2)
  subst e3
  exact kk q H1 hP2 hD2 hS2
end CL
theorem vP_rot {D : va_G} {cl : List vw_C} {ws : va_W} {x : Nat × va_E} {H : Heap} (h : va_P D cl (ws ++ [x]) H) : va_P D cl (x :: ws) H := by
  intro k q hq
  have hm : q ∈ ws ++ [x] := by
    rcases List.mem_cons.mp (List.mem_of_getElem? hq) with e | e
    · exact List.mem_append_right _ (by rw [e]; exact List.mem_singleton.mpr rfl)
    · exact List.mem_append_left _ e
  obtain ⟨i, hi⟩ := List.getElem?_of_mem hm
  exact h i q hi
theorem vP_mv {D : va_G} {cl : List vw_C} {a b w : va_W} {H : Heap} (h : va_P D cl (a ++ (b ++ w)) H) : va_P D cl (b ++ (a ++ w)) H := by
  intro k q hq
  have hm : q ∈ a ++ (b ++ w) := by
    rcases List.mem_append.mp (List.mem_of_getElem? hq) with e | e
    · exact List.mem_append_right _ (List.mem_append_left _ e)
    · rcases List.mem_append.mp e with e | e
      · exact List.mem_append_left _ e
      · exact List.mem_append_right _ (List.mem_append_right _ e)
  obtain ⟨i, hi⟩ := List.getElem?_of_mem hm
  exact h i q hi
theorem vD_iff {A : Nat → Prop} {ws : va_W} : va_D A ws ↔ (ws.map (fun q => q.1)).Nodup ∧ ∀ q ∈ ws, A q.1 := by
  constructor
  · intro h
    refine ⟨?_, fun q hq => ?_⟩
    · rw [List.nodup_iff_pairwise_ne, List.pairwise_iff_getElem]
      intro i j hi hj hij e
      rw [List.getElem_map, List.getElem_map] at e
      rw [List.length_map] at hi hj
      have := h.1 i j _ _ (List.getElem?_eq_getElem hi) (List.getElem?_eq_getElem hj) e
      omega
    · obtain ⟨k, hk⟩ := List.getElem?_of_mem hq
      exact h.2 k q hk
  · intro h
    refine ⟨fun i j pp qq hp hq e => ?_, fun k q hk => h.2 q (List.mem_of_getElem? hk)⟩
    obtain ⟨hi, rfl⟩ := List.getElem?_eq_some_iff.mp hp
    obtain ⟨hj, rfl⟩ := List.getElem?_eq_some_iff.mp hq
    have hn := h.1
    rw [List.nodup_iff_pairwise_ne, List.pairwise_iff_getElem] at hn
    rcases Nat.lt_trichotomy i j with q | q | q
    · exact absurd (by rw [List.getElem_map, List.getElem_map]; exact e) (hn i j (by rw [List.length_map]; exact hi) (by rw [List.length_map]; exact hj) q)
    · exact q
    · exact absurd (by rw [List.getElem_map, List.getElem_map]; exact e.symm) (hn j i (by rw [List.length_map]; exact hj) (by rw [List.length_map]; exact hi) q)
theorem vD_perm {A : Nat → Prop} {ws ws2 : va_W} (hp : ws.Perm ws2) (h : va_D A ws) : va_D A ws2 := by
  rw [vD_iff] at h ⊢
  exact ⟨(hp.map _).nodup_iff.mp h.1, fun q hq => h.2 q (hp.mem_iff.mpr hq)⟩
theorem vD_rot {A : Nat → Prop} {ws : va_W} {x : Nat × va_E} (h : va_D A (ws ++ [x])) : va_D A (x :: ws) := vD_perm List.perm_append_comm h
theorem vD_mv {A : Nat → Prop} {a b w : va_W} (h : va_D A (a ++ (b ++ w))) : va_D A (b ++ (a ++ w)) := by
  refine vD_perm ?_ h
  rw [← List.append_assoc, ← List.append_assoc]
  exact List.perm_append_comm.append_right w
/-- behind a call whose world was the first cell -/
theorem va_join1 {A0 : Nat → Prop} {D : va_G} {cl : List vw_C} {x : Nat × va_E} {ws w1 : va_W} {H H1 : Heap} (hP : va_P D cl (x :: ws) H) (hD : va_D A0 (x :: ws)) (hk : ∀ q : Nat, q < H.size → ¬ va_A [x] H.size q → H1[q]? = H[q]?) (hF : ∀ q, va_A [x] H.size q → A0 q) (hP1 : va_P D cl w1 H1) (hD1 : va_D (va_A [x] H.size) w1) : va_P D cl (w1 ++ ws) H1 ∧ va_D A0 (w1 ++ ws) := by
  have apart : ∀ (k : Nat) (q : Nat × va_E), ws[k]? = some q → q.1 < H.size ∧ ¬ va_A [x] H.size q.1 := by
    intro k q hq
    have hl := (hP (k + 1) q (by simpa using hq)).lt
    refine ⟨hl, fun h => ?_⟩
    rcases h with ⟨k2, e, h⟩ | h
    · have hk2 : k2 = 0 := by
        have := (List.getElem?_eq_some_iff.mp h).1
        simp at this
        exact this
      subst hk2
      have h3 : x = (q.1, e) := by simpa using h
      have := hD.1 (k + 1) 0 q x (by simpa using hq) (by simp) (by rw [h3])
      omega
    · omega
  refine ⟨va_P.app hP1 (fun k q hq => ?_), va_D.app (hD1.weaken (fun k q _ h => hF q.1 h)) ?_ (fun i j pp qq hp hq e => ?_)⟩
  · obtain ⟨g1, g2⟩ := apart k q hq
    exact (hP (k + 1) q (by simpa using hq)).kept (hk q.1 g1 g2)
  · have h := vD_iff.mp hD
    exact vD_iff.mpr ⟨(List.nodup_cons.mp (by simpa using h.1)).2, fun q hq => h.2 q (List.mem_cons_of_mem _ hq)⟩
  · exact (apart j qq hq).2 (by rw [← e]; exact hD1.2 i pp hp)
theorem vd_one {h0 sz : Nat} {e0 : va_E} : va_D (va_A [(h0, e0)] sz) [(h0, e0)] := by
  refine ⟨fun i j pp qq hp hq _ => ?_, fun k qq hk => va_A.in hk⟩
  have h1 : i < 1 := (List.getElem?_eq_some_iff.mp hp).1
  have h2 : j < 1 := (List.getElem?_eq_some_iff.mp hq).1
  omega
/-- a constructor's start: one blank cell, and what else it needs of the tables -/
def gPn (D : va_G) (t : gT) (vs : List Value) (h0 : Nat) (e0 : va_E) (sz : Nat) (X : State → Prop) : Array Value → State → Prop := va_Pc vs (fun U => U.heap.size = sz ∧ va_P D vwCl [(h0, e0)] U.heap ∧ va_K D vwCl (gTy t) U ∧ X U)
theorem gPn_blind {D : va_G} {t : gT} {vs : List Value} {h0 : Nat} {e0 : va_E} {sz : Nat} {X : State → Prop} (hX : ∀ (a : Array Value) (U : State) (g : JFrame) (mk : MethodId), X U → X (U.calling g mk a)) : FrameBlind (gPn D t vs h0 e0 sz X) := by
  intro a U g mk hq
  obtain ⟨q0, q1, qP, qK, qX⟩ := hq
  exact ⟨q0, q1, qP, va_K.moved (u := U) (U := U.calling g mk a) (Vm.Alike.refl U.vm) qK, hX a U g mk qX⟩
def gQn (D : va_G) (post : (Nat → Nat) → Prop) (L : (Nat → Nat) → va_W) (A : Nat → Prop) := va_Qv post (fun u U => va_P D vwCl (L u) U.heap ∧ va_D A (L u)) A
theorem gMetC {l : Launch} {y : MethodName} {cc : ByteArray} {maxL mc ms : Nat} {rm : Room} {t : gT} {D : va_G} {vs : List Value} {h0 sz : Nat} {e0 : va_E} {X : State → Prop} {Qc : Array Value → State → Outcome → State → Prop} (own : String) (ho : y.cls = own) (hy : plainName y.cls = true) (hi : y.name = "<init>") (hn : (lg_sl vs).length ≤ maxL)
    (body : ∀ p e s m below meth c ls, p.tables.exec = Jvm.exec → c.code = cc → c.maxLocals = maxL → s.vm.findClass own = some m.cls → (∀ w ∈ lw_tb, w.before vs.toArray s = true) → va_K D vwCl (gTy t) s → meth.sig.returnType = none → meth.locks = false → meth.name = "<init>" → s.heap.size = sz → va_P D vwCl [(h0, e0)] s.heap → X s → lv_has ls maxL (lv_args 0 vs) → W p l e rm s m vs.toArray below meth c s.heap [] 0 0 (MQ below Qc vs.toArray s mc ms (va_A [(h0, e0)] sz)) (F0 m 0 ls [])) : Met l y (Cond.code y cc maxL none :: lw_tb) rm (gPn D t vs h0 e0 sz X) Qc mc ms (va_A [(h0, e0)] sz) := by
  refine Met.ofW (cc := cc) (maxL := maxL) (ret := none) hy rfl ?_
  intro p e s m args below meth c s₁ B hml hv
  obtain ⟨rfl, hsz, hP, hK, hX⟩ := hv
  have hts := atoms_spec (ws := Cond.code y cc maxL none :: lw_tb) B.pre
  have hown : s.vm.findClass own = some m.cls := ho ▸ findClass_of_methodNamed B.named
  have hin : meth.name = "<init>" := hi ▸ (name_of_methodNamed B.named B.method).1
  have hl := lv_entry vs (n := maxL) hn
  rw [lg_entry_eq]
  exact body p e s m below meth c _ B.exec B.bytes hml hown (fun w hw => hts w (List.mem_cons_of_mem _ hw)) hK B.returns B.notSynchronized hin hsz hP hX hl
set_option maxRecDepth 100000 in
set_option maxHeartbeats 4000000 in
theorem n_X8_init (l : Launch) (D : va_G) (t : gT) (h0 sz : Nat) : Met l yX8_init (Cond.code yX8_init cX8_init 1 none :: lw_tb) { frames := 1, cells := 1, slots := 40, locals := 60 } (gPn D t [.ref h0] h0 (.inr (8, [.null, .int 0])) sz (fun _ => True)) (gQn D (fun _ => True) (fun u => [(h0, .inr (8, [.ref (u 0), .int 0])), ((u 0), .inl (t.1, 40, .inl (upd (upd (fun _ => 0) 38 1) 39 1)))]) (va_A [(h0, .inr (8, [.null, .int 0]))] sz)) 1 40 (va_A [(h0, .inr (8, [.null, .int 0]))] sz) := by
  refine gMetC "NineKeysRound$Yard" rfl (by decide) rfl (Nat.le_of_ble_eq_true rfl) ?_
  intro p e s m below meth c ls hx hb hml hown hts hK hr hlocks hin hsz hP hX hl
  subst hsz
  have hD := vd_one (h0 := h0) (e0 := .inr (8, [.null, .int 0])) (sz := s.heap.size)
  generalize hAe : va_A [(h0, .inr (8, [.null, .int 0]))] s.heap.size = A at hD ⊢
  have hA : ∀ q : Nat, s.heap.size ≤ q → A q := fun q h => by rw [← hAe]; exact Or.inr h
  have hS : va_S A s.heap s.heap [] := va_S.rf
  have hl : lv_has ls 1 [(0, .ref h0)] := hl
  refine lv_aload_n hx hb dX8_init_0 rfl (lv_at hl 0 rfl) ?_
  refine W.objInit hx hb hown (hts _ k_33) (hts _ k_26) (hts _ k_27) rfl (by rw [hml]; exact hl.1) rfl dX8_init_1 (Nat.le_of_ble_eq_true rfl) (Nat.le_of_ble_eq_true rfl) ?_
  refine W.eq (g2 := F0 m 4 ls []) rfl ?_
  refine lv_aload_n hx hb dX8_init_4 rfl (lv_at hl 0 rfl) ?_
  refine lv_bipush hx hb dX8_init_5 cb_40 ?_
  refine gc_newi hx hb hts hK hP hD hS hA 40 (by decide) (by decide) (by decide) (Nat.le_of_ble_eq_true rfl) (Nat.le_of_ble_eq_true rfl) dX8_init_7 (fun q7_1 H hP hD hS => ?_)
  have hP : va_P D vwCl [(h0, .inr (8, [.null, .int 0])), (q7_1, .inl (t.1, 40, .inl (fun _ => 0)))] H := hP
  have hD : va_D A [(h0, .inr (8, [.null, .int 0])), (q7_1, .inl (t.1, 40, .inl (fun _ => 0)))] := hD
  refine W.widen (k := 1) (n := 40) (Nat.le_of_ble_eq_true rfl) (Nat.le_of_ble_eq_true rfl) ?_
  refine va_putF (D := D) (ci := 8) (v := .ref q7_1) (ty := .array .int) (C := RX8) (T := TX8) (N := 2) hx hb hts inX8 tyX8 tyX8_ok nmX8 hown hK hP hD hS 0 rfl rfl 0 (by decide) (hts _ k_34) (fun _ h9 => h9) rfl hin rfl rfl rfl rfl (Nat.le_of_ble_eq_true rfl) dX8_init_9 (fun H locs hP hD hS => ?_)
  have hP : va_P D vwCl [(h0, .inr (8, [.ref q7_1, .int 0])), (q7_1, .inl (t.1, 40, .inl (fun _ => 0)))] H := hP
  have hD : va_D A [(h0, .inr (8, [.ref q7_1, .int 0])), (q7_1, .inl (t.1, 40, .inl (fun _ => 0)))] := hD
  refine lv_aload_n hx hb dX8_init_12 rfl (lv_at hl 0 rfl) ?_
  refine va_get (D := D) (ci := 8) (v := .ref q7_1) (C := RX8) (T := TX8) (N := 2) hx hb hts inX8 hown hK hP 0 rfl rfl 0 (by decide) (hts _ k_34) (fun _ h9 => h9) rfl dX8_init_13 ?_
  refine lv_bipush hx hb dX8_init_16 cb_38 ?_
  refine lv_iconst hx hb dX8_init_18 ci_1 ?_
  refine va_iast hx hb hK hP hD hS 1 0 rfl rfl (vp_in_iff.mpr (by decide)) dX8_init_19 (fun H locs hP hD hS => ?_)
  have hP : va_P D vwCl [(h0, .inr (8, [.ref q7_1, .int 0])), (q7_1, .inl (t.1, 40, .inl (upd (fun _ => 0) 38 1)))] H := hP
  have hD : va_D A [(h0, .inr (8, [.ref q7_1, .int 0])), (q7_1, .inl (t.1, 40, .inl (upd (fun _ => 0) 38 1)))] := hD
  refine lv_aload_n hx hb dX8_init_20 rfl (lv_at hl 0 rfl) ?_
  refine va_get (D := D) (ci := 8) (v := .ref q7_1) (C := RX8) (T := TX8) (N := 2) hx hb hts inX8 hown hK hP 0 rfl rfl 0 (by decide) (hts _ k_34) (fun _ h9 => h9) rfl dX8_init_21 ?_
  refine lv_bipush hx hb dX8_init_24 cb_39 ?_
  refine lv_iconst hx hb dX8_init_26 ci_1 ?_
  refine va_iast hx hb hK hP hD hS 1 0 rfl rfl (vp_in_iff.mpr (by decide)) dX8_init_27 (fun H locs hP hD hS => ?_)
  have hP : va_P D vwCl [(h0, .inr (8, [.ref q7_1, .int 0])), (q7_1, .inl (t.1, 40, .inl (upd (upd (fun _ => 0) 38 1) 39 1)))] H := hP
  have hD : va_D A [(h0, .inr (8, [.ref q7_1, .int 0])), (q7_1, .inl (t.1, 40, .inl (upd (upd (fun _ => 0) 38 1) 39 1)))] := hD
  have hP9 := hP.sub (ws' := [(h0, .inr (8, [.ref q7_1, .int 0])), (q7_1, .inl (t.1, 40, .inl (upd (upd (fun _ => 0) 38 1) 39 1)))]) [0, 1] rfl
  exact W.vret hx hb hr (fun t1 ht hW => ⟨⟨(fun i => [q7_1].getD i 0), rfl, trivial, by rw [ht]; exact hP9, hD⟩, hS.F ht⟩) hS.2.2 dX8_init_28 hlocks
set_option maxRecDepth 100000 in
set_option maxHeartbeats 4000000 in
theorem n_X0_init (l : Launch) (D : va_G) (t : gT) (h0 sz : Nat) : Met l yX0_init (Cond.code yX0_init cX0_init 1 none :: lw_tb) { frames := 1, cells := 3, slots := 120, locals := 60 } (gPn D t [.ref h0] h0 (.inr (0, [.null, .null, .null, .int 0, .int 0])) sz (fun _ => True)) (gQn D (fun _ => True) (fun u => [(h0, .inr (0, [.ref (u 0), .ref (u 1), .ref (u 2), .int 0, .int 0])), ((u 0), .inl (t.1, 40, .inl (fun _ => 0))), ((u 1), .inl (t.1, 40, .inl (fun _ => 0))), ((u 2), .inl (t.1, 40, .inl (fun _ => 0)))]) (va_A [(h0, .inr (0, [.null, .null, .null, .int 0, .int 0]))] sz)) 3 120 (va_A [(h0, .inr (0, [.null, .null, .null, .int 0, .int 0]))] sz) := by
  refine gMetC "NineKeysRound$Changes" rfl (by decide) rfl (Nat.le_of_ble_eq_true rfl) ?_
  intro p e s m below meth c ls hx hb hml hown hts hK hr hlocks hin hsz hP hX hl
  subst hsz
  have hD := vd_one (h0 := h0) (e0 := .inr (0, [.null, .null, .null, .int 0, .int 0])) (sz := s.heap.size)
  generalize hAe : va_A [(h0, .inr (0, [.null, .null, .null, .int 0, .int 0]))] s.heap.size = A at hD ⊢
  have hA : ∀ q : Nat, s.heap.size ≤ q → A q := fun q h => by rw [← hAe]; exact Or.inr h
  have hS : va_S A s.heap s.heap [] := va_S.rf
  have hl : lv_has ls 1 [(0, .ref h0)] := hl
  refine lv_aload_n hx hb dX0_init_0 rfl (lv_at hl 0 rfl) ?_
  refine W.objInit hx hb hown (hts _ k_50) (hts _ k_26) (hts _ k_27) rfl (by rw [hml]; exact hl.1) rfl dX0_init_1 (Nat.le_of_ble_eq_true rfl) (Nat.le_of_ble_eq_true rfl) ?_
  refine W.eq (g2 := F0 m 4 ls []) rfl ?_
  refine lv_aload_n hx hb dX0_init_4 rfl (lv_at hl 0 rfl) ?_
  refine lv_bipush hx hb dX0_init_5 cb_40 ?_
  refine gc_newi hx hb hts hK hP hD hS hA 40 (by decide) (by decide) (by decide) (Nat.le_of_ble_eq_true rfl) (Nat.le_of_ble_eq_true rfl) dX0_init_7 (fun q7_1 H hP hD hS => ?_)
  have hP : va_P D vwCl [(h0, .inr (0, [.null, .null, .null, .int 0, .int 0])), (q7_1, .inl (t.1, 40, .inl (fun _ => 0)))] H := hP
  have hD : va_D A [(h0, .inr (0, [.null, .null, .null, .int 0, .int 0])), (q7_1, .inl (t.1, 40, .inl (fun _ => 0)))] := hD
  refine W.widen (k := 1) (n := 40) (Nat.le_of_ble_eq_true rfl) (Nat.le_of_ble_eq_true rfl) ?_
  refine va_putF (D := D) (ci := 0) (v := .ref q7_1) (ty := .array .int) (C := RX0) (T := TX0) (N := 5) hx hb hts inX0 tyX0 tyX0_ok nmX0 hown hK hP hD hS 0 rfl rfl 0 (by decide) (hts _ k_51) (fun _ h9 => h9) rfl hin rfl rfl rfl rfl (Nat.le_of_ble_eq_true rfl) dX0_init_9 (fun H locs hP hD hS => ?_)
  have hP : va_P D vwCl [(h0, .inr (0, [.ref q7_1, .null, .null, .int 0, .int 0])), (q7_1, .inl (t.1, 40, .inl (fun _ => 0)))] H := hP
  have hD : va_D A [(h0, .inr (0, [.ref q7_1, .null, .null, .int 0, .int 0])), (q7_1, .inl (t.1, 40, .inl (fun _ => 0)))] := hD
  refine lv_aload_n hx hb dX0_init_12 rfl (lv_at hl 0 rfl) ?_
  refine lv_bipush hx hb dX0_init_13 cb_40 ?_
  refine gc_newi hx hb hts hK hP hD hS hA 40 (by decide) (by decide) (by decide) (Nat.le_of_ble_eq_true rfl) (Nat.le_of_ble_eq_true rfl) dX0_init_15 (fun q15_2 H hP hD hS => ?_)
  have hP : va_P D vwCl [(h0, .inr (0, [.ref q7_1, .null, .null, .int 0, .int 0])), (q7_1, .inl (t.1, 40, .inl (fun _ => 0))), (q15_2, .inl (t.1, 40, .inl (fun _ => 0)))] H := hP
  have hD : va_D A [(h0, .inr (0, [.ref q7_1, .null, .null, .int 0, .int 0])), (q7_1, .inl (t.1, 40, .inl (fun _ => 0))), (q15_2, .inl (t.1, 40, .inl (fun _ => 0)))] := hD
  refine W.widen (k := 2) (n := 80) (Nat.le_of_ble_eq_true rfl) (Nat.le_of_ble_eq_true rfl) ?_
  refine va_putF (D := D) (ci := 0) (v := .ref q15_2) (ty := .array .int) (C := RX0) (T := TX0) (N := 5) hx hb hts inX0 tyX0 tyX0_ok nmX0 hown hK hP hD hS 0 rfl rfl 1 (by decide) (hts _ k_52) (fun _ h9 => h9) rfl hin rfl rfl rfl rfl (Nat.le_of_ble_eq_true rfl) dX0_init_17 (fun H locs hP hD hS => ?_)
  have hP : va_P D vwCl [(h0, .inr (0, [.ref q7_1, .ref q15_2, .null, .int 0, .int 0])), (q7_1, .inl (t.1, 40, .inl (fun _ => 0))), (q15_2, .inl (t.1, 40, .inl (fun _ => 0)))] H := hP
  have hD : va_D A [(h0, .inr (0, [.ref q7_1, .ref q15_2, .null, .int 0, .int 0])), (q7_1, .inl (t.1, 40, .inl (fun _ => 0))), (q15_2, .inl (t.1, 40, .inl (fun _ => 0)))] := hD
  refine lv_aload_n hx hb dX0_init_20 rfl (lv_at hl 0 rfl) ?_
  refine lv_bipush hx hb dX0_init_21 cb_40 ?_
  refine gc_newi hx hb hts hK hP hD hS hA 40 (by decide) (by decide) (by decide) (Nat.le_of_ble_eq_true rfl) (Nat.le_of_ble_eq_true rfl) dX0_init_23 (fun q23_3 H hP hD hS => ?_)
  have hP : va_P D vwCl [(h0, .inr (0, [.ref q7_1, .ref q15_2, .null, .int 0, .int 0])), (q7_1, .inl (t.1, 40, .inl (fun _ => 0))), (q15_2, .inl (t.1, 40, .inl (fun _ => 0))), (q23_3, .inl (t.1, 40, .inl (fun _ => 0)))] H := hP
  have hD : va_D A [(h0, .inr (0, [.ref q7_1, .ref q15_2, .null, .int 0, .int 0])), (q7_1, .inl (t.1, 40, .inl (fun _ => 0))), (q15_2, .inl (t.1, 40, .inl (fun _ => 0))), (q23_3, .inl (t.1, 40, .inl (fun _ => 0)))] := hD
  refine W.widen (k := 3) (n := 120) (Nat.le_of_ble_eq_true rfl) (Nat.le_of_ble_eq_true rfl) ?_
  refine va_putF (D := D) (ci := 0) (v := .ref q23_3) (ty := .array .int) (C := RX0) (T := TX0) (N := 5) hx hb hts inX0 tyX0 tyX0_ok nmX0 hown hK hP hD hS 0 rfl rfl 2 (by decide) (hts _ k_53) (fun _ h9 => h9) rfl hin rfl rfl rfl rfl (Nat.le_of_ble_eq_true rfl) dX0_init_25 (fun H locs hP hD hS => ?_)
  have hP : va_P D vwCl [(h0, .inr (0, [.ref q7_1, .ref q15_2, .ref q23_3, .int 0, .int 0])), (q7_1, .inl (t.1, 40, .inl (fun _ => 0))), (q15_2, .inl (t.1, 40, .inl (fun _ => 0))), (q23_3, .inl (t.1, 40, .inl (fun _ => 0)))] H := hP
  have hD : va_D A [(h0, .inr (0, [.ref q7_1, .ref q15_2, .ref q23_3, .int 0, .int 0])), (q7_1, .inl (t.1, 40, .inl (fun _ => 0))), (q15_2, .inl (t.1, 40, .inl (fun _ => 0))), (q23_3, .inl (t.1, 40, .inl (fun _ => 0)))] := hD
  have hP9 := hP.sub (ws' := [(h0, .inr (0, [.ref q7_1, .ref q15_2, .ref q23_3, .int 0, .int 0])), (q7_1, .inl (t.1, 40, .inl (fun _ => 0))), (q15_2, .inl (t.1, 40, .inl (fun _ => 0))), (q23_3, .inl (t.1, 40, .inl (fun _ => 0)))]) [0, 1, 2, 3] rfl
  exact W.vret hx hb hr (fun t1 ht hW => ⟨⟨(fun i => [q7_1, q15_2, q23_3].getD i 0), rfl, trivial, by rw [ht]; exact hP9, hD⟩, hS.F ht⟩) hS.2.2 dX0_init_28 hlocks
set_option maxRecDepth 100000 in
set_option maxHeartbeats 4000000 in
theorem n_X4_init (l : Launch) (D : va_G) (t : gT) (h0 sz : Nat) : Met l yX4_init (Cond.code yX4_init cX4_init 1 none :: lw_tb) { frames := 1, cells := 5, slots := 758, locals := 60 } (gPn D t [.ref h0] h0 (.inr (4, [.null, .null, .null, .null, .null, .int 0, .int 0, .int 0, .int 0, .int 0])) sz (fun _ => True)) (gQn D (fun _ => True) (fun u => [(h0, .inr (4, [.ref (u 0), .ref (u 1), .ref (u 2), .ref (u 3), .ref (u 4), .int 0, .int 0, .int 0, .int 0, .int 0])), ((u 0), .inl (t.1, 120, .inl (fun _ => 0))), ((u 1), .inl (t.1, 256, .inl (fun _ => 0))), ((u 2), .inl (t.1, 256, .inl (fun _ => 0))), ((u 3), .inl (t.1, 120, .inl (fun _ => 0))), ((u 4), .inl (t.1, 6, .inl (fun _ => 0)))]) (va_A [(h0, .inr (4, [.null, .null, .null, .null, .null, .int 0, .int 0, .int 0, .int 0, .int 0]))] sz)) 5 758 (va_A [(h0, .inr (4, [.null, .null, .null, .null, .null, .int 0, .int 0, .int 0, .int 0, .int 0]))] sz) := by
  refine gMetC "NineKeysRound$Law" rfl (by decide) rfl (Nat.le_of_ble_eq_true rfl) ?_
  intro p e s m below meth c ls hx hb hml hown hts hK hr hlocks hin hsz hP hX hl
  subst hsz
  have hD := vd_one (h0 := h0) (e0 := .inr (4, [.null, .null, .null, .null, .null, .int 0, .int 0, .int 0, .int 0, .int 0])) (sz := s.heap.size)
  generalize hAe : va_A [(h0, .inr (4, [.null, .null, .null, .null, .null, .int 0, .int 0, .int 0, .int 0, .int 0]))] s.heap.size = A at hD ⊢
  have hA : ∀ q : Nat, s.heap.size ≤ q → A q := fun q h => by rw [← hAe]; exact Or.inr h
  have hS : va_S A s.heap s.heap [] := va_S.rf
  have hl : lv_has ls 1 [(0, .ref h0)] := hl
  refine lv_aload_n hx hb dX4_init_0 rfl (lv_at hl 0 rfl) ?_
  refine W.objInit hx hb hown (hts _ k_74) (hts _ k_26) (hts _ k_27) rfl (by rw [hml]; exact hl.1) rfl dX4_init_1 (Nat.le_of_ble_eq_true rfl) (Nat.le_of_ble_eq_true rfl) ?_
  refine W.eq (g2 := F0 m 4 ls []) rfl ?_
  refine lv_aload_n hx hb dX4_init_4 rfl (lv_at hl 0 rfl) ?_
  refine lv_bipush hx hb dX4_init_5 cb_120 ?_
  refine gc_newi hx hb hts hK hP hD hS hA 120 (by decide) (by decide) (by decide) (Nat.le_of_ble_eq_true rfl) (Nat.le_of_ble_eq_true rfl) dX4_init_7 (fun q7_1 H hP hD hS => ?_)
  have hP : va_P D vwCl [(h0, .inr (4, [.null, .null, .null, .null, .null, .int 0, .int 0, .int 0, .int 0, .int 0])), (q7_1, .inl (t.1, 120, .inl (fun _ => 0)))] H := hP
  have hD : va_D A [(h0, .inr (4, [.null, .null, .null, .null, .null, .int 0, .int 0, .int 0, .int 0, .int 0])), (q7_1, .inl (t.1, 120, .inl (fun _ => 0)))] := hD
  refine W.widen (k := 1) (n := 120) (Nat.le_of_ble_eq_true rfl) (Nat.le_of_ble_eq_true rfl) ?_
  refine va_putF (D := D) (ci := 4) (v := .ref q7_1) (ty := .array .int) (C := RX4) (T := TX4) (N := 10) hx hb hts inX4 tyX4 tyX4_ok nmX4 hown hK hP hD hS 0 rfl rfl 0 (by decide) (hts _ k_75) (fun _ h9 => h9) rfl hin rfl rfl rfl rfl (Nat.le_of_ble_eq_true rfl) dX4_init_9 (fun H locs hP hD hS => ?_)
  have hP : va_P D vwCl [(h0, .inr (4, [.ref q7_1, .null, .null, .null, .null, .int 0, .int 0, .int 0, .int 0, .int 0])), (q7_1, .inl (t.1, 120, .inl (fun _ => 0)))] H := hP
  have hD : va_D A [(h0, .inr (4, [.ref q7_1, .null, .null, .null, .null, .int 0, .int 0, .int 0, .int 0, .int 0])), (q7_1, .inl (t.1, 120, .inl (fun _ => 0)))] := hD
  refine lv_aload_n hx hb dX4_init_12 rfl (lv_at hl 0 rfl) ?_
  refine lv_sipush hx hb dX4_init_13 cs_256 ?_
  refine gc_newi hx hb hts hK hP hD hS hA 256 (by decide) (by decide) (by decide) (Nat.le_of_ble_eq_true rfl) (Nat.le_of_ble_eq_true rfl) dX4_init_16 (fun q16_2 H hP hD hS => ?_)
  have hP : va_P D vwCl [(h0, .inr (4, [.ref q7_1, .null, .null, .null, .null, .int 0, .int 0, .int 0, .int 0, .int 0])), (q7_1, .inl (t.1, 120, .inl (fun _ => 0))), (q16_2, .inl (t.1, 256, .inl (fun _ => 0)))] H := hP
  have hD : va_D A [(h0, .inr (4, [.ref q7_1, .null, .null, .null, .null, .int 0, .int 0, .int 0, .int 0, .int 0])), (q7_1, .inl (t.1, 120, .inl (fun _ => 0))), (q16_2, .inl (t.1, 256, .inl (fun _ => 0)))] := hD
  refine W.widen (k := 2) (n := 376) (Nat.le_of_ble_eq_true rfl) (Nat.le_of_ble_eq_true rfl) ?_
  refine va_putF (D := D) (ci := 4) (v := .ref q16_2) (ty := .array .int) (C := RX4) (T := TX4) (N := 10) hx hb hts inX4 tyX4 tyX4_ok nmX4 hown hK hP hD hS 0 rfl rfl 1 (by decide) (hts _ k_76) (fun _ h9 => h9) rfl hin rfl rfl rfl rfl (Nat.le_of_ble_eq_true rfl) dX4_init_18 (fun H locs hP hD hS => ?_)
  have hP : va_P D vwCl [(h0, .inr (4, [.ref q7_1, .ref q16_2, .null, .null, .null, .int 0, .int 0, .int 0, .int 0, .int 0])), (q7_1, .inl (t.1, 120, .inl (fun _ => 0))), (q16_2, .inl (t.1, 256, .inl (fun _ => 0)))] H := hP
  have hD : va_D A [(h0, .inr (4, [.ref q7_1, .ref q16_2, .null, .null, .null, .int 0, .int 0, .int 0, .int 0, .int 0])), (q7_1, .inl (t.1, 120, .inl (fun _ => 0))), (q16_2, .inl (t.1, 256, .inl (fun _ => 0)))] := hD
  refine lv_aload_n hx hb dX4_init_21 rfl (lv_at hl 0 rfl) ?_
  refine lv_sipush hx hb dX4_init_22 cs_256 ?_
  refine gc_newi hx hb hts hK hP hD hS hA 256 (by decide) (by decide) (by decide) (Nat.le_of_ble_eq_true rfl) (Nat.le_of_ble_eq_true rfl) dX4_init_25 (fun q25_3 H hP hD hS => ?_)
  have hP : va_P D vwCl [(h0, .inr (4, [.ref q7_1, .ref q16_2, .null, .null, .null, .int 0, .int 0, .int 0, .int 0, .int 0])), (q7_1, .inl (t.1, 120, .inl (fun _ => 0))), (q16_2, .inl (t.1, 256, .inl (fun _ => 0))), (q25_3, .inl (t.1, 256, .inl (fun _ => 0)))] H := hP
  have hD : va_D A [(h0, .inr (4, [.ref q7_1, .ref q16_2, .null, .null, .null, .int 0, .int 0, .int 0, .int 0, .int 0])), (q7_1, .inl (t.1, 120, .inl (fun _ => 0))), (q16_2, .inl (t.1, 256, .inl (fun _ => 0))), (q25_3, .inl (t.1, 256, .inl (fun _ => 0)))] := hD
  refine W.widen (k := 3) (n := 632) (Nat.le_of_ble_eq_true rfl) (Nat.le_of_ble_eq_true rfl) ?_
  refine va_putF (D := D) (ci := 4) (v := .ref q25_3) (ty := .array .int) (C := RX4) (T := TX4) (N := 10) hx hb hts inX4 tyX4 tyX4_ok nmX4 hown hK hP hD hS 0 rfl rfl 2 (by decide) (hts _ k_77) (fun _ h9 => h9) rfl hin rfl rfl rfl rfl (Nat.le_of_ble_eq_true rfl) dX4_init_27 (fun H locs hP hD hS => ?_)
  have hP : va_P D vwCl [(h0, .inr (4, [.ref q7_1, .ref q16_2, .ref q25_3, .null, .null, .int 0, .int 0, .int 0, .int 0, .int 0])), (q7_1, .inl (t.1, 120, .inl (fun _ => 0))), (q16_2, .inl (t.1, 256, .inl (fun _ => 0))), (q25_3, .inl (t.1, 256, .inl (fun _ => 0)))] H := hP
  have hD : va_D A [(h0, .inr (4, [.ref q7_1, .ref q16_2, .ref q25_3, .null, .null, .int 0, .int 0, .int 0, .int 0, .int 0])), (q7_1, .inl (t.1, 120, .inl (fun _ => 0))), (q16_2, .inl (t.1, 256, .inl (fun _ => 0))), (q25_3, .inl (t.1, 256, .inl (fun _ => 0)))] := hD
  refine lv_aload_n hx hb dX4_init_30 rfl (lv_at hl 0 rfl) ?_
  refine lv_bipush hx hb dX4_init_31 cb_120 ?_
  refine gc_newi hx hb hts hK hP hD hS hA 120 (by decide) (by decide) (by decide) (Nat.le_of_ble_eq_true rfl) (Nat.le_of_ble_eq_true rfl) dX4_init_33 (fun q33_4 H hP hD hS => ?_)
  have hP : va_P D vwCl [(h0, .inr (4, [.ref q7_1, .ref q16_2, .ref q25_3, .null, .null, .int 0, .int 0, .int 0, .int 0, .int 0])), (q7_1, .inl (t.1, 120, .inl (fun _ => 0))), (q16_2, .inl (t.1, 256, .inl (fun _ => 0))), (q25_3, .inl (t.1, 256, .inl (fun _ => 0))), (q33_4, .inl (t.1, 120, .inl (fun _ => 0)))] H := hP
  have hD : va_D A [(h0, .inr (4, [.ref q7_1, .ref q16_2, .ref q25_3, .null, .null, .int 0, .int 0, .int 0, .int 0, .int 0])), (q7_1, .inl (t.1, 120, .inl (fun _ => 0))), (q16_2, .inl (t.1, 256, .inl (fun _ => 0))), (q25_3, .inl (t.1, 256, .inl (fun _ => 0))), (q33_4, .inl (t.1, 120, .inl (fun _ => 0)))] := hD
  refine W.widen (k := 4) (n := 752) (Nat.le_of_ble_eq_true rfl) (Nat.le_of_ble_eq_true rfl) ?_
  refine va_putF (D := D) (ci := 4) (v := .ref q33_4) (ty := .array .int) (C := RX4) (T := TX4) (N := 10) hx hb hts inX4 tyX4 tyX4_ok nmX4 hown hK hP hD hS 0 rfl rfl 3 (by decide) (hts _ k_78) (fun _ h9 => h9) rfl hin rfl rfl rfl rfl (Nat.le_of_ble_eq_true rfl) dX4_init_35 (fun H locs hP hD hS => ?_)
  have hP : va_P D vwCl [(h0, .inr (4, [.ref q7_1, .ref q16_2, .ref q25_3, .ref q33_4, .null, .int 0, .int 0, .int 0, .int 0, .int 0])), (q7_1, .inl (t.1, 120, .inl (fun _ => 0))), (q16_2, .inl (t.1, 256, .inl (fun _ => 0))), (q25_3, .inl (t.1, 256, .inl (fun _ => 0))), (q33_4, .inl (t.1, 120, .inl (fun _ => 0)))] H := hP
  have hD : va_D A [(h0, .inr (4, [.ref q7_1, .ref q16_2, .ref q25_3, .ref q33_4, .null, .int 0, .int 0, .int 0, .int 0, .int 0])), (q7_1, .inl (t.1, 120, .inl (fun _ => 0))), (q16_2, .inl (t.1, 256, .inl (fun _ => 0))), (q25_3, .inl (t.1, 256, .inl (fun _ => 0))), (q33_4, .inl (t.1, 120, .inl (fun _ => 0)))] := hD
  refine lv_aload_n hx hb dX4_init_38 rfl (lv_at hl 0 rfl) ?_
  refine lv_bipush hx hb dX4_init_39 cb_6 ?_
  refine gc_newi hx hb hts hK hP hD hS hA 6 (by decide) (by decide) (by decide) (Nat.le_of_ble_eq_true rfl) (Nat.le_of_ble_eq_true rfl) dX4_init_41 (fun q41_5 H hP hD hS => ?_)
  have hP : va_P D vwCl [(h0, .inr (4, [.ref q7_1, .ref q16_2, .ref q25_3, .ref q33_4, .null, .int 0, .int 0, .int 0, .int 0, .int 0])), (q7_1, .inl (t.1, 120, .inl (fun _ => 0))), (q16_2, .inl (t.1, 256, .inl (fun _ => 0))), (q25_3, .inl (t.1, 256, .inl (fun _ => 0))), (q33_4, .inl (t.1, 120, .inl (fun _ => 0))), (q41_5, .inl (t.1, 6, .inl (fun _ => 0)))] H := hP
  have hD : va_D A [(h0, .inr (4, [.ref q7_1, .ref q16_2, .ref q25_3, .ref q33_4, .null, .int 0, .int 0, .int 0, .int 0, .int 0])), (q7_1, .inl (t.1, 120, .inl (fun _ => 0))), (q16_2, .inl (t.1, 256, .inl (fun _ => 0))), (q25_3, .inl (t.1, 256, .inl (fun _ => 0))), (q33_4, .inl (t.1, 120, .inl (fun _ => 0))), (q41_5, .inl (t.1, 6, .inl (fun _ => 0)))] := hD
  refine W.widen (k := 5) (n := 758) (Nat.le_of_ble_eq_true rfl) (Nat.le_of_ble_eq_true rfl) ?_
  refine va_putF (D := D) (ci := 4) (v := .ref q41_5) (ty := .array .int) (C := RX4) (T := TX4) (N := 10) hx hb hts inX4 tyX4 tyX4_ok nmX4 hown hK hP hD hS 0 rfl rfl 4 (by decide) (hts _ k_79) (fun _ h9 => h9) rfl hin rfl rfl rfl rfl (Nat.le_of_ble_eq_true rfl) dX4_init_43 (fun H locs hP hD hS => ?_)
  have hP : va_P D vwCl [(h0, .inr (4, [.ref q7_1, .ref q16_2, .ref q25_3, .ref q33_4, .ref q41_5, .int 0, .int 0, .int 0, .int 0, .int 0])), (q7_1, .inl (t.1, 120, .inl (fun _ => 0))), (q16_2, .inl (t.1, 256, .inl (fun _ => 0))), (q25_3, .inl (t.1, 256, .inl (fun _ => 0))), (q33_4, .inl (t.1, 120, .inl (fun _ => 0))), (q41_5, .inl (t.1, 6, .inl (fun _ => 0)))] H := hP
  have hD : va_D A [(h0, .inr (4, [.ref q7_1, .ref q16_2, .ref q25_3, .ref q33_4, .ref q41_5, .int 0, .int 0, .int 0, .int 0, .int 0])), (q7_1, .inl (t.1, 120, .inl (fun _ => 0))), (q16_2, .inl (t.1, 256, .inl (fun _ => 0))), (q25_3, .inl (t.1, 256, .inl (fun _ => 0))), (q33_4, .inl (t.1, 120, .inl (fun _ => 0))), (q41_5, .inl (t.1, 6, .inl (fun _ => 0)))] := hD
  have hP9 := hP.sub (ws' := [(h0, .inr (4, [.ref q7_1, .ref q16_2, .ref q25_3, .ref q33_4, .ref q41_5, .int 0, .int 0, .int 0, .int 0, .int 0])), (q7_1, .inl (t.1, 120, .inl (fun _ => 0))), (q16_2, .inl (t.1, 256, .inl (fun _ => 0))), (q25_3, .inl (t.1, 256, .inl (fun _ => 0))), (q33_4, .inl (t.1, 120, .inl (fun _ => 0))), (q41_5, .inl (t.1, 6, .inl (fun _ => 0)))]) [0, 1, 2, 3, 4, 5] rfl
  exact W.vret hx hb hr (fun t1 ht hW => ⟨⟨(fun i => [q7_1, q16_2, q25_3, q33_4, q41_5].getD i 0), rfl, trivial, by rw [ht]; exact hP9, hD⟩, hS.F ht⟩) hS.2.2 dX4_init_46 hlocks
set_option maxRecDepth 100000 in
set_option maxHeartbeats 4000000 in
theorem n_X1_init (l : Launch) (D : va_G) (t : gT) (h0 sz : Nat) (h1 : Nat) : Met l yX1_init (Cond.code yX1_init cX1_init 2 none :: lw_tb) { frames := 1, cells := 2, slots := 40, locals := 60 } (gPn D t [.ref h0, .ref h1] h0 (.inr (1, [.null, .null, .null, .int 0, .int 0, .int 0])) sz (fun _ => True)) (gQn D (fun _ => True) (fun u => [(h0, .inr (1, [.ref h1, .ref (u 0), .ref (u 1), .int 0, .int 0, .int 0])), ((u 0), .inl (t.1, 20, .inl (fun _ => 0))), ((u 1), .inl (t.1, 20, .inl (fun _ => 0)))]) (va_A [(h0, .inr (1, [.null, .null, .null, .int 0, .int 0, .int 0]))] sz)) 2 40 (va_A [(h0, .inr (1, [.null, .null, .null, .int 0, .int 0, .int 0]))] sz) := by
  refine gMetC "NineKeysRound$Course" rfl (by decide) rfl (Nat.le_of_ble_eq_true rfl) ?_
  intro p e s m below meth c ls hx hb hml hown hts hK hr hlocks hin hsz hP hX hl
  subst hsz
  have hD := vd_one (h0 := h0) (e0 := .inr (1, [.null, .null, .null, .int 0, .int 0, .int 0])) (sz := s.heap.size)
  generalize hAe : va_A [(h0, .inr (1, [.null, .null, .null, .int 0, .int 0, .int 0]))] s.heap.size = A at hD ⊢
  have hA : ∀ q : Nat, s.heap.size ≤ q → A q := fun q h => by rw [← hAe]; exact Or.inr h
  have hS : va_S A s.heap s.heap [] := va_S.rf
  have hl : lv_has ls 2 [(0, .ref h0), (1, .ref h1)] := hl
  refine lv_aload_n hx hb dX1_init_0 rfl (lv_at hl 0 rfl) ?_
  refine W.objInit hx hb hown (hts _ k_114) (hts _ k_26) (hts _ k_27) rfl (by rw [hml]; exact hl.1) rfl dX1_init_1 (Nat.le_of_ble_eq_true rfl) (Nat.le_of_ble_eq_true rfl) ?_
  refine W.eq (g2 := F0 m 4 ls []) rfl ?_
  refine lv_aload_n hx hb dX1_init_4 rfl (lv_at hl 0 rfl) ?_
  refine lv_bipush hx hb dX1_init_5 cb_20 ?_
  refine gc_newi hx hb hts hK hP hD hS hA 20 (by decide) (by decide) (by decide) (Nat.le_of_ble_eq_true rfl) (Nat.le_of_ble_eq_true rfl) dX1_init_7 (fun q7_1 H hP hD hS => ?_)
  have hP : va_P D vwCl [(h0, .inr (1, [.null, .null, .null, .int 0, .int 0, .int 0])), (q7_1, .inl (t.1, 20, .inl (fun _ => 0)))] H := hP
  have hD : va_D A [(h0, .inr (1, [.null, .null, .null, .int 0, .int 0, .int 0])), (q7_1, .inl (t.1, 20, .inl (fun _ => 0)))] := hD
  refine W.widen (k := 1) (n := 20) (Nat.le_of_ble_eq_true rfl) (Nat.le_of_ble_eq_true rfl) ?_
  refine va_putF (D := D) (ci := 1) (v := .ref q7_1) (ty := .array .int) (C := RX1) (T := TX1) (N := 6) hx hb hts inX1 tyX1 tyX1_ok nmX1 hown hK hP hD hS 0 rfl rfl 1 (by decide) (hts _ k_116) (fun _ h9 => h9) rfl hin rfl rfl rfl rfl (Nat.le_of_ble_eq_true rfl) dX1_init_9 (fun H locs hP hD hS => ?_)
  have hP : va_P D vwCl [(h0, .inr (1, [.null, .ref q7_1, .null, .int 0, .int 0, .int 0])), (q7_1, .inl (t.1, 20, .inl (fun _ => 0)))] H := hP
  have hD : va_D A [(h0, .inr (1, [.null, .ref q7_1, .null, .int 0, .int 0, .int 0])), (q7_1, .inl (t.1, 20, .inl (fun _ => 0)))] := hD
  refine lv_aload_n hx hb dX1_init_12 rfl (lv_at hl 0 rfl) ?_
  refine lv_bipush hx hb dX1_init_13 cb_20 ?_
  refine gc_newi hx hb hts hK hP hD hS hA 20 (by decide) (by decide) (by decide) (Nat.le_of_ble_eq_true rfl) (Nat.le_of_ble_eq_true rfl) dX1_init_15 (fun q15_2 H hP hD hS => ?_)
  have hP : va_P D vwCl [(h0, .inr (1, [.null, .ref q7_1, .null, .int 0, .int 0, .int 0])), (q7_1, .inl (t.1, 20, .inl (fun _ => 0))), (q15_2, .inl (t.1, 20, .inl (fun _ => 0)))] H := hP
  have hD : va_D A [(h0, .inr (1, [.null, .ref q7_1, .null, .int 0, .int 0, .int 0])), (q7_1, .inl (t.1, 20, .inl (fun _ => 0))), (q15_2, .inl (t.1, 20, .inl (fun _ => 0)))] := hD
  refine W.widen (k := 2) (n := 40) (Nat.le_of_ble_eq_true rfl) (Nat.le_of_ble_eq_true rfl) ?_
  refine va_putF (D := D) (ci := 1) (v := .ref q15_2) (ty := .array .int) (C := RX1) (T := TX1) (N := 6) hx hb hts inX1 tyX1 tyX1_ok nmX1 hown hK hP hD hS 0 rfl rfl 2 (by decide) (hts _ k_117) (fun _ h9 => h9) rfl hin rfl rfl rfl rfl (Nat.le_of_ble_eq_true rfl) dX1_init_17 (fun H locs hP hD hS => ?_)
  have hP : va_P D vwCl [(h0, .inr (1, [.null, .ref q7_1, .ref q15_2, .int 0, .int 0, .int 0])), (q7_1, .inl (t.1, 20, .inl (fun _ => 0))), (q15_2, .inl (t.1, 20, .inl (fun _ => 0)))] H := hP
  have hD : va_D A [(h0, .inr (1, [.null, .ref q7_1, .ref q15_2, .int 0, .int 0, .int 0])), (q7_1, .inl (t.1, 20, .inl (fun _ => 0))), (q15_2, .inl (t.1, 20, .inl (fun _ => 0)))] := hD
  refine lv_aload_n hx hb dX1_init_20 rfl (lv_at hl 0 rfl) ?_
  refine lv_aload_n hx hb dX1_init_21 rfl (lv_at hl 1 rfl) ?_
  refine va_putF (D := D) (ci := 1) (v := .ref h1) (ty := .object "NineKeysRound$Yard") (C := RX1) (T := TX1) (N := 6) hx hb hts inX1 tyX1 tyX1_ok nmX1 hown hK hP hD hS 0 rfl rfl 0 (by decide) (hts _ k_115) (fun _ h9 => h9) rfl hin rfl rfl rfl rfl (Nat.le_of_ble_eq_true rfl) dX1_init_22 (fun H locs hP hD hS => ?_)
  have hP : va_P D vwCl [(h0, .inr (1, [.ref h1, .ref q7_1, .ref q15_2, .int 0, .int 0, .int 0])), (q7_1, .inl (t.1, 20, .inl (fun _ => 0))), (q15_2, .inl (t.1, 20, .inl (fun _ => 0)))] H := hP
  have hD : va_D A [(h0, .inr (1, [.ref h1, .ref q7_1, .ref q15_2, .int 0, .int 0, .int 0])), (q7_1, .inl (t.1, 20, .inl (fun _ => 0))), (q15_2, .inl (t.1, 20, .inl (fun _ => 0)))] := hD
  have hP9 := hP.sub (ws' := [(h0, .inr (1, [.ref h1, .ref q7_1, .ref q15_2, .int 0, .int 0, .int 0])), (q7_1, .inl (t.1, 20, .inl (fun _ => 0))), (q15_2, .inl (t.1, 20, .inl (fun _ => 0)))]) [0, 1, 2] rfl
  exact W.vret hx hb hr (fun t1 ht hW => ⟨⟨(fun i => [q7_1, q15_2].getD i 0), rfl, trivial, by rw [ht]; exact hP9, hD⟩, hS.F ht⟩) hS.2.2 dX1_init_25 hlocks
set_option maxRecDepth 100000 in
set_option maxHeartbeats 4000000 in
theorem n_X6_init (l : Launch) (D : va_G) (t : gT) (h0 sz : Nat) : Met l yX6_init (Cond.code yX6_init cX6_init 1 none :: lw_tb) { frames := 1, cells := 1, slots := 2200, locals := 60 } (gPn D t [.ref h0] h0 (.inr (6, [.null, .int 0, .int 0])) sz (fun _ => True)) (gQn D (fun _ => True) (fun u => [(h0, .inr (6, [.ref (u 0), .int 0, .int 0])), ((u 0), .inl (t.1, 2200, .inl (fun _ => 0)))]) (va_A [(h0, .inr (6, [.null, .int 0, .int 0]))] sz)) 1 2200 (va_A [(h0, .inr (6, [.null, .int 0, .int 0]))] sz) := by
  refine gMetC "NineKeysRound$Sightings" rfl (by decide) rfl (Nat.le_of_ble_eq_true rfl) ?_
  intro p e s m below meth c ls hx hb hml hown hts hK hr hlocks hin hsz hP hX hl
  subst hsz
  have hD := vd_one (h0 := h0) (e0 := .inr (6, [.null, .int 0, .int 0])) (sz := s.heap.size)
  generalize hAe : va_A [(h0, .inr (6, [.null, .int 0, .int 0]))] s.heap.size = A at hD ⊢
  have hA : ∀ q : Nat, s.heap.size ≤ q → A q := fun q h => by rw [← hAe]; exact Or.inr h
  have hS : va_S A s.heap s.heap [] := va_S.rf
  have hl : lv_has ls 1 [(0, .ref h0)] := hl
  refine lv_aload_n hx hb dX6_init_0 rfl (lv_at hl 0 rfl) ?_
  refine W.objInit hx hb hown (hts _ k_141) (hts _ k_26) (hts _ k_27) rfl (by rw [hml]; exact hl.1) rfl dX6_init_1 (Nat.le_of_ble_eq_true rfl) (Nat.le_of_ble_eq_true rfl) ?_
  refine W.eq (g2 := F0 m 4 ls []) rfl ?_
  refine lv_aload_n hx hb dX6_init_4 rfl (lv_at hl 0 rfl) ?_
  refine lv_sipush hx hb dX6_init_5 cs_2200 ?_
  refine gc_newi hx hb hts hK hP hD hS hA 2200 (by decide) (by decide) (by decide) (Nat.le_of_ble_eq_true rfl) (Nat.le_of_ble_eq_true rfl) dX6_init_8 (fun q8_1 H hP hD hS => ?_)
  have hP : va_P D vwCl [(h0, .inr (6, [.null, .int 0, .int 0])), (q8_1, .inl (t.1, 2200, .inl (fun _ => 0)))] H := hP
  have hD : va_D A [(h0, .inr (6, [.null, .int 0, .int 0])), (q8_1, .inl (t.1, 2200, .inl (fun _ => 0)))] := hD
  refine W.widen (k := 1) (n := 2200) (Nat.le_of_ble_eq_true rfl) (Nat.le_of_ble_eq_true rfl) ?_
  refine va_putF (D := D) (ci := 6) (v := .ref q8_1) (ty := .array .int) (C := RX6) (T := TX6) (N := 3) hx hb hts inX6 tyX6 tyX6_ok nmX6 hown hK hP hD hS 0 rfl rfl 0 (by decide) (hts _ k_142) (fun _ h9 => h9) rfl hin rfl rfl rfl rfl (Nat.le_of_ble_eq_true rfl) dX6_init_10 (fun H locs hP hD hS => ?_)
  have hP : va_P D vwCl [(h0, .inr (6, [.ref q8_1, .int 0, .int 0])), (q8_1, .inl (t.1, 2200, .inl (fun _ => 0)))] H := hP
  have hD : va_D A [(h0, .inr (6, [.ref q8_1, .int 0, .int 0])), (q8_1, .inl (t.1, 2200, .inl (fun _ => 0)))] := hD
  have hP9 := hP.sub (ws' := [(h0, .inr (6, [.ref q8_1, .int 0, .int 0])), (q8_1, .inl (t.1, 2200, .inl (fun _ => 0)))]) [0, 1] rfl
  exact W.vret hx hb hr (fun t1 ht hW => ⟨⟨(fun i => [q8_1].getD i 0), rfl, trivial, by rw [ht]; exact hP9, hD⟩, hS.F ht⟩) hS.2.2 dX6_init_13 hlocks
set_option maxRecDepth 100000 in
set_option maxHeartbeats 4000000 in
theorem n_X7_init (l : Launch) (D : va_G) (t : gT) (h0 sz : Nat) (h1 : Nat) : Met l yX7_init (Cond.code yX7_init cX7_init 2 none :: lw_tb) { frames := 1, cells := 2, slots := 903, locals := 60 } (gPn D t [.ref h0, .ref h1] h0 (.inr (7, [.null, .null, .null, .int 0])) sz (fun _ => True)) (gQn D (fun _ => True) (fun u => [(h0, .inr (7, [.ref h1, .ref (u 0), .ref (u 1), .int 0])), ((u 0), .inl (t.1, 7, .inl (fun _ => 0))), ((u 1), .inl (t.1, 896, .inl (fun _ => 0)))]) (va_A [(h0, .inr (7, [.null, .null, .null, .int 0]))] sz)) 2 903 (va_A [(h0, .inr (7, [.null, .null, .null, .int 0]))] sz) := by
  refine gMetC "NineKeysRound$Tour" rfl (by decide) rfl (Nat.le_of_ble_eq_true rfl) ?_
  intro p e s m below meth c ls hx hb hml hown hts hK hr hlocks hin hsz hP hX hl
  subst hsz
  have hD := vd_one (h0 := h0) (e0 := .inr (7, [.null, .null, .null, .int 0])) (sz := s.heap.size)
  generalize hAe : va_A [(h0, .inr (7, [.null, .null, .null, .int 0]))] s.heap.size = A at hD ⊢
  have hA : ∀ q : Nat, s.heap.size ≤ q → A q := fun q h => by rw [← hAe]; exact Or.inr h
  have hS : va_S A s.heap s.heap [] := va_S.rf
  have hl : lv_has ls 2 [(0, .ref h0), (1, .ref h1)] := hl
  refine lv_aload_n hx hb dX7_init_0 rfl (lv_at hl 0 rfl) ?_
  refine W.objInit hx hb hown (hts _ k_157) (hts _ k_26) (hts _ k_27) rfl (by rw [hml]; exact hl.1) rfl dX7_init_1 (Nat.le_of_ble_eq_true rfl) (Nat.le_of_ble_eq_true rfl) ?_
  refine W.eq (g2 := F0 m 4 ls []) rfl ?_
  refine lv_aload_n hx hb dX7_init_4 rfl (lv_at hl 0 rfl) ?_
  refine lv_bipush hx hb dX7_init_5 cb_7 ?_
  refine gc_newi hx hb hts hK hP hD hS hA 7 (by decide) (by decide) (by decide) (Nat.le_of_ble_eq_true rfl) (Nat.le_of_ble_eq_true rfl) dX7_init_7 (fun q7_1 H hP hD hS => ?_)
  have hP : va_P D vwCl [(h0, .inr (7, [.null, .null, .null, .int 0])), (q7_1, .inl (t.1, 7, .inl (fun _ => 0)))] H := hP
  have hD : va_D A [(h0, .inr (7, [.null, .null, .null, .int 0])), (q7_1, .inl (t.1, 7, .inl (fun _ => 0)))] := hD
  refine W.widen (k := 1) (n := 7) (Nat.le_of_ble_eq_true rfl) (Nat.le_of_ble_eq_true rfl) ?_
  refine va_putF (D := D) (ci := 7) (v := .ref q7_1) (ty := .array .int) (C := RX7) (T := TX7) (N := 4) hx hb hts inX7 tyX7 tyX7_ok nmX7 hown hK hP hD hS 0 rfl rfl 1 (by decide) (hts _ k_159) (fun _ h9 => h9) rfl hin rfl rfl rfl rfl (Nat.le_of_ble_eq_true rfl) dX7_init_9 (fun H locs hP hD hS => ?_)
  have hP : va_P D vwCl [(h0, .inr (7, [.null, .ref q7_1, .null, .int 0])), (q7_1, .inl (t.1, 7, .inl (fun _ => 0)))] H := hP
  have hD : va_D A [(h0, .inr (7, [.null, .ref q7_1, .null, .int 0])), (q7_1, .inl (t.1, 7, .inl (fun _ => 0)))] := hD
  refine lv_aload_n hx hb dX7_init_12 rfl (lv_at hl 0 rfl) ?_
  refine lv_sipush hx hb dX7_init_13 cs_896 ?_
  refine gc_newi hx hb hts hK hP hD hS hA 896 (by decide) (by decide) (by decide) (Nat.le_of_ble_eq_true rfl) (Nat.le_of_ble_eq_true rfl) dX7_init_16 (fun q16_2 H hP hD hS => ?_)
  have hP : va_P D vwCl [(h0, .inr (7, [.null, .ref q7_1, .null, .int 0])), (q7_1, .inl (t.1, 7, .inl (fun _ => 0))), (q16_2, .inl (t.1, 896, .inl (fun _ => 0)))] H := hP
  have hD : va_D A [(h0, .inr (7, [.null, .ref q7_1, .null, .int 0])), (q7_1, .inl (t.1, 7, .inl (fun _ => 0))), (q16_2, .inl (t.1, 896, .inl (fun _ => 0)))] := hD
  refine W.widen (k := 2) (n := 903) (Nat.le_of_ble_eq_true rfl) (Nat.le_of_ble_eq_true rfl) ?_
  refine va_putF (D := D) (ci := 7) (v := .ref q16_2) (ty := .array .int) (C := RX7) (T := TX7) (N := 4) hx hb hts inX7 tyX7 tyX7_ok nmX7 hown hK hP hD hS 0 rfl rfl 2 (by decide) (hts _ k_161) (fun _ h9 => h9) rfl hin rfl rfl rfl rfl (Nat.le_of_ble_eq_true rfl) dX7_init_18 (fun H locs hP hD hS => ?_)
  have hP : va_P D vwCl [(h0, .inr (7, [.null, .ref q7_1, .ref q16_2, .int 0])), (q7_1, .inl (t.1, 7, .inl (fun _ => 0))), (q16_2, .inl (t.1, 896, .inl (fun _ => 0)))] H := hP
  have hD : va_D A [(h0, .inr (7, [.null, .ref q7_1, .ref q16_2, .int 0])), (q7_1, .inl (t.1, 7, .inl (fun _ => 0))), (q16_2, .inl (t.1, 896, .inl (fun _ => 0)))] := hD
  refine lv_aload_n hx hb dX7_init_21 rfl (lv_at hl 0 rfl) ?_
  refine lv_aload_n hx hb dX7_init_22 rfl (lv_at hl 1 rfl) ?_
  refine va_putF (D := D) (ci := 7) (v := .ref h1) (ty := .object "NineKeysRound$Yard") (C := RX7) (T := TX7) (N := 4) hx hb hts inX7 tyX7 tyX7_ok nmX7 hown hK hP hD hS 0 rfl rfl 0 (by decide) (hts _ k_158) (fun _ h9 => h9) rfl hin rfl rfl rfl rfl (Nat.le_of_ble_eq_true rfl) dX7_init_23 (fun H locs hP hD hS => ?_)
  have hP : va_P D vwCl [(h0, .inr (7, [.ref h1, .ref q7_1, .ref q16_2, .int 0])), (q7_1, .inl (t.1, 7, .inl (fun _ => 0))), (q16_2, .inl (t.1, 896, .inl (fun _ => 0)))] H := hP
  have hD : va_D A [(h0, .inr (7, [.ref h1, .ref q7_1, .ref q16_2, .int 0])), (q7_1, .inl (t.1, 7, .inl (fun _ => 0))), (q16_2, .inl (t.1, 896, .inl (fun _ => 0)))] := hD
  have hP9 := hP.sub (ws' := [(h0, .inr (7, [.ref h1, .ref q7_1, .ref q16_2, .int 0])), (q7_1, .inl (t.1, 7, .inl (fun _ => 0))), (q16_2, .inl (t.1, 896, .inl (fun _ => 0)))]) [0, 1, 2] rfl
  exact W.vret hx hb hr (fun t1 ht hW => ⟨⟨(fun i => [q7_1, q16_2].getD i 0), rfl, trivial, by rw [ht]; exact hP9, hD⟩, hS.F ht⟩) hS.2.2 dX7_init_26 hlocks
set_option maxRecDepth 100000 in
set_option maxHeartbeats 4000000 in
theorem n_X2_init (l : Launch) (D : va_G) (t : gT) (h0 sz : Nat) : Met l yX2_init (Cond.code yX2_init cX2_init 1 none :: lw_tb) { frames := 1, cells := 1, slots := 9, locals := 60 } (gPn D t [.ref h0] h0 (.inr (2, [.null, .int 0, .int 0, .int 0, .int 0, .int 0, .int 0])) sz (fun _ => True)) (gQn D (fun _ => True) (fun u => [(h0, .inr (2, [.ref (u 0), .int 9, .int 0, .int 0, .int 0, .int 0, .int 0])), ((u 0), .inl (t.1, 9, .inl (fun _ => 0)))]) (va_A [(h0, .inr (2, [.null, .int 0, .int 0, .int 0, .int 0, .int 0, .int 0]))] sz)) 1 9 (va_A [(h0, .inr (2, [.null, .int 0, .int 0, .int 0, .int 0, .int 0, .int 0]))] sz) := by
  refine gMetC "NineKeysRound$Deed" rfl (by decide) rfl (Nat.le_of_ble_eq_true rfl) ?_
  intro p e s m below meth c ls hx hb hml hown hts hK hr hlocks hin hsz hP hX hl
  subst hsz
  have hD := vd_one (h0 := h0) (e0 := .inr (2, [.null, .int 0, .int 0, .int 0, .int 0, .int 0, .int 0])) (sz := s.heap.size)
  generalize hAe : va_A [(h0, .inr (2, [.null, .int 0, .int 0, .int 0, .int 0, .int 0, .int 0]))] s.heap.size = A at hD ⊢
  have hA : ∀ q : Nat, s.heap.size ≤ q → A q := fun q h => by rw [← hAe]; exact Or.inr h
  have hS : va_S A s.heap s.heap [] := va_S.rf
  have hl : lv_has ls 1 [(0, .ref h0)] := hl
  refine lv_aload_n hx hb dX2_init_0 rfl (lv_at hl 0 rfl) ?_
  refine W.objInit hx hb hown (hts _ k_178) (hts _ k_26) (hts _ k_27) rfl (by rw [hml]; exact hl.1) rfl dX2_init_1 (Nat.le_of_ble_eq_true rfl) (Nat.le_of_ble_eq_true rfl) ?_
  refine W.eq (g2 := F0 m 4 ls []) rfl ?_
  refine lv_aload_n hx hb dX2_init_4 rfl (lv_at hl 0 rfl) ?_
  refine lv_bipush hx hb dX2_init_5 cb_9 ?_
  refine gc_newi hx hb hts hK hP hD hS hA 9 (by decide) (by decide) (by decide) (Nat.le_of_ble_eq_true rfl) (Nat.le_of_ble_eq_true rfl) dX2_init_7 (fun q7_1 H hP hD hS => ?_)
  have hP : va_P D vwCl [(h0, .inr (2, [.null, .int 0, .int 0, .int 0, .int 0, .int 0, .int 0])), (q7_1, .inl (t.1, 9, .inl (fun _ => 0)))] H := hP
  have hD : va_D A [(h0, .inr (2, [.null, .int 0, .int 0, .int 0, .int 0, .int 0, .int 0])), (q7_1, .inl (t.1, 9, .inl (fun _ => 0)))] := hD
  refine W.widen (k := 1) (n := 9) (Nat.le_of_ble_eq_true rfl) (Nat.le_of_ble_eq_true rfl) ?_
  refine va_putF (D := D) (ci := 2) (v := .ref q7_1) (ty := .array .int) (C := RX2) (T := TX2) (N := 7) hx hb hts inX2 tyX2 tyX2_ok nmX2 hown hK hP hD hS 0 rfl rfl 0 (by decide) (hts _ k_179) (fun _ h9 => h9) rfl hin rfl rfl rfl rfl (Nat.le_of_ble_eq_true rfl) dX2_init_9 (fun H locs hP hD hS => ?_)
  have hP : va_P D vwCl [(h0, .inr (2, [.ref q7_1, .int 0, .int 0, .int 0, .int 0, .int 0, .int 0])), (q7_1, .inl (t.1, 9, .inl (fun _ => 0)))] H := hP
  have hD : va_D A [(h0, .inr (2, [.ref q7_1, .int 0, .int 0, .int 0, .int 0, .int 0, .int 0])), (q7_1, .inl (t.1, 9, .inl (fun _ => 0)))] := hD
  refine lv_aload_n hx hb dX2_init_12 rfl (lv_at hl 0 rfl) ?_
  refine lv_bipush hx hb dX2_init_13 cb_9 ?_
  refine va_put (D := D) (ci := 2) (v := .int 9) (ty := .int) (C := RX2) (T := TX2) (N := 7) hx hb hts inX2 tyX2 tyX2_ok nmX2 hown hK hP hD hS 0 rfl rfl 1 (by decide) (hts _ k_181) (fun _ h9 => h9) rfl rfl rfl rfl (Nat.le_of_ble_eq_true rfl) dX2_init_15 (fun H locs hP hD hS => ?_)
  have hP : va_P D vwCl [(h0, .inr (2, [.ref q7_1, .int 9, .int 0, .int 0, .int 0, .int 0, .int 0])), (q7_1, .inl (t.1, 9, .inl (fun _ => 0)))] H := hP
  have hD : va_D A [(h0, .inr (2, [.ref q7_1, .int 9, .int 0, .int 0, .int 0, .int 0, .int 0])), (q7_1, .inl (t.1, 9, .inl (fun _ => 0)))] := hD
  have hP9 := hP.sub (ws' := [(h0, .inr (2, [.ref q7_1, .int 9, .int 0, .int 0, .int 0, .int 0, .int 0])), (q7_1, .inl (t.1, 9, .inl (fun _ => 0)))]) [0, 1] rfl
  exact W.vret hx hb hr (fun t1 ht hW => ⟨⟨(fun i => [q7_1].getD i 0), rfl, trivial, by rw [ht]; exact hP9, hD⟩, hS.F ht⟩) hS.2.2 dX2_init_18 hlocks
set_option maxRecDepth 100000 in
set_option maxHeartbeats 4000000 in
theorem n_X3_init (l : Launch) (D : va_G) (t : gT) (h0 sz : Nat) : Met l yX3_init (Cond.code yX3_init cX3_init 1 none :: lw_tb) { frames := 1, cells := 2, slots := 74, locals := 60 } (gPn D t [.ref h0] h0 (.inr (3, [.null, .null, .int 0, .int 0, .int 0])) sz (fun _ => True)) (gQn D (fun _ => True) (fun u => [(h0, .inr (3, [.ref (u 0), .ref (u 1), .int 0, .int 0, .int 0])), ((u 0), .inl (t.1, 50, .inl (fun _ => 0))), ((u 1), .inl (t.1, 24, .inl (fun _ => 0)))]) (va_A [(h0, .inr (3, [.null, .null, .int 0, .int 0, .int 0]))] sz)) 2 74 (va_A [(h0, .inr (3, [.null, .null, .int 0, .int 0, .int 0]))] sz) := by
  refine gMetC "NineKeysRound$Keys" rfl (by decide) rfl (Nat.le_of_ble_eq_true rfl) ?_
  intro p e s m below meth c ls hx hb hml hown hts hK hr hlocks hin hsz hP hX hl
  subst hsz
  have hD := vd_one (h0 := h0) (e0 := .inr (3, [.null, .null, .int 0, .int 0, .int 0])) (sz := s.heap.size)
  generalize hAe : va_A [(h0, .inr (3, [.null, .null, .int 0, .int 0, .int 0]))] s.heap.size = A at hD ⊢
  have hA : ∀ q : Nat, s.heap.size ≤ q → A q := fun q h => by rw [← hAe]; exact Or.inr h
  have hS : va_S A s.heap s.heap [] := va_S.rf
  have hl : lv_has ls 1 [(0, .ref h0)] := hl
  refine lv_aload_n hx hb dX3_init_0 rfl (lv_at hl 0 rfl) ?_
  refine W.objInit hx hb hown (hts _ k_213) (hts _ k_26) (hts _ k_27) rfl (by rw [hml]; exact hl.1) rfl dX3_init_1 (Nat.le_of_ble_eq_true rfl) (Nat.le_of_ble_eq_true rfl) ?_
  refine W.eq (g2 := F0 m 4 ls []) rfl ?_
  refine lv_aload_n hx hb dX3_init_4 rfl (lv_at hl 0 rfl) ?_
  refine lv_bipush hx hb dX3_init_5 cb_50 ?_
  refine gc_newi hx hb hts hK hP hD hS hA 50 (by decide) (by decide) (by decide) (Nat.le_of_ble_eq_true rfl) (Nat.le_of_ble_eq_true rfl) dX3_init_7 (fun q7_1 H hP hD hS => ?_)
  have hP : va_P D vwCl [(h0, .inr (3, [.null, .null, .int 0, .int 0, .int 0])), (q7_1, .inl (t.1, 50, .inl (fun _ => 0)))] H := hP
  have hD : va_D A [(h0, .inr (3, [.null, .null, .int 0, .int 0, .int 0])), (q7_1, .inl (t.1, 50, .inl (fun _ => 0)))] := hD
  refine W.widen (k := 1) (n := 50) (Nat.le_of_ble_eq_true rfl) (Nat.le_of_ble_eq_true rfl) ?_
  refine va_putF (D := D) (ci := 3) (v := .ref q7_1) (ty := .array .int) (C := RX3) (T := TX3) (N := 5) hx hb hts inX3 tyX3 tyX3_ok nmX3 hown hK hP hD hS 0 rfl rfl 0 (by decide) (hts _ k_214) (fun _ h9 => h9) rfl hin rfl rfl rfl rfl (Nat.le_of_ble_eq_true rfl) dX3_init_9 (fun H locs hP hD hS => ?_)
  have hP : va_P D vwCl [(h0, .inr (3, [.ref q7_1, .null, .int 0, .int 0, .int 0])), (q7_1, .inl (t.1, 50, .inl (fun _ => 0)))] H := hP
  have hD : va_D A [(h0, .inr (3, [.ref q7_1, .null, .int 0, .int 0, .int 0])), (q7_1, .inl (t.1, 50, .inl (fun _ => 0)))] := hD
  refine lv_aload_n hx hb dX3_init_12 rfl (lv_at hl 0 rfl) ?_
  refine lv_bipush hx hb dX3_init_13 cb_24 ?_
  refine gc_newi hx hb hts hK hP hD hS hA 24 (by decide) (by decide) (by decide) (Nat.le_of_ble_eq_true rfl) (Nat.le_of_ble_eq_true rfl) dX3_init_15 (fun q15_2 H hP hD hS => ?_)
  have hP : va_P D vwCl [(h0, .inr (3, [.ref q7_1, .null, .int 0, .int 0, .int 0])), (q7_1, .inl (t.1, 50, .inl (fun _ => 0))), (q15_2, .inl (t.1, 24, .inl (fun _ => 0)))] H := hP
  have hD : va_D A [(h0, .inr (3, [.ref q7_1, .null, .int 0, .int 0, .int 0])), (q7_1, .inl (t.1, 50, .inl (fun _ => 0))), (q15_2, .inl (t.1, 24, .inl (fun _ => 0)))] := hD
  refine W.widen (k := 2) (n := 74) (Nat.le_of_ble_eq_true rfl) (Nat.le_of_ble_eq_true rfl) ?_
  refine va_putF (D := D) (ci := 3) (v := .ref q15_2) (ty := .array .int) (C := RX3) (T := TX3) (N := 5) hx hb hts inX3 tyX3 tyX3_ok nmX3 hown hK hP hD hS 0 rfl rfl 1 (by decide) (hts _ k_215) (fun _ h9 => h9) rfl hin rfl rfl rfl rfl (Nat.le_of_ble_eq_true rfl) dX3_init_17 (fun H locs hP hD hS => ?_)
  have hP : va_P D vwCl [(h0, .inr (3, [.ref q7_1, .ref q15_2, .int 0, .int 0, .int 0])), (q7_1, .inl (t.1, 50, .inl (fun _ => 0))), (q15_2, .inl (t.1, 24, .inl (fun _ => 0)))] H := hP
  have hD : va_D A [(h0, .inr (3, [.ref q7_1, .ref q15_2, .int 0, .int 0, .int 0])), (q7_1, .inl (t.1, 50, .inl (fun _ => 0))), (q15_2, .inl (t.1, 24, .inl (fun _ => 0)))] := hD
  have hP9 := hP.sub (ws' := [(h0, .inr (3, [.ref q7_1, .ref q15_2, .int 0, .int 0, .int 0])), (q7_1, .inl (t.1, 50, .inl (fun _ => 0))), (q15_2, .inl (t.1, 24, .inl (fun _ => 0)))]) [0, 1, 2] rfl
  exact W.vret hx hb hr (fun t1 ht hW => ⟨⟨(fun i => [q7_1, q15_2].getD i 0), rfl, trivial, by rw [ht]; exact hP9, hD⟩, hS.F ht⟩) hS.2.2 dX3_init_20 hlocks
set_option maxRecDepth 100000 in
set_option maxHeartbeats 4000000 in
theorem n_X5_init (l : Launch) (D : va_G) (t : gT) (h0 sz : Nat) : Met l yX5_init (Cond.code yX5_init cX5_init 1 none :: lw_tb) { frames := 1, cells := 1, slots := 60, locals := 60 } (gPn D t [.ref h0] h0 (.inr (5, [.null, .int 0, .int 0, .int 0, .int 0])) sz (fun _ => True)) (gQn D (fun _ => True) (fun u => [(h0, .inr (5, [.ref (u 0), .int 0, .int 0, .int 0, .int 0])), ((u 0), .inl (t.2.1, 60, .inr (.inl (fun _ => 0))))]) (va_A [(h0, .inr (5, [.null, .int 0, .int 0, .int 0, .int 0]))] sz)) 1 60 (va_A [(h0, .inr (5, [.null, .int 0, .int 0, .int 0, .int 0]))] sz) := by
  refine gMetC "NineKeysRound$Shelf" rfl (by decide) rfl (Nat.le_of_ble_eq_true rfl) ?_
  intro p e s m below meth c ls hx hb hml hown hts hK hr hlocks hin hsz hP hX hl
  subst hsz
  have hD := vd_one (h0 := h0) (e0 := .inr (5, [.null, .int 0, .int 0, .int 0, .int 0])) (sz := s.heap.size)
  generalize hAe : va_A [(h0, .inr (5, [.null, .int 0, .int 0, .int 0, .int 0]))] s.heap.size = A at hD ⊢
  have hA : ∀ q : Nat, s.heap.size ≤ q → A q := fun q h => by rw [← hAe]; exact Or.inr h
  have hS : va_S A s.heap s.heap [] := va_S.rf
  have hl : lv_has ls 1 [(0, .ref h0)] := hl
  refine lv_aload_n hx hb dX5_init_0 rfl (lv_at hl 0 rfl) ?_
  refine W.objInit hx hb hown (hts _ k_237) (hts _ k_26) (hts _ k_27) rfl (by rw [hml]; exact hl.1) rfl dX5_init_1 (Nat.le_of_ble_eq_true rfl) (Nat.le_of_ble_eq_true rfl) ?_
  refine W.eq (g2 := F0 m 4 ls []) rfl ?_
  refine lv_aload_n hx hb dX5_init_4 rfl (lv_at hl 0 rfl) ?_
  refine lv_bipush hx hb dX5_init_5 cb_60 ?_
  refine gc_newl hx hb hts hK hP hD hS hA 60 (by decide) (by decide) (by decide) (Nat.le_of_ble_eq_true rfl) (Nat.le_of_ble_eq_true rfl) dX5_init_7 (fun q7_1 H hP hD hS => ?_)
  have hP : va_P D vwCl [(h0, .inr (5, [.null, .int 0, .int 0, .int 0, .int 0])), (q7_1, .inl (t.2.1, 60, .inr (.inl (fun _ => 0))))] H := hP
  have hD : va_D A [(h0, .inr (5, [.null, .int 0, .int 0, .int 0, .int 0])), (q7_1, .inl (t.2.1, 60, .inr (.inl (fun _ => 0))))] := hD
  refine W.widen (k := 1) (n := 60) (Nat.le_of_ble_eq_true rfl) (Nat.le_of_ble_eq_true rfl) ?_
  refine va_putF (D := D) (ci := 5) (v := .ref q7_1) (ty := .array .long) (C := RX5) (T := TX5) (N := 5) hx hb hts inX5 tyX5 tyX5_ok nmX5 hown hK hP hD hS 0 rfl rfl 0 (by decide) (hts _ k_238) (fun _ h9 => h9) rfl hin rfl rfl rfl rfl (Nat.le_of_ble_eq_true rfl) dX5_init_9 (fun H locs hP hD hS => ?_)
  have hP : va_P D vwCl [(h0, .inr (5, [.ref q7_1, .int 0, .int 0, .int 0, .int 0])), (q7_1, .inl (t.2.1, 60, .inr (.inl (fun _ => 0))))] H := hP
  have hD : va_D A [(h0, .inr (5, [.ref q7_1, .int 0, .int 0, .int 0, .int 0])), (q7_1, .inl (t.2.1, 60, .inr (.inl (fun _ => 0))))] := hD
  have hP9 := hP.sub (ws' := [(h0, .inr (5, [.ref q7_1, .int 0, .int 0, .int 0, .int 0])), (q7_1, .inl (t.2.1, 60, .inr (.inl (fun _ => 0))))]) [0, 1] rfl
  exact W.vret hx hb hr (fun t1 ht hW => ⟨⟨(fun i => [q7_1].getD i 0), rfl, trivial, by rw [ht]; exact hP9, hD⟩, hS.F ht⟩) hS.2.2 dX5_init_12 hlocks
theorem shf_eq (ad : Nat → Nat) : va_up (va_up (va_up (va_up (va_up (va_up (fun _ => none) 0 (some (ad 14))) 1 (some (ad 16))) 2 (some (ad 18))) 3 (some (ad 20))) 4 (some (ad 22))) 5 (some (ad 24)) = fun i => (([14, 16, 18, 20, 22, 24] : List Nat)[i]?).map ad := by
  funext i
  match i with
  | 0 => rfl
  | 1 => rfl
  | 2 => rfl
  | 3 => rfl
  | 4 => rfl
  | 5 => rfl
  | n + 6 => simp [va_up]
def σX : gS := (fun k => if k = 2 then upd (upd (fun _ => 0) 38 1) 39 1 else if k = 37 then upd (fun _ => 0) 1 9 else if k = 39 then upd (fun _ => 0) 1 9 else fun _ => 0, fun _ _ => 0)
def σM : gS := (fun k => if k = 0 then upd (fun _ => 0) 24 (-1) else if k = 5 then upd (upd (fun _ => 0) 2 1) 3 1 else if k = 24 then upd (upd (upd (upd (upd (upd (fun _ => 0) 0 (-1)) 1 (-1)) 2 (-1)) 3 (-1)) 4 (-1)) 5 (-1) else fun _ => 0, fun _ _ => 0)
/-- what the constructor needs of the tables beside the words -/
def nX (U : State) : Prop := va_Nw (.methodLinkNest "NineKeysRound" 18 ⟨"NineKeysRound$Changes", "<init>", "()V"⟩ "NineKeysRound") U ∧ va_Nw (.methodLinkNest "NineKeysRound" 25 ⟨"NineKeysRound$Law", "<init>", "()V"⟩ "NineKeysRound") U ∧ va_Nw (.methodLinkNest "NineKeysRound" 50 ⟨"NineKeysRound$Sightings", "<init>", "()V"⟩ "NineKeysRound") U ∧ va_Nw (.methodLinkNest "NineKeysRound" 64 ⟨"NineKeysRound$Deed", "<init>", "()V"⟩ "NineKeysRound") U ∧ va_Nw (.methodLinkNest "NineKeysRound" 74 ⟨"NineKeysRound$Keys", "<init>", "()V"⟩ "NineKeysRound") U ∧ va_Nw (.methodLinkNest "NineKeysRound" 89 ⟨"NineKeysRound$Shelf", "<init>", "()V"⟩ "NineKeysRound") U ∧ va_AO "NineKeysRound$Shelf" U
