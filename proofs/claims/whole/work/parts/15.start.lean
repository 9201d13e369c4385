theorem st_0 {args : Array Value} {s : State} (hts : ∀ w ∈ lw_tbl, w.before args s = true) (hs : ∀ w ∈ flatC (Jvm.Cond.and given_1 narrow_1), w.before args s = true) {A : Nat → Prop} (hA : ∀ a : Nat, a < s.heap.size → ¬ A a) : ∃ t0 : Nat, va_Z "NineKeysRound$Yard" "LEAST" "[I" (.ref t0) A s s.heap ∧ va_T .int t0 zLEAST.length (fun j => .int (zLEAST.getD j 0)) A s s.heap := by
  obtain ⟨t0, h1, h2⟩ := va_Tof (tm := (Term.static "NineKeysRound$Yard" "LEAST" "[I")) (ty := .int) (N := 8) (f := fun j => .int (zLEAST.getD j 0)) (A := A) (by decide) (hs (Cond.arrayOf (Term.static "NineKeysRound$Yard" "LEAST" "[I") .int) (by decide +kernel)) (va_eqt (hs (Cond.eq (.length (Term.static "NineKeysRound$Yard" "LEAST" "[I")) (.int 8)) (by decide +kernel))) (fun j hj => match j, hj with
    | 0, _ => va_eqt (hs (Cond.eq (.elem (Term.static "NineKeysRound$Yard" "LEAST" "[I") (.int 0)) (.int 0)) (by decide +kernel))
    | 1, _ => va_eqt (hs (Cond.eq (.elem (Term.static "NineKeysRound$Yard" "LEAST" "[I") (.int 1)) (.int 0)) (by decide +kernel))
    | 2, _ => va_eqt (hs (Cond.eq (.elem (Term.static "NineKeysRound$Yard" "LEAST" "[I") (.int 2)) (.int 0)) (by decide +kernel))
    | 3, _ => va_eqt (hs (Cond.eq (.elem (Term.static "NineKeysRound$Yard" "LEAST" "[I") (.int 3)) (.int 1)) (by decide +kernel))
    | 4, _ => va_eqt (hs (Cond.eq (.elem (Term.static "NineKeysRound$Yard" "LEAST" "[I") (.int 4)) (.int 0)) (by decide +kernel))
    | 5, _ => va_eqt (hs (Cond.eq (.elem (Term.static "NineKeysRound$Yard" "LEAST" "[I") (.int 5)) (.int 0)) (by decide +kernel))
    | 6, _ => va_eqt (hs (Cond.eq (.elem (Term.static "NineKeysRound$Yard" "LEAST" "[I") (.int 6)) (.int 1)) (by decide +kernel))
    | 7, _ => va_eqt (hs (Cond.eq (.elem (Term.static "NineKeysRound$Yard" "LEAST" "[I") (.int 7)) (.int 0)) (by decide +kernel))
    | n + 8, hj => absurd hj (by omega)) hA
  exact ⟨t0, va_Zref (hts ((Jvm.Cond.laysStatic "NineKeysRound$Yard" "LEAST" "[I")) (List.mem_append_right _ (List.mem_append_right _ (List.mem_append_left _ (List.mem_of_getElem? (i := 75) (by decide +kernel)))))) (hts ((Jvm.Cond.initialized "NineKeysRound$Yard")) (List.mem_append_right _ (List.mem_append_left _ (List.mem_of_getElem? (i := 2) (by decide +kernel))))) h1 hA, h2⟩
theorem st_1 {args : Array Value} {s : State} (hts : ∀ w ∈ lw_tbl, w.before args s = true) (hs : ∀ w ∈ flatC (Jvm.Cond.and given_1 narrow_1), w.before args s = true) {A : Nat → Prop} (hA : ∀ a : Nat, a < s.heap.size → ¬ A a) : ∃ t0 : Nat, va_Z "NineKeysRound$Yard" "MOST" "[I" (.ref t0) A s s.heap ∧ va_T .int t0 zMOST.length (fun j => .int (zMOST.getD j 0)) A s s.heap := by
  obtain ⟨t0, h1, h2⟩ := va_Tof (tm := (Term.static "NineKeysRound$Yard" "MOST" "[I")) (ty := .int) (N := 8) (f := fun j => .int (zMOST.getD j 0)) (A := A) (by decide) (hs (Cond.arrayOf (Term.static "NineKeysRound$Yard" "MOST" "[I") .int) (by decide +kernel)) (va_eqt (hs (Cond.eq (.length (Term.static "NineKeysRound$Yard" "MOST" "[I")) (.int 8)) (by decide +kernel))) (fun j hj => match j, hj with
    | 0, _ => va_eqt (hs (Cond.eq (.elem (Term.static "NineKeysRound$Yard" "MOST" "[I") (.int 0)) (.int 15)) (by decide +kernel))
    | 1, _ => va_eqt (hs (Cond.eq (.elem (Term.static "NineKeysRound$Yard" "MOST" "[I") (.int 1)) (.int 15)) (by decide +kernel))
    | 2, _ => va_eqt (hs (Cond.eq (.elem (Term.static "NineKeysRound$Yard" "MOST" "[I") (.int 2)) (.int 9)) (by decide +kernel))
    | 3, _ => va_eqt (hs (Cond.eq (.elem (Term.static "NineKeysRound$Yard" "MOST" "[I") (.int 3)) (.int 999)) (by decide +kernel))
    | 4, _ => va_eqt (hs (Cond.eq (.elem (Term.static "NineKeysRound$Yard" "MOST" "[I") (.int 4)) (.int 15)) (by decide +kernel))
    | 5, _ => va_eqt (hs (Cond.eq (.elem (Term.static "NineKeysRound$Yard" "MOST" "[I") (.int 5)) (.int 15)) (by decide +kernel))
    | 6, _ => va_eqt (hs (Cond.eq (.elem (Term.static "NineKeysRound$Yard" "MOST" "[I") (.int 6)) (.int 9)) (by decide +kernel))
    | 7, _ => va_eqt (hs (Cond.eq (.elem (Term.static "NineKeysRound$Yard" "MOST" "[I") (.int 7)) (.int 9)) (by decide +kernel))
    | n + 8, hj => absurd hj (by omega)) hA
  exact ⟨t0, va_Zref (hts ((Jvm.Cond.laysStatic "NineKeysRound$Yard" "MOST" "[I")) (List.mem_append_right _ (List.mem_append_right _ (List.mem_append_left _ (List.mem_of_getElem? (i := 77) (by decide +kernel)))))) (hts ((Jvm.Cond.initialized "NineKeysRound$Yard")) (List.mem_append_right _ (List.mem_append_left _ (List.mem_of_getElem? (i := 2) (by decide +kernel))))) h1 hA, h2⟩
theorem st_2 {args : Array Value} {s : State} (hts : ∀ w ∈ lw_tbl, w.before args s = true) (hs : ∀ w ∈ flatC (Jvm.Cond.and given_1 narrow_1), w.before args s = true) {A : Nat → Prop} (hA : ∀ a : Nat, a < s.heap.size → ¬ A a) : ∃ t0 : Nat, va_Z "NineKeysRound$Keys" "ABOVE" "[I" (.ref t0) A s s.heap ∧ va_T .int t0 zABOVE.length (fun j => .int (zABOVE.getD j 0)) A s s.heap := by
  obtain ⟨t0, h1, h2⟩ := va_Tof (tm := (Term.static "NineKeysRound$Keys" "ABOVE" "[I")) (ty := .int) (N := 8) (f := fun j => .int (zABOVE.getD j 0)) (A := A) (by decide) (hs (Cond.arrayOf (Term.static "NineKeysRound$Keys" "ABOVE" "[I") .int) (by decide +kernel)) (va_eqt (hs (Cond.eq (.length (Term.static "NineKeysRound$Keys" "ABOVE" "[I")) (.int 8)) (by decide +kernel))) (fun j hj => match j, hj with
    | 0, _ => va_eqt (hs (Cond.eq (.elem (Term.static "NineKeysRound$Keys" "ABOVE" "[I") (.int 0)) (.int (-1))) (by decide +kernel))
    | 1, _ => va_eqt (hs (Cond.eq (.elem (Term.static "NineKeysRound$Keys" "ABOVE" "[I") (.int 1)) (.int 0)) (by decide +kernel))
    | 2, _ => va_eqt (hs (Cond.eq (.elem (Term.static "NineKeysRound$Keys" "ABOVE" "[I") (.int 2)) (.int 0)) (by decide +kernel))
    | 3, _ => va_eqt (hs (Cond.eq (.elem (Term.static "NineKeysRound$Keys" "ABOVE" "[I") (.int 3)) (.int 2)) (by decide +kernel))
    | 4, _ => va_eqt (hs (Cond.eq (.elem (Term.static "NineKeysRound$Keys" "ABOVE" "[I") (.int 4)) (.int 1)) (by decide +kernel))
    | 5, _ => va_eqt (hs (Cond.eq (.elem (Term.static "NineKeysRound$Keys" "ABOVE" "[I") (.int 5)) (.int 3)) (by decide +kernel))
    | 6, _ => va_eqt (hs (Cond.eq (.elem (Term.static "NineKeysRound$Keys" "ABOVE" "[I") (.int 6)) (.int 0)) (by decide +kernel))
    | 7, _ => va_eqt (hs (Cond.eq (.elem (Term.static "NineKeysRound$Keys" "ABOVE" "[I") (.int 7)) (.int 4)) (by decide +kernel))
    | n + 8, hj => absurd hj (by omega)) hA
  exact ⟨t0, va_Zref (hts ((Jvm.Cond.laysStatic "NineKeysRound$Keys" "ABOVE" "[I")) (List.mem_append_right _ (List.mem_append_right _ (List.mem_append_right _ (List.mem_append_right _ (List.mem_append_right _ (List.mem_append_left _ (List.mem_of_getElem? (i := 21) (by decide +kernel))))))))) (hts ((Jvm.Cond.initialized "NineKeysRound$Keys")) (List.mem_append_right _ (List.mem_append_left _ (List.mem_of_getElem? (i := 9) (by decide +kernel))))) h1 hA, h2⟩
theorem st_3 {args : Array Value} {s : State} (hts : ∀ w ∈ lw_tbl, w.before args s = true) (hs : ∀ w ∈ flatC (Jvm.Cond.and given_1 narrow_1), w.before args s = true) {A : Nat → Prop} (hA : ∀ a : Nat, a < s.heap.size → ¬ A a) : ∃ t0 : Nat, va_Z "NineKeysRound$Keys" "BODIES" "[I" (.ref t0) A s s.heap ∧ va_T .int t0 zBODIES.length (fun j => .int (zBODIES.getD j 0)) A s s.heap := by
  obtain ⟨t0, h1, h2⟩ := va_Tof (tm := (Term.static "NineKeysRound$Keys" "BODIES" "[I")) (ty := .int) (N := 32) (f := fun j => .int (zBODIES.getD j 0)) (A := A) (by decide) (hs (Cond.arrayOf (Term.static "NineKeysRound$Keys" "BODIES" "[I") .int) (by decide +kernel)) (va_eqt (hs (Cond.eq (.length (Term.static "NineKeysRound$Keys" "BODIES" "[I")) (.int 32)) (by decide +kernel))) (fun j hj => match j, hj with
    | 0, _ => va_eqt (hs (Cond.eq (.elem (Term.static "NineKeysRound$Keys" "BODIES" "[I") (.int 0)) (.int 1)) (by decide +kernel))
    | 1, _ => va_eqt (hs (Cond.eq (.elem (Term.static "NineKeysRound$Keys" "BODIES" "[I") (.int 1)) (.int 10)) (by decide +kernel))
    | 2, _ => va_eqt (hs (Cond.eq (.elem (Term.static "NineKeysRound$Keys" "BODIES" "[I") (.int 2)) (.int 11)) (by decide +kernel))
    | 3, _ => va_eqt (hs (Cond.eq (.elem (Term.static "NineKeysRound$Keys" "BODIES" "[I") (.int 3)) (.int 2)) (by decide +kernel))
    | 4, _ => va_eqt (hs (Cond.eq (.elem (Term.static "NineKeysRound$Keys" "BODIES" "[I") (.int 4)) (.int 20)) (by decide +kernel))
    | 5, _ => va_eqt (hs (Cond.eq (.elem (Term.static "NineKeysRound$Keys" "BODIES" "[I") (.int 5)) (.int 0)) (by decide +kernel))
    | 6, _ => va_eqt (hs (Cond.eq (.elem (Term.static "NineKeysRound$Keys" "BODIES" "[I") (.int 6)) (.int 0)) (by decide +kernel))
    | 7, _ => va_eqt (hs (Cond.eq (.elem (Term.static "NineKeysRound$Keys" "BODIES" "[I") (.int 7)) (.int 0)) (by decide +kernel))
    | 8, _ => va_eqt (hs (Cond.eq (.elem (Term.static "NineKeysRound$Keys" "BODIES" "[I") (.int 8)) (.int 0)) (by decide +kernel))
    | 9, _ => va_eqt (hs (Cond.eq (.elem (Term.static "NineKeysRound$Keys" "BODIES" "[I") (.int 9)) (.int 30)) (by decide +kernel))
    | 10, _ => va_eqt (hs (Cond.eq (.elem (Term.static "NineKeysRound$Keys" "BODIES" "[I") (.int 10)) (.int 0)) (by decide +kernel))
    | 11, _ => va_eqt (hs (Cond.eq (.elem (Term.static "NineKeysRound$Keys" "BODIES" "[I") (.int 11)) (.int 0)) (by decide +kernel))
    | 12, _ => va_eqt (hs (Cond.eq (.elem (Term.static "NineKeysRound$Keys" "BODIES" "[I") (.int 12)) (.int 0)) (by decide +kernel))
    | 13, _ => va_eqt (hs (Cond.eq (.elem (Term.static "NineKeysRound$Keys" "BODIES" "[I") (.int 13)) (.int 41)) (by decide +kernel))
    | 14, _ => va_eqt (hs (Cond.eq (.elem (Term.static "NineKeysRound$Keys" "BODIES" "[I") (.int 14)) (.int 40)) (by decide +kernel))
    | 15, _ => va_eqt (hs (Cond.eq (.elem (Term.static "NineKeysRound$Keys" "BODIES" "[I") (.int 15)) (.int 0)) (by decide +kernel))
    | 16, _ => va_eqt (hs (Cond.eq (.elem (Term.static "NineKeysRound$Keys" "BODIES" "[I") (.int 16)) (.int 0)) (by decide +kernel))
    | 17, _ => va_eqt (hs (Cond.eq (.elem (Term.static "NineKeysRound$Keys" "BODIES" "[I") (.int 17)) (.int 0)) (by decide +kernel))
    | 18, _ => va_eqt (hs (Cond.eq (.elem (Term.static "NineKeysRound$Keys" "BODIES" "[I") (.int 18)) (.int 50)) (by decide +kernel))
    | 19, _ => va_eqt (hs (Cond.eq (.elem (Term.static "NineKeysRound$Keys" "BODIES" "[I") (.int 19)) (.int 0)) (by decide +kernel))
    | 20, _ => va_eqt (hs (Cond.eq (.elem (Term.static "NineKeysRound$Keys" "BODIES" "[I") (.int 20)) (.int 0)) (by decide +kernel))
    | 21, _ => va_eqt (hs (Cond.eq (.elem (Term.static "NineKeysRound$Keys" "BODIES" "[I") (.int 21)) (.int 0)) (by decide +kernel))
    | 22, _ => va_eqt (hs (Cond.eq (.elem (Term.static "NineKeysRound$Keys" "BODIES" "[I") (.int 22)) (.int 0)) (by decide +kernel))
    | 23, _ => va_eqt (hs (Cond.eq (.elem (Term.static "NineKeysRound$Keys" "BODIES" "[I") (.int 23)) (.int 60)) (by decide +kernel))
    | 24, _ => va_eqt (hs (Cond.eq (.elem (Term.static "NineKeysRound$Keys" "BODIES" "[I") (.int 24)) (.int 70)) (by decide +kernel))
    | 25, _ => va_eqt (hs (Cond.eq (.elem (Term.static "NineKeysRound$Keys" "BODIES" "[I") (.int 25)) (.int 0)) (by decide +kernel))
    | 26, _ => va_eqt (hs (Cond.eq (.elem (Term.static "NineKeysRound$Keys" "BODIES" "[I") (.int 26)) (.int 0)) (by decide +kernel))
    | 27, _ => va_eqt (hs (Cond.eq (.elem (Term.static "NineKeysRound$Keys" "BODIES" "[I") (.int 27)) (.int 0)) (by decide +kernel))
    | 28, _ => va_eqt (hs (Cond.eq (.elem (Term.static "NineKeysRound$Keys" "BODIES" "[I") (.int 28)) (.int 0)) (by decide +kernel))
    | 29, _ => va_eqt (hs (Cond.eq (.elem (Term.static "NineKeysRound$Keys" "BODIES" "[I") (.int 29)) (.int 80)) (by decide +kernel))
    | 30, _ => va_eqt (hs (Cond.eq (.elem (Term.static "NineKeysRound$Keys" "BODIES" "[I") (.int 30)) (.int 0)) (by decide +kernel))
    | 31, _ => va_eqt (hs (Cond.eq (.elem (Term.static "NineKeysRound$Keys" "BODIES" "[I") (.int 31)) (.int 81)) (by decide +kernel))
    | n + 32, hj => absurd hj (by omega)) hA
  exact ⟨t0, va_Zref (hts ((Jvm.Cond.laysStatic "NineKeysRound$Keys" "BODIES" "[I")) (List.mem_append_right _ (List.mem_append_right _ (List.mem_append_right _ (List.mem_append_right _ (List.mem_append_right _ (List.mem_append_left _ (List.mem_of_getElem? (i := 19) (by decide +kernel))))))))) (hts ((Jvm.Cond.initialized "NineKeysRound$Keys")) (List.mem_append_right _ (List.mem_append_left _ (List.mem_of_getElem? (i := 9) (by decide +kernel))))) h1 hA, h2⟩
theorem st_s {args : Array Value} {s : State} (hts : ∀ w ∈ lw_tbl, w.before args s = true) (hs : ∀ w ∈ flatC (Jvm.Cond.and given_1 narrow_1), w.before args s = true) {A : Nat → Prop} (hA : ∀ a : Nat, a < s.heap.size → ¬ A a) : ∃ a0 a1 : Nat, vk_R "NineKeysRound$Law" 80 "vumdpn" a0 s ∧ vk_S 1 [6] [zNAMES] (fun _ => a0) (fun _ => a1) A s s.heap ∧ va_Z "java/lang/String" "COMPACT_STRINGS" "Z" (.int 1) A s s.heap := by
  have one : ∀ i : Nat, i < 1 → i = 0 := fun i hi => by omega
  obtain ⟨adK, adV, h1, h2⟩ := vk_Sof (args := args) (N := 1) (tm := fun _ => (Term.string "NineKeysRound$Law" 80)) (len := [6]) (byt := [zNAMES]) (A := A) (fun i hi => by rw [one i hi]; decide) (fun i hi => hs (Cond.exactly (Term.string "NineKeysRound$Law" 80) "java/lang/String") (by decide +kernel)) (fun i hi => hs (Cond.eq (.field (Term.string "NineKeysRound$Law" 80) "java/lang/String" "coder" "B") (.int 0)) (by decide +kernel)) (fun i hi => hs (Cond.arrayOf (Term.field (Term.string "NineKeysRound$Law" 80) "java/lang/String" "value" "[B") .byte) (by decide +kernel)) (fun i hi => by rw [one i hi]; exact hs (Cond.eq (.length (Term.field (Term.string "NineKeysRound$Law" 80) "java/lang/String" "value" "[B")) (.int 6)) (by decide +kernel))
    (fun i hi j hj => by
      rw [one i hi] at hj ⊢
      match j, hj with
      | 0, _ => exact hs (Cond.eq (.elem (Term.field (Term.string "NineKeysRound$Law" 80) "java/lang/String" "value" "[B") (.int 0)) (.int 118)) (by decide +kernel)
      | 1, _ => exact hs (Cond.eq (.elem (Term.field (Term.string "NineKeysRound$Law" 80) "java/lang/String" "value" "[B") (.int 1)) (.int 117)) (by decide +kernel)
      | 2, _ => exact hs (Cond.eq (.elem (Term.field (Term.string "NineKeysRound$Law" 80) "java/lang/String" "value" "[B") (.int 2)) (.int 109)) (by decide +kernel)
      | 3, _ => exact hs (Cond.eq (.elem (Term.field (Term.string "NineKeysRound$Law" 80) "java/lang/String" "value" "[B") (.int 3)) (.int 100)) (by decide +kernel)
      | 4, _ => exact hs (Cond.eq (.elem (Term.field (Term.string "NineKeysRound$Law" 80) "java/lang/String" "value" "[B") (.int 4)) (.int 112)) (by decide +kernel)
      | 5, _ => exact hs (Cond.eq (.elem (Term.field (Term.string "NineKeysRound$Law" 80) "java/lang/String" "value" "[B") (.int 5)) (.int 110)) (by decide +kernel)
      | n + 6, hj => exact absurd hj (by show ¬ n + 6 < 6; omega))
    (fun i j hi hj hij => absurd (by rw [one i hi, one j hj]) hij) hA
  refine ⟨adK 0, adV 0, vk_R.of (hts ((Jvm.Cond.stringRef "NineKeysRound$Law" (80 : Nat) "vumdpn")) (List.mem_append_right _ (List.mem_append_right _ (List.mem_append_left _ (List.mem_of_getElem? (i := 178) (by decide +kernel)))))) (h2 0 (by decide)), ⟨fun i hi => ?_, fun i j hi hj _ => by rw [one i hi, one j hj]⟩, va_Zof (hts ((Jvm.Cond.laysStatic "java/lang/String" "COMPACT_STRINGS" "Z")) (List.mem_append_right _ (List.mem_append_right _ (List.mem_append_left _ (List.mem_of_getElem? (i := 192) (by decide +kernel)))))) (hts ((Jvm.Cond.initialized "java/lang/String")) (List.mem_append_right _ (List.mem_append_left _ (List.mem_of_getElem? (i := 13) (by decide +kernel))))) (va_eqi (hs (Cond.eq (.static "java/lang/String" "COMPACT_STRINGS" "Z") (.int 1)) (by decide +kernel))) hA⟩
  rw [one i hi]
  exact h1.1 0 (by decide)
theorem st_all {args : Array Value} {s : State} (hts : ∀ w ∈ lw_tbl, w.before args s = true) (hgv : (Jvm.Cond.and given_1 narrow_1).before args s = true) : ∃ z : Nat → Nat, gZs z (fun q => s.heap.size ≤ q) s s.heap := by
  have hs := flat_of_before _ hgv
  have hA : ∀ a : Nat, a < s.heap.size → ¬ (fun q : Nat => s.heap.size ≤ q) a := fun a h => Nat.not_le.mpr h
  obtain ⟨t0, a0, b0⟩ := st_0 hts hs hA
  obtain ⟨t1, a1, b1⟩ := st_1 hts hs hA
  obtain ⟨t2, a2, b2⟩ := st_2 hts hs hA
  obtain ⟨t3, a3, b3⟩ := st_3 hts hs hA
  obtain ⟨t4, t5, a4, a5, a6⟩ := st_s hts hs hA
  refine ⟨fun i => [t0, t1, t2, t3, t4, t5].getD i 0, fun i q hq => ?_, a4, a5, a6⟩
  match i, hq with
  | 0, hq => cases hq; exact ⟨a0, b0⟩
  | 1, hq => cases hq; exact ⟨a1, b1⟩
  | 2, hq => cases hq; exact ⟨a2, b2⟩
  | 3, hq => cases hq; exact ⟨a3, b3⟩
  | n + 4, hq => simp [zTab] at hq
theorem arrK {args : Array Value} {s : State} {ty : FieldType} (h : (Cond.arrayClass ty).before args s = true) : ∃ cA : ClassId, ArrOfT s cA ty ∧ s.vm.findClass ("[" ++ ty.toString) = some cA := by
  obtain ⟨c, k, comp, h1, h2, h3⟩ := Cond.arrayClass_spec h
  exact ⟨c, fun n z => ⟨fun k h => (by cases h), k, h2, comp, h3⟩, h1⟩
theorem arrO {args : Array Value} {s : State} {C : String} (h : (Cond.arrayOver (.object C)).before args s = true) : ∃ cA : ClassId, ArrOfT s cA (.object C) ∧ va_RA s cA (.object C) := by
  obtain ⟨comp, c, k, h1, h2, h3, h4, h5⟩ := Cond.arrayOver_spec h
  exact ⟨c, fun n z => ⟨fun k h => (by cases h), k, h3, comp, h4⟩, k, comp, h3, h4, h1, h5⟩
theorem gJ_of {A : Nat → Prop} {sh : List gKd} {t : gT} {ad : Nat → Nat} {σ : gS} (h : va_D A (gW sh t ad σ)) : gJ sh ad := by
  intro i j hi hj e
  obtain ⟨a, ha⟩ : ∃ kd, sh[i]? = some kd := ⟨_, List.getElem?_eq_getElem hi⟩
  obtain ⟨b, hb⟩ : ∃ kd, sh[j]? = some kd := ⟨_, List.getElem?_eq_getElem hj⟩
  exact h.1 i j _ _ (gW_get ha) (gW_get hb) e
theorem gA_in {sh : List gKd} {t : gT} {ad : Nat → Nat} {σ : gS} {q : Nat} (h : gA sh ad q) : ∃ x ∈ gW sh t ad σ, x.1 = q := by
  obtain ⟨k, hk, e⟩ := h
  obtain ⟨a, ha⟩ : ∃ kd, sh[k]? = some kd := ⟨_, List.getElem?_eq_getElem hk⟩
  exact ⟨_, List.mem_of_getElem? (gW_get (t := t) (ad := ad) (σ := σ) ha), e⟩
theorem nX_blind (a : Array Value) (U : State) (g : JFrame) (mk : MethodId) (h : nX U) : nX (U.calling g mk a) := by
  obtain ⟨h1, h2, h3, h4, h5, h6, h7⟩ := h
  exact ⟨va_Nw.same rfl (u := U) rfl h1, va_Nw.same rfl (u := U) rfl h2, va_Nw.same rfl (u := U) rfl h3, va_Nw.same rfl (u := U) rfl h4, va_Nw.same rfl (u := U) rfl h5, va_Nw.same rfl (u := U) rfl h6, va_AO.moved (u := U) (Vm.Alike.refl U.vm) h7⟩
theorem nX_warm {s U : State} (hW : s.WarmedH U.vm) (h : nX s) : nX U := by
  obtain ⟨h1, h2, h3, h4, h5, h6, h7⟩ := h
  exact ⟨va_Nw.warmM hW h1, va_Nw.warmM hW h2, va_Nw.warmM hW h3, va_Nw.warmM hW h4, va_Nw.warmM hW h5, va_Nw.warmM hW h6, va_AO.moved hW.alike h7⟩
set_option maxRecDepth 100000 in
set_option maxHeartbeats 4000000 in
theorem whole_open {p : Program} {e : Env} {s : State} {m : MethodId} {below : List Frame} {meth : Method} {c : Code} (l : Launch) {b L : Nat} {xs : Nat → Int32} (hL : L ≤ 3072) (C0 : lw_At p s m meth c b L xs) {Rel : gS → gS → Prop} (hE : EQs Rel) (hR0 : Rel σX σM) : W p l e room_1 s m #[Value.ref b] below meth c s.heap [] 0 0 (lw_Z below #[Value.ref b] s) (entryFrame m ([Value.ref b] : List Value).toArray 4) := by
  obtain ⟨hx, hb, hr, hml, hown, hts0, hX, hbl, hlocks, hgv⟩ := id C0
  have hts : ∀ w ∈ lw_tb, w.before #[Value.ref b] s = true := fun w hw => hts0 w (List.mem_filter.mp hw).1
  have hown : s.vm.findClass "NineKeysRoundLaw" = some m.cls := hown
  have C : lwC p s m #[Value.ref b] c 4 := ⟨hx, hb, hml, hown, hts⟩
  have hA : ∀ q : Nat, s.heap.size ≤ q → (fun q : Nat => s.heap.size ≤ q) q := fun _ h => h
  obtain ⟨z, hZ⟩ := st_all hts0 hgv
  obtain ⟨c0, i0, hk0⟩ := u_known (C := RX0) (T := TX0) (N := 5) (n := 5) hts inX0 (hts _ k_46)
  obtain ⟨c1, i1, hk1⟩ := u_known (C := RX1) (T := TX1) (N := 6) (n := 6) hts inX1 (hts _ k_110)
  obtain ⟨c2, i2, hk2⟩ := u_known (C := RX2) (T := TX2) (N := 7) (n := 7) hts inX2 (hts _ k_174)
  obtain ⟨c3, i3, hk3⟩ := u_known (C := RX3) (T := TX3) (N := 5) (n := 5) hts inX3 (hts _ k_209)
  obtain ⟨c4, i4, hk4⟩ := u_known (C := RX4) (T := TX4) (N := 10) (n := 10) hts inX4 (hts _ k_70)
  obtain ⟨c5, i5, hk5⟩ := u_known (C := RX5) (T := TX5) (N := 5) (n := 5) hts inX5 (hts _ k_233)
  obtain ⟨c6, i6, hk6⟩ := u_known (C := RX6) (T := TX6) (N := 3) (n := 3) hts inX6 (hts _ k_137)
  obtain ⟨c7, i7, hk7⟩ := u_known (C := RX7) (T := TX7) (N := 4) (n := 4) hts inX7 (hts _ k_153)
  obtain ⟨c8, i8, hk8⟩ := u_known (C := RX8) (T := TX8) (N := 2) (n := 2) hts inX8 (hts _ k_29)
  obtain ⟨c9, i9, hk9⟩ := u_known (C := RX9) (T := TX9) (N := 15) (n := 15) hts inX9 (hts _ k_21)
  obtain ⟨c10, i10, hk10⟩ := u_known (C := RX10) (T := TX10) (N := 54) (n := 54) hts inX10 (hts _ k_1056)
  obtain ⟨dC, dI, hKc⟩ : ∃ (dC : Nat → ClassId) (dI : Nat → Nat → Nat), ∀ (k : Nat) (q : vw_C), vwCl[k]? = some q → u_Kn s q.1 q.2.1 q.2.2 (dC k) (dI k) := by
    refine ⟨fun k => if k = 0 then c0 else if k = 1 then c1 else if k = 2 then c2 else if k = 3 then c3 else if k = 4 then c4 else if k = 5 then c5 else if k = 6 then c6 else if k = 7 then c7 else if k = 8 then c8 else if k = 9 then c9 else c10, fun k => if k = 0 then i0 else if k = 1 then i1 else if k = 2 then i2 else if k = 3 then i3 else if k = 4 then i4 else if k = 5 then i5 else if k = 6 then i6 else if k = 7 then i7 else if k = 8 then i8 else if k = 9 then i9 else i10, ?_⟩
    intro k q hq
    match k, hq with
    | 0, hq => cases hq; exact hk0
    | 1, hq => cases hq; exact hk1
    | 2, hq => cases hq; exact hk2
    | 3, hq => cases hq; exact hk3
    | 4, hq => cases hq; exact hk4
    | 5, hq => cases hq; exact hk5
    | 6, hq => cases hq; exact hk6
    | 7, hq => cases hq; exact hk7
    | 8, hq => cases hq; exact hk8
    | 9, hq => cases hq; exact hk9
    | 10, hq => cases hq; exact hk10
    | k + 11, hq => simp [vwCl] at hq
  obtain ⟨tI, aI, fI⟩ := arrK (hts _ k_44)
  obtain ⟨tJ, aJ, fJ⟩ := arrK (hts _ k_260)
  obtain ⟨tZ, aZ, fZ⟩ := arrK (hts _ k_1224)
  have hAO : (Cond.arrayOver (.object "NineKeysRound$Shelf")).before #[Value.ref b] s = true := hts0 ((Jvm.Cond.arrayOver (Jvm.ClassFile.FieldType.object "NineKeysRound$Shelf"))) (List.mem_append_right _ (List.mem_append_left _ (List.mem_of_getElem? (i := 108) (by decide +kernel))))
  obtain ⟨tS, aS, fS⟩ := arrO hAO
  obtain ⟨t, et⟩ : ∃ t : gT, t = (tI, tJ, tZ, tS) := ⟨_, rfl⟩
  obtain ⟨D, eD⟩ : ∃ D : va_G, D = (dC, dI) := ⟨_, rfl⟩
  have hK : va_K D vwCl (gTy t) s := by
    rw [et, eD]
    refine ⟨hKc, fun k q hq => ?_⟩
    match k, hq with
    | 0, hq => cases hq; exact ⟨aI, fI⟩
    | 1, hq => cases hq; exact ⟨aJ, fJ⟩
    | 2, hq => cases hq; exact ⟨aZ, fZ⟩
    | 3, hq => cases hq; exact ⟨aS, fS⟩
    | k + 4, hq => simp [gTy] at hq
  have hnX : nX s := ⟨va_Nw.of rfl (hts0 ((Jvm.Cond.methodLinkNest "NineKeysRound" (18 : Nat) ({ cls := "NineKeysRound$Changes", name := "<init>", desc := "()V" } : Jvm.MethodName) "NineKeysRound")) (List.mem_append_right _ (List.mem_append_left _ (List.mem_of_getElem? (i := 47) (by decide +kernel))))), va_Nw.of rfl (hts0 ((Jvm.Cond.methodLinkNest "NineKeysRound" (25 : Nat) ({ cls := "NineKeysRound$Law", name := "<init>", desc := "()V" } : Jvm.MethodName) "NineKeysRound")) (List.mem_append_right _ (List.mem_append_left _ (List.mem_of_getElem? (i := 71) (by decide +kernel))))), va_Nw.of rfl (hts0 ((Jvm.Cond.methodLinkNest "NineKeysRound" (50 : Nat) ({ cls := "NineKeysRound$Sightings", name := "<init>", desc := "()V" } : Jvm.MethodName) "NineKeysRound")) (List.mem_append_right _ (List.mem_append_left _ (List.mem_of_getElem? (i := 138) (by decide +kernel))))), va_Nw.of rfl (hts0 ((Jvm.Cond.methodLinkNest "NineKeysRound" (64 : Nat) ({ cls := "NineKeysRound$Deed", name := "<init>", desc := "()V" } : Jvm.MethodName) "NineKeysRound")) (List.mem_append_right _ (List.mem_append_left _ (List.mem_of_getElem? (i := 175) (by decide +kernel))))), va_Nw.of rfl (hts0 ((Jvm.Cond.methodLinkNest "NineKeysRound" (74 : Nat) ({ cls := "NineKeysRound$Keys", name := "<init>", desc := "()V" } : Jvm.MethodName) "NineKeysRound")) (List.mem_append_right _ (List.mem_append_left _ (List.mem_of_getElem? (i := 210) (by decide +kernel))))), va_Nw.of rfl (hts0 ((Jvm.Cond.methodLinkNest "NineKeysRound" (89 : Nat) ({ cls := "NineKeysRound$Shelf", name := "<init>", desc := "()V" } : Jvm.MethodName) "NineKeysRound")) (List.mem_append_right _ (List.mem_append_left _ (List.mem_of_getElem? (i := 234) (by decide +kernel))))), va_AO.of hAO⟩
  have hS : va_S (fun q : Nat => s.heap.size ≤ q) s.heap s.heap [] := va_S.rf
  have hP : va_P D vwCl [] s.heap := fun k q h => by simp at h
  have hD : va_D (fun q : Nat => s.heap.size ≤ q) [] := ⟨fun i j p q h => by simp at h, fun k q h => by simp at h⟩
  have hl := lv_entry ([.ref b]) (n := 4) (Nat.le_of_ble_eq_true rfl)
  rw [lg_entry_eq]
  generalize (lg_sl ([.ref b]) ++ List.replicate (4 - (lg_sl ([.ref b])).length) Slot.unset).toArray = ls at hl ⊢
  have hl : lv_has ls 4 [(0, .ref b)] := hl
  refine va_new (ci := 9) (fs := [.null, .null, .null, .null, .null, .null, .null, .null, .null, .null, .null, .null, .null, .null, .int 0]) (C := RX9) (T := TX9) (N := 15) hx hb hts inX9 tyX9 tyX9_ok hown (hts _ k_20) (hts _ k_21) (hts _ k_1) hK hP hD hS hA rfl (fun j hj => by rcases (show j = 0 ∨ j = 1 ∨ j = 2 ∨ j = 3 ∨ j = 4 ∨ j = 5 ∨ j = 6 ∨ j = 7 ∨ j = 8 ∨ j = 9 ∨ j = 10 ∨ j = 11 ∨ j = 12 ∨ j = 13 ∨ j = 14 by omega) with rfl | rfl | rfl | rfl | rfl | rfl | rfl | rfl | rfl | rfl | rfl | rfl | rfl | rfl | rfl <;> rfl) (Nat.le_of_ble_eq_true rfl) (Nat.le_of_ble_eq_true rfl) dL_law_0 (fun q0 H hP hD hS => ?_)
  refine W.widen (k := 1) (n := 15) (by decide) (by decide) ?_
  have hP := vP_rot hP
  have hD := vD_rot hD
  refine lv_dup hx hb dL_law_3 rfl ?_
  have hPc := hP.sub (ws' := [(q0, .inr (9, [.null, .null, .null, .null, .null, .null, .null, .null, .null, .null, .null, .null, .null, .null, .int 0]))]) [0] rfl
  have hFc := va_free (wc := [(q0, .inr (9, [.null, .null, .null, .null, .null, .null, .null, .null, .null, .null, .null, .null, .null, .null, .int 0]))]) hD hS hA [0] rfl
  refine va_callv (va_runI (As := []) (rest := [.ref q0]) ⟨hx, hb, hml, hown, hts⟩ (n_X9_init l D t q0 H.size) ⟨callB_of 0 hts (gGood k_24) rfl rfl rfl (hts _ k_1) (hts _ k_22) ⟨by decide, by decide, by decide⟩ ⟨Nat.le_of_ble_eq_true rfl, Nat.le_of_ble_eq_true rfl⟩, rfl, hts _ k_23⟩ ⟨gPn_blind nX_blind, fun U hU hW => ⟨rfl, by rw [hU], by rw [hU]; exact hPc, va_K.moved hW.alike hK, nX_warm hW hnX⟩⟩ rfl rfl hl.1 rfl (lv_room (Nat.le_of_ble_eq_true rfl)) dL_law_4 ⟨Nat.le_of_ble_eq_true rfl, Nat.le_of_ble_eq_true rfl⟩) hS (fun q _ h => hFc q h) hFc (fun adX t1 H1 locs ht hvm hw hB hz1 hk1 hS => ?_)
  obtain ⟨hP1, hD1⟩ := hB
  rw [ht] at hP1
  obtain ⟨hP, hD⟩ := va_join1 hP hD hk1 hFc hP1 hD1
  generalize H1 = H at hP hS ⊢
  refine W.widen (k := 47) (n := 5365) (by decide) (by decide) ?_
  have ex0 : adX 0 = q0 := hw
  have hP : va_P D vwCl (gW shX t adX σX) H := by simpa using hP
  have hD : va_D (fun q : Nat => s.heap.size ≤ q) (gW shX t adX σX) := by simpa using hD
  refine lv_astore_n (lv' := [(1, .ref q0), (0, .ref b)]) hx hb dL_law_7 rfl hl (by decide) rfl (fun ls hl => ?_)
  refine va_new (ci := 10) (fs := [.int 0, .null, .null, .null, .null, .null, .int 0, .null, .int 0, .int 0, .null, .null, .null, .null, .int 0, .int 0, .int 0, .int 0, .null, .null, .null, .null, .null, .null, .int 0, .int 0, .null, .null, .int 0, .int 0, .int 0, .int 0, .null, .null, .int 0, .int 0, .null, .int 0, .null, .int 0, .null, .null, .null, .null, .int 0, .null, .int 0, .null, .null, .null, .null, .null, .null, .null]) (C := RX10) (T := TX10) (N := 54) hx hb hts inX10 tyX10 tyX10_ok hown (hts _ k_1055) (hts _ k_1056) (hts _ k_11) hK hP hD hS hA rfl (fun j hj => by rcases (show j = 0 ∨ j = 1 ∨ j = 2 ∨ j = 3 ∨ j = 4 ∨ j = 5 ∨ j = 6 ∨ j = 7 ∨ j = 8 ∨ j = 9 ∨ j = 10 ∨ j = 11 ∨ j = 12 ∨ j = 13 ∨ j = 14 ∨ j = 15 ∨ j = 16 ∨ j = 17 ∨ j = 18 ∨ j = 19 ∨ j = 20 ∨ j = 21 ∨ j = 22 ∨ j = 23 ∨ j = 24 ∨ j = 25 ∨ j = 26 ∨ j = 27 ∨ j = 28 ∨ j = 29 ∨ j = 30 ∨ j = 31 ∨ j = 32 ∨ j = 33 ∨ j = 34 ∨ j = 35 ∨ j = 36 ∨ j = 37 ∨ j = 38 ∨ j = 39 ∨ j = 40 ∨ j = 41 ∨ j = 42 ∨ j = 43 ∨ j = 44 ∨ j = 45 ∨ j = 46 ∨ j = 47 ∨ j = 48 ∨ j = 49 ∨ j = 50 ∨ j = 51 ∨ j = 52 ∨ j = 53 by omega) with rfl | rfl | rfl | rfl | rfl | rfl | rfl | rfl | rfl | rfl | rfl | rfl | rfl | rfl | rfl | rfl | rfl | rfl | rfl | rfl | rfl | rfl | rfl | rfl | rfl | rfl | rfl | rfl | rfl | rfl | rfl | rfl | rfl | rfl | rfl | rfl | rfl | rfl | rfl | rfl | rfl | rfl | rfl | rfl | rfl | rfl | rfl | rfl | rfl | rfl | rfl | rfl | rfl | rfl <;> rfl) (Nat.le_of_ble_eq_true rfl) (Nat.le_of_ble_eq_true rfl) dL_law_8 (fun q1 H hP hD hS => ?_)
  refine W.widen (k := 48) (n := 5419) (by decide) (by decide) ?_
  have hP := vP_rot hP
  have hD := vD_rot hD
  refine lv_dup hx hb dL_law_11 rfl ?_
  have hPc := hP.sub (ws' := [(q1, .inr (10, [.int 0, .null, .null, .null, .null, .null, .int 0, .null, .int 0, .int 0, .null, .null, .null, .null, .int 0, .int 0, .int 0, .int 0, .null, .null, .null, .null, .null, .null, .int 0, .int 0, .null, .null, .int 0, .int 0, .int 0, .int 0, .null, .null, .int 0, .int 0, .null, .int 0, .null, .int 0, .null, .null, .null, .null, .int 0, .null, .int 0, .null, .null, .null, .null, .null, .null, .null]))]) [0] rfl
  have hFc := va_free (wc := [(q1, .inr (10, [.int 0, .null, .null, .null, .null, .null, .int 0, .null, .int 0, .int 0, .null, .null, .null, .null, .int 0, .int 0, .int 0, .int 0, .null, .null, .null, .null, .null, .null, .int 0, .int 0, .null, .null, .int 0, .int 0, .int 0, .int 0, .null, .null, .int 0, .int 0, .null, .int 0, .null, .int 0, .null, .null, .null, .null, .int 0, .null, .int 0, .null, .null, .null, .null, .null, .null, .null]))]) hD hS hA [0] rfl
  refine va_callv (va_runI (As := []) (rest := [.ref q1]) ⟨hx, hb, hml, hown, hts⟩ (n_X10_init l D t q1 H.size) ⟨callB_of 0 hts (gGood k_1059) rfl rfl rfl (hts _ k_11) (hts _ k_1057) ⟨by decide, by decide, by decide⟩ ⟨Nat.le_of_ble_eq_true rfl, Nat.le_of_ble_eq_true rfl⟩, rfl, hts _ k_1058⟩ ⟨gPn_blind (fun _ _ _ _ h => h), fun U hU hW => ⟨rfl, by rw [hU], by rw [hU]; exact hPc, va_K.moved hW.alike hK, trivial⟩⟩ rfl rfl hl.1 rfl (lv_room (Nat.le_of_ble_eq_true rfl)) dL_law_12 ⟨Nat.le_of_ble_eq_true rfl, Nat.le_of_ble_eq_true rfl⟩) hS (fun q _ h => hFc q h) hFc (fun adM t1 H1 locs ht hvm hw hB hz1 hk1 hS => ?_)
  obtain ⟨hP1, hD1⟩ := hB
  rw [ht] at hP1
  obtain ⟨hP, hD⟩ := va_join1 hP hD hk1 hFc hP1 hD1
  generalize H1 = H at hP hS ⊢
  refine W.widen (k := 82) (n := 38218) (by decide) (by decide) ?_
  have em0 : adM 0 = q1 := hw
  have hPM : va_P D vwCl (gW shM t adM σM) H := fun k q hq => hP k q (by rw [List.getElem?_append_left (List.getElem?_eq_some_iff.mp hq).1]; exact hq)
  have hPX : va_P D vwCl (gW shX t adX σX) H := by
    intro k q hq
    obtain ⟨i, hi⟩ := List.getElem?_of_mem (List.mem_append_right (gW shM t adM σM) (List.mem_of_getElem? hq))
    exact hP i q hi
  have hDi := vD_iff.mp hD
  have hnd : ((gW shM t adM σM).map (fun q => q.1) ++ (gW shX t adX σX).map (fun q => q.1)).Nodup := by
    have h := hDi.1
    rw [List.map_append] at h
    exact h
  have hn2 := List.nodup_append.mp hnd
  have hDM : va_D (fun q : Nat => s.heap.size ≤ q) (gW shM t adM σM) := vD_iff.mpr ⟨hn2.1, fun q hq => hDi.2 q (List.mem_append_left _ hq)⟩
  have hDX : va_D (fun q : Nat => s.heap.size ≤ q) (gW shX t adX σX) := vD_iff.mpr ⟨hn2.2.1, fun q hq => hDi.2 q (List.mem_append_right _ hq)⟩
  have hF : lwF s D t adX adM z := by
    refine ⟨gJ_of hDX, gJ_of hDM, fun q hq => ?_, fun q hq => ?_, fun q hq hq2 => ?_, hK, hZ⟩
    · obtain ⟨x, hx1, hx2⟩ := gA_in (t := t) (σ := σX) hq
      rw [← hx2]
      exact hDi.2 x (List.mem_append_right _ hx1)
    · obtain ⟨x, hx1, hx2⟩ := gA_in (t := t) (σ := σM) hq
      rw [← hx2]
      exact hDi.2 x (List.mem_append_left _ hx1)
    · obtain ⟨x, hx1, hx2⟩ := gA_in (t := t) (σ := σX) hq
      obtain ⟨y, hy1, hy2⟩ := gA_in (t := t) (σ := σM) hq2
      exact hn2.2.2 y.1 (List.mem_map_of_mem hy1) x.1 (List.mem_map_of_mem hx1) (by rw [hx2, hy2])
  have hl : lv_has ls 4 [(1, .ref (adX 0)), (0, .ref b)] := by rw [ex0]; exact hl
  refine lv_astore_n (lv' := [(2, .ref (adM 0)), (1, .ref (adX 0)), (0, .ref b)]) hx hb dL_law_15 rfl hl (by decide) (by rw [em0]; rfl) (fun ls hl => ?_)
  refine lv_iconst hx hb dL_law_16 ci_0 ?_
  refine lv_istore_n (lv' := [(3, .int 0), (2, .ref (adM 0)), (1, .ref (adX 0)), (0, .ref b)]) hx hb dL_law_17 rfl hl (by decide) rfl (fun ls hl => ?_)
  exact law_loop C hX hbl hF hL hr hlocks hE (L + 1) 0 0 (by omega) nI_0.symm (by omega) σX σM _ _ ls hR0 ⟨hPX, hPM, hS⟩ (lv_sub hl [3, 2, 1, 0] rfl)
