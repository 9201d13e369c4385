set_option maxRecDepth 100000 in
set_option maxHeartbeats 4000000 in
theorem c_X10_gap (l : Launch) (D : va_G) (t : gT) (ad z : Nat → Nat) (hJ : gJ shM ad) (σ : gS) (x1 : Int32) (x2 : Int32) (q : Int32 × gS) (h : f_X10_gap σ x1 x2 = some q) : Met l yX10_gap (Cond.code yX10_gap cX10_gap 4 (some .int) :: lw_tb) (gR 6 174) (gPc shM t ad D z [.ref (ad 0), .int x1, .int x2] σ) (gQi shM t ad D q.1 q.2) 0 0 (gA shM ad) := by
  refine gMet "NineKeysRoundModel" rfl (by decide) hJ (Nat.le_of_ble_eq_true rfl) ?_
  intro p e s m below meth c ls C hr hI hl
  have hx := C.1
  have hb := C.2.1
  have hl : lv_has ls 4 [(0, .ref (ad 0)), (1, .int x1), (2, .int x2)] := hl
  unfold f_X10_gap at h
  refine lv_iload_n hx hb dX10_gap_0 rfl (lv_at hl 1 rfl) ?_
  refine h_callsi_o (rest := []) C hI hl.1 ys_X10_isShelf k_1237 h (fun q hq => c_X10_isShelf l D t ad z C.2.2.2.2.2.2.1 (σ) x1 q hq) (As := [.int x1]) rfl rfl ⟨Nat.le_of_ble_eq_true rfl, Nat.le_of_ble_eq_true rfl⟩ (Nat.le_of_ble_eq_true rfl) dX10_gap_1 (fun q1 H locs h hI => ?_)
  refine hif_eq (tgt := 16) C dX10_gap_4 (by decide) h (fun h => ?_) (fun h => ?_)
  · refine lv_iconst hx hb dX10_gap_16 ci_m1 ?_
    exact h_iret_w C hr hI h dX10_gap_17
  · refine lv_aload_n hx hb dX10_gap_7 rfl (lv_at hl 0 rfl) ?_
    refine lv_iload_n hx hb dX10_gap_8 rfl (lv_at hl 2 rfl) ?_
    refine lv_i2l (v := ((x2 : Int32).toInt64)) hx hb dX10_gap_9 rfl ?_
    refine h_callvi_o (rest := []) C hI hl.1 shM_0 rfl yv_X10_isPost k_1252 h (fun q hq => c_X10_isPost l D t ad z C.2.2.2.2.2.2.1 (σ) ((x2 : Int32).toInt64) q hq) (As := [.long ((x2 : Int32).toInt64)]) rfl rfl ⟨Nat.le_of_ble_eq_true rfl, Nat.le_of_ble_eq_true rfl⟩ (Nat.le_of_ble_eq_true rfl) dX10_gap_10 (fun q2 H locs h hI => ?_)
    refine hif_ne (tgt := 18) C dX10_gap_13 (by decide) h (fun h => ?_) (fun h => ?_)
    · refine lv_aload_n hx hb dX10_gap_18 rfl (lv_at hl 0 rfl) ?_
      refine lv_iload_n hx hb dX10_gap_19 rfl (lv_at hl 1 rfl) ?_
      refine lv_iconst hx hb dX10_gap_20 ci_0 ?_
      refine h_callvi_o (rest := []) C hI hl.1 shM_0 rfl yv_X10_noRow k_1338 h (fun q hq => c_X10_noRow l D t ad z C.2.2.2.2.2.2.1 (σ) x1 0 q hq) (As := [.int x1, .int 0]) rfl rfl ⟨Nat.le_of_ble_eq_true rfl, Nat.le_of_ble_eq_true rfl⟩ (Nat.le_of_ble_eq_true rfl) dX10_gap_21 (fun q3 H locs h hI => ?_)
      refine lv_istore_n (lv' := [(3, .int q3), (0, .ref (ad 0)), (1, .int x1), (2, .int x2)]) hx hb dX10_gap_24 rfl hl (by decide) rfl (fun ls hl => ?_)
      refine lv_iload_n hx hb dX10_gap_25 rfl (lv_at hl 0 rfl) ?_
      refine hif_ge (tgt := 31) C dX10_gap_26 (by decide) h (fun h => ?_) (fun h => ?_)
      · refine lv_aload_n hx hb dX10_gap_31 rfl (lv_at hl 1 rfl) ?_
        refine lv_iload_n hx hb dX10_gap_32 rfl (lv_at hl 2 rfl) ?_
        refine h_callvv_w (rest := []) C hI hl.1 shM_0 rfl yv_X10_reads k_1342 h (fun q hq => c_X10_reads l D t ad z C.2.2.2.2.2.2.1 (σ) x1 q hq) (As := [.int x1]) rfl rfl ⟨Nat.le_of_ble_eq_true rfl, Nat.le_of_ble_eq_true rfl⟩ (Nat.le_of_ble_eq_true rfl) dX10_gap_33 (fun q4 H locs h hI => ?_)
        refine lv_aload_n hx hb dX10_gap_36 rfl (lv_at hl 1 rfl) ?_
        refine lv_iload_n hx hb dX10_gap_37 rfl (lv_at hl 3 rfl) ?_
        refine h_callvi_o (rest := []) C hI hl.1 shM_0 rfl yv_X10_gapOf k_1427 h (fun q hq => c_X10_gapOf l D t ad z C.2.2.2.2.2.2.1 q4 x2 q hq) (As := [.int x2]) rfl rfl ⟨Nat.le_of_ble_eq_true rfl, Nat.le_of_ble_eq_true rfl⟩ (Nat.le_of_ble_eq_true rfl) dX10_gap_38 (fun q5 H locs h hI => ?_)
        exact h_iret_w C hr hI h dX10_gap_41
      · refine lv_iload_n hx hb dX10_gap_29 rfl (lv_at hl 0 rfl) ?_
        exact h_iret_w C hr hI h dX10_gap_30
    · refine lv_iconst hx hb dX10_gap_16 ci_m1 ?_
      exact h_iret_w C hr hI h dX10_gap_17
set_option maxRecDepth 100000 in
set_option maxHeartbeats 4000000 in
theorem w_X10_late_68 {p : Program} {l : Launch} {e : Env} {s : State} {m : MethodId} {args : Array Value} {below : List Frame} {meth : Method} {c : Code} {D : va_G} {t : gT} {ad z : Nat → Nat} (C : gC p s m args meth c cX10_late 5 "NineKeysRoundModel" D t shM ad z) (hr : meth.sig.returnType = some .int) {r : Int32 × gS} (K_32 : Int32 → Int32 → gS → Option (Int32 × gS)) (hK_32 : ∀ (x3 : Int32) (x4 : Int32) (σ : gS) (H : Heap) (locs : List Loc) (ls : Array Slot), K_32 x3 x4 σ = some r → gI shM t ad D s.heap σ H locs → lv_has ls 5 [(0, .ref (ad 0)), (3, .int x3), (4, .int x4)] → W p l e (gR 6 174) s m args below meth c H locs 0 0 (MQ below (gQi shM t ad D r.1 r.2) args s 0 0 (gA shM ad)) (F0 m 32 ls [])) : ∀ (x3 : Int32) (x4 : Int32) (σ : gS) (H : Heap) (locs : List Loc) (ls : Array Slot), f_X10_late_68 K_32 x3 x4 σ = some r → gI shM t ad D s.heap σ H locs → lv_has ls 5 [(0, .ref (ad 0)), (3, .int x3), (4, .int x4)] → W p l e (gR 6 174) s m args below meth c H locs 0 0 (MQ below (gQi shM t ad D r.1 r.2) args s 0 0 (gA shM ad)) (F0 m 68 ls []) := by
  have hx := C.1
  have hb := C.2.1
  intro x3 x4 σ H locs ls  h hI hl
  unfold f_X10_late_68 at h
  refine lv_iload_n hx hb dX10_late_68 rfl (lv_at hl 1 rfl) ?_
  refine lv_iconst hx hb dX10_late_69 ci_1 ?_
  refine lv_iload hx hb dX10_late_70 (lv_at hl 2 rfl) ?_
  refine lv_ishl hx hb dX10_late_72 ?_
  refine lv_ior hx hb dX10_late_73 ?_
  refine gx_topi h (fun v1 h => ?_)
  refine lv_istore_n (lv' := [(3, .int v1), (0, .ref (ad 0)), (4, .int x4)]) hx hb dX10_late_74 rfl hl (by decide) rfl (fun ls hl => ?_)
  refine h_iinc C hl dX10_late_75 2 rfl ci_1 h (by decide) (lvf := fun v2 => [(4, .int v2), (3, .int v1), (0, .ref (ad 0))]) (fun _ => rfl) (fun v2 ls h hl => ?_)
  refine lv_goto (tgt := 32) hx hb dX10_late_78 (by decide) ?_
  exact hK_32 _ _ _ _ _ _  h hI (lv_sub hl [2, 1, 0] rfl)
set_option maxRecDepth 100000 in
set_option maxHeartbeats 4000000 in
theorem w_X10_late_32 {p : Program} {l : Launch} {e : Env} {s : State} {m : MethodId} {args : Array Value} {below : List Frame} {meth : Method} {c : Code} {D : va_G} {t : gT} {ad z : Nat → Nat} (C : gC p s m args meth c cX10_late 5 "NineKeysRoundModel" D t shM ad z) (hr : meth.sig.returnType = some .int) {r : Int32 × gS} : ∀ (n : Nat) (x3 : Int32) (x4 : Int32) (σ : gS) (H : Heap) (locs : List Loc) (ls : Array Slot), f_X10_late_32 n x3 x4 σ = some r → gI shM t ad D s.heap σ H locs → lv_has ls 5 [(0, .ref (ad 0)), (3, .int x3), (4, .int x4)] → W p l e (gR 6 174) s m args below meth c H locs 0 0 (MQ below (gQi shM t ad D r.1 r.2) args s 0 0 (gA shM ad)) (F0 m 32 ls []) := by
  have hx := C.1
  have hb := C.2.1
  intro n
  induction n with
  | zero =>
    intro x3 x4 σ H locs ls  h
    exact absurd h (by simp [f_X10_late_32])
  | succ n ih =>
    intro x3 x4 σ H locs ls  h hI hl
    unfold f_X10_late_32 at h
    refine lv_iload hx hb dX10_late_32 (lv_at hl 2 rfl) ?_
    refine lv_aload_n hx hb dX10_late_34 rfl (lv_at hl 0 rfl) ?_
    refine fg_1061 C hI shM_0 rfl dX10_late_35 ?_
    refine hicmp_ge (tgt := 81) C dX10_late_38 (by decide) h (fun h => ?_) (fun h => ?_)
    · refine lv_iload_n hx hb dX10_late_81 rfl (lv_at hl 1 rfl) ?_
      exact h_iret_w C hr hI h dX10_late_82
    · refine lv_aload_n hx hb dX10_late_41 rfl (lv_at hl 0 rfl) ?_
      refine lv_iload hx hb dX10_late_42 (lv_at hl 2 rfl) ?_
      refine h_callvi_o (rest := []) C hI hl.1 shM_0 rfl yv_X10_gapOf k_1427 h (fun q hq => c_X10_gapOf l D t ad z C.2.2.2.2.2.2.1 (σ) x4 q hq) (As := [.int x4]) rfl rfl ⟨Nat.le_of_ble_eq_true rfl, Nat.le_of_ble_eq_true rfl⟩ (Nat.le_of_ble_eq_true rfl) dX10_late_44 (fun q1 H locs h hI => ?_)
      refine lv_bipush hx hb dX10_late_47 cb_m2 ?_
      refine hicmp_eq (tgt := 68) C dX10_late_49 (by decide) h (fun h => ?_) (fun h => ?_)
      · exact w_X10_late_68 C hr   _ ih _ _ _ _ _ _  h hI (lv_sub hl [0, 1, 2] rfl)
      · refine lv_aload_n hx hb dX10_late_52 rfl (lv_at hl 0 rfl) ?_
        refine lv_iload hx hb dX10_late_53 (lv_at hl 2 rfl) ?_
        refine h_callvi_o (rest := []) C hI hl.1 shM_0 rfl yv_X10_gapOf k_1427 h (fun q hq => c_X10_gapOf l D t ad z C.2.2.2.2.2.2.1 (σ) x4 q hq) (As := [.int x4]) rfl rfl ⟨Nat.le_of_ble_eq_true rfl, Nat.le_of_ble_eq_true rfl⟩ (Nat.le_of_ble_eq_true rfl) dX10_late_55 (fun q2 H locs h hI => ?_)
        refine lv_aload_n hx hb dX10_late_58 rfl (lv_at hl 0 rfl) ?_
        refine fr_1065 C hI shM_0 rfl dX10_late_59 ?_
        refine lv_iload hx hb dX10_late_62 (lv_at hl 2 rfl) ?_
        refine gx_iald C hI shM_4 h dX10_late_64 (fun h => ?_)
        refine hicmp_le (tgt := 75) C dX10_late_65 (by decide) h (fun h => ?_) (fun h => ?_)
        · refine h_iinc C hl dX10_late_75 2 rfl ci_1 h (by decide) (lvf := fun v3 => [(4, .int v3), (0, .ref (ad 0)), (3, .int x3)]) (fun _ => rfl) (fun v3 ls h hl => ?_)
          refine lv_goto (tgt := 32) hx hb dX10_late_78 (by decide) ?_
          exact ih _ _ _ _ _ _  h hI (lv_sub hl [1, 2, 0] rfl)
        · exact w_X10_late_68 C hr   _ ih _ _ _ _ _ _  h hI (lv_sub hl [0, 1, 2] rfl)
set_option maxRecDepth 100000 in
set_option maxHeartbeats 4000000 in
theorem c_X10_late (l : Launch) (D : va_G) (t : gT) (ad z : Nat → Nat) (hJ : gJ shM ad) (σ : gS) (x1 : Int32) (q : Int32 × gS) (h : f_X10_late σ x1 = some q) : Met l yX10_late (Cond.code yX10_late cX10_late 5 (some .int) :: lw_tb) (gR 6 174) (gPc shM t ad D z [.ref (ad 0), .int x1] σ) (gQi shM t ad D q.1 q.2) 0 0 (gA shM ad) := by
  refine gMet "NineKeysRoundModel" rfl (by decide) hJ (Nat.le_of_ble_eq_true rfl) ?_
  intro p e s m below meth c ls C hr hI hl
  have hx := C.1
  have hb := C.2.1
  have hl : lv_has ls 5 [(0, .ref (ad 0)), (1, .int x1)] := hl
  unfold f_X10_late at h
  refine lv_iload_n hx hb dX10_late_0 rfl (lv_at hl 1 rfl) ?_
  refine h_callsi_o (rest := []) C hI hl.1 ys_X10_isShelf k_1237 h (fun q hq => c_X10_isShelf l D t ad z C.2.2.2.2.2.2.1 (σ) x1 q hq) (As := [.int x1]) rfl rfl ⟨Nat.le_of_ble_eq_true rfl, Nat.le_of_ble_eq_true rfl⟩ (Nat.le_of_ble_eq_true rfl) dX10_late_1 (fun q1 H locs h hI => ?_)
  refine hif_ne (tgt := 9) C dX10_late_4 (by decide) h (fun h => ?_) (fun h => ?_)
  · refine lv_aload_n hx hb dX10_late_9 rfl (lv_at hl 0 rfl) ?_
    refine lv_iload_n hx hb dX10_late_10 rfl (lv_at hl 1 rfl) ?_
    refine lv_iconst hx hb dX10_late_11 ci_0 ?_
    refine h_callvi_o (rest := []) C hI hl.1 shM_0 rfl yv_X10_noRow k_1338 h (fun q hq => c_X10_noRow l D t ad z C.2.2.2.2.2.2.1 (σ) x1 0 q hq) (As := [.int x1, .int 0]) rfl rfl ⟨Nat.le_of_ble_eq_true rfl, Nat.le_of_ble_eq_true rfl⟩ (Nat.le_of_ble_eq_true rfl) dX10_late_12 (fun q2 H locs h hI => ?_)
    refine lv_istore_n (lv' := [(2, .int q2), (0, .ref (ad 0)), (1, .int x1)]) hx hb dX10_late_15 rfl hl (by decide) rfl (fun ls hl => ?_)
    refine lv_iload_n hx hb dX10_late_16 rfl (lv_at hl 0 rfl) ?_
    refine hif_ge (tgt := 22) C dX10_late_17 (by decide) h (fun h => ?_) (fun h => ?_)
    · refine lv_aload_n hx hb dX10_late_22 rfl (lv_at hl 1 rfl) ?_
      refine lv_iload_n hx hb dX10_late_23 rfl (lv_at hl 2 rfl) ?_
      refine h_callvv_w (rest := []) C hI hl.1 shM_0 rfl yv_X10_reads k_1342 h (fun q hq => c_X10_reads l D t ad z C.2.2.2.2.2.2.1 (σ) x1 q hq) (As := [.int x1]) rfl rfl ⟨Nat.le_of_ble_eq_true rfl, Nat.le_of_ble_eq_true rfl⟩ (Nat.le_of_ble_eq_true rfl) dX10_late_24 (fun q3 H locs h hI => ?_)
      refine lv_iconst hx hb dX10_late_27 ci_0 ?_
      refine lv_istore_n (lv' := [(3, .int 0), (2, .int q2), (0, .ref (ad 0)), (1, .int x1)]) hx hb dX10_late_28 rfl hl (by decide) rfl (fun ls hl => ?_)
      refine lv_iconst hx hb dX10_late_29 ci_0 ?_
      refine lv_istore (lv' := [(4, .int 0), (3, .int 0), (2, .int q2), (0, .ref (ad 0)), (1, .int x1)]) hx hb dX10_late_30 hl (by decide) rfl (fun ls hl => ?_)
      exact w_X10_late_32 C hr    _ _ _ _ _ _ _  h hI (lv_sub hl [3, 1, 0] rfl)
    · refine lv_iload_n hx hb dX10_late_20 rfl (lv_at hl 0 rfl) ?_
      exact h_iret_w C hr hI h dX10_late_21
  · refine lv_iconst hx hb dX10_late_7 ci_m1 ?_
    exact h_iret_w C hr hI h dX10_late_8
set_option maxRecDepth 100000 in
set_option maxHeartbeats 4000000 in
theorem c_X10_exchange (l : Launch) (D : va_G) (t : gT) (ad z : Nat → Nat) (hJ : gJ shM ad) (σ : gS) (x1 : Int32) (x2 : Int32) (q : gS) (h : f_X10_exchange σ x1 x2 = some q) : Met l yX10_exchange (Cond.code yX10_exchange cX10_exchange 4 (none) :: lw_tb) (gR 1 60) (gPc shM t ad D z [.ref (ad 0), .int x1, .int x2] σ) (gQv shM t ad D q) 0 0 (gA shM ad) := by
  refine gMet "NineKeysRoundModel" rfl (by decide) hJ (Nat.le_of_ble_eq_true rfl) ?_
  intro p e s m below meth c ls C hr hI hl
  have hx := C.1
  have hb := C.2.1
  have hl : lv_has ls 4 [(0, .ref (ad 0)), (1, .int x1), (2, .int x2)] := hl
  unfold f_X10_exchange at h
  refine lv_aload_n hx hb dX10_exchange_0 rfl (lv_at hl 0 rfl) ?_
  refine fr_1113 C hI shM_0 rfl dX10_exchange_1 ?_
  refine lv_iload_n hx hb dX10_exchange_4 rfl (lv_at hl 1 rfl) ?_
  refine gx_iald C hI shM_33 h dX10_exchange_5 (fun h => ?_)
  refine gx_topi h (fun v1 h => ?_)
  refine lv_istore_n (lv' := [(3, .int v1), (0, .ref (ad 0)), (1, .int x1), (2, .int x2)]) hx hb dX10_exchange_6 rfl hl (by decide) rfl (fun ls hl => ?_)
  refine lv_aload_n hx hb dX10_exchange_7 rfl (lv_at hl 1 rfl) ?_
  refine fr_1113 C hI shM_0 rfl dX10_exchange_8 ?_
  refine lv_iload_n hx hb dX10_exchange_11 rfl (lv_at hl 2 rfl) ?_
  refine lv_aload_n hx hb dX10_exchange_12 rfl (lv_at hl 1 rfl) ?_
  refine fr_1113 C hI shM_0 rfl dX10_exchange_13 ?_
  refine lv_iload_n hx hb dX10_exchange_16 rfl (lv_at hl 3 rfl) ?_
  refine gx_iald C hI shM_33 h dX10_exchange_17 (fun h => ?_)
  refine gx_iast C hI shM_33 h dX10_exchange_18 (fun H locs h hI => ?_)
  refine gx_st h hI (fun s2 h hI => ?_)
  refine lv_aload_n hx hb dX10_exchange_19 rfl (lv_at hl 1 rfl) ?_
  refine fr_1113 C hI shM_0 rfl dX10_exchange_20 ?_
  refine lv_iload_n hx hb dX10_exchange_23 rfl (lv_at hl 3 rfl) ?_
  refine lv_iload_n hx hb dX10_exchange_24 rfl (lv_at hl 0 rfl) ?_
  refine gx_iast C hI shM_33 h dX10_exchange_25 (fun H locs h hI => ?_)
  refine gx_st h hI (fun s3 h hI => ?_)
  exact h_vret_w C hr hI h dX10_exchange_26
set_option maxRecDepth 100000 in
set_option maxHeartbeats 4000000 in
theorem w_X10_nextOrder_78 {p : Program} {l : Launch} {e : Env} {s : State} {m : MethodId} {args : Array Value} {below : List Frame} {meth : Method} {c : Code} {D : va_G} {t : gT} {ad z : Nat → Nat} (C : gC p s m args meth c cX10_nextOrder 6 "NineKeysRoundModel" D t shM ad z) (hr : meth.sig.returnType = some .boolean) {r : Int32 × gS} : ∀ (n : Nat) (x4 : Int32) (x5 : Int32) (σ : gS) (H : Heap) (locs : List Loc) (ls : Array Slot), f_X10_nextOrder_78 n x4 x5 σ = some r → gI shM t ad D s.heap σ H locs → lv_has ls 6 [(0, .ref (ad 0)), (4, .int x4), (5, .int x5)] → W p l e (gR 2 83) s m args below meth c H locs 0 0 (MQ below (gQi shM t ad D r.1 r.2) args s 0 0 (gA shM ad)) (F0 m 78 ls []) := by
  have hx := C.1
  have hb := C.2.1
  intro n
  induction n with
  | zero =>
    intro x4 x5 σ H locs ls  h
    exact absurd h (by simp [f_X10_nextOrder_78])
  | succ n ih =>
    intro x4 x5 σ H locs ls  h hI hl
    unfold f_X10_nextOrder_78 at h
    refine lv_iload hx hb dX10_nextOrder_78 (lv_at hl 1 rfl) ?_
    refine lv_iload hx hb dX10_nextOrder_80 (lv_at hl 2 rfl) ?_
    refine hicmp_ge (tgt := 102) C dX10_nextOrder_82 (by decide) h (fun h => ?_) (fun h => ?_)
    · refine lv_iconst hx hb dX10_nextOrder_102 ci_1 ?_
      exact h_zret_w C hr hI h dX10_nextOrder_103
    · refine lv_aload_n hx hb dX10_nextOrder_85 rfl (lv_at hl 0 rfl) ?_
      refine lv_iload hx hb dX10_nextOrder_86 (lv_at hl 1 rfl) ?_
      refine lv_iload hx hb dX10_nextOrder_88 (lv_at hl 2 rfl) ?_
      refine h_callvv_w (rest := []) C hI hl.1 shM_0 rfl yv_X10_exchange k_1456 h (fun q hq => c_X10_exchange l D t ad z C.2.2.2.2.2.2.1 (σ) x4 x5 q hq) (As := [.int x4, .int x5]) rfl rfl ⟨Nat.le_of_ble_eq_true rfl, Nat.le_of_ble_eq_true rfl⟩ (Nat.le_of_ble_eq_true rfl) dX10_nextOrder_90 (fun q1 H locs h hI => ?_)
      refine h_iinc C hl dX10_nextOrder_93 1 rfl ci_1 h (by decide) (lvf := fun v2 => [(4, .int v2), (0, .ref (ad 0)), (5, .int x5)]) (fun _ => rfl) (fun v2 ls h hl => ?_)
      refine h_iinc C hl dX10_nextOrder_96 2 rfl ci_m1 h (by decide) (lvf := fun v3 => [(5, .int v3), (4, .int v2), (0, .ref (ad 0))]) (fun _ => rfl) (fun v3 ls h hl => ?_)
      refine lv_goto (tgt := 78) hx hb dX10_nextOrder_99 (by decide) ?_
      exact ih _ _ _ _ _ _  h hI (lv_sub hl [2, 1, 0] rfl)
set_option maxRecDepth 100000 in
set_option maxHeartbeats 4000000 in
theorem w_X10_nextOrder_41 {p : Program} {l : Launch} {e : Env} {s : State} {m : MethodId} {args : Array Value} {below : List Frame} {meth : Method} {c : Code} {D : va_G} {t : gT} {ad z : Nat → Nat} (C : gC p s m args meth c cX10_nextOrder 6 "NineKeysRoundModel" D t shM ad z) (hr : meth.sig.returnType = some .boolean) {r : Int32 × gS} : ∀ (n : Nat) (x1 : Int32) (x2 : Int32) (x3 : Int32) (σ : gS) (H : Heap) (locs : List Loc) (ls : Array Slot), f_X10_nextOrder_41 n x1 x2 x3 σ = some r → gI shM t ad D s.heap σ H locs → lv_has ls 6 [(0, .ref (ad 0)), (1, .int x1), (2, .int x2), (3, .int x3)] → W p l e (gR 2 83) s m args below meth c H locs 0 0 (MQ below (gQi shM t ad D r.1 r.2) args s 0 0 (gA shM ad)) (F0 m 41 ls []) := by
  have hx := C.1
  have hb := C.2.1
  intro n
  induction n with
  | zero =>
    intro x1 x2 x3 σ H locs ls  h
    exact absurd h (by simp [f_X10_nextOrder_41])
  | succ n ih =>
    intro x1 x2 x3 σ H locs ls  h hI hl
    unfold f_X10_nextOrder_41 at h
    refine lv_aload_n hx hb dX10_nextOrder_41 rfl (lv_at hl 0 rfl) ?_
    refine fr_1113 C hI shM_0 rfl dX10_nextOrder_42 ?_
    refine lv_iload_n hx hb dX10_nextOrder_45 rfl (lv_at hl 3 rfl) ?_
    refine gx_iald C hI shM_33 h dX10_nextOrder_46 (fun h => ?_)
    refine lv_aload_n hx hb dX10_nextOrder_47 rfl (lv_at hl 0 rfl) ?_
    refine fr_1113 C hI shM_0 rfl dX10_nextOrder_48 ?_
    refine lv_iload_n hx hb dX10_nextOrder_51 rfl (lv_at hl 2 rfl) ?_
    refine gx_iald C hI shM_33 h dX10_nextOrder_52 (fun h => ?_)
    refine hicmp_ge (tgt := 62) C dX10_nextOrder_53 (by decide) h (fun h => ?_) (fun h => ?_)
    · refine lv_aload_n hx hb dX10_nextOrder_62 rfl (lv_at hl 0 rfl) ?_
      refine lv_iload_n hx hb dX10_nextOrder_63 rfl (lv_at hl 2 rfl) ?_
      refine lv_iload_n hx hb dX10_nextOrder_64 rfl (lv_at hl 3 rfl) ?_
      refine h_callvv_w (rest := []) C hI hl.1 shM_0 rfl yv_X10_exchange k_1456 h (fun q hq => c_X10_exchange l D t ad z C.2.2.2.2.2.2.1 (σ) x2 x3 q hq) (As := [.int x2, .int x3]) rfl rfl ⟨Nat.le_of_ble_eq_true rfl, Nat.le_of_ble_eq_true rfl⟩ (Nat.le_of_ble_eq_true rfl) dX10_nextOrder_65 (fun q1 H locs h hI => ?_)
      refine lv_iload_n hx hb dX10_nextOrder_68 rfl (lv_at hl 2 rfl) ?_
      refine lv_iconst hx hb dX10_nextOrder_69 ci_1 ?_
      refine lv_iadd hx hb dX10_nextOrder_70 ?_
      refine gx_topi h (fun v2 h => ?_)
      refine lv_istore (lv' := [(4, .int v2), (0, .ref (ad 0)), (1, .int x1), (2, .int x2), (3, .int x3)]) hx hb dX10_nextOrder_71 hl (by decide) rfl (fun ls hl => ?_)
      refine lv_iload_n hx hb dX10_nextOrder_73 rfl (lv_at hl 2 rfl) ?_
      refine lv_iconst hx hb dX10_nextOrder_74 ci_1 ?_
      refine lv_isub hx hb dX10_nextOrder_75 ?_
      refine gx_topi h (fun v3 h => ?_)
      refine lv_istore (lv' := [(5, .int v3), (4, .int v2), (0, .ref (ad 0)), (1, .int x1), (2, .int x2), (3, .int x3)]) hx hb dX10_nextOrder_76 hl (by decide) rfl (fun ls hl => ?_)
      exact w_X10_nextOrder_78 C hr    _ _ _ _ _ _ _  h hI (lv_sub hl [2, 1, 0] rfl)
    · refine h_iinc C hl dX10_nextOrder_56 3 rfl ci_m1 h (by decide) (lvf := fun v4 => [(3, .int v4), (0, .ref (ad 0)), (1, .int x1), (2, .int x2)]) (fun _ => rfl) (fun v4 ls h hl => ?_)
      refine lv_goto (tgt := 41) hx hb dX10_nextOrder_59 (by decide) ?_
      exact ih _ _ _ _ _ _ _  h hI (lv_sub hl [1, 2, 3, 0] rfl)
set_option maxRecDepth 100000 in
set_option maxHeartbeats 4000000 in
theorem w_X10_nextOrder_31 {p : Program} {l : Launch} {e : Env} {s : State} {m : MethodId} {args : Array Value} {below : List Frame} {meth : Method} {c : Code} {D : va_G} {t : gT} {ad z : Nat → Nat} (C : gC p s m args meth c cX10_nextOrder 6 "NineKeysRoundModel" D t shM ad z) (hr : meth.sig.returnType = some .boolean) {r : Int32 × gS} : ∀ (x1 : Int32) (x2 : Int32) (σ : gS) (H : Heap) (locs : List Loc) (ls : Array Slot), f_X10_nextOrder_31 x1 x2 σ = some r → gI shM t ad D s.heap σ H locs → lv_has ls 6 [(0, .ref (ad 0)), (1, .int x1), (2, .int x2)] → W p l e (gR 2 83) s m args below meth c H locs 0 0 (MQ below (gQi shM t ad D r.1 r.2) args s 0 0 (gA shM ad)) (F0 m 31 ls []) := by
  have hx := C.1
  have hb := C.2.1
  intro x1 x2 σ H locs ls  h hI hl
  unfold f_X10_nextOrder_31 at h
  refine lv_iload_n hx hb dX10_nextOrder_31 rfl (lv_at hl 2 rfl) ?_
  refine hif_ge (tgt := 37) C dX10_nextOrder_32 (by decide) h (fun h => ?_) (fun h => ?_)
  · refine lv_iload_n hx hb dX10_nextOrder_37 rfl (lv_at hl 1 rfl) ?_
    refine lv_iconst hx hb dX10_nextOrder_38 ci_1 ?_
    refine lv_isub hx hb dX10_nextOrder_39 ?_
    refine gx_topi h (fun v1 h => ?_)
    refine lv_istore_n (lv' := [(3, .int v1), (0, .ref (ad 0)), (1, .int x1), (2, .int x2)]) hx hb dX10_nextOrder_40 rfl hl (by decide) rfl (fun ls hl => ?_)
    exact w_X10_nextOrder_41 C hr    _ _ _ _ _ _ _ _  h hI (lv_sub hl [1, 2, 3, 0] rfl)
  · refine lv_iconst hx hb dX10_nextOrder_35 ci_0 ?_
    exact h_zret_w C hr hI h dX10_nextOrder_36
set_option maxRecDepth 100000 in
set_option maxHeartbeats 4000000 in
theorem w_X10_nextOrder_4 {p : Program} {l : Launch} {e : Env} {s : State} {m : MethodId} {args : Array Value} {below : List Frame} {meth : Method} {c : Code} {D : va_G} {t : gT} {ad z : Nat → Nat} (C : gC p s m args meth c cX10_nextOrder 6 "NineKeysRoundModel" D t shM ad z) (hr : meth.sig.returnType = some .boolean) {r : Int32 × gS} : ∀ (n : Nat) (x1 : Int32) (x2 : Int32) (σ : gS) (H : Heap) (locs : List Loc) (ls : Array Slot), f_X10_nextOrder_4 n x1 x2 σ = some r → gI shM t ad D s.heap σ H locs → lv_has ls 6 [(0, .ref (ad 0)), (1, .int x1), (2, .int x2)] → W p l e (gR 2 83) s m args below meth c H locs 0 0 (MQ below (gQi shM t ad D r.1 r.2) args s 0 0 (gA shM ad)) (F0 m 4 ls []) := by
  have hx := C.1
  have hb := C.2.1
  intro n
  induction n with
  | zero =>
    intro x1 x2 σ H locs ls  h
    exact absurd h (by simp [f_X10_nextOrder_4])
  | succ n ih =>
    intro x1 x2 σ H locs ls  h hI hl
    unfold f_X10_nextOrder_4 at h
    refine lv_iload_n hx hb dX10_nextOrder_4 rfl (lv_at hl 2 rfl) ?_
    refine hif_lt (tgt := 31) C dX10_nextOrder_5 (by decide) h (fun h => ?_) (fun h => ?_)
    · exact w_X10_nextOrder_31 C hr    _ _ _ _ _ _  h hI (lv_sub hl [0, 1, 2] rfl)
    · refine lv_aload_n hx hb dX10_nextOrder_8 rfl (lv_at hl 0 rfl) ?_
      refine fr_1113 C hI shM_0 rfl dX10_nextOrder_9 ?_
      refine lv_iload_n hx hb dX10_nextOrder_12 rfl (lv_at hl 2 rfl) ?_
      refine gx_iald C hI shM_33 h dX10_nextOrder_13 (fun h => ?_)
      refine lv_aload_n hx hb dX10_nextOrder_14 rfl (lv_at hl 0 rfl) ?_
      refine fr_1113 C hI shM_0 rfl dX10_nextOrder_15 ?_
      refine lv_iload_n hx hb dX10_nextOrder_18 rfl (lv_at hl 2 rfl) ?_
      refine lv_iconst hx hb dX10_nextOrder_19 ci_1 ?_
      refine lv_iadd hx hb dX10_nextOrder_20 ?_
      refine gx_iald C hI shM_33 h dX10_nextOrder_21 (fun h => ?_)
      refine hicmp_le (tgt := 31) C dX10_nextOrder_22 (by decide) h (fun h => ?_) (fun h => ?_)
      · exact w_X10_nextOrder_31 C hr    _ _ _ _ _ _  h hI (lv_sub hl [0, 1, 2] rfl)
      · refine h_iinc C hl dX10_nextOrder_25 2 rfl ci_m1 h (by decide) (lvf := fun v1 => [(2, .int v1), (0, .ref (ad 0)), (1, .int x1)]) (fun _ => rfl) (fun v1 ls h hl => ?_)
        refine lv_goto (tgt := 4) hx hb dX10_nextOrder_28 (by decide) ?_
        exact ih _ _ _ _ _ _  h hI (lv_sub hl [1, 2, 0] rfl)
set_option maxRecDepth 100000 in
set_option maxHeartbeats 4000000 in
theorem c_X10_nextOrder (l : Launch) (D : va_G) (t : gT) (ad z : Nat → Nat) (hJ : gJ shM ad) (σ : gS) (x1 : Int32) (q : Int32 × gS) (h : f_X10_nextOrder σ x1 = some q) : Met l yX10_nextOrder (Cond.code yX10_nextOrder cX10_nextOrder 6 (some .boolean) :: lw_tb) (gR 2 83) (gPc shM t ad D z [.ref (ad 0), .int x1] σ) (gQi shM t ad D q.1 q.2) 0 0 (gA shM ad) := by
  refine gMet "NineKeysRoundModel" rfl (by decide) hJ (Nat.le_of_ble_eq_true rfl) ?_
  intro p e s m below meth c ls C hr hI hl
  have hx := C.1
  have hb := C.2.1
  have hl : lv_has ls 6 [(0, .ref (ad 0)), (1, .int x1)] := hl
  unfold f_X10_nextOrder at h
  refine lv_iload_n hx hb dX10_nextOrder_0 rfl (lv_at hl 1 rfl) ?_
  refine lv_iconst hx hb dX10_nextOrder_1 ci_2 ?_
  refine lv_isub hx hb dX10_nextOrder_2 ?_
  refine gx_topi h (fun v1 h => ?_)
  refine lv_istore_n (lv' := [(2, .int v1), (0, .ref (ad 0)), (1, .int x1)]) hx hb dX10_nextOrder_3 rfl hl (by decide) rfl (fun ls hl => ?_)
  exact w_X10_nextOrder_4 C hr    _ _ _ _ _ _ _  h hI (lv_sub hl [1, 2, 0] rfl)
set_option maxRecDepth 100000 in
set_option maxHeartbeats 4000000 in
theorem w_X10_took_7 {p : Program} {l : Launch} {e : Env} {s : State} {m : MethodId} {args : Array Value} {below : List Frame} {meth : Method} {c : Code} {D : va_G} {t : gT} {ad z : Nat → Nat} {σ : gS} (C : gC p s m args meth c cX10_took 5 "NineKeysRoundModel" D t shM ad z) (hr : meth.sig.returnType = some .int) {r : Int32} : ∀ (n : Nat) (x1 : Int32) (x2 : Int32) (x3 : Int32) (x4 : Int32) (H : Heap) (locs : List Loc) (ls : Array Slot), f_X10_took_7 σ n x1 x2 x3 x4 = some r → gI shM t ad D s.heap σ H locs → lv_has ls 5 [(0, .ref (ad 0)), (1, .int x1), (2, .int x2), (3, .int x3), (4, .int x4)] → W p l e (gR 4 125) s m args below meth c H locs 0 0 (MQ below (gQi shM t ad D r σ) args s 0 0 (gA shM ad)) (F0 m 7 ls []) := by
  have hx := C.1
  have hb := C.2.1
  intro n
  induction n with
  | zero =>
    intro x1 x2 x3 x4 H locs ls  h
    exact absurd h (by simp [f_X10_took_7])
  | succ n ih =>
    intro x1 x2 x3 x4 H locs ls  h hI hl
    unfold f_X10_took_7 at h
    refine lv_iload hx hb dX10_took_7 (lv_at hl 4 rfl) ?_
    refine lv_iload_n hx hb dX10_took_9 rfl (lv_at hl 1 rfl) ?_
    refine hicmp_ge (tgt := 49) C dX10_took_10 (by decide) h (fun h => ?_) (fun h => ?_)
    · refine lv_iload_n hx hb dX10_took_49 rfl (lv_at hl 2 rfl) ?_
      refine lv_aload_n hx hb dX10_took_50 rfl (lv_at hl 0 rfl) ?_
      refine lv_iload_n hx hb dX10_took_51 rfl (lv_at hl 3 rfl) ?_
      refine lv_iconst hx hb dX10_took_52 ci_m1 ?_
      refine h_callvi_o (rest := [.int x2]) C hI hl.1 shM_0 rfl yv_X10_minutes k_1354 h (fun q hq => c_X10_minutes l D t ad z C.2.2.2.2.2.2.1 (σ) x3 (-1) q hq) (As := [.int x3, .int (-1)]) rfl rfl ⟨Nat.le_of_ble_eq_true rfl, Nat.le_of_ble_eq_true rfl⟩ (Nat.le_of_ble_eq_true rfl) dX10_took_53 (fun q1 H locs h hI => ?_)
      refine lv_iadd hx hb dX10_took_56 ?_
      exact h_iret_o C hr hI h dX10_took_57
    · refine lv_iload_n hx hb dX10_took_13 rfl (lv_at hl 2 rfl) ?_
      refine lv_aload_n hx hb dX10_took_14 rfl (lv_at hl 0 rfl) ?_
      refine lv_iload_n hx hb dX10_took_15 rfl (lv_at hl 3 rfl) ?_
      refine lv_aload_n hx hb dX10_took_16 rfl (lv_at hl 0 rfl) ?_
      refine fr_1113 C hI shM_0 rfl dX10_took_17 ?_
      refine lv_iload hx hb dX10_took_20 (lv_at hl 4 rfl) ?_
      refine gx_iald C hI shM_33 h dX10_took_22 (fun h => ?_)
      refine h_callvi_o (rest := [.int x2]) C hI hl.1 shM_0 rfl yv_X10_minutes k_1354 h (fun q hq => c_X10_minutes l D t ad z C.2.2.2.2.2.2.1 (σ) x3 (σ.1 33 (x4).toNatClampNeg) q hq) (As := [.int x3, .int (σ.1 33 (x4).toNatClampNeg)]) rfl rfl ⟨Nat.le_of_ble_eq_true rfl, Nat.le_of_ble_eq_true rfl⟩ (Nat.le_of_ble_eq_true rfl) dX10_took_23 (fun q2 H locs h hI => ?_)
      refine lv_aload_n hx hb dX10_took_26 rfl (lv_at hl 0 rfl) ?_
      refine fr_1066 C hI shM_0 rfl dX10_took_27 ?_
      refine lv_iconst hx hb dX10_took_30 ci_3 ?_
      refine gx_iald C hI shM_5 h dX10_took_31 (fun h => ?_)
      refine lv_iadd hx hb dX10_took_32 ?_
      refine lv_iadd hx hb dX10_took_33 ?_
      refine gx_topi h (fun v3 h => ?_)
      refine lv_istore_n (lv' := [(2, .int v3), (0, .ref (ad 0)), (1, .int x1), (3, .int x3), (4, .int x4)]) hx hb dX10_took_34 rfl hl (by decide) rfl (fun ls hl => ?_)
      refine lv_aload_n hx hb dX10_took_35 rfl (lv_at hl 1 rfl) ?_
      refine fr_1113 C hI shM_0 rfl dX10_took_36 ?_
      refine lv_iload hx hb dX10_took_39 (lv_at hl 4 rfl) ?_
      refine gx_iald C hI shM_33 h dX10_took_41 (fun h => ?_)
      refine gx_topi h (fun v4 h => ?_)
      refine lv_istore_n (lv' := [(3, .int v4), (2, .int v3), (0, .ref (ad 0)), (1, .int x1), (4, .int x4)]) hx hb dX10_took_42 rfl hl (by decide) rfl (fun ls hl => ?_)
      refine h_iinc C hl dX10_took_43 4 rfl ci_1 h (by decide) (lvf := fun v5 => [(4, .int v5), (3, .int v4), (2, .int v3), (0, .ref (ad 0)), (1, .int x1)]) (fun _ => rfl) (fun v5 ls h hl => ?_)
      refine lv_goto (tgt := 7) hx hb dX10_took_46 (by decide) ?_
      exact ih _ _ _ _ _ _ _  h hI (lv_sub hl [3, 4, 2, 1, 0] rfl)
set_option maxRecDepth 100000 in
set_option maxHeartbeats 4000000 in
theorem c_X10_took (l : Launch) (D : va_G) (t : gT) (ad z : Nat → Nat) (hJ : gJ shM ad) (σ : gS) (x1 : Int32) (q : Int32) (h : f_X10_took σ x1 = some q) : Met l yX10_took (Cond.code yX10_took cX10_took 5 (some .int) :: lw_tb) (gR 4 125) (gPc shM t ad D z [.ref (ad 0), .int x1] σ) (gQi shM t ad D q σ) 0 0 (gA shM ad) := by
  refine gMet "NineKeysRoundModel" rfl (by decide) hJ (Nat.le_of_ble_eq_true rfl) ?_
  intro p e s m below meth c ls C hr hI hl
  have hx := C.1
  have hb := C.2.1
  have hl : lv_has ls 5 [(0, .ref (ad 0)), (1, .int x1)] := hl
  unfold f_X10_took at h
  refine lv_iconst hx hb dX10_took_0 ci_0 ?_
  refine lv_istore_n (lv' := [(2, .int 0), (0, .ref (ad 0)), (1, .int x1)]) hx hb dX10_took_1 rfl hl (by decide) rfl (fun ls hl => ?_)
  refine lv_iconst hx hb dX10_took_2 ci_m1 ?_
  refine lv_istore_n (lv' := [(3, .int (-1)), (2, .int 0), (0, .ref (ad 0)), (1, .int x1)]) hx hb dX10_took_3 rfl hl (by decide) rfl (fun ls hl => ?_)
  refine lv_iconst hx hb dX10_took_4 ci_0 ?_
  refine lv_istore (lv' := [(4, .int 0), (3, .int (-1)), (2, .int 0), (0, .ref (ad 0)), (1, .int x1)]) hx hb dX10_took_5 hl (by decide) rfl (fun ls hl => ?_)
  exact w_X10_took_7 C hr    _ _ _ _ _ _ _ _  h hI (lv_sub hl [3, 4, 2, 1, 0] rfl)
set_option maxRecDepth 100000 in
set_option maxHeartbeats 4000000 in
theorem w_X10_shortestOf_96 {p : Program} {l : Launch} {e : Env} {s : State} {m : MethodId} {args : Array Value} {below : List Frame} {meth : Method} {c : Code} {D : va_G} {t : gT} {ad z : Nat → Nat} (C : gC p s m args meth c cX10_shortestOf 7 "NineKeysRoundModel" D t shM ad z) (hr : meth.sig.returnType = some .int) {r : Int32 × gS} (K_42 : Int32 → Int32 → Int32 → gS → Option (Int32 × gS)) (hK_42 : ∀ (x2 : Int32) (x3 : Int32) (x4 : Int32) (σ : gS) (H : Heap) (locs : List Loc) (ls : Array Slot), K_42 x2 x3 x4 σ = some r → gI shM t ad D s.heap σ H locs → lv_has ls 7 [(0, .ref (ad 0)), (2, .int x2), (3, .int x3), (4, .int x4)] → W p l e (gR 5 149) s m args below meth c H locs 0 0 (MQ below (gQi shM t ad D r.1 r.2) args s 0 0 (gA shM ad)) (F0 m 42 ls [])) : ∀ (x2 : Int32) (x3 : Int32) (σ : gS) (H : Heap) (locs : List Loc) (ls : Array Slot), f_X10_shortestOf_96 K_42 x2 x3 σ = some r → gI shM t ad D s.heap σ H locs → lv_has ls 7 [(0, .ref (ad 0)), (2, .int x2), (3, .int x3)] → W p l e (gR 5 149) s m args below meth c H locs 0 0 (MQ below (gQi shM t ad D r.1 r.2) args s 0 0 (gA shM ad)) (F0 m 96 ls []) := by
  have hx := C.1
  have hb := C.2.1
  intro x2 x3 σ H locs ls  h hI hl
  unfold f_X10_shortestOf_96 at h
  refine lv_aload_n hx hb dX10_shortestOf_96 rfl (lv_at hl 0 rfl) ?_
  refine lv_iload_n hx hb dX10_shortestOf_97 rfl (lv_at hl 1 rfl) ?_
  refine h_callvi_w (rest := []) C hI hl.1 shM_0 rfl yv_X10_nextOrder k_1452 h (fun q hq => c_X10_nextOrder l D t ad z C.2.2.2.2.2.2.1 (σ) x2 q hq) (As := [.int x2]) rfl rfl ⟨Nat.le_of_ble_eq_true rfl, Nat.le_of_ble_eq_true rfl⟩ (Nat.le_of_ble_eq_true rfl) dX10_shortestOf_98 (fun q1 H locs h hI => ?_)
  refine lv_istore (lv' := [(4, .int q1.1), (0, .ref (ad 0)), (2, .int x2), (3, .int x3)]) hx hb dX10_shortestOf_101 hl (by decide) rfl (fun ls hl => ?_)
  refine lv_goto (tgt := 42) hx hb dX10_shortestOf_103 (by decide) ?_
  exact hK_42 _ _ _ _ _ _ _  h hI (lv_sub hl [1, 2, 3, 0] rfl)
set_option maxRecDepth 100000 in
set_option maxHeartbeats 4000000 in
theorem w_X10_shortestOf_70 {p : Program} {l : Launch} {e : Env} {s : State} {m : MethodId} {args : Array Value} {below : List Frame} {meth : Method} {c : Code} {D : va_G} {t : gT} {ad z : Nat → Nat} (C : gC p s m args meth c cX10_shortestOf 7 "NineKeysRoundModel" D t shM ad z) (hr : meth.sig.returnType = some .int) {r : Int32 × gS} (K_42 : Int32 → Int32 → Int32 → gS → Option (Int32 × gS)) (hK_42 : ∀ (x2 : Int32) (x3 : Int32) (x4 : Int32) (σ : gS) (H : Heap) (locs : List Loc) (ls : Array Slot), K_42 x2 x3 x4 σ = some r → gI shM t ad D s.heap σ H locs → lv_has ls 7 [(0, .ref (ad 0)), (2, .int x2), (3, .int x3), (4, .int x4)] → W p l e (gR 5 149) s m args below meth c H locs 0 0 (MQ below (gQi shM t ad D r.1 r.2) args s 0 0 (gA shM ad)) (F0 m 42 ls [])) : ∀ (n : Nat) (x2 : Int32) (x3 : Int32) (x6 : Int32) (σ : gS) (H : Heap) (locs : List Loc) (ls : Array Slot), f_X10_shortestOf_70 K_42 n x2 x3 x6 σ = some r → gI shM t ad D s.heap σ H locs → lv_has ls 7 [(0, .ref (ad 0)), (2, .int x2), (3, .int x3), (6, .int x6)] → W p l e (gR 5 149) s m args below meth c H locs 0 0 (MQ below (gQi shM t ad D r.1 r.2) args s 0 0 (gA shM ad)) (F0 m 70 ls []) := by
  have hx := C.1
  have hb := C.2.1
  intro n
  induction n with
  | zero =>
    intro x2 x3 x6 σ H locs ls  h
    exact absurd h (by simp [f_X10_shortestOf_70])
  | succ n ih =>
    intro x2 x3 x6 σ H locs ls  h hI hl
    unfold f_X10_shortestOf_70 at h
    refine lv_iload hx hb dX10_shortestOf_70 (lv_at hl 3 rfl) ?_
    refine lv_iload_n hx hb dX10_shortestOf_72 rfl (lv_at hl 1 rfl) ?_
    refine hicmp_ge (tgt := 96) C dX10_shortestOf_73 (by decide) h (fun h => ?_) (fun h => ?_)
    · exact w_X10_shortestOf_96 C hr   _ hK_42 _ _ _ _ _ _  h hI (lv_sub hl [0, 1, 2] rfl)
    · refine lv_aload_n hx hb dX10_shortestOf_76 rfl (lv_at hl 0 rfl) ?_
      refine fr_1114 C hI shM_0 rfl dX10_shortestOf_77 ?_
      refine lv_iload hx hb dX10_shortestOf_80 (lv_at hl 3 rfl) ?_
      refine lv_aload_n hx hb dX10_shortestOf_82 rfl (lv_at hl 0 rfl) ?_
      refine fr_1113 C hI shM_0 rfl dX10_shortestOf_83 ?_
      refine lv_iload hx hb dX10_shortestOf_86 (lv_at hl 3 rfl) ?_
      refine gx_iald C hI shM_33 h dX10_shortestOf_88 (fun h => ?_)
      refine gx_iast C hI shM_34 h dX10_shortestOf_89 (fun H locs h hI => ?_)
      refine gx_st h hI (fun s1 h hI => ?_)
      refine h_iinc C hl dX10_shortestOf_90 3 rfl ci_1 h (by decide) (lvf := fun v2 => [(6, .int v2), (0, .ref (ad 0)), (2, .int x2), (3, .int x3)]) (fun _ => rfl) (fun v2 ls h hl => ?_)
      refine lv_goto (tgt := 70) hx hb dX10_shortestOf_93 (by decide) ?_
      exact ih _ _ _ _ _ _ _  h hI (lv_sub hl [1, 2, 3, 0] rfl)
set_option maxRecDepth 100000 in
set_option maxHeartbeats 4000000 in
theorem w_X10_shortestOf_64 {p : Program} {l : Launch} {e : Env} {s : State} {m : MethodId} {args : Array Value} {below : List Frame} {meth : Method} {c : Code} {D : va_G} {t : gT} {ad z : Nat → Nat} (C : gC p s m args meth c cX10_shortestOf 7 "NineKeysRoundModel" D t shM ad z) (hr : meth.sig.returnType = some .int) {r : Int32 × gS} (K_42 : Int32 → Int32 → Int32 → gS → Option (Int32 × gS)) (hK_42 : ∀ (x2 : Int32) (x3 : Int32) (x4 : Int32) (σ : gS) (H : Heap) (locs : List Loc) (ls : Array Slot), K_42 x2 x3 x4 σ = some r → gI shM t ad D s.heap σ H locs → lv_has ls 7 [(0, .ref (ad 0)), (2, .int x2), (3, .int x3), (4, .int x4)] → W p l e (gR 5 149) s m args below meth c H locs 0 0 (MQ below (gQi shM t ad D r.1 r.2) args s 0 0 (gA shM ad)) (F0 m 42 ls [])) : ∀ (x2 : Int32) (x5 : Int32) (σ : gS) (H : Heap) (locs : List Loc) (ls : Array Slot), f_X10_shortestOf_64 K_42 x2 x5 σ = some r → gI shM t ad D s.heap σ H locs → lv_has ls 7 [(0, .ref (ad 0)), (2, .int x2), (5, .int x5)] → W p l e (gR 5 149) s m args below meth c H locs 0 0 (MQ below (gQi shM t ad D r.1 r.2) args s 0 0 (gA shM ad)) (F0 m 64 ls []) := by
  have hx := C.1
  have hb := C.2.1
  intro x2 x5 σ H locs ls  h hI hl
  unfold f_X10_shortestOf_64 at h
  refine lv_iload hx hb dX10_shortestOf_64 (lv_at hl 2 rfl) ?_
  refine lv_istore_n (lv' := [(3, .int x5), (0, .ref (ad 0)), (2, .int x2), (5, .int x5)]) hx hb dX10_shortestOf_66 rfl hl (by decide) rfl (fun ls hl => ?_)
  refine lv_iconst hx hb dX10_shortestOf_67 ci_0 ?_
  refine lv_istore (lv' := [(6, .int 0), (3, .int x5), (0, .ref (ad 0)), (2, .int x2), (5, .int x5)]) hx hb dX10_shortestOf_68 hl (by decide) rfl (fun ls hl => ?_)
  exact w_X10_shortestOf_70 C hr   _ hK_42 _ _ _ _ _ _ _ _  h hI (lv_sub hl [2, 3, 1, 0] rfl)
set_option maxRecDepth 100000 in
set_option maxHeartbeats 4000000 in
theorem w_X10_shortestOf_42 {p : Program} {l : Launch} {e : Env} {s : State} {m : MethodId} {args : Array Value} {below : List Frame} {meth : Method} {c : Code} {D : va_G} {t : gT} {ad z : Nat → Nat} (C : gC p s m args meth c cX10_shortestOf 7 "NineKeysRoundModel" D t shM ad z) (hr : meth.sig.returnType = some .int) {r : Int32 × gS} : ∀ (n : Nat) (x2 : Int32) (x3 : Int32) (x4 : Int32) (σ : gS) (H : Heap) (locs : List Loc) (ls : Array Slot), f_X10_shortestOf_42 n x2 x3 x4 σ = some r → gI shM t ad D s.heap σ H locs → lv_has ls 7 [(0, .ref (ad 0)), (2, .int x2), (3, .int x3), (4, .int x4)] → W p l e (gR 5 149) s m args below meth c H locs 0 0 (MQ below (gQi shM t ad D r.1 r.2) args s 0 0 (gA shM ad)) (F0 m 42 ls []) := by
  have hx := C.1
  have hb := C.2.1
  intro n
  induction n with
  | zero =>
    intro x2 x3 x4 σ H locs ls  h
    exact absurd h (by simp [f_X10_shortestOf_42])
  | succ n ih =>
    intro x2 x3 x4 σ H locs ls  h hI hl
    unfold f_X10_shortestOf_42 at h
    refine lv_iload hx hb dX10_shortestOf_42 (lv_at hl 3 rfl) ?_
    refine hif_eq (tgt := 106) C dX10_shortestOf_44 (by decide) h (fun h => ?_) (fun h => ?_)
    · refine lv_iload_n hx hb dX10_shortestOf_106 rfl (lv_at hl 2 rfl) ?_
      exact h_iret_w C hr hI h dX10_shortestOf_107
    · refine lv_aload_n hx hb dX10_shortestOf_47 rfl (lv_at hl 0 rfl) ?_
      refine lv_iload_n hx hb dX10_shortestOf_48 rfl (lv_at hl 1 rfl) ?_
      refine h_callvi_o (rest := []) C hI hl.1 shM_0 rfl yv_X10_took k_1448 h (fun q hq => c_X10_took l D t ad z C.2.2.2.2.2.2.1 (σ) x2 q hq) (As := [.int x2]) rfl rfl ⟨Nat.le_of_ble_eq_true rfl, Nat.le_of_ble_eq_true rfl⟩ (Nat.le_of_ble_eq_true rfl) dX10_shortestOf_49 (fun q1 H locs h hI => ?_)
      refine lv_istore (lv' := [(5, .int q1), (0, .ref (ad 0)), (2, .int x2), (3, .int x3), (4, .int x4)]) hx hb dX10_shortestOf_52 hl (by decide) rfl (fun ls hl => ?_)
      refine lv_iload_n hx hb dX10_shortestOf_54 rfl (lv_at hl 3 rfl) ?_
      refine hif_lt (tgt := 64) C dX10_shortestOf_55 (by decide) h (fun h => ?_) (fun h => ?_)
      · exact w_X10_shortestOf_64 C hr   _ ih _ _ _ _ _ _  h hI (lv_sub hl [1, 2, 0] rfl)
      · refine lv_iload hx hb dX10_shortestOf_58 (lv_at hl 0 rfl) ?_
        refine lv_iload_n hx hb dX10_shortestOf_60 rfl (lv_at hl 3 rfl) ?_
        refine hicmp_ge (tgt := 96) C dX10_shortestOf_61 (by decide) h (fun h => ?_) (fun h => ?_)
        · exact w_X10_shortestOf_96 C hr   _ ih _ _ _ _ _ _  h hI (lv_sub hl [1, 2, 3] rfl)
        · exact w_X10_shortestOf_64 C hr   _ ih _ _ _ _ _ _  h hI (lv_sub hl [1, 2, 0] rfl)
set_option maxRecDepth 100000 in
set_option maxHeartbeats 4000000 in
theorem w_X10_shortestOf_4 {p : Program} {l : Launch} {e : Env} {s : State} {m : MethodId} {args : Array Value} {below : List Frame} {meth : Method} {c : Code} {D : va_G} {t : gT} {ad z : Nat → Nat} (C : gC p s m args meth c cX10_shortestOf 7 "NineKeysRoundModel" D t shM ad z) (hr : meth.sig.returnType = some .int) {r : Int32 × gS} : ∀ (n : Nat) (x1 : Int32) (x2 : Int32) (x3 : Int32) (σ : gS) (H : Heap) (locs : List Loc) (ls : Array Slot), f_X10_shortestOf_4 n x1 x2 x3 σ = some r → gI shM t ad D s.heap σ H locs → lv_has ls 7 [(0, .ref (ad 0)), (1, .int x1), (2, .int x2), (3, .int x3)] → W p l e (gR 5 149) s m args below meth c H locs 0 0 (MQ below (gQi shM t ad D r.1 r.2) args s 0 0 (gA shM ad)) (F0 m 4 ls []) := by
  have hx := C.1
  have hb := C.2.1
  intro n
  induction n with
  | zero =>
    intro x1 x2 x3 σ H locs ls  h
    exact absurd h (by simp [f_X10_shortestOf_4])
  | succ n ih =>
    intro x1 x2 x3 σ H locs ls  h hI hl
    unfold f_X10_shortestOf_4 at h
    refine lv_iload_n hx hb dX10_shortestOf_4 rfl (lv_at hl 3 rfl) ?_
    refine lv_aload_n hx hb dX10_shortestOf_5 rfl (lv_at hl 0 rfl) ?_
    refine fg_1061 C hI shM_0 rfl dX10_shortestOf_6 ?_
    refine hicmp_ge (tgt := 37) C dX10_shortestOf_9 (by decide) h (fun h => ?_) (fun h => ?_)
    · refine lv_iconst hx hb dX10_shortestOf_37 ci_m1 ?_
      refine lv_istore_n (lv' := [(3, .int (-1)), (0, .ref (ad 0)), (1, .int x1), (2, .int x2)]) hx hb dX10_shortestOf_38 rfl hl (by decide) rfl (fun ls hl => ?_)
      refine lv_iconst hx hb dX10_shortestOf_39 ci_1 ?_
      refine lv_istore (lv' := [(4, .int 1), (3, .int (-1)), (0, .ref (ad 0)), (1, .int x1), (2, .int x2)]) hx hb dX10_shortestOf_40 hl (by decide) rfl (fun ls hl => ?_)
      exact w_X10_shortestOf_42 C hr    _ _ _ _ _ _ _ _  h hI (lv_sub hl [2, 4, 1, 0] rfl)
    · refine lv_iload_n hx hb dX10_shortestOf_12 rfl (lv_at hl 1 rfl) ?_
      refine lv_iload_n hx hb dX10_shortestOf_13 rfl (lv_at hl 3 rfl) ?_
      refine lv_ishr hx hb dX10_shortestOf_14 ?_
      refine lv_iconst hx hb dX10_shortestOf_15 ci_1 ?_
      refine lv_iand hx hb dX10_shortestOf_16 ?_
      refine lv_iconst hx hb dX10_shortestOf_17 ci_1 ?_
      refine hicmp_ne (tgt := 31) C dX10_shortestOf_18 (by decide) h (fun h => ?_) (fun h => ?_)
      · refine h_iinc C hl dX10_shortestOf_31 3 rfl ci_1 h (by decide) (lvf := fun v1 => [(3, .int v1), (0, .ref (ad 0)), (1, .int x1), (2, .int x2)]) (fun _ => rfl) (fun v1 ls h hl => ?_)
        refine lv_goto (tgt := 4) hx hb dX10_shortestOf_34 (by decide) ?_
        exact ih _ _ _ _ _ _ _  h hI (lv_sub hl [1, 2, 3, 0] rfl)
      · refine lv_aload_n hx hb dX10_shortestOf_21 rfl (lv_at hl 0 rfl) ?_
        refine fr_1113 C hI shM_0 rfl dX10_shortestOf_22 ?_
        refine lv_iload_n hx hb dX10_shortestOf_25 rfl (lv_at hl 2 rfl) ?_
        refine h_iinc C hl dX10_shortestOf_26 2 rfl ci_1 h (by decide) (lvf := fun v2 => [(2, .int v2), (0, .ref (ad 0)), (1, .int x1), (3, .int x3)]) (fun _ => rfl) (fun v2 ls h hl => ?_)
        refine lv_iload_n hx hb dX10_shortestOf_29 rfl (lv_at hl 3 rfl) ?_
        refine gx_iast C hI shM_33 h dX10_shortestOf_30 (fun H locs h hI => ?_)
        refine gx_st h hI (fun s3 h hI => ?_)
        refine h_iinc C hl dX10_shortestOf_31 3 rfl ci_1 h (by decide) (lvf := fun v4 => [(3, .int v4), (2, .int v2), (0, .ref (ad 0)), (1, .int x1)]) (fun _ => rfl) (fun v4 ls h hl => ?_)
        refine lv_goto (tgt := 4) hx hb dX10_shortestOf_34 (by decide) ?_
        exact ih _ _ _ _ _ _ _  h hI (lv_sub hl [2, 3, 1, 0] rfl)
set_option maxRecDepth 100000 in
set_option maxHeartbeats 4000000 in
theorem c_X10_shortestOf (l : Launch) (D : va_G) (t : gT) (ad z : Nat → Nat) (hJ : gJ shM ad) (σ : gS) (x1 : Int32) (q : Int32 × gS) (h : f_X10_shortestOf σ x1 = some q) : Met l yX10_shortestOf (Cond.code yX10_shortestOf cX10_shortestOf 7 (some .int) :: lw_tb) (gR 5 149) (gPc shM t ad D z [.ref (ad 0), .int x1] σ) (gQi shM t ad D q.1 q.2) 0 0 (gA shM ad) := by
  refine gMet "NineKeysRoundModel" rfl (by decide) hJ (Nat.le_of_ble_eq_true rfl) ?_
  intro p e s m below meth c ls C hr hI hl
  have hx := C.1
  have hb := C.2.1
  have hl : lv_has ls 7 [(0, .ref (ad 0)), (1, .int x1)] := hl
  unfold f_X10_shortestOf at h
  refine lv_iconst hx hb dX10_shortestOf_0 ci_0 ?_
  refine lv_istore_n (lv' := [(2, .int 0), (0, .ref (ad 0)), (1, .int x1)]) hx hb dX10_shortestOf_1 rfl hl (by decide) rfl (fun ls hl => ?_)
  refine lv_iconst hx hb dX10_shortestOf_2 ci_0 ?_
  refine lv_istore_n (lv' := [(3, .int 0), (2, .int 0), (0, .ref (ad 0)), (1, .int x1)]) hx hb dX10_shortestOf_3 rfl hl (by decide) rfl (fun ls hl => ?_)
  exact w_X10_shortestOf_4 C hr    _ _ _ _ _ _ _ _  h hI (lv_sub hl [2, 3, 1, 0] rfl)
set_option maxRecDepth 100000 in
set_option maxHeartbeats 4000000 in
theorem c_X10_isSet (l : Launch) (D : va_G) (t : gT) (ad z : Nat → Nat) (hJ : gJ shM ad) (σ : gS) (x1 : Int32) (q : Int32) (h : f_X10_isSet σ x1 = some q) : Met l yX10_isSet (Cond.code yX10_isSet cX10_isSet 2 (some .boolean) :: lw_tb) (gR 2 82) (gPc shM t ad D z [.ref (ad 0), .int x1] σ) (gQi shM t ad D q σ) 0 0 (gA shM ad) := by
  refine gMet "NineKeysRoundModel" rfl (by decide) hJ (Nat.le_of_ble_eq_true rfl) ?_
  intro p e s m below meth c ls C hr hI hl
  have hx := C.1
  have hb := C.2.1
  have hl : lv_has ls 2 [(0, .ref (ad 0)), (1, .int x1)] := hl
  unfold f_X10_isSet at h
  refine lv_iload_n hx hb dX10_isSet_0 rfl (lv_at hl 1 rfl) ?_
  refine lv_iconst hx hb dX10_isSet_1 ci_0 ?_
  refine lv_iconst hx hb dX10_isSet_2 ci_1 ?_
  refine lv_aload_n hx hb dX10_isSet_3 rfl (lv_at hl 0 rfl) ?_
  refine fg_1061 C hI shM_0 rfl dX10_isSet_4 ?_
  refine lv_ishl hx hb dX10_isSet_7 ?_
  refine lv_iconst hx hb dX10_isSet_8 ci_1 ?_
  refine lv_isub hx hb dX10_isSet_9 ?_
  refine h_callsi_o (rest := []) C hI hl.1 ys_X10_within k_1240 h (fun q hq => c_X10_within l D t ad z C.2.2.2.2.2.2.1 (σ) x1 0 (((1 : Int32) <<< ((σ.1 0 0) &&& 31)) - 1) q hq) (As := [.int x1, .int 0, .int (((1 : Int32) <<< ((σ.1 0 0) &&& 31)) - 1)]) rfl rfl ⟨Nat.le_of_ble_eq_true rfl, Nat.le_of_ble_eq_true rfl⟩ (Nat.le_of_ble_eq_true rfl) dX10_isSet_10 (fun q1 H locs h hI => ?_)
  exact h_zret_o C hr hI h dX10_isSet_13
set_option maxRecDepth 100000 in
set_option maxHeartbeats 4000000 in
theorem c_X10_shortest (l : Launch) (D : va_G) (t : gT) (ad z : Nat → Nat) (hJ : gJ shM ad) (σ : gS) (x1 : Int32) (x2 : Int32) (q : Int32 × gS) (h : f_X10_shortest σ x1 x2 = some q) : Met l yX10_shortest (Cond.code yX10_shortest cX10_shortest 4 (some .int) :: lw_tb) (gR 6 175) (gPc shM t ad D z [.ref (ad 0), .int x1, .int x2] σ) (gQi shM t ad D q.1 q.2) 0 0 (gA shM ad) := by
  refine gMet "NineKeysRoundModel" rfl (by decide) hJ (Nat.le_of_ble_eq_true rfl) ?_
  intro p e s m below meth c ls C hr hI hl
  have hx := C.1
  have hb := C.2.1
  have hl : lv_has ls 4 [(0, .ref (ad 0)), (1, .int x1), (2, .int x2)] := hl
  unfold f_X10_shortest at h
  refine lv_aload_n hx hb dX10_shortest_0 rfl (lv_at hl 0 rfl) ?_
  refine lv_iload_n hx hb dX10_shortest_1 rfl (lv_at hl 1 rfl) ?_
  refine h_callvi_o (rest := []) C hI hl.1 shM_0 rfl yv_X10_isSet k_1439 h (fun q hq => c_X10_isSet l D t ad z C.2.2.2.2.2.2.1 (σ) x1 q hq) (As := [.int x1]) rfl rfl ⟨Nat.le_of_ble_eq_true rfl, Nat.le_of_ble_eq_true rfl⟩ (Nat.le_of_ble_eq_true rfl) dX10_shortest_2 (fun q1 H locs h hI => ?_)
  refine hif_eq (tgt := 13) C dX10_shortest_5 (by decide) h (fun h => ?_) (fun h => ?_)
  · refine lv_iconst hx hb dX10_shortest_13 ci_m1 ?_
    exact h_iret_w C hr hI h dX10_shortest_14
  · refine lv_iload_n hx hb dX10_shortest_8 rfl (lv_at hl 2 rfl) ?_
    refine lv_iconst hx hb dX10_shortest_9 ci_m1 ?_
    refine hicmp_ge (tgt := 15) C dX10_shortest_10 (by decide) h (fun h => ?_) (fun h => ?_)
    · refine lv_iload_n hx hb dX10_shortest_15 rfl (lv_at hl 1 rfl) ?_
      refine h_callsi_o (rest := []) C hI hl.1 ys_J6_bitCount_0f7a4 k_1443 h (fun q hq => c_J6_bitCount_0f7a4 l D t ad z C.2.2.2.2.2.2.1 (σ) x1 q hq) (As := [.int x1]) rfl rfl ⟨Nat.le_of_ble_eq_true rfl, Nat.le_of_ble_eq_true rfl⟩ (Nat.le_of_ble_eq_true rfl) dX10_shortest_16 (fun q2 H locs h hI => ?_)
      refine lv_bipush hx hb dX10_shortest_19 cb_7 ?_
      refine hicmp_le (tgt := 27) C dX10_shortest_21 (by decide) h (fun h => ?_) (fun h => ?_)
      · refine lv_iload_n hx hb dX10_shortest_27 rfl (lv_at hl 2 rfl) ?_
        refine lv_iload_n hx hb dX10_shortest_28 rfl (lv_at hl 1 rfl) ?_
        refine h_callsi_o (rest := [.int x2]) C hI hl.1 ys_J6_bitCount_0f7a4 k_1443 h (fun q hq => c_J6_bitCount_0f7a4 l D t ad z C.2.2.2.2.2.2.1 (σ) x1 q hq) (As := [.int x1]) rfl rfl ⟨Nat.le_of_ble_eq_true rfl, Nat.le_of_ble_eq_true rfl⟩ (Nat.le_of_ble_eq_true rfl) dX10_shortest_29 (fun q3 H locs h hI => ?_)
        refine hicmp_lt (tgt := 38) C dX10_shortest_32 (by decide) h (fun h => ?_) (fun h => ?_)
        · refine lv_aload_n hx hb dX10_shortest_38 rfl (lv_at hl 0 rfl) ?_
          refine lv_iload_n hx hb dX10_shortest_39 rfl (lv_at hl 1 rfl) ?_
          refine h_callvi_w (rest := []) C hI hl.1 shM_0 rfl yv_X10_shortestOf k_1444 h (fun q hq => c_X10_shortestOf l D t ad z C.2.2.2.2.2.2.1 (σ) x1 q hq) (As := [.int x1]) rfl rfl ⟨Nat.le_of_ble_eq_true rfl, Nat.le_of_ble_eq_true rfl⟩ (Nat.le_of_ble_eq_true rfl) dX10_shortest_40 (fun q4 H locs h hI => ?_)
          refine lv_istore_n (lv' := [(3, .int q4.1), (0, .ref (ad 0)), (1, .int x1), (2, .int x2)]) hx hb dX10_shortest_43 rfl hl (by decide) rfl (fun ls hl => ?_)
          refine lv_iload_n hx hb dX10_shortest_44 rfl (lv_at hl 3 rfl) ?_
          refine lv_iconst hx hb dX10_shortest_45 ci_m1 ?_
          refine hicmp_ne (tgt := 53) C dX10_shortest_46 (by decide) h (fun h => ?_) (fun h => ?_)
          · refine lv_aload_n hx hb dX10_shortest_53 rfl (lv_at hl 1 rfl) ?_
            refine fr_1114 C hI shM_0 rfl dX10_shortest_54 ?_
            refine lv_iload_n hx hb dX10_shortest_57 rfl (lv_at hl 3 rfl) ?_
            refine gx_iald C hI shM_34 h dX10_shortest_58 (fun h => ?_)
            exact h_iret_w C hr hI h dX10_shortest_59
          · refine lv_iload_n hx hb dX10_shortest_49 rfl (lv_at hl 0 rfl) ?_
            refine lv_goto (tgt := 59) hx hb dX10_shortest_50 (by decide) ?_
            exact h_iret_w C hr hI h dX10_shortest_59
        · refine lv_bipush hx hb dX10_shortest_35 cb_m2 ?_
          exact h_iret_w C hr hI h dX10_shortest_37
      · refine lv_bipush hx hb dX10_shortest_24 cb_m5 ?_
        exact h_iret_w C hr hI h dX10_shortest_26
    · refine lv_iconst hx hb dX10_shortest_13 ci_m1 ?_
      exact h_iret_w C hr hI h dX10_shortest_14
set_option maxRecDepth 100000 in
set_option maxHeartbeats 4000000 in
theorem w_X10_leftOut_92 {p : Program} {l : Launch} {e : Env} {s : State} {m : MethodId} {args : Array Value} {below : List Frame} {meth : Method} {c : Code} {D : va_G} {t : gT} {ad z : Nat → Nat} (C : gC p s m args meth c cX10_leftOut 7 "NineKeysRoundModel" D t shM ad z) (hr : meth.sig.returnType = some .int) {r : Int32 × gS} (K_41 : Int32 → Int32 → Int32 → Int32 → Int32 → gS → Option (Int32 × gS)) (hK_41 : ∀ (x1 : Int32) (x2 : Int32) (x3 : Int32) (x4 : Int32) (x5 : Int32) (σ : gS) (H : Heap) (locs : List Loc) (ls : Array Slot), K_41 x1 x2 x3 x4 x5 σ = some r → gI shM t ad D s.heap σ H locs → lv_has ls 7 [(0, .ref (ad 0)), (1, .int x1), (2, .int x2), (3, .int x3), (4, .int x4), (5, .int x5)] → W p l e (gR 6 175) s m args below meth c H locs 0 0 (MQ below (gQi shM t ad D r.1 r.2) args s 0 0 (gA shM ad)) (F0 m 41 ls [])) : ∀ (x1 : Int32) (x2 : Int32) (x5 : Int32) (x6 : Int32) (σ : gS) (H : Heap) (locs : List Loc) (ls : Array Slot), f_X10_leftOut_92 K_41 x1 x2 x5 x6 σ = some r → gI shM t ad D s.heap σ H locs → lv_has ls 7 [(0, .ref (ad 0)), (1, .int x1), (2, .int x2), (5, .int x5), (6, .int x6)] → W p l e (gR 6 175) s m args below meth c H locs 0 0 (MQ below (gQi shM t ad D r.1 r.2) args s 0 0 (gA shM ad)) (F0 m 92 ls []) := by
  have hx := C.1
  have hb := C.2.1
  intro x1 x2 x5 x6 σ H locs ls  h hI hl
  unfold f_X10_leftOut_92 at h
  refine lv_iload hx hb dX10_leftOut_92 (lv_at hl 4 rfl) ?_
  refine lv_istore (lv' := [(4, .int x6), (0, .ref (ad 0)), (1, .int x1), (2, .int x2), (5, .int x5), (6, .int x6)]) hx hb dX10_leftOut_94 hl (by decide) rfl (fun ls hl => ?_)
  refine lv_iload hx hb dX10_leftOut_96 (lv_at hl 4 rfl) ?_
  refine lv_istore_n (lv' := [(3, .int x5), (4, .int x6), (0, .ref (ad 0)), (1, .int x1), (2, .int x2), (5, .int x5), (6, .int x6)]) hx hb dX10_leftOut_98 rfl hl (by decide) rfl (fun ls hl => ?_)
  refine h_iinc C hl dX10_leftOut_99 5 rfl ci_1 h (by decide) (lvf := fun v1 => [(5, .int v1), (3, .int x5), (4, .int x6), (0, .ref (ad 0)), (1, .int x1), (2, .int x2), (6, .int x6)]) (fun _ => rfl) (fun v1 ls h hl => ?_)
  refine lv_goto (tgt := 41) hx hb dX10_leftOut_102 (by decide) ?_
  exact hK_41 _ _ _ _ _ _ _ _ _  h hI (lv_sub hl [3, 4, 5, 1, 2, 0] rfl)
set_option maxRecDepth 100000 in
set_option maxHeartbeats 4000000 in
theorem w_X10_leftOut_41 {p : Program} {l : Launch} {e : Env} {s : State} {m : MethodId} {args : Array Value} {below : List Frame} {meth : Method} {c : Code} {D : va_G} {t : gT} {ad z : Nat → Nat} (C : gC p s m args meth c cX10_leftOut 7 "NineKeysRoundModel" D t shM ad z) (hr : meth.sig.returnType = some .int) {r : Int32 × gS} : ∀ (n : Nat) (x1 : Int32) (x2 : Int32) (x3 : Int32) (x4 : Int32) (x5 : Int32) (σ : gS) (H : Heap) (locs : List Loc) (ls : Array Slot), f_X10_leftOut_41 n x1 x2 x3 x4 x5 σ = some r → gI shM t ad D s.heap σ H locs → lv_has ls 7 [(0, .ref (ad 0)), (1, .int x1), (2, .int x2), (3, .int x3), (4, .int x4), (5, .int x5)] → W p l e (gR 6 175) s m args below meth c H locs 0 0 (MQ below (gQi shM t ad D r.1 r.2) args s 0 0 (gA shM ad)) (F0 m 41 ls []) := by
  have hx := C.1
  have hb := C.2.1
  intro n
  induction n with
  | zero =>
    intro x1 x2 x3 x4 x5 σ H locs ls  h
    exact absurd h (by simp [f_X10_leftOut_41])
  | succ n ih =>
    intro x1 x2 x3 x4 x5 σ H locs ls  h hI hl
    unfold f_X10_leftOut_41 at h
    refine lv_iload hx hb dX10_leftOut_41 (lv_at hl 5 rfl) ?_
    refine lv_aload_n hx hb dX10_leftOut_43 rfl (lv_at hl 0 rfl) ?_
    refine fg_1061 C hI shM_0 rfl dX10_leftOut_44 ?_
    refine hicmp_ge (tgt := 105) C dX10_leftOut_47 (by decide) h (fun h => ?_) (fun h => ?_)
    · refine lv_iload_n hx hb dX10_leftOut_105 rfl (lv_at hl 2 rfl) ?_
      refine hif_ne (tgt := 113) C dX10_leftOut_106 (by decide) h (fun h => ?_) (fun h => ?_)
      · refine lv_iload hx hb dX10_leftOut_113 (lv_at hl 4 rfl) ?_
        exact h_iret_w C hr hI h dX10_leftOut_115
      · refine lv_iload_n hx hb dX10_leftOut_109 rfl (lv_at hl 3 rfl) ?_
        refine lv_goto (tgt := 115) hx hb dX10_leftOut_110 (by decide) ?_
        exact h_iret_w C hr hI h dX10_leftOut_115
    · refine lv_iload_n hx hb dX10_leftOut_50 rfl (lv_at hl 1 rfl) ?_
      refine lv_iload hx hb dX10_leftOut_51 (lv_at hl 5 rfl) ?_
      refine lv_ishr hx hb dX10_leftOut_53 ?_
      refine lv_iconst hx hb dX10_leftOut_54 ci_1 ?_
      refine lv_iand hx hb dX10_leftOut_55 ?_
      refine hif_ne (tgt := 62) C dX10_leftOut_56 (by decide) h (fun h => ?_) (fun h => ?_)
      · refine lv_aload_n hx hb dX10_leftOut_62 rfl (lv_at hl 0 rfl) ?_
        refine lv_iload_n hx hb dX10_leftOut_63 rfl (lv_at hl 1 rfl) ?_
        refine lv_iconst hx hb dX10_leftOut_64 ci_1 ?_
        refine lv_iload hx hb dX10_leftOut_65 (lv_at hl 5 rfl) ?_
        refine lv_ishl hx hb dX10_leftOut_67 ?_
        refine lv_iconst hx hb dX10_leftOut_68 ci_m1 ?_
        refine lv_ixor hx hb dX10_leftOut_69 ?_
        refine lv_iand hx hb dX10_leftOut_70 ?_
        refine h_callvi_w (rest := []) C hI hl.1 shM_0 rfl yv_X10_shortestOf k_1444 h (fun q hq => c_X10_shortestOf l D t ad z C.2.2.2.2.2.2.1 (σ) (x1 &&& (((1 : Int32) <<< (x5 &&& 31)) ^^^ (-1))) q hq) (As := [.int (x1 &&& (((1 : Int32) <<< (x5 &&& 31)) ^^^ (-1)))]) rfl rfl ⟨Nat.le_of_ble_eq_true rfl, Nat.le_of_ble_eq_true rfl⟩ (Nat.le_of_ble_eq_true rfl) dX10_leftOut_71 (fun q1 H locs h hI => ?_)
        refine lv_istore (lv' := [(6, .int q1.1), (0, .ref (ad 0)), (1, .int x1), (2, .int x2), (3, .int x3), (4, .int x4), (5, .int x5)]) hx hb dX10_leftOut_74 hl (by decide) rfl (fun ls hl => ?_)
        refine lv_iload_n hx hb dX10_leftOut_76 rfl (lv_at hl 4 rfl) ?_
        refine lv_bipush hx hb dX10_leftOut_77 cb_m2 ?_
        refine hicmp_eq (tgt := 92) C dX10_leftOut_79 (by decide) h (fun h => ?_) (fun h => ?_)
        · exact w_X10_leftOut_92 C hr   _ ih _ _ _ _ _ _ _ _  h hI (lv_sub hl [1, 2, 3, 6, 0] rfl)
        · refine lv_iload hx hb dX10_leftOut_82 (lv_at hl 0 rfl) ?_
          refine lv_iload hx hb dX10_leftOut_84 (lv_at hl 5 rfl) ?_
          refine hicmp_lt (tgt := 92) C dX10_leftOut_86 (by decide) h (fun h => ?_) (fun h => ?_)
          · exact w_X10_leftOut_92 C hr   _ ih _ _ _ _ _ _ _ _  h hI (lv_sub hl [1, 2, 3, 6, 0] rfl)
          · refine lv_goto (tgt := 99) hx hb dX10_leftOut_89 (by decide) ?_
            refine h_iinc C hl dX10_leftOut_99 6 rfl ci_1 h (by decide) (lvf := fun v2 => [(5, .int v2), (6, .int q1.1), (0, .ref (ad 0)), (1, .int x1), (2, .int x2), (3, .int x3), (4, .int x4)]) (fun _ => rfl) (fun v2 ls h hl => ?_)
            refine lv_goto (tgt := 41) hx hb dX10_leftOut_102 (by decide) ?_
            exact ih _ _ _ _ _ _ _ _ _  h hI (lv_sub hl [2, 3, 4, 5, 6, 0] rfl)
      · refine lv_goto (tgt := 99) hx hb dX10_leftOut_59 (by decide) ?_
        refine h_iinc C hl dX10_leftOut_99 5 rfl ci_1 h (by decide) (lvf := fun v3 => [(5, .int v3), (0, .ref (ad 0)), (1, .int x1), (2, .int x2), (3, .int x3), (4, .int x4)]) (fun _ => rfl) (fun v3 ls h hl => ?_)
        refine lv_goto (tgt := 41) hx hb dX10_leftOut_102 (by decide) ?_
        exact ih _ _ _ _ _ _ _ _ _  h hI (lv_sub hl [1, 2, 3, 4, 5, 0] rfl)
set_option maxRecDepth 100000 in
set_option maxHeartbeats 4000000 in
theorem c_X10_leftOut (l : Launch) (D : va_G) (t : gT) (ad z : Nat → Nat) (hJ : gJ shM ad) (σ : gS) (x1 : Int32) (x2 : Int32) (q : Int32 × gS) (h : f_X10_leftOut σ x1 x2 = some q) : Met l yX10_leftOut (Cond.code yX10_leftOut cX10_leftOut 7 (some .int) :: lw_tb) (gR 6 175) (gPc shM t ad D z [.ref (ad 0), .int x1, .int x2] σ) (gQi shM t ad D q.1 q.2) 0 0 (gA shM ad) := by
  refine gMet "NineKeysRoundModel" rfl (by decide) hJ (Nat.le_of_ble_eq_true rfl) ?_
  intro p e s m below meth c ls C hr hI hl
  have hx := C.1
  have hb := C.2.1
  have hl : lv_has ls 7 [(0, .ref (ad 0)), (1, .int x1), (2, .int x2)] := hl
  unfold f_X10_leftOut at h
  refine lv_aload_n hx hb dX10_leftOut_0 rfl (lv_at hl 0 rfl) ?_
  refine lv_iload_n hx hb dX10_leftOut_1 rfl (lv_at hl 1 rfl) ?_
  refine h_callvi_o (rest := []) C hI hl.1 shM_0 rfl yv_X10_isSet k_1439 h (fun q hq => c_X10_isSet l D t ad z C.2.2.2.2.2.2.1 (σ) x1 q hq) (As := [.int x1]) rfl rfl ⟨Nat.le_of_ble_eq_true rfl, Nat.le_of_ble_eq_true rfl⟩ (Nat.le_of_ble_eq_true rfl) dX10_leftOut_2 (fun q1 H locs h hI => ?_)
  refine hif_eq (tgt := 17) C dX10_leftOut_5 (by decide) h (fun h => ?_) (fun h => ?_)
  · refine lv_iconst hx hb dX10_leftOut_17 ci_m1 ?_
    exact h_iret_w C hr hI h dX10_leftOut_18
  · refine lv_iload_n hx hb dX10_leftOut_8 rfl (lv_at hl 2 rfl) ?_
    refine lv_iconst hx hb dX10_leftOut_9 ci_0 ?_
    refine lv_iconst hx hb dX10_leftOut_10 ci_1 ?_
    refine h_callsi_o (rest := []) C hI hl.1 ys_X10_within k_1240 h (fun q hq => c_X10_within l D t ad z C.2.2.2.2.2.2.1 (σ) x2 0 1 q hq) (As := [.int x2, .int 0, .int 1]) rfl rfl ⟨Nat.le_of_ble_eq_true rfl, Nat.le_of_ble_eq_true rfl⟩ (Nat.le_of_ble_eq_true rfl) dX10_leftOut_11 (fun q2 H locs h hI => ?_)
    refine hif_ne (tgt := 19) C dX10_leftOut_14 (by decide) h (fun h => ?_) (fun h => ?_)
    · refine lv_iload_n hx hb dX10_leftOut_19 rfl (lv_at hl 1 rfl) ?_
      refine h_callsi_o (rest := []) C hI hl.1 ys_J6_bitCount_0f7a4 k_1443 h (fun q hq => c_J6_bitCount_0f7a4 l D t ad z C.2.2.2.2.2.2.1 (σ) x1 q hq) (As := [.int x1]) rfl rfl ⟨Nat.le_of_ble_eq_true rfl, Nat.le_of_ble_eq_true rfl⟩ (Nat.le_of_ble_eq_true rfl) dX10_leftOut_20 (fun q3 H locs h hI => ?_)
      refine lv_bipush hx hb dX10_leftOut_23 cb_7 ?_
      refine hicmp_le (tgt := 31) C dX10_leftOut_25 (by decide) h (fun h => ?_) (fun h => ?_)
      · refine lv_bipush hx hb dX10_leftOut_31 cb_m2 ?_
        refine lv_istore_n (lv' := [(3, .int (-2)), (0, .ref (ad 0)), (1, .int x1), (2, .int x2)]) hx hb dX10_leftOut_33 rfl hl (by decide) rfl (fun ls hl => ?_)
        refine lv_bipush hx hb dX10_leftOut_34 cb_m2 ?_
        refine lv_istore (lv' := [(4, .int (-2)), (3, .int (-2)), (0, .ref (ad 0)), (1, .int x1), (2, .int x2)]) hx hb dX10_leftOut_36 hl (by decide) rfl (fun ls hl => ?_)
        refine lv_iconst hx hb dX10_leftOut_38 ci_0 ?_
        refine lv_istore (lv' := [(5, .int 0), (4, .int (-2)), (3, .int (-2)), (0, .ref (ad 0)), (1, .int x1), (2, .int x2)]) hx hb dX10_leftOut_39 hl (by decide) rfl (fun ls hl => ?_)
        exact w_X10_leftOut_41 C hr    _ _ _ _ _ _ _ _ _ _  h hI (lv_sub hl [3, 4, 5, 2, 1, 0] rfl)
      · refine lv_bipush hx hb dX10_leftOut_28 cb_m5 ?_
        exact h_iret_w C hr hI h dX10_leftOut_30
    · refine lv_iconst hx hb dX10_leftOut_17 ci_m1 ?_
      exact h_iret_w C hr hI h dX10_leftOut_18
set_option maxRecDepth 100000 in
set_option maxHeartbeats 4000000 in
theorem w_X10_thiefAt_34 {p : Program} {l : Launch} {e : Env} {s : State} {m : MethodId} {args : Array Value} {below : List Frame} {meth : Method} {c : Code} {D : va_G} {t : gT} {ad z : Nat → Nat} {σ : gS} (C : gC p s m args meth c cX10_thiefAt 6 "NineKeysRoundModel" D t shM ad z) (hr : meth.sig.returnType = some .int) {r : Int32} (K_6 : Int32 → Int32 → Int32 → Int32 → Option Int32) (hK_6 : ∀ (x1 : Int32) (x3 : Int32) (x4 : Int32) (x5 : Int32) (H : Heap) (locs : List Loc) (ls : Array Slot), K_6 x1 x3 x4 x5 = some r → gI shM t ad D s.heap σ H locs → lv_has ls 6 [(0, .ref (ad 0)), (1, .int x1), (3, .int x3), (4, .int x4), (5, .int x5)] → W p l e (gR 2 83) s m args below meth c H locs 0 0 (MQ below (gQi shM t ad D r σ) args s 0 0 (gA shM ad)) (F0 m 6 ls [])) : ∀ (x1 : Int32) (x3 : Int32) (x5 : Int32) (s0 : Int32) (H : Heap) (locs : List Loc) (ls : Array Slot), f_X10_thiefAt_34 σ K_6 x1 x3 x5 s0 = some r → gI shM t ad D s.heap σ H locs → lv_has ls 6 [(0, .ref (ad 0)), (1, .int x1), (3, .int x3), (5, .int x5)] → W p l e (gR 2 83) s m args below meth c H locs 0 0 (MQ below (gQi shM t ad D r σ) args s 0 0 (gA shM ad)) (F0 m 34 ls [.int s0]) := by
  have hx := C.1
  have hb := C.2.1
  intro x1 x3 x5 s0 H locs ls  h hI hl
  unfold f_X10_thiefAt_34 at h
  refine lv_istore (lv' := [(4, .int s0), (0, .ref (ad 0)), (1, .int x1), (3, .int x3), (5, .int x5)]) hx hb dX10_thiefAt_34 hl (by decide) rfl (fun ls hl => ?_)
  refine lv_iload hx hb dX10_thiefAt_36 (lv_at hl 0 rfl) ?_
  refine lv_iload_n hx hb dX10_thiefAt_38 rfl (lv_at hl 3 rfl) ?_
  refine hicmp_ne (tgt := 49) C dX10_thiefAt_39 (by decide) h (fun h => ?_) (fun h => ?_)
  · refine h_iinc C hl dX10_thiefAt_49 4 rfl ci_1 h (by decide) (lvf := fun v1 => [(5, .int v1), (4, .int s0), (0, .ref (ad 0)), (1, .int x1), (3, .int x3)]) (fun _ => rfl) (fun v1 ls h hl => ?_)
    refine lv_goto (tgt := 6) hx hb dX10_thiefAt_52 (by decide) ?_
    exact hK_6 _ _ _ _ _ _ _  h hI (lv_sub hl [2, 3, 4, 1, 0] rfl)
  · refine lv_iload hx hb dX10_thiefAt_42 (lv_at hl 4 rfl) ?_
    refine lv_iload_n hx hb dX10_thiefAt_44 rfl (lv_at hl 3 rfl) ?_
    refine lv_isub hx hb dX10_thiefAt_45 ?_
    refine lv_iconst hx hb dX10_thiefAt_46 ci_1 ?_
    refine lv_iadd hx hb dX10_thiefAt_47 ?_
    exact h_iret_o C hr hI h dX10_thiefAt_48
set_option maxRecDepth 100000 in
set_option maxHeartbeats 4000000 in
theorem w_X10_thiefAt_6 {p : Program} {l : Launch} {e : Env} {s : State} {m : MethodId} {args : Array Value} {below : List Frame} {meth : Method} {c : Code} {D : va_G} {t : gT} {ad z : Nat → Nat} {σ : gS} (C : gC p s m args meth c cX10_thiefAt 6 "NineKeysRoundModel" D t shM ad z) (hr : meth.sig.returnType = some .int) {r : Int32} : ∀ (n : Nat) (x1 : Int32) (x3 : Int32) (x4 : Int32) (x5 : Int32) (H : Heap) (locs : List Loc) (ls : Array Slot), f_X10_thiefAt_6 σ n x1 x3 x4 x5 = some r → gI shM t ad D s.heap σ H locs → lv_has ls 6 [(0, .ref (ad 0)), (1, .int x1), (3, .int x3), (4, .int x4), (5, .int x5)] → W p l e (gR 2 83) s m args below meth c H locs 0 0 (MQ below (gQi shM t ad D r σ) args s 0 0 (gA shM ad)) (F0 m 6 ls []) := by
  have hx := C.1
  have hb := C.2.1
  intro n
  induction n with
  | zero =>
    intro x1 x3 x4 x5 H locs ls  h
    exact absurd h (by simp [f_X10_thiefAt_6])
  | succ n ih =>
    intro x1 x3 x4 x5 H locs ls  h hI hl
    unfold f_X10_thiefAt_6 at h
    refine lv_iload hx hb dX10_thiefAt_6 (lv_at hl 4 rfl) ?_
    refine lv_sipush hx hb dX10_thiefAt_8 cs_999 ?_
    refine lv_iload_n hx hb dX10_thiefAt_11 rfl (lv_at hl 2 rfl) ?_
    refine lv_iadd hx hb dX10_thiefAt_12 ?_
    refine hicmp_ge (tgt := 55) C dX10_thiefAt_13 (by decide) h (fun h => ?_) (fun h => ?_)
    · refine lv_bipush hx hb dX10_thiefAt_55 cb_m2 ?_
      exact h_iret_o C hr hI h dX10_thiefAt_57
    · refine lv_aload_n hx hb dX10_thiefAt_16 rfl (lv_at hl 0 rfl) ?_
      refine lv_iload_n hx hb dX10_thiefAt_17 rfl (lv_at hl 1 rfl) ?_
      refine lv_iload hx hb dX10_thiefAt_18 (lv_at hl 4 rfl) ?_
      refine h_callvi_o (rest := []) C hI hl.1 shM_0 rfl yv_X10_isSeen k_1398 h (fun q hq => c_X10_isSeen l D t ad z C.2.2.2.2.2.2.1 (σ) x1 x5 q hq) (As := [.int x1, .int x5]) rfl rfl ⟨Nat.le_of_ble_eq_true rfl, Nat.le_of_ble_eq_true rfl⟩ (Nat.le_of_ble_eq_true rfl) dX10_thiefAt_20 (fun q1 H locs h hI => ?_)
      refine hif_eq (tgt := 30) C dX10_thiefAt_23 (by decide) h (fun h => ?_) (fun h => ?_)
      · refine lv_iload hx hb dX10_thiefAt_30 (lv_at hl 3 rfl) ?_
        refine lv_iconst hx hb dX10_thiefAt_32 ci_1 ?_
        refine lv_iadd hx hb dX10_thiefAt_33 ?_
        exact w_X10_thiefAt_34 C hr   _ ih _ _ _ _ _ _ _  h hI (lv_sub hl [0, 1, 2, 4] rfl)
      · refine lv_iconst hx hb dX10_thiefAt_26 ci_0 ?_
        refine lv_goto (tgt := 34) hx hb dX10_thiefAt_27 (by decide) ?_
        exact w_X10_thiefAt_34 C hr   _ ih _ _ _ _ _ _ _  h hI (lv_sub hl [0, 1, 2, 4] rfl)
set_option maxRecDepth 100000 in
set_option maxHeartbeats 4000000 in
theorem c_X10_thiefAt (l : Launch) (D : va_G) (t : gT) (ad z : Nat → Nat) (hJ : gJ shM ad) (σ : gS) (x1 : Int32) (x2 : Int32) (x3 : Int32) (q : Int32) (h : f_X10_thiefAt σ x1 x2 x3 = some q) : Met l yX10_thiefAt (Cond.code yX10_thiefAt cX10_thiefAt 6 (some .int) :: lw_tb) (gR 2 83) (gPc shM t ad D z [.ref (ad 0), .int x1, .int x2, .int x3] σ) (gQi shM t ad D q σ) 0 0 (gA shM ad) := by
  refine gMet "NineKeysRoundModel" rfl (by decide) hJ (Nat.le_of_ble_eq_true rfl) ?_
  intro p e s m below meth c ls C hr hI hl
  have hx := C.1
  have hb := C.2.1
  have hl : lv_has ls 6 [(0, .ref (ad 0)), (1, .int x1), (2, .int x2), (3, .int x3)] := hl
  unfold f_X10_thiefAt at h
  refine lv_iconst hx hb dX10_thiefAt_0 ci_0 ?_
  refine lv_istore (lv' := [(4, .int 0), (0, .ref (ad 0)), (1, .int x1), (2, .int x2), (3, .int x3)]) hx hb dX10_thiefAt_1 hl (by decide) rfl (fun ls hl => ?_)
  refine lv_iload_n hx hb dX10_thiefAt_3 rfl (lv_at hl 3 rfl) ?_
  refine lv_istore (lv' := [(5, .int x2), (4, .int 0), (0, .ref (ad 0)), (1, .int x1), (2, .int x2), (3, .int x3)]) hx hb dX10_thiefAt_4 hl (by decide) rfl (fun ls hl => ?_)
  exact w_X10_thiefAt_6 C hr    _ _ _ _ _ _ _ _  h hI (lv_sub hl [2, 3, 5, 1, 0] rfl)
set_option maxRecDepth 100000 in
set_option maxHeartbeats 4000000 in
theorem c_X10_thief (l : Launch) (D : va_G) (t : gT) (ad z : Nat → Nat) (hJ : gJ shM ad) (σ : gS) (x1 : Int32) (x2 : Int32) (x3 : Int32) (x4 : Int32) (q : Int32 × gS) (h : f_X10_thief σ x1 x2 x3 x4 = some q) : Met l yX10_thief (Cond.code yX10_thief cX10_thief 6 (some .int) :: lw_tb) (gR 6 171) (gPc shM t ad D z [.ref (ad 0), .int x1, .int x2, .int x3, .int x4] σ) (gQi shM t ad D q.1 q.2) 0 0 (gA shM ad) := by
  refine gMet "NineKeysRoundModel" rfl (by decide) hJ (Nat.le_of_ble_eq_true rfl) ?_
  intro p e s m below meth c ls C hr hI hl
  have hx := C.1
  have hb := C.2.1
  have hl : lv_has ls 6 [(0, .ref (ad 0)), (1, .int x1), (2, .int x2), (3, .int x3), (4, .int x4)] := hl
  unfold f_X10_thief at h
  refine lv_iload_n hx hb dX10_thief_0 rfl (lv_at hl 1 rfl) ?_
  refine h_callsi_o (rest := []) C hI hl.1 ys_X10_isShelf k_1237 h (fun q hq => c_X10_isShelf l D t ad z C.2.2.2.2.2.2.1 (σ) x1 q hq) (As := [.int x1]) rfl rfl ⟨Nat.le_of_ble_eq_true rfl, Nat.le_of_ble_eq_true rfl⟩ (Nat.le_of_ble_eq_true rfl) dX10_thief_1 (fun q1 H locs h hI => ?_)
  refine hif_eq (tgt := 34) C dX10_thief_4 (by decide) h (fun h => ?_) (fun h => ?_)
  · refine lv_iconst hx hb dX10_thief_34 ci_m1 ?_
    exact h_iret_w C hr hI h dX10_thief_35
  · refine lv_aload_n hx hb dX10_thief_7 rfl (lv_at hl 0 rfl) ?_
    refine lv_iload_n hx hb dX10_thief_8 rfl (lv_at hl 2 rfl) ?_
    refine lv_i2l (v := ((x2 : Int32).toInt64)) hx hb dX10_thief_9 rfl ?_
    refine h_callvi_o (rest := []) C hI hl.1 shM_0 rfl yv_X10_isPost k_1252 h (fun q hq => c_X10_isPost l D t ad z C.2.2.2.2.2.2.1 (σ) ((x2 : Int32).toInt64) q hq) (As := [.long ((x2 : Int32).toInt64)]) rfl rfl ⟨Nat.le_of_ble_eq_true rfl, Nat.le_of_ble_eq_true rfl⟩ (Nat.le_of_ble_eq_true rfl) dX10_thief_10 (fun q2 H locs h hI => ?_)
    refine hif_eq (tgt := 34) C dX10_thief_13 (by decide) h (fun h => ?_) (fun h => ?_)
    · refine lv_iconst hx hb dX10_thief_34 ci_m1 ?_
      exact h_iret_w C hr hI h dX10_thief_35
    · refine lv_iload_n hx hb dX10_thief_16 rfl (lv_at hl 3 rfl) ?_
      refine h_callsi_o (rest := []) C hI hl.1 ys_X10_isMinute k_1383 h (fun q hq => c_X10_isMinute l D t ad z C.2.2.2.2.2.2.1 (σ) x3 q hq) (As := [.int x3]) rfl rfl ⟨Nat.le_of_ble_eq_true rfl, Nat.le_of_ble_eq_true rfl⟩ (Nat.le_of_ble_eq_true rfl) dX10_thief_17 (fun q3 H locs h hI => ?_)
      refine hif_eq (tgt := 34) C dX10_thief_20 (by decide) h (fun h => ?_) (fun h => ?_)
      · refine lv_iconst hx hb dX10_thief_34 ci_m1 ?_
        exact h_iret_w C hr hI h dX10_thief_35
      · refine lv_iload hx hb dX10_thief_23 (lv_at hl 4 rfl) ?_
        refine lv_iconst hx hb dX10_thief_25 ci_1 ?_
        refine lv_bipush hx hb dX10_thief_26 cb_99 ?_
        refine h_callsi_o (rest := []) C hI hl.1 ys_X10_within k_1240 h (fun q hq => c_X10_within l D t ad z C.2.2.2.2.2.2.1 (σ) x4 1 99 q hq) (As := [.int x4, .int 1, .int 99]) rfl rfl ⟨Nat.le_of_ble_eq_true rfl, Nat.le_of_ble_eq_true rfl⟩ (Nat.le_of_ble_eq_true rfl) dX10_thief_28 (fun q4 H locs h hI => ?_)
        refine hif_ne (tgt := 36) C dX10_thief_31 (by decide) h (fun h => ?_) (fun h => ?_)
        · refine lv_aload_n hx hb dX10_thief_36 rfl (lv_at hl 0 rfl) ?_
          refine lv_iload_n hx hb dX10_thief_37 rfl (lv_at hl 1 rfl) ?_
          refine lv_iconst hx hb dX10_thief_38 ci_0 ?_
          refine h_callvi_o (rest := []) C hI hl.1 shM_0 rfl yv_X10_noRow k_1338 h (fun q hq => c_X10_noRow l D t ad z C.2.2.2.2.2.2.1 (σ) x1 0 q hq) (As := [.int x1, .int 0]) rfl rfl ⟨Nat.le_of_ble_eq_true rfl, Nat.le_of_ble_eq_true rfl⟩ (Nat.le_of_ble_eq_true rfl) dX10_thief_39 (fun q5 H locs h hI => ?_)
          refine lv_istore (lv' := [(5, .int q5), (0, .ref (ad 0)), (1, .int x1), (2, .int x2), (3, .int x3), (4, .int x4)]) hx hb dX10_thief_42 hl (by decide) rfl (fun ls hl => ?_)
          refine lv_iload hx hb dX10_thief_44 (lv_at hl 0 rfl) ?_
          refine hif_ge (tgt := 52) C dX10_thief_46 (by decide) h (fun h => ?_) (fun h => ?_)
          · refine lv_aload_n hx hb dX10_thief_52 rfl (lv_at hl 1 rfl) ?_
            refine lv_iload_n hx hb dX10_thief_53 rfl (lv_at hl 2 rfl) ?_
            refine h_callvv_w (rest := []) C hI hl.1 shM_0 rfl yv_X10_reads k_1342 h (fun q hq => c_X10_reads l D t ad z C.2.2.2.2.2.2.1 (σ) x1 q hq) (As := [.int x1]) rfl rfl ⟨Nat.le_of_ble_eq_true rfl, Nat.le_of_ble_eq_true rfl⟩ (Nat.le_of_ble_eq_true rfl) dX10_thief_54 (fun q6 H locs h hI => ?_)
            refine lv_aload_n hx hb dX10_thief_57 rfl (lv_at hl 1 rfl) ?_
            refine h_callvv_w (rest := []) C hI hl.1 shM_0 rfl yv_X10_looks k_1390 h (fun q hq => c_X10_looks l D t ad z C.2.2.2.2.2.2.1 q6 q hq) (As := []) rfl rfl ⟨Nat.le_of_ble_eq_true rfl, Nat.le_of_ble_eq_true rfl⟩ (Nat.le_of_ble_eq_true rfl) dX10_thief_58 (fun q7 H locs h hI => ?_)
            refine lv_aload_n hx hb dX10_thief_61 rfl (lv_at hl 1 rfl) ?_
            refine lv_iload_n hx hb dX10_thief_62 rfl (lv_at hl 3 rfl) ?_
            refine lv_iload_n hx hb dX10_thief_63 rfl (lv_at hl 4 rfl) ?_
            refine lv_iload hx hb dX10_thief_64 (lv_at hl 5 rfl) ?_
            refine h_callvi_o (rest := []) C hI hl.1 shM_0 rfl yv_X10_thiefAt k_1468 h (fun q hq => c_X10_thiefAt l D t ad z C.2.2.2.2.2.2.1 q7 x2 x3 x4 q hq) (As := [.int x2, .int x3, .int x4]) rfl rfl ⟨Nat.le_of_ble_eq_true rfl, Nat.le_of_ble_eq_true rfl⟩ (Nat.le_of_ble_eq_true rfl) dX10_thief_66 (fun q8 H locs h hI => ?_)
            exact h_iret_w C hr hI h dX10_thief_69
          · refine lv_iload hx hb dX10_thief_49 (lv_at hl 0 rfl) ?_
            exact h_iret_w C hr hI h dX10_thief_51
        · refine lv_iconst hx hb dX10_thief_34 ci_m1 ?_
          exact h_iret_w C hr hI h dX10_thief_35
set_option maxRecDepth 100000 in
set_option maxHeartbeats 4000000 in
theorem w_X10_safe_47 {p : Program} {l : Launch} {e : Env} {s : State} {m : MethodId} {args : Array Value} {below : List Frame} {meth : Method} {c : Code} {D : va_G} {t : gT} {ad z : Nat → Nat} (C : gC p s m args meth c cX10_safe 6 "NineKeysRoundModel" D t shM ad z) (hr : meth.sig.returnType = some .int) {r : Int32 × gS} : ∀ (n : Nat) (x2 : Int32) (x4 : Int32) (x5 : Int32) (σ : gS) (H : Heap) (locs : List Loc) (ls : Array Slot), f_X10_safe_47 n x2 x4 x5 σ = some r → gI shM t ad D s.heap σ H locs → lv_has ls 6 [(0, .ref (ad 0)), (2, .int x2), (4, .int x4), (5, .int x5)] → W p l e (gR 6 171) s m args below meth c H locs 0 0 (MQ below (gQi shM t ad D r.1 r.2) args s 0 0 (gA shM ad)) (F0 m 47 ls []) := by
  have hx := C.1
  have hb := C.2.1
  intro n
  induction n with
  | zero =>
    intro x2 x4 x5 σ H locs ls  h
    exact absurd h (by simp [f_X10_safe_47])
  | succ n ih =>
    intro x2 x4 x5 σ H locs ls  h hI hl
    unfold f_X10_safe_47 at h
    refine lv_iload hx hb dX10_safe_47 (lv_at hl 3 rfl) ?_
    refine lv_aload_n hx hb dX10_safe_49 rfl (lv_at hl 0 rfl) ?_
    refine fg_1061 C hI shM_0 rfl dX10_safe_50 ?_
    refine hicmp_ge (tgt := 84) C dX10_safe_53 (by decide) h (fun h => ?_) (fun h => ?_)
    · refine lv_iload hx hb dX10_safe_84 (lv_at hl 2 rfl) ?_
      exact h_iret_w C hr hI h dX10_safe_86
    · refine lv_aload_n hx hb dX10_safe_56 rfl (lv_at hl 0 rfl) ?_
      refine lv_iload hx hb dX10_safe_57 (lv_at hl 3 rfl) ?_
      refine lv_iconst hx hb dX10_safe_59 ci_0 ?_
      refine lv_iload_n hx hb dX10_safe_60 rfl (lv_at hl 1 rfl) ?_
      refine h_callvi_o (rest := []) C hI hl.1 shM_0 rfl yv_X10_thiefAt k_1468 h (fun q hq => c_X10_thiefAt l D t ad z C.2.2.2.2.2.2.1 (σ) x5 0 x2 q hq) (As := [.int x5, .int 0, .int x2]) rfl rfl ⟨Nat.le_of_ble_eq_true rfl, Nat.le_of_ble_eq_true rfl⟩ (Nat.le_of_ble_eq_true rfl) dX10_safe_61 (fun q1 H locs h hI => ?_)
      refine lv_bipush hx hb dX10_safe_64 cb_m2 ?_
      refine hicmp_ne (tgt := 78) C dX10_safe_66 (by decide) h (fun h => ?_) (fun h => ?_)
      · refine h_iinc C hl dX10_safe_78 3 rfl ci_1 h (by decide) (lvf := fun v2 => [(5, .int v2), (0, .ref (ad 0)), (2, .int x2), (4, .int x4)]) (fun _ => rfl) (fun v2 ls h hl => ?_)
        refine lv_goto (tgt := 47) hx hb dX10_safe_81 (by decide) ?_
        exact ih _ _ _ _ _ _ _  h hI (lv_sub hl [1, 2, 3, 0] rfl)
      · refine lv_iload hx hb dX10_safe_69 (lv_at hl 2 rfl) ?_
        refine lv_iconst hx hb dX10_safe_71 ci_1 ?_
        refine lv_iload hx hb dX10_safe_72 (lv_at hl 3 rfl) ?_
        refine lv_ishl hx hb dX10_safe_74 ?_
        refine lv_ior hx hb dX10_safe_75 ?_
        refine gx_topi h (fun v3 h => ?_)
        refine lv_istore (lv' := [(4, .int v3), (0, .ref (ad 0)), (2, .int x2), (5, .int x5)]) hx hb dX10_safe_76 hl (by decide) rfl (fun ls hl => ?_)
        refine h_iinc C hl dX10_safe_78 3 rfl ci_1 h (by decide) (lvf := fun v4 => [(5, .int v4), (4, .int v3), (0, .ref (ad 0)), (2, .int x2)]) (fun _ => rfl) (fun v4 ls h hl => ?_)
        refine lv_goto (tgt := 47) hx hb dX10_safe_81 (by decide) ?_
        exact ih _ _ _ _ _ _ _  h hI (lv_sub hl [2, 3, 1, 0] rfl)
set_option maxRecDepth 100000 in
set_option maxHeartbeats 4000000 in
theorem c_X10_safe (l : Launch) (D : va_G) (t : gT) (ad z : Nat → Nat) (hJ : gJ shM ad) (σ : gS) (x1 : Int32) (x2 : Int32) (q : Int32 × gS) (h : f_X10_safe σ x1 x2 = some q) : Met l yX10_safe (Cond.code yX10_safe cX10_safe 6 (some .int) :: lw_tb) (gR 6 171) (gPc shM t ad D z [.ref (ad 0), .int x1, .int x2] σ) (gQi shM t ad D q.1 q.2) 0 0 (gA shM ad) := by
  refine gMet "NineKeysRoundModel" rfl (by decide) hJ (Nat.le_of_ble_eq_true rfl) ?_
  intro p e s m below meth c ls C hr hI hl
  have hx := C.1
  have hb := C.2.1
  have hl : lv_has ls 6 [(0, .ref (ad 0)), (1, .int x1), (2, .int x2)] := hl
  unfold f_X10_safe at h
  refine lv_iload_n hx hb dX10_safe_0 rfl (lv_at hl 1 rfl) ?_
  refine h_callsi_o (rest := []) C hI hl.1 ys_X10_isShelf k_1237 h (fun q hq => c_X10_isShelf l D t ad z C.2.2.2.2.2.2.1 (σ) x1 q hq) (As := [.int x1]) rfl rfl ⟨Nat.le_of_ble_eq_true rfl, Nat.le_of_ble_eq_true rfl⟩ (Nat.le_of_ble_eq_true rfl) dX10_safe_1 (fun q1 H locs h hI => ?_)
  refine hif_eq (tgt := 17) C dX10_safe_4 (by decide) h (fun h => ?_) (fun h => ?_)
  · refine lv_iconst hx hb dX10_safe_17 ci_m1 ?_
    exact h_iret_w C hr hI h dX10_safe_18
  · refine lv_iload_n hx hb dX10_safe_7 rfl (lv_at hl 2 rfl) ?_
    refine lv_iconst hx hb dX10_safe_8 ci_1 ?_
    refine lv_bipush hx hb dX10_safe_9 cb_99 ?_
    refine h_callsi_o (rest := []) C hI hl.1 ys_X10_within k_1240 h (fun q hq => c_X10_within l D t ad z C.2.2.2.2.2.2.1 (σ) x2 1 99 q hq) (As := [.int x2, .int 1, .int 99]) rfl rfl ⟨Nat.le_of_ble_eq_true rfl, Nat.le_of_ble_eq_true rfl⟩ (Nat.le_of_ble_eq_true rfl) dX10_safe_11 (fun q2 H locs h hI => ?_)
    refine hif_ne (tgt := 19) C dX10_safe_14 (by decide) h (fun h => ?_) (fun h => ?_)
    · refine lv_aload_n hx hb dX10_safe_19 rfl (lv_at hl 0 rfl) ?_
      refine lv_iload_n hx hb dX10_safe_20 rfl (lv_at hl 1 rfl) ?_
      refine lv_iconst hx hb dX10_safe_21 ci_0 ?_
      refine h_callvi_o (rest := []) C hI hl.1 shM_0 rfl yv_X10_noRow k_1338 h (fun q hq => c_X10_noRow l D t ad z C.2.2.2.2.2.2.1 (σ) x1 0 q hq) (As := [.int x1, .int 0]) rfl rfl ⟨Nat.le_of_ble_eq_true rfl, Nat.le_of_ble_eq_true rfl⟩ (Nat.le_of_ble_eq_true rfl) dX10_safe_22 (fun q3 H locs h hI => ?_)
      refine lv_istore_n (lv' := [(3, .int q3), (0, .ref (ad 0)), (1, .int x1), (2, .int x2)]) hx hb dX10_safe_25 rfl hl (by decide) rfl (fun ls hl => ?_)
      refine lv_iload_n hx hb dX10_safe_26 rfl (lv_at hl 0 rfl) ?_
      refine hif_ge (tgt := 32) C dX10_safe_27 (by decide) h (fun h => ?_) (fun h => ?_)
      · refine lv_aload_n hx hb dX10_safe_32 rfl (lv_at hl 1 rfl) ?_
        refine lv_iload_n hx hb dX10_safe_33 rfl (lv_at hl 2 rfl) ?_
        refine h_callvv_w (rest := []) C hI hl.1 shM_0 rfl yv_X10_reads k_1342 h (fun q hq => c_X10_reads l D t ad z C.2.2.2.2.2.2.1 (σ) x1 q hq) (As := [.int x1]) rfl rfl ⟨Nat.le_of_ble_eq_true rfl, Nat.le_of_ble_eq_true rfl⟩ (Nat.le_of_ble_eq_true rfl) dX10_safe_34 (fun q4 H locs h hI => ?_)
        refine lv_aload_n hx hb dX10_safe_37 rfl (lv_at hl 1 rfl) ?_
        refine h_callvv_w (rest := []) C hI hl.1 shM_0 rfl yv_X10_looks k_1390 h (fun q hq => c_X10_looks l D t ad z C.2.2.2.2.2.2.1 q4 q hq) (As := []) rfl rfl ⟨Nat.le_of_ble_eq_true rfl, Nat.le_of_ble_eq_true rfl⟩ (Nat.le_of_ble_eq_true rfl) dX10_safe_38 (fun q5 H locs h hI => ?_)
        refine lv_iconst hx hb dX10_safe_41 ci_0 ?_
        refine lv_istore (lv' := [(4, .int 0), (3, .int q3), (0, .ref (ad 0)), (1, .int x1), (2, .int x2)]) hx hb dX10_safe_42 hl (by decide) rfl (fun ls hl => ?_)
        refine lv_iconst hx hb dX10_safe_44 ci_0 ?_
        refine lv_istore (lv' := [(5, .int 0), (4, .int 0), (3, .int q3), (0, .ref (ad 0)), (1, .int x1), (2, .int x2)]) hx hb dX10_safe_45 hl (by decide) rfl (fun ls hl => ?_)
        exact w_X10_safe_47 C hr    _ _ _ _ _ _ _ _  h hI (lv_sub hl [3, 5, 1, 0] rfl)
      · refine lv_iload_n hx hb dX10_safe_30 rfl (lv_at hl 0 rfl) ?_
        exact h_iret_w C hr hI h dX10_safe_31
    · refine lv_iconst hx hb dX10_safe_17 ci_m1 ?_
      exact h_iret_w C hr hI h dX10_safe_18
set_option maxRecDepth 100000 in
set_option maxHeartbeats 4000000 in
theorem w_X10_twoOf_78 {p : Program} {l : Launch} {e : Env} {s : State} {m : MethodId} {args : Array Value} {below : List Frame} {meth : Method} {c : Code} {D : va_G} {t : gT} {ad z : Nat → Nat} (C : gC p s m args meth c cX10_twoOf 7 "NineKeysRoundModel" D t shM ad z) (hr : meth.sig.returnType = some .int) {r : Int32 × gS} (K_24 : Int32 → Int32 → Int32 → gS → Option (Int32 × gS)) (hK_24 : ∀ (x1 : Int32) (x2 : Int32) (x3 : Int32) (σ : gS) (H : Heap) (locs : List Loc) (ls : Array Slot), K_24 x1 x2 x3 σ = some r → gI shM t ad D s.heap σ H locs → lv_has ls 7 [(0, .ref (ad 0)), (1, .int x1), (2, .int x2), (3, .int x3)] → W p l e (gR 1 60) s m args below meth c H locs 0 0 (MQ below (gQi shM t ad D r.1 r.2) args s 0 0 (gA shM ad)) (F0 m 24 ls [])) : ∀ (x1 : Int32) (x2 : Int32) (x3 : Int32) (x4 : Int32) (σ : gS) (H : Heap) (locs : List Loc) (ls : Array Slot), f_X10_twoOf_78 K_24 x1 x2 x3 x4 σ = some r → gI shM t ad D s.heap σ H locs → lv_has ls 7 [(0, .ref (ad 0)), (1, .int x1), (2, .int x2), (3, .int x3), (4, .int x4)] → W p l e (gR 1 60) s m args below meth c H locs 0 0 (MQ below (gQi shM t ad D r.1 r.2) args s 0 0 (gA shM ad)) (F0 m 78 ls []) := by
  have hx := C.1
  have hb := C.2.1
  intro x1 x2 x3 x4 σ H locs ls  h hI hl
  unfold f_X10_twoOf_78 at h
  refine lv_iload hx hb dX10_twoOf_78 (lv_at hl 4 rfl) ?_
  refine lv_iload_n hx hb dX10_twoOf_80 rfl (lv_at hl 2 rfl) ?_
  refine lv_iadd hx hb dX10_twoOf_81 ?_
  refine lv_sipush hx hb dX10_twoOf_82 cs_1000 ?_
  refine hicmp_ge (tgt := 101) C dX10_twoOf_85 (by decide) h (fun h => ?_) (fun h => ?_)
  · refine h_iinc C hl dX10_twoOf_101 3 rfl ci_1 h (by decide) (lvf := fun v1 => [(3, .int v1), (0, .ref (ad 0)), (1, .int x1), (2, .int x2), (4, .int x4)]) (fun _ => rfl) (fun v1 ls h hl => ?_)
    refine lv_goto (tgt := 24) hx hb dX10_twoOf_104 (by decide) ?_
    exact hK_24 _ _ _ _ _ _ _  h hI (lv_sub hl [1, 2, 3, 0] rfl)
  · refine lv_aload_n hx hb dX10_twoOf_88 rfl (lv_at hl 0 rfl) ?_
    refine fr_1112 C hI shM_0 rfl dX10_twoOf_89 ?_
    refine lv_iload hx hb dX10_twoOf_92 (lv_at hl 4 rfl) ?_
    refine lv_iload_n hx hb dX10_twoOf_94 rfl (lv_at hl 2 rfl) ?_
    refine lv_iadd hx hb dX10_twoOf_95 ?_
    refine gx_topi h (fun v2 h => ?_)
    refine lv_dup2_11 hx hb dX10_twoOf_96 rfl rfl ?_
    refine gx_iald C hI shM_32 h dX10_twoOf_97 (fun h => ?_)
    refine lv_iconst hx hb dX10_twoOf_98 ci_1 ?_
    refine lv_iadd hx hb dX10_twoOf_99 ?_
    refine gx_iast C hI shM_32 h dX10_twoOf_100 (fun H locs h hI => ?_)
    refine gx_st h hI (fun s3 h hI => ?_)
    refine h_iinc C hl dX10_twoOf_101 3 rfl ci_1 h (by decide) (lvf := fun v4 => [(3, .int v4), (0, .ref (ad 0)), (1, .int x1), (2, .int x2), (4, .int x4)]) (fun _ => rfl) (fun v4 ls h hl => ?_)
    refine lv_goto (tgt := 24) hx hb dX10_twoOf_104 (by decide) ?_
    exact hK_24 _ _ _ _ _ _ _  h hI (lv_sub hl [1, 2, 3, 0] rfl)
set_option maxRecDepth 100000 in
set_option maxHeartbeats 4000000 in
theorem w_X10_twoOf_166 {p : Program} {l : Launch} {e : Env} {s : State} {m : MethodId} {args : Array Value} {below : List Frame} {meth : Method} {c : Code} {D : va_G} {t : gT} {ad z : Nat → Nat} (C : gC p s m args meth c cX10_twoOf 7 "NineKeysRoundModel" D t shM ad z) (hr : meth.sig.returnType = some .int) {r : Int32 × gS} (K_118 : Int32 → Int32 → Int32 → Int32 → gS → Option (Int32 × gS)) (hK_118 : ∀ (x3 : Int32) (x4 : Int32) (x5 : Int32) (x6 : Int32) (σ : gS) (H : Heap) (locs : List Loc) (ls : Array Slot), K_118 x3 x4 x5 x6 σ = some r → gI shM t ad D s.heap σ H locs → lv_has ls 7 [(0, .ref (ad 0)), (3, .int x3), (4, .int x4), (5, .int x5), (6, .int x6)] → W p l e (gR 1 60) s m args below meth c H locs 0 0 (MQ below (gQi shM t ad D r.1 r.2) args s 0 0 (gA shM ad)) (F0 m 118 ls [])) : ∀ (x3 : Int32) (x5 : Int32) (x6 : Int32) (σ : gS) (H : Heap) (locs : List Loc) (ls : Array Slot), f_X10_twoOf_166 K_118 x3 x5 x6 σ = some r → gI shM t ad D s.heap σ H locs → lv_has ls 7 [(0, .ref (ad 0)), (3, .int x3), (5, .int x5), (6, .int x6)] → W p l e (gR 1 60) s m args below meth c H locs 0 0 (MQ below (gQi shM t ad D r.1 r.2) args s 0 0 (gA shM ad)) (F0 m 166 ls []) := by
  have hx := C.1
  have hb := C.2.1
  intro x3 x5 x6 σ H locs ls  h hI hl
  unfold f_X10_twoOf_166 at h
  refine lv_iload hx hb dX10_twoOf_166 (lv_at hl 3 rfl) ?_
  refine lv_istore (lv' := [(4, .int x6), (0, .ref (ad 0)), (3, .int x3), (5, .int x5), (6, .int x6)]) hx hb dX10_twoOf_168 hl (by decide) rfl (fun ls hl => ?_)
  refine h_iinc C hl dX10_twoOf_170 4 rfl ci_1 h (by decide) (lvf := fun v1 => [(6, .int v1), (4, .int x6), (0, .ref (ad 0)), (3, .int x3), (5, .int x5)]) (fun _ => rfl) (fun v1 ls h hl => ?_)
  refine lv_goto (tgt := 118) hx hb dX10_twoOf_173 (by decide) ?_
  exact hK_118 _ _ _ _ _ _ _ _  h hI (lv_sub hl [2, 3, 1, 4, 0] rfl)
set_option maxRecDepth 100000 in
set_option maxHeartbeats 4000000 in
theorem w_X10_twoOf_118 {p : Program} {l : Launch} {e : Env} {s : State} {m : MethodId} {args : Array Value} {below : List Frame} {meth : Method} {c : Code} {D : va_G} {t : gT} {ad z : Nat → Nat} (C : gC p s m args meth c cX10_twoOf 7 "NineKeysRoundModel" D t shM ad z) (hr : meth.sig.returnType = some .int) {r : Int32 × gS} : ∀ (n : Nat) (x3 : Int32) (x4 : Int32) (x5 : Int32) (x6 : Int32) (σ : gS) (H : Heap) (locs : List Loc) (ls : Array Slot), f_X10_twoOf_118 n x3 x4 x5 x6 σ = some r → gI shM t ad D s.heap σ H locs → lv_has ls 7 [(0, .ref (ad 0)), (3, .int x3), (4, .int x4), (5, .int x5), (6, .int x6)] → W p l e (gR 1 60) s m args below meth c H locs 0 0 (MQ below (gQi shM t ad D r.1 r.2) args s 0 0 (gA shM ad)) (F0 m 118 ls []) := by
  have hx := C.1
  have hb := C.2.1
  intro n
  induction n with
  | zero =>
    intro x3 x4 x5 x6 σ H locs ls  h
    exact absurd h (by simp [f_X10_twoOf_118])
  | succ n ih =>
    intro x3 x4 x5 x6 σ H locs ls  h hI hl
    unfold f_X10_twoOf_118 at h
    refine lv_iload hx hb dX10_twoOf_118 (lv_at hl 4 rfl) ?_
    refine lv_sipush hx hb dX10_twoOf_120 cs_1000 ?_
    refine hicmp_ge (tgt := 176) C dX10_twoOf_123 (by decide) h (fun h => ?_) (fun h => ?_)
    · refine lv_iload_n hx hb dX10_twoOf_176 rfl (lv_at hl 1 rfl) ?_
      refine lv_iconst hx hb dX10_twoOf_177 ci_2 ?_
      refine hicmp_ge (tgt := 186) C dX10_twoOf_178 (by decide) h (fun h => ?_) (fun h => ?_)
      · refine lv_iload hx hb dX10_twoOf_186 (lv_at hl 3 rfl) ?_
        exact h_iret_w C hr hI h dX10_twoOf_188
      · refine lv_bipush hx hb dX10_twoOf_181 cb_m2 ?_
        refine lv_goto (tgt := 188) hx hb dX10_twoOf_183 (by decide) ?_
        exact h_iret_w C hr hI h dX10_twoOf_188
    · refine lv_aload_n hx hb dX10_twoOf_126 rfl (lv_at hl 0 rfl) ?_
      refine fr_1112 C hI shM_0 rfl dX10_twoOf_127 ?_
      refine lv_iload hx hb dX10_twoOf_130 (lv_at hl 4 rfl) ?_
      refine gx_iald C hI shM_32 h dX10_twoOf_132 (fun h => ?_)
      refine hif_ne (tgt := 139) C dX10_twoOf_133 (by decide) h (fun h => ?_) (fun h => ?_)
      · refine lv_iload_n hx hb dX10_twoOf_139 rfl (lv_at hl 1 rfl) ?_
        refine lv_aload_n hx hb dX10_twoOf_140 rfl (lv_at hl 0 rfl) ?_
        refine fr_1112 C hI shM_0 rfl dX10_twoOf_141 ?_
        refine lv_iload hx hb dX10_twoOf_144 (lv_at hl 4 rfl) ?_
        refine gx_iald C hI shM_32 h dX10_twoOf_146 (fun h => ?_)
        refine lv_iadd hx hb dX10_twoOf_147 ?_
        refine gx_topi h (fun v1 h => ?_)
        refine lv_istore_n (lv' := [(3, .int v1), (0, .ref (ad 0)), (4, .int x4), (5, .int x5), (6, .int x6)]) hx hb dX10_twoOf_148 rfl hl (by decide) rfl (fun ls hl => ?_)
        refine lv_iload hx hb dX10_twoOf_149 (lv_at hl 2 rfl) ?_
        refine hif_lt (tgt := 166) C dX10_twoOf_151 (by decide) h (fun h => ?_) (fun h => ?_)
        · exact w_X10_twoOf_166 C hr   _ ih _ _ _ _ _ _ _  h hI (lv_sub hl [1, 0, 3, 4] rfl)
        · refine lv_iload hx hb dX10_twoOf_154 (lv_at hl 3 rfl) ?_
          refine lv_iload hx hb dX10_twoOf_156 (lv_at hl 4 rfl) ?_
          refine lv_iload hx hb dX10_twoOf_158 (lv_at hl 2 rfl) ?_
          refine lv_isub hx hb dX10_twoOf_160 ?_
          refine h_mmax C hl.1 k_1402 ⟨Nat.le_of_ble_eq_true rfl, Nat.le_of_ble_eq_true rfl⟩ ⟨Nat.zero_le _, Nat.zero_le _⟩ dX10_twoOf_161 ?_
          refine gx_topi h (fun v2 h => ?_)
          refine lv_istore (lv' := [(5, .int v2), (3, .int v1), (0, .ref (ad 0)), (4, .int x4), (6, .int x6)]) hx hb dX10_twoOf_164 hl (by decide) rfl (fun ls hl => ?_)
          exact w_X10_twoOf_166 C hr   _ ih _ _ _ _ _ _ _  h hI (lv_sub hl [2, 1, 0, 4] rfl)
      · refine lv_goto (tgt := 170) hx hb dX10_twoOf_136 (by decide) ?_
        refine h_iinc C hl dX10_twoOf_170 4 rfl ci_1 h (by decide) (lvf := fun v3 => [(6, .int v3), (0, .ref (ad 0)), (3, .int x3), (4, .int x4), (5, .int x5)]) (fun _ => rfl) (fun v3 ls h hl => ?_)
        refine lv_goto (tgt := 118) hx hb dX10_twoOf_173 (by decide) ?_
        exact ih _ _ _ _ _ _ _ _  h hI (lv_sub hl [1, 2, 3, 4, 0] rfl)
set_option maxRecDepth 100000 in
set_option maxHeartbeats 4000000 in
theorem w_X10_twoOf_24 {p : Program} {l : Launch} {e : Env} {s : State} {m : MethodId} {args : Array Value} {below : List Frame} {meth : Method} {c : Code} {D : va_G} {t : gT} {ad z : Nat → Nat} (C : gC p s m args meth c cX10_twoOf 7 "NineKeysRoundModel" D t shM ad z) (hr : meth.sig.returnType = some .int) {r : Int32 × gS} : ∀ (n : Nat) (x1 : Int32) (x2 : Int32) (x3 : Int32) (σ : gS) (H : Heap) (locs : List Loc) (ls : Array Slot), f_X10_twoOf_24 n x1 x2 x3 σ = some r → gI shM t ad D s.heap σ H locs → lv_has ls 7 [(0, .ref (ad 0)), (1, .int x1), (2, .int x2), (3, .int x3)] → W p l e (gR 1 60) s m args below meth c H locs 0 0 (MQ below (gQi shM t ad D r.1 r.2) args s 0 0 (gA shM ad)) (F0 m 24 ls []) := by
  have hx := C.1
  have hb := C.2.1
  intro n
  induction n with
  | zero =>
    intro x1 x2 x3 σ H locs ls  h
    exact absurd h (by simp [f_X10_twoOf_24])
  | succ n ih =>
    intro x1 x2 x3 σ H locs ls  h hI hl
    unfold f_X10_twoOf_24 at h
    refine lv_iload_n hx hb dX10_twoOf_24 rfl (lv_at hl 3 rfl) ?_
    refine lv_aload_n hx hb dX10_twoOf_25 rfl (lv_at hl 0 rfl) ?_
    refine fg_1107 C hI shM_0 rfl dX10_twoOf_26 ?_
    refine hicmp_ge (tgt := 107) C dX10_twoOf_29 (by decide) h (fun h => ?_) (fun h => ?_)
    · refine lv_iconst hx hb dX10_twoOf_107 ci_0 ?_
      refine lv_istore_n (lv' := [(3, .int 0), (0, .ref (ad 0)), (1, .int x1), (2, .int x2)]) hx hb dX10_twoOf_108 rfl hl (by decide) rfl (fun ls hl => ?_)
      refine lv_iconst hx hb dX10_twoOf_109 ci_m1 ?_
      refine lv_istore (lv' := [(4, .int (-1)), (3, .int 0), (0, .ref (ad 0)), (1, .int x1), (2, .int x2)]) hx hb dX10_twoOf_110 hl (by decide) rfl (fun ls hl => ?_)
      refine lv_iconst hx hb dX10_twoOf_112 ci_0 ?_
      refine lv_istore (lv' := [(5, .int 0), (4, .int (-1)), (3, .int 0), (0, .ref (ad 0)), (1, .int x1), (2, .int x2)]) hx hb dX10_twoOf_113 hl (by decide) rfl (fun ls hl => ?_)
      refine lv_iconst hx hb dX10_twoOf_115 ci_0 ?_
      refine lv_istore (lv' := [(6, .int 0), (5, .int 0), (4, .int (-1)), (3, .int 0), (0, .ref (ad 0)), (1, .int x1), (2, .int x2)]) hx hb dX10_twoOf_116 hl (by decide) rfl (fun ls hl => ?_)
      exact w_X10_twoOf_118 C hr    _ _ _ _ _ _ _ _ _  h hI (lv_sub hl [4, 3, 2, 1, 0] rfl)
    · refine lv_aload_n hx hb dX10_twoOf_32 rfl (lv_at hl 0 rfl) ?_
      refine fr_1109 C hI shM_0 rfl dX10_twoOf_33 ?_
      refine lv_iload_n hx hb dX10_twoOf_36 rfl (lv_at hl 3 rfl) ?_
      refine gx_iald C hI shM_29 h dX10_twoOf_37 (fun h => ?_)
      refine lv_iload_n hx hb dX10_twoOf_38 rfl (lv_at hl 1 rfl) ?_
      refine hicmp_eq (tgt := 45) C dX10_twoOf_39 (by decide) h (fun h => ?_) (fun h => ?_)
      · refine lv_aload_n hx hb dX10_twoOf_45 rfl (lv_at hl 0 rfl) ?_
        refine fr_1108 C hI shM_0 rfl dX10_twoOf_46 ?_
        refine lv_iload_n hx hb dX10_twoOf_49 rfl (lv_at hl 3 rfl) ?_
        refine gx_iald C hI shM_28 h dX10_twoOf_50 (fun h => ?_)
        refine gx_topi h (fun v1 h => ?_)
        refine lv_istore (lv' := [(4, .int v1), (0, .ref (ad 0)), (1, .int x1), (2, .int x2), (3, .int x3)]) hx hb dX10_twoOf_51 hl (by decide) rfl (fun ls hl => ?_)
        refine lv_iload hx hb dX10_twoOf_53 (lv_at hl 0 rfl) ?_
        refine lv_iload_n hx hb dX10_twoOf_55 rfl (lv_at hl 3 rfl) ?_
        refine hicmp_lt (tgt := 78) C dX10_twoOf_56 (by decide) h (fun h => ?_) (fun h => ?_)
        · exact w_X10_twoOf_78 C hr   _ ih _ _ _ _ _ _ _ _  h hI (lv_sub hl [1, 2, 3, 4, 0] rfl)
        · refine lv_iload hx hb dX10_twoOf_59 (lv_at hl 0 rfl) ?_
          refine lv_sipush hx hb dX10_twoOf_61 cs_1000 ?_
          refine hicmp_ge (tgt := 78) C dX10_twoOf_64 (by decide) h (fun h => ?_) (fun h => ?_)
          · exact w_X10_twoOf_78 C hr   _ ih _ _ _ _ _ _ _ _  h hI (lv_sub hl [1, 2, 3, 4, 0] rfl)
          · refine lv_aload_n hx hb dX10_twoOf_67 rfl (lv_at hl 1 rfl) ?_
            refine fr_1112 C hI shM_0 rfl dX10_twoOf_68 ?_
            refine lv_iload hx hb dX10_twoOf_71 (lv_at hl 0 rfl) ?_
            refine lv_dup2_11 hx hb dX10_twoOf_73 rfl rfl ?_
            refine gx_iald C hI shM_32 h dX10_twoOf_74 (fun h => ?_)
            refine lv_iconst hx hb dX10_twoOf_75 ci_1 ?_
            refine lv_iadd hx hb dX10_twoOf_76 ?_
            refine gx_iast C hI shM_32 h dX10_twoOf_77 (fun H locs h hI => ?_)
            refine gx_st h hI (fun s2 h hI => ?_)
            exact w_X10_twoOf_78 C hr   _ ih _ _ _ _ _ _ _ _  h hI (lv_sub hl [1, 2, 3, 4, 0] rfl)
      · refine lv_goto (tgt := 101) hx hb dX10_twoOf_42 (by decide) ?_
        refine h_iinc C hl dX10_twoOf_101 3 rfl ci_1 h (by decide) (lvf := fun v3 => [(3, .int v3), (0, .ref (ad 0)), (1, .int x1), (2, .int x2)]) (fun _ => rfl) (fun v3 ls h hl => ?_)
        refine lv_goto (tgt := 24) hx hb dX10_twoOf_104 (by decide) ?_
        exact ih _ _ _ _ _ _ _  h hI (lv_sub hl [1, 2, 3, 0] rfl)
set_option maxRecDepth 100000 in
set_option maxHeartbeats 4000000 in
theorem w_X10_twoOf_2 {p : Program} {l : Launch} {e : Env} {s : State} {m : MethodId} {args : Array Value} {below : List Frame} {meth : Method} {c : Code} {D : va_G} {t : gT} {ad z : Nat → Nat} (C : gC p s m args meth c cX10_twoOf 7 "NineKeysRoundModel" D t shM ad z) (hr : meth.sig.returnType = some .int) {r : Int32 × gS} : ∀ (n : Nat) (x1 : Int32) (x2 : Int32) (x3 : Int32) (σ : gS) (H : Heap) (locs : List Loc) (ls : Array Slot), f_X10_twoOf_2 n x1 x2 x3 σ = some r → gI shM t ad D s.heap σ H locs → lv_has ls 7 [(0, .ref (ad 0)), (1, .int x1), (2, .int x2), (3, .int x3)] → W p l e (gR 1 60) s m args below meth c H locs 0 0 (MQ below (gQi shM t ad D r.1 r.2) args s 0 0 (gA shM ad)) (F0 m 2 ls []) := by
  have hx := C.1
  have hb := C.2.1
  intro n
  induction n with
  | zero =>
    intro x1 x2 x3 σ H locs ls  h
    exact absurd h (by simp [f_X10_twoOf_2])
  | succ n ih =>
    intro x1 x2 x3 σ H locs ls  h hI hl
    unfold f_X10_twoOf_2 at h
    refine lv_iload_n hx hb dX10_twoOf_2 rfl (lv_at hl 3 rfl) ?_
    refine lv_sipush hx hb dX10_twoOf_3 cs_1000 ?_
    refine hicmp_ge (tgt := 22) C dX10_twoOf_6 (by decide) h (fun h => ?_) (fun h => ?_)
    · refine lv_iconst hx hb dX10_twoOf_22 ci_0 ?_
      refine lv_istore_n (lv' := [(3, .int 0), (0, .ref (ad 0)), (1, .int x1), (2, .int x2)]) hx hb dX10_twoOf_23 rfl hl (by decide) rfl (fun ls hl => ?_)
      exact w_X10_twoOf_24 C hr    _ _ _ _ _ _ _ _  h hI (lv_sub hl [1, 2, 3, 0] rfl)
    · refine lv_aload_n hx hb dX10_twoOf_9 rfl (lv_at hl 0 rfl) ?_
      refine fr_1112 C hI shM_0 rfl dX10_twoOf_10 ?_
      refine lv_iload_n hx hb dX10_twoOf_13 rfl (lv_at hl 3 rfl) ?_
      refine lv_iconst hx hb dX10_twoOf_14 ci_0 ?_
      refine gx_iast C hI shM_32 h dX10_twoOf_15 (fun H locs h hI => ?_)
      refine gx_st h hI (fun s1 h hI => ?_)
      refine h_iinc C hl dX10_twoOf_16 3 rfl ci_1 h (by decide) (lvf := fun v2 => [(3, .int v2), (0, .ref (ad 0)), (1, .int x1), (2, .int x2)]) (fun _ => rfl) (fun v2 ls h hl => ?_)
      refine lv_goto (tgt := 2) hx hb dX10_twoOf_19 (by decide) ?_
      exact ih _ _ _ _ _ _ _  h hI (lv_sub hl [1, 2, 3, 0] rfl)
set_option maxRecDepth 100000 in
set_option maxHeartbeats 4000000 in
theorem c_X10_twoOf (l : Launch) (D : va_G) (t : gT) (ad z : Nat → Nat) (hJ : gJ shM ad) (σ : gS) (x1 : Int32) (x2 : Int32) (q : Int32 × gS) (h : f_X10_twoOf σ x1 x2 = some q) : Met l yX10_twoOf (Cond.code yX10_twoOf cX10_twoOf 7 (some .int) :: lw_tb) (gR 1 60) (gPc shM t ad D z [.ref (ad 0), .int x1, .int x2] σ) (gQi shM t ad D q.1 q.2) 0 0 (gA shM ad) := by
  refine gMet "NineKeysRoundModel" rfl (by decide) hJ (Nat.le_of_ble_eq_true rfl) ?_
  intro p e s m below meth c ls C hr hI hl
  have hx := C.1
  have hb := C.2.1
  have hl : lv_has ls 7 [(0, .ref (ad 0)), (1, .int x1), (2, .int x2)] := hl
  unfold f_X10_twoOf at h
  refine lv_iconst hx hb dX10_twoOf_0 ci_0 ?_
  refine lv_istore_n (lv' := [(3, .int 0), (0, .ref (ad 0)), (1, .int x1), (2, .int x2)]) hx hb dX10_twoOf_1 rfl hl (by decide) rfl (fun ls hl => ?_)
  exact w_X10_twoOf_2 C hr    _ _ _ _ _ _ _ _  h hI (lv_sub hl [1, 2, 3, 0] rfl)
set_option maxRecDepth 100000 in
set_option maxHeartbeats 4000000 in
theorem w_X10_bestTwo_60 {p : Program} {l : Launch} {e : Env} {s : State} {m : MethodId} {args : Array Value} {below : List Frame} {meth : Method} {c : Code} {D : va_G} {t : gT} {ad z : Nat → Nat} (C : gC p s m args meth c cX10_bestTwo 6 "NineKeysRoundModel" D t shM ad z) (hr : meth.sig.returnType = some .int) {r : Int32 × gS} (K_6 : Int32 → Int32 → Int32 → gS → Option (Int32 × gS)) (hK_6 : ∀ (x1 : Int32) (x2 : Int32) (x3 : Int32) (σ : gS) (H : Heap) (locs : List Loc) (ls : Array Slot), K_6 x1 x2 x3 σ = some r → gI shM t ad D s.heap σ H locs → lv_has ls 6 [(0, .ref (ad 0)), (1, .int x1), (2, .int x2), (3, .int x3)] → W p l e (gR 2 86) s m args below meth c H locs 0 0 (MQ below (gQi shM t ad D r.1 r.2) args s 0 0 (gA shM ad)) (F0 m 6 ls [])) : ∀ (x3 : Int32) (x4 : Int32) (σ : gS) (H : Heap) (locs : List Loc) (ls : Array Slot), f_X10_bestTwo_60 K_6 x3 x4 σ = some r → gI shM t ad D s.heap σ H locs → lv_has ls 6 [(0, .ref (ad 0)), (3, .int x3), (4, .int x4)] → W p l e (gR 2 86) s m args below meth c H locs 0 0 (MQ below (gQi shM t ad D r.1 r.2) args s 0 0 (gA shM ad)) (F0 m 60 ls []) := by
  have hx := C.1
  have hb := C.2.1
  intro x3 x4 σ H locs ls  h hI hl
  unfold f_X10_bestTwo_60 at h
  refine lv_iload hx hb dX10_bestTwo_60 (lv_at hl 2 rfl) ?_
  refine lv_istore_n (lv' := [(2, .int x4), (0, .ref (ad 0)), (3, .int x3), (4, .int x4)]) hx hb dX10_bestTwo_62 rfl hl (by decide) rfl (fun ls hl => ?_)
  refine lv_iload_n hx hb dX10_bestTwo_63 rfl (lv_at hl 2 rfl) ?_
  refine lv_istore_n (lv' := [(1, .int x3), (2, .int x4), (0, .ref (ad 0)), (3, .int x3), (4, .int x4)]) hx hb dX10_bestTwo_64 rfl hl (by decide) rfl (fun ls hl => ?_)
  refine h_iinc C hl dX10_bestTwo_65 3 rfl ci_1 h (by decide) (lvf := fun v1 => [(3, .int v1), (1, .int x3), (2, .int x4), (0, .ref (ad 0)), (4, .int x4)]) (fun _ => rfl) (fun v1 ls h hl => ?_)
  refine lv_goto (tgt := 6) hx hb dX10_bestTwo_68 (by decide) ?_
  exact hK_6 _ _ _ _ _ _ _  h hI (lv_sub hl [3, 1, 2, 0] rfl)
set_option maxRecDepth 100000 in
set_option maxHeartbeats 4000000 in
theorem w_X10_bestTwo_18 {p : Program} {l : Launch} {e : Env} {s : State} {m : MethodId} {args : Array Value} {below : List Frame} {meth : Method} {c : Code} {D : va_G} {t : gT} {ad z : Nat → Nat} (C : gC p s m args meth c cX10_bestTwo 6 "NineKeysRoundModel" D t shM ad z) (hr : meth.sig.returnType = some .int) {r : Int32 × gS} (K_6 : Int32 → Int32 → Int32 → gS → Option (Int32 × gS)) (hK_6 : ∀ (x1 : Int32) (x2 : Int32) (x3 : Int32) (σ : gS) (H : Heap) (locs : List Loc) (ls : Array Slot), K_6 x1 x2 x3 σ = some r → gI shM t ad D s.heap σ H locs → lv_has ls 6 [(0, .ref (ad 0)), (1, .int x1), (2, .int x2), (3, .int x3)] → W p l e (gR 2 86) s m args below meth c H locs 0 0 (MQ below (gQi shM t ad D r.1 r.2) args s 0 0 (gA shM ad)) (F0 m 6 ls [])) : ∀ (n : Nat) (x1 : Int32) (x2 : Int32) (x3 : Int32) (x4 : Int32) (x5 : Int32) (σ : gS) (H : Heap) (locs : List Loc) (ls : Array Slot), f_X10_bestTwo_18 K_6 n x1 x2 x3 x4 x5 σ = some r → gI shM t ad D s.heap σ H locs → lv_has ls 6 [(0, .ref (ad 0)), (1, .int x1), (2, .int x2), (3, .int x3), (4, .int x4), (5, .int x5)] → W p l e (gR 2 86) s m args below meth c H locs 0 0 (MQ below (gQi shM t ad D r.1 r.2) args s 0 0 (gA shM ad)) (F0 m 18 ls []) := by
  have hx := C.1
  have hb := C.2.1
  intro n
  induction n with
  | zero =>
    intro x1 x2 x3 x4 x5 σ H locs ls  h
    exact absurd h (by simp [f_X10_bestTwo_18])
  | succ n ih =>
    intro x1 x2 x3 x4 x5 σ H locs ls  h hI hl
    unfold f_X10_bestTwo_18 at h
    refine lv_iload hx hb dX10_bestTwo_18 (lv_at hl 5 rfl) ?_
    refine lv_aload_n hx hb dX10_bestTwo_20 rfl (lv_at hl 0 rfl) ?_
    refine fg_1061 C hI shM_0 rfl dX10_bestTwo_21 ?_
    refine hicmp_ge (tgt := 47) C dX10_bestTwo_24 (by decide) h (fun h => ?_) (fun h => ?_)
    · refine lv_iload_n hx hb dX10_bestTwo_47 rfl (lv_at hl 2 rfl) ?_
      refine hif_lt (tgt := 60) C dX10_bestTwo_48 (by decide) h (fun h => ?_) (fun h => ?_)
      · exact w_X10_bestTwo_60 C hr   _ hK_6 _ _ _ _ _ _  h hI (lv_sub hl [0, 3, 4] rfl)
      · refine lv_iload hx hb dX10_bestTwo_51 (lv_at hl 4 rfl) ?_
        refine lv_iload_n hx hb dX10_bestTwo_53 rfl (lv_at hl 2 rfl) ?_
        refine hicmp_lt (tgt := 60) C dX10_bestTwo_54 (by decide) h (fun h => ?_) (fun h => ?_)
        · exact w_X10_bestTwo_60 C hr   _ hK_6 _ _ _ _ _ _  h hI (lv_sub hl [0, 3, 4] rfl)
        · refine lv_goto (tgt := 65) hx hb dX10_bestTwo_57 (by decide) ?_
          refine h_iinc C hl dX10_bestTwo_65 3 rfl ci_1 h (by decide) (lvf := fun v1 => [(3, .int v1), (0, .ref (ad 0)), (1, .int x1), (2, .int x2), (4, .int x4), (5, .int x5)]) (fun _ => rfl) (fun v1 ls h hl => ?_)
          refine lv_goto (tgt := 6) hx hb dX10_bestTwo_68 (by decide) ?_
          exact hK_6 _ _ _ _ _ _ _  h hI (lv_sub hl [1, 2, 3, 0] rfl)
    · refine lv_iload hx hb dX10_bestTwo_27 (lv_at hl 4 rfl) ?_
      refine lv_aload_n hx hb dX10_bestTwo_29 rfl (lv_at hl 0 rfl) ?_
      refine lv_iload hx hb dX10_bestTwo_30 (lv_at hl 5 rfl) ?_
      refine lv_iload_n hx hb dX10_bestTwo_32 rfl (lv_at hl 3 rfl) ?_
      refine h_callvi_w (rest := [.int x4]) C hI hl.1 shM_0 rfl yv_X10_twoOf k_1484 h (fun q hq => c_X10_twoOf l D t ad z C.2.2.2.2.2.2.1 (σ) x5 x3 q hq) (As := [.int x5, .int x3]) rfl rfl ⟨Nat.le_of_ble_eq_true rfl, Nat.le_of_ble_eq_true rfl⟩ (Nat.le_of_ble_eq_true rfl) dX10_bestTwo_33 (fun q2 H locs h hI => ?_)
      refine h_mmax C hl.1 k_1402 ⟨Nat.le_of_ble_eq_true rfl, Nat.le_of_ble_eq_true rfl⟩ ⟨Nat.zero_le _, Nat.zero_le _⟩ dX10_bestTwo_36 ?_
      refine gx_topi h (fun v3 h => ?_)
      refine lv_istore (lv' := [(4, .int v3), (0, .ref (ad 0)), (1, .int x1), (2, .int x2), (3, .int x3), (5, .int x5)]) hx hb dX10_bestTwo_39 hl (by decide) rfl (fun ls hl => ?_)
      refine h_iinc C hl dX10_bestTwo_41 5 rfl ci_1 h (by decide) (lvf := fun v4 => [(5, .int v4), (4, .int v3), (0, .ref (ad 0)), (1, .int x1), (2, .int x2), (3, .int x3)]) (fun _ => rfl) (fun v4 ls h hl => ?_)
      refine lv_goto (tgt := 18) hx hb dX10_bestTwo_44 (by decide) ?_
      exact ih _ _ _ _ _ _ _ _ _  h hI (lv_sub hl [2, 3, 4, 5, 1, 0] rfl)
set_option maxRecDepth 100000 in
set_option maxHeartbeats 4000000 in
theorem w_X10_bestTwo_6 {p : Program} {l : Launch} {e : Env} {s : State} {m : MethodId} {args : Array Value} {below : List Frame} {meth : Method} {c : Code} {D : va_G} {t : gT} {ad z : Nat → Nat} (C : gC p s m args meth c cX10_bestTwo 6 "NineKeysRoundModel" D t shM ad z) (hr : meth.sig.returnType = some .int) {r : Int32 × gS} : ∀ (n : Nat) (x1 : Int32) (x2 : Int32) (x3 : Int32) (σ : gS) (H : Heap) (locs : List Loc) (ls : Array Slot), f_X10_bestTwo_6 n x1 x2 x3 σ = some r → gI shM t ad D s.heap σ H locs → lv_has ls 6 [(0, .ref (ad 0)), (1, .int x1), (2, .int x2), (3, .int x3)] → W p l e (gR 2 86) s m args below meth c H locs 0 0 (MQ below (gQi shM t ad D r.1 r.2) args s 0 0 (gA shM ad)) (F0 m 6 ls []) := by
  have hx := C.1
  have hb := C.2.1
  intro n
  induction n with
  | zero =>
    intro x1 x2 x3 σ H locs ls  h
    exact absurd h (by simp [f_X10_bestTwo_6])
  | succ n ih =>
    intro x1 x2 x3 σ H locs ls  h hI hl
    unfold f_X10_bestTwo_6 at h
    refine lv_iload_n hx hb dX10_bestTwo_6 rfl (lv_at hl 3 rfl) ?_
    refine lv_bipush hx hb dX10_bestTwo_7 cb_100 ?_
    refine hicmp_ge (tgt := 71) C dX10_bestTwo_9 (by decide) h (fun h => ?_) (fun h => ?_)
    · refine lv_iload_n hx hb dX10_bestTwo_71 rfl (lv_at hl 1 rfl) ?_
      exact h_iret_w C hr hI h dX10_bestTwo_72
    · refine lv_iconst hx hb dX10_bestTwo_12 ci_0 ?_
      refine lv_istore (lv' := [(4, .int 0), (0, .ref (ad 0)), (1, .int x1), (2, .int x2), (3, .int x3)]) hx hb dX10_bestTwo_13 hl (by decide) rfl (fun ls hl => ?_)
      refine lv_iconst hx hb dX10_bestTwo_15 ci_0 ?_
      refine lv_istore (lv' := [(5, .int 0), (4, .int 0), (0, .ref (ad 0)), (1, .int x1), (2, .int x2), (3, .int x3)]) hx hb dX10_bestTwo_16 hl (by decide) rfl (fun ls hl => ?_)
      exact w_X10_bestTwo_18 C hr   _ ih _ _ _ _ _ _ _ _ _ _  h hI (lv_sub hl [2, 3, 4, 5, 1, 0] rfl)
set_option maxRecDepth 100000 in
set_option maxHeartbeats 4000000 in
theorem c_X10_bestTwo (l : Launch) (D : va_G) (t : gT) (ad z : Nat → Nat) (hJ : gJ shM ad) (σ : gS) (q : Int32 × gS) (h : f_X10_bestTwo σ = some q) : Met l yX10_bestTwo (Cond.code yX10_bestTwo cX10_bestTwo 6 (some .int) :: lw_tb) (gR 2 86) (gPc shM t ad D z [.ref (ad 0)] σ) (gQi shM t ad D q.1 q.2) 0 0 (gA shM ad) := by
  refine gMet "NineKeysRoundModel" rfl (by decide) hJ (Nat.le_of_ble_eq_true rfl) ?_
  intro p e s m below meth c ls C hr hI hl
  have hx := C.1
  have hb := C.2.1
  have hl : lv_has ls 6 [(0, .ref (ad 0))] := hl
  unfold f_X10_bestTwo at h
  refine lv_iconst hx hb dX10_bestTwo_0 ci_0 ?_
  refine lv_istore_n (lv' := [(1, .int 0), (0, .ref (ad 0))]) hx hb dX10_bestTwo_1 rfl hl (by decide) rfl (fun ls hl => ?_)
  refine lv_iconst hx hb dX10_bestTwo_2 ci_m1 ?_
  refine lv_istore_n (lv' := [(2, .int (-1)), (1, .int 0), (0, .ref (ad 0))]) hx hb dX10_bestTwo_3 rfl hl (by decide) rfl (fun ls hl => ?_)
  refine lv_iconst hx hb dX10_bestTwo_4 ci_0 ?_
  refine lv_istore_n (lv' := [(3, .int 0), (2, .int (-1)), (1, .int 0), (0, .ref (ad 0))]) hx hb dX10_bestTwo_5 rfl hl (by decide) rfl (fun ls hl => ?_)
  exact w_X10_bestTwo_6 C hr    _ _ _ _ _ _ _ _  h hI (lv_sub hl [3, 2, 1, 0] rfl)
set_option maxRecDepth 100000 in
set_option maxHeartbeats 4000000 in
theorem w_X10_two_33 {p : Program} {l : Launch} {e : Env} {s : State} {m : MethodId} {args : Array Value} {below : List Frame} {meth : Method} {c : Code} {D : va_G} {t : gT} {ad z : Nat → Nat} (C : gC p s m args meth c cX10_two 5 "NineKeysRoundModel" D t shM ad z) (hr : meth.sig.returnType = some .int) {r : Int32 × gS} : ∀ (x1 : Int32) (x2 : Int32) (x3 : Int32) (σ : gS) (H : Heap) (locs : List Loc) (ls : Array Slot), f_X10_two_33 x1 x2 x3 σ = some r → gI shM t ad D s.heap σ H locs → lv_has ls 5 [(0, .ref (ad 0)), (1, .int x1), (2, .int x2), (3, .int x3)] → W p l e (gR 5 149) s m args below meth c H locs 0 0 (MQ below (gQi shM t ad D r.1 r.2) args s 0 0 (gA shM ad)) (F0 m 33 ls []) := by
  have hx := C.1
  have hb := C.2.1
  intro x1 x2 x3 σ H locs ls  h hI hl
  unfold f_X10_two_33 at h
  refine lv_aload_n hx hb dX10_two_33 rfl (lv_at hl 0 rfl) ?_
  refine lv_iload_n hx hb dX10_two_34 rfl (lv_at hl 1 rfl) ?_
  refine lv_iconst hx hb dX10_two_35 ci_0 ?_
  refine h_callvi_o (rest := []) C hI hl.1 shM_0 rfl yv_X10_noRow k_1338 h (fun q hq => c_X10_noRow l D t ad z C.2.2.2.2.2.2.1 (σ) x1 0 q hq) (As := [.int x1, .int 0]) rfl rfl ⟨Nat.le_of_ble_eq_true rfl, Nat.le_of_ble_eq_true rfl⟩ (Nat.le_of_ble_eq_true rfl) dX10_two_36 (fun q1 H locs h hI => ?_)
  refine lv_istore (lv' := [(4, .int q1), (0, .ref (ad 0)), (1, .int x1), (2, .int x2), (3, .int x3)]) hx hb dX10_two_39 hl (by decide) rfl (fun ls hl => ?_)
  refine lv_iload hx hb dX10_two_41 (lv_at hl 0 rfl) ?_
  refine hif_ge (tgt := 49) C dX10_two_43 (by decide) h (fun h => ?_) (fun h => ?_)
  · refine lv_aload_n hx hb dX10_two_49 rfl (lv_at hl 1 rfl) ?_
    refine lv_iload_n hx hb dX10_two_50 rfl (lv_at hl 2 rfl) ?_
    refine h_callvv_w (rest := []) C hI hl.1 shM_0 rfl yv_X10_reads k_1342 h (fun q hq => c_X10_reads l D t ad z C.2.2.2.2.2.2.1 (σ) x1 q hq) (As := [.int x1]) rfl rfl ⟨Nat.le_of_ble_eq_true rfl, Nat.le_of_ble_eq_true rfl⟩ (Nat.le_of_ble_eq_true rfl) dX10_two_51 (fun q2 H locs h hI => ?_)
    refine lv_aload_n hx hb dX10_two_54 rfl (lv_at hl 1 rfl) ?_
    refine lv_sipush hx hb dX10_two_55 cs_4000 ?_
    refine h_callvv_w (rest := []) C hI hl.1 shM_0 rfl yv_X10_walks k_1375 h (fun q hq => c_X10_walks l D t ad z C.2.2.2.2.2.2.1 q2 4000 q hq) (As := [.int 4000]) rfl rfl ⟨Nat.le_of_ble_eq_true rfl, Nat.le_of_ble_eq_true rfl⟩ (Nat.le_of_ble_eq_true rfl) dX10_two_58 (fun q3 H locs h hI => ?_)
    refine lv_iload_n hx hb dX10_two_61 rfl (lv_at hl 3 rfl) ?_
    refine lv_iconst hx hb dX10_two_62 ci_m1 ?_
    refine hicmp_ne (tgt := 73) C dX10_two_63 (by decide) h (fun h => ?_) (fun h => ?_)
    · refine lv_aload_n hx hb dX10_two_73 rfl (lv_at hl 1 rfl) ?_
      refine lv_iload_n hx hb dX10_two_74 rfl (lv_at hl 3 rfl) ?_
      refine lv_iload_n hx hb dX10_two_75 rfl (lv_at hl 4 rfl) ?_
      refine h_callvi_w (rest := []) C hI hl.1 shM_0 rfl yv_X10_twoOf k_1484 h (fun q hq => c_X10_twoOf l D t ad z C.2.2.2.2.2.2.1 q3 x2 x3 q hq) (As := [.int x2, .int x3]) rfl rfl ⟨Nat.le_of_ble_eq_true rfl, Nat.le_of_ble_eq_true rfl⟩ (Nat.le_of_ble_eq_true rfl) dX10_two_76 (fun q4 H locs h hI => ?_)
      exact h_iret_w C hr hI h dX10_two_79
    · refine lv_aload_n hx hb dX10_two_66 rfl (lv_at hl 1 rfl) ?_
      refine h_callvi_w (rest := []) C hI hl.1 shM_0 rfl yv_X10_bestTwo k_1480 h (fun q hq => c_X10_bestTwo l D t ad z C.2.2.2.2.2.2.1 q3 q hq) (As := []) rfl rfl ⟨Nat.le_of_ble_eq_true rfl, Nat.le_of_ble_eq_true rfl⟩ (Nat.le_of_ble_eq_true rfl) dX10_two_67 (fun q5 H locs h hI => ?_)
      refine lv_goto (tgt := 79) hx hb dX10_two_70 (by decide) ?_
      exact h_iret_w C hr hI h dX10_two_79
  · refine lv_iload hx hb dX10_two_46 (lv_at hl 0 rfl) ?_
    exact h_iret_w C hr hI h dX10_two_48
set_option maxRecDepth 100000 in
set_option maxHeartbeats 4000000 in
theorem c_X10_two (l : Launch) (D : va_G) (t : gT) (ad z : Nat → Nat) (hJ : gJ shM ad) (σ : gS) (x1 : Int32) (x2 : Int32) (x3 : Int32) (q : Int32 × gS) (h : f_X10_two σ x1 x2 x3 = some q) : Met l yX10_two (Cond.code yX10_two cX10_two 5 (some .int) :: lw_tb) (gR 5 149) (gPc shM t ad D z [.ref (ad 0), .int x1, .int x2, .int x3] σ) (gQi shM t ad D q.1 q.2) 0 0 (gA shM ad) := by
  refine gMet "NineKeysRoundModel" rfl (by decide) hJ (Nat.le_of_ble_eq_true rfl) ?_
  intro p e s m below meth c ls C hr hI hl
  have hx := C.1
  have hb := C.2.1
  have hl : lv_has ls 5 [(0, .ref (ad 0)), (1, .int x1), (2, .int x2), (3, .int x3)] := hl
  unfold f_X10_two at h
  refine lv_iload_n hx hb dX10_two_0 rfl (lv_at hl 1 rfl) ?_
  refine h_callsi_o (rest := []) C hI hl.1 ys_X10_isShelf k_1237 h (fun q hq => c_X10_isShelf l D t ad z C.2.2.2.2.2.2.1 (σ) x1 q hq) (As := [.int x1]) rfl rfl ⟨Nat.le_of_ble_eq_true rfl, Nat.le_of_ble_eq_true rfl⟩ (Nat.le_of_ble_eq_true rfl) dX10_two_1 (fun q1 H locs h hI => ?_)
  refine hif_eq (tgt := 31) C dX10_two_4 (by decide) h (fun h => ?_) (fun h => ?_)
  · refine lv_iconst hx hb dX10_two_31 ci_m1 ?_
    exact h_iret_w C hr hI h dX10_two_32
  · refine lv_iload_n hx hb dX10_two_7 rfl (lv_at hl 2 rfl) ?_
    refine lv_iconst hx hb dX10_two_8 ci_m1 ?_
    refine hicmp_eq (tgt := 33) C dX10_two_9 (by decide) h (fun h => ?_) (fun h => ?_)
    · exact w_X10_two_33 C hr    _ _ _ _ _ _ _  h hI (lv_sub hl [0, 1, 2, 3] rfl)
    · refine lv_aload_n hx hb dX10_two_12 rfl (lv_at hl 0 rfl) ?_
      refine lv_iload_n hx hb dX10_two_13 rfl (lv_at hl 2 rfl) ?_
      refine lv_i2l (v := ((x2 : Int32).toInt64)) hx hb dX10_two_14 rfl ?_
      refine h_callvi_o (rest := []) C hI hl.1 shM_0 rfl yv_X10_isPost k_1252 h (fun q hq => c_X10_isPost l D t ad z C.2.2.2.2.2.2.1 (σ) ((x2 : Int32).toInt64) q hq) (As := [.long ((x2 : Int32).toInt64)]) rfl rfl ⟨Nat.le_of_ble_eq_true rfl, Nat.le_of_ble_eq_true rfl⟩ (Nat.le_of_ble_eq_true rfl) dX10_two_15 (fun q2 H locs h hI => ?_)
      refine hif_eq (tgt := 31) C dX10_two_18 (by decide) h (fun h => ?_) (fun h => ?_)
      · refine lv_iconst hx hb dX10_two_31 ci_m1 ?_
        exact h_iret_w C hr hI h dX10_two_32
      · refine lv_iload_n hx hb dX10_two_21 rfl (lv_at hl 3 rfl) ?_
        refine lv_iconst hx hb dX10_two_22 ci_0 ?_
        refine lv_bipush hx hb dX10_two_23 cb_99 ?_
        refine h_callsi_o (rest := []) C hI hl.1 ys_X10_within k_1240 h (fun q hq => c_X10_within l D t ad z C.2.2.2.2.2.2.1 (σ) x3 0 99 q hq) (As := [.int x3, .int 0, .int 99]) rfl rfl ⟨Nat.le_of_ble_eq_true rfl, Nat.le_of_ble_eq_true rfl⟩ (Nat.le_of_ble_eq_true rfl) dX10_two_25 (fun q3 H locs h hI => ?_)
        refine hif_ne (tgt := 33) C dX10_two_28 (by decide) h (fun h => ?_) (fun h => ?_)
        · exact w_X10_two_33 C hr    _ _ _ _ _ _ _  h hI (lv_sub hl [0, 1, 2, 3] rfl)
        · refine lv_iconst hx hb dX10_two_31 ci_m1 ?_
          exact h_iret_w C hr hI h dX10_two_32
set_option maxRecDepth 100000 in
set_option maxHeartbeats 4000000 in
theorem w_X10_bothWays_41 {p : Program} {l : Launch} {e : Env} {s : State} {m : MethodId} {args : Array Value} {below : List Frame} {meth : Method} {c : Code} {D : va_G} {t : gT} {ad z : Nat → Nat} (C : gC p s m args meth c cX10_bothWays 3 "NineKeysRoundModel" D t shM ad z) (hr : meth.sig.returnType = none) {r : gS} : ∀ (n : Nat) (x1 : Int32) (x2 : Int32) (σ : gS) (H : Heap) (locs : List Loc) (ls : Array Slot), f_X10_bothWays_41 n x1 x2 σ = some r → gI shM t ad D s.heap σ H locs → lv_has ls 3 [(0, .ref (ad 0)), (1, .int x1), (2, .int x2)] → W p l e (gR 6 171) s m args below meth c H locs 0 0 (MQ below (gQv shM t ad D r) args s 0 0 (gA shM ad)) (F0 m 41 ls []) := by
  have hx := C.1
  have hb := C.2.1
  intro n
  induction n with
  | zero =>
    intro x1 x2 σ H locs ls  h
    exact absurd h (by simp [f_X10_bothWays_41])
  | succ n ih =>
    intro x1 x2 σ H locs ls  h hI hl
    unfold f_X10_bothWays_41 at h
    refine lv_iload_n hx hb dX10_bothWays_41 rfl (lv_at hl 2 rfl) ?_
    refine lv_sipush hx hb dX10_bothWays_42 cs_2000 ?_
    refine hicmp_ge (tgt := 70) C dX10_bothWays_45 (by decide) h (fun h => ?_) (fun h => ?_)
    · refine lv_aload_n hx hb dX10_bothWays_70 rfl (lv_at hl 0 rfl) ?_
      refine h_callvv_w (rest := []) C hI hl.1 shM_0 rfl yv_X10_turns k_1499 h (fun q hq => c_X10_turns l D t ad z C.2.2.2.2.2.2.1 (σ) q hq) (As := []) rfl rfl ⟨Nat.le_of_ble_eq_true rfl, Nat.le_of_ble_eq_true rfl⟩ (Nat.le_of_ble_eq_true rfl) dX10_bothWays_71 (fun q1 H locs h hI => ?_)
      exact h_vret_w C hr hI h dX10_bothWays_74
    · refine lv_aload_n hx hb dX10_bothWays_48 rfl (lv_at hl 0 rfl) ?_
      refine fr_1111 C hI shM_0 rfl dX10_bothWays_49 ?_
      refine lv_sipush hx hb dX10_bothWays_52 cs_2000 ?_
      refine lv_iload_n hx hb dX10_bothWays_55 rfl (lv_at hl 2 rfl) ?_
      refine lv_iadd hx hb dX10_bothWays_56 ?_
      refine lv_aload_n hx hb dX10_bothWays_57 rfl (lv_at hl 0 rfl) ?_
      refine lv_iload_n hx hb dX10_bothWays_58 rfl (lv_at hl 1 rfl) ?_
      refine lv_iload_n hx hb dX10_bothWays_59 rfl (lv_at hl 2 rfl) ?_
      refine h_callvi_o (rest := [.int (2000 + x2), .ref (ad 31)]) C hI hl.1 shM_0 rfl yv_X10_isSeen k_1398 h (fun q hq => c_X10_isSeen l D t ad z C.2.2.2.2.2.2.1 (σ) x1 x2 q hq) (As := [.int x1, .int x2]) rfl rfl ⟨Nat.le_of_ble_eq_true rfl, Nat.le_of_ble_eq_true rfl⟩ (Nat.le_of_ble_eq_true rfl) dX10_bothWays_60 (fun q2 H locs h hI => ?_)
      refine gx_zast C hI shM_31 h dX10_bothWays_63 (fun H locs h hI => ?_)
      refine gx_st h hI (fun s3 h hI => ?_)
      refine h_iinc C hl dX10_bothWays_64 2 rfl ci_1 h (by decide) (lvf := fun v4 => [(2, .int v4), (0, .ref (ad 0)), (1, .int x1)]) (fun _ => rfl) (fun v4 ls h hl => ?_)
      refine lv_goto (tgt := 41) hx hb dX10_bothWays_67 (by decide) ?_
      exact ih _ _ _ _ _ _  h hI (lv_sub hl [1, 2, 0] rfl)
set_option maxRecDepth 100000 in
set_option maxHeartbeats 4000000 in
theorem w_X10_bothWays_6 {p : Program} {l : Launch} {e : Env} {s : State} {m : MethodId} {args : Array Value} {below : List Frame} {meth : Method} {c : Code} {D : va_G} {t : gT} {ad z : Nat → Nat} (C : gC p s m args meth c cX10_bothWays 3 "NineKeysRoundModel" D t shM ad z) (hr : meth.sig.returnType = none) {r : gS} : ∀ (n : Nat) (x1 : Int32) (x2 : Int32) (σ : gS) (H : Heap) (locs : List Loc) (ls : Array Slot), f_X10_bothWays_6 n x1 x2 σ = some r → gI shM t ad D s.heap σ H locs → lv_has ls 3 [(0, .ref (ad 0)), (1, .int x1), (2, .int x2)] → W p l e (gR 6 171) s m args below meth c H locs 0 0 (MQ below (gQv shM t ad D r) args s 0 0 (gA shM ad)) (F0 m 6 ls []) := by
  have hx := C.1
  have hb := C.2.1
  intro n
  induction n with
  | zero =>
    intro x1 x2 σ H locs ls  h
    exact absurd h (by simp [f_X10_bothWays_6])
  | succ n ih =>
    intro x1 x2 σ H locs ls  h hI hl
    unfold f_X10_bothWays_6 at h
    refine lv_iload_n hx hb dX10_bothWays_6 rfl (lv_at hl 2 rfl) ?_
    refine lv_sipush hx hb dX10_bothWays_7 cs_2000 ?_
    refine hicmp_ge (tgt := 31) C dX10_bothWays_10 (by decide) h (fun h => ?_) (fun h => ?_)
    · refine lv_aload_n hx hb dX10_bothWays_31 rfl (lv_at hl 0 rfl) ?_
      refine h_callvv_w (rest := []) C hI hl.1 shM_0 rfl yv_X10_turns k_1499 h (fun q hq => c_X10_turns l D t ad z C.2.2.2.2.2.2.1 (σ) q hq) (As := []) rfl rfl ⟨Nat.le_of_ble_eq_true rfl, Nat.le_of_ble_eq_true rfl⟩ (Nat.le_of_ble_eq_true rfl) dX10_bothWays_32 (fun q1 H locs h hI => ?_)
      refine lv_aload_n hx hb dX10_bothWays_35 rfl (lv_at hl 0 rfl) ?_
      refine h_callvv_w (rest := []) C hI hl.1 shM_0 rfl yv_X10_looks k_1390 h (fun q hq => c_X10_looks l D t ad z C.2.2.2.2.2.2.1 q1 q hq) (As := []) rfl rfl ⟨Nat.le_of_ble_eq_true rfl, Nat.le_of_ble_eq_true rfl⟩ (Nat.le_of_ble_eq_true rfl) dX10_bothWays_36 (fun q2 H locs h hI => ?_)
      refine lv_iconst hx hb dX10_bothWays_39 ci_0 ?_
      refine lv_istore_n (lv' := [(2, .int 0), (0, .ref (ad 0)), (1, .int x1)]) hx hb dX10_bothWays_40 rfl hl (by decide) rfl (fun ls hl => ?_)
      exact w_X10_bothWays_41 C hr    _ _ _ _ _ _ _  h hI (lv_sub hl [1, 2, 0] rfl)
    · refine lv_aload_n hx hb dX10_bothWays_13 rfl (lv_at hl 0 rfl) ?_
      refine fr_1111 C hI shM_0 rfl dX10_bothWays_14 ?_
      refine lv_iload_n hx hb dX10_bothWays_17 rfl (lv_at hl 2 rfl) ?_
      refine lv_aload_n hx hb dX10_bothWays_18 rfl (lv_at hl 0 rfl) ?_
      refine lv_iload_n hx hb dX10_bothWays_19 rfl (lv_at hl 1 rfl) ?_
      refine lv_iload_n hx hb dX10_bothWays_20 rfl (lv_at hl 2 rfl) ?_
      refine h_callvi_o (rest := [.int x2, .ref (ad 31)]) C hI hl.1 shM_0 rfl yv_X10_isSeen k_1398 h (fun q hq => c_X10_isSeen l D t ad z C.2.2.2.2.2.2.1 (σ) x1 x2 q hq) (As := [.int x1, .int x2]) rfl rfl ⟨Nat.le_of_ble_eq_true rfl, Nat.le_of_ble_eq_true rfl⟩ (Nat.le_of_ble_eq_true rfl) dX10_bothWays_21 (fun q3 H locs h hI => ?_)
      refine gx_zast C hI shM_31 h dX10_bothWays_24 (fun H locs h hI => ?_)
      refine gx_st h hI (fun s4 h hI => ?_)
      refine h_iinc C hl dX10_bothWays_25 2 rfl ci_1 h (by decide) (lvf := fun v5 => [(2, .int v5), (0, .ref (ad 0)), (1, .int x1)]) (fun _ => rfl) (fun v5 ls h hl => ?_)
      refine lv_goto (tgt := 6) hx hb dX10_bothWays_28 (by decide) ?_
      exact ih _ _ _ _ _ _  h hI (lv_sub hl [1, 2, 0] rfl)
set_option maxRecDepth 100000 in
set_option maxHeartbeats 4000000 in
theorem c_X10_bothWays (l : Launch) (D : va_G) (t : gT) (ad z : Nat → Nat) (hJ : gJ shM ad) (σ : gS) (x1 : Int32) (q : gS) (h : f_X10_bothWays σ x1 = some q) : Met l yX10_bothWays (Cond.code yX10_bothWays cX10_bothWays 3 (none) :: lw_tb) (gR 6 171) (gPc shM t ad D z [.ref (ad 0), .int x1] σ) (gQv shM t ad D q) 0 0 (gA shM ad) := by
  refine gMet "NineKeysRoundModel" rfl (by decide) hJ (Nat.le_of_ble_eq_true rfl) ?_
  intro p e s m below meth c ls C hr hI hl
  have hx := C.1
  have hb := C.2.1
  have hl : lv_has ls 3 [(0, .ref (ad 0)), (1, .int x1)] := hl
  unfold f_X10_bothWays at h
  refine lv_aload_n hx hb dX10_bothWays_0 rfl (lv_at hl 0 rfl) ?_
  refine h_callvv_w (rest := []) C hI hl.1 shM_0 rfl yv_X10_looks k_1390 h (fun q hq => c_X10_looks l D t ad z C.2.2.2.2.2.2.1 (σ) q hq) (As := []) rfl rfl ⟨Nat.le_of_ble_eq_true rfl, Nat.le_of_ble_eq_true rfl⟩ (Nat.le_of_ble_eq_true rfl) dX10_bothWays_1 (fun q1 H locs h hI => ?_)
  refine lv_iconst hx hb dX10_bothWays_4 ci_0 ?_
  refine lv_istore_n (lv' := [(2, .int 0), (0, .ref (ad 0)), (1, .int x1)]) hx hb dX10_bothWays_5 rfl hl (by decide) rfl (fun ls hl => ?_)
  exact w_X10_bothWays_6 C hr    _ _ _ _ _ _ _  h hI (lv_sub hl [1, 2, 0] rfl)
set_option maxRecDepth 100000 in
set_option maxHeartbeats 4000000 in
theorem w_X10_isFree_3 {p : Program} {l : Launch} {e : Env} {s : State} {m : MethodId} {args : Array Value} {below : List Frame} {meth : Method} {c : Code} {D : va_G} {t : gT} {ad z : Nat → Nat} {σ : gS} (C : gC p s m args meth c cX10_isFree 5 "NineKeysRoundModel" D t shM ad z) (hr : meth.sig.returnType = some .boolean) {r : Int32} : ∀ (n : Nat) (x1 : Int32) (x2 : Int32) (x3 : Int32) (x4 : Int32) (H : Heap) (locs : List Loc) (ls : Array Slot), f_X10_isFree_3 σ n x1 x2 x3 x4 = some r → gI shM t ad D s.heap σ H locs → lv_has ls 5 [(0, .ref (ad 0)), (1, .int x1), (2, .int x2), (3, .int x3), (4, .int x4)] → W p l e (gR 1 60) s m args below meth c H locs 0 0 (MQ below (gQi shM t ad D r σ) args s 0 0 (gA shM ad)) (F0 m 3 ls []) := by
  have hx := C.1
  have hb := C.2.1
  intro n
  induction n with
  | zero =>
    intro x1 x2 x3 x4 H locs ls  h
    exact absurd h (by simp [f_X10_isFree_3])
  | succ n ih =>
    intro x1 x2 x3 x4 H locs ls  h hI hl
    unfold f_X10_isFree_3 at h
    refine lv_iload hx hb dX10_isFree_3 (lv_at hl 4 rfl) ?_
    refine lv_iload_n hx hb dX10_isFree_5 rfl (lv_at hl 2 rfl) ?_
    refine lv_iload_n hx hb dX10_isFree_6 rfl (lv_at hl 3 rfl) ?_
    refine lv_iadd hx hb dX10_isFree_7 ?_
    refine hicmp_ge (tgt := 35) C dX10_isFree_8 (by decide) h (fun h => ?_) (fun h => ?_)
    · refine lv_iconst hx hb dX10_isFree_35 ci_1 ?_
      exact h_zret_o C hr hI h dX10_isFree_36
    · refine lv_aload_n hx hb dX10_isFree_11 rfl (lv_at hl 0 rfl) ?_
      refine fr_1111 C hI shM_0 rfl dX10_isFree_12 ?_
      refine lv_sipush hx hb dX10_isFree_15 cs_2000 ?_
      refine lv_iload_n hx hb dX10_isFree_18 rfl (lv_at hl 1 rfl) ?_
      refine lv_imul hx hb dX10_isFree_19 ?_
      refine lv_iload hx hb dX10_isFree_20 (lv_at hl 4 rfl) ?_
      refine lv_iadd hx hb dX10_isFree_22 ?_
      refine gx_zald C hI shM_31 h dX10_isFree_23 (fun h => ?_)
      refine hif_eq (tgt := 29) C dX10_isFree_24 (by decide) h (fun h => ?_) (fun h => ?_)
      · refine h_iinc C hl dX10_isFree_29 4 rfl ci_1 h (by decide) (lvf := fun v1 => [(4, .int v1), (0, .ref (ad 0)), (1, .int x1), (2, .int x2), (3, .int x3)]) (fun _ => rfl) (fun v1 ls h hl => ?_)
        refine lv_goto (tgt := 3) hx hb dX10_isFree_32 (by decide) ?_
        exact ih _ _ _ _ _ _ _  h hI (lv_sub hl [1, 2, 3, 4, 0] rfl)
      · refine lv_iconst hx hb dX10_isFree_27 ci_0 ?_
        exact h_zret_o C hr hI h dX10_isFree_28
set_option maxRecDepth 100000 in
set_option maxHeartbeats 4000000 in
theorem c_X10_isFree (l : Launch) (D : va_G) (t : gT) (ad z : Nat → Nat) (hJ : gJ shM ad) (σ : gS) (x1 : Int32) (x2 : Int32) (x3 : Int32) (q : Int32) (h : f_X10_isFree σ x1 x2 x3 = some q) : Met l yX10_isFree (Cond.code yX10_isFree cX10_isFree 5 (some .boolean) :: lw_tb) (gR 1 60) (gPc shM t ad D z [.ref (ad 0), .int x1, .int x2, .int x3] σ) (gQi shM t ad D q σ) 0 0 (gA shM ad) := by
  refine gMet "NineKeysRoundModel" rfl (by decide) hJ (Nat.le_of_ble_eq_true rfl) ?_
  intro p e s m below meth c ls C hr hI hl
  have hx := C.1
  have hb := C.2.1
  have hl : lv_has ls 5 [(0, .ref (ad 0)), (1, .int x1), (2, .int x2), (3, .int x3)] := hl
  unfold f_X10_isFree at h
  refine lv_iload_n hx hb dX10_isFree_0 rfl (lv_at hl 2 rfl) ?_
  refine lv_istore (lv' := [(4, .int x2), (0, .ref (ad 0)), (1, .int x1), (2, .int x2), (3, .int x3)]) hx hb dX10_isFree_1 hl (by decide) rfl (fun ls hl => ?_)
  exact w_X10_isFree_3 C hr    _ _ _ _ _ _ _ _  h hI (lv_sub hl [1, 2, 3, 4, 0] rfl)
set_option maxRecDepth 100000 in
set_option maxHeartbeats 4000000 in
theorem w_X10_succeeds_15 {p : Program} {l : Launch} {e : Env} {s : State} {m : MethodId} {args : Array Value} {below : List Frame} {meth : Method} {c : Code} {D : va_G} {t : gT} {ad z : Nat → Nat} {σ : gS} (C : gC p s m args meth c cX10_succeeds 4 "NineKeysRoundModel" D t shM ad z) (hr : meth.sig.returnType = some .int) {r : Int32} : ∀ (x1 : Int32) (x2 : Int32) (x3 : Int32) (s0 : Int32) (H : Heap) (locs : List Loc) (ls : Array Slot), f_X10_succeeds_15 σ x1 x2 x3 s0 = some r → gI shM t ad D s.heap σ H locs → lv_has ls 4 [(0, .ref (ad 0)), (1, .int x1), (2, .int x2), (3, .int x3)] → W p l e (gR 2 84) s m args below meth c H locs 0 0 (MQ below (gQi shM t ad D r σ) args s 0 0 (gA shM ad)) (F0 m 15 ls [.int s0]) := by
  have hx := C.1
  have hb := C.2.1
  intro x1 x2 x3 s0 H locs ls  h hI hl
  unfold f_X10_succeeds_15 at h
  refine lv_aload_n hx hb dX10_succeeds_15 rfl (lv_at hl 0 rfl) ?_
  refine lv_iconst hx hb dX10_succeeds_16 ci_1 ?_
  refine lv_iload_n hx hb dX10_succeeds_17 rfl (lv_at hl 1 rfl) ?_
  refine lv_iload_n hx hb dX10_succeeds_18 rfl (lv_at hl 3 rfl) ?_
  refine h_callvi_o (rest := [.int s0]) C hI hl.1 shM_0 rfl yv_X10_isFree k_1507 h (fun q hq => c_X10_isFree l D t ad z C.2.2.2.2.2.2.1 (σ) 1 x1 x3 q hq) (As := [.int 1, .int x1, .int x3]) rfl rfl ⟨Nat.le_of_ble_eq_true rfl, Nat.le_of_ble_eq_true rfl⟩ (Nat.le_of_ble_eq_true rfl) dX10_succeeds_19 (fun q1 H locs h hI => ?_)
  refine hif_eq (tgt := 32) C dX10_succeeds_22 (by decide) h (fun h => ?_) (fun h => ?_)
  · refine lv_iconst hx hb dX10_succeeds_32 ci_0 ?_
    refine lv_iadd hx hb dX10_succeeds_33 ?_
    exact h_iret_o C hr hI h dX10_succeeds_34
  · refine lv_bipush hx hb dX10_succeeds_25 cb_12 ?_
    refine lv_iload_n hx hb dX10_succeeds_27 rfl (lv_at hl 2 rfl) ?_
    refine lv_isub hx hb dX10_succeeds_28 ?_
    refine lv_goto (tgt := 33) hx hb dX10_succeeds_29 (by decide) ?_
    refine lv_iadd hx hb dX10_succeeds_33 ?_
    exact h_iret_o C hr hI h dX10_succeeds_34
set_option maxRecDepth 100000 in
set_option maxHeartbeats 4000000 in
theorem c_X10_succeeds (l : Launch) (D : va_G) (t : gT) (ad z : Nat → Nat) (hJ : gJ shM ad) (σ : gS) (x1 : Int32) (x2 : Int32) (x3 : Int32) (q : Int32) (h : f_X10_succeeds σ x1 x2 x3 = some q) : Met l yX10_succeeds (Cond.code yX10_succeeds cX10_succeeds 4 (some .int) :: lw_tb) (gR 2 84) (gPc shM t ad D z [.ref (ad 0), .int x1, .int x2, .int x3] σ) (gQi shM t ad D q σ) 0 0 (gA shM ad) := by
  refine gMet "NineKeysRoundModel" rfl (by decide) hJ (Nat.le_of_ble_eq_true rfl) ?_
  intro p e s m below meth c ls C hr hI hl
  have hx := C.1
  have hb := C.2.1
  have hl : lv_has ls 4 [(0, .ref (ad 0)), (1, .int x1), (2, .int x2), (3, .int x3)] := hl
  unfold f_X10_succeeds at h
  refine lv_aload_n hx hb dX10_succeeds_0 rfl (lv_at hl 0 rfl) ?_
  refine lv_iconst hx hb dX10_succeeds_1 ci_0 ?_
  refine lv_iload_n hx hb dX10_succeeds_2 rfl (lv_at hl 1 rfl) ?_
  refine lv_iload_n hx hb dX10_succeeds_3 rfl (lv_at hl 3 rfl) ?_
  refine h_callvi_o (rest := []) C hI hl.1 shM_0 rfl yv_X10_isFree k_1507 h (fun q hq => c_X10_isFree l D t ad z C.2.2.2.2.2.2.1 (σ) 0 x1 x3 q hq) (As := [.int 0, .int x1, .int x3]) rfl rfl ⟨Nat.le_of_ble_eq_true rfl, Nat.le_of_ble_eq_true rfl⟩ (Nat.le_of_ble_eq_true rfl) dX10_succeeds_4 (fun q1 H locs h hI => ?_)
  refine hif_eq (tgt := 14) C dX10_succeeds_7 (by decide) h (fun h => ?_) (fun h => ?_)
  · refine lv_iconst hx hb dX10_succeeds_14 ci_0 ?_
    exact w_X10_succeeds_15 C hr    _ _ _ _ _ _ _  h hI (lv_sub hl [0, 1, 2, 3] rfl)
  · refine lv_iload_n hx hb dX10_succeeds_10 rfl (lv_at hl 2 rfl) ?_
    refine lv_goto (tgt := 15) hx hb dX10_succeeds_11 (by decide) ?_
    exact w_X10_succeeds_15 C hr    _ _ _ _ _ _ _  h hI (lv_sub hl [0, 1, 2, 3] rfl)
set_option maxRecDepth 100000 in
set_option maxHeartbeats 4000000 in
theorem c_X10_isMix (l : Launch) (D : va_G) (t : gT) (ad z : Nat → Nat) (hJ : gJ shM ad) (σ : gS) (x0 : Int32) (q : Int32) (h : f_X10_isMix σ x0 = some q) : Met l yX10_isMix (Cond.code yX10_isMix cX10_isMix 1 (some .boolean) :: lw_tb) (gR 1 60) (gPc shM t ad D z [.int x0] σ) (gQi shM t ad D q σ) 0 0 (gA shM ad) := by
  refine gMet "NineKeysRoundModel" rfl (by decide) hJ (Nat.le_of_ble_eq_true rfl) ?_
  intro p e s m below meth c ls C hr hI hl
  have hx := C.1
  have hb := C.2.1
  have hl : lv_has ls 1 [(0, .int x0)] := hl
  unfold f_X10_isMix at h
  refine lv_iload_n hx hb dX10_isMix_0 rfl (lv_at hl 0 rfl) ?_
  refine hif_lt (tgt := 24) C dX10_isMix_1 (by decide) h (fun h => ?_) (fun h => ?_)
  · refine lv_iconst hx hb dX10_isMix_24 ci_0 ?_
    exact h_zret_o C hr hI h dX10_isMix_25
  · refine lv_iload_n hx hb dX10_isMix_4 rfl (lv_at hl 0 rfl) ?_
    refine lv_bipush hx hb dX10_isMix_5 cb_100 ?_
    refine h_idiv C dX10_isMix_7 h (fun h => ?_)
    refine lv_bipush hx hb dX10_isMix_8 cb_13 ?_
    refine hicmp_ge (tgt := 24) C dX10_isMix_10 (by decide) h (fun h => ?_) (fun h => ?_)
    · refine lv_iconst hx hb dX10_isMix_24 ci_0 ?_
      exact h_zret_o C hr hI h dX10_isMix_25
    · refine lv_iload_n hx hb dX10_isMix_13 rfl (lv_at hl 0 rfl) ?_
      refine lv_bipush hx hb dX10_isMix_14 cb_100 ?_
      refine h_irem C dX10_isMix_16 h (fun h => ?_)
      refine hif_le (tgt := 24) C dX10_isMix_17 (by decide) h (fun h => ?_) (fun h => ?_)
      · refine lv_iconst hx hb dX10_isMix_24 ci_0 ?_
        exact h_zret_o C hr hI h dX10_isMix_25
      · refine lv_iconst hx hb dX10_isMix_20 ci_1 ?_
        refine lv_goto (tgt := 25) hx hb dX10_isMix_21 (by decide) ?_
        exact h_zret_o C hr hI h dX10_isMix_25
set_option maxRecDepth 100000 in
set_option maxHeartbeats 4000000 in
theorem c_X10_success (l : Launch) (D : va_G) (t : gT) (ad z : Nat → Nat) (hJ : gJ shM ad) (σ : gS) (x1 : Int32) (x2 : Int32) (x3 : Int32) (x4 : Int32) (q : Int32 × gS) (h : f_X10_success σ x1 x2 x3 x4 = some q) : Met l yX10_success (Cond.code yX10_success cX10_success 6 (some .int) :: lw_tb) (gR 7 193) (gPc shM t ad D z [.ref (ad 0), .int x1, .int x2, .int x3, .int x4] σ) (gQi shM t ad D q.1 q.2) 0 0 (gA shM ad) := by
  refine gMet "NineKeysRoundModel" rfl (by decide) hJ (Nat.le_of_ble_eq_true rfl) ?_
  intro p e s m below meth c ls C hr hI hl
  have hx := C.1
  have hb := C.2.1
  have hl : lv_has ls 6 [(0, .ref (ad 0)), (1, .int x1), (2, .int x2), (3, .int x3), (4, .int x4)] := hl
  unfold f_X10_success at h
  refine lv_iload_n hx hb dX10_success_0 rfl (lv_at hl 1 rfl) ?_
  refine h_callsi_o (rest := []) C hI hl.1 ys_X10_isShelf k_1237 h (fun q hq => c_X10_isShelf l D t ad z C.2.2.2.2.2.2.1 (σ) x1 q hq) (As := [.int x1]) rfl rfl ⟨Nat.le_of_ble_eq_true rfl, Nat.le_of_ble_eq_true rfl⟩ (Nat.le_of_ble_eq_true rfl) dX10_success_1 (fun q1 H locs h hI => ?_)
  refine hif_eq (tgt := 35) C dX10_success_4 (by decide) h (fun h => ?_) (fun h => ?_)
  · refine lv_iconst hx hb dX10_success_35 ci_m1 ?_
    exact h_iret_w C hr hI h dX10_success_36
  · refine lv_aload_n hx hb dX10_success_7 rfl (lv_at hl 0 rfl) ?_
    refine lv_iload_n hx hb dX10_success_8 rfl (lv_at hl 2 rfl) ?_
    refine lv_i2l (v := ((x2 : Int32).toInt64)) hx hb dX10_success_9 rfl ?_
    refine h_callvi_o (rest := []) C hI hl.1 shM_0 rfl yv_X10_isPost k_1252 h (fun q hq => c_X10_isPost l D t ad z C.2.2.2.2.2.2.1 (σ) ((x2 : Int32).toInt64) q hq) (As := [.long ((x2 : Int32).toInt64)]) rfl rfl ⟨Nat.le_of_ble_eq_true rfl, Nat.le_of_ble_eq_true rfl⟩ (Nat.le_of_ble_eq_true rfl) dX10_success_10 (fun q2 H locs h hI => ?_)
    refine hif_eq (tgt := 35) C dX10_success_13 (by decide) h (fun h => ?_) (fun h => ?_)
    · refine lv_iconst hx hb dX10_success_35 ci_m1 ?_
      exact h_iret_w C hr hI h dX10_success_36
    · refine lv_iload_n hx hb dX10_success_16 rfl (lv_at hl 3 rfl) ?_
      refine lv_iconst hx hb dX10_success_17 ci_0 ?_
      refine lv_sipush hx hb dX10_success_18 cs_599 ?_
      refine h_callsi_o (rest := []) C hI hl.1 ys_X10_within k_1240 h (fun q hq => c_X10_within l D t ad z C.2.2.2.2.2.2.1 (σ) x3 0 599 q hq) (As := [.int x3, .int 0, .int 599]) rfl rfl ⟨Nat.le_of_ble_eq_true rfl, Nat.le_of_ble_eq_true rfl⟩ (Nat.le_of_ble_eq_true rfl) dX10_success_21 (fun q3 H locs h hI => ?_)
      refine hif_eq (tgt := 35) C dX10_success_24 (by decide) h (fun h => ?_) (fun h => ?_)
      · refine lv_iconst hx hb dX10_success_35 ci_m1 ?_
        exact h_iret_w C hr hI h dX10_success_36
      · refine lv_iload hx hb dX10_success_27 (lv_at hl 4 rfl) ?_
        refine h_callsi_o (rest := []) C hI hl.1 ys_X10_isMix k_1492 h (fun q hq => c_X10_isMix l D t ad z C.2.2.2.2.2.2.1 (σ) x4 q hq) (As := [.int x4]) rfl rfl ⟨Nat.le_of_ble_eq_true rfl, Nat.le_of_ble_eq_true rfl⟩ (Nat.le_of_ble_eq_true rfl) dX10_success_29 (fun q4 H locs h hI => ?_)
        refine hif_ne (tgt := 37) C dX10_success_32 (by decide) h (fun h => ?_) (fun h => ?_)
        · refine lv_aload_n hx hb dX10_success_37 rfl (lv_at hl 0 rfl) ?_
          refine lv_iload_n hx hb dX10_success_38 rfl (lv_at hl 1 rfl) ?_
          refine lv_iconst hx hb dX10_success_39 ci_0 ?_
          refine h_callvi_o (rest := []) C hI hl.1 shM_0 rfl yv_X10_noRow k_1338 h (fun q hq => c_X10_noRow l D t ad z C.2.2.2.2.2.2.1 (σ) x1 0 q hq) (As := [.int x1, .int 0]) rfl rfl ⟨Nat.le_of_ble_eq_true rfl, Nat.le_of_ble_eq_true rfl⟩ (Nat.le_of_ble_eq_true rfl) dX10_success_40 (fun q5 H locs h hI => ?_)
          refine lv_istore (lv' := [(5, .int q5), (0, .ref (ad 0)), (1, .int x1), (2, .int x2), (3, .int x3), (4, .int x4)]) hx hb dX10_success_43 hl (by decide) rfl (fun ls hl => ?_)
          refine lv_iload hx hb dX10_success_45 (lv_at hl 0 rfl) ?_
          refine hif_ge (tgt := 53) C dX10_success_47 (by decide) h (fun h => ?_) (fun h => ?_)
          · refine lv_aload_n hx hb dX10_success_53 rfl (lv_at hl 1 rfl) ?_
            refine lv_iload_n hx hb dX10_success_54 rfl (lv_at hl 2 rfl) ?_
            refine h_callvv_w (rest := []) C hI hl.1 shM_0 rfl yv_X10_reads k_1342 h (fun q hq => c_X10_reads l D t ad z C.2.2.2.2.2.2.1 (σ) x1 q hq) (As := [.int x1]) rfl rfl ⟨Nat.le_of_ble_eq_true rfl, Nat.le_of_ble_eq_true rfl⟩ (Nat.le_of_ble_eq_true rfl) dX10_success_55 (fun q6 H locs h hI => ?_)
            refine lv_aload_n hx hb dX10_success_58 rfl (lv_at hl 1 rfl) ?_
            refine lv_iload_n hx hb dX10_success_59 rfl (lv_at hl 3 rfl) ?_
            refine h_callvv_w (rest := []) C hI hl.1 shM_0 rfl yv_X10_bothWays k_1495 h (fun q hq => c_X10_bothWays l D t ad z C.2.2.2.2.2.2.1 q6 x2 q hq) (As := [.int x2]) rfl rfl ⟨Nat.le_of_ble_eq_true rfl, Nat.le_of_ble_eq_true rfl⟩ (Nat.le_of_ble_eq_true rfl) dX10_success_60 (fun q7 H locs h hI => ?_)
            refine lv_aload_n hx hb dX10_success_63 rfl (lv_at hl 1 rfl) ?_
            refine lv_iload_n hx hb dX10_success_64 rfl (lv_at hl 4 rfl) ?_
            refine lv_iload hx hb dX10_success_65 (lv_at hl 5 rfl) ?_
            refine lv_bipush hx hb dX10_success_67 cb_100 ?_
            refine h_idiv C dX10_success_69 h (fun h => ?_)
            refine lv_iload hx hb dX10_success_70 (lv_at hl 5 rfl) ?_
            refine lv_bipush hx hb dX10_success_72 cb_100 ?_
            refine h_irem C dX10_success_74 h (fun h => ?_)
            refine h_callvi_o (rest := []) C hI hl.1 shM_0 rfl yv_X10_succeeds k_1503 h (fun q hq => c_X10_succeeds l D t ad z C.2.2.2.2.2.2.1 q7 x3 (x4 / 100) (x4 - x4 / 100 * 100) q hq) (As := [.int x3, .int (x4 / 100), .int (x4 - x4 / 100 * 100)]) rfl rfl ⟨Nat.le_of_ble_eq_true rfl, Nat.le_of_ble_eq_true rfl⟩ (Nat.le_of_ble_eq_true rfl) dX10_success_75 (fun q8 H locs h hI => ?_)
            exact h_iret_w C hr hI h dX10_success_78
          · refine lv_iload hx hb dX10_success_50 (lv_at hl 0 rfl) ?_
            exact h_iret_w C hr hI h dX10_success_52
        · refine lv_iconst hx hb dX10_success_35 ci_m1 ?_
          exact h_iret_w C hr hI h dX10_success_36
set_option maxRecDepth 100000 in
set_option maxHeartbeats 4000000 in
theorem w_X10_bestMinute_8 {p : Program} {l : Launch} {e : Env} {s : State} {m : MethodId} {args : Array Value} {below : List Frame} {meth : Method} {c : Code} {D : va_G} {t : gT} {ad z : Nat → Nat} {σ : gS} (C : gC p s m args meth c cX10_bestMinute 7 "NineKeysRoundModel" D t shM ad z) (hr : meth.sig.returnType = some .int) {r : Int32} : ∀ (n : Nat) (x1 : Int32) (x2 : Int32) (x3 : Int32) (x4 : Int32) (x5 : Int32) (H : Heap) (locs : List Loc) (ls : Array Slot), f_X10_bestMinute_8 σ n x1 x2 x3 x4 x5 = some r → gI shM t ad D s.heap σ H locs → lv_has ls 7 [(0, .ref (ad 0)), (1, .int x1), (2, .int x2), (3, .int x3), (4, .int x4), (5, .int x5)] → W p l e (gR 3 107) s m args below meth c H locs 0 0 (MQ below (gQi shM t ad D r σ) args s 0 0 (gA shM ad)) (F0 m 8 ls []) := by
  have hx := C.1
  have hb := C.2.1
  intro n
  induction n with
  | zero =>
    intro x1 x2 x3 x4 x5 H locs ls  h
    exact absurd h (by simp [f_X10_bestMinute_8])
  | succ n ih =>
    intro x1 x2 x3 x4 x5 H locs ls  h hI hl
    unfold f_X10_bestMinute_8 at h
    refine lv_iload hx hb dX10_bestMinute_8 (lv_at hl 5 rfl) ?_
    refine lv_sipush hx hb dX10_bestMinute_10 cs_600 ?_
    refine hicmp_ge (tgt := 49) C dX10_bestMinute_13 (by decide) h (fun h => ?_) (fun h => ?_)
    · refine lv_iload_n hx hb dX10_bestMinute_49 rfl (lv_at hl 3 rfl) ?_
      exact h_iret_o C hr hI h dX10_bestMinute_50
    · refine lv_aload_n hx hb dX10_bestMinute_16 rfl (lv_at hl 0 rfl) ?_
      refine lv_iload hx hb dX10_bestMinute_17 (lv_at hl 5 rfl) ?_
      refine lv_iload_n hx hb dX10_bestMinute_19 rfl (lv_at hl 1 rfl) ?_
      refine lv_iload_n hx hb dX10_bestMinute_20 rfl (lv_at hl 2 rfl) ?_
      refine h_callvi_o (rest := []) C hI hl.1 shM_0 rfl yv_X10_succeeds k_1503 h (fun q hq => c_X10_succeeds l D t ad z C.2.2.2.2.2.2.1 (σ) x5 x1 x2 q hq) (As := [.int x5, .int x1, .int x2]) rfl rfl ⟨Nat.le_of_ble_eq_true rfl, Nat.le_of_ble_eq_true rfl⟩ (Nat.le_of_ble_eq_true rfl) dX10_bestMinute_21 (fun q1 H locs h hI => ?_)
      refine lv_istore (lv' := [(6, .int q1), (0, .ref (ad 0)), (1, .int x1), (2, .int x2), (3, .int x3), (4, .int x4), (5, .int x5)]) hx hb dX10_bestMinute_24 hl (by decide) rfl (fun ls hl => ?_)
      refine lv_iload hx hb dX10_bestMinute_26 (lv_at hl 0 rfl) ?_
      refine lv_iload hx hb dX10_bestMinute_28 (lv_at hl 5 rfl) ?_
      refine hicmp_gt (tgt := 36) C dX10_bestMinute_30 (by decide) h (fun h => ?_) (fun h => ?_)
      · refine lv_iload hx hb dX10_bestMinute_36 (lv_at hl 0 rfl) ?_
        refine lv_istore (lv' := [(4, .int q1), (6, .int q1), (0, .ref (ad 0)), (1, .int x1), (2, .int x2), (3, .int x3), (5, .int x5)]) hx hb dX10_bestMinute_38 hl (by decide) rfl (fun ls hl => ?_)
        refine lv_iload hx hb dX10_bestMinute_40 (lv_at hl 6 rfl) ?_
        refine lv_istore_n (lv' := [(3, .int x5), (4, .int q1), (6, .int q1), (0, .ref (ad 0)), (1, .int x1), (2, .int x2), (5, .int x5)]) hx hb dX10_bestMinute_42 rfl hl (by decide) rfl (fun ls hl => ?_)
        refine h_iinc C hl dX10_bestMinute_43 6 rfl ci_1 h (by decide) (lvf := fun v2 => [(5, .int v2), (3, .int x5), (4, .int q1), (6, .int q1), (0, .ref (ad 0)), (1, .int x1), (2, .int x2)]) (fun _ => rfl) (fun v2 ls h hl => ?_)
        refine lv_goto (tgt := 8) hx hb dX10_bestMinute_46 (by decide) ?_
        exact ih _ _ _ _ _ _ _ _  h hI (lv_sub hl [4, 5, 6, 1, 2, 0] rfl)
      · refine lv_goto (tgt := 43) hx hb dX10_bestMinute_33 (by decide) ?_
        refine h_iinc C hl dX10_bestMinute_43 6 rfl ci_1 h (by decide) (lvf := fun v3 => [(5, .int v3), (6, .int q1), (0, .ref (ad 0)), (1, .int x1), (2, .int x2), (3, .int x3), (4, .int x4)]) (fun _ => rfl) (fun v3 ls h hl => ?_)
        refine lv_goto (tgt := 8) hx hb dX10_bestMinute_46 (by decide) ?_
        exact ih _ _ _ _ _ _ _ _  h hI (lv_sub hl [2, 3, 4, 5, 6, 0] rfl)
set_option maxRecDepth 100000 in
set_option maxHeartbeats 4000000 in
theorem c_X10_bestMinute (l : Launch) (D : va_G) (t : gT) (ad z : Nat → Nat) (hJ : gJ shM ad) (σ : gS) (x1 : Int32) (x2 : Int32) (q : Int32) (h : f_X10_bestMinute σ x1 x2 = some q) : Met l yX10_bestMinute (Cond.code yX10_bestMinute cX10_bestMinute 7 (some .int) :: lw_tb) (gR 3 107) (gPc shM t ad D z [.ref (ad 0), .int x1, .int x2] σ) (gQi shM t ad D q σ) 0 0 (gA shM ad) := by
  refine gMet "NineKeysRoundModel" rfl (by decide) hJ (Nat.le_of_ble_eq_true rfl) ?_
  intro p e s m below meth c ls C hr hI hl
  have hx := C.1
  have hb := C.2.1
  have hl : lv_has ls 7 [(0, .ref (ad 0)), (1, .int x1), (2, .int x2)] := hl
  unfold f_X10_bestMinute at h
  refine lv_iconst hx hb dX10_bestMinute_0 ci_0 ?_
  refine lv_istore_n (lv' := [(3, .int 0), (0, .ref (ad 0)), (1, .int x1), (2, .int x2)]) hx hb dX10_bestMinute_1 rfl hl (by decide) rfl (fun ls hl => ?_)
  refine lv_iconst hx hb dX10_bestMinute_2 ci_m1 ?_
  refine lv_istore (lv' := [(4, .int (-1)), (3, .int 0), (0, .ref (ad 0)), (1, .int x1), (2, .int x2)]) hx hb dX10_bestMinute_3 hl (by decide) rfl (fun ls hl => ?_)
  refine lv_iconst hx hb dX10_bestMinute_5 ci_0 ?_
  refine lv_istore (lv' := [(5, .int 0), (4, .int (-1)), (3, .int 0), (0, .ref (ad 0)), (1, .int x1), (2, .int x2)]) hx hb dX10_bestMinute_6 hl (by decide) rfl (fun ls hl => ?_)
  exact w_X10_bestMinute_8 C hr    _ _ _ _ _ _ _ _ _  h hI (lv_sub hl [3, 4, 5, 2, 1, 0] rfl)
set_option maxRecDepth 100000 in
set_option maxHeartbeats 4000000 in
theorem c_X10_bestMinute_ (l : Launch) (D : va_G) (t : gT) (ad z : Nat → Nat) (hJ : gJ shM ad) (σ : gS) (x1 : Int32) (x2 : Int32) (x3 : Int32) (x4 : Int32) (q : Int32 × gS) (h : f_X10_bestMinute_ σ x1 x2 x3 x4 = some q) : Met l yX10_bestMinute_ (Cond.code yX10_bestMinute_ cX10_bestMinute_ 7 (some .int) :: lw_tb) (gR 7 193) (gPc shM t ad D z [.ref (ad 0), .int x1, .int x2, .int x3, .int x4] σ) (gQi shM t ad D q.1 q.2) 0 0 (gA shM ad) := by
  refine gMet "NineKeysRoundModel" rfl (by decide) hJ (Nat.le_of_ble_eq_true rfl) ?_
  intro p e s m below meth c ls C hr hI hl
  have hx := C.1
  have hb := C.2.1
  have hl : lv_has ls 7 [(0, .ref (ad 0)), (1, .int x1), (2, .int x2), (3, .int x3), (4, .int x4)] := hl
  unfold f_X10_bestMinute_ at h
  refine lv_iload_n hx hb dX10_bestMinute__0 rfl (lv_at hl 1 rfl) ?_
  refine h_callsi_o (rest := []) C hI hl.1 ys_X10_isShelf k_1237 h (fun q hq => c_X10_isShelf l D t ad z C.2.2.2.2.2.2.1 (σ) x1 q hq) (As := [.int x1]) rfl rfl ⟨Nat.le_of_ble_eq_true rfl, Nat.le_of_ble_eq_true rfl⟩ (Nat.le_of_ble_eq_true rfl) dX10_bestMinute__1 (fun q1 H locs h hI => ?_)
  refine hif_eq (tgt := 33) C dX10_bestMinute__4 (by decide) h (fun h => ?_) (fun h => ?_)
  · refine lv_iconst hx hb dX10_bestMinute__33 ci_m1 ?_
    exact h_iret_w C hr hI h dX10_bestMinute__34
  · refine lv_aload_n hx hb dX10_bestMinute__7 rfl (lv_at hl 0 rfl) ?_
    refine lv_iload_n hx hb dX10_bestMinute__8 rfl (lv_at hl 2 rfl) ?_
    refine lv_i2l (v := ((x2 : Int32).toInt64)) hx hb dX10_bestMinute__9 rfl ?_
    refine h_callvi_o (rest := []) C hI hl.1 shM_0 rfl yv_X10_isPost k_1252 h (fun q hq => c_X10_isPost l D t ad z C.2.2.2.2.2.2.1 (σ) ((x2 : Int32).toInt64) q hq) (As := [.long ((x2 : Int32).toInt64)]) rfl rfl ⟨Nat.le_of_ble_eq_true rfl, Nat.le_of_ble_eq_true rfl⟩ (Nat.le_of_ble_eq_true rfl) dX10_bestMinute__10 (fun q2 H locs h hI => ?_)
    refine hif_eq (tgt := 33) C dX10_bestMinute__13 (by decide) h (fun h => ?_) (fun h => ?_)
    · refine lv_iconst hx hb dX10_bestMinute__33 ci_m1 ?_
      exact h_iret_w C hr hI h dX10_bestMinute__34
    · refine lv_iload_n hx hb dX10_bestMinute__16 rfl (lv_at hl 3 rfl) ?_
      refine h_callsi_o (rest := []) C hI hl.1 ys_X10_isMix k_1492 h (fun q hq => c_X10_isMix l D t ad z C.2.2.2.2.2.2.1 (σ) x3 q hq) (As := [.int x3]) rfl rfl ⟨Nat.le_of_ble_eq_true rfl, Nat.le_of_ble_eq_true rfl⟩ (Nat.le_of_ble_eq_true rfl) dX10_bestMinute__17 (fun q3 H locs h hI => ?_)
      refine hif_eq (tgt := 33) C dX10_bestMinute__20 (by decide) h (fun h => ?_) (fun h => ?_)
      · refine lv_iconst hx hb dX10_bestMinute__33 ci_m1 ?_
        exact h_iret_w C hr hI h dX10_bestMinute__34
      · refine lv_iload hx hb dX10_bestMinute__23 (lv_at hl 4 rfl) ?_
        refine lv_iconst hx hb dX10_bestMinute__25 ci_0 ?_
        refine lv_iconst hx hb dX10_bestMinute__26 ci_1 ?_
        refine h_callsi_o (rest := []) C hI hl.1 ys_X10_within k_1240 h (fun q hq => c_X10_within l D t ad z C.2.2.2.2.2.2.1 (σ) x4 0 1 q hq) (As := [.int x4, .int 0, .int 1]) rfl rfl ⟨Nat.le_of_ble_eq_true rfl, Nat.le_of_ble_eq_true rfl⟩ (Nat.le_of_ble_eq_true rfl) dX10_bestMinute__27 (fun q4 H locs h hI => ?_)
        refine hif_ne (tgt := 35) C dX10_bestMinute__30 (by decide) h (fun h => ?_) (fun h => ?_)
        · refine lv_aload_n hx hb dX10_bestMinute__35 rfl (lv_at hl 0 rfl) ?_
          refine lv_iload_n hx hb dX10_bestMinute__36 rfl (lv_at hl 1 rfl) ?_
          refine lv_iconst hx hb dX10_bestMinute__37 ci_0 ?_
          refine h_callvi_o (rest := []) C hI hl.1 shM_0 rfl yv_X10_noRow k_1338 h (fun q hq => c_X10_noRow l D t ad z C.2.2.2.2.2.2.1 (σ) x1 0 q hq) (As := [.int x1, .int 0]) rfl rfl ⟨Nat.le_of_ble_eq_true rfl, Nat.le_of_ble_eq_true rfl⟩ (Nat.le_of_ble_eq_true rfl) dX10_bestMinute__38 (fun q5 H locs h hI => ?_)
          refine lv_istore (lv' := [(5, .int q5), (0, .ref (ad 0)), (1, .int x1), (2, .int x2), (3, .int x3), (4, .int x4)]) hx hb dX10_bestMinute__41 hl (by decide) rfl (fun ls hl => ?_)
          refine lv_iload hx hb dX10_bestMinute__43 (lv_at hl 0 rfl) ?_
          refine hif_ge (tgt := 51) C dX10_bestMinute__45 (by decide) h (fun h => ?_) (fun h => ?_)
          · refine lv_aload_n hx hb dX10_bestMinute__51 rfl (lv_at hl 1 rfl) ?_
            refine lv_iload_n hx hb dX10_bestMinute__52 rfl (lv_at hl 2 rfl) ?_
            refine h_callvv_w (rest := []) C hI hl.1 shM_0 rfl yv_X10_reads k_1342 h (fun q hq => c_X10_reads l D t ad z C.2.2.2.2.2.2.1 (σ) x1 q hq) (As := [.int x1]) rfl rfl ⟨Nat.le_of_ble_eq_true rfl, Nat.le_of_ble_eq_true rfl⟩ (Nat.le_of_ble_eq_true rfl) dX10_bestMinute__53 (fun q6 H locs h hI => ?_)
            refine lv_aload_n hx hb dX10_bestMinute__56 rfl (lv_at hl 1 rfl) ?_
            refine lv_iload_n hx hb dX10_bestMinute__57 rfl (lv_at hl 3 rfl) ?_
            refine h_callvv_w (rest := []) C hI hl.1 shM_0 rfl yv_X10_bothWays k_1495 h (fun q hq => c_X10_bothWays l D t ad z C.2.2.2.2.2.2.1 q6 x2 q hq) (As := [.int x2]) rfl rfl ⟨Nat.le_of_ble_eq_true rfl, Nat.le_of_ble_eq_true rfl⟩ (Nat.le_of_ble_eq_true rfl) dX10_bestMinute__58 (fun q7 H locs h hI => ?_)
            refine lv_aload_n hx hb dX10_bestMinute__61 rfl (lv_at hl 1 rfl) ?_
            refine lv_iload_n hx hb dX10_bestMinute__62 rfl (lv_at hl 4 rfl) ?_
            refine lv_bipush hx hb dX10_bestMinute__63 cb_100 ?_
            refine h_idiv C dX10_bestMinute__65 h (fun h => ?_)
            refine lv_iload_n hx hb dX10_bestMinute__66 rfl (lv_at hl 4 rfl) ?_
            refine lv_bipush hx hb dX10_bestMinute__67 cb_100 ?_
            refine h_irem C dX10_bestMinute__69 h (fun h => ?_)
            refine h_callvi_o (rest := []) C hI hl.1 shM_0 rfl yv_X10_bestMinute k_1515 h (fun q hq => c_X10_bestMinute l D t ad z C.2.2.2.2.2.2.1 q7 (x3 / 100) (x3 - x3 / 100 * 100) q hq) (As := [.int (x3 / 100), .int (x3 - x3 / 100 * 100)]) rfl rfl ⟨Nat.le_of_ble_eq_true rfl, Nat.le_of_ble_eq_true rfl⟩ (Nat.le_of_ble_eq_true rfl) dX10_bestMinute__70 (fun q8 H locs h hI => ?_)
            refine lv_istore (lv' := [(6, .int q8), (5, .int q5), (0, .ref (ad 0)), (1, .int x1), (2, .int x2), (3, .int x3), (4, .int x4)]) hx hb dX10_bestMinute__73 hl (by decide) rfl (fun ls hl => ?_)
            refine lv_iload hx hb dX10_bestMinute__75 (lv_at hl 6 rfl) ?_
            refine hif_ne (tgt := 85) C dX10_bestMinute__77 (by decide) h (fun h => ?_) (fun h => ?_)
            · refine lv_aload_n hx hb dX10_bestMinute__85 rfl (lv_at hl 2 rfl) ?_
              refine lv_iload hx hb dX10_bestMinute__86 (lv_at hl 0 rfl) ?_
              refine lv_iload_n hx hb dX10_bestMinute__88 rfl (lv_at hl 5 rfl) ?_
              refine lv_bipush hx hb dX10_bestMinute__89 cb_100 ?_
              refine h_idiv C dX10_bestMinute__91 h (fun h => ?_)
              refine lv_iload_n hx hb dX10_bestMinute__92 rfl (lv_at hl 5 rfl) ?_
              refine lv_bipush hx hb dX10_bestMinute__93 cb_100 ?_
              refine h_irem C dX10_bestMinute__95 h (fun h => ?_)
              refine h_callvi_o (rest := []) C hI hl.1 shM_0 rfl yv_X10_succeeds k_1503 h (fun q hq => c_X10_succeeds l D t ad z C.2.2.2.2.2.2.1 q7 q8 (x3 / 100) (x3 - x3 / 100 * 100) q hq) (As := [.int q8, .int (x3 / 100), .int (x3 - x3 / 100 * 100)]) rfl rfl ⟨Nat.le_of_ble_eq_true rfl, Nat.le_of_ble_eq_true rfl⟩ (Nat.le_of_ble_eq_true rfl) dX10_bestMinute__96 (fun q9 H locs h hI => ?_)
              exact h_iret_w C hr hI h dX10_bestMinute__99
            · refine lv_iload hx hb dX10_bestMinute__80 (lv_at hl 0 rfl) ?_
              refine lv_goto (tgt := 99) hx hb dX10_bestMinute__82 (by decide) ?_
              exact h_iret_w C hr hI h dX10_bestMinute__99
          · refine lv_iload hx hb dX10_bestMinute__48 (lv_at hl 0 rfl) ?_
            exact h_iret_w C hr hI h dX10_bestMinute__50
        · refine lv_iconst hx hb dX10_bestMinute__33 ci_m1 ?_
          exact h_iret_w C hr hI h dX10_bestMinute__34
set_option maxRecDepth 100000 in
set_option maxHeartbeats 4000000 in
theorem w_X10_mix_64 {p : Program} {l : Launch} {e : Env} {s : State} {m : MethodId} {args : Array Value} {below : List Frame} {meth : Method} {c : Code} {D : va_G} {t : gT} {ad z : Nat → Nat} (C : gC p s m args meth c cX10_mix 9 "NineKeysRoundModel" D t shM ad z) (hr : meth.sig.returnType = some .int) {r : Int32 × gS} : ∀ (n : Nat) (x3 : Int32) (x5 : Int32) (x6 : Int32) (x7 : Int32) (σ : gS) (H : Heap) (locs : List Loc) (ls : Array Slot), f_X10_mix_64 n x3 x5 x6 x7 σ = some r → gI shM t ad D s.heap σ H locs → lv_has ls 9 [(0, .ref (ad 0)), (3, .int x3), (5, .int x5), (6, .int x6), (7, .int x7)] → W p l e (gR 7 193) s m args below meth c H locs 0 0 (MQ below (gQi shM t ad D r.1 r.2) args s 0 0 (gA shM ad)) (F0 m 64 ls []) := by
  have hx := C.1
  have hb := C.2.1
  intro n
  induction n with
  | zero =>
    intro x3 x5 x6 x7 σ H locs ls  h
    exact absurd h (by simp [f_X10_mix_64])
  | succ n ih =>
    intro x3 x5 x6 x7 σ H locs ls  h hI hl
    unfold f_X10_mix_64 at h
    refine lv_iload hx hb dX10_mix_64 (lv_at hl 4 rfl) ?_
    refine lv_bipush hx hb dX10_mix_66 cb_13 ?_
    refine hicmp_ge (tgt := 111) C dX10_mix_68 (by decide) h (fun h => ?_) (fun h => ?_)
    · refine lv_iload hx hb dX10_mix_111 (lv_at hl 2 rfl) ?_
      exact h_iret_w C hr hI h dX10_mix_113
    · refine lv_aload_n hx hb dX10_mix_71 rfl (lv_at hl 0 rfl) ?_
      refine lv_aload_n hx hb dX10_mix_72 rfl (lv_at hl 0 rfl) ?_
      refine lv_iload hx hb dX10_mix_73 (lv_at hl 4 rfl) ?_
      refine lv_iload_n hx hb dX10_mix_75 rfl (lv_at hl 1 rfl) ?_
      refine h_callvi_o (rest := [.ref (ad 0)]) C hI hl.1 shM_0 rfl yv_X10_bestMinute k_1515 h (fun q hq => c_X10_bestMinute l D t ad z C.2.2.2.2.2.2.1 (σ) x7 x3 q hq) (As := [.int x7, .int x3]) rfl rfl ⟨Nat.le_of_ble_eq_true rfl, Nat.le_of_ble_eq_true rfl⟩ (Nat.le_of_ble_eq_true rfl) dX10_mix_76 (fun q1 H locs h hI => ?_)
      refine lv_iload hx hb dX10_mix_79 (lv_at hl 4 rfl) ?_
      refine lv_iload_n hx hb dX10_mix_81 rfl (lv_at hl 1 rfl) ?_
      refine h_callvi_o (rest := []) C hI hl.1 shM_0 rfl yv_X10_succeeds k_1503 h (fun q hq => c_X10_succeeds l D t ad z C.2.2.2.2.2.2.1 (σ) q1 x7 x3 q hq) (As := [.int q1, .int x7, .int x3]) rfl rfl ⟨Nat.le_of_ble_eq_true rfl, Nat.le_of_ble_eq_true rfl⟩ (Nat.le_of_ble_eq_true rfl) dX10_mix_82 (fun q2 H locs h hI => ?_)
      refine lv_istore (lv' := [(8, .int q2), (0, .ref (ad 0)), (3, .int x3), (5, .int x5), (6, .int x6), (7, .int x7)]) hx hb dX10_mix_85 hl (by decide) rfl (fun ls hl => ?_)
      refine lv_iload hx hb dX10_mix_87 (lv_at hl 0 rfl) ?_
      refine lv_iload hx hb dX10_mix_89 (lv_at hl 4 rfl) ?_
      refine hicmp_lt (tgt := 97) C dX10_mix_91 (by decide) h (fun h => ?_) (fun h => ?_)
      · refine lv_iload hx hb dX10_mix_97 (lv_at hl 0 rfl) ?_
        refine lv_istore (lv' := [(6, .int q2), (8, .int q2), (0, .ref (ad 0)), (3, .int x3), (5, .int x5), (7, .int x7)]) hx hb dX10_mix_99 hl (by decide) rfl (fun ls hl => ?_)
        refine lv_iload hx hb dX10_mix_101 (lv_at hl 5 rfl) ?_
        refine lv_istore (lv' := [(5, .int x7), (6, .int q2), (8, .int q2), (0, .ref (ad 0)), (3, .int x3), (7, .int x7)]) hx hb dX10_mix_103 hl (by decide) rfl (fun ls hl => ?_)
        refine h_iinc C hl dX10_mix_105 5 rfl ci_1 h (by decide) (lvf := fun v3 => [(7, .int v3), (5, .int x7), (6, .int q2), (8, .int q2), (0, .ref (ad 0)), (3, .int x3)]) (fun _ => rfl) (fun v3 ls h hl => ?_)
        refine lv_goto (tgt := 64) hx hb dX10_mix_108 (by decide) ?_
        exact ih _ _ _ _ _ _ _ _  h hI (lv_sub hl [4, 5, 1, 2, 0] rfl)
      · refine lv_goto (tgt := 105) hx hb dX10_mix_94 (by decide) ?_
        refine h_iinc C hl dX10_mix_105 5 rfl ci_1 h (by decide) (lvf := fun v4 => [(7, .int v4), (8, .int q2), (0, .ref (ad 0)), (3, .int x3), (5, .int x5), (6, .int x6)]) (fun _ => rfl) (fun v4 ls h hl => ?_)
        refine lv_goto (tgt := 64) hx hb dX10_mix_108 (by decide) ?_
        exact ih _ _ _ _ _ _ _ _  h hI (lv_sub hl [2, 3, 4, 5, 0] rfl)
set_option maxRecDepth 100000 in
set_option maxHeartbeats 4000000 in
theorem c_X10_mix (l : Launch) (D : va_G) (t : gT) (ad z : Nat → Nat) (hJ : gJ shM ad) (σ : gS) (x1 : Int32) (x2 : Int32) (x3 : Int32) (q : Int32 × gS) (h : f_X10_mix σ x1 x2 x3 = some q) : Met l yX10_mix (Cond.code yX10_mix cX10_mix 9 (some .int) :: lw_tb) (gR 7 193) (gPc shM t ad D z [.ref (ad 0), .int x1, .int x2, .int x3] σ) (gQi shM t ad D q.1 q.2) 0 0 (gA shM ad) := by
  refine gMet "NineKeysRoundModel" rfl (by decide) hJ (Nat.le_of_ble_eq_true rfl) ?_
  intro p e s m below meth c ls C hr hI hl
  have hx := C.1
  have hb := C.2.1
  have hl : lv_has ls 9 [(0, .ref (ad 0)), (1, .int x1), (2, .int x2), (3, .int x3)] := hl
  unfold f_X10_mix at h
  refine lv_iload_n hx hb dX10_mix_0 rfl (lv_at hl 1 rfl) ?_
  refine h_callsi_o (rest := []) C hI hl.1 ys_X10_isShelf k_1237 h (fun q hq => c_X10_isShelf l D t ad z C.2.2.2.2.2.2.1 (σ) x1 q hq) (As := [.int x1]) rfl rfl ⟨Nat.le_of_ble_eq_true rfl, Nat.le_of_ble_eq_true rfl⟩ (Nat.le_of_ble_eq_true rfl) dX10_mix_1 (fun q1 H locs h hI => ?_)
  refine hif_eq (tgt := 26) C dX10_mix_4 (by decide) h (fun h => ?_) (fun h => ?_)
  · refine lv_iconst hx hb dX10_mix_26 ci_m1 ?_
    exact h_iret_w C hr hI h dX10_mix_27
  · refine lv_aload_n hx hb dX10_mix_7 rfl (lv_at hl 0 rfl) ?_
    refine lv_iload_n hx hb dX10_mix_8 rfl (lv_at hl 2 rfl) ?_
    refine lv_i2l (v := ((x2 : Int32).toInt64)) hx hb dX10_mix_9 rfl ?_
    refine h_callvi_o (rest := []) C hI hl.1 shM_0 rfl yv_X10_isPost k_1252 h (fun q hq => c_X10_isPost l D t ad z C.2.2.2.2.2.2.1 (σ) ((x2 : Int32).toInt64) q hq) (As := [.long ((x2 : Int32).toInt64)]) rfl rfl ⟨Nat.le_of_ble_eq_true rfl, Nat.le_of_ble_eq_true rfl⟩ (Nat.le_of_ble_eq_true rfl) dX10_mix_10 (fun q2 H locs h hI => ?_)
    refine hif_eq (tgt := 26) C dX10_mix_13 (by decide) h (fun h => ?_) (fun h => ?_)
    · refine lv_iconst hx hb dX10_mix_26 ci_m1 ?_
      exact h_iret_w C hr hI h dX10_mix_27
    · refine lv_iload_n hx hb dX10_mix_16 rfl (lv_at hl 3 rfl) ?_
      refine lv_iconst hx hb dX10_mix_17 ci_1 ?_
      refine lv_bipush hx hb dX10_mix_18 cb_99 ?_
      refine h_callsi_o (rest := []) C hI hl.1 ys_X10_within k_1240 h (fun q hq => c_X10_within l D t ad z C.2.2.2.2.2.2.1 (σ) x3 1 99 q hq) (As := [.int x3, .int 1, .int 99]) rfl rfl ⟨Nat.le_of_ble_eq_true rfl, Nat.le_of_ble_eq_true rfl⟩ (Nat.le_of_ble_eq_true rfl) dX10_mix_20 (fun q3 H locs h hI => ?_)
      refine hif_ne (tgt := 28) C dX10_mix_23 (by decide) h (fun h => ?_) (fun h => ?_)
      · refine lv_aload_n hx hb dX10_mix_28 rfl (lv_at hl 0 rfl) ?_
        refine lv_iload_n hx hb dX10_mix_29 rfl (lv_at hl 1 rfl) ?_
        refine lv_iconst hx hb dX10_mix_30 ci_0 ?_
        refine h_callvi_o (rest := []) C hI hl.1 shM_0 rfl yv_X10_noRow k_1338 h (fun q hq => c_X10_noRow l D t ad z C.2.2.2.2.2.2.1 (σ) x1 0 q hq) (As := [.int x1, .int 0]) rfl rfl ⟨Nat.le_of_ble_eq_true rfl, Nat.le_of_ble_eq_true rfl⟩ (Nat.le_of_ble_eq_true rfl) dX10_mix_31 (fun q4 H locs h hI => ?_)
        refine lv_istore (lv' := [(4, .int q4), (0, .ref (ad 0)), (1, .int x1), (2, .int x2), (3, .int x3)]) hx hb dX10_mix_34 hl (by decide) rfl (fun ls hl => ?_)
        refine lv_iload hx hb dX10_mix_36 (lv_at hl 0 rfl) ?_
        refine hif_ge (tgt := 44) C dX10_mix_38 (by decide) h (fun h => ?_) (fun h => ?_)
        · refine lv_aload_n hx hb dX10_mix_44 rfl (lv_at hl 1 rfl) ?_
          refine lv_iload_n hx hb dX10_mix_45 rfl (lv_at hl 2 rfl) ?_
          refine h_callvv_w (rest := []) C hI hl.1 shM_0 rfl yv_X10_reads k_1342 h (fun q hq => c_X10_reads l D t ad z C.2.2.2.2.2.2.1 (σ) x1 q hq) (As := [.int x1]) rfl rfl ⟨Nat.le_of_ble_eq_true rfl, Nat.le_of_ble_eq_true rfl⟩ (Nat.le_of_ble_eq_true rfl) dX10_mix_46 (fun q5 H locs h hI => ?_)
          refine lv_aload_n hx hb dX10_mix_49 rfl (lv_at hl 1 rfl) ?_
          refine lv_iload_n hx hb dX10_mix_50 rfl (lv_at hl 3 rfl) ?_
          refine h_callvv_w (rest := []) C hI hl.1 shM_0 rfl yv_X10_bothWays k_1495 h (fun q hq => c_X10_bothWays l D t ad z C.2.2.2.2.2.2.1 q5 x2 q hq) (As := [.int x2]) rfl rfl ⟨Nat.le_of_ble_eq_true rfl, Nat.le_of_ble_eq_true rfl⟩ (Nat.le_of_ble_eq_true rfl) dX10_mix_51 (fun q6 H locs h hI => ?_)
          refine lv_iconst hx hb dX10_mix_54 ci_0 ?_
          refine lv_istore (lv' := [(5, .int 0), (4, .int q4), (0, .ref (ad 0)), (1, .int x1), (2, .int x2), (3, .int x3)]) hx hb dX10_mix_55 hl (by decide) rfl (fun ls hl => ?_)
          refine lv_bipush hx hb dX10_mix_57 cb_99 ?_
          refine lv_istore (lv' := [(6, .int 99), (5, .int 0), (4, .int q4), (0, .ref (ad 0)), (1, .int x1), (2, .int x2), (3, .int x3)]) hx hb dX10_mix_59 hl (by decide) rfl (fun ls hl => ?_)
          refine lv_iconst hx hb dX10_mix_61 ci_0 ?_
          refine lv_istore (lv' := [(7, .int 0), (6, .int 99), (5, .int 0), (4, .int q4), (0, .ref (ad 0)), (1, .int x1), (2, .int x2), (3, .int x3)]) hx hb dX10_mix_62 hl (by decide) rfl (fun ls hl => ?_)
          exact w_X10_mix_64 C hr    _ _ _ _ _ _ _ _ _  h hI (lv_sub hl [4, 7, 2, 1, 0] rfl)
        · refine lv_iload hx hb dX10_mix_41 (lv_at hl 0 rfl) ?_
          exact h_iret_w C hr hI h dX10_mix_43
      · refine lv_iconst hx hb dX10_mix_26 ci_m1 ?_
        exact h_iret_w C hr hI h dX10_mix_27
set_option maxRecDepth 100000 in
set_option maxHeartbeats 4000000 in
theorem c_X10_later (l : Launch) (D : va_G) (t : gT) (ad z : Nat → Nat) (hJ : gJ shM ad) (σ : gS) (x1 : Int32) (x2 : Int32) (q : Int32) (h : f_X10_later σ x1 x2 = some q) : Met l yX10_later (Cond.code yX10_later cX10_later 6 (some .int) :: lw_tb) (gR 4 125) (gPc shM t ad D z [.ref (ad 0), .int x1, .int x2] σ) (gQi shM t ad D q σ) 0 0 (gA shM ad) := by
  refine gMet "NineKeysRoundModel" rfl (by decide) hJ (Nat.le_of_ble_eq_true rfl) ?_
  intro p e s m below meth c ls C hr hI hl
  have hx := C.1
  have hb := C.2.1
  have hl : lv_has ls 6 [(0, .ref (ad 0)), (1, .int x1), (2, .int x2)] := hl
  unfold f_X10_later at h
  refine lv_iconst hx hb dX10_later_0 ci_2 ?_
  refine lv_iload_n hx hb dX10_later_1 rfl (lv_at hl 2 rfl) ?_
  refine lv_imul hx hb dX10_later_2 ?_
  refine lv_iconst hx hb dX10_later_3 ci_1 ?_
  refine lv_iadd hx hb dX10_later_4 ?_
  refine lv_aload_n hx hb dX10_later_5 rfl (lv_at hl 0 rfl) ?_
  refine fr_1103 C hI shM_0 rfl dX10_later_6 ?_
  refine lv_iload_n hx hb dX10_later_9 rfl (lv_at hl 1 rfl) ?_
  refine gx_iald C hI shM_25 h dX10_later_10 (fun h => ?_)
  refine hicmp_lt (tgt := 18) C dX10_later_11 (by decide) h (fun h => ?_) (fun h => ?_)
  · refine lv_aload_n hx hb dX10_later_18 rfl (lv_at hl 0 rfl) ?_
    refine lv_iload_n hx hb dX10_later_19 rfl (lv_at hl 1 rfl) ?_
    refine lv_iconst hx hb dX10_later_20 ci_2 ?_
    refine lv_iload_n hx hb dX10_later_21 rfl (lv_at hl 2 rfl) ?_
    refine lv_imul hx hb dX10_later_22 ?_
    refine h_callvi_o (rest := []) C hI hl.1 shM_0 rfl yv_X10_toldAt k_1346 h (fun q hq => c_X10_toldAt l D t ad z C.2.2.2.2.2.2.1 (σ) x1 (2 * x2) q hq) (As := [.int x1, .int (2 * x2)]) rfl rfl ⟨Nat.le_of_ble_eq_true rfl, Nat.le_of_ble_eq_true rfl⟩ (Nat.le_of_ble_eq_true rfl) dX10_later_23 (fun q1 H locs h hI => ?_)
    refine lv_istore_n (lv' := [(3, .int q1), (0, .ref (ad 0)), (1, .int x1), (2, .int x2)]) hx hb dX10_later_26 rfl hl (by decide) rfl (fun ls hl => ?_)
    refine lv_aload_n hx hb dX10_later_27 rfl (lv_at hl 1 rfl) ?_
    refine lv_iload_n hx hb dX10_later_28 rfl (lv_at hl 2 rfl) ?_
    refine lv_iconst hx hb dX10_later_29 ci_2 ?_
    refine lv_iload_n hx hb dX10_later_30 rfl (lv_at hl 3 rfl) ?_
    refine lv_imul hx hb dX10_later_31 ?_
    refine lv_iconst hx hb dX10_later_32 ci_1 ?_
    refine lv_iadd hx hb dX10_later_33 ?_
    refine h_callvi_o (rest := []) C hI hl.1 shM_0 rfl yv_X10_toldAt k_1346 h (fun q hq => c_X10_toldAt l D t ad z C.2.2.2.2.2.2.1 (σ) x1 ((2 * x2) + 1) q hq) (As := [.int x1, .int ((2 * x2) + 1)]) rfl rfl ⟨Nat.le_of_ble_eq_true rfl, Nat.le_of_ble_eq_true rfl⟩ (Nat.le_of_ble_eq_true rfl) dX10_later_34 (fun q2 H locs h hI => ?_)
    refine lv_istore (lv' := [(4, .int q2), (3, .int q1), (0, .ref (ad 0)), (1, .int x1), (2, .int x2)]) hx hb dX10_later_37 hl (by decide) rfl (fun ls hl => ?_)
    refine lv_aload_n hx hb dX10_later_39 rfl (lv_at hl 2 rfl) ?_
    refine lv_iload_n hx hb dX10_later_40 rfl (lv_at hl 1 rfl) ?_
    refine lv_i2l (v := ((q1 : Int32).toInt64)) hx hb dX10_later_41 rfl ?_
    refine h_callvi_o (rest := []) C hI hl.1 shM_0 rfl yv_X10_isPost k_1252 h (fun q hq => c_X10_isPost l D t ad z C.2.2.2.2.2.2.1 (σ) ((q1 : Int32).toInt64) q hq) (As := [.long ((q1 : Int32).toInt64)]) rfl rfl ⟨Nat.le_of_ble_eq_true rfl, Nat.le_of_ble_eq_true rfl⟩ (Nat.le_of_ble_eq_true rfl) dX10_later_42 (fun q3 H locs h hI => ?_)
    refine hif_ne (tgt := 52) C dX10_later_45 (by decide) h (fun h => ?_) (fun h => ?_)
    · refine lv_iload_n hx hb dX10_later_52 rfl (lv_at hl 4 rfl) ?_
      refine hif_ne (tgt := 66) C dX10_later_53 (by decide) h (fun h => ?_) (fun h => ?_)
      · refine lv_aload_n hx hb dX10_later_66 rfl (lv_at hl 2 rfl) ?_
        refine lv_iload_n hx hb dX10_later_67 rfl (lv_at hl 3 rfl) ?_
        refine lv_iconst hx hb dX10_later_68 ci_2 ?_
        refine lv_iload_n hx hb dX10_later_69 rfl (lv_at hl 4 rfl) ?_
        refine lv_imul hx hb dX10_later_70 ?_
        refine lv_iconst hx hb dX10_later_71 ci_2 ?_
        refine lv_isub hx hb dX10_later_72 ?_
        refine h_callvi_o (rest := []) C hI hl.1 shM_0 rfl yv_X10_toldAt k_1346 h (fun q hq => c_X10_toldAt l D t ad z C.2.2.2.2.2.2.1 (σ) x1 ((2 * x2) - 2) q hq) (As := [.int x1, .int ((2 * x2) - 2)]) rfl rfl ⟨Nat.le_of_ble_eq_true rfl, Nat.le_of_ble_eq_true rfl⟩ (Nat.le_of_ble_eq_true rfl) dX10_later_73 (fun q4 H locs h hI => ?_)
        refine lv_istore (lv' := [(5, .int q4), (4, .int q2), (3, .int q1), (0, .ref (ad 0)), (1, .int x1), (2, .int x2)]) hx hb dX10_later_76 hl (by decide) rfl (fun ls hl => ?_)
        refine lv_aload_n hx hb dX10_later_78 rfl (lv_at hl 3 rfl) ?_
        refine lv_iload hx hb dX10_later_79 (lv_at hl 0 rfl) ?_
        refine lv_i2l (v := ((q4 : Int32).toInt64)) hx hb dX10_later_81 rfl ?_
        refine h_callvi_o (rest := []) C hI hl.1 shM_0 rfl yv_X10_isPost k_1252 h (fun q hq => c_X10_isPost l D t ad z C.2.2.2.2.2.2.1 (σ) ((q4 : Int32).toInt64) q hq) (As := [.long ((q4 : Int32).toInt64)]) rfl rfl ⟨Nat.le_of_ble_eq_true rfl, Nat.le_of_ble_eq_true rfl⟩ (Nat.le_of_ble_eq_true rfl) dX10_later_82 (fun q5 H locs h hI => ?_)
        refine hif_eq (tgt := 119) C dX10_later_85 (by decide) h (fun h => ?_) (fun h => ?_)
        · refine lv_sipush hx hb dX10_later_119 cs_m9999 ?_
          exact h_iret_o C hr hI h dX10_later_122
        · refine lv_iload hx hb dX10_later_88 (lv_at hl 1 rfl) ?_
          refine lv_aload_n hx hb dX10_later_90 rfl (lv_at hl 3 rfl) ?_
          refine lv_iload_n hx hb dX10_later_91 rfl (lv_at hl 4 rfl) ?_
          refine lv_iconst hx hb dX10_later_92 ci_2 ?_
          refine lv_iload_n hx hb dX10_later_93 rfl (lv_at hl 5 rfl) ?_
          refine lv_imul hx hb dX10_later_94 ?_
          refine lv_iconst hx hb dX10_later_95 ci_1 ?_
          refine lv_isub hx hb dX10_later_96 ?_
          refine h_callvi_o (rest := [.int q2]) C hI hl.1 shM_0 rfl yv_X10_toldAt k_1346 h (fun q hq => c_X10_toldAt l D t ad z C.2.2.2.2.2.2.1 (σ) x1 ((2 * x2) - 1) q hq) (As := [.int x1, .int ((2 * x2) - 1)]) rfl rfl ⟨Nat.le_of_ble_eq_true rfl, Nat.le_of_ble_eq_true rfl⟩ (Nat.le_of_ble_eq_true rfl) dX10_later_97 (fun q6 H locs h hI => ?_)
          refine lv_isub hx hb dX10_later_100 ?_
          refine lv_aload_n hx hb dX10_later_101 rfl (lv_at hl 3 rfl) ?_
          refine fr_1066 C hI shM_0 rfl dX10_later_102 ?_
          refine lv_iconst hx hb dX10_later_105 ci_3 ?_
          refine gx_iald C hI shM_5 h dX10_later_106 (fun h => ?_)
          refine lv_isub hx hb dX10_later_107 ?_
          refine lv_aload_n hx hb dX10_later_108 rfl (lv_at hl 3 rfl) ?_
          refine lv_iload hx hb dX10_later_109 (lv_at hl 0 rfl) ?_
          refine lv_iload_n hx hb dX10_later_111 rfl (lv_at hl 2 rfl) ?_
          refine h_callvi_o (rest := [.int ((q2 - q6) - (σ.1 5 (3 : Int32).toNatClampNeg))]) C hI hl.1 shM_0 rfl yv_X10_minutes k_1354 h (fun q hq => c_X10_minutes l D t ad z C.2.2.2.2.2.2.1 (σ) q4 q1 q hq) (As := [.int q4, .int q1]) rfl rfl ⟨Nat.le_of_ble_eq_true rfl, Nat.le_of_ble_eq_true rfl⟩ (Nat.le_of_ble_eq_true rfl) dX10_later_112 (fun q7 H locs h hI => ?_)
          refine lv_isub hx hb dX10_later_115 ?_
          refine lv_goto (tgt := 122) hx hb dX10_later_116 (by decide) ?_
          exact h_iret_o C hr hI h dX10_later_122
      · refine lv_iload hx hb dX10_later_56 (lv_at hl 0 rfl) ?_
        refine lv_aload_n hx hb dX10_later_58 rfl (lv_at hl 2 rfl) ?_
        refine lv_iconst hx hb dX10_later_59 ci_m1 ?_
        refine lv_iload_n hx hb dX10_later_60 rfl (lv_at hl 1 rfl) ?_
        refine h_callvi_o (rest := [.int q2]) C hI hl.1 shM_0 rfl yv_X10_minutes k_1354 h (fun q hq => c_X10_minutes l D t ad z C.2.2.2.2.2.2.1 (σ) (-1) q1 q hq) (As := [.int (-1), .int q1]) rfl rfl ⟨Nat.le_of_ble_eq_true rfl, Nat.le_of_ble_eq_true rfl⟩ (Nat.le_of_ble_eq_true rfl) dX10_later_61 (fun q8 H locs h hI => ?_)
        refine lv_isub hx hb dX10_later_64 ?_
        exact h_iret_o C hr hI h dX10_later_65
    · refine lv_sipush hx hb dX10_later_48 cs_m9999 ?_
      exact h_iret_o C hr hI h dX10_later_51
  · refine lv_sipush hx hb dX10_later_14 cs_m9999 ?_
    exact h_iret_o C hr hI h dX10_later_17
set_option maxRecDepth 100000 in
set_option maxHeartbeats 4000000 in
theorem w_X10_paper_92 {p : Program} {l : Launch} {e : Env} {s : State} {m : MethodId} {args : Array Value} {below : List Frame} {meth : Method} {c : Code} {D : va_G} {t : gT} {ad z : Nat → Nat} {σ : gS} (C : gC p s m args meth c cX10_paper 11 "NineKeysRoundModel" D t shM ad z) (hr : meth.sig.returnType = some .int) {r : Int32} (K_51 : Int32 → Int32 → Int32 → Int32 → Int32 → Int32 → Int32 → Int32 → Option Int32) (hK_51 : ∀ (x1 : Int32) (x2 : Int32) (x4 : Int32) (x5 : Int32) (x6 : Int32) (x7 : Int32) (x8 : Int32) (x9 : Int32) (H : Heap) (locs : List Loc) (ls : Array Slot), K_51 x1 x2 x4 x5 x6 x7 x8 x9 = some r → gI shM t ad D s.heap σ H locs → lv_has ls 11 [(0, .ref (ad 0)), (1, .int x1), (2, .int x2), (4, .int x4), (5, .int x5), (6, .int x6), (7, .int x7), (8, .int x8), (9, .int x9)] → W p l e (gR 5 150) s m args below meth c H locs 0 0 (MQ below (gQi shM t ad D r σ) args s 0 0 (gA shM ad)) (F0 m 51 ls [])) : ∀ (x1 : Int32) (x2 : Int32) (x4 : Int32) (x5 : Int32) (x6 : Int32) (x7 : Int32) (x8 : Int32) (x9 : Int32) (x10 : Int32) (H : Heap) (locs : List Loc) (ls : Array Slot), f_X10_paper_92 σ K_51 x1 x2 x4 x5 x6 x7 x8 x9 x10 = some r → gI shM t ad D s.heap σ H locs → lv_has ls 11 [(0, .ref (ad 0)), (1, .int x1), (2, .int x2), (4, .int x4), (5, .int x5), (6, .int x6), (7, .int x7), (8, .int x8), (9, .int x9), (10, .int x10)] → W p l e (gR 5 150) s m args below meth c H locs 0 0 (MQ below (gQi shM t ad D r σ) args s 0 0 (gA shM ad)) (F0 m 92 ls []) := by
  have hx := C.1
  have hb := C.2.1
  intro x1 x2 x4 x5 x6 x7 x8 x9 x10 H locs ls  h hI hl
  unfold f_X10_paper_92 at h
  refine lv_iload hx hb dX10_paper_92 (lv_at hl 3 rfl) ?_
  refine lv_bipush hx hb dX10_paper_94 cb_m2 ?_
  refine hicmp_eq (tgt := 102) C dX10_paper_96 (by decide) h (fun h => ?_) (fun h => ?_)
  · refine lv_iload hx hb dX10_paper_102 (lv_at hl 4 rfl) ?_
    refine lv_iload hx hb dX10_paper_104 (lv_at hl 9 rfl) ?_
    refine lv_iadd hx hb dX10_paper_106 ?_
    refine gx_topi h (fun v1 h => ?_)
    refine lv_istore (lv' := [(5, .int v1), (0, .ref (ad 0)), (1, .int x1), (2, .int x2), (4, .int x4), (6, .int x6), (7, .int x7), (8, .int x8), (9, .int x9), (10, .int x10)]) hx hb dX10_paper_107 hl (by decide) rfl (fun ls hl => ?_)
    refine lv_iload hx hb dX10_paper_109 (lv_at hl 9 rfl) ?_
    refine lv_iload hx hb dX10_paper_111 (lv_at hl 5 rfl) ?_
    refine hicmp_gt (tgt := 119) C dX10_paper_113 (by decide) h (fun h => ?_) (fun h => ?_)
    · refine lv_iload hx hb dX10_paper_119 (lv_at hl 9 rfl) ?_
      refine lv_istore (lv' := [(6, .int x10), (5, .int v1), (0, .ref (ad 0)), (1, .int x1), (2, .int x2), (4, .int x4), (7, .int x7), (8, .int x8), (9, .int x9), (10, .int x10)]) hx hb dX10_paper_121 hl (by decide) rfl (fun ls hl => ?_)
      refine lv_iload hx hb dX10_paper_123 (lv_at hl 8 rfl) ?_
      refine lv_istore (lv' := [(7, .int x9), (6, .int x10), (5, .int v1), (0, .ref (ad 0)), (1, .int x1), (2, .int x2), (4, .int x4), (8, .int x8), (9, .int x9), (10, .int x10)]) hx hb dX10_paper_125 hl (by decide) rfl (fun ls hl => ?_)
      refine h_iinc C hl dX10_paper_127 8 rfl ci_1 h (by decide) (lvf := fun v2 => [(9, .int v2), (7, .int x9), (6, .int x10), (5, .int v1), (0, .ref (ad 0)), (1, .int x1), (2, .int x2), (4, .int x4), (8, .int x8), (10, .int x10)]) (fun _ => rfl) (fun v2 ls h hl => ?_)
      refine lv_goto (tgt := 51) hx hb dX10_paper_130 (by decide) ?_
      exact hK_51 _ _ _ _ _ _ _ _ _ _ _  h hI (lv_sub hl [4, 5, 6, 7, 3, 2, 1, 8, 0] rfl)
    · refine lv_goto (tgt := 127) hx hb dX10_paper_116 (by decide) ?_
      refine h_iinc C hl dX10_paper_127 8 rfl ci_1 h (by decide) (lvf := fun v3 => [(9, .int v3), (5, .int v1), (0, .ref (ad 0)), (1, .int x1), (2, .int x2), (4, .int x4), (6, .int x6), (7, .int x7), (8, .int x8), (10, .int x10)]) (fun _ => rfl) (fun v3 ls h hl => ?_)
      refine lv_goto (tgt := 51) hx hb dX10_paper_130 (by decide) ?_
      exact hK_51 _ _ _ _ _ _ _ _ _ _ _  h hI (lv_sub hl [2, 3, 4, 5, 1, 6, 7, 8, 0] rfl)
  · refine lv_goto (tgt := 127) hx hb dX10_paper_99 (by decide) ?_
    refine h_iinc C hl dX10_paper_127 8 rfl ci_1 h (by decide) (lvf := fun v4 => [(9, .int v4), (0, .ref (ad 0)), (1, .int x1), (2, .int x2), (4, .int x4), (5, .int x5), (6, .int x6), (7, .int x7), (8, .int x8), (10, .int x10)]) (fun _ => rfl) (fun v4 ls h hl => ?_)
    refine lv_goto (tgt := 51) hx hb dX10_paper_130 (by decide) ?_
    exact hK_51 _ _ _ _ _ _ _ _ _ _ _  h hI (lv_sub hl [1, 2, 3, 4, 5, 6, 7, 8, 0] rfl)
set_option maxRecDepth 100000 in
set_option maxHeartbeats 4000000 in
theorem w_X10_paper_51 {p : Program} {l : Launch} {e : Env} {s : State} {m : MethodId} {args : Array Value} {below : List Frame} {meth : Method} {c : Code} {D : va_G} {t : gT} {ad z : Nat → Nat} {σ : gS} (C : gC p s m args meth c cX10_paper 11 "NineKeysRoundModel" D t shM ad z) (hr : meth.sig.returnType = some .int) {r : Int32} : ∀ (n : Nat) (x1 : Int32) (x2 : Int32) (x4 : Int32) (x5 : Int32) (x6 : Int32) (x7 : Int32) (x8 : Int32) (x9 : Int32) (H : Heap) (locs : List Loc) (ls : Array Slot), f_X10_paper_51 σ n x1 x2 x4 x5 x6 x7 x8 x9 = some r → gI shM t ad D s.heap σ H locs → lv_has ls 11 [(0, .ref (ad 0)), (1, .int x1), (2, .int x2), (4, .int x4), (5, .int x5), (6, .int x6), (7, .int x7), (8, .int x8), (9, .int x9)] → W p l e (gR 5 150) s m args below meth c H locs 0 0 (MQ below (gQi shM t ad D r σ) args s 0 0 (gA shM ad)) (F0 m 51 ls []) := by
  have hx := C.1
  have hb := C.2.1
  intro n
  induction n with
  | zero =>
    intro x1 x2 x4 x5 x6 x7 x8 x9 H locs ls  h
    exact absurd h (by simp [f_X10_paper_51])
  | succ n ih =>
    intro x1 x2 x4 x5 x6 x7 x8 x9 H locs ls  h hI hl
    unfold f_X10_paper_51 at h
    refine lv_iconst hx hb dX10_paper_51 ci_2 ?_
    refine lv_iload hx hb dX10_paper_52 (lv_at hl 8 rfl) ?_
    refine lv_imul hx hb dX10_paper_54 ?_
    refine lv_aload_n hx hb dX10_paper_55 rfl (lv_at hl 0 rfl) ?_
    refine fr_1103 C hI shM_0 rfl dX10_paper_56 ?_
    refine lv_iload_n hx hb dX10_paper_59 rfl (lv_at hl 1 rfl) ?_
    refine gx_iald C hI shM_25 h dX10_paper_60 (fun h => ?_)
    refine hicmp_ge (tgt := 133) C dX10_paper_61 (by decide) h (fun h => ?_) (fun h => ?_)
    · refine lv_iload_n hx hb dX10_paper_133 rfl (lv_at hl 2 rfl) ?_
      refine hif_ne (tgt := 142) C dX10_paper_134 (by decide) h (fun h => ?_) (fun h => ?_)
      · refine lv_iload_n hx hb dX10_paper_142 rfl (lv_at hl 2 rfl) ?_
        refine lv_iconst hx hb dX10_paper_143 ci_1 ?_
        refine hicmp_ne (tgt := 152) C dX10_paper_144 (by decide) h (fun h => ?_) (fun h => ?_)
        · refine lv_iload_n hx hb dX10_paper_152 rfl (lv_at hl 2 rfl) ?_
          refine lv_iconst hx hb dX10_paper_153 ci_2 ?_
          refine hicmp_ne (tgt := 162) C dX10_paper_154 (by decide) h (fun h => ?_) (fun h => ?_)
          · refine lv_iload hx hb dX10_paper_162 (lv_at hl 7 rfl) ?_
            exact h_iret_o C hr hI h dX10_paper_164
          · refine lv_iload hx hb dX10_paper_157 (lv_at hl 6 rfl) ?_
            refine lv_goto (tgt := 164) hx hb dX10_paper_159 (by decide) ?_
            exact h_iret_o C hr hI h dX10_paper_164
        · refine lv_iload hx hb dX10_paper_147 (lv_at hl 4 rfl) ?_
          refine lv_goto (tgt := 164) hx hb dX10_paper_149 (by decide) ?_
          exact h_iret_o C hr hI h dX10_paper_164
      · refine lv_iload hx hb dX10_paper_137 (lv_at hl 3 rfl) ?_
        refine lv_goto (tgt := 164) hx hb dX10_paper_139 (by decide) ?_
        exact h_iret_o C hr hI h dX10_paper_164
    · refine lv_aload_n hx hb dX10_paper_64 rfl (lv_at hl 0 rfl) ?_
      refine lv_iload_n hx hb dX10_paper_65 rfl (lv_at hl 1 rfl) ?_
      refine lv_iload hx hb dX10_paper_66 (lv_at hl 8 rfl) ?_
      refine h_callvi_o (rest := []) C hI hl.1 shM_0 rfl yv_X10_later k_1527 h (fun q hq => c_X10_later l D t ad z C.2.2.2.2.2.2.1 (σ) x1 x9 q hq) (As := [.int x1, .int x9]) rfl rfl ⟨Nat.le_of_ble_eq_true rfl, Nat.le_of_ble_eq_true rfl⟩ (Nat.le_of_ble_eq_true rfl) dX10_paper_68 (fun q1 H locs h hI => ?_)
      refine lv_istore (lv' := [(10, .int q1), (0, .ref (ad 0)), (1, .int x1), (2, .int x2), (4, .int x4), (5, .int x5), (6, .int x6), (7, .int x7), (8, .int x8), (9, .int x9)]) hx hb dX10_paper_71 hl (by decide) rfl (fun ls hl => ?_)
      refine lv_iload hx hb dX10_paper_73 (lv_at hl 0 rfl) ?_
      refine hif_ge (tgt := 92) C dX10_paper_75 (by decide) h (fun h => ?_) (fun h => ?_)
      · exact w_X10_paper_92 C hr   _ ih _ _ _ _ _ _ _ _ _ _ _ _  h hI (lv_sub hl [1, 2, 3, 4, 5, 6, 7, 8, 9, 0] rfl)
      · refine h_iinc C hl dX10_paper_78 8 rfl ci_1 h (by decide) (lvf := fun v2 => [(8, .int v2), (10, .int q1), (0, .ref (ad 0)), (1, .int x1), (2, .int x2), (4, .int x4), (5, .int x5), (6, .int x6), (7, .int x7), (9, .int x9)]) (fun _ => rfl) (fun v2 ls h hl => ?_)
        refine lv_iload hx hb dX10_paper_81 (lv_at hl 5 rfl) ?_
        refine lv_bipush hx hb dX10_paper_83 cb_m2 ?_
        refine hicmp_ne (tgt := 92) C dX10_paper_85 (by decide) h (fun h => ?_) (fun h => ?_)
        · exact w_X10_paper_92 C hr   _ ih _ _ _ _ _ _ _ _ _ _ _ _  h hI (lv_sub hl [2, 3, 4, 5, 6, 7, 8, 0, 9, 1] rfl)
        · refine lv_iload hx hb dX10_paper_88 (lv_at hl 9 rfl) ?_
          refine lv_istore (lv' := [(4, .int x9), (8, .int v2), (10, .int q1), (0, .ref (ad 0)), (1, .int x1), (2, .int x2), (5, .int x5), (6, .int x6), (7, .int x7), (9, .int x9)]) hx hb dX10_paper_90 hl (by decide) rfl (fun ls hl => ?_)
          exact w_X10_paper_92 C hr   _ ih _ _ _ _ _ _ _ _ _ _ _ _  h hI (lv_sub hl [3, 4, 5, 0, 6, 7, 8, 1, 9, 2] rfl)
set_option maxRecDepth 100000 in
set_option maxHeartbeats 4000000 in
theorem c_X10_paper (l : Launch) (D : va_G) (t : gT) (ad z : Nat → Nat) (hJ : gJ shM ad) (σ : gS) (x1 : Int32) (x2 : Int32) (q : Int32) (h : f_X10_paper σ x1 x2 = some q) : Met l yX10_paper (Cond.code yX10_paper cX10_paper 11 (some .int) :: lw_tb) (gR 5 150) (gPc shM t ad D z [.ref (ad 0), .int x1, .int x2] σ) (gQi shM t ad D q σ) 0 0 (gA shM ad) := by
  refine gMet "NineKeysRoundModel" rfl (by decide) hJ (Nat.le_of_ble_eq_true rfl) ?_
  intro p e s m below meth c ls C hr hI hl
  have hx := C.1
  have hb := C.2.1
  have hl : lv_has ls 11 [(0, .ref (ad 0)), (1, .int x1), (2, .int x2)] := hl
  unfold f_X10_paper at h
  refine lv_iload_n hx hb dX10_paper_0 rfl (lv_at hl 1 rfl) ?_
  refine h_callsi_o (rest := []) C hI hl.1 ys_X10_isShelf k_1237 h (fun q hq => c_X10_isShelf l D t ad z C.2.2.2.2.2.2.1 (σ) x1 q hq) (As := [.int x1]) rfl rfl ⟨Nat.le_of_ble_eq_true rfl, Nat.le_of_ble_eq_true rfl⟩ (Nat.le_of_ble_eq_true rfl) dX10_paper_1 (fun q1 H locs h hI => ?_)
  refine hif_eq (tgt := 16) C dX10_paper_4 (by decide) h (fun h => ?_) (fun h => ?_)
  · refine lv_iconst hx hb dX10_paper_16 ci_m1 ?_
    exact h_iret_o C hr hI h dX10_paper_17
  · refine lv_iload_n hx hb dX10_paper_7 rfl (lv_at hl 2 rfl) ?_
    refine lv_iconst hx hb dX10_paper_8 ci_0 ?_
    refine lv_iconst hx hb dX10_paper_9 ci_3 ?_
    refine h_callsi_o (rest := []) C hI hl.1 ys_X10_within k_1240 h (fun q hq => c_X10_within l D t ad z C.2.2.2.2.2.2.1 (σ) x2 0 3 q hq) (As := [.int x2, .int 0, .int 3]) rfl rfl ⟨Nat.le_of_ble_eq_true rfl, Nat.le_of_ble_eq_true rfl⟩ (Nat.le_of_ble_eq_true rfl) dX10_paper_10 (fun q2 H locs h hI => ?_)
    refine hif_ne (tgt := 18) C dX10_paper_13 (by decide) h (fun h => ?_) (fun h => ?_)
    · refine lv_aload_n hx hb dX10_paper_18 rfl (lv_at hl 0 rfl) ?_
      refine lv_iload_n hx hb dX10_paper_19 rfl (lv_at hl 1 rfl) ?_
      refine lv_iconst hx hb dX10_paper_20 ci_1 ?_
      refine h_callvi_o (rest := []) C hI hl.1 shM_0 rfl yv_X10_noRow k_1338 h (fun q hq => c_X10_noRow l D t ad z C.2.2.2.2.2.2.1 (σ) x1 1 q hq) (As := [.int x1, .int 1]) rfl rfl ⟨Nat.le_of_ble_eq_true rfl, Nat.le_of_ble_eq_true rfl⟩ (Nat.le_of_ble_eq_true rfl) dX10_paper_21 (fun q3 H locs h hI => ?_)
      refine lv_istore_n (lv' := [(3, .int q3), (0, .ref (ad 0)), (1, .int x1), (2, .int x2)]) hx hb dX10_paper_24 rfl hl (by decide) rfl (fun ls hl => ?_)
      refine lv_iload_n hx hb dX10_paper_25 rfl (lv_at hl 0 rfl) ?_
      refine hif_ge (tgt := 31) C dX10_paper_26 (by decide) h (fun h => ?_) (fun h => ?_)
      · refine lv_bipush hx hb dX10_paper_31 cb_m2 ?_
        refine lv_istore (lv' := [(4, .int (-2)), (3, .int q3), (0, .ref (ad 0)), (1, .int x1), (2, .int x2)]) hx hb dX10_paper_33 hl (by decide) rfl (fun ls hl => ?_)
        refine lv_iconst hx hb dX10_paper_35 ci_0 ?_
        refine lv_istore (lv' := [(5, .int 0), (4, .int (-2)), (3, .int q3), (0, .ref (ad 0)), (1, .int x1), (2, .int x2)]) hx hb dX10_paper_36 hl (by decide) rfl (fun ls hl => ?_)
        refine lv_iconst hx hb dX10_paper_38 ci_0 ?_
        refine lv_istore (lv' := [(6, .int 0), (5, .int 0), (4, .int (-2)), (3, .int q3), (0, .ref (ad 0)), (1, .int x1), (2, .int x2)]) hx hb dX10_paper_39 hl (by decide) rfl (fun ls hl => ?_)
        refine lv_bipush hx hb dX10_paper_41 cb_m2 ?_
        refine lv_istore (lv' := [(7, .int (-2)), (6, .int 0), (5, .int 0), (4, .int (-2)), (3, .int q3), (0, .ref (ad 0)), (1, .int x1), (2, .int x2)]) hx hb dX10_paper_43 hl (by decide) rfl (fun ls hl => ?_)
        refine lv_iconst hx hb dX10_paper_45 ci_0 ?_
        refine lv_istore (lv' := [(8, .int 0), (7, .int (-2)), (6, .int 0), (5, .int 0), (4, .int (-2)), (3, .int q3), (0, .ref (ad 0)), (1, .int x1), (2, .int x2)]) hx hb dX10_paper_46 hl (by decide) rfl (fun ls hl => ?_)
        refine lv_iconst hx hb dX10_paper_48 ci_0 ?_
        refine lv_istore (lv' := [(9, .int 0), (8, .int 0), (7, .int (-2)), (6, .int 0), (5, .int 0), (4, .int (-2)), (3, .int q3), (0, .ref (ad 0)), (1, .int x1), (2, .int x2)]) hx hb dX10_paper_49 hl (by decide) rfl (fun ls hl => ?_)
        exact w_X10_paper_51 C hr    _ _ _ _ _ _ _ _ _ _ _ _  h hI (lv_sub hl [7, 8, 9, 5, 4, 3, 2, 1, 0] rfl)
      · refine lv_iload_n hx hb dX10_paper_29 rfl (lv_at hl 0 rfl) ?_
        exact h_iret_o C hr hI h dX10_paper_30
    · refine lv_iconst hx hb dX10_paper_16 ci_m1 ?_
      exact h_iret_o C hr hI h dX10_paper_17
set_option maxRecDepth 100000 in
set_option maxHeartbeats 4000000 in
theorem w_X10_isPaper_8 {p : Program} {l : Launch} {e : Env} {s : State} {m : MethodId} {args : Array Value} {below : List Frame} {meth : Method} {c : Code} {D : va_G} {t : gT} {ad z : Nat → Nat} (C : gC p s m args meth c cX10_isPaper 3 "NineKeysRoundModel" D t shM ad z) (hr : meth.sig.returnType = some .boolean) {r : Int32 × gS} : ∀ (n : Nat) (x1 : Int32) (x2 : Int32) (σ : gS) (H : Heap) (locs : List Loc) (ls : Array Slot), f_X10_isPaper_8 n x1 x2 σ = some r → gI shM t ad D s.heap σ H locs → lv_has ls 3 [(0, .ref (ad 0)), (1, .int x1), (2, .int x2)] → W p l e (gR 5 149) s m args below meth c H locs 0 0 (MQ below (gQi shM t ad D r.1 r.2) args s 0 0 (gA shM ad)) (F0 m 8 ls []) := by
  have hx := C.1
  have hb := C.2.1
  intro n
  induction n with
  | zero =>
    intro x1 x2 σ H locs ls  h
    exact absurd h (by simp [f_X10_isPaper_8])
  | succ n ih =>
    intro x1 x2 σ H locs ls  h hI hl
    unfold f_X10_isPaper_8 at h
    refine lv_iconst hx hb dX10_isPaper_8 ci_2 ?_
    refine lv_iload_n hx hb dX10_isPaper_9 rfl (lv_at hl 2 rfl) ?_
    refine lv_imul hx hb dX10_isPaper_10 ?_
    refine lv_aload_n hx hb dX10_isPaper_11 rfl (lv_at hl 0 rfl) ?_
    refine fr_1103 C hI shM_0 rfl dX10_isPaper_12 ?_
    refine lv_iload_n hx hb dX10_isPaper_15 rfl (lv_at hl 1 rfl) ?_
    refine gx_iald C hI shM_25 h dX10_isPaper_16 (fun h => ?_)
    refine hicmp_ge (tgt := 88) C dX10_isPaper_17 (by decide) h (fun h => ?_) (fun h => ?_)
    · refine lv_iconst hx hb dX10_isPaper_88 ci_1 ?_
      exact h_zret_w C hr hI h dX10_isPaper_89
    · refine lv_iconst hx hb dX10_isPaper_20 ci_2 ?_
      refine lv_iload_n hx hb dX10_isPaper_21 rfl (lv_at hl 2 rfl) ?_
      refine lv_imul hx hb dX10_isPaper_22 ?_
      refine lv_iconst hx hb dX10_isPaper_23 ci_1 ?_
      refine lv_iadd hx hb dX10_isPaper_24 ?_
      refine lv_aload_n hx hb dX10_isPaper_25 rfl (lv_at hl 0 rfl) ?_
      refine fr_1103 C hI shM_0 rfl dX10_isPaper_26 ?_
      refine lv_iload_n hx hb dX10_isPaper_29 rfl (lv_at hl 1 rfl) ?_
      refine gx_iald C hI shM_25 h dX10_isPaper_30 (fun h => ?_)
      refine hicmp_ge (tgt := 42) C dX10_isPaper_31 (by decide) h (fun h => ?_) (fun h => ?_)
      · refine lv_iconst hx hb dX10_isPaper_42 ci_0 ?_
        exact h_zret_w C hr hI h dX10_isPaper_43
      · refine lv_iload_n hx hb dX10_isPaper_34 rfl (lv_at hl 2 rfl) ?_
        refine lv_aload_n hx hb dX10_isPaper_35 rfl (lv_at hl 0 rfl) ?_
        refine fg_1107 C hI shM_0 rfl dX10_isPaper_36 ?_
        refine hicmp_lt (tgt := 44) C dX10_isPaper_39 (by decide) h (fun h => ?_) (fun h => ?_)
        · refine lv_aload_n hx hb dX10_isPaper_44 rfl (lv_at hl 0 rfl) ?_
          refine lv_iload_n hx hb dX10_isPaper_45 rfl (lv_at hl 1 rfl) ?_
          refine lv_iconst hx hb dX10_isPaper_46 ci_2 ?_
          refine lv_iload_n hx hb dX10_isPaper_47 rfl (lv_at hl 2 rfl) ?_
          refine lv_imul hx hb dX10_isPaper_48 ?_
          refine h_callvi_o (rest := []) C hI hl.1 shM_0 rfl yv_X10_toldAt k_1346 h (fun q hq => c_X10_toldAt l D t ad z C.2.2.2.2.2.2.1 (σ) x1 (2 * x2) q hq) (As := [.int x1, .int (2 * x2)]) rfl rfl ⟨Nat.le_of_ble_eq_true rfl, Nat.le_of_ble_eq_true rfl⟩ (Nat.le_of_ble_eq_true rfl) dX10_isPaper_49 (fun q1 H locs h hI => ?_)
          refine lv_aload_n hx hb dX10_isPaper_52 rfl (lv_at hl 0 rfl) ?_
          refine fr_1109 C hI shM_0 rfl dX10_isPaper_53 ?_
          refine lv_iload_n hx hb dX10_isPaper_56 rfl (lv_at hl 2 rfl) ?_
          refine gx_iald C hI shM_29 h dX10_isPaper_57 (fun h => ?_)
          refine hicmp_ne (tgt := 80) C dX10_isPaper_58 (by decide) h (fun h => ?_) (fun h => ?_)
          · refine lv_iconst hx hb dX10_isPaper_80 ci_0 ?_
            exact h_zret_w C hr hI h dX10_isPaper_81
          · refine lv_aload_n hx hb dX10_isPaper_61 rfl (lv_at hl 0 rfl) ?_
            refine lv_iload_n hx hb dX10_isPaper_62 rfl (lv_at hl 1 rfl) ?_
            refine lv_iconst hx hb dX10_isPaper_63 ci_2 ?_
            refine lv_iload_n hx hb dX10_isPaper_64 rfl (lv_at hl 2 rfl) ?_
            refine lv_imul hx hb dX10_isPaper_65 ?_
            refine lv_iconst hx hb dX10_isPaper_66 ci_1 ?_
            refine lv_iadd hx hb dX10_isPaper_67 ?_
            refine h_callvi_o (rest := []) C hI hl.1 shM_0 rfl yv_X10_toldAt k_1346 h (fun q hq => c_X10_toldAt l D t ad z C.2.2.2.2.2.2.1 (σ) x1 ((2 * x2) + 1) q hq) (As := [.int x1, .int ((2 * x2) + 1)]) rfl rfl ⟨Nat.le_of_ble_eq_true rfl, Nat.le_of_ble_eq_true rfl⟩ (Nat.le_of_ble_eq_true rfl) dX10_isPaper_68 (fun q2 H locs h hI => ?_)
            refine lv_aload_n hx hb dX10_isPaper_71 rfl (lv_at hl 0 rfl) ?_
            refine fr_1108 C hI shM_0 rfl dX10_isPaper_72 ?_
            refine lv_iload_n hx hb dX10_isPaper_75 rfl (lv_at hl 2 rfl) ?_
            refine gx_iald C hI shM_28 h dX10_isPaper_76 (fun h => ?_)
            refine hicmp_eq (tgt := 82) C dX10_isPaper_77 (by decide) h (fun h => ?_) (fun h => ?_)
            · refine h_iinc C hl dX10_isPaper_82 2 rfl ci_1 h (by decide) (lvf := fun v3 => [(2, .int v3), (0, .ref (ad 0)), (1, .int x1)]) (fun _ => rfl) (fun v3 ls h hl => ?_)
              refine lv_goto (tgt := 8) hx hb dX10_isPaper_85 (by decide) ?_
              exact ih _ _ _ _ _ _  h hI (lv_sub hl [1, 2, 0] rfl)
            · refine lv_iconst hx hb dX10_isPaper_80 ci_0 ?_
              exact h_zret_w C hr hI h dX10_isPaper_81
        · refine lv_iconst hx hb dX10_isPaper_42 ci_0 ?_
          exact h_zret_w C hr hI h dX10_isPaper_43
set_option maxRecDepth 100000 in
set_option maxHeartbeats 4000000 in
theorem c_X10_isPaper (l : Launch) (D : va_G) (t : gT) (ad z : Nat → Nat) (hJ : gJ shM ad) (σ : gS) (x1 : Int32) (q : Int32 × gS) (h : f_X10_isPaper σ x1 = some q) : Met l yX10_isPaper (Cond.code yX10_isPaper cX10_isPaper 3 (some .boolean) :: lw_tb) (gR 5 149) (gPc shM t ad D z [.ref (ad 0), .int x1] σ) (gQi shM t ad D q.1 q.2) 0 0 (gA shM ad) := by
  refine gMet "NineKeysRoundModel" rfl (by decide) hJ (Nat.le_of_ble_eq_true rfl) ?_
  intro p e s m below meth c ls C hr hI hl
  have hx := C.1
  have hb := C.2.1
  have hl : lv_has ls 3 [(0, .ref (ad 0)), (1, .int x1)] := hl
  unfold f_X10_isPaper at h
  refine lv_aload_n hx hb dX10_isPaper_0 rfl (lv_at hl 0 rfl) ?_
  refine lv_bipush hx hb dX10_isPaper_1 cb_30 ?_
  refine h_callvv_w (rest := []) C hI hl.1 shM_0 rfl yv_X10_walks k_1375 h (fun q hq => c_X10_walks l D t ad z C.2.2.2.2.2.2.1 (σ) 30 q hq) (As := [.int 30]) rfl rfl ⟨Nat.le_of_ble_eq_true rfl, Nat.le_of_ble_eq_true rfl⟩ (Nat.le_of_ble_eq_true rfl) dX10_isPaper_3 (fun q1 H locs h hI => ?_)
  refine lv_iconst hx hb dX10_isPaper_6 ci_0 ?_
  refine lv_istore_n (lv' := [(2, .int 0), (0, .ref (ad 0)), (1, .int x1)]) hx hb dX10_isPaper_7 rfl hl (by decide) rfl (fun ls hl => ?_)
  exact w_X10_isPaper_8 C hr    _ _ _ _ _ _ _  h hI (lv_sub hl [1, 2, 0] rfl)
set_option maxRecDepth 100000 in
set_option maxHeartbeats 4000000 in
theorem w_X10_which_107 {p : Program} {l : Launch} {e : Env} {s : State} {m : MethodId} {args : Array Value} {below : List Frame} {meth : Method} {c : Code} {D : va_G} {t : gT} {ad z : Nat → Nat} (C : gC p s m args meth c cX10_which 3 "NineKeysRoundModel" D t shM ad z) (hr : meth.sig.returnType = some .int) {r : Int32 × gS} : ∀ (x1 : Int32) (s0 : Int32) (σ : gS) (H : Heap) (locs : List Loc) (ls : Array Slot), f_X10_which_107 x1 s0 σ = some r → gI shM t ad D s.heap σ H locs → lv_has ls 3 [(0, .ref (ad 0)), (1, .int x1)] → W p l e (gR 6 171) s m args below meth c H locs 0 0 (MQ below (gQi shM t ad D r.1 r.2) args s 0 0 (gA shM ad)) (F0 m 107 ls [.int s0]) := by
  have hx := C.1
  have hb := C.2.1
  intro x1 s0 σ H locs ls  h hI hl
  unfold f_X10_which_107 at h
  refine lv_istore_n (lv' := [(2, .int s0), (0, .ref (ad 0)), (1, .int x1)]) hx hb dX10_which_107 rfl hl (by decide) rfl (fun ls hl => ?_)
  refine lv_aload_n hx hb dX10_which_108 rfl (lv_at hl 1 rfl) ?_
  refine h_callvv_w (rest := []) C hI hl.1 shM_0 rfl yv_X10_turns k_1499 h (fun q hq => c_X10_turns l D t ad z C.2.2.2.2.2.2.1 (σ) q hq) (As := []) rfl rfl ⟨Nat.le_of_ble_eq_true rfl, Nat.le_of_ble_eq_true rfl⟩ (Nat.le_of_ble_eq_true rfl) dX10_which_109 (fun q1 H locs h hI => ?_)
  refine lv_iload_n hx hb dX10_which_112 rfl (lv_at hl 0 rfl) ?_
  refine lv_aload_n hx hb dX10_which_113 rfl (lv_at hl 1 rfl) ?_
  refine lv_iload_n hx hb dX10_which_114 rfl (lv_at hl 2 rfl) ?_
  refine lv_bipush hx hb dX10_which_115 cb_10 ?_
  refine h_irem C dX10_which_117 h (fun h => ?_)
  refine h_callvi_w (rest := [.int s0]) C hI hl.1 shM_0 rfl yv_X10_isPaper k_1535 h (fun q hq => c_X10_isPaper l D t ad z C.2.2.2.2.2.2.1 q1 (x1 - x1 / 10 * 10) q hq) (As := [.int (x1 - x1 / 10 * 10)]) rfl rfl ⟨Nat.le_of_ble_eq_true rfl, Nat.le_of_ble_eq_true rfl⟩ (Nat.le_of_ble_eq_true rfl) dX10_which_118 (fun q2 H locs h hI => ?_)
  refine hif_eq (tgt := 128) C dX10_which_121 (by decide) h (fun h => ?_) (fun h => ?_)
  · refine lv_iconst hx hb dX10_which_128 ci_0 ?_
    refine lv_iadd hx hb dX10_which_129 ?_
    exact h_iret_w C hr hI h dX10_which_130
  · refine lv_iconst hx hb dX10_which_124 ci_2 ?_
    refine lv_goto (tgt := 129) hx hb dX10_which_125 (by decide) ?_
    refine lv_iadd hx hb dX10_which_129 ?_
    exact h_iret_w C hr hI h dX10_which_130
set_option maxRecDepth 100000 in
set_option maxHeartbeats 4000000 in
theorem c_X10_which (l : Launch) (D : va_G) (t : gT) (ad z : Nat → Nat) (hJ : gJ shM ad) (σ : gS) (x1 : Int32) (q : Int32 × gS) (h : f_X10_which σ x1 = some q) : Met l yX10_which (Cond.code yX10_which cX10_which 3 (some .int) :: lw_tb) (gR 6 171) (gPc shM t ad D z [.ref (ad 0), .int x1] σ) (gQi shM t ad D q.1 q.2) 0 0 (gA shM ad) := by
  refine gMet "NineKeysRoundModel" rfl (by decide) hJ (Nat.le_of_ble_eq_true rfl) ?_
  intro p e s m below meth c ls C hr hI hl
  have hx := C.1
  have hb := C.2.1
  have hl : lv_has ls 3 [(0, .ref (ad 0)), (1, .int x1)] := hl
  unfold f_X10_which at h
  refine lv_iload_n hx hb dX10_which_0 rfl (lv_at hl 1 rfl) ?_
  refine hif_lt (tgt := 24) C dX10_which_1 (by decide) h (fun h => ?_) (fun h => ?_)
  · refine lv_iconst hx hb dX10_which_24 ci_m1 ?_
    exact h_iret_w C hr hI h dX10_which_25
  · refine lv_iload_n hx hb dX10_which_4 rfl (lv_at hl 1 rfl) ?_
    refine lv_bipush hx hb dX10_which_5 cb_10 ?_
    refine h_idiv C dX10_which_7 h (fun h => ?_)
    refine h_callsi_o (rest := []) C hI hl.1 ys_X10_isShelf k_1237 h (fun q hq => c_X10_isShelf l D t ad z C.2.2.2.2.2.2.1 (σ) (x1 / 10) q hq) (As := [.int (x1 / 10)]) rfl rfl ⟨Nat.le_of_ble_eq_true rfl, Nat.le_of_ble_eq_true rfl⟩ (Nat.le_of_ble_eq_true rfl) dX10_which_8 (fun q1 H locs h hI => ?_)
    refine hif_eq (tgt := 24) C dX10_which_11 (by decide) h (fun h => ?_) (fun h => ?_)
    · refine lv_iconst hx hb dX10_which_24 ci_m1 ?_
      exact h_iret_w C hr hI h dX10_which_25
    · refine lv_iload_n hx hb dX10_which_14 rfl (lv_at hl 1 rfl) ?_
      refine lv_bipush hx hb dX10_which_15 cb_10 ?_
      refine h_irem C dX10_which_17 h (fun h => ?_)
      refine h_callsi_o (rest := []) C hI hl.1 ys_X10_isShelf k_1237 h (fun q hq => c_X10_isShelf l D t ad z C.2.2.2.2.2.2.1 (σ) (x1 - x1 / 10 * 10) q hq) (As := [.int (x1 - x1 / 10 * 10)]) rfl rfl ⟨Nat.le_of_ble_eq_true rfl, Nat.le_of_ble_eq_true rfl⟩ (Nat.le_of_ble_eq_true rfl) dX10_which_18 (fun q2 H locs h hI => ?_)
      refine hif_ne (tgt := 26) C dX10_which_21 (by decide) h (fun h => ?_) (fun h => ?_)
      · refine lv_aload_n hx hb dX10_which_26 rfl (lv_at hl 0 rfl) ?_
        refine fr_1102 C hI shM_0 rfl dX10_which_27 ?_
        refine lv_iload_n hx hb dX10_which_30 rfl (lv_at hl 1 rfl) ?_
        refine lv_bipush hx hb dX10_which_31 cb_10 ?_
        refine h_idiv C dX10_which_33 h (fun h => ?_)
        refine gx_iald C hI shM_24 h dX10_which_34 (fun h => ?_)
        refine lv_iconst hx hb dX10_which_35 ci_m1 ?_
        refine hicmp_eq (tgt := 52) C dX10_which_36 (by decide) h (fun h => ?_) (fun h => ?_)
        · refine lv_bipush hx hb dX10_which_52 cb_m11 ?_
          exact h_iret_w C hr hI h dX10_which_54
        · refine lv_aload_n hx hb dX10_which_39 rfl (lv_at hl 0 rfl) ?_
          refine fr_1102 C hI shM_0 rfl dX10_which_40 ?_
          refine lv_iload_n hx hb dX10_which_43 rfl (lv_at hl 1 rfl) ?_
          refine lv_bipush hx hb dX10_which_44 cb_10 ?_
          refine h_irem C dX10_which_46 h (fun h => ?_)
          refine gx_iald C hI shM_24 h dX10_which_47 (fun h => ?_)
          refine lv_iconst hx hb dX10_which_48 ci_m1 ?_
          refine hicmp_ne (tgt := 55) C dX10_which_49 (by decide) h (fun h => ?_) (fun h => ?_)
          · refine lv_aload_n hx hb dX10_which_55 rfl (lv_at hl 0 rfl) ?_
            refine fr_1102 C hI shM_0 rfl dX10_which_56 ?_
            refine lv_iload_n hx hb dX10_which_59 rfl (lv_at hl 1 rfl) ?_
            refine lv_bipush hx hb dX10_which_60 cb_10 ?_
            refine h_idiv C dX10_which_62 h (fun h => ?_)
            refine gx_iald C hI shM_24 h dX10_which_63 (fun h => ?_)
            refine hif_ne (tgt := 80) C dX10_which_64 (by decide) h (fun h => ?_) (fun h => ?_)
            · refine lv_bipush hx hb dX10_which_80 cb_m12 ?_
              exact h_iret_w C hr hI h dX10_which_82
            · refine lv_aload_n hx hb dX10_which_67 rfl (lv_at hl 0 rfl) ?_
              refine fr_1102 C hI shM_0 rfl dX10_which_68 ?_
              refine lv_iload_n hx hb dX10_which_71 rfl (lv_at hl 1 rfl) ?_
              refine lv_bipush hx hb dX10_which_72 cb_10 ?_
              refine h_irem C dX10_which_74 h (fun h => ?_)
              refine gx_iald C hI shM_24 h dX10_which_75 (fun h => ?_)
              refine lv_iconst hx hb dX10_which_76 ci_1 ?_
              refine hicmp_eq (tgt := 83) C dX10_which_77 (by decide) h (fun h => ?_) (fun h => ?_)
              · refine lv_aload_n hx hb dX10_which_83 rfl (lv_at hl 0 rfl) ?_
                refine lv_iload_n hx hb dX10_which_84 rfl (lv_at hl 1 rfl) ?_
                refine lv_bipush hx hb dX10_which_85 cb_10 ?_
                refine h_idiv C dX10_which_87 h (fun h => ?_)
                refine h_callvv_w (rest := []) C hI hl.1 shM_0 rfl yv_X10_reads k_1342 h (fun q hq => c_X10_reads l D t ad z C.2.2.2.2.2.2.1 (σ) (x1 / 10) q hq) (As := [.int (x1 / 10)]) rfl rfl ⟨Nat.le_of_ble_eq_true rfl, Nat.le_of_ble_eq_true rfl⟩ (Nat.le_of_ble_eq_true rfl) dX10_which_88 (fun q3 H locs h hI => ?_)
                refine lv_aload_n hx hb dX10_which_91 rfl (lv_at hl 0 rfl) ?_
                refine lv_iload_n hx hb dX10_which_92 rfl (lv_at hl 1 rfl) ?_
                refine lv_bipush hx hb dX10_which_93 cb_10 ?_
                refine h_irem C dX10_which_95 h (fun h => ?_)
                refine h_callvi_w (rest := []) C hI hl.1 shM_0 rfl yv_X10_isPaper k_1535 h (fun q hq => c_X10_isPaper l D t ad z C.2.2.2.2.2.2.1 q3 (x1 - x1 / 10 * 10) q hq) (As := [.int (x1 - x1 / 10 * 10)]) rfl rfl ⟨Nat.le_of_ble_eq_true rfl, Nat.le_of_ble_eq_true rfl⟩ (Nat.le_of_ble_eq_true rfl) dX10_which_96 (fun q4 H locs h hI => ?_)
                refine hif_eq (tgt := 106) C dX10_which_99 (by decide) h (fun h => ?_) (fun h => ?_)
                · refine lv_iconst hx hb dX10_which_106 ci_0 ?_
                  exact w_X10_which_107 C hr    _ _ _ _ _ _  h hI (lv_sub hl [0, 1] rfl)
                · refine lv_iconst hx hb dX10_which_102 ci_1 ?_
                  refine lv_goto (tgt := 107) hx hb dX10_which_103 (by decide) ?_
                  exact w_X10_which_107 C hr    _ _ _ _ _ _  h hI (lv_sub hl [0, 1] rfl)
              · refine lv_bipush hx hb dX10_which_80 cb_m12 ?_
                exact h_iret_w C hr hI h dX10_which_82
          · refine lv_bipush hx hb dX10_which_52 cb_m11 ?_
            exact h_iret_w C hr hI h dX10_which_54
      · refine lv_iconst hx hb dX10_which_24 ci_m1 ?_
        exact h_iret_w C hr hI h dX10_which_25
set_option maxRecDepth 100000 in
set_option maxHeartbeats 4000000 in
theorem w_X10_fit_165 {p : Program} {l : Launch} {e : Env} {s : State} {m : MethodId} {args : Array Value} {below : List Frame} {meth : Method} {c : Code} {D : va_G} {t : gT} {ad z : Nat → Nat} (C : gC p s m args meth c cX10_fit 7 "NineKeysRoundModel" D t shM ad z) (hr : meth.sig.returnType = some .int) {r : Int32 × gS} (K_72 : Int32 → Int32 → Int32 → Int32 → gS → Option (Int32 × gS)) (hK_72 : ∀ (x1 : Int32) (x2 : Int32) (x4 : Int32) (x5 : Int32) (σ : gS) (H : Heap) (locs : List Loc) (ls : Array Slot), K_72 x1 x2 x4 x5 σ = some r → gI shM t ad D s.heap σ H locs → lv_has ls 7 [(0, .ref (ad 0)), (1, .int x1), (2, .int x2), (4, .int x4), (5, .int x5)] → W p l e (gR 6 171) s m args below meth c H locs 0 0 (MQ below (gQi shM t ad D r.1 r.2) args s 0 0 (gA shM ad)) (F0 m 72 ls [])) : ∀ (x1 : Int32) (x2 : Int32) (x4 : Int32) (σ : gS) (H : Heap) (locs : List Loc) (ls : Array Slot), f_X10_fit_165 K_72 x1 x2 x4 σ = some r → gI shM t ad D s.heap σ H locs → lv_has ls 7 [(0, .ref (ad 0)), (1, .int x1), (2, .int x2), (4, .int x4)] → W p l e (gR 6 171) s m args below meth c H locs 0 0 (MQ below (gQi shM t ad D r.1 r.2) args s 0 0 (gA shM ad)) (F0 m 165 ls []) := by
  have hx := C.1
  have hb := C.2.1
  intro x1 x2 x4 σ H locs ls  h hI hl
  unfold f_X10_fit_165 at h
  refine lv_aload_n hx hb dX10_fit_165 rfl (lv_at hl 0 rfl) ?_
  refine lv_aload_n hx hb dX10_fit_166 rfl (lv_at hl 0 rfl) ?_
  refine fg_1061 C hI shM_0 rfl dX10_fit_167 ?_
  refine h_callvi_w (rest := []) C hI hl.1 shM_0 rfl yv_X10_nextOrder k_1452 h (fun q hq => c_X10_nextOrder l D t ad z C.2.2.2.2.2.2.1 (σ) (σ.1 0 0) q hq) (As := [.int (σ.1 0 0)]) rfl rfl ⟨Nat.le_of_ble_eq_true rfl, Nat.le_of_ble_eq_true rfl⟩ (Nat.le_of_ble_eq_true rfl) dX10_fit_170 (fun q1 H locs h hI => ?_)
  refine lv_istore (lv' := [(5, .int q1.1), (0, .ref (ad 0)), (1, .int x1), (2, .int x2), (4, .int x4)]) hx hb dX10_fit_173 hl (by decide) rfl (fun ls hl => ?_)
  refine lv_goto (tgt := 72) hx hb dX10_fit_175 (by decide) ?_
  exact hK_72 _ _ _ _ _ _ _ _  h hI (lv_sub hl [1, 2, 3, 4, 0] rfl)
set_option maxRecDepth 100000 in
set_option maxHeartbeats 4000000 in
theorem w_X10_fit_136 {p : Program} {l : Launch} {e : Env} {s : State} {m : MethodId} {args : Array Value} {below : List Frame} {meth : Method} {c : Code} {D : va_G} {t : gT} {ad z : Nat → Nat} (C : gC p s m args meth c cX10_fit 7 "NineKeysRoundModel" D t shM ad z) (hr : meth.sig.returnType = some .int) {r : Int32 × gS} (K_72 : Int32 → Int32 → Int32 → Int32 → gS → Option (Int32 × gS)) (hK_72 : ∀ (x1 : Int32) (x2 : Int32) (x4 : Int32) (x5 : Int32) (σ : gS) (H : Heap) (locs : List Loc) (ls : Array Slot), K_72 x1 x2 x4 x5 σ = some r → gI shM t ad D s.heap σ H locs → lv_has ls 7 [(0, .ref (ad 0)), (1, .int x1), (2, .int x2), (4, .int x4), (5, .int x5)] → W p l e (gR 6 171) s m args below meth c H locs 0 0 (MQ below (gQi shM t ad D r.1 r.2) args s 0 0 (gA shM ad)) (F0 m 72 ls [])) : ∀ (n : Nat) (x1 : Int32) (x2 : Int32) (x4 : Int32) (x6 : Int32) (σ : gS) (H : Heap) (locs : List Loc) (ls : Array Slot), f_X10_fit_136 K_72 n x1 x2 x4 x6 σ = some r → gI shM t ad D s.heap σ H locs → lv_has ls 7 [(0, .ref (ad 0)), (1, .int x1), (2, .int x2), (4, .int x4), (6, .int x6)] → W p l e (gR 6 171) s m args below meth c H locs 0 0 (MQ below (gQi shM t ad D r.1 r.2) args s 0 0 (gA shM ad)) (F0 m 136 ls []) := by
  have hx := C.1
  have hb := C.2.1
  intro n
  induction n with
  | zero =>
    intro x1 x2 x4 x6 σ H locs ls  h
    exact absurd h (by simp [f_X10_fit_136])
  | succ n ih =>
    intro x1 x2 x4 x6 σ H locs ls  h hI hl
    unfold f_X10_fit_136 at h
    refine lv_iload hx hb dX10_fit_136 (lv_at hl 4 rfl) ?_
    refine lv_aload_n hx hb dX10_fit_138 rfl (lv_at hl 0 rfl) ?_
    refine fg_1061 C hI shM_0 rfl dX10_fit_139 ?_
    refine hicmp_ge (tgt := 165) C dX10_fit_142 (by decide) h (fun h => ?_) (fun h => ?_)
    · exact w_X10_fit_165 C hr   _ hK_72 _ _ _ _ _ _ _  h hI (lv_sub hl [0, 1, 2, 3] rfl)
    · refine lv_aload_n hx hb dX10_fit_145 rfl (lv_at hl 0 rfl) ?_
      refine fr_1114 C hI shM_0 rfl dX10_fit_146 ?_
      refine lv_iload hx hb dX10_fit_149 (lv_at hl 4 rfl) ?_
      refine lv_aload_n hx hb dX10_fit_151 rfl (lv_at hl 0 rfl) ?_
      refine fr_1113 C hI shM_0 rfl dX10_fit_152 ?_
      refine lv_iload hx hb dX10_fit_155 (lv_at hl 4 rfl) ?_
      refine gx_iald C hI shM_33 h dX10_fit_157 (fun h => ?_)
      refine gx_iast C hI shM_34 h dX10_fit_158 (fun H locs h hI => ?_)
      refine gx_st h hI (fun s1 h hI => ?_)
      refine h_iinc C hl dX10_fit_159 4 rfl ci_1 h (by decide) (lvf := fun v2 => [(6, .int v2), (0, .ref (ad 0)), (1, .int x1), (2, .int x2), (4, .int x4)]) (fun _ => rfl) (fun v2 ls h hl => ?_)
      refine lv_goto (tgt := 136) hx hb dX10_fit_162 (by decide) ?_
      exact ih _ _ _ _ _ _ _ _  h hI (lv_sub hl [1, 2, 3, 4, 0] rfl)
set_option maxRecDepth 100000 in
set_option maxHeartbeats 4000000 in
theorem w_X10_fit_88 {p : Program} {l : Launch} {e : Env} {s : State} {m : MethodId} {args : Array Value} {below : List Frame} {meth : Method} {c : Code} {D : va_G} {t : gT} {ad z : Nat → Nat} (C : gC p s m args meth c cX10_fit 7 "NineKeysRoundModel" D t shM ad z) (hr : meth.sig.returnType = some .int) {r : Int32 × gS} (K_72 : Int32 → Int32 → Int32 → Int32 → gS → Option (Int32 × gS)) (hK_72 : ∀ (x1 : Int32) (x2 : Int32) (x4 : Int32) (x5 : Int32) (σ : gS) (H : Heap) (locs : List Loc) (ls : Array Slot), K_72 x1 x2 x4 x5 σ = some r → gI shM t ad D s.heap σ H locs → lv_has ls 7 [(0, .ref (ad 0)), (1, .int x1), (2, .int x2), (4, .int x4), (5, .int x5)] → W p l e (gR 6 171) s m args below meth c H locs 0 0 (MQ below (gQi shM t ad D r.1 r.2) args s 0 0 (gA shM ad)) (F0 m 72 ls [])) : ∀ (n : Nat) (x1 : Int32) (x2 : Int32) (x4 : Int32) (x6 : Int32) (σ : gS) (H : Heap) (locs : List Loc) (ls : Array Slot), f_X10_fit_88 K_72 n x1 x2 x4 x6 σ = some r → gI shM t ad D s.heap σ H locs → lv_has ls 7 [(0, .ref (ad 0)), (1, .int x1), (2, .int x2), (4, .int x4), (6, .int x6)] → W p l e (gR 6 171) s m args below meth c H locs 0 0 (MQ below (gQi shM t ad D r.1 r.2) args s 0 0 (gA shM ad)) (F0 m 88 ls []) := by
  have hx := C.1
  have hb := C.2.1
  intro n
  induction n with
  | zero =>
    intro x1 x2 x4 x6 σ H locs ls  h
    exact absurd h (by simp [f_X10_fit_88])
  | succ n ih =>
    intro x1 x2 x4 x6 σ H locs ls  h hI hl
    unfold f_X10_fit_88 at h
    refine lv_iload hx hb dX10_fit_88 (lv_at hl 4 rfl) ?_
    refine lv_aload_n hx hb dX10_fit_90 rfl (lv_at hl 0 rfl) ?_
    refine fg_1061 C hI shM_0 rfl dX10_fit_91 ?_
    refine hicmp_ge (tgt := 117) C dX10_fit_94 (by decide) h (fun h => ?_) (fun h => ?_)
    · refine lv_aload_n hx hb dX10_fit_117 rfl (lv_at hl 0 rfl) ?_
      refine lv_iload_n hx hb dX10_fit_118 rfl (lv_at hl 1 rfl) ?_
      refine h_callvi_w (rest := []) C hI hl.1 shM_0 rfl yv_X10_isPaper k_1535 h (fun q hq => c_X10_isPaper l D t ad z C.2.2.2.2.2.2.1 (σ) x1 q hq) (As := [.int x1]) rfl rfl ⟨Nat.le_of_ble_eq_true rfl, Nat.le_of_ble_eq_true rfl⟩ (Nat.le_of_ble_eq_true rfl) dX10_fit_119 (fun q1 H locs h hI => ?_)
      refine hif_eq (tgt := 165) C dX10_fit_122 (by decide) h (fun h => ?_) (fun h => ?_)
      · exact w_X10_fit_165 C hr   _ hK_72 _ _ _ _ _ _ _  h hI (lv_sub hl [0, 1, 2, 3] rfl)
      · refine lv_iload hx hb dX10_fit_125 (lv_at hl 3 rfl) ?_
        refine h_iinc C hl dX10_fit_127 3 rfl ci_1 h (by decide) (lvf := fun v2 => [(4, .int v2), (0, .ref (ad 0)), (1, .int x1), (2, .int x2), (6, .int x6)]) (fun _ => rfl) (fun v2 ls h hl => ?_)
        refine hif_ne (tgt := 165) C dX10_fit_130 (by decide) h (fun h => ?_) (fun h => ?_)
        · exact w_X10_fit_165 C hr   _ hK_72 _ _ _ _ _ _ _  h hI (lv_sub hl [1, 2, 3, 0] rfl)
        · refine lv_iconst hx hb dX10_fit_133 ci_0 ?_
          refine lv_istore (lv' := [(6, .int 0), (4, .int v2), (0, .ref (ad 0)), (1, .int x1), (2, .int x2)]) hx hb dX10_fit_134 hl (by decide) rfl (fun ls hl => ?_)
          exact w_X10_fit_136 C hr   _ hK_72 _ _ _ _ _ _ _ _ _  h hI (lv_sub hl [2, 3, 4, 1, 0] rfl)
    · refine lv_aload_n hx hb dX10_fit_97 rfl (lv_at hl 0 rfl) ?_
      refine fr_1106 C hI shM_0 rfl dX10_fit_98 ?_
      refine lv_iload hx hb dX10_fit_101 (lv_at hl 4 rfl) ?_
      refine lv_aload_n hx hb dX10_fit_103 rfl (lv_at hl 0 rfl) ?_
      refine fr_1113 C hI shM_0 rfl dX10_fit_104 ?_
      refine lv_iload hx hb dX10_fit_107 (lv_at hl 4 rfl) ?_
      refine gx_iald C hI shM_33 h dX10_fit_109 (fun h => ?_)
      refine gx_iast C hI shM_27 h dX10_fit_110 (fun H locs h hI => ?_)
      refine gx_st h hI (fun s3 h hI => ?_)
      refine h_iinc C hl dX10_fit_111 4 rfl ci_1 h (by decide) (lvf := fun v4 => [(6, .int v4), (0, .ref (ad 0)), (1, .int x1), (2, .int x2), (4, .int x4)]) (fun _ => rfl) (fun v4 ls h hl => ?_)
      refine lv_goto (tgt := 88) hx hb dX10_fit_114 (by decide) ?_
      exact ih _ _ _ _ _ _ _ _  h hI (lv_sub hl [1, 2, 3, 4, 0] rfl)
set_option maxRecDepth 100000 in
set_option maxHeartbeats 4000000 in
theorem w_X10_fit_72 {p : Program} {l : Launch} {e : Env} {s : State} {m : MethodId} {args : Array Value} {below : List Frame} {meth : Method} {c : Code} {D : va_G} {t : gT} {ad z : Nat → Nat} (C : gC p s m args meth c cX10_fit 7 "NineKeysRoundModel" D t shM ad z) (hr : meth.sig.returnType = some .int) {r : Int32 × gS} : ∀ (n : Nat) (x1 : Int32) (x2 : Int32) (x4 : Int32) (x5 : Int32) (σ : gS) (H : Heap) (locs : List Loc) (ls : Array Slot), f_X10_fit_72 n x1 x2 x4 x5 σ = some r → gI shM t ad D s.heap σ H locs → lv_has ls 7 [(0, .ref (ad 0)), (1, .int x1), (2, .int x2), (4, .int x4), (5, .int x5)] → W p l e (gR 6 171) s m args below meth c H locs 0 0 (MQ below (gQi shM t ad D r.1 r.2) args s 0 0 (gA shM ad)) (F0 m 72 ls []) := by
  have hx := C.1
  have hb := C.2.1
  intro n
  induction n with
  | zero =>
    intro x1 x2 x4 x5 σ H locs ls  h
    exact absurd h (by simp [f_X10_fit_72])
  | succ n ih =>
    intro x1 x2 x4 x5 σ H locs ls  h hI hl
    unfold f_X10_fit_72 at h
    refine lv_iload hx hb dX10_fit_72 (lv_at hl 4 rfl) ?_
    refine hif_eq (tgt := 178) C dX10_fit_74 (by decide) h (fun h => ?_) (fun h => ?_)
    · refine lv_iload_n hx hb dX10_fit_178 rfl (lv_at hl 2 rfl) ?_
      refine lv_iconst hx hb dX10_fit_179 ci_m1 ?_
      refine hicmp_ne (tgt := 188) C dX10_fit_180 (by decide) h (fun h => ?_) (fun h => ?_)
      · refine lv_iload hx hb dX10_fit_188 (lv_at hl 3 rfl) ?_
        refine hif_le (tgt := 210) C dX10_fit_190 (by decide) h (fun h => ?_) (fun h => ?_)
        · refine lv_bipush hx hb dX10_fit_210 cb_m2 ?_
          exact h_iret_w C hr hI h dX10_fit_212
        · refine lv_iload_n hx hb dX10_fit_193 rfl (lv_at hl 2 rfl) ?_
          refine lv_aload_n hx hb dX10_fit_194 rfl (lv_at hl 0 rfl) ?_
          refine fg_1061 C hI shM_0 rfl dX10_fit_195 ?_
          refine hicmp_ge (tgt := 210) C dX10_fit_198 (by decide) h (fun h => ?_) (fun h => ?_)
          · refine lv_bipush hx hb dX10_fit_210 cb_m2 ?_
            exact h_iret_w C hr hI h dX10_fit_212
          · refine lv_aload_n hx hb dX10_fit_201 rfl (lv_at hl 0 rfl) ?_
            refine fr_1114 C hI shM_0 rfl dX10_fit_202 ?_
            refine lv_iload_n hx hb dX10_fit_205 rfl (lv_at hl 2 rfl) ?_
            refine gx_iald C hI shM_34 h dX10_fit_206 (fun h => ?_)
            refine lv_goto (tgt := 212) hx hb dX10_fit_207 (by decide) ?_
            exact h_iret_w C hr hI h dX10_fit_212
      · refine lv_iload hx hb dX10_fit_183 (lv_at hl 3 rfl) ?_
        refine lv_goto (tgt := 212) hx hb dX10_fit_185 (by decide) ?_
        exact h_iret_w C hr hI h dX10_fit_212
    · refine lv_aload_n hx hb dX10_fit_77 rfl (lv_at hl 0 rfl) ?_
      refine lv_aload_n hx hb dX10_fit_78 rfl (lv_at hl 0 rfl) ?_
      refine fg_1061 C hI shM_0 rfl dX10_fit_79 ?_
      refine fp_1105 C hI shM_0 rfl dX10_fit_82 (fun H locs hI => ?_)
      refine gx_st h hI (fun s1 h hI => ?_)
      refine lv_iconst hx hb dX10_fit_85 ci_0 ?_
      refine lv_istore (lv' := [(6, .int 0), (0, .ref (ad 0)), (1, .int x1), (2, .int x2), (4, .int x4), (5, .int x5)]) hx hb dX10_fit_86 hl (by decide) rfl (fun ls hl => ?_)
      exact w_X10_fit_88 C hr   _ ih _ _ _ _ _ _ _ _ _  h hI (lv_sub hl [1, 2, 3, 4, 0] rfl)
set_option maxRecDepth 100000 in
set_option maxHeartbeats 4000000 in
theorem w_X10_fit_42 {p : Program} {l : Launch} {e : Env} {s : State} {m : MethodId} {args : Array Value} {below : List Frame} {meth : Method} {c : Code} {D : va_G} {t : gT} {ad z : Nat → Nat} (C : gC p s m args meth c cX10_fit 7 "NineKeysRoundModel" D t shM ad z) (hr : meth.sig.returnType = some .int) {r : Int32 × gS} : ∀ (n : Nat) (x1 : Int32) (x2 : Int32) (x4 : Int32) (σ : gS) (H : Heap) (locs : List Loc) (ls : Array Slot), f_X10_fit_42 n x1 x2 x4 σ = some r → gI shM t ad D s.heap σ H locs → lv_has ls 7 [(0, .ref (ad 0)), (1, .int x1), (2, .int x2), (4, .int x4)] → W p l e (gR 6 171) s m args below meth c H locs 0 0 (MQ below (gQi shM t ad D r.1 r.2) args s 0 0 (gA shM ad)) (F0 m 42 ls []) := by
  have hx := C.1
  have hb := C.2.1
  intro n
  induction n with
  | zero =>
    intro x1 x2 x4 σ H locs ls  h
    exact absurd h (by simp [f_X10_fit_42])
  | succ n ih =>
    intro x1 x2 x4 σ H locs ls  h hI hl
    unfold f_X10_fit_42 at h
    refine lv_iload hx hb dX10_fit_42 (lv_at hl 3 rfl) ?_
    refine lv_aload_n hx hb dX10_fit_44 rfl (lv_at hl 0 rfl) ?_
    refine fg_1061 C hI shM_0 rfl dX10_fit_45 ?_
    refine hicmp_ge (tgt := 66) C dX10_fit_48 (by decide) h (fun h => ?_) (fun h => ?_)
    · refine lv_iconst hx hb dX10_fit_66 ci_0 ?_
      refine lv_istore (lv' := [(4, .int 0), (0, .ref (ad 0)), (1, .int x1), (2, .int x2)]) hx hb dX10_fit_67 hl (by decide) rfl (fun ls hl => ?_)
      refine lv_iconst hx hb dX10_fit_69 ci_1 ?_
      refine lv_istore (lv' := [(5, .int 1), (4, .int 0), (0, .ref (ad 0)), (1, .int x1), (2, .int x2)]) hx hb dX10_fit_70 hl (by decide) rfl (fun ls hl => ?_)
      exact w_X10_fit_72 C hr    _ _ _ _ _ _ _ _ _  h hI (lv_sub hl [2, 3, 4, 1, 0] rfl)
    · refine lv_aload_n hx hb dX10_fit_51 rfl (lv_at hl 0 rfl) ?_
      refine fr_1113 C hI shM_0 rfl dX10_fit_52 ?_
      refine lv_iload hx hb dX10_fit_55 (lv_at hl 3 rfl) ?_
      refine lv_iload hx hb dX10_fit_57 (lv_at hl 3 rfl) ?_
      refine gx_iast C hI shM_33 h dX10_fit_59 (fun H locs h hI => ?_)
      refine gx_st h hI (fun s1 h hI => ?_)
      refine h_iinc C hl dX10_fit_60 3 rfl ci_1 h (by decide) (lvf := fun v2 => [(4, .int v2), (0, .ref (ad 0)), (1, .int x1), (2, .int x2)]) (fun _ => rfl) (fun v2 ls h hl => ?_)
      refine lv_goto (tgt := 42) hx hb dX10_fit_63 (by decide) ?_
      exact ih _ _ _ _ _ _ _  h hI (lv_sub hl [1, 2, 3, 0] rfl)
set_option maxRecDepth 100000 in
set_option maxHeartbeats 4000000 in
theorem c_X10_fit (l : Launch) (D : va_G) (t : gT) (ad z : Nat → Nat) (hJ : gJ shM ad) (σ : gS) (x1 : Int32) (x2 : Int32) (q : Int32 × gS) (h : f_X10_fit σ x1 x2 = some q) : Met l yX10_fit (Cond.code yX10_fit cX10_fit 7 (some .int) :: lw_tb) (gR 6 171) (gPc shM t ad D z [.ref (ad 0), .int x1, .int x2] σ) (gQi shM t ad D q.1 q.2) 0 0 (gA shM ad) := by
  refine gMet "NineKeysRoundModel" rfl (by decide) hJ (Nat.le_of_ble_eq_true rfl) ?_
  intro p e s m below meth c ls C hr hI hl
  have hx := C.1
  have hb := C.2.1
  have hl : lv_has ls 7 [(0, .ref (ad 0)), (1, .int x1), (2, .int x2)] := hl
  unfold f_X10_fit at h
  refine lv_iload_n hx hb dX10_fit_0 rfl (lv_at hl 1 rfl) ?_
  refine h_callsi_o (rest := []) C hI hl.1 ys_X10_isShelf k_1237 h (fun q hq => c_X10_isShelf l D t ad z C.2.2.2.2.2.2.1 (σ) x1 q hq) (As := [.int x1]) rfl rfl ⟨Nat.le_of_ble_eq_true rfl, Nat.le_of_ble_eq_true rfl⟩ (Nat.le_of_ble_eq_true rfl) dX10_fit_1 (fun q1 H locs h hI => ?_)
  refine hif_eq (tgt := 12) C dX10_fit_4 (by decide) h (fun h => ?_) (fun h => ?_)
  · refine lv_iconst hx hb dX10_fit_12 ci_m1 ?_
    exact h_iret_w C hr hI h dX10_fit_13
  · refine lv_iload_n hx hb dX10_fit_7 rfl (lv_at hl 2 rfl) ?_
    refine lv_iconst hx hb dX10_fit_8 ci_m1 ?_
    refine hicmp_ge (tgt := 14) C dX10_fit_9 (by decide) h (fun h => ?_) (fun h => ?_)
    · refine lv_aload_n hx hb dX10_fit_14 rfl (lv_at hl 0 rfl) ?_
      refine lv_iload_n hx hb dX10_fit_15 rfl (lv_at hl 1 rfl) ?_
      refine lv_iconst hx hb dX10_fit_16 ci_1 ?_
      refine h_callvi_o (rest := []) C hI hl.1 shM_0 rfl yv_X10_noRow k_1338 h (fun q hq => c_X10_noRow l D t ad z C.2.2.2.2.2.2.1 (σ) x1 1 q hq) (As := [.int x1, .int 1]) rfl rfl ⟨Nat.le_of_ble_eq_true rfl, Nat.le_of_ble_eq_true rfl⟩ (Nat.le_of_ble_eq_true rfl) dX10_fit_17 (fun q2 H locs h hI => ?_)
      refine lv_istore_n (lv' := [(3, .int q2), (0, .ref (ad 0)), (1, .int x1), (2, .int x2)]) hx hb dX10_fit_20 rfl hl (by decide) rfl (fun ls hl => ?_)
      refine lv_iload_n hx hb dX10_fit_21 rfl (lv_at hl 0 rfl) ?_
      refine hif_ge (tgt := 27) C dX10_fit_22 (by decide) h (fun h => ?_) (fun h => ?_)
      · refine lv_aload_n hx hb dX10_fit_27 rfl (lv_at hl 1 rfl) ?_
        refine fg_1061 C hI shM_0 rfl dX10_fit_28 ?_
        refine lv_bipush hx hb dX10_fit_31 cb_6 ?_
        refine hicmp_le (tgt := 39) C dX10_fit_33 (by decide) h (fun h => ?_) (fun h => ?_)
        · refine lv_iconst hx hb dX10_fit_39 ci_0 ?_
          refine lv_istore (lv' := [(4, .int 0), (3, .int q2), (0, .ref (ad 0)), (1, .int x1), (2, .int x2)]) hx hb dX10_fit_40 hl (by decide) rfl (fun ls hl => ?_)
          exact w_X10_fit_42 C hr    _ _ _ _ _ _ _ _  h hI (lv_sub hl [2, 3, 4, 0] rfl)
        · refine lv_bipush hx hb dX10_fit_36 cb_m5 ?_
          exact h_iret_w C hr hI h dX10_fit_38
      · refine lv_iload_n hx hb dX10_fit_25 rfl (lv_at hl 0 rfl) ?_
        exact h_iret_w C hr hI h dX10_fit_26
    · refine lv_iconst hx hb dX10_fit_12 ci_m1 ?_
      exact h_iret_w C hr hI h dX10_fit_13
set_option maxRecDepth 100000 in
set_option maxHeartbeats 4000000 in
theorem c_X10_apartFrom (l : Launch) (D : va_G) (t : gT) (ad z : Nat → Nat) (hJ : gJ shM ad) (σ : gS) (x1 : Int32) (x2 : Int32) (q : Int32) (h : f_X10_apartFrom σ x1 x2 = some q) : Met l yX10_apartFrom (Cond.code yX10_apartFrom cX10_apartFrom 3 (some .int) :: lw_tb) (gR 2 81) (gPc shM t ad D z [.ref (ad 0), .int x1, .int x2] σ) (gQi shM t ad D q σ) 0 0 (gA shM ad) := by
  refine gMet "NineKeysRoundModel" rfl (by decide) hJ (Nat.le_of_ble_eq_true rfl) ?_
  intro p e s m below meth c ls C hr hI hl
  have hx := C.1
  have hb := C.2.1
  have hl : lv_has ls 3 [(0, .ref (ad 0)), (1, .int x1), (2, .int x2)] := hl
  unfold f_X10_apartFrom at h
  refine lv_aload_n hx hb dX10_apartFrom_0 rfl (lv_at hl 0 rfl) ?_
  refine lv_iload_n hx hb dX10_apartFrom_1 rfl (lv_at hl 1 rfl) ?_
  refine h_callvi_o (rest := []) C hI hl.1 shM_0 rfl yv_X10_xOf k_1362 h (fun q hq => c_X10_xOf l D t ad z C.2.2.2.2.2.2.1 (σ) x1 q hq) (As := [.int x1]) rfl rfl ⟨Nat.le_of_ble_eq_true rfl, Nat.le_of_ble_eq_true rfl⟩ (Nat.le_of_ble_eq_true rfl) dX10_apartFrom_2 (fun q1 H locs h hI => ?_)
  refine lv_iload_n hx hb dX10_apartFrom_5 rfl (lv_at hl 2 rfl) ?_
  refine lv_bipush hx hb dX10_apartFrom_6 cb_16 ?_
  refine h_irem C dX10_apartFrom_8 h (fun h => ?_)
  refine lv_isub hx hb dX10_apartFrom_9 ?_
  refine h_mabs C hl.1 k_1366 ⟨Nat.le_of_ble_eq_true rfl, Nat.le_of_ble_eq_true rfl⟩ ⟨Nat.zero_le _, Nat.zero_le _⟩ dX10_apartFrom_10 ?_
  refine lv_aload_n hx hb dX10_apartFrom_13 rfl (lv_at hl 0 rfl) ?_
  refine lv_iload_n hx hb dX10_apartFrom_14 rfl (lv_at hl 1 rfl) ?_
  refine h_callvi_o (rest := [.int (jabs (q1 - (x2 - x2 / 16 * 16)))]) C hI hl.1 shM_0 rfl yv_X10_yOf k_1367 h (fun q hq => c_X10_yOf l D t ad z C.2.2.2.2.2.2.1 (σ) x1 q hq) (As := [.int x1]) rfl rfl ⟨Nat.le_of_ble_eq_true rfl, Nat.le_of_ble_eq_true rfl⟩ (Nat.le_of_ble_eq_true rfl) dX10_apartFrom_15 (fun q2 H locs h hI => ?_)
  refine lv_iload_n hx hb dX10_apartFrom_18 rfl (lv_at hl 2 rfl) ?_
  refine lv_bipush hx hb dX10_apartFrom_19 cb_16 ?_
  refine h_idiv C dX10_apartFrom_21 h (fun h => ?_)
  refine lv_isub hx hb dX10_apartFrom_22 ?_
  refine h_mabs C hl.1 k_1366 ⟨Nat.le_of_ble_eq_true rfl, Nat.le_of_ble_eq_true rfl⟩ ⟨Nat.zero_le _, Nat.zero_le _⟩ dX10_apartFrom_23 ?_
  refine lv_iadd hx hb dX10_apartFrom_26 ?_
  exact h_iret_o C hr hI h dX10_apartFrom_27
set_option maxRecDepth 100000 in
set_option maxHeartbeats 4000000 in
theorem w_X10_nearest_4 {p : Program} {l : Launch} {e : Env} {s : State} {m : MethodId} {args : Array Value} {below : List Frame} {meth : Method} {c : Code} {D : va_G} {t : gT} {ad z : Nat → Nat} {σ : gS} (C : gC p s m args meth c cX10_nearest 4 "NineKeysRoundModel" D t shM ad z) (hr : meth.sig.returnType = some .int) {r : Int32} : ∀ (n : Nat) (x1 : Int32) (x2 : Int32) (x3 : Int32) (H : Heap) (locs : List Loc) (ls : Array Slot), f_X10_nearest_4 σ n x1 x2 x3 = some r → gI shM t ad D s.heap σ H locs → lv_has ls 4 [(0, .ref (ad 0)), (1, .int x1), (2, .int x2), (3, .int x3)] → W p l e (gR 3 103) s m args below meth c H locs 0 0 (MQ below (gQi shM t ad D r σ) args s 0 0 (gA shM ad)) (F0 m 4 ls []) := by
  have hx := C.1
  have hb := C.2.1
  intro n
  induction n with
  | zero =>
    intro x1 x2 x3 H locs ls  h
    exact absurd h (by simp [f_X10_nearest_4])
  | succ n ih =>
    intro x1 x2 x3 H locs ls  h hI hl
    unfold f_X10_nearest_4 at h
    refine lv_iload_n hx hb dX10_nearest_4 rfl (lv_at hl 3 rfl) ?_
    refine lv_aload_n hx hb dX10_nearest_5 rfl (lv_at hl 0 rfl) ?_
    refine fg_1061 C hI shM_0 rfl dX10_nearest_6 ?_
    refine hicmp_ge (tgt := 42) C dX10_nearest_9 (by decide) h (fun h => ?_) (fun h => ?_)
    · refine lv_iload_n hx hb dX10_nearest_42 rfl (lv_at hl 2 rfl) ?_
      exact h_iret_o C hr hI h dX10_nearest_43
    · refine lv_iload_n hx hb dX10_nearest_12 rfl (lv_at hl 3 rfl) ?_
      refine hif_ne (tgt := 25) C dX10_nearest_13 (by decide) h (fun h => ?_) (fun h => ?_)
      · refine lv_iload_n hx hb dX10_nearest_25 rfl (lv_at hl 2 rfl) ?_
        refine lv_aload_n hx hb dX10_nearest_26 rfl (lv_at hl 0 rfl) ?_
        refine lv_iload_n hx hb dX10_nearest_27 rfl (lv_at hl 3 rfl) ?_
        refine lv_iload_n hx hb dX10_nearest_28 rfl (lv_at hl 1 rfl) ?_
        refine h_callvi_o (rest := [.int x2]) C hI hl.1 shM_0 rfl yv_X10_apartFrom k_1547 h (fun q hq => c_X10_apartFrom l D t ad z C.2.2.2.2.2.2.1 (σ) x3 x1 q hq) (As := [.int x3, .int x1]) rfl rfl ⟨Nat.le_of_ble_eq_true rfl, Nat.le_of_ble_eq_true rfl⟩ (Nat.le_of_ble_eq_true rfl) dX10_nearest_29 (fun q1 H locs h hI => ?_)
        refine h_mmin C hl.1 k_1411 ⟨Nat.le_of_ble_eq_true rfl, Nat.le_of_ble_eq_true rfl⟩ ⟨Nat.zero_le _, Nat.zero_le _⟩ dX10_nearest_32 ?_
        refine gx_topi h (fun v2 h => ?_)
        refine lv_istore_n (lv' := [(2, .int v2), (0, .ref (ad 0)), (1, .int x1), (3, .int x3)]) hx hb dX10_nearest_35 rfl hl (by decide) rfl (fun ls hl => ?_)
        refine h_iinc C hl dX10_nearest_36 3 rfl ci_1 h (by decide) (lvf := fun v3 => [(3, .int v3), (2, .int v2), (0, .ref (ad 0)), (1, .int x1)]) (fun _ => rfl) (fun v3 ls h hl => ?_)
        refine lv_goto (tgt := 4) hx hb dX10_nearest_39 (by decide) ?_
        exact ih _ _ _ _ _ _  h hI (lv_sub hl [2, 3, 1, 0] rfl)
      · refine lv_aload_n hx hb dX10_nearest_16 rfl (lv_at hl 0 rfl) ?_
        refine lv_iload_n hx hb dX10_nearest_17 rfl (lv_at hl 3 rfl) ?_
        refine lv_iload_n hx hb dX10_nearest_18 rfl (lv_at hl 1 rfl) ?_
        refine h_callvi_o (rest := []) C hI hl.1 shM_0 rfl yv_X10_apartFrom k_1547 h (fun q hq => c_X10_apartFrom l D t ad z C.2.2.2.2.2.2.1 (σ) x3 x1 q hq) (As := [.int x3, .int x1]) rfl rfl ⟨Nat.le_of_ble_eq_true rfl, Nat.le_of_ble_eq_true rfl⟩ (Nat.le_of_ble_eq_true rfl) dX10_nearest_19 (fun q4 H locs h hI => ?_)
        refine lv_goto (tgt := 35) hx hb dX10_nearest_22 (by decide) ?_
        refine lv_istore_n (lv' := [(2, .int q4), (0, .ref (ad 0)), (1, .int x1), (3, .int x3)]) hx hb dX10_nearest_35 rfl hl (by decide) rfl (fun ls hl => ?_)
        refine h_iinc C hl dX10_nearest_36 3 rfl ci_1 h (by decide) (lvf := fun v5 => [(3, .int v5), (2, .int q4), (0, .ref (ad 0)), (1, .int x1)]) (fun _ => rfl) (fun v5 ls h hl => ?_)
        refine lv_goto (tgt := 4) hx hb dX10_nearest_39 (by decide) ?_
        exact ih _ _ _ _ _ _  h hI (lv_sub hl [2, 3, 1, 0] rfl)
set_option maxRecDepth 100000 in
set_option maxHeartbeats 4000000 in
theorem c_X10_nearest (l : Launch) (D : va_G) (t : gT) (ad z : Nat → Nat) (hJ : gJ shM ad) (σ : gS) (x1 : Int32) (q : Int32) (h : f_X10_nearest σ x1 = some q) : Met l yX10_nearest (Cond.code yX10_nearest cX10_nearest 4 (some .int) :: lw_tb) (gR 3 103) (gPc shM t ad D z [.ref (ad 0), .int x1] σ) (gQi shM t ad D q σ) 0 0 (gA shM ad) := by
  refine gMet "NineKeysRoundModel" rfl (by decide) hJ (Nat.le_of_ble_eq_true rfl) ?_
  intro p e s m below meth c ls C hr hI hl
  have hx := C.1
  have hb := C.2.1
  have hl : lv_has ls 4 [(0, .ref (ad 0)), (1, .int x1)] := hl
  unfold f_X10_nearest at h
  refine lv_iconst hx hb dX10_nearest_0 ci_0 ?_
  refine lv_istore_n (lv' := [(2, .int 0), (0, .ref (ad 0)), (1, .int x1)]) hx hb dX10_nearest_1 rfl hl (by decide) rfl (fun ls hl => ?_)
  refine lv_iconst hx hb dX10_nearest_2 ci_0 ?_
  refine lv_istore_n (lv' := [(3, .int 0), (2, .int 0), (0, .ref (ad 0)), (1, .int x1)]) hx hb dX10_nearest_3 rfl hl (by decide) rfl (fun ls hl => ?_)
  exact w_X10_nearest_4 C hr    _ _ _ _ _ _ _  h hI (lv_sub hl [2, 3, 1, 0] rfl)
set_option maxRecDepth 100000 in
set_option maxHeartbeats 4000000 in
theorem w_X10_hang_29 {p : Program} {l : Launch} {e : Env} {s : State} {m : MethodId} {args : Array Value} {below : List Frame} {meth : Method} {c : Code} {D : va_G} {t : gT} {ad z : Nat → Nat} {σ : gS} (C : gC p s m args meth c cX10_hang 6 "NineKeysRoundModel" D t shM ad z) (hr : meth.sig.returnType = some .int) {r : Int32} : ∀ (n : Nat) (x1 : Int32) (x2 : Int32) (x3 : Int32) (x4 : Int32) (x5 : Int32) (H : Heap) (locs : List Loc) (ls : Array Slot), f_X10_hang_29 σ n x1 x2 x3 x4 x5 = some r → gI shM t ad D s.heap σ H locs → lv_has ls 6 [(0, .ref (ad 0)), (1, .int x1), (2, .int x2), (3, .int x3), (4, .int x4), (5, .int x5)] → W p l e (gR 4 126) s m args below meth c H locs 0 0 (MQ below (gQi shM t ad D r σ) args s 0 0 (gA shM ad)) (F0 m 29 ls []) := by
  have hx := C.1
  have hb := C.2.1
  intro n
  induction n with
  | zero =>
    intro x1 x2 x3 x4 x5 H locs ls  h
    exact absurd h (by simp [f_X10_hang_29])
  | succ n ih =>
    intro x1 x2 x3 x4 x5 H locs ls  h hI hl
    unfold f_X10_hang_29 at h
    refine lv_iload hx hb dX10_hang_29 (lv_at hl 5 rfl) ?_
    refine lv_sipush hx hb dX10_hang_31 cs_256 ?_
    refine hicmp_ge (tgt := 79) C dX10_hang_34 (by decide) h (fun h => ?_) (fun h => ?_)
    · refine lv_iload_n hx hb dX10_hang_79 rfl (lv_at hl 2 rfl) ?_
      refine hif_ne (tgt := 87) C dX10_hang_80 (by decide) h (fun h => ?_) (fun h => ?_)
      · refine lv_iload hx hb dX10_hang_87 (lv_at hl 4 rfl) ?_
        exact h_iret_o C hr hI h dX10_hang_89
      · refine lv_iload_n hx hb dX10_hang_83 rfl (lv_at hl 3 rfl) ?_
        refine lv_goto (tgt := 89) hx hb dX10_hang_84 (by decide) ?_
        exact h_iret_o C hr hI h dX10_hang_89
    · refine lv_aload_n hx hb dX10_hang_37 rfl (lv_at hl 0 rfl) ?_
      refine lv_iconst hx hb dX10_hang_38 ci_m1 ?_
      refine lv_iload hx hb dX10_hang_39 (lv_at hl 5 rfl) ?_
      refine h_callvi_o (rest := []) C hI hl.1 shM_0 rfl yv_X10_apartFrom k_1547 h (fun q hq => c_X10_apartFrom l D t ad z C.2.2.2.2.2.2.1 (σ) (-1) x5 q hq) (As := [.int (-1), .int x5]) rfl rfl ⟨Nat.le_of_ble_eq_true rfl, Nat.le_of_ble_eq_true rfl⟩ (Nat.le_of_ble_eq_true rfl) dX10_hang_41 (fun q1 H locs h hI => ?_)
      refine lv_iload_n hx hb dX10_hang_44 rfl (lv_at hl 1 rfl) ?_
      refine hicmp_gt (tgt := 73) C dX10_hang_45 (by decide) h (fun h => ?_) (fun h => ?_)
      · refine h_iinc C hl dX10_hang_73 5 rfl ci_1 h (by decide) (lvf := fun v2 => [(5, .int v2), (0, .ref (ad 0)), (1, .int x1), (2, .int x2), (3, .int x3), (4, .int x4)]) (fun _ => rfl) (fun v2 ls h hl => ?_)
        refine lv_goto (tgt := 29) hx hb dX10_hang_76 (by decide) ?_
        exact ih _ _ _ _ _ _ _ _  h hI (lv_sub hl [1, 2, 3, 4, 5, 0] rfl)
      · refine lv_aload_n hx hb dX10_hang_48 rfl (lv_at hl 0 rfl) ?_
        refine lv_iload hx hb dX10_hang_49 (lv_at hl 5 rfl) ?_
        refine h_callvi_o (rest := []) C hI hl.1 shM_0 rfl yv_X10_nearest k_1551 h (fun q hq => c_X10_nearest l D t ad z C.2.2.2.2.2.2.1 (σ) x5 q hq) (As := [.int x5]) rfl rfl ⟨Nat.le_of_ble_eq_true rfl, Nat.le_of_ble_eq_true rfl⟩ (Nat.le_of_ble_eq_true rfl) dX10_hang_51 (fun q3 H locs h hI => ?_)
        refine lv_iload hx hb dX10_hang_54 (lv_at hl 4 rfl) ?_
        refine hicmp_gt (tgt := 62) C dX10_hang_56 (by decide) h (fun h => ?_) (fun h => ?_)
        · refine lv_aload_n hx hb dX10_hang_62 rfl (lv_at hl 0 rfl) ?_
          refine lv_iload hx hb dX10_hang_63 (lv_at hl 5 rfl) ?_
          refine h_callvi_o (rest := []) C hI hl.1 shM_0 rfl yv_X10_nearest k_1551 h (fun q hq => c_X10_nearest l D t ad z C.2.2.2.2.2.2.1 (σ) x5 q hq) (As := [.int x5]) rfl rfl ⟨Nat.le_of_ble_eq_true rfl, Nat.le_of_ble_eq_true rfl⟩ (Nat.le_of_ble_eq_true rfl) dX10_hang_65 (fun q4 H locs h hI => ?_)
          refine lv_istore (lv' := [(4, .int q4), (0, .ref (ad 0)), (1, .int x1), (2, .int x2), (3, .int x3), (5, .int x5)]) hx hb dX10_hang_68 hl (by decide) rfl (fun ls hl => ?_)
          refine lv_iload hx hb dX10_hang_70 (lv_at hl 5 rfl) ?_
          refine lv_istore_n (lv' := [(3, .int x5), (4, .int q4), (0, .ref (ad 0)), (1, .int x1), (2, .int x2), (5, .int x5)]) hx hb dX10_hang_72 rfl hl (by decide) rfl (fun ls hl => ?_)
          refine h_iinc C hl dX10_hang_73 5 rfl ci_1 h (by decide) (lvf := fun v5 => [(5, .int v5), (3, .int x5), (4, .int q4), (0, .ref (ad 0)), (1, .int x1), (2, .int x2)]) (fun _ => rfl) (fun v5 ls h hl => ?_)
          refine lv_goto (tgt := 29) hx hb dX10_hang_76 (by decide) ?_
          exact ih _ _ _ _ _ _ _ _  h hI (lv_sub hl [3, 4, 5, 1, 2, 0] rfl)
        · refine lv_goto (tgt := 73) hx hb dX10_hang_59 (by decide) ?_
          refine h_iinc C hl dX10_hang_73 5 rfl ci_1 h (by decide) (lvf := fun v6 => [(5, .int v6), (0, .ref (ad 0)), (1, .int x1), (2, .int x2), (3, .int x3), (4, .int x4)]) (fun _ => rfl) (fun v6 ls h hl => ?_)
          refine lv_goto (tgt := 29) hx hb dX10_hang_76 (by decide) ?_
          exact ih _ _ _ _ _ _ _ _  h hI (lv_sub hl [1, 2, 3, 4, 5, 0] rfl)
set_option maxRecDepth 100000 in
set_option maxHeartbeats 4000000 in
theorem c_X10_hang (l : Launch) (D : va_G) (t : gT) (ad z : Nat → Nat) (hJ : gJ shM ad) (σ : gS) (x1 : Int32) (x2 : Int32) (q : Int32) (h : f_X10_hang σ x1 x2 = some q) : Met l yX10_hang (Cond.code yX10_hang cX10_hang 6 (some .int) :: lw_tb) (gR 4 126) (gPc shM t ad D z [.ref (ad 0), .int x1, .int x2] σ) (gQi shM t ad D q σ) 0 0 (gA shM ad) := by
  refine gMet "NineKeysRoundModel" rfl (by decide) hJ (Nat.le_of_ble_eq_true rfl) ?_
  intro p e s m below meth c ls C hr hI hl
  have hx := C.1
  have hb := C.2.1
  have hl : lv_has ls 6 [(0, .ref (ad 0)), (1, .int x1), (2, .int x2)] := hl
  unfold f_X10_hang at h
  refine lv_iload_n hx hb dX10_hang_0 rfl (lv_at hl 1 rfl) ?_
  refine lv_iconst hx hb dX10_hang_1 ci_0 ?_
  refine lv_bipush hx hb dX10_hang_2 cb_30 ?_
  refine h_callsi_o (rest := []) C hI hl.1 ys_X10_within k_1240 h (fun q hq => c_X10_within l D t ad z C.2.2.2.2.2.2.1 (σ) x1 0 30 q hq) (As := [.int x1, .int 0, .int 30]) rfl rfl ⟨Nat.le_of_ble_eq_true rfl, Nat.le_of_ble_eq_true rfl⟩ (Nat.le_of_ble_eq_true rfl) dX10_hang_4 (fun q1 H locs h hI => ?_)
  refine hif_eq (tgt := 19) C dX10_hang_7 (by decide) h (fun h => ?_) (fun h => ?_)
  · refine lv_iconst hx hb dX10_hang_19 ci_m1 ?_
    exact h_iret_o C hr hI h dX10_hang_20
  · refine lv_iload_n hx hb dX10_hang_10 rfl (lv_at hl 2 rfl) ?_
    refine lv_iconst hx hb dX10_hang_11 ci_0 ?_
    refine lv_iconst hx hb dX10_hang_12 ci_1 ?_
    refine h_callsi_o (rest := []) C hI hl.1 ys_X10_within k_1240 h (fun q hq => c_X10_within l D t ad z C.2.2.2.2.2.2.1 (σ) x2 0 1 q hq) (As := [.int x2, .int 0, .int 1]) rfl rfl ⟨Nat.le_of_ble_eq_true rfl, Nat.le_of_ble_eq_true rfl⟩ (Nat.le_of_ble_eq_true rfl) dX10_hang_13 (fun q2 H locs h hI => ?_)
    refine hif_ne (tgt := 21) C dX10_hang_16 (by decide) h (fun h => ?_) (fun h => ?_)
    · refine lv_iconst hx hb dX10_hang_21 ci_0 ?_
      refine lv_istore_n (lv' := [(3, .int 0), (0, .ref (ad 0)), (1, .int x1), (2, .int x2)]) hx hb dX10_hang_22 rfl hl (by decide) rfl (fun ls hl => ?_)
      refine lv_iconst hx hb dX10_hang_23 ci_m1 ?_
      refine lv_istore (lv' := [(4, .int (-1)), (3, .int 0), (0, .ref (ad 0)), (1, .int x1), (2, .int x2)]) hx hb dX10_hang_24 hl (by decide) rfl (fun ls hl => ?_)
      refine lv_iconst hx hb dX10_hang_26 ci_0 ?_
      refine lv_istore (lv' := [(5, .int 0), (4, .int (-1)), (3, .int 0), (0, .ref (ad 0)), (1, .int x1), (2, .int x2)]) hx hb dX10_hang_27 hl (by decide) rfl (fun ls hl => ?_)
      exact w_X10_hang_29 C hr    _ _ _ _ _ _ _ _ _  h hI (lv_sub hl [3, 4, 5, 2, 1, 0] rfl)
    · refine lv_iconst hx hb dX10_hang_19 ci_m1 ?_
      exact h_iret_o C hr hI h dX10_hang_20
set_option maxRecDepth 100000 in
set_option maxHeartbeats 4000000 in
theorem w_X10_drawn_131 {p : Program} {l : Launch} {e : Env} {s : State} {m : MethodId} {args : Array Value} {below : List Frame} {meth : Method} {c : Code} {D : va_G} {t : gT} {ad z : Nat → Nat} {σ : gS} (C : gC p s m args meth c cX10_drawn 14 "NineKeysRoundModel" D t shM ad z) (hr : meth.sig.returnType = some .int) {r : Int32} (K_47 : Int32 → Int32 → Int32 → Int32 → Int32 → Int32 → Option Int32) (hK_47 : ∀ (x2 : Int32) (x3 : Int32) (x4 : Int32) (x5 : Int32) (x6 : Int32) (x7 : Int32) (H : Heap) (locs : List Loc) (ls : Array Slot), K_47 x2 x3 x4 x5 x6 x7 = some r → gI shM t ad D s.heap σ H locs → lv_has ls 14 [(0, .ref (ad 0)), (2, .int x2), (3, .int x3), (4, .int x4), (5, .int x5), (6, .int x6), (7, .int x7)] → W p l e (gR 4 125) s m args below meth c H locs 0 0 (MQ below (gQi shM t ad D r σ) args s 0 0 (gA shM ad)) (F0 m 47 ls [])) (K_72 : Int32 → Int32 → Int32 → Int32 → Int32 → Int32 → Int32 → Int32 → Int32 → Option Int32) (hK_72 : ∀ (x2 : Int32) (x3 : Int32) (x4 : Int32) (x5 : Int32) (x6 : Int32) (x7 : Int32) (x8 : Int32) (x9 : Int32) (x10 : Int32) (H : Heap) (locs : List Loc) (ls : Array Slot), K_72 x2 x3 x4 x5 x6 x7 x8 x9 x10 = some r → gI shM t ad D s.heap σ H locs → lv_has ls 14 [(0, .ref (ad 0)), (2, .int x2), (3, .int x3), (4, .int x4), (5, .int x5), (6, .int x6), (7, .int x7), (8, .int x8), (9, .int x9), (10, .int x10)] → W p l e (gR 4 125) s m args below meth c H locs 0 0 (MQ below (gQi shM t ad D r σ) args s 0 0 (gA shM ad)) (F0 m 72 ls [])) : ∀ (n : Nat) (x2 : Int32) (x3 : Int32) (x4 : Int32) (x5 : Int32) (x6 : Int32) (x7 : Int32) (x8 : Int32) (x9 : Int32) (x10 : Int32) (x11 : Int32) (x12 : Int32) (x13 : Int32) (H : Heap) (locs : List Loc) (ls : Array Slot), f_X10_drawn_131 σ K_47 K_72 n x2 x3 x4 x5 x6 x7 x8 x9 x10 x11 x12 x13 = some r → gI shM t ad D s.heap σ H locs → lv_has ls 14 [(0, .ref (ad 0)), (2, .int x2), (3, .int x3), (4, .int x4), (5, .int x5), (6, .int x6), (7, .int x7), (8, .int x8), (9, .int x9), (10, .int x10), (11, .int x11), (12, .int x12), (13, .int x13)] → W p l e (gR 4 125) s m args below meth c H locs 0 0 (MQ below (gQi shM t ad D r σ) args s 0 0 (gA shM ad)) (F0 m 131 ls []) := by
  have hx := C.1
  have hb := C.2.1
  intro n
  induction n with
  | zero =>
    intro x2 x3 x4 x5 x6 x7 x8 x9 x10 x11 x12 x13 H locs ls  h
    exact absurd h (by simp [f_X10_drawn_131])
  | succ n ih =>
    intro x2 x3 x4 x5 x6 x7 x8 x9 x10 x11 x12 x13 H locs ls  h hI hl
    unfold f_X10_drawn_131 at h
    refine lv_iload hx hb dX10_drawn_131 (lv_at hl 12 rfl) ?_
    refine lv_aload_n hx hb dX10_drawn_133 rfl (lv_at hl 0 rfl) ?_
    refine fg_1061 C hI shM_0 rfl dX10_drawn_134 ?_
    refine hicmp_ge (tgt := 182) C dX10_drawn_137 (by decide) h (fun h => ?_) (fun h => ?_)
    · refine h_iinc C hl dX10_drawn_182 9 rfl ci_1 h (by decide) (lvf := fun v1 => [(10, .int v1), (0, .ref (ad 0)), (2, .int x2), (3, .int x3), (4, .int x4), (5, .int x5), (6, .int x6), (7, .int x7), (8, .int x8), (9, .int x9), (11, .int x11), (12, .int x12), (13, .int x13)]) (fun _ => rfl) (fun v1 ls h hl => ?_)
      refine lv_goto (tgt := 72) hx hb dX10_drawn_185 (by decide) ?_
      exact hK_72 _ _ _ _ _ _ _ _ _ _ _ _  h hI (lv_sub hl [1, 2, 3, 4, 5, 6, 7, 8, 9, 0] rfl)
    · refine lv_iload hx hb dX10_drawn_140 (lv_at hl 7 rfl) ?_
      refine lv_aload_n hx hb dX10_drawn_142 rfl (lv_at hl 0 rfl) ?_
      refine lv_iload hx hb dX10_drawn_143 (lv_at hl 8 rfl) ?_
      refine lv_iload hx hb dX10_drawn_145 (lv_at hl 10 rfl) ?_
      refine h_callvi_o (rest := [.int x8]) C hI hl.1 shM_0 rfl yv_X10_minutes k_1354 h (fun q hq => c_X10_minutes l D t ad z C.2.2.2.2.2.2.1 (σ) x9 x11 q hq) (As := [.int x9, .int x11]) rfl rfl ⟨Nat.le_of_ble_eq_true rfl, Nat.le_of_ble_eq_true rfl⟩ (Nat.le_of_ble_eq_true rfl) dX10_drawn_147 (fun q2 H locs h hI => ?_)
      refine lv_aload_n hx hb dX10_drawn_150 rfl (lv_at hl 0 rfl) ?_
      refine fr_1066 C hI shM_0 rfl dX10_drawn_151 ?_
      refine lv_iconst hx hb dX10_drawn_154 ci_3 ?_
      refine gx_iald C hI shM_5 h dX10_drawn_155 (fun h => ?_)
      refine lv_iadd hx hb dX10_drawn_156 ?_
      refine lv_iadd hx hb dX10_drawn_157 ?_
      refine gx_topi h (fun v3 h => ?_)
      refine lv_istore (lv' := [(8, .int v3), (0, .ref (ad 0)), (2, .int x2), (3, .int x3), (4, .int x4), (5, .int x5), (6, .int x6), (7, .int x7), (9, .int x9), (10, .int x10), (11, .int x11), (12, .int x12), (13, .int x13)]) hx hb dX10_drawn_158 hl (by decide) rfl (fun ls hl => ?_)
      refine lv_iload hx hb dX10_drawn_160 (lv_at hl 10 rfl) ?_
      refine lv_istore (lv' := [(9, .int x11), (8, .int v3), (0, .ref (ad 0)), (2, .int x2), (3, .int x3), (4, .int x4), (5, .int x5), (6, .int x6), (7, .int x7), (10, .int x10), (11, .int x11), (12, .int x12), (13, .int x13)]) hx hb dX10_drawn_162 hl (by decide) rfl (fun ls hl => ?_)
      refine lv_iload hx hb dX10_drawn_164 (lv_at hl 10 rfl) ?_
      refine lv_iload hx hb dX10_drawn_166 (lv_at hl 11 rfl) ?_
      refine lv_iadd hx hb dX10_drawn_168 ?_
      refine lv_aload_n hx hb dX10_drawn_169 rfl (lv_at hl 2 rfl) ?_
      refine fg_1061 C hI shM_0 rfl dX10_drawn_170 ?_
      refine h_irem C dX10_drawn_173 h (fun h => ?_)
      refine gx_topi h (fun v4 h => ?_)
      refine lv_istore (lv' := [(11, .int v4), (9, .int x11), (8, .int v3), (0, .ref (ad 0)), (2, .int x2), (3, .int x3), (4, .int x4), (5, .int x5), (6, .int x6), (7, .int x7), (10, .int x10), (12, .int x12), (13, .int x13)]) hx hb dX10_drawn_174 hl (by decide) rfl (fun ls hl => ?_)
      refine h_iinc C hl dX10_drawn_176 12 rfl ci_1 h (by decide) (lvf := fun v5 => [(13, .int v5), (11, .int v4), (9, .int x11), (8, .int v3), (0, .ref (ad 0)), (2, .int x2), (3, .int x3), (4, .int x4), (5, .int x5), (6, .int x6), (7, .int x7), (10, .int x10), (12, .int x12)]) (fun _ => rfl) (fun v5 ls h hl => ?_)
      refine lv_goto (tgt := 131) hx hb dX10_drawn_179 (by decide) ?_
      exact ih _ _ _ _ _ _ _ _ _ _ _ _ _ _ _  h hI (lv_sub hl [4, 5, 6, 7, 8, 9, 10, 3, 2, 11, 1, 12, 0] rfl)
set_option maxRecDepth 100000 in
set_option maxHeartbeats 4000000 in
theorem w_X10_drawn_72 {p : Program} {l : Launch} {e : Env} {s : State} {m : MethodId} {args : Array Value} {below : List Frame} {meth : Method} {c : Code} {D : va_G} {t : gT} {ad z : Nat → Nat} {σ : gS} (C : gC p s m args meth c cX10_drawn 14 "NineKeysRoundModel" D t shM ad z) (hr : meth.sig.returnType = some .int) {r : Int32} (K_47 : Int32 → Int32 → Int32 → Int32 → Int32 → Int32 → Option Int32) (hK_47 : ∀ (x2 : Int32) (x3 : Int32) (x4 : Int32) (x5 : Int32) (x6 : Int32) (x7 : Int32) (H : Heap) (locs : List Loc) (ls : Array Slot), K_47 x2 x3 x4 x5 x6 x7 = some r → gI shM t ad D s.heap σ H locs → lv_has ls 14 [(0, .ref (ad 0)), (2, .int x2), (3, .int x3), (4, .int x4), (5, .int x5), (6, .int x6), (7, .int x7)] → W p l e (gR 4 125) s m args below meth c H locs 0 0 (MQ below (gQi shM t ad D r σ) args s 0 0 (gA shM ad)) (F0 m 47 ls [])) : ∀ (n : Nat) (x2 : Int32) (x3 : Int32) (x4 : Int32) (x5 : Int32) (x6 : Int32) (x7 : Int32) (x8 : Int32) (x9 : Int32) (x10 : Int32) (H : Heap) (locs : List Loc) (ls : Array Slot), f_X10_drawn_72 σ K_47 n x2 x3 x4 x5 x6 x7 x8 x9 x10 = some r → gI shM t ad D s.heap σ H locs → lv_has ls 14 [(0, .ref (ad 0)), (2, .int x2), (3, .int x3), (4, .int x4), (5, .int x5), (6, .int x6), (7, .int x7), (8, .int x8), (9, .int x9), (10, .int x10)] → W p l e (gR 4 125) s m args below meth c H locs 0 0 (MQ below (gQi shM t ad D r σ) args s 0 0 (gA shM ad)) (F0 m 72 ls []) := by
  have hx := C.1
  have hb := C.2.1
  intro n
  induction n with
  | zero =>
    intro x2 x3 x4 x5 x6 x7 x8 x9 x10 H locs ls  h
    exact absurd h (by simp [f_X10_drawn_72])
  | succ n ih =>
    intro x2 x3 x4 x5 x6 x7 x8 x9 x10 H locs ls  h hI hl
    unfold f_X10_drawn_72 at h
    refine lv_iload hx hb dX10_drawn_72 (lv_at hl 9 rfl) ?_
    refine lv_iload_n hx hb dX10_drawn_74 rfl (lv_at hl 1 rfl) ?_
    refine lv_bipush hx hb dX10_drawn_75 cb_10 ?_
    refine h_irem C dX10_drawn_77 h (fun h => ?_)
    refine hicmp_ge (tgt := 188) C dX10_drawn_78 (by decide) h (fun h => ?_) (fun h => ?_)
    · refine lv_iload hx hb dX10_drawn_188 (lv_at hl 4 rfl) ?_
      refine lv_iload hx hb dX10_drawn_190 (lv_at hl 7 rfl) ?_
      refine lv_iadd hx hb dX10_drawn_192 ?_
      refine gx_topi h (fun v1 h => ?_)
      refine lv_istore (lv' := [(5, .int v1), (0, .ref (ad 0)), (2, .int x2), (3, .int x3), (4, .int x4), (6, .int x6), (7, .int x7), (8, .int x8), (9, .int x9), (10, .int x10)]) hx hb dX10_drawn_193 hl (by decide) rfl (fun ls hl => ?_)
      refine lv_iload hx hb dX10_drawn_195 (lv_at hl 5 rfl) ?_
      refine lv_iload hx hb dX10_drawn_197 (lv_at hl 7 rfl) ?_
      refine h_mmax C hl.1 k_1402 ⟨Nat.le_of_ble_eq_true rfl, Nat.le_of_ble_eq_true rfl⟩ ⟨Nat.zero_le _, Nat.zero_le _⟩ dX10_drawn_199 ?_
      refine gx_topi h (fun v2 h => ?_)
      refine lv_istore (lv' := [(6, .int v2), (5, .int v1), (0, .ref (ad 0)), (2, .int x2), (3, .int x3), (4, .int x4), (7, .int x7), (8, .int x8), (9, .int x9), (10, .int x10)]) hx hb dX10_drawn_202 hl (by decide) rfl (fun ls hl => ?_)
      refine h_iinc C hl dX10_drawn_204 6 rfl ci_1 h (by decide) (lvf := fun v3 => [(7, .int v3), (6, .int v2), (5, .int v1), (0, .ref (ad 0)), (2, .int x2), (3, .int x3), (4, .int x4), (8, .int x8), (9, .int x9), (10, .int x10)]) (fun _ => rfl) (fun v3 ls h hl => ?_)
      refine lv_goto (tgt := 47) hx hb dX10_drawn_207 (by decide) ?_
      exact hK_47 _ _ _ _ _ _ _ _ _  h hI (lv_sub hl [3, 4, 5, 6, 2, 1, 0] rfl)
    · refine lv_iload hx hb dX10_drawn_81 (lv_at hl 3 rfl) ?_
      refine lv_ldcw hx hb C.2.2.2.1 (C.2.2.2.2.1 _ k_1559) dX10_drawn_83 ?_
      refine lv_imul hx hb dX10_drawn_86 ?_
      refine lv_sipush hx hb dX10_drawn_87 cs_12345 ?_
      refine lv_iadd hx hb dX10_drawn_90 ?_
      refine gx_topi h (fun v4 h => ?_)
      refine lv_istore (lv' := [(4, .int v4), (0, .ref (ad 0)), (2, .int x2), (3, .int x3), (5, .int x5), (6, .int x6), (7, .int x7), (8, .int x8), (9, .int x9), (10, .int x10)]) hx hb dX10_drawn_91 hl (by decide) rfl (fun ls hl => ?_)
      refine lv_iload hx hb dX10_drawn_93 (lv_at hl 0 rfl) ?_
      refine lv_bipush hx hb dX10_drawn_95 cb_8 ?_
      refine lv_iushr (v := jushr v4 8) hx hb dX10_drawn_97 rfl ?_
      refine lv_aload_n hx hb dX10_drawn_98 rfl (lv_at hl 1 rfl) ?_
      refine fg_1061 C hI shM_0 rfl dX10_drawn_99 ?_
      refine h_irem C dX10_drawn_102 h (fun h => ?_)
      refine gx_topi h (fun v5 h => ?_)
      refine lv_istore (lv' := [(11, .int v5), (4, .int v4), (0, .ref (ad 0)), (2, .int x2), (3, .int x3), (5, .int x5), (6, .int x6), (7, .int x7), (8, .int x8), (9, .int x9), (10, .int x10)]) hx hb dX10_drawn_103 hl (by decide) rfl (fun ls hl => ?_)
      refine lv_iload hx hb dX10_drawn_105 (lv_at hl 1 rfl) ?_
      refine lv_bipush hx hb dX10_drawn_107 cb_16 ?_
      refine lv_iushr (v := jushr v4 16) hx hb dX10_drawn_109 rfl ?_
      refine lv_iconst hx hb dX10_drawn_110 ci_1 ?_
      refine lv_iand hx hb dX10_drawn_111 ?_
      refine lv_iconst hx hb dX10_drawn_112 ci_1 ?_
      refine hicmp_ne (tgt := 125) C dX10_drawn_113 (by decide) h (fun h => ?_) (fun h => ?_)
      · refine lv_iconst hx hb dX10_drawn_125 ci_1 ?_
        refine lv_istore (lv' := [(12, .int 1), (11, .int v5), (4, .int v4), (0, .ref (ad 0)), (2, .int x2), (3, .int x3), (5, .int x5), (6, .int x6), (7, .int x7), (8, .int x8), (9, .int x9), (10, .int x10)]) hx hb dX10_drawn_126 hl (by decide) rfl (fun ls hl => ?_)
        refine lv_iconst hx hb dX10_drawn_128 ci_0 ?_
        refine lv_istore (lv' := [(13, .int 0), (12, .int 1), (11, .int v5), (4, .int v4), (0, .ref (ad 0)), (2, .int x2), (3, .int x3), (5, .int x5), (6, .int x6), (7, .int x7), (8, .int x8), (9, .int x9), (10, .int x10)]) hx hb dX10_drawn_129 hl (by decide) rfl (fun ls hl => ?_)
        exact w_X10_drawn_131 C hr   _ hK_47 _ ih _ _ _ _ _ _ _ _ _ _ _ _ _ _ _ _  h hI (lv_sub hl [4, 5, 6, 3, 7, 8, 9, 10, 11, 12, 2, 1, 0] rfl)
      · refine lv_aload_n hx hb dX10_drawn_116 rfl (lv_at hl 2 rfl) ?_
        refine fg_1061 C hI shM_0 rfl dX10_drawn_117 ?_
        refine lv_iconst hx hb dX10_drawn_120 ci_1 ?_
        refine lv_isub hx hb dX10_drawn_121 ?_
        refine lv_goto (tgt := 126) hx hb dX10_drawn_122 (by decide) ?_
        refine gx_topi h (fun v6 h => ?_)
        refine lv_istore (lv' := [(12, .int v6), (11, .int v5), (4, .int v4), (0, .ref (ad 0)), (2, .int x2), (3, .int x3), (5, .int x5), (6, .int x6), (7, .int x7), (8, .int x8), (9, .int x9), (10, .int x10)]) hx hb dX10_drawn_126 hl (by decide) rfl (fun ls hl => ?_)
        refine lv_iconst hx hb dX10_drawn_128 ci_0 ?_
        refine lv_istore (lv' := [(13, .int 0), (12, .int v6), (11, .int v5), (4, .int v4), (0, .ref (ad 0)), (2, .int x2), (3, .int x3), (5, .int x5), (6, .int x6), (7, .int x7), (8, .int x8), (9, .int x9), (10, .int x10)]) hx hb dX10_drawn_129 hl (by decide) rfl (fun ls hl => ?_)
        exact w_X10_drawn_131 C hr   _ hK_47 _ ih _ _ _ _ _ _ _ _ _ _ _ _ _ _ _ _  h hI (lv_sub hl [4, 5, 6, 3, 7, 8, 9, 10, 11, 12, 2, 1, 0] rfl)
set_option maxRecDepth 100000 in
set_option maxHeartbeats 4000000 in
theorem w_X10_drawn_210 {p : Program} {l : Launch} {e : Env} {s : State} {m : MethodId} {args : Array Value} {below : List Frame} {meth : Method} {c : Code} {D : va_G} {t : gT} {ad z : Nat → Nat} {σ : gS} (C : gC p s m args meth c cX10_drawn 14 "NineKeysRoundModel" D t shM ad z) (hr : meth.sig.returnType = some .int) {r : Int32} : ∀ (x3 : Int32) (x5 : Int32) (x6 : Int32) (H : Heap) (locs : List Loc) (ls : Array Slot), f_X10_drawn_210 σ x3 x5 x6 = some r → gI shM t ad D s.heap σ H locs → lv_has ls 14 [(3, .int x3), (5, .int x5), (6, .int x6)] → W p l e (gR 4 125) s m args below meth c H locs 0 0 (MQ below (gQi shM t ad D r σ) args s 0 0 (gA shM ad)) (F0 m 210 ls []) := by
  have hx := C.1
  have hb := C.2.1
  intro x3 x5 x6 H locs ls  h hI hl
  unfold f_X10_drawn_210 at h
  refine lv_iload_n hx hb dX10_drawn_210 rfl (lv_at hl 0 rfl) ?_
  refine hif_ne (tgt := 219) C dX10_drawn_211 (by decide) h (fun h => ?_) (fun h => ?_)
  · refine lv_iload hx hb dX10_drawn_219 (lv_at hl 2 rfl) ?_
    exact h_iret_o C hr hI h dX10_drawn_221
  · refine lv_iload hx hb dX10_drawn_214 (lv_at hl 1 rfl) ?_
    refine lv_goto (tgt := 221) hx hb dX10_drawn_216 (by decide) ?_
    exact h_iret_o C hr hI h dX10_drawn_221
set_option maxRecDepth 100000 in
set_option maxHeartbeats 4000000 in
theorem w_X10_drawn_47 {p : Program} {l : Launch} {e : Env} {s : State} {m : MethodId} {args : Array Value} {below : List Frame} {meth : Method} {c : Code} {D : va_G} {t : gT} {ad z : Nat → Nat} {σ : gS} (C : gC p s m args meth c cX10_drawn 14 "NineKeysRoundModel" D t shM ad z) (hr : meth.sig.returnType = some .int) {r : Int32} : ∀ (n : Nat) (x2 : Int32) (x3 : Int32) (x4 : Int32) (x5 : Int32) (x6 : Int32) (x7 : Int32) (H : Heap) (locs : List Loc) (ls : Array Slot), f_X10_drawn_47 σ n x2 x3 x4 x5 x6 x7 = some r → gI shM t ad D s.heap σ H locs → lv_has ls 14 [(0, .ref (ad 0)), (2, .int x2), (3, .int x3), (4, .int x4), (5, .int x5), (6, .int x6), (7, .int x7)] → W p l e (gR 4 125) s m args below meth c H locs 0 0 (MQ below (gQi shM t ad D r σ) args s 0 0 (gA shM ad)) (F0 m 47 ls []) := by
  have hx := C.1
  have hb := C.2.1
  intro n
  induction n with
  | zero =>
    intro x2 x3 x4 x5 x6 x7 H locs ls  h
    exact absurd h (by simp [f_X10_drawn_47])
  | succ n ih =>
    intro x2 x3 x4 x5 x6 x7 H locs ls  h hI hl
    unfold f_X10_drawn_47 at h
    refine lv_iload hx hb dX10_drawn_47 (lv_at hl 6 rfl) ?_
    refine lv_iload_n hx hb dX10_drawn_49 rfl (lv_at hl 1 rfl) ?_
    refine lv_bipush hx hb dX10_drawn_50 cb_10 ?_
    refine h_idiv C dX10_drawn_52 h (fun h => ?_)
    refine hicmp_ge (tgt := 210) C dX10_drawn_53 (by decide) h (fun h => ?_) (fun h => ?_)
    · exact w_X10_drawn_210 C hr    _ _ _ _ _ _  h hI (lv_sub hl [2, 4, 5] rfl)
    · refine lv_aload_n hx hb dX10_drawn_56 rfl (lv_at hl 0 rfl) ?_
      refine fg_1061 C hI shM_0 rfl dX10_drawn_57 ?_
      refine hif_le (tgt := 210) C dX10_drawn_60 (by decide) h (fun h => ?_) (fun h => ?_)
      · exact w_X10_drawn_210 C hr    _ _ _ _ _ _  h hI (lv_sub hl [2, 4, 5] rfl)
      · refine lv_iconst hx hb dX10_drawn_63 ci_0 ?_
        refine lv_istore (lv' := [(8, .int 0), (0, .ref (ad 0)), (2, .int x2), (3, .int x3), (4, .int x4), (5, .int x5), (6, .int x6), (7, .int x7)]) hx hb dX10_drawn_64 hl (by decide) rfl (fun ls hl => ?_)
        refine lv_iconst hx hb dX10_drawn_66 ci_m1 ?_
        refine lv_istore (lv' := [(9, .int (-1)), (8, .int 0), (0, .ref (ad 0)), (2, .int x2), (3, .int x3), (4, .int x4), (5, .int x5), (6, .int x6), (7, .int x7)]) hx hb dX10_drawn_67 hl (by decide) rfl (fun ls hl => ?_)
        refine lv_iconst hx hb dX10_drawn_69 ci_0 ?_
        refine lv_istore (lv' := [(10, .int 0), (9, .int (-1)), (8, .int 0), (0, .ref (ad 0)), (2, .int x2), (3, .int x3), (4, .int x4), (5, .int x5), (6, .int x6), (7, .int x7)]) hx hb dX10_drawn_70 hl (by decide) rfl (fun ls hl => ?_)
        exact w_X10_drawn_72 C hr   _ ih _ _ _ _ _ _ _ _ _ _ _ _ _  h hI (lv_sub hl [3, 4, 5, 6, 7, 8, 9, 2, 1, 0] rfl)
set_option maxRecDepth 100000 in
set_option maxHeartbeats 4000000 in
theorem c_X10_drawn (l : Launch) (D : va_G) (t : gT) (ad z : Nat → Nat) (hJ : gJ shM ad) (σ : gS) (x1 : Int32) (x2 : Int32) (x3 : Int32) (q : Int32) (h : f_X10_drawn σ x1 x2 x3 = some q) : Met l yX10_drawn (Cond.code yX10_drawn cX10_drawn 14 (some .int) :: lw_tb) (gR 4 125) (gPc shM t ad D z [.ref (ad 0), .int x1, .int x2, .int x3] σ) (gQi shM t ad D q σ) 0 0 (gA shM ad) := by
  refine gMet "NineKeysRoundModel" rfl (by decide) hJ (Nat.le_of_ble_eq_true rfl) ?_
  intro p e s m below meth c ls C hr hI hl
  have hx := C.1
  have hb := C.2.1
  have hl : lv_has ls 14 [(0, .ref (ad 0)), (1, .int x1), (2, .int x2), (3, .int x3)] := hl
  unfold f_X10_drawn at h
  refine lv_iload_n hx hb dX10_drawn_0 rfl (lv_at hl 2 rfl) ?_
  refine hif_lt (tgt := 33) C dX10_drawn_1 (by decide) h (fun h => ?_) (fun h => ?_)
  · refine lv_iconst hx hb dX10_drawn_33 ci_m1 ?_
    exact h_iret_o C hr hI h dX10_drawn_34
  · refine lv_iload_n hx hb dX10_drawn_4 rfl (lv_at hl 2 rfl) ?_
    refine lv_bipush hx hb dX10_drawn_5 cb_10 ?_
    refine h_idiv C dX10_drawn_7 h (fun h => ?_)
    refine lv_iconst hx hb dX10_drawn_8 ci_1 ?_
    refine lv_bipush hx hb dX10_drawn_9 cb_30 ?_
    refine h_callsi_o (rest := []) C hI hl.1 ys_X10_within k_1240 h (fun q hq => c_X10_within l D t ad z C.2.2.2.2.2.2.1 (σ) (x2 / 10) 1 30 q hq) (As := [.int (x2 / 10), .int 1, .int 30]) rfl rfl ⟨Nat.le_of_ble_eq_true rfl, Nat.le_of_ble_eq_true rfl⟩ (Nat.le_of_ble_eq_true rfl) dX10_drawn_11 (fun q1 H locs h hI => ?_)
    refine hif_eq (tgt := 33) C dX10_drawn_14 (by decide) h (fun h => ?_) (fun h => ?_)
    · refine lv_iconst hx hb dX10_drawn_33 ci_m1 ?_
      exact h_iret_o C hr hI h dX10_drawn_34
    · refine lv_iload_n hx hb dX10_drawn_17 rfl (lv_at hl 2 rfl) ?_
      refine lv_bipush hx hb dX10_drawn_18 cb_10 ?_
      refine h_irem C dX10_drawn_20 h (fun h => ?_)
      refine hif_eq (tgt := 33) C dX10_drawn_21 (by decide) h (fun h => ?_) (fun h => ?_)
      · refine lv_iconst hx hb dX10_drawn_33 ci_m1 ?_
        exact h_iret_o C hr hI h dX10_drawn_34
      · refine lv_iload_n hx hb dX10_drawn_24 rfl (lv_at hl 3 rfl) ?_
        refine lv_iconst hx hb dX10_drawn_25 ci_0 ?_
        refine lv_iconst hx hb dX10_drawn_26 ci_1 ?_
        refine h_callsi_o (rest := []) C hI hl.1 ys_X10_within k_1240 h (fun q hq => c_X10_within l D t ad z C.2.2.2.2.2.2.1 (σ) x3 0 1 q hq) (As := [.int x3, .int 0, .int 1]) rfl rfl ⟨Nat.le_of_ble_eq_true rfl, Nat.le_of_ble_eq_true rfl⟩ (Nat.le_of_ble_eq_true rfl) dX10_drawn_27 (fun q2 H locs h hI => ?_)
        refine hif_ne (tgt := 35) C dX10_drawn_30 (by decide) h (fun h => ?_) (fun h => ?_)
        · refine lv_iload_n hx hb dX10_drawn_35 rfl (lv_at hl 1 rfl) ?_
          refine lv_istore (lv' := [(4, .int x1), (0, .ref (ad 0)), (1, .int x1), (2, .int x2), (3, .int x3)]) hx hb dX10_drawn_36 hl (by decide) rfl (fun ls hl => ?_)
          refine lv_iconst hx hb dX10_drawn_38 ci_0 ?_
          refine lv_istore (lv' := [(5, .int 0), (4, .int x1), (0, .ref (ad 0)), (1, .int x1), (2, .int x2), (3, .int x3)]) hx hb dX10_drawn_39 hl (by decide) rfl (fun ls hl => ?_)
          refine lv_iconst hx hb dX10_drawn_41 ci_0 ?_
          refine lv_istore (lv' := [(6, .int 0), (5, .int 0), (4, .int x1), (0, .ref (ad 0)), (1, .int x1), (2, .int x2), (3, .int x3)]) hx hb dX10_drawn_42 hl (by decide) rfl (fun ls hl => ?_)
          refine lv_iconst hx hb dX10_drawn_44 ci_0 ?_
          refine lv_istore (lv' := [(7, .int 0), (6, .int 0), (5, .int 0), (4, .int x1), (0, .ref (ad 0)), (1, .int x1), (2, .int x2), (3, .int x3)]) hx hb dX10_drawn_45 hl (by decide) rfl (fun ls hl => ?_)
          exact w_X10_drawn_47 C hr    _ _ _ _ _ _ _ _ _ _  h hI (lv_sub hl [4, 6, 7, 3, 2, 1, 0] rfl)
        · refine lv_iconst hx hb dX10_drawn_33 ci_m1 ?_
          exact h_iret_o C hr hI h dX10_drawn_34
set_option maxRecDepth 100000 in
set_option maxHeartbeats 4000000 in
theorem c_X10_walk (l : Launch) (D : va_G) (t : gT) (ad z : Nat → Nat) (hJ : gJ shM ad) (σ : gS) (x1 : Int32) (q : Int32 × gS) (h : f_X10_walk σ x1 = some q) : Met l yX10_walk (Cond.code yX10_walk cX10_walk 3 (some .int) :: lw_tb) (gR 4 125) (gPc shM t ad D z [.ref (ad 0), .int x1] σ) (gQi shM t ad D q.1 q.2) 0 0 (gA shM ad) := by
  refine gMet "NineKeysRoundModel" rfl (by decide) hJ (Nat.le_of_ble_eq_true rfl) ?_
  intro p e s m below meth c ls C hr hI hl
  have hx := C.1
  have hb := C.2.1
  have hl : lv_has ls 3 [(0, .ref (ad 0)), (1, .int x1)] := hl
  unfold f_X10_walk at h
  refine lv_aload_n hx hb dX10_walk_0 rfl (lv_at hl 0 rfl) ?_
  refine lv_iload_n hx hb dX10_walk_1 rfl (lv_at hl 1 rfl) ?_
  refine lv_i2l (v := ((x1 : Int32).toInt64)) hx hb dX10_walk_2 rfl ?_
  refine h_callvi_o (rest := []) C hI hl.1 shM_0 rfl yv_X10_isPost k_1252 h (fun q hq => c_X10_isPost l D t ad z C.2.2.2.2.2.2.1 (σ) ((x1 : Int32).toInt64) q hq) (As := [.long ((x1 : Int32).toInt64)]) rfl rfl ⟨Nat.le_of_ble_eq_true rfl, Nat.le_of_ble_eq_true rfl⟩ (Nat.le_of_ble_eq_true rfl) dX10_walk_3 (fun q1 H locs h hI => ?_)
  refine hif_ne (tgt := 11) C dX10_walk_6 (by decide) h (fun h => ?_) (fun h => ?_)
  · refine lv_aload_n hx hb dX10_walk_11 rfl (lv_at hl 0 rfl) ?_
    refine lv_aload_n hx hb dX10_walk_12 rfl (lv_at hl 0 rfl) ?_
    refine fg_1085 C hI shM_0 rfl dX10_walk_13 ?_
    refine lv_iload_n hx hb dX10_walk_16 rfl (lv_at hl 1 rfl) ?_
    refine h_callvi_o (rest := []) C hI hl.1 shM_0 rfl yv_X10_minutes k_1354 h (fun q hq => c_X10_minutes l D t ad z C.2.2.2.2.2.2.1 (σ) (σ.1 0 24) x1 q hq) (As := [.int (σ.1 0 24), .int x1]) rfl rfl ⟨Nat.le_of_ble_eq_true rfl, Nat.le_of_ble_eq_true rfl⟩ (Nat.le_of_ble_eq_true rfl) dX10_walk_17 (fun q2 H locs h hI => ?_)
    refine lv_istore_n (lv' := [(2, .int q2), (0, .ref (ad 0)), (1, .int x1)]) hx hb dX10_walk_20 rfl hl (by decide) rfl (fun ls hl => ?_)
    refine lv_aload_n hx hb dX10_walk_21 rfl (lv_at hl 1 rfl) ?_
    refine fg_1086 C hI shM_0 rfl dX10_walk_22 ?_
    refine lv_iload_n hx hb dX10_walk_25 rfl (lv_at hl 0 rfl) ?_
    refine lv_iadd hx hb dX10_walk_26 ?_
    refine lv_aload_n hx hb dX10_walk_27 rfl (lv_at hl 1 rfl) ?_
    refine fr_1066 C hI shM_0 rfl dX10_walk_28 ?_
    refine lv_iconst hx hb dX10_walk_31 ci_3 ?_
    refine gx_iald C hI shM_5 h dX10_walk_32 (fun h => ?_)
    refine lv_iadd hx hb dX10_walk_33 ?_
    refine lv_sipush hx hb dX10_walk_34 cs_9999 ?_
    refine hicmp_le (tgt := 43) C dX10_walk_37 (by decide) h (fun h => ?_) (fun h => ?_)
    · refine lv_aload_n hx hb dX10_walk_43 rfl (lv_at hl 1 rfl) ?_
      refine lv_dup hx hb dX10_walk_44 rfl ?_
      refine fg_1086 C hI shM_0 rfl dX10_walk_45 ?_
      refine lv_iload_n hx hb dX10_walk_48 rfl (lv_at hl 0 rfl) ?_
      refine lv_aload_n hx hb dX10_walk_49 rfl (lv_at hl 1 rfl) ?_
      refine fr_1066 C hI shM_0 rfl dX10_walk_50 ?_
      refine lv_iconst hx hb dX10_walk_53 ci_3 ?_
      refine gx_iald C hI shM_5 h dX10_walk_54 (fun h => ?_)
      refine lv_iadd hx hb dX10_walk_55 ?_
      refine lv_iadd hx hb dX10_walk_56 ?_
      refine fp_1086 C hI shM_0 rfl dX10_walk_57 (fun H locs hI => ?_)
      refine gx_st h hI (fun s3 h hI => ?_)
      refine lv_aload_n hx hb dX10_walk_60 rfl (lv_at hl 1 rfl) ?_
      refine lv_iload_n hx hb dX10_walk_61 rfl (lv_at hl 2 rfl) ?_
      refine fp_1085 C hI shM_0 rfl dX10_walk_62 (fun H locs hI => ?_)
      refine gx_st h hI (fun s4 h hI => ?_)
      refine lv_aload_n hx hb dX10_walk_65 rfl (lv_at hl 1 rfl) ?_
      refine fr_1087 C hI shM_0 rfl dX10_walk_66 ?_
      refine lv_iload_n hx hb dX10_walk_69 rfl (lv_at hl 2 rfl) ?_
      refine lv_dup2_11 hx hb dX10_walk_70 rfl rfl ?_
      refine gx_iald C hI shM_17 h dX10_walk_71 (fun h => ?_)
      refine lv_iconst hx hb dX10_walk_72 ci_1 ?_
      refine lv_iadd hx hb dX10_walk_73 ?_
      refine gx_iast C hI shM_17 h dX10_walk_74 (fun H locs h hI => ?_)
      refine gx_st h hI (fun s5 h hI => ?_)
      refine lv_aload_n hx hb dX10_walk_75 rfl (lv_at hl 1 rfl) ?_
      refine fr_1088 C hI shM_0 rfl dX10_walk_76 ?_
      refine lv_iconst hx hb dX10_walk_79 ci_0 ?_
      refine lv_dup2_11 hx hb dX10_walk_80 rfl rfl ?_
      refine gx_iald C hI shM_18 h dX10_walk_81 (fun h => ?_)
      refine lv_iload_n hx hb dX10_walk_82 rfl (lv_at hl 0 rfl) ?_
      refine lv_iadd hx hb dX10_walk_83 ?_
      refine gx_iast C hI shM_18 h dX10_walk_84 (fun H locs h hI => ?_)
      refine gx_st h hI (fun s6 h hI => ?_)
      refine lv_aload_n hx hb dX10_walk_85 rfl (lv_at hl 1 rfl) ?_
      refine fr_1088 C hI shM_0 rfl dX10_walk_86 ?_
      refine lv_iconst hx hb dX10_walk_89 ci_1 ?_
      refine lv_dup2_11 hx hb dX10_walk_90 rfl rfl ?_
      refine gx_iald C hI shM_18 h dX10_walk_91 (fun h => ?_)
      refine lv_iconst hx hb dX10_walk_92 ci_1 ?_
      refine lv_iadd hx hb dX10_walk_93 ?_
      refine gx_iast C hI shM_18 h dX10_walk_94 (fun H locs h hI => ?_)
      refine gx_st h hI (fun s7 h hI => ?_)
      refine lv_aload_n hx hb dX10_walk_95 rfl (lv_at hl 1 rfl) ?_
      refine fr_1088 C hI shM_0 rfl dX10_walk_96 ?_
      refine lv_iconst hx hb dX10_walk_99 ci_2 ?_
      refine lv_dup2_11 hx hb dX10_walk_100 rfl rfl ?_
      refine gx_iald C hI shM_18 h dX10_walk_101 (fun h => ?_)
      refine lv_aload_n hx hb dX10_walk_102 rfl (lv_at hl 1 rfl) ?_
      refine fr_1066 C hI shM_0 rfl dX10_walk_103 ?_
      refine lv_iconst hx hb dX10_walk_106 ci_3 ?_
      refine gx_iald C hI shM_5 h dX10_walk_107 (fun h => ?_)
      refine lv_iadd hx hb dX10_walk_108 ?_
      refine gx_iast C hI shM_18 h dX10_walk_109 (fun H locs h hI => ?_)
      refine gx_st h hI (fun s8 h hI => ?_)
      refine lv_aload_n hx hb dX10_walk_110 rfl (lv_at hl 1 rfl) ?_
      refine fg_1086 C hI shM_0 rfl dX10_walk_111 ?_
      exact h_iret_w C hr hI h dX10_walk_114
    · refine lv_bipush hx hb dX10_walk_40 cb_m5 ?_
      exact h_iret_w C hr hI h dX10_walk_42
  · refine lv_iconst hx hb dX10_walk_9 ci_m1 ?_
    exact h_iret_w C hr hI h dX10_walk_10
set_option maxRecDepth 100000 in
set_option maxHeartbeats 4000000 in
theorem c_X10_waits (l : Launch) (D : va_G) (t : gT) (ad z : Nat → Nat) (hJ : gJ shM ad) (σ : gS) (x1 : Int32) (q : Int32 × gS) (h : f_X10_waits σ x1 = some q) : Met l yX10_waits (Cond.code yX10_waits cX10_waits 2 (some .int) :: lw_tb) (gR 2 82) (gPc shM t ad D z [.ref (ad 0), .int x1] σ) (gQi shM t ad D q.1 q.2) 0 0 (gA shM ad) := by
  refine gMet "NineKeysRoundModel" rfl (by decide) hJ (Nat.le_of_ble_eq_true rfl) ?_
  intro p e s m below meth c ls C hr hI hl
  have hx := C.1
  have hb := C.2.1
  have hl : lv_has ls 2 [(0, .ref (ad 0)), (1, .int x1)] := hl
  unfold f_X10_waits at h
  refine lv_iload_n hx hb dX10_waits_0 rfl (lv_at hl 1 rfl) ?_
  refine lv_iconst hx hb dX10_waits_1 ci_1 ?_
  refine lv_sipush hx hb dX10_waits_2 cs_999 ?_
  refine h_callsi_o (rest := []) C hI hl.1 ys_X10_within k_1240 h (fun q hq => c_X10_within l D t ad z C.2.2.2.2.2.2.1 (σ) x1 1 999 q hq) (As := [.int x1, .int 1, .int 999]) rfl rfl ⟨Nat.le_of_ble_eq_true rfl, Nat.le_of_ble_eq_true rfl⟩ (Nat.le_of_ble_eq_true rfl) dX10_waits_5 (fun q1 H locs h hI => ?_)
  refine hif_ne (tgt := 13) C dX10_waits_8 (by decide) h (fun h => ?_) (fun h => ?_)
  · refine lv_aload_n hx hb dX10_waits_13 rfl (lv_at hl 0 rfl) ?_
    refine fg_1086 C hI shM_0 rfl dX10_waits_14 ?_
    refine lv_iload_n hx hb dX10_waits_17 rfl (lv_at hl 1 rfl) ?_
    refine lv_iadd hx hb dX10_waits_18 ?_
    refine lv_sipush hx hb dX10_waits_19 cs_9999 ?_
    refine hicmp_le (tgt := 28) C dX10_waits_22 (by decide) h (fun h => ?_) (fun h => ?_)
    · refine lv_aload_n hx hb dX10_waits_28 rfl (lv_at hl 0 rfl) ?_
      refine lv_dup hx hb dX10_waits_29 rfl ?_
      refine fg_1086 C hI shM_0 rfl dX10_waits_30 ?_
      refine lv_iload_n hx hb dX10_waits_33 rfl (lv_at hl 1 rfl) ?_
      refine lv_iadd hx hb dX10_waits_34 ?_
      refine fp_1086 C hI shM_0 rfl dX10_waits_35 (fun H locs hI => ?_)
      refine gx_st h hI (fun s2 h hI => ?_)
      refine lv_aload_n hx hb dX10_waits_38 rfl (lv_at hl 0 rfl) ?_
      refine fr_1088 C hI shM_0 rfl dX10_waits_39 ?_
      refine lv_iconst hx hb dX10_waits_42 ci_3 ?_
      refine lv_dup2_11 hx hb dX10_waits_43 rfl rfl ?_
      refine gx_iald C hI shM_18 h dX10_waits_44 (fun h => ?_)
      refine lv_iload_n hx hb dX10_waits_45 rfl (lv_at hl 1 rfl) ?_
      refine lv_iadd hx hb dX10_waits_46 ?_
      refine gx_iast C hI shM_18 h dX10_waits_47 (fun H locs h hI => ?_)
      refine gx_st h hI (fun s3 h hI => ?_)
      refine lv_aload_n hx hb dX10_waits_48 rfl (lv_at hl 0 rfl) ?_
      refine fg_1086 C hI shM_0 rfl dX10_waits_49 ?_
      exact h_iret_w C hr hI h dX10_waits_52
    · refine lv_bipush hx hb dX10_waits_25 cb_m5 ?_
      exact h_iret_w C hr hI h dX10_waits_27
  · refine lv_iconst hx hb dX10_waits_11 ci_m1 ?_
    exact h_iret_w C hr hI h dX10_waits_12
set_option maxRecDepth 100000 in
set_option maxHeartbeats 4000000 in
theorem c_X10_home (l : Launch) (D : va_G) (t : gT) (ad z : Nat → Nat) (hJ : gJ shM ad) (σ : gS) (q : Int32 × gS) (h : f_X10_home σ = some q) : Met l yX10_home (Cond.code yX10_home cX10_home 2 (some .int) :: lw_tb) (gR 4 125) (gPc shM t ad D z [.ref (ad 0)] σ) (gQi shM t ad D q.1 q.2) 0 0 (gA shM ad) := by
  refine gMet "NineKeysRoundModel" rfl (by decide) hJ (Nat.le_of_ble_eq_true rfl) ?_
  intro p e s m below meth c ls C hr hI hl
  have hx := C.1
  have hb := C.2.1
  have hl : lv_has ls 2 [(0, .ref (ad 0))] := hl
  unfold f_X10_home at h
  refine lv_aload_n hx hb dX10_home_0 rfl (lv_at hl 0 rfl) ?_
  refine lv_aload_n hx hb dX10_home_1 rfl (lv_at hl 0 rfl) ?_
  refine fg_1085 C hI shM_0 rfl dX10_home_2 ?_
  refine lv_iconst hx hb dX10_home_5 ci_m1 ?_
  refine h_callvi_o (rest := []) C hI hl.1 shM_0 rfl yv_X10_minutes k_1354 h (fun q hq => c_X10_minutes l D t ad z C.2.2.2.2.2.2.1 (σ) (σ.1 0 24) (-1) q hq) (As := [.int (σ.1 0 24), .int (-1)]) rfl rfl ⟨Nat.le_of_ble_eq_true rfl, Nat.le_of_ble_eq_true rfl⟩ (Nat.le_of_ble_eq_true rfl) dX10_home_6 (fun q1 H locs h hI => ?_)
  refine lv_istore_n (lv' := [(1, .int q1), (0, .ref (ad 0))]) hx hb dX10_home_9 rfl hl (by decide) rfl (fun ls hl => ?_)
  refine lv_aload_n hx hb dX10_home_10 rfl (lv_at hl 1 rfl) ?_
  refine fg_1086 C hI shM_0 rfl dX10_home_11 ?_
  refine lv_iload_n hx hb dX10_home_14 rfl (lv_at hl 0 rfl) ?_
  refine lv_iadd hx hb dX10_home_15 ?_
  refine lv_sipush hx hb dX10_home_16 cs_9999 ?_
  refine hicmp_le (tgt := 25) C dX10_home_19 (by decide) h (fun h => ?_) (fun h => ?_)
  · refine lv_aload_n hx hb dX10_home_25 rfl (lv_at hl 1 rfl) ?_
    refine lv_dup hx hb dX10_home_26 rfl ?_
    refine fg_1086 C hI shM_0 rfl dX10_home_27 ?_
    refine lv_iload_n hx hb dX10_home_30 rfl (lv_at hl 0 rfl) ?_
    refine lv_iadd hx hb dX10_home_31 ?_
    refine fp_1086 C hI shM_0 rfl dX10_home_32 (fun H locs hI => ?_)
    refine gx_st h hI (fun s2 h hI => ?_)
    refine lv_aload_n hx hb dX10_home_35 rfl (lv_at hl 1 rfl) ?_
    refine lv_iconst hx hb dX10_home_36 ci_m1 ?_
    refine fp_1085 C hI shM_0 rfl dX10_home_37 (fun H locs hI => ?_)
    refine gx_st h hI (fun s3 h hI => ?_)
    refine lv_aload_n hx hb dX10_home_40 rfl (lv_at hl 1 rfl) ?_
    refine fr_1088 C hI shM_0 rfl dX10_home_41 ?_
    refine lv_iconst hx hb dX10_home_44 ci_0 ?_
    refine lv_dup2_11 hx hb dX10_home_45 rfl rfl ?_
    refine gx_iald C hI shM_18 h dX10_home_46 (fun h => ?_)
    refine lv_iload_n hx hb dX10_home_47 rfl (lv_at hl 0 rfl) ?_
    refine lv_iadd hx hb dX10_home_48 ?_
    refine gx_iast C hI shM_18 h dX10_home_49 (fun H locs h hI => ?_)
    refine gx_st h hI (fun s4 h hI => ?_)
    refine lv_aload_n hx hb dX10_home_50 rfl (lv_at hl 1 rfl) ?_
    refine fg_1086 C hI shM_0 rfl dX10_home_51 ?_
    exact h_iret_w C hr hI h dX10_home_54
  · refine lv_bipush hx hb dX10_home_22 cb_m5 ?_
    exact h_iret_w C hr hI h dX10_home_24
set_option maxRecDepth 100000 in
set_option maxHeartbeats 4000000 in
theorem c_X10_led (l : Launch) (D : va_G) (t : gT) (ad z : Nat → Nat) (hJ : gJ shM ad) (σ : gS) (x1 : Int32) (q : Int32) (h : f_X10_led σ x1 = some q) : Met l yX10_led (Cond.code yX10_led cX10_led 2 (some .int) :: lw_tb) (gR 2 82) (gPc shM t ad D z [.ref (ad 0), .int x1] σ) (gQi shM t ad D q σ) 0 0 (gA shM ad) := by
  refine gMet "NineKeysRoundModel" rfl (by decide) hJ (Nat.le_of_ble_eq_true rfl) ?_
  intro p e s m below meth c ls C hr hI hl
  have hx := C.1
  have hb := C.2.1
  have hl : lv_has ls 2 [(0, .ref (ad 0)), (1, .int x1)] := hl
  unfold f_X10_led at h
  refine lv_iload_n hx hb dX10_led_0 rfl (lv_at hl 1 rfl) ?_
  refine lv_iconst hx hb dX10_led_1 ci_4 ?_
  refine hicmp_ne (tgt := 12) C dX10_led_2 (by decide) h (fun h => ?_) (fun h => ?_)
  · refine lv_iload_n hx hb dX10_led_12 rfl (lv_at hl 1 rfl) ?_
    refine lv_iconst hx hb dX10_led_13 ci_0 ?_
    refine lv_iconst hx hb dX10_led_14 ci_3 ?_
    refine h_callsi_o (rest := []) C hI hl.1 ys_X10_within k_1240 h (fun q hq => c_X10_within l D t ad z C.2.2.2.2.2.2.1 (σ) x1 0 3 q hq) (As := [.int x1, .int 0, .int 3]) rfl rfl ⟨Nat.le_of_ble_eq_true rfl, Nat.le_of_ble_eq_true rfl⟩ (Nat.le_of_ble_eq_true rfl) dX10_led_15 (fun q1 H locs h hI => ?_)
    refine hif_eq (tgt := 30) C dX10_led_18 (by decide) h (fun h => ?_) (fun h => ?_)
    · refine lv_iconst hx hb dX10_led_30 ci_m1 ?_
      exact h_iret_o C hr hI h dX10_led_31
    · refine lv_aload_n hx hb dX10_led_21 rfl (lv_at hl 0 rfl) ?_
      refine fr_1088 C hI shM_0 rfl dX10_led_22 ?_
      refine lv_iload_n hx hb dX10_led_25 rfl (lv_at hl 1 rfl) ?_
      refine gx_iald C hI shM_18 h dX10_led_26 (fun h => ?_)
      refine lv_goto (tgt := 31) hx hb dX10_led_27 (by decide) ?_
      exact h_iret_o C hr hI h dX10_led_31
  · refine lv_aload_n hx hb dX10_led_5 rfl (lv_at hl 0 rfl) ?_
    refine fg_1086 C hI shM_0 rfl dX10_led_6 ?_
    refine lv_goto (tgt := 31) hx hb dX10_led_9 (by decide) ?_
    exact h_iret_o C hr hI h dX10_led_31
set_option maxRecDepth 100000 in
set_option maxHeartbeats 4000000 in
theorem w_X10_image_57 {p : Program} {l : Launch} {e : Env} {s : State} {m : MethodId} {args : Array Value} {below : List Frame} {meth : Method} {c : Code} {D : va_G} {t : gT} {ad z : Nat → Nat} (C : gC p s m args meth c cX10_image 2 "NineKeysRoundModel" D t shM ad z) (hr : meth.sig.returnType = some .int) {r : Int32 × gS} : ∀ (n : Nat) (x1 : Int32) (σ : gS) (H : Heap) (locs : List Loc) (ls : Array Slot), f_X10_image_57 n x1 σ = some r → gI shM t ad D s.heap σ H locs → lv_has ls 2 [(0, .ref (ad 0)), (1, .int x1)] → W p l e (gR 1 60) s m args below meth c H locs 0 0 (MQ below (gQi shM t ad D r.1 r.2) args s 0 0 (gA shM ad)) (F0 m 57 ls []) := by
  have hx := C.1
  have hb := C.2.1
  intro n
  induction n with
  | zero =>
    intro x1 σ H locs ls  h
    exact absurd h (by simp [f_X10_image_57])
  | succ n ih =>
    intro x1 σ H locs ls  h hI hl
    unfold f_X10_image_57 at h
    refine lv_iload_n hx hb dX10_image_57 rfl (lv_at hl 1 rfl) ?_
    refine lv_iconst hx hb dX10_image_58 ci_4 ?_
    refine hicmp_ge (tgt := 80) C dX10_image_59 (by decide) h (fun h => ?_) (fun h => ?_)
    · refine lv_aload_n hx hb dX10_image_80 rfl (lv_at hl 0 rfl) ?_
      refine fg_1086 C hI shM_0 rfl dX10_image_81 ?_
      exact h_iret_w C hr hI h dX10_image_84
    · refine lv_aload_n hx hb dX10_image_62 rfl (lv_at hl 0 rfl) ?_
      refine fr_1094 C hI shM_0 rfl dX10_image_63 ?_
      refine lv_iload_n hx hb dX10_image_66 rfl (lv_at hl 1 rfl) ?_
      refine lv_aload_n hx hb dX10_image_67 rfl (lv_at hl 0 rfl) ?_
      refine fr_1088 C hI shM_0 rfl dX10_image_68 ?_
      refine lv_iload_n hx hb dX10_image_71 rfl (lv_at hl 1 rfl) ?_
      refine gx_iald C hI shM_18 h dX10_image_72 (fun h => ?_)
      refine gx_iast C hI shM_20 h dX10_image_73 (fun H locs h hI => ?_)
      refine gx_st h hI (fun s1 h hI => ?_)
      refine h_iinc C hl dX10_image_74 1 rfl ci_1 h (by decide) (lvf := fun v2 => [(1, .int v2), (0, .ref (ad 0))]) (fun _ => rfl) (fun v2 ls h hl => ?_)
      refine lv_goto (tgt := 57) hx hb dX10_image_77 (by decide) ?_
      exact ih _ _ _ _ _  h hI (lv_sub hl [1, 0] rfl)
set_option maxRecDepth 100000 in
set_option maxHeartbeats 4000000 in
theorem w_X10_image_31 {p : Program} {l : Launch} {e : Env} {s : State} {m : MethodId} {args : Array Value} {below : List Frame} {meth : Method} {c : Code} {D : va_G} {t : gT} {ad z : Nat → Nat} (C : gC p s m args meth c cX10_image 2 "NineKeysRoundModel" D t shM ad z) (hr : meth.sig.returnType = some .int) {r : Int32 × gS} : ∀ (n : Nat) (x1 : Int32) (σ : gS) (H : Heap) (locs : List Loc) (ls : Array Slot), f_X10_image_31 n x1 σ = some r → gI shM t ad D s.heap σ H locs → lv_has ls 2 [(0, .ref (ad 0)), (1, .int x1)] → W p l e (gR 1 60) s m args below meth c H locs 0 0 (MQ below (gQi shM t ad D r.1 r.2) args s 0 0 (gA shM ad)) (F0 m 31 ls []) := by
  have hx := C.1
  have hb := C.2.1
  intro n
  induction n with
  | zero =>
    intro x1 σ H locs ls  h
    exact absurd h (by simp [f_X10_image_31])
  | succ n ih =>
    intro x1 σ H locs ls  h hI hl
    unfold f_X10_image_31 at h
    refine lv_iload_n hx hb dX10_image_31 rfl (lv_at hl 1 rfl) ?_
    refine lv_bipush hx hb dX10_image_32 cb_9 ?_
    refine hicmp_ge (tgt := 55) C dX10_image_34 (by decide) h (fun h => ?_) (fun h => ?_)
    · refine lv_iconst hx hb dX10_image_55 ci_0 ?_
      refine lv_istore_n (lv' := [(1, .int 0), (0, .ref (ad 0))]) hx hb dX10_image_56 rfl hl (by decide) rfl (fun ls hl => ?_)
      exact w_X10_image_57 C hr    _ _ _ _ _ _  h hI (lv_sub hl [1, 0] rfl)
    · refine lv_aload_n hx hb dX10_image_37 rfl (lv_at hl 0 rfl) ?_
      refine fr_1093 C hI shM_0 rfl dX10_image_38 ?_
      refine lv_iload_n hx hb dX10_image_41 rfl (lv_at hl 1 rfl) ?_
      refine lv_aload_n hx hb dX10_image_42 rfl (lv_at hl 0 rfl) ?_
      refine fr_1087 C hI shM_0 rfl dX10_image_43 ?_
      refine lv_iload_n hx hb dX10_image_46 rfl (lv_at hl 1 rfl) ?_
      refine gx_iald C hI shM_17 h dX10_image_47 (fun h => ?_)
      refine gx_iast C hI shM_19 h dX10_image_48 (fun H locs h hI => ?_)
      refine gx_st h hI (fun s1 h hI => ?_)
      refine h_iinc C hl dX10_image_49 1 rfl ci_1 h (by decide) (lvf := fun v2 => [(1, .int v2), (0, .ref (ad 0))]) (fun _ => rfl) (fun v2 ls h hl => ?_)
      refine lv_goto (tgt := 31) hx hb dX10_image_52 (by decide) ?_
      exact ih _ _ _ _ _  h hI (lv_sub hl [1, 0] rfl)
set_option maxRecDepth 100000 in
set_option maxHeartbeats 4000000 in
theorem c_X10_image (l : Launch) (D : va_G) (t : gT) (ad z : Nat → Nat) (hJ : gJ shM ad) (σ : gS) (q : Int32 × gS) (h : f_X10_image σ = some q) : Met l yX10_image (Cond.code yX10_image cX10_image 2 (some .int) :: lw_tb) (gR 1 60) (gPc shM t ad D z [.ref (ad 0)] σ) (gQi shM t ad D q.1 q.2) 0 0 (gA shM ad) := by
  refine gMet "NineKeysRoundModel" rfl (by decide) hJ (Nat.le_of_ble_eq_true rfl) ?_
  intro p e s m below meth c ls C hr hI hl
  have hx := C.1
  have hb := C.2.1
  have hl : lv_has ls 2 [(0, .ref (ad 0))] := hl
  unfold f_X10_image at h
  refine lv_aload_n hx hb dX10_image_0 rfl (lv_at hl 0 rfl) ?_
  refine lv_iconst hx hb dX10_image_1 ci_1 ?_
  obtain ⟨hz, h⟩ := gk_some h
  refine fp_1089 C hI shM_0 rfl hz dX10_image_2 (fun H locs hI => ?_)
  refine gx_st h hI (fun s1 h hI => ?_)
  refine lv_aload_n hx hb dX10_image_5 rfl (lv_at hl 0 rfl) ?_
  refine lv_aload_n hx hb dX10_image_6 rfl (lv_at hl 0 rfl) ?_
  refine fg_1061 C hI shM_0 rfl dX10_image_7 ?_
  refine fp_1090 C hI shM_0 rfl dX10_image_10 (fun H locs hI => ?_)
  refine gx_st h hI (fun s2 h hI => ?_)
  refine lv_aload_n hx hb dX10_image_13 rfl (lv_at hl 0 rfl) ?_
  refine lv_aload_n hx hb dX10_image_14 rfl (lv_at hl 0 rfl) ?_
  refine fg_1085 C hI shM_0 rfl dX10_image_15 ?_
  refine fp_1091 C hI shM_0 rfl dX10_image_18 (fun H locs hI => ?_)
  refine gx_st h hI (fun s3 h hI => ?_)
  refine lv_aload_n hx hb dX10_image_21 rfl (lv_at hl 0 rfl) ?_
  refine lv_aload_n hx hb dX10_image_22 rfl (lv_at hl 0 rfl) ?_
  refine fg_1086 C hI shM_0 rfl dX10_image_23 ?_
  refine fp_1092 C hI shM_0 rfl dX10_image_26 (fun H locs hI => ?_)
  refine gx_st h hI (fun s4 h hI => ?_)
  refine lv_iconst hx hb dX10_image_29 ci_0 ?_
  refine lv_istore_n (lv' := [(1, .int 0), (0, .ref (ad 0))]) hx hb dX10_image_30 rfl hl (by decide) rfl (fun ls hl => ?_)
  exact w_X10_image_31 C hr    _ _ _ _ _ _  h hI (lv_sub hl [1, 0] rfl)
set_option maxRecDepth 100000 in
set_option maxHeartbeats 4000000 in
theorem w_X10_back_57 {p : Program} {l : Launch} {e : Env} {s : State} {m : MethodId} {args : Array Value} {below : List Frame} {meth : Method} {c : Code} {D : va_G} {t : gT} {ad z : Nat → Nat} (C : gC p s m args meth c cX10_back 2 "NineKeysRoundModel" D t shM ad z) (hr : meth.sig.returnType = some .int) {r : Int32 × gS} (K_28 : Int32 → gS → Option (Int32 × gS)) (hK_28 : ∀ (x1 : Int32) (σ : gS) (H : Heap) (locs : List Loc) (ls : Array Slot), K_28 x1 σ = some r → gI shM t ad D s.heap σ H locs → lv_has ls 2 [(0, .ref (ad 0)), (1, .int x1)] → W p l e (gR 1 60) s m args below meth c H locs 0 0 (MQ below (gQi shM t ad D r.1 r.2) args s 0 0 (gA shM ad)) (F0 m 28 ls [])) : ∀ (x1 : Int32) (s0 : Int32) (s1 : Int32) (σ : gS) (H : Heap) (locs : List Loc) (ls : Array Slot), f_X10_back_57 K_28 x1 s0 s1 σ = some r → gI shM t ad D s.heap σ H locs → lv_has ls 2 [(0, .ref (ad 0)), (1, .int x1)] → W p l e (gR 1 60) s m args below meth c H locs 0 0 (MQ below (gQi shM t ad D r.1 r.2) args s 0 0 (gA shM ad)) (F0 m 57 ls [.int s0, .int s1, .ref (ad 17)]) := by
  have hx := C.1
  have hb := C.2.1
  intro x1 s0 s1 σ H locs ls  h hI hl
  unfold f_X10_back_57 at h
  refine gx_iast C hI shM_17 h dX10_back_57 (fun H locs h hI => ?_)
  refine gx_st h hI (fun s1 h hI => ?_)
  refine h_iinc C hl dX10_back_58 1 rfl ci_1 h (by decide) (lvf := fun v2 => [(1, .int v2), (0, .ref (ad 0))]) (fun _ => rfl) (fun v2 ls h hl => ?_)
  refine lv_goto (tgt := 28) hx hb dX10_back_61 (by decide) ?_
  exact hK_28 _ _ _ _ _  h hI (lv_sub hl [1, 0] rfl)
set_option maxRecDepth 100000 in
set_option maxHeartbeats 4000000 in
theorem w_X10_back_66 {p : Program} {l : Launch} {e : Env} {s : State} {m : MethodId} {args : Array Value} {below : List Frame} {meth : Method} {c : Code} {D : va_G} {t : gT} {ad z : Nat → Nat} (C : gC p s m args meth c cX10_back 2 "NineKeysRoundModel" D t shM ad z) (hr : meth.sig.returnType = some .int) {r : Int32 × gS} : ∀ (n : Nat) (x1 : Int32) (σ : gS) (H : Heap) (locs : List Loc) (ls : Array Slot), f_X10_back_66 n x1 σ = some r → gI shM t ad D s.heap σ H locs → lv_has ls 2 [(0, .ref (ad 0)), (1, .int x1)] → W p l e (gR 1 60) s m args below meth c H locs 0 0 (MQ below (gQi shM t ad D r.1 r.2) args s 0 0 (gA shM ad)) (F0 m 66 ls []) := by
  have hx := C.1
  have hb := C.2.1
  intro n
  induction n with
  | zero =>
    intro x1 σ H locs ls  h
    exact absurd h (by simp [f_X10_back_66])
  | succ n ih =>
    intro x1 σ H locs ls  h hI hl
    unfold f_X10_back_66 at h
    refine lv_iload_n hx hb dX10_back_66 rfl (lv_at hl 1 rfl) ?_
    refine lv_iconst hx hb dX10_back_67 ci_4 ?_
    refine hicmp_ge (tgt := 89) C dX10_back_68 (by decide) h (fun h => ?_) (fun h => ?_)
    · refine lv_aload_n hx hb dX10_back_89 rfl (lv_at hl 0 rfl) ?_
      refine fg_1086 C hI shM_0 rfl dX10_back_90 ?_
      exact h_iret_w C hr hI h dX10_back_93
    · refine lv_aload_n hx hb dX10_back_71 rfl (lv_at hl 0 rfl) ?_
      refine fr_1088 C hI shM_0 rfl dX10_back_72 ?_
      refine lv_iload_n hx hb dX10_back_75 rfl (lv_at hl 1 rfl) ?_
      refine lv_aload_n hx hb dX10_back_76 rfl (lv_at hl 0 rfl) ?_
      refine fr_1094 C hI shM_0 rfl dX10_back_77 ?_
      refine lv_iload_n hx hb dX10_back_80 rfl (lv_at hl 1 rfl) ?_
      refine gx_iald C hI shM_20 h dX10_back_81 (fun h => ?_)
      refine gx_iast C hI shM_18 h dX10_back_82 (fun H locs h hI => ?_)
      refine gx_st h hI (fun s1 h hI => ?_)
      refine h_iinc C hl dX10_back_83 1 rfl ci_1 h (by decide) (lvf := fun v2 => [(1, .int v2), (0, .ref (ad 0))]) (fun _ => rfl) (fun v2 ls h hl => ?_)
      refine lv_goto (tgt := 66) hx hb dX10_back_86 (by decide) ?_
      exact ih _ _ _ _ _  h hI (lv_sub hl [1, 0] rfl)
set_option maxRecDepth 100000 in
set_option maxHeartbeats 4000000 in
theorem w_X10_back_28 {p : Program} {l : Launch} {e : Env} {s : State} {m : MethodId} {args : Array Value} {below : List Frame} {meth : Method} {c : Code} {D : va_G} {t : gT} {ad z : Nat → Nat} (C : gC p s m args meth c cX10_back 2 "NineKeysRoundModel" D t shM ad z) (hr : meth.sig.returnType = some .int) {r : Int32 × gS} : ∀ (n : Nat) (x1 : Int32) (σ : gS) (H : Heap) (locs : List Loc) (ls : Array Slot), f_X10_back_28 n x1 σ = some r → gI shM t ad D s.heap σ H locs → lv_has ls 2 [(0, .ref (ad 0)), (1, .int x1)] → W p l e (gR 1 60) s m args below meth c H locs 0 0 (MQ below (gQi shM t ad D r.1 r.2) args s 0 0 (gA shM ad)) (F0 m 28 ls []) := by
  have hx := C.1
  have hb := C.2.1
  intro n
  induction n with
  | zero =>
    intro x1 σ H locs ls  h
    exact absurd h (by simp [f_X10_back_28])
  | succ n ih =>
    intro x1 σ H locs ls  h hI hl
    unfold f_X10_back_28 at h
    refine lv_iload_n hx hb dX10_back_28 rfl (lv_at hl 1 rfl) ?_
    refine lv_bipush hx hb dX10_back_29 cb_9 ?_
    refine hicmp_ge (tgt := 64) C dX10_back_31 (by decide) h (fun h => ?_) (fun h => ?_)
    · refine lv_iconst hx hb dX10_back_64 ci_0 ?_
      refine lv_istore_n (lv' := [(1, .int 0), (0, .ref (ad 0))]) hx hb dX10_back_65 rfl hl (by decide) rfl (fun ls hl => ?_)
      exact w_X10_back_66 C hr    _ _ _ _ _ _  h hI (lv_sub hl [1, 0] rfl)
    · refine lv_aload_n hx hb dX10_back_34 rfl (lv_at hl 0 rfl) ?_
      refine fr_1087 C hI shM_0 rfl dX10_back_35 ?_
      refine lv_iload_n hx hb dX10_back_38 rfl (lv_at hl 1 rfl) ?_
      refine lv_iload_n hx hb dX10_back_39 rfl (lv_at hl 1 rfl) ?_
      refine lv_aload_n hx hb dX10_back_40 rfl (lv_at hl 0 rfl) ?_
      refine fg_1090 C hI shM_0 rfl dX10_back_41 ?_
      refine hicmp_ge (tgt := 56) C dX10_back_44 (by decide) h (fun h => ?_) (fun h => ?_)
      · refine lv_iconst hx hb dX10_back_56 ci_0 ?_
        exact w_X10_back_57 C hr   _ ih _ _ _ _ _ _ _  h hI (lv_sub hl [0, 1] rfl)
      · refine lv_aload_n hx hb dX10_back_47 rfl (lv_at hl 0 rfl) ?_
        refine fr_1093 C hI shM_0 rfl dX10_back_48 ?_
        refine lv_iload_n hx hb dX10_back_51 rfl (lv_at hl 1 rfl) ?_
        refine gx_iald C hI shM_19 h dX10_back_52 (fun h => ?_)
        refine lv_goto (tgt := 57) hx hb dX10_back_53 (by decide) ?_
        exact w_X10_back_57 C hr   _ ih _ _ _ _ _ _ _  h hI (lv_sub hl [0, 1] rfl)
set_option maxRecDepth 100000 in
set_option maxHeartbeats 4000000 in
theorem c_X10_back (l : Launch) (D : va_G) (t : gT) (ad z : Nat → Nat) (hJ : gJ shM ad) (σ : gS) (q : Int32 × gS) (h : f_X10_back σ = some q) : Met l yX10_back (Cond.code yX10_back cX10_back 2 (some .int) :: lw_tb) (gR 1 60) (gPc shM t ad D z [.ref (ad 0)] σ) (gQi shM t ad D q.1 q.2) 0 0 (gA shM ad) := by
  refine gMet "NineKeysRoundModel" rfl (by decide) hJ (Nat.le_of_ble_eq_true rfl) ?_
  intro p e s m below meth c ls C hr hI hl
  have hx := C.1
  have hb := C.2.1
  have hl : lv_has ls 2 [(0, .ref (ad 0))] := hl
  unfold f_X10_back at h
  refine lv_aload_n hx hb dX10_back_0 rfl (lv_at hl 0 rfl) ?_
  refine fg_1089 C hI shM_0 rfl dX10_back_1 ?_
  refine hif_ne (tgt := 10) C dX10_back_4 (by decide) h (fun h => ?_) (fun h => ?_)
  · refine lv_aload_n hx hb dX10_back_10 rfl (lv_at hl 0 rfl) ?_
    refine lv_aload_n hx hb dX10_back_11 rfl (lv_at hl 0 rfl) ?_
    refine fg_1091 C hI shM_0 rfl dX10_back_12 ?_
    refine fp_1085 C hI shM_0 rfl dX10_back_15 (fun H locs hI => ?_)
    refine gx_st h hI (fun s1 h hI => ?_)
    refine lv_aload_n hx hb dX10_back_18 rfl (lv_at hl 0 rfl) ?_
    refine lv_aload_n hx hb dX10_back_19 rfl (lv_at hl 0 rfl) ?_
    refine fg_1092 C hI shM_0 rfl dX10_back_20 ?_
    refine fp_1086 C hI shM_0 rfl dX10_back_23 (fun H locs hI => ?_)
    refine gx_st h hI (fun s2 h hI => ?_)
    refine lv_iconst hx hb dX10_back_26 ci_0 ?_
    refine lv_istore_n (lv' := [(1, .int 0), (0, .ref (ad 0))]) hx hb dX10_back_27 rfl hl (by decide) rfl (fun ls hl => ?_)
    exact w_X10_back_28 C hr    _ _ _ _ _ _  h hI (lv_sub hl [1, 0] rfl)
  · refine lv_bipush hx hb dX10_back_7 cb_m5 ?_
    exact h_iret_w C hr hI h dX10_back_9
set_option maxRecDepth 100000 in
set_option maxHeartbeats 4000000 in
theorem c_X10_above (l : Launch) (D : va_G) (t : gT) (ad z : Nat → Nat) (hJ : gJ shM ad) (σ : gS) (x0 : Int32) (q : Int32) (h : f_X10_above σ x0 = some q) : Met l yX10_above (Cond.code yX10_above cX10_above 1 (some .int) :: lw_tb) (gR 1 60) (gPc shM t ad D z [.int x0] σ) (gQi shM t ad D q σ) 0 0 (gA shM ad) := by
  refine gMet "NineKeysRoundModel" rfl (by decide) hJ (Nat.le_of_ble_eq_true rfl) ?_
  intro p e s m below meth c ls C hr hI hl
  have hx := C.1
  have hb := C.2.1
  have hl : lv_has ls 1 [(0, .int x0)] := hl
  unfold f_X10_above at h
  refine lv_iload_n hx hb dX10_above_0 rfl (lv_at hl 0 rfl) ?_
  by_cases hc_ : x0 = 3
  · rw [if_pos hc_] at h
    refine lv_tableIn (tgt := 36) (off := 35) hx hb dX10_above_1 (by rw [hc_]; decide) (by rw [hc_]; decide) (by rw [hc_]; rfl) (by decide) ?_
    refine lv_iconst hx hb dX10_above_36 ci_2 ?_
    exact h_iret_o C hr hI h dX10_above_37
  · rw [if_neg hc_] at h
    have hn_0 := hc_
    by_cases hc_ : x0 = 4
    · rw [if_pos hc_] at h
      refine lv_tableIn (tgt := 38) (off := 37) hx hb dX10_above_1 (by rw [hc_]; decide) (by rw [hc_]; decide) (by rw [hc_]; rfl) (by decide) ?_
      refine lv_iconst hx hb dX10_above_38 ci_1 ?_
      exact h_iret_o C hr hI h dX10_above_39
    · rw [if_neg hc_] at h
      have hn_1 := hc_
      by_cases hc_ : x0 = 5
      · rw [if_pos hc_] at h
        refine lv_tableIn (tgt := 40) (off := 39) hx hb dX10_above_1 (by rw [hc_]; decide) (by rw [hc_]; decide) (by rw [hc_]; rfl) (by decide) ?_
        refine lv_iconst hx hb dX10_above_40 ci_3 ?_
        exact h_iret_o C hr hI h dX10_above_41
      · rw [if_neg hc_] at h
        have hn_2 := hc_
        by_cases hc_ : x0 = 6
        · rw [if_pos hc_] at h
          refine lv_tableIn (tgt := 44) (off := 43) hx hb dX10_above_1 (by rw [hc_]; decide) (by rw [hc_]; decide) (by rw [hc_]; rfl) (by decide) ?_
          refine lv_iconst hx hb dX10_above_44 ci_0 ?_
          exact h_iret_o C hr hI h dX10_above_45
        · rw [if_neg hc_] at h
          have hn_3 := hc_
          by_cases hc_ : x0 = 7
          · rw [if_pos hc_] at h
            refine lv_tableIn (tgt := 42) (off := 41) hx hb dX10_above_1 (by rw [hc_]; decide) (by rw [hc_]; decide) (by rw [hc_]; rfl) (by decide) ?_
            refine lv_iconst hx hb dX10_above_42 ci_4 ?_
            exact h_iret_o C hr hI h dX10_above_43
          · rw [if_neg hc_] at h
            have hn_4 := hc_
            have hout : x0.toInt < 3 ∨ 7 < x0.toInt := by
              have e0 := tsne (c := 3) (z := 3) (by decide) hn_0
              have e1 := tsne (c := 4) (z := 4) (by decide) hn_1
              have e2 := tsne (c := 5) (z := 5) (by decide) hn_2
              have e3 := tsne (c := 6) (z := 6) (by decide) hn_3
              have e4 := tsne (c := 7) (z := 7) (by decide) hn_4
              omega
            refine lv_tableOut (tgt := 44) hx hb dX10_above_1 hout (by decide) ?_
            refine lv_iconst hx hb dX10_above_44 ci_0 ?_
            exact h_iret_o C hr hI h dX10_above_45
set_option maxRecDepth 100000 in
set_option maxHeartbeats 4000000 in
theorem w_X10_ran_19 {p : Program} {l : Launch} {e : Env} {s : State} {m : MethodId} {args : Array Value} {below : List Frame} {meth : Method} {c : Code} {D : va_G} {t : gT} {ad z : Nat → Nat} (C : gC p s m args meth c cX10_ran 2 "NineKeysRoundModel" D t shM ad z) (hr : meth.sig.returnType = none) {r : gS} : ∀ (σ : gS) (H : Heap) (locs : List Loc) (ls : Array Slot), f_X10_ran_19 σ = some r → gI shM t ad D s.heap σ H locs → lv_has ls 2 [(0, .ref (ad 0))] → W p l e (gR 1 60) s m args below meth c H locs 0 0 (MQ below (gQv shM t ad D r) args s 0 0 (gA shM ad)) (F0 m 19 ls []) := by
  have hx := C.1
  have hb := C.2.1
  intro σ H locs ls  h hI hl
  unfold f_X10_ran_19 at h
  refine lv_aload_n hx hb dX10_ran_19 rfl (lv_at hl 0 rfl) ?_
  refine lv_dup hx hb dX10_ran_20 rfl ?_
  refine fg_1100 C hI shM_0 rfl dX10_ran_21 ?_
  refine lv_iconst hx hb dX10_ran_24 ci_1 ?_
  refine lv_iadd hx hb dX10_ran_25 ?_
  refine fp_1100 C hI shM_0 rfl dX10_ran_26 (fun H locs hI => ?_)
  refine gx_st h hI (fun s1 h hI => ?_)
  exact h_vret_w C hr hI h dX10_ran_29
set_option maxRecDepth 100000 in
set_option maxHeartbeats 4000000 in
theorem c_X10_ran (l : Launch) (D : va_G) (t : gT) (ad z : Nat → Nat) (hJ : gJ shM ad) (σ : gS) (x1 : Int32) (q : gS) (h : f_X10_ran σ x1 = some q) : Met l yX10_ran (Cond.code yX10_ran cX10_ran 2 (none) :: lw_tb) (gR 1 60) (gPc shM t ad D z [.ref (ad 0), .int x1] σ) (gQv shM t ad D q) 0 0 (gA shM ad) := by
  refine gMet "NineKeysRoundModel" rfl (by decide) hJ (Nat.le_of_ble_eq_true rfl) ?_
  intro p e s m below meth c ls C hr hI hl
  have hx := C.1
  have hb := C.2.1
  have hl : lv_has ls 2 [(0, .ref (ad 0)), (1, .int x1)] := hl
  unfold f_X10_ran at h
  refine lv_aload_n hx hb dX10_ran_0 rfl (lv_at hl 0 rfl) ?_
  refine fg_1100 C hI shM_0 rfl dX10_ran_1 ?_
  refine lv_bipush hx hb dX10_ran_4 cb_24 ?_
  refine hicmp_ge (tgt := 19) C dX10_ran_6 (by decide) h (fun h => ?_) (fun h => ?_)
  · exact w_X10_ran_19 C hr     _ _ _ _  h hI (lv_sub hl [0] rfl)
  · refine lv_aload_n hx hb dX10_ran_9 rfl (lv_at hl 0 rfl) ?_
    refine fr_1101 C hI shM_0 rfl dX10_ran_10 ?_
    refine lv_aload_n hx hb dX10_ran_13 rfl (lv_at hl 0 rfl) ?_
    refine fg_1100 C hI shM_0 rfl dX10_ran_14 ?_
    refine lv_iload_n hx hb dX10_ran_17 rfl (lv_at hl 1 rfl) ?_
    refine gx_iast C hI shM_23 h dX10_ran_18 (fun H locs h hI => ?_)
    refine gx_st h hI (fun s1 h hI => ?_)
    exact w_X10_ran_19 C hr     _ _ _ _  h hI (lv_sub hl [0] rfl)
set_option maxRecDepth 100000 in
set_option maxHeartbeats 4000000 in
theorem cr_X10_turnsBy (l : Launch) (D : va_G) (t : gT) (ad z : Nat → Nat) (hJ : gJ shM ad) {R_X10_turnsBy : gS → Int32 → Int32 → Int32 → Option (Int32 × gS)} {fr lo : Nat} (hfr : 2 ≤ fr) (hlo : 81 ≤ lo) (hR_X10_turnsBy : ∀ (σ : gS) (x1 : Int32) (x2 : Int32) (x3 : Int32) (q : Int32 × gS), R_X10_turnsBy σ x1 x2 x3 = some q → Met l yX10_turnsBy (Cond.code yX10_turnsBy cX10_turnsBy 4 (some .int) :: lw_tb) (gR fr lo) (gPc shM t ad D z [.ref (ad 0), .int x1, .int x2, .int x3] σ) (gQi shM t ad D q.1 q.2) 0 0 (gA shM ad)) (σ : gS) (x1 : Int32) (x2 : Int32) (x3 : Int32) (q : Int32 × gS) (h : F_X10_turnsBy R_X10_turnsBy σ x1 x2 x3 = some q) : Met l yX10_turnsBy (Cond.code yX10_turnsBy cX10_turnsBy 4 (some .int) :: lw_tb) (gR (fr + 1) (lo + 23)) (gPc shM t ad D z [.ref (ad 0), .int x1, .int x2, .int x3] σ) (gQi shM t ad D q.1 q.2) 0 0 (gA shM ad) := by
  refine gMet "NineKeysRoundModel" rfl (by decide) hJ (Nat.le_of_ble_eq_true rfl) ?_
  intro p e s m below meth c ls C hr hI hl
  have hx := C.1
  have hb := C.2.1
  have hl : lv_has ls 4 [(0, .ref (ad 0)), (1, .int x1), (2, .int x2), (3, .int x3)] := hl
  unfold F_X10_turnsBy at h
  refine lv_iload_n hx hb dX10_turnsBy_0 rfl (lv_at hl 2 rfl) ?_
  by_cases hc_ : x2 = 0
  · rw [if_pos hc_] at h
    refine lv_lookup (tgt := 36) (off := 35) hx hb dX10_turnsBy_1 (by decide) (by rw [hc_]; decide) (by decide) ?_
    refine lv_aload_n hx hb dX10_turnsBy_36 rfl (lv_at hl 0 rfl) ?_
    refine lv_iconst hx hb dX10_turnsBy_37 ci_1 ?_
    refine h_callvv_w (rest := []) C hI hl.1 shM_0 rfl yv_X10_ran k_1596 h (fun q hq => c_X10_ran l D t ad z C.2.2.2.2.2.2.1 (σ) 1 q hq) (As := [.int 1]) rfl rfl ⟨by show _ ≤ fr + 1; omega, by show _ ≤ lo + 23; omega⟩ (Nat.le_of_ble_eq_true rfl) dX10_turnsBy_38 (fun q1 H locs h hI => ?_)
    refine lv_iload_n hx hb dX10_turnsBy_41 rfl (lv_at hl 3 rfl) ?_
    refine lv_iload_n hx hb dX10_turnsBy_42 rfl (lv_at hl 1 rfl) ?_
    refine lv_iadd hx hb dX10_turnsBy_43 ?_
    exact h_iret_w C hr hI h dX10_turnsBy_44
  · rw [if_neg hc_] at h
    have hn_0 := hc_
    by_cases hc_ : x2 = 1
    · rw [if_pos hc_] at h
      refine lv_lookup (tgt := 45) (off := 44) hx hb dX10_turnsBy_1 (by decide) (by rw [hc_]; decide) (by decide) ?_
      refine lv_aload_n hx hb dX10_turnsBy_45 rfl (lv_at hl 0 rfl) ?_
      refine lv_bipush hx hb dX10_turnsBy_46 cb_20 ?_
      refine h_callvv_w (rest := []) C hI hl.1 shM_0 rfl yv_X10_ran k_1596 h (fun q hq => c_X10_ran l D t ad z C.2.2.2.2.2.2.1 (σ) 20 q hq) (As := [.int 20]) rfl rfl ⟨by show _ ≤ fr + 1; omega, by show _ ≤ lo + 23; omega⟩ (Nat.le_of_ble_eq_true rfl) dX10_turnsBy_48 (fun q2 H locs h hI => ?_)
      refine lv_aload_n hx hb dX10_turnsBy_51 rfl (lv_at hl 0 rfl) ?_
      refine lv_iload_n hx hb dX10_turnsBy_52 rfl (lv_at hl 1 rfl) ?_
      refine lv_iconst hx hb dX10_turnsBy_53 ci_0 ?_
      refine lv_iload_n hx hb dX10_turnsBy_54 rfl (lv_at hl 3 rfl) ?_
      refine h_callvi_w (rest := []) C hI hl.1 shM_0 rfl yv_X10_turnsBy k_1592 h (fun q hq => hR_X10_turnsBy q2 x1 0 x3 q hq) (As := [.int x1, .int 0, .int x3]) rfl rfl ⟨by show _ ≤ fr + 1; omega, by show _ ≤ lo + 23; omega⟩ (Nat.le_of_ble_eq_true rfl) dX10_turnsBy_55 (fun q3 H locs h hI => ?_)
      refine lv_iconst hx hb dX10_turnsBy_58 ci_3 ?_
      refine lv_iadd hx hb dX10_turnsBy_59 ?_
      exact h_iret_w C hr hI h dX10_turnsBy_60
    · rw [if_neg hc_] at h
      have hn_1 := hc_
      by_cases hc_ : x2 = 6
      · rw [if_pos hc_] at h
        refine lv_lookup (tgt := 61) (off := 60) hx hb dX10_turnsBy_1 (by decide) (by rw [hc_]; decide) (by decide) ?_
        refine lv_aload_n hx hb dX10_turnsBy_61 rfl (lv_at hl 0 rfl) ?_
        refine lv_bipush hx hb dX10_turnsBy_62 cb_70 ?_
        refine h_callvv_w (rest := []) C hI hl.1 shM_0 rfl yv_X10_ran k_1596 h (fun q hq => c_X10_ran l D t ad z C.2.2.2.2.2.2.1 (σ) 70 q hq) (As := [.int 70]) rfl rfl ⟨by show _ ≤ fr + 1; omega, by show _ ≤ lo + 23; omega⟩ (Nat.le_of_ble_eq_true rfl) dX10_turnsBy_64 (fun q4 H locs h hI => ?_)
        refine lv_aload_n hx hb dX10_turnsBy_67 rfl (lv_at hl 0 rfl) ?_
        refine lv_iload_n hx hb dX10_turnsBy_68 rfl (lv_at hl 1 rfl) ?_
        refine lv_iconst hx hb dX10_turnsBy_69 ci_0 ?_
        refine lv_iload_n hx hb dX10_turnsBy_70 rfl (lv_at hl 3 rfl) ?_
        refine h_callvi_w (rest := []) C hI hl.1 shM_0 rfl yv_X10_turnsBy k_1592 h (fun q hq => hR_X10_turnsBy q4 x1 0 x3 q hq) (As := [.int x1, .int 0, .int x3]) rfl rfl ⟨by show _ ≤ fr + 1; omega, by show _ ≤ lo + 23; omega⟩ (Nat.le_of_ble_eq_true rfl) dX10_turnsBy_71 (fun q5 H locs h hI => ?_)
        refine lv_iconst hx hb dX10_turnsBy_74 ci_2 ?_
        refine lv_imul hx hb dX10_turnsBy_75 ?_
        exact h_iret_w C hr hI h dX10_turnsBy_76
      · rw [if_neg hc_] at h
        have hn_2 := hc_
        have hout : Op.lookupswitch.offset (#[(0, 35), (1, 44), (6, 60)] : Array (Int × Int)).toList 76 x2.toInt = 76 := by
          have e0 := tsne (c := 0) (z := 0) (by decide) hn_0
          have e1 := tsne (c := 1) (z := 1) (by decide) hn_1
          have e2 := tsne (c := 6) (z := 6) (by decide) hn_2
          exact lkout _ _ _ (List.forall_mem_cons.mpr ⟨Ne.symm e0, List.forall_mem_cons.mpr ⟨Ne.symm e1, List.forall_mem_cons.mpr ⟨Ne.symm e2, fun _ hh => absurd hh List.not_mem_nil⟩⟩⟩)
        refine lv_lookup (tgt := 77) hx hb dX10_turnsBy_1 (by decide) hout (by decide) ?_
        refine lv_aload_n hx hb dX10_turnsBy_77 rfl (lv_at hl 0 rfl) ?_
        refine lv_iload_n hx hb dX10_turnsBy_78 rfl (lv_at hl 1 rfl) ?_
        refine lv_iload_n hx hb dX10_turnsBy_79 rfl (lv_at hl 2 rfl) ?_
        refine h_callsi_o (rest := [.int x1, .ref (ad 0)]) C hI hl.1 ys_X10_above k_1600 h (fun q hq => c_X10_above l D t ad z C.2.2.2.2.2.2.1 (σ) x2 q hq) (As := [.int x2]) rfl rfl ⟨by show _ ≤ fr + 1; omega, by show _ ≤ lo + 23; omega⟩ (Nat.le_of_ble_eq_true rfl) dX10_turnsBy_80 (fun q6 H locs h hI => ?_)
        refine lv_iload_n hx hb dX10_turnsBy_83 rfl (lv_at hl 3 rfl) ?_
        refine h_callvi_w (rest := []) C hI hl.1 shM_0 rfl yv_X10_turnsBy k_1592 h (fun q hq => hR_X10_turnsBy (σ) x1 q6 x3 q hq) (As := [.int x1, .int q6, .int x3]) rfl rfl ⟨by show _ ≤ fr + 1; omega, by show _ ≤ lo + 23; omega⟩ (Nat.le_of_ble_eq_true rfl) dX10_turnsBy_84 (fun q7 H locs h hI => ?_)
        exact h_iret_w C hr hI h dX10_turnsBy_87
set_option maxRecDepth 100000 in
set_option maxHeartbeats 4000000 in
theorem cR_X10_turnsBy (l : Launch) (D : va_G) (t : gT) (ad z : Nat → Nat) (hJ : gJ shM ad) : ∀ d : Nat, (∀ (σ : gS) (x1 : Int32) (x2 : Int32) (x3 : Int32) (q : Int32 × gS), (fR_X10_turnsBy d) σ x1 x2 x3 = some q → Met l yX10_turnsBy (Cond.code yX10_turnsBy cX10_turnsBy 4 (some .int) :: lw_tb) (gR (2 + d) (81 + d * 23)) (gPc shM t ad D z [.ref (ad 0), .int x1, .int x2, .int x3] σ) (gQi shM t ad D q.1 q.2) 0 0 (gA shM ad)) := by
  intro d
  induction d with
  | zero => exact fun _ _ _ _ _ h => absurd h (by simp [fR_X10_turnsBy])
  | succ d ih =>
    rw [show 81 + (d + 1) * 23 = 81 + d * 23 + 23 by rw [Nat.succ_mul, Nat.add_assoc]]
    exact fun σ x1 x2 x3 q h => cr_X10_turnsBy l D t ad z hJ (fr := 2 + d) (lo := 81 + d * 23) (by omega) (by omega) ih σ x1 x2 x3 q h
theorem c_X10_turnsBy (l : Launch) (D : va_G) (t : gT) (ad z : Nat → Nat) (hJ : gJ shM ad) (σ : gS) (x1 : Int32) (x2 : Int32) (x3 : Int32) (q : Int32 × gS) (h : f_X10_turnsBy σ x1 x2 x3 = some q) : Met l yX10_turnsBy (Cond.code yX10_turnsBy cX10_turnsBy 4 (some .int) :: lw_tb) (gR 66 1553) (gPc shM t ad D z [.ref (ad 0), .int x1, .int x2, .int x3] σ) (gQi shM t ad D q.1 q.2) 0 0 (gA shM ad) := (cR_X10_turnsBy l D t ad z hJ 64) σ x1 x2 x3 q h
set_option maxRecDepth 100000 in
set_option maxHeartbeats 4000000 in
theorem w_X10_fearsBy_93 {p : Program} {l : Launch} {e : Env} {s : State} {m : MethodId} {args : Array Value} {below : List Frame} {meth : Method} {c : Code} {D : va_G} {t : gT} {ad z : Nat → Nat} {R_X10_fearsBy : gS → Int32 → Int32 → Int32 → Option (Int32 × gS)} (C : gC p s m args meth c cX10_fearsBy 5 "NineKeysRoundModel" D t shM ad z) (hr : meth.sig.returnType = some .int) {fr lo : Nat} (hfr : 67 ≤ fr) (hlo : 1576 ≤ lo) (hR_X10_fearsBy : ∀ (σ : gS) (x1 : Int32) (x2 : Int32) (x3 : Int32) (q : Int32 × gS), R_X10_fearsBy σ x1 x2 x3 = some q → Met l yX10_fearsBy (Cond.code yX10_fearsBy cX10_fearsBy 5 (some .int) :: lw_tb) (gR fr lo) (gPc shM t ad D z [.ref (ad 0), .int x1, .int x2, .int x3] σ) (gQi shM t ad D q.1 q.2) 0 0 (gA shM ad)) {r : Int32 × gS} : ∀ (x1 : Int32) (x2 : Int32) (x3 : Int32) (σ : gS) (H : Heap) (locs : List Loc) (ls : Array Slot), f_X10_fearsBy_93 R_X10_fearsBy x1 x2 x3 σ = some r → gI shM t ad D s.heap σ H locs → lv_has ls 5 [(0, .ref (ad 0)), (1, .int x1), (2, .int x2), (3, .int x3)] → W p l e (gR (fr + 1) (lo + 24)) s m args below meth c H locs 0 0 (MQ below (gQi shM t ad D r.1 r.2) args s 0 0 (gA shM ad)) (F0 m 93 ls []) := by
  have hx := C.1
  have hb := C.2.1
  intro x1 x2 x3 σ H locs ls  h hI hl
  unfold f_X10_fearsBy_93 at h
  refine lv_aload_n hx hb dX10_fearsBy_93 rfl (lv_at hl 0 rfl) ?_
  refine lv_iload_n hx hb dX10_fearsBy_94 rfl (lv_at hl 1 rfl) ?_
  refine lv_iload_n hx hb dX10_fearsBy_95 rfl (lv_at hl 2 rfl) ?_
  refine h_callsi_o (rest := [.int x1, .ref (ad 0)]) C hI hl.1 ys_X10_above k_1600 h (fun q hq => c_X10_above l D t ad z C.2.2.2.2.2.2.1 (σ) x2 q hq) (As := [.int x2]) rfl rfl ⟨by show _ ≤ fr + 1; omega, by show _ ≤ lo + 24; omega⟩ (Nat.le_of_ble_eq_true rfl) dX10_fearsBy_96 (fun q1 H locs h hI => ?_)
  refine lv_iload_n hx hb dX10_fearsBy_99 rfl (lv_at hl 3 rfl) ?_
  refine h_callvi_w (rest := []) C hI hl.1 shM_0 rfl yv_X10_fearsBy k_1607 h (fun q hq => hR_X10_fearsBy (σ) x1 q1 x3 q hq) (As := [.int x1, .int q1, .int x3]) rfl rfl ⟨by show _ ≤ fr + 1; omega, by show _ ≤ lo + 24; omega⟩ (Nat.le_of_ble_eq_true rfl) dX10_fearsBy_100 (fun q2 H locs h hI => ?_)
  exact h_iret_w C hr hI h dX10_fearsBy_103
set_option maxRecDepth 100000 in
set_option maxHeartbeats 4000000 in
theorem cr_X10_fearsBy (l : Launch) (D : va_G) (t : gT) (ad z : Nat → Nat) (hJ : gJ shM ad) {R_X10_fearsBy : gS → Int32 → Int32 → Int32 → Option (Int32 × gS)} {fr lo : Nat} (hfr : 67 ≤ fr) (hlo : 1576 ≤ lo) (hR_X10_fearsBy : ∀ (σ : gS) (x1 : Int32) (x2 : Int32) (x3 : Int32) (q : Int32 × gS), R_X10_fearsBy σ x1 x2 x3 = some q → Met l yX10_fearsBy (Cond.code yX10_fearsBy cX10_fearsBy 5 (some .int) :: lw_tb) (gR fr lo) (gPc shM t ad D z [.ref (ad 0), .int x1, .int x2, .int x3] σ) (gQi shM t ad D q.1 q.2) 0 0 (gA shM ad)) (σ : gS) (x1 : Int32) (x2 : Int32) (x3 : Int32) (q : Int32 × gS) (h : F_X10_fearsBy R_X10_fearsBy σ x1 x2 x3 = some q) : Met l yX10_fearsBy (Cond.code yX10_fearsBy cX10_fearsBy 5 (some .int) :: lw_tb) (gR (fr + 1) (lo + 24)) (gPc shM t ad D z [.ref (ad 0), .int x1, .int x2, .int x3] σ) (gQi shM t ad D q.1 q.2) 0 0 (gA shM ad) := by
  refine gMet "NineKeysRoundModel" rfl (by decide) hJ (Nat.le_of_ble_eq_true rfl) ?_
  intro p e s m below meth c ls C hr hI hl
  have hx := C.1
  have hb := C.2.1
  have hl : lv_has ls 5 [(0, .ref (ad 0)), (1, .int x1), (2, .int x2), (3, .int x3)] := hl
  unfold F_X10_fearsBy at h
  refine lv_iload_n hx hb dX10_fearsBy_0 rfl (lv_at hl 2 rfl) ?_
  by_cases hc_ : x2 = 0
  · rw [if_pos hc_] at h
    refine lv_tableIn (tgt := 36) (off := 35) hx hb dX10_fearsBy_1 (by rw [hc_]; decide) (by rw [hc_]; decide) (by rw [hc_]; rfl) (by decide) ?_
    refine lv_aload_n hx hb dX10_fearsBy_36 rfl (lv_at hl 0 rfl) ?_
    refine lv_bipush hx hb dX10_fearsBy_37 cb_11 ?_
    refine h_callvv_w (rest := []) C hI hl.1 shM_0 rfl yv_X10_ran k_1596 h (fun q hq => c_X10_ran l D t ad z C.2.2.2.2.2.2.1 (σ) 11 q hq) (As := [.int 11]) rfl rfl ⟨by show _ ≤ fr + 1; omega, by show _ ≤ lo + 24; omega⟩ (Nat.le_of_ble_eq_true rfl) dX10_fearsBy_39 (fun q1 H locs h hI => ?_)
    refine lv_iload_n hx hb dX10_fearsBy_42 rfl (lv_at hl 3 rfl) ?_
    refine lv_iload_n hx hb dX10_fearsBy_43 rfl (lv_at hl 1 rfl) ?_
    refine lv_ixor hx hb dX10_fearsBy_44 ?_
    exact h_iret_w C hr hI h dX10_fearsBy_45
  · rw [if_neg hc_] at h
    have hn_0 := hc_
    by_cases hc_ : x2 = 1
    · rw [if_pos hc_] at h
      refine lv_tableIn (tgt := 93) (off := 92) hx hb dX10_fearsBy_1 (by rw [hc_]; decide) (by rw [hc_]; decide) (by rw [hc_]; rfl) (by decide) ?_
      exact w_X10_fearsBy_93 C hr hfr hlo hR_X10_fearsBy   _ _ _ _ _ _ _  h hI (lv_sub hl [0, 1, 2, 3] rfl)
    · rw [if_neg hc_] at h
      have hn_1 := hc_
      by_cases hc_ : x2 = 2
      · rw [if_pos hc_] at h
        refine lv_tableIn (tgt := 93) (off := 92) hx hb dX10_fearsBy_1 (by rw [hc_]; decide) (by rw [hc_]; decide) (by rw [hc_]; rfl) (by decide) ?_
        exact w_X10_fearsBy_93 C hr hfr hlo hR_X10_fearsBy   _ _ _ _ _ _ _  h hI (lv_sub hl [0, 1, 2, 3] rfl)
      · rw [if_neg hc_] at h
        have hn_2 := hc_
        by_cases hc_ : x2 = 3
        · rw [if_pos hc_] at h
          refine lv_tableIn (tgt := 46) (off := 45) hx hb dX10_fearsBy_1 (by rw [hc_]; decide) (by rw [hc_]; decide) (by rw [hc_]; rfl) (by decide) ?_
          refine lv_aload_n hx hb dX10_fearsBy_46 rfl (lv_at hl 0 rfl) ?_
          refine lv_bipush hx hb dX10_fearsBy_47 cb_40 ?_
          refine h_callvv_w (rest := []) C hI hl.1 shM_0 rfl yv_X10_ran k_1596 h (fun q hq => c_X10_ran l D t ad z C.2.2.2.2.2.2.1 (σ) 40 q hq) (As := [.int 40]) rfl rfl ⟨by show _ ≤ fr + 1; omega, by show _ ≤ lo + 24; omega⟩ (Nat.le_of_ble_eq_true rfl) dX10_fearsBy_49 (fun q2 H locs h hI => ?_)
          refine lv_aload_n hx hb dX10_fearsBy_52 rfl (lv_at hl 0 rfl) ?_
          refine lv_iload_n hx hb dX10_fearsBy_53 rfl (lv_at hl 1 rfl) ?_
          refine lv_iconst hx hb dX10_fearsBy_54 ci_2 ?_
          refine lv_iload_n hx hb dX10_fearsBy_55 rfl (lv_at hl 3 rfl) ?_
          refine h_callvi_w (rest := []) C hI hl.1 shM_0 rfl yv_X10_fearsBy k_1607 h (fun q hq => hR_X10_fearsBy q2 x1 2 x3 q hq) (As := [.int x1, .int 2, .int x3]) rfl rfl ⟨by show _ ≤ fr + 1; omega, by show _ ≤ lo + 24; omega⟩ (Nat.le_of_ble_eq_true rfl) dX10_fearsBy_56 (fun q3 H locs h hI => ?_)
          refine lv_iconst hx hb dX10_fearsBy_59 ci_3 ?_
          refine lv_imul hx hb dX10_fearsBy_60 ?_
          exact h_iret_w C hr hI h dX10_fearsBy_61
        · rw [if_neg hc_] at h
          have hn_3 := hc_
          by_cases hc_ : x2 = 4
          · rw [if_pos hc_] at h
            refine lv_tableIn (tgt := 62) (off := 61) hx hb dX10_fearsBy_1 (by rw [hc_]; decide) (by rw [hc_]; decide) (by rw [hc_]; rfl) (by decide) ?_
            refine lv_aload_n hx hb dX10_fearsBy_62 rfl (lv_at hl 0 rfl) ?_
            refine lv_bipush hx hb dX10_fearsBy_63 cb_50 ?_
            refine h_callvv_w (rest := []) C hI hl.1 shM_0 rfl yv_X10_ran k_1596 h (fun q hq => c_X10_ran l D t ad z C.2.2.2.2.2.2.1 (σ) 50 q hq) (As := [.int 50]) rfl rfl ⟨by show _ ≤ fr + 1; omega, by show _ ≤ lo + 24; omega⟩ (Nat.le_of_ble_eq_true rfl) dX10_fearsBy_65 (fun q4 H locs h hI => ?_)
            refine lv_aload_n hx hb dX10_fearsBy_68 rfl (lv_at hl 0 rfl) ?_
            refine lv_iload_n hx hb dX10_fearsBy_69 rfl (lv_at hl 1 rfl) ?_
            refine lv_iconst hx hb dX10_fearsBy_70 ci_1 ?_
            refine lv_iload_n hx hb dX10_fearsBy_71 rfl (lv_at hl 3 rfl) ?_
            refine h_callvi_w (rest := []) C hI hl.1 shM_0 rfl yv_X10_fearsBy k_1607 h (fun q hq => hR_X10_fearsBy q4 x1 1 x3 q hq) (As := [.int x1, .int 1, .int x3]) rfl rfl ⟨by show _ ≤ fr + 1; omega, by show _ ≤ lo + 24; omega⟩ (Nat.le_of_ble_eq_true rfl) dX10_fearsBy_72 (fun q5 H locs h hI => ?_)
            refine lv_istore (lv' := [(4, .int q5.1), (0, .ref (ad 0)), (1, .int x1), (2, .int x2), (3, .int x3)]) hx hb dX10_fearsBy_75 hl (by decide) rfl (fun ls hl => ?_)
            refine lv_iload hx hb dX10_fearsBy_77 (lv_at hl 0 rfl) ?_
            refine lv_aload_n hx hb dX10_fearsBy_79 rfl (lv_at hl 1 rfl) ?_
            refine lv_iload_n hx hb dX10_fearsBy_80 rfl (lv_at hl 2 rfl) ?_
            refine lv_aload_n hx hb dX10_fearsBy_81 rfl (lv_at hl 1 rfl) ?_
            refine fr_1099 C hI shM_0 rfl dX10_fearsBy_82 ?_
            refine lv_iload_n hx hb dX10_fearsBy_85 rfl (lv_at hl 2 rfl) ?_
            refine gx_iald C hI shM_22 h dX10_fearsBy_86 (fun h => ?_)
            refine lv_iconst hx hb dX10_fearsBy_87 ci_2 ?_
            refine h_callvi_w (rest := [.int q5.1]) C hI hl.1 shM_0 rfl yv_X10_turnsBy k_1592 h (fun q hq => c_X10_turnsBy l D t ad z C.2.2.2.2.2.2.1 q5.2 x1 (q5.2.1 22 (x1).toNatClampNeg) 2 q hq) (As := [.int x1, .int (q5.2.1 22 (x1).toNatClampNeg), .int 2]) rfl rfl ⟨by show _ ≤ fr + 1; omega, by show _ ≤ lo + 24; omega⟩ (Nat.le_of_ble_eq_true rfl) dX10_fearsBy_88 (fun q6 H locs h hI => ?_)
            refine lv_isub hx hb dX10_fearsBy_91 ?_
            exact h_iret_w C hr hI h dX10_fearsBy_92
          · rw [if_neg hc_] at h
            have hn_4 := hc_
            have hout : x2.toInt < 0 ∨ 4 < x2.toInt := by
              have e0 := tsne (c := 0) (z := 0) (by decide) hn_0
              have e1 := tsne (c := 1) (z := 1) (by decide) hn_1
              have e2 := tsne (c := 2) (z := 2) (by decide) hn_2
              have e3 := tsne (c := 3) (z := 3) (by decide) hn_3
              have e4 := tsne (c := 4) (z := 4) (by decide) hn_4
              omega
            refine lv_tableOut (tgt := 93) hx hb dX10_fearsBy_1 hout (by decide) ?_
            exact w_X10_fearsBy_93 C hr hfr hlo hR_X10_fearsBy   _ _ _ _ _ _ _  h hI (lv_sub hl [0, 1, 2, 3] rfl)
set_option maxRecDepth 100000 in
set_option maxHeartbeats 4000000 in
theorem cR_X10_fearsBy (l : Launch) (D : va_G) (t : gT) (ad z : Nat → Nat) (hJ : gJ shM ad) : ∀ d : Nat, (∀ (σ : gS) (x1 : Int32) (x2 : Int32) (x3 : Int32) (q : Int32 × gS), (fR_X10_fearsBy d) σ x1 x2 x3 = some q → Met l yX10_fearsBy (Cond.code yX10_fearsBy cX10_fearsBy 5 (some .int) :: lw_tb) (gR (67 + d) (1576 + d * 24)) (gPc shM t ad D z [.ref (ad 0), .int x1, .int x2, .int x3] σ) (gQi shM t ad D q.1 q.2) 0 0 (gA shM ad)) := by
  intro d
  induction d with
  | zero => exact fun _ _ _ _ _ h => absurd h (by simp [fR_X10_fearsBy])
  | succ d ih =>
    rw [show 1576 + (d + 1) * 24 = 1576 + d * 24 + 24 by rw [Nat.succ_mul, Nat.add_assoc]]
    exact fun σ x1 x2 x3 q h => cr_X10_fearsBy l D t ad z hJ (fr := 67 + d) (lo := 1576 + d * 24) (by omega) (by omega) ih σ x1 x2 x3 q h
theorem c_X10_fearsBy (l : Launch) (D : va_G) (t : gT) (ad z : Nat → Nat) (hJ : gJ shM ad) (σ : gS) (x1 : Int32) (x2 : Int32) (x3 : Int32) (q : Int32 × gS) (h : f_X10_fearsBy σ x1 x2 x3 = some q) : Met l yX10_fearsBy (Cond.code yX10_fearsBy cX10_fearsBy 5 (some .int) :: lw_tb) (gR 131 3112) (gPc shM t ad D z [.ref (ad 0), .int x1, .int x2, .int x3] σ) (gQi shM t ad D q.1 q.2) 0 0 (gA shM ad) := (cR_X10_fearsBy l D t ad z hJ 64) σ x1 x2 x3 q h
set_option maxRecDepth 100000 in
set_option maxHeartbeats 4000000 in
theorem w_X10_seesBy_131 {p : Program} {l : Launch} {e : Env} {s : State} {m : MethodId} {args : Array Value} {below : List Frame} {meth : Method} {c : Code} {D : va_G} {t : gT} {ad z : Nat → Nat} {R_X10_seesBy : gS → Int32 → Int32 → Int32 → Option (Int32 × gS)} (C : gC p s m args meth c cX10_seesBy 5 "NineKeysRoundModel" D t shM ad z) (hr : meth.sig.returnType = some .int) {fr lo : Nat} (hfr : 132 ≤ fr) (hlo : 3136 ≤ lo) (hR_X10_seesBy : ∀ (σ : gS) (x1 : Int32) (x2 : Int32) (x3 : Int32) (q : Int32 × gS), R_X10_seesBy σ x1 x2 x3 = some q → Met l yX10_seesBy (Cond.code yX10_seesBy cX10_seesBy 5 (some .int) :: lw_tb) (gR fr lo) (gPc shM t ad D z [.ref (ad 0), .int x1, .int x2, .int x3] σ) (gQi shM t ad D q.1 q.2) 0 0 (gA shM ad)) {r : Int32 × gS} : ∀ (x1 : Int32) (x2 : Int32) (x3 : Int32) (σ : gS) (H : Heap) (locs : List Loc) (ls : Array Slot), f_X10_seesBy_131 R_X10_seesBy x1 x2 x3 σ = some r → gI shM t ad D s.heap σ H locs → lv_has ls 5 [(0, .ref (ad 0)), (1, .int x1), (2, .int x2), (3, .int x3)] → W p l e (gR (fr + 1) (lo + 24)) s m args below meth c H locs 0 0 (MQ below (gQi shM t ad D r.1 r.2) args s 0 0 (gA shM ad)) (F0 m 131 ls []) := by
  have hx := C.1
  have hb := C.2.1
  intro x1 x2 x3 σ H locs ls  h hI hl
  unfold f_X10_seesBy_131 at h
  refine lv_aload_n hx hb dX10_seesBy_131 rfl (lv_at hl 0 rfl) ?_
  refine lv_iload_n hx hb dX10_seesBy_132 rfl (lv_at hl 1 rfl) ?_
  refine lv_iload_n hx hb dX10_seesBy_133 rfl (lv_at hl 2 rfl) ?_
  refine h_callsi_o (rest := [.int x1, .ref (ad 0)]) C hI hl.1 ys_X10_above k_1600 h (fun q hq => c_X10_above l D t ad z C.2.2.2.2.2.2.1 (σ) x2 q hq) (As := [.int x2]) rfl rfl ⟨by show _ ≤ fr + 1; omega, by show _ ≤ lo + 24; omega⟩ (Nat.le_of_ble_eq_true rfl) dX10_seesBy_134 (fun q1 H locs h hI => ?_)
  refine lv_iload_n hx hb dX10_seesBy_137 rfl (lv_at hl 3 rfl) ?_
  refine h_callvi_w (rest := []) C hI hl.1 shM_0 rfl yv_X10_seesBy k_1603 h (fun q hq => hR_X10_seesBy (σ) x1 q1 x3 q hq) (As := [.int x1, .int q1, .int x3]) rfl rfl ⟨by show _ ≤ fr + 1; omega, by show _ ≤ lo + 24; omega⟩ (Nat.le_of_ble_eq_true rfl) dX10_seesBy_138 (fun q2 H locs h hI => ?_)
  exact h_iret_w C hr hI h dX10_seesBy_141
set_option maxRecDepth 100000 in
set_option maxHeartbeats 4000000 in
theorem cr_X10_seesBy (l : Launch) (D : va_G) (t : gT) (ad z : Nat → Nat) (hJ : gJ shM ad) {R_X10_seesBy : gS → Int32 → Int32 → Int32 → Option (Int32 × gS)} {fr lo : Nat} (hfr : 132 ≤ fr) (hlo : 3136 ≤ lo) (hR_X10_seesBy : ∀ (σ : gS) (x1 : Int32) (x2 : Int32) (x3 : Int32) (q : Int32 × gS), R_X10_seesBy σ x1 x2 x3 = some q → Met l yX10_seesBy (Cond.code yX10_seesBy cX10_seesBy 5 (some .int) :: lw_tb) (gR fr lo) (gPc shM t ad D z [.ref (ad 0), .int x1, .int x2, .int x3] σ) (gQi shM t ad D q.1 q.2) 0 0 (gA shM ad)) (σ : gS) (x1 : Int32) (x2 : Int32) (x3 : Int32) (q : Int32 × gS) (h : F_X10_seesBy R_X10_seesBy σ x1 x2 x3 = some q) : Met l yX10_seesBy (Cond.code yX10_seesBy cX10_seesBy 5 (some .int) :: lw_tb) (gR (fr + 1) (lo + 24)) (gPc shM t ad D z [.ref (ad 0), .int x1, .int x2, .int x3] σ) (gQi shM t ad D q.1 q.2) 0 0 (gA shM ad) := by
  refine gMet "NineKeysRoundModel" rfl (by decide) hJ (Nat.le_of_ble_eq_true rfl) ?_
  intro p e s m below meth c ls C hr hI hl
  have hx := C.1
  have hb := C.2.1
  have hl : lv_has ls 5 [(0, .ref (ad 0)), (1, .int x1), (2, .int x2), (3, .int x3)] := hl
  unfold F_X10_seesBy at h
  refine lv_iload_n hx hb dX10_seesBy_0 rfl (lv_at hl 2 rfl) ?_
  by_cases hc_ : x2 = 0
  · rw [if_pos hc_] at h
    refine lv_tableIn (tgt := 48) (off := 47) hx hb dX10_seesBy_1 (by rw [hc_]; decide) (by rw [hc_]; decide) (by rw [hc_]; rfl) (by decide) ?_
    refine lv_aload_n hx hb dX10_seesBy_48 rfl (lv_at hl 0 rfl) ?_
    refine lv_bipush hx hb dX10_seesBy_49 cb_10 ?_
    refine h_callvv_w (rest := []) C hI hl.1 shM_0 rfl yv_X10_ran k_1596 h (fun q hq => c_X10_ran l D t ad z C.2.2.2.2.2.2.1 (σ) 10 q hq) (As := [.int 10]) rfl rfl ⟨by show _ ≤ fr + 1; omega, by show _ ≤ lo + 24; omega⟩ (Nat.le_of_ble_eq_true rfl) dX10_seesBy_51 (fun q1 H locs h hI => ?_)
    refine lv_aload_n hx hb dX10_seesBy_54 rfl (lv_at hl 0 rfl) ?_
    refine lv_iload_n hx hb dX10_seesBy_55 rfl (lv_at hl 1 rfl) ?_
    refine lv_aload_n hx hb dX10_seesBy_56 rfl (lv_at hl 0 rfl) ?_
    refine fr_1099 C hI shM_0 rfl dX10_seesBy_57 ?_
    refine lv_iload_n hx hb dX10_seesBy_60 rfl (lv_at hl 1 rfl) ?_
    refine gx_iald C hI shM_22 h dX10_seesBy_61 (fun h => ?_)
    refine lv_iload_n hx hb dX10_seesBy_62 rfl (lv_at hl 3 rfl) ?_
    refine h_callvi_w (rest := []) C hI hl.1 shM_0 rfl yv_X10_turnsBy k_1592 h (fun q hq => c_X10_turnsBy l D t ad z C.2.2.2.2.2.2.1 q1 x1 (q1.1 22 (x1).toNatClampNeg) x3 q hq) (As := [.int x1, .int (q1.1 22 (x1).toNatClampNeg), .int x3]) rfl rfl ⟨by show _ ≤ fr + 1; omega, by show _ ≤ lo + 24; omega⟩ (Nat.le_of_ble_eq_true rfl) dX10_seesBy_63 (fun q2 H locs h hI => ?_)
    refine lv_iconst hx hb dX10_seesBy_66 ci_2 ?_
    refine lv_imul hx hb dX10_seesBy_67 ?_
    exact h_iret_w C hr hI h dX10_seesBy_68
  · rw [if_neg hc_] at h
    have hn_0 := hc_
    by_cases hc_ : x2 = 1
    · rw [if_pos hc_] at h
      refine lv_tableIn (tgt := 131) (off := 130) hx hb dX10_seesBy_1 (by rw [hc_]; decide) (by rw [hc_]; decide) (by rw [hc_]; rfl) (by decide) ?_
      exact w_X10_seesBy_131 C hr hfr hlo hR_X10_seesBy   _ _ _ _ _ _ _  h hI (lv_sub hl [0, 1, 2, 3] rfl)
    · rw [if_neg hc_] at h
      have hn_1 := hc_
      by_cases hc_ : x2 = 2
      · rw [if_pos hc_] at h
        refine lv_tableIn (tgt := 69) (off := 68) hx hb dX10_seesBy_1 (by rw [hc_]; decide) (by rw [hc_]; decide) (by rw [hc_]; rfl) (by decide) ?_
        refine lv_aload_n hx hb dX10_seesBy_69 rfl (lv_at hl 0 rfl) ?_
        refine lv_bipush hx hb dX10_seesBy_70 cb_30 ?_
        refine h_callvv_w (rest := []) C hI hl.1 shM_0 rfl yv_X10_ran k_1596 h (fun q hq => c_X10_ran l D t ad z C.2.2.2.2.2.2.1 (σ) 30 q hq) (As := [.int 30]) rfl rfl ⟨by show _ ≤ fr + 1; omega, by show _ ≤ lo + 24; omega⟩ (Nat.le_of_ble_eq_true rfl) dX10_seesBy_72 (fun q3 H locs h hI => ?_)
        refine lv_aload_n hx hb dX10_seesBy_75 rfl (lv_at hl 0 rfl) ?_
        refine lv_iload_n hx hb dX10_seesBy_76 rfl (lv_at hl 1 rfl) ?_
        refine lv_iconst hx hb dX10_seesBy_77 ci_0 ?_
        refine lv_iload_n hx hb dX10_seesBy_78 rfl (lv_at hl 3 rfl) ?_
        refine h_callvi_w (rest := []) C hI hl.1 shM_0 rfl yv_X10_seesBy k_1603 h (fun q hq => hR_X10_seesBy q3 x1 0 x3 q hq) (As := [.int x1, .int 0, .int x3]) rfl rfl ⟨by show _ ≤ fr + 1; omega, by show _ ≤ lo + 24; omega⟩ (Nat.le_of_ble_eq_true rfl) dX10_seesBy_79 (fun q4 H locs h hI => ?_)
        refine lv_ineg hx hb dX10_seesBy_82 ?_
        exact h_iret_w C hr hI h dX10_seesBy_83
      · rw [if_neg hc_] at h
        have hn_2 := hc_
        by_cases hc_ : x2 = 3
        · rw [if_pos hc_] at h
          refine lv_tableIn (tgt := 84) (off := 83) hx hb dX10_seesBy_1 (by rw [hc_]; decide) (by rw [hc_]; decide) (by rw [hc_]; rfl) (by decide) ?_
          refine lv_aload_n hx hb dX10_seesBy_84 rfl (lv_at hl 0 rfl) ?_
          refine lv_bipush hx hb dX10_seesBy_85 cb_41 ?_
          refine h_callvv_w (rest := []) C hI hl.1 shM_0 rfl yv_X10_ran k_1596 h (fun q hq => c_X10_ran l D t ad z C.2.2.2.2.2.2.1 (σ) 41 q hq) (As := [.int 41]) rfl rfl ⟨by show _ ≤ fr + 1; omega, by show _ ≤ lo + 24; omega⟩ (Nat.le_of_ble_eq_true rfl) dX10_seesBy_87 (fun q5 H locs h hI => ?_)
          refine lv_aload_n hx hb dX10_seesBy_90 rfl (lv_at hl 0 rfl) ?_
          refine lv_iload_n hx hb dX10_seesBy_91 rfl (lv_at hl 1 rfl) ?_
          refine lv_iconst hx hb dX10_seesBy_92 ci_2 ?_
          refine lv_iload_n hx hb dX10_seesBy_93 rfl (lv_at hl 3 rfl) ?_
          refine lv_iconst hx hb dX10_seesBy_94 ci_1 ?_
          refine lv_iadd hx hb dX10_seesBy_95 ?_
          refine h_callvi_w (rest := []) C hI hl.1 shM_0 rfl yv_X10_seesBy k_1603 h (fun q hq => hR_X10_seesBy q5 x1 2 (x3 + 1) q hq) (As := [.int x1, .int 2, .int (x3 + 1)]) rfl rfl ⟨by show _ ≤ fr + 1; omega, by show _ ≤ lo + 24; omega⟩ (Nat.le_of_ble_eq_true rfl) dX10_seesBy_96 (fun q6 H locs h hI => ?_)
          exact h_iret_w C hr hI h dX10_seesBy_99
        · rw [if_neg hc_] at h
          have hn_3 := hc_
          by_cases hc_ : x2 = 4
          · rw [if_pos hc_] at h
            refine lv_tableIn (tgt := 131) (off := 130) hx hb dX10_seesBy_1 (by rw [hc_]; decide) (by rw [hc_]; decide) (by rw [hc_]; rfl) (by decide) ?_
            exact w_X10_seesBy_131 C hr hfr hlo hR_X10_seesBy   _ _ _ _ _ _ _  h hI (lv_sub hl [0, 1, 2, 3] rfl)
          · rw [if_neg hc_] at h
            have hn_4 := hc_
            by_cases hc_ : x2 = 5
            · rw [if_pos hc_] at h
              refine lv_tableIn (tgt := 131) (off := 130) hx hb dX10_seesBy_1 (by rw [hc_]; decide) (by rw [hc_]; decide) (by rw [hc_]; rfl) (by decide) ?_
              exact w_X10_seesBy_131 C hr hfr hlo hR_X10_seesBy   _ _ _ _ _ _ _  h hI (lv_sub hl [0, 1, 2, 3] rfl)
            · rw [if_neg hc_] at h
              have hn_5 := hc_
              by_cases hc_ : x2 = 6
              · rw [if_pos hc_] at h
                refine lv_tableIn (tgt := 131) (off := 130) hx hb dX10_seesBy_1 (by rw [hc_]; decide) (by rw [hc_]; decide) (by rw [hc_]; rfl) (by decide) ?_
                exact w_X10_seesBy_131 C hr hfr hlo hR_X10_seesBy   _ _ _ _ _ _ _  h hI (lv_sub hl [0, 1, 2, 3] rfl)
              · rw [if_neg hc_] at h
                have hn_6 := hc_
                by_cases hc_ : x2 = 7
                · rw [if_pos hc_] at h
                  refine lv_tableIn (tgt := 100) (off := 99) hx hb dX10_seesBy_1 (by rw [hc_]; decide) (by rw [hc_]; decide) (by rw [hc_]; rfl) (by decide) ?_
                  refine lv_aload_n hx hb dX10_seesBy_100 rfl (lv_at hl 0 rfl) ?_
                  refine lv_bipush hx hb dX10_seesBy_101 cb_80 ?_
                  refine h_callvv_w (rest := []) C hI hl.1 shM_0 rfl yv_X10_ran k_1596 h (fun q hq => c_X10_ran l D t ad z C.2.2.2.2.2.2.1 (σ) 80 q hq) (As := [.int 80]) rfl rfl ⟨by show _ ≤ fr + 1; omega, by show _ ≤ lo + 24; omega⟩ (Nat.le_of_ble_eq_true rfl) dX10_seesBy_103 (fun q7 H locs h hI => ?_)
                  refine lv_aload_n hx hb dX10_seesBy_106 rfl (lv_at hl 0 rfl) ?_
                  refine lv_iload_n hx hb dX10_seesBy_107 rfl (lv_at hl 1 rfl) ?_
                  refine lv_iconst hx hb dX10_seesBy_108 ci_4 ?_
                  refine lv_iload_n hx hb dX10_seesBy_109 rfl (lv_at hl 3 rfl) ?_
                  refine h_callvi_w (rest := []) C hI hl.1 shM_0 rfl yv_X10_seesBy k_1603 h (fun q hq => hR_X10_seesBy q7 x1 4 x3 q hq) (As := [.int x1, .int 4, .int x3]) rfl rfl ⟨by show _ ≤ fr + 1; omega, by show _ ≤ lo + 24; omega⟩ (Nat.le_of_ble_eq_true rfl) dX10_seesBy_110 (fun q8 H locs h hI => ?_)
                  refine lv_istore (lv' := [(4, .int q8.1), (0, .ref (ad 0)), (1, .int x1), (2, .int x2), (3, .int x3)]) hx hb dX10_seesBy_113 hl (by decide) rfl (fun ls hl => ?_)
                  refine lv_iload hx hb dX10_seesBy_115 (lv_at hl 0 rfl) ?_
                  refine lv_aload_n hx hb dX10_seesBy_117 rfl (lv_at hl 1 rfl) ?_
                  refine lv_iload_n hx hb dX10_seesBy_118 rfl (lv_at hl 2 rfl) ?_
                  refine lv_aload_n hx hb dX10_seesBy_119 rfl (lv_at hl 1 rfl) ?_
                  refine fr_1099 C hI shM_0 rfl dX10_seesBy_120 ?_
                  refine lv_iload_n hx hb dX10_seesBy_123 rfl (lv_at hl 2 rfl) ?_
                  refine gx_iald C hI shM_22 h dX10_seesBy_124 (fun h => ?_)
                  refine lv_iconst hx hb dX10_seesBy_125 ci_2 ?_
                  refine h_callvi_w (rest := [.int q8.1]) C hI hl.1 shM_0 rfl yv_X10_fearsBy k_1607 h (fun q hq => c_X10_fearsBy l D t ad z C.2.2.2.2.2.2.1 q8.2 x1 (q8.2.1 22 (x1).toNatClampNeg) 2 q hq) (As := [.int x1, .int (q8.2.1 22 (x1).toNatClampNeg), .int 2]) rfl rfl ⟨by show _ ≤ fr + 1; omega, by show _ ≤ lo + 24; omega⟩ (Nat.le_of_ble_eq_true rfl) dX10_seesBy_126 (fun q9 H locs h hI => ?_)
                  refine lv_iadd hx hb dX10_seesBy_129 ?_
                  exact h_iret_w C hr hI h dX10_seesBy_130
                · rw [if_neg hc_] at h
                  have hn_7 := hc_
                  have hout : x2.toInt < 0 ∨ 7 < x2.toInt := by
                    have e0 := tsne (c := 0) (z := 0) (by decide) hn_0
                    have e1 := tsne (c := 1) (z := 1) (by decide) hn_1
                    have e2 := tsne (c := 2) (z := 2) (by decide) hn_2
                    have e3 := tsne (c := 3) (z := 3) (by decide) hn_3
                    have e4 := tsne (c := 4) (z := 4) (by decide) hn_4
                    have e5 := tsne (c := 5) (z := 5) (by decide) hn_5
                    have e6 := tsne (c := 6) (z := 6) (by decide) hn_6
                    have e7 := tsne (c := 7) (z := 7) (by decide) hn_7
                    omega
                  refine lv_tableOut (tgt := 131) hx hb dX10_seesBy_1 hout (by decide) ?_
                  exact w_X10_seesBy_131 C hr hfr hlo hR_X10_seesBy   _ _ _ _ _ _ _  h hI (lv_sub hl [0, 1, 2, 3] rfl)
set_option maxRecDepth 100000 in
set_option maxHeartbeats 4000000 in
theorem cR_X10_seesBy (l : Launch) (D : va_G) (t : gT) (ad z : Nat → Nat) (hJ : gJ shM ad) : ∀ d : Nat, (∀ (σ : gS) (x1 : Int32) (x2 : Int32) (x3 : Int32) (q : Int32 × gS), (fR_X10_seesBy d) σ x1 x2 x3 = some q → Met l yX10_seesBy (Cond.code yX10_seesBy cX10_seesBy 5 (some .int) :: lw_tb) (gR (132 + d) (3136 + d * 24)) (gPc shM t ad D z [.ref (ad 0), .int x1, .int x2, .int x3] σ) (gQi shM t ad D q.1 q.2) 0 0 (gA shM ad)) := by
  intro d
  induction d with
  | zero => exact fun _ _ _ _ _ h => absurd h (by simp [fR_X10_seesBy])
  | succ d ih =>
    rw [show 3136 + (d + 1) * 24 = 3136 + d * 24 + 24 by rw [Nat.succ_mul, Nat.add_assoc]]
    exact fun σ x1 x2 x3 q h => cr_X10_seesBy l D t ad z hJ (fr := 132 + d) (lo := 3136 + d * 24) (by omega) (by omega) ih σ x1 x2 x3 q h
theorem c_X10_seesBy (l : Launch) (D : va_G) (t : gT) (ad z : Nat → Nat) (hJ : gJ shM ad) (σ : gS) (x1 : Int32) (x2 : Int32) (x3 : Int32) (q : Int32 × gS) (h : f_X10_seesBy σ x1 x2 x3 = some q) : Met l yX10_seesBy (Cond.code yX10_seesBy cX10_seesBy 5 (some .int) :: lw_tb) (gR 196 4672) (gPc shM t ad D z [.ref (ad 0), .int x1, .int x2, .int x3] σ) (gQi shM t ad D q.1 q.2) 0 0 (gA shM ad) := (cR_X10_seesBy l D t ad z hJ 64) σ x1 x2 x3 q h
set_option maxRecDepth 100000 in
set_option maxHeartbeats 4000000 in
theorem cr_X10_tells (l : Launch) (D : va_G) (t : gT) (ad z : Nat → Nat) (hJ : gJ shM ad) {R_X10_tells : gS → Int32 → Int32 → Int32 → Option (Int32 × gS)} {fr lo : Nat} (hfr : 197 ≤ fr) (hlo : 4696 ≤ lo) (hR_X10_tells : ∀ (σ : gS) (x1 : Int32) (x2 : Int32) (x3 : Int32) (q : Int32 × gS), R_X10_tells σ x1 x2 x3 = some q → Met l yX10_tells (Cond.code yX10_tells cX10_tells 5 (some .int) :: lw_tb) (gR fr lo) (gPc shM t ad D z [.ref (ad 0), .int x1, .int x2, .int x3] σ) (gQi shM t ad D q.1 q.2) 0 0 (gA shM ad)) (σ : gS) (x1 : Int32) (x2 : Int32) (x3 : Int32) (q : Int32 × gS) (h : F_X10_tells R_X10_tells σ x1 x2 x3 = some q) : Met l yX10_tells (Cond.code yX10_tells cX10_tells 5 (some .int) :: lw_tb) (gR (fr + 1) (lo + 24)) (gPc shM t ad D z [.ref (ad 0), .int x1, .int x2, .int x3] σ) (gQi shM t ad D q.1 q.2) 0 0 (gA shM ad) := by
  refine gMet "NineKeysRoundModel" rfl (by decide) hJ (Nat.le_of_ble_eq_true rfl) ?_
  intro p e s m below meth c ls C hr hI hl
  have hx := C.1
  have hb := C.2.1
  have hl : lv_has ls 5 [(0, .ref (ad 0)), (1, .int x1), (2, .int x2), (3, .int x3)] := hl
  unfold F_X10_tells at h
  refine lv_iload_n hx hb dX10_tells_0 rfl (lv_at hl 2 rfl) ?_
  by_cases hc_ : x2 = 0
  · rw [if_pos hc_] at h
    refine lv_lookup (tgt := 36) (off := 35) hx hb dX10_tells_1 (by decide) (by rw [hc_]; decide) (by decide) ?_
    refine lv_aload_n hx hb dX10_tells_36 rfl (lv_at hl 0 rfl) ?_
    refine lv_iconst hx hb dX10_tells_37 ci_2 ?_
    refine h_callvv_w (rest := []) C hI hl.1 shM_0 rfl yv_X10_ran k_1596 h (fun q hq => c_X10_ran l D t ad z C.2.2.2.2.2.2.1 (σ) 2 q hq) (As := [.int 2]) rfl rfl ⟨by show _ ≤ fr + 1; omega, by show _ ≤ lo + 24; omega⟩ (Nat.le_of_ble_eq_true rfl) dX10_tells_38 (fun q1 H locs h hI => ?_)
    refine lv_aload_n hx hb dX10_tells_41 rfl (lv_at hl 0 rfl) ?_
    refine lv_iload_n hx hb dX10_tells_42 rfl (lv_at hl 1 rfl) ?_
    refine lv_aload_n hx hb dX10_tells_43 rfl (lv_at hl 0 rfl) ?_
    refine fr_1099 C hI shM_0 rfl dX10_tells_44 ?_
    refine lv_iload_n hx hb dX10_tells_47 rfl (lv_at hl 1 rfl) ?_
    refine gx_iald C hI shM_22 h dX10_tells_48 (fun h => ?_)
    refine lv_iload_n hx hb dX10_tells_49 rfl (lv_at hl 3 rfl) ?_
    refine h_callvi_w (rest := []) C hI hl.1 shM_0 rfl yv_X10_seesBy k_1603 h (fun q hq => c_X10_seesBy l D t ad z C.2.2.2.2.2.2.1 q1 x1 (q1.1 22 (x1).toNatClampNeg) x3 q hq) (As := [.int x1, .int (q1.1 22 (x1).toNatClampNeg), .int x3]) rfl rfl ⟨by show _ ≤ fr + 1; omega, by show _ ≤ lo + 24; omega⟩ (Nat.le_of_ble_eq_true rfl) dX10_tells_50 (fun q2 H locs h hI => ?_)
    refine lv_istore (lv' := [(4, .int q2.1), (0, .ref (ad 0)), (1, .int x1), (2, .int x2), (3, .int x3)]) hx hb dX10_tells_53 hl (by decide) rfl (fun ls hl => ?_)
    refine lv_iload hx hb dX10_tells_55 (lv_at hl 0 rfl) ?_
    refine lv_aload_n hx hb dX10_tells_57 rfl (lv_at hl 1 rfl) ?_
    refine lv_iload_n hx hb dX10_tells_58 rfl (lv_at hl 2 rfl) ?_
    refine lv_aload_n hx hb dX10_tells_59 rfl (lv_at hl 1 rfl) ?_
    refine fr_1099 C hI shM_0 rfl dX10_tells_60 ?_
    refine lv_iload_n hx hb dX10_tells_63 rfl (lv_at hl 2 rfl) ?_
    refine gx_iald C hI shM_22 h dX10_tells_64 (fun h => ?_)
    refine lv_iconst hx hb dX10_tells_65 ci_1 ?_
    refine h_callvi_w (rest := [.int q2.1]) C hI hl.1 shM_0 rfl yv_X10_fearsBy k_1607 h (fun q hq => c_X10_fearsBy l D t ad z C.2.2.2.2.2.2.1 q2.2 x1 (q2.2.1 22 (x1).toNatClampNeg) 1 q hq) (As := [.int x1, .int (q2.2.1 22 (x1).toNatClampNeg), .int 1]) rfl rfl ⟨by show _ ≤ fr + 1; omega, by show _ ≤ lo + 24; omega⟩ (Nat.le_of_ble_eq_true rfl) dX10_tells_66 (fun q3 H locs h hI => ?_)
    refine lv_isub hx hb dX10_tells_69 ?_
    exact h_iret_w C hr hI h dX10_tells_70
  · rw [if_neg hc_] at h
    have hn_0 := hc_
    by_cases hc_ : x2 = 5
    · rw [if_pos hc_] at h
      refine lv_lookup (tgt := 71) (off := 70) hx hb dX10_tells_1 (by decide) (by rw [hc_]; decide) (by decide) ?_
      refine lv_aload_n hx hb dX10_tells_71 rfl (lv_at hl 0 rfl) ?_
      refine lv_bipush hx hb dX10_tells_72 cb_60 ?_
      refine h_callvv_w (rest := []) C hI hl.1 shM_0 rfl yv_X10_ran k_1596 h (fun q hq => c_X10_ran l D t ad z C.2.2.2.2.2.2.1 (σ) 60 q hq) (As := [.int 60]) rfl rfl ⟨by show _ ≤ fr + 1; omega, by show _ ≤ lo + 24; omega⟩ (Nat.le_of_ble_eq_true rfl) dX10_tells_74 (fun q4 H locs h hI => ?_)
      refine lv_aload_n hx hb dX10_tells_77 rfl (lv_at hl 0 rfl) ?_
      refine lv_iload_n hx hb dX10_tells_78 rfl (lv_at hl 1 rfl) ?_
      refine lv_iconst hx hb dX10_tells_79 ci_3 ?_
      refine lv_iload_n hx hb dX10_tells_80 rfl (lv_at hl 3 rfl) ?_
      refine h_callvi_w (rest := []) C hI hl.1 shM_0 rfl yv_X10_tells k_1611 h (fun q hq => hR_X10_tells q4 x1 3 x3 q hq) (As := [.int x1, .int 3, .int x3]) rfl rfl ⟨by show _ ≤ fr + 1; omega, by show _ ≤ lo + 24; omega⟩ (Nat.le_of_ble_eq_true rfl) dX10_tells_81 (fun q5 H locs h hI => ?_)
      refine lv_iconst hx hb dX10_tells_84 ci_5 ?_
      refine lv_ixor hx hb dX10_tells_85 ?_
      exact h_iret_w C hr hI h dX10_tells_86
    · rw [if_neg hc_] at h
      have hn_1 := hc_
      by_cases hc_ : x2 = 7
      · rw [if_pos hc_] at h
        refine lv_lookup (tgt := 87) (off := 86) hx hb dX10_tells_1 (by decide) (by rw [hc_]; decide) (by decide) ?_
        refine lv_aload_n hx hb dX10_tells_87 rfl (lv_at hl 0 rfl) ?_
        refine lv_bipush hx hb dX10_tells_88 cb_81 ?_
        refine h_callvv_w (rest := []) C hI hl.1 shM_0 rfl yv_X10_ran k_1596 h (fun q hq => c_X10_ran l D t ad z C.2.2.2.2.2.2.1 (σ) 81 q hq) (As := [.int 81]) rfl rfl ⟨by show _ ≤ fr + 1; omega, by show _ ≤ lo + 24; omega⟩ (Nat.le_of_ble_eq_true rfl) dX10_tells_90 (fun q6 H locs h hI => ?_)
        refine lv_aload_n hx hb dX10_tells_93 rfl (lv_at hl 0 rfl) ?_
        refine lv_iload_n hx hb dX10_tells_94 rfl (lv_at hl 1 rfl) ?_
        refine lv_iconst hx hb dX10_tells_95 ci_4 ?_
        refine lv_iload_n hx hb dX10_tells_96 rfl (lv_at hl 3 rfl) ?_
        refine h_callvi_w (rest := []) C hI hl.1 shM_0 rfl yv_X10_tells k_1611 h (fun q hq => hR_X10_tells q6 x1 4 x3 q hq) (As := [.int x1, .int 4, .int x3]) rfl rfl ⟨by show _ ≤ fr + 1; omega, by show _ ≤ lo + 24; omega⟩ (Nat.le_of_ble_eq_true rfl) dX10_tells_97 (fun q7 H locs h hI => ?_)
        refine lv_iconst hx hb dX10_tells_100 ci_1 ?_
        refine lv_isub hx hb dX10_tells_101 ?_
        exact h_iret_w C hr hI h dX10_tells_102
      · rw [if_neg hc_] at h
        have hn_2 := hc_
        have hout : Op.lookupswitch.offset (#[(0, 35), (5, 70), (7, 86)] : Array (Int × Int)).toList 102 x2.toInt = 102 := by
          have e0 := tsne (c := 0) (z := 0) (by decide) hn_0
          have e1 := tsne (c := 5) (z := 5) (by decide) hn_1
          have e2 := tsne (c := 7) (z := 7) (by decide) hn_2
          exact lkout _ _ _ (List.forall_mem_cons.mpr ⟨Ne.symm e0, List.forall_mem_cons.mpr ⟨Ne.symm e1, List.forall_mem_cons.mpr ⟨Ne.symm e2, fun _ hh => absurd hh List.not_mem_nil⟩⟩⟩)
        refine lv_lookup (tgt := 103) hx hb dX10_tells_1 (by decide) hout (by decide) ?_
        refine lv_aload_n hx hb dX10_tells_103 rfl (lv_at hl 0 rfl) ?_
        refine lv_iload_n hx hb dX10_tells_104 rfl (lv_at hl 1 rfl) ?_
        refine lv_iload_n hx hb dX10_tells_105 rfl (lv_at hl 2 rfl) ?_
        refine h_callsi_o (rest := [.int x1, .ref (ad 0)]) C hI hl.1 ys_X10_above k_1600 h (fun q hq => c_X10_above l D t ad z C.2.2.2.2.2.2.1 (σ) x2 q hq) (As := [.int x2]) rfl rfl ⟨by show _ ≤ fr + 1; omega, by show _ ≤ lo + 24; omega⟩ (Nat.le_of_ble_eq_true rfl) dX10_tells_106 (fun q8 H locs h hI => ?_)
        refine lv_iload_n hx hb dX10_tells_109 rfl (lv_at hl 3 rfl) ?_
        refine h_callvi_w (rest := []) C hI hl.1 shM_0 rfl yv_X10_tells k_1611 h (fun q hq => hR_X10_tells (σ) x1 q8 x3 q hq) (As := [.int x1, .int q8, .int x3]) rfl rfl ⟨by show _ ≤ fr + 1; omega, by show _ ≤ lo + 24; omega⟩ (Nat.le_of_ble_eq_true rfl) dX10_tells_110 (fun q9 H locs h hI => ?_)
        exact h_iret_w C hr hI h dX10_tells_113
set_option maxRecDepth 100000 in
set_option maxHeartbeats 4000000 in
theorem cR_X10_tells (l : Launch) (D : va_G) (t : gT) (ad z : Nat → Nat) (hJ : gJ shM ad) : ∀ d : Nat, (∀ (σ : gS) (x1 : Int32) (x2 : Int32) (x3 : Int32) (q : Int32 × gS), (fR_X10_tells d) σ x1 x2 x3 = some q → Met l yX10_tells (Cond.code yX10_tells cX10_tells 5 (some .int) :: lw_tb) (gR (197 + d) (4696 + d * 24)) (gPc shM t ad D z [.ref (ad 0), .int x1, .int x2, .int x3] σ) (gQi shM t ad D q.1 q.2) 0 0 (gA shM ad)) := by
  intro d
  induction d with
  | zero => exact fun _ _ _ _ _ h => absurd h (by simp [fR_X10_tells])
  | succ d ih =>
    rw [show 4696 + (d + 1) * 24 = 4696 + d * 24 + 24 by rw [Nat.succ_mul, Nat.add_assoc]]
    exact fun σ x1 x2 x3 q h => cr_X10_tells l D t ad z hJ (fr := 197 + d) (lo := 4696 + d * 24) (by omega) (by omega) ih σ x1 x2 x3 q h
theorem c_X10_tells (l : Launch) (D : va_G) (t : gT) (ad z : Nat → Nat) (hJ : gJ shM ad) (σ : gS) (x1 : Int32) (x2 : Int32) (x3 : Int32) (q : Int32 × gS) (h : f_X10_tells σ x1 x2 x3 = some q) : Met l yX10_tells (Cond.code yX10_tells cX10_tells 5 (some .int) :: lw_tb) (gR 261 6232) (gPc shM t ad D z [.ref (ad 0), .int x1, .int x2, .int x3] σ) (gQi shM t ad D q.1 q.2) 0 0 (gA shM ad) := (cR_X10_tells l D t ad z hJ 64) σ x1 x2 x3 q h
set_option maxRecDepth 100000 in
set_option maxHeartbeats 4000000 in
theorem c_X10_body (l : Launch) (D : va_G) (t : gT) (ad z : Nat → Nat) (hJ : gJ shM ad) (σ : gS) (x1 : Int32) (q : Int32 × gS) (h : f_X10_body σ x1 = some q) : Met l yX10_body (Cond.code yX10_body cX10_body 2 (some .int) :: lw_tb) (gR 2 82) (gPc shM t ad D z [.ref (ad 0), .int x1] σ) (gQi shM t ad D q.1 q.2) 0 0 (gA shM ad) := by
  refine gMet "NineKeysRoundModel" rfl (by decide) hJ (Nat.le_of_ble_eq_true rfl) ?_
  intro p e s m below meth c ls C hr hI hl
  have hx := C.1
  have hb := C.2.1
  have hl : lv_has ls 2 [(0, .ref (ad 0)), (1, .int x1)] := hl
  unfold f_X10_body at h
  refine lv_iload_n hx hb dX10_body_0 rfl (lv_at hl 1 rfl) ?_
  refine lv_iconst hx hb dX10_body_1 ci_0 ?_
  refine lv_bipush hx hb dX10_body_2 cb_7 ?_
  refine h_callsi_o (rest := []) C hI hl.1 ys_X10_within k_1240 h (fun q hq => c_X10_within l D t ad z C.2.2.2.2.2.2.1 (σ) x1 0 7 q hq) (As := [.int x1, .int 0, .int 7]) rfl rfl ⟨Nat.le_of_ble_eq_true rfl, Nat.le_of_ble_eq_true rfl⟩ (Nat.le_of_ble_eq_true rfl) dX10_body_4 (fun q1 H locs h hI => ?_)
  refine hif_ne (tgt := 12) C dX10_body_7 (by decide) h (fun h => ?_) (fun h => ?_)
  · refine lv_aload_n hx hb dX10_body_12 rfl (lv_at hl 0 rfl) ?_
    refine fg_1098 C hI shM_0 rfl dX10_body_13 ?_
    refine lv_bipush hx hb dX10_body_16 cb_50 ?_
    refine hicmp_ne (tgt := 24) C dX10_body_18 (by decide) h (fun h => ?_) (fun h => ?_)
    · refine lv_aload_n hx hb dX10_body_24 rfl (lv_at hl 0 rfl) ?_
      refine fr_1099 C hI shM_0 rfl dX10_body_25 ?_
      refine lv_aload_n hx hb dX10_body_28 rfl (lv_at hl 0 rfl) ?_
      refine fg_1098 C hI shM_0 rfl dX10_body_29 ?_
      refine lv_iload_n hx hb dX10_body_32 rfl (lv_at hl 1 rfl) ?_
      refine gx_iast C hI shM_22 h dX10_body_33 (fun H locs h hI => ?_)
      refine gx_st h hI (fun s2 h hI => ?_)
      refine lv_aload_n hx hb dX10_body_34 rfl (lv_at hl 0 rfl) ?_
      refine lv_dup hx hb dX10_body_35 rfl ?_
      refine fg_1098 C hI shM_0 rfl dX10_body_36 ?_
      refine gx_topi h (fun v3 h => ?_)
      refine lv_dup_x1 hx hb dX10_body_39 rfl rfl ?_
      refine lv_iconst hx hb dX10_body_40 ci_1 ?_
      refine lv_iadd hx hb dX10_body_41 ?_
      refine fp_1098 C hI shM_0 rfl dX10_body_42 (fun H locs hI => ?_)
      refine gx_st h hI (fun s4 h hI => ?_)
      exact h_iret_w C hr hI h dX10_body_45
    · refine lv_bipush hx hb dX10_body_21 cb_m3 ?_
      exact h_iret_w C hr hI h dX10_body_23
  · refine lv_iconst hx hb dX10_body_10 ci_m1 ?_
    exact h_iret_w C hr hI h dX10_body_11
set_option maxRecDepth 100000 in
set_option maxHeartbeats 4000000 in
theorem c_X10_act (l : Launch) (D : va_G) (t : gT) (ad z : Nat → Nat) (hJ : gJ shM ad) (σ : gS) (x1 : Int32) (x2 : Int32) (x3 : Int32) (q : Int32 × gS) (h : f_X10_act σ x1 x2 x3 = some q) : Met l yX10_act (Cond.code yX10_act cX10_act 5 (some .int) :: lw_tb) (gR 262 6256) (gPc shM t ad D z [.ref (ad 0), .int x1, .int x2, .int x3] σ) (gQi shM t ad D q.1 q.2) 0 0 (gA shM ad) := by
  refine gMet "NineKeysRoundModel" rfl (by decide) hJ (Nat.le_of_ble_eq_true rfl) ?_
  intro p e s m below meth c ls C hr hI hl
  have hx := C.1
  have hb := C.2.1
  have hl : lv_has ls 5 [(0, .ref (ad 0)), (1, .int x1), (2, .int x2), (3, .int x3)] := hl
  unfold f_X10_act at h
  refine lv_aload_n hx hb dX10_act_0 rfl (lv_at hl 0 rfl) ?_
  refine lv_iconst hx hb dX10_act_1 ci_0 ?_
  refine fp_1100 C hI shM_0 rfl dX10_act_2 (fun H locs hI => ?_)
  refine gx_st h hI (fun s1 h hI => ?_)
  refine lv_iload_n hx hb dX10_act_5 rfl (lv_at hl 1 rfl) ?_
  refine lv_iconst hx hb dX10_act_6 ci_0 ?_
  refine lv_aload_n hx hb dX10_act_7 rfl (lv_at hl 0 rfl) ?_
  refine fg_1098 C hI shM_0 rfl dX10_act_8 ?_
  refine lv_iconst hx hb dX10_act_11 ci_1 ?_
  refine lv_isub hx hb dX10_act_12 ?_
  refine h_callsi_o (rest := []) C hI hl.1 ys_X10_within k_1240 h (fun q hq => c_X10_within l D t ad z C.2.2.2.2.2.2.1 s1 x1 0 ((s1.1 0 37) - 1) q hq) (As := [.int x1, .int 0, .int ((s1.1 0 37) - 1)]) rfl rfl ⟨Nat.le_of_ble_eq_true rfl, Nat.le_of_ble_eq_true rfl⟩ (Nat.le_of_ble_eq_true rfl) dX10_act_13 (fun q2 H locs h hI => ?_)
  refine hif_eq (tgt := 28) C dX10_act_16 (by decide) h (fun h => ?_) (fun h => ?_)
  · refine lv_iconst hx hb dX10_act_28 ci_0 ?_
    exact h_iret_w C hr hI h dX10_act_29
  · refine lv_iload_n hx hb dX10_act_19 rfl (lv_at hl 2 rfl) ?_
    refine lv_iconst hx hb dX10_act_20 ci_0 ?_
    refine lv_iconst hx hb dX10_act_21 ci_3 ?_
    refine h_callsi_o (rest := []) C hI hl.1 ys_X10_within k_1240 h (fun q hq => c_X10_within l D t ad z C.2.2.2.2.2.2.1 s1 x2 0 3 q hq) (As := [.int x2, .int 0, .int 3]) rfl rfl ⟨Nat.le_of_ble_eq_true rfl, Nat.le_of_ble_eq_true rfl⟩ (Nat.le_of_ble_eq_true rfl) dX10_act_22 (fun q3 H locs h hI => ?_)
    refine hif_ne (tgt := 30) C dX10_act_25 (by decide) h (fun h => ?_) (fun h => ?_)
    · refine lv_aload_n hx hb dX10_act_30 rfl (lv_at hl 0 rfl) ?_
      refine fr_1099 C hI shM_0 rfl dX10_act_31 ?_
      refine lv_iload_n hx hb dX10_act_34 rfl (lv_at hl 1 rfl) ?_
      refine gx_iald C hI shM_22 h dX10_act_35 (fun h => ?_)
      refine gx_topi h (fun v4 h => ?_)
      refine lv_istore (lv' := [(4, .int v4), (0, .ref (ad 0)), (1, .int x1), (2, .int x2), (3, .int x3)]) hx hb dX10_act_36 hl (by decide) rfl (fun ls hl => ?_)
      refine lv_iload_n hx hb dX10_act_38 rfl (lv_at hl 3 rfl) ?_
      refine hif_ne (tgt := 53) C dX10_act_39 (by decide) h (fun h => ?_) (fun h => ?_)
      · refine lv_iload_n hx hb dX10_act_53 rfl (lv_at hl 3 rfl) ?_
        refine lv_iconst hx hb dX10_act_54 ci_1 ?_
        refine hicmp_ne (tgt := 69) C dX10_act_55 (by decide) h (fun h => ?_) (fun h => ?_)
        · refine lv_iload_n hx hb dX10_act_69 rfl (lv_at hl 3 rfl) ?_
          refine lv_iconst hx hb dX10_act_70 ci_2 ?_
          refine hicmp_ne (tgt := 85) C dX10_act_71 (by decide) h (fun h => ?_) (fun h => ?_)
          · refine lv_aload_n hx hb dX10_act_85 rfl (lv_at hl 1 rfl) ?_
            refine lv_iload_n hx hb dX10_act_86 rfl (lv_at hl 2 rfl) ?_
            refine lv_iload hx hb dX10_act_87 (lv_at hl 0 rfl) ?_
            refine lv_iload_n hx hb dX10_act_89 rfl (lv_at hl 4 rfl) ?_
            refine h_callvi_w (rest := []) C hI hl.1 shM_0 rfl yv_X10_tells k_1611 h (fun q hq => c_X10_tells l D t ad z C.2.2.2.2.2.2.1 s1 x1 v4 x3 q hq) (As := [.int x1, .int v4, .int x3]) rfl rfl ⟨Nat.le_of_ble_eq_true rfl, Nat.le_of_ble_eq_true rfl⟩ (Nat.le_of_ble_eq_true rfl) dX10_act_90 (fun q5 H locs h hI => ?_)
            exact h_iret_w C hr hI h dX10_act_93
          · refine lv_aload_n hx hb dX10_act_74 rfl (lv_at hl 1 rfl) ?_
            refine lv_iload_n hx hb dX10_act_75 rfl (lv_at hl 2 rfl) ?_
            refine lv_iload hx hb dX10_act_76 (lv_at hl 0 rfl) ?_
            refine lv_iload_n hx hb dX10_act_78 rfl (lv_at hl 4 rfl) ?_
            refine h_callvi_w (rest := []) C hI hl.1 shM_0 rfl yv_X10_fearsBy k_1607 h (fun q hq => c_X10_fearsBy l D t ad z C.2.2.2.2.2.2.1 s1 x1 v4 x3 q hq) (As := [.int x1, .int v4, .int x3]) rfl rfl ⟨Nat.le_of_ble_eq_true rfl, Nat.le_of_ble_eq_true rfl⟩ (Nat.le_of_ble_eq_true rfl) dX10_act_79 (fun q6 H locs h hI => ?_)
            refine lv_goto (tgt := 93) hx hb dX10_act_82 (by decide) ?_
            exact h_iret_w C hr hI h dX10_act_93
        · refine lv_aload_n hx hb dX10_act_58 rfl (lv_at hl 1 rfl) ?_
          refine lv_iload_n hx hb dX10_act_59 rfl (lv_at hl 2 rfl) ?_
          refine lv_iload hx hb dX10_act_60 (lv_at hl 0 rfl) ?_
          refine lv_iload_n hx hb dX10_act_62 rfl (lv_at hl 4 rfl) ?_
          refine h_callvi_w (rest := []) C hI hl.1 shM_0 rfl yv_X10_seesBy k_1603 h (fun q hq => c_X10_seesBy l D t ad z C.2.2.2.2.2.2.1 s1 x1 v4 x3 q hq) (As := [.int x1, .int v4, .int x3]) rfl rfl ⟨Nat.le_of_ble_eq_true rfl, Nat.le_of_ble_eq_true rfl⟩ (Nat.le_of_ble_eq_true rfl) dX10_act_63 (fun q7 H locs h hI => ?_)
          refine lv_goto (tgt := 93) hx hb dX10_act_66 (by decide) ?_
          exact h_iret_w C hr hI h dX10_act_93
      · refine lv_aload_n hx hb dX10_act_42 rfl (lv_at hl 1 rfl) ?_
        refine lv_iload_n hx hb dX10_act_43 rfl (lv_at hl 2 rfl) ?_
        refine lv_iload hx hb dX10_act_44 (lv_at hl 0 rfl) ?_
        refine lv_iload_n hx hb dX10_act_46 rfl (lv_at hl 4 rfl) ?_
        refine h_callvi_w (rest := []) C hI hl.1 shM_0 rfl yv_X10_turnsBy k_1592 h (fun q hq => c_X10_turnsBy l D t ad z C.2.2.2.2.2.2.1 s1 x1 v4 x3 q hq) (As := [.int x1, .int v4, .int x3]) rfl rfl ⟨Nat.le_of_ble_eq_true rfl, Nat.le_of_ble_eq_true rfl⟩ (Nat.le_of_ble_eq_true rfl) dX10_act_47 (fun q8 H locs h hI => ?_)
        refine lv_goto (tgt := 93) hx hb dX10_act_50 (by decide) ?_
        exact h_iret_w C hr hI h dX10_act_93
    · refine lv_iconst hx hb dX10_act_28 ci_0 ?_
      exact h_iret_w C hr hI h dX10_act_29
set_option maxRecDepth 100000 in
set_option maxHeartbeats 4000000 in
theorem c_X10_trace (l : Launch) (D : va_G) (t : gT) (ad z : Nat → Nat) (hJ : gJ shM ad) (σ : gS) (x1 : Int32) (q : Int32) (h : f_X10_trace σ x1 = some q) : Met l yX10_trace (Cond.code yX10_trace cX10_trace 2 (some .int) :: lw_tb) (gR 2 82) (gPc shM t ad D z [.ref (ad 0), .int x1] σ) (gQi shM t ad D q σ) 0 0 (gA shM ad) := by
  refine gMet "NineKeysRoundModel" rfl (by decide) hJ (Nat.le_of_ble_eq_true rfl) ?_
  intro p e s m below meth c ls C hr hI hl
  have hx := C.1
  have hb := C.2.1
  have hl : lv_has ls 2 [(0, .ref (ad 0)), (1, .int x1)] := hl
  unfold f_X10_trace at h
  refine lv_iload_n hx hb dX10_trace_0 rfl (lv_at hl 1 rfl) ?_
  refine lv_iconst hx hb dX10_trace_1 ci_0 ?_
  refine lv_bipush hx hb dX10_trace_2 cb_24 ?_
  refine lv_aload_n hx hb dX10_trace_4 rfl (lv_at hl 0 rfl) ?_
  refine fg_1100 C hI shM_0 rfl dX10_trace_5 ?_
  refine h_mmin C hl.1 k_1411 ⟨Nat.le_of_ble_eq_true rfl, Nat.le_of_ble_eq_true rfl⟩ ⟨Nat.zero_le _, Nat.zero_le _⟩ dX10_trace_8 ?_
  refine lv_iconst hx hb dX10_trace_11 ci_1 ?_
  refine lv_isub hx hb dX10_trace_12 ?_
  refine h_callsi_o (rest := []) C hI hl.1 ys_X10_within k_1240 h (fun q hq => c_X10_within l D t ad z C.2.2.2.2.2.2.1 (σ) x1 0 ((jmin 24 (σ.1 0 39)) - 1) q hq) (As := [.int x1, .int 0, .int ((jmin 24 (σ.1 0 39)) - 1)]) rfl rfl ⟨Nat.le_of_ble_eq_true rfl, Nat.le_of_ble_eq_true rfl⟩ (Nat.le_of_ble_eq_true rfl) dX10_trace_13 (fun q1 H locs h hI => ?_)
  refine hif_eq (tgt := 28) C dX10_trace_16 (by decide) h (fun h => ?_) (fun h => ?_)
  · refine lv_iconst hx hb dX10_trace_28 ci_m1 ?_
    exact h_iret_o C hr hI h dX10_trace_29
  · refine lv_aload_n hx hb dX10_trace_19 rfl (lv_at hl 0 rfl) ?_
    refine fr_1101 C hI shM_0 rfl dX10_trace_20 ?_
    refine lv_iload_n hx hb dX10_trace_23 rfl (lv_at hl 1 rfl) ?_
    refine gx_iald C hI shM_23 h dX10_trace_24 (fun h => ?_)
    refine lv_goto (tgt := 29) hx hb dX10_trace_25 (by decide) ?_
    exact h_iret_o C hr hI h dX10_trace_29
