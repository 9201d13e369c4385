set_option maxRecDepth 100000 in
set_option maxHeartbeats 4000000 in
theorem c_X0_dropOldest (l : Launch) (D : va_G) (t : gT) (ad z : Nat → Nat) (hJ : gJ shX ad) (σ : gS) (q : gS) (h : f_X0_dropOldest σ = some q) : Met l yX0_dropOldest (Cond.code yX0_dropOldest cX0_dropOldest 1 (none) :: lw_tb) (gR 1 60) (gPc shX t ad D z [.ref (ad 3)] σ) (gQv shX t ad D q) 0 0 (gA shX ad) := by
  refine gMet "NineKeysRound$Changes" rfl (by decide) hJ (Nat.le_of_ble_eq_true rfl) ?_
  intro p e s m below meth c ls C hr hI hl
  have hx := C.1
  have hb := C.2.1
  have hl : lv_has ls 1 [(0, .ref (ad 3))] := hl
  unfold f_X0_dropOldest at h
  refine lv_aload_n hx hb dX0_dropOldest_0 rfl (lv_at hl 0 rfl) ?_
  refine fr_51 C hI shX_3 rfl dX0_dropOldest_1 ?_
  refine lv_iconst hx hb dX0_dropOldest_4 ci_1 ?_
  refine lv_aload_n hx hb dX0_dropOldest_5 rfl (lv_at hl 0 rfl) ?_
  refine fr_51 C hI shX_3 rfl dX0_dropOldest_6 ?_
  refine lv_iconst hx hb dX0_dropOldest_9 ci_0 ?_
  refine lv_bipush hx hb dX0_dropOldest_10 cb_39 ?_
  refine h_copyi C hI hl.1 k_363 shX_4 shX_4 h ⟨Nat.le_of_ble_eq_true rfl, Nat.le_of_ble_eq_true rfl⟩ dX0_dropOldest_12 (fun H locs h hI => ?_)
  refine gx_st h hI (fun s1 h hI => ?_)
  refine lv_aload_n hx hb dX0_dropOldest_15 rfl (lv_at hl 0 rfl) ?_
  refine fr_52 C hI shX_3 rfl dX0_dropOldest_16 ?_
  refine lv_iconst hx hb dX0_dropOldest_19 ci_1 ?_
  refine lv_aload_n hx hb dX0_dropOldest_20 rfl (lv_at hl 0 rfl) ?_
  refine fr_52 C hI shX_3 rfl dX0_dropOldest_21 ?_
  refine lv_iconst hx hb dX0_dropOldest_24 ci_0 ?_
  refine lv_bipush hx hb dX0_dropOldest_25 cb_39 ?_
  refine h_copyi C hI hl.1 k_363 shX_5 shX_5 h ⟨Nat.le_of_ble_eq_true rfl, Nat.le_of_ble_eq_true rfl⟩ dX0_dropOldest_27 (fun H locs h hI => ?_)
  refine gx_st h hI (fun s2 h hI => ?_)
  refine lv_aload_n hx hb dX0_dropOldest_30 rfl (lv_at hl 0 rfl) ?_
  refine fr_53 C hI shX_3 rfl dX0_dropOldest_31 ?_
  refine lv_iconst hx hb dX0_dropOldest_34 ci_1 ?_
  refine lv_aload_n hx hb dX0_dropOldest_35 rfl (lv_at hl 0 rfl) ?_
  refine fr_53 C hI shX_3 rfl dX0_dropOldest_36 ?_
  refine lv_iconst hx hb dX0_dropOldest_39 ci_0 ?_
  refine lv_bipush hx hb dX0_dropOldest_40 cb_39 ?_
  refine h_copyi C hI hl.1 k_363 shX_6 shX_6 h ⟨Nat.le_of_ble_eq_true rfl, Nat.le_of_ble_eq_true rfl⟩ dX0_dropOldest_42 (fun H locs h hI => ?_)
  refine gx_st h hI (fun s3 h hI => ?_)
  refine lv_aload_n hx hb dX0_dropOldest_45 rfl (lv_at hl 0 rfl) ?_
  refine lv_bipush hx hb dX0_dropOldest_46 cb_39 ?_
  refine fp_54 C hI shX_3 rfl dX0_dropOldest_48 (fun H locs hI => ?_)
  refine gx_st h hI (fun s4 h hI => ?_)
  exact h_vret_w C hr hI h dX0_dropOldest_51
set_option maxRecDepth 100000 in
set_option maxHeartbeats 4000000 in
theorem w_X0_note_13 {p : Program} {l : Launch} {e : Env} {s : State} {m : MethodId} {args : Array Value} {below : List Frame} {meth : Method} {c : Code} {D : va_G} {t : gT} {ad z : Nat → Nat} (C : gC p s m args meth c cX0_note 4 "NineKeysRound$Changes" D t shX ad z) (hr : meth.sig.returnType = none) {r : gS} : ∀ (x1 : Int32) (x2 : Int32) (x3 : Int32) (σ : gS) (H : Heap) (locs : List Loc) (ls : Array Slot), f_X0_note_13 x1 x2 x3 σ = some r → gI shX t ad D s.heap σ H locs → lv_has ls 4 [(0, .ref (ad 3)), (1, .int x1), (2, .int x2), (3, .int x3)] → W p l e (gR 2 80) s m args below meth c H locs 0 0 (MQ below (gQv shX t ad D r) args s 0 0 (gA shX ad)) (F0 m 13 ls []) := by
  have hx := C.1
  have hb := C.2.1
  intro x1 x2 x3 σ H locs ls  h hI hl
  unfold f_X0_note_13 at h
  refine lv_aload_n hx hb dX0_note_13 rfl (lv_at hl 0 rfl) ?_
  refine fr_51 C hI shX_3 rfl dX0_note_14 ?_
  refine lv_aload_n hx hb dX0_note_17 rfl (lv_at hl 0 rfl) ?_
  refine fg_54 C hI shX_3 rfl dX0_note_18 ?_
  refine lv_iload_n hx hb dX0_note_21 rfl (lv_at hl 1 rfl) ?_
  refine gx_iast C hI shX_4 h dX0_note_22 (fun H locs h hI => ?_)
  refine gx_st h hI (fun s1 h hI => ?_)
  refine lv_aload_n hx hb dX0_note_23 rfl (lv_at hl 0 rfl) ?_
  refine fr_52 C hI shX_3 rfl dX0_note_24 ?_
  refine lv_aload_n hx hb dX0_note_27 rfl (lv_at hl 0 rfl) ?_
  refine fg_54 C hI shX_3 rfl dX0_note_28 ?_
  refine lv_iload_n hx hb dX0_note_31 rfl (lv_at hl 2 rfl) ?_
  refine gx_iast C hI shX_5 h dX0_note_32 (fun H locs h hI => ?_)
  refine gx_st h hI (fun s2 h hI => ?_)
  refine lv_aload_n hx hb dX0_note_33 rfl (lv_at hl 0 rfl) ?_
  refine fr_53 C hI shX_3 rfl dX0_note_34 ?_
  refine lv_aload_n hx hb dX0_note_37 rfl (lv_at hl 0 rfl) ?_
  refine fg_54 C hI shX_3 rfl dX0_note_38 ?_
  refine lv_iload_n hx hb dX0_note_41 rfl (lv_at hl 3 rfl) ?_
  refine gx_iast C hI shX_6 h dX0_note_42 (fun H locs h hI => ?_)
  refine gx_st h hI (fun s3 h hI => ?_)
  refine lv_aload_n hx hb dX0_note_43 rfl (lv_at hl 0 rfl) ?_
  refine lv_dup hx hb dX0_note_44 rfl ?_
  refine fg_54 C hI shX_3 rfl dX0_note_45 ?_
  refine lv_iconst hx hb dX0_note_48 ci_1 ?_
  refine lv_iadd hx hb dX0_note_49 ?_
  refine fp_54 C hI shX_3 rfl dX0_note_50 (fun H locs hI => ?_)
  refine gx_st h hI (fun s4 h hI => ?_)
  refine lv_aload_n hx hb dX0_note_53 rfl (lv_at hl 0 rfl) ?_
  refine lv_aload_n hx hb dX0_note_54 rfl (lv_at hl 0 rfl) ?_
  refine fg_54 C hI shX_3 rfl dX0_note_55 ?_
  refine fp_56 C hI shX_3 rfl dX0_note_58 (fun H locs hI => ?_)
  refine gx_st h hI (fun s5 h hI => ?_)
  exact h_vret_w C hr hI h dX0_note_61
set_option maxRecDepth 100000 in
set_option maxHeartbeats 4000000 in
theorem c_X0_note (l : Launch) (D : va_G) (t : gT) (ad z : Nat → Nat) (hJ : gJ shX ad) (σ : gS) (x1 : Int32) (x2 : Int32) (x3 : Int32) (q : gS) (h : f_X0_note σ x1 x2 x3 = some q) : Met l yX0_note (Cond.code yX0_note cX0_note 4 (none) :: lw_tb) (gR 2 80) (gPc shX t ad D z [.ref (ad 3), .int x1, .int x2, .int x3] σ) (gQv shX t ad D q) 0 0 (gA shX ad) := by
  refine gMet "NineKeysRound$Changes" rfl (by decide) hJ (Nat.le_of_ble_eq_true rfl) ?_
  intro p e s m below meth c ls C hr hI hl
  have hx := C.1
  have hb := C.2.1
  have hl : lv_has ls 4 [(0, .ref (ad 3)), (1, .int x1), (2, .int x2), (3, .int x3)] := hl
  unfold f_X0_note at h
  refine lv_aload_n hx hb dX0_note_0 rfl (lv_at hl 0 rfl) ?_
  refine fg_54 C hI shX_3 rfl dX0_note_1 ?_
  refine lv_bipush hx hb dX0_note_4 cb_40 ?_
  refine hicmp_lt (tgt := 13) C dX0_note_6 (by decide) h (fun h => ?_) (fun h => ?_)
  · exact w_X0_note_13 C hr    _ _ _ _ _ _ _  h hI (lv_sub hl [0, 1, 2, 3] rfl)
  · refine lv_aload_n hx hb dX0_note_9 rfl (lv_at hl 0 rfl) ?_
    refine h_callvv_w (rest := []) C hI hl.1 shX_3 rfl yv_X0_dropOldest k_359 h (fun q hq => c_X0_dropOldest l D t ad z C.2.2.2.2.2.2.1 (σ) q hq) (As := []) rfl rfl ⟨Nat.le_of_ble_eq_true rfl, Nat.le_of_ble_eq_true rfl⟩ (Nat.le_of_ble_eq_true rfl) dX0_note_10 (fun q1 H locs h hI => ?_)
    exact w_X0_note_13 C hr    _ _ _ _ _ _ _  h hI (lv_sub hl [0, 1, 2, 3] rfl)
set_option maxRecDepth 100000 in
set_option maxHeartbeats 4000000 in
theorem c_X0_lay (l : Launch) (D : va_G) (t : gT) (ad z : Nat → Nat) (hJ : gJ shX ad) (σ : gS) (x1 : Int32) (x2 : Int32) (q : gS) (h : f_X0_lay σ x1 x2 = some q) : Met l yX0_lay (Cond.code yX0_lay cX0_lay 3 (none) :: lw_tb) (gR 1 60) (gPc shX t ad D z [.ref (ad 2), .int x1, .int x2] σ) (gQv shX t ad D q) 0 0 (gA shX ad) := by
  refine gMet "NineKeysRound$Changes" rfl (by decide) hJ (Nat.le_of_ble_eq_true rfl) ?_
  intro p e s m below meth c ls C hr hI hl
  have hx := C.1
  have hb := C.2.1
  have hl : lv_has ls 3 [(0, .ref (ad 2)), (1, .int x1), (2, .int x2)] := hl
  unfold f_X0_lay at h
  refine lv_iload_n hx hb dX0_lay_0 rfl (lv_at hl 1 rfl) ?_
  refine hif_lt (tgt := 14) C dX0_lay_1 (by decide) h (fun h => ?_) (fun h => ?_)
  · exact h_vret_w C hr hI h dX0_lay_14
  · refine lv_iload_n hx hb dX0_lay_4 rfl (lv_at hl 1 rfl) ?_
    refine lv_aload_n hx hb dX0_lay_5 rfl (lv_at hl 0 rfl) ?_
    refine gx_alen C hI shX_2 (v := 40) (by decide) dX0_lay_6 ?_
    refine hicmp_ge (tgt := 14) C dX0_lay_7 (by decide) h (fun h => ?_) (fun h => ?_)
    · exact h_vret_w C hr hI h dX0_lay_14
    · refine lv_aload_n hx hb dX0_lay_10 rfl (lv_at hl 0 rfl) ?_
      refine lv_iload_n hx hb dX0_lay_11 rfl (lv_at hl 1 rfl) ?_
      refine lv_iload_n hx hb dX0_lay_12 rfl (lv_at hl 2 rfl) ?_
      refine gx_iast C hI shX_2 h dX0_lay_13 (fun H locs h hI => ?_)
      refine gx_st h hI (fun s1 h hI => ?_)
      exact h_vret_w C hr hI h dX0_lay_14
set_option maxRecDepth 100000 in
set_option maxHeartbeats 4000000 in
theorem c_X0_takeBack (l : Launch) (D : va_G) (t : gT) (ad z : Nat → Nat) (hJ : gJ shX ad) (σ : gS) (q : Int32 × gS) (h : f_X0_takeBack σ = some q) : Met l yX0_takeBack (Cond.code yX0_takeBack cX0_takeBack 2 (some .boolean) :: lw_tb) (gR 2 82) (gPc shX t ad D z [.ref (ad 3), .ref (ad 2)] σ) (gQi shX t ad D q.1 q.2) 0 0 (gA shX ad) := by
  refine gMet "NineKeysRound$Changes" rfl (by decide) hJ (Nat.le_of_ble_eq_true rfl) ?_
  intro p e s m below meth c ls C hr hI hl
  have hx := C.1
  have hb := C.2.1
  have hl : lv_has ls 2 [(0, .ref (ad 3)), (1, .ref (ad 2))] := hl
  unfold f_X0_takeBack at h
  refine lv_aload_n hx hb dX0_takeBack_0 rfl (lv_at hl 0 rfl) ?_
  refine fg_54 C hI shX_3 rfl dX0_takeBack_1 ?_
  refine hif_gt (tgt := 9) C dX0_takeBack_4 (by decide) h (fun h => ?_) (fun h => ?_)
  · refine lv_aload_n hx hb dX0_takeBack_9 rfl (lv_at hl 0 rfl) ?_
    refine lv_dup hx hb dX0_takeBack_10 rfl ?_
    refine fg_54 C hI shX_3 rfl dX0_takeBack_11 ?_
    refine lv_iconst hx hb dX0_takeBack_14 ci_1 ?_
    refine lv_isub hx hb dX0_takeBack_15 ?_
    refine fp_54 C hI shX_3 rfl dX0_takeBack_16 (fun H locs hI => ?_)
    refine gx_st h hI (fun s1 h hI => ?_)
    refine lv_aload_n hx hb dX0_takeBack_19 rfl (lv_at hl 1 rfl) ?_
    refine lv_aload_n hx hb dX0_takeBack_20 rfl (lv_at hl 0 rfl) ?_
    refine fr_51 C hI shX_3 rfl dX0_takeBack_21 ?_
    refine lv_aload_n hx hb dX0_takeBack_24 rfl (lv_at hl 0 rfl) ?_
    refine fg_54 C hI shX_3 rfl dX0_takeBack_25 ?_
    refine gx_iald C hI shX_4 h dX0_takeBack_28 (fun h => ?_)
    refine lv_aload_n hx hb dX0_takeBack_29 rfl (lv_at hl 0 rfl) ?_
    refine fr_52 C hI shX_3 rfl dX0_takeBack_30 ?_
    refine lv_aload_n hx hb dX0_takeBack_33 rfl (lv_at hl 0 rfl) ?_
    refine fg_54 C hI shX_3 rfl dX0_takeBack_34 ?_
    refine gx_iald C hI shX_5 h dX0_takeBack_37 (fun h => ?_)
    refine h_callsv_w (rest := []) C hI hl.1 ys_X0_lay k_939 h (fun q hq => c_X0_lay l D t ad z C.2.2.2.2.2.2.1 s1 (s1.1 4 ((s1.1 3 3)).toNatClampNeg) (s1.1 5 ((s1.1 3 3)).toNatClampNeg) q hq) (As := [.ref (ad 2), .int (s1.1 4 ((s1.1 3 3)).toNatClampNeg), .int (s1.1 5 ((s1.1 3 3)).toNatClampNeg)]) rfl rfl ⟨Nat.le_of_ble_eq_true rfl, Nat.le_of_ble_eq_true rfl⟩ (Nat.le_of_ble_eq_true rfl) dX0_takeBack_38 (fun q2 H locs h hI => ?_)
    refine lv_iconst hx hb dX0_takeBack_41 ci_1 ?_
    exact h_zret_w C hr hI h dX0_takeBack_42
  · refine lv_iconst hx hb dX0_takeBack_7 ci_0 ?_
    exact h_zret_w C hr hI h dX0_takeBack_8
set_option maxRecDepth 100000 in
set_option maxHeartbeats 4000000 in
theorem c_X0_doAgain (l : Launch) (D : va_G) (t : gT) (ad z : Nat → Nat) (hJ : gJ shX ad) (σ : gS) (q : Int32 × gS) (h : f_X0_doAgain σ = some q) : Met l yX0_doAgain (Cond.code yX0_doAgain cX0_doAgain 2 (some .boolean) :: lw_tb) (gR 2 82) (gPc shX t ad D z [.ref (ad 3), .ref (ad 2)] σ) (gQi shX t ad D q.1 q.2) 0 0 (gA shX ad) := by
  refine gMet "NineKeysRound$Changes" rfl (by decide) hJ (Nat.le_of_ble_eq_true rfl) ?_
  intro p e s m below meth c ls C hr hI hl
  have hx := C.1
  have hb := C.2.1
  have hl : lv_has ls 2 [(0, .ref (ad 3)), (1, .ref (ad 2))] := hl
  unfold f_X0_doAgain at h
  refine lv_aload_n hx hb dX0_doAgain_0 rfl (lv_at hl 0 rfl) ?_
  refine fg_54 C hI shX_3 rfl dX0_doAgain_1 ?_
  refine lv_aload_n hx hb dX0_doAgain_4 rfl (lv_at hl 0 rfl) ?_
  refine fg_56 C hI shX_3 rfl dX0_doAgain_5 ?_
  refine hicmp_lt (tgt := 13) C dX0_doAgain_8 (by decide) h (fun h => ?_) (fun h => ?_)
  · refine lv_aload_n hx hb dX0_doAgain_13 rfl (lv_at hl 1 rfl) ?_
    refine lv_aload_n hx hb dX0_doAgain_14 rfl (lv_at hl 0 rfl) ?_
    refine fr_51 C hI shX_3 rfl dX0_doAgain_15 ?_
    refine lv_aload_n hx hb dX0_doAgain_18 rfl (lv_at hl 0 rfl) ?_
    refine fg_54 C hI shX_3 rfl dX0_doAgain_19 ?_
    refine gx_iald C hI shX_4 h dX0_doAgain_22 (fun h => ?_)
    refine lv_aload_n hx hb dX0_doAgain_23 rfl (lv_at hl 0 rfl) ?_
    refine fr_53 C hI shX_3 rfl dX0_doAgain_24 ?_
    refine lv_aload_n hx hb dX0_doAgain_27 rfl (lv_at hl 0 rfl) ?_
    refine fg_54 C hI shX_3 rfl dX0_doAgain_28 ?_
    refine gx_iald C hI shX_6 h dX0_doAgain_31 (fun h => ?_)
    refine h_callsv_w (rest := []) C hI hl.1 ys_X0_lay k_939 h (fun q hq => c_X0_lay l D t ad z C.2.2.2.2.2.2.1 (σ) (σ.1 4 ((σ.1 3 3)).toNatClampNeg) (σ.1 6 ((σ.1 3 3)).toNatClampNeg) q hq) (As := [.ref (ad 2), .int (σ.1 4 ((σ.1 3 3)).toNatClampNeg), .int (σ.1 6 ((σ.1 3 3)).toNatClampNeg)]) rfl rfl ⟨Nat.le_of_ble_eq_true rfl, Nat.le_of_ble_eq_true rfl⟩ (Nat.le_of_ble_eq_true rfl) dX0_doAgain_32 (fun q1 H locs h hI => ?_)
    refine lv_aload_n hx hb dX0_doAgain_35 rfl (lv_at hl 0 rfl) ?_
    refine lv_dup hx hb dX0_doAgain_36 rfl ?_
    refine fg_54 C hI shX_3 rfl dX0_doAgain_37 ?_
    refine lv_iconst hx hb dX0_doAgain_40 ci_1 ?_
    refine lv_iadd hx hb dX0_doAgain_41 ?_
    refine fp_54 C hI shX_3 rfl dX0_doAgain_42 (fun H locs hI => ?_)
    refine gx_st h hI (fun s2 h hI => ?_)
    refine lv_iconst hx hb dX0_doAgain_45 ci_1 ?_
    exact h_zret_w C hr hI h dX0_doAgain_46
  · refine lv_iconst hx hb dX0_doAgain_11 ci_0 ?_
    exact h_zret_w C hr hI h dX0_doAgain_12
set_option maxRecDepth 100000 in
set_option maxHeartbeats 4000000 in
theorem c_X5_cellAt (l : Launch) (D : va_G) (t : gT) (ad z : Nat → Nat) (hJ : gJ shX ad) (kS : Nat) (h_kS : shX[kS]? = some (.inr (.inl (5, [some (kS + 1), none, none, none, none])))) (h_kS1 : shX[kS + 1]? = some (.inl (1, 60))) (σ : gS) (x1 : Int32) (q : Int64) (h : f_X5_cellAt σ kS x1 = some q) : Met l yX5_cellAt (Cond.code yX5_cellAt cX5_cellAt 2 (some .long) :: lw_tb) (gR 1 60) (gPc shX t ad D z [.ref (ad kS), .int x1] σ) (gQl shX t ad D q σ) 0 0 (gA shX ad) := by
  refine gMet "NineKeysRound$Shelf" rfl (by decide) hJ (Nat.le_of_ble_eq_true rfl) ?_
  intro p e s m below meth c ls C hr hI hl
  have hx := C.1
  have hb := C.2.1
  have hl : lv_has ls 2 [(0, .ref (ad kS)), (1, .int x1)] := hl
  unfold f_X5_cellAt at h
  refine lv_iload_n hx hb dX5_cellAt_0 rfl (lv_at hl 1 rfl) ?_
  refine hif_lt (tgt := 21) C dX5_cellAt_1 (by decide) h (fun h => ?_) (fun h => ?_)
  · refine lv_lconst (v := 0) hx hb dX5_cellAt_21 rfl ?_
    exact h_lret_o C hr hI h dX5_cellAt_22
  · refine lv_iload_n hx hb dX5_cellAt_4 rfl (lv_at hl 1 rfl) ?_
    refine lv_aload_n hx hb dX5_cellAt_5 rfl (lv_at hl 0 rfl) ?_
    refine fg_247 C hI h_kS rfl dX5_cellAt_6 ?_
    refine hicmp_ge (tgt := 21) C dX5_cellAt_9 (by decide) h (fun h => ?_) (fun h => ?_)
    · refine lv_lconst (v := 0) hx hb dX5_cellAt_21 rfl ?_
      exact h_lret_o C hr hI h dX5_cellAt_22
    · refine lv_aload_n hx hb dX5_cellAt_12 rfl (lv_at hl 0 rfl) ?_
      refine fr_238 C hI h_kS rfl dX5_cellAt_13 ?_
      refine lv_iload_n hx hb dX5_cellAt_16 rfl (lv_at hl 1 rfl) ?_
      refine gx_lald C hI h_kS1 h dX5_cellAt_17 (fun h => ?_)
      refine lv_goto (tgt := 22) hx hb dX5_cellAt_18 (by decide) ?_
      exact h_lret_o C hr hI h dX5_cellAt_22
set_option maxRecDepth 100000 in
set_option maxHeartbeats 4000000 in
theorem c_X8_isPost (l : Launch) (D : va_G) (t : gT) (ad z : Nat → Nat) (hJ : gJ shX ad) (σ : gS) (x1 : Int32) (q : Int32) (h : f_X8_isPost σ x1 = some q) : Met l yX8_isPost (Cond.code yX8_isPost cX8_isPost 2 (some .boolean) :: lw_tb) (gR 1 60) (gPc shX t ad D z [.ref (ad 1), .int x1] σ) (gQi shX t ad D q σ) 0 0 (gA shX ad) := by
  refine gMet "NineKeysRound$Yard" rfl (by decide) hJ (Nat.le_of_ble_eq_true rfl) ?_
  intro p e s m below meth c ls C hr hI hl
  have hx := C.1
  have hb := C.2.1
  have hl : lv_has ls 2 [(0, .ref (ad 1)), (1, .int x1)] := hl
  unfold f_X8_isPost at h
  refine lv_iload_n hx hb dX8_isPost_0 rfl (lv_at hl 1 rfl) ?_
  refine hif_lt (tgt := 16) C dX8_isPost_1 (by decide) h (fun h => ?_) (fun h => ?_)
  · refine lv_iconst hx hb dX8_isPost_16 ci_0 ?_
    exact h_zret_o C hr hI h dX8_isPost_17
  · refine lv_iload_n hx hb dX8_isPost_4 rfl (lv_at hl 1 rfl) ?_
    refine lv_aload_n hx hb dX8_isPost_5 rfl (lv_at hl 0 rfl) ?_
    refine fg_38 C hI shX_1 rfl dX8_isPost_6 ?_
    refine hicmp_ge (tgt := 16) C dX8_isPost_9 (by decide) h (fun h => ?_) (fun h => ?_)
    · refine lv_iconst hx hb dX8_isPost_16 ci_0 ?_
      exact h_zret_o C hr hI h dX8_isPost_17
    · refine lv_iconst hx hb dX8_isPost_12 ci_1 ?_
      refine lv_goto (tgt := 17) hx hb dX8_isPost_13 (by decide) ?_
      exact h_zret_o C hr hI h dX8_isPost_17
set_option maxRecDepth 100000 in
set_option maxHeartbeats 4000000 in
theorem c_X8_cellsTo (l : Launch) (D : va_G) (t : gT) (ad z : Nat → Nat) (hJ : gJ shX ad) (σ : gS) (x1 : Int32) (x2 : Int32) (x3 : Int32) (q : Int32) (h : f_X8_cellsTo σ x1 x2 x3 = some q) : Met l yX8_cellsTo (Cond.code yX8_cellsTo cX8_cellsTo 4 (some .int) :: lw_tb) (gR 1 60) (gPc shX t ad D z [.ref (ad 1), .int x1, .int x2, .int x3] σ) (gQi shX t ad D q σ) 0 0 (gA shX ad) := by
  refine gMet "NineKeysRound$Yard" rfl (by decide) hJ (Nat.le_of_ble_eq_true rfl) ?_
  intro p e s m below meth c ls C hr hI hl
  have hx := C.1
  have hb := C.2.1
  have hl : lv_has ls 4 [(0, .ref (ad 1)), (1, .int x1), (2, .int x2), (3, .int x3)] := hl
  unfold f_X8_cellsTo at h
  refine lv_iload_n hx hb dX8_cellsTo_0 rfl (lv_at hl 1 rfl) ?_
  refine hif_lt (tgt := 10) C dX8_cellsTo_1 (by decide) h (fun h => ?_) (fun h => ?_)
  · refine lv_iconst hx hb dX8_cellsTo_10 ci_0 ?_
    exact h_iret_o C hr hI h dX8_cellsTo_11
  · refine lv_iload_n hx hb dX8_cellsTo_4 rfl (lv_at hl 1 rfl) ?_
    refine lv_bipush hx hb dX8_cellsTo_5 cb_9 ?_
    refine hicmp_le (tgt := 12) C dX8_cellsTo_7 (by decide) h (fun h => ?_) (fun h => ?_)
    · refine lv_aload_n hx hb dX8_cellsTo_12 rfl (lv_at hl 0 rfl) ?_
      refine fr_34 C hI shX_1 rfl dX8_cellsTo_13 ?_
      refine lv_iconst hx hb dX8_cellsTo_16 ci_4 ?_
      refine lv_iload_n hx hb dX8_cellsTo_17 rfl (lv_at hl 1 rfl) ?_
      refine lv_imul hx hb dX8_cellsTo_18 ?_
      refine lv_iconst hx hb dX8_cellsTo_19 ci_0 ?_
      refine lv_iadd hx hb dX8_cellsTo_20 ?_
      refine gx_iald C hI shX_2 h dX8_cellsTo_21 (fun h => ?_)
      refine lv_iload_n hx hb dX8_cellsTo_22 rfl (lv_at hl 2 rfl) ?_
      refine lv_isub hx hb dX8_cellsTo_23 ?_
      refine h_mabs C hl.1 k_544 ⟨Nat.le_of_ble_eq_true rfl, Nat.le_of_ble_eq_true rfl⟩ ⟨Nat.zero_le _, Nat.zero_le _⟩ dX8_cellsTo_24 ?_
      refine lv_aload_n hx hb dX8_cellsTo_27 rfl (lv_at hl 0 rfl) ?_
      refine fr_34 C hI shX_1 rfl dX8_cellsTo_28 ?_
      refine lv_iconst hx hb dX8_cellsTo_31 ci_4 ?_
      refine lv_iload_n hx hb dX8_cellsTo_32 rfl (lv_at hl 1 rfl) ?_
      refine lv_imul hx hb dX8_cellsTo_33 ?_
      refine lv_iconst hx hb dX8_cellsTo_34 ci_1 ?_
      refine lv_iadd hx hb dX8_cellsTo_35 ?_
      refine gx_iald C hI shX_2 h dX8_cellsTo_36 (fun h => ?_)
      refine lv_iload_n hx hb dX8_cellsTo_37 rfl (lv_at hl 3 rfl) ?_
      refine lv_isub hx hb dX8_cellsTo_38 ?_
      refine h_mabs C hl.1 k_544 ⟨Nat.le_of_ble_eq_true rfl, Nat.le_of_ble_eq_true rfl⟩ ⟨Nat.zero_le _, Nat.zero_le _⟩ dX8_cellsTo_39 ?_
      refine lv_iadd hx hb dX8_cellsTo_42 ?_
      exact h_iret_o C hr hI h dX8_cellsTo_43
    · refine lv_iconst hx hb dX8_cellsTo_10 ci_0 ?_
      exact h_iret_o C hr hI h dX8_cellsTo_11
set_option maxRecDepth 100000 in
set_option maxHeartbeats 4000000 in
theorem c_X8_way (l : Launch) (D : va_G) (t : gT) (ad z : Nat → Nat) (hJ : gJ shX ad) (σ : gS) (x1 : Int32) (x2 : Int32) (q : Int32) (h : f_X8_way σ x1 x2 = some q) : Met l yX8_way (Cond.code yX8_way cX8_way 3 (some .int) :: lw_tb) (gR 2 83) (gPc shX t ad D z [.ref (ad 1), .int x1, .int x2] σ) (gQi shX t ad D q σ) 0 0 (gA shX ad) := by
  refine gMet "NineKeysRound$Yard" rfl (by decide) hJ (Nat.le_of_ble_eq_true rfl) ?_
  intro p e s m below meth c ls C hr hI hl
  have hx := C.1
  have hb := C.2.1
  have hl : lv_has ls 3 [(0, .ref (ad 1)), (1, .int x1), (2, .int x2)] := hl
  unfold f_X8_way at h
  refine lv_iload_n hx hb dX8_way_0 rfl (lv_at hl 2 rfl) ?_
  refine hif_lt (tgt := 10) C dX8_way_1 (by decide) h (fun h => ?_) (fun h => ?_)
  · refine lv_iconst hx hb dX8_way_10 ci_0 ?_
    exact h_iret_o C hr hI h dX8_way_11
  · refine lv_iload_n hx hb dX8_way_4 rfl (lv_at hl 2 rfl) ?_
    refine lv_bipush hx hb dX8_way_5 cb_9 ?_
    refine hicmp_le (tgt := 12) C dX8_way_7 (by decide) h (fun h => ?_) (fun h => ?_)
    · refine lv_aload_n hx hb dX8_way_12 rfl (lv_at hl 0 rfl) ?_
      refine lv_iload_n hx hb dX8_way_13 rfl (lv_at hl 1 rfl) ?_
      refine lv_aload_n hx hb dX8_way_14 rfl (lv_at hl 0 rfl) ?_
      refine fr_34 C hI shX_1 rfl dX8_way_15 ?_
      refine lv_iconst hx hb dX8_way_18 ci_4 ?_
      refine lv_iload_n hx hb dX8_way_19 rfl (lv_at hl 2 rfl) ?_
      refine lv_imul hx hb dX8_way_20 ?_
      refine lv_iconst hx hb dX8_way_21 ci_0 ?_
      refine lv_iadd hx hb dX8_way_22 ?_
      refine gx_iald C hI shX_2 h dX8_way_23 (fun h => ?_)
      refine lv_aload_n hx hb dX8_way_24 rfl (lv_at hl 0 rfl) ?_
      refine fr_34 C hI shX_1 rfl dX8_way_25 ?_
      refine lv_iconst hx hb dX8_way_28 ci_4 ?_
      refine lv_iload_n hx hb dX8_way_29 rfl (lv_at hl 2 rfl) ?_
      refine lv_imul hx hb dX8_way_30 ?_
      refine lv_iconst hx hb dX8_way_31 ci_1 ?_
      refine lv_iadd hx hb dX8_way_32 ?_
      refine gx_iald C hI shX_2 h dX8_way_33 (fun h => ?_)
      refine h_callvi_o (rest := []) C hI hl.1 shX_1 rfl yv_X8_cellsTo k_540 h (fun q hq => c_X8_cellsTo l D t ad z C.2.2.2.2.2.2.1 (σ) x1 (σ.1 2 (((4 * x2) + 0)).toNatClampNeg) (σ.1 2 (((4 * x2) + 1)).toNatClampNeg) q hq) (As := [.int x1, .int (σ.1 2 (((4 * x2) + 0)).toNatClampNeg), .int (σ.1 2 (((4 * x2) + 1)).toNatClampNeg)]) rfl rfl ⟨Nat.le_of_ble_eq_true rfl, Nat.le_of_ble_eq_true rfl⟩ (Nat.le_of_ble_eq_true rfl) dX8_way_34 (fun q1 H locs h hI => ?_)
      refine lv_aload_n hx hb dX8_way_37 rfl (lv_at hl 0 rfl) ?_
      refine fr_34 C hI shX_1 rfl dX8_way_38 ?_
      refine lv_bipush hx hb dX8_way_41 cb_38 ?_
      refine gx_iald C hI shX_2 h dX8_way_43 (fun h => ?_)
      refine lv_imul hx hb dX8_way_44 ?_
      exact h_iret_o C hr hI h dX8_way_45
    · refine lv_iconst hx hb dX8_way_10 ci_0 ?_
      exact h_iret_o C hr hI h dX8_way_11
set_option maxRecDepth 100000 in
set_option maxHeartbeats 4000000 in
theorem c_X8_stand (l : Launch) (D : va_G) (t : gT) (ad z : Nat → Nat) (hJ : gJ shX ad) (σ : gS) (q : Int32) (h : f_X8_stand σ = some q) : Met l yX8_stand (Cond.code yX8_stand cX8_stand 1 (some .int) :: lw_tb) (gR 1 60) (gPc shX t ad D z [.ref (ad 1)] σ) (gQi shX t ad D q σ) 0 0 (gA shX ad) := by
  refine gMet "NineKeysRound$Yard" rfl (by decide) hJ (Nat.le_of_ble_eq_true rfl) ?_
  intro p e s m below meth c ls C hr hI hl
  have hx := C.1
  have hb := C.2.1
  have hl : lv_has ls 1 [(0, .ref (ad 1))] := hl
  unfold f_X8_stand at h
  refine lv_aload_n hx hb dX8_stand_0 rfl (lv_at hl 0 rfl) ?_
  refine fr_34 C hI shX_1 rfl dX8_stand_1 ?_
  refine lv_bipush hx hb dX8_stand_4 cb_39 ?_
  refine gx_iald C hI shX_2 h dX8_stand_6 (fun h => ?_)
  exact h_iret_o C hr hI h dX8_stand_7
set_option maxRecDepth 100000 in
set_option maxHeartbeats 4000000 in
theorem w_X1_measure_46 {p : Program} {l : Launch} {e : Env} {s : State} {m : MethodId} {args : Array Value} {below : List Frame} {meth : Method} {c : Code} {D : va_G} {t : gT} {ad z : Nat → Nat} (C : gC p s m args meth c cX1_measure 2 "NineKeysRound$Course" D t shX ad z) (hr : meth.sig.returnType = none) {kC : Nat} (h_kC : shX[kC]? = some (.inr (.inl (1, [some 1, some (kC + 1), some (kC + 2), none, none, none])))) (h_kC1 : shX[kC + 1]? = some (.inl (0, 20))) (h_kC2 : shX[kC + 2]? = some (.inl (0, 20))) {r : gS} : ∀ (n : Nat) (x1 : Int32) (σ : gS) (H : Heap) (locs : List Loc) (ls : Array Slot), f_X1_measure_46 kC n x1 σ = some r → gI shX t ad D s.heap σ H locs → lv_has ls 2 [(0, .ref (ad kC)), (1, .int x1)] → W p l e (gR 3 105) s m args below meth c H locs 0 0 (MQ below (gQv shX t ad D r) args s 0 0 (gA shX ad)) (F0 m 46 ls []) := by
  have hx := C.1
  have hb := C.2.1
  intro n
  induction n with
  | zero =>
    intro x1 σ H locs ls  h
    exact absurd h (by simp [f_X1_measure_46])
  | succ n ih =>
    intro x1 σ H locs ls  h hI hl
    unfold f_X1_measure_46 at h
    refine lv_iload_n hx hb dX1_measure_46 rfl (lv_at hl 1 rfl) ?_
    refine lv_aload_n hx hb dX1_measure_47 rfl (lv_at hl 0 rfl) ?_
    refine fg_119 C hI h_kC rfl dX1_measure_48 ?_
    refine hicmp_ge (tgt := 104) C dX1_measure_51 (by decide) h (fun h => ?_) (fun h => ?_)
    · refine lv_aload_n hx hb dX1_measure_104 rfl (lv_at hl 0 rfl) ?_
      refine lv_aload_n hx hb dX1_measure_105 rfl (lv_at hl 0 rfl) ?_
      refine fr_117 C hI h_kC rfl dX1_measure_106 ?_
      refine lv_aload_n hx hb dX1_measure_109 rfl (lv_at hl 0 rfl) ?_
      refine fg_119 C hI h_kC rfl dX1_measure_110 ?_
      refine lv_iconst hx hb dX1_measure_113 ci_1 ?_
      refine lv_isub hx hb dX1_measure_114 ?_
      refine gx_iald C hI h_kC2 h dX1_measure_115 (fun h => ?_)
      refine lv_aload_n hx hb dX1_measure_116 rfl (lv_at hl 0 rfl) ?_
      refine fr_115 C hI h_kC rfl dX1_measure_117 ?_
      refine h_callvi_o (rest := [.int (σ.1 (kC + 2) (((σ.1 kC 4) - 1)).toNatClampNeg), .ref (ad kC)]) C hI hl.1 shX_1 rfl yv_X8_stand k_547 h (fun q hq => c_X8_stand l D t ad z C.2.2.2.2.2.2.1 (σ) q hq) (As := []) rfl rfl ⟨Nat.le_of_ble_eq_true rfl, Nat.le_of_ble_eq_true rfl⟩ (Nat.le_of_ble_eq_true rfl) dX1_measure_120 (fun q1 H locs h hI => ?_)
      refine lv_iadd hx hb dX1_measure_123 ?_
      refine lv_aload_n hx hb dX1_measure_124 rfl (lv_at hl 0 rfl) ?_
      refine fr_115 C hI h_kC rfl dX1_measure_125 ?_
      refine lv_aload_n hx hb dX1_measure_128 rfl (lv_at hl 0 rfl) ?_
      refine fr_116 C hI h_kC rfl dX1_measure_129 ?_
      refine lv_aload_n hx hb dX1_measure_132 rfl (lv_at hl 0 rfl) ?_
      refine fg_119 C hI h_kC rfl dX1_measure_133 ?_
      refine lv_iconst hx hb dX1_measure_136 ci_1 ?_
      refine lv_isub hx hb dX1_measure_137 ?_
      refine gx_iald C hI h_kC1 h dX1_measure_138 (fun h => ?_)
      refine lv_aload_n hx hb dX1_measure_139 rfl (lv_at hl 0 rfl) ?_
      refine fr_116 C hI h_kC rfl dX1_measure_140 ?_
      refine lv_iconst hx hb dX1_measure_143 ci_0 ?_
      refine gx_iald C hI h_kC1 h dX1_measure_144 (fun h => ?_)
      refine h_callvi_o (rest := [.int ((σ.1 (kC + 2) (((σ.1 kC 4) - 1)).toNatClampNeg) + q1), .ref (ad kC)]) C hI hl.1 shX_1 rfl yv_X8_way k_536 h (fun q hq => c_X8_way l D t ad z C.2.2.2.2.2.2.1 (σ) (σ.1 (kC + 1) (((σ.1 kC 4) - 1)).toNatClampNeg) (σ.1 (kC + 1) (0 : Int32).toNatClampNeg) q hq) (As := [.int (σ.1 (kC + 1) (((σ.1 kC 4) - 1)).toNatClampNeg), .int (σ.1 (kC + 1) (0 : Int32).toNatClampNeg)]) rfl rfl ⟨Nat.le_of_ble_eq_true rfl, Nat.le_of_ble_eq_true rfl⟩ (Nat.le_of_ble_eq_true rfl) dX1_measure_145 (fun q2 H locs h hI => ?_)
      refine lv_iadd hx hb dX1_measure_148 ?_
      refine fp_121 C hI h_kC rfl dX1_measure_149 (fun H locs hI => ?_)
      refine gx_st h hI (fun s3 h hI => ?_)
      exact h_vret_w C hr hI h dX1_measure_152
    · refine lv_aload_n hx hb dX1_measure_54 rfl (lv_at hl 0 rfl) ?_
      refine fr_117 C hI h_kC rfl dX1_measure_55 ?_
      refine lv_iload_n hx hb dX1_measure_58 rfl (lv_at hl 1 rfl) ?_
      refine lv_aload_n hx hb dX1_measure_59 rfl (lv_at hl 0 rfl) ?_
      refine fr_117 C hI h_kC rfl dX1_measure_60 ?_
      refine lv_iload_n hx hb dX1_measure_63 rfl (lv_at hl 1 rfl) ?_
      refine lv_iconst hx hb dX1_measure_64 ci_1 ?_
      refine lv_isub hx hb dX1_measure_65 ?_
      refine gx_iald C hI h_kC2 h dX1_measure_66 (fun h => ?_)
      refine lv_aload_n hx hb dX1_measure_67 rfl (lv_at hl 0 rfl) ?_
      refine fr_115 C hI h_kC rfl dX1_measure_68 ?_
      refine h_callvi_o (rest := [.int (σ.1 (kC + 2) ((x1 - 1)).toNatClampNeg), .int x1, .ref (ad (kC + 2))]) C hI hl.1 shX_1 rfl yv_X8_stand k_547 h (fun q hq => c_X8_stand l D t ad z C.2.2.2.2.2.2.1 (σ) q hq) (As := []) rfl rfl ⟨Nat.le_of_ble_eq_true rfl, Nat.le_of_ble_eq_true rfl⟩ (Nat.le_of_ble_eq_true rfl) dX1_measure_71 (fun q4 H locs h hI => ?_)
      refine lv_iadd hx hb dX1_measure_74 ?_
      refine lv_aload_n hx hb dX1_measure_75 rfl (lv_at hl 0 rfl) ?_
      refine fr_115 C hI h_kC rfl dX1_measure_76 ?_
      refine lv_aload_n hx hb dX1_measure_79 rfl (lv_at hl 0 rfl) ?_
      refine fr_116 C hI h_kC rfl dX1_measure_80 ?_
      refine lv_iload_n hx hb dX1_measure_83 rfl (lv_at hl 1 rfl) ?_
      refine lv_iconst hx hb dX1_measure_84 ci_1 ?_
      refine lv_isub hx hb dX1_measure_85 ?_
      refine gx_iald C hI h_kC1 h dX1_measure_86 (fun h => ?_)
      refine lv_aload_n hx hb dX1_measure_87 rfl (lv_at hl 0 rfl) ?_
      refine fr_116 C hI h_kC rfl dX1_measure_88 ?_
      refine lv_iload_n hx hb dX1_measure_91 rfl (lv_at hl 1 rfl) ?_
      refine gx_iald C hI h_kC1 h dX1_measure_92 (fun h => ?_)
      refine h_callvi_o (rest := [.int ((σ.1 (kC + 2) ((x1 - 1)).toNatClampNeg) + q4), .int x1, .ref (ad (kC + 2))]) C hI hl.1 shX_1 rfl yv_X8_way k_536 h (fun q hq => c_X8_way l D t ad z C.2.2.2.2.2.2.1 (σ) (σ.1 (kC + 1) ((x1 - 1)).toNatClampNeg) (σ.1 (kC + 1) (x1).toNatClampNeg) q hq) (As := [.int (σ.1 (kC + 1) ((x1 - 1)).toNatClampNeg), .int (σ.1 (kC + 1) (x1).toNatClampNeg)]) rfl rfl ⟨Nat.le_of_ble_eq_true rfl, Nat.le_of_ble_eq_true rfl⟩ (Nat.le_of_ble_eq_true rfl) dX1_measure_93 (fun q5 H locs h hI => ?_)
      refine lv_iadd hx hb dX1_measure_96 ?_
      refine gx_iast C hI h_kC2 h dX1_measure_97 (fun H locs h hI => ?_)
      refine gx_st h hI (fun s6 h hI => ?_)
      refine h_iinc C hl dX1_measure_98 1 rfl ci_1 h (by decide) (lvf := fun v7 => [(1, .int v7), (0, .ref (ad kC))]) (fun _ => rfl) (fun v7 ls h hl => ?_)
      refine lv_goto (tgt := 46) hx hb dX1_measure_101 (by decide) ?_
      exact ih _ _ _ _ _  h hI (lv_sub hl [1, 0] rfl)
set_option maxRecDepth 100000 in
set_option maxHeartbeats 4000000 in
theorem c_X1_measure (l : Launch) (D : va_G) (t : gT) (ad z : Nat → Nat) (hJ : gJ shX ad) (kC : Nat) (h_kC : shX[kC]? = some (.inr (.inl (1, [some 1, some (kC + 1), some (kC + 2), none, none, none])))) (h_kC1 : shX[kC + 1]? = some (.inl (0, 20))) (h_kC2 : shX[kC + 2]? = some (.inl (0, 20))) (σ : gS) (q : gS) (h : f_X1_measure σ kC = some q) : Met l yX1_measure (Cond.code yX1_measure cX1_measure 2 (none) :: lw_tb) (gR 3 105) (gPc shX t ad D z [.ref (ad kC)] σ) (gQv shX t ad D q) 0 0 (gA shX ad) := by
  refine gMet "NineKeysRound$Course" rfl (by decide) hJ (Nat.le_of_ble_eq_true rfl) ?_
  intro p e s m below meth c ls C hr hI hl
  have hx := C.1
  have hb := C.2.1
  have hl : lv_has ls 2 [(0, .ref (ad kC))] := hl
  unfold f_X1_measure at h
  refine lv_aload_n hx hb dX1_measure_0 rfl (lv_at hl 0 rfl) ?_
  refine lv_iconst hx hb dX1_measure_1 ci_0 ?_
  refine fp_118 C hI h_kC rfl dX1_measure_2 (fun H locs hI => ?_)
  refine gx_st h hI (fun s1 h hI => ?_)
  refine lv_aload_n hx hb dX1_measure_5 rfl (lv_at hl 0 rfl) ?_
  refine lv_iconst hx hb dX1_measure_6 ci_0 ?_
  refine fp_121 C hI h_kC rfl dX1_measure_7 (fun H locs hI => ?_)
  refine gx_st h hI (fun s2 h hI => ?_)
  refine lv_aload_n hx hb dX1_measure_10 rfl (lv_at hl 0 rfl) ?_
  refine fg_119 C hI h_kC rfl dX1_measure_11 ?_
  refine hif_ne (tgt := 18) C dX1_measure_14 (by decide) h (fun h => ?_) (fun h => ?_)
  · refine lv_aload_n hx hb dX1_measure_18 rfl (lv_at hl 0 rfl) ?_
    refine lv_aload_n hx hb dX1_measure_19 rfl (lv_at hl 0 rfl) ?_
    refine fr_115 C hI h_kC rfl dX1_measure_20 ?_
    refine lv_bipush hx hb dX1_measure_23 cb_9 ?_
    refine lv_aload_n hx hb dX1_measure_25 rfl (lv_at hl 0 rfl) ?_
    refine fr_116 C hI h_kC rfl dX1_measure_26 ?_
    refine lv_iconst hx hb dX1_measure_29 ci_0 ?_
    refine gx_iald C hI h_kC1 h dX1_measure_30 (fun h => ?_)
    refine h_callvi_o (rest := [.ref (ad kC)]) C hI hl.1 shX_1 rfl yv_X8_way k_536 h (fun q hq => c_X8_way l D t ad z C.2.2.2.2.2.2.1 s2 9 (s2.1 (kC + 1) (0 : Int32).toNatClampNeg) q hq) (As := [.int 9, .int (s2.1 (kC + 1) (0 : Int32).toNatClampNeg)]) rfl rfl ⟨Nat.le_of_ble_eq_true rfl, Nat.le_of_ble_eq_true rfl⟩ (Nat.le_of_ble_eq_true rfl) dX1_measure_31 (fun q3 H locs h hI => ?_)
    refine fp_118 C hI h_kC rfl dX1_measure_34 (fun H locs hI => ?_)
    refine gx_st h hI (fun s4 h hI => ?_)
    refine lv_aload_n hx hb dX1_measure_37 rfl (lv_at hl 0 rfl) ?_
    refine fr_117 C hI h_kC rfl dX1_measure_38 ?_
    refine lv_iconst hx hb dX1_measure_41 ci_0 ?_
    refine lv_iconst hx hb dX1_measure_42 ci_0 ?_
    refine gx_iast C hI h_kC2 h dX1_measure_43 (fun H locs h hI => ?_)
    refine gx_st h hI (fun s5 h hI => ?_)
    refine lv_iconst hx hb dX1_measure_44 ci_1 ?_
    refine lv_istore_n (lv' := [(1, .int 1), (0, .ref (ad kC))]) hx hb dX1_measure_45 rfl hl (by decide) rfl (fun ls hl => ?_)
    exact w_X1_measure_46 C hr  h_kC h_kC1 h_kC2  _ _ _ _ _ _  h hI (lv_sub hl [1, 0] rfl)
  · exact h_vret_w C hr hI h dX1_measure_17
set_option maxRecDepth 100000 in
set_option maxHeartbeats 4000000 in
theorem w_X1_layRound_66 {p : Program} {l : Launch} {e : Env} {s : State} {m : MethodId} {args : Array Value} {below : List Frame} {meth : Method} {c : Code} {D : va_G} {t : gT} {ad z : Nat → Nat} (C : gC p s m args meth c cX1_layRound 4 "NineKeysRound$Course" D t shX ad z) (hr : meth.sig.returnType = none) {kC : Nat} (h_kC : shX[kC]? = some (.inr (.inl (1, [some 1, some (kC + 1), some (kC + 2), none, none, none])))) (h_kC1 : shX[kC + 1]? = some (.inl (0, 20))) (h_kC2 : shX[kC + 2]? = some (.inl (0, 20))) {kS : Nat} (h_kS : shX[kS]? = some (.inr (.inl (5, [some (kS + 1), none, none, none, none])))) (h_kS1 : shX[kS + 1]? = some (.inl (1, 60))) {r : gS} : ∀ (σ : gS) (H : Heap) (locs : List Loc) (ls : Array Slot), f_X1_layRound_66 kC kS σ = some r → gI shX t ad D s.heap σ H locs → lv_has ls 4 [(0, .ref (ad kC))] → W p l e (gR 4 126) s m args below meth c H locs 0 0 (MQ below (gQv shX t ad D r) args s 0 0 (gA shX ad)) (F0 m 66 ls []) := by
  have hx := C.1
  have hb := C.2.1
  intro σ H locs ls  h hI hl
  unfold f_X1_layRound_66 at h
  refine lv_aload_n hx hb dX1_layRound_66 rfl (lv_at hl 0 rfl) ?_
  refine h_callvv_w (rest := []) C hI hl.1 h_kC rfl yv_X1_measure k_532 h (fun q hq => c_X1_measure l D t ad z C.2.2.2.2.2.2.1 kC h_kC h_kC1 h_kC2 (σ) q hq) (As := []) rfl rfl ⟨Nat.le_of_ble_eq_true rfl, Nat.le_of_ble_eq_true rfl⟩ (Nat.le_of_ble_eq_true rfl) dX1_layRound_67 (fun q1 H locs h hI => ?_)
  exact h_vret_w C hr hI h dX1_layRound_70
set_option maxRecDepth 100000 in
set_option maxHeartbeats 4000000 in
theorem w_X1_layRound_17 {p : Program} {l : Launch} {e : Env} {s : State} {m : MethodId} {args : Array Value} {below : List Frame} {meth : Method} {c : Code} {D : va_G} {t : gT} {ad z : Nat → Nat} (C : gC p s m args meth c cX1_layRound 4 "NineKeysRound$Course" D t shX ad z) (hr : meth.sig.returnType = none) {kC : Nat} (h_kC : shX[kC]? = some (.inr (.inl (1, [some 1, some (kC + 1), some (kC + 2), none, none, none])))) (h_kC1 : shX[kC + 1]? = some (.inl (0, 20))) (h_kC2 : shX[kC + 2]? = some (.inl (0, 20))) {kS : Nat} (h_kS : shX[kS]? = some (.inr (.inl (5, [some (kS + 1), none, none, none, none])))) (h_kS1 : shX[kS + 1]? = some (.inl (1, 60))) {r : gS} : ∀ (n : Nat) (x2 : Int32) (x3 : Int32) (σ : gS) (H : Heap) (locs : List Loc) (ls : Array Slot), f_X1_layRound_17 kC kS n x2 x3 σ = some r → gI shX t ad D s.heap σ H locs → lv_has ls 4 [(0, .ref (ad kC)), (1, .ref (ad kS)), (2, .int x2), (3, .int x3)] → W p l e (gR 4 126) s m args below meth c H locs 0 0 (MQ below (gQv shX t ad D r) args s 0 0 (gA shX ad)) (F0 m 17 ls []) := by
  have hx := C.1
  have hb := C.2.1
  intro n
  induction n with
  | zero =>
    intro x2 x3 σ H locs ls  h
    exact absurd h (by simp [f_X1_layRound_17])
  | succ n ih =>
    intro x2 x3 σ H locs ls  h hI hl
    unfold f_X1_layRound_17 at h
    refine lv_iload_n hx hb dX1_layRound_17 rfl (lv_at hl 3 rfl) ?_
    refine lv_iload_n hx hb dX1_layRound_18 rfl (lv_at hl 2 rfl) ?_
    refine hicmp_ge (tgt := 66) C dX1_layRound_19 (by decide) h (fun h => ?_) (fun h => ?_)
    · exact w_X1_layRound_66 C hr  h_kC h_kC1 h_kC2 h_kS h_kS1   _ _ _ _  h hI (lv_sub hl [0] rfl)
    · refine lv_aload_n hx hb dX1_layRound_22 rfl (lv_at hl 0 rfl) ?_
      refine fr_115 C hI h_kC rfl dX1_layRound_23 ?_
      refine lv_aload_n hx hb dX1_layRound_26 rfl (lv_at hl 1 rfl) ?_
      refine lv_iload_n hx hb dX1_layRound_27 rfl (lv_at hl 3 rfl) ?_
      refine h_callvl_o (rest := [.ref (ad 1)]) C hI hl.1 h_kS rfl yv_X5_cellAt k_530 h (fun q hq => c_X5_cellAt l D t ad z C.2.2.2.2.2.2.1 kS h_kS h_kS1 (σ) x3 q hq) (As := [.int x3]) rfl rfl ⟨Nat.le_of_ble_eq_true rfl, Nat.le_of_ble_eq_true rfl⟩ (Nat.le_of_ble_eq_true rfl) dX1_layRound_28 (fun q1 H locs h hI => ?_)
      refine lv_l2i (v := ((q1 : Int64).toInt32)) hx hb dX1_layRound_31 rfl ?_
      refine h_callvi_o (rest := []) C hI hl.1 shX_1 rfl yv_X8_isPost k_531 h (fun q hq => c_X8_isPost l D t ad z C.2.2.2.2.2.2.1 (σ) ((q1 : Int64).toInt32) q hq) (As := [.int ((q1 : Int64).toInt32)]) rfl rfl ⟨Nat.le_of_ble_eq_true rfl, Nat.le_of_ble_eq_true rfl⟩ (Nat.le_of_ble_eq_true rfl) dX1_layRound_32 (fun q2 H locs h hI => ?_)
      refine hif_eq (tgt := 66) C dX1_layRound_35 (by decide) h (fun h => ?_) (fun h => ?_)
      · exact w_X1_layRound_66 C hr  h_kC h_kC1 h_kC2 h_kS h_kS1   _ _ _ _  h hI (lv_sub hl [0] rfl)
      · refine lv_aload_n hx hb dX1_layRound_38 rfl (lv_at hl 0 rfl) ?_
        refine fr_116 C hI h_kC rfl dX1_layRound_39 ?_
        refine lv_aload_n hx hb dX1_layRound_42 rfl (lv_at hl 0 rfl) ?_
        refine lv_dup hx hb dX1_layRound_43 rfl ?_
        refine fg_119 C hI h_kC rfl dX1_layRound_44 ?_
        refine gx_topi h (fun v3 h => ?_)
        refine lv_dup_x1 hx hb dX1_layRound_47 rfl rfl ?_
        refine lv_iconst hx hb dX1_layRound_48 ci_1 ?_
        refine lv_iadd hx hb dX1_layRound_49 ?_
        refine fp_119 C hI h_kC rfl dX1_layRound_50 (fun H locs hI => ?_)
        refine gx_st h hI (fun s4 h hI => ?_)
        refine lv_aload_n hx hb dX1_layRound_53 rfl (lv_at hl 1 rfl) ?_
        refine lv_iload_n hx hb dX1_layRound_54 rfl (lv_at hl 3 rfl) ?_
        refine h_callvl_o (rest := [.int v3, .ref (ad (kC + 1))]) C hI hl.1 h_kS rfl yv_X5_cellAt k_530 h (fun q hq => c_X5_cellAt l D t ad z C.2.2.2.2.2.2.1 kS h_kS h_kS1 s4 x3 q hq) (As := [.int x3]) rfl rfl ⟨Nat.le_of_ble_eq_true rfl, Nat.le_of_ble_eq_true rfl⟩ (Nat.le_of_ble_eq_true rfl) dX1_layRound_55 (fun q5 H locs h hI => ?_)
        refine lv_l2i (v := ((q5 : Int64).toInt32)) hx hb dX1_layRound_58 rfl ?_
        refine gx_iast C hI h_kC1 h dX1_layRound_59 (fun H locs h hI => ?_)
        refine gx_st h hI (fun s6 h hI => ?_)
        refine h_iinc C hl dX1_layRound_60 3 rfl ci_1 h (by decide) (lvf := fun v7 => [(3, .int v7), (0, .ref (ad kC)), (1, .ref (ad kS)), (2, .int x2)]) (fun _ => rfl) (fun v7 ls h hl => ?_)
        refine lv_goto (tgt := 17) hx hb dX1_layRound_63 (by decide) ?_
        exact ih _ _ _ _ _ _  h hI (lv_sub hl [1, 2, 3, 0] rfl)
set_option maxRecDepth 100000 in
set_option maxHeartbeats 4000000 in
theorem c_X1_layRound (l : Launch) (D : va_G) (t : gT) (ad z : Nat → Nat) (hJ : gJ shX ad) (kC : Nat) (kS : Nat) (h_kC : shX[kC]? = some (.inr (.inl (1, [some 1, some (kC + 1), some (kC + 2), none, none, none])))) (h_kC1 : shX[kC + 1]? = some (.inl (0, 20))) (h_kC2 : shX[kC + 2]? = some (.inl (0, 20))) (h_kS : shX[kS]? = some (.inr (.inl (5, [some (kS + 1), none, none, none, none])))) (h_kS1 : shX[kS + 1]? = some (.inl (1, 60))) (σ : gS) (q : gS) (h : f_X1_layRound σ kC kS = some q) : Met l yX1_layRound (Cond.code yX1_layRound cX1_layRound 4 (none) :: lw_tb) (gR 4 126) (gPc shX t ad D z [.ref (ad kC), .ref (ad kS)] σ) (gQv shX t ad D q) 0 0 (gA shX ad) := by
  refine gMet "NineKeysRound$Course" rfl (by decide) hJ (Nat.le_of_ble_eq_true rfl) ?_
  intro p e s m below meth c ls C hr hI hl
  have hx := C.1
  have hb := C.2.1
  have hl : lv_has ls 4 [(0, .ref (ad kC)), (1, .ref (ad kS))] := hl
  unfold f_X1_layRound at h
  refine lv_aload_n hx hb dX1_layRound_0 rfl (lv_at hl 0 rfl) ?_
  refine lv_iconst hx hb dX1_layRound_1 ci_0 ?_
  refine fp_119 C hI h_kC rfl dX1_layRound_2 (fun H locs hI => ?_)
  refine gx_st h hI (fun s1 h hI => ?_)
  refine lv_bipush hx hb dX1_layRound_5 cb_20 ?_
  refine lv_aload_n hx hb dX1_layRound_7 rfl (lv_at hl 1 rfl) ?_
  refine fg_246 C hI h_kS rfl dX1_layRound_8 ?_
  refine h_mmin C hl.1 k_529 ⟨Nat.le_of_ble_eq_true rfl, Nat.le_of_ble_eq_true rfl⟩ ⟨Nat.zero_le _, Nat.zero_le _⟩ dX1_layRound_11 ?_
  refine gx_topi h (fun v2 h => ?_)
  refine lv_istore_n (lv' := [(2, .int v2), (0, .ref (ad kC)), (1, .ref (ad kS))]) hx hb dX1_layRound_14 rfl hl (by decide) rfl (fun ls hl => ?_)
  refine lv_iconst hx hb dX1_layRound_15 ci_0 ?_
  refine lv_istore_n (lv' := [(3, .int 0), (2, .int v2), (0, .ref (ad kC)), (1, .ref (ad kS))]) hx hb dX1_layRound_16 rfl hl (by decide) rfl (fun ls hl => ?_)
  exact w_X1_layRound_17 C hr  h_kC h_kC1 h_kC2 h_kS h_kS1  _ _ _ _ _ _ _  h hI (lv_sub hl [2, 3, 1, 0] rfl)
set_option maxRecDepth 100000 in
set_option maxHeartbeats 4000000 in
theorem w_X1_layTurned_10 {p : Program} {l : Launch} {e : Env} {s : State} {m : MethodId} {args : Array Value} {below : List Frame} {meth : Method} {c : Code} {D : va_G} {t : gT} {ad z : Nat → Nat} (C : gC p s m args meth c cX1_layTurned 3 "NineKeysRound$Course" D t shX ad z) (hr : meth.sig.returnType = none) {r : gS} : ∀ (n : Nat) (x2 : Int32) (σ : gS) (H : Heap) (locs : List Loc) (ls : Array Slot), f_X1_layTurned_10 n x2 σ = some r → gI shX t ad D s.heap σ H locs → lv_has ls 3 [(0, .ref (ad 29)), (1, .ref (ad 26)), (2, .int x2)] → W p l e (gR 4 126) s m args below meth c H locs 0 0 (MQ below (gQv shX t ad D r) args s 0 0 (gA shX ad)) (F0 m 10 ls []) := by
  have hx := C.1
  have hb := C.2.1
  intro n
  induction n with
  | zero =>
    intro x2 σ H locs ls  h
    exact absurd h (by simp [f_X1_layTurned_10])
  | succ n ih =>
    intro x2 σ H locs ls  h hI hl
    unfold f_X1_layTurned_10 at h
    refine lv_iload_n hx hb dX1_layTurned_10 rfl (lv_at hl 2 rfl) ?_
    refine lv_aload_n hx hb dX1_layTurned_11 rfl (lv_at hl 0 rfl) ?_
    refine fg_119 C hI shX_29 rfl dX1_layTurned_12 ?_
    refine hicmp_ge (tgt := 43) C dX1_layTurned_15 (by decide) h (fun h => ?_) (fun h => ?_)
    · refine lv_aload_n hx hb dX1_layTurned_43 rfl (lv_at hl 0 rfl) ?_
      refine h_callvv_w (rest := []) C hI hl.1 shX_29 rfl yv_X1_measure k_532 h (fun q hq => c_X1_measure l D t ad z C.2.2.2.2.2.2.1 29 shX_29 shX_30 shX_31 (σ) q hq) (As := []) rfl rfl ⟨Nat.le_of_ble_eq_true rfl, Nat.le_of_ble_eq_true rfl⟩ (Nat.le_of_ble_eq_true rfl) dX1_layTurned_44 (fun q1 H locs h hI => ?_)
      exact h_vret_w C hr hI h dX1_layTurned_47
    · refine lv_aload_n hx hb dX1_layTurned_18 rfl (lv_at hl 0 rfl) ?_
      refine fr_116 C hI shX_29 rfl dX1_layTurned_19 ?_
      refine lv_iload_n hx hb dX1_layTurned_22 rfl (lv_at hl 2 rfl) ?_
      refine lv_aload_n hx hb dX1_layTurned_23 rfl (lv_at hl 1 rfl) ?_
      refine fr_116 C hI shX_26 rfl dX1_layTurned_24 ?_
      refine lv_aload_n hx hb dX1_layTurned_27 rfl (lv_at hl 0 rfl) ?_
      refine fg_119 C hI shX_29 rfl dX1_layTurned_28 ?_
      refine lv_iconst hx hb dX1_layTurned_31 ci_1 ?_
      refine lv_isub hx hb dX1_layTurned_32 ?_
      refine lv_iload_n hx hb dX1_layTurned_33 rfl (lv_at hl 2 rfl) ?_
      refine lv_isub hx hb dX1_layTurned_34 ?_
      refine gx_iald C hI shX_27 h dX1_layTurned_35 (fun h => ?_)
      refine gx_iast C hI shX_30 h dX1_layTurned_36 (fun H locs h hI => ?_)
      refine gx_st h hI (fun s2 h hI => ?_)
      refine h_iinc C hl dX1_layTurned_37 2 rfl ci_1 h (by decide) (lvf := fun v3 => [(2, .int v3), (0, .ref (ad 29)), (1, .ref (ad 26))]) (fun _ => rfl) (fun v3 ls h hl => ?_)
      refine lv_goto (tgt := 10) hx hb dX1_layTurned_40 (by decide) ?_
      exact ih _ _ _ _ _  h hI (lv_sub hl [1, 2, 0] rfl)
set_option maxRecDepth 100000 in
set_option maxHeartbeats 4000000 in
theorem c_X1_layTurned (l : Launch) (D : va_G) (t : gT) (ad z : Nat → Nat) (hJ : gJ shX ad) (σ : gS) (q : gS) (h : f_X1_layTurned σ = some q) : Met l yX1_layTurned (Cond.code yX1_layTurned cX1_layTurned 3 (none) :: lw_tb) (gR 4 126) (gPc shX t ad D z [.ref (ad 29), .ref (ad 26)] σ) (gQv shX t ad D q) 0 0 (gA shX ad) := by
  refine gMet "NineKeysRound$Course" rfl (by decide) hJ (Nat.le_of_ble_eq_true rfl) ?_
  intro p e s m below meth c ls C hr hI hl
  have hx := C.1
  have hb := C.2.1
  have hl : lv_has ls 3 [(0, .ref (ad 29)), (1, .ref (ad 26))] := hl
  unfold f_X1_layTurned at h
  refine lv_aload_n hx hb dX1_layTurned_0 rfl (lv_at hl 0 rfl) ?_
  refine lv_aload_n hx hb dX1_layTurned_1 rfl (lv_at hl 1 rfl) ?_
  refine fg_119 C hI shX_26 rfl dX1_layTurned_2 ?_
  refine fp_119 C hI shX_29 rfl dX1_layTurned_5 (fun H locs hI => ?_)
  refine gx_st h hI (fun s1 h hI => ?_)
  refine lv_iconst hx hb dX1_layTurned_8 ci_0 ?_
  refine lv_istore_n (lv' := [(2, .int 0), (0, .ref (ad 29)), (1, .ref (ad 26))]) hx hb dX1_layTurned_9 rfl hl (by decide) rfl (fun ls hl => ?_)
  exact w_X1_layTurned_10 C hr    _ _ _ _ _ _  h hI (lv_sub hl [1, 2, 0] rfl)
set_option maxRecDepth 100000 in
set_option maxHeartbeats 4000000 in
theorem w_X1_layOrder_17 {p : Program} {l : Launch} {e : Env} {s : State} {m : MethodId} {args : Array Value} {below : List Frame} {meth : Method} {c : Code} {D : va_G} {t : gT} {ad z : Nat → Nat} (C : gC p s m args meth c cX1_layOrder 4 "NineKeysRound$Course" D t shX ad z) (hr : meth.sig.returnType = none) {kC : Nat} (h_kC : shX[kC]? = some (.inr (.inl (1, [some 1, some (kC + 1), some (kC + 2), none, none, none])))) (h_kC1 : shX[kC + 1]? = some (.inl (0, 20))) (h_kC2 : shX[kC + 2]? = some (.inl (0, 20))) {r : gS} : ∀ (n : Nat) (x3 : Int32) (σ : gS) (H : Heap) (locs : List Loc) (ls : Array Slot), f_X1_layOrder_17 kC n x3 σ = some r → gI shX t ad D s.heap σ H locs → lv_has ls 4 [(0, .ref (ad kC)), (1, .ref (ad 46)), (3, .int x3)] → W p l e (gR 4 126) s m args below meth c H locs 0 0 (MQ below (gQv shX t ad D r) args s 0 0 (gA shX ad)) (F0 m 17 ls []) := by
  have hx := C.1
  have hb := C.2.1
  intro n
  induction n with
  | zero =>
    intro x3 σ H locs ls  h
    exact absurd h (by simp [f_X1_layOrder_17])
  | succ n ih =>
    intro x3 σ H locs ls  h hI hl
    unfold f_X1_layOrder_17 at h
    refine lv_iload_n hx hb dX1_layOrder_17 rfl (lv_at hl 2 rfl) ?_
    refine lv_aload_n hx hb dX1_layOrder_18 rfl (lv_at hl 0 rfl) ?_
    refine fg_119 C hI h_kC rfl dX1_layOrder_19 ?_
    refine hicmp_ge (tgt := 40) C dX1_layOrder_22 (by decide) h (fun h => ?_) (fun h => ?_)
    · refine lv_aload_n hx hb dX1_layOrder_40 rfl (lv_at hl 0 rfl) ?_
      refine h_callvv_w (rest := []) C hI hl.1 h_kC rfl yv_X1_measure k_532 h (fun q hq => c_X1_measure l D t ad z C.2.2.2.2.2.2.1 kC h_kC h_kC1 h_kC2 (σ) q hq) (As := []) rfl rfl ⟨Nat.le_of_ble_eq_true rfl, Nat.le_of_ble_eq_true rfl⟩ (Nat.le_of_ble_eq_true rfl) dX1_layOrder_41 (fun q1 H locs h hI => ?_)
      exact h_vret_w C hr hI h dX1_layOrder_44
    · refine lv_aload_n hx hb dX1_layOrder_25 rfl (lv_at hl 0 rfl) ?_
      refine fr_116 C hI h_kC rfl dX1_layOrder_26 ?_
      refine lv_iload_n hx hb dX1_layOrder_29 rfl (lv_at hl 2 rfl) ?_
      refine lv_aload_n hx hb dX1_layOrder_30 rfl (lv_at hl 1 rfl) ?_
      refine lv_iload_n hx hb dX1_layOrder_31 rfl (lv_at hl 2 rfl) ?_
      refine gx_iald C hI shX_46 h dX1_layOrder_32 (fun h => ?_)
      refine gx_iast C hI h_kC1 h dX1_layOrder_33 (fun H locs h hI => ?_)
      refine gx_st h hI (fun s2 h hI => ?_)
      refine h_iinc C hl dX1_layOrder_34 2 rfl ci_1 h (by decide) (lvf := fun v3 => [(3, .int v3), (0, .ref (ad kC)), (1, .ref (ad 46))]) (fun _ => rfl) (fun v3 ls h hl => ?_)
      refine lv_goto (tgt := 17) hx hb dX1_layOrder_37 (by decide) ?_
      exact ih _ _ _ _ _  h hI (lv_sub hl [1, 2, 0] rfl)
set_option maxRecDepth 100000 in
set_option maxHeartbeats 4000000 in
theorem c_X1_layOrder (l : Launch) (D : va_G) (t : gT) (ad z : Nat → Nat) (hJ : gJ shX ad) (kC : Nat) (h_kC : shX[kC]? = some (.inr (.inl (1, [some 1, some (kC + 1), some (kC + 2), none, none, none])))) (h_kC1 : shX[kC + 1]? = some (.inl (0, 20))) (h_kC2 : shX[kC + 2]? = some (.inl (0, 20))) (σ : gS) (x2 : Int32) (q : gS) (h : f_X1_layOrder σ kC x2 = some q) : Met l yX1_layOrder (Cond.code yX1_layOrder cX1_layOrder 4 (none) :: lw_tb) (gR 4 126) (gPc shX t ad D z [.ref (ad kC), .ref (ad 46), .int x2] σ) (gQv shX t ad D q) 0 0 (gA shX ad) := by
  refine gMet "NineKeysRound$Course" rfl (by decide) hJ (Nat.le_of_ble_eq_true rfl) ?_
  intro p e s m below meth c ls C hr hI hl
  have hx := C.1
  have hb := C.2.1
  have hl : lv_has ls 4 [(0, .ref (ad kC)), (1, .ref (ad 46)), (2, .int x2)] := hl
  unfold f_X1_layOrder at h
  refine lv_aload_n hx hb dX1_layOrder_0 rfl (lv_at hl 0 rfl) ?_
  refine lv_iload_n hx hb dX1_layOrder_1 rfl (lv_at hl 2 rfl) ?_
  refine lv_bipush hx hb dX1_layOrder_2 cb_20 ?_
  refine lv_aload_n hx hb dX1_layOrder_4 rfl (lv_at hl 1 rfl) ?_
  refine gx_alen C hI shX_46 (v := 6) (by decide) dX1_layOrder_5 ?_
  refine h_mmin C hl.1 k_529 ⟨Nat.le_of_ble_eq_true rfl, Nat.le_of_ble_eq_true rfl⟩ ⟨Nat.zero_le _, Nat.zero_le _⟩ dX1_layOrder_6 ?_
  refine h_mmin C hl.1 k_529 ⟨Nat.le_of_ble_eq_true rfl, Nat.le_of_ble_eq_true rfl⟩ ⟨Nat.zero_le _, Nat.zero_le _⟩ dX1_layOrder_9 ?_
  refine fp_119 C hI h_kC rfl dX1_layOrder_12 (fun H locs hI => ?_)
  refine gx_st h hI (fun s1 h hI => ?_)
  refine lv_iconst hx hb dX1_layOrder_15 ci_0 ?_
  refine lv_istore_n (lv' := [(3, .int 0), (0, .ref (ad kC)), (1, .ref (ad 46)), (2, .int x2)]) hx hb dX1_layOrder_16 rfl hl (by decide) rfl (fun ls hl => ?_)
  exact w_X1_layOrder_17 C hr  h_kC h_kC1 h_kC2  _ _ _ _ _ _  h hI (lv_sub hl [1, 2, 0] rfl)
set_option maxRecDepth 100000 in
set_option maxHeartbeats 4000000 in
theorem c_X1_stopOf (l : Launch) (D : va_G) (t : gT) (ad z : Nat → Nat) (hJ : gJ shX ad) (kC : Nat) (h_kC : shX[kC]? = some (.inr (.inl (1, [some 1, some (kC + 1), some (kC + 2), none, none, none])))) (h_kC1 : shX[kC + 1]? = some (.inl (0, 20))) (h_kC2 : shX[kC + 2]? = some (.inl (0, 20))) (σ : gS) (x1 : Int32) (q : Int32) (h : f_X1_stopOf σ kC x1 = some q) : Met l yX1_stopOf (Cond.code yX1_stopOf cX1_stopOf 2 (some .int) :: lw_tb) (gR 1 60) (gPc shX t ad D z [.ref (ad kC), .int x1] σ) (gQi shX t ad D q σ) 0 0 (gA shX ad) := by
  refine gMet "NineKeysRound$Course" rfl (by decide) hJ (Nat.le_of_ble_eq_true rfl) ?_
  intro p e s m below meth c ls C hr hI hl
  have hx := C.1
  have hb := C.2.1
  have hl : lv_has ls 2 [(0, .ref (ad kC)), (1, .int x1)] := hl
  unfold f_X1_stopOf at h
  refine lv_aload_n hx hb dX1_stopOf_0 rfl (lv_at hl 0 rfl) ?_
  refine fg_119 C hI h_kC rfl dX1_stopOf_1 ?_
  refine hif_eq (tgt := 11) C dX1_stopOf_4 (by decide) h (fun h => ?_) (fun h => ?_)
  · refine lv_bipush hx hb dX1_stopOf_11 cb_m2 ?_
    refine lv_goto (tgt := 27) hx hb dX1_stopOf_13 (by decide) ?_
    exact h_iret_o C hr hI h dX1_stopOf_27
  · refine lv_iload_n hx hb dX1_stopOf_7 rfl (lv_at hl 1 rfl) ?_
    refine hif_ge (tgt := 16) C dX1_stopOf_8 (by decide) h (fun h => ?_) (fun h => ?_)
    · refine lv_aload_n hx hb dX1_stopOf_16 rfl (lv_at hl 0 rfl) ?_
      refine fr_116 C hI h_kC rfl dX1_stopOf_17 ?_
      refine lv_iload_n hx hb dX1_stopOf_20 rfl (lv_at hl 1 rfl) ?_
      refine lv_aload_n hx hb dX1_stopOf_21 rfl (lv_at hl 0 rfl) ?_
      refine fg_119 C hI h_kC rfl dX1_stopOf_22 ?_
      refine h_irem C dX1_stopOf_25 h (fun h => ?_)
      refine gx_iald C hI h_kC1 h dX1_stopOf_26 (fun h => ?_)
      exact h_iret_o C hr hI h dX1_stopOf_27
    · refine lv_bipush hx hb dX1_stopOf_11 cb_m2 ?_
      refine lv_goto (tgt := 27) hx hb dX1_stopOf_13 (by decide) ?_
      exact h_iret_o C hr hI h dX1_stopOf_27
set_option maxRecDepth 100000 in
set_option maxHeartbeats 4000000 in
theorem c_X1_minuteOf (l : Launch) (D : va_G) (t : gT) (ad z : Nat → Nat) (hJ : gJ shX ad) (kC : Nat) (h_kC : shX[kC]? = some (.inr (.inl (1, [some 1, some (kC + 1), some (kC + 2), none, none, none])))) (h_kC1 : shX[kC + 1]? = some (.inl (0, 20))) (h_kC2 : shX[kC + 2]? = some (.inl (0, 20))) (σ : gS) (x1 : Int32) (q : Int32) (h : f_X1_minuteOf σ kC x1 = some q) : Met l yX1_minuteOf (Cond.code yX1_minuteOf cX1_minuteOf 2 (some .int) :: lw_tb) (gR 1 60) (gPc shX t ad D z [.ref (ad kC), .int x1] σ) (gQi shX t ad D q σ) 0 0 (gA shX ad) := by
  refine gMet "NineKeysRound$Course" rfl (by decide) hJ (Nat.le_of_ble_eq_true rfl) ?_
  intro p e s m below meth c ls C hr hI hl
  have hx := C.1
  have hb := C.2.1
  have hl : lv_has ls 2 [(0, .ref (ad kC)), (1, .int x1)] := hl
  unfold f_X1_minuteOf at h
  refine lv_aload_n hx hb dX1_minuteOf_0 rfl (lv_at hl 0 rfl) ?_
  refine fg_119 C hI h_kC rfl dX1_minuteOf_1 ?_
  refine hif_eq (tgt := 11) C dX1_minuteOf_4 (by decide) h (fun h => ?_) (fun h => ?_)
  · refine lv_bipush hx hb dX1_minuteOf_11 cb_m2 ?_
    refine lv_goto (tgt := 44) hx hb dX1_minuteOf_13 (by decide) ?_
    exact h_iret_o C hr hI h dX1_minuteOf_44
  · refine lv_iload_n hx hb dX1_minuteOf_7 rfl (lv_at hl 1 rfl) ?_
    refine hif_ge (tgt := 16) C dX1_minuteOf_8 (by decide) h (fun h => ?_) (fun h => ?_)
    · refine lv_aload_n hx hb dX1_minuteOf_16 rfl (lv_at hl 0 rfl) ?_
      refine fg_118 C hI h_kC rfl dX1_minuteOf_17 ?_
      refine lv_iload_n hx hb dX1_minuteOf_20 rfl (lv_at hl 1 rfl) ?_
      refine lv_aload_n hx hb dX1_minuteOf_21 rfl (lv_at hl 0 rfl) ?_
      refine fg_119 C hI h_kC rfl dX1_minuteOf_22 ?_
      refine h_idiv C dX1_minuteOf_25 h (fun h => ?_)
      refine lv_aload_n hx hb dX1_minuteOf_26 rfl (lv_at hl 0 rfl) ?_
      refine fg_121 C hI h_kC rfl dX1_minuteOf_27 ?_
      refine lv_imul hx hb dX1_minuteOf_30 ?_
      refine lv_iadd hx hb dX1_minuteOf_31 ?_
      refine lv_aload_n hx hb dX1_minuteOf_32 rfl (lv_at hl 0 rfl) ?_
      refine fr_117 C hI h_kC rfl dX1_minuteOf_33 ?_
      refine lv_iload_n hx hb dX1_minuteOf_36 rfl (lv_at hl 1 rfl) ?_
      refine lv_aload_n hx hb dX1_minuteOf_37 rfl (lv_at hl 0 rfl) ?_
      refine fg_119 C hI h_kC rfl dX1_minuteOf_38 ?_
      refine h_irem C dX1_minuteOf_41 h (fun h => ?_)
      refine gx_iald C hI h_kC2 h dX1_minuteOf_42 (fun h => ?_)
      refine lv_iadd hx hb dX1_minuteOf_43 ?_
      exact h_iret_o C hr hI h dX1_minuteOf_44
    · refine lv_bipush hx hb dX1_minuteOf_11 cb_m2 ?_
      refine lv_goto (tgt := 44) hx hb dX1_minuteOf_13 (by decide) ?_
      exact h_iret_o C hr hI h dX1_minuteOf_44
set_option maxRecDepth 100000 in
set_option maxHeartbeats 4000000 in
theorem c_X1_seenMinutes (l : Launch) (D : va_G) (t : gT) (ad z : Nat → Nat) (hJ : gJ shX ad) (kC : Nat) (h_kC : shX[kC]? = some (.inr (.inl (1, [some 1, some (kC + 1), some (kC + 2), none, none, none])))) (h_kC1 : shX[kC + 1]? = some (.inl (0, 20))) (h_kC2 : shX[kC + 2]? = some (.inl (0, 20))) (σ : gS) (q : Int32) (h : f_X1_seenMinutes σ kC = some q) : Met l yX1_seenMinutes (Cond.code yX1_seenMinutes cX1_seenMinutes 1 (some .int) :: lw_tb) (gR 2 80) (gPc shX t ad D z [.ref (ad kC)] σ) (gQi shX t ad D q σ) 0 0 (gA shX ad) := by
  refine gMet "NineKeysRound$Course" rfl (by decide) hJ (Nat.le_of_ble_eq_true rfl) ?_
  intro p e s m below meth c ls C hr hI hl
  have hx := C.1
  have hb := C.2.1
  have hl : lv_has ls 1 [(0, .ref (ad kC))] := hl
  unfold f_X1_seenMinutes at h
  refine lv_iconst hx hb dX1_seenMinutes_0 ci_1 ?_
  refine lv_aload_n hx hb dX1_seenMinutes_1 rfl (lv_at hl 0 rfl) ?_
  refine fr_115 C hI h_kC rfl dX1_seenMinutes_2 ?_
  refine h_callvi_o (rest := [.int 1]) C hI hl.1 shX_1 rfl yv_X8_stand k_547 h (fun q hq => c_X8_stand l D t ad z C.2.2.2.2.2.2.1 (σ) q hq) (As := []) rfl rfl ⟨Nat.le_of_ble_eq_true rfl, Nat.le_of_ble_eq_true rfl⟩ (Nat.le_of_ble_eq_true rfl) dX1_seenMinutes_5 (fun q1 H locs h hI => ?_)
  refine h_mmax C hl.1 k_586 ⟨Nat.le_of_ble_eq_true rfl, Nat.le_of_ble_eq_true rfl⟩ ⟨Nat.zero_le _, Nat.zero_le _⟩ dX1_seenMinutes_8 ?_
  exact h_iret_o C hr hI h dX1_seenMinutes_11
set_option maxRecDepth 100000 in
set_option maxHeartbeats 4000000 in
theorem w_X1_dentsBy_86 {p : Program} {l : Launch} {e : Env} {s : State} {m : MethodId} {args : Array Value} {below : List Frame} {meth : Method} {c : Code} {D : va_G} {t : gT} {ad z : Nat → Nat} {σ : gS} (C : gC p s m args meth c cX1_dentsBy 5 "NineKeysRound$Course" D t shX ad z) (hr : meth.sig.returnType = some .int) {kC : Nat} (h_kC : shX[kC]? = some (.inr (.inl (1, [some 1, some (kC + 1), some (kC + 2), none, none, none])))) (h_kC1 : shX[kC + 1]? = some (.inl (0, 20))) (h_kC2 : shX[kC + 2]? = some (.inl (0, 20))) {r : Int32} : ∀ (x3 : Int32) (H : Heap) (locs : List Loc) (ls : Array Slot), f_X1_dentsBy_86 σ kC x3 = some r → gI shX t ad D s.heap σ H locs → lv_has ls 5 [(3, .int x3)] → W p l e (gR 1 60) s m args below meth c H locs 0 0 (MQ below (gQi shX t ad D r σ) args s 0 0 (gA shX ad)) (F0 m 86 ls []) := by
  have hx := C.1
  have hb := C.2.1
  intro x3 H locs ls  h hI hl
  unfold f_X1_dentsBy_86 at h
  refine lv_iload_n hx hb dX1_dentsBy_86 rfl (lv_at hl 0 rfl) ?_
  refine lv_sipush hx hb dX1_dentsBy_87 cs_4000 ?_
  refine h_mmin C hl.1 k_529 ⟨Nat.le_of_ble_eq_true rfl, Nat.le_of_ble_eq_true rfl⟩ ⟨Nat.zero_le _, Nat.zero_le _⟩ dX1_dentsBy_90 ?_
  exact h_iret_o C hr hI h dX1_dentsBy_93
set_option maxRecDepth 100000 in
set_option maxHeartbeats 4000000 in
theorem w_X1_dentsBy_52 {p : Program} {l : Launch} {e : Env} {s : State} {m : MethodId} {args : Array Value} {below : List Frame} {meth : Method} {c : Code} {D : va_G} {t : gT} {ad z : Nat → Nat} {σ : gS} (C : gC p s m args meth c cX1_dentsBy 5 "NineKeysRound$Course" D t shX ad z) (hr : meth.sig.returnType = some .int) {kC : Nat} (h_kC : shX[kC]? = some (.inr (.inl (1, [some 1, some (kC + 1), some (kC + 2), none, none, none])))) (h_kC1 : shX[kC + 1]? = some (.inl (0, 20))) (h_kC2 : shX[kC + 2]? = some (.inl (0, 20))) {r : Int32} : ∀ (n : Nat) (x2 : Int32) (x3 : Int32) (x4 : Int32) (H : Heap) (locs : List Loc) (ls : Array Slot), f_X1_dentsBy_52 σ kC n x2 x3 x4 = some r → gI shX t ad D s.heap σ H locs → lv_has ls 5 [(0, .ref (ad kC)), (2, .int x2), (3, .int x3), (4, .int x4)] → W p l e (gR 1 60) s m args below meth c H locs 0 0 (MQ below (gQi shX t ad D r σ) args s 0 0 (gA shX ad)) (F0 m 52 ls []) := by
  have hx := C.1
  have hb := C.2.1
  intro n
  induction n with
  | zero =>
    intro x2 x3 x4 H locs ls  h
    exact absurd h (by simp [f_X1_dentsBy_52])
  | succ n ih =>
    intro x2 x3 x4 H locs ls  h hI hl
    unfold f_X1_dentsBy_52 at h
    refine lv_iload hx hb dX1_dentsBy_52 (lv_at hl 3 rfl) ?_
    refine lv_aload_n hx hb dX1_dentsBy_54 rfl (lv_at hl 0 rfl) ?_
    refine fg_119 C hI h_kC rfl dX1_dentsBy_55 ?_
    refine hicmp_ge (tgt := 86) C dX1_dentsBy_58 (by decide) h (fun h => ?_) (fun h => ?_)
    · exact w_X1_dentsBy_86 C hr  h_kC h_kC1 h_kC2  _ _ _ _  h hI (lv_sub hl [2] rfl)
    · refine lv_aload_n hx hb dX1_dentsBy_61 rfl (lv_at hl 0 rfl) ?_
      refine fr_117 C hI h_kC rfl dX1_dentsBy_62 ?_
      refine lv_iload hx hb dX1_dentsBy_65 (lv_at hl 3 rfl) ?_
      refine gx_iald C hI h_kC2 h dX1_dentsBy_67 (fun h => ?_)
      refine lv_iload_n hx hb dX1_dentsBy_68 rfl (lv_at hl 1 rfl) ?_
      refine lv_aload_n hx hb dX1_dentsBy_69 rfl (lv_at hl 0 rfl) ?_
      refine fg_121 C hI h_kC rfl dX1_dentsBy_70 ?_
      refine h_irem C dX1_dentsBy_73 h (fun h => ?_)
      refine hicmp_gt (tgt := 86) C dX1_dentsBy_74 (by decide) h (fun h => ?_) (fun h => ?_)
      · exact w_X1_dentsBy_86 C hr  h_kC h_kC1 h_kC2  _ _ _ _  h hI (lv_sub hl [2] rfl)
      · refine h_iinc C hl dX1_dentsBy_77 2 rfl ci_1 h (by decide) (lvf := fun v1 => [(3, .int v1), (0, .ref (ad kC)), (2, .int x2), (4, .int x4)]) (fun _ => rfl) (fun v1 ls h hl => ?_)
        refine h_iinc C hl dX1_dentsBy_80 3 rfl ci_1 h (by decide) (lvf := fun v2 => [(4, .int v2), (3, .int v1), (0, .ref (ad kC)), (2, .int x2)]) (fun _ => rfl) (fun v2 ls h hl => ?_)
        refine lv_goto (tgt := 52) hx hb dX1_dentsBy_83 (by decide) ?_
        exact ih _ _ _ _ _ _  h hI (lv_sub hl [2, 3, 1, 0] rfl)
set_option maxRecDepth 100000 in
set_option maxHeartbeats 4000000 in
theorem c_X1_dentsBy (l : Launch) (D : va_G) (t : gT) (ad z : Nat → Nat) (hJ : gJ shX ad) (kC : Nat) (h_kC : shX[kC]? = some (.inr (.inl (1, [some 1, some (kC + 1), some (kC + 2), none, none, none])))) (h_kC1 : shX[kC + 1]? = some (.inl (0, 20))) (h_kC2 : shX[kC + 2]? = some (.inl (0, 20))) (σ : gS) (x1 : Int32) (q : Int32) (h : f_X1_dentsBy σ kC x1 = some q) : Met l yX1_dentsBy (Cond.code yX1_dentsBy cX1_dentsBy 5 (some .int) :: lw_tb) (gR 1 60) (gPc shX t ad D z [.ref (ad kC), .int x1] σ) (gQi shX t ad D q σ) 0 0 (gA shX ad) := by
  refine gMet "NineKeysRound$Course" rfl (by decide) hJ (Nat.le_of_ble_eq_true rfl) ?_
  intro p e s m below meth c ls C hr hI hl
  have hx := C.1
  have hb := C.2.1
  have hl : lv_has ls 5 [(0, .ref (ad kC)), (1, .int x1)] := hl
  unfold f_X1_dentsBy at h
  refine lv_iload_n hx hb dX1_dentsBy_0 rfl (lv_at hl 1 rfl) ?_
  refine lv_sipush hx hb dX1_dentsBy_1 cs_1999 ?_
  refine h_mmin C hl.1 k_529 ⟨Nat.le_of_ble_eq_true rfl, Nat.le_of_ble_eq_true rfl⟩ ⟨Nat.zero_le _, Nat.zero_le _⟩ dX1_dentsBy_4 ?_
  refine lv_aload_n hx hb dX1_dentsBy_7 rfl (lv_at hl 0 rfl) ?_
  refine fg_118 C hI h_kC rfl dX1_dentsBy_8 ?_
  refine lv_isub hx hb dX1_dentsBy_11 ?_
  refine gx_topi h (fun v1 h => ?_)
  refine lv_istore_n (lv' := [(2, .int v1), (0, .ref (ad kC)), (1, .int x1)]) hx hb dX1_dentsBy_12 rfl hl (by decide) rfl (fun ls hl => ?_)
  refine lv_aload_n hx hb dX1_dentsBy_13 rfl (lv_at hl 1 rfl) ?_
  refine fg_119 C hI h_kC rfl dX1_dentsBy_14 ?_
  refine hif_eq (tgt := 24) C dX1_dentsBy_17 (by decide) h (fun h => ?_) (fun h => ?_)
  · refine lv_iconst hx hb dX1_dentsBy_24 ci_0 ?_
    exact h_iret_o C hr hI h dX1_dentsBy_25
  · refine lv_iload_n hx hb dX1_dentsBy_20 rfl (lv_at hl 0 rfl) ?_
    refine hif_ge (tgt := 26) C dX1_dentsBy_21 (by decide) h (fun h => ?_) (fun h => ?_)
    · refine lv_aload_n hx hb dX1_dentsBy_26 rfl (lv_at hl 1 rfl) ?_
      refine fg_121 C hI h_kC rfl dX1_dentsBy_27 ?_
      refine hif_ne (tgt := 37) C dX1_dentsBy_30 (by decide) h (fun h => ?_) (fun h => ?_)
      · refine lv_iload_n hx hb dX1_dentsBy_37 rfl (lv_at hl 0 rfl) ?_
        refine lv_aload_n hx hb dX1_dentsBy_38 rfl (lv_at hl 1 rfl) ?_
        refine fg_121 C hI h_kC rfl dX1_dentsBy_39 ?_
        refine h_idiv C dX1_dentsBy_42 h (fun h => ?_)
        refine lv_aload_n hx hb dX1_dentsBy_43 rfl (lv_at hl 1 rfl) ?_
        refine fg_119 C hI h_kC rfl dX1_dentsBy_44 ?_
        refine lv_imul hx hb dX1_dentsBy_47 ?_
        refine gx_topi h (fun v2 h => ?_)
        refine lv_istore_n (lv' := [(3, .int v2), (2, .int v1), (0, .ref (ad kC)), (1, .int x1)]) hx hb dX1_dentsBy_48 rfl hl (by decide) rfl (fun ls hl => ?_)
        refine lv_iconst hx hb dX1_dentsBy_49 ci_0 ?_
        refine lv_istore (lv' := [(4, .int 0), (3, .int v2), (2, .int v1), (0, .ref (ad kC)), (1, .int x1)]) hx hb dX1_dentsBy_50 hl (by decide) rfl (fun ls hl => ?_)
        exact w_X1_dentsBy_52 C hr  h_kC h_kC1 h_kC2  _ _ _ _ _ _ _  h hI (lv_sub hl [3, 2, 1, 0] rfl)
      · refine lv_sipush hx hb dX1_dentsBy_33 cs_4000 ?_
        exact h_iret_o C hr hI h dX1_dentsBy_36
    · refine lv_iconst hx hb dX1_dentsBy_24 ci_0 ?_
      exact h_iret_o C hr hI h dX1_dentsBy_25
set_option maxRecDepth 100000 in
set_option maxHeartbeats 4000000 in
theorem w_X6_note_28 {p : Program} {l : Launch} {e : Env} {s : State} {m : MethodId} {args : Array Value} {below : List Frame} {meth : Method} {c : Code} {D : va_G} {t : gT} {ad z : Nat → Nat} (C : gC p s m args meth c cX6_note 3 "NineKeysRound$Sightings" D t shX ad z) (hr : meth.sig.returnType = none) {r : gS} : ∀ (x1 : Int32) (s0 : Int32) (σ : gS) (H : Heap) (locs : List Loc) (ls : Array Slot), f_X6_note_28 x1 s0 σ = some r → gI shX t ad D s.heap σ H locs → lv_has ls 3 [(0, .ref (ad 32)), (1, .int x1)] → W p l e (gR 1 60) s m args below meth c H locs 0 0 (MQ below (gQv shX t ad D r) args s 0 0 (gA shX ad)) (F0 m 28 ls [.int s0]) := by
  have hx := C.1
  have hb := C.2.1
  intro x1 s0 σ H locs ls  h hI hl
  unfold f_X6_note_28 at h
  refine lv_istore_n (lv' := [(2, .int s0), (0, .ref (ad 32)), (1, .int x1)]) hx hb dX6_note_28 rfl hl (by decide) rfl (fun ls hl => ?_)
  refine lv_iload_n hx hb dX6_note_29 rfl (lv_at hl 0 rfl) ?_
  refine hif_ne (tgt := 60) C dX6_note_30 (by decide) h (fun h => ?_) (fun h => ?_)
  · exact h_vret_w C hr hI h dX6_note_60
  · refine lv_aload_n hx hb dX6_note_33 rfl (lv_at hl 1 rfl) ?_
    refine fg_143 C hI shX_32 rfl dX6_note_34 ?_
    refine lv_sipush hx hb dX6_note_37 cs_2200 ?_
    refine hicmp_ge (tgt := 60) C dX6_note_40 (by decide) h (fun h => ?_) (fun h => ?_)
    · exact h_vret_w C hr hI h dX6_note_60
    · refine lv_aload_n hx hb dX6_note_43 rfl (lv_at hl 1 rfl) ?_
      refine fr_142 C hI shX_32 rfl dX6_note_44 ?_
      refine lv_aload_n hx hb dX6_note_47 rfl (lv_at hl 1 rfl) ?_
      refine lv_dup hx hb dX6_note_48 rfl ?_
      refine fg_143 C hI shX_32 rfl dX6_note_49 ?_
      refine gx_topi h (fun v1 h => ?_)
      refine lv_dup_x1 hx hb dX6_note_52 rfl rfl ?_
      refine lv_iconst hx hb dX6_note_53 ci_1 ?_
      refine lv_iadd hx hb dX6_note_54 ?_
      refine fp_143 C hI shX_32 rfl dX6_note_55 (fun H locs hI => ?_)
      refine gx_st h hI (fun s2 h hI => ?_)
      refine lv_iload_n hx hb dX6_note_58 rfl (lv_at hl 2 rfl) ?_
      refine gx_iast C hI shX_33 h dX6_note_59 (fun H locs h hI => ?_)
      refine gx_st h hI (fun s3 h hI => ?_)
      exact h_vret_w C hr hI h dX6_note_60
set_option maxRecDepth 100000 in
set_option maxHeartbeats 4000000 in
theorem w_X6_note_27 {p : Program} {l : Launch} {e : Env} {s : State} {m : MethodId} {args : Array Value} {below : List Frame} {meth : Method} {c : Code} {D : va_G} {t : gT} {ad z : Nat → Nat} (C : gC p s m args meth c cX6_note 3 "NineKeysRound$Sightings" D t shX ad z) (hr : meth.sig.returnType = none) {r : gS} : ∀ (x1 : Int32) (σ : gS) (H : Heap) (locs : List Loc) (ls : Array Slot), f_X6_note_27 x1 σ = some r → gI shX t ad D s.heap σ H locs → lv_has ls 3 [(0, .ref (ad 32)), (1, .int x1)] → W p l e (gR 1 60) s m args below meth c H locs 0 0 (MQ below (gQv shX t ad D r) args s 0 0 (gA shX ad)) (F0 m 27 ls []) := by
  have hx := C.1
  have hb := C.2.1
  intro x1 σ H locs ls  h hI hl
  unfold f_X6_note_27 at h
  refine lv_iconst hx hb dX6_note_27 ci_0 ?_
  exact w_X6_note_28 C hr    _ _ _ _ _ _  h hI (lv_sub hl [0, 1] rfl)
set_option maxRecDepth 100000 in
set_option maxHeartbeats 4000000 in
theorem c_X6_note (l : Launch) (D : va_G) (t : gT) (ad z : Nat → Nat) (hJ : gJ shX ad) (σ : gS) (x1 : Int32) (q : gS) (h : f_X6_note σ x1 = some q) : Met l yX6_note (Cond.code yX6_note cX6_note 3 (none) :: lw_tb) (gR 1 60) (gPc shX t ad D z [.ref (ad 32), .int x1] σ) (gQv shX t ad D q) 0 0 (gA shX ad) := by
  refine gMet "NineKeysRound$Sightings" rfl (by decide) hJ (Nat.le_of_ble_eq_true rfl) ?_
  intro p e s m below meth c ls C hr hI hl
  have hx := C.1
  have hb := C.2.1
  have hl : lv_has ls 3 [(0, .ref (ad 32)), (1, .int x1)] := hl
  unfold f_X6_note at h
  refine lv_aload_n hx hb dX6_note_0 rfl (lv_at hl 0 rfl) ?_
  refine fg_143 C hI shX_32 rfl dX6_note_1 ?_
  refine lv_iconst hx hb dX6_note_4 ci_2 ?_
  refine hicmp_lt (tgt := 27) C dX6_note_5 (by decide) h (fun h => ?_) (fun h => ?_)
  · exact w_X6_note_27 C hr    _ _ _ _ _  h hI (lv_sub hl [0, 1] rfl)
  · refine lv_aload_n hx hb dX6_note_8 rfl (lv_at hl 0 rfl) ?_
    refine fr_142 C hI shX_32 rfl dX6_note_9 ?_
    refine lv_aload_n hx hb dX6_note_12 rfl (lv_at hl 0 rfl) ?_
    refine fg_143 C hI shX_32 rfl dX6_note_13 ?_
    refine lv_iconst hx hb dX6_note_16 ci_2 ?_
    refine lv_isub hx hb dX6_note_17 ?_
    refine gx_iald C hI shX_33 h dX6_note_18 (fun h => ?_)
    refine lv_iload_n hx hb dX6_note_19 rfl (lv_at hl 1 rfl) ?_
    refine hicmp_ne (tgt := 27) C dX6_note_20 (by decide) h (fun h => ?_) (fun h => ?_)
    · exact w_X6_note_27 C hr    _ _ _ _ _  h hI (lv_sub hl [0, 1] rfl)
    · refine lv_iconst hx hb dX6_note_23 ci_1 ?_
      refine lv_goto (tgt := 28) hx hb dX6_note_24 (by decide) ?_
      exact w_X6_note_28 C hr    _ _ _ _ _ _  h hI (lv_sub hl [0, 1] rfl)
set_option maxRecDepth 100000 in
set_option maxHeartbeats 4000000 in
theorem w_X1_tellDents_66 {p : Program} {l : Launch} {e : Env} {s : State} {m : MethodId} {args : Array Value} {below : List Frame} {meth : Method} {c : Code} {D : va_G} {t : gT} {ad z : Nat → Nat} (C : gC p s m args meth c cX1_tellDents 9 "NineKeysRound$Course" D t shX ad z) (hr : meth.sig.returnType = none) {kC : Nat} (h_kC : shX[kC]? = some (.inr (.inl (1, [some 1, some (kC + 1), some (kC + 2), none, none, none])))) (h_kC1 : shX[kC + 1]? = some (.inl (0, 20))) (h_kC2 : shX[kC + 2]? = some (.inl (0, 20))) {r : gS} (K_37 : Int32 → Int32 → Int32 → Int32 → gS → Option gS) (hK_37 : ∀ (x1 : Int32) (x4 : Int32) (x5 : Int32) (x6 : Int32) (σ : gS) (H : Heap) (locs : List Loc) (ls : Array Slot), K_37 x1 x4 x5 x6 σ = some r → gI shX t ad D s.heap σ H locs → lv_has ls 9 [(0, .ref (ad kC)), (1, .int x1), (3, .ref (ad 32)), (4, .int x4), (5, .int x5), (6, .int x6)] → W p l e (gR 2 84) s m args below meth c H locs 0 0 (MQ below (gQv shX t ad D r) args s 0 0 (gA shX ad)) (F0 m 37 ls [])) : ∀ (n : Nat) (x1 : Int32) (x4 : Int32) (x5 : Int32) (x6 : Int32) (x7 : Int32) (x8 : Int32) (σ : gS) (H : Heap) (locs : List Loc) (ls : Array Slot), f_X1_tellDents_66 kC K_37 n x1 x4 x5 x6 x7 x8 σ = some r → gI shX t ad D s.heap σ H locs → lv_has ls 9 [(0, .ref (ad kC)), (1, .int x1), (3, .ref (ad 32)), (4, .int x4), (5, .int x5), (6, .int x6), (7, .int x7), (8, .int x8)] → W p l e (gR 2 84) s m args below meth c H locs 0 0 (MQ below (gQv shX t ad D r) args s 0 0 (gA shX ad)) (F0 m 66 ls []) := by
  have hx := C.1
  have hb := C.2.1
  intro n
  induction n with
  | zero =>
    intro x1 x4 x5 x6 x7 x8 σ H locs ls  h
    exact absurd h (by simp [f_X1_tellDents_66])
  | succ n ih =>
    intro x1 x4 x5 x6 x7 x8 σ H locs ls  h hI hl
    unfold f_X1_tellDents_66 at h
    refine lv_iload hx hb dX1_tellDents_66 (lv_at hl 7 rfl) ?_
    refine lv_iload hx hb dX1_tellDents_68 (lv_at hl 6 rfl) ?_
    refine hicmp_ge (tgt := 114) C dX1_tellDents_70 (by decide) h (fun h => ?_) (fun h => ?_)
    · refine h_iinc C hl dX1_tellDents_114 5 rfl ci_1 h (by decide) (lvf := fun v1 => [(6, .int v1), (0, .ref (ad kC)), (1, .int x1), (3, .ref (ad 32)), (4, .int x4), (5, .int x5), (7, .int x7), (8, .int x8)]) (fun _ => rfl) (fun v1 ls h hl => ?_)
      refine lv_goto (tgt := 37) hx hb dX1_tellDents_117 (by decide) ?_
      exact hK_37 _ _ _ _ _ _ _ _  h hI (lv_sub hl [1, 2, 3, 4, 5, 0] rfl)
    · refine lv_aload_n hx hb dX1_tellDents_73 rfl (lv_at hl 0 rfl) ?_
      refine fr_116 C hI h_kC rfl dX1_tellDents_74 ?_
      refine lv_iload hx hb dX1_tellDents_77 (lv_at hl 7 rfl) ?_
      refine gx_iald C hI h_kC1 h dX1_tellDents_79 (fun h => ?_)
      refine lv_iload_n hx hb dX1_tellDents_80 rfl (lv_at hl 1 rfl) ?_
      refine hicmp_ne (tgt := 108) C dX1_tellDents_81 (by decide) h (fun h => ?_) (fun h => ?_)
      · refine h_iinc C hl dX1_tellDents_108 7 rfl ci_1 h (by decide) (lvf := fun v2 => [(8, .int v2), (0, .ref (ad kC)), (1, .int x1), (3, .ref (ad 32)), (4, .int x4), (5, .int x5), (6, .int x6), (7, .int x7)]) (fun _ => rfl) (fun v2 ls h hl => ?_)
        refine lv_goto (tgt := 66) hx hb dX1_tellDents_111 (by decide) ?_
        exact ih _ _ _ _ _ _ _ _ _ _  h hI (lv_sub hl [1, 2, 3, 4, 5, 6, 7, 0] rfl)
      · refine lv_aload_n hx hb dX1_tellDents_84 rfl (lv_at hl 2 rfl) ?_
        refine lv_aload_n hx hb dX1_tellDents_85 rfl (lv_at hl 0 rfl) ?_
        refine fg_118 C hI h_kC rfl dX1_tellDents_86 ?_
        refine lv_iload hx hb dX1_tellDents_89 (lv_at hl 5 rfl) ?_
        refine lv_aload_n hx hb dX1_tellDents_91 rfl (lv_at hl 0 rfl) ?_
        refine fg_121 C hI h_kC rfl dX1_tellDents_92 ?_
        refine lv_imul hx hb dX1_tellDents_95 ?_
        refine lv_iadd hx hb dX1_tellDents_96 ?_
        refine lv_aload_n hx hb dX1_tellDents_97 rfl (lv_at hl 0 rfl) ?_
        refine fr_117 C hI h_kC rfl dX1_tellDents_98 ?_
        refine lv_iload hx hb dX1_tellDents_101 (lv_at hl 7 rfl) ?_
        refine gx_iald C hI h_kC2 h dX1_tellDents_103 (fun h => ?_)
        refine lv_iadd hx hb dX1_tellDents_104 ?_
        refine h_callvv_w (rest := []) C hI hl.1 shX_32 rfl yv_X6_note k_592 h (fun q hq => c_X6_note l D t ad z C.2.2.2.2.2.2.1 (σ) (((σ.1 kC 3) + (x6 * (σ.1 kC 5))) + (σ.1 (kC + 2) (x8).toNatClampNeg)) q hq) (As := [.int (((σ.1 kC 3) + (x6 * (σ.1 kC 5))) + (σ.1 (kC + 2) (x8).toNatClampNeg))]) rfl rfl ⟨Nat.le_of_ble_eq_true rfl, Nat.le_of_ble_eq_true rfl⟩ (Nat.le_of_ble_eq_true rfl) dX1_tellDents_105 (fun q3 H locs h hI => ?_)
        refine h_iinc C hl dX1_tellDents_108 7 rfl ci_1 h (by decide) (lvf := fun v4 => [(8, .int v4), (0, .ref (ad kC)), (1, .int x1), (3, .ref (ad 32)), (4, .int x4), (5, .int x5), (6, .int x6), (7, .int x7)]) (fun _ => rfl) (fun v4 ls h hl => ?_)
        refine lv_goto (tgt := 66) hx hb dX1_tellDents_111 (by decide) ?_
        exact ih _ _ _ _ _ _ _ _ _ _  h hI (lv_sub hl [1, 2, 3, 4, 5, 6, 7, 0] rfl)
set_option maxRecDepth 100000 in
set_option maxHeartbeats 4000000 in
theorem w_X1_tellDents_37 {p : Program} {l : Launch} {e : Env} {s : State} {m : MethodId} {args : Array Value} {below : List Frame} {meth : Method} {c : Code} {D : va_G} {t : gT} {ad z : Nat → Nat} (C : gC p s m args meth c cX1_tellDents 9 "NineKeysRound$Course" D t shX ad z) (hr : meth.sig.returnType = none) {kC : Nat} (h_kC : shX[kC]? = some (.inr (.inl (1, [some 1, some (kC + 1), some (kC + 2), none, none, none])))) (h_kC1 : shX[kC + 1]? = some (.inl (0, 20))) (h_kC2 : shX[kC + 2]? = some (.inl (0, 20))) {r : gS} : ∀ (n : Nat) (x1 : Int32) (x4 : Int32) (x5 : Int32) (x6 : Int32) (σ : gS) (H : Heap) (locs : List Loc) (ls : Array Slot), f_X1_tellDents_37 kC n x1 x4 x5 x6 σ = some r → gI shX t ad D s.heap σ H locs → lv_has ls 9 [(0, .ref (ad kC)), (1, .int x1), (3, .ref (ad 32)), (4, .int x4), (5, .int x5), (6, .int x6)] → W p l e (gR 2 84) s m args below meth c H locs 0 0 (MQ below (gQv shX t ad D r) args s 0 0 (gA shX ad)) (F0 m 37 ls []) := by
  have hx := C.1
  have hb := C.2.1
  intro n
  induction n with
  | zero =>
    intro x1 x4 x5 x6 σ H locs ls  h
    exact absurd h (by simp [f_X1_tellDents_37])
  | succ n ih =>
    intro x1 x4 x5 x6 σ H locs ls  h hI hl
    unfold f_X1_tellDents_37 at h
    refine lv_iload hx hb dX1_tellDents_37 (lv_at hl 5 rfl) ?_
    refine lv_iload hx hb dX1_tellDents_39 (lv_at hl 4 rfl) ?_
    refine hicmp_ge (tgt := 120) C dX1_tellDents_41 (by decide) h (fun h => ?_) (fun h => ?_)
    · exact h_vret_w C hr hI h dX1_tellDents_120
    · refine lv_aload_n hx hb dX1_tellDents_44 rfl (lv_at hl 0 rfl) ?_
      refine fg_119 C hI h_kC rfl dX1_tellDents_45 ?_
      refine lv_iload hx hb dX1_tellDents_48 (lv_at hl 3 rfl) ?_
      refine lv_iload hx hb dX1_tellDents_50 (lv_at hl 5 rfl) ?_
      refine lv_aload_n hx hb dX1_tellDents_52 rfl (lv_at hl 0 rfl) ?_
      refine fg_119 C hI h_kC rfl dX1_tellDents_53 ?_
      refine lv_imul hx hb dX1_tellDents_56 ?_
      refine lv_isub hx hb dX1_tellDents_57 ?_
      refine h_mmin C hl.1 k_529 ⟨Nat.le_of_ble_eq_true rfl, Nat.le_of_ble_eq_true rfl⟩ ⟨Nat.zero_le _, Nat.zero_le _⟩ dX1_tellDents_58 ?_
      refine gx_topi h (fun v1 h => ?_)
      refine lv_istore (lv' := [(7, .int v1), (0, .ref (ad kC)), (1, .int x1), (3, .ref (ad 32)), (4, .int x4), (5, .int x5), (6, .int x6)]) hx hb dX1_tellDents_61 hl (by decide) rfl (fun ls hl => ?_)
      refine lv_iconst hx hb dX1_tellDents_63 ci_0 ?_
      refine lv_istore (lv' := [(8, .int 0), (7, .int v1), (0, .ref (ad kC)), (1, .int x1), (3, .ref (ad 32)), (4, .int x4), (5, .int x5), (6, .int x6)]) hx hb dX1_tellDents_64 hl (by decide) rfl (fun ls hl => ?_)
      exact w_X1_tellDents_66 C hr  h_kC h_kC1 h_kC2 _ ih _ _ _ _ _ _ _ _ _ _ _  h hI (lv_sub hl [2, 3, 4, 5, 6, 7, 1, 0] rfl)
set_option maxRecDepth 100000 in
set_option maxHeartbeats 4000000 in
theorem c_X1_tellDents (l : Launch) (D : va_G) (t : gT) (ad z : Nat → Nat) (hJ : gJ shX ad) (kC : Nat) (h_kC : shX[kC]? = some (.inr (.inl (1, [some 1, some (kC + 1), some (kC + 2), none, none, none])))) (h_kC1 : shX[kC + 1]? = some (.inl (0, 20))) (h_kC2 : shX[kC + 2]? = some (.inl (0, 20))) (σ : gS) (x1 : Int32) (x2 : Int32) (q : gS) (h : f_X1_tellDents σ kC x1 x2 = some q) : Met l yX1_tellDents (Cond.code yX1_tellDents cX1_tellDents 9 (none) :: lw_tb) (gR 2 84) (gPc shX t ad D z [.ref (ad kC), .int x1, .int x2, .ref (ad 32)] σ) (gQv shX t ad D q) 0 0 (gA shX ad) := by
  refine gMet "NineKeysRound$Course" rfl (by decide) hJ (Nat.le_of_ble_eq_true rfl) ?_
  intro p e s m below meth c ls C hr hI hl
  have hx := C.1
  have hb := C.2.1
  have hl : lv_has ls 9 [(0, .ref (ad kC)), (1, .int x1), (2, .int x2), (3, .ref (ad 32))] := hl
  unfold f_X1_tellDents at h
  refine lv_aload_n hx hb dX1_tellDents_0 rfl (lv_at hl 0 rfl) ?_
  refine lv_iload_n hx hb dX1_tellDents_1 rfl (lv_at hl 2 rfl) ?_
  refine h_callvi_o (rest := []) C hI hl.1 h_kC rfl yv_X1_dentsBy k_591 h (fun q hq => c_X1_dentsBy l D t ad z C.2.2.2.2.2.2.1 kC h_kC h_kC1 h_kC2 (σ) x2 q hq) (As := [.int x2]) rfl rfl ⟨Nat.le_of_ble_eq_true rfl, Nat.le_of_ble_eq_true rfl⟩ (Nat.le_of_ble_eq_true rfl) dX1_tellDents_2 (fun q1 H locs h hI => ?_)
  refine lv_istore (lv' := [(4, .int q1), (0, .ref (ad kC)), (1, .int x1), (2, .int x2), (3, .ref (ad 32))]) hx hb dX1_tellDents_5 hl (by decide) rfl (fun ls hl => ?_)
  refine lv_aload_n hx hb dX1_tellDents_7 rfl (lv_at hl 1 rfl) ?_
  refine fg_119 C hI h_kC rfl dX1_tellDents_8 ?_
  refine hif_ne (tgt := 18) C dX1_tellDents_11 (by decide) h (fun h => ?_) (fun h => ?_)
  · refine lv_iload hx hb dX1_tellDents_18 (lv_at hl 0 rfl) ?_
    refine lv_aload_n hx hb dX1_tellDents_20 rfl (lv_at hl 1 rfl) ?_
    refine fg_119 C hI h_kC rfl dX1_tellDents_21 ?_
    refine lv_iadd hx hb dX1_tellDents_24 ?_
    refine lv_iconst hx hb dX1_tellDents_25 ci_1 ?_
    refine lv_isub hx hb dX1_tellDents_26 ?_
    refine lv_aload_n hx hb dX1_tellDents_27 rfl (lv_at hl 1 rfl) ?_
    refine fg_119 C hI h_kC rfl dX1_tellDents_28 ?_
    refine h_idiv C dX1_tellDents_31 h (fun h => ?_)
    refine gx_topi h (fun v2 h => ?_)
    refine lv_istore (lv' := [(5, .int v2), (4, .int q1), (0, .ref (ad kC)), (1, .int x1), (2, .int x2), (3, .ref (ad 32))]) hx hb dX1_tellDents_32 hl (by decide) rfl (fun ls hl => ?_)
    refine lv_iconst hx hb dX1_tellDents_34 ci_0 ?_
    refine lv_istore (lv' := [(6, .int 0), (5, .int v2), (4, .int q1), (0, .ref (ad kC)), (1, .int x1), (2, .int x2), (3, .ref (ad 32))]) hx hb dX1_tellDents_35 hl (by decide) rfl (fun ls hl => ?_)
    exact w_X1_tellDents_37 C hr  h_kC h_kC1 h_kC2  _ _ _ _ _ _ _ _ _  h hI (lv_sub hl [3, 4, 6, 2, 1, 0] rfl)
  · refine lv_iconst hx hb dX1_tellDents_14 ci_0 ?_
    refine lv_goto (tgt := 32) hx hb dX1_tellDents_15 (by decide) ?_
    refine lv_istore (lv' := [(5, .int 0), (4, .int q1), (0, .ref (ad kC)), (1, .int x1), (2, .int x2), (3, .ref (ad 32))]) hx hb dX1_tellDents_32 hl (by decide) rfl (fun ls hl => ?_)
    refine lv_iconst hx hb dX1_tellDents_34 ci_0 ?_
    refine lv_istore (lv' := [(6, .int 0), (5, .int 0), (4, .int q1), (0, .ref (ad kC)), (1, .int x1), (2, .int x2), (3, .ref (ad 32))]) hx hb dX1_tellDents_35 hl (by decide) rfl (fun ls hl => ?_)
    exact w_X1_tellDents_37 C hr  h_kC h_kC1 h_kC2  _ _ _ _ _ _ _ _ _  h hI (lv_sub hl [3, 4, 6, 2, 1, 0] rfl)
set_option maxRecDepth 100000 in
set_option maxHeartbeats 4000000 in
theorem w_X1_firstMinuteOf_2 {p : Program} {l : Launch} {e : Env} {s : State} {m : MethodId} {args : Array Value} {below : List Frame} {meth : Method} {c : Code} {D : va_G} {t : gT} {ad z : Nat → Nat} {σ : gS} (C : gC p s m args meth c cX1_firstMinuteOf 3 "NineKeysRound$Course" D t shX ad z) (hr : meth.sig.returnType = some .int) {kC : Nat} (h_kC : shX[kC]? = some (.inr (.inl (1, [some 1, some (kC + 1), some (kC + 2), none, none, none])))) (h_kC1 : shX[kC + 1]? = some (.inl (0, 20))) (h_kC2 : shX[kC + 2]? = some (.inl (0, 20))) {r : Int32} : ∀ (n : Nat) (x1 : Int32) (x2 : Int32) (H : Heap) (locs : List Loc) (ls : Array Slot), f_X1_firstMinuteOf_2 σ kC n x1 x2 = some r → gI shX t ad D s.heap σ H locs → lv_has ls 3 [(0, .ref (ad kC)), (1, .int x1), (2, .int x2)] → W p l e (gR 1 60) s m args below meth c H locs 0 0 (MQ below (gQi shX t ad D r σ) args s 0 0 (gA shX ad)) (F0 m 2 ls []) := by
  have hx := C.1
  have hb := C.2.1
  intro n
  induction n with
  | zero =>
    intro x1 x2 H locs ls  h
    exact absurd h (by simp [f_X1_firstMinuteOf_2])
  | succ n ih =>
    intro x1 x2 H locs ls  h hI hl
    unfold f_X1_firstMinuteOf_2 at h
    refine lv_iload_n hx hb dX1_firstMinuteOf_2 rfl (lv_at hl 2 rfl) ?_
    refine lv_aload_n hx hb dX1_firstMinuteOf_3 rfl (lv_at hl 0 rfl) ?_
    refine fg_119 C hI h_kC rfl dX1_firstMinuteOf_4 ?_
    refine hicmp_ge (tgt := 38) C dX1_firstMinuteOf_7 (by decide) h (fun h => ?_) (fun h => ?_)
    · refine lv_bipush hx hb dX1_firstMinuteOf_38 cb_m2 ?_
      exact h_iret_o C hr hI h dX1_firstMinuteOf_40
    · refine lv_aload_n hx hb dX1_firstMinuteOf_10 rfl (lv_at hl 0 rfl) ?_
      refine fr_116 C hI h_kC rfl dX1_firstMinuteOf_11 ?_
      refine lv_iload_n hx hb dX1_firstMinuteOf_14 rfl (lv_at hl 2 rfl) ?_
      refine gx_iald C hI h_kC1 h dX1_firstMinuteOf_15 (fun h => ?_)
      refine lv_iload_n hx hb dX1_firstMinuteOf_16 rfl (lv_at hl 1 rfl) ?_
      refine hicmp_ne (tgt := 32) C dX1_firstMinuteOf_17 (by decide) h (fun h => ?_) (fun h => ?_)
      · refine h_iinc C hl dX1_firstMinuteOf_32 2 rfl ci_1 h (by decide) (lvf := fun v1 => [(2, .int v1), (0, .ref (ad kC)), (1, .int x1)]) (fun _ => rfl) (fun v1 ls h hl => ?_)
        refine lv_goto (tgt := 2) hx hb dX1_firstMinuteOf_35 (by decide) ?_
        exact ih _ _ _ _ _  h hI (lv_sub hl [1, 2, 0] rfl)
      · refine lv_aload_n hx hb dX1_firstMinuteOf_20 rfl (lv_at hl 0 rfl) ?_
        refine fg_118 C hI h_kC rfl dX1_firstMinuteOf_21 ?_
        refine lv_aload_n hx hb dX1_firstMinuteOf_24 rfl (lv_at hl 0 rfl) ?_
        refine fr_117 C hI h_kC rfl dX1_firstMinuteOf_25 ?_
        refine lv_iload_n hx hb dX1_firstMinuteOf_28 rfl (lv_at hl 2 rfl) ?_
        refine gx_iald C hI h_kC2 h dX1_firstMinuteOf_29 (fun h => ?_)
        refine lv_iadd hx hb dX1_firstMinuteOf_30 ?_
        exact h_iret_o C hr hI h dX1_firstMinuteOf_31
set_option maxRecDepth 100000 in
set_option maxHeartbeats 4000000 in
theorem c_X1_firstMinuteOf (l : Launch) (D : va_G) (t : gT) (ad z : Nat → Nat) (hJ : gJ shX ad) (kC : Nat) (h_kC : shX[kC]? = some (.inr (.inl (1, [some 1, some (kC + 1), some (kC + 2), none, none, none])))) (h_kC1 : shX[kC + 1]? = some (.inl (0, 20))) (h_kC2 : shX[kC + 2]? = some (.inl (0, 20))) (σ : gS) (x1 : Int32) (q : Int32) (h : f_X1_firstMinuteOf σ kC x1 = some q) : Met l yX1_firstMinuteOf (Cond.code yX1_firstMinuteOf cX1_firstMinuteOf 3 (some .int) :: lw_tb) (gR 1 60) (gPc shX t ad D z [.ref (ad kC), .int x1] σ) (gQi shX t ad D q σ) 0 0 (gA shX ad) := by
  refine gMet "NineKeysRound$Course" rfl (by decide) hJ (Nat.le_of_ble_eq_true rfl) ?_
  intro p e s m below meth c ls C hr hI hl
  have hx := C.1
  have hb := C.2.1
  have hl : lv_has ls 3 [(0, .ref (ad kC)), (1, .int x1)] := hl
  unfold f_X1_firstMinuteOf at h
  refine lv_iconst hx hb dX1_firstMinuteOf_0 ci_0 ?_
  refine lv_istore_n (lv' := [(2, .int 0), (0, .ref (ad kC)), (1, .int x1)]) hx hb dX1_firstMinuteOf_1 rfl hl (by decide) rfl (fun ls hl => ?_)
  exact w_X1_firstMinuteOf_2 C hr  h_kC h_kC1 h_kC2  _ _ _ _ _ _  h hI (lv_sub hl [1, 2, 0] rfl)
set_option maxRecDepth 100000 in
set_option maxHeartbeats 4000000 in
theorem w_X1_dentedWithin_18 {p : Program} {l : Launch} {e : Env} {s : State} {m : MethodId} {args : Array Value} {below : List Frame} {meth : Method} {c : Code} {D : va_G} {t : gT} {ad z : Nat → Nat} {σ : gS} (C : gC p s m args meth c cX1_dentedWithin 6 "NineKeysRound$Course" D t shX ad z) (hr : meth.sig.returnType = some .int) {kC : Nat} (h_kC : shX[kC]? = some (.inr (.inl (1, [some 1, some (kC + 1), some (kC + 2), none, none, none])))) (h_kC1 : shX[kC + 1]? = some (.inl (0, 20))) (h_kC2 : shX[kC + 2]? = some (.inl (0, 20))) {r : Int32} : ∀ (n : Nat) (x3 : Int32) (x4 : Int32) (x5 : Int32) (H : Heap) (locs : List Loc) (ls : Array Slot), f_X1_dentedWithin_18 σ kC n x3 x4 x5 = some r → gI shX t ad D s.heap σ H locs → lv_has ls 6 [(0, .ref (ad kC)), (3, .int x3), (4, .int x4), (5, .int x5)] → W p l e (gR 2 84) s m args below meth c H locs 0 0 (MQ below (gQi shX t ad D r σ) args s 0 0 (gA shX ad)) (F0 m 18 ls []) := by
  have hx := C.1
  have hb := C.2.1
  intro n
  induction n with
  | zero =>
    intro x3 x4 x5 H locs ls  h
    exact absurd h (by simp [f_X1_dentedWithin_18])
  | succ n ih =>
    intro x3 x4 x5 H locs ls  h hI hl
    unfold f_X1_dentedWithin_18 at h
    refine lv_iload hx hb dX1_dentedWithin_18 (lv_at hl 3 rfl) ?_
    refine lv_iload_n hx hb dX1_dentedWithin_20 rfl (lv_at hl 1 rfl) ?_
    refine hicmp_ge (tgt := 43) C dX1_dentedWithin_21 (by decide) h (fun h => ?_) (fun h => ?_)
    · refine lv_iload hx hb dX1_dentedWithin_43 (lv_at hl 2 rfl) ?_
      exact h_iret_o C hr hI h dX1_dentedWithin_45
    · refine lv_iload hx hb dX1_dentedWithin_24 (lv_at hl 2 rfl) ?_
      refine lv_iconst hx hb dX1_dentedWithin_26 ci_1 ?_
      refine lv_aload_n hx hb dX1_dentedWithin_27 rfl (lv_at hl 0 rfl) ?_
      refine lv_iload hx hb dX1_dentedWithin_28 (lv_at hl 3 rfl) ?_
      refine h_callvi_o (rest := [.int 1, .int x4]) C hI hl.1 h_kC rfl yv_X1_stopOf k_676 h (fun q hq => c_X1_stopOf l D t ad z C.2.2.2.2.2.2.1 kC h_kC h_kC1 h_kC2 (σ) x5 q hq) (As := [.int x5]) rfl rfl ⟨Nat.le_of_ble_eq_true rfl, Nat.le_of_ble_eq_true rfl⟩ (Nat.le_of_ble_eq_true rfl) dX1_dentedWithin_30 (fun q1 H locs h hI => ?_)
      refine lv_ishl hx hb dX1_dentedWithin_33 ?_
      refine lv_ior hx hb dX1_dentedWithin_34 ?_
      refine gx_topi h (fun v2 h => ?_)
      refine lv_istore (lv' := [(4, .int v2), (0, .ref (ad kC)), (3, .int x3), (5, .int x5)]) hx hb dX1_dentedWithin_35 hl (by decide) rfl (fun ls hl => ?_)
      refine h_iinc C hl dX1_dentedWithin_37 3 rfl ci_1 h (by decide) (lvf := fun v3 => [(5, .int v3), (4, .int v2), (0, .ref (ad kC)), (3, .int x3)]) (fun _ => rfl) (fun v3 ls h hl => ?_)
      refine lv_goto (tgt := 18) hx hb dX1_dentedWithin_40 (by decide) ?_
      exact ih _ _ _ _ _ _  h hI (lv_sub hl [2, 3, 1, 0] rfl)
set_option maxRecDepth 100000 in
set_option maxHeartbeats 4000000 in
theorem c_X1_dentedWithin (l : Launch) (D : va_G) (t : gT) (ad z : Nat → Nat) (hJ : gJ shX ad) (kC : Nat) (h_kC : shX[kC]? = some (.inr (.inl (1, [some 1, some (kC + 1), some (kC + 2), none, none, none])))) (h_kC1 : shX[kC + 1]? = some (.inl (0, 20))) (h_kC2 : shX[kC + 2]? = some (.inl (0, 20))) (σ : gS) (x1 : Int32) (x2 : Int32) (q : Int32) (h : f_X1_dentedWithin σ kC x1 x2 = some q) : Met l yX1_dentedWithin (Cond.code yX1_dentedWithin cX1_dentedWithin 6 (some .int) :: lw_tb) (gR 2 84) (gPc shX t ad D z [.ref (ad kC), .int x1, .int x2] σ) (gQi shX t ad D q σ) 0 0 (gA shX ad) := by
  refine gMet "NineKeysRound$Course" rfl (by decide) hJ (Nat.le_of_ble_eq_true rfl) ?_
  intro p e s m below meth c ls C hr hI hl
  have hx := C.1
  have hb := C.2.1
  have hl : lv_has ls 6 [(0, .ref (ad kC)), (1, .int x1), (2, .int x2)] := hl
  unfold f_X1_dentedWithin at h
  refine lv_aload_n hx hb dX1_dentedWithin_0 rfl (lv_at hl 0 rfl) ?_
  refine lv_iload_n hx hb dX1_dentedWithin_1 rfl (lv_at hl 2 rfl) ?_
  refine h_callvi_o (rest := []) C hI hl.1 h_kC rfl yv_X1_dentsBy k_591 h (fun q hq => c_X1_dentsBy l D t ad z C.2.2.2.2.2.2.1 kC h_kC h_kC1 h_kC2 (σ) x2 q hq) (As := [.int x2]) rfl rfl ⟨Nat.le_of_ble_eq_true rfl, Nat.le_of_ble_eq_true rfl⟩ (Nat.le_of_ble_eq_true rfl) dX1_dentedWithin_2 (fun q1 H locs h hI => ?_)
  refine lv_istore_n (lv' := [(3, .int q1), (0, .ref (ad kC)), (1, .int x1), (2, .int x2)]) hx hb dX1_dentedWithin_5 rfl hl (by decide) rfl (fun ls hl => ?_)
  refine lv_iconst hx hb dX1_dentedWithin_6 ci_0 ?_
  refine lv_istore (lv' := [(4, .int 0), (3, .int q1), (0, .ref (ad kC)), (1, .int x1), (2, .int x2)]) hx hb dX1_dentedWithin_7 hl (by decide) rfl (fun ls hl => ?_)
  refine lv_aload_n hx hb dX1_dentedWithin_9 rfl (lv_at hl 2 rfl) ?_
  refine lv_iload_n hx hb dX1_dentedWithin_10 rfl (lv_at hl 3 rfl) ?_
  refine lv_iconst hx hb dX1_dentedWithin_11 ci_1 ?_
  refine lv_isub hx hb dX1_dentedWithin_12 ?_
  refine h_callvi_o (rest := []) C hI hl.1 h_kC rfl yv_X1_dentsBy k_591 h (fun q hq => c_X1_dentsBy l D t ad z C.2.2.2.2.2.2.1 kC h_kC h_kC1 h_kC2 (σ) (x1 - 1) q hq) (As := [.int (x1 - 1)]) rfl rfl ⟨Nat.le_of_ble_eq_true rfl, Nat.le_of_ble_eq_true rfl⟩ (Nat.le_of_ble_eq_true rfl) dX1_dentedWithin_13 (fun q2 H locs h hI => ?_)
  refine lv_istore (lv' := [(5, .int q2), (4, .int 0), (3, .int q1), (0, .ref (ad kC)), (1, .int x1), (2, .int x2)]) hx hb dX1_dentedWithin_16 hl (by decide) rfl (fun ls hl => ?_)
  exact w_X1_dentedWithin_18 C hr  h_kC h_kC1 h_kC2  _ _ _ _ _ _ _  h hI (lv_sub hl [3, 2, 1, 0] rfl)
set_option maxRecDepth 100000 in
set_option maxHeartbeats 4000000 in
theorem w_X1_longestGapOf_64 {p : Program} {l : Launch} {e : Env} {s : State} {m : MethodId} {args : Array Value} {below : List Frame} {meth : Method} {c : Code} {D : va_G} {t : gT} {ad z : Nat → Nat} {σ : gS} (C : gC p s m args meth c cX1_longestGapOf 5 "NineKeysRound$Course" D t shX ad z) (hr : meth.sig.returnType = some .int) {kC : Nat} (h_kC : shX[kC]? = some (.inr (.inl (1, [some 1, some (kC + 1), some (kC + 2), none, none, none])))) (h_kC1 : shX[kC + 1]? = some (.inl (0, 20))) (h_kC2 : shX[kC + 2]? = some (.inl (0, 20))) {r : Int32} (K_21 : Int32 → Int32 → Int32 → Int32 → Option Int32) (hK_21 : ∀ (x1 : Int32) (x2 : Int32) (x3 : Int32) (x4 : Int32) (H : Heap) (locs : List Loc) (ls : Array Slot), K_21 x1 x2 x3 x4 = some r → gI shX t ad D s.heap σ H locs → lv_has ls 5 [(0, .ref (ad kC)), (1, .int x1), (2, .int x2), (3, .int x3), (4, .int x4)] → W p l e (gR 2 82) s m args below meth c H locs 0 0 (MQ below (gQi shX t ad D r σ) args s 0 0 (gA shX ad)) (F0 m 21 ls [])) : ∀ (x1 : Int32) (x4 : Int32) (s0 : Int32) (H : Heap) (locs : List Loc) (ls : Array Slot), f_X1_longestGapOf_64 σ kC K_21 x1 x4 s0 = some r → gI shX t ad D s.heap σ H locs → lv_has ls 5 [(0, .ref (ad kC)), (1, .int x1), (4, .int x4)] → W p l e (gR 2 82) s m args below meth c H locs 0 0 (MQ below (gQi shX t ad D r σ) args s 0 0 (gA shX ad)) (F0 m 64 ls [.int s0]) := by
  have hx := C.1
  have hb := C.2.1
  intro x1 x4 s0 H locs ls  h hI hl
  unfold f_X1_longestGapOf_64 at h
  refine lv_istore_n (lv' := [(2, .int s0), (0, .ref (ad kC)), (1, .int x1), (4, .int x4)]) hx hb dX1_longestGapOf_64 rfl hl (by decide) rfl (fun ls hl => ?_)
  refine lv_aload_n hx hb dX1_longestGapOf_65 rfl (lv_at hl 1 rfl) ?_
  refine lv_iload hx hb dX1_longestGapOf_66 (lv_at hl 3 rfl) ?_
  refine h_callvi_o (rest := []) C hI hl.1 h_kC rfl yv_X1_minuteOf k_686 h (fun q hq => c_X1_minuteOf l D t ad z C.2.2.2.2.2.2.1 kC h_kC h_kC1 h_kC2 (σ) x4 q hq) (As := [.int x4]) rfl rfl ⟨Nat.le_of_ble_eq_true rfl, Nat.le_of_ble_eq_true rfl⟩ (Nat.le_of_ble_eq_true rfl) dX1_longestGapOf_68 (fun q1 H locs h hI => ?_)
  refine lv_istore_n (lv' := [(3, .int q1), (2, .int s0), (0, .ref (ad kC)), (1, .int x1), (4, .int x4)]) hx hb dX1_longestGapOf_71 rfl hl (by decide) rfl (fun ls hl => ?_)
  refine h_iinc C hl dX1_longestGapOf_72 4 rfl ci_1 h (by decide) (lvf := fun v2 => [(4, .int v2), (3, .int q1), (2, .int s0), (0, .ref (ad kC)), (1, .int x1)]) (fun _ => rfl) (fun v2 ls h hl => ?_)
  refine lv_goto (tgt := 21) hx hb dX1_longestGapOf_75 (by decide) ?_
  exact hK_21 _ _ _ _ _ _ _  h hI (lv_sub hl [3, 4, 2, 1, 0] rfl)
set_option maxRecDepth 100000 in
set_option maxHeartbeats 4000000 in
theorem w_X1_longestGapOf_21 {p : Program} {l : Launch} {e : Env} {s : State} {m : MethodId} {args : Array Value} {below : List Frame} {meth : Method} {c : Code} {D : va_G} {t : gT} {ad z : Nat → Nat} {σ : gS} (C : gC p s m args meth c cX1_longestGapOf 5 "NineKeysRound$Course" D t shX ad z) (hr : meth.sig.returnType = some .int) {kC : Nat} (h_kC : shX[kC]? = some (.inr (.inl (1, [some 1, some (kC + 1), some (kC + 2), none, none, none])))) (h_kC1 : shX[kC + 1]? = some (.inl (0, 20))) (h_kC2 : shX[kC + 2]? = some (.inl (0, 20))) {r : Int32} : ∀ (n : Nat) (x1 : Int32) (x2 : Int32) (x3 : Int32) (x4 : Int32) (H : Heap) (locs : List Loc) (ls : Array Slot), f_X1_longestGapOf_21 σ kC n x1 x2 x3 x4 = some r → gI shX t ad D s.heap σ H locs → lv_has ls 5 [(0, .ref (ad kC)), (1, .int x1), (2, .int x2), (3, .int x3), (4, .int x4)] → W p l e (gR 2 82) s m args below meth c H locs 0 0 (MQ below (gQi shX t ad D r σ) args s 0 0 (gA shX ad)) (F0 m 21 ls []) := by
  have hx := C.1
  have hb := C.2.1
  intro n
  induction n with
  | zero =>
    intro x1 x2 x3 x4 H locs ls  h
    exact absurd h (by simp [f_X1_longestGapOf_21])
  | succ n ih =>
    intro x1 x2 x3 x4 H locs ls  h hI hl
    unfold f_X1_longestGapOf_21 at h
    refine lv_iload hx hb dX1_longestGapOf_21 (lv_at hl 4 rfl) ?_
    refine lv_iconst hx hb dX1_longestGapOf_23 ci_2 ?_
    refine lv_aload_n hx hb dX1_longestGapOf_24 rfl (lv_at hl 0 rfl) ?_
    refine fg_119 C hI h_kC rfl dX1_longestGapOf_25 ?_
    refine lv_imul hx hb dX1_longestGapOf_28 ?_
    refine hicmp_ge (tgt := 78) C dX1_longestGapOf_29 (by decide) h (fun h => ?_) (fun h => ?_)
    · refine lv_iload_n hx hb dX1_longestGapOf_78 rfl (lv_at hl 2 rfl) ?_
      exact h_iret_o C hr hI h dX1_longestGapOf_79
    · refine lv_aload_n hx hb dX1_longestGapOf_32 rfl (lv_at hl 0 rfl) ?_
      refine lv_iload hx hb dX1_longestGapOf_33 (lv_at hl 4 rfl) ?_
      refine h_callvi_o (rest := []) C hI hl.1 h_kC rfl yv_X1_stopOf k_676 h (fun q hq => c_X1_stopOf l D t ad z C.2.2.2.2.2.2.1 kC h_kC h_kC1 h_kC2 (σ) x4 q hq) (As := [.int x4]) rfl rfl ⟨Nat.le_of_ble_eq_true rfl, Nat.le_of_ble_eq_true rfl⟩ (Nat.le_of_ble_eq_true rfl) dX1_longestGapOf_35 (fun q1 H locs h hI => ?_)
      refine lv_iload_n hx hb dX1_longestGapOf_38 rfl (lv_at hl 1 rfl) ?_
      refine hicmp_ne (tgt := 72) C dX1_longestGapOf_39 (by decide) h (fun h => ?_) (fun h => ?_)
      · refine h_iinc C hl dX1_longestGapOf_72 4 rfl ci_1 h (by decide) (lvf := fun v2 => [(4, .int v2), (0, .ref (ad kC)), (1, .int x1), (2, .int x2), (3, .int x3)]) (fun _ => rfl) (fun v2 ls h hl => ?_)
        refine lv_goto (tgt := 21) hx hb dX1_longestGapOf_75 (by decide) ?_
        exact ih _ _ _ _ _ _ _  h hI (lv_sub hl [1, 2, 3, 4, 0] rfl)
      · refine lv_iload_n hx hb dX1_longestGapOf_42 rfl (lv_at hl 3 rfl) ?_
        refine lv_bipush hx hb dX1_longestGapOf_43 cb_m2 ?_
        refine hicmp_ne (tgt := 52) C dX1_longestGapOf_45 (by decide) h (fun h => ?_) (fun h => ?_)
        · refine lv_iload_n hx hb dX1_longestGapOf_52 rfl (lv_at hl 2 rfl) ?_
          refine lv_aload_n hx hb dX1_longestGapOf_53 rfl (lv_at hl 0 rfl) ?_
          refine lv_iload hx hb dX1_longestGapOf_54 (lv_at hl 4 rfl) ?_
          refine h_callvi_o (rest := [.int x2]) C hI hl.1 h_kC rfl yv_X1_minuteOf k_686 h (fun q hq => c_X1_minuteOf l D t ad z C.2.2.2.2.2.2.1 kC h_kC h_kC1 h_kC2 (σ) x4 q hq) (As := [.int x4]) rfl rfl ⟨Nat.le_of_ble_eq_true rfl, Nat.le_of_ble_eq_true rfl⟩ (Nat.le_of_ble_eq_true rfl) dX1_longestGapOf_56 (fun q3 H locs h hI => ?_)
          refine lv_iload_n hx hb dX1_longestGapOf_59 rfl (lv_at hl 3 rfl) ?_
          refine lv_isub hx hb dX1_longestGapOf_60 ?_
          refine h_mmax C hl.1 k_586 ⟨Nat.le_of_ble_eq_true rfl, Nat.le_of_ble_eq_true rfl⟩ ⟨Nat.zero_le _, Nat.zero_le _⟩ dX1_longestGapOf_61 ?_
          exact w_X1_longestGapOf_64 C hr  h_kC h_kC1 h_kC2 _ ih _ _ _ _ _ _  h hI (lv_sub hl [0, 1, 4] rfl)
        · refine lv_iload_n hx hb dX1_longestGapOf_48 rfl (lv_at hl 2 rfl) ?_
          refine lv_goto (tgt := 64) hx hb dX1_longestGapOf_49 (by decide) ?_
          exact w_X1_longestGapOf_64 C hr  h_kC h_kC1 h_kC2 _ ih _ _ _ _ _ _  h hI (lv_sub hl [0, 1, 4] rfl)
set_option maxRecDepth 100000 in
set_option maxHeartbeats 4000000 in
theorem c_X1_longestGapOf (l : Launch) (D : va_G) (t : gT) (ad z : Nat → Nat) (hJ : gJ shX ad) (kC : Nat) (h_kC : shX[kC]? = some (.inr (.inl (1, [some 1, some (kC + 1), some (kC + 2), none, none, none])))) (h_kC1 : shX[kC + 1]? = some (.inl (0, 20))) (h_kC2 : shX[kC + 2]? = some (.inl (0, 20))) (σ : gS) (x1 : Int32) (q : Int32) (h : f_X1_longestGapOf σ kC x1 = some q) : Met l yX1_longestGapOf (Cond.code yX1_longestGapOf cX1_longestGapOf 5 (some .int) :: lw_tb) (gR 2 82) (gPc shX t ad D z [.ref (ad kC), .int x1] σ) (gQi shX t ad D q σ) 0 0 (gA shX ad) := by
  refine gMet "NineKeysRound$Course" rfl (by decide) hJ (Nat.le_of_ble_eq_true rfl) ?_
  intro p e s m below meth c ls C hr hI hl
  have hx := C.1
  have hb := C.2.1
  have hl : lv_has ls 5 [(0, .ref (ad kC)), (1, .int x1)] := hl
  unfold f_X1_longestGapOf at h
  refine lv_aload_n hx hb dX1_longestGapOf_0 rfl (lv_at hl 0 rfl) ?_
  refine lv_iload_n hx hb dX1_longestGapOf_1 rfl (lv_at hl 1 rfl) ?_
  refine h_callvi_o (rest := []) C hI hl.1 h_kC rfl yv_X1_firstMinuteOf k_685 h (fun q hq => c_X1_firstMinuteOf l D t ad z C.2.2.2.2.2.2.1 kC h_kC h_kC1 h_kC2 (σ) x1 q hq) (As := [.int x1]) rfl rfl ⟨Nat.le_of_ble_eq_true rfl, Nat.le_of_ble_eq_true rfl⟩ (Nat.le_of_ble_eq_true rfl) dX1_longestGapOf_2 (fun q1 H locs h hI => ?_)
  refine lv_istore_n (lv' := [(2, .int q1), (0, .ref (ad kC)), (1, .int x1)]) hx hb dX1_longestGapOf_5 rfl hl (by decide) rfl (fun ls hl => ?_)
  refine lv_iload_n hx hb dX1_longestGapOf_6 rfl (lv_at hl 0 rfl) ?_
  refine lv_bipush hx hb dX1_longestGapOf_7 cb_m2 ?_
  refine hicmp_ne (tgt := 15) C dX1_longestGapOf_9 (by decide) h (fun h => ?_) (fun h => ?_)
  · refine lv_bipush hx hb dX1_longestGapOf_15 cb_m2 ?_
    refine lv_istore_n (lv' := [(3, .int (-2)), (2, .int q1), (0, .ref (ad kC)), (1, .int x1)]) hx hb dX1_longestGapOf_17 rfl hl (by decide) rfl (fun ls hl => ?_)
    refine lv_iconst hx hb dX1_longestGapOf_18 ci_0 ?_
    refine lv_istore (lv' := [(4, .int 0), (3, .int (-2)), (2, .int q1), (0, .ref (ad kC)), (1, .int x1)]) hx hb dX1_longestGapOf_19 hl (by decide) rfl (fun ls hl => ?_)
    exact w_X1_longestGapOf_21 C hr  h_kC h_kC1 h_kC2  _ _ _ _ _ _ _ _  h hI (lv_sub hl [3, 4, 2, 1, 0] rfl)
  · refine lv_bipush hx hb dX1_longestGapOf_12 cb_m2 ?_
    exact h_iret_o C hr hI h dX1_longestGapOf_14
set_option maxRecDepth 100000 in
set_option maxHeartbeats 4000000 in
theorem c_X5_twos (l : Launch) (D : va_G) (t : gT) (ad z : Nat → Nat) (hJ : gJ shX ad) (kS : Nat) (h_kS : shX[kS]? = some (.inr (.inl (5, [some (kS + 1), none, none, none, none])))) (h_kS1 : shX[kS + 1]? = some (.inl (1, 60))) (σ : gS) (q : Int32) (h : f_X5_twos σ kS = some q) : Met l yX5_twos (Cond.code yX5_twos cX5_twos 1 (some .int) :: lw_tb) (gR 1 60) (gPc shX t ad D z [.ref (ad kS)] σ) (gQi shX t ad D q σ) 0 0 (gA shX ad) := by
  refine gMet "NineKeysRound$Shelf" rfl (by decide) hJ (Nat.le_of_ble_eq_true rfl) ?_
  intro p e s m below meth c ls C hr hI hl
  have hx := C.1
  have hb := C.2.1
  have hl : lv_has ls 1 [(0, .ref (ad kS))] := hl
  unfold f_X5_twos at h
  refine lv_aload_n hx hb dX5_twos_0 rfl (lv_at hl 0 rfl) ?_
  refine fg_247 C hI h_kS rfl dX5_twos_1 ?_
  refine lv_iconst hx hb dX5_twos_4 ci_1 ?_
  refine lv_iadd hx hb dX5_twos_5 ?_
  refine lv_iconst hx hb dX5_twos_6 ci_2 ?_
  refine h_idiv C dX5_twos_7 h (fun h => ?_)
  exact h_iret_o C hr hI h dX5_twos_8
set_option maxRecDepth 100000 in
set_option maxHeartbeats 4000000 in
theorem w_X1_makes_7 {p : Program} {l : Launch} {e : Env} {s : State} {m : MethodId} {args : Array Value} {below : List Frame} {meth : Method} {c : Code} {D : va_G} {t : gT} {ad z : Nat → Nat} {σ : gS} (C : gC p s m args meth c cX1_makes 4 "NineKeysRound$Course" D t shX ad z) (hr : meth.sig.returnType = some .boolean) {kC : Nat} (h_kC : shX[kC]? = some (.inr (.inl (1, [some 1, some (kC + 1), some (kC + 2), none, none, none])))) (h_kC1 : shX[kC + 1]? = some (.inl (0, 20))) (h_kC2 : shX[kC + 2]? = some (.inl (0, 20))) {kS : Nat} (h_kS : shX[kS]? = some (.inr (.inl (5, [some (kS + 1), none, none, none, none])))) (h_kS1 : shX[kS + 1]? = some (.inl (1, 60))) {r : Int32} : ∀ (n : Nat) (x2 : Int32) (x3 : Int32) (H : Heap) (locs : List Loc) (ls : Array Slot), f_X1_makes_7 σ kC kS n x2 x3 = some r → gI shX t ad D s.heap σ H locs → lv_has ls 4 [(0, .ref (ad kC)), (1, .ref (ad kS)), (2, .int x2), (3, .int x3)] → W p l e (gR 2 81) s m args below meth c H locs 0 0 (MQ below (gQi shX t ad D r σ) args s 0 0 (gA shX ad)) (F0 m 7 ls []) := by
  have hx := C.1
  have hb := C.2.1
  intro n
  induction n with
  | zero =>
    intro x2 x3 H locs ls  h
    exact absurd h (by simp [f_X1_makes_7])
  | succ n ih =>
    intro x2 x3 H locs ls  h hI hl
    unfold f_X1_makes_7 at h
    refine lv_iload_n hx hb dX1_makes_7 rfl (lv_at hl 3 rfl) ?_
    refine lv_iload_n hx hb dX1_makes_8 rfl (lv_at hl 2 rfl) ?_
    refine hicmp_ge (tgt := 88) C dX1_makes_9 (by decide) h (fun h => ?_) (fun h => ?_)
    · refine lv_iconst hx hb dX1_makes_88 ci_1 ?_
      exact h_zret_o C hr hI h dX1_makes_89
    · refine lv_iconst hx hb dX1_makes_12 ci_2 ?_
      refine lv_iload_n hx hb dX1_makes_13 rfl (lv_at hl 3 rfl) ?_
      refine lv_imul hx hb dX1_makes_14 ?_
      refine lv_iconst hx hb dX1_makes_15 ci_1 ?_
      refine lv_iadd hx hb dX1_makes_16 ?_
      refine lv_aload_n hx hb dX1_makes_17 rfl (lv_at hl 1 rfl) ?_
      refine fg_246 C hI h_kS rfl dX1_makes_18 ?_
      refine hicmp_ge (tgt := 42) C dX1_makes_21 (by decide) h (fun h => ?_) (fun h => ?_)
      · refine lv_iconst hx hb dX1_makes_42 ci_0 ?_
        exact h_zret_o C hr hI h dX1_makes_43
      · refine lv_aload_n hx hb dX1_makes_24 rfl (lv_at hl 0 rfl) ?_
        refine fg_119 C hI h_kC rfl dX1_makes_25 ?_
        refine hif_eq (tgt := 42) C dX1_makes_28 (by decide) h (fun h => ?_) (fun h => ?_)
        · refine lv_iconst hx hb dX1_makes_42 ci_0 ?_
          exact h_zret_o C hr hI h dX1_makes_43
        · refine lv_aload_n hx hb dX1_makes_31 rfl (lv_at hl 0 rfl) ?_
          refine lv_iload_n hx hb dX1_makes_32 rfl (lv_at hl 3 rfl) ?_
          refine h_callvi_o (rest := []) C hI hl.1 h_kC rfl yv_X1_minuteOf k_686 h (fun q hq => c_X1_minuteOf l D t ad z C.2.2.2.2.2.2.1 kC h_kC h_kC1 h_kC2 (σ) x3 q hq) (As := [.int x3]) rfl rfl ⟨Nat.le_of_ble_eq_true rfl, Nat.le_of_ble_eq_true rfl⟩ (Nat.le_of_ble_eq_true rfl) dX1_makes_33 (fun q1 H locs h hI => ?_)
          refine lv_sipush hx hb dX1_makes_36 cs_1999 ?_
          refine hicmp_le (tgt := 44) C dX1_makes_39 (by decide) h (fun h => ?_) (fun h => ?_)
          · refine lv_aload_n hx hb dX1_makes_44 rfl (lv_at hl 1 rfl) ?_
            refine lv_iconst hx hb dX1_makes_45 ci_2 ?_
            refine lv_iload_n hx hb dX1_makes_46 rfl (lv_at hl 3 rfl) ?_
            refine lv_imul hx hb dX1_makes_47 ?_
            refine h_callvl_o (rest := []) C hI hl.1 h_kS rfl yv_X5_cellAt k_530 h (fun q hq => c_X5_cellAt l D t ad z C.2.2.2.2.2.2.1 kS h_kS h_kS1 (σ) (2 * x3) q hq) (As := [.int (2 * x3)]) rfl rfl ⟨Nat.le_of_ble_eq_true rfl, Nat.le_of_ble_eq_true rfl⟩ (Nat.le_of_ble_eq_true rfl) dX1_makes_48 (fun q2 H locs h hI => ?_)
            refine lv_aload_n hx hb dX1_makes_51 rfl (lv_at hl 0 rfl) ?_
            refine lv_iload_n hx hb dX1_makes_52 rfl (lv_at hl 3 rfl) ?_
            refine h_callvi_o (rest := [.long q2]) C hI hl.1 h_kC rfl yv_X1_stopOf k_676 h (fun q hq => c_X1_stopOf l D t ad z C.2.2.2.2.2.2.1 kC h_kC h_kC1 h_kC2 (σ) x3 q hq) (As := [.int x3]) rfl rfl ⟨Nat.le_of_ble_eq_true rfl, Nat.le_of_ble_eq_true rfl⟩ (Nat.le_of_ble_eq_true rfl) dX1_makes_53 (fun q3 H locs h hI => ?_)
            refine lv_i2l (v := ((q3 : Int32).toInt64)) hx hb dX1_makes_56 rfl ?_
            refine W.lcmp hx hb dX1_makes_57 ?_
            refine hif_ne (tgt := 80) C dX1_makes_58 (by decide) h (fun h => ?_) (fun h => ?_)
            · refine lv_iconst hx hb dX1_makes_80 ci_0 ?_
              exact h_zret_o C hr hI h dX1_makes_81
            · refine lv_aload_n hx hb dX1_makes_61 rfl (lv_at hl 1 rfl) ?_
              refine lv_iconst hx hb dX1_makes_62 ci_2 ?_
              refine lv_iload_n hx hb dX1_makes_63 rfl (lv_at hl 3 rfl) ?_
              refine lv_imul hx hb dX1_makes_64 ?_
              refine lv_iconst hx hb dX1_makes_65 ci_1 ?_
              refine lv_iadd hx hb dX1_makes_66 ?_
              refine h_callvl_o (rest := []) C hI hl.1 h_kS rfl yv_X5_cellAt k_530 h (fun q hq => c_X5_cellAt l D t ad z C.2.2.2.2.2.2.1 kS h_kS h_kS1 (σ) ((2 * x3) + 1) q hq) (As := [.int ((2 * x3) + 1)]) rfl rfl ⟨Nat.le_of_ble_eq_true rfl, Nat.le_of_ble_eq_true rfl⟩ (Nat.le_of_ble_eq_true rfl) dX1_makes_67 (fun q4 H locs h hI => ?_)
              refine lv_aload_n hx hb dX1_makes_70 rfl (lv_at hl 0 rfl) ?_
              refine lv_iload_n hx hb dX1_makes_71 rfl (lv_at hl 3 rfl) ?_
              refine h_callvi_o (rest := [.long q4]) C hI hl.1 h_kC rfl yv_X1_minuteOf k_686 h (fun q hq => c_X1_minuteOf l D t ad z C.2.2.2.2.2.2.1 kC h_kC h_kC1 h_kC2 (σ) x3 q hq) (As := [.int x3]) rfl rfl ⟨Nat.le_of_ble_eq_true rfl, Nat.le_of_ble_eq_true rfl⟩ (Nat.le_of_ble_eq_true rfl) dX1_makes_72 (fun q5 H locs h hI => ?_)
              refine lv_i2l (v := ((q5 : Int32).toInt64)) hx hb dX1_makes_75 rfl ?_
              refine W.lcmp hx hb dX1_makes_76 ?_
              refine hif_eq (tgt := 82) C dX1_makes_77 (by decide) h (fun h => ?_) (fun h => ?_)
              · refine h_iinc C hl dX1_makes_82 3 rfl ci_1 h (by decide) (lvf := fun v6 => [(3, .int v6), (0, .ref (ad kC)), (1, .ref (ad kS)), (2, .int x2)]) (fun _ => rfl) (fun v6 ls h hl => ?_)
                refine lv_goto (tgt := 7) hx hb dX1_makes_85 (by decide) ?_
                exact ih _ _ _ _ _  h hI (lv_sub hl [1, 2, 3, 0] rfl)
              · refine lv_iconst hx hb dX1_makes_80 ci_0 ?_
                exact h_zret_o C hr hI h dX1_makes_81
          · refine lv_iconst hx hb dX1_makes_42 ci_0 ?_
            exact h_zret_o C hr hI h dX1_makes_43
set_option maxRecDepth 100000 in
set_option maxHeartbeats 4000000 in
theorem c_X1_makes (l : Launch) (D : va_G) (t : gT) (ad z : Nat → Nat) (hJ : gJ shX ad) (kC : Nat) (kS : Nat) (h_kC : shX[kC]? = some (.inr (.inl (1, [some 1, some (kC + 1), some (kC + 2), none, none, none])))) (h_kC1 : shX[kC + 1]? = some (.inl (0, 20))) (h_kC2 : shX[kC + 2]? = some (.inl (0, 20))) (h_kS : shX[kS]? = some (.inr (.inl (5, [some (kS + 1), none, none, none, none])))) (h_kS1 : shX[kS + 1]? = some (.inl (1, 60))) (σ : gS) (q : Int32) (h : f_X1_makes σ kC kS = some q) : Met l yX1_makes (Cond.code yX1_makes cX1_makes 4 (some .boolean) :: lw_tb) (gR 2 81) (gPc shX t ad D z [.ref (ad kC), .ref (ad kS)] σ) (gQi shX t ad D q σ) 0 0 (gA shX ad) := by
  refine gMet "NineKeysRound$Course" rfl (by decide) hJ (Nat.le_of_ble_eq_true rfl) ?_
  intro p e s m below meth c ls C hr hI hl
  have hx := C.1
  have hb := C.2.1
  have hl : lv_has ls 4 [(0, .ref (ad kC)), (1, .ref (ad kS))] := hl
  unfold f_X1_makes at h
  refine lv_aload_n hx hb dX1_makes_0 rfl (lv_at hl 1 rfl) ?_
  refine h_callvi_o (rest := []) C hI hl.1 h_kS rfl yv_X5_twos k_855 h (fun q hq => c_X5_twos l D t ad z C.2.2.2.2.2.2.1 kS h_kS h_kS1 (σ) q hq) (As := []) rfl rfl ⟨Nat.le_of_ble_eq_true rfl, Nat.le_of_ble_eq_true rfl⟩ (Nat.le_of_ble_eq_true rfl) dX1_makes_1 (fun q1 H locs h hI => ?_)
  refine lv_istore_n (lv' := [(2, .int q1), (0, .ref (ad kC)), (1, .ref (ad kS))]) hx hb dX1_makes_4 rfl hl (by decide) rfl (fun ls hl => ?_)
  refine lv_iconst hx hb dX1_makes_5 ci_0 ?_
  refine lv_istore_n (lv' := [(3, .int 0), (2, .int q1), (0, .ref (ad kC)), (1, .ref (ad kS))]) hx hb dX1_makes_6 rfl hl (by decide) rfl (fun ls hl => ?_)
  exact w_X1_makes_7 C hr  h_kC h_kC1 h_kC2 h_kS h_kS1  _ _ _ _ _ _  h hI (lv_sub hl [2, 3, 1, 0] rfl)
set_option maxRecDepth 100000 in
set_option maxHeartbeats 4000000 in
theorem c_X2_walkTo (l : Launch) (D : va_G) (t : gT) (ad z : Nat → Nat) (hJ : gJ shX ad) (kD : Nat) (h_kD : shX[kD]? = some (.inr (.inl (2, [some (kD + 1), none, none, none, none, none, none])))) (h_kD1 : shX[kD + 1]? = some (.inl (0, 9))) (σ : gS) (x1 : Int32) (x2 : Int32) (x3 : Int32) (q : Int32 × gS) (h : f_X2_walkTo σ kD x1 x2 x3 = some q) : Met l yX2_walkTo (Cond.code yX2_walkTo cX2_walkTo 4 (some .boolean) :: lw_tb) (gR 1 60) (gPc shX t ad D z [.ref (ad kD), .int x1, .int x2, .int x3] σ) (gQi shX t ad D q.1 q.2) 0 0 (gA shX ad) := by
  refine gMet "NineKeysRound$Deed" rfl (by decide) hJ (Nat.le_of_ble_eq_true rfl) ?_
  intro p e s m below meth c ls C hr hI hl
  have hx := C.1
  have hb := C.2.1
  have hl : lv_has ls 4 [(0, .ref (ad kD)), (1, .int x1), (2, .int x2), (3, .int x3)] := hl
  unfold f_X2_walkTo at h
  refine lv_iload_n hx hb dX2_walkTo_0 rfl (lv_at hl 1 rfl) ?_
  refine hif_lt (tgt := 24) C dX2_walkTo_1 (by decide) h (fun h => ?_) (fun h => ?_)
  · refine lv_iconst hx hb dX2_walkTo_24 ci_0 ?_
    exact h_zret_w C hr hI h dX2_walkTo_25
  · refine lv_iload_n hx hb dX2_walkTo_4 rfl (lv_at hl 1 rfl) ?_
    refine lv_bipush hx hb dX2_walkTo_5 cb_9 ?_
    refine hicmp_ge (tgt := 24) C dX2_walkTo_7 (by decide) h (fun h => ?_) (fun h => ?_)
    · refine lv_iconst hx hb dX2_walkTo_24 ci_0 ?_
      exact h_zret_w C hr hI h dX2_walkTo_25
    · refine lv_aload_n hx hb dX2_walkTo_10 rfl (lv_at hl 0 rfl) ?_
      refine fg_183 C hI h_kD rfl dX2_walkTo_11 ?_
      refine lv_iload_n hx hb dX2_walkTo_14 rfl (lv_at hl 2 rfl) ?_
      refine lv_iadd hx hb dX2_walkTo_15 ?_
      refine lv_iload_n hx hb dX2_walkTo_16 rfl (lv_at hl 3 rfl) ?_
      refine lv_iadd hx hb dX2_walkTo_17 ?_
      refine lv_sipush hx hb dX2_walkTo_18 cs_9999 ?_
      refine hicmp_le (tgt := 26) C dX2_walkTo_21 (by decide) h (fun h => ?_) (fun h => ?_)
      · refine lv_aload_n hx hb dX2_walkTo_26 rfl (lv_at hl 0 rfl) ?_
        refine lv_iload_n hx hb dX2_walkTo_27 rfl (lv_at hl 1 rfl) ?_
        refine fp_181 C hI h_kD rfl dX2_walkTo_28 (fun H locs hI => ?_)
        refine gx_st h hI (fun s1 h hI => ?_)
        refine lv_aload_n hx hb dX2_walkTo_31 rfl (lv_at hl 0 rfl) ?_
        refine lv_dup hx hb dX2_walkTo_32 rfl ?_
        refine fg_183 C hI h_kD rfl dX2_walkTo_33 ?_
        refine lv_iload_n hx hb dX2_walkTo_36 rfl (lv_at hl 2 rfl) ?_
        refine lv_iload_n hx hb dX2_walkTo_37 rfl (lv_at hl 3 rfl) ?_
        refine lv_iadd hx hb dX2_walkTo_38 ?_
        refine lv_iadd hx hb dX2_walkTo_39 ?_
        refine fp_183 C hI h_kD rfl dX2_walkTo_40 (fun H locs hI => ?_)
        refine gx_st h hI (fun s2 h hI => ?_)
        refine lv_aload_n hx hb dX2_walkTo_43 rfl (lv_at hl 0 rfl) ?_
        refine lv_dup hx hb dX2_walkTo_44 rfl ?_
        refine fg_185 C hI h_kD rfl dX2_walkTo_45 ?_
        refine lv_iload_n hx hb dX2_walkTo_48 rfl (lv_at hl 2 rfl) ?_
        refine lv_iadd hx hb dX2_walkTo_49 ?_
        refine fp_185 C hI h_kD rfl dX2_walkTo_50 (fun H locs hI => ?_)
        refine gx_st h hI (fun s3 h hI => ?_)
        refine lv_aload_n hx hb dX2_walkTo_53 rfl (lv_at hl 0 rfl) ?_
        refine lv_dup hx hb dX2_walkTo_54 rfl ?_
        refine fg_189 C hI h_kD rfl dX2_walkTo_55 ?_
        refine lv_iload_n hx hb dX2_walkTo_58 rfl (lv_at hl 3 rfl) ?_
        refine lv_iadd hx hb dX2_walkTo_59 ?_
        refine fp_189 C hI h_kD rfl dX2_walkTo_60 (fun H locs hI => ?_)
        refine gx_st h hI (fun s4 h hI => ?_)
        refine lv_aload_n hx hb dX2_walkTo_63 rfl (lv_at hl 0 rfl) ?_
        refine lv_dup hx hb dX2_walkTo_64 rfl ?_
        refine fg_187 C hI h_kD rfl dX2_walkTo_65 ?_
        refine lv_iconst hx hb dX2_walkTo_68 ci_1 ?_
        refine lv_iadd hx hb dX2_walkTo_69 ?_
        refine fp_187 C hI h_kD rfl dX2_walkTo_70 (fun H locs hI => ?_)
        refine gx_st h hI (fun s5 h hI => ?_)
        refine lv_aload_n hx hb dX2_walkTo_73 rfl (lv_at hl 0 rfl) ?_
        refine fr_179 C hI h_kD rfl dX2_walkTo_74 ?_
        refine lv_iload_n hx hb dX2_walkTo_77 rfl (lv_at hl 1 rfl) ?_
        refine lv_dup2_11 hx hb dX2_walkTo_78 rfl rfl ?_
        refine gx_iald C hI h_kD1 h dX2_walkTo_79 (fun h => ?_)
        refine lv_iconst hx hb dX2_walkTo_80 ci_1 ?_
        refine lv_iadd hx hb dX2_walkTo_81 ?_
        refine gx_iast C hI h_kD1 h dX2_walkTo_82 (fun H locs h hI => ?_)
        refine gx_st h hI (fun s6 h hI => ?_)
        refine lv_iconst hx hb dX2_walkTo_83 ci_1 ?_
        exact h_zret_w C hr hI h dX2_walkTo_84
      · refine lv_iconst hx hb dX2_walkTo_24 ci_0 ?_
        exact h_zret_w C hr hI h dX2_walkTo_25
set_option maxRecDepth 100000 in
set_option maxHeartbeats 4000000 in
theorem c_X2_waitFor (l : Launch) (D : va_G) (t : gT) (ad z : Nat → Nat) (hJ : gJ shX ad) (kD : Nat) (h_kD : shX[kD]? = some (.inr (.inl (2, [some (kD + 1), none, none, none, none, none, none])))) (h_kD1 : shX[kD + 1]? = some (.inl (0, 9))) (σ : gS) (x1 : Int32) (q : Int32 × gS) (h : f_X2_waitFor σ kD x1 = some q) : Met l yX2_waitFor (Cond.code yX2_waitFor cX2_waitFor 2 (some .boolean) :: lw_tb) (gR 1 60) (gPc shX t ad D z [.ref (ad kD), .int x1] σ) (gQi shX t ad D q.1 q.2) 0 0 (gA shX ad) := by
  refine gMet "NineKeysRound$Deed" rfl (by decide) hJ (Nat.le_of_ble_eq_true rfl) ?_
  intro p e s m below meth c ls C hr hI hl
  have hx := C.1
  have hb := C.2.1
  have hl : lv_has ls 2 [(0, .ref (ad kD)), (1, .int x1)] := hl
  unfold f_X2_waitFor at h
  refine lv_aload_n hx hb dX2_waitFor_0 rfl (lv_at hl 0 rfl) ?_
  refine fg_183 C hI h_kD rfl dX2_waitFor_1 ?_
  refine lv_iload_n hx hb dX2_waitFor_4 rfl (lv_at hl 1 rfl) ?_
  refine lv_iadd hx hb dX2_waitFor_5 ?_
  refine lv_sipush hx hb dX2_waitFor_6 cs_9999 ?_
  refine hicmp_le (tgt := 14) C dX2_waitFor_9 (by decide) h (fun h => ?_) (fun h => ?_)
  · refine lv_aload_n hx hb dX2_waitFor_14 rfl (lv_at hl 0 rfl) ?_
    refine lv_dup hx hb dX2_waitFor_15 rfl ?_
    refine fg_183 C hI h_kD rfl dX2_waitFor_16 ?_
    refine lv_iload_n hx hb dX2_waitFor_19 rfl (lv_at hl 1 rfl) ?_
    refine lv_iadd hx hb dX2_waitFor_20 ?_
    refine fp_183 C hI h_kD rfl dX2_waitFor_21 (fun H locs hI => ?_)
    refine gx_st h hI (fun s1 h hI => ?_)
    refine lv_aload_n hx hb dX2_waitFor_24 rfl (lv_at hl 0 rfl) ?_
    refine lv_dup hx hb dX2_waitFor_25 rfl ?_
    refine fg_191 C hI h_kD rfl dX2_waitFor_26 ?_
    refine lv_iload_n hx hb dX2_waitFor_29 rfl (lv_at hl 1 rfl) ?_
    refine lv_iadd hx hb dX2_waitFor_30 ?_
    refine fp_191 C hI h_kD rfl dX2_waitFor_31 (fun H locs hI => ?_)
    refine gx_st h hI (fun s2 h hI => ?_)
    refine lv_iconst hx hb dX2_waitFor_34 ci_1 ?_
    exact h_zret_w C hr hI h dX2_waitFor_35
  · refine lv_iconst hx hb dX2_waitFor_12 ci_0 ?_
    exact h_zret_w C hr hI h dX2_waitFor_13
set_option maxRecDepth 100000 in
set_option maxHeartbeats 4000000 in
theorem c_X2_goHome (l : Launch) (D : va_G) (t : gT) (ad z : Nat → Nat) (hJ : gJ shX ad) (kD : Nat) (h_kD : shX[kD]? = some (.inr (.inl (2, [some (kD + 1), none, none, none, none, none, none])))) (h_kD1 : shX[kD + 1]? = some (.inl (0, 9))) (σ : gS) (x1 : Int32) (q : Int32 × gS) (h : f_X2_goHome σ kD x1 = some q) : Met l yX2_goHome (Cond.code yX2_goHome cX2_goHome 2 (some .boolean) :: lw_tb) (gR 1 60) (gPc shX t ad D z [.ref (ad kD), .int x1] σ) (gQi shX t ad D q.1 q.2) 0 0 (gA shX ad) := by
  refine gMet "NineKeysRound$Deed" rfl (by decide) hJ (Nat.le_of_ble_eq_true rfl) ?_
  intro p e s m below meth c ls C hr hI hl
  have hx := C.1
  have hb := C.2.1
  have hl : lv_has ls 2 [(0, .ref (ad kD)), (1, .int x1)] := hl
  unfold f_X2_goHome at h
  refine lv_aload_n hx hb dX2_goHome_0 rfl (lv_at hl 0 rfl) ?_
  refine fg_183 C hI h_kD rfl dX2_goHome_1 ?_
  refine lv_iload_n hx hb dX2_goHome_4 rfl (lv_at hl 1 rfl) ?_
  refine lv_iadd hx hb dX2_goHome_5 ?_
  refine lv_sipush hx hb dX2_goHome_6 cs_9999 ?_
  refine hicmp_le (tgt := 14) C dX2_goHome_9 (by decide) h (fun h => ?_) (fun h => ?_)
  · refine lv_aload_n hx hb dX2_goHome_14 rfl (lv_at hl 0 rfl) ?_
    refine lv_bipush hx hb dX2_goHome_15 cb_9 ?_
    refine fp_181 C hI h_kD rfl dX2_goHome_17 (fun H locs hI => ?_)
    refine gx_st h hI (fun s1 h hI => ?_)
    refine lv_aload_n hx hb dX2_goHome_20 rfl (lv_at hl 0 rfl) ?_
    refine lv_dup hx hb dX2_goHome_21 rfl ?_
    refine fg_183 C hI h_kD rfl dX2_goHome_22 ?_
    refine lv_iload_n hx hb dX2_goHome_25 rfl (lv_at hl 1 rfl) ?_
    refine lv_iadd hx hb dX2_goHome_26 ?_
    refine fp_183 C hI h_kD rfl dX2_goHome_27 (fun H locs hI => ?_)
    refine gx_st h hI (fun s2 h hI => ?_)
    refine lv_aload_n hx hb dX2_goHome_30 rfl (lv_at hl 0 rfl) ?_
    refine lv_dup hx hb dX2_goHome_31 rfl ?_
    refine fg_185 C hI h_kD rfl dX2_goHome_32 ?_
    refine lv_iload_n hx hb dX2_goHome_35 rfl (lv_at hl 1 rfl) ?_
    refine lv_iadd hx hb dX2_goHome_36 ?_
    refine fp_185 C hI h_kD rfl dX2_goHome_37 (fun H locs hI => ?_)
    refine gx_st h hI (fun s3 h hI => ?_)
    refine lv_iconst hx hb dX2_goHome_40 ci_1 ?_
    exact h_zret_w C hr hI h dX2_goHome_41
  · refine lv_iconst hx hb dX2_goHome_12 ci_0 ?_
    exact h_zret_w C hr hI h dX2_goHome_13
set_option maxRecDepth 100000 in
set_option maxHeartbeats 4000000 in
theorem c_X2_become (l : Launch) (D : va_G) (t : gT) (ad z : Nat → Nat) (hJ : gJ shX ad) (kD : Nat) (kE : Nat) (h_kD : shX[kD]? = some (.inr (.inl (2, [some (kD + 1), none, none, none, none, none, none])))) (h_kD1 : shX[kD + 1]? = some (.inl (0, 9))) (h_kE : shX[kE]? = some (.inr (.inl (2, [some (kE + 1), none, none, none, none, none, none])))) (h_kE1 : shX[kE + 1]? = some (.inl (0, 9))) (σ : gS) (q : gS) (h : f_X2_become σ kD kE = some q) : Met l yX2_become (Cond.code yX2_become cX2_become 2 (none) :: lw_tb) (gR 1 60) (gPc shX t ad D z [.ref (ad kD), .ref (ad kE)] σ) (gQv shX t ad D q) 0 0 (gA shX ad) := by
  refine gMet "NineKeysRound$Deed" rfl (by decide) hJ (Nat.le_of_ble_eq_true rfl) ?_
  intro p e s m below meth c ls C hr hI hl
  have hx := C.1
  have hb := C.2.1
  have hl : lv_has ls 2 [(0, .ref (ad kD)), (1, .ref (ad kE))] := hl
  unfold f_X2_become at h
  refine lv_aload_n hx hb dX2_become_0 rfl (lv_at hl 1 rfl) ?_
  refine fr_179 C hI h_kE rfl dX2_become_1 ?_
  refine lv_iconst hx hb dX2_become_4 ci_0 ?_
  refine lv_aload_n hx hb dX2_become_5 rfl (lv_at hl 0 rfl) ?_
  refine fr_179 C hI h_kD rfl dX2_become_6 ?_
  refine lv_iconst hx hb dX2_become_9 ci_0 ?_
  refine lv_bipush hx hb dX2_become_10 cb_9 ?_
  refine h_copyi C hI hl.1 k_926 h_kE1 h_kD1 h ⟨Nat.le_of_ble_eq_true rfl, Nat.le_of_ble_eq_true rfl⟩ dX2_become_12 (fun H locs h hI => ?_)
  refine gx_st h hI (fun s1 h hI => ?_)
  refine lv_aload_n hx hb dX2_become_15 rfl (lv_at hl 0 rfl) ?_
  refine lv_aload_n hx hb dX2_become_16 rfl (lv_at hl 1 rfl) ?_
  refine fg_181 C hI h_kE rfl dX2_become_17 ?_
  refine fp_181 C hI h_kD rfl dX2_become_20 (fun H locs hI => ?_)
  refine gx_st h hI (fun s2 h hI => ?_)
  refine lv_aload_n hx hb dX2_become_23 rfl (lv_at hl 0 rfl) ?_
  refine lv_aload_n hx hb dX2_become_24 rfl (lv_at hl 1 rfl) ?_
  refine fg_183 C hI h_kE rfl dX2_become_25 ?_
  refine fp_183 C hI h_kD rfl dX2_become_28 (fun H locs hI => ?_)
  refine gx_st h hI (fun s3 h hI => ?_)
  refine lv_aload_n hx hb dX2_become_31 rfl (lv_at hl 0 rfl) ?_
  refine lv_aload_n hx hb dX2_become_32 rfl (lv_at hl 1 rfl) ?_
  refine fg_185 C hI h_kE rfl dX2_become_33 ?_
  refine fp_185 C hI h_kD rfl dX2_become_36 (fun H locs hI => ?_)
  refine gx_st h hI (fun s4 h hI => ?_)
  refine lv_aload_n hx hb dX2_become_39 rfl (lv_at hl 0 rfl) ?_
  refine lv_aload_n hx hb dX2_become_40 rfl (lv_at hl 1 rfl) ?_
  refine fg_187 C hI h_kE rfl dX2_become_41 ?_
  refine fp_187 C hI h_kD rfl dX2_become_44 (fun H locs hI => ?_)
  refine gx_st h hI (fun s5 h hI => ?_)
  refine lv_aload_n hx hb dX2_become_47 rfl (lv_at hl 0 rfl) ?_
  refine lv_aload_n hx hb dX2_become_48 rfl (lv_at hl 1 rfl) ?_
  refine fg_189 C hI h_kE rfl dX2_become_49 ?_
  refine fp_189 C hI h_kD rfl dX2_become_52 (fun H locs hI => ?_)
  refine gx_st h hI (fun s6 h hI => ?_)
  refine lv_aload_n hx hb dX2_become_55 rfl (lv_at hl 0 rfl) ?_
  refine lv_aload_n hx hb dX2_become_56 rfl (lv_at hl 1 rfl) ?_
  refine fg_191 C hI h_kE rfl dX2_become_57 ?_
  refine fp_191 C hI h_kD rfl dX2_become_60 (fun H locs hI => ?_)
  refine gx_st h hI (fun s7 h hI => ?_)
  exact h_vret_w C hr hI h dX2_become_63
set_option maxRecDepth 100000 in
set_option maxHeartbeats 4000000 in
theorem c_X3_isKind (l : Launch) (D : va_G) (t : gT) (ad z : Nat → Nat) (hJ : gJ shX ad) (σ : gS) (x0 : Int32) (q : Int32) (h : f_X3_isKind σ x0 = some q) : Met l yX3_isKind (Cond.code yX3_isKind cX3_isKind 1 (some .boolean) :: lw_tb) (gR 1 60) (gPc shX t ad D z [.int x0] σ) (gQi shX t ad D q σ) 0 0 (gA shX ad) := by
  refine gMet "NineKeysRound$Keys" rfl (by decide) hJ (Nat.le_of_ble_eq_true rfl) ?_
  intro p e s m below meth c ls C hr hI hl
  have hx := C.1
  have hb := C.2.1
  have hl : lv_has ls 1 [(0, .int x0)] := hl
  unfold f_X3_isKind at h
  refine lv_iload_n hx hb dX3_isKind_0 rfl (lv_at hl 0 rfl) ?_
  refine hif_lt (tgt := 14) C dX3_isKind_1 (by decide) h (fun h => ?_) (fun h => ?_)
  · refine lv_iconst hx hb dX3_isKind_14 ci_0 ?_
    exact h_zret_o C hr hI h dX3_isKind_15
  · refine lv_iload_n hx hb dX3_isKind_4 rfl (lv_at hl 0 rfl) ?_
    refine lv_bipush hx hb dX3_isKind_5 cb_8 ?_
    refine hicmp_ge (tgt := 14) C dX3_isKind_7 (by decide) h (fun h => ?_) (fun h => ?_)
    · refine lv_iconst hx hb dX3_isKind_14 ci_0 ?_
      exact h_zret_o C hr hI h dX3_isKind_15
    · refine lv_iconst hx hb dX3_isKind_10 ci_1 ?_
      refine lv_goto (tgt := 15) hx hb dX3_isKind_11 (by decide) ?_
      exact h_zret_o C hr hI h dX3_isKind_15
set_option maxRecDepth 100000 in
set_option maxHeartbeats 4000000 in
theorem w_X3_isUnder_4 {p : Program} {l : Launch} {e : Env} {s : State} {m : MethodId} {args : Array Value} {below : List Frame} {meth : Method} {c : Code} {D : va_G} {t : gT} {ad z : Nat → Nat} {σ : gS} (C : gC p s m args meth c cX3_isUnder 4 "NineKeysRound$Keys" D t shX ad z) (hr : meth.sig.returnType = some .boolean) {r : Int32} : ∀ (n : Nat) (x1 : Int32) (x2 : Int32) (x3 : Int32) (H : Heap) (locs : List Loc) (ls : Array Slot), f_X3_isUnder_4 σ n x1 x2 x3 = some r → gI shX t ad D s.heap σ H locs → lv_has ls 4 [(1, .int x1), (2, .int x2), (3, .int x3)] → W p l e (gR 2 80) s m args below meth c H locs 0 0 (MQ below (gQi shX t ad D r σ) args s 0 0 (gA shX ad)) (F0 m 4 ls []) := by
  have hx := C.1
  have hb := C.2.1
  intro n
  induction n with
  | zero =>
    intro x1 x2 x3 H locs ls  h
    exact absurd h (by simp [f_X3_isUnder_4])
  | succ n ih =>
    intro x1 x2 x3 H locs ls  h hI hl
    unfold f_X3_isUnder_4 at h
    refine lv_iload_n hx hb dX3_isUnder_4 rfl (lv_at hl 2 rfl) ?_
    refine lv_bipush hx hb dX3_isUnder_5 cb_8 ?_
    refine hicmp_ge (tgt := 36) C dX3_isUnder_7 (by decide) h (fun h => ?_) (fun h => ?_)
    · refine lv_iconst hx hb dX3_isUnder_36 ci_0 ?_
      exact h_zret_o C hr hI h dX3_isUnder_37
    · refine lv_iload_n hx hb dX3_isUnder_10 rfl (lv_at hl 1 rfl) ?_
      refine h_callsi_o (rest := []) C hI hl.1 ys_X3_isKind k_977 h (fun q hq => c_X3_isKind l D t ad z C.2.2.2.2.2.2.1 (σ) x2 q hq) (As := [.int x2]) rfl rfl ⟨Nat.le_of_ble_eq_true rfl, Nat.le_of_ble_eq_true rfl⟩ (Nat.le_of_ble_eq_true rfl) dX3_isUnder_11 (fun q1 H locs h hI => ?_)
      refine hif_eq (tgt := 36) C dX3_isUnder_14 (by decide) h (fun h => ?_) (fun h => ?_)
      · refine lv_iconst hx hb dX3_isUnder_36 ci_0 ?_
        exact h_zret_o C hr hI h dX3_isUnder_37
      · refine lv_iload_n hx hb dX3_isUnder_17 rfl (lv_at hl 1 rfl) ?_
        refine lv_iload_n hx hb dX3_isUnder_18 rfl (lv_at hl 0 rfl) ?_
        refine hicmp_ne (tgt := 24) C dX3_isUnder_19 (by decide) h (fun h => ?_) (fun h => ?_)
        · refine gx_gets C hI (i := 2) rfl k_980 dX3_isUnder_24 ?_
          refine lv_iload_n hx hb dX3_isUnder_27 rfl (lv_at hl 1 rfl) ?_
          refine gx_ti C hI 2 rfl h dX3_isUnder_28 (fun h => ?_)
          refine gx_topi h (fun v2 h => ?_)
          refine lv_istore_n (lv' := [(2, .int v2), (1, .int x1), (3, .int x3)]) hx hb dX3_isUnder_29 rfl hl (by decide) rfl (fun ls hl => ?_)
          refine h_iinc C hl dX3_isUnder_30 2 rfl ci_1 h (by decide) (lvf := fun v3 => [(3, .int v3), (2, .int v2), (1, .int x1)]) (fun _ => rfl) (fun v3 ls h hl => ?_)
          refine lv_goto (tgt := 4) hx hb dX3_isUnder_33 (by decide) ?_
          exact ih _ _ _ _ _ _  h hI (lv_sub hl [2, 1, 0] rfl)
        · refine lv_iconst hx hb dX3_isUnder_22 ci_1 ?_
          exact h_zret_o C hr hI h dX3_isUnder_23
set_option maxRecDepth 100000 in
set_option maxHeartbeats 4000000 in
theorem c_X3_isUnder (l : Launch) (D : va_G) (t : gT) (ad z : Nat → Nat) (hJ : gJ shX ad) (σ : gS) (x0 : Int32) (x1 : Int32) (q : Int32) (h : f_X3_isUnder σ x0 x1 = some q) : Met l yX3_isUnder (Cond.code yX3_isUnder cX3_isUnder 4 (some .boolean) :: lw_tb) (gR 2 80) (gPc shX t ad D z [.int x0, .int x1] σ) (gQi shX t ad D q σ) 0 0 (gA shX ad) := by
  refine gMet "NineKeysRound$Keys" rfl (by decide) hJ (Nat.le_of_ble_eq_true rfl) ?_
  intro p e s m below meth c ls C hr hI hl
  have hx := C.1
  have hb := C.2.1
  have hl : lv_has ls 4 [(0, .int x0), (1, .int x1)] := hl
  unfold f_X3_isUnder at h
  refine lv_iload_n hx hb dX3_isUnder_0 rfl (lv_at hl 0 rfl) ?_
  refine lv_istore_n (lv' := [(2, .int x0), (0, .int x0), (1, .int x1)]) hx hb dX3_isUnder_1 rfl hl (by decide) rfl (fun ls hl => ?_)
  refine lv_iconst hx hb dX3_isUnder_2 ci_0 ?_
  refine lv_istore_n (lv' := [(3, .int 0), (2, .int x0), (0, .int x0), (1, .int x1)]) hx hb dX3_isUnder_3 rfl hl (by decide) rfl (fun ls hl => ?_)
  exact w_X3_isUnder_4 C hr    _ _ _ _ _ _ _  h hI (lv_sub hl [3, 1, 0] rfl)
set_option maxRecDepth 100000 in
set_option maxHeartbeats 4000000 in
theorem c_X3_isKey (l : Launch) (D : va_G) (t : gT) (ad z : Nat → Nat) (hJ : gJ shX ad) (σ : gS) (x1 : Int32) (q : Int32) (h : f_X3_isKey σ x1 = some q) : Met l yX3_isKey (Cond.code yX3_isKey cX3_isKey 2 (some .boolean) :: lw_tb) (gR 1 60) (gPc shX t ad D z [.ref (ad 41), .int x1] σ) (gQi shX t ad D q σ) 0 0 (gA shX ad) := by
  refine gMet "NineKeysRound$Keys" rfl (by decide) hJ (Nat.le_of_ble_eq_true rfl) ?_
  intro p e s m below meth c ls C hr hI hl
  have hx := C.1
  have hb := C.2.1
  have hl : lv_has ls 2 [(0, .ref (ad 41)), (1, .int x1)] := hl
  unfold f_X3_isKey at h
  refine lv_iload_n hx hb dX3_isKey_0 rfl (lv_at hl 1 rfl) ?_
  refine hif_lt (tgt := 16) C dX3_isKey_1 (by decide) h (fun h => ?_) (fun h => ?_)
  · refine lv_iconst hx hb dX3_isKey_16 ci_0 ?_
    exact h_zret_o C hr hI h dX3_isKey_17
  · refine lv_iload_n hx hb dX3_isKey_4 rfl (lv_at hl 1 rfl) ?_
    refine lv_aload_n hx hb dX3_isKey_5 rfl (lv_at hl 0 rfl) ?_
    refine fg_217 C hI shX_41 rfl dX3_isKey_6 ?_
    refine hicmp_ge (tgt := 16) C dX3_isKey_9 (by decide) h (fun h => ?_) (fun h => ?_)
    · refine lv_iconst hx hb dX3_isKey_16 ci_0 ?_
      exact h_zret_o C hr hI h dX3_isKey_17
    · refine lv_iconst hx hb dX3_isKey_12 ci_1 ?_
      refine lv_goto (tgt := 17) hx hb dX3_isKey_13 (by decide) ?_
      exact h_zret_o C hr hI h dX3_isKey_17
set_option maxRecDepth 100000 in
set_option maxHeartbeats 4000000 in
theorem c_X3_kindOf (l : Launch) (D : va_G) (t : gT) (ad z : Nat → Nat) (hJ : gJ shX ad) (σ : gS) (x1 : Int32) (q : Int32) (h : f_X3_kindOf σ x1 = some q) : Met l yX3_kindOf (Cond.code yX3_kindOf cX3_kindOf 2 (some .int) :: lw_tb) (gR 2 81) (gPc shX t ad D z [.ref (ad 41), .int x1] σ) (gQi shX t ad D q σ) 0 0 (gA shX ad) := by
  refine gMet "NineKeysRound$Keys" rfl (by decide) hJ (Nat.le_of_ble_eq_true rfl) ?_
  intro p e s m below meth c ls C hr hI hl
  have hx := C.1
  have hb := C.2.1
  have hl : lv_has ls 2 [(0, .ref (ad 41)), (1, .int x1)] := hl
  unfold f_X3_kindOf at h
  refine lv_aload_n hx hb dX3_kindOf_0 rfl (lv_at hl 0 rfl) ?_
  refine lv_iload_n hx hb dX3_kindOf_1 rfl (lv_at hl 1 rfl) ?_
  refine h_callvi_o (rest := []) C hI hl.1 shX_41 rfl yv_X3_isKey k_969 h (fun q hq => c_X3_isKey l D t ad z C.2.2.2.2.2.2.1 (σ) x1 q hq) (As := [.int x1]) rfl rfl ⟨Nat.le_of_ble_eq_true rfl, Nat.le_of_ble_eq_true rfl⟩ (Nat.le_of_ble_eq_true rfl) dX3_kindOf_2 (fun q1 H locs h hI => ?_)
  refine hif_eq (tgt := 17) C dX3_kindOf_5 (by decide) h (fun h => ?_) (fun h => ?_)
  · refine lv_iconst hx hb dX3_kindOf_17 ci_m1 ?_
    exact h_iret_o C hr hI h dX3_kindOf_18
  · refine lv_aload_n hx hb dX3_kindOf_8 rfl (lv_at hl 0 rfl) ?_
    refine fr_214 C hI shX_41 rfl dX3_kindOf_9 ?_
    refine lv_iload_n hx hb dX3_kindOf_12 rfl (lv_at hl 1 rfl) ?_
    refine gx_iald C hI shX_42 h dX3_kindOf_13 (fun h => ?_)
    refine lv_goto (tgt := 18) hx hb dX3_kindOf_14 (by decide) ?_
    exact h_iret_o C hr hI h dX3_kindOf_18
set_option maxRecDepth 100000 in
set_option maxHeartbeats 4000000 in
theorem c_X3_add (l : Launch) (D : va_G) (t : gT) (ad z : Nat → Nat) (hJ : gJ shX ad) (σ : gS) (x1 : Int32) (q : Int32 × gS) (h : f_X3_add σ x1 = some q) : Met l yX3_add (Cond.code yX3_add cX3_add 2 (some .int) :: lw_tb) (gR 1 60) (gPc shX t ad D z [.ref (ad 41), .int x1] σ) (gQi shX t ad D q.1 q.2) 0 0 (gA shX ad) := by
  refine gMet "NineKeysRound$Keys" rfl (by decide) hJ (Nat.le_of_ble_eq_true rfl) ?_
  intro p e s m below meth c ls C hr hI hl
  have hx := C.1
  have hb := C.2.1
  have hl : lv_has ls 2 [(0, .ref (ad 41)), (1, .int x1)] := hl
  unfold f_X3_add at h
  refine lv_aload_n hx hb dX3_add_0 rfl (lv_at hl 0 rfl) ?_
  refine fg_217 C hI shX_41 rfl dX3_add_1 ?_
  refine lv_bipush hx hb dX3_add_4 cb_50 ?_
  refine hicmp_lt (tgt := 12) C dX3_add_6 (by decide) h (fun h => ?_) (fun h => ?_)
  · refine lv_aload_n hx hb dX3_add_12 rfl (lv_at hl 0 rfl) ?_
    refine fr_214 C hI shX_41 rfl dX3_add_13 ?_
    refine lv_aload_n hx hb dX3_add_16 rfl (lv_at hl 0 rfl) ?_
    refine fg_217 C hI shX_41 rfl dX3_add_17 ?_
    refine lv_iload_n hx hb dX3_add_20 rfl (lv_at hl 1 rfl) ?_
    refine gx_iast C hI shX_42 h dX3_add_21 (fun H locs h hI => ?_)
    refine gx_st h hI (fun s1 h hI => ?_)
    refine lv_aload_n hx hb dX3_add_22 rfl (lv_at hl 0 rfl) ?_
    refine lv_dup hx hb dX3_add_23 rfl ?_
    refine fg_217 C hI shX_41 rfl dX3_add_24 ?_
    refine gx_topi h (fun v2 h => ?_)
    refine lv_dup_x1 hx hb dX3_add_27 rfl rfl ?_
    refine lv_iconst hx hb dX3_add_28 ci_1 ?_
    refine lv_iadd hx hb dX3_add_29 ?_
    refine fp_217 C hI shX_41 rfl dX3_add_30 (fun H locs hI => ?_)
    refine gx_st h hI (fun s3 h hI => ?_)
    exact h_iret_w C hr hI h dX3_add_33
  · refine lv_bipush hx hb dX3_add_9 cb_m3 ?_
    exact h_iret_w C hr hI h dX3_add_11
set_option maxRecDepth 100000 in
set_option maxHeartbeats 4000000 in
theorem c_X3_traced (l : Launch) (D : va_G) (t : gT) (ad z : Nat → Nat) (hJ : gJ shX ad) (σ : gS) (q : Int32) (h : f_X3_traced σ = some q) : Met l yX3_traced (Cond.code yX3_traced cX3_traced 1 (some .int) :: lw_tb) (gR 1 60) (gPc shX t ad D z [.ref (ad 41)] σ) (gQi shX t ad D q σ) 0 0 (gA shX ad) := by
  refine gMet "NineKeysRound$Keys" rfl (by decide) hJ (Nat.le_of_ble_eq_true rfl) ?_
  intro p e s m below meth c ls C hr hI hl
  have hx := C.1
  have hb := C.2.1
  have hl : lv_has ls 1 [(0, .ref (ad 41))] := hl
  unfold f_X3_traced at h
  refine lv_aload_n hx hb dX3_traced_0 rfl (lv_at hl 0 rfl) ?_
  refine fg_219 C hI shX_41 rfl dX3_traced_1 ?_
  refine lv_bipush hx hb dX3_traced_4 cb_24 ?_
  refine h_mmin C hl.1 k_998 ⟨Nat.le_of_ble_eq_true rfl, Nat.le_of_ble_eq_true rfl⟩ ⟨Nat.zero_le _, Nat.zero_le _⟩ dX3_traced_6 ?_
  exact h_iret_o C hr hI h dX3_traced_9
set_option maxRecDepth 100000 in
set_option maxHeartbeats 4000000 in
theorem cr_X3_runBody (l : Launch) (D : va_G) (t : gT) (ad z : Nat → Nat) (hJ : gJ shX ad) {R_X3_runBody : gS → Int32 → Int32 → Int32 → Int32 → Option (Int32 × gS)} {R_X3_runFrom : gS → Int32 → Int32 → Int32 → Int32 → Option (Int32 × gS)} {fr lo : Nat} (hfr : 3 ≤ fr) (hlo : 102 ≤ lo) (hR_X3_runBody : ∀ (σ : gS) (x1 : Int32) (x2 : Int32) (x3 : Int32) (x4 : Int32) (q : Int32 × gS), R_X3_runBody σ x1 x2 x3 x4 = some q → Met l yX3_runBody (Cond.code yX3_runBody cX3_runBody 6 (some .int) :: lw_tb) (gR fr lo) (gPc shX t ad D z [.ref (ad 41), .int x1, .int x2, .int x3, .int x4] σ) (gQi shX t ad D q.1 q.2) 0 0 (gA shX ad)) (hR_X3_runFrom : ∀ (σ : gS) (x1 : Int32) (x2 : Int32) (x3 : Int32) (x4 : Int32) (q : Int32 × gS), R_X3_runFrom σ x1 x2 x3 x4 = some q → Met l yX3_runFrom (Cond.code yX3_runFrom cX3_runFrom 7 (some .int) :: lw_tb) (gR fr lo) (gPc shX t ad D z [.ref (ad 41), .int x1, .int x2, .int x3, .int x4] σ) (gQi shX t ad D q.1 q.2) 0 0 (gA shX ad)) (σ : gS) (x1 : Int32) (x2 : Int32) (x3 : Int32) (x4 : Int32) (q : Int32 × gS) (h : F_X3_runBody R_X3_runBody R_X3_runFrom σ x1 x2 x3 x4 = some q) : Met l yX3_runBody (Cond.code yX3_runBody cX3_runBody 6 (some .int) :: lw_tb) (gR (fr + 1) (lo + 26)) (gPc shX t ad D z [.ref (ad 41), .int x1, .int x2, .int x3, .int x4] σ) (gQi shX t ad D q.1 q.2) 0 0 (gA shX ad) := by
  refine gMet "NineKeysRound$Keys" rfl (by decide) hJ (Nat.le_of_ble_eq_true rfl) ?_
  intro p e s m below meth c ls C hr hI hl
  have hx := C.1
  have hb := C.2.1
  have hl : lv_has ls 6 [(0, .ref (ad 41)), (1, .int x1), (2, .int x2), (3, .int x3), (4, .int x4)] := hl
  unfold F_X3_runBody at h
  refine lv_aload_n hx hb dX3_runBody_0 rfl (lv_at hl 0 rfl) ?_
  refine lv_aload_n hx hb dX3_runBody_1 rfl (lv_at hl 0 rfl) ?_
  refine fg_221 C hI shX_41 rfl dX3_runBody_2 ?_
  refine h_callvi_o (rest := []) C hI hl.1 shX_41 rfl yv_X3_kindOf k_986 h (fun q hq => c_X3_kindOf l D t ad z C.2.2.2.2.2.2.1 (σ) (σ.1 41 4) q hq) (As := [.int (σ.1 41 4)]) rfl rfl ⟨by show _ ≤ fr + 1; omega, by show _ ≤ lo + 26; omega⟩ (Nat.le_of_ble_eq_true rfl) dX3_runBody_5 (fun q1 H locs h hI => ?_)
  refine lv_istore (lv' := [(5, .int q1), (0, .ref (ad 41)), (1, .int x1), (2, .int x2), (3, .int x3), (4, .int x4)]) hx hb dX3_runBody_8 hl (by decide) rfl (fun ls hl => ?_)
  refine lv_iload_n hx hb dX3_runBody_10 rfl (lv_at hl 2 rfl) ?_
  by_cases hc_ : x1 = 1
  · rw [if_pos hc_] at h
    refine lv_lookup (tgt := 124) (off := 113) hx hb dX3_runBody_11 (by decide) (by rw [hc_]; decide) (by decide) ?_
    refine lv_iload_n hx hb dX3_runBody_124 rfl (lv_at hl 4 rfl) ?_
    refine lv_aload_n hx hb dX3_runBody_125 rfl (lv_at hl 1 rfl) ?_
    refine fg_221 C hI shX_41 rfl dX3_runBody_126 ?_
    refine lv_iadd hx hb dX3_runBody_129 ?_
    exact h_iret_w C hr hI h dX3_runBody_130
  · rw [if_neg hc_] at h
    have hn_0 := hc_
    by_cases hc_ : x1 = 2
    · rw [if_pos hc_] at h
      refine lv_lookup (tgt := 131) (off := 120) hx hb dX3_runBody_11 (by decide) (by rw [hc_]; decide) (by decide) ?_
      refine lv_aload_n hx hb dX3_runBody_131 rfl (lv_at hl 1 rfl) ?_
      refine lv_iload hx hb dX3_runBody_132 (lv_at hl 0 rfl) ?_
      refine lv_iconst hx hb dX3_runBody_134 ci_1 ?_
      refine lv_iload_n hx hb dX3_runBody_135 rfl (lv_at hl 4 rfl) ?_
      refine lv_iload hx hb dX3_runBody_136 (lv_at hl 5 rfl) ?_
      refine h_callvi_w (rest := []) C hI hl.1 shX_41 rfl yv_X3_runFrom k_973 h (fun q hq => hR_X3_runFrom (σ) q1 1 x3 x4 q hq) (As := [.int q1, .int 1, .int x3, .int x4]) rfl rfl ⟨by show _ ≤ fr + 1; omega, by show _ ≤ lo + 26; omega⟩ (Nat.le_of_ble_eq_true rfl) dX3_runBody_138 (fun q2 H locs h hI => ?_)
      refine lv_aload_n hx hb dX3_runBody_141 rfl (lv_at hl 1 rfl) ?_
      refine lv_iload hx hb dX3_runBody_142 (lv_at hl 0 rfl) ?_
      refine lv_iconst hx hb dX3_runBody_144 ci_2 ?_
      refine lv_iconst hx hb dX3_runBody_145 ci_1 ?_
      refine lv_iload hx hb dX3_runBody_146 (lv_at hl 5 rfl) ?_
      refine h_callvi_w (rest := [.int q2.1]) C hI hl.1 shX_41 rfl yv_X3_runFrom k_973 h (fun q hq => hR_X3_runFrom q2.2 q1 2 1 x4 q hq) (As := [.int q1, .int 2, .int 1, .int x4]) rfl rfl ⟨by show _ ≤ fr + 1; omega, by show _ ≤ lo + 26; omega⟩ (Nat.le_of_ble_eq_true rfl) dX3_runBody_148 (fun q3 H locs h hI => ?_)
      refine lv_isub hx hb dX3_runBody_151 ?_
      exact h_iret_w C hr hI h dX3_runBody_152
    · rw [if_neg hc_] at h
      have hn_1 := hc_
      by_cases hc_ : x1 = 10
      · rw [if_pos hc_] at h
        refine lv_lookup (tgt := 153) (off := 142) hx hb dX3_runBody_11 (by decide) (by rw [hc_]; decide) (by decide) ?_
        refine lv_aload_n hx hb dX3_runBody_153 rfl (lv_at hl 1 rfl) ?_
        refine lv_iload hx hb dX3_runBody_154 (lv_at hl 0 rfl) ?_
        refine lv_iconst hx hb dX3_runBody_156 ci_0 ?_
        refine lv_iload_n hx hb dX3_runBody_157 rfl (lv_at hl 4 rfl) ?_
        refine lv_iload hx hb dX3_runBody_158 (lv_at hl 5 rfl) ?_
        refine h_callvi_w (rest := []) C hI hl.1 shX_41 rfl yv_X3_runFrom k_973 h (fun q hq => hR_X3_runFrom (σ) q1 0 x3 x4 q hq) (As := [.int q1, .int 0, .int x3, .int x4]) rfl rfl ⟨by show _ ≤ fr + 1; omega, by show _ ≤ lo + 26; omega⟩ (Nat.le_of_ble_eq_true rfl) dX3_runBody_160 (fun q4 H locs h hI => ?_)
        refine lv_iconst hx hb dX3_runBody_163 ci_2 ?_
        refine lv_imul hx hb dX3_runBody_164 ?_
        exact h_iret_w C hr hI h dX3_runBody_165
      · rw [if_neg hc_] at h
        have hn_2 := hc_
        by_cases hc_ : x1 = 11
        · rw [if_pos hc_] at h
          refine lv_lookup (tgt := 166) (off := 155) hx hb dX3_runBody_11 (by decide) (by rw [hc_]; decide) (by decide) ?_
          refine lv_iload_n hx hb dX3_runBody_166 rfl (lv_at hl 4 rfl) ?_
          refine lv_aload_n hx hb dX3_runBody_167 rfl (lv_at hl 1 rfl) ?_
          refine fg_221 C hI shX_41 rfl dX3_runBody_168 ?_
          refine lv_ixor hx hb dX3_runBody_171 ?_
          exact h_iret_w C hr hI h dX3_runBody_172
        · rw [if_neg hc_] at h
          have hn_3 := hc_
          by_cases hc_ : x1 = 20
          · rw [if_pos hc_] at h
            refine lv_lookup (tgt := 173) (off := 162) hx hb dX3_runBody_11 (by decide) (by rw [hc_]; decide) (by decide) ?_
            refine lv_aload_n hx hb dX3_runBody_173 rfl (lv_at hl 1 rfl) ?_
            refine lv_iload_n hx hb dX3_runBody_174 rfl (lv_at hl 3 rfl) ?_
            refine lv_iconst hx hb dX3_runBody_175 ci_0 ?_
            refine lv_iload_n hx hb dX3_runBody_176 rfl (lv_at hl 4 rfl) ?_
            refine lv_iload hx hb dX3_runBody_177 (lv_at hl 5 rfl) ?_
            refine h_callvi_w (rest := []) C hI hl.1 shX_41 rfl yv_X3_runFrom k_973 h (fun q hq => hR_X3_runFrom (σ) x2 0 x3 x4 q hq) (As := [.int x2, .int 0, .int x3, .int x4]) rfl rfl ⟨by show _ ≤ fr + 1; omega, by show _ ≤ lo + 26; omega⟩ (Nat.le_of_ble_eq_true rfl) dX3_runBody_179 (fun q5 H locs h hI => ?_)
            refine lv_iconst hx hb dX3_runBody_182 ci_3 ?_
            refine lv_iadd hx hb dX3_runBody_183 ?_
            exact h_iret_w C hr hI h dX3_runBody_184
          · rw [if_neg hc_] at h
            have hn_4 := hc_
            by_cases hc_ : x1 = 30
            · rw [if_pos hc_] at h
              refine lv_lookup (tgt := 185) (off := 174) hx hb dX3_runBody_11 (by decide) (by rw [hc_]; decide) (by decide) ?_
              refine lv_aload_n hx hb dX3_runBody_185 rfl (lv_at hl 1 rfl) ?_
              refine lv_iload_n hx hb dX3_runBody_186 rfl (lv_at hl 3 rfl) ?_
              refine lv_iconst hx hb dX3_runBody_187 ci_1 ?_
              refine lv_iload_n hx hb dX3_runBody_188 rfl (lv_at hl 4 rfl) ?_
              refine lv_iload hx hb dX3_runBody_189 (lv_at hl 5 rfl) ?_
              refine h_callvi_w (rest := []) C hI hl.1 shX_41 rfl yv_X3_runFrom k_973 h (fun q hq => hR_X3_runFrom (σ) x2 1 x3 x4 q hq) (As := [.int x2, .int 1, .int x3, .int x4]) rfl rfl ⟨by show _ ≤ fr + 1; omega, by show _ ≤ lo + 26; omega⟩ (Nat.le_of_ble_eq_true rfl) dX3_runBody_191 (fun q6 H locs h hI => ?_)
              refine lv_ineg hx hb dX3_runBody_194 ?_
              exact h_iret_w C hr hI h dX3_runBody_195
            · rw [if_neg hc_] at h
              have hn_5 := hc_
              by_cases hc_ : x1 = 40
              · rw [if_pos hc_] at h
                refine lv_lookup (tgt := 196) (off := 185) hx hb dX3_runBody_11 (by decide) (by rw [hc_]; decide) (by decide) ?_
                refine lv_aload_n hx hb dX3_runBody_196 rfl (lv_at hl 1 rfl) ?_
                refine lv_iload_n hx hb dX3_runBody_197 rfl (lv_at hl 3 rfl) ?_
                refine lv_iconst hx hb dX3_runBody_198 ci_2 ?_
                refine lv_iload_n hx hb dX3_runBody_199 rfl (lv_at hl 4 rfl) ?_
                refine lv_iload hx hb dX3_runBody_200 (lv_at hl 5 rfl) ?_
                refine h_callvi_w (rest := []) C hI hl.1 shX_41 rfl yv_X3_runFrom k_973 h (fun q hq => hR_X3_runFrom (σ) x2 2 x3 x4 q hq) (As := [.int x2, .int 2, .int x3, .int x4]) rfl rfl ⟨by show _ ≤ fr + 1; omega, by show _ ≤ lo + 26; omega⟩ (Nat.le_of_ble_eq_true rfl) dX3_runBody_202 (fun q7 H locs h hI => ?_)
                refine lv_iconst hx hb dX3_runBody_205 ci_3 ?_
                refine lv_imul hx hb dX3_runBody_206 ?_
                exact h_iret_w C hr hI h dX3_runBody_207
              · rw [if_neg hc_] at h
                have hn_6 := hc_
                by_cases hc_ : x1 = 41
                · rw [if_pos hc_] at h
                  refine lv_lookup (tgt := 208) (off := 197) hx hb dX3_runBody_11 (by decide) (by rw [hc_]; decide) (by decide) ?_
                  refine lv_aload_n hx hb dX3_runBody_208 rfl (lv_at hl 1 rfl) ?_
                  refine lv_iload_n hx hb dX3_runBody_209 rfl (lv_at hl 3 rfl) ?_
                  refine lv_iconst hx hb dX3_runBody_210 ci_1 ?_
                  refine lv_iload_n hx hb dX3_runBody_211 rfl (lv_at hl 4 rfl) ?_
                  refine lv_iconst hx hb dX3_runBody_212 ci_1 ?_
                  refine lv_iadd hx hb dX3_runBody_213 ?_
                  refine lv_iload hx hb dX3_runBody_214 (lv_at hl 5 rfl) ?_
                  refine h_callvi_w (rest := []) C hI hl.1 shX_41 rfl yv_X3_runFrom k_973 h (fun q hq => hR_X3_runFrom (σ) x2 1 (x3 + 1) x4 q hq) (As := [.int x2, .int 1, .int (x3 + 1), .int x4]) rfl rfl ⟨by show _ ≤ fr + 1; omega, by show _ ≤ lo + 26; omega⟩ (Nat.le_of_ble_eq_true rfl) dX3_runBody_216 (fun q8 H locs h hI => ?_)
                  exact h_iret_w C hr hI h dX3_runBody_219
                · rw [if_neg hc_] at h
                  have hn_7 := hc_
                  by_cases hc_ : x1 = 50
                  · rw [if_pos hc_] at h
                    refine lv_lookup (tgt := 220) (off := 209) hx hb dX3_runBody_11 (by decide) (by rw [hc_]; decide) (by decide) ?_
                    refine lv_aload_n hx hb dX3_runBody_220 rfl (lv_at hl 1 rfl) ?_
                    refine lv_iload_n hx hb dX3_runBody_221 rfl (lv_at hl 3 rfl) ?_
                    refine lv_iconst hx hb dX3_runBody_222 ci_2 ?_
                    refine lv_iload_n hx hb dX3_runBody_223 rfl (lv_at hl 4 rfl) ?_
                    refine lv_iload hx hb dX3_runBody_224 (lv_at hl 5 rfl) ?_
                    refine h_callvi_w (rest := []) C hI hl.1 shX_41 rfl yv_X3_runFrom k_973 h (fun q hq => hR_X3_runFrom (σ) x2 2 x3 x4 q hq) (As := [.int x2, .int 2, .int x3, .int x4]) rfl rfl ⟨by show _ ≤ fr + 1; omega, by show _ ≤ lo + 26; omega⟩ (Nat.le_of_ble_eq_true rfl) dX3_runBody_226 (fun q9 H locs h hI => ?_)
                    refine lv_aload_n hx hb dX3_runBody_229 rfl (lv_at hl 1 rfl) ?_
                    refine lv_iload hx hb dX3_runBody_230 (lv_at hl 0 rfl) ?_
                    refine lv_iconst hx hb dX3_runBody_232 ci_0 ?_
                    refine lv_iconst hx hb dX3_runBody_233 ci_2 ?_
                    refine lv_iload hx hb dX3_runBody_234 (lv_at hl 5 rfl) ?_
                    refine h_callvi_w (rest := [.int q9.1]) C hI hl.1 shX_41 rfl yv_X3_runFrom k_973 h (fun q hq => hR_X3_runFrom q9.2 q1 0 2 x4 q hq) (As := [.int q1, .int 0, .int 2, .int x4]) rfl rfl ⟨by show _ ≤ fr + 1; omega, by show _ ≤ lo + 26; omega⟩ (Nat.le_of_ble_eq_true rfl) dX3_runBody_236 (fun q10 H locs h hI => ?_)
                    refine lv_isub hx hb dX3_runBody_239 ?_
                    exact h_iret_w C hr hI h dX3_runBody_240
                  · rw [if_neg hc_] at h
                    have hn_8 := hc_
                    by_cases hc_ : x1 = 60
                    · rw [if_pos hc_] at h
                      refine lv_lookup (tgt := 241) (off := 230) hx hb dX3_runBody_11 (by decide) (by rw [hc_]; decide) (by decide) ?_
                      refine lv_aload_n hx hb dX3_runBody_241 rfl (lv_at hl 1 rfl) ?_
                      refine lv_iload_n hx hb dX3_runBody_242 rfl (lv_at hl 3 rfl) ?_
                      refine lv_iconst hx hb dX3_runBody_243 ci_3 ?_
                      refine lv_iload_n hx hb dX3_runBody_244 rfl (lv_at hl 4 rfl) ?_
                      refine lv_iload hx hb dX3_runBody_245 (lv_at hl 5 rfl) ?_
                      refine h_callvi_w (rest := []) C hI hl.1 shX_41 rfl yv_X3_runFrom k_973 h (fun q hq => hR_X3_runFrom (σ) x2 3 x3 x4 q hq) (As := [.int x2, .int 3, .int x3, .int x4]) rfl rfl ⟨by show _ ≤ fr + 1; omega, by show _ ≤ lo + 26; omega⟩ (Nat.le_of_ble_eq_true rfl) dX3_runBody_247 (fun q11 H locs h hI => ?_)
                      refine lv_iconst hx hb dX3_runBody_250 ci_5 ?_
                      refine lv_ixor hx hb dX3_runBody_251 ?_
                      exact h_iret_w C hr hI h dX3_runBody_252
                    · rw [if_neg hc_] at h
                      have hn_9 := hc_
                      by_cases hc_ : x1 = 70
                      · rw [if_pos hc_] at h
                        refine lv_lookup (tgt := 253) (off := 242) hx hb dX3_runBody_11 (by decide) (by rw [hc_]; decide) (by decide) ?_
                        refine lv_aload_n hx hb dX3_runBody_253 rfl (lv_at hl 1 rfl) ?_
                        refine lv_iload_n hx hb dX3_runBody_254 rfl (lv_at hl 3 rfl) ?_
                        refine lv_iconst hx hb dX3_runBody_255 ci_0 ?_
                        refine lv_iload_n hx hb dX3_runBody_256 rfl (lv_at hl 4 rfl) ?_
                        refine lv_iload hx hb dX3_runBody_257 (lv_at hl 5 rfl) ?_
                        refine h_callvi_w (rest := []) C hI hl.1 shX_41 rfl yv_X3_runFrom k_973 h (fun q hq => hR_X3_runFrom (σ) x2 0 x3 x4 q hq) (As := [.int x2, .int 0, .int x3, .int x4]) rfl rfl ⟨by show _ ≤ fr + 1; omega, by show _ ≤ lo + 26; omega⟩ (Nat.le_of_ble_eq_true rfl) dX3_runBody_259 (fun q12 H locs h hI => ?_)
                        refine lv_iconst hx hb dX3_runBody_262 ci_2 ?_
                        refine lv_imul hx hb dX3_runBody_263 ?_
                        exact h_iret_w C hr hI h dX3_runBody_264
                      · rw [if_neg hc_] at h
                        have hn_10 := hc_
                        by_cases hc_ : x1 = 80
                        · rw [if_pos hc_] at h
                          refine lv_lookup (tgt := 265) (off := 254) hx hb dX3_runBody_11 (by decide) (by rw [hc_]; decide) (by decide) ?_
                          refine lv_aload_n hx hb dX3_runBody_265 rfl (lv_at hl 1 rfl) ?_
                          refine lv_iload_n hx hb dX3_runBody_266 rfl (lv_at hl 3 rfl) ?_
                          refine lv_iconst hx hb dX3_runBody_267 ci_1 ?_
                          refine lv_iload_n hx hb dX3_runBody_268 rfl (lv_at hl 4 rfl) ?_
                          refine lv_iload hx hb dX3_runBody_269 (lv_at hl 5 rfl) ?_
                          refine h_callvi_w (rest := []) C hI hl.1 shX_41 rfl yv_X3_runFrom k_973 h (fun q hq => hR_X3_runFrom (σ) x2 1 x3 x4 q hq) (As := [.int x2, .int 1, .int x3, .int x4]) rfl rfl ⟨by show _ ≤ fr + 1; omega, by show _ ≤ lo + 26; omega⟩ (Nat.le_of_ble_eq_true rfl) dX3_runBody_271 (fun q13 H locs h hI => ?_)
                          refine lv_aload_n hx hb dX3_runBody_274 rfl (lv_at hl 1 rfl) ?_
                          refine lv_iload hx hb dX3_runBody_275 (lv_at hl 0 rfl) ?_
                          refine lv_iconst hx hb dX3_runBody_277 ci_2 ?_
                          refine lv_iconst hx hb dX3_runBody_278 ci_2 ?_
                          refine lv_iload hx hb dX3_runBody_279 (lv_at hl 5 rfl) ?_
                          refine h_callvi_w (rest := [.int q13.1]) C hI hl.1 shX_41 rfl yv_X3_runFrom k_973 h (fun q hq => hR_X3_runFrom q13.2 q1 2 2 x4 q hq) (As := [.int q1, .int 2, .int 2, .int x4]) rfl rfl ⟨by show _ ≤ fr + 1; omega, by show _ ≤ lo + 26; omega⟩ (Nat.le_of_ble_eq_true rfl) dX3_runBody_281 (fun q14 H locs h hI => ?_)
                          refine lv_iadd hx hb dX3_runBody_284 ?_
                          exact h_iret_w C hr hI h dX3_runBody_285
                        · rw [if_neg hc_] at h
                          have hn_11 := hc_
                          by_cases hc_ : x1 = 81
                          · rw [if_pos hc_] at h
                            refine lv_lookup (tgt := 286) (off := 275) hx hb dX3_runBody_11 (by decide) (by rw [hc_]; decide) (by decide) ?_
                            refine lv_aload_n hx hb dX3_runBody_286 rfl (lv_at hl 1 rfl) ?_
                            refine lv_iload_n hx hb dX3_runBody_287 rfl (lv_at hl 3 rfl) ?_
                            refine lv_iconst hx hb dX3_runBody_288 ci_3 ?_
                            refine lv_iload_n hx hb dX3_runBody_289 rfl (lv_at hl 4 rfl) ?_
                            refine lv_iload hx hb dX3_runBody_290 (lv_at hl 5 rfl) ?_
                            refine h_callvi_w (rest := []) C hI hl.1 shX_41 rfl yv_X3_runFrom k_973 h (fun q hq => hR_X3_runFrom (σ) x2 3 x3 x4 q hq) (As := [.int x2, .int 3, .int x3, .int x4]) rfl rfl ⟨by show _ ≤ fr + 1; omega, by show _ ≤ lo + 26; omega⟩ (Nat.le_of_ble_eq_true rfl) dX3_runBody_292 (fun q15 H locs h hI => ?_)
                            refine lv_iconst hx hb dX3_runBody_295 ci_1 ?_
                            refine lv_isub hx hb dX3_runBody_296 ?_
                            exact h_iret_w C hr hI h dX3_runBody_297
                          · rw [if_neg hc_] at h
                            have hn_12 := hc_
                            have hout : Op.lookupswitch.offset (#[(1, 113), (2, 120), (10, 142), (11, 155), (20, 162), (30, 174), (40, 185), (41, 197), (50, 209), (60, 230), (70, 242), (80, 254), (81, 275)] : Array (Int × Int)).toList 287 x1.toInt = 287 := by
                              have e0 := tsne (c := 1) (z := 1) (by decide) hn_0
                              have e1 := tsne (c := 2) (z := 2) (by decide) hn_1
                              have e2 := tsne (c := 10) (z := 10) (by decide) hn_2
                              have e3 := tsne (c := 11) (z := 11) (by decide) hn_3
                              have e4 := tsne (c := 20) (z := 20) (by decide) hn_4
                              have e5 := tsne (c := 30) (z := 30) (by decide) hn_5
                              have e6 := tsne (c := 40) (z := 40) (by decide) hn_6
                              have e7 := tsne (c := 41) (z := 41) (by decide) hn_7
                              have e8 := tsne (c := 50) (z := 50) (by decide) hn_8
                              have e9 := tsne (c := 60) (z := 60) (by decide) hn_9
                              have e10 := tsne (c := 70) (z := 70) (by decide) hn_10
                              have e11 := tsne (c := 80) (z := 80) (by decide) hn_11
                              have e12 := tsne (c := 81) (z := 81) (by decide) hn_12
                              exact lkout _ _ _ (List.forall_mem_cons.mpr ⟨Ne.symm e0, List.forall_mem_cons.mpr ⟨Ne.symm e1, List.forall_mem_cons.mpr ⟨Ne.symm e2, List.forall_mem_cons.mpr ⟨Ne.symm e3, List.forall_mem_cons.mpr ⟨Ne.symm e4, List.forall_mem_cons.mpr ⟨Ne.symm e5, List.forall_mem_cons.mpr ⟨Ne.symm e6, List.forall_mem_cons.mpr ⟨Ne.symm e7, List.forall_mem_cons.mpr ⟨Ne.symm e8, List.forall_mem_cons.mpr ⟨Ne.symm e9, List.forall_mem_cons.mpr ⟨Ne.symm e10, List.forall_mem_cons.mpr ⟨Ne.symm e11, List.forall_mem_cons.mpr ⟨Ne.symm e12, fun _ hh => absurd hh List.not_mem_nil⟩⟩⟩⟩⟩⟩⟩⟩⟩⟩⟩⟩⟩)
                            refine lv_lookup (tgt := 298) hx hb dX3_runBody_11 (by decide) hout (by decide) ?_
                            refine lv_iconst hx hb dX3_runBody_298 ci_0 ?_
                            exact h_iret_w C hr hI h dX3_runBody_299
set_option maxRecDepth 100000 in
set_option maxHeartbeats 4000000 in
theorem w_X3_runFrom_97 {p : Program} {l : Launch} {e : Env} {s : State} {m : MethodId} {args : Array Value} {below : List Frame} {meth : Method} {c : Code} {D : va_G} {t : gT} {ad z : Nat → Nat} {R_X3_runBody : gS → Int32 → Int32 → Int32 → Int32 → Option (Int32 × gS)} {R_X3_runFrom : gS → Int32 → Int32 → Int32 → Int32 → Option (Int32 × gS)} (C : gC p s m args meth c cX3_runFrom 7 "NineKeysRound$Keys" D t shX ad z) (hr : meth.sig.returnType = some .int) {fr lo : Nat} (hfr : 3 ≤ fr) (hlo : 102 ≤ lo) (hR_X3_runBody : ∀ (σ : gS) (x1 : Int32) (x2 : Int32) (x3 : Int32) (x4 : Int32) (q : Int32 × gS), R_X3_runBody σ x1 x2 x3 x4 = some q → Met l yX3_runBody (Cond.code yX3_runBody cX3_runBody 6 (some .int) :: lw_tb) (gR fr lo) (gPc shX t ad D z [.ref (ad 41), .int x1, .int x2, .int x3, .int x4] σ) (gQi shX t ad D q.1 q.2) 0 0 (gA shX ad)) (hR_X3_runFrom : ∀ (σ : gS) (x1 : Int32) (x2 : Int32) (x3 : Int32) (x4 : Int32) (q : Int32 × gS), R_X3_runFrom σ x1 x2 x3 x4 = some q → Met l yX3_runFrom (Cond.code yX3_runFrom cX3_runFrom 7 (some .int) :: lw_tb) (gR fr lo) (gPc shX t ad D z [.ref (ad 41), .int x1, .int x2, .int x3, .int x4] σ) (gQi shX t ad D q.1 q.2) 0 0 (gA shX ad)) {r : Int32 × gS} : ∀ (x3 : Int32) (x4 : Int32) (x5 : Int32) (x6 : Int32) (σ : gS) (H : Heap) (locs : List Loc) (ls : Array Slot), f_X3_runFrom_97 R_X3_runBody R_X3_runFrom x3 x4 x5 x6 σ = some r → gI shX t ad D s.heap σ H locs → lv_has ls 7 [(0, .ref (ad 41)), (3, .int x3), (4, .int x4), (5, .int x5), (6, .int x6)] → W p l e (gR (fr + 1) (lo + 26)) s m args below meth c H locs 0 0 (MQ below (gQi shX t ad D r.1 r.2) args s 0 0 (gA shX ad)) (F0 m 97 ls []) := by
  have hx := C.1
  have hb := C.2.1
  intro x3 x4 x5 x6 σ H locs ls  h hI hl
  unfold f_X3_runFrom_97 at h
  refine lv_aload_n hx hb dX3_runFrom_97 rfl (lv_at hl 0 rfl) ?_
  refine lv_dup hx hb dX3_runFrom_98 rfl ?_
  refine fg_219 C hI shX_41 rfl dX3_runFrom_99 ?_
  refine lv_iconst hx hb dX3_runFrom_102 ci_1 ?_
  refine lv_iadd hx hb dX3_runFrom_103 ?_
  refine fp_219 C hI shX_41 rfl dX3_runFrom_104 (fun H locs hI => ?_)
  refine gx_st h hI (fun s1 h hI => ?_)
  refine lv_aload_n hx hb dX3_runFrom_107 rfl (lv_at hl 0 rfl) ?_
  refine lv_iload hx hb dX3_runFrom_108 (lv_at hl 4 rfl) ?_
  refine gx_gets C hI (i := 2) rfl k_980 dX3_runFrom_110 ?_
  refine lv_iload hx hb dX3_runFrom_113 (lv_at hl 3 rfl) ?_
  refine gx_ti C hI 2 rfl h dX3_runFrom_115 (fun h => ?_)
  refine lv_iload_n hx hb dX3_runFrom_116 rfl (lv_at hl 1 rfl) ?_
  refine lv_iload hx hb dX3_runFrom_117 (lv_at hl 2 rfl) ?_
  refine lv_iconst hx hb dX3_runFrom_119 ci_1 ?_
  refine lv_iadd hx hb dX3_runFrom_120 ?_
  refine h_callvi_w (rest := []) C hI hl.1 shX_41 rfl yv_X3_runBody k_982 h (fun q hq => hR_X3_runBody s1 x6 (zABOVE.getD (x5).toNatClampNeg 0) x3 (x4 + 1) q hq) (As := [.int x6, .int (zABOVE.getD (x5).toNatClampNeg 0), .int x3, .int (x4 + 1)]) rfl rfl ⟨by show _ ≤ fr + 1; omega, by show _ ≤ lo + 26; omega⟩ (Nat.le_of_ble_eq_true rfl) dX3_runFrom_121 (fun q2 H locs h hI => ?_)
  exact h_iret_w C hr hI h dX3_runFrom_124
set_option maxRecDepth 100000 in
set_option maxHeartbeats 4000000 in
theorem w_X3_runFrom_48 {p : Program} {l : Launch} {e : Env} {s : State} {m : MethodId} {args : Array Value} {below : List Frame} {meth : Method} {c : Code} {D : va_G} {t : gT} {ad z : Nat → Nat} {R_X3_runBody : gS → Int32 → Int32 → Int32 → Int32 → Option (Int32 × gS)} {R_X3_runFrom : gS → Int32 → Int32 → Int32 → Int32 → Option (Int32 × gS)} (C : gC p s m args meth c cX3_runFrom 7 "NineKeysRound$Keys" D t shX ad z) (hr : meth.sig.returnType = some .int) {fr lo : Nat} (hfr : 3 ≤ fr) (hlo : 102 ≤ lo) (hR_X3_runBody : ∀ (σ : gS) (x1 : Int32) (x2 : Int32) (x3 : Int32) (x4 : Int32) (q : Int32 × gS), R_X3_runBody σ x1 x2 x3 x4 = some q → Met l yX3_runBody (Cond.code yX3_runBody cX3_runBody 6 (some .int) :: lw_tb) (gR fr lo) (gPc shX t ad D z [.ref (ad 41), .int x1, .int x2, .int x3, .int x4] σ) (gQi shX t ad D q.1 q.2) 0 0 (gA shX ad)) (hR_X3_runFrom : ∀ (σ : gS) (x1 : Int32) (x2 : Int32) (x3 : Int32) (x4 : Int32) (q : Int32 × gS), R_X3_runFrom σ x1 x2 x3 x4 = some q → Met l yX3_runFrom (Cond.code yX3_runFrom cX3_runFrom 7 (some .int) :: lw_tb) (gR fr lo) (gPc shX t ad D z [.ref (ad 41), .int x1, .int x2, .int x3, .int x4] σ) (gQi shX t ad D q.1 q.2) 0 0 (gA shX ad)) {r : Int32 × gS} : ∀ (x2 : Int32) (x3 : Int32) (x4 : Int32) (x5 : Int32) (σ : gS) (H : Heap) (locs : List Loc) (ls : Array Slot), f_X3_runFrom_48 R_X3_runBody R_X3_runFrom x2 x3 x4 x5 σ = some r → gI shX t ad D s.heap σ H locs → lv_has ls 7 [(0, .ref (ad 41)), (2, .int x2), (3, .int x3), (4, .int x4), (5, .int x5)] → W p l e (gR (fr + 1) (lo + 26)) s m args below meth c H locs 0 0 (MQ below (gQi shX t ad D r.1 r.2) args s 0 0 (gA shX ad)) (F0 m 48 ls []) := by
  have hx := C.1
  have hb := C.2.1
  intro x2 x3 x4 x5 σ H locs ls  h hI hl
  unfold f_X3_runFrom_48 at h
  refine lv_iload hx hb dX3_runFrom_48 (lv_at hl 4 rfl) ?_
  refine h_callsi_o (rest := []) C hI hl.1 ys_X3_isKind k_977 h (fun q hq => c_X3_isKind l D t ad z C.2.2.2.2.2.2.1 (σ) x5 q hq) (As := [.int x5]) rfl rfl ⟨by show _ ≤ fr + 1; omega, by show _ ≤ lo + 26; omega⟩ (Nat.le_of_ble_eq_true rfl) dX3_runFrom_50 (fun q1 H locs h hI => ?_)
  refine hif_eq (tgt := 63) C dX3_runFrom_53 (by decide) h (fun h => ?_) (fun h => ?_)
  · refine lv_iconst hx hb dX3_runFrom_63 ci_0 ?_
    exact h_iret_w C hr hI h dX3_runFrom_64
  · refine lv_iload hx hb dX3_runFrom_56 (lv_at hl 3 rfl) ?_
    refine lv_bipush hx hb dX3_runFrom_58 cb_40 ?_
    refine hicmp_le (tgt := 65) C dX3_runFrom_60 (by decide) h (fun h => ?_) (fun h => ?_)
    · refine gx_gets C hI (i := 3) rfl k_978 dX3_runFrom_65 ?_
      refine lv_iconst hx hb dX3_runFrom_68 ci_4 ?_
      refine lv_iload hx hb dX3_runFrom_69 (lv_at hl 4 rfl) ?_
      refine lv_imul hx hb dX3_runFrom_71 ?_
      refine lv_iload_n hx hb dX3_runFrom_72 rfl (lv_at hl 1 rfl) ?_
      refine lv_iadd hx hb dX3_runFrom_73 ?_
      refine gx_ti C hI 3 rfl h dX3_runFrom_74 (fun h => ?_)
      refine gx_topi h (fun v2 h => ?_)
      refine lv_istore (lv' := [(6, .int v2), (0, .ref (ad 41)), (2, .int x2), (3, .int x3), (4, .int x4), (5, .int x5)]) hx hb dX3_runFrom_75 hl (by decide) rfl (fun ls hl => ?_)
      refine lv_aload_n hx hb dX3_runFrom_77 rfl (lv_at hl 1 rfl) ?_
      refine fg_219 C hI shX_41 rfl dX3_runFrom_78 ?_
      refine lv_bipush hx hb dX3_runFrom_81 cb_24 ?_
      refine hicmp_ge (tgt := 97) C dX3_runFrom_83 (by decide) h (fun h => ?_) (fun h => ?_)
      · exact w_X3_runFrom_97 C hr hfr hlo hR_X3_runBody hR_X3_runFrom   _ _ _ _ _ _ _ _  h hI (lv_sub hl [1, 3, 4, 5, 0] rfl)
      · refine lv_aload_n hx hb dX3_runFrom_86 rfl (lv_at hl 1 rfl) ?_
        refine fr_215 C hI shX_41 rfl dX3_runFrom_87 ?_
        refine lv_aload_n hx hb dX3_runFrom_90 rfl (lv_at hl 1 rfl) ?_
        refine fg_219 C hI shX_41 rfl dX3_runFrom_91 ?_
        refine lv_iload hx hb dX3_runFrom_94 (lv_at hl 0 rfl) ?_
        refine gx_iast C hI shX_43 h dX3_runFrom_96 (fun H locs h hI => ?_)
        refine gx_st h hI (fun s3 h hI => ?_)
        exact w_X3_runFrom_97 C hr hfr hlo hR_X3_runBody hR_X3_runFrom   _ _ _ _ _ _ _ _  h hI (lv_sub hl [1, 3, 4, 5, 0] rfl)
    · refine lv_iconst hx hb dX3_runFrom_63 ci_0 ?_
      exact h_iret_w C hr hI h dX3_runFrom_64
set_option maxRecDepth 100000 in
set_option maxHeartbeats 4000000 in
theorem w_X3_runFrom_6 {p : Program} {l : Launch} {e : Env} {s : State} {m : MethodId} {args : Array Value} {below : List Frame} {meth : Method} {c : Code} {D : va_G} {t : gT} {ad z : Nat → Nat} {R_X3_runBody : gS → Int32 → Int32 → Int32 → Int32 → Option (Int32 × gS)} {R_X3_runFrom : gS → Int32 → Int32 → Int32 → Int32 → Option (Int32 × gS)} (C : gC p s m args meth c cX3_runFrom 7 "NineKeysRound$Keys" D t shX ad z) (hr : meth.sig.returnType = some .int) {fr lo : Nat} (hfr : 3 ≤ fr) (hlo : 102 ≤ lo) (hR_X3_runBody : ∀ (σ : gS) (x1 : Int32) (x2 : Int32) (x3 : Int32) (x4 : Int32) (q : Int32 × gS), R_X3_runBody σ x1 x2 x3 x4 = some q → Met l yX3_runBody (Cond.code yX3_runBody cX3_runBody 6 (some .int) :: lw_tb) (gR fr lo) (gPc shX t ad D z [.ref (ad 41), .int x1, .int x2, .int x3, .int x4] σ) (gQi shX t ad D q.1 q.2) 0 0 (gA shX ad)) (hR_X3_runFrom : ∀ (σ : gS) (x1 : Int32) (x2 : Int32) (x3 : Int32) (x4 : Int32) (q : Int32 × gS), R_X3_runFrom σ x1 x2 x3 x4 = some q → Met l yX3_runFrom (Cond.code yX3_runFrom cX3_runFrom 7 (some .int) :: lw_tb) (gR fr lo) (gPc shX t ad D z [.ref (ad 41), .int x1, .int x2, .int x3, .int x4] σ) (gQi shX t ad D q.1 q.2) 0 0 (gA shX ad)) {r : Int32 × gS} : ∀ (n : Nat) (x2 : Int32) (x3 : Int32) (x4 : Int32) (x5 : Int32) (x6 : Int32) (σ : gS) (H : Heap) (locs : List Loc) (ls : Array Slot), f_X3_runFrom_6 R_X3_runBody R_X3_runFrom n x2 x3 x4 x5 x6 σ = some r → gI shX t ad D s.heap σ H locs → lv_has ls 7 [(0, .ref (ad 41)), (2, .int x2), (3, .int x3), (4, .int x4), (5, .int x5), (6, .int x6)] → W p l e (gR (fr + 1) (lo + 26)) s m args below meth c H locs 0 0 (MQ below (gQi shX t ad D r.1 r.2) args s 0 0 (gA shX ad)) (F0 m 6 ls []) := by
  have hx := C.1
  have hb := C.2.1
  intro n
  induction n with
  | zero =>
    intro x2 x3 x4 x5 x6 σ H locs ls  h
    exact absurd h (by simp [f_X3_runFrom_6])
  | succ n ih =>
    intro x2 x3 x4 x5 x6 σ H locs ls  h hI hl
    unfold f_X3_runFrom_6 at h
    refine lv_iload hx hb dX3_runFrom_6 (lv_at hl 5 rfl) ?_
    refine lv_bipush hx hb dX3_runFrom_8 cb_8 ?_
    refine hicmp_ge (tgt := 48) C dX3_runFrom_10 (by decide) h (fun h => ?_) (fun h => ?_)
    · exact w_X3_runFrom_48 C hr hfr hlo hR_X3_runBody hR_X3_runFrom   _ _ _ _ _ _ _ _  h hI (lv_sub hl [0, 1, 2, 3, 4] rfl)
    · refine lv_iload hx hb dX3_runFrom_13 (lv_at hl 4 rfl) ?_
      refine h_callsi_o (rest := []) C hI hl.1 ys_X3_isKind k_977 h (fun q hq => c_X3_isKind l D t ad z C.2.2.2.2.2.2.1 (σ) x5 q hq) (As := [.int x5]) rfl rfl ⟨by show _ ≤ fr + 1; omega, by show _ ≤ lo + 26; omega⟩ (Nat.le_of_ble_eq_true rfl) dX3_runFrom_15 (fun q1 H locs h hI => ?_)
      refine hif_eq (tgt := 48) C dX3_runFrom_18 (by decide) h (fun h => ?_) (fun h => ?_)
      · exact w_X3_runFrom_48 C hr hfr hlo hR_X3_runBody hR_X3_runFrom   _ _ _ _ _ _ _ _  h hI (lv_sub hl [0, 1, 2, 3, 4] rfl)
      · refine gx_gets C hI (i := 3) rfl k_978 dX3_runFrom_21 ?_
        refine lv_iconst hx hb dX3_runFrom_24 ci_4 ?_
        refine lv_iload hx hb dX3_runFrom_25 (lv_at hl 4 rfl) ?_
        refine lv_imul hx hb dX3_runFrom_27 ?_
        refine lv_iload_n hx hb dX3_runFrom_28 rfl (lv_at hl 1 rfl) ?_
        refine lv_iadd hx hb dX3_runFrom_29 ?_
        refine gx_ti C hI 3 rfl h dX3_runFrom_30 (fun h => ?_)
        refine hif_ne (tgt := 48) C dX3_runFrom_31 (by decide) h (fun h => ?_) (fun h => ?_)
        · exact w_X3_runFrom_48 C hr hfr hlo hR_X3_runBody hR_X3_runFrom   _ _ _ _ _ _ _ _  h hI (lv_sub hl [0, 1, 2, 3, 4] rfl)
        · refine gx_gets C hI (i := 2) rfl k_980 dX3_runFrom_34 ?_
          refine lv_iload hx hb dX3_runFrom_37 (lv_at hl 4 rfl) ?_
          refine gx_ti C hI 2 rfl h dX3_runFrom_39 (fun h => ?_)
          refine gx_topi h (fun v2 h => ?_)
          refine lv_istore (lv' := [(5, .int v2), (0, .ref (ad 41)), (2, .int x2), (3, .int x3), (4, .int x4), (6, .int x6)]) hx hb dX3_runFrom_40 hl (by decide) rfl (fun ls hl => ?_)
          refine h_iinc C hl dX3_runFrom_42 5 rfl ci_1 h (by decide) (lvf := fun v3 => [(6, .int v3), (5, .int v2), (0, .ref (ad 41)), (2, .int x2), (3, .int x3), (4, .int x4)]) (fun _ => rfl) (fun v3 ls h hl => ?_)
          refine lv_goto (tgt := 6) hx hb dX3_runFrom_45 (by decide) ?_
          exact ih _ _ _ _ _ _ _ _ _  h hI (lv_sub hl [2, 3, 4, 5, 1, 0] rfl)
set_option maxRecDepth 100000 in
set_option maxHeartbeats 4000000 in
theorem cr_X3_runFrom (l : Launch) (D : va_G) (t : gT) (ad z : Nat → Nat) (hJ : gJ shX ad) {R_X3_runBody : gS → Int32 → Int32 → Int32 → Int32 → Option (Int32 × gS)} {R_X3_runFrom : gS → Int32 → Int32 → Int32 → Int32 → Option (Int32 × gS)} {fr lo : Nat} (hfr : 3 ≤ fr) (hlo : 102 ≤ lo) (hR_X3_runBody : ∀ (σ : gS) (x1 : Int32) (x2 : Int32) (x3 : Int32) (x4 : Int32) (q : Int32 × gS), R_X3_runBody σ x1 x2 x3 x4 = some q → Met l yX3_runBody (Cond.code yX3_runBody cX3_runBody 6 (some .int) :: lw_tb) (gR fr lo) (gPc shX t ad D z [.ref (ad 41), .int x1, .int x2, .int x3, .int x4] σ) (gQi shX t ad D q.1 q.2) 0 0 (gA shX ad)) (hR_X3_runFrom : ∀ (σ : gS) (x1 : Int32) (x2 : Int32) (x3 : Int32) (x4 : Int32) (q : Int32 × gS), R_X3_runFrom σ x1 x2 x3 x4 = some q → Met l yX3_runFrom (Cond.code yX3_runFrom cX3_runFrom 7 (some .int) :: lw_tb) (gR fr lo) (gPc shX t ad D z [.ref (ad 41), .int x1, .int x2, .int x3, .int x4] σ) (gQi shX t ad D q.1 q.2) 0 0 (gA shX ad)) (σ : gS) (x1 : Int32) (x2 : Int32) (x3 : Int32) (x4 : Int32) (q : Int32 × gS) (h : F_X3_runFrom R_X3_runBody R_X3_runFrom σ x1 x2 x3 x4 = some q) : Met l yX3_runFrom (Cond.code yX3_runFrom cX3_runFrom 7 (some .int) :: lw_tb) (gR (fr + 1) (lo + 26)) (gPc shX t ad D z [.ref (ad 41), .int x1, .int x2, .int x3, .int x4] σ) (gQi shX t ad D q.1 q.2) 0 0 (gA shX ad) := by
  refine gMet "NineKeysRound$Keys" rfl (by decide) hJ (Nat.le_of_ble_eq_true rfl) ?_
  intro p e s m below meth c ls C hr hI hl
  have hx := C.1
  have hb := C.2.1
  have hl : lv_has ls 7 [(0, .ref (ad 41)), (1, .int x1), (2, .int x2), (3, .int x3), (4, .int x4)] := hl
  unfold F_X3_runFrom at h
  refine lv_iload_n hx hb dX3_runFrom_0 rfl (lv_at hl 1 rfl) ?_
  refine lv_istore (lv' := [(5, .int x1), (0, .ref (ad 41)), (1, .int x1), (2, .int x2), (3, .int x3), (4, .int x4)]) hx hb dX3_runFrom_1 hl (by decide) rfl (fun ls hl => ?_)
  refine lv_iconst hx hb dX3_runFrom_3 ci_0 ?_
  refine lv_istore (lv' := [(6, .int 0), (5, .int x1), (0, .ref (ad 41)), (1, .int x1), (2, .int x2), (3, .int x3), (4, .int x4)]) hx hb dX3_runFrom_4 hl (by decide) rfl (fun ls hl => ?_)
  exact w_X3_runFrom_6 C hr hfr hlo hR_X3_runBody hR_X3_runFrom   _ _ _ _ _ _ _ _ _ _  h hI (lv_sub hl [2, 4, 5, 6, 1, 0] rfl)
set_option maxRecDepth 100000 in
set_option maxHeartbeats 4000000 in
theorem cR_X3_runBody (l : Launch) (D : va_G) (t : gT) (ad z : Nat → Nat) (hJ : gJ shX ad) : ∀ d : Nat, (∀ (σ : gS) (x1 : Int32) (x2 : Int32) (x3 : Int32) (x4 : Int32) (q : Int32 × gS), (fR_X3_runBody d).1 σ x1 x2 x3 x4 = some q → Met l yX3_runBody (Cond.code yX3_runBody cX3_runBody 6 (some .int) :: lw_tb) (gR (3 + d) (102 + d * 26)) (gPc shX t ad D z [.ref (ad 41), .int x1, .int x2, .int x3, .int x4] σ) (gQi shX t ad D q.1 q.2) 0 0 (gA shX ad)) ∧ (∀ (σ : gS) (x1 : Int32) (x2 : Int32) (x3 : Int32) (x4 : Int32) (q : Int32 × gS), (fR_X3_runBody d).2 σ x1 x2 x3 x4 = some q → Met l yX3_runFrom (Cond.code yX3_runFrom cX3_runFrom 7 (some .int) :: lw_tb) (gR (3 + d) (102 + d * 26)) (gPc shX t ad D z [.ref (ad 41), .int x1, .int x2, .int x3, .int x4] σ) (gQi shX t ad D q.1 q.2) 0 0 (gA shX ad)) := by
  intro d
  induction d with
  | zero => exact ⟨fun _ _ _ _ _ _ h => absurd h (by simp [fR_X3_runBody]), fun _ _ _ _ _ _ h => absurd h (by simp [fR_X3_runBody])⟩
  | succ d ih =>
    rw [show 102 + (d + 1) * 26 = 102 + d * 26 + 26 by rw [Nat.succ_mul, Nat.add_assoc]]
    exact ⟨fun σ x1 x2 x3 x4 q h => cr_X3_runBody l D t ad z hJ (fr := 3 + d) (lo := 102 + d * 26) (by omega) (by omega) ih.1 ih.2 σ x1 x2 x3 x4 q h, fun σ x1 x2 x3 x4 q h => cr_X3_runFrom l D t ad z hJ (fr := 3 + d) (lo := 102 + d * 26) (by omega) (by omega) ih.1 ih.2 σ x1 x2 x3 x4 q h⟩
theorem c_X3_runBody (l : Launch) (D : va_G) (t : gT) (ad z : Nat → Nat) (hJ : gJ shX ad) (σ : gS) (x1 : Int32) (x2 : Int32) (x3 : Int32) (x4 : Int32) (q : Int32 × gS) (h : f_X3_runBody σ x1 x2 x3 x4 = some q) : Met l yX3_runBody (Cond.code yX3_runBody cX3_runBody 6 (some .int) :: lw_tb) (gR 67 1766) (gPc shX t ad D z [.ref (ad 41), .int x1, .int x2, .int x3, .int x4] σ) (gQi shX t ad D q.1 q.2) 0 0 (gA shX ad) := (cR_X3_runBody l D t ad z hJ 64).1 σ x1 x2 x3 x4 q h
theorem c_X3_runFrom (l : Launch) (D : va_G) (t : gT) (ad z : Nat → Nat) (hJ : gJ shX ad) (σ : gS) (x1 : Int32) (x2 : Int32) (x3 : Int32) (x4 : Int32) (q : Int32 × gS) (h : f_X3_runFrom σ x1 x2 x3 x4 = some q) : Met l yX3_runFrom (Cond.code yX3_runFrom cX3_runFrom 7 (some .int) :: lw_tb) (gR 67 1766) (gPc shX t ad D z [.ref (ad 41), .int x1, .int x2, .int x3, .int x4] σ) (gQi shX t ad D q.1 q.2) 0 0 (gA shX ad) := (cR_X3_runBody l D t ad z hJ 64).2 σ x1 x2 x3 x4 q h
set_option maxRecDepth 100000 in
set_option maxHeartbeats 4000000 in
theorem c_X3_perform (l : Launch) (D : va_G) (t : gT) (ad z : Nat → Nat) (hJ : gJ shX ad) (σ : gS) (x1 : Int32) (x2 : Int32) (x3 : Int32) (q : Int32 × gS) (h : f_X3_perform σ x1 x2 x3 = some q) : Met l yX3_perform (Cond.code yX3_perform cX3_perform 4 (some .int) :: lw_tb) (gR 68 1792) (gPc shX t ad D z [.ref (ad 41), .int x1, .int x2, .int x3] σ) (gQi shX t ad D q.1 q.2) 0 0 (gA shX ad) := by
  refine gMet "NineKeysRound$Keys" rfl (by decide) hJ (Nat.le_of_ble_eq_true rfl) ?_
  intro p e s m below meth c ls C hr hI hl
  have hx := C.1
  have hb := C.2.1
  have hl : lv_has ls 4 [(0, .ref (ad 41)), (1, .int x1), (2, .int x2), (3, .int x3)] := hl
  unfold f_X3_perform at h
  refine lv_aload_n hx hb dX3_perform_0 rfl (lv_at hl 0 rfl) ?_
  refine lv_iconst hx hb dX3_perform_1 ci_0 ?_
  refine fp_219 C hI shX_41 rfl dX3_perform_2 (fun H locs hI => ?_)
  refine gx_st h hI (fun s1 h hI => ?_)
  refine lv_aload_n hx hb dX3_perform_5 rfl (lv_at hl 0 rfl) ?_
  refine lv_iload_n hx hb dX3_perform_6 rfl (lv_at hl 1 rfl) ?_
  refine h_callvi_o (rest := []) C hI hl.1 shX_41 rfl yv_X3_isKey k_969 h (fun q hq => c_X3_isKey l D t ad z C.2.2.2.2.2.2.1 s1 x1 q hq) (As := [.int x1]) rfl rfl ⟨Nat.le_of_ble_eq_true rfl, Nat.le_of_ble_eq_true rfl⟩ (Nat.le_of_ble_eq_true rfl) dX3_perform_7 (fun q2 H locs h hI => ?_)
  refine hif_eq (tgt := 22) C dX3_perform_10 (by decide) h (fun h => ?_) (fun h => ?_)
  · refine lv_iconst hx hb dX3_perform_22 ci_0 ?_
    exact h_iret_w C hr hI h dX3_perform_23
  · refine lv_iload_n hx hb dX3_perform_13 rfl (lv_at hl 2 rfl) ?_
    refine hif_lt (tgt := 22) C dX3_perform_14 (by decide) h (fun h => ?_) (fun h => ?_)
    · refine lv_iconst hx hb dX3_perform_22 ci_0 ?_
      exact h_iret_w C hr hI h dX3_perform_23
    · refine lv_iload_n hx hb dX3_perform_17 rfl (lv_at hl 2 rfl) ?_
      refine lv_iconst hx hb dX3_perform_18 ci_4 ?_
      refine hicmp_lt (tgt := 24) C dX3_perform_19 (by decide) h (fun h => ?_) (fun h => ?_)
      · refine lv_aload_n hx hb dX3_perform_24 rfl (lv_at hl 0 rfl) ?_
        refine lv_iload_n hx hb dX3_perform_25 rfl (lv_at hl 1 rfl) ?_
        refine fp_221 C hI shX_41 rfl dX3_perform_26 (fun H locs hI => ?_)
        refine gx_st h hI (fun s3 h hI => ?_)
        refine lv_aload_n hx hb dX3_perform_29 rfl (lv_at hl 0 rfl) ?_
        refine lv_aload_n hx hb dX3_perform_30 rfl (lv_at hl 0 rfl) ?_
        refine fr_214 C hI shX_41 rfl dX3_perform_31 ?_
        refine lv_iload_n hx hb dX3_perform_34 rfl (lv_at hl 1 rfl) ?_
        refine gx_iald C hI shX_42 h dX3_perform_35 (fun h => ?_)
        refine lv_iload_n hx hb dX3_perform_36 rfl (lv_at hl 2 rfl) ?_
        refine lv_iload_n hx hb dX3_perform_37 rfl (lv_at hl 3 rfl) ?_
        refine lv_iconst hx hb dX3_perform_38 ci_0 ?_
        refine h_callvi_w (rest := []) C hI hl.1 shX_41 rfl yv_X3_runFrom k_973 h (fun q hq => c_X3_runFrom l D t ad z C.2.2.2.2.2.2.1 s3 (s3.1 42 (x1).toNatClampNeg) x2 x3 0 q hq) (As := [.int (s3.1 42 (x1).toNatClampNeg), .int x2, .int x3, .int 0]) rfl rfl ⟨Nat.le_of_ble_eq_true rfl, Nat.le_of_ble_eq_true rfl⟩ (Nat.le_of_ble_eq_true rfl) dX3_perform_39 (fun q4 H locs h hI => ?_)
        exact h_iret_w C hr hI h dX3_perform_42
      · refine lv_iconst hx hb dX3_perform_22 ci_0 ?_
        exact h_iret_w C hr hI h dX3_perform_23
set_option maxRecDepth 100000 in
set_option maxHeartbeats 4000000 in
theorem c_X4_take (l : Launch) (D : va_G) (t : gT) (ad z : Nat → Nat) (hJ : gJ shX ad) (σ : gS) (x1 : Int32) (q : Int32 × gS) (h : f_X4_take σ x1 = some q) : Met l yX4_take (Cond.code yX4_take cX4_take 2 (some .boolean) :: lw_tb) (gR 1 60) (gPc shX t ad D z [.ref (ad 7), .int x1] σ) (gQi shX t ad D q.1 q.2) 0 0 (gA shX ad) := by
  refine gMet "NineKeysRound$Law" rfl (by decide) hJ (Nat.le_of_ble_eq_true rfl) ?_
  intro p e s m below meth c ls C hr hI hl
  have hx := C.1
  have hb := C.2.1
  have hl : lv_has ls 2 [(0, .ref (ad 7)), (1, .int x1)] := hl
  unfold f_X4_take at h
  refine lv_aload_n hx hb dX4_take_0 rfl (lv_at hl 0 rfl) ?_
  refine fg_84 C hI shX_7 rfl dX4_take_1 ?_
  refine lv_bipush hx hb dX4_take_4 cb_120 ?_
  refine hicmp_lt (tgt := 11) C dX4_take_6 (by decide) h (fun h => ?_) (fun h => ?_)
  · refine lv_aload_n hx hb dX4_take_11 rfl (lv_at hl 0 rfl) ?_
    refine fr_75 C hI shX_7 rfl dX4_take_12 ?_
    refine lv_aload_n hx hb dX4_take_15 rfl (lv_at hl 0 rfl) ?_
    refine lv_dup hx hb dX4_take_16 rfl ?_
    refine fg_84 C hI shX_7 rfl dX4_take_17 ?_
    refine gx_topi h (fun v1 h => ?_)
    refine lv_dup_x1 hx hb dX4_take_20 rfl rfl ?_
    refine lv_iconst hx hb dX4_take_21 ci_1 ?_
    refine lv_iadd hx hb dX4_take_22 ?_
    refine fp_84 C hI shX_7 rfl dX4_take_23 (fun H locs hI => ?_)
    refine gx_st h hI (fun s2 h hI => ?_)
    refine lv_iload_n hx hb dX4_take_26 rfl (lv_at hl 1 rfl) ?_
    refine gx_iast C hI shX_8 h dX4_take_27 (fun H locs h hI => ?_)
    refine gx_st h hI (fun s3 h hI => ?_)
    refine lv_iconst hx hb dX4_take_28 ci_1 ?_
    exact h_zret_w C hr hI h dX4_take_29
  · refine lv_iconst hx hb dX4_take_9 ci_0 ?_
    exact h_zret_w C hr hI h dX4_take_10
set_option maxRecDepth 100000 in
set_option maxHeartbeats 4000000 in
theorem c_X4_peek (l : Launch) (D : va_G) (t : gT) (ad z : Nat → Nat) (hJ : gJ shX ad) (σ : gS) (q : Int32) (h : f_X4_peek σ = some q) : Met l yX4_peek (Cond.code yX4_peek cX4_peek 1 (some .int) :: lw_tb) (gR 1 60) (gPc shX t ad D z [.ref (ad 7)] σ) (gQi shX t ad D q σ) 0 0 (gA shX ad) := by
  refine gMet "NineKeysRound$Law" rfl (by decide) hJ (Nat.le_of_ble_eq_true rfl) ?_
  intro p e s m below meth c ls C hr hI hl
  have hx := C.1
  have hb := C.2.1
  have hl : lv_has ls 1 [(0, .ref (ad 7))] := hl
  unfold f_X4_peek at h
  refine lv_aload_n hx hb dX4_peek_0 rfl (lv_at hl 0 rfl) ?_
  refine fg_82 C hI shX_7 rfl dX4_peek_1 ?_
  refine lv_aload_n hx hb dX4_peek_4 rfl (lv_at hl 0 rfl) ?_
  refine fg_84 C hI shX_7 rfl dX4_peek_5 ?_
  refine hicmp_ge (tgt := 23) C dX4_peek_8 (by decide) h (fun h => ?_) (fun h => ?_)
  · refine lv_iconst hx hb dX4_peek_23 ci_m1 ?_
    exact h_iret_o C hr hI h dX4_peek_24
  · refine lv_aload_n hx hb dX4_peek_11 rfl (lv_at hl 0 rfl) ?_
    refine fr_75 C hI shX_7 rfl dX4_peek_12 ?_
    refine lv_aload_n hx hb dX4_peek_15 rfl (lv_at hl 0 rfl) ?_
    refine fg_82 C hI shX_7 rfl dX4_peek_16 ?_
    refine gx_iald C hI shX_8 h dX4_peek_19 (fun h => ?_)
    refine lv_goto (tgt := 24) hx hb dX4_peek_20 (by decide) ?_
    exact h_iret_o C hr hI h dX4_peek_24
set_option maxRecDepth 100000 in
set_option maxHeartbeats 4000000 in
theorem c_X4_bindingOf (l : Launch) (D : va_G) (t : gT) (ad z : Nat → Nat) (hJ : gJ shX ad) (σ : gS) (x0 : Int32) (q : Int32) (h : f_X4_bindingOf σ x0 = some q) : Met l yX4_bindingOf (Cond.code yX4_bindingOf cX4_bindingOf 1 (some .int) :: lw_tb) (gR 1 60) (gPc shX t ad D z [.int x0] σ) (gQi shX t ad D q σ) 0 0 (gA shX ad) := by
  refine gMet "NineKeysRound$Law" rfl (by decide) hJ (Nat.le_of_ble_eq_true rfl) ?_
  intro p e s m below meth c ls C hr hI hl
  have hx := C.1
  have hb := C.2.1
  have hl : lv_has ls 1 [(0, .int x0)] := hl
  unfold f_X4_bindingOf at h
  refine lv_iload_n hx hb dX4_bindingOf_0 rfl (lv_at hl 0 rfl) ?_
  by_cases hc_ : x0 = 37
  · rw [if_pos hc_] at h
    refine lv_lookup (tgt := 100) (off := 99) hx hb dX4_bindingOf_1 (by decide) (by rw [hc_]; decide) (by decide) ?_
    refine lv_iconst hx hb dX4_bindingOf_100 ci_4 ?_
    exact h_iret_o C hr hI h dX4_bindingOf_101
  · rw [if_neg hc_] at h
    have hn_0 := hc_
    by_cases hc_ : x0 = 38
    · rw [if_pos hc_] at h
      refine lv_lookup (tgt := 94) (off := 93) hx hb dX4_bindingOf_1 (by decide) (by rw [hc_]; decide) (by decide) ?_
      refine lv_iconst hx hb dX4_bindingOf_94 ci_1 ?_
      exact h_iret_o C hr hI h dX4_bindingOf_95
    · rw [if_neg hc_] at h
      have hn_1 := hc_
      by_cases hc_ : x0 = 42
      · rw [if_pos hc_] at h
        refine lv_lookup (tgt := 100) (off := 99) hx hb dX4_bindingOf_1 (by decide) (by rw [hc_]; decide) (by decide) ?_
        refine lv_iconst hx hb dX4_bindingOf_100 ci_4 ?_
        exact h_iret_o C hr hI h dX4_bindingOf_101
      · rw [if_neg hc_] at h
        have hn_2 := hc_
        by_cases hc_ : x0 = 43
        · rw [if_pos hc_] at h
          refine lv_lookup (tgt := 98) (off := 97) hx hb dX4_bindingOf_1 (by decide) (by rw [hc_]; decide) (by decide) ?_
          refine lv_iconst hx hb dX4_bindingOf_98 ci_3 ?_
          exact h_iret_o C hr hI h dX4_bindingOf_99
        · rw [if_neg hc_] at h
          have hn_3 := hc_
          by_cases hc_ : x0 = 45
          · rw [if_pos hc_] at h
            refine lv_lookup (tgt := 98) (off := 97) hx hb dX4_bindingOf_1 (by decide) (by rw [hc_]; decide) (by decide) ?_
            refine lv_iconst hx hb dX4_bindingOf_98 ci_3 ?_
            exact h_iret_o C hr hI h dX4_bindingOf_99
          · rw [if_neg hc_] at h
            have hn_4 := hc_
            by_cases hc_ : x0 = 47
            · rw [if_pos hc_] at h
              refine lv_lookup (tgt := 100) (off := 99) hx hb dX4_bindingOf_1 (by decide) (by rw [hc_]; decide) (by decide) ?_
              refine lv_iconst hx hb dX4_bindingOf_100 ci_4 ?_
              exact h_iret_o C hr hI h dX4_bindingOf_101
            · rw [if_neg hc_] at h
              have hn_5 := hc_
              by_cases hc_ : x0 = 60
              · rw [if_pos hc_] at h
                refine lv_lookup (tgt := 96) (off := 95) hx hb dX4_bindingOf_1 (by decide) (by rw [hc_]; decide) (by decide) ?_
                refine lv_iconst hx hb dX4_bindingOf_96 ci_2 ?_
                exact h_iret_o C hr hI h dX4_bindingOf_97
              · rw [if_neg hc_] at h
                have hn_6 := hc_
                by_cases hc_ : x0 = 61
                · rw [if_pos hc_] at h
                  refine lv_lookup (tgt := 96) (off := 95) hx hb dX4_bindingOf_1 (by decide) (by rw [hc_]; decide) (by decide) ?_
                  refine lv_iconst hx hb dX4_bindingOf_96 ci_2 ?_
                  exact h_iret_o C hr hI h dX4_bindingOf_97
                · rw [if_neg hc_] at h
                  have hn_7 := hc_
                  by_cases hc_ : x0 = 62
                  · rw [if_pos hc_] at h
                    refine lv_lookup (tgt := 96) (off := 95) hx hb dX4_bindingOf_1 (by decide) (by rw [hc_]; decide) (by decide) ?_
                    refine lv_iconst hx hb dX4_bindingOf_96 ci_2 ?_
                    exact h_iret_o C hr hI h dX4_bindingOf_97
                  · rw [if_neg hc_] at h
                    have hn_8 := hc_
                    by_cases hc_ : x0 = 124
                    · rw [if_pos hc_] at h
                      refine lv_lookup (tgt := 92) (off := 91) hx hb dX4_bindingOf_1 (by decide) (by rw [hc_]; decide) (by decide) ?_
                      refine lv_iconst hx hb dX4_bindingOf_92 ci_0 ?_
                      exact h_iret_o C hr hI h dX4_bindingOf_93
                    · rw [if_neg hc_] at h
                      have hn_9 := hc_
                      have hout : Op.lookupswitch.offset (#[(37, 99), (38, 93), (42, 99), (43, 97), (45, 97), (47, 99), (60, 95), (61, 95), (62, 95), (124, 91)] : Array (Int × Int)).toList 101 x0.toInt = 101 := by
                        have e0 := tsne (c := 37) (z := 37) (by decide) hn_0
                        have e1 := tsne (c := 38) (z := 38) (by decide) hn_1
                        have e2 := tsne (c := 42) (z := 42) (by decide) hn_2
                        have e3 := tsne (c := 43) (z := 43) (by decide) hn_3
                        have e4 := tsne (c := 45) (z := 45) (by decide) hn_4
                        have e5 := tsne (c := 47) (z := 47) (by decide) hn_5
                        have e6 := tsne (c := 60) (z := 60) (by decide) hn_6
                        have e7 := tsne (c := 61) (z := 61) (by decide) hn_7
                        have e8 := tsne (c := 62) (z := 62) (by decide) hn_8
                        have e9 := tsne (c := 124) (z := 124) (by decide) hn_9
                        exact lkout _ _ _ (List.forall_mem_cons.mpr ⟨Ne.symm e0, List.forall_mem_cons.mpr ⟨Ne.symm e1, List.forall_mem_cons.mpr ⟨Ne.symm e2, List.forall_mem_cons.mpr ⟨Ne.symm e3, List.forall_mem_cons.mpr ⟨Ne.symm e4, List.forall_mem_cons.mpr ⟨Ne.symm e5, List.forall_mem_cons.mpr ⟨Ne.symm e6, List.forall_mem_cons.mpr ⟨Ne.symm e7, List.forall_mem_cons.mpr ⟨Ne.symm e8, List.forall_mem_cons.mpr ⟨Ne.symm e9, fun _ hh => absurd hh List.not_mem_nil⟩⟩⟩⟩⟩⟩⟩⟩⟩⟩)
                      refine lv_lookup (tgt := 102) hx hb dX4_bindingOf_1 (by decide) hout (by decide) ?_
                      refine lv_iconst hx hb dX4_bindingOf_102 ci_m1 ?_
                      exact h_iret_o C hr hI h dX4_bindingOf_103
set_option maxRecDepth 100000 in
set_option maxHeartbeats 4000000 in
theorem c_X4_emit (l : Launch) (D : va_G) (t : gT) (ad z : Nat → Nat) (hJ : gJ shX ad) (σ : gS) (x1 : Int32) (q : gS) (h : f_X4_emit σ x1 = some q) : Met l yX4_emit (Cond.code yX4_emit cX4_emit 2 (none) :: lw_tb) (gR 1 60) (gPc shX t ad D z [.ref (ad 7), .int x1] σ) (gQv shX t ad D q) 0 0 (gA shX ad) := by
  refine gMet "NineKeysRound$Law" rfl (by decide) hJ (Nat.le_of_ble_eq_true rfl) ?_
  intro p e s m below meth c ls C hr hI hl
  have hx := C.1
  have hb := C.2.1
  have hl : lv_has ls 2 [(0, .ref (ad 7)), (1, .int x1)] := hl
  unfold f_X4_emit at h
  refine lv_aload_n hx hb dX4_emit_0 rfl (lv_at hl 0 rfl) ?_
  refine fg_80 C hI shX_7 rfl dX4_emit_1 ?_
  refine lv_sipush hx hb dX4_emit_4 cs_256 ?_
  refine hicmp_ge (tgt := 27) C dX4_emit_7 (by decide) h (fun h => ?_) (fun h => ?_)
  · exact h_vret_w C hr hI h dX4_emit_27
  · refine lv_aload_n hx hb dX4_emit_10 rfl (lv_at hl 0 rfl) ?_
    refine fr_76 C hI shX_7 rfl dX4_emit_11 ?_
    refine lv_aload_n hx hb dX4_emit_14 rfl (lv_at hl 0 rfl) ?_
    refine lv_dup hx hb dX4_emit_15 rfl ?_
    refine fg_80 C hI shX_7 rfl dX4_emit_16 ?_
    refine gx_topi h (fun v1 h => ?_)
    refine lv_dup_x1 hx hb dX4_emit_19 rfl rfl ?_
    refine lv_iconst hx hb dX4_emit_20 ci_1 ?_
    refine lv_iadd hx hb dX4_emit_21 ?_
    refine fp_80 C hI shX_7 rfl dX4_emit_22 (fun H locs hI => ?_)
    refine gx_st h hI (fun s2 h hI => ?_)
    refine lv_iload_n hx hb dX4_emit_25 rfl (lv_at hl 1 rfl) ?_
    refine gx_iast C hI shX_9 h dX4_emit_26 (fun H locs h hI => ?_)
    refine gx_st h hI (fun s3 h hI => ?_)
    exact h_vret_w C hr hI h dX4_emit_27
set_option maxRecDepth 100000 in
set_option maxHeartbeats 4000000 in
theorem c_X4_isDigit (l : Launch) (D : va_G) (t : gT) (ad z : Nat → Nat) (hJ : gJ shX ad) (σ : gS) (x0 : Int32) (q : Int32) (h : f_X4_isDigit σ x0 = some q) : Met l yX4_isDigit (Cond.code yX4_isDigit cX4_isDigit 1 (some .boolean) :: lw_tb) (gR 1 60) (gPc shX t ad D z [.int x0] σ) (gQi shX t ad D q σ) 0 0 (gA shX ad) := by
  refine gMet "NineKeysRound$Law" rfl (by decide) hJ (Nat.le_of_ble_eq_true rfl) ?_
  intro p e s m below meth c ls C hr hI hl
  have hx := C.1
  have hb := C.2.1
  have hl : lv_has ls 1 [(0, .int x0)] := hl
  unfold f_X4_isDigit at h
  refine lv_iload_n hx hb dX4_isDigit_0 rfl (lv_at hl 0 rfl) ?_
  refine lv_bipush hx hb dX4_isDigit_1 cb_48 ?_
  refine hicmp_lt (tgt := 16) C dX4_isDigit_3 (by decide) h (fun h => ?_) (fun h => ?_)
  · refine lv_iconst hx hb dX4_isDigit_16 ci_0 ?_
    exact h_zret_o C hr hI h dX4_isDigit_17
  · refine lv_iload_n hx hb dX4_isDigit_6 rfl (lv_at hl 0 rfl) ?_
    refine lv_bipush hx hb dX4_isDigit_7 cb_57 ?_
    refine hicmp_gt (tgt := 16) C dX4_isDigit_9 (by decide) h (fun h => ?_) (fun h => ?_)
    · refine lv_iconst hx hb dX4_isDigit_16 ci_0 ?_
      exact h_zret_o C hr hI h dX4_isDigit_17
    · refine lv_iconst hx hb dX4_isDigit_12 ci_1 ?_
      refine lv_goto (tgt := 17) hx hb dX4_isDigit_13 (by decide) ?_
      exact h_zret_o C hr hI h dX4_isDigit_17
set_option maxRecDepth 100000 in
set_option maxHeartbeats 4000000 in
theorem w_X4_readNumber_48 {p : Program} {l : Launch} {e : Env} {s : State} {m : MethodId} {args : Array Value} {below : List Frame} {meth : Method} {c : Code} {D : va_G} {t : gT} {ad z : Nat → Nat} (C : gC p s m args meth c cX4_readNumber 3 "NineKeysRound$Law" D t shX ad z) (hr : meth.sig.returnType = none) {r : gS} : ∀ (x1 : Int32) (σ : gS) (H : Heap) (locs : List Loc) (ls : Array Slot), f_X4_readNumber_48 x1 σ = some r → gI shX t ad D s.heap σ H locs → lv_has ls 3 [(0, .ref (ad 7)), (1, .int x1)] → W p l e (gR 2 81) s m args below meth c H locs 0 0 (MQ below (gQv shX t ad D r) args s 0 0 (gA shX ad)) (F0 m 48 ls []) := by
  have hx := C.1
  have hb := C.2.1
  intro x1 σ H locs ls  h hI hl
  unfold f_X4_readNumber_48 at h
  refine lv_aload_n hx hb dX4_readNumber_48 rfl (lv_at hl 0 rfl) ?_
  refine lv_bipush hx hb dX4_readNumber_49 cb_35 ?_
  refine h_callvv_w (rest := []) C hI hl.1 shX_7 rfl yv_X4_emit k_414 h (fun q hq => c_X4_emit l D t ad z C.2.2.2.2.2.2.1 (σ) 35 q hq) (As := [.int 35]) rfl rfl ⟨Nat.le_of_ble_eq_true rfl, Nat.le_of_ble_eq_true rfl⟩ (Nat.le_of_ble_eq_true rfl) dX4_readNumber_51 (fun q1 H locs h hI => ?_)
  refine lv_aload_n hx hb dX4_readNumber_54 rfl (lv_at hl 0 rfl) ?_
  refine lv_iload_n hx hb dX4_readNumber_55 rfl (lv_at hl 1 rfl) ?_
  refine h_callvv_w (rest := []) C hI hl.1 shX_7 rfl yv_X4_emit k_414 h (fun q hq => c_X4_emit l D t ad z C.2.2.2.2.2.2.1 q1 x1 q hq) (As := [.int x1]) rfl rfl ⟨Nat.le_of_ble_eq_true rfl, Nat.le_of_ble_eq_true rfl⟩ (Nat.le_of_ble_eq_true rfl) dX4_readNumber_56 (fun q2 H locs h hI => ?_)
  exact h_vret_w C hr hI h dX4_readNumber_59
set_option maxRecDepth 100000 in
set_option maxHeartbeats 4000000 in
theorem w_X4_readNumber_4 {p : Program} {l : Launch} {e : Env} {s : State} {m : MethodId} {args : Array Value} {below : List Frame} {meth : Method} {c : Code} {D : va_G} {t : gT} {ad z : Nat → Nat} (C : gC p s m args meth c cX4_readNumber 3 "NineKeysRound$Law" D t shX ad z) (hr : meth.sig.returnType = none) {r : gS} : ∀ (n : Nat) (x1 : Int32) (x2 : Int32) (σ : gS) (H : Heap) (locs : List Loc) (ls : Array Slot), f_X4_readNumber_4 n x1 x2 σ = some r → gI shX t ad D s.heap σ H locs → lv_has ls 3 [(0, .ref (ad 7)), (1, .int x1), (2, .int x2)] → W p l e (gR 2 81) s m args below meth c H locs 0 0 (MQ below (gQv shX t ad D r) args s 0 0 (gA shX ad)) (F0 m 4 ls []) := by
  have hx := C.1
  have hb := C.2.1
  intro n
  induction n with
  | zero =>
    intro x1 x2 σ H locs ls  h
    exact absurd h (by simp [f_X4_readNumber_4])
  | succ n ih =>
    intro x1 x2 σ H locs ls  h hI hl
    unfold f_X4_readNumber_4 at h
    refine lv_iload_n hx hb dX4_readNumber_4 rfl (lv_at hl 2 rfl) ?_
    refine lv_iconst hx hb dX4_readNumber_5 ci_4 ?_
    refine hicmp_ge (tgt := 48) C dX4_readNumber_6 (by decide) h (fun h => ?_) (fun h => ?_)
    · exact w_X4_readNumber_48 C hr    _ _ _ _ _  h hI (lv_sub hl [0, 1] rfl)
    · refine lv_aload_n hx hb dX4_readNumber_9 rfl (lv_at hl 0 rfl) ?_
      refine h_callvi_o (rest := []) C hI hl.1 shX_7 rfl yv_X4_peek k_403 h (fun q hq => c_X4_peek l D t ad z C.2.2.2.2.2.2.1 (σ) q hq) (As := []) rfl rfl ⟨Nat.le_of_ble_eq_true rfl, Nat.le_of_ble_eq_true rfl⟩ (Nat.le_of_ble_eq_true rfl) dX4_readNumber_10 (fun q1 H locs h hI => ?_)
      refine h_callsi_o (rest := []) C hI hl.1 ys_X4_isDigit k_407 h (fun q hq => c_X4_isDigit l D t ad z C.2.2.2.2.2.2.1 (σ) q1 q hq) (As := [.int q1]) rfl rfl ⟨Nat.le_of_ble_eq_true rfl, Nat.le_of_ble_eq_true rfl⟩ (Nat.le_of_ble_eq_true rfl) dX4_readNumber_13 (fun q2 H locs h hI => ?_)
      refine hif_eq (tgt := 48) C dX4_readNumber_16 (by decide) h (fun h => ?_) (fun h => ?_)
      · exact w_X4_readNumber_48 C hr    _ _ _ _ _  h hI (lv_sub hl [0, 1] rfl)
      · refine lv_bipush hx hb dX4_readNumber_19 cb_10 ?_
        refine lv_iload_n hx hb dX4_readNumber_21 rfl (lv_at hl 1 rfl) ?_
        refine lv_imul hx hb dX4_readNumber_22 ?_
        refine lv_aload_n hx hb dX4_readNumber_23 rfl (lv_at hl 0 rfl) ?_
        refine h_callvi_o (rest := [.int (10 * x1)]) C hI hl.1 shX_7 rfl yv_X4_peek k_403 h (fun q hq => c_X4_peek l D t ad z C.2.2.2.2.2.2.1 (σ) q hq) (As := []) rfl rfl ⟨Nat.le_of_ble_eq_true rfl, Nat.le_of_ble_eq_true rfl⟩ (Nat.le_of_ble_eq_true rfl) dX4_readNumber_24 (fun q3 H locs h hI => ?_)
        refine lv_iadd hx hb dX4_readNumber_27 ?_
        refine lv_bipush hx hb dX4_readNumber_28 cb_48 ?_
        refine lv_isub hx hb dX4_readNumber_30 ?_
        refine gx_topi h (fun v4 h => ?_)
        refine lv_istore_n (lv' := [(1, .int v4), (0, .ref (ad 7)), (2, .int x2)]) hx hb dX4_readNumber_31 rfl hl (by decide) rfl (fun ls hl => ?_)
        refine lv_aload_n hx hb dX4_readNumber_32 rfl (lv_at hl 1 rfl) ?_
        refine lv_dup hx hb dX4_readNumber_33 rfl ?_
        refine fg_82 C hI shX_7 rfl dX4_readNumber_34 ?_
        refine lv_iconst hx hb dX4_readNumber_37 ci_1 ?_
        refine lv_iadd hx hb dX4_readNumber_38 ?_
        refine fp_82 C hI shX_7 rfl dX4_readNumber_39 (fun H locs hI => ?_)
        refine gx_st h hI (fun s5 h hI => ?_)
        refine h_iinc C hl dX4_readNumber_42 2 rfl ci_1 h (by decide) (lvf := fun v6 => [(2, .int v6), (1, .int v4), (0, .ref (ad 7))]) (fun _ => rfl) (fun v6 ls h hl => ?_)
        refine lv_goto (tgt := 4) hx hb dX4_readNumber_45 (by decide) ?_
        exact ih _ _ _ _ _ _  h hI (lv_sub hl [2, 1, 0] rfl)
set_option maxRecDepth 100000 in
set_option maxHeartbeats 4000000 in
theorem c_X4_readNumber (l : Launch) (D : va_G) (t : gT) (ad z : Nat → Nat) (hJ : gJ shX ad) (σ : gS) (q : gS) (h : f_X4_readNumber σ = some q) : Met l yX4_readNumber (Cond.code yX4_readNumber cX4_readNumber 3 (none) :: lw_tb) (gR 2 81) (gPc shX t ad D z [.ref (ad 7)] σ) (gQv shX t ad D q) 0 0 (gA shX ad) := by
  refine gMet "NineKeysRound$Law" rfl (by decide) hJ (Nat.le_of_ble_eq_true rfl) ?_
  intro p e s m below meth c ls C hr hI hl
  have hx := C.1
  have hb := C.2.1
  have hl : lv_has ls 3 [(0, .ref (ad 7))] := hl
  unfold f_X4_readNumber at h
  refine lv_iconst hx hb dX4_readNumber_0 ci_0 ?_
  refine lv_istore_n (lv' := [(1, .int 0), (0, .ref (ad 7))]) hx hb dX4_readNumber_1 rfl hl (by decide) rfl (fun ls hl => ?_)
  refine lv_iconst hx hb dX4_readNumber_2 ci_0 ?_
  refine lv_istore_n (lv' := [(2, .int 0), (1, .int 0), (0, .ref (ad 7))]) hx hb dX4_readNumber_3 rfl hl (by decide) rfl (fun ls hl => ?_)
  exact w_X4_readNumber_4 C hr    _ _ _ _ _ _ _  h hI (lv_sub hl [2, 1, 0] rfl)
set_option maxRecDepth 100000 in
set_option maxHeartbeats 4000000 in
theorem c_J0_isLatin1_aae02 (l : Launch) (D : va_G) (t : gT) (ad z : Nat → Nat) (hJ : gJ shX ad) (σ : gS) (q : Int32) (h : f_J0_isLatin1_aae02 σ = some q) : Met l yJ0_isLatin1_aae02 (Cond.code yJ0_isLatin1_aae02 cJ0_isLatin1_aae02 1 (some .boolean) :: lw_tb) (gR 1 60) (gPc shX t ad D z [.ref (z 4)] σ) (gQi shX t ad D q σ) 0 0 (gA shX ad) := by
  refine gMet "java/lang/String" rfl (by decide) hJ (Nat.le_of_ble_eq_true rfl) ?_
  intro p e s m below meth c ls C hr hI hl
  have hx := C.1
  have hb := C.2.1
  have hl : lv_has ls 1 [(0, .ref (z 4))] := hl
  unfold f_J0_isLatin1_aae02 at h
  refine gx_comp C hI k_431 dJ0_isLatin1_aae02_0 ?_
  refine hif_eq (tgt := 17) C dJ0_isLatin1_aae02_3 (by decide) h (fun h => ?_) (fun h => ?_)
  · refine lv_iconst hx hb dJ0_isLatin1_aae02_17 ci_0 ?_
    exact h_zret_o C hr hI h dJ0_isLatin1_aae02_18
  · refine lv_aload_n hx hb dJ0_isLatin1_aae02_6 rfl (lv_at hl 0 rfl) ?_
    refine gx_scod C hI k_1656 dJ0_isLatin1_aae02_7 ?_
    refine hif_ne (tgt := 17) C dJ0_isLatin1_aae02_10 (by decide) h (fun h => ?_) (fun h => ?_)
    · refine lv_iconst hx hb dJ0_isLatin1_aae02_17 ci_0 ?_
      exact h_zret_o C hr hI h dJ0_isLatin1_aae02_18
    · refine lv_iconst hx hb dJ0_isLatin1_aae02_13 ci_1 ?_
      refine lv_goto (tgt := 18) hx hb dJ0_isLatin1_aae02_14 (by decide) ?_
      exact h_zret_o C hr hI h dJ0_isLatin1_aae02_18
set_option maxRecDepth 100000 in
set_option maxHeartbeats 4000000 in
theorem c_J0_coder_7d493 (l : Launch) (D : va_G) (t : gT) (ad z : Nat → Nat) (hJ : gJ shX ad) (σ : gS) (q : Int32) (h : f_J0_coder_7d493 σ = some q) : Met l yJ0_coder_7d493 (Cond.code yJ0_coder_7d493 cJ0_coder_7d493 1 (some .byte) :: lw_tb) (gR 1 60) (gPc shX t ad D z [.ref (z 4)] σ) (gQi shX t ad D q σ) 0 0 (gA shX ad) := by
  refine gMet "java/lang/String" rfl (by decide) hJ (Nat.le_of_ble_eq_true rfl) ?_
  intro p e s m below meth c ls C hr hI hl
  have hx := C.1
  have hb := C.2.1
  have hl : lv_has ls 1 [(0, .ref (z 4))] := hl
  unfold f_J0_coder_7d493 at h
  refine gx_comp C hI k_431 dJ0_coder_7d493_0 ?_
  refine hif_eq (tgt := 13) C dJ0_coder_7d493_3 (by decide) h (fun h => ?_) (fun h => ?_)
  · refine lv_iconst hx hb dJ0_coder_7d493_13 ci_1 ?_
    exact h_bret_o C hr hI h dJ0_coder_7d493_14
  · refine lv_aload_n hx hb dJ0_coder_7d493_6 rfl (lv_at hl 0 rfl) ?_
    refine gx_scod C hI k_1656 dJ0_coder_7d493_7 ?_
    refine lv_goto (tgt := 14) hx hb dJ0_coder_7d493_10 (by decide) ?_
    exact h_bret_o C hr hI h dJ0_coder_7d493_14
set_option maxRecDepth 100000 in
set_option maxHeartbeats 4000000 in
theorem c_J0_length_8abf5 (l : Launch) (D : va_G) (t : gT) (ad z : Nat → Nat) (hJ : gJ shX ad) (σ : gS) (q : Int32) (h : f_J0_length_8abf5 σ = some q) : Met l yJ0_length_8abf5 (Cond.code yJ0_length_8abf5 cJ0_length_8abf5 1 (some .int) :: lw_tb) (gR 2 80) (gPc shX t ad D z [.ref (z 4)] σ) (gQi shX t ad D q σ) 0 0 (gA shX ad) := by
  refine gMet "java/lang/String" rfl (by decide) hJ (Nat.le_of_ble_eq_true rfl) ?_
  intro p e s m below meth c ls C hr hI hl
  have hx := C.1
  have hb := C.2.1
  have hl : lv_has ls 1 [(0, .ref (z 4))] := hl
  unfold f_J0_length_8abf5 at h
  refine lv_aload_n hx hb dJ0_length_8abf5_0 rfl (lv_at hl 0 rfl) ?_
  refine gx_sval C hI k_1657 dJ0_length_8abf5_1 ?_
  refine gx_slen C hI (v := 6) (by decide) dJ0_length_8abf5_4 ?_
  refine lv_aload_n hx hb dJ0_length_8abf5_5 rfl (lv_at hl 0 rfl) ?_
  refine h_callci_o (rest := [.int 6]) C hI hl.1 rfl yv_J0_coder_7d493 k_437 h (fun q hq => c_J0_coder_7d493 l D t ad z C.2.2.2.2.2.2.1 (σ) q hq) (As := []) rfl rfl ⟨Nat.le_of_ble_eq_true rfl, Nat.le_of_ble_eq_true rfl⟩ (Nat.le_of_ble_eq_true rfl) dJ0_length_8abf5_6 (fun q1 H locs h hI => ?_)
  refine lv_ishr hx hb dJ0_length_8abf5_9 ?_
  exact h_iret_o C hr hI h dJ0_length_8abf5_10
set_option maxRecDepth 100000 in
set_option maxHeartbeats 4000000 in
theorem c_J1_canEncode_9a6ad (l : Launch) (D : va_G) (t : gT) (ad z : Nat → Nat) (hJ : gJ shX ad) (σ : gS) (x0 : Int32) (q : Int32) (h : f_J1_canEncode_9a6ad σ x0 = some q) : Met l yJ1_canEncode_9a6ad (Cond.code yJ1_canEncode_9a6ad cJ1_canEncode_9a6ad 1 (some .boolean) :: lw_tb) (gR 1 60) (gPc shX t ad D z [.int x0] σ) (gQi shX t ad D q σ) 0 0 (gA shX ad) := by
  refine gMet "java/lang/StringLatin1" rfl (by decide) hJ (Nat.le_of_ble_eq_true rfl) ?_
  intro p e s m below meth c ls C hr hI hl
  have hx := C.1
  have hb := C.2.1
  have hl : lv_has ls 1 [(0, .int x0)] := hl
  unfold f_J1_canEncode_9a6ad at h
  refine lv_iload_n hx hb dJ1_canEncode_9a6ad_0 rfl (lv_at hl 0 rfl) ?_
  refine hif_lt (tgt := 15) C dJ1_canEncode_9a6ad_1 (by decide) h (fun h => ?_) (fun h => ?_)
  · refine lv_iconst hx hb dJ1_canEncode_9a6ad_15 ci_0 ?_
    exact h_zret_o C hr hI h dJ1_canEncode_9a6ad_16
  · refine lv_iload_n hx hb dJ1_canEncode_9a6ad_4 rfl (lv_at hl 0 rfl) ?_
    refine lv_sipush hx hb dJ1_canEncode_9a6ad_5 cs_255 ?_
    refine hicmp_gt (tgt := 15) C dJ1_canEncode_9a6ad_8 (by decide) h (fun h => ?_) (fun h => ?_)
    · refine lv_iconst hx hb dJ1_canEncode_9a6ad_15 ci_0 ?_
      exact h_zret_o C hr hI h dJ1_canEncode_9a6ad_16
    · refine lv_iconst hx hb dJ1_canEncode_9a6ad_11 ci_1 ?_
      refine lv_goto (tgt := 16) hx hb dJ1_canEncode_9a6ad_12 (by decide) ?_
      exact h_zret_o C hr hI h dJ1_canEncode_9a6ad_16
set_option maxRecDepth 100000 in
set_option maxHeartbeats 4000000 in
theorem w_J1_indexOfChar_4cfef_7 {p : Program} {l : Launch} {e : Env} {s : State} {m : MethodId} {args : Array Value} {below : List Frame} {meth : Method} {c : Code} {D : va_G} {t : gT} {ad z : Nat → Nat} {σ : gS} (C : gC p s m args meth c cJ1_indexOfChar_4cfef 6 "java/lang/StringLatin1" D t shX ad z) (hr : meth.sig.returnType = some .int) {r : Int32} : ∀ (n : Nat) (x3 : Int32) (x4 : Int32) (x5 : Int32) (H : Heap) (locs : List Loc) (ls : Array Slot), f_J1_indexOfChar_4cfef_7 σ n x3 x4 x5 = some r → gI shX t ad D s.heap σ H locs → lv_has ls 6 [(0, .ref (z 5)), (3, .int x3), (4, .int x4), (5, .int x5)] → W p l e (gR 1 60) s m args below meth c H locs 0 0 (MQ below (gQi shX t ad D r σ) args s 0 0 (gA shX ad)) (F0 m 7 ls []) := by
  have hx := C.1
  have hb := C.2.1
  intro n
  induction n with
  | zero =>
    intro x3 x4 x5 H locs ls  h
    exact absurd h (by simp [f_J1_indexOfChar_4cfef_7])
  | succ n ih =>
    intro x3 x4 x5 H locs ls  h hI hl
    unfold f_J1_indexOfChar_4cfef_7 at h
    refine lv_iload hx hb dJ1_indexOfChar_4cfef_7 (lv_at hl 3 rfl) ?_
    refine lv_iload_n hx hb dJ1_indexOfChar_4cfef_9 rfl (lv_at hl 1 rfl) ?_
    refine hicmp_ge (tgt := 31) C dJ1_indexOfChar_4cfef_10 (by decide) h (fun h => ?_) (fun h => ?_)
    · refine lv_iconst hx hb dJ1_indexOfChar_4cfef_31 ci_m1 ?_
      exact h_iret_o C hr hI h dJ1_indexOfChar_4cfef_32
    · refine lv_aload_n hx hb dJ1_indexOfChar_4cfef_13 rfl (lv_at hl 0 rfl) ?_
      refine lv_iload hx hb dJ1_indexOfChar_4cfef_14 (lv_at hl 3 rfl) ?_
      refine gx_tb C hI h dJ1_indexOfChar_4cfef_16 (fun h => ?_)
      refine lv_iload hx hb dJ1_indexOfChar_4cfef_17 (lv_at hl 2 rfl) ?_
      refine hicmp_ne (tgt := 25) C dJ1_indexOfChar_4cfef_19 (by decide) h (fun h => ?_) (fun h => ?_)
      · refine h_iinc C hl dJ1_indexOfChar_4cfef_25 3 rfl ci_1 h (by decide) (lvf := fun v1 => [(5, .int v1), (0, .ref (z 5)), (3, .int x3), (4, .int x4)]) (fun _ => rfl) (fun v1 ls h hl => ?_)
        refine lv_goto (tgt := 7) hx hb dJ1_indexOfChar_4cfef_28 (by decide) ?_
        exact ih _ _ _ _ _ _  h hI (lv_sub hl [1, 2, 3, 0] rfl)
      · refine lv_iload hx hb dJ1_indexOfChar_4cfef_22 (lv_at hl 3 rfl) ?_
        exact h_iret_o C hr hI h dJ1_indexOfChar_4cfef_24
set_option maxRecDepth 100000 in
set_option maxHeartbeats 4000000 in
theorem c_J1_indexOfChar_4cfef (l : Launch) (D : va_G) (t : gT) (ad z : Nat → Nat) (hJ : gJ shX ad) (σ : gS) (x1 : Int32) (x2 : Int32) (x3 : Int32) (q : Int32) (h : f_J1_indexOfChar_4cfef σ x1 x2 x3 = some q) : Met l yJ1_indexOfChar_4cfef (Cond.code yJ1_indexOfChar_4cfef cJ1_indexOfChar_4cfef 6 (some .int) :: lw_tb) (gR 1 60) (gPc shX t ad D z [.ref (z 5), .int x1, .int x2, .int x3] σ) (gQi shX t ad D q σ) 0 0 (gA shX ad) := by
  refine gMet "java/lang/StringLatin1" rfl (by decide) hJ (Nat.le_of_ble_eq_true rfl) ?_
  intro p e s m below meth c ls C hr hI hl
  have hx := C.1
  have hb := C.2.1
  have hl : lv_has ls 6 [(0, .ref (z 5)), (1, .int x1), (2, .int x2), (3, .int x3)] := hl
  unfold f_J1_indexOfChar_4cfef at h
  refine lv_iload_n hx hb dJ1_indexOfChar_4cfef_0 rfl (lv_at hl 1 rfl) ?_
  refine lv_i2b (v := ((x1 : Int32).toInt8.toInt32)) hx hb dJ1_indexOfChar_4cfef_1 rfl ?_
  refine gx_topi h (fun v1 h => ?_)
  refine lv_istore (lv' := [(4, .int v1), (0, .ref (z 5)), (1, .int x1), (2, .int x2), (3, .int x3)]) hx hb dJ1_indexOfChar_4cfef_2 hl (by decide) rfl (fun ls hl => ?_)
  refine lv_iload_n hx hb dJ1_indexOfChar_4cfef_4 rfl (lv_at hl 3 rfl) ?_
  refine lv_istore (lv' := [(5, .int x2), (4, .int v1), (0, .ref (z 5)), (1, .int x1), (2, .int x2), (3, .int x3)]) hx hb dJ1_indexOfChar_4cfef_5 hl (by decide) rfl (fun ls hl => ?_)
  exact w_J1_indexOfChar_4cfef_7 C hr    _ _ _ _ _ _ _  h hI (lv_sub hl [2, 5, 1, 0] rfl)
set_option maxRecDepth 100000 in
set_option maxHeartbeats 4000000 in
theorem c_J1_indexOf_4cfef (l : Launch) (D : va_G) (t : gT) (ad z : Nat → Nat) (hJ : gJ shX ad) (σ : gS) (x1 : Int32) (x2 : Int32) (x3 : Int32) (q : Int32) (h : f_J1_indexOf_4cfef σ x1 x2 x3 = some q) : Met l yJ1_indexOf_4cfef (Cond.code yJ1_indexOf_4cfef cJ1_indexOf_4cfef 4 (some .int) :: lw_tb) (gR 2 85) (gPc shX t ad D z [.ref (z 5), .int x1, .int x2, .int x3] σ) (gQi shX t ad D q σ) 0 0 (gA shX ad) := by
  refine gMet "java/lang/StringLatin1" rfl (by decide) hJ (Nat.le_of_ble_eq_true rfl) ?_
  intro p e s m below meth c ls C hr hI hl
  have hx := C.1
  have hb := C.2.1
  have hl : lv_has ls 4 [(0, .ref (z 5)), (1, .int x1), (2, .int x2), (3, .int x3)] := hl
  unfold f_J1_indexOf_4cfef at h
  refine lv_iload_n hx hb dJ1_indexOf_4cfef_0 rfl (lv_at hl 1 rfl) ?_
  refine h_callsi_o (rest := []) C hI hl.1 ys_J1_canEncode_9a6ad k_444 h (fun q hq => c_J1_canEncode_9a6ad l D t ad z C.2.2.2.2.2.2.1 (σ) x1 q hq) (As := [.int x1]) rfl rfl ⟨Nat.le_of_ble_eq_true rfl, Nat.le_of_ble_eq_true rfl⟩ (Nat.le_of_ble_eq_true rfl) dJ1_indexOf_4cfef_1 (fun q1 H locs h hI => ?_)
  refine hif_ne (tgt := 9) C dJ1_indexOf_4cfef_4 (by decide) h (fun h => ?_) (fun h => ?_)
  · refine lv_iload_n hx hb dJ1_indexOf_4cfef_9 rfl (lv_at hl 2 rfl) ?_
    refine lv_iconst hx hb dJ1_indexOf_4cfef_10 ci_0 ?_
    refine h_mmax C hl.1 k_447 ⟨Nat.le_of_ble_eq_true rfl, Nat.le_of_ble_eq_true rfl⟩ ⟨Nat.zero_le _, Nat.zero_le _⟩ dJ1_indexOf_4cfef_11 ?_
    refine gx_topi h (fun v2 h => ?_)
    refine lv_istore_n (lv' := [(2, .int v2), (0, .ref (z 5)), (1, .int x1), (3, .int x3)]) hx hb dJ1_indexOf_4cfef_14 rfl hl (by decide) rfl (fun ls hl => ?_)
    refine lv_iload_n hx hb dJ1_indexOf_4cfef_15 rfl (lv_at hl 3 rfl) ?_
    refine lv_aload_n hx hb dJ1_indexOf_4cfef_16 rfl (lv_at hl 1 rfl) ?_
    refine gx_slen C hI (v := 6) (by decide) dJ1_indexOf_4cfef_17 ?_
    refine h_mmin C hl.1 k_450 ⟨Nat.le_of_ble_eq_true rfl, Nat.le_of_ble_eq_true rfl⟩ ⟨Nat.zero_le _, Nat.zero_le _⟩ dJ1_indexOf_4cfef_18 ?_
    refine gx_topi h (fun v3 h => ?_)
    refine lv_istore_n (lv' := [(3, .int v3), (2, .int v2), (0, .ref (z 5)), (1, .int x1)]) hx hb dJ1_indexOf_4cfef_21 rfl hl (by decide) rfl (fun ls hl => ?_)
    refine lv_iload_n hx hb dJ1_indexOf_4cfef_22 rfl (lv_at hl 1 rfl) ?_
    refine lv_iload_n hx hb dJ1_indexOf_4cfef_23 rfl (lv_at hl 0 rfl) ?_
    refine hicmp_lt (tgt := 29) C dJ1_indexOf_4cfef_24 (by decide) h (fun h => ?_) (fun h => ?_)
    · refine lv_aload_n hx hb dJ1_indexOf_4cfef_29 rfl (lv_at hl 2 rfl) ?_
      refine lv_iload_n hx hb dJ1_indexOf_4cfef_30 rfl (lv_at hl 3 rfl) ?_
      refine lv_iload_n hx hb dJ1_indexOf_4cfef_31 rfl (lv_at hl 1 rfl) ?_
      refine lv_iload_n hx hb dJ1_indexOf_4cfef_32 rfl (lv_at hl 0 rfl) ?_
      refine h_callsi_o (rest := []) C hI hl.1 ys_J1_indexOfChar_4cfef k_453 h (fun q hq => c_J1_indexOfChar_4cfef l D t ad z C.2.2.2.2.2.2.1 (σ) x1 v2 v3 q hq) (As := [.ref (z 5), .int x1, .int v2, .int v3]) rfl rfl ⟨Nat.le_of_ble_eq_true rfl, Nat.le_of_ble_eq_true rfl⟩ (Nat.le_of_ble_eq_true rfl) dJ1_indexOf_4cfef_33 (fun q4 H locs h hI => ?_)
      exact h_iret_o C hr hI h dJ1_indexOf_4cfef_36
    · refine lv_iconst hx hb dJ1_indexOf_4cfef_27 ci_m1 ?_
      exact h_iret_o C hr hI h dJ1_indexOf_4cfef_28
  · refine lv_iconst hx hb dJ1_indexOf_4cfef_7 ci_m1 ?_
    exact h_iret_o C hr hI h dJ1_indexOf_4cfef_8
set_option maxRecDepth 100000 in
set_option maxHeartbeats 4000000 in
theorem c_J0_indexOf_7cf53 (l : Launch) (D : va_G) (t : gT) (ad z : Nat → Nat) (hJ : gJ shX ad) (σ : gS) (x1 : Int32) (x2 : Int32) (q : Int32) (h : f_J0_indexOf_7cf53 σ x1 x2 = some q) : Met l yJ0_indexOf_7cf53 (Cond.code yJ0_indexOf_7cf53 cJ0_indexOf_7cf53 3 (some .int) :: lw_tb) (gR 3 108) (gPc shX t ad D z [.ref (z 4), .int x1, .int x2] σ) (gQi shX t ad D q σ) 0 0 (gA shX ad) := by
  refine gMet "java/lang/String" rfl (by decide) hJ (Nat.le_of_ble_eq_true rfl) ?_
  intro p e s m below meth c ls C hr hI hl
  have hx := C.1
  have hb := C.2.1
  have hl : lv_has ls 3 [(0, .ref (z 4)), (1, .int x1), (2, .int x2)] := hl
  unfold f_J0_indexOf_7cf53 at h
  refine lv_aload_n hx hb dJ0_indexOf_7cf53_0 rfl (lv_at hl 0 rfl) ?_
  refine h_callci_o (rest := []) C hI hl.1 rfl yv_J0_isLatin1_aae02 k_427 h (fun q hq => c_J0_isLatin1_aae02 l D t ad z C.2.2.2.2.2.2.1 (σ) q hq) (As := []) rfl rfl ⟨Nat.le_of_ble_eq_true rfl, Nat.le_of_ble_eq_true rfl⟩ (Nat.le_of_ble_eq_true rfl) dJ0_indexOf_7cf53_1 (fun q1 H locs h hI => ?_)
  refine hif_eq (tgt := 23) C dJ0_indexOf_7cf53_4 (by decide) h (fun h => ?_) (fun h => ?_)
  · exact absurd h (by simp)
  · refine lv_aload_n hx hb dJ0_indexOf_7cf53_7 rfl (lv_at hl 0 rfl) ?_
    refine gx_sval C hI k_1657 dJ0_indexOf_7cf53_8 ?_
    refine lv_iload_n hx hb dJ0_indexOf_7cf53_11 rfl (lv_at hl 1 rfl) ?_
    refine lv_iload_n hx hb dJ0_indexOf_7cf53_12 rfl (lv_at hl 2 rfl) ?_
    refine lv_aload_n hx hb dJ0_indexOf_7cf53_13 rfl (lv_at hl 0 rfl) ?_
    refine h_callci_o (rest := [.int x2, .int x1, .ref (z 5)]) C hI hl.1 rfl yv_J0_length_8abf5 k_433 h (fun q hq => c_J0_length_8abf5 l D t ad z C.2.2.2.2.2.2.1 (σ) q hq) (As := []) rfl rfl ⟨Nat.le_of_ble_eq_true rfl, Nat.le_of_ble_eq_true rfl⟩ (Nat.le_of_ble_eq_true rfl) dJ0_indexOf_7cf53_14 (fun q2 H locs h hI => ?_)
    refine h_callsi_o (rest := []) C hI hl.1 ys_J1_indexOf_4cfef k_441 h (fun q hq => c_J1_indexOf_4cfef l D t ad z C.2.2.2.2.2.2.1 (σ) x1 x2 q2 q hq) (As := [.ref (z 5), .int x1, .int x2, .int q2]) rfl rfl ⟨Nat.le_of_ble_eq_true rfl, Nat.le_of_ble_eq_true rfl⟩ (Nat.le_of_ble_eq_true rfl) dJ0_indexOf_7cf53_17 (fun q3 H locs h hI => ?_)
    refine lv_goto (tgt := 36) hx hb dJ0_indexOf_7cf53_20 (by decide) ?_
    exact h_iret_o C hr hI h dJ0_indexOf_7cf53_36
set_option maxRecDepth 100000 in
set_option maxHeartbeats 4000000 in
theorem c_J0_indexOf_0f7a4 (l : Launch) (D : va_G) (t : gT) (ad z : Nat → Nat) (hJ : gJ shX ad) (σ : gS) (x1 : Int32) (q : Int32) (h : f_J0_indexOf_0f7a4 σ x1 = some q) : Met l yJ0_indexOf_0f7a4 (Cond.code yJ0_indexOf_0f7a4 cJ0_indexOf_0f7a4 2 (some .int) :: lw_tb) (gR 4 130) (gPc shX t ad D z [.ref (z 4), .int x1] σ) (gQi shX t ad D q σ) 0 0 (gA shX ad) := by
  refine gMet "java/lang/String" rfl (by decide) hJ (Nat.le_of_ble_eq_true rfl) ?_
  intro p e s m below meth c ls C hr hI hl
  have hx := C.1
  have hb := C.2.1
  have hl : lv_has ls 2 [(0, .ref (z 4)), (1, .int x1)] := hl
  unfold f_J0_indexOf_0f7a4 at h
  refine lv_aload_n hx hb dJ0_indexOf_0f7a4_0 rfl (lv_at hl 0 rfl) ?_
  refine lv_iload_n hx hb dJ0_indexOf_0f7a4_1 rfl (lv_at hl 1 rfl) ?_
  refine lv_iconst hx hb dJ0_indexOf_0f7a4_2 ci_0 ?_
  refine h_callci_o (rest := []) C hI hl.1 rfl yv_J0_indexOf_7cf53 k_423 h (fun q hq => c_J0_indexOf_7cf53 l D t ad z C.2.2.2.2.2.2.1 (σ) x1 0 q hq) (As := [.int x1, .int 0]) rfl rfl ⟨Nat.le_of_ble_eq_true rfl, Nat.le_of_ble_eq_true rfl⟩ (Nat.le_of_ble_eq_true rfl) dJ0_indexOf_0f7a4_3 (fun q1 H locs h hI => ?_)
  exact h_iret_o C hr hI h dJ0_indexOf_0f7a4_6
set_option maxRecDepth 100000 in
set_option maxHeartbeats 4000000 in
theorem w_X4_readOpened_24 {p : Program} {l : Launch} {e : Env} {s : State} {m : MethodId} {args : Array Value} {below : List Frame} {meth : Method} {c : Code} {D : va_G} {t : gT} {ad z : Nat → Nat} {R_X4_readOpened : gS → Int32 → Int32 → Option gS} {R_X4_readOperand : gS → Int32 → Option gS} {R_X4_readTerm : gS → Int32 → Int32 → Option gS} (C : gC p s m args meth c cX4_readOpened 3 "NineKeysRound$Law" D t shX ad z) (hr : meth.sig.returnType = none) {fr lo : Nat} (hfr : 5 ≤ fr) (hlo : 151 ≤ lo) (hR_X4_readOpened : ∀ (σ : gS) (x1 : Int32) (x2 : Int32) (q : gS), R_X4_readOpened σ x1 x2 = some q → Met l yX4_readOpened (Cond.code yX4_readOpened cX4_readOpened 3 (none) :: lw_tb) (gR fr lo) (gPc shX t ad D z [.ref (ad 7), .int x1, .int x2] σ) (gQv shX t ad D q) 0 0 (gA shX ad)) (hR_X4_readOperand : ∀ (σ : gS) (x1 : Int32) (q : gS), R_X4_readOperand σ x1 = some q → Met l yX4_readOperand (Cond.code yX4_readOperand cX4_readOperand 3 (none) :: lw_tb) (gR fr lo) (gPc shX t ad D z [.ref (ad 7), .int x1] σ) (gQv shX t ad D q) 0 0 (gA shX ad)) (hR_X4_readTerm : ∀ (σ : gS) (x1 : Int32) (x2 : Int32) (q : gS), R_X4_readTerm σ x1 x2 = some q → Met l yX4_readTerm (Cond.code yX4_readTerm cX4_readTerm 7 (none) :: lw_tb) (gR fr lo) (gPc shX t ad D z [.ref (ad 7), .int x1, .int x2] σ) (gQv shX t ad D q) 0 0 (gA shX ad)) {r : gS} : ∀ (s0 : Int32) (σ : gS) (H : Heap) (locs : List Loc) (ls : Array Slot), f_X4_readOpened_24 R_X4_readOpened R_X4_readOperand R_X4_readTerm s0 σ = some r → gI shX t ad D s.heap σ H locs → lv_has ls 3 [] → W p l e (gR (fr + 1) (lo + 26)) s m args below meth c H locs 0 0 (MQ below (gQv shX t ad D r) args s 0 0 (gA shX ad)) (F0 m 24 ls [.int s0, .ref (ad 7)]) := by
  have hx := C.1
  have hb := C.2.1
  intro s0 σ H locs ls  h hI hl
  unfold f_X4_readOpened_24 at h
  refine h_callvv_w (rest := []) C hI hl.1 shX_7 rfl yv_X4_emit k_414 h (fun q hq => c_X4_emit l D t ad z C.2.2.2.2.2.2.1 (σ) s0 q hq) (As := [.int s0]) rfl rfl ⟨by show _ ≤ fr + 1; omega, by show _ ≤ lo + 26; omega⟩ (Nat.le_of_ble_eq_true rfl) dX4_readOpened_24 (fun q1 H locs h hI => ?_)
  exact h_vret_w C hr hI h dX4_readOpened_27
set_option maxRecDepth 100000 in
set_option maxHeartbeats 4000000 in
theorem w_X4_readOpened_50 {p : Program} {l : Launch} {e : Env} {s : State} {m : MethodId} {args : Array Value} {below : List Frame} {meth : Method} {c : Code} {D : va_G} {t : gT} {ad z : Nat → Nat} {R_X4_readOpened : gS → Int32 → Int32 → Option gS} {R_X4_readOperand : gS → Int32 → Option gS} {R_X4_readTerm : gS → Int32 → Int32 → Option gS} (C : gC p s m args meth c cX4_readOpened 3 "NineKeysRound$Law" D t shX ad z) (hr : meth.sig.returnType = none) {fr lo : Nat} (hfr : 5 ≤ fr) (hlo : 151 ≤ lo) (hR_X4_readOpened : ∀ (σ : gS) (x1 : Int32) (x2 : Int32) (q : gS), R_X4_readOpened σ x1 x2 = some q → Met l yX4_readOpened (Cond.code yX4_readOpened cX4_readOpened 3 (none) :: lw_tb) (gR fr lo) (gPc shX t ad D z [.ref (ad 7), .int x1, .int x2] σ) (gQv shX t ad D q) 0 0 (gA shX ad)) (hR_X4_readOperand : ∀ (σ : gS) (x1 : Int32) (q : gS), R_X4_readOperand σ x1 = some q → Met l yX4_readOperand (Cond.code yX4_readOperand cX4_readOperand 3 (none) :: lw_tb) (gR fr lo) (gPc shX t ad D z [.ref (ad 7), .int x1] σ) (gQv shX t ad D q) 0 0 (gA shX ad)) (hR_X4_readTerm : ∀ (σ : gS) (x1 : Int32) (x2 : Int32) (q : gS), R_X4_readTerm σ x1 x2 = some q → Met l yX4_readTerm (Cond.code yX4_readTerm cX4_readTerm 7 (none) :: lw_tb) (gR fr lo) (gPc shX t ad D z [.ref (ad 7), .int x1, .int x2] σ) (gQv shX t ad D q) 0 0 (gA shX ad)) {r : gS} : ∀ (σ : gS) (H : Heap) (locs : List Loc) (ls : Array Slot), f_X4_readOpened_50 R_X4_readOpened R_X4_readOperand R_X4_readTerm σ = some r → gI shX t ad D s.heap σ H locs → lv_has ls 3 [(0, .ref (ad 7))] → W p l e (gR (fr + 1) (lo + 26)) s m args below meth c H locs 0 0 (MQ below (gQv shX t ad D r) args s 0 0 (gA shX ad)) (F0 m 50 ls []) := by
  have hx := C.1
  have hb := C.2.1
  intro σ H locs ls  h hI hl
  unfold f_X4_readOpened_50 at h
  refine lv_aload_n hx hb dX4_readOpened_50 rfl (lv_at hl 0 rfl) ?_
  refine lv_iconst hx hb dX4_readOpened_51 ci_1 ?_
  obtain ⟨hz, h⟩ := gk_some h
  refine fp_83 C hI shX_7 rfl hz dX4_readOpened_52 (fun H locs hI => ?_)
  refine gx_st h hI (fun s1 h hI => ?_)
  exact h_vret_w C hr hI h dX4_readOpened_55
set_option maxRecDepth 100000 in
set_option maxHeartbeats 4000000 in
theorem cr_X4_readOpened (l : Launch) (D : va_G) (t : gT) (ad z : Nat → Nat) (hJ : gJ shX ad) {R_X4_readOpened : gS → Int32 → Int32 → Option gS} {R_X4_readOperand : gS → Int32 → Option gS} {R_X4_readTerm : gS → Int32 → Int32 → Option gS} {fr lo : Nat} (hfr : 5 ≤ fr) (hlo : 151 ≤ lo) (hR_X4_readOpened : ∀ (σ : gS) (x1 : Int32) (x2 : Int32) (q : gS), R_X4_readOpened σ x1 x2 = some q → Met l yX4_readOpened (Cond.code yX4_readOpened cX4_readOpened 3 (none) :: lw_tb) (gR fr lo) (gPc shX t ad D z [.ref (ad 7), .int x1, .int x2] σ) (gQv shX t ad D q) 0 0 (gA shX ad)) (hR_X4_readOperand : ∀ (σ : gS) (x1 : Int32) (q : gS), R_X4_readOperand σ x1 = some q → Met l yX4_readOperand (Cond.code yX4_readOperand cX4_readOperand 3 (none) :: lw_tb) (gR fr lo) (gPc shX t ad D z [.ref (ad 7), .int x1] σ) (gQv shX t ad D q) 0 0 (gA shX ad)) (hR_X4_readTerm : ∀ (σ : gS) (x1 : Int32) (x2 : Int32) (q : gS), R_X4_readTerm σ x1 x2 = some q → Met l yX4_readTerm (Cond.code yX4_readTerm cX4_readTerm 7 (none) :: lw_tb) (gR fr lo) (gPc shX t ad D z [.ref (ad 7), .int x1, .int x2] σ) (gQv shX t ad D q) 0 0 (gA shX ad)) (σ : gS) (x1 : Int32) (x2 : Int32) (q : gS) (h : F_X4_readOpened R_X4_readOpened R_X4_readOperand R_X4_readTerm σ x1 x2 = some q) : Met l yX4_readOpened (Cond.code yX4_readOpened cX4_readOpened 3 (none) :: lw_tb) (gR (fr + 1) (lo + 26)) (gPc shX t ad D z [.ref (ad 7), .int x1, .int x2] σ) (gQv shX t ad D q) 0 0 (gA shX ad) := by
  refine gMet "NineKeysRound$Law" rfl (by decide) hJ (Nat.le_of_ble_eq_true rfl) ?_
  intro p e s m below meth c ls C hr hI hl
  have hx := C.1
  have hb := C.2.1
  have hl : lv_has ls 3 [(0, .ref (ad 7)), (1, .int x1), (2, .int x2)] := hl
  unfold F_X4_readOpened at h
  refine lv_iload_n hx hb dX4_readOpened_0 rfl (lv_at hl 1 rfl) ?_
  refine lv_bipush hx hb dX4_readOpened_1 cb_40 ?_
  refine hicmp_eq (tgt := 28) C dX4_readOpened_3 (by decide) h (fun h => ?_) (fun h => ?_)
  · refine lv_aload_n hx hb dX4_readOpened_28 rfl (lv_at hl 0 rfl) ?_
    refine lv_iconst hx hb dX4_readOpened_29 ci_0 ?_
    refine lv_iload_n hx hb dX4_readOpened_30 rfl (lv_at hl 2 rfl) ?_
    refine h_callvv_w (rest := []) C hI hl.1 shX_7 rfl yv_X4_readTerm k_395 h (fun q hq => hR_X4_readTerm (σ) 0 x2 q hq) (As := [.int 0, .int x2]) rfl rfl ⟨by show _ ≤ fr + 1; omega, by show _ ≤ lo + 26; omega⟩ (Nat.le_of_ble_eq_true rfl) dX4_readOpened_31 (fun q1 H locs h hI => ?_)
    refine lv_aload_n hx hb dX4_readOpened_34 rfl (lv_at hl 0 rfl) ?_
    refine fg_83 C hI shX_7 rfl dX4_readOpened_35 ?_
    refine hif_ne (tgt := 50) C dX4_readOpened_38 (by decide) h (fun h => ?_) (fun h => ?_)
    · exact w_X4_readOpened_50 C hr hfr hlo hR_X4_readOpened hR_X4_readOperand hR_X4_readTerm    _ _ _ _  h hI (lv_sub hl [0] rfl)
    · refine lv_aload_n hx hb dX4_readOpened_41 rfl (lv_at hl 0 rfl) ?_
      refine h_callvi_o (rest := []) C hI hl.1 shX_7 rfl yv_X4_peek k_403 h (fun q hq => c_X4_peek l D t ad z C.2.2.2.2.2.2.1 q1 q hq) (As := []) rfl rfl ⟨by show _ ≤ fr + 1; omega, by show _ ≤ lo + 26; omega⟩ (Nat.le_of_ble_eq_true rfl) dX4_readOpened_42 (fun q2 H locs h hI => ?_)
      refine lv_bipush hx hb dX4_readOpened_45 cb_41 ?_
      refine hicmp_eq (tgt := 56) C dX4_readOpened_47 (by decide) h (fun h => ?_) (fun h => ?_)
      · refine lv_aload_n hx hb dX4_readOpened_56 rfl (lv_at hl 0 rfl) ?_
        refine lv_dup hx hb dX4_readOpened_57 rfl ?_
        refine fg_82 C hI shX_7 rfl dX4_readOpened_58 ?_
        refine lv_iconst hx hb dX4_readOpened_61 ci_1 ?_
        refine lv_iadd hx hb dX4_readOpened_62 ?_
        refine fp_82 C hI shX_7 rfl dX4_readOpened_63 (fun H locs hI => ?_)
        refine gx_st h hI (fun s3 h hI => ?_)
        exact h_vret_w C hr hI h dX4_readOpened_66
      · exact w_X4_readOpened_50 C hr hfr hlo hR_X4_readOpened hR_X4_readOperand hR_X4_readTerm    _ _ _ _  h hI (lv_sub hl [0] rfl)
  · refine lv_aload_n hx hb dX4_readOpened_6 rfl (lv_at hl 0 rfl) ?_
    refine lv_iload_n hx hb dX4_readOpened_7 rfl (lv_at hl 2 rfl) ?_
    refine h_callvv_w (rest := []) C hI hl.1 shX_7 rfl yv_X4_readOperand k_399 h (fun q hq => hR_X4_readOperand (σ) x2 q hq) (As := [.int x2]) rfl rfl ⟨by show _ ≤ fr + 1; omega, by show _ ≤ lo + 26; omega⟩ (Nat.le_of_ble_eq_true rfl) dX4_readOpened_8 (fun q4 H locs h hI => ?_)
    refine lv_aload_n hx hb dX4_readOpened_11 rfl (lv_at hl 0 rfl) ?_
    refine lv_iload_n hx hb dX4_readOpened_12 rfl (lv_at hl 1 rfl) ?_
    refine lv_bipush hx hb dX4_readOpened_13 cb_45 ?_
    refine hicmp_ne (tgt := 23) C dX4_readOpened_15 (by decide) h (fun h => ?_) (fun h => ?_)
    · refine lv_iload_n hx hb dX4_readOpened_23 rfl (lv_at hl 1 rfl) ?_
      exact w_X4_readOpened_24 C hr hfr hlo hR_X4_readOpened hR_X4_readOperand hR_X4_readTerm   _ _ _ _ _  h hI (lv_sub hl [] rfl)
    · refine lv_bipush hx hb dX4_readOpened_18 cb_126 ?_
      refine lv_goto (tgt := 24) hx hb dX4_readOpened_20 (by decide) ?_
      exact w_X4_readOpened_24 C hr hfr hlo hR_X4_readOpened hR_X4_readOperand hR_X4_readTerm   _ _ _ _ _  h hI (lv_sub hl [] rfl)
set_option maxRecDepth 100000 in
set_option maxHeartbeats 4000000 in
theorem w_X4_readOperand_87 {p : Program} {l : Launch} {e : Env} {s : State} {m : MethodId} {args : Array Value} {below : List Frame} {meth : Method} {c : Code} {D : va_G} {t : gT} {ad z : Nat → Nat} {R_X4_readOpened : gS → Int32 → Int32 → Option gS} {R_X4_readOperand : gS → Int32 → Option gS} {R_X4_readTerm : gS → Int32 → Int32 → Option gS} (C : gC p s m args meth c cX4_readOperand 3 "NineKeysRound$Law" D t shX ad z) (hr : meth.sig.returnType = none) {fr lo : Nat} (hfr : 5 ≤ fr) (hlo : 151 ≤ lo) (hR_X4_readOpened : ∀ (σ : gS) (x1 : Int32) (x2 : Int32) (q : gS), R_X4_readOpened σ x1 x2 = some q → Met l yX4_readOpened (Cond.code yX4_readOpened cX4_readOpened 3 (none) :: lw_tb) (gR fr lo) (gPc shX t ad D z [.ref (ad 7), .int x1, .int x2] σ) (gQv shX t ad D q) 0 0 (gA shX ad)) (hR_X4_readOperand : ∀ (σ : gS) (x1 : Int32) (q : gS), R_X4_readOperand σ x1 = some q → Met l yX4_readOperand (Cond.code yX4_readOperand cX4_readOperand 3 (none) :: lw_tb) (gR fr lo) (gPc shX t ad D z [.ref (ad 7), .int x1] σ) (gQv shX t ad D q) 0 0 (gA shX ad)) (hR_X4_readTerm : ∀ (σ : gS) (x1 : Int32) (x2 : Int32) (q : gS), R_X4_readTerm σ x1 x2 = some q → Met l yX4_readTerm (Cond.code yX4_readTerm cX4_readTerm 7 (none) :: lw_tb) (gR fr lo) (gPc shX t ad D z [.ref (ad 7), .int x1, .int x2] σ) (gQv shX t ad D q) 0 0 (gA shX ad)) {r : gS} : ∀ (x1 : Int32) (x2 : Int32) (σ : gS) (H : Heap) (locs : List Loc) (ls : Array Slot), f_X4_readOperand_87 R_X4_readOpened R_X4_readOperand R_X4_readTerm x1 x2 σ = some r → gI shX t ad D s.heap σ H locs → lv_has ls 3 [(0, .ref (ad 7)), (1, .int x1), (2, .int x2)] → W p l e (gR (fr + 1) (lo + 26)) s m args below meth c H locs 0 0 (MQ below (gQv shX t ad D r) args s 0 0 (gA shX ad)) (F0 m 87 ls []) := by
  have hx := C.1
  have hb := C.2.1
  intro x1 x2 σ H locs ls  h hI hl
  unfold f_X4_readOperand_87 at h
  refine lv_aload_n hx hb dX4_readOperand_87 rfl (lv_at hl 0 rfl) ?_
  refine lv_dup hx hb dX4_readOperand_88 rfl ?_
  refine fg_82 C hI shX_7 rfl dX4_readOperand_89 ?_
  refine lv_iconst hx hb dX4_readOperand_92 ci_1 ?_
  refine lv_iadd hx hb dX4_readOperand_93 ?_
  refine fp_82 C hI shX_7 rfl dX4_readOperand_94 (fun H locs hI => ?_)
  refine gx_st h hI (fun s1 h hI => ?_)
  refine lv_aload_n hx hb dX4_readOperand_97 rfl (lv_at hl 0 rfl) ?_
  refine lv_iload_n hx hb dX4_readOperand_98 rfl (lv_at hl 2 rfl) ?_
  refine lv_iload_n hx hb dX4_readOperand_99 rfl (lv_at hl 1 rfl) ?_
  refine lv_iconst hx hb dX4_readOperand_100 ci_1 ?_
  refine lv_iadd hx hb dX4_readOperand_101 ?_
  refine h_callvv_w (rest := []) C hI hl.1 shX_7 rfl yv_X4_readOpened k_505 h (fun q hq => hR_X4_readOpened s1 x2 (x1 + 1) q hq) (As := [.int x2, .int (x1 + 1)]) rfl rfl ⟨by show _ ≤ fr + 1; omega, by show _ ≤ lo + 26; omega⟩ (Nat.le_of_ble_eq_true rfl) dX4_readOperand_102 (fun q2 H locs h hI => ?_)
  refine lv_goto (tgt := 113) hx hb dX4_readOperand_105 (by decide) ?_
  exact h_vret_w C hr hI h dX4_readOperand_113
set_option maxRecDepth 100000 in
set_option maxHeartbeats 4000000 in
theorem w_X4_readOperand_108 {p : Program} {l : Launch} {e : Env} {s : State} {m : MethodId} {args : Array Value} {below : List Frame} {meth : Method} {c : Code} {D : va_G} {t : gT} {ad z : Nat → Nat} {R_X4_readOpened : gS → Int32 → Int32 → Option gS} {R_X4_readOperand : gS → Int32 → Option gS} {R_X4_readTerm : gS → Int32 → Int32 → Option gS} (C : gC p s m args meth c cX4_readOperand 3 "NineKeysRound$Law" D t shX ad z) (hr : meth.sig.returnType = none) {fr lo : Nat} (hfr : 5 ≤ fr) (hlo : 151 ≤ lo) (hR_X4_readOpened : ∀ (σ : gS) (x1 : Int32) (x2 : Int32) (q : gS), R_X4_readOpened σ x1 x2 = some q → Met l yX4_readOpened (Cond.code yX4_readOpened cX4_readOpened 3 (none) :: lw_tb) (gR fr lo) (gPc shX t ad D z [.ref (ad 7), .int x1, .int x2] σ) (gQv shX t ad D q) 0 0 (gA shX ad)) (hR_X4_readOperand : ∀ (σ : gS) (x1 : Int32) (q : gS), R_X4_readOperand σ x1 = some q → Met l yX4_readOperand (Cond.code yX4_readOperand cX4_readOperand 3 (none) :: lw_tb) (gR fr lo) (gPc shX t ad D z [.ref (ad 7), .int x1] σ) (gQv shX t ad D q) 0 0 (gA shX ad)) (hR_X4_readTerm : ∀ (σ : gS) (x1 : Int32) (x2 : Int32) (q : gS), R_X4_readTerm σ x1 x2 = some q → Met l yX4_readTerm (Cond.code yX4_readTerm cX4_readTerm 7 (none) :: lw_tb) (gR fr lo) (gPc shX t ad D z [.ref (ad 7), .int x1, .int x2] σ) (gQv shX t ad D q) 0 0 (gA shX ad)) {r : gS} : ∀ (σ : gS) (H : Heap) (locs : List Loc) (ls : Array Slot), f_X4_readOperand_108 R_X4_readOpened R_X4_readOperand R_X4_readTerm σ = some r → gI shX t ad D s.heap σ H locs → lv_has ls 3 [(0, .ref (ad 7))] → W p l e (gR (fr + 1) (lo + 26)) s m args below meth c H locs 0 0 (MQ below (gQv shX t ad D r) args s 0 0 (gA shX ad)) (F0 m 108 ls []) := by
  have hx := C.1
  have hb := C.2.1
  intro σ H locs ls  h hI hl
  unfold f_X4_readOperand_108 at h
  refine lv_aload_n hx hb dX4_readOperand_108 rfl (lv_at hl 0 rfl) ?_
  refine lv_iconst hx hb dX4_readOperand_109 ci_1 ?_
  obtain ⟨hz, h⟩ := gk_some h
  refine fp_83 C hI shX_7 rfl hz dX4_readOperand_110 (fun H locs hI => ?_)
  refine gx_st h hI (fun s1 h hI => ?_)
  exact h_vret_w C hr hI h dX4_readOperand_113
set_option maxRecDepth 100000 in
set_option maxHeartbeats 4000000 in
theorem w_X4_readOperand_63 {p : Program} {l : Launch} {e : Env} {s : State} {m : MethodId} {args : Array Value} {below : List Frame} {meth : Method} {c : Code} {D : va_G} {t : gT} {ad z : Nat → Nat} {R_X4_readOpened : gS → Int32 → Int32 → Option gS} {R_X4_readOperand : gS → Int32 → Option gS} {R_X4_readTerm : gS → Int32 → Int32 → Option gS} (C : gC p s m args meth c cX4_readOperand 3 "NineKeysRound$Law" D t shX ad z) (hr : meth.sig.returnType = none) {fr lo : Nat} (hfr : 5 ≤ fr) (hlo : 151 ≤ lo) (hR_X4_readOpened : ∀ (σ : gS) (x1 : Int32) (x2 : Int32) (q : gS), R_X4_readOpened σ x1 x2 = some q → Met l yX4_readOpened (Cond.code yX4_readOpened cX4_readOpened 3 (none) :: lw_tb) (gR fr lo) (gPc shX t ad D z [.ref (ad 7), .int x1, .int x2] σ) (gQv shX t ad D q) 0 0 (gA shX ad)) (hR_X4_readOperand : ∀ (σ : gS) (x1 : Int32) (q : gS), R_X4_readOperand σ x1 = some q → Met l yX4_readOperand (Cond.code yX4_readOperand cX4_readOperand 3 (none) :: lw_tb) (gR fr lo) (gPc shX t ad D z [.ref (ad 7), .int x1] σ) (gQv shX t ad D q) 0 0 (gA shX ad)) (hR_X4_readTerm : ∀ (σ : gS) (x1 : Int32) (x2 : Int32) (q : gS), R_X4_readTerm σ x1 x2 = some q → Met l yX4_readTerm (Cond.code yX4_readTerm cX4_readTerm 7 (none) :: lw_tb) (gR fr lo) (gPc shX t ad D z [.ref (ad 7), .int x1, .int x2] σ) (gQv shX t ad D q) 0 0 (gA shX ad)) {r : gS} : ∀ (x1 : Int32) (x2 : Int32) (σ : gS) (H : Heap) (locs : List Loc) (ls : Array Slot), f_X4_readOperand_63 R_X4_readOpened R_X4_readOperand R_X4_readTerm x1 x2 σ = some r → gI shX t ad D s.heap σ H locs → lv_has ls 3 [(0, .ref (ad 7)), (1, .int x1), (2, .int x2)] → W p l e (gR (fr + 1) (lo + 26)) s m args below meth c H locs 0 0 (MQ below (gQv shX t ad D r) args s 0 0 (gA shX ad)) (F0 m 63 ls []) := by
  have hx := C.1
  have hb := C.2.1
  intro x1 x2 σ H locs ls  h hI hl
  unfold f_X4_readOperand_63 at h
  refine lv_iload_n hx hb dX4_readOperand_63 rfl (lv_at hl 1 rfl) ?_
  refine lv_bipush hx hb dX4_readOperand_64 cb_6 ?_
  refine hicmp_ge (tgt := 108) C dX4_readOperand_66 (by decide) h (fun h => ?_) (fun h => ?_)
  · exact w_X4_readOperand_108 C hr hfr hlo hR_X4_readOpened hR_X4_readOperand hR_X4_readTerm    _ _ _ _  h hI (lv_sub hl [0] rfl)
  · refine lv_iload_n hx hb dX4_readOperand_69 rfl (lv_at hl 2 rfl) ?_
    refine lv_bipush hx hb dX4_readOperand_70 cb_40 ?_
    refine hicmp_eq (tgt := 87) C dX4_readOperand_72 (by decide) h (fun h => ?_) (fun h => ?_)
    · exact w_X4_readOperand_87 C hr hfr hlo hR_X4_readOpened hR_X4_readOperand hR_X4_readTerm   _ _ _ _ _ _  h hI (lv_sub hl [0, 1, 2] rfl)
    · refine lv_iload_n hx hb dX4_readOperand_75 rfl (lv_at hl 2 rfl) ?_
      refine lv_bipush hx hb dX4_readOperand_76 cb_33 ?_
      refine hicmp_eq (tgt := 87) C dX4_readOperand_78 (by decide) h (fun h => ?_) (fun h => ?_)
      · exact w_X4_readOperand_87 C hr hfr hlo hR_X4_readOpened hR_X4_readOperand hR_X4_readTerm   _ _ _ _ _ _  h hI (lv_sub hl [0, 1, 2] rfl)
      · refine lv_iload_n hx hb dX4_readOperand_81 rfl (lv_at hl 2 rfl) ?_
        refine lv_bipush hx hb dX4_readOperand_82 cb_45 ?_
        refine hicmp_ne (tgt := 108) C dX4_readOperand_84 (by decide) h (fun h => ?_) (fun h => ?_)
        · exact w_X4_readOperand_108 C hr hfr hlo hR_X4_readOpened hR_X4_readOperand hR_X4_readTerm    _ _ _ _  h hI (lv_sub hl [0] rfl)
        · exact w_X4_readOperand_87 C hr hfr hlo hR_X4_readOpened hR_X4_readOperand hR_X4_readTerm   _ _ _ _ _ _  h hI (lv_sub hl [0, 1, 2] rfl)
set_option maxRecDepth 100000 in
set_option maxHeartbeats 4000000 in
theorem cr_X4_readOperand (l : Launch) (D : va_G) (t : gT) (ad z : Nat → Nat) (hJ : gJ shX ad) {R_X4_readOpened : gS → Int32 → Int32 → Option gS} {R_X4_readOperand : gS → Int32 → Option gS} {R_X4_readTerm : gS → Int32 → Int32 → Option gS} {fr lo : Nat} (hfr : 5 ≤ fr) (hlo : 151 ≤ lo) (hR_X4_readOpened : ∀ (σ : gS) (x1 : Int32) (x2 : Int32) (q : gS), R_X4_readOpened σ x1 x2 = some q → Met l yX4_readOpened (Cond.code yX4_readOpened cX4_readOpened 3 (none) :: lw_tb) (gR fr lo) (gPc shX t ad D z [.ref (ad 7), .int x1, .int x2] σ) (gQv shX t ad D q) 0 0 (gA shX ad)) (hR_X4_readOperand : ∀ (σ : gS) (x1 : Int32) (q : gS), R_X4_readOperand σ x1 = some q → Met l yX4_readOperand (Cond.code yX4_readOperand cX4_readOperand 3 (none) :: lw_tb) (gR fr lo) (gPc shX t ad D z [.ref (ad 7), .int x1] σ) (gQv shX t ad D q) 0 0 (gA shX ad)) (hR_X4_readTerm : ∀ (σ : gS) (x1 : Int32) (x2 : Int32) (q : gS), R_X4_readTerm σ x1 x2 = some q → Met l yX4_readTerm (Cond.code yX4_readTerm cX4_readTerm 7 (none) :: lw_tb) (gR fr lo) (gPc shX t ad D z [.ref (ad 7), .int x1, .int x2] σ) (gQv shX t ad D q) 0 0 (gA shX ad)) (σ : gS) (x1 : Int32) (q : gS) (h : F_X4_readOperand R_X4_readOpened R_X4_readOperand R_X4_readTerm σ x1 = some q) : Met l yX4_readOperand (Cond.code yX4_readOperand cX4_readOperand 3 (none) :: lw_tb) (gR (fr + 1) (lo + 26)) (gPc shX t ad D z [.ref (ad 7), .int x1] σ) (gQv shX t ad D q) 0 0 (gA shX ad) := by
  refine gMet "NineKeysRound$Law" rfl (by decide) hJ (Nat.le_of_ble_eq_true rfl) ?_
  intro p e s m below meth c ls C hr hI hl
  have hx := C.1
  have hb := C.2.1
  have hl : lv_has ls 3 [(0, .ref (ad 7)), (1, .int x1)] := hl
  unfold F_X4_readOperand at h
  refine lv_aload_n hx hb dX4_readOperand_0 rfl (lv_at hl 0 rfl) ?_
  refine h_callvi_o (rest := []) C hI hl.1 shX_7 rfl yv_X4_peek k_403 h (fun q hq => c_X4_peek l D t ad z C.2.2.2.2.2.2.1 (σ) q hq) (As := []) rfl rfl ⟨by show _ ≤ fr + 1; omega, by show _ ≤ lo + 26; omega⟩ (Nat.le_of_ble_eq_true rfl) dX4_readOperand_1 (fun q1 H locs h hI => ?_)
  refine lv_istore_n (lv' := [(2, .int q1), (0, .ref (ad 7)), (1, .int x1)]) hx hb dX4_readOperand_4 rfl hl (by decide) rfl (fun ls hl => ?_)
  refine lv_iload_n hx hb dX4_readOperand_5 rfl (lv_at hl 0 rfl) ?_
  refine h_callsi_o (rest := []) C hI hl.1 ys_X4_isDigit k_407 h (fun q hq => c_X4_isDigit l D t ad z C.2.2.2.2.2.2.1 (σ) q1 q hq) (As := [.int q1]) rfl rfl ⟨by show _ ≤ fr + 1; omega, by show _ ≤ lo + 26; omega⟩ (Nat.le_of_ble_eq_true rfl) dX4_readOperand_6 (fun q2 H locs h hI => ?_)
  refine hif_eq (tgt := 19) C dX4_readOperand_9 (by decide) h (fun h => ?_) (fun h => ?_)
  · refine lv_iload_n hx hb dX4_readOperand_19 rfl (lv_at hl 0 rfl) ?_
    refine hif_lt (tgt := 63) C dX4_readOperand_20 (by decide) h (fun h => ?_) (fun h => ?_)
    · exact w_X4_readOperand_63 C hr hfr hlo hR_X4_readOpened hR_X4_readOperand hR_X4_readTerm   _ _ _ _ _ _  h hI (lv_sub hl [1, 2, 0] rfl)
    · refine gx_ldcS C dX4_readOperand_23 ?_
      refine lv_iload_n hx hb dX4_readOperand_25 rfl (lv_at hl 0 rfl) ?_
      refine lv_i2c (v := ((jc (q1 : Int32)))) hx hb dX4_readOperand_26 rfl ?_
      refine h_callci_o (rest := []) C hI hl.1 rfl yv_J0_indexOf_0f7a4 k_419 h (fun q hq => c_J0_indexOf_0f7a4 l D t ad z C.2.2.2.2.2.2.1 (σ) ((jc (q1 : Int32))) q hq) (As := [.int ((jc (q1 : Int32)))]) rfl rfl ⟨by show _ ≤ fr + 1; omega, by show _ ≤ lo + 26; omega⟩ (Nat.le_of_ble_eq_true rfl) dX4_readOperand_27 (fun q3 H locs h hI => ?_)
      refine hif_lt (tgt := 63) C dX4_readOperand_30 (by decide) h (fun h => ?_) (fun h => ?_)
      · exact w_X4_readOperand_63 C hr hfr hlo hR_X4_readOpened hR_X4_readOperand hR_X4_readTerm   _ _ _ _ _ _  h hI (lv_sub hl [1, 2, 0] rfl)
      · refine lv_aload_n hx hb dX4_readOperand_33 rfl (lv_at hl 1 rfl) ?_
        refine lv_bipush hx hb dX4_readOperand_34 cb_36 ?_
        refine h_callvv_w (rest := []) C hI hl.1 shX_7 rfl yv_X4_emit k_414 h (fun q hq => c_X4_emit l D t ad z C.2.2.2.2.2.2.1 (σ) 36 q hq) (As := [.int 36]) rfl rfl ⟨by show _ ≤ fr + 1; omega, by show _ ≤ lo + 26; omega⟩ (Nat.le_of_ble_eq_true rfl) dX4_readOperand_36 (fun q4 H locs h hI => ?_)
        refine lv_aload_n hx hb dX4_readOperand_39 rfl (lv_at hl 1 rfl) ?_
        refine gx_ldcS C dX4_readOperand_40 ?_
        refine lv_iload_n hx hb dX4_readOperand_42 rfl (lv_at hl 0 rfl) ?_
        refine lv_i2c (v := ((jc (q1 : Int32)))) hx hb dX4_readOperand_43 rfl ?_
        refine h_callci_o (rest := [.ref (ad 7)]) C hI hl.1 rfl yv_J0_indexOf_0f7a4 k_419 h (fun q hq => c_J0_indexOf_0f7a4 l D t ad z C.2.2.2.2.2.2.1 q4 ((jc (q1 : Int32))) q hq) (As := [.int ((jc (q1 : Int32)))]) rfl rfl ⟨by show _ ≤ fr + 1; omega, by show _ ≤ lo + 26; omega⟩ (Nat.le_of_ble_eq_true rfl) dX4_readOperand_44 (fun q5 H locs h hI => ?_)
        refine h_callvv_w (rest := []) C hI hl.1 shX_7 rfl yv_X4_emit k_414 h (fun q hq => c_X4_emit l D t ad z C.2.2.2.2.2.2.1 q4 q5 q hq) (As := [.int q5]) rfl rfl ⟨by show _ ≤ fr + 1; omega, by show _ ≤ lo + 26; omega⟩ (Nat.le_of_ble_eq_true rfl) dX4_readOperand_47 (fun q6 H locs h hI => ?_)
        refine lv_aload_n hx hb dX4_readOperand_50 rfl (lv_at hl 1 rfl) ?_
        refine lv_dup hx hb dX4_readOperand_51 rfl ?_
        refine fg_82 C hI shX_7 rfl dX4_readOperand_52 ?_
        refine lv_iconst hx hb dX4_readOperand_55 ci_1 ?_
        refine lv_iadd hx hb dX4_readOperand_56 ?_
        refine fp_82 C hI shX_7 rfl dX4_readOperand_57 (fun H locs hI => ?_)
        refine gx_st h hI (fun s7 h hI => ?_)
        refine lv_goto (tgt := 113) hx hb dX4_readOperand_60 (by decide) ?_
        exact h_vret_w C hr hI h dX4_readOperand_113
  · refine lv_aload_n hx hb dX4_readOperand_12 rfl (lv_at hl 1 rfl) ?_
    refine h_callvv_w (rest := []) C hI hl.1 shX_7 rfl yv_X4_readNumber k_410 h (fun q hq => c_X4_readNumber l D t ad z C.2.2.2.2.2.2.1 (σ) q hq) (As := []) rfl rfl ⟨by show _ ≤ fr + 1; omega, by show _ ≤ lo + 26; omega⟩ (Nat.le_of_ble_eq_true rfl) dX4_readOperand_13 (fun q8 H locs h hI => ?_)
    refine lv_goto (tgt := 113) hx hb dX4_readOperand_16 (by decide) ?_
    exact h_vret_w C hr hI h dX4_readOperand_113
set_option maxRecDepth 100000 in
set_option maxHeartbeats 4000000 in
theorem w_X4_readTerm_10 {p : Program} {l : Launch} {e : Env} {s : State} {m : MethodId} {args : Array Value} {below : List Frame} {meth : Method} {c : Code} {D : va_G} {t : gT} {ad z : Nat → Nat} {R_X4_readOpened : gS → Int32 → Int32 → Option gS} {R_X4_readOperand : gS → Int32 → Option gS} {R_X4_readTerm : gS → Int32 → Int32 → Option gS} (C : gC p s m args meth c cX4_readTerm 7 "NineKeysRound$Law" D t shX ad z) (hr : meth.sig.returnType = none) {fr lo : Nat} (hfr : 5 ≤ fr) (hlo : 151 ≤ lo) (hR_X4_readOpened : ∀ (σ : gS) (x1 : Int32) (x2 : Int32) (q : gS), R_X4_readOpened σ x1 x2 = some q → Met l yX4_readOpened (Cond.code yX4_readOpened cX4_readOpened 3 (none) :: lw_tb) (gR fr lo) (gPc shX t ad D z [.ref (ad 7), .int x1, .int x2] σ) (gQv shX t ad D q) 0 0 (gA shX ad)) (hR_X4_readOperand : ∀ (σ : gS) (x1 : Int32) (q : gS), R_X4_readOperand σ x1 = some q → Met l yX4_readOperand (Cond.code yX4_readOperand cX4_readOperand 3 (none) :: lw_tb) (gR fr lo) (gPc shX t ad D z [.ref (ad 7), .int x1] σ) (gQv shX t ad D q) 0 0 (gA shX ad)) (hR_X4_readTerm : ∀ (σ : gS) (x1 : Int32) (x2 : Int32) (q : gS), R_X4_readTerm σ x1 x2 = some q → Met l yX4_readTerm (Cond.code yX4_readTerm cX4_readTerm 7 (none) :: lw_tb) (gR fr lo) (gPc shX t ad D z [.ref (ad 7), .int x1, .int x2] σ) (gQv shX t ad D q) 0 0 (gA shX ad)) {r : gS} : ∀ (n : Nat) (x1 : Int32) (x2 : Int32) (x3 : Int32) (x4 : Int32) (σ : gS) (H : Heap) (locs : List Loc) (ls : Array Slot), f_X4_readTerm_10 R_X4_readOpened R_X4_readOperand R_X4_readTerm n x1 x2 x3 x4 σ = some r → gI shX t ad D s.heap σ H locs → lv_has ls 7 [(0, .ref (ad 7)), (1, .int x1), (2, .int x2), (3, .int x3), (4, .int x4)] → W p l e (gR (fr + 1) (lo + 26)) s m args below meth c H locs 0 0 (MQ below (gQv shX t ad D r) args s 0 0 (gA shX ad)) (F0 m 10 ls []) := by
  have hx := C.1
  have hb := C.2.1
  intro n
  induction n with
  | zero =>
    intro x1 x2 x3 x4 σ H locs ls  h
    exact absurd h (by simp [f_X4_readTerm_10])
  | succ n ih =>
    intro x1 x2 x3 x4 σ H locs ls  h hI hl
    unfold f_X4_readTerm_10 at h
    refine lv_iload hx hb dX4_readTerm_10 (lv_at hl 4 rfl) ?_
    refine lv_bipush hx hb dX4_readTerm_12 cb_120 ?_
    refine hicmp_ge (tgt := 94) C dX4_readTerm_14 (by decide) h (fun h => ?_) (fun h => ?_)
    · exact h_vret_w C hr hI h dX4_readTerm_94
    · refine lv_aload_n hx hb dX4_readTerm_17 rfl (lv_at hl 0 rfl) ?_
      refine fg_83 C hI shX_7 rfl dX4_readTerm_18 ?_
      refine hif_ne (tgt := 94) C dX4_readTerm_21 (by decide) h (fun h => ?_) (fun h => ?_)
      · exact h_vret_w C hr hI h dX4_readTerm_94
      · refine lv_aload_n hx hb dX4_readTerm_24 rfl (lv_at hl 0 rfl) ?_
        refine h_callvi_o (rest := []) C hI hl.1 shX_7 rfl yv_X4_peek k_403 h (fun q hq => c_X4_peek l D t ad z C.2.2.2.2.2.2.1 (σ) q hq) (As := []) rfl rfl ⟨by show _ ≤ fr + 1; omega, by show _ ≤ lo + 26; omega⟩ (Nat.le_of_ble_eq_true rfl) dX4_readTerm_25 (fun q1 H locs h hI => ?_)
        refine lv_istore (lv' := [(5, .int q1), (0, .ref (ad 7)), (1, .int x1), (2, .int x2), (3, .int x3), (4, .int x4)]) hx hb dX4_readTerm_28 hl (by decide) rfl (fun ls hl => ?_)
        refine lv_iload hx hb dX4_readTerm_30 (lv_at hl 0 rfl) ?_
        refine h_callsi_o (rest := []) C hI hl.1 ys_X4_bindingOf k_509 h (fun q hq => c_X4_bindingOf l D t ad z C.2.2.2.2.2.2.1 (σ) q1 q hq) (As := [.int q1]) rfl rfl ⟨by show _ ≤ fr + 1; omega, by show _ ≤ lo + 26; omega⟩ (Nat.le_of_ble_eq_true rfl) dX4_readTerm_32 (fun q2 H locs h hI => ?_)
        refine lv_istore (lv' := [(6, .int q2), (5, .int q1), (0, .ref (ad 7)), (1, .int x1), (2, .int x2), (3, .int x3), (4, .int x4)]) hx hb dX4_readTerm_35 hl (by decide) rfl (fun ls hl => ?_)
        refine lv_iload hx hb dX4_readTerm_37 (lv_at hl 0 rfl) ?_
        refine lv_iload_n hx hb dX4_readTerm_39 rfl (lv_at hl 3 rfl) ?_
        refine hicmp_lt (tgt := 49) C dX4_readTerm_40 (by decide) h (fun h => ?_) (fun h => ?_)
        · exact h_vret_w C hr hI h dX4_readTerm_49
        · refine lv_iload hx hb dX4_readTerm_43 (lv_at hl 0 rfl) ?_
          refine lv_iload_n hx hb dX4_readTerm_45 rfl (lv_at hl 5 rfl) ?_
          refine hicmp_le (tgt := 50) C dX4_readTerm_46 (by decide) h (fun h => ?_) (fun h => ?_)
          · refine lv_aload_n hx hb dX4_readTerm_50 rfl (lv_at hl 2 rfl) ?_
            refine lv_dup hx hb dX4_readTerm_51 rfl ?_
            refine fg_82 C hI shX_7 rfl dX4_readTerm_52 ?_
            refine lv_iconst hx hb dX4_readTerm_55 ci_1 ?_
            refine lv_iadd hx hb dX4_readTerm_56 ?_
            refine fp_82 C hI shX_7 rfl dX4_readTerm_57 (fun H locs hI => ?_)
            refine gx_st h hI (fun s3 h hI => ?_)
            refine lv_aload_n hx hb dX4_readTerm_60 rfl (lv_at hl 2 rfl) ?_
            refine lv_iload hx hb dX4_readTerm_61 (lv_at hl 0 rfl) ?_
            refine lv_iconst hx hb dX4_readTerm_63 ci_1 ?_
            refine lv_iadd hx hb dX4_readTerm_64 ?_
            refine lv_iload_n hx hb dX4_readTerm_65 rfl (lv_at hl 4 rfl) ?_
            refine h_callvv_w (rest := []) C hI hl.1 shX_7 rfl yv_X4_readTerm k_395 h (fun q hq => hR_X4_readTerm s3 (q2 + 1) x2 q hq) (As := [.int (q2 + 1), .int x2]) rfl rfl ⟨by show _ ≤ fr + 1; omega, by show _ ≤ lo + 26; omega⟩ (Nat.le_of_ble_eq_true rfl) dX4_readTerm_66 (fun q4 H locs h hI => ?_)
            refine lv_aload_n hx hb dX4_readTerm_69 rfl (lv_at hl 2 rfl) ?_
            refine lv_iload hx hb dX4_readTerm_70 (lv_at hl 1 rfl) ?_
            refine h_callvv_w (rest := []) C hI hl.1 shX_7 rfl yv_X4_emit k_414 h (fun q hq => c_X4_emit l D t ad z C.2.2.2.2.2.2.1 q4 q1 q hq) (As := [.int q1]) rfl rfl ⟨by show _ ≤ fr + 1; omega, by show _ ≤ lo + 26; omega⟩ (Nat.le_of_ble_eq_true rfl) dX4_readTerm_72 (fun q5 H locs h hI => ?_)
            refine lv_iload hx hb dX4_readTerm_75 (lv_at hl 0 rfl) ?_
            refine lv_iconst hx hb dX4_readTerm_77 ci_2 ?_
            refine hicmp_ne (tgt := 85) C dX4_readTerm_78 (by decide) h (fun h => ?_) (fun h => ?_)
            · refine lv_iload hx hb dX4_readTerm_85 (lv_at hl 0 rfl) ?_
              refine lv_istore_n (lv' := [(3, .int q2), (6, .int q2), (5, .int q1), (0, .ref (ad 7)), (1, .int x1), (2, .int x2), (4, .int x4)]) hx hb dX4_readTerm_87 rfl hl (by decide) rfl (fun ls hl => ?_)
              refine h_iinc C hl dX4_readTerm_88 6 rfl ci_1 h (by decide) (lvf := fun v6 => [(4, .int v6), (3, .int q2), (6, .int q2), (5, .int q1), (0, .ref (ad 7)), (1, .int x1), (2, .int x2)]) (fun _ => rfl) (fun v6 ls h hl => ?_)
              refine lv_goto (tgt := 10) hx hb dX4_readTerm_91 (by decide) ?_
              exact ih _ _ _ _ _ _ _ _  h hI (lv_sub hl [4, 5, 6, 1, 0] rfl)
            · refine lv_iconst hx hb dX4_readTerm_81 ci_1 ?_
              refine lv_goto (tgt := 87) hx hb dX4_readTerm_82 (by decide) ?_
              refine lv_istore_n (lv' := [(3, .int 1), (6, .int q2), (5, .int q1), (0, .ref (ad 7)), (1, .int x1), (2, .int x2), (4, .int x4)]) hx hb dX4_readTerm_87 rfl hl (by decide) rfl (fun ls hl => ?_)
              refine h_iinc C hl dX4_readTerm_88 6 rfl ci_1 h (by decide) (lvf := fun v7 => [(4, .int v7), (3, .int 1), (6, .int q2), (5, .int q1), (0, .ref (ad 7)), (1, .int x1), (2, .int x2)]) (fun _ => rfl) (fun v7 ls h hl => ?_)
              refine lv_goto (tgt := 10) hx hb dX4_readTerm_91 (by decide) ?_
              exact ih _ _ _ _ _ _ _ _  h hI (lv_sub hl [4, 5, 6, 1, 0] rfl)
          · exact h_vret_w C hr hI h dX4_readTerm_49
set_option maxRecDepth 100000 in
set_option maxHeartbeats 4000000 in
theorem cr_X4_readTerm (l : Launch) (D : va_G) (t : gT) (ad z : Nat → Nat) (hJ : gJ shX ad) {R_X4_readOpened : gS → Int32 → Int32 → Option gS} {R_X4_readOperand : gS → Int32 → Option gS} {R_X4_readTerm : gS → Int32 → Int32 → Option gS} {fr lo : Nat} (hfr : 5 ≤ fr) (hlo : 151 ≤ lo) (hR_X4_readOpened : ∀ (σ : gS) (x1 : Int32) (x2 : Int32) (q : gS), R_X4_readOpened σ x1 x2 = some q → Met l yX4_readOpened (Cond.code yX4_readOpened cX4_readOpened 3 (none) :: lw_tb) (gR fr lo) (gPc shX t ad D z [.ref (ad 7), .int x1, .int x2] σ) (gQv shX t ad D q) 0 0 (gA shX ad)) (hR_X4_readOperand : ∀ (σ : gS) (x1 : Int32) (q : gS), R_X4_readOperand σ x1 = some q → Met l yX4_readOperand (Cond.code yX4_readOperand cX4_readOperand 3 (none) :: lw_tb) (gR fr lo) (gPc shX t ad D z [.ref (ad 7), .int x1] σ) (gQv shX t ad D q) 0 0 (gA shX ad)) (hR_X4_readTerm : ∀ (σ : gS) (x1 : Int32) (x2 : Int32) (q : gS), R_X4_readTerm σ x1 x2 = some q → Met l yX4_readTerm (Cond.code yX4_readTerm cX4_readTerm 7 (none) :: lw_tb) (gR fr lo) (gPc shX t ad D z [.ref (ad 7), .int x1, .int x2] σ) (gQv shX t ad D q) 0 0 (gA shX ad)) (σ : gS) (x1 : Int32) (x2 : Int32) (q : gS) (h : F_X4_readTerm R_X4_readOpened R_X4_readOperand R_X4_readTerm σ x1 x2 = some q) : Met l yX4_readTerm (Cond.code yX4_readTerm cX4_readTerm 7 (none) :: lw_tb) (gR (fr + 1) (lo + 26)) (gPc shX t ad D z [.ref (ad 7), .int x1, .int x2] σ) (gQv shX t ad D q) 0 0 (gA shX ad) := by
  refine gMet "NineKeysRound$Law" rfl (by decide) hJ (Nat.le_of_ble_eq_true rfl) ?_
  intro p e s m below meth c ls C hr hI hl
  have hx := C.1
  have hb := C.2.1
  have hl : lv_has ls 7 [(0, .ref (ad 7)), (1, .int x1), (2, .int x2)] := hl
  unfold F_X4_readTerm at h
  refine lv_aload_n hx hb dX4_readTerm_0 rfl (lv_at hl 0 rfl) ?_
  refine lv_iload_n hx hb dX4_readTerm_1 rfl (lv_at hl 2 rfl) ?_
  refine h_callvv_w (rest := []) C hI hl.1 shX_7 rfl yv_X4_readOperand k_399 h (fun q hq => hR_X4_readOperand (σ) x2 q hq) (As := [.int x2]) rfl rfl ⟨by show _ ≤ fr + 1; omega, by show _ ≤ lo + 26; omega⟩ (Nat.le_of_ble_eq_true rfl) dX4_readTerm_2 (fun q1 H locs h hI => ?_)
  refine lv_iconst hx hb dX4_readTerm_5 ci_4 ?_
  refine lv_istore_n (lv' := [(3, .int 4), (0, .ref (ad 7)), (1, .int x1), (2, .int x2)]) hx hb dX4_readTerm_6 rfl hl (by decide) rfl (fun ls hl => ?_)
  refine lv_iconst hx hb dX4_readTerm_7 ci_0 ?_
  refine lv_istore (lv' := [(4, .int 0), (3, .int 4), (0, .ref (ad 7)), (1, .int x1), (2, .int x2)]) hx hb dX4_readTerm_8 hl (by decide) rfl (fun ls hl => ?_)
  exact w_X4_readTerm_10 C hr hfr hlo hR_X4_readOpened hR_X4_readOperand hR_X4_readTerm   _ _ _ _ _ _ _ _ _  h hI (lv_sub hl [2, 3, 4, 1, 0] rfl)
set_option maxRecDepth 100000 in
set_option maxHeartbeats 4000000 in
theorem cR_X4_readOpened (l : Launch) (D : va_G) (t : gT) (ad z : Nat → Nat) (hJ : gJ shX ad) : ∀ d : Nat, (∀ (σ : gS) (x1 : Int32) (x2 : Int32) (q : gS), (fR_X4_readOpened d).1 σ x1 x2 = some q → Met l yX4_readOpened (Cond.code yX4_readOpened cX4_readOpened 3 (none) :: lw_tb) (gR (5 + d) (151 + d * 26)) (gPc shX t ad D z [.ref (ad 7), .int x1, .int x2] σ) (gQv shX t ad D q) 0 0 (gA shX ad)) ∧ (∀ (σ : gS) (x1 : Int32) (q : gS), (fR_X4_readOpened d).2.1 σ x1 = some q → Met l yX4_readOperand (Cond.code yX4_readOperand cX4_readOperand 3 (none) :: lw_tb) (gR (5 + d) (151 + d * 26)) (gPc shX t ad D z [.ref (ad 7), .int x1] σ) (gQv shX t ad D q) 0 0 (gA shX ad)) ∧ (∀ (σ : gS) (x1 : Int32) (x2 : Int32) (q : gS), (fR_X4_readOpened d).2.2 σ x1 x2 = some q → Met l yX4_readTerm (Cond.code yX4_readTerm cX4_readTerm 7 (none) :: lw_tb) (gR (5 + d) (151 + d * 26)) (gPc shX t ad D z [.ref (ad 7), .int x1, .int x2] σ) (gQv shX t ad D q) 0 0 (gA shX ad)) := by
  intro d
  induction d with
  | zero => exact ⟨fun _ _ _ _ h => absurd h (by simp [fR_X4_readOpened]), fun _ _ _ h => absurd h (by simp [fR_X4_readOpened]), fun _ _ _ _ h => absurd h (by simp [fR_X4_readOpened])⟩
  | succ d ih =>
    rw [show 151 + (d + 1) * 26 = 151 + d * 26 + 26 by rw [Nat.succ_mul, Nat.add_assoc]]
    exact ⟨fun σ x1 x2 q h => cr_X4_readOpened l D t ad z hJ (fr := 5 + d) (lo := 151 + d * 26) (by omega) (by omega) ih.1 ih.2.1 ih.2.2 σ x1 x2 q h, fun σ x1 q h => cr_X4_readOperand l D t ad z hJ (fr := 5 + d) (lo := 151 + d * 26) (by omega) (by omega) ih.1 ih.2.1 ih.2.2 σ x1 q h, fun σ x1 x2 q h => cr_X4_readTerm l D t ad z hJ (fr := 5 + d) (lo := 151 + d * 26) (by omega) (by omega) ih.1 ih.2.1 ih.2.2 σ x1 x2 q h⟩
theorem c_X4_readOpened (l : Launch) (D : va_G) (t : gT) (ad z : Nat → Nat) (hJ : gJ shX ad) (σ : gS) (x1 : Int32) (x2 : Int32) (q : gS) (h : f_X4_readOpened σ x1 x2 = some q) : Met l yX4_readOpened (Cond.code yX4_readOpened cX4_readOpened 3 (none) :: lw_tb) (gR 69 1815) (gPc shX t ad D z [.ref (ad 7), .int x1, .int x2] σ) (gQv shX t ad D q) 0 0 (gA shX ad) := (cR_X4_readOpened l D t ad z hJ 64).1 σ x1 x2 q h
theorem c_X4_readOperand (l : Launch) (D : va_G) (t : gT) (ad z : Nat → Nat) (hJ : gJ shX ad) (σ : gS) (x1 : Int32) (q : gS) (h : f_X4_readOperand σ x1 = some q) : Met l yX4_readOperand (Cond.code yX4_readOperand cX4_readOperand 3 (none) :: lw_tb) (gR 69 1815) (gPc shX t ad D z [.ref (ad 7), .int x1] σ) (gQv shX t ad D q) 0 0 (gA shX ad) := (cR_X4_readOpened l D t ad z hJ 64).2.1 σ x1 q h
theorem c_X4_readTerm (l : Launch) (D : va_G) (t : gT) (ad z : Nat → Nat) (hJ : gJ shX ad) (σ : gS) (x1 : Int32) (x2 : Int32) (q : gS) (h : f_X4_readTerm σ x1 x2 = some q) : Met l yX4_readTerm (Cond.code yX4_readTerm cX4_readTerm 7 (none) :: lw_tb) (gR 69 1815) (gPc shX t ad D z [.ref (ad 7), .int x1, .int x2] σ) (gQv shX t ad D q) 0 0 (gA shX ad) := (cR_X4_readOpened l D t ad z hJ 64).2.2 σ x1 x2 q h
set_option maxRecDepth 100000 in
set_option maxHeartbeats 4000000 in
theorem w_X4_readLine_22 {p : Program} {l : Launch} {e : Env} {s : State} {m : MethodId} {args : Array Value} {below : List Frame} {meth : Method} {c : Code} {D : va_G} {t : gT} {ad z : Nat → Nat} (C : gC p s m args meth c cX4_readLine 2 "NineKeysRound$Law" D t shX ad z) (hr : meth.sig.returnType = none) {r : gS} : ∀ (σ : gS) (H : Heap) (locs : List Loc) (ls : Array Slot), f_X4_readLine_22 σ = some r → gI shX t ad D s.heap σ H locs → lv_has ls 2 [(0, .ref (ad 7))] → W p l e (gR 70 1841) s m args below meth c H locs 0 0 (MQ below (gQv shX t ad D r) args s 0 0 (gA shX ad)) (F0 m 22 ls []) := by
  have hx := C.1
  have hb := C.2.1
  intro σ H locs ls  h hI hl
  unfold f_X4_readLine_22 at h
  refine lv_aload_n hx hb dX4_readLine_22 rfl (lv_at hl 0 rfl) ?_
  refine lv_bipush hx hb dX4_readLine_23 cb_59 ?_
  refine h_callvv_w (rest := []) C hI hl.1 shX_7 rfl yv_X4_emit k_414 h (fun q hq => c_X4_emit l D t ad z C.2.2.2.2.2.2.1 (σ) 59 q hq) (As := [.int 59]) rfl rfl ⟨Nat.le_of_ble_eq_true rfl, Nat.le_of_ble_eq_true rfl⟩ (Nat.le_of_ble_eq_true rfl) dX4_readLine_25 (fun q1 H locs h hI => ?_)
  exact h_vret_w C hr hI h dX4_readLine_28
set_option maxRecDepth 100000 in
set_option maxHeartbeats 4000000 in
theorem c_X4_readLine (l : Launch) (D : va_G) (t : gT) (ad z : Nat → Nat) (hJ : gJ shX ad) (σ : gS) (q : gS) (h : f_X4_readLine σ = some q) : Met l yX4_readLine (Cond.code yX4_readLine cX4_readLine 2 (none) :: lw_tb) (gR 70 1841) (gPc shX t ad D z [.ref (ad 7)] σ) (gQv shX t ad D q) 0 0 (gA shX ad) := by
  refine gMet "NineKeysRound$Law" rfl (by decide) hJ (Nat.le_of_ble_eq_true rfl) ?_
  intro p e s m below meth c ls C hr hI hl
  have hx := C.1
  have hb := C.2.1
  have hl : lv_has ls 2 [(0, .ref (ad 7))] := hl
  unfold f_X4_readLine at h
  refine lv_aload_n hx hb dX4_readLine_0 rfl (lv_at hl 0 rfl) ?_
  refine lv_iconst hx hb dX4_readLine_1 ci_0 ?_
  refine lv_iconst hx hb dX4_readLine_2 ci_0 ?_
  refine h_callvv_w (rest := []) C hI hl.1 shX_7 rfl yv_X4_readTerm k_395 h (fun q hq => c_X4_readTerm l D t ad z C.2.2.2.2.2.2.1 (σ) 0 0 q hq) (As := [.int 0, .int 0]) rfl rfl ⟨Nat.le_of_ble_eq_true rfl, Nat.le_of_ble_eq_true rfl⟩ (Nat.le_of_ble_eq_true rfl) dX4_readLine_3 (fun q1 H locs h hI => ?_)
  refine lv_aload_n hx hb dX4_readLine_6 rfl (lv_at hl 0 rfl) ?_
  refine fg_83 C hI shX_7 rfl dX4_readLine_7 ?_
  refine hif_ne (tgt := 22) C dX4_readLine_10 (by decide) h (fun h => ?_) (fun h => ?_)
  · exact w_X4_readLine_22 C hr     _ _ _ _  h hI (lv_sub hl [0] rfl)
  · refine lv_aload_n hx hb dX4_readLine_13 rfl (lv_at hl 0 rfl) ?_
    refine h_callvi_o (rest := []) C hI hl.1 shX_7 rfl yv_X4_peek k_403 h (fun q hq => c_X4_peek l D t ad z C.2.2.2.2.2.2.1 q1 q hq) (As := []) rfl rfl ⟨Nat.le_of_ble_eq_true rfl, Nat.le_of_ble_eq_true rfl⟩ (Nat.le_of_ble_eq_true rfl) dX4_readLine_14 (fun q2 H locs h hI => ?_)
    refine lv_bipush hx hb dX4_readLine_17 cb_63 ?_
    refine hicmp_eq (tgt := 29) C dX4_readLine_19 (by decide) h (fun h => ?_) (fun h => ?_)
    · refine lv_aload_n hx hb dX4_readLine_29 rfl (lv_at hl 0 rfl) ?_
      refine lv_dup hx hb dX4_readLine_30 rfl ?_
      refine fg_82 C hI shX_7 rfl dX4_readLine_31 ?_
      refine lv_iconst hx hb dX4_readLine_34 ci_1 ?_
      refine lv_iadd hx hb dX4_readLine_35 ?_
      refine fp_82 C hI shX_7 rfl dX4_readLine_36 (fun H locs hI => ?_)
      refine gx_st h hI (fun s3 h hI => ?_)
      refine lv_aload_n hx hb dX4_readLine_39 rfl (lv_at hl 0 rfl) ?_
      refine lv_bipush hx hb dX4_readLine_40 cb_63 ?_
      refine h_callvv_w (rest := []) C hI hl.1 shX_7 rfl yv_X4_emit k_414 h (fun q hq => c_X4_emit l D t ad z C.2.2.2.2.2.2.1 s3 63 q hq) (As := [.int 63]) rfl rfl ⟨Nat.le_of_ble_eq_true rfl, Nat.le_of_ble_eq_true rfl⟩ (Nat.le_of_ble_eq_true rfl) dX4_readLine_42 (fun q4 H locs h hI => ?_)
      refine lv_aload_n hx hb dX4_readLine_45 rfl (lv_at hl 0 rfl) ?_
      refine fg_80 C hI shX_7 rfl dX4_readLine_46 ?_
      refine gx_topi h (fun v5 h => ?_)
      refine lv_istore_n (lv' := [(1, .int v5), (0, .ref (ad 7))]) hx hb dX4_readLine_49 rfl hl (by decide) rfl (fun ls hl => ?_)
      refine lv_aload_n hx hb dX4_readLine_50 rfl (lv_at hl 1 rfl) ?_
      refine lv_iconst hx hb dX4_readLine_51 ci_0 ?_
      refine h_callvv_w (rest := []) C hI hl.1 shX_7 rfl yv_X4_emit k_414 h (fun q hq => c_X4_emit l D t ad z C.2.2.2.2.2.2.1 q4 0 q hq) (As := [.int 0]) rfl rfl ⟨Nat.le_of_ble_eq_true rfl, Nat.le_of_ble_eq_true rfl⟩ (Nat.le_of_ble_eq_true rfl) dX4_readLine_52 (fun q6 H locs h hI => ?_)
      refine lv_aload_n hx hb dX4_readLine_55 rfl (lv_at hl 1 rfl) ?_
      refine lv_iconst hx hb dX4_readLine_56 ci_0 ?_
      refine lv_iconst hx hb dX4_readLine_57 ci_0 ?_
      refine h_callvv_w (rest := []) C hI hl.1 shX_7 rfl yv_X4_readTerm k_395 h (fun q hq => c_X4_readTerm l D t ad z C.2.2.2.2.2.2.1 q6 0 0 q hq) (As := [.int 0, .int 0]) rfl rfl ⟨Nat.le_of_ble_eq_true rfl, Nat.le_of_ble_eq_true rfl⟩ (Nat.le_of_ble_eq_true rfl) dX4_readLine_58 (fun q7 H locs h hI => ?_)
      refine lv_aload_n hx hb dX4_readLine_61 rfl (lv_at hl 1 rfl) ?_
      refine lv_bipush hx hb dX4_readLine_62 cb_59 ?_
      refine h_callvv_w (rest := []) C hI hl.1 shX_7 rfl yv_X4_emit k_414 h (fun q hq => c_X4_emit l D t ad z C.2.2.2.2.2.2.1 q7 59 q hq) (As := [.int 59]) rfl rfl ⟨Nat.le_of_ble_eq_true rfl, Nat.le_of_ble_eq_true rfl⟩ (Nat.le_of_ble_eq_true rfl) dX4_readLine_64 (fun q8 H locs h hI => ?_)
      refine lv_iload_n hx hb dX4_readLine_67 rfl (lv_at hl 0 rfl) ?_
      refine lv_sipush hx hb dX4_readLine_68 cs_256 ?_
      refine hicmp_ge (tgt := 84) C dX4_readLine_71 (by decide) h (fun h => ?_) (fun h => ?_)
      · exact h_vret_w C hr hI h dX4_readLine_84
      · refine lv_aload_n hx hb dX4_readLine_74 rfl (lv_at hl 1 rfl) ?_
        refine fr_76 C hI shX_7 rfl dX4_readLine_75 ?_
        refine lv_iload_n hx hb dX4_readLine_78 rfl (lv_at hl 0 rfl) ?_
        refine lv_aload_n hx hb dX4_readLine_79 rfl (lv_at hl 1 rfl) ?_
        refine fg_80 C hI shX_7 rfl dX4_readLine_80 ?_
        refine gx_iast C hI shX_9 h dX4_readLine_83 (fun H locs h hI => ?_)
        refine gx_st h hI (fun s9 h hI => ?_)
        exact h_vret_w C hr hI h dX4_readLine_84
    · exact w_X4_readLine_22 C hr     _ _ _ _  h hI (lv_sub hl [0] rfl)
set_option maxRecDepth 100000 in
set_option maxHeartbeats 4000000 in
theorem w_X4_readText_17 {p : Program} {l : Launch} {e : Env} {s : State} {m : MethodId} {args : Array Value} {below : List Frame} {meth : Method} {c : Code} {D : va_G} {t : gT} {ad z : Nat → Nat} (C : gC p s m args meth c cX4_readText 2 "NineKeysRound$Law" D t shX ad z) (hr : meth.sig.returnType = some .int) {r : Int32 × gS} : ∀ (n : Nat) (x1 : Int32) (σ : gS) (H : Heap) (locs : List Loc) (ls : Array Slot), f_X4_readText_17 n x1 σ = some r → gI shX t ad D s.heap σ H locs → lv_has ls 2 [(0, .ref (ad 7)), (1, .int x1)] → W p l e (gR 71 1862) s m args below meth c H locs 0 0 (MQ below (gQi shX t ad D r.1 r.2) args s 0 0 (gA shX ad)) (F0 m 17 ls []) := by
  have hx := C.1
  have hb := C.2.1
  intro n
  induction n with
  | zero =>
    intro x1 σ H locs ls  h
    exact absurd h (by simp [f_X4_readText_17])
  | succ n ih =>
    intro x1 σ H locs ls  h hI hl
    unfold f_X4_readText_17 at h
    refine lv_iload_n hx hb dX4_readText_17 rfl (lv_at hl 1 rfl) ?_
    refine lv_bipush hx hb dX4_readText_18 cb_120 ?_
    refine hicmp_ge (tgt := 87) C dX4_readText_20 (by decide) h (fun h => ?_) (fun h => ?_)
    · refine lv_aload_n hx hb dX4_readText_87 rfl (lv_at hl 0 rfl) ?_
      refine fg_82 C hI shX_7 rfl dX4_readText_88 ?_
      exact h_iret_w C hr hI h dX4_readText_91
    · refine lv_aload_n hx hb dX4_readText_23 rfl (lv_at hl 0 rfl) ?_
      refine h_callvv_w (rest := []) C hI hl.1 shX_7 rfl yv_X4_readLine k_391 h (fun q hq => c_X4_readLine l D t ad z C.2.2.2.2.2.2.1 (σ) q hq) (As := []) rfl rfl ⟨Nat.le_of_ble_eq_true rfl, Nat.le_of_ble_eq_true rfl⟩ (Nat.le_of_ble_eq_true rfl) dX4_readText_24 (fun q1 H locs h hI => ?_)
      refine lv_aload_n hx hb dX4_readText_27 rfl (lv_at hl 0 rfl) ?_
      refine fg_83 C hI shX_7 rfl dX4_readText_28 ?_
      refine hif_eq (tgt := 39) C dX4_readText_31 (by decide) h (fun h => ?_) (fun h => ?_)
      · refine lv_aload_n hx hb dX4_readText_39 rfl (lv_at hl 0 rfl) ?_
        refine fg_82 C hI shX_7 rfl dX4_readText_40 ?_
        refine lv_aload_n hx hb dX4_readText_43 rfl (lv_at hl 0 rfl) ?_
        refine fg_84 C hI shX_7 rfl dX4_readText_44 ?_
        refine hicmp_lt (tgt := 52) C dX4_readText_47 (by decide) h (fun h => ?_) (fun h => ?_)
        · refine lv_aload_n hx hb dX4_readText_52 rfl (lv_at hl 0 rfl) ?_
          refine fr_75 C hI shX_7 rfl dX4_readText_53 ?_
          refine lv_aload_n hx hb dX4_readText_56 rfl (lv_at hl 0 rfl) ?_
          refine fg_82 C hI shX_7 rfl dX4_readText_57 ?_
          refine gx_iald C hI shX_8 h dX4_readText_60 (fun h => ?_)
          refine lv_bipush hx hb dX4_readText_61 cb_59 ?_
          refine hicmp_eq (tgt := 71) C dX4_readText_63 (by decide) h (fun h => ?_) (fun h => ?_)
          · refine lv_aload_n hx hb dX4_readText_71 rfl (lv_at hl 0 rfl) ?_
            refine lv_dup hx hb dX4_readText_72 rfl ?_
            refine fg_82 C hI shX_7 rfl dX4_readText_73 ?_
            refine lv_iconst hx hb dX4_readText_76 ci_1 ?_
            refine lv_iadd hx hb dX4_readText_77 ?_
            refine fp_82 C hI shX_7 rfl dX4_readText_78 (fun H locs hI => ?_)
            refine gx_st h hI (fun s2 h hI => ?_)
            refine h_iinc C hl dX4_readText_81 1 rfl ci_1 h (by decide) (lvf := fun v3 => [(1, .int v3), (0, .ref (ad 7))]) (fun _ => rfl) (fun v3 ls h hl => ?_)
            refine lv_goto (tgt := 17) hx hb dX4_readText_84 (by decide) ?_
            exact ih _ _ _ _ _  h hI (lv_sub hl [1, 0] rfl)
          · refine lv_aload_n hx hb dX4_readText_66 rfl (lv_at hl 0 rfl) ?_
            refine fg_82 C hI shX_7 rfl dX4_readText_67 ?_
            exact h_iret_w C hr hI h dX4_readText_70
        · refine lv_iconst hx hb dX4_readText_50 ci_m1 ?_
          exact h_iret_w C hr hI h dX4_readText_51
      · refine lv_aload_n hx hb dX4_readText_34 rfl (lv_at hl 0 rfl) ?_
        refine fg_82 C hI shX_7 rfl dX4_readText_35 ?_
        exact h_iret_w C hr hI h dX4_readText_38
set_option maxRecDepth 100000 in
set_option maxHeartbeats 4000000 in
theorem c_X4_readText (l : Launch) (D : va_G) (t : gT) (ad z : Nat → Nat) (hJ : gJ shX ad) (σ : gS) (q : Int32 × gS) (h : f_X4_readText σ = some q) : Met l yX4_readText (Cond.code yX4_readText cX4_readText 2 (some .int) :: lw_tb) (gR 71 1862) (gPc shX t ad D z [.ref (ad 7)] σ) (gQi shX t ad D q.1 q.2) 0 0 (gA shX ad) := by
  refine gMet "NineKeysRound$Law" rfl (by decide) hJ (Nat.le_of_ble_eq_true rfl) ?_
  intro p e s m below meth c ls C hr hI hl
  have hx := C.1
  have hb := C.2.1
  have hl : lv_has ls 2 [(0, .ref (ad 7))] := hl
  unfold f_X4_readText at h
  refine lv_aload_n hx hb dX4_readText_0 rfl (lv_at hl 0 rfl) ?_
  refine lv_iconst hx hb dX4_readText_1 ci_0 ?_
  refine fp_82 C hI shX_7 rfl dX4_readText_2 (fun H locs hI => ?_)
  refine gx_st h hI (fun s1 h hI => ?_)
  refine lv_aload_n hx hb dX4_readText_5 rfl (lv_at hl 0 rfl) ?_
  refine lv_iconst hx hb dX4_readText_6 ci_0 ?_
  refine fp_80 C hI shX_7 rfl dX4_readText_7 (fun H locs hI => ?_)
  refine gx_st h hI (fun s2 h hI => ?_)
  refine lv_aload_n hx hb dX4_readText_10 rfl (lv_at hl 0 rfl) ?_
  refine lv_iconst hx hb dX4_readText_11 ci_0 ?_
  obtain ⟨hz, h⟩ := gk_some h
  refine fp_83 C hI shX_7 rfl hz dX4_readText_12 (fun H locs hI => ?_)
  refine gx_st h hI (fun s3 h hI => ?_)
  refine lv_iconst hx hb dX4_readText_15 ci_0 ?_
  refine lv_istore_n (lv' := [(1, .int 0), (0, .ref (ad 7))]) hx hb dX4_readText_16 rfl hl (by decide) rfl (fun ls hl => ?_)
  exact w_X4_readText_17 C hr    _ _ _ _ _ _  h hI (lv_sub hl [1, 0] rfl)
set_option maxRecDepth 100000 in
set_option maxHeartbeats 4000000 in
theorem w_X4_adopt_33 {p : Program} {l : Launch} {e : Env} {s : State} {m : MethodId} {args : Array Value} {below : List Frame} {meth : Method} {c : Code} {D : va_G} {t : gT} {ad z : Nat → Nat} (C : gC p s m args meth c cX4_adopt 2 "NineKeysRound$Law" D t shX ad z) (hr : meth.sig.returnType = some .int) {r : Int32 × gS} : ∀ (x1 : Int32) (σ : gS) (H : Heap) (locs : List Loc) (ls : Array Slot), f_X4_adopt_33 x1 σ = some r → gI shX t ad D s.heap σ H locs → lv_has ls 2 [(0, .ref (ad 7)), (1, .int x1)] → W p l e (gR 72 1883) s m args below meth c H locs 0 0 (MQ below (gQi shX t ad D r.1 r.2) args s 0 0 (gA shX ad)) (F0 m 33 ls []) := by
  have hx := C.1
  have hb := C.2.1
  intro x1 σ H locs ls  h hI hl
  unfold f_X4_adopt_33 at h
  refine lv_aload_n hx hb dX4_adopt_33 rfl (lv_at hl 0 rfl) ?_
  refine lv_iconst hx hb dX4_adopt_34 ci_0 ?_
  refine fp_84 C hI shX_7 rfl dX4_adopt_35 (fun H locs hI => ?_)
  refine gx_st h hI (fun s1 h hI => ?_)
  refine lv_iload_n hx hb dX4_adopt_38 rfl (lv_at hl 1 rfl) ?_
  exact h_iret_w C hr hI h dX4_adopt_39
set_option maxRecDepth 100000 in
set_option maxHeartbeats 4000000 in
theorem c_X4_adopt (l : Launch) (D : va_G) (t : gT) (ad z : Nat → Nat) (hJ : gJ shX ad) (σ : gS) (q : Int32 × gS) (h : f_X4_adopt σ = some q) : Met l yX4_adopt (Cond.code yX4_adopt cX4_adopt 2 (some .int) :: lw_tb) (gR 72 1883) (gPc shX t ad D z [.ref (ad 7)] σ) (gQi shX t ad D q.1 q.2) 0 0 (gA shX ad) := by
  refine gMet "NineKeysRound$Law" rfl (by decide) hJ (Nat.le_of_ble_eq_true rfl) ?_
  intro p e s m below meth c ls C hr hI hl
  have hx := C.1
  have hb := C.2.1
  have hl : lv_has ls 2 [(0, .ref (ad 7))] := hl
  unfold f_X4_adopt at h
  refine lv_aload_n hx hb dX4_adopt_0 rfl (lv_at hl 0 rfl) ?_
  refine h_callvi_w (rest := []) C hI hl.1 shX_7 rfl yv_X4_readText k_387 h (fun q hq => c_X4_readText l D t ad z C.2.2.2.2.2.2.1 (σ) q hq) (As := []) rfl rfl ⟨Nat.le_of_ble_eq_true rfl, Nat.le_of_ble_eq_true rfl⟩ (Nat.le_of_ble_eq_true rfl) dX4_adopt_1 (fun q1 H locs h hI => ?_)
  refine lv_istore_n (lv' := [(1, .int q1.1), (0, .ref (ad 7))]) hx hb dX4_adopt_4 rfl hl (by decide) rfl (fun ls hl => ?_)
  refine lv_iload_n hx hb dX4_adopt_5 rfl (lv_at hl 0 rfl) ?_
  refine hif_ge (tgt := 33) C dX4_adopt_6 (by decide) h (fun h => ?_) (fun h => ?_)
  · exact w_X4_adopt_33 C hr    _ _ _ _ _  h hI (lv_sub hl [1, 0] rfl)
  · refine lv_aload_n hx hb dX4_adopt_9 rfl (lv_at hl 1 rfl) ?_
    refine fr_76 C hI shX_7 rfl dX4_adopt_10 ?_
    refine lv_iconst hx hb dX4_adopt_13 ci_0 ?_
    refine lv_aload_n hx hb dX4_adopt_14 rfl (lv_at hl 1 rfl) ?_
    refine fr_77 C hI shX_7 rfl dX4_adopt_15 ?_
    refine lv_iconst hx hb dX4_adopt_18 ci_0 ?_
    refine lv_sipush hx hb dX4_adopt_19 cs_256 ?_
    refine h_copyi C hI hl.1 k_512 shX_9 shX_10 h ⟨Nat.le_of_ble_eq_true rfl, Nat.le_of_ble_eq_true rfl⟩ dX4_adopt_22 (fun H locs h hI => ?_)
    refine gx_st h hI (fun s2 h hI => ?_)
    refine lv_aload_n hx hb dX4_adopt_25 rfl (lv_at hl 1 rfl) ?_
    refine lv_aload_n hx hb dX4_adopt_26 rfl (lv_at hl 1 rfl) ?_
    refine fg_80 C hI shX_7 rfl dX4_adopt_27 ?_
    refine fp_81 C hI shX_7 rfl dX4_adopt_30 (fun H locs hI => ?_)
    refine gx_st h hI (fun s3 h hI => ?_)
    exact w_X4_adopt_33 C hr    _ _ _ _ _  h hI (lv_sub hl [1, 0] rfl)
set_option maxRecDepth 100000 in
set_option maxHeartbeats 4000000 in
theorem c_X4_setPost (l : Launch) (D : va_G) (t : gT) (ad z : Nat → Nat) (hJ : gJ shX ad) (σ : gS) (x1 : Int32) (x2 : Int32) (x3 : Int32) (x4 : Int32) (q : gS) (h : f_X4_setPost σ x1 x2 x3 x4 = some q) : Met l yX4_setPost (Cond.code yX4_setPost cX4_setPost 5 (none) :: lw_tb) (gR 1 60) (gPc shX t ad D z [.ref (ad 7), .int x1, .int x2, .int x3, .int x4] σ) (gQv shX t ad D q) 0 0 (gA shX ad) := by
  refine gMet "NineKeysRound$Law" rfl (by decide) hJ (Nat.le_of_ble_eq_true rfl) ?_
  intro p e s m below meth c ls C hr hI hl
  have hx := C.1
  have hb := C.2.1
  have hl : lv_has ls 5 [(0, .ref (ad 7)), (1, .int x1), (2, .int x2), (3, .int x3), (4, .int x4)] := hl
  unfold f_X4_setPost at h
  refine lv_aload_n hx hb dX4_setPost_0 rfl (lv_at hl 0 rfl) ?_
  refine fr_79 C hI shX_7 rfl dX4_setPost_1 ?_
  refine lv_iconst hx hb dX4_setPost_4 ci_0 ?_
  refine lv_iload_n hx hb dX4_setPost_5 rfl (lv_at hl 1 rfl) ?_
  refine gx_iast C hI shX_12 h dX4_setPost_6 (fun H locs h hI => ?_)
  refine gx_st h hI (fun s1 h hI => ?_)
  refine lv_aload_n hx hb dX4_setPost_7 rfl (lv_at hl 0 rfl) ?_
  refine fr_79 C hI shX_7 rfl dX4_setPost_8 ?_
  refine lv_iconst hx hb dX4_setPost_11 ci_3 ?_
  refine lv_iload_n hx hb dX4_setPost_12 rfl (lv_at hl 2 rfl) ?_
  refine gx_iast C hI shX_12 h dX4_setPost_13 (fun H locs h hI => ?_)
  refine gx_st h hI (fun s2 h hI => ?_)
  refine lv_aload_n hx hb dX4_setPost_14 rfl (lv_at hl 0 rfl) ?_
  refine fr_79 C hI shX_7 rfl dX4_setPost_15 ?_
  refine lv_iconst hx hb dX4_setPost_18 ci_4 ?_
  refine lv_iload_n hx hb dX4_setPost_19 rfl (lv_at hl 3 rfl) ?_
  refine gx_iast C hI shX_12 h dX4_setPost_20 (fun H locs h hI => ?_)
  refine gx_st h hI (fun s3 h hI => ?_)
  refine lv_aload_n hx hb dX4_setPost_21 rfl (lv_at hl 0 rfl) ?_
  refine fr_79 C hI shX_7 rfl dX4_setPost_22 ?_
  refine lv_iconst hx hb dX4_setPost_25 ci_5 ?_
  refine lv_iload hx hb dX4_setPost_26 (lv_at hl 4 rfl) ?_
  refine gx_iast C hI shX_12 h dX4_setPost_28 (fun H locs h hI => ?_)
  refine gx_st h hI (fun s4 h hI => ?_)
  exact h_vret_w C hr hI h dX4_setPost_29
set_option maxRecDepth 100000 in
set_option maxHeartbeats 4000000 in
theorem c_X4_nameAt (l : Launch) (D : va_G) (t : gT) (ad z : Nat → Nat) (hJ : gJ shX ad) (σ : gS) (x1 : Int32) (q : Int32) (h : f_X4_nameAt σ x1 = some q) : Met l yX4_nameAt (Cond.code yX4_nameAt cX4_nameAt 2 (some .int) :: lw_tb) (gR 1 60) (gPc shX t ad D z [.ref (ad 7), .int x1] σ) (gQi shX t ad D q σ) 0 0 (gA shX ad) := by
  refine gMet "NineKeysRound$Law" rfl (by decide) hJ (Nat.le_of_ble_eq_true rfl) ?_
  intro p e s m below meth c ls C hr hI hl
  have hx := C.1
  have hb := C.2.1
  have hl : lv_has ls 2 [(0, .ref (ad 7)), (1, .int x1)] := hl
  unfold f_X4_nameAt at h
  refine lv_iload_n hx hb dX4_nameAt_0 rfl (lv_at hl 1 rfl) ?_
  refine hif_lt (tgt := 22) C dX4_nameAt_1 (by decide) h (fun h => ?_) (fun h => ?_)
  · refine lv_iconst hx hb dX4_nameAt_22 ci_0 ?_
    exact h_iret_o C hr hI h dX4_nameAt_23
  · refine lv_iload_n hx hb dX4_nameAt_4 rfl (lv_at hl 1 rfl) ?_
    refine lv_aload_n hx hb dX4_nameAt_5 rfl (lv_at hl 0 rfl) ?_
    refine fr_79 C hI shX_7 rfl dX4_nameAt_6 ?_
    refine gx_alen C hI shX_12 (v := 6) (by decide) dX4_nameAt_9 ?_
    refine hicmp_ge (tgt := 22) C dX4_nameAt_10 (by decide) h (fun h => ?_) (fun h => ?_)
    · refine lv_iconst hx hb dX4_nameAt_22 ci_0 ?_
      exact h_iret_o C hr hI h dX4_nameAt_23
    · refine lv_aload_n hx hb dX4_nameAt_13 rfl (lv_at hl 0 rfl) ?_
      refine fr_79 C hI shX_7 rfl dX4_nameAt_14 ?_
      refine lv_iload_n hx hb dX4_nameAt_17 rfl (lv_at hl 1 rfl) ?_
      refine gx_iald C hI shX_12 h dX4_nameAt_18 (fun h => ?_)
      refine lv_goto (tgt := 23) hx hb dX4_nameAt_19 (by decide) ?_
      exact h_iret_o C hr hI h dX4_nameAt_23
set_option maxRecDepth 100000 in
set_option maxHeartbeats 4000000 in
theorem c_X4_push (l : Launch) (D : va_G) (t : gT) (ad z : Nat → Nat) (hJ : gJ shX ad) (σ : gS) (x1 : Int32) (x2 : Int32) (q : Int32 × gS) (h : f_X4_push σ x1 x2 = some q) : Met l yX4_push (Cond.code yX4_push cX4_push 3 (some .int) :: lw_tb) (gR 1 60) (gPc shX t ad D z [.ref (ad 7), .int x1, .int x2] σ) (gQi shX t ad D q.1 q.2) 0 0 (gA shX ad) := by
  refine gMet "NineKeysRound$Law" rfl (by decide) hJ (Nat.le_of_ble_eq_true rfl) ?_
  intro p e s m below meth c ls C hr hI hl
  have hx := C.1
  have hb := C.2.1
  have hl : lv_has ls 3 [(0, .ref (ad 7)), (1, .int x1), (2, .int x2)] := hl
  unfold f_X4_push at h
  refine lv_iload_n hx hb dX4_push_0 rfl (lv_at hl 1 rfl) ?_
  refine lv_bipush hx hb dX4_push_1 cb_120 ?_
  refine hicmp_lt (tgt := 8) C dX4_push_3 (by decide) h (fun h => ?_) (fun h => ?_)
  · refine lv_aload_n hx hb dX4_push_8 rfl (lv_at hl 0 rfl) ?_
    refine fr_78 C hI shX_7 rfl dX4_push_9 ?_
    refine lv_iload_n hx hb dX4_push_12 rfl (lv_at hl 1 rfl) ?_
    refine lv_iload_n hx hb dX4_push_13 rfl (lv_at hl 2 rfl) ?_
    refine gx_iast C hI shX_11 h dX4_push_14 (fun H locs h hI => ?_)
    refine gx_st h hI (fun s1 h hI => ?_)
    refine lv_iload_n hx hb dX4_push_15 rfl (lv_at hl 1 rfl) ?_
    refine lv_iconst hx hb dX4_push_16 ci_1 ?_
    refine lv_iadd hx hb dX4_push_17 ?_
    exact h_iret_w C hr hI h dX4_push_18
  · refine lv_iload_n hx hb dX4_push_6 rfl (lv_at hl 1 rfl) ?_
    exact h_iret_w C hr hI h dX4_push_7
set_option maxRecDepth 100000 in
set_option maxHeartbeats 4000000 in
theorem c_X4_truth (l : Launch) (D : va_G) (t : gT) (ad z : Nat → Nat) (hJ : gJ shX ad) (σ : gS) (x0 : Int32) (q : Int32) (h : f_X4_truth σ x0 = some q) : Met l yX4_truth (Cond.code yX4_truth cX4_truth 1 (some .int) :: lw_tb) (gR 1 60) (gPc shX t ad D z [.int x0] σ) (gQi shX t ad D q σ) 0 0 (gA shX ad) := by
  refine gMet "NineKeysRound$Law" rfl (by decide) hJ (Nat.le_of_ble_eq_true rfl) ?_
  intro p e s m below meth c ls C hr hI hl
  have hx := C.1
  have hb := C.2.1
  have hl : lv_has ls 1 [(0, .int x0)] := hl
  unfold f_X4_truth at h
  refine lv_iload_n hx hb dX4_truth_0 rfl (lv_at hl 0 rfl) ?_
  refine hif_eq (tgt := 8) C dX4_truth_1 (by decide) h (fun h => ?_) (fun h => ?_)
  · refine lv_iconst hx hb dX4_truth_8 ci_0 ?_
    exact h_iret_o C hr hI h dX4_truth_9
  · refine lv_iconst hx hb dX4_truth_4 ci_1 ?_
    refine lv_goto (tgt := 9) hx hb dX4_truth_5 (by decide) ?_
    exact h_iret_o C hr hI h dX4_truth_9
set_option maxRecDepth 100000 in
set_option maxHeartbeats 4000000 in
theorem w_X4_join_97 {p : Program} {l : Launch} {e : Env} {s : State} {m : MethodId} {args : Array Value} {below : List Frame} {meth : Method} {c : Code} {D : va_G} {t : gT} {ad z : Nat → Nat} {σ : gS} (C : gC p s m args meth c cX4_join 3 "NineKeysRound$Law" D t shX ad z) (hr : meth.sig.returnType = some .int) {r : Int32} : ∀ (s0 : Int32) (H : Heap) (locs : List Loc) (ls : Array Slot), f_X4_join_97 σ s0 = some r → gI shX t ad D s.heap σ H locs → lv_has ls 3 [] → W p l e (gR 2 80) s m args below meth c H locs 0 0 (MQ below (gQi shX t ad D r σ) args s 0 0 (gA shX ad)) (F0 m 97 ls [.int s0]) := by
  have hx := C.1
  have hb := C.2.1
  intro s0 H locs ls  h hI hl
  unfold f_X4_join_97 at h
  refine h_callsi_o (rest := []) C hI hl.1 ys_X4_truth k_657 h (fun q hq => c_X4_truth l D t ad z C.2.2.2.2.2.2.1 (σ) s0 q hq) (As := [.int s0]) rfl rfl ⟨Nat.le_of_ble_eq_true rfl, Nat.le_of_ble_eq_true rfl⟩ (Nat.le_of_ble_eq_true rfl) dX4_join_97 (fun q1 H locs h hI => ?_)
  exact h_iret_o C hr hI h dX4_join_100
set_option maxRecDepth 100000 in
set_option maxHeartbeats 4000000 in
theorem w_X4_join_92 {p : Program} {l : Launch} {e : Env} {s : State} {m : MethodId} {args : Array Value} {below : List Frame} {meth : Method} {c : Code} {D : va_G} {t : gT} {ad z : Nat → Nat} {σ : gS} (C : gC p s m args meth c cX4_join 3 "NineKeysRound$Law" D t shX ad z) (hr : meth.sig.returnType = some .int) {r : Int32} : ∀ (H : Heap) (locs : List Loc) (ls : Array Slot), f_X4_join_92 σ = some r → gI shX t ad D s.heap σ H locs → lv_has ls 3 [] → W p l e (gR 2 80) s m args below meth c H locs 0 0 (MQ below (gQi shX t ad D r σ) args s 0 0 (gA shX ad)) (F0 m 92 ls []) := by
  have hx := C.1
  have hb := C.2.1
  intro  H locs ls  h hI hl
  unfold f_X4_join_92 at h
  refine lv_iconst hx hb dX4_join_92 ci_1 ?_
  refine lv_goto (tgt := 97) hx hb dX4_join_93 (by decide) ?_
  exact w_X4_join_97 C hr    _ _ _ _  h hI (lv_sub hl [] rfl)
set_option maxRecDepth 100000 in
set_option maxHeartbeats 4000000 in
theorem w_X4_join_114 {p : Program} {l : Launch} {e : Env} {s : State} {m : MethodId} {args : Array Value} {below : List Frame} {meth : Method} {c : Code} {D : va_G} {t : gT} {ad z : Nat → Nat} {σ : gS} (C : gC p s m args meth c cX4_join 3 "NineKeysRound$Law" D t shX ad z) (hr : meth.sig.returnType = some .int) {r : Int32} : ∀ (s0 : Int32) (H : Heap) (locs : List Loc) (ls : Array Slot), f_X4_join_114 σ s0 = some r → gI shX t ad D s.heap σ H locs → lv_has ls 3 [] → W p l e (gR 2 80) s m args below meth c H locs 0 0 (MQ below (gQi shX t ad D r σ) args s 0 0 (gA shX ad)) (F0 m 114 ls [.int s0]) := by
  have hx := C.1
  have hb := C.2.1
  intro s0 H locs ls  h hI hl
  unfold f_X4_join_114 at h
  refine h_callsi_o (rest := []) C hI hl.1 ys_X4_truth k_657 h (fun q hq => c_X4_truth l D t ad z C.2.2.2.2.2.2.1 (σ) s0 q hq) (As := [.int s0]) rfl rfl ⟨Nat.le_of_ble_eq_true rfl, Nat.le_of_ble_eq_true rfl⟩ (Nat.le_of_ble_eq_true rfl) dX4_join_114 (fun q1 H locs h hI => ?_)
  exact h_iret_o C hr hI h dX4_join_117
set_option maxRecDepth 100000 in
set_option maxHeartbeats 4000000 in
theorem w_X4_join_113 {p : Program} {l : Launch} {e : Env} {s : State} {m : MethodId} {args : Array Value} {below : List Frame} {meth : Method} {c : Code} {D : va_G} {t : gT} {ad z : Nat → Nat} {σ : gS} (C : gC p s m args meth c cX4_join 3 "NineKeysRound$Law" D t shX ad z) (hr : meth.sig.returnType = some .int) {r : Int32} : ∀ (H : Heap) (locs : List Loc) (ls : Array Slot), f_X4_join_113 σ = some r → gI shX t ad D s.heap σ H locs → lv_has ls 3 [] → W p l e (gR 2 80) s m args below meth c H locs 0 0 (MQ below (gQi shX t ad D r σ) args s 0 0 (gA shX ad)) (F0 m 113 ls []) := by
  have hx := C.1
  have hb := C.2.1
  intro  H locs ls  h hI hl
  unfold f_X4_join_113 at h
  refine lv_iconst hx hb dX4_join_113 ci_0 ?_
  exact w_X4_join_114 C hr    _ _ _ _  h hI (lv_sub hl [] rfl)
set_option maxRecDepth 100000 in
set_option maxHeartbeats 4000000 in
theorem w_X4_join_128 {p : Program} {l : Launch} {e : Env} {s : State} {m : MethodId} {args : Array Value} {below : List Frame} {meth : Method} {c : Code} {D : va_G} {t : gT} {ad z : Nat → Nat} {σ : gS} (C : gC p s m args meth c cX4_join 3 "NineKeysRound$Law" D t shX ad z) (hr : meth.sig.returnType = some .int) {r : Int32} : ∀ (s0 : Int32) (H : Heap) (locs : List Loc) (ls : Array Slot), f_X4_join_128 σ s0 = some r → gI shX t ad D s.heap σ H locs → lv_has ls 3 [] → W p l e (gR 2 80) s m args below meth c H locs 0 0 (MQ below (gQi shX t ad D r σ) args s 0 0 (gA shX ad)) (F0 m 128 ls [.int s0]) := by
  have hx := C.1
  have hb := C.2.1
  intro s0 H locs ls  h hI hl
  unfold f_X4_join_128 at h
  refine h_callsi_o (rest := []) C hI hl.1 ys_X4_truth k_657 h (fun q hq => c_X4_truth l D t ad z C.2.2.2.2.2.2.1 (σ) s0 q hq) (As := [.int s0]) rfl rfl ⟨Nat.le_of_ble_eq_true rfl, Nat.le_of_ble_eq_true rfl⟩ (Nat.le_of_ble_eq_true rfl) dX4_join_128 (fun q1 H locs h hI => ?_)
  exact h_iret_o C hr hI h dX4_join_131
set_option maxRecDepth 100000 in
set_option maxHeartbeats 4000000 in
theorem w_X4_join_142 {p : Program} {l : Launch} {e : Env} {s : State} {m : MethodId} {args : Array Value} {below : List Frame} {meth : Method} {c : Code} {D : va_G} {t : gT} {ad z : Nat → Nat} {σ : gS} (C : gC p s m args meth c cX4_join 3 "NineKeysRound$Law" D t shX ad z) (hr : meth.sig.returnType = some .int) {r : Int32} : ∀ (s0 : Int32) (H : Heap) (locs : List Loc) (ls : Array Slot), f_X4_join_142 σ s0 = some r → gI shX t ad D s.heap σ H locs → lv_has ls 3 [] → W p l e (gR 2 80) s m args below meth c H locs 0 0 (MQ below (gQi shX t ad D r σ) args s 0 0 (gA shX ad)) (F0 m 142 ls [.int s0]) := by
  have hx := C.1
  have hb := C.2.1
  intro s0 H locs ls  h hI hl
  unfold f_X4_join_142 at h
  refine h_callsi_o (rest := []) C hI hl.1 ys_X4_truth k_657 h (fun q hq => c_X4_truth l D t ad z C.2.2.2.2.2.2.1 (σ) s0 q hq) (As := [.int s0]) rfl rfl ⟨Nat.le_of_ble_eq_true rfl, Nat.le_of_ble_eq_true rfl⟩ (Nat.le_of_ble_eq_true rfl) dX4_join_142 (fun q1 H locs h hI => ?_)
  exact h_iret_o C hr hI h dX4_join_145
set_option maxRecDepth 100000 in
set_option maxHeartbeats 4000000 in
theorem w_X4_join_156 {p : Program} {l : Launch} {e : Env} {s : State} {m : MethodId} {args : Array Value} {below : List Frame} {meth : Method} {c : Code} {D : va_G} {t : gT} {ad z : Nat → Nat} {σ : gS} (C : gC p s m args meth c cX4_join 3 "NineKeysRound$Law" D t shX ad z) (hr : meth.sig.returnType = some .int) {r : Int32} : ∀ (s0 : Int32) (H : Heap) (locs : List Loc) (ls : Array Slot), f_X4_join_156 σ s0 = some r → gI shX t ad D s.heap σ H locs → lv_has ls 3 [] → W p l e (gR 2 80) s m args below meth c H locs 0 0 (MQ below (gQi shX t ad D r σ) args s 0 0 (gA shX ad)) (F0 m 156 ls [.int s0]) := by
  have hx := C.1
  have hb := C.2.1
  intro s0 H locs ls  h hI hl
  unfold f_X4_join_156 at h
  refine h_callsi_o (rest := []) C hI hl.1 ys_X4_truth k_657 h (fun q hq => c_X4_truth l D t ad z C.2.2.2.2.2.2.1 (σ) s0 q hq) (As := [.int s0]) rfl rfl ⟨Nat.le_of_ble_eq_true rfl, Nat.le_of_ble_eq_true rfl⟩ (Nat.le_of_ble_eq_true rfl) dX4_join_156 (fun q1 H locs h hI => ?_)
  exact h_iret_o C hr hI h dX4_join_159
set_option maxRecDepth 100000 in
set_option maxHeartbeats 4000000 in
theorem c_X4_join (l : Launch) (D : va_G) (t : gT) (ad z : Nat → Nat) (hJ : gJ shX ad) (σ : gS) (x0 : Int32) (x1 : Int32) (x2 : Int32) (q : Int32) (h : f_X4_join σ x0 x1 x2 = some q) : Met l yX4_join (Cond.code yX4_join cX4_join 3 (some .int) :: lw_tb) (gR 2 80) (gPc shX t ad D z [.int x0, .int x1, .int x2] σ) (gQi shX t ad D q σ) 0 0 (gA shX ad) := by
  refine gMet "NineKeysRound$Law" rfl (by decide) hJ (Nat.le_of_ble_eq_true rfl) ?_
  intro p e s m below meth c ls C hr hI hl
  have hx := C.1
  have hb := C.2.1
  have hl : lv_has ls 3 [(0, .int x0), (1, .int x1), (2, .int x2)] := hl
  unfold f_X4_join at h
  refine lv_iload_n hx hb dX4_join_0 rfl (lv_at hl 0 rfl) ?_
  by_cases hc_ : x0 = 38
  · rw [if_pos hc_] at h
    refine lv_lookup (tgt := 101) (off := 100) hx hb dX4_join_1 (by decide) (by rw [hc_]; decide) (by decide) ?_
    refine lv_iload_n hx hb dX4_join_101 rfl (lv_at hl 1 rfl) ?_
    refine hif_eq (tgt := 113) C dX4_join_102 (by decide) h (fun h => ?_) (fun h => ?_)
    · exact w_X4_join_113 C hr     _ _ _  h hI (lv_sub hl [] rfl)
    · refine lv_iload_n hx hb dX4_join_105 rfl (lv_at hl 2 rfl) ?_
      refine hif_eq (tgt := 113) C dX4_join_106 (by decide) h (fun h => ?_) (fun h => ?_)
      · exact w_X4_join_113 C hr     _ _ _  h hI (lv_sub hl [] rfl)
      · refine lv_iconst hx hb dX4_join_109 ci_1 ?_
        refine lv_goto (tgt := 114) hx hb dX4_join_110 (by decide) ?_
        exact w_X4_join_114 C hr    _ _ _ _  h hI (lv_sub hl [] rfl)
  · rw [if_neg hc_] at h
    have hn_0 := hc_
    by_cases hc_ : x0 = 42
    · rw [if_pos hc_] at h
      refine lv_lookup (tgt := 168) (off := 167) hx hb dX4_join_1 (by decide) (by rw [hc_]; decide) (by decide) ?_
      refine lv_iload_n hx hb dX4_join_168 rfl (lv_at hl 1 rfl) ?_
      refine lv_iload_n hx hb dX4_join_169 rfl (lv_at hl 2 rfl) ?_
      refine lv_imul hx hb dX4_join_170 ?_
      exact h_iret_o C hr hI h dX4_join_171
    · rw [if_neg hc_] at h
      have hn_1 := hc_
      by_cases hc_ : x0 = 43
      · rw [if_pos hc_] at h
        refine lv_lookup (tgt := 160) (off := 159) hx hb dX4_join_1 (by decide) (by rw [hc_]; decide) (by decide) ?_
        refine lv_iload_n hx hb dX4_join_160 rfl (lv_at hl 1 rfl) ?_
        refine lv_iload_n hx hb dX4_join_161 rfl (lv_at hl 2 rfl) ?_
        refine lv_iadd hx hb dX4_join_162 ?_
        exact h_iret_o C hr hI h dX4_join_163
      · rw [if_neg hc_] at h
        have hn_2 := hc_
        by_cases hc_ : x0 = 45
        · rw [if_pos hc_] at h
          refine lv_lookup (tgt := 164) (off := 163) hx hb dX4_join_1 (by decide) (by rw [hc_]; decide) (by decide) ?_
          refine lv_iload_n hx hb dX4_join_164 rfl (lv_at hl 1 rfl) ?_
          refine lv_iload_n hx hb dX4_join_165 rfl (lv_at hl 2 rfl) ?_
          refine lv_isub hx hb dX4_join_166 ?_
          exact h_iret_o C hr hI h dX4_join_167
        · rw [if_neg hc_] at h
          have hn_3 := hc_
          by_cases hc_ : x0 = 47
          · rw [if_pos hc_] at h
            refine lv_lookup (tgt := 172) (off := 171) hx hb dX4_join_1 (by decide) (by rw [hc_]; decide) (by decide) ?_
            refine lv_iload_n hx hb dX4_join_172 rfl (lv_at hl 2 rfl) ?_
            refine hif_ne (tgt := 180) C dX4_join_173 (by decide) h (fun h => ?_) (fun h => ?_)
            · refine lv_iload_n hx hb dX4_join_180 rfl (lv_at hl 1 rfl) ?_
              refine lv_iload_n hx hb dX4_join_181 rfl (lv_at hl 2 rfl) ?_
              refine h_idiv C dX4_join_182 h (fun h => ?_)
              exact h_iret_o C hr hI h dX4_join_183
            · refine lv_iconst hx hb dX4_join_176 ci_0 ?_
              refine lv_goto (tgt := 183) hx hb dX4_join_177 (by decide) ?_
              exact h_iret_o C hr hI h dX4_join_183
          · rw [if_neg hc_] at h
            have hn_4 := hc_
            by_cases hc_ : x0 = 60
            · rw [if_pos hc_] at h
              refine lv_lookup (tgt := 118) (off := 117) hx hb dX4_join_1 (by decide) (by rw [hc_]; decide) (by decide) ?_
              refine lv_iload_n hx hb dX4_join_118 rfl (lv_at hl 1 rfl) ?_
              refine lv_iload_n hx hb dX4_join_119 rfl (lv_at hl 2 rfl) ?_
              refine hicmp_ge (tgt := 127) C dX4_join_120 (by decide) h (fun h => ?_) (fun h => ?_)
              · refine lv_iconst hx hb dX4_join_127 ci_0 ?_
                exact w_X4_join_128 C hr    _ _ _ _  h hI (lv_sub hl [] rfl)
              · refine lv_iconst hx hb dX4_join_123 ci_1 ?_
                refine lv_goto (tgt := 128) hx hb dX4_join_124 (by decide) ?_
                exact w_X4_join_128 C hr    _ _ _ _  h hI (lv_sub hl [] rfl)
            · rw [if_neg hc_] at h
              have hn_5 := hc_
              by_cases hc_ : x0 = 61
              · rw [if_pos hc_] at h
                refine lv_lookup (tgt := 132) (off := 131) hx hb dX4_join_1 (by decide) (by rw [hc_]; decide) (by decide) ?_
                refine lv_iload_n hx hb dX4_join_132 rfl (lv_at hl 1 rfl) ?_
                refine lv_iload_n hx hb dX4_join_133 rfl (lv_at hl 2 rfl) ?_
                refine hicmp_ne (tgt := 141) C dX4_join_134 (by decide) h (fun h => ?_) (fun h => ?_)
                · refine lv_iconst hx hb dX4_join_141 ci_0 ?_
                  exact w_X4_join_142 C hr    _ _ _ _  h hI (lv_sub hl [] rfl)
                · refine lv_iconst hx hb dX4_join_137 ci_1 ?_
                  refine lv_goto (tgt := 142) hx hb dX4_join_138 (by decide) ?_
                  exact w_X4_join_142 C hr    _ _ _ _  h hI (lv_sub hl [] rfl)
              · rw [if_neg hc_] at h
                have hn_6 := hc_
                by_cases hc_ : x0 = 62
                · rw [if_pos hc_] at h
                  refine lv_lookup (tgt := 146) (off := 145) hx hb dX4_join_1 (by decide) (by rw [hc_]; decide) (by decide) ?_
                  refine lv_iload_n hx hb dX4_join_146 rfl (lv_at hl 1 rfl) ?_
                  refine lv_iload_n hx hb dX4_join_147 rfl (lv_at hl 2 rfl) ?_
                  refine hicmp_le (tgt := 155) C dX4_join_148 (by decide) h (fun h => ?_) (fun h => ?_)
                  · refine lv_iconst hx hb dX4_join_155 ci_0 ?_
                    exact w_X4_join_156 C hr    _ _ _ _  h hI (lv_sub hl [] rfl)
                  · refine lv_iconst hx hb dX4_join_151 ci_1 ?_
                    refine lv_goto (tgt := 156) hx hb dX4_join_152 (by decide) ?_
                    exact w_X4_join_156 C hr    _ _ _ _  h hI (lv_sub hl [] rfl)
                · rw [if_neg hc_] at h
                  have hn_7 := hc_
                  by_cases hc_ : x0 = 124
                  · rw [if_pos hc_] at h
                    refine lv_lookup (tgt := 84) (off := 83) hx hb dX4_join_1 (by decide) (by rw [hc_]; decide) (by decide) ?_
                    refine lv_iload_n hx hb dX4_join_84 rfl (lv_at hl 1 rfl) ?_
                    refine hif_ne (tgt := 92) C dX4_join_85 (by decide) h (fun h => ?_) (fun h => ?_)
                    · exact w_X4_join_92 C hr     _ _ _  h hI (lv_sub hl [] rfl)
                    · refine lv_iload_n hx hb dX4_join_88 rfl (lv_at hl 2 rfl) ?_
                      refine hif_eq (tgt := 96) C dX4_join_89 (by decide) h (fun h => ?_) (fun h => ?_)
                      · refine lv_iconst hx hb dX4_join_96 ci_0 ?_
                        exact w_X4_join_97 C hr    _ _ _ _  h hI (lv_sub hl [] rfl)
                      · exact w_X4_join_92 C hr     _ _ _  h hI (lv_sub hl [] rfl)
                  · rw [if_neg hc_] at h
                    have hn_8 := hc_
                    have hout : Op.lookupswitch.offset (#[(38, 100), (42, 167), (43, 159), (45, 163), (47, 171), (60, 117), (61, 131), (62, 145), (124, 83)] : Array (Int × Int)).toList 183 x0.toInt = 183 := by
                      have e0 := tsne (c := 38) (z := 38) (by decide) hn_0
                      have e1 := tsne (c := 42) (z := 42) (by decide) hn_1
                      have e2 := tsne (c := 43) (z := 43) (by decide) hn_2
                      have e3 := tsne (c := 45) (z := 45) (by decide) hn_3
                      have e4 := tsne (c := 47) (z := 47) (by decide) hn_4
                      have e5 := tsne (c := 60) (z := 60) (by decide) hn_5
                      have e6 := tsne (c := 61) (z := 61) (by decide) hn_6
                      have e7 := tsne (c := 62) (z := 62) (by decide) hn_7
                      have e8 := tsne (c := 124) (z := 124) (by decide) hn_8
                      exact lkout _ _ _ (List.forall_mem_cons.mpr ⟨Ne.symm e0, List.forall_mem_cons.mpr ⟨Ne.symm e1, List.forall_mem_cons.mpr ⟨Ne.symm e2, List.forall_mem_cons.mpr ⟨Ne.symm e3, List.forall_mem_cons.mpr ⟨Ne.symm e4, List.forall_mem_cons.mpr ⟨Ne.symm e5, List.forall_mem_cons.mpr ⟨Ne.symm e6, List.forall_mem_cons.mpr ⟨Ne.symm e7, List.forall_mem_cons.mpr ⟨Ne.symm e8, fun _ hh => absurd hh List.not_mem_nil⟩⟩⟩⟩⟩⟩⟩⟩⟩)
                    refine lv_lookup (tgt := 184) hx hb dX4_join_1 (by decide) hout (by decide) ?_
                    refine lv_iload_n hx hb dX4_join_184 rfl (lv_at hl 2 rfl) ?_
                    refine hif_ne (tgt := 192) C dX4_join_185 (by decide) h (fun h => ?_) (fun h => ?_)
                    · refine lv_iload_n hx hb dX4_join_192 rfl (lv_at hl 1 rfl) ?_
                      refine lv_iload_n hx hb dX4_join_193 rfl (lv_at hl 2 rfl) ?_
                      refine h_irem C dX4_join_194 h (fun h => ?_)
                      exact h_iret_o C hr hI h dX4_join_195
                    · refine lv_iconst hx hb dX4_join_188 ci_0 ?_
                      refine lv_goto (tgt := 195) hx hb dX4_join_189 (by decide) ?_
                      exact h_iret_o C hr hI h dX4_join_195
set_option maxRecDepth 100000 in
set_option maxHeartbeats 4000000 in
theorem w_X4_work_61 {p : Program} {l : Launch} {e : Env} {s : State} {m : MethodId} {args : Array Value} {below : List Frame} {meth : Method} {c : Code} {D : va_G} {t : gT} {ad z : Nat → Nat} (C : gC p s m args meth c cX4_work 3 "NineKeysRound$Law" D t shX ad z) (hr : meth.sig.returnType = some .int) {r : Int32 × gS} : ∀ (x2 : Int32) (s0 : Int32) (s1 : Int32) (σ : gS) (H : Heap) (locs : List Loc) (ls : Array Slot), f_X4_work_61 x2 s0 s1 σ = some r → gI shX t ad D s.heap σ H locs → lv_has ls 3 [(2, .int x2)] → W p l e (gR 3 102) s m args below meth c H locs 0 0 (MQ below (gQi shX t ad D r.1 r.2) args s 0 0 (gA shX ad)) (F0 m 61 ls [.int s0, .int s1, .ref (ad 11)]) := by
  have hx := C.1
  have hb := C.2.1
  intro x2 s0 s1 σ H locs ls  h hI hl
  unfold f_X4_work_61 at h
  refine gx_iast C hI shX_11 h dX4_work_61 (fun H locs h hI => ?_)
  refine gx_st h hI (fun s1 h hI => ?_)
  refine lv_iload_n hx hb dX4_work_62 rfl (lv_at hl 0 rfl) ?_
  exact h_iret_w C hr hI h dX4_work_63
set_option maxRecDepth 100000 in
set_option maxHeartbeats 4000000 in
theorem w_X4_work_58 {p : Program} {l : Launch} {e : Env} {s : State} {m : MethodId} {args : Array Value} {below : List Frame} {meth : Method} {c : Code} {D : va_G} {t : gT} {ad z : Nat → Nat} (C : gC p s m args meth c cX4_work 3 "NineKeysRound$Law" D t shX ad z) (hr : meth.sig.returnType = some .int) {r : Int32 × gS} : ∀ (x2 : Int32) (s0 : Int32) (s1 : Int32) (σ : gS) (H : Heap) (locs : List Loc) (ls : Array Slot), f_X4_work_58 x2 s0 s1 σ = some r → gI shX t ad D s.heap σ H locs → lv_has ls 3 [(2, .int x2)] → W p l e (gR 3 102) s m args below meth c H locs 0 0 (MQ below (gQi shX t ad D r.1 r.2) args s 0 0 (gA shX ad)) (F0 m 58 ls [.int s0, .int s1, .ref (ad 11)]) := by
  have hx := C.1
  have hb := C.2.1
  intro x2 s0 s1 σ H locs ls  h hI hl
  unfold f_X4_work_58 at h
  refine h_callsi_o (rest := [.int s1, .ref (ad 11)]) C hI hl.1 ys_X4_truth k_657 h (fun q hq => c_X4_truth l D t ad z C.2.2.2.2.2.2.1 (σ) s0 q hq) (As := [.int s0]) rfl rfl ⟨Nat.le_of_ble_eq_true rfl, Nat.le_of_ble_eq_true rfl⟩ (Nat.le_of_ble_eq_true rfl) dX4_work_58 (fun q1 H locs h hI => ?_)
  exact w_X4_work_61 C hr    _ _ _ _ _ _ _  h hI (lv_sub hl [0] rfl)
set_option maxRecDepth 100000 in
set_option maxHeartbeats 4000000 in
theorem w_X4_work_12 {p : Program} {l : Launch} {e : Env} {s : State} {m : MethodId} {args : Array Value} {below : List Frame} {meth : Method} {c : Code} {D : va_G} {t : gT} {ad z : Nat → Nat} (C : gC p s m args meth c cX4_work 3 "NineKeysRound$Law" D t shX ad z) (hr : meth.sig.returnType = some .int) {r : Int32 × gS} : ∀ (x1 : Int32) (x2 : Int32) (σ : gS) (H : Heap) (locs : List Loc) (ls : Array Slot), f_X4_work_12 x1 x2 σ = some r → gI shX t ad D s.heap σ H locs → lv_has ls 3 [(0, .ref (ad 7)), (1, .int x1), (2, .int x2)] → W p l e (gR 3 102) s m args below meth c H locs 0 0 (MQ below (gQi shX t ad D r.1 r.2) args s 0 0 (gA shX ad)) (F0 m 12 ls []) := by
  have hx := C.1
  have hb := C.2.1
  intro x1 x2 σ H locs ls  h hI hl
  unfold f_X4_work_12 at h
  refine lv_iload_n hx hb dX4_work_12 rfl (lv_at hl 2 rfl) ?_
  refine lv_iconst hx hb dX4_work_13 ci_1 ?_
  refine hicmp_lt (tgt := 62) C dX4_work_14 (by decide) h (fun h => ?_) (fun h => ?_)
  · refine lv_iload_n hx hb dX4_work_62 rfl (lv_at hl 2 rfl) ?_
    exact h_iret_w C hr hI h dX4_work_63
  · refine lv_aload_n hx hb dX4_work_17 rfl (lv_at hl 0 rfl) ?_
    refine fr_78 C hI shX_7 rfl dX4_work_18 ?_
    refine lv_iload_n hx hb dX4_work_21 rfl (lv_at hl 2 rfl) ?_
    refine lv_iconst hx hb dX4_work_22 ci_1 ?_
    refine lv_isub hx hb dX4_work_23 ?_
    refine lv_iload_n hx hb dX4_work_24 rfl (lv_at hl 1 rfl) ?_
    refine lv_bipush hx hb dX4_work_25 cb_126 ?_
    refine hicmp_ne (tgt := 42) C dX4_work_27 (by decide) h (fun h => ?_) (fun h => ?_)
    · refine lv_aload_n hx hb dX4_work_42 rfl (lv_at hl 0 rfl) ?_
      refine fr_78 C hI shX_7 rfl dX4_work_43 ?_
      refine lv_iload_n hx hb dX4_work_46 rfl (lv_at hl 2 rfl) ?_
      refine lv_iconst hx hb dX4_work_47 ci_1 ?_
      refine lv_isub hx hb dX4_work_48 ?_
      refine gx_iald C hI shX_11 h dX4_work_49 (fun h => ?_)
      refine hif_ne (tgt := 57) C dX4_work_50 (by decide) h (fun h => ?_) (fun h => ?_)
      · refine lv_iconst hx hb dX4_work_57 ci_0 ?_
        exact w_X4_work_58 C hr    _ _ _ _ _ _ _  h hI (lv_sub hl [2] rfl)
      · refine lv_iconst hx hb dX4_work_53 ci_1 ?_
        refine lv_goto (tgt := 58) hx hb dX4_work_54 (by decide) ?_
        exact w_X4_work_58 C hr    _ _ _ _ _ _ _  h hI (lv_sub hl [2] rfl)
    · refine lv_aload_n hx hb dX4_work_30 rfl (lv_at hl 0 rfl) ?_
      refine fr_78 C hI shX_7 rfl dX4_work_31 ?_
      refine lv_iload_n hx hb dX4_work_34 rfl (lv_at hl 2 rfl) ?_
      refine lv_iconst hx hb dX4_work_35 ci_1 ?_
      refine lv_isub hx hb dX4_work_36 ?_
      refine gx_iald C hI shX_11 h dX4_work_37 (fun h => ?_)
      refine lv_ineg hx hb dX4_work_38 ?_
      refine lv_goto (tgt := 61) hx hb dX4_work_39 (by decide) ?_
      exact w_X4_work_61 C hr    _ _ _ _ _ _ _  h hI (lv_sub hl [2] rfl)
set_option maxRecDepth 100000 in
set_option maxHeartbeats 4000000 in
theorem c_X4_work (l : Launch) (D : va_G) (t : gT) (ad z : Nat → Nat) (hJ : gJ shX ad) (σ : gS) (x1 : Int32) (x2 : Int32) (q : Int32 × gS) (h : f_X4_work σ x1 x2 = some q) : Met l yX4_work (Cond.code yX4_work cX4_work 3 (some .int) :: lw_tb) (gR 3 102) (gPc shX t ad D z [.ref (ad 7), .int x1, .int x2] σ) (gQi shX t ad D q.1 q.2) 0 0 (gA shX ad) := by
  refine gMet "NineKeysRound$Law" rfl (by decide) hJ (Nat.le_of_ble_eq_true rfl) ?_
  intro p e s m below meth c ls C hr hI hl
  have hx := C.1
  have hb := C.2.1
  have hl : lv_has ls 3 [(0, .ref (ad 7)), (1, .int x1), (2, .int x2)] := hl
  unfold f_X4_work at h
  refine lv_iload_n hx hb dX4_work_0 rfl (lv_at hl 1 rfl) ?_
  refine lv_bipush hx hb dX4_work_1 cb_126 ?_
  refine hicmp_eq (tgt := 12) C dX4_work_3 (by decide) h (fun h => ?_) (fun h => ?_)
  · exact w_X4_work_12 C hr    _ _ _ _ _ _  h hI (lv_sub hl [0, 1, 2] rfl)
  · refine lv_iload_n hx hb dX4_work_6 rfl (lv_at hl 1 rfl) ?_
    refine lv_bipush hx hb dX4_work_7 cb_33 ?_
    refine hicmp_ne (tgt := 64) C dX4_work_9 (by decide) h (fun h => ?_) (fun h => ?_)
    · refine lv_iload_n hx hb dX4_work_64 rfl (lv_at hl 2 rfl) ?_
      refine lv_iconst hx hb dX4_work_65 ci_2 ?_
      refine hicmp_ge (tgt := 71) C dX4_work_66 (by decide) h (fun h => ?_) (fun h => ?_)
      · refine lv_aload_n hx hb dX4_work_71 rfl (lv_at hl 0 rfl) ?_
        refine fr_78 C hI shX_7 rfl dX4_work_72 ?_
        refine lv_iload_n hx hb dX4_work_75 rfl (lv_at hl 2 rfl) ?_
        refine lv_iconst hx hb dX4_work_76 ci_2 ?_
        refine lv_isub hx hb dX4_work_77 ?_
        refine lv_iload_n hx hb dX4_work_78 rfl (lv_at hl 1 rfl) ?_
        refine lv_aload_n hx hb dX4_work_79 rfl (lv_at hl 0 rfl) ?_
        refine fr_78 C hI shX_7 rfl dX4_work_80 ?_
        refine lv_iload_n hx hb dX4_work_83 rfl (lv_at hl 2 rfl) ?_
        refine lv_iconst hx hb dX4_work_84 ci_2 ?_
        refine lv_isub hx hb dX4_work_85 ?_
        refine gx_iald C hI shX_11 h dX4_work_86 (fun h => ?_)
        refine lv_aload_n hx hb dX4_work_87 rfl (lv_at hl 0 rfl) ?_
        refine fr_78 C hI shX_7 rfl dX4_work_88 ?_
        refine lv_iload_n hx hb dX4_work_91 rfl (lv_at hl 2 rfl) ?_
        refine lv_iconst hx hb dX4_work_92 ci_1 ?_
        refine lv_isub hx hb dX4_work_93 ?_
        refine gx_iald C hI shX_11 h dX4_work_94 (fun h => ?_)
        refine h_callsi_o (rest := [.int (x2 - 2), .ref (ad 11)]) C hI hl.1 ys_X4_join k_660 h (fun q hq => c_X4_join l D t ad z C.2.2.2.2.2.2.1 (σ) x1 (σ.1 11 ((x2 - 2)).toNatClampNeg) (σ.1 11 ((x2 - 1)).toNatClampNeg) q hq) (As := [.int x1, .int (σ.1 11 ((x2 - 2)).toNatClampNeg), .int (σ.1 11 ((x2 - 1)).toNatClampNeg)]) rfl rfl ⟨Nat.le_of_ble_eq_true rfl, Nat.le_of_ble_eq_true rfl⟩ (Nat.le_of_ble_eq_true rfl) dX4_work_95 (fun q1 H locs h hI => ?_)
        refine gx_iast C hI shX_11 h dX4_work_98 (fun H locs h hI => ?_)
        refine gx_st h hI (fun s2 h hI => ?_)
        refine lv_iload_n hx hb dX4_work_99 rfl (lv_at hl 2 rfl) ?_
        refine lv_iconst hx hb dX4_work_100 ci_1 ?_
        refine lv_isub hx hb dX4_work_101 ?_
        exact h_iret_w C hr hI h dX4_work_102
      · refine lv_iload_n hx hb dX4_work_69 rfl (lv_at hl 2 rfl) ?_
        exact h_iret_w C hr hI h dX4_work_70
    · exact w_X4_work_12 C hr    _ _ _ _ _ _  h hI (lv_sub hl [0, 1, 2] rfl)
set_option maxRecDepth 100000 in
set_option maxHeartbeats 4000000 in
theorem w_X4_run_74 {p : Program} {l : Launch} {e : Env} {s : State} {m : MethodId} {args : Array Value} {below : List Frame} {meth : Method} {c : Code} {D : va_G} {t : gT} {ad z : Nat → Nat} (C : gC p s m args meth c cX4_run 5 "NineKeysRound$Law" D t shX ad z) (hr : meth.sig.returnType = some .int) {r : Int32 × gS} (K_4 : Int32 → Int32 → gS → Option (Int32 × gS)) (hK_4 : ∀ (x1 : Int32) (x2 : Int32) (σ : gS) (H : Heap) (locs : List Loc) (ls : Array Slot), K_4 x1 x2 σ = some r → gI shX t ad D s.heap σ H locs → lv_has ls 5 [(0, .ref (ad 7)), (1, .int x1), (2, .int x2)] → W p l e (gR 4 124) s m args below meth c H locs 0 0 (MQ below (gQi shX t ad D r.1 r.2) args s 0 0 (gA shX ad)) (F0 m 4 ls [])) : ∀ (x2 : Int32) (s0 : Int32) (s1 : Int32) (σ : gS) (H : Heap) (locs : List Loc) (ls : Array Slot), f_X4_run_74 K_4 x2 s0 s1 σ = some r → gI shX t ad D s.heap σ H locs → lv_has ls 5 [(0, .ref (ad 7)), (2, .int x2)] → W p l e (gR 4 124) s m args below meth c H locs 0 0 (MQ below (gQi shX t ad D r.1 r.2) args s 0 0 (gA shX ad)) (F0 m 74 ls [.int s0, .int s1, .ref (ad 7)]) := by
  have hx := C.1
  have hb := C.2.1
  intro x2 s0 s1 σ H locs ls  h hI hl
  unfold f_X4_run_74 at h
  refine h_callvi_w (rest := []) C hI hl.1 shX_7 rfl yv_X4_push k_648 h (fun q hq => c_X4_push l D t ad z C.2.2.2.2.2.2.1 (σ) s1 s0 q hq) (As := [.int s1, .int s0]) rfl rfl ⟨Nat.le_of_ble_eq_true rfl, Nat.le_of_ble_eq_true rfl⟩ (Nat.le_of_ble_eq_true rfl) dX4_run_74 (fun q1 H locs h hI => ?_)
  refine lv_istore_n (lv' := [(1, .int q1.1), (0, .ref (ad 7)), (2, .int x2)]) hx hb dX4_run_77 rfl hl (by decide) rfl (fun ls hl => ?_)
  refine h_iinc C hl dX4_run_78 2 rfl ci_1 h (by decide) (lvf := fun v2 => [(2, .int v2), (1, .int q1.1), (0, .ref (ad 7))]) (fun _ => rfl) (fun v2 ls h hl => ?_)
  refine lv_goto (tgt := 139) hx hb dX4_run_81 (by decide) ?_
  refine h_iinc C hl dX4_run_139 0 rfl ci_1 h (by decide) (lvf := fun v3 => [(2, .int v3), (1, .int q1.1), (0, .ref (ad 7))]) (fun _ => rfl) (fun v3 ls h hl => ?_)
  refine lv_goto (tgt := 4) hx hb dX4_run_142 (by decide) ?_
  exact hK_4 _ _ _ _ _ _  h hI (lv_sub hl [2, 1, 0] rfl)
set_option maxRecDepth 100000 in
set_option maxHeartbeats 4000000 in
theorem w_X4_run_55 {p : Program} {l : Launch} {e : Env} {s : State} {m : MethodId} {args : Array Value} {below : List Frame} {meth : Method} {c : Code} {D : va_G} {t : gT} {ad z : Nat → Nat} (C : gC p s m args meth c cX4_run 5 "NineKeysRound$Law" D t shX ad z) (hr : meth.sig.returnType = some .int) {r : Int32 × gS} (K_4 : Int32 → Int32 → gS → Option (Int32 × gS)) (hK_4 : ∀ (x1 : Int32) (x2 : Int32) (σ : gS) (H : Heap) (locs : List Loc) (ls : Array Slot), K_4 x1 x2 σ = some r → gI shX t ad D s.heap σ H locs → lv_has ls 5 [(0, .ref (ad 7)), (1, .int x1), (2, .int x2)] → W p l e (gR 4 124) s m args below meth c H locs 0 0 (MQ below (gQi shX t ad D r.1 r.2) args s 0 0 (gA shX ad)) (F0 m 4 ls [])) : ∀ (x1 : Int32) (x2 : Int32) (x3 : Int32) (x4 : Int32) (σ : gS) (H : Heap) (locs : List Loc) (ls : Array Slot), f_X4_run_55 K_4 x1 x2 x3 x4 σ = some r → gI shX t ad D s.heap σ H locs → lv_has ls 5 [(0, .ref (ad 7)), (1, .int x1), (2, .int x2), (3, .int x3), (4, .int x4)] → W p l e (gR 4 124) s m args below meth c H locs 0 0 (MQ below (gQi shX t ad D r.1 r.2) args s 0 0 (gA shX ad)) (F0 m 55 ls []) := by
  have hx := C.1
  have hb := C.2.1
  intro x1 x2 x3 x4 σ H locs ls  h hI hl
  unfold f_X4_run_55 at h
  refine lv_aload_n hx hb dX4_run_55 rfl (lv_at hl 0 rfl) ?_
  refine lv_iload_n hx hb dX4_run_56 rfl (lv_at hl 1 rfl) ?_
  refine lv_iload_n hx hb dX4_run_57 rfl (lv_at hl 3 rfl) ?_
  refine lv_bipush hx hb dX4_run_58 cb_35 ?_
  refine hicmp_ne (tgt := 68) C dX4_run_60 (by decide) h (fun h => ?_) (fun h => ?_)
  · refine lv_aload_n hx hb dX4_run_68 rfl (lv_at hl 0 rfl) ?_
    refine lv_iload hx hb dX4_run_69 (lv_at hl 4 rfl) ?_
    refine h_callvi_o (rest := [.int x1, .ref (ad 7)]) C hI hl.1 shX_7 rfl yv_X4_nameAt k_644 h (fun q hq => c_X4_nameAt l D t ad z C.2.2.2.2.2.2.1 (σ) x4 q hq) (As := [.int x4]) rfl rfl ⟨Nat.le_of_ble_eq_true rfl, Nat.le_of_ble_eq_true rfl⟩ (Nat.le_of_ble_eq_true rfl) dX4_run_71 (fun q1 H locs h hI => ?_)
    exact w_X4_run_74 C hr   _ hK_4 _ _ _ _ _ _ _  h hI (lv_sub hl [0, 2] rfl)
  · refine lv_iload hx hb dX4_run_63 (lv_at hl 4 rfl) ?_
    refine lv_goto (tgt := 74) hx hb dX4_run_65 (by decide) ?_
    exact w_X4_run_74 C hr   _ hK_4 _ _ _ _ _ _ _  h hI (lv_sub hl [0, 2] rfl)
set_option maxRecDepth 100000 in
set_option maxHeartbeats 4000000 in
theorem w_X4_run_115 {p : Program} {l : Launch} {e : Env} {s : State} {m : MethodId} {args : Array Value} {below : List Frame} {meth : Method} {c : Code} {D : va_G} {t : gT} {ad z : Nat → Nat} (C : gC p s m args meth c cX4_run 5 "NineKeysRound$Law" D t shX ad z) (hr : meth.sig.returnType = some .int) {r : Int32 × gS} (K_4 : Int32 → Int32 → gS → Option (Int32 × gS)) (hK_4 : ∀ (x1 : Int32) (x2 : Int32) (σ : gS) (H : Heap) (locs : List Loc) (ls : Array Slot), K_4 x1 x2 σ = some r → gI shX t ad D s.heap σ H locs → lv_has ls 5 [(0, .ref (ad 7)), (1, .int x1), (2, .int x2)] → W p l e (gR 4 124) s m args below meth c H locs 0 0 (MQ below (gQi shX t ad D r.1 r.2) args s 0 0 (gA shX ad)) (F0 m 4 ls [])) : ∀ (x1 : Int32) (s0 : Int32) (σ : gS) (H : Heap) (locs : List Loc) (ls : Array Slot), f_X4_run_115 K_4 x1 s0 σ = some r → gI shX t ad D s.heap σ H locs → lv_has ls 5 [(0, .ref (ad 7)), (1, .int x1)] → W p l e (gR 4 124) s m args below meth c H locs 0 0 (MQ below (gQi shX t ad D r.1 r.2) args s 0 0 (gA shX ad)) (F0 m 115 ls [.int s0]) := by
  have hx := C.1
  have hb := C.2.1
  intro x1 s0 σ H locs ls  h hI hl
  unfold f_X4_run_115 at h
  refine lv_istore_n (lv' := [(2, .int s0), (0, .ref (ad 7)), (1, .int x1)]) hx hb dX4_run_115 rfl hl (by decide) rfl (fun ls hl => ?_)
  refine lv_goto (tgt := 139) hx hb dX4_run_116 (by decide) ?_
  refine h_iinc C hl dX4_run_139 0 rfl ci_1 h (by decide) (lvf := fun v1 => [(2, .int v1), (0, .ref (ad 7)), (1, .int x1)]) (fun _ => rfl) (fun v1 ls h hl => ?_)
  refine lv_goto (tgt := 4) hx hb dX4_run_142 (by decide) ?_
  exact hK_4 _ _ _ _ _ _  h hI (lv_sub hl [1, 2, 0] rfl)
set_option maxRecDepth 100000 in
set_option maxHeartbeats 4000000 in
theorem w_X4_run_41 {p : Program} {l : Launch} {e : Env} {s : State} {m : MethodId} {args : Array Value} {below : List Frame} {meth : Method} {c : Code} {D : va_G} {t : gT} {ad z : Nat → Nat} (C : gC p s m args meth c cX4_run 5 "NineKeysRound$Law" D t shX ad z) (hr : meth.sig.returnType = some .int) {r : Int32 × gS} (K_4 : Int32 → Int32 → gS → Option (Int32 × gS)) (hK_4 : ∀ (x1 : Int32) (x2 : Int32) (σ : gS) (H : Heap) (locs : List Loc) (ls : Array Slot), K_4 x1 x2 σ = some r → gI shX t ad D s.heap σ H locs → lv_has ls 5 [(0, .ref (ad 7)), (1, .int x1), (2, .int x2)] → W p l e (gR 4 124) s m args below meth c H locs 0 0 (MQ below (gQi shX t ad D r.1 r.2) args s 0 0 (gA shX ad)) (F0 m 4 ls [])) : ∀ (x1 : Int32) (x2 : Int32) (x3 : Int32) (s0 : Int32) (σ : gS) (H : Heap) (locs : List Loc) (ls : Array Slot), f_X4_run_41 K_4 x1 x2 x3 s0 σ = some r → gI shX t ad D s.heap σ H locs → lv_has ls 5 [(0, .ref (ad 7)), (1, .int x1), (2, .int x2), (3, .int x3)] → W p l e (gR 4 124) s m args below meth c H locs 0 0 (MQ below (gQi shX t ad D r.1 r.2) args s 0 0 (gA shX ad)) (F0 m 41 ls [.int s0]) := by
  have hx := C.1
  have hb := C.2.1
  intro x1 x2 x3 s0 σ H locs ls  h hI hl
  unfold f_X4_run_41 at h
  refine lv_istore (lv' := [(4, .int s0), (0, .ref (ad 7)), (1, .int x1), (2, .int x2), (3, .int x3)]) hx hb dX4_run_41 hl (by decide) rfl (fun ls hl => ?_)
  refine lv_iload_n hx hb dX4_run_43 rfl (lv_at hl 4 rfl) ?_
  refine lv_bipush hx hb dX4_run_44 cb_35 ?_
  refine hicmp_eq (tgt := 55) C dX4_run_46 (by decide) h (fun h => ?_) (fun h => ?_)
  · exact w_X4_run_55 C hr   _ hK_4 _ _ _ _ _ _ _ _  h hI (lv_sub hl [1, 2, 3, 4, 0] rfl)
  · refine lv_iload_n hx hb dX4_run_49 rfl (lv_at hl 4 rfl) ?_
    refine lv_bipush hx hb dX4_run_50 cb_36 ?_
    refine hicmp_ne (tgt := 84) C dX4_run_52 (by decide) h (fun h => ?_) (fun h => ?_)
    · refine lv_iload_n hx hb dX4_run_84 rfl (lv_at hl 4 rfl) ?_
      refine lv_bipush hx hb dX4_run_85 cb_63 ?_
      refine hicmp_ne (tgt := 119) C dX4_run_87 (by decide) h (fun h => ?_) (fun h => ?_)
      · refine lv_iload_n hx hb dX4_run_119 rfl (lv_at hl 4 rfl) ?_
        refine lv_bipush hx hb dX4_run_120 cb_59 ?_
        refine hicmp_ne (tgt := 132) C dX4_run_122 (by decide) h (fun h => ?_) (fun h => ?_)
        · refine lv_aload_n hx hb dX4_run_132 rfl (lv_at hl 1 rfl) ?_
          refine lv_iload_n hx hb dX4_run_133 rfl (lv_at hl 4 rfl) ?_
          refine lv_iload_n hx hb dX4_run_134 rfl (lv_at hl 2 rfl) ?_
          refine h_callvi_w (rest := []) C hI hl.1 shX_7 rfl yv_X4_work k_653 h (fun q hq => c_X4_work l D t ad z C.2.2.2.2.2.2.1 (σ) x3 x1 q hq) (As := [.int x3, .int x1]) rfl rfl ⟨Nat.le_of_ble_eq_true rfl, Nat.le_of_ble_eq_true rfl⟩ (Nat.le_of_ble_eq_true rfl) dX4_run_135 (fun q1 H locs h hI => ?_)
          refine lv_istore_n (lv' := [(1, .int q1.1), (4, .int s0), (0, .ref (ad 7)), (2, .int x2), (3, .int x3)]) hx hb dX4_run_138 rfl hl (by decide) rfl (fun ls hl => ?_)
          refine h_iinc C hl dX4_run_139 3 rfl ci_1 h (by decide) (lvf := fun v2 => [(2, .int v2), (1, .int q1.1), (4, .int s0), (0, .ref (ad 7)), (3, .int x3)]) (fun _ => rfl) (fun v2 ls h hl => ?_)
          refine lv_goto (tgt := 4) hx hb dX4_run_142 (by decide) ?_
          exact hK_4 _ _ _ _ _ _  h hI (lv_sub hl [3, 1, 0] rfl)
        · refine lv_aload_n hx hb dX4_run_125 rfl (lv_at hl 1 rfl) ?_
          refine fr_78 C hI shX_7 rfl dX4_run_126 ?_
          refine lv_iconst hx hb dX4_run_129 ci_0 ?_
          refine gx_iald C hI shX_11 h dX4_run_130 (fun h => ?_)
          exact h_iret_w C hr hI h dX4_run_131
      · refine lv_iconst hx hb dX4_run_90 ci_0 ?_
        refine lv_istore_n (lv' := [(1, .int 0), (4, .int s0), (0, .ref (ad 7)), (2, .int x2), (3, .int x3)]) hx hb dX4_run_91 rfl hl (by decide) rfl (fun ls hl => ?_)
        refine lv_aload_n hx hb dX4_run_92 rfl (lv_at hl 2 rfl) ?_
        refine fr_78 C hI shX_7 rfl dX4_run_93 ?_
        refine lv_iconst hx hb dX4_run_96 ci_0 ?_
        refine gx_iald C hI shX_11 h dX4_run_97 (fun h => ?_)
        refine hif_ne (tgt := 112) C dX4_run_98 (by decide) h (fun h => ?_) (fun h => ?_)
        · refine lv_iload_n hx hb dX4_run_112 rfl (lv_at hl 3 rfl) ?_
          refine lv_iconst hx hb dX4_run_113 ci_1 ?_
          refine lv_iadd hx hb dX4_run_114 ?_
          exact w_X4_run_115 C hr   _ hK_4 _ _ _ _ _ _  h hI (lv_sub hl [2, 0] rfl)
        · refine lv_iload_n hx hb dX4_run_101 rfl (lv_at hl 3 rfl) ?_
          refine lv_iload hx hb dX4_run_102 (lv_at hl 1 rfl) ?_
          refine lv_iconst hx hb dX4_run_104 ci_1 ?_
          refine lv_isub hx hb dX4_run_105 ?_
          refine h_mmax C hl.1 k_652 ⟨Nat.le_of_ble_eq_true rfl, Nat.le_of_ble_eq_true rfl⟩ ⟨Nat.zero_le _, Nat.zero_le _⟩ dX4_run_106 ?_
          refine lv_goto (tgt := 115) hx hb dX4_run_109 (by decide) ?_
          exact w_X4_run_115 C hr   _ hK_4 _ _ _ _ _ _  h hI (lv_sub hl [2, 0] rfl)
    · exact w_X4_run_55 C hr   _ hK_4 _ _ _ _ _ _ _ _  h hI (lv_sub hl [1, 2, 3, 4, 0] rfl)
set_option maxRecDepth 100000 in
set_option maxHeartbeats 4000000 in
theorem w_X4_run_4 {p : Program} {l : Launch} {e : Env} {s : State} {m : MethodId} {args : Array Value} {below : List Frame} {meth : Method} {c : Code} {D : va_G} {t : gT} {ad z : Nat → Nat} (C : gC p s m args meth c cX4_run 5 "NineKeysRound$Law" D t shX ad z) (hr : meth.sig.returnType = some .int) {r : Int32 × gS} : ∀ (n : Nat) (x1 : Int32) (x2 : Int32) (σ : gS) (H : Heap) (locs : List Loc) (ls : Array Slot), f_X4_run_4 n x1 x2 σ = some r → gI shX t ad D s.heap σ H locs → lv_has ls 5 [(0, .ref (ad 7)), (1, .int x1), (2, .int x2)] → W p l e (gR 4 124) s m args below meth c H locs 0 0 (MQ below (gQi shX t ad D r.1 r.2) args s 0 0 (gA shX ad)) (F0 m 4 ls []) := by
  have hx := C.1
  have hb := C.2.1
  intro n
  induction n with
  | zero =>
    intro x1 x2 σ H locs ls  h
    exact absurd h (by simp [f_X4_run_4])
  | succ n ih =>
    intro x1 x2 σ H locs ls  h hI hl
    unfold f_X4_run_4 at h
    refine lv_iload_n hx hb dX4_run_4 rfl (lv_at hl 2 rfl) ?_
    refine lv_aload_n hx hb dX4_run_5 rfl (lv_at hl 0 rfl) ?_
    refine fg_81 C hI shX_7 rfl dX4_run_6 ?_
    refine hicmp_ge (tgt := 145) C dX4_run_9 (by decide) h (fun h => ?_) (fun h => ?_)
    · refine lv_iconst hx hb dX4_run_145 ci_0 ?_
      exact h_iret_w C hr hI h dX4_run_146
    · refine lv_aload_n hx hb dX4_run_12 rfl (lv_at hl 0 rfl) ?_
      refine fr_77 C hI shX_7 rfl dX4_run_13 ?_
      refine lv_iload_n hx hb dX4_run_16 rfl (lv_at hl 2 rfl) ?_
      refine gx_iald C hI shX_10 h dX4_run_17 (fun h => ?_)
      refine gx_topi h (fun v1 h => ?_)
      refine lv_istore_n (lv' := [(3, .int v1), (0, .ref (ad 7)), (1, .int x1), (2, .int x2)]) hx hb dX4_run_18 rfl hl (by decide) rfl (fun ls hl => ?_)
      refine lv_iload_n hx hb dX4_run_19 rfl (lv_at hl 3 rfl) ?_
      refine lv_iconst hx hb dX4_run_20 ci_1 ?_
      refine lv_iadd hx hb dX4_run_21 ?_
      refine lv_aload_n hx hb dX4_run_22 rfl (lv_at hl 1 rfl) ?_
      refine fg_81 C hI shX_7 rfl dX4_run_23 ?_
      refine hicmp_ge (tgt := 40) C dX4_run_26 (by decide) h (fun h => ?_) (fun h => ?_)
      · refine lv_iconst hx hb dX4_run_40 ci_0 ?_
        exact w_X4_run_41 C hr   _ ih _ _ _ _ _ _ _ _  h hI (lv_sub hl [1, 2, 3, 0] rfl)
      · refine lv_aload_n hx hb dX4_run_29 rfl (lv_at hl 1 rfl) ?_
        refine fr_77 C hI shX_7 rfl dX4_run_30 ?_
        refine lv_iload_n hx hb dX4_run_33 rfl (lv_at hl 3 rfl) ?_
        refine lv_iconst hx hb dX4_run_34 ci_1 ?_
        refine lv_iadd hx hb dX4_run_35 ?_
        refine gx_iald C hI shX_10 h dX4_run_36 (fun h => ?_)
        refine lv_goto (tgt := 41) hx hb dX4_run_37 (by decide) ?_
        exact w_X4_run_41 C hr   _ ih _ _ _ _ _ _ _ _  h hI (lv_sub hl [1, 2, 3, 0] rfl)
set_option maxRecDepth 100000 in
set_option maxHeartbeats 4000000 in
theorem c_X4_run (l : Launch) (D : va_G) (t : gT) (ad z : Nat → Nat) (hJ : gJ shX ad) (σ : gS) (q : Int32 × gS) (h : f_X4_run σ = some q) : Met l yX4_run (Cond.code yX4_run cX4_run 5 (some .int) :: lw_tb) (gR 4 124) (gPc shX t ad D z [.ref (ad 7)] σ) (gQi shX t ad D q.1 q.2) 0 0 (gA shX ad) := by
  refine gMet "NineKeysRound$Law" rfl (by decide) hJ (Nat.le_of_ble_eq_true rfl) ?_
  intro p e s m below meth c ls C hr hI hl
  have hx := C.1
  have hb := C.2.1
  have hl : lv_has ls 5 [(0, .ref (ad 7))] := hl
  unfold f_X4_run at h
  refine lv_iconst hx hb dX4_run_0 ci_0 ?_
  refine lv_istore_n (lv' := [(1, .int 0), (0, .ref (ad 7))]) hx hb dX4_run_1 rfl hl (by decide) rfl (fun ls hl => ?_)
  refine lv_iconst hx hb dX4_run_2 ci_0 ?_
  refine lv_istore_n (lv' := [(2, .int 0), (1, .int 0), (0, .ref (ad 7))]) hx hb dX4_run_3 rfl hl (by decide) rfl (fun ls hl => ?_)
  exact w_X4_run_4 C hr    _ _ _ _ _ _ _  h hI (lv_sub hl [2, 1, 0] rfl)
set_option maxRecDepth 100000 in
set_option maxHeartbeats 4000000 in
theorem w_X4_worth_44 {p : Program} {l : Launch} {e : Env} {s : State} {m : MethodId} {args : Array Value} {below : List Frame} {meth : Method} {c : Code} {D : va_G} {t : gT} {ad z : Nat → Nat} (C : gC p s m args meth c cX4_worth 4 "NineKeysRound$Law" D t shX ad z) (hr : meth.sig.returnType = some .int) {r : Int32 × gS} : ∀ (s0 : Int32) (σ : gS) (H : Heap) (locs : List Loc) (ls : Array Slot), f_X4_worth_44 s0 σ = some r → gI shX t ad D s.heap σ H locs → lv_has ls 4 [] → W p l e (gR 5 148) s m args below meth c H locs 0 0 (MQ below (gQi shX t ad D r.1 r.2) args s 0 0 (gA shX ad)) (F0 m 44 ls [.int s0]) := by
  have hx := C.1
  have hb := C.2.1
  intro s0 σ H locs ls  h hI hl
  unfold f_X4_worth_44 at h
  refine lv_istore_n (lv' := [(3, .int s0)]) hx hb dX4_worth_44 rfl hl (by decide) rfl (fun ls hl => ?_)
  refine lv_iconst hx hb dX4_worth_45 ci_0 ?_
  refine lv_bipush hx hb dX4_worth_46 cb_99 ?_
  refine lv_iload_n hx hb dX4_worth_48 rfl (lv_at hl 0 rfl) ?_
  refine h_mmin C hl.1 k_663 ⟨Nat.le_of_ble_eq_true rfl, Nat.le_of_ble_eq_true rfl⟩ ⟨Nat.zero_le _, Nat.zero_le _⟩ dX4_worth_49 ?_
  refine h_mmax C hl.1 k_652 ⟨Nat.le_of_ble_eq_true rfl, Nat.le_of_ble_eq_true rfl⟩ ⟨Nat.zero_le _, Nat.zero_le _⟩ dX4_worth_52 ?_
  exact h_iret_w C hr hI h dX4_worth_55
set_option maxRecDepth 100000 in
set_option maxHeartbeats 4000000 in
theorem c_X4_worth (l : Launch) (D : va_G) (t : gT) (ad z : Nat → Nat) (hJ : gJ shX ad) (σ : gS) (x1 : Int32) (x2 : Int32) (q : Int32 × gS) (h : f_X4_worth σ x1 x2 = some q) : Met l yX4_worth (Cond.code yX4_worth cX4_worth 4 (some .int) :: lw_tb) (gR 5 148) (gPc shX t ad D z [.ref (ad 7), .int x1, .int x2] σ) (gQi shX t ad D q.1 q.2) 0 0 (gA shX ad) := by
  refine gMet "NineKeysRound$Law" rfl (by decide) hJ (Nat.le_of_ble_eq_true rfl) ?_
  intro p e s m below meth c ls C hr hI hl
  have hx := C.1
  have hb := C.2.1
  have hl : lv_has ls 4 [(0, .ref (ad 7)), (1, .int x1), (2, .int x2)] := hl
  unfold f_X4_worth at h
  refine lv_aload_n hx hb dX4_worth_0 rfl (lv_at hl 0 rfl) ?_
  refine fr_79 C hI shX_7 rfl dX4_worth_1 ?_
  refine lv_iconst hx hb dX4_worth_4 ci_1 ?_
  refine lv_iload_n hx hb dX4_worth_5 rfl (lv_at hl 1 rfl) ?_
  refine gx_iast C hI shX_12 h dX4_worth_6 (fun H locs h hI => ?_)
  refine gx_st h hI (fun s1 h hI => ?_)
  refine lv_aload_n hx hb dX4_worth_7 rfl (lv_at hl 0 rfl) ?_
  refine fr_79 C hI shX_7 rfl dX4_worth_8 ?_
  refine lv_iconst hx hb dX4_worth_11 ci_2 ?_
  refine lv_iload_n hx hb dX4_worth_12 rfl (lv_at hl 2 rfl) ?_
  refine gx_iast C hI shX_12 h dX4_worth_13 (fun H locs h hI => ?_)
  refine gx_st h hI (fun s2 h hI => ?_)
  refine lv_aload_n hx hb dX4_worth_14 rfl (lv_at hl 0 rfl) ?_
  refine fg_81 C hI shX_7 rfl dX4_worth_15 ?_
  refine hif_ne (tgt := 40) C dX4_worth_18 (by decide) h (fun h => ?_) (fun h => ?_)
  · refine lv_aload_n hx hb dX4_worth_40 rfl (lv_at hl 0 rfl) ?_
    refine h_callvi_w (rest := []) C hI hl.1 shX_7 rfl yv_X4_run k_640 h (fun q hq => c_X4_run l D t ad z C.2.2.2.2.2.2.1 s2 q hq) (As := []) rfl rfl ⟨Nat.le_of_ble_eq_true rfl, Nat.le_of_ble_eq_true rfl⟩ (Nat.le_of_ble_eq_true rfl) dX4_worth_41 (fun q3 H locs h hI => ?_)
    exact w_X4_worth_44 C hr    _ _ _ _ _  h hI (lv_sub hl [] rfl)
  · refine lv_aload_n hx hb dX4_worth_21 rfl (lv_at hl 0 rfl) ?_
    refine fr_79 C hI shX_7 rfl dX4_worth_22 ?_
    refine lv_iconst hx hb dX4_worth_25 ci_0 ?_
    refine gx_iald C hI shX_12 h dX4_worth_26 (fun h => ?_)
    refine lv_aload_n hx hb dX4_worth_27 rfl (lv_at hl 0 rfl) ?_
    refine fr_79 C hI shX_7 rfl dX4_worth_28 ?_
    refine lv_iconst hx hb dX4_worth_31 ci_1 ?_
    refine gx_iald C hI shX_12 h dX4_worth_32 (fun h => ?_)
    refine lv_imul hx hb dX4_worth_33 ?_
    refine lv_bipush hx hb dX4_worth_34 cb_10 ?_
    refine h_idiv C dX4_worth_36 h (fun h => ?_)
    refine lv_goto (tgt := 44) hx hb dX4_worth_37 (by decide) ?_
    exact w_X4_worth_44 C hr    _ _ _ _ _  h hI (lv_sub hl [] rfl)
set_option maxRecDepth 100000 in
set_option maxHeartbeats 4000000 in
theorem w_X5_holdKey_10 {p : Program} {l : Launch} {e : Env} {s : State} {m : MethodId} {args : Array Value} {below : List Frame} {meth : Method} {c : Code} {D : va_G} {t : gT} {ad z : Nat → Nat} (C : gC p s m args meth c cX5_holdKey 2 "NineKeysRound$Shelf" D t shX ad z) (hr : meth.sig.returnType = none) {kS : Nat} (h_kS : shX[kS]? = some (.inr (.inl (5, [some (kS + 1), none, none, none, none])))) (h_kS1 : shX[kS + 1]? = some (.inl (1, 60))) {r : gS} : ∀ (x1 : Int32) (s0 : Int32) (σ : gS) (H : Heap) (locs : List Loc) (ls : Array Slot), f_X5_holdKey_10 kS x1 s0 σ = some r → gI shX t ad D s.heap σ H locs → lv_has ls 2 [(0, .ref (ad kS)), (1, .int x1)] → W p l e (gR 1 60) s m args below meth c H locs 0 0 (MQ below (gQv shX t ad D r) args s 0 0 (gA shX ad)) (F0 m 10 ls [.int s0, .ref (ad kS)]) := by
  have hx := C.1
  have hb := C.2.1
  intro x1 s0 σ H locs ls  h hI hl
  unfold f_X5_holdKey_10 at h
  refine fp_240 C hI h_kS rfl dX5_holdKey_10 (fun H locs hI => ?_)
  refine gx_st h hI (fun s1 h hI => ?_)
  refine lv_aload_n hx hb dX5_holdKey_13 rfl (lv_at hl 0 rfl) ?_
  refine lv_iload_n hx hb dX5_holdKey_14 rfl (lv_at hl 1 rfl) ?_
  refine fp_242 C hI h_kS rfl dX5_holdKey_15 (fun H locs hI => ?_)
  refine gx_st h hI (fun s2 h hI => ?_)
  refine lv_aload_n hx hb dX5_holdKey_18 rfl (lv_at hl 0 rfl) ?_
  refine lv_iconst hx hb dX5_holdKey_19 ci_0 ?_
  refine fp_247 C hI h_kS rfl dX5_holdKey_20 (fun H locs hI => ?_)
  refine gx_st h hI (fun s3 h hI => ?_)
  exact h_vret_w C hr hI h dX5_holdKey_23
set_option maxRecDepth 100000 in
set_option maxHeartbeats 4000000 in
theorem c_X5_holdKey (l : Launch) (D : va_G) (t : gT) (ad z : Nat → Nat) (hJ : gJ shX ad) (kS : Nat) (h_kS : shX[kS]? = some (.inr (.inl (5, [some (kS + 1), none, none, none, none])))) (h_kS1 : shX[kS + 1]? = some (.inl (1, 60))) (σ : gS) (x1 : Int32) (q : gS) (h : f_X5_holdKey σ kS x1 = some q) : Met l yX5_holdKey (Cond.code yX5_holdKey cX5_holdKey 2 (none) :: lw_tb) (gR 1 60) (gPc shX t ad D z [.ref (ad kS), .int x1] σ) (gQv shX t ad D q) 0 0 (gA shX ad) := by
  refine gMet "NineKeysRound$Shelf" rfl (by decide) hJ (Nat.le_of_ble_eq_true rfl) ?_
  intro p e s m below meth c ls C hr hI hl
  have hx := C.1
  have hb := C.2.1
  have hl : lv_has ls 2 [(0, .ref (ad kS)), (1, .int x1)] := hl
  unfold f_X5_holdKey at h
  refine lv_aload_n hx hb dX5_holdKey_0 rfl (lv_at hl 0 rfl) ?_
  refine lv_iload_n hx hb dX5_holdKey_1 rfl (lv_at hl 1 rfl) ?_
  refine hif_ge (tgt := 9) C dX5_holdKey_2 (by decide) h (fun h => ?_) (fun h => ?_)
  · refine lv_iconst hx hb dX5_holdKey_9 ci_1 ?_
    exact w_X5_holdKey_10 C hr  h_kS h_kS1  _ _ _ _ _ _  h hI (lv_sub hl [0, 1] rfl)
  · refine lv_iconst hx hb dX5_holdKey_5 ci_0 ?_
    refine lv_goto (tgt := 10) hx hb dX5_holdKey_6 (by decide) ?_
    exact w_X5_holdKey_10 C hr  h_kS h_kS1  _ _ _ _ _ _  h hI (lv_sub hl [0, 1] rfl)
set_option maxRecDepth 100000 in
set_option maxHeartbeats 4000000 in
theorem w_X5_holdRow_17 {p : Program} {l : Launch} {e : Env} {s : State} {m : MethodId} {args : Array Value} {below : List Frame} {meth : Method} {c : Code} {D : va_G} {t : gT} {ad z : Nat → Nat} (C : gC p s m args meth c cX5_holdRow 4 "NineKeysRound$Shelf" D t shX ad z) (hr : meth.sig.returnType = none) {kS : Nat} (h_kS : shX[kS]? = some (.inr (.inl (5, [some (kS + 1), none, none, none, none])))) (h_kS1 : shX[kS + 1]? = some (.inl (1, 60))) {r : gS} : ∀ (n : Nat) (x3 : Int32) (σ : gS) (H : Heap) (locs : List Loc) (ls : Array Slot), f_X5_holdRow_17 kS n x3 σ = some r → gI shX t ad D s.heap σ H locs → lv_has ls 4 [(0, .ref (ad kS)), (3, .int x3)] → W p l e (gR 1 60) s m args below meth c H locs 0 0 (MQ below (gQv shX t ad D r) args s 0 0 (gA shX ad)) (F0 m 17 ls []) := by
  have hx := C.1
  have hb := C.2.1
  intro n
  induction n with
  | zero =>
    intro x3 σ H locs ls  h
    exact absurd h (by simp [f_X5_holdRow_17])
  | succ n ih =>
    intro x3 σ H locs ls  h hI hl
    unfold f_X5_holdRow_17 at h
    refine lv_iload_n hx hb dX5_holdRow_17 rfl (lv_at hl 1 rfl) ?_
    refine lv_bipush hx hb dX5_holdRow_18 cb_60 ?_
    refine hicmp_ge (tgt := 36) C dX5_holdRow_20 (by decide) h (fun h => ?_) (fun h => ?_)
    · exact h_vret_w C hr hI h dX5_holdRow_36
    · refine lv_aload_n hx hb dX5_holdRow_23 rfl (lv_at hl 0 rfl) ?_
      refine fr_238 C hI h_kS rfl dX5_holdRow_24 ?_
      refine lv_iload_n hx hb dX5_holdRow_27 rfl (lv_at hl 1 rfl) ?_
      refine lv_lconst (v := 0) hx hb dX5_holdRow_28 rfl ?_
      refine gx_last C hI h_kS1 h dX5_holdRow_29 (fun H locs h hI => ?_)
      refine gx_st h hI (fun s1 h hI => ?_)
      refine h_iinc C hl dX5_holdRow_30 1 rfl ci_1 h (by decide) (lvf := fun v2 => [(3, .int v2), (0, .ref (ad kS))]) (fun _ => rfl) (fun v2 ls h hl => ?_)
      refine lv_goto (tgt := 17) hx hb dX5_holdRow_33 (by decide) ?_
      exact ih _ _ _ _ _  h hI (lv_sub hl [1, 0] rfl)
set_option maxRecDepth 100000 in
set_option maxHeartbeats 4000000 in
theorem c_X5_holdRow (l : Launch) (D : va_G) (t : gT) (ad z : Nat → Nat) (hJ : gJ shX ad) (kS : Nat) (h_kS : shX[kS]? = some (.inr (.inl (5, [some (kS + 1), none, none, none, none])))) (h_kS1 : shX[kS + 1]? = some (.inl (1, 60))) (σ : gS) (x1 : Int32) (x2 : Int32) (q : gS) (h : f_X5_holdRow σ kS x1 x2 = some q) : Met l yX5_holdRow (Cond.code yX5_holdRow cX5_holdRow 4 (none) :: lw_tb) (gR 1 60) (gPc shX t ad D z [.ref (ad kS), .int x1, .int x2] σ) (gQv shX t ad D q) 0 0 (gA shX ad) := by
  refine gMet "NineKeysRound$Shelf" rfl (by decide) hJ (Nat.le_of_ble_eq_true rfl) ?_
  intro p e s m below meth c ls C hr hI hl
  have hx := C.1
  have hb := C.2.1
  have hl : lv_has ls 4 [(0, .ref (ad kS)), (1, .int x1), (2, .int x2)] := hl
  unfold f_X5_holdRow at h
  refine lv_aload_n hx hb dX5_holdRow_0 rfl (lv_at hl 0 rfl) ?_
  refine lv_iconst hx hb dX5_holdRow_1 ci_2 ?_
  refine fp_240 C hI h_kS rfl dX5_holdRow_2 (fun H locs hI => ?_)
  refine gx_st h hI (fun s1 h hI => ?_)
  refine lv_aload_n hx hb dX5_holdRow_5 rfl (lv_at hl 0 rfl) ?_
  refine lv_iload_n hx hb dX5_holdRow_6 rfl (lv_at hl 1 rfl) ?_
  refine fp_244 C hI h_kS rfl dX5_holdRow_7 (fun H locs hI => ?_)
  refine gx_st h hI (fun s2 h hI => ?_)
  refine lv_aload_n hx hb dX5_holdRow_10 rfl (lv_at hl 0 rfl) ?_
  refine lv_iload_n hx hb dX5_holdRow_11 rfl (lv_at hl 2 rfl) ?_
  refine fp_247 C hI h_kS rfl dX5_holdRow_12 (fun H locs hI => ?_)
  refine gx_st h hI (fun s3 h hI => ?_)
  refine lv_iconst hx hb dX5_holdRow_15 ci_0 ?_
  refine lv_istore_n (lv' := [(3, .int 0), (0, .ref (ad kS)), (1, .int x1), (2, .int x2)]) hx hb dX5_holdRow_16 rfl hl (by decide) rfl (fun ls hl => ?_)
  exact w_X5_holdRow_17 C hr  h_kS h_kS1  _ _ _ _ _ _  h hI (lv_sub hl [1, 0] rfl)
set_option maxRecDepth 100000 in
set_option maxHeartbeats 4000000 in
theorem c_X5_refusalFor (l : Launch) (D : va_G) (t : gT) (ad z : Nat → Nat) (hJ : gJ shX ad) (kS : Nat) (h_kS : shX[kS]? = some (.inr (.inl (5, [some (kS + 1), none, none, none, none])))) (h_kS1 : shX[kS + 1]? = some (.inl (1, 60))) (σ : gS) (x1 : Int32) (q : Int32) (h : f_X5_refusalFor σ kS x1 = some q) : Met l yX5_refusalFor (Cond.code yX5_refusalFor cX5_refusalFor 2 (some .int) :: lw_tb) (gR 1 60) (gPc shX t ad D z [.ref (ad kS), .int x1] σ) (gQi shX t ad D q σ) 0 0 (gA shX ad) := by
  refine gMet "NineKeysRound$Shelf" rfl (by decide) hJ (Nat.le_of_ble_eq_true rfl) ?_
  intro p e s m below meth c ls C hr hI hl
  have hx := C.1
  have hb := C.2.1
  have hl : lv_has ls 2 [(0, .ref (ad kS)), (1, .int x1)] := hl
  unfold f_X5_refusalFor at h
  refine lv_aload_n hx hb dX5_refusalFor_0 rfl (lv_at hl 0 rfl) ?_
  refine fg_240 C hI h_kS rfl dX5_refusalFor_1 ?_
  refine hif_ne (tgt := 10) C dX5_refusalFor_4 (by decide) h (fun h => ?_) (fun h => ?_)
  · refine lv_aload_n hx hb dX5_refusalFor_10 rfl (lv_at hl 0 rfl) ?_
    refine fg_240 C hI h_kS rfl dX5_refusalFor_11 ?_
    refine lv_iconst hx hb dX5_refusalFor_14 ci_2 ?_
    refine hicmp_ne (tgt := 30) C dX5_refusalFor_15 (by decide) h (fun h => ?_) (fun h => ?_)
    · refine lv_bipush hx hb dX5_refusalFor_30 cb_m12 ?_
      exact h_iret_o C hr hI h dX5_refusalFor_32
    · refine lv_aload_n hx hb dX5_refusalFor_18 rfl (lv_at hl 0 rfl) ?_
      refine fg_244 C hI h_kS rfl dX5_refusalFor_19 ?_
      refine lv_iload_n hx hb dX5_refusalFor_22 rfl (lv_at hl 1 rfl) ?_
      refine hicmp_ne (tgt := 30) C dX5_refusalFor_23 (by decide) h (fun h => ?_) (fun h => ?_)
      · refine lv_bipush hx hb dX5_refusalFor_30 cb_m12 ?_
        exact h_iret_o C hr hI h dX5_refusalFor_32
      · refine lv_iconst hx hb dX5_refusalFor_26 ci_0 ?_
        refine lv_goto (tgt := 32) hx hb dX5_refusalFor_27 (by decide) ?_
        exact h_iret_o C hr hI h dX5_refusalFor_32
  · refine lv_bipush hx hb dX5_refusalFor_7 cb_m11 ?_
    exact h_iret_o C hr hI h dX5_refusalFor_9
set_option maxRecDepth 100000 in
set_option maxHeartbeats 4000000 in
theorem c_X5_hasPlaces (l : Launch) (D : va_G) (t : gT) (ad z : Nat → Nat) (hJ : gJ shX ad) (kS : Nat) (h_kS : shX[kS]? = some (.inr (.inl (5, [some (kS + 1), none, none, none, none])))) (h_kS1 : shX[kS + 1]? = some (.inl (1, 60))) (σ : gS) (x1 : Int32) (x2 : Int32) (q : Int32) (h : f_X5_hasPlaces σ kS x1 x2 = some q) : Met l yX5_hasPlaces (Cond.code yX5_hasPlaces cX5_hasPlaces 3 (some .boolean) :: lw_tb) (gR 1 60) (gPc shX t ad D z [.ref (ad kS), .int x1, .int x2] σ) (gQi shX t ad D q σ) 0 0 (gA shX ad) := by
  refine gMet "NineKeysRound$Shelf" rfl (by decide) hJ (Nat.le_of_ble_eq_true rfl) ?_
  intro p e s m below meth c ls C hr hI hl
  have hx := C.1
  have hb := C.2.1
  have hl : lv_has ls 3 [(0, .ref (ad kS)), (1, .int x1), (2, .int x2)] := hl
  unfold f_X5_hasPlaces at h
  refine lv_iload_n hx hb dX5_hasPlaces_0 rfl (lv_at hl 1 rfl) ?_
  refine hif_lt (tgt := 30) C dX5_hasPlaces_1 (by decide) h (fun h => ?_) (fun h => ?_)
  · refine lv_iconst hx hb dX5_hasPlaces_30 ci_0 ?_
    exact h_zret_o C hr hI h dX5_hasPlaces_31
  · refine lv_iload_n hx hb dX5_hasPlaces_4 rfl (lv_at hl 2 rfl) ?_
    refine hif_lt (tgt := 30) C dX5_hasPlaces_5 (by decide) h (fun h => ?_) (fun h => ?_)
    · refine lv_iconst hx hb dX5_hasPlaces_30 ci_0 ?_
      exact h_zret_o C hr hI h dX5_hasPlaces_31
    · refine lv_iload_n hx hb dX5_hasPlaces_8 rfl (lv_at hl 1 rfl) ?_
      refine lv_aload_n hx hb dX5_hasPlaces_9 rfl (lv_at hl 0 rfl) ?_
      refine fg_247 C hI h_kS rfl dX5_hasPlaces_10 ?_
      refine hicmp_gt (tgt := 30) C dX5_hasPlaces_13 (by decide) h (fun h => ?_) (fun h => ?_)
      · refine lv_iconst hx hb dX5_hasPlaces_30 ci_0 ?_
        exact h_zret_o C hr hI h dX5_hasPlaces_31
      · refine lv_iload_n hx hb dX5_hasPlaces_16 rfl (lv_at hl 2 rfl) ?_
        refine lv_aload_n hx hb dX5_hasPlaces_17 rfl (lv_at hl 0 rfl) ?_
        refine fg_247 C hI h_kS rfl dX5_hasPlaces_18 ?_
        refine lv_iload_n hx hb dX5_hasPlaces_21 rfl (lv_at hl 1 rfl) ?_
        refine lv_isub hx hb dX5_hasPlaces_22 ?_
        refine hicmp_gt (tgt := 30) C dX5_hasPlaces_23 (by decide) h (fun h => ?_) (fun h => ?_)
        · refine lv_iconst hx hb dX5_hasPlaces_30 ci_0 ?_
          exact h_zret_o C hr hI h dX5_hasPlaces_31
        · refine lv_iconst hx hb dX5_hasPlaces_26 ci_1 ?_
          refine lv_goto (tgt := 31) hx hb dX5_hasPlaces_27 (by decide) ?_
          exact h_zret_o C hr hI h dX5_hasPlaces_31
set_option maxRecDepth 100000 in
set_option maxHeartbeats 4000000 in
theorem c_X5_refusalForPlace (l : Launch) (D : va_G) (t : gT) (ad z : Nat → Nat) (hJ : gJ shX ad) (kS : Nat) (h_kS : shX[kS]? = some (.inr (.inl (5, [some (kS + 1), none, none, none, none])))) (h_kS1 : shX[kS + 1]? = some (.inl (1, 60))) (σ : gS) (x1 : Int32) (q : Int32) (h : f_X5_refusalForPlace σ kS x1 = some q) : Met l yX5_refusalForPlace (Cond.code yX5_refusalForPlace cX5_refusalForPlace 2 (some .int) :: lw_tb) (gR 2 82) (gPc shX t ad D z [.ref (ad kS), .int x1] σ) (gQi shX t ad D q σ) 0 0 (gA shX ad) := by
  refine gMet "NineKeysRound$Shelf" rfl (by decide) hJ (Nat.le_of_ble_eq_true rfl) ?_
  intro p e s m below meth c ls C hr hI hl
  have hx := C.1
  have hb := C.2.1
  have hl : lv_has ls 2 [(0, .ref (ad kS)), (1, .int x1)] := hl
  unfold f_X5_refusalForPlace at h
  refine lv_aload_n hx hb dX5_refusalForPlace_0 rfl (lv_at hl 0 rfl) ?_
  refine fg_240 C hI h_kS rfl dX5_refusalForPlace_1 ?_
  refine lv_iconst hx hb dX5_refusalForPlace_4 ci_2 ?_
  refine hicmp_eq (tgt := 23) C dX5_refusalForPlace_5 (by decide) h (fun h => ?_) (fun h => ?_)
  · refine lv_aload_n hx hb dX5_refusalForPlace_23 rfl (lv_at hl 0 rfl) ?_
    refine lv_iload_n hx hb dX5_refusalForPlace_24 rfl (lv_at hl 1 rfl) ?_
    refine lv_iconst hx hb dX5_refusalForPlace_25 ci_1 ?_
    refine h_callvi_o (rest := []) C hI hl.1 h_kS rfl yv_X5_hasPlaces k_1024 h (fun q hq => c_X5_hasPlaces l D t ad z C.2.2.2.2.2.2.1 kS h_kS h_kS1 (σ) x1 1 q hq) (As := [.int x1, .int 1]) rfl rfl ⟨Nat.le_of_ble_eq_true rfl, Nat.le_of_ble_eq_true rfl⟩ (Nat.le_of_ble_eq_true rfl) dX5_refusalForPlace_26 (fun q1 H locs h hI => ?_)
    refine hif_eq (tgt := 36) C dX5_refusalForPlace_29 (by decide) h (fun h => ?_) (fun h => ?_)
    · refine lv_bipush hx hb dX5_refusalForPlace_36 cb_m13 ?_
      exact h_iret_o C hr hI h dX5_refusalForPlace_38
    · refine lv_iconst hx hb dX5_refusalForPlace_32 ci_0 ?_
      refine lv_goto (tgt := 38) hx hb dX5_refusalForPlace_33 (by decide) ?_
      exact h_iret_o C hr hI h dX5_refusalForPlace_38
  · refine lv_aload_n hx hb dX5_refusalForPlace_8 rfl (lv_at hl 0 rfl) ?_
    refine fg_240 C hI h_kS rfl dX5_refusalForPlace_9 ?_
    refine hif_ne (tgt := 20) C dX5_refusalForPlace_12 (by decide) h (fun h => ?_) (fun h => ?_)
    · refine lv_bipush hx hb dX5_refusalForPlace_20 cb_m12 ?_
      exact h_iret_o C hr hI h dX5_refusalForPlace_22
    · refine lv_bipush hx hb dX5_refusalForPlace_15 cb_m11 ?_
      refine lv_goto (tgt := 22) hx hb dX5_refusalForPlace_17 (by decide) ?_
      exact h_iret_o C hr hI h dX5_refusalForPlace_22
set_option maxRecDepth 100000 in
set_option maxHeartbeats 4000000 in
theorem w_X5_setCell_106 {p : Program} {l : Launch} {e : Env} {s : State} {m : MethodId} {args : Array Value} {below : List Frame} {meth : Method} {c : Code} {D : va_G} {t : gT} {ad z : Nat → Nat} (C : gC p s m args meth c cX5_setCell 4 "NineKeysRound$Shelf" D t shX ad z) (hr : meth.sig.returnType = none) {kS : Nat} (h_kS : shX[kS]? = some (.inr (.inl (5, [some (kS + 1), none, none, none, none])))) (h_kS1 : shX[kS + 1]? = some (.inl (1, 60))) {r : gS} : ∀ (s0 : Int64) (s1 : Int32) (σ : gS) (H : Heap) (locs : List Loc) (ls : Array Slot), f_X5_setCell_106 kS s0 s1 σ = some r → gI shX t ad D s.heap σ H locs → lv_has ls 4 [] → W p l e (gR 1 60) s m args below meth c H locs 0 0 (MQ below (gQv shX t ad D r) args s 0 0 (gA shX ad)) (F0 m 106 ls [.long s0, .int s1, .ref (ad (kS + 1))]) := by
  have hx := C.1
  have hb := C.2.1
  intro s0 s1 σ H locs ls  h hI hl
  unfold f_X5_setCell_106 at h
  refine gx_last C hI h_kS1 h dX5_setCell_106 (fun H locs h hI => ?_)
  refine gx_st h hI (fun s1 h hI => ?_)
  refine lv_goto (tgt := 117) hx hb dX5_setCell_107 (by decide) ?_
  exact h_vret_w C hr hI h dX5_setCell_117
set_option maxRecDepth 100000 in
set_option maxHeartbeats 4000000 in
theorem w_X5_setCell_110 {p : Program} {l : Launch} {e : Env} {s : State} {m : MethodId} {args : Array Value} {below : List Frame} {meth : Method} {c : Code} {D : va_G} {t : gT} {ad z : Nat → Nat} (C : gC p s m args meth c cX5_setCell 4 "NineKeysRound$Shelf" D t shX ad z) (hr : meth.sig.returnType = none) {kS : Nat} (h_kS : shX[kS]? = some (.inr (.inl (5, [some (kS + 1), none, none, none, none])))) (h_kS1 : shX[kS + 1]? = some (.inl (1, 60))) {r : gS} : ∀ (x1 : Int32) (x2 : Int64) (σ : gS) (H : Heap) (locs : List Loc) (ls : Array Slot), f_X5_setCell_110 kS x1 x2 σ = some r → gI shX t ad D s.heap σ H locs → lv_has ls 4 [(0, .ref (ad kS)), (1, .int x1), (2, .long x2)] → W p l e (gR 1 60) s m args below meth c H locs 0 0 (MQ below (gQv shX t ad D r) args s 0 0 (gA shX ad)) (F0 m 110 ls []) := by
  have hx := C.1
  have hb := C.2.1
  intro x1 x2 σ H locs ls  h hI hl
  unfold f_X5_setCell_110 at h
  refine lv_aload_n hx hb dX5_setCell_110 rfl (lv_at hl 0 rfl) ?_
  refine fr_238 C hI h_kS rfl dX5_setCell_111 ?_
  refine lv_iload_n hx hb dX5_setCell_114 rfl (lv_at hl 1 rfl) ?_
  refine lv_lload_n hx hb dX5_setCell_115 rfl (lv_at hl 2 rfl) ?_
  refine gx_last C hI h_kS1 h dX5_setCell_116 (fun H locs h hI => ?_)
  refine gx_st h hI (fun s1 h hI => ?_)
  exact h_vret_w C hr hI h dX5_setCell_117
set_option maxRecDepth 100000 in
set_option maxHeartbeats 4000000 in
theorem c_X5_setCell (l : Launch) (D : va_G) (t : gT) (ad z : Nat → Nat) (hJ : gJ shX ad) (kS : Nat) (h_kS : shX[kS]? = some (.inr (.inl (5, [some (kS + 1), none, none, none, none])))) (h_kS1 : shX[kS + 1]? = some (.inl (1, 60))) (σ : gS) (x1 : Int32) (x2 : Int64) (q : gS) (h : f_X5_setCell σ kS x1 x2 = some q) : Met l yX5_setCell (Cond.code yX5_setCell cX5_setCell 4 (none) :: lw_tb) (gR 1 60) (gPc shX t ad D z [.ref (ad kS), .int x1, .long x2] σ) (gQv shX t ad D q) 0 0 (gA shX ad) := by
  refine gMet "NineKeysRound$Shelf" rfl (by decide) hJ (Nat.le_of_ble_eq_true rfl) ?_
  intro p e s m below meth c ls C hr hI hl
  have hx := C.1
  have hb := C.2.1
  have hl : lv_has ls 4 [(0, .ref (ad kS)), (1, .int x1), (2, .long x2)] := hl
  unfold f_X5_setCell at h
  refine lv_iload_n hx hb dX5_setCell_0 rfl (lv_at hl 1 rfl) ?_
  refine hif_lt (tgt := 12) C dX5_setCell_1 (by decide) h (fun h => ?_) (fun h => ?_)
  · exact h_vret_w C hr hI h dX5_setCell_12
  · refine lv_iload_n hx hb dX5_setCell_4 rfl (lv_at hl 1 rfl) ?_
    refine lv_aload_n hx hb dX5_setCell_5 rfl (lv_at hl 0 rfl) ?_
    refine fg_247 C hI h_kS rfl dX5_setCell_6 ?_
    refine hicmp_lt (tgt := 13) C dX5_setCell_9 (by decide) h (fun h => ?_) (fun h => ?_)
    · refine lv_aload_n hx hb dX5_setCell_13 rfl (lv_at hl 0 rfl) ?_
      refine fg_244 C hI h_kS rfl dX5_setCell_14 ?_
      refine gx_topi h (fun v1 h => ?_)
      by_cases hc_ : v1 = 0
      · rw [if_pos hc_] at h
        refine lv_tableIn (tgt := 52) (off := 35) hx hb dX5_setCell_17 (by rw [hc_]; decide) (by rw [hc_]; decide) (by rw [hc_]; rfl) (by decide) ?_
        refine lv_aload_n hx hb dX5_setCell_52 rfl (lv_at hl 0 rfl) ?_
        refine fr_238 C hI h_kS rfl dX5_setCell_53 ?_
        refine lv_iload_n hx hb dX5_setCell_56 rfl (lv_at hl 1 rfl) ?_
        refine lv_lload_n hx hb dX5_setCell_57 rfl (lv_at hl 2 rfl) ?_
        refine lv_l2i (v := ((x2 : Int64).toInt32)) hx hb dX5_setCell_58 rfl ?_
        refine lv_i2b (v := ((((x2 : Int64).toInt32) : Int32).toInt8.toInt32)) hx hb dX5_setCell_59 rfl ?_
        refine lv_i2l (v := ((((((x2 : Int64).toInt32) : Int32).toInt8.toInt32) : Int32).toInt64)) hx hb dX5_setCell_60 rfl ?_
        refine gx_last C hI h_kS1 h dX5_setCell_61 (fun H locs h hI => ?_)
        refine gx_st h hI (fun s2 h hI => ?_)
        refine lv_goto (tgt := 117) hx hb dX5_setCell_62 (by decide) ?_
        exact h_vret_w C hr hI h dX5_setCell_117
      · rw [if_neg hc_] at h
        have hn_0 := hc_
        by_cases hc_ : v1 = 1
        · rw [if_pos hc_] at h
          refine lv_tableIn (tgt := 65) (off := 48) hx hb dX5_setCell_17 (by rw [hc_]; decide) (by rw [hc_]; decide) (by rw [hc_]; rfl) (by decide) ?_
          refine lv_aload_n hx hb dX5_setCell_65 rfl (lv_at hl 0 rfl) ?_
          refine fr_238 C hI h_kS rfl dX5_setCell_66 ?_
          refine lv_iload_n hx hb dX5_setCell_69 rfl (lv_at hl 1 rfl) ?_
          refine lv_lload_n hx hb dX5_setCell_70 rfl (lv_at hl 2 rfl) ?_
          refine lv_l2i (v := ((x2 : Int64).toInt32)) hx hb dX5_setCell_71 rfl ?_
          refine lv_i2s (v := ((((x2 : Int64).toInt32) : Int32).toInt16.toInt32)) hx hb dX5_setCell_72 rfl ?_
          refine lv_i2l (v := ((((((x2 : Int64).toInt32) : Int32).toInt16.toInt32) : Int32).toInt64)) hx hb dX5_setCell_73 rfl ?_
          refine gx_last C hI h_kS1 h dX5_setCell_74 (fun H locs h hI => ?_)
          refine gx_st h hI (fun s3 h hI => ?_)
          refine lv_goto (tgt := 117) hx hb dX5_setCell_75 (by decide) ?_
          exact h_vret_w C hr hI h dX5_setCell_117
        · rw [if_neg hc_] at h
          have hn_1 := hc_
          by_cases hc_ : v1 = 2
          · rw [if_pos hc_] at h
            refine lv_tableIn (tgt := 78) (off := 61) hx hb dX5_setCell_17 (by rw [hc_]; decide) (by rw [hc_]; decide) (by rw [hc_]; rfl) (by decide) ?_
            refine lv_aload_n hx hb dX5_setCell_78 rfl (lv_at hl 0 rfl) ?_
            refine fr_238 C hI h_kS rfl dX5_setCell_79 ?_
            refine lv_iload_n hx hb dX5_setCell_82 rfl (lv_at hl 1 rfl) ?_
            refine lv_lload_n hx hb dX5_setCell_83 rfl (lv_at hl 2 rfl) ?_
            refine lv_l2i (v := ((x2 : Int64).toInt32)) hx hb dX5_setCell_84 rfl ?_
            refine lv_i2l (v := ((((x2 : Int64).toInt32) : Int32).toInt64)) hx hb dX5_setCell_85 rfl ?_
            refine gx_last C hI h_kS1 h dX5_setCell_86 (fun H locs h hI => ?_)
            refine gx_st h hI (fun s4 h hI => ?_)
            refine lv_goto (tgt := 117) hx hb dX5_setCell_87 (by decide) ?_
            exact h_vret_w C hr hI h dX5_setCell_117
          · rw [if_neg hc_] at h
            have hn_2 := hc_
            by_cases hc_ : v1 = 3
            · rw [if_pos hc_] at h
              refine lv_tableIn (tgt := 110) (off := 93) hx hb dX5_setCell_17 (by rw [hc_]; decide) (by rw [hc_]; decide) (by rw [hc_]; rfl) (by decide) ?_
              exact w_X5_setCell_110 C hr  h_kS h_kS1  _ _ _ _ _ _  h hI (lv_sub hl [0, 1, 2] rfl)
            · rw [if_neg hc_] at h
              have hn_3 := hc_
              by_cases hc_ : v1 = 4
              · rw [if_pos hc_] at h
                refine lv_tableIn (tgt := 90) (off := 73) hx hb dX5_setCell_17 (by rw [hc_]; decide) (by rw [hc_]; decide) (by rw [hc_]; rfl) (by decide) ?_
                refine lv_aload_n hx hb dX5_setCell_90 rfl (lv_at hl 0 rfl) ?_
                refine fr_238 C hI h_kS rfl dX5_setCell_91 ?_
                refine lv_iload_n hx hb dX5_setCell_94 rfl (lv_at hl 1 rfl) ?_
                refine lv_lload_n hx hb dX5_setCell_95 rfl (lv_at hl 2 rfl) ?_
                refine lv_lconst (v := 0) hx hb dX5_setCell_96 rfl ?_
                refine W.lcmp hx hb dX5_setCell_97 ?_
                refine hif_eq (tgt := 105) C dX5_setCell_98 (by decide) h (fun h => ?_) (fun h => ?_)
                · refine lv_lconst (v := 0) hx hb dX5_setCell_105 rfl ?_
                  exact w_X5_setCell_106 C hr  h_kS h_kS1  _ _ _ _ _ _  h hI (lv_sub hl [] rfl)
                · refine lv_lconst (v := 1) hx hb dX5_setCell_101 rfl ?_
                  refine lv_goto (tgt := 106) hx hb dX5_setCell_102 (by decide) ?_
                  exact w_X5_setCell_106 C hr  h_kS h_kS1  _ _ _ _ _ _  h hI (lv_sub hl [] rfl)
              · rw [if_neg hc_] at h
                have hn_4 := hc_
                have hout : v1.toInt < 0 ∨ 4 < v1.toInt := by
                  have e0 := tsne (c := 0) (z := 0) (by decide) hn_0
                  have e1 := tsne (c := 1) (z := 1) (by decide) hn_1
                  have e2 := tsne (c := 2) (z := 2) (by decide) hn_2
                  have e3 := tsne (c := 3) (z := 3) (by decide) hn_3
                  have e4 := tsne (c := 4) (z := 4) (by decide) hn_4
                  omega
                refine lv_tableOut (tgt := 110) hx hb dX5_setCell_17 hout (by decide) ?_
                exact w_X5_setCell_110 C hr  h_kS h_kS1  _ _ _ _ _ _  h hI (lv_sub hl [0, 1, 2] rfl)
    · exact h_vret_w C hr hI h dX5_setCell_12
