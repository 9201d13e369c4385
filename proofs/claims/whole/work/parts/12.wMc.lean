set_option maxRecDepth 100000 in
set_option maxHeartbeats 4000000 in
theorem w_X10_keep_40 {p : Program} {l : Launch} {e : Env} {s : State} {m : MethodId} {args : Array Value} {below : List Frame} {meth : Method} {c : Code} {D : va_G} {t : gT} {ad z : Nat → Nat} (C : gC p s m args meth c cX10_keep 3 "NineKeysRoundModel" D t shM ad z) (hr : meth.sig.returnType = some .int) {r : Int32 × gS} : ∀ (x1 : Int32) (s0 : Int32) (s1 : Int32) (σ : gS) (H : Heap) (locs : List Loc) (ls : Array Slot), f_X10_keep_40 x1 s0 s1 σ = some r → gI shM t ad D s.heap σ H locs → lv_has ls 3 [(0, .ref (ad 0)), (1, .int x1)] → W p l e (gR 3 102) s m args below meth c H locs 0 0 (MQ below (gQi shM t ad D r.1 r.2) args s 0 0 (gA shM ad)) (F0 m 40 ls [.int s0, .int s1, .ref (ad 24)]) := by
  have hx := C.1
  have hb := C.2.1
  intro x1 s0 s1 σ H locs ls  h hI hl
  unfold f_X10_keep_40 at h
  refine gx_iast C hI shM_24 h dX10_keep_40 (fun H locs h hI => ?_)
  refine gx_st h hI (fun s1 h hI => ?_)
  refine lv_aload_n hx hb dX10_keep_41 rfl (lv_at hl 0 rfl) ?_
  refine fr_1103 C hI shM_0 rfl dX10_keep_42 ?_
  refine lv_iload_n hx hb dX10_keep_45 rfl (lv_at hl 1 rfl) ?_
  refine lv_iconst hx hb dX10_keep_46 ci_0 ?_
  refine gx_iast C hI shM_25 h dX10_keep_47 (fun H locs h hI => ?_)
  refine gx_st h hI (fun s2 h hI => ?_)
  refine lv_iconst hx hb dX10_keep_48 ci_1 ?_
  exact h_iret_w C hr hI h dX10_keep_49
set_option maxRecDepth 100000 in
set_option maxHeartbeats 4000000 in
theorem c_X10_keep (l : Launch) (D : va_G) (t : gT) (ad z : Nat → Nat) (hJ : gJ shM ad) (σ : gS) (x1 : Int32) (x2 : Int32) (q : Int32 × gS) (h : f_X10_keep σ x1 x2 = some q) : Met l yX10_keep (Cond.code yX10_keep cX10_keep 3 (some .int) :: lw_tb) (gR 3 102) (gPc shM t ad D z [.ref (ad 0), .int x1, .int x2] σ) (gQi shM t ad D q.1 q.2) 0 0 (gA shM ad) := by
  refine gMet "NineKeysRoundModel" rfl (by decide) hJ (Nat.le_of_ble_eq_true rfl) ?_
  intro p e s m below meth c ls C hr hI hl
  have hx := C.1
  have hb := C.2.1
  have hl : lv_has ls 3 [(0, .ref (ad 0)), (1, .int x1), (2, .int x2)] := hl
  unfold f_X10_keep at h
  refine lv_iload_n hx hb dX10_keep_0 rfl (lv_at hl 1 rfl) ?_
  refine h_callsi_o (rest := []) C hI hl.1 ys_X10_isShelf k_1237 h (fun q hq => c_X10_isShelf l D t ad z C.2.2.2.2.2.2.1 (σ) x1 q hq) (As := [.int x1]) rfl rfl ⟨Nat.le_of_ble_eq_true rfl, Nat.le_of_ble_eq_true rfl⟩ (Nat.le_of_ble_eq_true rfl) dX10_keep_1 (fun q1 H locs h hI => ?_)
  refine hif_eq (tgt := 21) C dX10_keep_4 (by decide) h (fun h => ?_) (fun h => ?_)
  · refine lv_iconst hx hb dX10_keep_21 ci_m1 ?_
    exact h_iret_w C hr hI h dX10_keep_22
  · refine lv_iload_n hx hb dX10_keep_7 rfl (lv_at hl 2 rfl) ?_
    refine lv_iconst hx hb dX10_keep_8 ci_m1 ?_
    refine lv_aload_n hx hb dX10_keep_9 rfl (lv_at hl 0 rfl) ?_
    refine fg_1098 C hI shM_0 rfl dX10_keep_10 ?_
    refine lv_iconst hx hb dX10_keep_13 ci_1 ?_
    refine lv_isub hx hb dX10_keep_14 ?_
    refine h_callsi_o (rest := []) C hI hl.1 ys_X10_within k_1240 h (fun q hq => c_X10_within l D t ad z C.2.2.2.2.2.2.1 (σ) x2 (-1) ((σ.1 0 37) - 1) q hq) (As := [.int x2, .int (-1), .int ((σ.1 0 37) - 1)]) rfl rfl ⟨Nat.le_of_ble_eq_true rfl, Nat.le_of_ble_eq_true rfl⟩ (Nat.le_of_ble_eq_true rfl) dX10_keep_15 (fun q2 H locs h hI => ?_)
    refine hif_ne (tgt := 23) C dX10_keep_18 (by decide) h (fun h => ?_) (fun h => ?_)
    · refine lv_aload_n hx hb dX10_keep_23 rfl (lv_at hl 0 rfl) ?_
      refine fr_1102 C hI shM_0 rfl dX10_keep_24 ?_
      refine lv_iload_n hx hb dX10_keep_27 rfl (lv_at hl 1 rfl) ?_
      refine lv_iload_n hx hb dX10_keep_28 rfl (lv_at hl 2 rfl) ?_
      refine hif_ge (tgt := 36) C dX10_keep_29 (by decide) h (fun h => ?_) (fun h => ?_)
      · refine lv_bipush hx hb dX10_keep_36 cb_10 ?_
        refine lv_iload_n hx hb dX10_keep_38 rfl (lv_at hl 2 rfl) ?_
        refine lv_iadd hx hb dX10_keep_39 ?_
        exact w_X10_keep_40 C hr    _ _ _ _ _ _ _  h hI (lv_sub hl [0, 1] rfl)
      · refine lv_iconst hx hb dX10_keep_32 ci_m1 ?_
        refine lv_goto (tgt := 40) hx hb dX10_keep_33 (by decide) ?_
        exact w_X10_keep_40 C hr    _ _ _ _ _ _ _  h hI (lv_sub hl [0, 1] rfl)
    · refine lv_iconst hx hb dX10_keep_21 ci_m1 ?_
      exact h_iret_w C hr hI h dX10_keep_22
set_option maxRecDepth 100000 in
set_option maxHeartbeats 4000000 in
theorem w_X10_row_48 {p : Program} {l : Launch} {e : Env} {s : State} {m : MethodId} {args : Array Value} {below : List Frame} {meth : Method} {c : Code} {D : va_G} {t : gT} {ad z : Nat → Nat} (C : gC p s m args meth c cX10_row 5 "NineKeysRoundModel" D t shM ad z) (hr : meth.sig.returnType = some .int) {r : Int32 × gS} : ∀ (n : Nat) (x1 : Int32) (x4 : Int32) (σ : gS) (H : Heap) (locs : List Loc) (ls : Array Slot), f_X10_row_48 n x1 x4 σ = some r → gI shM t ad D s.heap σ H locs → lv_has ls 5 [(0, .ref (ad 0)), (1, .int x1), (4, .int x4)] → W p l e (gR 3 102) s m args below meth c H locs 0 0 (MQ below (gQi shM t ad D r.1 r.2) args s 0 0 (gA shM ad)) (F0 m 48 ls []) := by
  have hx := C.1
  have hb := C.2.1
  intro n
  induction n with
  | zero =>
    intro x1 x4 σ H locs ls  h
    exact absurd h (by simp [f_X10_row_48])
  | succ n ih =>
    intro x1 x4 σ H locs ls  h hI hl
    unfold f_X10_row_48 at h
    refine lv_iload hx hb dX10_row_48 (lv_at hl 2 rfl) ?_
    refine lv_bipush hx hb dX10_row_50 cb_60 ?_
    refine hicmp_ge (tgt := 74) C dX10_row_52 (by decide) h (fun h => ?_) (fun h => ?_)
    · refine lv_iconst hx hb dX10_row_74 ci_1 ?_
      exact h_iret_w C hr hI h dX10_row_75
    · refine lv_aload_n hx hb dX10_row_55 rfl (lv_at hl 0 rfl) ?_
      refine fr_1104 C hI shM_0 rfl dX10_row_56 ?_
      refine lv_bipush hx hb dX10_row_59 cb_60 ?_
      refine lv_iload_n hx hb dX10_row_61 rfl (lv_at hl 1 rfl) ?_
      refine lv_imul hx hb dX10_row_62 ?_
      refine lv_iload hx hb dX10_row_63 (lv_at hl 2 rfl) ?_
      refine lv_iadd hx hb dX10_row_65 ?_
      refine lv_lconst (v := 0) hx hb dX10_row_66 rfl ?_
      refine gx_last C hI shM_26 h dX10_row_67 (fun H locs h hI => ?_)
      refine gx_st h hI (fun s1 h hI => ?_)
      refine h_iinc C hl dX10_row_68 2 rfl ci_1 h (by decide) (lvf := fun v2 => [(4, .int v2), (0, .ref (ad 0)), (1, .int x1)]) (fun _ => rfl) (fun v2 ls h hl => ?_)
      refine lv_goto (tgt := 48) hx hb dX10_row_71 (by decide) ?_
      exact ih _ _ _ _ _ _  h hI (lv_sub hl [1, 2, 0] rfl)
set_option maxRecDepth 100000 in
set_option maxHeartbeats 4000000 in
theorem c_X10_row (l : Launch) (D : va_G) (t : gT) (ad z : Nat → Nat) (hJ : gJ shM ad) (σ : gS) (x1 : Int32) (x2 : Int32) (x3 : Int32) (q : Int32 × gS) (h : f_X10_row σ x1 x2 x3 = some q) : Met l yX10_row (Cond.code yX10_row cX10_row 5 (some .int) :: lw_tb) (gR 3 102) (gPc shM t ad D z [.ref (ad 0), .int x1, .int x2, .int x3] σ) (gQi shM t ad D q.1 q.2) 0 0 (gA shM ad) := by
  refine gMet "NineKeysRoundModel" rfl (by decide) hJ (Nat.le_of_ble_eq_true rfl) ?_
  intro p e s m below meth c ls C hr hI hl
  have hx := C.1
  have hb := C.2.1
  have hl : lv_has ls 5 [(0, .ref (ad 0)), (1, .int x1), (2, .int x2), (3, .int x3)] := hl
  unfold f_X10_row at h
  refine lv_iload_n hx hb dX10_row_0 rfl (lv_at hl 1 rfl) ?_
  refine h_callsi_o (rest := []) C hI hl.1 ys_X10_isShelf k_1237 h (fun q hq => c_X10_isShelf l D t ad z C.2.2.2.2.2.2.1 (σ) x1 q hq) (As := [.int x1]) rfl rfl ⟨Nat.le_of_ble_eq_true rfl, Nat.le_of_ble_eq_true rfl⟩ (Nat.le_of_ble_eq_true rfl) dX10_row_1 (fun q1 H locs h hI => ?_)
  refine hif_eq (tgt := 22) C dX10_row_4 (by decide) h (fun h => ?_) (fun h => ?_)
  · refine lv_iconst hx hb dX10_row_22 ci_m1 ?_
    exact h_iret_w C hr hI h dX10_row_23
  · refine lv_iload_n hx hb dX10_row_7 rfl (lv_at hl 2 rfl) ?_
    refine lv_iconst hx hb dX10_row_8 ci_0 ?_
    refine lv_iconst hx hb dX10_row_9 ci_4 ?_
    refine h_callsi_o (rest := []) C hI hl.1 ys_X10_within k_1240 h (fun q hq => c_X10_within l D t ad z C.2.2.2.2.2.2.1 (σ) x2 0 4 q hq) (As := [.int x2, .int 0, .int 4]) rfl rfl ⟨Nat.le_of_ble_eq_true rfl, Nat.le_of_ble_eq_true rfl⟩ (Nat.le_of_ble_eq_true rfl) dX10_row_10 (fun q2 H locs h hI => ?_)
    refine hif_eq (tgt := 22) C dX10_row_13 (by decide) h (fun h => ?_) (fun h => ?_)
    · refine lv_iconst hx hb dX10_row_22 ci_m1 ?_
      exact h_iret_w C hr hI h dX10_row_23
    · refine lv_iload_n hx hb dX10_row_16 rfl (lv_at hl 3 rfl) ?_
      refine lv_bipush hx hb dX10_row_17 cb_60 ?_
      refine hicmp_le (tgt := 24) C dX10_row_19 (by decide) h (fun h => ?_) (fun h => ?_)
      · refine lv_iload_n hx hb dX10_row_24 rfl (lv_at hl 3 rfl) ?_
        refine hif_ge (tgt := 31) C dX10_row_25 (by decide) h (fun h => ?_) (fun h => ?_)
        · refine lv_aload_n hx hb dX10_row_31 rfl (lv_at hl 0 rfl) ?_
          refine fr_1102 C hI shM_0 rfl dX10_row_32 ?_
          refine lv_iload_n hx hb dX10_row_35 rfl (lv_at hl 1 rfl) ?_
          refine lv_iload_n hx hb dX10_row_36 rfl (lv_at hl 2 rfl) ?_
          refine gx_iast C hI shM_24 h dX10_row_37 (fun H locs h hI => ?_)
          refine gx_st h hI (fun s3 h hI => ?_)
          refine lv_aload_n hx hb dX10_row_38 rfl (lv_at hl 0 rfl) ?_
          refine fr_1103 C hI shM_0 rfl dX10_row_39 ?_
          refine lv_iload_n hx hb dX10_row_42 rfl (lv_at hl 1 rfl) ?_
          refine lv_iload_n hx hb dX10_row_43 rfl (lv_at hl 3 rfl) ?_
          refine gx_iast C hI shM_25 h dX10_row_44 (fun H locs h hI => ?_)
          refine gx_st h hI (fun s4 h hI => ?_)
          refine lv_iconst hx hb dX10_row_45 ci_0 ?_
          refine lv_istore (lv' := [(4, .int 0), (0, .ref (ad 0)), (1, .int x1), (2, .int x2), (3, .int x3)]) hx hb dX10_row_46 hl (by decide) rfl (fun ls hl => ?_)
          exact w_X10_row_48 C hr    _ _ _ _ _ _ _  h hI (lv_sub hl [1, 2, 0] rfl)
        · refine lv_bipush hx hb dX10_row_28 cb_m14 ?_
          exact h_iret_w C hr hI h dX10_row_30
      · refine lv_iconst hx hb dX10_row_22 ci_m1 ?_
        exact h_iret_w C hr hI h dX10_row_23
set_option maxRecDepth 100000 in
set_option maxHeartbeats 4000000 in
theorem c_X10_isRow (l : Launch) (D : va_G) (t : gT) (ad z : Nat → Nat) (hJ : gJ shM ad) (σ : gS) (x1 : Int32) (q : Int32) (h : f_X10_isRow σ x1 = some q) : Met l yX10_isRow (Cond.code yX10_isRow cX10_isRow 2 (some .boolean) :: lw_tb) (gR 2 82) (gPc shM t ad D z [.ref (ad 0), .int x1] σ) (gQi shM t ad D q σ) 0 0 (gA shM ad) := by
  refine gMet "NineKeysRoundModel" rfl (by decide) hJ (Nat.le_of_ble_eq_true rfl) ?_
  intro p e s m below meth c ls C hr hI hl
  have hx := C.1
  have hb := C.2.1
  have hl : lv_has ls 2 [(0, .ref (ad 0)), (1, .int x1)] := hl
  unfold f_X10_isRow at h
  refine lv_aload_n hx hb dX10_isRow_0 rfl (lv_at hl 0 rfl) ?_
  refine fr_1102 C hI shM_0 rfl dX10_isRow_1 ?_
  refine lv_iload_n hx hb dX10_isRow_4 rfl (lv_at hl 1 rfl) ?_
  refine gx_iald C hI shM_24 h dX10_isRow_5 (fun h => ?_)
  refine lv_iconst hx hb dX10_isRow_6 ci_0 ?_
  refine lv_iconst hx hb dX10_isRow_7 ci_4 ?_
  refine h_callsi_o (rest := []) C hI hl.1 ys_X10_within k_1240 h (fun q hq => c_X10_within l D t ad z C.2.2.2.2.2.2.1 (σ) (σ.1 24 (x1).toNatClampNeg) 0 4 q hq) (As := [.int (σ.1 24 (x1).toNatClampNeg), .int 0, .int 4]) rfl rfl ⟨Nat.le_of_ble_eq_true rfl, Nat.le_of_ble_eq_true rfl⟩ (Nat.le_of_ble_eq_true rfl) dX10_isRow_8 (fun q1 H locs h hI => ?_)
  exact h_zret_o C hr hI h dX10_isRow_11
set_option maxRecDepth 100000 in
set_option maxHeartbeats 4000000 in
theorem c_X10_kept (l : Launch) (D : va_G) (t : gT) (ad z : Nat → Nat) (hJ : gJ shM ad) (σ : gS) (x0 : Int32) (x1 : Int64) (q : Int64) (h : f_X10_kept σ x0 x1 = some q) : Met l yX10_kept (Cond.code yX10_kept cX10_kept 3 (some .long) :: lw_tb) (gR 1 60) (gPc shM t ad D z [.int x0, .long x1] σ) (gQl shM t ad D q σ) 0 0 (gA shM ad) := by
  refine gMet "NineKeysRoundModel" rfl (by decide) hJ (Nat.le_of_ble_eq_true rfl) ?_
  intro p e s m below meth c ls C hr hI hl
  have hx := C.1
  have hb := C.2.1
  have hl : lv_has ls 3 [(0, .int x0), (1, .long x1)] := hl
  unfold f_X10_kept at h
  refine lv_iload_n hx hb dX10_kept_0 rfl (lv_at hl 0 rfl) ?_
  by_cases hc_ : x0 = 0
  · rw [if_pos hc_] at h
    refine lv_tableIn (tgt := 32) (off := 31) hx hb dX10_kept_1 (by rw [hc_]; decide) (by rw [hc_]; decide) (by rw [hc_]; rfl) (by decide) ?_
    refine lv_lload_n hx hb dX10_kept_32 rfl (lv_at hl 1 rfl) ?_
    refine lv_l2i (v := ((x1 : Int64).toInt32)) hx hb dX10_kept_33 rfl ?_
    refine lv_i2b (v := ((((x1 : Int64).toInt32) : Int32).toInt8.toInt32)) hx hb dX10_kept_34 rfl ?_
    refine lv_i2l (v := ((((((x1 : Int64).toInt32) : Int32).toInt8.toInt32) : Int32).toInt64)) hx hb dX10_kept_35 rfl ?_
    exact h_lret_o C hr hI h dX10_kept_36
  · rw [if_neg hc_] at h
    have hn_0 := hc_
    by_cases hc_ : x0 = 1
    · rw [if_pos hc_] at h
      refine lv_tableIn (tgt := 37) (off := 36) hx hb dX10_kept_1 (by rw [hc_]; decide) (by rw [hc_]; decide) (by rw [hc_]; rfl) (by decide) ?_
      refine lv_lload_n hx hb dX10_kept_37 rfl (lv_at hl 1 rfl) ?_
      refine lv_l2i (v := ((x1 : Int64).toInt32)) hx hb dX10_kept_38 rfl ?_
      refine lv_i2s (v := ((((x1 : Int64).toInt32) : Int32).toInt16.toInt32)) hx hb dX10_kept_39 rfl ?_
      refine lv_i2l (v := ((((((x1 : Int64).toInt32) : Int32).toInt16.toInt32) : Int32).toInt64)) hx hb dX10_kept_40 rfl ?_
      exact h_lret_o C hr hI h dX10_kept_41
    · rw [if_neg hc_] at h
      have hn_1 := hc_
      by_cases hc_ : x0 = 2
      · rw [if_pos hc_] at h
        refine lv_tableIn (tgt := 42) (off := 41) hx hb dX10_kept_1 (by rw [hc_]; decide) (by rw [hc_]; decide) (by rw [hc_]; rfl) (by decide) ?_
        refine lv_lload_n hx hb dX10_kept_42 rfl (lv_at hl 1 rfl) ?_
        refine lv_l2i (v := ((x1 : Int64).toInt32)) hx hb dX10_kept_43 rfl ?_
        refine lv_i2l (v := ((((x1 : Int64).toInt32) : Int32).toInt64)) hx hb dX10_kept_44 rfl ?_
        exact h_lret_o C hr hI h dX10_kept_45
      · rw [if_neg hc_] at h
        have hn_2 := hc_
        by_cases hc_ : x0 = 3
        · rw [if_pos hc_] at h
          refine lv_tableIn (tgt := 46) (off := 45) hx hb dX10_kept_1 (by rw [hc_]; decide) (by rw [hc_]; decide) (by rw [hc_]; rfl) (by decide) ?_
          refine lv_lload_n hx hb dX10_kept_46 rfl (lv_at hl 1 rfl) ?_
          exact h_lret_o C hr hI h dX10_kept_47
        · rw [if_neg hc_] at h
          have hn_3 := hc_
          have hout : x0.toInt < 0 ∨ 3 < x0.toInt := by
            have e0 := tsne (c := 0) (z := 0) (by decide) hn_0
            have e1 := tsne (c := 1) (z := 1) (by decide) hn_1
            have e2 := tsne (c := 2) (z := 2) (by decide) hn_2
            have e3 := tsne (c := 3) (z := 3) (by decide) hn_3
            omega
          refine lv_tableOut (tgt := 48) hx hb dX10_kept_1 hout (by decide) ?_
          refine lv_lload_n hx hb dX10_kept_48 rfl (lv_at hl 1 rfl) ?_
          refine lv_lconst (v := 0) hx hb dX10_kept_49 rfl ?_
          refine W.lcmp hx hb dX10_kept_50 ?_
          refine hif_eq (tgt := 58) C dX10_kept_51 (by decide) h (fun h => ?_) (fun h => ?_)
          · refine lv_lconst (v := 0) hx hb dX10_kept_58 rfl ?_
            exact h_lret_o C hr hI h dX10_kept_59
          · refine lv_lconst (v := 1) hx hb dX10_kept_54 rfl ?_
            refine lv_goto (tgt := 59) hx hb dX10_kept_55 (by decide) ?_
            exact h_lret_o C hr hI h dX10_kept_59
set_option maxRecDepth 100000 in
set_option maxHeartbeats 4000000 in
theorem c_X10_put (l : Launch) (D : va_G) (t : gT) (ad z : Nat → Nat) (hJ : gJ shM ad) (σ : gS) (x1 : Int32) (x2 : Int32) (x3 : Int64) (q : Int32 × gS) (h : f_X10_put σ x1 x2 x3 = some q) : Met l yX10_put (Cond.code yX10_put cX10_put 5 (some .int) :: lw_tb) (gR 3 103) (gPc shM t ad D z [.ref (ad 0), .int x1, .int x2, .long x3] σ) (gQi shM t ad D q.1 q.2) 0 0 (gA shM ad) := by
  refine gMet "NineKeysRoundModel" rfl (by decide) hJ (Nat.le_of_ble_eq_true rfl) ?_
  intro p e s m below meth c ls C hr hI hl
  have hx := C.1
  have hb := C.2.1
  have hl : lv_has ls 5 [(0, .ref (ad 0)), (1, .int x1), (2, .int x2), (3, .long x3)] := hl
  unfold f_X10_put at h
  refine lv_iload_n hx hb dX10_put_0 rfl (lv_at hl 1 rfl) ?_
  refine h_callsi_o (rest := []) C hI hl.1 ys_X10_isShelf k_1237 h (fun q hq => c_X10_isShelf l D t ad z C.2.2.2.2.2.2.1 (σ) x1 q hq) (As := [.int x1]) rfl rfl ⟨Nat.le_of_ble_eq_true rfl, Nat.le_of_ble_eq_true rfl⟩ (Nat.le_of_ble_eq_true rfl) dX10_put_1 (fun q1 H locs h hI => ?_)
  refine hif_ne (tgt := 9) C dX10_put_4 (by decide) h (fun h => ?_) (fun h => ?_)
  · refine lv_aload_n hx hb dX10_put_9 rfl (lv_at hl 0 rfl) ?_
    refine fr_1102 C hI shM_0 rfl dX10_put_10 ?_
    refine lv_iload_n hx hb dX10_put_13 rfl (lv_at hl 1 rfl) ?_
    refine gx_iald C hI shM_24 h dX10_put_14 (fun h => ?_)
    refine lv_iconst hx hb dX10_put_15 ci_m1 ?_
    refine hicmp_ne (tgt := 22) C dX10_put_16 (by decide) h (fun h => ?_) (fun h => ?_)
    · refine lv_aload_n hx hb dX10_put_22 rfl (lv_at hl 0 rfl) ?_
      refine lv_iload_n hx hb dX10_put_23 rfl (lv_at hl 1 rfl) ?_
      refine h_callvi_o (rest := []) C hI hl.1 shM_0 rfl yv_X10_isRow k_1631 h (fun q hq => c_X10_isRow l D t ad z C.2.2.2.2.2.2.1 (σ) x1 q hq) (As := [.int x1]) rfl rfl ⟨Nat.le_of_ble_eq_true rfl, Nat.le_of_ble_eq_true rfl⟩ (Nat.le_of_ble_eq_true rfl) dX10_put_24 (fun q2 H locs h hI => ?_)
      refine hif_ne (tgt := 33) C dX10_put_27 (by decide) h (fun h => ?_) (fun h => ?_)
      · refine lv_iload_n hx hb dX10_put_33 rfl (lv_at hl 2 rfl) ?_
        refine lv_iconst hx hb dX10_put_34 ci_0 ?_
        refine lv_aload_n hx hb dX10_put_35 rfl (lv_at hl 0 rfl) ?_
        refine fr_1103 C hI shM_0 rfl dX10_put_36 ?_
        refine lv_iload_n hx hb dX10_put_39 rfl (lv_at hl 1 rfl) ?_
        refine gx_iald C hI shM_25 h dX10_put_40 (fun h => ?_)
        refine lv_iconst hx hb dX10_put_41 ci_1 ?_
        refine lv_isub hx hb dX10_put_42 ?_
        refine h_callsi_o (rest := []) C hI hl.1 ys_X10_within k_1240 h (fun q hq => c_X10_within l D t ad z C.2.2.2.2.2.2.1 (σ) x2 0 ((σ.1 25 (x1).toNatClampNeg) - 1) q hq) (As := [.int x2, .int 0, .int ((σ.1 25 (x1).toNatClampNeg) - 1)]) rfl rfl ⟨Nat.le_of_ble_eq_true rfl, Nat.le_of_ble_eq_true rfl⟩ (Nat.le_of_ble_eq_true rfl) dX10_put_43 (fun q3 H locs h hI => ?_)
        refine hif_ne (tgt := 52) C dX10_put_46 (by decide) h (fun h => ?_) (fun h => ?_)
        · refine lv_aload_n hx hb dX10_put_52 rfl (lv_at hl 0 rfl) ?_
          refine fr_1104 C hI shM_0 rfl dX10_put_53 ?_
          refine lv_bipush hx hb dX10_put_56 cb_60 ?_
          refine lv_iload_n hx hb dX10_put_58 rfl (lv_at hl 1 rfl) ?_
          refine lv_imul hx hb dX10_put_59 ?_
          refine lv_iload_n hx hb dX10_put_60 rfl (lv_at hl 2 rfl) ?_
          refine lv_iadd hx hb dX10_put_61 ?_
          refine lv_aload_n hx hb dX10_put_62 rfl (lv_at hl 0 rfl) ?_
          refine fr_1102 C hI shM_0 rfl dX10_put_63 ?_
          refine lv_iload_n hx hb dX10_put_66 rfl (lv_at hl 1 rfl) ?_
          refine gx_iald C hI shM_24 h dX10_put_67 (fun h => ?_)
          refine lv_lload_n hx hb dX10_put_68 rfl (lv_at hl 3 rfl) ?_
          refine h_callsl_o (rest := [.int ((60 * x1) + x2), .ref (ad 26)]) C hI hl.1 ys_X10_kept k_1635 h (fun q hq => c_X10_kept l D t ad z C.2.2.2.2.2.2.1 (σ) (σ.1 24 (x1).toNatClampNeg) x3 q hq) (As := [.int (σ.1 24 (x1).toNatClampNeg), .long x3]) rfl rfl ⟨Nat.le_of_ble_eq_true rfl, Nat.le_of_ble_eq_true rfl⟩ (Nat.le_of_ble_eq_true rfl) dX10_put_69 (fun q4 H locs h hI => ?_)
          refine gx_last C hI shM_26 h dX10_put_72 (fun H locs h hI => ?_)
          refine gx_st h hI (fun s5 h hI => ?_)
          refine lv_iconst hx hb dX10_put_73 ci_1 ?_
          exact h_iret_w C hr hI h dX10_put_74
        · refine lv_bipush hx hb dX10_put_49 cb_m13 ?_
          exact h_iret_w C hr hI h dX10_put_51
      · refine lv_bipush hx hb dX10_put_30 cb_m12 ?_
        exact h_iret_w C hr hI h dX10_put_32
    · refine lv_bipush hx hb dX10_put_19 cb_m11 ?_
      exact h_iret_w C hr hI h dX10_put_21
  · refine lv_iconst hx hb dX10_put_7 ci_m1 ?_
    exact h_iret_w C hr hI h dX10_put_8
set_option maxRecDepth 100000 in
set_option maxHeartbeats 4000000 in
theorem c_X10_element (l : Launch) (D : va_G) (t : gT) (ad z : Nat → Nat) (hJ : gJ shM ad) (σ : gS) (x1 : Int32) (x2 : Int32) (q : Int64) (h : f_X10_element σ x1 x2 = some q) : Met l yX10_element (Cond.code yX10_element cX10_element 3 (some .long) :: lw_tb) (gR 3 103) (gPc shM t ad D z [.ref (ad 0), .int x1, .int x2] σ) (gQl shM t ad D q σ) 0 0 (gA shM ad) := by
  refine gMet "NineKeysRoundModel" rfl (by decide) hJ (Nat.le_of_ble_eq_true rfl) ?_
  intro p e s m below meth c ls C hr hI hl
  have hx := C.1
  have hb := C.2.1
  have hl : lv_has ls 3 [(0, .ref (ad 0)), (1, .int x1), (2, .int x2)] := hl
  unfold f_X10_element at h
  refine lv_iload_n hx hb dX10_element_0 rfl (lv_at hl 1 rfl) ?_
  refine h_callsi_o (rest := []) C hI hl.1 ys_X10_isShelf k_1237 h (fun q hq => c_X10_isShelf l D t ad z C.2.2.2.2.2.2.1 (σ) x1 q hq) (As := [.int x1]) rfl rfl ⟨Nat.le_of_ble_eq_true rfl, Nat.le_of_ble_eq_true rfl⟩ (Nat.le_of_ble_eq_true rfl) dX10_element_1 (fun q1 H locs h hI => ?_)
  refine hif_eq (tgt := 45) C dX10_element_4 (by decide) h (fun h => ?_) (fun h => ?_)
  · refine lv_ldc2 hx hb C.2.2.2.1 (C.2.2.2.2.1 _ k_1642) dX10_element_45 ?_
    exact h_lret_o C hr hI h dX10_element_48
  · refine lv_aload_n hx hb dX10_element_7 rfl (lv_at hl 0 rfl) ?_
    refine lv_iload_n hx hb dX10_element_8 rfl (lv_at hl 1 rfl) ?_
    refine h_callvi_o (rest := []) C hI hl.1 shM_0 rfl yv_X10_isRow k_1631 h (fun q hq => c_X10_isRow l D t ad z C.2.2.2.2.2.2.1 (σ) x1 q hq) (As := [.int x1]) rfl rfl ⟨Nat.le_of_ble_eq_true rfl, Nat.le_of_ble_eq_true rfl⟩ (Nat.le_of_ble_eq_true rfl) dX10_element_9 (fun q2 H locs h hI => ?_)
    refine hif_eq (tgt := 45) C dX10_element_12 (by decide) h (fun h => ?_) (fun h => ?_)
    · refine lv_ldc2 hx hb C.2.2.2.1 (C.2.2.2.2.1 _ k_1642) dX10_element_45 ?_
      exact h_lret_o C hr hI h dX10_element_48
    · refine lv_iload_n hx hb dX10_element_15 rfl (lv_at hl 2 rfl) ?_
      refine lv_iconst hx hb dX10_element_16 ci_0 ?_
      refine lv_aload_n hx hb dX10_element_17 rfl (lv_at hl 0 rfl) ?_
      refine fr_1103 C hI shM_0 rfl dX10_element_18 ?_
      refine lv_iload_n hx hb dX10_element_21 rfl (lv_at hl 1 rfl) ?_
      refine gx_iald C hI shM_25 h dX10_element_22 (fun h => ?_)
      refine lv_iconst hx hb dX10_element_23 ci_1 ?_
      refine lv_isub hx hb dX10_element_24 ?_
      refine h_callsi_o (rest := []) C hI hl.1 ys_X10_within k_1240 h (fun q hq => c_X10_within l D t ad z C.2.2.2.2.2.2.1 (σ) x2 0 ((σ.1 25 (x1).toNatClampNeg) - 1) q hq) (As := [.int x2, .int 0, .int ((σ.1 25 (x1).toNatClampNeg) - 1)]) rfl rfl ⟨Nat.le_of_ble_eq_true rfl, Nat.le_of_ble_eq_true rfl⟩ (Nat.le_of_ble_eq_true rfl) dX10_element_25 (fun q3 H locs h hI => ?_)
      refine hif_eq (tgt := 45) C dX10_element_28 (by decide) h (fun h => ?_) (fun h => ?_)
      · refine lv_ldc2 hx hb C.2.2.2.1 (C.2.2.2.2.1 _ k_1642) dX10_element_45 ?_
        exact h_lret_o C hr hI h dX10_element_48
      · refine lv_aload_n hx hb dX10_element_31 rfl (lv_at hl 0 rfl) ?_
        refine fr_1104 C hI shM_0 rfl dX10_element_32 ?_
        refine lv_bipush hx hb dX10_element_35 cb_60 ?_
        refine lv_iload_n hx hb dX10_element_37 rfl (lv_at hl 1 rfl) ?_
        refine lv_imul hx hb dX10_element_38 ?_
        refine lv_iload_n hx hb dX10_element_39 rfl (lv_at hl 2 rfl) ?_
        refine lv_iadd hx hb dX10_element_40 ?_
        refine gx_lald C hI shM_26 h dX10_element_41 (fun h => ?_)
        refine lv_goto (tgt := 48) hx hb dX10_element_42 (by decide) ?_
        exact h_lret_o C hr hI h dX10_element_48
set_option maxRecDepth 100000 in
set_option maxHeartbeats 4000000 in
theorem w_X10_shift_142 {p : Program} {l : Launch} {e : Env} {s : State} {m : MethodId} {args : Array Value} {below : List Frame} {meth : Method} {c : Code} {D : va_G} {t : gT} {ad z : Nat → Nat} (C : gC p s m args meth c cX10_shift 7 "NineKeysRoundModel" D t shM ad z) (hr : meth.sig.returnType = some .int) {r : Int32 × gS} : ∀ (n : Nat) (x1 : Int32) (x2 : Int32) (x3 : Int32) (x4 : Int32) (x5 : Int32) (x6 : Int32) (σ : gS) (H : Heap) (locs : List Loc) (ls : Array Slot), f_X10_shift_142 n x1 x2 x3 x4 x5 x6 σ = some r → gI shM t ad D s.heap σ H locs → lv_has ls 7 [(0, .ref (ad 0)), (1, .int x1), (2, .int x2), (3, .int x3), (4, .int x4), (5, .int x5), (6, .int x6)] → W p l e (gR 3 103) s m args below meth c H locs 0 0 (MQ below (gQi shM t ad D r.1 r.2) args s 0 0 (gA shM ad)) (F0 m 142 ls []) := by
  have hx := C.1
  have hb := C.2.1
  intro n
  induction n with
  | zero =>
    intro x1 x2 x3 x4 x5 x6 σ H locs ls  h
    exact absurd h (by simp [f_X10_shift_142])
  | succ n ih =>
    intro x1 x2 x3 x4 x5 x6 σ H locs ls  h hI hl
    unfold f_X10_shift_142 at h
    refine lv_iload hx hb dX10_shift_142 (lv_at hl 6 rfl) ?_
    refine hif_lt (tgt := 182) C dX10_shift_144 (by decide) h (fun h => ?_) (fun h => ?_)
    · refine lv_goto (tgt := 230) hx hb dX10_shift_182 (by decide) ?_
      refine lv_iload hx hb dX10_shift_230 (lv_at hl 5 rfl) ?_
      exact h_iret_w C hr hI h dX10_shift_232
    · refine lv_aload_n hx hb dX10_shift_147 rfl (lv_at hl 0 rfl) ?_
      refine fr_1104 C hI shM_0 rfl dX10_shift_148 ?_
      refine lv_bipush hx hb dX10_shift_151 cb_60 ?_
      refine lv_iload_n hx hb dX10_shift_153 rfl (lv_at hl 3 rfl) ?_
      refine lv_imul hx hb dX10_shift_154 ?_
      refine lv_iload hx hb dX10_shift_155 (lv_at hl 4 rfl) ?_
      refine lv_iadd hx hb dX10_shift_157 ?_
      refine lv_iload hx hb dX10_shift_158 (lv_at hl 6 rfl) ?_
      refine lv_iadd hx hb dX10_shift_160 ?_
      refine lv_aload_n hx hb dX10_shift_161 rfl (lv_at hl 0 rfl) ?_
      refine fr_1104 C hI shM_0 rfl dX10_shift_162 ?_
      refine lv_bipush hx hb dX10_shift_165 cb_60 ?_
      refine lv_iload_n hx hb dX10_shift_167 rfl (lv_at hl 1 rfl) ?_
      refine lv_imul hx hb dX10_shift_168 ?_
      refine lv_iload_n hx hb dX10_shift_169 rfl (lv_at hl 2 rfl) ?_
      refine lv_iadd hx hb dX10_shift_170 ?_
      refine lv_iload hx hb dX10_shift_171 (lv_at hl 6 rfl) ?_
      refine lv_iadd hx hb dX10_shift_173 ?_
      refine gx_lald C hI shM_26 h dX10_shift_174 (fun h => ?_)
      refine gx_last C hI shM_26 h dX10_shift_175 (fun H locs h hI => ?_)
      refine gx_st h hI (fun s1 h hI => ?_)
      refine h_iinc C hl dX10_shift_176 6 rfl ci_m1 h (by decide) (lvf := fun v2 => [(6, .int v2), (0, .ref (ad 0)), (1, .int x1), (2, .int x2), (3, .int x3), (4, .int x4), (5, .int x5)]) (fun _ => rfl) (fun v2 ls h hl => ?_)
      refine lv_goto (tgt := 142) hx hb dX10_shift_179 (by decide) ?_
      exact ih _ _ _ _ _ _ _ _ _ _  h hI (lv_sub hl [1, 2, 3, 4, 5, 6, 0] rfl)
set_option maxRecDepth 100000 in
set_option maxHeartbeats 4000000 in
theorem w_X10_shift_188 {p : Program} {l : Launch} {e : Env} {s : State} {m : MethodId} {args : Array Value} {below : List Frame} {meth : Method} {c : Code} {D : va_G} {t : gT} {ad z : Nat → Nat} (C : gC p s m args meth c cX10_shift 7 "NineKeysRoundModel" D t shM ad z) (hr : meth.sig.returnType = some .int) {r : Int32 × gS} : ∀ (n : Nat) (x1 : Int32) (x2 : Int32) (x3 : Int32) (x4 : Int32) (x5 : Int32) (x6 : Int32) (σ : gS) (H : Heap) (locs : List Loc) (ls : Array Slot), f_X10_shift_188 n x1 x2 x3 x4 x5 x6 σ = some r → gI shM t ad D s.heap σ H locs → lv_has ls 7 [(0, .ref (ad 0)), (1, .int x1), (2, .int x2), (3, .int x3), (4, .int x4), (5, .int x5), (6, .int x6)] → W p l e (gR 3 103) s m args below meth c H locs 0 0 (MQ below (gQi shM t ad D r.1 r.2) args s 0 0 (gA shM ad)) (F0 m 188 ls []) := by
  have hx := C.1
  have hb := C.2.1
  intro n
  induction n with
  | zero =>
    intro x1 x2 x3 x4 x5 x6 σ H locs ls  h
    exact absurd h (by simp [f_X10_shift_188])
  | succ n ih =>
    intro x1 x2 x3 x4 x5 x6 σ H locs ls  h hI hl
    unfold f_X10_shift_188 at h
    refine lv_iload hx hb dX10_shift_188 (lv_at hl 6 rfl) ?_
    refine lv_iload hx hb dX10_shift_190 (lv_at hl 5 rfl) ?_
    refine hicmp_ge (tgt := 230) C dX10_shift_192 (by decide) h (fun h => ?_) (fun h => ?_)
    · refine lv_iload hx hb dX10_shift_230 (lv_at hl 5 rfl) ?_
      exact h_iret_w C hr hI h dX10_shift_232
    · refine lv_aload_n hx hb dX10_shift_195 rfl (lv_at hl 0 rfl) ?_
      refine fr_1104 C hI shM_0 rfl dX10_shift_196 ?_
      refine lv_bipush hx hb dX10_shift_199 cb_60 ?_
      refine lv_iload_n hx hb dX10_shift_201 rfl (lv_at hl 3 rfl) ?_
      refine lv_imul hx hb dX10_shift_202 ?_
      refine lv_iload hx hb dX10_shift_203 (lv_at hl 4 rfl) ?_
      refine lv_iadd hx hb dX10_shift_205 ?_
      refine lv_iload hx hb dX10_shift_206 (lv_at hl 6 rfl) ?_
      refine lv_iadd hx hb dX10_shift_208 ?_
      refine lv_aload_n hx hb dX10_shift_209 rfl (lv_at hl 0 rfl) ?_
      refine fr_1104 C hI shM_0 rfl dX10_shift_210 ?_
      refine lv_bipush hx hb dX10_shift_213 cb_60 ?_
      refine lv_iload_n hx hb dX10_shift_215 rfl (lv_at hl 1 rfl) ?_
      refine lv_imul hx hb dX10_shift_216 ?_
      refine lv_iload_n hx hb dX10_shift_217 rfl (lv_at hl 2 rfl) ?_
      refine lv_iadd hx hb dX10_shift_218 ?_
      refine lv_iload hx hb dX10_shift_219 (lv_at hl 6 rfl) ?_
      refine lv_iadd hx hb dX10_shift_221 ?_
      refine gx_lald C hI shM_26 h dX10_shift_222 (fun h => ?_)
      refine gx_last C hI shM_26 h dX10_shift_223 (fun H locs h hI => ?_)
      refine gx_st h hI (fun s1 h hI => ?_)
      refine h_iinc C hl dX10_shift_224 6 rfl ci_1 h (by decide) (lvf := fun v2 => [(6, .int v2), (0, .ref (ad 0)), (1, .int x1), (2, .int x2), (3, .int x3), (4, .int x4), (5, .int x5)]) (fun _ => rfl) (fun v2 ls h hl => ?_)
      refine lv_goto (tgt := 188) hx hb dX10_shift_227 (by decide) ?_
      exact ih _ _ _ _ _ _ _ _ _ _  h hI (lv_sub hl [1, 2, 3, 4, 5, 6, 0] rfl)
set_option maxRecDepth 100000 in
set_option maxHeartbeats 4000000 in
theorem c_X10_shift (l : Launch) (D : va_G) (t : gT) (ad z : Nat → Nat) (hJ : gJ shM ad) (σ : gS) (x1 : Int32) (x2 : Int32) (x3 : Int32) (x4 : Int32) (x5 : Int32) (q : Int32 × gS) (h : f_X10_shift σ x1 x2 x3 x4 x5 = some q) : Met l yX10_shift (Cond.code yX10_shift cX10_shift 7 (some .int) :: lw_tb) (gR 3 103) (gPc shM t ad D z [.ref (ad 0), .int x1, .int x2, .int x3, .int x4, .int x5] σ) (gQi shM t ad D q.1 q.2) 0 0 (gA shM ad) := by
  refine gMet "NineKeysRoundModel" rfl (by decide) hJ (Nat.le_of_ble_eq_true rfl) ?_
  intro p e s m below meth c ls C hr hI hl
  have hx := C.1
  have hb := C.2.1
  have hl : lv_has ls 7 [(0, .ref (ad 0)), (1, .int x1), (2, .int x2), (3, .int x3), (4, .int x4), (5, .int x5)] := hl
  unfold f_X10_shift at h
  refine lv_iload_n hx hb dX10_shift_0 rfl (lv_at hl 1 rfl) ?_
  refine h_callsi_o (rest := []) C hI hl.1 ys_X10_isShelf k_1237 h (fun q hq => c_X10_isShelf l D t ad z C.2.2.2.2.2.2.1 (σ) x1 q hq) (As := [.int x1]) rfl rfl ⟨Nat.le_of_ble_eq_true rfl, Nat.le_of_ble_eq_true rfl⟩ (Nat.le_of_ble_eq_true rfl) dX10_shift_1 (fun q1 H locs h hI => ?_)
  refine hif_eq (tgt := 14) C dX10_shift_4 (by decide) h (fun h => ?_) (fun h => ?_)
  · refine lv_iconst hx hb dX10_shift_14 ci_m1 ?_
    exact h_iret_w C hr hI h dX10_shift_15
  · refine lv_iload_n hx hb dX10_shift_7 rfl (lv_at hl 3 rfl) ?_
    refine h_callsi_o (rest := []) C hI hl.1 ys_X10_isShelf k_1237 h (fun q hq => c_X10_isShelf l D t ad z C.2.2.2.2.2.2.1 (σ) x3 q hq) (As := [.int x3]) rfl rfl ⟨Nat.le_of_ble_eq_true rfl, Nat.le_of_ble_eq_true rfl⟩ (Nat.le_of_ble_eq_true rfl) dX10_shift_8 (fun q2 H locs h hI => ?_)
    refine hif_ne (tgt := 16) C dX10_shift_11 (by decide) h (fun h => ?_) (fun h => ?_)
    · refine lv_aload_n hx hb dX10_shift_16 rfl (lv_at hl 0 rfl) ?_
      refine fr_1102 C hI shM_0 rfl dX10_shift_17 ?_
      refine lv_iload_n hx hb dX10_shift_20 rfl (lv_at hl 1 rfl) ?_
      refine gx_iald C hI shM_24 h dX10_shift_21 (fun h => ?_)
      refine lv_iconst hx hb dX10_shift_22 ci_m1 ?_
      refine hicmp_eq (tgt := 36) C dX10_shift_23 (by decide) h (fun h => ?_) (fun h => ?_)
      · refine lv_bipush hx hb dX10_shift_36 cb_m11 ?_
        exact h_iret_w C hr hI h dX10_shift_38
      · refine lv_aload_n hx hb dX10_shift_26 rfl (lv_at hl 0 rfl) ?_
        refine fr_1102 C hI shM_0 rfl dX10_shift_27 ?_
        refine lv_iload_n hx hb dX10_shift_30 rfl (lv_at hl 3 rfl) ?_
        refine gx_iald C hI shM_24 h dX10_shift_31 (fun h => ?_)
        refine lv_iconst hx hb dX10_shift_32 ci_m1 ?_
        refine hicmp_ne (tgt := 39) C dX10_shift_33 (by decide) h (fun h => ?_) (fun h => ?_)
        · refine lv_aload_n hx hb dX10_shift_39 rfl (lv_at hl 0 rfl) ?_
          refine lv_iload_n hx hb dX10_shift_40 rfl (lv_at hl 1 rfl) ?_
          refine h_callvi_o (rest := []) C hI hl.1 shM_0 rfl yv_X10_isRow k_1631 h (fun q hq => c_X10_isRow l D t ad z C.2.2.2.2.2.2.1 (σ) x1 q hq) (As := [.int x1]) rfl rfl ⟨Nat.le_of_ble_eq_true rfl, Nat.le_of_ble_eq_true rfl⟩ (Nat.le_of_ble_eq_true rfl) dX10_shift_41 (fun q3 H locs h hI => ?_)
          refine hif_eq (tgt := 70) C dX10_shift_44 (by decide) h (fun h => ?_) (fun h => ?_)
          · refine lv_bipush hx hb dX10_shift_70 cb_m12 ?_
            exact h_iret_w C hr hI h dX10_shift_72
          · refine lv_aload_n hx hb dX10_shift_47 rfl (lv_at hl 0 rfl) ?_
            refine lv_iload_n hx hb dX10_shift_48 rfl (lv_at hl 3 rfl) ?_
            refine h_callvi_o (rest := []) C hI hl.1 shM_0 rfl yv_X10_isRow k_1631 h (fun q hq => c_X10_isRow l D t ad z C.2.2.2.2.2.2.1 (σ) x3 q hq) (As := [.int x3]) rfl rfl ⟨Nat.le_of_ble_eq_true rfl, Nat.le_of_ble_eq_true rfl⟩ (Nat.le_of_ble_eq_true rfl) dX10_shift_49 (fun q4 H locs h hI => ?_)
            refine hif_eq (tgt := 70) C dX10_shift_52 (by decide) h (fun h => ?_) (fun h => ?_)
            · refine lv_bipush hx hb dX10_shift_70 cb_m12 ?_
              exact h_iret_w C hr hI h dX10_shift_72
            · refine lv_aload_n hx hb dX10_shift_55 rfl (lv_at hl 0 rfl) ?_
              refine fr_1102 C hI shM_0 rfl dX10_shift_56 ?_
              refine lv_iload_n hx hb dX10_shift_59 rfl (lv_at hl 1 rfl) ?_
              refine gx_iald C hI shM_24 h dX10_shift_60 (fun h => ?_)
              refine lv_aload_n hx hb dX10_shift_61 rfl (lv_at hl 0 rfl) ?_
              refine fr_1102 C hI shM_0 rfl dX10_shift_62 ?_
              refine lv_iload_n hx hb dX10_shift_65 rfl (lv_at hl 3 rfl) ?_
              refine gx_iald C hI shM_24 h dX10_shift_66 (fun h => ?_)
              refine hicmp_eq (tgt := 73) C dX10_shift_67 (by decide) h (fun h => ?_) (fun h => ?_)
              · refine lv_iload hx hb dX10_shift_73 (lv_at hl 5 rfl) ?_
                refine hif_lt (tgt := 122) C dX10_shift_75 (by decide) h (fun h => ?_) (fun h => ?_)
                · refine lv_bipush hx hb dX10_shift_122 cb_m13 ?_
                  exact h_iret_w C hr hI h dX10_shift_124
                · refine lv_iload_n hx hb dX10_shift_78 rfl (lv_at hl 2 rfl) ?_
                  refine hif_lt (tgt := 122) C dX10_shift_79 (by decide) h (fun h => ?_) (fun h => ?_)
                  · refine lv_bipush hx hb dX10_shift_122 cb_m13 ?_
                    exact h_iret_w C hr hI h dX10_shift_124
                  · refine lv_iload hx hb dX10_shift_82 (lv_at hl 4 rfl) ?_
                    refine hif_lt (tgt := 122) C dX10_shift_84 (by decide) h (fun h => ?_) (fun h => ?_)
                    · refine lv_bipush hx hb dX10_shift_122 cb_m13 ?_
                      exact h_iret_w C hr hI h dX10_shift_124
                    · refine lv_iload_n hx hb dX10_shift_87 rfl (lv_at hl 2 rfl) ?_
                      refine lv_i2l (v := ((x2 : Int32).toInt64)) hx hb dX10_shift_88 rfl ?_
                      refine lv_iload hx hb dX10_shift_89 (lv_at hl 5 rfl) ?_
                      refine lv_i2l (v := ((x5 : Int32).toInt64)) hx hb dX10_shift_91 rfl ?_
                      refine lv_ladd hx hb dX10_shift_92 ?_
                      refine lv_aload_n hx hb dX10_shift_93 rfl (lv_at hl 0 rfl) ?_
                      refine fr_1103 C hI shM_0 rfl dX10_shift_94 ?_
                      refine lv_iload_n hx hb dX10_shift_97 rfl (lv_at hl 1 rfl) ?_
                      refine gx_iald C hI shM_25 h dX10_shift_98 (fun h => ?_)
                      refine lv_i2l (v := (((σ.1 25 (x1).toNatClampNeg) : Int32).toInt64)) hx hb dX10_shift_99 rfl ?_
                      refine W.lcmp hx hb dX10_shift_100 ?_
                      refine hif_gt (tgt := 122) C dX10_shift_101 (by decide) h (fun h => ?_) (fun h => ?_)
                      · refine lv_bipush hx hb dX10_shift_122 cb_m13 ?_
                        exact h_iret_w C hr hI h dX10_shift_124
                      · refine lv_iload hx hb dX10_shift_104 (lv_at hl 4 rfl) ?_
                        refine lv_i2l (v := ((x4 : Int32).toInt64)) hx hb dX10_shift_106 rfl ?_
                        refine lv_iload hx hb dX10_shift_107 (lv_at hl 5 rfl) ?_
                        refine lv_i2l (v := ((x5 : Int32).toInt64)) hx hb dX10_shift_109 rfl ?_
                        refine lv_ladd hx hb dX10_shift_110 ?_
                        refine lv_aload_n hx hb dX10_shift_111 rfl (lv_at hl 0 rfl) ?_
                        refine fr_1103 C hI shM_0 rfl dX10_shift_112 ?_
                        refine lv_iload_n hx hb dX10_shift_115 rfl (lv_at hl 3 rfl) ?_
                        refine gx_iald C hI shM_25 h dX10_shift_116 (fun h => ?_)
                        refine lv_i2l (v := (((σ.1 25 (x3).toNatClampNeg) : Int32).toInt64)) hx hb dX10_shift_117 rfl ?_
                        refine W.lcmp hx hb dX10_shift_118 ?_
                        refine hif_le (tgt := 125) C dX10_shift_119 (by decide) h (fun h => ?_) (fun h => ?_)
                        · refine lv_iload_n hx hb dX10_shift_125 rfl (lv_at hl 1 rfl) ?_
                          refine lv_iload_n hx hb dX10_shift_126 rfl (lv_at hl 3 rfl) ?_
                          refine hicmp_ne (tgt := 185) C dX10_shift_127 (by decide) h (fun h => ?_) (fun h => ?_)
                          · refine lv_iconst hx hb dX10_shift_185 ci_0 ?_
                            refine lv_istore (lv' := [(6, .int 0), (0, .ref (ad 0)), (1, .int x1), (2, .int x2), (3, .int x3), (4, .int x4), (5, .int x5)]) hx hb dX10_shift_186 hl (by decide) rfl (fun ls hl => ?_)
                            exact w_X10_shift_188 C hr    _ _ _ _ _ _ _ _ _ _ _  h hI (lv_sub hl [1, 2, 3, 4, 5, 6, 0] rfl)
                          · refine lv_iload_n hx hb dX10_shift_130 rfl (lv_at hl 2 rfl) ?_
                            refine lv_iload hx hb dX10_shift_131 (lv_at hl 4 rfl) ?_
                            refine hicmp_ge (tgt := 185) C dX10_shift_133 (by decide) h (fun h => ?_) (fun h => ?_)
                            · refine lv_iconst hx hb dX10_shift_185 ci_0 ?_
                              refine lv_istore (lv' := [(6, .int 0), (0, .ref (ad 0)), (1, .int x1), (2, .int x2), (3, .int x3), (4, .int x4), (5, .int x5)]) hx hb dX10_shift_186 hl (by decide) rfl (fun ls hl => ?_)
                              exact w_X10_shift_188 C hr    _ _ _ _ _ _ _ _ _ _ _  h hI (lv_sub hl [1, 2, 3, 4, 5, 6, 0] rfl)
                            · refine lv_iload hx hb dX10_shift_136 (lv_at hl 5 rfl) ?_
                              refine lv_iconst hx hb dX10_shift_138 ci_1 ?_
                              refine lv_isub hx hb dX10_shift_139 ?_
                              refine gx_topi h (fun v5 h => ?_)
                              refine lv_istore (lv' := [(6, .int v5), (0, .ref (ad 0)), (1, .int x1), (2, .int x2), (3, .int x3), (4, .int x4), (5, .int x5)]) hx hb dX10_shift_140 hl (by decide) rfl (fun ls hl => ?_)
                              exact w_X10_shift_142 C hr    _ _ _ _ _ _ _ _ _ _ _  h hI (lv_sub hl [1, 2, 3, 4, 5, 6, 0] rfl)
                        · refine lv_bipush hx hb dX10_shift_122 cb_m13 ?_
                          exact h_iret_w C hr hI h dX10_shift_124
              · refine lv_bipush hx hb dX10_shift_70 cb_m12 ?_
                exact h_iret_w C hr hI h dX10_shift_72
        · refine lv_bipush hx hb dX10_shift_36 cb_m11 ?_
          exact h_iret_w C hr hI h dX10_shift_38
    · refine lv_iconst hx hb dX10_shift_14 ci_m1 ?_
      exact h_iret_w C hr hI h dX10_shift_15
set_option maxRecDepth 100000 in
set_option maxHeartbeats 4000000 in
theorem w_X10_taken_82 {p : Program} {l : Launch} {e : Env} {s : State} {m : MethodId} {args : Array Value} {below : List Frame} {meth : Method} {c : Code} {D : va_G} {t : gT} {ad z : Nat → Nat} {σ : gS} (C : gC p s m args meth c cX10_taken 5 "NineKeysRoundModel" D t shM ad z) (hr : meth.sig.returnType = some .int) {r : Int32} : ∀ (x2 : Int32) (x3 : Int32) (x4 : Int32) (H : Heap) (locs : List Loc) (ls : Array Slot), f_X10_taken_82 σ x2 x3 x4 = some r → gI shM t ad D s.heap σ H locs → lv_has ls 5 [(2, .int x2), (3, .int x3), (4, .int x4)] → W p l e (gR 3 103) s m args below meth c H locs 0 0 (MQ below (gQi shM t ad D r σ) args s 0 0 (gA shM ad)) (F0 m 82 ls []) := by
  have hx := C.1
  have hb := C.2.1
  intro x2 x3 x4 H locs ls  h hI hl
  unfold f_X10_taken_82 at h
  refine lv_iload hx hb dX10_taken_82 (lv_at hl 2 rfl) ?_
  refine lv_iload_n hx hb dX10_taken_84 rfl (lv_at hl 0 rfl) ?_
  refine hicmp_ne (tgt := 92) C dX10_taken_85 (by decide) h (fun h => ?_) (fun h => ?_)
  · refine lv_bipush hx hb dX10_taken_92 cb_m12 ?_
    exact h_iret_o C hr hI h dX10_taken_94
  · refine lv_iload_n hx hb dX10_taken_88 rfl (lv_at hl 1 rfl) ?_
    refine lv_goto (tgt := 94) hx hb dX10_taken_89 (by decide) ?_
    exact h_iret_o C hr hI h dX10_taken_94
set_option maxRecDepth 100000 in
set_option maxHeartbeats 4000000 in
theorem w_X10_taken_61 {p : Program} {l : Launch} {e : Env} {s : State} {m : MethodId} {args : Array Value} {below : List Frame} {meth : Method} {c : Code} {D : va_G} {t : gT} {ad z : Nat → Nat} {σ : gS} (C : gC p s m args meth c cX10_taken 5 "NineKeysRoundModel" D t shM ad z) (hr : meth.sig.returnType = some .int) {r : Int32} : ∀ (n : Nat) (x2 : Int32) (x3 : Int32) (x4 : Int32) (H : Heap) (locs : List Loc) (ls : Array Slot), f_X10_taken_61 σ n x2 x3 x4 = some r → gI shM t ad D s.heap σ H locs → lv_has ls 5 [(2, .int x2), (3, .int x3), (4, .int x4)] → W p l e (gR 3 103) s m args below meth c H locs 0 0 (MQ below (gQi shM t ad D r σ) args s 0 0 (gA shM ad)) (F0 m 61 ls []) := by
  have hx := C.1
  have hb := C.2.1
  intro n
  induction n with
  | zero =>
    intro x2 x3 x4 H locs ls  h
    exact absurd h (by simp [f_X10_taken_61])
  | succ n ih =>
    intro x2 x3 x4 H locs ls  h hI hl
    unfold f_X10_taken_61 at h
    refine lv_iload hx hb dX10_taken_61 (lv_at hl 2 rfl) ?_
    refine lv_iload_n hx hb dX10_taken_63 rfl (lv_at hl 0 rfl) ?_
    refine hicmp_eq (tgt := 82) C dX10_taken_64 (by decide) h (fun h => ?_) (fun h => ?_)
    · exact w_X10_taken_82 C hr    _ _ _ _ _ _  h hI (lv_sub hl [0, 1, 2] rfl)
    · refine lv_iload hx hb dX10_taken_67 (lv_at hl 2 rfl) ?_
      refine hif_le (tgt := 82) C dX10_taken_69 (by decide) h (fun h => ?_) (fun h => ?_)
      · exact w_X10_taken_82 C hr    _ _ _ _ _ _  h hI (lv_sub hl [0, 1, 2] rfl)
      · refine lv_iload hx hb dX10_taken_72 (lv_at hl 2 rfl) ?_
        refine h_callsi_o (rest := []) C hI hl.1 ys_X10_above k_1600 h (fun q hq => c_X10_above l D t ad z C.2.2.2.2.2.2.1 (σ) x4 q hq) (As := [.int x4]) rfl rfl ⟨Nat.le_of_ble_eq_true rfl, Nat.le_of_ble_eq_true rfl⟩ (Nat.le_of_ble_eq_true rfl) dX10_taken_74 (fun q1 H locs h hI => ?_)
        refine lv_istore (lv' := [(4, .int q1), (2, .int x2), (3, .int x3)]) hx hb dX10_taken_77 hl (by decide) rfl (fun ls hl => ?_)
        refine lv_goto (tgt := 61) hx hb dX10_taken_79 (by decide) ?_
        exact ih _ _ _ _ _ _  h hI (lv_sub hl [1, 2, 0] rfl)
set_option maxRecDepth 100000 in
set_option maxHeartbeats 4000000 in
theorem c_X10_taken (l : Launch) (D : va_G) (t : gT) (ad z : Nat → Nat) (hJ : gJ shM ad) (σ : gS) (x1 : Int32) (x2 : Int32) (q : Int32) (h : f_X10_taken σ x1 x2 = some q) : Met l yX10_taken (Cond.code yX10_taken cX10_taken 5 (some .int) :: lw_tb) (gR 3 103) (gPc shM t ad D z [.ref (ad 0), .int x1, .int x2] σ) (gQi shM t ad D q σ) 0 0 (gA shM ad) := by
  refine gMet "NineKeysRoundModel" rfl (by decide) hJ (Nat.le_of_ble_eq_true rfl) ?_
  intro p e s m below meth c ls C hr hI hl
  have hx := C.1
  have hb := C.2.1
  have hl : lv_has ls 5 [(0, .ref (ad 0)), (1, .int x1), (2, .int x2)] := hl
  unfold f_X10_taken at h
  refine lv_iload_n hx hb dX10_taken_0 rfl (lv_at hl 1 rfl) ?_
  refine h_callsi_o (rest := []) C hI hl.1 ys_X10_isShelf k_1237 h (fun q hq => c_X10_isShelf l D t ad z C.2.2.2.2.2.2.1 (σ) x1 q hq) (As := [.int x1]) rfl rfl ⟨Nat.le_of_ble_eq_true rfl, Nat.le_of_ble_eq_true rfl⟩ (Nat.le_of_ble_eq_true rfl) dX10_taken_1 (fun q1 H locs h hI => ?_)
  refine hif_eq (tgt := 17) C dX10_taken_4 (by decide) h (fun h => ?_) (fun h => ?_)
  · refine lv_iconst hx hb dX10_taken_17 ci_m1 ?_
    exact h_iret_o C hr hI h dX10_taken_18
  · refine lv_iload_n hx hb dX10_taken_7 rfl (lv_at hl 2 rfl) ?_
    refine lv_iconst hx hb dX10_taken_8 ci_0 ?_
    refine lv_bipush hx hb dX10_taken_9 cb_7 ?_
    refine h_callsi_o (rest := []) C hI hl.1 ys_X10_within k_1240 h (fun q hq => c_X10_within l D t ad z C.2.2.2.2.2.2.1 (σ) x2 0 7 q hq) (As := [.int x2, .int 0, .int 7]) rfl rfl ⟨Nat.le_of_ble_eq_true rfl, Nat.le_of_ble_eq_true rfl⟩ (Nat.le_of_ble_eq_true rfl) dX10_taken_11 (fun q2 H locs h hI => ?_)
    refine hif_ne (tgt := 19) C dX10_taken_14 (by decide) h (fun h => ?_) (fun h => ?_)
    · refine lv_aload_n hx hb dX10_taken_19 rfl (lv_at hl 0 rfl) ?_
      refine fr_1102 C hI shM_0 rfl dX10_taken_20 ?_
      refine lv_iload_n hx hb dX10_taken_23 rfl (lv_at hl 1 rfl) ?_
      refine gx_iald C hI shM_24 h dX10_taken_24 (fun h => ?_)
      refine lv_iconst hx hb dX10_taken_25 ci_m1 ?_
      refine hicmp_ne (tgt := 32) C dX10_taken_26 (by decide) h (fun h => ?_) (fun h => ?_)
      · refine lv_aload_n hx hb dX10_taken_32 rfl (lv_at hl 0 rfl) ?_
        refine lv_iload_n hx hb dX10_taken_33 rfl (lv_at hl 1 rfl) ?_
        refine h_callvi_o (rest := []) C hI hl.1 shM_0 rfl yv_X10_isRow k_1631 h (fun q hq => c_X10_isRow l D t ad z C.2.2.2.2.2.2.1 (σ) x1 q hq) (As := [.int x1]) rfl rfl ⟨Nat.le_of_ble_eq_true rfl, Nat.le_of_ble_eq_true rfl⟩ (Nat.le_of_ble_eq_true rfl) dX10_taken_34 (fun q3 H locs h hI => ?_)
        refine hif_eq (tgt := 43) C dX10_taken_37 (by decide) h (fun h => ?_) (fun h => ?_)
        · refine lv_aload_n hx hb dX10_taken_43 rfl (lv_at hl 0 rfl) ?_
          refine fr_1099 C hI shM_0 rfl dX10_taken_44 ?_
          refine lv_aload_n hx hb dX10_taken_47 rfl (lv_at hl 0 rfl) ?_
          refine fr_1102 C hI shM_0 rfl dX10_taken_48 ?_
          refine lv_iload_n hx hb dX10_taken_51 rfl (lv_at hl 1 rfl) ?_
          refine gx_iald C hI shM_24 h dX10_taken_52 (fun h => ?_)
          refine lv_bipush hx hb dX10_taken_53 cb_10 ?_
          refine lv_isub hx hb dX10_taken_55 ?_
          refine gx_iald C hI shM_22 h dX10_taken_56 (fun h => ?_)
          refine gx_topi h (fun v4 h => ?_)
          refine lv_istore_n (lv' := [(3, .int v4), (0, .ref (ad 0)), (1, .int x1), (2, .int x2)]) hx hb dX10_taken_57 rfl hl (by decide) rfl (fun ls hl => ?_)
          refine lv_iload_n hx hb dX10_taken_58 rfl (lv_at hl 0 rfl) ?_
          refine lv_istore (lv' := [(4, .int v4), (3, .int v4), (0, .ref (ad 0)), (1, .int x1), (2, .int x2)]) hx hb dX10_taken_59 hl (by decide) rfl (fun ls hl => ?_)
          exact w_X10_taken_61 C hr    _ _ _ _ _ _ _  h hI (lv_sub hl [4, 1, 0] rfl)
        · refine lv_bipush hx hb dX10_taken_40 cb_m12 ?_
          exact h_iret_o C hr hI h dX10_taken_42
      · refine lv_bipush hx hb dX10_taken_29 cb_m11 ?_
        exact h_iret_o C hr hI h dX10_taken_31
    · refine lv_iconst hx hb dX10_taken_17 ci_m1 ?_
      exact h_iret_o C hr hI h dX10_taken_18
set_option maxRecDepth 100000 in
set_option maxHeartbeats 4000000 in
theorem c_X10_count (l : Launch) (D : va_G) (t : gT) (ad z : Nat → Nat) (hJ : gJ shM ad) (σ : gS) (x1 : Int32) (q : Int32) (h : f_X10_count σ x1 = some q) : Met l yX10_count (Cond.code yX10_count cX10_count 2 (some .int) :: lw_tb) (gR 1 60) (gPc shM t ad D z [.ref (ad 0), .int x1] σ) (gQi shM t ad D q σ) 0 0 (gA shM ad) := by
  refine gMet "NineKeysRoundModel" rfl (by decide) hJ (Nat.le_of_ble_eq_true rfl) ?_
  intro p e s m below meth c ls C hr hI hl
  have hx := C.1
  have hb := C.2.1
  have hl : lv_has ls 2 [(0, .ref (ad 0)), (1, .int x1)] := hl
  unfold f_X10_count at h
  refine lv_iload_n hx hb dX10_count_0 rfl (lv_at hl 1 rfl) ?_
  by_cases hc_ : x1 = 0
  · rw [if_pos hc_] at h
    refine lv_tableIn (tgt := 36) (off := 35) hx hb dX10_count_1 (by rw [hc_]; decide) (by rw [hc_]; decide) (by rw [hc_]; rfl) (by decide) ?_
    refine lv_aload_n hx hb dX10_count_36 rfl (lv_at hl 0 rfl) ?_
    refine fg_1061 C hI shM_0 rfl dX10_count_37 ?_
    exact h_iret_o C hr hI h dX10_count_40
  · rw [if_neg hc_] at h
    have hn_0 := hc_
    by_cases hc_ : x1 = 1
    · rw [if_pos hc_] at h
      refine lv_tableIn (tgt := 41) (off := 40) hx hb dX10_count_1 (by rw [hc_]; decide) (by rw [hc_]; decide) (by rw [hc_]; rfl) (by decide) ?_
      refine lv_aload_n hx hb dX10_count_41 rfl (lv_at hl 0 rfl) ?_
      refine fg_1067 C hI shM_0 rfl dX10_count_42 ?_
      exact h_iret_o C hr hI h dX10_count_45
    · rw [if_neg hc_] at h
      have hn_1 := hc_
      by_cases hc_ : x1 = 2
      · rw [if_pos hc_] at h
        refine lv_tableIn (tgt := 46) (off := 45) hx hb dX10_count_1 (by rw [hc_]; decide) (by rw [hc_]; decide) (by rw [hc_]; rfl) (by decide) ?_
        refine lv_aload_n hx hb dX10_count_46 rfl (lv_at hl 0 rfl) ?_
        refine fg_1096 C hI shM_0 rfl dX10_count_47 ?_
        exact h_iret_o C hr hI h dX10_count_50
      · rw [if_neg hc_] at h
        have hn_2 := hc_
        by_cases hc_ : x1 = 3
        · rw [if_pos hc_] at h
          refine lv_tableIn (tgt := 51) (off := 50) hx hb dX10_count_1 (by rw [hc_]; decide) (by rw [hc_]; decide) (by rw [hc_]; rfl) (by decide) ?_
          refine lv_aload_n hx hb dX10_count_51 rfl (lv_at hl 0 rfl) ?_
          refine fg_1098 C hI shM_0 rfl dX10_count_52 ?_
          exact h_iret_o C hr hI h dX10_count_55
        · rw [if_neg hc_] at h
          have hn_3 := hc_
          by_cases hc_ : x1 = 4
          · rw [if_pos hc_] at h
            refine lv_tableIn (tgt := 56) (off := 55) hx hb dX10_count_1 (by rw [hc_]; decide) (by rw [hc_]; decide) (by rw [hc_]; rfl) (by decide) ?_
            refine lv_aload_n hx hb dX10_count_56 rfl (lv_at hl 0 rfl) ?_
            refine fg_1100 C hI shM_0 rfl dX10_count_57 ?_
            exact h_iret_o C hr hI h dX10_count_60
          · rw [if_neg hc_] at h
            have hn_4 := hc_
            have hout : x1.toInt < 0 ∨ 4 < x1.toInt := by
              have e0 := tsne (c := 0) (z := 0) (by decide) hn_0
              have e1 := tsne (c := 1) (z := 1) (by decide) hn_1
              have e2 := tsne (c := 2) (z := 2) (by decide) hn_2
              have e3 := tsne (c := 3) (z := 3) (by decide) hn_3
              have e4 := tsne (c := 4) (z := 4) (by decide) hn_4
              omega
            refine lv_tableOut (tgt := 61) hx hb dX10_count_1 hout (by decide) ?_
            refine lv_iconst hx hb dX10_count_61 ci_m1 ?_
            exact h_iret_o C hr hI h dX10_count_62
