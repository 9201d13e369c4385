set_option maxRecDepth 100000 in
set_option maxHeartbeats 4000000 in
theorem c_X9_waits (l : Launch) (D : va_G) (t : gT) (ad z : Nat → Nat) (hJ : gJ shX ad) (σ : gS) (x1 : Int32) (q : Int32 × gS) (h : f_X9_waits σ x1 = some q) : Met l yX9_waits (Cond.code yX9_waits cX9_waits 2 (some .int) :: lw_tb) (gR 2 81) (gPc shX t ad D z [.ref (ad 0), .int x1] σ) (gQi shX t ad D q.1 q.2) 0 0 (gA shX ad) := by
  refine gMet "NineKeysRound" rfl (by decide) hJ (Nat.le_of_ble_eq_true rfl) ?_
  intro p e s m below meth c ls C hr hI hl
  have hx := C.1
  have hb := C.2.1
  have hl : lv_has ls 2 [(0, .ref (ad 0)), (1, .int x1)] := hl
  unfold f_X9_waits at h
  refine lv_iload_n hx hb dX9_waits_0 rfl (lv_at hl 1 rfl) ?_
  refine lv_iconst hx hb dX9_waits_1 ci_1 ?_
  refine hicmp_lt (tgt := 12) C dX9_waits_2 (by decide) h (fun h => ?_) (fun h => ?_)
  · refine lv_iconst hx hb dX9_waits_12 ci_m1 ?_
    exact h_iret_w C hr hI h dX9_waits_13
  · refine lv_iload_n hx hb dX9_waits_5 rfl (lv_at hl 1 rfl) ?_
    refine lv_sipush hx hb dX9_waits_6 cs_999 ?_
    refine hicmp_le (tgt := 14) C dX9_waits_9 (by decide) h (fun h => ?_) (fun h => ?_)
    · refine lv_aload_n hx hb dX9_waits_14 rfl (lv_at hl 0 rfl) ?_
      refine fr_269 C hI shX_0 rfl dX9_waits_15 ?_
      refine lv_iload_n hx hb dX9_waits_18 rfl (lv_at hl 1 rfl) ?_
      refine h_callvi_w (rest := []) C hI hl.1 shX_37 rfl yv_X2_waitFor k_902 h (fun q hq => c_X2_waitFor l D t ad z C.2.2.2.2.2.2.1 37 shX_37 shX_38 (σ) x1 q hq) (As := [.int x1]) rfl rfl ⟨Nat.le_of_ble_eq_true rfl, Nat.le_of_ble_eq_true rfl⟩ (Nat.le_of_ble_eq_true rfl) dX9_waits_19 (fun q1 H locs h hI => ?_)
      refine hif_eq (tgt := 35) C dX9_waits_22 (by decide) h (fun h => ?_) (fun h => ?_)
      · refine lv_bipush hx hb dX9_waits_35 cb_m5 ?_
        exact h_iret_w C hr hI h dX9_waits_37
      · refine lv_aload_n hx hb dX9_waits_25 rfl (lv_at hl 0 rfl) ?_
        refine fr_269 C hI shX_0 rfl dX9_waits_26 ?_
        refine fg_184 C hI shX_37 rfl dX9_waits_29 ?_
        refine lv_goto (tgt := 37) hx hb dX9_waits_32 (by decide) ?_
        exact h_iret_w C hr hI h dX9_waits_37
    · refine lv_iconst hx hb dX9_waits_12 ci_m1 ?_
      exact h_iret_w C hr hI h dX9_waits_13
set_option maxRecDepth 100000 in
set_option maxHeartbeats 4000000 in
theorem c_X9_home (l : Launch) (D : va_G) (t : gT) (ad z : Nat → Nat) (hJ : gJ shX ad) (σ : gS) (q : Int32 × gS) (h : f_X9_home σ = some q) : Met l yX9_home (Cond.code yX9_home cX9_home 1 (some .int) :: lw_tb) (gR 3 105) (gPc shX t ad D z [.ref (ad 0)] σ) (gQi shX t ad D q.1 q.2) 0 0 (gA shX ad) := by
  refine gMet "NineKeysRound" rfl (by decide) hJ (Nat.le_of_ble_eq_true rfl) ?_
  intro p e s m below meth c ls C hr hI hl
  have hx := C.1
  have hb := C.2.1
  have hl : lv_has ls 1 [(0, .ref (ad 0))] := hl
  unfold f_X9_home at h
  refine lv_aload_n hx hb dX9_home_0 rfl (lv_at hl 0 rfl) ?_
  refine fr_269 C hI shX_0 rfl dX9_home_1 ?_
  refine lv_aload_n hx hb dX9_home_4 rfl (lv_at hl 0 rfl) ?_
  refine fr_261 C hI shX_0 rfl dX9_home_5 ?_
  refine lv_aload_n hx hb dX9_home_8 rfl (lv_at hl 0 rfl) ?_
  refine fr_269 C hI shX_0 rfl dX9_home_9 ?_
  refine fg_182 C hI shX_37 rfl dX9_home_12 ?_
  refine lv_bipush hx hb dX9_home_15 cb_9 ?_
  refine h_callvi_o (rest := [.ref (ad 37)]) C hI hl.1 shX_1 rfl yv_X8_way k_833 h (fun q hq => c_X8_way l D t ad z C.2.2.2.2.2.2.1 (σ) (σ.1 37 1) 9 q hq) (As := [.int (σ.1 37 1), .int 9]) rfl rfl ⟨Nat.le_of_ble_eq_true rfl, Nat.le_of_ble_eq_true rfl⟩ (Nat.le_of_ble_eq_true rfl) dX9_home_17 (fun q1 H locs h hI => ?_)
  refine h_callvi_w (rest := []) C hI hl.1 shX_37 rfl yv_X2_goHome k_910 h (fun q hq => c_X2_goHome l D t ad z C.2.2.2.2.2.2.1 37 shX_37 shX_38 (σ) q1 q hq) (As := [.int q1]) rfl rfl ⟨Nat.le_of_ble_eq_true rfl, Nat.le_of_ble_eq_true rfl⟩ (Nat.le_of_ble_eq_true rfl) dX9_home_20 (fun q2 H locs h hI => ?_)
  refine hif_eq (tgt := 36) C dX9_home_23 (by decide) h (fun h => ?_) (fun h => ?_)
  · refine lv_bipush hx hb dX9_home_36 cb_m5 ?_
    exact h_iret_w C hr hI h dX9_home_38
  · refine lv_aload_n hx hb dX9_home_26 rfl (lv_at hl 0 rfl) ?_
    refine fr_269 C hI shX_0 rfl dX9_home_27 ?_
    refine fg_184 C hI shX_37 rfl dX9_home_30 ?_
    refine lv_goto (tgt := 38) hx hb dX9_home_33 (by decide) ?_
    exact h_iret_w C hr hI h dX9_home_38
set_option maxRecDepth 100000 in
set_option maxHeartbeats 4000000 in
theorem c_X9_led (l : Launch) (D : va_G) (t : gT) (ad z : Nat → Nat) (hJ : gJ shX ad) (σ : gS) (x1 : Int32) (q : Int32) (h : f_X9_led σ x1 = some q) : Met l yX9_led (Cond.code yX9_led cX9_led 2 (some .int) :: lw_tb) (gR 1 60) (gPc shX t ad D z [.ref (ad 0), .int x1] σ) (gQi shX t ad D q σ) 0 0 (gA shX ad) := by
  refine gMet "NineKeysRound" rfl (by decide) hJ (Nat.le_of_ble_eq_true rfl) ?_
  intro p e s m below meth c ls C hr hI hl
  have hx := C.1
  have hb := C.2.1
  have hl : lv_has ls 2 [(0, .ref (ad 0)), (1, .int x1)] := hl
  unfold f_X9_led at h
  refine lv_iload_n hx hb dX9_led_0 rfl (lv_at hl 1 rfl) ?_
  by_cases hc_ : x1 = 0
  · rw [if_pos hc_] at h
    refine lv_tableIn (tgt := 36) (off := 35) hx hb dX9_led_1 (by rw [hc_]; decide) (by rw [hc_]; decide) (by rw [hc_]; rfl) (by decide) ?_
    refine lv_aload_n hx hb dX9_led_36 rfl (lv_at hl 0 rfl) ?_
    refine fr_269 C hI shX_0 rfl dX9_led_37 ?_
    refine fg_186 C hI shX_37 rfl dX9_led_40 ?_
    exact h_iret_o C hr hI h dX9_led_43
  · rw [if_neg hc_] at h
    have hn_0 := hc_
    by_cases hc_ : x1 = 1
    · rw [if_pos hc_] at h
      refine lv_tableIn (tgt := 44) (off := 43) hx hb dX9_led_1 (by rw [hc_]; decide) (by rw [hc_]; decide) (by rw [hc_]; rfl) (by decide) ?_
      refine lv_aload_n hx hb dX9_led_44 rfl (lv_at hl 0 rfl) ?_
      refine fr_269 C hI shX_0 rfl dX9_led_45 ?_
      refine fg_188 C hI shX_37 rfl dX9_led_48 ?_
      exact h_iret_o C hr hI h dX9_led_51
    · rw [if_neg hc_] at h
      have hn_1 := hc_
      by_cases hc_ : x1 = 2
      · rw [if_pos hc_] at h
        refine lv_tableIn (tgt := 52) (off := 51) hx hb dX9_led_1 (by rw [hc_]; decide) (by rw [hc_]; decide) (by rw [hc_]; rfl) (by decide) ?_
        refine lv_aload_n hx hb dX9_led_52 rfl (lv_at hl 0 rfl) ?_
        refine fr_269 C hI shX_0 rfl dX9_led_53 ?_
        refine fg_190 C hI shX_37 rfl dX9_led_56 ?_
        exact h_iret_o C hr hI h dX9_led_59
      · rw [if_neg hc_] at h
        have hn_2 := hc_
        by_cases hc_ : x1 = 3
        · rw [if_pos hc_] at h
          refine lv_tableIn (tgt := 60) (off := 59) hx hb dX9_led_1 (by rw [hc_]; decide) (by rw [hc_]; decide) (by rw [hc_]; rfl) (by decide) ?_
          refine lv_aload_n hx hb dX9_led_60 rfl (lv_at hl 0 rfl) ?_
          refine fr_269 C hI shX_0 rfl dX9_led_61 ?_
          refine fg_192 C hI shX_37 rfl dX9_led_64 ?_
          exact h_iret_o C hr hI h dX9_led_67
        · rw [if_neg hc_] at h
          have hn_3 := hc_
          by_cases hc_ : x1 = 4
          · rw [if_pos hc_] at h
            refine lv_tableIn (tgt := 68) (off := 67) hx hb dX9_led_1 (by rw [hc_]; decide) (by rw [hc_]; decide) (by rw [hc_]; rfl) (by decide) ?_
            refine lv_aload_n hx hb dX9_led_68 rfl (lv_at hl 0 rfl) ?_
            refine fr_269 C hI shX_0 rfl dX9_led_69 ?_
            refine fg_184 C hI shX_37 rfl dX9_led_72 ?_
            exact h_iret_o C hr hI h dX9_led_75
          · rw [if_neg hc_] at h
            have hn_4 := hc_
            have hout : x1.toInt < 0 ∨ 4 < x1.toInt := by
              have e0 := tsne (c := 0) (z := 0) (by decide) hn_0
              have e1 := tsne (c := 1) (z := 1) (by decide) hn_1
              have e2 := tsne (c := 2) (z := 2) (by decide) hn_2
              have e3 := tsne (c := 3) (z := 3) (by decide) hn_3
              have e4 := tsne (c := 4) (z := 4) (by decide) hn_4
              omega
            refine lv_tableOut (tgt := 76) hx hb dX9_led_1 hout (by decide) ?_
            refine lv_iconst hx hb dX9_led_76 ci_m1 ?_
            exact h_iret_o C hr hI h dX9_led_77
set_option maxRecDepth 100000 in
set_option maxHeartbeats 4000000 in
theorem c_X9_image (l : Launch) (D : va_G) (t : gT) (ad z : Nat → Nat) (hJ : gJ shX ad) (σ : gS) (q : Int32 × gS) (h : f_X9_image σ = some q) : Met l yX9_image (Cond.code yX9_image cX9_image 1 (some .int) :: lw_tb) (gR 2 81) (gPc shX t ad D z [.ref (ad 0)] σ) (gQi shX t ad D q.1 q.2) 0 0 (gA shX ad) := by
  refine gMet "NineKeysRound" rfl (by decide) hJ (Nat.le_of_ble_eq_true rfl) ?_
  intro p e s m below meth c ls C hr hI hl
  have hx := C.1
  have hb := C.2.1
  have hl : lv_has ls 1 [(0, .ref (ad 0))] := hl
  unfold f_X9_image at h
  refine lv_aload_n hx hb dX9_image_0 rfl (lv_at hl 0 rfl) ?_
  refine fr_270 C hI shX_0 rfl dX9_image_1 ?_
  refine lv_aload_n hx hb dX9_image_4 rfl (lv_at hl 0 rfl) ?_
  refine fr_269 C hI shX_0 rfl dX9_image_5 ?_
  refine h_callvv_w (rest := []) C hI hl.1 shX_39 rfl yv_X2_become k_922 h (fun q hq => c_X2_become l D t ad z C.2.2.2.2.2.2.1 39 37 shX_39 shX_40 shX_37 shX_38 (σ) q hq) (As := [.ref (ad 37)]) rfl rfl ⟨Nat.le_of_ble_eq_true rfl, Nat.le_of_ble_eq_true rfl⟩ (Nat.le_of_ble_eq_true rfl) dX9_image_8 (fun q1 H locs h hI => ?_)
  refine lv_aload_n hx hb dX9_image_11 rfl (lv_at hl 0 rfl) ?_
  refine lv_iconst hx hb dX9_image_12 ci_1 ?_
  obtain ⟨hz, h⟩ := gk_some h
  refine fp_275 C hI shX_0 rfl hz dX9_image_13 (fun H locs hI => ?_)
  refine gx_st h hI (fun s2 h hI => ?_)
  refine lv_aload_n hx hb dX9_image_16 rfl (lv_at hl 0 rfl) ?_
  refine fr_269 C hI shX_0 rfl dX9_image_17 ?_
  refine fg_184 C hI shX_37 rfl dX9_image_20 ?_
  exact h_iret_w C hr hI h dX9_image_23
set_option maxRecDepth 100000 in
set_option maxHeartbeats 4000000 in
theorem c_X9_back (l : Launch) (D : va_G) (t : gT) (ad z : Nat → Nat) (hJ : gJ shX ad) (σ : gS) (q : Int32 × gS) (h : f_X9_back σ = some q) : Met l yX9_back (Cond.code yX9_back cX9_back 1 (some .int) :: lw_tb) (gR 2 81) (gPc shX t ad D z [.ref (ad 0)] σ) (gQi shX t ad D q.1 q.2) 0 0 (gA shX ad) := by
  refine gMet "NineKeysRound" rfl (by decide) hJ (Nat.le_of_ble_eq_true rfl) ?_
  intro p e s m below meth c ls C hr hI hl
  have hx := C.1
  have hb := C.2.1
  have hl : lv_has ls 1 [(0, .ref (ad 0))] := hl
  unfold f_X9_back at h
  refine lv_aload_n hx hb dX9_back_0 rfl (lv_at hl 0 rfl) ?_
  refine fg_275 C hI shX_0 rfl dX9_back_1 ?_
  refine hif_ne (tgt := 10) C dX9_back_4 (by decide) h (fun h => ?_) (fun h => ?_)
  · refine lv_aload_n hx hb dX9_back_10 rfl (lv_at hl 0 rfl) ?_
    refine fr_269 C hI shX_0 rfl dX9_back_11 ?_
    refine lv_aload_n hx hb dX9_back_14 rfl (lv_at hl 0 rfl) ?_
    refine fr_270 C hI shX_0 rfl dX9_back_15 ?_
    refine h_callvv_w (rest := []) C hI hl.1 shX_37 rfl yv_X2_become k_922 h (fun q hq => c_X2_become l D t ad z C.2.2.2.2.2.2.1 37 39 shX_37 shX_38 shX_39 shX_40 (σ) q hq) (As := [.ref (ad 39)]) rfl rfl ⟨Nat.le_of_ble_eq_true rfl, Nat.le_of_ble_eq_true rfl⟩ (Nat.le_of_ble_eq_true rfl) dX9_back_18 (fun q1 H locs h hI => ?_)
    refine lv_aload_n hx hb dX9_back_21 rfl (lv_at hl 0 rfl) ?_
    refine fr_269 C hI shX_0 rfl dX9_back_22 ?_
    refine fg_184 C hI shX_37 rfl dX9_back_25 ?_
    exact h_iret_w C hr hI h dX9_back_28
  · refine lv_bipush hx hb dX9_back_7 cb_m5 ?_
    exact h_iret_w C hr hI h dX9_back_9
set_option maxRecDepth 100000 in
set_option maxHeartbeats 4000000 in
theorem c_X9_undo (l : Launch) (D : va_G) (t : gT) (ad z : Nat → Nat) (hJ : gJ shX ad) (σ : gS) (q : Int32 × gS) (h : f_X9_undo σ = some q) : Met l yX9_undo (Cond.code yX9_undo cX9_undo 1 (some .int) :: lw_tb) (gR 2 81) (gPc shX t ad D z [.ref (ad 0)] σ) (gQi shX t ad D q.1 q.2) 0 0 (gA shX ad) := by
  refine gMet "NineKeysRound" rfl (by decide) hJ (Nat.le_of_ble_eq_true rfl) ?_
  intro p e s m below meth c ls C hr hI hl
  have hx := C.1
  have hb := C.2.1
  have hl : lv_has ls 1 [(0, .ref (ad 0))] := hl
  unfold f_X9_undo at h
  refine lv_aload_n hx hb dX9_undo_0 rfl (lv_at hl 0 rfl) ?_
  refine fr_262 C hI shX_0 rfl dX9_undo_1 ?_
  refine lv_aload_n hx hb dX9_undo_4 rfl (lv_at hl 0 rfl) ?_
  refine fr_261 C hI shX_0 rfl dX9_undo_5 ?_
  refine fr_35 C hI shX_1 rfl dX9_undo_8 ?_
  refine h_callvi_w (rest := []) C hI hl.1 shX_3 rfl yv_X0_takeBack k_935 h (fun q hq => c_X0_takeBack l D t ad z C.2.2.2.2.2.2.1 (σ) q hq) (As := [.ref (ad 2)]) rfl rfl ⟨Nat.le_of_ble_eq_true rfl, Nat.le_of_ble_eq_true rfl⟩ (Nat.le_of_ble_eq_true rfl) dX9_undo_11 (fun q1 H locs h hI => ?_)
  refine hif_eq (tgt := 27) C dX9_undo_14 (by decide) h (fun h => ?_) (fun h => ?_)
  · refine lv_bipush hx hb dX9_undo_27 cb_m5 ?_
    exact h_iret_w C hr hI h dX9_undo_29
  · refine lv_aload_n hx hb dX9_undo_17 rfl (lv_at hl 0 rfl) ?_
    refine fr_262 C hI shX_0 rfl dX9_undo_18 ?_
    refine fg_55 C hI shX_3 rfl dX9_undo_21 ?_
    refine lv_goto (tgt := 29) hx hb dX9_undo_24 (by decide) ?_
    exact h_iret_w C hr hI h dX9_undo_29
set_option maxRecDepth 100000 in
set_option maxHeartbeats 4000000 in
theorem c_X9_redo (l : Launch) (D : va_G) (t : gT) (ad z : Nat → Nat) (hJ : gJ shX ad) (σ : gS) (q : Int32 × gS) (h : f_X9_redo σ = some q) : Met l yX9_redo (Cond.code yX9_redo cX9_redo 1 (some .int) :: lw_tb) (gR 2 81) (gPc shX t ad D z [.ref (ad 0)] σ) (gQi shX t ad D q.1 q.2) 0 0 (gA shX ad) := by
  refine gMet "NineKeysRound" rfl (by decide) hJ (Nat.le_of_ble_eq_true rfl) ?_
  intro p e s m below meth c ls C hr hI hl
  have hx := C.1
  have hb := C.2.1
  have hl : lv_has ls 1 [(0, .ref (ad 0))] := hl
  unfold f_X9_redo at h
  refine lv_aload_n hx hb dX9_redo_0 rfl (lv_at hl 0 rfl) ?_
  refine fr_262 C hI shX_0 rfl dX9_redo_1 ?_
  refine lv_aload_n hx hb dX9_redo_4 rfl (lv_at hl 0 rfl) ?_
  refine fr_261 C hI shX_0 rfl dX9_redo_5 ?_
  refine fr_35 C hI shX_1 rfl dX9_redo_8 ?_
  refine h_callvi_w (rest := []) C hI hl.1 shX_3 rfl yv_X0_doAgain k_943 h (fun q hq => c_X0_doAgain l D t ad z C.2.2.2.2.2.2.1 (σ) q hq) (As := [.ref (ad 2)]) rfl rfl ⟨Nat.le_of_ble_eq_true rfl, Nat.le_of_ble_eq_true rfl⟩ (Nat.le_of_ble_eq_true rfl) dX9_redo_11 (fun q1 H locs h hI => ?_)
  refine hif_eq (tgt := 35) C dX9_redo_14 (by decide) h (fun h => ?_) (fun h => ?_)
  · refine lv_bipush hx hb dX9_redo_35 cb_m5 ?_
    exact h_iret_w C hr hI h dX9_redo_37
  · refine lv_aload_n hx hb dX9_redo_17 rfl (lv_at hl 0 rfl) ?_
    refine fr_262 C hI shX_0 rfl dX9_redo_18 ?_
    refine fg_57 C hI shX_3 rfl dX9_redo_21 ?_
    refine lv_aload_n hx hb dX9_redo_24 rfl (lv_at hl 0 rfl) ?_
    refine fr_262 C hI shX_0 rfl dX9_redo_25 ?_
    refine fg_55 C hI shX_3 rfl dX9_redo_28 ?_
    refine lv_isub hx hb dX9_redo_31 ?_
    refine lv_goto (tgt := 37) hx hb dX9_redo_32 (by decide) ?_
    exact h_iret_w C hr hI h dX9_redo_37
set_option maxRecDepth 100000 in
set_option maxHeartbeats 4000000 in
theorem c_X9_body (l : Launch) (D : va_G) (t : gT) (ad z : Nat → Nat) (hJ : gJ shX ad) (σ : gS) (x1 : Int32) (q : Int32 × gS) (h : f_X9_body σ x1 = some q) : Met l yX9_body (Cond.code yX9_body cX9_body 2 (some .int) :: lw_tb) (gR 2 81) (gPc shX t ad D z [.ref (ad 0), .int x1] σ) (gQi shX t ad D q.1 q.2) 0 0 (gA shX ad) := by
  refine gMet "NineKeysRound" rfl (by decide) hJ (Nat.le_of_ble_eq_true rfl) ?_
  intro p e s m below meth c ls C hr hI hl
  have hx := C.1
  have hb := C.2.1
  have hl : lv_has ls 2 [(0, .ref (ad 0)), (1, .int x1)] := hl
  unfold f_X9_body at h
  refine lv_iload_n hx hb dX9_body_0 rfl (lv_at hl 1 rfl) ?_
  refine h_callsi_o (rest := []) C hI hl.1 ys_X3_isKind k_951 h (fun q hq => c_X3_isKind l D t ad z C.2.2.2.2.2.2.1 (σ) x1 q hq) (As := [.int x1]) rfl rfl ⟨Nat.le_of_ble_eq_true rfl, Nat.le_of_ble_eq_true rfl⟩ (Nat.le_of_ble_eq_true rfl) dX9_body_1 (fun q1 H locs h hI => ?_)
  refine hif_ne (tgt := 9) C dX9_body_4 (by decide) h (fun h => ?_) (fun h => ?_)
  · refine lv_aload_n hx hb dX9_body_9 rfl (lv_at hl 0 rfl) ?_
    refine fr_271 C hI shX_0 rfl dX9_body_10 ?_
    refine lv_iload_n hx hb dX9_body_13 rfl (lv_at hl 1 rfl) ?_
    refine h_callvi_w (rest := []) C hI hl.1 shX_41 rfl yv_X3_add k_954 h (fun q hq => c_X3_add l D t ad z C.2.2.2.2.2.2.1 (σ) x1 q hq) (As := [.int x1]) rfl rfl ⟨Nat.le_of_ble_eq_true rfl, Nat.le_of_ble_eq_true rfl⟩ (Nat.le_of_ble_eq_true rfl) dX9_body_14 (fun q2 H locs h hI => ?_)
    exact h_iret_w C hr hI h dX9_body_17
  · refine lv_iconst hx hb dX9_body_7 ci_m1 ?_
    exact h_iret_w C hr hI h dX9_body_8
set_option maxRecDepth 100000 in
set_option maxHeartbeats 4000000 in
theorem c_X9_act (l : Launch) (D : va_G) (t : gT) (ad z : Nat → Nat) (hJ : gJ shX ad) (σ : gS) (x1 : Int32) (x2 : Int32) (x3 : Int32) (q : Int32 × gS) (h : f_X9_act σ x1 x2 x3 = some q) : Met l yX9_act (Cond.code yX9_act cX9_act 4 (some .int) :: lw_tb) (gR 68 1793) (gPc shX t ad D z [.ref (ad 0), .int x1, .int x2, .int x3] σ) (gQi shX t ad D q.1 q.2) 0 0 (gA shX ad) := by
  refine gMet "NineKeysRound" rfl (by decide) hJ (Nat.le_of_ble_eq_true rfl) ?_
  intro p e s m below meth c ls C hr hI hl
  have hx := C.1
  have hb := C.2.1
  have hl : lv_has ls 4 [(0, .ref (ad 0)), (1, .int x1), (2, .int x2), (3, .int x3)] := hl
  unfold f_X9_act at h
  refine lv_aload_n hx hb dX9_act_0 rfl (lv_at hl 0 rfl) ?_
  refine fr_271 C hI shX_0 rfl dX9_act_1 ?_
  refine lv_iload_n hx hb dX9_act_4 rfl (lv_at hl 1 rfl) ?_
  refine lv_iload_n hx hb dX9_act_5 rfl (lv_at hl 2 rfl) ?_
  refine lv_iload_n hx hb dX9_act_6 rfl (lv_at hl 3 rfl) ?_
  refine h_callvi_w (rest := []) C hI hl.1 shX_41 rfl yv_X3_perform k_962 h (fun q hq => c_X3_perform l D t ad z C.2.2.2.2.2.2.1 (σ) x1 x2 x3 q hq) (As := [.int x1, .int x2, .int x3]) rfl rfl ⟨Nat.le_of_ble_eq_true rfl, Nat.le_of_ble_eq_true rfl⟩ (Nat.le_of_ble_eq_true rfl) dX9_act_7 (fun q1 H locs h hI => ?_)
  exact h_iret_w C hr hI h dX9_act_10
set_option maxRecDepth 100000 in
set_option maxHeartbeats 4000000 in
theorem c_X9_trace (l : Launch) (D : va_G) (t : gT) (ad z : Nat → Nat) (hJ : gJ shX ad) (σ : gS) (x1 : Int32) (q : Int32) (h : f_X9_trace σ x1 = some q) : Met l yX9_trace (Cond.code yX9_trace cX9_trace 2 (some .int) :: lw_tb) (gR 2 80) (gPc shX t ad D z [.ref (ad 0), .int x1] σ) (gQi shX t ad D q σ) 0 0 (gA shX ad) := by
  refine gMet "NineKeysRound" rfl (by decide) hJ (Nat.le_of_ble_eq_true rfl) ?_
  intro p e s m below meth c ls C hr hI hl
  have hx := C.1
  have hb := C.2.1
  have hl : lv_has ls 2 [(0, .ref (ad 0)), (1, .int x1)] := hl
  unfold f_X9_trace at h
  refine lv_iload_n hx hb dX9_trace_0 rfl (lv_at hl 1 rfl) ?_
  refine hif_lt (tgt := 15) C dX9_trace_1 (by decide) h (fun h => ?_) (fun h => ?_)
  · refine lv_iconst hx hb dX9_trace_15 ci_m1 ?_
    refine lv_goto (tgt := 28) hx hb dX9_trace_16 (by decide) ?_
    exact h_iret_o C hr hI h dX9_trace_28
  · refine lv_iload_n hx hb dX9_trace_4 rfl (lv_at hl 1 rfl) ?_
    refine lv_aload_n hx hb dX9_trace_5 rfl (lv_at hl 0 rfl) ?_
    refine fr_271 C hI shX_0 rfl dX9_trace_6 ?_
    refine h_callvi_o (rest := [.int x1]) C hI hl.1 shX_41 rfl yv_X3_traced k_987 h (fun q hq => c_X3_traced l D t ad z C.2.2.2.2.2.2.1 (σ) q hq) (As := []) rfl rfl ⟨Nat.le_of_ble_eq_true rfl, Nat.le_of_ble_eq_true rfl⟩ (Nat.le_of_ble_eq_true rfl) dX9_trace_9 (fun q1 H locs h hI => ?_)
    refine hicmp_lt (tgt := 19) C dX9_trace_12 (by decide) h (fun h => ?_) (fun h => ?_)
    · refine lv_aload_n hx hb dX9_trace_19 rfl (lv_at hl 0 rfl) ?_
      refine fr_271 C hI shX_0 rfl dX9_trace_20 ?_
      refine fr_216 C hI shX_41 rfl dX9_trace_23 ?_
      refine lv_iload_n hx hb dX9_trace_26 rfl (lv_at hl 1 rfl) ?_
      refine gx_iald C hI shX_43 h dX9_trace_27 (fun h => ?_)
      exact h_iret_o C hr hI h dX9_trace_28
    · refine lv_iconst hx hb dX9_trace_15 ci_m1 ?_
      refine lv_goto (tgt := 28) hx hb dX9_trace_16 (by decide) ?_
      exact h_iret_o C hr hI h dX9_trace_28
set_option maxRecDepth 100000 in
set_option maxHeartbeats 4000000 in
theorem w_X9_keep_25 {p : Program} {l : Launch} {e : Env} {s : State} {m : MethodId} {args : Array Value} {below : List Frame} {meth : Method} {c : Code} {D : va_G} {t : gT} {ad z : Nat → Nat} (C : gC p s m args meth c cX9_keep 3 "NineKeysRound" D t shX ad z) (hr : meth.sig.returnType = some .int) {r : Int32 × gS} : ∀ (x1 : Int32) (x2 : Int32) (σ : gS) (H : Heap) (locs : List Loc) (ls : Array Slot), f_X9_keep_25 x1 x2 σ = some r → gI shX t ad D s.heap σ H locs → lv_has ls 3 [(0, .ref (ad 0)), (1, .int x1), (2, .int x2)] → W p l e (gR 2 81) s m args below meth c H locs 0 0 (MQ below (gQi shX t ad D r.1 r.2) args s 0 0 (gA shX ad)) (F0 m 25 ls []) := by
  have hx := C.1
  have hb := C.2.1
  intro x1 x2 σ H locs ls  h hI hl
  unfold f_X9_keep_25 at h
  refine lv_aload_n hx hb dX9_keep_25 rfl (lv_at hl 0 rfl) ?_
  refine fr_264 C hI shX_0 rfl dX9_keep_26 ?_
  refine lv_iload_n hx hb dX9_keep_29 rfl (lv_at hl 1 rfl) ?_
  refine gx_aald C hI shX_13 h dX9_keep_30 (fun k1 hm_ _ h => ?_)
  obtain ⟨h_k1, h_k11⟩ := shelf_ok k1 hm_
  refine lv_iload_n hx hb dX9_keep_31 rfl (lv_at hl 2 rfl) ?_
  refine h_callvv_w (rest := []) C hI hl.1 h_k1 rfl yv_X5_holdKey k_997 h (fun q hq => c_X5_holdKey l D t ad z C.2.2.2.2.2.2.1 k1 h_k1 h_k11 (σ) x2 q hq) (As := [.int x2]) rfl rfl ⟨Nat.le_of_ble_eq_true rfl, Nat.le_of_ble_eq_true rfl⟩ (Nat.le_of_ble_eq_true rfl) dX9_keep_32 (fun q2 H locs h hI => ?_)
  refine lv_iconst hx hb dX9_keep_35 ci_1 ?_
  exact h_iret_w C hr hI h dX9_keep_36
set_option maxRecDepth 100000 in
set_option maxHeartbeats 4000000 in
theorem c_X9_keep (l : Launch) (D : va_G) (t : gT) (ad z : Nat → Nat) (hJ : gJ shX ad) (σ : gS) (x1 : Int32) (x2 : Int32) (q : Int32 × gS) (h : f_X9_keep σ x1 x2 = some q) : Met l yX9_keep (Cond.code yX9_keep cX9_keep 3 (some .int) :: lw_tb) (gR 2 81) (gPc shX t ad D z [.ref (ad 0), .int x1, .int x2] σ) (gQi shX t ad D q.1 q.2) 0 0 (gA shX ad) := by
  refine gMet "NineKeysRound" rfl (by decide) hJ (Nat.le_of_ble_eq_true rfl) ?_
  intro p e s m below meth c ls C hr hI hl
  have hx := C.1
  have hb := C.2.1
  have hl : lv_has ls 3 [(0, .ref (ad 0)), (1, .int x1), (2, .int x2)] := hl
  unfold f_X9_keep at h
  refine lv_iload_n hx hb dX9_keep_0 rfl (lv_at hl 1 rfl) ?_
  refine h_callsi_o (rest := []) C hI hl.1 ys_X9_isShelf k_326 h (fun q hq => c_X9_isShelf l D t ad z C.2.2.2.2.2.2.1 (σ) x1 q hq) (As := [.int x1]) rfl rfl ⟨Nat.le_of_ble_eq_true rfl, Nat.le_of_ble_eq_true rfl⟩ (Nat.le_of_ble_eq_true rfl) dX9_keep_1 (fun q1 H locs h hI => ?_)
  refine hif_eq (tgt := 23) C dX9_keep_4 (by decide) h (fun h => ?_) (fun h => ?_)
  · refine lv_iconst hx hb dX9_keep_23 ci_m1 ?_
    exact h_iret_w C hr hI h dX9_keep_24
  · refine lv_iload_n hx hb dX9_keep_7 rfl (lv_at hl 2 rfl) ?_
    refine lv_iconst hx hb dX9_keep_8 ci_m1 ?_
    refine hicmp_eq (tgt := 25) C dX9_keep_9 (by decide) h (fun h => ?_) (fun h => ?_)
    · exact w_X9_keep_25 C hr    _ _ _ _ _ _  h hI (lv_sub hl [0, 1, 2] rfl)
    · refine lv_aload_n hx hb dX9_keep_12 rfl (lv_at hl 0 rfl) ?_
      refine fr_271 C hI shX_0 rfl dX9_keep_13 ?_
      refine lv_iload_n hx hb dX9_keep_16 rfl (lv_at hl 2 rfl) ?_
      refine h_callvi_o (rest := []) C hI hl.1 shX_41 rfl yv_X3_isKey k_996 h (fun q hq => c_X3_isKey l D t ad z C.2.2.2.2.2.2.1 (σ) x2 q hq) (As := [.int x2]) rfl rfl ⟨Nat.le_of_ble_eq_true rfl, Nat.le_of_ble_eq_true rfl⟩ (Nat.le_of_ble_eq_true rfl) dX9_keep_17 (fun q2 H locs h hI => ?_)
      refine hif_ne (tgt := 25) C dX9_keep_20 (by decide) h (fun h => ?_) (fun h => ?_)
      · exact w_X9_keep_25 C hr    _ _ _ _ _ _  h hI (lv_sub hl [0, 1, 2] rfl)
      · refine lv_iconst hx hb dX9_keep_23 ci_m1 ?_
        exact h_iret_w C hr hI h dX9_keep_24
set_option maxRecDepth 100000 in
set_option maxHeartbeats 4000000 in
theorem c_X9_row (l : Launch) (D : va_G) (t : gT) (ad z : Nat → Nat) (hJ : gJ shX ad) (σ : gS) (x1 : Int32) (x2 : Int32) (x3 : Int32) (q : Int32 × gS) (h : f_X9_row σ x1 x2 x3 = some q) : Met l yX9_row (Cond.code yX9_row cX9_row 4 (some .int) :: lw_tb) (gR 2 83) (gPc shX t ad D z [.ref (ad 0), .int x1, .int x2, .int x3] σ) (gQi shX t ad D q.1 q.2) 0 0 (gA shX ad) := by
  refine gMet "NineKeysRound" rfl (by decide) hJ (Nat.le_of_ble_eq_true rfl) ?_
  intro p e s m below meth c ls C hr hI hl
  have hx := C.1
  have hb := C.2.1
  have hl : lv_has ls 4 [(0, .ref (ad 0)), (1, .int x1), (2, .int x2), (3, .int x3)] := hl
  unfold f_X9_row at h
  refine lv_iload_n hx hb dX9_row_0 rfl (lv_at hl 1 rfl) ?_
  refine h_callsi_o (rest := []) C hI hl.1 ys_X9_isShelf k_326 h (fun q hq => c_X9_isShelf l D t ad z C.2.2.2.2.2.2.1 (σ) x1 q hq) (As := [.int x1]) rfl rfl ⟨Nat.le_of_ble_eq_true rfl, Nat.le_of_ble_eq_true rfl⟩ (Nat.le_of_ble_eq_true rfl) dX9_row_1 (fun q1 H locs h hI => ?_)
  refine hif_eq (tgt := 22) C dX9_row_4 (by decide) h (fun h => ?_) (fun h => ?_)
  · refine lv_iconst hx hb dX9_row_22 ci_m1 ?_
    exact h_iret_w C hr hI h dX9_row_23
  · refine lv_iload_n hx hb dX9_row_7 rfl (lv_at hl 2 rfl) ?_
    refine hif_lt (tgt := 22) C dX9_row_8 (by decide) h (fun h => ?_) (fun h => ?_)
    · refine lv_iconst hx hb dX9_row_22 ci_m1 ?_
      exact h_iret_w C hr hI h dX9_row_23
    · refine lv_iload_n hx hb dX9_row_11 rfl (lv_at hl 2 rfl) ?_
      refine lv_iconst hx hb dX9_row_12 ci_4 ?_
      refine hicmp_gt (tgt := 22) C dX9_row_13 (by decide) h (fun h => ?_) (fun h => ?_)
      · refine lv_iconst hx hb dX9_row_22 ci_m1 ?_
        exact h_iret_w C hr hI h dX9_row_23
      · refine lv_iload_n hx hb dX9_row_16 rfl (lv_at hl 3 rfl) ?_
        refine lv_bipush hx hb dX9_row_17 cb_60 ?_
        refine hicmp_le (tgt := 24) C dX9_row_19 (by decide) h (fun h => ?_) (fun h => ?_)
        · refine lv_iload_n hx hb dX9_row_24 rfl (lv_at hl 3 rfl) ?_
          refine hif_ge (tgt := 31) C dX9_row_25 (by decide) h (fun h => ?_) (fun h => ?_)
          · refine lv_aload_n hx hb dX9_row_31 rfl (lv_at hl 0 rfl) ?_
            refine fr_264 C hI shX_0 rfl dX9_row_32 ?_
            refine lv_iload_n hx hb dX9_row_35 rfl (lv_at hl 1 rfl) ?_
            refine gx_aald C hI shX_13 h dX9_row_36 (fun k2 hm_ _ h => ?_)
            obtain ⟨h_k2, h_k21⟩ := shelf_ok k2 hm_
            refine lv_iload_n hx hb dX9_row_37 rfl (lv_at hl 2 rfl) ?_
            refine lv_iload_n hx hb dX9_row_38 rfl (lv_at hl 3 rfl) ?_
            refine h_callvv_w (rest := []) C hI hl.1 h_k2 rfl yv_X5_holdRow k_1005 h (fun q hq => c_X5_holdRow l D t ad z C.2.2.2.2.2.2.1 k2 h_k2 h_k21 (σ) x2 x3 q hq) (As := [.int x2, .int x3]) rfl rfl ⟨Nat.le_of_ble_eq_true rfl, Nat.le_of_ble_eq_true rfl⟩ (Nat.le_of_ble_eq_true rfl) dX9_row_39 (fun q3 H locs h hI => ?_)
            refine lv_iconst hx hb dX9_row_42 ci_1 ?_
            exact h_iret_w C hr hI h dX9_row_43
          · refine lv_bipush hx hb dX9_row_28 cb_m14 ?_
            exact h_iret_w C hr hI h dX9_row_30
        · refine lv_iconst hx hb dX9_row_22 ci_m1 ?_
          exact h_iret_w C hr hI h dX9_row_23
set_option maxRecDepth 100000 in
set_option maxHeartbeats 4000000 in
theorem c_X9_put (l : Launch) (D : va_G) (t : gT) (ad z : Nat → Nat) (hJ : gJ shX ad) (σ : gS) (x1 : Int32) (x2 : Int32) (x3 : Int64) (q : Int32 × gS) (h : f_X9_put σ x1 x2 x3 = some q) : Met l yX9_put (Cond.code yX9_put cX9_put 6 (some .int) :: lw_tb) (gR 3 103) (gPc shX t ad D z [.ref (ad 0), .int x1, .int x2, .long x3] σ) (gQi shX t ad D q.1 q.2) 0 0 (gA shX ad) := by
  refine gMet "NineKeysRound" rfl (by decide) hJ (Nat.le_of_ble_eq_true rfl) ?_
  intro p e s m below meth c ls C hr hI hl
  have hx := C.1
  have hb := C.2.1
  have hl : lv_has ls 6 [(0, .ref (ad 0)), (1, .int x1), (2, .int x2), (3, .long x3)] := hl
  unfold f_X9_put at h
  refine lv_iload_n hx hb dX9_put_0 rfl (lv_at hl 1 rfl) ?_
  refine h_callsi_o (rest := []) C hI hl.1 ys_X9_isShelf k_326 h (fun q hq => c_X9_isShelf l D t ad z C.2.2.2.2.2.2.1 (σ) x1 q hq) (As := [.int x1]) rfl rfl ⟨Nat.le_of_ble_eq_true rfl, Nat.le_of_ble_eq_true rfl⟩ (Nat.le_of_ble_eq_true rfl) dX9_put_1 (fun q1 H locs h hI => ?_)
  refine hif_ne (tgt := 9) C dX9_put_4 (by decide) h (fun h => ?_) (fun h => ?_)
  · refine lv_aload_n hx hb dX9_put_9 rfl (lv_at hl 0 rfl) ?_
    refine fr_264 C hI shX_0 rfl dX9_put_10 ?_
    refine lv_iload_n hx hb dX9_put_13 rfl (lv_at hl 1 rfl) ?_
    refine gx_aald C hI shX_13 h dX9_put_14 (fun k2 hm_ _ h => ?_)
    obtain ⟨h_k2, h_k21⟩ := shelf_ok k2 hm_
    refine lv_iload_n hx hb dX9_put_15 rfl (lv_at hl 2 rfl) ?_
    refine h_callvi_o (rest := []) C hI hl.1 h_k2 rfl yv_X5_refusalForPlace k_1013 h (fun q hq => c_X5_refusalForPlace l D t ad z C.2.2.2.2.2.2.1 k2 h_k2 h_k21 (σ) x2 q hq) (As := [.int x2]) rfl rfl ⟨Nat.le_of_ble_eq_true rfl, Nat.le_of_ble_eq_true rfl⟩ (Nat.le_of_ble_eq_true rfl) dX9_put_16 (fun q3 H locs h hI => ?_)
    refine lv_istore (lv' := [(5, .int q3), (0, .ref (ad 0)), (1, .int x1), (2, .int x2), (3, .long x3)]) hx hb dX9_put_19 hl (by decide) rfl (fun ls hl => ?_)
    refine lv_iload hx hb dX9_put_21 (lv_at hl 0 rfl) ?_
    refine hif_ge (tgt := 29) C dX9_put_23 (by decide) h (fun h => ?_) (fun h => ?_)
    · refine lv_aload_n hx hb dX9_put_29 rfl (lv_at hl 1 rfl) ?_
      refine fr_264 C hI shX_0 rfl dX9_put_30 ?_
      refine lv_iload_n hx hb dX9_put_33 rfl (lv_at hl 2 rfl) ?_
      refine gx_aald C hI shX_13 h dX9_put_34 (fun k4 hm_ _ h => ?_)
      obtain ⟨h_k4, h_k41⟩ := shelf_ok k4 hm_
      refine lv_iload_n hx hb dX9_put_35 rfl (lv_at hl 3 rfl) ?_
      refine lv_lload_n hx hb dX9_put_36 rfl (lv_at hl 4 rfl) ?_
      refine h_callvv_w (rest := []) C hI hl.1 h_k4 rfl yv_X5_setCell k_1021 h (fun q hq => c_X5_setCell l D t ad z C.2.2.2.2.2.2.1 k4 h_k4 h_k41 (σ) x2 x3 q hq) (As := [.int x2, .long x3]) rfl rfl ⟨Nat.le_of_ble_eq_true rfl, Nat.le_of_ble_eq_true rfl⟩ (Nat.le_of_ble_eq_true rfl) dX9_put_37 (fun q5 H locs h hI => ?_)
      refine lv_iconst hx hb dX9_put_40 ci_1 ?_
      exact h_iret_w C hr hI h dX9_put_41
    · refine lv_iload hx hb dX9_put_26 (lv_at hl 0 rfl) ?_
      exact h_iret_w C hr hI h dX9_put_28
  · refine lv_iconst hx hb dX9_put_7 ci_m1 ?_
    exact h_iret_w C hr hI h dX9_put_8
set_option maxRecDepth 100000 in
set_option maxHeartbeats 4000000 in
theorem c_X9_element (l : Launch) (D : va_G) (t : gT) (ad z : Nat → Nat) (hJ : gJ shX ad) (σ : gS) (x1 : Int32) (x2 : Int32) (q : Int64) (h : f_X9_element σ x1 x2 = some q) : Met l yX9_element (Cond.code yX9_element cX9_element 3 (some .long) :: lw_tb) (gR 3 103) (gPc shX t ad D z [.ref (ad 0), .int x1, .int x2] σ) (gQl shX t ad D q σ) 0 0 (gA shX ad) := by
  refine gMet "NineKeysRound" rfl (by decide) hJ (Nat.le_of_ble_eq_true rfl) ?_
  intro p e s m below meth c ls C hr hI hl
  have hx := C.1
  have hb := C.2.1
  have hl : lv_has ls 3 [(0, .ref (ad 0)), (1, .int x1), (2, .int x2)] := hl
  unfold f_X9_element at h
  refine lv_iload_n hx hb dX9_element_0 rfl (lv_at hl 1 rfl) ?_
  refine h_callsi_o (rest := []) C hI hl.1 ys_X9_isShelf k_326 h (fun q hq => c_X9_isShelf l D t ad z C.2.2.2.2.2.2.1 (σ) x1 q hq) (As := [.int x1]) rfl rfl ⟨Nat.le_of_ble_eq_true rfl, Nat.le_of_ble_eq_true rfl⟩ (Nat.le_of_ble_eq_true rfl) dX9_element_1 (fun q1 H locs h hI => ?_)
  refine hif_eq (tgt := 20) C dX9_element_4 (by decide) h (fun h => ?_) (fun h => ?_)
  · refine lv_ldc2 hx hb C.2.2.2.1 (C.2.2.2.2.1 _ k_1029) dX9_element_20 ?_
    exact h_lret_o C hr hI h dX9_element_23
  · refine lv_aload_n hx hb dX9_element_7 rfl (lv_at hl 0 rfl) ?_
    refine fr_264 C hI shX_0 rfl dX9_element_8 ?_
    refine lv_iload_n hx hb dX9_element_11 rfl (lv_at hl 1 rfl) ?_
    refine gx_aald C hI shX_13 h dX9_element_12 (fun k2 hm_ _ h => ?_)
    obtain ⟨h_k2, h_k21⟩ := shelf_ok k2 hm_
    refine lv_iload_n hx hb dX9_element_13 rfl (lv_at hl 2 rfl) ?_
    refine h_callvi_o (rest := []) C hI hl.1 h_k2 rfl yv_X5_refusalForPlace k_1013 h (fun q hq => c_X5_refusalForPlace l D t ad z C.2.2.2.2.2.2.1 k2 h_k2 h_k21 (σ) x2 q hq) (As := [.int x2]) rfl rfl ⟨Nat.le_of_ble_eq_true rfl, Nat.le_of_ble_eq_true rfl⟩ (Nat.le_of_ble_eq_true rfl) dX9_element_14 (fun q3 H locs h hI => ?_)
    refine hif_ge (tgt := 24) C dX9_element_17 (by decide) h (fun h => ?_) (fun h => ?_)
    · refine lv_aload_n hx hb dX9_element_24 rfl (lv_at hl 0 rfl) ?_
      refine fr_264 C hI shX_0 rfl dX9_element_25 ?_
      refine lv_iload_n hx hb dX9_element_28 rfl (lv_at hl 1 rfl) ?_
      refine gx_aald C hI shX_13 h dX9_element_29 (fun k4 hm_ _ h => ?_)
      obtain ⟨h_k4, h_k41⟩ := shelf_ok k4 hm_
      refine lv_iload_n hx hb dX9_element_30 rfl (lv_at hl 2 rfl) ?_
      refine h_callvl_o (rest := []) C hI hl.1 h_k4 rfl yv_X5_cellAt k_339 h (fun q hq => c_X5_cellAt l D t ad z C.2.2.2.2.2.2.1 k4 h_k4 h_k41 (σ) x2 q hq) (As := [.int x2]) rfl rfl ⟨Nat.le_of_ble_eq_true rfl, Nat.le_of_ble_eq_true rfl⟩ (Nat.le_of_ble_eq_true rfl) dX9_element_31 (fun q5 H locs h hI => ?_)
      exact h_lret_o C hr hI h dX9_element_34
    · refine lv_ldc2 hx hb C.2.2.2.1 (C.2.2.2.2.1 _ k_1029) dX9_element_20 ?_
      exact h_lret_o C hr hI h dX9_element_23
set_option maxRecDepth 100000 in
set_option maxHeartbeats 4000000 in
theorem c_X9_shift (l : Launch) (D : va_G) (t : gT) (ad z : Nat → Nat) (hJ : gJ shX ad) (σ : gS) (x1 : Int32) (x2 : Int32) (x3 : Int32) (x4 : Int32) (x5 : Int32) (q : Int32 × gS) (h : f_X9_shift σ x1 x2 x3 x4 x5 = some q) : Met l yX9_shift (Cond.code yX9_shift cX9_shift 8 (some .int) :: lw_tb) (gR 2 82) (gPc shX t ad D z [.ref (ad 0), .int x1, .int x2, .int x3, .int x4, .int x5] σ) (gQi shX t ad D q.1 q.2) 0 0 (gA shX ad) := by
  refine gMet "NineKeysRound" rfl (by decide) hJ (Nat.le_of_ble_eq_true rfl) ?_
  intro p e s m below meth c ls C hr hI hl
  have hx := C.1
  have hb := C.2.1
  have hl : lv_has ls 8 [(0, .ref (ad 0)), (1, .int x1), (2, .int x2), (3, .int x3), (4, .int x4), (5, .int x5)] := hl
  unfold f_X9_shift at h
  refine lv_iload_n hx hb dX9_shift_0 rfl (lv_at hl 1 rfl) ?_
  refine h_callsi_o (rest := []) C hI hl.1 ys_X9_isShelf k_326 h (fun q hq => c_X9_isShelf l D t ad z C.2.2.2.2.2.2.1 (σ) x1 q hq) (As := [.int x1]) rfl rfl ⟨Nat.le_of_ble_eq_true rfl, Nat.le_of_ble_eq_true rfl⟩ (Nat.le_of_ble_eq_true rfl) dX9_shift_1 (fun q1 H locs h hI => ?_)
  refine hif_eq (tgt := 14) C dX9_shift_4 (by decide) h (fun h => ?_) (fun h => ?_)
  · refine lv_iconst hx hb dX9_shift_14 ci_m1 ?_
    exact h_iret_w C hr hI h dX9_shift_15
  · refine lv_iload_n hx hb dX9_shift_7 rfl (lv_at hl 3 rfl) ?_
    refine h_callsi_o (rest := []) C hI hl.1 ys_X9_isShelf k_326 h (fun q hq => c_X9_isShelf l D t ad z C.2.2.2.2.2.2.1 (σ) x3 q hq) (As := [.int x3]) rfl rfl ⟨Nat.le_of_ble_eq_true rfl, Nat.le_of_ble_eq_true rfl⟩ (Nat.le_of_ble_eq_true rfl) dX9_shift_8 (fun q2 H locs h hI => ?_)
    refine hif_ne (tgt := 16) C dX9_shift_11 (by decide) h (fun h => ?_) (fun h => ?_)
    · refine lv_aload_n hx hb dX9_shift_16 rfl (lv_at hl 0 rfl) ?_
      refine fr_264 C hI shX_0 rfl dX9_shift_17 ?_
      refine lv_iload_n hx hb dX9_shift_20 rfl (lv_at hl 1 rfl) ?_
      refine gx_aald C hI shX_13 h dX9_shift_21 (fun k3 hm_ _ h => ?_)
      obtain ⟨h_k3, h_k31⟩ := shelf_ok k3 hm_
      refine lv_astore (lv' := [(6, .ref (ad k3)), (0, .ref (ad 0)), (1, .int x1), (2, .int x2), (3, .int x3), (4, .int x4), (5, .int x5)]) hx hb dX9_shift_22 hl (by decide) rfl (fun ls hl => ?_)
      refine lv_aload_n hx hb dX9_shift_24 rfl (lv_at hl 1 rfl) ?_
      refine fr_264 C hI shX_0 rfl dX9_shift_25 ?_
      refine lv_iload_n hx hb dX9_shift_28 rfl (lv_at hl 4 rfl) ?_
      refine gx_aald C hI shX_13 h dX9_shift_29 (fun k4 hm_ _ h => ?_)
      obtain ⟨h_k4, h_k41⟩ := shelf_ok k4 hm_
      refine lv_astore (lv' := [(7, .ref (ad k4)), (6, .ref (ad k3)), (0, .ref (ad 0)), (1, .int x1), (2, .int x2), (3, .int x3), (4, .int x4), (5, .int x5)]) hx hb dX9_shift_30 hl (by decide) rfl (fun ls hl => ?_)
      refine lv_aload hx hb dX9_shift_32 (lv_at hl 1 rfl) ?_
      refine fg_241 C hI h_k3 rfl dX9_shift_34 ?_
      refine hif_eq (tgt := 48) C dX9_shift_37 (by decide) h (fun h => ?_) (fun h => ?_)
      · refine lv_bipush hx hb dX9_shift_48 cb_m11 ?_
        exact h_iret_w C hr hI h dX9_shift_50
      · refine lv_aload hx hb dX9_shift_40 (lv_at hl 0 rfl) ?_
        refine fg_241 C hI h_k4 rfl dX9_shift_42 ?_
        refine hif_ne (tgt := 51) C dX9_shift_45 (by decide) h (fun h => ?_) (fun h => ?_)
        · refine lv_aload hx hb dX9_shift_51 (lv_at hl 1 rfl) ?_
          refine fg_241 C hI h_k3 rfl dX9_shift_53 ?_
          refine lv_iconst hx hb dX9_shift_56 ci_2 ?_
          refine hicmp_ne (tgt := 82) C dX9_shift_57 (by decide) h (fun h => ?_) (fun h => ?_)
          · refine lv_bipush hx hb dX9_shift_82 cb_m12 ?_
            exact h_iret_w C hr hI h dX9_shift_84
          · refine lv_aload hx hb dX9_shift_60 (lv_at hl 0 rfl) ?_
            refine fg_241 C hI h_k4 rfl dX9_shift_62 ?_
            refine lv_iconst hx hb dX9_shift_65 ci_2 ?_
            refine hicmp_ne (tgt := 82) C dX9_shift_66 (by decide) h (fun h => ?_) (fun h => ?_)
            · refine lv_bipush hx hb dX9_shift_82 cb_m12 ?_
              exact h_iret_w C hr hI h dX9_shift_84
            · refine lv_aload hx hb dX9_shift_69 (lv_at hl 1 rfl) ?_
              refine fg_245 C hI h_k3 rfl dX9_shift_71 ?_
              refine lv_aload hx hb dX9_shift_74 (lv_at hl 0 rfl) ?_
              refine fg_245 C hI h_k4 rfl dX9_shift_76 ?_
              refine hicmp_eq (tgt := 85) C dX9_shift_79 (by decide) h (fun h => ?_) (fun h => ?_)
              · refine lv_aload hx hb dX9_shift_85 (lv_at hl 1 rfl) ?_
                refine lv_iload_n hx hb dX9_shift_87 rfl (lv_at hl 4 rfl) ?_
                refine lv_iload hx hb dX9_shift_88 (lv_at hl 7 rfl) ?_
                refine h_callvi_o (rest := []) C hI hl.1 h_k3 rfl yv_X5_hasPlaces k_1034 h (fun q hq => c_X5_hasPlaces l D t ad z C.2.2.2.2.2.2.1 k3 h_k3 h_k31 (σ) x2 x5 q hq) (As := [.int x2, .int x5]) rfl rfl ⟨Nat.le_of_ble_eq_true rfl, Nat.le_of_ble_eq_true rfl⟩ (Nat.le_of_ble_eq_true rfl) dX9_shift_90 (fun q5 H locs h hI => ?_)
                refine hif_eq (tgt := 108) C dX9_shift_93 (by decide) h (fun h => ?_) (fun h => ?_)
                · refine lv_bipush hx hb dX9_shift_108 cb_m13 ?_
                  exact h_iret_w C hr hI h dX9_shift_110
                · refine lv_aload hx hb dX9_shift_96 (lv_at hl 0 rfl) ?_
                  refine lv_iload hx hb dX9_shift_98 (lv_at hl 6 rfl) ?_
                  refine lv_iload hx hb dX9_shift_100 (lv_at hl 7 rfl) ?_
                  refine h_callvi_o (rest := []) C hI hl.1 h_k4 rfl yv_X5_hasPlaces k_1034 h (fun q hq => c_X5_hasPlaces l D t ad z C.2.2.2.2.2.2.1 k4 h_k4 h_k41 (σ) x4 x5 q hq) (As := [.int x4, .int x5]) rfl rfl ⟨Nat.le_of_ble_eq_true rfl, Nat.le_of_ble_eq_true rfl⟩ (Nat.le_of_ble_eq_true rfl) dX9_shift_102 (fun q6 H locs h hI => ?_)
                  refine hif_ne (tgt := 111) C dX9_shift_105 (by decide) h (fun h => ?_) (fun h => ?_)
                  · refine lv_aload hx hb dX9_shift_111 (lv_at hl 1 rfl) ?_
                    refine fr_239 C hI h_k3 rfl dX9_shift_113 ?_
                    refine lv_iload_n hx hb dX9_shift_116 rfl (lv_at hl 4 rfl) ?_
                    refine lv_aload hx hb dX9_shift_117 (lv_at hl 0 rfl) ?_
                    refine fr_239 C hI h_k4 rfl dX9_shift_119 ?_
                    refine lv_iload hx hb dX9_shift_122 (lv_at hl 6 rfl) ?_
                    refine lv_iload hx hb dX9_shift_124 (lv_at hl 7 rfl) ?_
                    refine h_copyl C hI hl.1 k_1035 h_k31 h_k41 h ⟨Nat.le_of_ble_eq_true rfl, Nat.le_of_ble_eq_true rfl⟩ dX9_shift_126 (fun H locs h hI => ?_)
                    refine gx_st h hI (fun s7 h hI => ?_)
                    refine lv_iload hx hb dX9_shift_129 (lv_at hl 7 rfl) ?_
                    exact h_iret_w C hr hI h dX9_shift_131
                  · refine lv_bipush hx hb dX9_shift_108 cb_m13 ?_
                    exact h_iret_w C hr hI h dX9_shift_110
              · refine lv_bipush hx hb dX9_shift_82 cb_m12 ?_
                exact h_iret_w C hr hI h dX9_shift_84
        · refine lv_bipush hx hb dX9_shift_48 cb_m11 ?_
          exact h_iret_w C hr hI h dX9_shift_50
    · refine lv_iconst hx hb dX9_shift_14 ci_m1 ?_
      exact h_iret_w C hr hI h dX9_shift_15
set_option maxRecDepth 100000 in
set_option maxHeartbeats 4000000 in
theorem w_X9_taken_56 {p : Program} {l : Launch} {e : Env} {s : State} {m : MethodId} {args : Array Value} {below : List Frame} {meth : Method} {c : Code} {D : va_G} {t : gT} {ad z : Nat → Nat} {σ : gS} (C : gC p s m args meth c cX9_taken 5 "NineKeysRound" D t shX ad z) (hr : meth.sig.returnType = some .int) {r : Int32} : ∀ (x2 : Int32) (s0 : Int32) (H : Heap) (locs : List Loc) (ls : Array Slot), f_X9_taken_56 σ x2 s0 = some r → gI shX t ad D s.heap σ H locs → lv_has ls 5 [(2, .int x2)] → W p l e (gR 3 103) s m args below meth c H locs 0 0 (MQ below (gQi shX t ad D r σ) args s 0 0 (gA shX ad)) (F0 m 56 ls [.int s0]) := by
  have hx := C.1
  have hb := C.2.1
  intro x2 s0 H locs ls  h hI hl
  unfold f_X9_taken_56 at h
  refine lv_istore (lv' := [(4, .int s0), (2, .int x2)]) hx hb dX9_taken_56 hl (by decide) rfl (fun ls hl => ?_)
  refine lv_iload hx hb dX9_taken_58 (lv_at hl 0 rfl) ?_
  refine lv_iload_n hx hb dX9_taken_60 rfl (lv_at hl 1 rfl) ?_
  refine h_callsi_o (rest := []) C hI hl.1 ys_X3_isUnder k_1044 h (fun q hq => c_X3_isUnder l D t ad z C.2.2.2.2.2.2.1 (σ) s0 x2 q hq) (As := [.int s0, .int x2]) rfl rfl ⟨Nat.le_of_ble_eq_true rfl, Nat.le_of_ble_eq_true rfl⟩ (Nat.le_of_ble_eq_true rfl) dX9_taken_61 (fun q1 H locs h hI => ?_)
  refine hif_eq (tgt := 72) C dX9_taken_64 (by decide) h (fun h => ?_) (fun h => ?_)
  · refine lv_bipush hx hb dX9_taken_72 cb_m12 ?_
    exact h_iret_o C hr hI h dX9_taken_74
  · refine lv_iload hx hb dX9_taken_67 (lv_at hl 0 rfl) ?_
    refine lv_goto (tgt := 74) hx hb dX9_taken_69 (by decide) ?_
    exact h_iret_o C hr hI h dX9_taken_74
set_option maxRecDepth 100000 in
set_option maxHeartbeats 4000000 in
theorem c_X9_taken (l : Launch) (D : va_G) (t : gT) (ad z : Nat → Nat) (hJ : gJ shX ad) (σ : gS) (x1 : Int32) (x2 : Int32) (q : Int32) (h : f_X9_taken σ x1 x2 = some q) : Met l yX9_taken (Cond.code yX9_taken cX9_taken 5 (some .int) :: lw_tb) (gR 3 103) (gPc shX t ad D z [.ref (ad 0), .int x1, .int x2] σ) (gQi shX t ad D q σ) 0 0 (gA shX ad) := by
  refine gMet "NineKeysRound" rfl (by decide) hJ (Nat.le_of_ble_eq_true rfl) ?_
  intro p e s m below meth c ls C hr hI hl
  have hx := C.1
  have hb := C.2.1
  have hl : lv_has ls 5 [(0, .ref (ad 0)), (1, .int x1), (2, .int x2)] := hl
  unfold f_X9_taken at h
  refine lv_iload_n hx hb dX9_taken_0 rfl (lv_at hl 1 rfl) ?_
  refine h_callsi_o (rest := []) C hI hl.1 ys_X9_isShelf k_326 h (fun q hq => c_X9_isShelf l D t ad z C.2.2.2.2.2.2.1 (σ) x1 q hq) (As := [.int x1]) rfl rfl ⟨Nat.le_of_ble_eq_true rfl, Nat.le_of_ble_eq_true rfl⟩ (Nat.le_of_ble_eq_true rfl) dX9_taken_1 (fun q1 H locs h hI => ?_)
  refine hif_eq (tgt := 14) C dX9_taken_4 (by decide) h (fun h => ?_) (fun h => ?_)
  · refine lv_iconst hx hb dX9_taken_14 ci_m1 ?_
    exact h_iret_o C hr hI h dX9_taken_15
  · refine lv_iload_n hx hb dX9_taken_7 rfl (lv_at hl 2 rfl) ?_
    refine h_callsi_o (rest := []) C hI hl.1 ys_X3_isKind k_951 h (fun q hq => c_X3_isKind l D t ad z C.2.2.2.2.2.2.1 (σ) x2 q hq) (As := [.int x2]) rfl rfl ⟨Nat.le_of_ble_eq_true rfl, Nat.le_of_ble_eq_true rfl⟩ (Nat.le_of_ble_eq_true rfl) dX9_taken_8 (fun q2 H locs h hI => ?_)
    refine hif_ne (tgt := 16) C dX9_taken_11 (by decide) h (fun h => ?_) (fun h => ?_)
    · refine lv_aload_n hx hb dX9_taken_16 rfl (lv_at hl 0 rfl) ?_
      refine fr_264 C hI shX_0 rfl dX9_taken_17 ?_
      refine lv_iload_n hx hb dX9_taken_20 rfl (lv_at hl 1 rfl) ?_
      refine gx_aald C hI shX_13 h dX9_taken_21 (fun k3 hm_ _ h => ?_)
      obtain ⟨h_k3, h_k31⟩ := shelf_ok k3 hm_
      refine lv_astore_n (lv' := [(3, .ref (ad k3)), (0, .ref (ad 0)), (1, .int x1), (2, .int x2)]) hx hb dX9_taken_22 rfl hl (by decide) rfl (fun ls hl => ?_)
      refine lv_aload_n hx hb dX9_taken_23 rfl (lv_at hl 0 rfl) ?_
      refine fg_241 C hI h_k3 rfl dX9_taken_24 ?_
      refine hif_ne (tgt := 33) C dX9_taken_27 (by decide) h (fun h => ?_) (fun h => ?_)
      · refine lv_aload_n hx hb dX9_taken_33 rfl (lv_at hl 0 rfl) ?_
        refine fg_241 C hI h_k3 rfl dX9_taken_34 ?_
        refine lv_iconst hx hb dX9_taken_37 ci_1 ?_
        refine hicmp_ne (tgt := 55) C dX9_taken_38 (by decide) h (fun h => ?_) (fun h => ?_)
        · refine lv_iconst hx hb dX9_taken_55 ci_m1 ?_
          exact w_X9_taken_56 C hr    _ _ _ _ _  h hI (lv_sub hl [3] rfl)
        · refine lv_aload_n hx hb dX9_taken_41 rfl (lv_at hl 1 rfl) ?_
          refine fr_271 C hI shX_0 rfl dX9_taken_42 ?_
          refine lv_aload_n hx hb dX9_taken_45 rfl (lv_at hl 0 rfl) ?_
          refine fg_243 C hI h_k3 rfl dX9_taken_46 ?_
          refine h_callvi_o (rest := []) C hI hl.1 shX_41 rfl yv_X3_kindOf k_1040 h (fun q hq => c_X3_kindOf l D t ad z C.2.2.2.2.2.2.1 (σ) (σ.1 k3 2) q hq) (As := [.int (σ.1 k3 2)]) rfl rfl ⟨Nat.le_of_ble_eq_true rfl, Nat.le_of_ble_eq_true rfl⟩ (Nat.le_of_ble_eq_true rfl) dX9_taken_49 (fun q4 H locs h hI => ?_)
          refine lv_goto (tgt := 56) hx hb dX9_taken_52 (by decide) ?_
          exact w_X9_taken_56 C hr    _ _ _ _ _  h hI (lv_sub hl [3] rfl)
      · refine lv_bipush hx hb dX9_taken_30 cb_m11 ?_
        exact h_iret_o C hr hI h dX9_taken_32
    · refine lv_iconst hx hb dX9_taken_14 ci_m1 ?_
      exact h_iret_o C hr hI h dX9_taken_15
set_option maxRecDepth 100000 in
set_option maxHeartbeats 4000000 in
theorem c_X9_count (l : Launch) (D : va_G) (t : gT) (ad z : Nat → Nat) (hJ : gJ shX ad) (σ : gS) (x1 : Int32) (q : Int32) (h : f_X9_count σ x1 = some q) : Met l yX9_count (Cond.code yX9_count cX9_count 2 (some .int) :: lw_tb) (gR 1 60) (gPc shX t ad D z [.ref (ad 0), .int x1] σ) (gQi shX t ad D q σ) 0 0 (gA shX ad) := by
  refine gMet "NineKeysRound" rfl (by decide) hJ (Nat.le_of_ble_eq_true rfl) ?_
  intro p e s m below meth c ls C hr hI hl
  have hx := C.1
  have hb := C.2.1
  have hl : lv_has ls 2 [(0, .ref (ad 0)), (1, .int x1)] := hl
  unfold f_X9_count at h
  refine lv_iload_n hx hb dX9_count_0 rfl (lv_at hl 1 rfl) ?_
  by_cases hc_ : x1 = 0
  · rw [if_pos hc_] at h
    refine lv_tableIn (tgt := 36) (off := 35) hx hb dX9_count_1 (by rw [hc_]; decide) (by rw [hc_]; decide) (by rw [hc_]; rfl) (by decide) ?_
    refine lv_aload_n hx hb dX9_count_36 rfl (lv_at hl 0 rfl) ?_
    refine fr_261 C hI shX_0 rfl dX9_count_37 ?_
    refine fg_37 C hI shX_1 rfl dX9_count_40 ?_
    exact h_iret_o C hr hI h dX9_count_43
  · rw [if_neg hc_] at h
    have hn_0 := hc_
    by_cases hc_ : x1 = 1
    · rw [if_pos hc_] at h
      refine lv_tableIn (tgt := 44) (off := 43) hx hb dX9_count_1 (by rw [hc_]; decide) (by rw [hc_]; decide) (by rw [hc_]; rfl) (by decide) ?_
      refine lv_aload_n hx hb dX9_count_44 rfl (lv_at hl 0 rfl) ?_
      refine fr_263 C hI shX_0 rfl dX9_count_45 ?_
      refine fg_85 C hI shX_7 rfl dX9_count_48 ?_
      exact h_iret_o C hr hI h dX9_count_51
    · rw [if_neg hc_] at h
      have hn_1 := hc_
      by_cases hc_ : x1 = 2
      · rw [if_pos hc_] at h
        refine lv_tableIn (tgt := 52) (off := 51) hx hb dX9_count_1 (by rw [hc_]; decide) (by rw [hc_]; decide) (by rw [hc_]; rfl) (by decide) ?_
        refine lv_aload_n hx hb dX9_count_52 rfl (lv_at hl 0 rfl) ?_
        refine fr_262 C hI shX_0 rfl dX9_count_53 ?_
        refine fg_55 C hI shX_3 rfl dX9_count_56 ?_
        exact h_iret_o C hr hI h dX9_count_59
      · rw [if_neg hc_] at h
        have hn_2 := hc_
        by_cases hc_ : x1 = 3
        · rw [if_pos hc_] at h
          refine lv_tableIn (tgt := 60) (off := 59) hx hb dX9_count_1 (by rw [hc_]; decide) (by rw [hc_]; decide) (by rw [hc_]; rfl) (by decide) ?_
          refine lv_aload_n hx hb dX9_count_60 rfl (lv_at hl 0 rfl) ?_
          refine fr_271 C hI shX_0 rfl dX9_count_61 ?_
          refine fg_218 C hI shX_41 rfl dX9_count_64 ?_
          exact h_iret_o C hr hI h dX9_count_67
        · rw [if_neg hc_] at h
          have hn_3 := hc_
          by_cases hc_ : x1 = 4
          · rw [if_pos hc_] at h
            refine lv_tableIn (tgt := 68) (off := 67) hx hb dX9_count_1 (by rw [hc_]; decide) (by rw [hc_]; decide) (by rw [hc_]; rfl) (by decide) ?_
            refine lv_aload_n hx hb dX9_count_68 rfl (lv_at hl 0 rfl) ?_
            refine fr_271 C hI shX_0 rfl dX9_count_69 ?_
            refine fg_220 C hI shX_41 rfl dX9_count_72 ?_
            exact h_iret_o C hr hI h dX9_count_75
          · rw [if_neg hc_] at h
            have hn_4 := hc_
            have hout : x1.toInt < 0 ∨ 4 < x1.toInt := by
              have e0 := tsne (c := 0) (z := 0) (by decide) hn_0
              have e1 := tsne (c := 1) (z := 1) (by decide) hn_1
              have e2 := tsne (c := 2) (z := 2) (by decide) hn_2
              have e3 := tsne (c := 3) (z := 3) (by decide) hn_3
              have e4 := tsne (c := 4) (z := 4) (by decide) hn_4
              omega
            refine lv_tableOut (tgt := 76) hx hb dX9_count_1 hout (by decide) ?_
            refine lv_iconst hx hb dX9_count_76 ci_m1 ?_
            exact h_iret_o C hr hI h dX9_count_77
