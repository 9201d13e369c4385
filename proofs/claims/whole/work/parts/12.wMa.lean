set_option maxRecDepth 100000 in
set_option maxHeartbeats 4000000 in
theorem c_X10_within (l : Launch) (D : va_G) (t : gT) (ad z : Nat → Nat) (hJ : gJ shM ad) (σ : gS) (x0 : Int32) (x1 : Int32) (x2 : Int32) (q : Int32) (h : f_X10_within σ x0 x1 x2 = some q) : Met l yX10_within (Cond.code yX10_within cX10_within 3 (some .boolean) :: lw_tb) (gR 1 60) (gPc shM t ad D z [.int x0, .int x1, .int x2] σ) (gQi shM t ad D q σ) 0 0 (gA shM ad) := by
  refine gMet "NineKeysRoundModel" rfl (by decide) hJ (Nat.le_of_ble_eq_true rfl) ?_
  intro p e s m below meth c ls C hr hI hl
  have hx := C.1
  have hb := C.2.1
  have hl : lv_has ls 3 [(0, .int x0), (1, .int x1), (2, .int x2)] := hl
  unfold f_X10_within at h
  refine lv_iload_n hx hb dX10_within_0 rfl (lv_at hl 0 rfl) ?_
  refine lv_iload_n hx hb dX10_within_1 rfl (lv_at hl 1 rfl) ?_
  refine hicmp_lt (tgt := 14) C dX10_within_2 (by decide) h (fun h => ?_) (fun h => ?_)
  · refine lv_iconst hx hb dX10_within_14 ci_0 ?_
    exact h_zret_o C hr hI h dX10_within_15
  · refine lv_iload_n hx hb dX10_within_5 rfl (lv_at hl 0 rfl) ?_
    refine lv_iload_n hx hb dX10_within_6 rfl (lv_at hl 2 rfl) ?_
    refine hicmp_gt (tgt := 14) C dX10_within_7 (by decide) h (fun h => ?_) (fun h => ?_)
    · refine lv_iconst hx hb dX10_within_14 ci_0 ?_
      exact h_zret_o C hr hI h dX10_within_15
    · refine lv_iconst hx hb dX10_within_10 ci_1 ?_
      refine lv_goto (tgt := 15) hx hb dX10_within_11 (by decide) ?_
      exact h_zret_o C hr hI h dX10_within_15
set_option maxRecDepth 100000 in
set_option maxHeartbeats 4000000 in
theorem c_X10_isPost (l : Launch) (D : va_G) (t : gT) (ad z : Nat → Nat) (hJ : gJ shM ad) (σ : gS) (x1 : Int64) (q : Int32) (h : f_X10_isPost σ x1 = some q) : Met l yX10_isPost (Cond.code yX10_isPost cX10_isPost 3 (some .boolean) :: lw_tb) (gR 1 60) (gPc shM t ad D z [.ref (ad 0), .long x1] σ) (gQi shM t ad D q σ) 0 0 (gA shM ad) := by
  refine gMet "NineKeysRoundModel" rfl (by decide) hJ (Nat.le_of_ble_eq_true rfl) ?_
  intro p e s m below meth c ls C hr hI hl
  have hx := C.1
  have hb := C.2.1
  have hl : lv_has ls 3 [(0, .ref (ad 0)), (1, .long x1)] := hl
  unfold f_X10_isPost at h
  refine lv_lload_n hx hb dX10_isPost_0 rfl (lv_at hl 1 rfl) ?_
  refine lv_lconst (v := 0) hx hb dX10_isPost_1 rfl ?_
  refine W.lcmp hx hb dX10_isPost_2 ?_
  refine hif_lt (tgt := 20) C dX10_isPost_3 (by decide) h (fun h => ?_) (fun h => ?_)
  · refine lv_iconst hx hb dX10_isPost_20 ci_0 ?_
    exact h_zret_o C hr hI h dX10_isPost_21
  · refine lv_lload_n hx hb dX10_isPost_6 rfl (lv_at hl 1 rfl) ?_
    refine lv_aload_n hx hb dX10_isPost_7 rfl (lv_at hl 0 rfl) ?_
    refine fg_1061 C hI shM_0 rfl dX10_isPost_8 ?_
    refine lv_i2l (v := (((σ.1 0 0) : Int32).toInt64)) hx hb dX10_isPost_11 rfl ?_
    refine W.lcmp hx hb dX10_isPost_12 ?_
    refine hif_ge (tgt := 20) C dX10_isPost_13 (by decide) h (fun h => ?_) (fun h => ?_)
    · refine lv_iconst hx hb dX10_isPost_20 ci_0 ?_
      exact h_zret_o C hr hI h dX10_isPost_21
    · refine lv_iconst hx hb dX10_isPost_16 ci_1 ?_
      refine lv_goto (tgt := 21) hx hb dX10_isPost_17 (by decide) ?_
      exact h_zret_o C hr hI h dX10_isPost_21
set_option maxRecDepth 100000 in
set_option maxHeartbeats 4000000 in
theorem c_X10_isMinute (l : Launch) (D : va_G) (t : gT) (ad z : Nat → Nat) (hJ : gJ shM ad) (σ : gS) (x0 : Int32) (q : Int32) (h : f_X10_isMinute σ x0 = some q) : Met l yX10_isMinute (Cond.code yX10_isMinute cX10_isMinute 1 (some .boolean) :: lw_tb) (gR 2 82) (gPc shM t ad D z [.int x0] σ) (gQi shM t ad D q σ) 0 0 (gA shM ad) := by
  refine gMet "NineKeysRoundModel" rfl (by decide) hJ (Nat.le_of_ble_eq_true rfl) ?_
  intro p e s m below meth c ls C hr hI hl
  have hx := C.1
  have hb := C.2.1
  have hl : lv_has ls 1 [(0, .int x0)] := hl
  unfold f_X10_isMinute at h
  refine lv_iload_n hx hb dX10_isMinute_0 rfl (lv_at hl 0 rfl) ?_
  refine lv_iconst hx hb dX10_isMinute_1 ci_0 ?_
  refine lv_sipush hx hb dX10_isMinute_2 cs_999 ?_
  refine h_callsi_o (rest := []) C hI hl.1 ys_X10_within k_1240 h (fun q hq => c_X10_within l D t ad z C.2.2.2.2.2.2.1 (σ) x0 0 999 q hq) (As := [.int x0, .int 0, .int 999]) rfl rfl ⟨Nat.le_of_ble_eq_true rfl, Nat.le_of_ble_eq_true rfl⟩ (Nat.le_of_ble_eq_true rfl) dX10_isMinute_5 (fun q1 H locs h hI => ?_)
  exact h_zret_o C hr hI h dX10_isMinute_8
set_option maxRecDepth 100000 in
set_option maxHeartbeats 4000000 in
theorem c_X10_isShelf (l : Launch) (D : va_G) (t : gT) (ad z : Nat → Nat) (hJ : gJ shM ad) (σ : gS) (x0 : Int32) (q : Int32) (h : f_X10_isShelf σ x0 = some q) : Met l yX10_isShelf (Cond.code yX10_isShelf cX10_isShelf 1 (some .boolean) :: lw_tb) (gR 2 82) (gPc shM t ad D z [.int x0] σ) (gQi shM t ad D q σ) 0 0 (gA shM ad) := by
  refine gMet "NineKeysRoundModel" rfl (by decide) hJ (Nat.le_of_ble_eq_true rfl) ?_
  intro p e s m below meth c ls C hr hI hl
  have hx := C.1
  have hb := C.2.1
  have hl : lv_has ls 1 [(0, .int x0)] := hl
  unfold f_X10_isShelf at h
  refine lv_iload_n hx hb dX10_isShelf_0 rfl (lv_at hl 0 rfl) ?_
  refine lv_iconst hx hb dX10_isShelf_1 ci_0 ?_
  refine lv_iconst hx hb dX10_isShelf_2 ci_5 ?_
  refine h_callsi_o (rest := []) C hI hl.1 ys_X10_within k_1240 h (fun q hq => c_X10_within l D t ad z C.2.2.2.2.2.2.1 (σ) x0 0 5 q hq) (As := [.int x0, .int 0, .int 5]) rfl rfl ⟨Nat.le_of_ble_eq_true rfl, Nat.le_of_ble_eq_true rfl⟩ (Nat.le_of_ble_eq_true rfl) dX10_isShelf_3 (fun q1 H locs h hI => ?_)
  exact h_zret_o C hr hI h dX10_isShelf_6
set_option maxRecDepth 100000 in
set_option maxHeartbeats 4000000 in
theorem c_X10_newPost (l : Launch) (D : va_G) (t : gT) (ad z : Nat → Nat) (hJ : gJ shM ad) (σ : gS) (x1 : Int32) (x2 : Int32) (x3 : Int32) (q : Int32 × gS) (h : f_X10_newPost σ x1 x2 x3 = some q) : Met l yX10_newPost (Cond.code yX10_newPost cX10_newPost 4 (some .int) :: lw_tb) (gR 1 60) (gPc shM t ad D z [.ref (ad 0), .int x1, .int x2, .int x3] σ) (gQi shM t ad D q.1 q.2) 0 0 (gA shM ad) := by
  refine gMet "NineKeysRoundModel" rfl (by decide) hJ (Nat.le_of_ble_eq_true rfl) ?_
  intro p e s m below meth c ls C hr hI hl
  have hx := C.1
  have hb := C.2.1
  have hl : lv_has ls 4 [(0, .ref (ad 0)), (1, .int x1), (2, .int x2), (3, .int x3)] := hl
  unfold f_X10_newPost at h
  refine lv_aload_n hx hb dX10_newPost_0 rfl (lv_at hl 0 rfl) ?_
  refine fr_1062 C hI shM_0 rfl dX10_newPost_1 ?_
  refine lv_aload_n hx hb dX10_newPost_4 rfl (lv_at hl 0 rfl) ?_
  refine fg_1061 C hI shM_0 rfl dX10_newPost_5 ?_
  refine lv_iload_n hx hb dX10_newPost_8 rfl (lv_at hl 1 rfl) ?_
  refine gx_iast C hI shM_1 h dX10_newPost_9 (fun H locs h hI => ?_)
  refine gx_st h hI (fun s1 h hI => ?_)
  refine lv_aload_n hx hb dX10_newPost_10 rfl (lv_at hl 0 rfl) ?_
  refine fr_1063 C hI shM_0 rfl dX10_newPost_11 ?_
  refine lv_aload_n hx hb dX10_newPost_14 rfl (lv_at hl 0 rfl) ?_
  refine fg_1061 C hI shM_0 rfl dX10_newPost_15 ?_
  refine lv_iload_n hx hb dX10_newPost_18 rfl (lv_at hl 2 rfl) ?_
  refine gx_iast C hI shM_2 h dX10_newPost_19 (fun H locs h hI => ?_)
  refine gx_st h hI (fun s2 h hI => ?_)
  refine lv_aload_n hx hb dX10_newPost_20 rfl (lv_at hl 0 rfl) ?_
  refine fr_1064 C hI shM_0 rfl dX10_newPost_21 ?_
  refine lv_aload_n hx hb dX10_newPost_24 rfl (lv_at hl 0 rfl) ?_
  refine fg_1061 C hI shM_0 rfl dX10_newPost_25 ?_
  refine lv_iload_n hx hb dX10_newPost_28 rfl (lv_at hl 3 rfl) ?_
  refine gx_iast C hI shM_3 h dX10_newPost_29 (fun H locs h hI => ?_)
  refine gx_st h hI (fun s3 h hI => ?_)
  refine lv_aload_n hx hb dX10_newPost_30 rfl (lv_at hl 0 rfl) ?_
  refine fr_1065 C hI shM_0 rfl dX10_newPost_31 ?_
  refine lv_aload_n hx hb dX10_newPost_34 rfl (lv_at hl 0 rfl) ?_
  refine fg_1061 C hI shM_0 rfl dX10_newPost_35 ?_
  refine lv_bipush hx hb dX10_newPost_38 cb_60 ?_
  refine gx_iast C hI shM_4 h dX10_newPost_40 (fun H locs h hI => ?_)
  refine gx_st h hI (fun s4 h hI => ?_)
  refine lv_aload_n hx hb dX10_newPost_41 rfl (lv_at hl 0 rfl) ?_
  refine fr_1087 C hI shM_0 rfl dX10_newPost_42 ?_
  refine lv_aload_n hx hb dX10_newPost_45 rfl (lv_at hl 0 rfl) ?_
  refine fg_1061 C hI shM_0 rfl dX10_newPost_46 ?_
  refine lv_iconst hx hb dX10_newPost_49 ci_0 ?_
  refine gx_iast C hI shM_17 h dX10_newPost_50 (fun H locs h hI => ?_)
  refine gx_st h hI (fun s5 h hI => ?_)
  refine lv_aload_n hx hb dX10_newPost_51 rfl (lv_at hl 0 rfl) ?_
  refine lv_dup hx hb dX10_newPost_52 rfl ?_
  refine fg_1061 C hI shM_0 rfl dX10_newPost_53 ?_
  refine gx_topi h (fun v6 h => ?_)
  refine lv_dup_x1 hx hb dX10_newPost_56 rfl rfl ?_
  refine lv_iconst hx hb dX10_newPost_57 ci_1 ?_
  refine lv_iadd hx hb dX10_newPost_58 ?_
  refine fp_1061 C hI shM_0 rfl dX10_newPost_59 (fun H locs hI => ?_)
  refine gx_st h hI (fun s7 h hI => ?_)
  exact h_iret_w C hr hI h dX10_newPost_62
set_option maxRecDepth 100000 in
set_option maxHeartbeats 4000000 in
theorem c_X10_post (l : Launch) (D : va_G) (t : gT) (ad z : Nat → Nat) (hJ : gJ shM ad) (σ : gS) (x1 : Int32) (q : Int32 × gS) (h : f_X10_post σ x1 = some q) : Met l yX10_post (Cond.code yX10_post cX10_post 2 (some .int) :: lw_tb) (gR 2 83) (gPc shM t ad D z [.ref (ad 0), .int x1] σ) (gQi shM t ad D q.1 q.2) 0 0 (gA shM ad) := by
  refine gMet "NineKeysRoundModel" rfl (by decide) hJ (Nat.le_of_ble_eq_true rfl) ?_
  intro p e s m below meth c ls C hr hI hl
  have hx := C.1
  have hb := C.2.1
  have hl : lv_has ls 2 [(0, .ref (ad 0)), (1, .int x1)] := hl
  unfold f_X10_post at h
  refine lv_iload_n hx hb dX10_post_0 rfl (lv_at hl 1 rfl) ?_
  refine hif_lt (tgt := 22) C dX10_post_1 (by decide) h (fun h => ?_) (fun h => ?_)
  · refine lv_iconst hx hb dX10_post_22 ci_m1 ?_
    exact h_iret_w C hr hI h dX10_post_23
  · refine lv_iload_n hx hb dX10_post_4 rfl (lv_at hl 1 rfl) ?_
    refine lv_bipush hx hb dX10_post_5 cb_100 ?_
    refine h_idiv C dX10_post_7 h (fun h => ?_)
    refine lv_bipush hx hb dX10_post_8 cb_15 ?_
    refine hicmp_gt (tgt := 22) C dX10_post_10 (by decide) h (fun h => ?_) (fun h => ?_)
    · refine lv_iconst hx hb dX10_post_22 ci_m1 ?_
      exact h_iret_w C hr hI h dX10_post_23
    · refine lv_iload_n hx hb dX10_post_13 rfl (lv_at hl 1 rfl) ?_
      refine lv_bipush hx hb dX10_post_14 cb_100 ?_
      refine h_irem C dX10_post_16 h (fun h => ?_)
      refine lv_bipush hx hb dX10_post_17 cb_15 ?_
      refine hicmp_le (tgt := 24) C dX10_post_19 (by decide) h (fun h => ?_) (fun h => ?_)
      · refine lv_aload_n hx hb dX10_post_24 rfl (lv_at hl 0 rfl) ?_
        refine fg_1061 C hI shM_0 rfl dX10_post_25 ?_
        refine lv_bipush hx hb dX10_post_28 cb_9 ?_
        refine hicmp_ne (tgt := 38) C dX10_post_30 (by decide) h (fun h => ?_) (fun h => ?_)
        · refine lv_aload_n hx hb dX10_post_38 rfl (lv_at hl 0 rfl) ?_
          refine lv_iload_n hx hb dX10_post_39 rfl (lv_at hl 1 rfl) ?_
          refine lv_bipush hx hb dX10_post_40 cb_100 ?_
          refine h_irem C dX10_post_42 h (fun h => ?_)
          refine lv_iload_n hx hb dX10_post_43 rfl (lv_at hl 1 rfl) ?_
          refine lv_bipush hx hb dX10_post_44 cb_100 ?_
          refine h_idiv C dX10_post_46 h (fun h => ?_)
          refine lv_iconst hx hb dX10_post_47 ci_1 ?_
          refine h_callvi_w (rest := []) C hI hl.1 shM_0 rfl yv_X10_newPost k_1229 h (fun q hq => c_X10_newPost l D t ad z C.2.2.2.2.2.2.1 (σ) (x1 - x1 / 100 * 100) (x1 / 100) 1 q hq) (As := [.int (x1 - x1 / 100 * 100), .int (x1 / 100), .int 1]) rfl rfl ⟨Nat.le_of_ble_eq_true rfl, Nat.le_of_ble_eq_true rfl⟩ (Nat.le_of_ble_eq_true rfl) dX10_post_48 (fun q1 H locs h hI => ?_)
          exact h_iret_w C hr hI h dX10_post_51
        · refine lv_bipush hx hb dX10_post_33 cb_m3 ?_
          refine lv_goto (tgt := 51) hx hb dX10_post_35 (by decide) ?_
          exact h_iret_w C hr hI h dX10_post_51
      · refine lv_iconst hx hb dX10_post_22 ci_m1 ?_
        exact h_iret_w C hr hI h dX10_post_23
set_option maxRecDepth 100000 in
set_option maxHeartbeats 4000000 in
theorem w_X10_posts_49 {p : Program} {l : Launch} {e : Env} {s : State} {m : MethodId} {args : Array Value} {below : List Frame} {meth : Method} {c : Code} {D : va_G} {t : gT} {ad z : Nat → Nat} (C : gC p s m args meth c cX10_posts 9 "NineKeysRoundModel" D t shM ad z) (hr : meth.sig.returnType = some .int) {r : Int32 × gS} : ∀ (n : Nat) (x1 : Int32) (x2 : Int32) (x3 : Int32) (x4 : Int32) (x5 : Int32) (σ : gS) (H : Heap) (locs : List Loc) (ls : Array Slot), f_X10_posts_49 n x1 x2 x3 x4 x5 σ = some r → gI shM t ad D s.heap σ H locs → lv_has ls 9 [(0, .ref (ad 0)), (1, .int x1), (2, .int x2), (3, .int x3), (4, .int x4), (5, .int x5)] → W p l e (gR 3 102) s m args below meth c H locs 0 0 (MQ below (gQi shM t ad D r.1 r.2) args s 0 0 (gA shM ad)) (F0 m 49 ls []) := by
  have hx := C.1
  have hb := C.2.1
  intro n
  induction n with
  | zero =>
    intro x1 x2 x3 x4 x5 σ H locs ls  h
    exact absurd h (by simp [f_X10_posts_49])
  | succ n ih =>
    intro x1 x2 x3 x4 x5 σ H locs ls  h hI hl
    unfold f_X10_posts_49 at h
    refine lv_iload hx hb dX10_posts_49 (lv_at hl 5 rfl) ?_
    refine lv_iload_n hx hb dX10_posts_51 rfl (lv_at hl 3 rfl) ?_
    refine hicmp_ge (tgt := 213) C dX10_posts_52 (by decide) h (fun h => ?_) (fun h => ?_)
    · refine lv_iload hx hb dX10_posts_213 (lv_at hl 4 rfl) ?_
      exact h_iret_w C hr hI h dX10_posts_215
    · refine lv_iload_n hx hb dX10_posts_55 rfl (lv_at hl 2 rfl) ?_
      refine lv_i2l (v := ((x2 : Int32).toInt64)) hx hb dX10_posts_56 rfl ?_
      refine lv_ldc2 hx hb C.2.2.2.1 (C.2.2.2.2.1 _ k_1243) dX10_posts_57 ?_
      refine lv_iload hx hb dX10_posts_60 (lv_at hl 5 rfl) ?_
      refine lv_i2l (v := ((x5 : Int32).toInt64)) hx hb dX10_posts_62 rfl ?_
      refine lv_lmul hx hb dX10_posts_63 ?_
      refine lv_ladd hx hb dX10_posts_64 ?_
      refine gx_topl h (fun v1 h => ?_)
      refine lv_lstore (lv' := [(6, .long v1), (0, .ref (ad 0)), (1, .int x1), (2, .int x2), (3, .int x3), (4, .int x4), (5, .int x5)]) hx hb dX10_posts_65 hl (by decide) rfl (fun ls hl => ?_)
      refine lv_lload hx hb dX10_posts_67 (lv_at hl 0 rfl) ?_
      refine lv_lconst (v := 0) hx hb dX10_posts_69 rfl ?_
      refine W.lcmp hx hb dX10_posts_70 ?_
      refine hif_lt (tgt := 100) C dX10_posts_71 (by decide) h (fun h => ?_) (fun h => ?_)
      · refine lv_iload hx hb dX10_posts_100 (lv_at hl 5 rfl) ?_
        exact h_iret_w C hr hI h dX10_posts_102
      · refine lv_lload hx hb dX10_posts_74 (lv_at hl 0 rfl) ?_
        refine lv_ldc2 hx hb C.2.2.2.1 (C.2.2.2.2.1 _ k_1243) dX10_posts_76 ?_
        refine lv_ladd hx hb dX10_posts_79 ?_
        refine lv_aload_n hx hb dX10_posts_80 rfl (lv_at hl 1 rfl) ?_
        refine fr_1103 C hI shM_0 rfl dX10_posts_81 ?_
        refine lv_iload_n hx hb dX10_posts_84 rfl (lv_at hl 2 rfl) ?_
        refine gx_iald C hI shM_25 h dX10_posts_85 (fun h => ?_)
        refine lv_i2l (v := (((σ.1 25 (x1).toNatClampNeg) : Int32).toInt64)) hx hb dX10_posts_86 rfl ?_
        refine W.lcmp hx hb dX10_posts_87 ?_
        refine hif_gt (tgt := 100) C dX10_posts_88 (by decide) h (fun h => ?_) (fun h => ?_)
        · refine lv_iload hx hb dX10_posts_100 (lv_at hl 5 rfl) ?_
          exact h_iret_w C hr hI h dX10_posts_102
        · refine lv_aload_n hx hb dX10_posts_91 rfl (lv_at hl 1 rfl) ?_
          refine fg_1061 C hI shM_0 rfl dX10_posts_92 ?_
          refine lv_bipush hx hb dX10_posts_95 cb_9 ?_
          refine hicmp_ne (tgt := 103) C dX10_posts_97 (by decide) h (fun h => ?_) (fun h => ?_)
          · refine lv_bipush hx hb dX10_posts_103 cb_60 ?_
            refine lv_iload_n hx hb dX10_posts_105 rfl (lv_at hl 2 rfl) ?_
            refine lv_imul hx hb dX10_posts_106 ?_
            refine lv_lload hx hb dX10_posts_107 (lv_at hl 0 rfl) ?_
            refine lv_l2i (v := ((v1 : Int64).toInt32)) hx hb dX10_posts_109 rfl ?_
            refine lv_iadd hx hb dX10_posts_110 ?_
            refine gx_topi h (fun v2 h => ?_)
            refine lv_istore (lv' := [(8, .int v2), (6, .long v1), (0, .ref (ad 0)), (1, .int x1), (2, .int x2), (3, .int x3), (4, .int x4), (5, .int x5)]) hx hb dX10_posts_111 hl (by decide) rfl (fun ls hl => ?_)
            refine lv_aload_n hx hb dX10_posts_113 rfl (lv_at hl 2 rfl) ?_
            refine fr_1104 C hI shM_0 rfl dX10_posts_114 ?_
            refine lv_iload hx hb dX10_posts_117 (lv_at hl 0 rfl) ?_
            refine gx_lald C hI shM_26 h dX10_posts_119 (fun h => ?_)
            refine lv_l2i (v := (((σ.2 26 (v2).toNatClampNeg) : Int64).toInt32)) hx hb dX10_posts_120 rfl ?_
            refine lv_iconst hx hb dX10_posts_121 ci_0 ?_
            refine lv_bipush hx hb dX10_posts_122 cb_15 ?_
            refine h_callsi_o (rest := []) C hI hl.1 ys_X10_within k_1240 h (fun q hq => c_X10_within l D t ad z C.2.2.2.2.2.2.1 (σ) (((σ.2 26 (v2).toNatClampNeg) : Int64).toInt32) 0 15 q hq) (As := [.int (((σ.2 26 (v2).toNatClampNeg) : Int64).toInt32), .int 0, .int 15]) rfl rfl ⟨Nat.le_of_ble_eq_true rfl, Nat.le_of_ble_eq_true rfl⟩ (Nat.le_of_ble_eq_true rfl) dX10_posts_124 (fun q3 H locs h hI => ?_)
            refine hif_eq (tgt := 168) C dX10_posts_127 (by decide) h (fun h => ?_) (fun h => ?_)
            · refine lv_iload hx hb dX10_posts_168 (lv_at hl 6 rfl) ?_
              exact h_iret_w C hr hI h dX10_posts_170
            · refine lv_aload_n hx hb dX10_posts_130 rfl (lv_at hl 2 rfl) ?_
              refine fr_1104 C hI shM_0 rfl dX10_posts_131 ?_
              refine lv_iload hx hb dX10_posts_134 (lv_at hl 0 rfl) ?_
              refine lv_iconst hx hb dX10_posts_136 ci_1 ?_
              refine lv_iadd hx hb dX10_posts_137 ?_
              refine gx_lald C hI shM_26 h dX10_posts_138 (fun h => ?_)
              refine lv_l2i (v := (((σ.2 26 ((v2 + 1)).toNatClampNeg) : Int64).toInt32)) hx hb dX10_posts_139 rfl ?_
              refine lv_iconst hx hb dX10_posts_140 ci_0 ?_
              refine lv_bipush hx hb dX10_posts_141 cb_15 ?_
              refine h_callsi_o (rest := []) C hI hl.1 ys_X10_within k_1240 h (fun q hq => c_X10_within l D t ad z C.2.2.2.2.2.2.1 (σ) (((σ.2 26 ((v2 + 1)).toNatClampNeg) : Int64).toInt32) 0 15 q hq) (As := [.int (((σ.2 26 ((v2 + 1)).toNatClampNeg) : Int64).toInt32), .int 0, .int 15]) rfl rfl ⟨Nat.le_of_ble_eq_true rfl, Nat.le_of_ble_eq_true rfl⟩ (Nat.le_of_ble_eq_true rfl) dX10_posts_143 (fun q4 H locs h hI => ?_)
              refine hif_eq (tgt := 168) C dX10_posts_146 (by decide) h (fun h => ?_) (fun h => ?_)
              · refine lv_iload hx hb dX10_posts_168 (lv_at hl 6 rfl) ?_
                exact h_iret_w C hr hI h dX10_posts_170
              · refine lv_aload_n hx hb dX10_posts_149 rfl (lv_at hl 2 rfl) ?_
                refine fr_1104 C hI shM_0 rfl dX10_posts_150 ?_
                refine lv_iload hx hb dX10_posts_153 (lv_at hl 0 rfl) ?_
                refine lv_iconst hx hb dX10_posts_155 ci_2 ?_
                refine lv_iadd hx hb dX10_posts_156 ?_
                refine gx_lald C hI shM_26 h dX10_posts_157 (fun h => ?_)
                refine lv_l2i (v := (((σ.2 26 ((v2 + 2)).toNatClampNeg) : Int64).toInt32)) hx hb dX10_posts_158 rfl ?_
                refine lv_iconst hx hb dX10_posts_159 ci_0 ?_
                refine lv_bipush hx hb dX10_posts_160 cb_9 ?_
                refine h_callsi_o (rest := []) C hI hl.1 ys_X10_within k_1240 h (fun q hq => c_X10_within l D t ad z C.2.2.2.2.2.2.1 (σ) (((σ.2 26 ((v2 + 2)).toNatClampNeg) : Int64).toInt32) 0 9 q hq) (As := [.int (((σ.2 26 ((v2 + 2)).toNatClampNeg) : Int64).toInt32), .int 0, .int 9]) rfl rfl ⟨Nat.le_of_ble_eq_true rfl, Nat.le_of_ble_eq_true rfl⟩ (Nat.le_of_ble_eq_true rfl) dX10_posts_162 (fun q5 H locs h hI => ?_)
                refine hif_ne (tgt := 171) C dX10_posts_165 (by decide) h (fun h => ?_) (fun h => ?_)
                · refine lv_aload_n hx hb dX10_posts_171 rfl (lv_at hl 2 rfl) ?_
                  refine lv_aload_n hx hb dX10_posts_172 rfl (lv_at hl 2 rfl) ?_
                  refine fr_1104 C hI shM_0 rfl dX10_posts_173 ?_
                  refine lv_iload hx hb dX10_posts_176 (lv_at hl 0 rfl) ?_
                  refine gx_lald C hI shM_26 h dX10_posts_178 (fun h => ?_)
                  refine lv_l2i (v := (((σ.2 26 (v2).toNatClampNeg) : Int64).toInt32)) hx hb dX10_posts_179 rfl ?_
                  refine lv_aload_n hx hb dX10_posts_180 rfl (lv_at hl 2 rfl) ?_
                  refine fr_1104 C hI shM_0 rfl dX10_posts_181 ?_
                  refine lv_iload hx hb dX10_posts_184 (lv_at hl 0 rfl) ?_
                  refine lv_iconst hx hb dX10_posts_186 ci_1 ?_
                  refine lv_iadd hx hb dX10_posts_187 ?_
                  refine gx_lald C hI shM_26 h dX10_posts_188 (fun h => ?_)
                  refine lv_l2i (v := (((σ.2 26 ((v2 + 1)).toNatClampNeg) : Int64).toInt32)) hx hb dX10_posts_189 rfl ?_
                  refine lv_aload_n hx hb dX10_posts_190 rfl (lv_at hl 2 rfl) ?_
                  refine fr_1104 C hI shM_0 rfl dX10_posts_191 ?_
                  refine lv_iload hx hb dX10_posts_194 (lv_at hl 0 rfl) ?_
                  refine lv_iconst hx hb dX10_posts_196 ci_2 ?_
                  refine lv_iadd hx hb dX10_posts_197 ?_
                  refine gx_lald C hI shM_26 h dX10_posts_198 (fun h => ?_)
                  refine lv_l2i (v := (((σ.2 26 ((v2 + 2)).toNatClampNeg) : Int64).toInt32)) hx hb dX10_posts_199 rfl ?_
                  refine h_callvi_w (rest := []) C hI hl.1 shM_0 rfl yv_X10_newPost k_1229 h (fun q hq => c_X10_newPost l D t ad z C.2.2.2.2.2.2.1 (σ) (((σ.2 26 (v2).toNatClampNeg) : Int64).toInt32) (((σ.2 26 ((v2 + 1)).toNatClampNeg) : Int64).toInt32) (((σ.2 26 ((v2 + 2)).toNatClampNeg) : Int64).toInt32) q hq) (As := [.int (((σ.2 26 (v2).toNatClampNeg) : Int64).toInt32), .int (((σ.2 26 ((v2 + 1)).toNatClampNeg) : Int64).toInt32), .int (((σ.2 26 ((v2 + 2)).toNatClampNeg) : Int64).toInt32)]) rfl rfl ⟨Nat.le_of_ble_eq_true rfl, Nat.le_of_ble_eq_true rfl⟩ (Nat.le_of_ble_eq_true rfl) dX10_posts_200 (fun q6 H locs h hI => ?_)
                  refine lv_pop hx hb dX10_posts_203 rfl ?_
                  refine h_iinc C hl dX10_posts_204 6 rfl ci_1 h (by decide) (lvf := fun v7 => [(4, .int v7), (8, .int v2), (6, .long v1), (0, .ref (ad 0)), (1, .int x1), (2, .int x2), (3, .int x3), (5, .int x5)]) (fun _ => rfl) (fun v7 ls h hl => ?_)
                  refine h_iinc C hl dX10_posts_207 7 rfl ci_1 h (by decide) (lvf := fun v8 => [(5, .int v8), (4, .int v7), (8, .int v2), (6, .long v1), (0, .ref (ad 0)), (1, .int x1), (2, .int x2), (3, .int x3)]) (fun _ => rfl) (fun v8 ls h hl => ?_)
                  refine lv_goto (tgt := 49) hx hb dX10_posts_210 (by decide) ?_
                  exact ih _ _ _ _ _ _ _ _ _  h hI (lv_sub hl [4, 5, 6, 7, 1, 0] rfl)
                · refine lv_iload hx hb dX10_posts_168 (lv_at hl 6 rfl) ?_
                  exact h_iret_w C hr hI h dX10_posts_170
          · refine lv_iload hx hb dX10_posts_100 (lv_at hl 5 rfl) ?_
            exact h_iret_w C hr hI h dX10_posts_102
set_option maxRecDepth 100000 in
set_option maxHeartbeats 4000000 in
theorem c_X10_posts (l : Launch) (D : va_G) (t : gT) (ad z : Nat → Nat) (hJ : gJ shM ad) (σ : gS) (x1 : Int32) (x2 : Int32) (x3 : Int32) (q : Int32 × gS) (h : f_X10_posts σ x1 x2 x3 = some q) : Met l yX10_posts (Cond.code yX10_posts cX10_posts 9 (some .int) :: lw_tb) (gR 3 102) (gPc shM t ad D z [.ref (ad 0), .int x1, .int x2, .int x3] σ) (gQi shM t ad D q.1 q.2) 0 0 (gA shM ad) := by
  refine gMet "NineKeysRoundModel" rfl (by decide) hJ (Nat.le_of_ble_eq_true rfl) ?_
  intro p e s m below meth c ls C hr hI hl
  have hx := C.1
  have hb := C.2.1
  have hl : lv_has ls 9 [(0, .ref (ad 0)), (1, .int x1), (2, .int x2), (3, .int x3)] := hl
  unfold f_X10_posts at h
  refine lv_iload_n hx hb dX10_posts_0 rfl (lv_at hl 1 rfl) ?_
  refine h_callsi_o (rest := []) C hI hl.1 ys_X10_isShelf k_1237 h (fun q hq => c_X10_isShelf l D t ad z C.2.2.2.2.2.2.1 (σ) x1 q hq) (As := [.int x1]) rfl rfl ⟨Nat.le_of_ble_eq_true rfl, Nat.le_of_ble_eq_true rfl⟩ (Nat.le_of_ble_eq_true rfl) dX10_posts_1 (fun q1 H locs h hI => ?_)
  refine hif_eq (tgt := 17) C dX10_posts_4 (by decide) h (fun h => ?_) (fun h => ?_)
  · refine lv_iconst hx hb dX10_posts_17 ci_m1 ?_
    exact h_iret_w C hr hI h dX10_posts_18
  · refine lv_iload_n hx hb dX10_posts_7 rfl (lv_at hl 3 rfl) ?_
    refine lv_iconst hx hb dX10_posts_8 ci_1 ?_
    refine lv_bipush hx hb dX10_posts_9 cb_9 ?_
    refine h_callsi_o (rest := []) C hI hl.1 ys_X10_within k_1240 h (fun q hq => c_X10_within l D t ad z C.2.2.2.2.2.2.1 (σ) x3 1 9 q hq) (As := [.int x3, .int 1, .int 9]) rfl rfl ⟨Nat.le_of_ble_eq_true rfl, Nat.le_of_ble_eq_true rfl⟩ (Nat.le_of_ble_eq_true rfl) dX10_posts_11 (fun q2 H locs h hI => ?_)
    refine hif_ne (tgt := 19) C dX10_posts_14 (by decide) h (fun h => ?_) (fun h => ?_)
    · refine lv_aload_n hx hb dX10_posts_19 rfl (lv_at hl 0 rfl) ?_
      refine fr_1102 C hI shM_0 rfl dX10_posts_20 ?_
      refine lv_iload_n hx hb dX10_posts_23 rfl (lv_at hl 1 rfl) ?_
      refine gx_iald C hI shM_24 h dX10_posts_24 (fun h => ?_)
      refine lv_iconst hx hb dX10_posts_25 ci_m1 ?_
      refine hicmp_ne (tgt := 31) C dX10_posts_26 (by decide) h (fun h => ?_) (fun h => ?_)
      · refine lv_aload_n hx hb dX10_posts_31 rfl (lv_at hl 0 rfl) ?_
        refine fr_1102 C hI shM_0 rfl dX10_posts_32 ?_
        refine lv_iload_n hx hb dX10_posts_35 rfl (lv_at hl 1 rfl) ?_
        refine gx_iald C hI shM_24 h dX10_posts_36 (fun h => ?_)
        refine hif_eq (tgt := 43) C dX10_posts_37 (by decide) h (fun h => ?_) (fun h => ?_)
        · refine lv_iconst hx hb dX10_posts_43 ci_0 ?_
          refine lv_istore (lv' := [(4, .int 0), (0, .ref (ad 0)), (1, .int x1), (2, .int x2), (3, .int x3)]) hx hb dX10_posts_44 hl (by decide) rfl (fun ls hl => ?_)
          refine lv_iconst hx hb dX10_posts_46 ci_0 ?_
          refine lv_istore (lv' := [(5, .int 0), (4, .int 0), (0, .ref (ad 0)), (1, .int x1), (2, .int x2), (3, .int x3)]) hx hb dX10_posts_47 hl (by decide) rfl (fun ls hl => ?_)
          exact w_X10_posts_49 C hr    _ _ _ _ _ _ _ _ _ _  h hI (lv_sub hl [2, 3, 4, 5, 1, 0] rfl)
        · refine lv_bipush hx hb dX10_posts_40 cb_m12 ?_
          exact h_iret_w C hr hI h dX10_posts_42
      · refine lv_iconst hx hb dX10_posts_29 ci_0 ?_
        exact h_iret_w C hr hI h dX10_posts_30
    · refine lv_iconst hx hb dX10_posts_17 ci_m1 ?_
      exact h_iret_w C hr hI h dX10_posts_18
set_option maxRecDepth 100000 in
set_option maxHeartbeats 4000000 in
theorem c_X10_isOf (l : Launch) (D : va_G) (t : gT) (ad z : Nat → Nat) (hJ : gJ shM ad) (σ : gS) (x1 : Int32) (x2 : Int32) (q : Int32) (h : f_X10_isOf σ x1 x2 = some q) : Met l yX10_isOf (Cond.code yX10_isOf cX10_isOf 3 (some .boolean) :: lw_tb) (gR 2 82) (gPc shM t ad D z [.ref (ad 0), .int x1, .int x2] σ) (gQi shM t ad D q σ) 0 0 (gA shM ad) := by
  refine gMet "NineKeysRoundModel" rfl (by decide) hJ (Nat.le_of_ble_eq_true rfl) ?_
  intro p e s m below meth c ls C hr hI hl
  have hx := C.1
  have hb := C.2.1
  have hl : lv_has ls 3 [(0, .ref (ad 0)), (1, .int x1), (2, .int x2)] := hl
  unfold f_X10_isOf at h
  refine lv_iload_n hx hb dX10_isOf_0 rfl (lv_at hl 2 rfl) ?_
  refine lv_iconst hx hb dX10_isOf_1 ci_0 ?_
  refine lv_iconst hx hb dX10_isOf_2 ci_3 ?_
  refine h_callsi_o (rest := []) C hI hl.1 ys_X10_within k_1240 h (fun q hq => c_X10_within l D t ad z C.2.2.2.2.2.2.1 (σ) x2 0 3 q hq) (As := [.int x2, .int 0, .int 3]) rfl rfl ⟨Nat.le_of_ble_eq_true rfl, Nat.le_of_ble_eq_true rfl⟩ (Nat.le_of_ble_eq_true rfl) dX10_isOf_3 (fun q1 H locs h hI => ?_)
  refine hif_eq (tgt := 18) C dX10_isOf_6 (by decide) h (fun h => ?_) (fun h => ?_)
  · refine lv_iload_n hx hb dX10_isOf_18 rfl (lv_at hl 2 rfl) ?_
    refine lv_iconst hx hb dX10_isOf_19 ci_4 ?_
    refine lv_bipush hx hb dX10_isOf_20 cb_7 ?_
    refine h_callsi_o (rest := []) C hI hl.1 ys_X10_within k_1240 h (fun q hq => c_X10_within l D t ad z C.2.2.2.2.2.2.1 (σ) x2 4 7 q hq) (As := [.int x2, .int 4, .int 7]) rfl rfl ⟨Nat.le_of_ble_eq_true rfl, Nat.le_of_ble_eq_true rfl⟩ (Nat.le_of_ble_eq_true rfl) dX10_isOf_22 (fun q2 H locs h hI => ?_)
    refine hif_eq (tgt := 36) C dX10_isOf_25 (by decide) h (fun h => ?_) (fun h => ?_)
    · refine lv_iconst hx hb dX10_isOf_36 ci_0 ?_
      exact h_zret_o C hr hI h dX10_isOf_37
    · refine lv_iload_n hx hb dX10_isOf_28 rfl (lv_at hl 1 rfl) ?_
      refine hif_ne (tgt := 36) C dX10_isOf_29 (by decide) h (fun h => ?_) (fun h => ?_)
      · refine lv_iconst hx hb dX10_isOf_36 ci_0 ?_
        exact h_zret_o C hr hI h dX10_isOf_37
      · refine lv_iconst hx hb dX10_isOf_32 ci_1 ?_
        refine lv_goto (tgt := 37) hx hb dX10_isOf_33 (by decide) ?_
        exact h_zret_o C hr hI h dX10_isOf_37
  · refine lv_aload_n hx hb dX10_isOf_9 rfl (lv_at hl 0 rfl) ?_
    refine lv_iload_n hx hb dX10_isOf_10 rfl (lv_at hl 1 rfl) ?_
    refine lv_i2l (v := ((x1 : Int32).toInt64)) hx hb dX10_isOf_11 rfl ?_
    refine h_callvi_o (rest := []) C hI hl.1 shM_0 rfl yv_X10_isPost k_1252 h (fun q hq => c_X10_isPost l D t ad z C.2.2.2.2.2.2.1 (σ) ((x1 : Int32).toInt64) q hq) (As := [.long ((x1 : Int32).toInt64)]) rfl rfl ⟨Nat.le_of_ble_eq_true rfl, Nat.le_of_ble_eq_true rfl⟩ (Nat.le_of_ble_eq_true rfl) dX10_isOf_12 (fun q3 H locs h hI => ?_)
    refine lv_goto (tgt := 37) hx hb dX10_isOf_15 (by decide) ?_
    exact h_zret_o C hr hI h dX10_isOf_37
set_option maxRecDepth 100000 in
set_option maxHeartbeats 4000000 in
theorem w_X10_isFit_40 {p : Program} {l : Launch} {e : Env} {s : State} {m : MethodId} {args : Array Value} {below : List Frame} {meth : Method} {c : Code} {D : va_G} {t : gT} {ad z : Nat → Nat} {σ : gS} (C : gC p s m args meth c cX10_isFit 2 "NineKeysRoundModel" D t shM ad z) (hr : meth.sig.returnType = some .boolean) {r : Int32} : ∀ (x1 : Int32) (H : Heap) (locs : List Loc) (ls : Array Slot), f_X10_isFit_40 σ x1 = some r → gI shM t ad D s.heap σ H locs → lv_has ls 2 [(1, .int x1)] → W p l e (gR 2 82) s m args below meth c H locs 0 0 (MQ below (gQi shM t ad D r σ) args s 0 0 (gA shM ad)) (F0 m 40 ls []) := by
  have hx := C.1
  have hb := C.2.1
  intro x1 H locs ls  h hI hl
  unfold f_X10_isFit_40 at h
  refine lv_iload_n hx hb dX10_isFit_40 rfl (lv_at hl 0 rfl) ?_
  refine lv_iconst hx hb dX10_isFit_41 ci_0 ?_
  refine lv_bipush hx hb dX10_isFit_42 cb_9 ?_
  refine h_callsi_o (rest := []) C hI hl.1 ys_X10_within k_1240 h (fun q hq => c_X10_within l D t ad z C.2.2.2.2.2.2.1 (σ) x1 0 9 q hq) (As := [.int x1, .int 0, .int 9]) rfl rfl ⟨Nat.le_of_ble_eq_true rfl, Nat.le_of_ble_eq_true rfl⟩ (Nat.le_of_ble_eq_true rfl) dX10_isFit_44 (fun q1 H locs h hI => ?_)
  exact h_zret_o C hr hI h dX10_isFit_47
set_option maxRecDepth 100000 in
set_option maxHeartbeats 4000000 in
theorem w_X10_isFit_65 {p : Program} {l : Launch} {e : Env} {s : State} {m : MethodId} {args : Array Value} {below : List Frame} {meth : Method} {c : Code} {D : va_G} {t : gT} {ad z : Nat → Nat} {σ : gS} (C : gC p s m args meth c cX10_isFit 2 "NineKeysRoundModel" D t shM ad z) (hr : meth.sig.returnType = some .boolean) {r : Int32} : ∀ (x1 : Int32) (H : Heap) (locs : List Loc) (ls : Array Slot), f_X10_isFit_65 σ x1 = some r → gI shM t ad D s.heap σ H locs → lv_has ls 2 [(1, .int x1)] → W p l e (gR 2 82) s m args below meth c H locs 0 0 (MQ below (gQi shM t ad D r σ) args s 0 0 (gA shM ad)) (F0 m 65 ls []) := by
  have hx := C.1
  have hb := C.2.1
  intro x1 H locs ls  h hI hl
  unfold f_X10_isFit_65 at h
  refine lv_iload_n hx hb dX10_isFit_65 rfl (lv_at hl 0 rfl) ?_
  refine lv_iconst hx hb dX10_isFit_66 ci_0 ?_
  refine lv_bipush hx hb dX10_isFit_67 cb_15 ?_
  refine h_callsi_o (rest := []) C hI hl.1 ys_X10_within k_1240 h (fun q hq => c_X10_within l D t ad z C.2.2.2.2.2.2.1 (σ) x1 0 15 q hq) (As := [.int x1, .int 0, .int 15]) rfl rfl ⟨Nat.le_of_ble_eq_true rfl, Nat.le_of_ble_eq_true rfl⟩ (Nat.le_of_ble_eq_true rfl) dX10_isFit_69 (fun q1 H locs h hI => ?_)
  exact h_zret_o C hr hI h dX10_isFit_72
set_option maxRecDepth 100000 in
set_option maxHeartbeats 4000000 in
theorem c_X10_isFit (l : Launch) (D : va_G) (t : gT) (ad z : Nat → Nat) (hJ : gJ shM ad) (σ : gS) (x0 : Int32) (x1 : Int32) (q : Int32) (h : f_X10_isFit σ x0 x1 = some q) : Met l yX10_isFit (Cond.code yX10_isFit cX10_isFit 2 (some .boolean) :: lw_tb) (gR 2 82) (gPc shM t ad D z [.int x0, .int x1] σ) (gQi shM t ad D q σ) 0 0 (gA shM ad) := by
  refine gMet "NineKeysRoundModel" rfl (by decide) hJ (Nat.le_of_ble_eq_true rfl) ?_
  intro p e s m below meth c ls C hr hI hl
  have hx := C.1
  have hb := C.2.1
  have hl : lv_has ls 2 [(0, .int x0), (1, .int x1)] := hl
  unfold f_X10_isFit at h
  refine lv_iload_n hx hb dX10_isFit_0 rfl (lv_at hl 0 rfl) ?_
  by_cases hc_ : x0 = 2
  · rw [if_pos hc_] at h
    refine lv_tableIn (tgt := 40) (off := 39) hx hb dX10_isFit_1 (by rw [hc_]; decide) (by rw [hc_]; decide) (by rw [hc_]; rfl) (by decide) ?_
    exact w_X10_isFit_40 C hr    _ _ _ _  h hI (lv_sub hl [1] rfl)
  · rw [if_neg hc_] at h
    have hn_0 := hc_
    by_cases hc_ : x0 = 3
    · rw [if_pos hc_] at h
      refine lv_tableIn (tgt := 48) (off := 47) hx hb dX10_isFit_1 (by rw [hc_]; decide) (by rw [hc_]; decide) (by rw [hc_]; rfl) (by decide) ?_
      refine lv_iload_n hx hb dX10_isFit_48 rfl (lv_at hl 1 rfl) ?_
      refine lv_iconst hx hb dX10_isFit_49 ci_1 ?_
      refine lv_sipush hx hb dX10_isFit_50 cs_999 ?_
      refine h_callsi_o (rest := []) C hI hl.1 ys_X10_within k_1240 h (fun q hq => c_X10_within l D t ad z C.2.2.2.2.2.2.1 (σ) x1 1 999 q hq) (As := [.int x1, .int 1, .int 999]) rfl rfl ⟨Nat.le_of_ble_eq_true rfl, Nat.le_of_ble_eq_true rfl⟩ (Nat.le_of_ble_eq_true rfl) dX10_isFit_53 (fun q1 H locs h hI => ?_)
      exact h_zret_o C hr hI h dX10_isFit_56
    · rw [if_neg hc_] at h
      have hn_1 := hc_
      by_cases hc_ : x0 = 4
      · rw [if_pos hc_] at h
        refine lv_tableIn (tgt := 65) (off := 64) hx hb dX10_isFit_1 (by rw [hc_]; decide) (by rw [hc_]; decide) (by rw [hc_]; rfl) (by decide) ?_
        exact w_X10_isFit_65 C hr    _ _ _ _  h hI (lv_sub hl [1] rfl)
      · rw [if_neg hc_] at h
        have hn_2 := hc_
        by_cases hc_ : x0 = 5
        · rw [if_pos hc_] at h
          refine lv_tableIn (tgt := 65) (off := 64) hx hb dX10_isFit_1 (by rw [hc_]; decide) (by rw [hc_]; decide) (by rw [hc_]; rfl) (by decide) ?_
          exact w_X10_isFit_65 C hr    _ _ _ _  h hI (lv_sub hl [1] rfl)
        · rw [if_neg hc_] at h
          have hn_3 := hc_
          by_cases hc_ : x0 = 6
          · rw [if_pos hc_] at h
            refine lv_tableIn (tgt := 57) (off := 56) hx hb dX10_isFit_1 (by rw [hc_]; decide) (by rw [hc_]; decide) (by rw [hc_]; rfl) (by decide) ?_
            refine lv_iload_n hx hb dX10_isFit_57 rfl (lv_at hl 1 rfl) ?_
            refine lv_iconst hx hb dX10_isFit_58 ci_1 ?_
            refine lv_bipush hx hb dX10_isFit_59 cb_9 ?_
            refine h_callsi_o (rest := []) C hI hl.1 ys_X10_within k_1240 h (fun q hq => c_X10_within l D t ad z C.2.2.2.2.2.2.1 (σ) x1 1 9 q hq) (As := [.int x1, .int 1, .int 9]) rfl rfl ⟨Nat.le_of_ble_eq_true rfl, Nat.le_of_ble_eq_true rfl⟩ (Nat.le_of_ble_eq_true rfl) dX10_isFit_61 (fun q2 H locs h hI => ?_)
            exact h_zret_o C hr hI h dX10_isFit_64
          · rw [if_neg hc_] at h
            have hn_4 := hc_
            by_cases hc_ : x0 = 7
            · rw [if_pos hc_] at h
              refine lv_tableIn (tgt := 40) (off := 39) hx hb dX10_isFit_1 (by rw [hc_]; decide) (by rw [hc_]; decide) (by rw [hc_]; rfl) (by decide) ?_
              exact w_X10_isFit_40 C hr    _ _ _ _  h hI (lv_sub hl [1] rfl)
            · rw [if_neg hc_] at h
              have hn_5 := hc_
              have hout : x0.toInt < 2 ∨ 7 < x0.toInt := by
                have e0 := tsne (c := 2) (z := 2) (by decide) hn_0
                have e1 := tsne (c := 3) (z := 3) (by decide) hn_1
                have e2 := tsne (c := 4) (z := 4) (by decide) hn_2
                have e3 := tsne (c := 5) (z := 5) (by decide) hn_3
                have e4 := tsne (c := 6) (z := 6) (by decide) hn_4
                have e5 := tsne (c := 7) (z := 7) (by decide) hn_5
                omega
              refine lv_tableOut (tgt := 65) hx hb dX10_isFit_1 hout (by decide) ?_
              exact w_X10_isFit_65 C hr    _ _ _ _  h hI (lv_sub hl [1] rfl)
set_option maxRecDepth 100000 in
set_option maxHeartbeats 4000000 in
theorem c_X10_get (l : Launch) (D : va_G) (t : gT) (ad z : Nat → Nat) (hJ : gJ shM ad) (σ : gS) (x1 : Int32) (x2 : Int32) (q : Int32) (h : f_X10_get σ x1 x2 = some q) : Met l yX10_get (Cond.code yX10_get cX10_get 3 (some .int) :: lw_tb) (gR 1 60) (gPc shM t ad D z [.ref (ad 0), .int x1, .int x2] σ) (gQi shM t ad D q σ) 0 0 (gA shM ad) := by
  refine gMet "NineKeysRoundModel" rfl (by decide) hJ (Nat.le_of_ble_eq_true rfl) ?_
  intro p e s m below meth c ls C hr hI hl
  have hx := C.1
  have hb := C.2.1
  have hl : lv_has ls 3 [(0, .ref (ad 0)), (1, .int x1), (2, .int x2)] := hl
  unfold f_X10_get at h
  refine lv_iload_n hx hb dX10_get_0 rfl (lv_at hl 2 rfl) ?_
  by_cases hc_ : x2 = 0
  · rw [if_pos hc_] at h
    refine lv_tableIn (tgt := 32) (off := 31) hx hb dX10_get_1 (by rw [hc_]; decide) (by rw [hc_]; decide) (by rw [hc_]; rfl) (by decide) ?_
    refine lv_aload_n hx hb dX10_get_32 rfl (lv_at hl 0 rfl) ?_
    refine fr_1062 C hI shM_0 rfl dX10_get_33 ?_
    refine lv_iload_n hx hb dX10_get_36 rfl (lv_at hl 1 rfl) ?_
    refine gx_iald C hI shM_1 h dX10_get_37 (fun h => ?_)
    exact h_iret_o C hr hI h dX10_get_38
  · rw [if_neg hc_] at h
    have hn_0 := hc_
    by_cases hc_ : x2 = 1
    · rw [if_pos hc_] at h
      refine lv_tableIn (tgt := 39) (off := 38) hx hb dX10_get_1 (by rw [hc_]; decide) (by rw [hc_]; decide) (by rw [hc_]; rfl) (by decide) ?_
      refine lv_aload_n hx hb dX10_get_39 rfl (lv_at hl 0 rfl) ?_
      refine fr_1063 C hI shM_0 rfl dX10_get_40 ?_
      refine lv_iload_n hx hb dX10_get_43 rfl (lv_at hl 1 rfl) ?_
      refine gx_iald C hI shM_2 h dX10_get_44 (fun h => ?_)
      exact h_iret_o C hr hI h dX10_get_45
    · rw [if_neg hc_] at h
      have hn_1 := hc_
      by_cases hc_ : x2 = 2
      · rw [if_pos hc_] at h
        refine lv_tableIn (tgt := 46) (off := 45) hx hb dX10_get_1 (by rw [hc_]; decide) (by rw [hc_]; decide) (by rw [hc_]; rfl) (by decide) ?_
        refine lv_aload_n hx hb dX10_get_46 rfl (lv_at hl 0 rfl) ?_
        refine fr_1064 C hI shM_0 rfl dX10_get_47 ?_
        refine lv_iload_n hx hb dX10_get_50 rfl (lv_at hl 1 rfl) ?_
        refine gx_iald C hI shM_3 h dX10_get_51 (fun h => ?_)
        exact h_iret_o C hr hI h dX10_get_52
      · rw [if_neg hc_] at h
        have hn_2 := hc_
        by_cases hc_ : x2 = 3
        · rw [if_pos hc_] at h
          refine lv_tableIn (tgt := 53) (off := 52) hx hb dX10_get_1 (by rw [hc_]; decide) (by rw [hc_]; decide) (by rw [hc_]; rfl) (by decide) ?_
          refine lv_aload_n hx hb dX10_get_53 rfl (lv_at hl 0 rfl) ?_
          refine fr_1065 C hI shM_0 rfl dX10_get_54 ?_
          refine lv_iload_n hx hb dX10_get_57 rfl (lv_at hl 1 rfl) ?_
          refine gx_iald C hI shM_4 h dX10_get_58 (fun h => ?_)
          exact h_iret_o C hr hI h dX10_get_59
        · rw [if_neg hc_] at h
          have hn_3 := hc_
          have hout : x2.toInt < 0 ∨ 3 < x2.toInt := by
            have e0 := tsne (c := 0) (z := 0) (by decide) hn_0
            have e1 := tsne (c := 1) (z := 1) (by decide) hn_1
            have e2 := tsne (c := 2) (z := 2) (by decide) hn_2
            have e3 := tsne (c := 3) (z := 3) (by decide) hn_3
            omega
          refine lv_tableOut (tgt := 60) hx hb dX10_get_1 hout (by decide) ?_
          refine lv_aload_n hx hb dX10_get_60 rfl (lv_at hl 0 rfl) ?_
          refine fr_1066 C hI shM_0 rfl dX10_get_61 ?_
          refine lv_iload_n hx hb dX10_get_64 rfl (lv_at hl 2 rfl) ?_
          refine lv_iconst hx hb dX10_get_65 ci_4 ?_
          refine lv_isub hx hb dX10_get_66 ?_
          refine gx_iald C hI shM_5 h dX10_get_67 (fun h => ?_)
          exact h_iret_o C hr hI h dX10_get_68
set_option maxRecDepth 100000 in
set_option maxHeartbeats 4000000 in
theorem c_X10_becomes (l : Launch) (D : va_G) (t : gT) (ad z : Nat → Nat) (hJ : gJ shM ad) (σ : gS) (x1 : Int32) (x2 : Int32) (x3 : Int32) (q : gS) (h : f_X10_becomes σ x1 x2 x3 = some q) : Met l yX10_becomes (Cond.code yX10_becomes cX10_becomes 4 (none) :: lw_tb) (gR 1 60) (gPc shM t ad D z [.ref (ad 0), .int x1, .int x2, .int x3] σ) (gQv shM t ad D q) 0 0 (gA shM ad) := by
  refine gMet "NineKeysRoundModel" rfl (by decide) hJ (Nat.le_of_ble_eq_true rfl) ?_
  intro p e s m below meth c ls C hr hI hl
  have hx := C.1
  have hb := C.2.1
  have hl : lv_has ls 4 [(0, .ref (ad 0)), (1, .int x1), (2, .int x2), (3, .int x3)] := hl
  unfold f_X10_becomes at h
  refine lv_iload_n hx hb dX10_becomes_0 rfl (lv_at hl 2 rfl) ?_
  by_cases hc_ : x2 = 0
  · rw [if_pos hc_] at h
    refine lv_tableIn (tgt := 32) (off := 31) hx hb dX10_becomes_1 (by rw [hc_]; decide) (by rw [hc_]; decide) (by rw [hc_]; rfl) (by decide) ?_
    refine lv_aload_n hx hb dX10_becomes_32 rfl (lv_at hl 0 rfl) ?_
    refine fr_1062 C hI shM_0 rfl dX10_becomes_33 ?_
    refine lv_iload_n hx hb dX10_becomes_36 rfl (lv_at hl 1 rfl) ?_
    refine lv_iload_n hx hb dX10_becomes_37 rfl (lv_at hl 3 rfl) ?_
    refine gx_iast C hI shM_1 h dX10_becomes_38 (fun H locs h hI => ?_)
    refine gx_st h hI (fun s1 h hI => ?_)
    exact h_vret_w C hr hI h dX10_becomes_39
  · rw [if_neg hc_] at h
    have hn_0 := hc_
    by_cases hc_ : x2 = 1
    · rw [if_pos hc_] at h
      refine lv_tableIn (tgt := 40) (off := 39) hx hb dX10_becomes_1 (by rw [hc_]; decide) (by rw [hc_]; decide) (by rw [hc_]; rfl) (by decide) ?_
      refine lv_aload_n hx hb dX10_becomes_40 rfl (lv_at hl 0 rfl) ?_
      refine fr_1063 C hI shM_0 rfl dX10_becomes_41 ?_
      refine lv_iload_n hx hb dX10_becomes_44 rfl (lv_at hl 1 rfl) ?_
      refine lv_iload_n hx hb dX10_becomes_45 rfl (lv_at hl 3 rfl) ?_
      refine gx_iast C hI shM_2 h dX10_becomes_46 (fun H locs h hI => ?_)
      refine gx_st h hI (fun s2 h hI => ?_)
      exact h_vret_w C hr hI h dX10_becomes_47
    · rw [if_neg hc_] at h
      have hn_1 := hc_
      by_cases hc_ : x2 = 2
      · rw [if_pos hc_] at h
        refine lv_tableIn (tgt := 48) (off := 47) hx hb dX10_becomes_1 (by rw [hc_]; decide) (by rw [hc_]; decide) (by rw [hc_]; rfl) (by decide) ?_
        refine lv_aload_n hx hb dX10_becomes_48 rfl (lv_at hl 0 rfl) ?_
        refine fr_1064 C hI shM_0 rfl dX10_becomes_49 ?_
        refine lv_iload_n hx hb dX10_becomes_52 rfl (lv_at hl 1 rfl) ?_
        refine lv_iload_n hx hb dX10_becomes_53 rfl (lv_at hl 3 rfl) ?_
        refine gx_iast C hI shM_3 h dX10_becomes_54 (fun H locs h hI => ?_)
        refine gx_st h hI (fun s3 h hI => ?_)
        exact h_vret_w C hr hI h dX10_becomes_55
      · rw [if_neg hc_] at h
        have hn_2 := hc_
        by_cases hc_ : x2 = 3
        · rw [if_pos hc_] at h
          refine lv_tableIn (tgt := 56) (off := 55) hx hb dX10_becomes_1 (by rw [hc_]; decide) (by rw [hc_]; decide) (by rw [hc_]; rfl) (by decide) ?_
          refine lv_aload_n hx hb dX10_becomes_56 rfl (lv_at hl 0 rfl) ?_
          refine fr_1065 C hI shM_0 rfl dX10_becomes_57 ?_
          refine lv_iload_n hx hb dX10_becomes_60 rfl (lv_at hl 1 rfl) ?_
          refine lv_iload_n hx hb dX10_becomes_61 rfl (lv_at hl 3 rfl) ?_
          refine gx_iast C hI shM_4 h dX10_becomes_62 (fun H locs h hI => ?_)
          refine gx_st h hI (fun s4 h hI => ?_)
          exact h_vret_w C hr hI h dX10_becomes_63
        · rw [if_neg hc_] at h
          have hn_3 := hc_
          have hout : x2.toInt < 0 ∨ 3 < x2.toInt := by
            have e0 := tsne (c := 0) (z := 0) (by decide) hn_0
            have e1 := tsne (c := 1) (z := 1) (by decide) hn_1
            have e2 := tsne (c := 2) (z := 2) (by decide) hn_2
            have e3 := tsne (c := 3) (z := 3) (by decide) hn_3
            omega
          refine lv_tableOut (tgt := 64) hx hb dX10_becomes_1 hout (by decide) ?_
          refine lv_aload_n hx hb dX10_becomes_64 rfl (lv_at hl 0 rfl) ?_
          refine fr_1066 C hI shM_0 rfl dX10_becomes_65 ?_
          refine lv_iload_n hx hb dX10_becomes_68 rfl (lv_at hl 2 rfl) ?_
          refine lv_iconst hx hb dX10_becomes_69 ci_4 ?_
          refine lv_isub hx hb dX10_becomes_70 ?_
          refine lv_iload_n hx hb dX10_becomes_71 rfl (lv_at hl 3 rfl) ?_
          refine gx_iast C hI shM_5 h dX10_becomes_72 (fun H locs h hI => ?_)
          refine gx_st h hI (fun s5 h hI => ?_)
          exact h_vret_w C hr hI h dX10_becomes_73
set_option maxRecDepth 100000 in
set_option maxHeartbeats 4000000 in
theorem w_X10_mend_95 {p : Program} {l : Launch} {e : Env} {s : State} {m : MethodId} {args : Array Value} {below : List Frame} {meth : Method} {c : Code} {D : va_G} {t : gT} {ad z : Nat → Nat} (C : gC p s m args meth c cX10_mend 6 "NineKeysRoundModel" D t shM ad z) (hr : meth.sig.returnType = some .int) {r : Int32 × gS} : ∀ (x1 : Int32) (x2 : Int32) (x3 : Int32) (x4 : Int32) (σ : gS) (H : Heap) (locs : List Loc) (ls : Array Slot), f_X10_mend_95 x1 x2 x3 x4 σ = some r → gI shM t ad D s.heap σ H locs → lv_has ls 6 [(0, .ref (ad 0)), (1, .int x1), (2, .int x2), (3, .int x3), (4, .int x4)] → W p l e (gR 3 104) s m args below meth c H locs 0 0 (MQ below (gQi shM t ad D r.1 r.2) args s 0 0 (gA shM ad)) (F0 m 95 ls []) := by
  have hx := C.1
  have hb := C.2.1
  intro x1 x2 x3 x4 σ H locs ls  h hI hl
  unfold f_X10_mend_95 at h
  refine lv_aload_n hx hb dX10_mend_95 rfl (lv_at hl 0 rfl) ?_
  refine fr_1097 C hI shM_0 rfl dX10_mend_96 ?_
  refine lv_iconst hx hb dX10_mend_99 ci_4 ?_
  refine lv_aload_n hx hb dX10_mend_100 rfl (lv_at hl 0 rfl) ?_
  refine fg_1096 C hI shM_0 rfl dX10_mend_101 ?_
  refine lv_imul hx hb dX10_mend_104 ?_
  refine lv_iload_n hx hb dX10_mend_105 rfl (lv_at hl 1 rfl) ?_
  refine gx_iast C hI shM_21 h dX10_mend_106 (fun H locs h hI => ?_)
  refine gx_st h hI (fun s1 h hI => ?_)
  refine lv_aload_n hx hb dX10_mend_107 rfl (lv_at hl 0 rfl) ?_
  refine fr_1097 C hI shM_0 rfl dX10_mend_108 ?_
  refine lv_iconst hx hb dX10_mend_111 ci_4 ?_
  refine lv_aload_n hx hb dX10_mend_112 rfl (lv_at hl 0 rfl) ?_
  refine fg_1096 C hI shM_0 rfl dX10_mend_113 ?_
  refine lv_imul hx hb dX10_mend_116 ?_
  refine lv_iconst hx hb dX10_mend_117 ci_1 ?_
  refine lv_iadd hx hb dX10_mend_118 ?_
  refine lv_iload_n hx hb dX10_mend_119 rfl (lv_at hl 2 rfl) ?_
  refine gx_iast C hI shM_21 h dX10_mend_120 (fun H locs h hI => ?_)
  refine gx_st h hI (fun s2 h hI => ?_)
  refine lv_aload_n hx hb dX10_mend_121 rfl (lv_at hl 0 rfl) ?_
  refine fr_1097 C hI shM_0 rfl dX10_mend_122 ?_
  refine lv_iconst hx hb dX10_mend_125 ci_4 ?_
  refine lv_aload_n hx hb dX10_mend_126 rfl (lv_at hl 0 rfl) ?_
  refine fg_1096 C hI shM_0 rfl dX10_mend_127 ?_
  refine lv_imul hx hb dX10_mend_130 ?_
  refine lv_iconst hx hb dX10_mend_131 ci_2 ?_
  refine lv_iadd hx hb dX10_mend_132 ?_
  refine lv_iload hx hb dX10_mend_133 (lv_at hl 4 rfl) ?_
  refine gx_iast C hI shM_21 h dX10_mend_135 (fun H locs h hI => ?_)
  refine gx_st h hI (fun s3 h hI => ?_)
  refine lv_aload_n hx hb dX10_mend_136 rfl (lv_at hl 0 rfl) ?_
  refine fr_1097 C hI shM_0 rfl dX10_mend_137 ?_
  refine lv_iconst hx hb dX10_mend_140 ci_4 ?_
  refine lv_aload_n hx hb dX10_mend_141 rfl (lv_at hl 0 rfl) ?_
  refine fg_1096 C hI shM_0 rfl dX10_mend_142 ?_
  refine lv_imul hx hb dX10_mend_145 ?_
  refine lv_iconst hx hb dX10_mend_146 ci_3 ?_
  refine lv_iadd hx hb dX10_mend_147 ?_
  refine lv_iload_n hx hb dX10_mend_148 rfl (lv_at hl 3 rfl) ?_
  refine gx_iast C hI shM_21 h dX10_mend_149 (fun H locs h hI => ?_)
  refine gx_st h hI (fun s4 h hI => ?_)
  refine lv_aload_n hx hb dX10_mend_150 rfl (lv_at hl 0 rfl) ?_
  refine lv_dup hx hb dX10_mend_151 rfl ?_
  refine fg_1096 C hI shM_0 rfl dX10_mend_152 ?_
  refine lv_iconst hx hb dX10_mend_155 ci_1 ?_
  refine lv_iadd hx hb dX10_mend_156 ?_
  refine fp_1096 C hI shM_0 rfl dX10_mend_157 (fun H locs hI => ?_)
  refine gx_st h hI (fun s5 h hI => ?_)
  refine lv_aload_n hx hb dX10_mend_160 rfl (lv_at hl 0 rfl) ?_
  refine lv_aload_n hx hb dX10_mend_161 rfl (lv_at hl 0 rfl) ?_
  refine fg_1096 C hI shM_0 rfl dX10_mend_162 ?_
  refine fp_1095 C hI shM_0 rfl dX10_mend_165 (fun H locs hI => ?_)
  refine gx_st h hI (fun s6 h hI => ?_)
  refine lv_iload hx hb dX10_mend_168 (lv_at hl 4 rfl) ?_
  exact h_iret_w C hr hI h dX10_mend_170
set_option maxRecDepth 100000 in
set_option maxHeartbeats 4000000 in
theorem w_X10_mend_55 {p : Program} {l : Launch} {e : Env} {s : State} {m : MethodId} {args : Array Value} {below : List Frame} {meth : Method} {c : Code} {D : va_G} {t : gT} {ad z : Nat → Nat} (C : gC p s m args meth c cX10_mend 6 "NineKeysRoundModel" D t shM ad z) (hr : meth.sig.returnType = some .int) {r : Int32 × gS} : ∀ (n : Nat) (x1 : Int32) (x2 : Int32) (x3 : Int32) (x4 : Int32) (x5 : Int32) (σ : gS) (H : Heap) (locs : List Loc) (ls : Array Slot), f_X10_mend_55 n x1 x2 x3 x4 x5 σ = some r → gI shM t ad D s.heap σ H locs → lv_has ls 6 [(0, .ref (ad 0)), (1, .int x1), (2, .int x2), (3, .int x3), (4, .int x4), (5, .int x5)] → W p l e (gR 3 104) s m args below meth c H locs 0 0 (MQ below (gQi shM t ad D r.1 r.2) args s 0 0 (gA shM ad)) (F0 m 55 ls []) := by
  have hx := C.1
  have hb := C.2.1
  intro n
  induction n with
  | zero =>
    intro x1 x2 x3 x4 x5 σ H locs ls  h
    exact absurd h (by simp [f_X10_mend_55])
  | succ n ih =>
    intro x1 x2 x3 x4 x5 σ H locs ls  h hI hl
    unfold f_X10_mend_55 at h
    refine lv_iload hx hb dX10_mend_55 (lv_at hl 5 rfl) ?_
    refine lv_sipush hx hb dX10_mend_57 cs_156 ?_
    refine hicmp_ge (tgt := 85) C dX10_mend_60 (by decide) h (fun h => ?_) (fun h => ?_)
    · refine lv_aload_n hx hb dX10_mend_85 rfl (lv_at hl 0 rfl) ?_
      refine lv_dup hx hb dX10_mend_86 rfl ?_
      refine fg_1096 C hI shM_0 rfl dX10_mend_87 ?_
      refine lv_iconst hx hb dX10_mend_90 ci_1 ?_
      refine lv_isub hx hb dX10_mend_91 ?_
      refine fp_1096 C hI shM_0 rfl dX10_mend_92 (fun H locs hI => ?_)
      refine gx_st h hI (fun s1 h hI => ?_)
      exact w_X10_mend_95 C hr    _ _ _ _ _ _ _ _  h hI (lv_sub hl [0, 1, 2, 3, 4] rfl)
    · refine lv_aload_n hx hb dX10_mend_63 rfl (lv_at hl 0 rfl) ?_
      refine fr_1097 C hI shM_0 rfl dX10_mend_64 ?_
      refine lv_iload hx hb dX10_mend_67 (lv_at hl 5 rfl) ?_
      refine lv_aload_n hx hb dX10_mend_69 rfl (lv_at hl 0 rfl) ?_
      refine fr_1097 C hI shM_0 rfl dX10_mend_70 ?_
      refine lv_iload hx hb dX10_mend_73 (lv_at hl 5 rfl) ?_
      refine lv_iconst hx hb dX10_mend_75 ci_4 ?_
      refine lv_iadd hx hb dX10_mend_76 ?_
      refine gx_iald C hI shM_21 h dX10_mend_77 (fun h => ?_)
      refine gx_iast C hI shM_21 h dX10_mend_78 (fun H locs h hI => ?_)
      refine gx_st h hI (fun s2 h hI => ?_)
      refine h_iinc C hl dX10_mend_79 5 rfl ci_1 h (by decide) (lvf := fun v3 => [(5, .int v3), (0, .ref (ad 0)), (1, .int x1), (2, .int x2), (3, .int x3), (4, .int x4)]) (fun _ => rfl) (fun v3 ls h hl => ?_)
      refine lv_goto (tgt := 55) hx hb dX10_mend_82 (by decide) ?_
      exact ih _ _ _ _ _ _ _ _ _  h hI (lv_sub hl [1, 2, 3, 4, 5, 0] rfl)
set_option maxRecDepth 100000 in
set_option maxHeartbeats 4000000 in
theorem c_X10_mend (l : Launch) (D : va_G) (t : gT) (ad z : Nat → Nat) (hJ : gJ shM ad) (σ : gS) (x1 : Int32) (x2 : Int32) (x3 : Int32) (q : Int32 × gS) (h : f_X10_mend σ x1 x2 x3 = some q) : Met l yX10_mend (Cond.code yX10_mend cX10_mend 6 (some .int) :: lw_tb) (gR 3 104) (gPc shM t ad D z [.ref (ad 0), .int x1, .int x2, .int x3] σ) (gQi shM t ad D q.1 q.2) 0 0 (gA shM ad) := by
  refine gMet "NineKeysRoundModel" rfl (by decide) hJ (Nat.le_of_ble_eq_true rfl) ?_
  intro p e s m below meth c ls C hr hI hl
  have hx := C.1
  have hb := C.2.1
  have hl : lv_has ls 6 [(0, .ref (ad 0)), (1, .int x1), (2, .int x2), (3, .int x3)] := hl
  unfold f_X10_mend at h
  refine lv_aload_n hx hb dX10_mend_0 rfl (lv_at hl 0 rfl) ?_
  refine lv_iload_n hx hb dX10_mend_1 rfl (lv_at hl 1 rfl) ?_
  refine lv_iload_n hx hb dX10_mend_2 rfl (lv_at hl 2 rfl) ?_
  refine h_callvi_o (rest := []) C hI hl.1 shM_0 rfl yv_X10_isOf k_1248 h (fun q hq => c_X10_isOf l D t ad z C.2.2.2.2.2.2.1 (σ) x1 x2 q hq) (As := [.int x1, .int x2]) rfl rfl ⟨Nat.le_of_ble_eq_true rfl, Nat.le_of_ble_eq_true rfl⟩ (Nat.le_of_ble_eq_true rfl) dX10_mend_3 (fun q1 H locs h hI => ?_)
  refine hif_eq (tgt := 17) C dX10_mend_6 (by decide) h (fun h => ?_) (fun h => ?_)
  · refine lv_iconst hx hb dX10_mend_17 ci_m1 ?_
    exact h_iret_w C hr hI h dX10_mend_18
  · refine lv_iload_n hx hb dX10_mend_9 rfl (lv_at hl 2 rfl) ?_
    refine lv_iload_n hx hb dX10_mend_10 rfl (lv_at hl 3 rfl) ?_
    refine h_callsi_o (rest := []) C hI hl.1 ys_X10_isFit k_1256 h (fun q hq => c_X10_isFit l D t ad z C.2.2.2.2.2.2.1 (σ) x2 x3 q hq) (As := [.int x2, .int x3]) rfl rfl ⟨Nat.le_of_ble_eq_true rfl, Nat.le_of_ble_eq_true rfl⟩ (Nat.le_of_ble_eq_true rfl) dX10_mend_11 (fun q2 H locs h hI => ?_)
    refine hif_ne (tgt := 19) C dX10_mend_14 (by decide) h (fun h => ?_) (fun h => ?_)
    · refine lv_aload_n hx hb dX10_mend_19 rfl (lv_at hl 0 rfl) ?_
      refine lv_iload_n hx hb dX10_mend_20 rfl (lv_at hl 1 rfl) ?_
      refine lv_iload_n hx hb dX10_mend_21 rfl (lv_at hl 2 rfl) ?_
      refine h_callvi_o (rest := []) C hI hl.1 shM_0 rfl yv_X10_get k_1259 h (fun q hq => c_X10_get l D t ad z C.2.2.2.2.2.2.1 (σ) x1 x2 q hq) (As := [.int x1, .int x2]) rfl rfl ⟨Nat.le_of_ble_eq_true rfl, Nat.le_of_ble_eq_true rfl⟩ (Nat.le_of_ble_eq_true rfl) dX10_mend_22 (fun q3 H locs h hI => ?_)
      refine lv_istore (lv' := [(4, .int q3), (0, .ref (ad 0)), (1, .int x1), (2, .int x2), (3, .int x3)]) hx hb dX10_mend_25 hl (by decide) rfl (fun ls hl => ?_)
      refine lv_iload hx hb dX10_mend_27 (lv_at hl 0 rfl) ?_
      refine lv_iload_n hx hb dX10_mend_29 rfl (lv_at hl 4 rfl) ?_
      refine hicmp_ne (tgt := 36) C dX10_mend_30 (by decide) h (fun h => ?_) (fun h => ?_)
      · refine lv_aload_n hx hb dX10_mend_36 rfl (lv_at hl 1 rfl) ?_
        refine lv_iload_n hx hb dX10_mend_37 rfl (lv_at hl 2 rfl) ?_
        refine lv_iload_n hx hb dX10_mend_38 rfl (lv_at hl 3 rfl) ?_
        refine lv_iload_n hx hb dX10_mend_39 rfl (lv_at hl 4 rfl) ?_
        refine h_callvv_w (rest := []) C hI hl.1 shM_0 rfl yv_X10_becomes k_1263 h (fun q hq => c_X10_becomes l D t ad z C.2.2.2.2.2.2.1 (σ) x1 x2 x3 q hq) (As := [.int x1, .int x2, .int x3]) rfl rfl ⟨Nat.le_of_ble_eq_true rfl, Nat.le_of_ble_eq_true rfl⟩ (Nat.le_of_ble_eq_true rfl) dX10_mend_40 (fun q4 H locs h hI => ?_)
        refine lv_aload_n hx hb dX10_mend_43 rfl (lv_at hl 1 rfl) ?_
        refine fg_1096 C hI shM_0 rfl dX10_mend_44 ?_
        refine lv_bipush hx hb dX10_mend_47 cb_40 ?_
        refine hicmp_ne (tgt := 95) C dX10_mend_49 (by decide) h (fun h => ?_) (fun h => ?_)
        · exact w_X10_mend_95 C hr    _ _ _ _ _ _ _ _  h hI (lv_sub hl [1, 2, 3, 4, 0] rfl)
        · refine lv_iconst hx hb dX10_mend_52 ci_0 ?_
          refine lv_istore (lv' := [(5, .int 0), (4, .int q3), (0, .ref (ad 0)), (1, .int x1), (2, .int x2), (3, .int x3)]) hx hb dX10_mend_53 hl (by decide) rfl (fun ls hl => ?_)
          exact w_X10_mend_55 C hr    _ _ _ _ _ _ _ _ _ _  h hI (lv_sub hl [2, 3, 4, 5, 1, 0] rfl)
      · refine lv_iload hx hb dX10_mend_33 (lv_at hl 0 rfl) ?_
        exact h_iret_w C hr hI h dX10_mend_35
    · refine lv_iconst hx hb dX10_mend_17 ci_m1 ?_
      exact h_iret_w C hr hI h dX10_mend_18
set_option maxRecDepth 100000 in
set_option maxHeartbeats 4000000 in
theorem c_X10_of (l : Launch) (D : va_G) (t : gT) (ad z : Nat → Nat) (hJ : gJ shM ad) (σ : gS) (x1 : Int32) (x2 : Int32) (q : Int32) (h : f_X10_of σ x1 x2 = some q) : Met l yX10_of (Cond.code yX10_of cX10_of 3 (some .int) :: lw_tb) (gR 3 104) (gPc shM t ad D z [.ref (ad 0), .int x1, .int x2] σ) (gQi shM t ad D q σ) 0 0 (gA shM ad) := by
  refine gMet "NineKeysRoundModel" rfl (by decide) hJ (Nat.le_of_ble_eq_true rfl) ?_
  intro p e s m below meth c ls C hr hI hl
  have hx := C.1
  have hb := C.2.1
  have hl : lv_has ls 3 [(0, .ref (ad 0)), (1, .int x1), (2, .int x2)] := hl
  unfold f_X10_of at h
  refine lv_iload_n hx hb dX10_of_0 rfl (lv_at hl 2 rfl) ?_
  refine lv_bipush hx hb dX10_of_1 cb_8 ?_
  refine hicmp_ne (tgt := 26) C dX10_of_3 (by decide) h (fun h => ?_) (fun h => ?_)
  · refine lv_aload_n hx hb dX10_of_26 rfl (lv_at hl 0 rfl) ?_
    refine lv_iload_n hx hb dX10_of_27 rfl (lv_at hl 1 rfl) ?_
    refine lv_iload_n hx hb dX10_of_28 rfl (lv_at hl 2 rfl) ?_
    refine h_callvi_o (rest := []) C hI hl.1 shM_0 rfl yv_X10_isOf k_1248 h (fun q hq => c_X10_isOf l D t ad z C.2.2.2.2.2.2.1 (σ) x1 x2 q hq) (As := [.int x1, .int x2]) rfl rfl ⟨Nat.le_of_ble_eq_true rfl, Nat.le_of_ble_eq_true rfl⟩ (Nat.le_of_ble_eq_true rfl) dX10_of_29 (fun q1 H locs h hI => ?_)
    refine hif_eq (tgt := 44) C dX10_of_32 (by decide) h (fun h => ?_) (fun h => ?_)
    · refine lv_iconst hx hb dX10_of_44 ci_m1 ?_
      exact h_iret_o C hr hI h dX10_of_45
    · refine lv_aload_n hx hb dX10_of_35 rfl (lv_at hl 0 rfl) ?_
      refine lv_iload_n hx hb dX10_of_36 rfl (lv_at hl 1 rfl) ?_
      refine lv_iload_n hx hb dX10_of_37 rfl (lv_at hl 2 rfl) ?_
      refine h_callvi_o (rest := []) C hI hl.1 shM_0 rfl yv_X10_get k_1259 h (fun q hq => c_X10_get l D t ad z C.2.2.2.2.2.2.1 (σ) x1 x2 q hq) (As := [.int x1, .int x2]) rfl rfl ⟨Nat.le_of_ble_eq_true rfl, Nat.le_of_ble_eq_true rfl⟩ (Nat.le_of_ble_eq_true rfl) dX10_of_38 (fun q2 H locs h hI => ?_)
      refine lv_goto (tgt := 45) hx hb dX10_of_41 (by decide) ?_
      exact h_iret_o C hr hI h dX10_of_45
  · refine lv_aload_n hx hb dX10_of_6 rfl (lv_at hl 0 rfl) ?_
    refine lv_iload_n hx hb dX10_of_7 rfl (lv_at hl 1 rfl) ?_
    refine lv_i2l (v := ((x1 : Int32).toInt64)) hx hb dX10_of_8 rfl ?_
    refine h_callvi_o (rest := []) C hI hl.1 shM_0 rfl yv_X10_isPost k_1252 h (fun q hq => c_X10_isPost l D t ad z C.2.2.2.2.2.2.1 (σ) ((x1 : Int32).toInt64) q hq) (As := [.long ((x1 : Int32).toInt64)]) rfl rfl ⟨Nat.le_of_ble_eq_true rfl, Nat.le_of_ble_eq_true rfl⟩ (Nat.le_of_ble_eq_true rfl) dX10_of_9 (fun q3 H locs h hI => ?_)
    refine hif_eq (tgt := 24) C dX10_of_12 (by decide) h (fun h => ?_) (fun h => ?_)
    · refine lv_iconst hx hb dX10_of_24 ci_m1 ?_
      exact h_iret_o C hr hI h dX10_of_25
    · refine lv_aload_n hx hb dX10_of_15 rfl (lv_at hl 0 rfl) ?_
      refine fr_1087 C hI shM_0 rfl dX10_of_16 ?_
      refine lv_iload_n hx hb dX10_of_19 rfl (lv_at hl 1 rfl) ?_
      refine gx_iald C hI shM_17 h dX10_of_20 (fun h => ?_)
      refine lv_goto (tgt := 25) hx hb dX10_of_21 (by decide) ?_
      exact h_iret_o C hr hI h dX10_of_25
set_option maxRecDepth 100000 in
set_option maxHeartbeats 4000000 in
theorem c_X10_undo (l : Launch) (D : va_G) (t : gT) (ad z : Nat → Nat) (hJ : gJ shM ad) (σ : gS) (q : Int32 × gS) (h : f_X10_undo σ = some q) : Met l yX10_undo (Cond.code yX10_undo cX10_undo 1 (some .int) :: lw_tb) (gR 2 83) (gPc shM t ad D z [.ref (ad 0)] σ) (gQi shM t ad D q.1 q.2) 0 0 (gA shM ad) := by
  refine gMet "NineKeysRoundModel" rfl (by decide) hJ (Nat.le_of_ble_eq_true rfl) ?_
  intro p e s m below meth c ls C hr hI hl
  have hx := C.1
  have hb := C.2.1
  have hl : lv_has ls 1 [(0, .ref (ad 0))] := hl
  unfold f_X10_undo at h
  refine lv_aload_n hx hb dX10_undo_0 rfl (lv_at hl 0 rfl) ?_
  refine fg_1096 C hI shM_0 rfl dX10_undo_1 ?_
  refine hif_ne (tgt := 10) C dX10_undo_4 (by decide) h (fun h => ?_) (fun h => ?_)
  · refine lv_aload_n hx hb dX10_undo_10 rfl (lv_at hl 0 rfl) ?_
    refine lv_dup hx hb dX10_undo_11 rfl ?_
    refine fg_1096 C hI shM_0 rfl dX10_undo_12 ?_
    refine lv_iconst hx hb dX10_undo_15 ci_1 ?_
    refine lv_isub hx hb dX10_undo_16 ?_
    refine fp_1096 C hI shM_0 rfl dX10_undo_17 (fun H locs hI => ?_)
    refine gx_st h hI (fun s1 h hI => ?_)
    refine lv_aload_n hx hb dX10_undo_20 rfl (lv_at hl 0 rfl) ?_
    refine lv_aload_n hx hb dX10_undo_21 rfl (lv_at hl 0 rfl) ?_
    refine fr_1097 C hI shM_0 rfl dX10_undo_22 ?_
    refine lv_iconst hx hb dX10_undo_25 ci_4 ?_
    refine lv_aload_n hx hb dX10_undo_26 rfl (lv_at hl 0 rfl) ?_
    refine fg_1096 C hI shM_0 rfl dX10_undo_27 ?_
    refine lv_imul hx hb dX10_undo_30 ?_
    refine gx_iald C hI shM_21 h dX10_undo_31 (fun h => ?_)
    refine lv_aload_n hx hb dX10_undo_32 rfl (lv_at hl 0 rfl) ?_
    refine fr_1097 C hI shM_0 rfl dX10_undo_33 ?_
    refine lv_iconst hx hb dX10_undo_36 ci_4 ?_
    refine lv_aload_n hx hb dX10_undo_37 rfl (lv_at hl 0 rfl) ?_
    refine fg_1096 C hI shM_0 rfl dX10_undo_38 ?_
    refine lv_imul hx hb dX10_undo_41 ?_
    refine lv_iconst hx hb dX10_undo_42 ci_1 ?_
    refine lv_iadd hx hb dX10_undo_43 ?_
    refine gx_iald C hI shM_21 h dX10_undo_44 (fun h => ?_)
    refine lv_aload_n hx hb dX10_undo_45 rfl (lv_at hl 0 rfl) ?_
    refine fr_1097 C hI shM_0 rfl dX10_undo_46 ?_
    refine lv_iconst hx hb dX10_undo_49 ci_4 ?_
    refine lv_aload_n hx hb dX10_undo_50 rfl (lv_at hl 0 rfl) ?_
    refine fg_1096 C hI shM_0 rfl dX10_undo_51 ?_
    refine lv_imul hx hb dX10_undo_54 ?_
    refine lv_iconst hx hb dX10_undo_55 ci_2 ?_
    refine lv_iadd hx hb dX10_undo_56 ?_
    refine gx_iald C hI shM_21 h dX10_undo_57 (fun h => ?_)
    refine h_callvv_w (rest := []) C hI hl.1 shM_0 rfl yv_X10_becomes k_1263 h (fun q hq => c_X10_becomes l D t ad z C.2.2.2.2.2.2.1 s1 (s1.1 21 ((4 * (s1.1 0 35))).toNatClampNeg) (s1.1 21 (((4 * (s1.1 0 35)) + 1)).toNatClampNeg) (s1.1 21 (((4 * (s1.1 0 35)) + 2)).toNatClampNeg) q hq) (As := [.int (s1.1 21 ((4 * (s1.1 0 35))).toNatClampNeg), .int (s1.1 21 (((4 * (s1.1 0 35)) + 1)).toNatClampNeg), .int (s1.1 21 (((4 * (s1.1 0 35)) + 2)).toNatClampNeg)]) rfl rfl ⟨Nat.le_of_ble_eq_true rfl, Nat.le_of_ble_eq_true rfl⟩ (Nat.le_of_ble_eq_true rfl) dX10_undo_58 (fun q2 H locs h hI => ?_)
    refine lv_aload_n hx hb dX10_undo_61 rfl (lv_at hl 0 rfl) ?_
    refine fg_1096 C hI shM_0 rfl dX10_undo_62 ?_
    exact h_iret_w C hr hI h dX10_undo_65
  · refine lv_bipush hx hb dX10_undo_7 cb_m5 ?_
    exact h_iret_w C hr hI h dX10_undo_9
set_option maxRecDepth 100000 in
set_option maxHeartbeats 4000000 in
theorem c_X10_redo (l : Launch) (D : va_G) (t : gT) (ad z : Nat → Nat) (hJ : gJ shM ad) (σ : gS) (q : Int32 × gS) (h : f_X10_redo σ = some q) : Met l yX10_redo (Cond.code yX10_redo cX10_redo 1 (some .int) :: lw_tb) (gR 2 83) (gPc shM t ad D z [.ref (ad 0)] σ) (gQi shM t ad D q.1 q.2) 0 0 (gA shM ad) := by
  refine gMet "NineKeysRoundModel" rfl (by decide) hJ (Nat.le_of_ble_eq_true rfl) ?_
  intro p e s m below meth c ls C hr hI hl
  have hx := C.1
  have hb := C.2.1
  have hl : lv_has ls 1 [(0, .ref (ad 0))] := hl
  unfold f_X10_redo at h
  refine lv_aload_n hx hb dX10_redo_0 rfl (lv_at hl 0 rfl) ?_
  refine fg_1096 C hI shM_0 rfl dX10_redo_1 ?_
  refine lv_aload_n hx hb dX10_redo_4 rfl (lv_at hl 0 rfl) ?_
  refine fg_1095 C hI shM_0 rfl dX10_redo_5 ?_
  refine hicmp_ne (tgt := 14) C dX10_redo_8 (by decide) h (fun h => ?_) (fun h => ?_)
  · refine lv_aload_n hx hb dX10_redo_14 rfl (lv_at hl 0 rfl) ?_
    refine lv_aload_n hx hb dX10_redo_15 rfl (lv_at hl 0 rfl) ?_
    refine fr_1097 C hI shM_0 rfl dX10_redo_16 ?_
    refine lv_iconst hx hb dX10_redo_19 ci_4 ?_
    refine lv_aload_n hx hb dX10_redo_20 rfl (lv_at hl 0 rfl) ?_
    refine fg_1096 C hI shM_0 rfl dX10_redo_21 ?_
    refine lv_imul hx hb dX10_redo_24 ?_
    refine gx_iald C hI shM_21 h dX10_redo_25 (fun h => ?_)
    refine lv_aload_n hx hb dX10_redo_26 rfl (lv_at hl 0 rfl) ?_
    refine fr_1097 C hI shM_0 rfl dX10_redo_27 ?_
    refine lv_iconst hx hb dX10_redo_30 ci_4 ?_
    refine lv_aload_n hx hb dX10_redo_31 rfl (lv_at hl 0 rfl) ?_
    refine fg_1096 C hI shM_0 rfl dX10_redo_32 ?_
    refine lv_imul hx hb dX10_redo_35 ?_
    refine lv_iconst hx hb dX10_redo_36 ci_1 ?_
    refine lv_iadd hx hb dX10_redo_37 ?_
    refine gx_iald C hI shM_21 h dX10_redo_38 (fun h => ?_)
    refine lv_aload_n hx hb dX10_redo_39 rfl (lv_at hl 0 rfl) ?_
    refine fr_1097 C hI shM_0 rfl dX10_redo_40 ?_
    refine lv_iconst hx hb dX10_redo_43 ci_4 ?_
    refine lv_aload_n hx hb dX10_redo_44 rfl (lv_at hl 0 rfl) ?_
    refine fg_1096 C hI shM_0 rfl dX10_redo_45 ?_
    refine lv_imul hx hb dX10_redo_48 ?_
    refine lv_iconst hx hb dX10_redo_49 ci_3 ?_
    refine lv_iadd hx hb dX10_redo_50 ?_
    refine gx_iald C hI shM_21 h dX10_redo_51 (fun h => ?_)
    refine h_callvv_w (rest := []) C hI hl.1 shM_0 rfl yv_X10_becomes k_1263 h (fun q hq => c_X10_becomes l D t ad z C.2.2.2.2.2.2.1 (σ) (σ.1 21 ((4 * (σ.1 0 35))).toNatClampNeg) (σ.1 21 (((4 * (σ.1 0 35)) + 1)).toNatClampNeg) (σ.1 21 (((4 * (σ.1 0 35)) + 3)).toNatClampNeg) q hq) (As := [.int (σ.1 21 ((4 * (σ.1 0 35))).toNatClampNeg), .int (σ.1 21 (((4 * (σ.1 0 35)) + 1)).toNatClampNeg), .int (σ.1 21 (((4 * (σ.1 0 35)) + 3)).toNatClampNeg)]) rfl rfl ⟨Nat.le_of_ble_eq_true rfl, Nat.le_of_ble_eq_true rfl⟩ (Nat.le_of_ble_eq_true rfl) dX10_redo_52 (fun q1 H locs h hI => ?_)
    refine lv_aload_n hx hb dX10_redo_55 rfl (lv_at hl 0 rfl) ?_
    refine lv_dup hx hb dX10_redo_56 rfl ?_
    refine fg_1096 C hI shM_0 rfl dX10_redo_57 ?_
    refine lv_iconst hx hb dX10_redo_60 ci_1 ?_
    refine lv_iadd hx hb dX10_redo_61 ?_
    refine fp_1096 C hI shM_0 rfl dX10_redo_62 (fun H locs hI => ?_)
    refine gx_st h hI (fun s2 h hI => ?_)
    refine lv_aload_n hx hb dX10_redo_65 rfl (lv_at hl 0 rfl) ?_
    refine fg_1095 C hI shM_0 rfl dX10_redo_66 ?_
    refine lv_aload_n hx hb dX10_redo_69 rfl (lv_at hl 0 rfl) ?_
    refine fg_1096 C hI shM_0 rfl dX10_redo_70 ?_
    refine lv_isub hx hb dX10_redo_73 ?_
    exact h_iret_w C hr hI h dX10_redo_74
  · refine lv_bipush hx hb dX10_redo_11 cb_m5 ?_
    exact h_iret_w C hr hI h dX10_redo_13
set_option maxRecDepth 100000 in
set_option maxHeartbeats 4000000 in
theorem c_X10_feed (l : Launch) (D : va_G) (t : gT) (ad z : Nat → Nat) (hJ : gJ shM ad) (σ : gS) (x1 : Int32) (q : Int32 × gS) (h : f_X10_feed σ x1 = some q) : Met l yX10_feed (Cond.code yX10_feed cX10_feed 2 (some .int) :: lw_tb) (gR 2 82) (gPc shM t ad D z [.ref (ad 0), .int x1] σ) (gQi shM t ad D q.1 q.2) 0 0 (gA shM ad) := by
  refine gMet "NineKeysRoundModel" rfl (by decide) hJ (Nat.le_of_ble_eq_true rfl) ?_
  intro p e s m below meth c ls C hr hI hl
  have hx := C.1
  have hb := C.2.1
  have hl : lv_has ls 2 [(0, .ref (ad 0)), (1, .int x1)] := hl
  unfold f_X10_feed at h
  refine lv_iload_n hx hb dX10_feed_0 rfl (lv_at hl 1 rfl) ?_
  refine lv_iconst hx hb dX10_feed_1 ci_0 ?_
  refine lv_sipush hx hb dX10_feed_2 cs_255 ?_
  refine h_callsi_o (rest := []) C hI hl.1 ys_X10_within k_1240 h (fun q hq => c_X10_within l D t ad z C.2.2.2.2.2.2.1 (σ) x1 0 255 q hq) (As := [.int x1, .int 0, .int 255]) rfl rfl ⟨Nat.le_of_ble_eq_true rfl, Nat.le_of_ble_eq_true rfl⟩ (Nat.le_of_ble_eq_true rfl) dX10_feed_5 (fun q1 H locs h hI => ?_)
  refine hif_ne (tgt := 13) C dX10_feed_8 (by decide) h (fun h => ?_) (fun h => ?_)
  · refine lv_aload_n hx hb dX10_feed_13 rfl (lv_at hl 0 rfl) ?_
    refine fg_1067 C hI shM_0 rfl dX10_feed_14 ?_
    refine lv_bipush hx hb dX10_feed_17 cb_120 ?_
    refine hicmp_ne (tgt := 25) C dX10_feed_19 (by decide) h (fun h => ?_) (fun h => ?_)
    · refine lv_aload_n hx hb dX10_feed_25 rfl (lv_at hl 0 rfl) ?_
      refine fr_1068 C hI shM_0 rfl dX10_feed_26 ?_
      refine lv_aload_n hx hb dX10_feed_29 rfl (lv_at hl 0 rfl) ?_
      refine lv_dup hx hb dX10_feed_30 rfl ?_
      refine fg_1067 C hI shM_0 rfl dX10_feed_31 ?_
      refine gx_topi h (fun v2 h => ?_)
      refine lv_dup_x1 hx hb dX10_feed_34 rfl rfl ?_
      refine lv_iconst hx hb dX10_feed_35 ci_1 ?_
      refine lv_iadd hx hb dX10_feed_36 ?_
      refine fp_1067 C hI shM_0 rfl dX10_feed_37 (fun H locs hI => ?_)
      refine gx_st h hI (fun s3 h hI => ?_)
      refine lv_iload_n hx hb dX10_feed_40 rfl (lv_at hl 1 rfl) ?_
      refine gx_iast C hI shM_6 h dX10_feed_41 (fun H locs h hI => ?_)
      refine gx_st h hI (fun s4 h hI => ?_)
      refine lv_aload_n hx hb dX10_feed_42 rfl (lv_at hl 0 rfl) ?_
      refine fg_1067 C hI shM_0 rfl dX10_feed_43 ?_
      exact h_iret_w C hr hI h dX10_feed_46
    · refine lv_bipush hx hb dX10_feed_22 cb_m3 ?_
      exact h_iret_w C hr hI h dX10_feed_24
  · refine lv_iconst hx hb dX10_feed_11 ci_m1 ?_
    exact h_iret_w C hr hI h dX10_feed_12
set_option maxRecDepth 100000 in
set_option maxHeartbeats 4000000 in
theorem c_X10_sign (l : Launch) (D : va_G) (t : gT) (ad z : Nat → Nat) (hJ : gJ shM ad) (σ : gS) (q : Int32) (h : f_X10_sign σ = some q) : Met l yX10_sign (Cond.code yX10_sign cX10_sign 1 (some .int) :: lw_tb) (gR 1 60) (gPc shM t ad D z [.ref (ad 0)] σ) (gQi shM t ad D q σ) 0 0 (gA shM ad) := by
  refine gMet "NineKeysRoundModel" rfl (by decide) hJ (Nat.le_of_ble_eq_true rfl) ?_
  intro p e s m below meth c ls C hr hI hl
  have hx := C.1
  have hb := C.2.1
  have hl : lv_has ls 1 [(0, .ref (ad 0))] := hl
  unfold f_X10_sign at h
  refine lv_aload_n hx hb dX10_sign_0 rfl (lv_at hl 0 rfl) ?_
  refine fg_1075 C hI shM_0 rfl dX10_sign_1 ?_
  refine lv_aload_n hx hb dX10_sign_4 rfl (lv_at hl 0 rfl) ?_
  refine fg_1067 C hI shM_0 rfl dX10_sign_5 ?_
  refine hicmp_ge (tgt := 23) C dX10_sign_8 (by decide) h (fun h => ?_) (fun h => ?_)
  · refine lv_iconst hx hb dX10_sign_23 ci_m1 ?_
    exact h_iret_o C hr hI h dX10_sign_24
  · refine lv_aload_n hx hb dX10_sign_11 rfl (lv_at hl 0 rfl) ?_
    refine fr_1068 C hI shM_0 rfl dX10_sign_12 ?_
    refine lv_aload_n hx hb dX10_sign_15 rfl (lv_at hl 0 rfl) ?_
    refine fg_1075 C hI shM_0 rfl dX10_sign_16 ?_
    refine gx_iald C hI shM_6 h dX10_sign_19 (fun h => ?_)
    refine lv_goto (tgt := 24) hx hb dX10_sign_20 (by decide) ?_
    exact h_iret_o C hr hI h dX10_sign_24
set_option maxRecDepth 100000 in
set_option maxHeartbeats 4000000 in
theorem c_X10_is (l : Launch) (D : va_G) (t : gT) (ad z : Nat → Nat) (hJ : gJ shM ad) (σ : gS) (x1 : Int32) (q : Int32 × gS) (h : f_X10_is σ x1 = some q) : Met l yX10_is (Cond.code yX10_is cX10_is 2 (some .boolean) :: lw_tb) (gR 2 80) (gPc shM t ad D z [.ref (ad 0), .int x1] σ) (gQi shM t ad D q.1 q.2) 0 0 (gA shM ad) := by
  refine gMet "NineKeysRoundModel" rfl (by decide) hJ (Nat.le_of_ble_eq_true rfl) ?_
  intro p e s m below meth c ls C hr hI hl
  have hx := C.1
  have hb := C.2.1
  have hl : lv_has ls 2 [(0, .ref (ad 0)), (1, .int x1)] := hl
  unfold f_X10_is at h
  refine lv_aload_n hx hb dX10_is_0 rfl (lv_at hl 0 rfl) ?_
  refine h_callvi_o (rest := []) C hI hl.1 shM_0 rfl yv_X10_sign k_1319 h (fun q hq => c_X10_sign l D t ad z C.2.2.2.2.2.2.1 (σ) q hq) (As := []) rfl rfl ⟨Nat.le_of_ble_eq_true rfl, Nat.le_of_ble_eq_true rfl⟩ (Nat.le_of_ble_eq_true rfl) dX10_is_1 (fun q1 H locs h hI => ?_)
  refine lv_iload_n hx hb dX10_is_4 rfl (lv_at hl 1 rfl) ?_
  refine hicmp_eq (tgt := 10) C dX10_is_5 (by decide) h (fun h => ?_) (fun h => ?_)
  · refine lv_aload_n hx hb dX10_is_10 rfl (lv_at hl 0 rfl) ?_
    refine lv_dup hx hb dX10_is_11 rfl ?_
    refine fg_1075 C hI shM_0 rfl dX10_is_12 ?_
    refine lv_iconst hx hb dX10_is_15 ci_1 ?_
    refine lv_iadd hx hb dX10_is_16 ?_
    refine fp_1075 C hI shM_0 rfl dX10_is_17 (fun H locs hI => ?_)
    refine gx_st h hI (fun s2 h hI => ?_)
    refine lv_iconst hx hb dX10_is_20 ci_1 ?_
    exact h_zret_w C hr hI h dX10_is_21
  · refine lv_iconst hx hb dX10_is_8 ci_0 ?_
    exact h_zret_w C hr hI h dX10_is_9
set_option maxRecDepth 100000 in
set_option maxHeartbeats 4000000 in
theorem c_X10_codes (l : Launch) (D : va_G) (t : gT) (ad z : Nat → Nat) (hJ : gJ shM ad) (σ : gS) (x1 : Int32) (q : Int32 × gS) (h : f_X10_codes σ x1 = some q) : Met l yX10_codes (Cond.code yX10_codes cX10_codes 2 (some .boolean) :: lw_tb) (gR 1 60) (gPc shM t ad D z [.ref (ad 0), .int x1] σ) (gQi shM t ad D q.1 q.2) 0 0 (gA shM ad) := by
  refine gMet "NineKeysRoundModel" rfl (by decide) hJ (Nat.le_of_ble_eq_true rfl) ?_
  intro p e s m below meth c ls C hr hI hl
  have hx := C.1
  have hb := C.2.1
  have hl : lv_has ls 2 [(0, .ref (ad 0)), (1, .int x1)] := hl
  unfold f_X10_codes at h
  refine lv_aload_n hx hb dX10_codes_0 rfl (lv_at hl 0 rfl) ?_
  refine fr_1082 C hI shM_0 rfl dX10_codes_1 ?_
  refine lv_aload_n hx hb dX10_codes_4 rfl (lv_at hl 0 rfl) ?_
  refine lv_dup hx hb dX10_codes_5 rfl ?_
  refine fg_1077 C hI shM_0 rfl dX10_codes_6 ?_
  refine gx_topi h (fun v1 h => ?_)
  refine lv_dup_x1 hx hb dX10_codes_9 rfl rfl ?_
  refine lv_iconst hx hb dX10_codes_10 ci_1 ?_
  refine lv_iadd hx hb dX10_codes_11 ?_
  refine fp_1077 C hI shM_0 rfl dX10_codes_12 (fun H locs hI => ?_)
  refine gx_st h hI (fun s2 h hI => ?_)
  refine lv_iload_n hx hb dX10_codes_15 rfl (lv_at hl 1 rfl) ?_
  refine gx_iast C hI shM_14 h dX10_codes_16 (fun H locs h hI => ?_)
  refine gx_st h hI (fun s3 h hI => ?_)
  refine lv_iconst hx hb dX10_codes_17 ci_1 ?_
  exact h_zret_w C hr hI h dX10_codes_18
set_option maxRecDepth 100000 in
set_option maxHeartbeats 4000000 in
theorem c_X10_isDigit (l : Launch) (D : va_G) (t : gT) (ad z : Nat → Nat) (hJ : gJ shM ad) (σ : gS) (q : Int32) (h : f_X10_isDigit σ = some q) : Met l yX10_isDigit (Cond.code yX10_isDigit cX10_isDigit 1 (some .boolean) :: lw_tb) (gR 2 80) (gPc shM t ad D z [.ref (ad 0)] σ) (gQi shM t ad D q σ) 0 0 (gA shM ad) := by
  refine gMet "NineKeysRoundModel" rfl (by decide) hJ (Nat.le_of_ble_eq_true rfl) ?_
  intro p e s m below meth c ls C hr hI hl
  have hx := C.1
  have hb := C.2.1
  have hl : lv_has ls 1 [(0, .ref (ad 0))] := hl
  unfold f_X10_isDigit at h
  refine lv_aload_n hx hb dX10_isDigit_0 rfl (lv_at hl 0 rfl) ?_
  refine h_callvi_o (rest := []) C hI hl.1 shM_0 rfl yv_X10_sign k_1319 h (fun q hq => c_X10_sign l D t ad z C.2.2.2.2.2.2.1 (σ) q hq) (As := []) rfl rfl ⟨Nat.le_of_ble_eq_true rfl, Nat.le_of_ble_eq_true rfl⟩ (Nat.le_of_ble_eq_true rfl) dX10_isDigit_1 (fun q1 H locs h hI => ?_)
  refine lv_bipush hx hb dX10_isDigit_4 cb_48 ?_
  refine hicmp_lt (tgt := 22) C dX10_isDigit_6 (by decide) h (fun h => ?_) (fun h => ?_)
  · refine lv_iconst hx hb dX10_isDigit_22 ci_0 ?_
    exact h_zret_o C hr hI h dX10_isDigit_23
  · refine lv_aload_n hx hb dX10_isDigit_9 rfl (lv_at hl 0 rfl) ?_
    refine h_callvi_o (rest := []) C hI hl.1 shM_0 rfl yv_X10_sign k_1319 h (fun q hq => c_X10_sign l D t ad z C.2.2.2.2.2.2.1 (σ) q hq) (As := []) rfl rfl ⟨Nat.le_of_ble_eq_true rfl, Nat.le_of_ble_eq_true rfl⟩ (Nat.le_of_ble_eq_true rfl) dX10_isDigit_10 (fun q2 H locs h hI => ?_)
    refine lv_bipush hx hb dX10_isDigit_13 cb_57 ?_
    refine hicmp_gt (tgt := 22) C dX10_isDigit_15 (by decide) h (fun h => ?_) (fun h => ?_)
    · refine lv_iconst hx hb dX10_isDigit_22 ci_0 ?_
      exact h_zret_o C hr hI h dX10_isDigit_23
    · refine lv_iconst hx hb dX10_isDigit_18 ci_1 ?_
      refine lv_goto (tgt := 23) hx hb dX10_isDigit_19 (by decide) ?_
      exact h_zret_o C hr hI h dX10_isDigit_23
set_option maxRecDepth 100000 in
set_option maxHeartbeats 4000000 in
theorem c_X10_nameOf (l : Launch) (D : va_G) (t : gT) (ad z : Nat → Nat) (hJ : gJ shM ad) (σ : gS) (x0 : Int32) (q : Int32) (h : f_X10_nameOf σ x0 = some q) : Met l yX10_nameOf (Cond.code yX10_nameOf cX10_nameOf 1 (some .int) :: lw_tb) (gR 1 60) (gPc shM t ad D z [.int x0] σ) (gQi shM t ad D q σ) 0 0 (gA shM ad) := by
  refine gMet "NineKeysRoundModel" rfl (by decide) hJ (Nat.le_of_ble_eq_true rfl) ?_
  intro p e s m below meth c ls C hr hI hl
  have hx := C.1
  have hb := C.2.1
  have hl : lv_has ls 1 [(0, .int x0)] := hl
  unfold f_X10_nameOf at h
  refine lv_iload_n hx hb dX10_nameOf_0 rfl (lv_at hl 0 rfl) ?_
  by_cases hc_ : x0 = 100
  · rw [if_pos hc_] at h
    refine lv_tableIn (tgt := 98) (off := 97) hx hb dX10_nameOf_1 (by rw [hc_]; decide) (by rw [hc_]; decide) (by rw [hc_]; rfl) (by decide) ?_
    refine lv_iconst hx hb dX10_nameOf_98 ci_3 ?_
    exact h_iret_o C hr hI h dX10_nameOf_99
  · rw [if_neg hc_] at h
    have hn_0 := hc_
    by_cases hc_ : x0 = 101
    · rw [if_pos hc_] at h
      refine lv_tableIn (tgt := 104) (off := 103) hx hb dX10_nameOf_1 (by rw [hc_]; decide) (by rw [hc_]; decide) (by rw [hc_]; rfl) (by decide) ?_
      refine lv_iconst hx hb dX10_nameOf_104 ci_m1 ?_
      exact h_iret_o C hr hI h dX10_nameOf_105
    · rw [if_neg hc_] at h
      have hn_1 := hc_
      by_cases hc_ : x0 = 102
      · rw [if_pos hc_] at h
        refine lv_tableIn (tgt := 104) (off := 103) hx hb dX10_nameOf_1 (by rw [hc_]; decide) (by rw [hc_]; decide) (by rw [hc_]; rfl) (by decide) ?_
        refine lv_iconst hx hb dX10_nameOf_104 ci_m1 ?_
        exact h_iret_o C hr hI h dX10_nameOf_105
      · rw [if_neg hc_] at h
        have hn_2 := hc_
        by_cases hc_ : x0 = 103
        · rw [if_pos hc_] at h
          refine lv_tableIn (tgt := 104) (off := 103) hx hb dX10_nameOf_1 (by rw [hc_]; decide) (by rw [hc_]; decide) (by rw [hc_]; rfl) (by decide) ?_
          refine lv_iconst hx hb dX10_nameOf_104 ci_m1 ?_
          exact h_iret_o C hr hI h dX10_nameOf_105
        · rw [if_neg hc_] at h
          have hn_3 := hc_
          by_cases hc_ : x0 = 104
          · rw [if_pos hc_] at h
            refine lv_tableIn (tgt := 104) (off := 103) hx hb dX10_nameOf_1 (by rw [hc_]; decide) (by rw [hc_]; decide) (by rw [hc_]; rfl) (by decide) ?_
            refine lv_iconst hx hb dX10_nameOf_104 ci_m1 ?_
            exact h_iret_o C hr hI h dX10_nameOf_105
          · rw [if_neg hc_] at h
            have hn_4 := hc_
            by_cases hc_ : x0 = 105
            · rw [if_pos hc_] at h
              refine lv_tableIn (tgt := 104) (off := 103) hx hb dX10_nameOf_1 (by rw [hc_]; decide) (by rw [hc_]; decide) (by rw [hc_]; rfl) (by decide) ?_
              refine lv_iconst hx hb dX10_nameOf_104 ci_m1 ?_
              exact h_iret_o C hr hI h dX10_nameOf_105
            · rw [if_neg hc_] at h
              have hn_5 := hc_
              by_cases hc_ : x0 = 106
              · rw [if_pos hc_] at h
                refine lv_tableIn (tgt := 104) (off := 103) hx hb dX10_nameOf_1 (by rw [hc_]; decide) (by rw [hc_]; decide) (by rw [hc_]; rfl) (by decide) ?_
                refine lv_iconst hx hb dX10_nameOf_104 ci_m1 ?_
                exact h_iret_o C hr hI h dX10_nameOf_105
              · rw [if_neg hc_] at h
                have hn_6 := hc_
                by_cases hc_ : x0 = 107
                · rw [if_pos hc_] at h
                  refine lv_tableIn (tgt := 104) (off := 103) hx hb dX10_nameOf_1 (by rw [hc_]; decide) (by rw [hc_]; decide) (by rw [hc_]; rfl) (by decide) ?_
                  refine lv_iconst hx hb dX10_nameOf_104 ci_m1 ?_
                  exact h_iret_o C hr hI h dX10_nameOf_105
                · rw [if_neg hc_] at h
                  have hn_7 := hc_
                  by_cases hc_ : x0 = 108
                  · rw [if_pos hc_] at h
                    refine lv_tableIn (tgt := 104) (off := 103) hx hb dX10_nameOf_1 (by rw [hc_]; decide) (by rw [hc_]; decide) (by rw [hc_]; rfl) (by decide) ?_
                    refine lv_iconst hx hb dX10_nameOf_104 ci_m1 ?_
                    exact h_iret_o C hr hI h dX10_nameOf_105
                  · rw [if_neg hc_] at h
                    have hn_8 := hc_
                    by_cases hc_ : x0 = 109
                    · rw [if_pos hc_] at h
                      refine lv_tableIn (tgt := 96) (off := 95) hx hb dX10_nameOf_1 (by rw [hc_]; decide) (by rw [hc_]; decide) (by rw [hc_]; rfl) (by decide) ?_
                      refine lv_iconst hx hb dX10_nameOf_96 ci_2 ?_
                      exact h_iret_o C hr hI h dX10_nameOf_97
                    · rw [if_neg hc_] at h
                      have hn_9 := hc_
                      by_cases hc_ : x0 = 110
                      · rw [if_pos hc_] at h
                        refine lv_tableIn (tgt := 102) (off := 101) hx hb dX10_nameOf_1 (by rw [hc_]; decide) (by rw [hc_]; decide) (by rw [hc_]; rfl) (by decide) ?_
                        refine lv_iconst hx hb dX10_nameOf_102 ci_5 ?_
                        exact h_iret_o C hr hI h dX10_nameOf_103
                      · rw [if_neg hc_] at h
                        have hn_10 := hc_
                        by_cases hc_ : x0 = 111
                        · rw [if_pos hc_] at h
                          refine lv_tableIn (tgt := 104) (off := 103) hx hb dX10_nameOf_1 (by rw [hc_]; decide) (by rw [hc_]; decide) (by rw [hc_]; rfl) (by decide) ?_
                          refine lv_iconst hx hb dX10_nameOf_104 ci_m1 ?_
                          exact h_iret_o C hr hI h dX10_nameOf_105
                        · rw [if_neg hc_] at h
                          have hn_11 := hc_
                          by_cases hc_ : x0 = 112
                          · rw [if_pos hc_] at h
                            refine lv_tableIn (tgt := 100) (off := 99) hx hb dX10_nameOf_1 (by rw [hc_]; decide) (by rw [hc_]; decide) (by rw [hc_]; rfl) (by decide) ?_
                            refine lv_iconst hx hb dX10_nameOf_100 ci_4 ?_
                            exact h_iret_o C hr hI h dX10_nameOf_101
                          · rw [if_neg hc_] at h
                            have hn_12 := hc_
                            by_cases hc_ : x0 = 113
                            · rw [if_pos hc_] at h
                              refine lv_tableIn (tgt := 104) (off := 103) hx hb dX10_nameOf_1 (by rw [hc_]; decide) (by rw [hc_]; decide) (by rw [hc_]; rfl) (by decide) ?_
                              refine lv_iconst hx hb dX10_nameOf_104 ci_m1 ?_
                              exact h_iret_o C hr hI h dX10_nameOf_105
                            · rw [if_neg hc_] at h
                              have hn_13 := hc_
                              by_cases hc_ : x0 = 114
                              · rw [if_pos hc_] at h
                                refine lv_tableIn (tgt := 104) (off := 103) hx hb dX10_nameOf_1 (by rw [hc_]; decide) (by rw [hc_]; decide) (by rw [hc_]; rfl) (by decide) ?_
                                refine lv_iconst hx hb dX10_nameOf_104 ci_m1 ?_
                                exact h_iret_o C hr hI h dX10_nameOf_105
                              · rw [if_neg hc_] at h
                                have hn_14 := hc_
                                by_cases hc_ : x0 = 115
                                · rw [if_pos hc_] at h
                                  refine lv_tableIn (tgt := 104) (off := 103) hx hb dX10_nameOf_1 (by rw [hc_]; decide) (by rw [hc_]; decide) (by rw [hc_]; rfl) (by decide) ?_
                                  refine lv_iconst hx hb dX10_nameOf_104 ci_m1 ?_
                                  exact h_iret_o C hr hI h dX10_nameOf_105
                                · rw [if_neg hc_] at h
                                  have hn_15 := hc_
                                  by_cases hc_ : x0 = 116
                                  · rw [if_pos hc_] at h
                                    refine lv_tableIn (tgt := 104) (off := 103) hx hb dX10_nameOf_1 (by rw [hc_]; decide) (by rw [hc_]; decide) (by rw [hc_]; rfl) (by decide) ?_
                                    refine lv_iconst hx hb dX10_nameOf_104 ci_m1 ?_
                                    exact h_iret_o C hr hI h dX10_nameOf_105
                                  · rw [if_neg hc_] at h
                                    have hn_16 := hc_
                                    by_cases hc_ : x0 = 117
                                    · rw [if_pos hc_] at h
                                      refine lv_tableIn (tgt := 94) (off := 93) hx hb dX10_nameOf_1 (by rw [hc_]; decide) (by rw [hc_]; decide) (by rw [hc_]; rfl) (by decide) ?_
                                      refine lv_iconst hx hb dX10_nameOf_94 ci_1 ?_
                                      exact h_iret_o C hr hI h dX10_nameOf_95
                                    · rw [if_neg hc_] at h
                                      have hn_17 := hc_
                                      by_cases hc_ : x0 = 118
                                      · rw [if_pos hc_] at h
                                        refine lv_tableIn (tgt := 92) (off := 91) hx hb dX10_nameOf_1 (by rw [hc_]; decide) (by rw [hc_]; decide) (by rw [hc_]; rfl) (by decide) ?_
                                        refine lv_iconst hx hb dX10_nameOf_92 ci_0 ?_
                                        exact h_iret_o C hr hI h dX10_nameOf_93
                                      · rw [if_neg hc_] at h
                                        have hn_18 := hc_
                                        have hout : x0.toInt < 100 ∨ 118 < x0.toInt := by
                                          have e0 := tsne (c := 100) (z := 100) (by decide) hn_0
                                          have e1 := tsne (c := 101) (z := 101) (by decide) hn_1
                                          have e2 := tsne (c := 102) (z := 102) (by decide) hn_2
                                          have e3 := tsne (c := 103) (z := 103) (by decide) hn_3
                                          have e4 := tsne (c := 104) (z := 104) (by decide) hn_4
                                          have e5 := tsne (c := 105) (z := 105) (by decide) hn_5
                                          have e6 := tsne (c := 106) (z := 106) (by decide) hn_6
                                          have e7 := tsne (c := 107) (z := 107) (by decide) hn_7
                                          have e8 := tsne (c := 108) (z := 108) (by decide) hn_8
                                          have e9 := tsne (c := 109) (z := 109) (by decide) hn_9
                                          have e10 := tsne (c := 110) (z := 110) (by decide) hn_10
                                          have e11 := tsne (c := 111) (z := 111) (by decide) hn_11
                                          have e12 := tsne (c := 112) (z := 112) (by decide) hn_12
                                          have e13 := tsne (c := 113) (z := 113) (by decide) hn_13
                                          have e14 := tsne (c := 114) (z := 114) (by decide) hn_14
                                          have e15 := tsne (c := 115) (z := 115) (by decide) hn_15
                                          have e16 := tsne (c := 116) (z := 116) (by decide) hn_16
                                          have e17 := tsne (c := 117) (z := 117) (by decide) hn_17
                                          have e18 := tsne (c := 118) (z := 118) (by decide) hn_18
                                          omega
                                        refine lv_tableOut (tgt := 104) hx hb dX10_nameOf_1 hout (by decide) ?_
                                        refine lv_iconst hx hb dX10_nameOf_104 ci_m1 ?_
                                        exact h_iret_o C hr hI h dX10_nameOf_105
set_option maxRecDepth 100000 in
set_option maxHeartbeats 4000000 in
theorem w_X10_isA_9 {p : Program} {l : Launch} {e : Env} {s : State} {m : MethodId} {args : Array Value} {below : List Frame} {meth : Method} {c : Code} {D : va_G} {t : gT} {ad z : Nat → Nat} {R_X10_isA : gS → Option (Int32 × gS)} {R_X10_isB : gS → Option (Int32 × gS)} {R_X10_isE : gS → Option (Int32 × gS)} {R_X10_isO : gS → Option (Int32 × gS)} {R_X10_isP : gS → Option (Int32 × gS)} {R_X10_isS : gS → Option (Int32 × gS)} (C : gC p s m args meth c cX10_isA 1 "NineKeysRoundModel" D t shM ad z) (hr : meth.sig.returnType = some .boolean) {fr lo : Nat} (hfr : 3 ≤ fr) (hlo : 101 ≤ lo) (hR_X10_isA : ∀ (σ : gS) (q : Int32 × gS), R_X10_isA σ = some q → Met l yX10_isA (Cond.code yX10_isA cX10_isA 1 (some .boolean) :: lw_tb) (gR fr lo) (gPc shM t ad D z [.ref (ad 0)] σ) (gQi shM t ad D q.1 q.2) 0 0 (gA shM ad)) (hR_X10_isB : ∀ (σ : gS) (q : Int32 × gS), R_X10_isB σ = some q → Met l yX10_isB (Cond.code yX10_isB cX10_isB 2 (some .boolean) :: lw_tb) (gR fr lo) (gPc shM t ad D z [.ref (ad 0)] σ) (gQi shM t ad D q.1 q.2) 0 0 (gA shM ad)) (hR_X10_isE : ∀ (σ : gS) (q : Int32 × gS), R_X10_isE σ = some q → Met l yX10_isE (Cond.code yX10_isE cX10_isE 1 (some .boolean) :: lw_tb) (gR fr lo) (gPc shM t ad D z [.ref (ad 0)] σ) (gQi shM t ad D q.1 q.2) 0 0 (gA shM ad)) (hR_X10_isO : ∀ (σ : gS) (q : Int32 × gS), R_X10_isO σ = some q → Met l yX10_isO (Cond.code yX10_isO cX10_isO 3 (some .boolean) :: lw_tb) (gR fr lo) (gPc shM t ad D z [.ref (ad 0)] σ) (gQi shM t ad D q.1 q.2) 0 0 (gA shM ad)) (hR_X10_isP : ∀ (σ : gS) (q : Int32 × gS), R_X10_isP σ = some q → Met l yX10_isP (Cond.code yX10_isP cX10_isP 2 (some .boolean) :: lw_tb) (gR fr lo) (gPc shM t ad D z [.ref (ad 0)] σ) (gQi shM t ad D q.1 q.2) 0 0 (gA shM ad)) (hR_X10_isS : ∀ (σ : gS) (q : Int32 × gS), R_X10_isS σ = some q → Met l yX10_isS (Cond.code yX10_isS cX10_isS 2 (some .boolean) :: lw_tb) (gR fr lo) (gPc shM t ad D z [.ref (ad 0)] σ) (gQi shM t ad D q.1 q.2) 0 0 (gA shM ad)) {r : Int32 × gS} : ∀ (n : Nat) (σ : gS) (H : Heap) (locs : List Loc) (ls : Array Slot), f_X10_isA_9 R_X10_isA R_X10_isB R_X10_isE R_X10_isO R_X10_isP R_X10_isS n σ = some r → gI shM t ad D s.heap σ H locs → lv_has ls 1 [(0, .ref (ad 0))] → W p l e (gR (fr + 1) (lo + 22)) s m args below meth c H locs 0 0 (MQ below (gQi shM t ad D r.1 r.2) args s 0 0 (gA shM ad)) (F0 m 9 ls []) := by
  have hx := C.1
  have hb := C.2.1
  intro n
  induction n with
  | zero =>
    intro σ H locs ls  h
    exact absurd h (by simp [f_X10_isA_9])
  | succ n ih =>
    intro σ H locs ls  h hI hl
    unfold f_X10_isA_9 at h
    refine lv_aload_n hx hb dX10_isA_9 rfl (lv_at hl 0 rfl) ?_
    refine lv_bipush hx hb dX10_isA_10 cb_38 ?_
    refine h_callvi_w (rest := []) C hI hl.1 shM_0 rfl yv_X10_is k_1330 h (fun q hq => c_X10_is l D t ad z C.2.2.2.2.2.2.1 (σ) 38 q hq) (As := [.int 38]) rfl rfl ⟨by show _ ≤ fr + 1; omega, by show _ ≤ lo + 22; omega⟩ (Nat.le_of_ble_eq_true rfl) dX10_isA_12 (fun q1 H locs h hI => ?_)
    refine hif_eq (tgt := 37) C dX10_isA_15 (by decide) h (fun h => ?_) (fun h => ?_)
    · refine lv_iconst hx hb dX10_isA_37 ci_1 ?_
      exact h_zret_w C hr hI h dX10_isA_38
    · refine lv_aload_n hx hb dX10_isA_18 rfl (lv_at hl 0 rfl) ?_
      refine h_callvi_w (rest := []) C hI hl.1 shM_0 rfl yv_X10_isB k_1299 h (fun q hq => hR_X10_isB q1.2 q hq) (As := []) rfl rfl ⟨by show _ ≤ fr + 1; omega, by show _ ≤ lo + 22; omega⟩ (Nat.le_of_ble_eq_true rfl) dX10_isA_19 (fun q2 H locs h hI => ?_)
      refine hif_ne (tgt := 27) C dX10_isA_22 (by decide) h (fun h => ?_) (fun h => ?_)
      · refine lv_aload_n hx hb dX10_isA_27 rfl (lv_at hl 0 rfl) ?_
        refine lv_bipush hx hb dX10_isA_28 cb_7 ?_
        refine h_callvi_w (rest := []) C hI hl.1 shM_0 rfl yv_X10_codes k_1323 h (fun q hq => c_X10_codes l D t ad z C.2.2.2.2.2.2.1 q2.2 7 q hq) (As := [.int 7]) rfl rfl ⟨by show _ ≤ fr + 1; omega, by show _ ≤ lo + 22; omega⟩ (Nat.le_of_ble_eq_true rfl) dX10_isA_30 (fun q3 H locs h hI => ?_)
        refine lv_pop hx hb dX10_isA_33 rfl ?_
        refine lv_goto (tgt := 9) hx hb dX10_isA_34 (by decide) ?_
        exact ih  _ _ _ _  h hI (lv_sub hl [0] rfl)
      · refine lv_iconst hx hb dX10_isA_25 ci_0 ?_
        exact h_zret_w C hr hI h dX10_isA_26
set_option maxRecDepth 100000 in
set_option maxHeartbeats 4000000 in
theorem cr_X10_isA (l : Launch) (D : va_G) (t : gT) (ad z : Nat → Nat) (hJ : gJ shM ad) {R_X10_isA : gS → Option (Int32 × gS)} {R_X10_isB : gS → Option (Int32 × gS)} {R_X10_isE : gS → Option (Int32 × gS)} {R_X10_isO : gS → Option (Int32 × gS)} {R_X10_isP : gS → Option (Int32 × gS)} {R_X10_isS : gS → Option (Int32 × gS)} {fr lo : Nat} (hfr : 3 ≤ fr) (hlo : 101 ≤ lo) (hR_X10_isA : ∀ (σ : gS) (q : Int32 × gS), R_X10_isA σ = some q → Met l yX10_isA (Cond.code yX10_isA cX10_isA 1 (some .boolean) :: lw_tb) (gR fr lo) (gPc shM t ad D z [.ref (ad 0)] σ) (gQi shM t ad D q.1 q.2) 0 0 (gA shM ad)) (hR_X10_isB : ∀ (σ : gS) (q : Int32 × gS), R_X10_isB σ = some q → Met l yX10_isB (Cond.code yX10_isB cX10_isB 2 (some .boolean) :: lw_tb) (gR fr lo) (gPc shM t ad D z [.ref (ad 0)] σ) (gQi shM t ad D q.1 q.2) 0 0 (gA shM ad)) (hR_X10_isE : ∀ (σ : gS) (q : Int32 × gS), R_X10_isE σ = some q → Met l yX10_isE (Cond.code yX10_isE cX10_isE 1 (some .boolean) :: lw_tb) (gR fr lo) (gPc shM t ad D z [.ref (ad 0)] σ) (gQi shM t ad D q.1 q.2) 0 0 (gA shM ad)) (hR_X10_isO : ∀ (σ : gS) (q : Int32 × gS), R_X10_isO σ = some q → Met l yX10_isO (Cond.code yX10_isO cX10_isO 3 (some .boolean) :: lw_tb) (gR fr lo) (gPc shM t ad D z [.ref (ad 0)] σ) (gQi shM t ad D q.1 q.2) 0 0 (gA shM ad)) (hR_X10_isP : ∀ (σ : gS) (q : Int32 × gS), R_X10_isP σ = some q → Met l yX10_isP (Cond.code yX10_isP cX10_isP 2 (some .boolean) :: lw_tb) (gR fr lo) (gPc shM t ad D z [.ref (ad 0)] σ) (gQi shM t ad D q.1 q.2) 0 0 (gA shM ad)) (hR_X10_isS : ∀ (σ : gS) (q : Int32 × gS), R_X10_isS σ = some q → Met l yX10_isS (Cond.code yX10_isS cX10_isS 2 (some .boolean) :: lw_tb) (gR fr lo) (gPc shM t ad D z [.ref (ad 0)] σ) (gQi shM t ad D q.1 q.2) 0 0 (gA shM ad)) (σ : gS) (q : Int32 × gS) (h : F_X10_isA R_X10_isA R_X10_isB R_X10_isE R_X10_isO R_X10_isP R_X10_isS σ = some q) : Met l yX10_isA (Cond.code yX10_isA cX10_isA 1 (some .boolean) :: lw_tb) (gR (fr + 1) (lo + 22)) (gPc shM t ad D z [.ref (ad 0)] σ) (gQi shM t ad D q.1 q.2) 0 0 (gA shM ad) := by
  refine gMet "NineKeysRoundModel" rfl (by decide) hJ (Nat.le_of_ble_eq_true rfl) ?_
  intro p e s m below meth c ls C hr hI hl
  have hx := C.1
  have hb := C.2.1
  have hl : lv_has ls 1 [(0, .ref (ad 0))] := hl
  unfold F_X10_isA at h
  refine lv_aload_n hx hb dX10_isA_0 rfl (lv_at hl 0 rfl) ?_
  refine h_callvi_w (rest := []) C hI hl.1 shM_0 rfl yv_X10_isB k_1299 h (fun q hq => hR_X10_isB (σ) q hq) (As := []) rfl rfl ⟨by show _ ≤ fr + 1; omega, by show _ ≤ lo + 22; omega⟩ (Nat.le_of_ble_eq_true rfl) dX10_isA_1 (fun q1 H locs h hI => ?_)
  refine hif_ne (tgt := 9) C dX10_isA_4 (by decide) h (fun h => ?_) (fun h => ?_)
  · exact w_X10_isA_9 C hr hfr hlo hR_X10_isA hR_X10_isB hR_X10_isE hR_X10_isO hR_X10_isP hR_X10_isS   _  _ _ _ _  h hI (lv_sub hl [0] rfl)
  · refine lv_iconst hx hb dX10_isA_7 ci_0 ?_
    exact h_zret_w C hr hI h dX10_isA_8
set_option maxRecDepth 100000 in
set_option maxHeartbeats 4000000 in
theorem w_X10_isB_52 {p : Program} {l : Launch} {e : Env} {s : State} {m : MethodId} {args : Array Value} {below : List Frame} {meth : Method} {c : Code} {D : va_G} {t : gT} {ad z : Nat → Nat} {R_X10_isA : gS → Option (Int32 × gS)} {R_X10_isB : gS → Option (Int32 × gS)} {R_X10_isE : gS → Option (Int32 × gS)} {R_X10_isO : gS → Option (Int32 × gS)} {R_X10_isP : gS → Option (Int32 × gS)} {R_X10_isS : gS → Option (Int32 × gS)} (C : gC p s m args meth c cX10_isB 2 "NineKeysRoundModel" D t shM ad z) (hr : meth.sig.returnType = some .boolean) {fr lo : Nat} (hfr : 3 ≤ fr) (hlo : 101 ≤ lo) (hR_X10_isA : ∀ (σ : gS) (q : Int32 × gS), R_X10_isA σ = some q → Met l yX10_isA (Cond.code yX10_isA cX10_isA 1 (some .boolean) :: lw_tb) (gR fr lo) (gPc shM t ad D z [.ref (ad 0)] σ) (gQi shM t ad D q.1 q.2) 0 0 (gA shM ad)) (hR_X10_isB : ∀ (σ : gS) (q : Int32 × gS), R_X10_isB σ = some q → Met l yX10_isB (Cond.code yX10_isB cX10_isB 2 (some .boolean) :: lw_tb) (gR fr lo) (gPc shM t ad D z [.ref (ad 0)] σ) (gQi shM t ad D q.1 q.2) 0 0 (gA shM ad)) (hR_X10_isE : ∀ (σ : gS) (q : Int32 × gS), R_X10_isE σ = some q → Met l yX10_isE (Cond.code yX10_isE cX10_isE 1 (some .boolean) :: lw_tb) (gR fr lo) (gPc shM t ad D z [.ref (ad 0)] σ) (gQi shM t ad D q.1 q.2) 0 0 (gA shM ad)) (hR_X10_isO : ∀ (σ : gS) (q : Int32 × gS), R_X10_isO σ = some q → Met l yX10_isO (Cond.code yX10_isO cX10_isO 3 (some .boolean) :: lw_tb) (gR fr lo) (gPc shM t ad D z [.ref (ad 0)] σ) (gQi shM t ad D q.1 q.2) 0 0 (gA shM ad)) (hR_X10_isP : ∀ (σ : gS) (q : Int32 × gS), R_X10_isP σ = some q → Met l yX10_isP (Cond.code yX10_isP cX10_isP 2 (some .boolean) :: lw_tb) (gR fr lo) (gPc shM t ad D z [.ref (ad 0)] σ) (gQi shM t ad D q.1 q.2) 0 0 (gA shM ad)) (hR_X10_isS : ∀ (σ : gS) (q : Int32 × gS), R_X10_isS σ = some q → Met l yX10_isS (Cond.code yX10_isS cX10_isS 2 (some .boolean) :: lw_tb) (gR fr lo) (gPc shM t ad D z [.ref (ad 0)] σ) (gQi shM t ad D q.1 q.2) 0 0 (gA shM ad)) {r : Int32 × gS} : ∀ (s0 : Int32) (σ : gS) (H : Heap) (locs : List Loc) (ls : Array Slot), f_X10_isB_52 R_X10_isA R_X10_isB R_X10_isE R_X10_isO R_X10_isP R_X10_isS s0 σ = some r → gI shM t ad D s.heap σ H locs → lv_has ls 2 [(0, .ref (ad 0))] → W p l e (gR (fr + 1) (lo + 22)) s m args below meth c H locs 0 0 (MQ below (gQi shM t ad D r.1 r.2) args s 0 0 (gA shM ad)) (F0 m 52 ls [.int s0]) := by
  have hx := C.1
  have hb := C.2.1
  intro s0 σ H locs ls  h hI hl
  unfold f_X10_isB_52 at h
  refine lv_istore_n (lv' := [(1, .int s0), (0, .ref (ad 0))]) hx hb dX10_isB_52 rfl hl (by decide) rfl (fun ls hl => ?_)
  refine lv_iload_n hx hb dX10_isB_53 rfl (lv_at hl 0 rfl) ?_
  refine hif_ge (tgt := 59) C dX10_isB_54 (by decide) h (fun h => ?_) (fun h => ?_)
  · refine lv_aload_n hx hb dX10_isB_59 rfl (lv_at hl 1 rfl) ?_
    refine lv_dup hx hb dX10_isB_60 rfl ?_
    refine fg_1075 C hI shM_0 rfl dX10_isB_61 ?_
    refine lv_iconst hx hb dX10_isB_64 ci_1 ?_
    refine lv_iadd hx hb dX10_isB_65 ?_
    refine fp_1075 C hI shM_0 rfl dX10_isB_66 (fun H locs hI => ?_)
    refine gx_st h hI (fun s1 h hI => ?_)
    refine lv_aload_n hx hb dX10_isB_69 rfl (lv_at hl 1 rfl) ?_
    refine h_callvi_w (rest := []) C hI hl.1 shM_0 rfl yv_X10_isS k_1303 h (fun q hq => hR_X10_isS s1 q hq) (As := []) rfl rfl ⟨by show _ ≤ fr + 1; omega, by show _ ≤ lo + 22; omega⟩ (Nat.le_of_ble_eq_true rfl) dX10_isB_70 (fun q2 H locs h hI => ?_)
    refine hif_eq (tgt := 88) C dX10_isB_73 (by decide) h (fun h => ?_) (fun h => ?_)
    · refine lv_iconst hx hb dX10_isB_88 ci_0 ?_
      exact h_zret_w C hr hI h dX10_isB_89
    · refine lv_aload_n hx hb dX10_isB_76 rfl (lv_at hl 1 rfl) ?_
      refine lv_iload_n hx hb dX10_isB_77 rfl (lv_at hl 0 rfl) ?_
      refine h_callvi_w (rest := []) C hI hl.1 shM_0 rfl yv_X10_codes k_1323 h (fun q hq => c_X10_codes l D t ad z C.2.2.2.2.2.2.1 q2.2 s0 q hq) (As := [.int s0]) rfl rfl ⟨by show _ ≤ fr + 1; omega, by show _ ≤ lo + 22; omega⟩ (Nat.le_of_ble_eq_true rfl) dX10_isB_78 (fun q3 H locs h hI => ?_)
      refine hif_eq (tgt := 88) C dX10_isB_81 (by decide) h (fun h => ?_) (fun h => ?_)
      · refine lv_iconst hx hb dX10_isB_88 ci_0 ?_
        exact h_zret_w C hr hI h dX10_isB_89
      · refine lv_iconst hx hb dX10_isB_84 ci_1 ?_
        refine lv_goto (tgt := 89) hx hb dX10_isB_85 (by decide) ?_
        exact h_zret_w C hr hI h dX10_isB_89
  · refine lv_iconst hx hb dX10_isB_57 ci_1 ?_
    exact h_zret_w C hr hI h dX10_isB_58
set_option maxRecDepth 100000 in
set_option maxHeartbeats 4000000 in
theorem cr_X10_isB (l : Launch) (D : va_G) (t : gT) (ad z : Nat → Nat) (hJ : gJ shM ad) {R_X10_isA : gS → Option (Int32 × gS)} {R_X10_isB : gS → Option (Int32 × gS)} {R_X10_isE : gS → Option (Int32 × gS)} {R_X10_isO : gS → Option (Int32 × gS)} {R_X10_isP : gS → Option (Int32 × gS)} {R_X10_isS : gS → Option (Int32 × gS)} {fr lo : Nat} (hfr : 3 ≤ fr) (hlo : 101 ≤ lo) (hR_X10_isA : ∀ (σ : gS) (q : Int32 × gS), R_X10_isA σ = some q → Met l yX10_isA (Cond.code yX10_isA cX10_isA 1 (some .boolean) :: lw_tb) (gR fr lo) (gPc shM t ad D z [.ref (ad 0)] σ) (gQi shM t ad D q.1 q.2) 0 0 (gA shM ad)) (hR_X10_isB : ∀ (σ : gS) (q : Int32 × gS), R_X10_isB σ = some q → Met l yX10_isB (Cond.code yX10_isB cX10_isB 2 (some .boolean) :: lw_tb) (gR fr lo) (gPc shM t ad D z [.ref (ad 0)] σ) (gQi shM t ad D q.1 q.2) 0 0 (gA shM ad)) (hR_X10_isE : ∀ (σ : gS) (q : Int32 × gS), R_X10_isE σ = some q → Met l yX10_isE (Cond.code yX10_isE cX10_isE 1 (some .boolean) :: lw_tb) (gR fr lo) (gPc shM t ad D z [.ref (ad 0)] σ) (gQi shM t ad D q.1 q.2) 0 0 (gA shM ad)) (hR_X10_isO : ∀ (σ : gS) (q : Int32 × gS), R_X10_isO σ = some q → Met l yX10_isO (Cond.code yX10_isO cX10_isO 3 (some .boolean) :: lw_tb) (gR fr lo) (gPc shM t ad D z [.ref (ad 0)] σ) (gQi shM t ad D q.1 q.2) 0 0 (gA shM ad)) (hR_X10_isP : ∀ (σ : gS) (q : Int32 × gS), R_X10_isP σ = some q → Met l yX10_isP (Cond.code yX10_isP cX10_isP 2 (some .boolean) :: lw_tb) (gR fr lo) (gPc shM t ad D z [.ref (ad 0)] σ) (gQi shM t ad D q.1 q.2) 0 0 (gA shM ad)) (hR_X10_isS : ∀ (σ : gS) (q : Int32 × gS), R_X10_isS σ = some q → Met l yX10_isS (Cond.code yX10_isS cX10_isS 2 (some .boolean) :: lw_tb) (gR fr lo) (gPc shM t ad D z [.ref (ad 0)] σ) (gQi shM t ad D q.1 q.2) 0 0 (gA shM ad)) (σ : gS) (q : Int32 × gS) (h : F_X10_isB R_X10_isA R_X10_isB R_X10_isE R_X10_isO R_X10_isP R_X10_isS σ = some q) : Met l yX10_isB (Cond.code yX10_isB cX10_isB 2 (some .boolean) :: lw_tb) (gR (fr + 1) (lo + 22)) (gPc shM t ad D z [.ref (ad 0)] σ) (gQi shM t ad D q.1 q.2) 0 0 (gA shM ad) := by
  refine gMet "NineKeysRoundModel" rfl (by decide) hJ (Nat.le_of_ble_eq_true rfl) ?_
  intro p e s m below meth c ls C hr hI hl
  have hx := C.1
  have hb := C.2.1
  have hl : lv_has ls 2 [(0, .ref (ad 0))] := hl
  unfold F_X10_isB at h
  refine lv_aload_n hx hb dX10_isB_0 rfl (lv_at hl 0 rfl) ?_
  refine h_callvi_w (rest := []) C hI hl.1 shM_0 rfl yv_X10_isS k_1303 h (fun q hq => hR_X10_isS (σ) q hq) (As := []) rfl rfl ⟨by show _ ≤ fr + 1; omega, by show _ ≤ lo + 22; omega⟩ (Nat.le_of_ble_eq_true rfl) dX10_isB_1 (fun q1 H locs h hI => ?_)
  refine hif_ne (tgt := 9) C dX10_isB_4 (by decide) h (fun h => ?_) (fun h => ?_)
  · refine lv_aload_n hx hb dX10_isB_9 rfl (lv_at hl 0 rfl) ?_
    refine h_callvi_o (rest := []) C hI hl.1 shM_0 rfl yv_X10_sign k_1319 h (fun q hq => c_X10_sign l D t ad z C.2.2.2.2.2.2.1 q1.2 q hq) (As := []) rfl rfl ⟨by show _ ≤ fr + 1; omega, by show _ ≤ lo + 22; omega⟩ (Nat.le_of_ble_eq_true rfl) dX10_isB_10 (fun q2 H locs h hI => ?_)
    refine lv_bipush hx hb dX10_isB_13 cb_60 ?_
    refine hicmp_ne (tgt := 23) C dX10_isB_15 (by decide) h (fun h => ?_) (fun h => ?_)
    · refine lv_aload_n hx hb dX10_isB_23 rfl (lv_at hl 0 rfl) ?_
      refine h_callvi_o (rest := []) C hI hl.1 shM_0 rfl yv_X10_sign k_1319 h (fun q hq => c_X10_sign l D t ad z C.2.2.2.2.2.2.1 q1.2 q hq) (As := []) rfl rfl ⟨by show _ ≤ fr + 1; omega, by show _ ≤ lo + 22; omega⟩ (Nat.le_of_ble_eq_true rfl) dX10_isB_24 (fun q3 H locs h hI => ?_)
      refine lv_bipush hx hb dX10_isB_27 cb_61 ?_
      refine hicmp_ne (tgt := 37) C dX10_isB_29 (by decide) h (fun h => ?_) (fun h => ?_)
      · refine lv_aload_n hx hb dX10_isB_37 rfl (lv_at hl 0 rfl) ?_
        refine h_callvi_o (rest := []) C hI hl.1 shM_0 rfl yv_X10_sign k_1319 h (fun q hq => c_X10_sign l D t ad z C.2.2.2.2.2.2.1 q1.2 q hq) (As := []) rfl rfl ⟨by show _ ≤ fr + 1; omega, by show _ ≤ lo + 22; omega⟩ (Nat.le_of_ble_eq_true rfl) dX10_isB_38 (fun q4 H locs h hI => ?_)
        refine lv_bipush hx hb dX10_isB_41 cb_62 ?_
        refine hicmp_ne (tgt := 51) C dX10_isB_43 (by decide) h (fun h => ?_) (fun h => ?_)
        · refine lv_iconst hx hb dX10_isB_51 ci_m1 ?_
          exact w_X10_isB_52 C hr hfr hlo hR_X10_isA hR_X10_isB hR_X10_isE hR_X10_isO hR_X10_isP hR_X10_isS   _ _ _ _ _  h hI (lv_sub hl [0] rfl)
        · refine lv_bipush hx hb dX10_isB_46 cb_10 ?_
          refine lv_goto (tgt := 52) hx hb dX10_isB_48 (by decide) ?_
          exact w_X10_isB_52 C hr hfr hlo hR_X10_isA hR_X10_isB hR_X10_isE hR_X10_isO hR_X10_isP hR_X10_isS   _ _ _ _ _  h hI (lv_sub hl [0] rfl)
      · refine lv_bipush hx hb dX10_isB_32 cb_9 ?_
        refine lv_goto (tgt := 52) hx hb dX10_isB_34 (by decide) ?_
        exact w_X10_isB_52 C hr hfr hlo hR_X10_isA hR_X10_isB hR_X10_isE hR_X10_isO hR_X10_isP hR_X10_isS   _ _ _ _ _  h hI (lv_sub hl [0] rfl)
    · refine lv_bipush hx hb dX10_isB_18 cb_8 ?_
      refine lv_goto (tgt := 52) hx hb dX10_isB_20 (by decide) ?_
      exact w_X10_isB_52 C hr hfr hlo hR_X10_isA hR_X10_isB hR_X10_isE hR_X10_isO hR_X10_isP hR_X10_isS   _ _ _ _ _  h hI (lv_sub hl [0] rfl)
  · refine lv_iconst hx hb dX10_isB_7 ci_0 ?_
    exact h_zret_w C hr hI h dX10_isB_8
set_option maxRecDepth 100000 in
set_option maxHeartbeats 4000000 in
theorem w_X10_isE_9 {p : Program} {l : Launch} {e : Env} {s : State} {m : MethodId} {args : Array Value} {below : List Frame} {meth : Method} {c : Code} {D : va_G} {t : gT} {ad z : Nat → Nat} {R_X10_isA : gS → Option (Int32 × gS)} {R_X10_isB : gS → Option (Int32 × gS)} {R_X10_isE : gS → Option (Int32 × gS)} {R_X10_isO : gS → Option (Int32 × gS)} {R_X10_isP : gS → Option (Int32 × gS)} {R_X10_isS : gS → Option (Int32 × gS)} (C : gC p s m args meth c cX10_isE 1 "NineKeysRoundModel" D t shM ad z) (hr : meth.sig.returnType = some .boolean) {fr lo : Nat} (hfr : 3 ≤ fr) (hlo : 101 ≤ lo) (hR_X10_isA : ∀ (σ : gS) (q : Int32 × gS), R_X10_isA σ = some q → Met l yX10_isA (Cond.code yX10_isA cX10_isA 1 (some .boolean) :: lw_tb) (gR fr lo) (gPc shM t ad D z [.ref (ad 0)] σ) (gQi shM t ad D q.1 q.2) 0 0 (gA shM ad)) (hR_X10_isB : ∀ (σ : gS) (q : Int32 × gS), R_X10_isB σ = some q → Met l yX10_isB (Cond.code yX10_isB cX10_isB 2 (some .boolean) :: lw_tb) (gR fr lo) (gPc shM t ad D z [.ref (ad 0)] σ) (gQi shM t ad D q.1 q.2) 0 0 (gA shM ad)) (hR_X10_isE : ∀ (σ : gS) (q : Int32 × gS), R_X10_isE σ = some q → Met l yX10_isE (Cond.code yX10_isE cX10_isE 1 (some .boolean) :: lw_tb) (gR fr lo) (gPc shM t ad D z [.ref (ad 0)] σ) (gQi shM t ad D q.1 q.2) 0 0 (gA shM ad)) (hR_X10_isO : ∀ (σ : gS) (q : Int32 × gS), R_X10_isO σ = some q → Met l yX10_isO (Cond.code yX10_isO cX10_isO 3 (some .boolean) :: lw_tb) (gR fr lo) (gPc shM t ad D z [.ref (ad 0)] σ) (gQi shM t ad D q.1 q.2) 0 0 (gA shM ad)) (hR_X10_isP : ∀ (σ : gS) (q : Int32 × gS), R_X10_isP σ = some q → Met l yX10_isP (Cond.code yX10_isP cX10_isP 2 (some .boolean) :: lw_tb) (gR fr lo) (gPc shM t ad D z [.ref (ad 0)] σ) (gQi shM t ad D q.1 q.2) 0 0 (gA shM ad)) (hR_X10_isS : ∀ (σ : gS) (q : Int32 × gS), R_X10_isS σ = some q → Met l yX10_isS (Cond.code yX10_isS cX10_isS 2 (some .boolean) :: lw_tb) (gR fr lo) (gPc shM t ad D z [.ref (ad 0)] σ) (gQi shM t ad D q.1 q.2) 0 0 (gA shM ad)) {r : Int32 × gS} : ∀ (n : Nat) (σ : gS) (H : Heap) (locs : List Loc) (ls : Array Slot), f_X10_isE_9 R_X10_isA R_X10_isB R_X10_isE R_X10_isO R_X10_isP R_X10_isS n σ = some r → gI shM t ad D s.heap σ H locs → lv_has ls 1 [(0, .ref (ad 0))] → W p l e (gR (fr + 1) (lo + 22)) s m args below meth c H locs 0 0 (MQ below (gQi shM t ad D r.1 r.2) args s 0 0 (gA shM ad)) (F0 m 9 ls []) := by
  have hx := C.1
  have hb := C.2.1
  intro n
  induction n with
  | zero =>
    intro σ H locs ls  h
    exact absurd h (by simp [f_X10_isE_9])
  | succ n ih =>
    intro σ H locs ls  h hI hl
    unfold f_X10_isE_9 at h
    refine lv_aload_n hx hb dX10_isE_9 rfl (lv_at hl 0 rfl) ?_
    refine lv_bipush hx hb dX10_isE_10 cb_124 ?_
    refine h_callvi_w (rest := []) C hI hl.1 shM_0 rfl yv_X10_is k_1330 h (fun q hq => c_X10_is l D t ad z C.2.2.2.2.2.2.1 (σ) 124 q hq) (As := [.int 124]) rfl rfl ⟨by show _ ≤ fr + 1; omega, by show _ ≤ lo + 22; omega⟩ (Nat.le_of_ble_eq_true rfl) dX10_isE_12 (fun q1 H locs h hI => ?_)
    refine hif_eq (tgt := 37) C dX10_isE_15 (by decide) h (fun h => ?_) (fun h => ?_)
    · refine lv_iconst hx hb dX10_isE_37 ci_1 ?_
      exact h_zret_w C hr hI h dX10_isE_38
    · refine lv_aload_n hx hb dX10_isE_18 rfl (lv_at hl 0 rfl) ?_
      refine h_callvi_w (rest := []) C hI hl.1 shM_0 rfl yv_X10_isA k_1295 h (fun q hq => hR_X10_isA q1.2 q hq) (As := []) rfl rfl ⟨by show _ ≤ fr + 1; omega, by show _ ≤ lo + 22; omega⟩ (Nat.le_of_ble_eq_true rfl) dX10_isE_19 (fun q2 H locs h hI => ?_)
      refine hif_ne (tgt := 27) C dX10_isE_22 (by decide) h (fun h => ?_) (fun h => ?_)
      · refine lv_aload_n hx hb dX10_isE_27 rfl (lv_at hl 0 rfl) ?_
        refine lv_bipush hx hb dX10_isE_28 cb_6 ?_
        refine h_callvi_w (rest := []) C hI hl.1 shM_0 rfl yv_X10_codes k_1323 h (fun q hq => c_X10_codes l D t ad z C.2.2.2.2.2.2.1 q2.2 6 q hq) (As := [.int 6]) rfl rfl ⟨by show _ ≤ fr + 1; omega, by show _ ≤ lo + 22; omega⟩ (Nat.le_of_ble_eq_true rfl) dX10_isE_30 (fun q3 H locs h hI => ?_)
        refine lv_pop hx hb dX10_isE_33 rfl ?_
        refine lv_goto (tgt := 9) hx hb dX10_isE_34 (by decide) ?_
        exact ih  _ _ _ _  h hI (lv_sub hl [0] rfl)
      · refine lv_iconst hx hb dX10_isE_25 ci_0 ?_
        exact h_zret_w C hr hI h dX10_isE_26
set_option maxRecDepth 100000 in
set_option maxHeartbeats 4000000 in
theorem cr_X10_isE (l : Launch) (D : va_G) (t : gT) (ad z : Nat → Nat) (hJ : gJ shM ad) {R_X10_isA : gS → Option (Int32 × gS)} {R_X10_isB : gS → Option (Int32 × gS)} {R_X10_isE : gS → Option (Int32 × gS)} {R_X10_isO : gS → Option (Int32 × gS)} {R_X10_isP : gS → Option (Int32 × gS)} {R_X10_isS : gS → Option (Int32 × gS)} {fr lo : Nat} (hfr : 3 ≤ fr) (hlo : 101 ≤ lo) (hR_X10_isA : ∀ (σ : gS) (q : Int32 × gS), R_X10_isA σ = some q → Met l yX10_isA (Cond.code yX10_isA cX10_isA 1 (some .boolean) :: lw_tb) (gR fr lo) (gPc shM t ad D z [.ref (ad 0)] σ) (gQi shM t ad D q.1 q.2) 0 0 (gA shM ad)) (hR_X10_isB : ∀ (σ : gS) (q : Int32 × gS), R_X10_isB σ = some q → Met l yX10_isB (Cond.code yX10_isB cX10_isB 2 (some .boolean) :: lw_tb) (gR fr lo) (gPc shM t ad D z [.ref (ad 0)] σ) (gQi shM t ad D q.1 q.2) 0 0 (gA shM ad)) (hR_X10_isE : ∀ (σ : gS) (q : Int32 × gS), R_X10_isE σ = some q → Met l yX10_isE (Cond.code yX10_isE cX10_isE 1 (some .boolean) :: lw_tb) (gR fr lo) (gPc shM t ad D z [.ref (ad 0)] σ) (gQi shM t ad D q.1 q.2) 0 0 (gA shM ad)) (hR_X10_isO : ∀ (σ : gS) (q : Int32 × gS), R_X10_isO σ = some q → Met l yX10_isO (Cond.code yX10_isO cX10_isO 3 (some .boolean) :: lw_tb) (gR fr lo) (gPc shM t ad D z [.ref (ad 0)] σ) (gQi shM t ad D q.1 q.2) 0 0 (gA shM ad)) (hR_X10_isP : ∀ (σ : gS) (q : Int32 × gS), R_X10_isP σ = some q → Met l yX10_isP (Cond.code yX10_isP cX10_isP 2 (some .boolean) :: lw_tb) (gR fr lo) (gPc shM t ad D z [.ref (ad 0)] σ) (gQi shM t ad D q.1 q.2) 0 0 (gA shM ad)) (hR_X10_isS : ∀ (σ : gS) (q : Int32 × gS), R_X10_isS σ = some q → Met l yX10_isS (Cond.code yX10_isS cX10_isS 2 (some .boolean) :: lw_tb) (gR fr lo) (gPc shM t ad D z [.ref (ad 0)] σ) (gQi shM t ad D q.1 q.2) 0 0 (gA shM ad)) (σ : gS) (q : Int32 × gS) (h : F_X10_isE R_X10_isA R_X10_isB R_X10_isE R_X10_isO R_X10_isP R_X10_isS σ = some q) : Met l yX10_isE (Cond.code yX10_isE cX10_isE 1 (some .boolean) :: lw_tb) (gR (fr + 1) (lo + 22)) (gPc shM t ad D z [.ref (ad 0)] σ) (gQi shM t ad D q.1 q.2) 0 0 (gA shM ad) := by
  refine gMet "NineKeysRoundModel" rfl (by decide) hJ (Nat.le_of_ble_eq_true rfl) ?_
  intro p e s m below meth c ls C hr hI hl
  have hx := C.1
  have hb := C.2.1
  have hl : lv_has ls 1 [(0, .ref (ad 0))] := hl
  unfold F_X10_isE at h
  refine lv_aload_n hx hb dX10_isE_0 rfl (lv_at hl 0 rfl) ?_
  refine h_callvi_w (rest := []) C hI hl.1 shM_0 rfl yv_X10_isA k_1295 h (fun q hq => hR_X10_isA (σ) q hq) (As := []) rfl rfl ⟨by show _ ≤ fr + 1; omega, by show _ ≤ lo + 22; omega⟩ (Nat.le_of_ble_eq_true rfl) dX10_isE_1 (fun q1 H locs h hI => ?_)
  refine hif_ne (tgt := 9) C dX10_isE_4 (by decide) h (fun h => ?_) (fun h => ?_)
  · exact w_X10_isE_9 C hr hfr hlo hR_X10_isA hR_X10_isB hR_X10_isE hR_X10_isO hR_X10_isP hR_X10_isS   _  _ _ _ _  h hI (lv_sub hl [0] rfl)
  · refine lv_iconst hx hb dX10_isE_7 ci_0 ?_
    exact h_zret_w C hr hI h dX10_isE_8
set_option maxRecDepth 100000 in
set_option maxHeartbeats 4000000 in
theorem w_X10_isO_57 {p : Program} {l : Launch} {e : Env} {s : State} {m : MethodId} {args : Array Value} {below : List Frame} {meth : Method} {c : Code} {D : va_G} {t : gT} {ad z : Nat → Nat} {R_X10_isA : gS → Option (Int32 × gS)} {R_X10_isB : gS → Option (Int32 × gS)} {R_X10_isE : gS → Option (Int32 × gS)} {R_X10_isO : gS → Option (Int32 × gS)} {R_X10_isP : gS → Option (Int32 × gS)} {R_X10_isS : gS → Option (Int32 × gS)} (C : gC p s m args meth c cX10_isO 3 "NineKeysRoundModel" D t shM ad z) (hr : meth.sig.returnType = some .boolean) {fr lo : Nat} (hfr : 3 ≤ fr) (hlo : 101 ≤ lo) (hR_X10_isA : ∀ (σ : gS) (q : Int32 × gS), R_X10_isA σ = some q → Met l yX10_isA (Cond.code yX10_isA cX10_isA 1 (some .boolean) :: lw_tb) (gR fr lo) (gPc shM t ad D z [.ref (ad 0)] σ) (gQi shM t ad D q.1 q.2) 0 0 (gA shM ad)) (hR_X10_isB : ∀ (σ : gS) (q : Int32 × gS), R_X10_isB σ = some q → Met l yX10_isB (Cond.code yX10_isB cX10_isB 2 (some .boolean) :: lw_tb) (gR fr lo) (gPc shM t ad D z [.ref (ad 0)] σ) (gQi shM t ad D q.1 q.2) 0 0 (gA shM ad)) (hR_X10_isE : ∀ (σ : gS) (q : Int32 × gS), R_X10_isE σ = some q → Met l yX10_isE (Cond.code yX10_isE cX10_isE 1 (some .boolean) :: lw_tb) (gR fr lo) (gPc shM t ad D z [.ref (ad 0)] σ) (gQi shM t ad D q.1 q.2) 0 0 (gA shM ad)) (hR_X10_isO : ∀ (σ : gS) (q : Int32 × gS), R_X10_isO σ = some q → Met l yX10_isO (Cond.code yX10_isO cX10_isO 3 (some .boolean) :: lw_tb) (gR fr lo) (gPc shM t ad D z [.ref (ad 0)] σ) (gQi shM t ad D q.1 q.2) 0 0 (gA shM ad)) (hR_X10_isP : ∀ (σ : gS) (q : Int32 × gS), R_X10_isP σ = some q → Met l yX10_isP (Cond.code yX10_isP cX10_isP 2 (some .boolean) :: lw_tb) (gR fr lo) (gPc shM t ad D z [.ref (ad 0)] σ) (gQi shM t ad D q.1 q.2) 0 0 (gA shM ad)) (hR_X10_isS : ∀ (σ : gS) (q : Int32 × gS), R_X10_isS σ = some q → Met l yX10_isS (Cond.code yX10_isS cX10_isS 2 (some .boolean) :: lw_tb) (gR fr lo) (gPc shM t ad D z [.ref (ad 0)] σ) (gQi shM t ad D q.1 q.2) 0 0 (gA shM ad)) {r : Int32 × gS} : ∀ (x1 : Int32) (σ : gS) (H : Heap) (locs : List Loc) (ls : Array Slot), f_X10_isO_57 R_X10_isA R_X10_isB R_X10_isE R_X10_isO R_X10_isP R_X10_isS x1 σ = some r → gI shM t ad D s.heap σ H locs → lv_has ls 3 [(0, .ref (ad 0)), (1, .int x1)] → W p l e (gR (fr + 1) (lo + 22)) s m args below meth c H locs 0 0 (MQ below (gQi shM t ad D r.1 r.2) args s 0 0 (gA shM ad)) (F0 m 57 ls []) := by
  have hx := C.1
  have hb := C.2.1
  intro x1 σ H locs ls  h hI hl
  unfold f_X10_isO_57 at h
  refine lv_aload_n hx hb dX10_isO_57 rfl (lv_at hl 0 rfl) ?_
  refine lv_bipush hx hb dX10_isO_58 cb_18 ?_
  refine lv_iload_n hx hb dX10_isO_60 rfl (lv_at hl 1 rfl) ?_
  refine lv_iadd hx hb dX10_isO_61 ?_
  refine h_callvi_w (rest := []) C hI hl.1 shM_0 rfl yv_X10_codes k_1323 h (fun q hq => c_X10_codes l D t ad z C.2.2.2.2.2.2.1 (σ) (18 + x1) q hq) (As := [.int (18 + x1)]) rfl rfl ⟨by show _ ≤ fr + 1; omega, by show _ ≤ lo + 22; omega⟩ (Nat.le_of_ble_eq_true rfl) dX10_isO_62 (fun q1 H locs h hI => ?_)
  exact h_zret_w C hr hI h dX10_isO_65
set_option maxRecDepth 100000 in
set_option maxHeartbeats 4000000 in
theorem w_X10_isO_11 {p : Program} {l : Launch} {e : Env} {s : State} {m : MethodId} {args : Array Value} {below : List Frame} {meth : Method} {c : Code} {D : va_G} {t : gT} {ad z : Nat → Nat} {R_X10_isA : gS → Option (Int32 × gS)} {R_X10_isB : gS → Option (Int32 × gS)} {R_X10_isE : gS → Option (Int32 × gS)} {R_X10_isO : gS → Option (Int32 × gS)} {R_X10_isP : gS → Option (Int32 × gS)} {R_X10_isS : gS → Option (Int32 × gS)} (C : gC p s m args meth c cX10_isO 3 "NineKeysRoundModel" D t shM ad z) (hr : meth.sig.returnType = some .boolean) {fr lo : Nat} (hfr : 3 ≤ fr) (hlo : 101 ≤ lo) (hR_X10_isA : ∀ (σ : gS) (q : Int32 × gS), R_X10_isA σ = some q → Met l yX10_isA (Cond.code yX10_isA cX10_isA 1 (some .boolean) :: lw_tb) (gR fr lo) (gPc shM t ad D z [.ref (ad 0)] σ) (gQi shM t ad D q.1 q.2) 0 0 (gA shM ad)) (hR_X10_isB : ∀ (σ : gS) (q : Int32 × gS), R_X10_isB σ = some q → Met l yX10_isB (Cond.code yX10_isB cX10_isB 2 (some .boolean) :: lw_tb) (gR fr lo) (gPc shM t ad D z [.ref (ad 0)] σ) (gQi shM t ad D q.1 q.2) 0 0 (gA shM ad)) (hR_X10_isE : ∀ (σ : gS) (q : Int32 × gS), R_X10_isE σ = some q → Met l yX10_isE (Cond.code yX10_isE cX10_isE 1 (some .boolean) :: lw_tb) (gR fr lo) (gPc shM t ad D z [.ref (ad 0)] σ) (gQi shM t ad D q.1 q.2) 0 0 (gA shM ad)) (hR_X10_isO : ∀ (σ : gS) (q : Int32 × gS), R_X10_isO σ = some q → Met l yX10_isO (Cond.code yX10_isO cX10_isO 3 (some .boolean) :: lw_tb) (gR fr lo) (gPc shM t ad D z [.ref (ad 0)] σ) (gQi shM t ad D q.1 q.2) 0 0 (gA shM ad)) (hR_X10_isP : ∀ (σ : gS) (q : Int32 × gS), R_X10_isP σ = some q → Met l yX10_isP (Cond.code yX10_isP cX10_isP 2 (some .boolean) :: lw_tb) (gR fr lo) (gPc shM t ad D z [.ref (ad 0)] σ) (gQi shM t ad D q.1 q.2) 0 0 (gA shM ad)) (hR_X10_isS : ∀ (σ : gS) (q : Int32 × gS), R_X10_isS σ = some q → Met l yX10_isS (Cond.code yX10_isS cX10_isS 2 (some .boolean) :: lw_tb) (gR fr lo) (gPc shM t ad D z [.ref (ad 0)] σ) (gQi shM t ad D q.1 q.2) 0 0 (gA shM ad)) {r : Int32 × gS} : ∀ (n : Nat) (x1 : Int32) (x2 : Int32) (σ : gS) (H : Heap) (locs : List Loc) (ls : Array Slot), f_X10_isO_11 R_X10_isA R_X10_isB R_X10_isE R_X10_isO R_X10_isP R_X10_isS n x1 x2 σ = some r → gI shM t ad D s.heap σ H locs → lv_has ls 3 [(0, .ref (ad 0)), (1, .int x1), (2, .int x2)] → W p l e (gR (fr + 1) (lo + 22)) s m args below meth c H locs 0 0 (MQ below (gQi shM t ad D r.1 r.2) args s 0 0 (gA shM ad)) (F0 m 11 ls []) := by
  have hx := C.1
  have hb := C.2.1
  intro n
  induction n with
  | zero =>
    intro x1 x2 σ H locs ls  h
    exact absurd h (by simp [f_X10_isO_11])
  | succ n ih =>
    intro x1 x2 σ H locs ls  h hI hl
    unfold f_X10_isO_11 at h
    refine lv_iload_n hx hb dX10_isO_11 rfl (lv_at hl 2 rfl) ?_
    refine lv_iconst hx hb dX10_isO_12 ci_4 ?_
    refine hicmp_ge (tgt := 57) C dX10_isO_13 (by decide) h (fun h => ?_) (fun h => ?_)
    · exact w_X10_isO_57 C hr hfr hlo hR_X10_isA hR_X10_isB hR_X10_isE hR_X10_isO hR_X10_isP hR_X10_isS   _ _ _ _ _  h hI (lv_sub hl [0, 1] rfl)
    · refine lv_aload_n hx hb dX10_isO_16 rfl (lv_at hl 0 rfl) ?_
      refine h_callvi_o (rest := []) C hI hl.1 shM_0 rfl yv_X10_isDigit k_1315 h (fun q hq => c_X10_isDigit l D t ad z C.2.2.2.2.2.2.1 (σ) q hq) (As := []) rfl rfl ⟨by show _ ≤ fr + 1; omega, by show _ ≤ lo + 22; omega⟩ (Nat.le_of_ble_eq_true rfl) dX10_isO_17 (fun q1 H locs h hI => ?_)
      refine hif_eq (tgt := 57) C dX10_isO_20 (by decide) h (fun h => ?_) (fun h => ?_)
      · exact w_X10_isO_57 C hr hfr hlo hR_X10_isA hR_X10_isB hR_X10_isE hR_X10_isO hR_X10_isP hR_X10_isS   _ _ _ _ _  h hI (lv_sub hl [0, 1] rfl)
      · refine lv_bipush hx hb dX10_isO_23 cb_10 ?_
        refine lv_iload_n hx hb dX10_isO_25 rfl (lv_at hl 1 rfl) ?_
        refine lv_imul hx hb dX10_isO_26 ?_
        refine lv_aload_n hx hb dX10_isO_27 rfl (lv_at hl 0 rfl) ?_
        refine fr_1068 C hI shM_0 rfl dX10_isO_28 ?_
        refine lv_aload_n hx hb dX10_isO_31 rfl (lv_at hl 0 rfl) ?_
        refine fg_1075 C hI shM_0 rfl dX10_isO_32 ?_
        refine gx_iald C hI shM_6 h dX10_isO_35 (fun h => ?_)
        refine lv_iadd hx hb dX10_isO_36 ?_
        refine lv_bipush hx hb dX10_isO_37 cb_48 ?_
        refine lv_isub hx hb dX10_isO_39 ?_
        refine gx_topi h (fun v2 h => ?_)
        refine lv_istore_n (lv' := [(1, .int v2), (0, .ref (ad 0)), (2, .int x2)]) hx hb dX10_isO_40 rfl hl (by decide) rfl (fun ls hl => ?_)
        refine lv_aload_n hx hb dX10_isO_41 rfl (lv_at hl 1 rfl) ?_
        refine lv_dup hx hb dX10_isO_42 rfl ?_
        refine fg_1075 C hI shM_0 rfl dX10_isO_43 ?_
        refine lv_iconst hx hb dX10_isO_46 ci_1 ?_
        refine lv_iadd hx hb dX10_isO_47 ?_
        refine fp_1075 C hI shM_0 rfl dX10_isO_48 (fun H locs hI => ?_)
        refine gx_st h hI (fun s3 h hI => ?_)
        refine h_iinc C hl dX10_isO_51 2 rfl ci_1 h (by decide) (lvf := fun v4 => [(2, .int v4), (1, .int v2), (0, .ref (ad 0))]) (fun _ => rfl) (fun v4 ls h hl => ?_)
        refine lv_goto (tgt := 11) hx hb dX10_isO_54 (by decide) ?_
        exact ih _ _ _ _ _ _  h hI (lv_sub hl [2, 1, 0] rfl)
set_option maxRecDepth 100000 in
set_option maxHeartbeats 4000000 in
theorem w_X10_isO_214 {p : Program} {l : Launch} {e : Env} {s : State} {m : MethodId} {args : Array Value} {below : List Frame} {meth : Method} {c : Code} {D : va_G} {t : gT} {ad z : Nat → Nat} {R_X10_isA : gS → Option (Int32 × gS)} {R_X10_isB : gS → Option (Int32 × gS)} {R_X10_isE : gS → Option (Int32 × gS)} {R_X10_isO : gS → Option (Int32 × gS)} {R_X10_isP : gS → Option (Int32 × gS)} {R_X10_isS : gS → Option (Int32 × gS)} (C : gC p s m args meth c cX10_isO 3 "NineKeysRoundModel" D t shM ad z) (hr : meth.sig.returnType = some .boolean) {fr lo : Nat} (hfr : 3 ≤ fr) (hlo : 101 ≤ lo) (hR_X10_isA : ∀ (σ : gS) (q : Int32 × gS), R_X10_isA σ = some q → Met l yX10_isA (Cond.code yX10_isA cX10_isA 1 (some .boolean) :: lw_tb) (gR fr lo) (gPc shM t ad D z [.ref (ad 0)] σ) (gQi shM t ad D q.1 q.2) 0 0 (gA shM ad)) (hR_X10_isB : ∀ (σ : gS) (q : Int32 × gS), R_X10_isB σ = some q → Met l yX10_isB (Cond.code yX10_isB cX10_isB 2 (some .boolean) :: lw_tb) (gR fr lo) (gPc shM t ad D z [.ref (ad 0)] σ) (gQi shM t ad D q.1 q.2) 0 0 (gA shM ad)) (hR_X10_isE : ∀ (σ : gS) (q : Int32 × gS), R_X10_isE σ = some q → Met l yX10_isE (Cond.code yX10_isE cX10_isE 1 (some .boolean) :: lw_tb) (gR fr lo) (gPc shM t ad D z [.ref (ad 0)] σ) (gQi shM t ad D q.1 q.2) 0 0 (gA shM ad)) (hR_X10_isO : ∀ (σ : gS) (q : Int32 × gS), R_X10_isO σ = some q → Met l yX10_isO (Cond.code yX10_isO cX10_isO 3 (some .boolean) :: lw_tb) (gR fr lo) (gPc shM t ad D z [.ref (ad 0)] σ) (gQi shM t ad D q.1 q.2) 0 0 (gA shM ad)) (hR_X10_isP : ∀ (σ : gS) (q : Int32 × gS), R_X10_isP σ = some q → Met l yX10_isP (Cond.code yX10_isP cX10_isP 2 (some .boolean) :: lw_tb) (gR fr lo) (gPc shM t ad D z [.ref (ad 0)] σ) (gQi shM t ad D q.1 q.2) 0 0 (gA shM ad)) (hR_X10_isS : ∀ (σ : gS) (q : Int32 × gS), R_X10_isS σ = some q → Met l yX10_isS (Cond.code yX10_isS cX10_isS 2 (some .boolean) :: lw_tb) (gR fr lo) (gPc shM t ad D z [.ref (ad 0)] σ) (gQi shM t ad D q.1 q.2) 0 0 (gA shM ad)) {r : Int32 × gS} : ∀ (x2 : Int32) (σ : gS) (H : Heap) (locs : List Loc) (ls : Array Slot), f_X10_isO_214 R_X10_isA R_X10_isB R_X10_isE R_X10_isO R_X10_isP R_X10_isS x2 σ = some r → gI shM t ad D s.heap σ H locs → lv_has ls 3 [(0, .ref (ad 0)), (2, .int x2)] → W p l e (gR (fr + 1) (lo + 22)) s m args below meth c H locs 0 0 (MQ below (gQi shM t ad D r.1 r.2) args s 0 0 (gA shM ad)) (F0 m 214 ls []) := by
  have hx := C.1
  have hb := C.2.1
  intro x2 σ H locs ls  h hI hl
  unfold f_X10_isO_214 at h
  refine lv_aload_n hx hb dX10_isO_214 rfl (lv_at hl 0 rfl) ?_
  refine lv_dup hx hb dX10_isO_215 rfl ?_
  refine fg_1076 C hI shM_0 rfl dX10_isO_216 ?_
  refine lv_iconst hx hb dX10_isO_219 ci_1 ?_
  refine lv_isub hx hb dX10_isO_220 ?_
  refine fp_1076 C hI shM_0 rfl dX10_isO_221 (fun H locs hI => ?_)
  refine gx_st h hI (fun s1 h hI => ?_)
  refine lv_iload_n hx hb dX10_isO_224 rfl (lv_at hl 1 rfl) ?_
  exact h_zret_w C hr hI h dX10_isO_225
set_option maxRecDepth 100000 in
set_option maxHeartbeats 4000000 in
theorem w_X10_isO_145 {p : Program} {l : Launch} {e : Env} {s : State} {m : MethodId} {args : Array Value} {below : List Frame} {meth : Method} {c : Code} {D : va_G} {t : gT} {ad z : Nat → Nat} {R_X10_isA : gS → Option (Int32 × gS)} {R_X10_isB : gS → Option (Int32 × gS)} {R_X10_isE : gS → Option (Int32 × gS)} {R_X10_isO : gS → Option (Int32 × gS)} {R_X10_isP : gS → Option (Int32 × gS)} {R_X10_isS : gS → Option (Int32 × gS)} (C : gC p s m args meth c cX10_isO 3 "NineKeysRoundModel" D t shM ad z) (hr : meth.sig.returnType = some .boolean) {fr lo : Nat} (hfr : 3 ≤ fr) (hlo : 101 ≤ lo) (hR_X10_isA : ∀ (σ : gS) (q : Int32 × gS), R_X10_isA σ = some q → Met l yX10_isA (Cond.code yX10_isA cX10_isA 1 (some .boolean) :: lw_tb) (gR fr lo) (gPc shM t ad D z [.ref (ad 0)] σ) (gQi shM t ad D q.1 q.2) 0 0 (gA shM ad)) (hR_X10_isB : ∀ (σ : gS) (q : Int32 × gS), R_X10_isB σ = some q → Met l yX10_isB (Cond.code yX10_isB cX10_isB 2 (some .boolean) :: lw_tb) (gR fr lo) (gPc shM t ad D z [.ref (ad 0)] σ) (gQi shM t ad D q.1 q.2) 0 0 (gA shM ad)) (hR_X10_isE : ∀ (σ : gS) (q : Int32 × gS), R_X10_isE σ = some q → Met l yX10_isE (Cond.code yX10_isE cX10_isE 1 (some .boolean) :: lw_tb) (gR fr lo) (gPc shM t ad D z [.ref (ad 0)] σ) (gQi shM t ad D q.1 q.2) 0 0 (gA shM ad)) (hR_X10_isO : ∀ (σ : gS) (q : Int32 × gS), R_X10_isO σ = some q → Met l yX10_isO (Cond.code yX10_isO cX10_isO 3 (some .boolean) :: lw_tb) (gR fr lo) (gPc shM t ad D z [.ref (ad 0)] σ) (gQi shM t ad D q.1 q.2) 0 0 (gA shM ad)) (hR_X10_isP : ∀ (σ : gS) (q : Int32 × gS), R_X10_isP σ = some q → Met l yX10_isP (Cond.code yX10_isP cX10_isP 2 (some .boolean) :: lw_tb) (gR fr lo) (gPc shM t ad D z [.ref (ad 0)] σ) (gQi shM t ad D q.1 q.2) 0 0 (gA shM ad)) (hR_X10_isS : ∀ (σ : gS) (q : Int32 × gS), R_X10_isS σ = some q → Met l yX10_isS (Cond.code yX10_isS cX10_isS 2 (some .boolean) :: lw_tb) (gR fr lo) (gPc shM t ad D z [.ref (ad 0)] σ) (gQi shM t ad D q.1 q.2) 0 0 (gA shM ad)) {r : Int32 × gS} : ∀ (s0 : Int32) (σ : gS) (H : Heap) (locs : List Loc) (ls : Array Slot), f_X10_isO_145 R_X10_isA R_X10_isB R_X10_isE R_X10_isO R_X10_isP R_X10_isS s0 σ = some r → gI shM t ad D s.heap σ H locs → lv_has ls 3 [(0, .ref (ad 0))] → W p l e (gR (fr + 1) (lo + 22)) s m args below meth c H locs 0 0 (MQ below (gQi shM t ad D r.1 r.2) args s 0 0 (gA shM ad)) (F0 m 145 ls [.int s0]) := by
  have hx := C.1
  have hb := C.2.1
  intro s0 σ H locs ls  h hI hl
  unfold f_X10_isO_145 at h
  refine lv_istore_n (lv' := [(2, .int s0), (0, .ref (ad 0))]) hx hb dX10_isO_145 rfl hl (by decide) rfl (fun ls hl => ?_)
  refine lv_goto (tgt := 214) hx hb dX10_isO_146 (by decide) ?_
  exact w_X10_isO_214 C hr hfr hlo hR_X10_isA hR_X10_isB hR_X10_isE hR_X10_isO hR_X10_isP hR_X10_isS   _ _ _ _ _  h hI (lv_sub hl [1, 0] rfl)
set_option maxRecDepth 100000 in
set_option maxHeartbeats 4000000 in
theorem w_X10_isO_144 {p : Program} {l : Launch} {e : Env} {s : State} {m : MethodId} {args : Array Value} {below : List Frame} {meth : Method} {c : Code} {D : va_G} {t : gT} {ad z : Nat → Nat} {R_X10_isA : gS → Option (Int32 × gS)} {R_X10_isB : gS → Option (Int32 × gS)} {R_X10_isE : gS → Option (Int32 × gS)} {R_X10_isO : gS → Option (Int32 × gS)} {R_X10_isP : gS → Option (Int32 × gS)} {R_X10_isS : gS → Option (Int32 × gS)} (C : gC p s m args meth c cX10_isO 3 "NineKeysRoundModel" D t shM ad z) (hr : meth.sig.returnType = some .boolean) {fr lo : Nat} (hfr : 3 ≤ fr) (hlo : 101 ≤ lo) (hR_X10_isA : ∀ (σ : gS) (q : Int32 × gS), R_X10_isA σ = some q → Met l yX10_isA (Cond.code yX10_isA cX10_isA 1 (some .boolean) :: lw_tb) (gR fr lo) (gPc shM t ad D z [.ref (ad 0)] σ) (gQi shM t ad D q.1 q.2) 0 0 (gA shM ad)) (hR_X10_isB : ∀ (σ : gS) (q : Int32 × gS), R_X10_isB σ = some q → Met l yX10_isB (Cond.code yX10_isB cX10_isB 2 (some .boolean) :: lw_tb) (gR fr lo) (gPc shM t ad D z [.ref (ad 0)] σ) (gQi shM t ad D q.1 q.2) 0 0 (gA shM ad)) (hR_X10_isE : ∀ (σ : gS) (q : Int32 × gS), R_X10_isE σ = some q → Met l yX10_isE (Cond.code yX10_isE cX10_isE 1 (some .boolean) :: lw_tb) (gR fr lo) (gPc shM t ad D z [.ref (ad 0)] σ) (gQi shM t ad D q.1 q.2) 0 0 (gA shM ad)) (hR_X10_isO : ∀ (σ : gS) (q : Int32 × gS), R_X10_isO σ = some q → Met l yX10_isO (Cond.code yX10_isO cX10_isO 3 (some .boolean) :: lw_tb) (gR fr lo) (gPc shM t ad D z [.ref (ad 0)] σ) (gQi shM t ad D q.1 q.2) 0 0 (gA shM ad)) (hR_X10_isP : ∀ (σ : gS) (q : Int32 × gS), R_X10_isP σ = some q → Met l yX10_isP (Cond.code yX10_isP cX10_isP 2 (some .boolean) :: lw_tb) (gR fr lo) (gPc shM t ad D z [.ref (ad 0)] σ) (gQi shM t ad D q.1 q.2) 0 0 (gA shM ad)) (hR_X10_isS : ∀ (σ : gS) (q : Int32 × gS), R_X10_isS σ = some q → Met l yX10_isS (Cond.code yX10_isS cX10_isS 2 (some .boolean) :: lw_tb) (gR fr lo) (gPc shM t ad D z [.ref (ad 0)] σ) (gQi shM t ad D q.1 q.2) 0 0 (gA shM ad)) {r : Int32 × gS} : ∀ (σ : gS) (H : Heap) (locs : List Loc) (ls : Array Slot), f_X10_isO_144 R_X10_isA R_X10_isB R_X10_isE R_X10_isO R_X10_isP R_X10_isS σ = some r → gI shM t ad D s.heap σ H locs → lv_has ls 3 [(0, .ref (ad 0))] → W p l e (gR (fr + 1) (lo + 22)) s m args below meth c H locs 0 0 (MQ below (gQi shM t ad D r.1 r.2) args s 0 0 (gA shM ad)) (F0 m 144 ls []) := by
  have hx := C.1
  have hb := C.2.1
  intro σ H locs ls  h hI hl
  unfold f_X10_isO_144 at h
  refine lv_iconst hx hb dX10_isO_144 ci_0 ?_
  exact w_X10_isO_145 C hr hfr hlo hR_X10_isA hR_X10_isB hR_X10_isE hR_X10_isO hR_X10_isP hR_X10_isS   _ _ _ _ _  h hI (lv_sub hl [0] rfl)
set_option maxRecDepth 100000 in
set_option maxHeartbeats 4000000 in
theorem w_X10_isO_179 {p : Program} {l : Launch} {e : Env} {s : State} {m : MethodId} {args : Array Value} {below : List Frame} {meth : Method} {c : Code} {D : va_G} {t : gT} {ad z : Nat → Nat} {R_X10_isA : gS → Option (Int32 × gS)} {R_X10_isB : gS → Option (Int32 × gS)} {R_X10_isE : gS → Option (Int32 × gS)} {R_X10_isO : gS → Option (Int32 × gS)} {R_X10_isP : gS → Option (Int32 × gS)} {R_X10_isS : gS → Option (Int32 × gS)} (C : gC p s m args meth c cX10_isO 3 "NineKeysRoundModel" D t shM ad z) (hr : meth.sig.returnType = some .boolean) {fr lo : Nat} (hfr : 3 ≤ fr) (hlo : 101 ≤ lo) (hR_X10_isA : ∀ (σ : gS) (q : Int32 × gS), R_X10_isA σ = some q → Met l yX10_isA (Cond.code yX10_isA cX10_isA 1 (some .boolean) :: lw_tb) (gR fr lo) (gPc shM t ad D z [.ref (ad 0)] σ) (gQi shM t ad D q.1 q.2) 0 0 (gA shM ad)) (hR_X10_isB : ∀ (σ : gS) (q : Int32 × gS), R_X10_isB σ = some q → Met l yX10_isB (Cond.code yX10_isB cX10_isB 2 (some .boolean) :: lw_tb) (gR fr lo) (gPc shM t ad D z [.ref (ad 0)] σ) (gQi shM t ad D q.1 q.2) 0 0 (gA shM ad)) (hR_X10_isE : ∀ (σ : gS) (q : Int32 × gS), R_X10_isE σ = some q → Met l yX10_isE (Cond.code yX10_isE cX10_isE 1 (some .boolean) :: lw_tb) (gR fr lo) (gPc shM t ad D z [.ref (ad 0)] σ) (gQi shM t ad D q.1 q.2) 0 0 (gA shM ad)) (hR_X10_isO : ∀ (σ : gS) (q : Int32 × gS), R_X10_isO σ = some q → Met l yX10_isO (Cond.code yX10_isO cX10_isO 3 (some .boolean) :: lw_tb) (gR fr lo) (gPc shM t ad D z [.ref (ad 0)] σ) (gQi shM t ad D q.1 q.2) 0 0 (gA shM ad)) (hR_X10_isP : ∀ (σ : gS) (q : Int32 × gS), R_X10_isP σ = some q → Met l yX10_isP (Cond.code yX10_isP cX10_isP 2 (some .boolean) :: lw_tb) (gR fr lo) (gPc shM t ad D z [.ref (ad 0)] σ) (gQi shM t ad D q.1 q.2) 0 0 (gA shM ad)) (hR_X10_isS : ∀ (σ : gS) (q : Int32 × gS), R_X10_isS σ = some q → Met l yX10_isS (Cond.code yX10_isS cX10_isS 2 (some .boolean) :: lw_tb) (gR fr lo) (gPc shM t ad D z [.ref (ad 0)] σ) (gQi shM t ad D q.1 q.2) 0 0 (gA shM ad)) {r : Int32 × gS} : ∀ (s0 : Int32) (σ : gS) (H : Heap) (locs : List Loc) (ls : Array Slot), f_X10_isO_179 R_X10_isA R_X10_isB R_X10_isE R_X10_isO R_X10_isP R_X10_isS s0 σ = some r → gI shM t ad D s.heap σ H locs → lv_has ls 3 [(0, .ref (ad 0))] → W p l e (gR (fr + 1) (lo + 22)) s m args below meth c H locs 0 0 (MQ below (gQi shM t ad D r.1 r.2) args s 0 0 (gA shM ad)) (F0 m 179 ls [.int s0]) := by
  have hx := C.1
  have hb := C.2.1
  intro s0 σ H locs ls  h hI hl
  unfold f_X10_isO_179 at h
  refine lv_istore_n (lv' := [(2, .int s0), (0, .ref (ad 0))]) hx hb dX10_isO_179 rfl hl (by decide) rfl (fun ls hl => ?_)
  refine lv_goto (tgt := 214) hx hb dX10_isO_180 (by decide) ?_
  exact w_X10_isO_214 C hr hfr hlo hR_X10_isA hR_X10_isB hR_X10_isE hR_X10_isO hR_X10_isP hR_X10_isS   _ _ _ _ _  h hI (lv_sub hl [1, 0] rfl)
set_option maxRecDepth 100000 in
set_option maxHeartbeats 4000000 in
theorem w_X10_isO_178 {p : Program} {l : Launch} {e : Env} {s : State} {m : MethodId} {args : Array Value} {below : List Frame} {meth : Method} {c : Code} {D : va_G} {t : gT} {ad z : Nat → Nat} {R_X10_isA : gS → Option (Int32 × gS)} {R_X10_isB : gS → Option (Int32 × gS)} {R_X10_isE : gS → Option (Int32 × gS)} {R_X10_isO : gS → Option (Int32 × gS)} {R_X10_isP : gS → Option (Int32 × gS)} {R_X10_isS : gS → Option (Int32 × gS)} (C : gC p s m args meth c cX10_isO 3 "NineKeysRoundModel" D t shM ad z) (hr : meth.sig.returnType = some .boolean) {fr lo : Nat} (hfr : 3 ≤ fr) (hlo : 101 ≤ lo) (hR_X10_isA : ∀ (σ : gS) (q : Int32 × gS), R_X10_isA σ = some q → Met l yX10_isA (Cond.code yX10_isA cX10_isA 1 (some .boolean) :: lw_tb) (gR fr lo) (gPc shM t ad D z [.ref (ad 0)] σ) (gQi shM t ad D q.1 q.2) 0 0 (gA shM ad)) (hR_X10_isB : ∀ (σ : gS) (q : Int32 × gS), R_X10_isB σ = some q → Met l yX10_isB (Cond.code yX10_isB cX10_isB 2 (some .boolean) :: lw_tb) (gR fr lo) (gPc shM t ad D z [.ref (ad 0)] σ) (gQi shM t ad D q.1 q.2) 0 0 (gA shM ad)) (hR_X10_isE : ∀ (σ : gS) (q : Int32 × gS), R_X10_isE σ = some q → Met l yX10_isE (Cond.code yX10_isE cX10_isE 1 (some .boolean) :: lw_tb) (gR fr lo) (gPc shM t ad D z [.ref (ad 0)] σ) (gQi shM t ad D q.1 q.2) 0 0 (gA shM ad)) (hR_X10_isO : ∀ (σ : gS) (q : Int32 × gS), R_X10_isO σ = some q → Met l yX10_isO (Cond.code yX10_isO cX10_isO 3 (some .boolean) :: lw_tb) (gR fr lo) (gPc shM t ad D z [.ref (ad 0)] σ) (gQi shM t ad D q.1 q.2) 0 0 (gA shM ad)) (hR_X10_isP : ∀ (σ : gS) (q : Int32 × gS), R_X10_isP σ = some q → Met l yX10_isP (Cond.code yX10_isP cX10_isP 2 (some .boolean) :: lw_tb) (gR fr lo) (gPc shM t ad D z [.ref (ad 0)] σ) (gQi shM t ad D q.1 q.2) 0 0 (gA shM ad)) (hR_X10_isS : ∀ (σ : gS) (q : Int32 × gS), R_X10_isS σ = some q → Met l yX10_isS (Cond.code yX10_isS cX10_isS 2 (some .boolean) :: lw_tb) (gR fr lo) (gPc shM t ad D z [.ref (ad 0)] σ) (gQi shM t ad D q.1 q.2) 0 0 (gA shM ad)) {r : Int32 × gS} : ∀ (σ : gS) (H : Heap) (locs : List Loc) (ls : Array Slot), f_X10_isO_178 R_X10_isA R_X10_isB R_X10_isE R_X10_isO R_X10_isP R_X10_isS σ = some r → gI shM t ad D s.heap σ H locs → lv_has ls 3 [(0, .ref (ad 0))] → W p l e (gR (fr + 1) (lo + 22)) s m args below meth c H locs 0 0 (MQ below (gQi shM t ad D r.1 r.2) args s 0 0 (gA shM ad)) (F0 m 178 ls []) := by
  have hx := C.1
  have hb := C.2.1
  intro σ H locs ls  h hI hl
  unfold f_X10_isO_178 at h
  refine lv_iconst hx hb dX10_isO_178 ci_0 ?_
  exact w_X10_isO_179 C hr hfr hlo hR_X10_isA hR_X10_isB hR_X10_isE hR_X10_isO hR_X10_isP hR_X10_isS   _ _ _ _ _  h hI (lv_sub hl [0] rfl)
set_option maxRecDepth 100000 in
set_option maxHeartbeats 4000000 in
theorem w_X10_isO_213 {p : Program} {l : Launch} {e : Env} {s : State} {m : MethodId} {args : Array Value} {below : List Frame} {meth : Method} {c : Code} {D : va_G} {t : gT} {ad z : Nat → Nat} {R_X10_isA : gS → Option (Int32 × gS)} {R_X10_isB : gS → Option (Int32 × gS)} {R_X10_isE : gS → Option (Int32 × gS)} {R_X10_isO : gS → Option (Int32 × gS)} {R_X10_isP : gS → Option (Int32 × gS)} {R_X10_isS : gS → Option (Int32 × gS)} (C : gC p s m args meth c cX10_isO 3 "NineKeysRoundModel" D t shM ad z) (hr : meth.sig.returnType = some .boolean) {fr lo : Nat} (hfr : 3 ≤ fr) (hlo : 101 ≤ lo) (hR_X10_isA : ∀ (σ : gS) (q : Int32 × gS), R_X10_isA σ = some q → Met l yX10_isA (Cond.code yX10_isA cX10_isA 1 (some .boolean) :: lw_tb) (gR fr lo) (gPc shM t ad D z [.ref (ad 0)] σ) (gQi shM t ad D q.1 q.2) 0 0 (gA shM ad)) (hR_X10_isB : ∀ (σ : gS) (q : Int32 × gS), R_X10_isB σ = some q → Met l yX10_isB (Cond.code yX10_isB cX10_isB 2 (some .boolean) :: lw_tb) (gR fr lo) (gPc shM t ad D z [.ref (ad 0)] σ) (gQi shM t ad D q.1 q.2) 0 0 (gA shM ad)) (hR_X10_isE : ∀ (σ : gS) (q : Int32 × gS), R_X10_isE σ = some q → Met l yX10_isE (Cond.code yX10_isE cX10_isE 1 (some .boolean) :: lw_tb) (gR fr lo) (gPc shM t ad D z [.ref (ad 0)] σ) (gQi shM t ad D q.1 q.2) 0 0 (gA shM ad)) (hR_X10_isO : ∀ (σ : gS) (q : Int32 × gS), R_X10_isO σ = some q → Met l yX10_isO (Cond.code yX10_isO cX10_isO 3 (some .boolean) :: lw_tb) (gR fr lo) (gPc shM t ad D z [.ref (ad 0)] σ) (gQi shM t ad D q.1 q.2) 0 0 (gA shM ad)) (hR_X10_isP : ∀ (σ : gS) (q : Int32 × gS), R_X10_isP σ = some q → Met l yX10_isP (Cond.code yX10_isP cX10_isP 2 (some .boolean) :: lw_tb) (gR fr lo) (gPc shM t ad D z [.ref (ad 0)] σ) (gQi shM t ad D q.1 q.2) 0 0 (gA shM ad)) (hR_X10_isS : ∀ (σ : gS) (q : Int32 × gS), R_X10_isS σ = some q → Met l yX10_isS (Cond.code yX10_isS cX10_isS 2 (some .boolean) :: lw_tb) (gR fr lo) (gPc shM t ad D z [.ref (ad 0)] σ) (gQi shM t ad D q.1 q.2) 0 0 (gA shM ad)) {r : Int32 × gS} : ∀ (s0 : Int32) (σ : gS) (H : Heap) (locs : List Loc) (ls : Array Slot), f_X10_isO_213 R_X10_isA R_X10_isB R_X10_isE R_X10_isO R_X10_isP R_X10_isS s0 σ = some r → gI shM t ad D s.heap σ H locs → lv_has ls 3 [(0, .ref (ad 0))] → W p l e (gR (fr + 1) (lo + 22)) s m args below meth c H locs 0 0 (MQ below (gQi shM t ad D r.1 r.2) args s 0 0 (gA shM ad)) (F0 m 213 ls [.int s0]) := by
  have hx := C.1
  have hb := C.2.1
  intro s0 σ H locs ls  h hI hl
  unfold f_X10_isO_213 at h
  refine lv_istore_n (lv' := [(2, .int s0), (0, .ref (ad 0))]) hx hb dX10_isO_213 rfl hl (by decide) rfl (fun ls hl => ?_)
  exact w_X10_isO_214 C hr hfr hlo hR_X10_isA hR_X10_isB hR_X10_isE hR_X10_isO hR_X10_isP hR_X10_isS   _ _ _ _ _  h hI (lv_sub hl [1, 0] rfl)
set_option maxRecDepth 100000 in
set_option maxHeartbeats 4000000 in
theorem w_X10_isO_212 {p : Program} {l : Launch} {e : Env} {s : State} {m : MethodId} {args : Array Value} {below : List Frame} {meth : Method} {c : Code} {D : va_G} {t : gT} {ad z : Nat → Nat} {R_X10_isA : gS → Option (Int32 × gS)} {R_X10_isB : gS → Option (Int32 × gS)} {R_X10_isE : gS → Option (Int32 × gS)} {R_X10_isO : gS → Option (Int32 × gS)} {R_X10_isP : gS → Option (Int32 × gS)} {R_X10_isS : gS → Option (Int32 × gS)} (C : gC p s m args meth c cX10_isO 3 "NineKeysRoundModel" D t shM ad z) (hr : meth.sig.returnType = some .boolean) {fr lo : Nat} (hfr : 3 ≤ fr) (hlo : 101 ≤ lo) (hR_X10_isA : ∀ (σ : gS) (q : Int32 × gS), R_X10_isA σ = some q → Met l yX10_isA (Cond.code yX10_isA cX10_isA 1 (some .boolean) :: lw_tb) (gR fr lo) (gPc shM t ad D z [.ref (ad 0)] σ) (gQi shM t ad D q.1 q.2) 0 0 (gA shM ad)) (hR_X10_isB : ∀ (σ : gS) (q : Int32 × gS), R_X10_isB σ = some q → Met l yX10_isB (Cond.code yX10_isB cX10_isB 2 (some .boolean) :: lw_tb) (gR fr lo) (gPc shM t ad D z [.ref (ad 0)] σ) (gQi shM t ad D q.1 q.2) 0 0 (gA shM ad)) (hR_X10_isE : ∀ (σ : gS) (q : Int32 × gS), R_X10_isE σ = some q → Met l yX10_isE (Cond.code yX10_isE cX10_isE 1 (some .boolean) :: lw_tb) (gR fr lo) (gPc shM t ad D z [.ref (ad 0)] σ) (gQi shM t ad D q.1 q.2) 0 0 (gA shM ad)) (hR_X10_isO : ∀ (σ : gS) (q : Int32 × gS), R_X10_isO σ = some q → Met l yX10_isO (Cond.code yX10_isO cX10_isO 3 (some .boolean) :: lw_tb) (gR fr lo) (gPc shM t ad D z [.ref (ad 0)] σ) (gQi shM t ad D q.1 q.2) 0 0 (gA shM ad)) (hR_X10_isP : ∀ (σ : gS) (q : Int32 × gS), R_X10_isP σ = some q → Met l yX10_isP (Cond.code yX10_isP cX10_isP 2 (some .boolean) :: lw_tb) (gR fr lo) (gPc shM t ad D z [.ref (ad 0)] σ) (gQi shM t ad D q.1 q.2) 0 0 (gA shM ad)) (hR_X10_isS : ∀ (σ : gS) (q : Int32 × gS), R_X10_isS σ = some q → Met l yX10_isS (Cond.code yX10_isS cX10_isS 2 (some .boolean) :: lw_tb) (gR fr lo) (gPc shM t ad D z [.ref (ad 0)] σ) (gQi shM t ad D q.1 q.2) 0 0 (gA shM ad)) {r : Int32 × gS} : ∀ (σ : gS) (H : Heap) (locs : List Loc) (ls : Array Slot), f_X10_isO_212 R_X10_isA R_X10_isB R_X10_isE R_X10_isO R_X10_isP R_X10_isS σ = some r → gI shM t ad D s.heap σ H locs → lv_has ls 3 [(0, .ref (ad 0))] → W p l e (gR (fr + 1) (lo + 22)) s m args below meth c H locs 0 0 (MQ below (gQi shM t ad D r.1 r.2) args s 0 0 (gA shM ad)) (F0 m 212 ls []) := by
  have hx := C.1
  have hb := C.2.1
  intro σ H locs ls  h hI hl
  unfold f_X10_isO_212 at h
  refine lv_iconst hx hb dX10_isO_212 ci_0 ?_
  exact w_X10_isO_213 C hr hfr hlo hR_X10_isA hR_X10_isB hR_X10_isE hR_X10_isO hR_X10_isP hR_X10_isS   _ _ _ _ _  h hI (lv_sub hl [0] rfl)
set_option maxRecDepth 100000 in
set_option maxHeartbeats 4000000 in
theorem cr_X10_isO (l : Launch) (D : va_G) (t : gT) (ad z : Nat → Nat) (hJ : gJ shM ad) {R_X10_isA : gS → Option (Int32 × gS)} {R_X10_isB : gS → Option (Int32 × gS)} {R_X10_isE : gS → Option (Int32 × gS)} {R_X10_isO : gS → Option (Int32 × gS)} {R_X10_isP : gS → Option (Int32 × gS)} {R_X10_isS : gS → Option (Int32 × gS)} {fr lo : Nat} (hfr : 3 ≤ fr) (hlo : 101 ≤ lo) (hR_X10_isA : ∀ (σ : gS) (q : Int32 × gS), R_X10_isA σ = some q → Met l yX10_isA (Cond.code yX10_isA cX10_isA 1 (some .boolean) :: lw_tb) (gR fr lo) (gPc shM t ad D z [.ref (ad 0)] σ) (gQi shM t ad D q.1 q.2) 0 0 (gA shM ad)) (hR_X10_isB : ∀ (σ : gS) (q : Int32 × gS), R_X10_isB σ = some q → Met l yX10_isB (Cond.code yX10_isB cX10_isB 2 (some .boolean) :: lw_tb) (gR fr lo) (gPc shM t ad D z [.ref (ad 0)] σ) (gQi shM t ad D q.1 q.2) 0 0 (gA shM ad)) (hR_X10_isE : ∀ (σ : gS) (q : Int32 × gS), R_X10_isE σ = some q → Met l yX10_isE (Cond.code yX10_isE cX10_isE 1 (some .boolean) :: lw_tb) (gR fr lo) (gPc shM t ad D z [.ref (ad 0)] σ) (gQi shM t ad D q.1 q.2) 0 0 (gA shM ad)) (hR_X10_isO : ∀ (σ : gS) (q : Int32 × gS), R_X10_isO σ = some q → Met l yX10_isO (Cond.code yX10_isO cX10_isO 3 (some .boolean) :: lw_tb) (gR fr lo) (gPc shM t ad D z [.ref (ad 0)] σ) (gQi shM t ad D q.1 q.2) 0 0 (gA shM ad)) (hR_X10_isP : ∀ (σ : gS) (q : Int32 × gS), R_X10_isP σ = some q → Met l yX10_isP (Cond.code yX10_isP cX10_isP 2 (some .boolean) :: lw_tb) (gR fr lo) (gPc shM t ad D z [.ref (ad 0)] σ) (gQi shM t ad D q.1 q.2) 0 0 (gA shM ad)) (hR_X10_isS : ∀ (σ : gS) (q : Int32 × gS), R_X10_isS σ = some q → Met l yX10_isS (Cond.code yX10_isS cX10_isS 2 (some .boolean) :: lw_tb) (gR fr lo) (gPc shM t ad D z [.ref (ad 0)] σ) (gQi shM t ad D q.1 q.2) 0 0 (gA shM ad)) (σ : gS) (q : Int32 × gS) (h : F_X10_isO R_X10_isA R_X10_isB R_X10_isE R_X10_isO R_X10_isP R_X10_isS σ = some q) : Met l yX10_isO (Cond.code yX10_isO cX10_isO 3 (some .boolean) :: lw_tb) (gR (fr + 1) (lo + 22)) (gPc shM t ad D z [.ref (ad 0)] σ) (gQi shM t ad D q.1 q.2) 0 0 (gA shM ad) := by
  refine gMet "NineKeysRoundModel" rfl (by decide) hJ (Nat.le_of_ble_eq_true rfl) ?_
  intro p e s m below meth c ls C hr hI hl
  have hx := C.1
  have hb := C.2.1
  have hl : lv_has ls 3 [(0, .ref (ad 0))] := hl
  unfold F_X10_isO at h
  refine lv_aload_n hx hb dX10_isO_0 rfl (lv_at hl 0 rfl) ?_
  refine h_callvi_o (rest := []) C hI hl.1 shM_0 rfl yv_X10_isDigit k_1315 h (fun q hq => c_X10_isDigit l D t ad z C.2.2.2.2.2.2.1 (σ) q hq) (As := []) rfl rfl ⟨by show _ ≤ fr + 1; omega, by show _ ≤ lo + 22; omega⟩ (Nat.le_of_ble_eq_true rfl) dX10_isO_1 (fun q1 H locs h hI => ?_)
  refine hif_eq (tgt := 66) C dX10_isO_4 (by decide) h (fun h => ?_) (fun h => ?_)
  · refine lv_aload_n hx hb dX10_isO_66 rfl (lv_at hl 0 rfl) ?_
    refine h_callvi_o (rest := []) C hI hl.1 shM_0 rfl yv_X10_sign k_1319 h (fun q hq => c_X10_sign l D t ad z C.2.2.2.2.2.2.1 (σ) q hq) (As := []) rfl rfl ⟨by show _ ≤ fr + 1; omega, by show _ ≤ lo + 22; omega⟩ (Nat.le_of_ble_eq_true rfl) dX10_isO_67 (fun q2 H locs h hI => ?_)
    refine h_callsi_o (rest := []) C hI hl.1 ys_X10_nameOf k_1327 h (fun q hq => c_X10_nameOf l D t ad z C.2.2.2.2.2.2.1 (σ) q2 q hq) (As := [.int q2]) rfl rfl ⟨by show _ ≤ fr + 1; omega, by show _ ≤ lo + 22; omega⟩ (Nat.le_of_ble_eq_true rfl) dX10_isO_70 (fun q3 H locs h hI => ?_)
    refine lv_istore_n (lv' := [(1, .int q3), (0, .ref (ad 0))]) hx hb dX10_isO_73 rfl hl (by decide) rfl (fun ls hl => ?_)
    refine lv_iload_n hx hb dX10_isO_74 rfl (lv_at hl 0 rfl) ?_
    refine hif_lt (tgt := 94) C dX10_isO_75 (by decide) h (fun h => ?_) (fun h => ?_)
    · refine lv_aload_n hx hb dX10_isO_94 rfl (lv_at hl 1 rfl) ?_
      refine fg_1076 C hI shM_0 rfl dX10_isO_95 ?_
      refine lv_bipush hx hb dX10_isO_98 cb_6 ?_
      refine hicmp_ne (tgt := 105) C dX10_isO_100 (by decide) h (fun h => ?_) (fun h => ?_)
      · refine lv_aload_n hx hb dX10_isO_105 rfl (lv_at hl 1 rfl) ?_
        refine lv_dup hx hb dX10_isO_106 rfl ?_
        refine fg_1076 C hI shM_0 rfl dX10_isO_107 ?_
        refine lv_iconst hx hb dX10_isO_110 ci_1 ?_
        refine lv_iadd hx hb dX10_isO_111 ?_
        refine fp_1076 C hI shM_0 rfl dX10_isO_112 (fun H locs hI => ?_)
        refine gx_st h hI (fun s4 h hI => ?_)
        refine lv_aload_n hx hb dX10_isO_115 rfl (lv_at hl 1 rfl) ?_
        refine lv_bipush hx hb dX10_isO_116 cb_33 ?_
        refine h_callvi_w (rest := []) C hI hl.1 shM_0 rfl yv_X10_is k_1330 h (fun q hq => c_X10_is l D t ad z C.2.2.2.2.2.2.1 s4 33 q hq) (As := [.int 33]) rfl rfl ⟨by show _ ≤ fr + 1; omega, by show _ ≤ lo + 22; omega⟩ (Nat.le_of_ble_eq_true rfl) dX10_isO_118 (fun q5 H locs h hI => ?_)
        refine hif_eq (tgt := 149) C dX10_isO_121 (by decide) h (fun h => ?_) (fun h => ?_)
        · refine lv_aload_n hx hb dX10_isO_149 rfl (lv_at hl 1 rfl) ?_
          refine lv_bipush hx hb dX10_isO_150 cb_45 ?_
          refine h_callvi_w (rest := []) C hI hl.1 shM_0 rfl yv_X10_is k_1330 h (fun q hq => c_X10_is l D t ad z C.2.2.2.2.2.2.1 q5.2 45 q hq) (As := [.int 45]) rfl rfl ⟨by show _ ≤ fr + 1; omega, by show _ ≤ lo + 22; omega⟩ (Nat.le_of_ble_eq_true rfl) dX10_isO_152 (fun q6 H locs h hI => ?_)
          refine hif_eq (tgt := 183) C dX10_isO_155 (by decide) h (fun h => ?_) (fun h => ?_)
          · refine lv_aload_n hx hb dX10_isO_183 rfl (lv_at hl 1 rfl) ?_
            refine lv_bipush hx hb dX10_isO_184 cb_40 ?_
            refine h_callvi_w (rest := []) C hI hl.1 shM_0 rfl yv_X10_is k_1330 h (fun q hq => c_X10_is l D t ad z C.2.2.2.2.2.2.1 q6.2 40 q hq) (As := [.int 40]) rfl rfl ⟨by show _ ≤ fr + 1; omega, by show _ ≤ lo + 22; omega⟩ (Nat.le_of_ble_eq_true rfl) dX10_isO_186 (fun q7 H locs h hI => ?_)
            refine hif_eq (tgt := 212) C dX10_isO_189 (by decide) h (fun h => ?_) (fun h => ?_)
            · exact w_X10_isO_212 C hr hfr hlo hR_X10_isA hR_X10_isB hR_X10_isE hR_X10_isO hR_X10_isP hR_X10_isS    _ _ _ _  h hI (lv_sub hl [1] rfl)
            · refine lv_aload_n hx hb dX10_isO_192 rfl (lv_at hl 1 rfl) ?_
              refine h_callvi_w (rest := []) C hI hl.1 shM_0 rfl yv_X10_isE k_1291 h (fun q hq => hR_X10_isE q7.2 q hq) (As := []) rfl rfl ⟨by show _ ≤ fr + 1; omega, by show _ ≤ lo + 22; omega⟩ (Nat.le_of_ble_eq_true rfl) dX10_isO_193 (fun q8 H locs h hI => ?_)
              refine hif_eq (tgt := 212) C dX10_isO_196 (by decide) h (fun h => ?_) (fun h => ?_)
              · exact w_X10_isO_212 C hr hfr hlo hR_X10_isA hR_X10_isB hR_X10_isE hR_X10_isO hR_X10_isP hR_X10_isS    _ _ _ _  h hI (lv_sub hl [1] rfl)
              · refine lv_aload_n hx hb dX10_isO_199 rfl (lv_at hl 1 rfl) ?_
                refine lv_bipush hx hb dX10_isO_200 cb_41 ?_
                refine h_callvi_w (rest := []) C hI hl.1 shM_0 rfl yv_X10_is k_1330 h (fun q hq => c_X10_is l D t ad z C.2.2.2.2.2.2.1 q8.2 41 q hq) (As := [.int 41]) rfl rfl ⟨by show _ ≤ fr + 1; omega, by show _ ≤ lo + 22; omega⟩ (Nat.le_of_ble_eq_true rfl) dX10_isO_202 (fun q9 H locs h hI => ?_)
                refine hif_eq (tgt := 212) C dX10_isO_205 (by decide) h (fun h => ?_) (fun h => ?_)
                · exact w_X10_isO_212 C hr hfr hlo hR_X10_isA hR_X10_isB hR_X10_isE hR_X10_isO hR_X10_isP hR_X10_isS    _ _ _ _  h hI (lv_sub hl [1] rfl)
                · refine lv_iconst hx hb dX10_isO_208 ci_1 ?_
                  refine lv_goto (tgt := 213) hx hb dX10_isO_209 (by decide) ?_
                  exact w_X10_isO_213 C hr hfr hlo hR_X10_isA hR_X10_isB hR_X10_isE hR_X10_isO hR_X10_isP hR_X10_isS   _ _ _ _ _  h hI (lv_sub hl [1] rfl)
          · refine lv_aload_n hx hb dX10_isO_158 rfl (lv_at hl 1 rfl) ?_
            refine h_callvi_w (rest := []) C hI hl.1 shM_0 rfl yv_X10_isO k_1311 h (fun q hq => hR_X10_isO q6.2 q hq) (As := []) rfl rfl ⟨by show _ ≤ fr + 1; omega, by show _ ≤ lo + 22; omega⟩ (Nat.le_of_ble_eq_true rfl) dX10_isO_159 (fun q10 H locs h hI => ?_)
            refine hif_eq (tgt := 178) C dX10_isO_162 (by decide) h (fun h => ?_) (fun h => ?_)
            · exact w_X10_isO_178 C hr hfr hlo hR_X10_isA hR_X10_isB hR_X10_isE hR_X10_isO hR_X10_isP hR_X10_isS    _ _ _ _  h hI (lv_sub hl [1] rfl)
            · refine lv_aload_n hx hb dX10_isO_165 rfl (lv_at hl 1 rfl) ?_
              refine lv_bipush hx hb dX10_isO_166 cb_17 ?_
              refine h_callvi_w (rest := []) C hI hl.1 shM_0 rfl yv_X10_codes k_1323 h (fun q hq => c_X10_codes l D t ad z C.2.2.2.2.2.2.1 q10.2 17 q hq) (As := [.int 17]) rfl rfl ⟨by show _ ≤ fr + 1; omega, by show _ ≤ lo + 22; omega⟩ (Nat.le_of_ble_eq_true rfl) dX10_isO_168 (fun q11 H locs h hI => ?_)
              refine hif_eq (tgt := 178) C dX10_isO_171 (by decide) h (fun h => ?_) (fun h => ?_)
              · exact w_X10_isO_178 C hr hfr hlo hR_X10_isA hR_X10_isB hR_X10_isE hR_X10_isO hR_X10_isP hR_X10_isS    _ _ _ _  h hI (lv_sub hl [1] rfl)
              · refine lv_iconst hx hb dX10_isO_174 ci_1 ?_
                refine lv_goto (tgt := 179) hx hb dX10_isO_175 (by decide) ?_
                exact w_X10_isO_179 C hr hfr hlo hR_X10_isA hR_X10_isB hR_X10_isE hR_X10_isO hR_X10_isP hR_X10_isS   _ _ _ _ _  h hI (lv_sub hl [1] rfl)
        · refine lv_aload_n hx hb dX10_isO_124 rfl (lv_at hl 1 rfl) ?_
          refine h_callvi_w (rest := []) C hI hl.1 shM_0 rfl yv_X10_isO k_1311 h (fun q hq => hR_X10_isO q5.2 q hq) (As := []) rfl rfl ⟨by show _ ≤ fr + 1; omega, by show _ ≤ lo + 22; omega⟩ (Nat.le_of_ble_eq_true rfl) dX10_isO_125 (fun q12 H locs h hI => ?_)
          refine hif_eq (tgt := 144) C dX10_isO_128 (by decide) h (fun h => ?_) (fun h => ?_)
          · exact w_X10_isO_144 C hr hfr hlo hR_X10_isA hR_X10_isB hR_X10_isE hR_X10_isO hR_X10_isP hR_X10_isS    _ _ _ _  h hI (lv_sub hl [1] rfl)
          · refine lv_aload_n hx hb dX10_isO_131 rfl (lv_at hl 1 rfl) ?_
            refine lv_bipush hx hb dX10_isO_132 cb_16 ?_
            refine h_callvi_w (rest := []) C hI hl.1 shM_0 rfl yv_X10_codes k_1323 h (fun q hq => c_X10_codes l D t ad z C.2.2.2.2.2.2.1 q12.2 16 q hq) (As := [.int 16]) rfl rfl ⟨by show _ ≤ fr + 1; omega, by show _ ≤ lo + 22; omega⟩ (Nat.le_of_ble_eq_true rfl) dX10_isO_134 (fun q13 H locs h hI => ?_)
            refine hif_eq (tgt := 144) C dX10_isO_137 (by decide) h (fun h => ?_) (fun h => ?_)
            · exact w_X10_isO_144 C hr hfr hlo hR_X10_isA hR_X10_isB hR_X10_isE hR_X10_isO hR_X10_isP hR_X10_isS    _ _ _ _  h hI (lv_sub hl [1] rfl)
            · refine lv_iconst hx hb dX10_isO_140 ci_1 ?_
              refine lv_goto (tgt := 145) hx hb dX10_isO_141 (by decide) ?_
              exact w_X10_isO_145 C hr hfr hlo hR_X10_isA hR_X10_isB hR_X10_isE hR_X10_isO hR_X10_isP hR_X10_isS   _ _ _ _ _  h hI (lv_sub hl [1] rfl)
      · refine lv_iconst hx hb dX10_isO_103 ci_0 ?_
        exact h_zret_w C hr hI h dX10_isO_104
    · refine lv_aload_n hx hb dX10_isO_78 rfl (lv_at hl 1 rfl) ?_
      refine lv_dup hx hb dX10_isO_79 rfl ?_
      refine fg_1075 C hI shM_0 rfl dX10_isO_80 ?_
      refine lv_iconst hx hb dX10_isO_83 ci_1 ?_
      refine lv_iadd hx hb dX10_isO_84 ?_
      refine fp_1075 C hI shM_0 rfl dX10_isO_85 (fun H locs hI => ?_)
      refine gx_st h hI (fun s14 h hI => ?_)
      refine lv_aload_n hx hb dX10_isO_88 rfl (lv_at hl 1 rfl) ?_
      refine lv_iload_n hx hb dX10_isO_89 rfl (lv_at hl 0 rfl) ?_
      refine h_callvi_w (rest := []) C hI hl.1 shM_0 rfl yv_X10_codes k_1323 h (fun q hq => c_X10_codes l D t ad z C.2.2.2.2.2.2.1 s14 q3 q hq) (As := [.int q3]) rfl rfl ⟨by show _ ≤ fr + 1; omega, by show _ ≤ lo + 22; omega⟩ (Nat.le_of_ble_eq_true rfl) dX10_isO_90 (fun q15 H locs h hI => ?_)
      exact h_zret_w C hr hI h dX10_isO_93
  · refine lv_iconst hx hb dX10_isO_7 ci_0 ?_
    refine lv_istore_n (lv' := [(1, .int 0), (0, .ref (ad 0))]) hx hb dX10_isO_8 rfl hl (by decide) rfl (fun ls hl => ?_)
    refine lv_iconst hx hb dX10_isO_9 ci_0 ?_
    refine lv_istore_n (lv' := [(2, .int 0), (1, .int 0), (0, .ref (ad 0))]) hx hb dX10_isO_10 rfl hl (by decide) rfl (fun ls hl => ?_)
    exact w_X10_isO_11 C hr hfr hlo hR_X10_isA hR_X10_isB hR_X10_isE hR_X10_isO hR_X10_isP hR_X10_isS   _ _ _ _ _ _ _  h hI (lv_sub hl [2, 1, 0] rfl)
set_option maxRecDepth 100000 in
set_option maxHeartbeats 4000000 in
theorem w_X10_isP_52 {p : Program} {l : Launch} {e : Env} {s : State} {m : MethodId} {args : Array Value} {below : List Frame} {meth : Method} {c : Code} {D : va_G} {t : gT} {ad z : Nat → Nat} {R_X10_isA : gS → Option (Int32 × gS)} {R_X10_isB : gS → Option (Int32 × gS)} {R_X10_isE : gS → Option (Int32 × gS)} {R_X10_isO : gS → Option (Int32 × gS)} {R_X10_isP : gS → Option (Int32 × gS)} {R_X10_isS : gS → Option (Int32 × gS)} (C : gC p s m args meth c cX10_isP 2 "NineKeysRoundModel" D t shM ad z) (hr : meth.sig.returnType = some .boolean) {fr lo : Nat} (hfr : 3 ≤ fr) (hlo : 101 ≤ lo) (hR_X10_isA : ∀ (σ : gS) (q : Int32 × gS), R_X10_isA σ = some q → Met l yX10_isA (Cond.code yX10_isA cX10_isA 1 (some .boolean) :: lw_tb) (gR fr lo) (gPc shM t ad D z [.ref (ad 0)] σ) (gQi shM t ad D q.1 q.2) 0 0 (gA shM ad)) (hR_X10_isB : ∀ (σ : gS) (q : Int32 × gS), R_X10_isB σ = some q → Met l yX10_isB (Cond.code yX10_isB cX10_isB 2 (some .boolean) :: lw_tb) (gR fr lo) (gPc shM t ad D z [.ref (ad 0)] σ) (gQi shM t ad D q.1 q.2) 0 0 (gA shM ad)) (hR_X10_isE : ∀ (σ : gS) (q : Int32 × gS), R_X10_isE σ = some q → Met l yX10_isE (Cond.code yX10_isE cX10_isE 1 (some .boolean) :: lw_tb) (gR fr lo) (gPc shM t ad D z [.ref (ad 0)] σ) (gQi shM t ad D q.1 q.2) 0 0 (gA shM ad)) (hR_X10_isO : ∀ (σ : gS) (q : Int32 × gS), R_X10_isO σ = some q → Met l yX10_isO (Cond.code yX10_isO cX10_isO 3 (some .boolean) :: lw_tb) (gR fr lo) (gPc shM t ad D z [.ref (ad 0)] σ) (gQi shM t ad D q.1 q.2) 0 0 (gA shM ad)) (hR_X10_isP : ∀ (σ : gS) (q : Int32 × gS), R_X10_isP σ = some q → Met l yX10_isP (Cond.code yX10_isP cX10_isP 2 (some .boolean) :: lw_tb) (gR fr lo) (gPc shM t ad D z [.ref (ad 0)] σ) (gQi shM t ad D q.1 q.2) 0 0 (gA shM ad)) (hR_X10_isS : ∀ (σ : gS) (q : Int32 × gS), R_X10_isS σ = some q → Met l yX10_isS (Cond.code yX10_isS cX10_isS 2 (some .boolean) :: lw_tb) (gR fr lo) (gPc shM t ad D z [.ref (ad 0)] σ) (gQi shM t ad D q.1 q.2) 0 0 (gA shM ad)) {r : Int32 × gS} (K_9 : gS → Option (Int32 × gS)) (hK_9 : ∀ (σ : gS) (H : Heap) (locs : List Loc) (ls : Array Slot), K_9 σ = some r → gI shM t ad D s.heap σ H locs → lv_has ls 2 [(0, .ref (ad 0))] → W p l e (gR (fr + 1) (lo + 22)) s m args below meth c H locs 0 0 (MQ below (gQi shM t ad D r.1 r.2) args s 0 0 (gA shM ad)) (F0 m 9 ls [])) : ∀ (s0 : Int32) (σ : gS) (H : Heap) (locs : List Loc) (ls : Array Slot), f_X10_isP_52 R_X10_isA R_X10_isB R_X10_isE R_X10_isO R_X10_isP R_X10_isS K_9 s0 σ = some r → gI shM t ad D s.heap σ H locs → lv_has ls 2 [(0, .ref (ad 0))] → W p l e (gR (fr + 1) (lo + 22)) s m args below meth c H locs 0 0 (MQ below (gQi shM t ad D r.1 r.2) args s 0 0 (gA shM ad)) (F0 m 52 ls [.int s0]) := by
  have hx := C.1
  have hb := C.2.1
  intro s0 σ H locs ls  h hI hl
  unfold f_X10_isP_52 at h
  refine lv_istore_n (lv' := [(1, .int s0), (0, .ref (ad 0))]) hx hb dX10_isP_52 rfl hl (by decide) rfl (fun ls hl => ?_)
  refine lv_iload_n hx hb dX10_isP_53 rfl (lv_at hl 0 rfl) ?_
  refine hif_ge (tgt := 59) C dX10_isP_54 (by decide) h (fun h => ?_) (fun h => ?_)
  · refine lv_aload_n hx hb dX10_isP_59 rfl (lv_at hl 1 rfl) ?_
    refine lv_dup hx hb dX10_isP_60 rfl ?_
    refine fg_1075 C hI shM_0 rfl dX10_isP_61 ?_
    refine lv_iconst hx hb dX10_isP_64 ci_1 ?_
    refine lv_iadd hx hb dX10_isP_65 ?_
    refine fp_1075 C hI shM_0 rfl dX10_isP_66 (fun H locs hI => ?_)
    refine gx_st h hI (fun s1 h hI => ?_)
    refine lv_aload_n hx hb dX10_isP_69 rfl (lv_at hl 1 rfl) ?_
    refine h_callvi_w (rest := []) C hI hl.1 shM_0 rfl yv_X10_isO k_1311 h (fun q hq => hR_X10_isO s1 q hq) (As := []) rfl rfl ⟨by show _ ≤ fr + 1; omega, by show _ ≤ lo + 22; omega⟩ (Nat.le_of_ble_eq_true rfl) dX10_isP_70 (fun q2 H locs h hI => ?_)
    refine hif_ne (tgt := 78) C dX10_isP_73 (by decide) h (fun h => ?_) (fun h => ?_)
    · refine lv_aload_n hx hb dX10_isP_78 rfl (lv_at hl 1 rfl) ?_
      refine lv_iload_n hx hb dX10_isP_79 rfl (lv_at hl 0 rfl) ?_
      refine h_callvi_w (rest := []) C hI hl.1 shM_0 rfl yv_X10_codes k_1323 h (fun q hq => c_X10_codes l D t ad z C.2.2.2.2.2.2.1 q2.2 s0 q hq) (As := [.int s0]) rfl rfl ⟨by show _ ≤ fr + 1; omega, by show _ ≤ lo + 22; omega⟩ (Nat.le_of_ble_eq_true rfl) dX10_isP_80 (fun q3 H locs h hI => ?_)
      refine lv_pop hx hb dX10_isP_83 rfl ?_
      refine lv_goto (tgt := 9) hx hb dX10_isP_84 (by decide) ?_
      exact hK_9  _ _ _ _  h hI (lv_sub hl [1] rfl)
    · refine lv_iconst hx hb dX10_isP_76 ci_0 ?_
      exact h_zret_w C hr hI h dX10_isP_77
  · refine lv_iconst hx hb dX10_isP_57 ci_1 ?_
    exact h_zret_w C hr hI h dX10_isP_58
set_option maxRecDepth 100000 in
set_option maxHeartbeats 4000000 in
theorem w_X10_isP_9 {p : Program} {l : Launch} {e : Env} {s : State} {m : MethodId} {args : Array Value} {below : List Frame} {meth : Method} {c : Code} {D : va_G} {t : gT} {ad z : Nat → Nat} {R_X10_isA : gS → Option (Int32 × gS)} {R_X10_isB : gS → Option (Int32 × gS)} {R_X10_isE : gS → Option (Int32 × gS)} {R_X10_isO : gS → Option (Int32 × gS)} {R_X10_isP : gS → Option (Int32 × gS)} {R_X10_isS : gS → Option (Int32 × gS)} (C : gC p s m args meth c cX10_isP 2 "NineKeysRoundModel" D t shM ad z) (hr : meth.sig.returnType = some .boolean) {fr lo : Nat} (hfr : 3 ≤ fr) (hlo : 101 ≤ lo) (hR_X10_isA : ∀ (σ : gS) (q : Int32 × gS), R_X10_isA σ = some q → Met l yX10_isA (Cond.code yX10_isA cX10_isA 1 (some .boolean) :: lw_tb) (gR fr lo) (gPc shM t ad D z [.ref (ad 0)] σ) (gQi shM t ad D q.1 q.2) 0 0 (gA shM ad)) (hR_X10_isB : ∀ (σ : gS) (q : Int32 × gS), R_X10_isB σ = some q → Met l yX10_isB (Cond.code yX10_isB cX10_isB 2 (some .boolean) :: lw_tb) (gR fr lo) (gPc shM t ad D z [.ref (ad 0)] σ) (gQi shM t ad D q.1 q.2) 0 0 (gA shM ad)) (hR_X10_isE : ∀ (σ : gS) (q : Int32 × gS), R_X10_isE σ = some q → Met l yX10_isE (Cond.code yX10_isE cX10_isE 1 (some .boolean) :: lw_tb) (gR fr lo) (gPc shM t ad D z [.ref (ad 0)] σ) (gQi shM t ad D q.1 q.2) 0 0 (gA shM ad)) (hR_X10_isO : ∀ (σ : gS) (q : Int32 × gS), R_X10_isO σ = some q → Met l yX10_isO (Cond.code yX10_isO cX10_isO 3 (some .boolean) :: lw_tb) (gR fr lo) (gPc shM t ad D z [.ref (ad 0)] σ) (gQi shM t ad D q.1 q.2) 0 0 (gA shM ad)) (hR_X10_isP : ∀ (σ : gS) (q : Int32 × gS), R_X10_isP σ = some q → Met l yX10_isP (Cond.code yX10_isP cX10_isP 2 (some .boolean) :: lw_tb) (gR fr lo) (gPc shM t ad D z [.ref (ad 0)] σ) (gQi shM t ad D q.1 q.2) 0 0 (gA shM ad)) (hR_X10_isS : ∀ (σ : gS) (q : Int32 × gS), R_X10_isS σ = some q → Met l yX10_isS (Cond.code yX10_isS cX10_isS 2 (some .boolean) :: lw_tb) (gR fr lo) (gPc shM t ad D z [.ref (ad 0)] σ) (gQi shM t ad D q.1 q.2) 0 0 (gA shM ad)) {r : Int32 × gS} : ∀ (n : Nat) (σ : gS) (H : Heap) (locs : List Loc) (ls : Array Slot), f_X10_isP_9 R_X10_isA R_X10_isB R_X10_isE R_X10_isO R_X10_isP R_X10_isS n σ = some r → gI shM t ad D s.heap σ H locs → lv_has ls 2 [(0, .ref (ad 0))] → W p l e (gR (fr + 1) (lo + 22)) s m args below meth c H locs 0 0 (MQ below (gQi shM t ad D r.1 r.2) args s 0 0 (gA shM ad)) (F0 m 9 ls []) := by
  have hx := C.1
  have hb := C.2.1
  intro n
  induction n with
  | zero =>
    intro σ H locs ls  h
    exact absurd h (by simp [f_X10_isP_9])
  | succ n ih =>
    intro σ H locs ls  h hI hl
    unfold f_X10_isP_9 at h
    refine lv_aload_n hx hb dX10_isP_9 rfl (lv_at hl 0 rfl) ?_
    refine h_callvi_o (rest := []) C hI hl.1 shM_0 rfl yv_X10_sign k_1319 h (fun q hq => c_X10_sign l D t ad z C.2.2.2.2.2.2.1 (σ) q hq) (As := []) rfl rfl ⟨by show _ ≤ fr + 1; omega, by show _ ≤ lo + 22; omega⟩ (Nat.le_of_ble_eq_true rfl) dX10_isP_10 (fun q1 H locs h hI => ?_)
    refine lv_bipush hx hb dX10_isP_13 cb_42 ?_
    refine hicmp_ne (tgt := 23) C dX10_isP_15 (by decide) h (fun h => ?_) (fun h => ?_)
    · refine lv_aload_n hx hb dX10_isP_23 rfl (lv_at hl 0 rfl) ?_
      refine h_callvi_o (rest := []) C hI hl.1 shM_0 rfl yv_X10_sign k_1319 h (fun q hq => c_X10_sign l D t ad z C.2.2.2.2.2.2.1 (σ) q hq) (As := []) rfl rfl ⟨by show _ ≤ fr + 1; omega, by show _ ≤ lo + 22; omega⟩ (Nat.le_of_ble_eq_true rfl) dX10_isP_24 (fun q2 H locs h hI => ?_)
      refine lv_bipush hx hb dX10_isP_27 cb_47 ?_
      refine hicmp_ne (tgt := 37) C dX10_isP_29 (by decide) h (fun h => ?_) (fun h => ?_)
      · refine lv_aload_n hx hb dX10_isP_37 rfl (lv_at hl 0 rfl) ?_
        refine h_callvi_o (rest := []) C hI hl.1 shM_0 rfl yv_X10_sign k_1319 h (fun q hq => c_X10_sign l D t ad z C.2.2.2.2.2.2.1 (σ) q hq) (As := []) rfl rfl ⟨by show _ ≤ fr + 1; omega, by show _ ≤ lo + 22; omega⟩ (Nat.le_of_ble_eq_true rfl) dX10_isP_38 (fun q3 H locs h hI => ?_)
        refine lv_bipush hx hb dX10_isP_41 cb_37 ?_
        refine hicmp_ne (tgt := 51) C dX10_isP_43 (by decide) h (fun h => ?_) (fun h => ?_)
        · refine lv_iconst hx hb dX10_isP_51 ci_m1 ?_
          exact w_X10_isP_52 C hr hfr hlo hR_X10_isA hR_X10_isB hR_X10_isE hR_X10_isO hR_X10_isP hR_X10_isS  _ ih _ _ _ _ _  h hI (lv_sub hl [0] rfl)
        · refine lv_bipush hx hb dX10_isP_46 cb_15 ?_
          refine lv_goto (tgt := 52) hx hb dX10_isP_48 (by decide) ?_
          exact w_X10_isP_52 C hr hfr hlo hR_X10_isA hR_X10_isB hR_X10_isE hR_X10_isO hR_X10_isP hR_X10_isS  _ ih _ _ _ _ _  h hI (lv_sub hl [0] rfl)
      · refine lv_bipush hx hb dX10_isP_32 cb_14 ?_
        refine lv_goto (tgt := 52) hx hb dX10_isP_34 (by decide) ?_
        exact w_X10_isP_52 C hr hfr hlo hR_X10_isA hR_X10_isB hR_X10_isE hR_X10_isO hR_X10_isP hR_X10_isS  _ ih _ _ _ _ _  h hI (lv_sub hl [0] rfl)
    · refine lv_bipush hx hb dX10_isP_18 cb_13 ?_
      refine lv_goto (tgt := 52) hx hb dX10_isP_20 (by decide) ?_
      exact w_X10_isP_52 C hr hfr hlo hR_X10_isA hR_X10_isB hR_X10_isE hR_X10_isO hR_X10_isP hR_X10_isS  _ ih _ _ _ _ _  h hI (lv_sub hl [0] rfl)
set_option maxRecDepth 100000 in
set_option maxHeartbeats 4000000 in
theorem cr_X10_isP (l : Launch) (D : va_G) (t : gT) (ad z : Nat → Nat) (hJ : gJ shM ad) {R_X10_isA : gS → Option (Int32 × gS)} {R_X10_isB : gS → Option (Int32 × gS)} {R_X10_isE : gS → Option (Int32 × gS)} {R_X10_isO : gS → Option (Int32 × gS)} {R_X10_isP : gS → Option (Int32 × gS)} {R_X10_isS : gS → Option (Int32 × gS)} {fr lo : Nat} (hfr : 3 ≤ fr) (hlo : 101 ≤ lo) (hR_X10_isA : ∀ (σ : gS) (q : Int32 × gS), R_X10_isA σ = some q → Met l yX10_isA (Cond.code yX10_isA cX10_isA 1 (some .boolean) :: lw_tb) (gR fr lo) (gPc shM t ad D z [.ref (ad 0)] σ) (gQi shM t ad D q.1 q.2) 0 0 (gA shM ad)) (hR_X10_isB : ∀ (σ : gS) (q : Int32 × gS), R_X10_isB σ = some q → Met l yX10_isB (Cond.code yX10_isB cX10_isB 2 (some .boolean) :: lw_tb) (gR fr lo) (gPc shM t ad D z [.ref (ad 0)] σ) (gQi shM t ad D q.1 q.2) 0 0 (gA shM ad)) (hR_X10_isE : ∀ (σ : gS) (q : Int32 × gS), R_X10_isE σ = some q → Met l yX10_isE (Cond.code yX10_isE cX10_isE 1 (some .boolean) :: lw_tb) (gR fr lo) (gPc shM t ad D z [.ref (ad 0)] σ) (gQi shM t ad D q.1 q.2) 0 0 (gA shM ad)) (hR_X10_isO : ∀ (σ : gS) (q : Int32 × gS), R_X10_isO σ = some q → Met l yX10_isO (Cond.code yX10_isO cX10_isO 3 (some .boolean) :: lw_tb) (gR fr lo) (gPc shM t ad D z [.ref (ad 0)] σ) (gQi shM t ad D q.1 q.2) 0 0 (gA shM ad)) (hR_X10_isP : ∀ (σ : gS) (q : Int32 × gS), R_X10_isP σ = some q → Met l yX10_isP (Cond.code yX10_isP cX10_isP 2 (some .boolean) :: lw_tb) (gR fr lo) (gPc shM t ad D z [.ref (ad 0)] σ) (gQi shM t ad D q.1 q.2) 0 0 (gA shM ad)) (hR_X10_isS : ∀ (σ : gS) (q : Int32 × gS), R_X10_isS σ = some q → Met l yX10_isS (Cond.code yX10_isS cX10_isS 2 (some .boolean) :: lw_tb) (gR fr lo) (gPc shM t ad D z [.ref (ad 0)] σ) (gQi shM t ad D q.1 q.2) 0 0 (gA shM ad)) (σ : gS) (q : Int32 × gS) (h : F_X10_isP R_X10_isA R_X10_isB R_X10_isE R_X10_isO R_X10_isP R_X10_isS σ = some q) : Met l yX10_isP (Cond.code yX10_isP cX10_isP 2 (some .boolean) :: lw_tb) (gR (fr + 1) (lo + 22)) (gPc shM t ad D z [.ref (ad 0)] σ) (gQi shM t ad D q.1 q.2) 0 0 (gA shM ad) := by
  refine gMet "NineKeysRoundModel" rfl (by decide) hJ (Nat.le_of_ble_eq_true rfl) ?_
  intro p e s m below meth c ls C hr hI hl
  have hx := C.1
  have hb := C.2.1
  have hl : lv_has ls 2 [(0, .ref (ad 0))] := hl
  unfold F_X10_isP at h
  refine lv_aload_n hx hb dX10_isP_0 rfl (lv_at hl 0 rfl) ?_
  refine h_callvi_w (rest := []) C hI hl.1 shM_0 rfl yv_X10_isO k_1311 h (fun q hq => hR_X10_isO (σ) q hq) (As := []) rfl rfl ⟨by show _ ≤ fr + 1; omega, by show _ ≤ lo + 22; omega⟩ (Nat.le_of_ble_eq_true rfl) dX10_isP_1 (fun q1 H locs h hI => ?_)
  refine hif_ne (tgt := 9) C dX10_isP_4 (by decide) h (fun h => ?_) (fun h => ?_)
  · exact w_X10_isP_9 C hr hfr hlo hR_X10_isA hR_X10_isB hR_X10_isE hR_X10_isO hR_X10_isP hR_X10_isS   _  _ _ _ _  h hI (lv_sub hl [0] rfl)
  · refine lv_iconst hx hb dX10_isP_7 ci_0 ?_
    exact h_zret_w C hr hI h dX10_isP_8
set_option maxRecDepth 100000 in
set_option maxHeartbeats 4000000 in
theorem w_X10_isS_38 {p : Program} {l : Launch} {e : Env} {s : State} {m : MethodId} {args : Array Value} {below : List Frame} {meth : Method} {c : Code} {D : va_G} {t : gT} {ad z : Nat → Nat} {R_X10_isA : gS → Option (Int32 × gS)} {R_X10_isB : gS → Option (Int32 × gS)} {R_X10_isE : gS → Option (Int32 × gS)} {R_X10_isO : gS → Option (Int32 × gS)} {R_X10_isP : gS → Option (Int32 × gS)} {R_X10_isS : gS → Option (Int32 × gS)} (C : gC p s m args meth c cX10_isS 2 "NineKeysRoundModel" D t shM ad z) (hr : meth.sig.returnType = some .boolean) {fr lo : Nat} (hfr : 3 ≤ fr) (hlo : 101 ≤ lo) (hR_X10_isA : ∀ (σ : gS) (q : Int32 × gS), R_X10_isA σ = some q → Met l yX10_isA (Cond.code yX10_isA cX10_isA 1 (some .boolean) :: lw_tb) (gR fr lo) (gPc shM t ad D z [.ref (ad 0)] σ) (gQi shM t ad D q.1 q.2) 0 0 (gA shM ad)) (hR_X10_isB : ∀ (σ : gS) (q : Int32 × gS), R_X10_isB σ = some q → Met l yX10_isB (Cond.code yX10_isB cX10_isB 2 (some .boolean) :: lw_tb) (gR fr lo) (gPc shM t ad D z [.ref (ad 0)] σ) (gQi shM t ad D q.1 q.2) 0 0 (gA shM ad)) (hR_X10_isE : ∀ (σ : gS) (q : Int32 × gS), R_X10_isE σ = some q → Met l yX10_isE (Cond.code yX10_isE cX10_isE 1 (some .boolean) :: lw_tb) (gR fr lo) (gPc shM t ad D z [.ref (ad 0)] σ) (gQi shM t ad D q.1 q.2) 0 0 (gA shM ad)) (hR_X10_isO : ∀ (σ : gS) (q : Int32 × gS), R_X10_isO σ = some q → Met l yX10_isO (Cond.code yX10_isO cX10_isO 3 (some .boolean) :: lw_tb) (gR fr lo) (gPc shM t ad D z [.ref (ad 0)] σ) (gQi shM t ad D q.1 q.2) 0 0 (gA shM ad)) (hR_X10_isP : ∀ (σ : gS) (q : Int32 × gS), R_X10_isP σ = some q → Met l yX10_isP (Cond.code yX10_isP cX10_isP 2 (some .boolean) :: lw_tb) (gR fr lo) (gPc shM t ad D z [.ref (ad 0)] σ) (gQi shM t ad D q.1 q.2) 0 0 (gA shM ad)) (hR_X10_isS : ∀ (σ : gS) (q : Int32 × gS), R_X10_isS σ = some q → Met l yX10_isS (Cond.code yX10_isS cX10_isS 2 (some .boolean) :: lw_tb) (gR fr lo) (gPc shM t ad D z [.ref (ad 0)] σ) (gQi shM t ad D q.1 q.2) 0 0 (gA shM ad)) {r : Int32 × gS} (K_9 : gS → Option (Int32 × gS)) (hK_9 : ∀ (σ : gS) (H : Heap) (locs : List Loc) (ls : Array Slot), K_9 σ = some r → gI shM t ad D s.heap σ H locs → lv_has ls 2 [(0, .ref (ad 0))] → W p l e (gR (fr + 1) (lo + 22)) s m args below meth c H locs 0 0 (MQ below (gQi shM t ad D r.1 r.2) args s 0 0 (gA shM ad)) (F0 m 9 ls [])) : ∀ (s0 : Int32) (σ : gS) (H : Heap) (locs : List Loc) (ls : Array Slot), f_X10_isS_38 R_X10_isA R_X10_isB R_X10_isE R_X10_isO R_X10_isP R_X10_isS K_9 s0 σ = some r → gI shM t ad D s.heap σ H locs → lv_has ls 2 [(0, .ref (ad 0))] → W p l e (gR (fr + 1) (lo + 22)) s m args below meth c H locs 0 0 (MQ below (gQi shM t ad D r.1 r.2) args s 0 0 (gA shM ad)) (F0 m 38 ls [.int s0]) := by
  have hx := C.1
  have hb := C.2.1
  intro s0 σ H locs ls  h hI hl
  unfold f_X10_isS_38 at h
  refine lv_istore_n (lv' := [(1, .int s0), (0, .ref (ad 0))]) hx hb dX10_isS_38 rfl hl (by decide) rfl (fun ls hl => ?_)
  refine lv_iload_n hx hb dX10_isS_39 rfl (lv_at hl 0 rfl) ?_
  refine hif_ge (tgt := 45) C dX10_isS_40 (by decide) h (fun h => ?_) (fun h => ?_)
  · refine lv_aload_n hx hb dX10_isS_45 rfl (lv_at hl 1 rfl) ?_
    refine lv_dup hx hb dX10_isS_46 rfl ?_
    refine fg_1075 C hI shM_0 rfl dX10_isS_47 ?_
    refine lv_iconst hx hb dX10_isS_50 ci_1 ?_
    refine lv_iadd hx hb dX10_isS_51 ?_
    refine fp_1075 C hI shM_0 rfl dX10_isS_52 (fun H locs hI => ?_)
    refine gx_st h hI (fun s1 h hI => ?_)
    refine lv_aload_n hx hb dX10_isS_55 rfl (lv_at hl 1 rfl) ?_
    refine h_callvi_w (rest := []) C hI hl.1 shM_0 rfl yv_X10_isP k_1307 h (fun q hq => hR_X10_isP s1 q hq) (As := []) rfl rfl ⟨by show _ ≤ fr + 1; omega, by show _ ≤ lo + 22; omega⟩ (Nat.le_of_ble_eq_true rfl) dX10_isS_56 (fun q2 H locs h hI => ?_)
    refine hif_ne (tgt := 64) C dX10_isS_59 (by decide) h (fun h => ?_) (fun h => ?_)
    · refine lv_aload_n hx hb dX10_isS_64 rfl (lv_at hl 1 rfl) ?_
      refine lv_iload_n hx hb dX10_isS_65 rfl (lv_at hl 0 rfl) ?_
      refine h_callvi_w (rest := []) C hI hl.1 shM_0 rfl yv_X10_codes k_1323 h (fun q hq => c_X10_codes l D t ad z C.2.2.2.2.2.2.1 q2.2 s0 q hq) (As := [.int s0]) rfl rfl ⟨by show _ ≤ fr + 1; omega, by show _ ≤ lo + 22; omega⟩ (Nat.le_of_ble_eq_true rfl) dX10_isS_66 (fun q3 H locs h hI => ?_)
      refine lv_pop hx hb dX10_isS_69 rfl ?_
      refine lv_goto (tgt := 9) hx hb dX10_isS_70 (by decide) ?_
      exact hK_9  _ _ _ _  h hI (lv_sub hl [1] rfl)
    · refine lv_iconst hx hb dX10_isS_62 ci_0 ?_
      exact h_zret_w C hr hI h dX10_isS_63
  · refine lv_iconst hx hb dX10_isS_43 ci_1 ?_
    exact h_zret_w C hr hI h dX10_isS_44
set_option maxRecDepth 100000 in
set_option maxHeartbeats 4000000 in
theorem w_X10_isS_9 {p : Program} {l : Launch} {e : Env} {s : State} {m : MethodId} {args : Array Value} {below : List Frame} {meth : Method} {c : Code} {D : va_G} {t : gT} {ad z : Nat → Nat} {R_X10_isA : gS → Option (Int32 × gS)} {R_X10_isB : gS → Option (Int32 × gS)} {R_X10_isE : gS → Option (Int32 × gS)} {R_X10_isO : gS → Option (Int32 × gS)} {R_X10_isP : gS → Option (Int32 × gS)} {R_X10_isS : gS → Option (Int32 × gS)} (C : gC p s m args meth c cX10_isS 2 "NineKeysRoundModel" D t shM ad z) (hr : meth.sig.returnType = some .boolean) {fr lo : Nat} (hfr : 3 ≤ fr) (hlo : 101 ≤ lo) (hR_X10_isA : ∀ (σ : gS) (q : Int32 × gS), R_X10_isA σ = some q → Met l yX10_isA (Cond.code yX10_isA cX10_isA 1 (some .boolean) :: lw_tb) (gR fr lo) (gPc shM t ad D z [.ref (ad 0)] σ) (gQi shM t ad D q.1 q.2) 0 0 (gA shM ad)) (hR_X10_isB : ∀ (σ : gS) (q : Int32 × gS), R_X10_isB σ = some q → Met l yX10_isB (Cond.code yX10_isB cX10_isB 2 (some .boolean) :: lw_tb) (gR fr lo) (gPc shM t ad D z [.ref (ad 0)] σ) (gQi shM t ad D q.1 q.2) 0 0 (gA shM ad)) (hR_X10_isE : ∀ (σ : gS) (q : Int32 × gS), R_X10_isE σ = some q → Met l yX10_isE (Cond.code yX10_isE cX10_isE 1 (some .boolean) :: lw_tb) (gR fr lo) (gPc shM t ad D z [.ref (ad 0)] σ) (gQi shM t ad D q.1 q.2) 0 0 (gA shM ad)) (hR_X10_isO : ∀ (σ : gS) (q : Int32 × gS), R_X10_isO σ = some q → Met l yX10_isO (Cond.code yX10_isO cX10_isO 3 (some .boolean) :: lw_tb) (gR fr lo) (gPc shM t ad D z [.ref (ad 0)] σ) (gQi shM t ad D q.1 q.2) 0 0 (gA shM ad)) (hR_X10_isP : ∀ (σ : gS) (q : Int32 × gS), R_X10_isP σ = some q → Met l yX10_isP (Cond.code yX10_isP cX10_isP 2 (some .boolean) :: lw_tb) (gR fr lo) (gPc shM t ad D z [.ref (ad 0)] σ) (gQi shM t ad D q.1 q.2) 0 0 (gA shM ad)) (hR_X10_isS : ∀ (σ : gS) (q : Int32 × gS), R_X10_isS σ = some q → Met l yX10_isS (Cond.code yX10_isS cX10_isS 2 (some .boolean) :: lw_tb) (gR fr lo) (gPc shM t ad D z [.ref (ad 0)] σ) (gQi shM t ad D q.1 q.2) 0 0 (gA shM ad)) {r : Int32 × gS} : ∀ (n : Nat) (σ : gS) (H : Heap) (locs : List Loc) (ls : Array Slot), f_X10_isS_9 R_X10_isA R_X10_isB R_X10_isE R_X10_isO R_X10_isP R_X10_isS n σ = some r → gI shM t ad D s.heap σ H locs → lv_has ls 2 [(0, .ref (ad 0))] → W p l e (gR (fr + 1) (lo + 22)) s m args below meth c H locs 0 0 (MQ below (gQi shM t ad D r.1 r.2) args s 0 0 (gA shM ad)) (F0 m 9 ls []) := by
  have hx := C.1
  have hb := C.2.1
  intro n
  induction n with
  | zero =>
    intro σ H locs ls  h
    exact absurd h (by simp [f_X10_isS_9])
  | succ n ih =>
    intro σ H locs ls  h hI hl
    unfold f_X10_isS_9 at h
    refine lv_aload_n hx hb dX10_isS_9 rfl (lv_at hl 0 rfl) ?_
    refine h_callvi_o (rest := []) C hI hl.1 shM_0 rfl yv_X10_sign k_1319 h (fun q hq => c_X10_sign l D t ad z C.2.2.2.2.2.2.1 (σ) q hq) (As := []) rfl rfl ⟨by show _ ≤ fr + 1; omega, by show _ ≤ lo + 22; omega⟩ (Nat.le_of_ble_eq_true rfl) dX10_isS_10 (fun q1 H locs h hI => ?_)
    refine lv_bipush hx hb dX10_isS_13 cb_43 ?_
    refine hicmp_ne (tgt := 23) C dX10_isS_15 (by decide) h (fun h => ?_) (fun h => ?_)
    · refine lv_aload_n hx hb dX10_isS_23 rfl (lv_at hl 0 rfl) ?_
      refine h_callvi_o (rest := []) C hI hl.1 shM_0 rfl yv_X10_sign k_1319 h (fun q hq => c_X10_sign l D t ad z C.2.2.2.2.2.2.1 (σ) q hq) (As := []) rfl rfl ⟨by show _ ≤ fr + 1; omega, by show _ ≤ lo + 22; omega⟩ (Nat.le_of_ble_eq_true rfl) dX10_isS_24 (fun q2 H locs h hI => ?_)
      refine lv_bipush hx hb dX10_isS_27 cb_45 ?_
      refine hicmp_ne (tgt := 37) C dX10_isS_29 (by decide) h (fun h => ?_) (fun h => ?_)
      · refine lv_iconst hx hb dX10_isS_37 ci_m1 ?_
        exact w_X10_isS_38 C hr hfr hlo hR_X10_isA hR_X10_isB hR_X10_isE hR_X10_isO hR_X10_isP hR_X10_isS  _ ih _ _ _ _ _  h hI (lv_sub hl [0] rfl)
      · refine lv_bipush hx hb dX10_isS_32 cb_12 ?_
        refine lv_goto (tgt := 38) hx hb dX10_isS_34 (by decide) ?_
        exact w_X10_isS_38 C hr hfr hlo hR_X10_isA hR_X10_isB hR_X10_isE hR_X10_isO hR_X10_isP hR_X10_isS  _ ih _ _ _ _ _  h hI (lv_sub hl [0] rfl)
    · refine lv_bipush hx hb dX10_isS_18 cb_11 ?_
      refine lv_goto (tgt := 38) hx hb dX10_isS_20 (by decide) ?_
      exact w_X10_isS_38 C hr hfr hlo hR_X10_isA hR_X10_isB hR_X10_isE hR_X10_isO hR_X10_isP hR_X10_isS  _ ih _ _ _ _ _  h hI (lv_sub hl [0] rfl)
set_option maxRecDepth 100000 in
set_option maxHeartbeats 4000000 in
theorem cr_X10_isS (l : Launch) (D : va_G) (t : gT) (ad z : Nat → Nat) (hJ : gJ shM ad) {R_X10_isA : gS → Option (Int32 × gS)} {R_X10_isB : gS → Option (Int32 × gS)} {R_X10_isE : gS → Option (Int32 × gS)} {R_X10_isO : gS → Option (Int32 × gS)} {R_X10_isP : gS → Option (Int32 × gS)} {R_X10_isS : gS → Option (Int32 × gS)} {fr lo : Nat} (hfr : 3 ≤ fr) (hlo : 101 ≤ lo) (hR_X10_isA : ∀ (σ : gS) (q : Int32 × gS), R_X10_isA σ = some q → Met l yX10_isA (Cond.code yX10_isA cX10_isA 1 (some .boolean) :: lw_tb) (gR fr lo) (gPc shM t ad D z [.ref (ad 0)] σ) (gQi shM t ad D q.1 q.2) 0 0 (gA shM ad)) (hR_X10_isB : ∀ (σ : gS) (q : Int32 × gS), R_X10_isB σ = some q → Met l yX10_isB (Cond.code yX10_isB cX10_isB 2 (some .boolean) :: lw_tb) (gR fr lo) (gPc shM t ad D z [.ref (ad 0)] σ) (gQi shM t ad D q.1 q.2) 0 0 (gA shM ad)) (hR_X10_isE : ∀ (σ : gS) (q : Int32 × gS), R_X10_isE σ = some q → Met l yX10_isE (Cond.code yX10_isE cX10_isE 1 (some .boolean) :: lw_tb) (gR fr lo) (gPc shM t ad D z [.ref (ad 0)] σ) (gQi shM t ad D q.1 q.2) 0 0 (gA shM ad)) (hR_X10_isO : ∀ (σ : gS) (q : Int32 × gS), R_X10_isO σ = some q → Met l yX10_isO (Cond.code yX10_isO cX10_isO 3 (some .boolean) :: lw_tb) (gR fr lo) (gPc shM t ad D z [.ref (ad 0)] σ) (gQi shM t ad D q.1 q.2) 0 0 (gA shM ad)) (hR_X10_isP : ∀ (σ : gS) (q : Int32 × gS), R_X10_isP σ = some q → Met l yX10_isP (Cond.code yX10_isP cX10_isP 2 (some .boolean) :: lw_tb) (gR fr lo) (gPc shM t ad D z [.ref (ad 0)] σ) (gQi shM t ad D q.1 q.2) 0 0 (gA shM ad)) (hR_X10_isS : ∀ (σ : gS) (q : Int32 × gS), R_X10_isS σ = some q → Met l yX10_isS (Cond.code yX10_isS cX10_isS 2 (some .boolean) :: lw_tb) (gR fr lo) (gPc shM t ad D z [.ref (ad 0)] σ) (gQi shM t ad D q.1 q.2) 0 0 (gA shM ad)) (σ : gS) (q : Int32 × gS) (h : F_X10_isS R_X10_isA R_X10_isB R_X10_isE R_X10_isO R_X10_isP R_X10_isS σ = some q) : Met l yX10_isS (Cond.code yX10_isS cX10_isS 2 (some .boolean) :: lw_tb) (gR (fr + 1) (lo + 22)) (gPc shM t ad D z [.ref (ad 0)] σ) (gQi shM t ad D q.1 q.2) 0 0 (gA shM ad) := by
  refine gMet "NineKeysRoundModel" rfl (by decide) hJ (Nat.le_of_ble_eq_true rfl) ?_
  intro p e s m below meth c ls C hr hI hl
  have hx := C.1
  have hb := C.2.1
  have hl : lv_has ls 2 [(0, .ref (ad 0))] := hl
  unfold F_X10_isS at h
  refine lv_aload_n hx hb dX10_isS_0 rfl (lv_at hl 0 rfl) ?_
  refine h_callvi_w (rest := []) C hI hl.1 shM_0 rfl yv_X10_isP k_1307 h (fun q hq => hR_X10_isP (σ) q hq) (As := []) rfl rfl ⟨by show _ ≤ fr + 1; omega, by show _ ≤ lo + 22; omega⟩ (Nat.le_of_ble_eq_true rfl) dX10_isS_1 (fun q1 H locs h hI => ?_)
  refine hif_ne (tgt := 9) C dX10_isS_4 (by decide) h (fun h => ?_) (fun h => ?_)
  · exact w_X10_isS_9 C hr hfr hlo hR_X10_isA hR_X10_isB hR_X10_isE hR_X10_isO hR_X10_isP hR_X10_isS   _  _ _ _ _  h hI (lv_sub hl [0] rfl)
  · refine lv_iconst hx hb dX10_isS_7 ci_0 ?_
    exact h_zret_w C hr hI h dX10_isS_8
set_option maxRecDepth 100000 in
set_option maxHeartbeats 4000000 in
theorem cR_X10_isA (l : Launch) (D : va_G) (t : gT) (ad z : Nat → Nat) (hJ : gJ shM ad) : ∀ d : Nat, (∀ (σ : gS) (q : Int32 × gS), (fR_X10_isA d).1 σ = some q → Met l yX10_isA (Cond.code yX10_isA cX10_isA 1 (some .boolean) :: lw_tb) (gR (3 + d) (101 + d * 22)) (gPc shM t ad D z [.ref (ad 0)] σ) (gQi shM t ad D q.1 q.2) 0 0 (gA shM ad)) ∧ (∀ (σ : gS) (q : Int32 × gS), (fR_X10_isA d).2.1 σ = some q → Met l yX10_isB (Cond.code yX10_isB cX10_isB 2 (some .boolean) :: lw_tb) (gR (3 + d) (101 + d * 22)) (gPc shM t ad D z [.ref (ad 0)] σ) (gQi shM t ad D q.1 q.2) 0 0 (gA shM ad)) ∧ (∀ (σ : gS) (q : Int32 × gS), (fR_X10_isA d).2.2.1 σ = some q → Met l yX10_isE (Cond.code yX10_isE cX10_isE 1 (some .boolean) :: lw_tb) (gR (3 + d) (101 + d * 22)) (gPc shM t ad D z [.ref (ad 0)] σ) (gQi shM t ad D q.1 q.2) 0 0 (gA shM ad)) ∧ (∀ (σ : gS) (q : Int32 × gS), (fR_X10_isA d).2.2.2.1 σ = some q → Met l yX10_isO (Cond.code yX10_isO cX10_isO 3 (some .boolean) :: lw_tb) (gR (3 + d) (101 + d * 22)) (gPc shM t ad D z [.ref (ad 0)] σ) (gQi shM t ad D q.1 q.2) 0 0 (gA shM ad)) ∧ (∀ (σ : gS) (q : Int32 × gS), (fR_X10_isA d).2.2.2.2.1 σ = some q → Met l yX10_isP (Cond.code yX10_isP cX10_isP 2 (some .boolean) :: lw_tb) (gR (3 + d) (101 + d * 22)) (gPc shM t ad D z [.ref (ad 0)] σ) (gQi shM t ad D q.1 q.2) 0 0 (gA shM ad)) ∧ (∀ (σ : gS) (q : Int32 × gS), (fR_X10_isA d).2.2.2.2.2 σ = some q → Met l yX10_isS (Cond.code yX10_isS cX10_isS 2 (some .boolean) :: lw_tb) (gR (3 + d) (101 + d * 22)) (gPc shM t ad D z [.ref (ad 0)] σ) (gQi shM t ad D q.1 q.2) 0 0 (gA shM ad)) := by
  intro d
  induction d with
  | zero => exact ⟨fun _ _ h => absurd h (by simp [fR_X10_isA]), fun _ _ h => absurd h (by simp [fR_X10_isA]), fun _ _ h => absurd h (by simp [fR_X10_isA]), fun _ _ h => absurd h (by simp [fR_X10_isA]), fun _ _ h => absurd h (by simp [fR_X10_isA]), fun _ _ h => absurd h (by simp [fR_X10_isA])⟩
  | succ d ih =>
    rw [show 101 + (d + 1) * 22 = 101 + d * 22 + 22 by rw [Nat.succ_mul, Nat.add_assoc]]
    exact ⟨fun σ q h => cr_X10_isA l D t ad z hJ (fr := 3 + d) (lo := 101 + d * 22) (by omega) (by omega) ih.1 ih.2.1 ih.2.2.1 ih.2.2.2.1 ih.2.2.2.2.1 ih.2.2.2.2.2 σ q h, fun σ q h => cr_X10_isB l D t ad z hJ (fr := 3 + d) (lo := 101 + d * 22) (by omega) (by omega) ih.1 ih.2.1 ih.2.2.1 ih.2.2.2.1 ih.2.2.2.2.1 ih.2.2.2.2.2 σ q h, fun σ q h => cr_X10_isE l D t ad z hJ (fr := 3 + d) (lo := 101 + d * 22) (by omega) (by omega) ih.1 ih.2.1 ih.2.2.1 ih.2.2.2.1 ih.2.2.2.2.1 ih.2.2.2.2.2 σ q h, fun σ q h => cr_X10_isO l D t ad z hJ (fr := 3 + d) (lo := 101 + d * 22) (by omega) (by omega) ih.1 ih.2.1 ih.2.2.1 ih.2.2.2.1 ih.2.2.2.2.1 ih.2.2.2.2.2 σ q h, fun σ q h => cr_X10_isP l D t ad z hJ (fr := 3 + d) (lo := 101 + d * 22) (by omega) (by omega) ih.1 ih.2.1 ih.2.2.1 ih.2.2.2.1 ih.2.2.2.2.1 ih.2.2.2.2.2 σ q h, fun σ q h => cr_X10_isS l D t ad z hJ (fr := 3 + d) (lo := 101 + d * 22) (by omega) (by omega) ih.1 ih.2.1 ih.2.2.1 ih.2.2.2.1 ih.2.2.2.2.1 ih.2.2.2.2.2 σ q h⟩
theorem c_X10_isA (l : Launch) (D : va_G) (t : gT) (ad z : Nat → Nat) (hJ : gJ shM ad) (σ : gS) (q : Int32 × gS) (h : f_X10_isA σ = some q) : Met l yX10_isA (Cond.code yX10_isA cX10_isA 1 (some .boolean) :: lw_tb) (gR 67 1509) (gPc shM t ad D z [.ref (ad 0)] σ) (gQi shM t ad D q.1 q.2) 0 0 (gA shM ad) := (cR_X10_isA l D t ad z hJ 64).1 σ q h
theorem c_X10_isB (l : Launch) (D : va_G) (t : gT) (ad z : Nat → Nat) (hJ : gJ shM ad) (σ : gS) (q : Int32 × gS) (h : f_X10_isB σ = some q) : Met l yX10_isB (Cond.code yX10_isB cX10_isB 2 (some .boolean) :: lw_tb) (gR 67 1509) (gPc shM t ad D z [.ref (ad 0)] σ) (gQi shM t ad D q.1 q.2) 0 0 (gA shM ad) := (cR_X10_isA l D t ad z hJ 64).2.1 σ q h
theorem c_X10_isE (l : Launch) (D : va_G) (t : gT) (ad z : Nat → Nat) (hJ : gJ shM ad) (σ : gS) (q : Int32 × gS) (h : f_X10_isE σ = some q) : Met l yX10_isE (Cond.code yX10_isE cX10_isE 1 (some .boolean) :: lw_tb) (gR 67 1509) (gPc shM t ad D z [.ref (ad 0)] σ) (gQi shM t ad D q.1 q.2) 0 0 (gA shM ad) := (cR_X10_isA l D t ad z hJ 64).2.2.1 σ q h
theorem c_X10_isO (l : Launch) (D : va_G) (t : gT) (ad z : Nat → Nat) (hJ : gJ shM ad) (σ : gS) (q : Int32 × gS) (h : f_X10_isO σ = some q) : Met l yX10_isO (Cond.code yX10_isO cX10_isO 3 (some .boolean) :: lw_tb) (gR 67 1509) (gPc shM t ad D z [.ref (ad 0)] σ) (gQi shM t ad D q.1 q.2) 0 0 (gA shM ad) := (cR_X10_isA l D t ad z hJ 64).2.2.2.1 σ q h
theorem c_X10_isP (l : Launch) (D : va_G) (t : gT) (ad z : Nat → Nat) (hJ : gJ shM ad) (σ : gS) (q : Int32 × gS) (h : f_X10_isP σ = some q) : Met l yX10_isP (Cond.code yX10_isP cX10_isP 2 (some .boolean) :: lw_tb) (gR 67 1509) (gPc shM t ad D z [.ref (ad 0)] σ) (gQi shM t ad D q.1 q.2) 0 0 (gA shM ad) := (cR_X10_isA l D t ad z hJ 64).2.2.2.2.1 σ q h
theorem c_X10_isS (l : Launch) (D : va_G) (t : gT) (ad z : Nat → Nat) (hJ : gJ shM ad) (σ : gS) (q : Int32 × gS) (h : f_X10_isS σ = some q) : Met l yX10_isS (Cond.code yX10_isS cX10_isS 2 (some .boolean) :: lw_tb) (gR 67 1509) (gPc shM t ad D z [.ref (ad 0)] σ) (gQi shM t ad D q.1 q.2) 0 0 (gA shM ad) := (cR_X10_isA l D t ad z hJ 64).2.2.2.2.2 σ q h
set_option maxRecDepth 100000 in
set_option maxHeartbeats 4000000 in
theorem w_X10_isLine_71 {p : Program} {l : Launch} {e : Env} {s : State} {m : MethodId} {args : Array Value} {below : List Frame} {meth : Method} {c : Code} {D : va_G} {t : gT} {ad z : Nat → Nat} (C : gC p s m args meth c cX10_isLine 1 "NineKeysRoundModel" D t shM ad z) (hr : meth.sig.returnType = some .boolean) {r : Int32 × gS} : ∀ (σ : gS) (H : Heap) (locs : List Loc) (ls : Array Slot), f_X10_isLine_71 σ = some r → gI shM t ad D s.heap σ H locs → lv_has ls 1 [(0, .ref (ad 0))] → W p l e (gR 68 1529) s m args below meth c H locs 0 0 (MQ below (gQi shM t ad D r.1 r.2) args s 0 0 (gA shM ad)) (F0 m 71 ls []) := by
  have hx := C.1
  have hb := C.2.1
  intro σ H locs ls  h hI hl
  unfold f_X10_isLine_71 at h
  refine lv_aload_n hx hb dX10_isLine_71 rfl (lv_at hl 0 rfl) ?_
  refine fr_1081 C hI shM_0 rfl dX10_isLine_72 ?_
  refine lv_aload_n hx hb dX10_isLine_75 rfl (lv_at hl 0 rfl) ?_
  refine lv_dup hx hb dX10_isLine_76 rfl ?_
  refine fg_1078 C hI shM_0 rfl dX10_isLine_77 ?_
  refine gx_topi h (fun v1 h => ?_)
  refine lv_dup_x1 hx hb dX10_isLine_80 rfl rfl ?_
  refine lv_iconst hx hb dX10_isLine_81 ci_1 ?_
  refine lv_iadd hx hb dX10_isLine_82 ?_
  refine fp_1078 C hI shM_0 rfl dX10_isLine_83 (fun H locs hI => ?_)
  refine gx_st h hI (fun s2 h hI => ?_)
  refine lv_aload_n hx hb dX10_isLine_86 rfl (lv_at hl 0 rfl) ?_
  refine fg_1077 C hI shM_0 rfl dX10_isLine_87 ?_
  refine gx_iast C hI shM_13 h dX10_isLine_90 (fun H locs h hI => ?_)
  refine gx_st h hI (fun s3 h hI => ?_)
  refine lv_iconst hx hb dX10_isLine_91 ci_1 ?_
  exact h_zret_w C hr hI h dX10_isLine_92
set_option maxRecDepth 100000 in
set_option maxHeartbeats 4000000 in
theorem c_X10_isLine (l : Launch) (D : va_G) (t : gT) (ad z : Nat → Nat) (hJ : gJ shM ad) (σ : gS) (q : Int32 × gS) (h : f_X10_isLine σ = some q) : Met l yX10_isLine (Cond.code yX10_isLine cX10_isLine 1 (some .boolean) :: lw_tb) (gR 68 1529) (gPc shM t ad D z [.ref (ad 0)] σ) (gQi shM t ad D q.1 q.2) 0 0 (gA shM ad) := by
  refine gMet "NineKeysRoundModel" rfl (by decide) hJ (Nat.le_of_ble_eq_true rfl) ?_
  intro p e s m below meth c ls C hr hI hl
  have hx := C.1
  have hb := C.2.1
  have hl : lv_has ls 1 [(0, .ref (ad 0))] := hl
  unfold f_X10_isLine at h
  refine lv_aload_n hx hb dX10_isLine_0 rfl (lv_at hl 0 rfl) ?_
  refine fr_1079 C hI shM_0 rfl dX10_isLine_1 ?_
  refine lv_aload_n hx hb dX10_isLine_4 rfl (lv_at hl 0 rfl) ?_
  refine fg_1078 C hI shM_0 rfl dX10_isLine_5 ?_
  refine lv_aload_n hx hb dX10_isLine_8 rfl (lv_at hl 0 rfl) ?_
  refine fg_1077 C hI shM_0 rfl dX10_isLine_9 ?_
  refine gx_iast C hI shM_11 h dX10_isLine_12 (fun H locs h hI => ?_)
  refine gx_st h hI (fun s1 h hI => ?_)
  refine lv_aload_n hx hb dX10_isLine_13 rfl (lv_at hl 0 rfl) ?_
  refine h_callvi_w (rest := []) C hI hl.1 shM_0 rfl yv_X10_isE k_1291 h (fun q hq => c_X10_isE l D t ad z C.2.2.2.2.2.2.1 s1 q hq) (As := []) rfl rfl ⟨Nat.le_of_ble_eq_true rfl, Nat.le_of_ble_eq_true rfl⟩ (Nat.le_of_ble_eq_true rfl) dX10_isLine_14 (fun q2 H locs h hI => ?_)
  refine hif_ne (tgt := 22) C dX10_isLine_17 (by decide) h (fun h => ?_) (fun h => ?_)
  · refine lv_aload_n hx hb dX10_isLine_22 rfl (lv_at hl 0 rfl) ?_
    refine fr_1080 C hI shM_0 rfl dX10_isLine_23 ?_
    refine lv_aload_n hx hb dX10_isLine_26 rfl (lv_at hl 0 rfl) ?_
    refine fg_1078 C hI shM_0 rfl dX10_isLine_27 ?_
    refine lv_aload_n hx hb dX10_isLine_30 rfl (lv_at hl 0 rfl) ?_
    refine fr_1079 C hI shM_0 rfl dX10_isLine_31 ?_
    refine lv_aload_n hx hb dX10_isLine_34 rfl (lv_at hl 0 rfl) ?_
    refine fg_1078 C hI shM_0 rfl dX10_isLine_35 ?_
    refine gx_iald C hI shM_11 h dX10_isLine_38 (fun h => ?_)
    refine gx_iast C hI shM_12 h dX10_isLine_39 (fun H locs h hI => ?_)
    refine gx_st h hI (fun s3 h hI => ?_)
    refine lv_aload_n hx hb dX10_isLine_40 rfl (lv_at hl 0 rfl) ?_
    refine lv_bipush hx hb dX10_isLine_41 cb_63 ?_
    refine h_callvi_w (rest := []) C hI hl.1 shM_0 rfl yv_X10_is k_1330 h (fun q hq => c_X10_is l D t ad z C.2.2.2.2.2.2.1 s3 63 q hq) (As := [.int 63]) rfl rfl ⟨Nat.le_of_ble_eq_true rfl, Nat.le_of_ble_eq_true rfl⟩ (Nat.le_of_ble_eq_true rfl) dX10_isLine_43 (fun q4 H locs h hI => ?_)
    refine hif_eq (tgt := 71) C dX10_isLine_46 (by decide) h (fun h => ?_) (fun h => ?_)
    · exact w_X10_isLine_71 C hr     _ _ _ _  h hI (lv_sub hl [0] rfl)
    · refine lv_aload_n hx hb dX10_isLine_49 rfl (lv_at hl 0 rfl) ?_
      refine fr_1080 C hI shM_0 rfl dX10_isLine_50 ?_
      refine lv_aload_n hx hb dX10_isLine_53 rfl (lv_at hl 0 rfl) ?_
      refine fg_1078 C hI shM_0 rfl dX10_isLine_54 ?_
      refine lv_aload_n hx hb dX10_isLine_57 rfl (lv_at hl 0 rfl) ?_
      refine fg_1077 C hI shM_0 rfl dX10_isLine_58 ?_
      refine gx_iast C hI shM_12 h dX10_isLine_61 (fun H locs h hI => ?_)
      refine gx_st h hI (fun s5 h hI => ?_)
      refine lv_aload_n hx hb dX10_isLine_62 rfl (lv_at hl 0 rfl) ?_
      refine h_callvi_w (rest := []) C hI hl.1 shM_0 rfl yv_X10_isE k_1291 h (fun q hq => c_X10_isE l D t ad z C.2.2.2.2.2.2.1 s5 q hq) (As := []) rfl rfl ⟨Nat.le_of_ble_eq_true rfl, Nat.le_of_ble_eq_true rfl⟩ (Nat.le_of_ble_eq_true rfl) dX10_isLine_63 (fun q6 H locs h hI => ?_)
      refine hif_ne (tgt := 71) C dX10_isLine_66 (by decide) h (fun h => ?_) (fun h => ?_)
      · exact w_X10_isLine_71 C hr     _ _ _ _  h hI (lv_sub hl [0] rfl)
      · refine lv_iconst hx hb dX10_isLine_69 ci_0 ?_
        exact h_zret_w C hr hI h dX10_isLine_70
  · refine lv_iconst hx hb dX10_isLine_20 ci_0 ?_
    exact h_zret_w C hr hI h dX10_isLine_21
set_option maxRecDepth 100000 in
set_option maxHeartbeats 4000000 in
theorem w_X10_law_151 {p : Program} {l : Launch} {e : Env} {s : State} {m : MethodId} {args : Array Value} {below : List Frame} {meth : Method} {c : Code} {D : va_G} {t : gT} {ad z : Nat → Nat} (C : gC p s m args meth c cX10_law 4 "NineKeysRoundModel" D t shM ad z) (hr : meth.sig.returnType = some .int) {r : Int32 × gS} : ∀ (n : Nat) (x3 : Int32) (σ : gS) (H : Heap) (locs : List Loc) (ls : Array Slot), f_X10_law_151 n x3 σ = some r → gI shM t ad D s.heap σ H locs → lv_has ls 4 [(0, .ref (ad 0)), (3, .int x3)] → W p l e (gR 69 1549) s m args below meth c H locs 0 0 (MQ below (gQi shM t ad D r.1 r.2) args s 0 0 (gA shM ad)) (F0 m 151 ls []) := by
  have hx := C.1
  have hb := C.2.1
  intro n
  induction n with
  | zero =>
    intro x3 σ H locs ls  h
    exact absurd h (by simp [f_X10_law_151])
  | succ n ih =>
    intro x3 σ H locs ls  h hI hl
    unfold f_X10_law_151 at h
    refine lv_iload_n hx hb dX10_law_151 rfl (lv_at hl 1 rfl) ?_
    refine lv_aload_n hx hb dX10_law_152 rfl (lv_at hl 0 rfl) ?_
    refine fg_1077 C hI shM_0 rfl dX10_law_153 ?_
    refine hicmp_ge (tgt := 177) C dX10_law_156 (by decide) h (fun h => ?_) (fun h => ?_)
    · refine lv_iconst hx hb dX10_law_177 ci_1 ?_
      exact h_iret_w C hr hI h dX10_law_178
    · refine lv_aload_n hx hb dX10_law_159 rfl (lv_at hl 0 rfl) ?_
      refine fr_1074 C hI shM_0 rfl dX10_law_160 ?_
      refine lv_iload_n hx hb dX10_law_163 rfl (lv_at hl 1 rfl) ?_
      refine lv_aload_n hx hb dX10_law_164 rfl (lv_at hl 0 rfl) ?_
      refine fr_1082 C hI shM_0 rfl dX10_law_165 ?_
      refine lv_iload_n hx hb dX10_law_168 rfl (lv_at hl 1 rfl) ?_
      refine gx_iald C hI shM_14 h dX10_law_169 (fun h => ?_)
      refine gx_iast C hI shM_10 h dX10_law_170 (fun H locs h hI => ?_)
      refine gx_st h hI (fun s1 h hI => ?_)
      refine h_iinc C hl dX10_law_171 1 rfl ci_1 h (by decide) (lvf := fun v2 => [(3, .int v2), (0, .ref (ad 0))]) (fun _ => rfl) (fun v2 ls h hl => ?_)
      refine lv_goto (tgt := 151) hx hb dX10_law_174 (by decide) ?_
      exact ih _ _ _ _ _  h hI (lv_sub hl [1, 0] rfl)
set_option maxRecDepth 100000 in
set_option maxHeartbeats 4000000 in
theorem w_X10_law_99 {p : Program} {l : Launch} {e : Env} {s : State} {m : MethodId} {args : Array Value} {below : List Frame} {meth : Method} {c : Code} {D : va_G} {t : gT} {ad z : Nat → Nat} (C : gC p s m args meth c cX10_law 4 "NineKeysRoundModel" D t shM ad z) (hr : meth.sig.returnType = some .int) {r : Int32 × gS} : ∀ (n : Nat) (x3 : Int32) (σ : gS) (H : Heap) (locs : List Loc) (ls : Array Slot), f_X10_law_99 n x3 σ = some r → gI shM t ad D s.heap σ H locs → lv_has ls 4 [(0, .ref (ad 0)), (3, .int x3)] → W p l e (gR 69 1549) s m args below meth c H locs 0 0 (MQ below (gQi shM t ad D r.1 r.2) args s 0 0 (gA shM ad)) (F0 m 99 ls []) := by
  have hx := C.1
  have hb := C.2.1
  intro n
  induction n with
  | zero =>
    intro x3 σ H locs ls  h
    exact absurd h (by simp [f_X10_law_99])
  | succ n ih =>
    intro x3 σ H locs ls  h hI hl
    unfold f_X10_law_99 at h
    refine lv_iload_n hx hb dX10_law_99 rfl (lv_at hl 1 rfl) ?_
    refine lv_aload_n hx hb dX10_law_100 rfl (lv_at hl 0 rfl) ?_
    refine fg_1070 C hI shM_0 rfl dX10_law_101 ?_
    refine hicmp_ge (tgt := 149) C dX10_law_104 (by decide) h (fun h => ?_) (fun h => ?_)
    · refine lv_iconst hx hb dX10_law_149 ci_0 ?_
      refine lv_istore_n (lv' := [(3, .int 0), (0, .ref (ad 0))]) hx hb dX10_law_150 rfl hl (by decide) rfl (fun ls hl => ?_)
      exact w_X10_law_151 C hr    _ _ _ _ _ _  h hI (lv_sub hl [1, 0] rfl)
    · refine lv_aload_n hx hb dX10_law_107 rfl (lv_at hl 0 rfl) ?_
      refine fr_1071 C hI shM_0 rfl dX10_law_108 ?_
      refine lv_iload_n hx hb dX10_law_111 rfl (lv_at hl 1 rfl) ?_
      refine lv_aload_n hx hb dX10_law_112 rfl (lv_at hl 0 rfl) ?_
      refine fr_1079 C hI shM_0 rfl dX10_law_113 ?_
      refine lv_iload_n hx hb dX10_law_116 rfl (lv_at hl 1 rfl) ?_
      refine gx_iald C hI shM_11 h dX10_law_117 (fun h => ?_)
      refine gx_iast C hI shM_7 h dX10_law_118 (fun H locs h hI => ?_)
      refine gx_st h hI (fun s1 h hI => ?_)
      refine lv_aload_n hx hb dX10_law_119 rfl (lv_at hl 0 rfl) ?_
      refine fr_1072 C hI shM_0 rfl dX10_law_120 ?_
      refine lv_iload_n hx hb dX10_law_123 rfl (lv_at hl 1 rfl) ?_
      refine lv_aload_n hx hb dX10_law_124 rfl (lv_at hl 0 rfl) ?_
      refine fr_1080 C hI shM_0 rfl dX10_law_125 ?_
      refine lv_iload_n hx hb dX10_law_128 rfl (lv_at hl 1 rfl) ?_
      refine gx_iald C hI shM_12 h dX10_law_129 (fun h => ?_)
      refine gx_iast C hI shM_8 h dX10_law_130 (fun H locs h hI => ?_)
      refine gx_st h hI (fun s2 h hI => ?_)
      refine lv_aload_n hx hb dX10_law_131 rfl (lv_at hl 0 rfl) ?_
      refine fr_1073 C hI shM_0 rfl dX10_law_132 ?_
      refine lv_iload_n hx hb dX10_law_135 rfl (lv_at hl 1 rfl) ?_
      refine lv_aload_n hx hb dX10_law_136 rfl (lv_at hl 0 rfl) ?_
      refine fr_1081 C hI shM_0 rfl dX10_law_137 ?_
      refine lv_iload_n hx hb dX10_law_140 rfl (lv_at hl 1 rfl) ?_
      refine gx_iald C hI shM_13 h dX10_law_141 (fun h => ?_)
      refine gx_iast C hI shM_9 h dX10_law_142 (fun H locs h hI => ?_)
      refine gx_st h hI (fun s3 h hI => ?_)
      refine h_iinc C hl dX10_law_143 1 rfl ci_1 h (by decide) (lvf := fun v4 => [(3, .int v4), (0, .ref (ad 0))]) (fun _ => rfl) (fun v4 ls h hl => ?_)
      refine lv_goto (tgt := 99) hx hb dX10_law_146 (by decide) ?_
      exact ih _ _ _ _ _  h hI (lv_sub hl [1, 0] rfl)
set_option maxRecDepth 100000 in
set_option maxHeartbeats 4000000 in
theorem w_X10_law_66 {p : Program} {l : Launch} {e : Env} {s : State} {m : MethodId} {args : Array Value} {below : List Frame} {meth : Method} {c : Code} {D : va_G} {t : gT} {ad z : Nat → Nat} (C : gC p s m args meth c cX10_law 4 "NineKeysRoundModel" D t shM ad z) (hr : meth.sig.returnType = some .int) {r : Int32 × gS} : ∀ (s0 : Int32) (σ : gS) (H : Heap) (locs : List Loc) (ls : Array Slot), f_X10_law_66 s0 σ = some r → gI shM t ad D s.heap σ H locs → lv_has ls 4 [(0, .ref (ad 0))] → W p l e (gR 69 1549) s m args below meth c H locs 0 0 (MQ below (gQi shM t ad D r.1 r.2) args s 0 0 (gA shM ad)) (F0 m 66 ls [.int s0]) := by
  have hx := C.1
  have hb := C.2.1
  intro s0 σ H locs ls  h hI hl
  unfold f_X10_law_66 at h
  refine lv_istore_n (lv' := [(2, .int s0), (0, .ref (ad 0))]) hx hb dX10_law_66 rfl hl (by decide) rfl (fun ls hl => ?_)
  refine lv_aload_n hx hb dX10_law_67 rfl (lv_at hl 1 rfl) ?_
  refine lv_iconst hx hb dX10_law_68 ci_0 ?_
  refine fp_1067 C hI shM_0 rfl dX10_law_69 (fun H locs hI => ?_)
  refine gx_st h hI (fun s1 h hI => ?_)
  refine lv_iload_n hx hb dX10_law_72 rfl (lv_at hl 0 rfl) ?_
  refine hif_ne (tgt := 84) C dX10_law_73 (by decide) h (fun h => ?_) (fun h => ?_)
  · refine lv_aload_n hx hb dX10_law_84 rfl (lv_at hl 1 rfl) ?_
    refine lv_iconst hx hb dX10_law_85 ci_1 ?_
    obtain ⟨hz, h⟩ := gk_some h
    refine fp_1069 C hI shM_0 rfl hz dX10_law_86 (fun H locs hI => ?_)
    refine gx_st h hI (fun s2 h hI => ?_)
    refine lv_aload_n hx hb dX10_law_89 rfl (lv_at hl 1 rfl) ?_
    refine lv_aload_n hx hb dX10_law_90 rfl (lv_at hl 1 rfl) ?_
    refine fg_1078 C hI shM_0 rfl dX10_law_91 ?_
    refine fp_1070 C hI shM_0 rfl dX10_law_94 (fun H locs hI => ?_)
    refine gx_st h hI (fun s3 h hI => ?_)
    refine lv_iconst hx hb dX10_law_97 ci_0 ?_
    refine lv_istore_n (lv' := [(3, .int 0), (2, .int s0), (0, .ref (ad 0))]) hx hb dX10_law_98 rfl hl (by decide) rfl (fun ls hl => ?_)
    exact w_X10_law_99 C hr    _ _ _ _ _ _  h hI (lv_sub hl [2, 0] rfl)
  · refine lv_bipush hx hb dX10_law_76 cb_m100 ?_
    refine lv_aload_n hx hb dX10_law_78 rfl (lv_at hl 1 rfl) ?_
    refine fg_1075 C hI shM_0 rfl dX10_law_79 ?_
    refine lv_isub hx hb dX10_law_82 ?_
    exact h_iret_w C hr hI h dX10_law_83
set_option maxRecDepth 100000 in
set_option maxHeartbeats 4000000 in
theorem w_X10_law_65 {p : Program} {l : Launch} {e : Env} {s : State} {m : MethodId} {args : Array Value} {below : List Frame} {meth : Method} {c : Code} {D : va_G} {t : gT} {ad z : Nat → Nat} (C : gC p s m args meth c cX10_law 4 "NineKeysRoundModel" D t shM ad z) (hr : meth.sig.returnType = some .int) {r : Int32 × gS} : ∀ (σ : gS) (H : Heap) (locs : List Loc) (ls : Array Slot), f_X10_law_65 σ = some r → gI shM t ad D s.heap σ H locs → lv_has ls 4 [(0, .ref (ad 0))] → W p l e (gR 69 1549) s m args below meth c H locs 0 0 (MQ below (gQi shM t ad D r.1 r.2) args s 0 0 (gA shM ad)) (F0 m 65 ls []) := by
  have hx := C.1
  have hb := C.2.1
  intro σ H locs ls  h hI hl
  unfold f_X10_law_65 at h
  refine lv_iconst hx hb dX10_law_65 ci_0 ?_
  exact w_X10_law_66 C hr    _ _ _ _ _  h hI (lv_sub hl [0] rfl)
set_option maxRecDepth 100000 in
set_option maxHeartbeats 4000000 in
theorem w_X10_law_46 {p : Program} {l : Launch} {e : Env} {s : State} {m : MethodId} {args : Array Value} {below : List Frame} {meth : Method} {c : Code} {D : va_G} {t : gT} {ad z : Nat → Nat} (C : gC p s m args meth c cX10_law 4 "NineKeysRoundModel" D t shM ad z) (hr : meth.sig.returnType = some .int) {r : Int32 × gS} : ∀ (x1 : Int32) (σ : gS) (H : Heap) (locs : List Loc) (ls : Array Slot), f_X10_law_46 x1 σ = some r → gI shM t ad D s.heap σ H locs → lv_has ls 4 [(0, .ref (ad 0)), (1, .int x1)] → W p l e (gR 69 1549) s m args below meth c H locs 0 0 (MQ below (gQi shM t ad D r.1 r.2) args s 0 0 (gA shM ad)) (F0 m 46 ls []) := by
  have hx := C.1
  have hb := C.2.1
  intro x1 σ H locs ls  h hI hl
  unfold f_X10_law_46 at h
  refine lv_iload_n hx hb dX10_law_46 rfl (lv_at hl 1 rfl) ?_
  refine hif_eq (tgt := 65) C dX10_law_47 (by decide) h (fun h => ?_) (fun h => ?_)
  · exact w_X10_law_65 C hr     _ _ _ _  h hI (lv_sub hl [0] rfl)
  · refine lv_aload_n hx hb dX10_law_50 rfl (lv_at hl 0 rfl) ?_
    refine fg_1075 C hI shM_0 rfl dX10_law_51 ?_
    refine lv_aload_n hx hb dX10_law_54 rfl (lv_at hl 0 rfl) ?_
    refine fg_1067 C hI shM_0 rfl dX10_law_55 ?_
    refine hicmp_ne (tgt := 65) C dX10_law_58 (by decide) h (fun h => ?_) (fun h => ?_)
    · exact w_X10_law_65 C hr     _ _ _ _  h hI (lv_sub hl [0] rfl)
    · refine lv_iconst hx hb dX10_law_61 ci_1 ?_
      refine lv_goto (tgt := 66) hx hb dX10_law_62 (by decide) ?_
      exact w_X10_law_66 C hr    _ _ _ _ _  h hI (lv_sub hl [0] rfl)
set_option maxRecDepth 100000 in
set_option maxHeartbeats 4000000 in
theorem w_X10_law_25 {p : Program} {l : Launch} {e : Env} {s : State} {m : MethodId} {args : Array Value} {below : List Frame} {meth : Method} {c : Code} {D : va_G} {t : gT} {ad z : Nat → Nat} (C : gC p s m args meth c cX10_law 4 "NineKeysRoundModel" D t shM ad z) (hr : meth.sig.returnType = some .int) {r : Int32 × gS} : ∀ (n : Nat) (x1 : Int32) (σ : gS) (H : Heap) (locs : List Loc) (ls : Array Slot), f_X10_law_25 n x1 σ = some r → gI shM t ad D s.heap σ H locs → lv_has ls 4 [(0, .ref (ad 0)), (1, .int x1)] → W p l e (gR 69 1549) s m args below meth c H locs 0 0 (MQ below (gQi shM t ad D r.1 r.2) args s 0 0 (gA shM ad)) (F0 m 25 ls []) := by
  have hx := C.1
  have hb := C.2.1
  intro n
  induction n with
  | zero =>
    intro x1 σ H locs ls  h
    exact absurd h (by simp [f_X10_law_25])
  | succ n ih =>
    intro x1 σ H locs ls  h hI hl
    unfold f_X10_law_25 at h
    refine lv_iload_n hx hb dX10_law_25 rfl (lv_at hl 1 rfl) ?_
    refine hif_eq (tgt := 46) C dX10_law_26 (by decide) h (fun h => ?_) (fun h => ?_)
    · exact w_X10_law_46 C hr    _ _ _ _ _  h hI (lv_sub hl [0, 1] rfl)
    · refine lv_aload_n hx hb dX10_law_29 rfl (lv_at hl 0 rfl) ?_
      refine lv_bipush hx hb dX10_law_30 cb_59 ?_
      refine h_callvi_w (rest := []) C hI hl.1 shM_0 rfl yv_X10_is k_1330 h (fun q hq => c_X10_is l D t ad z C.2.2.2.2.2.2.1 (σ) 59 q hq) (As := [.int 59]) rfl rfl ⟨Nat.le_of_ble_eq_true rfl, Nat.le_of_ble_eq_true rfl⟩ (Nat.le_of_ble_eq_true rfl) dX10_law_32 (fun q1 H locs h hI => ?_)
      refine hif_eq (tgt := 46) C dX10_law_35 (by decide) h (fun h => ?_) (fun h => ?_)
      · exact w_X10_law_46 C hr    _ _ _ _ _  h hI (lv_sub hl [0, 1] rfl)
      · refine lv_aload_n hx hb dX10_law_38 rfl (lv_at hl 0 rfl) ?_
        refine h_callvi_w (rest := []) C hI hl.1 shM_0 rfl yv_X10_isLine k_1287 h (fun q hq => c_X10_isLine l D t ad z C.2.2.2.2.2.2.1 q1.2 q hq) (As := []) rfl rfl ⟨Nat.le_of_ble_eq_true rfl, Nat.le_of_ble_eq_true rfl⟩ (Nat.le_of_ble_eq_true rfl) dX10_law_39 (fun q2 H locs h hI => ?_)
        refine lv_istore_n (lv' := [(1, .int q2.1), (0, .ref (ad 0))]) hx hb dX10_law_42 rfl hl (by decide) rfl (fun ls hl => ?_)
        refine lv_goto (tgt := 25) hx hb dX10_law_43 (by decide) ?_
        exact ih _ _ _ _ _  h hI (lv_sub hl [1, 0] rfl)
set_option maxRecDepth 100000 in
set_option maxHeartbeats 4000000 in
theorem c_X10_law (l : Launch) (D : va_G) (t : gT) (ad z : Nat → Nat) (hJ : gJ shM ad) (σ : gS) (q : Int32 × gS) (h : f_X10_law σ = some q) : Met l yX10_law (Cond.code yX10_law cX10_law 4 (some .int) :: lw_tb) (gR 69 1549) (gPc shM t ad D z [.ref (ad 0)] σ) (gQi shM t ad D q.1 q.2) 0 0 (gA shM ad) := by
  refine gMet "NineKeysRoundModel" rfl (by decide) hJ (Nat.le_of_ble_eq_true rfl) ?_
  intro p e s m below meth c ls C hr hI hl
  have hx := C.1
  have hb := C.2.1
  have hl : lv_has ls 4 [(0, .ref (ad 0))] := hl
  unfold f_X10_law at h
  refine lv_aload_n hx hb dX10_law_0 rfl (lv_at hl 0 rfl) ?_
  refine lv_iconst hx hb dX10_law_1 ci_0 ?_
  refine fp_1075 C hI shM_0 rfl dX10_law_2 (fun H locs hI => ?_)
  refine gx_st h hI (fun s1 h hI => ?_)
  refine lv_aload_n hx hb dX10_law_5 rfl (lv_at hl 0 rfl) ?_
  refine lv_iconst hx hb dX10_law_6 ci_0 ?_
  refine fp_1076 C hI shM_0 rfl dX10_law_7 (fun H locs hI => ?_)
  refine gx_st h hI (fun s2 h hI => ?_)
  refine lv_aload_n hx hb dX10_law_10 rfl (lv_at hl 0 rfl) ?_
  refine lv_iconst hx hb dX10_law_11 ci_0 ?_
  refine fp_1077 C hI shM_0 rfl dX10_law_12 (fun H locs hI => ?_)
  refine gx_st h hI (fun s3 h hI => ?_)
  refine lv_aload_n hx hb dX10_law_15 rfl (lv_at hl 0 rfl) ?_
  refine lv_iconst hx hb dX10_law_16 ci_0 ?_
  refine fp_1078 C hI shM_0 rfl dX10_law_17 (fun H locs hI => ?_)
  refine gx_st h hI (fun s4 h hI => ?_)
  refine lv_aload_n hx hb dX10_law_20 rfl (lv_at hl 0 rfl) ?_
  refine h_callvi_w (rest := []) C hI hl.1 shM_0 rfl yv_X10_isLine k_1287 h (fun q hq => c_X10_isLine l D t ad z C.2.2.2.2.2.2.1 s4 q hq) (As := []) rfl rfl ⟨Nat.le_of_ble_eq_true rfl, Nat.le_of_ble_eq_true rfl⟩ (Nat.le_of_ble_eq_true rfl) dX10_law_21 (fun q5 H locs h hI => ?_)
  refine lv_istore_n (lv' := [(1, .int q5.1), (0, .ref (ad 0))]) hx hb dX10_law_24 rfl hl (by decide) rfl (fun ls hl => ?_)
  exact w_X10_law_25 C hr    _ _ _ _ _ _  h hI (lv_sub hl [1, 0] rfl)
set_option maxRecDepth 100000 in
set_option maxHeartbeats 4000000 in
theorem c_X10_both (l : Launch) (D : va_G) (t : gT) (ad z : Nat → Nat) (hJ : gJ shM ad) (σ : gS) (x0 : Int32) (x1 : Int32) (x2 : Int32) (q : Int32) (h : f_X10_both σ x0 x1 x2 = some q) : Met l yX10_both (Cond.code yX10_both cX10_both 3 (some .int) :: lw_tb) (gR 1 60) (gPc shM t ad D z [.int x0, .int x1, .int x2] σ) (gQi shM t ad D q σ) 0 0 (gA shM ad) := by
  refine gMet "NineKeysRoundModel" rfl (by decide) hJ (Nat.le_of_ble_eq_true rfl) ?_
  intro p e s m below meth c ls C hr hI hl
  have hx := C.1
  have hb := C.2.1
  have hl : lv_has ls 3 [(0, .int x0), (1, .int x1), (2, .int x2)] := hl
  unfold f_X10_both at h
  refine lv_iload_n hx hb dX10_both_0 rfl (lv_at hl 0 rfl) ?_
  by_cases hc_ : x0 = 6
  · rw [if_pos hc_] at h
    refine lv_tableIn (tgt := 52) (off := 51) hx hb dX10_both_1 (by rw [hc_]; decide) (by rw [hc_]; decide) (by rw [hc_]; rfl) (by decide) ?_
    refine lv_iload_n hx hb dX10_both_52 rfl (lv_at hl 1 rfl) ?_
    refine hif_ne (tgt := 60) C dX10_both_53 (by decide) h (fun h => ?_) (fun h => ?_)
    · refine lv_iconst hx hb dX10_both_60 ci_1 ?_
      refine lv_goto (tgt := 65) hx hb dX10_both_61 (by decide) ?_
      exact h_iret_o C hr hI h dX10_both_65
    · refine lv_iload_n hx hb dX10_both_56 rfl (lv_at hl 2 rfl) ?_
      refine hif_eq (tgt := 64) C dX10_both_57 (by decide) h (fun h => ?_) (fun h => ?_)
      · refine lv_iconst hx hb dX10_both_64 ci_0 ?_
        exact h_iret_o C hr hI h dX10_both_65
      · refine lv_iconst hx hb dX10_both_60 ci_1 ?_
        refine lv_goto (tgt := 65) hx hb dX10_both_61 (by decide) ?_
        exact h_iret_o C hr hI h dX10_both_65
  · rw [if_neg hc_] at h
    have hn_0 := hc_
    by_cases hc_ : x0 = 7
    · rw [if_pos hc_] at h
      refine lv_tableIn (tgt := 66) (off := 65) hx hb dX10_both_1 (by rw [hc_]; decide) (by rw [hc_]; decide) (by rw [hc_]; rfl) (by decide) ?_
      refine lv_iload_n hx hb dX10_both_66 rfl (lv_at hl 1 rfl) ?_
      refine hif_eq (tgt := 78) C dX10_both_67 (by decide) h (fun h => ?_) (fun h => ?_)
      · refine lv_iconst hx hb dX10_both_78 ci_0 ?_
        exact h_iret_o C hr hI h dX10_both_79
      · refine lv_iload_n hx hb dX10_both_70 rfl (lv_at hl 2 rfl) ?_
        refine hif_eq (tgt := 78) C dX10_both_71 (by decide) h (fun h => ?_) (fun h => ?_)
        · refine lv_iconst hx hb dX10_both_78 ci_0 ?_
          exact h_iret_o C hr hI h dX10_both_79
        · refine lv_iconst hx hb dX10_both_74 ci_1 ?_
          refine lv_goto (tgt := 79) hx hb dX10_both_75 (by decide) ?_
          exact h_iret_o C hr hI h dX10_both_79
    · rw [if_neg hc_] at h
      have hn_1 := hc_
      by_cases hc_ : x0 = 8
      · rw [if_pos hc_] at h
        refine lv_tableIn (tgt := 80) (off := 79) hx hb dX10_both_1 (by rw [hc_]; decide) (by rw [hc_]; decide) (by rw [hc_]; rfl) (by decide) ?_
        refine lv_iload_n hx hb dX10_both_80 rfl (lv_at hl 1 rfl) ?_
        refine lv_iload_n hx hb dX10_both_81 rfl (lv_at hl 2 rfl) ?_
        refine hicmp_ge (tgt := 89) C dX10_both_82 (by decide) h (fun h => ?_) (fun h => ?_)
        · refine lv_iconst hx hb dX10_both_89 ci_0 ?_
          exact h_iret_o C hr hI h dX10_both_90
        · refine lv_iconst hx hb dX10_both_85 ci_1 ?_
          refine lv_goto (tgt := 90) hx hb dX10_both_86 (by decide) ?_
          exact h_iret_o C hr hI h dX10_both_90
      · rw [if_neg hc_] at h
        have hn_2 := hc_
        by_cases hc_ : x0 = 9
        · rw [if_pos hc_] at h
          refine lv_tableIn (tgt := 91) (off := 90) hx hb dX10_both_1 (by rw [hc_]; decide) (by rw [hc_]; decide) (by rw [hc_]; rfl) (by decide) ?_
          refine lv_iload_n hx hb dX10_both_91 rfl (lv_at hl 1 rfl) ?_
          refine lv_iload_n hx hb dX10_both_92 rfl (lv_at hl 2 rfl) ?_
          refine hicmp_ne (tgt := 100) C dX10_both_93 (by decide) h (fun h => ?_) (fun h => ?_)
          · refine lv_iconst hx hb dX10_both_100 ci_0 ?_
            exact h_iret_o C hr hI h dX10_both_101
          · refine lv_iconst hx hb dX10_both_96 ci_1 ?_
            refine lv_goto (tgt := 101) hx hb dX10_both_97 (by decide) ?_
            exact h_iret_o C hr hI h dX10_both_101
        · rw [if_neg hc_] at h
          have hn_3 := hc_
          by_cases hc_ : x0 = 10
          · rw [if_pos hc_] at h
            refine lv_tableIn (tgt := 102) (off := 101) hx hb dX10_both_1 (by rw [hc_]; decide) (by rw [hc_]; decide) (by rw [hc_]; rfl) (by decide) ?_
            refine lv_iload_n hx hb dX10_both_102 rfl (lv_at hl 1 rfl) ?_
            refine lv_iload_n hx hb dX10_both_103 rfl (lv_at hl 2 rfl) ?_
            refine hicmp_le (tgt := 111) C dX10_both_104 (by decide) h (fun h => ?_) (fun h => ?_)
            · refine lv_iconst hx hb dX10_both_111 ci_0 ?_
              exact h_iret_o C hr hI h dX10_both_112
            · refine lv_iconst hx hb dX10_both_107 ci_1 ?_
              refine lv_goto (tgt := 112) hx hb dX10_both_108 (by decide) ?_
              exact h_iret_o C hr hI h dX10_both_112
          · rw [if_neg hc_] at h
            have hn_4 := hc_
            by_cases hc_ : x0 = 11
            · rw [if_pos hc_] at h
              refine lv_tableIn (tgt := 113) (off := 112) hx hb dX10_both_1 (by rw [hc_]; decide) (by rw [hc_]; decide) (by rw [hc_]; rfl) (by decide) ?_
              refine lv_iload_n hx hb dX10_both_113 rfl (lv_at hl 1 rfl) ?_
              refine lv_iload_n hx hb dX10_both_114 rfl (lv_at hl 2 rfl) ?_
              refine lv_iadd hx hb dX10_both_115 ?_
              exact h_iret_o C hr hI h dX10_both_116
            · rw [if_neg hc_] at h
              have hn_5 := hc_
              by_cases hc_ : x0 = 12
              · rw [if_pos hc_] at h
                refine lv_tableIn (tgt := 117) (off := 116) hx hb dX10_both_1 (by rw [hc_]; decide) (by rw [hc_]; decide) (by rw [hc_]; rfl) (by decide) ?_
                refine lv_iload_n hx hb dX10_both_117 rfl (lv_at hl 1 rfl) ?_
                refine lv_iload_n hx hb dX10_both_118 rfl (lv_at hl 2 rfl) ?_
                refine lv_isub hx hb dX10_both_119 ?_
                exact h_iret_o C hr hI h dX10_both_120
              · rw [if_neg hc_] at h
                have hn_6 := hc_
                by_cases hc_ : x0 = 13
                · rw [if_pos hc_] at h
                  refine lv_tableIn (tgt := 121) (off := 120) hx hb dX10_both_1 (by rw [hc_]; decide) (by rw [hc_]; decide) (by rw [hc_]; rfl) (by decide) ?_
                  refine lv_iload_n hx hb dX10_both_121 rfl (lv_at hl 1 rfl) ?_
                  refine lv_iload_n hx hb dX10_both_122 rfl (lv_at hl 2 rfl) ?_
                  refine lv_imul hx hb dX10_both_123 ?_
                  exact h_iret_o C hr hI h dX10_both_124
                · rw [if_neg hc_] at h
                  have hn_7 := hc_
                  by_cases hc_ : x0 = 14
                  · rw [if_pos hc_] at h
                    refine lv_tableIn (tgt := 125) (off := 124) hx hb dX10_both_1 (by rw [hc_]; decide) (by rw [hc_]; decide) (by rw [hc_]; rfl) (by decide) ?_
                    refine lv_iload_n hx hb dX10_both_125 rfl (lv_at hl 2 rfl) ?_
                    refine hif_ne (tgt := 133) C dX10_both_126 (by decide) h (fun h => ?_) (fun h => ?_)
                    · refine lv_iload_n hx hb dX10_both_133 rfl (lv_at hl 1 rfl) ?_
                      refine lv_iload_n hx hb dX10_both_134 rfl (lv_at hl 2 rfl) ?_
                      refine h_idiv C dX10_both_135 h (fun h => ?_)
                      exact h_iret_o C hr hI h dX10_both_136
                    · refine lv_iconst hx hb dX10_both_129 ci_0 ?_
                      refine lv_goto (tgt := 136) hx hb dX10_both_130 (by decide) ?_
                      exact h_iret_o C hr hI h dX10_both_136
                  · rw [if_neg hc_] at h
                    have hn_8 := hc_
                    have hout : x0.toInt < 6 ∨ 14 < x0.toInt := by
                      have e0 := tsne (c := 6) (z := 6) (by decide) hn_0
                      have e1 := tsne (c := 7) (z := 7) (by decide) hn_1
                      have e2 := tsne (c := 8) (z := 8) (by decide) hn_2
                      have e3 := tsne (c := 9) (z := 9) (by decide) hn_3
                      have e4 := tsne (c := 10) (z := 10) (by decide) hn_4
                      have e5 := tsne (c := 11) (z := 11) (by decide) hn_5
                      have e6 := tsne (c := 12) (z := 12) (by decide) hn_6
                      have e7 := tsne (c := 13) (z := 13) (by decide) hn_7
                      have e8 := tsne (c := 14) (z := 14) (by decide) hn_8
                      omega
                    refine lv_tableOut (tgt := 137) hx hb dX10_both_1 hout (by decide) ?_
                    refine lv_iload_n hx hb dX10_both_137 rfl (lv_at hl 2 rfl) ?_
                    refine hif_ne (tgt := 145) C dX10_both_138 (by decide) h (fun h => ?_) (fun h => ?_)
                    · refine lv_iload_n hx hb dX10_both_145 rfl (lv_at hl 1 rfl) ?_
                      refine lv_iload_n hx hb dX10_both_146 rfl (lv_at hl 2 rfl) ?_
                      refine h_irem C dX10_both_147 h (fun h => ?_)
                      exact h_iret_o C hr hI h dX10_both_148
                    · refine lv_iconst hx hb dX10_both_141 ci_0 ?_
                      refine lv_goto (tgt := 148) hx hb dX10_both_142 (by decide) ?_
                      exact h_iret_o C hr hI h dX10_both_148
set_option maxRecDepth 100000 in
set_option maxHeartbeats 4000000 in
theorem w_X10_worked_63 {p : Program} {l : Launch} {e : Env} {s : State} {m : MethodId} {args : Array Value} {below : List Frame} {meth : Method} {c : Code} {D : va_G} {t : gT} {ad z : Nat → Nat} (C : gC p s m args meth c cX10_worked 6 "NineKeysRoundModel" D t shM ad z) (hr : meth.sig.returnType = some .int) {r : Int32 × gS} (K_5 : Int32 → Int32 → Int32 → gS → Option (Int32 × gS)) (hK_5 : ∀ (x2 : Int32) (x3 : Int32) (x4 : Int32) (σ : gS) (H : Heap) (locs : List Loc) (ls : Array Slot), K_5 x2 x3 x4 σ = some r → gI shM t ad D s.heap σ H locs → lv_has ls 6 [(0, .ref (ad 0)), (2, .int x2), (3, .int x3), (4, .int x4)] → W p l e (gR 2 82) s m args below meth c H locs 0 0 (MQ below (gQi shM t ad D r.1 r.2) args s 0 0 (gA shM ad)) (F0 m 5 ls [])) : ∀ (x2 : Int32) (x3 : Int32) (x4 : Int32) (s0 : Int32) (s1 : Int32) (σ : gS) (H : Heap) (locs : List Loc) (ls : Array Slot), f_X10_worked_63 K_5 x2 x3 x4 s0 s1 σ = some r → gI shM t ad D s.heap σ H locs → lv_has ls 6 [(0, .ref (ad 0)), (2, .int x2), (3, .int x3), (4, .int x4)] → W p l e (gR 2 82) s m args below meth c H locs 0 0 (MQ below (gQi shM t ad D r.1 r.2) args s 0 0 (gA shM ad)) (F0 m 63 ls [.int s0, .int s1, .ref (ad 15)]) := by
  have hx := C.1
  have hb := C.2.1
  intro x2 x3 x4 s0 s1 σ H locs ls  h hI hl
  unfold f_X10_worked_63 at h
  refine gx_iast C hI shM_15 h dX10_worked_63 (fun H locs h hI => ?_)
  refine gx_st h hI (fun s1 h hI => ?_)
  refine lv_goto (tgt := 157) hx hb dX10_worked_64 (by decide) ?_
  refine h_iinc C hl dX10_worked_157 3 rfl ci_1 h (by decide) (lvf := fun v2 => [(4, .int v2), (0, .ref (ad 0)), (2, .int x2), (3, .int x3)]) (fun _ => rfl) (fun v2 ls h hl => ?_)
  refine lv_goto (tgt := 5) hx hb dX10_worked_160 (by decide) ?_
  exact hK_5 _ _ _ _ _ _ _  h hI (lv_sub hl [1, 2, 3, 0] rfl)
set_option maxRecDepth 100000 in
set_option maxHeartbeats 4000000 in
theorem w_X10_worked_33 {p : Program} {l : Launch} {e : Env} {s : State} {m : MethodId} {args : Array Value} {below : List Frame} {meth : Method} {c : Code} {D : va_G} {t : gT} {ad z : Nat → Nat} (C : gC p s m args meth c cX10_worked 6 "NineKeysRoundModel" D t shM ad z) (hr : meth.sig.returnType = some .int) {r : Int32 × gS} (K_5 : Int32 → Int32 → Int32 → gS → Option (Int32 × gS)) (hK_5 : ∀ (x2 : Int32) (x3 : Int32) (x4 : Int32) (σ : gS) (H : Heap) (locs : List Loc) (ls : Array Slot), K_5 x2 x3 x4 σ = some r → gI shM t ad D s.heap σ H locs → lv_has ls 6 [(0, .ref (ad 0)), (2, .int x2), (3, .int x3), (4, .int x4)] → W p l e (gR 2 82) s m args below meth c H locs 0 0 (MQ below (gQi shM t ad D r.1 r.2) args s 0 0 (gA shM ad)) (F0 m 5 ls [])) : ∀ (x2 : Int32) (x3 : Int32) (x4 : Int32) (x5 : Int32) (σ : gS) (H : Heap) (locs : List Loc) (ls : Array Slot), f_X10_worked_33 K_5 x2 x3 x4 x5 σ = some r → gI shM t ad D s.heap σ H locs → lv_has ls 6 [(0, .ref (ad 0)), (2, .int x2), (3, .int x3), (4, .int x4), (5, .int x5)] → W p l e (gR 2 82) s m args below meth c H locs 0 0 (MQ below (gQi shM t ad D r.1 r.2) args s 0 0 (gA shM ad)) (F0 m 33 ls []) := by
  have hx := C.1
  have hb := C.2.1
  intro x2 x3 x4 x5 σ H locs ls  h hI hl
  unfold f_X10_worked_33 at h
  refine lv_aload_n hx hb dX10_worked_33 rfl (lv_at hl 0 rfl) ?_
  refine fr_1083 C hI shM_0 rfl dX10_worked_34 ?_
  refine lv_iload_n hx hb dX10_worked_37 rfl (lv_at hl 2 rfl) ?_
  refine h_iinc C hl dX10_worked_38 2 rfl ci_1 h (by decide) (lvf := fun v1 => [(3, .int v1), (0, .ref (ad 0)), (2, .int x2), (4, .int x4), (5, .int x5)]) (fun _ => rfl) (fun v1 ls h hl => ?_)
  refine lv_iload hx hb dX10_worked_41 (lv_at hl 4 rfl) ?_
  refine lv_bipush hx hb dX10_worked_43 cb_18 ?_
  refine hicmp_lt (tgt := 56) C dX10_worked_45 (by decide) h (fun h => ?_) (fun h => ?_)
  · refine lv_aload_n hx hb dX10_worked_56 rfl (lv_at hl 1 rfl) ?_
    refine fr_1084 C hI shM_0 rfl dX10_worked_57 ?_
    refine lv_iload hx hb dX10_worked_60 (lv_at hl 4 rfl) ?_
    refine gx_iald C hI shM_16 h dX10_worked_62 (fun h => ?_)
    exact w_X10_worked_63 C hr   _ hK_5 _ _ _ _ _ _ _ _ _  h hI (lv_sub hl [1, 2, 0, 3] rfl)
  · refine lv_iload hx hb dX10_worked_48 (lv_at hl 4 rfl) ?_
    refine lv_bipush hx hb dX10_worked_50 cb_18 ?_
    refine lv_isub hx hb dX10_worked_52 ?_
    refine lv_goto (tgt := 63) hx hb dX10_worked_53 (by decide) ?_
    exact w_X10_worked_63 C hr   _ hK_5 _ _ _ _ _ _ _ _ _  h hI (lv_sub hl [1, 2, 0, 3] rfl)
set_option maxRecDepth 100000 in
set_option maxHeartbeats 4000000 in
theorem w_X10_worked_123 {p : Program} {l : Launch} {e : Env} {s : State} {m : MethodId} {args : Array Value} {below : List Frame} {meth : Method} {c : Code} {D : va_G} {t : gT} {ad z : Nat → Nat} (C : gC p s m args meth c cX10_worked 6 "NineKeysRoundModel" D t shM ad z) (hr : meth.sig.returnType = some .int) {r : Int32 × gS} (K_5 : Int32 → Int32 → Int32 → gS → Option (Int32 × gS)) (hK_5 : ∀ (x2 : Int32) (x3 : Int32) (x4 : Int32) (σ : gS) (H : Heap) (locs : List Loc) (ls : Array Slot), K_5 x2 x3 x4 σ = some r → gI shM t ad D s.heap σ H locs → lv_has ls 6 [(0, .ref (ad 0)), (2, .int x2), (3, .int x3), (4, .int x4)] → W p l e (gR 2 82) s m args below meth c H locs 0 0 (MQ below (gQi shM t ad D r.1 r.2) args s 0 0 (gA shM ad)) (F0 m 5 ls [])) : ∀ (x2 : Int32) (x3 : Int32) (x4 : Int32) (s0 : Int32) (s1 : Int32) (σ : gS) (H : Heap) (locs : List Loc) (ls : Array Slot), f_X10_worked_123 K_5 x2 x3 x4 s0 s1 σ = some r → gI shM t ad D s.heap σ H locs → lv_has ls 6 [(0, .ref (ad 0)), (2, .int x2), (3, .int x3), (4, .int x4)] → W p l e (gR 2 82) s m args below meth c H locs 0 0 (MQ below (gQi shM t ad D r.1 r.2) args s 0 0 (gA shM ad)) (F0 m 123 ls [.int s0, .int s1, .ref (ad 15)]) := by
  have hx := C.1
  have hb := C.2.1
  intro x2 x3 x4 s0 s1 σ H locs ls  h hI hl
  unfold f_X10_worked_123 at h
  refine gx_iast C hI shM_15 h dX10_worked_123 (fun H locs h hI => ?_)
  refine gx_st h hI (fun s1 h hI => ?_)
  refine lv_goto (tgt := 157) hx hb dX10_worked_124 (by decide) ?_
  refine h_iinc C hl dX10_worked_157 3 rfl ci_1 h (by decide) (lvf := fun v2 => [(4, .int v2), (0, .ref (ad 0)), (2, .int x2), (3, .int x3)]) (fun _ => rfl) (fun v2 ls h hl => ?_)
  refine lv_goto (tgt := 5) hx hb dX10_worked_160 (by decide) ?_
  exact hK_5 _ _ _ _ _ _ _  h hI (lv_sub hl [1, 2, 3, 0] rfl)
set_option maxRecDepth 100000 in
set_option maxHeartbeats 4000000 in
theorem w_X10_worked_81 {p : Program} {l : Launch} {e : Env} {s : State} {m : MethodId} {args : Array Value} {below : List Frame} {meth : Method} {c : Code} {D : va_G} {t : gT} {ad z : Nat → Nat} (C : gC p s m args meth c cX10_worked 6 "NineKeysRoundModel" D t shM ad z) (hr : meth.sig.returnType = some .int) {r : Int32 × gS} (K_5 : Int32 → Int32 → Int32 → gS → Option (Int32 × gS)) (hK_5 : ∀ (x2 : Int32) (x3 : Int32) (x4 : Int32) (σ : gS) (H : Heap) (locs : List Loc) (ls : Array Slot), K_5 x2 x3 x4 σ = some r → gI shM t ad D s.heap σ H locs → lv_has ls 6 [(0, .ref (ad 0)), (2, .int x2), (3, .int x3), (4, .int x4)] → W p l e (gR 2 82) s m args below meth c H locs 0 0 (MQ below (gQi shM t ad D r.1 r.2) args s 0 0 (gA shM ad)) (F0 m 5 ls [])) : ∀ (x2 : Int32) (x3 : Int32) (x4 : Int32) (x5 : Int32) (σ : gS) (H : Heap) (locs : List Loc) (ls : Array Slot), f_X10_worked_81 K_5 x2 x3 x4 x5 σ = some r → gI shM t ad D s.heap σ H locs → lv_has ls 6 [(0, .ref (ad 0)), (2, .int x2), (3, .int x3), (4, .int x4), (5, .int x5)] → W p l e (gR 2 82) s m args below meth c H locs 0 0 (MQ below (gQi shM t ad D r.1 r.2) args s 0 0 (gA shM ad)) (F0 m 81 ls []) := by
  have hx := C.1
  have hb := C.2.1
  intro x2 x3 x4 x5 σ H locs ls  h hI hl
  unfold f_X10_worked_81 at h
  refine lv_aload_n hx hb dX10_worked_81 rfl (lv_at hl 0 rfl) ?_
  refine fr_1083 C hI shM_0 rfl dX10_worked_82 ?_
  refine lv_iload_n hx hb dX10_worked_85 rfl (lv_at hl 2 rfl) ?_
  refine lv_iconst hx hb dX10_worked_86 ci_1 ?_
  refine lv_isub hx hb dX10_worked_87 ?_
  refine lv_iload hx hb dX10_worked_88 (lv_at hl 4 rfl) ?_
  refine lv_bipush hx hb dX10_worked_90 cb_17 ?_
  refine hicmp_ne (tgt := 107) C dX10_worked_92 (by decide) h (fun h => ?_) (fun h => ?_)
  · refine lv_aload_n hx hb dX10_worked_107 rfl (lv_at hl 0 rfl) ?_
    refine fr_1083 C hI shM_0 rfl dX10_worked_108 ?_
    refine lv_iload_n hx hb dX10_worked_111 rfl (lv_at hl 2 rfl) ?_
    refine lv_iconst hx hb dX10_worked_112 ci_1 ?_
    refine lv_isub hx hb dX10_worked_113 ?_
    refine gx_iald C hI shM_15 h dX10_worked_114 (fun h => ?_)
    refine hif_ne (tgt := 122) C dX10_worked_115 (by decide) h (fun h => ?_) (fun h => ?_)
    · refine lv_iconst hx hb dX10_worked_122 ci_0 ?_
      exact w_X10_worked_123 C hr   _ hK_5 _ _ _ _ _ _ _ _ _  h hI (lv_sub hl [0, 1, 2, 3] rfl)
    · refine lv_iconst hx hb dX10_worked_118 ci_1 ?_
      refine lv_goto (tgt := 123) hx hb dX10_worked_119 (by decide) ?_
      exact w_X10_worked_123 C hr   _ hK_5 _ _ _ _ _ _ _ _ _  h hI (lv_sub hl [0, 1, 2, 3] rfl)
  · refine lv_aload_n hx hb dX10_worked_95 rfl (lv_at hl 0 rfl) ?_
    refine fr_1083 C hI shM_0 rfl dX10_worked_96 ?_
    refine lv_iload_n hx hb dX10_worked_99 rfl (lv_at hl 2 rfl) ?_
    refine lv_iconst hx hb dX10_worked_100 ci_1 ?_
    refine lv_isub hx hb dX10_worked_101 ?_
    refine gx_iald C hI shM_15 h dX10_worked_102 (fun h => ?_)
    refine lv_ineg hx hb dX10_worked_103 ?_
    refine lv_goto (tgt := 123) hx hb dX10_worked_104 (by decide) ?_
    exact w_X10_worked_123 C hr   _ hK_5 _ _ _ _ _ _ _ _ _  h hI (lv_sub hl [0, 1, 2, 3] rfl)
set_option maxRecDepth 100000 in
set_option maxHeartbeats 4000000 in
theorem w_X10_worked_5 {p : Program} {l : Launch} {e : Env} {s : State} {m : MethodId} {args : Array Value} {below : List Frame} {meth : Method} {c : Code} {D : va_G} {t : gT} {ad z : Nat → Nat} (C : gC p s m args meth c cX10_worked 6 "NineKeysRoundModel" D t shM ad z) (hr : meth.sig.returnType = some .int) {r : Int32 × gS} : ∀ (n : Nat) (x2 : Int32) (x3 : Int32) (x4 : Int32) (σ : gS) (H : Heap) (locs : List Loc) (ls : Array Slot), f_X10_worked_5 n x2 x3 x4 σ = some r → gI shM t ad D s.heap σ H locs → lv_has ls 6 [(0, .ref (ad 0)), (2, .int x2), (3, .int x3), (4, .int x4)] → W p l e (gR 2 82) s m args below meth c H locs 0 0 (MQ below (gQi shM t ad D r.1 r.2) args s 0 0 (gA shM ad)) (F0 m 5 ls []) := by
  have hx := C.1
  have hb := C.2.1
  intro n
  induction n with
  | zero =>
    intro x2 x3 x4 σ H locs ls  h
    exact absurd h (by simp [f_X10_worked_5])
  | succ n ih =>
    intro x2 x3 x4 σ H locs ls  h hI hl
    unfold f_X10_worked_5 at h
    refine lv_iload hx hb dX10_worked_5 (lv_at hl 3 rfl) ?_
    refine lv_iload_n hx hb dX10_worked_7 rfl (lv_at hl 1 rfl) ?_
    refine hicmp_ge (tgt := 163) C dX10_worked_8 (by decide) h (fun h => ?_) (fun h => ?_)
    · refine lv_aload_n hx hb dX10_worked_163 rfl (lv_at hl 0 rfl) ?_
      refine fr_1083 C hI shM_0 rfl dX10_worked_164 ?_
      refine lv_iconst hx hb dX10_worked_167 ci_0 ?_
      refine gx_iald C hI shM_15 h dX10_worked_168 (fun h => ?_)
      exact h_iret_w C hr hI h dX10_worked_169
    · refine lv_aload_n hx hb dX10_worked_11 rfl (lv_at hl 0 rfl) ?_
      refine fr_1074 C hI shM_0 rfl dX10_worked_12 ?_
      refine lv_iload hx hb dX10_worked_15 (lv_at hl 3 rfl) ?_
      refine gx_iald C hI shM_10 h dX10_worked_17 (fun h => ?_)
      refine gx_topi h (fun v1 h => ?_)
      refine lv_istore (lv' := [(5, .int v1), (0, .ref (ad 0)), (2, .int x2), (3, .int x3), (4, .int x4)]) hx hb dX10_worked_18 hl (by decide) rfl (fun ls hl => ?_)
      refine lv_iload hx hb dX10_worked_20 (lv_at hl 0 rfl) ?_
      refine lv_bipush hx hb dX10_worked_22 cb_18 ?_
      refine hicmp_ge (tgt := 33) C dX10_worked_24 (by decide) h (fun h => ?_) (fun h => ?_)
      · exact w_X10_worked_33 C hr   _ ih _ _ _ _ _ _ _ _  h hI (lv_sub hl [1, 2, 3, 4, 0] rfl)
      · refine lv_iload hx hb dX10_worked_27 (lv_at hl 0 rfl) ?_
        refine lv_iconst hx hb dX10_worked_29 ci_5 ?_
        refine hicmp_gt (tgt := 67) C dX10_worked_30 (by decide) h (fun h => ?_) (fun h => ?_)
        · refine lv_iload hx hb dX10_worked_67 (lv_at hl 0 rfl) ?_
          refine lv_bipush hx hb dX10_worked_69 cb_16 ?_
          refine hicmp_eq (tgt := 81) C dX10_worked_71 (by decide) h (fun h => ?_) (fun h => ?_)
          · exact w_X10_worked_81 C hr   _ ih _ _ _ _ _ _ _ _  h hI (lv_sub hl [1, 2, 3, 4, 0] rfl)
          · refine lv_iload hx hb dX10_worked_74 (lv_at hl 0 rfl) ?_
            refine lv_bipush hx hb dX10_worked_76 cb_17 ?_
            refine hicmp_ne (tgt := 127) C dX10_worked_78 (by decide) h (fun h => ?_) (fun h => ?_)
            · refine h_iinc C hl dX10_worked_127 3 rfl ci_m1 h (by decide) (lvf := fun v2 => [(3, .int v2), (5, .int v1), (0, .ref (ad 0)), (2, .int x2), (4, .int x4)]) (fun _ => rfl) (fun v2 ls h hl => ?_)
              refine lv_aload_n hx hb dX10_worked_130 rfl (lv_at hl 2 rfl) ?_
              refine fr_1083 C hI shM_0 rfl dX10_worked_131 ?_
              refine lv_iload_n hx hb dX10_worked_134 rfl (lv_at hl 0 rfl) ?_
              refine lv_iconst hx hb dX10_worked_135 ci_1 ?_
              refine lv_isub hx hb dX10_worked_136 ?_
              refine lv_iload hx hb dX10_worked_137 (lv_at hl 1 rfl) ?_
              refine lv_aload_n hx hb dX10_worked_139 rfl (lv_at hl 2 rfl) ?_
              refine fr_1083 C hI shM_0 rfl dX10_worked_140 ?_
              refine lv_iload_n hx hb dX10_worked_143 rfl (lv_at hl 0 rfl) ?_
              refine lv_iconst hx hb dX10_worked_144 ci_1 ?_
              refine lv_isub hx hb dX10_worked_145 ?_
              refine gx_iald C hI shM_15 h dX10_worked_146 (fun h => ?_)
              refine lv_aload_n hx hb dX10_worked_147 rfl (lv_at hl 2 rfl) ?_
              refine fr_1083 C hI shM_0 rfl dX10_worked_148 ?_
              refine lv_iload_n hx hb dX10_worked_151 rfl (lv_at hl 0 rfl) ?_
              refine gx_iald C hI shM_15 h dX10_worked_152 (fun h => ?_)
              refine h_callsi_o (rest := [.int (v2 - 1), .ref (ad 15)]) C hI hl.1 ys_X10_both k_1416 h (fun q hq => c_X10_both l D t ad z C.2.2.2.2.2.2.1 (σ) v1 (σ.1 15 ((v2 - 1)).toNatClampNeg) (σ.1 15 (v2).toNatClampNeg) q hq) (As := [.int v1, .int (σ.1 15 ((v2 - 1)).toNatClampNeg), .int (σ.1 15 (v2).toNatClampNeg)]) rfl rfl ⟨Nat.le_of_ble_eq_true rfl, Nat.le_of_ble_eq_true rfl⟩ (Nat.le_of_ble_eq_true rfl) dX10_worked_153 (fun q3 H locs h hI => ?_)
              refine gx_iast C hI shM_15 h dX10_worked_156 (fun H locs h hI => ?_)
              refine gx_st h hI (fun s4 h hI => ?_)
              refine h_iinc C hl dX10_worked_157 4 rfl ci_1 h (by decide) (lvf := fun v5 => [(4, .int v5), (3, .int v2), (5, .int v1), (0, .ref (ad 0)), (2, .int x2)]) (fun _ => rfl) (fun v5 ls h hl => ?_)
              refine lv_goto (tgt := 5) hx hb dX10_worked_160 (by decide) ?_
              exact ih _ _ _ _ _ _ _  h hI (lv_sub hl [3, 4, 1, 0] rfl)
            · exact w_X10_worked_81 C hr   _ ih _ _ _ _ _ _ _ _  h hI (lv_sub hl [1, 2, 3, 4, 0] rfl)
        · exact w_X10_worked_33 C hr   _ ih _ _ _ _ _ _ _ _  h hI (lv_sub hl [1, 2, 3, 4, 0] rfl)
set_option maxRecDepth 100000 in
set_option maxHeartbeats 4000000 in
theorem c_X10_worked (l : Launch) (D : va_G) (t : gT) (ad z : Nat → Nat) (hJ : gJ shM ad) (σ : gS) (x1 : Int32) (x2 : Int32) (q : Int32 × gS) (h : f_X10_worked σ x1 x2 = some q) : Met l yX10_worked (Cond.code yX10_worked cX10_worked 6 (some .int) :: lw_tb) (gR 2 82) (gPc shM t ad D z [.ref (ad 0), .int x1, .int x2] σ) (gQi shM t ad D q.1 q.2) 0 0 (gA shM ad) := by
  refine gMet "NineKeysRoundModel" rfl (by decide) hJ (Nat.le_of_ble_eq_true rfl) ?_
  intro p e s m below meth c ls C hr hI hl
  have hx := C.1
  have hb := C.2.1
  have hl : lv_has ls 6 [(0, .ref (ad 0)), (1, .int x1), (2, .int x2)] := hl
  unfold f_X10_worked at h
  refine lv_iconst hx hb dX10_worked_0 ci_0 ?_
  refine lv_istore_n (lv' := [(3, .int 0), (0, .ref (ad 0)), (1, .int x1), (2, .int x2)]) hx hb dX10_worked_1 rfl hl (by decide) rfl (fun ls hl => ?_)
  refine lv_iload_n hx hb dX10_worked_2 rfl (lv_at hl 2 rfl) ?_
  refine lv_istore (lv' := [(4, .int x1), (3, .int 0), (0, .ref (ad 0)), (1, .int x1), (2, .int x2)]) hx hb dX10_worked_3 hl (by decide) rfl (fun ls hl => ?_)
  exact w_X10_worked_5 C hr    _ _ _ _ _ _ _ _  h hI (lv_sub hl [2, 4, 1, 0] rfl)
set_option maxRecDepth 100000 in
set_option maxHeartbeats 4000000 in
theorem w_X10_loss_132 {p : Program} {l : Launch} {e : Env} {s : State} {m : MethodId} {args : Array Value} {below : List Frame} {meth : Method} {c : Code} {D : va_G} {t : gT} {ad z : Nat → Nat} (C : gC p s m args meth c cX10_loss 5 "NineKeysRoundModel" D t shM ad z) (hr : meth.sig.returnType = some .int) {r : Int32 × gS} : ∀ (x4 : Int32) (σ : gS) (H : Heap) (locs : List Loc) (ls : Array Slot), f_X10_loss_132 x4 σ = some r → gI shM t ad D s.heap σ H locs → lv_has ls 5 [(0, .ref (ad 0)), (4, .int x4)] → W p l e (gR 3 107) s m args below meth c H locs 0 0 (MQ below (gQi shM t ad D r.1 r.2) args s 0 0 (gA shM ad)) (F0 m 132 ls []) := by
  have hx := C.1
  have hb := C.2.1
  intro x4 σ H locs ls  h hI hl
  unfold f_X10_loss_132 at h
  refine lv_iconst hx hb dX10_loss_132 ci_0 ?_
  refine lv_bipush hx hb dX10_loss_133 cb_99 ?_
  refine lv_aload_n hx hb dX10_loss_135 rfl (lv_at hl 0 rfl) ?_
  refine lv_aload_n hx hb dX10_loss_136 rfl (lv_at hl 0 rfl) ?_
  refine fr_1072 C hI shM_0 rfl dX10_loss_137 ?_
  refine lv_iload hx hb dX10_loss_140 (lv_at hl 1 rfl) ?_
  refine gx_iald C hI shM_8 h dX10_loss_142 (fun h => ?_)
  refine lv_aload_n hx hb dX10_loss_143 rfl (lv_at hl 0 rfl) ?_
  refine fr_1073 C hI shM_0 rfl dX10_loss_144 ?_
  refine lv_iload hx hb dX10_loss_147 (lv_at hl 1 rfl) ?_
  refine gx_iald C hI shM_9 h dX10_loss_149 (fun h => ?_)
  refine h_callvi_w (rest := [.int 99, .int 0]) C hI hl.1 shM_0 rfl yv_X10_worked k_1412 h (fun q hq => c_X10_worked l D t ad z C.2.2.2.2.2.2.1 (σ) (σ.1 8 (x4).toNatClampNeg) (σ.1 9 (x4).toNatClampNeg) q hq) (As := [.int (σ.1 8 (x4).toNatClampNeg), .int (σ.1 9 (x4).toNatClampNeg)]) rfl rfl ⟨Nat.le_of_ble_eq_true rfl, Nat.le_of_ble_eq_true rfl⟩ (Nat.le_of_ble_eq_true rfl) dX10_loss_150 (fun q1 H locs h hI => ?_)
  refine h_mmin C hl.1 k_1411 ⟨Nat.le_of_ble_eq_true rfl, Nat.le_of_ble_eq_true rfl⟩ ⟨Nat.zero_le _, Nat.zero_le _⟩ dX10_loss_153 ?_
  refine h_mmax C hl.1 k_1402 ⟨Nat.le_of_ble_eq_true rfl, Nat.le_of_ble_eq_true rfl⟩ ⟨Nat.zero_le _, Nat.zero_le _⟩ dX10_loss_156 ?_
  exact h_iret_w C hr hI h dX10_loss_159
set_option maxRecDepth 100000 in
set_option maxHeartbeats 4000000 in
theorem w_X10_loss_82 {p : Program} {l : Launch} {e : Env} {s : State} {m : MethodId} {args : Array Value} {below : List Frame} {meth : Method} {c : Code} {D : va_G} {t : gT} {ad z : Nat → Nat} (C : gC p s m args meth c cX10_loss 5 "NineKeysRoundModel" D t shM ad z) (hr : meth.sig.returnType = some .int) {r : Int32 × gS} : ∀ (n : Nat) (x4 : Int32) (σ : gS) (H : Heap) (locs : List Loc) (ls : Array Slot), f_X10_loss_82 n x4 σ = some r → gI shM t ad D s.heap σ H locs → lv_has ls 5 [(0, .ref (ad 0)), (4, .int x4)] → W p l e (gR 3 107) s m args below meth c H locs 0 0 (MQ below (gQi shM t ad D r.1 r.2) args s 0 0 (gA shM ad)) (F0 m 82 ls []) := by
  have hx := C.1
  have hb := C.2.1
  intro n
  induction n with
  | zero =>
    intro x4 σ H locs ls  h
    exact absurd h (by simp [f_X10_loss_82])
  | succ n ih =>
    intro x4 σ H locs ls  h hI hl
    unfold f_X10_loss_82 at h
    refine lv_iload hx hb dX10_loss_82 (lv_at hl 1 rfl) ?_
    refine lv_aload_n hx hb dX10_loss_84 rfl (lv_at hl 0 rfl) ?_
    refine fg_1070 C hI shM_0 rfl dX10_loss_85 ?_
    refine hicmp_ge (tgt := 166) C dX10_loss_88 (by decide) h (fun h => ?_) (fun h => ?_)
    · refine lv_iconst hx hb dX10_loss_166 ci_0 ?_
      exact h_iret_w C hr hI h dX10_loss_167
    · refine lv_aload_n hx hb dX10_loss_91 rfl (lv_at hl 0 rfl) ?_
      refine fr_1072 C hI shM_0 rfl dX10_loss_92 ?_
      refine lv_iload hx hb dX10_loss_95 (lv_at hl 1 rfl) ?_
      refine gx_iald C hI shM_8 h dX10_loss_97 (fun h => ?_)
      refine lv_aload_n hx hb dX10_loss_98 rfl (lv_at hl 0 rfl) ?_
      refine fr_1071 C hI shM_0 rfl dX10_loss_99 ?_
      refine lv_iload hx hb dX10_loss_102 (lv_at hl 1 rfl) ?_
      refine gx_iald C hI shM_7 h dX10_loss_104 (fun h => ?_)
      refine hicmp_le (tgt := 132) C dX10_loss_105 (by decide) h (fun h => ?_) (fun h => ?_)
      · exact w_X10_loss_132 C hr    _ _ _ _ _  h hI (lv_sub hl [0, 1] rfl)
      · refine lv_aload_n hx hb dX10_loss_108 rfl (lv_at hl 0 rfl) ?_
        refine lv_aload_n hx hb dX10_loss_109 rfl (lv_at hl 0 rfl) ?_
        refine fr_1071 C hI shM_0 rfl dX10_loss_110 ?_
        refine lv_iload hx hb dX10_loss_113 (lv_at hl 1 rfl) ?_
        refine gx_iald C hI shM_7 h dX10_loss_115 (fun h => ?_)
        refine lv_aload_n hx hb dX10_loss_116 rfl (lv_at hl 0 rfl) ?_
        refine fr_1072 C hI shM_0 rfl dX10_loss_117 ?_
        refine lv_iload hx hb dX10_loss_120 (lv_at hl 1 rfl) ?_
        refine gx_iald C hI shM_8 h dX10_loss_122 (fun h => ?_)
        refine h_callvi_w (rest := []) C hI hl.1 shM_0 rfl yv_X10_worked k_1412 h (fun q hq => c_X10_worked l D t ad z C.2.2.2.2.2.2.1 (σ) (σ.1 7 (x4).toNatClampNeg) (σ.1 8 (x4).toNatClampNeg) q hq) (As := [.int (σ.1 7 (x4).toNatClampNeg), .int (σ.1 8 (x4).toNatClampNeg)]) rfl rfl ⟨Nat.le_of_ble_eq_true rfl, Nat.le_of_ble_eq_true rfl⟩ (Nat.le_of_ble_eq_true rfl) dX10_loss_123 (fun q1 H locs h hI => ?_)
        refine hif_ne (tgt := 132) C dX10_loss_126 (by decide) h (fun h => ?_) (fun h => ?_)
        · exact w_X10_loss_132 C hr    _ _ _ _ _  h hI (lv_sub hl [0, 1] rfl)
        · refine lv_goto (tgt := 160) hx hb dX10_loss_129 (by decide) ?_
          refine h_iinc C hl dX10_loss_160 1 rfl ci_1 h (by decide) (lvf := fun v2 => [(4, .int v2), (0, .ref (ad 0))]) (fun _ => rfl) (fun v2 ls h hl => ?_)
          refine lv_goto (tgt := 82) hx hb dX10_loss_163 (by decide) ?_
          exact ih _ _ _ _ _  h hI (lv_sub hl [1, 0] rfl)
set_option maxRecDepth 100000 in
set_option maxHeartbeats 4000000 in
theorem c_X10_loss (l : Launch) (D : va_G) (t : gT) (ad z : Nat → Nat) (hJ : gJ shM ad) (σ : gS) (x1 : Int32) (x2 : Int32) (x3 : Int32) (q : Int32 × gS) (h : f_X10_loss σ x1 x2 x3 = some q) : Met l yX10_loss (Cond.code yX10_loss cX10_loss 5 (some .int) :: lw_tb) (gR 3 107) (gPc shM t ad D z [.ref (ad 0), .int x1, .int x2, .int x3] σ) (gQi shM t ad D q.1 q.2) 0 0 (gA shM ad) := by
  refine gMet "NineKeysRoundModel" rfl (by decide) hJ (Nat.le_of_ble_eq_true rfl) ?_
  intro p e s m below meth c ls C hr hI hl
  have hx := C.1
  have hb := C.2.1
  have hl : lv_has ls 5 [(0, .ref (ad 0)), (1, .int x1), (2, .int x2), (3, .int x3)] := hl
  unfold f_X10_loss at h
  refine lv_aload_n hx hb dX10_loss_0 rfl (lv_at hl 0 rfl) ?_
  refine fg_1069 C hI shM_0 rfl dX10_loss_1 ?_
  refine hif_ne (tgt := 24) C dX10_loss_4 (by decide) h (fun h => ?_) (fun h => ?_)
  · refine lv_aload_n hx hb dX10_loss_24 rfl (lv_at hl 0 rfl) ?_
    refine fr_1084 C hI shM_0 rfl dX10_loss_25 ?_
    refine lv_iconst hx hb dX10_loss_28 ci_0 ?_
    refine lv_aload_n hx hb dX10_loss_29 rfl (lv_at hl 0 rfl) ?_
    refine fr_1064 C hI shM_0 rfl dX10_loss_30 ?_
    refine lv_iload_n hx hb dX10_loss_33 rfl (lv_at hl 1 rfl) ?_
    refine gx_iald C hI shM_3 h dX10_loss_34 (fun h => ?_)
    refine gx_iast C hI shM_16 h dX10_loss_35 (fun H locs h hI => ?_)
    refine gx_st h hI (fun s1 h hI => ?_)
    refine lv_aload_n hx hb dX10_loss_36 rfl (lv_at hl 0 rfl) ?_
    refine fr_1084 C hI shM_0 rfl dX10_loss_37 ?_
    refine lv_iconst hx hb dX10_loss_40 ci_1 ?_
    refine lv_iload_n hx hb dX10_loss_41 rfl (lv_at hl 2 rfl) ?_
    refine gx_iast C hI shM_16 h dX10_loss_42 (fun H locs h hI => ?_)
    refine gx_st h hI (fun s2 h hI => ?_)
    refine lv_aload_n hx hb dX10_loss_43 rfl (lv_at hl 0 rfl) ?_
    refine fr_1084 C hI shM_0 rfl dX10_loss_44 ?_
    refine lv_iconst hx hb dX10_loss_47 ci_2 ?_
    refine lv_iload_n hx hb dX10_loss_48 rfl (lv_at hl 3 rfl) ?_
    refine gx_iast C hI shM_16 h dX10_loss_49 (fun H locs h hI => ?_)
    refine gx_st h hI (fun s3 h hI => ?_)
    refine lv_aload_n hx hb dX10_loss_50 rfl (lv_at hl 0 rfl) ?_
    refine fr_1084 C hI shM_0 rfl dX10_loss_51 ?_
    refine lv_iconst hx hb dX10_loss_54 ci_3 ?_
    refine lv_aload_n hx hb dX10_loss_55 rfl (lv_at hl 0 rfl) ?_
    refine fr_1065 C hI shM_0 rfl dX10_loss_56 ?_
    refine lv_iload_n hx hb dX10_loss_59 rfl (lv_at hl 1 rfl) ?_
    refine gx_iald C hI shM_4 h dX10_loss_60 (fun h => ?_)
    refine gx_iast C hI shM_16 h dX10_loss_61 (fun H locs h hI => ?_)
    refine gx_st h hI (fun s4 h hI => ?_)
    refine lv_aload_n hx hb dX10_loss_62 rfl (lv_at hl 0 rfl) ?_
    refine fr_1084 C hI shM_0 rfl dX10_loss_63 ?_
    refine lv_iconst hx hb dX10_loss_66 ci_4 ?_
    refine lv_iload_n hx hb dX10_loss_67 rfl (lv_at hl 1 rfl) ?_
    refine gx_iast C hI shM_16 h dX10_loss_68 (fun H locs h hI => ?_)
    refine gx_st h hI (fun s5 h hI => ?_)
    refine lv_aload_n hx hb dX10_loss_69 rfl (lv_at hl 0 rfl) ?_
    refine fr_1084 C hI shM_0 rfl dX10_loss_70 ?_
    refine lv_iconst hx hb dX10_loss_73 ci_5 ?_
    refine lv_aload_n hx hb dX10_loss_74 rfl (lv_at hl 0 rfl) ?_
    refine fg_1105 C hI shM_0 rfl dX10_loss_75 ?_
    refine gx_iast C hI shM_16 h dX10_loss_78 (fun H locs h hI => ?_)
    refine gx_st h hI (fun s6 h hI => ?_)
    refine lv_iconst hx hb dX10_loss_79 ci_0 ?_
    refine lv_istore (lv' := [(4, .int 0), (0, .ref (ad 0)), (1, .int x1), (2, .int x2), (3, .int x3)]) hx hb dX10_loss_80 hl (by decide) rfl (fun ls hl => ?_)
    exact w_X10_loss_82 C hr    _ _ _ _ _ _  h hI (lv_sub hl [1, 0] rfl)
  · refine lv_bipush hx hb dX10_loss_7 cb_99 ?_
    refine lv_aload_n hx hb dX10_loss_9 rfl (lv_at hl 0 rfl) ?_
    refine fr_1064 C hI shM_0 rfl dX10_loss_10 ?_
    refine lv_iload_n hx hb dX10_loss_13 rfl (lv_at hl 1 rfl) ?_
    refine gx_iald C hI shM_3 h dX10_loss_14 (fun h => ?_)
    refine lv_iload_n hx hb dX10_loss_15 rfl (lv_at hl 2 rfl) ?_
    refine lv_imul hx hb dX10_loss_16 ?_
    refine lv_bipush hx hb dX10_loss_17 cb_10 ?_
    refine h_idiv C dX10_loss_19 h (fun h => ?_)
    refine h_mmin C hl.1 k_1411 ⟨Nat.le_of_ble_eq_true rfl, Nat.le_of_ble_eq_true rfl⟩ ⟨Nat.zero_le _, Nat.zero_le _⟩ dX10_loss_20 ?_
    exact h_iret_w C hr hI h dX10_loss_23
set_option maxRecDepth 100000 in
set_option maxHeartbeats 4000000 in
theorem c_X10_xOf (l : Launch) (D : va_G) (t : gT) (ad z : Nat → Nat) (hJ : gJ shM ad) (σ : gS) (x1 : Int32) (q : Int32) (h : f_X10_xOf σ x1 = some q) : Met l yX10_xOf (Cond.code yX10_xOf cX10_xOf 2 (some .int) :: lw_tb) (gR 1 60) (gPc shM t ad D z [.ref (ad 0), .int x1] σ) (gQi shM t ad D q σ) 0 0 (gA shM ad) := by
  refine gMet "NineKeysRoundModel" rfl (by decide) hJ (Nat.le_of_ble_eq_true rfl) ?_
  intro p e s m below meth c ls C hr hI hl
  have hx := C.1
  have hb := C.2.1
  have hl : lv_has ls 2 [(0, .ref (ad 0)), (1, .int x1)] := hl
  unfold f_X10_xOf at h
  refine lv_iload_n hx hb dX10_xOf_0 rfl (lv_at hl 1 rfl) ?_
  refine lv_iconst hx hb dX10_xOf_1 ci_m1 ?_
  refine hicmp_ne (tgt := 14) C dX10_xOf_2 (by decide) h (fun h => ?_) (fun h => ?_)
  · refine lv_aload_n hx hb dX10_xOf_14 rfl (lv_at hl 0 rfl) ?_
    refine fr_1062 C hI shM_0 rfl dX10_xOf_15 ?_
    refine lv_iload_n hx hb dX10_xOf_18 rfl (lv_at hl 1 rfl) ?_
    refine gx_iald C hI shM_1 h dX10_xOf_19 (fun h => ?_)
    exact h_iret_o C hr hI h dX10_xOf_20
  · refine lv_aload_n hx hb dX10_xOf_5 rfl (lv_at hl 0 rfl) ?_
    refine fr_1066 C hI shM_0 rfl dX10_xOf_6 ?_
    refine lv_iconst hx hb dX10_xOf_9 ci_0 ?_
    refine gx_iald C hI shM_5 h dX10_xOf_10 (fun h => ?_)
    refine lv_goto (tgt := 20) hx hb dX10_xOf_11 (by decide) ?_
    exact h_iret_o C hr hI h dX10_xOf_20
set_option maxRecDepth 100000 in
set_option maxHeartbeats 4000000 in
theorem c_X10_yOf (l : Launch) (D : va_G) (t : gT) (ad z : Nat → Nat) (hJ : gJ shM ad) (σ : gS) (x1 : Int32) (q : Int32) (h : f_X10_yOf σ x1 = some q) : Met l yX10_yOf (Cond.code yX10_yOf cX10_yOf 2 (some .int) :: lw_tb) (gR 1 60) (gPc shM t ad D z [.ref (ad 0), .int x1] σ) (gQi shM t ad D q σ) 0 0 (gA shM ad) := by
  refine gMet "NineKeysRoundModel" rfl (by decide) hJ (Nat.le_of_ble_eq_true rfl) ?_
  intro p e s m below meth c ls C hr hI hl
  have hx := C.1
  have hb := C.2.1
  have hl : lv_has ls 2 [(0, .ref (ad 0)), (1, .int x1)] := hl
  unfold f_X10_yOf at h
  refine lv_iload_n hx hb dX10_yOf_0 rfl (lv_at hl 1 rfl) ?_
  refine lv_iconst hx hb dX10_yOf_1 ci_m1 ?_
  refine hicmp_ne (tgt := 14) C dX10_yOf_2 (by decide) h (fun h => ?_) (fun h => ?_)
  · refine lv_aload_n hx hb dX10_yOf_14 rfl (lv_at hl 0 rfl) ?_
    refine fr_1063 C hI shM_0 rfl dX10_yOf_15 ?_
    refine lv_iload_n hx hb dX10_yOf_18 rfl (lv_at hl 1 rfl) ?_
    refine gx_iald C hI shM_2 h dX10_yOf_19 (fun h => ?_)
    exact h_iret_o C hr hI h dX10_yOf_20
  · refine lv_aload_n hx hb dX10_yOf_5 rfl (lv_at hl 0 rfl) ?_
    refine fr_1066 C hI shM_0 rfl dX10_yOf_6 ?_
    refine lv_iconst hx hb dX10_yOf_9 ci_1 ?_
    refine gx_iald C hI shM_5 h dX10_yOf_10 (fun h => ?_)
    refine lv_goto (tgt := 20) hx hb dX10_yOf_11 (by decide) ?_
    exact h_iret_o C hr hI h dX10_yOf_20
set_option maxRecDepth 100000 in
set_option maxHeartbeats 4000000 in
theorem c_X10_apart (l : Launch) (D : va_G) (t : gT) (ad z : Nat → Nat) (hJ : gJ shM ad) (σ : gS) (x1 : Int32) (x2 : Int32) (q : Int32) (h : f_X10_apart σ x1 x2 = some q) : Met l yX10_apart (Cond.code yX10_apart cX10_apart 3 (some .int) :: lw_tb) (gR 2 81) (gPc shM t ad D z [.ref (ad 0), .int x1, .int x2] σ) (gQi shM t ad D q σ) 0 0 (gA shM ad) := by
  refine gMet "NineKeysRoundModel" rfl (by decide) hJ (Nat.le_of_ble_eq_true rfl) ?_
  intro p e s m below meth c ls C hr hI hl
  have hx := C.1
  have hb := C.2.1
  have hl : lv_has ls 3 [(0, .ref (ad 0)), (1, .int x1), (2, .int x2)] := hl
  unfold f_X10_apart at h
  refine lv_aload_n hx hb dX10_apart_0 rfl (lv_at hl 0 rfl) ?_
  refine lv_iload_n hx hb dX10_apart_1 rfl (lv_at hl 1 rfl) ?_
  refine h_callvi_o (rest := []) C hI hl.1 shM_0 rfl yv_X10_xOf k_1362 h (fun q hq => c_X10_xOf l D t ad z C.2.2.2.2.2.2.1 (σ) x1 q hq) (As := [.int x1]) rfl rfl ⟨Nat.le_of_ble_eq_true rfl, Nat.le_of_ble_eq_true rfl⟩ (Nat.le_of_ble_eq_true rfl) dX10_apart_2 (fun q1 H locs h hI => ?_)
  refine lv_aload_n hx hb dX10_apart_5 rfl (lv_at hl 0 rfl) ?_
  refine lv_iload_n hx hb dX10_apart_6 rfl (lv_at hl 2 rfl) ?_
  refine h_callvi_o (rest := [.int q1]) C hI hl.1 shM_0 rfl yv_X10_xOf k_1362 h (fun q hq => c_X10_xOf l D t ad z C.2.2.2.2.2.2.1 (σ) x2 q hq) (As := [.int x2]) rfl rfl ⟨Nat.le_of_ble_eq_true rfl, Nat.le_of_ble_eq_true rfl⟩ (Nat.le_of_ble_eq_true rfl) dX10_apart_7 (fun q2 H locs h hI => ?_)
  refine lv_isub hx hb dX10_apart_10 ?_
  refine h_mabs C hl.1 k_1366 ⟨Nat.le_of_ble_eq_true rfl, Nat.le_of_ble_eq_true rfl⟩ ⟨Nat.zero_le _, Nat.zero_le _⟩ dX10_apart_11 ?_
  refine lv_aload_n hx hb dX10_apart_14 rfl (lv_at hl 0 rfl) ?_
  refine lv_iload_n hx hb dX10_apart_15 rfl (lv_at hl 1 rfl) ?_
  refine h_callvi_o (rest := [.int (jabs (q1 - q2))]) C hI hl.1 shM_0 rfl yv_X10_yOf k_1367 h (fun q hq => c_X10_yOf l D t ad z C.2.2.2.2.2.2.1 (σ) x1 q hq) (As := [.int x1]) rfl rfl ⟨Nat.le_of_ble_eq_true rfl, Nat.le_of_ble_eq_true rfl⟩ (Nat.le_of_ble_eq_true rfl) dX10_apart_16 (fun q3 H locs h hI => ?_)
  refine lv_aload_n hx hb dX10_apart_19 rfl (lv_at hl 0 rfl) ?_
  refine lv_iload_n hx hb dX10_apart_20 rfl (lv_at hl 2 rfl) ?_
  refine h_callvi_o (rest := [.int q3, .int (jabs (q1 - q2))]) C hI hl.1 shM_0 rfl yv_X10_yOf k_1367 h (fun q hq => c_X10_yOf l D t ad z C.2.2.2.2.2.2.1 (σ) x2 q hq) (As := [.int x2]) rfl rfl ⟨Nat.le_of_ble_eq_true rfl, Nat.le_of_ble_eq_true rfl⟩ (Nat.le_of_ble_eq_true rfl) dX10_apart_21 (fun q4 H locs h hI => ?_)
  refine lv_isub hx hb dX10_apart_24 ?_
  refine h_mabs C hl.1 k_1366 ⟨Nat.le_of_ble_eq_true rfl, Nat.le_of_ble_eq_true rfl⟩ ⟨Nat.zero_le _, Nat.zero_le _⟩ dX10_apart_25 ?_
  refine lv_iadd hx hb dX10_apart_28 ?_
  exact h_iret_o C hr hI h dX10_apart_29
set_option maxRecDepth 100000 in
set_option maxHeartbeats 4000000 in
theorem c_X10_minutes (l : Launch) (D : va_G) (t : gT) (ad z : Nat → Nat) (hJ : gJ shM ad) (σ : gS) (x1 : Int32) (x2 : Int32) (q : Int32) (h : f_X10_minutes σ x1 x2 = some q) : Met l yX10_minutes (Cond.code yX10_minutes cX10_minutes 3 (some .int) :: lw_tb) (gR 3 103) (gPc shM t ad D z [.ref (ad 0), .int x1, .int x2] σ) (gQi shM t ad D q σ) 0 0 (gA shM ad) := by
  refine gMet "NineKeysRoundModel" rfl (by decide) hJ (Nat.le_of_ble_eq_true rfl) ?_
  intro p e s m below meth c ls C hr hI hl
  have hx := C.1
  have hb := C.2.1
  have hl : lv_has ls 3 [(0, .ref (ad 0)), (1, .int x1), (2, .int x2)] := hl
  unfold f_X10_minutes at h
  refine lv_aload_n hx hb dX10_minutes_0 rfl (lv_at hl 0 rfl) ?_
  refine lv_iload_n hx hb dX10_minutes_1 rfl (lv_at hl 1 rfl) ?_
  refine lv_iload_n hx hb dX10_minutes_2 rfl (lv_at hl 2 rfl) ?_
  refine h_callvi_o (rest := []) C hI hl.1 shM_0 rfl yv_X10_apart k_1358 h (fun q hq => c_X10_apart l D t ad z C.2.2.2.2.2.2.1 (σ) x1 x2 q hq) (As := [.int x1, .int x2]) rfl rfl ⟨Nat.le_of_ble_eq_true rfl, Nat.le_of_ble_eq_true rfl⟩ (Nat.le_of_ble_eq_true rfl) dX10_minutes_3 (fun q1 H locs h hI => ?_)
  refine lv_aload_n hx hb dX10_minutes_6 rfl (lv_at hl 0 rfl) ?_
  refine fr_1066 C hI shM_0 rfl dX10_minutes_7 ?_
  refine lv_iconst hx hb dX10_minutes_10 ci_2 ?_
  refine gx_iald C hI shM_5 h dX10_minutes_11 (fun h => ?_)
  refine lv_imul hx hb dX10_minutes_12 ?_
  exact h_iret_o C hr hI h dX10_minutes_13
set_option maxRecDepth 100000 in
set_option maxHeartbeats 4000000 in
theorem c_X10_noRow (l : Launch) (D : va_G) (t : gT) (ad z : Nat → Nat) (hJ : gJ shM ad) (σ : gS) (x1 : Int32) (x2 : Int32) (q : Int32) (h : f_X10_noRow σ x1 x2 = some q) : Met l yX10_noRow (Cond.code yX10_noRow cX10_noRow 3 (some .int) :: lw_tb) (gR 1 60) (gPc shM t ad D z [.ref (ad 0), .int x1, .int x2] σ) (gQi shM t ad D q σ) 0 0 (gA shM ad) := by
  refine gMet "NineKeysRoundModel" rfl (by decide) hJ (Nat.le_of_ble_eq_true rfl) ?_
  intro p e s m below meth c ls C hr hI hl
  have hx := C.1
  have hb := C.2.1
  have hl : lv_has ls 3 [(0, .ref (ad 0)), (1, .int x1), (2, .int x2)] := hl
  unfold f_X10_noRow at h
  refine lv_aload_n hx hb dX10_noRow_0 rfl (lv_at hl 0 rfl) ?_
  refine fr_1102 C hI shM_0 rfl dX10_noRow_1 ?_
  refine lv_iload_n hx hb dX10_noRow_4 rfl (lv_at hl 1 rfl) ?_
  refine gx_iald C hI shM_24 h dX10_noRow_5 (fun h => ?_)
  refine lv_iconst hx hb dX10_noRow_6 ci_m1 ?_
  refine hicmp_ne (tgt := 15) C dX10_noRow_7 (by decide) h (fun h => ?_) (fun h => ?_)
  · refine lv_aload_n hx hb dX10_noRow_15 rfl (lv_at hl 0 rfl) ?_
    refine fr_1102 C hI shM_0 rfl dX10_noRow_16 ?_
    refine lv_iload_n hx hb dX10_noRow_19 rfl (lv_at hl 1 rfl) ?_
    refine gx_iald C hI shM_24 h dX10_noRow_20 (fun h => ?_)
    refine lv_iload_n hx hb dX10_noRow_21 rfl (lv_at hl 2 rfl) ?_
    refine hicmp_eq (tgt := 30) C dX10_noRow_22 (by decide) h (fun h => ?_) (fun h => ?_)
    · refine lv_iconst hx hb dX10_noRow_30 ci_0 ?_
      exact h_iret_o C hr hI h dX10_noRow_31
    · refine lv_bipush hx hb dX10_noRow_25 cb_m12 ?_
      refine lv_goto (tgt := 31) hx hb dX10_noRow_27 (by decide) ?_
      exact h_iret_o C hr hI h dX10_noRow_31
  · refine lv_bipush hx hb dX10_noRow_10 cb_m11 ?_
    refine lv_goto (tgt := 31) hx hb dX10_noRow_12 (by decide) ?_
    exact h_iret_o C hr hI h dX10_noRow_31
set_option maxRecDepth 100000 in
set_option maxHeartbeats 4000000 in
theorem c_X10_toldAt (l : Launch) (D : va_G) (t : gT) (ad z : Nat → Nat) (hJ : gJ shM ad) (σ : gS) (x1 : Int32) (x2 : Int32) (q : Int32) (h : f_X10_toldAt σ x1 x2 = some q) : Met l yX10_toldAt (Cond.code yX10_toldAt cX10_toldAt 3 (some .int) :: lw_tb) (gR 1 60) (gPc shM t ad D z [.ref (ad 0), .int x1, .int x2] σ) (gQi shM t ad D q σ) 0 0 (gA shM ad) := by
  refine gMet "NineKeysRoundModel" rfl (by decide) hJ (Nat.le_of_ble_eq_true rfl) ?_
  intro p e s m below meth c ls C hr hI hl
  have hx := C.1
  have hb := C.2.1
  have hl : lv_has ls 3 [(0, .ref (ad 0)), (1, .int x1), (2, .int x2)] := hl
  unfold f_X10_toldAt at h
  refine lv_aload_n hx hb dX10_toldAt_0 rfl (lv_at hl 0 rfl) ?_
  refine fr_1104 C hI shM_0 rfl dX10_toldAt_1 ?_
  refine lv_bipush hx hb dX10_toldAt_4 cb_60 ?_
  refine lv_iload_n hx hb dX10_toldAt_6 rfl (lv_at hl 1 rfl) ?_
  refine lv_imul hx hb dX10_toldAt_7 ?_
  refine lv_iload_n hx hb dX10_toldAt_8 rfl (lv_at hl 2 rfl) ?_
  refine lv_iadd hx hb dX10_toldAt_9 ?_
  refine gx_lald C hI shM_26 h dX10_toldAt_10 (fun h => ?_)
  refine lv_l2i (v := (((σ.2 26 (((60 * x1) + x2)).toNatClampNeg) : Int64).toInt32)) hx hb dX10_toldAt_11 rfl ?_
  exact h_iret_o C hr hI h dX10_toldAt_12
set_option maxRecDepth 100000 in
set_option maxHeartbeats 4000000 in
theorem w_X10_reads_5 {p : Program} {l : Launch} {e : Env} {s : State} {m : MethodId} {args : Array Value} {below : List Frame} {meth : Method} {c : Code} {D : va_G} {t : gT} {ad z : Nat → Nat} (C : gC p s m args meth c cX10_reads 2 "NineKeysRoundModel" D t shM ad z) (hr : meth.sig.returnType = none) {r : gS} : ∀ (n : Nat) (x1 : Int32) (σ : gS) (H : Heap) (locs : List Loc) (ls : Array Slot), f_X10_reads_5 n x1 σ = some r → gI shM t ad D s.heap σ H locs → lv_has ls 2 [(0, .ref (ad 0)), (1, .int x1)] → W p l e (gR 2 82) s m args below meth c H locs 0 0 (MQ below (gQv shM t ad D r) args s 0 0 (gA shM ad)) (F0 m 5 ls []) := by
  have hx := C.1
  have hb := C.2.1
  intro n
  induction n with
  | zero =>
    intro x1 σ H locs ls  h
    exact absurd h (by simp [f_X10_reads_5])
  | succ n ih =>
    intro x1 σ H locs ls  h hI hl
    unfold f_X10_reads_5 at h
    refine lv_aload_n hx hb dX10_reads_5 rfl (lv_at hl 0 rfl) ?_
    refine fg_1105 C hI shM_0 rfl dX10_reads_6 ?_
    refine lv_bipush hx hb dX10_reads_9 cb_20 ?_
    refine hicmp_ge (tgt := 79) C dX10_reads_11 (by decide) h (fun h => ?_) (fun h => ?_)
    · exact h_vret_w C hr hI h dX10_reads_79
    · refine lv_aload_n hx hb dX10_reads_14 rfl (lv_at hl 0 rfl) ?_
      refine fg_1105 C hI shM_0 rfl dX10_reads_15 ?_
      refine lv_aload_n hx hb dX10_reads_18 rfl (lv_at hl 0 rfl) ?_
      refine fr_1103 C hI shM_0 rfl dX10_reads_19 ?_
      refine lv_iload_n hx hb dX10_reads_22 rfl (lv_at hl 1 rfl) ?_
      refine gx_iald C hI shM_25 h dX10_reads_23 (fun h => ?_)
      refine hicmp_ge (tgt := 79) C dX10_reads_24 (by decide) h (fun h => ?_) (fun h => ?_)
      · exact h_vret_w C hr hI h dX10_reads_79
      · refine lv_aload_n hx hb dX10_reads_27 rfl (lv_at hl 0 rfl) ?_
        refine lv_aload_n hx hb dX10_reads_28 rfl (lv_at hl 0 rfl) ?_
        refine fr_1104 C hI shM_0 rfl dX10_reads_29 ?_
        refine lv_bipush hx hb dX10_reads_32 cb_60 ?_
        refine lv_iload_n hx hb dX10_reads_34 rfl (lv_at hl 1 rfl) ?_
        refine lv_imul hx hb dX10_reads_35 ?_
        refine lv_aload_n hx hb dX10_reads_36 rfl (lv_at hl 0 rfl) ?_
        refine fg_1105 C hI shM_0 rfl dX10_reads_37 ?_
        refine lv_iadd hx hb dX10_reads_40 ?_
        refine gx_lald C hI shM_26 h dX10_reads_41 (fun h => ?_)
        refine h_callvi_o (rest := []) C hI hl.1 shM_0 rfl yv_X10_isPost k_1252 h (fun q hq => c_X10_isPost l D t ad z C.2.2.2.2.2.2.1 (σ) (σ.2 26 (((60 * x1) + (σ.1 0 44))).toNatClampNeg) q hq) (As := [.long (σ.2 26 (((60 * x1) + (σ.1 0 44))).toNatClampNeg)]) rfl rfl ⟨Nat.le_of_ble_eq_true rfl, Nat.le_of_ble_eq_true rfl⟩ (Nat.le_of_ble_eq_true rfl) dX10_reads_42 (fun q1 H locs h hI => ?_)
        refine hif_eq (tgt := 79) C dX10_reads_45 (by decide) h (fun h => ?_) (fun h => ?_)
        · exact h_vret_w C hr hI h dX10_reads_79
        · refine lv_aload_n hx hb dX10_reads_48 rfl (lv_at hl 0 rfl) ?_
          refine fr_1106 C hI shM_0 rfl dX10_reads_49 ?_
          refine lv_aload_n hx hb dX10_reads_52 rfl (lv_at hl 0 rfl) ?_
          refine fg_1105 C hI shM_0 rfl dX10_reads_53 ?_
          refine lv_aload_n hx hb dX10_reads_56 rfl (lv_at hl 0 rfl) ?_
          refine lv_iload_n hx hb dX10_reads_57 rfl (lv_at hl 1 rfl) ?_
          refine lv_aload_n hx hb dX10_reads_58 rfl (lv_at hl 0 rfl) ?_
          refine fg_1105 C hI shM_0 rfl dX10_reads_59 ?_
          refine h_callvi_o (rest := [.int (σ.1 0 44), .ref (ad 27)]) C hI hl.1 shM_0 rfl yv_X10_toldAt k_1346 h (fun q hq => c_X10_toldAt l D t ad z C.2.2.2.2.2.2.1 (σ) x1 (σ.1 0 44) q hq) (As := [.int x1, .int (σ.1 0 44)]) rfl rfl ⟨Nat.le_of_ble_eq_true rfl, Nat.le_of_ble_eq_true rfl⟩ (Nat.le_of_ble_eq_true rfl) dX10_reads_62 (fun q2 H locs h hI => ?_)
          refine gx_iast C hI shM_27 h dX10_reads_65 (fun H locs h hI => ?_)
          refine gx_st h hI (fun s3 h hI => ?_)
          refine lv_aload_n hx hb dX10_reads_66 rfl (lv_at hl 0 rfl) ?_
          refine lv_dup hx hb dX10_reads_67 rfl ?_
          refine fg_1105 C hI shM_0 rfl dX10_reads_68 ?_
          refine lv_iconst hx hb dX10_reads_71 ci_1 ?_
          refine lv_iadd hx hb dX10_reads_72 ?_
          refine fp_1105 C hI shM_0 rfl dX10_reads_73 (fun H locs hI => ?_)
          refine gx_st h hI (fun s4 h hI => ?_)
          refine lv_goto (tgt := 5) hx hb dX10_reads_76 (by decide) ?_
          exact ih _ _ _ _ _  h hI (lv_sub hl [0, 1] rfl)
set_option maxRecDepth 100000 in
set_option maxHeartbeats 4000000 in
theorem c_X10_reads (l : Launch) (D : va_G) (t : gT) (ad z : Nat → Nat) (hJ : gJ shM ad) (σ : gS) (x1 : Int32) (q : gS) (h : f_X10_reads σ x1 = some q) : Met l yX10_reads (Cond.code yX10_reads cX10_reads 2 (none) :: lw_tb) (gR 2 82) (gPc shM t ad D z [.ref (ad 0), .int x1] σ) (gQv shM t ad D q) 0 0 (gA shM ad) := by
  refine gMet "NineKeysRoundModel" rfl (by decide) hJ (Nat.le_of_ble_eq_true rfl) ?_
  intro p e s m below meth c ls C hr hI hl
  have hx := C.1
  have hb := C.2.1
  have hl : lv_has ls 2 [(0, .ref (ad 0)), (1, .int x1)] := hl
  unfold f_X10_reads at h
  refine lv_aload_n hx hb dX10_reads_0 rfl (lv_at hl 0 rfl) ?_
  refine lv_iconst hx hb dX10_reads_1 ci_0 ?_
  refine fp_1105 C hI shM_0 rfl dX10_reads_2 (fun H locs hI => ?_)
  refine gx_st h hI (fun s1 h hI => ?_)
  exact w_X10_reads_5 C hr    _ _ _ _ _ _  h hI (lv_sub hl [0, 1] rfl)
set_option maxRecDepth 100000 in
set_option maxHeartbeats 4000000 in
theorem w_X10_turns_9 {p : Program} {l : Launch} {e : Env} {s : State} {m : MethodId} {args : Array Value} {below : List Frame} {meth : Method} {c : Code} {D : va_G} {t : gT} {ad z : Nat → Nat} (C : gC p s m args meth c cX10_turns 4 "NineKeysRoundModel" D t shM ad z) (hr : meth.sig.returnType = none) {r : gS} : ∀ (n : Nat) (x1 : Int32) (x2 : Int32) (σ : gS) (H : Heap) (locs : List Loc) (ls : Array Slot), f_X10_turns_9 n x1 x2 σ = some r → gI shM t ad D s.heap σ H locs → lv_has ls 4 [(0, .ref (ad 0)), (1, .int x1), (2, .int x2)] → W p l e (gR 1 60) s m args below meth c H locs 0 0 (MQ below (gQv shM t ad D r) args s 0 0 (gA shM ad)) (F0 m 9 ls []) := by
  have hx := C.1
  have hb := C.2.1
  intro n
  induction n with
  | zero =>
    intro x1 x2 σ H locs ls  h
    exact absurd h (by simp [f_X10_turns_9])
  | succ n ih =>
    intro x1 x2 σ H locs ls  h hI hl
    unfold f_X10_turns_9 at h
    refine lv_iload_n hx hb dX10_turns_9 rfl (lv_at hl 1 rfl) ?_
    refine lv_iload_n hx hb dX10_turns_10 rfl (lv_at hl 2 rfl) ?_
    refine hicmp_ge (tgt := 49) C dX10_turns_11 (by decide) h (fun h => ?_) (fun h => ?_)
    · exact h_vret_w C hr hI h dX10_turns_49
    · refine lv_aload_n hx hb dX10_turns_14 rfl (lv_at hl 0 rfl) ?_
      refine fr_1106 C hI shM_0 rfl dX10_turns_15 ?_
      refine lv_iload_n hx hb dX10_turns_18 rfl (lv_at hl 1 rfl) ?_
      refine gx_iald C hI shM_27 h dX10_turns_19 (fun h => ?_)
      refine gx_topi h (fun v1 h => ?_)
      refine lv_istore_n (lv' := [(3, .int v1), (0, .ref (ad 0)), (1, .int x1), (2, .int x2)]) hx hb dX10_turns_20 rfl hl (by decide) rfl (fun ls hl => ?_)
      refine lv_aload_n hx hb dX10_turns_21 rfl (lv_at hl 1 rfl) ?_
      refine fr_1106 C hI shM_0 rfl dX10_turns_22 ?_
      refine lv_iload_n hx hb dX10_turns_25 rfl (lv_at hl 2 rfl) ?_
      refine lv_aload_n hx hb dX10_turns_26 rfl (lv_at hl 1 rfl) ?_
      refine fr_1106 C hI shM_0 rfl dX10_turns_27 ?_
      refine lv_iload_n hx hb dX10_turns_30 rfl (lv_at hl 3 rfl) ?_
      refine gx_iald C hI shM_27 h dX10_turns_31 (fun h => ?_)
      refine gx_iast C hI shM_27 h dX10_turns_32 (fun H locs h hI => ?_)
      refine gx_st h hI (fun s2 h hI => ?_)
      refine lv_aload_n hx hb dX10_turns_33 rfl (lv_at hl 1 rfl) ?_
      refine fr_1106 C hI shM_0 rfl dX10_turns_34 ?_
      refine lv_iload_n hx hb dX10_turns_37 rfl (lv_at hl 3 rfl) ?_
      refine lv_iload_n hx hb dX10_turns_38 rfl (lv_at hl 0 rfl) ?_
      refine gx_iast C hI shM_27 h dX10_turns_39 (fun H locs h hI => ?_)
      refine gx_st h hI (fun s3 h hI => ?_)
      refine h_iinc C hl dX10_turns_40 2 rfl ci_1 h (by decide) (lvf := fun v4 => [(1, .int v4), (3, .int v1), (0, .ref (ad 0)), (2, .int x2)]) (fun _ => rfl) (fun v4 ls h hl => ?_)
      refine h_iinc C hl dX10_turns_43 3 rfl ci_m1 h (by decide) (lvf := fun v5 => [(2, .int v5), (1, .int v4), (3, .int v1), (0, .ref (ad 0))]) (fun _ => rfl) (fun v5 ls h hl => ?_)
      refine lv_goto (tgt := 9) hx hb dX10_turns_46 (by decide) ?_
      exact ih _ _ _ _ _ _  h hI (lv_sub hl [3, 1, 0] rfl)
set_option maxRecDepth 100000 in
set_option maxHeartbeats 4000000 in
theorem c_X10_turns (l : Launch) (D : va_G) (t : gT) (ad z : Nat → Nat) (hJ : gJ shM ad) (σ : gS) (q : gS) (h : f_X10_turns σ = some q) : Met l yX10_turns (Cond.code yX10_turns cX10_turns 4 (none) :: lw_tb) (gR 1 60) (gPc shM t ad D z [.ref (ad 0)] σ) (gQv shM t ad D q) 0 0 (gA shM ad) := by
  refine gMet "NineKeysRoundModel" rfl (by decide) hJ (Nat.le_of_ble_eq_true rfl) ?_
  intro p e s m below meth c ls C hr hI hl
  have hx := C.1
  have hb := C.2.1
  have hl : lv_has ls 4 [(0, .ref (ad 0))] := hl
  unfold f_X10_turns at h
  refine lv_iconst hx hb dX10_turns_0 ci_0 ?_
  refine lv_istore_n (lv' := [(1, .int 0), (0, .ref (ad 0))]) hx hb dX10_turns_1 rfl hl (by decide) rfl (fun ls hl => ?_)
  refine lv_aload_n hx hb dX10_turns_2 rfl (lv_at hl 1 rfl) ?_
  refine fg_1105 C hI shM_0 rfl dX10_turns_3 ?_
  refine lv_iconst hx hb dX10_turns_6 ci_1 ?_
  refine lv_isub hx hb dX10_turns_7 ?_
  refine gx_topi h (fun v1 h => ?_)
  refine lv_istore_n (lv' := [(2, .int v1), (1, .int 0), (0, .ref (ad 0))]) hx hb dX10_turns_8 rfl hl (by decide) rfl (fun ls hl => ?_)
  exact w_X10_turns_9 C hr    _ _ _ _ _ _ _  h hI (lv_sub hl [2, 1, 0] rfl)
set_option maxRecDepth 100000 in
set_option maxHeartbeats 4000000 in
theorem w_X10_walks_12 {p : Program} {l : Launch} {e : Env} {s : State} {m : MethodId} {args : Array Value} {below : List Frame} {meth : Method} {c : Code} {D : va_G} {t : gT} {ad z : Nat → Nat} (C : gC p s m args meth c cX10_walks 5 "NineKeysRoundModel" D t shM ad z) (hr : meth.sig.returnType = none) {r : gS} : ∀ (n : Nat) (x1 : Int32) (x2 : Int32) (x3 : Int32) (x4 : Int32) (σ : gS) (H : Heap) (locs : List Loc) (ls : Array Slot), f_X10_walks_12 n x1 x2 x3 x4 σ = some r → gI shM t ad D s.heap σ H locs → lv_has ls 5 [(0, .ref (ad 0)), (1, .int x1), (2, .int x2), (3, .int x3), (4, .int x4)] → W p l e (gR 4 125) s m args below meth c H locs 0 0 (MQ below (gQv shM t ad D r) args s 0 0 (gA shM ad)) (F0 m 12 ls []) := by
  have hx := C.1
  have hb := C.2.1
  intro n
  induction n with
  | zero =>
    intro x1 x2 x3 x4 σ H locs ls  h
    exact absurd h (by simp [f_X10_walks_12])
  | succ n ih =>
    intro x1 x2 x3 x4 σ H locs ls  h hI hl
    unfold f_X10_walks_12 at h
    refine lv_aload_n hx hb dX10_walks_12 rfl (lv_at hl 0 rfl) ?_
    refine fg_1105 C hI shM_0 rfl dX10_walks_13 ?_
    refine hif_le (tgt := 114) C dX10_walks_16 (by decide) h (fun h => ?_) (fun h => ?_)
    · exact h_vret_w C hr hI h dX10_walks_114
    · refine lv_aload_n hx hb dX10_walks_19 rfl (lv_at hl 0 rfl) ?_
      refine fg_1107 C hI shM_0 rfl dX10_walks_20 ?_
      refine lv_iload_n hx hb dX10_walks_23 rfl (lv_at hl 1 rfl) ?_
      refine hicmp_ge (tgt := 114) C dX10_walks_24 (by decide) h (fun h => ?_) (fun h => ?_)
      · exact h_vret_w C hr hI h dX10_walks_114
      · refine lv_iload_n hx hb dX10_walks_27 rfl (lv_at hl 2 rfl) ?_
        refine lv_aload_n hx hb dX10_walks_28 rfl (lv_at hl 0 rfl) ?_
        refine lv_iload_n hx hb dX10_walks_29 rfl (lv_at hl 3 rfl) ?_
        refine lv_aload_n hx hb dX10_walks_30 rfl (lv_at hl 0 rfl) ?_
        refine fr_1106 C hI shM_0 rfl dX10_walks_31 ?_
        refine lv_iload hx hb dX10_walks_34 (lv_at hl 4 rfl) ?_
        refine gx_iald C hI shM_27 h dX10_walks_36 (fun h => ?_)
        refine h_callvi_o (rest := [.int x2]) C hI hl.1 shM_0 rfl yv_X10_minutes k_1354 h (fun q hq => c_X10_minutes l D t ad z C.2.2.2.2.2.2.1 (σ) x3 (σ.1 27 (x4).toNatClampNeg) q hq) (As := [.int x3, .int (σ.1 27 (x4).toNatClampNeg)]) rfl rfl ⟨Nat.le_of_ble_eq_true rfl, Nat.le_of_ble_eq_true rfl⟩ (Nat.le_of_ble_eq_true rfl) dX10_walks_37 (fun q1 H locs h hI => ?_)
        refine lv_iadd hx hb dX10_walks_40 ?_
        refine gx_topi h (fun v2 h => ?_)
        refine lv_istore_n (lv' := [(2, .int v2), (0, .ref (ad 0)), (1, .int x1), (3, .int x3), (4, .int x4)]) hx hb dX10_walks_41 rfl hl (by decide) rfl (fun ls hl => ?_)
        refine lv_iload_n hx hb dX10_walks_42 rfl (lv_at hl 0 rfl) ?_
        refine lv_sipush hx hb dX10_walks_43 cs_2000 ?_
        refine hicmp_lt (tgt := 50) C dX10_walks_46 (by decide) h (fun h => ?_) (fun h => ?_)
        · refine lv_aload_n hx hb dX10_walks_50 rfl (lv_at hl 1 rfl) ?_
          refine fr_1108 C hI shM_0 rfl dX10_walks_51 ?_
          refine lv_aload_n hx hb dX10_walks_54 rfl (lv_at hl 1 rfl) ?_
          refine fg_1107 C hI shM_0 rfl dX10_walks_55 ?_
          refine lv_iload_n hx hb dX10_walks_58 rfl (lv_at hl 0 rfl) ?_
          refine gx_iast C hI shM_28 h dX10_walks_59 (fun H locs h hI => ?_)
          refine gx_st h hI (fun s3 h hI => ?_)
          refine lv_aload_n hx hb dX10_walks_60 rfl (lv_at hl 1 rfl) ?_
          refine fr_1109 C hI shM_0 rfl dX10_walks_61 ?_
          refine lv_aload_n hx hb dX10_walks_64 rfl (lv_at hl 1 rfl) ?_
          refine lv_dup hx hb dX10_walks_65 rfl ?_
          refine fg_1107 C hI shM_0 rfl dX10_walks_66 ?_
          refine gx_topi h (fun v4 h => ?_)
          refine lv_dup_x1 hx hb dX10_walks_69 rfl rfl ?_
          refine lv_iconst hx hb dX10_walks_70 ci_1 ?_
          refine lv_iadd hx hb dX10_walks_71 ?_
          refine fp_1107 C hI shM_0 rfl dX10_walks_72 (fun H locs hI => ?_)
          refine gx_st h hI (fun s5 h hI => ?_)
          refine lv_aload_n hx hb dX10_walks_75 rfl (lv_at hl 1 rfl) ?_
          refine fr_1106 C hI shM_0 rfl dX10_walks_76 ?_
          refine lv_iload hx hb dX10_walks_79 (lv_at hl 4 rfl) ?_
          refine gx_iald C hI shM_27 h dX10_walks_81 (fun h => ?_)
          refine gx_iast C hI shM_29 h dX10_walks_82 (fun H locs h hI => ?_)
          refine gx_st h hI (fun s6 h hI => ?_)
          refine lv_aload_n hx hb dX10_walks_83 rfl (lv_at hl 1 rfl) ?_
          refine fr_1106 C hI shM_0 rfl dX10_walks_84 ?_
          refine lv_iload hx hb dX10_walks_87 (lv_at hl 4 rfl) ?_
          refine gx_iald C hI shM_27 h dX10_walks_89 (fun h => ?_)
          refine gx_topi h (fun v7 h => ?_)
          refine lv_istore_n (lv' := [(3, .int v7), (2, .int v2), (0, .ref (ad 0)), (1, .int x1), (4, .int x4)]) hx hb dX10_walks_90 rfl hl (by decide) rfl (fun ls hl => ?_)
          refine lv_iload_n hx hb dX10_walks_91 rfl (lv_at hl 1 rfl) ?_
          refine lv_aload_n hx hb dX10_walks_92 rfl (lv_at hl 2 rfl) ?_
          refine fr_1066 C hI shM_0 rfl dX10_walks_93 ?_
          refine lv_iconst hx hb dX10_walks_96 ci_3 ?_
          refine gx_iald C hI shM_5 h dX10_walks_97 (fun h => ?_)
          refine lv_iadd hx hb dX10_walks_98 ?_
          refine gx_topi h (fun v8 h => ?_)
          refine lv_istore_n (lv' := [(2, .int v8), (3, .int v7), (0, .ref (ad 0)), (1, .int x1), (4, .int x4)]) hx hb dX10_walks_99 rfl hl (by decide) rfl (fun ls hl => ?_)
          refine lv_iload hx hb dX10_walks_100 (lv_at hl 4 rfl) ?_
          refine lv_iconst hx hb dX10_walks_102 ci_1 ?_
          refine lv_iadd hx hb dX10_walks_103 ?_
          refine lv_aload_n hx hb dX10_walks_104 rfl (lv_at hl 2 rfl) ?_
          refine fg_1105 C hI shM_0 rfl dX10_walks_105 ?_
          refine h_irem C dX10_walks_108 h (fun h => ?_)
          refine gx_topi h (fun v9 h => ?_)
          refine lv_istore (lv' := [(4, .int v9), (2, .int v8), (3, .int v7), (0, .ref (ad 0)), (1, .int x1)]) hx hb dX10_walks_109 hl (by decide) rfl (fun ls hl => ?_)
          refine lv_goto (tgt := 12) hx hb dX10_walks_111 (by decide) ?_
          exact ih _ _ _ _ _ _ _ _  h hI (lv_sub hl [3, 4, 1, 2, 0] rfl)
        · exact h_vret_w C hr hI h dX10_walks_49
set_option maxRecDepth 100000 in
set_option maxHeartbeats 4000000 in
theorem c_X10_walks (l : Launch) (D : va_G) (t : gT) (ad z : Nat → Nat) (hJ : gJ shM ad) (σ : gS) (x1 : Int32) (q : gS) (h : f_X10_walks σ x1 = some q) : Met l yX10_walks (Cond.code yX10_walks cX10_walks 5 (none) :: lw_tb) (gR 4 125) (gPc shM t ad D z [.ref (ad 0), .int x1] σ) (gQv shM t ad D q) 0 0 (gA shM ad) := by
  refine gMet "NineKeysRoundModel" rfl (by decide) hJ (Nat.le_of_ble_eq_true rfl) ?_
  intro p e s m below meth c ls C hr hI hl
  have hx := C.1
  have hb := C.2.1
  have hl : lv_has ls 5 [(0, .ref (ad 0)), (1, .int x1)] := hl
  unfold f_X10_walks at h
  refine lv_aload_n hx hb dX10_walks_0 rfl (lv_at hl 0 rfl) ?_
  refine lv_iconst hx hb dX10_walks_1 ci_0 ?_
  refine fp_1107 C hI shM_0 rfl dX10_walks_2 (fun H locs hI => ?_)
  refine gx_st h hI (fun s1 h hI => ?_)
  refine lv_iconst hx hb dX10_walks_5 ci_0 ?_
  refine lv_istore_n (lv' := [(2, .int 0), (0, .ref (ad 0)), (1, .int x1)]) hx hb dX10_walks_6 rfl hl (by decide) rfl (fun ls hl => ?_)
  refine lv_iconst hx hb dX10_walks_7 ci_m1 ?_
  refine lv_istore_n (lv' := [(3, .int (-1)), (2, .int 0), (0, .ref (ad 0)), (1, .int x1)]) hx hb dX10_walks_8 rfl hl (by decide) rfl (fun ls hl => ?_)
  refine lv_iconst hx hb dX10_walks_9 ci_0 ?_
  refine lv_istore (lv' := [(4, .int 0), (3, .int (-1)), (2, .int 0), (0, .ref (ad 0)), (1, .int x1)]) hx hb dX10_walks_10 hl (by decide) rfl (fun ls hl => ?_)
  exact w_X10_walks_12 C hr    _ _ _ _ _ _ _ _ _  h hI (lv_sub hl [3, 4, 2, 1, 0] rfl)
set_option maxRecDepth 100000 in
set_option maxHeartbeats 4000000 in
theorem w_X10_looks_83 {p : Program} {l : Launch} {e : Env} {s : State} {m : MethodId} {args : Array Value} {below : List Frame} {meth : Method} {c : Code} {D : va_G} {t : gT} {ad z : Nat → Nat} (C : gC p s m args meth c cX10_looks 3 "NineKeysRoundModel" D t shM ad z) (hr : meth.sig.returnType = none) {r : gS} (K_75 : Int32 → gS → Option gS) (hK_75 : ∀ (x1 : Int32) (σ : gS) (H : Heap) (locs : List Loc) (ls : Array Slot), K_75 x1 σ = some r → gI shM t ad D s.heap σ H locs → lv_has ls 3 [(0, .ref (ad 0)), (1, .int x1)] → W p l e (gR 5 149) s m args below meth c H locs 0 0 (MQ below (gQv shM t ad D r) args s 0 0 (gA shM ad)) (F0 m 75 ls [])) : ∀ (n : Nat) (x1 : Int32) (x2 : Int32) (σ : gS) (H : Heap) (locs : List Loc) (ls : Array Slot), f_X10_looks_83 K_75 n x1 x2 σ = some r → gI shM t ad D s.heap σ H locs → lv_has ls 3 [(0, .ref (ad 0)), (1, .int x1), (2, .int x2)] → W p l e (gR 5 149) s m args below meth c H locs 0 0 (MQ below (gQv shM t ad D r) args s 0 0 (gA shM ad)) (F0 m 83 ls []) := by
  have hx := C.1
  have hb := C.2.1
  intro n
  induction n with
  | zero =>
    intro x1 x2 σ H locs ls  h
    exact absurd h (by simp [f_X10_looks_83])
  | succ n ih =>
    intro x1 x2 σ H locs ls  h hI hl
    unfold f_X10_looks_83 at h
    refine lv_iload_n hx hb dX10_looks_83 rfl (lv_at hl 2 rfl) ?_
    refine lv_sipush hx hb dX10_looks_84 cs_2000 ?_
    refine hicmp_ge (tgt := 137) C dX10_looks_87 (by decide) h (fun h => ?_) (fun h => ?_)
    · refine h_iinc C hl dX10_looks_137 1 rfl ci_1 h (by decide) (lvf := fun v1 => [(1, .int v1), (0, .ref (ad 0)), (2, .int x2)]) (fun _ => rfl) (fun v1 ls h hl => ?_)
      refine lv_goto (tgt := 75) hx hb dX10_looks_140 (by decide) ?_
      exact hK_75 _ _ _ _ _  h hI (lv_sub hl [1, 0] rfl)
    · refine lv_aload_n hx hb dX10_looks_90 rfl (lv_at hl 0 rfl) ?_
      refine fr_1110 C hI shM_0 rfl dX10_looks_91 ?_
      refine lv_sipush hx hb dX10_looks_94 cs_2000 ?_
      refine lv_iload_n hx hb dX10_looks_97 rfl (lv_at hl 1 rfl) ?_
      refine lv_imul hx hb dX10_looks_98 ?_
      refine lv_iload_n hx hb dX10_looks_99 rfl (lv_at hl 2 rfl) ?_
      refine lv_iadd hx hb dX10_looks_100 ?_
      refine gx_iald C hI shM_30 h dX10_looks_101 (fun h => ?_)
      refine hif_ge (tgt := 131) C dX10_looks_102 (by decide) h (fun h => ?_) (fun h => ?_)
      · refine h_iinc C hl dX10_looks_131 2 rfl ci_1 h (by decide) (lvf := fun v2 => [(2, .int v2), (0, .ref (ad 0)), (1, .int x1)]) (fun _ => rfl) (fun v2 ls h hl => ?_)
        refine lv_goto (tgt := 83) hx hb dX10_looks_134 (by decide) ?_
        exact ih _ _ _ _ _ _  h hI (lv_sub hl [1, 2, 0] rfl)
      · refine lv_aload_n hx hb dX10_looks_105 rfl (lv_at hl 0 rfl) ?_
        refine fr_1110 C hI shM_0 rfl dX10_looks_106 ?_
        refine lv_sipush hx hb dX10_looks_109 cs_2000 ?_
        refine lv_iload_n hx hb dX10_looks_112 rfl (lv_at hl 1 rfl) ?_
        refine lv_imul hx hb dX10_looks_113 ?_
        refine lv_iload_n hx hb dX10_looks_114 rfl (lv_at hl 2 rfl) ?_
        refine lv_iadd hx hb dX10_looks_115 ?_
        refine lv_aload_n hx hb dX10_looks_116 rfl (lv_at hl 0 rfl) ?_
        refine fr_1110 C hI shM_0 rfl dX10_looks_117 ?_
        refine lv_sipush hx hb dX10_looks_120 cs_2000 ?_
        refine lv_iload_n hx hb dX10_looks_123 rfl (lv_at hl 1 rfl) ?_
        refine lv_imul hx hb dX10_looks_124 ?_
        refine lv_iload_n hx hb dX10_looks_125 rfl (lv_at hl 2 rfl) ?_
        refine lv_iadd hx hb dX10_looks_126 ?_
        refine lv_iconst hx hb dX10_looks_127 ci_1 ?_
        refine lv_isub hx hb dX10_looks_128 ?_
        refine gx_iald C hI shM_30 h dX10_looks_129 (fun h => ?_)
        refine gx_iast C hI shM_30 h dX10_looks_130 (fun H locs h hI => ?_)
        refine gx_st h hI (fun s3 h hI => ?_)
        refine h_iinc C hl dX10_looks_131 2 rfl ci_1 h (by decide) (lvf := fun v4 => [(2, .int v4), (0, .ref (ad 0)), (1, .int x1)]) (fun _ => rfl) (fun v4 ls h hl => ?_)
        refine lv_goto (tgt := 83) hx hb dX10_looks_134 (by decide) ?_
        exact ih _ _ _ _ _ _  h hI (lv_sub hl [1, 2, 0] rfl)
set_option maxRecDepth 100000 in
set_option maxHeartbeats 4000000 in
theorem w_X10_looks_75 {p : Program} {l : Launch} {e : Env} {s : State} {m : MethodId} {args : Array Value} {below : List Frame} {meth : Method} {c : Code} {D : va_G} {t : gT} {ad z : Nat → Nat} (C : gC p s m args meth c cX10_looks 3 "NineKeysRoundModel" D t shM ad z) (hr : meth.sig.returnType = none) {r : gS} : ∀ (n : Nat) (x1 : Int32) (σ : gS) (H : Heap) (locs : List Loc) (ls : Array Slot), f_X10_looks_75 n x1 σ = some r → gI shM t ad D s.heap σ H locs → lv_has ls 3 [(0, .ref (ad 0)), (1, .int x1)] → W p l e (gR 5 149) s m args below meth c H locs 0 0 (MQ below (gQv shM t ad D r) args s 0 0 (gA shM ad)) (F0 m 75 ls []) := by
  have hx := C.1
  have hb := C.2.1
  intro n
  induction n with
  | zero =>
    intro x1 σ H locs ls  h
    exact absurd h (by simp [f_X10_looks_75])
  | succ n ih =>
    intro x1 σ H locs ls  h hI hl
    unfold f_X10_looks_75 at h
    refine lv_iload_n hx hb dX10_looks_75 rfl (lv_at hl 1 rfl) ?_
    refine lv_bipush hx hb dX10_looks_76 cb_9 ?_
    refine hicmp_ge (tgt := 143) C dX10_looks_78 (by decide) h (fun h => ?_) (fun h => ?_)
    · exact h_vret_w C hr hI h dX10_looks_143
    · refine lv_iconst hx hb dX10_looks_81 ci_1 ?_
      refine lv_istore_n (lv' := [(2, .int 1), (0, .ref (ad 0)), (1, .int x1)]) hx hb dX10_looks_82 rfl hl (by decide) rfl (fun ls hl => ?_)
      exact w_X10_looks_83 C hr   _ ih _ _ _ _ _ _ _  h hI (lv_sub hl [1, 2, 0] rfl)
set_option maxRecDepth 100000 in
set_option maxHeartbeats 4000000 in
theorem w_X10_looks_31 {p : Program} {l : Launch} {e : Env} {s : State} {m : MethodId} {args : Array Value} {below : List Frame} {meth : Method} {c : Code} {D : va_G} {t : gT} {ad z : Nat → Nat} (C : gC p s m args meth c cX10_looks 3 "NineKeysRoundModel" D t shM ad z) (hr : meth.sig.returnType = none) {r : gS} : ∀ (n : Nat) (x1 : Int32) (σ : gS) (H : Heap) (locs : List Loc) (ls : Array Slot), f_X10_looks_31 n x1 σ = some r → gI shM t ad D s.heap σ H locs → lv_has ls 3 [(0, .ref (ad 0)), (1, .int x1)] → W p l e (gR 5 149) s m args below meth c H locs 0 0 (MQ below (gQv shM t ad D r) args s 0 0 (gA shM ad)) (F0 m 31 ls []) := by
  have hx := C.1
  have hb := C.2.1
  intro n
  induction n with
  | zero =>
    intro x1 σ H locs ls  h
    exact absurd h (by simp [f_X10_looks_31])
  | succ n ih =>
    intro x1 σ H locs ls  h hI hl
    unfold f_X10_looks_31 at h
    refine lv_iload_n hx hb dX10_looks_31 rfl (lv_at hl 1 rfl) ?_
    refine lv_aload_n hx hb dX10_looks_32 rfl (lv_at hl 0 rfl) ?_
    refine fg_1107 C hI shM_0 rfl dX10_looks_33 ?_
    refine hicmp_ge (tgt := 73) C dX10_looks_36 (by decide) h (fun h => ?_) (fun h => ?_)
    · refine lv_iconst hx hb dX10_looks_73 ci_0 ?_
      refine lv_istore_n (lv' := [(1, .int 0), (0, .ref (ad 0))]) hx hb dX10_looks_74 rfl hl (by decide) rfl (fun ls hl => ?_)
      exact w_X10_looks_75 C hr    _ _ _ _ _ _  h hI (lv_sub hl [1, 0] rfl)
    · refine lv_aload_n hx hb dX10_looks_39 rfl (lv_at hl 0 rfl) ?_
      refine fr_1110 C hI shM_0 rfl dX10_looks_40 ?_
      refine lv_sipush hx hb dX10_looks_43 cs_2000 ?_
      refine lv_aload_n hx hb dX10_looks_46 rfl (lv_at hl 0 rfl) ?_
      refine fr_1109 C hI shM_0 rfl dX10_looks_47 ?_
      refine lv_iload_n hx hb dX10_looks_50 rfl (lv_at hl 1 rfl) ?_
      refine gx_iald C hI shM_29 h dX10_looks_51 (fun h => ?_)
      refine lv_imul hx hb dX10_looks_52 ?_
      refine lv_aload_n hx hb dX10_looks_53 rfl (lv_at hl 0 rfl) ?_
      refine fr_1108 C hI shM_0 rfl dX10_looks_54 ?_
      refine lv_iload_n hx hb dX10_looks_57 rfl (lv_at hl 1 rfl) ?_
      refine gx_iald C hI shM_28 h dX10_looks_58 (fun h => ?_)
      refine lv_iadd hx hb dX10_looks_59 ?_
      refine lv_aload_n hx hb dX10_looks_60 rfl (lv_at hl 0 rfl) ?_
      refine fr_1108 C hI shM_0 rfl dX10_looks_61 ?_
      refine lv_iload_n hx hb dX10_looks_64 rfl (lv_at hl 1 rfl) ?_
      refine gx_iald C hI shM_28 h dX10_looks_65 (fun h => ?_)
      refine gx_iast C hI shM_30 h dX10_looks_66 (fun H locs h hI => ?_)
      refine gx_st h hI (fun s1 h hI => ?_)
      refine h_iinc C hl dX10_looks_67 1 rfl ci_1 h (by decide) (lvf := fun v2 => [(1, .int v2), (0, .ref (ad 0))]) (fun _ => rfl) (fun v2 ls h hl => ?_)
      refine lv_goto (tgt := 31) hx hb dX10_looks_70 (by decide) ?_
      exact ih _ _ _ _ _  h hI (lv_sub hl [1, 0] rfl)
set_option maxRecDepth 100000 in
set_option maxHeartbeats 4000000 in
theorem w_X10_looks_9 {p : Program} {l : Launch} {e : Env} {s : State} {m : MethodId} {args : Array Value} {below : List Frame} {meth : Method} {c : Code} {D : va_G} {t : gT} {ad z : Nat → Nat} (C : gC p s m args meth c cX10_looks 3 "NineKeysRoundModel" D t shM ad z) (hr : meth.sig.returnType = none) {r : gS} : ∀ (n : Nat) (x1 : Int32) (σ : gS) (H : Heap) (locs : List Loc) (ls : Array Slot), f_X10_looks_9 n x1 σ = some r → gI shM t ad D s.heap σ H locs → lv_has ls 3 [(0, .ref (ad 0)), (1, .int x1)] → W p l e (gR 5 149) s m args below meth c H locs 0 0 (MQ below (gQv shM t ad D r) args s 0 0 (gA shM ad)) (F0 m 9 ls []) := by
  have hx := C.1
  have hb := C.2.1
  intro n
  induction n with
  | zero =>
    intro x1 σ H locs ls  h
    exact absurd h (by simp [f_X10_looks_9])
  | succ n ih =>
    intro x1 σ H locs ls  h hI hl
    unfold f_X10_looks_9 at h
    refine lv_iload_n hx hb dX10_looks_9 rfl (lv_at hl 1 rfl) ?_
    refine lv_sipush hx hb dX10_looks_10 cs_18000 ?_
    refine hicmp_ge (tgt := 29) C dX10_looks_13 (by decide) h (fun h => ?_) (fun h => ?_)
    · refine lv_iconst hx hb dX10_looks_29 ci_0 ?_
      refine lv_istore_n (lv' := [(1, .int 0), (0, .ref (ad 0))]) hx hb dX10_looks_30 rfl hl (by decide) rfl (fun ls hl => ?_)
      exact w_X10_looks_31 C hr    _ _ _ _ _ _  h hI (lv_sub hl [1, 0] rfl)
    · refine lv_aload_n hx hb dX10_looks_16 rfl (lv_at hl 0 rfl) ?_
      refine fr_1110 C hI shM_0 rfl dX10_looks_17 ?_
      refine lv_iload_n hx hb dX10_looks_20 rfl (lv_at hl 1 rfl) ?_
      refine lv_iconst hx hb dX10_looks_21 ci_m1 ?_
      refine gx_iast C hI shM_30 h dX10_looks_22 (fun H locs h hI => ?_)
      refine gx_st h hI (fun s1 h hI => ?_)
      refine h_iinc C hl dX10_looks_23 1 rfl ci_1 h (by decide) (lvf := fun v2 => [(1, .int v2), (0, .ref (ad 0))]) (fun _ => rfl) (fun v2 ls h hl => ?_)
      refine lv_goto (tgt := 9) hx hb dX10_looks_26 (by decide) ?_
      exact ih _ _ _ _ _  h hI (lv_sub hl [1, 0] rfl)
set_option maxRecDepth 100000 in
set_option maxHeartbeats 4000000 in
theorem c_X10_looks (l : Launch) (D : va_G) (t : gT) (ad z : Nat → Nat) (hJ : gJ shM ad) (σ : gS) (q : gS) (h : f_X10_looks σ = some q) : Met l yX10_looks (Cond.code yX10_looks cX10_looks 3 (none) :: lw_tb) (gR 5 149) (gPc shM t ad D z [.ref (ad 0)] σ) (gQv shM t ad D q) 0 0 (gA shM ad) := by
  refine gMet "NineKeysRoundModel" rfl (by decide) hJ (Nat.le_of_ble_eq_true rfl) ?_
  intro p e s m below meth c ls C hr hI hl
  have hx := C.1
  have hb := C.2.1
  have hl : lv_has ls 3 [(0, .ref (ad 0))] := hl
  unfold f_X10_looks at h
  refine lv_aload_n hx hb dX10_looks_0 rfl (lv_at hl 0 rfl) ?_
  refine lv_sipush hx hb dX10_looks_1 cs_4000 ?_
  refine h_callvv_w (rest := []) C hI hl.1 shM_0 rfl yv_X10_walks k_1375 h (fun q hq => c_X10_walks l D t ad z C.2.2.2.2.2.2.1 (σ) 4000 q hq) (As := [.int 4000]) rfl rfl ⟨Nat.le_of_ble_eq_true rfl, Nat.le_of_ble_eq_true rfl⟩ (Nat.le_of_ble_eq_true rfl) dX10_looks_4 (fun q1 H locs h hI => ?_)
  refine lv_iconst hx hb dX10_looks_7 ci_0 ?_
  refine lv_istore_n (lv' := [(1, .int 0), (0, .ref (ad 0))]) hx hb dX10_looks_8 rfl hl (by decide) rfl (fun ls hl => ?_)
  exact w_X10_looks_9 C hr    _ _ _ _ _ _  h hI (lv_sub hl [1, 0] rfl)
set_option maxRecDepth 100000 in
set_option maxHeartbeats 4000000 in
theorem c_X10_isSeen (l : Launch) (D : va_G) (t : gT) (ad z : Nat → Nat) (hJ : gJ shM ad) (σ : gS) (x1 : Int32) (x2 : Int32) (q : Int32) (h : f_X10_isSeen σ x1 x2 = some q) : Met l yX10_isSeen (Cond.code yX10_isSeen cX10_isSeen 4 (some .boolean) :: lw_tb) (gR 1 60) (gPc shM t ad D z [.ref (ad 0), .int x1, .int x2] σ) (gQi shM t ad D q σ) 0 0 (gA shM ad) := by
  refine gMet "NineKeysRoundModel" rfl (by decide) hJ (Nat.le_of_ble_eq_true rfl) ?_
  intro p e s m below meth c ls C hr hI hl
  have hx := C.1
  have hb := C.2.1
  have hl : lv_has ls 4 [(0, .ref (ad 0)), (1, .int x1), (2, .int x2)] := hl
  unfold f_X10_isSeen at h
  refine lv_aload_n hx hb dX10_isSeen_0 rfl (lv_at hl 0 rfl) ?_
  refine fr_1110 C hI shM_0 rfl dX10_isSeen_1 ?_
  refine lv_sipush hx hb dX10_isSeen_4 cs_2000 ?_
  refine lv_iload_n hx hb dX10_isSeen_7 rfl (lv_at hl 1 rfl) ?_
  refine lv_imul hx hb dX10_isSeen_8 ?_
  refine lv_iload_n hx hb dX10_isSeen_9 rfl (lv_at hl 2 rfl) ?_
  refine lv_iadd hx hb dX10_isSeen_10 ?_
  refine gx_iald C hI shM_30 h dX10_isSeen_11 (fun h => ?_)
  refine gx_topi h (fun v1 h => ?_)
  refine lv_istore_n (lv' := [(3, .int v1), (0, .ref (ad 0)), (1, .int x1), (2, .int x2)]) hx hb dX10_isSeen_12 rfl hl (by decide) rfl (fun ls hl => ?_)
  refine lv_iload_n hx hb dX10_isSeen_13 rfl (lv_at hl 0 rfl) ?_
  refine hif_lt (tgt := 37) C dX10_isSeen_14 (by decide) h (fun h => ?_) (fun h => ?_)
  · refine lv_iconst hx hb dX10_isSeen_37 ci_0 ?_
    exact h_zret_o C hr hI h dX10_isSeen_38
  · refine lv_iload_n hx hb dX10_isSeen_17 rfl (lv_at hl 3 rfl) ?_
    refine lv_iload_n hx hb dX10_isSeen_18 rfl (lv_at hl 0 rfl) ?_
    refine lv_isub hx hb dX10_isSeen_19 ?_
    refine lv_iconst hx hb dX10_isSeen_20 ci_1 ?_
    refine lv_aload_n hx hb dX10_isSeen_21 rfl (lv_at hl 1 rfl) ?_
    refine fr_1066 C hI shM_0 rfl dX10_isSeen_22 ?_
    refine lv_iconst hx hb dX10_isSeen_25 ci_3 ?_
    refine gx_iald C hI shM_5 h dX10_isSeen_26 (fun h => ?_)
    refine h_mmax C hl.1 k_1402 ⟨Nat.le_of_ble_eq_true rfl, Nat.le_of_ble_eq_true rfl⟩ ⟨Nat.zero_le _, Nat.zero_le _⟩ dX10_isSeen_27 ?_
    refine hicmp_ge (tgt := 37) C dX10_isSeen_30 (by decide) h (fun h => ?_) (fun h => ?_)
    · refine lv_iconst hx hb dX10_isSeen_37 ci_0 ?_
      exact h_zret_o C hr hI h dX10_isSeen_38
    · refine lv_iconst hx hb dX10_isSeen_33 ci_1 ?_
      refine lv_goto (tgt := 38) hx hb dX10_isSeen_34 (by decide) ?_
      exact h_zret_o C hr hI h dX10_isSeen_38
set_option maxRecDepth 100000 in
set_option maxHeartbeats 4000000 in
theorem c_X10_unseenFor (l : Launch) (D : va_G) (t : gT) (ad z : Nat → Nat) (hJ : gJ shM ad) (σ : gS) (x1 : Int32) (x2 : Int32) (q : Int32) (h : f_X10_unseenFor σ x1 x2 = some q) : Met l yX10_unseenFor (Cond.code yX10_unseenFor cX10_unseenFor 4 (some .int) :: lw_tb) (gR 1 60) (gPc shM t ad D z [.ref (ad 0), .int x1, .int x2] σ) (gQi shM t ad D q σ) 0 0 (gA shM ad) := by
  refine gMet "NineKeysRoundModel" rfl (by decide) hJ (Nat.le_of_ble_eq_true rfl) ?_
  intro p e s m below meth c ls C hr hI hl
  have hx := C.1
  have hb := C.2.1
  have hl : lv_has ls 4 [(0, .ref (ad 0)), (1, .int x1), (2, .int x2)] := hl
  unfold f_X10_unseenFor at h
  refine lv_aload_n hx hb dX10_unseenFor_0 rfl (lv_at hl 0 rfl) ?_
  refine fr_1110 C hI shM_0 rfl dX10_unseenFor_1 ?_
  refine lv_sipush hx hb dX10_unseenFor_4 cs_2000 ?_
  refine lv_iload_n hx hb dX10_unseenFor_7 rfl (lv_at hl 1 rfl) ?_
  refine lv_imul hx hb dX10_unseenFor_8 ?_
  refine lv_iload_n hx hb dX10_unseenFor_9 rfl (lv_at hl 2 rfl) ?_
  refine lv_iadd hx hb dX10_unseenFor_10 ?_
  refine gx_iald C hI shM_30 h dX10_unseenFor_11 (fun h => ?_)
  refine gx_topi h (fun v1 h => ?_)
  refine lv_istore_n (lv' := [(3, .int v1), (0, .ref (ad 0)), (1, .int x1), (2, .int x2)]) hx hb dX10_unseenFor_12 rfl hl (by decide) rfl (fun ls hl => ?_)
  refine lv_iload_n hx hb dX10_unseenFor_13 rfl (lv_at hl 0 rfl) ?_
  refine hif_ge (tgt := 23) C dX10_unseenFor_14 (by decide) h (fun h => ?_) (fun h => ?_)
  · refine lv_iload_n hx hb dX10_unseenFor_23 rfl (lv_at hl 3 rfl) ?_
    refine lv_iload_n hx hb dX10_unseenFor_24 rfl (lv_at hl 0 rfl) ?_
    refine lv_isub hx hb dX10_unseenFor_25 ?_
    exact h_iret_o C hr hI h dX10_unseenFor_26
  · refine lv_iload_n hx hb dX10_unseenFor_17 rfl (lv_at hl 3 rfl) ?_
    refine lv_iconst hx hb dX10_unseenFor_18 ci_1 ?_
    refine lv_iadd hx hb dX10_unseenFor_19 ?_
    refine lv_goto (tgt := 26) hx hb dX10_unseenFor_20 (by decide) ?_
    exact h_iret_o C hr hI h dX10_unseenFor_26
set_option maxRecDepth 100000 in
set_option maxHeartbeats 4000000 in
theorem w_X10_oneRound_4 {p : Program} {l : Launch} {e : Env} {s : State} {m : MethodId} {args : Array Value} {below : List Frame} {meth : Method} {c : Code} {D : va_G} {t : gT} {ad z : Nat → Nat} {σ : gS} (C : gC p s m args meth c cX10_oneRound 3 "NineKeysRoundModel" D t shM ad z) (hr : meth.sig.returnType = some .int) {r : Int32} : ∀ (n : Nat) (x1 : Int32) (x2 : Int32) (H : Heap) (locs : List Loc) (ls : Array Slot), f_X10_oneRound_4 σ n x1 x2 = some r → gI shM t ad D s.heap σ H locs → lv_has ls 3 [(0, .ref (ad 0)), (1, .int x1), (2, .int x2)] → W p l e (gR 4 125) s m args below meth c H locs 0 0 (MQ below (gQi shM t ad D r σ) args s 0 0 (gA shM ad)) (F0 m 4 ls []) := by
  have hx := C.1
  have hb := C.2.1
  intro n
  induction n with
  | zero =>
    intro x1 x2 H locs ls  h
    exact absurd h (by simp [f_X10_oneRound_4])
  | succ n ih =>
    intro x1 x2 H locs ls  h hI hl
    unfold f_X10_oneRound_4 at h
    refine lv_iload_n hx hb dX10_oneRound_4 rfl (lv_at hl 2 rfl) ?_
    refine lv_aload_n hx hb dX10_oneRound_5 rfl (lv_at hl 0 rfl) ?_
    refine fg_1105 C hI shM_0 rfl dX10_oneRound_6 ?_
    refine hicmp_ge (tgt := 51) C dX10_oneRound_9 (by decide) h (fun h => ?_) (fun h => ?_)
    · refine lv_iload_n hx hb dX10_oneRound_51 rfl (lv_at hl 1 rfl) ?_
      exact h_iret_o C hr hI h dX10_oneRound_52
    · refine lv_iload_n hx hb dX10_oneRound_12 rfl (lv_at hl 1 rfl) ?_
      refine lv_aload_n hx hb dX10_oneRound_13 rfl (lv_at hl 0 rfl) ?_
      refine fr_1066 C hI shM_0 rfl dX10_oneRound_14 ?_
      refine lv_iconst hx hb dX10_oneRound_17 ci_3 ?_
      refine gx_iald C hI shM_5 h dX10_oneRound_18 (fun h => ?_)
      refine lv_aload_n hx hb dX10_oneRound_19 rfl (lv_at hl 0 rfl) ?_
      refine lv_aload_n hx hb dX10_oneRound_20 rfl (lv_at hl 0 rfl) ?_
      refine fr_1106 C hI shM_0 rfl dX10_oneRound_21 ?_
      refine lv_iload_n hx hb dX10_oneRound_24 rfl (lv_at hl 2 rfl) ?_
      refine gx_iald C hI shM_27 h dX10_oneRound_25 (fun h => ?_)
      refine lv_aload_n hx hb dX10_oneRound_26 rfl (lv_at hl 0 rfl) ?_
      refine fr_1106 C hI shM_0 rfl dX10_oneRound_27 ?_
      refine lv_iload_n hx hb dX10_oneRound_30 rfl (lv_at hl 2 rfl) ?_
      refine lv_iconst hx hb dX10_oneRound_31 ci_1 ?_
      refine lv_iadd hx hb dX10_oneRound_32 ?_
      refine lv_aload_n hx hb dX10_oneRound_33 rfl (lv_at hl 0 rfl) ?_
      refine fg_1105 C hI shM_0 rfl dX10_oneRound_34 ?_
      refine h_irem C dX10_oneRound_37 h (fun h => ?_)
      refine gx_iald C hI shM_27 h dX10_oneRound_38 (fun h => ?_)
      refine h_callvi_o (rest := [.int (σ.1 5 (3 : Int32).toNatClampNeg), .int x1]) C hI hl.1 shM_0 rfl yv_X10_minutes k_1354 h (fun q hq => c_X10_minutes l D t ad z C.2.2.2.2.2.2.1 (σ) (σ.1 27 (x2).toNatClampNeg) (σ.1 27 (((x2 + 1) - (x2 + 1) / (σ.1 0 44) * (σ.1 0 44))).toNatClampNeg) q hq) (As := [.int (σ.1 27 (x2).toNatClampNeg), .int (σ.1 27 (((x2 + 1) - (x2 + 1) / (σ.1 0 44) * (σ.1 0 44))).toNatClampNeg)]) rfl rfl ⟨Nat.le_of_ble_eq_true rfl, Nat.le_of_ble_eq_true rfl⟩ (Nat.le_of_ble_eq_true rfl) dX10_oneRound_39 (fun q1 H locs h hI => ?_)
      refine lv_iadd hx hb dX10_oneRound_42 ?_
      refine lv_iadd hx hb dX10_oneRound_43 ?_
      refine gx_topi h (fun v2 h => ?_)
      refine lv_istore_n (lv' := [(1, .int v2), (0, .ref (ad 0)), (2, .int x2)]) hx hb dX10_oneRound_44 rfl hl (by decide) rfl (fun ls hl => ?_)
      refine h_iinc C hl dX10_oneRound_45 2 rfl ci_1 h (by decide) (lvf := fun v3 => [(2, .int v3), (1, .int v2), (0, .ref (ad 0))]) (fun _ => rfl) (fun v3 ls h hl => ?_)
      refine lv_goto (tgt := 4) hx hb dX10_oneRound_48 (by decide) ?_
      exact ih _ _ _ _ _  h hI (lv_sub hl [2, 1, 0] rfl)
set_option maxRecDepth 100000 in
set_option maxHeartbeats 4000000 in
theorem c_X10_oneRound (l : Launch) (D : va_G) (t : gT) (ad z : Nat → Nat) (hJ : gJ shM ad) (σ : gS) (q : Int32) (h : f_X10_oneRound σ = some q) : Met l yX10_oneRound (Cond.code yX10_oneRound cX10_oneRound 3 (some .int) :: lw_tb) (gR 4 125) (gPc shM t ad D z [.ref (ad 0)] σ) (gQi shM t ad D q σ) 0 0 (gA shM ad) := by
  refine gMet "NineKeysRoundModel" rfl (by decide) hJ (Nat.le_of_ble_eq_true rfl) ?_
  intro p e s m below meth c ls C hr hI hl
  have hx := C.1
  have hb := C.2.1
  have hl : lv_has ls 3 [(0, .ref (ad 0))] := hl
  unfold f_X10_oneRound at h
  refine lv_iconst hx hb dX10_oneRound_0 ci_0 ?_
  refine lv_istore_n (lv' := [(1, .int 0), (0, .ref (ad 0))]) hx hb dX10_oneRound_1 rfl hl (by decide) rfl (fun ls hl => ?_)
  refine lv_iconst hx hb dX10_oneRound_2 ci_0 ?_
  refine lv_istore_n (lv' := [(2, .int 0), (1, .int 0), (0, .ref (ad 0))]) hx hb dX10_oneRound_3 rfl hl (by decide) rfl (fun ls hl => ?_)
  exact w_X10_oneRound_4 C hr    _ _ _ _ _ _  h hI (lv_sub hl [2, 1, 0] rfl)
set_option maxRecDepth 100000 in
set_option maxHeartbeats 4000000 in
theorem c_X10_round (l : Launch) (D : va_G) (t : gT) (ad z : Nat → Nat) (hJ : gJ shM ad) (σ : gS) (x1 : Int32) (x2 : Int32) (q : Int32 × gS) (h : f_X10_round σ x1 x2 = some q) : Met l yX10_round (Cond.code yX10_round cX10_round 4 (some .int) :: lw_tb) (gR 5 147) (gPc shM t ad D z [.ref (ad 0), .int x1, .int x2] σ) (gQi shM t ad D q.1 q.2) 0 0 (gA shM ad) := by
  refine gMet "NineKeysRoundModel" rfl (by decide) hJ (Nat.le_of_ble_eq_true rfl) ?_
  intro p e s m below meth c ls C hr hI hl
  have hx := C.1
  have hb := C.2.1
  have hl : lv_has ls 4 [(0, .ref (ad 0)), (1, .int x1), (2, .int x2)] := hl
  unfold f_X10_round at h
  refine lv_iload_n hx hb dX10_round_0 rfl (lv_at hl 1 rfl) ?_
  refine h_callsi_o (rest := []) C hI hl.1 ys_X10_isShelf k_1237 h (fun q hq => c_X10_isShelf l D t ad z C.2.2.2.2.2.2.1 (σ) x1 q hq) (As := [.int x1]) rfl rfl ⟨Nat.le_of_ble_eq_true rfl, Nat.le_of_ble_eq_true rfl⟩ (Nat.le_of_ble_eq_true rfl) dX10_round_1 (fun q1 H locs h hI => ?_)
  refine hif_eq (tgt := 16) C dX10_round_4 (by decide) h (fun h => ?_) (fun h => ?_)
  · refine lv_iconst hx hb dX10_round_16 ci_m1 ?_
    exact h_iret_w C hr hI h dX10_round_17
  · refine lv_iload_n hx hb dX10_round_7 rfl (lv_at hl 2 rfl) ?_
    refine lv_iconst hx hb dX10_round_8 ci_0 ?_
    refine lv_iconst hx hb dX10_round_9 ci_1 ?_
    refine h_callsi_o (rest := []) C hI hl.1 ys_X10_within k_1240 h (fun q hq => c_X10_within l D t ad z C.2.2.2.2.2.2.1 (σ) x2 0 1 q hq) (As := [.int x2, .int 0, .int 1]) rfl rfl ⟨Nat.le_of_ble_eq_true rfl, Nat.le_of_ble_eq_true rfl⟩ (Nat.le_of_ble_eq_true rfl) dX10_round_10 (fun q2 H locs h hI => ?_)
    refine hif_ne (tgt := 18) C dX10_round_13 (by decide) h (fun h => ?_) (fun h => ?_)
    · refine lv_aload_n hx hb dX10_round_18 rfl (lv_at hl 0 rfl) ?_
      refine lv_iload_n hx hb dX10_round_19 rfl (lv_at hl 1 rfl) ?_
      refine lv_iconst hx hb dX10_round_20 ci_0 ?_
      refine h_callvi_o (rest := []) C hI hl.1 shM_0 rfl yv_X10_noRow k_1338 h (fun q hq => c_X10_noRow l D t ad z C.2.2.2.2.2.2.1 (σ) x1 0 q hq) (As := [.int x1, .int 0]) rfl rfl ⟨Nat.le_of_ble_eq_true rfl, Nat.le_of_ble_eq_true rfl⟩ (Nat.le_of_ble_eq_true rfl) dX10_round_21 (fun q3 H locs h hI => ?_)
      refine lv_istore_n (lv' := [(3, .int q3), (0, .ref (ad 0)), (1, .int x1), (2, .int x2)]) hx hb dX10_round_24 rfl hl (by decide) rfl (fun ls hl => ?_)
      refine lv_iload_n hx hb dX10_round_25 rfl (lv_at hl 0 rfl) ?_
      refine hif_ge (tgt := 31) C dX10_round_26 (by decide) h (fun h => ?_) (fun h => ?_)
      · refine lv_aload_n hx hb dX10_round_31 rfl (lv_at hl 1 rfl) ?_
        refine lv_iload_n hx hb dX10_round_32 rfl (lv_at hl 2 rfl) ?_
        refine h_callvv_w (rest := []) C hI hl.1 shM_0 rfl yv_X10_reads k_1342 h (fun q hq => c_X10_reads l D t ad z C.2.2.2.2.2.2.1 (σ) x1 q hq) (As := [.int x1]) rfl rfl ⟨Nat.le_of_ble_eq_true rfl, Nat.le_of_ble_eq_true rfl⟩ (Nat.le_of_ble_eq_true rfl) dX10_round_33 (fun q4 H locs h hI => ?_)
        refine lv_iload_n hx hb dX10_round_36 rfl (lv_at hl 3 rfl) ?_
        refine hif_ne (tgt := 47) C dX10_round_37 (by decide) h (fun h => ?_) (fun h => ?_)
        · refine lv_aload_n hx hb dX10_round_47 rfl (lv_at hl 1 rfl) ?_
          refine h_callvi_o (rest := []) C hI hl.1 shM_0 rfl yv_X10_oneRound k_1350 h (fun q hq => c_X10_oneRound l D t ad z C.2.2.2.2.2.2.1 q4 q hq) (As := []) rfl rfl ⟨Nat.le_of_ble_eq_true rfl, Nat.le_of_ble_eq_true rfl⟩ (Nat.le_of_ble_eq_true rfl) dX10_round_48 (fun q5 H locs h hI => ?_)
          exact h_iret_w C hr hI h dX10_round_51
        · refine lv_aload_n hx hb dX10_round_40 rfl (lv_at hl 1 rfl) ?_
          refine fg_1105 C hI shM_0 rfl dX10_round_41 ?_
          refine lv_goto (tgt := 51) hx hb dX10_round_44 (by decide) ?_
          exact h_iret_w C hr hI h dX10_round_51
      · refine lv_iload_n hx hb dX10_round_29 rfl (lv_at hl 0 rfl) ?_
        exact h_iret_w C hr hI h dX10_round_30
    · refine lv_iconst hx hb dX10_round_16 ci_m1 ?_
      exact h_iret_w C hr hI h dX10_round_17
set_option maxRecDepth 100000 in
set_option maxHeartbeats 4000000 in
theorem w_X10_first_46 {p : Program} {l : Launch} {e : Env} {s : State} {m : MethodId} {args : Array Value} {below : List Frame} {meth : Method} {c : Code} {D : va_G} {t : gT} {ad z : Nat → Nat} (C : gC p s m args meth c cX10_first 5 "NineKeysRoundModel" D t shM ad z) (hr : meth.sig.returnType = some .int) {r : Int32 × gS} : ∀ (n : Nat) (x2 : Int32) (x4 : Int32) (σ : gS) (H : Heap) (locs : List Loc) (ls : Array Slot), f_X10_first_46 n x2 x4 σ = some r → gI shM t ad D s.heap σ H locs → lv_has ls 5 [(0, .ref (ad 0)), (2, .int x2), (4, .int x4)] → W p l e (gR 5 149) s m args below meth c H locs 0 0 (MQ below (gQi shM t ad D r.1 r.2) args s 0 0 (gA shM ad)) (F0 m 46 ls []) := by
  have hx := C.1
  have hb := C.2.1
  intro n
  induction n with
  | zero =>
    intro x2 x4 σ H locs ls  h
    exact absurd h (by simp [f_X10_first_46])
  | succ n ih =>
    intro x2 x4 σ H locs ls  h hI hl
    unfold f_X10_first_46 at h
    refine lv_iload hx hb dX10_first_46 (lv_at hl 2 rfl) ?_
    refine lv_aload_n hx hb dX10_first_48 rfl (lv_at hl 0 rfl) ?_
    refine fg_1107 C hI shM_0 rfl dX10_first_49 ?_
    refine hicmp_ge (tgt := 93) C dX10_first_52 (by decide) h (fun h => ?_) (fun h => ?_)
    · refine lv_bipush hx hb dX10_first_93 cb_m2 ?_
      exact h_iret_w C hr hI h dX10_first_95
    · refine lv_aload_n hx hb dX10_first_55 rfl (lv_at hl 0 rfl) ?_
      refine fr_1109 C hI shM_0 rfl dX10_first_56 ?_
      refine lv_iload hx hb dX10_first_59 (lv_at hl 2 rfl) ?_
      refine gx_iald C hI shM_29 h dX10_first_61 (fun h => ?_)
      refine lv_iload_n hx hb dX10_first_62 rfl (lv_at hl 1 rfl) ?_
      refine hicmp_ne (tgt := 87) C dX10_first_63 (by decide) h (fun h => ?_) (fun h => ?_)
      · refine h_iinc C hl dX10_first_87 2 rfl ci_1 h (by decide) (lvf := fun v1 => [(4, .int v1), (0, .ref (ad 0)), (2, .int x2)]) (fun _ => rfl) (fun v1 ls h hl => ?_)
        refine lv_goto (tgt := 46) hx hb dX10_first_90 (by decide) ?_
        exact ih _ _ _ _ _ _  h hI (lv_sub hl [1, 2, 0] rfl)
      · refine lv_aload_n hx hb dX10_first_66 rfl (lv_at hl 0 rfl) ?_
        refine fr_1108 C hI shM_0 rfl dX10_first_67 ?_
        refine lv_iload hx hb dX10_first_70 (lv_at hl 2 rfl) ?_
        refine gx_iald C hI shM_28 h dX10_first_72 (fun h => ?_)
        refine lv_sipush hx hb dX10_first_73 cs_1000 ?_
        refine hicmp_ge (tgt := 87) C dX10_first_76 (by decide) h (fun h => ?_) (fun h => ?_)
        · refine h_iinc C hl dX10_first_87 2 rfl ci_1 h (by decide) (lvf := fun v2 => [(4, .int v2), (0, .ref (ad 0)), (2, .int x2)]) (fun _ => rfl) (fun v2 ls h hl => ?_)
          refine lv_goto (tgt := 46) hx hb dX10_first_90 (by decide) ?_
          exact ih _ _ _ _ _ _  h hI (lv_sub hl [1, 2, 0] rfl)
        · refine lv_aload_n hx hb dX10_first_79 rfl (lv_at hl 0 rfl) ?_
          refine fr_1108 C hI shM_0 rfl dX10_first_80 ?_
          refine lv_iload hx hb dX10_first_83 (lv_at hl 2 rfl) ?_
          refine gx_iald C hI shM_28 h dX10_first_85 (fun h => ?_)
          exact h_iret_w C hr hI h dX10_first_86
set_option maxRecDepth 100000 in
set_option maxHeartbeats 4000000 in
theorem c_X10_first (l : Launch) (D : va_G) (t : gT) (ad z : Nat → Nat) (hJ : gJ shM ad) (σ : gS) (x1 : Int32) (x2 : Int32) (q : Int32 × gS) (h : f_X10_first σ x1 x2 = some q) : Met l yX10_first (Cond.code yX10_first cX10_first 5 (some .int) :: lw_tb) (gR 5 149) (gPc shM t ad D z [.ref (ad 0), .int x1, .int x2] σ) (gQi shM t ad D q.1 q.2) 0 0 (gA shM ad) := by
  refine gMet "NineKeysRoundModel" rfl (by decide) hJ (Nat.le_of_ble_eq_true rfl) ?_
  intro p e s m below meth c ls C hr hI hl
  have hx := C.1
  have hb := C.2.1
  have hl : lv_has ls 5 [(0, .ref (ad 0)), (1, .int x1), (2, .int x2)] := hl
  unfold f_X10_first at h
  refine lv_iload_n hx hb dX10_first_0 rfl (lv_at hl 1 rfl) ?_
  refine h_callsi_o (rest := []) C hI hl.1 ys_X10_isShelf k_1237 h (fun q hq => c_X10_isShelf l D t ad z C.2.2.2.2.2.2.1 (σ) x1 q hq) (As := [.int x1]) rfl rfl ⟨Nat.le_of_ble_eq_true rfl, Nat.le_of_ble_eq_true rfl⟩ (Nat.le_of_ble_eq_true rfl) dX10_first_1 (fun q1 H locs h hI => ?_)
  refine hif_eq (tgt := 16) C dX10_first_4 (by decide) h (fun h => ?_) (fun h => ?_)
  · refine lv_iconst hx hb dX10_first_16 ci_m1 ?_
    exact h_iret_w C hr hI h dX10_first_17
  · refine lv_aload_n hx hb dX10_first_7 rfl (lv_at hl 0 rfl) ?_
    refine lv_iload_n hx hb dX10_first_8 rfl (lv_at hl 2 rfl) ?_
    refine lv_i2l (v := ((x2 : Int32).toInt64)) hx hb dX10_first_9 rfl ?_
    refine h_callvi_o (rest := []) C hI hl.1 shM_0 rfl yv_X10_isPost k_1252 h (fun q hq => c_X10_isPost l D t ad z C.2.2.2.2.2.2.1 (σ) ((x2 : Int32).toInt64) q hq) (As := [.long ((x2 : Int32).toInt64)]) rfl rfl ⟨Nat.le_of_ble_eq_true rfl, Nat.le_of_ble_eq_true rfl⟩ (Nat.le_of_ble_eq_true rfl) dX10_first_10 (fun q2 H locs h hI => ?_)
    refine hif_ne (tgt := 18) C dX10_first_13 (by decide) h (fun h => ?_) (fun h => ?_)
    · refine lv_aload_n hx hb dX10_first_18 rfl (lv_at hl 0 rfl) ?_
      refine lv_iload_n hx hb dX10_first_19 rfl (lv_at hl 1 rfl) ?_
      refine lv_iconst hx hb dX10_first_20 ci_0 ?_
      refine h_callvi_o (rest := []) C hI hl.1 shM_0 rfl yv_X10_noRow k_1338 h (fun q hq => c_X10_noRow l D t ad z C.2.2.2.2.2.2.1 (σ) x1 0 q hq) (As := [.int x1, .int 0]) rfl rfl ⟨Nat.le_of_ble_eq_true rfl, Nat.le_of_ble_eq_true rfl⟩ (Nat.le_of_ble_eq_true rfl) dX10_first_21 (fun q3 H locs h hI => ?_)
      refine lv_istore_n (lv' := [(3, .int q3), (0, .ref (ad 0)), (1, .int x1), (2, .int x2)]) hx hb dX10_first_24 rfl hl (by decide) rfl (fun ls hl => ?_)
      refine lv_iload_n hx hb dX10_first_25 rfl (lv_at hl 0 rfl) ?_
      refine hif_ge (tgt := 31) C dX10_first_26 (by decide) h (fun h => ?_) (fun h => ?_)
      · refine lv_aload_n hx hb dX10_first_31 rfl (lv_at hl 1 rfl) ?_
        refine lv_iload_n hx hb dX10_first_32 rfl (lv_at hl 2 rfl) ?_
        refine h_callvv_w (rest := []) C hI hl.1 shM_0 rfl yv_X10_reads k_1342 h (fun q hq => c_X10_reads l D t ad z C.2.2.2.2.2.2.1 (σ) x1 q hq) (As := [.int x1]) rfl rfl ⟨Nat.le_of_ble_eq_true rfl, Nat.le_of_ble_eq_true rfl⟩ (Nat.le_of_ble_eq_true rfl) dX10_first_33 (fun q4 H locs h hI => ?_)
        refine lv_aload_n hx hb dX10_first_36 rfl (lv_at hl 1 rfl) ?_
        refine lv_sipush hx hb dX10_first_37 cs_4000 ?_
        refine h_callvv_w (rest := []) C hI hl.1 shM_0 rfl yv_X10_walks k_1375 h (fun q hq => c_X10_walks l D t ad z C.2.2.2.2.2.2.1 q4 4000 q hq) (As := [.int 4000]) rfl rfl ⟨Nat.le_of_ble_eq_true rfl, Nat.le_of_ble_eq_true rfl⟩ (Nat.le_of_ble_eq_true rfl) dX10_first_40 (fun q5 H locs h hI => ?_)
        refine lv_iconst hx hb dX10_first_43 ci_0 ?_
        refine lv_istore (lv' := [(4, .int 0), (3, .int q3), (0, .ref (ad 0)), (1, .int x1), (2, .int x2)]) hx hb dX10_first_44 hl (by decide) rfl (fun ls hl => ?_)
        exact w_X10_first_46 C hr    _ _ _ _ _ _ _  h hI (lv_sub hl [2, 4, 0] rfl)
      · refine lv_iload_n hx hb dX10_first_29 rfl (lv_at hl 0 rfl) ?_
        exact h_iret_w C hr hI h dX10_first_30
    · refine lv_iconst hx hb dX10_first_16 ci_m1 ?_
      exact h_iret_w C hr hI h dX10_first_17
set_option maxRecDepth 100000 in
set_option maxHeartbeats 4000000 in
theorem w_X10_by_82 {p : Program} {l : Launch} {e : Env} {s : State} {m : MethodId} {args : Array Value} {below : List Frame} {meth : Method} {c : Code} {D : va_G} {t : gT} {ad z : Nat → Nat} (C : gC p s m args meth c cX10_by 6 "NineKeysRoundModel" D t shM ad z) (hr : meth.sig.returnType = some .int) {r : Int32 × gS} : ∀ (x3 : Int32) (x5 : Int32) (σ : gS) (H : Heap) (locs : List Loc) (ls : Array Slot), f_X10_by_82 x3 x5 σ = some r → gI shM t ad D s.heap σ H locs → lv_has ls 6 [(0, .ref (ad 0)), (3, .int x3), (5, .int x5)] → W p l e (gR 5 149) s m args below meth c H locs 0 0 (MQ below (gQi shM t ad D r.1 r.2) args s 0 0 (gA shM ad)) (F0 m 82 ls []) := by
  have hx := C.1
  have hb := C.2.1
  intro x3 x5 σ H locs ls  h hI hl
  unfold f_X10_by_82 at h
  refine lv_iload_n hx hb dX10_by_82 rfl (lv_at hl 1 rfl) ?_
  refine lv_iconst hx hb dX10_by_83 ci_1 ?_
  refine hicmp_ne (tgt := 92) C dX10_by_84 (by decide) h (fun h => ?_) (fun h => ?_)
  · refine lv_iload hx hb dX10_by_92 (lv_at hl 2 rfl) ?_
    refine hif_ne (tgt := 102) C dX10_by_94 (by decide) h (fun h => ?_) (fun h => ?_)
    · refine lv_aload_n hx hb dX10_by_102 rfl (lv_at hl 0 rfl) ?_
      refine fr_1109 C hI shM_0 rfl dX10_by_103 ?_
      refine lv_iload hx hb dX10_by_106 (lv_at hl 2 rfl) ?_
      refine lv_iconst hx hb dX10_by_108 ci_1 ?_
      refine lv_isub hx hb dX10_by_109 ?_
      refine gx_iald C hI shM_29 h dX10_by_110 (fun h => ?_)
      exact h_iret_w C hr hI h dX10_by_111
    · refine lv_bipush hx hb dX10_by_97 cb_m2 ?_
      refine lv_goto (tgt := 111) hx hb dX10_by_99 (by decide) ?_
      exact h_iret_w C hr hI h dX10_by_111
  · refine lv_iload hx hb dX10_by_87 (lv_at hl 2 rfl) ?_
    refine lv_goto (tgt := 111) hx hb dX10_by_89 (by decide) ?_
    exact h_iret_w C hr hI h dX10_by_111
set_option maxRecDepth 100000 in
set_option maxHeartbeats 4000000 in
theorem w_X10_by_56 {p : Program} {l : Launch} {e : Env} {s : State} {m : MethodId} {args : Array Value} {below : List Frame} {meth : Method} {c : Code} {D : va_G} {t : gT} {ad z : Nat → Nat} (C : gC p s m args meth c cX10_by 6 "NineKeysRoundModel" D t shM ad z) (hr : meth.sig.returnType = some .int) {r : Int32 × gS} : ∀ (n : Nat) (x2 : Int32) (x3 : Int32) (x5 : Int32) (σ : gS) (H : Heap) (locs : List Loc) (ls : Array Slot), f_X10_by_56 n x2 x3 x5 σ = some r → gI shM t ad D s.heap σ H locs → lv_has ls 6 [(0, .ref (ad 0)), (2, .int x2), (3, .int x3), (5, .int x5)] → W p l e (gR 5 149) s m args below meth c H locs 0 0 (MQ below (gQi shM t ad D r.1 r.2) args s 0 0 (gA shM ad)) (F0 m 56 ls []) := by
  have hx := C.1
  have hb := C.2.1
  intro n
  induction n with
  | zero =>
    intro x2 x3 x5 σ H locs ls  h
    exact absurd h (by simp [f_X10_by_56])
  | succ n ih =>
    intro x2 x3 x5 σ H locs ls  h hI hl
    unfold f_X10_by_56 at h
    refine lv_iload hx hb dX10_by_56 (lv_at hl 3 rfl) ?_
    refine lv_aload_n hx hb dX10_by_58 rfl (lv_at hl 0 rfl) ?_
    refine fg_1107 C hI shM_0 rfl dX10_by_59 ?_
    refine hicmp_ge (tgt := 82) C dX10_by_62 (by decide) h (fun h => ?_) (fun h => ?_)
    · exact w_X10_by_82 C hr    _ _ _ _ _ _  h hI (lv_sub hl [0, 2, 3] rfl)
    · refine lv_aload_n hx hb dX10_by_65 rfl (lv_at hl 0 rfl) ?_
      refine fr_1108 C hI shM_0 rfl dX10_by_66 ?_
      refine lv_iload hx hb dX10_by_69 (lv_at hl 3 rfl) ?_
      refine gx_iald C hI shM_28 h dX10_by_71 (fun h => ?_)
      refine lv_iload_n hx hb dX10_by_72 rfl (lv_at hl 1 rfl) ?_
      refine hicmp_gt (tgt := 82) C dX10_by_73 (by decide) h (fun h => ?_) (fun h => ?_)
      · exact w_X10_by_82 C hr    _ _ _ _ _ _  h hI (lv_sub hl [0, 2, 3] rfl)
      · refine h_iinc C hl dX10_by_76 3 rfl ci_1 h (by decide) (lvf := fun v1 => [(5, .int v1), (0, .ref (ad 0)), (2, .int x2), (3, .int x3)]) (fun _ => rfl) (fun v1 ls h hl => ?_)
        refine lv_goto (tgt := 56) hx hb dX10_by_79 (by decide) ?_
        exact ih _ _ _ _ _ _ _  h hI (lv_sub hl [1, 2, 3, 0] rfl)
set_option maxRecDepth 100000 in
set_option maxHeartbeats 4000000 in
theorem c_X10_by (l : Launch) (D : va_G) (t : gT) (ad z : Nat → Nat) (hJ : gJ shM ad) (σ : gS) (x1 : Int32) (x2 : Int32) (x3 : Int32) (q : Int32 × gS) (h : f_X10_by σ x1 x2 x3 = some q) : Met l yX10_by (Cond.code yX10_by cX10_by 6 (some .int) :: lw_tb) (gR 5 149) (gPc shM t ad D z [.ref (ad 0), .int x1, .int x2, .int x3] σ) (gQi shM t ad D q.1 q.2) 0 0 (gA shM ad) := by
  refine gMet "NineKeysRoundModel" rfl (by decide) hJ (Nat.le_of_ble_eq_true rfl) ?_
  intro p e s m below meth c ls C hr hI hl
  have hx := C.1
  have hb := C.2.1
  have hl : lv_has ls 6 [(0, .ref (ad 0)), (1, .int x1), (2, .int x2), (3, .int x3)] := hl
  unfold f_X10_by at h
  refine lv_iload_n hx hb dX10_by_0 rfl (lv_at hl 1 rfl) ?_
  refine h_callsi_o (rest := []) C hI hl.1 ys_X10_isShelf k_1237 h (fun q hq => c_X10_isShelf l D t ad z C.2.2.2.2.2.2.1 (σ) x1 q hq) (As := [.int x1]) rfl rfl ⟨Nat.le_of_ble_eq_true rfl, Nat.le_of_ble_eq_true rfl⟩ (Nat.le_of_ble_eq_true rfl) dX10_by_1 (fun q1 H locs h hI => ?_)
  refine hif_eq (tgt := 23) C dX10_by_4 (by decide) h (fun h => ?_) (fun h => ?_)
  · refine lv_iconst hx hb dX10_by_23 ci_m1 ?_
    exact h_iret_w C hr hI h dX10_by_24
  · refine lv_iload_n hx hb dX10_by_7 rfl (lv_at hl 2 rfl) ?_
    refine h_callsi_o (rest := []) C hI hl.1 ys_X10_isMinute k_1383 h (fun q hq => c_X10_isMinute l D t ad z C.2.2.2.2.2.2.1 (σ) x2 q hq) (As := [.int x2]) rfl rfl ⟨Nat.le_of_ble_eq_true rfl, Nat.le_of_ble_eq_true rfl⟩ (Nat.le_of_ble_eq_true rfl) dX10_by_8 (fun q2 H locs h hI => ?_)
    refine hif_eq (tgt := 23) C dX10_by_11 (by decide) h (fun h => ?_) (fun h => ?_)
    · refine lv_iconst hx hb dX10_by_23 ci_m1 ?_
      exact h_iret_w C hr hI h dX10_by_24
    · refine lv_iload_n hx hb dX10_by_14 rfl (lv_at hl 3 rfl) ?_
      refine lv_iconst hx hb dX10_by_15 ci_0 ?_
      refine lv_iconst hx hb dX10_by_16 ci_1 ?_
      refine h_callsi_o (rest := []) C hI hl.1 ys_X10_within k_1240 h (fun q hq => c_X10_within l D t ad z C.2.2.2.2.2.2.1 (σ) x3 0 1 q hq) (As := [.int x3, .int 0, .int 1]) rfl rfl ⟨Nat.le_of_ble_eq_true rfl, Nat.le_of_ble_eq_true rfl⟩ (Nat.le_of_ble_eq_true rfl) dX10_by_17 (fun q3 H locs h hI => ?_)
      refine hif_ne (tgt := 25) C dX10_by_20 (by decide) h (fun h => ?_) (fun h => ?_)
      · refine lv_aload_n hx hb dX10_by_25 rfl (lv_at hl 0 rfl) ?_
        refine lv_iload_n hx hb dX10_by_26 rfl (lv_at hl 1 rfl) ?_
        refine lv_iconst hx hb dX10_by_27 ci_0 ?_
        refine h_callvi_o (rest := []) C hI hl.1 shM_0 rfl yv_X10_noRow k_1338 h (fun q hq => c_X10_noRow l D t ad z C.2.2.2.2.2.2.1 (σ) x1 0 q hq) (As := [.int x1, .int 0]) rfl rfl ⟨Nat.le_of_ble_eq_true rfl, Nat.le_of_ble_eq_true rfl⟩ (Nat.le_of_ble_eq_true rfl) dX10_by_28 (fun q4 H locs h hI => ?_)
        refine lv_istore (lv' := [(4, .int q4), (0, .ref (ad 0)), (1, .int x1), (2, .int x2), (3, .int x3)]) hx hb dX10_by_31 hl (by decide) rfl (fun ls hl => ?_)
        refine lv_iload hx hb dX10_by_33 (lv_at hl 0 rfl) ?_
        refine hif_ge (tgt := 41) C dX10_by_35 (by decide) h (fun h => ?_) (fun h => ?_)
        · refine lv_aload_n hx hb dX10_by_41 rfl (lv_at hl 1 rfl) ?_
          refine lv_iload_n hx hb dX10_by_42 rfl (lv_at hl 2 rfl) ?_
          refine h_callvv_w (rest := []) C hI hl.1 shM_0 rfl yv_X10_reads k_1342 h (fun q hq => c_X10_reads l D t ad z C.2.2.2.2.2.2.1 (σ) x1 q hq) (As := [.int x1]) rfl rfl ⟨Nat.le_of_ble_eq_true rfl, Nat.le_of_ble_eq_true rfl⟩ (Nat.le_of_ble_eq_true rfl) dX10_by_43 (fun q5 H locs h hI => ?_)
          refine lv_aload_n hx hb dX10_by_46 rfl (lv_at hl 1 rfl) ?_
          refine lv_sipush hx hb dX10_by_47 cs_4000 ?_
          refine h_callvv_w (rest := []) C hI hl.1 shM_0 rfl yv_X10_walks k_1375 h (fun q hq => c_X10_walks l D t ad z C.2.2.2.2.2.2.1 q5 4000 q hq) (As := [.int 4000]) rfl rfl ⟨Nat.le_of_ble_eq_true rfl, Nat.le_of_ble_eq_true rfl⟩ (Nat.le_of_ble_eq_true rfl) dX10_by_50 (fun q6 H locs h hI => ?_)
          refine lv_iconst hx hb dX10_by_53 ci_0 ?_
          refine lv_istore (lv' := [(5, .int 0), (4, .int q4), (0, .ref (ad 0)), (1, .int x1), (2, .int x2), (3, .int x3)]) hx hb dX10_by_54 hl (by decide) rfl (fun ls hl => ?_)
          exact w_X10_by_56 C hr    _ _ _ _ _ _ _ _  h hI (lv_sub hl [2, 4, 5, 0] rfl)
        · refine lv_iload hx hb dX10_by_38 (lv_at hl 0 rfl) ?_
          exact h_iret_w C hr hI h dX10_by_40
      · refine lv_iconst hx hb dX10_by_23 ci_m1 ?_
        exact h_iret_w C hr hI h dX10_by_24
set_option maxRecDepth 100000 in
set_option maxHeartbeats 4000000 in
theorem c_X10_unseen (l : Launch) (D : va_G) (t : gT) (ad z : Nat → Nat) (hJ : gJ shM ad) (σ : gS) (x1 : Int32) (x2 : Int32) (x3 : Int32) (x4 : Int32) (q : Int32 × gS) (h : f_X10_unseen σ x1 x2 x3 x4 = some q) : Met l yX10_unseen (Cond.code yX10_unseen cX10_unseen 6 (some .int) :: lw_tb) (gR 6 171) (gPc shM t ad D z [.ref (ad 0), .int x1, .int x2, .int x3, .int x4] σ) (gQi shM t ad D q.1 q.2) 0 0 (gA shM ad) := by
  refine gMet "NineKeysRoundModel" rfl (by decide) hJ (Nat.le_of_ble_eq_true rfl) ?_
  intro p e s m below meth c ls C hr hI hl
  have hx := C.1
  have hb := C.2.1
  have hl : lv_has ls 6 [(0, .ref (ad 0)), (1, .int x1), (2, .int x2), (3, .int x3), (4, .int x4)] := hl
  unfold f_X10_unseen at h
  refine lv_iload_n hx hb dX10_unseen_0 rfl (lv_at hl 1 rfl) ?_
  refine h_callsi_o (rest := []) C hI hl.1 ys_X10_isShelf k_1237 h (fun q hq => c_X10_isShelf l D t ad z C.2.2.2.2.2.2.1 (σ) x1 q hq) (As := [.int x1]) rfl rfl ⟨Nat.le_of_ble_eq_true rfl, Nat.le_of_ble_eq_true rfl⟩ (Nat.le_of_ble_eq_true rfl) dX10_unseen_1 (fun q1 H locs h hI => ?_)
  refine hif_eq (tgt := 33) C dX10_unseen_4 (by decide) h (fun h => ?_) (fun h => ?_)
  · refine lv_iconst hx hb dX10_unseen_33 ci_m1 ?_
    exact h_iret_w C hr hI h dX10_unseen_34
  · refine lv_aload_n hx hb dX10_unseen_7 rfl (lv_at hl 0 rfl) ?_
    refine lv_iload_n hx hb dX10_unseen_8 rfl (lv_at hl 2 rfl) ?_
    refine lv_i2l (v := ((x2 : Int32).toInt64)) hx hb dX10_unseen_9 rfl ?_
    refine h_callvi_o (rest := []) C hI hl.1 shM_0 rfl yv_X10_isPost k_1252 h (fun q hq => c_X10_isPost l D t ad z C.2.2.2.2.2.2.1 (σ) ((x2 : Int32).toInt64) q hq) (As := [.long ((x2 : Int32).toInt64)]) rfl rfl ⟨Nat.le_of_ble_eq_true rfl, Nat.le_of_ble_eq_true rfl⟩ (Nat.le_of_ble_eq_true rfl) dX10_unseen_10 (fun q2 H locs h hI => ?_)
    refine hif_eq (tgt := 33) C dX10_unseen_13 (by decide) h (fun h => ?_) (fun h => ?_)
    · refine lv_iconst hx hb dX10_unseen_33 ci_m1 ?_
      exact h_iret_w C hr hI h dX10_unseen_34
    · refine lv_iload_n hx hb dX10_unseen_16 rfl (lv_at hl 3 rfl) ?_
      refine h_callsi_o (rest := []) C hI hl.1 ys_X10_isMinute k_1383 h (fun q hq => c_X10_isMinute l D t ad z C.2.2.2.2.2.2.1 (σ) x3 q hq) (As := [.int x3]) rfl rfl ⟨Nat.le_of_ble_eq_true rfl, Nat.le_of_ble_eq_true rfl⟩ (Nat.le_of_ble_eq_true rfl) dX10_unseen_17 (fun q3 H locs h hI => ?_)
      refine hif_eq (tgt := 33) C dX10_unseen_20 (by decide) h (fun h => ?_) (fun h => ?_)
      · refine lv_iconst hx hb dX10_unseen_33 ci_m1 ?_
        exact h_iret_w C hr hI h dX10_unseen_34
      · refine lv_iload hx hb dX10_unseen_23 (lv_at hl 4 rfl) ?_
        refine lv_iconst hx hb dX10_unseen_25 ci_0 ?_
        refine lv_iconst hx hb dX10_unseen_26 ci_1 ?_
        refine h_callsi_o (rest := []) C hI hl.1 ys_X10_within k_1240 h (fun q hq => c_X10_within l D t ad z C.2.2.2.2.2.2.1 (σ) x4 0 1 q hq) (As := [.int x4, .int 0, .int 1]) rfl rfl ⟨Nat.le_of_ble_eq_true rfl, Nat.le_of_ble_eq_true rfl⟩ (Nat.le_of_ble_eq_true rfl) dX10_unseen_27 (fun q4 H locs h hI => ?_)
        refine hif_ne (tgt := 35) C dX10_unseen_30 (by decide) h (fun h => ?_) (fun h => ?_)
        · refine lv_aload_n hx hb dX10_unseen_35 rfl (lv_at hl 0 rfl) ?_
          refine lv_iload_n hx hb dX10_unseen_36 rfl (lv_at hl 1 rfl) ?_
          refine lv_iconst hx hb dX10_unseen_37 ci_0 ?_
          refine h_callvi_o (rest := []) C hI hl.1 shM_0 rfl yv_X10_noRow k_1338 h (fun q hq => c_X10_noRow l D t ad z C.2.2.2.2.2.2.1 (σ) x1 0 q hq) (As := [.int x1, .int 0]) rfl rfl ⟨Nat.le_of_ble_eq_true rfl, Nat.le_of_ble_eq_true rfl⟩ (Nat.le_of_ble_eq_true rfl) dX10_unseen_38 (fun q5 H locs h hI => ?_)
          refine lv_istore (lv' := [(5, .int q5), (0, .ref (ad 0)), (1, .int x1), (2, .int x2), (3, .int x3), (4, .int x4)]) hx hb dX10_unseen_41 hl (by decide) rfl (fun ls hl => ?_)
          refine lv_iload hx hb dX10_unseen_43 (lv_at hl 0 rfl) ?_
          refine hif_ge (tgt := 51) C dX10_unseen_45 (by decide) h (fun h => ?_) (fun h => ?_)
          · refine lv_aload_n hx hb dX10_unseen_51 rfl (lv_at hl 1 rfl) ?_
            refine lv_iload_n hx hb dX10_unseen_52 rfl (lv_at hl 2 rfl) ?_
            refine h_callvv_w (rest := []) C hI hl.1 shM_0 rfl yv_X10_reads k_1342 h (fun q hq => c_X10_reads l D t ad z C.2.2.2.2.2.2.1 (σ) x1 q hq) (As := [.int x1]) rfl rfl ⟨Nat.le_of_ble_eq_true rfl, Nat.le_of_ble_eq_true rfl⟩ (Nat.le_of_ble_eq_true rfl) dX10_unseen_53 (fun q6 H locs h hI => ?_)
            refine lv_aload_n hx hb dX10_unseen_56 rfl (lv_at hl 1 rfl) ?_
            refine h_callvv_w (rest := []) C hI hl.1 shM_0 rfl yv_X10_looks k_1390 h (fun q hq => c_X10_looks l D t ad z C.2.2.2.2.2.2.1 q6 q hq) (As := []) rfl rfl ⟨Nat.le_of_ble_eq_true rfl, Nat.le_of_ble_eq_true rfl⟩ (Nat.le_of_ble_eq_true rfl) dX10_unseen_57 (fun q7 H locs h hI => ?_)
            refine lv_iload hx hb dX10_unseen_60 (lv_at hl 5 rfl) ?_
            refine hif_ne (tgt := 74) C dX10_unseen_62 (by decide) h (fun h => ?_) (fun h => ?_)
            · refine lv_aload_n hx hb dX10_unseen_74 rfl (lv_at hl 1 rfl) ?_
              refine lv_iload_n hx hb dX10_unseen_75 rfl (lv_at hl 3 rfl) ?_
              refine lv_iload_n hx hb dX10_unseen_76 rfl (lv_at hl 4 rfl) ?_
              refine h_callvi_o (rest := []) C hI hl.1 shM_0 rfl yv_X10_isSeen k_1398 h (fun q hq => c_X10_isSeen l D t ad z C.2.2.2.2.2.2.1 q7 x2 x3 q hq) (As := [.int x2, .int x3]) rfl rfl ⟨Nat.le_of_ble_eq_true rfl, Nat.le_of_ble_eq_true rfl⟩ (Nat.le_of_ble_eq_true rfl) dX10_unseen_77 (fun q8 H locs h hI => ?_)
              refine hif_eq (tgt := 87) C dX10_unseen_80 (by decide) h (fun h => ?_) (fun h => ?_)
              · refine lv_iconst hx hb dX10_unseen_87 ci_0 ?_
                exact h_iret_w C hr hI h dX10_unseen_88
              · refine lv_iconst hx hb dX10_unseen_83 ci_1 ?_
                refine lv_goto (tgt := 88) hx hb dX10_unseen_84 (by decide) ?_
                exact h_iret_w C hr hI h dX10_unseen_88
            · refine lv_aload_n hx hb dX10_unseen_65 rfl (lv_at hl 1 rfl) ?_
              refine lv_iload_n hx hb dX10_unseen_66 rfl (lv_at hl 3 rfl) ?_
              refine lv_iload_n hx hb dX10_unseen_67 rfl (lv_at hl 4 rfl) ?_
              refine h_callvi_o (rest := []) C hI hl.1 shM_0 rfl yv_X10_unseenFor k_1394 h (fun q hq => c_X10_unseenFor l D t ad z C.2.2.2.2.2.2.1 q7 x2 x3 q hq) (As := [.int x2, .int x3]) rfl rfl ⟨Nat.le_of_ble_eq_true rfl, Nat.le_of_ble_eq_true rfl⟩ (Nat.le_of_ble_eq_true rfl) dX10_unseen_68 (fun q9 H locs h hI => ?_)
              refine lv_goto (tgt := 88) hx hb dX10_unseen_71 (by decide) ?_
              exact h_iret_w C hr hI h dX10_unseen_88
          · refine lv_iload hx hb dX10_unseen_48 (lv_at hl 0 rfl) ?_
            exact h_iret_w C hr hI h dX10_unseen_50
        · refine lv_iconst hx hb dX10_unseen_33 ci_m1 ?_
          exact h_iret_w C hr hI h dX10_unseen_34
set_option maxRecDepth 100000 in
set_option maxHeartbeats 4000000 in
theorem w_X10_lost_105 {p : Program} {l : Launch} {e : Env} {s : State} {m : MethodId} {args : Array Value} {below : List Frame} {meth : Method} {c : Code} {D : va_G} {t : gT} {ad z : Nat → Nat} (C : gC p s m args meth c cX10_lost 9 "NineKeysRoundModel" D t shM ad z) (hr : meth.sig.returnType = some .int) {r : Int32 × gS} (K_75 : Int32 → Int32 → Int32 → Int32 → Int32 → gS → Option (Int32 × gS)) (hK_75 : ∀ (x2 : Int32) (x3 : Int32) (x4 : Int32) (x6 : Int32) (x7 : Int32) (σ : gS) (H : Heap) (locs : List Loc) (ls : Array Slot), K_75 x2 x3 x4 x6 x7 σ = some r → gI shM t ad D s.heap σ H locs → lv_has ls 9 [(0, .ref (ad 0)), (2, .int x2), (3, .int x3), (4, .int x4), (6, .int x6), (7, .int x7)] → W p l e (gR 6 171) s m args below meth c H locs 0 0 (MQ below (gQi shM t ad D r.1 r.2) args s 0 0 (gA shM ad)) (F0 m 75 ls [])) (K_87 : Int32 → Int32 → Int32 → Int32 → Int32 → Int32 → gS → Option (Int32 × gS)) (hK_87 : ∀ (x2 : Int32) (x3 : Int32) (x4 : Int32) (x6 : Int32) (x7 : Int32) (x8 : Int32) (σ : gS) (H : Heap) (locs : List Loc) (ls : Array Slot), K_87 x2 x3 x4 x6 x7 x8 σ = some r → gI shM t ad D s.heap σ H locs → lv_has ls 9 [(0, .ref (ad 0)), (2, .int x2), (3, .int x3), (4, .int x4), (6, .int x6), (7, .int x7), (8, .int x8)] → W p l e (gR 6 171) s m args below meth c H locs 0 0 (MQ below (gQi shM t ad D r.1 r.2) args s 0 0 (gA shM ad)) (F0 m 87 ls [])) : ∀ (x2 : Int32) (x3 : Int32) (x4 : Int32) (x6 : Int32) (x7 : Int32) (x8 : Int32) (σ : gS) (H : Heap) (locs : List Loc) (ls : Array Slot), f_X10_lost_105 K_75 K_87 x2 x3 x4 x6 x7 x8 σ = some r → gI shM t ad D s.heap σ H locs → lv_has ls 9 [(0, .ref (ad 0)), (2, .int x2), (3, .int x3), (4, .int x4), (6, .int x6), (7, .int x7), (8, .int x8)] → W p l e (gR 6 171) s m args below meth c H locs 0 0 (MQ below (gQi shM t ad D r.1 r.2) args s 0 0 (gA shM ad)) (F0 m 105 ls []) := by
  have hx := C.1
  have hb := C.2.1
  intro x2 x3 x4 x6 x7 x8 σ H locs ls  h hI hl
  unfold f_X10_lost_105 at h
  refine lv_aload_n hx hb dX10_lost_105 rfl (lv_at hl 0 rfl) ?_
  refine lv_iload hx hb dX10_lost_106 (lv_at hl 5 rfl) ?_
  refine lv_iload hx hb dX10_lost_108 (lv_at hl 6 rfl) ?_
  refine h_callvi_o (rest := []) C hI hl.1 shM_0 rfl yv_X10_isSeen k_1398 h (fun q hq => c_X10_isSeen l D t ad z C.2.2.2.2.2.2.1 (σ) x7 x8 q hq) (As := [.int x7, .int x8]) rfl rfl ⟨Nat.le_of_ble_eq_true rfl, Nat.le_of_ble_eq_true rfl⟩ (Nat.le_of_ble_eq_true rfl) dX10_lost_110 (fun q1 H locs h hI => ?_)
  refine hif_ne (tgt := 137) C dX10_lost_113 (by decide) h (fun h => ?_) (fun h => ?_)
  · refine h_iinc C hl dX10_lost_137 6 rfl ci_1 h (by decide) (lvf := fun v2 => [(8, .int v2), (0, .ref (ad 0)), (2, .int x2), (3, .int x3), (4, .int x4), (6, .int x6), (7, .int x7)]) (fun _ => rfl) (fun v2 ls h hl => ?_)
    refine lv_goto (tgt := 87) hx hb dX10_lost_140 (by decide) ?_
    exact hK_87 _ _ _ _ _ _ _ _ _ _  h hI (lv_sub hl [1, 2, 3, 4, 5, 6, 0] rfl)
  · refine lv_iload hx hb dX10_lost_116 (lv_at hl 4 rfl) ?_
    refine lv_aload_n hx hb dX10_lost_118 rfl (lv_at hl 0 rfl) ?_
    refine lv_iload hx hb dX10_lost_119 (lv_at hl 5 rfl) ?_
    refine lv_aload_n hx hb dX10_lost_121 rfl (lv_at hl 0 rfl) ?_
    refine lv_iload hx hb dX10_lost_122 (lv_at hl 5 rfl) ?_
    refine lv_iload hx hb dX10_lost_124 (lv_at hl 6 rfl) ?_
    refine h_callvi_o (rest := [.int x7, .ref (ad 0), .int x6]) C hI hl.1 shM_0 rfl yv_X10_unseenFor k_1394 h (fun q hq => c_X10_unseenFor l D t ad z C.2.2.2.2.2.2.1 (σ) x7 x8 q hq) (As := [.int x7, .int x8]) rfl rfl ⟨Nat.le_of_ble_eq_true rfl, Nat.le_of_ble_eq_true rfl⟩ (Nat.le_of_ble_eq_true rfl) dX10_lost_126 (fun q3 H locs h hI => ?_)
    refine lv_iload hx hb dX10_lost_129 (lv_at hl 6 rfl) ?_
    refine h_callvi_w (rest := [.int x6]) C hI hl.1 shM_0 rfl yv_X10_loss k_1407 h (fun q hq => c_X10_loss l D t ad z C.2.2.2.2.2.2.1 (σ) x7 q3 x8 q hq) (As := [.int x7, .int q3, .int x8]) rfl rfl ⟨Nat.le_of_ble_eq_true rfl, Nat.le_of_ble_eq_true rfl⟩ (Nat.le_of_ble_eq_true rfl) dX10_lost_131 (fun q4 H locs h hI => ?_)
    refine lv_iadd hx hb dX10_lost_134 ?_
    refine gx_topi h (fun v5 h => ?_)
    refine lv_istore (lv' := [(6, .int v5), (0, .ref (ad 0)), (2, .int x2), (3, .int x3), (4, .int x4), (7, .int x7), (8, .int x8)]) hx hb dX10_lost_135 hl (by decide) rfl (fun ls hl => ?_)
    refine h_iinc C hl dX10_lost_137 6 rfl ci_1 h (by decide) (lvf := fun v6 => [(8, .int v6), (6, .int v5), (0, .ref (ad 0)), (2, .int x2), (3, .int x3), (4, .int x4), (7, .int x7)]) (fun _ => rfl) (fun v6 ls h hl => ?_)
    refine lv_goto (tgt := 87) hx hb dX10_lost_140 (by decide) ?_
    exact hK_87 _ _ _ _ _ _ _ _ _ _  h hI (lv_sub hl [2, 3, 4, 5, 1, 6, 0] rfl)
set_option maxRecDepth 100000 in
set_option maxHeartbeats 4000000 in
theorem w_X10_lost_87 {p : Program} {l : Launch} {e : Env} {s : State} {m : MethodId} {args : Array Value} {below : List Frame} {meth : Method} {c : Code} {D : va_G} {t : gT} {ad z : Nat → Nat} (C : gC p s m args meth c cX10_lost 9 "NineKeysRoundModel" D t shM ad z) (hr : meth.sig.returnType = some .int) {r : Int32 × gS} (K_75 : Int32 → Int32 → Int32 → Int32 → Int32 → gS → Option (Int32 × gS)) (hK_75 : ∀ (x2 : Int32) (x3 : Int32) (x4 : Int32) (x6 : Int32) (x7 : Int32) (σ : gS) (H : Heap) (locs : List Loc) (ls : Array Slot), K_75 x2 x3 x4 x6 x7 σ = some r → gI shM t ad D s.heap σ H locs → lv_has ls 9 [(0, .ref (ad 0)), (2, .int x2), (3, .int x3), (4, .int x4), (6, .int x6), (7, .int x7)] → W p l e (gR 6 171) s m args below meth c H locs 0 0 (MQ below (gQi shM t ad D r.1 r.2) args s 0 0 (gA shM ad)) (F0 m 75 ls [])) : ∀ (n : Nat) (x2 : Int32) (x3 : Int32) (x4 : Int32) (x6 : Int32) (x7 : Int32) (x8 : Int32) (σ : gS) (H : Heap) (locs : List Loc) (ls : Array Slot), f_X10_lost_87 K_75 n x2 x3 x4 x6 x7 x8 σ = some r → gI shM t ad D s.heap σ H locs → lv_has ls 9 [(0, .ref (ad 0)), (2, .int x2), (3, .int x3), (4, .int x4), (6, .int x6), (7, .int x7), (8, .int x8)] → W p l e (gR 6 171) s m args below meth c H locs 0 0 (MQ below (gQi shM t ad D r.1 r.2) args s 0 0 (gA shM ad)) (F0 m 87 ls []) := by
  have hx := C.1
  have hb := C.2.1
  intro n
  induction n with
  | zero =>
    intro x2 x3 x4 x6 x7 x8 σ H locs ls  h
    exact absurd h (by simp [f_X10_lost_87])
  | succ n ih =>
    intro x2 x3 x4 x6 x7 x8 σ H locs ls  h hI hl
    unfold f_X10_lost_87 at h
    refine lv_iload hx hb dX10_lost_87 (lv_at hl 6 rfl) ?_
    refine lv_iload hx hb dX10_lost_89 (lv_at hl 3 rfl) ?_
    refine hicmp_gt (tgt := 143) C dX10_lost_91 (by decide) h (fun h => ?_) (fun h => ?_)
    · refine h_iinc C hl dX10_lost_143 5 rfl ci_1 h (by decide) (lvf := fun v1 => [(7, .int v1), (0, .ref (ad 0)), (2, .int x2), (3, .int x3), (4, .int x4), (6, .int x6), (8, .int x8)]) (fun _ => rfl) (fun v1 ls h hl => ?_)
      refine lv_goto (tgt := 75) hx hb dX10_lost_146 (by decide) ?_
      exact hK_75 _ _ _ _ _ _ _ _ _  h hI (lv_sub hl [1, 2, 3, 4, 5, 0] rfl)
    · refine lv_iload_n hx hb dX10_lost_94 rfl (lv_at hl 1 rfl) ?_
      refine lv_iconst hx hb dX10_lost_95 ci_m1 ?_
      refine hicmp_eq (tgt := 105) C dX10_lost_96 (by decide) h (fun h => ?_) (fun h => ?_)
      · exact w_X10_lost_105 C hr   _ hK_75 _ ih _ _ _ _ _ _ _ _ _ _  h hI (lv_sub hl [0, 1, 2, 3, 4, 5, 6] rfl)
      · refine lv_iload_n hx hb dX10_lost_99 rfl (lv_at hl 1 rfl) ?_
        refine lv_iload hx hb dX10_lost_100 (lv_at hl 5 rfl) ?_
        refine hicmp_ne (tgt := 137) C dX10_lost_102 (by decide) h (fun h => ?_) (fun h => ?_)
        · refine h_iinc C hl dX10_lost_137 6 rfl ci_1 h (by decide) (lvf := fun v2 => [(8, .int v2), (0, .ref (ad 0)), (2, .int x2), (3, .int x3), (4, .int x4), (6, .int x6), (7, .int x7)]) (fun _ => rfl) (fun v2 ls h hl => ?_)
          refine lv_goto (tgt := 87) hx hb dX10_lost_140 (by decide) ?_
          exact ih _ _ _ _ _ _ _ _ _ _  h hI (lv_sub hl [1, 2, 3, 4, 5, 6, 0] rfl)
        · exact w_X10_lost_105 C hr   _ hK_75 _ ih _ _ _ _ _ _ _ _ _ _  h hI (lv_sub hl [0, 1, 2, 3, 4, 5, 6] rfl)
set_option maxRecDepth 100000 in
set_option maxHeartbeats 4000000 in
theorem w_X10_lost_75 {p : Program} {l : Launch} {e : Env} {s : State} {m : MethodId} {args : Array Value} {below : List Frame} {meth : Method} {c : Code} {D : va_G} {t : gT} {ad z : Nat → Nat} (C : gC p s m args meth c cX10_lost 9 "NineKeysRoundModel" D t shM ad z) (hr : meth.sig.returnType = some .int) {r : Int32 × gS} : ∀ (n : Nat) (x2 : Int32) (x3 : Int32) (x4 : Int32) (x6 : Int32) (x7 : Int32) (σ : gS) (H : Heap) (locs : List Loc) (ls : Array Slot), f_X10_lost_75 n x2 x3 x4 x6 x7 σ = some r → gI shM t ad D s.heap σ H locs → lv_has ls 9 [(0, .ref (ad 0)), (2, .int x2), (3, .int x3), (4, .int x4), (6, .int x6), (7, .int x7)] → W p l e (gR 6 171) s m args below meth c H locs 0 0 (MQ below (gQi shM t ad D r.1 r.2) args s 0 0 (gA shM ad)) (F0 m 75 ls []) := by
  have hx := C.1
  have hb := C.2.1
  intro n
  induction n with
  | zero =>
    intro x2 x3 x4 x6 x7 σ H locs ls  h
    exact absurd h (by simp [f_X10_lost_75])
  | succ n ih =>
    intro x2 x3 x4 x6 x7 σ H locs ls  h hI hl
    unfold f_X10_lost_75 at h
    refine lv_iload hx hb dX10_lost_75 (lv_at hl 5 rfl) ?_
    refine lv_aload_n hx hb dX10_lost_77 rfl (lv_at hl 0 rfl) ?_
    refine fg_1061 C hI shM_0 rfl dX10_lost_78 ?_
    refine hicmp_ge (tgt := 149) C dX10_lost_81 (by decide) h (fun h => ?_) (fun h => ?_)
    · refine lv_iload hx hb dX10_lost_149 (lv_at hl 4 rfl) ?_
      exact h_iret_w C hr hI h dX10_lost_151
    · refine lv_iload_n hx hb dX10_lost_84 rfl (lv_at hl 2 rfl) ?_
      refine lv_istore (lv' := [(8, .int x3), (0, .ref (ad 0)), (2, .int x2), (3, .int x3), (4, .int x4), (6, .int x6), (7, .int x7)]) hx hb dX10_lost_85 hl (by decide) rfl (fun ls hl => ?_)
      exact w_X10_lost_87 C hr   _ ih _ _ _ _ _ _ _ _ _ _ _  h hI (lv_sub hl [1, 2, 3, 4, 5, 6, 0] rfl)
set_option maxRecDepth 100000 in
set_option maxHeartbeats 4000000 in
theorem w_X10_lost_21 {p : Program} {l : Launch} {e : Env} {s : State} {m : MethodId} {args : Array Value} {below : List Frame} {meth : Method} {c : Code} {D : va_G} {t : gT} {ad z : Nat → Nat} (C : gC p s m args meth c cX10_lost 9 "NineKeysRoundModel" D t shM ad z) (hr : meth.sig.returnType = some .int) {r : Int32 × gS} : ∀ (x1 : Int32) (x2 : Int32) (x3 : Int32) (x4 : Int32) (σ : gS) (H : Heap) (locs : List Loc) (ls : Array Slot), f_X10_lost_21 x1 x2 x3 x4 σ = some r → gI shM t ad D s.heap σ H locs → lv_has ls 9 [(0, .ref (ad 0)), (1, .int x1), (2, .int x2), (3, .int x3), (4, .int x4)] → W p l e (gR 6 171) s m args below meth c H locs 0 0 (MQ below (gQi shM t ad D r.1 r.2) args s 0 0 (gA shM ad)) (F0 m 21 ls []) := by
  have hx := C.1
  have hb := C.2.1
  intro x1 x2 x3 x4 σ H locs ls  h hI hl
  unfold f_X10_lost_21 at h
  refine lv_iload_n hx hb dX10_lost_21 rfl (lv_at hl 3 rfl) ?_
  refine h_callsi_o (rest := []) C hI hl.1 ys_X10_isMinute k_1383 h (fun q hq => c_X10_isMinute l D t ad z C.2.2.2.2.2.2.1 (σ) x3 q hq) (As := [.int x3]) rfl rfl ⟨Nat.le_of_ble_eq_true rfl, Nat.le_of_ble_eq_true rfl⟩ (Nat.le_of_ble_eq_true rfl) dX10_lost_22 (fun q1 H locs h hI => ?_)
  refine hif_eq (tgt := 42) C dX10_lost_25 (by decide) h (fun h => ?_) (fun h => ?_)
  · refine lv_iconst hx hb dX10_lost_42 ci_m1 ?_
    exact h_iret_w C hr hI h dX10_lost_43
  · refine lv_iload hx hb dX10_lost_28 (lv_at hl 4 rfl) ?_
    refine h_callsi_o (rest := []) C hI hl.1 ys_X10_isMinute k_1383 h (fun q hq => c_X10_isMinute l D t ad z C.2.2.2.2.2.2.1 (σ) x4 q hq) (As := [.int x4]) rfl rfl ⟨Nat.le_of_ble_eq_true rfl, Nat.le_of_ble_eq_true rfl⟩ (Nat.le_of_ble_eq_true rfl) dX10_lost_30 (fun q2 H locs h hI => ?_)
    refine hif_eq (tgt := 42) C dX10_lost_33 (by decide) h (fun h => ?_) (fun h => ?_)
    · refine lv_iconst hx hb dX10_lost_42 ci_m1 ?_
      exact h_iret_w C hr hI h dX10_lost_43
    · refine lv_iload_n hx hb dX10_lost_36 rfl (lv_at hl 3 rfl) ?_
      refine lv_iload hx hb dX10_lost_37 (lv_at hl 4 rfl) ?_
      refine hicmp_le (tgt := 44) C dX10_lost_39 (by decide) h (fun h => ?_) (fun h => ?_)
      · refine lv_aload_n hx hb dX10_lost_44 rfl (lv_at hl 0 rfl) ?_
        refine lv_iload_n hx hb dX10_lost_45 rfl (lv_at hl 1 rfl) ?_
        refine lv_iconst hx hb dX10_lost_46 ci_0 ?_
        refine h_callvi_o (rest := []) C hI hl.1 shM_0 rfl yv_X10_noRow k_1338 h (fun q hq => c_X10_noRow l D t ad z C.2.2.2.2.2.2.1 (σ) x1 0 q hq) (As := [.int x1, .int 0]) rfl rfl ⟨Nat.le_of_ble_eq_true rfl, Nat.le_of_ble_eq_true rfl⟩ (Nat.le_of_ble_eq_true rfl) dX10_lost_47 (fun q3 H locs h hI => ?_)
        refine lv_istore (lv' := [(5, .int q3), (0, .ref (ad 0)), (1, .int x1), (2, .int x2), (3, .int x3), (4, .int x4)]) hx hb dX10_lost_50 hl (by decide) rfl (fun ls hl => ?_)
        refine lv_iload hx hb dX10_lost_52 (lv_at hl 0 rfl) ?_
        refine hif_ge (tgt := 60) C dX10_lost_54 (by decide) h (fun h => ?_) (fun h => ?_)
        · refine lv_aload_n hx hb dX10_lost_60 rfl (lv_at hl 1 rfl) ?_
          refine lv_iload_n hx hb dX10_lost_61 rfl (lv_at hl 2 rfl) ?_
          refine h_callvv_w (rest := []) C hI hl.1 shM_0 rfl yv_X10_reads k_1342 h (fun q hq => c_X10_reads l D t ad z C.2.2.2.2.2.2.1 (σ) x1 q hq) (As := [.int x1]) rfl rfl ⟨Nat.le_of_ble_eq_true rfl, Nat.le_of_ble_eq_true rfl⟩ (Nat.le_of_ble_eq_true rfl) dX10_lost_62 (fun q4 H locs h hI => ?_)
          refine lv_aload_n hx hb dX10_lost_65 rfl (lv_at hl 1 rfl) ?_
          refine h_callvv_w (rest := []) C hI hl.1 shM_0 rfl yv_X10_looks k_1390 h (fun q hq => c_X10_looks l D t ad z C.2.2.2.2.2.2.1 q4 q hq) (As := []) rfl rfl ⟨Nat.le_of_ble_eq_true rfl, Nat.le_of_ble_eq_true rfl⟩ (Nat.le_of_ble_eq_true rfl) dX10_lost_66 (fun q5 H locs h hI => ?_)
          refine lv_iconst hx hb dX10_lost_69 ci_0 ?_
          refine lv_istore (lv' := [(6, .int 0), (5, .int q3), (0, .ref (ad 0)), (1, .int x1), (2, .int x2), (3, .int x3), (4, .int x4)]) hx hb dX10_lost_70 hl (by decide) rfl (fun ls hl => ?_)
          refine lv_iconst hx hb dX10_lost_72 ci_0 ?_
          refine lv_istore (lv' := [(7, .int 0), (6, .int 0), (5, .int q3), (0, .ref (ad 0)), (1, .int x1), (2, .int x2), (3, .int x3), (4, .int x4)]) hx hb dX10_lost_73 hl (by decide) rfl (fun ls hl => ?_)
          exact w_X10_lost_75 C hr    _ _ _ _ _ _ _ _ _ _  h hI (lv_sub hl [3, 5, 6, 7, 1, 0] rfl)
        · refine lv_iload hx hb dX10_lost_57 (lv_at hl 0 rfl) ?_
          exact h_iret_w C hr hI h dX10_lost_59
      · refine lv_iconst hx hb dX10_lost_42 ci_m1 ?_
        exact h_iret_w C hr hI h dX10_lost_43
set_option maxRecDepth 100000 in
set_option maxHeartbeats 4000000 in
theorem c_X10_lost (l : Launch) (D : va_G) (t : gT) (ad z : Nat → Nat) (hJ : gJ shM ad) (σ : gS) (x1 : Int32) (x2 : Int32) (x3 : Int32) (x4 : Int32) (q : Int32 × gS) (h : f_X10_lost σ x1 x2 x3 x4 = some q) : Met l yX10_lost (Cond.code yX10_lost cX10_lost 9 (some .int) :: lw_tb) (gR 6 171) (gPc shM t ad D z [.ref (ad 0), .int x1, .int x2, .int x3, .int x4] σ) (gQi shM t ad D q.1 q.2) 0 0 (gA shM ad) := by
  refine gMet "NineKeysRoundModel" rfl (by decide) hJ (Nat.le_of_ble_eq_true rfl) ?_
  intro p e s m below meth c ls C hr hI hl
  have hx := C.1
  have hb := C.2.1
  have hl : lv_has ls 9 [(0, .ref (ad 0)), (1, .int x1), (2, .int x2), (3, .int x3), (4, .int x4)] := hl
  unfold f_X10_lost at h
  refine lv_iload_n hx hb dX10_lost_0 rfl (lv_at hl 1 rfl) ?_
  refine h_callsi_o (rest := []) C hI hl.1 ys_X10_isShelf k_1237 h (fun q hq => c_X10_isShelf l D t ad z C.2.2.2.2.2.2.1 (σ) x1 q hq) (As := [.int x1]) rfl rfl ⟨Nat.le_of_ble_eq_true rfl, Nat.le_of_ble_eq_true rfl⟩ (Nat.le_of_ble_eq_true rfl) dX10_lost_1 (fun q1 H locs h hI => ?_)
  refine hif_eq (tgt := 42) C dX10_lost_4 (by decide) h (fun h => ?_) (fun h => ?_)
  · refine lv_iconst hx hb dX10_lost_42 ci_m1 ?_
    exact h_iret_w C hr hI h dX10_lost_43
  · refine lv_iload_n hx hb dX10_lost_7 rfl (lv_at hl 2 rfl) ?_
    refine lv_iconst hx hb dX10_lost_8 ci_m1 ?_
    refine hicmp_eq (tgt := 21) C dX10_lost_9 (by decide) h (fun h => ?_) (fun h => ?_)
    · exact w_X10_lost_21 C hr    _ _ _ _ _ _ _ _  h hI (lv_sub hl [0, 1, 2, 3, 4] rfl)
    · refine lv_aload_n hx hb dX10_lost_12 rfl (lv_at hl 0 rfl) ?_
      refine lv_iload_n hx hb dX10_lost_13 rfl (lv_at hl 2 rfl) ?_
      refine lv_i2l (v := ((x2 : Int32).toInt64)) hx hb dX10_lost_14 rfl ?_
      refine h_callvi_o (rest := []) C hI hl.1 shM_0 rfl yv_X10_isPost k_1252 h (fun q hq => c_X10_isPost l D t ad z C.2.2.2.2.2.2.1 (σ) ((x2 : Int32).toInt64) q hq) (As := [.long ((x2 : Int32).toInt64)]) rfl rfl ⟨Nat.le_of_ble_eq_true rfl, Nat.le_of_ble_eq_true rfl⟩ (Nat.le_of_ble_eq_true rfl) dX10_lost_15 (fun q2 H locs h hI => ?_)
      refine hif_eq (tgt := 42) C dX10_lost_18 (by decide) h (fun h => ?_) (fun h => ?_)
      · refine lv_iconst hx hb dX10_lost_42 ci_m1 ?_
        exact h_iret_w C hr hI h dX10_lost_43
      · exact w_X10_lost_21 C hr    _ _ _ _ _ _ _ _  h hI (lv_sub hl [0, 1, 2, 3, 4] rfl)
set_option maxRecDepth 100000 in
set_option maxHeartbeats 4000000 in
theorem w_X10_red_57 {p : Program} {l : Launch} {e : Env} {s : State} {m : MethodId} {args : Array Value} {below : List Frame} {meth : Method} {c : Code} {D : va_G} {t : gT} {ad z : Nat → Nat} (C : gC p s m args meth c cX10_red 6 "NineKeysRoundModel" D t shM ad z) (hr : meth.sig.returnType = some .int) {r : Int32 × gS} : ∀ (n : Nat) (x2 : Int32) (x4 : Int32) (x5 : Int32) (σ : gS) (H : Heap) (locs : List Loc) (ls : Array Slot), f_X10_red_57 n x2 x4 x5 σ = some r → gI shM t ad D s.heap σ H locs → lv_has ls 6 [(0, .ref (ad 0)), (2, .int x2), (4, .int x4), (5, .int x5)] → W p l e (gR 5 149) s m args below meth c H locs 0 0 (MQ below (gQi shM t ad D r.1 r.2) args s 0 0 (gA shM ad)) (F0 m 57 ls []) := by
  have hx := C.1
  have hb := C.2.1
  intro n
  induction n with
  | zero =>
    intro x2 x4 x5 σ H locs ls  h
    exact absurd h (by simp [f_X10_red_57])
  | succ n ih =>
    intro x2 x4 x5 σ H locs ls  h hI hl
    unfold f_X10_red_57 at h
    refine lv_iload hx hb dX10_red_57 (lv_at hl 3 rfl) ?_
    refine lv_aload_n hx hb dX10_red_59 rfl (lv_at hl 0 rfl) ?_
    refine fg_1107 C hI shM_0 rfl dX10_red_60 ?_
    refine hicmp_ge (tgt := 102) C dX10_red_63 (by decide) h (fun h => ?_) (fun h => ?_)
    · refine lv_iload hx hb dX10_red_102 (lv_at hl 2 rfl) ?_
      exact h_iret_w C hr hI h dX10_red_104
    · refine lv_aload_n hx hb dX10_red_66 rfl (lv_at hl 0 rfl) ?_
      refine fr_1108 C hI shM_0 rfl dX10_red_67 ?_
      refine lv_iload hx hb dX10_red_70 (lv_at hl 3 rfl) ?_
      refine gx_iald C hI shM_28 h dX10_red_72 (fun h => ?_)
      refine lv_bipush hx hb dX10_red_73 cb_60 ?_
      refine h_idiv C dX10_red_75 h (fun h => ?_)
      refine lv_iload_n hx hb dX10_red_76 rfl (lv_at hl 1 rfl) ?_
      refine hicmp_ne (tgt := 96) C dX10_red_77 (by decide) h (fun h => ?_) (fun h => ?_)
      · refine h_iinc C hl dX10_red_96 3 rfl ci_1 h (by decide) (lvf := fun v1 => [(5, .int v1), (0, .ref (ad 0)), (2, .int x2), (4, .int x4)]) (fun _ => rfl) (fun v1 ls h hl => ?_)
        refine lv_goto (tgt := 57) hx hb dX10_red_99 (by decide) ?_
        exact ih _ _ _ _ _ _ _  h hI (lv_sub hl [1, 2, 3, 0] rfl)
      · refine lv_iload hx hb dX10_red_80 (lv_at hl 2 rfl) ?_
        refine lv_iconst hx hb dX10_red_82 ci_1 ?_
        refine lv_aload_n hx hb dX10_red_83 rfl (lv_at hl 0 rfl) ?_
        refine fr_1109 C hI shM_0 rfl dX10_red_84 ?_
        refine lv_iload hx hb dX10_red_87 (lv_at hl 3 rfl) ?_
        refine gx_iald C hI shM_29 h dX10_red_89 (fun h => ?_)
        refine lv_ishl hx hb dX10_red_90 ?_
        refine lv_iconst hx hb dX10_red_91 ci_m1 ?_
        refine lv_ixor hx hb dX10_red_92 ?_
        refine lv_iand hx hb dX10_red_93 ?_
        refine gx_topi h (fun v2 h => ?_)
        refine lv_istore (lv' := [(4, .int v2), (0, .ref (ad 0)), (2, .int x2), (5, .int x5)]) hx hb dX10_red_94 hl (by decide) rfl (fun ls hl => ?_)
        refine h_iinc C hl dX10_red_96 3 rfl ci_1 h (by decide) (lvf := fun v3 => [(5, .int v3), (4, .int v2), (0, .ref (ad 0)), (2, .int x2)]) (fun _ => rfl) (fun v3 ls h hl => ?_)
        refine lv_goto (tgt := 57) hx hb dX10_red_99 (by decide) ?_
        exact ih _ _ _ _ _ _ _  h hI (lv_sub hl [2, 3, 1, 0] rfl)
set_option maxRecDepth 100000 in
set_option maxHeartbeats 4000000 in
theorem c_X10_red (l : Launch) (D : va_G) (t : gT) (ad z : Nat → Nat) (hJ : gJ shM ad) (σ : gS) (x1 : Int32) (x2 : Int32) (q : Int32 × gS) (h : f_X10_red σ x1 x2 = some q) : Met l yX10_red (Cond.code yX10_red cX10_red 6 (some .int) :: lw_tb) (gR 5 149) (gPc shM t ad D z [.ref (ad 0), .int x1, .int x2] σ) (gQi shM t ad D q.1 q.2) 0 0 (gA shM ad) := by
  refine gMet "NineKeysRoundModel" rfl (by decide) hJ (Nat.le_of_ble_eq_true rfl) ?_
  intro p e s m below meth c ls C hr hI hl
  have hx := C.1
  have hb := C.2.1
  have hl : lv_has ls 6 [(0, .ref (ad 0)), (1, .int x1), (2, .int x2)] := hl
  unfold f_X10_red at h
  refine lv_iload_n hx hb dX10_red_0 rfl (lv_at hl 1 rfl) ?_
  refine h_callsi_o (rest := []) C hI hl.1 ys_X10_isShelf k_1237 h (fun q hq => c_X10_isShelf l D t ad z C.2.2.2.2.2.2.1 (σ) x1 q hq) (As := [.int x1]) rfl rfl ⟨Nat.le_of_ble_eq_true rfl, Nat.le_of_ble_eq_true rfl⟩ (Nat.le_of_ble_eq_true rfl) dX10_red_1 (fun q1 H locs h hI => ?_)
  refine hif_eq (tgt := 17) C dX10_red_4 (by decide) h (fun h => ?_) (fun h => ?_)
  · refine lv_iconst hx hb dX10_red_17 ci_m1 ?_
    exact h_iret_w C hr hI h dX10_red_18
  · refine lv_iload_n hx hb dX10_red_7 rfl (lv_at hl 2 rfl) ?_
    refine lv_iconst hx hb dX10_red_8 ci_0 ?_
    refine lv_bipush hx hb dX10_red_9 cb_15 ?_
    refine h_callsi_o (rest := []) C hI hl.1 ys_X10_within k_1240 h (fun q hq => c_X10_within l D t ad z C.2.2.2.2.2.2.1 (σ) x2 0 15 q hq) (As := [.int x2, .int 0, .int 15]) rfl rfl ⟨Nat.le_of_ble_eq_true rfl, Nat.le_of_ble_eq_true rfl⟩ (Nat.le_of_ble_eq_true rfl) dX10_red_11 (fun q2 H locs h hI => ?_)
    refine hif_ne (tgt := 19) C dX10_red_14 (by decide) h (fun h => ?_) (fun h => ?_)
    · refine lv_aload_n hx hb dX10_red_19 rfl (lv_at hl 0 rfl) ?_
      refine lv_iload_n hx hb dX10_red_20 rfl (lv_at hl 1 rfl) ?_
      refine lv_iconst hx hb dX10_red_21 ci_0 ?_
      refine h_callvi_o (rest := []) C hI hl.1 shM_0 rfl yv_X10_noRow k_1338 h (fun q hq => c_X10_noRow l D t ad z C.2.2.2.2.2.2.1 (σ) x1 0 q hq) (As := [.int x1, .int 0]) rfl rfl ⟨Nat.le_of_ble_eq_true rfl, Nat.le_of_ble_eq_true rfl⟩ (Nat.le_of_ble_eq_true rfl) dX10_red_22 (fun q3 H locs h hI => ?_)
      refine lv_istore_n (lv' := [(3, .int q3), (0, .ref (ad 0)), (1, .int x1), (2, .int x2)]) hx hb dX10_red_25 rfl hl (by decide) rfl (fun ls hl => ?_)
      refine lv_iload_n hx hb dX10_red_26 rfl (lv_at hl 0 rfl) ?_
      refine hif_ge (tgt := 32) C dX10_red_27 (by decide) h (fun h => ?_) (fun h => ?_)
      · refine lv_aload_n hx hb dX10_red_32 rfl (lv_at hl 1 rfl) ?_
        refine lv_iload_n hx hb dX10_red_33 rfl (lv_at hl 2 rfl) ?_
        refine h_callvv_w (rest := []) C hI hl.1 shM_0 rfl yv_X10_reads k_1342 h (fun q hq => c_X10_reads l D t ad z C.2.2.2.2.2.2.1 (σ) x1 q hq) (As := [.int x1]) rfl rfl ⟨Nat.le_of_ble_eq_true rfl, Nat.le_of_ble_eq_true rfl⟩ (Nat.le_of_ble_eq_true rfl) dX10_red_34 (fun q4 H locs h hI => ?_)
        refine lv_aload_n hx hb dX10_red_37 rfl (lv_at hl 1 rfl) ?_
        refine lv_sipush hx hb dX10_red_38 cs_4000 ?_
        refine h_callvv_w (rest := []) C hI hl.1 shM_0 rfl yv_X10_walks k_1375 h (fun q hq => c_X10_walks l D t ad z C.2.2.2.2.2.2.1 q4 4000 q hq) (As := [.int 4000]) rfl rfl ⟨Nat.le_of_ble_eq_true rfl, Nat.le_of_ble_eq_true rfl⟩ (Nat.le_of_ble_eq_true rfl) dX10_red_41 (fun q5 H locs h hI => ?_)
        refine lv_iconst hx hb dX10_red_44 ci_1 ?_
        refine lv_aload_n hx hb dX10_red_45 rfl (lv_at hl 1 rfl) ?_
        refine fg_1061 C hI shM_0 rfl dX10_red_46 ?_
        refine lv_ishl hx hb dX10_red_49 ?_
        refine lv_iconst hx hb dX10_red_50 ci_1 ?_
        refine lv_isub hx hb dX10_red_51 ?_
        refine gx_topi h (fun v6 h => ?_)
        refine lv_istore (lv' := [(4, .int v6), (3, .int q3), (0, .ref (ad 0)), (1, .int x1), (2, .int x2)]) hx hb dX10_red_52 hl (by decide) rfl (fun ls hl => ?_)
        refine lv_iconst hx hb dX10_red_54 ci_0 ?_
        refine lv_istore (lv' := [(5, .int 0), (4, .int v6), (3, .int q3), (0, .ref (ad 0)), (1, .int x1), (2, .int x2)]) hx hb dX10_red_55 hl (by decide) rfl (fun ls hl => ?_)
        exact w_X10_red_57 C hr    _ _ _ _ _ _ _ _  h hI (lv_sub hl [3, 5, 1, 0] rfl)
      · refine lv_iload_n hx hb dX10_red_30 rfl (lv_at hl 0 rfl) ?_
        exact h_iret_w C hr hI h dX10_red_31
    · refine lv_iconst hx hb dX10_red_17 ci_m1 ?_
      exact h_iret_w C hr hI h dX10_red_18
set_option maxRecDepth 100000 in
set_option maxHeartbeats 4000000 in
theorem w_X10_gapOf_102 {p : Program} {l : Launch} {e : Env} {s : State} {m : MethodId} {args : Array Value} {below : List Frame} {meth : Method} {c : Code} {D : va_G} {t : gT} {ad z : Nat → Nat} {σ : gS} (C : gC p s m args meth c cX10_gapOf 8 "NineKeysRoundModel" D t shM ad z) (hr : meth.sig.returnType = some .int) {r : Int32} (K_41 : Int32 → Int32 → Int32 → Int32 → Int32 → Int32 → Int32 → Option Int32) (hK_41 : ∀ (x1 : Int32) (x2 : Int32) (x3 : Int32) (x4 : Int32) (x5 : Int32) (x6 : Int32) (x7 : Int32) (H : Heap) (locs : List Loc) (ls : Array Slot), K_41 x1 x2 x3 x4 x5 x6 x7 = some r → gI shM t ad D s.heap σ H locs → lv_has ls 8 [(0, .ref (ad 0)), (1, .int x1), (2, .int x2), (3, .int x3), (4, .int x4), (5, .int x5), (6, .int x6), (7, .int x7)] → W p l e (gR 5 147) s m args below meth c H locs 0 0 (MQ below (gQi shM t ad D r σ) args s 0 0 (gA shM ad)) (F0 m 41 ls [])) : ∀ (x1 : Int32) (x2 : Int32) (x3 : Int32) (x4 : Int32) (x5 : Int32) (x6 : Int32) (x7 : Int32) (H : Heap) (locs : List Loc) (ls : Array Slot), f_X10_gapOf_102 σ K_41 x1 x2 x3 x4 x5 x6 x7 = some r → gI shM t ad D s.heap σ H locs → lv_has ls 8 [(0, .ref (ad 0)), (1, .int x1), (2, .int x2), (3, .int x3), (4, .int x4), (5, .int x5), (6, .int x6), (7, .int x7)] → W p l e (gR 5 147) s m args below meth c H locs 0 0 (MQ below (gQi shM t ad D r σ) args s 0 0 (gA shM ad)) (F0 m 102 ls []) := by
  have hx := C.1
  have hb := C.2.1
  intro x1 x2 x3 x4 x5 x6 x7 H locs ls  h hI hl
  unfold f_X10_gapOf_102 at h
  refine lv_iload hx hb dX10_gapOf_102 (lv_at hl 6 rfl) ?_
  refine lv_aload_n hx hb dX10_gapOf_104 rfl (lv_at hl 0 rfl) ?_
  refine fr_1066 C hI shM_0 rfl dX10_gapOf_105 ?_
  refine lv_iconst hx hb dX10_gapOf_108 ci_3 ?_
  refine gx_iald C hI shM_5 h dX10_gapOf_109 (fun h => ?_)
  refine lv_aload_n hx hb dX10_gapOf_110 rfl (lv_at hl 0 rfl) ?_
  refine lv_aload_n hx hb dX10_gapOf_111 rfl (lv_at hl 0 rfl) ?_
  refine fr_1106 C hI shM_0 rfl dX10_gapOf_112 ?_
  refine lv_iload hx hb dX10_gapOf_115 (lv_at hl 7 rfl) ?_
  refine gx_iald C hI shM_27 h dX10_gapOf_117 (fun h => ?_)
  refine lv_aload_n hx hb dX10_gapOf_118 rfl (lv_at hl 0 rfl) ?_
  refine fr_1106 C hI shM_0 rfl dX10_gapOf_119 ?_
  refine lv_iload hx hb dX10_gapOf_122 (lv_at hl 7 rfl) ?_
  refine lv_iconst hx hb dX10_gapOf_124 ci_1 ?_
  refine lv_iadd hx hb dX10_gapOf_125 ?_
  refine lv_aload_n hx hb dX10_gapOf_126 rfl (lv_at hl 0 rfl) ?_
  refine fg_1105 C hI shM_0 rfl dX10_gapOf_127 ?_
  refine h_irem C dX10_gapOf_130 h (fun h => ?_)
  refine gx_iald C hI shM_27 h dX10_gapOf_131 (fun h => ?_)
  refine h_callvi_o (rest := [.int (σ.1 5 (3 : Int32).toNatClampNeg), .int x6]) C hI hl.1 shM_0 rfl yv_X10_minutes k_1354 h (fun q hq => c_X10_minutes l D t ad z C.2.2.2.2.2.2.1 (σ) (σ.1 27 (x7).toNatClampNeg) (σ.1 27 (((x7 + 1) - (x7 + 1) / (σ.1 0 44) * (σ.1 0 44))).toNatClampNeg) q hq) (As := [.int (σ.1 27 (x7).toNatClampNeg), .int (σ.1 27 (((x7 + 1) - (x7 + 1) / (σ.1 0 44) * (σ.1 0 44))).toNatClampNeg)]) rfl rfl ⟨Nat.le_of_ble_eq_true rfl, Nat.le_of_ble_eq_true rfl⟩ (Nat.le_of_ble_eq_true rfl) dX10_gapOf_132 (fun q1 H locs h hI => ?_)
  refine lv_iadd hx hb dX10_gapOf_135 ?_
  refine lv_iadd hx hb dX10_gapOf_136 ?_
  refine gx_topi h (fun v2 h => ?_)
  refine lv_istore (lv' := [(6, .int v2), (0, .ref (ad 0)), (1, .int x1), (2, .int x2), (3, .int x3), (4, .int x4), (5, .int x5), (7, .int x7)]) hx hb dX10_gapOf_137 hl (by decide) rfl (fun ls hl => ?_)
  refine h_iinc C hl dX10_gapOf_139 7 rfl ci_1 h (by decide) (lvf := fun v3 => [(7, .int v3), (6, .int v2), (0, .ref (ad 0)), (1, .int x1), (2, .int x2), (3, .int x3), (4, .int x4), (5, .int x5)]) (fun _ => rfl) (fun v3 ls h hl => ?_)
  refine lv_goto (tgt := 41) hx hb dX10_gapOf_142 (by decide) ?_
  exact hK_41 _ _ _ _ _ _ _ _ _ _  h hI (lv_sub hl [2, 3, 4, 5, 6, 7, 1, 0] rfl)
set_option maxRecDepth 100000 in
set_option maxHeartbeats 4000000 in
theorem w_X10_gapOf_98 {p : Program} {l : Launch} {e : Env} {s : State} {m : MethodId} {args : Array Value} {below : List Frame} {meth : Method} {c : Code} {D : va_G} {t : gT} {ad z : Nat → Nat} {σ : gS} (C : gC p s m args meth c cX10_gapOf 8 "NineKeysRoundModel" D t shM ad z) (hr : meth.sig.returnType = some .int) {r : Int32} (K_41 : Int32 → Int32 → Int32 → Int32 → Int32 → Int32 → Int32 → Option Int32) (hK_41 : ∀ (x1 : Int32) (x2 : Int32) (x3 : Int32) (x4 : Int32) (x5 : Int32) (x6 : Int32) (x7 : Int32) (H : Heap) (locs : List Loc) (ls : Array Slot), K_41 x1 x2 x3 x4 x5 x6 x7 = some r → gI shM t ad D s.heap σ H locs → lv_has ls 8 [(0, .ref (ad 0)), (1, .int x1), (2, .int x2), (3, .int x3), (4, .int x4), (5, .int x5), (6, .int x6), (7, .int x7)] → W p l e (gR 5 147) s m args below meth c H locs 0 0 (MQ below (gQi shM t ad D r σ) args s 0 0 (gA shM ad)) (F0 m 41 ls [])) : ∀ (x1 : Int32) (x2 : Int32) (x3 : Int32) (x4 : Int32) (x6 : Int32) (x7 : Int32) (H : Heap) (locs : List Loc) (ls : Array Slot), f_X10_gapOf_98 σ K_41 x1 x2 x3 x4 x6 x7 = some r → gI shM t ad D s.heap σ H locs → lv_has ls 8 [(0, .ref (ad 0)), (1, .int x1), (2, .int x2), (3, .int x3), (4, .int x4), (6, .int x6), (7, .int x7)] → W p l e (gR 5 147) s m args below meth c H locs 0 0 (MQ below (gQi shM t ad D r σ) args s 0 0 (gA shM ad)) (F0 m 98 ls []) := by
  have hx := C.1
  have hb := C.2.1
  intro x1 x2 x3 x4 x6 x7 H locs ls  h hI hl
  unfold f_X10_gapOf_98 at h
  refine lv_iload hx hb dX10_gapOf_98 (lv_at hl 5 rfl) ?_
  refine lv_istore (lv' := [(5, .int x6), (0, .ref (ad 0)), (1, .int x1), (2, .int x2), (3, .int x3), (4, .int x4), (6, .int x6), (7, .int x7)]) hx hb dX10_gapOf_100 hl (by decide) rfl (fun ls hl => ?_)
  exact w_X10_gapOf_102 C hr   _ hK_41 _ _ _ _ _ _ _ _ _ _  h hI (lv_sub hl [1, 2, 3, 4, 5, 0, 6, 7] rfl)
set_option maxRecDepth 100000 in
set_option maxHeartbeats 4000000 in
theorem w_X10_gapOf_85 {p : Program} {l : Launch} {e : Env} {s : State} {m : MethodId} {args : Array Value} {below : List Frame} {meth : Method} {c : Code} {D : va_G} {t : gT} {ad z : Nat → Nat} {σ : gS} (C : gC p s m args meth c cX10_gapOf 8 "NineKeysRoundModel" D t shM ad z) (hr : meth.sig.returnType = some .int) {r : Int32} (K_41 : Int32 → Int32 → Int32 → Int32 → Int32 → Int32 → Int32 → Option Int32) (hK_41 : ∀ (x1 : Int32) (x2 : Int32) (x3 : Int32) (x4 : Int32) (x5 : Int32) (x6 : Int32) (x7 : Int32) (H : Heap) (locs : List Loc) (ls : Array Slot), K_41 x1 x2 x3 x4 x5 x6 x7 = some r → gI shM t ad D s.heap σ H locs → lv_has ls 8 [(0, .ref (ad 0)), (1, .int x1), (2, .int x2), (3, .int x3), (4, .int x4), (5, .int x5), (6, .int x6), (7, .int x7)] → W p l e (gR 5 147) s m args below meth c H locs 0 0 (MQ below (gQi shM t ad D r σ) args s 0 0 (gA shM ad)) (F0 m 41 ls [])) : ∀ (x1 : Int32) (x2 : Int32) (x4 : Int32) (x6 : Int32) (x7 : Int32) (s0 : Int32) (s1 : Int32) (H : Heap) (locs : List Loc) (ls : Array Slot), f_X10_gapOf_85 σ K_41 x1 x2 x4 x6 x7 s0 s1 = some r → gI shM t ad D s.heap σ H locs → lv_has ls 8 [(0, .ref (ad 0)), (1, .int x1), (2, .int x2), (4, .int x4), (6, .int x6), (7, .int x7)] → W p l e (gR 5 147) s m args below meth c H locs 0 0 (MQ below (gQi shM t ad D r σ) args s 0 0 (gA shM ad)) (F0 m 85 ls [.int s0, .int s1]) := by
  have hx := C.1
  have hb := C.2.1
  intro x1 x2 x4 x6 x7 s0 s1 H locs ls  h hI hl
  unfold f_X10_gapOf_85 at h
  refine h_mmax C hl.1 k_1402 ⟨Nat.le_of_ble_eq_true rfl, Nat.le_of_ble_eq_true rfl⟩ ⟨Nat.zero_le _, Nat.zero_le _⟩ dX10_gapOf_85 ?_
  refine gx_topi h (fun v1 h => ?_)
  refine lv_istore_n (lv' := [(3, .int v1), (0, .ref (ad 0)), (1, .int x1), (2, .int x2), (4, .int x4), (6, .int x6), (7, .int x7)]) hx hb dX10_gapOf_88 rfl hl (by decide) rfl (fun ls hl => ?_)
  refine lv_iload hx hb dX10_gapOf_89 (lv_at hl 4 rfl) ?_
  refine hif_ge (tgt := 98) C dX10_gapOf_91 (by decide) h (fun h => ?_) (fun h => ?_)
  · exact w_X10_gapOf_98 C hr   _ hK_41 _ _ _ _ _ _ _ _ _  h hI (lv_sub hl [1, 2, 3, 0, 4, 5, 6] rfl)
  · refine lv_iload hx hb dX10_gapOf_94 (lv_at hl 5 rfl) ?_
    refine lv_istore (lv' := [(4, .int x6), (3, .int v1), (0, .ref (ad 0)), (1, .int x1), (2, .int x2), (6, .int x6), (7, .int x7)]) hx hb dX10_gapOf_96 hl (by decide) rfl (fun ls hl => ?_)
    exact w_X10_gapOf_98 C hr   _ hK_41 _ _ _ _ _ _ _ _ _  h hI (lv_sub hl [2, 3, 4, 1, 0, 5, 6] rfl)
set_option maxRecDepth 100000 in
set_option maxHeartbeats 4000000 in
theorem w_X10_gapOf_41 {p : Program} {l : Launch} {e : Env} {s : State} {m : MethodId} {args : Array Value} {below : List Frame} {meth : Method} {c : Code} {D : va_G} {t : gT} {ad z : Nat → Nat} {σ : gS} (C : gC p s m args meth c cX10_gapOf 8 "NineKeysRoundModel" D t shM ad z) (hr : meth.sig.returnType = some .int) {r : Int32} : ∀ (n : Nat) (x1 : Int32) (x2 : Int32) (x3 : Int32) (x4 : Int32) (x5 : Int32) (x6 : Int32) (x7 : Int32) (H : Heap) (locs : List Loc) (ls : Array Slot), f_X10_gapOf_41 σ n x1 x2 x3 x4 x5 x6 x7 = some r → gI shM t ad D s.heap σ H locs → lv_has ls 8 [(0, .ref (ad 0)), (1, .int x1), (2, .int x2), (3, .int x3), (4, .int x4), (5, .int x5), (6, .int x6), (7, .int x7)] → W p l e (gR 5 147) s m args below meth c H locs 0 0 (MQ below (gQi shM t ad D r σ) args s 0 0 (gA shM ad)) (F0 m 41 ls []) := by
  have hx := C.1
  have hb := C.2.1
  intro n
  induction n with
  | zero =>
    intro x1 x2 x3 x4 x5 x6 x7 H locs ls  h
    exact absurd h (by simp [f_X10_gapOf_41])
  | succ n ih =>
    intro x1 x2 x3 x4 x5 x6 x7 H locs ls  h hI hl
    unfold f_X10_gapOf_41 at h
    refine lv_iload hx hb dX10_gapOf_41 (lv_at hl 7 rfl) ?_
    refine lv_aload_n hx hb dX10_gapOf_43 rfl (lv_at hl 0 rfl) ?_
    refine fg_1105 C hI shM_0 rfl dX10_gapOf_44 ?_
    refine hicmp_ge (tgt := 145) C dX10_gapOf_47 (by decide) h (fun h => ?_) (fun h => ?_)
    · refine lv_iload_n hx hb dX10_gapOf_145 rfl (lv_at hl 3 rfl) ?_
      refine lv_bipush hx hb dX10_gapOf_146 cb_m2 ?_
      refine hicmp_eq (tgt := 155) C dX10_gapOf_148 (by decide) h (fun h => ?_) (fun h => ?_)
      · refine lv_iload_n hx hb dX10_gapOf_155 rfl (lv_at hl 3 rfl) ?_
        refine lv_goto (tgt := 170) hx hb dX10_gapOf_156 (by decide) ?_
        exact h_iret_o C hr hI h dX10_gapOf_170
      · refine lv_iload_n hx hb dX10_gapOf_151 rfl (lv_at hl 2 rfl) ?_
        refine hif_ne (tgt := 159) C dX10_gapOf_152 (by decide) h (fun h => ?_) (fun h => ?_)
        · refine lv_iload_n hx hb dX10_gapOf_159 rfl (lv_at hl 3 rfl) ?_
          refine lv_iload_n hx hb dX10_gapOf_160 rfl (lv_at hl 2 rfl) ?_
          refine lv_iload hx hb dX10_gapOf_161 (lv_at hl 5 rfl) ?_
          refine lv_isub hx hb dX10_gapOf_163 ?_
          refine lv_iload hx hb dX10_gapOf_164 (lv_at hl 4 rfl) ?_
          refine lv_iadd hx hb dX10_gapOf_166 ?_
          refine h_mmax C hl.1 k_1402 ⟨Nat.le_of_ble_eq_true rfl, Nat.le_of_ble_eq_true rfl⟩ ⟨Nat.zero_le _, Nat.zero_le _⟩ dX10_gapOf_167 ?_
          exact h_iret_o C hr hI h dX10_gapOf_170
        · refine lv_iload_n hx hb dX10_gapOf_155 rfl (lv_at hl 3 rfl) ?_
          refine lv_goto (tgt := 170) hx hb dX10_gapOf_156 (by decide) ?_
          exact h_iret_o C hr hI h dX10_gapOf_170
    · refine lv_aload_n hx hb dX10_gapOf_50 rfl (lv_at hl 0 rfl) ?_
      refine fr_1106 C hI shM_0 rfl dX10_gapOf_51 ?_
      refine lv_iload hx hb dX10_gapOf_54 (lv_at hl 7 rfl) ?_
      refine gx_iald C hI shM_27 h dX10_gapOf_56 (fun h => ?_)
      refine lv_iload_n hx hb dX10_gapOf_57 rfl (lv_at hl 1 rfl) ?_
      refine hicmp_ne (tgt := 102) C dX10_gapOf_58 (by decide) h (fun h => ?_) (fun h => ?_)
      · exact w_X10_gapOf_102 C hr   _ ih _ _ _ _ _ _ _ _ _ _  h hI (lv_sub hl [0, 1, 2, 3, 4, 5, 6, 7] rfl)
      · refine lv_iload_n hx hb dX10_gapOf_61 rfl (lv_at hl 3 rfl) ?_
        refine lv_iload hx hb dX10_gapOf_62 (lv_at hl 5 rfl) ?_
        refine hif_ge (tgt := 72) C dX10_gapOf_64 (by decide) h (fun h => ?_) (fun h => ?_)
        · refine lv_iload_n hx hb dX10_gapOf_72 rfl (lv_at hl 2 rfl) ?_
          refine hif_ne (tgt := 80) C dX10_gapOf_73 (by decide) h (fun h => ?_) (fun h => ?_)
          · refine lv_iload hx hb dX10_gapOf_80 (lv_at hl 6 rfl) ?_
            refine lv_iload hx hb dX10_gapOf_82 (lv_at hl 5 rfl) ?_
            refine lv_isub hx hb dX10_gapOf_84 ?_
            exact w_X10_gapOf_85 C hr   _ ih _ _ _ _ _ _ _ _ _ _  h hI (lv_sub hl [0, 1, 2, 4, 6, 7] rfl)
          · refine lv_iconst hx hb dX10_gapOf_76 ci_0 ?_
            refine lv_goto (tgt := 85) hx hb dX10_gapOf_77 (by decide) ?_
            exact w_X10_gapOf_85 C hr   _ ih _ _ _ _ _ _ _ _ _ _  h hI (lv_sub hl [0, 1, 2, 4, 6, 7] rfl)
        · refine lv_iload hx hb dX10_gapOf_67 (lv_at hl 6 rfl) ?_
          refine lv_goto (tgt := 85) hx hb dX10_gapOf_69 (by decide) ?_
          exact w_X10_gapOf_85 C hr   _ ih _ _ _ _ _ _ _ _ _ _  h hI (lv_sub hl [0, 1, 2, 4, 6, 7] rfl)
set_option maxRecDepth 100000 in
set_option maxHeartbeats 4000000 in
theorem c_X10_gapOf (l : Launch) (D : va_G) (t : gT) (ad z : Nat → Nat) (hJ : gJ shM ad) (σ : gS) (x1 : Int32) (q : Int32) (h : f_X10_gapOf σ x1 = some q) : Met l yX10_gapOf (Cond.code yX10_gapOf cX10_gapOf 8 (some .int) :: lw_tb) (gR 5 147) (gPc shM t ad D z [.ref (ad 0), .int x1] σ) (gQi shM t ad D q σ) 0 0 (gA shM ad) := by
  refine gMet "NineKeysRoundModel" rfl (by decide) hJ (Nat.le_of_ble_eq_true rfl) ?_
  intro p e s m below meth c ls C hr hI hl
  have hx := C.1
  have hb := C.2.1
  have hl : lv_has ls 8 [(0, .ref (ad 0)), (1, .int x1)] := hl
  unfold f_X10_gapOf at h
  refine lv_aload_n hx hb dX10_gapOf_0 rfl (lv_at hl 0 rfl) ?_
  refine h_callvi_o (rest := []) C hI hl.1 shM_0 rfl yv_X10_oneRound k_1350 h (fun q hq => c_X10_oneRound l D t ad z C.2.2.2.2.2.2.1 (σ) q hq) (As := []) rfl rfl ⟨Nat.le_of_ble_eq_true rfl, Nat.le_of_ble_eq_true rfl⟩ (Nat.le_of_ble_eq_true rfl) dX10_gapOf_1 (fun q1 H locs h hI => ?_)
  refine lv_istore_n (lv' := [(2, .int q1), (0, .ref (ad 0)), (1, .int x1)]) hx hb dX10_gapOf_4 rfl hl (by decide) rfl (fun ls hl => ?_)
  refine lv_bipush hx hb dX10_gapOf_5 cb_m2 ?_
  refine lv_istore_n (lv' := [(3, .int (-2)), (2, .int q1), (0, .ref (ad 0)), (1, .int x1)]) hx hb dX10_gapOf_7 rfl hl (by decide) rfl (fun ls hl => ?_)
  refine lv_iconst hx hb dX10_gapOf_8 ci_m1 ?_
  refine lv_istore (lv' := [(4, .int (-1)), (3, .int (-2)), (2, .int q1), (0, .ref (ad 0)), (1, .int x1)]) hx hb dX10_gapOf_9 hl (by decide) rfl (fun ls hl => ?_)
  refine lv_iconst hx hb dX10_gapOf_11 ci_m1 ?_
  refine lv_istore (lv' := [(5, .int (-1)), (4, .int (-1)), (3, .int (-2)), (2, .int q1), (0, .ref (ad 0)), (1, .int x1)]) hx hb dX10_gapOf_12 hl (by decide) rfl (fun ls hl => ?_)
  refine lv_aload_n hx hb dX10_gapOf_14 rfl (lv_at hl 4 rfl) ?_
  refine fg_1105 C hI shM_0 rfl dX10_gapOf_15 ?_
  refine hif_ne (tgt := 25) C dX10_gapOf_18 (by decide) h (fun h => ?_) (fun h => ?_)
  · refine lv_aload_n hx hb dX10_gapOf_25 rfl (lv_at hl 4 rfl) ?_
    refine lv_iconst hx hb dX10_gapOf_26 ci_m1 ?_
    refine lv_aload_n hx hb dX10_gapOf_27 rfl (lv_at hl 4 rfl) ?_
    refine fr_1106 C hI shM_0 rfl dX10_gapOf_28 ?_
    refine lv_iconst hx hb dX10_gapOf_31 ci_0 ?_
    refine gx_iald C hI shM_27 h dX10_gapOf_32 (fun h => ?_)
    refine h_callvi_o (rest := []) C hI hl.1 shM_0 rfl yv_X10_minutes k_1354 h (fun q hq => c_X10_minutes l D t ad z C.2.2.2.2.2.2.1 (σ) (-1) (σ.1 27 (0 : Int32).toNatClampNeg) q hq) (As := [.int (-1), .int (σ.1 27 (0 : Int32).toNatClampNeg)]) rfl rfl ⟨Nat.le_of_ble_eq_true rfl, Nat.le_of_ble_eq_true rfl⟩ (Nat.le_of_ble_eq_true rfl) dX10_gapOf_33 (fun q2 H locs h hI => ?_)
    refine lv_istore (lv' := [(6, .int q2), (5, .int (-1)), (4, .int (-1)), (3, .int (-2)), (2, .int q1), (0, .ref (ad 0)), (1, .int x1)]) hx hb dX10_gapOf_36 hl (by decide) rfl (fun ls hl => ?_)
    refine lv_iconst hx hb dX10_gapOf_38 ci_0 ?_
    refine lv_istore (lv' := [(7, .int 0), (6, .int q2), (5, .int (-1)), (4, .int (-1)), (3, .int (-2)), (2, .int q1), (0, .ref (ad 0)), (1, .int x1)]) hx hb dX10_gapOf_39 hl (by decide) rfl (fun ls hl => ?_)
    exact w_X10_gapOf_41 C hr    _ _ _ _ _ _ _ _ _ _ _  h hI (lv_sub hl [6, 7, 5, 4, 3, 2, 1, 0] rfl)
  · refine lv_iconst hx hb dX10_gapOf_21 ci_0 ?_
    refine lv_goto (tgt := 36) hx hb dX10_gapOf_22 (by decide) ?_
    refine lv_istore (lv' := [(6, .int 0), (5, .int (-1)), (4, .int (-1)), (3, .int (-2)), (2, .int q1), (0, .ref (ad 0)), (1, .int x1)]) hx hb dX10_gapOf_36 hl (by decide) rfl (fun ls hl => ?_)
    refine lv_iconst hx hb dX10_gapOf_38 ci_0 ?_
    refine lv_istore (lv' := [(7, .int 0), (6, .int 0), (5, .int (-1)), (4, .int (-1)), (3, .int (-2)), (2, .int q1), (0, .ref (ad 0)), (1, .int x1)]) hx hb dX10_gapOf_39 hl (by decide) rfl (fun ls hl => ?_)
    exact w_X10_gapOf_41 C hr    _ _ _ _ _ _ _ _ _ _ _  h hI (lv_sub hl [6, 7, 5, 4, 3, 2, 1, 0] rfl)
