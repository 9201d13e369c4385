set_option maxRecDepth 100000 in
set_option maxHeartbeats 4000000 in
theorem c_X6_gather (l : Launch) (D : va_G) (t : gT) (ad z : Nat → Nat) (hJ : gJ shX ad) (kC : Nat) (h_kC : shX[kC]? = some (.inr (.inl (1, [some 1, some (kC + 1), some (kC + 2), none, none, none])))) (h_kC1 : shX[kC + 1]? = some (.inl (0, 20))) (h_kC2 : shX[kC + 2]? = some (.inl (0, 20))) (σ : gS) (x2 : Int32) (x3 : Int32) (q : gS) (h : f_X6_gather σ kC x2 x3 = some q) : Met l yX6_gather (Cond.code yX6_gather cX6_gather 4 (none) :: lw_tb) (gR 3 112) (gPc shX t ad D z [.ref (ad 32), .ref (ad kC), .int x2, .int x3] σ) (gQv shX t ad D q) 0 0 (gA shX ad) := by
  refine gMet "NineKeysRound$Sightings" rfl (by decide) hJ (Nat.le_of_ble_eq_true rfl) ?_
  intro p e s m below meth c ls C hr hI hl
  have hx := C.1
  have hb := C.2.1
  have hl : lv_has ls 4 [(0, .ref (ad 32)), (1, .ref (ad kC)), (2, .int x2), (3, .int x3)] := hl
  unfold f_X6_gather at h
  refine lv_aload_n hx hb dX6_gather_0 rfl (lv_at hl 0 rfl) ?_
  refine lv_iconst hx hb dX6_gather_1 ci_0 ?_
  refine fp_143 C hI shX_32 rfl dX6_gather_2 (fun H locs hI => ?_)
  refine gx_st h hI (fun s1 h hI => ?_)
  refine lv_aload_n hx hb dX6_gather_5 rfl (lv_at hl 0 rfl) ?_
  refine lv_aload_n hx hb dX6_gather_6 rfl (lv_at hl 1 rfl) ?_
  refine h_callvi_o (rest := [.ref (ad 32)]) C hI hl.1 h_kC rfl yv_X1_seenMinutes k_582 h (fun q hq => c_X1_seenMinutes l D t ad z C.2.2.2.2.2.2.1 kC h_kC h_kC1 h_kC2 s1 q hq) (As := []) rfl rfl ⟨Nat.le_of_ble_eq_true rfl, Nat.le_of_ble_eq_true rfl⟩ (Nat.le_of_ble_eq_true rfl) dX6_gather_7 (fun q2 H locs h hI => ?_)
  refine fp_144 C hI shX_32 rfl dX6_gather_10 (fun H locs hI => ?_)
  refine gx_st h hI (fun s3 h hI => ?_)
  refine lv_aload_n hx hb dX6_gather_13 rfl (lv_at hl 1 rfl) ?_
  refine lv_iload_n hx hb dX6_gather_14 rfl (lv_at hl 2 rfl) ?_
  refine lv_iload_n hx hb dX6_gather_15 rfl (lv_at hl 3 rfl) ?_
  refine lv_aload_n hx hb dX6_gather_16 rfl (lv_at hl 0 rfl) ?_
  refine h_callvv_w (rest := []) C hI hl.1 h_kC rfl yv_X1_tellDents k_587 h (fun q hq => c_X1_tellDents l D t ad z C.2.2.2.2.2.2.1 kC h_kC h_kC1 h_kC2 s3 x2 x3 q hq) (As := [.int x2, .int x3, .ref (ad 32)]) rfl rfl ⟨Nat.le_of_ble_eq_true rfl, Nat.le_of_ble_eq_true rfl⟩ (Nat.le_of_ble_eq_true rfl) dX6_gather_17 (fun q4 H locs h hI => ?_)
  exact h_vret_w C hr hI h dX6_gather_20
set_option maxRecDepth 100000 in
set_option maxHeartbeats 4000000 in
theorem w_X6_countBy_6 {p : Program} {l : Launch} {e : Env} {s : State} {m : MethodId} {args : Array Value} {below : List Frame} {meth : Method} {c : Code} {D : va_G} {t : gT} {ad z : Nat → Nat} {σ : gS} (C : gC p s m args meth c cX6_countBy 4 "NineKeysRound$Sightings" D t shX ad z) (hr : meth.sig.returnType = some .int) {r : Int32} : ∀ (n : Nat) (x1 : Int32) (x3 : Int32) (H : Heap) (locs : List Loc) (ls : Array Slot), f_X6_countBy_6 σ n x1 x3 = some r → gI shX t ad D s.heap σ H locs → lv_has ls 4 [(0, .ref (ad 32)), (1, .int x1), (3, .int x3)] → W p l e (gR 1 60) s m args below meth c H locs 0 0 (MQ below (gQi shX t ad D r σ) args s 0 0 (gA shX ad)) (F0 m 6 ls []) := by
  have hx := C.1
  have hb := C.2.1
  intro n
  induction n with
  | zero =>
    intro x1 x3 H locs ls  h
    exact absurd h (by simp [f_X6_countBy_6])
  | succ n ih =>
    intro x1 x3 H locs ls  h hI hl
    unfold f_X6_countBy_6 at h
    refine lv_iload_n hx hb dX6_countBy_6 rfl (lv_at hl 2 rfl) ?_
    refine lv_aload_n hx hb dX6_countBy_7 rfl (lv_at hl 0 rfl) ?_
    refine fg_143 C hI shX_32 rfl dX6_countBy_8 ?_
    refine hicmp_ge (tgt := 30) C dX6_countBy_11 (by decide) h (fun h => ?_) (fun h => ?_)
    · refine lv_iload_n hx hb dX6_countBy_30 rfl (lv_at hl 2 rfl) ?_
      exact h_iret_o C hr hI h dX6_countBy_31
    · refine lv_aload_n hx hb dX6_countBy_14 rfl (lv_at hl 0 rfl) ?_
      refine fr_142 C hI shX_32 rfl dX6_countBy_15 ?_
      refine lv_iload_n hx hb dX6_countBy_18 rfl (lv_at hl 2 rfl) ?_
      refine gx_iald C hI shX_33 h dX6_countBy_19 (fun h => ?_)
      refine lv_iload_n hx hb dX6_countBy_20 rfl (lv_at hl 1 rfl) ?_
      refine hicmp_gt (tgt := 30) C dX6_countBy_21 (by decide) h (fun h => ?_) (fun h => ?_)
      · refine lv_iload_n hx hb dX6_countBy_30 rfl (lv_at hl 2 rfl) ?_
        exact h_iret_o C hr hI h dX6_countBy_31
      · refine h_iinc C hl dX6_countBy_24 2 rfl ci_1 h (by decide) (lvf := fun v1 => [(3, .int v1), (0, .ref (ad 32)), (1, .int x1)]) (fun _ => rfl) (fun v1 ls h hl => ?_)
        refine lv_goto (tgt := 6) hx hb dX6_countBy_27 (by decide) ?_
        exact ih _ _ _ _ _  h hI (lv_sub hl [1, 2, 0] rfl)
set_option maxRecDepth 100000 in
set_option maxHeartbeats 4000000 in
theorem c_X6_countBy (l : Launch) (D : va_G) (t : gT) (ad z : Nat → Nat) (hJ : gJ shX ad) (σ : gS) (x1 : Int32) (x2 : Int32) (q : Int32) (h : f_X6_countBy σ x1 x2 = some q) : Met l yX6_countBy (Cond.code yX6_countBy cX6_countBy 4 (some .int) :: lw_tb) (gR 1 60) (gPc shX t ad D z [.ref (ad 32), .int x1, .int x2] σ) (gQi shX t ad D q σ) 0 0 (gA shX ad) := by
  refine gMet "NineKeysRound$Sightings" rfl (by decide) hJ (Nat.le_of_ble_eq_true rfl) ?_
  intro p e s m below meth c ls C hr hI hl
  have hx := C.1
  have hb := C.2.1
  have hl : lv_has ls 4 [(0, .ref (ad 32)), (1, .int x1), (2, .int x2)] := hl
  unfold f_X6_countBy at h
  refine lv_iconst hx hb dX6_countBy_0 ci_0 ?_
  refine lv_iload_n hx hb dX6_countBy_1 rfl (lv_at hl 2 rfl) ?_
  refine h_mmax C hl.1 k_633 ⟨Nat.le_of_ble_eq_true rfl, Nat.le_of_ble_eq_true rfl⟩ ⟨Nat.zero_le _, Nat.zero_le _⟩ dX6_countBy_2 ?_
  refine gx_topi h (fun v1 h => ?_)
  refine lv_istore_n (lv' := [(3, .int v1), (0, .ref (ad 32)), (1, .int x1), (2, .int x2)]) hx hb dX6_countBy_5 rfl hl (by decide) rfl (fun ls hl => ?_)
  exact w_X6_countBy_6 C hr    _ _ _ _ _ _  h hI (lv_sub hl [1, 2, 0] rfl)
set_option maxRecDepth 100000 in
set_option maxHeartbeats 4000000 in
theorem c_X6_unseenAfter (l : Launch) (D : va_G) (t : gT) (ad z : Nat → Nat) (hJ : gJ shX ad) (σ : gS) (x1 : Int32) (x2 : Int32) (q : Int32) (h : f_X6_unseenAfter σ x1 x2 = some q) : Met l yX6_unseenAfter (Cond.code yX6_unseenAfter cX6_unseenAfter 3 (some .int) :: lw_tb) (gR 1 60) (gPc shX t ad D z [.ref (ad 32), .int x1, .int x2] σ) (gQi shX t ad D q σ) 0 0 (gA shX ad) := by
  refine gMet "NineKeysRound$Sightings" rfl (by decide) hJ (Nat.le_of_ble_eq_true rfl) ?_
  intro p e s m below meth c ls C hr hI hl
  have hx := C.1
  have hb := C.2.1
  have hl : lv_has ls 3 [(0, .ref (ad 32)), (1, .int x1), (2, .int x2)] := hl
  unfold f_X6_unseenAfter at h
  refine lv_iload_n hx hb dX6_unseenAfter_0 rfl (lv_at hl 1 rfl) ?_
  refine lv_iconst hx hb dX6_unseenAfter_1 ci_1 ?_
  refine hicmp_lt (tgt := 13) C dX6_unseenAfter_2 (by decide) h (fun h => ?_) (fun h => ?_)
  · refine lv_iload_n hx hb dX6_unseenAfter_13 rfl (lv_at hl 2 rfl) ?_
    refine lv_iconst hx hb dX6_unseenAfter_14 ci_1 ?_
    refine lv_iadd hx hb dX6_unseenAfter_15 ?_
    refine lv_goto (tgt := 29) hx hb dX6_unseenAfter_16 (by decide) ?_
    exact h_iret_o C hr hI h dX6_unseenAfter_29
  · refine lv_iload_n hx hb dX6_unseenAfter_5 rfl (lv_at hl 1 rfl) ?_
    refine lv_aload_n hx hb dX6_unseenAfter_6 rfl (lv_at hl 0 rfl) ?_
    refine fg_143 C hI shX_32 rfl dX6_unseenAfter_7 ?_
    refine hicmp_le (tgt := 19) C dX6_unseenAfter_10 (by decide) h (fun h => ?_) (fun h => ?_)
    · refine lv_iload_n hx hb dX6_unseenAfter_19 rfl (lv_at hl 2 rfl) ?_
      refine lv_aload_n hx hb dX6_unseenAfter_20 rfl (lv_at hl 0 rfl) ?_
      refine fr_142 C hI shX_32 rfl dX6_unseenAfter_21 ?_
      refine lv_iload_n hx hb dX6_unseenAfter_24 rfl (lv_at hl 1 rfl) ?_
      refine lv_iconst hx hb dX6_unseenAfter_25 ci_1 ?_
      refine lv_isub hx hb dX6_unseenAfter_26 ?_
      refine gx_iald C hI shX_33 h dX6_unseenAfter_27 (fun h => ?_)
      refine lv_isub hx hb dX6_unseenAfter_28 ?_
      exact h_iret_o C hr hI h dX6_unseenAfter_29
    · refine lv_iload_n hx hb dX6_unseenAfter_13 rfl (lv_at hl 2 rfl) ?_
      refine lv_iconst hx hb dX6_unseenAfter_14 ci_1 ?_
      refine lv_iadd hx hb dX6_unseenAfter_15 ?_
      refine lv_goto (tgt := 29) hx hb dX6_unseenAfter_16 (by decide) ?_
      exact h_iret_o C hr hI h dX6_unseenAfter_29
set_option maxRecDepth 100000 in
set_option maxHeartbeats 4000000 in
theorem c_X6_seenAfter (l : Launch) (D : va_G) (t : gT) (ad z : Nat → Nat) (hJ : gJ shX ad) (σ : gS) (x1 : Int32) (x2 : Int32) (q : Int32) (h : f_X6_seenAfter σ x1 x2 = some q) : Met l yX6_seenAfter (Cond.code yX6_seenAfter cX6_seenAfter 3 (some .boolean) :: lw_tb) (gR 1 60) (gPc shX t ad D z [.ref (ad 32), .int x1, .int x2] σ) (gQi shX t ad D q σ) 0 0 (gA shX ad) := by
  refine gMet "NineKeysRound$Sightings" rfl (by decide) hJ (Nat.le_of_ble_eq_true rfl) ?_
  intro p e s m below meth c ls C hr hI hl
  have hx := C.1
  have hb := C.2.1
  have hl : lv_has ls 3 [(0, .ref (ad 32)), (1, .int x1), (2, .int x2)] := hl
  unfold f_X6_seenAfter at h
  refine lv_iload_n hx hb dX6_seenAfter_0 rfl (lv_at hl 1 rfl) ?_
  refine lv_iconst hx hb dX6_seenAfter_1 ci_1 ?_
  refine hicmp_lt (tgt := 34) C dX6_seenAfter_2 (by decide) h (fun h => ?_) (fun h => ?_)
  · refine lv_iconst hx hb dX6_seenAfter_34 ci_0 ?_
    exact h_zret_o C hr hI h dX6_seenAfter_35
  · refine lv_iload_n hx hb dX6_seenAfter_5 rfl (lv_at hl 1 rfl) ?_
    refine lv_aload_n hx hb dX6_seenAfter_6 rfl (lv_at hl 0 rfl) ?_
    refine fg_143 C hI shX_32 rfl dX6_seenAfter_7 ?_
    refine hicmp_gt (tgt := 34) C dX6_seenAfter_10 (by decide) h (fun h => ?_) (fun h => ?_)
    · refine lv_iconst hx hb dX6_seenAfter_34 ci_0 ?_
      exact h_zret_o C hr hI h dX6_seenAfter_35
    · refine lv_iload_n hx hb dX6_seenAfter_13 rfl (lv_at hl 2 rfl) ?_
      refine lv_aload_n hx hb dX6_seenAfter_14 rfl (lv_at hl 0 rfl) ?_
      refine fr_142 C hI shX_32 rfl dX6_seenAfter_15 ?_
      refine lv_iload_n hx hb dX6_seenAfter_18 rfl (lv_at hl 1 rfl) ?_
      refine lv_iconst hx hb dX6_seenAfter_19 ci_1 ?_
      refine lv_isub hx hb dX6_seenAfter_20 ?_
      refine gx_iald C hI shX_33 h dX6_seenAfter_21 (fun h => ?_)
      refine lv_isub hx hb dX6_seenAfter_22 ?_
      refine lv_aload_n hx hb dX6_seenAfter_23 rfl (lv_at hl 0 rfl) ?_
      refine fg_144 C hI shX_32 rfl dX6_seenAfter_24 ?_
      refine hicmp_ge (tgt := 34) C dX6_seenAfter_27 (by decide) h (fun h => ?_) (fun h => ?_)
      · refine lv_iconst hx hb dX6_seenAfter_34 ci_0 ?_
        exact h_zret_o C hr hI h dX6_seenAfter_35
      · refine lv_iconst hx hb dX6_seenAfter_30 ci_1 ?_
        refine lv_goto (tgt := 35) hx hb dX6_seenAfter_31 (by decide) ?_
        exact h_zret_o C hr hI h dX6_seenAfter_35
set_option maxRecDepth 100000 in
set_option maxHeartbeats 4000000 in
theorem c_X6_unseenAtEnd (l : Launch) (D : va_G) (t : gT) (ad z : Nat → Nat) (hJ : gJ shX ad) (σ : gS) (x1 : Int32) (q : Int32) (h : f_X6_unseenAtEnd σ x1 = some q) : Met l yX6_unseenAtEnd (Cond.code yX6_unseenAtEnd cX6_unseenAtEnd 2 (some .int) :: lw_tb) (gR 2 82) (gPc shX t ad D z [.ref (ad 32), .int x1] σ) (gQi shX t ad D q σ) 0 0 (gA shX ad) := by
  refine gMet "NineKeysRound$Sightings" rfl (by decide) hJ (Nat.le_of_ble_eq_true rfl) ?_
  intro p e s m below meth c ls C hr hI hl
  have hx := C.1
  have hb := C.2.1
  have hl : lv_has ls 2 [(0, .ref (ad 32)), (1, .int x1)] := hl
  unfold f_X6_unseenAtEnd at h
  refine lv_aload_n hx hb dX6_unseenAtEnd_0 rfl (lv_at hl 0 rfl) ?_
  refine lv_aload_n hx hb dX6_unseenAtEnd_1 rfl (lv_at hl 0 rfl) ?_
  refine fg_143 C hI shX_32 rfl dX6_unseenAtEnd_2 ?_
  refine lv_iload_n hx hb dX6_unseenAtEnd_5 rfl (lv_at hl 1 rfl) ?_
  refine h_callvi_o (rest := []) C hI hl.1 shX_32 rfl yv_X6_unseenAfter k_600 h (fun q hq => c_X6_unseenAfter l D t ad z C.2.2.2.2.2.2.1 (σ) (σ.1 32 1) x1 q hq) (As := [.int (σ.1 32 1), .int x1]) rfl rfl ⟨Nat.le_of_ble_eq_true rfl, Nat.le_of_ble_eq_true rfl⟩ (Nat.le_of_ble_eq_true rfl) dX6_unseenAtEnd_6 (fun q1 H locs h hI => ?_)
  exact h_iret_o C hr hI h dX6_unseenAtEnd_9
set_option maxRecDepth 100000 in
set_option maxHeartbeats 4000000 in
theorem c_X6_seenAtEnd (l : Launch) (D : va_G) (t : gT) (ad z : Nat → Nat) (hJ : gJ shX ad) (σ : gS) (x1 : Int32) (q : Int32) (h : f_X6_seenAtEnd σ x1 = some q) : Met l yX6_seenAtEnd (Cond.code yX6_seenAtEnd cX6_seenAtEnd 2 (some .boolean) :: lw_tb) (gR 2 82) (gPc shX t ad D z [.ref (ad 32), .int x1] σ) (gQi shX t ad D q σ) 0 0 (gA shX ad) := by
  refine gMet "NineKeysRound$Sightings" rfl (by decide) hJ (Nat.le_of_ble_eq_true rfl) ?_
  intro p e s m below meth c ls C hr hI hl
  have hx := C.1
  have hb := C.2.1
  have hl : lv_has ls 2 [(0, .ref (ad 32)), (1, .int x1)] := hl
  unfold f_X6_seenAtEnd at h
  refine lv_aload_n hx hb dX6_seenAtEnd_0 rfl (lv_at hl 0 rfl) ?_
  refine lv_aload_n hx hb dX6_seenAtEnd_1 rfl (lv_at hl 0 rfl) ?_
  refine fg_143 C hI shX_32 rfl dX6_seenAtEnd_2 ?_
  refine lv_iload_n hx hb dX6_seenAtEnd_5 rfl (lv_at hl 1 rfl) ?_
  refine h_callvi_o (rest := []) C hI hl.1 shX_32 rfl yv_X6_seenAfter k_608 h (fun q hq => c_X6_seenAfter l D t ad z C.2.2.2.2.2.2.1 (σ) (σ.1 32 1) x1 q hq) (As := [.int (σ.1 32 1), .int x1]) rfl rfl ⟨Nat.le_of_ble_eq_true rfl, Nat.le_of_ble_eq_true rfl⟩ (Nat.le_of_ble_eq_true rfl) dX6_seenAtEnd_6 (fun q1 H locs h hI => ?_)
  exact h_zret_o C hr hI h dX6_seenAtEnd_9
set_option maxRecDepth 100000 in
set_option maxHeartbeats 4000000 in
theorem w_X6_freeFrom_5 {p : Program} {l : Launch} {e : Env} {s : State} {m : MethodId} {args : Array Value} {below : List Frame} {meth : Method} {c : Code} {D : va_G} {t : gT} {ad z : Nat → Nat} {σ : gS} (C : gC p s m args meth c cX6_freeFrom 5 "NineKeysRound$Sightings" D t shX ad z) (hr : meth.sig.returnType = some .int) {r : Int32} : ∀ (n : Nat) (x2 : Int32) (x3 : Int32) (x4 : Int32) (H : Heap) (locs : List Loc) (ls : Array Slot), f_X6_freeFrom_5 σ n x2 x3 x4 = some r → gI shX t ad D s.heap σ H locs → lv_has ls 5 [(0, .ref (ad 32)), (2, .int x2), (3, .int x3), (4, .int x4)] → W p l e (gR 1 60) s m args below meth c H locs 0 0 (MQ below (gQi shX t ad D r σ) args s 0 0 (gA shX ad)) (F0 m 5 ls []) := by
  have hx := C.1
  have hb := C.2.1
  intro n
  induction n with
  | zero =>
    intro x2 x3 x4 H locs ls  h
    exact absurd h (by simp [f_X6_freeFrom_5])
  | succ n ih =>
    intro x2 x3 x4 H locs ls  h hI hl
    unfold f_X6_freeFrom_5 at h
    refine lv_iload hx hb dX6_freeFrom_5 (lv_at hl 3 rfl) ?_
    refine lv_aload_n hx hb dX6_freeFrom_7 rfl (lv_at hl 0 rfl) ?_
    refine fg_143 C hI shX_32 rfl dX6_freeFrom_8 ?_
    refine hicmp_ge (tgt := 50) C dX6_freeFrom_11 (by decide) h (fun h => ?_) (fun h => ?_)
    · refine lv_iload_n hx hb dX6_freeFrom_50 rfl (lv_at hl 2 rfl) ?_
      exact h_iret_o C hr hI h dX6_freeFrom_51
    · refine lv_aload_n hx hb dX6_freeFrom_14 rfl (lv_at hl 0 rfl) ?_
      refine fr_142 C hI shX_32 rfl dX6_freeFrom_15 ?_
      refine lv_iload hx hb dX6_freeFrom_18 (lv_at hl 3 rfl) ?_
      refine gx_iald C hI shX_33 h dX6_freeFrom_20 (fun h => ?_)
      refine lv_iload_n hx hb dX6_freeFrom_21 rfl (lv_at hl 2 rfl) ?_
      refine lv_iload_n hx hb dX6_freeFrom_22 rfl (lv_at hl 1 rfl) ?_
      refine lv_iadd hx hb dX6_freeFrom_23 ?_
      refine hicmp_ge (tgt := 50) C dX6_freeFrom_24 (by decide) h (fun h => ?_) (fun h => ?_)
      · refine lv_iload_n hx hb dX6_freeFrom_50 rfl (lv_at hl 2 rfl) ?_
        exact h_iret_o C hr hI h dX6_freeFrom_51
      · refine lv_iload_n hx hb dX6_freeFrom_27 rfl (lv_at hl 2 rfl) ?_
        refine lv_aload_n hx hb dX6_freeFrom_28 rfl (lv_at hl 0 rfl) ?_
        refine fr_142 C hI shX_32 rfl dX6_freeFrom_29 ?_
        refine lv_iload hx hb dX6_freeFrom_32 (lv_at hl 3 rfl) ?_
        refine gx_iald C hI shX_33 h dX6_freeFrom_34 (fun h => ?_)
        refine lv_aload_n hx hb dX6_freeFrom_35 rfl (lv_at hl 0 rfl) ?_
        refine fg_144 C hI shX_32 rfl dX6_freeFrom_36 ?_
        refine lv_iadd hx hb dX6_freeFrom_39 ?_
        refine h_mmax C hl.1 k_633 ⟨Nat.le_of_ble_eq_true rfl, Nat.le_of_ble_eq_true rfl⟩ ⟨Nat.zero_le _, Nat.zero_le _⟩ dX6_freeFrom_40 ?_
        refine gx_topi h (fun v1 h => ?_)
        refine lv_istore_n (lv' := [(3, .int v1), (0, .ref (ad 32)), (2, .int x2), (4, .int x4)]) hx hb dX6_freeFrom_43 rfl hl (by decide) rfl (fun ls hl => ?_)
        refine h_iinc C hl dX6_freeFrom_44 3 rfl ci_1 h (by decide) (lvf := fun v2 => [(4, .int v2), (3, .int v1), (0, .ref (ad 32)), (2, .int x2)]) (fun _ => rfl) (fun v2 ls h hl => ?_)
        refine lv_goto (tgt := 5) hx hb dX6_freeFrom_47 (by decide) ?_
        exact ih _ _ _ _ _ _  h hI (lv_sub hl [2, 3, 1, 0] rfl)
set_option maxRecDepth 100000 in
set_option maxHeartbeats 4000000 in
theorem c_X6_freeFrom (l : Launch) (D : va_G) (t : gT) (ad z : Nat → Nat) (hJ : gJ shX ad) (σ : gS) (x1 : Int32) (x2 : Int32) (q : Int32) (h : f_X6_freeFrom σ x1 x2 = some q) : Met l yX6_freeFrom (Cond.code yX6_freeFrom cX6_freeFrom 5 (some .int) :: lw_tb) (gR 1 60) (gPc shX t ad D z [.ref (ad 32), .int x1, .int x2] σ) (gQi shX t ad D q σ) 0 0 (gA shX ad) := by
  refine gMet "NineKeysRound$Sightings" rfl (by decide) hJ (Nat.le_of_ble_eq_true rfl) ?_
  intro p e s m below meth c ls C hr hI hl
  have hx := C.1
  have hb := C.2.1
  have hl : lv_has ls 5 [(0, .ref (ad 32)), (1, .int x1), (2, .int x2)] := hl
  unfold f_X6_freeFrom at h
  refine lv_iload_n hx hb dX6_freeFrom_0 rfl (lv_at hl 1 rfl) ?_
  refine lv_istore_n (lv' := [(3, .int x1), (0, .ref (ad 32)), (1, .int x1), (2, .int x2)]) hx hb dX6_freeFrom_1 rfl hl (by decide) rfl (fun ls hl => ?_)
  refine lv_iconst hx hb dX6_freeFrom_2 ci_0 ?_
  refine lv_istore (lv' := [(4, .int 0), (3, .int x1), (0, .ref (ad 32)), (1, .int x1), (2, .int x2)]) hx hb dX6_freeFrom_3 hl (by decide) rfl (fun ls hl => ?_)
  exact w_X6_freeFrom_5 C hr    _ _ _ _ _ _ _  h hI (lv_sub hl [2, 4, 1, 0] rfl)
set_option maxRecDepth 100000 in
set_option maxHeartbeats 4000000 in
theorem w_X6_strikeOut_52 {p : Program} {l : Launch} {e : Env} {s : State} {m : MethodId} {args : Array Value} {below : List Frame} {meth : Method} {c : Code} {D : va_G} {t : gT} {ad z : Nat → Nat} (C : gC p s m args meth c cX6_strikeOut 7 "NineKeysRound$Sightings" D t shX ad z) (hr : meth.sig.returnType = none) {r : gS} (K_6 : Int32 → Int32 → Int32 → Int32 → gS → Option gS) (hK_6 : ∀ (x2 : Int32) (x3 : Int32) (x4 : Int32) (x5 : Int32) (σ : gS) (H : Heap) (locs : List Loc) (ls : Array Slot), K_6 x2 x3 x4 x5 σ = some r → gI shX t ad D s.heap σ H locs → lv_has ls 7 [(0, .ref (ad 32)), (1, .ref (ad 44)), (2, .int x2), (3, .int x3), (4, .int x4), (5, .int x5)] → W p l e (gR 1 60) s m args below meth c H locs 0 0 (MQ below (gQv shX t ad D r) args s 0 0 (gA shX ad)) (F0 m 6 ls [])) : ∀ (n : Nat) (x2 : Int32) (x3 : Int32) (x4 : Int32) (x5 : Int32) (x6 : Int32) (σ : gS) (H : Heap) (locs : List Loc) (ls : Array Slot), f_X6_strikeOut_52 K_6 n x2 x3 x4 x5 x6 σ = some r → gI shX t ad D s.heap σ H locs → lv_has ls 7 [(0, .ref (ad 32)), (1, .ref (ad 44)), (2, .int x2), (3, .int x3), (4, .int x4), (5, .int x5), (6, .int x6)] → W p l e (gR 1 60) s m args below meth c H locs 0 0 (MQ below (gQv shX t ad D r) args s 0 0 (gA shX ad)) (F0 m 52 ls []) := by
  have hx := C.1
  have hb := C.2.1
  intro n
  induction n with
  | zero =>
    intro x2 x3 x4 x5 x6 σ H locs ls  h
    exact absurd h (by simp [f_X6_strikeOut_52])
  | succ n ih =>
    intro x2 x3 x4 x5 x6 σ H locs ls  h hI hl
    unfold f_X6_strikeOut_52 at h
    refine lv_iload hx hb dX6_strikeOut_52 (lv_at hl 4 rfl) ?_
    refine lv_iload hx hb dX6_strikeOut_54 (lv_at hl 6 rfl) ?_
    refine hicmp_ge (tgt := 75) C dX6_strikeOut_56 (by decide) h (fun h => ?_) (fun h => ?_)
    · refine h_iinc C hl dX6_strikeOut_75 5 rfl ci_1 h (by decide) (lvf := fun v1 => [(5, .int v1), (0, .ref (ad 32)), (1, .ref (ad 44)), (2, .int x2), (3, .int x3), (4, .int x4), (6, .int x6)]) (fun _ => rfl) (fun v1 ls h hl => ?_)
      refine lv_goto (tgt := 6) hx hb dX6_strikeOut_78 (by decide) ?_
      exact hK_6 _ _ _ _ _ _ _ _  h hI (lv_sub hl [1, 2, 3, 4, 5, 0] rfl)
    · refine lv_aload_n hx hb dX6_strikeOut_59 rfl (lv_at hl 1 rfl) ?_
      refine lv_iload hx hb dX6_strikeOut_60 (lv_at hl 4 rfl) ?_
      refine lv_dup2_11 hx hb dX6_strikeOut_62 rfl rfl ?_
      refine gx_iald C hI shX_44 h dX6_strikeOut_63 (fun h => ?_)
      refine lv_iload_n hx hb dX6_strikeOut_64 rfl (lv_at hl 3 rfl) ?_
      refine lv_iconst hx hb dX6_strikeOut_65 ci_m1 ?_
      refine lv_ixor hx hb dX6_strikeOut_66 ?_
      refine lv_iand hx hb dX6_strikeOut_67 ?_
      refine gx_iast C hI shX_44 h dX6_strikeOut_68 (fun H locs h hI => ?_)
      refine gx_st h hI (fun s2 h hI => ?_)
      refine h_iinc C hl dX6_strikeOut_69 4 rfl ci_1 h (by decide) (lvf := fun v3 => [(4, .int v3), (0, .ref (ad 32)), (1, .ref (ad 44)), (2, .int x2), (3, .int x3), (5, .int x5), (6, .int x6)]) (fun _ => rfl) (fun v3 ls h hl => ?_)
      refine lv_goto (tgt := 52) hx hb dX6_strikeOut_72 (by decide) ?_
      exact ih _ _ _ _ _ _ _ _ _  h hI (lv_sub hl [1, 2, 3, 4, 0, 5, 6] rfl)
set_option maxRecDepth 100000 in
set_option maxHeartbeats 4000000 in
theorem w_X6_strikeOut_6 {p : Program} {l : Launch} {e : Env} {s : State} {m : MethodId} {args : Array Value} {below : List Frame} {meth : Method} {c : Code} {D : va_G} {t : gT} {ad z : Nat → Nat} (C : gC p s m args meth c cX6_strikeOut 7 "NineKeysRound$Sightings" D t shX ad z) (hr : meth.sig.returnType = none) {r : gS} : ∀ (n : Nat) (x2 : Int32) (x3 : Int32) (x4 : Int32) (x5 : Int32) (σ : gS) (H : Heap) (locs : List Loc) (ls : Array Slot), f_X6_strikeOut_6 n x2 x3 x4 x5 σ = some r → gI shX t ad D s.heap σ H locs → lv_has ls 7 [(0, .ref (ad 32)), (1, .ref (ad 44)), (2, .int x2), (3, .int x3), (4, .int x4), (5, .int x5)] → W p l e (gR 1 60) s m args below meth c H locs 0 0 (MQ below (gQv shX t ad D r) args s 0 0 (gA shX ad)) (F0 m 6 ls []) := by
  have hx := C.1
  have hb := C.2.1
  intro n
  induction n with
  | zero =>
    intro x2 x3 x4 x5 σ H locs ls  h
    exact absurd h (by simp [f_X6_strikeOut_6])
  | succ n ih =>
    intro x2 x3 x4 x5 σ H locs ls  h hI hl
    unfold f_X6_strikeOut_6 at h
    refine lv_iload hx hb dX6_strikeOut_6 (lv_at hl 5 rfl) ?_
    refine lv_aload_n hx hb dX6_strikeOut_8 rfl (lv_at hl 0 rfl) ?_
    refine fg_143 C hI shX_32 rfl dX6_strikeOut_9 ?_
    refine hicmp_ge (tgt := 81) C dX6_strikeOut_12 (by decide) h (fun h => ?_) (fun h => ?_)
    · exact h_vret_w C hr hI h dX6_strikeOut_81
    · refine lv_aload_n hx hb dX6_strikeOut_15 rfl (lv_at hl 1 rfl) ?_
      refine gx_alen C hI shX_44 (v := 600) (by decide) dX6_strikeOut_16 ?_
      refine lv_aload_n hx hb dX6_strikeOut_17 rfl (lv_at hl 0 rfl) ?_
      refine fr_142 C hI shX_32 rfl dX6_strikeOut_18 ?_
      refine lv_iload hx hb dX6_strikeOut_21 (lv_at hl 5 rfl) ?_
      refine gx_iald C hI shX_33 h dX6_strikeOut_23 (fun h => ?_)
      refine lv_aload_n hx hb dX6_strikeOut_24 rfl (lv_at hl 0 rfl) ?_
      refine fg_144 C hI shX_32 rfl dX6_strikeOut_25 ?_
      refine lv_iadd hx hb dX6_strikeOut_28 ?_
      refine h_mmin C hl.1 k_774 ⟨Nat.le_of_ble_eq_true rfl, Nat.le_of_ble_eq_true rfl⟩ ⟨Nat.zero_le _, Nat.zero_le _⟩ dX6_strikeOut_29 ?_
      refine gx_topi h (fun v1 h => ?_)
      refine lv_istore (lv' := [(6, .int v1), (0, .ref (ad 32)), (1, .ref (ad 44)), (2, .int x2), (3, .int x3), (4, .int x4), (5, .int x5)]) hx hb dX6_strikeOut_32 hl (by decide) rfl (fun ls hl => ?_)
      refine lv_iload hx hb dX6_strikeOut_34 (lv_at hl 5 rfl) ?_
      refine lv_aload_n hx hb dX6_strikeOut_36 rfl (lv_at hl 1 rfl) ?_
      refine fr_142 C hI shX_32 rfl dX6_strikeOut_37 ?_
      refine lv_iload hx hb dX6_strikeOut_40 (lv_at hl 6 rfl) ?_
      refine gx_iald C hI shX_33 h dX6_strikeOut_42 (fun h => ?_)
      refine lv_iload_n hx hb dX6_strikeOut_43 rfl (lv_at hl 3 rfl) ?_
      refine lv_isub hx hb dX6_strikeOut_44 ?_
      refine lv_iconst hx hb dX6_strikeOut_45 ci_1 ?_
      refine lv_iadd hx hb dX6_strikeOut_46 ?_
      refine h_mmax C hl.1 k_633 ⟨Nat.le_of_ble_eq_true rfl, Nat.le_of_ble_eq_true rfl⟩ ⟨Nat.zero_le _, Nat.zero_le _⟩ dX6_strikeOut_47 ?_
      refine gx_topi h (fun v2 h => ?_)
      refine lv_istore (lv' := [(4, .int v2), (6, .int v1), (0, .ref (ad 32)), (1, .ref (ad 44)), (2, .int x2), (3, .int x3), (5, .int x5)]) hx hb dX6_strikeOut_50 hl (by decide) rfl (fun ls hl => ?_)
      exact w_X6_strikeOut_52 C hr   _ ih _ _ _ _ _ _ _ _ _ _  h hI (lv_sub hl [2, 3, 4, 5, 0, 6, 1] rfl)
set_option maxRecDepth 100000 in
set_option maxHeartbeats 4000000 in
theorem c_X6_strikeOut (l : Launch) (D : va_G) (t : gT) (ad z : Nat → Nat) (hJ : gJ shX ad) (σ : gS) (x2 : Int32) (x3 : Int32) (q : gS) (h : f_X6_strikeOut σ x2 x3 = some q) : Met l yX6_strikeOut (Cond.code yX6_strikeOut cX6_strikeOut 7 (none) :: lw_tb) (gR 1 60) (gPc shX t ad D z [.ref (ad 32), .ref (ad 44), .int x2, .int x3] σ) (gQv shX t ad D q) 0 0 (gA shX ad) := by
  refine gMet "NineKeysRound$Sightings" rfl (by decide) hJ (Nat.le_of_ble_eq_true rfl) ?_
  intro p e s m below meth c ls C hr hI hl
  have hx := C.1
  have hb := C.2.1
  have hl : lv_has ls 7 [(0, .ref (ad 32)), (1, .ref (ad 44)), (2, .int x2), (3, .int x3)] := hl
  unfold f_X6_strikeOut at h
  refine lv_iconst hx hb dX6_strikeOut_0 ci_0 ?_
  refine lv_istore (lv' := [(4, .int 0), (0, .ref (ad 32)), (1, .ref (ad 44)), (2, .int x2), (3, .int x3)]) hx hb dX6_strikeOut_1 hl (by decide) rfl (fun ls hl => ?_)
  refine lv_iconst hx hb dX6_strikeOut_3 ci_0 ?_
  refine lv_istore (lv' := [(5, .int 0), (4, .int 0), (0, .ref (ad 32)), (1, .ref (ad 44)), (2, .int x2), (3, .int x3)]) hx hb dX6_strikeOut_4 hl (by decide) rfl (fun ls hl => ?_)
  exact w_X6_strikeOut_6 C hr    _ _ _ _ _ _ _ _ _  h hI (lv_sub hl [2, 3, 4, 5, 1, 0] rfl)
set_option maxRecDepth 100000 in
set_option maxHeartbeats 4000000 in
theorem w_X6_widestOfTwo_136 {p : Program} {l : Launch} {e : Env} {s : State} {m : MethodId} {args : Array Value} {below : List Frame} {meth : Method} {c : Code} {D : va_G} {t : gT} {ad z : Nat → Nat} {σ : gS} (C : gC p s m args meth c cX6_widestOfTwo 11 "NineKeysRound$Sightings" D t shX ad z) (hr : meth.sig.returnType = some .int) {r : Int32} (K_23 : Int32 → Int32 → Int32 → Int32 → Int32 → Int32 → Int32 → Option Int32) (hK_23 : ∀ (x1 : Int32) (x2 : Int32) (x3 : Int32) (x4 : Int32) (x5 : Int32) (x6 : Int32) (x7 : Int32) (H : Heap) (locs : List Loc) (ls : Array Slot), K_23 x1 x2 x3 x4 x5 x6 x7 = some r → gI shX t ad D s.heap σ H locs → lv_has ls 11 [(0, .ref (ad 32)), (1, .int x1), (2, .int x2), (3, .int x3), (4, .int x4), (5, .int x5), (6, .int x6), (7, .int x7)] → W p l e (gR 2 83) s m args below meth c H locs 0 0 (MQ below (gQi shX t ad D r σ) args s 0 0 (gA shX ad)) (F0 m 23 ls [])) : ∀ (x1 : Int32) (x2 : Int32) (x3 : Int32) (x4 : Int32) (x7 : Int32) (x10 : Int32) (s0 : Int32) (H : Heap) (locs : List Loc) (ls : Array Slot), f_X6_widestOfTwo_136 σ K_23 x1 x2 x3 x4 x7 x10 s0 = some r → gI shX t ad D s.heap σ H locs → lv_has ls 11 [(0, .ref (ad 32)), (1, .int x1), (2, .int x2), (3, .int x3), (4, .int x4), (7, .int x7), (10, .int x10)] → W p l e (gR 2 83) s m args below meth c H locs 0 0 (MQ below (gQi shX t ad D r σ) args s 0 0 (gA shX ad)) (F0 m 136 ls [.int s0]) := by
  have hx := C.1
  have hb := C.2.1
  intro x1 x2 x3 x4 x7 x10 s0 H locs ls  h hI hl
  unfold f_X6_widestOfTwo_136 at h
  refine lv_istore (lv' := [(5, .int s0), (0, .ref (ad 32)), (1, .int x1), (2, .int x2), (3, .int x3), (4, .int x4), (7, .int x7), (10, .int x10)]) hx hb dX6_widestOfTwo_136 hl (by decide) rfl (fun ls hl => ?_)
  refine lv_iload hx hb dX6_widestOfTwo_138 (lv_at hl 7 rfl) ?_
  refine lv_istore (lv' := [(6, .int x10), (5, .int s0), (0, .ref (ad 32)), (1, .int x1), (2, .int x2), (3, .int x3), (4, .int x4), (7, .int x7), (10, .int x10)]) hx hb dX6_widestOfTwo_140 hl (by decide) rfl (fun ls hl => ?_)
  refine h_iinc C hl dX6_widestOfTwo_142 7 rfl ci_1 h (by decide) (lvf := fun v1 => [(7, .int v1), (6, .int x10), (5, .int s0), (0, .ref (ad 32)), (1, .int x1), (2, .int x2), (3, .int x3), (4, .int x4), (10, .int x10)]) (fun _ => rfl) (fun v1 ls h hl => ?_)
  refine lv_goto (tgt := 23) hx hb dX6_widestOfTwo_145 (by decide) ?_
  exact hK_23 _ _ _ _ _ _ _ _ _ _  h hI (lv_sub hl [3, 4, 5, 6, 7, 2, 1, 0] rfl)
set_option maxRecDepth 100000 in
set_option maxHeartbeats 4000000 in
theorem w_X6_widestOfTwo_114 {p : Program} {l : Launch} {e : Env} {s : State} {m : MethodId} {args : Array Value} {below : List Frame} {meth : Method} {c : Code} {D : va_G} {t : gT} {ad z : Nat → Nat} {σ : gS} (C : gC p s m args meth c cX6_widestOfTwo 11 "NineKeysRound$Sightings" D t shX ad z) (hr : meth.sig.returnType = some .int) {r : Int32} (K_23 : Int32 → Int32 → Int32 → Int32 → Int32 → Int32 → Int32 → Option Int32) (hK_23 : ∀ (x1 : Int32) (x2 : Int32) (x3 : Int32) (x4 : Int32) (x5 : Int32) (x6 : Int32) (x7 : Int32) (H : Heap) (locs : List Loc) (ls : Array Slot), K_23 x1 x2 x3 x4 x5 x6 x7 = some r → gI shX t ad D s.heap σ H locs → lv_has ls 11 [(0, .ref (ad 32)), (1, .int x1), (2, .int x2), (3, .int x3), (4, .int x4), (5, .int x5), (6, .int x6), (7, .int x7)] → W p l e (gR 2 83) s m args below meth c H locs 0 0 (MQ below (gQi shX t ad D r σ) args s 0 0 (gA shX ad)) (F0 m 23 ls [])) : ∀ (x1 : Int32) (x2 : Int32) (x3 : Int32) (x4 : Int32) (x5 : Int32) (x6 : Int32) (x7 : Int32) (x10 : Int32) (H : Heap) (locs : List Loc) (ls : Array Slot), f_X6_widestOfTwo_114 σ K_23 x1 x2 x3 x4 x5 x6 x7 x10 = some r → gI shX t ad D s.heap σ H locs → lv_has ls 11 [(0, .ref (ad 32)), (1, .int x1), (2, .int x2), (3, .int x3), (4, .int x4), (5, .int x5), (6, .int x6), (7, .int x7), (10, .int x10)] → W p l e (gR 2 83) s m args below meth c H locs 0 0 (MQ below (gQi shX t ad D r σ) args s 0 0 (gA shX ad)) (F0 m 114 ls []) := by
  have hx := C.1
  have hb := C.2.1
  intro x1 x2 x3 x4 x5 x6 x7 x10 H locs ls  h hI hl
  unfold f_X6_widestOfTwo_114 at h
  refine lv_iload hx hb dX6_widestOfTwo_114 (lv_at hl 6 rfl) ?_
  refine lv_bipush hx hb dX6_widestOfTwo_116 cb_m2 ?_
  refine hicmp_ne (tgt := 126) C dX6_widestOfTwo_118 (by decide) h (fun h => ?_) (fun h => ?_)
  · refine lv_iload hx hb dX6_widestOfTwo_126 (lv_at hl 5 rfl) ?_
    refine lv_iload hx hb dX6_widestOfTwo_128 (lv_at hl 8 rfl) ?_
    refine lv_iload hx hb dX6_widestOfTwo_130 (lv_at hl 6 rfl) ?_
    refine lv_isub hx hb dX6_widestOfTwo_132 ?_
    refine h_mmax C hl.1 k_633 ⟨Nat.le_of_ble_eq_true rfl, Nat.le_of_ble_eq_true rfl⟩ ⟨Nat.zero_le _, Nat.zero_le _⟩ dX6_widestOfTwo_133 ?_
    exact w_X6_widestOfTwo_136 C hr   _ hK_23 _ _ _ _ _ _ _ _ _ _  h hI (lv_sub hl [0, 1, 2, 3, 4, 7, 8] rfl)
  · refine lv_bipush hx hb dX6_widestOfTwo_121 cb_m2 ?_
    refine lv_goto (tgt := 136) hx hb dX6_widestOfTwo_123 (by decide) ?_
    exact w_X6_widestOfTwo_136 C hr   _ hK_23 _ _ _ _ _ _ _ _ _ _  h hI (lv_sub hl [0, 1, 2, 3, 4, 7, 8] rfl)
set_option maxRecDepth 100000 in
set_option maxHeartbeats 4000000 in
theorem w_X6_widestOfTwo_78 {p : Program} {l : Launch} {e : Env} {s : State} {m : MethodId} {args : Array Value} {below : List Frame} {meth : Method} {c : Code} {D : va_G} {t : gT} {ad z : Nat → Nat} {σ : gS} (C : gC p s m args meth c cX6_widestOfTwo 11 "NineKeysRound$Sightings" D t shX ad z) (hr : meth.sig.returnType = some .int) {r : Int32} (K_23 : Int32 → Int32 → Int32 → Int32 → Int32 → Int32 → Int32 → Option Int32) (hK_23 : ∀ (x1 : Int32) (x2 : Int32) (x3 : Int32) (x4 : Int32) (x5 : Int32) (x6 : Int32) (x7 : Int32) (H : Heap) (locs : List Loc) (ls : Array Slot), K_23 x1 x2 x3 x4 x5 x6 x7 = some r → gI shX t ad D s.heap σ H locs → lv_has ls 11 [(0, .ref (ad 32)), (1, .int x1), (2, .int x2), (3, .int x3), (4, .int x4), (5, .int x5), (6, .int x6), (7, .int x7)] → W p l e (gR 2 83) s m args below meth c H locs 0 0 (MQ below (gQi shX t ad D r σ) args s 0 0 (gA shX ad)) (F0 m 23 ls [])) : ∀ (x1 : Int32) (x2 : Int32) (x3 : Int32) (x4 : Int32) (x5 : Int32) (x6 : Int32) (x7 : Int32) (x8 : Int32) (s0 : Int32) (H : Heap) (locs : List Loc) (ls : Array Slot), f_X6_widestOfTwo_78 σ K_23 x1 x2 x3 x4 x5 x6 x7 x8 s0 = some r → gI shX t ad D s.heap σ H locs → lv_has ls 11 [(0, .ref (ad 32)), (1, .int x1), (2, .int x2), (3, .int x3), (4, .int x4), (5, .int x5), (6, .int x6), (7, .int x7), (8, .int x8)] → W p l e (gR 2 83) s m args below meth c H locs 0 0 (MQ below (gQi shX t ad D r σ) args s 0 0 (gA shX ad)) (F0 m 78 ls [.int s0]) := by
  have hx := C.1
  have hb := C.2.1
  intro x1 x2 x3 x4 x5 x6 x7 x8 s0 H locs ls  h hI hl
  unfold f_X6_widestOfTwo_78 at h
  refine lv_istore (lv' := [(9, .int s0), (0, .ref (ad 32)), (1, .int x1), (2, .int x2), (3, .int x3), (4, .int x4), (5, .int x5), (6, .int x6), (7, .int x7), (8, .int x8)]) hx hb dX6_widestOfTwo_78 hl (by decide) rfl (fun ls hl => ?_)
  refine lv_iload hx hb dX6_widestOfTwo_80 (lv_at hl 9 rfl) ?_
  refine lv_iload hx hb dX6_widestOfTwo_82 (lv_at hl 0 rfl) ?_
  refine h_mmin C hl.1 k_774 ⟨Nat.le_of_ble_eq_true rfl, Nat.le_of_ble_eq_true rfl⟩ ⟨Nat.zero_le _, Nat.zero_le _⟩ dX6_widestOfTwo_84 ?_
  refine gx_topi h (fun v1 h => ?_)
  refine lv_istore (lv' := [(10, .int v1), (9, .int s0), (0, .ref (ad 32)), (1, .int x1), (2, .int x2), (3, .int x3), (4, .int x4), (5, .int x5), (6, .int x6), (7, .int x7), (8, .int x8)]) hx hb dX6_widestOfTwo_87 hl (by decide) rfl (fun ls hl => ?_)
  refine lv_iload hx hb dX6_widestOfTwo_89 (lv_at hl 0 rfl) ?_
  refine lv_iload_n hx hb dX6_widestOfTwo_91 rfl (lv_at hl 4 rfl) ?_
  refine hicmp_le (tgt := 98) C dX6_widestOfTwo_92 (by decide) h (fun h => ?_) (fun h => ?_)
  · refine lv_iload hx hb dX6_widestOfTwo_98 (lv_at hl 10 rfl) ?_
    refine lv_iload hx hb dX6_widestOfTwo_100 (lv_at hl 1 rfl) ?_
    refine hicmp_gt (tgt := 111) C dX6_widestOfTwo_102 (by decide) h (fun h => ?_) (fun h => ?_)
    · refine h_iinc C hl dX6_widestOfTwo_111 6 rfl ci_1 h (by decide) (lvf := fun v2 => [(4, .int v2), (10, .int v1), (9, .int s0), (0, .ref (ad 32)), (1, .int x1), (2, .int x2), (3, .int x3), (5, .int x5), (6, .int x6), (7, .int x7), (8, .int x8)]) (fun _ => rfl) (fun v2 ls h hl => ?_)
      exact w_X6_widestOfTwo_114 C hr   _ hK_23 _ _ _ _ _ _ _ _ _ _ _  h hI (lv_sub hl [3, 4, 5, 6, 0, 7, 8, 9, 1] rfl)
    · refine h_iinc C hl dX6_widestOfTwo_105 5 rfl ci_1 h (by decide) (lvf := fun v3 => [(3, .int v3), (10, .int v1), (9, .int s0), (0, .ref (ad 32)), (1, .int x1), (2, .int x2), (4, .int x4), (5, .int x5), (6, .int x6), (7, .int x7), (8, .int x8)]) (fun _ => rfl) (fun v3 ls h hl => ?_)
      refine lv_goto (tgt := 114) hx hb dX6_widestOfTwo_108 (by decide) ?_
      exact w_X6_widestOfTwo_114 C hr   _ hK_23 _ _ _ _ _ _ _ _ _ _ _  h hI (lv_sub hl [3, 4, 5, 0, 6, 7, 8, 9, 1] rfl)
  · refine lv_goto (tgt := 148) hx hb dX6_widestOfTwo_95 (by decide) ?_
    refine lv_iload hx hb dX6_widestOfTwo_148 (lv_at hl 7 rfl) ?_
    exact h_iret_o C hr hI h dX6_widestOfTwo_150
set_option maxRecDepth 100000 in
set_option maxHeartbeats 4000000 in
theorem w_X6_widestOfTwo_53 {p : Program} {l : Launch} {e : Env} {s : State} {m : MethodId} {args : Array Value} {below : List Frame} {meth : Method} {c : Code} {D : va_G} {t : gT} {ad z : Nat → Nat} {σ : gS} (C : gC p s m args meth c cX6_widestOfTwo 11 "NineKeysRound$Sightings" D t shX ad z) (hr : meth.sig.returnType = some .int) {r : Int32} (K_23 : Int32 → Int32 → Int32 → Int32 → Int32 → Int32 → Int32 → Option Int32) (hK_23 : ∀ (x1 : Int32) (x2 : Int32) (x3 : Int32) (x4 : Int32) (x5 : Int32) (x6 : Int32) (x7 : Int32) (H : Heap) (locs : List Loc) (ls : Array Slot), K_23 x1 x2 x3 x4 x5 x6 x7 = some r → gI shX t ad D s.heap σ H locs → lv_has ls 11 [(0, .ref (ad 32)), (1, .int x1), (2, .int x2), (3, .int x3), (4, .int x4), (5, .int x5), (6, .int x6), (7, .int x7)] → W p l e (gR 2 83) s m args below meth c H locs 0 0 (MQ below (gQi shX t ad D r σ) args s 0 0 (gA shX ad)) (F0 m 23 ls [])) : ∀ (x1 : Int32) (x2 : Int32) (x3 : Int32) (x4 : Int32) (x5 : Int32) (x6 : Int32) (x7 : Int32) (s0 : Int32) (H : Heap) (locs : List Loc) (ls : Array Slot), f_X6_widestOfTwo_53 σ K_23 x1 x2 x3 x4 x5 x6 x7 s0 = some r → gI shX t ad D s.heap σ H locs → lv_has ls 11 [(0, .ref (ad 32)), (1, .int x1), (2, .int x2), (3, .int x3), (4, .int x4), (5, .int x5), (6, .int x6), (7, .int x7)] → W p l e (gR 2 83) s m args below meth c H locs 0 0 (MQ below (gQi shX t ad D r σ) args s 0 0 (gA shX ad)) (F0 m 53 ls [.int s0]) := by
  have hx := C.1
  have hb := C.2.1
  intro x1 x2 x3 x4 x5 x6 x7 s0 H locs ls  h hI hl
  unfold f_X6_widestOfTwo_53 at h
  refine lv_istore (lv' := [(8, .int s0), (0, .ref (ad 32)), (1, .int x1), (2, .int x2), (3, .int x3), (4, .int x4), (5, .int x5), (6, .int x6), (7, .int x7)]) hx hb dX6_widestOfTwo_53 hl (by decide) rfl (fun ls hl => ?_)
  refine lv_iload hx hb dX6_widestOfTwo_55 (lv_at hl 5 rfl) ?_
  refine lv_aload_n hx hb dX6_widestOfTwo_57 rfl (lv_at hl 1 rfl) ?_
  refine fg_143 C hI shX_32 rfl dX6_widestOfTwo_58 ?_
  refine hicmp_ge (tgt := 76) C dX6_widestOfTwo_61 (by decide) h (fun h => ?_) (fun h => ?_)
  · refine lv_ldc hx hb C.2.2.2.1 (C.2.2.2.2.1 _ k_773) dX6_widestOfTwo_76 ?_
    exact w_X6_widestOfTwo_78 C hr   _ hK_23 _ _ _ _ _ _ _ _ _ _ _ _  h hI (lv_sub hl [1, 2, 3, 4, 5, 6, 7, 8, 0] rfl)
  · refine lv_aload_n hx hb dX6_widestOfTwo_64 rfl (lv_at hl 1 rfl) ?_
    refine fr_142 C hI shX_32 rfl dX6_widestOfTwo_65 ?_
    refine lv_iload hx hb dX6_widestOfTwo_68 (lv_at hl 5 rfl) ?_
    refine gx_iald C hI shX_33 h dX6_widestOfTwo_70 (fun h => ?_)
    refine lv_iload_n hx hb dX6_widestOfTwo_71 rfl (lv_at hl 2 rfl) ?_
    refine lv_iadd hx hb dX6_widestOfTwo_72 ?_
    refine lv_goto (tgt := 78) hx hb dX6_widestOfTwo_73 (by decide) ?_
    exact w_X6_widestOfTwo_78 C hr   _ hK_23 _ _ _ _ _ _ _ _ _ _ _ _  h hI (lv_sub hl [1, 2, 3, 4, 5, 6, 7, 8, 0] rfl)
set_option maxRecDepth 100000 in
set_option maxHeartbeats 4000000 in
theorem w_X6_widestOfTwo_23 {p : Program} {l : Launch} {e : Env} {s : State} {m : MethodId} {args : Array Value} {below : List Frame} {meth : Method} {c : Code} {D : va_G} {t : gT} {ad z : Nat → Nat} {σ : gS} (C : gC p s m args meth c cX6_widestOfTwo 11 "NineKeysRound$Sightings" D t shX ad z) (hr : meth.sig.returnType = some .int) {r : Int32} : ∀ (n : Nat) (x1 : Int32) (x2 : Int32) (x3 : Int32) (x4 : Int32) (x5 : Int32) (x6 : Int32) (x7 : Int32) (H : Heap) (locs : List Loc) (ls : Array Slot), f_X6_widestOfTwo_23 σ n x1 x2 x3 x4 x5 x6 x7 = some r → gI shX t ad D s.heap σ H locs → lv_has ls 11 [(0, .ref (ad 32)), (1, .int x1), (2, .int x2), (3, .int x3), (4, .int x4), (5, .int x5), (6, .int x6), (7, .int x7)] → W p l e (gR 2 83) s m args below meth c H locs 0 0 (MQ below (gQi shX t ad D r σ) args s 0 0 (gA shX ad)) (F0 m 23 ls []) := by
  have hx := C.1
  have hb := C.2.1
  intro n
  induction n with
  | zero =>
    intro x1 x2 x3 x4 x5 x6 x7 H locs ls  h
    exact absurd h (by simp [f_X6_widestOfTwo_23])
  | succ n ih =>
    intro x1 x2 x3 x4 x5 x6 x7 H locs ls  h hI hl
    unfold f_X6_widestOfTwo_23 at h
    refine lv_iload hx hb dX6_widestOfTwo_23 (lv_at hl 7 rfl) ?_
    refine lv_iconst hx hb dX6_widestOfTwo_25 ci_2 ?_
    refine lv_aload_n hx hb dX6_widestOfTwo_26 rfl (lv_at hl 0 rfl) ?_
    refine fg_143 C hI shX_32 rfl dX6_widestOfTwo_27 ?_
    refine lv_imul hx hb dX6_widestOfTwo_30 ?_
    refine hicmp_ge (tgt := 148) C dX6_widestOfTwo_31 (by decide) h (fun h => ?_) (fun h => ?_)
    · refine lv_iload hx hb dX6_widestOfTwo_148 (lv_at hl 5 rfl) ?_
      exact h_iret_o C hr hI h dX6_widestOfTwo_150
    · refine lv_iload_n hx hb dX6_widestOfTwo_34 rfl (lv_at hl 3 rfl) ?_
      refine lv_aload_n hx hb dX6_widestOfTwo_35 rfl (lv_at hl 0 rfl) ?_
      refine fg_143 C hI shX_32 rfl dX6_widestOfTwo_36 ?_
      refine hicmp_ge (tgt := 51) C dX6_widestOfTwo_39 (by decide) h (fun h => ?_) (fun h => ?_)
      · refine lv_ldc hx hb C.2.2.2.1 (C.2.2.2.2.1 _ k_773) dX6_widestOfTwo_51 ?_
        exact w_X6_widestOfTwo_53 C hr   _ ih _ _ _ _ _ _ _ _ _ _ _  h hI (lv_sub hl [0, 1, 2, 3, 4, 5, 6, 7] rfl)
      · refine lv_aload_n hx hb dX6_widestOfTwo_42 rfl (lv_at hl 0 rfl) ?_
        refine fr_142 C hI shX_32 rfl dX6_widestOfTwo_43 ?_
        refine lv_iload_n hx hb dX6_widestOfTwo_46 rfl (lv_at hl 3 rfl) ?_
        refine gx_iald C hI shX_33 h dX6_widestOfTwo_47 (fun h => ?_)
        refine lv_goto (tgt := 53) hx hb dX6_widestOfTwo_48 (by decide) ?_
        exact w_X6_widestOfTwo_53 C hr   _ ih _ _ _ _ _ _ _ _ _ _ _  h hI (lv_sub hl [0, 1, 2, 3, 4, 5, 6, 7] rfl)
set_option maxRecDepth 100000 in
set_option maxHeartbeats 4000000 in
theorem c_X6_widestOfTwo (l : Launch) (D : va_G) (t : gT) (ad z : Nat → Nat) (hJ : gJ shX ad) (σ : gS) (x1 : Int32) (x2 : Int32) (q : Int32) (h : f_X6_widestOfTwo σ x1 x2 = some q) : Met l yX6_widestOfTwo (Cond.code yX6_widestOfTwo cX6_widestOfTwo 11 (some .int) :: lw_tb) (gR 2 83) (gPc shX t ad D z [.ref (ad 32), .int x1, .int x2] σ) (gQi shX t ad D q σ) 0 0 (gA shX ad) := by
  refine gMet "NineKeysRound$Sightings" rfl (by decide) hJ (Nat.le_of_ble_eq_true rfl) ?_
  intro p e s m below meth c ls C hr hI hl
  have hx := C.1
  have hb := C.2.1
  have hl : lv_has ls 11 [(0, .ref (ad 32)), (1, .int x1), (2, .int x2)] := hl
  unfold f_X6_widestOfTwo at h
  refine lv_aload_n hx hb dX6_widestOfTwo_0 rfl (lv_at hl 0 rfl) ?_
  refine lv_iload_n hx hb dX6_widestOfTwo_1 rfl (lv_at hl 1 rfl) ?_
  refine lv_iconst hx hb dX6_widestOfTwo_2 ci_1 ?_
  refine lv_isub hx hb dX6_widestOfTwo_3 ?_
  refine lv_iconst hx hb dX6_widestOfTwo_4 ci_0 ?_
  refine h_callvi_o (rest := []) C hI hl.1 shX_32 rfl yv_X6_countBy k_772 h (fun q hq => c_X6_countBy l D t ad z C.2.2.2.2.2.2.1 (σ) (x1 - 1) 0 q hq) (As := [.int (x1 - 1), .int 0]) rfl rfl ⟨Nat.le_of_ble_eq_true rfl, Nat.le_of_ble_eq_true rfl⟩ (Nat.le_of_ble_eq_true rfl) dX6_widestOfTwo_5 (fun q1 H locs h hI => ?_)
  refine lv_istore_n (lv' := [(3, .int q1), (0, .ref (ad 32)), (1, .int x1), (2, .int x2)]) hx hb dX6_widestOfTwo_8 rfl hl (by decide) rfl (fun ls hl => ?_)
  refine lv_iconst hx hb dX6_widestOfTwo_9 ci_0 ?_
  refine lv_istore (lv' := [(4, .int 0), (3, .int q1), (0, .ref (ad 32)), (1, .int x1), (2, .int x2)]) hx hb dX6_widestOfTwo_10 hl (by decide) rfl (fun ls hl => ?_)
  refine lv_bipush hx hb dX6_widestOfTwo_12 cb_m2 ?_
  refine lv_istore (lv' := [(5, .int (-2)), (4, .int 0), (3, .int q1), (0, .ref (ad 32)), (1, .int x1), (2, .int x2)]) hx hb dX6_widestOfTwo_14 hl (by decide) rfl (fun ls hl => ?_)
  refine lv_bipush hx hb dX6_widestOfTwo_16 cb_m2 ?_
  refine lv_istore (lv' := [(6, .int (-2)), (5, .int (-2)), (4, .int 0), (3, .int q1), (0, .ref (ad 32)), (1, .int x1), (2, .int x2)]) hx hb dX6_widestOfTwo_18 hl (by decide) rfl (fun ls hl => ?_)
  refine lv_iconst hx hb dX6_widestOfTwo_20 ci_0 ?_
  refine lv_istore (lv' := [(7, .int 0), (6, .int (-2)), (5, .int (-2)), (4, .int 0), (3, .int q1), (0, .ref (ad 32)), (1, .int x1), (2, .int x2)]) hx hb dX6_widestOfTwo_21 hl (by decide) rfl (fun ls hl => ?_)
  exact w_X6_widestOfTwo_23 C hr    _ _ _ _ _ _ _ _ _ _ _  h hI (lv_sub hl [5, 6, 7, 4, 3, 2, 1, 0] rfl)
set_option maxRecDepth 100000 in
set_option maxHeartbeats 4000000 in
theorem c_X7_throughFirst (l : Launch) (D : va_G) (t : gT) (ad z : Nat → Nat) (hJ : gJ shX ad) (σ : gS) (x1 : Int32) (x2 : Int32) (x3 : Int32) (q : Int32) (h : f_X7_throughFirst σ x1 x2 x3 = some q) : Met l yX7_throughFirst (Cond.code yX7_throughFirst cX7_throughFirst 5 (some .int) :: lw_tb) (gR 3 105) (gPc shX t ad D z [.ref (ad 34), .int x1, .int x2, .int x3] σ) (gQi shX t ad D q σ) 0 0 (gA shX ad) := by
  refine gMet "NineKeysRound$Tour" rfl (by decide) hJ (Nat.le_of_ble_eq_true rfl) ?_
  intro p e s m below meth c ls C hr hI hl
  have hx := C.1
  have hb := C.2.1
  have hl : lv_has ls 5 [(0, .ref (ad 34)), (1, .int x1), (2, .int x2), (3, .int x3)] := hl
  unfold f_X7_throughFirst at h
  refine lv_iload_n hx hb dX7_throughFirst_0 rfl (lv_at hl 2 rfl) ?_
  refine lv_iconst hx hb dX7_throughFirst_1 ci_1 ?_
  refine lv_iload_n hx hb dX7_throughFirst_2 rfl (lv_at hl 3 rfl) ?_
  refine lv_ishl hx hb dX7_throughFirst_3 ?_
  refine lv_iconst hx hb dX7_throughFirst_4 ci_m1 ?_
  refine lv_ixor hx hb dX7_throughFirst_5 ?_
  refine lv_iand hx hb dX7_throughFirst_6 ?_
  refine gx_topi h (fun v1 h => ?_)
  refine lv_istore (lv' := [(4, .int v1), (0, .ref (ad 34)), (1, .int x1), (2, .int x2), (3, .int x3)]) hx hb dX7_throughFirst_7 hl (by decide) rfl (fun ls hl => ?_)
  refine lv_aload_n hx hb dX7_throughFirst_9 rfl (lv_at hl 1 rfl) ?_
  refine fr_158 C hI shX_34 rfl dX7_throughFirst_10 ?_
  refine lv_iload_n hx hb dX7_throughFirst_13 rfl (lv_at hl 2 rfl) ?_
  refine lv_aload_n hx hb dX7_throughFirst_14 rfl (lv_at hl 1 rfl) ?_
  refine fr_159 C hI shX_34 rfl dX7_throughFirst_15 ?_
  refine lv_iload_n hx hb dX7_throughFirst_18 rfl (lv_at hl 4 rfl) ?_
  refine gx_iald C hI shX_35 h dX7_throughFirst_19 (fun h => ?_)
  refine h_callvi_o (rest := []) C hI hl.1 shX_1 rfl yv_X8_way k_717 h (fun q hq => c_X8_way l D t ad z C.2.2.2.2.2.2.1 (σ) x1 (σ.1 35 (x3).toNatClampNeg) q hq) (As := [.int x1, .int (σ.1 35 (x3).toNatClampNeg)]) rfl rfl ⟨Nat.le_of_ble_eq_true rfl, Nat.le_of_ble_eq_true rfl⟩ (Nat.le_of_ble_eq_true rfl) dX7_throughFirst_20 (fun q2 H locs h hI => ?_)
  refine lv_aload_n hx hb dX7_throughFirst_23 rfl (lv_at hl 1 rfl) ?_
  refine fr_158 C hI shX_34 rfl dX7_throughFirst_24 ?_
  refine h_callvi_o (rest := [.int q2]) C hI hl.1 shX_1 rfl yv_X8_stand k_723 h (fun q hq => c_X8_stand l D t ad z C.2.2.2.2.2.2.1 (σ) q hq) (As := []) rfl rfl ⟨Nat.le_of_ble_eq_true rfl, Nat.le_of_ble_eq_true rfl⟩ (Nat.le_of_ble_eq_true rfl) dX7_throughFirst_27 (fun q3 H locs h hI => ?_)
  refine lv_iadd hx hb dX7_throughFirst_30 ?_
  refine lv_aload_n hx hb dX7_throughFirst_31 rfl (lv_at hl 1 rfl) ?_
  refine fr_161 C hI shX_34 rfl dX7_throughFirst_32 ?_
  refine lv_iload hx hb dX7_throughFirst_35 (lv_at hl 0 rfl) ?_
  refine lv_bipush hx hb dX7_throughFirst_37 cb_7 ?_
  refine lv_imul hx hb dX7_throughFirst_39 ?_
  refine lv_iload_n hx hb dX7_throughFirst_40 rfl (lv_at hl 4 rfl) ?_
  refine lv_iadd hx hb dX7_throughFirst_41 ?_
  refine gx_iald C hI shX_36 h dX7_throughFirst_42 (fun h => ?_)
  refine lv_iadd hx hb dX7_throughFirst_43 ?_
  exact h_iret_o C hr hI h dX7_throughFirst_44
set_option maxRecDepth 100000 in
set_option maxHeartbeats 4000000 in
theorem w_X7_leastFrom_21 {p : Program} {l : Launch} {e : Env} {s : State} {m : MethodId} {args : Array Value} {below : List Frame} {meth : Method} {c : Code} {D : va_G} {t : gT} {ad z : Nat → Nat} {σ : gS} (C : gC p s m args meth c cX7_leastFrom 5 "NineKeysRound$Tour" D t shX ad z) (hr : meth.sig.returnType = some .int) {r : Int32} : ∀ (n : Nat) (x1 : Int32) (x2 : Int32) (x3 : Int32) (x4 : Int32) (H : Heap) (locs : List Loc) (ls : Array Slot), f_X7_leastFrom_21 σ n x1 x2 x3 x4 = some r → gI shX t ad D s.heap σ H locs → lv_has ls 5 [(0, .ref (ad 34)), (1, .int x1), (2, .int x2), (3, .int x3), (4, .int x4)] → W p l e (gR 4 129) s m args below meth c H locs 0 0 (MQ below (gQi shX t ad D r σ) args s 0 0 (gA shX ad)) (F0 m 21 ls []) := by
  have hx := C.1
  have hb := C.2.1
  intro n
  induction n with
  | zero =>
    intro x1 x2 x3 x4 H locs ls  h
    exact absurd h (by simp [f_X7_leastFrom_21])
  | succ n ih =>
    intro x1 x2 x3 x4 H locs ls  h hI hl
    unfold f_X7_leastFrom_21 at h
    refine lv_iload hx hb dX7_leastFrom_21 (lv_at hl 4 rfl) ?_
    refine lv_aload_n hx hb dX7_leastFrom_23 rfl (lv_at hl 0 rfl) ?_
    refine fg_162 C hI shX_34 rfl dX7_leastFrom_24 ?_
    refine hicmp_ge (tgt := 58) C dX7_leastFrom_27 (by decide) h (fun h => ?_) (fun h => ?_)
    · refine lv_iload_n hx hb dX7_leastFrom_58 rfl (lv_at hl 3 rfl) ?_
      exact h_iret_o C hr hI h dX7_leastFrom_59
    · refine lv_iload_n hx hb dX7_leastFrom_30 rfl (lv_at hl 2 rfl) ?_
      refine lv_iload hx hb dX7_leastFrom_31 (lv_at hl 4 rfl) ?_
      refine lv_ishr hx hb dX7_leastFrom_33 ?_
      refine lv_iconst hx hb dX7_leastFrom_34 ci_1 ?_
      refine lv_iand hx hb dX7_leastFrom_35 ?_
      refine hif_eq (tgt := 52) C dX7_leastFrom_36 (by decide) h (fun h => ?_) (fun h => ?_)
      · refine h_iinc C hl dX7_leastFrom_52 4 rfl ci_1 h (by decide) (lvf := fun v1 => [(4, .int v1), (0, .ref (ad 34)), (1, .int x1), (2, .int x2), (3, .int x3)]) (fun _ => rfl) (fun v1 ls h hl => ?_)
        refine lv_goto (tgt := 21) hx hb dX7_leastFrom_55 (by decide) ?_
        exact ih _ _ _ _ _ _ _  h hI (lv_sub hl [1, 2, 3, 4, 0] rfl)
      · refine lv_iload_n hx hb dX7_leastFrom_39 rfl (lv_at hl 3 rfl) ?_
        refine lv_aload_n hx hb dX7_leastFrom_40 rfl (lv_at hl 0 rfl) ?_
        refine lv_iload_n hx hb dX7_leastFrom_41 rfl (lv_at hl 1 rfl) ?_
        refine lv_iload_n hx hb dX7_leastFrom_42 rfl (lv_at hl 2 rfl) ?_
        refine lv_iload hx hb dX7_leastFrom_43 (lv_at hl 4 rfl) ?_
        refine h_callvi_o (rest := [.int x3]) C hI hl.1 shX_34 rfl yv_X7_throughFirst k_719 h (fun q hq => c_X7_throughFirst l D t ad z C.2.2.2.2.2.2.1 (σ) x1 x2 x4 q hq) (As := [.int x1, .int x2, .int x4]) rfl rfl ⟨Nat.le_of_ble_eq_true rfl, Nat.le_of_ble_eq_true rfl⟩ (Nat.le_of_ble_eq_true rfl) dX7_leastFrom_45 (fun q2 H locs h hI => ?_)
        refine h_mmin C hl.1 k_724 ⟨Nat.le_of_ble_eq_true rfl, Nat.le_of_ble_eq_true rfl⟩ ⟨Nat.zero_le _, Nat.zero_le _⟩ dX7_leastFrom_48 ?_
        refine gx_topi h (fun v3 h => ?_)
        refine lv_istore_n (lv' := [(3, .int v3), (0, .ref (ad 34)), (1, .int x1), (2, .int x2), (4, .int x4)]) hx hb dX7_leastFrom_51 rfl hl (by decide) rfl (fun ls hl => ?_)
        refine h_iinc C hl dX7_leastFrom_52 4 rfl ci_1 h (by decide) (lvf := fun v4 => [(4, .int v4), (3, .int v3), (0, .ref (ad 34)), (1, .int x1), (2, .int x2)]) (fun _ => rfl) (fun v4 ls h hl => ?_)
        refine lv_goto (tgt := 21) hx hb dX7_leastFrom_55 (by decide) ?_
        exact ih _ _ _ _ _ _ _  h hI (lv_sub hl [2, 3, 4, 1, 0] rfl)
set_option maxRecDepth 100000 in
set_option maxHeartbeats 4000000 in
theorem c_X7_leastFrom (l : Launch) (D : va_G) (t : gT) (ad z : Nat → Nat) (hJ : gJ shX ad) (σ : gS) (x1 : Int32) (x2 : Int32) (q : Int32) (h : f_X7_leastFrom σ x1 x2 = some q) : Met l yX7_leastFrom (Cond.code yX7_leastFrom cX7_leastFrom 5 (some .int) :: lw_tb) (gR 4 129) (gPc shX t ad D z [.ref (ad 34), .int x1, .int x2] σ) (gQi shX t ad D q σ) 0 0 (gA shX ad) := by
  refine gMet "NineKeysRound$Tour" rfl (by decide) hJ (Nat.le_of_ble_eq_true rfl) ?_
  intro p e s m below meth c ls C hr hI hl
  have hx := C.1
  have hb := C.2.1
  have hl : lv_has ls 5 [(0, .ref (ad 34)), (1, .int x1), (2, .int x2)] := hl
  unfold f_X7_leastFrom at h
  refine lv_iload_n hx hb dX7_leastFrom_0 rfl (lv_at hl 2 rfl) ?_
  refine hif_ne (tgt := 15) C dX7_leastFrom_1 (by decide) h (fun h => ?_) (fun h => ?_)
  · refine lv_ldc hx hb C.2.2.2.1 (C.2.2.2.2.1 _ k_718) dX7_leastFrom_15 ?_
    refine lv_istore_n (lv' := [(3, .int 2147483647), (0, .ref (ad 34)), (1, .int x1), (2, .int x2)]) hx hb dX7_leastFrom_17 rfl hl (by decide) rfl (fun ls hl => ?_)
    refine lv_iconst hx hb dX7_leastFrom_18 ci_0 ?_
    refine lv_istore (lv' := [(4, .int 0), (3, .int 2147483647), (0, .ref (ad 34)), (1, .int x1), (2, .int x2)]) hx hb dX7_leastFrom_19 hl (by decide) rfl (fun ls hl => ?_)
    exact w_X7_leastFrom_21 C hr    _ _ _ _ _ _ _ _  h hI (lv_sub hl [2, 3, 4, 1, 0] rfl)
  · refine lv_aload_n hx hb dX7_leastFrom_4 rfl (lv_at hl 0 rfl) ?_
    refine fr_158 C hI shX_34 rfl dX7_leastFrom_5 ?_
    refine lv_iload_n hx hb dX7_leastFrom_8 rfl (lv_at hl 1 rfl) ?_
    refine lv_bipush hx hb dX7_leastFrom_9 cb_9 ?_
    refine h_callvi_o (rest := []) C hI hl.1 shX_1 rfl yv_X8_way k_717 h (fun q hq => c_X8_way l D t ad z C.2.2.2.2.2.2.1 (σ) x1 9 q hq) (As := [.int x1, .int 9]) rfl rfl ⟨Nat.le_of_ble_eq_true rfl, Nat.le_of_ble_eq_true rfl⟩ (Nat.le_of_ble_eq_true rfl) dX7_leastFrom_11 (fun q1 H locs h hI => ?_)
    exact h_iret_o C hr hI h dX7_leastFrom_14
set_option maxRecDepth 100000 in
set_option maxHeartbeats 4000000 in
theorem w_X7_reckon_72 {p : Program} {l : Launch} {e : Env} {s : State} {m : MethodId} {args : Array Value} {below : List Frame} {meth : Method} {c : Code} {D : va_G} {t : gT} {ad z : Nat → Nat} (C : gC p s m args meth c cX7_reckon 4 "NineKeysRound$Tour" D t shX ad z) (hr : meth.sig.returnType = some .int) {r : Int32 × gS} (K_60 : Int32 → gS → Option (Int32 × gS)) (hK_60 : ∀ (x2 : Int32) (σ : gS) (H : Heap) (locs : List Loc) (ls : Array Slot), K_60 x2 σ = some r → gI shX t ad D s.heap σ H locs → lv_has ls 4 [(0, .ref (ad 34)), (2, .int x2)] → W p l e (gR 5 153) s m args below meth c H locs 0 0 (MQ below (gQi shX t ad D r.1 r.2) args s 0 0 (gA shX ad)) (F0 m 60 ls [])) : ∀ (n : Nat) (x2 : Int32) (x3 : Int32) (σ : gS) (H : Heap) (locs : List Loc) (ls : Array Slot), f_X7_reckon_72 K_60 n x2 x3 σ = some r → gI shX t ad D s.heap σ H locs → lv_has ls 4 [(0, .ref (ad 34)), (2, .int x2), (3, .int x3)] → W p l e (gR 5 153) s m args below meth c H locs 0 0 (MQ below (gQi shX t ad D r.1 r.2) args s 0 0 (gA shX ad)) (F0 m 72 ls []) := by
  have hx := C.1
  have hb := C.2.1
  intro n
  induction n with
  | zero =>
    intro x2 x3 σ H locs ls  h
    exact absurd h (by simp [f_X7_reckon_72])
  | succ n ih =>
    intro x2 x3 σ H locs ls  h hI hl
    unfold f_X7_reckon_72 at h
    refine lv_iload_n hx hb dX7_reckon_72 rfl (lv_at hl 2 rfl) ?_
    refine lv_aload_n hx hb dX7_reckon_73 rfl (lv_at hl 0 rfl) ?_
    refine fg_162 C hI shX_34 rfl dX7_reckon_74 ?_
    refine hicmp_ge (tgt := 116) C dX7_reckon_77 (by decide) h (fun h => ?_) (fun h => ?_)
    · refine h_iinc C hl dX7_reckon_116 1 rfl ci_1 h (by decide) (lvf := fun v1 => [(2, .int v1), (0, .ref (ad 34)), (3, .int x3)]) (fun _ => rfl) (fun v1 ls h hl => ?_)
      refine lv_goto (tgt := 60) hx hb dX7_reckon_119 (by decide) ?_
      exact hK_60 _ _ _ _ _  h hI (lv_sub hl [1, 0] rfl)
    · refine lv_iload_n hx hb dX7_reckon_80 rfl (lv_at hl 1 rfl) ?_
      refine lv_iload_n hx hb dX7_reckon_81 rfl (lv_at hl 2 rfl) ?_
      refine lv_ishr hx hb dX7_reckon_82 ?_
      refine lv_iconst hx hb dX7_reckon_83 ci_1 ?_
      refine lv_iand hx hb dX7_reckon_84 ?_
      refine hif_ne (tgt := 110) C dX7_reckon_85 (by decide) h (fun h => ?_) (fun h => ?_)
      · refine h_iinc C hl dX7_reckon_110 2 rfl ci_1 h (by decide) (lvf := fun v2 => [(3, .int v2), (0, .ref (ad 34)), (2, .int x2)]) (fun _ => rfl) (fun v2 ls h hl => ?_)
        refine lv_goto (tgt := 72) hx hb dX7_reckon_113 (by decide) ?_
        exact ih _ _ _ _ _ _  h hI (lv_sub hl [1, 2, 0] rfl)
      · refine lv_aload_n hx hb dX7_reckon_88 rfl (lv_at hl 0 rfl) ?_
        refine fr_161 C hI shX_34 rfl dX7_reckon_89 ?_
        refine lv_iload_n hx hb dX7_reckon_92 rfl (lv_at hl 1 rfl) ?_
        refine lv_bipush hx hb dX7_reckon_93 cb_7 ?_
        refine lv_imul hx hb dX7_reckon_95 ?_
        refine lv_iload_n hx hb dX7_reckon_96 rfl (lv_at hl 2 rfl) ?_
        refine lv_iadd hx hb dX7_reckon_97 ?_
        refine lv_aload_n hx hb dX7_reckon_98 rfl (lv_at hl 0 rfl) ?_
        refine lv_aload_n hx hb dX7_reckon_99 rfl (lv_at hl 0 rfl) ?_
        refine fr_159 C hI shX_34 rfl dX7_reckon_100 ?_
        refine lv_iload_n hx hb dX7_reckon_103 rfl (lv_at hl 2 rfl) ?_
        refine gx_iald C hI shX_35 h dX7_reckon_104 (fun h => ?_)
        refine lv_iload_n hx hb dX7_reckon_105 rfl (lv_at hl 1 rfl) ?_
        refine h_callvi_o (rest := [.int ((x2 * 7) + x3), .ref (ad 36)]) C hI hl.1 shX_34 rfl yv_X7_leastFrom k_713 h (fun q hq => c_X7_leastFrom l D t ad z C.2.2.2.2.2.2.1 (σ) (σ.1 35 (x3).toNatClampNeg) x2 q hq) (As := [.int (σ.1 35 (x3).toNatClampNeg), .int x2]) rfl rfl ⟨Nat.le_of_ble_eq_true rfl, Nat.le_of_ble_eq_true rfl⟩ (Nat.le_of_ble_eq_true rfl) dX7_reckon_106 (fun q3 H locs h hI => ?_)
        refine gx_iast C hI shX_36 h dX7_reckon_109 (fun H locs h hI => ?_)
        refine gx_st h hI (fun s4 h hI => ?_)
        refine h_iinc C hl dX7_reckon_110 2 rfl ci_1 h (by decide) (lvf := fun v5 => [(3, .int v5), (0, .ref (ad 34)), (2, .int x2)]) (fun _ => rfl) (fun v5 ls h hl => ?_)
        refine lv_goto (tgt := 72) hx hb dX7_reckon_113 (by decide) ?_
        exact ih _ _ _ _ _ _  h hI (lv_sub hl [1, 2, 0] rfl)
set_option maxRecDepth 100000 in
set_option maxHeartbeats 4000000 in
theorem w_X7_reckon_60 {p : Program} {l : Launch} {e : Env} {s : State} {m : MethodId} {args : Array Value} {below : List Frame} {meth : Method} {c : Code} {D : va_G} {t : gT} {ad z : Nat → Nat} (C : gC p s m args meth c cX7_reckon 4 "NineKeysRound$Tour" D t shX ad z) (hr : meth.sig.returnType = some .int) {r : Int32 × gS} : ∀ (n : Nat) (x2 : Int32) (σ : gS) (H : Heap) (locs : List Loc) (ls : Array Slot), f_X7_reckon_60 n x2 σ = some r → gI shX t ad D s.heap σ H locs → lv_has ls 4 [(0, .ref (ad 34)), (2, .int x2)] → W p l e (gR 5 153) s m args below meth c H locs 0 0 (MQ below (gQi shX t ad D r.1 r.2) args s 0 0 (gA shX ad)) (F0 m 60 ls []) := by
  have hx := C.1
  have hb := C.2.1
  intro n
  induction n with
  | zero =>
    intro x2 σ H locs ls  h
    exact absurd h (by simp [f_X7_reckon_60])
  | succ n ih =>
    intro x2 σ H locs ls  h hI hl
    unfold f_X7_reckon_60 at h
    refine lv_iload_n hx hb dX7_reckon_60 rfl (lv_at hl 1 rfl) ?_
    refine lv_iconst hx hb dX7_reckon_61 ci_1 ?_
    refine lv_aload_n hx hb dX7_reckon_62 rfl (lv_at hl 0 rfl) ?_
    refine fg_162 C hI shX_34 rfl dX7_reckon_63 ?_
    refine lv_ishl hx hb dX7_reckon_66 ?_
    refine hicmp_ge (tgt := 122) C dX7_reckon_67 (by decide) h (fun h => ?_) (fun h => ?_)
    · refine lv_aload_n hx hb dX7_reckon_122 rfl (lv_at hl 0 rfl) ?_
      refine lv_bipush hx hb dX7_reckon_123 cb_9 ?_
      refine lv_iconst hx hb dX7_reckon_125 ci_1 ?_
      refine lv_aload_n hx hb dX7_reckon_126 rfl (lv_at hl 0 rfl) ?_
      refine fg_162 C hI shX_34 rfl dX7_reckon_127 ?_
      refine lv_ishl hx hb dX7_reckon_130 ?_
      refine lv_iconst hx hb dX7_reckon_131 ci_1 ?_
      refine lv_isub hx hb dX7_reckon_132 ?_
      refine h_callvi_o (rest := []) C hI hl.1 shX_34 rfl yv_X7_leastFrom k_713 h (fun q hq => c_X7_leastFrom l D t ad z C.2.2.2.2.2.2.1 (σ) 9 (((1 : Int32) <<< ((σ.1 34 3) &&& 31)) - 1) q hq) (As := [.int 9, .int (((1 : Int32) <<< ((σ.1 34 3) &&& 31)) - 1)]) rfl rfl ⟨Nat.le_of_ble_eq_true rfl, Nat.le_of_ble_eq_true rfl⟩ (Nat.le_of_ble_eq_true rfl) dX7_reckon_133 (fun q1 H locs h hI => ?_)
      exact h_iret_w C hr hI h dX7_reckon_136
    · refine lv_iconst hx hb dX7_reckon_70 ci_0 ?_
      refine lv_istore_n (lv' := [(3, .int 0), (0, .ref (ad 34)), (2, .int x2)]) hx hb dX7_reckon_71 rfl hl (by decide) rfl (fun ls hl => ?_)
      exact w_X7_reckon_72 C hr   _ ih _ _ _ _ _ _ _  h hI (lv_sub hl [1, 2, 0] rfl)
set_option maxRecDepth 100000 in
set_option maxHeartbeats 4000000 in
theorem w_X7_reckon_7 {p : Program} {l : Launch} {e : Env} {s : State} {m : MethodId} {args : Array Value} {below : List Frame} {meth : Method} {c : Code} {D : va_G} {t : gT} {ad z : Nat → Nat} (C : gC p s m args meth c cX7_reckon 4 "NineKeysRound$Tour" D t shX ad z) (hr : meth.sig.returnType = some .int) {r : Int32 × gS} : ∀ (n : Nat) (x1 : Int32) (x2 : Int32) (σ : gS) (H : Heap) (locs : List Loc) (ls : Array Slot), f_X7_reckon_7 n x1 x2 σ = some r → gI shX t ad D s.heap σ H locs → lv_has ls 4 [(0, .ref (ad 34)), (1, .int x1), (2, .int x2)] → W p l e (gR 5 153) s m args below meth c H locs 0 0 (MQ below (gQi shX t ad D r.1 r.2) args s 0 0 (gA shX ad)) (F0 m 7 ls []) := by
  have hx := C.1
  have hb := C.2.1
  intro n
  induction n with
  | zero =>
    intro x1 x2 σ H locs ls  h
    exact absurd h (by simp [f_X7_reckon_7])
  | succ n ih =>
    intro x1 x2 σ H locs ls  h hI hl
    unfold f_X7_reckon_7 at h
    refine lv_iload_n hx hb dX7_reckon_7 rfl (lv_at hl 2 rfl) ?_
    refine lv_aload_n hx hb dX7_reckon_8 rfl (lv_at hl 0 rfl) ?_
    refine fr_158 C hI shX_34 rfl dX7_reckon_9 ?_
    refine fg_36 C hI shX_1 rfl dX7_reckon_12 ?_
    refine hicmp_ge (tgt := 58) C dX7_reckon_15 (by decide) h (fun h => ?_) (fun h => ?_)
    · refine lv_iconst hx hb dX7_reckon_58 ci_0 ?_
      refine lv_istore_n (lv' := [(2, .int 0), (0, .ref (ad 34)), (1, .int x1)]) hx hb dX7_reckon_59 rfl hl (by decide) rfl (fun ls hl => ?_)
      exact w_X7_reckon_60 C hr    _ _ _ _ _ _  h hI (lv_sub hl [1, 0] rfl)
    · refine lv_aload_n hx hb dX7_reckon_18 rfl (lv_at hl 0 rfl) ?_
      refine fg_162 C hI shX_34 rfl dX7_reckon_19 ?_
      refine lv_bipush hx hb dX7_reckon_22 cb_7 ?_
      refine hicmp_ge (tgt := 58) C dX7_reckon_24 (by decide) h (fun h => ?_) (fun h => ?_)
      · refine lv_iconst hx hb dX7_reckon_58 ci_0 ?_
        refine lv_istore_n (lv' := [(2, .int 0), (0, .ref (ad 34)), (1, .int x1)]) hx hb dX7_reckon_59 rfl hl (by decide) rfl (fun ls hl => ?_)
        exact w_X7_reckon_60 C hr    _ _ _ _ _ _  h hI (lv_sub hl [1, 0] rfl)
      · refine lv_iload_n hx hb dX7_reckon_27 rfl (lv_at hl 1 rfl) ?_
        refine lv_iload_n hx hb dX7_reckon_28 rfl (lv_at hl 2 rfl) ?_
        refine lv_ishr hx hb dX7_reckon_29 ?_
        refine lv_iconst hx hb dX7_reckon_30 ci_1 ?_
        refine lv_iand hx hb dX7_reckon_31 ?_
        refine hif_eq (tgt := 52) C dX7_reckon_32 (by decide) h (fun h => ?_) (fun h => ?_)
        · refine h_iinc C hl dX7_reckon_52 2 rfl ci_1 h (by decide) (lvf := fun v1 => [(2, .int v1), (0, .ref (ad 34)), (1, .int x1)]) (fun _ => rfl) (fun v1 ls h hl => ?_)
          refine lv_goto (tgt := 7) hx hb dX7_reckon_55 (by decide) ?_
          exact ih _ _ _ _ _ _  h hI (lv_sub hl [1, 2, 0] rfl)
        · refine lv_aload_n hx hb dX7_reckon_35 rfl (lv_at hl 0 rfl) ?_
          refine fr_159 C hI shX_34 rfl dX7_reckon_36 ?_
          refine lv_aload_n hx hb dX7_reckon_39 rfl (lv_at hl 0 rfl) ?_
          refine lv_dup hx hb dX7_reckon_40 rfl ?_
          refine fg_162 C hI shX_34 rfl dX7_reckon_41 ?_
          refine gx_topi h (fun v2 h => ?_)
          refine lv_dup_x1 hx hb dX7_reckon_44 rfl rfl ?_
          refine lv_iconst hx hb dX7_reckon_45 ci_1 ?_
          refine lv_iadd hx hb dX7_reckon_46 ?_
          refine fp_162 C hI shX_34 rfl dX7_reckon_47 (fun H locs hI => ?_)
          refine gx_st h hI (fun s3 h hI => ?_)
          refine lv_iload_n hx hb dX7_reckon_50 rfl (lv_at hl 2 rfl) ?_
          refine gx_iast C hI shX_35 h dX7_reckon_51 (fun H locs h hI => ?_)
          refine gx_st h hI (fun s4 h hI => ?_)
          refine h_iinc C hl dX7_reckon_52 2 rfl ci_1 h (by decide) (lvf := fun v5 => [(2, .int v5), (0, .ref (ad 34)), (1, .int x1)]) (fun _ => rfl) (fun v5 ls h hl => ?_)
          refine lv_goto (tgt := 7) hx hb dX7_reckon_55 (by decide) ?_
          exact ih _ _ _ _ _ _  h hI (lv_sub hl [1, 2, 0] rfl)
set_option maxRecDepth 100000 in
set_option maxHeartbeats 4000000 in
theorem c_X7_reckon (l : Launch) (D : va_G) (t : gT) (ad z : Nat → Nat) (hJ : gJ shX ad) (σ : gS) (x1 : Int32) (q : Int32 × gS) (h : f_X7_reckon σ x1 = some q) : Met l yX7_reckon (Cond.code yX7_reckon cX7_reckon 4 (some .int) :: lw_tb) (gR 5 153) (gPc shX t ad D z [.ref (ad 34), .int x1] σ) (gQi shX t ad D q.1 q.2) 0 0 (gA shX ad) := by
  refine gMet "NineKeysRound$Tour" rfl (by decide) hJ (Nat.le_of_ble_eq_true rfl) ?_
  intro p e s m below meth c ls C hr hI hl
  have hx := C.1
  have hb := C.2.1
  have hl : lv_has ls 4 [(0, .ref (ad 34)), (1, .int x1)] := hl
  unfold f_X7_reckon at h
  refine lv_aload_n hx hb dX7_reckon_0 rfl (lv_at hl 0 rfl) ?_
  refine lv_iconst hx hb dX7_reckon_1 ci_0 ?_
  refine fp_162 C hI shX_34 rfl dX7_reckon_2 (fun H locs hI => ?_)
  refine gx_st h hI (fun s1 h hI => ?_)
  refine lv_iconst hx hb dX7_reckon_5 ci_0 ?_
  refine lv_istore_n (lv' := [(2, .int 0), (0, .ref (ad 34)), (1, .int x1)]) hx hb dX7_reckon_6 rfl hl (by decide) rfl (fun ls hl => ?_)
  exact w_X7_reckon_7 C hr    _ _ _ _ _ _ _  h hI (lv_sub hl [1, 2, 0] rfl)
set_option maxRecDepth 100000 in
set_option maxHeartbeats 4000000 in
theorem c_X7_minutesWithout (l : Launch) (D : va_G) (t : gT) (ad z : Nat → Nat) (hJ : gJ shX ad) (σ : gS) (x1 : Int32) (q : Int32) (h : f_X7_minutesWithout σ x1 = some q) : Met l yX7_minutesWithout (Cond.code yX7_minutesWithout cX7_minutesWithout 2 (some .int) :: lw_tb) (gR 5 153) (gPc shX t ad D z [.ref (ad 34), .int x1] σ) (gQi shX t ad D q σ) 0 0 (gA shX ad) := by
  refine gMet "NineKeysRound$Tour" rfl (by decide) hJ (Nat.le_of_ble_eq_true rfl) ?_
  intro p e s m below meth c ls C hr hI hl
  have hx := C.1
  have hb := C.2.1
  have hl : lv_has ls 2 [(0, .ref (ad 34)), (1, .int x1)] := hl
  unfold f_X7_minutesWithout at h
  refine lv_aload_n hx hb dX7_minutesWithout_0 rfl (lv_at hl 0 rfl) ?_
  refine lv_bipush hx hb dX7_minutesWithout_1 cb_9 ?_
  refine lv_iconst hx hb dX7_minutesWithout_3 ci_1 ?_
  refine lv_aload_n hx hb dX7_minutesWithout_4 rfl (lv_at hl 0 rfl) ?_
  refine fg_162 C hI shX_34 rfl dX7_minutesWithout_5 ?_
  refine lv_ishl hx hb dX7_minutesWithout_8 ?_
  refine lv_iconst hx hb dX7_minutesWithout_9 ci_1 ?_
  refine lv_isub hx hb dX7_minutesWithout_10 ?_
  refine lv_iconst hx hb dX7_minutesWithout_11 ci_1 ?_
  refine lv_iload_n hx hb dX7_minutesWithout_12 rfl (lv_at hl 1 rfl) ?_
  refine lv_ishl hx hb dX7_minutesWithout_13 ?_
  refine lv_iconst hx hb dX7_minutesWithout_14 ci_m1 ?_
  refine lv_ixor hx hb dX7_minutesWithout_15 ?_
  refine lv_iand hx hb dX7_minutesWithout_16 ?_
  refine h_callvi_o (rest := []) C hI hl.1 shX_34 rfl yv_X7_leastFrom k_713 h (fun q hq => c_X7_leastFrom l D t ad z C.2.2.2.2.2.2.1 (σ) 9 ((((1 : Int32) <<< ((σ.1 34 3) &&& 31)) - 1) &&& (((1 : Int32) <<< (x1 &&& 31)) ^^^ (-1))) q hq) (As := [.int 9, .int ((((1 : Int32) <<< ((σ.1 34 3) &&& 31)) - 1) &&& (((1 : Int32) <<< (x1 &&& 31)) ^^^ (-1)))]) rfl rfl ⟨Nat.le_of_ble_eq_true rfl, Nat.le_of_ble_eq_true rfl⟩ (Nat.le_of_ble_eq_true rfl) dX7_minutesWithout_17 (fun q1 H locs h hI => ?_)
  exact h_iret_o C hr hI h dX7_minutesWithout_20
set_option maxRecDepth 100000 in
set_option maxHeartbeats 4000000 in
theorem w_X7_firstOfLeast_10 {p : Program} {l : Launch} {e : Env} {s : State} {m : MethodId} {args : Array Value} {below : List Frame} {meth : Method} {c : Code} {D : va_G} {t : gT} {ad z : Nat → Nat} {σ : gS} (C : gC p s m args meth c cX7_firstOfLeast 5 "NineKeysRound$Tour" D t shX ad z) (hr : meth.sig.returnType = some .int) {r : Int32} : ∀ (n : Nat) (x1 : Int32) (x2 : Int32) (x3 : Int32) (x4 : Int32) (H : Heap) (locs : List Loc) (ls : Array Slot), f_X7_firstOfLeast_10 σ n x1 x2 x3 x4 = some r → gI shX t ad D s.heap σ H locs → lv_has ls 5 [(0, .ref (ad 34)), (1, .int x1), (2, .int x2), (3, .int x3), (4, .int x4)] → W p l e (gR 5 153) s m args below meth c H locs 0 0 (MQ below (gQi shX t ad D r σ) args s 0 0 (gA shX ad)) (F0 m 10 ls []) := by
  have hx := C.1
  have hb := C.2.1
  intro n
  induction n with
  | zero =>
    intro x1 x2 x3 x4 H locs ls  h
    exact absurd h (by simp [f_X7_firstOfLeast_10])
  | succ n ih =>
    intro x1 x2 x3 x4 H locs ls  h hI hl
    unfold f_X7_firstOfLeast_10 at h
    refine lv_iload hx hb dX7_firstOfLeast_10 (lv_at hl 4 rfl) ?_
    refine lv_aload_n hx hb dX7_firstOfLeast_12 rfl (lv_at hl 0 rfl) ?_
    refine fg_162 C hI shX_34 rfl dX7_firstOfLeast_13 ?_
    refine hicmp_ge (tgt := 49) C dX7_firstOfLeast_16 (by decide) h (fun h => ?_) (fun h => ?_)
    · refine lv_iconst hx hb dX7_firstOfLeast_49 ci_0 ?_
      exact h_iret_o C hr hI h dX7_firstOfLeast_50
    · refine lv_iload_n hx hb dX7_firstOfLeast_19 rfl (lv_at hl 2 rfl) ?_
      refine lv_iload hx hb dX7_firstOfLeast_20 (lv_at hl 4 rfl) ?_
      refine lv_ishr hx hb dX7_firstOfLeast_22 ?_
      refine lv_iconst hx hb dX7_firstOfLeast_23 ci_1 ?_
      refine lv_iand hx hb dX7_firstOfLeast_24 ?_
      refine hif_eq (tgt := 43) C dX7_firstOfLeast_25 (by decide) h (fun h => ?_) (fun h => ?_)
      · refine h_iinc C hl dX7_firstOfLeast_43 4 rfl ci_1 h (by decide) (lvf := fun v1 => [(4, .int v1), (0, .ref (ad 34)), (1, .int x1), (2, .int x2), (3, .int x3)]) (fun _ => rfl) (fun v1 ls h hl => ?_)
        refine lv_goto (tgt := 10) hx hb dX7_firstOfLeast_46 (by decide) ?_
        exact ih _ _ _ _ _ _ _  h hI (lv_sub hl [1, 2, 3, 4, 0] rfl)
      · refine lv_aload_n hx hb dX7_firstOfLeast_28 rfl (lv_at hl 0 rfl) ?_
        refine lv_iload_n hx hb dX7_firstOfLeast_29 rfl (lv_at hl 1 rfl) ?_
        refine lv_iload_n hx hb dX7_firstOfLeast_30 rfl (lv_at hl 2 rfl) ?_
        refine lv_iload hx hb dX7_firstOfLeast_31 (lv_at hl 4 rfl) ?_
        refine h_callvi_o (rest := []) C hI hl.1 shX_34 rfl yv_X7_throughFirst k_719 h (fun q hq => c_X7_throughFirst l D t ad z C.2.2.2.2.2.2.1 (σ) x1 x2 x4 q hq) (As := [.int x1, .int x2, .int x4]) rfl rfl ⟨Nat.le_of_ble_eq_true rfl, Nat.le_of_ble_eq_true rfl⟩ (Nat.le_of_ble_eq_true rfl) dX7_firstOfLeast_33 (fun q2 H locs h hI => ?_)
        refine lv_iload_n hx hb dX7_firstOfLeast_36 rfl (lv_at hl 3 rfl) ?_
        refine hicmp_ne (tgt := 43) C dX7_firstOfLeast_37 (by decide) h (fun h => ?_) (fun h => ?_)
        · refine h_iinc C hl dX7_firstOfLeast_43 4 rfl ci_1 h (by decide) (lvf := fun v3 => [(4, .int v3), (0, .ref (ad 34)), (1, .int x1), (2, .int x2), (3, .int x3)]) (fun _ => rfl) (fun v3 ls h hl => ?_)
          refine lv_goto (tgt := 10) hx hb dX7_firstOfLeast_46 (by decide) ?_
          exact ih _ _ _ _ _ _ _  h hI (lv_sub hl [1, 2, 3, 4, 0] rfl)
        · refine lv_iload hx hb dX7_firstOfLeast_40 (lv_at hl 4 rfl) ?_
          exact h_iret_o C hr hI h dX7_firstOfLeast_42
set_option maxRecDepth 100000 in
set_option maxHeartbeats 4000000 in
theorem c_X7_firstOfLeast (l : Launch) (D : va_G) (t : gT) (ad z : Nat → Nat) (hJ : gJ shX ad) (σ : gS) (x1 : Int32) (x2 : Int32) (q : Int32) (h : f_X7_firstOfLeast σ x1 x2 = some q) : Met l yX7_firstOfLeast (Cond.code yX7_firstOfLeast cX7_firstOfLeast 5 (some .int) :: lw_tb) (gR 5 153) (gPc shX t ad D z [.ref (ad 34), .int x1, .int x2] σ) (gQi shX t ad D q σ) 0 0 (gA shX ad) := by
  refine gMet "NineKeysRound$Tour" rfl (by decide) hJ (Nat.le_of_ble_eq_true rfl) ?_
  intro p e s m below meth c ls C hr hI hl
  have hx := C.1
  have hb := C.2.1
  have hl : lv_has ls 5 [(0, .ref (ad 34)), (1, .int x1), (2, .int x2)] := hl
  unfold f_X7_firstOfLeast at h
  refine lv_aload_n hx hb dX7_firstOfLeast_0 rfl (lv_at hl 0 rfl) ?_
  refine lv_iload_n hx hb dX7_firstOfLeast_1 rfl (lv_at hl 1 rfl) ?_
  refine lv_iload_n hx hb dX7_firstOfLeast_2 rfl (lv_at hl 2 rfl) ?_
  refine h_callvi_o (rest := []) C hI hl.1 shX_34 rfl yv_X7_leastFrom k_713 h (fun q hq => c_X7_leastFrom l D t ad z C.2.2.2.2.2.2.1 (σ) x1 x2 q hq) (As := [.int x1, .int x2]) rfl rfl ⟨Nat.le_of_ble_eq_true rfl, Nat.le_of_ble_eq_true rfl⟩ (Nat.le_of_ble_eq_true rfl) dX7_firstOfLeast_3 (fun q1 H locs h hI => ?_)
  refine lv_istore_n (lv' := [(3, .int q1), (0, .ref (ad 34)), (1, .int x1), (2, .int x2)]) hx hb dX7_firstOfLeast_6 rfl hl (by decide) rfl (fun ls hl => ?_)
  refine lv_iconst hx hb dX7_firstOfLeast_7 ci_0 ?_
  refine lv_istore (lv' := [(4, .int 0), (3, .int q1), (0, .ref (ad 34)), (1, .int x1), (2, .int x2)]) hx hb dX7_firstOfLeast_8 hl (by decide) rfl (fun ls hl => ?_)
  exact w_X7_firstOfLeast_10 C hr    _ _ _ _ _ _ _ _  h hI (lv_sub hl [2, 3, 4, 1, 0] rfl)
set_option maxRecDepth 100000 in
set_option maxHeartbeats 4000000 in
theorem w_X7_stopAt_15 {p : Program} {l : Launch} {e : Env} {s : State} {m : MethodId} {args : Array Value} {below : List Frame} {meth : Method} {c : Code} {D : va_G} {t : gT} {ad z : Nat → Nat} {σ : gS} (C : gC p s m args meth c cX7_stopAt 6 "NineKeysRound$Tour" D t shX ad z) (hr : meth.sig.returnType = some .int) {r : Int32} : ∀ (n : Nat) (x1 : Int32) (x2 : Int32) (x3 : Int32) (x4 : Int32) (H : Heap) (locs : List Loc) (ls : Array Slot), f_X7_stopAt_15 σ n x1 x2 x3 x4 = some r → gI shX t ad D s.heap σ H locs → lv_has ls 6 [(0, .ref (ad 34)), (1, .int x1), (2, .int x2), (3, .int x3), (4, .int x4)] → W p l e (gR 6 177) s m args below meth c H locs 0 0 (MQ below (gQi shX t ad D r σ) args s 0 0 (gA shX ad)) (F0 m 15 ls []) := by
  have hx := C.1
  have hb := C.2.1
  intro n
  induction n with
  | zero =>
    intro x1 x2 x3 x4 H locs ls  h
    exact absurd h (by simp [f_X7_stopAt_15])
  | succ n ih =>
    intro x1 x2 x3 x4 H locs ls  h hI hl
    unfold f_X7_stopAt_15 at h
    refine lv_iload hx hb dX7_stopAt_15 (lv_at hl 4 rfl) ?_
    refine lv_iload_n hx hb dX7_stopAt_17 rfl (lv_at hl 1 rfl) ?_
    refine hicmp_gt (tgt := 56) C dX7_stopAt_18 (by decide) h (fun h => ?_) (fun h => ?_)
    · refine lv_iload_n hx hb dX7_stopAt_56 rfl (lv_at hl 2 rfl) ?_
      exact h_iret_o C hr hI h dX7_stopAt_57
    · refine lv_iload_n hx hb dX7_stopAt_21 rfl (lv_at hl 3 rfl) ?_
      refine hif_eq (tgt := 56) C dX7_stopAt_22 (by decide) h (fun h => ?_) (fun h => ?_)
      · refine lv_iload_n hx hb dX7_stopAt_56 rfl (lv_at hl 2 rfl) ?_
        exact h_iret_o C hr hI h dX7_stopAt_57
      · refine lv_aload_n hx hb dX7_stopAt_25 rfl (lv_at hl 0 rfl) ?_
        refine lv_iload_n hx hb dX7_stopAt_26 rfl (lv_at hl 2 rfl) ?_
        refine lv_iload_n hx hb dX7_stopAt_27 rfl (lv_at hl 3 rfl) ?_
        refine h_callvi_o (rest := []) C hI hl.1 shX_34 rfl yv_X7_firstOfLeast k_729 h (fun q hq => c_X7_firstOfLeast l D t ad z C.2.2.2.2.2.2.1 (σ) x2 x3 q hq) (As := [.int x2, .int x3]) rfl rfl ⟨Nat.le_of_ble_eq_true rfl, Nat.le_of_ble_eq_true rfl⟩ (Nat.le_of_ble_eq_true rfl) dX7_stopAt_28 (fun q1 H locs h hI => ?_)
        refine lv_istore (lv' := [(5, .int q1), (0, .ref (ad 34)), (1, .int x1), (2, .int x2), (3, .int x3), (4, .int x4)]) hx hb dX7_stopAt_31 hl (by decide) rfl (fun ls hl => ?_)
        refine lv_iload_n hx hb dX7_stopAt_33 rfl (lv_at hl 4 rfl) ?_
        refine lv_iconst hx hb dX7_stopAt_34 ci_1 ?_
        refine lv_iload hx hb dX7_stopAt_35 (lv_at hl 0 rfl) ?_
        refine lv_ishl hx hb dX7_stopAt_37 ?_
        refine lv_iconst hx hb dX7_stopAt_38 ci_m1 ?_
        refine lv_ixor hx hb dX7_stopAt_39 ?_
        refine lv_iand hx hb dX7_stopAt_40 ?_
        refine gx_topi h (fun v2 h => ?_)
        refine lv_istore_n (lv' := [(3, .int v2), (5, .int q1), (0, .ref (ad 34)), (1, .int x1), (2, .int x2), (4, .int x4)]) hx hb dX7_stopAt_41 rfl hl (by decide) rfl (fun ls hl => ?_)
        refine lv_aload_n hx hb dX7_stopAt_42 rfl (lv_at hl 2 rfl) ?_
        refine fr_159 C hI shX_34 rfl dX7_stopAt_43 ?_
        refine lv_iload hx hb dX7_stopAt_46 (lv_at hl 1 rfl) ?_
        refine gx_iald C hI shX_35 h dX7_stopAt_48 (fun h => ?_)
        refine gx_topi h (fun v3 h => ?_)
        refine lv_istore_n (lv' := [(2, .int v3), (3, .int v2), (5, .int q1), (0, .ref (ad 34)), (1, .int x1), (4, .int x4)]) hx hb dX7_stopAt_49 rfl hl (by decide) rfl (fun ls hl => ?_)
        refine h_iinc C hl dX7_stopAt_50 5 rfl ci_1 h (by decide) (lvf := fun v4 => [(4, .int v4), (2, .int v3), (3, .int v2), (5, .int q1), (0, .ref (ad 34)), (1, .int x1)]) (fun _ => rfl) (fun v4 ls h hl => ?_)
        refine lv_goto (tgt := 15) hx hb dX7_stopAt_53 (by decide) ?_
        exact ih _ _ _ _ _ _ _  h hI (lv_sub hl [4, 5, 1, 2, 0] rfl)
set_option maxRecDepth 100000 in
set_option maxHeartbeats 4000000 in
theorem c_X7_stopAt (l : Launch) (D : va_G) (t : gT) (ad z : Nat → Nat) (hJ : gJ shX ad) (σ : gS) (x1 : Int32) (q : Int32) (h : f_X7_stopAt σ x1 = some q) : Met l yX7_stopAt (Cond.code yX7_stopAt cX7_stopAt 6 (some .int) :: lw_tb) (gR 6 177) (gPc shX t ad D z [.ref (ad 34), .int x1] σ) (gQi shX t ad D q σ) 0 0 (gA shX ad) := by
  refine gMet "NineKeysRound$Tour" rfl (by decide) hJ (Nat.le_of_ble_eq_true rfl) ?_
  intro p e s m below meth c ls C hr hI hl
  have hx := C.1
  have hb := C.2.1
  have hl : lv_has ls 6 [(0, .ref (ad 34)), (1, .int x1)] := hl
  unfold f_X7_stopAt at h
  refine lv_bipush hx hb dX7_stopAt_0 cb_9 ?_
  refine lv_istore_n (lv' := [(2, .int 9), (0, .ref (ad 34)), (1, .int x1)]) hx hb dX7_stopAt_2 rfl hl (by decide) rfl (fun ls hl => ?_)
  refine lv_iconst hx hb dX7_stopAt_3 ci_1 ?_
  refine lv_aload_n hx hb dX7_stopAt_4 rfl (lv_at hl 1 rfl) ?_
  refine fg_162 C hI shX_34 rfl dX7_stopAt_5 ?_
  refine lv_ishl hx hb dX7_stopAt_8 ?_
  refine lv_iconst hx hb dX7_stopAt_9 ci_1 ?_
  refine lv_isub hx hb dX7_stopAt_10 ?_
  refine gx_topi h (fun v1 h => ?_)
  refine lv_istore_n (lv' := [(3, .int v1), (2, .int 9), (0, .ref (ad 34)), (1, .int x1)]) hx hb dX7_stopAt_11 rfl hl (by decide) rfl (fun ls hl => ?_)
  refine lv_iconst hx hb dX7_stopAt_12 ci_0 ?_
  refine lv_istore (lv' := [(4, .int 0), (3, .int v1), (2, .int 9), (0, .ref (ad 34)), (1, .int x1)]) hx hb dX7_stopAt_13 hl (by decide) rfl (fun ls hl => ?_)
  exact w_X7_stopAt_15 C hr    _ _ _ _ _ _ _ _  h hI (lv_sub hl [3, 4, 2, 1, 0] rfl)
set_option maxRecDepth 100000 in
set_option maxHeartbeats 4000000 in
theorem c_X8_fits (l : Launch) (D : va_G) (t : gT) (ad z : Nat → Nat) (hJ : gJ shX ad) (σ : gS) (x0 : Int32) (x1 : Int32) (q : Int32) (h : f_X8_fits σ x0 x1 = some q) : Met l yX8_fits (Cond.code yX8_fits cX8_fits 2 (some .boolean) :: lw_tb) (gR 1 60) (gPc shX t ad D z [.int x0, .int x1] σ) (gQi shX t ad D q σ) 0 0 (gA shX ad) := by
  refine gMet "NineKeysRound$Yard" rfl (by decide) hJ (Nat.le_of_ble_eq_true rfl) ?_
  intro p e s m below meth c ls C hr hI hl
  have hx := C.1
  have hb := C.2.1
  have hl : lv_has ls 2 [(0, .int x0), (1, .int x1)] := hl
  unfold f_X8_fits at h
  refine lv_iload_n hx hb dX8_fits_0 rfl (lv_at hl 0 rfl) ?_
  refine hif_lt (tgt := 34) C dX8_fits_1 (by decide) h (fun h => ?_) (fun h => ?_)
  · refine lv_iconst hx hb dX8_fits_34 ci_0 ?_
    exact h_zret_o C hr hI h dX8_fits_35
  · refine lv_iload_n hx hb dX8_fits_4 rfl (lv_at hl 0 rfl) ?_
    refine gx_gets C hI (i := 0) rfl k_314 dX8_fits_5 ?_
    refine gx_tlen C hI 0 rfl (v := 8) (by decide) dX8_fits_8 ?_
    refine hicmp_ge (tgt := 34) C dX8_fits_9 (by decide) h (fun h => ?_) (fun h => ?_)
    · refine lv_iconst hx hb dX8_fits_34 ci_0 ?_
      exact h_zret_o C hr hI h dX8_fits_35
    · refine lv_iload_n hx hb dX8_fits_12 rfl (lv_at hl 1 rfl) ?_
      refine gx_gets C hI (i := 0) rfl k_314 dX8_fits_13 ?_
      refine lv_iload_n hx hb dX8_fits_16 rfl (lv_at hl 0 rfl) ?_
      refine gx_ti C hI 0 rfl h dX8_fits_17 (fun h => ?_)
      refine hicmp_lt (tgt := 34) C dX8_fits_18 (by decide) h (fun h => ?_) (fun h => ?_)
      · refine lv_iconst hx hb dX8_fits_34 ci_0 ?_
        exact h_zret_o C hr hI h dX8_fits_35
      · refine lv_iload_n hx hb dX8_fits_21 rfl (lv_at hl 1 rfl) ?_
        refine gx_gets C hI (i := 1) rfl k_316 dX8_fits_22 ?_
        refine lv_iload_n hx hb dX8_fits_25 rfl (lv_at hl 0 rfl) ?_
        refine gx_ti C hI 1 rfl h dX8_fits_26 (fun h => ?_)
        refine hicmp_gt (tgt := 34) C dX8_fits_27 (by decide) h (fun h => ?_) (fun h => ?_)
        · refine lv_iconst hx hb dX8_fits_34 ci_0 ?_
          exact h_zret_o C hr hI h dX8_fits_35
        · refine lv_iconst hx hb dX8_fits_30 ci_1 ?_
          refine lv_goto (tgt := 35) hx hb dX8_fits_31 (by decide) ?_
          exact h_zret_o C hr hI h dX8_fits_35
set_option maxRecDepth 100000 in
set_option maxHeartbeats 4000000 in
theorem c_X8_add (l : Launch) (D : va_G) (t : gT) (ad z : Nat → Nat) (hJ : gJ shX ad) (σ : gS) (x1 : Int32) (x2 : Int32) (x3 : Int32) (q : Int32 × gS) (h : f_X8_add σ x1 x2 x3 = some q) : Met l yX8_add (Cond.code yX8_add cX8_add 4 (some .int) :: lw_tb) (gR 1 60) (gPc shX t ad D z [.ref (ad 1), .int x1, .int x2, .int x3] σ) (gQi shX t ad D q.1 q.2) 0 0 (gA shX ad) := by
  refine gMet "NineKeysRound$Yard" rfl (by decide) hJ (Nat.le_of_ble_eq_true rfl) ?_
  intro p e s m below meth c ls C hr hI hl
  have hx := C.1
  have hb := C.2.1
  have hl : lv_has ls 4 [(0, .ref (ad 1)), (1, .int x1), (2, .int x2), (3, .int x3)] := hl
  unfold f_X8_add at h
  refine lv_aload_n hx hb dX8_add_0 rfl (lv_at hl 0 rfl) ?_
  refine fg_38 C hI shX_1 rfl dX8_add_1 ?_
  refine lv_bipush hx hb dX8_add_4 cb_9 ?_
  refine hicmp_lt (tgt := 12) C dX8_add_6 (by decide) h (fun h => ?_) (fun h => ?_)
  · refine lv_aload_n hx hb dX8_add_12 rfl (lv_at hl 0 rfl) ?_
    refine fr_34 C hI shX_1 rfl dX8_add_13 ?_
    refine lv_iconst hx hb dX8_add_16 ci_4 ?_
    refine lv_aload_n hx hb dX8_add_17 rfl (lv_at hl 0 rfl) ?_
    refine fg_38 C hI shX_1 rfl dX8_add_18 ?_
    refine lv_imul hx hb dX8_add_21 ?_
    refine lv_iconst hx hb dX8_add_22 ci_0 ?_
    refine lv_iadd hx hb dX8_add_23 ?_
    refine lv_iload_n hx hb dX8_add_24 rfl (lv_at hl 1 rfl) ?_
    refine gx_iast C hI shX_2 h dX8_add_25 (fun H locs h hI => ?_)
    refine gx_st h hI (fun s1 h hI => ?_)
    refine lv_aload_n hx hb dX8_add_26 rfl (lv_at hl 0 rfl) ?_
    refine fr_34 C hI shX_1 rfl dX8_add_27 ?_
    refine lv_iconst hx hb dX8_add_30 ci_4 ?_
    refine lv_aload_n hx hb dX8_add_31 rfl (lv_at hl 0 rfl) ?_
    refine fg_38 C hI shX_1 rfl dX8_add_32 ?_
    refine lv_imul hx hb dX8_add_35 ?_
    refine lv_iconst hx hb dX8_add_36 ci_1 ?_
    refine lv_iadd hx hb dX8_add_37 ?_
    refine lv_iload_n hx hb dX8_add_38 rfl (lv_at hl 2 rfl) ?_
    refine gx_iast C hI shX_2 h dX8_add_39 (fun H locs h hI => ?_)
    refine gx_st h hI (fun s2 h hI => ?_)
    refine lv_aload_n hx hb dX8_add_40 rfl (lv_at hl 0 rfl) ?_
    refine fr_34 C hI shX_1 rfl dX8_add_41 ?_
    refine lv_iconst hx hb dX8_add_44 ci_4 ?_
    refine lv_aload_n hx hb dX8_add_45 rfl (lv_at hl 0 rfl) ?_
    refine fg_38 C hI shX_1 rfl dX8_add_46 ?_
    refine lv_imul hx hb dX8_add_49 ?_
    refine lv_iconst hx hb dX8_add_50 ci_2 ?_
    refine lv_iadd hx hb dX8_add_51 ?_
    refine lv_iload_n hx hb dX8_add_52 rfl (lv_at hl 3 rfl) ?_
    refine gx_iast C hI shX_2 h dX8_add_53 (fun H locs h hI => ?_)
    refine gx_st h hI (fun s3 h hI => ?_)
    refine lv_aload_n hx hb dX8_add_54 rfl (lv_at hl 0 rfl) ?_
    refine fr_34 C hI shX_1 rfl dX8_add_55 ?_
    refine lv_iconst hx hb dX8_add_58 ci_4 ?_
    refine lv_aload_n hx hb dX8_add_59 rfl (lv_at hl 0 rfl) ?_
    refine fg_38 C hI shX_1 rfl dX8_add_60 ?_
    refine lv_imul hx hb dX8_add_63 ?_
    refine lv_iconst hx hb dX8_add_64 ci_3 ?_
    refine lv_iadd hx hb dX8_add_65 ?_
    refine lv_bipush hx hb dX8_add_66 cb_60 ?_
    refine gx_iast C hI shX_2 h dX8_add_68 (fun H locs h hI => ?_)
    refine gx_st h hI (fun s4 h hI => ?_)
    refine lv_aload_n hx hb dX8_add_69 rfl (lv_at hl 0 rfl) ?_
    refine lv_dup hx hb dX8_add_70 rfl ?_
    refine fg_38 C hI shX_1 rfl dX8_add_71 ?_
    refine gx_topi h (fun v5 h => ?_)
    refine lv_dup_x1 hx hb dX8_add_74 rfl rfl ?_
    refine lv_iconst hx hb dX8_add_75 ci_1 ?_
    refine lv_iadd hx hb dX8_add_76 ?_
    refine fp_38 C hI shX_1 rfl dX8_add_77 (fun H locs hI => ?_)
    refine gx_st h hI (fun s6 h hI => ?_)
    exact h_iret_w C hr hI h dX8_add_80
  · refine lv_bipush hx hb dX8_add_9 cb_m3 ?_
    exact h_iret_w C hr hI h dX8_add_11
set_option maxRecDepth 100000 in
set_option maxHeartbeats 4000000 in
theorem c_X8_all (l : Launch) (D : va_G) (t : gT) (ad z : Nat → Nat) (hJ : gJ shX ad) (σ : gS) (q : Int32) (h : f_X8_all σ = some q) : Met l yX8_all (Cond.code yX8_all cX8_all 1 (some .int) :: lw_tb) (gR 1 60) (gPc shX t ad D z [.ref (ad 1)] σ) (gQi shX t ad D q σ) 0 0 (gA shX ad) := by
  refine gMet "NineKeysRound$Yard" rfl (by decide) hJ (Nat.le_of_ble_eq_true rfl) ?_
  intro p e s m below meth c ls C hr hI hl
  have hx := C.1
  have hb := C.2.1
  have hl : lv_has ls 1 [(0, .ref (ad 1))] := hl
  unfold f_X8_all at h
  refine lv_iconst hx hb dX8_all_0 ci_1 ?_
  refine lv_aload_n hx hb dX8_all_1 rfl (lv_at hl 0 rfl) ?_
  refine fg_38 C hI shX_1 rfl dX8_all_2 ?_
  refine lv_ishl hx hb dX8_all_5 ?_
  refine lv_iconst hx hb dX8_all_6 ci_1 ?_
  refine lv_isub hx hb dX8_all_7 ?_
  exact h_iret_o C hr hI h dX8_all_8
set_option maxRecDepth 100000 in
set_option maxHeartbeats 4000000 in
theorem c_X8_isSet (l : Launch) (D : va_G) (t : gT) (ad z : Nat → Nat) (hJ : gJ shX ad) (σ : gS) (x1 : Int32) (q : Int32) (h : f_X8_isSet σ x1 = some q) : Met l yX8_isSet (Cond.code yX8_isSet cX8_isSet 2 (some .boolean) :: lw_tb) (gR 2 80) (gPc shX t ad D z [.ref (ad 1), .int x1] σ) (gQi shX t ad D q σ) 0 0 (gA shX ad) := by
  refine gMet "NineKeysRound$Yard" rfl (by decide) hJ (Nat.le_of_ble_eq_true rfl) ?_
  intro p e s m below meth c ls C hr hI hl
  have hx := C.1
  have hb := C.2.1
  have hl : lv_has ls 2 [(0, .ref (ad 1)), (1, .int x1)] := hl
  unfold f_X8_isSet at h
  refine lv_iload_n hx hb dX8_isSet_0 rfl (lv_at hl 1 rfl) ?_
  refine hif_lt (tgt := 16) C dX8_isSet_1 (by decide) h (fun h => ?_) (fun h => ?_)
  · refine lv_iconst hx hb dX8_isSet_16 ci_0 ?_
    exact h_zret_o C hr hI h dX8_isSet_17
  · refine lv_iload_n hx hb dX8_isSet_4 rfl (lv_at hl 1 rfl) ?_
    refine lv_aload_n hx hb dX8_isSet_5 rfl (lv_at hl 0 rfl) ?_
    refine h_callvi_o (rest := [.int x1]) C hI hl.1 shX_1 rfl yv_X8_all k_702 h (fun q hq => c_X8_all l D t ad z C.2.2.2.2.2.2.1 (σ) q hq) (As := []) rfl rfl ⟨Nat.le_of_ble_eq_true rfl, Nat.le_of_ble_eq_true rfl⟩ (Nat.le_of_ble_eq_true rfl) dX8_isSet_6 (fun q1 H locs h hI => ?_)
    refine hicmp_gt (tgt := 16) C dX8_isSet_9 (by decide) h (fun h => ?_) (fun h => ?_)
    · refine lv_iconst hx hb dX8_isSet_16 ci_0 ?_
      exact h_zret_o C hr hI h dX8_isSet_17
    · refine lv_iconst hx hb dX8_isSet_12 ci_1 ?_
      refine lv_goto (tgt := 17) hx hb dX8_isSet_13 (by decide) ?_
      exact h_zret_o C hr hI h dX8_isSet_17
set_option maxRecDepth 100000 in
set_option maxHeartbeats 4000000 in
theorem w_X8_placeOf_27 {p : Program} {l : Launch} {e : Env} {s : State} {m : MethodId} {args : Array Value} {below : List Frame} {meth : Method} {c : Code} {D : va_G} {t : gT} {ad z : Nat → Nat} {σ : gS} (C : gC p s m args meth c cX8_placeOf 3 "NineKeysRound$Yard" D t shX ad z) (hr : meth.sig.returnType = some .int) {r : Int32} : ∀ (x1 : Int32) (x2 : Int32) (H : Heap) (locs : List Loc) (ls : Array Slot), f_X8_placeOf_27 σ x1 x2 = some r → gI shX t ad D s.heap σ H locs → lv_has ls 3 [(1, .int x1), (2, .int x2)] → W p l e (gR 2 81) s m args below meth c H locs 0 0 (MQ below (gQi shX t ad D r σ) args s 0 0 (gA shX ad)) (F0 m 27 ls []) := by
  have hx := C.1
  have hb := C.2.1
  intro x1 x2 H locs ls  h hI hl
  unfold f_X8_placeOf_27 at h
  refine lv_iload_n hx hb dX8_placeOf_27 rfl (lv_at hl 1 rfl) ?_
  refine lv_iconst hx hb dX8_placeOf_28 ci_4 ?_
  refine hicmp_lt (tgt := 51) C dX8_placeOf_29 (by decide) h (fun h => ?_) (fun h => ?_)
  · refine lv_iconst hx hb dX8_placeOf_51 ci_m1 ?_
    exact h_iret_o C hr hI h dX8_placeOf_52
  · refine lv_iload_n hx hb dX8_placeOf_32 rfl (lv_at hl 1 rfl) ?_
    refine lv_bipush hx hb dX8_placeOf_33 cb_7 ?_
    refine hicmp_gt (tgt := 51) C dX8_placeOf_35 (by decide) h (fun h => ?_) (fun h => ?_)
    · refine lv_iconst hx hb dX8_placeOf_51 ci_m1 ?_
      exact h_iret_o C hr hI h dX8_placeOf_52
    · refine lv_iload_n hx hb dX8_placeOf_38 rfl (lv_at hl 0 rfl) ?_
      refine hif_ne (tgt := 51) C dX8_placeOf_39 (by decide) h (fun h => ?_) (fun h => ?_)
      · refine lv_iconst hx hb dX8_placeOf_51 ci_m1 ?_
        exact h_iret_o C hr hI h dX8_placeOf_52
      · refine lv_bipush hx hb dX8_placeOf_42 cb_36 ?_
        refine lv_iload_n hx hb dX8_placeOf_44 rfl (lv_at hl 1 rfl) ?_
        refine lv_iadd hx hb dX8_placeOf_45 ?_
        refine lv_iconst hx hb dX8_placeOf_46 ci_4 ?_
        refine lv_isub hx hb dX8_placeOf_47 ?_
        refine lv_goto (tgt := 52) hx hb dX8_placeOf_48 (by decide) ?_
        exact h_iret_o C hr hI h dX8_placeOf_52
set_option maxRecDepth 100000 in
set_option maxHeartbeats 4000000 in
theorem c_X8_placeOf (l : Launch) (D : va_G) (t : gT) (ad z : Nat → Nat) (hJ : gJ shX ad) (σ : gS) (x1 : Int32) (x2 : Int32) (q : Int32) (h : f_X8_placeOf σ x1 x2 = some q) : Met l yX8_placeOf (Cond.code yX8_placeOf cX8_placeOf 3 (some .int) :: lw_tb) (gR 2 81) (gPc shX t ad D z [.ref (ad 1), .int x1, .int x2] σ) (gQi shX t ad D q σ) 0 0 (gA shX ad) := by
  refine gMet "NineKeysRound$Yard" rfl (by decide) hJ (Nat.le_of_ble_eq_true rfl) ?_
  intro p e s m below meth c ls C hr hI hl
  have hx := C.1
  have hb := C.2.1
  have hl : lv_has ls 3 [(0, .ref (ad 1)), (1, .int x1), (2, .int x2)] := hl
  unfold f_X8_placeOf at h
  refine lv_iload_n hx hb dX8_placeOf_0 rfl (lv_at hl 2 rfl) ?_
  refine hif_lt (tgt := 27) C dX8_placeOf_1 (by decide) h (fun h => ?_) (fun h => ?_)
  · exact w_X8_placeOf_27 C hr    _ _ _ _ _  h hI (lv_sub hl [1, 2] rfl)
  · refine lv_iload_n hx hb dX8_placeOf_4 rfl (lv_at hl 2 rfl) ?_
    refine lv_iconst hx hb dX8_placeOf_5 ci_3 ?_
    refine hicmp_gt (tgt := 27) C dX8_placeOf_6 (by decide) h (fun h => ?_) (fun h => ?_)
    · exact w_X8_placeOf_27 C hr    _ _ _ _ _  h hI (lv_sub hl [1, 2] rfl)
    · refine lv_aload_n hx hb dX8_placeOf_9 rfl (lv_at hl 0 rfl) ?_
      refine lv_iload_n hx hb dX8_placeOf_10 rfl (lv_at hl 1 rfl) ?_
      refine h_callvi_o (rest := []) C hI hl.1 shX_1 rfl yv_X8_isPost k_351 h (fun q hq => c_X8_isPost l D t ad z C.2.2.2.2.2.2.1 (σ) x1 q hq) (As := [.int x1]) rfl rfl ⟨Nat.le_of_ble_eq_true rfl, Nat.le_of_ble_eq_true rfl⟩ (Nat.le_of_ble_eq_true rfl) dX8_placeOf_11 (fun q1 H locs h hI => ?_)
      refine hif_eq (tgt := 25) C dX8_placeOf_14 (by decide) h (fun h => ?_) (fun h => ?_)
      · refine lv_iconst hx hb dX8_placeOf_25 ci_m1 ?_
        exact h_iret_o C hr hI h dX8_placeOf_26
      · refine lv_iconst hx hb dX8_placeOf_17 ci_4 ?_
        refine lv_iload_n hx hb dX8_placeOf_18 rfl (lv_at hl 1 rfl) ?_
        refine lv_imul hx hb dX8_placeOf_19 ?_
        refine lv_iload_n hx hb dX8_placeOf_20 rfl (lv_at hl 2 rfl) ?_
        refine lv_iadd hx hb dX8_placeOf_21 ?_
        refine lv_goto (tgt := 26) hx hb dX8_placeOf_22 (by decide) ?_
        exact h_iret_o C hr hI h dX8_placeOf_26
set_option maxRecDepth 100000 in
set_option maxHeartbeats 4000000 in
theorem c_X8_numberOf (l : Launch) (D : va_G) (t : gT) (ad z : Nat → Nat) (hJ : gJ shX ad) (σ : gS) (x1 : Int32) (x2 : Int32) (q : Int32) (h : f_X8_numberOf σ x1 x2 = some q) : Met l yX8_numberOf (Cond.code yX8_numberOf cX8_numberOf 4 (some .int) :: lw_tb) (gR 3 103) (gPc shX t ad D z [.ref (ad 1), .int x1, .int x2] σ) (gQi shX t ad D q σ) 0 0 (gA shX ad) := by
  refine gMet "NineKeysRound$Yard" rfl (by decide) hJ (Nat.le_of_ble_eq_true rfl) ?_
  intro p e s m below meth c ls C hr hI hl
  have hx := C.1
  have hb := C.2.1
  have hl : lv_has ls 4 [(0, .ref (ad 1)), (1, .int x1), (2, .int x2)] := hl
  unfold f_X8_numberOf at h
  refine lv_aload_n hx hb dX8_numberOf_0 rfl (lv_at hl 0 rfl) ?_
  refine lv_iload_n hx hb dX8_numberOf_1 rfl (lv_at hl 1 rfl) ?_
  refine lv_iload_n hx hb dX8_numberOf_2 rfl (lv_at hl 2 rfl) ?_
  refine h_callvi_o (rest := []) C hI hl.1 shX_1 rfl yv_X8_placeOf k_624 h (fun q hq => c_X8_placeOf l D t ad z C.2.2.2.2.2.2.1 (σ) x1 x2 q hq) (As := [.int x1, .int x2]) rfl rfl ⟨Nat.le_of_ble_eq_true rfl, Nat.le_of_ble_eq_true rfl⟩ (Nat.le_of_ble_eq_true rfl) dX8_numberOf_3 (fun q1 H locs h hI => ?_)
  refine lv_istore_n (lv' := [(3, .int q1), (0, .ref (ad 1)), (1, .int x1), (2, .int x2)]) hx hb dX8_numberOf_6 rfl hl (by decide) rfl (fun ls hl => ?_)
  refine lv_iload_n hx hb dX8_numberOf_7 rfl (lv_at hl 0 rfl) ?_
  refine hif_ge (tgt := 15) C dX8_numberOf_8 (by decide) h (fun h => ?_) (fun h => ?_)
  · refine lv_aload_n hx hb dX8_numberOf_15 rfl (lv_at hl 1 rfl) ?_
    refine fr_34 C hI shX_1 rfl dX8_numberOf_16 ?_
    refine lv_iload_n hx hb dX8_numberOf_19 rfl (lv_at hl 0 rfl) ?_
    refine gx_iald C hI shX_2 h dX8_numberOf_20 (fun h => ?_)
    exact h_iret_o C hr hI h dX8_numberOf_21
  · refine lv_iconst hx hb dX8_numberOf_11 ci_0 ?_
    refine lv_goto (tgt := 21) hx hb dX8_numberOf_12 (by decide) ?_
    exact h_iret_o C hr hI h dX8_numberOf_21
set_option maxRecDepth 100000 in
set_option maxHeartbeats 4000000 in
theorem w_X8_cellsToNearestPost_17 {p : Program} {l : Launch} {e : Env} {s : State} {m : MethodId} {args : Array Value} {below : List Frame} {meth : Method} {c : Code} {D : va_G} {t : gT} {ad z : Nat → Nat} {σ : gS} (C : gC p s m args meth c cX8_cellsToNearestPost 5 "NineKeysRound$Yard" D t shX ad z) (hr : meth.sig.returnType = some .int) {r : Int32} : ∀ (n : Nat) (x1 : Int32) (x2 : Int32) (x3 : Int32) (x4 : Int32) (H : Heap) (locs : List Loc) (ls : Array Slot), f_X8_cellsToNearestPost_17 σ n x1 x2 x3 x4 = some r → gI shX t ad D s.heap σ H locs → lv_has ls 5 [(0, .ref (ad 1)), (1, .int x1), (2, .int x2), (3, .int x3), (4, .int x4)] → W p l e (gR 2 83) s m args below meth c H locs 0 0 (MQ below (gQi shX t ad D r σ) args s 0 0 (gA shX ad)) (F0 m 17 ls []) := by
  have hx := C.1
  have hb := C.2.1
  intro n
  induction n with
  | zero =>
    intro x1 x2 x3 x4 H locs ls  h
    exact absurd h (by simp [f_X8_cellsToNearestPost_17])
  | succ n ih =>
    intro x1 x2 x3 x4 H locs ls  h hI hl
    unfold f_X8_cellsToNearestPost_17 at h
    refine lv_iload hx hb dX8_cellsToNearestPost_17 (lv_at hl 4 rfl) ?_
    refine lv_aload_n hx hb dX8_cellsToNearestPost_19 rfl (lv_at hl 0 rfl) ?_
    refine fg_38 C hI shX_1 rfl dX8_cellsToNearestPost_20 ?_
    refine hicmp_ge (tgt := 45) C dX8_cellsToNearestPost_23 (by decide) h (fun h => ?_) (fun h => ?_)
    · refine lv_iload_n hx hb dX8_cellsToNearestPost_45 rfl (lv_at hl 3 rfl) ?_
      exact h_iret_o C hr hI h dX8_cellsToNearestPost_46
    · refine lv_iload_n hx hb dX8_cellsToNearestPost_26 rfl (lv_at hl 3 rfl) ?_
      refine lv_aload_n hx hb dX8_cellsToNearestPost_27 rfl (lv_at hl 0 rfl) ?_
      refine lv_iload hx hb dX8_cellsToNearestPost_28 (lv_at hl 4 rfl) ?_
      refine lv_iload_n hx hb dX8_cellsToNearestPost_30 rfl (lv_at hl 1 rfl) ?_
      refine lv_iload_n hx hb dX8_cellsToNearestPost_31 rfl (lv_at hl 2 rfl) ?_
      refine h_callvi_o (rest := [.int x3]) C hI hl.1 shX_1 rfl yv_X8_cellsTo k_540 h (fun q hq => c_X8_cellsTo l D t ad z C.2.2.2.2.2.2.1 (σ) x4 x1 x2 q hq) (As := [.int x4, .int x1, .int x2]) rfl rfl ⟨Nat.le_of_ble_eq_true rfl, Nat.le_of_ble_eq_true rfl⟩ (Nat.le_of_ble_eq_true rfl) dX8_cellsToNearestPost_32 (fun q1 H locs h hI => ?_)
      refine h_mmin C hl.1 k_878 ⟨Nat.le_of_ble_eq_true rfl, Nat.le_of_ble_eq_true rfl⟩ ⟨Nat.zero_le _, Nat.zero_le _⟩ dX8_cellsToNearestPost_35 ?_
      refine gx_topi h (fun v2 h => ?_)
      refine lv_istore_n (lv' := [(3, .int v2), (0, .ref (ad 1)), (1, .int x1), (2, .int x2), (4, .int x4)]) hx hb dX8_cellsToNearestPost_38 rfl hl (by decide) rfl (fun ls hl => ?_)
      refine h_iinc C hl dX8_cellsToNearestPost_39 4 rfl ci_1 h (by decide) (lvf := fun v3 => [(4, .int v3), (3, .int v2), (0, .ref (ad 1)), (1, .int x1), (2, .int x2)]) (fun _ => rfl) (fun v3 ls h hl => ?_)
      refine lv_goto (tgt := 17) hx hb dX8_cellsToNearestPost_42 (by decide) ?_
      exact ih _ _ _ _ _ _ _  h hI (lv_sub hl [2, 3, 4, 1, 0] rfl)
set_option maxRecDepth 100000 in
set_option maxHeartbeats 4000000 in
theorem c_X8_cellsToNearestPost (l : Launch) (D : va_G) (t : gT) (ad z : Nat → Nat) (hJ : gJ shX ad) (σ : gS) (x1 : Int32) (x2 : Int32) (q : Int32) (h : f_X8_cellsToNearestPost σ x1 x2 = some q) : Met l yX8_cellsToNearestPost (Cond.code yX8_cellsToNearestPost cX8_cellsToNearestPost 5 (some .int) :: lw_tb) (gR 2 83) (gPc shX t ad D z [.ref (ad 1), .int x1, .int x2] σ) (gQi shX t ad D q σ) 0 0 (gA shX ad) := by
  refine gMet "NineKeysRound$Yard" rfl (by decide) hJ (Nat.le_of_ble_eq_true rfl) ?_
  intro p e s m below meth c ls C hr hI hl
  have hx := C.1
  have hb := C.2.1
  have hl : lv_has ls 5 [(0, .ref (ad 1)), (1, .int x1), (2, .int x2)] := hl
  unfold f_X8_cellsToNearestPost at h
  refine lv_aload_n hx hb dX8_cellsToNearestPost_0 rfl (lv_at hl 0 rfl) ?_
  refine fg_38 C hI shX_1 rfl dX8_cellsToNearestPost_1 ?_
  refine hif_ne (tgt := 11) C dX8_cellsToNearestPost_4 (by decide) h (fun h => ?_) (fun h => ?_)
  · refine lv_bipush hx hb dX8_cellsToNearestPost_11 cb_30 ?_
    refine lv_istore_n (lv' := [(3, .int 30), (0, .ref (ad 1)), (1, .int x1), (2, .int x2)]) hx hb dX8_cellsToNearestPost_13 rfl hl (by decide) rfl (fun ls hl => ?_)
    refine lv_iconst hx hb dX8_cellsToNearestPost_14 ci_0 ?_
    refine lv_istore (lv' := [(4, .int 0), (3, .int 30), (0, .ref (ad 1)), (1, .int x1), (2, .int x2)]) hx hb dX8_cellsToNearestPost_15 hl (by decide) rfl (fun ls hl => ?_)
    exact w_X8_cellsToNearestPost_17 C hr    _ _ _ _ _ _ _ _  h hI (lv_sub hl [2, 3, 4, 1, 0] rfl)
  · refine lv_iconst hx hb dX8_cellsToNearestPost_7 ci_0 ?_
    refine lv_goto (tgt := 13) hx hb dX8_cellsToNearestPost_8 (by decide) ?_
    refine lv_istore_n (lv' := [(3, .int 0), (0, .ref (ad 1)), (1, .int x1), (2, .int x2)]) hx hb dX8_cellsToNearestPost_13 rfl hl (by decide) rfl (fun ls hl => ?_)
    refine lv_iconst hx hb dX8_cellsToNearestPost_14 ci_0 ?_
    refine lv_istore (lv' := [(4, .int 0), (3, .int 0), (0, .ref (ad 1)), (1, .int x1), (2, .int x2)]) hx hb dX8_cellsToNearestPost_15 hl (by decide) rfl (fun ls hl => ?_)
    exact w_X8_cellsToNearestPost_17 C hr    _ _ _ _ _ _ _ _  h hI (lv_sub hl [2, 3, 4, 1, 0] rfl)
set_option maxRecDepth 100000 in
set_option maxHeartbeats 4000000 in
theorem w_X8_wholeTurn_20 {p : Program} {l : Launch} {e : Env} {s : State} {m : MethodId} {args : Array Value} {below : List Frame} {meth : Method} {c : Code} {D : va_G} {t : gT} {ad z : Nat → Nat} {σ : gS} (C : gC p s m args meth c cX8_wholeTurn 7 "NineKeysRound$Yard" D t shX ad z) (hr : meth.sig.returnType = some .int) {r : Int32} : ∀ (n : Nat) (x2 : Int32) (x3 : Int32) (x4 : Int32) (x5 : Int32) (H : Heap) (locs : List Loc) (ls : Array Slot), f_X8_wholeTurn_20 σ n x2 x3 x4 x5 = some r → gI shX t ad D s.heap σ H locs → lv_has ls 7 [(0, .ref (ad 1)), (2, .int x2), (3, .int x3), (4, .int x4), (5, .int x5)] → W p l e (gR 3 105) s m args below meth c H locs 0 0 (MQ below (gQi shX t ad D r σ) args s 0 0 (gA shX ad)) (F0 m 20 ls []) := by
  have hx := C.1
  have hb := C.2.1
  intro n
  induction n with
  | zero =>
    intro x2 x3 x4 x5 H locs ls  h
    exact absurd h (by simp [f_X8_wholeTurn_20])
  | succ n ih =>
    intro x2 x3 x4 x5 H locs ls  h hI hl
    unfold f_X8_wholeTurn_20 at h
    refine lv_iload hx hb dX8_wholeTurn_20 (lv_at hl 4 rfl) ?_
    refine lv_aload_n hx hb dX8_wholeTurn_22 rfl (lv_at hl 0 rfl) ?_
    refine fg_38 C hI shX_1 rfl dX8_wholeTurn_23 ?_
    refine hicmp_ge (tgt := 66) C dX8_wholeTurn_26 (by decide) h (fun h => ?_) (fun h => ?_)
    · refine lv_iload_n hx hb dX8_wholeTurn_66 rfl (lv_at hl 2 rfl) ?_
      exact h_iret_o C hr hI h dX8_wholeTurn_67
    · refine lv_iload hx hb dX8_wholeTurn_29 (lv_at hl 3 rfl) ?_
      refine lv_iload_n hx hb dX8_wholeTurn_31 rfl (lv_at hl 1 rfl) ?_
      refine lv_iadd hx hb dX8_wholeTurn_32 ?_
      refine lv_aload_n hx hb dX8_wholeTurn_33 rfl (lv_at hl 0 rfl) ?_
      refine fg_38 C hI shX_1 rfl dX8_wholeTurn_34 ?_
      refine h_irem C dX8_wholeTurn_37 h (fun h => ?_)
      refine gx_topi h (fun v1 h => ?_)
      refine lv_istore (lv' := [(6, .int v1), (0, .ref (ad 1)), (2, .int x2), (3, .int x3), (4, .int x4), (5, .int x5)]) hx hb dX8_wholeTurn_38 hl (by decide) rfl (fun ls hl => ?_)
      refine lv_iload_n hx hb dX8_wholeTurn_40 rfl (lv_at hl 3 rfl) ?_
      refine lv_aload_n hx hb dX8_wholeTurn_41 rfl (lv_at hl 1 rfl) ?_
      refine lv_iload hx hb dX8_wholeTurn_42 (lv_at hl 4 rfl) ?_
      refine lv_iload hx hb dX8_wholeTurn_44 (lv_at hl 0 rfl) ?_
      refine h_callvi_o (rest := [.int x3]) C hI hl.1 shX_1 rfl yv_X8_way k_889 h (fun q hq => c_X8_way l D t ad z C.2.2.2.2.2.2.1 (σ) x4 v1 q hq) (As := [.int x4, .int v1]) rfl rfl ⟨Nat.le_of_ble_eq_true rfl, Nat.le_of_ble_eq_true rfl⟩ (Nat.le_of_ble_eq_true rfl) dX8_wholeTurn_46 (fun q2 H locs h hI => ?_)
      refine lv_aload_n hx hb dX8_wholeTurn_49 rfl (lv_at hl 1 rfl) ?_
      refine h_callvi_o (rest := [.int q2, .int x3]) C hI hl.1 shX_1 rfl yv_X8_stand k_888 h (fun q hq => c_X8_stand l D t ad z C.2.2.2.2.2.2.1 (σ) q hq) (As := []) rfl rfl ⟨Nat.le_of_ble_eq_true rfl, Nat.le_of_ble_eq_true rfl⟩ (Nat.le_of_ble_eq_true rfl) dX8_wholeTurn_50 (fun q3 H locs h hI => ?_)
      refine lv_iadd hx hb dX8_wholeTurn_53 ?_
      refine lv_iadd hx hb dX8_wholeTurn_54 ?_
      refine gx_topi h (fun v4 h => ?_)
      refine lv_istore_n (lv' := [(3, .int v4), (6, .int v1), (0, .ref (ad 1)), (2, .int x2), (4, .int x4), (5, .int x5)]) hx hb dX8_wholeTurn_55 rfl hl (by decide) rfl (fun ls hl => ?_)
      refine lv_iload hx hb dX8_wholeTurn_56 (lv_at hl 1 rfl) ?_
      refine lv_istore (lv' := [(4, .int v1), (3, .int v4), (6, .int v1), (0, .ref (ad 1)), (2, .int x2), (5, .int x5)]) hx hb dX8_wholeTurn_58 hl (by decide) rfl (fun ls hl => ?_)
      refine h_iinc C hl dX8_wholeTurn_60 5 rfl ci_1 h (by decide) (lvf := fun v5 => [(5, .int v5), (4, .int v1), (3, .int v4), (6, .int v1), (0, .ref (ad 1)), (2, .int x2)]) (fun _ => rfl) (fun v5 ls h hl => ?_)
      refine lv_goto (tgt := 20) hx hb dX8_wholeTurn_63 (by decide) ?_
      exact ih _ _ _ _ _ _ _  h hI (lv_sub hl [4, 5, 2, 1, 0] rfl)
set_option maxRecDepth 100000 in
set_option maxHeartbeats 4000000 in
theorem c_X8_wholeTurn (l : Launch) (D : va_G) (t : gT) (ad z : Nat → Nat) (hJ : gJ shX ad) (σ : gS) (x1 : Int32) (x2 : Int32) (q : Int32) (h : f_X8_wholeTurn σ x1 x2 = some q) : Met l yX8_wholeTurn (Cond.code yX8_wholeTurn cX8_wholeTurn 7 (some .int) :: lw_tb) (gR 3 105) (gPc shX t ad D z [.ref (ad 1), .int x1, .int x2] σ) (gQi shX t ad D q σ) 0 0 (gA shX ad) := by
  refine gMet "NineKeysRound$Yard" rfl (by decide) hJ (Nat.le_of_ble_eq_true rfl) ?_
  intro p e s m below meth c ls C hr hI hl
  have hx := C.1
  have hb := C.2.1
  have hl : lv_has ls 7 [(0, .ref (ad 1)), (1, .int x1), (2, .int x2)] := hl
  unfold f_X8_wholeTurn at h
  refine lv_aload_n hx hb dX8_wholeTurn_0 rfl (lv_at hl 0 rfl) ?_
  refine fg_38 C hI shX_1 rfl dX8_wholeTurn_1 ?_
  refine hif_ne (tgt := 9) C dX8_wholeTurn_4 (by decide) h (fun h => ?_) (fun h => ?_)
  · refine lv_aload_n hx hb dX8_wholeTurn_9 rfl (lv_at hl 0 rfl) ?_
    refine h_callvi_o (rest := []) C hI hl.1 shX_1 rfl yv_X8_stand k_888 h (fun q hq => c_X8_stand l D t ad z C.2.2.2.2.2.2.1 (σ) q hq) (As := []) rfl rfl ⟨Nat.le_of_ble_eq_true rfl, Nat.le_of_ble_eq_true rfl⟩ (Nat.le_of_ble_eq_true rfl) dX8_wholeTurn_10 (fun q1 H locs h hI => ?_)
    refine lv_istore_n (lv' := [(3, .int q1), (0, .ref (ad 1)), (1, .int x1), (2, .int x2)]) hx hb dX8_wholeTurn_13 rfl hl (by decide) rfl (fun ls hl => ?_)
    refine lv_iload_n hx hb dX8_wholeTurn_14 rfl (lv_at hl 2 rfl) ?_
    refine lv_istore (lv' := [(4, .int x1), (3, .int q1), (0, .ref (ad 1)), (1, .int x1), (2, .int x2)]) hx hb dX8_wholeTurn_15 hl (by decide) rfl (fun ls hl => ?_)
    refine lv_iconst hx hb dX8_wholeTurn_17 ci_1 ?_
    refine lv_istore (lv' := [(5, .int 1), (4, .int x1), (3, .int q1), (0, .ref (ad 1)), (1, .int x1), (2, .int x2)]) hx hb dX8_wholeTurn_18 hl (by decide) rfl (fun ls hl => ?_)
    exact w_X8_wholeTurn_20 C hr    _ _ _ _ _ _ _ _  h hI (lv_sub hl [3, 5, 2, 1, 0] rfl)
  · refine lv_iconst hx hb dX8_wholeTurn_7 ci_0 ?_
    exact h_iret_o C hr hI h dX8_wholeTurn_8
set_option maxRecDepth 100000 in
set_option maxHeartbeats 4000000 in
theorem c_X9_post (l : Launch) (D : va_G) (t : gT) (ad z : Nat → Nat) (hJ : gJ shX ad) (σ : gS) (x1 : Int32) (q : Int32 × gS) (h : f_X9_post σ x1 = some q) : Met l yX9_post (Cond.code yX9_post cX9_post 2 (some .int) :: lw_tb) (gR 2 83) (gPc shX t ad D z [.ref (ad 0), .int x1] σ) (gQi shX t ad D q.1 q.2) 0 0 (gA shX ad) := by
  refine gMet "NineKeysRound" rfl (by decide) hJ (Nat.le_of_ble_eq_true rfl) ?_
  intro p e s m below meth c ls C hr hI hl
  have hx := C.1
  have hb := C.2.1
  have hl : lv_has ls 2 [(0, .ref (ad 0)), (1, .int x1)] := hl
  unfold f_X9_post at h
  refine lv_iload_n hx hb dX9_post_0 rfl (lv_at hl 1 rfl) ?_
  refine hif_lt (tgt := 26) C dX9_post_1 (by decide) h (fun h => ?_) (fun h => ?_)
  · refine lv_iconst hx hb dX9_post_26 ci_m1 ?_
    exact h_iret_w C hr hI h dX9_post_27
  · refine lv_iconst hx hb dX9_post_4 ci_0 ?_
    refine lv_iload_n hx hb dX9_post_5 rfl (lv_at hl 1 rfl) ?_
    refine lv_bipush hx hb dX9_post_6 cb_100 ?_
    refine h_irem C dX9_post_8 h (fun h => ?_)
    refine h_callsi_o (rest := []) C hI hl.1 ys_X8_fits k_311 h (fun q hq => c_X8_fits l D t ad z C.2.2.2.2.2.2.1 (σ) 0 (x1 - x1 / 100 * 100) q hq) (As := [.int 0, .int (x1 - x1 / 100 * 100)]) rfl rfl ⟨Nat.le_of_ble_eq_true rfl, Nat.le_of_ble_eq_true rfl⟩ (Nat.le_of_ble_eq_true rfl) dX9_post_9 (fun q1 H locs h hI => ?_)
    refine hif_eq (tgt := 26) C dX9_post_12 (by decide) h (fun h => ?_) (fun h => ?_)
    · refine lv_iconst hx hb dX9_post_26 ci_m1 ?_
      exact h_iret_w C hr hI h dX9_post_27
    · refine lv_iconst hx hb dX9_post_15 ci_1 ?_
      refine lv_iload_n hx hb dX9_post_16 rfl (lv_at hl 1 rfl) ?_
      refine lv_bipush hx hb dX9_post_17 cb_100 ?_
      refine h_idiv C dX9_post_19 h (fun h => ?_)
      refine h_callsi_o (rest := []) C hI hl.1 ys_X8_fits k_311 h (fun q hq => c_X8_fits l D t ad z C.2.2.2.2.2.2.1 (σ) 1 (x1 / 100) q hq) (As := [.int 1, .int (x1 / 100)]) rfl rfl ⟨Nat.le_of_ble_eq_true rfl, Nat.le_of_ble_eq_true rfl⟩ (Nat.le_of_ble_eq_true rfl) dX9_post_20 (fun q2 H locs h hI => ?_)
      refine hif_ne (tgt := 28) C dX9_post_23 (by decide) h (fun h => ?_) (fun h => ?_)
      · refine lv_aload_n hx hb dX9_post_28 rfl (lv_at hl 0 rfl) ?_
        refine fr_261 C hI shX_0 rfl dX9_post_29 ?_
        refine fg_37 C hI shX_1 rfl dX9_post_32 ?_
        refine lv_bipush hx hb dX9_post_35 cb_9 ?_
        refine hicmp_lt (tgt := 43) C dX9_post_37 (by decide) h (fun h => ?_) (fun h => ?_)
        · refine lv_aload_n hx hb dX9_post_43 rfl (lv_at hl 0 rfl) ?_
          refine fr_261 C hI shX_0 rfl dX9_post_44 ?_
          refine lv_iload_n hx hb dX9_post_47 rfl (lv_at hl 1 rfl) ?_
          refine lv_bipush hx hb dX9_post_48 cb_100 ?_
          refine h_irem C dX9_post_50 h (fun h => ?_)
          refine lv_iload_n hx hb dX9_post_51 rfl (lv_at hl 1 rfl) ?_
          refine lv_bipush hx hb dX9_post_52 cb_100 ?_
          refine h_idiv C dX9_post_54 h (fun h => ?_)
          refine lv_iconst hx hb dX9_post_55 ci_1 ?_
          refine h_callvi_w (rest := []) C hI hl.1 shX_1 rfl yv_X8_add k_318 h (fun q hq => c_X8_add l D t ad z C.2.2.2.2.2.2.1 (σ) (x1 - x1 / 100 * 100) (x1 / 100) 1 q hq) (As := [.int (x1 - x1 / 100 * 100), .int (x1 / 100), .int 1]) rfl rfl ⟨Nat.le_of_ble_eq_true rfl, Nat.le_of_ble_eq_true rfl⟩ (Nat.le_of_ble_eq_true rfl) dX9_post_56 (fun q3 H locs h hI => ?_)
          exact h_iret_w C hr hI h dX9_post_59
        · refine lv_bipush hx hb dX9_post_40 cb_m3 ?_
          exact h_iret_w C hr hI h dX9_post_42
      · refine lv_iconst hx hb dX9_post_26 ci_m1 ?_
        exact h_iret_w C hr hI h dX9_post_27
set_option maxRecDepth 100000 in
set_option maxHeartbeats 4000000 in
theorem c_X9_isShelf (l : Launch) (D : va_G) (t : gT) (ad z : Nat → Nat) (hJ : gJ shX ad) (σ : gS) (x0 : Int32) (q : Int32) (h : f_X9_isShelf σ x0 = some q) : Met l yX9_isShelf (Cond.code yX9_isShelf cX9_isShelf 1 (some .boolean) :: lw_tb) (gR 1 60) (gPc shX t ad D z [.int x0] σ) (gQi shX t ad D q σ) 0 0 (gA shX ad) := by
  refine gMet "NineKeysRound" rfl (by decide) hJ (Nat.le_of_ble_eq_true rfl) ?_
  intro p e s m below meth c ls C hr hI hl
  have hx := C.1
  have hb := C.2.1
  have hl : lv_has ls 1 [(0, .int x0)] := hl
  unfold f_X9_isShelf at h
  refine lv_iload_n hx hb dX9_isShelf_0 rfl (lv_at hl 0 rfl) ?_
  refine hif_lt (tgt := 14) C dX9_isShelf_1 (by decide) h (fun h => ?_) (fun h => ?_)
  · refine lv_iconst hx hb dX9_isShelf_14 ci_0 ?_
    exact h_zret_o C hr hI h dX9_isShelf_15
  · refine lv_iload_n hx hb dX9_isShelf_4 rfl (lv_at hl 0 rfl) ?_
    refine lv_bipush hx hb dX9_isShelf_5 cb_6 ?_
    refine hicmp_ge (tgt := 14) C dX9_isShelf_7 (by decide) h (fun h => ?_) (fun h => ?_)
    · refine lv_iconst hx hb dX9_isShelf_14 ci_0 ?_
      exact h_zret_o C hr hI h dX9_isShelf_15
    · refine lv_iconst hx hb dX9_isShelf_10 ci_1 ?_
      refine lv_goto (tgt := 15) hx hb dX9_isShelf_11 (by decide) ?_
      exact h_zret_o C hr hI h dX9_isShelf_15
set_option maxRecDepth 100000 in
set_option maxHeartbeats 4000000 in
theorem w_X9_addPostsFrom_3 {p : Program} {l : Launch} {e : Env} {s : State} {m : MethodId} {args : Array Value} {below : List Frame} {meth : Method} {c : Code} {D : va_G} {t : gT} {ad z : Nat → Nat} (C : gC p s m args meth c cX9_addPostsFrom 10 "NineKeysRound" D t shX ad z) (hr : meth.sig.returnType = some .int) {kS : Nat} (h_kS : shX[kS]? = some (.inr (.inl (5, [some (kS + 1), none, none, none, none])))) (h_kS1 : shX[kS + 1]? = some (.inl (1, 60))) {r : Int32 × gS} : ∀ (n : Nat) (x2 : Int32) (x3 : Int32) (x4 : Int32) (σ : gS) (H : Heap) (locs : List Loc) (ls : Array Slot), f_X9_addPostsFrom_3 kS n x2 x3 x4 σ = some r → gI shX t ad D s.heap σ H locs → lv_has ls 10 [(0, .ref (ad 0)), (1, .ref (ad kS)), (2, .int x2), (3, .int x3), (4, .int x4)] → W p l e (gR 2 83) s m args below meth c H locs 0 0 (MQ below (gQi shX t ad D r.1 r.2) args s 0 0 (gA shX ad)) (F0 m 3 ls []) := by
  have hx := C.1
  have hb := C.2.1
  intro n
  induction n with
  | zero =>
    intro x2 x3 x4 σ H locs ls  h
    exact absurd h (by simp [f_X9_addPostsFrom_3])
  | succ n ih =>
    intro x2 x3 x4 σ H locs ls  h hI hl
    unfold f_X9_addPostsFrom_3 at h
    refine lv_iload hx hb dX9_addPostsFrom_3 (lv_at hl 4 rfl) ?_
    refine lv_iload_n hx hb dX9_addPostsFrom_5 rfl (lv_at hl 3 rfl) ?_
    refine hicmp_ge (tgt := 142) C dX9_addPostsFrom_6 (by decide) h (fun h => ?_) (fun h => ?_)
    · refine lv_iload_n hx hb dX9_addPostsFrom_142 rfl (lv_at hl 3 rfl) ?_
      exact h_iret_w C hr hI h dX9_addPostsFrom_143
    · refine lv_iload_n hx hb dX9_addPostsFrom_9 rfl (lv_at hl 2 rfl) ?_
      refine lv_i2l (v := ((x2 : Int32).toInt64)) hx hb dX9_addPostsFrom_10 rfl ?_
      refine lv_ldc2 hx hb C.2.2.2.1 (C.2.2.2.2.1 _ k_337) dX9_addPostsFrom_11 ?_
      refine lv_iload hx hb dX9_addPostsFrom_14 (lv_at hl 4 rfl) ?_
      refine lv_i2l (v := ((x4 : Int32).toInt64)) hx hb dX9_addPostsFrom_16 rfl ?_
      refine lv_lmul hx hb dX9_addPostsFrom_17 ?_
      refine lv_ladd hx hb dX9_addPostsFrom_18 ?_
      refine gx_topl h (fun v1 h => ?_)
      refine lv_lstore (lv' := [(5, .long v1), (0, .ref (ad 0)), (1, .ref (ad kS)), (2, .int x2), (3, .int x3), (4, .int x4)]) hx hb dX9_addPostsFrom_19 hl (by decide) rfl (fun ls hl => ?_)
      refine lv_lload hx hb dX9_addPostsFrom_21 (lv_at hl 0 rfl) ?_
      refine lv_lconst (v := 0) hx hb dX9_addPostsFrom_23 rfl ?_
      refine W.lcmp hx hb dX9_addPostsFrom_24 ?_
      refine hif_lt (tgt := 55) C dX9_addPostsFrom_25 (by decide) h (fun h => ?_) (fun h => ?_)
      · refine lv_iload hx hb dX9_addPostsFrom_55 (lv_at hl 5 rfl) ?_
        exact h_iret_w C hr hI h dX9_addPostsFrom_57
      · refine lv_lload hx hb dX9_addPostsFrom_28 (lv_at hl 0 rfl) ?_
        refine lv_ldc2 hx hb C.2.2.2.1 (C.2.2.2.2.1 _ k_338) dX9_addPostsFrom_30 ?_
        refine lv_ladd hx hb dX9_addPostsFrom_33 ?_
        refine lv_aload_n hx hb dX9_addPostsFrom_34 rfl (lv_at hl 2 rfl) ?_
        refine fg_248 C hI h_kS rfl dX9_addPostsFrom_35 ?_
        refine lv_i2l (v := (((σ.1 kS 4) : Int32).toInt64)) hx hb dX9_addPostsFrom_38 rfl ?_
        refine W.lcmp hx hb dX9_addPostsFrom_39 ?_
        refine hif_ge (tgt := 55) C dX9_addPostsFrom_40 (by decide) h (fun h => ?_) (fun h => ?_)
        · refine lv_iload hx hb dX9_addPostsFrom_55 (lv_at hl 5 rfl) ?_
          exact h_iret_w C hr hI h dX9_addPostsFrom_57
        · refine lv_aload_n hx hb dX9_addPostsFrom_43 rfl (lv_at hl 1 rfl) ?_
          refine fr_261 C hI shX_0 rfl dX9_addPostsFrom_44 ?_
          refine fg_37 C hI shX_1 rfl dX9_addPostsFrom_47 ?_
          refine lv_bipush hx hb dX9_addPostsFrom_50 cb_9 ?_
          refine hicmp_lt (tgt := 58) C dX9_addPostsFrom_52 (by decide) h (fun h => ?_) (fun h => ?_)
          · refine lv_aload_n hx hb dX9_addPostsFrom_58 rfl (lv_at hl 2 rfl) ?_
            refine lv_lload hx hb dX9_addPostsFrom_59 (lv_at hl 0 rfl) ?_
            refine lv_l2i (v := ((v1 : Int64).toInt32)) hx hb dX9_addPostsFrom_61 rfl ?_
            refine h_callvl_o (rest := []) C hI hl.1 h_kS rfl yv_X5_cellAt k_339 h (fun q hq => c_X5_cellAt l D t ad z C.2.2.2.2.2.2.1 kS h_kS h_kS1 (σ) ((v1 : Int64).toInt32) q hq) (As := [.int ((v1 : Int64).toInt32)]) rfl rfl ⟨Nat.le_of_ble_eq_true rfl, Nat.le_of_ble_eq_true rfl⟩ (Nat.le_of_ble_eq_true rfl) dX9_addPostsFrom_62 (fun q2 H locs h hI => ?_)
            refine lv_l2i (v := ((q2 : Int64).toInt32)) hx hb dX9_addPostsFrom_65 rfl ?_
            refine gx_topi h (fun v3 h => ?_)
            refine lv_istore (lv' := [(7, .int v3), (5, .long v1), (0, .ref (ad 0)), (1, .ref (ad kS)), (2, .int x2), (3, .int x3), (4, .int x4)]) hx hb dX9_addPostsFrom_66 hl (by decide) rfl (fun ls hl => ?_)
            refine lv_aload_n hx hb dX9_addPostsFrom_68 rfl (lv_at hl 3 rfl) ?_
            refine lv_lload hx hb dX9_addPostsFrom_69 (lv_at hl 1 rfl) ?_
            refine lv_l2i (v := ((v1 : Int64).toInt32)) hx hb dX9_addPostsFrom_71 rfl ?_
            refine lv_iconst hx hb dX9_addPostsFrom_72 ci_1 ?_
            refine lv_iadd hx hb dX9_addPostsFrom_73 ?_
            refine h_callvl_o (rest := []) C hI hl.1 h_kS rfl yv_X5_cellAt k_339 h (fun q hq => c_X5_cellAt l D t ad z C.2.2.2.2.2.2.1 kS h_kS h_kS1 (σ) (((v1 : Int64).toInt32) + 1) q hq) (As := [.int (((v1 : Int64).toInt32) + 1)]) rfl rfl ⟨Nat.le_of_ble_eq_true rfl, Nat.le_of_ble_eq_true rfl⟩ (Nat.le_of_ble_eq_true rfl) dX9_addPostsFrom_74 (fun q4 H locs h hI => ?_)
            refine lv_l2i (v := ((q4 : Int64).toInt32)) hx hb dX9_addPostsFrom_77 rfl ?_
            refine gx_topi h (fun v5 h => ?_)
            refine lv_istore (lv' := [(8, .int v5), (7, .int v3), (5, .long v1), (0, .ref (ad 0)), (1, .ref (ad kS)), (2, .int x2), (3, .int x3), (4, .int x4)]) hx hb dX9_addPostsFrom_78 hl (by decide) rfl (fun ls hl => ?_)
            refine lv_aload_n hx hb dX9_addPostsFrom_80 rfl (lv_at hl 4 rfl) ?_
            refine lv_lload hx hb dX9_addPostsFrom_81 (lv_at hl 2 rfl) ?_
            refine lv_l2i (v := ((v1 : Int64).toInt32)) hx hb dX9_addPostsFrom_83 rfl ?_
            refine lv_iconst hx hb dX9_addPostsFrom_84 ci_2 ?_
            refine lv_iadd hx hb dX9_addPostsFrom_85 ?_
            refine h_callvl_o (rest := []) C hI hl.1 h_kS rfl yv_X5_cellAt k_339 h (fun q hq => c_X5_cellAt l D t ad z C.2.2.2.2.2.2.1 kS h_kS h_kS1 (σ) (((v1 : Int64).toInt32) + 2) q hq) (As := [.int (((v1 : Int64).toInt32) + 2)]) rfl rfl ⟨Nat.le_of_ble_eq_true rfl, Nat.le_of_ble_eq_true rfl⟩ (Nat.le_of_ble_eq_true rfl) dX9_addPostsFrom_86 (fun q6 H locs h hI => ?_)
            refine lv_l2i (v := ((q6 : Int64).toInt32)) hx hb dX9_addPostsFrom_89 rfl ?_
            refine gx_topi h (fun v7 h => ?_)
            refine lv_istore (lv' := [(9, .int v7), (8, .int v5), (7, .int v3), (5, .long v1), (0, .ref (ad 0)), (1, .ref (ad kS)), (2, .int x2), (3, .int x3), (4, .int x4)]) hx hb dX9_addPostsFrom_90 hl (by decide) rfl (fun ls hl => ?_)
            refine lv_iconst hx hb dX9_addPostsFrom_92 ci_0 ?_
            refine lv_iload hx hb dX9_addPostsFrom_93 (lv_at hl 2 rfl) ?_
            refine h_callsi_o (rest := []) C hI hl.1 ys_X8_fits k_311 h (fun q hq => c_X8_fits l D t ad z C.2.2.2.2.2.2.1 (σ) 0 v3 q hq) (As := [.int 0, .int v3]) rfl rfl ⟨Nat.le_of_ble_eq_true rfl, Nat.le_of_ble_eq_true rfl⟩ (Nat.le_of_ble_eq_true rfl) dX9_addPostsFrom_95 (fun q8 H locs h hI => ?_)
            refine hif_eq (tgt := 119) C dX9_addPostsFrom_98 (by decide) h (fun h => ?_) (fun h => ?_)
            · refine lv_iload hx hb dX9_addPostsFrom_119 (lv_at hl 8 rfl) ?_
              exact h_iret_w C hr hI h dX9_addPostsFrom_121
            · refine lv_iconst hx hb dX9_addPostsFrom_101 ci_1 ?_
              refine lv_iload hx hb dX9_addPostsFrom_102 (lv_at hl 1 rfl) ?_
              refine h_callsi_o (rest := []) C hI hl.1 ys_X8_fits k_311 h (fun q hq => c_X8_fits l D t ad z C.2.2.2.2.2.2.1 (σ) 1 v5 q hq) (As := [.int 1, .int v5]) rfl rfl ⟨Nat.le_of_ble_eq_true rfl, Nat.le_of_ble_eq_true rfl⟩ (Nat.le_of_ble_eq_true rfl) dX9_addPostsFrom_104 (fun q9 H locs h hI => ?_)
              refine hif_eq (tgt := 119) C dX9_addPostsFrom_107 (by decide) h (fun h => ?_) (fun h => ?_)
              · refine lv_iload hx hb dX9_addPostsFrom_119 (lv_at hl 8 rfl) ?_
                exact h_iret_w C hr hI h dX9_addPostsFrom_121
              · refine lv_iconst hx hb dX9_addPostsFrom_110 ci_2 ?_
                refine lv_iload hx hb dX9_addPostsFrom_111 (lv_at hl 0 rfl) ?_
                refine h_callsi_o (rest := []) C hI hl.1 ys_X8_fits k_311 h (fun q hq => c_X8_fits l D t ad z C.2.2.2.2.2.2.1 (σ) 2 v7 q hq) (As := [.int 2, .int v7]) rfl rfl ⟨Nat.le_of_ble_eq_true rfl, Nat.le_of_ble_eq_true rfl⟩ (Nat.le_of_ble_eq_true rfl) dX9_addPostsFrom_113 (fun q10 H locs h hI => ?_)
                refine hif_ne (tgt := 122) C dX9_addPostsFrom_116 (by decide) h (fun h => ?_) (fun h => ?_)
                · refine lv_aload_n hx hb dX9_addPostsFrom_122 rfl (lv_at hl 4 rfl) ?_
                  refine fr_261 C hI shX_0 rfl dX9_addPostsFrom_123 ?_
                  refine lv_iload hx hb dX9_addPostsFrom_126 (lv_at hl 2 rfl) ?_
                  refine lv_iload hx hb dX9_addPostsFrom_128 (lv_at hl 1 rfl) ?_
                  refine lv_iload hx hb dX9_addPostsFrom_130 (lv_at hl 0 rfl) ?_
                  refine h_callvi_w (rest := []) C hI hl.1 shX_1 rfl yv_X8_add k_318 h (fun q hq => c_X8_add l D t ad z C.2.2.2.2.2.2.1 (σ) v3 v5 v7 q hq) (As := [.int v3, .int v5, .int v7]) rfl rfl ⟨Nat.le_of_ble_eq_true rfl, Nat.le_of_ble_eq_true rfl⟩ (Nat.le_of_ble_eq_true rfl) dX9_addPostsFrom_132 (fun q11 H locs h hI => ?_)
                  refine lv_pop hx hb dX9_addPostsFrom_135 rfl ?_
                  refine h_iinc C hl dX9_addPostsFrom_136 8 rfl ci_1 h (by decide) (lvf := fun v12 => [(4, .int v12), (9, .int v7), (8, .int v5), (7, .int v3), (5, .long v1), (0, .ref (ad 0)), (1, .ref (ad kS)), (2, .int x2), (3, .int x3)]) (fun _ => rfl) (fun v12 ls h hl => ?_)
                  refine lv_goto (tgt := 3) hx hb dX9_addPostsFrom_139 (by decide) ?_
                  exact ih _ _ _ _ _ _ _  h hI (lv_sub hl [5, 6, 7, 8, 0] rfl)
                · refine lv_iload hx hb dX9_addPostsFrom_119 (lv_at hl 8 rfl) ?_
                  exact h_iret_w C hr hI h dX9_addPostsFrom_121
          · refine lv_iload hx hb dX9_addPostsFrom_55 (lv_at hl 5 rfl) ?_
            exact h_iret_w C hr hI h dX9_addPostsFrom_57
set_option maxRecDepth 100000 in
set_option maxHeartbeats 4000000 in
theorem c_X9_addPostsFrom (l : Launch) (D : va_G) (t : gT) (ad z : Nat → Nat) (hJ : gJ shX ad) (kS : Nat) (h_kS : shX[kS]? = some (.inr (.inl (5, [some (kS + 1), none, none, none, none])))) (h_kS1 : shX[kS + 1]? = some (.inl (1, 60))) (σ : gS) (x2 : Int32) (x3 : Int32) (q : Int32 × gS) (h : f_X9_addPostsFrom σ kS x2 x3 = some q) : Met l yX9_addPostsFrom (Cond.code yX9_addPostsFrom cX9_addPostsFrom 10 (some .int) :: lw_tb) (gR 2 83) (gPc shX t ad D z [.ref (ad 0), .ref (ad kS), .int x2, .int x3] σ) (gQi shX t ad D q.1 q.2) 0 0 (gA shX ad) := by
  refine gMet "NineKeysRound" rfl (by decide) hJ (Nat.le_of_ble_eq_true rfl) ?_
  intro p e s m below meth c ls C hr hI hl
  have hx := C.1
  have hb := C.2.1
  have hl : lv_has ls 10 [(0, .ref (ad 0)), (1, .ref (ad kS)), (2, .int x2), (3, .int x3)] := hl
  unfold f_X9_addPostsFrom at h
  refine lv_iconst hx hb dX9_addPostsFrom_0 ci_0 ?_
  refine lv_istore (lv' := [(4, .int 0), (0, .ref (ad 0)), (1, .ref (ad kS)), (2, .int x2), (3, .int x3)]) hx hb dX9_addPostsFrom_1 hl (by decide) rfl (fun ls hl => ?_)
  exact w_X9_addPostsFrom_3 C hr  h_kS h_kS1  _ _ _ _ _ _ _ _  h hI (lv_sub hl [1, 2, 3, 4, 0] rfl)
set_option maxRecDepth 100000 in
set_option maxHeartbeats 4000000 in
theorem c_X9_posts (l : Launch) (D : va_G) (t : gT) (ad z : Nat → Nat) (hJ : gJ shX ad) (σ : gS) (x1 : Int32) (x2 : Int32) (x3 : Int32) (q : Int32 × gS) (h : f_X9_posts σ x1 x2 x3 = some q) : Met l yX9_posts (Cond.code yX9_posts cX9_posts 6 (some .int) :: lw_tb) (gR 3 112) (gPc shX t ad D z [.ref (ad 0), .int x1, .int x2, .int x3] σ) (gQi shX t ad D q.1 q.2) 0 0 (gA shX ad) := by
  refine gMet "NineKeysRound" rfl (by decide) hJ (Nat.le_of_ble_eq_true rfl) ?_
  intro p e s m below meth c ls C hr hI hl
  have hx := C.1
  have hb := C.2.1
  have hl : lv_has ls 6 [(0, .ref (ad 0)), (1, .int x1), (2, .int x2), (3, .int x3)] := hl
  unfold f_X9_posts at h
  refine lv_iload_n hx hb dX9_posts_0 rfl (lv_at hl 1 rfl) ?_
  refine h_callsi_o (rest := []) C hI hl.1 ys_X9_isShelf k_326 h (fun q hq => c_X9_isShelf l D t ad z C.2.2.2.2.2.2.1 (σ) x1 q hq) (As := [.int x1]) rfl rfl ⟨Nat.le_of_ble_eq_true rfl, Nat.le_of_ble_eq_true rfl⟩ (Nat.le_of_ble_eq_true rfl) dX9_posts_1 (fun q1 H locs h hI => ?_)
  refine hif_eq (tgt := 18) C dX9_posts_4 (by decide) h (fun h => ?_) (fun h => ?_)
  · refine lv_iconst hx hb dX9_posts_18 ci_m1 ?_
    exact h_iret_w C hr hI h dX9_posts_19
  · refine lv_iload_n hx hb dX9_posts_7 rfl (lv_at hl 3 rfl) ?_
    refine lv_iconst hx hb dX9_posts_8 ci_1 ?_
    refine hicmp_lt (tgt := 18) C dX9_posts_9 (by decide) h (fun h => ?_) (fun h => ?_)
    · refine lv_iconst hx hb dX9_posts_18 ci_m1 ?_
      exact h_iret_w C hr hI h dX9_posts_19
    · refine lv_iload_n hx hb dX9_posts_12 rfl (lv_at hl 3 rfl) ?_
      refine lv_bipush hx hb dX9_posts_13 cb_9 ?_
      refine hicmp_le (tgt := 20) C dX9_posts_15 (by decide) h (fun h => ?_) (fun h => ?_)
      · refine lv_aload_n hx hb dX9_posts_20 rfl (lv_at hl 0 rfl) ?_
        refine fr_264 C hI shX_0 rfl dX9_posts_21 ?_
        refine lv_iload_n hx hb dX9_posts_24 rfl (lv_at hl 1 rfl) ?_
        refine gx_aald C hI shX_13 h dX9_posts_25 (fun k2 hm_ _ h => ?_)
        obtain ⟨h_k2, h_k21⟩ := shelf_ok k2 hm_
        refine lv_astore (lv' := [(4, .ref (ad k2)), (0, .ref (ad 0)), (1, .int x1), (2, .int x2), (3, .int x3)]) hx hb dX9_posts_26 hl (by decide) rfl (fun ls hl => ?_)
        refine lv_aload hx hb dX9_posts_28 (lv_at hl 0 rfl) ?_
        refine lv_iconst hx hb dX9_posts_30 ci_0 ?_
        refine h_callvi_o (rest := []) C hI hl.1 h_k2 rfl yv_X5_refusalFor k_329 h (fun q hq => c_X5_refusalFor l D t ad z C.2.2.2.2.2.2.1 k2 h_k2 h_k21 (σ) 0 q hq) (As := [.int 0]) rfl rfl ⟨Nat.le_of_ble_eq_true rfl, Nat.le_of_ble_eq_true rfl⟩ (Nat.le_of_ble_eq_true rfl) dX9_posts_31 (fun q3 H locs h hI => ?_)
        refine lv_istore (lv' := [(5, .int q3), (4, .ref (ad k2)), (0, .ref (ad 0)), (1, .int x1), (2, .int x2), (3, .int x3)]) hx hb dX9_posts_34 hl (by decide) rfl (fun ls hl => ?_)
        refine lv_iload hx hb dX9_posts_36 (lv_at hl 0 rfl) ?_
        refine lv_bipush hx hb dX9_posts_38 cb_m11 ?_
        refine hicmp_ne (tgt := 45) C dX9_posts_40 (by decide) h (fun h => ?_) (fun h => ?_)
        · refine lv_iload hx hb dX9_posts_45 (lv_at hl 0 rfl) ?_
          refine hif_ge (tgt := 55) C dX9_posts_47 (by decide) h (fun h => ?_) (fun h => ?_)
          · refine lv_aload_n hx hb dX9_posts_55 rfl (lv_at hl 2 rfl) ?_
            refine lv_aload hx hb dX9_posts_56 (lv_at hl 1 rfl) ?_
            refine lv_iload_n hx hb dX9_posts_58 rfl (lv_at hl 4 rfl) ?_
            refine lv_iload_n hx hb dX9_posts_59 rfl (lv_at hl 5 rfl) ?_
            refine h_callvi_w (rest := []) C hI hl.1 shX_0 rfl yv_X9_addPostsFrom k_333 h (fun q hq => c_X9_addPostsFrom l D t ad z C.2.2.2.2.2.2.1 k2 h_k2 h_k21 (σ) x2 x3 q hq) (As := [.ref (ad k2), .int x2, .int x3]) rfl rfl ⟨Nat.le_of_ble_eq_true rfl, Nat.le_of_ble_eq_true rfl⟩ (Nat.le_of_ble_eq_true rfl) dX9_posts_60 (fun q4 H locs h hI => ?_)
            exact h_iret_w C hr hI h dX9_posts_63
          · refine lv_iload hx hb dX9_posts_50 (lv_at hl 0 rfl) ?_
            refine lv_goto (tgt := 63) hx hb dX9_posts_52 (by decide) ?_
            exact h_iret_w C hr hI h dX9_posts_63
        · refine lv_iconst hx hb dX9_posts_43 ci_0 ?_
          exact h_iret_w C hr hI h dX9_posts_44
      · refine lv_iconst hx hb dX9_posts_18 ci_m1 ?_
        exact h_iret_w C hr hI h dX9_posts_19
set_option maxRecDepth 100000 in
set_option maxHeartbeats 4000000 in
theorem c_X9_mend (l : Launch) (D : va_G) (t : gT) (ad z : Nat → Nat) (hJ : gJ shX ad) (σ : gS) (x1 : Int32) (x2 : Int32) (x3 : Int32) (q : Int32 × gS) (h : f_X9_mend σ x1 x2 x3 = some q) : Met l yX9_mend (Cond.code yX9_mend cX9_mend 6 (some .int) :: lw_tb) (gR 3 103) (gPc shX t ad D z [.ref (ad 0), .int x1, .int x2, .int x3] σ) (gQi shX t ad D q.1 q.2) 0 0 (gA shX ad) := by
  refine gMet "NineKeysRound" rfl (by decide) hJ (Nat.le_of_ble_eq_true rfl) ?_
  intro p e s m below meth c ls C hr hI hl
  have hx := C.1
  have hb := C.2.1
  have hl : lv_has ls 6 [(0, .ref (ad 0)), (1, .int x1), (2, .int x2), (3, .int x3)] := hl
  unfold f_X9_mend at h
  refine lv_aload_n hx hb dX9_mend_0 rfl (lv_at hl 0 rfl) ?_
  refine fr_261 C hI shX_0 rfl dX9_mend_1 ?_
  refine lv_iload_n hx hb dX9_mend_4 rfl (lv_at hl 1 rfl) ?_
  refine lv_iload_n hx hb dX9_mend_5 rfl (lv_at hl 2 rfl) ?_
  refine h_callvi_o (rest := []) C hI hl.1 shX_1 rfl yv_X8_placeOf k_347 h (fun q hq => c_X8_placeOf l D t ad z C.2.2.2.2.2.2.1 (σ) x1 x2 q hq) (As := [.int x1, .int x2]) rfl rfl ⟨Nat.le_of_ble_eq_true rfl, Nat.le_of_ble_eq_true rfl⟩ (Nat.le_of_ble_eq_true rfl) dX9_mend_6 (fun q1 H locs h hI => ?_)
  refine lv_istore (lv' := [(4, .int q1), (0, .ref (ad 0)), (1, .int x1), (2, .int x2), (3, .int x3)]) hx hb dX9_mend_9 hl (by decide) rfl (fun ls hl => ?_)
  refine lv_iload hx hb dX9_mend_11 (lv_at hl 0 rfl) ?_
  refine hif_lt (tgt := 24) C dX9_mend_13 (by decide) h (fun h => ?_) (fun h => ?_)
  · refine lv_iconst hx hb dX9_mend_24 ci_m1 ?_
    exact h_iret_w C hr hI h dX9_mend_25
  · refine lv_iload_n hx hb dX9_mend_16 rfl (lv_at hl 3 rfl) ?_
    refine lv_iload_n hx hb dX9_mend_17 rfl (lv_at hl 4 rfl) ?_
    refine h_callsi_o (rest := []) C hI hl.1 ys_X8_fits k_311 h (fun q hq => c_X8_fits l D t ad z C.2.2.2.2.2.2.1 (σ) x2 x3 q hq) (As := [.int x2, .int x3]) rfl rfl ⟨Nat.le_of_ble_eq_true rfl, Nat.le_of_ble_eq_true rfl⟩ (Nat.le_of_ble_eq_true rfl) dX9_mend_18 (fun q2 H locs h hI => ?_)
    refine hif_ne (tgt := 26) C dX9_mend_21 (by decide) h (fun h => ?_) (fun h => ?_)
    · refine lv_aload_n hx hb dX9_mend_26 rfl (lv_at hl 1 rfl) ?_
      refine fr_261 C hI shX_0 rfl dX9_mend_27 ?_
      refine fr_35 C hI shX_1 rfl dX9_mend_30 ?_
      refine lv_iload hx hb dX9_mend_33 (lv_at hl 0 rfl) ?_
      refine gx_iald C hI shX_2 h dX9_mend_35 (fun h => ?_)
      refine gx_topi h (fun v3 h => ?_)
      refine lv_istore (lv' := [(5, .int v3), (4, .int q1), (0, .ref (ad 0)), (1, .int x1), (2, .int x2), (3, .int x3)]) hx hb dX9_mend_36 hl (by decide) rfl (fun ls hl => ?_)
      refine lv_iload hx hb dX9_mend_38 (lv_at hl 0 rfl) ?_
      refine lv_iload_n hx hb dX9_mend_40 rfl (lv_at hl 5 rfl) ?_
      refine hicmp_eq (tgt := 67) C dX9_mend_41 (by decide) h (fun h => ?_) (fun h => ?_)
      · refine lv_iload hx hb dX9_mend_67 (lv_at hl 0 rfl) ?_
        exact h_iret_w C hr hI h dX9_mend_69
      · refine lv_aload_n hx hb dX9_mend_44 rfl (lv_at hl 2 rfl) ?_
        refine fr_261 C hI shX_0 rfl dX9_mend_45 ?_
        refine fr_35 C hI shX_1 rfl dX9_mend_48 ?_
        refine lv_iload hx hb dX9_mend_51 (lv_at hl 1 rfl) ?_
        refine lv_iload_n hx hb dX9_mend_53 rfl (lv_at hl 5 rfl) ?_
        refine gx_iast C hI shX_2 h dX9_mend_54 (fun H locs h hI => ?_)
        refine gx_st h hI (fun s4 h hI => ?_)
        refine lv_aload_n hx hb dX9_mend_55 rfl (lv_at hl 2 rfl) ?_
        refine fr_262 C hI shX_0 rfl dX9_mend_56 ?_
        refine lv_iload hx hb dX9_mend_59 (lv_at hl 1 rfl) ?_
        refine lv_iload hx hb dX9_mend_61 (lv_at hl 0 rfl) ?_
        refine lv_iload_n hx hb dX9_mend_63 rfl (lv_at hl 5 rfl) ?_
        refine h_callvv_w (rest := []) C hI hl.1 shX_3 rfl yv_X0_note k_355 h (fun q hq => c_X0_note l D t ad z C.2.2.2.2.2.2.1 s4 q1 v3 x3 q hq) (As := [.int q1, .int v3, .int x3]) rfl rfl ⟨Nat.le_of_ble_eq_true rfl, Nat.le_of_ble_eq_true rfl⟩ (Nat.le_of_ble_eq_true rfl) dX9_mend_64 (fun q5 H locs h hI => ?_)
        refine lv_iload hx hb dX9_mend_67 (lv_at hl 0 rfl) ?_
        exact h_iret_w C hr hI h dX9_mend_69
    · refine lv_iconst hx hb dX9_mend_24 ci_m1 ?_
      exact h_iret_w C hr hI h dX9_mend_25
set_option maxRecDepth 100000 in
set_option maxHeartbeats 4000000 in
theorem c_X9_of (l : Launch) (D : va_G) (t : gT) (ad z : Nat → Nat) (hJ : gJ shX ad) (σ : gS) (x1 : Int32) (x2 : Int32) (q : Int32) (h : f_X9_of σ x1 x2 = some q) : Met l yX9_of (Cond.code yX9_of cX9_of 4 (some .int) :: lw_tb) (gR 3 103) (gPc shX t ad D z [.ref (ad 0), .int x1, .int x2] σ) (gQi shX t ad D q σ) 0 0 (gA shX ad) := by
  refine gMet "NineKeysRound" rfl (by decide) hJ (Nat.le_of_ble_eq_true rfl) ?_
  intro p e s m below meth c ls C hr hI hl
  have hx := C.1
  have hb := C.2.1
  have hl : lv_has ls 4 [(0, .ref (ad 0)), (1, .int x1), (2, .int x2)] := hl
  unfold f_X9_of at h
  refine lv_iload_n hx hb dX9_of_0 rfl (lv_at hl 2 rfl) ?_
  refine lv_bipush hx hb dX9_of_1 cb_8 ?_
  refine hicmp_ne (tgt := 31) C dX9_of_3 (by decide) h (fun h => ?_) (fun h => ?_)
  · refine lv_aload_n hx hb dX9_of_31 rfl (lv_at hl 0 rfl) ?_
    refine fr_261 C hI shX_0 rfl dX9_of_32 ?_
    refine lv_iload_n hx hb dX9_of_35 rfl (lv_at hl 1 rfl) ?_
    refine lv_iload_n hx hb dX9_of_36 rfl (lv_at hl 2 rfl) ?_
    refine h_callvi_o (rest := []) C hI hl.1 shX_1 rfl yv_X8_placeOf k_347 h (fun q hq => c_X8_placeOf l D t ad z C.2.2.2.2.2.2.1 (σ) x1 x2 q hq) (As := [.int x1, .int x2]) rfl rfl ⟨Nat.le_of_ble_eq_true rfl, Nat.le_of_ble_eq_true rfl⟩ (Nat.le_of_ble_eq_true rfl) dX9_of_37 (fun q1 H locs h hI => ?_)
    refine lv_istore_n (lv' := [(3, .int q1), (0, .ref (ad 0)), (1, .int x1), (2, .int x2)]) hx hb dX9_of_40 rfl hl (by decide) rfl (fun ls hl => ?_)
    refine lv_iload_n hx hb dX9_of_41 rfl (lv_at hl 0 rfl) ?_
    refine hif_ge (tgt := 49) C dX9_of_42 (by decide) h (fun h => ?_) (fun h => ?_)
    · refine lv_aload_n hx hb dX9_of_49 rfl (lv_at hl 1 rfl) ?_
      refine fr_261 C hI shX_0 rfl dX9_of_50 ?_
      refine fr_35 C hI shX_1 rfl dX9_of_53 ?_
      refine lv_iload_n hx hb dX9_of_56 rfl (lv_at hl 0 rfl) ?_
      refine gx_iald C hI shX_2 h dX9_of_57 (fun h => ?_)
      exact h_iret_o C hr hI h dX9_of_58
    · refine lv_iconst hx hb dX9_of_45 ci_m1 ?_
      refine lv_goto (tgt := 58) hx hb dX9_of_46 (by decide) ?_
      exact h_iret_o C hr hI h dX9_of_58
  · refine lv_aload_n hx hb dX9_of_6 rfl (lv_at hl 0 rfl) ?_
    refine fr_261 C hI shX_0 rfl dX9_of_7 ?_
    refine lv_iload_n hx hb dX9_of_10 rfl (lv_at hl 1 rfl) ?_
    refine h_callvi_o (rest := []) C hI hl.1 shX_1 rfl yv_X8_isPost k_370 h (fun q hq => c_X8_isPost l D t ad z C.2.2.2.2.2.2.1 (σ) x1 q hq) (As := [.int x1]) rfl rfl ⟨Nat.le_of_ble_eq_true rfl, Nat.le_of_ble_eq_true rfl⟩ (Nat.le_of_ble_eq_true rfl) dX9_of_11 (fun q2 H locs h hI => ?_)
    refine hif_eq (tgt := 29) C dX9_of_14 (by decide) h (fun h => ?_) (fun h => ?_)
    · refine lv_iconst hx hb dX9_of_29 ci_m1 ?_
      exact h_iret_o C hr hI h dX9_of_30
    · refine lv_aload_n hx hb dX9_of_17 rfl (lv_at hl 0 rfl) ?_
      refine fr_269 C hI shX_0 rfl dX9_of_18 ?_
      refine fr_180 C hI shX_37 rfl dX9_of_21 ?_
      refine lv_iload_n hx hb dX9_of_24 rfl (lv_at hl 1 rfl) ?_
      refine gx_iald C hI shX_38 h dX9_of_25 (fun h => ?_)
      refine lv_goto (tgt := 30) hx hb dX9_of_26 (by decide) ?_
      exact h_iret_o C hr hI h dX9_of_30
set_option maxRecDepth 100000 in
set_option maxHeartbeats 4000000 in
theorem c_X9_feed (l : Launch) (D : va_G) (t : gT) (ad z : Nat → Nat) (hJ : gJ shX ad) (σ : gS) (x1 : Int32) (q : Int32 × gS) (h : f_X9_feed σ x1 = some q) : Met l yX9_feed (Cond.code yX9_feed cX9_feed 2 (some .int) :: lw_tb) (gR 2 81) (gPc shX t ad D z [.ref (ad 0), .int x1] σ) (gQi shX t ad D q.1 q.2) 0 0 (gA shX ad) := by
  refine gMet "NineKeysRound" rfl (by decide) hJ (Nat.le_of_ble_eq_true rfl) ?_
  intro p e s m below meth c ls C hr hI hl
  have hx := C.1
  have hb := C.2.1
  have hl : lv_has ls 2 [(0, .ref (ad 0)), (1, .int x1)] := hl
  unfold f_X9_feed at h
  refine lv_iload_n hx hb dX9_feed_0 rfl (lv_at hl 1 rfl) ?_
  refine hif_lt (tgt := 11) C dX9_feed_1 (by decide) h (fun h => ?_) (fun h => ?_)
  · refine lv_iconst hx hb dX9_feed_11 ci_m1 ?_
    exact h_iret_w C hr hI h dX9_feed_12
  · refine lv_iload_n hx hb dX9_feed_4 rfl (lv_at hl 1 rfl) ?_
    refine lv_sipush hx hb dX9_feed_5 cs_255 ?_
    refine hicmp_le (tgt := 13) C dX9_feed_8 (by decide) h (fun h => ?_) (fun h => ?_)
    · refine lv_aload_n hx hb dX9_feed_13 rfl (lv_at hl 0 rfl) ?_
      refine fr_263 C hI shX_0 rfl dX9_feed_14 ?_
      refine lv_iload_n hx hb dX9_feed_17 rfl (lv_at hl 1 rfl) ?_
      refine h_callvi_w (rest := []) C hI hl.1 shX_7 rfl yv_X4_take k_375 h (fun q hq => c_X4_take l D t ad z C.2.2.2.2.2.2.1 (σ) x1 q hq) (As := [.int x1]) rfl rfl ⟨Nat.le_of_ble_eq_true rfl, Nat.le_of_ble_eq_true rfl⟩ (Nat.le_of_ble_eq_true rfl) dX9_feed_18 (fun q1 H locs h hI => ?_)
      refine hif_eq (tgt := 34) C dX9_feed_21 (by decide) h (fun h => ?_) (fun h => ?_)
      · refine lv_bipush hx hb dX9_feed_34 cb_m3 ?_
        exact h_iret_w C hr hI h dX9_feed_36
      · refine lv_aload_n hx hb dX9_feed_24 rfl (lv_at hl 0 rfl) ?_
        refine fr_263 C hI shX_0 rfl dX9_feed_25 ?_
        refine fg_85 C hI shX_7 rfl dX9_feed_28 ?_
        refine lv_goto (tgt := 36) hx hb dX9_feed_31 (by decide) ?_
        exact h_iret_w C hr hI h dX9_feed_36
    · refine lv_iconst hx hb dX9_feed_11 ci_m1 ?_
      exact h_iret_w C hr hI h dX9_feed_12
set_option maxRecDepth 100000 in
set_option maxHeartbeats 4000000 in
theorem c_X9_law (l : Launch) (D : va_G) (t : gT) (ad z : Nat → Nat) (hJ : gJ shX ad) (σ : gS) (q : Int32 × gS) (h : f_X9_law σ = some q) : Met l yX9_law (Cond.code yX9_law cX9_law 2 (some .int) :: lw_tb) (gR 73 1904) (gPc shX t ad D z [.ref (ad 0)] σ) (gQi shX t ad D q.1 q.2) 0 0 (gA shX ad) := by
  refine gMet "NineKeysRound" rfl (by decide) hJ (Nat.le_of_ble_eq_true rfl) ?_
  intro p e s m below meth c ls C hr hI hl
  have hx := C.1
  have hb := C.2.1
  have hl : lv_has ls 2 [(0, .ref (ad 0))] := hl
  unfold f_X9_law at h
  refine lv_aload_n hx hb dX9_law_0 rfl (lv_at hl 0 rfl) ?_
  refine fr_263 C hI shX_0 rfl dX9_law_1 ?_
  refine h_callvi_w (rest := []) C hI hl.1 shX_7 rfl yv_X4_adopt k_383 h (fun q hq => c_X4_adopt l D t ad z C.2.2.2.2.2.2.1 (σ) q hq) (As := []) rfl rfl ⟨Nat.le_of_ble_eq_true rfl, Nat.le_of_ble_eq_true rfl⟩ (Nat.le_of_ble_eq_true rfl) dX9_law_4 (fun q1 H locs h hI => ?_)
  refine lv_istore_n (lv' := [(1, .int q1.1), (0, .ref (ad 0))]) hx hb dX9_law_7 rfl hl (by decide) rfl (fun ls hl => ?_)
  refine lv_iload_n hx hb dX9_law_8 rfl (lv_at hl 0 rfl) ?_
  refine hif_ge (tgt := 16) C dX9_law_9 (by decide) h (fun h => ?_) (fun h => ?_)
  · refine lv_bipush hx hb dX9_law_16 cb_m100 ?_
    refine lv_iload_n hx hb dX9_law_18 rfl (lv_at hl 0 rfl) ?_
    refine lv_isub hx hb dX9_law_19 ?_
    exact h_iret_w C hr hI h dX9_law_20
  · refine lv_iconst hx hb dX9_law_12 ci_1 ?_
    refine lv_goto (tgt := 20) hx hb dX9_law_13 (by decide) ?_
    exact h_iret_w C hr hI h dX9_law_20
set_option maxRecDepth 100000 in
set_option maxHeartbeats 4000000 in
theorem c_X9_isEither (l : Launch) (D : va_G) (t : gT) (ad z : Nat → Nat) (hJ : gJ shX ad) (σ : gS) (x0 : Int32) (q : Int32) (h : f_X9_isEither σ x0 = some q) : Met l yX9_isEither (Cond.code yX9_isEither cX9_isEither 1 (some .boolean) :: lw_tb) (gR 1 60) (gPc shX t ad D z [.int x0] σ) (gQi shX t ad D q σ) 0 0 (gA shX ad) := by
  refine gMet "NineKeysRound" rfl (by decide) hJ (Nat.le_of_ble_eq_true rfl) ?_
  intro p e s m below meth c ls C hr hI hl
  have hx := C.1
  have hb := C.2.1
  have hl : lv_has ls 1 [(0, .int x0)] := hl
  unfold f_X9_isEither at h
  refine lv_iload_n hx hb dX9_isEither_0 rfl (lv_at hl 0 rfl) ?_
  refine hif_eq (tgt := 9) C dX9_isEither_1 (by decide) h (fun h => ?_) (fun h => ?_)
  · refine lv_iconst hx hb dX9_isEither_9 ci_1 ?_
    refine lv_goto (tgt := 14) hx hb dX9_isEither_10 (by decide) ?_
    exact h_zret_o C hr hI h dX9_isEither_14
  · refine lv_iload_n hx hb dX9_isEither_4 rfl (lv_at hl 0 rfl) ?_
    refine lv_iconst hx hb dX9_isEither_5 ci_1 ?_
    refine hicmp_ne (tgt := 13) C dX9_isEither_6 (by decide) h (fun h => ?_) (fun h => ?_)
    · refine lv_iconst hx hb dX9_isEither_13 ci_0 ?_
      exact h_zret_o C hr hI h dX9_isEither_14
    · refine lv_iconst hx hb dX9_isEither_9 ci_1 ?_
      refine lv_goto (tgt := 14) hx hb dX9_isEither_10 (by decide) ?_
      exact h_zret_o C hr hI h dX9_isEither_14
set_option maxRecDepth 100000 in
set_option maxHeartbeats 4000000 in
theorem c_X9_layForth (l : Launch) (D : va_G) (t : gT) (ad z : Nat → Nat) (hJ : gJ shX ad) (σ : gS) (x1 : Int32) (q : Int32 × gS) (h : f_X9_layForth σ x1 = some q) : Met l yX9_layForth (Cond.code yX9_layForth cX9_layForth 3 (some .int) :: lw_tb) (gR 5 149) (gPc shX t ad D z [.ref (ad 0), .int x1] σ) (gQi shX t ad D q.1 q.2) 0 0 (gA shX ad) := by
  refine gMet "NineKeysRound" rfl (by decide) hJ (Nat.le_of_ble_eq_true rfl) ?_
  intro p e s m below meth c ls C hr hI hl
  have hx := C.1
  have hb := C.2.1
  have hl : lv_has ls 3 [(0, .ref (ad 0)), (1, .int x1)] := hl
  unfold f_X9_layForth at h
  refine lv_aload_n hx hb dX9_layForth_0 rfl (lv_at hl 0 rfl) ?_
  refine fr_264 C hI shX_0 rfl dX9_layForth_1 ?_
  refine lv_iload_n hx hb dX9_layForth_4 rfl (lv_at hl 1 rfl) ?_
  refine gx_aald C hI shX_13 h dX9_layForth_5 (fun k1 hm_ _ h => ?_)
  obtain ⟨h_k1, h_k11⟩ := shelf_ok k1 hm_
  refine lv_iconst hx hb dX9_layForth_6 ci_0 ?_
  refine h_callvi_o (rest := []) C hI hl.1 h_k1 rfl yv_X5_refusalFor k_329 h (fun q hq => c_X5_refusalFor l D t ad z C.2.2.2.2.2.2.1 k1 h_k1 h_k11 (σ) 0 q hq) (As := [.int 0]) rfl rfl ⟨Nat.le_of_ble_eq_true rfl, Nat.le_of_ble_eq_true rfl⟩ (Nat.le_of_ble_eq_true rfl) dX9_layForth_7 (fun q2 H locs h hI => ?_)
  refine lv_istore_n (lv' := [(2, .int q2), (0, .ref (ad 0)), (1, .int x1)]) hx hb dX9_layForth_10 rfl hl (by decide) rfl (fun ls hl => ?_)
  refine lv_iload_n hx hb dX9_layForth_11 rfl (lv_at hl 0 rfl) ?_
  refine hif_ne (tgt := 28) C dX9_layForth_12 (by decide) h (fun h => ?_) (fun h => ?_)
  · refine lv_iload_n hx hb dX9_layForth_28 rfl (lv_at hl 0 rfl) ?_
    exact h_iret_w C hr hI h dX9_layForth_29
  · refine lv_aload_n hx hb dX9_layForth_15 rfl (lv_at hl 1 rfl) ?_
    refine fr_265 C hI shX_0 rfl dX9_layForth_16 ?_
    refine lv_aload_n hx hb dX9_layForth_19 rfl (lv_at hl 1 rfl) ?_
    refine fr_264 C hI shX_0 rfl dX9_layForth_20 ?_
    refine lv_iload_n hx hb dX9_layForth_23 rfl (lv_at hl 2 rfl) ?_
    refine gx_aald C hI shX_13 h dX9_layForth_24 (fun k3 hm_ _ h => ?_)
    obtain ⟨h_k3, h_k31⟩ := shelf_ok k3 hm_
    refine h_callvv_w (rest := []) C hI hl.1 shX_26 rfl yv_X1_layRound k_525 h (fun q hq => c_X1_layRound l D t ad z C.2.2.2.2.2.2.1 26 k3 shX_26 shX_27 shX_28 h_k3 h_k31 (σ) q hq) (As := [.ref (ad k3)]) rfl rfl ⟨Nat.le_of_ble_eq_true rfl, Nat.le_of_ble_eq_true rfl⟩ (Nat.le_of_ble_eq_true rfl) dX9_layForth_25 (fun q4 H locs h hI => ?_)
    refine lv_iload_n hx hb dX9_layForth_28 rfl (lv_at hl 0 rfl) ?_
    exact h_iret_w C hr hI h dX9_layForth_29
set_option maxRecDepth 100000 in
set_option maxHeartbeats 4000000 in
theorem c_X9_round (l : Launch) (D : va_G) (t : gT) (ad z : Nat → Nat) (hJ : gJ shX ad) (σ : gS) (x1 : Int32) (x2 : Int32) (q : Int32 × gS) (h : f_X9_round σ x1 x2 = some q) : Met l yX9_round (Cond.code yX9_round cX9_round 4 (some .int) :: lw_tb) (gR 6 171) (gPc shX t ad D z [.ref (ad 0), .int x1, .int x2] σ) (gQi shX t ad D q.1 q.2) 0 0 (gA shX ad) := by
  refine gMet "NineKeysRound" rfl (by decide) hJ (Nat.le_of_ble_eq_true rfl) ?_
  intro p e s m below meth c ls C hr hI hl
  have hx := C.1
  have hb := C.2.1
  have hl : lv_has ls 4 [(0, .ref (ad 0)), (1, .int x1), (2, .int x2)] := hl
  unfold f_X9_round at h
  refine lv_iload_n hx hb dX9_round_0 rfl (lv_at hl 1 rfl) ?_
  refine h_callsi_o (rest := []) C hI hl.1 ys_X9_isShelf k_326 h (fun q hq => c_X9_isShelf l D t ad z C.2.2.2.2.2.2.1 (σ) x1 q hq) (As := [.int x1]) rfl rfl ⟨Nat.le_of_ble_eq_true rfl, Nat.le_of_ble_eq_true rfl⟩ (Nat.le_of_ble_eq_true rfl) dX9_round_1 (fun q1 H locs h hI => ?_)
  refine hif_eq (tgt := 14) C dX9_round_4 (by decide) h (fun h => ?_) (fun h => ?_)
  · refine lv_iconst hx hb dX9_round_14 ci_m1 ?_
    exact h_iret_w C hr hI h dX9_round_15
  · refine lv_iload_n hx hb dX9_round_7 rfl (lv_at hl 2 rfl) ?_
    refine h_callsi_o (rest := []) C hI hl.1 ys_X9_isEither k_518 h (fun q hq => c_X9_isEither l D t ad z C.2.2.2.2.2.2.1 (σ) x2 q hq) (As := [.int x2]) rfl rfl ⟨Nat.le_of_ble_eq_true rfl, Nat.le_of_ble_eq_true rfl⟩ (Nat.le_of_ble_eq_true rfl) dX9_round_8 (fun q2 H locs h hI => ?_)
    refine hif_ne (tgt := 16) C dX9_round_11 (by decide) h (fun h => ?_) (fun h => ?_)
    · refine lv_aload_n hx hb dX9_round_16 rfl (lv_at hl 0 rfl) ?_
      refine lv_iload_n hx hb dX9_round_17 rfl (lv_at hl 1 rfl) ?_
      refine h_callvi_w (rest := []) C hI hl.1 shX_0 rfl yv_X9_layForth k_521 h (fun q hq => c_X9_layForth l D t ad z C.2.2.2.2.2.2.1 (σ) x1 q hq) (As := [.int x1]) rfl rfl ⟨Nat.le_of_ble_eq_true rfl, Nat.le_of_ble_eq_true rfl⟩ (Nat.le_of_ble_eq_true rfl) dX9_round_18 (fun q3 H locs h hI => ?_)
      refine lv_istore_n (lv' := [(3, .int q3.1), (0, .ref (ad 0)), (1, .int x1), (2, .int x2)]) hx hb dX9_round_21 rfl hl (by decide) rfl (fun ls hl => ?_)
      refine lv_iload_n hx hb dX9_round_22 rfl (lv_at hl 0 rfl) ?_
      refine hif_ge (tgt := 28) C dX9_round_23 (by decide) h (fun h => ?_) (fun h => ?_)
      · refine lv_iload_n hx hb dX9_round_28 rfl (lv_at hl 3 rfl) ?_
        refine hif_ne (tgt := 42) C dX9_round_29 (by decide) h (fun h => ?_) (fun h => ?_)
        · refine lv_aload_n hx hb dX9_round_42 rfl (lv_at hl 1 rfl) ?_
          refine fr_265 C hI shX_0 rfl dX9_round_43 ?_
          refine fg_122 C hI shX_26 rfl dX9_round_46 ?_
          exact h_iret_w C hr hI h dX9_round_49
        · refine lv_aload_n hx hb dX9_round_32 rfl (lv_at hl 1 rfl) ?_
          refine fr_265 C hI shX_0 rfl dX9_round_33 ?_
          refine fg_120 C hI shX_26 rfl dX9_round_36 ?_
          refine lv_goto (tgt := 49) hx hb dX9_round_39 (by decide) ?_
          exact h_iret_w C hr hI h dX9_round_49
      · refine lv_iload_n hx hb dX9_round_26 rfl (lv_at hl 0 rfl) ?_
        exact h_iret_w C hr hI h dX9_round_27
    · refine lv_iconst hx hb dX9_round_14 ci_m1 ?_
      exact h_iret_w C hr hI h dX9_round_15
set_option maxRecDepth 100000 in
set_option maxHeartbeats 4000000 in
theorem c_X9_first (l : Launch) (D : va_G) (t : gT) (ad z : Nat → Nat) (hJ : gJ shX ad) (σ : gS) (x1 : Int32) (x2 : Int32) (q : Int32 × gS) (h : f_X9_first σ x1 x2 = some q) : Met l yX9_first (Cond.code yX9_first cX9_first 5 (some .int) :: lw_tb) (gR 6 171) (gPc shX t ad D z [.ref (ad 0), .int x1, .int x2] σ) (gQi shX t ad D q.1 q.2) 0 0 (gA shX ad) := by
  refine gMet "NineKeysRound" rfl (by decide) hJ (Nat.le_of_ble_eq_true rfl) ?_
  intro p e s m below meth c ls C hr hI hl
  have hx := C.1
  have hb := C.2.1
  have hl : lv_has ls 5 [(0, .ref (ad 0)), (1, .int x1), (2, .int x2)] := hl
  unfold f_X9_first at h
  refine lv_iload_n hx hb dX9_first_0 rfl (lv_at hl 1 rfl) ?_
  refine h_callsi_o (rest := []) C hI hl.1 ys_X9_isShelf k_326 h (fun q hq => c_X9_isShelf l D t ad z C.2.2.2.2.2.2.1 (σ) x1 q hq) (As := [.int x1]) rfl rfl ⟨Nat.le_of_ble_eq_true rfl, Nat.le_of_ble_eq_true rfl⟩ (Nat.le_of_ble_eq_true rfl) dX9_first_1 (fun q1 H locs h hI => ?_)
  refine hif_eq (tgt := 18) C dX9_first_4 (by decide) h (fun h => ?_) (fun h => ?_)
  · refine lv_iconst hx hb dX9_first_18 ci_m1 ?_
    exact h_iret_w C hr hI h dX9_first_19
  · refine lv_aload_n hx hb dX9_first_7 rfl (lv_at hl 0 rfl) ?_
    refine fr_261 C hI shX_0 rfl dX9_first_8 ?_
    refine lv_iload_n hx hb dX9_first_11 rfl (lv_at hl 2 rfl) ?_
    refine h_callvi_o (rest := []) C hI hl.1 shX_1 rfl yv_X8_isPost k_370 h (fun q hq => c_X8_isPost l D t ad z C.2.2.2.2.2.2.1 (σ) x2 q hq) (As := [.int x2]) rfl rfl ⟨Nat.le_of_ble_eq_true rfl, Nat.le_of_ble_eq_true rfl⟩ (Nat.le_of_ble_eq_true rfl) dX9_first_12 (fun q2 H locs h hI => ?_)
    refine hif_ne (tgt := 20) C dX9_first_15 (by decide) h (fun h => ?_) (fun h => ?_)
    · refine lv_aload_n hx hb dX9_first_20 rfl (lv_at hl 0 rfl) ?_
      refine lv_iload_n hx hb dX9_first_21 rfl (lv_at hl 1 rfl) ?_
      refine h_callvi_w (rest := []) C hI hl.1 shX_0 rfl yv_X9_layForth k_521 h (fun q hq => c_X9_layForth l D t ad z C.2.2.2.2.2.2.1 (σ) x1 q hq) (As := [.int x1]) rfl rfl ⟨Nat.le_of_ble_eq_true rfl, Nat.le_of_ble_eq_true rfl⟩ (Nat.le_of_ble_eq_true rfl) dX9_first_22 (fun q3 H locs h hI => ?_)
      refine lv_istore_n (lv' := [(3, .int q3.1), (0, .ref (ad 0)), (1, .int x1), (2, .int x2)]) hx hb dX9_first_25 rfl hl (by decide) rfl (fun ls hl => ?_)
      refine lv_iload_n hx hb dX9_first_26 rfl (lv_at hl 0 rfl) ?_
      refine hif_ge (tgt := 32) C dX9_first_27 (by decide) h (fun h => ?_) (fun h => ?_)
      · refine lv_aload_n hx hb dX9_first_32 rfl (lv_at hl 1 rfl) ?_
        refine fr_265 C hI shX_0 rfl dX9_first_33 ?_
        refine lv_iload_n hx hb dX9_first_36 rfl (lv_at hl 3 rfl) ?_
        refine h_callvi_o (rest := []) C hI hl.1 shX_26 rfl yv_X1_firstMinuteOf k_555 h (fun q hq => c_X1_firstMinuteOf l D t ad z C.2.2.2.2.2.2.1 26 shX_26 shX_27 shX_28 q3.2 x2 q hq) (As := [.int x2]) rfl rfl ⟨Nat.le_of_ble_eq_true rfl, Nat.le_of_ble_eq_true rfl⟩ (Nat.le_of_ble_eq_true rfl) dX9_first_37 (fun q4 H locs h hI => ?_)
        refine lv_istore (lv' := [(4, .int q4), (3, .int q3.1), (0, .ref (ad 0)), (1, .int x1), (2, .int x2)]) hx hb dX9_first_40 hl (by decide) rfl (fun ls hl => ?_)
        refine lv_iload hx hb dX9_first_42 (lv_at hl 0 rfl) ?_
        refine lv_sipush hx hb dX9_first_44 cs_999 ?_
        refine hicmp_le (tgt := 55) C dX9_first_47 (by decide) h (fun h => ?_) (fun h => ?_)
        · refine lv_iload hx hb dX9_first_55 (lv_at hl 0 rfl) ?_
          exact h_iret_w C hr hI h dX9_first_57
        · refine lv_bipush hx hb dX9_first_50 cb_m2 ?_
          refine lv_goto (tgt := 57) hx hb dX9_first_52 (by decide) ?_
          exact h_iret_w C hr hI h dX9_first_57
      · refine lv_iload_n hx hb dX9_first_30 rfl (lv_at hl 0 rfl) ?_
        exact h_iret_w C hr hI h dX9_first_31
    · refine lv_iconst hx hb dX9_first_18 ci_m1 ?_
      exact h_iret_w C hr hI h dX9_first_19
set_option maxRecDepth 100000 in
set_option maxHeartbeats 4000000 in
theorem c_X9_isMinute (l : Launch) (D : va_G) (t : gT) (ad z : Nat → Nat) (hJ : gJ shX ad) (σ : gS) (x0 : Int32) (q : Int32) (h : f_X9_isMinute σ x0 = some q) : Met l yX9_isMinute (Cond.code yX9_isMinute cX9_isMinute 1 (some .boolean) :: lw_tb) (gR 1 60) (gPc shX t ad D z [.int x0] σ) (gQi shX t ad D q σ) 0 0 (gA shX ad) := by
  refine gMet "NineKeysRound" rfl (by decide) hJ (Nat.le_of_ble_eq_true rfl) ?_
  intro p e s m below meth c ls C hr hI hl
  have hx := C.1
  have hb := C.2.1
  have hl : lv_has ls 1 [(0, .int x0)] := hl
  unfold f_X9_isMinute at h
  refine lv_iload_n hx hb dX9_isMinute_0 rfl (lv_at hl 0 rfl) ?_
  refine hif_lt (tgt := 15) C dX9_isMinute_1 (by decide) h (fun h => ?_) (fun h => ?_)
  · refine lv_iconst hx hb dX9_isMinute_15 ci_0 ?_
    exact h_zret_o C hr hI h dX9_isMinute_16
  · refine lv_iload_n hx hb dX9_isMinute_4 rfl (lv_at hl 0 rfl) ?_
    refine lv_sipush hx hb dX9_isMinute_5 cs_999 ?_
    refine hicmp_gt (tgt := 15) C dX9_isMinute_8 (by decide) h (fun h => ?_) (fun h => ?_)
    · refine lv_iconst hx hb dX9_isMinute_15 ci_0 ?_
      exact h_zret_o C hr hI h dX9_isMinute_16
    · refine lv_iconst hx hb dX9_isMinute_11 ci_1 ?_
      refine lv_goto (tgt := 16) hx hb dX9_isMinute_12 (by decide) ?_
      exact h_zret_o C hr hI h dX9_isMinute_16
set_option maxRecDepth 100000 in
set_option maxHeartbeats 4000000 in
theorem c_X9_by (l : Launch) (D : va_G) (t : gT) (ad z : Nat → Nat) (hJ : gJ shX ad) (σ : gS) (x1 : Int32) (x2 : Int32) (x3 : Int32) (q : Int32 × gS) (h : f_X9_by σ x1 x2 x3 = some q) : Met l yX9_by (Cond.code yX9_by cX9_by 6 (some .int) :: lw_tb) (gR 6 171) (gPc shX t ad D z [.ref (ad 0), .int x1, .int x2, .int x3] σ) (gQi shX t ad D q.1 q.2) 0 0 (gA shX ad) := by
  refine gMet "NineKeysRound" rfl (by decide) hJ (Nat.le_of_ble_eq_true rfl) ?_
  intro p e s m below meth c ls C hr hI hl
  have hx := C.1
  have hb := C.2.1
  have hl : lv_has ls 6 [(0, .ref (ad 0)), (1, .int x1), (2, .int x2), (3, .int x3)] := hl
  unfold f_X9_by at h
  refine lv_iload_n hx hb dX9_by_0 rfl (lv_at hl 1 rfl) ?_
  refine h_callsi_o (rest := []) C hI hl.1 ys_X9_isShelf k_326 h (fun q hq => c_X9_isShelf l D t ad z C.2.2.2.2.2.2.1 (σ) x1 q hq) (As := [.int x1]) rfl rfl ⟨Nat.le_of_ble_eq_true rfl, Nat.le_of_ble_eq_true rfl⟩ (Nat.le_of_ble_eq_true rfl) dX9_by_1 (fun q1 H locs h hI => ?_)
  refine hif_eq (tgt := 21) C dX9_by_4 (by decide) h (fun h => ?_) (fun h => ?_)
  · refine lv_iconst hx hb dX9_by_21 ci_m1 ?_
    exact h_iret_w C hr hI h dX9_by_22
  · refine lv_iload_n hx hb dX9_by_7 rfl (lv_at hl 2 rfl) ?_
    refine h_callsi_o (rest := []) C hI hl.1 ys_X9_isMinute k_563 h (fun q hq => c_X9_isMinute l D t ad z C.2.2.2.2.2.2.1 (σ) x2 q hq) (As := [.int x2]) rfl rfl ⟨Nat.le_of_ble_eq_true rfl, Nat.le_of_ble_eq_true rfl⟩ (Nat.le_of_ble_eq_true rfl) dX9_by_8 (fun q2 H locs h hI => ?_)
    refine hif_eq (tgt := 21) C dX9_by_11 (by decide) h (fun h => ?_) (fun h => ?_)
    · refine lv_iconst hx hb dX9_by_21 ci_m1 ?_
      exact h_iret_w C hr hI h dX9_by_22
    · refine lv_iload_n hx hb dX9_by_14 rfl (lv_at hl 3 rfl) ?_
      refine h_callsi_o (rest := []) C hI hl.1 ys_X9_isEither k_518 h (fun q hq => c_X9_isEither l D t ad z C.2.2.2.2.2.2.1 (σ) x3 q hq) (As := [.int x3]) rfl rfl ⟨Nat.le_of_ble_eq_true rfl, Nat.le_of_ble_eq_true rfl⟩ (Nat.le_of_ble_eq_true rfl) dX9_by_15 (fun q3 H locs h hI => ?_)
      refine hif_ne (tgt := 23) C dX9_by_18 (by decide) h (fun h => ?_) (fun h => ?_)
      · refine lv_aload_n hx hb dX9_by_23 rfl (lv_at hl 0 rfl) ?_
        refine lv_iload_n hx hb dX9_by_24 rfl (lv_at hl 1 rfl) ?_
        refine h_callvi_w (rest := []) C hI hl.1 shX_0 rfl yv_X9_layForth k_521 h (fun q hq => c_X9_layForth l D t ad z C.2.2.2.2.2.2.1 (σ) x1 q hq) (As := [.int x1]) rfl rfl ⟨Nat.le_of_ble_eq_true rfl, Nat.le_of_ble_eq_true rfl⟩ (Nat.le_of_ble_eq_true rfl) dX9_by_25 (fun q4 H locs h hI => ?_)
        refine lv_istore (lv' := [(4, .int q4.1), (0, .ref (ad 0)), (1, .int x1), (2, .int x2), (3, .int x3)]) hx hb dX9_by_28 hl (by decide) rfl (fun ls hl => ?_)
        refine lv_iload hx hb dX9_by_30 (lv_at hl 0 rfl) ?_
        refine hif_ge (tgt := 38) C dX9_by_32 (by decide) h (fun h => ?_) (fun h => ?_)
        · refine lv_aload_n hx hb dX9_by_38 rfl (lv_at hl 1 rfl) ?_
          refine fr_265 C hI shX_0 rfl dX9_by_39 ?_
          refine lv_iload_n hx hb dX9_by_42 rfl (lv_at hl 3 rfl) ?_
          refine h_callvi_o (rest := []) C hI hl.1 shX_26 rfl yv_X1_dentsBy k_566 h (fun q hq => c_X1_dentsBy l D t ad z C.2.2.2.2.2.2.1 26 shX_26 shX_27 shX_28 q4.2 x2 q hq) (As := [.int x2]) rfl rfl ⟨Nat.le_of_ble_eq_true rfl, Nat.le_of_ble_eq_true rfl⟩ (Nat.le_of_ble_eq_true rfl) dX9_by_43 (fun q5 H locs h hI => ?_)
          refine lv_istore (lv' := [(5, .int q5), (4, .int q4.1), (0, .ref (ad 0)), (1, .int x1), (2, .int x2), (3, .int x3)]) hx hb dX9_by_46 hl (by decide) rfl (fun ls hl => ?_)
          refine lv_iload_n hx hb dX9_by_48 rfl (lv_at hl 5 rfl) ?_
          refine lv_iconst hx hb dX9_by_49 ci_1 ?_
          refine hicmp_ne (tgt := 56) C dX9_by_50 (by decide) h (fun h => ?_) (fun h => ?_)
          · refine lv_iload hx hb dX9_by_56 (lv_at hl 0 rfl) ?_
            refine hif_ne (tgt := 66) C dX9_by_58 (by decide) h (fun h => ?_) (fun h => ?_)
            · refine lv_aload_n hx hb dX9_by_66 rfl (lv_at hl 2 rfl) ?_
              refine fr_265 C hI shX_0 rfl dX9_by_67 ?_
              refine lv_iload hx hb dX9_by_70 (lv_at hl 0 rfl) ?_
              refine lv_iconst hx hb dX9_by_72 ci_1 ?_
              refine lv_isub hx hb dX9_by_73 ?_
              refine h_callvi_o (rest := []) C hI hl.1 shX_26 rfl yv_X1_stopOf k_570 h (fun q hq => c_X1_stopOf l D t ad z C.2.2.2.2.2.2.1 26 shX_26 shX_27 shX_28 q4.2 (q5 - 1) q hq) (As := [.int (q5 - 1)]) rfl rfl ⟨Nat.le_of_ble_eq_true rfl, Nat.le_of_ble_eq_true rfl⟩ (Nat.le_of_ble_eq_true rfl) dX9_by_74 (fun q6 H locs h hI => ?_)
              exact h_iret_w C hr hI h dX9_by_77
            · refine lv_bipush hx hb dX9_by_61 cb_m2 ?_
              refine lv_goto (tgt := 77) hx hb dX9_by_63 (by decide) ?_
              exact h_iret_w C hr hI h dX9_by_77
          · refine lv_iload hx hb dX9_by_53 (lv_at hl 0 rfl) ?_
            exact h_iret_w C hr hI h dX9_by_55
        · refine lv_iload hx hb dX9_by_35 (lv_at hl 0 rfl) ?_
          exact h_iret_w C hr hI h dX9_by_37
      · refine lv_iconst hx hb dX9_by_21 ci_m1 ?_
        exact h_iret_w C hr hI h dX9_by_22
set_option maxRecDepth 100000 in
set_option maxHeartbeats 4000000 in
theorem c_X9_unseen (l : Launch) (D : va_G) (t : gT) (ad z : Nat → Nat) (hJ : gJ shX ad) (σ : gS) (x1 : Int32) (x2 : Int32) (x3 : Int32) (x4 : Int32) (q : Int32 × gS) (h : f_X9_unseen σ x1 x2 x3 x4 = some q) : Met l yX9_unseen (Cond.code yX9_unseen cX9_unseen 6 (some .int) :: lw_tb) (gR 6 171) (gPc shX t ad D z [.ref (ad 0), .int x1, .int x2, .int x3, .int x4] σ) (gQi shX t ad D q.1 q.2) 0 0 (gA shX ad) := by
  refine gMet "NineKeysRound" rfl (by decide) hJ (Nat.le_of_ble_eq_true rfl) ?_
  intro p e s m below meth c ls C hr hI hl
  have hx := C.1
  have hb := C.2.1
  have hl : lv_has ls 6 [(0, .ref (ad 0)), (1, .int x1), (2, .int x2), (3, .int x3), (4, .int x4)] := hl
  unfold f_X9_unseen at h
  refine lv_iload_n hx hb dX9_unseen_0 rfl (lv_at hl 1 rfl) ?_
  refine h_callsi_o (rest := []) C hI hl.1 ys_X9_isShelf k_326 h (fun q hq => c_X9_isShelf l D t ad z C.2.2.2.2.2.2.1 (σ) x1 q hq) (As := [.int x1]) rfl rfl ⟨Nat.le_of_ble_eq_true rfl, Nat.le_of_ble_eq_true rfl⟩ (Nat.le_of_ble_eq_true rfl) dX9_unseen_1 (fun q1 H locs h hI => ?_)
  refine hif_eq (tgt := 33) C dX9_unseen_4 (by decide) h (fun h => ?_) (fun h => ?_)
  · refine lv_iconst hx hb dX9_unseen_33 ci_m1 ?_
    exact h_iret_w C hr hI h dX9_unseen_34
  · refine lv_aload_n hx hb dX9_unseen_7 rfl (lv_at hl 0 rfl) ?_
    refine fr_261 C hI shX_0 rfl dX9_unseen_8 ?_
    refine lv_iload_n hx hb dX9_unseen_11 rfl (lv_at hl 2 rfl) ?_
    refine h_callvi_o (rest := []) C hI hl.1 shX_1 rfl yv_X8_isPost k_370 h (fun q hq => c_X8_isPost l D t ad z C.2.2.2.2.2.2.1 (σ) x2 q hq) (As := [.int x2]) rfl rfl ⟨Nat.le_of_ble_eq_true rfl, Nat.le_of_ble_eq_true rfl⟩ (Nat.le_of_ble_eq_true rfl) dX9_unseen_12 (fun q2 H locs h hI => ?_)
    refine hif_eq (tgt := 33) C dX9_unseen_15 (by decide) h (fun h => ?_) (fun h => ?_)
    · refine lv_iconst hx hb dX9_unseen_33 ci_m1 ?_
      exact h_iret_w C hr hI h dX9_unseen_34
    · refine lv_iload_n hx hb dX9_unseen_18 rfl (lv_at hl 3 rfl) ?_
      refine h_callsi_o (rest := []) C hI hl.1 ys_X9_isMinute k_563 h (fun q hq => c_X9_isMinute l D t ad z C.2.2.2.2.2.2.1 (σ) x3 q hq) (As := [.int x3]) rfl rfl ⟨Nat.le_of_ble_eq_true rfl, Nat.le_of_ble_eq_true rfl⟩ (Nat.le_of_ble_eq_true rfl) dX9_unseen_19 (fun q3 H locs h hI => ?_)
      refine hif_eq (tgt := 33) C dX9_unseen_22 (by decide) h (fun h => ?_) (fun h => ?_)
      · refine lv_iconst hx hb dX9_unseen_33 ci_m1 ?_
        exact h_iret_w C hr hI h dX9_unseen_34
      · refine lv_iload hx hb dX9_unseen_25 (lv_at hl 4 rfl) ?_
        refine h_callsi_o (rest := []) C hI hl.1 ys_X9_isEither k_518 h (fun q hq => c_X9_isEither l D t ad z C.2.2.2.2.2.2.1 (σ) x4 q hq) (As := [.int x4]) rfl rfl ⟨Nat.le_of_ble_eq_true rfl, Nat.le_of_ble_eq_true rfl⟩ (Nat.le_of_ble_eq_true rfl) dX9_unseen_27 (fun q4 H locs h hI => ?_)
        refine hif_ne (tgt := 35) C dX9_unseen_30 (by decide) h (fun h => ?_) (fun h => ?_)
        · refine lv_aload_n hx hb dX9_unseen_35 rfl (lv_at hl 0 rfl) ?_
          refine lv_iload_n hx hb dX9_unseen_36 rfl (lv_at hl 1 rfl) ?_
          refine h_callvi_w (rest := []) C hI hl.1 shX_0 rfl yv_X9_layForth k_521 h (fun q hq => c_X9_layForth l D t ad z C.2.2.2.2.2.2.1 (σ) x1 q hq) (As := [.int x1]) rfl rfl ⟨Nat.le_of_ble_eq_true rfl, Nat.le_of_ble_eq_true rfl⟩ (Nat.le_of_ble_eq_true rfl) dX9_unseen_37 (fun q5 H locs h hI => ?_)
          refine lv_istore (lv' := [(5, .int q5.1), (0, .ref (ad 0)), (1, .int x1), (2, .int x2), (3, .int x3), (4, .int x4)]) hx hb dX9_unseen_40 hl (by decide) rfl (fun ls hl => ?_)
          refine lv_iload hx hb dX9_unseen_42 (lv_at hl 0 rfl) ?_
          refine hif_ge (tgt := 50) C dX9_unseen_44 (by decide) h (fun h => ?_) (fun h => ?_)
          · refine lv_aload_n hx hb dX9_unseen_50 rfl (lv_at hl 1 rfl) ?_
            refine fr_267 C hI shX_0 rfl dX9_unseen_51 ?_
            refine lv_aload_n hx hb dX9_unseen_54 rfl (lv_at hl 1 rfl) ?_
            refine fr_265 C hI shX_0 rfl dX9_unseen_55 ?_
            refine lv_iload_n hx hb dX9_unseen_58 rfl (lv_at hl 3 rfl) ?_
            refine lv_iload_n hx hb dX9_unseen_59 rfl (lv_at hl 4 rfl) ?_
            refine h_callvv_w (rest := []) C hI hl.1 shX_32 rfl yv_X6_gather k_578 h (fun q hq => c_X6_gather l D t ad z C.2.2.2.2.2.2.1 26 shX_26 shX_27 shX_28 q5.2 x2 x3 q hq) (As := [.ref (ad 26), .int x2, .int x3]) rfl rfl ⟨Nat.le_of_ble_eq_true rfl, Nat.le_of_ble_eq_true rfl⟩ (Nat.le_of_ble_eq_true rfl) dX9_unseen_60 (fun q6 H locs h hI => ?_)
            refine lv_iload hx hb dX9_unseen_63 (lv_at hl 5 rfl) ?_
            refine hif_ne (tgt := 77) C dX9_unseen_65 (by decide) h (fun h => ?_) (fun h => ?_)
            · refine lv_aload_n hx hb dX9_unseen_77 rfl (lv_at hl 1 rfl) ?_
              refine fr_267 C hI shX_0 rfl dX9_unseen_78 ?_
              refine lv_iload_n hx hb dX9_unseen_81 rfl (lv_at hl 4 rfl) ?_
              refine h_callvi_o (rest := []) C hI hl.1 shX_32 rfl yv_X6_seenAtEnd k_604 h (fun q hq => c_X6_seenAtEnd l D t ad z C.2.2.2.2.2.2.1 q6 x3 q hq) (As := [.int x3]) rfl rfl ⟨Nat.le_of_ble_eq_true rfl, Nat.le_of_ble_eq_true rfl⟩ (Nat.le_of_ble_eq_true rfl) dX9_unseen_82 (fun q7 H locs h hI => ?_)
              refine hif_eq (tgt := 92) C dX9_unseen_85 (by decide) h (fun h => ?_) (fun h => ?_)
              · refine lv_iconst hx hb dX9_unseen_92 ci_0 ?_
                exact h_iret_w C hr hI h dX9_unseen_93
              · refine lv_iconst hx hb dX9_unseen_88 ci_1 ?_
                refine lv_goto (tgt := 93) hx hb dX9_unseen_89 (by decide) ?_
                exact h_iret_w C hr hI h dX9_unseen_93
            · refine lv_aload_n hx hb dX9_unseen_68 rfl (lv_at hl 1 rfl) ?_
              refine fr_267 C hI shX_0 rfl dX9_unseen_69 ?_
              refine lv_iload_n hx hb dX9_unseen_72 rfl (lv_at hl 4 rfl) ?_
              refine h_callvi_o (rest := []) C hI hl.1 shX_32 rfl yv_X6_unseenAtEnd k_596 h (fun q hq => c_X6_unseenAtEnd l D t ad z C.2.2.2.2.2.2.1 q6 x3 q hq) (As := [.int x3]) rfl rfl ⟨Nat.le_of_ble_eq_true rfl, Nat.le_of_ble_eq_true rfl⟩ (Nat.le_of_ble_eq_true rfl) dX9_unseen_73 (fun q8 H locs h hI => ?_)
              exact h_iret_w C hr hI h dX9_unseen_76
          · refine lv_iload hx hb dX9_unseen_47 (lv_at hl 0 rfl) ?_
            exact h_iret_w C hr hI h dX9_unseen_49
        · refine lv_iconst hx hb dX9_unseen_33 ci_m1 ?_
          exact h_iret_w C hr hI h dX9_unseen_34
set_option maxRecDepth 100000 in
set_option maxHeartbeats 4000000 in
theorem w_X9_lostAt_55 {p : Program} {l : Launch} {e : Env} {s : State} {m : MethodId} {args : Array Value} {below : List Frame} {meth : Method} {c : Code} {D : va_G} {t : gT} {ad z : Nat → Nat} (C : gC p s m args meth c cX9_lostAt 7 "NineKeysRound" D t shX ad z) (hr : meth.sig.returnType = some .int) {r : Int32 × gS} : ∀ (n : Nat) (x3 : Int32) (x4 : Int32) (x5 : Int32) (x6 : Int32) (σ : gS) (H : Heap) (locs : List Loc) (ls : Array Slot), f_X9_lostAt_55 n x3 x4 x5 x6 σ = some r → gI shX t ad D s.heap σ H locs → lv_has ls 7 [(0, .ref (ad 0)), (3, .int x3), (4, .int x4), (5, .int x5), (6, .int x6)] → W p l e (gR 6 171) s m args below meth c H locs 0 0 (MQ below (gQi shX t ad D r.1 r.2) args s 0 0 (gA shX ad)) (F0 m 55 ls []) := by
  have hx := C.1
  have hb := C.2.1
  intro n
  induction n with
  | zero =>
    intro x3 x4 x5 x6 σ H locs ls  h
    exact absurd h (by simp [f_X9_lostAt_55])
  | succ n ih =>
    intro x3 x4 x5 x6 σ H locs ls  h hI hl
    unfold f_X9_lostAt_55 at h
    refine lv_iload hx hb dX9_lostAt_55 (lv_at hl 4 rfl) ?_
    refine lv_iload_n hx hb dX9_lostAt_57 rfl (lv_at hl 1 rfl) ?_
    refine hicmp_gt (tgt := 119) C dX9_lostAt_58 (by decide) h (fun h => ?_) (fun h => ?_)
    · refine lv_iload hx hb dX9_lostAt_119 (lv_at hl 2 rfl) ?_
      exact h_iret_w C hr hI h dX9_lostAt_121
    · refine lv_aload_n hx hb dX9_lostAt_61 rfl (lv_at hl 0 rfl) ?_
      refine fr_267 C hI shX_0 rfl dX9_lostAt_62 ?_
      refine lv_iload hx hb dX9_lostAt_65 (lv_at hl 4 rfl) ?_
      refine lv_iload hx hb dX9_lostAt_67 (lv_at hl 3 rfl) ?_
      refine h_callvi_o (rest := []) C hI hl.1 shX_32 rfl yv_X6_countBy k_629 h (fun q hq => c_X6_countBy l D t ad z C.2.2.2.2.2.2.1 (σ) x6 x5 q hq) (As := [.int x6, .int x5]) rfl rfl ⟨Nat.le_of_ble_eq_true rfl, Nat.le_of_ble_eq_true rfl⟩ (Nat.le_of_ble_eq_true rfl) dX9_lostAt_69 (fun q1 H locs h hI => ?_)
      refine lv_istore (lv' := [(5, .int q1), (0, .ref (ad 0)), (3, .int x3), (4, .int x4), (6, .int x6)]) hx hb dX9_lostAt_72 hl (by decide) rfl (fun ls hl => ?_)
      refine lv_aload_n hx hb dX9_lostAt_74 rfl (lv_at hl 1 rfl) ?_
      refine fr_267 C hI shX_0 rfl dX9_lostAt_75 ?_
      refine lv_iload hx hb dX9_lostAt_78 (lv_at hl 0 rfl) ?_
      refine lv_iload hx hb dX9_lostAt_80 (lv_at hl 4 rfl) ?_
      refine h_callvi_o (rest := []) C hI hl.1 shX_32 rfl yv_X6_seenAfter k_634 h (fun q hq => c_X6_seenAfter l D t ad z C.2.2.2.2.2.2.1 (σ) q1 x6 q hq) (As := [.int q1, .int x6]) rfl rfl ⟨Nat.le_of_ble_eq_true rfl, Nat.le_of_ble_eq_true rfl⟩ (Nat.le_of_ble_eq_true rfl) dX9_lostAt_82 (fun q2 H locs h hI => ?_)
      refine hif_ne (tgt := 113) C dX9_lostAt_85 (by decide) h (fun h => ?_) (fun h => ?_)
      · refine h_iinc C hl dX9_lostAt_113 4 rfl ci_1 h (by decide) (lvf := fun v3 => [(6, .int v3), (5, .int q1), (0, .ref (ad 0)), (3, .int x3), (4, .int x4)]) (fun _ => rfl) (fun v3 ls h hl => ?_)
        refine lv_goto (tgt := 55) hx hb dX9_lostAt_116 (by decide) ?_
        exact ih _ _ _ _ _ _ _ _  h hI (lv_sub hl [2, 3, 4, 1, 0] rfl)
      · refine lv_iload hx hb dX9_lostAt_88 (lv_at hl 3 rfl) ?_
        refine lv_aload_n hx hb dX9_lostAt_90 rfl (lv_at hl 1 rfl) ?_
        refine fr_263 C hI shX_0 rfl dX9_lostAt_91 ?_
        refine lv_aload_n hx hb dX9_lostAt_94 rfl (lv_at hl 1 rfl) ?_
        refine fr_267 C hI shX_0 rfl dX9_lostAt_95 ?_
        refine lv_iload hx hb dX9_lostAt_98 (lv_at hl 0 rfl) ?_
        refine lv_iload hx hb dX9_lostAt_100 (lv_at hl 4 rfl) ?_
        refine h_callvi_o (rest := [.ref (ad 7), .int x4]) C hI hl.1 shX_32 rfl yv_X6_unseenAfter k_635 h (fun q hq => c_X6_unseenAfter l D t ad z C.2.2.2.2.2.2.1 (σ) q1 x6 q hq) (As := [.int q1, .int x6]) rfl rfl ⟨Nat.le_of_ble_eq_true rfl, Nat.le_of_ble_eq_true rfl⟩ (Nat.le_of_ble_eq_true rfl) dX9_lostAt_102 (fun q4 H locs h hI => ?_)
        refine lv_iload hx hb dX9_lostAt_105 (lv_at hl 4 rfl) ?_
        refine h_callvi_w (rest := [.int x4]) C hI hl.1 shX_7 rfl yv_X4_worth k_636 h (fun q hq => c_X4_worth l D t ad z C.2.2.2.2.2.2.1 (σ) q4 x6 q hq) (As := [.int q4, .int x6]) rfl rfl ⟨Nat.le_of_ble_eq_true rfl, Nat.le_of_ble_eq_true rfl⟩ (Nat.le_of_ble_eq_true rfl) dX9_lostAt_107 (fun q5 H locs h hI => ?_)
        refine lv_iadd hx hb dX9_lostAt_110 ?_
        refine gx_topi h (fun v6 h => ?_)
        refine lv_istore (lv' := [(4, .int v6), (5, .int q1), (0, .ref (ad 0)), (3, .int x3), (6, .int x6)]) hx hb dX9_lostAt_111 hl (by decide) rfl (fun ls hl => ?_)
        refine h_iinc C hl dX9_lostAt_113 4 rfl ci_1 h (by decide) (lvf := fun v7 => [(6, .int v7), (4, .int v6), (5, .int q1), (0, .ref (ad 0)), (3, .int x3)]) (fun _ => rfl) (fun v7 ls h hl => ?_)
        refine lv_goto (tgt := 55) hx hb dX9_lostAt_116 (by decide) ?_
        exact ih _ _ _ _ _ _ _ _  h hI (lv_sub hl [3, 4, 1, 2, 0] rfl)
set_option maxRecDepth 100000 in
set_option maxHeartbeats 4000000 in
theorem c_X9_lostAt (l : Launch) (D : va_G) (t : gT) (ad z : Nat → Nat) (hJ : gJ shX ad) (σ : gS) (x1 : Int32) (x2 : Int32) (x3 : Int32) (q : Int32 × gS) (h : f_X9_lostAt σ x1 x2 x3 = some q) : Met l yX9_lostAt (Cond.code yX9_lostAt cX9_lostAt 7 (some .int) :: lw_tb) (gR 6 171) (gPc shX t ad D z [.ref (ad 0), .int x1, .int x2, .int x3] σ) (gQi shX t ad D q.1 q.2) 0 0 (gA shX ad) := by
  refine gMet "NineKeysRound" rfl (by decide) hJ (Nat.le_of_ble_eq_true rfl) ?_
  intro p e s m below meth c ls C hr hI hl
  have hx := C.1
  have hb := C.2.1
  have hl : lv_has ls 7 [(0, .ref (ad 0)), (1, .int x1), (2, .int x2), (3, .int x3)] := hl
  unfold f_X9_lostAt at h
  refine lv_aload_n hx hb dX9_lostAt_0 rfl (lv_at hl 0 rfl) ?_
  refine fr_267 C hI shX_0 rfl dX9_lostAt_1 ?_
  refine lv_aload_n hx hb dX9_lostAt_4 rfl (lv_at hl 0 rfl) ?_
  refine fr_265 C hI shX_0 rfl dX9_lostAt_5 ?_
  refine lv_iload_n hx hb dX9_lostAt_8 rfl (lv_at hl 1 rfl) ?_
  refine lv_iload_n hx hb dX9_lostAt_9 rfl (lv_at hl 3 rfl) ?_
  refine h_callvv_w (rest := []) C hI hl.1 shX_32 rfl yv_X6_gather k_578 h (fun q hq => c_X6_gather l D t ad z C.2.2.2.2.2.2.1 26 shX_26 shX_27 shX_28 (σ) x1 x3 q hq) (As := [.ref (ad 26), .int x1, .int x3]) rfl rfl ⟨Nat.le_of_ble_eq_true rfl, Nat.le_of_ble_eq_true rfl⟩ (Nat.le_of_ble_eq_true rfl) dX9_lostAt_10 (fun q1 H locs h hI => ?_)
  refine lv_aload_n hx hb dX9_lostAt_13 rfl (lv_at hl 0 rfl) ?_
  refine fr_263 C hI shX_0 rfl dX9_lostAt_14 ?_
  refine lv_aload_n hx hb dX9_lostAt_17 rfl (lv_at hl 0 rfl) ?_
  refine fr_261 C hI shX_0 rfl dX9_lostAt_18 ?_
  refine lv_iload_n hx hb dX9_lostAt_21 rfl (lv_at hl 1 rfl) ?_
  refine lv_iconst hx hb dX9_lostAt_22 ci_2 ?_
  refine h_callvi_o (rest := [.ref (ad 7)]) C hI hl.1 shX_1 rfl yv_X8_numberOf k_620 h (fun q hq => c_X8_numberOf l D t ad z C.2.2.2.2.2.2.1 q1 x1 2 q hq) (As := [.int x1, .int 2]) rfl rfl ⟨Nat.le_of_ble_eq_true rfl, Nat.le_of_ble_eq_true rfl⟩ (Nat.le_of_ble_eq_true rfl) dX9_lostAt_23 (fun q2 H locs h hI => ?_)
  refine lv_aload_n hx hb dX9_lostAt_26 rfl (lv_at hl 0 rfl) ?_
  refine fr_261 C hI shX_0 rfl dX9_lostAt_27 ?_
  refine lv_iload_n hx hb dX9_lostAt_30 rfl (lv_at hl 1 rfl) ?_
  refine lv_iconst hx hb dX9_lostAt_31 ci_3 ?_
  refine h_callvi_o (rest := [.int q2, .ref (ad 7)]) C hI hl.1 shX_1 rfl yv_X8_numberOf k_620 h (fun q hq => c_X8_numberOf l D t ad z C.2.2.2.2.2.2.1 q1 x1 3 q hq) (As := [.int x1, .int 3]) rfl rfl ⟨Nat.le_of_ble_eq_true rfl, Nat.le_of_ble_eq_true rfl⟩ (Nat.le_of_ble_eq_true rfl) dX9_lostAt_32 (fun q3 H locs h hI => ?_)
  refine lv_iload_n hx hb dX9_lostAt_35 rfl (lv_at hl 1 rfl) ?_
  refine lv_aload_n hx hb dX9_lostAt_36 rfl (lv_at hl 0 rfl) ?_
  refine fr_265 C hI shX_0 rfl dX9_lostAt_37 ?_
  refine fg_120 C hI shX_26 rfl dX9_lostAt_40 ?_
  refine h_callvv_w (rest := []) C hI hl.1 shX_7 rfl yv_X4_setPost k_625 h (fun q hq => c_X4_setPost l D t ad z C.2.2.2.2.2.2.1 q1 q2 q3 x1 (q1.1 26 4) q hq) (As := [.int q2, .int q3, .int x1, .int (q1.1 26 4)]) rfl rfl ⟨Nat.le_of_ble_eq_true rfl, Nat.le_of_ble_eq_true rfl⟩ (Nat.le_of_ble_eq_true rfl) dX9_lostAt_43 (fun q4 H locs h hI => ?_)
  refine lv_iconst hx hb dX9_lostAt_46 ci_0 ?_
  refine lv_istore (lv' := [(4, .int 0), (0, .ref (ad 0)), (1, .int x1), (2, .int x2), (3, .int x3)]) hx hb dX9_lostAt_47 hl (by decide) rfl (fun ls hl => ?_)
  refine lv_iconst hx hb dX9_lostAt_49 ci_0 ?_
  refine lv_istore (lv' := [(5, .int 0), (4, .int 0), (0, .ref (ad 0)), (1, .int x1), (2, .int x2), (3, .int x3)]) hx hb dX9_lostAt_50 hl (by decide) rfl (fun ls hl => ?_)
  refine lv_iload_n hx hb dX9_lostAt_52 rfl (lv_at hl 4 rfl) ?_
  refine lv_istore (lv' := [(6, .int x2), (5, .int 0), (4, .int 0), (0, .ref (ad 0)), (1, .int x1), (2, .int x2), (3, .int x3)]) hx hb dX9_lostAt_53 hl (by decide) rfl (fun ls hl => ?_)
  exact w_X9_lostAt_55 C hr    _ _ _ _ _ _ _ _ _  h hI (lv_sub hl [3, 6, 2, 1, 0] rfl)
set_option maxRecDepth 100000 in
set_option maxHeartbeats 4000000 in
theorem w_X9_lost_93 {p : Program} {l : Launch} {e : Env} {s : State} {m : MethodId} {args : Array Value} {below : List Frame} {meth : Method} {c : Code} {D : va_G} {t : gT} {ad z : Nat → Nat} (C : gC p s m args meth c cX9_lost 9 "NineKeysRound" D t shX ad z) (hr : meth.sig.returnType = some .int) {r : Int32 × gS} : ∀ (n : Nat) (x3 : Int32) (x4 : Int32) (x7 : Int32) (x8 : Int32) (σ : gS) (H : Heap) (locs : List Loc) (ls : Array Slot), f_X9_lost_93 n x3 x4 x7 x8 σ = some r → gI shX t ad D s.heap σ H locs → lv_has ls 9 [(0, .ref (ad 0)), (3, .int x3), (4, .int x4), (7, .int x7), (8, .int x8)] → W p l e (gR 7 197) s m args below meth c H locs 0 0 (MQ below (gQi shX t ad D r.1 r.2) args s 0 0 (gA shX ad)) (F0 m 93 ls []) := by
  have hx := C.1
  have hb := C.2.1
  intro n
  induction n with
  | zero =>
    intro x3 x4 x7 x8 σ H locs ls  h
    exact absurd h (by simp [f_X9_lost_93])
  | succ n ih =>
    intro x3 x4 x7 x8 σ H locs ls  h hI hl
    unfold f_X9_lost_93 at h
    refine lv_iload hx hb dX9_lost_93 (lv_at hl 4 rfl) ?_
    refine lv_aload_n hx hb dX9_lost_95 rfl (lv_at hl 0 rfl) ?_
    refine fr_261 C hI shX_0 rfl dX9_lost_96 ?_
    refine fg_37 C hI shX_1 rfl dX9_lost_99 ?_
    refine hicmp_ge (tgt := 125) C dX9_lost_102 (by decide) h (fun h => ?_) (fun h => ?_)
    · refine lv_iload hx hb dX9_lost_125 (lv_at hl 3 rfl) ?_
      exact h_iret_w C hr hI h dX9_lost_127
    · refine lv_iload hx hb dX9_lost_105 (lv_at hl 3 rfl) ?_
      refine lv_aload_n hx hb dX9_lost_107 rfl (lv_at hl 0 rfl) ?_
      refine lv_iload hx hb dX9_lost_108 (lv_at hl 4 rfl) ?_
      refine lv_iload_n hx hb dX9_lost_110 rfl (lv_at hl 1 rfl) ?_
      refine lv_iload hx hb dX9_lost_111 (lv_at hl 2 rfl) ?_
      refine h_callvi_w (rest := [.int x7]) C hI hl.1 shX_0 rfl yv_X9_lostAt k_616 h (fun q hq => c_X9_lostAt l D t ad z C.2.2.2.2.2.2.1 (σ) x8 x3 x4 q hq) (As := [.int x8, .int x3, .int x4]) rfl rfl ⟨Nat.le_of_ble_eq_true rfl, Nat.le_of_ble_eq_true rfl⟩ (Nat.le_of_ble_eq_true rfl) dX9_lost_113 (fun q1 H locs h hI => ?_)
      refine lv_iadd hx hb dX9_lost_116 ?_
      refine gx_topi h (fun v2 h => ?_)
      refine lv_istore (lv' := [(7, .int v2), (0, .ref (ad 0)), (3, .int x3), (4, .int x4), (8, .int x8)]) hx hb dX9_lost_117 hl (by decide) rfl (fun ls hl => ?_)
      refine h_iinc C hl dX9_lost_119 4 rfl ci_1 h (by decide) (lvf := fun v3 => [(8, .int v3), (7, .int v2), (0, .ref (ad 0)), (3, .int x3), (4, .int x4)]) (fun _ => rfl) (fun v3 ls h hl => ?_)
      refine lv_goto (tgt := 93) hx hb dX9_lost_122 (by decide) ?_
      exact ih _ _ _ _ _ _ _ _  h hI (lv_sub hl [2, 3, 4, 1, 0] rfl)
set_option maxRecDepth 100000 in
set_option maxHeartbeats 4000000 in
theorem w_X9_lost_35 {p : Program} {l : Launch} {e : Env} {s : State} {m : MethodId} {args : Array Value} {below : List Frame} {meth : Method} {c : Code} {D : va_G} {t : gT} {ad z : Nat → Nat} (C : gC p s m args meth c cX9_lost 9 "NineKeysRound" D t shX ad z) (hr : meth.sig.returnType = some .int) {r : Int32 × gS} : ∀ (x1 : Int32) (x2 : Int32) (x3 : Int32) (x4 : Int32) (x5 : Int32) (σ : gS) (H : Heap) (locs : List Loc) (ls : Array Slot), f_X9_lost_35 x1 x2 x3 x4 x5 σ = some r → gI shX t ad D s.heap σ H locs → lv_has ls 9 [(0, .ref (ad 0)), (1, .int x1), (2, .int x2), (3, .int x3), (4, .int x4), (5, .int x5)] → W p l e (gR 7 197) s m args below meth c H locs 0 0 (MQ below (gQi shX t ad D r.1 r.2) args s 0 0 (gA shX ad)) (F0 m 35 ls []) := by
  have hx := C.1
  have hb := C.2.1
  intro x1 x2 x3 x4 x5 σ H locs ls  h hI hl
  unfold f_X9_lost_35 at h
  refine lv_iload_n hx hb dX9_lost_35 rfl (lv_at hl 3 rfl) ?_
  refine h_callsi_o (rest := []) C hI hl.1 ys_X9_isMinute k_563 h (fun q hq => c_X9_isMinute l D t ad z C.2.2.2.2.2.2.1 (σ) x3 q hq) (As := [.int x3]) rfl rfl ⟨Nat.le_of_ble_eq_true rfl, Nat.le_of_ble_eq_true rfl⟩ (Nat.le_of_ble_eq_true rfl) dX9_lost_36 (fun q1 H locs h hI => ?_)
  refine hif_eq (tgt := 56) C dX9_lost_39 (by decide) h (fun h => ?_) (fun h => ?_)
  · refine lv_iconst hx hb dX9_lost_56 ci_m1 ?_
    exact h_iret_w C hr hI h dX9_lost_57
  · refine lv_iload hx hb dX9_lost_42 (lv_at hl 4 rfl) ?_
    refine h_callsi_o (rest := []) C hI hl.1 ys_X9_isMinute k_563 h (fun q hq => c_X9_isMinute l D t ad z C.2.2.2.2.2.2.1 (σ) x4 q hq) (As := [.int x4]) rfl rfl ⟨Nat.le_of_ble_eq_true rfl, Nat.le_of_ble_eq_true rfl⟩ (Nat.le_of_ble_eq_true rfl) dX9_lost_44 (fun q2 H locs h hI => ?_)
    refine hif_eq (tgt := 56) C dX9_lost_47 (by decide) h (fun h => ?_) (fun h => ?_)
    · refine lv_iconst hx hb dX9_lost_56 ci_m1 ?_
      exact h_iret_w C hr hI h dX9_lost_57
    · refine lv_iload hx hb dX9_lost_50 (lv_at hl 4 rfl) ?_
      refine lv_iload_n hx hb dX9_lost_52 rfl (lv_at hl 3 rfl) ?_
      refine hicmp_ge (tgt := 58) C dX9_lost_53 (by decide) h (fun h => ?_) (fun h => ?_)
      · refine lv_aload_n hx hb dX9_lost_58 rfl (lv_at hl 0 rfl) ?_
        refine lv_iload_n hx hb dX9_lost_59 rfl (lv_at hl 1 rfl) ?_
        refine h_callvi_w (rest := []) C hI hl.1 shX_0 rfl yv_X9_layForth k_521 h (fun q hq => c_X9_layForth l D t ad z C.2.2.2.2.2.2.1 (σ) x1 q hq) (As := [.int x1]) rfl rfl ⟨Nat.le_of_ble_eq_true rfl, Nat.le_of_ble_eq_true rfl⟩ (Nat.le_of_ble_eq_true rfl) dX9_lost_60 (fun q3 H locs h hI => ?_)
        refine lv_istore (lv' := [(6, .int q3.1), (0, .ref (ad 0)), (1, .int x1), (2, .int x2), (3, .int x3), (4, .int x4), (5, .int x5)]) hx hb dX9_lost_63 hl (by decide) rfl (fun ls hl => ?_)
        refine lv_iload hx hb dX9_lost_65 (lv_at hl 0 rfl) ?_
        refine hif_ge (tgt := 73) C dX9_lost_67 (by decide) h (fun h => ?_) (fun h => ?_)
        · refine lv_iload hx hb dX9_lost_73 (lv_at hl 6 rfl) ?_
          refine hif_ne (tgt := 87) C dX9_lost_75 (by decide) h (fun h => ?_) (fun h => ?_)
          · refine lv_iconst hx hb dX9_lost_87 ci_0 ?_
            refine lv_istore (lv' := [(7, .int 0), (6, .int q3.1), (0, .ref (ad 0)), (1, .int x1), (2, .int x2), (3, .int x3), (4, .int x4), (5, .int x5)]) hx hb dX9_lost_88 hl (by decide) rfl (fun ls hl => ?_)
            refine lv_iconst hx hb dX9_lost_90 ci_0 ?_
            refine lv_istore (lv' := [(8, .int 0), (7, .int 0), (6, .int q3.1), (0, .ref (ad 0)), (1, .int x1), (2, .int x2), (3, .int x3), (4, .int x4), (5, .int x5)]) hx hb dX9_lost_91 hl (by decide) rfl (fun ls hl => ?_)
            exact w_X9_lost_93 C hr    _ _ _ _ _ _ _ _ _  h hI (lv_sub hl [3, 6, 7, 1, 0] rfl)
          · refine lv_aload_n hx hb dX9_lost_78 rfl (lv_at hl 1 rfl) ?_
            refine lv_iload_n hx hb dX9_lost_79 rfl (lv_at hl 3 rfl) ?_
            refine lv_iload_n hx hb dX9_lost_80 rfl (lv_at hl 4 rfl) ?_
            refine lv_iload hx hb dX9_lost_81 (lv_at hl 5 rfl) ?_
            refine h_callvi_w (rest := []) C hI hl.1 shX_0 rfl yv_X9_lostAt k_616 h (fun q hq => c_X9_lostAt l D t ad z C.2.2.2.2.2.2.1 q3.2 x2 x3 x4 q hq) (As := [.int x2, .int x3, .int x4]) rfl rfl ⟨Nat.le_of_ble_eq_true rfl, Nat.le_of_ble_eq_true rfl⟩ (Nat.le_of_ble_eq_true rfl) dX9_lost_83 (fun q4 H locs h hI => ?_)
            exact h_iret_w C hr hI h dX9_lost_86
        · refine lv_iload hx hb dX9_lost_70 (lv_at hl 0 rfl) ?_
          exact h_iret_w C hr hI h dX9_lost_72
      · refine lv_iconst hx hb dX9_lost_56 ci_m1 ?_
        exact h_iret_w C hr hI h dX9_lost_57
set_option maxRecDepth 100000 in
set_option maxHeartbeats 4000000 in
theorem w_X9_lost_10 {p : Program} {l : Launch} {e : Env} {s : State} {m : MethodId} {args : Array Value} {below : List Frame} {meth : Method} {c : Code} {D : va_G} {t : gT} {ad z : Nat → Nat} (C : gC p s m args meth c cX9_lost 9 "NineKeysRound" D t shX ad z) (hr : meth.sig.returnType = some .int) {r : Int32 × gS} : ∀ (x1 : Int32) (x2 : Int32) (x3 : Int32) (x4 : Int32) (s0 : Int32) (σ : gS) (H : Heap) (locs : List Loc) (ls : Array Slot), f_X9_lost_10 x1 x2 x3 x4 s0 σ = some r → gI shX t ad D s.heap σ H locs → lv_has ls 9 [(0, .ref (ad 0)), (1, .int x1), (2, .int x2), (3, .int x3), (4, .int x4)] → W p l e (gR 7 197) s m args below meth c H locs 0 0 (MQ below (gQi shX t ad D r.1 r.2) args s 0 0 (gA shX ad)) (F0 m 10 ls [.int s0]) := by
  have hx := C.1
  have hb := C.2.1
  intro x1 x2 x3 x4 s0 σ H locs ls  h hI hl
  unfold f_X9_lost_10 at h
  refine lv_istore (lv' := [(5, .int s0), (0, .ref (ad 0)), (1, .int x1), (2, .int x2), (3, .int x3), (4, .int x4)]) hx hb dX9_lost_10 hl (by decide) rfl (fun ls hl => ?_)
  refine lv_iload_n hx hb dX9_lost_12 rfl (lv_at hl 2 rfl) ?_
  refine h_callsi_o (rest := []) C hI hl.1 ys_X9_isShelf k_326 h (fun q hq => c_X9_isShelf l D t ad z C.2.2.2.2.2.2.1 (σ) x1 q hq) (As := [.int x1]) rfl rfl ⟨Nat.le_of_ble_eq_true rfl, Nat.le_of_ble_eq_true rfl⟩ (Nat.le_of_ble_eq_true rfl) dX9_lost_13 (fun q1 H locs h hI => ?_)
  refine hif_eq (tgt := 56) C dX9_lost_16 (by decide) h (fun h => ?_) (fun h => ?_)
  · refine lv_iconst hx hb dX9_lost_56 ci_m1 ?_
    exact h_iret_w C hr hI h dX9_lost_57
  · refine lv_iload hx hb dX9_lost_19 (lv_at hl 0 rfl) ?_
    refine hif_ne (tgt := 35) C dX9_lost_21 (by decide) h (fun h => ?_) (fun h => ?_)
    · exact w_X9_lost_35 C hr    _ _ _ _ _ _ _ _ _  h hI (lv_sub hl [1, 2, 3, 4, 5, 0] rfl)
    · refine lv_aload_n hx hb dX9_lost_24 rfl (lv_at hl 1 rfl) ?_
      refine fr_261 C hI shX_0 rfl dX9_lost_25 ?_
      refine lv_iload_n hx hb dX9_lost_28 rfl (lv_at hl 3 rfl) ?_
      refine h_callvi_o (rest := []) C hI hl.1 shX_1 rfl yv_X8_isPost k_370 h (fun q hq => c_X8_isPost l D t ad z C.2.2.2.2.2.2.1 (σ) x2 q hq) (As := [.int x2]) rfl rfl ⟨Nat.le_of_ble_eq_true rfl, Nat.le_of_ble_eq_true rfl⟩ (Nat.le_of_ble_eq_true rfl) dX9_lost_29 (fun q2 H locs h hI => ?_)
      refine hif_eq (tgt := 56) C dX9_lost_32 (by decide) h (fun h => ?_) (fun h => ?_)
      · refine lv_iconst hx hb dX9_lost_56 ci_m1 ?_
        exact h_iret_w C hr hI h dX9_lost_57
      · exact w_X9_lost_35 C hr    _ _ _ _ _ _ _ _ _  h hI (lv_sub hl [1, 2, 3, 4, 5, 0] rfl)
set_option maxRecDepth 100000 in
set_option maxHeartbeats 4000000 in
theorem c_X9_lost (l : Launch) (D : va_G) (t : gT) (ad z : Nat → Nat) (hJ : gJ shX ad) (σ : gS) (x1 : Int32) (x2 : Int32) (x3 : Int32) (x4 : Int32) (q : Int32 × gS) (h : f_X9_lost σ x1 x2 x3 x4 = some q) : Met l yX9_lost (Cond.code yX9_lost cX9_lost 9 (some .int) :: lw_tb) (gR 7 197) (gPc shX t ad D z [.ref (ad 0), .int x1, .int x2, .int x3, .int x4] σ) (gQi shX t ad D q.1 q.2) 0 0 (gA shX ad) := by
  refine gMet "NineKeysRound" rfl (by decide) hJ (Nat.le_of_ble_eq_true rfl) ?_
  intro p e s m below meth c ls C hr hI hl
  have hx := C.1
  have hb := C.2.1
  have hl : lv_has ls 9 [(0, .ref (ad 0)), (1, .int x1), (2, .int x2), (3, .int x3), (4, .int x4)] := hl
  unfold f_X9_lost at h
  refine lv_iload_n hx hb dX9_lost_0 rfl (lv_at hl 2 rfl) ?_
  refine lv_iconst hx hb dX9_lost_1 ci_m1 ?_
  refine hicmp_ne (tgt := 9) C dX9_lost_2 (by decide) h (fun h => ?_) (fun h => ?_)
  · refine lv_iconst hx hb dX9_lost_9 ci_0 ?_
    exact w_X9_lost_10 C hr    _ _ _ _ _ _ _ _ _  h hI (lv_sub hl [0, 1, 2, 3, 4] rfl)
  · refine lv_iconst hx hb dX9_lost_5 ci_1 ?_
    refine lv_goto (tgt := 10) hx hb dX9_lost_6 (by decide) ?_
    exact w_X9_lost_10 C hr    _ _ _ _ _ _ _ _ _  h hI (lv_sub hl [0, 1, 2, 3, 4] rfl)
set_option maxRecDepth 100000 in
set_option maxHeartbeats 4000000 in
theorem c_X9_red (l : Launch) (D : va_G) (t : gT) (ad z : Nat → Nat) (hJ : gJ shX ad) (σ : gS) (x1 : Int32) (x2 : Int32) (q : Int32 × gS) (h : f_X9_red σ x1 x2 = some q) : Met l yX9_red (Cond.code yX9_red cX9_red 4 (some .int) :: lw_tb) (gR 6 171) (gPc shX t ad D z [.ref (ad 0), .int x1, .int x2] σ) (gQi shX t ad D q.1 q.2) 0 0 (gA shX ad) := by
  refine gMet "NineKeysRound" rfl (by decide) hJ (Nat.le_of_ble_eq_true rfl) ?_
  intro p e s m below meth c ls C hr hI hl
  have hx := C.1
  have hb := C.2.1
  have hl : lv_has ls 4 [(0, .ref (ad 0)), (1, .int x1), (2, .int x2)] := hl
  unfold f_X9_red at h
  refine lv_iload_n hx hb dX9_red_0 rfl (lv_at hl 1 rfl) ?_
  refine h_callsi_o (rest := []) C hI hl.1 ys_X9_isShelf k_326 h (fun q hq => c_X9_isShelf l D t ad z C.2.2.2.2.2.2.1 (σ) x1 q hq) (As := [.int x1]) rfl rfl ⟨Nat.le_of_ble_eq_true rfl, Nat.le_of_ble_eq_true rfl⟩ (Nat.le_of_ble_eq_true rfl) dX9_red_1 (fun q1 H locs h hI => ?_)
  refine hif_eq (tgt := 17) C dX9_red_4 (by decide) h (fun h => ?_) (fun h => ?_)
  · refine lv_iconst hx hb dX9_red_17 ci_m1 ?_
    exact h_iret_w C hr hI h dX9_red_18
  · refine lv_iload_n hx hb dX9_red_7 rfl (lv_at hl 2 rfl) ?_
    refine hif_lt (tgt := 17) C dX9_red_8 (by decide) h (fun h => ?_) (fun h => ?_)
    · refine lv_iconst hx hb dX9_red_17 ci_m1 ?_
      exact h_iret_w C hr hI h dX9_red_18
    · refine lv_iload_n hx hb dX9_red_11 rfl (lv_at hl 2 rfl) ?_
      refine lv_bipush hx hb dX9_red_12 cb_15 ?_
      refine hicmp_le (tgt := 19) C dX9_red_14 (by decide) h (fun h => ?_) (fun h => ?_)
      · refine lv_aload_n hx hb dX9_red_19 rfl (lv_at hl 0 rfl) ?_
        refine lv_iload_n hx hb dX9_red_20 rfl (lv_at hl 1 rfl) ?_
        refine h_callvi_w (rest := []) C hI hl.1 shX_0 rfl yv_X9_layForth k_521 h (fun q hq => c_X9_layForth l D t ad z C.2.2.2.2.2.2.1 (σ) x1 q hq) (As := [.int x1]) rfl rfl ⟨Nat.le_of_ble_eq_true rfl, Nat.le_of_ble_eq_true rfl⟩ (Nat.le_of_ble_eq_true rfl) dX9_red_21 (fun q2 H locs h hI => ?_)
        refine lv_istore_n (lv' := [(3, .int q2.1), (0, .ref (ad 0)), (1, .int x1), (2, .int x2)]) hx hb dX9_red_24 rfl hl (by decide) rfl (fun ls hl => ?_)
        refine lv_iload_n hx hb dX9_red_25 rfl (lv_at hl 0 rfl) ?_
        refine hif_ge (tgt := 31) C dX9_red_26 (by decide) h (fun h => ?_) (fun h => ?_)
        · refine lv_aload_n hx hb dX9_red_31 rfl (lv_at hl 1 rfl) ?_
          refine fr_261 C hI shX_0 rfl dX9_red_32 ?_
          refine h_callvi_o (rest := []) C hI hl.1 shX_1 rfl yv_X8_all k_668 h (fun q hq => c_X8_all l D t ad z C.2.2.2.2.2.2.1 q2.2 q hq) (As := []) rfl rfl ⟨Nat.le_of_ble_eq_true rfl, Nat.le_of_ble_eq_true rfl⟩ (Nat.le_of_ble_eq_true rfl) dX9_red_35 (fun q3 H locs h hI => ?_)
          refine lv_aload_n hx hb dX9_red_38 rfl (lv_at hl 1 rfl) ?_
          refine fr_265 C hI shX_0 rfl dX9_red_39 ?_
          refine lv_bipush hx hb dX9_red_42 cb_60 ?_
          refine lv_iload_n hx hb dX9_red_44 rfl (lv_at hl 3 rfl) ?_
          refine lv_imul hx hb dX9_red_45 ?_
          refine lv_bipush hx hb dX9_red_46 cb_60 ?_
          refine lv_iload_n hx hb dX9_red_48 rfl (lv_at hl 3 rfl) ?_
          refine lv_imul hx hb dX9_red_49 ?_
          refine lv_bipush hx hb dX9_red_50 cb_59 ?_
          refine lv_iadd hx hb dX9_red_52 ?_
          refine h_callvi_o (rest := [.int q3]) C hI hl.1 shX_26 rfl yv_X1_dentedWithin k_672 h (fun q hq => c_X1_dentedWithin l D t ad z C.2.2.2.2.2.2.1 26 shX_26 shX_27 shX_28 q2.2 (60 * x2) ((60 * x2) + 59) q hq) (As := [.int (60 * x2), .int ((60 * x2) + 59)]) rfl rfl ⟨Nat.le_of_ble_eq_true rfl, Nat.le_of_ble_eq_true rfl⟩ (Nat.le_of_ble_eq_true rfl) dX9_red_53 (fun q4 H locs h hI => ?_)
          refine lv_iconst hx hb dX9_red_56 ci_m1 ?_
          refine lv_ixor hx hb dX9_red_57 ?_
          refine lv_iand hx hb dX9_red_58 ?_
          exact h_iret_w C hr hI h dX9_red_59
        · refine lv_iload_n hx hb dX9_red_29 rfl (lv_at hl 0 rfl) ?_
          exact h_iret_w C hr hI h dX9_red_30
      · refine lv_iconst hx hb dX9_red_17 ci_m1 ?_
        exact h_iret_w C hr hI h dX9_red_18
set_option maxRecDepth 100000 in
set_option maxHeartbeats 4000000 in
theorem c_X9_gap (l : Launch) (D : va_G) (t : gT) (ad z : Nat → Nat) (hJ : gJ shX ad) (σ : gS) (x1 : Int32) (x2 : Int32) (q : Int32 × gS) (h : f_X9_gap σ x1 x2 = some q) : Met l yX9_gap (Cond.code yX9_gap cX9_gap 4 (some .int) :: lw_tb) (gR 6 171) (gPc shX t ad D z [.ref (ad 0), .int x1, .int x2] σ) (gQi shX t ad D q.1 q.2) 0 0 (gA shX ad) := by
  refine gMet "NineKeysRound" rfl (by decide) hJ (Nat.le_of_ble_eq_true rfl) ?_
  intro p e s m below meth c ls C hr hI hl
  have hx := C.1
  have hb := C.2.1
  have hl : lv_has ls 4 [(0, .ref (ad 0)), (1, .int x1), (2, .int x2)] := hl
  unfold f_X9_gap at h
  refine lv_iload_n hx hb dX9_gap_0 rfl (lv_at hl 1 rfl) ?_
  refine h_callsi_o (rest := []) C hI hl.1 ys_X9_isShelf k_326 h (fun q hq => c_X9_isShelf l D t ad z C.2.2.2.2.2.2.1 (σ) x1 q hq) (As := [.int x1]) rfl rfl ⟨Nat.le_of_ble_eq_true rfl, Nat.le_of_ble_eq_true rfl⟩ (Nat.le_of_ble_eq_true rfl) dX9_gap_1 (fun q1 H locs h hI => ?_)
  refine hif_eq (tgt := 18) C dX9_gap_4 (by decide) h (fun h => ?_) (fun h => ?_)
  · refine lv_iconst hx hb dX9_gap_18 ci_m1 ?_
    exact h_iret_w C hr hI h dX9_gap_19
  · refine lv_aload_n hx hb dX9_gap_7 rfl (lv_at hl 0 rfl) ?_
    refine fr_261 C hI shX_0 rfl dX9_gap_8 ?_
    refine lv_iload_n hx hb dX9_gap_11 rfl (lv_at hl 2 rfl) ?_
    refine h_callvi_o (rest := []) C hI hl.1 shX_1 rfl yv_X8_isPost k_370 h (fun q hq => c_X8_isPost l D t ad z C.2.2.2.2.2.2.1 (σ) x2 q hq) (As := [.int x2]) rfl rfl ⟨Nat.le_of_ble_eq_true rfl, Nat.le_of_ble_eq_true rfl⟩ (Nat.le_of_ble_eq_true rfl) dX9_gap_12 (fun q2 H locs h hI => ?_)
    refine hif_ne (tgt := 20) C dX9_gap_15 (by decide) h (fun h => ?_) (fun h => ?_)
    · refine lv_aload_n hx hb dX9_gap_20 rfl (lv_at hl 0 rfl) ?_
      refine lv_iload_n hx hb dX9_gap_21 rfl (lv_at hl 1 rfl) ?_
      refine h_callvi_w (rest := []) C hI hl.1 shX_0 rfl yv_X9_layForth k_521 h (fun q hq => c_X9_layForth l D t ad z C.2.2.2.2.2.2.1 (σ) x1 q hq) (As := [.int x1]) rfl rfl ⟨Nat.le_of_ble_eq_true rfl, Nat.le_of_ble_eq_true rfl⟩ (Nat.le_of_ble_eq_true rfl) dX9_gap_22 (fun q3 H locs h hI => ?_)
      refine lv_istore_n (lv' := [(3, .int q3.1), (0, .ref (ad 0)), (1, .int x1), (2, .int x2)]) hx hb dX9_gap_25 rfl hl (by decide) rfl (fun ls hl => ?_)
      refine lv_iload_n hx hb dX9_gap_26 rfl (lv_at hl 0 rfl) ?_
      refine hif_ge (tgt := 34) C dX9_gap_27 (by decide) h (fun h => ?_) (fun h => ?_)
      · refine lv_aload_n hx hb dX9_gap_34 rfl (lv_at hl 1 rfl) ?_
        refine fr_265 C hI shX_0 rfl dX9_gap_35 ?_
        refine lv_iload_n hx hb dX9_gap_38 rfl (lv_at hl 3 rfl) ?_
        refine h_callvi_o (rest := []) C hI hl.1 shX_26 rfl yv_X1_longestGapOf k_681 h (fun q hq => c_X1_longestGapOf l D t ad z C.2.2.2.2.2.2.1 26 shX_26 shX_27 shX_28 q3.2 x2 q hq) (As := [.int x2]) rfl rfl ⟨Nat.le_of_ble_eq_true rfl, Nat.le_of_ble_eq_true rfl⟩ (Nat.le_of_ble_eq_true rfl) dX9_gap_39 (fun q4 H locs h hI => ?_)
        exact h_iret_w C hr hI h dX9_gap_42
      · refine lv_iload_n hx hb dX9_gap_30 rfl (lv_at hl 0 rfl) ?_
        refine lv_goto (tgt := 42) hx hb dX9_gap_31 (by decide) ?_
        exact h_iret_w C hr hI h dX9_gap_42
    · refine lv_iconst hx hb dX9_gap_18 ci_m1 ?_
      exact h_iret_w C hr hI h dX9_gap_19
set_option maxRecDepth 100000 in
set_option maxHeartbeats 4000000 in
theorem w_X9_late_71 {p : Program} {l : Launch} {e : Env} {s : State} {m : MethodId} {args : Array Value} {below : List Frame} {meth : Method} {c : Code} {D : va_G} {t : gT} {ad z : Nat → Nat} (C : gC p s m args meth c cX9_late 6 "NineKeysRound" D t shX ad z) (hr : meth.sig.returnType = some .int) {r : Int32 × gS} (K_26 : Int32 → Int32 → gS → Option (Int32 × gS)) (hK_26 : ∀ (x3 : Int32) (x4 : Int32) (σ : gS) (H : Heap) (locs : List Loc) (ls : Array Slot), K_26 x3 x4 σ = some r → gI shX t ad D s.heap σ H locs → lv_has ls 6 [(0, .ref (ad 0)), (3, .int x3), (4, .int x4)] → W p l e (gR 6 171) s m args below meth c H locs 0 0 (MQ below (gQi shX t ad D r.1 r.2) args s 0 0 (gA shX ad)) (F0 m 26 ls [])) : ∀ (x3 : Int32) (x4 : Int32) (σ : gS) (H : Heap) (locs : List Loc) (ls : Array Slot), f_X9_late_71 K_26 x3 x4 σ = some r → gI shX t ad D s.heap σ H locs → lv_has ls 6 [(0, .ref (ad 0)), (3, .int x3), (4, .int x4)] → W p l e (gR 6 171) s m args below meth c H locs 0 0 (MQ below (gQi shX t ad D r.1 r.2) args s 0 0 (gA shX ad)) (F0 m 71 ls []) := by
  have hx := C.1
  have hb := C.2.1
  intro x3 x4 σ H locs ls  h hI hl
  unfold f_X9_late_71 at h
  refine lv_iload_n hx hb dX9_late_71 rfl (lv_at hl 1 rfl) ?_
  refine lv_iconst hx hb dX9_late_72 ci_1 ?_
  refine lv_iload hx hb dX9_late_73 (lv_at hl 2 rfl) ?_
  refine lv_ishl hx hb dX9_late_75 ?_
  refine lv_ior hx hb dX9_late_76 ?_
  refine gx_topi h (fun v1 h => ?_)
  refine lv_istore_n (lv' := [(3, .int v1), (0, .ref (ad 0)), (4, .int x4)]) hx hb dX9_late_77 rfl hl (by decide) rfl (fun ls hl => ?_)
  refine h_iinc C hl dX9_late_78 2 rfl ci_1 h (by decide) (lvf := fun v2 => [(4, .int v2), (3, .int v1), (0, .ref (ad 0))]) (fun _ => rfl) (fun v2 ls h hl => ?_)
  refine lv_goto (tgt := 26) hx hb dX9_late_81 (by decide) ?_
  exact hK_26 _ _ _ _ _ _  h hI (lv_sub hl [2, 1, 0] rfl)
set_option maxRecDepth 100000 in
set_option maxHeartbeats 4000000 in
theorem w_X9_late_26 {p : Program} {l : Launch} {e : Env} {s : State} {m : MethodId} {args : Array Value} {below : List Frame} {meth : Method} {c : Code} {D : va_G} {t : gT} {ad z : Nat → Nat} (C : gC p s m args meth c cX9_late 6 "NineKeysRound" D t shX ad z) (hr : meth.sig.returnType = some .int) {r : Int32 × gS} : ∀ (n : Nat) (x3 : Int32) (x4 : Int32) (σ : gS) (H : Heap) (locs : List Loc) (ls : Array Slot), f_X9_late_26 n x3 x4 σ = some r → gI shX t ad D s.heap σ H locs → lv_has ls 6 [(0, .ref (ad 0)), (3, .int x3), (4, .int x4)] → W p l e (gR 6 171) s m args below meth c H locs 0 0 (MQ below (gQi shX t ad D r.1 r.2) args s 0 0 (gA shX ad)) (F0 m 26 ls []) := by
  have hx := C.1
  have hb := C.2.1
  intro n
  induction n with
  | zero =>
    intro x3 x4 σ H locs ls  h
    exact absurd h (by simp [f_X9_late_26])
  | succ n ih =>
    intro x3 x4 σ H locs ls  h hI hl
    unfold f_X9_late_26 at h
    refine lv_iload hx hb dX9_late_26 (lv_at hl 2 rfl) ?_
    refine lv_aload_n hx hb dX9_late_28 rfl (lv_at hl 0 rfl) ?_
    refine fr_261 C hI shX_0 rfl dX9_late_29 ?_
    refine fg_37 C hI shX_1 rfl dX9_late_32 ?_
    refine hicmp_ge (tgt := 84) C dX9_late_35 (by decide) h (fun h => ?_) (fun h => ?_)
    · refine lv_iload_n hx hb dX9_late_84 rfl (lv_at hl 1 rfl) ?_
      exact h_iret_w C hr hI h dX9_late_85
    · refine lv_aload_n hx hb dX9_late_38 rfl (lv_at hl 0 rfl) ?_
      refine fr_265 C hI shX_0 rfl dX9_late_39 ?_
      refine lv_iload hx hb dX9_late_42 (lv_at hl 2 rfl) ?_
      refine h_callvi_o (rest := []) C hI hl.1 shX_26 rfl yv_X1_longestGapOf k_681 h (fun q hq => c_X1_longestGapOf l D t ad z C.2.2.2.2.2.2.1 26 shX_26 shX_27 shX_28 (σ) x4 q hq) (As := [.int x4]) rfl rfl ⟨Nat.le_of_ble_eq_true rfl, Nat.le_of_ble_eq_true rfl⟩ (Nat.le_of_ble_eq_true rfl) dX9_late_44 (fun q1 H locs h hI => ?_)
      refine lv_istore (lv' := [(5, .int q1), (0, .ref (ad 0)), (3, .int x3), (4, .int x4)]) hx hb dX9_late_47 hl (by decide) rfl (fun ls hl => ?_)
      refine lv_iload hx hb dX9_late_49 (lv_at hl 0 rfl) ?_
      refine lv_bipush hx hb dX9_late_51 cb_m2 ?_
      refine hicmp_eq (tgt := 71) C dX9_late_53 (by decide) h (fun h => ?_) (fun h => ?_)
      · exact w_X9_late_71 C hr   _ ih _ _ _ _ _ _  h hI (lv_sub hl [1, 2, 3] rfl)
      · refine lv_iload hx hb dX9_late_56 (lv_at hl 0 rfl) ?_
        refine lv_aload_n hx hb dX9_late_58 rfl (lv_at hl 1 rfl) ?_
        refine fr_261 C hI shX_0 rfl dX9_late_59 ?_
        refine lv_iload hx hb dX9_late_62 (lv_at hl 3 rfl) ?_
        refine lv_iconst hx hb dX9_late_64 ci_3 ?_
        refine h_callvi_o (rest := [.int q1]) C hI hl.1 shX_1 rfl yv_X8_numberOf k_620 h (fun q hq => c_X8_numberOf l D t ad z C.2.2.2.2.2.2.1 (σ) x4 3 q hq) (As := [.int x4, .int 3]) rfl rfl ⟨Nat.le_of_ble_eq_true rfl, Nat.le_of_ble_eq_true rfl⟩ (Nat.le_of_ble_eq_true rfl) dX9_late_65 (fun q2 H locs h hI => ?_)
        refine hicmp_le (tgt := 78) C dX9_late_68 (by decide) h (fun h => ?_) (fun h => ?_)
        · refine h_iinc C hl dX9_late_78 3 rfl ci_1 h (by decide) (lvf := fun v3 => [(4, .int v3), (5, .int q1), (0, .ref (ad 0)), (3, .int x3)]) (fun _ => rfl) (fun v3 ls h hl => ?_)
          refine lv_goto (tgt := 26) hx hb dX9_late_81 (by decide) ?_
          exact ih _ _ _ _ _ _  h hI (lv_sub hl [2, 3, 0] rfl)
        · exact w_X9_late_71 C hr   _ ih _ _ _ _ _ _  h hI (lv_sub hl [1, 2, 3] rfl)
set_option maxRecDepth 100000 in
set_option maxHeartbeats 4000000 in
theorem c_X9_late (l : Launch) (D : va_G) (t : gT) (ad z : Nat → Nat) (hJ : gJ shX ad) (σ : gS) (x1 : Int32) (q : Int32 × gS) (h : f_X9_late σ x1 = some q) : Met l yX9_late (Cond.code yX9_late cX9_late 6 (some .int) :: lw_tb) (gR 6 171) (gPc shX t ad D z [.ref (ad 0), .int x1] σ) (gQi shX t ad D q.1 q.2) 0 0 (gA shX ad) := by
  refine gMet "NineKeysRound" rfl (by decide) hJ (Nat.le_of_ble_eq_true rfl) ?_
  intro p e s m below meth c ls C hr hI hl
  have hx := C.1
  have hb := C.2.1
  have hl : lv_has ls 6 [(0, .ref (ad 0)), (1, .int x1)] := hl
  unfold f_X9_late at h
  refine lv_iload_n hx hb dX9_late_0 rfl (lv_at hl 1 rfl) ?_
  refine h_callsi_o (rest := []) C hI hl.1 ys_X9_isShelf k_326 h (fun q hq => c_X9_isShelf l D t ad z C.2.2.2.2.2.2.1 (σ) x1 q hq) (As := [.int x1]) rfl rfl ⟨Nat.le_of_ble_eq_true rfl, Nat.le_of_ble_eq_true rfl⟩ (Nat.le_of_ble_eq_true rfl) dX9_late_1 (fun q1 H locs h hI => ?_)
  refine hif_ne (tgt := 9) C dX9_late_4 (by decide) h (fun h => ?_) (fun h => ?_)
  · refine lv_aload_n hx hb dX9_late_9 rfl (lv_at hl 0 rfl) ?_
    refine lv_iload_n hx hb dX9_late_10 rfl (lv_at hl 1 rfl) ?_
    refine h_callvi_w (rest := []) C hI hl.1 shX_0 rfl yv_X9_layForth k_521 h (fun q hq => c_X9_layForth l D t ad z C.2.2.2.2.2.2.1 (σ) x1 q hq) (As := [.int x1]) rfl rfl ⟨Nat.le_of_ble_eq_true rfl, Nat.le_of_ble_eq_true rfl⟩ (Nat.le_of_ble_eq_true rfl) dX9_late_11 (fun q2 H locs h hI => ?_)
    refine lv_istore_n (lv' := [(2, .int q2.1), (0, .ref (ad 0)), (1, .int x1)]) hx hb dX9_late_14 rfl hl (by decide) rfl (fun ls hl => ?_)
    refine lv_iload_n hx hb dX9_late_15 rfl (lv_at hl 0 rfl) ?_
    refine hif_ge (tgt := 21) C dX9_late_16 (by decide) h (fun h => ?_) (fun h => ?_)
    · refine lv_iconst hx hb dX9_late_21 ci_0 ?_
      refine lv_istore_n (lv' := [(3, .int 0), (2, .int q2.1), (0, .ref (ad 0)), (1, .int x1)]) hx hb dX9_late_22 rfl hl (by decide) rfl (fun ls hl => ?_)
      refine lv_iconst hx hb dX9_late_23 ci_0 ?_
      refine lv_istore (lv' := [(4, .int 0), (3, .int 0), (2, .int q2.1), (0, .ref (ad 0)), (1, .int x1)]) hx hb dX9_late_24 hl (by decide) rfl (fun ls hl => ?_)
      exact w_X9_late_26 C hr    _ _ _ _ _ _ _  h hI (lv_sub hl [3, 1, 0] rfl)
    · refine lv_iload_n hx hb dX9_late_19 rfl (lv_at hl 0 rfl) ?_
      exact h_iret_w C hr hI h dX9_late_20
  · refine lv_iconst hx hb dX9_late_7 ci_m1 ?_
    exact h_iret_w C hr hI h dX9_late_8
set_option maxRecDepth 100000 in
set_option maxHeartbeats 4000000 in
theorem c_J6_bitCount_0f7a4 (l : Launch) (D : va_G) (t : gT) (ad z : Nat → Nat) {sh : List gKd} (hJ : gJ sh ad) (σ : gS) (x0 : Int32) (q : Int32) (h : f_J6_bitCount_0f7a4 σ x0 = some q) : Met l yJ6_bitCount_0f7a4 (Cond.code yJ6_bitCount_0f7a4 cJ6_bitCount_0f7a4 1 (some .int) :: lw_tb) (gR 1 60) (gPc sh t ad D z [.int x0] σ) (gQi sh t ad D q σ) 0 0 (gA sh ad) := by
  refine gMet "java/lang/Integer" rfl (by decide) hJ (Nat.le_of_ble_eq_true rfl) ?_
  intro p e s m below meth c ls C hr hI hl
  have hx := C.1
  have hb := C.2.1
  have hl : lv_has ls 1 [(0, .int x0)] := hl
  unfold f_J6_bitCount_0f7a4 at h
  refine lv_iload_n hx hb dJ6_bitCount_0f7a4_0 rfl (lv_at hl 0 rfl) ?_
  refine lv_iload_n hx hb dJ6_bitCount_0f7a4_1 rfl (lv_at hl 0 rfl) ?_
  refine lv_iconst hx hb dJ6_bitCount_0f7a4_2 ci_1 ?_
  refine lv_iushr (v := jushr x0 1) hx hb dJ6_bitCount_0f7a4_3 rfl ?_
  refine lv_ldcw hx hb C.2.2.2.1 (C.2.2.2.2.1 _ k_706) dJ6_bitCount_0f7a4_4 ?_
  refine lv_iand hx hb dJ6_bitCount_0f7a4_7 ?_
  refine lv_isub hx hb dJ6_bitCount_0f7a4_8 ?_
  refine gx_topi h (fun v1 h => ?_)
  refine lv_istore_n (lv' := [(0, .int v1)]) hx hb dJ6_bitCount_0f7a4_9 rfl hl (by decide) rfl (fun ls hl => ?_)
  refine lv_iload_n hx hb dJ6_bitCount_0f7a4_10 rfl (lv_at hl 0 rfl) ?_
  refine lv_ldcw hx hb C.2.2.2.1 (C.2.2.2.2.1 _ k_707) dJ6_bitCount_0f7a4_11 ?_
  refine lv_iand hx hb dJ6_bitCount_0f7a4_14 ?_
  refine lv_iload_n hx hb dJ6_bitCount_0f7a4_15 rfl (lv_at hl 0 rfl) ?_
  refine lv_iconst hx hb dJ6_bitCount_0f7a4_16 ci_2 ?_
  refine lv_iushr (v := jushr v1 2) hx hb dJ6_bitCount_0f7a4_17 rfl ?_
  refine lv_ldcw hx hb C.2.2.2.1 (C.2.2.2.2.1 _ k_707) dJ6_bitCount_0f7a4_18 ?_
  refine lv_iand hx hb dJ6_bitCount_0f7a4_21 ?_
  refine lv_iadd hx hb dJ6_bitCount_0f7a4_22 ?_
  refine gx_topi h (fun v2 h => ?_)
  refine lv_istore_n (lv' := [(0, .int v2)]) hx hb dJ6_bitCount_0f7a4_23 rfl hl (by decide) rfl (fun ls hl => ?_)
  refine lv_iload_n hx hb dJ6_bitCount_0f7a4_24 rfl (lv_at hl 0 rfl) ?_
  refine lv_iload_n hx hb dJ6_bitCount_0f7a4_25 rfl (lv_at hl 0 rfl) ?_
  refine lv_iconst hx hb dJ6_bitCount_0f7a4_26 ci_4 ?_
  refine lv_iushr (v := jushr v2 4) hx hb dJ6_bitCount_0f7a4_27 rfl ?_
  refine lv_iadd hx hb dJ6_bitCount_0f7a4_28 ?_
  refine lv_ldcw hx hb C.2.2.2.1 (C.2.2.2.2.1 _ k_708) dJ6_bitCount_0f7a4_29 ?_
  refine lv_iand hx hb dJ6_bitCount_0f7a4_32 ?_
  refine gx_topi h (fun v3 h => ?_)
  refine lv_istore_n (lv' := [(0, .int v3)]) hx hb dJ6_bitCount_0f7a4_33 rfl hl (by decide) rfl (fun ls hl => ?_)
  refine lv_iload_n hx hb dJ6_bitCount_0f7a4_34 rfl (lv_at hl 0 rfl) ?_
  refine lv_iload_n hx hb dJ6_bitCount_0f7a4_35 rfl (lv_at hl 0 rfl) ?_
  refine lv_bipush hx hb dJ6_bitCount_0f7a4_36 cb_8 ?_
  refine lv_iushr (v := jushr v3 8) hx hb dJ6_bitCount_0f7a4_38 rfl ?_
  refine lv_iadd hx hb dJ6_bitCount_0f7a4_39 ?_
  refine gx_topi h (fun v4 h => ?_)
  refine lv_istore_n (lv' := [(0, .int v4)]) hx hb dJ6_bitCount_0f7a4_40 rfl hl (by decide) rfl (fun ls hl => ?_)
  refine lv_iload_n hx hb dJ6_bitCount_0f7a4_41 rfl (lv_at hl 0 rfl) ?_
  refine lv_iload_n hx hb dJ6_bitCount_0f7a4_42 rfl (lv_at hl 0 rfl) ?_
  refine lv_bipush hx hb dJ6_bitCount_0f7a4_43 cb_16 ?_
  refine lv_iushr (v := jushr v4 16) hx hb dJ6_bitCount_0f7a4_45 rfl ?_
  refine lv_iadd hx hb dJ6_bitCount_0f7a4_46 ?_
  refine gx_topi h (fun v5 h => ?_)
  refine lv_istore_n (lv' := [(0, .int v5)]) hx hb dJ6_bitCount_0f7a4_47 rfl hl (by decide) rfl (fun ls hl => ?_)
  refine lv_iload_n hx hb dJ6_bitCount_0f7a4_48 rfl (lv_at hl 0 rfl) ?_
  refine lv_bipush hx hb dJ6_bitCount_0f7a4_49 cb_63 ?_
  refine lv_iand hx hb dJ6_bitCount_0f7a4_51 ?_
  exact h_iret_o C hr hI h dJ6_bitCount_0f7a4_52
set_option maxRecDepth 100000 in
set_option maxHeartbeats 4000000 in
theorem c_X9_shortest (l : Launch) (D : va_G) (t : gT) (ad z : Nat → Nat) (hJ : gJ shX ad) (σ : gS) (x1 : Int32) (x2 : Int32) (q : Int32 × gS) (h : f_X9_shortest σ x1 x2 = some q) : Met l yX9_shortest (Cond.code yX9_shortest cX9_shortest 4 (some .int) :: lw_tb) (gR 7 202) (gPc shX t ad D z [.ref (ad 0), .int x1, .int x2] σ) (gQi shX t ad D q.1 q.2) 0 0 (gA shX ad) := by
  refine gMet "NineKeysRound" rfl (by decide) hJ (Nat.le_of_ble_eq_true rfl) ?_
  intro p e s m below meth c ls C hr hI hl
  have hx := C.1
  have hb := C.2.1
  have hl : lv_has ls 4 [(0, .ref (ad 0)), (1, .int x1), (2, .int x2)] := hl
  unfold f_X9_shortest at h
  refine lv_aload_n hx hb dX9_shortest_0 rfl (lv_at hl 0 rfl) ?_
  refine fr_261 C hI shX_0 rfl dX9_shortest_1 ?_
  refine lv_iload_n hx hb dX9_shortest_4 rfl (lv_at hl 1 rfl) ?_
  refine h_callvi_o (rest := []) C hI hl.1 shX_1 rfl yv_X8_isSet k_698 h (fun q hq => c_X8_isSet l D t ad z C.2.2.2.2.2.2.1 (σ) x1 q hq) (As := [.int x1]) rfl rfl ⟨Nat.le_of_ble_eq_true rfl, Nat.le_of_ble_eq_true rfl⟩ (Nat.le_of_ble_eq_true rfl) dX9_shortest_5 (fun q1 H locs h hI => ?_)
  refine hif_eq (tgt := 16) C dX9_shortest_8 (by decide) h (fun h => ?_) (fun h => ?_)
  · refine lv_iconst hx hb dX9_shortest_16 ci_m1 ?_
    exact h_iret_w C hr hI h dX9_shortest_17
  · refine lv_iload_n hx hb dX9_shortest_11 rfl (lv_at hl 2 rfl) ?_
    refine lv_iconst hx hb dX9_shortest_12 ci_m1 ?_
    refine hicmp_ge (tgt := 18) C dX9_shortest_13 (by decide) h (fun h => ?_) (fun h => ?_)
    · refine lv_iload_n hx hb dX9_shortest_18 rfl (lv_at hl 1 rfl) ?_
      refine h_callsi_o (rest := []) C hI hl.1 ys_J6_bitCount_0f7a4 k_703 h (fun q hq => c_J6_bitCount_0f7a4 l D t ad z C.2.2.2.2.2.2.1 (σ) x1 q hq) (As := [.int x1]) rfl rfl ⟨Nat.le_of_ble_eq_true rfl, Nat.le_of_ble_eq_true rfl⟩ (Nat.le_of_ble_eq_true rfl) dX9_shortest_19 (fun q2 H locs h hI => ?_)
      refine lv_bipush hx hb dX9_shortest_22 cb_7 ?_
      refine hicmp_le (tgt := 30) C dX9_shortest_24 (by decide) h (fun h => ?_) (fun h => ?_)
      · refine lv_aload_n hx hb dX9_shortest_30 rfl (lv_at hl 0 rfl) ?_
        refine fr_268 C hI shX_0 rfl dX9_shortest_31 ?_
        refine lv_iload_n hx hb dX9_shortest_34 rfl (lv_at hl 1 rfl) ?_
        refine h_callvi_w (rest := []) C hI hl.1 shX_34 rfl yv_X7_reckon k_709 h (fun q hq => c_X7_reckon l D t ad z C.2.2.2.2.2.2.1 (σ) x1 q hq) (As := [.int x1]) rfl rfl ⟨Nat.le_of_ble_eq_true rfl, Nat.le_of_ble_eq_true rfl⟩ (Nat.le_of_ble_eq_true rfl) dX9_shortest_35 (fun q3 H locs h hI => ?_)
        refine lv_istore_n (lv' := [(3, .int q3.1), (0, .ref (ad 0)), (1, .int x1), (2, .int x2)]) hx hb dX9_shortest_38 rfl hl (by decide) rfl (fun ls hl => ?_)
        refine lv_iload_n hx hb dX9_shortest_39 rfl (lv_at hl 3 rfl) ?_
        refine lv_iconst hx hb dX9_shortest_40 ci_m1 ?_
        refine hicmp_ne (tgt := 46) C dX9_shortest_41 (by decide) h (fun h => ?_) (fun h => ?_)
        · refine lv_iload_n hx hb dX9_shortest_46 rfl (lv_at hl 3 rfl) ?_
          refine lv_aload_n hx hb dX9_shortest_47 rfl (lv_at hl 1 rfl) ?_
          refine fr_268 C hI shX_0 rfl dX9_shortest_48 ?_
          refine fg_163 C hI shX_34 rfl dX9_shortest_51 ?_
          refine hicmp_ge (tgt := 68) C dX9_shortest_54 (by decide) h (fun h => ?_) (fun h => ?_)
          · refine lv_bipush hx hb dX9_shortest_68 cb_m2 ?_
            exact h_iret_w C hr hI h dX9_shortest_70
          · refine lv_aload_n hx hb dX9_shortest_57 rfl (lv_at hl 1 rfl) ?_
            refine fr_268 C hI shX_0 rfl dX9_shortest_58 ?_
            refine lv_iload_n hx hb dX9_shortest_61 rfl (lv_at hl 3 rfl) ?_
            refine h_callvi_o (rest := []) C hI hl.1 shX_34 rfl yv_X7_stopAt k_725 h (fun q hq => c_X7_stopAt l D t ad z C.2.2.2.2.2.2.1 q3.2 x2 q hq) (As := [.int x2]) rfl rfl ⟨Nat.le_of_ble_eq_true rfl, Nat.le_of_ble_eq_true rfl⟩ (Nat.le_of_ble_eq_true rfl) dX9_shortest_62 (fun q4 H locs h hI => ?_)
            refine lv_goto (tgt := 70) hx hb dX9_shortest_65 (by decide) ?_
            exact h_iret_w C hr hI h dX9_shortest_70
        · refine lv_iload_n hx hb dX9_shortest_44 rfl (lv_at hl 0 rfl) ?_
          exact h_iret_w C hr hI h dX9_shortest_45
      · refine lv_bipush hx hb dX9_shortest_27 cb_m5 ?_
        exact h_iret_w C hr hI h dX9_shortest_29
    · refine lv_iconst hx hb dX9_shortest_16 ci_m1 ?_
      exact h_iret_w C hr hI h dX9_shortest_17
set_option maxRecDepth 100000 in
set_option maxHeartbeats 4000000 in
theorem w_X9_leftOut_87 {p : Program} {l : Launch} {e : Env} {s : State} {m : MethodId} {args : Array Value} {below : List Frame} {meth : Method} {c : Code} {D : va_G} {t : gT} {ad z : Nat → Nat} (C : gC p s m args meth c cX9_leftOut 7 "NineKeysRound" D t shX ad z) (hr : meth.sig.returnType = some .int) {r : Int32 × gS} (K_51 : Int32 → Int32 → Int32 → Int32 → gS → Option (Int32 × gS)) (hK_51 : ∀ (x2 : Int32) (x3 : Int32) (x4 : Int32) (x5 : Int32) (σ : gS) (H : Heap) (locs : List Loc) (ls : Array Slot), K_51 x2 x3 x4 x5 σ = some r → gI shX t ad D s.heap σ H locs → lv_has ls 7 [(0, .ref (ad 0)), (2, .int x2), (3, .int x3), (4, .int x4), (5, .int x5)] → W p l e (gR 6 176) s m args below meth c H locs 0 0 (MQ below (gQi shX t ad D r.1 r.2) args s 0 0 (gA shX ad)) (F0 m 51 ls [])) : ∀ (x2 : Int32) (x5 : Int32) (x6 : Int32) (σ : gS) (H : Heap) (locs : List Loc) (ls : Array Slot), f_X9_leftOut_87 K_51 x2 x5 x6 σ = some r → gI shX t ad D s.heap σ H locs → lv_has ls 7 [(0, .ref (ad 0)), (2, .int x2), (5, .int x5), (6, .int x6)] → W p l e (gR 6 176) s m args below meth c H locs 0 0 (MQ below (gQi shX t ad D r.1 r.2) args s 0 0 (gA shX ad)) (F0 m 87 ls []) := by
  have hx := C.1
  have hb := C.2.1
  intro x2 x5 x6 σ H locs ls  h hI hl
  unfold f_X9_leftOut_87 at h
  refine lv_aload_n hx hb dX9_leftOut_87 rfl (lv_at hl 0 rfl) ?_
  refine fr_268 C hI shX_0 rfl dX9_leftOut_88 ?_
  refine fr_160 C hI shX_34 rfl dX9_leftOut_91 ?_
  refine lv_iload hx hb dX9_leftOut_94 (lv_at hl 2 rfl) ?_
  refine gx_iald C hI shX_35 h dX9_leftOut_96 (fun h => ?_)
  refine gx_topi h (fun v1 h => ?_)
  refine lv_istore_n (lv' := [(3, .int v1), (0, .ref (ad 0)), (2, .int x2), (5, .int x5), (6, .int x6)]) hx hb dX9_leftOut_97 rfl hl (by decide) rfl (fun ls hl => ?_)
  refine lv_iload hx hb dX9_leftOut_98 (lv_at hl 4 rfl) ?_
  refine lv_istore (lv' := [(4, .int x6), (3, .int v1), (0, .ref (ad 0)), (2, .int x2), (5, .int x5), (6, .int x6)]) hx hb dX9_leftOut_100 hl (by decide) rfl (fun ls hl => ?_)
  refine h_iinc C hl dX9_leftOut_102 4 rfl ci_1 h (by decide) (lvf := fun v2 => [(5, .int v2), (4, .int x6), (3, .int v1), (0, .ref (ad 0)), (2, .int x2), (6, .int x6)]) (fun _ => rfl) (fun v2 ls h hl => ?_)
  refine lv_goto (tgt := 51) hx hb dX9_leftOut_105 (by decide) ?_
  exact hK_51 _ _ _ _ _ _ _ _  h hI (lv_sub hl [3, 4, 2, 1, 0] rfl)
set_option maxRecDepth 100000 in
set_option maxHeartbeats 4000000 in
theorem w_X9_leftOut_51 {p : Program} {l : Launch} {e : Env} {s : State} {m : MethodId} {args : Array Value} {below : List Frame} {meth : Method} {c : Code} {D : va_G} {t : gT} {ad z : Nat → Nat} (C : gC p s m args meth c cX9_leftOut 7 "NineKeysRound" D t shX ad z) (hr : meth.sig.returnType = some .int) {r : Int32 × gS} : ∀ (n : Nat) (x2 : Int32) (x3 : Int32) (x4 : Int32) (x5 : Int32) (σ : gS) (H : Heap) (locs : List Loc) (ls : Array Slot), f_X9_leftOut_51 n x2 x3 x4 x5 σ = some r → gI shX t ad D s.heap σ H locs → lv_has ls 7 [(0, .ref (ad 0)), (2, .int x2), (3, .int x3), (4, .int x4), (5, .int x5)] → W p l e (gR 6 176) s m args below meth c H locs 0 0 (MQ below (gQi shX t ad D r.1 r.2) args s 0 0 (gA shX ad)) (F0 m 51 ls []) := by
  have hx := C.1
  have hb := C.2.1
  intro n
  induction n with
  | zero =>
    intro x2 x3 x4 x5 σ H locs ls  h
    exact absurd h (by simp [f_X9_leftOut_51])
  | succ n ih =>
    intro x2 x3 x4 x5 σ H locs ls  h hI hl
    unfold f_X9_leftOut_51 at h
    refine lv_iload hx hb dX9_leftOut_51 (lv_at hl 4 rfl) ?_
    refine lv_aload_n hx hb dX9_leftOut_53 rfl (lv_at hl 0 rfl) ?_
    refine fr_268 C hI shX_0 rfl dX9_leftOut_54 ?_
    refine fg_163 C hI shX_34 rfl dX9_leftOut_57 ?_
    refine hicmp_ge (tgt := 108) C dX9_leftOut_60 (by decide) h (fun h => ?_) (fun h => ?_)
    · refine lv_iload_n hx hb dX9_leftOut_108 rfl (lv_at hl 1 rfl) ?_
      refine hif_ne (tgt := 116) C dX9_leftOut_109 (by decide) h (fun h => ?_) (fun h => ?_)
      · refine lv_iload hx hb dX9_leftOut_116 (lv_at hl 3 rfl) ?_
        exact h_iret_w C hr hI h dX9_leftOut_118
      · refine lv_iload_n hx hb dX9_leftOut_112 rfl (lv_at hl 2 rfl) ?_
        refine lv_goto (tgt := 118) hx hb dX9_leftOut_113 (by decide) ?_
        exact h_iret_w C hr hI h dX9_leftOut_118
    · refine lv_aload_n hx hb dX9_leftOut_63 rfl (lv_at hl 0 rfl) ?_
      refine fr_268 C hI shX_0 rfl dX9_leftOut_64 ?_
      refine lv_iload hx hb dX9_leftOut_67 (lv_at hl 4 rfl) ?_
      refine h_callvi_o (rest := []) C hI hl.1 shX_34 rfl yv_X7_minutesWithout k_737 h (fun q hq => c_X7_minutesWithout l D t ad z C.2.2.2.2.2.2.1 (σ) x5 q hq) (As := [.int x5]) rfl rfl ⟨Nat.le_of_ble_eq_true rfl, Nat.le_of_ble_eq_true rfl⟩ (Nat.le_of_ble_eq_true rfl) dX9_leftOut_69 (fun q1 H locs h hI => ?_)
      refine lv_istore (lv' := [(6, .int q1), (0, .ref (ad 0)), (2, .int x2), (3, .int x3), (4, .int x4), (5, .int x5)]) hx hb dX9_leftOut_72 hl (by decide) rfl (fun ls hl => ?_)
      refine lv_iload_n hx hb dX9_leftOut_74 rfl (lv_at hl 3 rfl) ?_
      refine lv_bipush hx hb dX9_leftOut_75 cb_m2 ?_
      refine hicmp_eq (tgt := 87) C dX9_leftOut_77 (by decide) h (fun h => ?_) (fun h => ?_)
      · exact w_X9_leftOut_87 C hr   _ ih _ _ _ _ _ _ _  h hI (lv_sub hl [1, 2, 5, 0] rfl)
      · refine lv_iload hx hb dX9_leftOut_80 (lv_at hl 0 rfl) ?_
        refine lv_iload hx hb dX9_leftOut_82 (lv_at hl 4 rfl) ?_
        refine hicmp_ge (tgt := 102) C dX9_leftOut_84 (by decide) h (fun h => ?_) (fun h => ?_)
        · refine h_iinc C hl dX9_leftOut_102 5 rfl ci_1 h (by decide) (lvf := fun v2 => [(5, .int v2), (6, .int q1), (0, .ref (ad 0)), (2, .int x2), (3, .int x3), (4, .int x4)]) (fun _ => rfl) (fun v2 ls h hl => ?_)
          refine lv_goto (tgt := 51) hx hb dX9_leftOut_105 (by decide) ?_
          exact ih _ _ _ _ _ _ _ _  h hI (lv_sub hl [2, 3, 4, 5, 0] rfl)
        · exact w_X9_leftOut_87 C hr   _ ih _ _ _ _ _ _ _  h hI (lv_sub hl [1, 2, 5, 0] rfl)
set_option maxRecDepth 100000 in
set_option maxHeartbeats 4000000 in
theorem c_X9_leftOut (l : Launch) (D : va_G) (t : gT) (ad z : Nat → Nat) (hJ : gJ shX ad) (σ : gS) (x1 : Int32) (x2 : Int32) (q : Int32 × gS) (h : f_X9_leftOut σ x1 x2 = some q) : Met l yX9_leftOut (Cond.code yX9_leftOut cX9_leftOut 7 (some .int) :: lw_tb) (gR 6 176) (gPc shX t ad D z [.ref (ad 0), .int x1, .int x2] σ) (gQi shX t ad D q.1 q.2) 0 0 (gA shX ad) := by
  refine gMet "NineKeysRound" rfl (by decide) hJ (Nat.le_of_ble_eq_true rfl) ?_
  intro p e s m below meth c ls C hr hI hl
  have hx := C.1
  have hb := C.2.1
  have hl : lv_has ls 7 [(0, .ref (ad 0)), (1, .int x1), (2, .int x2)] := hl
  unfold f_X9_leftOut at h
  refine lv_aload_n hx hb dX9_leftOut_0 rfl (lv_at hl 0 rfl) ?_
  refine fr_261 C hI shX_0 rfl dX9_leftOut_1 ?_
  refine lv_iload_n hx hb dX9_leftOut_4 rfl (lv_at hl 1 rfl) ?_
  refine h_callvi_o (rest := []) C hI hl.1 shX_1 rfl yv_X8_isSet k_698 h (fun q hq => c_X8_isSet l D t ad z C.2.2.2.2.2.2.1 (σ) x1 q hq) (As := [.int x1]) rfl rfl ⟨Nat.le_of_ble_eq_true rfl, Nat.le_of_ble_eq_true rfl⟩ (Nat.le_of_ble_eq_true rfl) dX9_leftOut_5 (fun q1 H locs h hI => ?_)
  refine hif_eq (tgt := 18) C dX9_leftOut_8 (by decide) h (fun h => ?_) (fun h => ?_)
  · refine lv_iconst hx hb dX9_leftOut_18 ci_m1 ?_
    exact h_iret_w C hr hI h dX9_leftOut_19
  · refine lv_iload_n hx hb dX9_leftOut_11 rfl (lv_at hl 2 rfl) ?_
    refine h_callsi_o (rest := []) C hI hl.1 ys_X9_isEither k_518 h (fun q hq => c_X9_isEither l D t ad z C.2.2.2.2.2.2.1 (σ) x2 q hq) (As := [.int x2]) rfl rfl ⟨Nat.le_of_ble_eq_true rfl, Nat.le_of_ble_eq_true rfl⟩ (Nat.le_of_ble_eq_true rfl) dX9_leftOut_12 (fun q2 H locs h hI => ?_)
    refine hif_ne (tgt := 20) C dX9_leftOut_15 (by decide) h (fun h => ?_) (fun h => ?_)
    · refine lv_iload_n hx hb dX9_leftOut_20 rfl (lv_at hl 1 rfl) ?_
      refine h_callsi_o (rest := []) C hI hl.1 ys_J6_bitCount_0f7a4 k_703 h (fun q hq => c_J6_bitCount_0f7a4 l D t ad z C.2.2.2.2.2.2.1 (σ) x1 q hq) (As := [.int x1]) rfl rfl ⟨Nat.le_of_ble_eq_true rfl, Nat.le_of_ble_eq_true rfl⟩ (Nat.le_of_ble_eq_true rfl) dX9_leftOut_21 (fun q3 H locs h hI => ?_)
      refine lv_bipush hx hb dX9_leftOut_24 cb_7 ?_
      refine hicmp_le (tgt := 32) C dX9_leftOut_26 (by decide) h (fun h => ?_) (fun h => ?_)
      · refine lv_aload_n hx hb dX9_leftOut_32 rfl (lv_at hl 0 rfl) ?_
        refine fr_268 C hI shX_0 rfl dX9_leftOut_33 ?_
        refine lv_iload_n hx hb dX9_leftOut_36 rfl (lv_at hl 1 rfl) ?_
        refine h_callvi_w (rest := []) C hI hl.1 shX_34 rfl yv_X7_reckon k_709 h (fun q hq => c_X7_reckon l D t ad z C.2.2.2.2.2.2.1 (σ) x1 q hq) (As := [.int x1]) rfl rfl ⟨Nat.le_of_ble_eq_true rfl, Nat.le_of_ble_eq_true rfl⟩ (Nat.le_of_ble_eq_true rfl) dX9_leftOut_37 (fun q4 H locs h hI => ?_)
        refine lv_pop hx hb dX9_leftOut_40 rfl ?_
        refine lv_bipush hx hb dX9_leftOut_41 cb_m2 ?_
        refine lv_istore_n (lv' := [(3, .int (-2)), (0, .ref (ad 0)), (1, .int x1), (2, .int x2)]) hx hb dX9_leftOut_43 rfl hl (by decide) rfl (fun ls hl => ?_)
        refine lv_bipush hx hb dX9_leftOut_44 cb_m2 ?_
        refine lv_istore (lv' := [(4, .int (-2)), (3, .int (-2)), (0, .ref (ad 0)), (1, .int x1), (2, .int x2)]) hx hb dX9_leftOut_46 hl (by decide) rfl (fun ls hl => ?_)
        refine lv_iconst hx hb dX9_leftOut_48 ci_0 ?_
        refine lv_istore (lv' := [(5, .int 0), (4, .int (-2)), (3, .int (-2)), (0, .ref (ad 0)), (1, .int x1), (2, .int x2)]) hx hb dX9_leftOut_49 hl (by decide) rfl (fun ls hl => ?_)
        exact w_X9_leftOut_51 C hr    _ _ _ _ _ _ _ _ _  h hI (lv_sub hl [3, 5, 2, 1, 0] rfl)
      · refine lv_bipush hx hb dX9_leftOut_29 cb_m5 ?_
        exact h_iret_w C hr hI h dX9_leftOut_31
    · refine lv_iconst hx hb dX9_leftOut_18 ci_m1 ?_
      exact h_iret_w C hr hI h dX9_leftOut_19
set_option maxRecDepth 100000 in
set_option maxHeartbeats 4000000 in
theorem c_X9_isNeed (l : Launch) (D : va_G) (t : gT) (ad z : Nat → Nat) (hJ : gJ shX ad) (σ : gS) (x0 : Int32) (q : Int32) (h : f_X9_isNeed σ x0 = some q) : Met l yX9_isNeed (Cond.code yX9_isNeed cX9_isNeed 1 (some .boolean) :: lw_tb) (gR 1 60) (gPc shX t ad D z [.int x0] σ) (gQi shX t ad D q σ) 0 0 (gA shX ad) := by
  refine gMet "NineKeysRound" rfl (by decide) hJ (Nat.le_of_ble_eq_true rfl) ?_
  intro p e s m below meth c ls C hr hI hl
  have hx := C.1
  have hb := C.2.1
  have hl : lv_has ls 1 [(0, .int x0)] := hl
  unfold f_X9_isNeed at h
  refine lv_iload_n hx hb dX9_isNeed_0 rfl (lv_at hl 0 rfl) ?_
  refine lv_iconst hx hb dX9_isNeed_1 ci_1 ?_
  refine hicmp_lt (tgt := 15) C dX9_isNeed_2 (by decide) h (fun h => ?_) (fun h => ?_)
  · refine lv_iconst hx hb dX9_isNeed_15 ci_0 ?_
    exact h_zret_o C hr hI h dX9_isNeed_16
  · refine lv_iload_n hx hb dX9_isNeed_5 rfl (lv_at hl 0 rfl) ?_
    refine lv_bipush hx hb dX9_isNeed_6 cb_99 ?_
    refine hicmp_gt (tgt := 15) C dX9_isNeed_8 (by decide) h (fun h => ?_) (fun h => ?_)
    · refine lv_iconst hx hb dX9_isNeed_15 ci_0 ?_
      exact h_zret_o C hr hI h dX9_isNeed_16
    · refine lv_iconst hx hb dX9_isNeed_11 ci_1 ?_
      refine lv_goto (tgt := 16) hx hb dX9_isNeed_12 (by decide) ?_
      exact h_zret_o C hr hI h dX9_isNeed_16
set_option maxRecDepth 100000 in
set_option maxHeartbeats 4000000 in
theorem c_X9_freeStart (l : Launch) (D : va_G) (t : gT) (ad z : Nat → Nat) (hJ : gJ shX ad) (σ : gS) (x1 : Int32) (x2 : Int32) (x3 : Int32) (q : Int32 × gS) (h : f_X9_freeStart σ x1 x2 x3 = some q) : Met l yX9_freeStart (Cond.code yX9_freeStart cX9_freeStart 5 (some .int) :: lw_tb) (gR 4 135) (gPc shX t ad D z [.ref (ad 0), .int x1, .int x2, .int x3] σ) (gQi shX t ad D q.1 q.2) 0 0 (gA shX ad) := by
  refine gMet "NineKeysRound" rfl (by decide) hJ (Nat.le_of_ble_eq_true rfl) ?_
  intro p e s m below meth c ls C hr hI hl
  have hx := C.1
  have hb := C.2.1
  have hl : lv_has ls 5 [(0, .ref (ad 0)), (1, .int x1), (2, .int x2), (3, .int x3)] := hl
  unfold f_X9_freeStart at h
  refine lv_aload_n hx hb dX9_freeStart_0 rfl (lv_at hl 0 rfl) ?_
  refine fr_267 C hI shX_0 rfl dX9_freeStart_1 ?_
  refine lv_aload_n hx hb dX9_freeStart_4 rfl (lv_at hl 0 rfl) ?_
  refine fr_265 C hI shX_0 rfl dX9_freeStart_5 ?_
  refine lv_iload_n hx hb dX9_freeStart_8 rfl (lv_at hl 1 rfl) ?_
  refine lv_sipush hx hb dX9_freeStart_9 cs_999 ?_
  refine lv_iload_n hx hb dX9_freeStart_12 rfl (lv_at hl 3 rfl) ?_
  refine lv_iadd hx hb dX9_freeStart_13 ?_
  refine lv_iconst hx hb dX9_freeStart_14 ci_1 ?_
  refine lv_isub hx hb dX9_freeStart_15 ?_
  refine h_callvv_w (rest := []) C hI hl.1 shX_32 rfl yv_X6_gather k_578 h (fun q hq => c_X6_gather l D t ad z C.2.2.2.2.2.2.1 26 shX_26 shX_27 shX_28 (σ) x1 ((999 + x3) - 1) q hq) (As := [.ref (ad 26), .int x1, .int ((999 + x3) - 1)]) rfl rfl ⟨Nat.le_of_ble_eq_true rfl, Nat.le_of_ble_eq_true rfl⟩ (Nat.le_of_ble_eq_true rfl) dX9_freeStart_16 (fun q1 H locs h hI => ?_)
  refine lv_aload_n hx hb dX9_freeStart_19 rfl (lv_at hl 0 rfl) ?_
  refine fr_267 C hI shX_0 rfl dX9_freeStart_20 ?_
  refine lv_iload_n hx hb dX9_freeStart_23 rfl (lv_at hl 2 rfl) ?_
  refine lv_iload_n hx hb dX9_freeStart_24 rfl (lv_at hl 3 rfl) ?_
  refine h_callvi_o (rest := []) C hI hl.1 shX_32 rfl yv_X6_freeFrom k_752 h (fun q hq => c_X6_freeFrom l D t ad z C.2.2.2.2.2.2.1 q1 x2 x3 q hq) (As := [.int x2, .int x3]) rfl rfl ⟨Nat.le_of_ble_eq_true rfl, Nat.le_of_ble_eq_true rfl⟩ (Nat.le_of_ble_eq_true rfl) dX9_freeStart_25 (fun q2 H locs h hI => ?_)
  refine lv_istore (lv' := [(4, .int q2), (0, .ref (ad 0)), (1, .int x1), (2, .int x2), (3, .int x3)]) hx hb dX9_freeStart_28 hl (by decide) rfl (fun ls hl => ?_)
  refine lv_iload hx hb dX9_freeStart_30 (lv_at hl 0 rfl) ?_
  refine lv_sipush hx hb dX9_freeStart_32 cs_999 ?_
  refine hicmp_le (tgt := 43) C dX9_freeStart_35 (by decide) h (fun h => ?_) (fun h => ?_)
  · refine lv_iload hx hb dX9_freeStart_43 (lv_at hl 0 rfl) ?_
    exact h_iret_w C hr hI h dX9_freeStart_45
  · refine lv_bipush hx hb dX9_freeStart_38 cb_m2 ?_
    refine lv_goto (tgt := 45) hx hb dX9_freeStart_40 (by decide) ?_
    exact h_iret_w C hr hI h dX9_freeStart_45
set_option maxRecDepth 100000 in
set_option maxHeartbeats 4000000 in
theorem c_X9_thief (l : Launch) (D : va_G) (t : gT) (ad z : Nat → Nat) (hJ : gJ shX ad) (σ : gS) (x1 : Int32) (x2 : Int32) (x3 : Int32) (x4 : Int32) (q : Int32 × gS) (h : f_X9_thief σ x1 x2 x3 x4 = some q) : Met l yX9_thief (Cond.code yX9_thief cX9_thief 6 (some .int) :: lw_tb) (gR 6 171) (gPc shX t ad D z [.ref (ad 0), .int x1, .int x2, .int x3, .int x4] σ) (gQi shX t ad D q.1 q.2) 0 0 (gA shX ad) := by
  refine gMet "NineKeysRound" rfl (by decide) hJ (Nat.le_of_ble_eq_true rfl) ?_
  intro p e s m below meth c ls C hr hI hl
  have hx := C.1
  have hb := C.2.1
  have hl : lv_has ls 6 [(0, .ref (ad 0)), (1, .int x1), (2, .int x2), (3, .int x3), (4, .int x4)] := hl
  unfold f_X9_thief at h
  refine lv_iload_n hx hb dX9_thief_0 rfl (lv_at hl 1 rfl) ?_
  refine h_callsi_o (rest := []) C hI hl.1 ys_X9_isShelf k_326 h (fun q hq => c_X9_isShelf l D t ad z C.2.2.2.2.2.2.1 (σ) x1 q hq) (As := [.int x1]) rfl rfl ⟨Nat.le_of_ble_eq_true rfl, Nat.le_of_ble_eq_true rfl⟩ (Nat.le_of_ble_eq_true rfl) dX9_thief_1 (fun q1 H locs h hI => ?_)
  refine hif_eq (tgt := 33) C dX9_thief_4 (by decide) h (fun h => ?_) (fun h => ?_)
  · refine lv_iconst hx hb dX9_thief_33 ci_m1 ?_
    exact h_iret_w C hr hI h dX9_thief_34
  · refine lv_aload_n hx hb dX9_thief_7 rfl (lv_at hl 0 rfl) ?_
    refine fr_261 C hI shX_0 rfl dX9_thief_8 ?_
    refine lv_iload_n hx hb dX9_thief_11 rfl (lv_at hl 2 rfl) ?_
    refine h_callvi_o (rest := []) C hI hl.1 shX_1 rfl yv_X8_isPost k_370 h (fun q hq => c_X8_isPost l D t ad z C.2.2.2.2.2.2.1 (σ) x2 q hq) (As := [.int x2]) rfl rfl ⟨Nat.le_of_ble_eq_true rfl, Nat.le_of_ble_eq_true rfl⟩ (Nat.le_of_ble_eq_true rfl) dX9_thief_12 (fun q2 H locs h hI => ?_)
    refine hif_eq (tgt := 33) C dX9_thief_15 (by decide) h (fun h => ?_) (fun h => ?_)
    · refine lv_iconst hx hb dX9_thief_33 ci_m1 ?_
      exact h_iret_w C hr hI h dX9_thief_34
    · refine lv_iload_n hx hb dX9_thief_18 rfl (lv_at hl 3 rfl) ?_
      refine h_callsi_o (rest := []) C hI hl.1 ys_X9_isMinute k_563 h (fun q hq => c_X9_isMinute l D t ad z C.2.2.2.2.2.2.1 (σ) x3 q hq) (As := [.int x3]) rfl rfl ⟨Nat.le_of_ble_eq_true rfl, Nat.le_of_ble_eq_true rfl⟩ (Nat.le_of_ble_eq_true rfl) dX9_thief_19 (fun q3 H locs h hI => ?_)
      refine hif_eq (tgt := 33) C dX9_thief_22 (by decide) h (fun h => ?_) (fun h => ?_)
      · refine lv_iconst hx hb dX9_thief_33 ci_m1 ?_
        exact h_iret_w C hr hI h dX9_thief_34
      · refine lv_iload hx hb dX9_thief_25 (lv_at hl 4 rfl) ?_
        refine h_callsi_o (rest := []) C hI hl.1 ys_X9_isNeed k_745 h (fun q hq => c_X9_isNeed l D t ad z C.2.2.2.2.2.2.1 (σ) x4 q hq) (As := [.int x4]) rfl rfl ⟨Nat.le_of_ble_eq_true rfl, Nat.le_of_ble_eq_true rfl⟩ (Nat.le_of_ble_eq_true rfl) dX9_thief_27 (fun q4 H locs h hI => ?_)
        refine hif_ne (tgt := 35) C dX9_thief_30 (by decide) h (fun h => ?_) (fun h => ?_)
        · refine lv_aload_n hx hb dX9_thief_35 rfl (lv_at hl 0 rfl) ?_
          refine lv_iload_n hx hb dX9_thief_36 rfl (lv_at hl 1 rfl) ?_
          refine h_callvi_w (rest := []) C hI hl.1 shX_0 rfl yv_X9_layForth k_521 h (fun q hq => c_X9_layForth l D t ad z C.2.2.2.2.2.2.1 (σ) x1 q hq) (As := [.int x1]) rfl rfl ⟨Nat.le_of_ble_eq_true rfl, Nat.le_of_ble_eq_true rfl⟩ (Nat.le_of_ble_eq_true rfl) dX9_thief_37 (fun q5 H locs h hI => ?_)
          refine lv_istore (lv' := [(5, .int q5.1), (0, .ref (ad 0)), (1, .int x1), (2, .int x2), (3, .int x3), (4, .int x4)]) hx hb dX9_thief_40 hl (by decide) rfl (fun ls hl => ?_)
          refine lv_iload hx hb dX9_thief_42 (lv_at hl 0 rfl) ?_
          refine hif_ge (tgt := 52) C dX9_thief_44 (by decide) h (fun h => ?_) (fun h => ?_)
          · refine lv_aload_n hx hb dX9_thief_52 rfl (lv_at hl 1 rfl) ?_
            refine lv_iload_n hx hb dX9_thief_53 rfl (lv_at hl 3 rfl) ?_
            refine lv_iload_n hx hb dX9_thief_54 rfl (lv_at hl 4 rfl) ?_
            refine lv_iload hx hb dX9_thief_55 (lv_at hl 5 rfl) ?_
            refine h_callvi_w (rest := []) C hI hl.1 shX_0 rfl yv_X9_freeStart k_748 h (fun q hq => c_X9_freeStart l D t ad z C.2.2.2.2.2.2.1 q5.2 x2 x3 x4 q hq) (As := [.int x2, .int x3, .int x4]) rfl rfl ⟨Nat.le_of_ble_eq_true rfl, Nat.le_of_ble_eq_true rfl⟩ (Nat.le_of_ble_eq_true rfl) dX9_thief_57 (fun q6 H locs h hI => ?_)
            exact h_iret_w C hr hI h dX9_thief_60
          · refine lv_iload hx hb dX9_thief_47 (lv_at hl 0 rfl) ?_
            refine lv_goto (tgt := 60) hx hb dX9_thief_49 (by decide) ?_
            exact h_iret_w C hr hI h dX9_thief_60
        · refine lv_iconst hx hb dX9_thief_33 ci_m1 ?_
          exact h_iret_w C hr hI h dX9_thief_34
set_option maxRecDepth 100000 in
set_option maxHeartbeats 4000000 in
theorem w_X9_safe_34 {p : Program} {l : Launch} {e : Env} {s : State} {m : MethodId} {args : Array Value} {below : List Frame} {meth : Method} {c : Code} {D : va_G} {t : gT} {ad z : Nat → Nat} (C : gC p s m args meth c cX9_safe 6 "NineKeysRound" D t shX ad z) (hr : meth.sig.returnType = some .int) {r : Int32 × gS} : ∀ (n : Nat) (x2 : Int32) (x4 : Int32) (x5 : Int32) (σ : gS) (H : Heap) (locs : List Loc) (ls : Array Slot), f_X9_safe_34 n x2 x4 x5 σ = some r → gI shX t ad D s.heap σ H locs → lv_has ls 6 [(0, .ref (ad 0)), (2, .int x2), (4, .int x4), (5, .int x5)] → W p l e (gR 6 171) s m args below meth c H locs 0 0 (MQ below (gQi shX t ad D r.1 r.2) args s 0 0 (gA shX ad)) (F0 m 34 ls []) := by
  have hx := C.1
  have hb := C.2.1
  intro n
  induction n with
  | zero =>
    intro x2 x4 x5 σ H locs ls  h
    exact absurd h (by simp [f_X9_safe_34])
  | succ n ih =>
    intro x2 x4 x5 σ H locs ls  h hI hl
    unfold f_X9_safe_34 at h
    refine lv_iload hx hb dX9_safe_34 (lv_at hl 3 rfl) ?_
    refine lv_aload_n hx hb dX9_safe_36 rfl (lv_at hl 0 rfl) ?_
    refine fr_261 C hI shX_0 rfl dX9_safe_37 ?_
    refine fg_37 C hI shX_1 rfl dX9_safe_40 ?_
    refine hicmp_ge (tgt := 74) C dX9_safe_43 (by decide) h (fun h => ?_) (fun h => ?_)
    · refine lv_iload hx hb dX9_safe_74 (lv_at hl 2 rfl) ?_
      exact h_iret_w C hr hI h dX9_safe_76
    · refine lv_aload_n hx hb dX9_safe_46 rfl (lv_at hl 0 rfl) ?_
      refine lv_iload hx hb dX9_safe_47 (lv_at hl 3 rfl) ?_
      refine lv_iconst hx hb dX9_safe_49 ci_0 ?_
      refine lv_iload_n hx hb dX9_safe_50 rfl (lv_at hl 1 rfl) ?_
      refine h_callvi_w (rest := []) C hI hl.1 shX_0 rfl yv_X9_freeStart k_748 h (fun q hq => c_X9_freeStart l D t ad z C.2.2.2.2.2.2.1 (σ) x5 0 x2 q hq) (As := [.int x5, .int 0, .int x2]) rfl rfl ⟨Nat.le_of_ble_eq_true rfl, Nat.le_of_ble_eq_true rfl⟩ (Nat.le_of_ble_eq_true rfl) dX9_safe_51 (fun q1 H locs h hI => ?_)
      refine lv_bipush hx hb dX9_safe_54 cb_m2 ?_
      refine hicmp_ne (tgt := 68) C dX9_safe_56 (by decide) h (fun h => ?_) (fun h => ?_)
      · refine h_iinc C hl dX9_safe_68 3 rfl ci_1 h (by decide) (lvf := fun v2 => [(5, .int v2), (0, .ref (ad 0)), (2, .int x2), (4, .int x4)]) (fun _ => rfl) (fun v2 ls h hl => ?_)
        refine lv_goto (tgt := 34) hx hb dX9_safe_71 (by decide) ?_
        exact ih _ _ _ _ _ _ _  h hI (lv_sub hl [1, 2, 3, 0] rfl)
      · refine lv_iload hx hb dX9_safe_59 (lv_at hl 2 rfl) ?_
        refine lv_iconst hx hb dX9_safe_61 ci_1 ?_
        refine lv_iload hx hb dX9_safe_62 (lv_at hl 3 rfl) ?_
        refine lv_ishl hx hb dX9_safe_64 ?_
        refine lv_ior hx hb dX9_safe_65 ?_
        refine gx_topi h (fun v3 h => ?_)
        refine lv_istore (lv' := [(4, .int v3), (0, .ref (ad 0)), (2, .int x2), (5, .int x5)]) hx hb dX9_safe_66 hl (by decide) rfl (fun ls hl => ?_)
        refine h_iinc C hl dX9_safe_68 3 rfl ci_1 h (by decide) (lvf := fun v4 => [(5, .int v4), (4, .int v3), (0, .ref (ad 0)), (2, .int x2)]) (fun _ => rfl) (fun v4 ls h hl => ?_)
        refine lv_goto (tgt := 34) hx hb dX9_safe_71 (by decide) ?_
        exact ih _ _ _ _ _ _ _  h hI (lv_sub hl [2, 3, 1, 0] rfl)
set_option maxRecDepth 100000 in
set_option maxHeartbeats 4000000 in
theorem c_X9_safe (l : Launch) (D : va_G) (t : gT) (ad z : Nat → Nat) (hJ : gJ shX ad) (σ : gS) (x1 : Int32) (x2 : Int32) (q : Int32 × gS) (h : f_X9_safe σ x1 x2 = some q) : Met l yX9_safe (Cond.code yX9_safe cX9_safe 6 (some .int) :: lw_tb) (gR 6 171) (gPc shX t ad D z [.ref (ad 0), .int x1, .int x2] σ) (gQi shX t ad D q.1 q.2) 0 0 (gA shX ad) := by
  refine gMet "NineKeysRound" rfl (by decide) hJ (Nat.le_of_ble_eq_true rfl) ?_
  intro p e s m below meth c ls C hr hI hl
  have hx := C.1
  have hb := C.2.1
  have hl : lv_has ls 6 [(0, .ref (ad 0)), (1, .int x1), (2, .int x2)] := hl
  unfold f_X9_safe at h
  refine lv_iload_n hx hb dX9_safe_0 rfl (lv_at hl 1 rfl) ?_
  refine h_callsi_o (rest := []) C hI hl.1 ys_X9_isShelf k_326 h (fun q hq => c_X9_isShelf l D t ad z C.2.2.2.2.2.2.1 (σ) x1 q hq) (As := [.int x1]) rfl rfl ⟨Nat.le_of_ble_eq_true rfl, Nat.le_of_ble_eq_true rfl⟩ (Nat.le_of_ble_eq_true rfl) dX9_safe_1 (fun q1 H locs h hI => ?_)
  refine hif_eq (tgt := 14) C dX9_safe_4 (by decide) h (fun h => ?_) (fun h => ?_)
  · refine lv_iconst hx hb dX9_safe_14 ci_m1 ?_
    exact h_iret_w C hr hI h dX9_safe_15
  · refine lv_iload_n hx hb dX9_safe_7 rfl (lv_at hl 2 rfl) ?_
    refine h_callsi_o (rest := []) C hI hl.1 ys_X9_isNeed k_745 h (fun q hq => c_X9_isNeed l D t ad z C.2.2.2.2.2.2.1 (σ) x2 q hq) (As := [.int x2]) rfl rfl ⟨Nat.le_of_ble_eq_true rfl, Nat.le_of_ble_eq_true rfl⟩ (Nat.le_of_ble_eq_true rfl) dX9_safe_8 (fun q2 H locs h hI => ?_)
    refine hif_ne (tgt := 16) C dX9_safe_11 (by decide) h (fun h => ?_) (fun h => ?_)
    · refine lv_aload_n hx hb dX9_safe_16 rfl (lv_at hl 0 rfl) ?_
      refine lv_iload_n hx hb dX9_safe_17 rfl (lv_at hl 1 rfl) ?_
      refine h_callvi_w (rest := []) C hI hl.1 shX_0 rfl yv_X9_layForth k_521 h (fun q hq => c_X9_layForth l D t ad z C.2.2.2.2.2.2.1 (σ) x1 q hq) (As := [.int x1]) rfl rfl ⟨Nat.le_of_ble_eq_true rfl, Nat.le_of_ble_eq_true rfl⟩ (Nat.le_of_ble_eq_true rfl) dX9_safe_18 (fun q3 H locs h hI => ?_)
      refine lv_istore_n (lv' := [(3, .int q3.1), (0, .ref (ad 0)), (1, .int x1), (2, .int x2)]) hx hb dX9_safe_21 rfl hl (by decide) rfl (fun ls hl => ?_)
      refine lv_iload_n hx hb dX9_safe_22 rfl (lv_at hl 0 rfl) ?_
      refine hif_ge (tgt := 28) C dX9_safe_23 (by decide) h (fun h => ?_) (fun h => ?_)
      · refine lv_iconst hx hb dX9_safe_28 ci_0 ?_
        refine lv_istore (lv' := [(4, .int 0), (3, .int q3.1), (0, .ref (ad 0)), (1, .int x1), (2, .int x2)]) hx hb dX9_safe_29 hl (by decide) rfl (fun ls hl => ?_)
        refine lv_iconst hx hb dX9_safe_31 ci_0 ?_
        refine lv_istore (lv' := [(5, .int 0), (4, .int 0), (3, .int q3.1), (0, .ref (ad 0)), (1, .int x1), (2, .int x2)]) hx hb dX9_safe_32 hl (by decide) rfl (fun ls hl => ?_)
        exact w_X9_safe_34 C hr    _ _ _ _ _ _ _ _  h hI (lv_sub hl [3, 5, 1, 0] rfl)
      · refine lv_iload_n hx hb dX9_safe_26 rfl (lv_at hl 0 rfl) ?_
        exact h_iret_w C hr hI h dX9_safe_27
    · refine lv_iconst hx hb dX9_safe_14 ci_m1 ?_
      exact h_iret_w C hr hI h dX9_safe_15
set_option maxRecDepth 100000 in
set_option maxHeartbeats 4000000 in
theorem w_X9_bestSecond_52 {p : Program} {l : Launch} {e : Env} {s : State} {m : MethodId} {args : Array Value} {below : List Frame} {meth : Method} {c : Code} {D : va_G} {t : gT} {ad z : Nat → Nat} (C : gC p s m args meth c cX9_bestSecond 3 "NineKeysRound" D t shX ad z) (hr : meth.sig.returnType = some .int) {r : Int32 × gS} (K_24 : Int32 → gS → Option (Int32 × gS)) (hK_24 : ∀ (x1 : Int32) (σ : gS) (H : Heap) (locs : List Loc) (ls : Array Slot), K_24 x1 σ = some r → gI shX t ad D s.heap σ H locs → lv_has ls 3 [(0, .ref (ad 0)), (1, .int x1)] → W p l e (gR 4 135) s m args below meth c H locs 0 0 (MQ below (gQi shX t ad D r.1 r.2) args s 0 0 (gA shX ad)) (F0 m 24 ls [])) : ∀ (n : Nat) (x1 : Int32) (x2 : Int32) (σ : gS) (H : Heap) (locs : List Loc) (ls : Array Slot), f_X9_bestSecond_52 K_24 n x1 x2 σ = some r → gI shX t ad D s.heap σ H locs → lv_has ls 3 [(0, .ref (ad 0)), (1, .int x1), (2, .int x2)] → W p l e (gR 4 135) s m args below meth c H locs 0 0 (MQ below (gQi shX t ad D r.1 r.2) args s 0 0 (gA shX ad)) (F0 m 52 ls []) := by
  have hx := C.1
  have hb := C.2.1
  intro n
  induction n with
  | zero =>
    intro x1 x2 σ H locs ls  h
    exact absurd h (by simp [f_X9_bestSecond_52])
  | succ n ih =>
    intro x1 x2 σ H locs ls  h hI hl
    unfold f_X9_bestSecond_52 at h
    refine lv_iload_n hx hb dX9_bestSecond_52 rfl (lv_at hl 2 rfl) ?_
    refine lv_bipush hx hb dX9_bestSecond_53 cb_99 ?_
    refine hicmp_gt (tgt := 90) C dX9_bestSecond_55 (by decide) h (fun h => ?_) (fun h => ?_)
    · refine h_iinc C hl dX9_bestSecond_90 1 rfl ci_1 h (by decide) (lvf := fun v1 => [(1, .int v1), (0, .ref (ad 0)), (2, .int x2)]) (fun _ => rfl) (fun v1 ls h hl => ?_)
      refine lv_goto (tgt := 24) hx hb dX9_bestSecond_93 (by decide) ?_
      exact hK_24 _ _ _ _ _  h hI (lv_sub hl [1, 0] rfl)
    · refine lv_aload_n hx hb dX9_bestSecond_58 rfl (lv_at hl 0 rfl) ?_
      refine fr_273 C hI shX_0 rfl dX9_bestSecond_59 ?_
      refine lv_iload_n hx hb dX9_bestSecond_62 rfl (lv_at hl 2 rfl) ?_
      refine lv_aload_n hx hb dX9_bestSecond_63 rfl (lv_at hl 0 rfl) ?_
      refine fr_273 C hI shX_0 rfl dX9_bestSecond_64 ?_
      refine lv_iload_n hx hb dX9_bestSecond_67 rfl (lv_at hl 2 rfl) ?_
      refine gx_iald C hI shX_45 h dX9_bestSecond_68 (fun h => ?_)
      refine lv_aload_n hx hb dX9_bestSecond_69 rfl (lv_at hl 0 rfl) ?_
      refine fr_267 C hI shX_0 rfl dX9_bestSecond_70 ?_
      refine lv_iload_n hx hb dX9_bestSecond_73 rfl (lv_at hl 2 rfl) ?_
      refine lv_sipush hx hb dX9_bestSecond_74 cs_999 ?_
      refine h_callvi_o (rest := [.int (σ.1 45 (x2).toNatClampNeg), .int x2, .ref (ad 45)]) C hI hl.1 shX_32 rfl yv_X6_widestOfTwo k_768 h (fun q hq => c_X6_widestOfTwo l D t ad z C.2.2.2.2.2.2.1 (σ) x2 999 q hq) (As := [.int x2, .int 999]) rfl rfl ⟨Nat.le_of_ble_eq_true rfl, Nat.le_of_ble_eq_true rfl⟩ (Nat.le_of_ble_eq_true rfl) dX9_bestSecond_77 (fun q2 H locs h hI => ?_)
      refine h_mmax C hl.1 k_775 ⟨Nat.le_of_ble_eq_true rfl, Nat.le_of_ble_eq_true rfl⟩ ⟨Nat.zero_le _, Nat.zero_le _⟩ dX9_bestSecond_80 ?_
      refine gx_iast C hI shX_45 h dX9_bestSecond_83 (fun H locs h hI => ?_)
      refine gx_st h hI (fun s3 h hI => ?_)
      refine h_iinc C hl dX9_bestSecond_84 2 rfl ci_1 h (by decide) (lvf := fun v4 => [(2, .int v4), (0, .ref (ad 0)), (1, .int x1)]) (fun _ => rfl) (fun v4 ls h hl => ?_)
      refine lv_goto (tgt := 52) hx hb dX9_bestSecond_87 (by decide) ?_
      exact ih _ _ _ _ _ _  h hI (lv_sub hl [1, 2, 0] rfl)
set_option maxRecDepth 100000 in
set_option maxHeartbeats 4000000 in
theorem w_X9_bestSecond_143 {p : Program} {l : Launch} {e : Env} {s : State} {m : MethodId} {args : Array Value} {below : List Frame} {meth : Method} {c : Code} {D : va_G} {t : gT} {ad z : Nat → Nat} (C : gC p s m args meth c cX9_bestSecond 3 "NineKeysRound" D t shX ad z) (hr : meth.sig.returnType = some .int) {r : Int32 × gS} (K_100 : Int32 → Int32 → gS → Option (Int32 × gS)) (hK_100 : ∀ (x1 : Int32) (x2 : Int32) (σ : gS) (H : Heap) (locs : List Loc) (ls : Array Slot), K_100 x1 x2 σ = some r → gI shX t ad D s.heap σ H locs → lv_has ls 3 [(0, .ref (ad 0)), (1, .int x1), (2, .int x2)] → W p l e (gR 4 135) s m args below meth c H locs 0 0 (MQ below (gQi shX t ad D r.1 r.2) args s 0 0 (gA shX ad)) (F0 m 100 ls [])) : ∀ (x2 : Int32) (σ : gS) (H : Heap) (locs : List Loc) (ls : Array Slot), f_X9_bestSecond_143 K_100 x2 σ = some r → gI shX t ad D s.heap σ H locs → lv_has ls 3 [(0, .ref (ad 0)), (2, .int x2)] → W p l e (gR 4 135) s m args below meth c H locs 0 0 (MQ below (gQi shX t ad D r.1 r.2) args s 0 0 (gA shX ad)) (F0 m 143 ls []) := by
  have hx := C.1
  have hb := C.2.1
  intro x2 σ H locs ls  h hI hl
  unfold f_X9_bestSecond_143 at h
  refine lv_iload_n hx hb dX9_bestSecond_143 rfl (lv_at hl 1 rfl) ?_
  refine lv_istore_n (lv' := [(1, .int x2), (0, .ref (ad 0)), (2, .int x2)]) hx hb dX9_bestSecond_144 rfl hl (by decide) rfl (fun ls hl => ?_)
  refine h_iinc C hl dX9_bestSecond_145 2 rfl ci_1 h (by decide) (lvf := fun v1 => [(2, .int v1), (1, .int x2), (0, .ref (ad 0))]) (fun _ => rfl) (fun v1 ls h hl => ?_)
  refine lv_goto (tgt := 100) hx hb dX9_bestSecond_148 (by decide) ?_
  exact hK_100 _ _ _ _ _ _  h hI (lv_sub hl [2, 1, 0] rfl)
set_option maxRecDepth 100000 in
set_option maxHeartbeats 4000000 in
theorem w_X9_bestSecond_100 {p : Program} {l : Launch} {e : Env} {s : State} {m : MethodId} {args : Array Value} {below : List Frame} {meth : Method} {c : Code} {D : va_G} {t : gT} {ad z : Nat → Nat} (C : gC p s m args meth c cX9_bestSecond 3 "NineKeysRound" D t shX ad z) (hr : meth.sig.returnType = some .int) {r : Int32 × gS} : ∀ (n : Nat) (x1 : Int32) (x2 : Int32) (σ : gS) (H : Heap) (locs : List Loc) (ls : Array Slot), f_X9_bestSecond_100 n x1 x2 σ = some r → gI shX t ad D s.heap σ H locs → lv_has ls 3 [(0, .ref (ad 0)), (1, .int x1), (2, .int x2)] → W p l e (gR 4 135) s m args below meth c H locs 0 0 (MQ below (gQi shX t ad D r.1 r.2) args s 0 0 (gA shX ad)) (F0 m 100 ls []) := by
  have hx := C.1
  have hb := C.2.1
  intro n
  induction n with
  | zero =>
    intro x1 x2 σ H locs ls  h
    exact absurd h (by simp [f_X9_bestSecond_100])
  | succ n ih =>
    intro x1 x2 σ H locs ls  h hI hl
    unfold f_X9_bestSecond_100 at h
    refine lv_iload_n hx hb dX9_bestSecond_100 rfl (lv_at hl 2 rfl) ?_
    refine lv_bipush hx hb dX9_bestSecond_101 cb_99 ?_
    refine hicmp_gt (tgt := 151) C dX9_bestSecond_103 (by decide) h (fun h => ?_) (fun h => ?_)
    · refine lv_iload_n hx hb dX9_bestSecond_151 rfl (lv_at hl 1 rfl) ?_
      exact h_iret_w C hr hI h dX9_bestSecond_152
    · refine lv_aload_n hx hb dX9_bestSecond_106 rfl (lv_at hl 0 rfl) ?_
      refine fr_273 C hI shX_0 rfl dX9_bestSecond_107 ?_
      refine lv_iload_n hx hb dX9_bestSecond_110 rfl (lv_at hl 2 rfl) ?_
      refine gx_iald C hI shX_45 h dX9_bestSecond_111 (fun h => ?_)
      refine lv_bipush hx hb dX9_bestSecond_112 cb_m2 ?_
      refine hicmp_eq (tgt := 145) C dX9_bestSecond_114 (by decide) h (fun h => ?_) (fun h => ?_)
      · refine h_iinc C hl dX9_bestSecond_145 2 rfl ci_1 h (by decide) (lvf := fun v1 => [(2, .int v1), (0, .ref (ad 0)), (1, .int x1)]) (fun _ => rfl) (fun v1 ls h hl => ?_)
        refine lv_goto (tgt := 100) hx hb dX9_bestSecond_148 (by decide) ?_
        exact ih _ _ _ _ _ _  h hI (lv_sub hl [1, 2, 0] rfl)
      · refine lv_aload_n hx hb dX9_bestSecond_117 rfl (lv_at hl 0 rfl) ?_
        refine fr_273 C hI shX_0 rfl dX9_bestSecond_118 ?_
        refine lv_iload_n hx hb dX9_bestSecond_121 rfl (lv_at hl 1 rfl) ?_
        refine gx_iald C hI shX_45 h dX9_bestSecond_122 (fun h => ?_)
        refine lv_bipush hx hb dX9_bestSecond_123 cb_m2 ?_
        refine hicmp_eq (tgt := 143) C dX9_bestSecond_125 (by decide) h (fun h => ?_) (fun h => ?_)
        · exact w_X9_bestSecond_143 C hr   _ ih _ _ _ _ _  h hI (lv_sub hl [0, 2] rfl)
        · refine lv_aload_n hx hb dX9_bestSecond_128 rfl (lv_at hl 0 rfl) ?_
          refine fr_273 C hI shX_0 rfl dX9_bestSecond_129 ?_
          refine lv_iload_n hx hb dX9_bestSecond_132 rfl (lv_at hl 2 rfl) ?_
          refine gx_iald C hI shX_45 h dX9_bestSecond_133 (fun h => ?_)
          refine lv_aload_n hx hb dX9_bestSecond_134 rfl (lv_at hl 0 rfl) ?_
          refine fr_273 C hI shX_0 rfl dX9_bestSecond_135 ?_
          refine lv_iload_n hx hb dX9_bestSecond_138 rfl (lv_at hl 1 rfl) ?_
          refine gx_iald C hI shX_45 h dX9_bestSecond_139 (fun h => ?_)
          refine hicmp_ge (tgt := 145) C dX9_bestSecond_140 (by decide) h (fun h => ?_) (fun h => ?_)
          · refine h_iinc C hl dX9_bestSecond_145 2 rfl ci_1 h (by decide) (lvf := fun v2 => [(2, .int v2), (0, .ref (ad 0)), (1, .int x1)]) (fun _ => rfl) (fun v2 ls h hl => ?_)
            refine lv_goto (tgt := 100) hx hb dX9_bestSecond_148 (by decide) ?_
            exact ih _ _ _ _ _ _  h hI (lv_sub hl [1, 2, 0] rfl)
          · exact w_X9_bestSecond_143 C hr   _ ih _ _ _ _ _  h hI (lv_sub hl [0, 2] rfl)
set_option maxRecDepth 100000 in
set_option maxHeartbeats 4000000 in
theorem w_X9_bestSecond_24 {p : Program} {l : Launch} {e : Env} {s : State} {m : MethodId} {args : Array Value} {below : List Frame} {meth : Method} {c : Code} {D : va_G} {t : gT} {ad z : Nat → Nat} (C : gC p s m args meth c cX9_bestSecond 3 "NineKeysRound" D t shX ad z) (hr : meth.sig.returnType = some .int) {r : Int32 × gS} : ∀ (n : Nat) (x1 : Int32) (σ : gS) (H : Heap) (locs : List Loc) (ls : Array Slot), f_X9_bestSecond_24 n x1 σ = some r → gI shX t ad D s.heap σ H locs → lv_has ls 3 [(0, .ref (ad 0)), (1, .int x1)] → W p l e (gR 4 135) s m args below meth c H locs 0 0 (MQ below (gQi shX t ad D r.1 r.2) args s 0 0 (gA shX ad)) (F0 m 24 ls []) := by
  have hx := C.1
  have hb := C.2.1
  intro n
  induction n with
  | zero =>
    intro x1 σ H locs ls  h
    exact absurd h (by simp [f_X9_bestSecond_24])
  | succ n ih =>
    intro x1 σ H locs ls  h hI hl
    unfold f_X9_bestSecond_24 at h
    refine lv_iload_n hx hb dX9_bestSecond_24 rfl (lv_at hl 1 rfl) ?_
    refine lv_aload_n hx hb dX9_bestSecond_25 rfl (lv_at hl 0 rfl) ?_
    refine fr_261 C hI shX_0 rfl dX9_bestSecond_26 ?_
    refine fg_37 C hI shX_1 rfl dX9_bestSecond_29 ?_
    refine hicmp_ge (tgt := 96) C dX9_bestSecond_32 (by decide) h (fun h => ?_) (fun h => ?_)
    · refine lv_iconst hx hb dX9_bestSecond_96 ci_0 ?_
      refine lv_istore_n (lv' := [(1, .int 0), (0, .ref (ad 0))]) hx hb dX9_bestSecond_97 rfl hl (by decide) rfl (fun ls hl => ?_)
      refine lv_iconst hx hb dX9_bestSecond_98 ci_1 ?_
      refine lv_istore_n (lv' := [(2, .int 1), (1, .int 0), (0, .ref (ad 0))]) hx hb dX9_bestSecond_99 rfl hl (by decide) rfl (fun ls hl => ?_)
      exact w_X9_bestSecond_100 C hr    _ _ _ _ _ _ _  h hI (lv_sub hl [2, 1, 0] rfl)
    · refine lv_aload_n hx hb dX9_bestSecond_35 rfl (lv_at hl 0 rfl) ?_
      refine fr_267 C hI shX_0 rfl dX9_bestSecond_36 ?_
      refine lv_aload_n hx hb dX9_bestSecond_39 rfl (lv_at hl 0 rfl) ?_
      refine fr_265 C hI shX_0 rfl dX9_bestSecond_40 ?_
      refine lv_iload_n hx hb dX9_bestSecond_43 rfl (lv_at hl 1 rfl) ?_
      refine lv_sipush hx hb dX9_bestSecond_44 cs_999 ?_
      refine h_callvv_w (rest := []) C hI hl.1 shX_32 rfl yv_X6_gather k_578 h (fun q hq => c_X6_gather l D t ad z C.2.2.2.2.2.2.1 26 shX_26 shX_27 shX_28 (σ) x1 999 q hq) (As := [.ref (ad 26), .int x1, .int 999]) rfl rfl ⟨Nat.le_of_ble_eq_true rfl, Nat.le_of_ble_eq_true rfl⟩ (Nat.le_of_ble_eq_true rfl) dX9_bestSecond_47 (fun q1 H locs h hI => ?_)
      refine lv_iconst hx hb dX9_bestSecond_50 ci_0 ?_
      refine lv_istore_n (lv' := [(2, .int 0), (0, .ref (ad 0)), (1, .int x1)]) hx hb dX9_bestSecond_51 rfl hl (by decide) rfl (fun ls hl => ?_)
      exact w_X9_bestSecond_52 C hr   _ ih _ _ _ _ _ _ _  h hI (lv_sub hl [1, 2, 0] rfl)
set_option maxRecDepth 100000 in
set_option maxHeartbeats 4000000 in
theorem w_X9_bestSecond_2 {p : Program} {l : Launch} {e : Env} {s : State} {m : MethodId} {args : Array Value} {below : List Frame} {meth : Method} {c : Code} {D : va_G} {t : gT} {ad z : Nat → Nat} (C : gC p s m args meth c cX9_bestSecond 3 "NineKeysRound" D t shX ad z) (hr : meth.sig.returnType = some .int) {r : Int32 × gS} : ∀ (n : Nat) (x1 : Int32) (σ : gS) (H : Heap) (locs : List Loc) (ls : Array Slot), f_X9_bestSecond_2 n x1 σ = some r → gI shX t ad D s.heap σ H locs → lv_has ls 3 [(0, .ref (ad 0)), (1, .int x1)] → W p l e (gR 4 135) s m args below meth c H locs 0 0 (MQ below (gQi shX t ad D r.1 r.2) args s 0 0 (gA shX ad)) (F0 m 2 ls []) := by
  have hx := C.1
  have hb := C.2.1
  intro n
  induction n with
  | zero =>
    intro x1 σ H locs ls  h
    exact absurd h (by simp [f_X9_bestSecond_2])
  | succ n ih =>
    intro x1 σ H locs ls  h hI hl
    unfold f_X9_bestSecond_2 at h
    refine lv_iload_n hx hb dX9_bestSecond_2 rfl (lv_at hl 1 rfl) ?_
    refine lv_bipush hx hb dX9_bestSecond_3 cb_99 ?_
    refine hicmp_gt (tgt := 22) C dX9_bestSecond_5 (by decide) h (fun h => ?_) (fun h => ?_)
    · refine lv_iconst hx hb dX9_bestSecond_22 ci_0 ?_
      refine lv_istore_n (lv' := [(1, .int 0), (0, .ref (ad 0))]) hx hb dX9_bestSecond_23 rfl hl (by decide) rfl (fun ls hl => ?_)
      exact w_X9_bestSecond_24 C hr    _ _ _ _ _ _  h hI (lv_sub hl [1, 0] rfl)
    · refine lv_aload_n hx hb dX9_bestSecond_8 rfl (lv_at hl 0 rfl) ?_
      refine fr_273 C hI shX_0 rfl dX9_bestSecond_9 ?_
      refine lv_iload_n hx hb dX9_bestSecond_12 rfl (lv_at hl 1 rfl) ?_
      refine lv_bipush hx hb dX9_bestSecond_13 cb_m2 ?_
      refine gx_iast C hI shX_45 h dX9_bestSecond_15 (fun H locs h hI => ?_)
      refine gx_st h hI (fun s1 h hI => ?_)
      refine h_iinc C hl dX9_bestSecond_16 1 rfl ci_1 h (by decide) (lvf := fun v2 => [(1, .int v2), (0, .ref (ad 0))]) (fun _ => rfl) (fun v2 ls h hl => ?_)
      refine lv_goto (tgt := 2) hx hb dX9_bestSecond_19 (by decide) ?_
      exact ih _ _ _ _ _  h hI (lv_sub hl [1, 0] rfl)
set_option maxRecDepth 100000 in
set_option maxHeartbeats 4000000 in
theorem c_X9_bestSecond (l : Launch) (D : va_G) (t : gT) (ad z : Nat → Nat) (hJ : gJ shX ad) (σ : gS) (q : Int32 × gS) (h : f_X9_bestSecond σ = some q) : Met l yX9_bestSecond (Cond.code yX9_bestSecond cX9_bestSecond 3 (some .int) :: lw_tb) (gR 4 135) (gPc shX t ad D z [.ref (ad 0)] σ) (gQi shX t ad D q.1 q.2) 0 0 (gA shX ad) := by
  refine gMet "NineKeysRound" rfl (by decide) hJ (Nat.le_of_ble_eq_true rfl) ?_
  intro p e s m below meth c ls C hr hI hl
  have hx := C.1
  have hb := C.2.1
  have hl : lv_has ls 3 [(0, .ref (ad 0))] := hl
  unfold f_X9_bestSecond at h
  refine lv_iconst hx hb dX9_bestSecond_0 ci_0 ?_
  refine lv_istore_n (lv' := [(1, .int 0), (0, .ref (ad 0))]) hx hb dX9_bestSecond_1 rfl hl (by decide) rfl (fun ls hl => ?_)
  exact w_X9_bestSecond_2 C hr    _ _ _ _ _ _  h hI (lv_sub hl [1, 0] rfl)
set_option maxRecDepth 100000 in
set_option maxHeartbeats 4000000 in
theorem w_X9_two_47 {p : Program} {l : Launch} {e : Env} {s : State} {m : MethodId} {args : Array Value} {below : List Frame} {meth : Method} {c : Code} {D : va_G} {t : gT} {ad z : Nat → Nat} (C : gC p s m args meth c cX9_two 6 "NineKeysRound" D t shX ad z) (hr : meth.sig.returnType = some .int) {r : Int32 × gS} : ∀ (x1 : Int32) (x2 : Int32) (x3 : Int32) (x4 : Int32) (σ : gS) (H : Heap) (locs : List Loc) (ls : Array Slot), f_X9_two_47 x1 x2 x3 x4 σ = some r → gI shX t ad D s.heap σ H locs → lv_has ls 6 [(0, .ref (ad 0)), (1, .int x1), (2, .int x2), (3, .int x3), (4, .int x4)] → W p l e (gR 6 171) s m args below meth c H locs 0 0 (MQ below (gQi shX t ad D r.1 r.2) args s 0 0 (gA shX ad)) (F0 m 47 ls []) := by
  have hx := C.1
  have hb := C.2.1
  intro x1 x2 x3 x4 σ H locs ls  h hI hl
  unfold f_X9_two_47 at h
  refine lv_aload_n hx hb dX9_two_47 rfl (lv_at hl 0 rfl) ?_
  refine lv_iload_n hx hb dX9_two_48 rfl (lv_at hl 1 rfl) ?_
  refine h_callvi_w (rest := []) C hI hl.1 shX_0 rfl yv_X9_layForth k_521 h (fun q hq => c_X9_layForth l D t ad z C.2.2.2.2.2.2.1 (σ) x1 q hq) (As := [.int x1]) rfl rfl ⟨Nat.le_of_ble_eq_true rfl, Nat.le_of_ble_eq_true rfl⟩ (Nat.le_of_ble_eq_true rfl) dX9_two_49 (fun q1 H locs h hI => ?_)
  refine lv_istore (lv' := [(5, .int q1.1), (0, .ref (ad 0)), (1, .int x1), (2, .int x2), (3, .int x3), (4, .int x4)]) hx hb dX9_two_52 hl (by decide) rfl (fun ls hl => ?_)
  refine lv_iload hx hb dX9_two_54 (lv_at hl 0 rfl) ?_
  refine hif_ge (tgt := 62) C dX9_two_56 (by decide) h (fun h => ?_) (fun h => ?_)
  · refine lv_iload hx hb dX9_two_62 (lv_at hl 5 rfl) ?_
    refine hif_eq (tgt := 72) C dX9_two_64 (by decide) h (fun h => ?_) (fun h => ?_)
    · refine lv_aload_n hx hb dX9_two_72 rfl (lv_at hl 1 rfl) ?_
      refine fr_267 C hI shX_0 rfl dX9_two_73 ?_
      refine lv_aload_n hx hb dX9_two_76 rfl (lv_at hl 1 rfl) ?_
      refine fr_265 C hI shX_0 rfl dX9_two_77 ?_
      refine lv_iload_n hx hb dX9_two_80 rfl (lv_at hl 3 rfl) ?_
      refine lv_sipush hx hb dX9_two_81 cs_999 ?_
      refine h_callvv_w (rest := []) C hI hl.1 shX_32 rfl yv_X6_gather k_578 h (fun q hq => c_X6_gather l D t ad z C.2.2.2.2.2.2.1 26 shX_26 shX_27 shX_28 q1.2 x2 999 q hq) (As := [.ref (ad 26), .int x2, .int 999]) rfl rfl ⟨Nat.le_of_ble_eq_true rfl, Nat.le_of_ble_eq_true rfl⟩ (Nat.le_of_ble_eq_true rfl) dX9_two_84 (fun q2 H locs h hI => ?_)
      refine lv_aload_n hx hb dX9_two_87 rfl (lv_at hl 1 rfl) ?_
      refine fr_267 C hI shX_0 rfl dX9_two_88 ?_
      refine lv_iload_n hx hb dX9_two_91 rfl (lv_at hl 4 rfl) ?_
      refine lv_sipush hx hb dX9_two_92 cs_999 ?_
      refine h_callvi_o (rest := []) C hI hl.1 shX_32 rfl yv_X6_widestOfTwo k_768 h (fun q hq => c_X6_widestOfTwo l D t ad z C.2.2.2.2.2.2.1 q2 x3 999 q hq) (As := [.int x3, .int 999]) rfl rfl ⟨Nat.le_of_ble_eq_true rfl, Nat.le_of_ble_eq_true rfl⟩ (Nat.le_of_ble_eq_true rfl) dX9_two_95 (fun q3 H locs h hI => ?_)
      exact h_iret_w C hr hI h dX9_two_98
    · refine lv_aload_n hx hb dX9_two_67 rfl (lv_at hl 1 rfl) ?_
      refine h_callvi_w (rest := []) C hI hl.1 shX_0 rfl yv_X9_bestSecond k_764 h (fun q hq => c_X9_bestSecond l D t ad z C.2.2.2.2.2.2.1 q1.2 q hq) (As := []) rfl rfl ⟨Nat.le_of_ble_eq_true rfl, Nat.le_of_ble_eq_true rfl⟩ (Nat.le_of_ble_eq_true rfl) dX9_two_68 (fun q4 H locs h hI => ?_)
      exact h_iret_w C hr hI h dX9_two_71
  · refine lv_iload hx hb dX9_two_59 (lv_at hl 0 rfl) ?_
    exact h_iret_w C hr hI h dX9_two_61
set_option maxRecDepth 100000 in
set_option maxHeartbeats 4000000 in
theorem w_X9_two_10 {p : Program} {l : Launch} {e : Env} {s : State} {m : MethodId} {args : Array Value} {below : List Frame} {meth : Method} {c : Code} {D : va_G} {t : gT} {ad z : Nat → Nat} (C : gC p s m args meth c cX9_two 6 "NineKeysRound" D t shX ad z) (hr : meth.sig.returnType = some .int) {r : Int32 × gS} : ∀ (x1 : Int32) (x2 : Int32) (x3 : Int32) (s0 : Int32) (σ : gS) (H : Heap) (locs : List Loc) (ls : Array Slot), f_X9_two_10 x1 x2 x3 s0 σ = some r → gI shX t ad D s.heap σ H locs → lv_has ls 6 [(0, .ref (ad 0)), (1, .int x1), (2, .int x2), (3, .int x3)] → W p l e (gR 6 171) s m args below meth c H locs 0 0 (MQ below (gQi shX t ad D r.1 r.2) args s 0 0 (gA shX ad)) (F0 m 10 ls [.int s0]) := by
  have hx := C.1
  have hb := C.2.1
  intro x1 x2 x3 s0 σ H locs ls  h hI hl
  unfold f_X9_two_10 at h
  refine lv_istore (lv' := [(4, .int s0), (0, .ref (ad 0)), (1, .int x1), (2, .int x2), (3, .int x3)]) hx hb dX9_two_10 hl (by decide) rfl (fun ls hl => ?_)
  refine lv_iload_n hx hb dX9_two_12 rfl (lv_at hl 2 rfl) ?_
  refine h_callsi_o (rest := []) C hI hl.1 ys_X9_isShelf k_326 h (fun q hq => c_X9_isShelf l D t ad z C.2.2.2.2.2.2.1 (σ) x1 q hq) (As := [.int x1]) rfl rfl ⟨Nat.le_of_ble_eq_true rfl, Nat.le_of_ble_eq_true rfl⟩ (Nat.le_of_ble_eq_true rfl) dX9_two_13 (fun q1 H locs h hI => ?_)
  refine hif_eq (tgt := 45) C dX9_two_16 (by decide) h (fun h => ?_) (fun h => ?_)
  · refine lv_iconst hx hb dX9_two_45 ci_m1 ?_
    exact h_iret_w C hr hI h dX9_two_46
  · refine lv_iload hx hb dX9_two_19 (lv_at hl 0 rfl) ?_
    refine hif_ne (tgt := 47) C dX9_two_21 (by decide) h (fun h => ?_) (fun h => ?_)
    · exact w_X9_two_47 C hr    _ _ _ _ _ _ _ _  h hI (lv_sub hl [1, 2, 3, 4, 0] rfl)
    · refine lv_aload_n hx hb dX9_two_24 rfl (lv_at hl 1 rfl) ?_
      refine fr_261 C hI shX_0 rfl dX9_two_25 ?_
      refine lv_iload_n hx hb dX9_two_28 rfl (lv_at hl 3 rfl) ?_
      refine h_callvi_o (rest := []) C hI hl.1 shX_1 rfl yv_X8_isPost k_370 h (fun q hq => c_X8_isPost l D t ad z C.2.2.2.2.2.2.1 (σ) x2 q hq) (As := [.int x2]) rfl rfl ⟨Nat.le_of_ble_eq_true rfl, Nat.le_of_ble_eq_true rfl⟩ (Nat.le_of_ble_eq_true rfl) dX9_two_29 (fun q2 H locs h hI => ?_)
      refine hif_eq (tgt := 45) C dX9_two_32 (by decide) h (fun h => ?_) (fun h => ?_)
      · refine lv_iconst hx hb dX9_two_45 ci_m1 ?_
        exact h_iret_w C hr hI h dX9_two_46
      · refine lv_iload_n hx hb dX9_two_35 rfl (lv_at hl 4 rfl) ?_
        refine hif_lt (tgt := 45) C dX9_two_36 (by decide) h (fun h => ?_) (fun h => ?_)
        · refine lv_iconst hx hb dX9_two_45 ci_m1 ?_
          exact h_iret_w C hr hI h dX9_two_46
        · refine lv_iload_n hx hb dX9_two_39 rfl (lv_at hl 4 rfl) ?_
          refine lv_bipush hx hb dX9_two_40 cb_99 ?_
          refine hicmp_le (tgt := 47) C dX9_two_42 (by decide) h (fun h => ?_) (fun h => ?_)
          · exact w_X9_two_47 C hr    _ _ _ _ _ _ _ _  h hI (lv_sub hl [1, 2, 3, 4, 0] rfl)
          · refine lv_iconst hx hb dX9_two_45 ci_m1 ?_
            exact h_iret_w C hr hI h dX9_two_46
set_option maxRecDepth 100000 in
set_option maxHeartbeats 4000000 in
theorem c_X9_two (l : Launch) (D : va_G) (t : gT) (ad z : Nat → Nat) (hJ : gJ shX ad) (σ : gS) (x1 : Int32) (x2 : Int32) (x3 : Int32) (q : Int32 × gS) (h : f_X9_two σ x1 x2 x3 = some q) : Met l yX9_two (Cond.code yX9_two cX9_two 6 (some .int) :: lw_tb) (gR 6 171) (gPc shX t ad D z [.ref (ad 0), .int x1, .int x2, .int x3] σ) (gQi shX t ad D q.1 q.2) 0 0 (gA shX ad) := by
  refine gMet "NineKeysRound" rfl (by decide) hJ (Nat.le_of_ble_eq_true rfl) ?_
  intro p e s m below meth c ls C hr hI hl
  have hx := C.1
  have hb := C.2.1
  have hl : lv_has ls 6 [(0, .ref (ad 0)), (1, .int x1), (2, .int x2), (3, .int x3)] := hl
  unfold f_X9_two at h
  refine lv_iload_n hx hb dX9_two_0 rfl (lv_at hl 2 rfl) ?_
  refine lv_iconst hx hb dX9_two_1 ci_m1 ?_
  refine hicmp_ne (tgt := 9) C dX9_two_2 (by decide) h (fun h => ?_) (fun h => ?_)
  · refine lv_iconst hx hb dX9_two_9 ci_0 ?_
    exact w_X9_two_10 C hr    _ _ _ _ _ _ _ _  h hI (lv_sub hl [0, 1, 2, 3] rfl)
  · refine lv_iconst hx hb dX9_two_5 ci_1 ?_
    refine lv_goto (tgt := 10) hx hb dX9_two_6 (by decide) ?_
    exact w_X9_two_10 C hr    _ _ _ _ _ _ _ _  h hI (lv_sub hl [0, 1, 2, 3] rfl)
set_option maxRecDepth 100000 in
set_option maxHeartbeats 4000000 in
theorem c_X9_isOddsAndNeed (l : Launch) (D : va_G) (t : gT) (ad z : Nat → Nat) (hJ : gJ shX ad) (σ : gS) (x0 : Int32) (q : Int32) (h : f_X9_isOddsAndNeed σ x0 = some q) : Met l yX9_isOddsAndNeed (Cond.code yX9_isOddsAndNeed cX9_isOddsAndNeed 1 (some .boolean) :: lw_tb) (gR 2 80) (gPc shX t ad D z [.int x0] σ) (gQi shX t ad D q σ) 0 0 (gA shX ad) := by
  refine gMet "NineKeysRound" rfl (by decide) hJ (Nat.le_of_ble_eq_true rfl) ?_
  intro p e s m below meth c ls C hr hI hl
  have hx := C.1
  have hb := C.2.1
  have hl : lv_has ls 1 [(0, .int x0)] := hl
  unfold f_X9_isOddsAndNeed at h
  refine lv_iload_n hx hb dX9_isOddsAndNeed_0 rfl (lv_at hl 0 rfl) ?_
  refine hif_lt (tgt := 27) C dX9_isOddsAndNeed_1 (by decide) h (fun h => ?_) (fun h => ?_)
  · refine lv_iconst hx hb dX9_isOddsAndNeed_27 ci_0 ?_
    exact h_zret_o C hr hI h dX9_isOddsAndNeed_28
  · refine lv_iload_n hx hb dX9_isOddsAndNeed_4 rfl (lv_at hl 0 rfl) ?_
    refine lv_bipush hx hb dX9_isOddsAndNeed_5 cb_100 ?_
    refine h_idiv C dX9_isOddsAndNeed_7 h (fun h => ?_)
    refine lv_bipush hx hb dX9_isOddsAndNeed_8 cb_12 ?_
    refine hicmp_gt (tgt := 27) C dX9_isOddsAndNeed_10 (by decide) h (fun h => ?_) (fun h => ?_)
    · refine lv_iconst hx hb dX9_isOddsAndNeed_27 ci_0 ?_
      exact h_zret_o C hr hI h dX9_isOddsAndNeed_28
    · refine lv_iload_n hx hb dX9_isOddsAndNeed_13 rfl (lv_at hl 0 rfl) ?_
      refine lv_bipush hx hb dX9_isOddsAndNeed_14 cb_100 ?_
      refine h_irem C dX9_isOddsAndNeed_16 h (fun h => ?_)
      refine h_callsi_o (rest := []) C hI hl.1 ys_X9_isNeed k_745 h (fun q hq => c_X9_isNeed l D t ad z C.2.2.2.2.2.2.1 (σ) (x0 - x0 / 100 * 100) q hq) (As := [.int (x0 - x0 / 100 * 100)]) rfl rfl ⟨Nat.le_of_ble_eq_true rfl, Nat.le_of_ble_eq_true rfl⟩ (Nat.le_of_ble_eq_true rfl) dX9_isOddsAndNeed_17 (fun q1 H locs h hI => ?_)
      refine hif_eq (tgt := 27) C dX9_isOddsAndNeed_20 (by decide) h (fun h => ?_) (fun h => ?_)
      · refine lv_iconst hx hb dX9_isOddsAndNeed_27 ci_0 ?_
        exact h_zret_o C hr hI h dX9_isOddsAndNeed_28
      · refine lv_iconst hx hb dX9_isOddsAndNeed_23 ci_1 ?_
        refine lv_goto (tgt := 28) hx hb dX9_isOddsAndNeed_24 (by decide) ?_
        exact h_zret_o C hr hI h dX9_isOddsAndNeed_28
set_option maxRecDepth 100000 in
set_option maxHeartbeats 4000000 in
theorem c_X9_layBoth (l : Launch) (D : va_G) (t : gT) (ad z : Nat → Nat) (hJ : gJ shX ad) (σ : gS) (x1 : Int32) (q : Int32 × gS) (h : f_X9_layBoth σ x1 = some q) : Met l yX9_layBoth (Cond.code yX9_layBoth cX9_layBoth 3 (some .int) :: lw_tb) (gR 6 171) (gPc shX t ad D z [.ref (ad 0), .int x1] σ) (gQi shX t ad D q.1 q.2) 0 0 (gA shX ad) := by
  refine gMet "NineKeysRound" rfl (by decide) hJ (Nat.le_of_ble_eq_true rfl) ?_
  intro p e s m below meth c ls C hr hI hl
  have hx := C.1
  have hb := C.2.1
  have hl : lv_has ls 3 [(0, .ref (ad 0)), (1, .int x1)] := hl
  unfold f_X9_layBoth at h
  refine lv_aload_n hx hb dX9_layBoth_0 rfl (lv_at hl 0 rfl) ?_
  refine lv_iload_n hx hb dX9_layBoth_1 rfl (lv_at hl 1 rfl) ?_
  refine h_callvi_w (rest := []) C hI hl.1 shX_0 rfl yv_X9_layForth k_521 h (fun q hq => c_X9_layForth l D t ad z C.2.2.2.2.2.2.1 (σ) x1 q hq) (As := [.int x1]) rfl rfl ⟨Nat.le_of_ble_eq_true rfl, Nat.le_of_ble_eq_true rfl⟩ (Nat.le_of_ble_eq_true rfl) dX9_layBoth_2 (fun q1 H locs h hI => ?_)
  refine lv_istore_n (lv' := [(2, .int q1.1), (0, .ref (ad 0)), (1, .int x1)]) hx hb dX9_layBoth_5 rfl hl (by decide) rfl (fun ls hl => ?_)
  refine lv_iload_n hx hb dX9_layBoth_6 rfl (lv_at hl 0 rfl) ?_
  refine hif_ne (tgt := 21) C dX9_layBoth_7 (by decide) h (fun h => ?_) (fun h => ?_)
  · refine lv_iload_n hx hb dX9_layBoth_21 rfl (lv_at hl 0 rfl) ?_
    exact h_iret_w C hr hI h dX9_layBoth_22
  · refine lv_aload_n hx hb dX9_layBoth_10 rfl (lv_at hl 1 rfl) ?_
    refine fr_266 C hI shX_0 rfl dX9_layBoth_11 ?_
    refine lv_aload_n hx hb dX9_layBoth_14 rfl (lv_at hl 1 rfl) ?_
    refine fr_265 C hI shX_0 rfl dX9_layBoth_15 ?_
    refine h_callvv_w (rest := []) C hI hl.1 shX_29 rfl yv_X1_layTurned k_787 h (fun q hq => c_X1_layTurned l D t ad z C.2.2.2.2.2.2.1 q1.2 q hq) (As := [.ref (ad 26)]) rfl rfl ⟨Nat.le_of_ble_eq_true rfl, Nat.le_of_ble_eq_true rfl⟩ (Nat.le_of_ble_eq_true rfl) dX9_layBoth_18 (fun q2 H locs h hI => ?_)
    refine lv_iload_n hx hb dX9_layBoth_21 rfl (lv_at hl 0 rfl) ?_
    exact h_iret_w C hr hI h dX9_layBoth_22
set_option maxRecDepth 100000 in
set_option maxHeartbeats 4000000 in
theorem c_X9_isFree (l : Launch) (D : va_G) (t : gT) (ad z : Nat → Nat) (hJ : gJ shX ad) (kC : Nat) (h_kC : shX[kC]? = some (.inr (.inl (1, [some 1, some (kC + 1), some (kC + 2), none, none, none])))) (h_kC1 : shX[kC + 1]? = some (.inl (0, 20))) (h_kC2 : shX[kC + 2]? = some (.inl (0, 20))) (σ : gS) (x2 : Int32) (x3 : Int32) (x4 : Int32) (q : Int32 × gS) (h : f_X9_isFree σ kC x2 x3 x4 = some q) : Met l yX9_isFree (Cond.code yX9_isFree cX9_isFree 5 (some .boolean) :: lw_tb) (gR 4 135) (gPc shX t ad D z [.ref (ad 0), .ref (ad kC), .int x2, .int x3, .int x4] σ) (gQi shX t ad D q.1 q.2) 0 0 (gA shX ad) := by
  refine gMet "NineKeysRound" rfl (by decide) hJ (Nat.le_of_ble_eq_true rfl) ?_
  intro p e s m below meth c ls C hr hI hl
  have hx := C.1
  have hb := C.2.1
  have hl : lv_has ls 5 [(0, .ref (ad 0)), (1, .ref (ad kC)), (2, .int x2), (3, .int x3), (4, .int x4)] := hl
  unfold f_X9_isFree at h
  refine lv_aload_n hx hb dX9_isFree_0 rfl (lv_at hl 0 rfl) ?_
  refine fr_267 C hI shX_0 rfl dX9_isFree_1 ?_
  refine lv_aload_n hx hb dX9_isFree_4 rfl (lv_at hl 1 rfl) ?_
  refine lv_iload_n hx hb dX9_isFree_5 rfl (lv_at hl 2 rfl) ?_
  refine lv_iload_n hx hb dX9_isFree_6 rfl (lv_at hl 3 rfl) ?_
  refine lv_iload hx hb dX9_isFree_7 (lv_at hl 4 rfl) ?_
  refine lv_iadd hx hb dX9_isFree_9 ?_
  refine lv_iconst hx hb dX9_isFree_10 ci_1 ?_
  refine lv_isub hx hb dX9_isFree_11 ?_
  refine h_callvv_w (rest := []) C hI hl.1 shX_32 rfl yv_X6_gather k_578 h (fun q hq => c_X6_gather l D t ad z C.2.2.2.2.2.2.1 kC h_kC h_kC1 h_kC2 (σ) x2 ((x3 + x4) - 1) q hq) (As := [.ref (ad kC), .int x2, .int ((x3 + x4) - 1)]) rfl rfl ⟨Nat.le_of_ble_eq_true rfl, Nat.le_of_ble_eq_true rfl⟩ (Nat.le_of_ble_eq_true rfl) dX9_isFree_12 (fun q1 H locs h hI => ?_)
  refine lv_aload_n hx hb dX9_isFree_15 rfl (lv_at hl 0 rfl) ?_
  refine fr_267 C hI shX_0 rfl dX9_isFree_16 ?_
  refine lv_iload_n hx hb dX9_isFree_19 rfl (lv_at hl 3 rfl) ?_
  refine lv_iload hx hb dX9_isFree_20 (lv_at hl 4 rfl) ?_
  refine h_callvi_o (rest := []) C hI hl.1 shX_32 rfl yv_X6_freeFrom k_752 h (fun q hq => c_X6_freeFrom l D t ad z C.2.2.2.2.2.2.1 q1 x3 x4 q hq) (As := [.int x3, .int x4]) rfl rfl ⟨Nat.le_of_ble_eq_true rfl, Nat.le_of_ble_eq_true rfl⟩ (Nat.le_of_ble_eq_true rfl) dX9_isFree_22 (fun q2 H locs h hI => ?_)
  refine lv_iload_n hx hb dX9_isFree_25 rfl (lv_at hl 3 rfl) ?_
  refine hicmp_ne (tgt := 33) C dX9_isFree_26 (by decide) h (fun h => ?_) (fun h => ?_)
  · refine lv_iconst hx hb dX9_isFree_33 ci_0 ?_
    exact h_zret_w C hr hI h dX9_isFree_34
  · refine lv_iconst hx hb dX9_isFree_29 ci_1 ?_
    refine lv_goto (tgt := 34) hx hb dX9_isFree_30 (by decide) ?_
    exact h_zret_w C hr hI h dX9_isFree_34
set_option maxRecDepth 100000 in
set_option maxHeartbeats 4000000 in
theorem w_X9_twelfths_11 {p : Program} {l : Launch} {e : Env} {s : State} {m : MethodId} {args : Array Value} {below : List Frame} {meth : Method} {c : Code} {D : va_G} {t : gT} {ad z : Nat → Nat} {σ : gS} (C : gC p s m args meth c cX9_twelfths 2 "NineKeysRound" D t shX ad z) (hr : meth.sig.returnType = some .int) {r : Int32} : ∀ (x0 : Int32) (x1 : Int32) (s0 : Int32) (H : Heap) (locs : List Loc) (ls : Array Slot), f_X9_twelfths_11 σ x0 x1 s0 = some r → gI shX t ad D s.heap σ H locs → lv_has ls 2 [(0, .int x0), (1, .int x1)] → W p l e (gR 1 60) s m args below meth c H locs 0 0 (MQ below (gQi shX t ad D r σ) args s 0 0 (gA shX ad)) (F0 m 11 ls [.int s0]) := by
  have hx := C.1
  have hb := C.2.1
  intro x0 x1 s0 H locs ls  h hI hl
  unfold f_X9_twelfths_11 at h
  refine lv_iload_n hx hb dX9_twelfths_11 rfl (lv_at hl 0 rfl) ?_
  refine lv_iconst hx hb dX9_twelfths_12 ci_2 ?_
  refine lv_iand hx hb dX9_twelfths_13 ?_
  refine hif_eq (tgt := 24) C dX9_twelfths_14 (by decide) h (fun h => ?_) (fun h => ?_)
  · refine lv_iconst hx hb dX9_twelfths_24 ci_0 ?_
    refine lv_iadd hx hb dX9_twelfths_25 ?_
    exact h_iret_o C hr hI h dX9_twelfths_26
  · refine lv_bipush hx hb dX9_twelfths_17 cb_12 ?_
    refine lv_iload_n hx hb dX9_twelfths_19 rfl (lv_at hl 1 rfl) ?_
    refine lv_isub hx hb dX9_twelfths_20 ?_
    refine lv_goto (tgt := 25) hx hb dX9_twelfths_21 (by decide) ?_
    refine lv_iadd hx hb dX9_twelfths_25 ?_
    exact h_iret_o C hr hI h dX9_twelfths_26
set_option maxRecDepth 100000 in
set_option maxHeartbeats 4000000 in
theorem c_X9_twelfths (l : Launch) (D : va_G) (t : gT) (ad z : Nat → Nat) (hJ : gJ shX ad) (σ : gS) (x0 : Int32) (x1 : Int32) (q : Int32) (h : f_X9_twelfths σ x0 x1 = some q) : Met l yX9_twelfths (Cond.code yX9_twelfths cX9_twelfths 2 (some .int) :: lw_tb) (gR 1 60) (gPc shX t ad D z [.int x0, .int x1] σ) (gQi shX t ad D q σ) 0 0 (gA shX ad) := by
  refine gMet "NineKeysRound" rfl (by decide) hJ (Nat.le_of_ble_eq_true rfl) ?_
  intro p e s m below meth c ls C hr hI hl
  have hx := C.1
  have hb := C.2.1
  have hl : lv_has ls 2 [(0, .int x0), (1, .int x1)] := hl
  unfold f_X9_twelfths at h
  refine lv_iload_n hx hb dX9_twelfths_0 rfl (lv_at hl 0 rfl) ?_
  refine lv_iconst hx hb dX9_twelfths_1 ci_1 ?_
  refine lv_iand hx hb dX9_twelfths_2 ?_
  refine hif_eq (tgt := 10) C dX9_twelfths_3 (by decide) h (fun h => ?_) (fun h => ?_)
  · refine lv_iconst hx hb dX9_twelfths_10 ci_0 ?_
    exact w_X9_twelfths_11 C hr    _ _ _ _ _ _  h hI (lv_sub hl [0, 1] rfl)
  · refine lv_iload_n hx hb dX9_twelfths_6 rfl (lv_at hl 1 rfl) ?_
    refine lv_goto (tgt := 11) hx hb dX9_twelfths_7 (by decide) ?_
    exact w_X9_twelfths_11 C hr    _ _ _ _ _ _  h hI (lv_sub hl [0, 1] rfl)
set_option maxRecDepth 100000 in
set_option maxHeartbeats 4000000 in
theorem w_X9_success_104 {p : Program} {l : Launch} {e : Env} {s : State} {m : MethodId} {args : Array Value} {below : List Frame} {meth : Method} {c : Code} {D : va_G} {t : gT} {ad z : Nat → Nat} (C : gC p s m args meth c cX9_success 8 "NineKeysRound" D t shX ad z) (hr : meth.sig.returnType = some .int) {r : Int32 × gS} : ∀ (x4 : Int32) (x7 : Int32) (σ : gS) (H : Heap) (locs : List Loc) (ls : Array Slot), f_X9_success_104 x4 x7 σ = some r → gI shX t ad D s.heap σ H locs → lv_has ls 8 [(4, .int x4), (7, .int x7)] → W p l e (gR 7 193) s m args below meth c H locs 0 0 (MQ below (gQi shX t ad D r.1 r.2) args s 0 0 (gA shX ad)) (F0 m 104 ls []) := by
  have hx := C.1
  have hb := C.2.1
  intro x4 x7 σ H locs ls  h hI hl
  unfold f_X9_success_104 at h
  refine lv_iload hx hb dX9_success_104 (lv_at hl 1 rfl) ?_
  refine lv_iload hx hb dX9_success_106 (lv_at hl 0 rfl) ?_
  refine lv_bipush hx hb dX9_success_108 cb_100 ?_
  refine h_idiv C dX9_success_110 h (fun h => ?_)
  refine h_callsi_o (rest := []) C hI hl.1 ys_X9_twelfths k_795 h (fun q hq => c_X9_twelfths l D t ad z C.2.2.2.2.2.2.1 (σ) x7 (x4 / 100) q hq) (As := [.int x7, .int (x4 / 100)]) rfl rfl ⟨Nat.le_of_ble_eq_true rfl, Nat.le_of_ble_eq_true rfl⟩ (Nat.le_of_ble_eq_true rfl) dX9_success_111 (fun q1 H locs h hI => ?_)
  exact h_iret_w C hr hI h dX9_success_114
set_option maxRecDepth 100000 in
set_option maxHeartbeats 4000000 in
theorem w_X9_success_81 {p : Program} {l : Launch} {e : Env} {s : State} {m : MethodId} {args : Array Value} {below : List Frame} {meth : Method} {c : Code} {D : va_G} {t : gT} {ad z : Nat → Nat} (C : gC p s m args meth c cX9_success 8 "NineKeysRound" D t shX ad z) (hr : meth.sig.returnType = some .int) {r : Int32 × gS} : ∀ (x2 : Int32) (x3 : Int32) (x4 : Int32) (x6 : Int32) (s0 : Int32) (σ : gS) (H : Heap) (locs : List Loc) (ls : Array Slot), f_X9_success_81 x2 x3 x4 x6 s0 σ = some r → gI shX t ad D s.heap σ H locs → lv_has ls 8 [(0, .ref (ad 0)), (2, .int x2), (3, .int x3), (4, .int x4), (6, .int x6)] → W p l e (gR 7 193) s m args below meth c H locs 0 0 (MQ below (gQi shX t ad D r.1 r.2) args s 0 0 (gA shX ad)) (F0 m 81 ls [.int s0]) := by
  have hx := C.1
  have hb := C.2.1
  intro x2 x3 x4 x6 s0 σ H locs ls  h hI hl
  unfold f_X9_success_81 at h
  refine lv_istore (lv' := [(7, .int s0), (0, .ref (ad 0)), (2, .int x2), (3, .int x3), (4, .int x4), (6, .int x6)]) hx hb dX9_success_81 hl (by decide) rfl (fun ls hl => ?_)
  refine lv_aload_n hx hb dX9_success_83 rfl (lv_at hl 1 rfl) ?_
  refine lv_aload_n hx hb dX9_success_84 rfl (lv_at hl 1 rfl) ?_
  refine fr_266 C hI shX_0 rfl dX9_success_85 ?_
  refine lv_iload_n hx hb dX9_success_88 rfl (lv_at hl 2 rfl) ?_
  refine lv_iload_n hx hb dX9_success_89 rfl (lv_at hl 3 rfl) ?_
  refine lv_iload hx hb dX9_success_90 (lv_at hl 5 rfl) ?_
  refine h_callvi_w (rest := []) C hI hl.1 shX_0 rfl yv_X9_isFree k_791 h (fun q hq => c_X9_isFree l D t ad z C.2.2.2.2.2.2.1 29 shX_29 shX_30 shX_31 (σ) x2 x3 x6 q hq) (As := [.ref (ad 29), .int x2, .int x3, .int x6]) rfl rfl ⟨Nat.le_of_ble_eq_true rfl, Nat.le_of_ble_eq_true rfl⟩ (Nat.le_of_ble_eq_true rfl) dX9_success_92 (fun q1 H locs h hI => ?_)
  refine hif_eq (tgt := 104) C dX9_success_95 (by decide) h (fun h => ?_) (fun h => ?_)
  · exact w_X9_success_104 C hr    _ _ _ _ _ _  h hI (lv_sub hl [4, 0] rfl)
  · refine lv_iload hx hb dX9_success_98 (lv_at hl 0 rfl) ?_
    refine lv_iconst hx hb dX9_success_100 ci_2 ?_
    refine lv_ior hx hb dX9_success_101 ?_
    refine gx_topi h (fun v2 h => ?_)
    refine lv_istore (lv' := [(7, .int v2), (0, .ref (ad 0)), (2, .int x2), (3, .int x3), (4, .int x4), (6, .int x6)]) hx hb dX9_success_102 hl (by decide) rfl (fun ls hl => ?_)
    exact w_X9_success_104 C hr    _ _ _ _ _ _  h hI (lv_sub hl [4, 0] rfl)
set_option maxRecDepth 100000 in
set_option maxHeartbeats 4000000 in
theorem c_X9_success (l : Launch) (D : va_G) (t : gT) (ad z : Nat → Nat) (hJ : gJ shX ad) (σ : gS) (x1 : Int32) (x2 : Int32) (x3 : Int32) (x4 : Int32) (q : Int32 × gS) (h : f_X9_success σ x1 x2 x3 x4 = some q) : Met l yX9_success (Cond.code yX9_success cX9_success 8 (some .int) :: lw_tb) (gR 7 193) (gPc shX t ad D z [.ref (ad 0), .int x1, .int x2, .int x3, .int x4] σ) (gQi shX t ad D q.1 q.2) 0 0 (gA shX ad) := by
  refine gMet "NineKeysRound" rfl (by decide) hJ (Nat.le_of_ble_eq_true rfl) ?_
  intro p e s m below meth c ls C hr hI hl
  have hx := C.1
  have hb := C.2.1
  have hl : lv_has ls 8 [(0, .ref (ad 0)), (1, .int x1), (2, .int x2), (3, .int x3), (4, .int x4)] := hl
  unfold f_X9_success at h
  refine lv_iload_n hx hb dX9_success_0 rfl (lv_at hl 1 rfl) ?_
  refine h_callsi_o (rest := []) C hI hl.1 ys_X9_isShelf k_326 h (fun q hq => c_X9_isShelf l D t ad z C.2.2.2.2.2.2.1 (σ) x1 q hq) (As := [.int x1]) rfl rfl ⟨Nat.le_of_ble_eq_true rfl, Nat.le_of_ble_eq_true rfl⟩ (Nat.le_of_ble_eq_true rfl) dX9_success_1 (fun q1 H locs h hI => ?_)
  refine hif_eq (tgt := 37) C dX9_success_4 (by decide) h (fun h => ?_) (fun h => ?_)
  · refine lv_iconst hx hb dX9_success_37 ci_m1 ?_
    exact h_iret_w C hr hI h dX9_success_38
  · refine lv_aload_n hx hb dX9_success_7 rfl (lv_at hl 0 rfl) ?_
    refine fr_261 C hI shX_0 rfl dX9_success_8 ?_
    refine lv_iload_n hx hb dX9_success_11 rfl (lv_at hl 2 rfl) ?_
    refine h_callvi_o (rest := []) C hI hl.1 shX_1 rfl yv_X8_isPost k_370 h (fun q hq => c_X8_isPost l D t ad z C.2.2.2.2.2.2.1 (σ) x2 q hq) (As := [.int x2]) rfl rfl ⟨Nat.le_of_ble_eq_true rfl, Nat.le_of_ble_eq_true rfl⟩ (Nat.le_of_ble_eq_true rfl) dX9_success_12 (fun q2 H locs h hI => ?_)
    refine hif_eq (tgt := 37) C dX9_success_15 (by decide) h (fun h => ?_) (fun h => ?_)
    · refine lv_iconst hx hb dX9_success_37 ci_m1 ?_
      exact h_iret_w C hr hI h dX9_success_38
    · refine lv_iload_n hx hb dX9_success_18 rfl (lv_at hl 3 rfl) ?_
      refine hif_lt (tgt := 37) C dX9_success_19 (by decide) h (fun h => ?_) (fun h => ?_)
      · refine lv_iconst hx hb dX9_success_37 ci_m1 ?_
        exact h_iret_w C hr hI h dX9_success_38
      · refine lv_iload_n hx hb dX9_success_22 rfl (lv_at hl 3 rfl) ?_
        refine lv_sipush hx hb dX9_success_23 cs_600 ?_
        refine hicmp_ge (tgt := 37) C dX9_success_26 (by decide) h (fun h => ?_) (fun h => ?_)
        · refine lv_iconst hx hb dX9_success_37 ci_m1 ?_
          exact h_iret_w C hr hI h dX9_success_38
        · refine lv_iload hx hb dX9_success_29 (lv_at hl 4 rfl) ?_
          refine h_callsi_o (rest := []) C hI hl.1 ys_X9_isOddsAndNeed k_780 h (fun q hq => c_X9_isOddsAndNeed l D t ad z C.2.2.2.2.2.2.1 (σ) x4 q hq) (As := [.int x4]) rfl rfl ⟨Nat.le_of_ble_eq_true rfl, Nat.le_of_ble_eq_true rfl⟩ (Nat.le_of_ble_eq_true rfl) dX9_success_31 (fun q3 H locs h hI => ?_)
          refine hif_ne (tgt := 39) C dX9_success_34 (by decide) h (fun h => ?_) (fun h => ?_)
          · refine lv_aload_n hx hb dX9_success_39 rfl (lv_at hl 0 rfl) ?_
            refine lv_iload_n hx hb dX9_success_40 rfl (lv_at hl 1 rfl) ?_
            refine h_callvi_w (rest := []) C hI hl.1 shX_0 rfl yv_X9_layBoth k_783 h (fun q hq => c_X9_layBoth l D t ad z C.2.2.2.2.2.2.1 (σ) x1 q hq) (As := [.int x1]) rfl rfl ⟨Nat.le_of_ble_eq_true rfl, Nat.le_of_ble_eq_true rfl⟩ (Nat.le_of_ble_eq_true rfl) dX9_success_41 (fun q4 H locs h hI => ?_)
            refine lv_istore (lv' := [(5, .int q4.1), (0, .ref (ad 0)), (1, .int x1), (2, .int x2), (3, .int x3), (4, .int x4)]) hx hb dX9_success_44 hl (by decide) rfl (fun ls hl => ?_)
            refine lv_iload hx hb dX9_success_46 (lv_at hl 0 rfl) ?_
            refine hif_ge (tgt := 54) C dX9_success_48 (by decide) h (fun h => ?_) (fun h => ?_)
            · refine lv_iload hx hb dX9_success_54 (lv_at hl 5 rfl) ?_
              refine lv_bipush hx hb dX9_success_56 cb_100 ?_
              refine h_irem C dX9_success_58 h (fun h => ?_)
              refine gx_topi h (fun v5 h => ?_)
              refine lv_istore (lv' := [(6, .int v5), (5, .int q4.1), (0, .ref (ad 0)), (1, .int x1), (2, .int x2), (3, .int x3), (4, .int x4)]) hx hb dX9_success_59 hl (by decide) rfl (fun ls hl => ?_)
              refine lv_aload_n hx hb dX9_success_61 rfl (lv_at hl 2 rfl) ?_
              refine lv_aload_n hx hb dX9_success_62 rfl (lv_at hl 2 rfl) ?_
              refine fr_265 C hI shX_0 rfl dX9_success_63 ?_
              refine lv_iload_n hx hb dX9_success_66 rfl (lv_at hl 4 rfl) ?_
              refine lv_iload_n hx hb dX9_success_67 rfl (lv_at hl 5 rfl) ?_
              refine lv_iload hx hb dX9_success_68 (lv_at hl 0 rfl) ?_
              refine h_callvi_w (rest := []) C hI hl.1 shX_0 rfl yv_X9_isFree k_791 h (fun q hq => c_X9_isFree l D t ad z C.2.2.2.2.2.2.1 26 shX_26 shX_27 shX_28 q4.2 x2 x3 v5 q hq) (As := [.ref (ad 26), .int x2, .int x3, .int v5]) rfl rfl ⟨Nat.le_of_ble_eq_true rfl, Nat.le_of_ble_eq_true rfl⟩ (Nat.le_of_ble_eq_true rfl) dX9_success_70 (fun q6 H locs h hI => ?_)
              refine hif_eq (tgt := 80) C dX9_success_73 (by decide) h (fun h => ?_) (fun h => ?_)
              · refine lv_iconst hx hb dX9_success_80 ci_0 ?_
                exact w_X9_success_81 C hr    _ _ _ _ _ _ _ _ _  h hI (lv_sub hl [2, 4, 5, 6, 0] rfl)
              · refine lv_iconst hx hb dX9_success_76 ci_1 ?_
                refine lv_goto (tgt := 81) hx hb dX9_success_77 (by decide) ?_
                exact w_X9_success_81 C hr    _ _ _ _ _ _ _ _ _  h hI (lv_sub hl [2, 4, 5, 6, 0] rfl)
            · refine lv_iload hx hb dX9_success_51 (lv_at hl 0 rfl) ?_
              exact h_iret_w C hr hI h dX9_success_53
          · refine lv_iconst hx hb dX9_success_37 ci_m1 ?_
            exact h_iret_w C hr hI h dX9_success_38
set_option maxRecDepth 100000 in
set_option maxHeartbeats 4000000 in
theorem w_X9_markFree_2 {p : Program} {l : Launch} {e : Env} {s : State} {m : MethodId} {args : Array Value} {below : List Frame} {meth : Method} {c : Code} {D : va_G} {t : gT} {ad z : Nat → Nat} (C : gC p s m args meth c cX9_markFree 4 "NineKeysRound" D t shX ad z) (hr : meth.sig.returnType = none) {r : gS} : ∀ (n : Nat) (x1 : Int32) (x2 : Int32) (x3 : Int32) (σ : gS) (H : Heap) (locs : List Loc) (ls : Array Slot), f_X9_markFree_2 n x1 x2 x3 σ = some r → gI shX t ad D s.heap σ H locs → lv_has ls 4 [(0, .ref (ad 0)), (1, .int x1), (2, .int x2), (3, .int x3)] → W p l e (gR 4 135) s m args below meth c H locs 0 0 (MQ below (gQv shX t ad D r) args s 0 0 (gA shX ad)) (F0 m 2 ls []) := by
  have hx := C.1
  have hb := C.2.1
  intro n
  induction n with
  | zero =>
    intro x1 x2 x3 σ H locs ls  h
    exact absurd h (by simp [f_X9_markFree_2])
  | succ n ih =>
    intro x1 x2 x3 σ H locs ls  h hI hl
    unfold f_X9_markFree_2 at h
    refine lv_iload_n hx hb dX9_markFree_2 rfl (lv_at hl 3 rfl) ?_
    refine lv_sipush hx hb dX9_markFree_3 cs_600 ?_
    refine hicmp_ge (tgt := 22) C dX9_markFree_6 (by decide) h (fun h => ?_) (fun h => ?_)
    · refine lv_aload_n hx hb dX9_markFree_22 rfl (lv_at hl 0 rfl) ?_
      refine fr_267 C hI shX_0 rfl dX9_markFree_23 ?_
      refine lv_aload_n hx hb dX9_markFree_26 rfl (lv_at hl 0 rfl) ?_
      refine fr_265 C hI shX_0 rfl dX9_markFree_27 ?_
      refine lv_iload_n hx hb dX9_markFree_30 rfl (lv_at hl 1 rfl) ?_
      refine lv_sipush hx hb dX9_markFree_31 cs_600 ?_
      refine lv_iload_n hx hb dX9_markFree_34 rfl (lv_at hl 2 rfl) ?_
      refine lv_iadd hx hb dX9_markFree_35 ?_
      refine lv_iconst hx hb dX9_markFree_36 ci_2 ?_
      refine lv_isub hx hb dX9_markFree_37 ?_
      refine h_callvv_w (rest := []) C hI hl.1 shX_32 rfl yv_X6_gather k_578 h (fun q hq => c_X6_gather l D t ad z C.2.2.2.2.2.2.1 26 shX_26 shX_27 shX_28 (σ) x1 ((600 + x2) - 2) q hq) (As := [.ref (ad 26), .int x1, .int ((600 + x2) - 2)]) rfl rfl ⟨Nat.le_of_ble_eq_true rfl, Nat.le_of_ble_eq_true rfl⟩ (Nat.le_of_ble_eq_true rfl) dX9_markFree_38 (fun q1 H locs h hI => ?_)
      refine lv_aload_n hx hb dX9_markFree_41 rfl (lv_at hl 0 rfl) ?_
      refine fr_267 C hI shX_0 rfl dX9_markFree_42 ?_
      refine lv_aload_n hx hb dX9_markFree_45 rfl (lv_at hl 0 rfl) ?_
      refine fr_272 C hI shX_0 rfl dX9_markFree_46 ?_
      refine lv_iload_n hx hb dX9_markFree_49 rfl (lv_at hl 2 rfl) ?_
      refine lv_iconst hx hb dX9_markFree_50 ci_1 ?_
      refine h_callvv_w (rest := []) C hI hl.1 shX_32 rfl yv_X6_strikeOut k_806 h (fun q hq => c_X6_strikeOut l D t ad z C.2.2.2.2.2.2.1 q1 x2 1 q hq) (As := [.ref (ad 44), .int x2, .int 1]) rfl rfl ⟨Nat.le_of_ble_eq_true rfl, Nat.le_of_ble_eq_true rfl⟩ (Nat.le_of_ble_eq_true rfl) dX9_markFree_51 (fun q2 H locs h hI => ?_)
      refine lv_aload_n hx hb dX9_markFree_54 rfl (lv_at hl 0 rfl) ?_
      refine fr_267 C hI shX_0 rfl dX9_markFree_55 ?_
      refine lv_aload_n hx hb dX9_markFree_58 rfl (lv_at hl 0 rfl) ?_
      refine fr_266 C hI shX_0 rfl dX9_markFree_59 ?_
      refine lv_iload_n hx hb dX9_markFree_62 rfl (lv_at hl 1 rfl) ?_
      refine lv_sipush hx hb dX9_markFree_63 cs_600 ?_
      refine lv_iload_n hx hb dX9_markFree_66 rfl (lv_at hl 2 rfl) ?_
      refine lv_iadd hx hb dX9_markFree_67 ?_
      refine lv_iconst hx hb dX9_markFree_68 ci_2 ?_
      refine lv_isub hx hb dX9_markFree_69 ?_
      refine h_callvv_w (rest := []) C hI hl.1 shX_32 rfl yv_X6_gather k_578 h (fun q hq => c_X6_gather l D t ad z C.2.2.2.2.2.2.1 29 shX_29 shX_30 shX_31 q2 x1 ((600 + x2) - 2) q hq) (As := [.ref (ad 29), .int x1, .int ((600 + x2) - 2)]) rfl rfl ⟨Nat.le_of_ble_eq_true rfl, Nat.le_of_ble_eq_true rfl⟩ (Nat.le_of_ble_eq_true rfl) dX9_markFree_70 (fun q3 H locs h hI => ?_)
      refine lv_aload_n hx hb dX9_markFree_73 rfl (lv_at hl 0 rfl) ?_
      refine fr_267 C hI shX_0 rfl dX9_markFree_74 ?_
      refine lv_aload_n hx hb dX9_markFree_77 rfl (lv_at hl 0 rfl) ?_
      refine fr_272 C hI shX_0 rfl dX9_markFree_78 ?_
      refine lv_iload_n hx hb dX9_markFree_81 rfl (lv_at hl 2 rfl) ?_
      refine lv_iconst hx hb dX9_markFree_82 ci_2 ?_
      refine h_callvv_w (rest := []) C hI hl.1 shX_32 rfl yv_X6_strikeOut k_806 h (fun q hq => c_X6_strikeOut l D t ad z C.2.2.2.2.2.2.1 q3 x2 2 q hq) (As := [.ref (ad 44), .int x2, .int 2]) rfl rfl ⟨Nat.le_of_ble_eq_true rfl, Nat.le_of_ble_eq_true rfl⟩ (Nat.le_of_ble_eq_true rfl) dX9_markFree_83 (fun q4 H locs h hI => ?_)
      exact h_vret_w C hr hI h dX9_markFree_86
    · refine lv_aload_n hx hb dX9_markFree_9 rfl (lv_at hl 0 rfl) ?_
      refine fr_272 C hI shX_0 rfl dX9_markFree_10 ?_
      refine lv_iload_n hx hb dX9_markFree_13 rfl (lv_at hl 3 rfl) ?_
      refine lv_iconst hx hb dX9_markFree_14 ci_3 ?_
      refine gx_iast C hI shX_44 h dX9_markFree_15 (fun H locs h hI => ?_)
      refine gx_st h hI (fun s5 h hI => ?_)
      refine h_iinc C hl dX9_markFree_16 3 rfl ci_1 h (by decide) (lvf := fun v6 => [(3, .int v6), (0, .ref (ad 0)), (1, .int x1), (2, .int x2)]) (fun _ => rfl) (fun v6 ls h hl => ?_)
      refine lv_goto (tgt := 2) hx hb dX9_markFree_19 (by decide) ?_
      exact ih _ _ _ _ _ _ _  h hI (lv_sub hl [1, 2, 3, 0] rfl)
set_option maxRecDepth 100000 in
set_option maxHeartbeats 4000000 in
theorem c_X9_markFree (l : Launch) (D : va_G) (t : gT) (ad z : Nat → Nat) (hJ : gJ shX ad) (σ : gS) (x1 : Int32) (x2 : Int32) (q : gS) (h : f_X9_markFree σ x1 x2 = some q) : Met l yX9_markFree (Cond.code yX9_markFree cX9_markFree 4 (none) :: lw_tb) (gR 4 135) (gPc shX t ad D z [.ref (ad 0), .int x1, .int x2] σ) (gQv shX t ad D q) 0 0 (gA shX ad) := by
  refine gMet "NineKeysRound" rfl (by decide) hJ (Nat.le_of_ble_eq_true rfl) ?_
  intro p e s m below meth c ls C hr hI hl
  have hx := C.1
  have hb := C.2.1
  have hl : lv_has ls 4 [(0, .ref (ad 0)), (1, .int x1), (2, .int x2)] := hl
  unfold f_X9_markFree at h
  refine lv_iconst hx hb dX9_markFree_0 ci_0 ?_
  refine lv_istore_n (lv' := [(3, .int 0), (0, .ref (ad 0)), (1, .int x1), (2, .int x2)]) hx hb dX9_markFree_1 rfl hl (by decide) rfl (fun ls hl => ?_)
  exact w_X9_markFree_2 C hr    _ _ _ _ _ _ _ _  h hI (lv_sub hl [1, 2, 3, 0] rfl)
set_option maxRecDepth 100000 in
set_option maxHeartbeats 4000000 in
theorem w_X9_bestMinute_65 {p : Program} {l : Launch} {e : Env} {s : State} {m : MethodId} {args : Array Value} {below : List Frame} {meth : Method} {c : Code} {D : va_G} {t : gT} {ad z : Nat → Nat} (C : gC p s m args meth c cX9_bestMinute 8 "NineKeysRound" D t shX ad z) (hr : meth.sig.returnType = some .int) {r : Int32 × gS} : ∀ (n : Nat) (x3 : Int32) (x4 : Int32) (x6 : Int32) (x7 : Int32) (σ : gS) (H : Heap) (locs : List Loc) (ls : Array Slot), f_X9_bestMinute_65 n x3 x4 x6 x7 σ = some r → gI shX t ad D s.heap σ H locs → lv_has ls 8 [(0, .ref (ad 0)), (3, .int x3), (4, .int x4), (6, .int x6), (7, .int x7)] → W p l e (gR 7 193) s m args below meth c H locs 0 0 (MQ below (gQi shX t ad D r.1 r.2) args s 0 0 (gA shX ad)) (F0 m 65 ls []) := by
  have hx := C.1
  have hb := C.2.1
  intro n
  induction n with
  | zero =>
    intro x3 x4 x6 x7 σ H locs ls  h
    exact absurd h (by simp [f_X9_bestMinute_65])
  | succ n ih =>
    intro x3 x4 x6 x7 σ H locs ls  h hI hl
    unfold f_X9_bestMinute_65 at h
    refine lv_iload hx hb dX9_bestMinute_65 (lv_at hl 4 rfl) ?_
    refine lv_sipush hx hb dX9_bestMinute_67 cs_600 ?_
    refine hicmp_ge (tgt := 114) C dX9_bestMinute_70 (by decide) h (fun h => ?_) (fun h => ?_)
    · refine lv_iload hx hb dX9_bestMinute_114 (lv_at hl 2 rfl) ?_
      refine hif_ne (tgt := 124) C dX9_bestMinute_116 (by decide) h (fun h => ?_) (fun h => ?_)
      · refine lv_aload_n hx hb dX9_bestMinute_124 rfl (lv_at hl 0 rfl) ?_
        refine fr_272 C hI shX_0 rfl dX9_bestMinute_125 ?_
        refine lv_iload hx hb dX9_bestMinute_128 (lv_at hl 3 rfl) ?_
        refine gx_iald C hI shX_44 h dX9_bestMinute_130 (fun h => ?_)
        refine lv_iload_n hx hb dX9_bestMinute_131 rfl (lv_at hl 1 rfl) ?_
        refine lv_bipush hx hb dX9_bestMinute_132 cb_100 ?_
        refine h_idiv C dX9_bestMinute_134 h (fun h => ?_)
        refine h_callsi_o (rest := []) C hI hl.1 ys_X9_twelfths k_795 h (fun q hq => c_X9_twelfths l D t ad z C.2.2.2.2.2.2.1 (σ) (σ.1 44 (x6).toNatClampNeg) (x3 / 100) q hq) (As := [.int (σ.1 44 (x6).toNatClampNeg), .int (x3 / 100)]) rfl rfl ⟨Nat.le_of_ble_eq_true rfl, Nat.le_of_ble_eq_true rfl⟩ (Nat.le_of_ble_eq_true rfl) dX9_bestMinute_135 (fun q1 H locs h hI => ?_)
        exact h_iret_w C hr hI h dX9_bestMinute_138
      · refine lv_iload hx hb dX9_bestMinute_119 (lv_at hl 3 rfl) ?_
        refine lv_goto (tgt := 138) hx hb dX9_bestMinute_121 (by decide) ?_
        exact h_iret_w C hr hI h dX9_bestMinute_138
    · refine lv_aload_n hx hb dX9_bestMinute_73 rfl (lv_at hl 0 rfl) ?_
      refine fr_272 C hI shX_0 rfl dX9_bestMinute_74 ?_
      refine lv_iload hx hb dX9_bestMinute_77 (lv_at hl 4 rfl) ?_
      refine gx_iald C hI shX_44 h dX9_bestMinute_79 (fun h => ?_)
      refine lv_iload_n hx hb dX9_bestMinute_80 rfl (lv_at hl 1 rfl) ?_
      refine lv_bipush hx hb dX9_bestMinute_81 cb_100 ?_
      refine h_idiv C dX9_bestMinute_83 h (fun h => ?_)
      refine h_callsi_o (rest := []) C hI hl.1 ys_X9_twelfths k_795 h (fun q hq => c_X9_twelfths l D t ad z C.2.2.2.2.2.2.1 (σ) (σ.1 44 (x7).toNatClampNeg) (x3 / 100) q hq) (As := [.int (σ.1 44 (x7).toNatClampNeg), .int (x3 / 100)]) rfl rfl ⟨Nat.le_of_ble_eq_true rfl, Nat.le_of_ble_eq_true rfl⟩ (Nat.le_of_ble_eq_true rfl) dX9_bestMinute_84 (fun q2 H locs h hI => ?_)
      refine lv_aload_n hx hb dX9_bestMinute_87 rfl (lv_at hl 0 rfl) ?_
      refine fr_272 C hI shX_0 rfl dX9_bestMinute_88 ?_
      refine lv_iload hx hb dX9_bestMinute_91 (lv_at hl 3 rfl) ?_
      refine gx_iald C hI shX_44 h dX9_bestMinute_93 (fun h => ?_)
      refine lv_iload_n hx hb dX9_bestMinute_94 rfl (lv_at hl 1 rfl) ?_
      refine lv_bipush hx hb dX9_bestMinute_95 cb_100 ?_
      refine h_idiv C dX9_bestMinute_97 h (fun h => ?_)
      refine h_callsi_o (rest := [.int q2]) C hI hl.1 ys_X9_twelfths k_795 h (fun q hq => c_X9_twelfths l D t ad z C.2.2.2.2.2.2.1 (σ) (σ.1 44 (x6).toNatClampNeg) (x3 / 100) q hq) (As := [.int (σ.1 44 (x6).toNatClampNeg), .int (x3 / 100)]) rfl rfl ⟨Nat.le_of_ble_eq_true rfl, Nat.le_of_ble_eq_true rfl⟩ (Nat.le_of_ble_eq_true rfl) dX9_bestMinute_98 (fun q3 H locs h hI => ?_)
      refine hicmp_le (tgt := 108) C dX9_bestMinute_101 (by decide) h (fun h => ?_) (fun h => ?_)
      · refine h_iinc C hl dX9_bestMinute_108 4 rfl ci_1 h (by decide) (lvf := fun v4 => [(7, .int v4), (0, .ref (ad 0)), (3, .int x3), (4, .int x4), (6, .int x6)]) (fun _ => rfl) (fun v4 ls h hl => ?_)
        refine lv_goto (tgt := 65) hx hb dX9_bestMinute_111 (by decide) ?_
        exact ih _ _ _ _ _ _ _ _  h hI (lv_sub hl [1, 2, 3, 4, 0] rfl)
      · refine lv_iload hx hb dX9_bestMinute_104 (lv_at hl 4 rfl) ?_
        refine lv_istore (lv' := [(6, .int x7), (0, .ref (ad 0)), (3, .int x3), (4, .int x4), (7, .int x7)]) hx hb dX9_bestMinute_106 hl (by decide) rfl (fun ls hl => ?_)
        refine h_iinc C hl dX9_bestMinute_108 4 rfl ci_1 h (by decide) (lvf := fun v5 => [(7, .int v5), (6, .int x7), (0, .ref (ad 0)), (3, .int x3), (4, .int x4)]) (fun _ => rfl) (fun v5 ls h hl => ?_)
        refine lv_goto (tgt := 65) hx hb dX9_bestMinute_111 (by decide) ?_
        exact ih _ _ _ _ _ _ _ _  h hI (lv_sub hl [2, 3, 4, 1, 0] rfl)
set_option maxRecDepth 100000 in
set_option maxHeartbeats 4000000 in
theorem c_X9_bestMinute (l : Launch) (D : va_G) (t : gT) (ad z : Nat → Nat) (hJ : gJ shX ad) (σ : gS) (x1 : Int32) (x2 : Int32) (x3 : Int32) (x4 : Int32) (q : Int32 × gS) (h : f_X9_bestMinute σ x1 x2 x3 x4 = some q) : Met l yX9_bestMinute (Cond.code yX9_bestMinute cX9_bestMinute 8 (some .int) :: lw_tb) (gR 7 193) (gPc shX t ad D z [.ref (ad 0), .int x1, .int x2, .int x3, .int x4] σ) (gQi shX t ad D q.1 q.2) 0 0 (gA shX ad) := by
  refine gMet "NineKeysRound" rfl (by decide) hJ (Nat.le_of_ble_eq_true rfl) ?_
  intro p e s m below meth c ls C hr hI hl
  have hx := C.1
  have hb := C.2.1
  have hl : lv_has ls 8 [(0, .ref (ad 0)), (1, .int x1), (2, .int x2), (3, .int x3), (4, .int x4)] := hl
  unfold f_X9_bestMinute at h
  refine lv_iload_n hx hb dX9_bestMinute_0 rfl (lv_at hl 1 rfl) ?_
  refine h_callsi_o (rest := []) C hI hl.1 ys_X9_isShelf k_326 h (fun q hq => c_X9_isShelf l D t ad z C.2.2.2.2.2.2.1 (σ) x1 q hq) (As := [.int x1]) rfl rfl ⟨Nat.le_of_ble_eq_true rfl, Nat.le_of_ble_eq_true rfl⟩ (Nat.le_of_ble_eq_true rfl) dX9_bestMinute_1 (fun q1 H locs h hI => ?_)
  refine hif_eq (tgt := 33) C dX9_bestMinute_4 (by decide) h (fun h => ?_) (fun h => ?_)
  · refine lv_iconst hx hb dX9_bestMinute_33 ci_m1 ?_
    exact h_iret_w C hr hI h dX9_bestMinute_34
  · refine lv_aload_n hx hb dX9_bestMinute_7 rfl (lv_at hl 0 rfl) ?_
    refine fr_261 C hI shX_0 rfl dX9_bestMinute_8 ?_
    refine lv_iload_n hx hb dX9_bestMinute_11 rfl (lv_at hl 2 rfl) ?_
    refine h_callvi_o (rest := []) C hI hl.1 shX_1 rfl yv_X8_isPost k_370 h (fun q hq => c_X8_isPost l D t ad z C.2.2.2.2.2.2.1 (σ) x2 q hq) (As := [.int x2]) rfl rfl ⟨Nat.le_of_ble_eq_true rfl, Nat.le_of_ble_eq_true rfl⟩ (Nat.le_of_ble_eq_true rfl) dX9_bestMinute_12 (fun q2 H locs h hI => ?_)
    refine hif_eq (tgt := 33) C dX9_bestMinute_15 (by decide) h (fun h => ?_) (fun h => ?_)
    · refine lv_iconst hx hb dX9_bestMinute_33 ci_m1 ?_
      exact h_iret_w C hr hI h dX9_bestMinute_34
    · refine lv_iload_n hx hb dX9_bestMinute_18 rfl (lv_at hl 3 rfl) ?_
      refine h_callsi_o (rest := []) C hI hl.1 ys_X9_isOddsAndNeed k_780 h (fun q hq => c_X9_isOddsAndNeed l D t ad z C.2.2.2.2.2.2.1 (σ) x3 q hq) (As := [.int x3]) rfl rfl ⟨Nat.le_of_ble_eq_true rfl, Nat.le_of_ble_eq_true rfl⟩ (Nat.le_of_ble_eq_true rfl) dX9_bestMinute_19 (fun q3 H locs h hI => ?_)
      refine hif_eq (tgt := 33) C dX9_bestMinute_22 (by decide) h (fun h => ?_) (fun h => ?_)
      · refine lv_iconst hx hb dX9_bestMinute_33 ci_m1 ?_
        exact h_iret_w C hr hI h dX9_bestMinute_34
      · refine lv_iload hx hb dX9_bestMinute_25 (lv_at hl 4 rfl) ?_
        refine h_callsi_o (rest := []) C hI hl.1 ys_X9_isEither k_518 h (fun q hq => c_X9_isEither l D t ad z C.2.2.2.2.2.2.1 (σ) x4 q hq) (As := [.int x4]) rfl rfl ⟨Nat.le_of_ble_eq_true rfl, Nat.le_of_ble_eq_true rfl⟩ (Nat.le_of_ble_eq_true rfl) dX9_bestMinute_27 (fun q4 H locs h hI => ?_)
        refine hif_ne (tgt := 35) C dX9_bestMinute_30 (by decide) h (fun h => ?_) (fun h => ?_)
        · refine lv_aload_n hx hb dX9_bestMinute_35 rfl (lv_at hl 0 rfl) ?_
          refine lv_iload_n hx hb dX9_bestMinute_36 rfl (lv_at hl 1 rfl) ?_
          refine h_callvi_w (rest := []) C hI hl.1 shX_0 rfl yv_X9_layBoth k_783 h (fun q hq => c_X9_layBoth l D t ad z C.2.2.2.2.2.2.1 (σ) x1 q hq) (As := [.int x1]) rfl rfl ⟨Nat.le_of_ble_eq_true rfl, Nat.le_of_ble_eq_true rfl⟩ (Nat.le_of_ble_eq_true rfl) dX9_bestMinute_37 (fun q5 H locs h hI => ?_)
          refine lv_istore (lv' := [(5, .int q5.1), (0, .ref (ad 0)), (1, .int x1), (2, .int x2), (3, .int x3), (4, .int x4)]) hx hb dX9_bestMinute_40 hl (by decide) rfl (fun ls hl => ?_)
          refine lv_iload hx hb dX9_bestMinute_42 (lv_at hl 0 rfl) ?_
          refine hif_ge (tgt := 50) C dX9_bestMinute_44 (by decide) h (fun h => ?_) (fun h => ?_)
          · refine lv_aload_n hx hb dX9_bestMinute_50 rfl (lv_at hl 1 rfl) ?_
            refine lv_iload_n hx hb dX9_bestMinute_51 rfl (lv_at hl 3 rfl) ?_
            refine lv_iload_n hx hb dX9_bestMinute_52 rfl (lv_at hl 4 rfl) ?_
            refine lv_bipush hx hb dX9_bestMinute_53 cb_100 ?_
            refine h_irem C dX9_bestMinute_55 h (fun h => ?_)
            refine h_callvv_w (rest := []) C hI hl.1 shX_0 rfl yv_X9_markFree k_802 h (fun q hq => c_X9_markFree l D t ad z C.2.2.2.2.2.2.1 q5.2 x2 (x3 - x3 / 100 * 100) q hq) (As := [.int x2, .int (x3 - x3 / 100 * 100)]) rfl rfl ⟨Nat.le_of_ble_eq_true rfl, Nat.le_of_ble_eq_true rfl⟩ (Nat.le_of_ble_eq_true rfl) dX9_bestMinute_56 (fun q6 H locs h hI => ?_)
            refine lv_iconst hx hb dX9_bestMinute_59 ci_0 ?_
            refine lv_istore (lv' := [(6, .int 0), (5, .int q5.1), (0, .ref (ad 0)), (1, .int x1), (2, .int x2), (3, .int x3), (4, .int x4)]) hx hb dX9_bestMinute_60 hl (by decide) rfl (fun ls hl => ?_)
            refine lv_iconst hx hb dX9_bestMinute_62 ci_1 ?_
            refine lv_istore (lv' := [(7, .int 1), (6, .int 0), (5, .int q5.1), (0, .ref (ad 0)), (1, .int x1), (2, .int x2), (3, .int x3), (4, .int x4)]) hx hb dX9_bestMinute_63 hl (by decide) rfl (fun ls hl => ?_)
            exact w_X9_bestMinute_65 C hr    _ _ _ _ _ _ _ _ _  h hI (lv_sub hl [3, 6, 7, 1, 0] rfl)
          · refine lv_iload hx hb dX9_bestMinute_47 (lv_at hl 0 rfl) ?_
            exact h_iret_w C hr hI h dX9_bestMinute_49
        · refine lv_iconst hx hb dX9_bestMinute_33 ci_m1 ?_
          exact h_iret_w C hr hI h dX9_bestMinute_34
set_option maxRecDepth 100000 in
set_option maxHeartbeats 4000000 in
theorem w_X9_greatestTwelfths_4 {p : Program} {l : Launch} {e : Env} {s : State} {m : MethodId} {args : Array Value} {below : List Frame} {meth : Method} {c : Code} {D : va_G} {t : gT} {ad z : Nat → Nat} {σ : gS} (C : gC p s m args meth c cX9_greatestTwelfths 4 "NineKeysRound" D t shX ad z) (hr : meth.sig.returnType = some .int) {r : Int32} : ∀ (n : Nat) (x0 : Int32) (x1 : Int32) (x2 : Int32) (x3 : Int32) (H : Heap) (locs : List Loc) (ls : Array Slot), f_X9_greatestTwelfths_4 σ n x0 x1 x2 x3 = some r → gI shX t ad D s.heap σ H locs → lv_has ls 4 [(0, .int x0), (1, .int x1), (2, .int x2), (3, .int x3)] → W p l e (gR 2 81) s m args below meth c H locs 0 0 (MQ below (gQi shX t ad D r σ) args s 0 0 (gA shX ad)) (F0 m 4 ls []) := by
  have hx := C.1
  have hb := C.2.1
  intro n
  induction n with
  | zero =>
    intro x0 x1 x2 x3 H locs ls  h
    exact absurd h (by simp [f_X9_greatestTwelfths_4])
  | succ n ih =>
    intro x0 x1 x2 x3 H locs ls  h hI hl
    unfold f_X9_greatestTwelfths_4 at h
    refine lv_iload_n hx hb dX9_greatestTwelfths_4 rfl (lv_at hl 3 rfl) ?_
    refine lv_iconst hx hb dX9_greatestTwelfths_5 ci_4 ?_
    refine hicmp_ge (tgt := 33) C dX9_greatestTwelfths_6 (by decide) h (fun h => ?_) (fun h => ?_)
    · refine lv_iload_n hx hb dX9_greatestTwelfths_33 rfl (lv_at hl 2 rfl) ?_
      exact h_iret_o C hr hI h dX9_greatestTwelfths_34
    · refine lv_iload_n hx hb dX9_greatestTwelfths_9 rfl (lv_at hl 0 rfl) ?_
      refine lv_iload_n hx hb dX9_greatestTwelfths_10 rfl (lv_at hl 3 rfl) ?_
      refine lv_ishr hx hb dX9_greatestTwelfths_11 ?_
      refine lv_iconst hx hb dX9_greatestTwelfths_12 ci_1 ?_
      refine lv_iand hx hb dX9_greatestTwelfths_13 ?_
      refine hif_eq (tgt := 27) C dX9_greatestTwelfths_14 (by decide) h (fun h => ?_) (fun h => ?_)
      · refine h_iinc C hl dX9_greatestTwelfths_27 3 rfl ci_1 h (by decide) (lvf := fun v1 => [(3, .int v1), (0, .int x0), (1, .int x1), (2, .int x2)]) (fun _ => rfl) (fun v1 ls h hl => ?_)
        refine lv_goto (tgt := 4) hx hb dX9_greatestTwelfths_30 (by decide) ?_
        exact ih _ _ _ _ _ _ _  h hI (lv_sub hl [1, 2, 3, 0] rfl)
      · refine lv_iload_n hx hb dX9_greatestTwelfths_17 rfl (lv_at hl 2 rfl) ?_
        refine lv_iload_n hx hb dX9_greatestTwelfths_18 rfl (lv_at hl 3 rfl) ?_
        refine lv_iload_n hx hb dX9_greatestTwelfths_19 rfl (lv_at hl 1 rfl) ?_
        refine h_callsi_o (rest := [.int x2]) C hI hl.1 ys_X9_twelfths k_795 h (fun q hq => c_X9_twelfths l D t ad z C.2.2.2.2.2.2.1 (σ) x3 x1 q hq) (As := [.int x3, .int x1]) rfl rfl ⟨Nat.le_of_ble_eq_true rfl, Nat.le_of_ble_eq_true rfl⟩ (Nat.le_of_ble_eq_true rfl) dX9_greatestTwelfths_20 (fun q2 H locs h hI => ?_)
        refine h_mmax C hl.1 k_775 ⟨Nat.le_of_ble_eq_true rfl, Nat.le_of_ble_eq_true rfl⟩ ⟨Nat.zero_le _, Nat.zero_le _⟩ dX9_greatestTwelfths_23 ?_
        refine gx_topi h (fun v3 h => ?_)
        refine lv_istore_n (lv' := [(2, .int v3), (0, .int x0), (1, .int x1), (3, .int x3)]) hx hb dX9_greatestTwelfths_26 rfl hl (by decide) rfl (fun ls hl => ?_)
        refine h_iinc C hl dX9_greatestTwelfths_27 3 rfl ci_1 h (by decide) (lvf := fun v4 => [(3, .int v4), (2, .int v3), (0, .int x0), (1, .int x1)]) (fun _ => rfl) (fun v4 ls h hl => ?_)
        refine lv_goto (tgt := 4) hx hb dX9_greatestTwelfths_30 (by decide) ?_
        exact ih _ _ _ _ _ _ _  h hI (lv_sub hl [2, 3, 1, 0] rfl)
set_option maxRecDepth 100000 in
set_option maxHeartbeats 4000000 in
theorem c_X9_greatestTwelfths (l : Launch) (D : va_G) (t : gT) (ad z : Nat → Nat) (hJ : gJ shX ad) (σ : gS) (x0 : Int32) (x1 : Int32) (q : Int32) (h : f_X9_greatestTwelfths σ x0 x1 = some q) : Met l yX9_greatestTwelfths (Cond.code yX9_greatestTwelfths cX9_greatestTwelfths 4 (some .int) :: lw_tb) (gR 2 81) (gPc shX t ad D z [.int x0, .int x1] σ) (gQi shX t ad D q σ) 0 0 (gA shX ad) := by
  refine gMet "NineKeysRound" rfl (by decide) hJ (Nat.le_of_ble_eq_true rfl) ?_
  intro p e s m below meth c ls C hr hI hl
  have hx := C.1
  have hb := C.2.1
  have hl : lv_has ls 4 [(0, .int x0), (1, .int x1)] := hl
  unfold f_X9_greatestTwelfths at h
  refine lv_iconst hx hb dX9_greatestTwelfths_0 ci_0 ?_
  refine lv_istore_n (lv' := [(2, .int 0), (0, .int x0), (1, .int x1)]) hx hb dX9_greatestTwelfths_1 rfl hl (by decide) rfl (fun ls hl => ?_)
  refine lv_iconst hx hb dX9_greatestTwelfths_2 ci_0 ?_
  refine lv_istore_n (lv' := [(3, .int 0), (2, .int 0), (0, .int x0), (1, .int x1)]) hx hb dX9_greatestTwelfths_3 rfl hl (by decide) rfl (fun ls hl => ?_)
  exact w_X9_greatestTwelfths_4 C hr    _ _ _ _ _ _ _ _  h hI (lv_sub hl [2, 3, 1, 0] rfl)
set_option maxRecDepth 100000 in
set_option maxHeartbeats 4000000 in
theorem w_X9_mix_96 {p : Program} {l : Launch} {e : Env} {s : State} {m : MethodId} {args : Array Value} {below : List Frame} {meth : Method} {c : Code} {D : va_G} {t : gT} {ad z : Nat → Nat} (C : gC p s m args meth c cX9_mix 10 "NineKeysRound" D t shX ad z) (hr : meth.sig.returnType = some .int) {r : Int32 × gS} : ∀ (n : Nat) (x5 : Int32) (x6 : Int32) (x7 : Int32) (x8 : Int32) (σ : gS) (H : Heap) (locs : List Loc) (ls : Array Slot), f_X9_mix_96 n x5 x6 x7 x8 σ = some r → gI shX t ad D s.heap σ H locs → lv_has ls 10 [(5, .int x5), (6, .int x6), (7, .int x7), (8, .int x8)] → W p l e (gR 7 193) s m args below meth c H locs 0 0 (MQ below (gQi shX t ad D r.1 r.2) args s 0 0 (gA shX ad)) (F0 m 96 ls []) := by
  have hx := C.1
  have hb := C.2.1
  intro n
  induction n with
  | zero =>
    intro x5 x6 x7 x8 σ H locs ls  h
    exact absurd h (by simp [f_X9_mix_96])
  | succ n ih =>
    intro x5 x6 x7 x8 σ H locs ls  h hI hl
    unfold f_X9_mix_96 at h
    refine lv_iload hx hb dX9_mix_96 (lv_at hl 3 rfl) ?_
    refine lv_bipush hx hb dX9_mix_98 cb_12 ?_
    refine hicmp_gt (tgt := 133) C dX9_mix_100 (by decide) h (fun h => ?_) (fun h => ?_)
    · refine lv_iload hx hb dX9_mix_133 (lv_at hl 1 rfl) ?_
      exact h_iret_w C hr hI h dX9_mix_135
    · refine lv_iload hx hb dX9_mix_103 (lv_at hl 0 rfl) ?_
      refine lv_iload hx hb dX9_mix_105 (lv_at hl 3 rfl) ?_
      refine h_callsi_o (rest := []) C hI hl.1 ys_X9_greatestTwelfths k_814 h (fun q hq => c_X9_greatestTwelfths l D t ad z C.2.2.2.2.2.2.1 (σ) x5 x8 q hq) (As := [.int x5, .int x8]) rfl rfl ⟨Nat.le_of_ble_eq_true rfl, Nat.le_of_ble_eq_true rfl⟩ (Nat.le_of_ble_eq_true rfl) dX9_mix_107 (fun q1 H locs h hI => ?_)
      refine lv_istore (lv' := [(9, .int q1), (5, .int x5), (6, .int x6), (7, .int x7), (8, .int x8)]) hx hb dX9_mix_110 hl (by decide) rfl (fun ls hl => ?_)
      refine lv_iload hx hb dX9_mix_112 (lv_at hl 0 rfl) ?_
      refine lv_iload hx hb dX9_mix_114 (lv_at hl 3 rfl) ?_
      refine hicmp_ge (tgt := 127) C dX9_mix_116 (by decide) h (fun h => ?_) (fun h => ?_)
      · refine h_iinc C hl dX9_mix_127 4 rfl ci_1 h (by decide) (lvf := fun v2 => [(8, .int v2), (9, .int q1), (5, .int x5), (6, .int x6), (7, .int x7)]) (fun _ => rfl) (fun v2 ls h hl => ?_)
        refine lv_goto (tgt := 96) hx hb dX9_mix_130 (by decide) ?_
        exact ih _ _ _ _ _ _ _ _  h hI (lv_sub hl [2, 3, 4, 0] rfl)
      · refine lv_iload hx hb dX9_mix_119 (lv_at hl 4 rfl) ?_
        refine lv_istore (lv' := [(6, .int x8), (9, .int q1), (5, .int x5), (7, .int x7), (8, .int x8)]) hx hb dX9_mix_121 hl (by decide) rfl (fun ls hl => ?_)
        refine lv_iload hx hb dX9_mix_123 (lv_at hl 1 rfl) ?_
        refine lv_istore (lv' := [(7, .int q1), (6, .int x8), (9, .int q1), (5, .int x5), (8, .int x8)]) hx hb dX9_mix_125 hl (by decide) rfl (fun ls hl => ?_)
        refine h_iinc C hl dX9_mix_127 4 rfl ci_1 h (by decide) (lvf := fun v3 => [(8, .int v3), (7, .int q1), (6, .int x8), (9, .int q1), (5, .int x5)]) (fun _ => rfl) (fun v3 ls h hl => ?_)
        refine lv_goto (tgt := 96) hx hb dX9_mix_130 (by decide) ?_
        exact ih _ _ _ _ _ _ _ _  h hI (lv_sub hl [4, 2, 1, 0] rfl)
set_option maxRecDepth 100000 in
set_option maxHeartbeats 4000000 in
theorem w_X9_mix_54 {p : Program} {l : Launch} {e : Env} {s : State} {m : MethodId} {args : Array Value} {below : List Frame} {meth : Method} {c : Code} {D : va_G} {t : gT} {ad z : Nat → Nat} (C : gC p s m args meth c cX9_mix 10 "NineKeysRound" D t shX ad z) (hr : meth.sig.returnType = some .int) {r : Int32 × gS} : ∀ (n : Nat) (x5 : Int32) (x6 : Int32) (σ : gS) (H : Heap) (locs : List Loc) (ls : Array Slot), f_X9_mix_54 n x5 x6 σ = some r → gI shX t ad D s.heap σ H locs → lv_has ls 10 [(0, .ref (ad 0)), (5, .int x5), (6, .int x6)] → W p l e (gR 7 193) s m args below meth c H locs 0 0 (MQ below (gQi shX t ad D r.1 r.2) args s 0 0 (gA shX ad)) (F0 m 54 ls []) := by
  have hx := C.1
  have hb := C.2.1
  intro n
  induction n with
  | zero =>
    intro x5 x6 σ H locs ls  h
    exact absurd h (by simp [f_X9_mix_54])
  | succ n ih =>
    intro x5 x6 σ H locs ls  h hI hl
    unfold f_X9_mix_54 at h
    refine lv_iload hx hb dX9_mix_54 (lv_at hl 2 rfl) ?_
    refine lv_sipush hx hb dX9_mix_56 cs_600 ?_
    refine hicmp_ge (tgt := 82) C dX9_mix_59 (by decide) h (fun h => ?_) (fun h => ?_)
    · refine lv_iconst hx hb dX9_mix_82 ci_0 ?_
      refine lv_istore (lv' := [(6, .int 0), (0, .ref (ad 0)), (5, .int x5)]) hx hb dX9_mix_83 hl (by decide) rfl (fun ls hl => ?_)
      refine lv_iload hx hb dX9_mix_85 (lv_at hl 2 rfl) ?_
      refine lv_iconst hx hb dX9_mix_87 ci_0 ?_
      refine h_callsi_o (rest := []) C hI hl.1 ys_X9_greatestTwelfths k_814 h (fun q hq => c_X9_greatestTwelfths l D t ad z C.2.2.2.2.2.2.1 (σ) x5 0 q hq) (As := [.int x5, .int 0]) rfl rfl ⟨Nat.le_of_ble_eq_true rfl, Nat.le_of_ble_eq_true rfl⟩ (Nat.le_of_ble_eq_true rfl) dX9_mix_88 (fun q1 H locs h hI => ?_)
      refine lv_istore (lv' := [(7, .int q1), (6, .int 0), (0, .ref (ad 0)), (5, .int x5)]) hx hb dX9_mix_91 hl (by decide) rfl (fun ls hl => ?_)
      refine lv_iconst hx hb dX9_mix_93 ci_1 ?_
      refine lv_istore (lv' := [(8, .int 1), (7, .int q1), (6, .int 0), (0, .ref (ad 0)), (5, .int x5)]) hx hb dX9_mix_94 hl (by decide) rfl (fun ls hl => ?_)
      exact w_X9_mix_96 C hr    _ _ _ _ _ _ _ _ _  h hI (lv_sub hl [4, 2, 1, 0] rfl)
    · refine lv_iload hx hb dX9_mix_62 (lv_at hl 1 rfl) ?_
      refine lv_iconst hx hb dX9_mix_64 ci_1 ?_
      refine lv_aload_n hx hb dX9_mix_65 rfl (lv_at hl 0 rfl) ?_
      refine fr_272 C hI shX_0 rfl dX9_mix_66 ?_
      refine lv_iload hx hb dX9_mix_69 (lv_at hl 2 rfl) ?_
      refine gx_iald C hI shX_44 h dX9_mix_71 (fun h => ?_)
      refine lv_ishl hx hb dX9_mix_72 ?_
      refine lv_ior hx hb dX9_mix_73 ?_
      refine gx_topi h (fun v2 h => ?_)
      refine lv_istore (lv' := [(5, .int v2), (0, .ref (ad 0)), (6, .int x6)]) hx hb dX9_mix_74 hl (by decide) rfl (fun ls hl => ?_)
      refine h_iinc C hl dX9_mix_76 2 rfl ci_1 h (by decide) (lvf := fun v3 => [(6, .int v3), (5, .int v2), (0, .ref (ad 0))]) (fun _ => rfl) (fun v3 ls h hl => ?_)
      refine lv_goto (tgt := 54) hx hb dX9_mix_79 (by decide) ?_
      exact ih _ _ _ _ _ _  h hI (lv_sub hl [2, 1, 0] rfl)
set_option maxRecDepth 100000 in
set_option maxHeartbeats 4000000 in
theorem c_X9_mix (l : Launch) (D : va_G) (t : gT) (ad z : Nat → Nat) (hJ : gJ shX ad) (σ : gS) (x1 : Int32) (x2 : Int32) (x3 : Int32) (q : Int32 × gS) (h : f_X9_mix σ x1 x2 x3 = some q) : Met l yX9_mix (Cond.code yX9_mix cX9_mix 10 (some .int) :: lw_tb) (gR 7 193) (gPc shX t ad D z [.ref (ad 0), .int x1, .int x2, .int x3] σ) (gQi shX t ad D q.1 q.2) 0 0 (gA shX ad) := by
  refine gMet "NineKeysRound" rfl (by decide) hJ (Nat.le_of_ble_eq_true rfl) ?_
  intro p e s m below meth c ls C hr hI hl
  have hx := C.1
  have hb := C.2.1
  have hl : lv_has ls 10 [(0, .ref (ad 0)), (1, .int x1), (2, .int x2), (3, .int x3)] := hl
  unfold f_X9_mix at h
  refine lv_iload_n hx hb dX9_mix_0 rfl (lv_at hl 1 rfl) ?_
  refine h_callsi_o (rest := []) C hI hl.1 ys_X9_isShelf k_326 h (fun q hq => c_X9_isShelf l D t ad z C.2.2.2.2.2.2.1 (σ) x1 q hq) (As := [.int x1]) rfl rfl ⟨Nat.le_of_ble_eq_true rfl, Nat.le_of_ble_eq_true rfl⟩ (Nat.le_of_ble_eq_true rfl) dX9_mix_1 (fun q1 H locs h hI => ?_)
  refine hif_eq (tgt := 25) C dX9_mix_4 (by decide) h (fun h => ?_) (fun h => ?_)
  · refine lv_iconst hx hb dX9_mix_25 ci_m1 ?_
    exact h_iret_w C hr hI h dX9_mix_26
  · refine lv_aload_n hx hb dX9_mix_7 rfl (lv_at hl 0 rfl) ?_
    refine fr_261 C hI shX_0 rfl dX9_mix_8 ?_
    refine lv_iload_n hx hb dX9_mix_11 rfl (lv_at hl 2 rfl) ?_
    refine h_callvi_o (rest := []) C hI hl.1 shX_1 rfl yv_X8_isPost k_370 h (fun q hq => c_X8_isPost l D t ad z C.2.2.2.2.2.2.1 (σ) x2 q hq) (As := [.int x2]) rfl rfl ⟨Nat.le_of_ble_eq_true rfl, Nat.le_of_ble_eq_true rfl⟩ (Nat.le_of_ble_eq_true rfl) dX9_mix_12 (fun q2 H locs h hI => ?_)
    refine hif_eq (tgt := 25) C dX9_mix_15 (by decide) h (fun h => ?_) (fun h => ?_)
    · refine lv_iconst hx hb dX9_mix_25 ci_m1 ?_
      exact h_iret_w C hr hI h dX9_mix_26
    · refine lv_iload_n hx hb dX9_mix_18 rfl (lv_at hl 3 rfl) ?_
      refine h_callsi_o (rest := []) C hI hl.1 ys_X9_isNeed k_745 h (fun q hq => c_X9_isNeed l D t ad z C.2.2.2.2.2.2.1 (σ) x3 q hq) (As := [.int x3]) rfl rfl ⟨Nat.le_of_ble_eq_true rfl, Nat.le_of_ble_eq_true rfl⟩ (Nat.le_of_ble_eq_true rfl) dX9_mix_19 (fun q3 H locs h hI => ?_)
      refine hif_ne (tgt := 27) C dX9_mix_22 (by decide) h (fun h => ?_) (fun h => ?_)
      · refine lv_aload_n hx hb dX9_mix_27 rfl (lv_at hl 0 rfl) ?_
        refine lv_iload_n hx hb dX9_mix_28 rfl (lv_at hl 1 rfl) ?_
        refine h_callvi_w (rest := []) C hI hl.1 shX_0 rfl yv_X9_layBoth k_783 h (fun q hq => c_X9_layBoth l D t ad z C.2.2.2.2.2.2.1 (σ) x1 q hq) (As := [.int x1]) rfl rfl ⟨Nat.le_of_ble_eq_true rfl, Nat.le_of_ble_eq_true rfl⟩ (Nat.le_of_ble_eq_true rfl) dX9_mix_29 (fun q4 H locs h hI => ?_)
        refine lv_istore (lv' := [(4, .int q4.1), (0, .ref (ad 0)), (1, .int x1), (2, .int x2), (3, .int x3)]) hx hb dX9_mix_32 hl (by decide) rfl (fun ls hl => ?_)
        refine lv_iload hx hb dX9_mix_34 (lv_at hl 0 rfl) ?_
        refine hif_ge (tgt := 42) C dX9_mix_36 (by decide) h (fun h => ?_) (fun h => ?_)
        · refine lv_aload_n hx hb dX9_mix_42 rfl (lv_at hl 1 rfl) ?_
          refine lv_iload_n hx hb dX9_mix_43 rfl (lv_at hl 3 rfl) ?_
          refine lv_iload_n hx hb dX9_mix_44 rfl (lv_at hl 4 rfl) ?_
          refine h_callvv_w (rest := []) C hI hl.1 shX_0 rfl yv_X9_markFree k_802 h (fun q hq => c_X9_markFree l D t ad z C.2.2.2.2.2.2.1 q4.2 x2 x3 q hq) (As := [.int x2, .int x3]) rfl rfl ⟨Nat.le_of_ble_eq_true rfl, Nat.le_of_ble_eq_true rfl⟩ (Nat.le_of_ble_eq_true rfl) dX9_mix_45 (fun q5 H locs h hI => ?_)
          refine lv_iconst hx hb dX9_mix_48 ci_0 ?_
          refine lv_istore (lv' := [(5, .int 0), (4, .int q4.1), (0, .ref (ad 0)), (1, .int x1), (2, .int x2), (3, .int x3)]) hx hb dX9_mix_49 hl (by decide) rfl (fun ls hl => ?_)
          refine lv_iconst hx hb dX9_mix_51 ci_0 ?_
          refine lv_istore (lv' := [(6, .int 0), (5, .int 0), (4, .int q4.1), (0, .ref (ad 0)), (1, .int x1), (2, .int x2), (3, .int x3)]) hx hb dX9_mix_52 hl (by decide) rfl (fun ls hl => ?_)
          exact w_X9_mix_54 C hr    _ _ _ _ _ _ _  h hI (lv_sub hl [3, 1, 0] rfl)
        · refine lv_iload hx hb dX9_mix_39 (lv_at hl 0 rfl) ?_
          exact h_iret_w C hr hI h dX9_mix_41
      · refine lv_iconst hx hb dX9_mix_25 ci_m1 ?_
        exact h_iret_w C hr hI h dX9_mix_26
set_option maxRecDepth 100000 in
set_option maxHeartbeats 4000000 in
theorem w_X9_spare_107 {p : Program} {l : Launch} {e : Env} {s : State} {m : MethodId} {args : Array Value} {below : List Frame} {meth : Method} {c : Code} {D : va_G} {t : gT} {ad z : Nat → Nat} {σ : gS} (C : gC p s m args meth c cX9_spare 7 "NineKeysRound" D t shX ad z) (hr : meth.sig.returnType = some .int) {kS : Nat} (h_kS : shX[kS]? = some (.inr (.inl (5, [some (kS + 1), none, none, none, none])))) (h_kS1 : shX[kS + 1]? = some (.inl (1, 60))) {r : Int32} : ∀ (x3 : Int32) (x5 : Int32) (H : Heap) (locs : List Loc) (ls : Array Slot), f_X9_spare_107 σ kS x3 x5 = some r → gI shX t ad D s.heap σ H locs → lv_has ls 7 [(1, .ref (ad kS)), (3, .int x3), (5, .int x5)] → W p l e (gR 3 105) s m args below meth c H locs 0 0 (MQ below (gQi shX t ad D r σ) args s 0 0 (gA shX ad)) (F0 m 107 ls []) := by
  have hx := C.1
  have hb := C.2.1
  intro x3 x5 H locs ls  h hI hl
  unfold f_X9_spare_107 at h
  refine lv_iconst hx hb dX9_spare_107 ci_m1 ?_
  refine lv_aload_n hx hb dX9_spare_108 rfl (lv_at hl 0 rfl) ?_
  refine lv_iload_n hx hb dX9_spare_109 rfl (lv_at hl 1 rfl) ?_
  refine lv_iconst hx hb dX9_spare_110 ci_1 ?_
  refine lv_iadd hx hb dX9_spare_111 ?_
  refine h_callvl_o (rest := [.int (-1)]) C hI hl.1 h_kS rfl yv_X5_cellAt k_339 h (fun q hq => c_X5_cellAt l D t ad z C.2.2.2.2.2.2.1 kS h_kS h_kS1 (σ) (x3 + 1) q hq) (As := [.int (x3 + 1)]) rfl rfl ⟨Nat.le_of_ble_eq_true rfl, Nat.le_of_ble_eq_true rfl⟩ (Nat.le_of_ble_eq_true rfl) dX9_spare_112 (fun q1 H locs h hI => ?_)
  refine lv_l2i (v := ((q1 : Int64).toInt32)) hx hb dX9_spare_115 rfl ?_
  refine lv_iload hx hb dX9_spare_116 (lv_at hl 2 rfl) ?_
  refine lv_isub hx hb dX9_spare_118 ?_
  refine h_mmax C hl.1 k_775 ⟨Nat.le_of_ble_eq_true rfl, Nat.le_of_ble_eq_true rfl⟩ ⟨Nat.zero_le _, Nat.zero_le _⟩ dX9_spare_119 ?_
  exact h_iret_o C hr hI h dX9_spare_122
set_option maxRecDepth 100000 in
set_option maxHeartbeats 4000000 in
theorem c_X9_spare (l : Launch) (D : va_G) (t : gT) (ad z : Nat → Nat) (hJ : gJ shX ad) (kS : Nat) (h_kS : shX[kS]? = some (.inr (.inl (5, [some (kS + 1), none, none, none, none])))) (h_kS1 : shX[kS + 1]? = some (.inl (1, 60))) (σ : gS) (x2 : Int32) (q : Int32) (h : f_X9_spare σ kS x2 = some q) : Met l yX9_spare (Cond.code yX9_spare cX9_spare 7 (some .int) :: lw_tb) (gR 3 105) (gPc shX t ad D z [.ref (ad 0), .ref (ad kS), .int x2] σ) (gQi shX t ad D q σ) 0 0 (gA shX ad) := by
  refine gMet "NineKeysRound" rfl (by decide) hJ (Nat.le_of_ble_eq_true rfl) ?_
  intro p e s m below meth c ls C hr hI hl
  have hx := C.1
  have hb := C.2.1
  have hl : lv_has ls 7 [(0, .ref (ad 0)), (1, .ref (ad kS)), (2, .int x2)] := hl
  unfold f_X9_spare at h
  refine lv_iconst hx hb dX9_spare_0 ci_2 ?_
  refine lv_iload_n hx hb dX9_spare_1 rfl (lv_at hl 2 rfl) ?_
  refine lv_imul hx hb dX9_spare_2 ?_
  refine gx_topi h (fun v1 h => ?_)
  refine lv_istore_n (lv' := [(3, .int v1), (0, .ref (ad 0)), (1, .ref (ad kS)), (2, .int x2)]) hx hb dX9_spare_3 rfl hl (by decide) rfl (fun ls hl => ?_)
  refine lv_aload_n hx hb dX9_spare_4 rfl (lv_at hl 2 rfl) ?_
  refine lv_iload_n hx hb dX9_spare_5 rfl (lv_at hl 0 rfl) ?_
  refine h_callvl_o (rest := []) C hI hl.1 h_kS rfl yv_X5_cellAt k_339 h (fun q hq => c_X5_cellAt l D t ad z C.2.2.2.2.2.2.1 kS h_kS h_kS1 (σ) v1 q hq) (As := [.int v1]) rfl rfl ⟨Nat.le_of_ble_eq_true rfl, Nat.le_of_ble_eq_true rfl⟩ (Nat.le_of_ble_eq_true rfl) dX9_spare_6 (fun q2 H locs h hI => ?_)
  refine lv_l2i (v := ((q2 : Int64).toInt32)) hx hb dX9_spare_9 rfl ?_
  refine gx_topi h (fun v3 h => ?_)
  refine lv_istore (lv' := [(4, .int v3), (3, .int v1), (0, .ref (ad 0)), (1, .ref (ad kS)), (2, .int x2)]) hx hb dX9_spare_10 hl (by decide) rfl (fun ls hl => ?_)
  refine lv_iload_n hx hb dX9_spare_12 rfl (lv_at hl 1 rfl) ?_
  refine lv_iconst hx hb dX9_spare_13 ci_1 ?_
  refine lv_iadd hx hb dX9_spare_14 ?_
  refine lv_aload_n hx hb dX9_spare_15 rfl (lv_at hl 3 rfl) ?_
  refine fg_248 C hI h_kS rfl dX9_spare_16 ?_
  refine hicmp_ge (tgt := 34) C dX9_spare_19 (by decide) h (fun h => ?_) (fun h => ?_)
  · refine lv_iconst hx hb dX9_spare_34 ci_m1 ?_
    exact h_iret_o C hr hI h dX9_spare_35
  · refine lv_aload_n hx hb dX9_spare_22 rfl (lv_at hl 2 rfl) ?_
    refine fr_261 C hI shX_0 rfl dX9_spare_23 ?_
    refine lv_iload hx hb dX9_spare_26 (lv_at hl 0 rfl) ?_
    refine h_callvi_o (rest := []) C hI hl.1 shX_1 rfl yv_X8_isPost k_370 h (fun q hq => c_X8_isPost l D t ad z C.2.2.2.2.2.2.1 (σ) v3 q hq) (As := [.int v3]) rfl rfl ⟨Nat.le_of_ble_eq_true rfl, Nat.le_of_ble_eq_true rfl⟩ (Nat.le_of_ble_eq_true rfl) dX9_spare_28 (fun q4 H locs h hI => ?_)
    refine hif_ne (tgt := 36) C dX9_spare_31 (by decide) h (fun h => ?_) (fun h => ?_)
    · refine lv_aload_n hx hb dX9_spare_36 rfl (lv_at hl 2 rfl) ?_
      refine fr_261 C hI shX_0 rfl dX9_spare_37 ?_
      refine lv_bipush hx hb dX9_spare_40 cb_9 ?_
      refine lv_iload hx hb dX9_spare_42 (lv_at hl 0 rfl) ?_
      refine h_callvi_o (rest := []) C hI hl.1 shX_1 rfl yv_X8_way k_833 h (fun q hq => c_X8_way l D t ad z C.2.2.2.2.2.2.1 (σ) 9 v3 q hq) (As := [.int 9, .int v3]) rfl rfl ⟨Nat.le_of_ble_eq_true rfl, Nat.le_of_ble_eq_true rfl⟩ (Nat.le_of_ble_eq_true rfl) dX9_spare_44 (fun q5 H locs h hI => ?_)
      refine lv_istore (lv' := [(5, .int q5), (4, .int v3), (3, .int v1), (0, .ref (ad 0)), (1, .ref (ad kS)), (2, .int x2)]) hx hb dX9_spare_47 hl (by decide) rfl (fun ls hl => ?_)
      refine lv_iload_n hx hb dX9_spare_49 rfl (lv_at hl 5 rfl) ?_
      refine hif_le (tgt := 107) C dX9_spare_50 (by decide) h (fun h => ?_) (fun h => ?_)
      · exact w_X9_spare_107 C hr  h_kS h_kS1  _ _ _ _ _  h hI (lv_sub hl [4, 2, 0] rfl)
      · refine lv_aload_n hx hb dX9_spare_53 rfl (lv_at hl 4 rfl) ?_
        refine lv_iload_n hx hb dX9_spare_54 rfl (lv_at hl 2 rfl) ?_
        refine lv_iconst hx hb dX9_spare_55 ci_2 ?_
        refine lv_isub hx hb dX9_spare_56 ?_
        refine h_callvl_o (rest := []) C hI hl.1 h_kS rfl yv_X5_cellAt k_339 h (fun q hq => c_X5_cellAt l D t ad z C.2.2.2.2.2.2.1 kS h_kS h_kS1 (σ) (v1 - 2) q hq) (As := [.int (v1 - 2)]) rfl rfl ⟨Nat.le_of_ble_eq_true rfl, Nat.le_of_ble_eq_true rfl⟩ (Nat.le_of_ble_eq_true rfl) dX9_spare_57 (fun q6 H locs h hI => ?_)
        refine lv_l2i (v := ((q6 : Int64).toInt32)) hx hb dX9_spare_60 rfl ?_
        refine gx_topi h (fun v7 h => ?_)
        refine lv_istore (lv' := [(6, .int v7), (5, .int q5), (4, .int v3), (3, .int v1), (0, .ref (ad 0)), (1, .ref (ad kS)), (2, .int x2)]) hx hb dX9_spare_61 hl (by decide) rfl (fun ls hl => ?_)
        refine lv_aload_n hx hb dX9_spare_63 rfl (lv_at hl 4 rfl) ?_
        refine fr_261 C hI shX_0 rfl dX9_spare_64 ?_
        refine lv_iload hx hb dX9_spare_67 (lv_at hl 0 rfl) ?_
        refine h_callvi_o (rest := []) C hI hl.1 shX_1 rfl yv_X8_isPost k_370 h (fun q hq => c_X8_isPost l D t ad z C.2.2.2.2.2.2.1 (σ) v7 q hq) (As := [.int v7]) rfl rfl ⟨Nat.le_of_ble_eq_true rfl, Nat.le_of_ble_eq_true rfl⟩ (Nat.le_of_ble_eq_true rfl) dX9_spare_69 (fun q8 H locs h hI => ?_)
        refine hif_ne (tgt := 77) C dX9_spare_72 (by decide) h (fun h => ?_) (fun h => ?_)
        · refine lv_aload_n hx hb dX9_spare_77 rfl (lv_at hl 5 rfl) ?_
          refine lv_iload_n hx hb dX9_spare_78 rfl (lv_at hl 3 rfl) ?_
          refine lv_iconst hx hb dX9_spare_79 ci_1 ?_
          refine lv_isub hx hb dX9_spare_80 ?_
          refine h_callvl_o (rest := []) C hI hl.1 h_kS rfl yv_X5_cellAt k_339 h (fun q hq => c_X5_cellAt l D t ad z C.2.2.2.2.2.2.1 kS h_kS h_kS1 (σ) (v1 - 1) q hq) (As := [.int (v1 - 1)]) rfl rfl ⟨Nat.le_of_ble_eq_true rfl, Nat.le_of_ble_eq_true rfl⟩ (Nat.le_of_ble_eq_true rfl) dX9_spare_81 (fun q9 H locs h hI => ?_)
          refine lv_l2i (v := ((q9 : Int64).toInt32)) hx hb dX9_spare_84 rfl ?_
          refine lv_aload_n hx hb dX9_spare_85 rfl (lv_at hl 4 rfl) ?_
          refine fr_261 C hI shX_0 rfl dX9_spare_86 ?_
          refine h_callvi_o (rest := [.int ((q9 : Int64).toInt32)]) C hI hl.1 shX_1 rfl yv_X8_stand k_834 h (fun q hq => c_X8_stand l D t ad z C.2.2.2.2.2.2.1 (σ) q hq) (As := []) rfl rfl ⟨Nat.le_of_ble_eq_true rfl, Nat.le_of_ble_eq_true rfl⟩ (Nat.le_of_ble_eq_true rfl) dX9_spare_89 (fun q10 H locs h hI => ?_)
          refine lv_iadd hx hb dX9_spare_92 ?_
          refine lv_aload_n hx hb dX9_spare_93 rfl (lv_at hl 4 rfl) ?_
          refine fr_261 C hI shX_0 rfl dX9_spare_94 ?_
          refine lv_iload hx hb dX9_spare_97 (lv_at hl 0 rfl) ?_
          refine lv_iload hx hb dX9_spare_99 (lv_at hl 2 rfl) ?_
          refine h_callvi_o (rest := [.int (((q9 : Int64).toInt32) + q10)]) C hI hl.1 shX_1 rfl yv_X8_way k_833 h (fun q hq => c_X8_way l D t ad z C.2.2.2.2.2.2.1 (σ) v7 v3 q hq) (As := [.int v7, .int v3]) rfl rfl ⟨Nat.le_of_ble_eq_true rfl, Nat.le_of_ble_eq_true rfl⟩ (Nat.le_of_ble_eq_true rfl) dX9_spare_101 (fun q11 H locs h hI => ?_)
          refine lv_iadd hx hb dX9_spare_104 ?_
          refine gx_topi h (fun v12 h => ?_)
          refine lv_istore (lv' := [(5, .int v12), (6, .int v7), (4, .int v3), (3, .int v1), (0, .ref (ad 0)), (1, .ref (ad kS)), (2, .int x2)]) hx hb dX9_spare_105 hl (by decide) rfl (fun ls hl => ?_)
          exact w_X9_spare_107 C hr  h_kS h_kS1  _ _ _ _ _  h hI (lv_sub hl [5, 3, 0] rfl)
        · refine lv_iconst hx hb dX9_spare_75 ci_m1 ?_
          exact h_iret_o C hr hI h dX9_spare_76
    · refine lv_iconst hx hb dX9_spare_34 ci_m1 ?_
      exact h_iret_o C hr hI h dX9_spare_35
set_option maxRecDepth 100000 in
set_option maxHeartbeats 4000000 in
theorem w_X9_firstThatCannotBe_7 {p : Program} {l : Launch} {e : Env} {s : State} {m : MethodId} {args : Array Value} {below : List Frame} {meth : Method} {c : Code} {D : va_G} {t : gT} {ad z : Nat → Nat} {σ : gS} (C : gC p s m args meth c cX9_firstThatCannotBe 4 "NineKeysRound" D t shX ad z) (hr : meth.sig.returnType = some .int) {kS : Nat} (h_kS : shX[kS]? = some (.inr (.inl (5, [some (kS + 1), none, none, none, none])))) (h_kS1 : shX[kS + 1]? = some (.inl (1, 60))) {r : Int32} : ∀ (n : Nat) (x2 : Int32) (x3 : Int32) (H : Heap) (locs : List Loc) (ls : Array Slot), f_X9_firstThatCannotBe_7 σ kS n x2 x3 = some r → gI shX t ad D s.heap σ H locs → lv_has ls 4 [(0, .ref (ad 0)), (1, .ref (ad kS)), (2, .int x2), (3, .int x3)] → W p l e (gR 4 131) s m args below meth c H locs 0 0 (MQ below (gQi shX t ad D r σ) args s 0 0 (gA shX ad)) (F0 m 7 ls []) := by
  have hx := C.1
  have hb := C.2.1
  intro n
  induction n with
  | zero =>
    intro x2 x3 H locs ls  h
    exact absurd h (by simp [f_X9_firstThatCannotBe_7])
  | succ n ih =>
    intro x2 x3 H locs ls  h hI hl
    unfold f_X9_firstThatCannotBe_7 at h
    refine lv_iload_n hx hb dX9_firstThatCannotBe_7 rfl (lv_at hl 3 rfl) ?_
    refine lv_iload_n hx hb dX9_firstThatCannotBe_8 rfl (lv_at hl 2 rfl) ?_
    refine hicmp_ge (tgt := 29) C dX9_firstThatCannotBe_9 (by decide) h (fun h => ?_) (fun h => ?_)
    · refine lv_bipush hx hb dX9_firstThatCannotBe_29 cb_m2 ?_
      exact h_iret_o C hr hI h dX9_firstThatCannotBe_31
    · refine lv_aload_n hx hb dX9_firstThatCannotBe_12 rfl (lv_at hl 0 rfl) ?_
      refine lv_aload_n hx hb dX9_firstThatCannotBe_13 rfl (lv_at hl 1 rfl) ?_
      refine lv_iload_n hx hb dX9_firstThatCannotBe_14 rfl (lv_at hl 3 rfl) ?_
      refine h_callvi_o (rest := []) C hI hl.1 shX_0 rfl yv_X9_spare k_829 h (fun q hq => c_X9_spare l D t ad z C.2.2.2.2.2.2.1 kS h_kS h_kS1 (σ) x3 q hq) (As := [.ref (ad kS), .int x3]) rfl rfl ⟨Nat.le_of_ble_eq_true rfl, Nat.le_of_ble_eq_true rfl⟩ (Nat.le_of_ble_eq_true rfl) dX9_firstThatCannotBe_15 (fun q1 H locs h hI => ?_)
      refine hif_ge (tgt := 23) C dX9_firstThatCannotBe_18 (by decide) h (fun h => ?_) (fun h => ?_)
      · refine h_iinc C hl dX9_firstThatCannotBe_23 3 rfl ci_1 h (by decide) (lvf := fun v2 => [(3, .int v2), (0, .ref (ad 0)), (1, .ref (ad kS)), (2, .int x2)]) (fun _ => rfl) (fun v2 ls h hl => ?_)
        refine lv_goto (tgt := 7) hx hb dX9_firstThatCannotBe_26 (by decide) ?_
        exact ih _ _ _ _ _  h hI (lv_sub hl [1, 2, 3, 0] rfl)
      · refine lv_iload_n hx hb dX9_firstThatCannotBe_21 rfl (lv_at hl 3 rfl) ?_
        exact h_iret_o C hr hI h dX9_firstThatCannotBe_22
set_option maxRecDepth 100000 in
set_option maxHeartbeats 4000000 in
theorem c_X9_firstThatCannotBe (l : Launch) (D : va_G) (t : gT) (ad z : Nat → Nat) (hJ : gJ shX ad) (kS : Nat) (h_kS : shX[kS]? = some (.inr (.inl (5, [some (kS + 1), none, none, none, none])))) (h_kS1 : shX[kS + 1]? = some (.inl (1, 60))) (σ : gS) (q : Int32) (h : f_X9_firstThatCannotBe σ kS = some q) : Met l yX9_firstThatCannotBe (Cond.code yX9_firstThatCannotBe cX9_firstThatCannotBe 4 (some .int) :: lw_tb) (gR 4 131) (gPc shX t ad D z [.ref (ad 0), .ref (ad kS)] σ) (gQi shX t ad D q σ) 0 0 (gA shX ad) := by
  refine gMet "NineKeysRound" rfl (by decide) hJ (Nat.le_of_ble_eq_true rfl) ?_
  intro p e s m below meth c ls C hr hI hl
  have hx := C.1
  have hb := C.2.1
  have hl : lv_has ls 4 [(0, .ref (ad 0)), (1, .ref (ad kS))] := hl
  unfold f_X9_firstThatCannotBe at h
  refine lv_aload_n hx hb dX9_firstThatCannotBe_0 rfl (lv_at hl 1 rfl) ?_
  refine h_callvi_o (rest := []) C hI hl.1 h_kS rfl yv_X5_twos k_825 h (fun q hq => c_X5_twos l D t ad z C.2.2.2.2.2.2.1 kS h_kS h_kS1 (σ) q hq) (As := []) rfl rfl ⟨Nat.le_of_ble_eq_true rfl, Nat.le_of_ble_eq_true rfl⟩ (Nat.le_of_ble_eq_true rfl) dX9_firstThatCannotBe_1 (fun q1 H locs h hI => ?_)
  refine lv_istore_n (lv' := [(2, .int q1), (0, .ref (ad 0)), (1, .ref (ad kS))]) hx hb dX9_firstThatCannotBe_4 rfl hl (by decide) rfl (fun ls hl => ?_)
  refine lv_iconst hx hb dX9_firstThatCannotBe_5 ci_0 ?_
  refine lv_istore_n (lv' := [(3, .int 0), (2, .int q1), (0, .ref (ad 0)), (1, .ref (ad kS))]) hx hb dX9_firstThatCannotBe_6 rfl hl (by decide) rfl (fun ls hl => ?_)
  exact w_X9_firstThatCannotBe_7 C hr  h_kS h_kS1  _ _ _ _ _ _  h hI (lv_sub hl [2, 3, 1, 0] rfl)
set_option maxRecDepth 100000 in
set_option maxHeartbeats 4000000 in
theorem w_X9_slept_10 {p : Program} {l : Launch} {e : Env} {s : State} {m : MethodId} {args : Array Value} {below : List Frame} {meth : Method} {c : Code} {D : va_G} {t : gT} {ad z : Nat → Nat} {σ : gS} (C : gC p s m args meth c cX9_slept 6 "NineKeysRound" D t shX ad z) (hr : meth.sig.returnType = some .int) {kS : Nat} (h_kS : shX[kS]? = some (.inr (.inl (5, [some (kS + 1), none, none, none, none])))) (h_kS1 : shX[kS + 1]? = some (.inl (1, 60))) {r : Int32} : ∀ (n : Nat) (x2 : Int32) (x3 : Int32) (x4 : Int32) (H : Heap) (locs : List Loc) (ls : Array Slot), f_X9_slept_10 σ kS n x2 x3 x4 = some r → gI shX t ad D s.heap σ H locs → lv_has ls 6 [(0, .ref (ad 0)), (1, .ref (ad kS)), (2, .int x2), (3, .int x3), (4, .int x4)] → W p l e (gR 4 131) s m args below meth c H locs 0 0 (MQ below (gQi shX t ad D r σ) args s 0 0 (gA shX ad)) (F0 m 10 ls []) := by
  have hx := C.1
  have hb := C.2.1
  intro n
  induction n with
  | zero =>
    intro x2 x3 x4 H locs ls  h
    exact absurd h (by simp [f_X9_slept_10])
  | succ n ih =>
    intro x2 x3 x4 H locs ls  h hI hl
    unfold f_X9_slept_10 at h
    refine lv_iload hx hb dX9_slept_10 (lv_at hl 4 rfl) ?_
    refine lv_iload_n hx hb dX9_slept_12 rfl (lv_at hl 2 rfl) ?_
    refine hicmp_ge (tgt := 44) C dX9_slept_13 (by decide) h (fun h => ?_) (fun h => ?_)
    · refine lv_iload_n hx hb dX9_slept_44 rfl (lv_at hl 3 rfl) ?_
      exact h_iret_o C hr hI h dX9_slept_45
    · refine lv_aload_n hx hb dX9_slept_16 rfl (lv_at hl 0 rfl) ?_
      refine lv_aload_n hx hb dX9_slept_17 rfl (lv_at hl 1 rfl) ?_
      refine lv_iload hx hb dX9_slept_18 (lv_at hl 4 rfl) ?_
      refine h_callvi_o (rest := []) C hI hl.1 shX_0 rfl yv_X9_spare k_829 h (fun q hq => c_X9_spare l D t ad z C.2.2.2.2.2.2.1 kS h_kS h_kS1 (σ) x4 q hq) (As := [.ref (ad kS), .int x4]) rfl rfl ⟨Nat.le_of_ble_eq_true rfl, Nat.le_of_ble_eq_true rfl⟩ (Nat.le_of_ble_eq_true rfl) dX9_slept_20 (fun q1 H locs h hI => ?_)
      refine lv_istore (lv' := [(5, .int q1), (0, .ref (ad 0)), (1, .ref (ad kS)), (2, .int x2), (3, .int x3), (4, .int x4)]) hx hb dX9_slept_23 hl (by decide) rfl (fun ls hl => ?_)
      refine lv_iload hx hb dX9_slept_25 (lv_at hl 0 rfl) ?_
      refine hif_ge (tgt := 33) C dX9_slept_27 (by decide) h (fun h => ?_) (fun h => ?_)
      · refine lv_iload_n hx hb dX9_slept_33 rfl (lv_at hl 4 rfl) ?_
        refine lv_iload hx hb dX9_slept_34 (lv_at hl 0 rfl) ?_
        refine lv_iadd hx hb dX9_slept_36 ?_
        refine gx_topi h (fun v2 h => ?_)
        refine lv_istore_n (lv' := [(3, .int v2), (5, .int q1), (0, .ref (ad 0)), (1, .ref (ad kS)), (2, .int x2), (4, .int x4)]) hx hb dX9_slept_37 rfl hl (by decide) rfl (fun ls hl => ?_)
        refine h_iinc C hl dX9_slept_38 5 rfl ci_1 h (by decide) (lvf := fun v3 => [(4, .int v3), (3, .int v2), (5, .int q1), (0, .ref (ad 0)), (1, .ref (ad kS)), (2, .int x2)]) (fun _ => rfl) (fun v3 ls h hl => ?_)
        refine lv_goto (tgt := 10) hx hb dX9_slept_41 (by decide) ?_
        exact ih _ _ _ _ _ _  h hI (lv_sub hl [3, 4, 5, 1, 0] rfl)
      · refine lv_goto (tgt := 44) hx hb dX9_slept_30 (by decide) ?_
        refine lv_iload_n hx hb dX9_slept_44 rfl (lv_at hl 4 rfl) ?_
        exact h_iret_o C hr hI h dX9_slept_45
set_option maxRecDepth 100000 in
set_option maxHeartbeats 4000000 in
theorem c_X9_slept (l : Launch) (D : va_G) (t : gT) (ad z : Nat → Nat) (hJ : gJ shX ad) (kS : Nat) (h_kS : shX[kS]? = some (.inr (.inl (5, [some (kS + 1), none, none, none, none])))) (h_kS1 : shX[kS + 1]? = some (.inl (1, 60))) (σ : gS) (q : Int32) (h : f_X9_slept σ kS = some q) : Met l yX9_slept (Cond.code yX9_slept cX9_slept 6 (some .int) :: lw_tb) (gR 4 131) (gPc shX t ad D z [.ref (ad 0), .ref (ad kS)] σ) (gQi shX t ad D q σ) 0 0 (gA shX ad) := by
  refine gMet "NineKeysRound" rfl (by decide) hJ (Nat.le_of_ble_eq_true rfl) ?_
  intro p e s m below meth c ls C hr hI hl
  have hx := C.1
  have hb := C.2.1
  have hl : lv_has ls 6 [(0, .ref (ad 0)), (1, .ref (ad kS))] := hl
  unfold f_X9_slept at h
  refine lv_aload_n hx hb dX9_slept_0 rfl (lv_at hl 1 rfl) ?_
  refine h_callvi_o (rest := []) C hI hl.1 h_kS rfl yv_X5_twos k_825 h (fun q hq => c_X5_twos l D t ad z C.2.2.2.2.2.2.1 kS h_kS h_kS1 (σ) q hq) (As := []) rfl rfl ⟨Nat.le_of_ble_eq_true rfl, Nat.le_of_ble_eq_true rfl⟩ (Nat.le_of_ble_eq_true rfl) dX9_slept_1 (fun q1 H locs h hI => ?_)
  refine lv_istore_n (lv' := [(2, .int q1), (0, .ref (ad 0)), (1, .ref (ad kS))]) hx hb dX9_slept_4 rfl hl (by decide) rfl (fun ls hl => ?_)
  refine lv_iconst hx hb dX9_slept_5 ci_0 ?_
  refine lv_istore_n (lv' := [(3, .int 0), (2, .int q1), (0, .ref (ad 0)), (1, .ref (ad kS))]) hx hb dX9_slept_6 rfl hl (by decide) rfl (fun ls hl => ?_)
  refine lv_iconst hx hb dX9_slept_7 ci_0 ?_
  refine lv_istore (lv' := [(4, .int 0), (3, .int 0), (2, .int q1), (0, .ref (ad 0)), (1, .ref (ad kS))]) hx hb dX9_slept_8 hl (by decide) rfl (fun ls hl => ?_)
  exact w_X9_slept_10 C hr  h_kS h_kS1  _ _ _ _ _ _ _  h hI (lv_sub hl [3, 4, 2, 1, 0] rfl)
set_option maxRecDepth 100000 in
set_option maxHeartbeats 4000000 in
theorem w_X9_whereMostSlept_14 {p : Program} {l : Launch} {e : Env} {s : State} {m : MethodId} {args : Array Value} {below : List Frame} {meth : Method} {c : Code} {D : va_G} {t : gT} {ad z : Nat → Nat} {σ : gS} (C : gC p s m args meth c cX9_whereMostSlept 7 "NineKeysRound" D t shX ad z) (hr : meth.sig.returnType = some .int) {kS : Nat} (h_kS : shX[kS]? = some (.inr (.inl (5, [some (kS + 1), none, none, none, none])))) (h_kS1 : shX[kS + 1]? = some (.inl (1, 60))) {r : Int32} : ∀ (n : Nat) (x2 : Int32) (x3 : Int32) (x4 : Int32) (x5 : Int32) (H : Heap) (locs : List Loc) (ls : Array Slot), f_X9_whereMostSlept_14 σ kS n x2 x3 x4 x5 = some r → gI shX t ad D s.heap σ H locs → lv_has ls 7 [(0, .ref (ad 0)), (1, .ref (ad kS)), (2, .int x2), (3, .int x3), (4, .int x4), (5, .int x5)] → W p l e (gR 4 131) s m args below meth c H locs 0 0 (MQ below (gQi shX t ad D r σ) args s 0 0 (gA shX ad)) (F0 m 14 ls []) := by
  have hx := C.1
  have hb := C.2.1
  intro n
  induction n with
  | zero =>
    intro x2 x3 x4 x5 H locs ls  h
    exact absurd h (by simp [f_X9_whereMostSlept_14])
  | succ n ih =>
    intro x2 x3 x4 x5 H locs ls  h hI hl
    unfold f_X9_whereMostSlept_14 at h
    refine lv_iload hx hb dX9_whereMostSlept_14 (lv_at hl 5 rfl) ?_
    refine lv_iload_n hx hb dX9_whereMostSlept_16 rfl (lv_at hl 2 rfl) ?_
    refine hicmp_ge (tgt := 56) C dX9_whereMostSlept_17 (by decide) h (fun h => ?_) (fun h => ?_)
    · refine lv_iload hx hb dX9_whereMostSlept_56 (lv_at hl 4 rfl) ?_
      exact h_iret_o C hr hI h dX9_whereMostSlept_58
    · refine lv_aload_n hx hb dX9_whereMostSlept_20 rfl (lv_at hl 0 rfl) ?_
      refine lv_aload_n hx hb dX9_whereMostSlept_21 rfl (lv_at hl 1 rfl) ?_
      refine lv_iload hx hb dX9_whereMostSlept_22 (lv_at hl 5 rfl) ?_
      refine h_callvi_o (rest := []) C hI hl.1 shX_0 rfl yv_X9_spare k_829 h (fun q hq => c_X9_spare l D t ad z C.2.2.2.2.2.2.1 kS h_kS h_kS1 (σ) x5 q hq) (As := [.ref (ad kS), .int x5]) rfl rfl ⟨Nat.le_of_ble_eq_true rfl, Nat.le_of_ble_eq_true rfl⟩ (Nat.le_of_ble_eq_true rfl) dX9_whereMostSlept_24 (fun q1 H locs h hI => ?_)
      refine lv_istore (lv' := [(6, .int q1), (0, .ref (ad 0)), (1, .ref (ad kS)), (2, .int x2), (3, .int x3), (4, .int x4), (5, .int x5)]) hx hb dX9_whereMostSlept_27 hl (by decide) rfl (fun ls hl => ?_)
      refine lv_iload hx hb dX9_whereMostSlept_29 (lv_at hl 0 rfl) ?_
      refine hif_ge (tgt := 37) C dX9_whereMostSlept_31 (by decide) h (fun h => ?_) (fun h => ?_)
      · refine lv_iload hx hb dX9_whereMostSlept_37 (lv_at hl 0 rfl) ?_
        refine lv_iload_n hx hb dX9_whereMostSlept_39 rfl (lv_at hl 4 rfl) ?_
        refine hicmp_le (tgt := 50) C dX9_whereMostSlept_40 (by decide) h (fun h => ?_) (fun h => ?_)
        · refine h_iinc C hl dX9_whereMostSlept_50 6 rfl ci_1 h (by decide) (lvf := fun v2 => [(5, .int v2), (6, .int q1), (0, .ref (ad 0)), (1, .ref (ad kS)), (2, .int x2), (3, .int x3), (4, .int x4)]) (fun _ => rfl) (fun v2 ls h hl => ?_)
          refine lv_goto (tgt := 14) hx hb dX9_whereMostSlept_53 (by decide) ?_
          exact ih _ _ _ _ _ _ _  h hI (lv_sub hl [2, 3, 4, 5, 6, 0] rfl)
        · refine lv_iload hx hb dX9_whereMostSlept_43 (lv_at hl 0 rfl) ?_
          refine lv_istore_n (lv' := [(3, .int q1), (6, .int q1), (0, .ref (ad 0)), (1, .ref (ad kS)), (2, .int x2), (4, .int x4), (5, .int x5)]) hx hb dX9_whereMostSlept_45 rfl hl (by decide) rfl (fun ls hl => ?_)
          refine lv_iload hx hb dX9_whereMostSlept_46 (lv_at hl 6 rfl) ?_
          refine lv_istore (lv' := [(4, .int x5), (3, .int q1), (6, .int q1), (0, .ref (ad 0)), (1, .ref (ad kS)), (2, .int x2), (5, .int x5)]) hx hb dX9_whereMostSlept_48 hl (by decide) rfl (fun ls hl => ?_)
          refine h_iinc C hl dX9_whereMostSlept_50 6 rfl ci_1 h (by decide) (lvf := fun v3 => [(5, .int v3), (4, .int x5), (3, .int q1), (6, .int q1), (0, .ref (ad 0)), (1, .ref (ad kS)), (2, .int x2)]) (fun _ => rfl) (fun v3 ls h hl => ?_)
          refine lv_goto (tgt := 14) hx hb dX9_whereMostSlept_53 (by decide) ?_
          exact ih _ _ _ _ _ _ _  h hI (lv_sub hl [4, 5, 6, 2, 1, 0] rfl)
      · refine lv_goto (tgt := 56) hx hb dX9_whereMostSlept_34 (by decide) ?_
        refine lv_iload hx hb dX9_whereMostSlept_56 (lv_at hl 5 rfl) ?_
        exact h_iret_o C hr hI h dX9_whereMostSlept_58
set_option maxRecDepth 100000 in
set_option maxHeartbeats 4000000 in
theorem c_X9_whereMostSlept (l : Launch) (D : va_G) (t : gT) (ad z : Nat → Nat) (hJ : gJ shX ad) (kS : Nat) (h_kS : shX[kS]? = some (.inr (.inl (5, [some (kS + 1), none, none, none, none])))) (h_kS1 : shX[kS + 1]? = some (.inl (1, 60))) (σ : gS) (q : Int32) (h : f_X9_whereMostSlept σ kS = some q) : Met l yX9_whereMostSlept (Cond.code yX9_whereMostSlept cX9_whereMostSlept 7 (some .int) :: lw_tb) (gR 4 131) (gPc shX t ad D z [.ref (ad 0), .ref (ad kS)] σ) (gQi shX t ad D q σ) 0 0 (gA shX ad) := by
  refine gMet "NineKeysRound" rfl (by decide) hJ (Nat.le_of_ble_eq_true rfl) ?_
  intro p e s m below meth c ls C hr hI hl
  have hx := C.1
  have hb := C.2.1
  have hl : lv_has ls 7 [(0, .ref (ad 0)), (1, .ref (ad kS))] := hl
  unfold f_X9_whereMostSlept at h
  refine lv_aload_n hx hb dX9_whereMostSlept_0 rfl (lv_at hl 1 rfl) ?_
  refine h_callvi_o (rest := []) C hI hl.1 h_kS rfl yv_X5_twos k_825 h (fun q hq => c_X5_twos l D t ad z C.2.2.2.2.2.2.1 kS h_kS h_kS1 (σ) q hq) (As := []) rfl rfl ⟨Nat.le_of_ble_eq_true rfl, Nat.le_of_ble_eq_true rfl⟩ (Nat.le_of_ble_eq_true rfl) dX9_whereMostSlept_1 (fun q1 H locs h hI => ?_)
  refine lv_istore_n (lv' := [(2, .int q1), (0, .ref (ad 0)), (1, .ref (ad kS))]) hx hb dX9_whereMostSlept_4 rfl hl (by decide) rfl (fun ls hl => ?_)
  refine lv_iconst hx hb dX9_whereMostSlept_5 ci_0 ?_
  refine lv_istore_n (lv' := [(3, .int 0), (2, .int q1), (0, .ref (ad 0)), (1, .ref (ad kS))]) hx hb dX9_whereMostSlept_6 rfl hl (by decide) rfl (fun ls hl => ?_)
  refine lv_bipush hx hb dX9_whereMostSlept_7 cb_m2 ?_
  refine lv_istore (lv' := [(4, .int (-2)), (3, .int 0), (2, .int q1), (0, .ref (ad 0)), (1, .ref (ad kS))]) hx hb dX9_whereMostSlept_9 hl (by decide) rfl (fun ls hl => ?_)
  refine lv_iconst hx hb dX9_whereMostSlept_11 ci_0 ?_
  refine lv_istore (lv' := [(5, .int 0), (4, .int (-2)), (3, .int 0), (2, .int q1), (0, .ref (ad 0)), (1, .ref (ad kS))]) hx hb dX9_whereMostSlept_12 hl (by decide) rfl (fun ls hl => ?_)
  exact w_X9_whereMostSlept_14 C hr  h_kS h_kS1  _ _ _ _ _ _ _ _  h hI (lv_sub hl [4, 5, 3, 2, 1, 0] rfl)
set_option maxRecDepth 100000 in
set_option maxHeartbeats 4000000 in
theorem w_X9_forged_10 {p : Program} {l : Launch} {e : Env} {s : State} {m : MethodId} {args : Array Value} {below : List Frame} {meth : Method} {c : Code} {D : va_G} {t : gT} {ad z : Nat → Nat} {σ : gS} (C : gC p s m args meth c cX9_forged 5 "NineKeysRound" D t shX ad z) (hr : meth.sig.returnType = some .int) {kS : Nat} (h_kS : shX[kS]? = some (.inr (.inl (5, [some (kS + 1), none, none, none, none])))) (h_kS1 : shX[kS + 1]? = some (.inl (1, 60))) {r : Int32} : ∀ (n : Nat) (x2 : Int32) (x3 : Int32) (x4 : Int32) (H : Heap) (locs : List Loc) (ls : Array Slot), f_X9_forged_10 σ kS n x2 x3 x4 = some r → gI shX t ad D s.heap σ H locs → lv_has ls 5 [(0, .ref (ad 0)), (1, .ref (ad kS)), (2, .int x2), (3, .int x3), (4, .int x4)] → W p l e (gR 4 131) s m args below meth c H locs 0 0 (MQ below (gQi shX t ad D r σ) args s 0 0 (gA shX ad)) (F0 m 10 ls []) := by
  have hx := C.1
  have hb := C.2.1
  intro n
  induction n with
  | zero =>
    intro x2 x3 x4 H locs ls  h
    exact absurd h (by simp [f_X9_forged_10])
  | succ n ih =>
    intro x2 x3 x4 H locs ls  h hI hl
    unfold f_X9_forged_10 at h
    refine lv_iload hx hb dX9_forged_10 (lv_at hl 4 rfl) ?_
    refine lv_iload_n hx hb dX9_forged_12 rfl (lv_at hl 2 rfl) ?_
    refine hicmp_ge (tgt := 35) C dX9_forged_13 (by decide) h (fun h => ?_) (fun h => ?_)
    · refine lv_iload_n hx hb dX9_forged_35 rfl (lv_at hl 3 rfl) ?_
      exact h_iret_o C hr hI h dX9_forged_36
    · refine lv_aload_n hx hb dX9_forged_16 rfl (lv_at hl 0 rfl) ?_
      refine lv_aload_n hx hb dX9_forged_17 rfl (lv_at hl 1 rfl) ?_
      refine lv_iload hx hb dX9_forged_18 (lv_at hl 4 rfl) ?_
      refine h_callvi_o (rest := []) C hI hl.1 shX_0 rfl yv_X9_spare k_829 h (fun q hq => c_X9_spare l D t ad z C.2.2.2.2.2.2.1 kS h_kS h_kS1 (σ) x4 q hq) (As := [.ref (ad kS), .int x4]) rfl rfl ⟨Nat.le_of_ble_eq_true rfl, Nat.le_of_ble_eq_true rfl⟩ (Nat.le_of_ble_eq_true rfl) dX9_forged_20 (fun q1 H locs h hI => ?_)
      refine hif_ge (tgt := 29) C dX9_forged_23 (by decide) h (fun h => ?_) (fun h => ?_)
      · refine h_iinc C hl dX9_forged_29 4 rfl ci_1 h (by decide) (lvf := fun v2 => [(4, .int v2), (0, .ref (ad 0)), (1, .ref (ad kS)), (2, .int x2), (3, .int x3)]) (fun _ => rfl) (fun v2 ls h hl => ?_)
        refine lv_goto (tgt := 10) hx hb dX9_forged_32 (by decide) ?_
        exact ih _ _ _ _ _ _  h hI (lv_sub hl [1, 2, 3, 4, 0] rfl)
      · refine h_iinc C hl dX9_forged_26 3 rfl ci_1 h (by decide) (lvf := fun v3 => [(3, .int v3), (0, .ref (ad 0)), (1, .ref (ad kS)), (2, .int x2), (4, .int x4)]) (fun _ => rfl) (fun v3 ls h hl => ?_)
        refine h_iinc C hl dX9_forged_29 4 rfl ci_1 h (by decide) (lvf := fun v4 => [(4, .int v4), (3, .int v3), (0, .ref (ad 0)), (1, .ref (ad kS)), (2, .int x2)]) (fun _ => rfl) (fun v4 ls h hl => ?_)
        refine lv_goto (tgt := 10) hx hb dX9_forged_32 (by decide) ?_
        exact ih _ _ _ _ _ _  h hI (lv_sub hl [2, 3, 4, 1, 0] rfl)
set_option maxRecDepth 100000 in
set_option maxHeartbeats 4000000 in
theorem c_X9_forged (l : Launch) (D : va_G) (t : gT) (ad z : Nat → Nat) (hJ : gJ shX ad) (kS : Nat) (h_kS : shX[kS]? = some (.inr (.inl (5, [some (kS + 1), none, none, none, none])))) (h_kS1 : shX[kS + 1]? = some (.inl (1, 60))) (σ : gS) (q : Int32) (h : f_X9_forged σ kS = some q) : Met l yX9_forged (Cond.code yX9_forged cX9_forged 5 (some .int) :: lw_tb) (gR 4 131) (gPc shX t ad D z [.ref (ad 0), .ref (ad kS)] σ) (gQi shX t ad D q σ) 0 0 (gA shX ad) := by
  refine gMet "NineKeysRound" rfl (by decide) hJ (Nat.le_of_ble_eq_true rfl) ?_
  intro p e s m below meth c ls C hr hI hl
  have hx := C.1
  have hb := C.2.1
  have hl : lv_has ls 5 [(0, .ref (ad 0)), (1, .ref (ad kS))] := hl
  unfold f_X9_forged at h
  refine lv_aload_n hx hb dX9_forged_0 rfl (lv_at hl 1 rfl) ?_
  refine h_callvi_o (rest := []) C hI hl.1 h_kS rfl yv_X5_twos k_825 h (fun q hq => c_X5_twos l D t ad z C.2.2.2.2.2.2.1 kS h_kS h_kS1 (σ) q hq) (As := []) rfl rfl ⟨Nat.le_of_ble_eq_true rfl, Nat.le_of_ble_eq_true rfl⟩ (Nat.le_of_ble_eq_true rfl) dX9_forged_1 (fun q1 H locs h hI => ?_)
  refine lv_istore_n (lv' := [(2, .int q1), (0, .ref (ad 0)), (1, .ref (ad kS))]) hx hb dX9_forged_4 rfl hl (by decide) rfl (fun ls hl => ?_)
  refine lv_iconst hx hb dX9_forged_5 ci_0 ?_
  refine lv_istore_n (lv' := [(3, .int 0), (2, .int q1), (0, .ref (ad 0)), (1, .ref (ad kS))]) hx hb dX9_forged_6 rfl hl (by decide) rfl (fun ls hl => ?_)
  refine lv_iconst hx hb dX9_forged_7 ci_0 ?_
  refine lv_istore (lv' := [(4, .int 0), (3, .int 0), (2, .int q1), (0, .ref (ad 0)), (1, .ref (ad kS))]) hx hb dX9_forged_8 hl (by decide) rfl (fun ls hl => ?_)
  exact w_X9_forged_10 C hr  h_kS h_kS1  _ _ _ _ _ _ _  h hI (lv_sub hl [3, 4, 2, 1, 0] rfl)
set_option maxRecDepth 100000 in
set_option maxHeartbeats 4000000 in
theorem c_X9_paper (l : Launch) (D : va_G) (t : gT) (ad z : Nat → Nat) (hJ : gJ shX ad) (σ : gS) (x1 : Int32) (x2 : Int32) (q : Int32) (h : f_X9_paper σ x1 x2 = some q) : Met l yX9_paper (Cond.code yX9_paper cX9_paper 5 (some .int) :: lw_tb) (gR 5 157) (gPc shX t ad D z [.ref (ad 0), .int x1, .int x2] σ) (gQi shX t ad D q σ) 0 0 (gA shX ad) := by
  refine gMet "NineKeysRound" rfl (by decide) hJ (Nat.le_of_ble_eq_true rfl) ?_
  intro p e s m below meth c ls C hr hI hl
  have hx := C.1
  have hb := C.2.1
  have hl : lv_has ls 5 [(0, .ref (ad 0)), (1, .int x1), (2, .int x2)] := hl
  unfold f_X9_paper at h
  refine lv_iload_n hx hb dX9_paper_0 rfl (lv_at hl 1 rfl) ?_
  refine h_callsi_o (rest := []) C hI hl.1 ys_X9_isShelf k_326 h (fun q hq => c_X9_isShelf l D t ad z C.2.2.2.2.2.2.1 (σ) x1 q hq) (As := [.int x1]) rfl rfl ⟨Nat.le_of_ble_eq_true rfl, Nat.le_of_ble_eq_true rfl⟩ (Nat.le_of_ble_eq_true rfl) dX9_paper_1 (fun q1 H locs h hI => ?_)
  refine hif_eq (tgt := 16) C dX9_paper_4 (by decide) h (fun h => ?_) (fun h => ?_)
  · refine lv_iconst hx hb dX9_paper_16 ci_m1 ?_
    exact h_iret_o C hr hI h dX9_paper_17
  · refine lv_iload_n hx hb dX9_paper_7 rfl (lv_at hl 2 rfl) ?_
    refine hif_lt (tgt := 16) C dX9_paper_8 (by decide) h (fun h => ?_) (fun h => ?_)
    · refine lv_iconst hx hb dX9_paper_16 ci_m1 ?_
      exact h_iret_o C hr hI h dX9_paper_17
    · refine lv_iload_n hx hb dX9_paper_11 rfl (lv_at hl 2 rfl) ?_
      refine lv_iconst hx hb dX9_paper_12 ci_3 ?_
      refine hicmp_le (tgt := 18) C dX9_paper_13 (by decide) h (fun h => ?_) (fun h => ?_)
      · refine lv_aload_n hx hb dX9_paper_18 rfl (lv_at hl 0 rfl) ?_
        refine fr_264 C hI shX_0 rfl dX9_paper_19 ?_
        refine lv_iload_n hx hb dX9_paper_22 rfl (lv_at hl 1 rfl) ?_
        refine gx_aald C hI shX_13 h dX9_paper_23 (fun k2 hm_ _ h => ?_)
        obtain ⟨h_k2, h_k21⟩ := shelf_ok k2 hm_
        refine lv_astore_n (lv' := [(3, .ref (ad k2)), (0, .ref (ad 0)), (1, .int x1), (2, .int x2)]) hx hb dX9_paper_24 rfl hl (by decide) rfl (fun ls hl => ?_)
        refine lv_aload_n hx hb dX9_paper_25 rfl (lv_at hl 0 rfl) ?_
        refine lv_iconst hx hb dX9_paper_26 ci_1 ?_
        refine h_callvi_o (rest := []) C hI hl.1 h_k2 rfl yv_X5_refusalFor k_329 h (fun q hq => c_X5_refusalFor l D t ad z C.2.2.2.2.2.2.1 k2 h_k2 h_k21 (σ) 1 q hq) (As := [.int 1]) rfl rfl ⟨Nat.le_of_ble_eq_true rfl, Nat.le_of_ble_eq_true rfl⟩ (Nat.le_of_ble_eq_true rfl) dX9_paper_27 (fun q3 H locs h hI => ?_)
        refine lv_istore (lv' := [(4, .int q3), (3, .ref (ad k2)), (0, .ref (ad 0)), (1, .int x1), (2, .int x2)]) hx hb dX9_paper_30 hl (by decide) rfl (fun ls hl => ?_)
        refine lv_iload hx hb dX9_paper_32 (lv_at hl 0 rfl) ?_
        refine hif_ge (tgt := 40) C dX9_paper_34 (by decide) h (fun h => ?_) (fun h => ?_)
        · refine lv_iload_n hx hb dX9_paper_40 rfl (lv_at hl 4 rfl) ?_
          by_cases hc_ : x2 = 0
          · rw [if_pos hc_] at h
            refine lv_tableIn (tgt := 68) (off := 27) hx hb dX9_paper_41 (by rw [hc_]; decide) (by rw [hc_]; decide) (by rw [hc_]; rfl) (by decide) ?_
            refine lv_aload_n hx hb dX9_paper_68 rfl (lv_at hl 2 rfl) ?_
            refine lv_aload_n hx hb dX9_paper_69 rfl (lv_at hl 1 rfl) ?_
            refine h_callvi_o (rest := []) C hI hl.1 shX_0 rfl yv_X9_firstThatCannotBe k_821 h (fun q hq => c_X9_firstThatCannotBe l D t ad z C.2.2.2.2.2.2.1 k2 h_k2 h_k21 (σ) q hq) (As := [.ref (ad k2)]) rfl rfl ⟨Nat.le_of_ble_eq_true rfl, Nat.le_of_ble_eq_true rfl⟩ (Nat.le_of_ble_eq_true rfl) dX9_paper_70 (fun q4 H locs h hI => ?_)
            exact h_iret_o C hr hI h dX9_paper_73
          · rw [if_neg hc_] at h
            have hn_0 := hc_
            by_cases hc_ : x2 = 1
            · rw [if_pos hc_] at h
              refine lv_tableIn (tgt := 74) (off := 33) hx hb dX9_paper_41 (by rw [hc_]; decide) (by rw [hc_]; decide) (by rw [hc_]; rfl) (by decide) ?_
              refine lv_aload_n hx hb dX9_paper_74 rfl (lv_at hl 2 rfl) ?_
              refine lv_aload_n hx hb dX9_paper_75 rfl (lv_at hl 1 rfl) ?_
              refine h_callvi_o (rest := []) C hI hl.1 shX_0 rfl yv_X9_slept k_835 h (fun q hq => c_X9_slept l D t ad z C.2.2.2.2.2.2.1 k2 h_k2 h_k21 (σ) q hq) (As := [.ref (ad k2)]) rfl rfl ⟨Nat.le_of_ble_eq_true rfl, Nat.le_of_ble_eq_true rfl⟩ (Nat.le_of_ble_eq_true rfl) dX9_paper_76 (fun q5 H locs h hI => ?_)
              exact h_iret_o C hr hI h dX9_paper_79
            · rw [if_neg hc_] at h
              have hn_1 := hc_
              by_cases hc_ : x2 = 2
              · rw [if_pos hc_] at h
                refine lv_tableIn (tgt := 80) (off := 39) hx hb dX9_paper_41 (by rw [hc_]; decide) (by rw [hc_]; decide) (by rw [hc_]; rfl) (by decide) ?_
                refine lv_aload_n hx hb dX9_paper_80 rfl (lv_at hl 2 rfl) ?_
                refine lv_aload_n hx hb dX9_paper_81 rfl (lv_at hl 1 rfl) ?_
                refine h_callvi_o (rest := []) C hI hl.1 shX_0 rfl yv_X9_whereMostSlept k_839 h (fun q hq => c_X9_whereMostSlept l D t ad z C.2.2.2.2.2.2.1 k2 h_k2 h_k21 (σ) q hq) (As := [.ref (ad k2)]) rfl rfl ⟨Nat.le_of_ble_eq_true rfl, Nat.le_of_ble_eq_true rfl⟩ (Nat.le_of_ble_eq_true rfl) dX9_paper_82 (fun q6 H locs h hI => ?_)
                exact h_iret_o C hr hI h dX9_paper_85
              · rw [if_neg hc_] at h
                have hn_2 := hc_
                have hout : x2.toInt < 0 ∨ 2 < x2.toInt := by
                  have e0 := tsne (c := 0) (z := 0) (by decide) hn_0
                  have e1 := tsne (c := 1) (z := 1) (by decide) hn_1
                  have e2 := tsne (c := 2) (z := 2) (by decide) hn_2
                  omega
                refine lv_tableOut (tgt := 86) hx hb dX9_paper_41 hout (by decide) ?_
                refine lv_aload_n hx hb dX9_paper_86 rfl (lv_at hl 2 rfl) ?_
                refine lv_aload_n hx hb dX9_paper_87 rfl (lv_at hl 1 rfl) ?_
                refine h_callvi_o (rest := []) C hI hl.1 shX_0 rfl yv_X9_forged k_843 h (fun q hq => c_X9_forged l D t ad z C.2.2.2.2.2.2.1 k2 h_k2 h_k21 (σ) q hq) (As := [.ref (ad k2)]) rfl rfl ⟨Nat.le_of_ble_eq_true rfl, Nat.le_of_ble_eq_true rfl⟩ (Nat.le_of_ble_eq_true rfl) dX9_paper_88 (fun q7 H locs h hI => ?_)
                exact h_iret_o C hr hI h dX9_paper_91
        · refine lv_iload hx hb dX9_paper_37 (lv_at hl 0 rfl) ?_
          exact h_iret_o C hr hI h dX9_paper_39
      · refine lv_iconst hx hb dX9_paper_16 ci_m1 ?_
        exact h_iret_o C hr hI h dX9_paper_17
