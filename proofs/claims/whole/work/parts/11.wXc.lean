set_option maxRecDepth 100000 in
set_option maxHeartbeats 4000000 in
theorem w_X9_which_102 {p : Program} {l : Launch} {e : Env} {s : State} {m : MethodId} {args : Array Value} {below : List Frame} {meth : Method} {c : Code} {D : va_G} {t : gT} {ad z : Nat → Nat} (C : gC p s m args meth c cX9_which 4 "NineKeysRound" D t shX ad z) (hr : meth.sig.returnType = some .int) {r : Int32 × gS} : ∀ (k2 : Nat) (s0 : Int32) (σ : gS) (H : Heap) (locs : List Loc) (ls : Array Slot), shX[k2]? = some (.inr (.inl (5, [some (k2 + 1), none, none, none, none]))) → shX[k2 + 1]? = some (.inl (1, 60)) → f_X9_which_102 k2 s0 σ = some r → gI shX t ad D s.heap σ H locs → lv_has ls 4 [(0, .ref (ad 0)), (2, .ref (ad k2))] → W p l e (gR 7 193) s m args below meth c H locs 0 0 (MQ below (gQi shX t ad D r.1 r.2) args s 0 0 (gA shX ad)) (F0 m 102 ls [.int s0]) := by
  have hx := C.1
  have hb := C.2.1
  intro k2 s0 σ H locs ls h_k2 h_k21 h hI hl
  unfold f_X9_which_102 at h
  refine lv_aload_n hx hb dX9_which_102 rfl (lv_at hl 0 rfl) ?_
  refine fr_266 C hI shX_0 rfl dX9_which_103 ?_
  refine lv_aload_n hx hb dX9_which_106 rfl (lv_at hl 1 rfl) ?_
  refine h_callvi_o (rest := [.int s0]) C hI hl.1 shX_29 rfl yv_X1_makes k_851 h (fun q hq => c_X1_makes l D t ad z C.2.2.2.2.2.2.1 29 k2 shX_29 shX_30 shX_31 h_k2 h_k21 (σ) q hq) (As := [.ref (ad k2)]) rfl rfl ⟨Nat.le_of_ble_eq_true rfl, Nat.le_of_ble_eq_true rfl⟩ (Nat.le_of_ble_eq_true rfl) dX9_which_107 (fun q1 H locs h hI => ?_)
  refine hif_eq (tgt := 117) C dX9_which_110 (by decide) h (fun h => ?_) (fun h => ?_)
  · refine lv_iconst hx hb dX9_which_117 ci_0 ?_
    refine lv_ior hx hb dX9_which_118 ?_
    exact h_iret_w C hr hI h dX9_which_119
  · refine lv_iconst hx hb dX9_which_113 ci_2 ?_
    refine lv_goto (tgt := 118) hx hb dX9_which_114 (by decide) ?_
    refine lv_ior hx hb dX9_which_118 ?_
    exact h_iret_w C hr hI h dX9_which_119
set_option maxRecDepth 100000 in
set_option maxHeartbeats 4000000 in
theorem w_X9_which_80 {p : Program} {l : Launch} {e : Env} {s : State} {m : MethodId} {args : Array Value} {below : List Frame} {meth : Method} {c : Code} {D : va_G} {t : gT} {ad z : Nat → Nat} (C : gC p s m args meth c cX9_which 4 "NineKeysRound" D t shX ad z) (hr : meth.sig.returnType = some .int) {r : Int32 × gS} : ∀ (k2 : Nat) (x3 : Int32) (σ : gS) (H : Heap) (locs : List Loc) (ls : Array Slot), shX[k2]? = some (.inr (.inl (5, [some (k2 + 1), none, none, none, none]))) → shX[k2 + 1]? = some (.inl (1, 60)) → f_X9_which_80 k2 x3 σ = some r → gI shX t ad D s.heap σ H locs → lv_has ls 4 [(0, .ref (ad 0)), (2, .ref (ad k2)), (3, .int x3)] → W p l e (gR 7 193) s m args below meth c H locs 0 0 (MQ below (gQi shX t ad D r.1 r.2) args s 0 0 (gA shX ad)) (F0 m 80 ls []) := by
  have hx := C.1
  have hb := C.2.1
  intro k2 x3 σ H locs ls h_k2 h_k21 h hI hl
  unfold f_X9_which_80 at h
  refine lv_iload_n hx hb dX9_which_80 rfl (lv_at hl 2 rfl) ?_
  refine hif_ge (tgt := 86) C dX9_which_81 (by decide) h (fun h => ?_) (fun h => ?_)
  · refine lv_aload_n hx hb dX9_which_86 rfl (lv_at hl 0 rfl) ?_
    refine fr_265 C hI shX_0 rfl dX9_which_87 ?_
    refine lv_aload_n hx hb dX9_which_90 rfl (lv_at hl 1 rfl) ?_
    refine h_callvi_o (rest := []) C hI hl.1 shX_26 rfl yv_X1_makes k_851 h (fun q hq => c_X1_makes l D t ad z C.2.2.2.2.2.2.1 26 k2 shX_26 shX_27 shX_28 h_k2 h_k21 (σ) q hq) (As := [.ref (ad k2)]) rfl rfl ⟨Nat.le_of_ble_eq_true rfl, Nat.le_of_ble_eq_true rfl⟩ (Nat.le_of_ble_eq_true rfl) dX9_which_91 (fun q1 H locs h hI => ?_)
    refine hif_eq (tgt := 101) C dX9_which_94 (by decide) h (fun h => ?_) (fun h => ?_)
    · refine lv_iconst hx hb dX9_which_101 ci_0 ?_
      exact w_X9_which_102 C hr    _ _ _ _ _ _ h_k2 h_k21 h hI (lv_sub hl [0, 1] rfl)
    · refine lv_iconst hx hb dX9_which_97 ci_1 ?_
      refine lv_goto (tgt := 102) hx hb dX9_which_98 (by decide) ?_
      exact w_X9_which_102 C hr    _ _ _ _ _ _ h_k2 h_k21 h hI (lv_sub hl [0, 1] rfl)
  · refine lv_iload_n hx hb dX9_which_84 rfl (lv_at hl 2 rfl) ?_
    exact h_iret_w C hr hI h dX9_which_85
set_option maxRecDepth 100000 in
set_option maxHeartbeats 4000000 in
theorem c_X9_which (l : Launch) (D : va_G) (t : gT) (ad z : Nat → Nat) (hJ : gJ shX ad) (σ : gS) (x1 : Int32) (q : Int32 × gS) (h : f_X9_which σ x1 = some q) : Met l yX9_which (Cond.code yX9_which cX9_which 4 (some .int) :: lw_tb) (gR 7 193) (gPc shX t ad D z [.ref (ad 0), .int x1] σ) (gQi shX t ad D q.1 q.2) 0 0 (gA shX ad) := by
  refine gMet "NineKeysRound" rfl (by decide) hJ (Nat.le_of_ble_eq_true rfl) ?_
  intro p e s m below meth c ls C hr hI hl
  have hx := C.1
  have hb := C.2.1
  have hl : lv_has ls 4 [(0, .ref (ad 0)), (1, .int x1)] := hl
  unfold f_X9_which at h
  refine lv_iload_n hx hb dX9_which_0 rfl (lv_at hl 1 rfl) ?_
  refine hif_lt (tgt := 24) C dX9_which_1 (by decide) h (fun h => ?_) (fun h => ?_)
  · refine lv_iconst hx hb dX9_which_24 ci_m1 ?_
    exact h_iret_w C hr hI h dX9_which_25
  · refine lv_iload_n hx hb dX9_which_4 rfl (lv_at hl 1 rfl) ?_
    refine lv_bipush hx hb dX9_which_5 cb_10 ?_
    refine h_idiv C dX9_which_7 h (fun h => ?_)
    refine h_callsi_o (rest := []) C hI hl.1 ys_X9_isShelf k_326 h (fun q hq => c_X9_isShelf l D t ad z C.2.2.2.2.2.2.1 (σ) (x1 / 10) q hq) (As := [.int (x1 / 10)]) rfl rfl ⟨Nat.le_of_ble_eq_true rfl, Nat.le_of_ble_eq_true rfl⟩ (Nat.le_of_ble_eq_true rfl) dX9_which_8 (fun q1 H locs h hI => ?_)
    refine hif_eq (tgt := 24) C dX9_which_11 (by decide) h (fun h => ?_) (fun h => ?_)
    · refine lv_iconst hx hb dX9_which_24 ci_m1 ?_
      exact h_iret_w C hr hI h dX9_which_25
    · refine lv_iload_n hx hb dX9_which_14 rfl (lv_at hl 1 rfl) ?_
      refine lv_bipush hx hb dX9_which_15 cb_10 ?_
      refine h_irem C dX9_which_17 h (fun h => ?_)
      refine h_callsi_o (rest := []) C hI hl.1 ys_X9_isShelf k_326 h (fun q hq => c_X9_isShelf l D t ad z C.2.2.2.2.2.2.1 (σ) (x1 - x1 / 10 * 10) q hq) (As := [.int (x1 - x1 / 10 * 10)]) rfl rfl ⟨Nat.le_of_ble_eq_true rfl, Nat.le_of_ble_eq_true rfl⟩ (Nat.le_of_ble_eq_true rfl) dX9_which_18 (fun q2 H locs h hI => ?_)
      refine hif_ne (tgt := 26) C dX9_which_21 (by decide) h (fun h => ?_) (fun h => ?_)
      · refine lv_aload_n hx hb dX9_which_26 rfl (lv_at hl 0 rfl) ?_
        refine fr_264 C hI shX_0 rfl dX9_which_27 ?_
        refine lv_iload_n hx hb dX9_which_30 rfl (lv_at hl 1 rfl) ?_
        refine lv_bipush hx hb dX9_which_31 cb_10 ?_
        refine h_irem C dX9_which_33 h (fun h => ?_)
        refine gx_aald C hI shX_13 h dX9_which_34 (fun k3 hm_ _ h => ?_)
        obtain ⟨h_k3, h_k31⟩ := shelf_ok k3 hm_
        refine lv_astore_n (lv' := [(2, .ref (ad k3)), (0, .ref (ad 0)), (1, .int x1)]) hx hb dX9_which_35 rfl hl (by decide) rfl (fun ls hl => ?_)
        refine lv_aload_n hx hb dX9_which_36 rfl (lv_at hl 0 rfl) ?_
        refine fg_241 C hI h_k3 rfl dX9_which_37 ?_
        refine hif_eq (tgt := 58) C dX9_which_40 (by decide) h (fun h => ?_) (fun h => ?_)
        · refine lv_bipush hx hb dX9_which_58 cb_m11 ?_
          exact h_iret_w C hr hI h dX9_which_60
        · refine lv_aload_n hx hb dX9_which_43 rfl (lv_at hl 1 rfl) ?_
          refine fr_264 C hI shX_0 rfl dX9_which_44 ?_
          refine lv_iload_n hx hb dX9_which_47 rfl (lv_at hl 2 rfl) ?_
          refine lv_bipush hx hb dX9_which_48 cb_10 ?_
          refine h_idiv C dX9_which_50 h (fun h => ?_)
          refine gx_aald C hI shX_13 h dX9_which_51 (fun k4 hm_ _ h => ?_)
          obtain ⟨h_k4, h_k41⟩ := shelf_ok k4 hm_
          refine fg_241 C hI h_k4 rfl dX9_which_52 ?_
          refine hif_ne (tgt := 61) C dX9_which_55 (by decide) h (fun h => ?_) (fun h => ?_)
          · refine lv_aload_n hx hb dX9_which_61 rfl (lv_at hl 1 rfl) ?_
            refine lv_iload_n hx hb dX9_which_62 rfl (lv_at hl 2 rfl) ?_
            refine lv_bipush hx hb dX9_which_63 cb_10 ?_
            refine h_idiv C dX9_which_65 h (fun h => ?_)
            refine h_callvi_w (rest := []) C hI hl.1 shX_0 rfl yv_X9_layBoth k_783 h (fun q hq => c_X9_layBoth l D t ad z C.2.2.2.2.2.2.1 (σ) (x1 / 10) q hq) (As := [.int (x1 / 10)]) rfl rfl ⟨Nat.le_of_ble_eq_true rfl, Nat.le_of_ble_eq_true rfl⟩ (Nat.le_of_ble_eq_true rfl) dX9_which_66 (fun q5 H locs h hI => ?_)
            refine lv_istore_n (lv' := [(3, .int q5.1), (2, .ref (ad k3)), (0, .ref (ad 0)), (1, .int x1)]) hx hb dX9_which_69 rfl hl (by decide) rfl (fun ls hl => ?_)
            refine lv_iload_n hx hb dX9_which_70 rfl (lv_at hl 0 rfl) ?_
            refine hif_ne (tgt := 80) C dX9_which_71 (by decide) h (fun h => ?_) (fun h => ?_)
            · exact w_X9_which_80 C hr    _ _ _ _ _ _ h_k3 h_k31 h hI (lv_sub hl [2, 1, 0] rfl)
            · refine lv_aload_n hx hb dX9_which_74 rfl (lv_at hl 1 rfl) ?_
              refine lv_iconst hx hb dX9_which_75 ci_1 ?_
              refine h_callvi_o (rest := []) C hI hl.1 h_k3 rfl yv_X5_refusalFor k_329 h (fun q hq => c_X5_refusalFor l D t ad z C.2.2.2.2.2.2.1 k3 h_k3 h_k31 q5.2 1 q hq) (As := [.int 1]) rfl rfl ⟨Nat.le_of_ble_eq_true rfl, Nat.le_of_ble_eq_true rfl⟩ (Nat.le_of_ble_eq_true rfl) dX9_which_76 (fun q6 H locs h hI => ?_)
              refine lv_istore_n (lv' := [(3, .int q6), (2, .ref (ad k3)), (0, .ref (ad 0)), (1, .int x1)]) hx hb dX9_which_79 rfl hl (by decide) rfl (fun ls hl => ?_)
              exact w_X9_which_80 C hr    _ _ _ _ _ _ h_k3 h_k31 h hI (lv_sub hl [2, 1, 0] rfl)
          · refine lv_bipush hx hb dX9_which_58 cb_m11 ?_
            exact h_iret_w C hr hI h dX9_which_60
      · refine lv_iconst hx hb dX9_which_24 ci_m1 ?_
        exact h_iret_w C hr hI h dX9_which_25
set_option maxRecDepth 100000 in
set_option maxHeartbeats 4000000 in
theorem w_X9_countFits_148 {p : Program} {l : Launch} {e : Env} {s : State} {m : MethodId} {args : Array Value} {below : List Frame} {meth : Method} {c : Code} {D : va_G} {t : gT} {ad z : Nat → Nat} (C : gC p s m args meth c cX9_countFits 7 "NineKeysRound" D t shX ad z) (hr : meth.sig.returnType = some .int) {kS : Nat} (h_kS : shX[kS]? = some (.inr (.inl (5, [some (kS + 1), none, none, none, none])))) (h_kS1 : shX[kS + 1]? = some (.inl (1, 60))) {r : Int32 × gS} : ∀ (x4 : Int32) (x5 : Int32) (σ : gS) (H : Heap) (locs : List Loc) (ls : Array Slot), f_X9_countFits_148 kS x4 x5 σ = some r → gI shX t ad D s.heap σ H locs → lv_has ls 7 [(0, .ref (ad 0)), (1, .ref (ad kS)), (4, .int x4), (5, .int x5)] → W p l e (gR 5 149) s m args below meth c H locs 0 0 (MQ below (gQi shX t ad D r.1 r.2) args s 0 0 (gA shX ad)) (F0 m 148 ls []) := by
  have hx := C.1
  have hb := C.2.1
  intro x4 x5 σ H locs ls  h hI hl
  unfold f_X9_countFits_148 at h
  refine lv_aload_n hx hb dX9_countFits_148 rfl (lv_at hl 0 rfl) ?_
  refine fr_265 C hI shX_0 rfl dX9_countFits_149 ?_
  refine lv_aload_n hx hb dX9_countFits_152 rfl (lv_at hl 0 rfl) ?_
  refine fr_274 C hI shX_0 rfl dX9_countFits_153 ?_
  refine lv_iload hx hb dX9_countFits_156 (lv_at hl 2 rfl) ?_
  refine h_callvv_w (rest := []) C hI hl.1 shX_26 rfl yv_X1_layOrder k_865 h (fun q hq => c_X1_layOrder l D t ad z C.2.2.2.2.2.2.1 26 shX_26 shX_27 shX_28 (σ) x4 q hq) (As := [.ref (ad 46), .int x4]) rfl rfl ⟨Nat.le_of_ble_eq_true rfl, Nat.le_of_ble_eq_true rfl⟩ (Nat.le_of_ble_eq_true rfl) dX9_countFits_158 (fun q1 H locs h hI => ?_)
  refine lv_aload_n hx hb dX9_countFits_161 rfl (lv_at hl 0 rfl) ?_
  refine fr_265 C hI shX_0 rfl dX9_countFits_162 ?_
  refine lv_aload_n hx hb dX9_countFits_165 rfl (lv_at hl 1 rfl) ?_
  refine h_callvi_o (rest := []) C hI hl.1 shX_26 rfl yv_X1_makes k_851 h (fun q hq => c_X1_makes l D t ad z C.2.2.2.2.2.2.1 26 kS shX_26 shX_27 shX_28 h_kS h_kS1 q1 q hq) (As := [.ref (ad kS)]) rfl rfl ⟨Nat.le_of_ble_eq_true rfl, Nat.le_of_ble_eq_true rfl⟩ (Nat.le_of_ble_eq_true rfl) dX9_countFits_166 (fun q2 H locs h hI => ?_)
  refine hif_eq (tgt := 177) C dX9_countFits_169 (by decide) h (fun h => ?_) (fun h => ?_)
  · refine lv_iconst hx hb dX9_countFits_177 ci_0 ?_
    exact h_iret_w C hr hI h dX9_countFits_178
  · refine lv_iload hx hb dX9_countFits_172 (lv_at hl 3 rfl) ?_
    refine lv_goto (tgt := 178) hx hb dX9_countFits_174 (by decide) ?_
    exact h_iret_w C hr hI h dX9_countFits_178
set_option maxRecDepth 100000 in
set_option maxHeartbeats 4000000 in
theorem w_X9_countFits_93 {p : Program} {l : Launch} {e : Env} {s : State} {m : MethodId} {args : Array Value} {below : List Frame} {meth : Method} {c : Code} {D : va_G} {t : gT} {ad z : Nat → Nat} (C : gC p s m args meth c cX9_countFits 7 "NineKeysRound" D t shX ad z) (hr : meth.sig.returnType = some .int) {kS : Nat} (h_kS : shX[kS]? = some (.inr (.inl (5, [some (kS + 1), none, none, none, none])))) (h_kS1 : shX[kS + 1]? = some (.inl (1, 60))) {r : Int32 × gS} : ∀ (n : Nat) (x2 : Int32) (x3 : Int32) (x4 : Int32) (x5 : Int32) (x6 : Int32) (σ : gS) (H : Heap) (locs : List Loc) (ls : Array Slot), f_X9_countFits_93 kS n x2 x3 x4 x5 x6 σ = some r → gI shX t ad D s.heap σ H locs → lv_has ls 7 [(0, .ref (ad 0)), (1, .ref (ad kS)), (2, .int x2), (3, .int x3), (4, .int x4), (5, .int x5), (6, .int x6)] → W p l e (gR 5 149) s m args below meth c H locs 0 0 (MQ below (gQi shX t ad D r.1 r.2) args s 0 0 (gA shX ad)) (F0 m 93 ls []) := by
  have hx := C.1
  have hb := C.2.1
  intro n
  induction n with
  | zero =>
    intro x2 x3 x4 x5 x6 σ H locs ls  h
    exact absurd h (by simp [f_X9_countFits_93])
  | succ n ih =>
    intro x2 x3 x4 x5 x6 σ H locs ls  h hI hl
    unfold f_X9_countFits_93 at h
    refine lv_iload hx hb dX9_countFits_93 (lv_at hl 6 rfl) ?_
    refine lv_aload_n hx hb dX9_countFits_95 rfl (lv_at hl 0 rfl) ?_
    refine fr_261 C hI shX_0 rfl dX9_countFits_96 ?_
    refine fg_37 C hI shX_1 rfl dX9_countFits_99 ?_
    refine hicmp_ge (tgt := 148) C dX9_countFits_102 (by decide) h (fun h => ?_) (fun h => ?_)
    · exact w_X9_countFits_148 C hr  h_kS h_kS1  _ _ _ _ _ _  h hI (lv_sub hl [0, 1, 4, 5] rfl)
    · refine lv_iload hx hb dX9_countFits_105 (lv_at hl 4 rfl) ?_
      refine lv_bipush hx hb dX9_countFits_107 cb_6 ?_
      refine hicmp_ge (tgt := 148) C dX9_countFits_109 (by decide) h (fun h => ?_) (fun h => ?_)
      · exact w_X9_countFits_148 C hr  h_kS h_kS1  _ _ _ _ _ _  h hI (lv_sub hl [0, 1, 4, 5] rfl)
      · refine lv_iload_n hx hb dX9_countFits_112 rfl (lv_at hl 3 rfl) ?_
        refine lv_iload hx hb dX9_countFits_113 (lv_at hl 6 rfl) ?_
        refine lv_ishr hx hb dX9_countFits_115 ?_
        refine lv_iconst hx hb dX9_countFits_116 ci_1 ?_
        refine lv_iand hx hb dX9_countFits_117 ?_
        refine hif_ne (tgt := 142) C dX9_countFits_118 (by decide) h (fun h => ?_) (fun h => ?_)
        · refine h_iinc C hl dX9_countFits_142 6 rfl ci_1 h (by decide) (lvf := fun v1 => [(6, .int v1), (0, .ref (ad 0)), (1, .ref (ad kS)), (2, .int x2), (3, .int x3), (4, .int x4), (5, .int x5)]) (fun _ => rfl) (fun v1 ls h hl => ?_)
          refine lv_goto (tgt := 93) hx hb dX9_countFits_145 (by decide) ?_
          exact ih _ _ _ _ _ _ _ _ _  h hI (lv_sub hl [1, 2, 3, 4, 5, 6, 0] rfl)
        · refine lv_aload_n hx hb dX9_countFits_121 rfl (lv_at hl 0 rfl) ?_
          refine fr_274 C hI shX_0 rfl dX9_countFits_122 ?_
          refine lv_iload hx hb dX9_countFits_125 (lv_at hl 4 rfl) ?_
          refine h_iinc C hl dX9_countFits_127 4 rfl ci_1 h (by decide) (lvf := fun v2 => [(4, .int v2), (0, .ref (ad 0)), (1, .ref (ad kS)), (2, .int x2), (3, .int x3), (5, .int x5), (6, .int x6)]) (fun _ => rfl) (fun v2 ls h hl => ?_)
          refine lv_iload hx hb dX9_countFits_130 (lv_at hl 6 rfl) ?_
          refine gx_iast C hI shX_46 h dX9_countFits_132 (fun H locs h hI => ?_)
          refine gx_st h hI (fun s3 h hI => ?_)
          refine lv_iload hx hb dX9_countFits_133 (lv_at hl 5 rfl) ?_
          refine lv_iload hx hb dX9_countFits_135 (lv_at hl 0 rfl) ?_
          refine lv_iload_n hx hb dX9_countFits_137 rfl (lv_at hl 3 rfl) ?_
          refine lv_isub hx hb dX9_countFits_138 ?_
          refine lv_imul hx hb dX9_countFits_139 ?_
          refine gx_topi h (fun v4 h => ?_)
          refine lv_istore (lv' := [(5, .int v4), (4, .int v2), (0, .ref (ad 0)), (1, .ref (ad kS)), (2, .int x2), (3, .int x3), (6, .int x6)]) hx hb dX9_countFits_140 hl (by decide) rfl (fun ls hl => ?_)
          refine h_iinc C hl dX9_countFits_142 6 rfl ci_1 h (by decide) (lvf := fun v5 => [(6, .int v5), (5, .int v4), (4, .int v2), (0, .ref (ad 0)), (1, .ref (ad kS)), (2, .int x2), (3, .int x3)]) (fun _ => rfl) (fun v5 ls h hl => ?_)
          refine lv_goto (tgt := 93) hx hb dX9_countFits_145 (by decide) ?_
          exact ih _ _ _ _ _ _ _ _ _  h hI (lv_sub hl [3, 4, 5, 6, 2, 1, 0] rfl)
set_option maxRecDepth 100000 in
set_option maxHeartbeats 4000000 in
theorem w_X9_countFits_22 {p : Program} {l : Launch} {e : Env} {s : State} {m : MethodId} {args : Array Value} {below : List Frame} {meth : Method} {c : Code} {D : va_G} {t : gT} {ad z : Nat → Nat} (C : gC p s m args meth c cX9_countFits 7 "NineKeysRound" D t shX ad z) (hr : meth.sig.returnType = some .int) {kS : Nat} (h_kS : shX[kS]? = some (.inr (.inl (5, [some (kS + 1), none, none, none, none])))) (h_kS1 : shX[kS + 1]? = some (.inl (1, 60))) {r : Int32 × gS} : ∀ (n : Nat) (x2 : Int32) (x3 : Int32) (x4 : Int32) (σ : gS) (H : Heap) (locs : List Loc) (ls : Array Slot), f_X9_countFits_22 kS n x2 x3 x4 σ = some r → gI shX t ad D s.heap σ H locs → lv_has ls 7 [(0, .ref (ad 0)), (1, .ref (ad kS)), (2, .int x2), (3, .int x3), (4, .int x4)] → W p l e (gR 5 149) s m args below meth c H locs 0 0 (MQ below (gQi shX t ad D r.1 r.2) args s 0 0 (gA shX ad)) (F0 m 22 ls []) := by
  have hx := C.1
  have hb := C.2.1
  intro n
  induction n with
  | zero =>
    intro x2 x3 x4 σ H locs ls  h
    exact absurd h (by simp [f_X9_countFits_22])
  | succ n ih =>
    intro x2 x3 x4 σ H locs ls  h hI hl
    unfold f_X9_countFits_22 at h
    refine lv_iload hx hb dX9_countFits_22 (lv_at hl 4 rfl) ?_
    refine lv_iload_n hx hb dX9_countFits_24 rfl (lv_at hl 2 rfl) ?_
    refine hicmp_ge (tgt := 84) C dX9_countFits_25 (by decide) h (fun h => ?_) (fun h => ?_)
    · refine lv_iload_n hx hb dX9_countFits_84 rfl (lv_at hl 2 rfl) ?_
      refine lv_istore (lv' := [(4, .int x2), (0, .ref (ad 0)), (1, .ref (ad kS)), (2, .int x2), (3, .int x3)]) hx hb dX9_countFits_85 hl (by decide) rfl (fun ls hl => ?_)
      refine lv_iconst hx hb dX9_countFits_87 ci_1 ?_
      refine lv_istore (lv' := [(5, .int 1), (4, .int x2), (0, .ref (ad 0)), (1, .ref (ad kS)), (2, .int x2), (3, .int x3)]) hx hb dX9_countFits_88 hl (by decide) rfl (fun ls hl => ?_)
      refine lv_iconst hx hb dX9_countFits_90 ci_0 ?_
      refine lv_istore (lv' := [(6, .int 0), (5, .int 1), (4, .int x2), (0, .ref (ad 0)), (1, .ref (ad kS)), (2, .int x2), (3, .int x3)]) hx hb dX9_countFits_91 hl (by decide) rfl (fun ls hl => ?_)
      exact w_X9_countFits_93 C hr  h_kS h_kS1  _ _ _ _ _ _ _ _ _ _  h hI (lv_sub hl [3, 4, 5, 6, 2, 1, 0] rfl)
    · refine lv_aload_n hx hb dX9_countFits_28 rfl (lv_at hl 1 rfl) ?_
      refine lv_iconst hx hb dX9_countFits_29 ci_2 ?_
      refine lv_iload hx hb dX9_countFits_30 (lv_at hl 4 rfl) ?_
      refine lv_imul hx hb dX9_countFits_32 ?_
      refine h_callvl_o (rest := []) C hI hl.1 h_kS rfl yv_X5_cellAt k_339 h (fun q hq => c_X5_cellAt l D t ad z C.2.2.2.2.2.2.1 kS h_kS h_kS1 (σ) (2 * x4) q hq) (As := [.int (2 * x4)]) rfl rfl ⟨Nat.le_of_ble_eq_true rfl, Nat.le_of_ble_eq_true rfl⟩ (Nat.le_of_ble_eq_true rfl) dX9_countFits_33 (fun q1 H locs h hI => ?_)
      refine lv_l2i (v := ((q1 : Int64).toInt32)) hx hb dX9_countFits_36 rfl ?_
      refine gx_topi h (fun v2 h => ?_)
      refine lv_istore (lv' := [(5, .int v2), (0, .ref (ad 0)), (1, .ref (ad kS)), (2, .int x2), (3, .int x3), (4, .int x4)]) hx hb dX9_countFits_37 hl (by decide) rfl (fun ls hl => ?_)
      refine lv_aload_n hx hb dX9_countFits_39 rfl (lv_at hl 1 rfl) ?_
      refine fr_261 C hI shX_0 rfl dX9_countFits_40 ?_
      refine lv_iload hx hb dX9_countFits_43 (lv_at hl 0 rfl) ?_
      refine h_callvi_o (rest := []) C hI hl.1 shX_1 rfl yv_X8_isPost k_370 h (fun q hq => c_X8_isPost l D t ad z C.2.2.2.2.2.2.1 (σ) v2 q hq) (As := [.int v2]) rfl rfl ⟨Nat.le_of_ble_eq_true rfl, Nat.le_of_ble_eq_true rfl⟩ (Nat.le_of_ble_eq_true rfl) dX9_countFits_45 (fun q3 H locs h hI => ?_)
      refine hif_eq (tgt := 60) C dX9_countFits_48 (by decide) h (fun h => ?_) (fun h => ?_)
      · refine lv_iconst hx hb dX9_countFits_60 ci_0 ?_
        exact h_iret_w C hr hI h dX9_countFits_61
      · refine lv_iload_n hx hb dX9_countFits_51 rfl (lv_at hl 4 rfl) ?_
        refine lv_iload hx hb dX9_countFits_52 (lv_at hl 0 rfl) ?_
        refine lv_ishr hx hb dX9_countFits_54 ?_
        refine lv_iconst hx hb dX9_countFits_55 ci_1 ?_
        refine lv_iand hx hb dX9_countFits_56 ?_
        refine hif_eq (tgt := 62) C dX9_countFits_57 (by decide) h (fun h => ?_) (fun h => ?_)
        · refine lv_aload_n hx hb dX9_countFits_62 rfl (lv_at hl 1 rfl) ?_
          refine fr_274 C hI shX_0 rfl dX9_countFits_63 ?_
          refine lv_iload hx hb dX9_countFits_66 (lv_at hl 5 rfl) ?_
          refine lv_iload hx hb dX9_countFits_68 (lv_at hl 0 rfl) ?_
          refine gx_iast C hI shX_46 h dX9_countFits_70 (fun H locs h hI => ?_)
          refine gx_st h hI (fun s4 h hI => ?_)
          refine lv_iload_n hx hb dX9_countFits_71 rfl (lv_at hl 4 rfl) ?_
          refine lv_iconst hx hb dX9_countFits_72 ci_1 ?_
          refine lv_iload hx hb dX9_countFits_73 (lv_at hl 0 rfl) ?_
          refine lv_ishl hx hb dX9_countFits_75 ?_
          refine lv_ior hx hb dX9_countFits_76 ?_
          refine gx_topi h (fun v5 h => ?_)
          refine lv_istore_n (lv' := [(3, .int v5), (5, .int v2), (0, .ref (ad 0)), (1, .ref (ad kS)), (2, .int x2), (4, .int x4)]) hx hb dX9_countFits_77 rfl hl (by decide) rfl (fun ls hl => ?_)
          refine h_iinc C hl dX9_countFits_78 5 rfl ci_1 h (by decide) (lvf := fun v6 => [(4, .int v6), (3, .int v5), (5, .int v2), (0, .ref (ad 0)), (1, .ref (ad kS)), (2, .int x2)]) (fun _ => rfl) (fun v6 ls h hl => ?_)
          refine lv_goto (tgt := 22) hx hb dX9_countFits_81 (by decide) ?_
          exact ih _ _ _ _ _ _ _  h hI (lv_sub hl [3, 4, 5, 1, 0] rfl)
        · refine lv_iconst hx hb dX9_countFits_60 ci_0 ?_
          exact h_iret_w C hr hI h dX9_countFits_61
set_option maxRecDepth 100000 in
set_option maxHeartbeats 4000000 in
theorem c_X9_countFits (l : Launch) (D : va_G) (t : gT) (ad z : Nat → Nat) (hJ : gJ shX ad) (kS : Nat) (h_kS : shX[kS]? = some (.inr (.inl (5, [some (kS + 1), none, none, none, none])))) (h_kS1 : shX[kS + 1]? = some (.inl (1, 60))) (σ : gS) (q : Int32 × gS) (h : f_X9_countFits σ kS = some q) : Met l yX9_countFits (Cond.code yX9_countFits cX9_countFits 7 (some .int) :: lw_tb) (gR 5 149) (gPc shX t ad D z [.ref (ad 0), .ref (ad kS)] σ) (gQi shX t ad D q.1 q.2) 0 0 (gA shX ad) := by
  refine gMet "NineKeysRound" rfl (by decide) hJ (Nat.le_of_ble_eq_true rfl) ?_
  intro p e s m below meth c ls C hr hI hl
  have hx := C.1
  have hb := C.2.1
  have hl : lv_has ls 7 [(0, .ref (ad 0)), (1, .ref (ad kS))] := hl
  unfold f_X9_countFits at h
  refine lv_aload_n hx hb dX9_countFits_0 rfl (lv_at hl 1 rfl) ?_
  refine fg_248 C hI h_kS rfl dX9_countFits_1 ?_
  refine lv_iconst hx hb dX9_countFits_4 ci_2 ?_
  refine h_idiv C dX9_countFits_5 h (fun h => ?_)
  refine lv_aload_n hx hb dX9_countFits_6 rfl (lv_at hl 0 rfl) ?_
  refine fr_261 C hI shX_0 rfl dX9_countFits_7 ?_
  refine fg_37 C hI shX_1 rfl dX9_countFits_10 ?_
  refine h_mmin C hl.1 k_864 ⟨Nat.le_of_ble_eq_true rfl, Nat.le_of_ble_eq_true rfl⟩ ⟨Nat.zero_le _, Nat.zero_le _⟩ dX9_countFits_13 ?_
  refine gx_topi h (fun v1 h => ?_)
  refine lv_istore_n (lv' := [(2, .int v1), (0, .ref (ad 0)), (1, .ref (ad kS))]) hx hb dX9_countFits_16 rfl hl (by decide) rfl (fun ls hl => ?_)
  refine lv_iconst hx hb dX9_countFits_17 ci_0 ?_
  refine lv_istore_n (lv' := [(3, .int 0), (2, .int v1), (0, .ref (ad 0)), (1, .ref (ad kS))]) hx hb dX9_countFits_18 rfl hl (by decide) rfl (fun ls hl => ?_)
  refine lv_iconst hx hb dX9_countFits_19 ci_0 ?_
  refine lv_istore (lv' := [(4, .int 0), (3, .int 0), (2, .int v1), (0, .ref (ad 0)), (1, .ref (ad kS))]) hx hb dX9_countFits_20 hl (by decide) rfl (fun ls hl => ?_)
  exact w_X9_countFits_22 C hr  h_kS h_kS1  _ _ _ _ _ _ _ _  h hI (lv_sub hl [3, 4, 2, 1, 0] rfl)
set_option maxRecDepth 100000 in
set_option maxHeartbeats 4000000 in
theorem c_X9_fit (l : Launch) (D : va_G) (t : gT) (ad z : Nat → Nat) (hJ : gJ shX ad) (σ : gS) (x1 : Int32) (x2 : Int32) (q : Int32 × gS) (h : f_X9_fit σ x1 x2 = some q) : Met l yX9_fit (Cond.code yX9_fit cX9_fit 6 (some .int) :: lw_tb) (gR 6 175) (gPc shX t ad D z [.ref (ad 0), .int x1, .int x2] σ) (gQi shX t ad D q.1 q.2) 0 0 (gA shX ad) := by
  refine gMet "NineKeysRound" rfl (by decide) hJ (Nat.le_of_ble_eq_true rfl) ?_
  intro p e s m below meth c ls C hr hI hl
  have hx := C.1
  have hb := C.2.1
  have hl : lv_has ls 6 [(0, .ref (ad 0)), (1, .int x1), (2, .int x2)] := hl
  unfold f_X9_fit at h
  refine lv_iload_n hx hb dX9_fit_0 rfl (lv_at hl 1 rfl) ?_
  refine h_callsi_o (rest := []) C hI hl.1 ys_X9_isShelf k_326 h (fun q hq => c_X9_isShelf l D t ad z C.2.2.2.2.2.2.1 (σ) x1 q hq) (As := [.int x1]) rfl rfl ⟨Nat.le_of_ble_eq_true rfl, Nat.le_of_ble_eq_true rfl⟩ (Nat.le_of_ble_eq_true rfl) dX9_fit_1 (fun q1 H locs h hI => ?_)
  refine hif_eq (tgt := 12) C dX9_fit_4 (by decide) h (fun h => ?_) (fun h => ?_)
  · refine lv_iconst hx hb dX9_fit_12 ci_m1 ?_
    exact h_iret_w C hr hI h dX9_fit_13
  · refine lv_iload_n hx hb dX9_fit_7 rfl (lv_at hl 2 rfl) ?_
    refine lv_iconst hx hb dX9_fit_8 ci_m1 ?_
    refine hicmp_ge (tgt := 14) C dX9_fit_9 (by decide) h (fun h => ?_) (fun h => ?_)
    · refine lv_aload_n hx hb dX9_fit_14 rfl (lv_at hl 0 rfl) ?_
      refine fr_264 C hI shX_0 rfl dX9_fit_15 ?_
      refine lv_iload_n hx hb dX9_fit_18 rfl (lv_at hl 1 rfl) ?_
      refine gx_aald C hI shX_13 h dX9_fit_19 (fun k2 hm_ _ h => ?_)
      obtain ⟨h_k2, h_k21⟩ := shelf_ok k2 hm_
      refine lv_astore_n (lv' := [(3, .ref (ad k2)), (0, .ref (ad 0)), (1, .int x1), (2, .int x2)]) hx hb dX9_fit_20 rfl hl (by decide) rfl (fun ls hl => ?_)
      refine lv_aload_n hx hb dX9_fit_21 rfl (lv_at hl 0 rfl) ?_
      refine lv_iconst hx hb dX9_fit_22 ci_1 ?_
      refine h_callvi_o (rest := []) C hI hl.1 h_k2 rfl yv_X5_refusalFor k_329 h (fun q hq => c_X5_refusalFor l D t ad z C.2.2.2.2.2.2.1 k2 h_k2 h_k21 (σ) 1 q hq) (As := [.int 1]) rfl rfl ⟨Nat.le_of_ble_eq_true rfl, Nat.le_of_ble_eq_true rfl⟩ (Nat.le_of_ble_eq_true rfl) dX9_fit_23 (fun q3 H locs h hI => ?_)
      refine lv_istore (lv' := [(4, .int q3), (3, .ref (ad k2)), (0, .ref (ad 0)), (1, .int x1), (2, .int x2)]) hx hb dX9_fit_26 hl (by decide) rfl (fun ls hl => ?_)
      refine lv_iload hx hb dX9_fit_28 (lv_at hl 0 rfl) ?_
      refine hif_ge (tgt := 36) C dX9_fit_30 (by decide) h (fun h => ?_) (fun h => ?_)
      · refine lv_aload_n hx hb dX9_fit_36 rfl (lv_at hl 2 rfl) ?_
        refine fr_261 C hI shX_0 rfl dX9_fit_37 ?_
        refine fg_37 C hI shX_1 rfl dX9_fit_40 ?_
        refine lv_bipush hx hb dX9_fit_43 cb_6 ?_
        refine hicmp_le (tgt := 51) C dX9_fit_45 (by decide) h (fun h => ?_) (fun h => ?_)
        · refine lv_aload_n hx hb dX9_fit_51 rfl (lv_at hl 2 rfl) ?_
          refine lv_aload_n hx hb dX9_fit_52 rfl (lv_at hl 1 rfl) ?_
          refine h_callvi_w (rest := []) C hI hl.1 shX_0 rfl yv_X9_countFits k_860 h (fun q hq => c_X9_countFits l D t ad z C.2.2.2.2.2.2.1 k2 h_k2 h_k21 (σ) q hq) (As := [.ref (ad k2)]) rfl rfl ⟨Nat.le_of_ble_eq_true rfl, Nat.le_of_ble_eq_true rfl⟩ (Nat.le_of_ble_eq_true rfl) dX9_fit_53 (fun q4 H locs h hI => ?_)
          refine lv_istore (lv' := [(5, .int q4.1), (4, .int q3), (3, .ref (ad k2)), (0, .ref (ad 0)), (1, .int x1), (2, .int x2)]) hx hb dX9_fit_56 hl (by decide) rfl (fun ls hl => ?_)
          refine lv_iload_n hx hb dX9_fit_58 rfl (lv_at hl 5 rfl) ?_
          refine lv_iconst hx hb dX9_fit_59 ci_m1 ?_
          refine hicmp_ne (tgt := 66) C dX9_fit_60 (by decide) h (fun h => ?_) (fun h => ?_)
          · refine lv_iload hx hb dX9_fit_66 (lv_at hl 0 rfl) ?_
            refine hif_eq (tgt := 82) C dX9_fit_68 (by decide) h (fun h => ?_) (fun h => ?_)
            · refine lv_bipush hx hb dX9_fit_82 cb_m2 ?_
              refine lv_goto (tgt := 93) hx hb dX9_fit_84 (by decide) ?_
              exact h_iret_w C hr hI h dX9_fit_93
            · refine lv_iload_n hx hb dX9_fit_71 rfl (lv_at hl 5 rfl) ?_
              refine lv_aload_n hx hb dX9_fit_72 rfl (lv_at hl 3 rfl) ?_
              refine fr_261 C hI shX_0 rfl dX9_fit_73 ?_
              refine fg_37 C hI shX_1 rfl dX9_fit_76 ?_
              refine hicmp_lt (tgt := 87) C dX9_fit_79 (by decide) h (fun h => ?_) (fun h => ?_)
              · refine lv_aload_n hx hb dX9_fit_87 rfl (lv_at hl 3 rfl) ?_
                refine fr_274 C hI shX_0 rfl dX9_fit_88 ?_
                refine lv_iload_n hx hb dX9_fit_91 rfl (lv_at hl 5 rfl) ?_
                refine gx_iald C hI shX_46 h dX9_fit_92 (fun h => ?_)
                exact h_iret_w C hr hI h dX9_fit_93
              · refine lv_bipush hx hb dX9_fit_82 cb_m2 ?_
                refine lv_goto (tgt := 93) hx hb dX9_fit_84 (by decide) ?_
                exact h_iret_w C hr hI h dX9_fit_93
          · refine lv_iload hx hb dX9_fit_63 (lv_at hl 0 rfl) ?_
            exact h_iret_w C hr hI h dX9_fit_65
        · refine lv_bipush hx hb dX9_fit_48 cb_m5 ?_
          exact h_iret_w C hr hI h dX9_fit_50
      · refine lv_iload hx hb dX9_fit_33 (lv_at hl 0 rfl) ?_
        exact h_iret_w C hr hI h dX9_fit_35
    · refine lv_iconst hx hb dX9_fit_12 ci_m1 ?_
      exact h_iret_w C hr hI h dX9_fit_13
set_option maxRecDepth 100000 in
set_option maxHeartbeats 4000000 in
theorem w_X9_hang_28 {p : Program} {l : Launch} {e : Env} {s : State} {m : MethodId} {args : Array Value} {below : List Frame} {meth : Method} {c : Code} {D : va_G} {t : gT} {ad z : Nat → Nat} {σ : gS} (C : gC p s m args meth c cX9_hang 7 "NineKeysRound" D t shX ad z) (hr : meth.sig.returnType = some .int) {r : Int32} : ∀ (n : Nat) (x1 : Int32) (x2 : Int32) (x3 : Int32) (x4 : Int32) (x5 : Int32) (H : Heap) (locs : List Loc) (ls : Array Slot), f_X9_hang_28 σ n x1 x2 x3 x4 x5 = some r → gI shX t ad D s.heap σ H locs → lv_has ls 7 [(0, .ref (ad 0)), (1, .int x1), (2, .int x2), (3, .int x3), (4, .int x4), (5, .int x5)] → W p l e (gR 3 107) s m args below meth c H locs 0 0 (MQ below (gQi shX t ad D r σ) args s 0 0 (gA shX ad)) (F0 m 28 ls []) := by
  have hx := C.1
  have hb := C.2.1
  intro n
  induction n with
  | zero =>
    intro x1 x2 x3 x4 x5 H locs ls  h
    exact absurd h (by simp [f_X9_hang_28])
  | succ n ih =>
    intro x1 x2 x3 x4 x5 H locs ls  h hI hl
    unfold f_X9_hang_28 at h
    refine lv_iload hx hb dX9_hang_28 (lv_at hl 5 rfl) ?_
    refine lv_sipush hx hb dX9_hang_30 cs_256 ?_
    refine hicmp_ge (tgt := 99) C dX9_hang_33 (by decide) h (fun h => ?_) (fun h => ?_)
    · refine lv_iload_n hx hb dX9_hang_99 rfl (lv_at hl 2 rfl) ?_
      refine hif_ne (tgt := 107) C dX9_hang_100 (by decide) h (fun h => ?_) (fun h => ?_)
      · refine lv_iload hx hb dX9_hang_107 (lv_at hl 4 rfl) ?_
        exact h_iret_o C hr hI h dX9_hang_109
      · refine lv_iload_n hx hb dX9_hang_103 rfl (lv_at hl 3 rfl) ?_
        refine lv_goto (tgt := 109) hx hb dX9_hang_104 (by decide) ?_
        exact h_iret_o C hr hI h dX9_hang_109
    · refine lv_aload_n hx hb dX9_hang_36 rfl (lv_at hl 0 rfl) ?_
      refine fr_261 C hI shX_0 rfl dX9_hang_37 ?_
      refine lv_bipush hx hb dX9_hang_40 cb_9 ?_
      refine lv_iload hx hb dX9_hang_42 (lv_at hl 5 rfl) ?_
      refine lv_bipush hx hb dX9_hang_44 cb_15 ?_
      refine lv_iand hx hb dX9_hang_46 ?_
      refine lv_iload hx hb dX9_hang_47 (lv_at hl 5 rfl) ?_
      refine lv_iconst hx hb dX9_hang_49 ci_4 ?_
      refine lv_ishr hx hb dX9_hang_50 ?_
      refine h_callvi_o (rest := []) C hI hl.1 shX_1 rfl yv_X8_cellsTo k_873 h (fun q hq => c_X8_cellsTo l D t ad z C.2.2.2.2.2.2.1 (σ) 9 (x5 &&& 15) ((x5 : Int32) >>> (4 &&& 31)) q hq) (As := [.int 9, .int (x5 &&& 15), .int ((x5 : Int32) >>> (4 &&& 31))]) rfl rfl ⟨Nat.le_of_ble_eq_true rfl, Nat.le_of_ble_eq_true rfl⟩ (Nat.le_of_ble_eq_true rfl) dX9_hang_51 (fun q1 H locs h hI => ?_)
      refine lv_iload_n hx hb dX9_hang_54 rfl (lv_at hl 1 rfl) ?_
      refine hicmp_le (tgt := 61) C dX9_hang_55 (by decide) h (fun h => ?_) (fun h => ?_)
      · refine lv_aload_n hx hb dX9_hang_61 rfl (lv_at hl 0 rfl) ?_
        refine fr_261 C hI shX_0 rfl dX9_hang_62 ?_
        refine lv_iload hx hb dX9_hang_65 (lv_at hl 5 rfl) ?_
        refine lv_bipush hx hb dX9_hang_67 cb_15 ?_
        refine lv_iand hx hb dX9_hang_69 ?_
        refine lv_iload hx hb dX9_hang_70 (lv_at hl 5 rfl) ?_
        refine lv_iconst hx hb dX9_hang_72 ci_4 ?_
        refine lv_ishr hx hb dX9_hang_73 ?_
        refine h_callvi_o (rest := []) C hI hl.1 shX_1 rfl yv_X8_cellsToNearestPost k_874 h (fun q hq => c_X8_cellsToNearestPost l D t ad z C.2.2.2.2.2.2.1 (σ) (x5 &&& 15) ((x5 : Int32) >>> (4 &&& 31)) q hq) (As := [.int (x5 &&& 15), .int ((x5 : Int32) >>> (4 &&& 31))]) rfl rfl ⟨Nat.le_of_ble_eq_true rfl, Nat.le_of_ble_eq_true rfl⟩ (Nat.le_of_ble_eq_true rfl) dX9_hang_74 (fun q2 H locs h hI => ?_)
        refine lv_istore (lv' := [(6, .int q2), (0, .ref (ad 0)), (1, .int x1), (2, .int x2), (3, .int x3), (4, .int x4), (5, .int x5)]) hx hb dX9_hang_77 hl (by decide) rfl (fun ls hl => ?_)
        refine lv_iload hx hb dX9_hang_79 (lv_at hl 0 rfl) ?_
        refine lv_iload hx hb dX9_hang_81 (lv_at hl 5 rfl) ?_
        refine hicmp_le (tgt := 93) C dX9_hang_83 (by decide) h (fun h => ?_) (fun h => ?_)
        · refine h_iinc C hl dX9_hang_93 6 rfl ci_1 h (by decide) (lvf := fun v3 => [(5, .int v3), (6, .int q2), (0, .ref (ad 0)), (1, .int x1), (2, .int x2), (3, .int x3), (4, .int x4)]) (fun _ => rfl) (fun v3 ls h hl => ?_)
          refine lv_goto (tgt := 28) hx hb dX9_hang_96 (by decide) ?_
          exact ih _ _ _ _ _ _ _ _  h hI (lv_sub hl [2, 3, 4, 5, 6, 0] rfl)
        · refine lv_iload hx hb dX9_hang_86 (lv_at hl 6 rfl) ?_
          refine lv_istore_n (lv' := [(3, .int x5), (6, .int q2), (0, .ref (ad 0)), (1, .int x1), (2, .int x2), (4, .int x4), (5, .int x5)]) hx hb dX9_hang_88 rfl hl (by decide) rfl (fun ls hl => ?_)
          refine lv_iload hx hb dX9_hang_89 (lv_at hl 1 rfl) ?_
          refine lv_istore (lv' := [(4, .int q2), (3, .int x5), (6, .int q2), (0, .ref (ad 0)), (1, .int x1), (2, .int x2), (5, .int x5)]) hx hb dX9_hang_91 hl (by decide) rfl (fun ls hl => ?_)
          refine h_iinc C hl dX9_hang_93 6 rfl ci_1 h (by decide) (lvf := fun v4 => [(5, .int v4), (4, .int q2), (3, .int x5), (6, .int q2), (0, .ref (ad 0)), (1, .int x1), (2, .int x2)]) (fun _ => rfl) (fun v4 ls h hl => ?_)
          refine lv_goto (tgt := 28) hx hb dX9_hang_96 (by decide) ?_
          exact ih _ _ _ _ _ _ _ _  h hI (lv_sub hl [4, 5, 6, 2, 1, 0] rfl)
      · refine lv_goto (tgt := 93) hx hb dX9_hang_58 (by decide) ?_
        refine h_iinc C hl dX9_hang_93 5 rfl ci_1 h (by decide) (lvf := fun v5 => [(5, .int v5), (0, .ref (ad 0)), (1, .int x1), (2, .int x2), (3, .int x3), (4, .int x4)]) (fun _ => rfl) (fun v5 ls h hl => ?_)
        refine lv_goto (tgt := 28) hx hb dX9_hang_96 (by decide) ?_
        exact ih _ _ _ _ _ _ _ _  h hI (lv_sub hl [1, 2, 3, 4, 5, 0] rfl)
set_option maxRecDepth 100000 in
set_option maxHeartbeats 4000000 in
theorem c_X9_hang (l : Launch) (D : va_G) (t : gT) (ad z : Nat → Nat) (hJ : gJ shX ad) (σ : gS) (x1 : Int32) (x2 : Int32) (q : Int32) (h : f_X9_hang σ x1 x2 = some q) : Met l yX9_hang (Cond.code yX9_hang cX9_hang 7 (some .int) :: lw_tb) (gR 3 107) (gPc shX t ad D z [.ref (ad 0), .int x1, .int x2] σ) (gQi shX t ad D q σ) 0 0 (gA shX ad) := by
  refine gMet "NineKeysRound" rfl (by decide) hJ (Nat.le_of_ble_eq_true rfl) ?_
  intro p e s m below meth c ls C hr hI hl
  have hx := C.1
  have hb := C.2.1
  have hl : lv_has ls 7 [(0, .ref (ad 0)), (1, .int x1), (2, .int x2)] := hl
  unfold f_X9_hang at h
  refine lv_iload_n hx hb dX9_hang_0 rfl (lv_at hl 1 rfl) ?_
  refine hif_lt (tgt := 17) C dX9_hang_1 (by decide) h (fun h => ?_) (fun h => ?_)
  · refine lv_iconst hx hb dX9_hang_17 ci_m1 ?_
    exact h_iret_o C hr hI h dX9_hang_18
  · refine lv_iload_n hx hb dX9_hang_4 rfl (lv_at hl 1 rfl) ?_
    refine lv_bipush hx hb dX9_hang_5 cb_30 ?_
    refine hicmp_gt (tgt := 17) C dX9_hang_7 (by decide) h (fun h => ?_) (fun h => ?_)
    · refine lv_iconst hx hb dX9_hang_17 ci_m1 ?_
      exact h_iret_o C hr hI h dX9_hang_18
    · refine lv_iload_n hx hb dX9_hang_10 rfl (lv_at hl 2 rfl) ?_
      refine h_callsi_o (rest := []) C hI hl.1 ys_X9_isEither k_518 h (fun q hq => c_X9_isEither l D t ad z C.2.2.2.2.2.2.1 (σ) x2 q hq) (As := [.int x2]) rfl rfl ⟨Nat.le_of_ble_eq_true rfl, Nat.le_of_ble_eq_true rfl⟩ (Nat.le_of_ble_eq_true rfl) dX9_hang_11 (fun q1 H locs h hI => ?_)
      refine hif_ne (tgt := 19) C dX9_hang_14 (by decide) h (fun h => ?_) (fun h => ?_)
      · refine lv_bipush hx hb dX9_hang_19 cb_m2 ?_
        refine lv_istore_n (lv' := [(3, .int (-2)), (0, .ref (ad 0)), (1, .int x1), (2, .int x2)]) hx hb dX9_hang_21 rfl hl (by decide) rfl (fun ls hl => ?_)
        refine lv_iconst hx hb dX9_hang_22 ci_m1 ?_
        refine lv_istore (lv' := [(4, .int (-1)), (3, .int (-2)), (0, .ref (ad 0)), (1, .int x1), (2, .int x2)]) hx hb dX9_hang_23 hl (by decide) rfl (fun ls hl => ?_)
        refine lv_iconst hx hb dX9_hang_25 ci_0 ?_
        refine lv_istore (lv' := [(5, .int 0), (4, .int (-1)), (3, .int (-2)), (0, .ref (ad 0)), (1, .int x1), (2, .int x2)]) hx hb dX9_hang_26 hl (by decide) rfl (fun ls hl => ?_)
        exact w_X9_hang_28 C hr    _ _ _ _ _ _ _ _ _  h hI (lv_sub hl [3, 4, 5, 2, 1, 0] rfl)
      · refine lv_iconst hx hb dX9_hang_17 ci_m1 ?_
        exact h_iret_o C hr hI h dX9_hang_18
set_option maxRecDepth 100000 in
set_option maxHeartbeats 4000000 in
theorem w_X9_drawn_143 {p : Program} {l : Launch} {e : Env} {s : State} {m : MethodId} {args : Array Value} {below : List Frame} {meth : Method} {c : Code} {D : va_G} {t : gT} {ad z : Nat → Nat} {σ : gS} (C : gC p s m args meth c cX9_drawn 15 "NineKeysRound" D t shX ad z) (hr : meth.sig.returnType = some .int) {r : Int32} (K_68 : Int32 → Int32 → Int32 → Int32 → Int32 → Int32 → Int32 → Option Int32) (hK_68 : ∀ (x3 : Int32) (x4 : Int32) (x5 : Int32) (x6 : Int32) (x7 : Int32) (x8 : Int32) (x9 : Int32) (H : Heap) (locs : List Loc) (ls : Array Slot), K_68 x3 x4 x5 x6 x7 x8 x9 = some r → gI shX t ad D s.heap σ H locs → lv_has ls 15 [(0, .ref (ad 0)), (3, .int x3), (4, .int x4), (5, .int x5), (6, .int x6), (7, .int x7), (8, .int x8), (9, .int x9)] → W p l e (gR 4 131) s m args below meth c H locs 0 0 (MQ below (gQi shX t ad D r σ) args s 0 0 (gA shX ad)) (F0 m 68 ls [])) (K_85 : Int32 → Int32 → Int32 → Int32 → Int32 → Int32 → Int32 → Int32 → Int32 → Int32 → Option Int32) (hK_85 : ∀ (x3 : Int32) (x4 : Int32) (x5 : Int32) (x6 : Int32) (x7 : Int32) (x8 : Int32) (x9 : Int32) (x10 : Int32) (x11 : Int32) (x12 : Int32) (H : Heap) (locs : List Loc) (ls : Array Slot), K_85 x3 x4 x5 x6 x7 x8 x9 x10 x11 x12 = some r → gI shX t ad D s.heap σ H locs → lv_has ls 15 [(0, .ref (ad 0)), (3, .int x3), (4, .int x4), (5, .int x5), (6, .int x6), (7, .int x7), (8, .int x8), (9, .int x9), (10, .int x10), (11, .int x11), (12, .int x12)] → W p l e (gR 4 131) s m args below meth c H locs 0 0 (MQ below (gQi shX t ad D r σ) args s 0 0 (gA shX ad)) (F0 m 85 ls [])) : ∀ (x3 : Int32) (x4 : Int32) (x5 : Int32) (x6 : Int32) (x7 : Int32) (x8 : Int32) (x9 : Int32) (x10 : Int32) (x11 : Int32) (x12 : Int32) (x13 : Int32) (s0 : Int32) (H : Heap) (locs : List Loc) (ls : Array Slot), f_X9_drawn_143 σ K_68 K_85 x3 x4 x5 x6 x7 x8 x9 x10 x11 x12 x13 s0 = some r → gI shX t ad D s.heap σ H locs → lv_has ls 15 [(0, .ref (ad 0)), (3, .int x3), (4, .int x4), (5, .int x5), (6, .int x6), (7, .int x7), (8, .int x8), (9, .int x9), (10, .int x10), (11, .int x11), (12, .int x12), (13, .int x13)] → W p l e (gR 4 131) s m args below meth c H locs 0 0 (MQ below (gQi shX t ad D r σ) args s 0 0 (gA shX ad)) (F0 m 143 ls [.int s0]) := by
  have hx := C.1
  have hb := C.2.1
  intro x3 x4 x5 x6 x7 x8 x9 x10 x11 x12 x13 s0 H locs ls  h hI hl
  unfold f_X9_drawn_143 at h
  refine lv_istore (lv' := [(14, .int s0), (0, .ref (ad 0)), (3, .int x3), (4, .int x4), (5, .int x5), (6, .int x6), (7, .int x7), (8, .int x8), (9, .int x9), (10, .int x10), (11, .int x11), (12, .int x12), (13, .int x13)]) hx hb dX9_drawn_143 hl (by decide) rfl (fun ls hl => ?_)
  refine lv_iload hx hb dX9_drawn_145 (lv_at hl 10 rfl) ?_
  refine lv_aload_n hx hb dX9_drawn_147 rfl (lv_at hl 1 rfl) ?_
  refine fr_261 C hI shX_0 rfl dX9_drawn_148 ?_
  refine lv_iload hx hb dX9_drawn_151 (lv_at hl 9 rfl) ?_
  refine lv_iload hx hb dX9_drawn_153 (lv_at hl 12 rfl) ?_
  refine h_callvi_o (rest := [.int x11]) C hI hl.1 shX_1 rfl yv_X8_way k_833 h (fun q hq => c_X8_way l D t ad z C.2.2.2.2.2.2.1 (σ) x10 x13 q hq) (As := [.int x10, .int x13]) rfl rfl ⟨Nat.le_of_ble_eq_true rfl, Nat.le_of_ble_eq_true rfl⟩ (Nat.le_of_ble_eq_true rfl) dX9_drawn_155 (fun q1 H locs h hI => ?_)
  refine lv_aload_n hx hb dX9_drawn_158 rfl (lv_at hl 1 rfl) ?_
  refine fr_261 C hI shX_0 rfl dX9_drawn_159 ?_
  refine lv_iload hx hb dX9_drawn_162 (lv_at hl 12 rfl) ?_
  refine lv_iload hx hb dX9_drawn_164 (lv_at hl 0 rfl) ?_
  refine h_callvi_o (rest := [.int q1, .int x11]) C hI hl.1 shX_1 rfl yv_X8_wholeTurn k_884 h (fun q hq => c_X8_wholeTurn l D t ad z C.2.2.2.2.2.2.1 (σ) x13 s0 q hq) (As := [.int x13, .int s0]) rfl rfl ⟨Nat.le_of_ble_eq_true rfl, Nat.le_of_ble_eq_true rfl⟩ (Nat.le_of_ble_eq_true rfl) dX9_drawn_166 (fun q2 H locs h hI => ?_)
  refine lv_iadd hx hb dX9_drawn_169 ?_
  refine lv_iadd hx hb dX9_drawn_170 ?_
  refine gx_topi h (fun v3 h => ?_)
  refine lv_istore (lv' := [(11, .int v3), (14, .int s0), (0, .ref (ad 0)), (3, .int x3), (4, .int x4), (5, .int x5), (6, .int x6), (7, .int x7), (8, .int x8), (9, .int x9), (10, .int x10), (12, .int x12), (13, .int x13)]) hx hb dX9_drawn_171 hl (by decide) rfl (fun ls hl => ?_)
  refine lv_iload hx hb dX9_drawn_173 (lv_at hl 12 rfl) ?_
  refine lv_iload hx hb dX9_drawn_175 (lv_at hl 1 rfl) ?_
  refine lv_aload_n hx hb dX9_drawn_177 rfl (lv_at hl 2 rfl) ?_
  refine fr_261 C hI shX_0 rfl dX9_drawn_178 ?_
  refine fg_37 C hI shX_1 rfl dX9_drawn_181 ?_
  refine lv_iconst hx hb dX9_drawn_184 ci_1 ?_
  refine lv_isub hx hb dX9_drawn_185 ?_
  refine lv_imul hx hb dX9_drawn_186 ?_
  refine lv_iadd hx hb dX9_drawn_187 ?_
  refine lv_aload_n hx hb dX9_drawn_188 rfl (lv_at hl 2 rfl) ?_
  refine fr_261 C hI shX_0 rfl dX9_drawn_189 ?_
  refine fg_37 C hI shX_1 rfl dX9_drawn_192 ?_
  refine h_irem C dX9_drawn_195 h (fun h => ?_)
  refine gx_topi h (fun v4 h => ?_)
  refine lv_istore (lv' := [(10, .int v4), (11, .int v3), (14, .int s0), (0, .ref (ad 0)), (3, .int x3), (4, .int x4), (5, .int x5), (6, .int x6), (7, .int x7), (8, .int x8), (9, .int x9), (12, .int x12), (13, .int x13)]) hx hb dX9_drawn_196 hl (by decide) rfl (fun ls hl => ?_)
  refine h_iinc C hl dX9_drawn_198 11 rfl ci_1 h (by decide) (lvf := fun v5 => [(12, .int v5), (10, .int v4), (11, .int v3), (14, .int s0), (0, .ref (ad 0)), (3, .int x3), (4, .int x4), (5, .int x5), (6, .int x6), (7, .int x7), (8, .int x8), (9, .int x9), (13, .int x13)]) (fun _ => rfl) (fun v5 ls h hl => ?_)
  refine lv_goto (tgt := 85) hx hb dX9_drawn_201 (by decide) ?_
  exact hK_85 _ _ _ _ _ _ _ _ _ _ _ _ _  h hI (lv_sub hl [4, 5, 6, 7, 8, 9, 10, 11, 1, 2, 0] rfl)
set_option maxRecDepth 100000 in
set_option maxHeartbeats 4000000 in
theorem w_X9_drawn_85 {p : Program} {l : Launch} {e : Env} {s : State} {m : MethodId} {args : Array Value} {below : List Frame} {meth : Method} {c : Code} {D : va_G} {t : gT} {ad z : Nat → Nat} {σ : gS} (C : gC p s m args meth c cX9_drawn 15 "NineKeysRound" D t shX ad z) (hr : meth.sig.returnType = some .int) {r : Int32} (K_68 : Int32 → Int32 → Int32 → Int32 → Int32 → Int32 → Int32 → Option Int32) (hK_68 : ∀ (x3 : Int32) (x4 : Int32) (x5 : Int32) (x6 : Int32) (x7 : Int32) (x8 : Int32) (x9 : Int32) (H : Heap) (locs : List Loc) (ls : Array Slot), K_68 x3 x4 x5 x6 x7 x8 x9 = some r → gI shX t ad D s.heap σ H locs → lv_has ls 15 [(0, .ref (ad 0)), (3, .int x3), (4, .int x4), (5, .int x5), (6, .int x6), (7, .int x7), (8, .int x8), (9, .int x9)] → W p l e (gR 4 131) s m args below meth c H locs 0 0 (MQ below (gQi shX t ad D r σ) args s 0 0 (gA shX ad)) (F0 m 68 ls [])) : ∀ (n : Nat) (x3 : Int32) (x4 : Int32) (x5 : Int32) (x6 : Int32) (x7 : Int32) (x8 : Int32) (x9 : Int32) (x10 : Int32) (x11 : Int32) (x12 : Int32) (H : Heap) (locs : List Loc) (ls : Array Slot), f_X9_drawn_85 σ K_68 n x3 x4 x5 x6 x7 x8 x9 x10 x11 x12 = some r → gI shX t ad D s.heap σ H locs → lv_has ls 15 [(0, .ref (ad 0)), (3, .int x3), (4, .int x4), (5, .int x5), (6, .int x6), (7, .int x7), (8, .int x8), (9, .int x9), (10, .int x10), (11, .int x11), (12, .int x12)] → W p l e (gR 4 131) s m args below meth c H locs 0 0 (MQ below (gQi shX t ad D r σ) args s 0 0 (gA shX ad)) (F0 m 85 ls []) := by
  have hx := C.1
  have hb := C.2.1
  intro n
  induction n with
  | zero =>
    intro x3 x4 x5 x6 x7 x8 x9 x10 x11 x12 H locs ls  h
    exact absurd h (by simp [f_X9_drawn_85])
  | succ n ih =>
    intro x3 x4 x5 x6 x7 x8 x9 x10 x11 x12 H locs ls  h hI hl
    unfold f_X9_drawn_85 at h
    refine lv_iload hx hb dX9_drawn_85 (lv_at hl 10 rfl) ?_
    refine lv_iload hx hb dX9_drawn_87 (lv_at hl 3 rfl) ?_
    refine hicmp_ge (tgt := 204) C dX9_drawn_89 (by decide) h (fun h => ?_) (fun h => ?_)
    · refine lv_iload hx hb dX9_drawn_204 (lv_at hl 5 rfl) ?_
      refine lv_iload hx hb dX9_drawn_206 (lv_at hl 9 rfl) ?_
      refine lv_iadd hx hb dX9_drawn_208 ?_
      refine gx_topi h (fun v1 h => ?_)
      refine lv_istore (lv' := [(7, .int v1), (0, .ref (ad 0)), (3, .int x3), (4, .int x4), (5, .int x5), (6, .int x6), (8, .int x8), (9, .int x9), (10, .int x10), (11, .int x11), (12, .int x12)]) hx hb dX9_drawn_209 hl (by decide) rfl (fun ls hl => ?_)
      refine lv_iload hx hb dX9_drawn_211 (lv_at hl 6 rfl) ?_
      refine lv_iload hx hb dX9_drawn_213 (lv_at hl 9 rfl) ?_
      refine h_mmax C hl.1 k_775 ⟨Nat.le_of_ble_eq_true rfl, Nat.le_of_ble_eq_true rfl⟩ ⟨Nat.zero_le _, Nat.zero_le _⟩ dX9_drawn_215 ?_
      refine gx_topi h (fun v2 h => ?_)
      refine lv_istore (lv' := [(8, .int v2), (7, .int v1), (0, .ref (ad 0)), (3, .int x3), (4, .int x4), (5, .int x5), (6, .int x6), (9, .int x9), (10, .int x10), (11, .int x11), (12, .int x12)]) hx hb dX9_drawn_218 hl (by decide) rfl (fun ls hl => ?_)
      refine h_iinc C hl dX9_drawn_220 7 rfl ci_1 h (by decide) (lvf := fun v3 => [(9, .int v3), (8, .int v2), (7, .int v1), (0, .ref (ad 0)), (3, .int x3), (4, .int x4), (5, .int x5), (6, .int x6), (10, .int x10), (11, .int x11), (12, .int x12)]) (fun _ => rfl) (fun v3 ls h hl => ?_)
      refine lv_goto (tgt := 68) hx hb dX9_drawn_223 (by decide) ?_
      exact hK_68 _ _ _ _ _ _ _ _ _ _  h hI (lv_sub hl [3, 4, 5, 6, 7, 2, 1, 0] rfl)
    · refine lv_iload hx hb dX9_drawn_92 (lv_at hl 4 rfl) ?_
      refine lv_ldcw hx hb C.2.2.2.1 (C.2.2.2.2.1 _ k_883) dX9_drawn_94 ?_
      refine lv_imul hx hb dX9_drawn_97 ?_
      refine lv_sipush hx hb dX9_drawn_98 cs_12345 ?_
      refine lv_iadd hx hb dX9_drawn_101 ?_
      refine gx_topi h (fun v4 h => ?_)
      refine lv_istore (lv' := [(6, .int v4), (0, .ref (ad 0)), (3, .int x3), (4, .int x4), (5, .int x5), (7, .int x7), (8, .int x8), (9, .int x9), (10, .int x10), (11, .int x11), (12, .int x12)]) hx hb dX9_drawn_102 hl (by decide) rfl (fun ls hl => ?_)
      refine lv_iload hx hb dX9_drawn_104 (lv_at hl 0 rfl) ?_
      refine lv_bipush hx hb dX9_drawn_106 cb_8 ?_
      refine lv_iushr (v := jushr v4 8) hx hb dX9_drawn_108 rfl ?_
      refine lv_aload_n hx hb dX9_drawn_109 rfl (lv_at hl 1 rfl) ?_
      refine fr_261 C hI shX_0 rfl dX9_drawn_110 ?_
      refine fg_37 C hI shX_1 rfl dX9_drawn_113 ?_
      refine h_irem C dX9_drawn_116 h (fun h => ?_)
      refine gx_topi h (fun v5 h => ?_)
      refine lv_istore (lv' := [(13, .int v5), (6, .int v4), (0, .ref (ad 0)), (3, .int x3), (4, .int x4), (5, .int x5), (7, .int x7), (8, .int x8), (9, .int x9), (10, .int x10), (11, .int x11), (12, .int x12)]) hx hb dX9_drawn_117 hl (by decide) rfl (fun ls hl => ?_)
      refine lv_iload hx hb dX9_drawn_119 (lv_at hl 1 rfl) ?_
      refine lv_bipush hx hb dX9_drawn_121 cb_16 ?_
      refine lv_iushr (v := jushr v4 16) hx hb dX9_drawn_123 rfl ?_
      refine lv_iconst hx hb dX9_drawn_124 ci_1 ?_
      refine lv_iand hx hb dX9_drawn_125 ?_
      refine lv_iconst hx hb dX9_drawn_126 ci_1 ?_
      refine hicmp_ne (tgt := 142) C dX9_drawn_127 (by decide) h (fun h => ?_) (fun h => ?_)
      · refine lv_iconst hx hb dX9_drawn_142 ci_1 ?_
        exact w_X9_drawn_143 C hr   _ hK_68 _ ih _ _ _ _ _ _ _ _ _ _ _ _ _ _ _  h hI (lv_sub hl [2, 3, 4, 5, 1, 6, 7, 8, 9, 10, 11, 0] rfl)
      · refine lv_aload_n hx hb dX9_drawn_130 rfl (lv_at hl 2 rfl) ?_
        refine fr_261 C hI shX_0 rfl dX9_drawn_131 ?_
        refine fg_37 C hI shX_1 rfl dX9_drawn_134 ?_
        refine lv_iconst hx hb dX9_drawn_137 ci_1 ?_
        refine lv_isub hx hb dX9_drawn_138 ?_
        refine lv_goto (tgt := 143) hx hb dX9_drawn_139 (by decide) ?_
        exact w_X9_drawn_143 C hr   _ hK_68 _ ih _ _ _ _ _ _ _ _ _ _ _ _ _ _ _  h hI (lv_sub hl [2, 3, 4, 5, 1, 6, 7, 8, 9, 10, 11, 0] rfl)
set_option maxRecDepth 100000 in
set_option maxHeartbeats 4000000 in
theorem w_X9_drawn_68 {p : Program} {l : Launch} {e : Env} {s : State} {m : MethodId} {args : Array Value} {below : List Frame} {meth : Method} {c : Code} {D : va_G} {t : gT} {ad z : Nat → Nat} {σ : gS} (C : gC p s m args meth c cX9_drawn 15 "NineKeysRound" D t shX ad z) (hr : meth.sig.returnType = some .int) {r : Int32} : ∀ (n : Nat) (x3 : Int32) (x4 : Int32) (x5 : Int32) (x6 : Int32) (x7 : Int32) (x8 : Int32) (x9 : Int32) (H : Heap) (locs : List Loc) (ls : Array Slot), f_X9_drawn_68 σ n x3 x4 x5 x6 x7 x8 x9 = some r → gI shX t ad D s.heap σ H locs → lv_has ls 15 [(0, .ref (ad 0)), (3, .int x3), (4, .int x4), (5, .int x5), (6, .int x6), (7, .int x7), (8, .int x8), (9, .int x9)] → W p l e (gR 4 131) s m args below meth c H locs 0 0 (MQ below (gQi shX t ad D r σ) args s 0 0 (gA shX ad)) (F0 m 68 ls []) := by
  have hx := C.1
  have hb := C.2.1
  intro n
  induction n with
  | zero =>
    intro x3 x4 x5 x6 x7 x8 x9 H locs ls  h
    exact absurd h (by simp [f_X9_drawn_68])
  | succ n ih =>
    intro x3 x4 x5 x6 x7 x8 x9 H locs ls  h hI hl
    unfold f_X9_drawn_68 at h
    refine lv_iload hx hb dX9_drawn_68 (lv_at hl 7 rfl) ?_
    refine lv_iload hx hb dX9_drawn_70 (lv_at hl 2 rfl) ?_
    refine hicmp_ge (tgt := 226) C dX9_drawn_72 (by decide) h (fun h => ?_) (fun h => ?_)
    · refine lv_iload_n hx hb dX9_drawn_226 rfl (lv_at hl 1 rfl) ?_
      refine hif_ne (tgt := 235) C dX9_drawn_227 (by decide) h (fun h => ?_) (fun h => ?_)
      · refine lv_iload hx hb dX9_drawn_235 (lv_at hl 6 rfl) ?_
        exact h_iret_o C hr hI h dX9_drawn_237
      · refine lv_iload hx hb dX9_drawn_230 (lv_at hl 5 rfl) ?_
        refine lv_goto (tgt := 237) hx hb dX9_drawn_232 (by decide) ?_
        exact h_iret_o C hr hI h dX9_drawn_237
    · refine lv_bipush hx hb dX9_drawn_75 cb_9 ?_
      refine lv_istore (lv' := [(10, .int 9), (0, .ref (ad 0)), (3, .int x3), (4, .int x4), (5, .int x5), (6, .int x6), (7, .int x7), (8, .int x8), (9, .int x9)]) hx hb dX9_drawn_77 hl (by decide) rfl (fun ls hl => ?_)
      refine lv_iconst hx hb dX9_drawn_79 ci_0 ?_
      refine lv_istore (lv' := [(11, .int 0), (10, .int 9), (0, .ref (ad 0)), (3, .int x3), (4, .int x4), (5, .int x5), (6, .int x6), (7, .int x7), (8, .int x8), (9, .int x9)]) hx hb dX9_drawn_80 hl (by decide) rfl (fun ls hl => ?_)
      refine lv_iconst hx hb dX9_drawn_82 ci_0 ?_
      refine lv_istore (lv' := [(12, .int 0), (11, .int 0), (10, .int 9), (0, .ref (ad 0)), (3, .int x3), (4, .int x4), (5, .int x5), (6, .int x6), (7, .int x7), (8, .int x8), (9, .int x9)]) hx hb dX9_drawn_83 hl (by decide) rfl (fun ls hl => ?_)
      exact w_X9_drawn_85 C hr   _ ih _ _ _ _ _ _ _ _ _ _ _ _ _ _  h hI (lv_sub hl [3, 4, 5, 6, 7, 8, 9, 10, 2, 1, 0] rfl)
set_option maxRecDepth 100000 in
set_option maxHeartbeats 4000000 in
theorem c_X9_drawn (l : Launch) (D : va_G) (t : gT) (ad z : Nat → Nat) (hJ : gJ shX ad) (σ : gS) (x1 : Int32) (x2 : Int32) (x3 : Int32) (q : Int32) (h : f_X9_drawn σ x1 x2 x3 = some q) : Met l yX9_drawn (Cond.code yX9_drawn cX9_drawn 15 (some .int) :: lw_tb) (gR 4 131) (gPc shX t ad D z [.ref (ad 0), .int x1, .int x2, .int x3] σ) (gQi shX t ad D q σ) 0 0 (gA shX ad) := by
  refine gMet "NineKeysRound" rfl (by decide) hJ (Nat.le_of_ble_eq_true rfl) ?_
  intro p e s m below meth c ls C hr hI hl
  have hx := C.1
  have hb := C.2.1
  have hl : lv_has ls 15 [(0, .ref (ad 0)), (1, .int x1), (2, .int x2), (3, .int x3)] := hl
  unfold f_X9_drawn at h
  refine lv_iload_n hx hb dX9_drawn_0 rfl (lv_at hl 2 rfl) ?_
  refine lv_bipush hx hb dX9_drawn_1 cb_10 ?_
  refine h_idiv C dX9_drawn_3 h (fun h => ?_)
  refine gx_topi h (fun v1 h => ?_)
  refine lv_istore (lv' := [(4, .int v1), (0, .ref (ad 0)), (1, .int x1), (2, .int x2), (3, .int x3)]) hx hb dX9_drawn_4 hl (by decide) rfl (fun ls hl => ?_)
  refine lv_iload_n hx hb dX9_drawn_6 rfl (lv_at hl 3 rfl) ?_
  refine lv_bipush hx hb dX9_drawn_7 cb_10 ?_
  refine h_irem C dX9_drawn_9 h (fun h => ?_)
  refine gx_topi h (fun v2 h => ?_)
  refine lv_istore (lv' := [(5, .int v2), (4, .int v1), (0, .ref (ad 0)), (1, .int x1), (2, .int x2), (3, .int x3)]) hx hb dX9_drawn_10 hl (by decide) rfl (fun ls hl => ?_)
  refine lv_iload_n hx hb dX9_drawn_12 rfl (lv_at hl 4 rfl) ?_
  refine hif_lt (tgt := 42) C dX9_drawn_13 (by decide) h (fun h => ?_) (fun h => ?_)
  · refine lv_iconst hx hb dX9_drawn_42 ci_m1 ?_
    exact h_iret_o C hr hI h dX9_drawn_43
  · refine lv_iload hx hb dX9_drawn_16 (lv_at hl 1 rfl) ?_
    refine lv_iconst hx hb dX9_drawn_18 ci_1 ?_
    refine hicmp_lt (tgt := 42) C dX9_drawn_19 (by decide) h (fun h => ?_) (fun h => ?_)
    · refine lv_iconst hx hb dX9_drawn_42 ci_m1 ?_
      exact h_iret_o C hr hI h dX9_drawn_43
    · refine lv_iload hx hb dX9_drawn_22 (lv_at hl 1 rfl) ?_
      refine lv_bipush hx hb dX9_drawn_24 cb_30 ?_
      refine hicmp_gt (tgt := 42) C dX9_drawn_26 (by decide) h (fun h => ?_) (fun h => ?_)
      · refine lv_iconst hx hb dX9_drawn_42 ci_m1 ?_
        exact h_iret_o C hr hI h dX9_drawn_43
      · refine lv_iload hx hb dX9_drawn_29 (lv_at hl 0 rfl) ?_
        refine lv_iconst hx hb dX9_drawn_31 ci_1 ?_
        refine hicmp_lt (tgt := 42) C dX9_drawn_32 (by decide) h (fun h => ?_) (fun h => ?_)
        · refine lv_iconst hx hb dX9_drawn_42 ci_m1 ?_
          exact h_iret_o C hr hI h dX9_drawn_43
        · refine lv_iload_n hx hb dX9_drawn_35 rfl (lv_at hl 5 rfl) ?_
          refine h_callsi_o (rest := []) C hI hl.1 ys_X9_isEither k_518 h (fun q hq => c_X9_isEither l D t ad z C.2.2.2.2.2.2.1 (σ) x3 q hq) (As := [.int x3]) rfl rfl ⟨Nat.le_of_ble_eq_true rfl, Nat.le_of_ble_eq_true rfl⟩ (Nat.le_of_ble_eq_true rfl) dX9_drawn_36 (fun q3 H locs h hI => ?_)
          refine hif_ne (tgt := 44) C dX9_drawn_39 (by decide) h (fun h => ?_) (fun h => ?_)
          · refine lv_aload_n hx hb dX9_drawn_44 rfl (lv_at hl 2 rfl) ?_
            refine fr_261 C hI shX_0 rfl dX9_drawn_45 ?_
            refine fg_37 C hI shX_1 rfl dX9_drawn_48 ?_
            refine hif_ne (tgt := 56) C dX9_drawn_51 (by decide) h (fun h => ?_) (fun h => ?_)
            · refine lv_iload_n hx hb dX9_drawn_56 rfl (lv_at hl 3 rfl) ?_
              refine lv_istore (lv' := [(6, .int x1), (5, .int v2), (4, .int v1), (0, .ref (ad 0)), (1, .int x1), (2, .int x2), (3, .int x3)]) hx hb dX9_drawn_57 hl (by decide) rfl (fun ls hl => ?_)
              refine lv_iconst hx hb dX9_drawn_59 ci_0 ?_
              refine lv_istore (lv' := [(7, .int 0), (6, .int x1), (5, .int v2), (4, .int v1), (0, .ref (ad 0)), (1, .int x1), (2, .int x2), (3, .int x3)]) hx hb dX9_drawn_60 hl (by decide) rfl (fun ls hl => ?_)
              refine lv_iconst hx hb dX9_drawn_62 ci_0 ?_
              refine lv_istore (lv' := [(8, .int 0), (7, .int 0), (6, .int x1), (5, .int v2), (4, .int v1), (0, .ref (ad 0)), (1, .int x1), (2, .int x2), (3, .int x3)]) hx hb dX9_drawn_63 hl (by decide) rfl (fun ls hl => ?_)
              refine lv_iconst hx hb dX9_drawn_65 ci_0 ?_
              refine lv_istore (lv' := [(9, .int 0), (8, .int 0), (7, .int 0), (6, .int x1), (5, .int v2), (4, .int v1), (0, .ref (ad 0)), (1, .int x1), (2, .int x2), (3, .int x3)]) hx hb dX9_drawn_66 hl (by decide) rfl (fun ls hl => ?_)
              exact w_X9_drawn_68 C hr    _ _ _ _ _ _ _ _ _ _ _  h hI (lv_sub hl [6, 9, 5, 4, 3, 2, 1, 0] rfl)
            · refine lv_iconst hx hb dX9_drawn_54 ci_0 ?_
              exact h_iret_o C hr hI h dX9_drawn_55
          · refine lv_iconst hx hb dX9_drawn_42 ci_m1 ?_
            exact h_iret_o C hr hI h dX9_drawn_43
set_option maxRecDepth 100000 in
set_option maxHeartbeats 4000000 in
theorem c_X9_walk (l : Launch) (D : va_G) (t : gT) (ad z : Nat → Nat) (hJ : gJ shX ad) (σ : gS) (x1 : Int32) (q : Int32 × gS) (h : f_X9_walk σ x1 = some q) : Met l yX9_walk (Cond.code yX9_walk cX9_walk 2 (some .int) :: lw_tb) (gR 3 105) (gPc shX t ad D z [.ref (ad 0), .int x1] σ) (gQi shX t ad D q.1 q.2) 0 0 (gA shX ad) := by
  refine gMet "NineKeysRound" rfl (by decide) hJ (Nat.le_of_ble_eq_true rfl) ?_
  intro p e s m below meth c ls C hr hI hl
  have hx := C.1
  have hb := C.2.1
  have hl : lv_has ls 2 [(0, .ref (ad 0)), (1, .int x1)] := hl
  unfold f_X9_walk at h
  refine lv_aload_n hx hb dX9_walk_0 rfl (lv_at hl 0 rfl) ?_
  refine fr_261 C hI shX_0 rfl dX9_walk_1 ?_
  refine lv_iload_n hx hb dX9_walk_4 rfl (lv_at hl 1 rfl) ?_
  refine h_callvi_o (rest := []) C hI hl.1 shX_1 rfl yv_X8_isPost k_370 h (fun q hq => c_X8_isPost l D t ad z C.2.2.2.2.2.2.1 (σ) x1 q hq) (As := [.int x1]) rfl rfl ⟨Nat.le_of_ble_eq_true rfl, Nat.le_of_ble_eq_true rfl⟩ (Nat.le_of_ble_eq_true rfl) dX9_walk_5 (fun q1 H locs h hI => ?_)
  refine hif_ne (tgt := 13) C dX9_walk_8 (by decide) h (fun h => ?_) (fun h => ?_)
  · refine lv_aload_n hx hb dX9_walk_13 rfl (lv_at hl 0 rfl) ?_
    refine fr_269 C hI shX_0 rfl dX9_walk_14 ?_
    refine lv_iload_n hx hb dX9_walk_17 rfl (lv_at hl 1 rfl) ?_
    refine lv_aload_n hx hb dX9_walk_18 rfl (lv_at hl 0 rfl) ?_
    refine fr_261 C hI shX_0 rfl dX9_walk_19 ?_
    refine lv_aload_n hx hb dX9_walk_22 rfl (lv_at hl 0 rfl) ?_
    refine fr_269 C hI shX_0 rfl dX9_walk_23 ?_
    refine fg_182 C hI shX_37 rfl dX9_walk_26 ?_
    refine lv_iload_n hx hb dX9_walk_29 rfl (lv_at hl 1 rfl) ?_
    refine h_callvi_o (rest := [.int x1, .ref (ad 37)]) C hI hl.1 shX_1 rfl yv_X8_way k_833 h (fun q hq => c_X8_way l D t ad z C.2.2.2.2.2.2.1 (σ) (σ.1 37 1) x1 q hq) (As := [.int (σ.1 37 1), .int x1]) rfl rfl ⟨Nat.le_of_ble_eq_true rfl, Nat.le_of_ble_eq_true rfl⟩ (Nat.le_of_ble_eq_true rfl) dX9_walk_30 (fun q2 H locs h hI => ?_)
    refine lv_aload_n hx hb dX9_walk_33 rfl (lv_at hl 0 rfl) ?_
    refine fr_261 C hI shX_0 rfl dX9_walk_34 ?_
    refine h_callvi_o (rest := [.int q2, .int x1, .ref (ad 37)]) C hI hl.1 shX_1 rfl yv_X8_stand k_834 h (fun q hq => c_X8_stand l D t ad z C.2.2.2.2.2.2.1 (σ) q hq) (As := []) rfl rfl ⟨Nat.le_of_ble_eq_true rfl, Nat.le_of_ble_eq_true rfl⟩ (Nat.le_of_ble_eq_true rfl) dX9_walk_37 (fun q3 H locs h hI => ?_)
    refine h_callvi_w (rest := []) C hI hl.1 shX_37 rfl yv_X2_walkTo k_894 h (fun q hq => c_X2_walkTo l D t ad z C.2.2.2.2.2.2.1 37 shX_37 shX_38 (σ) x1 q2 q3 q hq) (As := [.int x1, .int q2, .int q3]) rfl rfl ⟨Nat.le_of_ble_eq_true rfl, Nat.le_of_ble_eq_true rfl⟩ (Nat.le_of_ble_eq_true rfl) dX9_walk_40 (fun q4 H locs h hI => ?_)
    refine hif_eq (tgt := 56) C dX9_walk_43 (by decide) h (fun h => ?_) (fun h => ?_)
    · refine lv_bipush hx hb dX9_walk_56 cb_m5 ?_
      exact h_iret_w C hr hI h dX9_walk_58
    · refine lv_aload_n hx hb dX9_walk_46 rfl (lv_at hl 0 rfl) ?_
      refine fr_269 C hI shX_0 rfl dX9_walk_47 ?_
      refine fg_184 C hI shX_37 rfl dX9_walk_50 ?_
      refine lv_goto (tgt := 58) hx hb dX9_walk_53 (by decide) ?_
      exact h_iret_w C hr hI h dX9_walk_58
  · refine lv_iconst hx hb dX9_walk_11 ci_m1 ?_
    exact h_iret_w C hr hI h dX9_walk_12
set_option maxRecDepth 100000 in
set_option maxHeartbeats 4000000 in
theorem c_X9_waits (l : Launch) (D : va_G) (t : gT) (ad z : Nat → Nat) (hJ : gJ shX ad) (σ : gS) (x1 : Int32) (q : Int32 × gS) (h : f_X9_waits σ x1 = some q) : Met l yX9_waits (Cond.code yX9_waits cX9_waits 2 (some .int) :: lw_tb) (gR 2 81) (gPc shX t ad D z [.ref (ad 0), .int x1] σ) (gQi shX t ad D q.1 q.2) 0 0 (gA shX ad) := by
  refine gMet "NineKeysRound" rfl (by decide) hJ (Nat.le_of_ble_eq_true rfl) ?_
  intro p e s m below meth c ls C hr hI hl
  have hx := C.1
  have hb := C.2.1
  have hl : lv_has ls 2 [(0, .ref (ad 0)), (1, .int x1)] := hl
  unfold f_X9_waits at h
  refine lv_iload_n hx hb dX9_waits_0 rfl (lv_at hl 1 rfl) ?_
  refine lv_iconst hx hb dX9_waits_1 ci_1 ?_
  refine hicmp_lt (tgt := 12) C dX9_waits_2 (by decide) h (fun h => ?_) (fun h => ?_)
  · refine lv_iconst hx hb dX9_waits_12 ci_m1 ?_
    exact h_iret_w C hr hI h dX9_waits_13
  · refine lv_iload_n hx hb dX9_waits_5 rfl (lv_at hl 1 rfl) ?_
    refine lv_sipush hx hb dX9_waits_6 cs_999 ?_
    refine hicmp_le (tgt := 14) C dX9_waits_9 (by decide) h (fun h => ?_) (fun h => ?_)
    · refine lv_aload_n hx hb dX9_waits_14 rfl (lv_at hl 0 rfl) ?_
      refine fr_269 C hI shX_0 rfl dX9_waits_15 ?_
      refine lv_iload_n hx hb dX9_waits_18 rfl (lv_at hl 1 rfl) ?_
      refine h_callvi_w (rest := []) C hI hl.1 shX_37 rfl yv_X2_waitFor k_902 h (fun q hq => c_X2_waitFor l D t ad z C.2.2.2.2.2.2.1 37 shX_37 shX_38 (σ) x1 q hq) (As := [.int x1]) rfl rfl ⟨Nat.le_of_ble_eq_true rfl, Nat.le_of_ble_eq_true rfl⟩ (Nat.le_of_ble_eq_true rfl) dX9_waits_19 (fun q1 H locs h hI => ?_)
      refine hif_eq (tgt := 35) C dX9_waits_22 (by decide) h (fun h => ?_) (fun h => ?_)
      · refine lv_bipush hx hb dX9_waits_35 cb_m5 ?_
        exact h_iret_w C hr hI h dX9_waits_37
      · refine lv_aload_n hx hb dX9_waits_25 rfl (lv_at hl 0 rfl) ?_
        refine fr_269 C hI shX_0 rfl dX9_waits_26 ?_
        refine fg_184 C hI shX_37 rfl dX9_waits_29 ?_
        refine lv_goto (tgt := 37) hx hb dX9_waits_32 (by decide) ?_
        exact h_iret_w C hr hI h dX9_waits_37
    · refine lv_iconst hx hb dX9_waits_12 ci_m1 ?_
      exact h_iret_w C hr hI h dX9_waits_13
set_option maxRecDepth 100000 in
set_option maxHeartbeats 4000000 in
theorem c_X9_home (l : Launch) (D : va_G) (t : gT) (ad z : Nat → Nat) (hJ : gJ shX ad) (σ : gS) (q : Int32 × gS) (h : f_X9_home σ = some q) : Met l yX9_home (Cond.code yX9_home cX9_home 1 (some .int) :: lw_tb) (gR 3 105) (gPc shX t ad D z [.ref (ad 0)] σ) (gQi shX t ad D q.1 q.2) 0 0 (gA shX ad) := by
  refine gMet "NineKeysRound" rfl (by decide) hJ (Nat.le_of_ble_eq_true rfl) ?_
  intro p e s m below meth c ls C hr hI hl
  have hx := C.1
  have hb := C.2.1
  have hl : lv_has ls 1 [(0, .ref (ad 0))] := hl
  unfold f_X9_home at h
  refine lv_aload_n hx hb dX9_home_0 rfl (lv_at hl 0 rfl) ?_
  refine fr_269 C hI shX_0 rfl dX9_home_1 ?_
  refine lv_aload_n hx hb dX9_home_4 rfl (lv_at hl 0 rfl) ?_
  refine fr_261 C hI shX_0 rfl dX9_home_5 ?_
  refine lv_aload_n hx hb dX9_home_8 rfl (lv_at hl 0 rfl) ?_
  refine fr_269 C hI shX_0 rfl dX9_home_9 ?_
  refine fg_182 C hI shX_37 rfl dX9_home_12 ?_
  refine lv_bipush hx hb dX9_home_15 cb_9 ?_
  refine h_callvi_o (rest := [.ref (ad 37)]) C hI hl.1 shX_1 rfl yv_X8_way k_833 h (fun q hq => c_X8_way l D t ad z C.2.2.2.2.2.2.1 (σ) (σ.1 37 1) 9 q hq) (As := [.int (σ.1 37 1), .int 9]) rfl rfl ⟨Nat.le_of_ble_eq_true rfl, Nat.le_of_ble_eq_true rfl⟩ (Nat.le_of_ble_eq_true rfl) dX9_home_17 (fun q1 H locs h hI => ?_)
  refine h_callvi_w (rest := []) C hI hl.1 shX_37 rfl yv_X2_goHome k_910 h (fun q hq => c_X2_goHome l D t ad z C.2.2.2.2.2.2.1 37 shX_37 shX_38 (σ) q1 q hq) (As := [.int q1]) rfl rfl ⟨Nat.le_of_ble_eq_true rfl, Nat.le_of_ble_eq_true rfl⟩ (Nat.le_of_ble_eq_true rfl) dX9_home_20 (fun q2 H locs h hI => ?_)
  refine hif_eq (tgt := 36) C dX9_home_23 (by decide) h (fun h => ?_) (fun h => ?_)
  · refine lv_bipush hx hb dX9_home_36 cb_m5 ?_
    exact h_iret_w C hr hI h dX9_home_38
  · refine lv_aload_n hx hb dX9_home_26 rfl (lv_at hl 0 rfl) ?_
    refine fr_269 C hI shX_0 rfl dX9_home_27 ?_
    refine fg_184 C hI shX_37 rfl dX9_home_30 ?_
    refine lv_goto (tgt := 38) hx hb dX9_home_33 (by decide) ?_
    exact h_iret_w C hr hI h dX9_home_38
set_option maxRecDepth 100000 in
set_option maxHeartbeats 4000000 in
theorem c_X9_led (l : Launch) (D : va_G) (t : gT) (ad z : Nat → Nat) (hJ : gJ shX ad) (σ : gS) (x1 : Int32) (q : Int32) (h : f_X9_led σ x1 = some q) : Met l yX9_led (Cond.code yX9_led cX9_led 2 (some .int) :: lw_tb) (gR 1 60) (gPc shX t ad D z [.ref (ad 0), .int x1] σ) (gQi shX t ad D q σ) 0 0 (gA shX ad) := by
  refine gMet "NineKeysRound" rfl (by decide) hJ (Nat.le_of_ble_eq_true rfl) ?_
  intro p e s m below meth c ls C hr hI hl
  have hx := C.1
  have hb := C.2.1
  have hl : lv_has ls 2 [(0, .ref (ad 0)), (1, .int x1)] := hl
  unfold f_X9_led at h
  refine lv_iload_n hx hb dX9_led_0 rfl (lv_at hl 1 rfl) ?_
  by_cases hc_ : x1 = 0
  · rw [if_pos hc_] at h
    refine lv_tableIn (tgt := 36) (off := 35) hx hb dX9_led_1 (by rw [hc_]; decide) (by rw [hc_]; decide) (by rw [hc_]; rfl) (by decide) ?_
    refine lv_aload_n hx hb dX9_led_36 rfl (lv_at hl 0 rfl) ?_
    refine fr_269 C hI shX_0 rfl dX9_led_37 ?_
    refine fg_186 C hI shX_37 rfl dX9_led_40 ?_
    exact h_iret_o C hr hI h dX9_led_43
  · rw [if_neg hc_] at h
    have hn_0 := hc_
    by_cases hc_ : x1 = 1
    · rw [if_pos hc_] at h
      refine lv_tableIn (tgt := 44) (off := 43) hx hb dX9_led_1 (by rw [hc_]; decide) (by rw [hc_]; decide) (by rw [hc_]; rfl) (by decide) ?_
      refine lv_aload_n hx hb dX9_led_44 rfl (lv_at hl 0 rfl) ?_
      refine fr_269 C hI shX_0 rfl dX9_led_45 ?_
      refine fg_188 C hI shX_37 rfl dX9_led_48 ?_
      exact h_iret_o C hr hI h dX9_led_51
    · rw [if_neg hc_] at h
      have hn_1 := hc_
      by_cases hc_ : x1 = 2
      · rw [if_pos hc_] at h
        refine lv_tableIn (tgt := 52) (off := 51) hx hb dX9_led_1 (by rw [hc_]; decide) (by rw [hc_]; decide) (by rw [hc_]; rfl) (by decide) ?_
        refine lv_aload_n hx hb dX9_led_52 rfl (lv_at hl 0 rfl) ?_
        refine fr_269 C hI shX_0 rfl dX9_led_53 ?_
        refine fg_190 C hI shX_37 rfl dX9_led_56 ?_
        exact h_iret_o C hr hI h dX9_led_59
      · rw [if_neg hc_] at h
        have hn_2 := hc_
        by_cases hc_ : x1 = 3
        · rw [if_pos hc_] at h
          refine lv_tableIn (tgt := 60) (off := 59) hx hb dX9_led_1 (by rw [hc_]; decide) (by rw [hc_]; decide) (by rw [hc_]; rfl) (by decide) ?_
          refine lv_aload_n hx hb dX9_led_60 rfl (lv_at hl 0 rfl) ?_
          refine fr_269 C hI shX_0 rfl dX9_led_61 ?_
          refine fg_192 C hI shX_37 rfl dX9_led_64 ?_
          exact h_iret_o C hr hI h dX9_led_67
        · rw [if_neg hc_] at h
          have hn_3 := hc_
          by_cases hc_ : x1 = 4
          · rw [if_pos hc_] at h
            refine lv_tableIn (tgt := 68) (off := 67) hx hb dX9_led_1 (by rw [hc_]; decide) (by rw [hc_]; decide) (by rw [hc_]; rfl) (by decide) ?_
            refine lv_aload_n hx hb dX9_led_68 rfl (lv_at hl 0 rfl) ?_
            refine fr_269 C hI shX_0 rfl dX9_led_69 ?_
            refine fg_184 C hI shX_37 rfl dX9_led_72 ?_
            exact h_iret_o C hr hI h dX9_led_75
          · rw [if_neg hc_] at h
            have hn_4 := hc_
            have hout : x1.toInt < 0 ∨ 4 < x1.toInt := by
              have e0 := tsne (c := 0) (z := 0) (by decide) hn_0
              have e1 := tsne (c := 1) (z := 1) (by decide) hn_1
              have e2 := tsne (c := 2) (z := 2) (by decide) hn_2
              have e3 := tsne (c := 3) (z := 3) (by decide) hn_3
              have e4 := tsne (c := 4) (z := 4) (by decide) hn_4
              omega
            refine lv_tableOut (tgt := 76) hx hb dX9_led_1 hout (by decide) ?_
            refine lv_iconst hx hb dX9_led_76 ci_m1 ?_
            exact h_iret_o C hr hI h dX9_led_77
set_option maxRecDepth 100000 in
set_option maxHeartbeats 4000000 in
theorem c_X9_image (l : Launch) (D : va_G) (t : gT) (ad z : Nat → Nat) (hJ : gJ shX ad) (σ : gS) (q : Int32 × gS) (h : f_X9_image σ = some q) : Met l yX9_image (Cond.code yX9_image cX9_image 1 (some .int) :: lw_tb) (gR 2 81) (gPc shX t ad D z [.ref (ad 0)] σ) (gQi shX t ad D q.1 q.2) 0 0 (gA shX ad) := by
  refine gMet "NineKeysRound" rfl (by decide) hJ (Nat.le_of_ble_eq_true rfl) ?_
  intro p e s m below meth c ls C hr hI hl
  have hx := C.1
  have hb := C.2.1
  have hl : lv_has ls 1 [(0, .ref (ad 0))] := hl
  unfold f_X9_image at h
  refine lv_aload_n hx hb dX9_image_0 rfl (lv_at hl 0 rfl) ?_
  refine fr_270 C hI shX_0 rfl dX9_image_1 ?_
  refine lv_aload_n hx hb dX9_image_4 rfl (lv_at hl 0 rfl) ?_
  refine fr_269 C hI shX_0 rfl dX9_image_5 ?_
  refine h_callvv_w (rest := []) C hI hl.1 shX_39 rfl yv_X2_become k_922 h (fun q hq => c_X2_become l D t ad z C.2.2.2.2.2.2.1 39 37 shX_39 shX_40 shX_37 shX_38 (σ) q hq) (As := [.ref (ad 37)]) rfl rfl ⟨Nat.le_of_ble_eq_true rfl, Nat.le_of_ble_eq_true rfl⟩ (Nat.le_of_ble_eq_true rfl) dX9_image_8 (fun q1 H locs h hI => ?_)
  refine lv_aload_n hx hb dX9_image_11 rfl (lv_at hl 0 rfl) ?_
  refine lv_iconst hx hb dX9_image_12 ci_1 ?_
  obtain ⟨hz, h⟩ := gk_some h
  refine fp_275 C hI shX_0 rfl hz dX9_image_13 (fun H locs hI => ?_)
  refine gx_st h hI (fun s2 h hI => ?_)
  refine lv_aload_n hx hb dX9_image_16 rfl (lv_at hl 0 rfl) ?_
  refine fr_269 C hI shX_0 rfl dX9_image_17 ?_
  refine fg_184 C hI shX_37 rfl dX9_image_20 ?_
  exact h_iret_w C hr hI h dX9_image_23
set_option maxRecDepth 100000 in
set_option maxHeartbeats 4000000 in
theorem c_X9_back (l : Launch) (D : va_G) (t : gT) (ad z : Nat → Nat) (hJ : gJ shX ad) (σ : gS) (q : Int32 × gS) (h : f_X9_back σ = some q) : Met l yX9_back (Cond.code yX9_back cX9_back 1 (some .int) :: lw_tb) (gR 2 81) (gPc shX t ad D z [.ref (ad 0)] σ) (gQi shX t ad D q.1 q.2) 0 0 (gA shX ad) := by
  refine gMet "NineKeysRound" rfl (by decide) hJ (Nat.le_of_ble_eq_true rfl) ?_
  intro p e s m below meth c ls C hr hI hl
  have hx := C.1
  have hb := C.2.1
  have hl : lv_has ls 1 [(0, .ref (ad 0))] := hl
  unfold f_X9_back at h
  refine lv_aload_n hx hb dX9_back_0 rfl (lv_at hl 0 rfl) ?_
  refine fg_275 C hI shX_0 rfl dX9_back_1 ?_
  refine hif_ne (tgt := 10) C dX9_back_4 (by decide) h (fun h => ?_) (fun h => ?_)
  · refine lv_aload_n hx hb dX9_back_10 rfl (lv_at hl 0 rfl) ?_
    refine fr_269 C hI shX_0 rfl dX9_back_11 ?_
    refine lv_aload_n hx hb dX9_back_14 rfl (lv_at hl 0 rfl) ?_
    refine fr_270 C hI shX_0 rfl dX9_back_15 ?_
    refine h_callvv_w (rest := []) C hI hl.1 shX_37 rfl yv_X2_become k_922 h (fun q hq => c_X2_become l D t ad z C.2.2.2.2.2.2.1 37 39 shX_37 shX_38 shX_39 shX_40 (σ) q hq) (As := [.ref (ad 39)]) rfl rfl ⟨Nat.le_of_ble_eq_true rfl, Nat.le_of_ble_eq_true rfl⟩ (Nat.le_of_ble_eq_true rfl) dX9_back_18 (fun q1 H locs h hI => ?_)
    refine lv_aload_n hx hb dX9_back_21 rfl (lv_at hl 0 rfl) ?_
    refine fr_269 C hI shX_0 rfl dX9_back_22 ?_
    refine fg_184 C hI shX_37 rfl dX9_back_25 ?_
    exact h_iret_w C hr hI h dX9_back_28
  · refine lv_bipush hx hb dX9_back_7 cb_m5 ?_
    exact h_iret_w C hr hI h dX9_back_9
set_option maxRecDepth 100000 in
set_option maxHeartbeats 4000000 in
theorem c_X9_undo (l : Launch) (D : va_G) (t : gT) (ad z : Nat → Nat) (hJ : gJ shX ad) (σ : gS) (q : Int32 × gS) (h : f_X9_undo σ = some q) : Met l yX9_undo (Cond.code yX9_undo cX9_undo 1 (some .int) :: lw_tb) (gR 3 103) (gPc shX t ad D z [.ref (ad 0)] σ) (gQi shX t ad D q.1 q.2) 0 0 (gA shX ad) := by
  refine gMet "NineKeysRound" rfl (by decide) hJ (Nat.le_of_ble_eq_true rfl) ?_
  intro p e s m below meth c ls C hr hI hl
  have hx := C.1
  have hb := C.2.1
  have hl : lv_has ls 1 [(0, .ref (ad 0))] := hl
  unfold f_X9_undo at h
  refine lv_aload_n hx hb dX9_undo_0 rfl (lv_at hl 0 rfl) ?_
  refine fr_262 C hI shX_0 rfl dX9_undo_1 ?_
  refine lv_aload_n hx hb dX9_undo_4 rfl (lv_at hl 0 rfl) ?_
  refine fr_261 C hI shX_0 rfl dX9_undo_5 ?_
  refine fr_35 C hI shX_1 rfl dX9_undo_8 ?_
  refine h_callvi_w (rest := []) C hI hl.1 shX_3 rfl yv_X0_takeBack k_935 h (fun q hq => c_X0_takeBack l D t ad z C.2.2.2.2.2.2.1 (σ) q hq) (As := [.ref (ad 2)]) rfl rfl ⟨Nat.le_of_ble_eq_true rfl, Nat.le_of_ble_eq_true rfl⟩ (Nat.le_of_ble_eq_true rfl) dX9_undo_11 (fun q1 H locs h hI => ?_)
  refine hif_eq (tgt := 27) C dX9_undo_14 (by decide) h (fun h => ?_) (fun h => ?_)
  · refine lv_bipush hx hb dX9_undo_27 cb_m5 ?_
    exact h_iret_w C hr hI h dX9_undo_29
  · refine lv_aload_n hx hb dX9_undo_17 rfl (lv_at hl 0 rfl) ?_
    refine fr_262 C hI shX_0 rfl dX9_undo_18 ?_
    refine fg_55 C hI shX_3 rfl dX9_undo_21 ?_
    refine lv_goto (tgt := 29) hx hb dX9_undo_24 (by decide) ?_
    exact h_iret_w C hr hI h dX9_undo_29
set_option maxRecDepth 100000 in
set_option maxHeartbeats 4000000 in
theorem c_X9_redo (l : Launch) (D : va_G) (t : gT) (ad z : Nat → Nat) (hJ : gJ shX ad) (σ : gS) (q : Int32 × gS) (h : f_X9_redo σ = some q) : Met l yX9_redo (Cond.code yX9_redo cX9_redo 1 (some .int) :: lw_tb) (gR 3 103) (gPc shX t ad D z [.ref (ad 0)] σ) (gQi shX t ad D q.1 q.2) 0 0 (gA shX ad) := by
  refine gMet "NineKeysRound" rfl (by decide) hJ (Nat.le_of_ble_eq_true rfl) ?_
  intro p e s m below meth c ls C hr hI hl
  have hx := C.1
  have hb := C.2.1
  have hl : lv_has ls 1 [(0, .ref (ad 0))] := hl
  unfold f_X9_redo at h
  refine lv_aload_n hx hb dX9_redo_0 rfl (lv_at hl 0 rfl) ?_
  refine fr_262 C hI shX_0 rfl dX9_redo_1 ?_
  refine lv_aload_n hx hb dX9_redo_4 rfl (lv_at hl 0 rfl) ?_
  refine fr_261 C hI shX_0 rfl dX9_redo_5 ?_
  refine fr_35 C hI shX_1 rfl dX9_redo_8 ?_
  refine h_callvi_w (rest := []) C hI hl.1 shX_3 rfl yv_X0_doAgain k_946 h (fun q hq => c_X0_doAgain l D t ad z C.2.2.2.2.2.2.1 (σ) q hq) (As := [.ref (ad 2)]) rfl rfl ⟨Nat.le_of_ble_eq_true rfl, Nat.le_of_ble_eq_true rfl⟩ (Nat.le_of_ble_eq_true rfl) dX9_redo_11 (fun q1 H locs h hI => ?_)
  refine hif_eq (tgt := 35) C dX9_redo_14 (by decide) h (fun h => ?_) (fun h => ?_)
  · refine lv_bipush hx hb dX9_redo_35 cb_m5 ?_
    exact h_iret_w C hr hI h dX9_redo_37
  · refine lv_aload_n hx hb dX9_redo_17 rfl (lv_at hl 0 rfl) ?_
    refine fr_262 C hI shX_0 rfl dX9_redo_18 ?_
    refine fg_57 C hI shX_3 rfl dX9_redo_21 ?_
    refine lv_aload_n hx hb dX9_redo_24 rfl (lv_at hl 0 rfl) ?_
    refine fr_262 C hI shX_0 rfl dX9_redo_25 ?_
    refine fg_55 C hI shX_3 rfl dX9_redo_28 ?_
    refine lv_isub hx hb dX9_redo_31 ?_
    refine lv_goto (tgt := 37) hx hb dX9_redo_32 (by decide) ?_
    exact h_iret_w C hr hI h dX9_redo_37
set_option maxRecDepth 100000 in
set_option maxHeartbeats 4000000 in
theorem c_X9_body (l : Launch) (D : va_G) (t : gT) (ad z : Nat → Nat) (hJ : gJ shX ad) (σ : gS) (x1 : Int32) (q : Int32 × gS) (h : f_X9_body σ x1 = some q) : Met l yX9_body (Cond.code yX9_body cX9_body 2 (some .int) :: lw_tb) (gR 2 81) (gPc shX t ad D z [.ref (ad 0), .int x1] σ) (gQi shX t ad D q.1 q.2) 0 0 (gA shX ad) := by
  refine gMet "NineKeysRound" rfl (by decide) hJ (Nat.le_of_ble_eq_true rfl) ?_
  intro p e s m below meth c ls C hr hI hl
  have hx := C.1
  have hb := C.2.1
  have hl : lv_has ls 2 [(0, .ref (ad 0)), (1, .int x1)] := hl
  unfold f_X9_body at h
  refine lv_iload_n hx hb dX9_body_0 rfl (lv_at hl 1 rfl) ?_
  refine h_callsi_o (rest := []) C hI hl.1 ys_X3_isKind k_954 h (fun q hq => c_X3_isKind l D t ad z C.2.2.2.2.2.2.1 (σ) x1 q hq) (As := [.int x1]) rfl rfl ⟨Nat.le_of_ble_eq_true rfl, Nat.le_of_ble_eq_true rfl⟩ (Nat.le_of_ble_eq_true rfl) dX9_body_1 (fun q1 H locs h hI => ?_)
  refine hif_ne (tgt := 9) C dX9_body_4 (by decide) h (fun h => ?_) (fun h => ?_)
  · refine lv_aload_n hx hb dX9_body_9 rfl (lv_at hl 0 rfl) ?_
    refine fr_271 C hI shX_0 rfl dX9_body_10 ?_
    refine lv_iload_n hx hb dX9_body_13 rfl (lv_at hl 1 rfl) ?_
    refine h_callvi_w (rest := []) C hI hl.1 shX_41 rfl yv_X3_add k_957 h (fun q hq => c_X3_add l D t ad z C.2.2.2.2.2.2.1 (σ) x1 q hq) (As := [.int x1]) rfl rfl ⟨Nat.le_of_ble_eq_true rfl, Nat.le_of_ble_eq_true rfl⟩ (Nat.le_of_ble_eq_true rfl) dX9_body_14 (fun q2 H locs h hI => ?_)
    exact h_iret_w C hr hI h dX9_body_17
  · refine lv_iconst hx hb dX9_body_7 ci_m1 ?_
    exact h_iret_w C hr hI h dX9_body_8
set_option maxRecDepth 100000 in
set_option maxHeartbeats 4000000 in
theorem c_X9_act (l : Launch) (D : va_G) (t : gT) (ad z : Nat → Nat) (hJ : gJ shX ad) (σ : gS) (x1 : Int32) (x2 : Int32) (x3 : Int32) (q : Int32 × gS) (h : f_X9_act σ x1 x2 x3 = some q) : Met l yX9_act (Cond.code yX9_act cX9_act 4 (some .int) :: lw_tb) (gR 69 1815) (gPc shX t ad D z [.ref (ad 0), .int x1, .int x2, .int x3] σ) (gQi shX t ad D q.1 q.2) 0 0 (gA shX ad) := by
  refine gMet "NineKeysRound" rfl (by decide) hJ (Nat.le_of_ble_eq_true rfl) ?_
  intro p e s m below meth c ls C hr hI hl
  have hx := C.1
  have hb := C.2.1
  have hl : lv_has ls 4 [(0, .ref (ad 0)), (1, .int x1), (2, .int x2), (3, .int x3)] := hl
  unfold f_X9_act at h
  refine lv_aload_n hx hb dX9_act_0 rfl (lv_at hl 0 rfl) ?_
  refine fr_271 C hI shX_0 rfl dX9_act_1 ?_
  refine lv_iload_n hx hb dX9_act_4 rfl (lv_at hl 1 rfl) ?_
  refine lv_iload_n hx hb dX9_act_5 rfl (lv_at hl 2 rfl) ?_
  refine lv_iload_n hx hb dX9_act_6 rfl (lv_at hl 3 rfl) ?_
  refine h_callvi_w (rest := []) C hI hl.1 shX_41 rfl yv_X3_perform k_965 h (fun q hq => c_X3_perform l D t ad z C.2.2.2.2.2.2.1 (σ) x1 x2 x3 q hq) (As := [.int x1, .int x2, .int x3]) rfl rfl ⟨Nat.le_of_ble_eq_true rfl, Nat.le_of_ble_eq_true rfl⟩ (Nat.le_of_ble_eq_true rfl) dX9_act_7 (fun q1 H locs h hI => ?_)
  exact h_iret_w C hr hI h dX9_act_10
set_option maxRecDepth 100000 in
set_option maxHeartbeats 4000000 in
theorem c_X9_trace (l : Launch) (D : va_G) (t : gT) (ad z : Nat → Nat) (hJ : gJ shX ad) (σ : gS) (x1 : Int32) (q : Int32) (h : f_X9_trace σ x1 = some q) : Met l yX9_trace (Cond.code yX9_trace cX9_trace 2 (some .int) :: lw_tb) (gR 2 80) (gPc shX t ad D z [.ref (ad 0), .int x1] σ) (gQi shX t ad D q σ) 0 0 (gA shX ad) := by
  refine gMet "NineKeysRound" rfl (by decide) hJ (Nat.le_of_ble_eq_true rfl) ?_
  intro p e s m below meth c ls C hr hI hl
  have hx := C.1
  have hb := C.2.1
  have hl : lv_has ls 2 [(0, .ref (ad 0)), (1, .int x1)] := hl
  unfold f_X9_trace at h
  refine lv_iload_n hx hb dX9_trace_0 rfl (lv_at hl 1 rfl) ?_
  refine hif_lt (tgt := 15) C dX9_trace_1 (by decide) h (fun h => ?_) (fun h => ?_)
  · refine lv_iconst hx hb dX9_trace_15 ci_m1 ?_
    refine lv_goto (tgt := 28) hx hb dX9_trace_16 (by decide) ?_
    exact h_iret_o C hr hI h dX9_trace_28
  · refine lv_iload_n hx hb dX9_trace_4 rfl (lv_at hl 1 rfl) ?_
    refine lv_aload_n hx hb dX9_trace_5 rfl (lv_at hl 0 rfl) ?_
    refine fr_271 C hI shX_0 rfl dX9_trace_6 ?_
    refine h_callvi_o (rest := [.int x1]) C hI hl.1 shX_41 rfl yv_X3_traced k_994 h (fun q hq => c_X3_traced l D t ad z C.2.2.2.2.2.2.1 (σ) q hq) (As := []) rfl rfl ⟨Nat.le_of_ble_eq_true rfl, Nat.le_of_ble_eq_true rfl⟩ (Nat.le_of_ble_eq_true rfl) dX9_trace_9 (fun q1 H locs h hI => ?_)
    refine hicmp_lt (tgt := 19) C dX9_trace_12 (by decide) h (fun h => ?_) (fun h => ?_)
    · refine lv_aload_n hx hb dX9_trace_19 rfl (lv_at hl 0 rfl) ?_
      refine fr_271 C hI shX_0 rfl dX9_trace_20 ?_
      refine fr_216 C hI shX_41 rfl dX9_trace_23 ?_
      refine lv_iload_n hx hb dX9_trace_26 rfl (lv_at hl 1 rfl) ?_
      refine gx_iald C hI shX_43 h dX9_trace_27 (fun h => ?_)
      exact h_iret_o C hr hI h dX9_trace_28
    · refine lv_iconst hx hb dX9_trace_15 ci_m1 ?_
      refine lv_goto (tgt := 28) hx hb dX9_trace_16 (by decide) ?_
      exact h_iret_o C hr hI h dX9_trace_28
set_option maxRecDepth 100000 in
set_option maxHeartbeats 4000000 in
theorem w_X9_keep_25 {p : Program} {l : Launch} {e : Env} {s : State} {m : MethodId} {args : Array Value} {below : List Frame} {meth : Method} {c : Code} {D : va_G} {t : gT} {ad z : Nat → Nat} (C : gC p s m args meth c cX9_keep 3 "NineKeysRound" D t shX ad z) (hr : meth.sig.returnType = some .int) {r : Int32 × gS} : ∀ (x1 : Int32) (x2 : Int32) (σ : gS) (H : Heap) (locs : List Loc) (ls : Array Slot), f_X9_keep_25 x1 x2 σ = some r → gI shX t ad D s.heap σ H locs → lv_has ls 3 [(0, .ref (ad 0)), (1, .int x1), (2, .int x2)] → W p l e (gR 2 81) s m args below meth c H locs 0 0 (MQ below (gQi shX t ad D r.1 r.2) args s 0 0 (gA shX ad)) (F0 m 25 ls []) := by
  have hx := C.1
  have hb := C.2.1
  intro x1 x2 σ H locs ls  h hI hl
  unfold f_X9_keep_25 at h
  refine lv_aload_n hx hb dX9_keep_25 rfl (lv_at hl 0 rfl) ?_
  refine fr_264 C hI shX_0 rfl dX9_keep_26 ?_
  refine lv_iload_n hx hb dX9_keep_29 rfl (lv_at hl 1 rfl) ?_
  refine gx_aald C hI shX_13 h dX9_keep_30 (fun k1 hm_ _ h => ?_)
  obtain ⟨h_k1, h_k11⟩ := shelf_ok k1 hm_
  refine lv_iload_n hx hb dX9_keep_31 rfl (lv_at hl 2 rfl) ?_
  refine h_callvv_w (rest := []) C hI hl.1 h_k1 rfl yv_X5_holdKey k_1004 h (fun q hq => c_X5_holdKey l D t ad z C.2.2.2.2.2.2.1 k1 h_k1 h_k11 (σ) x2 q hq) (As := [.int x2]) rfl rfl ⟨Nat.le_of_ble_eq_true rfl, Nat.le_of_ble_eq_true rfl⟩ (Nat.le_of_ble_eq_true rfl) dX9_keep_32 (fun q2 H locs h hI => ?_)
  refine lv_iconst hx hb dX9_keep_35 ci_1 ?_
  exact h_iret_w C hr hI h dX9_keep_36
set_option maxRecDepth 100000 in
set_option maxHeartbeats 4000000 in
theorem c_X9_keep (l : Launch) (D : va_G) (t : gT) (ad z : Nat → Nat) (hJ : gJ shX ad) (σ : gS) (x1 : Int32) (x2 : Int32) (q : Int32 × gS) (h : f_X9_keep σ x1 x2 = some q) : Met l yX9_keep (Cond.code yX9_keep cX9_keep 3 (some .int) :: lw_tb) (gR 2 81) (gPc shX t ad D z [.ref (ad 0), .int x1, .int x2] σ) (gQi shX t ad D q.1 q.2) 0 0 (gA shX ad) := by
  refine gMet "NineKeysRound" rfl (by decide) hJ (Nat.le_of_ble_eq_true rfl) ?_
  intro p e s m below meth c ls C hr hI hl
  have hx := C.1
  have hb := C.2.1
  have hl : lv_has ls 3 [(0, .ref (ad 0)), (1, .int x1), (2, .int x2)] := hl
  unfold f_X9_keep at h
  refine lv_iload_n hx hb dX9_keep_0 rfl (lv_at hl 1 rfl) ?_
  refine h_callsi_o (rest := []) C hI hl.1 ys_X9_isShelf k_326 h (fun q hq => c_X9_isShelf l D t ad z C.2.2.2.2.2.2.1 (σ) x1 q hq) (As := [.int x1]) rfl rfl ⟨Nat.le_of_ble_eq_true rfl, Nat.le_of_ble_eq_true rfl⟩ (Nat.le_of_ble_eq_true rfl) dX9_keep_1 (fun q1 H locs h hI => ?_)
  refine hif_eq (tgt := 23) C dX9_keep_4 (by decide) h (fun h => ?_) (fun h => ?_)
  · refine lv_iconst hx hb dX9_keep_23 ci_m1 ?_
    exact h_iret_w C hr hI h dX9_keep_24
  · refine lv_iload_n hx hb dX9_keep_7 rfl (lv_at hl 2 rfl) ?_
    refine lv_iconst hx hb dX9_keep_8 ci_m1 ?_
    refine hicmp_eq (tgt := 25) C dX9_keep_9 (by decide) h (fun h => ?_) (fun h => ?_)
    · exact w_X9_keep_25 C hr    _ _ _ _ _ _  h hI (lv_sub hl [0, 1, 2] rfl)
    · refine lv_aload_n hx hb dX9_keep_12 rfl (lv_at hl 0 rfl) ?_
      refine fr_271 C hI shX_0 rfl dX9_keep_13 ?_
      refine lv_iload_n hx hb dX9_keep_16 rfl (lv_at hl 2 rfl) ?_
      refine h_callvi_o (rest := []) C hI hl.1 shX_41 rfl yv_X3_isKey k_1003 h (fun q hq => c_X3_isKey l D t ad z C.2.2.2.2.2.2.1 (σ) x2 q hq) (As := [.int x2]) rfl rfl ⟨Nat.le_of_ble_eq_true rfl, Nat.le_of_ble_eq_true rfl⟩ (Nat.le_of_ble_eq_true rfl) dX9_keep_17 (fun q2 H locs h hI => ?_)
      refine hif_ne (tgt := 25) C dX9_keep_20 (by decide) h (fun h => ?_) (fun h => ?_)
      · exact w_X9_keep_25 C hr    _ _ _ _ _ _  h hI (lv_sub hl [0, 1, 2] rfl)
      · refine lv_iconst hx hb dX9_keep_23 ci_m1 ?_
        exact h_iret_w C hr hI h dX9_keep_24
set_option maxRecDepth 100000 in
set_option maxHeartbeats 4000000 in
theorem c_X9_row (l : Launch) (D : va_G) (t : gT) (ad z : Nat → Nat) (hJ : gJ shX ad) (σ : gS) (x1 : Int32) (x2 : Int32) (x3 : Int32) (q : Int32 × gS) (h : f_X9_row σ x1 x2 x3 = some q) : Met l yX9_row (Cond.code yX9_row cX9_row 4 (some .int) :: lw_tb) (gR 2 83) (gPc shX t ad D z [.ref (ad 0), .int x1, .int x2, .int x3] σ) (gQi shX t ad D q.1 q.2) 0 0 (gA shX ad) := by
  refine gMet "NineKeysRound" rfl (by decide) hJ (Nat.le_of_ble_eq_true rfl) ?_
  intro p e s m below meth c ls C hr hI hl
  have hx := C.1
  have hb := C.2.1
  have hl : lv_has ls 4 [(0, .ref (ad 0)), (1, .int x1), (2, .int x2), (3, .int x3)] := hl
  unfold f_X9_row at h
  refine lv_iload_n hx hb dX9_row_0 rfl (lv_at hl 1 rfl) ?_
  refine h_callsi_o (rest := []) C hI hl.1 ys_X9_isShelf k_326 h (fun q hq => c_X9_isShelf l D t ad z C.2.2.2.2.2.2.1 (σ) x1 q hq) (As := [.int x1]) rfl rfl ⟨Nat.le_of_ble_eq_true rfl, Nat.le_of_ble_eq_true rfl⟩ (Nat.le_of_ble_eq_true rfl) dX9_row_1 (fun q1 H locs h hI => ?_)
  refine hif_eq (tgt := 22) C dX9_row_4 (by decide) h (fun h => ?_) (fun h => ?_)
  · refine lv_iconst hx hb dX9_row_22 ci_m1 ?_
    exact h_iret_w C hr hI h dX9_row_23
  · refine lv_iload_n hx hb dX9_row_7 rfl (lv_at hl 2 rfl) ?_
    refine hif_lt (tgt := 22) C dX9_row_8 (by decide) h (fun h => ?_) (fun h => ?_)
    · refine lv_iconst hx hb dX9_row_22 ci_m1 ?_
      exact h_iret_w C hr hI h dX9_row_23
    · refine lv_iload_n hx hb dX9_row_11 rfl (lv_at hl 2 rfl) ?_
      refine lv_iconst hx hb dX9_row_12 ci_4 ?_
      refine hicmp_gt (tgt := 22) C dX9_row_13 (by decide) h (fun h => ?_) (fun h => ?_)
      · refine lv_iconst hx hb dX9_row_22 ci_m1 ?_
        exact h_iret_w C hr hI h dX9_row_23
      · refine lv_iload_n hx hb dX9_row_16 rfl (lv_at hl 3 rfl) ?_
        refine lv_bipush hx hb dX9_row_17 cb_60 ?_
        refine hicmp_le (tgt := 24) C dX9_row_19 (by decide) h (fun h => ?_) (fun h => ?_)
        · refine lv_iload_n hx hb dX9_row_24 rfl (lv_at hl 3 rfl) ?_
          refine hif_ge (tgt := 31) C dX9_row_25 (by decide) h (fun h => ?_) (fun h => ?_)
          · refine lv_aload_n hx hb dX9_row_31 rfl (lv_at hl 0 rfl) ?_
            refine fr_264 C hI shX_0 rfl dX9_row_32 ?_
            refine lv_iload_n hx hb dX9_row_35 rfl (lv_at hl 1 rfl) ?_
            refine gx_aald C hI shX_13 h dX9_row_36 (fun k2 hm_ _ h => ?_)
            obtain ⟨h_k2, h_k21⟩ := shelf_ok k2 hm_
            refine lv_iload_n hx hb dX9_row_37 rfl (lv_at hl 2 rfl) ?_
            refine lv_iload_n hx hb dX9_row_38 rfl (lv_at hl 3 rfl) ?_
            refine h_callvv_w (rest := []) C hI hl.1 h_k2 rfl yv_X5_holdRow k_1012 h (fun q hq => c_X5_holdRow l D t ad z C.2.2.2.2.2.2.1 k2 h_k2 h_k21 (σ) x2 x3 q hq) (As := [.int x2, .int x3]) rfl rfl ⟨Nat.le_of_ble_eq_true rfl, Nat.le_of_ble_eq_true rfl⟩ (Nat.le_of_ble_eq_true rfl) dX9_row_39 (fun q3 H locs h hI => ?_)
            refine lv_iconst hx hb dX9_row_42 ci_1 ?_
            exact h_iret_w C hr hI h dX9_row_43
          · refine lv_bipush hx hb dX9_row_28 cb_m14 ?_
            exact h_iret_w C hr hI h dX9_row_30
        · refine lv_iconst hx hb dX9_row_22 ci_m1 ?_
          exact h_iret_w C hr hI h dX9_row_23
set_option maxRecDepth 100000 in
set_option maxHeartbeats 4000000 in
theorem c_X9_put (l : Launch) (D : va_G) (t : gT) (ad z : Nat → Nat) (hJ : gJ shX ad) (σ : gS) (x1 : Int32) (x2 : Int32) (x3 : Int64) (q : Int32 × gS) (h : f_X9_put σ x1 x2 x3 = some q) : Met l yX9_put (Cond.code yX9_put cX9_put 6 (some .int) :: lw_tb) (gR 3 103) (gPc shX t ad D z [.ref (ad 0), .int x1, .int x2, .long x3] σ) (gQi shX t ad D q.1 q.2) 0 0 (gA shX ad) := by
  refine gMet "NineKeysRound" rfl (by decide) hJ (Nat.le_of_ble_eq_true rfl) ?_
  intro p e s m below meth c ls C hr hI hl
  have hx := C.1
  have hb := C.2.1
  have hl : lv_has ls 6 [(0, .ref (ad 0)), (1, .int x1), (2, .int x2), (3, .long x3)] := hl
  unfold f_X9_put at h
  refine lv_iload_n hx hb dX9_put_0 rfl (lv_at hl 1 rfl) ?_
  refine h_callsi_o (rest := []) C hI hl.1 ys_X9_isShelf k_326 h (fun q hq => c_X9_isShelf l D t ad z C.2.2.2.2.2.2.1 (σ) x1 q hq) (As := [.int x1]) rfl rfl ⟨Nat.le_of_ble_eq_true rfl, Nat.le_of_ble_eq_true rfl⟩ (Nat.le_of_ble_eq_true rfl) dX9_put_1 (fun q1 H locs h hI => ?_)
  refine hif_ne (tgt := 9) C dX9_put_4 (by decide) h (fun h => ?_) (fun h => ?_)
  · refine lv_aload_n hx hb dX9_put_9 rfl (lv_at hl 0 rfl) ?_
    refine fr_264 C hI shX_0 rfl dX9_put_10 ?_
    refine lv_iload_n hx hb dX9_put_13 rfl (lv_at hl 1 rfl) ?_
    refine gx_aald C hI shX_13 h dX9_put_14 (fun k2 hm_ _ h => ?_)
    obtain ⟨h_k2, h_k21⟩ := shelf_ok k2 hm_
    refine lv_iload_n hx hb dX9_put_15 rfl (lv_at hl 2 rfl) ?_
    refine h_callvi_o (rest := []) C hI hl.1 h_k2 rfl yv_X5_refusalForPlace k_1020 h (fun q hq => c_X5_refusalForPlace l D t ad z C.2.2.2.2.2.2.1 k2 h_k2 h_k21 (σ) x2 q hq) (As := [.int x2]) rfl rfl ⟨Nat.le_of_ble_eq_true rfl, Nat.le_of_ble_eq_true rfl⟩ (Nat.le_of_ble_eq_true rfl) dX9_put_16 (fun q3 H locs h hI => ?_)
    refine lv_istore (lv' := [(5, .int q3), (0, .ref (ad 0)), (1, .int x1), (2, .int x2), (3, .long x3)]) hx hb dX9_put_19 hl (by decide) rfl (fun ls hl => ?_)
    refine lv_iload hx hb dX9_put_21 (lv_at hl 0 rfl) ?_
    refine hif_ge (tgt := 29) C dX9_put_23 (by decide) h (fun h => ?_) (fun h => ?_)
    · refine lv_aload_n hx hb dX9_put_29 rfl (lv_at hl 1 rfl) ?_
      refine fr_264 C hI shX_0 rfl dX9_put_30 ?_
      refine lv_iload_n hx hb dX9_put_33 rfl (lv_at hl 2 rfl) ?_
      refine gx_aald C hI shX_13 h dX9_put_34 (fun k4 hm_ _ h => ?_)
      obtain ⟨h_k4, h_k41⟩ := shelf_ok k4 hm_
      refine lv_iload_n hx hb dX9_put_35 rfl (lv_at hl 3 rfl) ?_
      refine lv_lload_n hx hb dX9_put_36 rfl (lv_at hl 4 rfl) ?_
      refine h_callvv_w (rest := []) C hI hl.1 h_k4 rfl yv_X5_setCell k_1028 h (fun q hq => c_X5_setCell l D t ad z C.2.2.2.2.2.2.1 k4 h_k4 h_k41 (σ) x2 x3 q hq) (As := [.int x2, .long x3]) rfl rfl ⟨Nat.le_of_ble_eq_true rfl, Nat.le_of_ble_eq_true rfl⟩ (Nat.le_of_ble_eq_true rfl) dX9_put_37 (fun q5 H locs h hI => ?_)
      refine lv_iconst hx hb dX9_put_40 ci_1 ?_
      exact h_iret_w C hr hI h dX9_put_41
    · refine lv_iload hx hb dX9_put_26 (lv_at hl 0 rfl) ?_
      exact h_iret_w C hr hI h dX9_put_28
  · refine lv_iconst hx hb dX9_put_7 ci_m1 ?_
    exact h_iret_w C hr hI h dX9_put_8
set_option maxRecDepth 100000 in
set_option maxHeartbeats 4000000 in
theorem c_X9_element (l : Launch) (D : va_G) (t : gT) (ad z : Nat → Nat) (hJ : gJ shX ad) (σ : gS) (x1 : Int32) (x2 : Int32) (q : Int64) (h : f_X9_element σ x1 x2 = some q) : Met l yX9_element (Cond.code yX9_element cX9_element 3 (some .long) :: lw_tb) (gR 3 103) (gPc shX t ad D z [.ref (ad 0), .int x1, .int x2] σ) (gQl shX t ad D q σ) 0 0 (gA shX ad) := by
  refine gMet "NineKeysRound" rfl (by decide) hJ (Nat.le_of_ble_eq_true rfl) ?_
  intro p e s m below meth c ls C hr hI hl
  have hx := C.1
  have hb := C.2.1
  have hl : lv_has ls 3 [(0, .ref (ad 0)), (1, .int x1), (2, .int x2)] := hl
  unfold f_X9_element at h
  refine lv_iload_n hx hb dX9_element_0 rfl (lv_at hl 1 rfl) ?_
  refine h_callsi_o (rest := []) C hI hl.1 ys_X9_isShelf k_326 h (fun q hq => c_X9_isShelf l D t ad z C.2.2.2.2.2.2.1 (σ) x1 q hq) (As := [.int x1]) rfl rfl ⟨Nat.le_of_ble_eq_true rfl, Nat.le_of_ble_eq_true rfl⟩ (Nat.le_of_ble_eq_true rfl) dX9_element_1 (fun q1 H locs h hI => ?_)
  refine hif_eq (tgt := 20) C dX9_element_4 (by decide) h (fun h => ?_) (fun h => ?_)
  · refine lv_ldc2 hx hb C.2.2.2.1 (C.2.2.2.2.1 _ k_1036) dX9_element_20 ?_
    exact h_lret_o C hr hI h dX9_element_23
  · refine lv_aload_n hx hb dX9_element_7 rfl (lv_at hl 0 rfl) ?_
    refine fr_264 C hI shX_0 rfl dX9_element_8 ?_
    refine lv_iload_n hx hb dX9_element_11 rfl (lv_at hl 1 rfl) ?_
    refine gx_aald C hI shX_13 h dX9_element_12 (fun k2 hm_ _ h => ?_)
    obtain ⟨h_k2, h_k21⟩ := shelf_ok k2 hm_
    refine lv_iload_n hx hb dX9_element_13 rfl (lv_at hl 2 rfl) ?_
    refine h_callvi_o (rest := []) C hI hl.1 h_k2 rfl yv_X5_refusalForPlace k_1020 h (fun q hq => c_X5_refusalForPlace l D t ad z C.2.2.2.2.2.2.1 k2 h_k2 h_k21 (σ) x2 q hq) (As := [.int x2]) rfl rfl ⟨Nat.le_of_ble_eq_true rfl, Nat.le_of_ble_eq_true rfl⟩ (Nat.le_of_ble_eq_true rfl) dX9_element_14 (fun q3 H locs h hI => ?_)
    refine hif_ge (tgt := 24) C dX9_element_17 (by decide) h (fun h => ?_) (fun h => ?_)
    · refine lv_aload_n hx hb dX9_element_24 rfl (lv_at hl 0 rfl) ?_
      refine fr_264 C hI shX_0 rfl dX9_element_25 ?_
      refine lv_iload_n hx hb dX9_element_28 rfl (lv_at hl 1 rfl) ?_
      refine gx_aald C hI shX_13 h dX9_element_29 (fun k4 hm_ _ h => ?_)
      obtain ⟨h_k4, h_k41⟩ := shelf_ok k4 hm_
      refine lv_iload_n hx hb dX9_element_30 rfl (lv_at hl 2 rfl) ?_
      refine h_callvl_o (rest := []) C hI hl.1 h_k4 rfl yv_X5_cellAt k_339 h (fun q hq => c_X5_cellAt l D t ad z C.2.2.2.2.2.2.1 k4 h_k4 h_k41 (σ) x2 q hq) (As := [.int x2]) rfl rfl ⟨Nat.le_of_ble_eq_true rfl, Nat.le_of_ble_eq_true rfl⟩ (Nat.le_of_ble_eq_true rfl) dX9_element_31 (fun q5 H locs h hI => ?_)
      exact h_lret_o C hr hI h dX9_element_34
    · refine lv_ldc2 hx hb C.2.2.2.1 (C.2.2.2.2.1 _ k_1036) dX9_element_20 ?_
      exact h_lret_o C hr hI h dX9_element_23
set_option maxRecDepth 100000 in
set_option maxHeartbeats 4000000 in
theorem c_X9_shift (l : Launch) (D : va_G) (t : gT) (ad z : Nat → Nat) (hJ : gJ shX ad) (σ : gS) (x1 : Int32) (x2 : Int32) (x3 : Int32) (x4 : Int32) (x5 : Int32) (q : Int32 × gS) (h : f_X9_shift σ x1 x2 x3 x4 x5 = some q) : Met l yX9_shift (Cond.code yX9_shift cX9_shift 8 (some .int) :: lw_tb) (gR 2 82) (gPc shX t ad D z [.ref (ad 0), .int x1, .int x2, .int x3, .int x4, .int x5] σ) (gQi shX t ad D q.1 q.2) 0 0 (gA shX ad) := by
  refine gMet "NineKeysRound" rfl (by decide) hJ (Nat.le_of_ble_eq_true rfl) ?_
  intro p e s m below meth c ls C hr hI hl
  have hx := C.1
  have hb := C.2.1
  have hl : lv_has ls 8 [(0, .ref (ad 0)), (1, .int x1), (2, .int x2), (3, .int x3), (4, .int x4), (5, .int x5)] := hl
  unfold f_X9_shift at h
  refine lv_iload_n hx hb dX9_shift_0 rfl (lv_at hl 1 rfl) ?_
  refine h_callsi_o (rest := []) C hI hl.1 ys_X9_isShelf k_326 h (fun q hq => c_X9_isShelf l D t ad z C.2.2.2.2.2.2.1 (σ) x1 q hq) (As := [.int x1]) rfl rfl ⟨Nat.le_of_ble_eq_true rfl, Nat.le_of_ble_eq_true rfl⟩ (Nat.le_of_ble_eq_true rfl) dX9_shift_1 (fun q1 H locs h hI => ?_)
  refine hif_eq (tgt := 14) C dX9_shift_4 (by decide) h (fun h => ?_) (fun h => ?_)
  · refine lv_iconst hx hb dX9_shift_14 ci_m1 ?_
    exact h_iret_w C hr hI h dX9_shift_15
  · refine lv_iload_n hx hb dX9_shift_7 rfl (lv_at hl 3 rfl) ?_
    refine h_callsi_o (rest := []) C hI hl.1 ys_X9_isShelf k_326 h (fun q hq => c_X9_isShelf l D t ad z C.2.2.2.2.2.2.1 (σ) x3 q hq) (As := [.int x3]) rfl rfl ⟨Nat.le_of_ble_eq_true rfl, Nat.le_of_ble_eq_true rfl⟩ (Nat.le_of_ble_eq_true rfl) dX9_shift_8 (fun q2 H locs h hI => ?_)
    refine hif_ne (tgt := 16) C dX9_shift_11 (by decide) h (fun h => ?_) (fun h => ?_)
    · refine lv_aload_n hx hb dX9_shift_16 rfl (lv_at hl 0 rfl) ?_
      refine fr_264 C hI shX_0 rfl dX9_shift_17 ?_
      refine lv_iload_n hx hb dX9_shift_20 rfl (lv_at hl 1 rfl) ?_
      refine gx_aald C hI shX_13 h dX9_shift_21 (fun k3 hm_ _ h => ?_)
      obtain ⟨h_k3, h_k31⟩ := shelf_ok k3 hm_
      refine lv_astore (lv' := [(6, .ref (ad k3)), (0, .ref (ad 0)), (1, .int x1), (2, .int x2), (3, .int x3), (4, .int x4), (5, .int x5)]) hx hb dX9_shift_22 hl (by decide) rfl (fun ls hl => ?_)
      refine lv_aload_n hx hb dX9_shift_24 rfl (lv_at hl 1 rfl) ?_
      refine fr_264 C hI shX_0 rfl dX9_shift_25 ?_
      refine lv_iload_n hx hb dX9_shift_28 rfl (lv_at hl 4 rfl) ?_
      refine gx_aald C hI shX_13 h dX9_shift_29 (fun k4 hm_ _ h => ?_)
      obtain ⟨h_k4, h_k41⟩ := shelf_ok k4 hm_
      refine lv_astore (lv' := [(7, .ref (ad k4)), (6, .ref (ad k3)), (0, .ref (ad 0)), (1, .int x1), (2, .int x2), (3, .int x3), (4, .int x4), (5, .int x5)]) hx hb dX9_shift_30 hl (by decide) rfl (fun ls hl => ?_)
      refine lv_aload hx hb dX9_shift_32 (lv_at hl 1 rfl) ?_
      refine fg_241 C hI h_k3 rfl dX9_shift_34 ?_
      refine hif_eq (tgt := 48) C dX9_shift_37 (by decide) h (fun h => ?_) (fun h => ?_)
      · refine lv_bipush hx hb dX9_shift_48 cb_m11 ?_
        exact h_iret_w C hr hI h dX9_shift_50
      · refine lv_aload hx hb dX9_shift_40 (lv_at hl 0 rfl) ?_
        refine fg_241 C hI h_k4 rfl dX9_shift_42 ?_
        refine hif_ne (tgt := 51) C dX9_shift_45 (by decide) h (fun h => ?_) (fun h => ?_)
        · refine lv_aload hx hb dX9_shift_51 (lv_at hl 1 rfl) ?_
          refine fg_241 C hI h_k3 rfl dX9_shift_53 ?_
          refine lv_iconst hx hb dX9_shift_56 ci_2 ?_
          refine hicmp_ne (tgt := 82) C dX9_shift_57 (by decide) h (fun h => ?_) (fun h => ?_)
          · refine lv_bipush hx hb dX9_shift_82 cb_m12 ?_
            exact h_iret_w C hr hI h dX9_shift_84
          · refine lv_aload hx hb dX9_shift_60 (lv_at hl 0 rfl) ?_
            refine fg_241 C hI h_k4 rfl dX9_shift_62 ?_
            refine lv_iconst hx hb dX9_shift_65 ci_2 ?_
            refine hicmp_ne (tgt := 82) C dX9_shift_66 (by decide) h (fun h => ?_) (fun h => ?_)
            · refine lv_bipush hx hb dX9_shift_82 cb_m12 ?_
              exact h_iret_w C hr hI h dX9_shift_84
            · refine lv_aload hx hb dX9_shift_69 (lv_at hl 1 rfl) ?_
              refine fg_245 C hI h_k3 rfl dX9_shift_71 ?_
              refine lv_aload hx hb dX9_shift_74 (lv_at hl 0 rfl) ?_
              refine fg_245 C hI h_k4 rfl dX9_shift_76 ?_
              refine hicmp_eq (tgt := 85) C dX9_shift_79 (by decide) h (fun h => ?_) (fun h => ?_)
              · refine lv_aload hx hb dX9_shift_85 (lv_at hl 1 rfl) ?_
                refine lv_iload_n hx hb dX9_shift_87 rfl (lv_at hl 4 rfl) ?_
                refine lv_iload hx hb dX9_shift_88 (lv_at hl 7 rfl) ?_
                refine h_callvi_o (rest := []) C hI hl.1 h_k3 rfl yv_X5_hasPlaces k_1041 h (fun q hq => c_X5_hasPlaces l D t ad z C.2.2.2.2.2.2.1 k3 h_k3 h_k31 (σ) x2 x5 q hq) (As := [.int x2, .int x5]) rfl rfl ⟨Nat.le_of_ble_eq_true rfl, Nat.le_of_ble_eq_true rfl⟩ (Nat.le_of_ble_eq_true rfl) dX9_shift_90 (fun q5 H locs h hI => ?_)
                refine hif_eq (tgt := 108) C dX9_shift_93 (by decide) h (fun h => ?_) (fun h => ?_)
                · refine lv_bipush hx hb dX9_shift_108 cb_m13 ?_
                  exact h_iret_w C hr hI h dX9_shift_110
                · refine lv_aload hx hb dX9_shift_96 (lv_at hl 0 rfl) ?_
                  refine lv_iload hx hb dX9_shift_98 (lv_at hl 6 rfl) ?_
                  refine lv_iload hx hb dX9_shift_100 (lv_at hl 7 rfl) ?_
                  refine h_callvi_o (rest := []) C hI hl.1 h_k4 rfl yv_X5_hasPlaces k_1041 h (fun q hq => c_X5_hasPlaces l D t ad z C.2.2.2.2.2.2.1 k4 h_k4 h_k41 (σ) x4 x5 q hq) (As := [.int x4, .int x5]) rfl rfl ⟨Nat.le_of_ble_eq_true rfl, Nat.le_of_ble_eq_true rfl⟩ (Nat.le_of_ble_eq_true rfl) dX9_shift_102 (fun q6 H locs h hI => ?_)
                  refine hif_ne (tgt := 111) C dX9_shift_105 (by decide) h (fun h => ?_) (fun h => ?_)
                  · refine lv_aload hx hb dX9_shift_111 (lv_at hl 1 rfl) ?_
                    refine fr_239 C hI h_k3 rfl dX9_shift_113 ?_
                    refine lv_iload_n hx hb dX9_shift_116 rfl (lv_at hl 4 rfl) ?_
                    refine lv_aload hx hb dX9_shift_117 (lv_at hl 0 rfl) ?_
                    refine fr_239 C hI h_k4 rfl dX9_shift_119 ?_
                    refine lv_iload hx hb dX9_shift_122 (lv_at hl 6 rfl) ?_
                    refine lv_iload hx hb dX9_shift_124 (lv_at hl 7 rfl) ?_
                    refine h_copyl C hI hl.1 k_1042 h_k31 h_k41 h ⟨Nat.le_of_ble_eq_true rfl, Nat.le_of_ble_eq_true rfl⟩ dX9_shift_126 (fun H locs h hI => ?_)
                    refine gx_st h hI (fun s7 h hI => ?_)
                    refine lv_iload hx hb dX9_shift_129 (lv_at hl 7 rfl) ?_
                    exact h_iret_w C hr hI h dX9_shift_131
                  · refine lv_bipush hx hb dX9_shift_108 cb_m13 ?_
                    exact h_iret_w C hr hI h dX9_shift_110
              · refine lv_bipush hx hb dX9_shift_82 cb_m12 ?_
                exact h_iret_w C hr hI h dX9_shift_84
        · refine lv_bipush hx hb dX9_shift_48 cb_m11 ?_
          exact h_iret_w C hr hI h dX9_shift_50
    · refine lv_iconst hx hb dX9_shift_14 ci_m1 ?_
      exact h_iret_w C hr hI h dX9_shift_15
set_option maxRecDepth 100000 in
set_option maxHeartbeats 4000000 in
theorem w_X9_taken_56 {p : Program} {l : Launch} {e : Env} {s : State} {m : MethodId} {args : Array Value} {below : List Frame} {meth : Method} {c : Code} {D : va_G} {t : gT} {ad z : Nat → Nat} {σ : gS} (C : gC p s m args meth c cX9_taken 5 "NineKeysRound" D t shX ad z) (hr : meth.sig.returnType = some .int) {r : Int32} : ∀ (x2 : Int32) (s0 : Int32) (H : Heap) (locs : List Loc) (ls : Array Slot), f_X9_taken_56 σ x2 s0 = some r → gI shX t ad D s.heap σ H locs → lv_has ls 5 [(2, .int x2)] → W p l e (gR 3 103) s m args below meth c H locs 0 0 (MQ below (gQi shX t ad D r σ) args s 0 0 (gA shX ad)) (F0 m 56 ls [.int s0]) := by
  have hx := C.1
  have hb := C.2.1
  intro x2 s0 H locs ls  h hI hl
  unfold f_X9_taken_56 at h
  refine lv_istore (lv' := [(4, .int s0), (2, .int x2)]) hx hb dX9_taken_56 hl (by decide) rfl (fun ls hl => ?_)
  refine lv_iload hx hb dX9_taken_58 (lv_at hl 0 rfl) ?_
  refine lv_iload_n hx hb dX9_taken_60 rfl (lv_at hl 1 rfl) ?_
  refine h_callsi_o (rest := []) C hI hl.1 ys_X3_isUnder k_1048 h (fun q hq => c_X3_isUnder l D t ad z C.2.2.2.2.2.2.1 (σ) s0 x2 q hq) (As := [.int s0, .int x2]) rfl rfl ⟨Nat.le_of_ble_eq_true rfl, Nat.le_of_ble_eq_true rfl⟩ (Nat.le_of_ble_eq_true rfl) dX9_taken_61 (fun q1 H locs h hI => ?_)
  refine hif_eq (tgt := 72) C dX9_taken_64 (by decide) h (fun h => ?_) (fun h => ?_)
  · refine lv_bipush hx hb dX9_taken_72 cb_m12 ?_
    exact h_iret_o C hr hI h dX9_taken_74
  · refine lv_iload hx hb dX9_taken_67 (lv_at hl 0 rfl) ?_
    refine lv_goto (tgt := 74) hx hb dX9_taken_69 (by decide) ?_
    exact h_iret_o C hr hI h dX9_taken_74
set_option maxRecDepth 100000 in
set_option maxHeartbeats 4000000 in
theorem c_X9_taken (l : Launch) (D : va_G) (t : gT) (ad z : Nat → Nat) (hJ : gJ shX ad) (σ : gS) (x1 : Int32) (x2 : Int32) (q : Int32) (h : f_X9_taken σ x1 x2 = some q) : Met l yX9_taken (Cond.code yX9_taken cX9_taken 5 (some .int) :: lw_tb) (gR 3 103) (gPc shX t ad D z [.ref (ad 0), .int x1, .int x2] σ) (gQi shX t ad D q σ) 0 0 (gA shX ad) := by
  refine gMet "NineKeysRound" rfl (by decide) hJ (Nat.le_of_ble_eq_true rfl) ?_
  intro p e s m below meth c ls C hr hI hl
  have hx := C.1
  have hb := C.2.1
  have hl : lv_has ls 5 [(0, .ref (ad 0)), (1, .int x1), (2, .int x2)] := hl
  unfold f_X9_taken at h
  refine lv_iload_n hx hb dX9_taken_0 rfl (lv_at hl 1 rfl) ?_
  refine h_callsi_o (rest := []) C hI hl.1 ys_X9_isShelf k_326 h (fun q hq => c_X9_isShelf l D t ad z C.2.2.2.2.2.2.1 (σ) x1 q hq) (As := [.int x1]) rfl rfl ⟨Nat.le_of_ble_eq_true rfl, Nat.le_of_ble_eq_true rfl⟩ (Nat.le_of_ble_eq_true rfl) dX9_taken_1 (fun q1 H locs h hI => ?_)
  refine hif_eq (tgt := 14) C dX9_taken_4 (by decide) h (fun h => ?_) (fun h => ?_)
  · refine lv_iconst hx hb dX9_taken_14 ci_m1 ?_
    exact h_iret_o C hr hI h dX9_taken_15
  · refine lv_iload_n hx hb dX9_taken_7 rfl (lv_at hl 2 rfl) ?_
    refine h_callsi_o (rest := []) C hI hl.1 ys_X3_isKind k_954 h (fun q hq => c_X3_isKind l D t ad z C.2.2.2.2.2.2.1 (σ) x2 q hq) (As := [.int x2]) rfl rfl ⟨Nat.le_of_ble_eq_true rfl, Nat.le_of_ble_eq_true rfl⟩ (Nat.le_of_ble_eq_true rfl) dX9_taken_8 (fun q2 H locs h hI => ?_)
    refine hif_ne (tgt := 16) C dX9_taken_11 (by decide) h (fun h => ?_) (fun h => ?_)
    · refine lv_aload_n hx hb dX9_taken_16 rfl (lv_at hl 0 rfl) ?_
      refine fr_264 C hI shX_0 rfl dX9_taken_17 ?_
      refine lv_iload_n hx hb dX9_taken_20 rfl (lv_at hl 1 rfl) ?_
      refine gx_aald C hI shX_13 h dX9_taken_21 (fun k3 hm_ _ h => ?_)
      obtain ⟨h_k3, h_k31⟩ := shelf_ok k3 hm_
      refine lv_astore_n (lv' := [(3, .ref (ad k3)), (0, .ref (ad 0)), (1, .int x1), (2, .int x2)]) hx hb dX9_taken_22 rfl hl (by decide) rfl (fun ls hl => ?_)
      refine lv_aload_n hx hb dX9_taken_23 rfl (lv_at hl 0 rfl) ?_
      refine fg_241 C hI h_k3 rfl dX9_taken_24 ?_
      refine hif_ne (tgt := 33) C dX9_taken_27 (by decide) h (fun h => ?_) (fun h => ?_)
      · refine lv_aload_n hx hb dX9_taken_33 rfl (lv_at hl 0 rfl) ?_
        refine fg_241 C hI h_k3 rfl dX9_taken_34 ?_
        refine lv_iconst hx hb dX9_taken_37 ci_1 ?_
        refine hicmp_ne (tgt := 55) C dX9_taken_38 (by decide) h (fun h => ?_) (fun h => ?_)
        · refine lv_iconst hx hb dX9_taken_55 ci_m1 ?_
          exact w_X9_taken_56 C hr    _ _ _ _ _  h hI (lv_sub hl [3] rfl)
        · refine lv_aload_n hx hb dX9_taken_41 rfl (lv_at hl 1 rfl) ?_
          refine fr_271 C hI shX_0 rfl dX9_taken_42 ?_
          refine lv_aload_n hx hb dX9_taken_45 rfl (lv_at hl 0 rfl) ?_
          refine fg_243 C hI h_k3 rfl dX9_taken_46 ?_
          refine h_callvi_o (rest := []) C hI hl.1 shX_41 rfl yv_X3_kindOf k_1047 h (fun q hq => c_X3_kindOf l D t ad z C.2.2.2.2.2.2.1 (σ) (σ.1 k3 2) q hq) (As := [.int (σ.1 k3 2)]) rfl rfl ⟨Nat.le_of_ble_eq_true rfl, Nat.le_of_ble_eq_true rfl⟩ (Nat.le_of_ble_eq_true rfl) dX9_taken_49 (fun q4 H locs h hI => ?_)
          refine lv_goto (tgt := 56) hx hb dX9_taken_52 (by decide) ?_
          exact w_X9_taken_56 C hr    _ _ _ _ _  h hI (lv_sub hl [3] rfl)
      · refine lv_bipush hx hb dX9_taken_30 cb_m11 ?_
        exact h_iret_o C hr hI h dX9_taken_32
    · refine lv_iconst hx hb dX9_taken_14 ci_m1 ?_
      exact h_iret_o C hr hI h dX9_taken_15
set_option maxRecDepth 100000 in
set_option maxHeartbeats 4000000 in
theorem c_X9_count (l : Launch) (D : va_G) (t : gT) (ad z : Nat → Nat) (hJ : gJ shX ad) (σ : gS) (x1 : Int32) (q : Int32) (h : f_X9_count σ x1 = some q) : Met l yX9_count (Cond.code yX9_count cX9_count 2 (some .int) :: lw_tb) (gR 1 60) (gPc shX t ad D z [.ref (ad 0), .int x1] σ) (gQi shX t ad D q σ) 0 0 (gA shX ad) := by
  refine gMet "NineKeysRound" rfl (by decide) hJ (Nat.le_of_ble_eq_true rfl) ?_
  intro p e s m below meth c ls C hr hI hl
  have hx := C.1
  have hb := C.2.1
  have hl : lv_has ls 2 [(0, .ref (ad 0)), (1, .int x1)] := hl
  unfold f_X9_count at h
  refine lv_iload_n hx hb dX9_count_0 rfl (lv_at hl 1 rfl) ?_
  by_cases hc_ : x1 = 0
  · rw [if_pos hc_] at h
    refine lv_tableIn (tgt := 36) (off := 35) hx hb dX9_count_1 (by rw [hc_]; decide) (by rw [hc_]; decide) (by rw [hc_]; rfl) (by decide) ?_
    refine lv_aload_n hx hb dX9_count_36 rfl (lv_at hl 0 rfl) ?_
    refine fr_261 C hI shX_0 rfl dX9_count_37 ?_
    refine fg_37 C hI shX_1 rfl dX9_count_40 ?_
    exact h_iret_o C hr hI h dX9_count_43
  · rw [if_neg hc_] at h
    have hn_0 := hc_
    by_cases hc_ : x1 = 1
    · rw [if_pos hc_] at h
      refine lv_tableIn (tgt := 44) (off := 43) hx hb dX9_count_1 (by rw [hc_]; decide) (by rw [hc_]; decide) (by rw [hc_]; rfl) (by decide) ?_
      refine lv_aload_n hx hb dX9_count_44 rfl (lv_at hl 0 rfl) ?_
      refine fr_263 C hI shX_0 rfl dX9_count_45 ?_
      refine fg_85 C hI shX_7 rfl dX9_count_48 ?_
      exact h_iret_o C hr hI h dX9_count_51
    · rw [if_neg hc_] at h
      have hn_1 := hc_
      by_cases hc_ : x1 = 2
      · rw [if_pos hc_] at h
        refine lv_tableIn (tgt := 52) (off := 51) hx hb dX9_count_1 (by rw [hc_]; decide) (by rw [hc_]; decide) (by rw [hc_]; rfl) (by decide) ?_
        refine lv_aload_n hx hb dX9_count_52 rfl (lv_at hl 0 rfl) ?_
        refine fr_262 C hI shX_0 rfl dX9_count_53 ?_
        refine fg_55 C hI shX_3 rfl dX9_count_56 ?_
        exact h_iret_o C hr hI h dX9_count_59
      · rw [if_neg hc_] at h
        have hn_2 := hc_
        by_cases hc_ : x1 = 3
        · rw [if_pos hc_] at h
          refine lv_tableIn (tgt := 60) (off := 59) hx hb dX9_count_1 (by rw [hc_]; decide) (by rw [hc_]; decide) (by rw [hc_]; rfl) (by decide) ?_
          refine lv_aload_n hx hb dX9_count_60 rfl (lv_at hl 0 rfl) ?_
          refine fr_271 C hI shX_0 rfl dX9_count_61 ?_
          refine fg_218 C hI shX_41 rfl dX9_count_64 ?_
          exact h_iret_o C hr hI h dX9_count_67
        · rw [if_neg hc_] at h
          have hn_3 := hc_
          by_cases hc_ : x1 = 4
          · rw [if_pos hc_] at h
            refine lv_tableIn (tgt := 68) (off := 67) hx hb dX9_count_1 (by rw [hc_]; decide) (by rw [hc_]; decide) (by rw [hc_]; rfl) (by decide) ?_
            refine lv_aload_n hx hb dX9_count_68 rfl (lv_at hl 0 rfl) ?_
            refine fr_271 C hI shX_0 rfl dX9_count_69 ?_
            refine fg_220 C hI shX_41 rfl dX9_count_72 ?_
            exact h_iret_o C hr hI h dX9_count_75
          · rw [if_neg hc_] at h
            have hn_4 := hc_
            have hout : x1.toInt < 0 ∨ 4 < x1.toInt := by
              have e0 := tsne (c := 0) (z := 0) (by decide) hn_0
              have e1 := tsne (c := 1) (z := 1) (by decide) hn_1
              have e2 := tsne (c := 2) (z := 2) (by decide) hn_2
              have e3 := tsne (c := 3) (z := 3) (by decide) hn_3
              have e4 := tsne (c := 4) (z := 4) (by decide) hn_4
              omega
            refine lv_tableOut (tgt := 76) hx hb dX9_count_1 hout (by decide) ?_
            refine lv_iconst hx hb dX9_count_76 ci_m1 ?_
            exact h_iret_o C hr hI h dX9_count_77
