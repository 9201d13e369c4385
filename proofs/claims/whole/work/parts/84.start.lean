/-! ===== the start, and the claim ===== -/
theorem R_0 : Rel1 LW σX σM := by
  refine ⟨⟨0, 0, ?_, ?_, ?_, ?_, ?_, ?_, ?_⟩, Or.inl ⟨rfl, rfl⟩⟩
  · exact ⟨by omega, rfl, rfl, fun p hp => absurd hp (by omega), ⟨rfl, rfl, rfl, rfl⟩, fun p hp => absurd hp (by omega), ⟨0, rfl, by decide, by decide⟩, ⟨0, rfl, by decide, by decide⟩, ⟨1, rfl, by decide, by decide⟩, ⟨1, rfl, by decide, by decide⟩⟩
  · exact ⟨0, 0, by omega, by omega, rfl, rfl, rfl, rfl, fun i hi => absurd hi (by omega)⟩
  · exact ⟨0, by omega, rfl, rfl, fun i hi => absurd hi (by omega)⟩
  · exact ⟨⟨9, Or.inr ⟨rfl, rfl, rfl⟩⟩, ⟨0, by omega, rfl, rfl⟩, ⟨rfl, rfl, rfl, rfl⟩, fun i hi => rfl, fun i _ hi => rfl⟩
  · exact Or.inl ⟨rfl, rfl⟩
  · exact ⟨by omega, rfl, rfl, fun i hi => absurd hi (by omega), 0, by omega, rfl, rfl, fun i hi => absurd hi (by omega)⟩
  · intro k hk
    rcases (show k = 0 ∨ k = 1 ∨ k = 2 ∨ k = 3 ∨ k = 4 ∨ k = 5 by omega) with rfl | rfl | rfl | rfl | rfl | rfl
    · exact ⟨Or.inl ⟨rfl, rfl, rfl, rfl⟩, fun i hi => rfl⟩
    · exact ⟨Or.inl ⟨rfl, rfl, rfl, rfl⟩, fun i hi => rfl⟩
    · exact ⟨Or.inl ⟨rfl, rfl, rfl, rfl⟩, fun i hi => rfl⟩
    · exact ⟨Or.inl ⟨rfl, rfl, rfl, rfl⟩, fun i hi => rfl⟩
    · exact ⟨Or.inl ⟨rfl, rfl, rfl, rfl⟩, fun i hi => rfl⟩
    · exact ⟨Or.inl ⟨rfl, rfl, rfl, rfl⟩, fun i hi => rfl⟩
theorem E_all : EQs (Rel1 LW) :=
  ⟨e_post LW, e_posts LW, e_mend LW, e_of LW, e_feed LW, e_law, e_round LW, e_first LW, e_by LW, e_unseen LW, e_lost, e_red LW, e_gap LW, e_late LW, e_shortest LW, e_leftOut LW, e_thief LW, e_safe LW, e_two LW, e_success LW, e_bestMinute LW, e_mix LW, e_paper LW, e_which LW, e_fit LW, e_hang LW, e_drawn LW, e_walk LW, e_waits LW, e_home LW, e_led LW, e_image LW, e_back LW, e_undo LW, e_redo LW, e_body LW, e_act LW, e_trace LW, e_keep LW, e_row LW, e_put LW, e_element LW, e_shift LW, e_taken LW, e_count LW⟩
theorem whole_start {p : Program} {e : Env} {s : State} {m : MethodId} {below : List Frame} {meth : Method} {c : Code} (l : Launch) {b L : Nat} {xs : Nat → Int32} (hL : L ≤ 3072) (C0 : lw_At p s m meth c b L xs) : W p l e room_1 s m #[Value.ref b] below meth c s.heap [] 0 0 (lw_Z below #[Value.ref b] s) (entryFrame m ([Value.ref b] : List Value).toArray 4) :=
  whole_open l hL C0 E_all R_0
