/-! the start -/
set_option maxRecDepth 100000 in
theorem in_row : ∀ j, j < 213 → wI wIn 96 j = newS (nI 60) j := by
  have h : (List.range 213).all (fun j => decide (wI wIn 96 j = newS (nI 60) j)) = true := by decide +kernel
  intro j hj
  exact of_decide_eq_true (List.all_eq_true.mp h j (List.mem_range.mpr hj))
set_option maxRecDepth 100000 in
theorem in_wdl : ∀ k, k < 25 → wI wIn 100 k = WDL.getD k 0 := by
  have h : (List.range 25).all (fun k => decide (wI wIn 100 k = WDL.getD k 0)) = true := by decide +kernel
  intro j hj
  exact of_decide_eq_true (List.all_eq_true.mp h j (List.mem_range.mpr hj))
set_option maxRecDepth 100000 in
theorem in_hr : HR (wI wIn) 8 (newS (nI 60)) := by
  refine ⟨⟨?_, ?_, ?_, ?_, ?_, ?_, ?_, ?_, ?_⟩, fun g hg => absurd hg (Nat.not_lt_zero _), ⟨?_, ?_, fun i hi => absurd hi (Nat.not_lt_zero _), fun i hi => absurd hi (Nat.not_lt_zero _)⟩, fun p hp => absurd hp (Nat.not_lt_zero _)⟩
  all_goals decide +kernel
set_option maxRecDepth 100000 in
theorem in_im : Im wIn 0 0 ∧ Im wIn 0 1 := by
  refine ⟨⟨?_, Or.inl ?_⟩, ⟨?_, Or.inl ?_⟩⟩
  all_goals decide +kernel
set_option maxRecDepth 100000 in
theorem in_rf : ∀ i, i < 3 → wI wIn 94 i = wI wIn 98 i := by
  intro i hi
  rcases (show i = 0 ∨ i = 1 ∨ i = 2 by omega) with rfl | rfl | rfl
  all_goals decide +kernel
set_option maxRecDepth 100000 in
theorem in_tx : Tx wIn := by
  refine ⟨0, by decide, ?_, ?_, fun i hi => absurd hi (Nat.not_lt_zero _)⟩
  all_goals decide +kernel
set_option maxRecDepth 100000 in
theorem in_lg : wL wIn 0 7 = wL wIn 95 3 ∧ wL wIn 0 8 = wL wIn 95 4 := by
  refine ⟨?_, ?_⟩
  all_goals decide +kernel
theorem in_inv : Inv wIn 0 := by
  have I : Iv (newS (nI 60)) 0 := newS_iv (by decide) 0
  exact ⟨⟨8, 23, in_sp, HR.ext in_hr I.q4 in_row⟩, I.ext in_row, in_im.1, in_im.2, in_rf, in_tx, in_lg, in_wdl⟩
/-- on every script of at most 320 ints -/
theorem pure_all {L : Nat} (hL : L ≤ 320) (sx : Nat → Int32) : ∃ wz, f_L L sx w00 = some (1, wz) := by
  rw [start_eq]
  exact law_loop hL 64 0 4096 0 wIn (by omega) (by decide) (by decide) (by decide) in_inv
theorem whole_start {p : Program} {e : Env} {s : State} {m : MethodId} {below : List Frame} {meth : Method} {c : Code} (l : Launch) {b L : Nat} {xs : Nat → Int32} (hL : L ≤ 320) (C0 : lw_At p s m meth c b L xs) : W p l e room_1 s m #[Value.ref b] below meth c s.heap [] 0 0 (lw_Z below #[Value.ref b] s) (entryFrame m ([Value.ref b] : List Value).toArray 4) := by
  obtain ⟨wz, hf⟩ := pure_all hL xs
  exact law_start l wz hf C0
