section R0
variable {w w' : Wd} {h k K K2 : Nat} {S T : Nat → Int32}
/-! one house copied into another -/
theorem gdsCopy {g : Nat} (hg : g < 6) (H : HS w h) (H' : HS w k) (d : h + 15 ≤ k ∨ k + 15 ≤ h) : ∃ w1, f_X1_copyFrom (h + 9 + g) (k + 9 + g) w = some ((), w1) ∧ Fr (fun a => a = h + 9 + g) w w1 ∧ ∀ j, 1 ≤ j → j ≤ 5 → wI w1 (h + 9 + g) j = wI w (k + 9 + g) j := by
  have ne : k + 9 + g ≠ h + 9 + g := by omega
  have o1 := H.og hg
  have o2 := H'.og hg
  unfold f_X1_copyFrom f_X1_become
  simp only [gI_t, pI_t, isO_sI, o1, o2, cal_t, calV_t, wI_other ne]
  refine ⟨_, rfl, ?_, fun j h1 h2 => ?_⟩
  · have f : ∀ (v : Wd) (j : Nat) (x : Int32), Fr (fun a => a = h + 9 + g) v (sI v (h + 9 + g) j x) := fun v j x => Fr.sI (A := fun a => a = h + 9 + g) rfl
    exact (f _ _ _).tr ((f _ _ _).tr ((f _ _ _).tr ((f _ _ _).tr ((f _ _ _).tr ((f _ _ _).tr (f _ _ _))))))
  · have : j = 1 ∨ j = 2 ∨ j = 3 ∨ j = 4 ∨ j = 5 := by omega
    rcases this with rfl | rfl | rfl | rfl | rfl <;> simp [wI_sI]
theorem cluCopy (H : HS w h) (H' : HS w k) (d : h + 15 ≤ k ∨ k + 15 ≤ h) : ∃ w1, f_X0_copyFrom (h + 3) (k + 3) w = some ((), w1) ∧ Fr (fun a => h + 3 ≤ a ∧ a < h + 7) w w1 ∧ wI w1 (h + 3) 6 = wI w (k + 3) 6 ∧ wI w1 (h + 3) 7 = wI w (k + 3) 7 ∧ (∀ j, j < 6 → wI w1 (h + 4) j = wI w (k + 4) j ∧ wI w1 (h + 5) j = wI w (k + 5) j) ∧ (∀ j, j < 24 → wI w1 (h + 6) j = wI w (k + 6) j) := by
  have ne : k + 3 ≠ h + 3 := by omega
  unfold f_X0_copyFrom
  rw [gI_t H'.o3, pI_t H.o3, gI_t (by rw [isO_sI]; exact H'.o3), pI_t (by rw [isO_sI]; exact H.o3), wI_other ne]
  have e1 : ∀ {v : Wd}, Eqs w v → HS v h ∧ HS v k := fun {v} e => ⟨H.to e, H'.to e⟩
  obtain ⟨A1, B1⟩ := e1 (v := sI (sI w (h + 3) 6 (wI w (k + 3) 6)) (h + 3) 7 (wI w (k + 3) 7)) ⟨rfl, rfl, rfl⟩
  rw [gR_t B1.o3, B1.c1, Option.bind_some, gR_t A1.o3, A1.c1, Option.bind_some, cpI_t (sp := 0) (dp := 0) (n := 6) (n0 := 6) (n1 := 6) (s := 0) (d := 0) (c := 6) B1.o4 A1.o4 B1.n4 A1.n4 rfl rfl rfl (by decide) (by decide) ⟨by decide, by decide⟩]
  obtain ⟨A2, B2⟩ := e1 (v := cI (sI (sI w (h + 3) 6 (wI w (k + 3) 6)) (h + 3) 7 (wI w (k + 3) 7)) (k + 4) 0 (h + 4) 0 6) ⟨rfl, rfl, rfl⟩
  rw [gR_t B2.o3, B2.c2, Option.bind_some, gR_t A2.o3, A2.c2, Option.bind_some, cpI_t (sp := 0) (dp := 0) (n := 6) (n0 := 6) (n1 := 6) (s := 0) (d := 0) (c := 6) B2.o5 A2.o5 B2.n5 A2.n5 rfl rfl rfl (by decide) (by decide) ⟨by decide, by decide⟩]
  obtain ⟨A3, B3⟩ := e1 (v := cI (cI (sI (sI w (h + 3) 6 (wI w (k + 3) 6)) (h + 3) 7 (wI w (k + 3) 7)) (k + 4) 0 (h + 4) 0 6) (k + 5) 0 (h + 5) 0 6) ⟨rfl, rfl, rfl⟩
  rw [gR_t B3.o3, B3.c3, Option.bind_some, gR_t A3.o3, A3.c3, Option.bind_some, cpI_t (sp := 0) (dp := 0) (n := 24) (n0 := 24) (n1 := 24) (s := 0) (d := 0) (c := 24) B3.o6 A3.o6 B3.n6 A3.n6 rfl rfl rfl (by decide) (by decide) ⟨by decide, by decide⟩]
  refine ⟨_, rfl, ?_, ?_, ?_, fun j hj => ⟨?_, ?_⟩, fun j hj => ?_⟩
  · exact (Fr.sI ⟨by omega, by omega⟩).tr ((Fr.sI ⟨by omega, by omega⟩).tr ((Fr.cI ⟨by omega, by omega⟩).tr ((Fr.cI ⟨by omega, by omega⟩).tr (Fr.cI ⟨by omega, by omega⟩))))
  · rw [wI_cI, if_neg (by omega), wI_cI, if_neg (by omega), wI_cI, if_neg (by omega), wI_place (by decide), wI_same]
  · rw [wI_cI, if_neg (by omega), wI_cI, if_neg (by omega), wI_cI, if_neg (by omega), wI_same]
  · rw [wI_cI, if_neg (by omega), wI_cI, if_neg (by omega), wI_cI, if_pos ⟨rfl, by omega, by omega⟩, Nat.zero_add, Nat.sub_zero, wI_other (by omega), wI_other (by omega)]
  · rw [wI_cI, if_neg (by omega), wI_cI, if_pos ⟨rfl, by omega, by omega⟩, Nat.zero_add, Nat.sub_zero, wI_cI, if_neg (by omega), wI_other (by omega), wI_other (by omega)]
  · rw [wI_cI, if_pos ⟨rfl, by omega, by omega⟩, Nat.zero_add, Nat.sub_zero, wI_cI, if_neg (by omega), wI_cI, if_neg (by omega), wI_other (by omega), wI_other (by omega)]
theorem copy_lp {w0 : Wd} {n : Nat} (hn : n ≤ 6) (d : h + 15 ≤ k ∨ k + 15 ≤ h) (H0 : HS w0 h) (H0' : HS w0 k) : ∀ (e i fuel : Nat) (w : Wd), Fr (hset h) w0 w → i + e = n → e < fuel → wI w h 4 = nI n → (∀ j, 4 ≤ j → j ≤ 11 → wI w h j = wI w0 k j) → (∀ g, g < i → ∀ j, 1 ≤ j → j ≤ 5 → wI w (h + 9 + g) j = wI w0 (k + 9 + g) j) → ∃ w', f_X2_copyFrom_66 fuel h k (nI i) w = some ((), w') ∧ Fr (hset h) w0 w' ∧ (∀ j, 3 ≤ j → j ≤ 11 → wI w' h j = wI w0 k j) ∧ (∀ g, g < n → ∀ j, 1 ≤ j → j ≤ 5 → wI w' (h + 9 + g) j = wI w0 (k + 9 + g) j) ∧ (∀ j, j < 136 → wI w' (h + 2) j = wI w0 (k + 2) j) ∧ wI w' (h + 3) 6 = wI w0 (k + 3) 6 ∧ wI w' (h + 3) 7 = wI w0 (k + 3) 7 ∧ (∀ j, j < 6 → wI w' (h + 4) j = wI w0 (k + 4) j ∧ wI w' (h + 5) j = wI w0 (k + 5) j) ∧ (∀ j, j < 24 → wI w' (h + 6) j = wI w0 (k + 6) j) := by
  intro e
  induction e with
  | zero =>
    intro i fuel w f hi hf h4 hs hg
    obtain ⟨f', rfl⟩ : ∃ f', fuel = f' + 1 := ⟨fuel - 1, by omega⟩
    have H := H0.to f.1
    have H' := H0'.to f.1
    have fk : ∀ a, k ≤ a → a < k + 15 → wI w a = wI w0 a := fun a h1 h2 => f.2.2 a (by unfold hset; omega)
    have hi' : i = n := by omega
    subst hi'
    rw [f_X2_copyFrom_66, gI_t H.o, h4, if_pos (nI_le (by omega) (by omega)), gI_t H'.o, pI_t H.o]
    have H1 : HS (sI w h 3 (wI w k 3)) h := H.to ⟨rfl, rfl, rfl⟩
    have H1' : HS (sI w h 3 (wI w k 3)) k := H'.to ⟨rfl, rfl, rfl⟩
    rw [gR_t H1'.o, H1'.r2, Option.bind_some, gR_t H1.o, H1.r2, Option.bind_some, cpI_t (sp := 0) (dp := 0) (n := 136) (n0 := 136) (n1 := 136) (s := 0) (d := 0) (c := 136) H1'.o2 H1.o2 H1'.n2 H1.n2 rfl rfl rfl (by decide) (by decide) ⟨by decide, by decide⟩]
    generalize hw2 : cI (sI w h 3 (wI w k 3)) (k + 2) 0 (h + 2) 0 136 = w2
    have H2 : HS w2 h := H.to (by rw [← hw2]; exact ⟨rfl, rfl, rfl⟩)
    have H2' : HS w2 k := H'.to (by rw [← hw2]; exact ⟨rfl, rfl, rfl⟩)
    obtain ⟨w3, q1, q2, q3, q4, q5, q6⟩ := cluCopy H2 H2' d
    have f2 : Fr (hset h) w w2 := by rw [← hw2]; exact (Fr.sI ⟨by omega, by omega⟩).tr (Fr.cI ⟨by omega, by omega⟩)
    have f3 : Fr (hset h) w2 w3 := q2.wk (fun a ha => ⟨by omega, by omega⟩)
    have e2 : ∀ a, k ≤ a → a < k + 15 → wI w2 a = wI w0 a := fun a h1 h2 => (f2.2.2 a (by unfold hset; omega)).trans (fk a h1 h2)
    have e3 : ∀ a, a < h + 3 ∨ h + 7 ≤ a → wI w3 a = wI w2 a := fun a ha => q2.2.2 a (by omega)
    refine ⟨w3, ?_, f.tr (f2.tr f3), fun j h1 h2 => ?_, fun g hgi j h1 h2 => ?_, fun j hj => ?_, ?_, ?_, fun j hj => ?_, fun j hj => ?_⟩
    · rw [gR_t H2.o, H2.r1, Option.bind_some, gR_t H2'.o, H2'.r1, Option.bind_some, calV_t H2.o3, q1, cal_t]
    · rw [e3 h (by omega), ← hw2, wI_cI, if_neg (by omega)]
      by_cases h3 : j = 3
      · rw [h3, wI_same, fk k (by omega) (by omega)]
      · rw [wI_place h3]; exact hs j (by omega) h2
    · rw [e3 _ (by omega), ← hw2, wI_cI, if_neg (by omega), wI_other (by omega)]
      exact hg g hgi j h1 h2
    · rw [e3 _ (by omega), ← hw2, wI_cI, if_pos ⟨rfl, by omega, by omega⟩, Nat.zero_add, Nat.sub_zero, wI_other (by omega), fk _ (by omega) (by omega)]
    · rw [q3, e2 _ (by omega) (by omega)]
    · rw [q4, e2 _ (by omega) (by omega)]
    · rw [(q5 j hj).1, (q5 j hj).2, e2 _ (by omega) (by omega), e2 _ (by omega) (by omega)]; exact ⟨rfl, rfl⟩
    · rw [q6 j hj, e2 _ (by omega) (by omega)]
  | succ e ih =>
    intro i fuel w f hi hf h4 hs hg
    obtain ⟨f', rfl⟩ : ∃ f', fuel = f' + 1 := ⟨fuel - 1, by omega⟩
    have H := H0.to f.1
    have H' := H0'.to f.1
    have i6 : i < 6 := by omega
    obtain ⟨w2, q1, q2, q3⟩ := gdsCopy i6 H H' d
    rw [f_X2_copyFrom_66, gI_t H.o, h4, if_neg (nI_ge (by omega) (by omega)), gR_t H.o, H.r0, Option.bind_some, lR_t H.o1 (inb_of H.n1 i6 (by decide)), nI_clamp (by omega), H.rg i6, Option.bind_some, gR_t H'.o, H'.r0, Option.bind_some, lR_t H'.o1 (inb_of H'.n1 i6 (by decide)), nI_clamp (by omega), H'.rg i6, Option.bind_some, calV_t (H.og i6), q1, cal_t, nI_1]
    have eh : wI w2 h = wI w h := q2.2.2 h (by omega)
    refine ih (i + 1) f' w2 (f.tr (q2.wk (fun a ha => ⟨by omega, by omega⟩))) (by omega) (by omega) (by rw [eh]; exact h4) (by rw [eh]; exact hs) (fun g hgi j h1 h2 => ?_)
    by_cases hgi2 : g = i
    · subst hgi2
      rw [q3 j h1 h2, f.2.2 _ (by unfold hset; omega)]
    · rw [q2.2.2 _ (by omega)]
      exact hg g (by omega) j h1 h2
theorem copy_row (H : HS w h) (H' : HS w k) (d : h + 15 ≤ k ∨ k + 15 ≤ h) (R : HR (wI w) k S) (I : Iv S K) : ∃ w', f_X2_copyFrom h k w = some ((), w') ∧ Fr (hset h) w w' ∧ HR (wI w') h S := by
  have ne : k ≠ h := by omega
  have hn := I.n.2
  have m4 : wI w k 4 = nI (nn S) := by rw [R.1.2.1]; exact I.n.1
  unfold f_X2_copyFrom
  simp only [gI_t, pI_t, isO_sI, H.o, H'.o, wI_other ne]
  generalize hw2 : sI (sI (sI (sI (sI (sI (sI (sI w h 5 (wI w k 5)) h 6 (wI w k 6)) h 7 (wI w k 7)) h 8 (wI w k 8)) h 9 (wI w k 9)) h 10 (wI w k 10)) h 11 (wI w k 11)) h 4 (wI w k 4) = w2
  have f2 : Fr (hset h) w w2 := by
    have a0 : hset h h := ⟨by omega, by omega⟩
    rw [← hw2]
    exact (Fr.sI a0).tr ((Fr.sI a0).tr ((Fr.sI a0).tr ((Fr.sI a0).tr ((Fr.sI a0).tr ((Fr.sI a0).tr ((Fr.sI a0).tr (Fr.sI a0)))))))
  have e : ∀ j, 4 ≤ j → j ≤ 11 → wI w2 h j = wI w k j := fun j h1 h2 => by
    have : j = 4 ∨ j = 5 ∨ j = 6 ∨ j = 7 ∨ j = 8 ∨ j = 9 ∨ j = 10 ∨ j = 11 := by omega
    rw [← hw2]
    rcases this with rfl | rfl | rfl | rfl | rfl | rfl | rfl | rfl <;> simp [wI_sI]
  obtain ⟨w', q1, q2, q3, q4, q5, q6, q7, q8, q9⟩ := copy_lp hn d H H' (nn S) 0 4096 w2 f2 (by omega) (by omega) (by rw [e 4 (by decide) (by decide)]; exact m4) e (fun g hg => absurd hg (by omega))
  obtain ⟨⟨r3, r4, r5, r6, r7, r8, r9, r10, r11⟩, RG, RQ, RP⟩ := R
  have g6 := I.2.1.2
  have t6 := I.2.2.1.2
  have u8 := I.2.2.2.1.2
  refine ⟨w', q1, q2, ⟨?_, ?_, ?_, ?_, ?_, ?_, ?_, ?_, ?_⟩, fun g hg => ?_, ⟨?_, ?_, fun i hi => ?_, fun i hi => ?_⟩, fun p hp => ?_⟩
  · rw [q3 3 (by decide) (by decide)]; exact r3
  · rw [q3 4 (by decide) (by decide)]; exact r4
  · rw [q3 5 (by decide) (by decide)]; exact r5
  · rw [q3 6 (by decide) (by decide)]; exact r6
  · rw [q3 7 (by decide) (by decide)]; exact r7
  · rw [q3 8 (by decide) (by decide)]; exact r8
  · rw [q3 9 (by decide) (by decide)]; exact r9
  · rw [q3 10 (by decide) (by decide)]; exact r10
  · rw [q3 11 (by decide) (by decide)]; exact r11
  · rw [q4 g hg 1 (by decide) (by decide), q4 g hg 2 (by decide) (by decide), q4 g hg 3 (by decide) (by decide), q4 g hg 4 (by decide) (by decide), q4 g hg 5 (by decide) (by decide)]
    exact RG g hg
  · rw [q6]; exact RQ.1
  · rw [q7]; exact RQ.2.1
  · rw [(q8 i (by omega)).1, (q8 i (by omega)).2]; exact RQ.2.2.1 i hi
  · rw [q9 i (by omega)]; exact RQ.2.2.2 i hi
  · obtain ⟨a1, a2, a3, a4, a5, a6⟩ := RP p hp
    refine ⟨?_, ?_, ?_, ?_, ?_, fun g hg => ?_⟩
    · rw [q5 _ (by omega)]; exact a1
    · rw [q5 _ (by omega)]; exact a2
    · rw [q5 _ (by omega)]; exact a3
    · rw [q5 _ (by omega)]; exact a4
    · rw [q5 _ (by omega)]; exact a5
    · rw [q5 _ (by omega), q5 _ (by omega)]; exact a6 g hg
end R0
