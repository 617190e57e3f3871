section Q5
variable {w : Wd} {h K : Nat} {S T : Nat → Int32}
/-! GUESSES and NOTES -/
theorem Iv.clue (I : Iv S K) (e : ∀ j, j < 38 ∨ 76 ≤ j → T j = S j) (hg : ∃ u, u ≤ 6 ∧ T 38 = nI u ∧ ∀ i, i < u → ∃ x a : Nat, x ≤ 31 ∧ a ≤ 5 ∧ T (39 + 2 * i) = nI x ∧ T (40 + 2 * i) = nI a) (ht : ∃ t, t ≤ 6 ∧ T 51 = nI t) : Iv T K := by
  obtain ⟨u, u6, u1, u2⟩ := hg
  obtain ⟨t, t6, t1⟩ := ht
  have e1 : nn T = nn S := by unfold nn; rw [e 19 (by omega)]
  have e2 : gn T = u := gn_of u1 (by omega)
  have e3 : tn T = t := tn_of t1 (by omega)
  have e4 : un T = un S := by unfold un; rw [e 76 (by omega)]
  obtain ⟨h1, h2, h3, h4, h5, h6, h7, h8, h9, h10⟩ := I
  refine ⟨by rw [e1, e 19 (by omega)]; exact h1, by rw [e2]; exact ⟨u1, u6⟩, by rw [e3]; exact ⟨t1, t6⟩, by rw [e4, e 76 (by omega)]; exact h4, by rw [e 17 (by omega)]; exact h5, by rw [e 18 (by omega)]; exact h6, fun g hg => ?_, ?_, fun p hp => ?_, by rw [e2]; exact u2⟩
  · rw [e1] at hg
    rw [e (20 + g) (by omega), e (26 + g) (by omega), e (32 + g) (by omega)]
    exact h7 g hg
  · rw [e1, e 17 (by omega)]; exact h8.ext (fun j hj => e j (by omega))
  · rw [e4] at hp
    rw [e1, e 17 (by omega)]; exact (h9 p hp).ext (fun j hj => e _ (by omega))
theorem HR.clue {m m' : Nat → Nat → Int32} (R : HR m h S) (I : Iv S K) (e : ∀ j, j < 38 ∨ 76 ≤ j → T j = S j) (f : ∀ k, k < 15 → (k < 3 ∨ 9 ≤ k) → m' (h + k) = m (h + k)) (q : HQ m' h T) : HR m' h T := by
  obtain ⟨⟨r3, r4, r5, r6, r7, r8, r9, r10, r11⟩, RG, RQ, RP⟩ := R
  have f0 : m' h = m h := f 0 (by decide) (by omega)
  refine ⟨?_, HG.tr RG (fun g hg => by rw [Nat.add_assoc]; exact f (9 + g) (by omega) (by omega)) (fun i hi => e i (by omega)) (fun i h1 h2 => e i (by omega)) I.n.2, q, HPs.tr RP (f 2 (by decide) (by omega)) (fun i h1 h2 => e i (by omega)) (e 19 (by omega)) I.n.2 I.2.2.2.1.2⟩
  rw [f0]
  refine ⟨?_, ?_, ?_, ?_, ?_, ?_, ?_, ?_, ?_⟩
  all_goals rw [e _ (by omega)]; assumption
def gueS (S : Nat → Int32) (x a : Int32) : Nat → Int32 := upd (upd (upd S (39 + 2 * gn S) x) (40 + 2 * gn S) a) 38 (nI (gn S + 1))
theorem gueS_o {x a : Int32} (hg : gn S ≤ 5) {j : Nat} (h : j < 38 ∨ 51 ≤ j) : gueS S x a j = S j := by
  unfold gueS; rw [pk_un (by omega), pk_un (by omega), pk_un (by omega)]
theorem gueS_i {x a : Int32} {i : Nat} (hi : i < gn S) : gueS S x a (39 + 2 * i) = S (39 + 2 * i) ∧ gueS S x a (40 + 2 * i) = S (40 + 2 * i) := by
  unfold gueS
  refine ⟨?_, ?_⟩
  all_goals rw [pk_un (by omega), pk_un (by omega), pk_un (by omega)]
theorem gueS_n {x a : Int32} : gueS S x a (39 + 2 * gn S) = x ∧ gueS S x a (40 + 2 * gn S) = a := by
  unfold gueS
  refine ⟨?_, ?_⟩
  · rw [pk_un (by omega), pk_un (by omega), pk_us]
  · rw [pk_un (by omega), pk_us]
theorem gueS_38 {x a : Int32} : gueS S x a 38 = nI (gn S + 1) := by unfold gueS; rw [pk_us]
theorem gueS_iv (I : Iv S K) (hg : gn S ≤ 5) {x a : Nat} (hx : x ≤ 31) (ha : a ≤ 5) : Iv (gueS S (nI x) (nI a)) K := by
  refine I.clue (fun j hj => gueS_o hg (by omega)) ⟨gn S + 1, by omega, gueS_38, fun i hi => ?_⟩ ⟨tn S, I.2.2.1.2, by rw [gueS_o hg (by omega)]; exact I.2.2.1.1⟩
  by_cases hin : i = gn S
  · subst hin
    exact ⟨x, a, hx, ha, gueS_n.1, gueS_n.2⟩
  · rw [(gueS_i (x := nI x) (a := nI a) (show i < gn S by omega)).1, (gueS_i (x := nI x) (a := nI a) (show i < gn S by omega)).2]
    exact I.2.2.2.2.2.2.2.2.2 i (by omega)
theorem addGuess_row (H : HS w h) (R : HR (wI w) h S) (I : Iv S K) (hg : gn S ≤ 5) (x a : Int32) : ∃ w', f_X0_addGuess (h + 3) x a w = some ((), w') ∧ Fr (hset h) w w' ∧ HR (wI w') h (gueS S x a) := by
  obtain ⟨q1, q2, q3, q4⟩ := id R.2.2.1
  have m6 : wI w (h + 3) 6 = nI (gn S) := by rw [q1]; exact I.2.1.1
  have ne4 : h + 3 ≠ h + 4 := by omega
  have ne5 : h + 3 ≠ h + 5 := by omega
  have hlt : nI (gn S) < (6 : Int32) := nI_lt (b := 6) (by omega) (by decide)
  unfold f_X0_addGuess
  simp only [gI_t, H.o3, m6, if_pos hlt]
  rw [gR_t H.o3, H.c1, Option.bind_some, aI_t H.o4 (inb_of H.n4 (by omega) (by decide)), nI_clamp (by omega)]
  have H1 : HS (sI w (h + 4) (gn S) x) h := H.to ⟨rfl, rfl, rfl⟩
  rw [gR_t H1.o3, H1.c2, Option.bind_some, gI_t H1.o3, wI_other ne4, m6, aI_t H1.o5 (inb_of H1.n5 (by omega) (by decide)), nI_clamp (by omega)]
  have H2 : HS (sI (sI w (h + 4) (gn S) x) (h + 5) (gn S) a) h := H.to ⟨rfl, rfl, rfl⟩
  rw [gI_t H2.o3, pI_t H2.o3, wI_other ne5, wI_other ne4, m6, nI_1]
  refine ⟨_, rfl, ?_, ?_⟩
  · have a3 : hset h (h + 3) := ⟨by omega, by omega⟩
    have a4 : hset h (h + 4) := ⟨by omega, by omega⟩
    have a5 : hset h (h + 5) := ⟨by omega, by omega⟩
    exact (Fr.sI a4).tr ((Fr.sI a5).tr (Fr.sI a3))
  · refine R.clue I (fun j hj => gueS_o hg (by omega)) (fun k hk hk2 => by funext j; rw [wI_other (by omega), wI_other (by omega), wI_other (by omega)]) ⟨?_, ?_, fun i hi => ?_, fun i hi => ?_⟩
    · rw [wI_same, gueS_38]
    · rw [wI_place (by decide), wI_other ne5, wI_other ne4, gueS_o hg (by omega)]; exact q2
    · rw [gn_of gueS_38 (by omega)] at hi
      have n1 : h + 4 ≠ h + 3 := by omega
      have n2 : h + 4 ≠ h + 5 := by omega
      have n3 : h + 5 ≠ h + 3 := by omega
      have n4 : h + 5 ≠ h + 4 := by omega
      rw [wI_other n1, wI_other n2, wI_other n3]
      by_cases hin : i = gn S
      · subst hin
        rw [wI_same, wI_same, gueS_n.1, gueS_n.2]
        exact ⟨rfl, rfl⟩
      · rw [wI_place hin, wI_place hin, wI_other n4, (gueS_i (x := x) (a := a) (show i < gn S by omega)).1, (gueS_i (x := x) (a := a) (show i < gn S by omega)).2]
        exact q3 i (by omega)
    · have et : tn (gueS S x a) = tn S := by unfold tn; rw [gueS_o hg (by omega)]
      rw [et] at hi
      have t6 := I.2.2.1.2
      rw [wI_other (by omega), wI_other (by omega), wI_other (by omega), gueS_o hg (by omega)]
      exact q4 i hi
def notS (S : Nat → Int32) (a b c d : Int32) : Nat → Int32 := upd (upd (upd (upd (upd S (52 + 4 * tn S) a) (52 + 4 * tn S + 1) b) (52 + 4 * tn S + 2) c) (52 + 4 * tn S + 3) d) 51 (nI (tn S + 1))
theorem notS_o {a b c d : Int32} (ht : tn S ≤ 5) {j : Nat} (h : j < 51 ∨ 76 ≤ j ∨ (51 < j ∧ j < 52 + 4 * tn S)) : notS S a b c d j = S j := by
  unfold notS; rw [pk_un (by omega), pk_un (by omega), pk_un (by omega), pk_un (by omega), pk_un (by omega)]
theorem notS_51 {a b c d : Int32} : notS S a b c d 51 = nI (tn S + 1) := by unfold notS; rw [pk_us]
theorem notS_n {a b c d : Int32} : notS S a b c d (52 + 4 * tn S) = a ∧ notS S a b c d (52 + 4 * tn S + 1) = b ∧ notS S a b c d (52 + 4 * tn S + 2) = c ∧ notS S a b c d (52 + 4 * tn S + 3) = d := by
  unfold notS
  refine ⟨?_, ?_, ?_, ?_⟩
  · rw [pk_un (by omega), pk_un (by omega), pk_un (by omega), pk_un (by omega), pk_us]
  · rw [pk_un (by omega), pk_un (by omega), pk_un (by omega), pk_us]
  · rw [pk_un (by omega), pk_un (by omega), pk_us]
  · rw [pk_un (by omega), pk_us]
theorem Iv.gs (I : Iv S K) (e : ∀ j, 38 ≤ j → j < 51 → T j = S j) : ∃ u, u ≤ 6 ∧ T 38 = nI u ∧ ∀ i, i < u → ∃ x a : Nat, x ≤ 31 ∧ a ≤ 5 ∧ T (39 + 2 * i) = nI x ∧ T (40 + 2 * i) = nI a := by
  have g6 := I.2.1.2
  refine ⟨gn S, g6, by rw [e 38 (by omega) (by omega)]; exact I.2.1.1, fun i hi => ?_⟩
  rw [e (39 + 2 * i) (by omega) (by omega), e (40 + 2 * i) (by omega) (by omega)]
  exact I.2.2.2.2.2.2.2.2.2 i hi
theorem notS_iv (I : Iv S K) (ht : tn S ≤ 5) {a b c d : Int32} : Iv (notS S a b c d) K :=
  I.clue (fun j hj => notS_o ht (by omega)) (I.gs (fun j h1 h2 => notS_o ht (by omega))) ⟨tn S + 1, by omega, notS_51⟩
theorem addNote_row (H : HS w h) (R : HR (wI w) h S) (I : Iv S K) (ht : tn S ≤ 5) (a b c d : Int32) : ∃ w', f_X0_addNote (h + 3) a b c d w = some ((), w') ∧ Fr (hset h) w w' ∧ HR (wI w') h (notS S a b c d) := by
  obtain ⟨q1, q2, q3, q4⟩ := id R.2.2.1
  have m7 : wI w (h + 3) 7 = nI (tn S) := by rw [q2]; exact I.2.2.1.1
  have ne : h + 3 ≠ h + 6 := by omega
  have hlt : nI (tn S) < (6 : Int32) := nI_lt (b := 6) (by omega) (by decide)
  have e0 : nI (tn S) * 4 = nI (4 * tn S) := by rw [show (4 : Int32) = nI 4 from rfl, pk_mul, Nat.mul_comm]
  have e1 : nI (4 * tn S) + 1 = nI (4 * tn S + 1) := nI_add _ 1
  have e2 : nI (4 * tn S) + 2 = nI (4 * tn S + 2) := nI_add _ 2
  have e3 : nI (4 * tn S) + 3 = nI (4 * tn S + 3) := nI_add _ 3
  have b0 : inb w (h + 6) (nI (4 * tn S)) = true := inb_of H.n6 (by omega) (by decide)
  have b1 : inb w (h + 6) (nI (4 * tn S + 1)) = true := inb_of H.n6 (by omega) (by decide)
  have b2 : inb w (h + 6) (nI (4 * tn S + 2)) = true := inb_of H.n6 (by omega) (by decide)
  have b3 : inb w (h + 6) (nI (4 * tn S + 3)) = true := inb_of H.n6 (by omega) (by decide)
  have c0 : (nI (4 * tn S)).toNatClampNeg = 4 * tn S := nI_clamp (by omega)
  have c1 : (nI (4 * tn S + 1)).toNatClampNeg = 4 * tn S + 1 := nI_clamp (by omega)
  have c2 : (nI (4 * tn S + 2)).toNatClampNeg = 4 * tn S + 2 := nI_clamp (by omega)
  have c3 : (nI (4 * tn S + 3)).toNatClampNeg = 4 * tn S + 3 := nI_clamp (by omega)
  unfold f_X0_addNote
  simp only [gI_t, gR_t, aI_t, pI_t, isO_sI, inb_sI, wR_sI, H.o3, H.o6, H.c3, m7, if_pos hlt, nm_t, e0, e1, e2, e3, b0, b1, b2, b3, c0, c1, c2, c3, Option.bind_some, wI_other ne, nI_1]
  refine ⟨_, rfl, ?_, ?_⟩
  · have a3 : hset h (h + 3) := ⟨by omega, by omega⟩
    have a6 : hset h (h + 6) := ⟨by omega, by omega⟩
    exact (Fr.sI a6).tr ((Fr.sI a6).tr ((Fr.sI a6).tr ((Fr.sI a6).tr (Fr.sI a3))))
  · have g6 := I.2.1.2
    refine R.clue I (fun j hj => notS_o ht (by omega)) (fun k hk hk2 => by funext j; rw [wI_other (by omega), wI_other (by omega), wI_other (by omega), wI_other (by omega), wI_other (by omega)]) ⟨?_, ?_, fun i hi => ?_, fun i hi => ?_⟩
    · rw [wI_place (by decide), wI_other ne, wI_other ne, wI_other ne, wI_other ne, notS_o ht (by omega)]; exact q1
    · rw [wI_same, notS_51]
    · have eg : gn (notS S a b c d) = gn S := by unfold gn; rw [notS_o ht (by omega)]
      rw [eg] at hi
      rw [wI_other (by omega), wI_other (by omega), wI_other (by omega), wI_other (by omega), wI_other (by omega), wI_other (by omega), wI_other (by omega), wI_other (by omega), wI_other (by omega), wI_other (by omega), notS_o ht (by omega), notS_o ht (by omega)]
      exact q3 i hi
    · rw [tn_of notS_51 (by omega)] at hi
      obtain ⟨n0, n1, n2, n3⟩ := notS_n (S := S) (a := a) (b := b) (c := c) (d := d)
      rw [wI_other (by omega)]
      by_cases i3 : i = 4 * tn S + 3
      · rw [i3, wI_same, ← Nat.add_assoc]; exact n3.symm
      · rw [wI_place i3]
        by_cases i2 : i = 4 * tn S + 2
        · rw [i2, wI_same, ← Nat.add_assoc]; exact n2.symm
        · rw [wI_place i2]
          by_cases i1 : i = 4 * tn S + 1
          · rw [i1, wI_same, ← Nat.add_assoc]; exact n1.symm
          · rw [wI_place i1]
            by_cases i0 : i = 4 * tn S
            · rw [i0, wI_same]; exact n0.symm
            · rw [wI_place i0, notS_o ht (by omega)]
              exact q4 i (by omega)
end Q5
