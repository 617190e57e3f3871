section TR
variable {m m' : Nat → Nat → Int32} {h : Nat} {S S' : Nat → Int32}
theorem HQ.tr (Q : HQ m h S) (e3 : m' (h + 3) = m (h + 3)) (e4 : m' (h + 4) = m (h + 4)) (e5 : m' (h + 5) = m (h + 5)) (e6 : m' (h + 6) = m (h + 6)) (hS : ∀ j, 38 ≤ j → j < 76 → S' j = S j) (hg : gn S ≤ 6) (ht : tn S ≤ 6) : HQ m' h S' := by
  obtain ⟨q1, q2, q3, q4⟩ := Q
  have eg : gn S' = gn S := by unfold gn; rw [hS 38 (by decide) (by decide)]
  have et : tn S' = tn S := by unfold tn; rw [hS 51 (by decide) (by decide)]
  refine ⟨by rw [e3, hS 38 (by decide) (by decide)]; exact q1, by rw [e3, hS 51 (by decide) (by decide)]; exact q2, fun i hi => ?_, fun i hi => ?_⟩
  · rw [eg] at hi
    rw [e4, e5, hS (39 + 2 * i) (by omega) (by omega), hS (40 + 2 * i) (by omega) (by omega)]
    exact q3 i hi
  · rw [et] at hi
    rw [e6, hS (52 + i) (by omega) (by omega)]
    exact q4 i hi
theorem HPs.tr (P : ∀ p, p < un S → HP (m (h + 2)) (nn S) S p) (e : m' (h + 2) = m (h + 2)) (hS : ∀ j, 76 ≤ j → j < 213 → S' j = S j) (h19 : S' 19 = S 19) (hn : nn S ≤ 6) (hu : un S ≤ 8) : ∀ p, p < un S' → HP (m' (h + 2)) (nn S') S' p := by
  have en : nn S' = nn S := by unfold nn; rw [h19]
  have eu : un S' = un S := by unfold un; rw [hS 76 (by decide) (by decide)]
  intro p hp
  rw [eu] at hp
  rw [en, e]
  obtain ⟨a1, a2, a3, a4, a5, a6⟩ := P p hp
  refine ⟨?_, ?_, ?_, ?_, ?_, fun g hg => ?_⟩
  · rw [hS _ (by omega) (by omega)]; exact a1
  · rw [hS _ (by omega) (by omega)]; exact a2
  · rw [hS _ (by omega) (by omega)]; exact a3
  · rw [hS _ (by omega) (by omega)]; exact a4
  · rw [hS _ (by omega) (by omega)]; exact a5
  · rw [hS (77 + 17 * p + g) (by omega) (by omega), hS (77 + 17 * p + 6 + g) (by omega) (by omega)]; exact a6 g hg
theorem HG.tr (G : HG m h S) (e : ∀ g, g < 6 → m' (h + 9 + g) = m (h + 9 + g)) (hS : ∀ j, j < 12 → S' j = S j) (hS2 : ∀ j, 19 ≤ j → j < 38 → S' j = S j) (hn : nn S ≤ 6) : HG m' h S' := by
  have en : nn S' = nn S := by unfold nn; rw [hS2 19 (by decide) (by decide)]
  intro g hg
  rw [en] at hg
  rw [e g (by omega), hS2 (20 + g) (by omega) (by omega), hS2 (26 + g) (by omega) (by omega), hS2 (32 + g) (by omega) (by omega), hS g (by omega), hS (6 + g) (by omega)]
  exact G g hg
end TR
/-! what may be undone -/
def putP (S : Nat → Int32) (u : Nat) : Nat → Int32 := fun j => if 77 + 17 * u ≤ j ∧ j < 77 + 17 * u + 17 then S (j - (77 + 17 * u)) else if j = 76 then nI (u + 1) else S j
def shP (S : Nat → Int32) : Nat → Int32 := fun j => if 77 ≤ j ∧ j < 196 then S (j + 17) else if j = 76 then nI 7 else S j
def keepS (S : Nat → Int32) : Nat → Int32 := if un S < 8 then putP S (un S) else putP (shP S) 7
theorem putP_in {S : Nat → Int32} {u j : Nat} (hj : j < 17) : putP S u (77 + 17 * u + j) = S j := by unfold putP; rw [if_pos ⟨by omega, by omega⟩, Nat.add_sub_cancel_left]
theorem putP_76 {S : Nat → Int32} {u : Nat} : putP S u 76 = nI (u + 1) := by unfold putP; rw [if_neg (by omega), if_pos rfl]
theorem putP_o {S : Nat → Int32} {u j : Nat} (h1 : j ≠ 76) (h2 : j < 77 + 17 * u ∨ 77 + 17 * u + 17 ≤ j) : putP S u j = S j := by unfold putP; rw [if_neg (by omega), if_neg h1]
theorem shP_in {S : Nat → Int32} {j : Nat} (h1 : 77 ≤ j) (h2 : j < 196) : shP S j = S (j + 17) := by unfold shP; rw [if_pos ⟨h1, h2⟩]
theorem shP_76 {S : Nat → Int32} : shP S 76 = nI 7 := by unfold shP; rw [if_neg (by omega), if_pos rfl]
theorem shP_o {S : Nat → Int32} {j : Nat} (h1 : j < 76 ∨ 196 ≤ j) : shP S j = S j := by unfold shP; rw [if_neg (by omega), if_neg (by omega)]
section P5
variable {h : Nat} {K : Nat}
theorem remember_lp {n u : Nat} (hn : n ≤ 6) (hu : u ≤ 7) : ∀ (d i fuel : Nat) (w : Wd), HS w h → wI w h 4 = nI n → i + d = n → d < fuel → ∃ w', f_X2_remember_99 fuel h (nI (17 * u)) (nI i) w = some ((), w') ∧ Fr (fun a => a = h ∨ a = h + 2) w w' ∧ (∀ j, j ≠ 3 → wI w' h j = wI w h j) ∧ wI w' h 3 = wI w h 3 + 1 ∧ (∀ g, i ≤ g → g < n → wI w' (h + 2) (17 * u + 5 + 2 * g) = wI w (h + 9 + g) 4 ∧ wI w' (h + 2) (17 * u + 6 + 2 * g) = wI w (h + 9 + g) 5) ∧ (∀ j, (∀ g, i ≤ g → g < n → j ≠ 17 * u + 5 + 2 * g ∧ j ≠ 17 * u + 6 + 2 * g) → wI w' (h + 2) j = wI w (h + 2) j) := by
  intro d
  induction d with
  | zero =>
    intro i fuel w H hm hi hf
    obtain ⟨f, rfl⟩ : ∃ f, fuel = f + 1 := ⟨fuel - 1, by omega⟩
    rw [f_X2_remember_99, gI_t H.o, hm, if_pos (nI_le (by omega) (by omega)), gI_t H.o, pI_t H.o]
    refine ⟨_, rfl, Fr.sI (Or.inl rfl), fun j hj => wI_place hj, wI_same, fun g h1 h2 => absurd h2 (by omega), fun j _ => ?_⟩
    exact wI_other (by omega)
  | succ d ih =>
    intro i fuel w H hm hi hf
    obtain ⟨f, rfl⟩ : ∃ f, fuel = f + 1 := ⟨fuel - 1, by omega⟩
    have e5 : nI (17 * u) + 5 + 2 * nI i = nI (17 * u + 5 + 2 * i) := by
      rw [show (5 : Int32) = nI 5 from rfl, show (2 : Int32) = nI 2 from rfl, nI_add, pk_mul, nI_add]
    have e6 : nI (17 * u) + 6 + 2 * nI i = nI (17 * u + 6 + 2 * i) := by
      rw [show (6 : Int32) = nI 6 from rfl, show (2 : Int32) = nI 2 from rfl, nI_add, pk_mul, nI_add]
    rw [f_X2_remember_99, gI_t H.o, hm, if_neg (nI_ge (by omega) (by omega))]
    simp only [e5, e6, nI_1]
    rw [gR_t H.o, H.r2, Option.bind_some, gR_t H.o, H.r0, Option.bind_some, lR_t H.o1 (inb_of H.n1 (by omega) (by decide)), nI_clamp (by omega), H.rg (by omega), Option.bind_some, gI_t (H.og (by omega)), aI_t H.o2 (inb_of H.n2 (by omega) (by decide)), nI_clamp (by omega)]
    have H1 : HS (sI w (h + 2) (17 * u + 5 + 2 * i) (wI w (h + 9 + i) 4)) h := H.to ⟨rfl, rfl, rfl⟩
    rw [gR_t H1.o, H1.r2, Option.bind_some, gR_t H1.o, H1.r0, Option.bind_some, lR_t H1.o1 (inb_of H1.n1 (by omega) (by decide)), nI_clamp (by omega), H1.rg (by omega), Option.bind_some, gI_t (H1.og (by omega)), aI_t H1.o2 (inb_of H1.n2 (by omega) (by decide)), nI_clamp (by omega), wI_other (by omega)]
    generalize hw2 : sI (sI w (h + 2) (17 * u + 5 + 2 * i) (wI w (h + 9 + i) 4)) (h + 2) (17 * u + 6 + 2 * i) (wI w (h + 9 + i) 5) = w2
    have H2 : HS w2 h := by rw [← hw2]; exact H.to ⟨rfl, rfl, rfl⟩
    have f2 : Fr (fun a => a = h + 2) w w2 := by rw [← hw2]; exact (Fr.sI (A := fun a => a = h + 2) rfl).tr (Fr.sI (A := fun a => a = h + 2) rfl)
    obtain ⟨w', q1, q2, q3, q4, q5, q6⟩ := ih (i + 1) f w2 H2 (by rw [f2.2.2 h (by omega)]; exact hm) (by omega) (by omega)
    refine ⟨w', q1, (f2.wk (fun a ha => Or.inr ha)).tr q2, fun j hj => ?_, ?_, fun g h1 h2 => ?_, fun j hj => ?_⟩
    · rw [q3 j hj, f2.2.2 h (by omega)]
    · rw [q4, f2.2.2 h (by omega)]
    · by_cases hgi : g = i
      · subst hgi
        rw [q6 (17 * u + 5 + 2 * g) (fun k k1 k2 => ⟨by omega, by omega⟩), q6 (17 * u + 6 + 2 * g) (fun k k1 k2 => ⟨by omega, by omega⟩), ← hw2]
        exact ⟨by rw [wI_place (by omega), wI_same], wI_same⟩
      · rw [← f2.2.2 (h + 9 + g) (by omega)]
        exact q5 g (by omega) h2
    · rw [q6 j (fun g h1 h2 => hj g (by omega) h2), ← hw2, wI_place (hj i (by omega) (by omega)).2, wI_place (hj i (by omega) (by omega)).1]
/-- remember, with u that may be undone so far, 7 at most -/
theorem remember_31 {w : Wd} {S : Nat → Int32} (H : HS w h) (R : HR (wI w) h S) (I : Iv S K) (hu : un S < 8) : ∃ w', f_X2_remember_31 h w = some ((), w') ∧ Fr (hset h) w w' ∧ HR (wI w') h (putP S (un S)) := by
  obtain ⟨⟨r3, r4, r5, r6, r7, r8, r9, r10, r11⟩, RG, RQ, RP⟩ := id R
  have hn := I.n.2
  have em : ∀ k : Nat, nI (17 * un S) + nI k = nI (17 * un S + k) := fun k => nI_add _ _
  have e1 := em 1
  have e2 := em 2
  have e3 := em 3
  have e4 := em 4
  unfold f_X2_remember_31
  rw [gI_t H.o, r3, I.2.2.2.1.1, nm_t, show (17 : Int32) = nI 17 from rfl, pk_mul, Nat.mul_comm, show (1 : Int32) = nI 1 from rfl, show (2 : Int32) = nI 2 from rfl, show (3 : Int32) = nI 3 from rfl, show (4 : Int32) = nI 4 from rfl]
  simp only [e1, e2, e3, e4]
  have b0 : ∀ k, k < 5 → inb w (h + 2) (nI (17 * un S + k)) = true := fun k hk => inb_of H.n2 (by omega) (by decide)
  have b1 : inb w (h + 2) (nI (17 * un S)) = true := inb_of H.n2 (by omega) (by decide)
  have c1 : (nI (17 * un S)).toNatClampNeg = 17 * un S := nI_clamp (by omega)
  have c2 : ∀ k, k < 5 → (nI (17 * un S + k)).toNatClampNeg = 17 * un S + k := fun k hk => nI_clamp (by omega)
  simp only [gR_t, gI_t, aI_t, isO_sI, wR_sI, inb_sI, H.o, H.o2, H.r2, Option.bind_some, b1, b0 1 (by decide), b0 2 (by decide), b0 3 (by decide), b0 4 (by decide), c1, c2 1 (by decide), c2 2 (by decide), c2 3 (by decide), c2 4 (by decide)]
  have ne : h ≠ h + 2 := by omega
  simp only [wI_other ne, r7, r8, r9, r10, r11]
  generalize hw2 : sI (sI (sI (sI (sI w (h + 2) (17 * un S) (S 12)) (h + 2) (17 * un S + 1) (S 13)) (h + 2) (17 * un S + 2) (S 14)) (h + 2) (17 * un S + 3) (S 15)) (h + 2) (17 * un S + 4) (S 16) = w2
  have H2 : HS w2 h := by rw [← hw2]; exact H.to ⟨rfl, rfl, rfl⟩
  have f2 : Fr (fun a => a = h + 2) w w2 := by rw [← hw2]; exact (Fr.sI (A := fun a => a = h + 2) rfl).tr ((Fr.sI (A := fun a => a = h + 2) rfl).tr ((Fr.sI (A := fun a => a = h + 2) rfl).tr ((Fr.sI (A := fun a => a = h + 2) rfl).tr (Fr.sI (A := fun a => a = h + 2) rfl))))
  have eh : wI w2 h = wI w h := f2.2.2 h (by omega)
  obtain ⟨w', q1, q2, q3, q4, q5, q6⟩ := remember_lp (h := h) hn (show un S ≤ 7 by omega) (nn S) 0 4096 w2 H2 (by rw [eh, r4]; exact I.n.1) (by omega) (by omega)
  have q1' : f_X2_remember_99 4096 h (nI (17 * un S)) 0 w2 = some ((), w') := q1
  refine ⟨w', q1', ((f2.wk (fun a (ha : a = h + 2) => Or.inr ha)).tr q2).wk (fun a ha => by rcases ha with ha | ha <;> exact ⟨by omega, by omega⟩), ?_⟩
  have fr : ∀ a, a ≠ h → a ≠ h + 2 → wI w' a = wI w a := fun a h1 h2 => (q2.2.2 a (fun q => q.elim h1 h2)).trans (f2.2.2 a h2)
  have en : nn (putP S (un S)) = nn S := by unfold nn; rw [putP_o (by decide) (by omega)]
  have eu : un (putP S (un S)) = un S + 1 := un_of putP_76 (by omega)
  refine ⟨?_, HG.tr RG (fun g hg => fr _ (by omega) (by omega)) (fun j hj => putP_o (by omega) (by omega)) (fun j h1 h2 => putP_o (by omega) (by omega)) hn, HQ.tr RQ (fr _ (by omega) (by omega)) (fr _ (by omega) (by omega)) (fr _ (by omega) (by omega)) (fr _ (by omega) (by omega)) (fun j h1 h2 => putP_o (by omega) (by omega)) I.2.1.2 I.2.2.1.2, fun p hp => ?_⟩
  · refine ⟨?_, ?_, ?_, ?_, ?_, ?_, ?_, ?_, ?_⟩
    · rw [q4, eh, r3, putP_76, I.2.2.2.1.1, nI_1]
    all_goals rw [q3 _ (by decide), eh, putP_o (by decide) (by omega)]; assumption
  · rw [eu] at hp
    rw [en]
    by_cases hpu : p = un S
    · subst hpu
      refine ⟨?_, ?_, ?_, ?_, ?_, fun g hg => ?_⟩
      · rw [putP_in (by decide), q6 _ (fun g _ _ => ⟨by omega, by omega⟩), ← hw2]; simp [wI_sI]
      · rw [putP_in (by decide), q6 _ (fun g _ _ => ⟨by omega, by omega⟩), ← hw2]; simp [wI_sI]
      · rw [putP_in (by decide), q6 _ (fun g _ _ => ⟨by omega, by omega⟩), ← hw2]; simp [wI_sI]
      · rw [putP_in (by decide), q6 _ (fun g _ _ => ⟨by omega, by omega⟩), ← hw2]; simp [wI_sI]
      · rw [putP_in (by decide), q6 _ (fun g _ _ => ⟨by omega, by omega⟩), ← hw2]; simp [wI_sI]
      · rw [Nat.add_assoc (77 + 17 * un S), putP_in (by omega), putP_in (by omega), (q5 g (by omega) hg).1, (q5 g (by omega) hg).2, f2.2.2 (h + 9 + g) (by omega)]
        exact ⟨(RG g hg).2.2.2.1, (RG g hg).2.2.2.2⟩
    · have hp2 : p < un S := by omega
      obtain ⟨a1, a2, a3, a4, a5, a6⟩ := RP p hp2
      have old : ∀ j, j < 17 * un S → wI w' (h + 2) j = wI w (h + 2) j := fun j hj => by
        rw [q6 j (fun g _ _ => ⟨by omega, by omega⟩), ← hw2, wI_place (by omega), wI_place (by omega), wI_place (by omega), wI_place (by omega), wI_place (by omega)]
      refine ⟨?_, ?_, ?_, ?_, ?_, fun g hg => ?_⟩
      · rw [putP_o (by omega) (by omega), old _ (by omega)]; exact a1
      · rw [putP_o (by omega) (by omega), old _ (by omega)]; exact a2
      · rw [putP_o (by omega) (by omega), old _ (by omega)]; exact a3
      · rw [putP_o (by omega) (by omega), old _ (by omega)]; exact a4
      · rw [putP_o (by omega) (by omega), old _ (by omega)]; exact a5
      · rw [putP_o (j := 77 + 17 * p + g) (by omega) (by omega), putP_o (j := 77 + 17 * p + 6 + g) (by omega) (by omega), old _ (by omega), old _ (by omega)]; exact a6 g hg
end P5
