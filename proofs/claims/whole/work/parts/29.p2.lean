/-! the state: a row S of 213 numbers as the reference holds it, and what a house holds of it -/
def nn (S : Nat → Int32) : Nat := (S 19).toNatClampNeg
def gn (S : Nat → Int32) : Nat := (S 38).toNatClampNeg
def tn (S : Nat → Int32) : Nat := (S 51).toNatClampNeg
def un (S : Nat → Int32) : Nat := (S 76).toNatClampNeg
def HG (m : Nat → Nat → Int32) (h : Nat) (S : Nat → Int32) : Prop := ∀ g, g < nn S → m (h + 9 + g) 1 = S (20 + g) ∧ m (h + 9 + g) 2 = S (26 + g) ∧ m (h + 9 + g) 3 = S (32 + g) ∧ m (h + 9 + g) 4 = S g ∧ m (h + 9 + g) 5 = S (6 + g)
def HP (m : Nat → Int32) (n : Nat) (S : Nat → Int32) (p : Nat) : Prop := m (17 * p) = S (77 + 17 * p + 12) ∧ m (17 * p + 1) = S (77 + 17 * p + 13) ∧ m (17 * p + 2) = S (77 + 17 * p + 14) ∧ m (17 * p + 3) = S (77 + 17 * p + 15) ∧ m (17 * p + 4) = S (77 + 17 * p + 16) ∧ ∀ g, g < n → m (17 * p + 5 + 2 * g) = S (77 + 17 * p + g) ∧ m (17 * p + 6 + 2 * g) = S (77 + 17 * p + 6 + g)
def H9 (m : Nat → Int32) (S : Nat → Int32) : Prop := m 3 = S 76 ∧ m 4 = S 19 ∧ m 5 = S 17 ∧ m 6 = S 18 ∧ m 7 = S 15 ∧ m 8 = S 16 ∧ m 9 = S 14 ∧ m 10 = S 12 ∧ m 11 = S 13
def HQ (m : Nat → Nat → Int32) (h : Nat) (S : Nat → Int32) : Prop := m (h + 3) 6 = S 38 ∧ m (h + 3) 7 = S 51 ∧ (∀ i, i < gn S → m (h + 4) i = S (39 + 2 * i) ∧ m (h + 5) i = S (40 + 2 * i)) ∧ (∀ i, i < 4 * tn S → m (h + 6) i = S (52 + i))
def HR (m : Nat → Nat → Int32) (h : Nat) (S : Nat → Int32) : Prop := H9 (m h) S ∧ HG m h S ∧ HQ m h S ∧ ∀ p, p < un S → HP (m (h + 2)) (nn S) S p
/-- a part: BUSHELS, SOLD, SPILLED, MONEY, HOUR, what is ground, COLD -/
def Pv (n : Nat) (Hd : Int32) (K : Nat) (q : Nat → Int32) : Prop :=
  (∃ b : Nat → Nat, (∀ g, g < 6 → q g = nI (b g)) ∧ b 0 + b 1 + b 2 + b 3 + b 4 + b 5 ≤ Hd.toNatClampNeg) ∧ (∀ g, n ≤ g → g < 6 → q g = 0 ∧ q (6 + g) = 0) ∧ (q 15 = -1 ∨ hasg n (q 15)) ∧ (∃ c, c ≤ 9 ∧ q 16 = nI c) ∧ (∃ t, t ≤ K ∧ q 14 = nI t)
def Iv (S : Nat → Int32) (K : Nat) : Prop :=
  (S 19 = nI (nn S) ∧ nn S ≤ 6) ∧ (S 38 = nI (gn S) ∧ gn S ≤ 6) ∧ (S 51 = nI (tn S) ∧ tn S ≤ 6) ∧ (S 76 = nI (un S) ∧ un S ≤ 8) ∧ (∃ H, H ≤ 200 ∧ S 17 = nI H) ∧ (∃ x, x ≤ 31 ∧ S 18 = nI x) ∧
  (∀ g, g < nn S → ∃ k r p : Nat, k < 6 ∧ 1 ≤ r ∧ r ≤ 9 ∧ p ≤ 40 ∧ S (20 + g) = nI k ∧ S (26 + g) = nI r ∧ S (32 + g) = nI p) ∧ Pv (nn S) (S 17) K S ∧ (∀ p, p < un S → Pv (nn S) (S 17) K (fun j => S (77 + 17 * p + j))) ∧ (∀ i, i < gn S → ∃ x a : Nat, x ≤ 31 ∧ a ≤ 5 ∧ S (39 + 2 * i) = nI x ∧ S (40 + 2 * i) = nI a)
theorem nn_of {S : Nat → Int32} {n : Nat} (h : S 19 = nI n) (hn : n < 2 ^ 31) : nn S = n := by unfold nn; rw [h, nI_clamp hn]
theorem gn_of {S : Nat → Int32} {n : Nat} (h : S 38 = nI n) (hn : n < 2 ^ 31) : gn S = n := by unfold gn; rw [h, nI_clamp hn]
theorem tn_of {S : Nat → Int32} {n : Nat} (h : S 51 = nI n) (hn : n < 2 ^ 31) : tn S = n := by unfold tn; rw [h, nI_clamp hn]
theorem un_of {S : Nat → Int32} {n : Nat} (h : S 76 = nI n) (hn : n < 2 ^ 31) : un S = n := by unfold un; rw [h, nI_clamp hn]
/-- it reads 213 numbers alone -/
theorem HR.ext {m : Nat → Nat → Int32} {h : Nat} {S T : Nat → Int32} (H : HR m h S) (I : nn S ≤ 6 ∧ gn S ≤ 6 ∧ tn S ≤ 6 ∧ un S ≤ 8) (e : ∀ j, j < 213 → T j = S j) : HR m h T := by
  obtain ⟨i1, i2, i3, i4⟩ := I
  have e1 : nn T = nn S := by unfold nn; rw [e 19 (by decide)]
  have e2 : gn T = gn S := by unfold gn; rw [e 38 (by decide)]
  have e3 : tn T = tn S := by unfold tn; rw [e 51 (by decide)]
  have e4 : un T = un S := by unfold un; rw [e 76 (by decide)]
  obtain ⟨h1, h2, ⟨q1, q2, q3, q4⟩, h4⟩ := H
  refine ⟨?_, ?_, ⟨?_, ?_, ?_, ?_⟩, ?_⟩
  · unfold H9
    rw [e 76 (by decide), e 19 (by decide), e 17 (by decide), e 18 (by decide), e 15 (by decide), e 16 (by decide), e 14 (by decide), e 12 (by decide), e 13 (by decide)]
    exact h1
  · intro g hg
    rw [e1] at hg
    rw [e (20 + g) (by omega), e (26 + g) (by omega), e (32 + g) (by omega), e g (by omega), e (6 + g) (by omega)]
    exact h2 g hg
  · rw [e 38 (by decide)]; exact q1
  · rw [e 51 (by decide)]; exact q2
  · intro i hi
    rw [e2] at hi
    rw [e (39 + 2 * i) (by omega), e (40 + 2 * i) (by omega)]
    exact q3 i hi
  · intro i hi
    rw [e3] at hi
    rw [e (52 + i) (by omega)]
    exact q4 i hi
  · intro p hp
    rw [e4] at hp
    obtain ⟨a1, a2, a3, a4, a5, a6⟩ := h4 p hp
    refine ⟨?_, ?_, ?_, ?_, ?_, ?_⟩
    · rw [e _ (by omega)]; exact a1
    · rw [e _ (by omega)]; exact a2
    · rw [e _ (by omega)]; exact a3
    · rw [e _ (by omega)]; exact a4
    · rw [e _ (by omega)]; exact a5
    · intro g hg
      rw [e1] at hg
      rw [e (77 + 17 * p + g) (by omega), e (77 + 17 * p + 6 + g) (by omega)]
      exact a6 g hg
theorem Pv.ext {n : Nat} {Hd : Int32} {K : Nat} {q r : Nat → Int32} (hq : Pv n Hd K q) (e : ∀ j, j < 17 → r j = q j) : Pv n Hd K r := by
  obtain ⟨⟨b, b1, b2⟩, h2, h3, h4, h5⟩ := hq
  refine ⟨⟨b, fun g hg => by rw [e g (by omega)]; exact b1 g hg, b2⟩, fun g h1 hg => by rw [e g (by omega), e (6 + g) (by omega)]; exact h2 g h1 hg, by rw [e 15 (by decide)]; exact h3, by rw [e 16 (by decide)]; exact h4, by rw [e 14 (by decide)]; exact h5⟩
theorem Pv.mono {n : Nat} {Hd : Int32} {K K2 : Nat} {q : Nat → Int32} (hq : Pv n Hd K q) (h : K ≤ K2) : Pv n Hd K2 q := by
  obtain ⟨h1, h2, h3, h4, t, ht, e⟩ := hq
  exact ⟨h1, h2, h3, h4, t, by omega, e⟩
theorem Iv.mono {S : Nat → Int32} {K K2 : Nat} (I : Iv S K) (h : K ≤ K2) : Iv S K2 := by
  obtain ⟨h1, h2, h3, h4, h5, h6, h7, h8, h9, h10⟩ := I
  exact ⟨h1, h2, h3, h4, h5, h6, h7, h8.mono h, fun p hp => (h9 p hp).mono h, h10⟩
theorem Iv.ext {S T : Nat → Int32} {K : Nat} (I : Iv S K) (e : ∀ j, j < 213 → T j = S j) : Iv T K := by
  have e1 : nn T = nn S := by unfold nn; rw [e 19 (by decide)]
  have e2 : gn T = gn S := by unfold gn; rw [e 38 (by decide)]
  have e3 : tn T = tn S := by unfold tn; rw [e 51 (by decide)]
  have e4 : un T = un S := by unfold un; rw [e 76 (by decide)]
  obtain ⟨h1, h2, h3, h4, h5, h6, h7, h8, h9, h10⟩ := I
  refine ⟨by rw [e1, e 19 (by decide)]; exact h1, by rw [e2, e 38 (by decide)]; exact h2, by rw [e3, e 51 (by decide)]; exact h3, by rw [e4, e 76 (by decide)]; exact h4, by rw [e 17 (by decide)]; exact h5, by rw [e 18 (by decide)]; exact h6, fun g hg => ?_, ?_, fun p hp => ?_, fun i hi => ?_⟩
  · rw [e1] at hg
    rw [e (20 + g) (by omega), e (26 + g) (by omega), e (32 + g) (by omega)]
    exact h7 g hg
  · rw [e1, e 17 (by decide)]
    exact h8.ext (fun j hj => e j (by omega))
  · rw [e4] at hp
    rw [e1, e 17 (by decide)]
    exact (h9 p hp).ext (fun j hj => e _ (by omega))
  · rw [e2] at hi
    rw [e (39 + 2 * i) (by omega), e (40 + 2 * i) (by omega)]
    exact h10 i hi
/-- frame: only the cells of A may have other ints -/
def Fr (A : Nat → Prop) (w w' : Wd) : Prop := Eqs w w' ∧ wL w' = wL w ∧ ∀ a, ¬ A a → wI w' a = wI w a
theorem Fr.rf {A : Nat → Prop} (w : Wd) : Fr A w w := ⟨Eqs.rf w, rfl, fun _ _ => rfl⟩
theorem Fr.tr {A : Nat → Prop} {a b c : Wd} (h : Fr A a b) (h2 : Fr A b c) : Fr A a c := ⟨h.1.tr h2.1, h2.2.1.trans h.2.1, fun x hx => (h2.2.2 x hx).trans (h.2.2 x hx)⟩
theorem Fr.sI {A : Nat → Prop} {w : Wd} {a k : Nat} {x : Int32} (h : A a) : Fr A w (sI w a k x) := ⟨⟨rfl, rfl, rfl⟩, rfl, fun b hb => by funext j; rw [wI_sI, if_neg (fun (q : b = a ∧ j = k) => hb (by rw [q.1]; exact h))]⟩
theorem Fr.wk {A B : Nat → Prop} {w w' : Wd} (h : Fr A w w') (hab : ∀ a, A a → B a) : Fr B w w' := ⟨h.1, h.2.1, fun a ha => h.2.2 a (fun q => ha (hab a q))⟩
def hset (h : Nat) : Nat → Prop := fun a => h ≤ a ∧ a < h + 15
theorem HR.fr {A : Nat → Prop} {w w' : Wd} {h : Nat} {S : Nat → Int32} (H : HR (wI w) h S) (I : nn S ≤ 6) (f : Fr A w w') (hA : ∀ a, h ≤ a → a < h + 15 → ¬ A a) : HR (wI w') h S := by
  have e : ∀ k, k < 15 → wI w' (h + k) = wI w (h + k) := fun k hk => f.2.2 _ (hA _ (by omega) (by omega))
  obtain ⟨h1, h2, ⟨q1, q2, q3, q4⟩, h4⟩ := H
  refine ⟨?_, fun g hg => ?_, ⟨?_, ?_, ?_, ?_⟩, fun p hp => ?_⟩
  · rw [show wI w' h = wI w h from e 0 (by decide)]; exact h1
  · rw [show h + 9 + g = h + (9 + g) by omega, e (9 + g) (by omega), show h + (9 + g) = h + 9 + g by omega]; exact h2 g hg
  · rw [e 3 (by decide)]; exact q1
  · rw [e 3 (by decide)]; exact q2
  · rw [e 4 (by decide), e 5 (by decide)]; exact q3
  · rw [e 6 (by decide)]; exact q4
  · rw [e 2 (by decide)]; exact h4 p hp
/-! a new mill -/
def newS (x : Int32) : Nat → Int32 := fun j => if j = 17 then x else if j = 15 then -1 else 0
theorem newS_iv {x : Nat} (hx : x ≤ 200) (K : Nat) : Iv (newS (nI x)) K := by
  have e1 : nn (newS (nI x)) = 0 := rfl
  have e2 : gn (newS (nI x)) = 0 := rfl
  have e3 : tn (newS (nI x)) = 0 := rfl
  have e4 : un (newS (nI x)) = 0 := rfl
  refine ⟨⟨rfl, by rw [e1]; decide⟩, ⟨rfl, by rw [e2]; decide⟩, ⟨rfl, by rw [e3]; decide⟩, ⟨rfl, by rw [e4]; decide⟩, ⟨x, hx, rfl⟩, ⟨0, by decide, rfl⟩, fun g hg => absurd hg (by rw [e1]; omega), ?_, fun p hp => absurd hp (by rw [e4]; omega), fun i hi => absurd hi (by rw [e2]; omega)⟩
  refine ⟨⟨fun _ => 0, fun g hg => ?_, Nat.zero_le _⟩, fun g _ hg => ⟨?_, ?_⟩, Or.inl rfl, ⟨0, by decide, rfl⟩, ⟨0, Nat.zero_le _, rfl⟩⟩
  · rcases six hg with rfl | rfl | rfl | rfl | rfl | rfl <;> rfl
  · rcases six hg with rfl | rfl | rfl | rfl | rfl | rfl <;> rfl
  · rcases six hg with rfl | rfl | rfl | rfl | rfl | rfl <;> rfl
theorem startAnew_eq {w : Wd} {h : Nat} (H : HS w h) (x : Int32) : ∃ w', f_X2_startAnew h x w = some ((), w') ∧ Fr (hset h) w w' ∧ HR (wI w') h (newS x) := by
  unfold f_X2_startAnew
  simp only [pI_t, gR_t, isO_sI, wR_sI, H.o, H.o3, H.r1, Option.bind_some]
  refine ⟨_, rfl, ?_, ?_⟩
  · have a0 : hset h h := ⟨by omega, by omega⟩
    have a3 : hset h (h + 3) := ⟨by omega, by omega⟩
    exact (Fr.sI a0).tr ((Fr.sI a0).tr ((Fr.sI a0).tr ((Fr.sI a0).tr ((Fr.sI a0).tr ((Fr.sI a0).tr ((Fr.sI a0).tr ((Fr.sI a0).tr ((Fr.sI a0).tr ((Fr.sI a3).tr (Fr.sI a3))))))))))
  · refine ⟨?_, fun g hg => absurd hg (Nat.not_lt_zero _), ⟨?_, ?_, fun i hi => absurd hi (Nat.not_lt_zero _), fun i hi => absurd hi (Nat.not_lt_zero _)⟩, fun p hp => absurd hp (Nat.not_lt_zero _)⟩
    · refine ⟨?_, ?_, ?_, ?_, ?_, ?_, ?_, ?_, ?_⟩ <;> simp [wI_sI, newS]
    · simp [wI_sI, newS]
    · simp [wI_sI, newS]
