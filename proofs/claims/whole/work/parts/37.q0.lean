/-! what holds between two calls -/
def Im (w : Wd) (K i : Nat) : Prop := wI w 69 i = wI w 97 i ∧ (wI w 97 i = 0 ∨ (wI w 97 i = 1 ∧ HR (wI w) (39 + 15 * i) (fun j => wI w 96 (213 + 213 * i + j)) ∧ Iv (fun j => wI w 96 (213 + 213 * i + j)) K))
def Tx (w : Wd) : Prop := ∃ n, n ≤ 150 ∧ wI w 70 1 = nI n ∧ wI w 95 6 = nI n ∧ ∀ i, i < n → wI w 71 i = wI w 99 i ∧ ∃ c, c < 128 ∧ wI w 99 i = nI c
def WDL : List Int32 := [109, 105, 108, 108, 0, 103, 111, 111, 100, 115, 103, 114, 105, 110, 100, 119, 111, 114, 100, 0, 99, 111, 108, 100, 0]
def Rst (w : Wd) (K : Nat) : Prop := Im w K 0 ∧ Im w K 1 ∧ (∀ i, i < 3 → wI w 94 i = wI w 98 i) ∧ Tx w ∧ (wL w 0 7 = wL w 95 3 ∧ wL w 0 8 = wL w 95 4) ∧ (∀ k, k < 25 → wI w 100 k = WDL.getD k 0)
def Inv (w : Wd) (K : Nat) : Prop := (∃ h0 h1, Sp w h0 h1 ∧ HR (wI w) h0 (wI w 96)) ∧ Iv (wI w 96) K ∧ Rst w K
def Kp (a : Nat) : Prop := (39 ≤ a ∧ a < 70) ∨ a = 71 ∨ a = 94 ∨ (97 ≤ a ∧ a ≤ 100)
theorem HR.eq {m m' : Nat → Nat → Int32} {h : Nat} {S : Nat → Int32} (H : HR m h S) (I : nn S ≤ 6) (e : ∀ k, k < 15 → k ≠ 7 → k ≠ 8 → m' (h + k) = m (h + k)) : HR m' h S := by
  obtain ⟨h1, h2, ⟨q1, q2, q3, q4⟩, h4⟩ := H
  refine ⟨?_, fun g hg => ?_, ⟨?_, ?_, ?_, ?_⟩, fun p hp => ?_⟩
  · rw [show m' h = m h from e 0 (by decide) (by decide) (by decide)]; exact h1
  · rw [show h + 9 + g = h + (9 + g) by omega, e (9 + g) (by omega) (by omega) (by omega), show h + (9 + g) = h + 9 + g by omega]; exact h2 g hg
  · rw [e 3 (by decide) (by decide) (by decide)]; exact q1
  · rw [e 3 (by decide) (by decide) (by decide)]; exact q2
  · rw [e 4 (by decide) (by decide) (by decide), e 5 (by decide) (by decide) (by decide)]; exact q3
  · rw [e 6 (by decide) (by decide) (by decide)]; exact q4
  · rw [e 2 (by decide) (by decide) (by decide)]; exact h4 p hp
section Q0
variable {w w' : Wd} {K K2 : Nat}
theorem Im.to {i : Nat} (h : Im w K i) (hi : i < 2) (hK : K ≤ K2) (hk : ∀ a, Kp a → wI w' a = wI w a) (hr : ∀ j, 213 ≤ j → j < 639 → wI w' 96 j = wI w 96 j) : Im w' K2 i := by
  obtain ⟨h1, h2⟩ := h
  have e69 : wI w' 69 = wI w 69 := hk 69 (by unfold Kp; omega)
  have e97 : wI w' 97 = wI w 97 := hk 97 (by unfold Kp; omega)
  refine ⟨by rw [e69, e97]; exact h1, ?_⟩
  rw [e97]
  refine h2.imp id (fun ⟨a, b, c⟩ => ⟨a, ?_, ?_⟩)
  · refine (HR.ext b c.q4 (fun j hj => hr _ (by omega) (by omega))).eq ?_ (fun k hk2 _ _ => hk _ (by unfold Kp; omega))
    have : nn (fun j => wI w' 96 (213 + 213 * i + j)) = nn (fun j => wI w 96 (213 + 213 * i + j)) := by
      show (wI w' 96 (213 + 213 * i + 19)).toNatClampNeg = _
      rw [hr _ (by omega) (by omega)]
      rfl
    rw [this]; exact c.q4.1
  · exact (c.ext (fun j hj => hr _ (by omega) (by omega))).mono hK
theorem Tx.to (h : Tx w) (hk : ∀ a, Kp a → wI w' a = wI w a) (h1 : wI w' 70 1 = wI w 70 1) (h2 : wI w' 95 6 = wI w 95 6) : Tx w' := by
  obtain ⟨n, a, b, c, d⟩ := h
  refine ⟨n, a, by rw [h1]; exact b, by rw [h2]; exact c, ?_⟩
  rw [hk 71 (by unfold Kp; omega), hk 99 (by unfold Kp; omega)]
  exact d
theorem Rst.to (h : Rst w K) (hK : K ≤ K2) (hk : ∀ a, Kp a → wI w' a = wI w a) (h1 : wI w' 70 1 = wI w 70 1) (h2 : wI w' 95 6 = wI w 95 6) (hr : ∀ j, 213 ≤ j → j < 639 → wI w' 96 j = wI w 96 j) (hL : wL w' = wL w) : Rst w' K2 := by
  obtain ⟨a, b, c, d, e, f⟩ := h
  refine ⟨a.to (by decide) hK hk hr, b.to (by decide) hK hk hr, ?_, d.to hk h1 h2, by rw [hL]; exact e, ?_⟩
  · rw [hk 94 (by unfold Kp; omega), hk 98 (by unfold Kp; omega)]; exact c
  · rw [hk 100 (by unfold Kp; omega)]; exact f
/-- a question changes nothing that counts -/
def Qt (w w' : Wd) : Prop := Eqs w w' ∧ wL w' = wL w ∧ (∀ a, (Kp a ∨ (8 ≤ a ∧ a < 38 ∧ a ≠ 15 ∧ a ≠ 16 ∧ a ≠ 30 ∧ a ≠ 31)) → wI w' a = wI w a) ∧ wI w' 70 1 = wI w 70 1 ∧ wI w' 95 6 = wI w 95 6 ∧ ∀ j, j < 639 → wI w' 96 j = wI w 96 j
theorem Qt.rf : Qt w w := ⟨Eqs.rf w, rfl, fun _ _ => rfl, rfl, rfl, fun _ _ => rfl⟩
theorem Qt.tr {w'' : Wd} (a : Qt w w') (b : Qt w' w'') : Qt w w'' := ⟨a.1.tr b.1, b.2.1.trans a.2.1, fun x hx => (b.2.2.1 x hx).trans (a.2.2.1 x hx), b.2.2.2.1.trans a.2.2.2.1, b.2.2.2.2.1.trans a.2.2.2.2.1, fun j hj => (b.2.2.2.2.2 j hj).trans (a.2.2.2.2.2 j hj)⟩
theorem Qt.fr {A : Nat → Prop} (f : Fr A w w') (hA : ∀ a, A a → (72 ≤ a ∧ a < 94) ∨ 101 ≤ a ∨ a = 15 ∨ a = 16 ∨ a = 30 ∨ a = 31) : Qt w w' := by
  have e : ∀ a, ¬ ((72 ≤ a ∧ a < 94) ∨ 101 ≤ a ∨ a = 15 ∨ a = 16 ∨ a = 30 ∨ a = 31) → wI w' a = wI w a := fun a ha => f.2.2 a (fun q => ha (hA a q))
  refine ⟨f.1, f.2.1, fun a ha => e a (by unfold Kp at ha; omega), ?_, ?_, fun j _ => ?_⟩
  · rw [e 70 (by omega)]
  · rw [e 95 (by omega)]
  · rw [e 96 (by omega)]
theorem Qt.row {T : Nat → Int32} (h : ∀ j, j < 639 → T j = wI w 96 j) : Qt w (cW w 96 T) := ⟨Eqs.cW, rfl, fun a ha => cW_o (by unfold Kp at ha; omega), by rw [cW_o (by decide)], by rw [cW_o (by decide)], fun j hj => by rw [cW_s]; exact h j hj⟩
theorem Inv.qt (V : Inv w K) (q : Qt w w') (hK : K ≤ K2) : Inv w' K2 := by
  obtain ⟨⟨h0, h1, s, r⟩, I, R⟩ := V
  obtain ⟨q1, q2, q3, q4, q5, q6⟩ := q
  have e6 : nn (wI w' 96) = nn (wI w 96) := by unfold nn; rw [q6 19 (by decide)]
  refine ⟨⟨h0, h1, s.to q1, ?_⟩, (I.ext (fun j hj => q6 j (by omega))).mono hK, R.to hK (fun a ha => q3 a (Or.inl ha)) q4 q5 (fun j _ hj => q6 j hj) q2⟩
  refine (HR.ext r I.q4 (fun j hj => q6 j (by omega))).eq (by rw [e6]; exact I.q4.1) (fun k hk h7 h8 => q3 _ (Or.inr ?_))
  have hh : h0 = 8 ∨ h0 = 23 := s.2.2.2.2.2.imp (fun q => q.1) (fun q => q.1)
  rcases hh with rfl | rfl
  · omega
  · omega
/-- the house of now changes, and the row with it -/
theorem Inv.mut {h0 h1 : Nat} {S' T : Nat → Int32} (V : Inv w K) (s : Sp w h0 h1) (f : Fr (hset h0) w w') (r : HR (wI w') h0 S') (I : Iv S' K2) (hT : ∀ j, j < 213 → T j = S' j) (hT2 : ∀ j, 213 ≤ j → j < 639 → T j = wI w 96 j) (hK : K ≤ K2) : Inv (cW w' 96 T) K2 := by
  obtain ⟨_, _, R⟩ := V
  have hh : h0 = 8 ∨ h0 = 23 := s.2.2.2.2.2.imp (fun q => q.1) (fun q => q.1)
  have e6 : nn T = nn S' := by unfold nn; rw [hT 19 (by decide)]
  refine ⟨⟨h0, h1, (s.to f.1).to Eqs.cW, ?_⟩, ?_, R.to hK (fun a ha => ?_) ?_ ?_ (fun j h1 h2 => ?_) f.2.1⟩
  · rw [cW_s]
    exact (HR.ext r I.q4 hT).eq (by rw [e6]; exact I.q4.1) (fun k hk h7 h8 => cW_o (by omega))
  · rw [cW_s]
    exact I.ext hT
  · have : a ≠ 96 ∧ ¬ hset h0 a := by unfold Kp at ha; unfold hset; omega
    rw [cW_o this.1, f.2.2 a this.2]
  · rw [cW_o (by decide), f.2.2 70 (by unfold hset; omega)]
  · rw [cW_o (by decide), f.2.2 95 (by unfold hset; omega)]
  · rw [cW_s]; exact hT2 j h1 h2
/-- refused by both -/
theorem Inv.rf {j : Nat} (V : Inv w K) (hj : j < 3) (hK : K ≤ K2) : Inv (cW (cW w 94 (rfT j (wI w 94))) 98 (rfT j (wI w 98))) K2 := by
  obtain ⟨⟨h0, h1, s, r⟩, I, ⟨R1, R2, R3, R4, R5, R6⟩⟩ := V
  have hh : h0 = 8 ∨ h0 = 23 := s.2.2.2.2.2.imp (fun q => q.1) (fun q => q.1)
  generalize hw : cW (cW w 94 (rfT j (wI w 94))) 98 (rfT j (wI w 98)) = w2
  have e : ∀ a, a ≠ 94 → a ≠ 98 → wI w2 a = wI w a := fun a h1 h2 => by rw [← hw, cW_o h2, cW_o h1]
  have im : ∀ i, i < 2 → Im w K i → Im w2 K2 i := fun i hi ⟨a, b⟩ => by
    refine ⟨by rw [e 69 (by decide) (by decide), e 97 (by decide) (by decide)]; exact a, ?_⟩
    rw [e 97 (by decide) (by decide), e 96 (by decide) (by decide)]
    exact b.imp id (fun ⟨x, y, z⟩ => ⟨x, y.eq z.q4.1 (fun k hk _ _ => e _ (by omega) (by omega)), z.mono hK⟩)
  refine ⟨⟨h0, h1, (s.to Eqs.cW).to (by rw [← hw]; exact Eqs.cW), ?_⟩, ?_, im 0 (by decide) R1, im 1 (by decide) R2, fun i hi => ?_, ?_, ?_, ?_⟩
  · rw [e 96 (by decide) (by decide)]
    exact r.eq I.q4.1 (fun k hk _ _ => e _ (by omega) (by omega))
  · rw [e 96 (by decide) (by decide)]; exact I.mono hK
  · rw [← hw, cW_s, cW_o (by decide), cW_s]
    unfold rfT
    by_cases h1 : i = j
    · subst h1; rw [pk_us, pk_us, R3 i hi]
    · rw [pk_un h1, pk_un h1]; exact R3 i hi
  · obtain ⟨n, a, b, c, d⟩ := R4
    refine ⟨n, a, by rw [e 70 (by decide) (by decide)]; exact b, by rw [e 95 (by decide) (by decide)]; exact c, ?_⟩
    rw [e 71 (by decide) (by decide), e 99 (by decide) (by decide)]
    exact d
  · rw [← hw]; exact R5
  · rw [e 100 (by decide) (by decide)]; exact R6
theorem Inv.ms (V : Inv w K) : MS w := by obtain ⟨⟨h0, h1, s, r⟩, -⟩ := V; exact ⟨h0, h1, s⟩
/-- two calls answer alike, and what holds goes on holding -/
def Pr {α : Type} (w : Wd) (K : Nat) (A B : Wd → Option (α × Wd)) : Prop := ∃ r w1 w2, A w = some (r, w1) ∧ B w1 = some (r, w2) ∧ Inv w2 K
theorem Pr.rfj {α : Type} {r : α} {A B : Wd → Option (α × Wd)} (V : Inv w K) (j : Nat) (hj : j < 3) (a : A w = some (r, cW w 94 (rfT j (wI w 94)))) (b : B (cW w 94 (rfT j (wI w 94))) = some (r, cW (cW w 94 (rfT j (wI w 94))) 98 (rfT j (wI (cW w 94 (rfT j (wI w 94))) 98)))) : Pr w (K + 60) A B := by
  refine ⟨r, _, _, a, b, ?_⟩
  rw [cW_o (by decide)]
  exact V.rf hj (by omega)
theorem Pr.qt {α : Type} {r : α} {w1 w2 : Wd} {A B : Wd → Option (α × Wd)} (V : Inv w K) (a : A w = some (r, w1)) (qa : Qt w w1) (b : B w1 = some (r, w2)) (qb : Qt w1 w2) : Pr w (K + 60) A B := ⟨r, w1, w2, a, b, V.qt (qa.tr qb) (by omega)⟩
end Q0
