section S8
variable {w w' : Wd} {h k K K2 : Nat} {S T : Nat → Int32}
theorem yN_ref (I : Iv (wI w 96) K) (e : ∀ j, j < 639 → wI w' 96 j = wI w 96 j) : ∀ g, g < nn (wI w 96) → (∃ k, k < 6 ∧ wI w' 96 (20 + g) = nI k ∧ gk k (wI w' 96 (26 + g)) 0 (wI w' 96 16) = nI (yN (wI w 96) g)) ∧ yN (wI w 96) g ≤ 12 := fun g hg => by
  have hn := I.n.2
  obtain ⟨a, b⟩ := yN_eq I hg
  obtain ⟨k, hk, ek⟩ := I.kd hg
  refine ⟨⟨k, hk, by rw [e _ (by omega)]; exact ek, ?_⟩, b⟩
  rw [e _ (by omega), e 16 (by decide), ← a]
  unfold yI
  rw [ek, nI_clamp (by omega)]
/-- as Pr, of questions -/
def Pq {α : Type} (w : Wd) (A B : Wd → Option (α × Wd)) : Prop := ∃ r w1 w2, A w = some (r, w1) ∧ Qt w w1 ∧ B w1 = some (r, w2) ∧ Qt w1 w2
theorem just_core (V : Inv w K) {n : Nat} (hn : n ≤ 60) {y : Int32} (hy : y = -1 ∨ hasg (nn (wI w 96)) y) : Pq w (f_X11_just_31 0 (nI n) y) (f_X12_just_28 95 (nI n) y) := by
  have M := V.ms
  obtain ⟨⟨h0, h1, s, r⟩, I, R⟩ := id V
  have hN := I.n.2
  obtain ⟨w1, q1, e1, k1⟩ := fewestHours_eq M s.ho r I (by have := s.hh; omega) hn
  have M1 : MS w1 := M.to q1.1
  have e96 := q1.2.2.2.2.2
  have hy1 := yN_ref I e96
  obtain ⟨T2, t2, r2⟩ := layFewest_eq M1 hN hn (by rw [e96 19 (by decide)]; exact I.n.1) hy1
  have M2 : MS (cW w1 102 T2) := M1.cW
  have q2 : Qt w1 (cW w1 102 T2) := Qt.c (by omega)
  have rn : T2 n = nI (op (yN (wI w 96)) (nn (wI w 96)) 999 0 n) := by
    have := r2 0 (Nat.zero_le _) n (by omega)
    rw [Nat.mul_zero, Nat.zero_add] at this
    exact this
  have A : f_X11_just_31 0 (nI n) y w = if (if op (yN (wI w 96)) (nn (wI w 96)) 1000 0 n < 1000 then nI (op (yN (wI w 96)) (nn (wI w 96)) 1000 0 n) else -1) = (-1 : Int32) then some ((if op (yN (wI w 96)) (nn (wI w 96)) 1000 0 n < 1000 then nI (op (yN (wI w 96)) (nn (wI w 96)) 1000 0 n) else -1), w1) else if y = -1 then some ((if op (yN (wI w 96)) (nn (wI w 96)) 1000 0 n < 1000 then nI (op (yN (wI w 96)) (nn (wI w 96)) 1000 0 n) else -1), w1) else lI w1 73 14 y fun x7 => some (x7, w1) := by
    unfold f_X11_just_31
    rw [M.rf 0 11 3 72 (by decide) (by decide), ng_t s, M.cv 72 7 (by decide), e1, cal_t, M1.rf 0 11 3 72 (by decide) (by decide), M1.rf 72 7 0 73 (by decide) (by decide)]
    rfl
  have B : f_X12_just_28 95 (nI n) y w1 = if nI (op (yN (wI w 96)) (nn (wI w 96)) 999 0 n) < (999 : Int32) then (if y = -1 then some (nI (op (yN (wI w 96)) (nn (wI w 96)) 999 0 n), cW w1 102 T2) else f_X12_just_67 4096 95 y (nI n) 0 0 (cW w1 102 T2)) else some (-1, cW w1 102 T2) := by
    unfold f_X12_just_28
    rw [mc_t M1, t2, cal_t, M2.rf 95 12 16 102 (by decide) (by decide), M2.ld 102 427 (by decide) (by decide) (by omega) (by decide), M2.rf 95 12 16 102 (by decide) (by decide), M2.ld 102 427 (by decide) (by decide) (by omega) (by decide), cW_s, rn]
  by_cases c : op (yN (wI w 96)) (nn (wI w 96)) 1000 0 n < 1000
  · have hf := op_lt c
    have e99 := (NSt_eq hn hf 0 (Nat.zero_le _) (fun j hj => absurd hj (by omega))).2
    have vb := rp_le _ _ (op_yes (B := 1000) hf).1
    rw [if_pos c, if_neg (nI_ne_m1 (by omega))] at A
    rw [e99, if_pos (show nI (op (yN (wI w 96)) (nn (wI w 96)) 1000 0 n) < (999 : Int32) from nI_lt (b := 999) (by omega) (by decide))] at B
    rcases hy with rfl | ⟨i, hi, rfl⟩
    · rw [if_pos rfl] at A B
      exact ⟨_, _, _, A, q1, B, q2⟩
    · have i1 : ¬ nI i = -1 := nI_ne_m1 (by omega)
      rw [if_neg i1, M1.ld 73 6 (by decide) (by decide) (by omega) (by decide), k1 c i hi] at A
      rw [if_neg i1, mJust_lp (w := cW w1 102 T2) (y := yN (wI w 96)) (N := nn (wI w 96)) M2 hN hn hi (by rw [cW_o (by decide)]; exact hy1) (by rw [cW_s]; exact r2) hf] at B
      exact ⟨_, _, _, A, q1, B, q2⟩
  · have hf : ¬ ∃ m, rp (yN (wI w 96)) (nn (wI w 96)) 0 m n := fun q => by
      have := op_yes (B := 1000) q
      have := rp_le _ _ this.1
      omega
    rw [if_neg c, if_pos rfl] at A
    rw [op_no hf, if_neg (show ¬ nI 999 < (999 : Int32) by decide)] at B
    exact ⟨_, _, _, A, q1, B, q2⟩
theorem p_just (V : Inv w K) (x y : Int32) : Pr w (K + 60) (f_X11_just 0 x y) (f_X12_just 95 x y) := by
  have M := V.ms
  obtain ⟨⟨h0, h1, s, r⟩, I, R⟩ := id V
  have hN := I.n.2
  have bad : (f_X11_just_26 0 w = some (-10, cW w 94 (rfT 0 (wI w 94)))) := by
    unfold f_X11_just_26
    rw [cc_t M, cRefA M, cal_t]
  have bad2 : ∀ w', MS w' → (f_X12_just_23 95 w' = some (-10, cW w' 98 (rfT 0 (wI w' 98)))) := fun w' M' => by
    unfold f_X12_just_23
    rw [mc_t M', mBadTen M', cal_t]
  have e9 : ∀ T, wI (cW w 94 T) 96 = wI w 96 := fun T => cW_o (by decide)
  have J9 : ∀ T, Iv (wI (cW w 94 T) 96) K := fun T => by rw [e9]; exact I
  by_cases hx : 1 ≤ x ∧ x ≤ 60
  · by_cases hy : y = -1
    · obtain ⟨n, hn1, hn, rfl⟩ := rng1 1 60 hx (by decide) (by decide)
      obtain ⟨rr, w1, w2, a, q, b, qb⟩ := just_core V hn (Or.inl hy)
      refine Pr.qt V (r := rr) ?_ q ?_ qb
      · unfold f_X11_just
        rw [within_eq, if_pos hx, cal_t, if_neg (by decide), if_pos hy]
        exact a
      · unfold f_X12_just
        rw [in_eq, if_pos hx, cal_t, if_neg (by decide), if_pos hy]
        exact b
    · by_cases hg : hasg (nn (wI w 96)) y
      · obtain ⟨n, hn1, hn, rfl⟩ := rng1 1 60 hx (by decide) (by decide)
        obtain ⟨rr, w1, w2, a, q, b, qb⟩ := just_core V hn (Or.inr hg)
        obtain ⟨i, hi, rfl⟩ := hg
        refine Pr.qt V (r := rr) ?_ q ?_ qb
        · unfold f_X11_just
          rw [within_eq, if_pos hx, cal_t, if_neg (by decide), if_neg hy, ng_t s, hc_t s, hasY s r I hi, cal_t, if_neg (by decide)]
          exact a
        · have M1 : MS w1 := M.to q.1
          have I1 : Iv (wI w1 96) K := I.ext (fun j hj => q.2.2.2.2.2 j (by omega))
          have n1 : nn (wI w1 96) = nn (wI w 96) := by unfold nn; rw [q.2.2.2.2.2 19 (by decide)]
          unfold f_X12_just
          rw [in_eq, if_pos hx, cal_t, if_neg (by decide), if_neg hy, mc_t M1, mGoodsY M1 I1 (by rw [n1]; exact hi), cal_t, if_neg (by decide)]
          exact b
      · refine Pr.rfj (r := -10) V 0 (by decide) ?_ ?_
        · unfold f_X11_just
          rw [within_eq, if_pos hx, cal_t, if_neg (by decide), if_neg hy, ng_t s, hc_t s, hasN s r I hg, cal_t, if_pos rfl, bad]
        · unfold f_X12_just
          rw [in_eq, if_pos hx, cal_t, if_neg (by decide), if_neg hy, mc_t M.cW, mGoodsN M.cW (J9 _) (by rw [e9]; exact hg), cal_t, if_pos rfl, bad2 _ M.cW]
  · refine Pr.rfj (r := -10) V 0 (by decide) ?_ ?_
    · unfold f_X11_just
      rw [within_eq, if_neg hx, cal_t, if_pos rfl, bad]
    · unfold f_X12_just
      rw [in_eq, if_neg hx, cal_t, if_pos rfl, bad2 _ M.cW]
end S8
