section Q8
variable {w w' : Wd} {h K K2 : Nat} {S T : Nat → Int32}
theorem Iv.kd (I : Iv S K) {g : Nat} (hg : g < nn S) : ∃ k, k < 6 ∧ S (20 + g) = nI k := by
  obtain ⟨k, r, p, hk, -, -, -, e1, -, -⟩ := I.2.2.2.2.2.2.1 g hg
  exact ⟨k, hk, e1⟩
theorem gd_t {α : Type} {h0 h1 g : Nat} {k : Nat → Option α} (s : Sp w h0 h1) (hg : g < 6) : lR w (h0 + 1) 16 (nI g) k = k (h0 + 9 + g) := by
  rw [lR_t s.ho.o1 (inb_of s.ho.n1 hg (by decide)), nI_clamp (by omega), s.ho.rg hg, Option.bind_some]
theorem hr0_t {α : Type} {h0 h1 : Nat} {k : Nat → Option α} (s : Sp w h0 h1) : gR w h0 2 0 k = k (h0 + 1) := by rw [gR_t s.ho.o, s.ho.r0, Option.bind_some]
theorem hr1_t {α : Type} {h0 h1 : Nat} {k : Nat → Option α} (s : Sp w h0 h1) : gR w h0 2 1 k = k (h0 + 3) := by rw [gR_t s.ho.o, s.ho.r1, Option.bind_some]
theorem seven {k : Nat} (h : k < 7) : k = 0 ∨ k = 1 ∨ k = 2 ∨ k = 3 ∨ k = 4 ∨ k = 5 ∨ k = 6 := by omega
theorem p_of (V : Inv w K) (x y : Int32) : Pr w (K + 60) (f_X11_of 0 x y) (f_X12_of 95 x y) := by
  have M := V.ms
  obtain ⟨⟨h0, h1, s, r⟩, I, R⟩ := id V
  have bad : (f_X11_of_21 0 w = some (-2, cW w 94 (rfT 0 (wI w 94)))) := by
    unfold f_X11_of_21
    rw [cc_t M, cRefB M, cal_t]
  have bad2 : ∀ w', MS w' → (f_X12_of_18 95 w' = some (-2, cW w' 98 (rfT 0 (wI w' 98)))) := fun w' M' => by
    unfold f_X12_of_18
    rw [mc_t M', mRefB M', cal_t]
  have e9 : ∀ T, wI (cW w 94 T) 96 = wI w 96 := fun T => cW_o (by decide)
  have J9 : ∀ T, Iv (wI (cW w 94 T) 96) K := fun T => by rw [e9]; exact I
  by_cases hg : hasg (nn (wI w 96)) x
  · obtain ⟨g, hg, rfl⟩ := hg
    have cY := hasY s r I hg
    have mY : ∀ w', MS w' → wI w' 96 = wI w 96 → f_X12_isGoods 95 (nI g) w' = some (1, w') := fun w' M' e => mGoodsY (K := K) M' (by rw [e]; exact I) (by rw [e]; exact hg)
    by_cases hy : 0 ≤ y ∧ y ≤ 6
    · obtain ⟨n, hn, rfl⟩ := rng 6 hy (by decide)
      obtain ⟨k, hk, ek⟩ := I.kd hg
      have hn6 := I.n.2
      have g6 : g < 6 := by omega
      obtain ⟨a1, a2, a3, a4, a5⟩ := r.2.1 g hg
      have c0 : (0 : Int32) + nI g = nI g := by rw [show (0 : Int32) = nI 0 from rfl, nI_add, Nat.zero_add]
      have c6 : (6 : Int32) + nI g = nI (6 + g) := nI_add 6 g
      have c20 : (20 : Int32) + nI g = nI (20 + g) := nI_add 20 g
      have c26 : (26 : Int32) + nI g = nI (26 + g) := nI_add 26 g
      have c32 : (32 : Int32) + nI g = nI (32 + g) := nI_add 32 g
      have og := s.ho.og g6
      rcases seven (show n < 7 by omega) with rfl | rfl | rfl | rfl | rfl | rfl | rfl
      · refine Pr.qt (r := wI w 96 (20 + g)) V (w1 := w) ?_ Qt.rf (w2 := w) ?_ Qt.rf
        · unfold f_X11_of
          rw [ng_t s, hc_t s, cY, cal_t, if_neg (by decide), within_eq, if_pos hy, cal_t, if_neg (by decide), ng_t s, hr0_t s, gd_t s g6, if_pos (by decide), gI_t og, a1]
        · unfold f_X12_of
          rw [mc_t M, mY w M rfl, cal_t, if_neg (by decide), in_eq, if_pos hy, cal_t, if_neg (by decide), if_pos (by decide), mg_t M, c20, rd_t M (by omega)]
      · refine Pr.qt (r := wI w 96 (26 + g)) V (w1 := w) ?_ Qt.rf (w2 := w) ?_ Qt.rf
        · unfold f_X11_of
          rw [ng_t s, hc_t s, cY, cal_t, if_neg (by decide), within_eq, if_pos hy, cal_t, if_neg (by decide), ng_t s, hr0_t s, gd_t s g6, if_neg (by decide), if_pos (by decide), gI_t og, a2]
        · unfold f_X12_of
          rw [mc_t M, mY w M rfl, cal_t, if_neg (by decide), in_eq, if_pos hy, cal_t, if_neg (by decide), if_neg (by decide), if_pos (by decide), mg_t M, c26, rd_t M (by omega)]
      · refine Pr.qt (r := wI w 96 (32 + g)) V (w1 := w) ?_ Qt.rf (w2 := w) ?_ Qt.rf
        · unfold f_X11_of
          rw [ng_t s, hc_t s, cY, cal_t, if_neg (by decide), within_eq, if_pos hy, cal_t, if_neg (by decide), ng_t s, hr0_t s, gd_t s g6, if_neg (by decide), if_neg (by decide), if_pos (by decide), gI_t og, a3]
        · unfold f_X12_of
          rw [mc_t M, mY w M rfl, cal_t, if_neg (by decide), in_eq, if_pos hy, cal_t, if_neg (by decide), if_neg (by decide), if_neg (by decide), if_pos (by decide), mg_t M, c32, rd_t M (by omega)]
      · refine Pr.qt (r := wI w 96 g) V (w1 := w) ?_ Qt.rf (w2 := w) ?_ Qt.rf
        · unfold f_X11_of
          rw [ng_t s, hc_t s, cY, cal_t, if_neg (by decide), within_eq, if_pos hy, cal_t, if_neg (by decide), ng_t s, hr0_t s, gd_t s g6, if_neg (by decide), if_neg (by decide), if_neg (by decide), if_pos (by decide), gI_t og, a4]
        · unfold f_X12_of
          rw [mc_t M, mY w M rfl, cal_t, if_neg (by decide), in_eq, if_pos hy, cal_t, if_neg (by decide), if_neg (by decide), if_neg (by decide), if_neg (by decide), if_pos (by decide), mg_t M, c0, rd_t M (by omega)]
      · refine Pr.qt (r := wI w 96 (6 + g)) V (w1 := w) ?_ Qt.rf (w2 := w) ?_ Qt.rf
        · unfold f_X11_of
          rw [ng_t s, hc_t s, cY, cal_t, if_neg (by decide), within_eq, if_pos hy, cal_t, if_neg (by decide), ng_t s, hr0_t s, gd_t s g6, if_neg (by decide), if_neg (by decide), if_neg (by decide), if_neg (by decide), if_pos (by decide), gI_t og, a5]
        · unfold f_X12_of
          rw [mc_t M, mY w M rfl, cal_t, if_neg (by decide), in_eq, if_pos hy, cal_t, if_neg (by decide), if_neg (by decide), if_neg (by decide), if_neg (by decide), if_neg (by decide), if_pos (by decide), mg_t M, c6, rd_t M (by omega)]
      · refine Pr.qt (r := gk k (wI w 96 (26 + g)) (wI w 96 14) (wI w 96 16)) V (w1 := w) ?_ Qt.rf (w2 := w) ?_ Qt.rf
        · unfold f_X11_of
          rw [ng_t s, hc_t s, cY, cal_t, if_neg (by decide), within_eq, if_pos hy, cal_t, if_neg (by decide), ng_t s, hr0_t s, gd_t s g6, if_neg (by decide), if_neg (by decide), if_neg (by decide), if_neg (by decide), if_neg (by decide), if_pos (by decide), ng_t s, gI_t s.ho.o, ng_t s, gI_t s.ho.o, calV_t og, groundIn_eq s.ho g6 hk (by rw [a1, ek]), cal_t, r.1.2.2.2.2.2.2.1, r.1.2.2.2.2.2.1, a2]
        · unfold f_X12_of
          rw [mc_t M, mY w M rfl, cal_t, if_neg (by decide), in_eq, if_pos hy, cal_t, if_neg (by decide), if_neg (by decide), if_neg (by decide), if_neg (by decide), if_neg (by decide), if_neg (by decide), if_pos (by decide), mg_t M, show (14 : Int32) = nI 14 from rfl, rd_t M (by omega), mg_t M, show (16 : Int32) = nI 16 from rfl, rd_t M (by omega), mc_t M, mGround_eq M g6 hk ek, cal_t]
      · refine Pr.qt (r := fk k (wI w 96 (32 + g)) (wI w 96 (6 + g))) V (w1 := w) ?_ Qt.rf (w2 := w) ?_ Qt.rf
        · unfold f_X11_of
          rw [ng_t s, hc_t s, cY, cal_t, if_neg (by decide), within_eq, if_pos hy, cal_t, if_neg (by decide), ng_t s, hr0_t s, gd_t s g6, if_neg (by decide), if_neg (by decide), if_neg (by decide), if_neg (by decide), if_neg (by decide), if_neg (by decide), gI_t og, calV_t og, fetchesWhen_eq s.ho g6 hk (by rw [a1, ek]), cal_t, a3, a5]
        · unfold f_X12_of
          rw [mc_t M, mY w M rfl, cal_t, if_neg (by decide), in_eq, if_pos hy, cal_t, if_neg (by decide), if_neg (by decide), if_neg (by decide), if_neg (by decide), if_neg (by decide), if_neg (by decide), if_neg (by decide), mg_t M, c6, rd_t M (by omega), mc_t M, mFetches_eq M g6 hk ek, cal_t]
    · refine Pr.rfj (r := -2) V 0 (by decide) ?_ ?_
      · unfold f_X11_of
        rw [ng_t s, hc_t s, cY, cal_t, if_neg (by decide), within_eq, if_neg hy, cal_t, if_pos rfl, bad]
      · unfold f_X12_of
        rw [mc_t M.cW, mY _ M.cW (e9 _), cal_t, if_neg (by decide), in_eq, if_neg hy, cal_t, if_pos rfl, bad2 _ M.cW]
  · refine Pr.rfj (r := -2) V 0 (by decide) ?_ ?_
    · unfold f_X11_of
      rw [ng_t s, hc_t s, hasN s r I hg, cal_t, if_pos rfl, bad]
    · unfold f_X12_of
      rw [mc_t M.cW, mGoodsN M.cW (J9 _) (by rw [e9]; exact hg), cal_t, if_pos rfl, bad2 _ M.cW]
/-! ship -/
def shpA (S : Nat → Int32) (g : Nat) (i : Nat) : Int32 := sm32 (fun j => gk (S (20 + g)).toNatClampNeg (S (26 + g)) (S 14 + nI j) (S 16)) i
theorem p_ship (V : Inv w K) (x y : Int32) : Pr w (K + 60) (f_X11_ship 0 x y) (f_X12_ship 95 x y) := by
  have M := V.ms
  obtain ⟨⟨h0, h1, s, r⟩, I, R⟩ := id V
  have bad : (f_X11_ship_22 0 w = some (-2, cW w 94 (rfT 0 (wI w 94)))) := by
    unfold f_X11_ship_22
    rw [cc_t M, cRefB M, cal_t]
  have bad2 : ∀ w', MS w' → (f_X12_ship_19 95 w' = some (-2, cW w' 98 (rfT 0 (wI w' 98)))) := fun w' M' => by
    unfold f_X12_ship_19
    rw [mc_t M', mRefB M', cal_t]
  have e9 : ∀ T, wI (cW w 94 T) 96 = wI w 96 := fun T => cW_o (by decide)
  have J9 : ∀ T, Iv (wI (cW w 94 T) 96) K := fun T => by rw [e9]; exact I
  by_cases hg : hasg (nn (wI w 96)) x
  · obtain ⟨g, hg, rfl⟩ := hg
    have cY := hasY s r I hg
    have mY : ∀ w', MS w' → wI w' 96 = wI w 96 → f_X12_isGoods 95 (nI g) w' = some (1, w') := fun w' M' e => mGoodsY (K := K) M' (by rw [e]; exact I) (by rw [e]; exact hg)
    have hn6 := I.n.2
    have g6 : g < 6 := by omega
    obtain ⟨k, hk, ek⟩ := I.kd hg
    by_cases hy : 0 ≤ y ∧ y ≤ 300
    · refine Pr.qt (r := ff (fun i => y < shpA (wI w 96) g (i + 1)) (fun i => nI (i + 1)) (-1) 60 0) V (w1 := w) ?_ Qt.rf (w2 := w) ?_ Qt.rf
      · unfold f_X11_ship
        rw [ng_t s, hc_t s, cY, cal_t, if_neg (by decide), within_eq, if_pos hy, cal_t, if_neg (by decide)]
        refine (lpF (n := 60) (c := fun i => y < shpA (wI w 96) g (i + 1)) (r := fun i => some (nI (i + 1), w)) (z := some ((-1 : Int32), w)) (F := fun f i => f_X11_ship_34 f 0 (nI g) y (shpA (wI w 96) g i) (nI (i + 1)) w) (fun f i hi => ?_) (fun f => ?_) 4096 (by decide)).trans (ff_map (fun a => some (a, w)) 60 0)
        · show f_X11_ship_34 (f + 1) _ _ _ _ _ _ = _
          have e1 : wI w h0 9 + nI (i + 1) - 1 = wI w 96 14 + nI i := by
            rw [r.1.2.2.2.2.2.2.1, ← nI_1, ← Int32.add_assoc, Int32.add_sub_cancel]
          rw [f_X11_ship_34, if_neg (show ¬ (60 : Int32) < nI (i + 1) from nI_nlt (b := i + 1) (a := 60) (by omega) (by decide)), ng_t s, ng_t s, gI_t s.ho.o, e1, hc_t s, groundBy_row s.ho r I hg, cal_t, nm_t, nI_1]
          show (if shpA (wI w 96) g (i + 1) ≤ y then _ else _) = _
          by_cases hc : y < shpA (wI w 96) g (i + 1)
          · rw [if_neg (Int32.not_le.mpr hc), if_pos hc]
          · rw [if_pos (Int32.not_lt.mp hc), if_neg hc]; rfl
        · show f_X11_ship_34 (f + 1) _ _ _ _ _ _ = _
          rw [f_X11_ship_34, if_pos (show (60 : Int32) < nI (60 + 1) by decide)]
      · unfold f_X12_ship
        rw [mc_t M, mY w M rfl, cal_t, if_neg (by decide), in_eq, if_pos hy, cal_t, if_neg (by decide)]
        refine (lpF (n := 60) (c := fun i => y < shpA (wI w 96) g (i + 1)) (r := fun i => some (nI (i + 1), w)) (z := some ((-1 : Int32), w)) (F := fun f i => f_X12_ship_31 f 95 (nI g) y (shpA (wI w 96) g i) (nI i) w) (fun f i hi => ?_) (fun f => ?_) 4096 (by decide)).trans (ff_map (fun a => some (a, w)) 60 0)
        · show f_X12_ship_31 (f + 1) _ _ _ _ _ _ = _
          have e2 : shpA (wI w 96) g i + gk k (wI w 96 (26 + g)) (wI w 96 14 + nI i) (wI w 96 16) = shpA (wI w 96) g (i + 1) := by
            rw [shpA, shpA, sm32, ek, nI_clamp (by omega)]
          rw [f_X12_ship_31, if_neg (show ¬ (60 : Int32) ≤ nI i from nI_ge (b := 60) hi (by decide)), mg_t M, show (14 : Int32) = nI 14 from rfl, rd_t M (by omega), mg_t M, show (16 : Int32) = nI 16 from rfl, rd_t M (by omega), mc_t M, mGround_eq M g6 hk ek, cal_t, nm_t, nI_1, e2]
          by_cases hc : y < shpA (wI w 96) g (i + 1)
          · rw [if_neg (Int32.not_le.mpr hc), if_pos hc]
          · rw [if_pos (Int32.not_lt.mp hc), if_neg hc]
        · show f_X12_ship_31 (f + 1) _ _ _ _ _ _ = _
          rw [f_X12_ship_31, if_pos (show (60 : Int32) ≤ nI 60 by decide)]
    · refine Pr.rfj (r := -2) V 0 (by decide) ?_ ?_
      · unfold f_X11_ship
        rw [ng_t s, hc_t s, cY, cal_t, if_neg (by decide), within_eq, if_neg hy, cal_t, if_pos rfl, bad]
      · unfold f_X12_ship
        rw [mc_t M.cW, mY _ M.cW (e9 _), cal_t, if_neg (by decide), in_eq, if_neg hy, cal_t, if_pos rfl, bad2 _ M.cW]
  · refine Pr.rfj (r := -2) V 0 (by decide) ?_ ?_
    · unfold f_X11_ship
      rw [ng_t s, hc_t s, hasN s r I hg, cal_t, if_pos rfl, bad]
    · unfold f_X12_ship
      rw [mc_t M.cW, mGoodsN M.cW (J9 _) (by rw [e9]; exact hg), cal_t, if_pos rfl, bad2 _ M.cW]
end Q8
