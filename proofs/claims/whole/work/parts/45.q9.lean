section Q9
variable {w w' : Wd} {h K K2 : Nat} {S T : Nat → Int32}
theorem upd_upd {a b : Int32} {k : Nat} : upd (upd S k a) k b = upd S k b := by
  funext j
  by_cases h : j = k
  · rw [h, pk_us, pk_us]
  · rw [pk_un h, pk_un h, pk_un h]
theorem upd_id {k : Nat} : upd S k (S k) = S := by
  funext j
  by_cases h : j = k
  · rw [h, pk_us]
  · rw [pk_un h]
/-! sold -/
theorem HR.gds (R : HR (wI w) h S) (I : Iv S K) {g : Nat} (hg : g < nn S) (b x : Int32) : HR (wI (sI (sI w (h + 9 + g) 4 b) (h + 9 + g) 5 x)) h (upd (upd S (6 + g) x) g b) := by
  have hn := I.n.2
  obtain ⟨⟨r3, r4, r5, r6, r7, r8, r9, r10, r11⟩, RG, RQ, RP⟩ := R
  have o : ∀ j, 12 ≤ j → upd (upd S (6 + g) x) g b j = S j := fun j hj => by rw [pk_un (by omega), pk_un (by omega)]
  have f : ∀ a, a ≠ h + 9 + g → wI (sI (sI w (h + 9 + g) 4 b) (h + 9 + g) 5 x) a = wI w a := fun a ha => by funext j; rw [wI_other ha, wI_other ha]
  have en : nn (upd (upd S (6 + g) x) g b) = nn S := by unfold nn; rw [o 19 (by omega)]
  refine ⟨?_, fun i hi => ?_, HQ.tr RQ (f _ (by omega)) (f _ (by omega)) (f _ (by omega)) (f _ (by omega)) (fun i h1 h2 => o i (by omega)) I.2.1.2 I.2.2.1.2, HPs.tr RP (f _ (by omega)) (fun i h1 h2 => o i (by omega)) (o 19 (by omega)) hn I.2.2.2.1.2⟩
  · rw [f h (by omega)]
    refine ⟨?_, ?_, ?_, ?_, ?_, ?_, ?_, ?_, ?_⟩
    all_goals rw [o _ (by omega)]; assumption
  · rw [en] at hi
    obtain ⟨a1, a2, a3, a4, a5⟩ := RG i hi
    rw [o (20 + i) (by omega), o (26 + i) (by omega), o (32 + i) (by omega)]
    by_cases e : i = g
    · subst e
      refine ⟨?_, ?_, ?_, ?_, ?_⟩
      · rw [wI_place (by decide), wI_place (by decide)]; exact a1
      · rw [wI_place (by decide), wI_place (by decide)]; exact a2
      · rw [wI_place (by decide), wI_place (by decide)]; exact a3
      · rw [wI_place (by decide), wI_same, pk_us]
      · rw [wI_same, pk_un (by omega), pk_us]
    · rw [f _ (by omega), pk_un e, pk_un (by omega), pk_un (by omega), pk_un (by omega)]
      exact ⟨a1, a2, a3, a4, a5⟩
theorem bsum_dn {b : Nat → Nat} {g v : Nat} (hg : g < 6) (hv : v ≤ b g) : (fun j => if j = g then b j - v else b j) 0 + (fun j => if j = g then b j - v else b j) 1 + (fun j => if j = g then b j - v else b j) 2 + (fun j => if j = g then b j - v else b j) 3 + (fun j => if j = g then b j - v else b j) 4 + (fun j => if j = g then b j - v else b j) 5 ≤ b 0 + b 1 + b 2 + b 3 + b 4 + b 5 := by
  rcases six hg with rfl | rfl | rfl | rfl | rfl | rfl <;> simp <;> omega
theorem Iv.gds (I : Iv S K) {g n : Nat} (hg : g < nn S) (hn : n ≤ 200) (hb : nI n ≤ S g) (x : Int32) : Iv (upd (upd S (6 + g) x) g (S g - nI n)) K := by
  have hn6 := I.n.2
  have o : ∀ j, 12 ≤ j → upd (upd S (6 + g) x) g (S g - nI n) j = S j := fun j hj => by rw [pk_un (by omega), pk_un (by omega)]
  refine I.to (fun i h1 h2 => o i (by omega)) ?_ ⟨un S, I.2.2.2.1.2, by rw [o 76 (by omega)]; exact I.2.2.2.1.1, fun p hp => (I.past hp).ext (fun i hi => o _ (by omega))⟩
  obtain ⟨H, hH, eH⟩ := I.2.2.2.2.1
  obtain ⟨⟨b, b1, b2⟩, h2, h3, h4, h5⟩ := I.pv
  have bg : b g ≤ 200 := by
    rw [eH, nI_clamp (by omega)] at b2
    rcases six (show g < 6 by omega) with rfl | rfl | rfl | rfl | rfl | rfl <;> omega
  have hnb : n ≤ b g := by
    rw [b1 g (by omega)] at hb
    exact (nI_leI (by omega) (by omega)).mp hb
  refine ⟨⟨fun j => if j = g then b j - n else b j, fun j hj => ?_, Nat.le_trans (bsum_dn (by omega) hnb) b2⟩, fun j h1 hj => ?_, by rw [o 15 (by omega)]; exact h3, by rw [o 16 (by omega)]; exact h4, by rw [o 14 (by omega)]; exact h5⟩
  · by_cases e : j = g
    · subst e
      show _ = nI (if j = j then b j - n else b j)
      rw [pk_us, if_pos rfl, b1 j hj, pk_sub hnb]
    · show _ = nI (if j = g then b j - n else b j)
      rw [pk_un e, pk_un (by omega), if_neg e]
      exact b1 j hj
  · rw [pk_un (by omega), pk_un (by omega), pk_un (by omega), pk_un (by omega)]
    exact h2 j h1 hj
def feS (S : Nat → Int32) (g n : Nat) : Int32 := sm32 (fun j => fk (S (20 + g)).toNatClampNeg (S (32 + g)) (S (6 + g) + nI j)) n
def selS (S : Nat → Int32) (g n : Nat) : Nat → Int32 := upd (upd (upd S (6 + g) (S (6 + g) + nI n)) g (S g - nI n)) 13 (S 13 + feS S g n)
theorem mSell_eq (M : MS w) (I : Iv (wI w 96) K) {g n : Nat} (hg : g < nn (wI w 96)) (hn : n ≤ 200) : f_X12_sell_54 4096 95 (nI g) (nI n) 0 0 w = some (feS (wI w 96) g n, cW w 96 (selS (wI w 96) g n)) := by
  have hn6 := I.n.2
  have g6 : g < 6 := by omega
  obtain ⟨k, hk, ek⟩ := I.kd hg
  have c0 : (0 : Int32) + nI g = nI g := by rw [show (0 : Int32) = nI 0 from rfl, nI_add, Nat.zero_add]
  have c6 : (6 : Int32) + nI g = nI (6 + g) := nI_add 6 g
  have z : wI w 96 (6 + g) + nI 0 = wI w 96 (6 + g) := Int32.add_zero _
  refine (congrArg (f_X12_sell_54 4096 95 (nI g) (nI n) 0 0) (show w = cW w 96 (upd (wI w 96) (6 + g) (wI w 96 (6 + g) + nI 0)) from by rw [z, upd_id, cW_id])).trans ?_
  refine lpE (n := n) (F := fun f i => f_X12_sell_54 f 95 (nI g) (nI n) (feS (wI w 96) g i) (nI i) (cW w 96 (upd (wI w 96) (6 + g) (wI w 96 (6 + g) + nI i)))) (fun f i hi => ?_) (fun f => ?_) 4096 (by omega)
  · show f_X12_sell_54 (f + 1) _ _ _ _ _ _ = _
    have e2 : feS (wI w 96) g i + fk k (wI w 96 (32 + g)) (wI w 96 (6 + g) + nI i) = feS (wI w 96) g (i + 1) := by
      rw [feS, feS, sm32, ek, nI_clamp (by omega)]
    rw [f_X12_sell_54, if_neg (nI_ge (by omega) (by omega)), mg_t M.cW, c6, rd_t M.cW (by omega), cW_s, pk_us, mc_t M.cW, mFetches_eq M.cW g6 hk (by rw [cW_s, pk_un (by omega)]; exact ek), cal_t, cW_s, pk_un (by omega), nm_t, e2, mg_t M.cW, rd_t M.cW (by omega), wr_t M.cW (by omega), cW_s, cW_cW, pk_us, upd_upd, nI_1, Int32.add_assoc, nI_1]
  · show f_X12_sell_54 (f + 1) _ _ _ _ _ _ = _
    rw [f_X12_sell_54, if_pos (nI_le (by omega) (by omega)), mg_t M.cW, c0, rd_t M.cW (by omega), wr_t M.cW (by omega), cW_s, cW_cW, mg_t M.cW, show (13 : Int32) = nI 13 from rfl, rd_t M.cW (by omega), wr_t M.cW (by omega), cW_s, cW_cW, pk_un (show (13 : Nat) ≠ g by omega), pk_un (show (13 : Nat) ≠ 6 + g by omega), pk_un (show g ≠ 6 + g by omega)]
    rfl
theorem p_sell (V : Inv w K) (x y : Int32) : Pr w (K + 60) (f_X11_sell 0 x y) (f_X12_sell 95 x y) := by
  have M := V.ms
  obtain ⟨⟨h0, h1, s, r⟩, I, R⟩ := id V
  have bad : (f_X11_sell_22 0 w = some (-2, cW w 94 (rfT 0 (wI w 94)))) := by
    unfold f_X11_sell_22
    rw [cc_t M, cRefB M, cal_t]
  have bad2 : ∀ w', MS w' → (f_X12_sell_19 95 w' = some (-2, cW w' 98 (rfT 0 (wI w' 98)))) := fun w' M' => by
    unfold f_X12_sell_19
    rw [mc_t M', mRefB M', cal_t]
  have e9 : ∀ T, wI (cW w 94 T) 96 = wI w 96 := fun T => cW_o (by decide)
  have J9 : ∀ T, Iv (wI (cW w 94 T) 96) K := fun T => by rw [e9]; exact I
  by_cases hg : hasg (nn (wI w 96)) x
  · obtain ⟨g, hg, rfl⟩ := hg
    have cY := hasY s r I hg
    have mY : ∀ w', MS w' → wI w' 96 = wI w 96 → f_X12_isGoods 95 (nI g) w' = some (1, w') := fun w' M' e => mGoodsY (K := K) M' (by rw [e]; exact I) (by rw [e]; exact hg)
    have hn6 := I.n.2
    have g6 : g < 6 := by omega
    have c0 : (0 : Int32) + nI g = nI g := by rw [show (0 : Int32) = nI 0 from rfl, nI_add, Nat.zero_add]
    have a4 := (r.2.1 g hg).2.2.2.1
    by_cases hy : 1 ≤ y ∧ y ≤ 200
    · obtain ⟨n, hn1, hn, rfl⟩ := rng1 1 200 hy (by decide) (by decide)
      by_cases hb : nI n ≤ wI w 96 g
      · obtain ⟨w1, q1, q2, q3⟩ := remember_row s.ho r I
        have s1 := s.to q2.1
        have H1 := s1.ho
        have I2 : Iv (keepS (wI w 96)) K := keepS_iv I
        have en : nn (keepS (wI w 96)) = nn (wI w 96) := by unfold nn; rw [keepS_mid I (by decide)]
        have hg2 : g < nn (keepS (wI w 96)) := by rw [en]; exact hg
        obtain ⟨k, hk, ek⟩ := I2.kd hg2
        have ekg : keepS (wI w 96) g = wI w 96 g := keepS_mid I (by omega)
        obtain ⟨b1, b2, b3, b4, b5⟩ := q3.2.1 g hg2
        have I3 := I2.gds hg2 hn (by rw [ekg]; exact hb) (keepS (wI w 96) (6 + g) + nI n)
        have r3 := q3.gds I2 hg2 (keepS (wI w 96) g - nI n) (keepS (wI w 96) (6 + g) + nI n)
        have fe : f_X1_fetchedBy (h0 + 9 + g) (nI n) (keepS (wI w 96) (6 + g)) w1 = some (feS (keepS (wI w 96)) g n, w1) := by
          rw [fetchedBy_eq H1 g6 hk (by rw [b1, ek]) (by omega), b3, feS, ek, nI_clamp (by omega)]
        have ne : h0 ≠ h0 + 9 + g := by omega
        have gv : f_X1_giveAway (h0 + 9 + g) (nI n) w1 = some (feS (keepS (wI w 96)) g n, sI (sI w1 (h0 + 9 + g) 4 (keepS (wI w 96) g - nI n)) (h0 + 9 + g) 5 (keepS (wI w 96) (6 + g) + nI n)) := by
          unfold f_X1_giveAway
          rw [gI_t (H1.og g6), b5, calV_t (H1.og g6), fe, cal_t, gI_t (H1.og g6), b4, pI_t (H1.og g6), gI_t (by rw [isO_sI]; exact H1.og g6), pI_t (by rw [isO_sI]; exact H1.og g6), wI_place (by decide), b5]
        generalize hw2 : sI (sI w1 (h0 + 9 + g) 4 (keepS (wI w 96) g - nI n)) (h0 + 9 + g) 5 (keepS (wI w 96) (6 + g) + nI n) = w2 at gv r3
        have f2 : Fr (hset h0) w1 w2 := by rw [← hw2]; exact (Fr.sI ⟨by omega, by omega⟩).tr (Fr.sI ⟨by omega, by omega⟩)
        have s2 := s1.to f2.1
        have m11 : wI w2 h0 11 = keepS (wI w 96) 13 := by rw [← hw2, wI_other ne, wI_other ne]; exact q3.1.2.2.2.2.2.2.2.2
        have f : Fr (hset h0) w (sI w2 h0 11 (keepS (wI w 96) 13 + feS (keepS (wI w 96)) g n)) := q2.tr (f2.tr (Fr.sI ⟨by omega, by omega⟩))
        have M2 := M.to f.1
        have e96 := f.w96 s
        refine ⟨feS (keepS (wI w 96)) g n, sI w2 h0 11 (keepS (wI w 96) 13 + feS (keepS (wI w 96)) g n), _, ?_, ?_, V.mut (K2 := K + 60) (T := selS (keepS (wI w 96)) g n) s f (r3.set I3 _ (j := 13) (by omega)) ((I3.s13 _).mono (by omega)) (fun j hj => rfl) (fun j hj h2 => by rw [selS, pk_un (by omega), pk_un (by omega), pk_un (by omega), keepS_hi I hj]) (by omega)⟩
        · unfold f_X11_sell
          rw [ng_t s, hc_t s, cY, cal_t, if_neg (by decide), within_eq, if_pos hy, cal_t, if_neg (by decide), ng_t s, hr0_t s, gd_t s g6, gI_t (s.ho.og g6), a4, if_pos hb, ng_t s, hc_t s, q1, cal_t, ng_t s1, hr0_t s1, gd_t s1 g6, calV_t (H1.og g6), gv, cal_t, ng_t s2, gI_t s2.ho.o, pI_t s2.ho.o, m11]
        · unfold f_X12_sell
          rw [mc_t M2, mY _ M2 e96, cal_t, if_neg (by decide), in_eq, if_pos hy, cal_t, if_neg (by decide), mg_t M2, c0, rd_t M2 (by omega), e96, if_pos hb, mc_t M2, mKeep_eq M2 (K := K) (by rw [e96]; exact I), cal_t, mSell_eq M2.cW (K := K) (by rw [cW_s, e96]; exact I2) (by rw [cW_s, e96]; exact hg2) hn, cW_s, cW_cW, e96]
      · refine Pr.rfj (r := -3) V 1 (by decide) ?_ ?_
        · unfold f_X11_sell
          rw [ng_t s, hc_t s, cY, cal_t, if_neg (by decide), within_eq, if_pos hy, cal_t, if_neg (by decide), ng_t s, hr0_t s, gd_t s g6, gI_t (s.ho.og g6), a4, if_neg hb, cc_t M, cRefN M, cal_t]
        · unfold f_X12_sell
          rw [mc_t M.cW, mY _ M.cW (e9 _), cal_t, if_neg (by decide), in_eq, if_pos hy, cal_t, if_neg (by decide), mg_t M.cW, c0, rd_t M.cW (by omega), e9, if_neg hb, mc_t M.cW, mRefN M.cW, cal_t]
    · refine Pr.rfj (r := -2) V 0 (by decide) ?_ ?_
      · unfold f_X11_sell
        rw [ng_t s, hc_t s, cY, cal_t, if_neg (by decide), within_eq, if_neg hy, cal_t, if_pos rfl, bad]
      · unfold f_X12_sell
        rw [mc_t M.cW, mY _ M.cW (e9 _), cal_t, if_neg (by decide), in_eq, if_neg hy, cal_t, if_pos rfl, bad2 _ M.cW]
  · refine Pr.rfj (r := -2) V 0 (by decide) ?_ ?_
    · unfold f_X11_sell
      rw [ng_t s, hc_t s, hasN s r I hg, cal_t, if_pos rfl, bad]
    · unfold f_X12_sell
      rw [mc_t M.cW, mGoodsN M.cW (J9 _) (by rw [e9]; exact hg), cal_t, if_pos rfl, bad2 _ M.cW]
end Q9
