section R8
variable {w w' : Wd} {h k K K2 : Nat} {S T : Nat → Int32}
theorem bsum_cong {q r : Nat → Int32} (h : ∀ j, j < 17 → q j = r j) : bsum q = bsum r := sm32_cong (fun j hj => h j (by omega))
theorem pas_cong {S' q q' : Nat → Int32} {Hd x : Int32} (hS : ∀ j, j < 213 → S' j = S j) (hq : ∀ j, j < 17 → q' j = q j) (hx : x = -1 ∨ hasg 6 x) : manyO S' q' x = manyO S q x ∧ ∀ j, j < 17 → pasO S' Hd q' x j = pasO S Hd q x j := by
  rcases hx with rfl | ⟨g, hg, rfl⟩
  · refine ⟨by rw [show manyO S' q' (-1) = 0 from rfl, show manyO S q (-1) = 0 from rfl], fun j hj => ?_⟩
    rw [show pasO S' Hd q' (-1) = pasN q' from rfl, show pasO S Hd q (-1) = pasN q from rfl]
    unfold pasN
    rw [hq 14 (by decide), hq j hj]
  · have em : mny S' q' g = mny S q g := by
      unfold mny
      rw [hS _ (by omega), hS _ (by omega), hq 14 (by decide), hq 16 (by decide)]
    refine ⟨by rw [manyO_g (by omega), manyO_g (by omega), em], fun j hj => ?_⟩
    rw [pasO_g (by omega), pasO_g (by omega), em]
    unfold pasG sty
    rw [bsum_cong hq, hq g (by omega), hq 12 (by decide), hq 14 (by decide), hq j hj]
theorem putQ_cong {q q' : Nat → Int32} {b : Nat} (h : ∀ j, j < 17 → q j = q' j) : putQ S b q = putQ S b q' := by
  funext j
  unfold putQ
  by_cases e : b ≤ j ∧ j < b + 17
  · rw [if_pos e, if_pos e, h _ (by omega)]
  · rw [if_neg e, if_neg e]
theorem putQ_putQ {q q' : Nat → Int32} {b : Nat} : putQ (putQ S b q) b q' = putQ S b q' := by
  funext j
  unfold putQ
  by_cases e : b ≤ j ∧ j < b + 17
  · rw [if_pos e, if_pos e]
  · rw [if_neg e, if_neg e, if_neg e]
theorem mTry_eq (M : MS w) (I : Iv (wI w 96) K) {q : Nat → Int32} {x : Int32} (hx : x = -1 ∨ hasg (nn (wI w 96)) x) : f_X12_pass 95 639 x (cW w 96 (putQ (wI w 96) 639 q)) = some (manyO (wI w 96) q x, cW w 96 (putQ (wI w 96) 639 (pasO (wI w 96) (wI w 96 17) q x))) := by
  have lo : ∀ j, j < 213 → putQ (wI w 96) 639 q j = wI w 96 j := fun j hj => putQ_o (by omega)
  have en : nn (putQ (wI w 96) 639 q) = nn (wI w 96) := by unfold nn; rw [lo 19 (by decide)]
  have hq : ∀ j, j < 17 → putQ (wI w 96) 639 q (639 + j) = q j := fun j hj => putQ_in hj
  have hn := I.n.2
  have hx6 : x = -1 ∨ hasg 6 x := hx.imp id (fun ⟨g, hg, e⟩ => ⟨g, by omega, e⟩)
  have c := pas_cong (S := wI w 96) (S' := putQ (wI w 96) 639 q) (q := q) (q' := fun j => putQ (wI w 96) 639 q (639 + j)) (Hd := wI w 96 17) lo hq hx6
  have m := mPass_eq (w := cW w 96 (putQ (wI w 96) 639 q)) M.cW (b := 639) (K := K) (by decide) (by rw [cW_s]; exact I.ext lo) (x := x) (by rw [cW_s, en]; exact hx)
  rw [show (639 : Int32) = nI 639 from rfl, m, cW_s, cW_cW, c.1, lo 17 (by decide), putQ_putQ, putQ_cong c.2]
theorem trS_x {x : Int32} {i : Nat} : trS S (fun _ => x) (i + 1) = pasO S (S 17) (trS S (fun _ => x) i) x := rfl
theorem gdO_row (H : HS w h) (R : HR (wI w) h S) (I : Iv S K) {x : Int32} (hx : x = -1 ∨ hasg (nn S) x) (i : Nat) : f_X2_groundBy h x (S 14 + nI i) w = some (gdO S x i, w) := by
  have hn := I.n.2
  rcases hx with rfl | ⟨g, hg, rfl⟩
  · rw [groundBy_none H R I (m1_no hn)]; rfl
  · rw [groundBy_row H R I hg, gdO, if_neg (nI_ne_m1 (by omega)), nI_clamp (by omega)]
theorem Iv.hold (I : Iv S K) : ∃ Hn b, S 17 = nI Hn ∧ Hn ≤ 200 ∧ bsum S = nI b ∧ b ≤ Hn := by
  obtain ⟨Hn, hH, eH⟩ := I.2.2.2.2.1
  obtain ⟨b, b1, b2, b3⟩ := I.pv.room eH hH
  exact ⟨Hn, b, eH, hH, b2, b1⟩
theorem p_then (V : Inv w K) (hK : K + 60 < 2 ^ 31) (x y : Int32) : Pr w (K + 60) (f_X11_then 0 x y) (f_X12_then 95 x y) := by
  have M := V.ms
  have bad : (f_X11_then_19 0 w = some (-2, cW w 94 (rfT 0 (wI w 94)))) := by
    unfold f_X11_then_19
    rw [cc_t M, cRefB M, cal_t]
  have bad2 : ∀ w', MS w' → (f_X12_then_19 95 w' = some (-2, cW w' 98 (rfT 0 (wI w' 98)))) := fun w' M' => by
    unfold f_X12_then_19
    rw [mc_t M', mRefB M', cal_t]
  by_cases hx : 0 ≤ x ∧ x ≤ 60
  · by_cases hy : 0 ≤ y ∧ y ≤ 1
    · obtain ⟨m, hm, rfl⟩ := rng 60 hx (by decide)
      obtain ⟨⟨h0, h1, s, r⟩, I, R⟩ := id V
      obtain ⟨Hn, b, eH, hH, eb, hb⟩ := I.hold
      have hg := I.pv.2.2.1
      obtain ⟨G, g1, g2, g3, g4, g5, g6, g7⟩ := tr_sum I hK eH hH eb hb (xs := fun _ => wI w 96 15) (fun _ => hg) m hm
      have gw : f_X2_groundWithin h0 (wI w 96 15) (nI m) w = some (nI G, w) := by
        unfold f_X2_groundWithin
        rw [← g2]
        refine lpE (n := m) (F := fun f i => f_X2_groundWithin_5 f h0 (wI w 96 15) (nI m) (sm32 (fun i => gdO (wI w 96) (wI w 96 15) i) i) (nI i) w) (fun f i hi => ?_) (fun f => ?_) 4096 (by omega)
        · show f_X2_groundWithin_5 (f + 1) _ _ _ _ _ _ = _
          rw [f_X2_groundWithin_5, if_neg (nI_ge hi (by omega)), gI_t s.ho.o, r.1.2.2.2.2.2.2.1, hc_t s, gdO_row s.ho r I hg, cal_t, nm_t, nI_1]
          rfl
        · show f_X2_groundWithin_5 (f + 1) _ _ _ _ _ _ = _
          rw [f_X2_groundWithin_5, if_pos (nI_le (by omega) (by omega))]
      have em : f_mmin (nI G) (nI Hn - nI b) = nI (min G (Hn - b)) := by
        unfold f_mmin
        rw [pk_sub hb]
        by_cases h1 : Hn - b < G
        · rw [if_pos (nI_lt h1 (by omega)), Nat.min_eq_right (by omega)]
        · rw [if_neg (nI_nlt (by omega) (by omega)), Nat.min_eq_left (by omega)]
      have lp : f_X12_then_32 4096 95 (nI m) y 0 (cW w 96 (putQ (wI w 96) 639 (wI w 96))) = some (if y = 0 then bsum (trS (wI w 96) (fun _ => wI w 96 15) m) else trS (wI w 96) (fun _ => wI w 96 15) m 12, cW w 96 (putQ (wI w 96) 639 (trS (wI w 96) (fun _ => wI w 96 15) m))) := by
        refine lpE (n := m) (F := fun f i => f_X12_then_32 f 95 (nI m) y (nI i) (cW w 96 (putQ (wI w 96) 639 (trS (wI w 96) (fun _ => wI w 96 15) i)))) (fun f i hi => ?_) (fun f => ?_) 4096 (by omega)
        · show f_X12_then_32 (f + 1) _ _ _ _ _ = _
          rw [f_X12_then_32, if_neg (nI_ge hi (by omega)), mg_t M.cW, show (15 : Int32) = nI 15 from rfl, rd_t M.cW (by decide), cW_s, putQ_o (by omega), mc_t M.cW, mTry_eq M I hg, cal_t, nI_1]
          rfl
        · show f_X12_then_32 (f + 1) _ _ _ _ _ = _
          rw [f_X12_then_32, if_pos (nI_le (by omega) (by omega))]
          by_cases y0 : y = 0
          · rw [if_pos y0, if_pos y0, mc_t M.cW, show (639 : Int32) = nI 639 from rfl, mInHouse_eq M.cW (by decide), cal_t, cW_s, bsum_cong (fun j hj => putQ_in hj)]
            rfl
          · rw [if_neg y0, if_neg y0, mg_t M.cW, show (651 : Int32) = nI 651 from rfl, rd_t M.cW (by decide), cW_s, show (651 : Nat) = 639 + 12 from rfl, putQ_in (by decide)]
            rfl
      refine Pr.qt V (w1 := w) ?_ Qt.rf (w2 := cW w 96 (putQ (wI w 96) 639 (trS (wI w 96) (fun _ => wI w 96 15) m))) (r := if y = 0 then bsum (trS (wI w 96) (fun _ => wI w 96 15) m) else trS (wI w 96) (fun _ => wI w 96 15) m 12) ?_ (Qt.row (fun j hj => putQ_o (by omega)))
      · unfold f_X11_then
        rw [within_eq, if_pos hx, cal_t, if_neg (by decide), within_eq, if_pos hy, cal_t, if_neg (by decide), ng_t s, ng_t s, gI_t s.ho.o, r.1.2.2.2.2.1, hc_t s, gw, cal_t, ng_t s, hc_t s, allB_row s.ho r I, cal_t, ng_t s, gI_t s.ho.o, r.1.2.2.1, eH, eb, em, nm_t]
        by_cases y0 : y = 0
        · rw [if_pos y0, if_pos y0, g3, nI_add, show b + min G (Hn - b) = min (b + G) Hn by omega]
          rfl
        · rw [if_neg y0, if_neg y0, ng_t s, gI_t s.ho.o, r.1.2.2.2.2.2.2.2.1, g4, Int32.sub_eq_add_neg, Int32.add_assoc, ← Int32.sub_eq_add_neg, pk_sub (by omega), show G - min G (Hn - b) = b + G - min (b + G) Hn by omega]
          rfl
      · unfold f_X12_then
        rw [in_eq, if_pos hx, cal_t, if_neg (by decide), in_eq, if_pos hy, cal_t, if_neg (by decide), mc_t M, mLayTried_eq M, cal_t, lp]
    · refine Pr.rfj (r := -2) V 0 (by decide) ?_ ?_
      · unfold f_X11_then
        rw [within_eq, if_pos hx, cal_t, if_neg (by decide), within_eq, if_neg hy, cal_t, if_pos rfl, bad]
      · unfold f_X12_then
        rw [in_eq, if_pos hx, cal_t, if_neg (by decide), in_eq, if_neg hy, cal_t, if_pos rfl, bad2 _ M.cW]
  · refine Pr.rfj (r := -2) V 0 (by decide) ?_ ?_
    · unfold f_X11_then
      rw [within_eq, if_neg hx, cal_t, if_pos rfl, bad]
    · unfold f_X12_then
      rw [in_eq, if_neg hx, cal_t, if_pos rfl, bad2 _ M.cW]
end R8
