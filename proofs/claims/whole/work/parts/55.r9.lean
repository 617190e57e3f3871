theorem ff_ex {α β : Type} {c : Nat → Prop} [∀ i, Decidable (c i)] {a : Nat → α} {W : Nat → β} {z : α} {n : Nat} : ∀ (d i : Nat), ∃ t, ff c (fun i => some (a i, W i)) (some (z, W n)) d i = some (ff c a z d i, W t)
  | 0, _ => ⟨n, rfl⟩
  | d + 1, i => by
    rw [ff, ff]
    by_cases h : c i
    · exact ⟨i, by rw [if_pos h, if_pos h]⟩
    · obtain ⟨t, ht⟩ := ff_ex (c := c) (a := a) (W := W) (z := z) (n := n) d (i + 1)
      exact ⟨t, by rw [if_neg h, if_neg h, ht]⟩
theorem ff_cong {β : Type} {c c' : Nat → Prop} [∀ i, Decidable (c i)] [∀ i, Decidable (c' i)] {r : Nat → β} {z : β} : ∀ (d i : Nat), (∀ j, i ≤ j → j < i + d → (c j ↔ c' j)) → ff c r z d i = ff c' r z d i
  | 0, _, _ => rfl
  | d + 1, i, h => by
    rw [ff, ff, ff_cong d (i + 1) (fun j h1 h2 => h j (by omega) (by omega))]
    by_cases hc : c i
    · rw [if_pos hc, if_pos ((h i (by omega) (by omega)).mp hc)]
    · rw [if_neg hc, if_neg (fun q => hc ((h i (by omega) (by omega)).mpr q))]
section R9
variable {w w' : Wd} {h k K K2 : Nat} {S T : Nat → Int32}
theorem p_full (V : Inv w K) (hK : K + 60 < 2 ^ 31) : Pr w (K + 60) (f_X11_full 0) (f_X12_full 95) := by
  have M := V.ms
  obtain ⟨⟨h0, h1, s, r⟩, I, R⟩ := id V
  obtain ⟨Hn, b, eH, hH, eb, hb⟩ := I.hold
  have hg := I.pv.2.2.1
  have ts := tr_sum I hK eH hH eb hb (xs := fun _ => wI w 96 15) (fun _ => hg)
  obtain ⟨t, ht⟩ := ff_ex (c := fun i => bsum (trS (wI w 96) (fun _ => wI w 96 15) i) = wI w 96 17) (a := fun i => nI i) (W := fun i => cW w 96 (putQ (wI w 96) 639 (trS (wI w 96) (fun _ => wI w 96 15) i))) (z := (-1 : Int32)) (n := 61) 61 0
  refine Pr.qt V (w1 := w) ?_ Qt.rf (w2 := cW w 96 (putQ (wI w 96) 639 (trS (wI w 96) (fun _ => wI w 96 15) t))) (r := ff (fun i => bsum (trS (wI w 96) (fun _ => wI w 96 15) i) = wI w 96 17) (fun i => nI i) (-1) 61 0) ?_ (Qt.row (fun j hj => putQ_o (by omega)))
  · unfold f_X11_full
    rw [ng_t s, hc_t s, allB_row s.ho r I, cal_t]
    refine (congrArg (fun a => f_X11_full_10 4096 0 a 0 w) (show bsum (wI w 96) = bsum (wI w 96) + sm32 (fun i => gdO (wI w 96) (wI w 96 15) i) 0 from (Int32.add_zero _).symm)).trans ?_
    refine (lpF (n := 61) (c := fun i => ¬ bsum (wI w 96) + sm32 (fun i => gdO (wI w 96) (wI w 96 15) i) i < wI w 96 17) (r := fun i => some (nI i, w)) (z := some ((-1 : Int32), w)) (F := fun f i => f_X11_full_10 f 0 (bsum (wI w 96) + sm32 (fun i => gdO (wI w 96) (wI w 96 15) i) i) (nI i) w) (fun f i hi => ?_) (fun f => ?_) 4096 (by decide)).trans ?_
    · show f_X11_full_10 (f + 1) _ _ _ _ = _
      rw [f_X11_full_10, if_neg (show ¬ (60 : Int32) < nI i from nI_nlt (a := 60) (by omega) (by decide)), ng_t s, gI_t s.ho.o, r.1.2.2.1]
      by_cases hc : bsum (wI w 96) + sm32 (fun i => gdO (wI w 96) (wI w 96 15) i) i < wI w 96 17
      · rw [if_pos hc, if_neg (fun q => q hc), ng_t s, ng_t s, gI_t s.ho.o, r.1.2.2.2.2.1, ng_t s, gI_t s.ho.o, r.1.2.2.2.2.2.2.1, hc_t s, gdO_row s.ho r I hg, cal_t, nm_t, nI_1, Int32.add_assoc]
        rfl
      · rw [if_neg hc, if_pos hc]
    · show f_X11_full_10 (f + 1) _ _ _ _ = _
      rw [f_X11_full_10, if_pos (show (60 : Int32) < nI 61 by decide)]
    · rw [ff_map (fun a => some (a, w)) 61 0, ff_cong (c' := fun i => bsum (trS (wI w 96) (fun _ => wI w 96 15) i) = wI w 96 17) 61 0 (fun j h1 h2 => ?_)]
      obtain ⟨G, g1, g2, g3, -⟩ := ts j (by omega)
      rw [g3, g2, eb, eH, nI_add, nI_ltI (by omega) (by omega), nI_eq (by omega) (by omega)]
      omega
  · unfold f_X12_full
    rw [mc_t M, mLayTried_eq M, cal_t, ← ht]
    refine lpF (n := 61) (c := fun i => bsum (trS (wI w 96) (fun _ => wI w 96 15) i) = wI w 96 17) (r := fun i => some (nI i, cW w 96 (putQ (wI w 96) 639 (trS (wI w 96) (fun _ => wI w 96 15) i)))) (z := some ((-1 : Int32), cW w 96 (putQ (wI w 96) 639 (trS (wI w 96) (fun _ => wI w 96 15) 61)))) (F := fun f i => f_X12_full_6 f 95 (nI i) (cW w 96 (putQ (wI w 96) 639 (trS (wI w 96) (fun _ => wI w 96 15) i)))) (fun f i hi => ?_) (fun f => ?_) 4096 (by decide)
    · show f_X12_full_6 (f + 1) _ _ _ = _
      rw [f_X12_full_6, if_neg (show ¬ (61 : Int32) ≤ nI i from nI_ge (b := 61) hi (by decide)), mc_t M.cW, show f_X12_inHouse 95 639 = f_X12_inHouse 95 (nI 639) from rfl, mInHouse_eq M.cW (by decide), cal_t, cW_s, bsum_cong (fun j hj => putQ_in hj), mg_t M.cW, show (17 : Int32) = nI 17 from rfl, rd_t M.cW (by decide), cW_s, putQ_o (by omega)]
      by_cases hc : bsum (trS (wI w 96) (fun _ => wI w 96 15) i) = wI w 96 17
      · rw [if_pos hc, if_pos hc]
      · rw [if_neg hc, if_neg hc, mg_t M.cW, show (15 : Int32) = nI 15 from rfl, rd_t M.cW (by decide), cW_s, putQ_o (by omega), mc_t M.cW, mTry_eq M I hg, cal_t, nI_1]
        rfl
    · show f_X12_full_6 (f + 1) _ _ _ = _
      rw [f_X12_full_6, if_pos (show (61 : Int32) ≤ nI 61 by decide)]
/-! the mills of a street of many -/
def sdS (x : Int64) : Nat → Int64
  | 0 => x
  | i + 1 => lrm (sdS x i * 1103515245 + 12345) 2147483648
def sdG (x : Int64) (i : Nat) : Int32 := (lrm (sdS x (i + 1) / 65536) 8).toInt32
theorem p_mills (V : Inv w K) (hK : K + 60 < 2 ^ 31) (x y : Int32) : Pr w (K + 60) (f_X11_mills 0 x y) (f_X12_mills 95 x y) := by
  have M := V.ms
  have bad : (f_X11_mills_21 0 w = some (-2, cW w 94 (rfT 0 (wI w 94)))) := by
    unfold f_X11_mills_21
    rw [cc_t M, cRefB M, cal_t]
  have bad2 : ∀ w', MS w' → (f_X12_mills_20 95 w' = some (-2, cW w' 98 (rfT 0 (wI w' 98)))) := fun w' M' => by
    unfold f_X12_mills_20
    rw [mc_t M', mRefB M', cal_t]
  by_cases hx : 0 ≤ x ∧ x ≤ 999999
  · by_cases hy : 0 ≤ y ∧ y ≤ 60
    · obtain ⟨m, hm, rfl⟩ := rng 60 hy (by decide)
      obtain ⟨⟨h0, h1, s, r⟩, I, R⟩ := id V
      obtain ⟨Hn, b, eH, hH, eb, hb⟩ := I.hold
      have hn := I.n.2
      obtain ⟨xs, hxs⟩ : ∃ xs : Nat → Int32, ∀ i, (hasg (nn (wI w 96)) (sdG x.toInt64 i) ∧ xs i = sdG x.toInt64 i) ∨ (¬ hasg (nn (wI w 96)) (sdG x.toInt64 i) ∧ xs i = -1) := by
        refine ⟨fun i => @ite _ (hasg (nn (wI w 96)) (sdG x.toInt64 i)) (Classical.propDecidable _) (sdG x.toInt64 i) (-1), fun i => ?_⟩
        by_cases hc : hasg (nn (wI w 96)) (sdG x.toInt64 i)
        · exact Or.inl ⟨hc, if_pos hc⟩
        · exact Or.inr ⟨hc, if_neg hc⟩
      have hok : ∀ i, xs i = -1 ∨ hasg (nn (wI w 96)) (xs i) := fun i => by
        rcases hxs i with ⟨a, e⟩ | ⟨a, e⟩
        · rw [e]; exact Or.inr a
        · exact Or.inl e
      obtain ⟨G, g1, g2, g3, g4, g5, g6, g7⟩ := tr_sum I hK eH hH eb hb hok m hm
      refine Pr.qt V (w1 := w) ?_ Qt.rf (w2 := cW w 96 (putQ (wI w 96) 639 (trS (wI w 96) xs m))) (r := bsum (wI w 96) + wI w 96 12 + nI G) ?_ (Qt.row (fun j hj => putQ_o (by omega)))
      · unfold f_X11_mills
        rw [within_eq, if_pos hx, cal_t, if_neg (by decide), within_eq, if_pos hy, cal_t, if_neg (by decide), ng_t s, hc_t s, allB_row s.ho r I, cal_t, ng_t s, gI_t s.ho.o, r.1.2.2.2.2.2.2.2.1, nm_t, nm_t, ← g2]
        refine (congrArg (fun a => f_X11_mills_51 4096 0 (nI m) a x.toInt64 0 w) (show bsum (wI w 96) + wI w 96 12 = bsum (wI w 96) + wI w 96 12 + sm32 (fun i => gdO (wI w 96) (xs i) i) 0 from (Int32.add_zero _).symm)).trans ?_
        refine lpE (n := m) (F := fun f i => f_X11_mills_51 f 0 (nI m) (bsum (wI w 96) + wI w 96 12 + sm32 (fun i => gdO (wI w 96) (xs i) i) i) (sdS x.toInt64 i) (nI i) w) (fun f i hi => ?_) (fun f => ?_) 4096 (by omega)
        · show f_X11_mills_51 (f + 1) _ _ _ _ _ _ = _
          have gb : f_X2_groundBy h0 (sdG x.toInt64 i) (wI w 96 14 + nI i) w = some (gdO (wI w 96) (xs i) i, w) := by
            rcases hxs i with ⟨a, e⟩ | ⟨a, e⟩
            · rw [e]; exact gdO_row s.ho r I (Or.inr a) i
            · rw [e, groundBy_none s.ho r I a]; rfl
          rw [f_X11_mills_51, if_neg (nI_ge hi (by omega)), nm_t, ng_t s, ng_t s, gI_t s.ho.o, r.1.2.2.2.2.2.2.1, hc_t s]
          show cal (f_X2_groundBy h0 (sdG x.toInt64 i) (wI w 96 14 + nI i) w) _ = _
          rw [gb, cal_t, nm_t, nI_1, Int32.add_assoc]
          rfl
        · show f_X11_mills_51 (f + 1) _ _ _ _ _ _ = _
          rw [f_X11_mills_51, if_pos (nI_le (by omega) (by omega))]
      · unfold f_X12_mills
        rw [in_eq, if_pos hx, cal_t, if_neg (by decide), in_eq, if_pos hy, cal_t, if_neg (by decide), mc_t M, mLayTried_eq M, cal_t, nm_t]
        have ea : bsum (trS (wI w 96) xs m) + trS (wI w 96) xs m 12 = bsum (wI w 96) + wI w 96 12 + nI G := by
          rw [g3, g4, eb, Int32.add_comm (wI w 96 12), ← Int32.add_assoc, nI_add, Int32.add_assoc, Int32.add_comm (wI w 96 12), ← Int32.add_assoc, nI_add, show min (b + G) Hn + (b + G - min (b + G) Hn) = b + G by omega]
        rw [← ea]
        refine lpE (n := m) (F := fun f i => f_X12_mills_37 f 95 (nI m) (sdS x.toInt64 i) (nI i) (cW w 96 (putQ (wI w 96) 639 (trS (wI w 96) xs i)))) (fun f i hi => ?_) (fun f => ?_) 4096 (by omega)
        · show f_X12_mills_37 (f + 1) _ _ _ _ _ = _
          have lo : ∀ j, j < 213 → putQ (wI w 96) 639 (trS (wI w 96) xs i) j = wI w 96 j := fun j hj => putQ_o (by omega)
          have en : nn (putQ (wI w 96) 639 (trS (wI w 96) xs i)) = nn (wI w 96) := by unfold nn; rw [lo 19 (by decide)]
          have J : Iv (wI (cW w 96 (putQ (wI w 96) 639 (trS (wI w 96) xs i))) 96) K := by rw [cW_s]; exact I.ext lo
          rw [f_X12_mills_37, if_neg (nI_ge hi (by omega)), nm_t, nm_t]
          show calV _ 95 12 (f_X12_isGoods 95 (sdG x.toInt64 i) _) _ = _
          rw [mc_t M.cW]
          rcases hxs i with ⟨a, e⟩ | ⟨a, e⟩
          · have a' := a
            obtain ⟨g, hg, eg⟩ := a
            have eg2 : (lrm (lrm (sdS x.toInt64 i * 1103515245 + 12345) 2147483648 / 65536) 8).toInt32 = xs i := e.symm
            rw [eg, mGoodsY M.cW J (by rw [cW_s, en]; exact hg), cal_t, if_neg (by decide), f_X12_mills_88, mc_t M.cW, eg2, mTry_eq M I (hok i), cal_t, nI_1]
            rfl
          · rw [mGoodsN M.cW J (by rw [cW_s, en]; exact a), cal_t, if_pos rfl, f_X12_mills_88, mc_t M.cW, ← e, mTry_eq M I (hok i), cal_t, nI_1]
            rfl
        · show f_X12_mills_37 (f + 1) _ _ _ _ _ = _
          rw [f_X12_mills_37, if_pos (nI_le (by omega) (by omega)), mc_t M.cW, show f_X12_inHouse 95 639 = f_X12_inHouse 95 (nI 639) from rfl, mInHouse_eq M.cW (by decide), cal_t, cW_s, bsum_cong (fun j hj => putQ_in hj), mg_t M.cW, show (651 : Int32) = nI 651 from rfl, rd_t M.cW (by decide), cW_s, show (651 : Nat) = 639 + 12 from rfl, putQ_in (by decide)]
    · refine Pr.rfj (r := -2) V 0 (by decide) ?_ ?_
      · unfold f_X11_mills
        rw [within_eq, if_pos hx, cal_t, if_neg (by decide), within_eq, if_neg hy, cal_t, if_pos rfl, bad]
      · unfold f_X12_mills
        rw [in_eq, if_pos hx, cal_t, if_neg (by decide), in_eq, if_neg hy, cal_t, if_pos rfl, bad2 _ M.cW]
  · refine Pr.rfj (r := -2) V 0 (by decide) ?_ ?_
    · unfold f_X11_mills
      rw [within_eq, if_neg hx, cal_t, if_pos rfl, bad]
    · unfold f_X12_mills
      rw [in_eq, if_neg hx, cal_t, if_pos rfl, bad2 _ M.cW]
end R9
