/-! NOTES that fit -/
def ntP (S : Nat → Int32) (x : Int32) (k : Nat) (r : Int32) (i : Nat) : Bool := decide (S (52 + 4 * i) = x → gk k r (S (53 + 4 * i)) (S (54 + 4 * i)) = S (55 + 4 * i))
def ntN (S : Nat → Int32) (x : Int32) (k : Nat) (r : Int32) (n : Nat) : Bool := decide (∀ i, i < n → ntP S x k r i = true)
def ntB (S : Nat → Int32) (x : Int32) (k : Nat) (r : Int32) : Bool := ntN S x k r (tn S)
theorem ntN_s {S : Nat → Int32} {x : Int32} {k : Nat} {r : Int32} {n : Nat} : ntN S x k r (n + 1) = (ntN S x k r n && ntP S x k r n) := by
  unfold ntN
  rw [show ntP S x k r n = decide (ntP S x k r n = true) by simp, ← Bool.decide_and]
  apply decide_eq_decide.mpr
  constructor
  · intro h
    exact ⟨fun i hi => h i (by omega), h n (by omega)⟩
  · rintro ⟨h1, h2⟩ i hi
    by_cases e : i = n
    · rw [e]; exact h2
    · exact h1 i (by omega)
section R6
variable {w w' : Wd} {h k K K2 : Nat} {S T : Nat → Int32}
theorem kd_t {α : Type} {f : Nat → Option α} (H : HS w h) {k : Nat} (hk : k < 6) : lR w 1 18 (nI k) f = f (2 + k) := by
  rw [lR_t H.ok (inb_of H.nk hk (by decide)), nI_clamp (by omega), H.rk1 hk, Option.bind_some]
theorem notesFit_row (H : HS w h) (R : HR (wI w) h S) (I : Iv S K) (x : Int32) {k : Nat} (hk : k < 6) (r : Int32) : f_X0_notesFit (h + 3) x (nI k) r w = some (b2 (ntB S x k r), w) := by
  obtain ⟨q1, q2, q3, q4⟩ := R.2.2.1
  have t6 := I.2.2.1.2
  have m7 : wI w (h + 3) 7 = nI (tn S) := by rw [q2]; exact I.2.2.1.1
  have e : f_X0_notesFit (h + 3) x (nI k) r w = ff (fun i => ¬ ntP S x k r i = true) (fun _ => some ((0 : Int32), w)) (some ((1 : Int32), w)) (tn S) 0 := by
    unfold f_X0_notesFit
    refine lpF (n := tn S) (F := fun f i => f_X0_notesFit_3 f (h + 3) x (nI k) r (nI i) w) (fun f i hi => ?_) (fun f => ?_) 4096 (by omega)
    · show f_X0_notesFit_3 (f + 1) _ _ _ _ _ _ = _
      have e0 : nI i * 4 = nI (4 * i) := by rw [show (4 : Int32) = nI 4 from rfl, pk_mul, Nat.mul_comm]
      have e1 : nI (4 * i) + 1 = nI (4 * i + 1) := nI_add _ 1
      have e2 : nI (4 * i) + 2 = nI (4 * i + 2) := nI_add _ 2
      have e3 : nI (4 * i) + 3 = nI (4 * i + 3) := nI_add _ 3
      have l : ∀ {α : Type} {f : Int32 → Option α} (j : Nat), j < 4 → lI w (h + 6) 14 (nI (4 * i + j)) f = f (S (52 + (4 * i + j))) := fun {α f} j hj => by
        rw [lI_t H.o6 (inb_of H.n6 (by omega) (by decide)), nI_clamp (by omega), q4 _ (by omega)]
      have l0 : ∀ {α : Type} {f : Int32 → Option α}, lI w (h + 6) 14 (nI (4 * i)) f = f (S (52 + 4 * i)) := fun {α f} => l 0 (by decide)
      have a1 : 52 + (4 * i + 1) = 53 + 4 * i := by omega
      have a2 : 52 + (4 * i + 2) = 54 + 4 * i := by omega
      have a3 : 52 + (4 * i + 3) = 55 + 4 * i := by omega
      have r3 : ∀ {α : Type} {f : Nat → Option α}, gR w (h + 3) 0 3 f = f (h + 6) := fun {α f} => by rw [gR_t H.o3, H.c3, Option.bind_some]
      rw [f_X0_notesFit_3, gI_t H.o3, m7, if_neg (nI_ge (by omega) (by omega)), nm_t, e0, r3, l0]
      by_cases hc : S (52 + 4 * i) = x
      · rw [if_pos hc, gR_t H.o3, H.c0, Option.bind_some, kd_t H hk, r3, e1, l 1 (by decide), r3, e2, l 2 (by decide), u_ground_eq H hk, cal_t, r3, e3, l 3 (by decide), a1, a2, a3, f_X0_notesFit_71, nI_1]
        by_cases hd : gk k r (S (53 + 4 * i)) (S (54 + 4 * i)) = S (55 + 4 * i)
        · rw [if_pos hd, if_neg (fun q => q (decide_eq_true (fun _ => hd)))]
        · rw [if_neg hd, if_pos (show ¬ ntP S x k r i = true from fun q => hd ((of_decide_eq_true (p := (S (52 + 4 * i) = x → gk k r (S (53 + 4 * i)) (S (54 + 4 * i)) = S (55 + 4 * i))) q) hc)), rZ0]
      · rw [if_neg hc, if_neg (fun q => q (decide_eq_true (fun q' => absurd q' hc))), f_X0_notesFit_71, nI_1]
    · show f_X0_notesFit_3 (f + 1) _ _ _ _ _ _ = _
      rw [f_X0_notesFit_3, gI_t H.o3, m7, if_pos (nI_le (by omega) (by omega)), rZ1]
  rw [e]
  unfold ntB ntN b2
  by_cases hf : ∀ i, i < tn S → ntP S x k r i = true
  · rw [ff_all_t (tn S) 0 (fun j h1 h2 => hf j (by omega)), decide_eq_true hf]; rfl
  · rw [ff_all_f (tn S) 0 (fun q => hf (fun i hi => q i (by omega) (by omega))), decide_eq_false hf]; rfl
theorem isNoted_eq (M : MS w) (I : Iv (wI w 96) K) (x : Int32) {k : Nat} (hk : k < 6) (r : Int32) : f_X12_isNoted 95 x (nI k) r w = some (b2 (ntB (wI w 96) x k r), w) := by
  have t6 := I.2.2.1.2
  unfold f_X12_isNoted
  refine lpE (n := tn (wI w 96)) (F := fun f i => f_X12_isNoted_6 f 95 x (nI k) r (b2 (ntN (wI w 96) x k r i)) (nI i) w) (fun f i hi => ?_) (fun f => ?_) 4096 (by omega)
  · show f_X12_isNoted_6 (f + 1) _ _ _ _ _ _ _ = _
    have e0 : (52 : Int32) + 4 * nI i = nI (52 + 4 * i) := by rw [show (52 : Int32) = nI 52 from rfl, show (4 : Int32) = nI 4 from rfl, pk_mul, nI_add]
    have e1 : nI (52 + 4 * i) + 1 = nI (53 + 4 * i) := by rw [nI_1]; congr 1; omega
    have e2 : nI (52 + 4 * i) + 2 = nI (54 + 4 * i) := by rw [show (2 : Int32) = nI 2 from rfl, nI_add]; congr 1; omega
    have e3 : nI (52 + 4 * i) + 3 = nI (55 + 4 * i) := by rw [show (3 : Int32) = nI 3 from rfl, nI_add]; congr 1; omega
    rw [f_X12_isNoted_6, mg_t M, show (51 : Int32) = nI 51 from rfl, rd_t M (by decide), I.2.2.1.1, if_neg (nI_ge (by omega) (by omega)), nm_t, e0, ntN_s]
    cases hb : ntN (wI w 96) x k r i with
    | false => rw [b2_0, if_pos rfl, f_X12_isNoted_82, f_X12_isNoted_83, Bool.false_and, nI_1]; rfl
    | true =>
      rw [b2_1, if_neg (by decide), mg_t M, rd_t M (by omega), Bool.true_and]
      by_cases hc : wI w 96 (52 + 4 * i) = x
      · rw [if_pos hc, mg_t M, e1, rd_t M (by omega), mg_t M, e2, rd_t M (by omega), mGroundBy_eq hk, cal_t, mg_t M, e3, rd_t M (by omega)]
        by_cases hd : gk k r (wI w 96 (53 + 4 * i)) (wI w 96 (54 + 4 * i)) = wI w 96 (55 + 4 * i)
        · rw [if_pos hd, show ntP (wI w 96) x k r i = true from decide_eq_true (fun _ => hd), f_X12_isNoted_78, f_X12_isNoted_83, nI_1]; rfl
        · rw [if_neg hd, show ntP (wI w 96) x k r i = false from decide_eq_false (fun q => hd (q hc)), f_X12_isNoted_82, f_X12_isNoted_83, nI_1]; rfl
      · rw [if_neg hc, show ntP (wI w 96) x k r i = true from decide_eq_true (fun q => absurd q hc), f_X12_isNoted_78, f_X12_isNoted_83, nI_1]; rfl
  · show f_X12_isNoted_6 (f + 1) _ _ _ _ _ _ _ = _
    rw [f_X12_isNoted_6, mg_t M, show (51 : Int32) = nI 51 from rfl, rd_t M (by decide), I.2.2.1.1, if_pos (nI_le (by omega) (by omega))]
    unfold ntB
    cases ntN (wI w 96) x k r (tn (wI w 96))
    · exact rZ0
    · exact rZ1
def mskK (S : Nat → Int32) (x r : Int32) : Nat := mskN (fun k => ntB S x k r = true) 6
theorem fitKinds_row (H : HS w h) (R : HR (wI w) h S) (I : Iv S K) (x r : Int32) : f_X0_fittingKinds (h + 3) x r w = some (nI (mskK S x r), w) := by
  unfold f_X0_fittingKinds
  refine lpE (n := 6) (F := fun f i => f_X0_fittingKinds_5 f (h + 3) x r (nI (mskN (fun k => ntB S x k r = true) i)) (nI i) w) (fun f i hi => ?_) (fun f => ?_) 4096 (by omega)
  · show f_X0_fittingKinds_5 (f + 1) _ _ _ _ _ _ = _
    rw [f_X0_fittingKinds_5, if_neg (show ¬ (6 : Int32) ≤ nI i from nI_ge (b := 6) hi (by decide)), calV_t H.o3, notesFit_row H R I x hi, cal_t, mskN]
    by_cases hb : ntB S x i r = true
    · rw [hb, b2_1, if_neg (by decide), nm_t, msk_or (by omega), f_X0_fittingKinds_30, nI_1, if_pos rfl]
    · rw [if_neg hb, Bool.not_eq_true _ |>.mp hb, b2_0, if_pos rfl, f_X0_fittingKinds_30, nI_1]
  · show f_X0_fittingKinds_5 (f + 1) _ _ _ _ _ _ = _
    rw [f_X0_fittingKinds_5, if_pos (show (6 : Int32) ≤ nI 6 by decide)]
    rfl
theorem kindsOf_eq (M : MS w) (I : Iv (wI w 96) K) {g : Nat} (hg : g < 6) : f_X12_kindsOf 95 (nI g) w = some (nI (mskK (wI w 96) (nI g) (wI w 96 (26 + g))), w) := by
  have c26 : (26 : Int32) + nI g = nI (26 + g) := nI_add 26 g
  unfold f_X12_kindsOf
  refine lpE (n := 6) (F := fun f i => f_X12_kindsOf_4 f 95 (nI g) (nI (mskN (fun k => ntB (wI w 96) (nI g) k (wI w 96 (26 + g)) = true) i)) (nI i) w) (fun f i hi => ?_) (fun f => ?_) 4096 (by omega)
  · show f_X12_kindsOf_4 (f + 1) _ _ _ _ _ = _
    rw [f_X12_kindsOf_4, if_neg (show ¬ (6 : Int32) ≤ nI i from nI_ge (b := 6) hi (by decide)), mg_t M, c26, rd_t M (by omega), mc_t M, isNoted_eq M I (nI g) hi, cal_t, mskN]
    by_cases hb : ntB (wI w 96) (nI g) i (wI w 96 (26 + g)) = true
    · rw [hb, b2_1, if_neg (by decide), f_X12_kindsOf_36, nm_t, msk_or (by omega), nI_1, if_pos rfl]
    · rw [if_neg hb, Bool.not_eq_true _ |>.mp hb, b2_0, if_pos rfl, f_X12_kindsOf_36, nm_t, show (0 : Int32) = nI 0 from rfl, orN, Nat.or_zero, nI_1]
  · show f_X12_kindsOf_4 (f + 1) _ _ _ _ _ = _
    rw [f_X12_kindsOf_4, if_pos (show (6 : Int32) ≤ nI 6 by decide)]
    rfl
theorem p_is (V : Inv w K) (x y : Int32) : Pr w (K + 60) (f_X11_is 0 x y) (f_X12_is 95 x y) := by
  have M := V.ms
  obtain ⟨⟨h0, h1, s, r⟩, I, R⟩ := id V
  have bad : (f_X11_is_20 0 w = some (-2, cW w 94 (rfT 0 (wI w 94)))) := by
    unfold f_X11_is_20
    rw [cc_t M, cRefB M, cal_t]
  have bad2 : ∀ w', MS w' → (f_X12_is_17 95 w' = some (-2, cW w' 98 (rfT 0 (wI w' 98)))) := fun w' M' => by
    unfold f_X12_is_17
    rw [mc_t M', mRefB M', cal_t]
  have e9 : ∀ T, wI (cW w 94 T) 96 = wI w 96 := fun T => cW_o (by decide)
  have J9 : ∀ T, Iv (wI (cW w 94 T) 96) K := fun T => by rw [e9]; exact I
  by_cases hg : hasg (nn (wI w 96)) x
  · obtain ⟨g, hg, rfl⟩ := hg
    have cY := hasY s r I hg
    have mY : ∀ w', MS w' → wI w' 96 = wI w 96 → f_X12_isGoods 95 (nI g) w' = some (1, w') := fun w' M' e => mGoodsY (K := K) M' (by rw [e]; exact I) (by rw [e]; exact hg)
    have hn6 := I.n.2
    have g6 : g < 6 := by omega
    obtain ⟨k, hk, ek⟩ := I.kd hg
    obtain ⟨a1, a2, a3, a4, a5⟩ := r.2.1 g hg
    have og := s.ho.og g6
    have c20 : (20 : Int32) + nI g = nI (20 + g) := nI_add 20 g
    by_cases hy : 0 ≤ y ∧ y ≤ 1
    · by_cases y0 : y = 0
      · refine Pr.qt V (r := nI (mskK (wI w 96) (nI g) (wI w 96 (26 + g)))) (w1 := w) ?_ Qt.rf (w2 := w) ?_ Qt.rf
        · unfold f_X11_is
          rw [ng_t s, hc_t s, cY, cal_t, if_neg (by decide), within_eq, if_pos hy, cal_t, if_neg (by decide), ng_t s, hr0_t s, gd_t s g6, if_pos y0, ng_t s, hr1_t s, gI_t og, a2, calV_t s.ho.o3, fitKinds_row s.ho r I, cal_t]
          rfl
        · unfold f_X12_is
          rw [mc_t M, mY w M rfl, cal_t, if_neg (by decide), in_eq, if_pos hy, cal_t, if_neg (by decide), if_pos y0, mc_t M, kindsOf_eq M I g6, cal_t]
      · refine Pr.qt V (r := nI (cb (fun i => ntB (wI w 96) (nI g) k (nI (i + 1))) 9)) (w1 := w) ?_ Qt.rf (w2 := w) ?_ Qt.rf
        · unfold f_X11_is
          rw [ng_t s, hc_t s, cY, cal_t, if_neg (by decide), within_eq, if_pos hy, cal_t, if_neg (by decide), ng_t s, hr0_t s, gd_t s g6, if_neg y0, ng_t s, hr1_t s, gI_t og, a1, ek, calV_t s.ho.o3]
          have e : f_X0_fittingRates (h0 + 3) (nI g) (nI k) w = some (nI (cb (fun i => ntB (wI w 96) (nI g) k (nI (i + 1))) 9), w) := by
            unfold f_X0_fittingRates
            refine lpE (n := 9) (F := fun f i => f_X0_fittingRates_5 f (h0 + 3) (nI g) (nI k) (nI (cb (fun i => ntB (wI w 96) (nI g) k (nI (i + 1))) i)) (nI (i + 1)) w) (fun f i hi => ?_) (fun f => ?_) 4096 (by omega)
            · show f_X0_fittingRates_5 (f + 1) _ _ _ _ _ _ = _
              rw [f_X0_fittingRates_5, if_neg (show ¬ (9 : Int32) < nI (i + 1) from nI_nlt (a := 9) (by omega) (by decide)), calV_t s.ho.o3, notesFit_row s.ho r I _ hk, cal_t, cb, f_X0_fittingRates_26, f_X0_fittingRates_26, nI_1, nI_1]
              cases ntB (wI w 96) (nI g) k (nI (i + 1))
              · rfl
              · rfl
            · show f_X0_fittingRates_5 (f + 1) _ _ _ _ _ _ = _
              rw [f_X0_fittingRates_5, if_pos (show (9 : Int32) < nI (9 + 1) by decide)]
          rw [e, cal_t]
          rfl
        · unfold f_X12_is
          rw [mc_t M, mY w M rfl, cal_t, if_neg (by decide), in_eq, if_pos hy, cal_t, if_neg (by decide), if_neg y0]
          refine lpE (n := 9) (F := fun f i => f_X12_is_39 f 95 (nI g) (nI (cb (fun i => ntB (wI w 96) (nI g) k (nI (i + 1))) i)) (nI (i + 1)) w) (fun f i hi => ?_) (fun f => ?_) 4096 (by omega)
          · show f_X12_is_39 (f + 1) _ _ _ _ _ = _
            rw [f_X12_is_39, if_neg (show ¬ (10 : Int32) ≤ nI (i + 1) from nI_ge (b := 10) (by omega) (by decide)), mg_t M, c20, rd_t M (by omega), ek, mc_t M, isNoted_eq M I _ hk, cal_t, cb, f_X12_is_71, f_X12_is_71, nm_t, nm_t, nI_1, nI_1]
            cases ntB (wI w 96) (nI g) k (nI (i + 1))
            · rw [b2_0, if_pos rfl, Int32.add_zero]; rfl
            · rfl
          · show f_X12_is_39 (f + 1) _ _ _ _ _ = _
            rw [f_X12_is_39, if_pos (show (10 : Int32) ≤ nI (9 + 1) by decide)]
    · refine Pr.rfj (r := -2) V 0 (by decide) ?_ ?_
      · unfold f_X11_is
        rw [ng_t s, hc_t s, cY, cal_t, if_neg (by decide), within_eq, if_neg hy, cal_t, if_pos rfl, bad]
      · unfold f_X12_is
        rw [mc_t M.cW, mY _ M.cW (e9 _), cal_t, if_neg (by decide), in_eq, if_neg hy, cal_t, if_pos rfl, bad2 _ M.cW]
  · refine Pr.rfj (r := -2) V 0 (by decide) ?_ ?_
    · unfold f_X11_is
      rw [ng_t s, hc_t s, hasN s r I hg, cal_t, if_pos rfl, bad]
    · unfold f_X12_is
      rw [mc_t M.cW, mGoodsN M.cW (J9 _) (by rw [e9]; exact hg), cal_t, if_pos rfl, bad2 _ M.cW]
end R6
