section S3
variable {w w' : Wd} {h k K K2 : Nat} {S T : Nat → Int32}
theorem lkA_e {c t : Nat} (ht : t < 4) : (10 : Int32) * nI c + nI t = lkA (4 * c + t) := by
  unfold lkA
  rw [show (10 : Int32) = nI 10 from rfl, pk_mul, nI_add, show (4 * c + t) / 4 = c by omega, show (4 * c + t) % 4 = t by omega]
theorem cLook_in (H : HS w h) (x r : Int32) {c : Nat} (rec : Nat → Int32 → Int32 → Int32 → Int32 → Int32 → Wd → Option (Int32 × Wd)) : ∀ (d t fuel : Nat) (T : Nat → Int32), t + d = 4 → d < fuel → ∃ T', f_X0_sharpestLook_33 rec fuel (h + 3) r (nI (mskK S x r)) (bsp (lkM S x r) lkA (-1) 7 (4 * c + t)).1 (nI (bsp (lkM S x r) lkA (-1) 7 (4 * c + t)).2) (nI c) (nI t) (cW w (h + 8) T) = rec (h + 3) r (nI (mskK S x r)) (bsp (lkM S x r) lkA (-1) 7 (4 * (c + 1))).1 (nI (bsp (lkM S x r) lkA (-1) 7 (4 * (c + 1))).2) (nI (c + 1)) (cW w (h + 8) T') := by
  intro d
  induction d with
  | zero =>
    intro t fuel T ht hf
    obtain ⟨f, rfl⟩ : ∃ f, fuel = f + 1 := ⟨fuel - 1, by omega⟩
    obtain rfl : t = 4 := by omega
    exact ⟨T, by rw [f_X0_sharpestLook_33, if_pos (show (4 : Int32) ≤ nI 4 by decide), nI_1]; rfl⟩
  | succ d ih =>
    intro t fuel T ht hf
    obtain ⟨f, rfl⟩ : ∃ f, fuel = f + 1 := ⟨fuel - 1, by omega⟩
    have m := mostGround_eq (S := S) (x := x) (r := r) (i := 4 * c + t) (H.cW (a := h + 8) (T := T))
    rw [show (4 * c + t) % 4 = t by omega, show (4 * c + t) / 4 = c by omega] at m
    have b1 := lkM_le S x r (4 * c + t)
    have b2 := bsp_le (v := lkM S x r) (a := lkA) (b0 := -1) (l0 := 7) (4 * c + t)
    rw [f_X0_sharpestLook_33, if_neg (show ¬ (4 : Int32) ≤ nI t from nI_ge (b := 4) (by omega) (by decide)), calV_t H.cW.o3, m, cal_t, cW_cW]
    have i2 := fun T' => ih (t + 1) f T' (by omega) (by omega)
    rw [← Nat.add_assoc, bsp] at i2
    by_cases hc : lkM S x r (4 * c + t) < (bsp (lkM S x r) lkA (-1) 7 (4 * c + t)).2
    · rw [if_pos hc] at i2
      rw [if_neg (nI_ge hc (by omega)), nm_t, f_X0_sharpestLook_72, nI_1, lkA_e (by omega)]
      exact i2 _
    · rw [if_neg hc] at i2
      rw [if_pos (nI_le (by omega) (by omega)), f_X0_sharpestLook_72, nI_1]
      exact i2 _
theorem cLook_out (H : HS w h) (x r : Int32) : ∀ (d c fuel : Nat) (T : Nat → Int32), c + d = 10 → d < fuel → ∃ T', f_X0_sharpestLook_23 fuel (h + 3) r (nI (mskK S x r)) (bsp (lkM S x r) lkA (-1) 7 (4 * c)).1 (nI (bsp (lkM S x r) lkA (-1) 7 (4 * c)).2) (nI c) (cW w (h + 8) T) = some ((bsp (lkM S x r) lkA (-1) 7 40).1, cW w (h + 8) T') := by
  intro d
  induction d with
  | zero =>
    intro c fuel T hc hf
    obtain ⟨f, rfl⟩ : ∃ f, fuel = f + 1 := ⟨fuel - 1, by omega⟩
    obtain rfl : c = 10 := by omega
    exact ⟨T, by rw [f_X0_sharpestLook_23, if_pos (show (9 : Int32) < nI 10 by decide)]⟩
  | succ d ih =>
    intro c fuel T hc hf
    obtain ⟨f, rfl⟩ : ∃ f, fuel = f + 1 := ⟨fuel - 1, by omega⟩
    rw [f_X0_sharpestLook_23, if_neg (show ¬ (9 : Int32) < nI c from nI_nlt (a := 9) (by omega) (by decide))]
    obtain ⟨T1, t1⟩ := cLook_in (S := S) (c := c) H x r (f_X0_sharpestLook_23 f) 4 0 4096 T (by omega) (by omega)
    obtain ⟨T2, t2⟩ := ih (c + 1) f T1 (by omega) (by omega)
    exact ⟨T2, t1.trans t2⟩
theorem mLook_in (M : MS w) {g c : Nat} (hg : g < 6) (rec : Nat → Int32 → Int32 → Int32 → Int32 → Int32 → Wd → Option (Int32 × Wd)) : f_X12_look_44 rec 4096 95 (nI g) (nI (mskK (wI w 96) (nI g) (wI w 96 (26 + g)))) (bsp (lkM (wI w 96) (nI g) (wI w 96 (26 + g))) lkA (-1) 99 (4 * c)).1 (nI (bsp (lkM (wI w 96) (nI g) (wI w 96 (26 + g))) lkA (-1) 99 (4 * c)).2) (nI c) 0 w = rec 95 (nI g) (nI (mskK (wI w 96) (nI g) (wI w 96 (26 + g)))) (bsp (lkM (wI w 96) (nI g) (wI w 96 (26 + g))) lkA (-1) 99 (4 * (c + 1))).1 (nI (bsp (lkM (wI w 96) (nI g) (wI w 96 (26 + g))) lkA (-1) 99 (4 * (c + 1))).2) (nI (c + 1)) w := by
  refine lpE (n := 4) (F := fun f t => f_X12_look_44 rec f 95 (nI g) (nI (mskK (wI w 96) (nI g) (wI w 96 (26 + g)))) (bsp (lkM (wI w 96) (nI g) (wI w 96 (26 + g))) lkA (-1) 99 (4 * c + t)).1 (nI (bsp (lkM (wI w 96) (nI g) (wI w 96 (26 + g))) lkA (-1) 99 (4 * c + t)).2) (nI c) (nI t) w) (fun f t ht => ?_) (fun f => ?_) 4096 (by decide)
  · show f_X12_look_44 _ (f + 1) _ _ _ _ _ _ _ _ = _
    have m := mostKinds_eq (w := w) (x := nI g) (i := 4 * c + t) M hg
    rw [show (4 * c + t) % 4 = t by omega, show (4 * c + t) / 4 = c by omega] at m
    have b1 := lkM_le (wI w 96) (nI g) (wI w 96 (26 + g)) (4 * c + t)
    have b2 := bsp_le (v := lkM (wI w 96) (nI g) (wI w 96 (26 + g))) (a := lkA) (b0 := -1) (l0 := 99) (4 * c + t)
    rw [f_X12_look_44, if_neg (show ¬ (4 : Int32) ≤ nI t from nI_ge (b := 4) (by omega) (by decide)), mc_t M, m, cal_t, ← Nat.add_assoc, bsp]
    by_cases hc : lkM (wI w 96) (nI g) (wI w 96 (26 + g)) (4 * c + t) < (bsp (lkM (wI w 96) (nI g) (wI w 96 (26 + g))) lkA (-1) 99 (4 * c + t)).2
    · rw [if_neg (nI_ge hc (by omega)), f_X12_look_81, if_neg (nI_ge hc (by omega)), f_X12_look_96, nI_1, lkA_e (by omega), if_pos hc]
    · rw [if_pos (nI_le (by omega) (by omega)), f_X12_look_81, if_pos (nI_le (by omega) (by omega)), f_X12_look_96, nI_1, if_neg hc]
  · show f_X12_look_44 _ (f + 1) _ _ _ _ _ _ _ _ = _
    rw [f_X12_look_44, if_pos (show (4 : Int32) ≤ nI 4 by decide), nI_1]
    rfl
theorem mLook_out (M : MS w) {g : Nat} (hg : g < 6) (h0 : ¬ nI (mskK (wI w 96) (nI g) (wI w 96 (26 + g))) = 0) : f_X12_look_30 4096 95 (nI g) (nI (mskK (wI w 96) (nI g) (wI w 96 (26 + g)))) (-1) 99 0 w = some ((bsp (lkM (wI w 96) (nI g) (wI w 96 (26 + g))) lkA (-1) 99 40).1, w) := by
  refine lpE (n := 10) (F := fun f c => f_X12_look_30 f 95 (nI g) (nI (mskK (wI w 96) (nI g) (wI w 96 (26 + g)))) (bsp (lkM (wI w 96) (nI g) (wI w 96 (26 + g))) lkA (-1) 99 (4 * c)).1 (nI (bsp (lkM (wI w 96) (nI g) (wI w 96 (26 + g))) lkA (-1) 99 (4 * c)).2) (nI c) w) (fun f c hc => ?_) (fun f => ?_) 4096 (by decide)
  · show f_X12_look_30 (f + 1) _ _ _ _ _ _ _ = _
    rw [f_X12_look_30, if_neg (show ¬ (10 : Int32) ≤ nI c from nI_ge (b := 10) hc (by decide)), if_neg h0]
    exact mLook_in M hg _
  · show f_X12_look_30 (f + 1) _ _ _ _ _ _ _ = _
    rw [f_X12_look_30, if_pos (show (10 : Int32) ≤ nI 10 by decide), f_X12_look_110]
theorem Qt.h8 {h0 h1 : Nat} (s : Sp w h0 h1) {T : Nat → Int32} : Qt w (cW w (h0 + 8) T) := by
  refine Qt.fr (Fr.cW (A := fun a => a = h0 + 8) rfl) (fun a ha => ?_)
  have := s.hh
  omega
theorem p_look (V : Inv w K) (x : Int32) : Pr w (K + 60) (f_X11_look 0 x) (f_X12_look 95 x) := by
  have M := V.ms
  obtain ⟨⟨h0, h1, s, r⟩, I, R⟩ := id V
  have e9 : ∀ T, wI (cW w 94 T) 96 = wI w 96 := fun T => cW_o (by decide)
  by_cases hg : hasg (nn (wI w 96)) x
  · obtain ⟨g, hg, rfl⟩ := hg
    have cY := hasY s r I hg
    have hn6 := I.n.2
    have g6 : g < 6 := by omega
    obtain ⟨a1, a2, a3, a4, a5⟩ := r.2.1 g hg
    have og := s.ho.og g6
    by_cases hm : nI (mskK (wI w 96) (nI g) (wI w 96 (26 + g))) = 0
    · refine Pr.qt V (r := -1) (w1 := w) ?_ Qt.rf (w2 := w) ?_ Qt.rf
      · unfold f_X11_look
        rw [ng_t s, hc_t s, cY, cal_t, if_neg (by decide), ng_t s, hr1_t s, ng_t s, hr0_t s, gd_t s g6, gI_t og, a2, calV_t s.ho.o3]
        unfold f_X0_sharpestLook
        rw [calV_t s.ho.o3, fitKinds_row s.ho r I, cal_t, if_pos hm, cal_t]
      · unfold f_X12_look
        rw [mc_t M, mGoodsY M I hg, cal_t, if_neg (by decide), mc_t M, kindsOf_eq M I g6, cal_t]
        show f_X12_look_30 (4095 + 1) _ _ _ _ _ _ _ = _
        rw [f_X12_look_30, if_neg (by decide), if_pos hm, f_X12_look_110]
    · obtain ⟨T1, t1⟩ := cLook_out (S := wI w 96) s.ho (nI g) (wI w 96 (26 + g)) 10 0 4096 (wI w (h0 + 8)) (by omega) (by omega)
      rw [cW_id] at t1
      have e96 : wI (cW w (h0 + 8) T1) 96 = wI w 96 := cW_o (by have := s.hh; omega)
      have l0 := lkM_le (wI w 96) (nI g) (wI w 96 (26 + g)) 0
      have eb : bsp (lkM (wI w 96) (nI g) (wI w 96 (26 + g))) lkA (-1) 7 40 = bsp (lkM (wI w 96) (nI g) (wI w 96 (26 + g))) lkA (-1) 99 40 := bsp_same (by omega) (by omega) 39
      refine Pr.qt V (w1 := cW w (h0 + 8) T1) (r := (bsp (lkM (wI w 96) (nI g) (wI w 96 (26 + g))) lkA (-1) 7 40).1) ?_ (Qt.h8 s) (w2 := cW w (h0 + 8) T1) ?_ Qt.rf
      · unfold f_X11_look
        rw [ng_t s, hc_t s, cY, cal_t, if_neg (by decide), ng_t s, hr1_t s, ng_t s, hr0_t s, gd_t s g6, gI_t og, a2, calV_t s.ho.o3]
        unfold f_X0_sharpestLook
        rw [calV_t s.ho.o3, fitKinds_row s.ho r I, cal_t, if_neg hm]
        refine (congrArg (fun o => cal o _) t1).trans ?_
        rw [cal_t]
      · have I' : Iv (wI (cW w (h0 + 8) T1) 96) K := by rw [e96]; exact I
        have o := mLook_out (w := cW w (h0 + 8) T1) M.cW g6 (by rw [e96]; exact hm)
        unfold f_X12_look
        rw [mc_t M.cW, mGoodsY M.cW I' (by rw [e96]; exact hg), cal_t, if_neg (by decide), mc_t M.cW, kindsOf_eq M.cW I' g6, cal_t, o, e96, eb]
  · refine Pr.rfj (r := -2) V 0 (by decide) ?_ ?_
    · unfold f_X11_look
      rw [ng_t s, hc_t s, hasN s r I hg, cal_t, if_pos rfl, cc_t M, cRefB M, cal_t]
    · unfold f_X12_look
      rw [mc_t M.cW, mGoodsN M.cW (K := K) (by rw [e9]; exact I) (by rw [e9]; exact hg), cal_t, if_pos rfl, mc_t M.cW, mRefB M.cW, cal_t]
end S3
