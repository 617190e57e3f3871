section Q2
variable {w : Wd} {h K : Nat} {S T : Nat → Int32}
theorem hasN {h0 h1 : Nat} (s : Sp w h0 h1) (r : HR (wI w) h0 S) (I : Iv S K) {x : Int32} (hg : ¬ hasg (nn S) x) : f_X2_has h0 x w = some (0, w) := has_no s.ho I.n.2 (by rw [r.1.2.1]; exact I.n.1) hg
theorem hasY {h0 h1 : Nat} (s : Sp w h0 h1) (r : HR (wI w) h0 S) (I : Iv S K) {g : Nat} (hg : g < nn S) : f_X2_has h0 (nI g) w = some (1, w) := has_yes s.ho I.n.2 (by rw [r.1.2.1]; exact I.n.1) hg
theorem p_grind (V : Inv w K) (x : Int32) : Pr w (K + 60) (f_X11_grind 0 x) (f_X12_grind 95 x) := by
  have M := V.ms
  obtain ⟨⟨h0, h1, s, r⟩, I, R⟩ := id V
  by_cases hx : hasg (nn (wI w 96)) x
  · have hx' := hx
    obtain ⟨g, hg, rfl⟩ := hx
    obtain ⟨w1, q1, q2, q3⟩ := remember_row s.ho r I
    have s1 := s.to q2.1
    have f : Fr (hset h0) w (sI w1 h0 7 (nI g)) := q2.tr (Fr.sI ⟨by omega, by omega⟩)
    have M2 : MS (sI w1 h0 7 (nI g)) := M.to f.1
    have I2 : Iv (keepS (wI w 96)) K := keepS_iv I
    have en : nn (keepS (wI w 96)) = nn (wI w 96) := by unfold nn; rw [keepS_mid I (by decide)]
    refine ⟨wI w 96 15, sI w1 h0 7 (nI g), _, ?_, ?_, V.mut (K2 := K + 60) (T := upd (keepS (wI w 96)) 15 (nI g)) s f (q3.set I2 (nI g) (j := 15) (by omega)) ((I2.s15 (Or.inr (by rw [en]; exact hx'))).mono (by omega)) (fun j hj => rfl) (fun j hj h2 => by rw [pk_un (by omega), keepS_hi I hj]) (by omega)⟩
    · unfold f_X11_grind
      rw [ng_t s, hc_t s, hasY s r I hg, cal_t, if_neg (by decide), ng_t s, hc_t s, q1, cal_t, ng_t s1, gI_t s1.ho.o, q3.1.2.2.2.2.1, keepS_mid I (by decide), ng_t s1, pI_t s1.ho.o]
    · unfold f_X12_grind
      have e96 := f.w96 s
      have I3 : Iv (wI (sI w1 h0 7 (nI g)) 96) K := by rw [e96]; exact I
      rw [mc_t M2, mGoodsY M2 I3 (by rw [e96]; exact hg), cal_t, if_neg (by decide), mc_t M2, mKeep_eq M2 I3, cal_t, mg_t M2.cW, show (15 : Int32) = nI 15 from rfl, rd_t M2.cW (by decide), mg_t M2.cW, wr_t M2.cW (by decide), cW_s, cW_cW, e96, keepS_mid I (by decide)]
  · refine Pr.rfj (r := -10) V 0 (by decide) ?_ ?_
    · unfold f_X11_grind
      rw [ng_t s, hc_t s, hasN s r I hx, cal_t, if_pos rfl, cc_t M, cRefA M, cal_t]
    · unfold f_X12_grind
      have e96 : wI (cW w 94 (rfT 0 (wI w 94))) 96 = wI w 96 := cW_o (by decide)
      rw [mc_t M.cW, mGoodsN M.cW (K := K) (by rw [e96]; exact I) (by rw [e96]; exact hx), cal_t, if_pos rfl, mc_t M.cW, mBadTen M.cW, cal_t]
theorem p_grinds (V : Inv w K) : Pr w (K + 60) (f_X11_grinds 0) (f_X12_grinds 95) := by
  have M := V.ms
  obtain ⟨⟨h0, h1, s, r⟩, I, R⟩ := id V
  refine Pr.qt (r := wI w 96 15) V (w1 := w) ?_ Qt.rf (w2 := w) ?_ Qt.rf
  · unfold f_X11_grinds
    rw [ng_t s, gI_t s.ho.o, r.1.2.2.2.2.1]
  · unfold f_X12_grinds
    rw [mg_t M, show (15 : Int32) = nI 15 from rfl, rd_t M (by decide)]
theorem mUndo_eq (M : MS w) {u : Nat} (hu : u ≤ 7) (h76 : wI w 96 76 = nI u) : f_X12_undo_30 4096 95 0 w = some (wI w 96 (77 + 17 * u + 14), cW w 96 (cpR (wI w 96) (77 + 17 * u) 0 17)) := by
  refine (congrArg (f_X12_undo_30 4096 95 0) (show w = cW w 96 (cpR (wI w 96) (77 + 17 * u) 0 0) from by rw [cpR_0, cW_id])).trans ?_
  refine lpE (n := 17) (F := fun f i => f_X12_undo_30 f 95 (nI i) (cW w 96 (cpR (wI w 96) (77 + 17 * u) 0 i))) (fun f i hi => ?_) (fun f => ?_) 4096 (by decide)
  · show f_X12_undo_30 (f + 1) _ _ _ = _
    have e1 : cpR (wI w 96) (77 + 17 * u) 0 i 76 = nI u := by rw [cpR_o (by omega), h76]
    have e2 : (77 : Int32) + 17 * nI u + nI i = nI (77 + 17 * u + i) := by rw [show (77 : Int32) = nI 77 from rfl, show (17 : Int32) = nI 17 from rfl, pk_mul, nI_add, nI_add]
    have e3 := cpR_step (S := wI w 96) (s := 77 + 17 * u) (d := 0) (i := i) (by omega)
    rw [Nat.zero_add] at e3
    rw [f_X12_undo_30, if_neg (show ¬ (17 : Int32) ≤ nI i from nI_ge (b := 17) hi (by decide)), mg_t M.cW, mg_t M.cW, mg_t M.cW, show (76 : Int32) = nI 76 from rfl, rd_t M.cW (by decide), cW_s, e1, e2, rd_t M.cW (by omega), wr_t M.cW (by omega), cW_s, cW_cW, nI_1, e3]
  · show f_X12_undo_30 (f + 1) _ _ _ = _
    rw [f_X12_undo_30, if_pos (show (17 : Int32) ≤ nI 17 from nI_le (a := 17) (by decide) (by decide)), mg_t M.cW, show (14 : Int32) = nI 14 from rfl, rd_t M.cW (by decide), cW_s]
    have e4 := cpR_in (S := wI w 96) (s := 77 + 17 * u) (d := 0) (i := 17) (j := 14) (by decide)
    rw [Nat.zero_add] at e4
    rw [e4]
theorem p_undo (V : Inv w K) : Pr w (K + 60) (f_X11_undo 0) (f_X12_undo 95) := by
  have M := V.ms
  obtain ⟨⟨h0, h1, s, r⟩, I, R⟩ := id V
  have h76 := I.2.2.2.1.1
  have hu8 := I.2.2.2.1.2
  by_cases hu : 0 < un (wI w 96)
  · obtain ⟨u, hu1⟩ : ∃ u, un (wI w 96) = u + 1 := ⟨un (wI w 96) - 1, by omega⟩
    obtain ⟨w1, q1, q2, q3⟩ := goBack_row s.ho r I hu
    have s1 := s.to q2.1
    have M1 : MS w1 := M.to q2.1
    have e96 := q2.w96 s
    refine ⟨wI w 96 (77 + 17 * u + 14), w1, _, ?_, ?_, V.mut (K2 := K + 60) (T := undoS (wI w 96)) s q2 q3 ((undoS_iv I hu).mono (by omega)) (fun j hj => rfl) (fun j hj h2 => undoS_o (by omega) (by omega)) (by omega)⟩
    · unfold f_X11_undo
      rw [ng_t s, gI_t s.ho.o, r.1.1, h76, if_pos (show (0 : Int32) < nI (un (wI w 96)) from nI_lt (a := 0) hu (by omega)), ng_t s, hc_t s, q1, cal_t, ng_t s1, gI_t s1.ho.o, q3.1.2.2.2.2.2.2.1, undoS_lo (by decide), hu1, Nat.add_sub_cancel]
    · unfold f_X12_undo
      rw [mg_t M1, show (76 : Int32) = nI 76 from rfl, rd_t M1 (by decide), e96, h76, if_neg (nI_ne0 hu (by omega)), mg_t M1, rd_t M1 (by decide), e96, h76, wr_t M1 (by decide), e96, hu1, nI_pred, mUndo_eq M1.cW (u := u) (by omega) (by rw [cW_s, pk_us]), cW_s, cW_cW, pk_un (by omega)]
      have e : cpR (upd (wI w 96) 76 (nI u)) (77 + 17 * u) 0 17 = undoS (wI w 96) := by
        funext j
        unfold cpR undoS
        rw [hu1, Nat.add_sub_cancel]
        by_cases h1 : j < 17
        · rw [if_pos ⟨by omega, by omega⟩, if_pos h1, pk_un (by omega), Nat.sub_zero]
        · rw [if_neg (by omega), if_neg h1]
          by_cases h2 : j = 76
          · rw [h2, pk_us, if_pos rfl]
          · rw [pk_un h2, if_neg h2]
      rw [e]
  · have hu0 : un (wI w 96) = 0 := by omega
    refine Pr.rfj (r := -3) V 1 (by decide) ?_ ?_
    · unfold f_X11_undo
      rw [ng_t s, gI_t s.ho.o, r.1.1, h76, hu0, if_neg (by decide), cc_t M, cRefN M, cal_t]
    · unfold f_X12_undo
      rw [mg_t M.cW, show (76 : Int32) = nI 76 from rfl, rd_t M.cW (by decide), cW_o (by decide), h76, hu0, if_pos nI_0, mc_t M.cW, mRefN M.cW, cal_t]
/-! HOURs -/
def hrS (S : Nat → Int32) : Nat → Nat → Int32
  | 0 => S
  | i + 1 => pasO (hrS S i) (hrS S i 17) (hrS S i) (hrS S i 15)
def hrM (S : Nat → Int32) : Nat → Int32
  | 0 => 0
  | i + 1 => hrM S i + manyO (hrS S i) (hrS S i) (hrS S i 15)
theorem hrS_iv (I : Iv S K) : ∀ i, K + i < 2 ^ 31 → Iv (hrS S i) (K + i)
  | 0, _ => I
  | i + 1, hK => pas_iv (K := K + i) (hrS_iv I i (by omega)) (by omega)
theorem hrS_o (I : Iv S K) : ∀ i, K + i < 2 ^ 31 → ∀ j, 15 ≤ j → hrS S i j = S j
  | 0, _, _, _ => rfl
  | i + 1, hK, j, hj => by
    have I2 := hrS_iv I i (by omega)
    rw [hrS, pas_o (I2.pv.2.2.1) I2.n.2 hj]
    exact hrS_o I i (by omega) j hj
theorem cHour_eq {h0 h1 : Nat} (s : Sp w h0 h1) (r : HR (wI w) h0 S) (I : Iv S K) {n : Nat} (hn : n ≤ 60) (hK : K + 60 < 2 ^ 31) : ∃ w', f_X11_hour_28 4096 0 (nI n) 0 0 w = some (hrM S n, w') ∧ Fr (hset h0) w w' ∧ HR (wI w') h0 (hrS S n) := by
  have h : ∀ d i fuel w1, i + d = n → d < fuel → Fr (hset h0) w w1 → HR (wI w1) h0 (hrS S i) → ∃ w', f_X11_hour_28 fuel 0 (nI n) (hrM S i) (nI i) w1 = some (hrM S n, w') ∧ Fr (hset h0) w w' ∧ HR (wI w') h0 (hrS S n) := by
    intro d
    induction d with
    | zero =>
      intro i fuel w1 hi hf f1 r1
      obtain ⟨f, rfl⟩ : ∃ f, fuel = f + 1 := ⟨fuel - 1, by omega⟩
      obtain rfl : i = n := by omega
      exact ⟨w1, by rw [f_X11_hour_28, if_pos (nI_le (by omega) (by omega))], f1, r1⟩
    | succ d ih =>
      intro i fuel w1 hi hf f1 r1
      obtain ⟨f, rfl⟩ : ∃ f, fuel = f + 1 := ⟨fuel - 1, by omega⟩
      have s1 := s.to f1.1
      obtain ⟨w2, q1, q2, q3⟩ := passHour_row s1.ho r1 (hrS_iv I i (by omega))
      rw [f_X11_hour_28, if_neg (nI_ge (by omega) (by omega)), ng_t s1, hc_t s1, q1, cal_t, nm_t, nI_1]
      exact ih (i + 1) f w2 (by omega) (by omega) (f1.tr q2) q3
  exact h n 0 4096 w (by omega) (by omega) (Fr.rf w) r
theorem mHour_eq (M : MS w) (I : Iv (wI w 96) K) {n : Nat} (hn : n ≤ 60) (hK : K + 60 < 2 ^ 31) : f_X12_hour_25 4096 95 (nI n) 0 0 w = some (hrM (wI w 96) n, cW w 96 (hrS (wI w 96) n)) := by
  refine (congrArg (f_X12_hour_25 4096 95 (nI n) 0 0) (show w = cW w 96 (hrS (wI w 96) 0) from by rw [hrS, cW_id])).trans ?_
  refine lpE (n := n) (F := fun f i => f_X12_hour_25 f 95 (nI n) (hrM (wI w 96) i) (nI i) (cW w 96 (hrS (wI w 96) i))) (fun f i hi => ?_) (fun f => ?_) 4096 (by omega)
  · show f_X12_hour_25 (f + 1) _ _ _ _ _ = _
    have I2 := hrS_iv I i (by omega)
    have I3 : Iv (wI (cW w 96 (hrS (wI w 96) i)) 96) (K + i) := by rw [cW_s]; exact I2
    have hx := I2.pv.2.2.1
    rw [f_X12_hour_25, if_neg (nI_ge (by omega) (by omega)), mg_t M.cW, show (15 : Int32) = nI 15 from rfl, rd_t M.cW (by decide), mc_t M.cW, show f_X12_pass 95 0 = f_X12_pass 95 (nI 0) from rfl, mPass_eq M.cW (b := 0) (by decide) I3 (by rw [cW_s]; exact hx), cal_t, nm_t, nI_1]
    simp only [cW_s, cW_cW, Nat.zero_add]
    have e : putQ (hrS (wI w 96) i) 0 (pasO (hrS (wI w 96) i) (hrS (wI w 96) i 17) (hrS (wI w 96) i) (hrS (wI w 96) i 15)) = hrS (wI w 96) (i + 1) := by
      funext j
      rw [hrS]
      unfold putQ
      by_cases hj : j < 17
      · rw [if_pos ⟨by omega, by omega⟩, Nat.sub_zero]
      · rw [if_neg (by omega), pas_o hx I2.n.2 (by omega)]
    rw [e]
    rfl
  · show f_X12_hour_25 (f + 1) _ _ _ _ _ = _
    rw [f_X12_hour_25, if_pos (nI_le (by omega) (by omega))]
theorem p_hour (V : Inv w K) (hK : K + 60 < 2 ^ 31) (x : Int32) : Pr w (K + 60) (f_X11_hour 0 x) (f_X12_hour 95 x) := by
  have M := V.ms
  by_cases hx : 1 ≤ x ∧ x ≤ 60
  · obtain ⟨n, hn1, hn, rfl⟩ := rng1 1 60 hx (by decide) (by decide)
    obtain ⟨⟨h0, h1, s, r⟩, I, R⟩ := id V
    obtain ⟨w1, q1, q2, q3⟩ := remember_row s.ho r I
    have s1 := s.to q2.1
    have I2 : Iv (keepS (wI w 96)) K := keepS_iv I
    obtain ⟨w2, p1, p2, p3⟩ := cHour_eq s1 q3 I2 hn hK
    have f := q2.tr p2
    have M2 : MS w2 := M.to f.1
    have e96 := f.w96 s
    refine ⟨hrM (keepS (wI w 96)) n, w2, _, ?_, ?_, V.mut (K2 := K + 60) (T := hrS (keepS (wI w 96)) n) s f p3 ((hrS_iv I2 n (by omega)).mono (by omega)) (fun j hj => rfl) (fun j hj h2 => by rw [hrS_o I2 n (by omega) j (by omega), keepS_hi I hj]) (by omega)⟩
    · unfold f_X11_hour
      rw [within_eq, if_pos hx, cal_t, if_neg (by decide), ng_t s, hc_t s, q1, cal_t, p1]
    · unfold f_X12_hour
      rw [in_eq, if_pos hx, cal_t, if_neg (by decide), mc_t M2, mKeep_eq M2 (by rw [e96]; exact I), cal_t, mHour_eq M2.cW (K := K) (by rw [cW_s, e96]; exact I2) hn hK, cW_s, cW_cW, e96]
  · refine Pr.rfj (r := -2) V 0 (by decide) ?_ ?_
    · unfold f_X11_hour
      rw [within_eq, if_neg hx, cal_t, if_pos rfl, cc_t M, cRefB M, cal_t]
    · unfold f_X12_hour
      rw [in_eq, if_neg hx, cal_t, if_pos rfl, mc_t M.cW, mRefB M.cW, cal_t]
end Q2
