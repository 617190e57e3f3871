section Q6
variable {w : Wd} {h K : Nat} {S T : Nat → Int32}
theorem nI6 {n : Nat} (h : n ≤ 5) : ¬ nI n = (6 : Int32) := fun q => by have := (nI_eq (a := n) (b := 6) (by omega) (by decide)).mp q; omega
theorem p_guess (V : Inv w K) (x y : Int32) : Pr w (K + 60) (f_X11_guess 0 x y) (f_X12_guess 95 x y) := by
  have M := V.ms
  have bad : (f_X11_guess_16 0 w = some (-2, cW w 94 (rfT 0 (wI w 94)))) := by
    unfold f_X11_guess_16
    rw [cc_t M, cRefB M, cal_t]
  have bad2 : ∀ w', MS w' → (f_X12_guess_19 95 w' = some (-2, cW w' 98 (rfT 0 (wI w' 98)))) := fun w' M' => by
    unfold f_X12_guess_19
    rw [mc_t M', mRefB M', cal_t]
  by_cases hx : 0 ≤ x ∧ x ≤ 31
  · by_cases hy : 0 ≤ y ∧ y ≤ 5
    · obtain ⟨⟨h0, h1, s, r⟩, I, R⟩ := id V
      have m6 : wI w (h0 + 3) 6 = nI (gn (wI w 96)) := by rw [r.2.2.1.1]; exact I.2.1.1
      by_cases hn : gn (wI w 96) ≤ 5
      · obtain ⟨k, hk, rfl⟩ := rng 31 hx (by decide)
        obtain ⟨a, ha, rfl⟩ := rng 5 hy (by decide)
        obtain ⟨w1, q1, q2, q3⟩ := addGuess_row s.ho r I hn (nI k) (nI a)
        have s1 := s.to q2.1
        have M1 : MS w1 := M.to q2.1
        have e96 := q2.w96 s
        refine ⟨nI (gn (wI w 96) + 1), w1, _, ?_, ?_, V.mut (K2 := K + 60) (T := gueS (wI w 96) (nI k) (nI a)) s q2 q3 ((gueS_iv I hn hk ha).mono (by omega)) (fun j hj => rfl) (fun j hj h2 => gueS_o hn (by omega)) (by omega)⟩
        · unfold f_X11_guess
          rw [isWord_eq, if_pos hx, cal_t, if_neg (by decide), within_eq, if_pos hy, cal_t, if_neg (by decide), ng_t s, gR_t s.ho.o, s.ho.r1, Option.bind_some, gI_t s.ho.o3, m6, if_pos (show nI (gn (wI w 96)) < (6 : Int32) from nI_lt (b := 6) (by omega) (by decide)), ng_t s, gR_t s.ho.o, s.ho.r1, Option.bind_some, calV_t s.ho.o3, q1, cal_t, ng_t s1, gR_t s1.ho.o, s1.ho.r1, Option.bind_some, gI_t s1.ho.o3, q3.2.2.1.1, gueS_38]
        · have e1 : (39 : Int32) + 2 * nI (gn (wI w 96)) = nI (39 + 2 * gn (wI w 96)) := by rw [show (39 : Int32) = nI 39 from rfl, show (2 : Int32) = nI 2 from rfl, pk_mul, nI_add]
          have e2 : nI (39 + 2 * gn (wI w 96)) + 1 = nI (40 + 2 * gn (wI w 96)) := by rw [nI_1]; congr 1; omega
          unfold f_X12_guess
          rw [in_eq, if_pos hx, cal_t, if_neg (by decide), in_eq, if_pos hy, cal_t, if_neg (by decide), mg_t M1, show (38 : Int32) = nI 38 from rfl, rd_t M1 (by decide), e96, I.2.1.1, if_neg (nI6 hn), mg_t M1, mg_t M1, rd_t M1 (by decide), e96, I.2.1.1, e1, wr_t M1 (by omega), mg_t M1.cW, mg_t M1.cW, rd_t M1.cW (by decide), cW_s, e96, pk_un (by omega), I.2.1.1, e1, e2, wr_t M1.cW (by omega), cW_s, cW_cW, mg_t M1.cW, rd_t M1.cW (by decide), wr_t M1.cW (by decide), cW_s, cW_cW, pk_un (by omega), pk_un (by omega), I.2.1.1, nI_1, mg_t M1.cW, rd_t M1.cW (by decide), cW_s, pk_us]
          rfl
      · have h6 : gn (wI w 96) = 6 := by have := I.2.1.2; omega
        refine Pr.rfj (r := -4) V 2 (by decide) ?_ ?_
        · unfold f_X11_guess
          rw [isWord_eq, if_pos hx, cal_t, if_neg (by decide), within_eq, if_pos hy, cal_t, if_neg (by decide), ng_t s, gR_t s.ho.o, s.ho.r1, Option.bind_some, gI_t s.ho.o3, m6, h6, if_neg (by decide), cc_t M, cRefF M, cal_t]
        · unfold f_X12_guess
          rw [in_eq, if_pos hx, cal_t, if_neg (by decide), in_eq, if_pos hy, cal_t, if_neg (by decide), mg_t M.cW, show (38 : Int32) = nI 38 from rfl, rd_t M.cW (by decide), cW_o (by decide), I.2.1.1, h6, if_pos (show nI 6 = (6 : Int32) from rfl), mc_t M.cW, mRefF M.cW, cal_t]
    · refine Pr.rfj (r := -2) V 0 (by decide) ?_ ?_
      · unfold f_X11_guess
        rw [isWord_eq, if_pos hx, cal_t, if_neg (by decide), within_eq, if_neg hy, cal_t, if_pos rfl, bad]
      · unfold f_X12_guess
        rw [in_eq, if_pos hx, cal_t, if_neg (by decide), in_eq, if_neg hy, cal_t, if_pos rfl, bad2 _ M.cW]
  · refine Pr.rfj (r := -2) V 0 (by decide) ?_ ?_
    · unfold f_X11_guess
      rw [isWord_eq, if_neg hx, cal_t, if_pos rfl, bad]
    · unfold f_X12_guess
      rw [in_eq, if_neg hx, cal_t, if_pos rfl, bad2 _ M.cW]
theorem p_note (V : Inv w K) (x y z v : Int32) : Pr w (K + 60) (f_X11_note 0 x y z v) (f_X12_note 95 x y z v) := by
  have M := V.ms
  obtain ⟨⟨h0, h1, s, r⟩, I, R⟩ := id V
  have bad : (f_X11_note_42 0 w = some (-2, cW w 94 (rfT 0 (wI w 94)))) := by
    unfold f_X11_note_42
    rw [cc_t M, cRefB M, cal_t]
  have bad2 : ∀ w', MS w' → (f_X12_note_39 95 w' = some (-2, cW w' 98 (rfT 0 (wI w' 98)))) := fun w' M' => by
    unfold f_X12_note_39
    rw [mc_t M', mRefB M', cal_t]
  have e9 : ∀ T, wI (cW w 94 T) 96 = wI w 96 := fun T => cW_o (by decide)
  have J9 : ∀ T, Iv (wI (cW w 94 T) 96) K := fun T => by rw [e9]; exact I
  by_cases hg : hasg (nn (wI w 96)) x
  · obtain ⟨g, hg, rfl⟩ := hg
    have cY := hasY s r I hg
    have mY : ∀ w', MS w' → wI w' 96 = wI w 96 → f_X12_isGoods 95 (nI g) w' = some (1, w') := fun w' M' e => mGoodsY (K := K) M' (by rw [e]; exact I) (by rw [e]; exact hg)
    by_cases hy : 0 ≤ y ∧ y ≤ 99
    · by_cases hz : 0 ≤ z ∧ z ≤ 9
      · by_cases hv : 0 ≤ v ∧ v ≤ 20
        · have m7 : wI w (h0 + 3) 7 = nI (tn (wI w 96)) := by rw [r.2.2.1.2.1]; exact I.2.2.1.1
          by_cases hn : tn (wI w 96) ≤ 5
          · obtain ⟨w1, q1, q2, q3⟩ := addNote_row s.ho r I hn (nI g) y z v
            have s1 := s.to q2.1
            have M1 : MS w1 := M.to q2.1
            have e96 := q2.w96 s
            refine ⟨nI (tn (wI w 96) + 1), w1, _, ?_, ?_, V.mut (K2 := K + 60) (T := notS (wI w 96) (nI g) y z v) s q2 q3 ((notS_iv I hn).mono (by omega)) (fun j hj => rfl) (fun j hj h2 => notS_o hn (by omega)) (by omega)⟩
            · unfold f_X11_note
              rw [ng_t s, hc_t s, cY, cal_t, if_neg (by decide), within_eq, if_pos hy, cal_t, if_neg (by decide), within_eq, if_pos hz, cal_t, if_neg (by decide), within_eq, if_pos hv, cal_t, if_neg (by decide), ng_t s, gR_t s.ho.o, s.ho.r1, Option.bind_some, gI_t s.ho.o3, m7, if_pos (show nI (tn (wI w 96)) < (6 : Int32) from nI_lt (b := 6) (by omega) (by decide)), ng_t s, gR_t s.ho.o, s.ho.r1, Option.bind_some, calV_t s.ho.o3, q1, cal_t, ng_t s1, gR_t s1.ho.o, s1.ho.r1, Option.bind_some, gI_t s1.ho.o3, q3.2.2.1.2.1, notS_51]
            · have e1 : (52 : Int32) + 4 * nI (tn (wI w 96)) = nI (52 + 4 * tn (wI w 96)) := by rw [show (52 : Int32) = nI 52 from rfl, show (4 : Int32) = nI 4 from rfl, pk_mul, nI_add]
              have f1 : nI (52 + 4 * tn (wI w 96)) + 1 = nI (52 + 4 * tn (wI w 96) + 1) := nI_add _ 1
              have f2 : nI (52 + 4 * tn (wI w 96)) + 2 = nI (52 + 4 * tn (wI w 96) + 2) := nI_add _ 2
              have f3 : nI (52 + 4 * tn (wI w 96)) + 3 = nI (52 + 4 * tn (wI w 96) + 3) := nI_add _ 3
              unfold f_X12_note
              rw [mc_t M1, mY w1 M1 e96, cal_t, if_neg (by decide), in_eq, if_pos hy, cal_t, if_neg (by decide), in_eq, if_pos hz, cal_t, if_neg (by decide), in_eq, if_pos hv, cal_t, if_neg (by decide), mg_t M1, show (51 : Int32) = nI 51 from rfl, rd_t M1 (by decide), e96, I.2.2.1.1, if_neg (nI6 hn), mg_t M1, rd_t M1 (by decide), e96, I.2.2.1.1, e1, nm_t, mg_t M1, wr_t M1 (by omega), e96, mg_t M1.cW, f1, wr_t M1.cW (by omega), cW_s, cW_cW, mg_t M1.cW, f2, wr_t M1.cW (by omega), cW_s, cW_cW, mg_t M1.cW, f3, wr_t M1.cW (by omega), cW_s, cW_cW, mg_t M1.cW, rd_t M1.cW (by decide), wr_t M1.cW (by decide), cW_s, cW_cW, pk_un (by omega), pk_un (by omega), pk_un (by omega), pk_un (by omega), I.2.2.1.1, nI_1, mg_t M1.cW, rd_t M1.cW (by decide), cW_s, pk_us]
              rfl
          · have h6 : tn (wI w 96) = 6 := by have := I.2.2.1.2; omega
            refine Pr.rfj (r := -4) V 2 (by decide) ?_ ?_
            · unfold f_X11_note
              rw [ng_t s, hc_t s, cY, cal_t, if_neg (by decide), within_eq, if_pos hy, cal_t, if_neg (by decide), within_eq, if_pos hz, cal_t, if_neg (by decide), within_eq, if_pos hv, cal_t, if_neg (by decide), ng_t s, gR_t s.ho.o, s.ho.r1, Option.bind_some, gI_t s.ho.o3, m7, h6, if_neg (by decide), cc_t M, cRefF M, cal_t]
            · unfold f_X12_note
              rw [mc_t M.cW, mY _ M.cW (e9 _), cal_t, if_neg (by decide), in_eq, if_pos hy, cal_t, if_neg (by decide), in_eq, if_pos hz, cal_t, if_neg (by decide), in_eq, if_pos hv, cal_t, if_neg (by decide), mg_t M.cW, show (51 : Int32) = nI 51 from rfl, rd_t M.cW (by decide), cW_o (by decide), I.2.2.1.1, h6, if_pos (show nI 6 = (6 : Int32) from rfl), mc_t M.cW, mRefF M.cW, cal_t]
        · refine Pr.rfj (r := -2) V 0 (by decide) ?_ ?_
          · unfold f_X11_note
            rw [ng_t s, hc_t s, cY, cal_t, if_neg (by decide), within_eq, if_pos hy, cal_t, if_neg (by decide), within_eq, if_pos hz, cal_t, if_neg (by decide), within_eq, if_neg hv, cal_t, if_pos rfl, bad]
          · unfold f_X12_note
            rw [mc_t M.cW, mY _ M.cW (e9 _), cal_t, if_neg (by decide), in_eq, if_pos hy, cal_t, if_neg (by decide), in_eq, if_pos hz, cal_t, if_neg (by decide), in_eq, if_neg hv, cal_t, if_pos rfl, bad2 _ M.cW]
      · refine Pr.rfj (r := -2) V 0 (by decide) ?_ ?_
        · unfold f_X11_note
          rw [ng_t s, hc_t s, cY, cal_t, if_neg (by decide), within_eq, if_pos hy, cal_t, if_neg (by decide), within_eq, if_neg hz, cal_t, if_pos rfl, bad]
        · unfold f_X12_note
          rw [mc_t M.cW, mY _ M.cW (e9 _), cal_t, if_neg (by decide), in_eq, if_pos hy, cal_t, if_neg (by decide), in_eq, if_neg hz, cal_t, if_pos rfl, bad2 _ M.cW]
    · refine Pr.rfj (r := -2) V 0 (by decide) ?_ ?_
      · unfold f_X11_note
        rw [ng_t s, hc_t s, cY, cal_t, if_neg (by decide), within_eq, if_neg hy, cal_t, if_pos rfl, bad]
      · unfold f_X12_note
        rw [mc_t M.cW, mY _ M.cW (e9 _), cal_t, if_neg (by decide), in_eq, if_neg hy, cal_t, if_pos rfl, bad2 _ M.cW]
  · refine Pr.rfj (r := -2) V 0 (by decide) ?_ ?_
    · unfold f_X11_note
      rw [ng_t s, hc_t s, hasN s r I hg, cal_t, if_pos rfl, bad]
    · unfold f_X12_note
      rw [mc_t M.cW, mGoodsN M.cW (J9 _) (by rw [e9]; exact hg), cal_t, if_pos rfl, bad2 _ M.cW]
theorem bit2 {x : Int32} (h : 0 ≤ x ∧ x ≤ 1) : x = 0 ∨ x = 1 := by
  obtain ⟨j, hj, rfl⟩ := rng 1 h (by decide)
  have : j = 0 ∨ j = 1 := by omega
  rcases this with rfl | rfl
  · exact Or.inl rfl
  · exact Or.inr rfl
theorem p_forget (V : Inv w K) (x : Int32) : Pr w (K + 60) (f_X11_forget 0 x) (f_X12_forget 95 x) := by
  have M := V.ms
  by_cases hx : 0 ≤ x ∧ x ≤ 1
  · obtain ⟨⟨h0, h1, s, r⟩, I, R⟩ := id V
    obtain ⟨a1, a2, a3, a4⟩ := r.2.2.1
    have g6 := I.2.1.2
    have t6 := I.2.2.1.2
    rcases bit2 hx with rfl | rfl
    · have f : Fr (hset h0) w (sI w (h0 + 3) 6 0) := Fr.sI ⟨by omega, by omega⟩
      have M1 : MS (sI w (h0 + 3) 6 0) := M.to f.1
      have o : ∀ j, j ≠ 38 → upd (wI w 96) 38 0 j = wI w 96 j := fun j hj => pk_un hj
      have et : tn (upd (wI w 96) 38 0) = tn (wI w 96) := by unfold tn; rw [o 51 (by decide)]
      have r' : HR (wI (sI w (h0 + 3) 6 0)) h0 (upd (wI w 96) 38 0) := r.clue I (fun j hj => o j (by omega)) (fun k hk h2 => by funext j; exact wI_other (by omega)) ⟨by rw [wI_same, pk_us], by rw [wI_place (by decide), o 51 (by decide)]; exact a2, fun i hi => absurd hi (by rw [show gn (upd (wI w 96) 38 0) = 0 from gn_of (n := 0) pk_us (by decide)]; omega), fun i hi => by
        rw [et] at hi
        rw [wI_other (by omega), o _ (by omega)]; exact a4 i hi⟩
      refine ⟨wI w 96 38, sI w (h0 + 3) 6 0, _, ?_, ?_, V.mut (K2 := K + 60) (T := upd (wI w 96) 38 0) s f r' ((I.clue (fun j hj => o j (by omega)) ⟨0, by decide, pk_us, fun i hi => absurd hi (by omega)⟩ ⟨tn (wI w 96), t6, by rw [o 51 (by decide)]; exact I.2.2.1.1⟩).mono (by omega)) (fun j hj => rfl) (fun j hj h2 => o j (by omega)) (by omega)⟩
      · unfold f_X11_forget
        rw [within_eq, if_pos hx, cal_t, if_neg (by decide), if_pos rfl, ng_t s, gR_t s.ho.o, s.ho.r1, Option.bind_some, gI_t s.ho.o3, f_X11_forget_43, if_pos rfl, ng_t s, gR_t s.ho.o, s.ho.r1, Option.bind_some, pI_t s.ho.o3, a1]
        rfl
      · unfold f_X12_forget
        rw [in_eq, if_pos hx, cal_t, if_neg (by decide), if_pos rfl, f_X12_forget_27, mg_t M1, show (38 : Int32) = nI 38 from rfl, rd_t M1 (by decide), mg_t M1, wr_t M1 (by decide), f.w96 s]
    · have f : Fr (hset h0) w (sI w (h0 + 3) 7 0) := Fr.sI ⟨by omega, by omega⟩
      have M1 : MS (sI w (h0 + 3) 7 0) := M.to f.1
      have o : ∀ j, j ≠ 51 → upd (wI w 96) 51 0 j = wI w 96 j := fun j hj => pk_un hj
      have et : gn (upd (wI w 96) 51 0) = gn (wI w 96) := by unfold gn; rw [o 38 (by decide)]
      have r' : HR (wI (sI w (h0 + 3) 7 0)) h0 (upd (wI w 96) 51 0) := r.clue I (fun j hj => o j (by omega)) (fun k hk h2 => by funext j; exact wI_other (by omega)) ⟨by rw [wI_place (by decide), o 38 (by decide)]; exact a1, by rw [wI_same, pk_us], fun i hi => by
        rw [et] at hi
        rw [wI_other (by omega), wI_other (by omega), o _ (by omega), o _ (by omega)]; exact a3 i hi, fun i hi => absurd hi (by rw [show tn (upd (wI w 96) 51 0) = 0 from tn_of (n := 0) pk_us (by decide)]; omega)⟩
      refine ⟨wI w 96 51, sI w (h0 + 3) 7 0, _, ?_, ?_, V.mut (K2 := K + 60) (T := upd (wI w 96) 51 0) s f r' ((I.clue (fun j hj => o j (by omega)) (I.gs (fun j h1 h2 => o j (by omega))) ⟨0, by omega, pk_us⟩).mono (by omega)) (fun j hj => rfl) (fun j hj h2 => o j (by omega)) (by omega)⟩
      · unfold f_X11_forget
        rw [within_eq, if_pos hx, cal_t, if_neg (by decide), if_neg (by decide), ng_t s, gR_t s.ho.o, s.ho.r1, Option.bind_some, gI_t s.ho.o3, f_X11_forget_43, if_neg (by decide), ng_t s, gR_t s.ho.o, s.ho.r1, Option.bind_some, pI_t s.ho.o3, a2]
        rfl
      · unfold f_X12_forget
        rw [in_eq, if_pos hx, cal_t, if_neg (by decide), if_neg (by decide), f_X12_forget_27, mg_t M1, show (51 : Int32) = nI 51 from rfl, rd_t M1 (by decide), mg_t M1, wr_t M1 (by decide), f.w96 s]
  · refine Pr.rfj (r := -2) V 0 (by decide) ?_ ?_
    · unfold f_X11_forget
      rw [within_eq, if_neg hx, cal_t, if_pos rfl, cc_t M, cRefB M, cal_t]
    · unfold f_X12_forget
      rw [in_eq, if_neg hx, cal_t, if_pos rfl, mc_t M.cW, mRefB M.cW, cal_t]
end Q6
