section S1
variable {w w' : Wd} {h k K K2 : Nat} {S T : Nat → Int32}
theorem mDig_eq (M : MS w) (I : Iv (wI w 96) K) : f_X12_digest 95 w = some (31 * (31 * dig (wI w 96) (wI w 95 6) + wL w 95 3) + wL w 95 4, w) := by
  have hn := I.n.2
  have g6 := I.2.1.2
  have t6 := I.2.2.1.2
  have e4 : (4 : Int32) * nI (tn (wI w 96)) = nI (4 * tn (wI w 96)) := by rw [show (4 : Int32) = nI 4 from rfl, pk_mul]
  have e2 : (2 : Int32) * nI (gn (wI w 96)) = nI (2 * gn (wI w 96)) := by rw [show (2 : Int32) = nI 2 from rfl, pk_mul]
  have k3 : ∀ a, f_X12_digest_219 4096 95 a 0 w = some (31 * (31 * mixF (fun j => wI w 96 (52 + j)) a (4 * tn (wI w 96)) + wL w 95 3) + wL w 95 4, w) := fun a => by
    refine lpE (n := 4 * tn (wI w 96)) (F := fun f i => f_X12_digest_219 f 95 (mixF (fun j => wI w 96 (52 + j)) a i) (nI i) w) (fun f i hi => ?_) (fun f => ?_) 4096 (by omega)
    · show f_X12_digest_219 (f + 1) _ _ _ _ = _
      rw [f_X12_digest_219, mg_t M, show (51 : Int32) = nI 51 from rfl, rd_t M (by decide), I.2.2.1.1, e4, if_neg (nI_ge (by omega) (by omega)), mg_t M, show (52 : Int32) = nI 52 from rfl, nI_add, rd_t M (by omega), nm_t, nI_1]
      rfl
    · show f_X12_digest_219 (f + 1) _ _ _ _ = _
      rw [f_X12_digest_219, mg_t M, show (51 : Int32) = nI 51 from rfl, rd_t M (by decide), I.2.2.1.1, e4, if_pos (nI_le (by omega) (by omega)), gL_t M.o, nm_t, gL_t M.o]
  have k2 : ∀ a, f_X12_digest_181 4096 95 a 0 w = f_X12_digest_219 4096 95 (mixF (fun j => wI w 96 (39 + j)) a (2 * gn (wI w 96))) 0 w := fun a => by
    refine lpE (n := 2 * gn (wI w 96)) (F := fun f i => f_X12_digest_181 f 95 (mixF (fun j => wI w 96 (39 + j)) a i) (nI i) w) (fun f i hi => ?_) (fun f => ?_) 4096 (by omega)
    · show f_X12_digest_181 (f + 1) _ _ _ _ = _
      rw [f_X12_digest_181, mg_t M, show (38 : Int32) = nI 38 from rfl, rd_t M (by decide), I.2.1.1, e2, if_neg (nI_ge (by omega) (by omega)), mg_t M, show (39 : Int32) = nI 39 from rfl, nI_add, rd_t M (by omega), nm_t, nI_1]
      rfl
    · show f_X12_digest_181 (f + 1) _ _ _ _ = _
      rw [f_X12_digest_181, mg_t M, show (38 : Int32) = nI 38 from rfl, rd_t M (by decide), I.2.1.1, e2, if_pos (nI_le (by omega) (by omega))]
  have k1 : ∀ a, f_X12_digest_78 4096 95 a 0 w = f_X12_digest_181 4096 95 (mixG (wI w 96) a (nn (wI w 96))) 0 w := fun a => by
    refine lpE (n := nn (wI w 96)) (F := fun f i => f_X12_digest_78 f 95 (mixG (wI w 96) a i) (nI i) w) (fun f i hi => ?_) (fun f => ?_) 4096 (by omega)
    · show f_X12_digest_78 (f + 1) _ _ _ _ = _
      rw [f_X12_digest_78, mg_t M, show (19 : Int32) = nI 19 from rfl, rd_t M (by decide), I.n.1, if_neg (nI_ge (by omega) (by omega)), mg_t M, show (20 : Int32) = nI 20 from rfl, nI_add, rd_t M (by omega), nm_t, mg_t M, show (26 : Int32) = nI 26 from rfl, nI_add, rd_t M (by omega), nm_t, mg_t M, show (32 : Int32) = nI 32 from rfl, nI_add, rd_t M (by omega), nm_t, mg_t M, show (0 : Int32) = nI 0 from rfl, nI_add, rd_t M (by omega), nm_t, mg_t M, show (6 : Int32) = nI 6 from rfl, nI_add, rd_t M (by omega), nm_t, nI_1, Nat.zero_add]
      rfl
    · show f_X12_digest_78 (f + 1) _ _ _ _ = _
      rw [f_X12_digest_78, mg_t M, show (19 : Int32) = nI 19 from rfl, rd_t M (by decide), I.n.1, if_pos (nI_le (by omega) (by omega))]
  unfold f_X12_digest
  refine lpE (n := 10) (F := fun f i => f_X12_digest_6 f 95 (mixF (cntS (wI w 96) (wI w 95 6)) 1231 i) (nI i) w) (fun f i hi => ?_) (fun f => ?_) 4096 (by omega)
  · show f_X12_digest_6 (f + 1) _ _ _ _ = _
    rw [f_X12_digest_6, if_neg (show ¬ (10 : Int32) ≤ nI i from nI_ge (b := 10) hi (by decide)), mc_t M, mCount_eq M hi, cal_t, nm_t, nI_1]
    rfl
  · show f_X12_digest_6 (f + 1) _ _ _ _ = _
    rw [f_X12_digest_6, if_pos (show (10 : Int32) ≤ nI 10 by decide), mg_t M, show (17 : Int32) = nI 17 from rfl, rd_t M (by decide), nm_t, mg_t M, show (18 : Int32) = nI 18 from rfl, rd_t M (by decide), nm_t, mg_t M, show (15 : Int32) = nI 15 from rfl, rd_t M (by decide), nm_t, k1, k2, k3]
    rfl
theorem p_digest (V : Inv w K) : Pr w (K + 60) (f_X11_digest 0) (f_X12_digest 95) := by
  have M := V.ms
  obtain ⟨⟨h0, h1, s, r⟩, I, R⟩ := id V
  obtain ⟨l1, l2⟩ := V.2.2.2.2.2.2.1
  refine Pr.qt V (w1 := w) ?_ Qt.rf (w2 := w) (mDig_eq M I) Qt.rf
  unfold f_X11_digest
  refine lpE (n := 10) (F := fun f i => f_X11_digest_6 f 0 (mixF (cntS (wI w 96) (wI w 95 6)) 1231 i) (nI i) w) (fun f i hi => ?_) (fun f => ?_) 4096 (by omega)
  · show f_X11_digest_6 (f + 1) _ _ _ _ = _
    rw [f_X11_digest_6, if_neg (show ¬ (9 : Int32) < nI i from nI_nlt (a := 9) (by omega) (by decide)), cc_t M, cAmount_eq s r I hi, cal_t, nm_t, nI_1, V.t70]
    rfl
  · show f_X11_digest_6 (f + 1) _ _ _ _ = _
    rw [f_X11_digest_6, if_pos (show (9 : Int32) < nI 10 by decide), ng_t s, hc_t s, houMix s.ho r I, cal_t, gL_t (M.oo 0 11 (by decide)), nm_t, gL_t (M.oo 0 11 (by decide)), l1, l2]
    rfl
end S1
