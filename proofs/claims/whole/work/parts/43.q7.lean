section Q7
variable {w w' : Wd} {h K K2 : Nat} {S T : Nat → Int32}
theorem Inv.txt (V : Inv w K) (f : Fr (fun a => a = 70 ∨ a = 71 ∨ a = 95 ∨ a = 99) w w') (t : Tx w') (hK : K ≤ K2) : Inv w' K2 := by
  obtain ⟨⟨h0, h1, s, r⟩, I, ⟨R1, R2, R3, R4, R5, R6⟩⟩ := V
  have hh := s.hh
  have e : ∀ a, ¬ (a = 70 ∨ a = 71 ∨ a = 95 ∨ a = 99) → wI w' a = wI w a := f.2.2
  have im : ∀ i, i < 2 → Im w K i → Im w' K2 i := fun i hi ⟨a, b⟩ => by
    refine ⟨by rw [e 69 (by decide), e 97 (by decide)]; exact a, ?_⟩
    rw [e 97 (by decide), e 96 (by decide)]
    exact b.imp id (fun ⟨x, y, z⟩ => ⟨x, y.eq z.q4.1 (fun k hk _ _ => e _ (by omega)), z.mono hK⟩)
  refine ⟨⟨h0, h1, s.to f.1, ?_⟩, ?_, im 0 (by decide) R1, im 1 (by decide) R2, ?_, t, ?_, ?_⟩
  · rw [e 96 (by decide)]
    exact r.eq I.q4.1 (fun k hk _ _ => e _ (by omega))
  · rw [e 96 (by decide)]; exact I.mono hK
  · rw [e 94 (by decide), e 98 (by decide)]; exact R3
  · rw [f.2.1]; exact R5
  · rw [e 100 (by decide)]; exact R6
theorem p_status (V : Inv w K) (x : Int32) : Pr w (K + 60) (f_X11_status 0 x) (f_X12_status 95 x) := by
  have M := V.ms
  by_cases hx : 0 ≤ x ∧ x ≤ 2
  · obtain ⟨n, hn, rfl⟩ := rng 2 hx (by decide)
    have R3 := V.2.2.2.2.1 n (by omega)
    refine Pr.qt (r := wI w 98 n) V (w1 := w) ?_ Qt.rf (w2 := w) ?_ Qt.rf
    · unfold f_X11_status
      rw [within_eq, if_pos hx, cal_t, if_neg (by decide), gR_t (M.oo 0 11 (by decide)), M.rr 0 4 94 (by decide), Option.bind_some, lI_t (M.oo 94 14 (by decide)) (inb_of (M.nn 94 3 (by decide)) (by omega) (by decide)), nI_clamp (by omega), R3]
    · unfold f_X12_status
      rw [in_eq, if_pos hx, cal_t, if_neg (by decide), gR_t M.o, M.r2, Option.bind_some, lI_t M.o2 (inb_of M.n2 (by omega) (by decide)), nI_clamp (by omega)]
  · refine Pr.rfj (r := -1) V 0 (by decide) ?_ ?_
    · unfold f_X11_status
      rw [within_eq, if_neg hx, cal_t, if_pos rfl, cc_t M, cRefB M, cal_t]
    · unfold f_X12_status
      rw [in_eq, if_neg hx, cal_t, if_pos rfl, mc_t M.cW, mRefB M.cW, cal_t]
theorem p_part (V : Inv w K) (x : Int32) : Pr w (K + 60) (f_X11_part 0 x) (f_X12_part 95 x) := by
  have M := V.ms
  obtain ⟨l1, l2⟩ := V.2.2.2.2.2.2.1
  by_cases hx : 0 ≤ x ∧ x ≤ 1
  · rcases bit2 hx with rfl | rfl
    · refine Pr.qt (r := wL w 95 3) V (w1 := w) ?_ Qt.rf (w2 := w) ?_ Qt.rf
      · unfold f_X11_part
        rw [within_eq, if_pos hx, cal_t, if_neg (by decide), if_pos rfl, gL_t (M.oo 0 11 (by decide)), l1]
        rfl
      · unfold f_X12_part
        rw [if_pos rfl, gL_t M.o]
        rfl
    · refine Pr.qt (r := wL w 95 4) V (w1 := w) ?_ Qt.rf (w2 := w) ?_ Qt.rf
      · unfold f_X11_part
        rw [within_eq, if_pos hx, cal_t, if_neg (by decide), if_neg (by decide), gL_t (M.oo 0 11 (by decide)), l2]
        rfl
      · unfold f_X12_part
        rw [if_neg (by decide), if_pos rfl, gL_t M.o]
        rfl
  · refine Pr.rfj (r := (-2 : Int32).toInt64) V 0 (by decide) ?_ ?_
    · unfold f_X11_part
      rw [within_eq, if_neg hx, cal_t, if_pos rfl, cc_t M, cRefB M, cal_t]
    · unfold f_X12_part
      rw [if_neg (fun q => hx (by rw [q]; decide)), if_neg (fun q => hx (by rw [q]; decide)), mc_t M.cW, mRefB M.cW, cal_t]
      rfl
theorem p_clear (V : Inv w K) : Pr w (K + 60) (f_X11_clear 0) (f_X12_clear 95) := by
  have M := V.ms
  obtain ⟨n, t1, t2, t3, t4⟩ := V.2.2.2.2.2.1
  have f : Fr (fun a => a = 70 ∨ a = 71 ∨ a = 95 ∨ a = 99) w (sI (sI w 70 1 0) 95 6 0) := (Fr.sI (by omega)).tr (Fr.sI (by omega))
  have M1 : MS (sI w 70 1 0) := M.to ⟨rfl, rfl, rfl⟩
  refine ⟨nI n, sI w 70 1 0, sI (sI w 70 1 0) 95 6 0, ?_, ?_, V.txt f ⟨0, by decide, ?_, ?_, fun i hi => absurd hi (by omega)⟩ (by omega)⟩
  · unfold f_X11_clear
    rw [gR_t (M.oo 0 11 (by decide)), M.rr 0 2 70 (by decide), Option.bind_some, gI_t (M.oo 70 10 (by decide)), gR_t (M.oo 0 11 (by decide)), M.rr 0 2 70 (by decide), Option.bind_some, pI_t (M.oo 70 10 (by decide)), t2]
  · unfold f_X12_clear
    rw [gI_t M1.o, pI_t M1.o, wI_other (by decide), t3]
  · rw [wI_other (by decide), wI_same]; rfl
  · rw [wI_same]; rfl
theorem byte_id : ∀ c, c < 128 → (nI c).toInt8.toInt32 = nI c := by decide +kernel
theorem p_type (V : Inv w K) (x : Int32) : Pr w (K + 60) (f_X11_type 0 x) (f_X12_type 95 x) := by
  have M := V.ms
  by_cases hx : 0 ≤ x ∧ x ≤ 127
  · obtain ⟨c, hc, rfl⟩ := rng 127 hx (by decide)
    obtain ⟨n, t1, t2, t3, t4⟩ := V.2.2.2.2.2.1
    have o0 := M.oo 0 11 (by decide)
    have o70 := M.oo 70 10 (by decide)
    have o71 := M.oo 71 13 (by decide)
    have r2 := M.rr 0 2 70 (by decide)
    have r0 := M.rr 70 0 71 (by decide)
    have n71 := M.nn 71 150 (by decide)
    by_cases hn : n < 150
    · generalize hw1 : sI (sI w 71 n (nI c)) 70 1 (nI (n + 1)) = w1
      have M1 : MS w1 := M.to (by rw [← hw1]; exact ⟨rfl, rfl, rfl⟩)
      have f1 : Fr (fun a => a = 70 ∨ a = 71 ∨ a = 95 ∨ a = 99) w w1 := by rw [← hw1]; exact (Fr.sI (by omega)).tr (Fr.sI (by omega))
      have e95 : wI w1 95 6 = nI n := by rw [← hw1, wI_other (by decide), wI_other (by decide), t3]
      have e701 : wI w1 70 1 = nI (n + 1) := by rw [← hw1, wI_same]
      generalize hw2 : sI (sI w1 99 n (nI c)) 95 6 (nI (n + 1)) = w2
      have f2 : Fr (fun a => a = 70 ∨ a = 71 ∨ a = 95 ∨ a = 99) w1 w2 := by rw [← hw2]; exact (Fr.sI (by omega)).tr (Fr.sI (by omega))
      refine ⟨nI (n + 1), w1, w2, ?_, ?_, V.txt (f1.tr f2) ⟨n + 1, by omega, ?_, ?_, fun i hi => ?_⟩ (by omega)⟩
      · unfold f_X11_type
        have ap : f_X10_append 70 (nI c) w = some ((), w1) := by
          unfold f_X10_append
          rw [gI_t o70, t2, if_neg (show ¬ (150 : Int32) ≤ nI n from nI_ge (b := 150) hn (by decide)), gR_t o70, r0, Option.bind_some, gI_t o70, t2, aI_t o71 (inb_of n71 hn (by decide)), nI_clamp (by omega), pk_vb, byte_id c (by omega), gI_t (by rw [isO_sI]; exact o70), pI_t (by rw [isO_sI]; exact o70), wI_other (by decide), t2, nI_1, hw1]
          rfl
        rw [within_eq, if_pos hx, cal_t, if_neg (by decide), gR_t o0, r2, Option.bind_some, gI_t o70, t2, if_pos (show nI n < (150 : Int32) from nI_lt (b := 150) hn (by decide)), gR_t o0, r2, Option.bind_some, calV_t o70, ap, cal_t, gR_t (M1.oo 0 11 (by decide)), M1.rr 0 2 70 (by decide), Option.bind_some, gI_t (M1.oo 70 10 (by decide)), e701]
      · unfold f_X12_type
        have ne : ¬ nI n = (150 : Int32) := fun q => by have := (nI_eq (a := n) (b := 150) (by omega) (by decide)).mp q; omega
        rw [in_eq, if_pos hx, cal_t, if_neg (by decide), gI_t M1.o, e95, if_neg ne, gR_t M1.o, M1.r5, Option.bind_some, gI_t M1.o, e95, aI_t M1.o5 (inb_of M1.n5 hn (by decide)), nI_clamp (by omega), gI_t (by rw [isO_sI]; exact M1.o), pI_t (by rw [isO_sI]; exact M1.o), wI_other (by decide), e95, nI_1, hw2, gI_t (by rw [← hw2]; exact M1.o), ← hw2, wI_same]
      · rw [← hw2, wI_other (by decide), wI_other (by decide), e701]
      · rw [← hw2, wI_same]
      · have e71 : wI w2 71 i = if i = n then nI c else wI w 71 i := by
          rw [← hw2, wI_other (by decide), wI_other (by decide), ← hw1, wI_other (by decide)]
          by_cases q : i = n
          · rw [if_pos q, q, wI_same]
          · rw [if_neg q, wI_place q]
        have e99 : wI w2 99 i = if i = n then nI c else wI w 99 i := by
          rw [← hw2, wI_other (by decide)]
          by_cases q : i = n
          · rw [if_pos q, q, wI_same]
          · rw [if_neg q, wI_place q, ← hw1, wI_other (by decide), wI_other (by decide)]
        rw [e71, e99]
        by_cases q : i = n
        · rw [if_pos q, if_pos q]; exact ⟨rfl, c, by omega, rfl⟩
        · rw [if_neg q, if_neg q]; exact t4 i (by omega)
    · have h150 : n = 150 := by omega
      subst h150
      refine Pr.rfj (r := -4) V 2 (by decide) ?_ ?_
      · unfold f_X11_type
        rw [within_eq, if_pos hx, cal_t, if_neg (by decide), gR_t o0, r2, Option.bind_some, gI_t o70, t2, if_neg (by decide), cc_t M, cRefF M, cal_t]
      · unfold f_X12_type
        rw [in_eq, if_pos hx, cal_t, if_neg (by decide), gI_t M.cW.o, cW_o (by decide), t3, if_pos (show nI 150 = (150 : Int32) from rfl), mc_t M.cW, mRefF M.cW, cal_t]
  · refine Pr.rfj (r := -2) V 0 (by decide) ?_ ?_
    · unfold f_X11_type
      rw [within_eq, if_neg hx, cal_t, if_pos rfl, cc_t M, cRefB M, cal_t]
    · unfold f_X12_type
      rw [in_eq, if_neg hx, cal_t, if_pos rfl, mc_t M.cW, mRefB M.cW, cal_t]
/-! counts -/
def cntS (S : Nat → Int32) (t : Int32) : Nat → Int32
  | 0 => S 19
  | 1 => S 14
  | 2 => bsum S
  | 3 => S 12
  | 4 => S 13
  | 5 => S 38
  | 6 => S 51
  | 7 => S 76
  | 8 => t
  | _ => S 16
theorem ten {k : Nat} (h : k < 10) : k = 0 ∨ k = 1 ∨ k = 2 ∨ k = 3 ∨ k = 4 ∨ k = 5 ∨ k = 6 ∨ k = 7 ∨ k = 8 ∨ k = 9 := by omega
theorem cAmount_eq {h0 h1 : Nat} (s : Sp w h0 h1) (r : HR (wI w) h0 S) (I : Iv S K) {k : Nat} (hk : k < 10) : f_X11_amountOf 0 (nI k) w = some (cntS S (wI w 70 1) k, w) := by
  have H := s.ho
  obtain ⟨r3, r4, r5, r6, r7, r8, r9, r10, r11⟩ := r.1
  have q := r.2.2.1
  unfold f_X11_amountOf
  rcases ten hk with rfl | rfl | rfl | rfl | rfl | rfl | rfl | rfl | rfl | rfl
  · rw [if_pos (by decide), ng_t s, gI_t H.o, r4]; rfl
  · rw [if_neg (by decide), if_pos (by decide), ng_t s, gI_t H.o, r9]; rfl
  · rw [if_neg (by decide), if_neg (by decide), if_pos (by decide), ng_t s, hc_t s, allB_row H r I, cal_t]; rfl
  · rw [if_neg (by decide), if_neg (by decide), if_neg (by decide), if_pos (by decide), ng_t s, gI_t H.o, r10]; rfl
  · rw [if_neg (by decide), if_neg (by decide), if_neg (by decide), if_neg (by decide), if_pos (by decide), ng_t s, gI_t H.o, r11]; rfl
  · rw [if_neg (by decide), if_neg (by decide), if_neg (by decide), if_neg (by decide), if_neg (by decide), if_pos (by decide), ng_t s, gR_t H.o, H.r1, Option.bind_some, gI_t H.o3, q.1]; rfl
  · rw [if_neg (by decide), if_neg (by decide), if_neg (by decide), if_neg (by decide), if_neg (by decide), if_neg (by decide), if_pos (by decide), ng_t s, gR_t H.o, H.r1, Option.bind_some, gI_t H.o3, q.2.1]; rfl
  · rw [if_neg (by decide), if_neg (by decide), if_neg (by decide), if_neg (by decide), if_neg (by decide), if_neg (by decide), if_neg (by decide), if_pos (by decide), ng_t s, gI_t H.o, r3]; rfl
  · rw [if_neg (by decide), if_neg (by decide), if_neg (by decide), if_neg (by decide), if_neg (by decide), if_neg (by decide), if_neg (by decide), if_neg (by decide), if_pos (by decide), gR_t (s.o 0 11 (by decide)), s.r 0 2 70 (by decide), Option.bind_some, gI_t (s.o 70 10 (by decide))]; rfl
  · rw [if_neg (by decide), if_neg (by decide), if_neg (by decide), if_neg (by decide), if_neg (by decide), if_neg (by decide), if_neg (by decide), if_neg (by decide), if_neg (by decide), ng_t s, gI_t H.o, r8]; rfl
theorem mCount_eq (M : MS w) {k : Nat} (hk : k < 10) : f_X12_countOf 95 (nI k) w = some (cntS (wI w 96) (wI w 95 6) k, w) := by
  have e : bsum (fun j => wI w 96 (0 + j)) = bsum (wI w 96) := by simp only [Nat.zero_add]
  unfold f_X12_countOf
  rcases ten hk with rfl | rfl | rfl | rfl | rfl | rfl | rfl | rfl | rfl | rfl
  · rw [if_pos (by decide), mg_t M, show (19 : Int32) = nI 19 from rfl, rd_t M (by decide)]; rfl
  · rw [if_neg (by decide), if_pos (by decide), mg_t M, show (14 : Int32) = nI 14 from rfl, rd_t M (by decide)]; rfl
  · rw [if_neg (by decide), if_neg (by decide), if_pos (by decide), mc_t M, show (f_X12_inHouse 95 0 w) = f_X12_inHouse 95 (nI 0) w from rfl, mInHouse_eq M (by decide), cal_t, e]; rfl
  · rw [if_neg (by decide), if_neg (by decide), if_neg (by decide), if_pos (by decide), mg_t M, show (12 : Int32) = nI 12 from rfl, rd_t M (by decide)]; rfl
  · rw [if_neg (by decide), if_neg (by decide), if_neg (by decide), if_neg (by decide), if_pos (by decide), mg_t M, show (13 : Int32) = nI 13 from rfl, rd_t M (by decide)]; rfl
  · rw [if_neg (by decide), if_neg (by decide), if_neg (by decide), if_neg (by decide), if_neg (by decide), if_pos (by decide), mg_t M, show (38 : Int32) = nI 38 from rfl, rd_t M (by decide)]; rfl
  · rw [if_neg (by decide), if_neg (by decide), if_neg (by decide), if_neg (by decide), if_neg (by decide), if_neg (by decide), if_pos (by decide), mg_t M, show (51 : Int32) = nI 51 from rfl, rd_t M (by decide)]; rfl
  · rw [if_neg (by decide), if_neg (by decide), if_neg (by decide), if_neg (by decide), if_neg (by decide), if_neg (by decide), if_neg (by decide), if_pos (by decide), mg_t M, show (76 : Int32) = nI 76 from rfl, rd_t M (by decide)]; rfl
  · rw [if_neg (by decide), if_neg (by decide), if_neg (by decide), if_neg (by decide), if_neg (by decide), if_neg (by decide), if_neg (by decide), if_neg (by decide), if_pos (by decide), gI_t M.o]; rfl
  · rw [if_neg (by decide), if_neg (by decide), if_neg (by decide), if_neg (by decide), if_neg (by decide), if_neg (by decide), if_neg (by decide), if_neg (by decide), if_neg (by decide), mg_t M, show (16 : Int32) = nI 16 from rfl, rd_t M (by decide)]; rfl
theorem Inv.t70 (V : Inv w K) : wI w 70 1 = wI w 95 6 := by
  obtain ⟨n, t1, t2, t3, t4⟩ := V.2.2.2.2.2.1
  rw [t2, t3]
theorem p_count (V : Inv w K) (x : Int32) : Pr w (K + 60) (f_X11_count 0 x) (f_X12_count 95 x) := by
  have M := V.ms
  by_cases hx : 0 ≤ x ∧ x ≤ 9
  · obtain ⟨n, hn, rfl⟩ := rng 9 hx (by decide)
    obtain ⟨⟨h0, h1, s, r⟩, I, R⟩ := id V
    refine Pr.qt (r := cntS (wI w 96) (wI w 95 6) n) V (w1 := w) ?_ Qt.rf (w2 := w) ?_ Qt.rf
    · unfold f_X11_count
      rw [within_eq, if_pos hx, cal_t, if_neg (by decide), cc_t M, cAmount_eq s r I (by omega), cal_t, V.t70]
      rfl
    · unfold f_X12_count
      rw [in_eq, if_pos hx, cal_t, if_neg (by decide), mc_t M, mCount_eq M (by omega), cal_t]
      rfl
  · refine Pr.rfj (r := -2) V 0 (by decide) ?_ ?_
    · unfold f_X11_count
      rw [within_eq, if_neg hx, cal_t, if_pos rfl, cc_t M, cRefB M, cal_t]
      rfl
    · unfold f_X12_count
      rw [in_eq, if_neg hx, cal_t, if_pos rfl, mc_t M.cW, mRefB M.cW, cal_t]
      rfl
end Q7
