section R1
variable {w w' : Wd} {h k K K2 : Nat} {S T : Nat → Int32}
theorem nar1 : vp_nar .boolean (1 : Int32) = 1 := by decide
theorem img_t {α : Type} {k : Nat → Option α} (M : MS w) {i : Nat} (hi : i < 2) : lR w 38 17 (nI i) k = k (39 + 15 * i) := by
  rw [lR_t (M.oo 38 17 (by decide)) (inb_of (M.nn 38 2 (by decide)) hi (by decide)), nI_clamp (by omega)]
  have : i = 0 ∨ i = 1 := by omega
  rcases this with rfl | rfl
  · rw [M.rr 38 0 39 (by decide), Option.bind_some]
  · rw [M.rr 38 1 54 (by decide), Option.bind_some]
theorem mImage_eq (M : MS w) {i : Nat} (hi : i < 2) : f_X12_image_18 4096 95 (nI i) 0 w = some (1, sI (cW w 96 (cpR (wI w 96) 0 (213 + 213 * i) 213)) 97 i 1) := by
  refine (congrArg (f_X12_image_18 4096 95 (nI i) 0) (show w = cW w 96 (cpR (wI w 96) 0 (213 + 213 * i) 0) from by rw [cpR_0, cW_id])).trans ?_
  refine lpE (n := 213) (F := fun f t => f_X12_image_18 f 95 (nI i) (nI t) (cW w 96 (cpR (wI w 96) 0 (213 + 213 * i) t))) (fun f t ht => ?_) (fun f => ?_) 4096 (by decide)
  · show f_X12_image_18 (f + 1) _ _ _ _ = _
    have e2 : (213 : Int32) + 213 * nI i + nI t = nI (213 + 213 * i + t) := by rw [show (213 : Int32) = nI 213 from rfl, pk_mul, nI_add, nI_add]
    have e3 := cpR_step (S := wI w 96) (s := 0) (d := 213 + 213 * i) (i := t) (by omega)
    rw [Nat.zero_add] at e3
    rw [f_X12_image_18, if_neg (show ¬ (213 : Int32) ≤ nI t from nI_ge (b := 213) ht (by decide)), mg_t M.cW, mg_t M.cW, rd_t M.cW (by omega), e2, wr_t M.cW (by omega), cW_s, cW_cW, nI_1, e3]
  · show f_X12_image_18 (f + 1) _ _ _ _ = _
    rw [f_X12_image_18, if_pos (show (213 : Int32) ≤ nI 213 from nI_le (a := 213) (by decide) (by decide)), gR_t M.cW.o, M.cW.r1, Option.bind_some, aI_t M.cW.o1 (inb_of M.cW.n1 hi (by decide)), nI_clamp (by omega), nar1]
theorem p_image (V : Inv w K) (x : Int32) : Pr w (K + 60) (f_X11_image 0 x) (f_X12_image 95 x) := by
  have M := V.ms
  by_cases hx : 0 ≤ x ∧ x ≤ 1
  · obtain ⟨i, hi1, rfl⟩ := rng 1 hx (by decide)
    have hi : i < 2 := by omega
    obtain ⟨⟨h0, h1, s, r⟩, I, ⟨R1, R2, R3, R4, R5, R6⟩⟩ := id V
    have hh := s.hh
    have isI : isH (39 + 15 * i) := by
      have : i = 0 ∨ i = 1 := by omega
      rcases this with rfl | rfl
      · exact Or.inr (Or.inr (Or.inl rfl))
      · exact Or.inr (Or.inr (Or.inr rfl))
    obtain ⟨w1, q1, q2, q3⟩ := copy_row (s.hs isI) s.ho (by omega) r I
    have M1 : MS w1 := M.to q2.1
    generalize hw2 : sI w1 69 i 1 = w2
    have M2 : MS w2 := M1.to (by rw [← hw2]; exact ⟨rfl, rfl, rfl⟩)
    have e2 : ∀ a, a ≠ 69 → ¬ hset (39 + 15 * i) a → wI w2 a = wI w a := fun a h1 h2 => by
      rw [← hw2]
      exact (funext (fun j => wI_other h1)).trans (q2.2.2 a h2)
    have e96 : wI w2 96 = wI w 96 := e2 96 (by decide) (by unfold hset; omega)
    generalize hw3 : sI (cW w2 96 (cpR (wI w 96) 0 (213 + 213 * i) 213)) 97 i 1 = w3
    have e3 : ∀ a, a ≠ 96 → a ≠ 97 → wI w3 a = wI w2 a := fun a h1 h2 => by
      rw [← hw3]
      exact (funext (fun j => wI_other h2)).trans (cW_o h1)
    have r96 : wI w3 96 = cpR (wI w 96) 0 (213 + 213 * i) 213 := by
      rw [← hw3]
      exact (funext (fun j => wI_other (by decide))).trans cW_s
    have ee : ∀ a, a ≠ 69 → a ≠ 96 → a ≠ 97 → ¬ hset (39 + 15 * i) a → wI w3 a = wI w a := fun a h1 h2 h3 h4 => (e3 a h2 h3).trans (e2 a h1 h4)
    have q69 : ∀ j, wI w3 69 j = if j = i then 1 else wI w 69 j := fun j => by
      rw [e3 69 (by decide) (by decide), ← hw2]
      by_cases e : j = i
      · rw [if_pos e, e, wI_same]
      · rw [if_neg e, wI_place e, q2.2.2 69 (by unfold hset; omega)]
    have q97 : ∀ j, wI w3 97 j = if j = i then 1 else wI w 97 j := fun j => by
      rw [← hw3]
      by_cases e : j = i
      · rw [if_pos e, e, wI_same]
      · rw [if_neg e, wI_place e, cW_o (by decide), e2 97 (by decide) (by unfold hset; omega)]
    have lo : ∀ j, j < 213 → wI w3 96 j = wI w 96 j := fun j hj => by rw [r96, cpR_o (by omega)]
    have en : nn (wI w3 96) = nn (wI w 96) := by unfold nn; rw [lo 19 (by decide)]
    have im : ∀ t, t < 2 → Im w K t → Im w3 (K + 60) t := fun t ht ⟨a, b⟩ => by
      by_cases e : t = i
      · subst e
        have et : ∀ j, j < 213 → wI w3 96 (213 + 213 * t + j) = wI w 96 j := fun j hj => by rw [r96, cpR_in (by omega), Nat.zero_add]
        refine ⟨by rw [q69, q97, if_pos rfl, if_pos rfl], Or.inr ⟨by rw [q97, if_pos rfl], ?_, (I.ext et).mono (by omega)⟩⟩
        refine ((HR.ext q3 I.q4 et)).eq ?_ (fun k hk _ _ => (e3 _ (by omega) (by omega)).trans (by rw [← hw2]; exact funext (fun j => wI_other (by omega))))
        have : nn (fun j => wI w3 96 (213 + 213 * t + j)) = nn (wI w 96) := by
          show (wI w3 96 (213 + 213 * t + 19)).toNatClampNeg = _
          rw [et 19 (by decide)]
          rfl
        rw [this]; exact I.q4.1
      · have et : ∀ j, j < 213 → wI w3 96 (213 + 213 * t + j) = wI w 96 (213 + 213 * t + j) := fun j hj => by rw [r96, cpR_o (by omega)]
        refine ⟨by rw [q69, q97, if_neg e, if_neg e]; exact a, ?_⟩
        rw [q97, if_neg e]
        refine b.imp id (fun ⟨x, y, z⟩ => ⟨x, ?_, (z.ext et).mono (by omega)⟩)
        refine (HR.ext y z.q4 et).eq ?_ (fun k hk _ _ => ee _ (by omega) (by omega) (by omega) (by unfold hset; omega))
        have : nn (fun j => wI w3 96 (213 + 213 * t + j)) = nn (fun j => wI w 96 (213 + 213 * t + j)) := by
          show (wI w3 96 (213 + 213 * t + 19)).toNatClampNeg = _
          rw [et 19 (by decide)]
          rfl
        rw [this]; exact z.q4.1
    refine ⟨1, w2, w3, ?_, ?_, ⟨h0, h1, (s.to q2.1).to (by rw [← hw3, ← hw2]; exact ⟨rfl, rfl, rfl⟩), ?_⟩, ?_, im 0 (by decide) R1, im 1 (by decide) R2, ?_, ?_, ?_, ?_⟩
    · unfold f_X11_image
      rw [within_eq, if_pos hx, cal_t, if_neg (by decide), gR_t (M.oo 0 11 (by decide)), M.rr 0 0 38 (by decide), Option.bind_some, img_t M hi, ng_t s, calV_t (s.hs isI).o, q1, cal_t, gR_t (M1.oo 0 11 (by decide)), M1.rr 0 1 69 (by decide), Option.bind_some, aI_t (M1.oo 69 15 (by decide)) (inb_of (M1.nn 69 2 (by decide)) hi (by decide)), nI_clamp (by omega), nar1, hw2]
    · unfold f_X12_image
      rw [in_eq, if_pos hx, cal_t, if_neg (by decide), mImage_eq M2 hi, e96, hw3]
    · exact (HR.ext r I.q4 lo).eq (by rw [en]; exact I.q4.1) (fun k hk _ _ => ee _ (by omega) (by omega) (by omega) (by unfold hset; omega))
    · exact (I.ext lo).mono (by omega)
    · rw [ee 94 (by decide) (by decide) (by decide) (by unfold hset; omega), ee 98 (by decide) (by decide) (by decide) (by unfold hset; omega)]; exact R3
    · obtain ⟨n, a, b, c, d⟩ := R4
      refine ⟨n, a, by rw [ee 70 (by decide) (by decide) (by decide) (by unfold hset; omega)]; exact b, by rw [ee 95 (by decide) (by decide) (by decide) (by unfold hset; omega)]; exact c, ?_⟩
      rw [ee 71 (by decide) (by decide) (by decide) (by unfold hset; omega), ee 99 (by decide) (by decide) (by decide) (by unfold hset; omega)]
      exact d
    · have eL : wL w3 = wL w := by rw [← hw3, ← hw2]; exact q2.2.1
      rw [eL]; exact R5
    · rw [ee 100 (by decide) (by decide) (by decide) (by unfold hset; omega)]; exact R6
  · refine Pr.rfj (r := -2) V 0 (by decide) ?_ ?_
    · unfold f_X11_image
      rw [within_eq, if_neg hx, cal_t, if_pos rfl, cc_t M, cRefB M, cal_t]
    · unfold f_X12_image
      rw [in_eq, if_neg hx, cal_t, if_pos rfl, mc_t M.cW, mRefB M.cW, cal_t]
theorem mFrom_eq (M : MS w) {i : Nat} (hi : i < 2) : f_X12_from_34 4096 95 (nI i) 0 w = some (1, cW w 96 (cpR (wI w 96) (213 + 213 * i) 0 213)) := by
  refine (congrArg (f_X12_from_34 4096 95 (nI i) 0) (show w = cW w 96 (cpR (wI w 96) (213 + 213 * i) 0 0) from by rw [cpR_0, cW_id])).trans ?_
  refine lpE (n := 213) (F := fun f t => f_X12_from_34 f 95 (nI i) (nI t) (cW w 96 (cpR (wI w 96) (213 + 213 * i) 0 t))) (fun f t ht => ?_) (fun f => ?_) 4096 (by decide)
  · show f_X12_from_34 (f + 1) _ _ _ _ = _
    have e2 : (213 : Int32) + 213 * nI i + nI t = nI (213 + 213 * i + t) := by rw [show (213 : Int32) = nI 213 from rfl, pk_mul, nI_add, nI_add]
    have e3 := cpR_step (S := wI w 96) (s := 213 + 213 * i) (d := 0) (i := t) (by omega)
    rw [Nat.zero_add] at e3
    rw [f_X12_from_34, if_neg (show ¬ (213 : Int32) ≤ nI t from nI_ge (b := 213) ht (by decide)), mg_t M.cW, mg_t M.cW, e2, rd_t M.cW (by omega), wr_t M.cW (by omega), cW_s, cW_cW, nI_1, e3]
  · show f_X12_from_34 (f + 1) _ _ _ _ = _
    rw [f_X12_from_34, if_pos (show (213 : Int32) ≤ nI 213 from nI_le (a := 213) (by decide) (by decide))]
theorem p_from (V : Inv w K) (x : Int32) : Pr w (K + 60) (f_X11_from 0 x) (f_X12_from 95 x) := by
  have M := V.ms
  by_cases hx : 0 ≤ x ∧ x ≤ 1
  · obtain ⟨i, hi1, rfl⟩ := rng 1 hx (by decide)
    have hi : i < 2 := by omega
    obtain ⟨⟨h0, h1, s, r⟩, I, ⟨R1, R2, R3, R4, R5, R6⟩⟩ := id V
    have hh := s.hh
    have im : Im w K i := by
      have : i = 0 ∨ i = 1 := by omega
      rcases this with rfl | rfl
      · exact R1
      · exact R2
    have isI : isH (39 + 15 * i) := by
      have : i = 0 ∨ i = 1 := by omega
      rcases this with rfl | rfl
      · exact Or.inr (Or.inr (Or.inl rfl))
      · exact Or.inr (Or.inr (Or.inr rfl))
    have l69 : ∀ {v : Wd} {α : Type} {k : Int32 → Option α}, MS v → lI v 69 15 (nI i) k = k (wI v 69 i) := fun {v α k} Mv => by
      rw [lI_t (Mv.oo 69 15 (by decide)) (inb_of (Mv.nn 69 2 (by decide)) hi (by decide)), nI_clamp (by omega)]
    have l97 : ∀ {v : Wd} {α : Type} {k : Int32 → Option α}, MS v → lI v 97 15 (nI i) k = k (wI v 97 i) := fun {v α k} Mv => by
      rw [lI_t Mv.o1 (inb_of Mv.n1 hi (by decide)), nI_clamp (by omega)]
    obtain ⟨a, b⟩ := im
    rcases b with b | ⟨b, c, d⟩
    · refine Pr.rfj (r := -3) V 1 (by decide) ?_ ?_
      · unfold f_X11_from
        rw [within_eq, if_pos hx, cal_t, if_neg (by decide), gR_t (M.oo 0 11 (by decide)), M.rr 0 1 69 (by decide), Option.bind_some, l69 M, a, b, if_pos rfl, cc_t M, cRefN M, cal_t]
      · unfold f_X12_from
        rw [in_eq, if_pos hx, cal_t, if_neg (by decide), gR_t M.cW.o, M.cW.r1, Option.bind_some, l97 M.cW, cW_o (by decide), b, if_pos rfl, mc_t M.cW, mRefN M.cW, cal_t]
    · obtain ⟨w1, q1, q2, q3⟩ := copy_row s.ho (s.hs isI) (by omega) c d
      have M1 : MS w1 := M.to q2.1
      have e97 : wI w1 97 = wI w 97 := q2.2.2 97 (by unfold hset; omega)
      refine ⟨1, w1, _, ?_, ?_, V.mut (K2 := K + 60) (T := cpR (wI w 96) (213 + 213 * i) 0 213) s q2 q3 (d.mono (by omega)) (fun j hj => ?_) (fun j hj h2 => cpR_o (by omega)) (by omega)⟩
      · unfold f_X11_from
        rw [within_eq, if_pos hx, cal_t, if_neg (by decide), gR_t (M.oo 0 11 (by decide)), M.rr 0 1 69 (by decide), Option.bind_some, l69 M, a, b, if_neg (by decide), ng_t s, gR_t (M.oo 0 11 (by decide)), M.rr 0 0 38 (by decide), Option.bind_some, img_t M hi, hc_t s, q1, cal_t]
      · unfold f_X12_from
        rw [in_eq, if_pos hx, cal_t, if_neg (by decide), gR_t M1.o, M1.r1, Option.bind_some, l97 M1, e97, b, if_neg (by decide), mFrom_eq M1 hi, q2.w96 s]
      · have := cpR_in (S := wI w 96) (s := 213 + 213 * i) (d := 0) (i := 213) (j := j) hj
        rw [Nat.zero_add] at this
        exact this
  · refine Pr.rfj (r := -2) V 0 (by decide) ?_ ?_
    · unfold f_X11_from
      rw [within_eq, if_neg hx, cal_t, if_pos rfl, cc_t M, cRefB M, cal_t]
    · unfold f_X12_from
      rw [in_eq, if_neg hx, cal_t, if_pos rfl, mc_t M.cW, mRefB M.cW, cal_t]
end R1
