section Q3
variable {w : Wd} {h K : Nat} {S T : Nat → Int32}
/-! GOODS added -/
def addS (S : Nat → Int32) (k r p : Int32) : Nat → Int32 := upd (upd (upd (upd (upd S (20 + nn S) k) (26 + nn S) r) (32 + nn S) p) 19 (nI (nn S + 1))) 76 0
theorem addS_o {k r p : Int32} {j : Nat} (hn : nn S ≤ 5) (h : j < 19 ∨ (38 ≤ j ∧ j ≠ 76)) : addS S k r p j = S j := by
  unfold addS
  rw [pk_un (by omega), pk_un (by omega), pk_un (by omega), pk_un (by omega), pk_un (by omega)]
theorem addS_19 {k r p : Int32} : addS S k r p 19 = nI (nn S + 1) := by
  unfold addS
  rw [pk_un (by omega), pk_us]
theorem addS_76 {k r p : Int32} : addS S k r p 76 = 0 := by unfold addS; rw [pk_us]
theorem addS_g {k r p : Int32} {g : Nat} (hn : nn S ≤ 5) (hg : g < nn S) : addS S k r p (20 + g) = S (20 + g) ∧ addS S k r p (26 + g) = S (26 + g) ∧ addS S k r p (32 + g) = S (32 + g) := by
  unfold addS
  refine ⟨?_, ?_, ?_⟩
  all_goals rw [pk_un (by omega), pk_un (by omega), pk_un (by omega), pk_un (by omega), pk_un (by omega)]
theorem addS_n {k r p : Int32} (hn : nn S ≤ 5) : addS S k r p (20 + nn S) = k ∧ addS S k r p (26 + nn S) = r ∧ addS S k r p (32 + nn S) = p := by
  unfold addS
  refine ⟨?_, ?_, ?_⟩
  · rw [pk_un (by omega), pk_un (by omega), pk_un (by omega), pk_un (by omega), pk_us]
  · rw [pk_un (by omega), pk_un (by omega), pk_un (by omega), pk_us]
  · rw [pk_un (by omega), pk_un (by omega), pk_us]
theorem addS_nn {k r p : Int32} (hn : nn S ≤ 5) : nn (addS S k r p) = nn S + 1 := nn_of addS_19 (by omega)
theorem addS_iv (I : Iv S K) (hn : nn S ≤ 5) {k r p : Nat} (hk : k < 6) (hr1 : 1 ≤ r) (hr : r ≤ 9) (hp : p ≤ 40) : Iv (addS S (nI k) (nI r) (nI p)) K := by
  have e1 := addS_nn (S := S) (k := nI k) (r := nI r) (p := nI p) hn
  have o : ∀ j, j < 19 ∨ (38 ≤ j ∧ j ≠ 76) → addS S (nI k) (nI r) (nI p) j = S j := fun j hj => addS_o hn hj
  have e2 : gn (addS S (nI k) (nI r) (nI p)) = gn S := by unfold gn; rw [o 38 (by omega)]
  have e3 : tn (addS S (nI k) (nI r) (nI p)) = tn S := by unfold tn; rw [o 51 (by omega)]
  have e4 : un (addS S (nI k) (nI r) (nI p)) = 0 := un_of (n := 0) addS_76 (by omega)
  obtain ⟨h1, h2, h3, h4, h5, h6, h7, h8, h9, h10⟩ := I
  refine ⟨by rw [e1, addS_19]; exact ⟨rfl, by omega⟩, by rw [e2, o 38 (by omega)]; exact h2, by rw [e3, o 51 (by omega)]; exact h3, by rw [e4, addS_76]; exact ⟨rfl, by omega⟩, by rw [o 17 (by omega)]; exact h5, by rw [o 18 (by omega)]; exact h6, fun g hg => ?_, ?_, fun p hp => absurd hp (by rw [e4]; omega), fun i hi => ?_⟩
  · rw [e1] at hg
    by_cases hgn : g = nn S
    · subst hgn
      obtain ⟨a, b, c⟩ := addS_n (S := S) (k := nI k) (r := nI r) (p := nI p) hn
      exact ⟨k, r, p, hk, hr1, hr, hp, a, b, c⟩
    · obtain ⟨a, b, c⟩ := addS_g (S := S) (k := nI k) (r := nI r) (p := nI p) (g := g) hn (by omega)
      rw [a, b, c]
      exact h7 g (by omega)
  · rw [e1, o 17 (by omega)]
    obtain ⟨⟨b, b1, b2⟩, p2, p3, p4, p5⟩ := h8
    refine ⟨⟨b, fun g hg => by rw [o g (by omega)]; exact b1 g hg, b2⟩, fun g g1 g2 => by rw [o g (by omega), o (6 + g) (by omega)]; exact p2 g (by omega) g2, ?_, by rw [o 16 (by omega)]; exact p4, by rw [o 14 (by omega)]; exact p5⟩
    rw [o 15 (by omega)]
    exact p3.imp id (fun ⟨g, hg, e⟩ => ⟨g, by omega, e⟩)
  · rw [e2] at hi
    rw [o (39 + 2 * i) (by omega), o (40 + 2 * i) (by omega)]
    exact h10 i hi
theorem addGoods_row (H : HS w h) (R : HR (wI w) h S) (I : Iv S K) (hn : nn S ≤ 5) (k r p : Int32) : ∃ w', f_X2_addGoods h k r p w = some ((), w') ∧ Fr (hset h) w w' ∧ HR (wI w') h (addS S k r p) := by
  obtain ⟨⟨r3, r4, r5, r6, r7, r8, r9, r10, r11⟩, RG, RQ, RP⟩ := id R
  have m4 : wI w h 4 = nI (nn S) := by rw [r4]; exact I.n.1
  have hz := I.pv.2.1 (nn S) (Nat.le_refl _) (by omega)
  unfold f_X2_addGoods
  rw [gI_t H.o, m4, if_pos (show nI (nn S) < (6 : Int32) from nI_lt (b := 6) (by omega) (by decide)), gR_t H.o, H.r0, Option.bind_some, gI_t H.o, m4, lR_t H.o1 (inb_of H.n1 (by omega) (by decide)), nI_clamp (by omega), H.rg (by omega), Option.bind_some, calV_t (H.og (by omega))]
  unfold f_X1_become
  simp only [pI_t, isO_sI, H.og (show nn S < 6 by omega), cal_t, gI_t, H.o]
  have ne : h ≠ h + 9 + nn S := by omega
  simp only [wI_other ne, m4, nI_1]
  refine ⟨_, rfl, ?_, ?_⟩
  · have a0 : hset h h := ⟨by omega, by omega⟩
    have a3 : hset h (h + 9 + nn S) := ⟨by omega, by omega⟩
    exact (Fr.sI a3).tr ((Fr.sI a3).tr ((Fr.sI a3).tr ((Fr.sI a3).tr ((Fr.sI a3).tr ((Fr.sI a0).tr (Fr.sI a0))))))
  · generalize hw : sI (sI (sI (sI (sI (sI (sI w (h + 9 + nn S) 1 k) (h + 9 + nn S) 2 r) (h + 9 + nn S) 3 p) (h + 9 + nn S) 4 0) (h + 9 + nn S) 5 0) h 4 (nI (nn S + 1))) h 3 0 = w2
    have fr : ∀ a, a ≠ h → a ≠ h + 9 + nn S → wI w2 a = wI w a := fun a h1 h2 => by
      funext j
      rw [← hw, wI_other h1, wI_other h1, wI_other h2, wI_other h2, wI_other h2, wI_other h2, wI_other h2]
    have eh : ∀ j, j ≠ 3 → j ≠ 4 → wI w2 h j = wI w h j := fun j h1 h2 => by
      rw [← hw, wI_place h1, wI_place h2, wI_other ne, wI_other ne, wI_other ne, wI_other ne, wI_other ne]
    have eg : wI w2 (h + 9 + nn S) 1 = k ∧ wI w2 (h + 9 + nn S) 2 = r ∧ wI w2 (h + 9 + nn S) 3 = p ∧ wI w2 (h + 9 + nn S) 4 = 0 ∧ wI w2 (h + 9 + nn S) 5 = 0 := by
      rw [← hw]
      have ne' : h + 9 + nn S ≠ h := by omega
      simp only [wI_other ne']
      simp [wI_sI]
    have o : ∀ j, j < 19 ∨ (38 ≤ j ∧ j ≠ 76) → addS S k r p j = S j := fun j hj => addS_o hn hj
    refine ⟨⟨?_, ?_, ?_, ?_, ?_, ?_, ?_, ?_, ?_⟩, fun g hg => ?_, ?_, fun q hq => absurd hq (by rw [un_of (n := 0) addS_76 (by omega)]; omega)⟩
    · rw [addS_76, ← hw, wI_same]
    · rw [addS_19, ← hw, wI_place (by decide), wI_same]
    · rw [eh _ (by decide) (by decide), o _ (by omega)]; exact r5
    · rw [eh _ (by decide) (by decide), o _ (by omega)]; exact r6
    · rw [eh _ (by decide) (by decide), o _ (by omega)]; exact r7
    · rw [eh _ (by decide) (by decide), o _ (by omega)]; exact r8
    · rw [eh _ (by decide) (by decide), o _ (by omega)]; exact r9
    · rw [eh _ (by decide) (by decide), o _ (by omega)]; exact r10
    · rw [eh _ (by decide) (by decide), o _ (by omega)]; exact r11
    · rw [addS_nn hn] at hg
      rw [o g (by omega), o (6 + g) (by omega)]
      by_cases hgn : g = nn S
      · subst hgn
        obtain ⟨a, b, c⟩ := addS_n (S := S) (k := k) (r := r) (p := p) hn
        rw [a, b, c, hz.1, hz.2]
        exact eg
      · obtain ⟨a, b, c⟩ := addS_g (S := S) (k := k) (r := r) (p := p) (g := g) hn (by omega)
        rw [a, b, c, fr _ (by omega) (by omega)]
        exact RG g (by omega)
    · exact HQ.tr RQ (fr _ (by omega) (by omega)) (fr _ (by omega) (by omega)) (fr _ (by omega) (by omega)) (fr _ (by omega) (by omega)) (fun j h1 h2 => o j (by omega)) I.2.1.2 I.2.2.1.2
theorem mAdd_eq (M : MS w) (I : Iv (wI w 96) K) (hn : nn (wI w 96) ≤ 5) (k r p : Int32) : f_X12_addGoods 95 k r p w = some ((), cW w 96 (addS (wI w 96) k r p)) := by
  have m := I.n.1
  unfold f_X12_addGoods
  rw [mg_t M, show (19 : Int32) = nI 19 from rfl, rd_t M (by decide), m, mg_t M, show (20 : Int32) = nI 20 from rfl, nI_add, wr_t M (by omega), mg_t M.cW, show (26 : Int32) = nI 26 from rfl, nI_add, wr_t M.cW (by omega), cW_s, cW_cW, mg_t M.cW, show (32 : Int32) = nI 32 from rfl, nI_add, wr_t M.cW (by omega), cW_s, cW_cW, mg_t M.cW, rd_t M.cW (by omega), wr_t M.cW (by omega), cW_s, cW_cW, mg_t M.cW, show (76 : Int32) = nI 76 from rfl, wr_t M.cW (by omega), cW_s, cW_cW, pk_un (by omega), pk_un (by omega), pk_un (by omega), m, nI_1]
  rfl
theorem p_goods (V : Inv w K) (x y z : Int32) : Pr w (K + 60) (f_X11_goods 0 x y z) (f_X12_goods 95 x y z) := by
  have M := V.ms
  have bad : (f_X11_goods_29 0 w = some (-2, cW w 94 (rfT 0 (wI w 94)))) := by
    unfold f_X11_goods_29
    rw [cc_t M, cRefB M, cal_t]
  have bad2 : ∀ w', MS w' → (f_X12_goods_29 95 w' = some (-2, cW w' 98 (rfT 0 (wI w' 98)))) := fun w' M' => by
    unfold f_X12_goods_29
    rw [mc_t M', mRefB M', cal_t]
  by_cases hx : 0 ≤ x ∧ x ≤ 5
  · by_cases hy : 1 ≤ y ∧ y ≤ 9
    · by_cases hz : 0 ≤ z ∧ z ≤ 40
      · obtain ⟨⟨h0, h1, s, r⟩, I, R⟩ := id V
        have m4 : wI w h0 4 = nI (nn (wI w 96)) := by rw [r.1.2.1]; exact I.n.1
        by_cases hn : nn (wI w 96) ≤ 5
        · obtain ⟨k, hk, rfl⟩ := rng 5 hx (by decide)
          obtain ⟨rt, hr1, hr, rfl⟩ := rng1 1 9 hy (by decide) (by decide)
          obtain ⟨p, hp, rfl⟩ := rng 40 hz (by decide)
          obtain ⟨w1, q1, q2, q3⟩ := addGoods_row s.ho r I hn (nI k) (nI rt) (nI p)
          have s1 := s.to q2.1
          have M1 : MS w1 := M.to q2.1
          have e96 := q2.w96 s
          refine ⟨nI (nn (wI w 96)), w1, _, ?_, ?_, V.mut (K2 := K + 60) (T := addS (wI w 96) (nI k) (nI rt) (nI p)) s q2 q3 ((addS_iv I hn (by omega) hr1 hr hp).mono (by omega)) (fun j hj => rfl) (fun j hj h2 => addS_o hn (by omega)) (by omega)⟩
          · unfold f_X11_goods
            rw [within_eq, if_pos hx, cal_t, if_neg (by decide), within_eq, if_pos hy, cal_t, if_neg (by decide), within_eq, if_pos hz, cal_t, if_neg (by decide), ng_t s, gI_t s.ho.o, m4, if_pos (show nI (nn (wI w 96)) < (6 : Int32) from nI_lt (b := 6) (by omega) (by decide)), ng_t s, hc_t s, q1, cal_t, ng_t s1, gI_t s1.ho.o, q3.1.2.1, addS_19, nI_pred]
          · unfold f_X12_goods
            rw [in_eq, if_pos hx, cal_t, if_neg (by decide), in_eq, if_pos hy, cal_t, if_neg (by decide), in_eq, if_pos hz, cal_t, if_neg (by decide), mg_t M1, show (19 : Int32) = nI 19 from rfl, rd_t M1 (by decide), e96, I.n.1, if_neg (show ¬ nI (nn (wI w 96)) = (6 : Int32) from fun q => by have := (nI_eq (a := nn (wI w 96)) (b := 6) (by omega) (by decide)).mp q; omega), mc_t M1, mAdd_eq M1 (K := K) (by rw [e96]; exact I) (by rw [e96]; exact hn), cal_t, mg_t M1.cW, rd_t M1.cW (by decide), cW_s, e96, addS_19, nI_pred]
        · have h6 : nn (wI w 96) = 6 := by have := I.n.2; omega
          refine Pr.rfj (r := -4) V 2 (by decide) ?_ ?_
          · unfold f_X11_goods
            rw [within_eq, if_pos hx, cal_t, if_neg (by decide), within_eq, if_pos hy, cal_t, if_neg (by decide), within_eq, if_pos hz, cal_t, if_neg (by decide), ng_t s, gI_t s.ho.o, m4, h6, if_neg (by decide), cc_t M, cRefF M, cal_t]
          · unfold f_X12_goods
            rw [in_eq, if_pos hx, cal_t, if_neg (by decide), in_eq, if_pos hy, cal_t, if_neg (by decide), in_eq, if_pos hz, cal_t, if_neg (by decide), mg_t M.cW, show (19 : Int32) = nI 19 from rfl, rd_t M.cW (by decide), cW_o (by decide), I.n.1, h6, if_pos (show nI 6 = (6 : Int32) from rfl), mc_t M.cW, mRefF M.cW, cal_t]
      · refine Pr.rfj (r := -2) V 0 (by decide) ?_ ?_
        · unfold f_X11_goods
          rw [within_eq, if_pos hx, cal_t, if_neg (by decide), within_eq, if_pos hy, cal_t, if_neg (by decide), within_eq, if_neg hz, cal_t, if_pos rfl, bad]
        · unfold f_X12_goods
          rw [in_eq, if_pos hx, cal_t, if_neg (by decide), in_eq, if_pos hy, cal_t, if_neg (by decide), in_eq, if_neg hz, cal_t, if_pos rfl, bad2 _ M.cW]
    · refine Pr.rfj (r := -2) V 0 (by decide) ?_ ?_
      · unfold f_X11_goods
        rw [within_eq, if_pos hx, cal_t, if_neg (by decide), within_eq, if_neg hy, cal_t, if_pos rfl, bad]
      · unfold f_X12_goods
        rw [in_eq, if_pos hx, cal_t, if_neg (by decide), in_eq, if_neg hy, cal_t, if_pos rfl, bad2 _ M.cW]
  · refine Pr.rfj (r := -2) V 0 (by decide) ?_ ?_
    · unfold f_X11_goods
      rw [within_eq, if_neg hx, cal_t, if_pos rfl, bad]
    · unfold f_X12_goods
      rw [in_eq, if_neg hx, cal_t, if_pos rfl, bad2 _ M.cW]
end Q3
