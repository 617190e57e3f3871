theorem rng {x : Int32} (m : Nat) (h : 0 ≤ x ∧ x ≤ nI m) (hm : m < 2 ^ 31) : ∃ j, j ≤ m ∧ x = nI j := by
  obtain ⟨j, hj, rfl⟩ := nI_of (Int32.not_lt.mpr h.1)
  exact ⟨j, (nI_leI hj hm).mp h.2, rfl⟩
theorem rng1 {x : Int32} (l m : Nat) (h : nI l ≤ x ∧ x ≤ nI m) (hl : l < 2 ^ 31) (hm : m < 2 ^ 31) : ∃ j, l ≤ j ∧ j ≤ m ∧ x = nI j := by
  obtain ⟨j, hj, rfl⟩ := nI_of (x := x) (Int32.not_lt.mpr (Int32.le_trans (nI_pos' hl) h.1))
  exact ⟨j, (nI_leI hl hj).mp h.1, (nI_leI hj hm).mp h.2, rfl⟩
section Q1
variable {w : Wd} {h K : Nat} {S : Nat → Int32}
/-- one number of a house, none of the counts -/
theorem HR.set (R : HR (wI w) h S) (I : Iv S K) {k j : Nat} (x : Int32) (hk : (k = 5 ∧ j = 17) ∨ (k = 6 ∧ j = 18) ∨ (k = 7 ∧ j = 15) ∨ (k = 8 ∧ j = 16) ∨ (k = 11 ∧ j = 13)) : HR (wI (sI w h k x)) h (upd S j x) := by
  obtain ⟨⟨r3, r4, r5, r6, r7, r8, r9, r10, r11⟩, RG, RQ, RP⟩ := R
  have hj : 12 < j ∧ j < 19 := by omega
  have e : ∀ i, i ≤ 12 ∨ 19 ≤ i → upd S j x i = S i := fun i hi => pk_un (by omega)
  have en : nn (upd S j x) = nn S := by unfold nn; rw [e 19 (by omega)]
  refine ⟨?_, HG.tr RG (fun g hg => by funext i; exact wI_other (by omega)) (fun i hi => e i (by omega)) (fun i h1 h2 => e i (by omega)) I.n.2, HQ.tr RQ (by funext i; exact wI_other (by omega)) (by funext i; exact wI_other (by omega)) (by funext i; exact wI_other (by omega)) (by funext i; exact wI_other (by omega)) (fun i h1 h2 => e i (by omega)) I.2.1.2 I.2.2.1.2, HPs.tr RP (by funext i; exact wI_other (by omega)) (fun i h1 h2 => e i (by omega)) (e 19 (by omega)) I.n.2 I.2.2.2.1.2⟩
  have p : ∀ i j', i ≠ k → j' ≠ j → wI w h i = S j' → wI (sI w h k x) h i = upd S j x j' := fun i j' h1 h2 q => by rw [wI_place h1, pk_un h2, q]
  have q : wI (sI w h k x) h k = upd S j x j := by rw [wI_same, pk_us]
  rcases hk with ⟨rfl, rfl⟩ | ⟨rfl, rfl⟩ | ⟨rfl, rfl⟩ | ⟨rfl, rfl⟩ | ⟨rfl, rfl⟩
  · exact ⟨p _ _ (by decide) (by decide) r3, p _ _ (by decide) (by decide) r4, q, p _ _ (by decide) (by decide) r6, p _ _ (by decide) (by decide) r7, p _ _ (by decide) (by decide) r8, p _ _ (by decide) (by decide) r9, p _ _ (by decide) (by decide) r10, p _ _ (by decide) (by decide) r11⟩
  · exact ⟨p _ _ (by decide) (by decide) r3, p _ _ (by decide) (by decide) r4, p _ _ (by decide) (by decide) r5, q, p _ _ (by decide) (by decide) r7, p _ _ (by decide) (by decide) r8, p _ _ (by decide) (by decide) r9, p _ _ (by decide) (by decide) r10, p _ _ (by decide) (by decide) r11⟩
  · exact ⟨p _ _ (by decide) (by decide) r3, p _ _ (by decide) (by decide) r4, p _ _ (by decide) (by decide) r5, p _ _ (by decide) (by decide) r6, q, p _ _ (by decide) (by decide) r8, p _ _ (by decide) (by decide) r9, p _ _ (by decide) (by decide) r10, p _ _ (by decide) (by decide) r11⟩
  · exact ⟨p _ _ (by decide) (by decide) r3, p _ _ (by decide) (by decide) r4, p _ _ (by decide) (by decide) r5, p _ _ (by decide) (by decide) r6, p _ _ (by decide) (by decide) r7, q, p _ _ (by decide) (by decide) r9, p _ _ (by decide) (by decide) r10, p _ _ (by decide) (by decide) r11⟩
  · exact ⟨p _ _ (by decide) (by decide) r3, p _ _ (by decide) (by decide) r4, p _ _ (by decide) (by decide) r5, p _ _ (by decide) (by decide) r6, p _ _ (by decide) (by decide) r7, p _ _ (by decide) (by decide) r8, p _ _ (by decide) (by decide) r9, p _ _ (by decide) (by decide) r10, q⟩
theorem Iv.set_ {j : Nat} {x : Int32} (I : Iv S K) (hj : j < 17) (hp : Pv (nn S) (S 17) K (upd S j x)) : Iv (upd S j x) K :=
  I.to (fun i h1 h2 => pk_un (by omega)) hp ⟨un S, I.2.2.2.1.2, by rw [pk_un (by omega)]; exact I.2.2.2.1.1, fun p hp => (I.past hp).ext (fun i hi => pk_un (by omega))⟩
theorem Iv.s13 (I : Iv S K) (x : Int32) : Iv (upd S 13 x) K := by
  refine I.set_ (by decide) ?_
  obtain ⟨⟨b, b1, b2⟩, h2, h3, h4, h5⟩ := I.pv
  exact ⟨⟨b, fun g hg => by rw [pk_un (by omega)]; exact b1 g hg, b2⟩, fun g h1 hg => by rw [pk_un (by omega), pk_un (by omega)]; exact h2 g h1 hg, by rw [pk_un (by decide)]; exact h3, by rw [pk_un (by decide)]; exact h4, by rw [pk_un (by decide)]; exact h5⟩
theorem Iv.s15 (I : Iv S K) {x : Int32} (hx : x = -1 ∨ hasg (nn S) x) : Iv (upd S 15 x) K := by
  refine I.set_ (by decide) ?_
  obtain ⟨⟨b, b1, b2⟩, h2, h3, h4, h5⟩ := I.pv
  exact ⟨⟨b, fun g hg => by rw [pk_un (by omega)]; exact b1 g hg, b2⟩, fun g h1 hg => by rw [pk_un (by omega), pk_un (by omega)]; exact h2 g h1 hg, by rw [pk_us]; exact hx, by rw [pk_un (by decide)]; exact h4, by rw [pk_un (by decide)]; exact h5⟩
theorem Iv.s16 (I : Iv S K) {c : Nat} (hc : c ≤ 9) : Iv (upd S 16 (nI c)) K := by
  refine I.set_ (by decide) ?_
  obtain ⟨⟨b, b1, b2⟩, h2, h3, h4, h5⟩ := I.pv
  exact ⟨⟨b, fun g hg => by rw [pk_un (by omega)]; exact b1 g hg, b2⟩, fun g h1 hg => by rw [pk_un (by omega), pk_un (by omega)]; exact h2 g h1 hg, by rw [pk_un (by decide)]; exact h3, by rw [pk_us]; exact ⟨c, hc, rfl⟩, by rw [pk_un (by decide)]; exact h5⟩
theorem Iv.s18 (I : Iv S K) {x : Nat} (hx : x ≤ 31) : Iv (upd S 18 (nI x)) K := by
  have e : ∀ i, i ≠ 18 → upd S 18 (nI x) i = S i := fun i hi => pk_un hi
  have e1 : nn (upd S 18 (nI x)) = nn S := by unfold nn; rw [e 19 (by decide)]
  have e2 : gn (upd S 18 (nI x)) = gn S := by unfold gn; rw [e 38 (by decide)]
  have e3 : tn (upd S 18 (nI x)) = tn S := by unfold tn; rw [e 51 (by decide)]
  have e4 : un (upd S 18 (nI x)) = un S := by unfold un; rw [e 76 (by decide)]
  obtain ⟨h1, h2, h3, h4, h5, h6, h7, h8, h9, h10⟩ := I
  refine ⟨by rw [e1, e 19 (by decide)]; exact h1, by rw [e2, e 38 (by decide)]; exact h2, by rw [e3, e 51 (by decide)]; exact h3, by rw [e4, e 76 (by decide)]; exact h4, by rw [e 17 (by decide)]; exact h5, ⟨x, hx, pk_us⟩, fun g hg => ?_, ?_, fun p hp => ?_, fun i hi => ?_⟩
  · rw [e1] at hg
    rw [e (20 + g) (by omega), e (26 + g) (by omega), e (32 + g) (by omega)]
    exact h7 g hg
  · rw [e1, e 17 (by decide)]; exact h8.ext (fun j hj => e j (by omega))
  · rw [e4] at hp
    rw [e1, e 17 (by decide)]; exact (h9 p hp).ext (fun j hj => e _ (by omega))
  · rw [e2] at hi
    rw [e (39 + 2 * i) (by omega), e (40 + 2 * i) (by omega)]
    exact h10 i hi
theorem keepS_hi {j : Nat} (I : Iv S K) (hj : 213 ≤ j) : keepS S j = S j := by
  unfold keepS
  have := I.2.2.2.1.2
  by_cases hu : un S < 8
  · rw [if_pos hu, putP_o (by omega) (by omega)]
  · rw [if_neg hu, putP_o (by omega) (by omega), shP_o (by omega)]
theorem keepS_mid {j : Nat} (I : Iv S K) (hj : j < 76) : keepS S j = S j := by
  unfold keepS
  by_cases hu : un S < 8
  · rw [if_pos hu, putP_o (by omega) (by omega)]
  · rw [if_neg hu, putP_o (by omega) (by omega), shP_o (by omega)]
theorem Sp.hh {h0 h1 : Nat} (s : Sp w h0 h1) : h0 = 8 ∨ h0 = 23 := s.2.2.2.2.2.imp (fun q => q.1) (fun q => q.1)
theorem Sp.ho {h0 h1 : Nat} (s : Sp w h0 h1) : HS w h0 := s.hs (s.hh.imp id (fun q => Or.inl q))
theorem ng_t {α : Type} {h0 h1 : Nat} {k : Nat → Option α} (s : Sp w h0 h1) : gR w 0 11 5 k = k h0 := by rw [gR_t (s.o 0 11 (by decide)), s.2.2.2.1, Option.bind_some]
theorem cc_t {α β : Type} {o : Option (β × Wd)} {k : β → Wd → Option α} (H : MS w) : calV w 0 11 o k = cal o k := calV_t (H.oo 0 11 (by decide))
theorem hc_t {α β : Type} {h0 h1 : Nat} {o : Option (β × Wd)} {k : β → Wd → Option α} (s : Sp w h0 h1) : calV w h0 2 o k = cal o k := calV_t s.ho.o
theorem isWord_eq (x : Int32) (w : Wd) : f_X11_isWord x w = some (if 0 ≤ x ∧ x ≤ 31 then 1 else 0, w) := by
  unfold f_X11_isWord
  rw [within_eq, cal_t]
  by_cases h : 0 ≤ x ∧ x ≤ 31
  · rw [if_pos h, rZ1]
  · rw [if_neg h, rZ0]
theorem mGoodsY (H : MS w) (I : Iv (wI w 96) K) {g : Nat} (hg : g < nn (wI w 96)) : f_X12_isGoods 95 (nI g) w = some (1, w) := by
  haveI : Decidable (hasg (nn (wI w 96)) (nI g)) := .isTrue ⟨g, hg, rfl⟩
  rw [mIsGoods_eq H I, if_pos ⟨g, hg, rfl⟩]
theorem mGoodsN (H : MS w) (I : Iv (wI w 96) K) {x : Int32} (hg : ¬ hasg (nn (wI w 96)) x) : f_X12_isGoods 95 x w = some (0, w) := by
  haveI : Decidable (hasg (nn (wI w 96)) x) := .isFalse hg
  rw [mIsGoods_eq H I, if_neg hg]
theorem Fr.w96 {h0 h1 : Nat} {w' : Wd} (s : Sp w h0 h1) (f : Fr (hset h0) w w') : wI w' 96 = wI w 96 := f.2.2 96 (by have := s.hh; unfold hset; omega)
/-! the pairs -/
theorem p_mill (V : Inv w K) (x : Int32) : Pr w (K + 60) (f_X11_mill 0 x) (f_X12_mill 95 x) := by
  have M := V.ms
  by_cases hx : 0 ≤ x ∧ x ≤ 200
  · obtain ⟨n, hn, rfl⟩ := rng 200 hx (by decide)
    obtain ⟨⟨h0, h1, s, r⟩, I, R⟩ := id V
    obtain ⟨w1, q1, q2, q3⟩ := startAnew_eq s.ho (nI n)
    have M1 : MS w1 := M.to q2.1
    refine ⟨wI w 96 19, w1, _, ?_, ?_, V.mut (K2 := K + 60) (T := putR (wI w 96) (newS (nI n))) s q2 q3 (newS_iv hn _) (fun j hj => if_pos hj) (fun j hj h2 => if_neg (by omega)) (by omega)⟩
    · unfold f_X11_mill
      rw [within_eq, if_pos hx, cal_t, if_neg (by decide), ng_t s, gI_t s.ho.o, r.1.2.1, ng_t s, hc_t s, q1, cal_t]
    · unfold f_X12_mill
      rw [in_eq, if_pos hx, cal_t, if_neg (by decide), mg_t M1, show (19 : Int32) = nI 19 from rfl, rd_t M1 (by decide), mc_t M1, mLayMill_eq M1, cal_t, q2.w96 s]
  · refine Pr.rfj (r := -2) V 0 (by decide) ?_ ?_
    · unfold f_X11_mill
      rw [within_eq, if_neg hx, cal_t, if_pos rfl, cc_t M, cRefB M, cal_t]
    · unfold f_X12_mill
      rw [in_eq, if_neg hx, cal_t, if_pos rfl, mc_t M.cW, mRefB M.cW, cal_t]
theorem p_word (V : Inv w K) (x : Int32) : Pr w (K + 60) (f_X11_word 0 x) (f_X12_word 95 x) := by
  have M := V.ms
  by_cases hx : 0 ≤ x ∧ x ≤ 31
  · obtain ⟨n, hn, rfl⟩ := rng 31 hx (by decide)
    obtain ⟨⟨h0, h1, s, r⟩, I, R⟩ := id V
    have f : Fr (hset h0) w (sI w h0 6 (nI n)) := Fr.sI ⟨by omega, by omega⟩
    have M1 : MS (sI w h0 6 (nI n)) := M.to f.1
    refine ⟨1, sI w h0 6 (nI n), _, ?_, ?_, V.mut (K2 := K + 60) (T := upd (wI w 96) 18 (nI n)) s f (r.set I (nI n) (j := 18) (by omega)) ((I.s18 hn).mono (by omega)) (fun j hj => rfl) (fun j hj h2 => pk_un (by omega)) (by omega)⟩
    · unfold f_X11_word
      rw [isWord_eq, if_pos hx, cal_t, if_neg (by decide), ng_t s, pI_t s.ho.o]
    · unfold f_X12_word
      rw [in_eq, if_pos hx, cal_t, if_neg (by decide), mg_t M1, show (18 : Int32) = nI 18 from rfl, wr_t M1 (by decide), f.w96 s]
  · refine Pr.rfj (r := -2) V 0 (by decide) ?_ ?_
    · unfold f_X11_word
      rw [isWord_eq, if_neg hx, cal_t, if_pos rfl, cc_t M, cRefB M, cal_t]
    · unfold f_X12_word
      rw [in_eq, if_neg hx, cal_t, if_pos rfl, mc_t M.cW, mRefB M.cW, cal_t]
theorem p_cold (V : Inv w K) (x : Int32) : Pr w (K + 60) (f_X11_cold 0 x) (f_X12_cold 95 x) := by
  have M := V.ms
  by_cases hx : 0 ≤ x ∧ x ≤ 9
  · obtain ⟨n, hn, rfl⟩ := rng 9 hx (by decide)
    obtain ⟨⟨h0, h1, s, r⟩, I, R⟩ := id V
    obtain ⟨w1, q1, q2, q3⟩ := remember_row s.ho r I
    have s1 := s.to q2.1
    have M1 : MS w1 := M.to q2.1
    have f : Fr (hset h0) w (sI w1 h0 8 (nI n)) := q2.tr (Fr.sI ⟨by omega, by omega⟩)
    have M2 : MS (sI w1 h0 8 (nI n)) := M.to f.1
    have I2 : Iv (keepS (wI w 96)) K := keepS_iv I
    refine ⟨wI w 96 16, sI w1 h0 8 (nI n), _, ?_, ?_, V.mut (K2 := K + 60) (T := upd (keepS (wI w 96)) 16 (nI n)) s f (q3.set I2 (nI n) (j := 16) (by omega)) ((I2.s16 hn).mono (by omega)) (fun j hj => rfl) (fun j hj h2 => by rw [pk_un (by omega), keepS_hi I hj]) (by omega)⟩
    · unfold f_X11_cold
      rw [within_eq, if_pos hx, cal_t, if_neg (by decide), ng_t s, hc_t s, q1, cal_t, ng_t s1, gI_t s1.ho.o, q3.1.2.2.2.2.2.1, keepS_mid I (by decide), ng_t s1, pI_t s1.ho.o]
    · unfold f_X12_cold
      have e96 := f.w96 s
      rw [in_eq, if_pos hx, cal_t, if_neg (by decide), mc_t M2, mKeep_eq M2 (by rw [e96]; exact I), cal_t, mg_t M2.cW, show (16 : Int32) = nI 16 from rfl, rd_t M2.cW (by decide), mg_t M2.cW, wr_t M2.cW (by decide), cW_s, cW_cW, e96, keepS_mid I (by decide)]
  · refine Pr.rfj (r := -2) V 0 (by decide) ?_ ?_
    · unfold f_X11_cold
      rw [within_eq, if_neg hx, cal_t, if_pos rfl, cc_t M, cRefB M, cal_t]
    · unfold f_X12_cold
      rw [in_eq, if_neg hx, cal_t, if_pos rfl, mc_t M.cW, mRefB M.cW, cal_t]
end Q1
