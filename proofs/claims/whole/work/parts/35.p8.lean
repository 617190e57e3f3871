/-! what the reference does to its row -/
theorem le4 {c : Int32} : c ≤ 4 ↔ c < 5 := by
  rw [Int32.le_iff_toInt_le, Int32.lt_iff_toInt_lt]
  show c.toInt ≤ 4 ↔ c.toInt < 5
  omega
theorem kne {k : Nat} (hk : k < 6) (j : Nat) (hj : j < 6) : nI k = nI j ↔ k = j := nI_eq (by omega) (by omega)
theorem mGroundBy_eq {k : Nat} (hk : k < 6) (r hh c : Int32) (w : Wd) : f_X12_groundBy (nI k) r hh c w = some (gk k r hh c, w) := by
  unfold f_X12_groundBy
  simp only [f_X12_groundBy_14, le4]
  rcases six hk with rfl | rfl | rfl | rfl | rfl | rfl
  · by_cases h : c < 5 <;> simp [h, gk, nI]
  · by_cases h : c < 5 <;> simp [h, gk, nI]
  · by_cases h : c < 5 <;> simp [h, gk, nI]
  · by_cases h : c < 5 <;> simp [h, gk, nI]
  · by_cases h : c < 5 <;> simp [h, gk, nI]
  · by_cases h : c < 5 <;> simp [h, gk, nI]
theorem fp_eq (p s : Int32) : (if 0 ≤ p - s / 5 then p - s / 5 else 0) = fp p s := by
  unfold fp
  by_cases h : p - s / 5 ≤ 0
  · rw [if_pos h]
    by_cases h2 : 0 ≤ p - s / 5
    · rw [if_pos h2]; exact Int32.le_antisymm h h2
    · rw [if_neg h2]
  · rw [if_neg h, if_pos (Int32.le_of_lt (Int32.not_le.mp h))]
section P8
variable {w : Wd}
theorem mFetches23 (H : MS w) {g k : Nat} (hg : g < 6) (hk : k < 6) (hm : wI w 96 (20 + g) = nI k) {y p s : Int32} (hy : y = fp p s) : f_X12_fetches_23 95 (nI g) y w = some (fk k p s, w) := by
  unfold f_X12_fetches_23
  rw [mg_t H, show (20 : Int32) = nI 20 from rfl, nI_add, rd_t H (by omega), hm, hy]
  rcases six hk with rfl | rfl | rfl | rfl | rfl | rfl <;> simp [fk, nI]
theorem mFetches_eq (H : MS w) {g k : Nat} (hg : g < 6) (hk : k < 6) (hm : wI w 96 (20 + g) = nI k) (s : Int32) : f_X12_fetches 95 (nI g) s w = some (fk k (wI w 96 (32 + g)) s, w) := by
  unfold f_X12_fetches
  rw [mg_t H, show (32 : Int32) = nI 32 from rfl, nI_add, rd_t H (by omega), nm_t]
  have e := fp_eq (wI w 96 (32 + g)) s
  by_cases h2 : 0 ≤ wI w 96 (32 + g) - s / 5
  · rw [if_pos h2] at e ⊢
    exact mFetches23 H hg hk hm e
  · rw [if_neg h2] at e ⊢
    exact mFetches23 H hg hk hm e
theorem mGround_eq (H : MS w) {g k : Nat} (hg : g < 6) (hk : k < 6) (hm : wI w 96 (20 + g) = nI k) (hh c : Int32) : f_X12_ground 95 (nI g) hh c w = some (gk k (wI w 96 (26 + g)) hh c, w) := by
  unfold f_X12_ground
  rw [mg_t H, show (20 : Int32) = nI 20 from rfl, nI_add, rd_t H (by omega), mg_t H, show (26 : Int32) = nI 26 from rfl, nI_add, rd_t H (by omega), hm, mGroundBy_eq hk, cal_t]
theorem mInHouse_eq (H : MS w) {b : Nat} (hb : b + 6 ≤ 656) : f_X12_inHouse 95 (nI b) w = some (bsum (fun j => wI w 96 (b + j)), w) := by
  unfold f_X12_inHouse
  refine lpE (n := 6) (F := fun f i => f_X12_inHouse_4 f 95 (nI b) (sm32 (fun j => wI w 96 (b + j)) i) (nI i) w) (fun f i hi => ?_) (fun f => ?_) 4096 (by decide)
  · show f_X12_inHouse_4 (f + 1) _ _ _ _ _ = _
    rw [f_X12_inHouse_4, if_neg (show ¬ (6 : Int32) ≤ nI i from nI_ge (b := 6) hi (by decide)), mg_t H, show (0 : Int32) = nI 0 from rfl, nI_add, nI_add, rd_t H (by omega), nm_t, nI_1, Nat.add_zero]
    rfl
  · show f_X12_inHouse_4 (f + 1) _ _ _ _ _ = _
    rw [f_X12_inHouse_4, if_pos (show (6 : Int32) ≤ nI 6 from nI_le (a := 6) (by decide) (by decide))]
    rfl
/-- refused, by the reason -/
def rfT (j : Nat) (T : Nat → Int32) : Nat → Int32 := upd T j (T j + 1)
theorem mRef {j : Nat} (hj : j < 3) (H : MS w) (a : Int32) : f_X12_refuse_25 a (nI j) 98 w = some (a, cW w 98 (rfT j (wI w 98))) := by
  unfold f_X12_refuse_25
  rw [lI_t H.o2 (inb_of H.n2 hj (by decide)), aI_t H.o2 (inb_of H.n2 hj (by decide)), nI_clamp (by omega), sI_cW]
  rfl
theorem mRefB (H : MS w) : f_X12_refuse 95 (-2) w = some (-2, cW w 98 (rfT 0 (wI w 98))) := by
  unfold f_X12_refuse
  rw [gR_t H.o, H.r2, Option.bind_some, if_neg (by decide), if_neg (by decide)]
  exact mRef (j := 0) (by decide) H _
theorem mRefN (H : MS w) : f_X12_refuse 95 (-3) w = some (-3, cW w 98 (rfT 1 (wI w 98))) := by
  unfold f_X12_refuse
  rw [gR_t H.o, H.r2, Option.bind_some, if_pos (by decide)]
  exact mRef (j := 1) (by decide) H _
theorem mRefF (H : MS w) : f_X12_refuse 95 (-4) w = some (-4, cW w 98 (rfT 2 (wI w 98))) := by
  unfold f_X12_refuse
  rw [gR_t H.o, H.r2, Option.bind_some, if_neg (by decide), if_pos (by decide)]
  exact mRef (j := 2) (by decide) H _
theorem mBadTen (H : MS w) : f_X12_badTen 95 w = some (-10, cW w 98 (rfT 0 (wI w 98))) := by
  unfold f_X12_badTen
  rw [mc_t H, mRefB H, cal_t]
theorem cRefj {j : Nat} (hj : j < 3) (H : MS w) {a : Int32} (ha : -2 - a = nI j) : f_X11_refuse 0 a w = some (a, cW w 94 (rfT j (wI w 94))) := by
  have o0 : isO w 0 11 = true := H.oo 0 11 (by decide)
  have o4 : isO w 94 14 = true := H.oo 94 14 (by decide)
  have n4 : (wS w 94).2 = 3 := H.nn 94 3 (by decide)
  have r4 : wR w 0 4 = some 94 := H.rr 0 4 94 (by decide)
  unfold f_X11_refuse
  rw [nm_t, ha, gR_t o0, r4, Option.bind_some, lenA_t o4, n4, within_eq, if_pos ⟨nI_pos' (by omega), show nI j ≤ nI 2 from nI_le (by omega) (by decide)⟩, cal_t, if_neg (by decide), gR_t o0, r4, Option.bind_some, lI_t o4 (inb_of n4 hj (by decide)), aI_t o4 (inb_of n4 hj (by decide)), nI_clamp (by omega), sI_cW]
  rfl
theorem cRefB (H : MS w) : f_X11_refuse 0 (-2) w = some (-2, cW w 94 (rfT 0 (wI w 94))) := cRefj (j := 0) (by decide) H (by decide)
theorem cRefN (H : MS w) : f_X11_refuse 0 (-3) w = some (-3, cW w 94 (rfT 1 (wI w 94))) := cRefj (j := 1) (by decide) H (by decide)
theorem cRefF (H : MS w) : f_X11_refuse 0 (-4) w = some (-4, cW w 94 (rfT 2 (wI w 94))) := cRefj (j := 2) (by decide) H (by decide)
theorem cRefA (H : MS w) : f_X11_refuseApart 0 w = some (-10, cW w 94 (rfT 0 (wI w 94))) := by
  unfold f_X11_refuseApart
  rw [calV_t (H.oo 0 11 (by decide)), cRefB H, cal_t]
/-- a part of a row put at b -/
def putQ (S : Nat → Int32) (b : Nat) (q : Nat → Int32) : Nat → Int32 := fun j => if b ≤ j ∧ j < b + 17 then q (j - b) else S j
theorem putQ_in {S q : Nat → Int32} {b j : Nat} (hj : j < 17) : putQ S b q (b + j) = q j := by unfold putQ; rw [if_pos ⟨by omega, by omega⟩, Nat.add_sub_cancel_left]
theorem putQ_o {S q : Nat → Int32} {b j : Nat} (hj : j < b ∨ b + 17 ≤ j) : putQ S b q j = S j := by unfold putQ; rw [if_neg (by omega)]
theorem mPass_eq (H : MS w) {b K : Nat} (hb : b + 17 ≤ 656) (I : Iv (wI w 96) K) {x : Int32} (hx : x = -1 ∨ hasg (nn (wI w 96)) x) : f_X12_pass 95 (nI b) x w = some (manyO (wI w 96) (fun j => wI w 96 (b + j)) x, cW w 96 (putQ (wI w 96) b (pasO (wI w 96) (wI w 96 17) (fun j => wI w 96 (b + j)) x))) := by
  have e14 : nI b + 14 = nI (b + 14) := nI_add b 14
  have e16 : nI b + 16 = nI (b + 16) := nI_add b 16
  have e12 : nI b + 12 = nI (b + 12) := nI_add b 12
  have e0 : nI b + 0 = nI b := nI_add b 0
  have hn := I.n.2
  unfold f_X12_pass
  rcases hx with rfl | ⟨g, hg, rfl⟩
  · rw [if_pos rfl, f_X12_pass_32, mg_t H, show (17 : Int32) = nI 17 from rfl, rd_t H (by decide), mc_t H, mInHouse_eq H (by omega), cal_t, nm_t]
    simp only [f_X12_pass_60, if_pos, ite_self, f_X12_pass_98, mg_t H]
    rw [e14, rd_t H (by omega), wr_t H (by omega)]
    show some ((0 : Int32), cW w 96 _) = some ((0 : Int32), cW w 96 _)
    congr 3
    funext j
    show _ = putQ (wI w 96) b (pasN (fun j => wI w 96 (b + j))) j
    unfold putQ pasN
    by_cases h1 : j = b + 14
    · subst h1
      rw [pk_us, if_pos ⟨by omega, by omega⟩, if_pos (by omega)]
    · rw [pk_un h1]
      by_cases h2 : b ≤ j ∧ j < b + 17
      · rw [if_pos h2, if_neg (by omega)]
        congr 1
        omega
      · rw [if_neg h2]
  · obtain ⟨k, r, p, hk, -, -, -, k1, -, -⟩ := I.2.2.2.2.2.2.1 g hg
    have g6 : g < 6 := by omega
    have hm1 : ¬ nI g = -1 := nI_ne_m1 (by omega)
    rw [manyO_g (by omega), pasO_g (by omega), if_neg hm1, mg_t H, e14, rd_t H (by omega), mg_t H, e16, rd_t H (by omega), mc_t H, mGround_eq H g6 hk k1, cal_t, f_X12_pass_32, mg_t H, show (17 : Int32) = nI 17 from rfl, rd_t H (by decide), mc_t H, mInHouse_eq H (by omega), cal_t, nm_t]
    have em : gk k (wI w 96 (26 + g)) (wI w 96 (b + 14)) (wI w 96 (b + 16)) = mny (wI w 96) (fun j => wI w 96 (b + j)) g := by
      unfold mny
      rw [k1, nI_clamp (by omega)]
    rw [em]
    generalize hq : (fun j => wI w 96 (b + j)) = q
    have hq' : ∀ j, wI w 96 (b + j) = q j := fun j => by rw [← hq]
    generalize mny (wI w 96) q g = many
    have key : f_X12_pass_60 95 (nI b) (nI g) many (sty (wI w 96 17) q many) w = some (many, cW w 96 (putQ (wI w 96) b (pasG (wI w 96 17) q g many))) := by
      unfold f_X12_pass_60
      rw [if_neg hm1, mg_t H, e0, nI_add, rd_t H (by omega), wr_t H (by omega), mg_t H.cW, e12, rd_t H.cW (by omega), wr_t H.cW (by omega), cW_s, cW_cW, f_X12_pass_98, mg_t H.cW, e14, rd_t H.cW (by omega), wr_t H.cW (by omega), cW_s, cW_cW]
      congr 3
      funext j
      unfold putQ pasG
      rw [pk_un (show b + 12 ≠ b + g by omega), pk_un (show b + 14 ≠ b + 12 by omega), pk_un (show b + 14 ≠ b + g by omega), hq', hq', hq']
      by_cases h1 : j = b + 14
      · subst h1
        rw [pk_us, if_pos ⟨by omega, by omega⟩, Nat.add_sub_cancel_left, if_neg (by omega), if_neg (by decide), if_pos rfl]
      · rw [pk_un h1]
        by_cases h2 : j = b + 12
        · subst h2
          rw [pk_us, if_pos ⟨by omega, by omega⟩, Nat.add_sub_cancel_left, if_neg (by omega), if_pos rfl]
        · rw [pk_un h2]
          by_cases h3 : j = b + g
          · subst h3
            rw [pk_us, if_pos ⟨by omega, by omega⟩, Nat.add_sub_cancel_left, if_pos rfl]
          · rw [pk_un h3]
            by_cases h4 : b ≤ j ∧ j < b + 17
            · rw [if_pos h4, if_neg (by omega), if_neg (by omega), if_neg (by omega), ← hq' (j - b)]
              congr 1
              omega
            · rw [if_neg h4]
    unfold sty at key
    by_cases h1 : wI w 96 17 - bsum q ≤ many
    · rw [if_pos h1]
      rw [if_neg (Int32.not_lt.mpr h1)] at key
      exact key
    · rw [if_neg h1]
      rw [if_pos (Int32.not_le.mp h1)] at key
      exact key
end P8
