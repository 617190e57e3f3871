/-! copying within a row -/
def cpR (S : Nat → Int32) (s d i : Nat) : Nat → Int32 := fun j => if d ≤ j ∧ j < d + i then S (s + (j - d)) else S j
theorem cpR_0 {S : Nat → Int32} {s d : Nat} : cpR S s d 0 = S := by
  funext j; unfold cpR; rw [if_neg (by omega)]
theorem cpR_in {S : Nat → Int32} {s d i j : Nat} (h : j < i) : cpR S s d i (d + j) = S (s + j) := by unfold cpR; rw [if_pos ⟨by omega, by omega⟩, Nat.add_sub_cancel_left]
theorem cpR_o {S : Nat → Int32} {s d i j : Nat} (h : j < d ∨ d + i ≤ j) : cpR S s d i j = S j := by unfold cpR; rw [if_neg (by omega)]
theorem cpR_step {S : Nat → Int32} {s d i : Nat} (h : s + i < d ∨ d ≤ s) : upd (cpR S s d i) (d + i) (cpR S s d i (s + i)) = cpR S s d (i + 1) := by
  funext j
  rw [cpR_o (j := s + i) (by omega)]
  by_cases h1 : j = d + i
  · subst h1; rw [pk_us, cpR_in (by omega)]
  · rw [pk_un h1]
    unfold cpR
    by_cases h2 : d ≤ j ∧ j < d + i
    · rw [if_pos h2, if_pos ⟨by omega, by omega⟩]
    · rw [if_neg h2, if_neg (by omega)]
def putR (S T : Nat → Int32) : Nat → Int32 := fun j => if j < 213 then T j else S j
section P9
variable {w : Wd}
theorem mLayMill_eq (H : MS w) (x : Int32) : f_X12_layMill 95 x w = some ((), cW w 96 (putR (wI w 96) (newS x))) := by
  unfold f_X12_layMill
  refine (congrArg (f_X12_layMill_2 4096 95 x 0) (show w = cW w 96 (fun j => if j < 0 then 0 else wI w 96 j) from ?_)).trans ?_
  · rw [show (fun j => if j < 0 then 0 else wI w 96 j) = wI w 96 by funext j; rw [if_neg (by omega)], cW_id]
  refine lpE (n := 213) (F := fun f i => f_X12_layMill_2 f 95 x (nI i) (cW w 96 (fun j => if j < i then 0 else wI w 96 j))) (fun f i hi => ?_) (fun f => ?_) 4096 (by decide)
  · show f_X12_layMill_2 (f + 1) _ _ _ _ = _
    rw [f_X12_layMill_2, if_neg (show ¬ (213 : Int32) ≤ nI i from nI_ge (b := 213) hi (by decide)), mg_t H.cW, wr_t H.cW (by omega), cW_s, cW_cW, nI_1]
    congr 2
    funext j
    by_cases h1 : j = i
    · subst h1; rw [pk_us, if_pos (by omega)]
    · rw [pk_un h1]
      by_cases h2 : j < i
      · rw [if_pos h2, if_pos (by omega)]
      · rw [if_neg h2, if_neg (by omega)]
  · show f_X12_layMill_2 (f + 1) _ _ _ _ = _
    rw [f_X12_layMill_2, if_pos (show (213 : Int32) ≤ nI 213 from nI_le (a := 213) (by decide) (by decide)), mg_t H.cW, show (17 : Int32) = nI 17 from rfl, wr_t H.cW (by decide), mg_t H.cW.cW, show (15 : Int32) = nI 15 from rfl, wr_t H.cW.cW (by decide), cW_s, cW_s, cW_cW, cW_cW]
    congr 3
    funext j
    unfold putR newS
    by_cases h1 : j = 15
    · subst h1; rw [pk_us]; rfl
    · rw [pk_un h1]
      by_cases h2 : j = 17
      · subst h2; rw [pk_us]; rfl
      · rw [pk_un h2, if_neg h2, if_neg h1]
theorem mKeep57 (H : MS w) {u : Nat} (hu : u ≤ 7) (h76 : wI w 96 76 = nI u) : f_X12_keepPast_55 95 w = some ((), cW w 96 (putP (wI w 96) u)) := by
  unfold f_X12_keepPast_55
  refine (congrArg (f_X12_keepPast_57 4096 95 0) (show w = cW w 96 (cpR (wI w 96) 0 (77 + 17 * u) 0) from by rw [cpR_0, cW_id])).trans ?_
  refine lpE (n := 17) (F := fun f i => f_X12_keepPast_57 f 95 (nI i) (cW w 96 (cpR (wI w 96) 0 (77 + 17 * u) i))) (fun f i hi => ?_) (fun f => ?_) 4096 (by decide)
  · show f_X12_keepPast_57 (f + 1) _ _ _ = _
    have e1 : cpR (wI w 96) 0 (77 + 17 * u) i 76 = nI u := by rw [cpR_o (by omega), h76]
    have e2 : (77 : Int32) + 17 * nI u + nI i = nI (77 + 17 * u + i) := by rw [show (77 : Int32) = nI 77 from rfl, show (17 : Int32) = nI 17 from rfl, pk_mul, nI_add, nI_add]
    rw [f_X12_keepPast_57, if_neg (show ¬ (17 : Int32) ≤ nI i from nI_ge (b := 17) hi (by decide)), mg_t H.cW, mg_t H.cW, show (76 : Int32) = nI 76 from rfl, rd_t H.cW (by decide), mg_t H.cW, rd_t H.cW (by omega), cW_s, e1, e2, wr_t H.cW (by omega), cW_s, cW_cW, nI_1]
    have := cpR_step (S := wI w 96) (s := 0) (d := 77 + 17 * u) (i := i) (by omega)
    rw [Nat.zero_add] at this
    rw [this]
  · show f_X12_keepPast_57 (f + 1) _ _ _ = _
    have e1 : cpR (wI w 96) 0 (77 + 17 * u) 17 76 = nI u := by rw [cpR_o (by omega), h76]
    rw [f_X12_keepPast_57, if_pos (show (17 : Int32) ≤ nI 17 from nI_le (a := 17) (by decide) (by decide)), mg_t H.cW, show (76 : Int32) = nI 76 from rfl, rd_t H.cW (by decide), wr_t H.cW (by decide), cW_s, e1, nI_1, cW_cW]
    congr 3
    funext j
    unfold putP
    by_cases h1 : j = 76
    · subst h1; rw [pk_us, if_neg (by omega), if_pos rfl]
    · rw [pk_un h1, if_neg h1]
      unfold cpR
      by_cases h2 : 77 + 17 * u ≤ j ∧ j < 77 + 17 * u + 17
      · rw [if_pos h2, if_pos h2, Nat.zero_add]
      · rw [if_neg h2, if_neg h2]
theorem mKeep_eq (H : MS w) {K : Nat} (I : Iv (wI w 96) K) : f_X12_keepPast 95 w = some ((), cW w 96 (keepS (wI w 96))) := by
  have h76 := I.2.2.2.1.1
  have hu8 := I.2.2.2.1.2
  unfold f_X12_keepPast keepS
  rw [mg_t H, show (76 : Int32) = nI 76 from rfl, rd_t H (by decide), h76]
  by_cases hu : un (wI w 96) < 8
  · rw [if_neg (show ¬ nI (un (wI w 96)) = (8 : Int32) from fun q => by have := (nI_eq (a := un (wI w 96)) (b := 8) (by omega) (by decide)).mp q; omega), if_pos hu]
    exact mKeep57 H (by omega) h76
  · have h8 : un (wI w 96) = 8 := by omega
    rw [h8, if_pos (show nI 8 = (8 : Int32) from rfl), if_neg (by decide)]
    refine (congrArg (f_X12_keepPast_14 4096 95 0) (show w = cW w 96 (cpR (wI w 96) 94 77 0) from by rw [cpR_0, cW_id])).trans ?_
    refine lpE (n := 119) (F := fun f i => f_X12_keepPast_14 f 95 (nI i) (cW w 96 (cpR (wI w 96) 94 77 i))) (fun f i hi => ?_) (fun f => ?_) 4096 (by decide)
    · show f_X12_keepPast_14 (f + 1) _ _ _ = _
      rw [f_X12_keepPast_14, if_neg (show ¬ (119 : Int32) ≤ nI i from nI_ge (b := 119) hi (by decide)), mg_t H.cW, mg_t H.cW, show (94 : Int32) = nI 94 from rfl, nI_add, rd_t H.cW (by omega), show (77 : Int32) = nI 77 from rfl, nI_add, wr_t H.cW (by omega), cW_s, cW_cW, nI_1, cpR_step (by omega)]
    · show f_X12_keepPast_14 (f + 1) _ _ _ = _
      have e1 : cpR (wI w 96) 94 77 119 76 = nI 8 := by rw [cpR_o (by omega), h76, h8]
      have e2 : upd (cpR (wI w 96) 94 77 119) 76 (nI 7) = shP (wI w 96) := by
        funext j
        unfold shP
        by_cases h1 : j = 76
        · subst h1; rw [pk_us, if_neg (by omega), if_pos rfl]
        · rw [pk_un h1, if_neg h1]
          unfold cpR
          by_cases h2 : 77 ≤ j ∧ j < 77 + 119
          · rw [if_pos h2, if_pos ⟨by omega, by omega⟩]
            congr 1; omega
          · rw [if_neg h2, if_neg (by omega)]
      rw [f_X12_keepPast_14, if_pos (show (119 : Int32) ≤ nI 119 from nI_le (a := 119) (by decide) (by decide)), mg_t H.cW, show (76 : Int32) = nI 76 from rfl, rd_t H.cW (by decide), wr_t H.cW (by decide), cW_s, e1, nI_pred, cW_cW, e2, mKeep57 H.cW (u := 7) (by decide) (by rw [cW_s]; exact shP_76), cW_s, cW_cW]
theorem mLayTried_eq (H : MS w) : f_X12_layTried 95 w = some ((), cW w 96 (putQ (wI w 96) 639 (wI w 96))) := by
  unfold f_X12_layTried
  refine (congrArg (f_X12_layTried_2 4096 95 0) (show w = cW w 96 (cpR (wI w 96) 0 639 0) from by rw [cpR_0, cW_id])).trans ?_
  refine lpE (n := 17) (F := fun f i => f_X12_layTried_2 f 95 (nI i) (cW w 96 (cpR (wI w 96) 0 639 i))) (fun f i hi => ?_) (fun f => ?_) 4096 (by decide)
  · show f_X12_layTried_2 (f + 1) _ _ _ = _
    rw [f_X12_layTried_2, if_neg (show ¬ (17 : Int32) ≤ nI i from nI_ge (b := 17) hi (by decide)), mg_t H.cW, mg_t H.cW, rd_t H.cW (by omega), show (639 : Int32) = nI 639 from rfl, nI_add, wr_t H.cW (by omega), cW_s, cW_cW, nI_1]
    have := cpR_step (S := wI w 96) (s := 0) (d := 639) (i := i) (by omega)
    rw [Nat.zero_add] at this
    rw [this]
  · show f_X12_layTried_2 (f + 1) _ _ _ = _
    rw [f_X12_layTried_2, if_pos (show (17 : Int32) ≤ nI 17 from nI_le (a := 17) (by decide) (by decide))]
    have e : cpR (wI w 96) 0 639 17 = putQ (wI w 96) 639 (wI w 96) := by
      funext j
      unfold cpR putQ
      rw [Nat.zero_add]
    rw [e]
theorem mIsGoods_eq (H : MS w) {K : Nat} (I : Iv (wI w 96) K) (x : Int32) [Decidable (hasg (nn (wI w 96)) x)] : f_X12_isGoods 95 x w = some (if hasg (nn (wI w 96)) x then 1 else 0, w) := by
  unfold f_X12_isGoods
  rw [mg_t H, show (19 : Int32) = nI 19 from rfl, rd_t H (by decide), in_eq, I.n.1, cal_t]
  have hn := I.n.2
  have e : ((0 : Int32) ≤ x ∧ x ≤ nI (nn (wI w 96)) - 1) ↔ hasg (nn (wI w 96)) x := by
    constructor
    · rintro ⟨h1, h2⟩
      obtain ⟨j, hj, rfl⟩ := nI_of (Int32.not_lt.mpr h1)
      by_cases h0 : nn (wI w 96) = 0
      · rw [h0] at h2
        exact absurd (Int32.le_trans h1 h2) (by decide)
      · obtain ⟨m, hm⟩ : ∃ m, nn (wI w 96) = m + 1 := ⟨nn (wI w 96) - 1, by omega⟩
        rw [hm, nI_pred] at h2
        have := (nI_leI hj (by omega)).mp h2
        exact ⟨j, by omega, rfl⟩
    · rintro ⟨g, hg, rfl⟩
      obtain ⟨m, hm⟩ : ∃ m, nn (wI w 96) = m + 1 := ⟨nn (wI w 96) - 1, by omega⟩
      rw [hm, nI_pred]
      exact ⟨nI_pos' (by omega), nI_le (by omega) (by omega)⟩
  by_cases hh : hasg (nn (wI w 96)) x
  · rw [if_pos hh, if_pos (e.mpr hh)]
    exact rZ1
  · rw [if_neg hh, if_neg (fun q => hh (e.mp q))]
    exact rZ0
end P9
