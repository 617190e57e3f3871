/-! where to look: of those that fit, as many as grind alike -/
def cuN (F : Nat → Bool) (v : Nat → Int32) (k : Nat) : Nat → Nat
  | 0 => 0
  | i + 1 => cuN F v k i + (if F i = true ∧ v i = v k then 1 else 0)
def mxN (f : Nat → Nat) : Nat → Nat
  | 0 => 0
  | i + 1 => max (mxN f i) (f i)
def mdN (F : Nat → Bool) (v : Nat → Int32) (k i : Nat) : Nat := if F k = true then cuN F v k i else 0
theorem cuN_le (F : Nat → Bool) (v : Nat → Int32) (k : Nat) : ∀ i, cuN F v k i ≤ i
  | 0 => Nat.le_refl _
  | i + 1 => by
    have := cuN_le F v k i
    rw [cuN]
    split <;> omega
theorem cuN_mono (F : Nat → Bool) (v : Nat → Int32) (k i : Nat) : ∀ d, cuN F v k i ≤ cuN F v k (i + d)
  | 0 => Nat.le_refl _
  | d + 1 => by
    have := cuN_mono F v k i d
    rw [← Nat.add_assoc, cuN]
    omega
theorem cuN_cong {F : Nat → Bool} {v : Nat → Int32} {j k : Nat} (e : v j = v k) : ∀ i, cuN F v j i = cuN F v k i
  | 0 => rfl
  | i + 1 => by rw [cuN, cuN, cuN_cong e i, e]
theorem cuN_ex {F : Nat → Bool} {v : Nat → Int32} {k : Nat} : ∀ i, 0 < cuN F v k i → ∃ j, j < i ∧ F j = true ∧ v j = v k
  | 0, h => absurd h (by rw [cuN]; omega)
  | i + 1, h => by
    by_cases c : F i = true ∧ v i = v k
    · exact ⟨i, by omega, c⟩
    · rw [cuN, if_neg c, Nat.add_zero] at h
      obtain ⟨j, h1, h2⟩ := cuN_ex i h
      exact ⟨j, by omega, h2⟩
theorem cuN_top {F : Nat → Bool} {v : Nat → Int32} {k : Nat} : ∀ i, cuN F v k i = 0 ∨ ∃ j, j < i ∧ cuN F v j (j + 1) = cuN F v k i
  | 0 => Or.inl rfl
  | i + 1 => by
    by_cases c : F i = true ∧ v i = v k
    · exact Or.inr ⟨i, by omega, cuN_cong c.2 (i + 1)⟩
    · rw [cuN, if_neg c, Nat.add_zero]
      exact (cuN_top i).imp id (fun ⟨j, h1, h2⟩ => ⟨j, by omega, h2⟩)
theorem mxN_ge (f : Nat → Nat) {j : Nat} : ∀ i, j < i → f j ≤ mxN f i
  | 0, h => absurd h (by omega)
  | i + 1, h => by
    rw [mxN]
    by_cases e : j = i
    · subst e; omega
    · have := mxN_ge f (j := j) i (by omega)
      omega
theorem mxN_le {f : Nat → Nat} {b : Nat} : ∀ i, (∀ j, j < i → f j ≤ b) → mxN f i ≤ b
  | 0, _ => Nat.zero_le _
  | i + 1, h => by
    have h1 := mxN_le i (fun j hj => h j (by omega))
    have h2 := h i (by omega)
    rw [mxN]
    omega
theorem mx_same (F : Nat → Bool) (v : Nat → Int32) (n : Nat) : mxN (fun k => cuN F v k (k + 1)) n = mxN (fun k => mdN F v k n) n := by
  apply Nat.le_antisymm
  · refine mxN_le n (fun k hk => ?_)
    by_cases h0 : cuN F v k n = 0
    · have := cuN_mono F v k (k + 1) (n - (k + 1))
      rw [show k + 1 + (n - (k + 1)) = n by omega, h0] at this
      show cuN F v k (k + 1) ≤ _
      omega
    · obtain ⟨j, h1, h2, h3⟩ := cuN_ex n (Nat.pos_of_ne_zero h0)
      have a := mxN_ge (fun k => mdN F v k n) n h1
      have b := cuN_mono F v k (k + 1) (n - (k + 1))
      rw [show k + 1 + (n - (k + 1)) = n by omega] at b
      have c : mdN F v j n = cuN F v k n := by unfold mdN; rw [if_pos h2, cuN_cong h3]
      have a' : mdN F v j n ≤ mxN (fun k => mdN F v k n) n := a
      show cuN F v k (k + 1) ≤ _
      omega
  · refine mxN_le n (fun k hk => ?_)
    show mdN F v k n ≤ _
    unfold mdN
    by_cases hF : F k = true
    · rw [if_pos hF]
      rcases cuN_top (F := F) (v := v) (k := k) n with h | ⟨j, h1, h2⟩
      · rw [h]; exact Nat.zero_le _
      · rw [← h2]
        exact mxN_ge (fun k => cuN F v k (k + 1)) n h1
    · rw [if_neg hF]; exact Nat.zero_le _
/-- the first of the least, with what is told of it -/
def bsp (v : Nat → Nat) (a : Nat → Int32) (b0 : Int32) (l0 : Nat) : Nat → Int32 × Nat
  | 0 => (b0, l0)
  | i + 1 => if v i < (bsp v a b0 l0 i).2 then (a i, v i) else bsp v a b0 l0 i
theorem bsp_le {v : Nat → Nat} {a : Nat → Int32} {b0 : Int32} {l0 : Nat} : ∀ i, (bsp v a b0 l0 i).2 ≤ l0
  | 0 => Nat.le_refl _
  | i + 1 => by
    have := bsp_le (v := v) (a := a) (b0 := b0) (l0 := l0) i
    rw [bsp]
    split
    · rename_i h; show v i ≤ l0; omega
    · exact this
theorem bsp_same {v : Nat → Nat} {a : Nat → Int32} {b0 : Int32} {l0 l1 : Nat} (h0 : v 0 < l0) (h1 : v 0 < l1) : ∀ i, bsp v a b0 l0 (i + 1) = bsp v a b0 l1 (i + 1)
  | 0 => by
    rw [bsp, bsp, bsp, bsp]
    show (if v 0 < l0 then _ else _) = (if v 0 < l1 then _ else _)
    rw [if_pos h0, if_pos h1]
  | i + 1 => by
    rw [bsp, bsp_same h0 h1 i]
    rfl
def lkF (S : Nat → Int32) (x r : Int32) : Nat → Bool := fun k => ntB S x k r
def lkV (r : Int32) (i : Nat) : Nat → Int32 := fun k => gk k r (nI (i % 4)) (nI (i / 4))
def lkM (S : Nat → Int32) (x r : Int32) (i : Nat) : Nat := mxN (fun k => cuN (lkF S x r) (lkV r i) k (k + 1)) 6
def lkA (i : Nat) : Int32 := nI (10 * (i / 4) + i % 4)
def yT (T : Nat → Int32) (v : Nat → Int32) (i : Nat) : Nat → Int32 := fun j => if j < i then v j else T j
theorem yT_s {T v : Nat → Int32} {i : Nat} : upd (yT T v i) i (v i) = yT T v (i + 1) := by
  funext j
  unfold yT
  by_cases e : j = i
  · subst e; rw [pk_us, if_pos (by omega)]
  · rw [pk_un e]
    by_cases h : j < i
    · rw [if_pos h, if_pos (by omega)]
    · rw [if_neg h, if_neg (by omega)]
theorem yT_0 {T v : Nat → Int32} : yT T v 0 = T := by
  funext j
  unfold yT
  rw [if_neg (by omega)]
theorem lkM_le (S : Nat → Int32) (x r : Int32) (i : Nat) : lkM S x r i ≤ 6 := mxN_le 6 (fun j hj => Nat.le_trans (cuN_le _ _ j (j + 1)) (by omega))
theorem hs6 : ∀ m, m < 64 → ∀ k, k < 6 → hsB (nI m) (nI k) = b2 (m.testBit k) := by decide +kernel
theorem mskK_lt {S : Nat → Int32} {x r : Int32} : mskK S x r < 64 := mskN_lt _ 6
theorem mskK_bit {S : Nat → Int32} {x r : Int32} {k : Nat} (hk : k < 6) : (mskK S x r).testBit k = lkF S x r k := by
  unfold mskK lkF
  rw [mskN_bit]
  cases ntB S x k r <;> simp [hk]
section S2
variable {w w' : Wd} {h k K K2 : Nat} {S T : Nat → Int32}
theorem fitLike_eq (H : HS w h) {x r : Int32} {v : Nat → Int32} {k : Nat} (hk : k < 6) (hv : ∀ j, j ≤ k → wI w (h + 8) j = v j) : f_X0_fittingLike (h + 3) (nI k) (nI (mskK S x r)) w = some (nI (cuN (lkF S x r) v k (k + 1)), w) := by
  have lt : mskK S x r < 2 ^ 32 := Nat.lt_trans mskK_lt (by decide)
  unfold f_X0_fittingLike
  refine lpE (n := k + 1) (F := fun f i => f_X0_fittingLike_5 f (h + 3) (nI k) (nI (mskK S x r)) (nI (cuN (lkF S x r) v k i)) (nI i) w) (fun f i hi => ?_) (fun f => ?_) 4096 (by omega)
  · show f_X0_fittingLike_5 (f + 1) _ _ _ _ _ _ = _
    rw [f_X0_fittingLike_5, if_neg (nI_nlt (by omega) (by omega)), cuN]
    by_cases hb : lkF S x r i = true
    · rw [if_pos ((bit_eq lt (by omega)).mpr (by rw [mskK_bit (by omega)]; exact hb)), gR_t H.o3, H.c5, Option.bind_some, lI_t H.o8 (inb_of H.n8 (by omega) (by decide)), nI_clamp (by omega), gR_t H.o3, H.c5, Option.bind_some, lI_t H.o8 (inb_of H.n8 (by omega) (by decide)), nI_clamp (by omega), hv i (by omega), hv k (by omega)]
      by_cases he : v i = v k
      · rw [if_pos he, if_pos ⟨hb, he⟩, f_X0_fittingLike_40, nI_1, nI_1]
      · rw [if_neg he, if_neg (fun q => he q.2), f_X0_fittingLike_40, nI_1]; rfl
    · rw [if_neg (fun q => hb (by rw [← mskK_bit (by omega)]; exact (bit_eq lt (by omega)).mp q)), if_neg (fun q => hb q.1), f_X0_fittingLike_40, nI_1]; rfl
  · show f_X0_fittingLike_5 (f + 1) _ _ _ _ _ _ = _
    rw [f_X0_fittingLike_5, if_pos (nI_lt (by omega) (by omega))]
theorem mostGround_eq (H : HS w h) {x r : Int32} {i : Nat} : f_X0_mostGroundAlike (h + 3) r (nI (i % 4)) (nI (i / 4)) (nI (mskK S x r)) w = some (nI (lkM S x r i), cW w (h + 8) (yT (wI w (h + 8)) (lkV r i) 6)) := by
  unfold f_X0_mostGroundAlike
  refine (congrArg (f_X0_mostGroundAlike_6 4096 (h + 3) r (nI (i % 4)) (nI (i / 4)) (nI (mskK S x r)) 0 0) (show w = cW w (h + 8) (yT (wI w (h + 8)) (lkV r i) 0) from by rw [yT_0, cW_id])).trans ?_
  refine lpE (n := 6) (F := fun f j => f_X0_mostGroundAlike_6 f (h + 3) r (nI (i % 4)) (nI (i / 4)) (nI (mskK S x r)) (nI (mxN (fun k => cuN (lkF S x r) (lkV r i) k (k + 1)) j)) (nI j) (cW w (h + 8) (yT (wI w (h + 8)) (lkV r i) j))) (fun f j hj => ?_) (fun f => ?_) 4096 (by decide)
  · show f_X0_mostGroundAlike_6 (f + 1) _ _ _ _ _ _ _ _ = _
    have b1 : mxN (fun k => cuN (lkF S x r) (lkV r i) k (k + 1)) j ≤ 6 := mxN_le j (fun t ht => Nat.le_trans (cuN_le _ _ t (t + 1)) (by omega))
    have b2 := cuN_le (lkF S x r) (lkV r i) j (j + 1)
    have C : HS (cW w (h + 8) (yT (wI w (h + 8)) (lkV r i) j)) h := H.cW
    have e1 : gk j r (nI (i % 4)) (nI (i / 4)) = lkV r i j := rfl
    rw [f_X0_mostGroundAlike_6, if_neg (show ¬ (6 : Int32) ≤ nI j from nI_ge (b := 6) hj (by decide)), gR_t C.o3, C.c5, Option.bind_some, gR_t C.o3, C.c0, Option.bind_some, kd_t C hj, u_ground_eq C hj, cal_t, aI_t C.o8 (inb_of C.n8 hj (by decide)), nI_clamp (by omega), sIW, e1, yT_s, calV_t H.cW.o3, fitLike_eq H.cW (v := lkV r i) hj (fun t ht => by rw [cW_s]; unfold yT; rw [if_pos (by omega)]), cal_t, nm_t, mx_eq (by omega) (by omega), nI_1]
    rfl
  · show f_X0_mostGroundAlike_6 (f + 1) _ _ _ _ _ _ _ _ = _
    rw [f_X0_mostGroundAlike_6, if_pos (show (6 : Int32) ≤ nI 6 by decide)]
    rfl
theorem mostKinds_eq (M : MS w) {x : Int32} {g i : Nat} (hg : g < 6) : f_X12_mostKinds 95 (nI g) (nI (mskK (wI w 96) x (wI w 96 (26 + g)))) (nI (i % 4)) (nI (i / 4)) w = some (nI (lkM (wI w 96) x (wI w 96 (26 + g)) i), w) := by
  have c26 : (26 : Int32) + nI g = nI (26 + g) := nI_add 26 g
  rw [lkM, mx_same]
  generalize hr : wI w 96 (26 + g) = r
  unfold f_X12_mostKinds
  refine lpE (n := 6) (F := fun f j => f_X12_mostKinds_6 f 95 (nI g) (nI (mskK (wI w 96) x r)) (nI (i % 4)) (nI (i / 4)) (nI (mxN (fun k => mdN (lkF (wI w 96) x r) (lkV r i) k 6) j)) (nI j) w) (fun f j hj => ?_) (fun f => ?_) 4096 (by decide)
  · show f_X12_mostKinds_6 (f + 1) _ _ _ _ _ _ _ _ = _
    have b1 : mxN (fun k => mdN (lkF (wI w 96) x r) (lkV r i) k 6) j ≤ 6 := mxN_le j (fun t ht => by
      show mdN _ _ t 6 ≤ 6
      unfold mdN
      have := cuN_le (lkF (wI w 96) x r) (lkV r i) t 6
      split <;> omega)
    have b2' : mdN (lkF (wI w 96) x r) (lkV r i) j 6 ≤ 6 := by
      unfold mdN
      have := cuN_le (lkF (wI w 96) x r) (lkV r i) j 6
      split <;> omega
    rw [f_X12_mostKinds_6, if_neg (show ¬ (6 : Int32) ≤ nI j from nI_ge (b := 6) hj (by decide))]
    refine (congrArg (fun a => f_X12_mostKinds_19 (f_X12_mostKinds_6 f) 4096 95 (nI g) (nI (mskK (wI w 96) x r)) (nI (i % 4)) (nI (i / 4)) (nI (mxN (fun k => mdN (lkF (wI w 96) x r) (lkV r i) k 6) j)) (nI j) a 0 w) (show (0 : Int32) = nI (mdN (lkF (wI w 96) x r) (lkV r i) j 0) from ?_)).trans ?_
    · unfold mdN; rw [cuN, ite_self]; rfl
    refine lpE (n := 6) (F := fun f' t => f_X12_mostKinds_19 (f_X12_mostKinds_6 f) f' 95 (nI g) (nI (mskK (wI w 96) x r)) (nI (i % 4)) (nI (i / 4)) (nI (mxN (fun k => mdN (lkF (wI w 96) x r) (lkV r i) k 6) j)) (nI j) (nI (mdN (lkF (wI w 96) x r) (lkV r i) j t)) (nI t) w) (fun f' t ht => ?_) (fun f' => ?_) 4096 (by decide)
    · show f_X12_mostKinds_19 _ (f' + 1) _ _ _ _ _ _ _ _ _ _ = _
      have e0 : ∀ z : Int32, z + 0 = z := Int32.add_zero
      rw [f_X12_mostKinds_19, if_neg (show ¬ (6 : Int32) ≤ nI t from nI_ge (b := 6) ht (by decide)), mHas_eq, hs6 _ mskK_lt j hj, mskK_bit hj, cal_t]
      by_cases hF : lkF (wI w 96) x r j = true
      · have m1 : ∀ t, mdN (lkF (wI w 96) x r) (lkV r i) j t = cuN (lkF (wI w 96) x r) (lkV r i) j t := fun t => by unfold mdN; rw [if_pos hF]
        rw [hF, b2_1, if_neg (by decide), mHas_eq, hs6 _ mskK_lt t ht, mskK_bit ht, cal_t, m1, m1, cuN]
        by_cases hT : lkF (wI w 96) x r t = true
        · have ej : gk j r (nI (i % 4)) (nI (i / 4)) = lkV r i j := rfl
          have et : gk t r (nI (i % 4)) (nI (i / 4)) = lkV r i t := rfl
          rw [hT, b2_1, if_neg (by decide), mg_t M, c26, rd_t M (by omega), hr, mGroundBy_eq hj, cal_t, mg_t M, rd_t M (by omega), hr, mGroundBy_eq ht, cal_t, ej, et]
          by_cases he : lkV r i j = lkV r i t
          · rw [if_pos he, if_pos ⟨rfl, he.symm⟩, f_X12_mostKinds_88, nm_t, nI_1, nI_1]
          · rw [if_neg he, if_neg (fun q => he q.2.symm), f_X12_mostKinds_87, f_X12_mostKinds_88, nm_t, e0, nI_1]; rfl
        · rw [Bool.not_eq_true _ |>.mp hT, b2_0, if_pos rfl, f_X12_mostKinds_87, f_X12_mostKinds_88, nm_t, e0, nI_1, if_neg (fun q : false = true ∧ lkV r i t = lkV r i j => Bool.false_ne_true q.1)]; rfl
      · have m1 : ∀ t, mdN (lkF (wI w 96) x r) (lkV r i) j t = 0 := fun t => by unfold mdN; rw [if_neg hF]
        rw [Bool.not_eq_true _ |>.mp hF, b2_0, if_pos rfl, m1, m1, f_X12_mostKinds_87, f_X12_mostKinds_88, nm_t, e0, nI_1]
    · show f_X12_mostKinds_19 _ (f' + 1) _ _ _ _ _ _ _ _ _ _ = _
      rw [f_X12_mostKinds_19, if_pos (show (6 : Int32) ≤ nI 6 by decide), mxN]
      by_cases hc : mdN (lkF (wI w 96) x r) (lkV r i) j 6 ≤ mxN (fun k => mdN (lkF (wI w 96) x r) (lkV r i) k 6) j
      · rw [if_pos (nI_le hc (by omega)), f_X12_mostKinds_111, nI_1, Nat.max_eq_left hc]
      · rw [if_neg (nI_ge (by omega) (by omega)), f_X12_mostKinds_111, nI_1, Nat.max_eq_right (by omega)]
  · show f_X12_mostKinds_6 (f + 1) _ _ _ _ _ _ _ _ = _
    rw [f_X12_mostKinds_6, if_pos (show (6 : Int32) ≤ nI 6 by decide)]
end S2
