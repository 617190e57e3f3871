/-! HOURs tried -/
def trS (S : Nat → Int32) (xs : Nat → Int32) : Nat → Nat → Int32
  | 0 => S
  | i + 1 => pasO S (S 17) (trS S xs i) (xs i)
theorem bsum_add {q r : Nat → Int32} {g : Nat} (hg : g < 6) (y : Int32) (h : ∀ j, j < 6 → r j = if j = g then q j + y else q j) : bsum r = bsum q + y := by
  unfold bsum
  rw [sm32_cong h]
  rcases six hg with rfl | rfl | rfl | rfl | rfl | rfl
  all_goals
    simp [sm32]
    try ac_rfl
section R7
variable {w w' : Wd} {h k K K2 : Nat} {S T : Nat → Int32}
theorem pas_sum {q : Nat → Int32} (I : Iv S K2) (P : Pv (nn S) (S 17) K q) (I2 : Iv S K) (hK : K < 2 ^ 31) {Hn b : Nat} (hH : S 17 = nI Hn) (hl : Hn ≤ 200) (hb : bsum q = nI b) (hbl : b ≤ Hn) {x : Int32} (hx : x = -1 ∨ hasg (nn S) x) : ∃ v, v ≤ 12 ∧ manyO S q x = nI v ∧ bsum (pasO S (S 17) q x) = nI (min (b + v) Hn) ∧ pasO S (S 17) q x 12 = q 12 + nI (b + v - min (b + v) Hn) ∧ pasO S (S 17) q x 14 = q 14 + 1 ∧ pasO S (S 17) q x 16 = q 16 := by
  have hn := I.n.2
  rcases hx with rfl | ⟨g, hg, rfl⟩
  · refine ⟨0, by omega, rfl, ?_, ?_, rfl, rfl⟩
    · show bsum (pasN q) = _
      have : bsum (pasN q) = bsum q := sm32_cong (fun j hj => if_neg (by omega))
      rw [this, hb, Nat.add_zero, Nat.min_eq_left hbl]
    · show q 12 = _
      rw [Nat.add_zero, Nat.min_eq_left hbl, Nat.sub_self]
      exact (Int32.add_zero _).symm
  · obtain ⟨v, hv, ev⟩ := mny_nat I2 P hK hg
    have er : S 17 - bsum q = nI (Hn - b) := by rw [hH, hb, pk_sub hbl]
    have ey : sty (S 17) q (mny S q g) = nI (min v (Hn - b)) := by
      unfold sty
      rw [er, ev]
      by_cases h1 : v < Hn - b
      · rw [if_pos (nI_lt h1 (by omega)), Nat.min_eq_left (by omega)]
      · rw [if_neg (nI_nlt (by omega) (by omega)), Nat.min_eq_right (by omega)]
    have g6 : g < 6 := by omega
    refine ⟨v, hv, ?_, ?_, ?_, ?_, ?_⟩
    · rw [manyO_g (by omega), ev]
    · rw [pasO_g (by omega), bsum_add (q := q) g6 (sty (S 17) q (mny S q g)) (fun j hj => ?_), hb, ey, nI_add]
      · congr 1; omega
      · unfold pasG
        by_cases e : j = g
        · rw [if_pos e, if_pos e, e]
        · rw [if_neg e, if_neg e, if_neg (by omega), if_neg (by omega)]
    · rw [pasO_g (by omega)]
      show (if (12 : Nat) = g then _ else if (12 : Nat) = 12 then _ else _) = _
      rw [if_neg (by omega), if_pos rfl, ey, ev, pk_sub (by omega)]
      congr 2
      omega
    · rw [pasO_g (by omega)]
      show (if (14 : Nat) = g then _ else if (14 : Nat) = 12 then _ else if (14 : Nat) = 14 then _ else _) = _
      rw [if_neg (by omega), if_neg (by decide), if_pos rfl]
    · rw [pasO_g (by omega)]
      show (if (16 : Nat) = g then _ else if (16 : Nat) = 12 then _ else if (16 : Nat) = 14 then _ else q 16) = _
      rw [if_neg (by omega), if_neg (by decide), if_neg (by decide)]
/-- what is ground of x in the i-th HOUR from now -/
def gdO (S : Nat → Int32) (x : Int32) (i : Nat) : Int32 := if x = -1 then 0 else gk (S (20 + x.toNatClampNeg)).toNatClampNeg (S (26 + x.toNatClampNeg)) (S 14 + nI i) (S 16)
theorem tr_sum (I : Iv S K) (hK : K + 60 < 2 ^ 31) {Hn b : Nat} (hH : S 17 = nI Hn) (hl : Hn ≤ 200) (hb : bsum S = nI b) (hbl : b ≤ Hn) {xs : Nat → Int32} (hx : ∀ i, xs i = -1 ∨ hasg (nn S) (xs i)) : ∀ m, m ≤ 60 → ∃ G, G ≤ 12 * m ∧ sm32 (fun i => gdO S (xs i) i) m = nI G ∧ bsum (trS S xs m) = nI (min (b + G) Hn) ∧ trS S xs m 12 = S 12 + nI (b + G - min (b + G) Hn) ∧ trS S xs m 14 = S 14 + nI m ∧ trS S xs m 16 = S 16 ∧ Pv (nn S) (S 17) (K + m) (trS S xs m)
  | 0, _ => ⟨0, by omega, rfl, by rw [Nat.add_zero, Nat.min_eq_left hbl]; exact hb, by rw [Nat.add_zero, Nat.min_eq_left hbl, Nat.sub_self]; exact (Int32.add_zero _).symm, (Int32.add_zero _).symm, rfl, I.pv⟩
  | m + 1, hm => by
    obtain ⟨G, g1, g2, g3, g4, g5, g6, g7⟩ := tr_sum I hK hH hl hb hbl hx m (by omega)
    have I2 : Iv S (K + m) := I.mono (by omega)
    obtain ⟨v, v1, v2, v3, v4, v5, v6⟩ := pas_sum I g7 I2 (by omega) hH hl g3 (by omega) (hx m)
    have e : gdO S (xs m) m = nI v := by
      rw [← v2]
      unfold gdO manyO mny
      rw [g5, g6]
    refine ⟨G + v, by omega, ?_, ?_, ?_, ?_, ?_, ?_⟩
    · rw [sm32, g2, e, nI_add]
    · rw [trS, v3]; congr 1; omega
    · rw [trS, v4, g4, Int32.add_assoc, nI_add]; congr 2; omega
    · rw [trS, v5, g5, Int32.add_assoc, nI_1]
    · rw [trS, v6, g6]
    · rw [trS]; exact pas_pv (K := K + m) I2 g7 (by omega) (hx m)
end R7
