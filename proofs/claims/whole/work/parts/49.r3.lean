/-! how many bits are set -/
theorem of32 (x : Int32) : x = nI x.toBitVec.toNat := by
  apply Int32.toBitVec_inj.mp
  show x.toBitVec = (Int32.ofNat x.toBitVec.toNat).toBitVec
  rw [Int32.toBitVec_ofNat']
  simp
theorem andN (a b : Nat) : nI a &&& nI b = nI (a &&& b) := by
  apply Int32.toBitVec_inj.mp
  show (Int32.ofNat a &&& Int32.ofNat b).toBitVec = (Int32.ofNat (a &&& b)).toBitVec
  rw [Int32.toBitVec_and, Int32.toBitVec_ofNat', Int32.toBitVec_ofNat', Int32.toBitVec_ofNat', BitVec.ofNat_and]
theorem orN (a b : Nat) : nI a ||| nI b = nI (a ||| b) := by
  apply Int32.toBitVec_inj.mp
  show (Int32.ofNat a ||| Int32.ofNat b).toBitVec = (Int32.ofNat (a ||| b)).toBitVec
  rw [Int32.toBitVec_or, Int32.toBitVec_ofNat', Int32.toBitVec_ofNat', Int32.toBitVec_ofNat', BitVec.ofNat_or]
theorem ushN {n : Nat} (hn : n < 2 ^ 32) {k : Nat} (hk : k < 32) : iush (nI n) (nI k) = nI (n / 2 ^ k) := by
  have h : ∀ k, k < 32 → (((nI k).toUInt32 &&& Int32.toUInt32 31).toBitVec % 32).toNat = k := by decide +kernel
  exact pk_ushrN hn (nI k) k (h k hk)
theorem and8 {p q p' q' : Nat} (h : p < 256) (h' : p' < 256) : (2 ^ 8 * q + p) &&& (2 ^ 8 * q' + p') = 2 ^ 8 * (q &&& q') + (p &&& p') := by
  have h3 : p &&& p' < 2 ^ 8 := Nat.and_lt_two_pow p h'
  apply Nat.eq_of_testBit_eq
  intro j
  rw [Nat.testBit_and, Nat.testBit_two_pow_mul_add _ h, Nat.testBit_two_pow_mul_add _ h', Nat.testBit_two_pow_mul_add _ h3]
  by_cases hj : j < 8
  · rw [if_pos hj, if_pos hj, if_pos hj, Nat.testBit_and]
  · rw [if_neg hj, if_neg hj, if_neg hj, Nat.testBit_and]
theorem by1 : ∀ a, a < 256 → ∀ e, e < 2 → (a / 2 + 128 * e) &&& 85 = a / 2 &&& 85 := by decide +kernel
theorem by2 : ∀ a, a < 256 → ∀ e, e < 4 → (a / 4 + 64 * e) &&& 51 = a / 4 &&& 51 := by decide +kernel
theorem by3 : ∀ y, y < 69 → ∀ e, e < 5 → (y + (y / 16 + 16 * e)) &&& 15 = (y + y / 16) &&& 15 := by decide +kernel
theorem st1 {a B m : Nat} (ha : a < 256) : ((2 ^ 8 * B + a) / 2) &&& (2 ^ 8 * m + 85) = 2 ^ 8 * ((B / 2) &&& m) + (a / 2 &&& 85) := by
  rw [show (2 ^ 8 * B + a) / 2 = 2 ^ 8 * (B / 2) + (a / 2 + 128 * (B % 2)) by omega, and8 (by omega) (by decide), by1 a ha _ (by omega)]
theorem st2 {a B m : Nat} (ha : a < 256) : ((2 ^ 8 * B + a) &&& (2 ^ 8 * m + 51)) + (((2 ^ 8 * B + a) / 4) &&& (2 ^ 8 * m + 51)) = 2 ^ 8 * ((B &&& m) + ((B / 4) &&& m)) + ((a &&& 51) + (a / 4 &&& 51)) := by
  rw [show (2 ^ 8 * B + a) / 4 = 2 ^ 8 * (B / 4) + (a / 4 + 64 * (B % 4)) by omega, and8 (by omega) (by decide), and8 (by omega) (by decide), by2 a ha _ (by omega)]
  omega
theorem st3 {y B m : Nat} (hy : y < 69) (hB : B % 16 < 5) : ((2 ^ 8 * B + y) + (2 ^ 8 * B + y) / 16) &&& (2 ^ 8 * m + 15) = 2 ^ 8 * ((B + B / 16) &&& m) + ((y + y / 16) &&& 15) := by
  rw [show (2 ^ 8 * B + y) + (2 ^ 8 * B + y) / 16 = 2 ^ 8 * (B + B / 16) + (y + (y / 16 + 16 * (B % 16))) by omega, and8 (by omega) (by decide), by3 y hy _ hB]
def s1 (a : Nat) : Nat := a - (a / 2 &&& 85)
def s2 (a : Nat) : Nat := (s1 a &&& 51) + (s1 a / 4 &&& 51)
def s3 (a : Nat) : Nat := (s2 a + s2 a / 16) &&& 15
def cb (f : Nat → Bool) : Nat → Nat
  | 0 => 0
  | n + 1 => cb f n + (if f n then 1 else 0)
theorem by4 : ∀ a, a < 256 → (a / 2 &&& 85) ≤ a ∧ s1 a < 256 ∧ s2 a < 69 ∧ s2 a % 16 < 5 ∧ s3 a = cb a.testBit 8 ∧ s3 a ≤ 8 := by decide +kernel
theorem fin4 {a b c d : Nat} (ha : a ≤ 8) (hb : b ≤ 8) (hc : c ≤ 8) (hd : d ≤ 8) : (2 ^ 8 * (2 ^ 8 * (2 ^ 8 * d + c) + b) + a + (2 ^ 8 * (2 ^ 8 * (2 ^ 8 * d + c) + b) + a) / 2 ^ 8 + (2 ^ 8 * (2 ^ 8 * (2 ^ 8 * d + c) + b) + a + (2 ^ 8 * (2 ^ 8 * (2 ^ 8 * d + c) + b) + a) / 2 ^ 8) / 2 ^ 16) % 2 ^ 6 = a + b + c + d := by
  have h1 : (2 ^ 8 * (2 ^ 8 * (2 ^ 8 * d + c) + b) + a) / 2 ^ 8 = 2 ^ 8 * (2 ^ 8 * d + c) + b := by omega
  rw [h1]
  have h2 : (2 ^ 8 * (2 ^ 8 * (2 ^ 8 * d + c) + b) + a + (2 ^ 8 * (2 ^ 8 * d + c) + b)) / 2 ^ 16 = 2 ^ 8 * d + (c + d) := by omega
  rw [h2]
  omega
theorem pop_bytes {a b c d : Nat} (ha : a < 256) (hb : b < 256) (hc : c < 256) (hd : d < 256) : pop (nI (2 ^ 8 * (2 ^ 8 * (2 ^ 8 * d + c) + b) + a)) = nI (s3 a + s3 b + s3 c + s3 d) := by
  obtain ⟨a1, a2, a3, a4, -, a6⟩ := by4 a ha
  obtain ⟨b1, b2, b3, b4, -, b6⟩ := by4 b hb
  obtain ⟨c1, c2, c3, c4, -, c6⟩ := by4 c hc
  obtain ⟨d1, d2, d3, d4, -, d6⟩ := by4 d hd
  have e1 : ((2 ^ 8 * (2 ^ 8 * (2 ^ 8 * d + c) + b) + a) / 2) &&& 1431655765 = 2 ^ 8 * (2 ^ 8 * (2 ^ 8 * (d / 2 &&& 85) + (c / 2 &&& 85)) + (b / 2 &&& 85)) + (a / 2 &&& 85) := by
    rw [show (1431655765 : Nat) = 2 ^ 8 * (2 ^ 8 * (2 ^ 8 * 85 + 85) + 85) + 85 by decide, st1 ha, st1 hb, st1 hc]
  have e1' : (2 ^ 8 * (2 ^ 8 * (2 ^ 8 * d + c) + b) + a) - (2 ^ 8 * (2 ^ 8 * (2 ^ 8 * (d / 2 &&& 85) + (c / 2 &&& 85)) + (b / 2 &&& 85)) + (a / 2 &&& 85)) = 2 ^ 8 * (2 ^ 8 * (2 ^ 8 * s1 d + s1 c) + s1 b) + s1 a := by
    unfold s1
    omega
  have e2 : ((2 ^ 8 * (2 ^ 8 * (2 ^ 8 * s1 d + s1 c) + s1 b) + s1 a) &&& 858993459) + (((2 ^ 8 * (2 ^ 8 * (2 ^ 8 * s1 d + s1 c) + s1 b) + s1 a) / 4) &&& 858993459) = 2 ^ 8 * (2 ^ 8 * (2 ^ 8 * s2 d + s2 c) + s2 b) + s2 a := by
    rw [show (858993459 : Nat) = 2 ^ 8 * (2 ^ 8 * (2 ^ 8 * 51 + 51) + 51) + 51 by decide, st2 a2, st2 b2, st2 c2]
    rfl
  have e3 : ((2 ^ 8 * (2 ^ 8 * (2 ^ 8 * s2 d + s2 c) + s2 b) + s2 a) + (2 ^ 8 * (2 ^ 8 * (2 ^ 8 * s2 d + s2 c) + s2 b) + s2 a) / 16) &&& 252645135 = 2 ^ 8 * (2 ^ 8 * (2 ^ 8 * s3 d + s3 c) + s3 b) + s3 a := by
    rw [show (252645135 : Nat) = 2 ^ 8 * (2 ^ 8 * (2 ^ 8 * 15 + 15) + 15) + 15 by decide, st3 a3 (by omega), st3 b3 (by omega), st3 c3 (by omega)]
    rfl
  unfold pop
  simp only []
  rw [show (1 : Int32) = nI 1 from rfl, ushN (by omega) (by decide), show (1431655765 : Int32) = nI 1431655765 from rfl, andN, show (2 : Nat) ^ 1 = 2 from rfl, e1, pk_sub (by omega), e1']
  rw [show (858993459 : Int32) = nI 858993459 from rfl, show (2 : Int32) = nI 2 from rfl, ushN (by omega) (by decide), andN, andN, nI_add, show (2 : Nat) ^ 2 = 4 from rfl, e2]
  rw [show (4 : Int32) = nI 4 from rfl, ushN (by omega) (by decide), nI_add, show (252645135 : Int32) = nI 252645135 from rfl, andN, show (2 : Nat) ^ 4 = 16 from rfl, e3]
  rw [show (8 : Int32) = nI 8 from rfl, ushN (by omega) (by decide), nI_add, show (16 : Int32) = nI 16 from rfl, ushN (by omega) (by decide), nI_add, pk_andN (by omega) (m := 63) 6 (by decide)]
  rw [fin4 a6 b6 c6 d6]
theorem pop_eq {N : Nat} (hN : N < 2 ^ 32) : pop (nI N) = nI (cb N.testBit 32) := by
  have e : N = 2 ^ 8 * (2 ^ 8 * (2 ^ 8 * (N / 2 ^ 24) + N / 2 ^ 16 % 256) + N / 2 ^ 8 % 256) + N % 256 := by omega
  have h := pop_bytes (a := N % 256) (b := N / 2 ^ 8 % 256) (c := N / 2 ^ 16 % 256) (d := N / 2 ^ 24) (by omega) (by omega) (by omega) (by omega)
  rw [← e] at h
  rw [h, (by4 (N % 256) (by omega)).2.2.2.2.1, (by4 (N / 2 ^ 8 % 256) (by omega)).2.2.2.2.1, (by4 (N / 2 ^ 16 % 256) (by omega)).2.2.2.2.1, (by4 (N / 2 ^ 24) (by omega)).2.2.2.2.1]
  have t : ∀ s j, j < 8 → (N / 2 ^ s % 256).testBit j = N.testBit (s + j) := fun s j hj => by
    rw [show (256 : Nat) = 2 ^ 8 from rfl, Nat.testBit_mod_two_pow, Nat.testBit_div_two_pow, decide_eq_true hj, Bool.true_and, Nat.add_comm]
  have t0 : ∀ j, j < 8 → (N % 256).testBit j = N.testBit j := fun j hj => by
    rw [show (256 : Nat) = 2 ^ 8 from rfl, Nat.testBit_mod_two_pow, decide_eq_true hj, Bool.true_and]
  have t3 : ∀ j, (N / 2 ^ 24).testBit j = N.testBit (24 + j) := fun j => by rw [Nat.testBit_div_two_pow, Nat.add_comm]
  congr 1
  simp only [cb, t0 0 (by decide), t0 1 (by decide), t0 2 (by decide), t0 3 (by decide), t0 4 (by decide), t0 5 (by decide), t0 6 (by decide), t0 7 (by decide), t 8 0 (by decide), t 8 1 (by decide), t 8 2 (by decide), t 8 3 (by decide), t 8 4 (by decide), t 8 5 (by decide), t 8 6 (by decide), t 8 7 (by decide), t 16 0 (by decide), t 16 1 (by decide), t 16 2 (by decide), t 16 3 (by decide), t 16 4 (by decide), t 16 5 (by decide), t 16 6 (by decide), t 16 7 (by decide), t3, Nat.reduceAdd]
  omega
/-- the bit of a mask -/
theorem bit_eq {N : Nat} (hN : N < 2 ^ 32) {j : Nat} (hj : j < 32) : (iush (nI N) (nI j) &&& 1 = 1) ↔ N.testBit j = true := by
  rw [ushN hN hj, pk_andN (by have := Nat.div_le_self N (2 ^ j); omega) (m := 1) 1 (by decide), show (1 : Int32) = nI 1 from rfl, nI_eq (by omega) (by decide), Nat.testBit_eq_decide_div_mod_eq]
  simp
/-- the mask of those among n that P holds of -/
def mskN (P : Nat → Prop) [∀ i, Decidable (P i)] : Nat → Nat
  | 0 => 0
  | n + 1 => if P n then mskN P n ||| 2 ^ n else mskN P n
theorem mskN_lt (P : Nat → Prop) [∀ i, Decidable (P i)] : ∀ n, mskN P n < 2 ^ n
  | 0 => Nat.one_pos
  | n + 1 => by
    have := mskN_lt P n
    have h2 : 2 ^ n < 2 ^ (n + 1) := Nat.pow_lt_pow_right (by decide) (by omega)
    rw [mskN]
    by_cases h : P n
    · rw [if_pos h]; exact Nat.or_lt_two_pow (by omega) h2
    · rw [if_neg h]; omega
theorem mskN_bit (P : Nat → Prop) [∀ i, Decidable (P i)] : ∀ n j, (mskN P n).testBit j = decide (j < n ∧ P j)
  | 0, j => by rw [mskN, Nat.zero_testBit]; exact (decide_eq_false (by omega)).symm
  | n + 1, j => by
    rw [mskN]
    by_cases h : P n
    · rw [if_pos h, Nat.testBit_or, mskN_bit P n j, Nat.testBit_two_pow]
      by_cases e : n = j
      · subst e
        simp [h]
      · have : (j < n + 1 ∧ P j) ↔ (j < n ∧ P j) := by constructor <;> rintro ⟨a, b⟩ <;> exact ⟨by omega, b⟩
        simp [e, this]
    · rw [if_neg h, mskN_bit P n j]
      have : (j < n + 1 ∧ P j) ↔ (j < n ∧ P j) := by
        constructor
        · rintro ⟨a, b⟩
          exact ⟨by
            have : j ≠ n := fun q => h (q ▸ b)
            omega, b⟩
        · rintro ⟨a, b⟩
          exact ⟨by omega, b⟩
      exact decide_eq_decide.mpr this.symm
theorem msk_or {m n : Nat} (hn : n < 32) : nI m ||| ((1 : Int32) <<< (nI n &&& 31)) = nI (m ||| 2 ^ n) := by
  have h : ∀ n, n < 32 → ((1 : Int32) <<< (nI n &&& 31)) = nI (2 ^ n) := by decide +kernel
  rw [h n hn, orN]
