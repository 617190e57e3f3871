/-! two mills in one street: the reference -/
section T3
variable {w w' : Wd} {h k K K2 : Nat} {S T : Nat → Int32}
def W2 (w : Wd) (A B : Nat → Int32) (p : Nat) (x u : Int32) : Wd := cW (cW w 105 (upd A p x)) 106 (upd B p u)
theorem W2_E (E : ME w S) {A B : Nat → Int32} : ME (cW (cW w 105 A) 106 B) S := (E.c (by decide)).c (by decide)
def dlI (i j : Nat) : Int32 := if i = j then 1 else 0
theorem s136 (E : ME w S) (I : Iv S K) {i j m : Nat} {A B : Nat → Int32} {v6 v7 v8 x u nI' kI : Int32} (hi : i < nn S) (hj : j < nn S) (hm : m < 4096) (rec2 : Nat → Int32 → Int32 → Wd → Option (Unit × Wd)) (rec : Nat → Int32 → Int32 → Int32 → Int32 → Int32 → Int32 → Int32 → Int32 → Wd → Option (Unit × Wd)) : f_X12_layStreet_136 rec2 rec 95 nI' kI (nI i) (nI j) (nI (m + 1)) v6 v7 v8 (W2 w A B (6 * i + j) x u) = f_X12_layStreet_185 rec2 rec 95 nI' kI (nI i) (nI j) (nI m) v6 (v7 + 1) (v8 + dlI i j) (W2 w A B (6 * i + j) (x + feI S i v7) u) := by
  have hN := I.n.2
  have E' : ME (W2 w A B (6 * i + j) x u) S := W2_E E
  have M' := E'.1
  have l1 : wI (W2 w A B (6 * i + j) x u) 105 = upd A (6 * i + j) x := by unfold W2; rw [cW_o (by decide), cW_s]
  have l2 : ∀ z : Int32, cW (W2 w A B (6 * i + j) x u) 105 (upd (upd A (6 * i + j) x) (6 * i + j) z) = W2 w A B (6 * i + j) z u := fun z => by unfold W2; rw [upd_2, cW_in (by decide)]
  rw [f_X12_layStreet_136, if_neg (nI_nle (by omega) (by omega)), M'.rf 95 12 19 105 (by decide) (by decide), i6, M'.ld 105 36 (by decide) (by decide) (by omega) (by decide), mc_t M', mFe_eq E' I hi, cal_t, ms_st M' 105 36 (by decide) (by decide) (by omega) (by decide), l1, pk_us, l2]
  unfold dlI
  by_cases e : i = j
  · rw [if_pos (by rw [e]), if_pos e, f_X12_layStreet_179, nm_t, pk_m1]; rfl
  · rw [if_neg (fun q => e ((nI_eq (by omega) (by omega)).mp q)), if_neg e, f_X12_layStreet_179, nm_t, pk_m1]; rfl
theorem s136z {i j : Nat} {v6 v7 v8 nI' kI : Int32} (rec2 : Nat → Int32 → Int32 → Wd → Option (Unit × Wd)) (rec : Nat → Int32 → Int32 → Int32 → Int32 → Int32 → Int32 → Int32 → Int32 → Wd → Option (Unit × Wd)) : f_X12_layStreet_136 rec2 rec 95 nI' kI (nI i) (nI j) (nI 0) v6 v7 v8 w = f_X12_layStreet_185 rec2 rec 95 nI' kI (nI i) (nI j) (nI 0) v6 v7 v8 w := by
  rw [f_X12_layStreet_136, if_pos (by decide)]
theorem s185 (E : ME w S) (I : Iv S K) {i j m : Nat} {A B : Nat → Int32} {v5 v7 v8 x u nI' kI : Int32} (hi : i < nn S) (hj : j < nn S) (hm : m < 4096) (rec2 : Nat → Int32 → Int32 → Wd → Option (Unit × Wd)) (rec : Nat → Int32 → Int32 → Int32 → Int32 → Int32 → Int32 → Int32 → Int32 → Wd → Option (Unit × Wd)) : f_X12_layStreet_185 rec2 rec 95 nI' kI (nI i) (nI j) v5 (nI (m + 1)) v7 v8 (W2 w A B (6 * i + j) x u) = rec 95 nI' kI (nI i) (nI j) v5 (nI m) (v7 + dlI i j) (v8 + 1) (W2 w A B (6 * i + j) x (u + feI S j v8)) := by
  have hN := I.n.2
  have E' : ME (W2 w A B (6 * i + j) x u) S := W2_E E
  have M' := E'.1
  have l1 : wI (W2 w A B (6 * i + j) x u) 106 = upd B (6 * i + j) u := by unfold W2; rw [cW_s]
  have l2 : ∀ z : Int32, cW (W2 w A B (6 * i + j) x u) 106 (upd (upd B (6 * i + j) u) (6 * i + j) z) = W2 w A B (6 * i + j) x z := fun z => by unfold W2; rw [upd_2, cW_cW]
  rw [f_X12_layStreet_185, if_neg (nI_nle (by omega) (by omega)), M'.rf 95 12 20 106 (by decide) (by decide), i6, M'.ld 106 36 (by decide) (by decide) (by omega) (by decide), mc_t M', mFe_eq E' I hj, cal_t, ms_st M' 106 36 (by decide) (by decide) (by omega) (by decide), l1, pk_us, l2]
  unfold dlI
  by_cases e : i = j
  · rw [if_pos (by rw [e]), if_pos e, f_X12_layStreet_229, nm_t, pk_m1]; rfl
  · rw [if_neg (fun q => e ((nI_eq (by omega) (by omega)).mp q)), if_neg e, f_X12_layStreet_229, nm_t, pk_m1]; rfl
theorem s185z {i j : Nat} {v5 v7 v8 nI' kI : Int32} (rec2 : Nat → Int32 → Int32 → Wd → Option (Unit × Wd)) (rec : Nat → Int32 → Int32 → Int32 → Int32 → Int32 → Int32 → Int32 → Int32 → Wd → Option (Unit × Wd)) : f_X12_layStreet_185 rec2 rec 95 nI' kI (nI i) (nI j) v5 (nI 0) v7 v8 w = rec 95 nI' kI (nI i) (nI j) v5 (nI 0) v7 v8 w := by
  rw [f_X12_layStreet_185, if_pos (by decide)]
/-- both grind the same -/
theorem sSame (E : ME w S) (I : Iv S K) {i m q : Nat} {A B : Nat → Int32} {nI' : Int32} (hi : i < nn S) (hm : m < 4095) (rec2 : Nat → Int32 → Int32 → Wd → Option (Unit × Wd)) : f_X12_layStreet_126 rec2 4096 95 nI' (nI q) (nI i) (nI i) (nI m) (nI m) (S (6 + i)) (S (6 + i)) (W2 w A B (6 * i + i) 0 0) = rec2 95 nI' (nI (q + 1)) (W2 w A B (6 * i + i) (foI S i m) (soI S i m)) := by
  have hN := I.n.2
  have z : S (6 + i) = S (6 + i) + nI (2 * 0) := (Int32.add_zero _).symm
  refine (congrArg (fun a => f_X12_layStreet_126 rec2 4096 95 nI' (nI q) (nI i) (nI i) (nI m) (nI m) a a (W2 w A B (6 * i + i) 0 0)) z).trans ?_
  refine lpE (n := m) (F := fun f t => f_X12_layStreet_126 rec2 f 95 nI' (nI q) (nI i) (nI i) (nI (m - t)) (nI (m - t)) (S (6 + i) + nI (2 * t)) (S (6 + i) + nI (2 * t)) (W2 w A B (6 * i + i) (foI S i t) (soI S i t))) (fun f t ht => ?_) (fun f => ?_) 4096 (by omega)
  · show f_X12_layStreet_126 _ (f + 1) _ _ _ _ _ _ _ _ _ _ = f_X12_layStreet_126 rec2 f 95 nI' (nI q) (nI i) (nI i) (nI (m - (t + 1))) (nI (m - (t + 1))) (S (6 + i) + nI (2 * (t + 1))) (S (6 + i) + nI (2 * (t + 1))) (W2 w A B (6 * i + i) (foI S i t + feI S i (S (6 + i) + nI (2 * t))) (soI S i t + feI S i (S (6 + i) + nI (2 * t) + 1)))
    obtain ⟨c, ec⟩ : ∃ c, m - t = c + 1 := ⟨m - t - 1, by omega⟩
    have e2 : S (6 + i) + nI (2 * t) + 1 + 1 = S (6 + i) + nI (2 * (t + 1)) := by
      rw [Int32.add_assoc, Int32.add_assoc]
      congr 1
      rw [show (1 : Int32) + 1 = nI 2 from rfl, nI_add]
      rfl
    have d1 : dlI i i = 1 := by unfold dlI; rw [if_pos rfl]
    rw [f_X12_layStreet_126, ec, if_pos (show (0 : Int32) < nI (c + 1) from nI_lt (a := 0) (by omega) (by omega)), s136 E I hi hi (by omega), s185 E I hi hi (by omega), d1, e2, show m - (t + 1) = c by omega]
  · show f_X12_layStreet_126 _ (f + 1) _ _ _ _ _ _ _ _ _ _ = _
    rw [f_X12_layStreet_126, Nat.sub_self, if_neg (by decide), if_pos (by decide), nI_1]
/-- each grinds its own -/
theorem sOwn (E : ME w S) (I : Iv S K) {i j a b q : Nat} {A B : Nat → Int32} {nI' : Int32} (hi : i < nn S) (hj : j < nn S) (hij : i ≠ j) (ha : a < 2000) (hb : b < 2000) (rec2 : Nat → Int32 → Int32 → Wd → Option (Unit × Wd)) : f_X12_layStreet_126 rec2 4096 95 nI' (nI q) (nI i) (nI j) (nI a) (nI b) (S (6 + i)) (S (6 + j)) (W2 w A B (6 * i + j) 0 0) = rec2 95 nI' (nI (q + 1)) (W2 w A B (6 * i + j) (brI S i a) (brI S j b)) := by
  have hN := I.n.2
  have d0 : dlI i j = 0 := by unfold dlI; rw [if_neg hij]
  have z : ∀ g c, S (6 + g) = S (6 + g) + nI (min 0 c) := fun g c => by rw [Nat.zero_min]; exact (Int32.add_zero _).symm
  have e0 : ∀ g c, (0 : Int32) = brI S g (min 0 c) := fun g c => by rw [Nat.zero_min]; rfl
  have st : f_X12_layStreet_126 rec2 4096 95 nI' (nI q) (nI i) (nI j) (nI a) (nI b) (S (6 + i)) (S (6 + j)) (W2 w A B (6 * i + j) 0 0) = f_X12_layStreet_126 rec2 4096 95 nI' (nI q) (nI i) (nI j) (nI (a - 0)) (nI (b - 0)) (S (6 + i) + nI (min 0 a)) (S (6 + j) + nI (min 0 b)) (W2 w A B (6 * i + j) (brI S i (min 0 a)) (brI S j (min 0 b))) := by
    rw [← z, ← z, ← e0, ← e0, Nat.sub_zero, Nat.sub_zero]
  rw [st]
  have n1 : ∀ c t, t < c → ∃ d, c - t = d + 1 ∧ c - (t + 1) = d ∧ min t c = t ∧ min (t + 1) c = t + 1 := fun c t h => ⟨c - t - 1, by omega, by omega, by omega, by omega⟩
  have n2 : ∀ c t, c ≤ t → c - t = 0 ∧ c - (t + 1) = 0 ∧ min t c = c ∧ min (t + 1) c = c := fun c t h => ⟨by omega, by omega, by omega, by omega⟩
  have up : ∀ (s : Int32) (t : Nat), s + nI t + 1 = s + nI (t + 1) := fun s t => by rw [Int32.add_assoc, nI_1]
  refine lpE (n := max a b) (F := fun f t => f_X12_layStreet_126 rec2 f 95 nI' (nI q) (nI i) (nI j) (nI (a - t)) (nI (b - t)) (S (6 + i) + nI (min t a)) (S (6 + j) + nI (min t b)) (W2 w A B (6 * i + j) (brI S i (min t a)) (brI S j (min t b)))) (fun f t ht => ?_) (fun f => ?_) 4096 (by omega)
  · show f_X12_layStreet_126 _ (f + 1) _ _ _ _ _ _ _ _ _ _ = f_X12_layStreet_126 rec2 f 95 nI' (nI q) (nI i) (nI j) (nI (a - (t + 1))) (nI (b - (t + 1))) (S (6 + i) + nI (min (t + 1) a)) (S (6 + j) + nI (min (t + 1) b)) (W2 w A B (6 * i + j) (brI S i (min (t + 1) a)) (brI S j (min (t + 1) b)))
    have br : ∀ g c, brI S g c + feI S g (S (6 + g) + nI c) = brI S g (c + 1) := fun g c => rfl
    have go : f_X12_layStreet_126 rec2 (f + 1) 95 nI' (nI q) (nI i) (nI j) (nI (a - t)) (nI (b - t)) (S (6 + i) + nI (min t a)) (S (6 + j) + nI (min t b)) (W2 w A B (6 * i + j) (brI S i (min t a)) (brI S j (min t b))) = f_X12_layStreet_136 rec2 (f_X12_layStreet_126 rec2 f) 95 nI' (nI q) (nI i) (nI j) (nI (a - t)) (nI (b - t)) (S (6 + i) + nI (min t a)) (S (6 + j) + nI (min t b)) (W2 w A B (6 * i + j) (brI S i (min t a)) (brI S j (min t b))) := by
      rw [f_X12_layStreet_126]
      by_cases c : t < a
      · rw [if_pos (show (0 : Int32) < nI (a - t) from nI_lt (a := 0) (by omega) (by omega))]
      · rw [if_neg (show ¬ (0 : Int32) < nI (a - t) from nI_nlt (b := a - t) (a := 0) (by omega) (by omega)), if_neg (nI_nle (by omega) (by omega))]
    rw [go]
    by_cases c1 : t < a
    · obtain ⟨d, x1, x2, x3, x4⟩ := n1 a t c1
      rw [x1, x2, x3, x4, s136 E I hi hj (by omega), d0, Int32.add_zero, up, br]
      by_cases c2 : t < b
      · obtain ⟨d', y1, y2, y3, y4⟩ := n1 b t c2
        rw [y1, y2, y3, y4, s185 E I hi hj (by omega), d0, Int32.add_zero, up, br]
      · obtain ⟨y1, y2, y3, y4⟩ := n2 b t (by omega)
        rw [y1, y2, y3, y4, s185z]
    · obtain ⟨x1, x2, x3, x4⟩ := n2 a t (by omega)
      obtain ⟨d', y1, y2, y3, y4⟩ := n1 b t (by omega)
      rw [x1, x2, x3, x4, s136z, y1, y2, y3, y4, s185 E I hi hj (by omega), d0, Int32.add_zero, up, br]
  · show f_X12_layStreet_126 _ (f + 1) _ _ _ _ _ _ _ _ _ _ = _
    obtain ⟨x1, x2, x3, x4⟩ := n2 a (max a b) (by omega)
    obtain ⟨y1, y2, y3, y4⟩ := n2 b (max a b) (by omega)
    rw [f_X12_layStreet_126, x1, y1, x3, y3, if_neg (by decide), if_pos (by decide), nI_1]
def LsOk (S : Nat → Int32) (n N : Nat) (A B : Nat → Int32) (c : Nat) : Prop := ∀ q, q < c → A (6 * (q / N) + q % N) = fMI S n (q / N) (q % N) ∧ B (6 * (q / N) + q % N) = sMI S n (q / N) (q % N)
theorem cW_2 {w : Wd} {A A' B B' : Nat → Int32} : cW (cW (cW (cW w 105 A) 106 B) 105 A') 106 B' = cW (cW w 105 A') 106 B' := by rw [cW_in (by decide), cW_in (by decide)]
theorem ls_lp (E : ME w S) (I : Iv S K) {n : Nat} (hn : n ≤ 9) : ∀ (d q fuel : Nat) (A B : Nat → Int32), q + d = nn S * nn S → d < fuel → LsOk S n (nn S) A B q → ∃ A' B', f_X12_layStreet_2 fuel 95 (nI n) (nI q) (cW (cW w 105 A) 106 B) = some ((), cW (cW w 105 A') 106 B') ∧ LsOk S n (nn S) A' B' (nn S * nn S) := by
  have hN := I.n.2
  have n36 : nn S * nn S ≤ 6 * 6 := Nat.mul_le_mul hN hN
  intro d
  induction d with
  | zero =>
    intro q fuel A B hq hf hL
    obtain ⟨f, rfl⟩ : ∃ f, fuel = f + 1 := ⟨fuel - 1, by omega⟩
    obtain rfl : q = nn S * nn S := by omega
    have E' : ME (cW (cW w 105 A) 106 B) S := W2_E E
    refine ⟨A, B, ?_, hL⟩
    rw [f_X12_layStreet_2, mg_t E'.1, show (19 : Int32) = nI 19 from rfl, rd_t E'.1 (by decide), mg_t E'.1, rd_t E'.1 (by decide), E'.2 19 (by decide), I.n.1, pk_mul, if_pos (nI_le (by omega) (by omega))]
  | succ d ih =>
    intro q fuel A B hq hf hL
    obtain ⟨f, rfl⟩ : ∃ f, fuel = f + 1 := ⟨fuel - 1, by omega⟩
    have E' : ME (cW (cW w 105 A) 106 B) S := W2_E E
    have M' := E'.1
    have N0 : 0 < nn S := by
      rcases Nat.eq_zero_or_pos (nn S) with z | z
      · rw [z] at hq; omega
      · exact z
    have hi : q / nn S < nn S := Nat.div_lt_of_lt_mul (by omega)
    have hj : q % nn S < nn S := Nat.mod_lt _ N0
    generalize ei : q / nn S = i at hi
    generalize ej : q % nn S = j at hj
    have c6 : ∀ g, (6 : Int32) + nI g = nI (6 + g) := fun g => nI_add 6 g
    have yi := (yN_eq I hi).2
    have yj := (yN_eq I hj).2
    have bi : n * yN S i ≤ 9 * 12 := Nat.mul_le_mul hn yi
    have bj : n * yN S j ≤ 9 * 12 := Nat.mul_le_mul hn yj
    have eM : MS (cW (cW (cW w 105 A) 106 B) 105 (upd A (6 * i + j) 0)) := M'.cW
    have l1 : wI (cW (cW w 105 A) 106 B) 105 = A := by rw [cW_o (by decide), cW_s]
    have l2 : wI (cW (cW (cW w 105 A) 106 B) 105 (upd A (6 * i + j) 0)) 106 = B := by rw [cW_o (by decide), cW_s]
    have st : f_X12_layStreet_2 (f + 1) 95 (nI n) (nI q) (cW (cW w 105 A) 106 B) = f_X12_layStreet_126 (f_X12_layStreet_2 f) 4096 95 (nI n) (nI q) (nI i) (nI j) (nI (n * yN S i)) (nI (n * yN S j)) (S (6 + i)) (S (6 + j)) (W2 w A B (6 * i + j) 0 0) := by
      rw [f_X12_layStreet_2, mg_t M', show (19 : Int32) = nI 19 from rfl, rd_t M' (by decide), mg_t M', rd_t M' (by decide), E'.2 19 (by decide), I.n.1, pk_mul, if_neg (nI_ge (by omega) (by omega)), mg_t M', rd_t M' (by decide), E'.2 19 (by decide), I.n.1, nz, if_neg (nI_ne0 N0 (by omega)), nm_t, pk_div (by omega) N0 (by omega), ei, mg_t M', rd_t M' (by decide), E'.2 19 (by decide), I.n.1, nz, if_neg (nI_ne0 N0 (by omega)), nm_t, irm_nat (by omega) N0 (by omega), ej, mg_t M', show (16 : Int32) = nI 16 from rfl, rd_t M' (by decide), mc_t M', mGr_eq E' I hi, cal_t, nm_t, pk_mul, mg_t M', rd_t M' (by decide), mc_t M', mGr_eq E' I hj, cal_t, nm_t, pk_mul, mg_t M', c6, rd_t M' (by omega), mg_t M', c6, rd_t M' (by omega), E'.2 _ (by omega), E'.2 _ (by omega), M'.rf 95 12 19 105 (by decide) (by decide), i6, ms_st M' 105 36 (by decide) (by decide) (by omega) (by decide), l1, eM.rf 95 12 20 106 (by decide) (by decide), ms_st eM 106 36 (by decide) (by decide) (by omega) (by decide), l2, cW_2]
      rfl
    have nx : f_X12_layStreet_126 (f_X12_layStreet_2 f) 4096 95 (nI n) (nI q) (nI i) (nI j) (nI (n * yN S i)) (nI (n * yN S j)) (S (6 + i)) (S (6 + j)) (W2 w A B (6 * i + j) 0 0) = f_X12_layStreet_2 f 95 (nI n) (nI (q + 1)) (W2 w A B (6 * i + j) (fMI S n i j) (sMI S n i j)) := by
      unfold fMI sMI
      by_cases e : i = j
      · subst e
        rw [if_pos rfl, if_pos rfl]
        exact sSame E I hi (by omega) _
      · rw [if_neg e, if_neg e]
        exact sOwn E I hi hj e (by omega) (by omega) _
    obtain ⟨A', B', t1, t2⟩ := ih (q + 1) f (upd A (6 * i + j) (fMI S n i j)) (upd B (6 * i + j) (sMI S n i j)) (by omega) (by omega) (fun q' hq' => by
      by_cases e : q' = q
      · rw [e, ei, ej, pk_us, pk_us]; exact ⟨rfl, rfl⟩
      · have ne : 6 * (q' / nn S) + q' % nn S ≠ 6 * i + j := fun x => by
          have m1 := Nat.mod_lt q' N0
          have e1 : q' / nn S = i := by omega
          have e2 : q' % nn S = j := by omega
          have d1 := Nat.div_add_mod q' (nn S)
          have d2 := Nat.div_add_mod q (nn S)
          rw [e1, e2] at d1
          rw [ei, ej] at d2
          omega
        rw [pk_un ne, pk_un ne]
        exact hL q' (by omega))
    exact ⟨A', B', (st.trans nx).trans t1, t2⟩
theorem layStreet_eq (E : ME w S) (I : Iv S K) {n : Nat} (hn : n ≤ 9) : ∃ A B, f_X12_layStreet 95 (nI n) w = some ((), cW (cW w 105 A) 106 B) ∧ ∀ i j, i < nn S → j < nn S → A (6 * i + j) = fMI S n i j ∧ B (6 * i + j) = sMI S n i j := by
  have hN := I.n.2
  have n36 : nn S * nn S ≤ 6 * 6 := Nat.mul_le_mul hN hN
  obtain ⟨A, B, t1, t2⟩ := ls_lp E I hn (nn S * nn S) 0 4096 (wI w 105) (wI (cW w 105 (wI w 105)) 106) (by omega) (by omega) (fun q hq => absurd hq (by omega))
  refine ⟨A, B, ?_, fun i j hi hj => ?_⟩
  · rw [cW_id, cW_id] at t1
    unfold f_X12_layStreet
    exact t1
  · have h1 : (nn S * i + j) / nn S = i := by rw [Nat.mul_add_div (by omega), Nat.div_eq_of_lt hj, Nat.add_zero]
    have h2 : (nn S * i + j) % nn S = j := by rw [Nat.mul_add_mod, Nat.mod_eq_of_lt hj]
    have h3 : nn S * i + j < nn S * nn S := by
      have : nn S * (i + 1) ≤ nn S * nn S := Nat.mul_le_mul_left _ hi
      rw [Nat.mul_add] at this
      omega
    have := t2 (nn S * i + j) h3
    rw [h1, h2] at this
    exact this
theorem rests_eq (E : ME w S) (I : Iv S K) {n i j : Nat} (hi : i < nn S) (hj : j < nn S) (hL : ∀ i j, i < nn S → j < nn S → wI w 105 (6 * i + j) = fMI S n i j ∧ wI w 106 (6 * i + j) = sMI S n i j) : f_X12_rests 95 (nI i) (nI j) w = some (b2 (rsN S n i j (nn S)), w) := by
  have hN := I.n.2
  have M := E.1
  unfold f_X12_rests
  refine lpE (n := nn S) (F := fun f o => f_X12_rests_5 f 95 (nI i) (nI j) (b2 (rsN S n i j o)) (nI o) w) (fun f o ho => ?_) (fun f => ?_) 4096 (by omega)
  · show f_X12_rests_5 (f + 1) _ _ _ _ _ _ = f_X12_rests_5 f 95 (nI i) (nI j) (b2 (rsN S n i j (o + 1))) (nI (o + 1)) w
    rw [f_X12_rests_5, mg_t M, show (19 : Int32) = nI 19 from rfl, rd_t M (by decide), E.2 19 (by decide), I.n.1, if_neg (nI_ge ho (by omega)), rsN_s]
    cases hb : rsN S n i j o with
    | false => rw [b2_0, if_pos rfl, f_X12_rests_77, f_X12_rests_78, Bool.false_and, nI_1]; rfl
    | true =>
      rw [b2_1, if_neg (by decide), M.rf 95 12 19 105 (by decide) (by decide), i6, M.ld 105 36 (by decide) (by decide) (by omega) (by decide), (hL o j ho hj).1, M.rf 95 12 19 105 (by decide) (by decide), i6, M.ld 105 36 (by decide) (by decide) (by omega) (by decide), (hL i j hi hj).1, Bool.true_and]
      by_cases c1 : fMI S n i j < fMI S n o j
      · rw [if_pos c1, show rsP S n i j o = false from decide_eq_false (fun q => Int32.not_le.mpr c1 q.1), f_X12_rests_77, f_X12_rests_78, nI_1]; rfl
      · rw [if_neg c1, M.rf 95 12 20 106 (by decide) (by decide), i6, M.ld 106 36 (by decide) (by decide) (by omega) (by decide), (hL i o hi ho).2, M.rf 95 12 20 106 (by decide) (by decide), M.ld 106 36 (by decide) (by decide) (by omega) (by decide), (hL i j hi hj).2]
        by_cases c2 : sMI S n i j < sMI S n i o
        · rw [if_pos c2, show rsP S n i j o = false from decide_eq_false (fun q => Int32.not_le.mpr c2 q.2), f_X12_rests_77, f_X12_rests_78, nI_1]; rfl
        · rw [if_neg c2, show rsP S n i j o = true from decide_eq_true ⟨Int32.not_lt.mp c1, Int32.not_lt.mp c2⟩, f_X12_rests_78, nI_1]; rfl
  · show f_X12_rests_5 (f + 1) _ _ _ _ _ _ = _
    rw [f_X12_rests_5, mg_t M, show (19 : Int32) = nI 19 from rfl, rd_t M (by decide), E.2 19 (by decide), I.n.1, if_pos (nI_le (by omega) (by omega))]
    cases rsN S n i j (nn S)
    · exact rZ0
    · exact rZ1
theorem mPairs_in (E : ME w S) (I : Iv S K) {n i : Nat} {k : Int32} {cont : Int32 → Int32} (hi : i < nn S) (hL : ∀ i j, i < nn S → j < nn S → wI w 105 (6 * i + j) = fMI S n i j ∧ wI w 106 (6 * i + j) = sMI S n i j) (rec : Nat → Int32 → Int32 → Int32 → Wd → Option (Int32 × Wd)) (hr : ∀ f, rec 95 k f (nI (i + 1)) w = some (cont f, w)) : ∀ (d j fuel : Nat) (f : Int32), j + d = nn S → d < fuel → f_X12_street_45 rec fuel 95 k f (nI i) (nI j) w = some (stJ (fun a b => rsN S n a b (nn S)) k i cont d j f, w) := by
  have hN := I.n.2
  have M := E.1
  intro d
  induction d with
  | zero =>
    intro j fuel f hj hf
    obtain ⟨f', rfl⟩ : ∃ f, fuel = f + 1 := ⟨fuel - 1, by omega⟩
    rw [f_X12_street_45, mg_t M, show (19 : Int32) = nI 19 from rfl, rd_t M (by decide), E.2 19 (by decide), I.n.1, if_pos (nI_le (by omega) (by omega)), nI_1, hr, stJ]
  | succ d ih =>
    intro j fuel f hj hf
    obtain ⟨f', rfl⟩ : ∃ f, fuel = f + 1 := ⟨fuel - 1, by omega⟩
    rw [f_X12_street_45, mg_t M, show (19 : Int32) = nI 19 from rfl, rd_t M (by decide), E.2 19 (by decide), I.n.1, if_neg (nI_ge (by omega) (by omega)), mc_t M, rests_eq E I hi (by omega) hL, cal_t, stJ]
    cases hb : rsN S n i j (nn S) with
    | false => rw [b2_0, if_pos rfl, if_neg (by decide), f_X12_street_85, nI_1]; exact ih (j + 1) f' f (by omega) (by omega)
    | true =>
      rw [b2_1, if_neg (by decide), if_pos rfl]
      by_cases c : f = k
      · rw [if_pos c, if_pos c, i6]
      · rw [if_neg c, if_neg c, f_X12_street_85, nI_1]
        exact ih (j + 1) f' (f + 1) (by omega) (by omega)
theorem mPairs_out (E : ME w S) (I : Iv S K) {n : Nat} {k : Int32} (hL : ∀ i j, i < nn S → j < nn S → wI w 105 (6 * i + j) = fMI S n i j ∧ wI w 106 (6 * i + j) = sMI S n i j) : ∀ (d i fuel : Nat) (f : Int32), i + d = nn S → d < fuel → f_X12_street_30 fuel 95 k f (nI i) w = some (stI (fun a b => rsN S n a b (nn S)) k (nn S) d i f, w) := by
  have hN := I.n.2
  have M := E.1
  intro d
  induction d with
  | zero =>
    intro i fuel f hi hf
    obtain ⟨f', rfl⟩ : ∃ f, fuel = f + 1 := ⟨fuel - 1, by omega⟩
    rw [f_X12_street_30, mg_t M, show (19 : Int32) = nI 19 from rfl, rd_t M (by decide), E.2 19 (by decide), I.n.1, if_pos (nI_le (by omega) (by omega)), stI]
    by_cases c : k = -1
    · rw [if_pos c, if_pos c, f_X12_street_108]
    · rw [if_neg c, if_neg c, f_X12_street_108]
  | succ d ih =>
    intro i fuel f hi hf
    obtain ⟨f', rfl⟩ : ∃ f, fuel = f + 1 := ⟨fuel - 1, by omega⟩
    rw [f_X12_street_30, mg_t M, show (19 : Int32) = nI 19 from rfl, rd_t M (by decide), E.2 19 (by decide), I.n.1, if_neg (nI_ge (by omega) (by omega)), stI]
    exact mPairs_in E I (by omega) hL (f_X12_street_30 f') (fun f => ih (i + 1) f' f (by omega) (by omega)) (nn S) 0 4096 f (by omega) (by omega)
theorem p_street (V : Inv w K) (x y : Int32) : Pr w (K + 60) (f_X11_street 0 x y) (f_X12_street 95 x y) := by
  have M := V.ms
  obtain ⟨⟨h0, h1, s, r⟩, I, R⟩ := id V
  have hN := I.n.2
  have bad : (f_X11_street_15 0 w = some (-10, cW w 94 (rfT 0 (wI w 94)))) := by
    unfold f_X11_street_15
    rw [cc_t M, cRefA M, cal_t]
  have bad2 : ∀ w', MS w' → (f_X12_street_15 95 w' = some (-10, cW w' 98 (rfT 0 (wI w' 98)))) := fun w' M' => by
    unfold f_X12_street_15
    rw [mc_t M', mBadTen M', cal_t]
  by_cases hx : 1 ≤ x ∧ x ≤ 9
  · by_cases hy : (-1 : Int32) ≤ y
    · obtain ⟨n, hn1, hn, rfl⟩ := rng1 1 9 hx (by decide) (by decide)
      obtain ⟨w1, q1, e1⟩ := restingPairs_eq M s.ho r I (by have := s.hh; omega) hn y
      have M1 : MS w1 := M.to q1.1
      have E1 : ME w1 (wI w 96) := ⟨M1, fun j hj => q1.2.2.2.2.2 j (by omega)⟩
      obtain ⟨A, B, t1, t2⟩ := layStreet_eq E1 I hn
      have q2 : Qt w1 (cW (cW w1 105 A) 106 B) := (Qt.c (by omega)).tr (Qt.c (by omega))
      refine Pr.qt V (r := stI (fun a b => rsN (wI w 96) n a b (nn (wI w 96))) y (nn (wI w 96)) (nn (wI w 96)) 0 0) ?_ q1 ?_ q2
      · unfold f_X11_street
        rw [within_eq, if_pos hx, cal_t, if_neg (by decide), if_pos hy, M.rf 0 11 3 72 (by decide) (by decide), ng_t s, M.cv 72 7 (by decide), e1, cal_t]
      · unfold f_X12_street
        rw [in_eq, if_pos hx, cal_t, if_neg (by decide), if_pos hy, mc_t M1, t1, cal_t]
        exact mPairs_out (W2_E E1) I (fun i j hi hj => by rw [cW_o (show (105 : Nat) ≠ 106 by decide), cW_s, cW_s]; exact t2 i j hi hj) (nn (wI w 96)) 0 4096 0 (by omega) (by omega)
    · refine Pr.rfj (r := -10) V 0 (by decide) ?_ ?_
      · unfold f_X11_street
        rw [within_eq, if_pos hx, cal_t, if_neg (by decide), if_neg hy, bad]
      · unfold f_X12_street
        rw [in_eq, if_pos hx, cal_t, if_neg (by decide), if_neg hy, bad2 _ M.cW]
  · refine Pr.rfj (r := -10) V 0 (by decide) ?_ ?_
    · unfold f_X11_street
      rw [within_eq, if_neg hx, cal_t, if_pos rfl, bad]
    · unfold f_X12_street
      rw [in_eq, if_neg hx, cal_t, if_pos rfl, bad2 _ M.cW]
end T3
