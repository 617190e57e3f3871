/-! words that fit -/
theorem ff_all_t {β : Type} {P : Nat → Prop} [∀ i, Decidable (P i)] {a b : β} : ∀ (d i : Nat), (∀ j, i ≤ j → j < i + d → P j) → ff (fun i => ¬ P i) (fun _ => a) b d i = b
  | 0, _, _ => rfl
  | d + 1, i, h => by
    rw [ff, if_neg (fun q => q (h i (by omega) (by omega)))]
    exact ff_all_t d (i + 1) (fun j h1 h2 => h j (by omega) (by omega))
theorem ff_all_f {β : Type} {P : Nat → Prop} [∀ i, Decidable (P i)] {a b : β} : ∀ (d i : Nat), (¬ ∀ j, i ≤ j → j < i + d → P j) → ff (fun i => ¬ P i) (fun _ => a) b d i = a
  | 0, i, h => absurd (fun j h1 h2 => absurd h2 (by omega)) h
  | d + 1, i, h => by
    rw [ff]
    by_cases hp : P i
    · rw [if_neg (fun q => q hp)]
      refine ff_all_f d (i + 1) (fun q => h (fun j h1 h2 => ?_))
      by_cases e : j = i
      · rw [e]; exact hp
      · exact q j (by omega) (by omega)
    · rw [if_pos hp]
def fitN (S : Nat → Int32) (x : Int32) (n : Nat) : Bool := decide (∀ i, i < n → alS x (S (39 + 2 * i)) 5 = S (40 + 2 * i))
def fitB (S : Nat → Int32) (x : Int32) : Bool := fitN S x (gn S)
def b2 (b : Bool) : Int32 := if b then 1 else 0
theorem fitN_s {S : Nat → Int32} {x : Int32} {n : Nat} : fitN S x (n + 1) = (fitN S x n && decide (alS x (S (39 + 2 * n)) 5 = S (40 + 2 * n))) := by
  unfold fitN
  rw [← Bool.decide_and]
  apply decide_eq_decide.mpr
  constructor
  · intro h
    exact ⟨fun i hi => h i (by omega), h n (by omega)⟩
  · rintro ⟨h1, h2⟩ i hi
    by_cases e : i = n
    · rw [e]; exact h2
    · exact h1 i (by omega)
theorem b2_0 : b2 false = 0 := rfl
theorem b2_1 : b2 true = 1 := rfl
theorem b2_z {b : Bool} : (b2 b = 0) ↔ b = false := by cases b <;> decide
section R4
variable {w w' : Wd} {h k K K2 : Nat} {S T : Nat → Int32}
theorem wordFits_row (H : HS w h) (R : HR (wI w) h S) (I : Iv S K) {x : Nat} (hx : x < 32) : f_X0_wordFits (h + 3) (nI x) w = some (b2 (fitB S (nI x)), w) := by
  obtain ⟨q1, q2, q3, q4⟩ := R.2.2.1
  have g6 := I.2.1.2
  have m6 : wI w (h + 3) 6 = nI (gn S) := by rw [q1]; exact I.2.1.1
  have e : f_X0_wordFits (h + 3) (nI x) w = ff (fun i => ¬ alS (nI x) (S (39 + 2 * i)) 5 = S (40 + 2 * i)) (fun _ => some ((0 : Int32), w)) (some ((1 : Int32), w)) (gn S) 0 := by
    unfold f_X0_wordFits
    refine lpF (n := gn S) (F := fun f i => f_X0_wordFits_2 f (h + 3) (nI x) (nI i) w) (fun f i hi => ?_) (fun f => ?_) 4096 (by omega)
    · show f_X0_wordFits_2 (f + 1) _ _ _ _ = _
      obtain ⟨y, a, hy, ha, ey, ea⟩ := I.2.2.2.2.2.2.2.2.2 i hi
      rw [f_X0_wordFits_2, gI_t H.o3, m6, if_neg (nI_ge (by omega) (by omega)), gR_t H.o3, H.c1, Option.bind_some, lI_t H.o4 (inb_of H.n4 (by omega) (by decide)), nI_clamp (by omega), (q3 i hi).1, ey, likeW hx (by omega), cal_t, gR_t H.o3, H.c2, Option.bind_some, lI_t H.o5 (inb_of H.n5 (by omega) (by decide)), nI_clamp (by omega), (q3 i hi).2, nI_1]
      by_cases hc : alS (nI x) (nI y) 5 = S (40 + 2 * i)
      · rw [if_pos hc, if_neg (fun q => q hc)]
      · rw [if_neg hc, if_pos hc, rZ0]
    · show f_X0_wordFits_2 (f + 1) _ _ _ _ = _
      rw [f_X0_wordFits_2, gI_t H.o3, m6, if_pos (nI_le (by omega) (by omega)), rZ1]
  rw [e]
  unfold fitB fitN b2
  by_cases hf : ∀ i, i < gn S → alS (nI x) (S (39 + 2 * i)) 5 = S (40 + 2 * i)
  · rw [ff_all_t (gn S) 0 (fun j h1 h2 => hf j (by omega)), decide_eq_true hf]; rfl
  · rw [ff_all_f (gn S) 0 (fun q => hf (fun i hi => q i (by omega) (by omega))), decide_eq_false hf]; rfl
theorem mayBe_eq (M : MS w) (I : Iv (wI w 96) K) (x : Int32) : f_X12_mayBe 95 x w = some (b2 (fitB (wI w 96) x), w) := by
  have g6 := I.2.1.2
  unfold f_X12_mayBe
  refine lpE (n := gn (wI w 96)) (F := fun f i => f_X12_mayBe_4 f 95 x (b2 (fitN (wI w 96) x i)) (nI i) w) (fun f i hi => ?_) (fun f => ?_) 4096 (by omega)
  · show f_X12_mayBe_4 (f + 1) _ _ _ _ _ = _
    have e1 : (39 : Int32) + 2 * nI i = nI (39 + 2 * i) := by rw [show (39 : Int32) = nI 39 from rfl, show (2 : Int32) = nI 2 from rfl, pk_mul, nI_add]
    have e2 : nI (39 + 2 * i) + 1 = nI (40 + 2 * i) := by rw [nI_1]; congr 1; omega
    rw [f_X12_mayBe_4, mg_t M, show (38 : Int32) = nI 38 from rfl, rd_t M (by decide), I.2.1.1, if_neg (nI_ge (by omega) (by omega)), fitN_s]
    cases hb : fitN (wI w 96) x i with
    | false => rw [b2_0, if_pos rfl, f_X12_mayBe_54, f_X12_mayBe_55, Bool.false_and, nI_1]; rfl
    | true =>
      rw [b2_1, if_neg (by decide), mg_t M, e1, rd_t M (by omega), alike_eq, cal_t, mg_t M, e2, rd_t M (by omega), Bool.true_and]
      by_cases hc : alS x (wI w 96 (39 + 2 * i)) 5 = wI w 96 (40 + 2 * i)
      · rw [if_pos hc, decide_eq_true hc, f_X12_mayBe_55, nI_1]; rfl
      · rw [if_neg hc, decide_eq_false hc, f_X12_mayBe_54, f_X12_mayBe_55, nI_1]; rfl
  · show f_X12_mayBe_4 (f + 1) _ _ _ _ _ = _
    rw [f_X12_mayBe_4, mg_t M, show (38 : Int32) = nI 38 from rfl, rd_t M (by decide), I.2.1.1, if_pos (nI_le (by omega) (by omega))]
    unfold fitB
    cases fitN (wI w 96) x (gn (wI w 96))
    · exact rZ0
    · exact rZ1
def mskW (S : Nat → Int32) : Nat := mskN (fun j => fitB S (nI j) = true) 32
theorem mskW_lt : mskW S < 2 ^ 32 := mskN_lt _ 32
theorem mskW_bit {j : Nat} (hj : j < 32) : (mskW S).testBit j = fitB S (nI j) := by
  unfold mskW
  rw [mskN_bit]
  cases fitB S (nI j) <;> simp [hj]
theorem fittingWords_row (H : HS w h) (R : HR (wI w) h S) (I : Iv S K) : f_X0_fittingWords (h + 3) w = some (nI (mskW S), w) := by
  unfold f_X0_fittingWords
  refine lpE (n := 32) (F := fun f i => f_X0_fittingWords_4 f (h + 3) (nI (mskN (fun j => fitB S (nI j) = true) i)) (nI i) w) (fun f i hi => ?_) (fun f => ?_) 4096 (by omega)
  · show f_X0_fittingWords_4 (f + 1) _ _ _ _ = _
    rw [f_X0_fittingWords_4, if_neg (show ¬ (32 : Int32) ≤ nI i from nI_ge (b := 32) hi (by decide)), calV_t H.o3, wordFits_row H R I hi, cal_t, mskN]
    by_cases hb : fitB S (nI i) = true
    · rw [hb, b2_1, if_neg (by decide), nm_t, msk_or hi, f_X0_fittingWords_24, nI_1, if_pos rfl]
    · rw [if_neg hb, Bool.not_eq_true _ |>.mp hb, b2_0, if_pos rfl, f_X0_fittingWords_24, nI_1]
  · show f_X0_fittingWords_4 (f + 1) _ _ _ _ = _
    rw [f_X0_fittingWords_4, if_pos (show (32 : Int32) ≤ nI 32 by decide)]
    rfl
theorem cb_cong {f g : Nat → Bool} : ∀ {n : Nat}, (∀ j, j < n → f j = g j) → cb f n = cb g n
  | 0, _ => rfl
  | n + 1, h => by rw [cb, cb, cb_cong (fun j hj => h j (by omega)), h n (by omega)]
theorem cb_rev (f : Nat → Bool) : cb (fun t => f (31 - t)) 32 = cb f 32 := by
  simp only [cb, Nat.reduceSub]
  omega
theorem leastIn_eq : f_X11_leastIn (nI (mskW S)) w = some (ff (fun j => fitB S (nI j) = true) (fun j => nI j) (-1) 32 0, w) := by
  unfold f_X11_leastIn
  refine (lpF (n := 32) (c := fun j => fitB S (nI j) = true) (r := fun j => some (nI j, w)) (z := some ((-1 : Int32), w)) (F := fun f i => f_X11_leastIn_2 f (nI (mskW S)) (nI i) w) (fun f i hi => ?_) (fun f => ?_) 4096 (by omega)).trans (ff_map (fun a => some (a, w)) 32 0)
  · show f_X11_leastIn_2 (f + 1) _ _ _ = _
    rw [f_X11_leastIn_2, if_neg (show ¬ (32 : Int32) ≤ nI i from nI_ge (b := 32) hi (by decide)), nI_1]
    by_cases hb : fitB S (nI i) = true
    · rw [if_pos hb, if_pos ((bit_eq mskW_lt hi).mpr (by rw [mskW_bit hi]; exact hb))]
    · rw [if_neg hb, if_neg (fun q => hb (by rw [← mskW_bit hi]; exact (bit_eq mskW_lt hi).mp q))]
  · show f_X11_leastIn_2 (f + 1) _ _ _ = _
    rw [f_X11_leastIn_2, if_pos (show (32 : Int32) ≤ nI 32 by decide)]
theorem mWords_eq (M : MS w) (I : Iv (wI w 96) K) (x : Int32) : f_X12_words_24 4096 95 x 0 (-1) 31 w = some (if x = 0 then nI (cb (fun j => fitB (wI w 96) (nI j)) 32) else ff (fun j => fitB (wI w 96) (nI j) = true) (fun j => nI j) (-1) 32 0, w) := by
  have key : ∀ t, t ≤ 32 → ∀ fuel, 32 - t < fuel → f_X12_words_24 fuel 95 x (nI (cb (fun t => fitB (wI w 96) (nI (31 - t))) t)) (ff (fun j => fitB (wI w 96) (nI j) = true) (fun j => nI j) (-1) t (32 - t)) (nI (32 - t) - 1) w = some (if x = 0 then nI (cb (fun j => fitB (wI w 96) (nI j)) 32) else ff (fun j => fitB (wI w 96) (nI j) = true) (fun j => nI j) (-1) 32 0, w) := by
    intro t ht
    generalize hd : 32 - t = d
    induction d generalizing t with
    | zero =>
      intro fuel hf
      obtain ⟨f, rfl⟩ : ∃ f, fuel = f + 1 := ⟨fuel - 1, by omega⟩
      have e : t = 32 := by omega
      subst e
      rw [f_X12_words_24, if_pos (by decide), cb_rev (fun j => fitB (wI w 96) (nI j))]
      by_cases hx : x = 0
      · rw [if_pos hx, if_pos hx]; rfl
      · rw [if_neg hx, if_neg hx]; rfl
    | succ d ih =>
      intro fuel hf
      obtain ⟨f, rfl⟩ : ∃ f, fuel = f + 1 := ⟨fuel - 1, by omega⟩
      have e31 : 31 - t = d := by omega
      have i2 := ih (t + 1) (by omega) (by omega) f (by omega)
      rw [nI_pred, f_X12_words_24, if_neg (nI_pos (by omega)), mc_t M, mayBe_eq M I, cal_t]
      have e5 : nI d + (-1) = nI d - 1 := by rw [Int32.sub_eq_add_neg]
      rw [cb, ff, e31] at i2
      cases hb : fitB (wI w 96) (nI d) with
      | false =>
        rw [hb] at i2
        rw [b2_0, if_pos rfl, f_X12_words_44, nm_t, mc_t M, mayBe_eq M I, cal_t, hb, b2_0, if_pos rfl, f_X12_words_61, e5, Int32.add_zero]
        exact i2
      | true =>
        rw [hb] at i2
        rw [b2_1, if_neg (by decide), f_X12_words_44, nm_t, mc_t M, mayBe_eq M I, cal_t, hb, b2_1, if_neg (by decide), f_X12_words_61, e5, nI_1]
        exact i2
  exact key 0 (by omega) 4096 (by omega)
theorem p_words (V : Inv w K) (x : Int32) : Pr w (K + 60) (f_X11_words 0 x) (f_X12_words 95 x) := by
  have M := V.ms
  by_cases hx : 0 ≤ x ∧ x ≤ 1
  · obtain ⟨⟨h0, h1, s, r⟩, I, R⟩ := id V
    have hw : f_X12_words 95 x w = f_X12_words_24 4096 95 x 0 (-1) 31 w := by
      unfold f_X12_words
      rw [in_eq, if_pos hx, cal_t, if_neg (by decide)]
    refine Pr.qt V (w1 := w) ?_ Qt.rf (w2 := w) (hw.trans (mWords_eq M I x)) Qt.rf
    unfold f_X11_words
    rw [within_eq, if_pos hx, cal_t, if_neg (by decide), ng_t s, hr1_t s, calV_t s.ho.o3, fittingWords_row s.ho r I, cal_t]
    by_cases h0 : x = 0
    · rw [if_pos h0, if_pos h0, bitCount_eq, cal_t, pop_eq mskW_lt, cb_cong (g := fun j => fitB (wI w 96) (nI j)) (fun j hj => mskW_bit hj)]
      rfl
    · rw [if_neg h0, if_neg h0, leastIn_eq, cal_t]
      rfl
  · refine Pr.rfj (r := -2) V 0 (by decide) ?_ ?_
    · unfold f_X11_words
      rw [within_eq, if_neg hx, cal_t, if_pos rfl, cc_t M, cRefB M, cal_t]
    · unfold f_X12_words
      rw [in_eq, if_neg hx, cal_t, if_pos rfl, mc_t M.cW, mRefB M.cW, cal_t]
end R4
