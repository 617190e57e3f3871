/-! the law's loop -/
section V1
variable {w : Wd} {K K2 L i : Nat} {sx : Nat → Int32}
theorem law_i {A B : Wd → Option (Int32 × Wd)} {F : Wd → Option (Int32 × Wd)} (V : Inv w K) (P : Pr w K2 A B) (hB : ∀ w1 q, B w1 = some q → isO w1 95 12 = true) : ∃ w2, Inv w2 K2 ∧ (calV w 0 11 (A w) fun x w1 => calV w1 95 12 (B w1) fun y w2 => if x = y then F w2 else some (0, w2)) = F w2 := by
  obtain ⟨r, w1, w2, a, b, I⟩ := P
  refine ⟨w2, I, ?_⟩
  rw [cc_t V.ms, a, cal_t, calV_t (hB w1 _ b), b, cal_t, if_pos rfl]
theorem law_l {A B : Wd → Option (Int64 × Wd)} {F : Wd → Option (Int32 × Wd)} (V : Inv w K) (P : Pr w K2 A B) (hB : ∀ w1 q, B w1 = some q → isO w1 95 12 = true) : ∃ w2, Inv w2 K2 ∧ (calV w 0 11 (A w) fun x w1 => calV w1 95 12 (B w1) fun y w2 => if (lg_cmp x y) = 0 then F w2 else some (0, w2)) = F w2 := by
  obtain ⟨r, w1, w2, a, b, I⟩ := P
  refine ⟨w2, I, ?_⟩
  rw [cc_t V.ms, a, cal_t, calV_t (hB w1 _ b), b, cal_t, if_pos ((lg_cmp_eq _ _).mpr rfl)]
theorem lS_t {α : Type} {k : Nat} {f : Int32 → Option α} (h : k < L) (hL : L ≤ 320) : lS L sx (nI k) f = f (sx k) := by
  unfold lS
  rw [nI_clamp (by omega), decide_eq_true (nI_pos' (n := k) (by omega)), decide_eq_true h]
  rfl
theorem l_mill (V : Inv w K) (hK : K + 60 < 2 ^ 31) (hi : i + 5 ≤ L) (hL : L ≤ 320) (rec : Nat → Nat → Int32 → Wd → Option (Int32 × Wd)) : ∃ w2, Inv w2 (K + 60) ∧ f_L_188 L sx rec 0 95 (nI i) w = rec 0 95 (nI (i + 5)) w2 := by
  obtain ⟨w2, I, e⟩ := law_i (F := fun w2 => rec 0 95 (nI i + 5) w2) V (p_mill V (sx (i + 1))) (fun w1 q h => o_mill h)
  refine ⟨w2, I, ?_⟩
  unfold f_L_188
  simp only [f_L_1095]
  simp only [show nI i + 1 = nI (i + 1) from nI_add i 1]
  simp only [lS_t (sx := sx) (show i + 1 < L by omega) hL]
  rw [show nI (i + 5) = nI i + 5 from (nI_add i 5).symm]
  exact e
theorem l_goods (V : Inv w K) (hK : K + 60 < 2 ^ 31) (hi : i + 5 ≤ L) (hL : L ≤ 320) (rec : Nat → Nat → Int32 → Wd → Option (Int32 × Wd)) : ∃ w2, Inv w2 (K + 60) ∧ f_L_211 L sx rec 0 95 (nI i) w = rec 0 95 (nI (i + 5)) w2 := by
  obtain ⟨w2, I, e⟩ := law_i (F := fun w2 => rec 0 95 (nI i + 5) w2) V (p_goods V (sx (i + 1)) (sx (i + 2)) (sx (i + 3))) (fun w1 q h => o_goods h)
  refine ⟨w2, I, ?_⟩
  unfold f_L_211
  simp only [f_L_1095]
  simp only [show nI i + 1 = nI (i + 1) from nI_add i 1, show nI i + 2 = nI (i + 2) from nI_add i 2, show nI i + 3 = nI (i + 3) from nI_add i 3]
  simp only [lS_t (sx := sx) (show i + 1 < L by omega) hL, lS_t (sx := sx) (show i + 2 < L by omega) hL, lS_t (sx := sx) (show i + 3 < L by omega) hL]
  rw [show nI (i + 5) = nI i + 5 from (nI_add i 5).symm]
  exact e
theorem l_word (V : Inv w K) (hK : K + 60 < 2 ^ 31) (hi : i + 5 ≤ L) (hL : L ≤ 320) (rec : Nat → Nat → Int32 → Wd → Option (Int32 × Wd)) : ∃ w2, Inv w2 (K + 60) ∧ f_L_254 L sx rec 0 95 (nI i) w = rec 0 95 (nI (i + 5)) w2 := by
  obtain ⟨w2, I, e⟩ := law_i (F := fun w2 => rec 0 95 (nI i + 5) w2) V (p_word V (sx (i + 1))) (fun w1 q h => o_word h)
  refine ⟨w2, I, ?_⟩
  unfold f_L_254
  simp only [f_L_1095]
  simp only [show nI i + 1 = nI (i + 1) from nI_add i 1]
  simp only [lS_t (sx := sx) (show i + 1 < L by omega) hL]
  rw [show nI (i + 5) = nI i + 5 from (nI_add i 5).symm]
  exact e
theorem l_type (V : Inv w K) (hK : K + 60 < 2 ^ 31) (hi : i + 5 ≤ L) (hL : L ≤ 320) (rec : Nat → Nat → Int32 → Wd → Option (Int32 × Wd)) : ∃ w2, Inv w2 (K + 60) ∧ f_L_277 L sx rec 0 95 (nI i) w = rec 0 95 (nI (i + 5)) w2 := by
  obtain ⟨w2, I, e⟩ := law_i (F := fun w2 => rec 0 95 (nI i + 5) w2) V (p_type V (sx (i + 1))) (fun w1 q h => o_type h)
  refine ⟨w2, I, ?_⟩
  unfold f_L_277
  simp only [f_L_1095]
  simp only [show nI i + 1 = nI (i + 1) from nI_add i 1]
  simp only [lS_t (sx := sx) (show i + 1 < L by omega) hL]
  rw [show nI (i + 5) = nI i + 5 from (nI_add i 5).symm]
  exact e
theorem l_clear (V : Inv w K) (hK : K + 60 < 2 ^ 31) (hi : i + 5 ≤ L) (hL : L ≤ 320) (rec : Nat → Nat → Int32 → Wd → Option (Int32 × Wd)) : ∃ w2, Inv w2 (K + 60) ∧ f_L_300 L sx rec 0 95 (nI i) w = rec 0 95 (nI (i + 5)) w2 := by
  obtain ⟨w2, I, e⟩ := law_i (F := fun w2 => rec 0 95 (nI i + 5) w2) V (p_clear V) (fun w1 q h => o_clear h)
  refine ⟨w2, I, ?_⟩
  unfold f_L_300
  simp only [f_L_1095]
  rw [show nI (i + 5) = nI i + 5 from (nI_add i 5).symm]
  exact e
theorem l_read (V : Inv w K) (hK : K + 60 < 2 ^ 31) (hi : i + 5 ≤ L) (hL : L ≤ 320) (rec : Nat → Nat → Int32 → Wd → Option (Int32 × Wd)) : ∃ w2, Inv w2 (K + 60) ∧ f_L_313 L sx rec 0 95 (nI i) w = rec 0 95 (nI (i + 5)) w2 := by
  obtain ⟨w2, I, e⟩ := law_i (F := fun w2 => rec 0 95 (nI i + 5) w2) V (p_read V) (fun w1 q h => o_read h)
  refine ⟨w2, I, ?_⟩
  unfold f_L_313
  simp only [f_L_1095]
  rw [show nI (i + 5) = nI i + 5 from (nI_add i 5).symm]
  exact e
theorem l_grind (V : Inv w K) (hK : K + 60 < 2 ^ 31) (hi : i + 5 ≤ L) (hL : L ≤ 320) (rec : Nat → Nat → Int32 → Wd → Option (Int32 × Wd)) : ∃ w2, Inv w2 (K + 60) ∧ f_L_326 L sx rec 0 95 (nI i) w = rec 0 95 (nI (i + 5)) w2 := by
  obtain ⟨w2, I, e⟩ := law_i (F := fun w2 => rec 0 95 (nI i + 5) w2) V (p_grind V (sx (i + 1))) (fun w1 q h => o_grind h)
  refine ⟨w2, I, ?_⟩
  unfold f_L_326
  simp only [f_L_1095]
  simp only [show nI i + 1 = nI (i + 1) from nI_add i 1]
  simp only [lS_t (sx := sx) (show i + 1 < L by omega) hL]
  rw [show nI (i + 5) = nI i + 5 from (nI_add i 5).symm]
  exact e
theorem l_hour (V : Inv w K) (hK : K + 60 < 2 ^ 31) (hi : i + 5 ≤ L) (hL : L ≤ 320) (rec : Nat → Nat → Int32 → Wd → Option (Int32 × Wd)) : ∃ w2, Inv w2 (K + 60) ∧ f_L_349 L sx rec 0 95 (nI i) w = rec 0 95 (nI (i + 5)) w2 := by
  obtain ⟨w2, I, e⟩ := law_i (F := fun w2 => rec 0 95 (nI i + 5) w2) V (p_hour V hK (sx (i + 1))) (fun w1 q h => o_hour h)
  refine ⟨w2, I, ?_⟩
  unfold f_L_349
  simp only [f_L_1095]
  simp only [show nI i + 1 = nI (i + 1) from nI_add i 1]
  simp only [lS_t (sx := sx) (show i + 1 < L by omega) hL]
  rw [show nI (i + 5) = nI i + 5 from (nI_add i 5).symm]
  exact e
theorem l_say (V : Inv w K) (hK : K + 60 < 2 ^ 31) (hi : i + 5 ≤ L) (hL : L ≤ 320) (rec : Nat → Nat → Int32 → Wd → Option (Int32 × Wd)) : ∃ w2, Inv w2 (K + 60) ∧ f_L_372 L sx rec 0 95 (nI i) w = rec 0 95 (nI (i + 5)) w2 := by
  obtain ⟨w2, I, e⟩ := law_i (F := fun w2 => rec 0 95 (nI i + 5) w2) V (p_say V (sx (i + 1))) (fun w1 q h => o_say h)
  refine ⟨w2, I, ?_⟩
  unfold f_L_372
  simp only [f_L_1095]
  simp only [show nI i + 1 = nI (i + 1) from nI_add i 1]
  simp only [lS_t (sx := sx) (show i + 1 < L by omega) hL]
  rw [show nI (i + 5) = nI i + 5 from (nI_add i 5).symm]
  exact e
theorem l_sell (V : Inv w K) (hK : K + 60 < 2 ^ 31) (hi : i + 5 ≤ L) (hL : L ≤ 320) (rec : Nat → Nat → Int32 → Wd → Option (Int32 × Wd)) : ∃ w2, Inv w2 (K + 60) ∧ f_L_395 L sx rec 0 95 (nI i) w = rec 0 95 (nI (i + 5)) w2 := by
  obtain ⟨w2, I, e⟩ := law_i (F := fun w2 => rec 0 95 (nI i + 5) w2) V (p_sell V (sx (i + 1)) (sx (i + 2))) (fun w1 q h => o_sell h)
  refine ⟨w2, I, ?_⟩
  unfold f_L_395
  simp only [f_L_1095]
  simp only [show nI i + 1 = nI (i + 1) from nI_add i 1, show nI i + 2 = nI (i + 2) from nI_add i 2]
  simp only [lS_t (sx := sx) (show i + 1 < L by omega) hL, lS_t (sx := sx) (show i + 2 < L by omega) hL]
  rw [show nI (i + 5) = nI i + 5 from (nI_add i 5).symm]
  exact e
theorem l_cold (V : Inv w K) (hK : K + 60 < 2 ^ 31) (hi : i + 5 ≤ L) (hL : L ≤ 320) (rec : Nat → Nat → Int32 → Wd → Option (Int32 × Wd)) : ∃ w2, Inv w2 (K + 60) ∧ f_L_428 L sx rec 0 95 (nI i) w = rec 0 95 (nI (i + 5)) w2 := by
  obtain ⟨w2, I, e⟩ := law_i (F := fun w2 => rec 0 95 (nI i + 5) w2) V (p_cold V (sx (i + 1))) (fun w1 q h => o_cold h)
  refine ⟨w2, I, ?_⟩
  unfold f_L_428
  simp only [f_L_1095]
  simp only [show nI i + 1 = nI (i + 1) from nI_add i 1]
  simp only [lS_t (sx := sx) (show i + 1 < L by omega) hL]
  rw [show nI (i + 5) = nI i + 5 from (nI_add i 5).symm]
  exact e
theorem l_undo (V : Inv w K) (hK : K + 60 < 2 ^ 31) (hi : i + 5 ≤ L) (hL : L ≤ 320) (rec : Nat → Nat → Int32 → Wd → Option (Int32 × Wd)) : ∃ w2, Inv w2 (K + 60) ∧ f_L_451 L sx rec 0 95 (nI i) w = rec 0 95 (nI (i + 5)) w2 := by
  obtain ⟨w2, I, e⟩ := law_i (F := fun w2 => rec 0 95 (nI i + 5) w2) V (p_undo V) (fun w1 q h => o_undo h)
  refine ⟨w2, I, ?_⟩
  unfold f_L_451
  simp only [f_L_1095]
  rw [show nI (i + 5) = nI i + 5 from (nI_add i 5).symm]
  exact e
theorem l_of (V : Inv w K) (hK : K + 60 < 2 ^ 31) (hi : i + 5 ≤ L) (hL : L ≤ 320) (rec : Nat → Nat → Int32 → Wd → Option (Int32 × Wd)) : ∃ w2, Inv w2 (K + 60) ∧ f_L_464 L sx rec 0 95 (nI i) w = rec 0 95 (nI (i + 5)) w2 := by
  obtain ⟨w2, I, e⟩ := law_i (F := fun w2 => rec 0 95 (nI i + 5) w2) V (p_of V (sx (i + 1)) (sx (i + 2))) (fun w1 q h => o_of h)
  refine ⟨w2, I, ?_⟩
  unfold f_L_464
  simp only [f_L_1095]
  simp only [show nI i + 1 = nI (i + 1) from nI_add i 1, show nI i + 2 = nI (i + 2) from nI_add i 2]
  simp only [lS_t (sx := sx) (show i + 1 < L by omega) hL, lS_t (sx := sx) (show i + 2 < L by omega) hL]
  rw [show nI (i + 5) = nI i + 5 from (nI_add i 5).symm]
  exact e
theorem l_grinds (V : Inv w K) (hK : K + 60 < 2 ^ 31) (hi : i + 5 ≤ L) (hL : L ≤ 320) (rec : Nat → Nat → Int32 → Wd → Option (Int32 × Wd)) : ∃ w2, Inv w2 (K + 60) ∧ f_L_497 L sx rec 0 95 (nI i) w = rec 0 95 (nI (i + 5)) w2 := by
  obtain ⟨w2, I, e⟩ := law_i (F := fun w2 => rec 0 95 (nI i + 5) w2) V (p_grinds V) (fun w1 q h => o_grinds h)
  refine ⟨w2, I, ?_⟩
  unfold f_L_497
  simp only [f_L_1095]
  rw [show nI (i + 5) = nI i + 5 from (nI_add i 5).symm]
  exact e
theorem l_then (V : Inv w K) (hK : K + 60 < 2 ^ 31) (hi : i + 5 ≤ L) (hL : L ≤ 320) (rec : Nat → Nat → Int32 → Wd → Option (Int32 × Wd)) : ∃ w2, Inv w2 (K + 60) ∧ f_L_510 L sx rec 0 95 (nI i) w = rec 0 95 (nI (i + 5)) w2 := by
  obtain ⟨w2, I, e⟩ := law_i (F := fun w2 => rec 0 95 (nI i + 5) w2) V (p_then V hK (sx (i + 1)) (sx (i + 2))) (fun w1 q h => o_then h)
  refine ⟨w2, I, ?_⟩
  unfold f_L_510
  simp only [f_L_1095]
  simp only [show nI i + 1 = nI (i + 1) from nI_add i 1, show nI i + 2 = nI (i + 2) from nI_add i 2]
  simp only [lS_t (sx := sx) (show i + 1 < L by omega) hL, lS_t (sx := sx) (show i + 2 < L by omega) hL]
  rw [show nI (i + 5) = nI i + 5 from (nI_add i 5).symm]
  exact e
theorem l_full (V : Inv w K) (hK : K + 60 < 2 ^ 31) (hi : i + 5 ≤ L) (hL : L ≤ 320) (rec : Nat → Nat → Int32 → Wd → Option (Int32 × Wd)) : ∃ w2, Inv w2 (K + 60) ∧ f_L_543 L sx rec 0 95 (nI i) w = rec 0 95 (nI (i + 5)) w2 := by
  obtain ⟨w2, I, e⟩ := law_i (F := fun w2 => rec 0 95 (nI i + 5) w2) V (p_full V hK) (fun w1 q h => o_full h)
  refine ⟨w2, I, ?_⟩
  unfold f_L_543
  simp only [f_L_1095]
  rw [show nI (i + 5) = nI i + 5 from (nI_add i 5).symm]
  exact e
theorem l_just (V : Inv w K) (hK : K + 60 < 2 ^ 31) (hi : i + 5 ≤ L) (hL : L ≤ 320) (rec : Nat → Nat → Int32 → Wd → Option (Int32 × Wd)) : ∃ w2, Inv w2 (K + 60) ∧ f_L_556 L sx rec 0 95 (nI i) w = rec 0 95 (nI (i + 5)) w2 := by
  obtain ⟨w2, I, e⟩ := law_i (F := fun w2 => rec 0 95 (nI i + 5) w2) V (p_just V (sx (i + 1)) (sx (i + 2))) (fun w1 q h => o_just h)
  refine ⟨w2, I, ?_⟩
  unfold f_L_556
  simp only [f_L_1095]
  simp only [show nI i + 1 = nI (i + 1) from nI_add i 1, show nI i + 2 = nI (i + 2) from nI_add i 2]
  simp only [lS_t (sx := sx) (show i + 1 < L by omega) hL, lS_t (sx := sx) (show i + 2 < L by omega) hL]
  rw [show nI (i + 5) = nI i + 5 from (nI_add i 5).symm]
  exact e
theorem l_best (V : Inv w K) (hK : K + 60 < 2 ^ 31) (hi : i + 5 ≤ L) (hL : L ≤ 320) (rec : Nat → Nat → Int32 → Wd → Option (Int32 × Wd)) : ∃ w2, Inv w2 (K + 60) ∧ f_L_589 L sx rec 0 95 (nI i) w = rec 0 95 (nI (i + 5)) w2 := by
  obtain ⟨w2, I, e⟩ := law_i (F := fun w2 => rec 0 95 (nI i + 5) w2) V (p_best V (sx (i + 1)) (sx (i + 2))) (fun w1 q h => o_best h)
  refine ⟨w2, I, ?_⟩
  unfold f_L_589
  simp only [f_L_1095]
  simp only [show nI i + 1 = nI (i + 1) from nI_add i 1, show nI i + 2 = nI (i + 2) from nI_add i 2]
  simp only [lS_t (sx := sx) (show i + 1 < L by omega) hL, lS_t (sx := sx) (show i + 2 < L by omega) hL]
  rw [show nI (i + 5) = nI i + 5 from (nI_add i 5).symm]
  exact e
theorem l_ship (V : Inv w K) (hK : K + 60 < 2 ^ 31) (hi : i + 5 ≤ L) (hL : L ≤ 320) (rec : Nat → Nat → Int32 → Wd → Option (Int32 × Wd)) : ∃ w2, Inv w2 (K + 60) ∧ f_L_622 L sx rec 0 95 (nI i) w = rec 0 95 (nI (i + 5)) w2 := by
  obtain ⟨w2, I, e⟩ := law_i (F := fun w2 => rec 0 95 (nI i + 5) w2) V (p_ship V (sx (i + 1)) (sx (i + 2))) (fun w1 q h => o_ship h)
  refine ⟨w2, I, ?_⟩
  unfold f_L_622
  simp only [f_L_1095]
  simp only [show nI i + 1 = nI (i + 1) from nI_add i 1, show nI i + 2 = nI (i + 2) from nI_add i 2]
  simp only [lS_t (sx := sx) (show i + 1 < L by omega) hL, lS_t (sx := sx) (show i + 2 < L by omega) hL]
  rw [show nI (i + 5) = nI i + 5 from (nI_add i 5).symm]
  exact e
theorem l_guess (V : Inv w K) (hK : K + 60 < 2 ^ 31) (hi : i + 5 ≤ L) (hL : L ≤ 320) (rec : Nat → Nat → Int32 → Wd → Option (Int32 × Wd)) : ∃ w2, Inv w2 (K + 60) ∧ f_L_655 L sx rec 0 95 (nI i) w = rec 0 95 (nI (i + 5)) w2 := by
  obtain ⟨w2, I, e⟩ := law_i (F := fun w2 => rec 0 95 (nI i + 5) w2) V (p_guess V (sx (i + 1)) (sx (i + 2))) (fun w1 q h => o_guess h)
  refine ⟨w2, I, ?_⟩
  unfold f_L_655
  simp only [f_L_1095]
  simp only [show nI i + 1 = nI (i + 1) from nI_add i 1, show nI i + 2 = nI (i + 2) from nI_add i 2]
  simp only [lS_t (sx := sx) (show i + 1 < L by omega) hL, lS_t (sx := sx) (show i + 2 < L by omega) hL]
  rw [show nI (i + 5) = nI i + 5 from (nI_add i 5).symm]
  exact e
theorem l_words (V : Inv w K) (hK : K + 60 < 2 ^ 31) (hi : i + 5 ≤ L) (hL : L ≤ 320) (rec : Nat → Nat → Int32 → Wd → Option (Int32 × Wd)) : ∃ w2, Inv w2 (K + 60) ∧ f_L_688 L sx rec 0 95 (nI i) w = rec 0 95 (nI (i + 5)) w2 := by
  obtain ⟨w2, I, e⟩ := law_i (F := fun w2 => rec 0 95 (nI i + 5) w2) V (p_words V (sx (i + 1))) (fun w1 q h => o_words h)
  refine ⟨w2, I, ?_⟩
  unfold f_L_688
  simp only [f_L_1095]
  simp only [show nI i + 1 = nI (i + 1) from nI_add i 1]
  simp only [lS_t (sx := sx) (show i + 1 < L by omega) hL]
  rw [show nI (i + 5) = nI i + 5 from (nI_add i 5).symm]
  exact e
theorem l_nextGuess (V : Inv w K) (hK : K + 60 < 2 ^ 31) (hi : i + 5 ≤ L) (hL : L ≤ 320) (rec : Nat → Nat → Int32 → Wd → Option (Int32 × Wd)) : ∃ w2, Inv w2 (K + 60) ∧ f_L_711 L sx rec 0 95 (nI i) w = rec 0 95 (nI (i + 5)) w2 := by
  obtain ⟨w2, I, e⟩ := law_i (F := fun w2 => rec 0 95 (nI i + 5) w2) V (p_nextGuess V) (fun w1 q h => o_nextGuess h)
  refine ⟨w2, I, ?_⟩
  unfold f_L_711
  simp only [f_L_1095]
  rw [show nI (i + 5) = nI i + 5 from (nI_add i 5).symm]
  exact e
theorem l_street (V : Inv w K) (hK : K + 60 < 2 ^ 31) (hi : i + 5 ≤ L) (hL : L ≤ 320) (rec : Nat → Nat → Int32 → Wd → Option (Int32 × Wd)) : ∃ w2, Inv w2 (K + 60) ∧ f_L_724 L sx rec 0 95 (nI i) w = rec 0 95 (nI (i + 5)) w2 := by
  obtain ⟨w2, I, e⟩ := law_i (F := fun w2 => rec 0 95 (nI i + 5) w2) V (p_street V (sx (i + 1)) (sx (i + 2))) (fun w1 q h => o_street h)
  refine ⟨w2, I, ?_⟩
  unfold f_L_724
  simp only [f_L_1095]
  simp only [show nI i + 1 = nI (i + 1) from nI_add i 1, show nI i + 2 = nI (i + 2) from nI_add i 2]
  simp only [lS_t (sx := sx) (show i + 1 < L by omega) hL, lS_t (sx := sx) (show i + 2 < L by omega) hL]
  rw [show nI (i + 5) = nI i + 5 from (nI_add i 5).symm]
  exact e
theorem l_note (V : Inv w K) (hK : K + 60 < 2 ^ 31) (hi : i + 5 ≤ L) (hL : L ≤ 320) (rec : Nat → Nat → Int32 → Wd → Option (Int32 × Wd)) : ∃ w2, Inv w2 (K + 60) ∧ f_L_757 L sx rec 0 95 (nI i) w = rec 0 95 (nI (i + 5)) w2 := by
  obtain ⟨w2, I, e⟩ := law_i (F := fun w2 => rec 0 95 (nI i + 5) w2) V (p_note V (sx (i + 1)) (sx (i + 2)) (sx (i + 3)) (sx (i + 4))) (fun w1 q h => o_note h)
  refine ⟨w2, I, ?_⟩
  unfold f_L_757
  simp only [f_L_1095]
  simp only [show nI i + 1 = nI (i + 1) from nI_add i 1, show nI i + 2 = nI (i + 2) from nI_add i 2, show nI i + 3 = nI (i + 3) from nI_add i 3, show nI i + 4 = nI (i + 4) from nI_add i 4]
  simp only [lS_t (sx := sx) (show i + 1 < L by omega) hL, lS_t (sx := sx) (show i + 2 < L by omega) hL, lS_t (sx := sx) (show i + 3 < L by omega) hL, lS_t (sx := sx) (show i + 4 < L by omega) hL]
  rw [show nI (i + 5) = nI i + 5 from (nI_add i 5).symm]
  exact e
theorem l_forget (V : Inv w K) (hK : K + 60 < 2 ^ 31) (hi : i + 5 ≤ L) (hL : L ≤ 320) (rec : Nat → Nat → Int32 → Wd → Option (Int32 × Wd)) : ∃ w2, Inv w2 (K + 60) ∧ f_L_810 L sx rec 0 95 (nI i) w = rec 0 95 (nI (i + 5)) w2 := by
  obtain ⟨w2, I, e⟩ := law_i (F := fun w2 => rec 0 95 (nI i + 5) w2) V (p_forget V (sx (i + 1))) (fun w1 q h => o_forget h)
  refine ⟨w2, I, ?_⟩
  unfold f_L_810
  simp only [f_L_1095]
  simp only [show nI i + 1 = nI (i + 1) from nI_add i 1]
  simp only [lS_t (sx := sx) (show i + 1 < L by omega) hL]
  rw [show nI (i + 5) = nI i + 5 from (nI_add i 5).symm]
  exact e
theorem l_is (V : Inv w K) (hK : K + 60 < 2 ^ 31) (hi : i + 5 ≤ L) (hL : L ≤ 320) (rec : Nat → Nat → Int32 → Wd → Option (Int32 × Wd)) : ∃ w2, Inv w2 (K + 60) ∧ f_L_833 L sx rec 0 95 (nI i) w = rec 0 95 (nI (i + 5)) w2 := by
  obtain ⟨w2, I, e⟩ := law_i (F := fun w2 => rec 0 95 (nI i + 5) w2) V (p_is V (sx (i + 1)) (sx (i + 2))) (fun w1 q h => o_is h)
  refine ⟨w2, I, ?_⟩
  unfold f_L_833
  simp only [f_L_1095]
  simp only [show nI i + 1 = nI (i + 1) from nI_add i 1, show nI i + 2 = nI (i + 2) from nI_add i 2]
  simp only [lS_t (sx := sx) (show i + 1 < L by omega) hL, lS_t (sx := sx) (show i + 2 < L by omega) hL]
  rw [show nI (i + 5) = nI i + 5 from (nI_add i 5).symm]
  exact e
theorem l_look (V : Inv w K) (hK : K + 60 < 2 ^ 31) (hi : i + 5 ≤ L) (hL : L ≤ 320) (rec : Nat → Nat → Int32 → Wd → Option (Int32 × Wd)) : ∃ w2, Inv w2 (K + 60) ∧ f_L_866 L sx rec 0 95 (nI i) w = rec 0 95 (nI (i + 5)) w2 := by
  obtain ⟨w2, I, e⟩ := law_i (F := fun w2 => rec 0 95 (nI i + 5) w2) V (p_look V (sx (i + 1))) (fun w1 q h => o_look h)
  refine ⟨w2, I, ?_⟩
  unfold f_L_866
  simp only [f_L_1095]
  simp only [show nI i + 1 = nI (i + 1) from nI_add i 1]
  simp only [lS_t (sx := sx) (show i + 1 < L by omega) hL]
  rw [show nI (i + 5) = nI i + 5 from (nI_add i 5).symm]
  exact e
theorem l_thieves (V : Inv w K) (hK : K + 60 < 2 ^ 31) (hi : i + 5 ≤ L) (hL : L ≤ 320) (rec : Nat → Nat → Int32 → Wd → Option (Int32 × Wd)) : ∃ w2, Inv w2 (K + 60) ∧ f_L_889 L sx rec 0 95 (nI i) w = rec 0 95 (nI (i + 5)) w2 := by
  obtain ⟨w2, I, e⟩ := law_i (F := fun w2 => rec 0 95 (nI i + 5) w2) V (p_thieves V hK (sx (i + 1)) (sx (i + 2)) (sx (i + 3))) (fun w1 q h => o_thieves h)
  refine ⟨w2, I, ?_⟩
  unfold f_L_889
  simp only [f_L_1095]
  simp only [show nI i + 1 = nI (i + 1) from nI_add i 1, show nI i + 2 = nI (i + 2) from nI_add i 2, show nI i + 3 = nI (i + 3) from nI_add i 3]
  simp only [lS_t (sx := sx) (show i + 1 < L by omega) hL, lS_t (sx := sx) (show i + 2 < L by omega) hL, lS_t (sx := sx) (show i + 3 < L by omega) hL]
  rw [show nI (i + 5) = nI i + 5 from (nI_add i 5).symm]
  exact e
theorem l_mills (V : Inv w K) (hK : K + 60 < 2 ^ 31) (hi : i + 5 ≤ L) (hL : L ≤ 320) (rec : Nat → Nat → Int32 → Wd → Option (Int32 × Wd)) : ∃ w2, Inv w2 (K + 60) ∧ f_L_932 L sx rec 0 95 (nI i) w = rec 0 95 (nI (i + 5)) w2 := by
  obtain ⟨w2, I, e⟩ := law_i (F := fun w2 => rec 0 95 (nI i + 5) w2) V (p_mills V hK (sx (i + 1)) (sx (i + 2))) (fun w1 q h => o_mills h)
  refine ⟨w2, I, ?_⟩
  unfold f_L_932
  simp only [f_L_1095]
  simp only [show nI i + 1 = nI (i + 1) from nI_add i 1, show nI i + 2 = nI (i + 2) from nI_add i 2]
  simp only [lS_t (sx := sx) (show i + 1 < L by omega) hL, lS_t (sx := sx) (show i + 2 < L by omega) hL]
  rw [show nI (i + 5) = nI i + 5 from (nI_add i 5).symm]
  exact e
theorem l_part (V : Inv w K) (hK : K + 60 < 2 ^ 31) (hi : i + 5 ≤ L) (hL : L ≤ 320) (rec : Nat → Nat → Int32 → Wd → Option (Int32 × Wd)) : ∃ w2, Inv w2 (K + 60) ∧ f_L_965 L sx rec 0 95 (nI i) w = rec 0 95 (nI (i + 5)) w2 := by
  obtain ⟨w2, I, e⟩ := law_l (F := fun w2 => rec 0 95 (nI i + 5) w2) V (p_part V (sx (i + 1))) (fun w1 q h => o_part h)
  refine ⟨w2, I, ?_⟩
  unfold f_L_965
  simp only [f_L_1095]
  simp only [show nI i + 1 = nI (i + 1) from nI_add i 1]
  simp only [lS_t (sx := sx) (show i + 1 < L by omega) hL]
  rw [show nI (i + 5) = nI i + 5 from (nI_add i 5).symm]
  exact e
theorem l_image (V : Inv w K) (hK : K + 60 < 2 ^ 31) (hi : i + 5 ≤ L) (hL : L ≤ 320) (rec : Nat → Nat → Int32 → Wd → Option (Int32 × Wd)) : ∃ w2, Inv w2 (K + 60) ∧ f_L_989 L sx rec 0 95 (nI i) w = rec 0 95 (nI (i + 5)) w2 := by
  obtain ⟨w2, I, e⟩ := law_i (F := fun w2 => rec 0 95 (nI i + 5) w2) V (p_image V (sx (i + 1))) (fun w1 q h => o_image h)
  refine ⟨w2, I, ?_⟩
  unfold f_L_989
  simp only [f_L_1095]
  simp only [show nI i + 1 = nI (i + 1) from nI_add i 1]
  simp only [lS_t (sx := sx) (show i + 1 < L by omega) hL]
  rw [show nI (i + 5) = nI i + 5 from (nI_add i 5).symm]
  exact e
theorem l_from (V : Inv w K) (hK : K + 60 < 2 ^ 31) (hi : i + 5 ≤ L) (hL : L ≤ 320) (rec : Nat → Nat → Int32 → Wd → Option (Int32 × Wd)) : ∃ w2, Inv w2 (K + 60) ∧ f_L_1012 L sx rec 0 95 (nI i) w = rec 0 95 (nI (i + 5)) w2 := by
  obtain ⟨w2, I, e⟩ := law_i (F := fun w2 => rec 0 95 (nI i + 5) w2) V (p_from V (sx (i + 1))) (fun w1 q h => o_from h)
  refine ⟨w2, I, ?_⟩
  unfold f_L_1012
  simp only [f_L_1095]
  simp only [show nI i + 1 = nI (i + 1) from nI_add i 1]
  simp only [lS_t (sx := sx) (show i + 1 < L by omega) hL]
  rw [show nI (i + 5) = nI i + 5 from (nI_add i 5).symm]
  exact e
theorem l_status (V : Inv w K) (hK : K + 60 < 2 ^ 31) (hi : i + 5 ≤ L) (hL : L ≤ 320) (rec : Nat → Nat → Int32 → Wd → Option (Int32 × Wd)) : ∃ w2, Inv w2 (K + 60) ∧ f_L_1035 L sx rec 0 95 (nI i) w = rec 0 95 (nI (i + 5)) w2 := by
  obtain ⟨w2, I, e⟩ := law_i (F := fun w2 => rec 0 95 (nI i + 5) w2) V (p_status V (sx (i + 1))) (fun w1 q h => o_status h)
  refine ⟨w2, I, ?_⟩
  unfold f_L_1035
  simp only [f_L_1095]
  simp only [show nI i + 1 = nI (i + 1) from nI_add i 1]
  simp only [lS_t (sx := sx) (show i + 1 < L by omega) hL]
  rw [show nI (i + 5) = nI i + 5 from (nI_add i 5).symm]
  exact e
theorem l_count (V : Inv w K) (hK : K + 60 < 2 ^ 31) (hi : i + 5 ≤ L) (hL : L ≤ 320) (rec : Nat → Nat → Int32 → Wd → Option (Int32 × Wd)) : ∃ w2, Inv w2 (K + 60) ∧ f_L_1058 L sx rec 0 95 (nI i) w = rec 0 95 (nI (i + 5)) w2 := by
  obtain ⟨w2, I, e⟩ := law_i (F := fun w2 => rec 0 95 (nI i + 5) w2) V (p_count V (sx (i + 1))) (fun w1 q h => o_count h)
  refine ⟨w2, I, ?_⟩
  unfold f_L_1058
  simp only [f_L_1095]
  simp only [show nI i + 1 = nI (i + 1) from nI_add i 1]
  simp only [lS_t (sx := sx) (show i + 1 < L by omega) hL]
  rw [show nI (i + 5) = nI i + 5 from (nI_add i 5).symm]
  exact e
theorem l_digest (V : Inv w K) (hK : K + 60 < 2 ^ 31) (hi : i + 5 ≤ L) (hL : L ≤ 320) (rec : Nat → Nat → Int32 → Wd → Option (Int32 × Wd)) : ∃ w2, Inv w2 (K + 60) ∧ f_L_1081 L sx rec 0 95 (nI i) w = rec 0 95 (nI (i + 5)) w2 := by
  obtain ⟨w2, I, e⟩ := law_l (F := fun w2 => rec 0 95 (nI i + 5) w2) V (p_digest V) (fun w1 q h => o_digest h)
  refine ⟨w2, I, ?_⟩
  unfold f_L_1081
  simp only [f_L_1095]
  rw [show nI (i + 5) = nI i + 5 from (nI_add i 5).symm]
  exact e
theorem law_round (V : Inv w K) (hK : K + 60 < 2 ^ 31) (hi : i + 5 ≤ L) (hL : L ≤ 320) (f : Nat) : ∃ w2, Inv w2 (K + 60) ∧ f_L_18 L sx (f + 1) 0 95 (nI i) w = f_L_18 L sx f 0 95 (nI (i + 5)) w2 := by
  have e5 : Int32.ofNat L - (5 : Int32) = nI (L - 5) := by
    show nI L - nI 5 = _
    rw [pk_sub (by omega)]
  rw [f_L_18, e5, if_neg (nI_nlt (by omega) (by omega)), lS_t (by omega) hL]
  generalize sx i &&& (63 : Int32) = o
  by_cases c0 : o = 0
  · rw [if_pos c0]
    exact l_mill V hK hi hL _
  · rw [if_neg c0]
    by_cases c1 : o = 1
    · rw [if_pos c1]
      exact l_goods V hK hi hL _
    · rw [if_neg c1]
      by_cases c2 : o = 2
      · rw [if_pos c2]
        exact l_word V hK hi hL _
      · rw [if_neg c2]
        by_cases c3 : o = 3
        · rw [if_pos c3]
          exact l_type V hK hi hL _
        · rw [if_neg c3]
          by_cases c4 : o = 4
          · rw [if_pos c4]
            exact l_clear V hK hi hL _
          · rw [if_neg c4]
            by_cases c5 : o = 5
            · rw [if_pos c5]
              exact l_read V hK hi hL _
            · rw [if_neg c5]
              by_cases c6 : o = 6
              · rw [if_pos c6]
                exact l_grind V hK hi hL _
              · rw [if_neg c6]
                by_cases c7 : o = 7
                · rw [if_pos c7]
                  exact l_hour V hK hi hL _
                · rw [if_neg c7]
                  by_cases c8 : o = 8
                  · rw [if_pos c8]
                    exact l_say V hK hi hL _
                  · rw [if_neg c8]
                    by_cases c9 : o = 9
                    · rw [if_pos c9]
                      exact l_sell V hK hi hL _
                    · rw [if_neg c9]
                      by_cases c10 : o = 10
                      · rw [if_pos c10]
                        exact l_cold V hK hi hL _
                      · rw [if_neg c10]
                        by_cases c11 : o = 11
                        · rw [if_pos c11]
                          exact l_undo V hK hi hL _
                        · rw [if_neg c11]
                          by_cases c12 : o = 12
                          · rw [if_pos c12]
                            exact l_of V hK hi hL _
                          · rw [if_neg c12]
                            by_cases c13 : o = 13
                            · rw [if_pos c13]
                              exact l_grinds V hK hi hL _
                            · rw [if_neg c13]
                              by_cases c14 : o = 14
                              · rw [if_pos c14]
                                exact l_then V hK hi hL _
                              · rw [if_neg c14]
                                by_cases c15 : o = 15
                                · rw [if_pos c15]
                                  exact l_full V hK hi hL _
                                · rw [if_neg c15]
                                  by_cases c16 : o = 16
                                  · rw [if_pos c16]
                                    exact l_just V hK hi hL _
                                  · rw [if_neg c16]
                                    by_cases c17 : o = 17
                                    · rw [if_pos c17]
                                      exact l_best V hK hi hL _
                                    · rw [if_neg c17]
                                      by_cases c18 : o = 18
                                      · rw [if_pos c18]
                                        exact l_ship V hK hi hL _
                                      · rw [if_neg c18]
                                        by_cases c19 : o = 19
                                        · rw [if_pos c19]
                                          exact l_guess V hK hi hL _
                                        · rw [if_neg c19]
                                          by_cases c20 : o = 20
                                          · rw [if_pos c20]
                                            exact l_words V hK hi hL _
                                          · rw [if_neg c20]
                                            by_cases c21 : o = 21
                                            · rw [if_pos c21]
                                              exact l_nextGuess V hK hi hL _
                                            · rw [if_neg c21]
                                              by_cases c22 : o = 22
                                              · rw [if_pos c22]
                                                exact l_street V hK hi hL _
                                              · rw [if_neg c22]
                                                by_cases c23 : o = 23
                                                · rw [if_pos c23]
                                                  exact l_note V hK hi hL _
                                                · rw [if_neg c23]
                                                  by_cases c24 : o = 24
                                                  · rw [if_pos c24]
                                                    exact l_forget V hK hi hL _
                                                  · rw [if_neg c24]
                                                    by_cases c25 : o = 25
                                                    · rw [if_pos c25]
                                                      exact l_is V hK hi hL _
                                                    · rw [if_neg c25]
                                                      by_cases c26 : o = 26
                                                      · rw [if_pos c26]
                                                        exact l_look V hK hi hL _
                                                      · rw [if_neg c26]
                                                        by_cases c27 : o = 27
                                                        · rw [if_pos c27]
                                                          exact l_thieves V hK hi hL _
                                                        · rw [if_neg c27]
                                                          by_cases c28 : o = 28
                                                          · rw [if_pos c28]
                                                            exact l_mills V hK hi hL _
                                                          · rw [if_neg c28]
                                                            by_cases c29 : o = 29
                                                            · rw [if_pos c29]
                                                              exact l_part V hK hi hL _
                                                            · rw [if_neg c29]
                                                              by_cases c30 : o = 30
                                                              · rw [if_pos c30]
                                                                exact l_image V hK hi hL _
                                                              · rw [if_neg c30]
                                                                by_cases c31 : o = 31
                                                                · rw [if_pos c31]
                                                                  exact l_from V hK hi hL _
                                                                · rw [if_neg c31]
                                                                  by_cases c32 : o = 32
                                                                  · rw [if_pos c32]
                                                                    exact l_status V hK hi hL _
                                                                  · rw [if_neg c32]
                                                                    by_cases c33 : o = 33
                                                                    · rw [if_pos c33]
                                                                      exact l_count V hK hi hL _
                                                                    · rw [if_neg c33]
                                                                      by_cases c34 : o = 34
                                                                      · rw [if_pos c34]
                                                                        exact l_digest V hK hi hL _
                                                                      · rw [if_neg c34]
                                                                        refine ⟨w, V.qt Qt.rf (by omega), ?_⟩
                                                                        rw [f_L_1095, show nI i + 5 = nI (i + 5) from nI_add i 5]
theorem law_loop (hL : L ≤ 320) : ∀ (d i fuel K : Nat) (w : Wd), L < i + 5 * d + 5 → i ≤ 400 → d < fuel → K + 60 * d < 2 ^ 30 → Inv w K → ∃ wz, f_L_18 L sx fuel 0 95 (nI i) w = some (1, wz) := by
  have stop : ∀ (i fuel : Nat) (w : Wd), L < i + 5 → i ≤ 400 → 0 < fuel → f_L_18 L sx fuel 0 95 (nI i) w = some (1, w) := by
    intro i fuel w h h4 hf
    obtain ⟨f, rfl⟩ : ∃ f, fuel = f + 1 := ⟨fuel - 1, by omega⟩
    rw [f_L_18]
    have c : Int32.ofNat L - (5 : Int32) < nI i := by
      show nI L - nI 5 < nI i
      by_cases h5 : L < 5
      · exact Int32.lt_of_lt_of_le (pk_sneg (by decide) h5) (nI_pos' (by omega))
      · rw [pk_sub (by omega)]
        exact nI_lt (by omega) (by omega)
    rw [if_pos c]
  intro d
  induction d with
  | zero =>
    intro i fuel K w h h4 hf hK V
    exact ⟨w, stop i fuel w (by omega) h4 hf⟩
  | succ d ih =>
    intro i fuel K w h h4 hf hK V
    by_cases c : L < i + 5
    · exact ⟨w, stop i fuel w c h4 (by omega)⟩
    · obtain ⟨f, rfl⟩ : ∃ f, fuel = f + 1 := ⟨fuel - 1, by omega⟩
      obtain ⟨w2, V2, e⟩ := law_round (sx := sx) V (by omega) (show i + 5 ≤ L by omega) hL f
      obtain ⟨wz, ez⟩ := ih (i + 5) f (K + 60) w2 (by omega) (by omega) (by omega) (by omega) V2
      exact ⟨wz, e.trans ez⟩
end V1
