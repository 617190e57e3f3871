/-! the sharpest word -/
def lkn (x j : Nat) : Nat := (alS (nI x) (nI j) 5).toNatClampNeg
def kN (S : Nat → Int32) (x a : Nat) : Nat → Nat
  | 0 => 0
  | i + 1 => kN S x a i + (if fitB S (nI i) = true ∧ lkn x i = a then 1 else 0)
def mo (S : Nat → Int32) (x : Nat) : Nat → Nat
  | 0 => 0
  | i + 1 => if fitB S (nI i) = true then max (mo S x i) (kN S x (lkn x i) (i + 1)) else mo S x i
def aT (T S : Nat → Int32) (x i : Nat) : Nat → Int32 := fun j => if j < 6 then nI (kN S x j i) else T j
/-- the first of the least -/
def bst (v : Nat → Nat) : Nat → Nat → Int32 → Nat → Int32
  | 0, _, b, _ => b
  | d + 1, i, b, l => if v i < l then bst v d (i + 1) (nI i) (v i) else bst v d (i + 1) b l
theorem lk_lt {x j : Nat} (hx : x < 32) (hj : j < 32) : lkn x j < 6 := (al_rng0 x hx j hj).1
theorem lk_eq {x j : Nat} (hx : x < 32) (hj : j < 32) : alS (nI x) (nI j) 5 = nI (lkn x j) := (al_rng0 x hx j hj).2
theorem kN_le (S : Nat → Int32) (x a : Nat) : ∀ i, kN S x a i ≤ i
  | 0 => Nat.le_refl _
  | i + 1 => by
    have := kN_le S x a i
    rw [kN]
    split <;> omega
theorem mo_le (S : Nat → Int32) (x : Nat) : ∀ i, mo S x i ≤ i
  | 0 => Nat.le_refl _
  | i + 1 => by
    have h1 := mo_le S x i
    have h2 := kN_le S x (lkn x i) (i + 1)
    rw [mo]
    split <;> omega
theorem mo_pos (S : Nat → Int32) (x : Nat) {j : Nat} (hj : fitB S (nI j) = true) : ∀ i, j < i → 0 < mo S x i
  | 0, h => absurd h (by omega)
  | i + 1, h => by
    rw [mo]
    by_cases e : j = i
    · subst e
      rw [if_pos hj, kN, if_pos ⟨hj, rfl⟩]
      omega
    · have := mo_pos S x hj i (by omega)
      split <;> omega
theorem mo_zero (S : Nat → Int32) (x : Nat) : ∀ i, (∀ j, j < i → ¬ fitB S (nI j) = true) → mo S x i = 0
  | 0, _ => rfl
  | i + 1, h => by
    rw [mo, if_neg (h i (by omega))]
    exact mo_zero S x i (fun j hj => h j (by omega))
theorem aT_step {T S : Nat → Int32} {x i : Nat} (hx : x < 32) (hi : i < 32) (hf : fitB S (nI i) = true) : upd (aT T S x i) (lkn x i) (nI (kN S x (lkn x i) i + 1)) = aT T S x (i + 1) := by
  have h6 := lk_lt hx hi
  funext j
  by_cases e : j = lkn x i
  · subst e
    rw [pk_us, aT, if_pos h6, kN, if_pos ⟨hf, rfl⟩]
  · rw [pk_un e]
    unfold aT
    by_cases hj : j < 6
    · rw [if_pos hj, if_pos hj, kN, if_neg (fun q => e q.2.symm), Nat.add_zero]
    · rw [if_neg hj, if_neg hj]
theorem aT_no {T S : Nat → Int32} {x i : Nat} (hf : ¬ fitB S (nI i) = true) : aT T S x (i + 1) = aT T S x i := by
  funext j
  unfold aT
  have e : kN S x j (i + 1) = kN S x j i := by rw [kN, if_neg (fun q => hf q.1), Nat.add_zero]
  rw [e]
theorem aT_0 {T S : Nat → Int32} {x : Nat} : (fun j => if j < 6 then 0 else T j) = aT T S x 0 := rfl
theorem aT_aT {T S S' : Nat → Int32} {x x' i i' : Nat} : aT (aT T S x i) S' x' i' = aT T S' x' i' := by
  funext j
  unfold aT
  by_cases h : j < 6
  · rw [if_pos h, if_pos h]
  · rw [if_neg h, if_neg h, if_neg h]
theorem mx_eq {a b : Nat} (ha : a < 2 ^ 31) (hb : b < 2 ^ 31) : f_mmax (nI a) (nI b) = nI (max a b) := by
  unfold f_mmax
  by_cases h : a < b
  · rw [if_pos (nI_lt h hb), Nat.max_eq_right (by omega)]
  · rw [if_neg (nI_nlt (by omega) ha), Nat.max_eq_left (by omega)]
section R5
variable {w w' : Wd} {h k K K2 : Nat} {S T : Nat → Int32}
theorem HS.cW (H : HS w h) {a : Nat} {T : Nat → Int32} : HS (cW w a T) h := H.to Eqs.cW
theorem mostAns_eq (H : HS w h) {x : Nat} (hx : x < 32) : f_X0_mostAnsweredAlike (h + 3) (nI x) (nI (mskW S)) w = some (nI (mo S x 32), cW w (h + 7) (aT (wI w (h + 7)) S x 32)) := by
  unfold f_X0_mostAnsweredAlike
  have zero : f_X0_mostAnsweredAlike_2 4096 (h + 3) (nI x) (nI (mskW S)) 0 w = f_X0_mostAnsweredAlike_25 4096 (h + 3) (nI x) (nI (mskW S)) 0 0 (cW w (h + 7) (aT (wI w (h + 7)) S x 0)) := by
    refine (congrArg (f_X0_mostAnsweredAlike_2 4096 (h + 3) (nI x) (nI (mskW S)) 0) (show w = cW w (h + 7) (fun j => if j < 0 then 0 else wI w (h + 7) j) from ?_)).trans ?_
    · rw [show (fun j => if j < 0 then 0 else wI w (h + 7) j) = wI w (h + 7) by funext j; rw [if_neg (by omega)], cW_id]
    refine lpE (n := 6) (F := fun f i => f_X0_mostAnsweredAlike_2 f (h + 3) (nI x) (nI (mskW S)) (nI i) (cW w (h + 7) (fun j => if j < i then 0 else wI w (h + 7) j))) (fun f i hi => ?_) (fun f => ?_) 4096 (by decide)
    · show f_X0_mostAnsweredAlike_2 (f + 1) _ _ _ _ _ = _
      rw [f_X0_mostAnsweredAlike_2, if_neg (show ¬ (5 : Int32) < nI i from nI_nlt (a := 5) (by omega) (by decide)), gR_t H.cW.o3, H.cW.c4, Option.bind_some, aI_t H.cW.o7 (inb_of H.cW.n7 hi (by decide)), nI_clamp (by omega), sIW, nI_1]
      congr 2
      funext j
      by_cases h1 : j = i
      · subst h1; rw [pk_us, if_pos (by omega)]
      · rw [pk_un h1]
        by_cases h2 : j < i
        · rw [if_pos h2, if_pos (by omega)]
        · rw [if_neg h2, if_neg (by omega)]
    · show f_X0_mostAnsweredAlike_2 (f + 1) _ _ _ _ _ = _
      rw [f_X0_mostAnsweredAlike_2, if_pos (show (5 : Int32) < nI 6 by decide)]
      rfl
  rw [zero]
  refine lpE (n := 32) (F := fun f i => f_X0_mostAnsweredAlike_25 f (h + 3) (nI x) (nI (mskW S)) (nI (mo S x i)) (nI i) (cW w (h + 7) (aT (wI w (h + 7)) S x i))) (fun f i hi => ?_) (fun f => ?_) 4096 (by decide)
  · show f_X0_mostAnsweredAlike_25 (f + 1) _ _ _ _ _ _ = _
    have b1 := mo_le S x i
    have b2 := kN_le S x (lkn x i) i
    rw [f_X0_mostAnsweredAlike_25, if_neg (show ¬ (32 : Int32) ≤ nI i from nI_ge (b := 32) hi (by decide))]
    by_cases hf : fitB S (nI i) = true
    · have h6 := lk_lt hx hi
      have e1 : aT (wI w (h + 7)) S x i (lkn x i) = nI (kN S x (lkn x i) i) := by rw [aT, if_pos h6]
      have e3 : kN S x (lkn x i) (i + 1) = kN S x (lkn x i) i + 1 := by rw [kN, if_pos ⟨hf, rfl⟩]
      have e2 : aT (wI w (h + 7)) S x (i + 1) (lkn x i) = nI (kN S x (lkn x i) (i + 1)) := by rw [aT, if_pos h6]
      rw [if_pos ((bit_eq mskW_lt hi).mpr (by rw [mskW_bit hi]; exact hf)), likeW hx hi, lk_eq hx hi, cal_t, gR_t H.cW.o3, H.cW.c4, Option.bind_some, lI_t H.cW.o7 (inb_of H.cW.n7 h6 (by decide)), nI_clamp (by omega), cW_s, e1, nI_1, aI_t H.cW.o7 (inb_of H.cW.n7 h6 (by decide)), nI_clamp (by omega), sIW, aT_step hx hi hf, gR_t H.cW.o3, H.cW.c4, Option.bind_some, lI_t H.cW.o7 (inb_of H.cW.n7 h6 (by decide)), nI_clamp (by omega), cW_s, e2, nm_t, mx_eq (by omega) (by omega), f_X0_mostAnsweredAlike_73, nI_1, mo, if_pos hf]
    · rw [if_neg (fun q => hf (by rw [← mskW_bit hi]; exact (bit_eq mskW_lt hi).mp q)), f_X0_mostAnsweredAlike_73, nI_1, mo, if_neg hf, aT_no hf]
  · show f_X0_mostAnsweredAlike_25 (f + 1) _ _ _ _ _ _ = _
    rw [f_X0_mostAnsweredAlike_25, if_pos (show (32 : Int32) ≤ nI 32 by decide)]
theorem MS.r18 (M : MS w) : wR w 95 18 = some 104 := M.rr 95 18 104 (by decide)
theorem mostAlike_eq (M : MS w) (I : Iv (wI w 96) K) {x : Nat} (hx : x < 32) : f_X12_mostAlike 95 (nI x) w = some (nI (mo (wI w 96) x 32), cW w 104 (aT (wI w 104) (wI w 96) x 32)) := by
  have o := M.oo 104 14 (by decide)
  have nn := M.nn 104 6 (by decide)
  have e96 : ∀ T, wI (cW w 104 T) 96 = wI w 96 := fun T => cW_o (by decide)
  unfold f_X12_mostAlike
  have zero : f_X12_mostAlike_4 4096 95 (nI x) 0 0 w = f_X12_mostAlike_25 4096 95 (nI x) 0 0 (cW w 104 (aT (wI w 104) (wI w 96) x 0)) := by
    refine (congrArg (f_X12_mostAlike_4 4096 95 (nI x) 0 0) (show w = cW w 104 (fun j => if j < 0 then 0 else wI w 104 j) from ?_)).trans ?_
    · rw [show (fun j => if j < 0 then 0 else wI w 104 j) = wI w 104 by funext j; rw [if_neg (by omega)], cW_id]
    refine lpE (n := 6) (F := fun f i => f_X12_mostAlike_4 f 95 (nI x) 0 (nI i) (cW w 104 (fun j => if j < i then 0 else wI w 104 j))) (fun f i hi => ?_) (fun f => ?_) 4096 (by decide)
    · show f_X12_mostAlike_4 (f + 1) _ _ _ _ _ = _
      rw [f_X12_mostAlike_4, if_neg (show ¬ (6 : Int32) ≤ nI i from nI_ge (b := 6) hi (by decide)), gR_t M.cW.o, M.cW.r18, Option.bind_some, aI_t (by rw [isO_cW]; exact o) (inb_of (by rw [wS_cW]; exact nn) hi (by decide)), nI_clamp (by omega), sIW, nI_1]
      congr 2
      funext j
      by_cases h1 : j = i
      · subst h1; rw [pk_us, if_pos (by omega)]
      · rw [pk_un h1]
        by_cases h2 : j < i
        · rw [if_pos h2, if_pos (by omega)]
        · rw [if_neg h2, if_neg (by omega)]
    · show f_X12_mostAlike_4 (f + 1) _ _ _ _ _ = _
      rw [f_X12_mostAlike_4, if_pos (show (6 : Int32) ≤ nI 6 by decide)]
      rfl
  rw [zero]
  refine lpE (n := 32) (F := fun f i => f_X12_mostAlike_25 f 95 (nI x) (nI (mo (wI w 96) x i)) (nI i) (cW w 104 (aT (wI w 104) (wI w 96) x i))) (fun f i hi => ?_) (fun f => ?_) 4096 (by decide)
  · show f_X12_mostAlike_25 (f + 1) _ _ _ _ _ = _
    have b1 := mo_le (wI w 96) x i
    have b2' := kN_le (wI w 96) x (lkn x i) i
    rw [f_X12_mostAlike_25, if_neg (show ¬ (32 : Int32) ≤ nI i from nI_ge (b := 32) hi (by decide)), mc_t M.cW, mayBe_eq M.cW (K := K) (by rw [e96]; exact I), cal_t, e96]
    by_cases hf : fitB (wI w 96) (nI i) = true
    · have h6 := lk_lt hx hi
      have e1 : aT (wI w 104) (wI w 96) x i (lkn x i) = nI (kN (wI w 96) x (lkn x i) i) := by rw [aT, if_pos h6]
      have e3 : kN (wI w 96) x (lkn x i) (i + 1) = kN (wI w 96) x (lkn x i) i + 1 := by rw [kN, if_pos ⟨hf, rfl⟩]
      have e2 : aT (wI w 104) (wI w 96) x (i + 1) (lkn x i) = nI (kN (wI w 96) x (lkn x i) (i + 1)) := by rw [aT, if_pos h6]
      rw [hf, b2_1, if_neg (by decide), alike_eq, lk_eq hx hi, cal_t, gR_t M.cW.o, M.cW.r18, Option.bind_some, lI_t (by rw [isO_cW]; exact o) (inb_of (by rw [wS_cW]; exact nn) h6 (by decide)), nI_clamp (by omega), cW_s, e1, nI_1, aI_t (by rw [isO_cW]; exact o) (inb_of (by rw [wS_cW]; exact nn) h6 (by decide)), nI_clamp (by omega), sIW, aT_step hx hi hf, gR_t M.cW.o, M.cW.r18, Option.bind_some, lI_t (by rw [isO_cW]; exact o) (inb_of (by rw [wS_cW]; exact nn) h6 (by decide)), nI_clamp (by omega), cW_s, e2, mo, if_pos hf]
      by_cases hc : kN (wI w 96) x (lkn x i) (i + 1) ≤ mo (wI w 96) x i
      · rw [if_pos (nI_le hc (by omega)), f_X12_mostAlike_79, f_X12_mostAlike_80, nI_1, Nat.max_eq_left hc]
      · rw [if_neg (nI_ge (by omega) (by omega)), gR_t M.cW.o, M.cW.r18, Option.bind_some, lI_t (by rw [isO_cW]; exact o) (inb_of (by rw [wS_cW]; exact nn) h6 (by decide)), nI_clamp (by omega), cW_s, e2, f_X12_mostAlike_79, f_X12_mostAlike_80, nI_1, Nat.max_eq_right (by omega)]
    · rw [Bool.not_eq_true _ |>.mp hf, b2_0, if_pos rfl, f_X12_mostAlike_80, nI_1, mo, if_neg hf, aT_no hf]
  · show f_X12_mostAlike_25 (f + 1) _ _ _ _ _ = _
    rw [f_X12_mostAlike_25, if_pos (show (32 : Int32) ≤ nI 32 by decide)]
theorem sharp_lp (H : HS w h) : ∀ (d i fuel : Nat) (T : Nat → Int32) (b : Int32) (l : Nat), i + d = 32 → d < fuel → l < 2 ^ 31 → ∃ T', f_X0_sharpestWord_19 fuel (h + 3) (nI (mskW S)) b (nI l) (nI i) (cW w (h + 7) T) = some (bst (fun x => mo S x 32) d i b l, cW w (h + 7) T') := by
  intro d
  induction d with
  | zero =>
    intro i fuel T b l hi hf hl
    obtain ⟨f, rfl⟩ : ∃ f, fuel = f + 1 := ⟨fuel - 1, by omega⟩
    obtain rfl : i = 32 := by omega
    exact ⟨T, by rw [f_X0_sharpestWord_19, if_pos (show (32 : Int32) ≤ nI 32 by decide), bst]⟩
  | succ d ih =>
    intro i fuel T b l hi hf hl
    obtain ⟨f, rfl⟩ : ∃ f, fuel = f + 1 := ⟨fuel - 1, by omega⟩
    have b1 := mo_le S i 32
    rw [f_X0_sharpestWord_19, if_neg (show ¬ (32 : Int32) ≤ nI i from nI_ge (b := 32) (by omega) (by decide)), calV_t H.cW.o3, mostAns_eq H.cW (by omega), cal_t, cW_cW, bst]
    by_cases hc : mo S i 32 < l
    · rw [if_neg (nI_ge hc hl), if_pos hc, f_X0_sharpestWord_47, nI_1]
      exact ih (i + 1) f _ _ _ (by omega) (by omega) (by omega)
    · rw [if_pos (nI_le (by omega) (by omega)), if_neg hc, f_X0_sharpestWord_47, nI_1]
      exact ih (i + 1) f _ _ _ (by omega) (by omega) hl
theorem next_lp (M : MS w) (I : Iv (wI w 96) K) (hp : ∀ x, 0 < mo (wI w 96) x 32) : ∀ (d i fuel : Nat) (T : Nat → Int32) (b : Int32) (l : Nat), i + d = 32 → d < fuel → l < 2 ^ 31 → ∃ T', f_X12_nextGuess_7 fuel 95 b (nI l) (nI i) (cW w 104 T) = some (bst (fun x => mo (wI w 96) x 32) d i b l, cW w 104 T') := by
  intro d
  induction d with
  | zero =>
    intro i fuel T b l hi hf hl
    obtain ⟨f, rfl⟩ : ∃ f, fuel = f + 1 := ⟨fuel - 1, by omega⟩
    obtain rfl : i = 32 := by omega
    exact ⟨T, by rw [f_X12_nextGuess_7, if_pos (show (32 : Int32) ≤ nI 32 by decide), bst]⟩
  | succ d ih =>
    intro i fuel T b l hi hf hl
    obtain ⟨f, rfl⟩ : ∃ f, fuel = f + 1 := ⟨fuel - 1, by omega⟩
    have e96 : wI (cW w 104 T) 96 = wI w 96 := cW_o (by decide)
    have b1 := mo_le (wI w 96) i 32
    have b0 := hp i
    rw [f_X12_nextGuess_7, if_neg (show ¬ (32 : Int32) ≤ nI i from nI_ge (b := 32) (by omega) (by decide)), mc_t M.cW, mostAlike_eq M.cW (K := K) (by rw [e96]; exact I) (by omega), cal_t, e96, cW_cW, if_neg (nI_nle b0 (by omega)), bst]
    by_cases hc : mo (wI w 96) i 32 < l
    · rw [if_neg (nI_ge hc hl), if_pos hc, f_X12_nextGuess_36, if_neg (by decide), f_X12_nextGuess_48, if_neg (by decide), f_X12_nextGuess_60, nI_1]
      exact ih (i + 1) f _ _ _ (by omega) (by omega) (by omega)
    · rw [if_pos (nI_le (by omega) (by omega)), if_neg hc, f_X12_nextGuess_35, f_X12_nextGuess_36, if_pos rfl, f_X12_nextGuess_48, if_pos rfl, f_X12_nextGuess_60, nI_1]
      exact ih (i + 1) f _ _ _ (by omega) (by omega) hl
theorem next_no (M : MS w) (I : Iv (wI w 96) K) (hp : ∀ x, mo (wI w 96) x 32 = 0) : ∀ (d i fuel : Nat) (T : Nat → Int32), i + d = 32 → d < fuel → ∃ T', f_X12_nextGuess_7 fuel 95 (-1) 99 (nI i) (cW w 104 T) = some (-1, cW w 104 T') := by
  intro d
  induction d with
  | zero =>
    intro i fuel T hi hf
    obtain ⟨f, rfl⟩ : ∃ f, fuel = f + 1 := ⟨fuel - 1, by omega⟩
    obtain rfl : i = 32 := by omega
    exact ⟨T, by rw [f_X12_nextGuess_7, if_pos (show (32 : Int32) ≤ nI 32 by decide)]⟩
  | succ d ih =>
    intro i fuel T hi hf
    obtain ⟨f, rfl⟩ : ∃ f, fuel = f + 1 := ⟨fuel - 1, by omega⟩
    have e96 : wI (cW w 104 T) 96 = wI w 96 := cW_o (by decide)
    rw [f_X12_nextGuess_7, if_neg (show ¬ (32 : Int32) ≤ nI i from nI_ge (b := 32) (by omega) (by decide)), mc_t M.cW, mostAlike_eq M.cW (K := K) (by rw [e96]; exact I) (by omega), cal_t, e96, cW_cW, hp i, if_pos (by decide), f_X12_nextGuess_35, f_X12_nextGuess_36, if_pos rfl, f_X12_nextGuess_48, if_pos rfl, f_X12_nextGuess_60, nI_1]
    exact ih (i + 1) f _ (by omega) (by omega)
theorem msk0 {m : Nat} (hm : m < 2 ^ 32) (h : nI m = 0) : m = 0 := by
  have := pk_tn hm
  rw [h] at this
  exact this.symm
theorem Qt.h7 {h0 h1 : Nat} (s : Sp w h0 h1) {T : Nat → Int32} : Qt w (cW w (h0 + 7) T) := by
  refine Qt.fr (Fr.cW (A := fun a => a = h0 + 7) rfl) (fun a ha => ?_)
  have := s.hh
  omega
theorem Qt.c {a : Nat} (ha : (72 ≤ a ∧ a < 94) ∨ 101 ≤ a) {T : Nat → Int32} : Qt w (cW w a T) := Qt.fr (Fr.cW (A := fun b => b = a) rfl) (fun b hb => by omega)
theorem p_nextGuess (V : Inv w K) : Pr w (K + 60) (f_X11_nextGuess 0) (f_X12_nextGuess 95) := by
  have M := V.ms
  obtain ⟨⟨h0, h1, s, r⟩, I, R⟩ := id V
  by_cases hf : ∃ j, j < 32 ∧ fitB (wI w 96) (nI j) = true
  · obtain ⟨j, hj, hf⟩ := hf
    have hm : mskW (wI w 96) ≠ 0 := fun q => by
      have := mskW_bit (S := wI w 96) hj
      rw [q, Nat.zero_testBit, hf] at this
      exact Bool.false_ne_true this
    have hm' : ¬ nI (mskW (wI w 96)) = 0 := fun q => hm (msk0 mskW_lt q)
    obtain ⟨T1, t1⟩ := sharp_lp (S := wI w 96) s.ho 32 0 4096 (wI w (h0 + 7)) (-1) 33 (by omega) (by omega) (by omega)
    rw [cW_id] at t1
    have e96 : wI (cW w (h0 + 7) T1) 96 = wI w 96 := cW_o (by have := s.hh; omega)
    obtain ⟨T2, t2⟩ := next_lp (w := cW w (h0 + 7) T1) M.cW (K := K) (by rw [e96]; exact I) (by rw [e96]; exact fun x => mo_pos _ x hf 32 hj) 32 0 4096 (wI (cW w (h0 + 7) T1) 104) (-1) 99 (by omega) (by omega) (by omega)
    rw [cW_id, e96] at t2
    have b0 := mo_le (wI w 96) 0 32
    have eb : bst (fun x => mo (wI w 96) x 32) 32 0 (-1) 99 = bst (fun x => mo (wI w 96) x 32) 32 0 (-1) 33 := by
      show (if mo (wI w 96) 0 32 < 99 then bst (fun x => mo (wI w 96) x 32) 31 1 (nI 0) (mo (wI w 96) 0 32) else bst (fun x => mo (wI w 96) x 32) 31 1 (-1) 99) = (if mo (wI w 96) 0 32 < 33 then bst (fun x => mo (wI w 96) x 32) 31 1 (nI 0) (mo (wI w 96) 0 32) else bst (fun x => mo (wI w 96) x 32) 31 1 (-1) 33)
      rw [if_pos (show mo (wI w 96) 0 32 < 99 by omega), if_pos (show mo (wI w 96) 0 32 < 33 by omega)]
    refine Pr.qt V (r := bst (fun x => mo (wI w 96) x 32) 32 0 (-1) 33) (w1 := cW w (h0 + 7) T1) ?_ (Qt.h7 s) (w2 := cW (cW w (h0 + 7) T1) 104 T2) ?_ (Qt.c (by omega))
    · unfold f_X11_nextGuess
      rw [ng_t s, hr1_t s, calV_t s.ho.o3]
      unfold f_X0_sharpestWord
      rw [calV_t s.ho.o3, fittingWords_row s.ho r I, cal_t, if_neg hm', show (33 : Int32) = nI 33 from rfl, show (0 : Int32) = nI 0 from rfl, t1, cal_t]
    · unfold f_X12_nextGuess
      rw [show (99 : Int32) = nI 99 from rfl, show (0 : Int32) = nI 0 from rfl, t2, eb]
  · have hn : ∀ j, j < 32 → ¬ fitB (wI w 96) (nI j) = true := fun j hj q => hf ⟨j, hj, q⟩
    have hm : mskW (wI w 96) = 0 := by
      apply Nat.eq_of_testBit_eq
      intro j
      rw [Nat.zero_testBit]
      unfold mskW
      rw [mskN_bit]
      exact decide_eq_false (fun q => hn j q.1 q.2)
    obtain ⟨T2, t2⟩ := next_no (w := w) M (K := K) I (fun x => mo_zero _ x 32 hn) 32 0 4096 (wI w 104) (by omega) (by omega)
    rw [cW_id] at t2
    refine Pr.qt V (r := -1) (w1 := w) ?_ Qt.rf (w2 := cW w 104 T2) ?_ (Qt.c (by omega))
    · unfold f_X11_nextGuess
      rw [ng_t s, hr1_t s, calV_t s.ho.o3]
      unfold f_X0_sharpestWord
      rw [calV_t s.ho.o3, fittingWords_row s.ho r I, cal_t, hm, if_pos nI_0, cal_t]
    · unfold f_X12_nextGuess
      exact t2
end R5
