/-! the reference: the most money -/
section T1
variable {w w' : Wd} {h k K K2 : Nat} {S T : Nat → Int32}
def ME (w : Wd) (S : Nat → Int32) : Prop := MS w ∧ ∀ j, j < 213 → wI w 96 j = S j
theorem ME.c (E : ME w S) {a : Nat} (ha : a ≠ 96) : ME (cW w a T) S := ⟨E.1.cW, fun j hj => by rw [cW_o (by omega)]; exact E.2 j hj⟩
theorem mGr_eq (E : ME w S) (I : Iv S K) {g : Nat} (hg : g < nn S) : f_X12_ground 95 (nI g) 0 (wI w 96 16) w = some (nI (yN S g), w) := by
  have hN := I.n.2
  obtain ⟨k, hk, ek⟩ := I.kd hg
  rw [mGround_eq E.1 (by omega) hk (by rw [E.2 _ (by omega)]; exact ek), E.2 _ (by omega), E.2 16 (by decide), ← (yN_eq I hg).1]
  unfold yI
  rw [ek, nI_clamp (by omega)]
theorem mFe_eq (E : ME w S) (I : Iv S K) {g : Nat} (hg : g < nn S) (s : Int32) : f_X12_fetches 95 (nI g) s w = some (fk (S (20 + g)).toNatClampNeg (S (32 + g)) s, w) := by
  have hN := I.n.2
  obtain ⟨k, hk, ek⟩ := I.kd hg
  rw [mFetches_eq E.1 (by omega) hk (by rw [E.2 _ (by omega)]; exact ek), E.2 _ (by omega), ek, nI_clamp (by omega)]
theorem brings_eq (E : ME w S) (I : Iv S K) {g x : Nat} (hg : g < nn S) (hx : x ≤ 12) : f_X12_brings 95 (nI g) (nI x) w = some (brI S g (x * yN S g), w) := by
  have hN := I.n.2
  have M := E.1
  have y12 := (yN_eq I hg).2
  have bd : x * yN S g ≤ 12 * 12 := Nat.mul_le_mul hx y12
  unfold f_X12_brings
  rw [mg_t M, show (16 : Int32) = nI 16 from rfl, rd_t M (by decide), mc_t M, mGr_eq E I hg, cal_t, nm_t, pk_mul]
  refine lpE (n := x * yN S g) (F := fun f i => f_X12_brings_22 f 95 (nI g) (nI (x * yN S g)) (brI S g i) (nI i) w) (fun f i hi => ?_) (fun f => ?_) 4096 (by omega)
  · show f_X12_brings_22 (f + 1) _ _ _ _ _ _ = f_X12_brings_22 f 95 (nI g) (nI (x * yN S g)) (brI S g (i + 1)) (nI (i + 1)) w
    have c6 : (6 : Int32) + nI g = nI (6 + g) := nI_add 6 g
    rw [f_X12_brings_22, if_neg (nI_ge hi (by omega)), mg_t M, c6, rd_t M (by omega), mc_t M, mFe_eq E I hg, cal_t, nm_t, nI_1, E.2 _ (by omega)]
    rfl
  · show f_X12_brings_22 (f + 1) _ _ _ _ _ _ = _
    rw [f_X12_brings_22, if_pos (nI_le (by omega) (by omega))]
def Rm (S : Nat → Int32) (T : Nat → Int32) (g c : Nat) : Prop := ∀ m, m < c → T (13 * g + m) = MO S (nn S) g m
theorem i13 {g b : Nat} : (13 : Int32) * nI g + nI b = nI (13 * g + b) := by rw [show (13 : Int32) = nI 13 from rfl, pk_mul, nI_add]
theorem rBase_lp (E : ME w S) (I : Iv S K) {n : Nat} (hn : n ≤ 12) : ∀ (d i fuel : Nat) (T : Nat → Int32), i + d = n + 1 → d < fuel → Rm S T (nn S) i → ∃ T', f_X12_layRichest_2 fuel 95 (nI n) (nI i) (cW w 103 T) = f_X12_layRichest_41 4096 95 (nI n) (nI (nn S) + (-1)) (cW w 103 T') ∧ Rm S T' (nn S) (n + 1) := by
  have hN := I.n.2
  intro d
  induction d with
  | zero =>
    intro i fuel T hi hf hT
    obtain ⟨f, rfl⟩ : ∃ f, fuel = f + 1 := ⟨fuel - 1, by omega⟩
    obtain rfl : i = n + 1 := by omega
    refine ⟨T, ?_, hT⟩
    have M' := (E.c (T := T) (show 103 ≠ 96 by decide)).1
    rw [f_X12_layRichest_2, if_pos (nI_lt (by omega) (by omega)), mg_t M', show (19 : Int32) = nI 19 from rfl, rd_t M' (by decide), cW_o (by decide), E.2 19 (by decide), I.n.1, nm_t, Int32.sub_eq_add_neg]
  | succ d ih =>
    intro i fuel T hi hf hT
    obtain ⟨f, rfl⟩ : ∃ f, fuel = f + 1 := ⟨fuel - 1, by omega⟩
    have M' := (E.c (T := T) (show 103 ≠ 96 by decide)).1
    obtain ⟨T', t1, t2⟩ := ih (i + 1) f (upd T (13 * nn S + i) 0) (by omega) (by omega) (fun b hb => by
      by_cases e : b = i
      · rw [e, pk_us, MO_N]
      · rw [pk_un (by omega)]
        exact hT b (by omega))
    refine ⟨T', ?_, t2⟩
    rw [f_X12_layRichest_2, if_neg (nI_nlt (by omega) (by omega)), M'.rf 95 12 17 103 (by decide) (by decide), mg_t M', show (19 : Int32) = nI 19 from rfl, rd_t M' (by decide), cW_o (by decide), E.2 19 (by decide), I.n.1, i13, ms_st M' 103 91 (by decide) (by decide) (by omega) (by decide), cW_s, cW_cW, nI_1]
    exact t1
theorem rCell_eq (E : ME w S) (I : Iv S K) {n g m : Nat} (hn : n ≤ 12) (hg : g < nn S) (hm : m ≤ n) (hT : Rm S (wI w 103) (g + 1) (n + 1)) (rec41 : Nat → Int32 → Int32 → Wd → Option (Unit × Wd)) (rec : Nat → Int32 → Int32 → Int32 → Wd → Option (Unit × Wd)) : f_X12_layRichest_58 rec41 rec 4096 95 (nI n) (nI g) (nI m) 0 0 w = rec 95 (nI n) (nI g) (nI (m + 1)) (cW w 103 (upd (wI w 103) (13 * g + m) (MO S (nn S) g m))) := by
  have hN := I.n.2
  have M := E.1
  rw [MO_s hg]
  refine lpE (n := m + 1) (F := fun f x => f_X12_layRichest_58 rec41 rec f 95 (nI n) (nI g) (nI m) (mxI (mof S (nn S) g m) x) (nI x) w) (fun f x hx => ?_) (fun f => ?_) 4096 (by omega)
  · show f_X12_layRichest_58 _ _ (f + 1) _ _ _ _ _ _ _ = f_X12_layRichest_58 rec41 rec f 95 (nI n) (nI g) (nI m) (f_mmax (mxI (mof S (nn S) g m) x) (mof S (nn S) g m x)) (nI (x + 1)) w
    have e1 : (13 : Int32) * (nI g + 1) + nI m - nI x = nI (13 * (g + 1) + (m - x)) := by
      rw [nI_1, i13, pk_sub (by omega)]
      congr 1
      omega
    have e2 : brI S g (x * yN S g) + MO S (nn S) (g + 1) (m - x) = mof S (nn S) g m x := rfl
    rw [f_X12_layRichest_58, if_neg (nI_nlt (by omega) (by omega)), mc_t M, brings_eq E I hg (by omega), cal_t, M.rf 95 12 17 103 (by decide) (by decide), e1, M.ld 103 91 (by decide) (by decide) (by omega) (by decide), hT (m - x) (by omega), nm_t, e2]
    unfold f_mmax
    by_cases c : mxI (mof S (nn S) g m) x < mof S (nn S) g m x
    · rw [if_neg (Int32.not_le.mpr c), if_pos c, f_X12_layRichest_104, nI_1]
    · rw [if_pos (Int32.not_lt.mp c), if_neg c, f_X12_layRichest_104, nI_1]
  · show f_X12_layRichest_58 _ _ (f + 1) _ _ _ _ _ _ _ = _
    rw [f_X12_layRichest_58, if_pos (nI_lt (by omega) (by omega)), M.rf 95 12 17 103 (by decide) (by decide), i13, ms_st M 103 91 (by decide) (by decide) (by omega) (by decide), nI_1]
theorem rRow_lp (E : ME w S) (I : Iv S K) {n g : Nat} (hn : n ≤ 12) (hg : g < nn S) (rec41 : Nat → Int32 → Int32 → Wd → Option (Unit × Wd)) : ∀ (d m fuel : Nat) (T : Nat → Int32), m + d = n + 1 → d < fuel → Rm S T g m → (∀ g', g < g' → g' ≤ nn S → Rm S T g' (n + 1)) → ∃ T', f_X12_layRichest_47 rec41 fuel 95 (nI n) (nI g) (nI m) (cW w 103 T) = rec41 95 (nI n) (nI g + (-1)) (cW w 103 T') ∧ ∀ g', g ≤ g' → g' ≤ nn S → Rm S T' g' (n + 1) := by
  have hN := I.n.2
  intro d
  induction d with
  | zero =>
    intro m fuel T hm hf hT hA
    obtain ⟨f, rfl⟩ : ∃ f, fuel = f + 1 := ⟨fuel - 1, by omega⟩
    obtain rfl : m = n + 1 := by omega
    refine ⟨T, ?_, fun g' h1 h2 => ?_⟩
    · rw [f_X12_layRichest_47, if_pos (nI_lt (by omega) (by omega))]
    · by_cases e : g' = g
      · rw [e]; exact hT
      · exact hA g' (by omega) h2
  | succ d ih =>
    intro m fuel T hm hf hT hA
    obtain ⟨f, rfl⟩ : ∃ f, fuel = f + 1 := ⟨fuel - 1, by omega⟩
    have E' := E.c (T := T) (show 103 ≠ 96 by decide)
    have key := rCell_eq E' I hn hg (show m ≤ n by omega) (by rw [cW_s]; exact hA (g + 1) (by omega) (by omega)) rec41 (f_X12_layRichest_47 rec41 f)
    rw [cW_s, cW_cW] at key
    obtain ⟨T', t1, t2⟩ := ih (m + 1) f (upd T (13 * g + m) (MO S (nn S) g m)) (by omega) (by omega) (fun b hb => by
      by_cases e : b = m
      · rw [e, pk_us]
      · rw [pk_un (by omega)]
        exact hT b (by omega)) (fun g' h1 h2 b hb => by
      rw [pk_un (by omega)]
      exact hA g' h1 h2 b hb)
    refine ⟨T', ?_, t2⟩
    rw [f_X12_layRichest_47, if_neg (nI_nlt (by omega) (by omega)), key]
    exact t1
theorem rRows_lp (E : ME w S) (I : Iv S K) {n : Nat} (hn : n ≤ 12) : ∀ (g fuel : Nat) (T : Nat → Int32), g < fuel → g ≤ nn S → (∀ g', g ≤ g' → g' ≤ nn S → Rm S T g' (n + 1)) → ∃ T', f_X12_layRichest_41 fuel 95 (nI n) (nI g + (-1)) (cW w 103 T) = some ((), cW w 103 T') ∧ ∀ g', g' ≤ nn S → Rm S T' g' (n + 1) := by
  have hN := I.n.2
  intro g
  induction g with
  | zero =>
    intro fuel T hf hg hT
    obtain ⟨f, rfl⟩ : ∃ f, fuel = f + 1 := ⟨fuel - 1, by omega⟩
    refine ⟨T, ?_, fun g' h => hT g' (Nat.zero_le _) h⟩
    rw [f_X12_layRichest_41, if_pos (by decide)]
  | succ g ih =>
    intro fuel T hf hg hT
    obtain ⟨f, rfl⟩ : ∃ f, fuel = f + 1 := ⟨fuel - 1, by omega⟩
    obtain ⟨T1, t1, r1⟩ := rRow_lp E I hn (show g < nn S by omega) (f_X12_layRichest_41 f) (n + 1) 0 4096 T (by omega) (by omega) (fun b hb => absurd hb (by omega)) (fun g' h1 h2 => hT g' (by omega) h2)
    obtain ⟨T2, t2, r2⟩ := ih f T1 (by omega) (by omega) r1
    refine ⟨T2, ?_, r2⟩
    rw [pk_m1, f_X12_layRichest_41, if_neg (nI_pos (by omega))]
    exact t1.trans t2
theorem layRichest_eq (E : ME w S) (I : Iv S K) {n : Nat} (hn : n ≤ 12) : ∃ T', f_X12_layRichest 95 (nI n) w = some ((), cW w 103 T') ∧ ∀ g', g' ≤ nn S → Rm S T' g' (n + 1) := by
  have hN := I.n.2
  obtain ⟨T1, t1, r1⟩ := rBase_lp E I hn (n + 1) 0 4096 (wI w 103) (by omega) (by omega) (fun b hb => absurd hb (by omega))
  obtain ⟨T2, t2, r2⟩ := rRows_lp E I hn (nn S) 4096 T1 (by omega) (by omega) (fun g' h1 h2 => by rw [show g' = nn S by omega]; exact r1)
  refine ⟨T2, ?_, r2⟩
  rw [cW_id] at t1
  unfold f_X12_layRichest
  exact t1.trans t2
theorem rDown_lp (E : ME w S) (I : Iv S K) {n g l : Nat} {iI : Int32} (hn : n ≤ 12) (hg : g < nn S) (hl : l ≤ n) (hT : ∀ g', g' ≤ nn S → Rm S (wI w 103) g' (n + 1)) (rec : Nat → Int32 → Int32 → Int32 → Int32 → Wd → Option (Int32 × Wd)) : ∀ (x fuel : Nat), x < fuel → x ≤ l → (∃ j, j ≤ x ∧ mof S (nn S) g l j = MO S (nn S) g l) → f_X12_best_62 rec fuel 95 iI (nI l) (nI x) (nI g) w = rec 95 iI (nI (l - wyN (mof S (nn S) g l) (MO S (nn S) g l) x)) (nI (wyN (mof S (nn S) g l) (MO S (nn S) g l) x)) (nI (g + 1)) w := by
  have hN := I.n.2
  have M := E.1
  have one : ∀ (x f : Nat), x ≤ l → f_X12_best_62 rec (f + 1) 95 iI (nI l) (nI x) (nI g) w = if mof S (nn S) g l x = MO S (nn S) g l then rec 95 iI (nI (l - x)) (nI x) (nI (g + 1)) w else f_X12_best_62 rec f 95 iI (nI l) (nI x + (-1)) (nI g) w := by
    intro x f hx
    have e1 : (13 : Int32) * (nI g + 1) + nI l - nI x = nI (13 * (g + 1) + (l - x)) := by
      rw [nI_1, i13, pk_sub (by omega)]
      congr 1
      omega
    have e2 : brI S g (x * yN S g) + MO S (nn S) (g + 1) (l - x) = mof S (nn S) g l x := rfl
    rw [f_X12_best_62, mc_t M, brings_eq E I hg (by omega), cal_t, M.rf 95 12 17 103 (by decide) (by decide), e1, M.ld 103 91 (by decide) (by decide) (by omega) (by decide), hT (g + 1) (by omega) _ (by omega), M.rf 95 12 17 103 (by decide) (by decide), i13, M.ld 103 91 (by decide) (by decide) (by omega) (by decide), hT g (by omega) l (by omega), e2, nm_t, pk_sub hx, nI_1]
  intro x
  induction x with
  | zero =>
    intro fuel hf hx ⟨j, hj, ej⟩
    obtain ⟨f, rfl⟩ : ∃ f, fuel = f + 1 := ⟨fuel - 1, by omega⟩
    obtain rfl : j = 0 := by omega
    rw [one 0 f hx, if_pos ej, wyN]
  | succ x ih =>
    intro fuel hf hx ⟨j, hj, ej⟩
    obtain ⟨f, rfl⟩ : ∃ f, fuel = f + 1 := ⟨fuel - 1, by omega⟩
    rw [one (x + 1) f hx, wyN]
    by_cases c : mof S (nn S) g l (x + 1) = MO S (nn S) g l
    · rw [if_pos c, if_pos c]
    · rw [if_neg c, if_neg c, pk_m1]
      refine ih f (by omega) (by omega) ⟨j, ?_, ej⟩
      by_cases e : j = x + 1
      · rw [e] at ej; exact absurd ej c
      · omega
def hbI (S : Nat → Int32) (N n : Nat) : Nat → Int32
  | 0 => 0
  | g + 1 => wbI S N n g
theorem mBest_lp (E : ME w S) (I : Iv S K) {n i : Nat} (hn : n ≤ 12) (hi : i < nn S) (hT : ∀ g', g' ≤ nn S → Rm S (wI w 103) g' (n + 1)) : f_X12_best_53 4096 95 (nI i) (nI n) 0 0 w = some (wbI S (nn S) n i, w) := by
  have hN := I.n.2
  refine lpE (n := i + 1) (F := fun f g => f_X12_best_53 f 95 (nI i) (nI (lbN S (nn S) n g)) (hbI S (nn S) n g) (nI g) w) (fun f g hg => ?_) (fun f => ?_) 4096 (by omega)
  · show f_X12_best_53 (f + 1) _ _ _ _ _ _ = f_X12_best_53 f 95 (nI i) (nI (lbN S (nn S) n (g + 1))) (wbI S (nn S) n g) (nI (g + 1)) w
    have lb := lbN_le S (nn S) n g
    have ex := mxI_ex (mof_0 (S := S) (N := nn S) (g := g) (m := lbN S (nn S) n g) (by omega)) (lbN S (nn S) n g)
    rw [← MO_s (by omega)] at ex
    rw [f_X12_best_53, if_neg (nI_nlt (by omega) (by omega)), rDown_lp E I hn (show g < nn S by omega) lb hT (f_X12_best_53 f) _ 4096 (by omega) (Nat.le_refl _) ex]
    rfl
  · show f_X12_best_53 (f + 1) _ _ _ _ _ _ = _
    rw [f_X12_best_53, if_pos (nI_lt (by omega) (by omega))]
    rfl
theorem best_core (V : Inv w K) {n : Nat} (hn : n ≤ 12) {y : Int32} (hy : y = -1 ∨ hasg (nn (wI w 96)) y) : Pq w (f_X11_best_31 0 (nI n) y) (f_X12_best_28 95 (nI n) y) := by
  have M := V.ms
  obtain ⟨⟨h0, h1, s, r⟩, I, R⟩ := id V
  have hN := I.n.2
  obtain ⟨w1, q1, e1, k1⟩ := mostMoney_eq M s.ho r I (by have := s.hh; omega) hn
  have M1 : MS w1 := M.to q1.1
  have E1 : ME w1 (wI w 96) := ⟨M1, fun j hj => q1.2.2.2.2.2 j (by omega)⟩
  obtain ⟨T2, t2, r2⟩ := layRichest_eq E1 I hn
  have M2 : MS (cW w1 103 T2) := M1.cW
  have q2 : Qt w1 (cW w1 103 T2) := Qt.c (by omega)
  have rn : T2 n = MO (wI w 96) (nn (wI w 96)) 0 n := by
    have := r2 0 (Nat.zero_le _) n (by omega)
    rw [Nat.mul_zero, Nat.zero_add] at this
    exact this
  rcases hy with rfl | ⟨i, hi, rfl⟩
  · refine ⟨MO (wI w 96) (nn (wI w 96)) 0 n, w1, cW w1 103 T2, ?_, q1, ?_, q2⟩
    · unfold f_X11_best_31
      rw [M.rf 0 11 3 72 (by decide) (by decide), ng_t s, M.cv 72 7 (by decide), e1, cal_t, if_pos rfl, f_X11_best_62]
    · unfold f_X12_best_28
      rw [mc_t M1, t2, cal_t, if_pos rfl, M2.rf 95 12 17 103 (by decide) (by decide), M2.ld 103 91 (by decide) (by decide) (by omega) (by decide), cW_s, rn]
  · have i1 : ¬ nI i = -1 := nI_ne_m1 (by omega)
    refine ⟨wbI (wI w 96) (nn (wI w 96)) n i, w1, cW w1 103 T2, ?_, q1, ?_, q2⟩
    · unfold f_X11_best_31
      rw [M.rf 0 11 3 72 (by decide) (by decide), ng_t s, M.cv 72 7 (by decide), e1, cal_t, if_neg i1, M1.rf 0 11 3 72 (by decide) (by decide), M1.rf 72 7 0 73 (by decide) (by decide), M1.ld 73 6 (by decide) (by decide) (by omega) (by decide), k1 i hi, f_X11_best_62]
    · unfold f_X12_best_28
      rw [mc_t M1, t2, cal_t, if_neg i1, mBest_lp (E1.c (by decide)) I hn hi (by rw [cW_s]; exact r2)]
theorem p_best (V : Inv w K) (x y : Int32) : Pr w (K + 60) (f_X11_best 0 x y) (f_X12_best 95 x y) := by
  have M := V.ms
  obtain ⟨⟨h0, h1, s, r⟩, I, R⟩ := id V
  have hN := I.n.2
  have bad : (f_X11_best_26 0 w = some (-10, cW w 94 (rfT 0 (wI w 94)))) := by
    unfold f_X11_best_26
    rw [cc_t M, cRefA M, cal_t]
  have bad2 : ∀ w', MS w' → (f_X12_best_23 95 w' = some (-10, cW w' 98 (rfT 0 (wI w' 98)))) := fun w' M' => by
    unfold f_X12_best_23
    rw [mc_t M', mBadTen M', cal_t]
  have e9 : ∀ T, wI (cW w 94 T) 96 = wI w 96 := fun T => cW_o (by decide)
  have J9 : ∀ T, Iv (wI (cW w 94 T) 96) K := fun T => by rw [e9]; exact I
  by_cases hx : 0 ≤ x ∧ x ≤ 12
  · by_cases hy : y = -1
    · obtain ⟨n, hn, rfl⟩ := rng 12 hx (by decide)
      obtain ⟨rr, w1, w2, a, q, b, qb⟩ := best_core V hn (Or.inl hy)
      refine Pr.qt V (r := rr) ?_ q ?_ qb
      · unfold f_X11_best
        rw [within_eq, if_pos hx, cal_t, if_neg (by decide), if_pos hy]
        exact a
      · unfold f_X12_best
        rw [in_eq, if_pos hx, cal_t, if_neg (by decide), if_pos hy]
        exact b
    · by_cases hg : hasg (nn (wI w 96)) y
      · obtain ⟨n, hn, rfl⟩ := rng 12 hx (by decide)
        obtain ⟨rr, w1, w2, a, q, b, qb⟩ := best_core V hn (Or.inr hg)
        obtain ⟨i, hi, rfl⟩ := hg
        refine Pr.qt V (r := rr) ?_ q ?_ qb
        · unfold f_X11_best
          rw [within_eq, if_pos hx, cal_t, if_neg (by decide), if_neg hy, ng_t s, hc_t s, hasY s r I hi, cal_t, if_neg (by decide)]
          exact a
        · have M1 : MS w1 := M.to q.1
          have I1 : Iv (wI w1 96) K := I.ext (fun j hj => q.2.2.2.2.2 j (by omega))
          have n1 : nn (wI w1 96) = nn (wI w 96) := by unfold nn; rw [q.2.2.2.2.2 19 (by decide)]
          unfold f_X12_best
          rw [in_eq, if_pos hx, cal_t, if_neg (by decide), if_neg hy, mc_t M1, mGoodsY M1 I1 (by rw [n1]; exact hi), cal_t, if_neg (by decide)]
          exact b
      · refine Pr.rfj (r := -10) V 0 (by decide) ?_ ?_
        · unfold f_X11_best
          rw [within_eq, if_pos hx, cal_t, if_neg (by decide), if_neg hy, ng_t s, hc_t s, hasN s r I hg, cal_t, if_pos rfl, bad]
        · unfold f_X12_best
          rw [in_eq, if_pos hx, cal_t, if_neg (by decide), if_neg hy, mc_t M.cW, mGoodsN M.cW (J9 _) (by rw [e9]; exact hg), cal_t, if_pos rfl, bad2 _ M.cW]
  · refine Pr.rfj (r := -10) V 0 (by decide) ?_ ?_
    · unfold f_X11_best
      rw [within_eq, if_neg hx, cal_t, if_pos rfl, bad]
    · unfold f_X12_best
      rw [in_eq, if_neg hx, cal_t, if_pos rfl, bad2 _ M.cW]
end T1
