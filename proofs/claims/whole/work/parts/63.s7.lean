/-! the reference's plans: just -/
section S7
variable {w w' : Wd} {h k K K2 : Nat} {S T : Nat → Int32}
def Rw (y : Nat → Nat) (N : Nat) (T : Nat → Int32) (g c : Nat) : Prop := ∀ b, b < c → T (61 * g + b) = nI (op y N 999 g b)
theorem i61 {g b : Nat} : (61 : Int32) * nI g + nI b = nI (61 * g + b) := by rw [show (61 : Int32) = nI 61 from rfl, pk_mul, nI_add]
theorem mBase_lp (M : MS w) {y : Nat → Nat} {N n : Nat} (hN : N ≤ 6) (hn : n ≤ 60) (e19 : wI w 96 19 = nI N) : ∀ (d i fuel : Nat) (T : Nat → Int32), i + d = n + 1 → d < fuel → Rw y N T N i → ∃ T', f_X12_layFewest_2 fuel 95 (nI n) (nI i) (cW w 102 T) = f_X12_layFewest_51 4096 95 (nI n) (nI N + (-1)) (cW w 102 T') ∧ Rw y N T' N (n + 1) := by
  intro d
  induction d with
  | zero =>
    intro i fuel T hi hf hT
    obtain ⟨f, rfl⟩ : ∃ f, fuel = f + 1 := ⟨fuel - 1, by omega⟩
    obtain rfl : i = n + 1 := by omega
    refine ⟨T, ?_, hT⟩
    rw [f_X12_layFewest_2, if_pos (nI_lt (by omega) (by omega)), mg_t M.cW, show (19 : Int32) = nI 19 from rfl, rd_t M.cW (by decide), cW_o (by decide), e19, nm_t, Int32.sub_eq_add_neg]
  | succ d ih =>
    intro i fuel T hi hf hT
    obtain ⟨f, rfl⟩ : ∃ f, fuel = f + 1 := ⟨fuel - 1, by omega⟩
    have M' : MS (cW w 102 T) := M.cW
    have key : f_X12_layFewest_2 (f + 1) 95 (nI n) (nI i) (cW w 102 T) = f_X12_layFewest_2 f 95 (nI n) (nI (i + 1)) (cW w 102 (upd T (61 * N + i) (nI (op y N 999 N i)))) := by
      rw [f_X12_layFewest_2, if_neg (nI_nlt (by omega) (by omega)), M'.rf 95 12 16 102 (by decide) (by decide), mg_t M', show (19 : Int32) = nI 19 from rfl, rd_t M' (by decide), cW_o (by decide), e19, i61, op_last]
      by_cases h0 : i = 0
      · rw [h0, if_pos rfl, if_pos nI_0, f_X12_layFewest_34, ms_st M' 102 427 (by decide) (by decide) (by omega) (by decide), cW_s, cW_cW, nI_1]
        rfl
      · rw [if_neg (nI_ne0 (by omega) (by omega)), if_neg h0, f_X12_layFewest_34, ms_st M' 102 427 (by decide) (by decide) (by omega) (by decide), cW_s, cW_cW, nI_1]
        rfl
    rw [key]
    refine ih (i + 1) f _ (by omega) (by omega) (fun b hb => ?_)
    by_cases e : b = i
    · rw [e, pk_us]
    · rw [pk_un (by omega)]
      exact hT b (by omega)
theorem mRow_lp (M : MS w) {y : Nat → Nat} {N n g : Nat} (hN : N ≤ 6) (hn : n ≤ 60) (hg : g < N) (hy : y g ≤ 12) (rec : Nat → Int32 → Int32 → Wd → Option (Unit × Wd)) : ∀ (d b fuel : Nat) (T : Nat → Int32), b + d = n + 1 → d < fuel → Rw y N T g b → (∀ g', g < g' → g' ≤ N → Rw y N T g' (n + 1)) → ∃ T', f_X12_layFewest_72 rec fuel 95 (nI n) (nI g) (nI (y g)) (nI b) (cW w 102 T) = rec 95 (nI n) (nI g + (-1)) (cW w 102 T') ∧ ∀ g', g ≤ g' → g' ≤ N → Rw y N T' g' (n + 1) := by
  intro d
  induction d with
  | zero =>
    intro b fuel T hb hf hT hA
    obtain ⟨f, rfl⟩ : ∃ f, fuel = f + 1 := ⟨fuel - 1, by omega⟩
    obtain rfl : b = n + 1 := by omega
    refine ⟨T, ?_, fun g' h1 h2 => ?_⟩
    · rw [f_X12_layFewest_72, if_pos (nI_lt (by omega) (by omega))]
    · by_cases e : g' = g
      · rw [e]; exact hT
      · exact hA g' (by omega) h2
  | succ d ih =>
    intro b fuel T hb hf hT hA
    obtain ⟨f, rfl⟩ : ∃ f, fuel = f + 1 := ⟨fuel - 1, by omega⟩
    have M' : MS (cW w 102 T) := M.cW
    have bu := op_le (y := y) (N := N) (B := 999) (g := g + 1) (b := b) (by omega) (by decide)
    have e1 : (61 : Int32) * (nI g + 1) + nI b = nI (61 * (g + 1) + b) := by rw [nI_1, i61]
    have fin : ∀ W : Nat, W < 2 ^ 31 → f_X12_layFewest_126 rec (f_X12_layFewest_72 rec f) 95 (nI n) (nI g) (nI (y g)) (nI b) (nI (op y N 999 (g + 1) b)) (nI W) (cW w 102 T) = f_X12_layFewest_72 rec f 95 (nI n) (nI g) (nI (y g)) (nI (b + 1)) (cW w 102 (upd T (61 * g + b) (nI (if W < op y N 999 (g + 1) b then W else op y N 999 (g + 1) b)))) := fun W hW => by
      rw [f_X12_layFewest_126, M'.rf 95 12 16 102 (by decide) (by decide), i61]
      by_cases c : W < op y N 999 (g + 1) b
      · rw [if_neg (nI_ge c (by omega)), if_pos c, f_X12_layFewest_153, ms_st M' 102 427 (by decide) (by decide) (by omega) (by decide), cW_s, cW_cW, nI_1]
      · rw [if_pos (nI_le (by omega) hW), if_neg c, f_X12_layFewest_153, ms_st M' 102 427 (by decide) (by decide) (by omega) (by decide), cW_s, cW_cW, nI_1]
    have key : f_X12_layFewest_72 rec (f + 1) 95 (nI n) (nI g) (nI (y g)) (nI b) (cW w 102 T) = f_X12_layFewest_72 rec f 95 (nI n) (nI g) (nI (y g)) (nI (b + 1)) (cW w 102 (upd T (61 * g + b) (nI (op y N 999 g b)))) := by
      rw [op_step hg (show b ≤ 60 by omega), f_X12_layFewest_72, if_neg (nI_nlt (by omega) (by omega)), M'.rf 95 12 16 102 (by decide) (by decide), e1, M'.ld 102 427 (by decide) (by decide) (by omega) (by decide), cW_s, hA (g + 1) (by omega) (by omega) b (by omega)]
      by_cases y0 : y g = 0
      · have z : ¬ (0 < y g ∧ y g ≤ b) := fun q => by omega
        rw [if_neg z, if_pos (show nI (y g) ≤ 0 from by rw [y0]; decide), f_X12_layFewest_123]
        exact fin 999 (by decide)
      · rw [if_neg (nI_nle (by omega) (by omega))]
        by_cases yb : b < y g
        · have z : ¬ (0 < y g ∧ y g ≤ b) := fun q => by omega
          rw [if_neg z, if_pos (nI_lt yb (by omega)), f_X12_layFewest_123]
          exact fin 999 (by decide)
        · have z : 0 < y g ∧ y g ≤ b := ⟨by omega, by omega⟩
          have bv := op_le (y := y) (N := N) (B := 999) (g := g) (b := b - y g) (by omega) (by decide)
          have ev := hT (b - y g) (by omega)
          have ei : 61 * g + b - y g = 61 * g + (b - y g) := by omega
          rw [if_pos z, if_neg (nI_nlt (by omega) (by omega)), M'.rf 95 12 16 102 (by decide) (by decide), i61, pk_sub (by omega), ei, M'.ld 102 427 (by decide) (by decide) (by omega) (by decide), cW_s, ev, show (1 : Int32) = nI 1 from rfl, nI_add]
          exact fin _ (by omega)
    rw [key]
    refine ih (b + 1) f _ (by omega) (by omega) (fun b' hb' => ?_) (fun g' h1 h2 b' hb' => ?_)
    · by_cases e : b' = b
      · rw [e, pk_us]
      · rw [pk_un (by omega)]
        exact hT b' (by omega)
    · rw [pk_un (by omega)]
      exact hA g' h1 h2 b' hb'
theorem mRows_lp (M : MS w) {y : Nat → Nat} {N n : Nat} (hN : N ≤ 6) (hn : n ≤ 60) (hy : ∀ g, g < N → (∃ k, k < 6 ∧ wI w 96 (20 + g) = nI k ∧ gk k (wI w 96 (26 + g)) 0 (wI w 96 16) = nI (y g)) ∧ y g ≤ 12) : ∀ (g fuel : Nat) (T : Nat → Int32), g < fuel → g ≤ N → (∀ g', g ≤ g' → g' ≤ N → Rw y N T g' (n + 1)) → ∃ T', f_X12_layFewest_51 fuel 95 (nI n) (nI g + (-1)) (cW w 102 T) = some ((), cW w 102 T') ∧ ∀ g', g' ≤ N → Rw y N T' g' (n + 1) := by
  intro g
  induction g with
  | zero =>
    intro fuel T hf hg hT
    obtain ⟨f, rfl⟩ : ∃ f, fuel = f + 1 := ⟨fuel - 1, by omega⟩
    refine ⟨T, ?_, fun g' h => hT g' (Nat.zero_le _) h⟩
    rw [f_X12_layFewest_51, if_pos (by decide)]
  | succ g ih =>
    intro fuel T hf hg hT
    obtain ⟨f, rfl⟩ : ∃ f, fuel = f + 1 := ⟨fuel - 1, by omega⟩
    have M' : MS (cW w 102 T) := M.cW
    obtain ⟨⟨k, hk, ek, eg⟩, y12⟩ := hy g (by omega)
    have e96 : wI (cW w 102 T) 96 = wI w 96 := cW_o (by decide)
    obtain ⟨T1, t1, r1⟩ := mRow_lp M hN hn (show g < N by omega) y12 (f_X12_layFewest_51 f) (n + 1) 0 4096 T (by omega) (by omega) (fun b hb => absurd hb (by omega)) (fun g' h1 h2 => hT g' (by omega) h2)
    obtain ⟨T2, t2, r2⟩ := ih f T1 (by omega) (by omega) r1
    refine ⟨T2, ?_, r2⟩
    rw [pk_m1, f_X12_layFewest_51, if_neg (nI_pos (by omega)), mg_t M', show (16 : Int32) = nI 16 from rfl, rd_t M' (by decide), mc_t M', mGround_eq M' (by omega) hk (by rw [e96]; exact ek), cal_t, e96, eg]
    exact t1.trans t2
theorem layFewest_eq (M : MS w) {y : Nat → Nat} {N n : Nat} (hN : N ≤ 6) (hn : n ≤ 60) (e19 : wI w 96 19 = nI N) (hy : ∀ g, g < N → (∃ k, k < 6 ∧ wI w 96 (20 + g) = nI k ∧ gk k (wI w 96 (26 + g)) 0 (wI w 96 16) = nI (y g)) ∧ y g ≤ 12) : ∃ T', f_X12_layFewest 95 (nI n) w = some ((), cW w 102 T') ∧ ∀ g', g' ≤ N → Rw y N T' g' (n + 1) := by
  obtain ⟨T1, t1, r1⟩ := mBase_lp (w := w) (y := y) M hN hn e19 (n + 1) 0 4096 (wI w 102) (by omega) (by omega) (fun b hb => absurd hb (by omega))
  obtain ⟨T2, t2, r2⟩ := mRows_lp (w := w) M hN hn hy N 4096 T1 (by omega) (by omega) (fun g' h1 h2 => by rw [show g' = N by omega]; exact r1)
  refine ⟨T2, ?_, r2⟩
  rw [cW_id] at t1
  unfold f_X12_layFewest
  exact t1.trans t2
theorem mDown_lp (M : MS w) {y : Nat → Nat} {N n g l k : Nat} {iI : Int32} (hN : N ≤ 6) (hn : n ≤ 60) (hg : g < N) (hl : l ≤ n) (hT : ∀ g', g' ≤ N → Rw y N (wI w 102) g' (n + 1)) (k1 : k * y g ≤ l) (k2 : k ≤ 60) (hk : k + op y N 999 (g + 1) (l - k * y g) = op y N 999 g l) (hr : ∀ e, 0 < e → 0 < y g → (k + e) * y g ≤ l → ¬ (k + e) + op y N 999 (g + 1) (l - (k + e) * y g) = op y N 999 g l) (rec : Nat → Int32 → Int32 → Int32 → Int32 → Wd → Option (Int32 × Wd)) : ∀ (e fuel : Nat), e < fuel → k + e ≤ 60 → (0 < e → 0 < y g) → (k + e) * y g ≤ l → f_X12_just_104 rec fuel 95 iI (nI l) (nI (k + e)) (nI g) (nI (y g)) w = rec 95 iI (nI (l - k * y g)) (nI k) (nI (g + 1)) w := by
  have one : ∀ (hh f : Nat), hh ≤ 60 → hh * y g ≤ l → f_X12_just_104 rec (f + 1) 95 iI (nI l) (nI hh) (nI g) (nI (y g)) w = if hh + op y N 999 (g + 1) (l - hh * y g) = op y N 999 g l then rec 95 iI (nI (l - hh * y g)) (nI hh) (nI (g + 1)) w else f_X12_just_104 rec f 95 iI (nI l) (nI hh + (-1)) (nI g) (nI (y g)) w := by
    intro hh f h60 hle
    have b1 := op_le (y := y) (N := N) (B := 999) (g := g + 1) (b := l - hh * y g) (by omega) (by decide)
    have b2 := op_le (y := y) (N := N) (B := 999) (g := g) (b := l) (by omega) (by decide)
    have e1 : (61 : Int32) * (nI g + 1) + nI l - nI hh * nI (y g) = nI (61 * (g + 1) + (l - hh * y g)) := by
      rw [nI_1, i61, pk_mul, pk_sub (by omega)]
      congr 1
      omega
    rw [f_X12_just_104, M.rf 95 12 16 102 (by decide) (by decide), e1, M.ld 102 427 (by decide) (by decide) (by omega) (by decide), M.rf 95 12 16 102 (by decide) (by decide), i61, M.ld 102 427 (by decide) (by decide) (by omega) (by decide), hT (g + 1) (by omega) _ (by omega), hT g (by omega) l (by omega), nI_add]
    by_cases c : hh + op y N 999 (g + 1) (l - hh * y g) = op y N 999 g l
    · rw [if_pos ((nI_eq (by omega) (by omega)).mpr c), if_pos c, nm_t, pk_mul, pk_sub hle, nI_1]
    · rw [if_neg (fun q => c ((nI_eq (by omega) (by omega)).mp q)), if_neg c]
  intro e
  induction e with
  | zero =>
    intro fuel hf _ _ _
    obtain ⟨f, rfl⟩ : ∃ f, fuel = f + 1 := ⟨fuel - 1, by omega⟩
    rw [Nat.add_zero k, one k f k2 k1, if_pos hk]
  | succ e ih =>
    intro fuel hf h60 hy hle
    obtain ⟨f, rfl⟩ : ∃ f, fuel = f + 1 := ⟨fuel - 1, by omega⟩
    have hy0 := hy (by omega)
    rw [one (k + (e + 1)) f h60 hle, if_neg (hr (e + 1) (by omega) hy0 hle), ← Nat.add_assoc, pk_m1]
    refine ih f (by omega) (by omega) (fun _ => hy0) ?_
    rw [← Nat.add_assoc, Nat.add_mul (k + e)] at hle
    omega
/-- what holds ahead of GOODS g -/
theorem lf_inv {y : Nat → Nat} {N n : Nat} (hn : n ≤ 60) (hf : ∃ m, rp y N 0 m n) : ∀ g, g ≤ N → (∃ m, rp y N 0 m (lfN (op y N 1000 0) y n g)) ∧ NSt y N g (lfN (op y N 1000 0) y n g)
  | 0, _ => ⟨hf, fun j hj => absurd hj (by omega)⟩
  | g + 1, hg => by
    obtain ⟨i1, i2⟩ := lf_inv hn hf g (by omega)
    have b := lfN_le (op y N 1000 0) y n g
    obtain ⟨a1, a2, a3, a4⟩ := kfN_all (show g < N by omega) n (lfN (op y N 1000 0) y n g) b (by omega) i1 i2
    exact ⟨a4, a3⟩
def hvI (F y : Nat → Nat) (n : Nat) : Nat → Int32
  | 0 => 0
  | g + 1 => kkI F y n g
theorem mJust_lp (M : MS w) {y : Nat → Nat} {N n i : Nat} (hN : N ≤ 6) (hn : n ≤ 60) (hi : i < N) (hy : ∀ g, g < N → (∃ k, k < 6 ∧ wI w 96 (20 + g) = nI k ∧ gk k (wI w 96 (26 + g)) 0 (wI w 96 16) = nI (y g)) ∧ y g ≤ 12) (hT : ∀ g', g' ≤ N → Rw y N (wI w 102) g' (n + 1)) (hf : ∃ m, rp y N 0 m n) : f_X12_just_67 4096 95 (nI i) (nI n) 0 0 w = some (kkI (op y N 1000 0) y n i, w) := by
  refine lpE (n := i + 1) (F := fun f g => f_X12_just_67 f 95 (nI i) (nI (lfN (op y N 1000 0) y n g)) (hvI (op y N 1000 0) y n g) (nI g) w) (fun f g hg => ?_) (fun f => ?_) 4096 (by omega)
  · show f_X12_just_67 (f + 1) _ _ _ _ _ _ = _
    obtain ⟨⟨k, hk, ek, eg⟩, y12⟩ := hy g (by omega)
    obtain ⟨i1, i2⟩ := lf_inv hn hf g (by omega)
    have b := lfN_le (op y N 1000 0) y n g
    obtain ⟨a1, a2, a3, a4⟩ := kfN_all (show g < N by omega) n (lfN (op y N 1000 0) y n g) b (by omega) i1 i2
    obtain ⟨r1, r2⟩ := kfN_ref (by omega) i1 (show g < N by omega) i2 a1 a2 a3 a4
    have vb := rp_le _ _ (op_yes (B := 1000) i1).1
    have d := mDown_lp (w := w) (iI := nI i) (k := kkN (op y N 1000 0) y n g) M hN hn (show g < N by omega) b hT a1 (by unfold kkN; omega) r1 r2 (f_X12_just_67 f)
    rw [f_X12_just_67, if_neg (nI_nlt (by omega) (by omega)), mg_t M, show (16 : Int32) = nI 16 from rfl, rd_t M (by decide), mc_t M, mGround_eq M (by omega) hk ek, cal_t, eg]
    by_cases y0 : y g = 0
    · have z : kkN (op y N 1000 0) y n g = 0 := by
        unfold kkN
        cases n with
        | zero => rfl
        | succ n => rw [kfN, if_neg (fun q => by omega)]
      have d0 := d 0 4096 (by decide) (by omega) (fun q => absurd q (by omega)) (by rw [z]; omega)
      rw [Nat.add_zero] at d0
      rw [if_pos (show nI (y g) ≤ 0 from by rw [y0]; decide), f_X12_just_102]
      have e0 : (0 : Int32) = nI (kkN (op y N 1000 0) y n g) := by rw [z]; rfl
      rw [e0]
      exact d0
    · have le : kkN (op y N 1000 0) y n g ≤ lfN (op y N 1000 0) y n g / y g := (Nat.le_div_iff_mul_le (by omega)).mpr a1
      have ml := Nat.div_mul_le_self (lfN (op y N 1000 0) y n g) (y g)
      have ds := Nat.div_le_self (lfN (op y N 1000 0) y n g) (y g)
      have d0 := d (lfN (op y N 1000 0) y n g / y g - kkN (op y N 1000 0) y n g) 4096 (by omega) (by omega) (fun _ => by omega) (by rw [Nat.add_sub_cancel' le]; exact ml)
      rw [Nat.add_sub_cancel' le] at d0
      rw [if_neg (nI_nle (by omega) (by omega)), nz, if_neg (nI_ne0 (by omega) (by omega)), pk_div (by omega) (by omega) (by omega), f_X12_just_102]
      exact d0
  · show f_X12_just_67 (f + 1) _ _ _ _ _ _ = _
    rw [f_X12_just_67, if_pos (nI_lt (by omega) (by omega))]
    rfl
end S7
