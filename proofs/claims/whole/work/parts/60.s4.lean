/-! thieves -/
def thS (v : Nat → Nat) (q : Nat) : Nat → Nat
  | 0 => 0
  | i + 1 => 10 * thS v q i + q ^ (i + 1) * v i
theorem thS_le {v : Nat → Nat} {q n : Nat} (hv : ∀ i, i < n → v i ≤ 12) (hq : q ≤ 10) : ∀ i, i ≤ n → thS v q i ≤ 12 * i * 10 ^ i
  | 0, _ => Nat.zero_le _
  | i + 1, hi => by
    have h1 := thS_le hv hq i (by omega)
    have h2 : q ^ (i + 1) * v i ≤ 10 ^ (i + 1) * 12 := Nat.mul_le_mul (Nat.pow_le_pow_left hq _) (hv i (by omega))
    have e1 : 12 * (i + 1) * 10 ^ (i + 1) = 10 * (12 * i * 10 ^ i) + 10 ^ (i + 1) * 12 := by
      rw [Nat.pow_succ, Nat.mul_add, Nat.mul_one, Nat.add_mul, Nat.mul_comm (10 ^ i) 10, ← Nat.mul_assoc 10 (12 * i), Nat.mul_comm 10 (12 * i), Nat.mul_assoc (12 * i) 10, Nat.mul_comm 12 (10 * 10 ^ i)]
    rw [thS, e1]
    omega
theorem thS_lt {v : Nat → Nat} {q n : Nat} (hv : ∀ i, i < n → v i ≤ 12) (hq : q ≤ 10) {i : Nat} (hi : i ≤ n) (hn : n ≤ 9) : thS v q i < 2 ^ 63 := by
  have h1 := thS_le hv hq i hi
  have h2 : 12 * i * 10 ^ i ≤ 12 * 9 * 10 ^ 9 := Nat.mul_le_mul (by omega) (Nat.pow_le_pow_right (by decide) (by omega))
  have h3 : 12 * 9 * 10 ^ 9 < 2 ^ 63 := by decide
  omega
theorem pw_lt {i : Nat} (hi : i ≤ 9) : 10 ^ i < 2 ^ 30 ∧ 0 < 10 ^ i := by
  have h2 : 10 ^ i ≤ 10 ^ 9 := Nat.pow_le_pow_right (by decide) hi
  have h3 : 10 ^ 9 < 2 ^ 30 := by decide
  exact ⟨by omega, Nat.pow_pos (by decide)⟩
theorem lN_z {b : Nat} (hb : b < 2 ^ 63) : lN b = 0 ↔ b = 0 := pk_lEQ (b := 0) hb (by decide)
theorem gcd_st (a b : Nat) : Nat.gcd b (a % b) = Nat.gcd a b := by rw [Nat.gcd_comm b, ← Nat.gcd_rec b a, Nat.gcd_comm]
theorem mod_half {b r : Nat} (h0 : 0 < r) (h : r < b) : 2 * (b % r) < b := by
  have h1 := Nat.mod_lt b h0
  have h2 := Nat.div_add_mod b r
  have h3 : 1 ≤ b / r := (Nat.one_le_div_iff h0).mpr (by omega)
  have h4 : r ≤ r * (b / r) := Nat.le_mul_of_pos_right r h3
  omega
theorem lrm_nat {a b : Nat} (ha : a < 2 ^ 63) (h0 : 0 < b) (hb : b < 2 ^ 63) : lrm (lN a) (lN b) = lN (a % b) := pk_lRem ha h0 hb
theorem thS_s {v : Nat → Nat} {q i : Nat} : thS v q (i + 1) = 10 * thS v q i + q ^ (i + 1) * v i := rfl
section S4
variable {w w' : Wd} {h k K K2 : Nat} {S T : Nat → Int32}
theorem cGcd_lp : ∀ (k a b st fuel : Nat), a < 2 ^ 63 → b < 2 ^ k → k ≤ 62 → st + 2 * k ≤ 198 → 2 * k + 1 < fuel → f_X11_greatestDivisor_9 fuel (lN a) (lN b) (nI st) w = some (lN (Nat.gcd a b), w) := by
  have z : ∀ (a st fuel : Nat), 0 < fuel → f_X11_greatestDivisor_9 fuel (lN a) (lN 0) (nI st) w = some (lN (Nat.gcd a 0), w) := by
    intro a st fuel hf
    obtain ⟨f, rfl⟩ : ∃ f, fuel = f + 1 := ⟨fuel - 1, by omega⟩
    rw [f_X11_greatestDivisor_9, if_pos (show lg_cmp (lN 0) 0 = 0 from (lg_cmp_eq _ _).mpr rfl), ite_self, f_X11_greatestDivisor_45, Nat.gcd_zero_right]
  have one : ∀ (a b st f : Nat), a < 2 ^ 63 → 0 < b → b < 2 ^ 63 → st < 200 → f_X11_greatestDivisor_9 (f + 1) (lN a) (lN b) (nI st) w = f_X11_greatestDivisor_9 f (lN b) (lN (a % b)) (nI (st + 1)) w := by
    intro a b st f ha h0 hb hs
    have hz : ¬ lN b = 0 := fun q => by have := (lN_z hb).mp q; omega
    rw [f_X11_greatestDivisor_9, if_neg (show ¬ (200 : Int32) ≤ nI st from nI_ge (b := 200) hs (by decide)), if_neg (fun q => hz ((lg_cmp_eq _ _).mp q)), nzL, if_neg hz, nm_t, lrm_nat ha h0 hb, nI_1]
  intro k
  induction k with
  | zero =>
    intro a b st fuel ha hb hk hs hf
    obtain rfl : b = 0 := by omega
    exact z a st fuel (by omega)
  | succ k ih =>
    intro a b st fuel ha hb hk hs hf
    have h62 : 2 ^ (k + 1) ≤ 2 ^ 62 := Nat.pow_le_pow_right (by decide) hk
    have h63 : (2 : Nat) ^ 62 < 2 ^ 63 := by decide
    by_cases b0 : b = 0
    · subst b0; exact z a st fuel (by omega)
    · obtain ⟨f, rfl⟩ : ∃ f, fuel = f + 1 := ⟨fuel - 1, by omega⟩
      rw [one a b st f ha (by omega) (by omega) (by omega)]
      by_cases r0 : a % b = 0
      · rw [r0, z b (st + 1) f (by omega), ← gcd_st a b, r0]
      · obtain ⟨f', rfl⟩ : ∃ f', f = f' + 1 := ⟨f - 1, by omega⟩
        have hr := Nat.mod_lt a (show 0 < b by omega)
        have hh := mod_half (b := b) (show 0 < a % b by omega) hr
        rw [one b (a % b) (st + 1) f' (by omega) (by omega) (by omega) (by omega), ih (a % b) (b % (a % b)) (st + 1 + 1) f' (by omega) (by rw [Nat.pow_succ] at hb; omega) (by omega) (by omega) (by omega), gcd_st, gcd_st]
theorem cGcd_eq {a b : Nat} (ha : a < 2 ^ 63) (hb : b < 2 ^ 30) : f_X11_greatestDivisor (lN a) (lN b) w = some (lN (Nat.gcd a b), w) := by
  unfold f_X11_greatestDivisor
  exact cGcd_lp 30 a b 0 4096 ha hb (by decide) (by decide) (by decide)
theorem mTell_lp (M : MS w) {x y : Int64} : ∀ (k a b fuel : Nat), a < 2 ^ 63 → b < 2 ^ k → k ≤ 62 → 2 * k + 1 < fuel → 0 < Nat.gcd a b → Nat.gcd a b < 2 ^ 63 → f_X12_tellPart_6 fuel 95 x y (lN a) (lN b) w = some ((), sL (sL w 95 3 (x / lN (Nat.gcd a b))) 95 4 (y / lN (Nat.gcd a b))) := by
  have z : ∀ (a fuel : Nat), 0 < fuel → 0 < a → a < 2 ^ 63 → f_X12_tellPart_6 fuel 95 x y (lN a) (lN 0) w = some ((), sL (sL w 95 3 (x / lN (Nat.gcd a 0))) 95 4 (y / lN (Nat.gcd a 0))) := by
    intro a fuel hf h0 ha
    obtain ⟨f, rfl⟩ : ∃ f, fuel = f + 1 := ⟨fuel - 1, by omega⟩
    have hz : ¬ lN a = 0 := fun q => by have := (lN_z ha).mp q; omega
    rw [f_X12_tellPart_6, if_pos (show lg_cmp (lN 0) 0 = 0 from (lg_cmp_eq _ _).mpr rfl), nzL, if_neg hz, pL_t M.o, nzL, if_neg hz, pL_t (by rw [isO_sL]; exact M.o), Nat.gcd_zero_right]
  have one : ∀ (a b f : Nat), a < 2 ^ 63 → 0 < b → b < 2 ^ 63 → f_X12_tellPart_6 (f + 1) 95 x y (lN a) (lN b) w = f_X12_tellPart_6 f 95 x y (lN b) (lN (a % b)) w := by
    intro a b f ha h0 hb
    have hz : ¬ lN b = 0 := fun q => by have := (lN_z hb).mp q; omega
    rw [f_X12_tellPart_6, if_neg (fun q => hz ((lg_cmp_eq _ _).mp q)), nzL, if_neg hz, nm_t, lrm_nat ha h0 hb]
  intro k
  induction k with
  | zero =>
    intro a b fuel ha hb hk hf hg hg2
    obtain rfl : b = 0 := by omega
    exact z a fuel (by omega) (by rw [Nat.gcd_zero_right] at hg; exact hg) ha
  | succ k ih =>
    intro a b fuel ha hb hk hf hg hg2
    have h62 : 2 ^ (k + 1) ≤ 2 ^ 62 := Nat.pow_le_pow_right (by decide) hk
    have h63 : (2 : Nat) ^ 62 < 2 ^ 63 := by decide
    by_cases b0 : b = 0
    · subst b0; exact z a fuel (by omega) (by rw [Nat.gcd_zero_right] at hg; exact hg) ha
    · obtain ⟨f, rfl⟩ : ∃ f, fuel = f + 1 := ⟨fuel - 1, by omega⟩
      rw [one a b f ha (by omega) (by omega)]
      by_cases r0 : a % b = 0
      · rw [r0, z b f (by omega) (by omega) (by omega), ← gcd_st a b, r0]
      · obtain ⟨f', rfl⟩ : ∃ f', f = f' + 1 := ⟨f - 1, by omega⟩
        have hr := Nat.mod_lt a (show 0 < b by omega)
        have hh := mod_half (b := b) (show 0 < a % b by omega) hr
        have e : Nat.gcd (a % b) (b % (a % b)) = Nat.gcd a b := by rw [gcd_st, gcd_st]
        rw [one b (a % b) f' (by omega) (by omega) (by omega), ih (a % b) (b % (a % b)) f' (by omega) (by rw [Nat.pow_succ] at hb; omega) (by omega) (by omega) (by rw [e]; exact hg) (by rw [e]; exact hg2), e]
theorem Inv.lg (V : Inv w K) (e : Eqs w w') (eI : wI w' = wI w) (l1 : wL w' 0 7 = wL w' 95 3) (l2 : wL w' 0 8 = wL w' 95 4) (hK : K ≤ K2) : Inv w' K2 := by
  obtain ⟨⟨h0, h1, s, r⟩, I, ⟨R1, R2, R3, R4, R5, R6⟩⟩ := V
  have im : ∀ i, Im w K i → Im w' K2 i := fun i ⟨a, b⟩ => by
    unfold Im
    rw [eI]
    exact ⟨a, b.imp id (fun ⟨x, y, z⟩ => ⟨x, y, z.mono hK⟩)⟩
  refine ⟨⟨h0, h1, s.to e, by rw [eI]; exact r⟩, by rw [eI]; exact I.mono hK, im 0 R1, im 1 R2, by rw [eI]; exact R3, ?_, ⟨l1, l2⟩, by rw [eI]; exact R6⟩
  unfold Tx
  rw [eI]
  exact R4
theorem cThieves_eq {h0 h1 : Nat} (M : MS w) (s : Sp w h0 h1) (r : HR (wI w) h0 (wI w 96)) (I : Iv (wI w 96) K) {g n c : Nat} {v : Nat → Nat} (hg : g < nn (wI w 96)) (hn : n ≤ 9) (hc : c ≤ 10) (hv : ∀ i, i < n → v i ≤ 12 ∧ gk (wI w 96 (20 + g)).toNatClampNeg (wI w 96 (26 + g)) (wI w 96 14 + nI i) (wI w 96 16) = nI (v i)) {X Y G : Nat} (eX : X = thS v (10 - c) n) (eY : Y = 10 ^ n) (eG : G = Nat.gcd X Y) (hX : X < 2 ^ 63) (hY : Y < 2 ^ 30) (hG : 0 < G) (hG2 : G < 2 ^ 63) : f_X11_thieves_50 4096 0 (nI g) (nI n) (nI c) 0 1 1 0 w = some (1, sL (sL w 0 7 (lN X / lN G)) 0 8 (lN Y / lN G)) := by
  have ec10 : ((10 : Int32) - nI c).toInt64 = lN (10 - c) := by rw [show (10 : Int32) = nI 10 from rfl, pk_sub hc, nI_l (by omega)]
  have t10 : (10 : Int64) = lN 10 := rfl
  have o11 : isO w 0 11 = true := M.oo 0 11 (by decide)
  have gz : ¬ lN G = 0 := fun q => by have := (lN_z hG2).mp q; omega
  refine lpE (n := n) (F := fun f i => f_X11_thieves_50 f 0 (nI g) (nI n) (nI c) (lN (thS v (10 - c) i)) (lN ((10 - c) ^ i)) (lN (10 ^ i)) (nI i) w) (fun f i hi => ?_) (fun f => ?_) 4096 (by omega)
  · show f_X11_thieves_50 (f + 1) _ _ _ _ _ _ _ _ _ = f_X11_thieves_50 f 0 (nI g) (nI n) (nI c) (lN (thS v (10 - c) (i + 1))) (lN ((10 - c) ^ (i + 1))) (lN (10 ^ (i + 1))) (nI (i + 1)) w
    have lv : (nI (v i)).toInt64 = lN (v i) := nI_l (by have := (hv i hi).1; omega)
    rw [f_X11_thieves_50, if_neg (nI_ge hi (by omega)), nm_t, nm_t, ng_t s, ng_t s, gI_t s.ho.o, r.1.2.2.2.2.2.2.1, hc_t s, groundBy_row s.ho r I hg, cal_t, nm_t, nI_1, (hv i hi).2, lv, ec10, t10, lN_mul, lN_mul, lN_mul, lN_mul, lN_add, thS_s, Nat.pow_succ, Nat.pow_succ, Nat.mul_comm (thS v (10 - c) i) 10]
  · show f_X11_thieves_50 (f + 1) 0 (nI g) (nI n) (nI c) (lN (thS v (10 - c) n)) (lN ((10 - c) ^ n)) (lN (10 ^ n)) (nI n) w = _
    have em : f_mmax_long 1 (lN G) = lN G := by
      unfold f_mmax_long
      show (if lN G < lN 1 then (1 : Int64) else lN G) = lN G
      rw [if_neg (fun q => by have := (pk_lLT hG2 (by decide)).mp q; omega)]
    rw [← eX, ← eY, f_X11_thieves_50, if_pos (nI_le (by omega) (by omega)), cGcd_eq hX hY, cal_t, nm_t, ← eG, em, nzL, if_neg gz, pL_t o11, nzL, if_neg gz, pL_t (by rw [isO_sL]; exact o11)]
theorem mThieves_eq (M : MS w) {g n c k : Nat} {v : Nat → Nat} (hg : g < 6) (hk : k < 6) (ek : wI w 96 (20 + g) = nI k) (hn : n ≤ 9) (hc : c ≤ 10) (hv : ∀ i, i < n → v i ≤ 12 ∧ gk k (wI w 96 (26 + g)) (wI w 96 14 + nI i) (wI w 96 16) = nI (v i)) {X Y G : Nat} (eX : X = thS v (10 - c) n) (eY : Y = 10 ^ n) (eG : G = Nat.gcd X Y) (hX : X < 2 ^ 63) (hY : Y < 2 ^ 30) (hG : 0 < G) (hG2 : G < 2 ^ 63) : f_X12_thieves_47 4096 95 (nI g) (nI n) (nI c) 0 1 1 0 w = some (1, sL (sL w 95 3 (lN X / lN G)) 95 4 (lN Y / lN G)) := by
  have ec10 : ((10 : Int32) - nI c).toInt64 = lN (10 - c) := by rw [show (10 : Int32) = nI 10 from rfl, pk_sub hc, nI_l (by omega)]
  have t10 : (10 : Int64) = lN 10 := rfl
  refine lpE (n := n) (F := fun f i => f_X12_thieves_47 f 95 (nI g) (nI n) (nI c) (lN (thS v (10 - c) i)) (lN (10 ^ i)) (lN ((10 - c) ^ i)) (nI i) w) (fun f i hi => ?_) (fun f => ?_) 4096 (by omega)
  · show f_X12_thieves_47 (f + 1) _ _ _ _ _ _ _ _ _ = f_X12_thieves_47 f 95 (nI g) (nI n) (nI c) (lN (thS v (10 - c) (i + 1))) (lN (10 ^ (i + 1))) (lN ((10 - c) ^ (i + 1))) (nI (i + 1)) w
    have lv : (nI (v i)).toInt64 = lN (v i) := nI_l (by have := (hv i hi).1; omega)
    rw [f_X12_thieves_47, if_neg (nI_ge hi (by omega)), nm_t, mg_t M, show (14 : Int32) = nI 14 from rfl, rd_t M (by decide), mg_t M, show (16 : Int32) = nI 16 from rfl, rd_t M (by decide), mc_t M, mGround_eq M hg hk ek, cal_t, nm_t, nm_t, nI_1, (hv i hi).2, lv, ec10, t10, lN_mul, lN_mul, lN_mul, lN_mul, lN_add, thS_s, Nat.pow_succ, Nat.pow_succ]
  · show f_X12_thieves_47 (f + 1) 95 (nI g) (nI n) (nI c) (lN (thS v (10 - c) n)) (lN (10 ^ n)) (lN ((10 - c) ^ n)) (nI n) w = _
    rw [← eX, ← eY, f_X12_thieves_47, if_pos (nI_le (by omega) (by omega)), mc_t M]
    unfold f_X12_tellPart
    rw [mTell_lp M 30 X Y 4096 hX hY (by decide) (by decide) (by rw [← eG]; exact hG) (by rw [← eG]; exact hG2), cal_t, ← eG]
theorem sL_inv (V : Inv w K) {a b : Int64} : Inv (sL (sL (sL (sL w 0 7 a) 0 8 b) 95 3 a) 95 4 b) (K + 60) := by
  refine V.lg ⟨rfl, rfl, rfl⟩ rfl ?_ ?_ (by omega)
  · rw [wL_sL, wL_sL, wL_sL, wL_sL, if_neg (by decide), if_neg (by decide), if_neg (by decide), if_pos ⟨rfl, rfl⟩, wL_sL, if_neg (by decide), wL_sL, if_pos ⟨rfl, rfl⟩]
  · rw [wL_sL, wL_sL, wL_sL, if_neg (by decide), if_neg (by decide), if_pos ⟨rfl, rfl⟩, wL_sL, if_pos ⟨rfl, rfl⟩]
theorem thieves_v (I : Iv (wI w 96) K) (hK : K + 60 < 2 ^ 31) {g n k : Nat} (hg : g < nn (wI w 96)) (hn : n ≤ 9) (hk : k < 6) (ek : wI w 96 (20 + g) = nI k) : ∃ v : Nat → Nat, ∀ i, i < n → v i ≤ 12 ∧ gk k (wI w 96 (26 + g)) (wI w 96 14 + nI i) (wI w 96 16) = nI (v i) := by
  obtain ⟨-, rr, p, -, -, hr, -, -, er, -⟩ := I.2.2.2.2.2.2.1 g hg
  obtain ⟨-, -, -, ⟨cc, hcc, ec⟩, ⟨t, ht, et⟩⟩ := I.pv
  refine ⟨fun i => (gk k (wI w 96 (26 + g)) (wI w 96 14 + nI i) (wI w 96 16)).toNatClampNeg, fun i hi => ?_⟩
  obtain ⟨u, hu, eu⟩ := gk_nat (k := k) (r := rr) (t := t + i) (c := cc) hk hr (by omega) hcc
  have e : gk k (wI w 96 (26 + g)) (wI w 96 14 + nI i) (wI w 96 16) = nI u := by rw [er, et, ec, nI_add]; exact eu
  show (gk k (wI w 96 (26 + g)) (wI w 96 14 + nI i) (wI w 96 16)).toNatClampNeg ≤ 12 ∧ _ = nI ((gk k (wI w 96 (26 + g)) (wI w 96 14 + nI i) (wI w 96 16)).toNatClampNeg)
  rw [e, nI_clamp (by omega)]
  exact ⟨hu, rfl⟩
theorem thieves_XYG {v : Nat → Nat} {n c : Nat} (hv : ∀ i, i < n → v i ≤ 12) (hn : n ≤ 9) : ∃ X Y G, X = thS v (10 - c) n ∧ Y = 10 ^ n ∧ G = Nat.gcd X Y ∧ X < 2 ^ 63 ∧ Y < 2 ^ 30 ∧ 0 < G ∧ G < 2 ^ 63 := by
  obtain ⟨Y, eY⟩ : ∃ Y, Y = 10 ^ n := ⟨_, rfl⟩
  have hY : Y < 2 ^ 30 ∧ 0 < Y := by rw [eY]; exact pw_lt hn
  refine ⟨thS v (10 - c) n, Y, Nat.gcd (thS v (10 - c) n) Y, rfl, eY, rfl, thS_lt (v := v) (q := 10 - c) (n := n) hv (by omega) (Nat.le_refl n) hn, hY.1, Nat.gcd_pos_of_pos_right _ hY.2, ?_⟩
  have := Nat.gcd_le_right (thS v (10 - c) n) hY.2
  omega
theorem thieves_ok (V : Inv w K) (hK : K + 60 < 2 ^ 31) {g n c : Nat} (hg : g < nn (wI w 96)) (hn : n ≤ 9) (hc : c ≤ 10) : Pr w (K + 60) (f_X11_thieves 0 (nI g) (nI n) (nI c)) (f_X12_thieves 95 (nI g) (nI n) (nI c)) := by
  have M := V.ms
  obtain ⟨⟨h0, h1, s, r⟩, I, R⟩ := id V
  have hy : 0 ≤ nI n ∧ nI n ≤ 9 := ⟨nI_pos' (by omega), nI_le (b := 9) hn (by decide)⟩
  have hz : 0 ≤ nI c ∧ nI c ≤ 10 := ⟨nI_pos' (by omega), nI_le (b := 10) hc (by decide)⟩
  have cY := hasY s r I hg
  have hn6 := I.n.2
  have g6 : g < 6 := by omega
  obtain ⟨k, hk, ek⟩ := I.kd hg
  obtain ⟨v, v12⟩ := thieves_v I hK hg hn hk ek
  obtain ⟨X, Y, G, eX, eY, eG, hX, hY, hG, hG2⟩ := thieves_XYG (c := c) (fun i hi => (v12 i hi).1) hn
  have hA : f_X11_thieves 0 (nI g) (nI n) (nI c) w = some (1, sL (sL w 0 7 (lN X / lN G)) 0 8 (lN Y / lN G)) := by
    unfold f_X11_thieves
    rw [ng_t s, hc_t s, cY, cal_t, if_neg (by decide), within_eq, if_pos hy, cal_t, if_neg (by decide), within_eq, if_pos hz, cal_t, if_neg (by decide)]
    exact cThieves_eq M s r I hg hn hc (fun i hi => by rw [ek, nI_clamp (by omega)]; exact v12 i hi) eX eY eG hX hY hG hG2
  have J := sL_inv V (a := lN X / lN G) (b := lN Y / lN G)
  have hB : ∀ w1, MS w1 → wI w1 = wI w → f_X12_thieves 95 (nI g) (nI n) (nI c) w1 = some (1, sL (sL w1 95 3 (lN X / lN G)) 95 4 (lN Y / lN G)) := fun w1 M1 e1I => by
    unfold f_X12_thieves
    rw [mc_t M1, mGoodsY (K := K) M1 (by rw [e1I]; exact I) (by rw [e1I]; exact hg), cal_t, if_neg (by decide), in_eq, if_pos hy, cal_t, if_neg (by decide), in_eq, if_pos hz, cal_t, if_neg (by decide)]
    exact mThieves_eq M1 g6 hk (by rw [e1I]; exact ek) hn hc (fun i hi => by rw [e1I]; exact v12 i hi) eX eY eG hX hY hG hG2
  generalize lN X / lN G = p at hA J hB
  generalize lN Y / lN G = q at hA J hB
  exact ⟨1, _, _, hA, hB (sL (sL w 0 7 p) 0 8 q) (M.to ⟨rfl, rfl, rfl⟩) rfl, J⟩
theorem p_thieves (V : Inv w K) (hK : K + 60 < 2 ^ 31) (x y z : Int32) : Pr w (K + 60) (f_X11_thieves 0 x y z) (f_X12_thieves 95 x y z) := by
  have M := V.ms
  obtain ⟨⟨h0, h1, s, r⟩, I, R⟩ := id V
  have bad : (f_X11_thieves_31 0 w = some (-2, cW w 94 (rfT 0 (wI w 94)))) := by
    unfold f_X11_thieves_31
    rw [cc_t M, cRefB M, cal_t]
  have bad2 : ∀ w', MS w' → (f_X12_thieves_28 95 w' = some (-2, cW w' 98 (rfT 0 (wI w' 98)))) := fun w' M' => by
    unfold f_X12_thieves_28
    rw [mc_t M', mRefB M', cal_t]
  have e9 : ∀ T, wI (cW w 94 T) 96 = wI w 96 := fun T => cW_o (by decide)
  have J9 : ∀ T, Iv (wI (cW w 94 T) 96) K := fun T => by rw [e9]; exact I
  by_cases hg : hasg (nn (wI w 96)) x
  · obtain ⟨g, hg, rfl⟩ := hg
    have cY := hasY s r I hg
    have mY : ∀ w', MS w' → wI w' 96 = wI w 96 → f_X12_isGoods 95 (nI g) w' = some (1, w') := fun w' M' e => mGoodsY (K := K) M' (by rw [e]; exact I) (by rw [e]; exact hg)
    have hn6 := I.n.2
    have g6 : g < 6 := by omega
    by_cases hy : 0 ≤ y ∧ y ≤ 9
    · by_cases hz : 0 ≤ z ∧ z ≤ 10
      · obtain ⟨n, hn, rfl⟩ := rng 9 hy (by decide)
        obtain ⟨c, hc, rfl⟩ := rng 10 hz (by decide)
        exact thieves_ok V hK hg hn hc
      · refine Pr.rfj (r := -2) V 0 (by decide) ?_ ?_
        · unfold f_X11_thieves
          rw [ng_t s, hc_t s, cY, cal_t, if_neg (by decide), within_eq, if_pos hy, cal_t, if_neg (by decide), within_eq, if_neg hz, cal_t, if_pos rfl, bad]
        · unfold f_X12_thieves
          rw [mc_t M.cW, mY _ M.cW (e9 _), cal_t, if_neg (by decide), in_eq, if_pos hy, cal_t, if_neg (by decide), in_eq, if_neg hz, cal_t, if_pos rfl, bad2 _ M.cW]
    · refine Pr.rfj (r := -2) V 0 (by decide) ?_ ?_
      · unfold f_X11_thieves
        rw [ng_t s, hc_t s, cY, cal_t, if_neg (by decide), within_eq, if_neg hy, cal_t, if_pos rfl, bad]
      · unfold f_X12_thieves
        rw [mc_t M.cW, mY _ M.cW (e9 _), cal_t, if_neg (by decide), in_eq, if_neg hy, cal_t, if_pos rfl, bad2 _ M.cW]
  · refine Pr.rfj (r := -2) V 0 (by decide) ?_ ?_
    · unfold f_X11_thieves
      rw [ng_t s, hc_t s, hasN s r I hg, cal_t, if_pos rfl, bad]
    · unfold f_X12_thieves
      rw [mc_t M.cW, mGoodsN M.cW (J9 _) (by rw [e9]; exact hg), cal_t, if_pos rfl, bad2 _ M.cW]
end S4
