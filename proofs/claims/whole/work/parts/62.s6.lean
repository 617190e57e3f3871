/-! GrindMill's plans: just -/
def yI (S : Nat → Int32) (g : Nat) : Int32 := gk (S (20 + g)).toNatClampNeg (S (26 + g)) 0 (S 16)
def yN (S : Nat → Int32) (g : Nat) : Nat := (yI S g).toNatClampNeg
theorem yN_eq {S : Nat → Int32} {K : Nat} (I : Iv S K) {g : Nat} (hg : g < nn S) : yI S g = nI (yN S g) ∧ yN S g ≤ 12 := by
  obtain ⟨k, r, p, hk, -, hr, -, ek, er, -⟩ := I.2.2.2.2.2.2.1 g hg
  obtain ⟨-, -, -, ⟨c, hc, ec⟩, -⟩ := I.pv
  obtain ⟨v, hv, ev⟩ := gk_nat (k := k) (r := r) (t := 0) (c := c) hk hr (by decide) hc
  have e : yI S g = nI v := by
    unfold yI
    rw [ek, er, ec, nI_clamp (by omega)]
    exact ev
  have e2 : yN S g = v := by
    unfold yN
    rw [e, nI_clamp (by omega)]
  rw [e2]
  exact ⟨e, hv⟩
theorem upd_2 {f : Nat → Int32} {k : Nat} {x z : Int32} : upd (upd f k x) k z = upd f k z := by
  funext j
  by_cases e : j = k
  · subst e; rw [pk_us, pk_us]
  · rw [pk_un e, pk_un e, pk_un e]
theorem mn_eq {a b : Nat} (ha : a < 2 ^ 31) (hb : b < 2 ^ 31) : f_mmin (nI a) (nI b) = nI (min a b) := by
  unfold f_mmin
  by_cases h : b < a
  · rw [if_pos (nI_lt h ha), Nat.min_eq_right (by omega)]
  · rw [if_neg (nI_nlt (by omega) hb), Nat.min_eq_left (by omega)]
section MSA
variable {w : Wd} {α : Type}
theorem MS.ld (M : MS w) (a n : Nat) (ha : (decide (a < 107) && (SHL.getD a (99, 0)).1 == 14) = true) (hn : (decide (a < 107) && (SHL.getD a (99, 0)).2 == n) = true) {i : Nat} (hi : i < n) (h31 : n < 2 ^ 31) {f : Int32 → Option α} : lI w a 14 (nI i) f = f (wI w a i) := by
  rw [lI_t (M.oo a 14 ha) (inb_of (M.nn a n hn) hi h31), nI_clamp (by omega)]
theorem ms_st (M : MS w) (a n : Nat) (ha : (decide (a < 107) && (SHL.getD a (99, 0)).1 == 14) = true) (hn : (decide (a < 107) && (SHL.getD a (99, 0)).2 == n) = true) {i : Nat} (hi : i < n) (h31 : n < 2 ^ 31) {x : Int32} {f : Wd → Option α} : aI w a 14 (nI i) x f = f (cW w a (upd (wI w a) i x)) := by
  rw [aI_t (M.oo a 14 ha) (inb_of (M.nn a n hn) hi h31), nI_clamp (by omega), sI_cW]
theorem MS.rf (M : MS w) (a t k v : Nat) (ha : (decide (a < 107) && (SHL.getD a (99, 0)).1 == t) = true) (hr : (a, k, v) ∈ RFL) {f : Nat → Option α} : gR w a t k f = f v := by
  rw [gR_t (M.oo a t ha), M.rr a k v hr, Option.bind_some]
theorem MS.cv {β : Type} (M : MS w) (a t : Nat) (ha : (decide (a < 107) && (SHL.getD a (99, 0)).1 == t) = true) {o : Option (β × Wd)} {f : β → Wd → Option α} : calV w a t o f = cal o f := calV_t (M.oo a t ha)
end MSA
section S6
variable {w w' : Wd} {h k K K2 : Nat} {S T : Nat → Int32}
theorem HR.cW (R : HR (wI w) h S) (I : Iv S K) {a : Nat} (ha : h + 15 ≤ a) : HR (wI (cW w a T)) h S := R.eq I.q4.1 (fun k hk _ _ => cW_o (by omega))
theorem fillY_eq (M : MS w) (H : HS w h) (R : HR (wI w) h S) (I : Iv S K) (hh : h + 15 ≤ 72) : f_X7_fillYields 72 h w = some ((), cW w 74 (yT (wI w 74) (yI S) (nn S))) := by
  have hn := I.n.2
  unfold f_X7_fillYields
  refine (congrArg (f_X7_fillYields_2 4096 72 h 0) (show w = cW w 74 (yT (wI w 74) (yI S) 0) from by rw [yT_0, cW_id])).trans ?_
  refine lpE (n := nn S) (F := fun f i => f_X7_fillYields_2 f 72 h (nI i) (cW w 74 (yT (wI w 74) (yI S) i))) (fun f i hi => ?_) (fun f => ?_) 4096 (by omega)
  · show f_X7_fillYields_2 (f + 1) _ _ _ _ = _
    have R' : HR (wI (cW w 74 (yT (wI w 74) (yI S) i))) h S := R.cW I (by omega)
    have M' : MS (cW w 74 (yT (wI w 74) (yI S) i)) := M.cW
    have H' : HS (cW w 74 (yT (wI w 74) (yI S) i)) h := H.cW
    obtain ⟨k, hk, k1, k2⟩ := R'.kind I hi
    have i6 : i < 6 := by omega
    rw [f_X7_fillYields_2, gI_t H'.o, R'.1.2.1, I.n.1, if_neg (nI_ge hi (by omega)), M'.rf 72 7 1 74 (by decide) (by decide), gR_t H'.o, H'.r0, Option.bind_some, lR_t H'.o1 (inb_of H'.n1 i6 (by decide)), nI_clamp (by omega), H'.rg i6, Option.bind_some, gI_t H'.o, R'.1.2.2.2.2.2.1, calV_t (H'.og i6), groundIn_eq H' i6 hk k1, cal_t, (R'.2.1 i hi).2.1, ms_st M' 74 6 (by decide) (by decide) i6 (by decide), cW_s, cW_cW, nI_1]
    have e : gk k (S (26 + i)) 0 (S 16) = yI S i := by unfold yI; rw [k2]
    rw [e, yT_s]
  · show f_X7_fillYields_2 (f + 1) _ _ _ _ = _
    rw [f_X7_fillYields_2, gI_t H.cW.o, (R.cW I (by omega)).1.2.1, I.n.1, if_pos (nI_le (by omega) (by omega))]
theorem fillF_in (M : MS w) {y F : Nat → Nat} {N n b : Nat} {A : Nat → Int32} (hN : N ≤ 6) (hb : b ≤ n) (hn : n ≤ 60) (hy : ∀ g, g < N → wI w 74 g = nI (y g) ∧ y g ≤ 12) (hF : ∀ j, j < b → A j = nI (F j) ∧ F j ≤ 1000) (rec : Nat → Int32 → Int32 → Int32 → Wd → Option (Unit × Wd)) : f_X7_fillFewest_26 rec 4096 72 (nI N) (nI n) (nI b) 0 (cW w 75 (upd A b 1000)) = rec 72 (nI N) (nI n) (nI (b + 1)) (cW w 75 (upd A b (nI (mnF y F b N)))) := by
  refine lpE (n := N) (F := fun f k => f_X7_fillFewest_26 rec f 72 (nI N) (nI n) (nI b) (nI k) (cW w 75 (upd A b (nI (mnF y F b k))))) (fun f k hk => ?_) (fun f => ?_) 4096 (by omega)
  · show f_X7_fillFewest_26 _ (f + 1) _ _ _ _ _ _ = _
    have M' : MS (cW w 75 (upd A b (nI (mnF y F b k)))) := M.cW
    have e74 : wI (cW w 75 (upd A b (nI (mnF y F b k)))) 74 k = nI (y k) := by rw [cW_o (by decide)]; exact (hy k hk).1
    have y12 := (hy k hk).2
    have top := mnF_top (y := y) (F := F) (b := b) k
    rw [f_X7_fillFewest_26, if_neg (nI_ge hk (by omega)), M'.rf 72 7 1 74 (by decide) (by decide), M'.ld 74 6 (by decide) (by decide) (by omega) (by decide), e74, mnF]
    by_cases y0 : y k = 0
    · rw [y0, if_pos (by decide), if_neg (fun q => by omega), f_X7_fillFewest_84, nI_1]
    · rw [if_neg (nI_nle (by omega) (by omega)), M'.rf 72 7 1 74 (by decide) (by decide), M'.ld 74 6 (by decide) (by decide) (by omega) (by decide), e74]
      by_cases yb : b < y k
      · rw [if_pos (nI_lt yb (by omega)), if_neg (fun q => by omega), f_X7_fillFewest_84, nI_1]
      · obtain ⟨f1, f2⟩ := hF (b - y k) (by omega)
        rw [if_neg (nI_nlt (by omega) (by omega)), M'.rf 72 7 2 75 (by decide) (by decide), M'.rf 72 7 2 75 (by decide) (by decide), M'.ld 75 61 (by decide) (by decide) (by omega) (by decide), M'.rf 72 7 2 75 (by decide) (by decide), M'.rf 72 7 1 74 (by decide) (by decide), M'.ld 74 6 (by decide) (by decide) (by omega) (by decide), e74, pk_sub (by omega), M'.ld 75 61 (by decide) (by decide) (by omega) (by decide), cW_s, pk_us, pk_un (by omega), f1, nI_1, mn_eq (by omega) (by omega), ms_st M' 75 61 (by decide) (by decide) (by omega) (by decide), cW_s, cW_cW, upd_2, f_X7_fillFewest_84, nI_1, if_pos ⟨by omega, by omega⟩]
  · show f_X7_fillFewest_26 _ (f + 1) _ _ _ _ _ _ = _
    rw [f_X7_fillFewest_26, if_pos (nI_le (by omega) (by omega)), nI_1]
noncomputable def fwI (y : Nat → Nat) (N : Nat) (j : Nat) : Int32 := nI (op y N 1000 0 j)
theorem op_0 {y : Nat → Nat} {N B g : Nat} : op y N B g 0 = 0 := by
  have := (op_yes (y := y) (N := N) (B := B) (g := g) (b := 0) ⟨0, rfl⟩).2 0 rfl
  omega
theorem fillF_eq (M : MS w) {y : Nat → Nat} {N n : Nat} (hN : N ≤ 6) (hn : n ≤ 60) (hy : ∀ g, g < N → wI w 74 g = nI (y g) ∧ y g ≤ 12) : f_X7_fillFewest 72 (nI N) (nI n) w = some ((), cW w 75 (yT (wI w 75) (fwI y N) (n + 1))) := by
  unfold f_X7_fillFewest
  have e0 : upd (wI w 75) 0 0 = yT (wI w 75) (fwI y N) 1 := by
    rw [← yT_s, yT_0]
    unfold fwI
    rw [op_0]
    rfl
  rw [M.rf 72 7 2 75 (by decide) (by decide), show (0 : Int32) = nI 0 from rfl, ms_st M 75 61 (by decide) (by decide) (by decide) (by decide), nI_0, e0]
  refine lpE (n := n) (F := fun f i => f_X7_fillFewest_9 f 72 (nI N) (nI n) (nI (i + 1)) (cW w 75 (yT (wI w 75) (fwI y N) (i + 1)))) (fun f i hi => ?_) (fun f => ?_) 4096 (by omega)
  · show f_X7_fillFewest_9 (f + 1) _ _ _ _ _ = _
    have M' : MS (cW w 75 (yT (wI w 75) (fwI y N) (i + 1))) := M.cW
    have q := fillF_in (F := op y N 1000 0) (A := yT (wI w 75) (fwI y N) (i + 1)) M hN (show i + 1 ≤ n by omega) hn hy (fun j hj => ⟨by unfold yT fwI; rw [if_pos hj], op_le (by omega) (by decide)⟩) (f_X7_fillFewest_9 f)
    rw [f_X7_fillFewest_9, if_neg (nI_nlt (by omega) (by omega)), M'.rf 72 7 2 75 (by decide) (by decide), ms_st M' 75 61 (by decide) (by decide) (by omega) (by decide), cW_s, cW_cW, q, mnF_op (by omega) (by omega)]
    show f_X7_fillFewest_9 f 72 (nI N) (nI n) (nI (i + 1 + 1)) (cW w 75 (upd (yT (wI w 75) (fwI y N) (i + 1)) (i + 1) (fwI y N (i + 1)))) = _
    rw [yT_s]
  · show f_X7_fillFewest_9 (f + 1) _ _ _ _ _ = _
    rw [f_X7_fillFewest_9, if_pos (nI_lt (by omega) (by omega))]
theorem stays_eq (M : MS w) {F : Nat → Nat} {n l q : Nat} (hn : n ≤ 60) (hl : l ≤ n) (hq : q ≤ 12) (hF : ∀ j, j ≤ n → wI w 75 j = nI (F j) ∧ F j ≤ 1000) : f_X7_staysFewest 72 (nI l) (nI q) w = some (if 0 < q ∧ q ≤ l ∧ F (l - q) + 1 = F l then 1 else 0, w) := by
  unfold f_X7_staysFewest
  by_cases q0 : q = 0
  · subst q0
    rw [if_pos (by decide), f_X7_staysFewest_32, f_X7_staysFewest_33, rZ0, if_neg (fun c => by omega)]
  · rw [if_neg (nI_nle (by omega) (by omega))]
    by_cases ql : l < q
    · rw [if_pos (nI_lt ql (by omega)), f_X7_staysFewest_32, f_X7_staysFewest_33, rZ0, if_neg (fun c => by omega)]
    · obtain ⟨a1, a2⟩ := hF (l - q) (by omega)
      obtain ⟨b1, b2⟩ := hF l (by omega)
      rw [if_neg (nI_nlt (by omega) (by omega)), M.rf 72 7 2 75 (by decide) (by decide), pk_sub (by omega), M.ld 75 61 (by decide) (by decide) (by omega) (by decide), M.rf 72 7 2 75 (by decide) (by decide), M.ld 75 61 (by decide) (by decide) (by omega) (by decide), a1, b1]
      have e : (nI (F (l - q)) = nI (F l) - 1) ↔ F (l - q) + 1 = F l := by
        by_cases z : F l = 0
        · rw [z]
          constructor
          · intro c
            exact absurd (show nI (F (l - q)) = -1 from c) (nI_ne_m1 (by omega))
          · intro c; omega
        · obtain ⟨m, em⟩ : ∃ m, F l = m + 1 := ⟨F l - 1, by omega⟩
          rw [em, nI_pred, nI_eq (by omega) (by omega)]
          omega
      by_cases c : F (l - q) + 1 = F l
      · rw [if_pos (e.mpr c), if_pos ⟨by omega, by omega, c⟩, f_X7_staysFewest_33, rZ1]
      · rw [if_neg (fun z => c (e.mp z)), if_neg (fun z => c z.2.2), f_X7_staysFewest_32, f_X7_staysFewest_33, rZ0]
theorem take_lp (M : MS w) {F : Nat → Nat} {n q g : Nat} (hn : n ≤ 60) (hg : g < 6) (hq : q ≤ 12) (ey : wI w 74 g = nI q) (hF : ∀ j, j ≤ n → wI w 75 j = nI (F j) ∧ F j ≤ 1000) (rec : Nat → Nat → Int32 → Int32 → Int32 → Wd → Option (Int32 × Wd)) : ∀ (d i l fuel : Nat) (T : Nat → Int32), i + d = n → d < fuel → l ≤ n → T g = nI i → f_X7_fewestHours_53 rec fuel 72 h (nI n) (nI l) (nI g) (nI i) (cW w 73 T) = rec 72 h (nI n) (nI (l - kfN F q d l * q)) (nI (g + 1)) (cW w 73 (upd T g (nI (i + kfN F q d l)))) := by
  intro d
  induction d with
  | zero =>
    intro i l fuel T hi hf hl hT
    obtain ⟨f, rfl⟩ : ∃ f, fuel = f + 1 := ⟨fuel - 1, by omega⟩
    have eT : upd T g (nI i) = T := by
      funext j
      by_cases e : j = g
      · subst e; rw [pk_us, hT]
      · rw [pk_un e]
    rw [f_X7_fewestHours_53, if_pos (nI_le (by omega) (by omega)), f_X7_fewestHours_101, nI_1, kfN, Nat.zero_mul, Nat.sub_zero, Nat.add_zero i, eT]
  | succ d ih =>
    intro i l fuel T hi hf hl hT
    obtain ⟨f, rfl⟩ : ∃ f, fuel = f + 1 := ⟨fuel - 1, by omega⟩
    have M' : MS (cW w 73 T) := M.cW
    have e74 : wI (cW w 73 T) 74 g = nI q := by rw [cW_o (by decide)]; exact ey
    have eT : upd T g (nI i) = T := by
      funext j
      by_cases e : j = g
      · subst e; rw [pk_us, hT]
      · rw [pk_un e]
    rw [f_X7_fewestHours_53, if_neg (nI_ge (by omega) (by omega)), M'.rf 72 7 1 74 (by decide) (by decide), M'.ld 74 6 (by decide) (by decide) hg (by decide), e74, M'.cv 72 7 (by decide), stays_eq M' (F := F) hn hl hq (fun j hj => by rw [cW_o (by decide)]; exact hF j hj), cal_t, kfN]
    by_cases c : 0 < q ∧ q ≤ l ∧ F (l - q) + 1 = F l
    · rw [if_pos c, if_neg (by decide), if_pos c, M'.rf 72 7 0 73 (by decide) (by decide), M'.ld 73 6 (by decide) (by decide) hg (by decide), cW_s, hT, nI_1, ms_st M' 73 6 (by decide) (by decide) hg (by decide), cW_s, cW_cW]
      have M2 : MS (cW w 73 (upd T g (nI (i + 1)))) := M.cW
      have e74' : wI (cW w 73 (upd T g (nI (i + 1)))) 74 g = nI q := by rw [cW_o (by decide)]; exact ey
      rw [M2.rf 72 7 1 74 (by decide) (by decide), M2.ld 74 6 (by decide) (by decide) hg (by decide), e74', nm_t, pk_sub c.2.1, ih (i + 1) (l - q) f _ (by omega) (by omega) (by omega) pk_us, upd_2]
      have e1 : l - q - kfN F q d (l - q) * q = l - (kfN F q d (l - q) + 1) * q := by rw [Nat.add_mul, Nat.one_mul]; omega
      rw [e1, show i + 1 + kfN F q d (l - q) = i + (kfN F q d (l - q) + 1) by omega]
    · rw [if_neg c, if_pos rfl, if_neg c, f_X7_fewestHours_101, nI_1, Nat.zero_mul, Nat.sub_zero, Nat.add_zero i, eT]
/-- what is left ahead of GOODS g, and how many HOURS g has -/
def lfN (F y : Nat → Nat) (n : Nat) : Nat → Nat
  | 0 => n
  | g + 1 => lfN F y n g - kfN F (y g) n (lfN F y n g) * y g
def kkN (F y : Nat → Nat) (n g : Nat) : Nat := kfN F (y g) n (lfN F y n g)
def kkI (F y : Nat → Nat) (n g : Nat) : Int32 := nI (kkN F y n g)
theorem lfN_le (F y : Nat → Nat) (n : Nat) : ∀ g, lfN F y n g ≤ n
  | 0 => Nat.le_refl _
  | g + 1 => by
    have := lfN_le F y n g
    rw [lfN]
    omega
theorem ways_eq (M : MS w) (H : HS w h) (hh : h + 15 ≤ 72) {F y : Nat → Nat} {n N : Nat} (hN : N ≤ 6) (hn : n ≤ 60) (e4 : wI w h 4 = nI N) (hy : ∀ g, g < N → wI w 74 g = nI (y g) ∧ y g ≤ 12) (hF : ∀ j, j ≤ n → wI w 75 j = nI (F j) ∧ F j ≤ 1000) : f_X7_fewestHours_33 4096 72 h (nI n) (nI n) 0 w = some (nI (F n), cW w 73 (yT (wI w 73) (kkI F y n) N)) := by
  refine (congrArg (f_X7_fewestHours_33 4096 72 h (nI n) (nI n) 0) (show w = cW w 73 (yT (wI w 73) (kkI F y n) 0) from by rw [yT_0, cW_id])).trans ?_
  refine lpE (n := N) (F := fun f g => f_X7_fewestHours_33 f 72 h (nI n) (nI (lfN F y n g)) (nI g) (cW w 73 (yT (wI w 73) (kkI F y n) g))) (fun f g hg => ?_) (fun f => ?_) 4096 (by omega)
  · show f_X7_fewestHours_33 (f + 1) _ _ _ _ _ _ = _
    have M' : MS (cW w 73 (yT (wI w 73) (kkI F y n) g)) := M.cW
    have H' : HS (cW w 73 (yT (wI w 73) (kkI F y n) g)) h := H.cW
    have e4' : wI (cW w 73 (yT (wI w 73) (kkI F y n) g)) h 4 = nI N := by rw [cW_o (by omega)]; exact e4
    have t := take_lp (h := h) M hn (show g < 6 by omega) (hy g hg).2 (hy g hg).1 hF (f_X7_fewestHours_33 f) n 0 (lfN F y n g) 4096 (upd (yT (wI w 73) (kkI F y n) g) g (nI 0)) (by omega) (by omega) (lfN_le F y n g) pk_us
    rw [f_X7_fewestHours_33, gI_t H'.o, e4', if_neg (nI_ge hg (by omega)), M'.rf 72 7 0 73 (by decide) (by decide), ms_st M' 73 6 (by decide) (by decide) (by omega) (by decide), cW_s, cW_cW]
    refine t.trans ?_
    rw [upd_2, Nat.zero_add]
    show f_X7_fewestHours_33 f 72 h (nI n) (nI (lfN F y n (g + 1))) (nI (g + 1)) (cW w 73 (upd (yT (wI w 73) (kkI F y n) g) g (kkI F y n g))) = _
    rw [yT_s]
  · show f_X7_fewestHours_33 (f + 1) _ _ _ _ _ _ = _
    have M' : MS (cW w 73 (yT (wI w 73) (kkI F y n) N)) := M.cW
    have H' : HS (cW w 73 (yT (wI w 73) (kkI F y n) N)) h := H.cW
    have e4' : wI (cW w 73 (yT (wI w 73) (kkI F y n) N)) h 4 = nI N := by rw [cW_o (by omega)]; exact e4
    rw [f_X7_fewestHours_33, gI_t H'.o, e4', if_pos (nI_le (by omega) (by omega)), M'.rf 72 7 2 75 (by decide) (by decide), M'.ld 75 61 (by decide) (by decide) (by omega) (by decide), cW_o (by decide), (hF n (by omega)).1]
theorem fewestHours_eq (M : MS w) (H : HS w h) (R : HR (wI w) h S) (I : Iv S K) (hh : h + 15 ≤ 72) {n : Nat} (hn : n ≤ 60) : ∃ w', Qt w w' ∧ f_X7_fewestHours 72 h (nI n) w = some (if op (yN S) (nn S) 1000 0 n < 1000 then nI (op (yN S) (nn S) 1000 0 n) else -1, w') ∧ (op (yN S) (nn S) 1000 0 n < 1000 → ∀ g, g < nn S → wI w' 73 g = kkI (op (yN S) (nn S) 1000 0) (yN S) n g) := by
  have hN := I.n.2
  generalize hw1 : cW w 74 (yT (wI w 74) (yI S) (nn S)) = w1
  have q1 : Qt w w1 := by rw [← hw1]; exact Qt.c (by omega)
  have M1 : MS w1 := M.to q1.1
  have R1 : HR (wI w1) h S := by rw [← hw1]; exact R.cW I (by omega)
  have H1 : HS w1 h := H.to q1.1
  have hy : ∀ g, g < nn S → wI w1 74 g = nI (yN S g) ∧ yN S g ≤ 12 := fun g hg => by
    obtain ⟨a, b⟩ := yN_eq I hg
    refine ⟨?_, b⟩
    rw [← hw1, cW_s]
    unfold yT
    rw [if_pos hg, a]
  generalize hw2 : cW w1 75 (yT (wI w1 75) (fwI (yN S) (nn S)) (n + 1)) = w2
  have q2 : Qt w1 w2 := by rw [← hw2]; exact Qt.c (by omega)
  have M2 : MS w2 := M1.to q2.1
  have R2 : HR (wI w2) h S := by rw [← hw2]; exact R1.cW I (by omega)
  have H2 : HS w2 h := H1.to q2.1
  have hy2 : ∀ g, g < nn S → wI w2 74 g = nI (yN S g) ∧ yN S g ≤ 12 := fun g hg => by
    rw [← hw2, cW_o (by decide)]
    exact hy g hg
  have hF : ∀ j, j ≤ n → wI w2 75 j = nI (op (yN S) (nn S) 1000 0 j) ∧ op (yN S) (nn S) 1000 0 j ≤ 1000 := fun j hj => by
    refine ⟨?_, op_le (by omega) (by decide)⟩
    rw [← hw2, cW_s]
    unfold yT
    rw [if_pos (by omega)]
    rfl
  have b := (hF n (by omega)).2
  have st : f_X7_fewestHours 72 h (nI n) w = if nI (op (yN S) (nn S) 1000 0 n) < (1000 : Int32) then f_X7_fewestHours_33 4096 72 h (nI n) (nI n) 0 w2 else some (-1, w2) := by
    unfold f_X7_fewestHours
    rw [M.cv 72 7 (by decide), fillY_eq M H R I hh, cal_t, hw1, gI_t H1.o, R1.1.2.1, I.n.1, M1.cv 72 7 (by decide), fillF_eq M1 hN hn hy, cal_t, hw2, M2.rf 72 7 2 75 (by decide) (by decide), M2.ld 75 61 (by decide) (by decide) (by omega) (by decide), (hF n (by omega)).1]
  by_cases c : op (yN S) (nn S) 1000 0 n < 1000
  · refine ⟨cW w2 73 (yT (wI w2 73) (kkI (op (yN S) (nn S) 1000 0) (yN S) n) (nn S)), (q1.tr q2).tr (Qt.c (by omega)), ?_, fun _ g hg => ?_⟩
    · rw [st, if_pos (show nI (op (yN S) (nn S) 1000 0 n) < (1000 : Int32) from nI_lt (b := 1000) c (by decide)), if_pos c, ways_eq M2 H2 hh hN hn (by rw [R2.1.2.1]; exact I.n.1) hy2 hF]
    · rw [cW_s]
      unfold yT
      rw [if_pos hg]
  · refine ⟨w2, q1.tr q2, ?_, fun q => absurd q c⟩
    rw [st, if_neg (show ¬ nI (op (yN S) (nn S) 1000 0 n) < (1000 : Int32) from nI_nlt (b := 1000) (by omega) (by omega)), if_neg c]
end S6
