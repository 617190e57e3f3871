/-! GrindMill: gains, most, ways -/
section T0
variable {w w' : Wd} {h k K K2 : Nat} {S T : Nat → Int32}
theorem gains_in (I : Iv S K) {n g : Nat} (hn : n ≤ 12) (hg : g < nn S) (rec : Nat → Nat → Int32 → Int32 → Wd → Option (Unit × Wd)) : ∀ (d x fuel : Nat) (w : Wd), x + 1 + d = n + 1 → d < fuel → CX w h S → (∀ j, j ≤ x → wI w (77 + g) j = brI S g (j * yN S g)) → ∃ w2, f_X7_fillGains_30 rec fuel 72 h (nI n) (nI g) (h + 9 + g) (nI (x + 1)) w = rec 72 h (nI n) (nI (g + 1)) w2 ∧ Fr (fun a => a = 77 + g) w w2 ∧ ∀ j, j ≤ n → wI w2 (77 + g) j = brI S g (j * yN S g) := by
  have hN := I.n.2
  intro d
  induction d with
  | zero =>
    intro x fuel w hx hf C hw
    obtain ⟨f, rfl⟩ : ∃ f, fuel = f + 1 := ⟨fuel - 1, by omega⟩
    obtain rfl : x = n := by omega
    refine ⟨w, ?_, Fr.rf w, hw⟩
    rw [f_X7_fillGains_30, if_pos (nI_lt (by omega) (by omega)), nI_1]
  | succ d ih =>
    intro x fuel w hx hf C hw
    obtain ⟨f, rfl⟩ : ∃ f, fuel = f + 1 := ⟨fuel - 1, by omega⟩
    obtain ⟨M, H, R, hh, hy⟩ := id C
    obtain ⟨k, hk, k1, k2⟩ := R.kind I hg
    obtain ⟨a1, a2, a3, a4, a5⟩ := R.2.1 g hg
    have og := H.og (show g < 6 by omega)
    have y12 := (yN_eq I hg).2
    have e1 : nI (x + 1) - 1 = nI x := nI_pred x
    have fb := fetchedBy_eq H (show g < 6 by omega) hk k1 (n := yN S g) (by omega) (S (6 + g) + nI (x * yN S g))
    have eb : brI S g (x * yN S g) + sm32 (fun j => fk k (S (32 + g)) (S (6 + g) + nI (x * yN S g) + nI j)) (yN S g) = brI S g ((x + 1) * yN S g) := by rw [brI_s, k2]
    have key : f_X7_fillGains_30 rec (f + 1) 72 h (nI n) (nI g) (h + 9 + g) (nI (x + 1)) w = f_X7_fillGains_30 rec f 72 h (nI n) (nI g) (h + 9 + g) (nI (x + 1 + 1)) (cW w (77 + g) (upd (wI w (77 + g)) (x + 1) (brI S g ((x + 1) * yN S g)))) := by
      rw [f_X7_fillGains_30, if_neg (nI_nlt (by omega) (by omega)), gI_t og, a5, M.rf 72 7 1 74 (by decide) (by decide), M.ld 74 6 (by decide) (by decide) (by omega) (by decide), hy g hg, e1, nm_t, pk_mul, M.rf 72 7 3 76 (by decide) (by decide), M.g6 (by omega), M.rf 72 7 3 76 (by decide) (by decide), M.g6 (by omega), ms_lr M ⟨by omega, by omega, by omega⟩ (by omega), hw x (by omega), M.rf 72 7 1 74 (by decide) (by decide), M.ld 74 6 (by decide) (by decide) (by omega) (by decide), hy g hg, calV_t og, fb, cal_t, a3, ms_sr M ⟨by omega, by omega, by omega⟩ (by omega), nI_1, eb]
    have F1 : Fr (fun a => a = 77 + g) w (cW w (77 + g) (upd (wI w (77 + g)) (x + 1) (brI S g ((x + 1) * yN S g)))) := Fr.cW rfl
    obtain ⟨w2, q1, q2, q3⟩ := ih (x + 1) f _ (by omega) (by omega) (C.fr I F1 (fun a ha => by omega)) (fun j hj => by
      rw [cW_s]
      by_cases e : j = x + 1
      · rw [e, pk_us]
      · rw [pk_un e]; exact hw j (by omega))
    exact ⟨w2, key.trans q1, F1.tr q2, q3⟩
theorem gains_lp (I : Iv S K) {n : Nat} (hn : n ≤ 12) : ∀ (d g fuel : Nat) (w : Wd), g + d = nn S → d < fuel → CX w h S → (∀ g', g' < g → ∀ j, j ≤ n → wI w (77 + g') j = brI S g' (j * yN S g')) → ∃ w2, f_X7_fillGains_2 fuel 72 h (nI n) (nI g) w = some ((), w2) ∧ Fr (fun a => 77 ≤ a ∧ a < 83) w w2 ∧ ∀ g', g' < nn S → ∀ j, j ≤ n → wI w2 (77 + g') j = brI S g' (j * yN S g') := by
  have hN := I.n.2
  intro d
  induction d with
  | zero =>
    intro g fuel w hg hf C hw
    obtain ⟨f, rfl⟩ : ∃ f, fuel = f + 1 := ⟨fuel - 1, by omega⟩
    obtain ⟨M, H, R, hh, hy⟩ := id C
    refine ⟨w, ?_, Fr.rf w, fun g' h' => hw g' (by omega)⟩
    rw [f_X7_fillGains_2, gI_t H.o, R.1.2.1, I.n.1, if_pos (nI_le (by omega) (by omega))]
  | succ d ih =>
    intro g fuel w hg hf C hw
    obtain ⟨f, rfl⟩ : ∃ f, fuel = f + 1 := ⟨fuel - 1, by omega⟩
    obtain ⟨M, H, R, hh, hy⟩ := id C
    have F1 : Fr (fun a => a = 77 + g) w (cW w (77 + g) (upd (wI w (77 + g)) 0 0)) := Fr.cW rfl
    have C1 := C.fr I F1 (fun a ha => by omega)
    obtain ⟨w2, q1, q2, q3⟩ := gains_in (h := h) I hn (show g < nn S by omega) (f_X7_fillGains_2 f) n 0 4096 _ (by omega) (by omega) C1 (fun j hj => by
      rw [cW_s, show j = 0 by omega, pk_us, Nat.zero_mul]; rfl)
    have F2 := F1.tr q2
    obtain ⟨w3, r1, r2, r3⟩ := ih (g + 1) f w2 (by omega) (by omega) (C1.fr I q2 (fun a ha => by omega)) (fun g' hg' j hj => by
      by_cases e : g' = g
      · rw [e]; exact q3 j hj
      · rw [F2.2.2 (77 + g') (by omega)]
        exact hw g' (by omega) j hj)
    refine ⟨w3, ?_, (F2.wk (fun a ha => by omega)).tr r2, r3⟩
    rw [f_X7_fillGains_2, gI_t H.o, R.1.2.1, I.n.1, if_neg (nI_ge (by omega) (by omega)), gR_t H.o, H.r0, Option.bind_some, lR_t H.o1 (inb_of H.n1 (by omega) (by decide)), nI_clamp (by omega), H.rg (by omega), Option.bind_some, M.rf 72 7 3 76 (by decide) (by decide), M.g6 (by omega), show (0 : Int32) = nI 0 from rfl, ms_sr M ⟨by omega, by omega, by omega⟩ (by decide)]
    exact q1.trans r1
def GnOk (w : Wd) (S : Nat → Int32) (n : Nat) : Prop := ∀ g, g < nn S → ∀ j, j ≤ n → wI w (77 + g) j = brI S g (j * yN S g)
def MoOk (w : Wd) (S : Nat → Int32) (n g c : Nat) : Prop := ∀ m, m < c → wI w (84 + g) m = MO S (nn S) g m
theorem most_in (M : MS w) {n g m : Nat} {A : Nat → Int32} (hN : nn S ≤ 6) (hn : n ≤ 12) (hg : g < nn S) (hm : m ≤ n) (hG : GnOk w S n) (hM : MoOk w S n (g + 1) (n + 1)) (rec26 : Nat → Int32 → Int32 → Wd → Option (Unit × Wd)) (rec : Nat → Int32 → Int32 → Int32 → Wd → Option (Unit × Wd)) : f_X7_fillMost_52 rec26 rec 4096 72 (nI n) (nI g) (nI m) 0 (cW w (84 + g) (upd A m 0)) = rec 72 (nI n) (nI g) (nI (m + 1)) (cW w (84 + g) (upd A m (MO S (nn S) g m))) := by
  rw [MO_s hg]
  refine lpE (n := m + 1) (F := fun f x => f_X7_fillMost_52 rec26 rec f 72 (nI n) (nI g) (nI m) (nI x) (cW w (84 + g) (upd A m (mxI (mof S (nn S) g m) x)))) (fun f x hx => ?_) (fun f => ?_) 4096 (by omega)
  · show f_X7_fillMost_52 _ _ (f + 1) _ _ _ _ _ _ = f_X7_fillMost_52 rec26 rec f 72 (nI n) (nI g) (nI m) (nI (x + 1)) (cW w (84 + g) (upd A m (f_mmax (mxI (mof S (nn S) g m) x) (mof S (nn S) g m x))))
    have M' : MS (cW w (84 + g) (upd A m (mxI (mof S (nn S) g m) x))) := M.cW
    have eG : wI (cW w (84 + g) (upd A m (mxI (mof S (nn S) g m) x))) (77 + g) x = brI S g (x * yN S g) := by rw [cW_o (by omega)]; exact hG g hg x (by omega)
    have eM : wI (cW w (84 + g) (upd A m (mxI (mof S (nn S) g m) x))) (84 + (g + 1)) (m - x) = MO S (nn S) (g + 1) (m - x) := by rw [cW_o (by omega)]; exact hM (m - x) (by omega)
    rw [f_X7_fillMost_52, if_neg (nI_nlt (by omega) (by omega)), M'.rf 72 7 4 83 (by decide) (by decide), M'.m7 (by omega), M'.rf 72 7 4 83 (by decide) (by decide), M'.m7 (by omega), ms_lr M' ⟨by omega, by omega, by omega⟩ (by omega), cW_s, pk_us, M'.rf 72 7 3 76 (by decide) (by decide), M'.g6 (by omega), ms_lr M' ⟨by omega, by omega, by omega⟩ (by omega), eG, M'.rf 72 7 4 83 (by decide) (by decide), nI_1, M'.m7 (by omega), pk_sub (by omega), ms_lr M' ⟨by omega, by omega, by omega⟩ (by omega), eM, ms_sr M' ⟨by omega, by omega, by omega⟩ (by omega), cW_s, cW_cW, upd_2, nI_1]
    rfl
  · show f_X7_fillMost_52 _ _ (f + 1) _ _ _ _ _ _ = _
    rw [f_X7_fillMost_52, if_pos (nI_lt (by omega) (by omega)), nI_1]
theorem most_row {n g : Nat} (hN : nn S ≤ 6) (hn : n ≤ 12) (hg : g < nn S) (rec26 : Nat → Int32 → Int32 → Wd → Option (Unit × Wd)) : ∀ (d m fuel : Nat) (w : Wd), m + d = n + 1 → d < fuel → MS w → GnOk w S n → MoOk w S n (g + 1) (n + 1) → MoOk w S n g m → ∃ w2, f_X7_fillMost_33 rec26 fuel 72 (nI n) (nI g) (nI m) w = rec26 72 (nI n) (nI g + (-1)) w2 ∧ Fr (fun a => a = 84 + g) w w2 ∧ MoOk w2 S n g (n + 1) := by
  intro d
  induction d with
  | zero =>
    intro m fuel w hm hf M hG hM hR
    obtain ⟨f, rfl⟩ : ∃ f, fuel = f + 1 := ⟨fuel - 1, by omega⟩
    obtain rfl : m = n + 1 := by omega
    refine ⟨w, ?_, Fr.rf w, hR⟩
    rw [f_X7_fillMost_33, if_pos (nI_lt (by omega) (by omega))]
  | succ d ih =>
    intro m fuel w hm hf M hG hM hR
    obtain ⟨f, rfl⟩ : ∃ f, fuel = f + 1 := ⟨fuel - 1, by omega⟩
    have F1 : Fr (fun a => a = 84 + g) w (cW w (84 + g) (upd (wI w (84 + g)) m (MO S (nn S) g m))) := Fr.cW rfl
    obtain ⟨w2, q1, q2, q3⟩ := ih (m + 1) f _ (by omega) (by omega) (M.to F1.1) (fun g' h' j hj => by rw [cW_o (by omega)]; exact hG g' h' j hj) (fun j hj => by rw [cW_o (by omega)]; exact hM j hj) (fun j hj => by
      rw [cW_s]
      by_cases e : j = m
      · rw [e, pk_us]
      · rw [pk_un e]; exact hR j (by omega))
    refine ⟨w2, ?_, F1.tr q2, q3⟩
    rw [f_X7_fillMost_33, if_neg (nI_nlt (by omega) (by omega)), M.rf 72 7 4 83 (by decide) (by decide), M.m7 (by omega), ms_sr M ⟨by omega, by omega, by omega⟩ (by omega), most_in M hN hn hg (by omega) hG hM]
    exact q1
theorem most_rows {n : Nat} (hN : nn S ≤ 6) (hn : n ≤ 12) : ∀ (g fuel : Nat) (w : Wd), g ≤ nn S → g < fuel → MS w → GnOk w S n → (∀ g', g ≤ g' → g' ≤ nn S → MoOk w S n g' (n + 1)) → ∃ w2, f_X7_fillMost_26 fuel 72 (nI n) (nI g + (-1)) w = some ((), w2) ∧ Fr (fun a => 84 ≤ a ∧ a < 91) w w2 ∧ ∀ g', g' ≤ nn S → MoOk w2 S n g' (n + 1) := by
  intro g
  induction g with
  | zero =>
    intro fuel w hg hf M hG hM
    obtain ⟨f, rfl⟩ : ∃ f, fuel = f + 1 := ⟨fuel - 1, by omega⟩
    refine ⟨w, ?_, Fr.rf w, fun g' h' => hM g' (Nat.zero_le _) h'⟩
    rw [f_X7_fillMost_26, if_pos (by decide)]
  | succ g ih =>
    intro fuel w hg hf M hG hM
    obtain ⟨f, rfl⟩ : ∃ f, fuel = f + 1 := ⟨fuel - 1, by omega⟩
    obtain ⟨w2, q1, q2, q3⟩ := most_row hN hn (show g < nn S by omega) (f_X7_fillMost_26 f) (n + 1) 0 4096 w (by omega) (by omega) M hG (hM (g + 1) (by omega) hg) (fun m hm => absurd hm (by omega))
    obtain ⟨w3, r1, r2, r3⟩ := ih f w2 (by omega) (by omega) (M.to q2.1) (fun g' h' j hj => by rw [q2.2.2 (77 + g') (by omega)]; exact hG g' h' j hj) (fun g' h1 h2 m hm => by
      by_cases e : g' = g
      · rw [e]; exact q3 m hm
      · rw [q2.2.2 (84 + g') (by omega)]; exact hM g' (by omega) h2 m hm)
    refine ⟨w3, ?_, (q2.wk (fun a ha => by omega)).tr r2, r3⟩
    rw [pk_m1, f_X7_fillMost_26, if_neg (nI_pos (by omega))]
    exact q1.trans r1
theorem most_base {n : Nat} (hN : nn S ≤ 6) (hn : n ≤ 12) : ∀ (d m fuel : Nat) (w : Wd), m + d = n + 1 → d < fuel → MS w → MoOk w S n (nn S) m → ∃ w2, f_X7_fillMost_2 fuel 72 (nI (nn S)) (nI n) (nI m) w = f_X7_fillMost_26 4096 72 (nI n) (nI (nn S) + (-1)) w2 ∧ Fr (fun a => a = 84 + nn S) w w2 ∧ MoOk w2 S n (nn S) (n + 1) := by
  intro d
  induction d with
  | zero =>
    intro m fuel w hm hf M hR
    obtain ⟨f, rfl⟩ : ∃ f, fuel = f + 1 := ⟨fuel - 1, by omega⟩
    obtain rfl : m = n + 1 := by omega
    refine ⟨w, ?_, Fr.rf w, hR⟩
    rw [f_X7_fillMost_2, if_pos (nI_lt (by omega) (by omega)), nm_t, Int32.sub_eq_add_neg]
  | succ d ih =>
    intro m fuel w hm hf M hR
    obtain ⟨f, rfl⟩ : ∃ f, fuel = f + 1 := ⟨fuel - 1, by omega⟩
    have F1 : Fr (fun a => a = 84 + nn S) w (cW w (84 + nn S) (upd (wI w (84 + nn S)) m 0)) := Fr.cW rfl
    obtain ⟨w2, q1, q2, q3⟩ := ih (m + 1) f _ (by omega) (by omega) (M.to F1.1) (fun j hj => by
      rw [cW_s]
      by_cases e : j = m
      · rw [e, pk_us, MO_N]
      · rw [pk_un e]; exact hR j (by omega))
    refine ⟨w2, ?_, F1.tr q2, q3⟩
    rw [f_X7_fillMost_2, if_neg (nI_nlt (by omega) (by omega)), M.rf 72 7 4 83 (by decide) (by decide), M.m7 (by omega), ms_sr M ⟨by omega, by omega, by omega⟩ (by omega), nI_1]
    exact q1
theorem way_in (M : MS w) {n g l : Nat} {A : Nat → Int32} (hN : nn S ≤ 6) (hn : n ≤ 12) (hg : g < nn S) (hl : l ≤ n) (hG : GnOk w S n) (hM : ∀ g', g' ≤ nn S → MoOk w S n g' (n + 1)) (rec : Nat → Nat → Int32 → Int32 → Int32 → Wd → Option (Int32 × Wd)) : ∀ (x fuel : Nat), x < fuel → x ≤ l → f_X7_mostMoney_45 rec fuel 72 h (nI n) (nI l) (nI g) (nI x) (cW w 73 (upd A g 0)) = rec 72 h (nI n) (nI (l - wyN (mof S (nn S) g l) (MO S (nn S) g l) x)) (nI (g + 1)) (cW w 73 (upd A g (nI (wyN (mof S (nn S) g l) (MO S (nn S) g l) x)))) := by
  have fin : ∀ v : Nat, v ≤ l → f_X7_mostMoney_105 rec 72 h (nI n) (nI l) (nI g) (cW w 73 (upd A g (nI v))) = rec 72 h (nI n) (nI (l - v)) (nI (g + 1)) (cW w 73 (upd A g (nI v))) := fun v hv => by
    have M' : MS (cW w 73 (upd A g (nI v))) := M.cW
    rw [f_X7_mostMoney_105, M'.rf 72 7 0 73 (by decide) (by decide), M'.ld 73 6 (by decide) (by decide) (by omega) (by decide), cW_s, pk_us, nm_t, pk_sub hv, nI_1]
  intro x
  induction x with
  | zero =>
    intro fuel hf hx
    obtain ⟨f, rfl⟩ : ∃ f, fuel = f + 1 := ⟨fuel - 1, by omega⟩
    rw [f_X7_mostMoney_45, if_pos (by decide), wyN]
    exact fin 0 (Nat.zero_le _)
  | succ x ih =>
    intro fuel hf hx
    obtain ⟨f, rfl⟩ : ∃ f, fuel = f + 1 := ⟨fuel - 1, by omega⟩
    have M' : MS (cW w 73 (upd A g 0)) := M.cW
    have eG : wI (cW w 73 (upd A g 0)) (77 + g) (x + 1) = brI S g ((x + 1) * yN S g) := by rw [cW_o (by omega)]; exact hG g hg (x + 1) (by omega)
    have eM : ∀ g' m, g' ≤ nn S → m ≤ n → wI (cW w 73 (upd A g 0)) (84 + g') m = MO S (nn S) g' m := fun g' m h1 h2 => by rw [cW_o (by omega)]; exact hM g' h1 m (by omega)
    rw [f_X7_mostMoney_45, if_neg (nI_nle (by omega) (by omega)), M'.rf 72 7 3 76 (by decide) (by decide), M'.g6 (by omega), ms_lr M' ⟨by omega, by omega, by omega⟩ (by omega), eG, M'.rf 72 7 4 83 (by decide) (by decide), nI_1, M'.m7 (by omega), pk_sub (by omega), ms_lr M' ⟨by omega, by omega, by omega⟩ (by omega), eM (g + 1) _ (by omega) (by omega), M'.rf 72 7 4 83 (by decide) (by decide), M'.m7 (by omega), ms_lr M' ⟨by omega, by omega, by omega⟩ (by omega), eM g _ (by omega) (by omega), wyN]
    by_cases c : mof S (nn S) g l (x + 1) = MO S (nn S) g l
    · rw [if_pos c, if_pos (show brI S g ((x + 1) * yN S g) + MO S (nn S) (g + 1) (l - (x + 1)) = MO S (nn S) g l from c), M'.rf 72 7 0 73 (by decide) (by decide), ms_st M' 73 6 (by decide) (by decide) (by omega) (by decide), cW_s, cW_cW, upd_2]
      exact fin (x + 1) hx
    · rw [if_neg c, if_neg (show ¬ brI S g ((x + 1) * yN S g) + MO S (nn S) (g + 1) (l - (x + 1)) = MO S (nn S) g l from c), pk_m1]
      exact ih f (by omega) (by omega)
theorem mostMoney_eq (M : MS w) (H : HS w h) (R : HR (wI w) h S) (I : Iv S K) (hh : h + 15 ≤ 72) {n : Nat} (hn : n ≤ 12) : ∃ w', Qt w w' ∧ f_X7_mostMoney 72 h (nI n) w = some (MO S (nn S) 0 n, w') ∧ ∀ g, g < nn S → wI w' 73 g = wbI S (nn S) n g := by
  have hN := I.n.2
  generalize hw1 : cW w 74 (yT (wI w 74) (yI S) (nn S)) = w1
  have q1 : Qt w w1 := by rw [← hw1]; exact Qt.c (by omega)
  have C1 : CX w1 h S := by
    refine ⟨M.to q1.1, H.to q1.1, by rw [← hw1]; exact R.cW I (by omega), hh, fun g hg => ?_⟩
    rw [← hw1, cW_s]
    unfold yT
    rw [if_pos hg, (yN_eq I hg).1]
  obtain ⟨w2, a1, a2, a3⟩ := gains_lp (h := h) I hn (nn S) 0 4096 w1 (by omega) (by omega) C1 (fun g' h' => absurd h' (by omega))
  have C2 : CX w2 h S := C1.fr I a2 (fun a ha => by omega)
  obtain ⟨w3, b1, b2, b3⟩ := most_base hN hn (n + 1) 0 4096 w2 (by omega) (by omega) C2.1 (fun m hm => absurd hm (by omega))
  have C3 : CX w3 h S := C2.fr I b2 (fun a ha => by omega)
  have G3 : GnOk w3 S n := fun g' h' j hj => by rw [b2.2.2 (77 + g') (by omega)]; exact a3 g' h' j hj
  obtain ⟨w4, c1, c2, c3⟩ := most_rows hN hn (nn S) 4096 w3 (Nat.le_refl _) (by omega) C3.1 G3 (fun g' h1 h2 => by rw [show g' = nn S by omega]; exact b3)
  have C4 : CX w4 h S := C3.fr I c2 (fun a ha => by omega)
  have G4 : GnOk w4 S n := fun g' h' j hj => by rw [c2.2.2 (77 + g') (by omega)]; exact G3 g' h' j hj
  obtain ⟨M4, H4, R4, -, -⟩ := C4
  have Q4 : Qt w w4 := q1.tr ((Qt.fr a2 (fun a ha => by omega)).tr ((Qt.fr b2 (fun a ha => by omega)).tr (Qt.fr c2 (fun a ha => by omega))))
  refine ⟨cW w4 73 (yT (wI w4 73) (wbI S (nn S) n) (nn S)), Q4.tr (Qt.c (by omega)), ?_, fun g hg => by rw [cW_s]; unfold yT; rw [if_pos hg]⟩
  have st : f_X7_mostMoney 72 h (nI n) w = f_X7_mostMoney_25 4096 72 h (nI n) (nI n) 0 w4 := by
    unfold f_X7_mostMoney
    rw [M.cv 72 7 (by decide), fillY_eq M H R I hh, cal_t, hw1, C1.1.cv 72 7 (by decide)]
    unfold f_X7_fillGains
    rw [show (0 : Int32) = nI 0 from rfl, a1, cal_t, gI_t C2.2.1.o, C2.2.2.1.1.2.1, I.n.1, C2.1.cv 72 7 (by decide)]
    unfold f_X7_fillMost
    rw [show (0 : Int32) = nI 0 from rfl, b1, c1, cal_t]
  rw [st]
  refine (congrArg (f_X7_mostMoney_25 4096 72 h (nI n) (nI n) 0) (show w4 = cW w4 73 (yT (wI w4 73) (wbI S (nn S) n) 0) from by rw [yT_0, cW_id])).trans ?_
  refine lpE (n := nn S) (F := fun f g => f_X7_mostMoney_25 f 72 h (nI n) (nI (lbN S (nn S) n g)) (nI g) (cW w4 73 (yT (wI w4 73) (wbI S (nn S) n) g))) (fun f g hg => ?_) (fun f => ?_) 4096 (by omega)
  · show f_X7_mostMoney_25 (f + 1) _ _ _ _ _ _ = f_X7_mostMoney_25 f 72 h (nI n) (nI (lbN S (nn S) n (g + 1))) (nI (g + 1)) (cW w4 73 (yT (wI w4 73) (wbI S (nn S) n) (g + 1)))
    have M' : MS (cW w4 73 (yT (wI w4 73) (wbI S (nn S) n) g)) := M4.cW
    have H' : HS (cW w4 73 (yT (wI w4 73) (wbI S (nn S) n) g)) h := H4.cW
    have e4' : wI (cW w4 73 (yT (wI w4 73) (wbI S (nn S) n) g)) h 4 = nI (nn S) := by rw [cW_o (by omega), R4.1.2.1]; exact I.n.1
    have lb := lbN_le S (nn S) n g
    rw [f_X7_mostMoney_25, gI_t H'.o, e4', if_neg (nI_ge hg (by omega)), M'.rf 72 7 0 73 (by decide) (by decide), ms_st M' 73 6 (by decide) (by decide) (by omega) (by decide), cW_s, cW_cW, way_in M4 hN hn hg lb G4 c3 _ _ 4096 (by omega) (Nat.le_refl _), ← yT_s]
    rfl
  · show f_X7_mostMoney_25 (f + 1) _ _ _ _ _ _ = _
    have M' : MS (cW w4 73 (yT (wI w4 73) (wbI S (nn S) n) (nn S))) := M4.cW
    have H' : HS (cW w4 73 (yT (wI w4 73) (wbI S (nn S) n) (nn S))) h := H4.cW
    have e4' : wI (cW w4 73 (yT (wI w4 73) (wbI S (nn S) n) (nn S))) h 4 = nI (nn S) := by rw [cW_o (by omega), R4.1.2.1]; exact I.n.1
    rw [f_X7_mostMoney_25, gI_t H'.o, e4', if_pos (nI_le (by omega) (by omega)), M'.rf 72 7 4 83 (by decide) (by decide), show (0 : Int32) = nI 0 from rfl, M'.m7 (by decide), ms_lr M' ⟨by omega, by omega, by omega⟩ (by omega), cW_o (by decide), c3 0 (Nat.zero_le _) n (by omega)]
end T0
