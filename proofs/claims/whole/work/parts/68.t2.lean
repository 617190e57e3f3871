/-! two mills in one street: GrindMill -/
def feI (S : Nat → Int32) (g : Nat) (s : Int32) : Int32 := fk (S (20 + g)).toNatClampNeg (S (32 + g)) s
def foI (S : Nat → Int32) (g m : Nat) : Int32 := sm32 (fun t => feI S g (S (6 + g) + nI (2 * t))) m
def soI (S : Nat → Int32) (g m : Nat) : Int32 := sm32 (fun t => feI S g (S (6 + g) + nI (2 * t) + 1)) m
def fMI (S : Nat → Int32) (n i j : Nat) : Int32 := if i = j then foI S i (n * yN S i) else brI S i (n * yN S i)
def sMI (S : Nat → Int32) (n i j : Nat) : Int32 := if i = j then soI S j (n * yN S j) else brI S j (n * yN S j)
def rsP (S : Nat → Int32) (n i j o : Nat) : Bool := decide (fMI S n o j ≤ fMI S n i j ∧ sMI S n i o ≤ sMI S n i j)
def rsN (S : Nat → Int32) (n i j c : Nat) : Bool := decide (∀ o, o < c → rsP S n i j o = true)
theorem rsN_s {S : Nat → Int32} {n i j c : Nat} : rsN S n i j (c + 1) = (rsN S n i j c && rsP S n i j c) := by
  unfold rsN
  rw [show rsP S n i j c = decide (rsP S n i j c = true) by simp, ← Bool.decide_and]
  apply decide_eq_decide.mpr
  constructor
  · intro h
    exact ⟨fun o ho => h o (by omega), h c (by omega)⟩
  · rintro ⟨h1, h2⟩ o ho
    by_cases e : o = c
    · rw [e]; exact h2
    · exact h1 o (by omega)
/-- the pairs gone through -/
def stJ (R : Nat → Nat → Bool) (k : Int32) (i : Nat) (cont : Int32 → Int32) : Nat → Nat → Int32 → Int32
  | 0, _, f => cont f
  | d + 1, j, f => if R i j = true then (if f = k then nI (6 * i + j) else stJ R k i cont d (j + 1) (f + 1)) else stJ R k i cont d (j + 1) f
def stI (R : Nat → Nat → Bool) (k : Int32) (N : Nat) : Nat → Nat → Int32 → Int32
  | 0, _, f => if k = -1 then f else -5
  | d + 1, i, f => stJ R k i (fun f' => stI R k N d (i + 1) f') N 0 f
theorem cW_comm {w : Wd} {a b : Nat} {T U : Nat → Int32} (h : a ≠ b) : cW (cW w a T) b U = cW (cW w b U) a T := by
  have : (fun c => if c = b then U else wI (cW w a T) c) = (fun c => if c = a then T else wI (cW w b U) c) := by
    funext c
    by_cases h1 : c = b
    · rw [if_pos h1, if_neg (by omega), h1, cW_s]
    · rw [if_neg h1]
      by_cases h2 : c = a
      · rw [if_pos h2, h2, cW_s]
      · rw [if_neg h2, cW_o h2, cW_o h1]
  unfold cW at *
  rw [this]
  rfl
theorem cW_in {w : Wd} {a b : Nat} {T T' U : Nat → Int32} (h : a ≠ b) : cW (cW (cW w a T) b U) a T' = cW (cW w a T') b U := by
  rw [cW_comm (T := T) h, cW_cW, cW_comm (Ne.symm h)]
theorem i6 {g b : Nat} : (6 : Int32) * nI g + nI b = nI (6 * g + b) := by rw [show (6 : Int32) = nI 6 from rfl, pk_mul, nI_add]
section T2
variable {w w' : Wd} {h k K K2 : Nat} {S T : Nat → Int32}
theorem fw_eq (C : CX w h S) (I : Iv S K) {g : Nat} (hg : g < nn S) (s : Int32) : f_X1_fetchesWhen (h + 9 + g) s w = some (feI S g s, w) := by
  obtain ⟨M, H, R, hh, hy⟩ := C
  have hN := I.n.2
  obtain ⟨k, hk, k1, k2⟩ := R.kind I hg
  rw [fetchesWhen_eq H (by omega) hk k1, (R.2.1 g hg).2.2.1]
  unfold feI
  rw [k2]
theorem street_in (C : CX w h S) (I : Iv S K) {g m : Nat} {nn' : Int32} {A B : Nat → Int32} (hg : g < nn S) (hm : m < 4096) (rec : Nat → Nat → Int32 → Int32 → Wd → Option (Unit × Wd)) : f_X7_fillStreet_63 rec 4096 72 h nn' (nI g) (h + 9 + g) (nI m) 0 (cW (cW w 92 (upd A g 0)) 93 (upd B g 0)) = rec 72 h nn' (nI (g + 1)) (cW (cW w 92 (upd A g (foI S g m))) 93 (upd B g (soI S g m))) := by
  have hN := I.n.2
  refine lpE (n := m) (F := fun f t => f_X7_fillStreet_63 rec f 72 h nn' (nI g) (h + 9 + g) (nI m) (nI t) (cW (cW w 92 (upd A g (foI S g t))) 93 (upd B g (soI S g t)))) (fun f t ht => ?_) (fun f => ?_) 4096 hm
  · show f_X7_fillStreet_63 _ (f + 1) _ _ _ _ _ _ _ _ = f_X7_fillStreet_63 rec f 72 h nn' (nI g) (h + 9 + g) (nI m) (nI (t + 1)) (cW (cW w 92 (upd A g (foI S g t + feI S g (S (6 + g) + nI (2 * t))))) 93 (upd B g (soI S g t + feI S g (S (6 + g) + nI (2 * t) + 1))))
    have F1 : ∀ {T U : Nat → Int32}, Fr (fun a => a = 92 ∨ a = 93) w (cW (cW w 92 T) 93 U) := fun {T U} => (Fr.cW (Or.inl rfl)).tr (Fr.cW (Or.inr rfl))
    have C1 : CX (cW (cW w 92 (upd A g (foI S g t))) 93 (upd B g (soI S g t))) h S := C.fr I F1 (fun a ha => by omega)
    have C2 : CX (cW (cW w 92 (upd A g (foI S g t + feI S g (S (6 + g) + nI (2 * t))))) 93 (upd B g (soI S g t))) h S := C.fr I F1 (fun a ha => by omega)
    obtain ⟨M1, H1, R1, -, -⟩ := id C1
    obtain ⟨M2, H2, R2, -, -⟩ := id C2
    have og := H1.og (show g < 6 by omega)
    have og2 := H2.og (show g < 6 by omega)
    obtain ⟨a1, a2, a3, a4, a5⟩ := R1.2.1 g hg
    rw [f_X7_fillStreet_63, if_neg (nI_ge ht (by omega)), gI_t og, a5, nm_t, show (2 : Int32) = nI 2 from rfl, pk_mul, M1.rf 72 7 6 92 (by decide) (by decide), M1.ld 92 6 (by decide) (by decide) (by omega) (by decide), calV_t og, fw_eq C1 I hg, cal_t, ms_st M1 92 6 (by decide) (by decide) (by omega) (by decide), cW_o (show (92 : Nat) ≠ 93 by decide), cW_s, pk_us, upd_2, cW_in (by decide)]
    rw [M2.rf 72 7 7 93 (by decide) (by decide), M2.ld 93 6 (by decide) (by decide) (by omega) (by decide), calV_t og2, fw_eq C2 I hg, cal_t, ms_st M2 93 6 (by decide) (by decide) (by omega) (by decide), cW_s, pk_us, upd_2, cW_cW, nI_1]
  · show f_X7_fillStreet_63 _ (f + 1) _ _ _ _ _ _ _ _ = _
    rw [f_X7_fillStreet_63, if_pos (nI_le (by omega) (by omega)), nI_1]
def StOk (w : Wd) (S : Nat → Int32) (n c : Nat) : Prop := ∀ g, g < c → wI w 91 g = brI S g (n * yN S g) ∧ wI w 92 g = foI S g (n * yN S g) ∧ wI w 93 g = soI S g (n * yN S g)
theorem street_lp (I : Iv S K) {n : Nat} (hn : n ≤ 9) : ∀ (d g fuel : Nat) (w : Wd), g + d = nn S → d < fuel → CX w h S → StOk w S n g → ∃ w2, f_X7_fillStreet_2 fuel 72 h (nI n) (nI g) w = some ((), w2) ∧ Fr (fun a => 91 ≤ a ∧ a < 94) w w2 ∧ StOk w2 S n (nn S) := by
  have hN := I.n.2
  intro d
  induction d with
  | zero =>
    intro g fuel w hg hf C hw
    obtain ⟨f, rfl⟩ : ∃ f, fuel = f + 1 := ⟨fuel - 1, by omega⟩
    obtain ⟨M, H, R, hh, hy⟩ := id C
    refine ⟨w, ?_, Fr.rf w, fun g' h' => hw g' (by omega)⟩
    rw [f_X7_fillStreet_2, gI_t H.o, R.1.2.1, I.n.1, if_pos (nI_le (by omega) (by omega))]
  | succ d ih =>
    intro g fuel w hg hf C hw
    obtain ⟨f, rfl⟩ : ∃ f, fuel = f + 1 := ⟨fuel - 1, by omega⟩
    obtain ⟨M, H, R, hh, hy⟩ := id C
    have g6 : g < 6 := by omega
    have hgn : g < nn S := by omega
    obtain ⟨k, hk, k1, k2⟩ := R.kind I hgn
    obtain ⟨a1, a2, a3, a4, a5⟩ := R.2.1 g hgn
    have og := H.og g6
    have y12 := (yN_eq I hgn).2
    have bd : n * yN S g ≤ 9 * 12 := Nat.mul_le_mul hn y12
    have fb := fetchedBy_eq H g6 hk k1 (n := n * yN S g) (by omega) (S (6 + g))
    have eb : sm32 (fun j => fk k (wI w (h + 9 + g) 3) (S (6 + g) + nI j)) (n * yN S g) = brI S g (n * yN S g) := by rw [a3, brI, k2]
    rw [eb] at fb
    generalize hv1 : cW w 91 (upd (wI w 91) g (brI S g (n * yN S g))) = v1
    have F1 : Fr (fun a => a = 91) w v1 := by rw [← hv1]; exact Fr.cW rfl
    have C1 : CX v1 h S := C.fr I F1 (fun a ha => by omega)
    have M1 := C1.1
    have M1' : MS (cW v1 92 (upd (wI v1 92) g 0)) := M1.cW
    have e93 : wI (cW v1 92 (upd (wI v1 92) g 0)) 93 = wI v1 93 := cW_o (by decide)
    have si := street_in (nn' := nI n) (A := wI v1 92) (B := wI v1 93) C1 I hgn (m := n * yN S g) (by omega) (f_X7_fillStreet_2 f)
    generalize hv2 : cW (cW v1 92 (upd (wI v1 92) g (foI S g (n * yN S g)))) 93 (upd (wI v1 93) g (soI S g (n * yN S g))) = v2 at si
    have F2 : Fr (fun a => a = 92 ∨ a = 93) v1 v2 := by rw [← hv2]; exact (Fr.cW (Or.inl rfl)).tr (Fr.cW (Or.inr rfl))
    have C2 : CX v2 h S := C1.fr I F2 (fun a ha => by omega)
    obtain ⟨w3, r1, r2, r3⟩ := ih (g + 1) f v2 (by omega) (by omega) C2 (fun g' hg' => by
      have z1 : wI v2 91 = upd (wI w 91) g (brI S g (n * yN S g)) := by rw [← hv2, cW_o (by decide), cW_o (by decide), ← hv1, cW_s]
      have z2 : wI v2 92 = upd (wI w 92) g (foI S g (n * yN S g)) := by rw [← hv2, cW_o (by decide), cW_s, ← hv1, cW_o (by decide)]
      have z3 : wI v2 93 = upd (wI w 93) g (soI S g (n * yN S g)) := by rw [← hv2, cW_s, ← hv1, cW_o (by decide)]
      rw [z1, z2, z3]
      by_cases e : g' = g
      · rw [e, pk_us, pk_us, pk_us]; exact ⟨rfl, rfl, rfl⟩
      · rw [pk_un e, pk_un e, pk_un e]; exact hw g' (by omega))
    refine ⟨w3, ?_, ((F1.wk (fun a ha => by omega)).tr (F2.wk (fun a ha => by omega))).tr r2, r3⟩
    rw [f_X7_fillStreet_2, gI_t H.o, R.1.2.1, I.n.1, if_neg (nI_ge (by omega) (by omega)), gR_t H.o, H.r0, Option.bind_some, lR_t H.o1 (inb_of H.n1 g6 (by decide)), nI_clamp (by omega), H.rg g6, Option.bind_some, M.rf 72 7 1 74 (by decide) (by decide), M.ld 74 6 (by decide) (by decide) g6 (by decide), hy g hgn, pk_mul, nm_t, M.rf 72 7 5 91 (by decide) (by decide), gI_t og, a5, calV_t og, fb, cal_t, ms_st M 91 6 (by decide) (by decide) g6 (by decide), hv1, M1.rf 72 7 6 92 (by decide) (by decide), ms_st M1 92 6 (by decide) (by decide) g6 (by decide), M1'.rf 72 7 7 93 (by decide) (by decide), ms_st M1' 93 6 (by decide) (by decide) g6 (by decide), e93, si]
    exact r1
theorem firstHas_eq (M : MS w) {n i j N : Nat} (hN : N ≤ 6) (hi : i < N) (hj : j < N) (hS : StOk w S n N) : f_X7_firstHas 72 (nI i) (nI j) w = some (fMI S n i j, w) := by
  unfold f_X7_firstHas fMI
  by_cases e : i = j
  · rw [if_pos (by rw [e]), if_pos e, M.rf 72 7 6 92 (by decide) (by decide), M.ld 92 6 (by decide) (by decide) (by omega) (by decide), (hS i hi).2.1, f_X7_firstHas_20]
  · rw [if_neg (fun q => e ((nI_eq (by omega) (by omega)).mp q)), if_neg e, M.rf 72 7 5 91 (by decide) (by decide), M.ld 91 6 (by decide) (by decide) (by omega) (by decide), (hS i hi).1, f_X7_firstHas_20]
theorem secondHas_eq (M : MS w) {n i j N : Nat} (hN : N ≤ 6) (hi : i < N) (hj : j < N) (hS : StOk w S n N) : f_X7_secondHas 72 (nI i) (nI j) w = some (sMI S n i j, w) := by
  unfold f_X7_secondHas sMI
  by_cases e : i = j
  · rw [if_pos (by rw [e]), if_pos e, M.rf 72 7 7 93 (by decide) (by decide), M.ld 93 6 (by decide) (by decide) (by omega) (by decide), (hS j hj).2.2, f_X7_secondHas_20]
  · rw [if_neg (fun q => e ((nI_eq (by omega) (by omega)).mp q)), if_neg e, M.rf 72 7 5 91 (by decide) (by decide), M.ld 91 6 (by decide) (by decide) (by omega) (by decide), (hS j hj).1, f_X7_secondHas_20]
theorem pairRests_eq (M : MS w) {n i j N : Nat} (hN : N ≤ 6) (hi : i < N) (hj : j < N) (hS : StOk w S n N) : f_X7_pairRests 72 (nI i) (nI j) (nI N) w = some (b2 (rsN S n i j N), w) := by
  have cv : ∀ {α β : Type} {o : Option (β × Wd)} {f : β → Wd → Option α}, calV w 72 7 o f = cal o f := fun {α β o f} => M.cv 72 7 (by decide)
  have e : f_X7_pairRests 72 (nI i) (nI j) (nI N) w = ff (fun o => ¬ rsP S n i j o = true) (fun _ => some ((0 : Int32), w)) (some ((1 : Int32), w)) N 0 := by
    unfold f_X7_pairRests
    refine lpF (n := N) (F := fun f o => f_X7_pairRests_3 f 72 (nI i) (nI j) (nI N) (nI o) w) (fun f o ho => ?_) (fun f => ?_) 4096 (by omega)
    · show f_X7_pairRests_3 (f + 1) _ _ _ _ _ _ = _
      rw [f_X7_pairRests_3, if_neg (nI_ge ho (by omega)), cv, firstHas_eq M hN ho hj hS, cal_t, cv, firstHas_eq M hN hi hj hS, cal_t]
      by_cases c1 : fMI S n i j < fMI S n o j
      · rw [if_pos c1, f_X7_pairRests_41, rZ0, if_pos (show ¬ rsP S n i j o = true from fun q => Int32.not_le.mpr c1 (of_decide_eq_true (p := (fMI S n o j ≤ fMI S n i j ∧ sMI S n i o ≤ sMI S n i j)) q).1)]
      · rw [if_neg c1, cv, secondHas_eq M hN hi ho hS, cal_t, cv, secondHas_eq M hN hi hj hS, cal_t]
        by_cases c2 : sMI S n i o ≤ sMI S n i j
        · rw [if_pos c2, if_neg (fun q => q (decide_eq_true ⟨Int32.not_lt.mp c1, c2⟩)), nI_1]
        · rw [if_neg c2, f_X7_pairRests_41, rZ0, if_pos (show ¬ rsP S n i j o = true from fun q => c2 (of_decide_eq_true (p := (fMI S n o j ≤ fMI S n i j ∧ sMI S n i o ≤ sMI S n i j)) q).2)]
    · show f_X7_pairRests_3 (f + 1) _ _ _ _ _ _ = _
      rw [f_X7_pairRests_3, if_pos (nI_le (by omega) (by omega)), rZ1]
  rw [e]
  unfold rsN b2
  by_cases hf : ∀ o, o < N → rsP S n i j o = true
  · rw [ff_all_t N 0 (fun j h1 h2 => hf j (by omega)), decide_eq_true hf]; rfl
  · rw [ff_all_f N 0 (fun q => hf (fun i hi => q i (by omega) (by omega))), decide_eq_false hf]; rfl
theorem cPairs_in (M : MS w) (H : HS w h) {n i N : Nat} {k : Int32} {cont : Int32 → Int32} (hN : N ≤ 6) (hi : i < N) (e4 : wI w h 4 = nI N) (hS : StOk w S n N) (rec : Nat → Nat → Int32 → Int32 → Int32 → Wd → Option (Int32 × Wd)) (hr : ∀ f, rec 72 h k f (nI (i + 1)) w = some (cont f, w)) : ∀ (d j fuel : Nat) (f : Int32), j + d = N → d < fuel → f_X7_restingPairs_29 rec fuel 72 h k f (nI i) (nI j) w = some (stJ (fun a b => rsN S n a b N) k i cont d j f, w) := by
  intro d
  induction d with
  | zero =>
    intro j fuel f hj hf
    obtain ⟨f', rfl⟩ : ∃ f, fuel = f + 1 := ⟨fuel - 1, by omega⟩
    rw [f_X7_restingPairs_29, gI_t H.o, e4, if_pos (nI_le (by omega) (by omega)), nI_1, hr, stJ]
  | succ d ih =>
    intro j fuel f hj hf
    obtain ⟨f', rfl⟩ : ∃ f, fuel = f + 1 := ⟨fuel - 1, by omega⟩
    rw [f_X7_restingPairs_29, gI_t H.o, e4, if_neg (nI_ge (by omega) (by omega)), gI_t H.o, e4, M.cv 72 7 (by decide), pairRests_eq M hN hi (by omega) hS, cal_t, stJ]
    cases hb : rsN S n i j N with
    | false => rw [b2_0, if_pos rfl, if_neg (by decide), f_X7_restingPairs_74, nI_1]; exact ih (j + 1) f' f (by omega) (by omega)
    | true =>
      rw [b2_1, if_neg (by decide), if_pos rfl]
      by_cases c : f = k
      · rw [if_pos c, if_pos c, i6]
      · rw [if_neg c, if_neg c, f_X7_restingPairs_74, nI_1]
        exact ih (j + 1) f' (f + 1) (by omega) (by omega)
theorem cPairs_out (M : MS w) (H : HS w h) {n N : Nat} {k : Int32} (hN : N ≤ 6) (e4 : wI w h 4 = nI N) (hS : StOk w S n N) : ∀ (d i fuel : Nat) (f : Int32), i + d = N → d < fuel → f_X7_restingPairs_17 fuel 72 h k f (nI i) w = some (stI (fun a b => rsN S n a b N) k N d i f, w) := by
  intro d
  induction d with
  | zero =>
    intro i fuel f hi hf
    obtain ⟨f', rfl⟩ : ∃ f, fuel = f + 1 := ⟨fuel - 1, by omega⟩
    rw [f_X7_restingPairs_17, gI_t H.o, e4, if_pos (nI_le (by omega) (by omega)), stI]
    by_cases c : k = -1
    · rw [if_pos c, if_pos c, f_X7_restingPairs_98]
    · rw [if_neg c, if_neg c, f_X7_restingPairs_98]
  | succ d ih =>
    intro i fuel f hi hf
    obtain ⟨f', rfl⟩ : ∃ f, fuel = f + 1 := ⟨fuel - 1, by omega⟩
    rw [f_X7_restingPairs_17, gI_t H.o, e4, if_neg (nI_ge (by omega) (by omega)), stI]
    exact cPairs_in M H hN (by omega) e4 hS (f_X7_restingPairs_17 f') (fun f => ih (i + 1) f' f (by omega) (by omega)) N 0 4096 f (by omega) (by omega)
theorem restingPairs_eq (M : MS w) (H : HS w h) (R : HR (wI w) h S) (I : Iv S K) (hh : h + 15 ≤ 72) {n : Nat} (hn : n ≤ 9) (k : Int32) : ∃ w', Qt w w' ∧ f_X7_restingPairs 72 h (nI n) k w = some (stI (fun a b => rsN S n a b (nn S)) k (nn S) (nn S) 0 0, w') := by
  have hN := I.n.2
  generalize hw1 : cW w 74 (yT (wI w 74) (yI S) (nn S)) = w1
  have q1 : Qt w w1 := by rw [← hw1]; exact Qt.c (by omega)
  have C1 : CX w1 h S := by
    refine ⟨M.to q1.1, H.to q1.1, by rw [← hw1]; exact R.cW I (by omega), hh, fun g hg => ?_⟩
    rw [← hw1, cW_s]
    unfold yT
    rw [if_pos hg, (yN_eq I hg).1]
  obtain ⟨w2, a1, a2, a3⟩ := street_lp (h := h) I hn (nn S) 0 4096 w1 (by omega) (by omega) C1 (fun g' h' => absurd h' (by omega))
  have C2 : CX w2 h S := C1.fr I a2 (fun a ha => by omega)
  refine ⟨w2, q1.tr (Qt.fr a2 (fun a ha => by omega)), ?_⟩
  unfold f_X7_restingPairs
  rw [M.cv 72 7 (by decide), fillY_eq M H R I hh, cal_t, hw1, C1.1.cv 72 7 (by decide)]
  unfold f_X7_fillStreet
  rw [show (0 : Int32) = nI 0 from rfl, a1, cal_t]
  exact cPairs_out C2.1 C2.2.1 hN (by rw [C2.2.2.1.1.2.1]; exact I.n.1) a3 (nn S) 0 4096 0 (by omega) (by omega)
end T2
