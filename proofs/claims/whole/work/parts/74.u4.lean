/-! the reference reads a text -/
def RS (w : Wd) (S : Nat → Int32) : Prop := wI w 95 15 = nI (nn S) ∧ wI w 95 11 = S 18 ∧ wI w 95 12 = S 16 ∧ wI w 95 13 = S 15 ∧ ∀ g, g < nn S → wI w 101 (3 * g) = S (20 + g) ∧ wI w 101 (3 * g + 1) = S (26 + g) ∧ wI w 101 (3 * g + 2) = S (32 + g)
def RH (w : Wd) (S : Nat → Int32) : Prop := wI w 95 10 = S 17
def rset : Nat → Prop := fun c => c = 95 ∨ c = 101
/-- behind an item's body -/
def RB (w w2 : Wd) (L : Nat) (t : Nat → Nat) (a b : Int32) (r : Bool × Nat × (Nat → Int32)) : Prop := RC w2 L t ∧ Fr rset w w2 ∧ (r.1 = true → a = nI r.2.1) ∧ (r.1 = false → b = nI r.2.1 ∧ RS w2 r.2.2 ∧ RH w2 r.2.2)
section U4
variable {w w' : Wd} {L p K : Nat} {t : Nat → Nat} {S : Nat → Int32}
theorem az_sk {a b x : Int32} {k : Nat} (h8 : k ≠ 8) (h9 : k ≠ 9) : sI (az w a b) 95 k x = az (sI w 95 k x) a b := by
  have : upd (upd (upd (wI w 95) 8 a) 9 b) k x = upd (upd (upd (wI w 95) k x) 8 a) 9 b := by
    funext j
    by_cases e : j = k
    · subst e; rw [pk_us, pk_un h9, pk_un h8, pk_us]
    · rw [pk_un e]
      by_cases e9 : j = 9
      · subst e9; rw [pk_us, pk_us]
      · rw [pk_un e9, pk_un e9]
        by_cases e8 : j = 8
        · subst e8; rw [pk_us, pk_us]
        · rw [pk_un e8, pk_un e8, pk_un e]
  unfold az
  rw [sIW, this, sI_cW, cW_s, cW_cW]
theorem az_sr {a b x : Int32} {k : Nat} : sI (az w a b) 101 k x = az (sI w 101 k x) a b := by
  unfold az
  rw [sI_cW, sI_cW, cW_o (by decide), cW_comm (by decide), cW_o (by decide)]
theorem RC.s (C : RC w L t) {b k : Nat} {x : Int32} (hb : (b = 95 ∧ k ≠ 6) ∨ b = 101) : RC (sI w b k x) L t := by
  refine C.fr (Fr.sI (A := rset) (by unfold rset; omega)) (by unfold rset; omega) (by unfold rset; omega) ?_
  rcases hb with ⟨rfl, h⟩ | rfl
  · exact wI_place (Ne.symm h)
  · exact wI_other (by decide)
theorem tkE_num {e : Nat} {lo hi : Int32} (he : e ≤ L) (ho : nmO t L e lo hi = true) : tkE t L (nmS t L e) = nmE t L e := by
  obtain ⟨-, f, l, -⟩ := num_val he (of_decide_eq_true ho).1
  exact tkE_fig l f
theorem v_ne {e : Nat} {lo hi : Int32} (he : e ≤ L) (ho : nmO t L e lo hi = true) : ¬ nI (nmV t L e) = -1 := nI_ne_m1 (by have := (num_val he (of_decide_eq_true ho).1).2.2.2; omega)
/-- one number that becomes a field -/
theorem ref_num (C : RC w L t) {a : Int32} {e : Nat} (he : e ≤ L) (lo hi : Int32) {S' : Nat → Int32} (k : Nat) (hk : k ≠ 6 ∧ k ≠ 8 ∧ k ≠ 9) (hS : nmO t L e lo hi = true → RS (sI w 95 k (nI (nmV t L e))) S' ∧ RH (sI w 95 k (nI (nmV t L e))) S') : ∃ v w2 b', f_X12_number 95 lo hi (az w a (nI e)) = some (v, az w (nI (nmS t L e)) b') ∧ w2 = sI w 95 k v ∧ ((v = -1 ∧ (ib1 t L e lo hi S S').1 = true) ∨ (¬ v = -1 ∧ (ib1 t L e lo hi S S').1 = false)) ∧ RB w w2 L t (nI (nmS t L e)) b' (ib1 t L e lo hi S S') := by
  have F : ∀ x, Fr rset w (sI w 95 k x) := fun x => Fr.sI (Or.inl rfl)
  refine ⟨_, _, _, number_eq C he lo hi, rfl, ?_, ?_⟩
  · unfold ib1
    by_cases c : nmO t L e lo hi = true
    · rw [if_pos c, if_pos c]; exact Or.inr ⟨v_ne he c, rfl⟩
    · rw [if_neg c, if_neg c]; exact Or.inl ⟨rfl, rfl⟩
  · unfold ib1
    by_cases c : nmO t L e lo hi = true
    · rw [if_pos c, if_pos c]
      exact ⟨C.s (Or.inl ⟨rfl, hk.1⟩), F _, fun q => absurd q (by show ¬ false = true; decide), fun _ => ⟨by rw [tkE_num he c], hS c⟩⟩
    · rw [if_neg c, if_neg c]
      exact ⟨C.s (Or.inl ⟨rfl, hk.1⟩), F _, fun _ => rfl, fun q => absurd q (by show ¬ true = false; decide)⟩
theorem RS.s (h : RS w S) {k : Nat} {x : Int32} {S' : Nat → Int32} (h15 : k ≠ 15) (e19 : S' 19 = S 19) (e11 : wI (sI w 95 k x) 95 11 = S' 18) (e12 : wI (sI w 95 k x) 95 12 = S' 16) (e13 : wI (sI w 95 k x) 95 13 = S' 15) (eg : ∀ g, g < nn S → S' (20 + g) = S (20 + g) ∧ S' (26 + g) = S (26 + g) ∧ S' (32 + g) = S (32 + g)) : RS (sI w 95 k x) S' := by
  obtain ⟨a, b, c, d, e⟩ := h
  have en : nn S' = nn S := by unfold nn; rw [e19]
  refine ⟨by rw [en, wI_place (Ne.symm h15)]; exact a, e11, e12, e13, fun g hg => ?_⟩
  rw [en] at hg
  obtain ⟨g1, g2, g3⟩ := eg g hg
  rw [g1, g2, g3, wI_other (show (101 : Nat) ≠ 95 by decide), wI_other (show (101 : Nat) ≠ 95 by decide), wI_other (show (101 : Nat) ≠ 95 by decide)]
  exact e g hg
def rvI (b : Bool) : Int32 := b2 (!b)
theorem reads_goods (C : RC w L t) (R : RS w S) (Rh : RH w S) (I : Iv S K) (hp : p ≤ L) : ∃ w2 a b, f_X12_readsGoods 95 (az w (nI p) (nI (tkE t L p))) = some (rvI (ibG t L S p).1, az w2 a b) ∧ RB w w2 L t a b (ibG t L S p) := by
  have hN := I.n.2
  have hL := C.2.1
  obtain ⟨a1, a2, a3, a4, a5, a6⟩ := nm_b3 (t := t) hp
  obtain ⟨b1, b2', b3, b4⟩ := nm_b4 (t := t) a6
  obtain ⟨c1, c2, c3, c4⟩ := nm_b4 (t := t) b4
  have bad : ∀ (x : Nat) (r : Bool × Nat × (Nat → Int32)) (b : Int32), r = (true, x, S) → RB w w L t (nI x) b r := fun x r b e => by
    rw [e]
    exact ⟨C, Fr.rf w, fun _ => rfl, fun q => absurd q (by show ¬ true = false; decide)⟩
  unfold f_X12_readsGoods ibG
  rw [C.z.g, az_k (by decide) (by decide), R.1]
  by_cases h6 : nn S = 6
  · refine ⟨w, nI p, nI (tkE t L p), ?_, ?_⟩
    · rw [if_pos (show nI (nn S) = (6 : Int32) from by rw [h6]; rfl), if_pos h6]
      exact rZ0
    · rw [if_pos h6]; exact bad p _ _ rfl
  · have n6 : ¬ nI (nn S) = (6 : Int32) := fun q => h6 ((nI_eq (b := 6) (by omega) (by decide)).mp q)
    rw [if_neg n6, if_neg h6, mc_t C.z.1, number_eq C a2, cal_t]
    by_cases o1 : nmO t L (tkE t L p) 0 5 = true
    · rw [if_pos o1, if_pos o1, if_neg (v_ne a2 o1), tkE_num a2 o1, mc_t C.z.1, number_eq C a6, cal_t]
      by_cases o2 : nmO t L (nmE t L (tkE t L p)) 1 9 = true
      · rw [if_pos o2, if_pos o2, f_X12_readsGoods_34, if_neg (v_ne a6 o2), tkE_num a6 o2, mc_t C.z.1, number_eq C b4, cal_t]
        by_cases o3 : nmO t L (nmE t L (nmE t L (tkE t L p))) 0 40 = true
        · rw [if_pos o3, if_pos o3, f_X12_readsGoods_51, if_neg (v_ne b4 o3), tkE_num b4 o3]
          have i3 : ∀ n : Nat, (3 : Int32) * nI n = nI (3 * n) := fun n => by rw [show (3 : Int32) = nI 3 from rfl, pk_mul]
          have i31 : ∀ n : Nat, nI (3 * n) + 1 = nI (3 * n + 1) := fun n => nI_1 _
          have i32 : ∀ n : Nat, nI (3 * n) + 2 = nI (3 * n + 2) := fun n => nI_add _ 2
          generalize nI (nmV t L (tkE t L p)) = x1
          generalize nI (nmV t L (nmE t L (tkE t L p))) = x2
          generalize nI (nmV t L (nmE t L (nmE t L (tkE t L p)))) = x3
          generalize nI (nmS t L (nmE t L (nmE t L (tkE t L p)))) = ya
          have stp : ∀ (v : Wd) (i : Nat) (x : Int32) {α : Type} {f : Wd → Option α}, RC v L t → i < 18 → aI v 101 14 (nI i) x f = f (sI v 101 i x) := fun v i x {α f} Cv hi => by
            rw [aI_t (Cv.1.oo 101 14 (by decide)) (inb_of (Cv.1.nn 101 18 (by decide)) hi (by decide)), nI_clamp (by omega)]
          have r15 : ∀ (v : Wd) (i : Nat) (x : Int32), wI (sI v 101 i x) 95 15 = wI v 95 15 := fun v i x => by rw [wI_other (by decide)]
          have C1 : RC (sI w 101 (3 * nn S) x1) L t := C.s (Or.inr rfl)
          have C2 : RC (sI (sI w 101 (3 * nn S) x1) 101 (3 * nn S + 1) x2) L t := C1.s (Or.inr rfl)
          have C3 : RC (sI (sI (sI w 101 (3 * nn S) x1) 101 (3 * nn S + 1) x2) 101 (3 * nn S + 2) x3) L t := C2.s (Or.inr rfl)
          refine ⟨sI (sI (sI (sI w 101 (3 * nn S) x1) 101 (3 * nn S + 1) x2) 101 (3 * nn S + 2) x3) 95 15 (nI (nn S + 1)), ya, nI (nmE t L (nmE t L (nmE t L (tkE t L p)))), ?_, ?_⟩
          · rw [C.z.1.rf 95 12 14 101 (by decide) (by decide), C.z.g, az_k (by decide) (by decide), R.1, i3, stp _ _ _ C.z (by omega), az_sr, C1.z.1.rf 95 12 14 101 (by decide) (by decide), C1.z.g, az_k (by decide) (by decide), r15, R.1, i3, i31, stp _ _ _ C1.z (by omega), az_sr, C2.z.1.rf 95 12 14 101 (by decide) (by decide), C2.z.g, az_k (by decide) (by decide), r15, r15, R.1, i3, i32, stp _ _ _ C2.z (by omega), az_sr, C3.z.g, az_k (by decide) (by decide), r15, r15, r15, R.1, nI_1, C3.z.p, az_sk (by decide) (by decide)]
            exact rZ1
          · refine ⟨C3.s (Or.inl ⟨rfl, by decide⟩), (Fr.sI (Or.inr rfl)).tr ((Fr.sI (Or.inr rfl)).tr ((Fr.sI (Or.inr rfl)).tr (Fr.sI (Or.inl rfl)))), fun q => absurd q (by show ¬ false = true; decide), fun _ => ⟨rfl, ?_, ?_⟩⟩
            · show RS _ (addS S x1 x2 x3)
              obtain ⟨R1, R2, R3, R4, R5⟩ := R
              have hn5 : nn S ≤ 5 := by omega
              have f95 : ∀ k, k ≠ 15 → wI (sI (sI (sI (sI w 101 (3 * nn S) x1) 101 (3 * nn S + 1) x2) 101 (3 * nn S + 2) x3) 95 15 (nI (nn S + 1))) 95 k = wI w 95 k := fun k hk => by
                rw [wI_place hk, wI_other (by decide), wI_other (by decide), wI_other (by decide)]
              refine ⟨by rw [wI_same, addS_nn hn5], by rw [f95 11 (by decide), addS_o hn5 (by omega)]; exact R2, by rw [f95 12 (by decide), addS_o hn5 (by omega)]; exact R3, by rw [f95 13 (by decide), addS_o hn5 (by omega)]; exact R4, fun g hg => ?_⟩
              show wI (sI (sI (sI (sI w 101 (3 * nn S) x1) 101 (3 * nn S + 1) x2) 101 (3 * nn S + 2) x3) 95 15 (nI (nn S + 1))) 101 (3 * g) = addS S x1 x2 x3 (20 + g) ∧ wI (sI (sI (sI (sI w 101 (3 * nn S) x1) 101 (3 * nn S + 1) x2) 101 (3 * nn S + 2) x3) 95 15 (nI (nn S + 1))) 101 (3 * g + 1) = addS S x1 x2 x3 (26 + g) ∧ wI (sI (sI (sI (sI w 101 (3 * nn S) x1) 101 (3 * nn S + 1) x2) 101 (3 * nn S + 2) x3) 95 15 (nI (nn S + 1))) 101 (3 * g + 2) = addS S x1 x2 x3 (32 + g)
              have hg' : g < nn S + 1 := by
                have : g < nn (addS S x1 x2 x3) := hg
                rw [addS_nn hn5] at this
                exact this
              rw [wI_other (show (101 : Nat) ≠ 95 by decide), wI_other (show (101 : Nat) ≠ 95 by decide), wI_other (show (101 : Nat) ≠ 95 by decide)]
              by_cases eg : g = nn S
              · subst eg
                obtain ⟨n1, n2, n3⟩ := addS_n (k := x1) (r := x2) (p := x3) hn5
                rw [n1, n2, n3]
                refine ⟨?_, ?_, ?_⟩
                · rw [wI_place (by omega), wI_place (by omega), wI_same]
                · rw [wI_place (by omega), wI_same]
                · rw [wI_same]
              · obtain ⟨n1, n2, n3⟩ := addS_g (k := x1) (r := x2) (p := x3) hn5 (show g < nn S by omega)
                rw [n1, n2, n3, wI_place (by omega), wI_place (by omega), wI_place (by omega), wI_place (by omega), wI_place (by omega), wI_place (by omega), wI_place (by omega), wI_place (by omega), wI_place (by omega)]
                exact R5 g (by omega)
            · show wI _ 95 10 = addS S x1 x2 x3 17
              rw [wI_place (by decide), wI_other (by decide), wI_other (by decide), wI_other (by decide), addS_o (by omega) (by omega)]
              exact Rh
        · refine ⟨w, nI (nmS t L (nmE t L (nmE t L (tkE t L p)))), nI (tkE t L (nmS t L (nmE t L (nmE t L (tkE t L p))))), ?_, ?_⟩
          · rw [if_neg o3, if_neg o3, f_X12_readsGoods_51, if_pos rfl]
            exact rZ0
          · rw [if_neg o3]; exact bad _ _ _ rfl
      · refine ⟨w, nI (nmS t L (nmE t L (tkE t L p))), nI (tkE t L (nmS t L (nmE t L (tkE t L p)))), ?_, ?_⟩
        · rw [if_neg o2, if_neg o2, f_X12_readsGoods_34, if_pos rfl, f_X12_readsGoods_51, if_pos rfl]
          exact rZ0
        · rw [if_neg o2]; exact bad _ _ _ rfl
    · refine ⟨w, nI (nmS t L (tkE t L p)), nI (tkE t L (nmS t L (tkE t L p))), ?_, ?_⟩
      · rw [if_neg o1, if_neg o1, if_pos rfl, f_X12_readsGoods_34, if_pos rfl, f_X12_readsGoods_51, if_pos rfl]
        exact rZ0
      · rw [if_neg o1]; exact bad _ _ _ rfl
theorem reads_item (C : RC w L t) (R : RS w S) (I : Iv S K) {k : Nat} (hk : k < 5) (Rh : 0 < k → RH w S) (hN : k = 0 → ∃ x, S = newS x) (hp : p ≤ L) : ∃ w2 a b, f_X12_readsItem 95 (nI k) (az w (nI p) (nI (tkE t L p))) = some (rvI (ibd t L S p k).1, az w2 a b) ∧ RB w w2 L t a b (ibd t L S p k) := by
  have hN6 := I.n.2
  have hL := C.2.1
  obtain ⟨a1, a2⟩ := tkE_b (t := t) hp
  obtain ⟨R1, R2, R3, R4, R5⟩ := id R
  have five : k = 0 ∨ k = 1 ∨ k = 2 ∨ k = 3 ∨ k = 4 := by omega
  unfold f_X12_readsItem
  rcases five with rfl | rfl | rfl | rfl | rfl
  · obtain ⟨x, rfl⟩ := hN rfl
    obtain ⟨v, w2, b', e, e2, hv, B⟩ := ref_num (S := newS x) C (a := nI p) a2 0 99 (S' := newS (nI (nmV t L (tkE t L p)))) 10 (by decide) (fun _ => ⟨R.s (by decide) rfl (by rw [wI_place (by decide)]; exact R2) (by rw [wI_place (by decide)]; exact R3) (by rw [wI_place (by decide)]; exact R4) (fun g hg => absurd hg (by show ¬ g < 0; omega)), by show wI _ 95 10 = _; rw [wI_same]; rfl⟩)
    show ∃ w2 a b, _ = some (rvI (ib1 t L (tkE t L p) 0 99 (newS x) (newS (nI (nmV t L (tkE t L p))))).1, az w2 a b) ∧ RB w w2 L t a b (ib1 t L (tkE t L p) 0 99 (newS x) (newS (nI (nmV t L (tkE t L p)))))
    refine ⟨w2, _, _, ?_, B⟩
    have C2 : RC w2 L t := B.1
    rw [if_pos (by decide), mc_t C.z.1, e, cal_t, C.z.p, az_sk (by decide) (by decide), ← e2, C2.z.g, az_k (by decide) (by decide), e2, wI_same]
    rcases hv with ⟨h1, h2⟩ | ⟨h1, h2⟩
    · rw [if_pos h1, h2]; exact rZ0
    · rw [if_neg h1, h2]; exact rZ1
  · obtain ⟨w2, a, b, e, B⟩ := reads_goods C R (Rh (by decide)) I hp
    show ∃ w2 a b, _ = some (rvI (ibG t L S p).1, az w2 a b) ∧ RB w w2 L t a b (ibG t L S p)
    refine ⟨w2, a, b, ?_, B⟩
    rw [if_neg (by decide), if_pos (by decide), mc_t C.z.1, e, cal_t]
    cases (ibG t L S p).1
    · exact rZ1
    · exact rZ0
  · obtain ⟨v, w2, b', e, e2, hv, B⟩ := ref_num (S := S) C (a := nI p) a2 0 (nI (nn S) - 1) (S' := upd S 15 (nI (nmV t L (tkE t L p)))) 13 (by decide) (fun _ => ⟨R.s (by decide) (pk_un (by decide)) (by rw [wI_place (by decide), pk_un (by decide)]; exact R2) (by rw [wI_place (by decide), pk_un (by decide)]; exact R3) (by rw [wI_same, pk_us]) (fun g hg => ⟨pk_un (by omega), pk_un (by omega), pk_un (by omega)⟩), by show wI _ 95 10 = _; rw [wI_place (by decide), pk_un (by decide)]; exact Rh (by decide)⟩)
    show ∃ w2 a b, _ = some (rvI (ib1 t L (tkE t L p) 0 (nI (nn S) - 1) S (upd S 15 (nI (nmV t L (tkE t L p))))).1, az w2 a b) ∧ RB w w2 L t a b (ib1 t L (tkE t L p) 0 (nI (nn S) - 1) S (upd S 15 (nI (nmV t L (tkE t L p)))))
    refine ⟨w2, _, _, ?_, B⟩
    rw [if_neg (by decide), if_neg (by decide), if_pos (by decide), C.z.g, az_k (by decide) (by decide), R1, mc_t C.z.1, e, cal_t, C.z.p, az_sk (by decide) (by decide), ← e2]
    rcases hv with ⟨h1, h2⟩ | ⟨h1, h2⟩
    · rw [if_pos h1, h2]; exact rZ0
    · rw [if_neg h1, h2]; exact rZ1
  · obtain ⟨v, w2, b', e, e2, hv, B⟩ := ref_num (S := S) C (a := nI p) a2 0 31 (S' := upd S 18 (nI (nmV t L (tkE t L p)))) 11 (by decide) (fun _ => ⟨R.s (by decide) (pk_un (by decide)) (by rw [wI_same, pk_us]) (by rw [wI_place (by decide), pk_un (by decide)]; exact R3) (by rw [wI_place (by decide), pk_un (by decide)]; exact R4) (fun g hg => ⟨pk_un (by omega), pk_un (by omega), pk_un (by omega)⟩), by show wI _ 95 10 = _; rw [wI_place (by decide), pk_un (by decide)]; exact Rh (by decide)⟩)
    show ∃ w2 a b, _ = some (rvI (ib1 t L (tkE t L p) 0 31 S (upd S 18 (nI (nmV t L (tkE t L p))))).1, az w2 a b) ∧ RB w w2 L t a b (ib1 t L (tkE t L p) 0 31 S (upd S 18 (nI (nmV t L (tkE t L p)))))
    refine ⟨w2, _, _, ?_, B⟩
    have C2 : RC w2 L t := B.1
    rw [if_neg (by decide), if_neg (by decide), if_neg (by decide), if_pos (by decide), mc_t C.z.1, e, cal_t, C.z.p, az_sk (by decide) (by decide), ← e2, C2.z.g, az_k (by decide) (by decide), e2, wI_same]
    rcases hv with ⟨h1, h2⟩ | ⟨h1, h2⟩
    · rw [if_pos h1, h2]; exact rZ0
    · rw [if_neg h1, h2]; exact rZ1
  · obtain ⟨v, w2, b', e, e2, hv, B⟩ := ref_num (S := S) C (a := nI p) a2 0 9 (S' := upd S 16 (nI (nmV t L (tkE t L p)))) 12 (by decide) (fun _ => ⟨R.s (by decide) (pk_un (by decide)) (by rw [wI_place (by decide), pk_un (by decide)]; exact R2) (by rw [wI_same, pk_us]) (by rw [wI_place (by decide), pk_un (by decide)]; exact R4) (fun g hg => ⟨pk_un (by omega), pk_un (by omega), pk_un (by omega)⟩), by show wI _ 95 10 = _; rw [wI_place (by decide), pk_un (by decide)]; exact Rh (by decide)⟩)
    show ∃ w2 a b, _ = some (rvI (ib1 t L (tkE t L p) 0 9 S (upd S 16 (nI (nmV t L (tkE t L p))))).1, az w2 a b) ∧ RB w w2 L t a b (ib1 t L (tkE t L p) 0 9 S (upd S 16 (nI (nmV t L (tkE t L p)))))
    refine ⟨w2, _, _, ?_, B⟩
    have C2 : RC w2 L t := B.1
    rw [if_neg (by decide), if_neg (by decide), if_neg (by decide), if_neg (by decide), mc_t C.z.1, e, cal_t, C.z.p, az_sk (by decide) (by decide), ← e2, C2.z.g, az_k (by decide) (by decide), e2, wI_same]
    rcases hv with ⟨h1, h2⟩ | ⟨h1, h2⟩
    · rw [if_pos h1, h2]; exact rZ0
    · rw [if_neg h1, h2]; exact rZ1
end U4
