/-! the reference: items, one behind another -/
section U5
variable {w w' : Wd} {L p K : Nat} {t : Nat → Nat} {S : Nat → Int32}
theorem ff_word : ff (fun k => wmB t L p k = true) (fun k => nI k) (-1) 5 0 = if wmB t L p 0 = true then nI 0 else if wmB t L p 1 = true then nI 1 else if wmB t L p 2 = true then nI 2 else if wmB t L p 3 = true then nI 3 else if wmB t L p 4 = true then nI 4 else -1 := rfl
theorem tkE_59 {q : Nat} (hq : q < L) (h : t q = 59) : tkE t L q = q + 1 := by
  have h1 : ¬ txL t q = true := fun z => by have := of_decide_eq_true z; omega
  have h2 : ¬ txF t q = true := fun z => by have := of_decide_eq_true z; omega
  unfold tkE
  rw [if_pos hq, if_neg h1, if_neg h2]
/-- behind an item: at fault, or on to the next -/
def RI (w : Wd) (L : Nat) (t : Nat → Nat) (m : Nat) (o : Option (Int32 × Wd)) (rec : Nat → Int32 → Wd → Option (Int32 × Wd)) (r : Bool × Nat × (Nat → Int32)) : Prop := ∃ w2, RC w2 L t ∧ Fr rset w w2 ∧ ((r.1 = true ∧ ∃ b, o = some (-1, az w2 (nI r.2.1) b)) ∨ (r.1 = false ∧ o = rec 95 (nI (m + 1)) (az w2 (nI r.2.1) (nI (tkE t L r.2.1))) ∧ RS w2 r.2.2 ∧ RH w2 r.2.2))
theorem ref_74 (C : RC w L t) (R : RS w S) (I : Iv S K) {k m : Nat} {s : Int32} (hk : k < 5) (Rh : 0 < k → RH w S) (hN : k = 0 → ∃ x, S = newS x) (hp : p ≤ L) (rec : Nat → Int32 → Wd → Option (Int32 × Wd)) : RI w L t m (f_X12_readItems_74 rec 95 (nI m) (nI k) s s (az w (nI p) (nI (tkE t L p)))) rec (itd t L S p k) := by
  have hL := C.2.1
  obtain ⟨w2, a, b, e, B⟩ := reads_item C R I hk Rh hN hp
  obtain ⟨C2, F2, B1, B2⟩ := B
  have bd := (ibd_b (t := t) (S := S) hp k).2
  unfold itd
  have st : f_X12_readItems_74 rec 95 (nI m) (nI k) s s (az w (nI p) (nI (tkE t L p))) = cal (f_X12_readsItem 95 (nI k) (az w (nI p) (nI (tkE t L p)))) fun x2 w1 => if x2 = 0 then f_X12_readItems_85 w1 else calV w1 95 12 (f_X12_next 95 w1) fun _ w3 => gI w3 95 12 8 fun x5 => gI w3 95 12 6 fun x6 => if x5 = x6 then f_X12_readItems_116 w3 else gR w3 95 12 5 fun r7 => gI w3 95 12 8 fun x8 => lI w3 r7 14 x8 fun x9 => if x9 = (59 : Int32) then calV w3 95 12 (f_X12_next 95 w3) fun _ w10 => rec 95 (nI m + 1) w10 else f_X12_readItems_116 w3 := by
    rw [f_X12_readItems_74, if_pos rfl, mc_t C.z.1]
  rw [st, e, cal_t]
  generalize ibd t L S p k = r at *
  by_cases h1 : r.1 = true
  · have E : endd t L r = r := by unfold endd; rw [if_pos h1]
    rw [E]
    refine ⟨w2, C2, F2, Or.inl ⟨h1, b, ?_⟩⟩
    rw [h1, show rvI true = 0 from rfl, if_pos rfl, f_X12_readItems_85, B1 h1]
  · have r0 := Bool.not_eq_true _ |>.mp h1
    obtain ⟨eb, R2, Rh2⟩ := B2 r0
    obtain ⟨q1, q2⟩ := rn_b (P := txB t) bd
    have nx : f_X12_next 95 (az w2 a b) = some ((), az w2 (nI (rn (txB t) L r.2.1)) (nI (tkE t L (rn (txB t) L r.2.1)))) := by rw [eb]; exact next_eq C2 bd
    rw [r0, show rvI false = 1 from rfl, if_neg (show ¬ (1 : Int32) = 0 by decide), mc_t C2.z.1, nx, cal_t, C2.z.g, az_8, C2.z.g, C2.z.2.2.1]
    by_cases c1 : rn (txB t) L r.2.1 < L
    · have ne : ¬ nI (rn (txB t) L r.2.1) = nI L := fun q => by have := (nI_eq (by omega) (by omega)).mp q; omega
      rw [if_neg ne, C2.z.r, C2.z.g, az_8, C2.z.ld c1]
      have e59 : (nI (t (rn (txB t) L r.2.1)) = (59 : Int32)) ↔ t (rn (txB t) L r.2.1) = 59 := nI_eq (b := 59) (by have := (C2.2.2.2.1 _ c1).2; omega) (by decide)
      by_cases c2 : t (rn (txB t) L r.2.1) = 59
      · have E : endd t L r = (false, rn (txB t) L (rn (txB t) L r.2.1 + 1), r.2.2) := by unfold endd; rw [if_neg h1, if_pos ⟨c1, c2⟩]
        rw [E]
        refine ⟨w2, C2, F2, Or.inr ⟨rfl, ?_, R2, Rh2⟩⟩
        have nx2 : f_X12_next 95 (az w2 (nI (rn (txB t) L r.2.1)) (nI (tkE t L (rn (txB t) L r.2.1)))) = some ((), az w2 (nI (rn (txB t) L (rn (txB t) L r.2.1 + 1))) (nI (tkE t L (rn (txB t) L (rn (txB t) L r.2.1 + 1))))) := by rw [tkE_59 c1 c2]; exact next_eq C2 c1
        rw [if_pos (e59.mpr c2), mc_t C2.z.1, nx2, cal_t, nI_1]
      · have E : endd t L r = (true, rn (txB t) L r.2.1, r.2.2) := by unfold endd; rw [if_neg h1, if_neg (fun z => c2 z.2)]
        rw [E]
        refine ⟨w2, C2, F2, Or.inl ⟨rfl, nI (tkE t L (rn (txB t) L r.2.1)), ?_⟩⟩
        rw [if_neg (fun z => c2 (e59.mp z)), f_X12_readItems_116]
    · have E : endd t L r = (true, rn (txB t) L r.2.1, r.2.2) := by unfold endd; rw [if_neg h1, if_neg (fun z => c1 z.1)]
      rw [E]
      refine ⟨w2, C2, F2, Or.inl ⟨rfl, nI (tkE t L (rn (txB t) L r.2.1)), ?_⟩⟩
      rw [if_pos (show nI (rn (txB t) L r.2.1) = nI L from by rw [show rn (txB t) L r.2.1 = L by omega]), f_X12_readItems_116]
theorem ref_bad {m k : Nat} {rec : Nat → Int32 → Wd → Option (Int32 × Wd)} (C : RC w L t) (hk : 5 ≤ k) : RI w L t m (some (-1, az w (nI p) (nI (tkE t L p)))) rec (itd t L S p k) := by
  have E : itd t L S p k = (true, p, S) := by
    unfold itd ibd
    rw [if_neg (by omega), if_neg (by omega), if_neg (by omega), if_neg (by omega), if_neg (by omega)]
    rfl
  rw [E]
  exact ⟨w, C, Fr.rf w, Or.inl ⟨rfl, _, rfl⟩⟩
/-- a later item -/
theorem ref_later (C : RC w L t) (R : RS w S) (Rh : RH w S) (I : Iv S K) {m : Nat} (hm : 0 < m) (hm2 : m < 2 ^ 31) (hp : p ≤ L) (rec : Nat → Int32 → Wd → Option (Int32 × Wd)) : RI w L t m (f_X12_readItems_46 rec 95 (nI m) (az w (nI p) (nI (tkE t L p)))) rec (itd t L S p (klW t L p)) := by
  have m0 : ¬ nI m = 0 := nI_ne0 hm hm2
  unfold f_X12_readItems_46
  rw [mc_t C.z.1, wordHere_eq C hp, cal_t, ff_word]
  unfold klW
  cases w0 : wmB t L p 0 with
  | true =>
    rw [wm_not w0 (Or.inl rfl), wm_not w0 (Or.inr (Or.inl rfl)), wm_not w0 (Or.inr (Or.inr (Or.inl rfl))), wm_not w0 (Or.inr (Or.inr (Or.inr rfl)))]
    simp only [if_true, Bool.false_eq_true, if_false]
    rw [if_neg (show ¬ nI 0 = -1 by decide), if_pos (show nI 0 = 0 from rfl), f_X12_readItems_65, if_neg m0, f_X12_readItems_74, if_neg (show ¬ (1 : Int32) = 0 by decide), f_X12_readItems_85]
    exact ref_bad C (by decide)
  | false =>
    cases w1 : wmB t L p 1 with
    | true =>
      simp only [if_true, Bool.false_eq_true, if_false]
      rw [if_neg (show ¬ nI 1 = -1 by decide), if_neg (show ¬ nI 1 = 0 by decide), f_X12_readItems_65, if_neg m0]
      exact ref_74 C R I (by decide) (fun _ => Rh) (fun q => absurd q (by decide)) hp rec
    | false =>
      cases w2 : wmB t L p 2 with
      | true =>
        simp only [if_true, Bool.false_eq_true, if_false]
        rw [if_neg (show ¬ nI 2 = -1 by decide), if_neg (show ¬ nI 2 = 0 by decide), f_X12_readItems_65, if_neg m0]
        exact ref_74 C R I (by decide) (fun _ => Rh) (fun q => absurd q (by decide)) hp rec
      | false =>
        cases w3 : wmB t L p 3 with
        | true =>
          simp only [if_true, Bool.false_eq_true, if_false]
          rw [if_neg (show ¬ nI 3 = -1 by decide), if_neg (show ¬ nI 3 = 0 by decide), f_X12_readItems_65, if_neg m0]
          exact ref_74 C R I (by decide) (fun _ => Rh) (fun q => absurd q (by decide)) hp rec
        | false =>
          cases w4 : wmB t L p 4 with
          | true =>
            simp only [if_true, Bool.false_eq_true, if_false]
            rw [if_neg (show ¬ nI 4 = -1 by decide), if_neg (show ¬ nI 4 = 0 by decide), f_X12_readItems_65, if_neg m0]
            exact ref_74 C R I (by decide) (fun _ => Rh) (fun q => absurd q (by decide)) hp rec
          | false =>
            simp only [Bool.false_eq_true, if_false]
            rw [if_pos trivial, f_X12_readItems_85]
            exact ref_bad C (by decide)
theorem ref_first (C : RC w L t) {x : Nat} (R : RS w (newS (nI x))) (hx : x ≤ 200) (hp : p ≤ L) (rec : Nat → Int32 → Wd → Option (Int32 × Wd)) : RI w L t 0 (f_X12_readItems_46 rec 95 (nI 0) (az w (nI p) (nI (tkE t L p)))) rec (itd t L (newS (nI x)) p (kfW t L p)) := by
  have I : Iv (newS (nI x)) 0 := newS_iv hx 0
  unfold f_X12_readItems_46
  rw [mc_t C.z.1, wordHere_eq C hp, cal_t, ff_word]
  unfold kfW
  have no : ∀ v : Int32, ¬ v = -1 → ¬ v = 0 → RI w L t 0 (if v = -1 then f_X12_readItems_85 (az w (nI p) (nI (tkE t L p))) else if v = 0 then f_X12_readItems_65 rec 95 (nI 0) v 1 (az w (nI p) (nI (tkE t L p))) else f_X12_readItems_65 rec 95 (nI 0) v 0 (az w (nI p) (nI (tkE t L p)))) rec (itd t L (newS (nI x)) p 5) := fun v h1 h2 => by
    rw [if_neg h1, if_neg h2, f_X12_readItems_65, if_pos (show nI 0 = 0 from rfl), f_X12_readItems_74, if_neg (show ¬ (0 : Int32) = 1 by decide), f_X12_readItems_85]
    exact ref_bad C (by decide)
  cases w0 : wmB t L p 0 with
  | true =>
    simp only [if_true]
    rw [if_neg (show ¬ nI 0 = -1 by decide), if_pos (show nI 0 = 0 from rfl), f_X12_readItems_65, if_pos (show nI 0 = 0 from rfl)]
    exact ref_74 C R I (by decide) (fun q => absurd q (by decide)) (fun _ => ⟨_, rfl⟩) hp rec
  | false =>
    simp only [Bool.false_eq_true, if_false]
    cases w1 : wmB t L p 1 with
    | true => simp only [if_true]; exact no _ (by decide) (by decide)
    | false =>
      simp only [Bool.false_eq_true, if_false]
      cases w2 : wmB t L p 2 with
      | true => simp only [if_true]; exact no _ (by decide) (by decide)
      | false =>
        simp only [Bool.false_eq_true, if_false]
        cases w3 : wmB t L p 3 with
        | true => simp only [if_true]; exact no _ (by decide) (by decide)
        | false =>
          simp only [Bool.false_eq_true, if_false]
          cases w4 : wmB t L p 4 with
          | true => simp only [if_true]; exact no _ (by decide) (by decide)
          | false =>
            simp only [Bool.false_eq_true, if_false]
            rw [if_pos trivial, f_X12_readItems_85]
            exact ref_bad C (by decide)
/-- behind all items -/
def RZ (w : Wd) (L : Nat) (t : Nat → Nat) (o : Option (Int32 × Wd)) (r : (Bool × Nat × (Nat → Int32)) × Nat) : Prop := ∃ w2, RC w2 L t ∧ Fr rset w w2 ∧ ((r.1.1 = true ∧ ∃ b, o = some (-1, az w2 (nI r.1.2.1) b)) ∨ (r.1.1 = false ∧ ∃ a b, o = some (nI r.2, az w2 a b) ∧ RS w2 r.1.2.2 ∧ RH w2 r.1.2.2))
theorem ref_lp : ∀ (n : Nat) (S : Nat → Int32) (p m fuel : Nat) (w : Wd), RC w L t → RS w S → RH w S → Iv S K → Zr S → p ≤ L → 0 < m → m ≤ p → L - p ≤ n → n < fuel → RZ w L t (f_X12_readItems_31 fuel 95 (nI m) (az w (nI p) (nI (tkE t L p)))) (pzd t L n S p m) := by
  have stop : ∀ (S : Nat → Int32) (m fuel : Nat) (w : Wd), RC w L t → RS w S → RH w S → 0 < m → m ≤ L → 0 < fuel → RZ w L t (f_X12_readItems_31 fuel 95 (nI m) (az w (nI L) (nI (tkE t L L)))) ((false, L, S), m) := by
    intro S m fuel w C R Rh hm hm2 hf
    have hL := C.2.1
    obtain ⟨f, rfl⟩ : ∃ f, fuel = f + 1 := ⟨fuel - 1, by omega⟩
    refine ⟨w, C, Fr.rf w, Or.inr ⟨rfl, nI L, nI (tkE t L L), ?_, R, Rh⟩⟩
    rw [f_X12_readItems_31, if_neg (nI_ne0 hm (by omega)), C.z.g, az_8, C.z.g, C.z.2.2.1, if_pos (nI_le (by omega) (by omega))]
  intro n
  induction n with
  | zero =>
    intro S p m fuel w C R Rh I Z hp hm hm2 hn hf
    obtain rfl : p = L := by omega
    exact stop S m fuel w C R Rh hm hm2 hf
  | succ n ih =>
    intro S p m fuel w C R Rh I Z hp hm hm2 hn hf
    have hL := C.2.1
    rw [pzd]
    by_cases c : p < L
    · obtain ⟨f, rfl⟩ : ∃ f, fuel = f + 1 := ⟨fuel - 1, by omega⟩
      have bd := itd_b (t := t) (S := S) hp (klW t L p)
      have ik := itd_ok (t := t) I Z hp (klW t L p)
      have step : f_X12_readItems_31 (f + 1) 95 (nI m) (az w (nI p) (nI (tkE t L p))) = f_X12_readItems_46 (f_X12_readItems_31 f) 95 (nI m) (az w (nI p) (nI (tkE t L p))) := by
        rw [f_X12_readItems_31, if_neg (nI_ne0 hm (by omega)), C.z.g, az_8, C.z.g, C.z.2.2.1, if_neg (nI_ge c (by omega))]
      obtain ⟨w2, C2, F2, h2⟩ := ref_later C R Rh I hm (by omega) hp (f_X12_readItems_31 f)
      rw [step, if_pos c]
      rcases h2 with ⟨r1, b, e⟩ | ⟨r0, e, R2, Rh2⟩
      · rw [if_pos r1, e]
        exact ⟨w2, C2, F2, Or.inl ⟨r1, b, rfl⟩⟩
      · rw [if_neg (by rw [r0]; decide), e]
        have lt := bd.2 r0
        obtain ⟨w3, C3, F3, h3⟩ := ih (itd t L S p (klW t L p)).2.2 (itd t L S p (klW t L p)).2.1 (m + 1) f w2 C2 R2 Rh2 ik.1 ik.2 bd.1 (by omega) (by omega) (by omega) (by omega)
        exact ⟨w3, C3, F2.tr F3, h3⟩
    · rw [if_neg c]
      obtain rfl : p = L := by omega
      exact stop S m fuel w C R Rh hm hm2 (by omega)
theorem readItems_eq (C : RC w L t) : RZ w L t (f_X12_readItems 95 w) (rdd t L) := by
  have hL := C.2.1
  obtain ⟨b1, b2'⟩ := rn_b (P := txB t) (L := L) (p := 0) (Nat.zero_le _)
  generalize hv : sI (sI (sI (sI w 95 15 0) 95 11 0) 95 12 0) 95 13 (-1) = v
  have Fv : Fr rset w v := by rw [← hv]; exact (Fr.sI (Or.inl rfl)).tr ((Fr.sI (Or.inl rfl)).tr ((Fr.sI (Or.inl rfl)).tr (Fr.sI (Or.inl rfl))))
  have Cv : RC v L t := by rw [← hv]; exact (((C.s (Or.inl ⟨rfl, by decide⟩)).s (Or.inl ⟨rfl, by decide⟩)).s (Or.inl ⟨rfl, by decide⟩)).s (Or.inl ⟨rfl, by decide⟩)
  have Rv : RS v (newS (nI 60)) := by
    rw [← hv]
    refine ⟨?_, ?_, ?_, ?_, fun g hg => absurd hg (by show ¬ g < 0; omega)⟩
    · rw [wI_place (by decide), wI_place (by decide), wI_place (by decide), wI_same]; rfl
    · rw [wI_place (by decide), wI_place (by decide), wI_same]; rfl
    · rw [wI_place (by decide), wI_same]; rfl
    · rw [wI_same]; rfl
  have e0 : sI w 95 9 0 = az w (wI w 95 8) (nI 0) := by
    have := az_s9 (w := w) (a := wI w 95 8) (b := wI w 95 9) (x := 0)
    rw [az_id] at this
    exact this
  have st : f_X12_readItems 95 w = f_X12_readItems_31 4096 95 (nI 0) (az v (nI (rn (txB t) L 0)) (nI (tkE t L (rn (txB t) L 0)))) := by
    have nx := next_eq (a := wI w 95 8) Cv (p := 0) (Nat.zero_le _)
    unfold f_X12_readItems
    have C1 : RC (sI w 95 15 0) L t := C.s (Or.inl ⟨rfl, by decide⟩)
    have C2 : RC (sI (sI w 95 15 0) 95 11 0) L t := C1.s (Or.inl ⟨rfl, by decide⟩)
    have C3 : RC (sI (sI (sI w 95 15 0) 95 11 0) 95 12 0) L t := C2.s (Or.inl ⟨rfl, by decide⟩)
    rw [C.p, e0, C.z.p, az_sk (by decide) (by decide), C1.z.p, az_sk (by decide) (by decide), C2.z.p, az_sk (by decide) (by decide), C3.z.p, az_sk (by decide) (by decide), hv, mc_t Cv.z.1, nx, cal_t]
    rfl
  have step : f_X12_readItems_31 4096 95 (nI 0) (az v (nI (rn (txB t) L 0)) (nI (tkE t L (rn (txB t) L 0)))) = f_X12_readItems_46 (f_X12_readItems_31 4095) 95 (nI 0) (az v (nI (rn (txB t) L 0)) (nI (tkE t L (rn (txB t) L 0)))) := by
    show f_X12_readItems_31 (4095 + 1) _ _ _ = _
    rw [f_X12_readItems_31, if_pos (show nI 0 = 0 from rfl)]
  have bd := itd_b (t := t) (S := newS (nI 60)) b2' (kfW t L (rn (txB t) L 0))
  have ik := itd_ok (t := t) (newS_iv (x := 60) (by decide) 0) newS_zr b2' (kfW t L (rn (txB t) L 0))
  obtain ⟨w2, C2, F2, h2⟩ := ref_first (x := 60) Cv Rv (by decide) b2' (f_X12_readItems_31 4095)
  rw [st, step]
  unfold rdd
  rcases h2 with ⟨r1, b, e⟩ | ⟨r0, e, R2, Rh2⟩
  · rw [if_pos r1, e]
    exact ⟨w2, C2, Fv.tr F2, Or.inl ⟨r1, b, rfl⟩⟩
  · rw [if_neg (by rw [r0]; decide), e]
    have lt := bd.2 r0
    obtain ⟨w3, C3, F3, h3⟩ := ref_lp (K := 0) L (itd t L (newS (nI 60)) (rn (txB t) L 0) (kfW t L (rn (txB t) L 0))).2.2 (itd t L (newS (nI 60)) (rn (txB t) L 0) (kfW t L (rn (txB t) L 0))).2.1 1 4095 w2 C2 R2 Rh2 ik.1 ik.2 bd.1 (by decide) (by omega) (by omega) (by omega)
    exact ⟨w3, C3, (Fv.tr F2).tr F3, h3⟩
end U5
