/-! the reference: items, one behind another -/
section U5
variable {w w' : Wd} {L p K : Nat} {t : Nat → Nat} {S : Nat → Int32}
theorem ff_word : ff (fun k => wmB t L p k = true) (fun k => nI k) (-1) 5 0 = if wmB t L p 0 = true then nI 0 else if wmB t L p 1 = true then nI 1 else if wmB t L p 2 = true then nI 2 else if wmB t L p 3 = true then nI 3 else if wmB t L p 4 = true then nI 4 else -1 := rfl
theorem tkE_59 {q : Nat} (hq : q < L) (h : t q = 59) : tkE t L q = q + 1 := by
  have h1 : ¬ txL t q = true := fun z => by have := of_decide_eq_true z; omega
  have h2 : ¬ txF t q = true := fun z => by have := of_decide_eq_true z; omega
  unfold tkE
  rw [if_pos hq, if_neg h1, if_neg h2]
/-- behind an item -/
def RI (w w2 : Wd) (L : Nat) (t : Nat → Nat) (r : Bool × Nat × (Nat → Int32)) : Prop := RC w2 L t ∧ Fr rset w w2 ∧ (r.1 = false → RS w2 r.2.2 ∧ RH w2 r.2.2)
theorem ref_74 (C : RC w L t) (R : RS w S) (I : Iv S K) {k m : Nat} {s : Int32} (hk : k < 5) (Rh : 0 < k → RH w S) (hN : k = 0 → ∃ x, S = newS x) (hp : p ≤ L) (rec : Nat → Int32 → Wd → Option (Int32 × Wd)) : ∃ w2, RI w w2 L t (itd t L S p k) ∧ f_X12_readItems_74 rec 95 (nI m) (nI k) s s (az w (nI p) (nI (tkE t L p))) = (if (itd t L S p k).1 = true then some (-1, az w2 (nI (itd t L S p k).2.1) (wI (az w2 (nI (itd t L S p k).2.1) 0) 95 9)) else rec 95 (nI (m + 1)) (az w2 (nI (itd t L S p k).2.1) (nI (tkE t L (itd t L S p k).2.1)))) ∨ ∃ b, f_X12_readItems_74 rec 95 (nI m) (nI k) s s (az w (nI p) (nI (tkE t L p))) = some (-1, az w2 (nI (itd t L S p k).2.1) b) ∧ (itd t L S p k).1 = true := by
  have hL := C.2.1
  obtain ⟨w2, a, b, e, B⟩ := reads_item C R I hk Rh hN hp
  obtain ⟨C2, F2, B1, B2⟩ := B
  have bd := (ibd_b (t := t) (S := S) hp k).2
  unfold itd endd
  have st : f_X12_readItems_74 rec 95 (nI m) (nI k) s s (az w (nI p) (nI (tkE t L p))) = cal (f_X12_readsItem 95 (nI k) (az w (nI p) (nI (tkE t L p)))) fun x2 w1 => if x2 = 0 then f_X12_readItems_85 w1 else calV w1 95 12 (f_X12_next 95 w1) fun _ w3 => gI w3 95 12 8 fun x5 => gI w3 95 12 6 fun x6 => if x5 = x6 then f_X12_readItems_116 w3 else gR w3 95 12 5 fun r7 => gI w3 95 12 8 fun x8 => lI w3 r7 14 x8 fun x9 => if x9 = (59 : Int32) then calV w3 95 12 (f_X12_next 95 w3) fun _ w10 => rec 95 (nI m + 1) w10 else f_X12_readItems_116 w3 := by
    rw [f_X12_readItems_74, if_pos rfl, mc_t C.z.1]
  rw [st, e, cal_t]
  generalize ibd t L S p k = r at *
  by_cases h1 : r.1 = true
  · refine ⟨w2, Or.inr ⟨b, ?_, ?_⟩⟩
    · rw [h1, if_pos rfl, show rvI true = 0 from rfl, if_pos rfl, f_X12_readItems_85, B1 h1]
    · rw [if_pos h1, h1]
  · have r0 := Bool.not_eq_true _ |>.mp h1
    obtain ⟨eb, R2, Rh2⟩ := B2 r0
    obtain ⟨q1, q2⟩ := rn_b (P := txB t) bd
    have nx : f_X12_next 95 (az w2 a b) = some ((), az w2 (nI (rn (txB t) L r.2.1)) (nI (tkE t L (rn (txB t) L r.2.1)))) := by rw [eb]; exact next_eq C2 bd
    rw [if_neg h1, r0, show rvI false = 1 from rfl, if_neg (by decide), mc_t C2.z.1, nx, cal_t, C2.z.g, az_8, C2.z.g, C2.z.2.2.1]
    by_cases c1 : rn (txB t) L r.2.1 < L
    · have ne : ¬ nI (rn (txB t) L r.2.1) = nI L := fun q => by have := (nI_eq (by omega) (by omega)).mp q; omega
      rw [if_neg ne, C2.z.r, C2.z.g, az_8, C2.z.ld c1]
      have e59 : (nI (t (rn (txB t) L r.2.1)) = (59 : Int32)) ↔ t (rn (txB t) L r.2.1) = 59 := nI_eq (b := 59) (by have := (C2.2.2.2.1 _ c1).2; omega) (by decide)
      by_cases c2 : t (rn (txB t) L r.2.1) = 59
      · refine ⟨w2, Or.inl ⟨⟨C2, F2, ?_⟩, ?_⟩⟩
        · rw [if_pos ⟨c1, c2⟩]; exact fun _ => ⟨R2, Rh2⟩
        · have nx2 : f_X12_next 95 (az w2 (nI (rn (txB t) L r.2.1)) (nI (tkE t L (rn (txB t) L r.2.1)))) = some ((), az w2 (nI (rn (txB t) L (rn (txB t) L r.2.1 + 1))) (nI (tkE t L (rn (txB t) L (rn (txB t) L r.2.1 + 1))))) := by rw [tkE_59 c1 c2]; exact next_eq C2 c1
          rw [if_pos (e59.mpr c2), if_pos ⟨c1, c2⟩, if_neg (by show ¬ false = true; decide), mc_t C2.z.1, nx2, cal_t, nI_1]
      · refine ⟨w2, Or.inr ⟨_, ?_, ?_⟩⟩
        · rw [if_neg (fun z => c2 (e59.mp z)), if_neg (fun z => c2 z.2), f_X12_readItems_116]
        · rw [if_neg (fun z => c2 z.2)]
    · refine ⟨w2, Or.inr ⟨_, ?_, ?_⟩⟩
      · rw [if_pos (show nI (rn (txB t) L r.2.1) = nI L from by rw [show rn (txB t) L r.2.1 = L by omega]), if_neg (fun z => c1 z.1), f_X12_readItems_116]
      · rw [if_neg (fun z => c1 z.1)]
end U5
