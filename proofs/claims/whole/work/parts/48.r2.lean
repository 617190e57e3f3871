/-! letters alike -/
def hsB (x k : Int32) : Int32 := if (x >>> (k &&& 31)) &&& 1 = 1 then 1 else 0
def alS (x y : Int32) : Nat → Int32
  | 0 => 0
  | i + 1 => alS x y i + (if hsB x (nI i) = hsB y (nI i) then 1 else 0)
def pop (x : Int32) : Int32 :=
  let x1 := x - ((iush x 1) &&& 1431655765)
  let x2 := (x1 &&& 858993459) + ((iush x1 2) &&& 858993459)
  let x3 := (x2 + iush x2 4) &&& 252645135
  let x4 := x3 + iush x3 8
  let x5 := x4 + iush x4 16
  x5 &&& 63
theorem bitCount_eq (x : Int32) (w : Wd) : f_J6_bitCount_0f7a4 x w = some (pop x, w) := rfl
theorem likeL_eq (x y : Int32) (w : Wd) : f_X11_likeLetters x y w = some (5 - pop (x ^^^ y), w) := rfl
theorem mHas_eq (x k : Int32) (w : Wd) : f_X12_has x k w = some (hsB x k, w) := by
  unfold f_X12_has hsB
  by_cases h : (x >>> (k &&& 31)) &&& 1 = 1
  · rw [if_pos h, if_pos h, f_X12_has_14, rZ1]
  · rw [if_neg h, if_neg h, f_X12_has_14, rZ0]
theorem alike_eq (x y : Int32) (w : Wd) : f_X12_alike x y w = some (alS x y 5, w) := by
  unfold f_X12_alike
  refine lpE (n := 5) (F := fun f i => f_X12_alike_4 f x y (alS x y i) (nI i) w) (fun f i hi => ?_) (fun f => ?_) 4096 (by decide)
  · show f_X12_alike_4 (f + 1) _ _ _ _ _ = _
    rw [f_X12_alike_4, if_neg (show ¬ (5 : Int32) ≤ nI i from nI_ge (b := 5) hi (by decide)), mHas_eq, cal_t, mHas_eq, cal_t]
    by_cases h : hsB x (nI i) = hsB y (nI i)
    · rw [if_pos h, f_X12_alike_28, nm_t, nI_1, alS, if_pos h]
    · rw [if_neg h, f_X12_alike_28, nm_t, nI_1, alS, if_neg h]
  · show f_X12_alike_4 (f + 1) _ _ _ _ _ = _
    rw [f_X12_alike_4, if_pos (show (5 : Int32) ≤ nI 5 by decide)]
theorem al_pop : ∀ a, a < 32 → ∀ b, b < 32 → 5 - pop (nI a ^^^ nI b) = alS (nI a) (nI b) 5 := by decide +kernel
theorem al_rng0 : ∀ a, a < 32 → ∀ b, b < 32 → (alS (nI a) (nI b) 5).toNatClampNeg < 6 ∧ alS (nI a) (nI b) 5 = nI (alS (nI a) (nI b) 5).toNatClampNeg := by decide +kernel
theorem al_rng {a b : Nat} (ha : a < 32) (hb : b < 32) : ∃ v, v ≤ 5 ∧ alS (nI a) (nI b) 5 = nI v := ⟨_, by have := (al_rng0 a ha b hb).1; omega, (al_rng0 a ha b hb).2⟩
theorem likeW {a b : Nat} (ha : a < 32) (hb : b < 32) (w : Wd) : f_X11_likeLetters (nI a) (nI b) w = some (alS (nI a) (nI b) 5, w) := by rw [likeL_eq, al_pop a ha b hb]
section R2
variable {w w' : Wd} {h k K K2 : Nat} {S T : Nat → Int32}
theorem p_say (V : Inv w K) (x : Int32) : Pr w (K + 60) (f_X11_say 0 x) (f_X12_say 95 x) := by
  have M := V.ms
  by_cases hx : 0 ≤ x ∧ x ≤ 31
  · obtain ⟨n, hn, rfl⟩ := rng 31 hx (by decide)
    obtain ⟨⟨h0, h1, s, r⟩, I, R⟩ := id V
    obtain ⟨w1, q1, q2, q3⟩ := remember_row s.ho r I
    have s1 := s.to q2.1
    have M1 : MS w1 := M.to q2.1
    have I2 : Iv (keepS (wI w 96)) K := keepS_iv I
    obtain ⟨v, hv, ev⟩ := I.2.2.2.2.2.1
    have k18 : keepS (wI w 96) 18 = nI v := by rw [keepS_mid I (by decide)]; exact ev
    by_cases h5 : alS (nI n) (nI v) 5 = 5
    · have f : Fr (hset h0) w (sI w1 h0 7 (-1)) := q2.tr (Fr.sI ⟨by omega, by omega⟩)
      have M2 : MS (sI w1 h0 7 (-1)) := M.to f.1
      have e96 := f.w96 s
      refine ⟨alS (nI n) (nI v) 5, sI w1 h0 7 (-1), _, ?_, ?_, V.mut (K2 := K + 60) (T := upd (keepS (wI w 96)) 15 (-1)) s f (q3.set I2 (-1) (j := 15) (by omega)) ((I2.s15 (Or.inl rfl)).mono (by omega)) (fun j hj => rfl) (fun j hj h2 => by rw [pk_un (by omega), keepS_hi I hj]) (by omega)⟩
      · unfold f_X11_say
        rw [isWord_eq, if_pos hx, cal_t, if_neg (by decide), ng_t s, hc_t s, q1, cal_t, ng_t s1, gI_t s1.ho.o, q3.1.2.2.2.1, k18, likeW (by omega) (by omega), cal_t, if_pos h5, ng_t s1, pI_t s1.ho.o]
        rfl
      · unfold f_X12_say
        rw [in_eq, if_pos hx, cal_t, if_neg (by decide), mc_t M2, mKeep_eq M2 (K := K) (by rw [e96]; exact I), cal_t, mg_t M2.cW, show (18 : Int32) = nI 18 from rfl, rd_t M2.cW (by decide), cW_s, e96, k18, alike_eq, cal_t, mg_t M2.cW, if_pos h5, f_X12_say_55, show (15 : Int32) = nI 15 from rfl, wr_t M2.cW (by decide), cW_s, cW_cW]
    · have e96 := q2.w96 s
      refine ⟨alS (nI n) (nI v) 5, w1, _, ?_, ?_, V.mut (K2 := K + 60) (T := keepS (wI w 96)) s q2 q3 (I2.mono (by omega)) (fun j hj => rfl) (fun j hj h2 => by rw [keepS_hi I hj]) (by omega)⟩
      · unfold f_X11_say
        rw [isWord_eq, if_pos hx, cal_t, if_neg (by decide), ng_t s, hc_t s, q1, cal_t, ng_t s1, gI_t s1.ho.o, q3.1.2.2.2.1, k18, likeW (by omega) (by omega), cal_t, if_neg h5]
        rfl
      · unfold f_X12_say
        rw [in_eq, if_pos hx, cal_t, if_neg (by decide), mc_t M1, mKeep_eq M1 (K := K) (by rw [e96]; exact I), cal_t, mg_t M1.cW, show (18 : Int32) = nI 18 from rfl, rd_t M1.cW (by decide), cW_s, e96, k18, alike_eq, cal_t, mg_t M1.cW, if_neg h5, mg_t M1.cW, show (15 : Int32) = nI 15 from rfl, rd_t M1.cW (by decide), f_X12_say_55, wr_t M1.cW (by decide), cW_s, cW_cW, upd_id]
  · refine Pr.rfj (r := -2) V 0 (by decide) ?_ ?_
    · unfold f_X11_say
      rw [isWord_eq, if_neg hx, cal_t, if_pos rfl, cc_t M, cRefB M, cal_t]
    · unfold f_X12_say
      rw [in_eq, if_neg hx, cal_t, if_pos rfl, mc_t M.cW, mRefB M.cW, cal_t]
end R2
