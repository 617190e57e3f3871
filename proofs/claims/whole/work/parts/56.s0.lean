/-! the digest -/
def mx (h : Int64) (x : Int32) : Int64 := 31 * h + x.toInt64
def mixF (f : Nat → Int32) (h : Int64) : Nat → Int64
  | 0 => h
  | n + 1 => mx (mixF f h n) (f n)
def mixG (S : Nat → Int32) (h : Int64) : Nat → Int64
  | 0 => h
  | g + 1 => mx (mx (mx (mx (mx (mixG S h g) (S (20 + g))) (S (26 + g))) (S (32 + g))) (S g)) (S (6 + g))
def dig (S : Nat → Int32) (t : Int32) : Int64 :=
  mixF (fun j => S (52 + j)) (mixF (fun j => S (39 + j)) (mixG S (mx (mx (mx (mixF (cntS S t) 1231 10) (S 17)) (S 18)) (S 15)) (nn S)) (2 * gn S)) (4 * tn S)
section S0
variable {w w' : Wd} {h k K K2 : Nat} {S T : Nat → Int32}
theorem cluMix (H : HS w h) (R : HR (wI w) h S) (I : Iv S K) (a : Int64) : f_X0_mixInto (h + 3) a w = some (mixF (fun j => S (52 + j)) (mixF (fun j => S (39 + j)) a (2 * gn S)) (4 * tn S), w) := by
  obtain ⟨q1, q2, q3, q4⟩ := R.2.2.1
  have g6 := I.2.1.2
  have t6 := I.2.2.1.2
  have m6 : wI w (h + 3) 6 = nI (gn S) := by rw [q1]; exact I.2.1.1
  have m7 : wI w (h + 3) 7 = nI (tn S) := by rw [q2]; exact I.2.2.1.1
  have e4 : nI (tn S) * 4 = nI (4 * tn S) := by rw [show (4 : Int32) = nI 4 from rfl, pk_mul, Nat.mul_comm]
  unfold f_X0_mixInto
  refine lpE (n := gn S) (F := fun f i => f_X0_mixInto_5 f (h + 3) (mixF (fun j => S (39 + j)) a (2 * i)) (nI i) w) (fun f i hi => ?_) (fun f => ?_) 4096 (by omega)
  · show f_X0_mixInto_5 (f + 1) _ _ _ _ = _
    rw [f_X0_mixInto_5, gI_t H.o3, m6, if_neg (nI_ge (by omega) (by omega)), gR_t H.o3, H.c1, Option.bind_some, lI_t H.o4 (inb_of H.n4 (by omega) (by decide)), nI_clamp (by omega), (q3 i hi).1, nm_t, gR_t H.o3, H.c2, Option.bind_some, lI_t H.o5 (inb_of H.n5 (by omega) (by decide)), nI_clamp (by omega), (q3 i hi).2, nm_t, nI_1, show 2 * (i + 1) = 2 * i + 1 + 1 by omega, mixF, mixF, show 39 + (2 * i + 1) = 40 + 2 * i by omega]
    rfl
  · show f_X0_mixInto_5 (f + 1) _ _ _ _ = _
    rw [f_X0_mixInto_5, gI_t H.o3, m6, if_pos (nI_le (by omega) (by omega))]
    refine lpE (n := 4 * tn S) (F := fun f i => f_X0_mixInto_53 f (h + 3) (mixF (fun j => S (52 + j)) (mixF (fun j => S (39 + j)) a (2 * gn S)) i) (nI i) w) (fun f i hi => ?_) (fun f => ?_) 4096 (by omega)
    · show f_X0_mixInto_53 (f + 1) _ _ _ _ = _
      rw [f_X0_mixInto_53, gI_t H.o3, m7, e4, if_neg (nI_ge (by omega) (by omega)), gR_t H.o3, H.c3, Option.bind_some, lI_t H.o6 (inb_of H.n6 (by omega) (by decide)), nI_clamp (by omega), q4 i hi, nm_t, nI_1]
      rfl
    · show f_X0_mixInto_53 (f + 1) _ _ _ _ = _
      rw [f_X0_mixInto_53, gI_t H.o3, m7, e4, if_pos (nI_le (by omega) (by omega))]
theorem houMix (H : HS w h) (R : HR (wI w) h S) (I : Iv S K) (a : Int64) : f_X2_mixInto h a w = some (mixF (fun j => S (52 + j)) (mixF (fun j => S (39 + j)) (mixG S (mx (mx (mx a (S 17)) (S 18)) (S 15)) (nn S)) (2 * gn S)) (4 * tn S), w) := by
  have hn := I.n.2
  have m4 : wI w h 4 = nI (nn S) := by rw [R.1.2.1]; exact I.n.1
  unfold f_X2_mixInto
  rw [gI_t H.o, nm_t, gI_t H.o, nm_t, gI_t H.o, nm_t, R.1.2.2.1, R.1.2.2.2.1, R.1.2.2.2.2.1]
  refine lpE (n := nn S) (F := fun f i => f_X2_mixInto_39 f h (mixG S (mx (mx (mx a (S 17)) (S 18)) (S 15)) i) (nI i) w) (fun f i hi => ?_) (fun f => ?_) 4096 (by omega)
  · show f_X2_mixInto_39 (f + 1) _ _ _ _ = _
    obtain ⟨a1, a2, a3, a4, a5⟩ := R.2.1 i hi
    have i6 : i < 6 := by omega
    rw [f_X2_mixInto_39, gI_t H.o, m4, if_neg (nI_ge (by omega) (by omega)), gR_t H.o, H.r0, Option.bind_some, lR_t H.o1 (inb_of H.n1 i6 (by decide)), nI_clamp (by omega), H.rg i6, Option.bind_some, calV_t (H.og i6)]
    unfold f_X1_mixInto
    simp only [gI_t, H.og i6, nm_t, a1, a2, a3, a4, a5, cal_t]
    rw [nI_1]
    rfl
  · show f_X2_mixInto_39 (f + 1) _ _ _ _ = _
    rw [f_X2_mixInto_39, gI_t H.o, m4, if_pos (nI_le (by omega) (by omega)), gR_t H.o, H.r1, Option.bind_some, calV_t H.o3, cluMix H R I, cal_t]
end S0
