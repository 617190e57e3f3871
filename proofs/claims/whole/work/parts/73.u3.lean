/-! GrindMill reads a text -/
section U3
variable {w w' : Wd} {h L p K : Nat} {t : Nat → Nat} {S : Nat → Int32}
theorem wm_e {k : Nat} (hk : wmB t L p k = true) : rn (txL t) L p = tkE t L p := by
  obtain ⟨h1, h2, -, -⟩ := wm_iff.mp hk
  unfold tkE
  rw [if_pos h1, if_pos h2, rn_s h1, if_pos h2]
theorem fin_post {w2 : Wd} {f : Int32} {a : Nat} {r : Bool × Nat × (Nat → Int32)} (hr : r.2.1 ≤ L) (I : Iv r.2.2 K) (hh : h + 15 ≤ 70) (B : BP w w2 h L t f a r) : ∃ w3, f_X10_readLaterItem_109 70 (tz w2 f (nI a)) = some ((), w3) ∧ IP w w3 h L t (endd t L r) := by
  obtain ⟨w3, e, P⟩ := end_post hr I.n.2 hh B
  refine ⟨w3, ?_, P⟩
  rw [f_X10_readLaterItem_109, B.1.z.c, e, cal_t]
theorem fin_post1 {w2 : Wd} {f : Int32} {a : Nat} {r : Bool × Nat × (Nat → Int32)} (hr : r.2.1 ≤ L) (I : Iv r.2.2 K) (hh : h + 15 ≤ 70) (B : BP w w2 h L t f a r) : ∃ w3, f_X10_readFirstItem_38 70 (tz w2 f (nI a)) = some ((), w3) ∧ IP w w3 h L t (endd t L r) := by
  obtain ⟨w3, e, P⟩ := end_post hr I.n.2 hh B
  refine ⟨w3, ?_, P⟩
  rw [f_X10_readFirstItem_38, B.1.z.c, e, cal_t]
theorem laterItem_eq (C : CT w L t) (H : HS w h) (R : HR (wI w) h S) (I : Iv S K) (Z : Zr S) (hh : h + 15 ≤ 70) (hp : p ≤ L) : ∃ w3, f_X10_readLaterItem 70 h (tz w (-1) (nI p)) = some ((), w3) ∧ IP w w3 h L t (itd t L S p (klW t L p)) := by
  have hL := C.2.1
  have hN := I.n.2
  obtain ⟨a1, a2⟩ := tkE_b (t := t) hp
  obtain ⟨s1, s2⟩ := rn_b (P := txL t) hp
  have b := fun k => (ibd_b (t := t) (S := S) hp k).2
  have ok := fun k => (ibd_ok (t := t) I Z hp k).1
  have Ho : ∀ {f a : Int32}, isO (tz w f a) h 2 = true := fun {f a} => (H.to tz_fr.1).o
  have h70 : h ≠ 70 := by omega
  unfold f_X10_readLaterItem klW
  rw [C.z.g, tz_3, C.z.c, passLetters_eq C hp, cal_t, C.z.c, isNamed_eq C hp (by decide), cal_t]
  cases m1 : wmB t L p 1 with
  | true =>
    rw [b2_1, if_neg (by decide), if_pos rfl, wm_e m1, C.z.c]
    obtain ⟨w2, f, a, e, B⟩ := goods_body C H R I hh hp
    rw [e, cal_t]
    exact fin_post (K := K) (r := ibd t L S p 1) (b 1) (ok 1) hh B
  | false =>
    rw [b2_0, if_pos rfl, if_neg (by decide), C.z.c, isNamed_eq C hp (by decide), cal_t]
    cases m2 : wmB t L p 2 with
    | true =>
      rw [b2_1, if_neg (by decide), if_pos rfl, wm_e m2, gI_t Ho, (R.tz hN hh).1.2.1, I.n.1, C.z.c]
      obtain ⟨v, w2, f, e, -, e2, B⟩ := num_body C H R I hh a2 0 (nI (nn S) - 1) (k := 7) (j := 15) (by omega)
      rw [e, cal_t, pI_t Ho, tz_sI h70, ← e2]
      exact fin_post (K := K) (r := ibd t L S p 2) (b 2) (ok 2) hh B
    | false =>
      rw [b2_0, if_pos rfl, if_neg (by decide), C.z.c, isNamed_eq C hp (by decide), cal_t]
      cases m3 : wmB t L p 3 with
      | true =>
        rw [b2_1, if_neg (by decide), if_pos rfl, wm_e m3, C.z.c]
        obtain ⟨v, w2, f, e, -, e2, B⟩ := num_body C H R I hh a2 0 31 (k := 6) (j := 18) (by omega)
        rw [e, cal_t, pI_t Ho, tz_sI h70, ← e2]
        exact fin_post (K := K) (r := ibd t L S p 3) (b 3) (ok 3) hh B
      | false =>
        rw [b2_0, if_pos rfl, if_neg (by decide), C.z.c, isNamed_eq C hp (by decide), cal_t]
        cases m4 : wmB t L p 4 with
        | true =>
          rw [b2_1, if_neg (by decide), if_pos rfl, wm_e m4, C.z.c]
          obtain ⟨v, w2, f, e, -, e2, B⟩ := num_body C H R I hh a2 0 9 (k := 8) (j := 16) (by omega)
          rw [e, cal_t, pI_t Ho, tz_sI h70, ← e2]
          exact fin_post (K := K) (r := ibd t L S p 4) (b 4) (ok 4) hh B
        | false =>
          rw [b2_0, if_pos rfl, if_neg (by decide), C.z.c, failAt_eq C, cal_t, flI_m]
          exact fin_post (K := K) (r := ibd t L S p 5) (b 5) (ok 5) hh ⟨C, s2, Fr.rf w, fun _ => rfl, fun q => absurd q (by show ¬ true = false; decide)⟩
theorem upd_newS {x y : Int32} : upd (newS x) 17 y = newS y := by
  funext j
  by_cases e : j = 17
  · subst e; rw [pk_us]; rfl
  · rw [pk_un e]
    unfold newS
    rw [if_neg e, if_neg e]
theorem firstItem_eq (C : CT w L t) (H : HS w h) {x : Nat} (R : HR (wI w) h (newS (nI x))) (hx : x ≤ 200) (hh : h + 15 ≤ 70) (hp : p ≤ L) : ∃ w3, f_X10_readFirstItem 70 h (tz w (-1) (nI p)) = some ((), w3) ∧ IP w w3 h L t (itd t L (newS (nI x)) p (kfW t L p)) := by
  have hL := C.2.1
  have I : Iv (newS (nI x)) 0 := newS_iv hx 0
  have hN := I.n.2
  obtain ⟨a1, a2⟩ := tkE_b (t := t) hp
  obtain ⟨s1, s2⟩ := rn_b (P := txL t) hp
  have b := fun k => (ibd_b (t := t) (S := newS (nI x)) hp k).2
  have ok := fun k => (ibd_ok (t := t) I newS_zr hp k).1
  have Ho : ∀ {f a : Int32}, isO (tz w f a) h 2 = true := fun {f a} => (H.to tz_fr.1).o
  have h70 : h ≠ 70 := by omega
  unfold f_X10_readFirstItem kfW
  rw [C.z.g, tz_3, C.z.c, passLetters_eq C hp, cal_t, C.z.c, isNamed_eq C hp (by decide), cal_t]
  cases m0 : wmB t L p 0 with
  | true =>
    rw [b2_1, if_neg (by decide), if_pos rfl, wm_e m0, C.z.c]
    obtain ⟨v, w2, f, e, -, e2, B⟩ := num_body C H R I hh a2 0 99 (k := 5) (j := 17) (by omega)
    rw [upd_newS] at B
    rw [e, cal_t, pI_t Ho, tz_sI h70, ← e2]
    exact fin_post1 (K := 0) (r := ibd t L (newS (nI x)) p 0) (b 0) (ok 0) hh B
  | false =>
    rw [b2_0, if_pos rfl, if_neg (by decide), C.z.c, failAt_eq C, cal_t, flI_m]
    exact fin_post1 (K := 0) (r := ibd t L (newS (nI x)) p 5) (b 5) (ok 5) hh ⟨C, s2, Fr.rf w, fun _ => rfl, fun q => absurd q (by show ¬ true = false; decide)⟩
theorem IP.tr {w1 w2 : Wd} {r : Bool × Nat × (Nat → Int32)} (f : Fr (fun c => hset h c ∨ c = 70) w w1) (P : IP w1 w2 h L t r) : IP w w2 h L t r := ⟨P.1, f.tr P.2.1, P.2.2.1, P.2.2.2⟩
theorem into_lp (hh : h + 15 ≤ 70) : ∀ (n : Nat) (S : Nat → Int32) (p m fuel : Nat) (w : Wd), CT w L t → HS w h → HR (wI w) h S → Iv S K → Zr S → wI w 70 2 = -1 → wI w 70 3 = nI p → p ≤ L → m ≤ p → L - p ≤ n → n < fuel → ∃ m' w', f_X10_readInto_27 fuel 70 h (nI m) w = some (m', w') ∧ IP w w' h L t (pzd t L n S p m).1 ∧ ((pzd t L n S p m).1.1 = false → m' = nI (pzd t L n S p m).2) := by
  have stop : ∀ (S : Nat → Int32) (m fuel : Nat) (w : Wd), CT w L t → HR (wI w) h S → wI w 70 2 = -1 → wI w 70 3 = nI L → m ≤ L → 0 < fuel → ∃ m' w', f_X10_readInto_27 fuel 70 h (nI m) w = some (m', w') ∧ IP w w' h L t (false, L, S) ∧ (false = false → m' = nI m) := by
    intro S m fuel w C R e2 e3 hm hf
    have hL := C.2.1
    obtain ⟨f, rfl⟩ : ∃ f, fuel = f + 1 := ⟨fuel - 1, by omega⟩
    refine ⟨nI m, w, ?_, ⟨C, Fr.rf w, fun q => absurd q (by show ¬ false = true; decide), fun _ => ⟨e2, e3, R⟩⟩, fun _ => rfl⟩
    rw [f_X10_readInto_27, C.g, e2, if_pos rfl, C.g, e3, C.g, C.2.2.1, if_pos (nI_le (by omega) (by omega)), ite_self, f_X10_readInto_64]
  intro n
  induction n with
  | zero =>
    intro S p m fuel w C H R I Z e2 e3 hp hm hn hf
    obtain rfl : p = L := by omega
    exact stop S m fuel w C R e2 e3 hm hf
  | succ n ih =>
    intro S p m fuel w C H R I Z e2 e3 hp hm hn hf
    have hL := C.2.1
    rw [pzd]
    by_cases c : p < L
    · obtain ⟨f, rfl⟩ : ∃ f, fuel = f + 1 := ⟨fuel - 1, by omega⟩
      have ew : tz w (-1) (nI p) = w := by rw [← e2, ← e3]; exact tz_id
      obtain ⟨w3, e, P⟩ := laterItem_eq C H R I Z hh hp
      rw [ew] at e
      obtain ⟨P1, P2, P3, P4⟩ := id P
      have bd := itd_b (t := t) (S := S) hp (klW t L p)
      have ik := itd_ok (t := t) I Z hp (klW t L p)
      have step : f_X10_readInto_27 (f + 1) 70 h (nI m) w = f_X10_readInto_27 f 70 h (nI (m + 1)) w3 := by
        rw [f_X10_readInto_27, if_neg (show ¬ (150 : Int32) ≤ nI m from nI_ge (b := 150) (by omega) (by decide)), C.g, e2, if_pos rfl, C.g, e3, C.g, C.2.2.1, if_neg (nI_ge c (by omega)), C.c, e, cal_t, nI_1]
      rw [if_pos c]
      by_cases r1 : (itd t L S p (klW t L p)).1 = true
      · rw [if_pos r1]
        obtain ⟨f', rfl⟩ : ∃ f', f = f' + 1 := ⟨f - 1, by omega⟩
        refine ⟨nI (m + 1), w3, ?_, P, fun _ => rfl⟩
        rw [step, f_X10_readInto_27, P1.g, P3 r1, if_neg (nI_ne_m1 (by omega)), ite_self, f_X10_readInto_64]
      · rw [if_neg r1]
        have r0 := Bool.not_eq_true _ |>.mp r1
        obtain ⟨g1, g2, g3⟩ := P4 r0
        have lt := bd.2 r0
        obtain ⟨m', w', q1, q2, q3⟩ := ih (itd t L S p (klW t L p)).2.2 (itd t L S p (klW t L p)).2.1 (m + 1) f w3 P1 (H.to P2.1) g3 ik.1 ik.2 g1 g2 bd.1 (by omega) (by omega) (by omega)
        exact ⟨m', w', step.trans q1, IP.tr P2 q2, q3⟩
    · rw [if_neg c]
      obtain rfl : p = L := by omega
      exact stop S m fuel w C R e2 e3 hm (by omega)
/-- what the text tells -/
def rdd (t : Nat → Nat) (L : Nat) : (Bool × Nat × (Nat → Int32)) × Nat := if (itd t L (newS (nI 60)) (rn (txB t) L 0) (kfW t L (rn (txB t) L 0))).1 = true then (itd t L (newS (nI 60)) (rn (txB t) L 0) (kfW t L (rn (txB t) L 0)), 1) else pzd t L L (itd t L (newS (nI 60)) (rn (txB t) L 0) (kfW t L (rn (txB t) L 0))).2.2 (itd t L (newS (nI 60)) (rn (txB t) L 0) (kfW t L (rn (txB t) L 0))).2.1 1
theorem sI3 {x : Int32} : sI w 70 3 x = tz w (wI w 70 2) x := by
  have := tz_s3 (w := w) (f := wI w 70 2) (a := wI w 70 3) (x := x)
  rw [tz_id] at this
  exact this
theorem readInto_eq (C : CT w L t) (H : HS w h) (hh : h + 15 ≤ 70) : ∃ m' w', f_X10_readInto 70 h w = some (m', w') ∧ IP w w' h L t (rdd t L).1 ∧ ((rdd t L).1.1 = false → m' = nI (rdd t L).2) := by
  have hL := C.2.1
  have no : ¬ hset h 70 := fun q => by unfold hset at q; omega
  have no1 : ¬ hset h 71 := fun q => by unfold hset at q; omega
  have H0 : HS (tz w (-1) (nI 0)) h := H.to tz_fr.1
  obtain ⟨w1, g1, g2, g3⟩ := startAnew_eq H0 60
  have C1 : CT w1 L t := C.z.fr g2 no1 (by rw [g2.2.2 70 no])
  have e1 : tz w1 (-1) (nI 0) = w1 := by
    have := tz_id (w := w1)
    rw [g2.2.2 70 no, tz_2, tz_3] at this
    exact this
  have F1 : Fr (fun c => hset h c ∨ c = 70) w w1 := (tz_fr.wk (fun c hc => Or.inr hc)).tr (g2.wk (fun c hc => Or.inl hc))
  have H1 : HS w1 h := H.to F1.1
  obtain ⟨b1, b2'⟩ := rn_b (P := txB t) (L := L) (p := 0) (Nat.zero_le _)
  have pb := passBlanks_eq (f := -1) C1 (p := 0) (Nat.zero_le _)
  rw [e1] at pb
  obtain ⟨w3, e3, P⟩ := firstItem_eq (x := 60) C1 H1 g3 (by decide) hh b2'
  have st : f_X10_readInto 70 h w = f_X10_readInto_27 4096 70 h (nI 1) w3 := by
    unfold f_X10_readInto
    rw [C.p, sI3, C.z.p, tz_s2, show (0 : Int32) = nI 0 from rfl, calV_t H0.o, g1, cal_t, C1.c, pb, cal_t, C1.z.c, e3, cal_t]
    rfl
  obtain ⟨P1, P2, P3, P4⟩ := id P
  have bd := itd_b (t := t) (S := newS (nI 60)) b2' (kfW t L (rn (txB t) L 0))
  have ik := itd_ok (t := t) (newS_iv (x := 60) (by decide) 0) newS_zr b2' (kfW t L (rn (txB t) L 0))
  unfold rdd
  by_cases r1 : (itd t L (newS (nI 60)) (rn (txB t) L 0) (kfW t L (rn (txB t) L 0))).1 = true
  · rw [if_pos r1]
    refine ⟨nI 1, w3, ?_, IP.tr F1 P, fun _ => rfl⟩
    rw [st]
    show f_X10_readInto_27 (4095 + 1) _ _ _ _ = _
    rw [f_X10_readInto_27, P1.g, P3 r1, if_neg (nI_ne_m1 (by omega)), ite_self, f_X10_readInto_64]
  · rw [if_neg r1]
    have r0 := Bool.not_eq_true _ |>.mp r1
    obtain ⟨g1, g2, g3⟩ := P4 r0
    have lt := bd.2 r0
    obtain ⟨m', w', q1, q2, q3⟩ := into_lp (K := 0) hh L (itd t L (newS (nI 60)) (rn (txB t) L 0) (kfW t L (rn (txB t) L 0))).2.2 (itd t L (newS (nI 60)) (rn (txB t) L 0) (kfW t L (rn (txB t) L 0))).2.1 1 4096 w3 P1 (H1.to P2.1) g3 ik.1 ik.2 g1 g2 bd.1 (by omega) (by omega) (by omega)
    exact ⟨m', w', st.trans q1, IP.tr F1 (IP.tr P2 q2), q3⟩
/-- the row of a text without fault is one -/
theorem pzd_ok : ∀ (n : Nat) (S : Nat → Int32) (p m : Nat), p ≤ L → Iv S K → Zr S → Iv (pzd t L n S p m).1.2.2 K ∧ Zr (pzd t L n S p m).1.2.2 ∧ (pzd t L n S p m).1.2.1 ≤ L
  | 0, S, p, m, hp, I, Z => ⟨I, Z, hp⟩
  | n + 1, S, p, m, hp, I, Z => by
    rw [pzd]
    have bd := itd_b (t := t) (S := S) hp (klW t L p)
    have ik := itd_ok (t := t) I Z hp (klW t L p)
    by_cases c : p < L
    · rw [if_pos c]
      by_cases r1 : (itd t L S p (klW t L p)).1 = true
      · rw [if_pos r1]; exact ⟨ik.1, ik.2, bd.1⟩
      · rw [if_neg r1]; exact pzd_ok n _ _ _ bd.1 ik.1 ik.2
    · rw [if_neg c]; exact ⟨I, Z, hp⟩
theorem rdd_ok : Iv (rdd t L).1.2.2 0 ∧ Zr (rdd t L).1.2.2 ∧ (rdd t L).1.2.1 ≤ L := by
  obtain ⟨b1, b2'⟩ := rn_b (P := txB t) (L := L) (p := 0) (Nat.zero_le _)
  have bd := itd_b (t := t) (S := newS (nI 60)) b2' (kfW t L (rn (txB t) L 0))
  have ik := itd_ok (t := t) (newS_iv (x := 60) (by decide) 0) newS_zr b2' (kfW t L (rn (txB t) L 0))
  unfold rdd
  by_cases r1 : (itd t L (newS (nI 60)) (rn (txB t) L 0) (kfW t L (rn (txB t) L 0))).1 = true
  · rw [if_pos r1]; exact ⟨ik.1, ik.2, bd.1⟩
  · rw [if_neg r1]; exact pzd_ok L _ _ _ bd.1 ik.1 ik.2
end U3
