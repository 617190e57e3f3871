/-! read -/
section U6
variable {w w' : Wd} {L p K K2 : Nat} {t : Nat → Nat} {S : Nat → Int32}
def TF (T S : Nat → Int32) (A : Nat → Int32) (g : Nat) : Prop := Iv A 0 ∧ nn A = g ∧ Zr A ∧ A 17 = S 17 ∧ (∀ g', g' < g → A (20 + g') = S (20 + g') ∧ A (26 + g') = S (26 + g') ∧ A (32 + g') = S (32 + g')) ∧ ∀ j, 213 ≤ j → A j = T j
theorem tf_add {T A : Nat → Int32} {g : Nat} (I : Iv S 0) (hg : g < nn S) (h : TF T S A g) : TF T S (addS A (S (20 + g)) (S (26 + g)) (S (32 + g))) (g + 1) := by
  obtain ⟨a1, a2, a3, a4, a5, a6⟩ := h
  have hN := I.n.2
  have h5 : nn A ≤ 5 := by omega
  obtain ⟨k, r, p, hk, hr1, hr, hp, e1, e2, e3⟩ := I.2.2.2.2.2.2.1 g hg
  have z76 : A 76 = 0 := a3 76 (by decide) (by omega) (by omega) (by omega) (by omega)
  refine ⟨by rw [e1, e2, e3]; exact addS_iv a1 h5 hk hr1 hr hp, by rw [addS_nn h5, a2], addS_zr h5 a3 z76, by rw [addS_o h5 (by omega)]; exact a4, fun g' hg' => ?_, fun j hj => by rw [addS_o h5 (by omega)]; exact a6 j hj⟩
  by_cases e : g' = g
  · subst e
    have := addS_n (S := A) (k := S (20 + g')) (r := S (26 + g')) (p := S (32 + g')) h5
    rw [a2] at this
    exact this
  · obtain ⟨n1, n2, n3⟩ := addS_g (S := A) (k := S (20 + g)) (r := S (26 + g)) (p := S (32 + g)) h5 (show g' < nn A by omega)
    rw [n1, n2, n3]
    exact a5 g' (by omega)
theorem tf_end {T A : Nat → Int32} (I : Iv S 0) (Z : Zr S) (h : TF T S A (nn S)) : ∀ j, j < 213 → upd (upd (upd A 18 (S 18)) 16 (S 16)) 15 (S 15) j = S j := by
  obtain ⟨a1, a2, a3, a4, a5, a6⟩ := h
  intro j hj
  by_cases h15 : j = 15
  · subst h15; rw [pk_us]
  · rw [pk_un h15]
    by_cases h16 : j = 16
    · subst h16; rw [pk_us]
    · rw [pk_un h16]
      by_cases h18 : j = 18
      · subst h18; rw [pk_us]
      · rw [pk_un h18]
        by_cases h17 : j = 17
        · subst h17; exact a4
        · by_cases h19 : j = 19
          · subst h19; rw [a1.n.1, a2, ← I.n.1]
          · by_cases c1 : 20 ≤ j ∧ j < 20 + nn S
            · have := (a5 (j - 20) (by omega)).1
              rw [show 20 + (j - 20) = j by omega] at this
              exact this
            · by_cases c2 : 26 ≤ j ∧ j < 26 + nn S
              · have := (a5 (j - 26) (by omega)).2.1
                rw [show 26 + (j - 26) = j by omega] at this
                exact this
              · by_cases c3 : 32 ≤ j ∧ j < 32 + nn S
                · have := (a5 (j - 32) (by omega)).2.2
                  rw [show 32 + (j - 32) = j by omega] at this
                  exact this
                · rw [a3 j hj (by omega) (by rw [a2]; exact c1) (by rw [a2]; exact c2) (by rw [a2]; exact c3), Z j hj (by omega) c1 c2 c3]
theorem read_lp (M : MS w) (I : Iv S 0) (Z : Zr S) {T : Nat → Int32} {r : Int32} (R : RS w S) : ∀ (d g fuel : Nat) (A : Nat → Int32), g + d = nn S → d < fuel → TF T S A g → ∃ A', f_X12_read_28 fuel 95 r (nI g) (cW w 96 A) = some (r, cW w 96 A') ∧ (∀ j, j < 213 → A' j = S j) ∧ ∀ j, 213 ≤ j → A' j = T j := by
  have hN := I.n.2
  obtain ⟨R1, R2, R3, R4, R5⟩ := R
  intro d
  induction d with
  | zero =>
    intro g fuel A hg hf h
    obtain ⟨f, rfl⟩ : ∃ f, fuel = f + 1 := ⟨fuel - 1, by omega⟩
    obtain rfl : g = nn S := by omega
    have M' : ∀ {B : Nat → Int32}, MS (cW w 96 B) := fun {B} => M.cW
    have g95 : ∀ {B : Nat → Int32} {α : Type} {k : Nat} {f : Int32 → Option α}, gI (cW w 96 B) 95 12 k f = f (wI w 95 k) := fun {B α k f} => by rw [gI_t (M' (B := B)).o, cW_o (by decide)]
    refine ⟨upd (upd (upd A 18 (S 18)) 16 (S 16)) 15 (S 15), ?_, tf_end I Z h, fun j hj => by rw [pk_un (by omega), pk_un (by omega), pk_un (by omega)]; exact h.2.2.2.2.2 j hj⟩
    rw [f_X12_read_28, g95, R1, if_pos (nI_le (by omega) (by omega)), mg_t M', g95, R2, show (18 : Int32) = nI 18 from rfl, wr_t M' (by decide), cW_s, cW_cW, mg_t M', g95, R3, show (16 : Int32) = nI 16 from rfl, wr_t M' (by decide), cW_s, cW_cW, mg_t M', g95, R4, show (15 : Int32) = nI 15 from rfl, wr_t M' (by decide), cW_s, cW_cW]
  | succ d ih =>
    intro g fuel A hg hf h
    obtain ⟨f, rfl⟩ : ∃ f, fuel = f + 1 := ⟨fuel - 1, by omega⟩
    have M' : MS (cW w 96 A) := M.cW
    have e95 : wI (cW w 96 A) 95 = wI w 95 := cW_o (by decide)
    have e101 : wI (cW w 96 A) 101 = wI w 101 := cW_o (by decide)
    obtain ⟨r1, r2, r3⟩ := R5 g (by omega)
    have i3 : (3 : Int32) * nI g = nI (3 * g) := by rw [show (3 : Int32) = nI 3 from rfl, pk_mul]
    have i31 : nI (3 * g) + 1 = nI (3 * g + 1) := nI_1 _
    have i32 : nI (3 * g) + 2 = nI (3 * g + 2) := nI_add _ 2
    obtain ⟨A', t1, t2⟩ := ih (g + 1) f _ (by omega) (by omega) (tf_add I (by omega) h)
    refine ⟨A', ?_, t2⟩
    have ma := mAdd_eq M' (K := 0) (by rw [cW_s]; exact h.1) (by rw [cW_s, h.2.1]; omega) (S (20 + g)) (S (26 + g)) (S (32 + g))
    rw [cW_s, cW_cW] at ma
    rw [f_X12_read_28, gI_t M'.o, e95, R1, if_neg (nI_ge (by omega) (by omega)), i3, i31, i32, M'.rf 95 12 14 101 (by decide) (by decide), M'.ld 101 18 (by decide) (by decide) (by omega) (by decide), M'.rf 95 12 14 101 (by decide) (by decide), M'.ld 101 18 (by decide) (by decide) (by omega) (by decide), M'.rf 95 12 14 101 (by decide) (by decide), M'.ld 101 18 (by decide) (by decide) (by omega) (by decide), e101, r1, r2, r3, mc_t M', ma, cal_t, nI_1]
    exact t1
theorem RS.az {a b : Int32} (R : RS w S) : RS (az w a b) S := by
  obtain ⟨R1, R2, R3, R4, R5⟩ := R
  exact ⟨by rw [az_k (by decide) (by decide)]; exact R1, by rw [az_k (by decide) (by decide)]; exact R2, by rw [az_k (by decide) (by decide)]; exact R3, by rw [az_k (by decide) (by decide)]; exact R4, by rw [az_o (by decide)]; exact R5⟩
theorem RS.c96 {T : Nat → Int32} (R : RS w S) : RS (cW w 96 T) S := by
  obtain ⟨R1, R2, R3, R4, R5⟩ := R
  exact ⟨by rw [cW_o (by decide)]; exact R1, by rw [cW_o (by decide)]; exact R2, by rw [cW_o (by decide)]; exact R3, by rw [cW_o (by decide)]; exact R4, by rw [cW_o (by decide)]; exact R5⟩
theorem mRead_ok (C : RC w L t) (h : (rdd t L).1.1 = false) : ∃ v T, f_X12_read 95 w = some (nI (rdd t L).2, cW v 96 T) ∧ Fr rset w v ∧ RC v L t ∧ (∀ j, j < 213 → T j = (rdd t L).1.2.2 j) ∧ ∀ j, 213 ≤ j → T j = wI w 96 j := by
  obtain ⟨I, Z, hx⟩ := rdd_ok (t := t) (L := L)
  obtain ⟨w2, C2, F2, h2⟩ := readItems_eq C
  rcases h2 with ⟨r1, -⟩ | ⟨-, a, b, e, R2, Rh2⟩
  · rw [h] at r1; exact absurd r1 (by decide)
  · have e96 : wI (az w2 a b) 96 = wI w 96 := by rw [az_o (by decide), F2.2.2 96 (by unfold rset; omega)]
    have Rh3 : wI (az w2 a b) 95 10 = (rdd t L).1.2.2 17 := by rw [az_k (by decide) (by decide)]; exact Rh2
    obtain ⟨Hn, hH, eH⟩ := I.2.2.2.2.1
    have tf : TF (wI w 96) (rdd t L).1.2.2 (putR (wI w 96) (newS ((rdd t L).1.2.2 17))) 0 := by
      have lo : ∀ j, j < 213 → putR (wI w 96) (newS ((rdd t L).1.2.2 17)) j = newS ((rdd t L).1.2.2 17) j := fun j hj => by unfold putR; rw [if_pos hj]
      have n0 : nn (putR (wI w 96) (newS ((rdd t L).1.2.2 17))) = 0 := by unfold nn; rw [lo 19 (by decide)]; rfl
      refine ⟨?_, n0, fun j hj h1 h2 h3 h4 => ?_, by rw [lo 17 (by decide)]; rfl, fun g hg => absurd hg (by omega), fun j hj => by unfold putR; rw [if_neg (by omega)]⟩
      · rw [eH] at lo ⊢
        exact (newS_iv hH 0).ext lo
      · rw [lo j hj]
        exact newS_zr j hj h1 (by show ¬ (20 ≤ j ∧ j < 20 + 0); omega) (by show ¬ (26 ≤ j ∧ j < 26 + 0); omega) (by show ¬ (32 ≤ j ∧ j < 32 + 0); omega)
    obtain ⟨A', t1, t2, t3⟩ := read_lp (w := az w2 a b) C2.z.1 I Z (r := nI (rdd t L).2) R2.az (nn (rdd t L).1.2.2) 0 4096 _ (by omega) (by have := I.n.2; omega) tf
    refine ⟨az w2 a b, A', ?_, F2.tr (az_fr.wk (fun c hc => Or.inl hc)), C2.z, t2, t3⟩
    have hm : ¬ nI (rdd t L).2 = -1 := by
      refine nI_ne_m1 ?_
      have : ∀ (n : Nat) (S : Nat → Int32) (p m : Nat), (pzd t L n S p m).2 ≤ m + n := by
        intro n
        induction n with
        | zero => intro S p m; exact Nat.le_refl _
        | succ n ih =>
          intro S p m
          rw [pzd]
          split
          · split
            · show m + 1 ≤ _; omega
            · have := ih (itd t L S p (klW t L p)).2.2 (itd t L S p (klW t L p)).2.1 (m + 1)
              omega
          · show m ≤ _; omega
      have hL := C.2.1
      unfold rdd
      split
      · show 1 < 2 ^ 31; decide
      · have := this L (itd t L (newS (nI 60)) (rn (txB t) L 0) (kfW t L (rn (txB t) L 0))).2.2 (itd t L (newS (nI 60)) (rn (txB t) L 0) (kfW t L (rn (txB t) L 0))).2.1 1
        omega
    unfold f_X12_read
    rw [mc_t C.1, e, cal_t, if_neg hm, C2.z.g, Rh3, mc_t C2.z.1, mLayMill_eq C2.z.1, cal_t, e96]
    exact t1
theorem mRead_bad (C : RC w L t) (h : (rdd t L).1.1 = true) : ∃ v, f_X12_read 95 w = some (-10 - nI (rdd t L).1.2.1, v) ∧ Fr rset w v ∧ RC v L t := by
  obtain ⟨w2, C2, F2, h2⟩ := readItems_eq C
  rcases h2 with ⟨-, b, e⟩ | ⟨r0, -⟩
  · refine ⟨az w2 (nI (rdd t L).1.2.1) b, ?_, F2.tr (az_fr.wk (fun c hc => Or.inl hc)), C2.z⟩
    unfold f_X12_read
    rw [mc_t C.1, e, cal_t, if_pos rfl, C2.z.g, az_8]
  · rw [h] at r0; exact absurd r0 (by decide)
theorem sp_swap {h0 h1 : Nat} (s : Sp w h0 h1) : Sp (sR (sR w 0 5 h1) 0 6 h0) h1 h0 := by
  obtain ⟨s1, s2, s3, s4, s5, s6⟩ := s
  refine ⟨s1, s2, fun q hq => ?_, ?_, ?_, ?_⟩
  · have no : ∀ q ∈ RFL, ¬ (q.1 = 0 ∧ q.2.1 = 5) ∧ ¬ (q.1 = 0 ∧ q.2.1 = 6) := by decide +kernel
    obtain ⟨n1, n2⟩ := no q hq
    show (if q.1 = 0 ∧ q.2.1 = 6 then some h0 else if q.1 = 0 ∧ q.2.1 = 5 then some h1 else wR w q.1 q.2.1) = some q.2.2
    rw [if_neg n2, if_neg n1]
    exact s3 q hq
  · rfl
  · rfl
  · rcases s6 with ⟨a, b⟩ | ⟨a, b⟩
    · exact Or.inr ⟨b, a⟩
    · exact Or.inl ⟨b, a⟩
theorem Sp.h1 {h0 h1 : Nat} (s : Sp w h0 h1) : (h1 = 8 ∨ h1 = 23) ∧ (h0 = 8 ∨ h0 = 23) ∧ h0 ≠ h1 := by
  rcases s.2.2.2.2.2 with ⟨a, b⟩ | ⟨a, b⟩ <;> omega
theorem p_read (V : Inv w K) : Pr w (K + 60) (f_X11_read 0) (f_X12_read 95) := by
  have M := V.ms
  obtain ⟨⟨h0, h1, s, r⟩, I, R⟩ := id V
  obtain ⟨hh1, hh0, hne⟩ := s.h1
  obtain ⟨L, hL, t1, t2, t3⟩ := R.2.2.2.1
  generalize ht : (fun i => (wI w 99 i).toNatClampNeg) = t
  have tv : ∀ i, i < L → wI w 99 i = nI (t i) ∧ t i < 128 := fun i hi => by
    obtain ⟨-, c, hc, ec⟩ := t3 i hi
    have : t i = c := by
      rw [← ht]
      show (wI w 99 i).toNatClampNeg = c
      rw [ec, nI_clamp (by omega)]
    rw [this]
    exact ⟨ec, hc⟩
  have C : CT w L t := ⟨M, hL, t1, fun i hi => ⟨by rw [(t3 i hi).1]; exact (tv i hi).1, (tv i hi).2⟩⟩
  have D : RC w L t := ⟨M, hL, t2, tv, R.2.2.2.2.2⟩
  have H1 : HS w h1 := s.hs (hh1.imp id Or.inl)
  obtain ⟨m', w3, e, P, hm⟩ := readInto_eq C H1 (by omega)
  obtain ⟨P1, P2, P3, P4⟩ := P
  have fr : ∀ a, ¬ (h1 ≤ a ∧ a < h1 + 15) → a ≠ 70 → wI w3 a = wI w a := fun a x y => P2.2.2 a (fun q => q.elim x y)
  have s3 : Sp w3 h0 h1 := s.to P2.1
  have M3 : MS w3 := M.to P2.1
  have D3 : RC w3 L t := D.fr P2 (by unfold hset; omega) (by unfold hset; omega) (by rw [fr 95 (by omega) (by decide)])
  have rs : ∀ a, a ≠ 95 → a ≠ 101 → ¬ rset a := fun a x y q => q.elim x y
  have gsp : ∀ {α : Type} {f : Nat → Option α}, gR w 0 11 6 f = f h1 := fun {α f} => by rw [gR_t (s.o 0 11 (by decide)), s.2.2.2.2.1, Option.bind_some]
  have gsp3 : ∀ {α : Type} {f : Nat → Option α}, gR w3 0 11 6 f = f h1 := fun {α f} => by rw [gR_t (s3.o 0 11 (by decide)), s3.2.2.2.2.1, Option.bind_some]
  cases hb : (rdd t L).1.1 with
  | true =>
    obtain ⟨v, ev, Fv, Cv⟩ := mRead_bad D3 hb
    have hx := (rdd_ok (t := t) (L := L)).2.2
    refine ⟨-10 - nI (rdd t L).1.2.1, w3, v, ?_, ev, ?_⟩
    · unfold f_X11_read
      rw [M.rf 0 11 2 70 (by decide) (by decide), gsp, C.c, e, cal_t, M3.rf 0 11 2 70 (by decide) (by decide), P1.g, P3 hb, if_neg (nI_ne_m1 (by omega)), M3.rf 0 11 2 70 (by decide) (by decide), P1.g, P3 hb]
    · have all : ∀ a, ¬ (h1 ≤ a ∧ a < h1 + 15) → a ≠ 70 → a ≠ 95 → a ≠ 101 → wI v a = wI w a := fun a x1 x2 x3 x4 => by rw [Fv.2.2 a (rs a x3 x4), fr a x1 x2]
      have e96 : wI v 96 = wI w 96 := all 96 (by omega) (by decide) (by decide) (by decide)
      refine ⟨⟨h0, h1, s3.to Fv.1, ?_⟩, by rw [e96]; exact I.mono (by omega), R.to (by omega) (fun a ha => all a (by unfold Kp at ha; omega) (by unfold Kp at ha; omega) (by unfold Kp at ha; omega) (by unfold Kp at ha; omega)) ?_ ?_ (fun j _ _ => by rw [e96]) (Fv.2.1.trans P2.2.1)⟩
      · rw [e96]
        exact r.eq I.q4.1 (fun k hk _ _ => all _ (by omega) (by omega) (by omega) (by omega))
      · rw [Fv.2.2 70 (rs 70 (by decide) (by decide)), P1.2.2.1, t1]
      · rw [Cv.2.2.1, t2]
  | false =>
    obtain ⟨g2, g3, gR3⟩ := P4 hb
    generalize hw4 : sR (sR w3 0 5 h1) 0 6 h0 = w4
    have s4 : Sp w4 h1 h0 := by rw [← hw4]; exact sp_swap s3
    have I4 : wI w4 = wI w3 := by rw [← hw4]; rfl
    have L4 : wL w4 = wL w3 := by rw [← hw4]; rfl
    have D4 : RC w4 L t := ⟨⟨h1, h0, s4⟩, hL, by rw [I4]; exact D3.2.2.1, by rw [I4]; exact D3.2.2.2.1, by rw [I4]; exact D3.2.2.2.2⟩
    obtain ⟨v, T, ev, Fv, Cv, T1, T2⟩ := mRead_ok D4 hb
    obtain ⟨Io, Zo, -⟩ := rdd_ok (t := t) (L := L)
    refine ⟨nI (rdd t L).2, w4, cW v 96 T, ?_, ev, ?_⟩
    · have o3 : isO w3 0 11 = true := s3.o 0 11 (by decide)
      unfold f_X11_read
      rw [M.rf 0 11 2 70 (by decide) (by decide), gsp, C.c, e, cal_t, M3.rf 0 11 2 70 (by decide) (by decide), P1.g, g2, if_pos rfl, ng_t s3, gsp3, pR_t o3, pR_t (by rw [isO_sR]; exact o3), hw4, hm hb]
    · have all : ∀ a, ¬ (h1 ≤ a ∧ a < h1 + 15) → a ≠ 70 → a ≠ 95 → a ≠ 101 → a ≠ 96 → wI (cW v 96 T) a = wI w a := fun a x1 x2 x3 x4 x5 => by rw [cW_o x5, Fv.2.2 a (rs a x3 x4), I4, fr a x1 x2]
      have nT : nn T = nn (rdd t L).1.2.2 := by unfold nn; rw [T1 19 (by decide)]
      refine ⟨⟨h1, h0, (s4.to Fv.1).to Eqs.cW, ?_⟩, ?_, R.to (by omega) (fun a ha => all a (by unfold Kp at ha; omega) (by unfold Kp at ha; omega) (by unfold Kp at ha; omega) (by unfold Kp at ha; omega) (by unfold Kp at ha; omega)) ?_ ?_ (fun j j1 j2 => ?_) ?_⟩
      · rw [cW_s]
        exact (HR.ext gR3 Io.q4 T1).eq (by rw [nT]; exact Io.q4.1) (fun k hk _ _ => by rw [cW_o (by omega), Fv.2.2 _ (rs _ (by omega) (by omega)), I4])
      · rw [cW_s]
        exact (Io.ext T1).mono (by omega)
      · rw [cW_o (by decide), Fv.2.2 70 (rs 70 (by decide) (by decide)), I4, P1.2.2.1, t1]
      · rw [cW_o (by decide), Cv.2.2.1, t2]
      · rw [cW_s, T2 j j1, I4, fr 96 (by omega) (by decide)]
      · exact (Fv.2.1.trans L4).trans P2.2.1
end U6
