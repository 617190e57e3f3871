theorem cpI_t {α : Type} {w : Wd} {a0 a : Nat} {sp dp n : Int32} {K : Wd → Option α} {n0 n1 s d c : Nat} (h0 : isO w a0 14 = true) (h1 : isO w a 14 = true) (e0 : (wS w a0).2 = n0) (e1 : (wS w a).2 = n1) (es : sp = nI s) (ed : dp = nI d) (ec : n = nI c) (b0 : s + c ≤ n0) (b1 : d + c ≤ n1) (hb : n0 < 2 ^ 31 ∧ n1 < 2 ^ 31) : cpI w a0 sp a dp n K = K (cI w a0 s a d c) := by
  subst es; subst ed; subst ec
  have c1 : (nI s).toNatClampNeg = s := nI_clamp (by omega)
  have c2 : (nI d).toNatClampNeg = d := nI_clamp (by omega)
  have c3 : (nI c).toNatClampNeg = c := nI_clamp (by omega)
  have p1 : (0 : Int32) ≤ nI s := nI_pos' (by omega)
  have p2 : (0 : Int32) ≤ nI d := nI_pos' (by omega)
  have p3 : (0 : Int32) ≤ nI c := nI_pos' (by omega)
  unfold cpI
  rw [h0, h1, c1, c2, c3, e0, e1, decide_eq_true p1, decide_eq_true p2, decide_eq_true p3, decide_eq_true b0, decide_eq_true b1]
  rfl
theorem Fr.cI {A : Nat → Prop} {w : Wd} {a0 sp a dp n : Nat} (h : A a) : Fr A w (cI w a0 sp a dp n) := ⟨⟨rfl, rfl, rfl⟩, rfl, fun b hb => by funext j; rw [wI_cI, if_neg (fun (q : b = a ∧ dp ≤ j ∧ j < dp + n) => hb (by rw [q.1]; exact h))]⟩
/-- numbers kept, an Iv from its pieces -/
theorem Iv.to {S T : Nat → Int32} {K : Nat} (I : Iv S K) (e : ∀ j, 17 ≤ j → j < 76 → T j = S j) (hp : Pv (nn S) (S 17) K T) (hu : ∃ u, u ≤ 8 ∧ T 76 = nI u ∧ ∀ p, p < u → Pv (nn S) (S 17) K (fun j => T (77 + 17 * p + j))) : Iv T K := by
  have e1 : nn T = nn S := by unfold nn; rw [e 19 (by decide) (by decide)]
  have e2 : gn T = gn S := by unfold gn; rw [e 38 (by decide) (by decide)]
  have e3 : tn T = tn S := by unfold tn; rw [e 51 (by decide) (by decide)]
  obtain ⟨u, hu8, hu2, hu3⟩ := hu
  have e4 : un T = u := un_of hu2 (by omega)
  obtain ⟨h1, h2, h3, h4, h5, h6, h7, h8, h9, h10⟩ := I
  refine ⟨by rw [e1, e 19 (by decide) (by decide)]; exact h1, by rw [e2, e 38 (by decide) (by decide)]; exact h2, by rw [e3, e 51 (by decide) (by decide)]; exact h3, by rw [e4]; exact ⟨hu2, hu8⟩, by rw [e 17 (by decide) (by decide)]; exact h5, by rw [e 18 (by decide) (by decide)]; exact h6, fun g hg => ?_, ?_, fun p hp => ?_, fun i hi => ?_⟩
  · rw [e1] at hg
    rw [e (20 + g) (by omega) (by omega), e (26 + g) (by omega) (by omega), e (32 + g) (by omega) (by omega)]
    exact h7 g hg
  · rw [e1, e 17 (by decide) (by decide)]; exact hp
  · rw [e4] at hp
    rw [e1, e 17 (by decide) (by decide)]
    exact hu3 p hp
  · rw [e2] at hi
    rw [e (39 + 2 * i) (by omega) (by omega), e (40 + 2 * i) (by omega) (by omega)]
    exact h10 i hi
section P6
variable {h : Nat} {K : Nat} {S : Nat → Int32}
theorem Iv.past (I : Iv S K) {p : Nat} (hp : p < un S) : Pv (nn S) (S 17) K (fun j => S (77 + 17 * p + j)) := I.2.2.2.2.2.2.2.2.1 p hp
theorem putP_iv (I : Iv S K) (hu : un S < 8) : Iv (putP S (un S)) K := by
  refine I.to (fun j h1 h2 => putP_o (by omega) (by omega)) (I.pv.ext (fun j hj => putP_o (by omega) (by omega))) ⟨un S + 1, by omega, putP_76, fun p hp => ?_⟩
  by_cases hpu : p = un S
  · subst hpu
    exact I.pv.ext (fun j hj => putP_in hj)
  · exact (I.past (p := p) (by omega)).ext (fun j hj => putP_o (by omega) (by omega))
theorem shP_iv (I : Iv S K) (hu : un S = 8) : Iv (shP S) K := by
  refine I.to (fun j h1 h2 => shP_o (by omega)) (I.pv.ext (fun j hj => shP_o (by omega))) ⟨7, by decide, shP_76, fun p hp => ?_⟩
  refine (I.past (p := p + 1) (by omega)).ext (fun j hj => ?_)
  show shP S (77 + 17 * p + j) = S (77 + 17 * (p + 1) + j)
  rw [shP_in (by omega) (by omega)]
  congr 1
  omega
theorem keepS_iv (I : Iv S K) : Iv (keepS S) K := by
  unfold keepS
  by_cases hu : un S < 8
  · rw [if_pos hu]; exact putP_iv I hu
  · rw [if_neg hu]
    have h8 : un S = 8 := by have := I.2.2.2.1.2; omega
    have h7 : un (shP S) = 7 := un_of shP_76 (by decide)
    have := putP_iv (shP_iv I h8) (by rw [h7]; decide)
    rw [h7] at this
    exact this
theorem remember_row {w : Wd} (H : HS w h) (R : HR (wI w) h S) (I : Iv S K) : ∃ w', f_X2_remember h w = some ((), w') ∧ Fr (hset h) w w' ∧ HR (wI w') h (keepS S) := by
  unfold f_X2_remember keepS
  rw [gI_t H.o, R.1.1, I.2.2.2.1.1]
  by_cases hu : un S < 8
  · rw [if_pos (show nI (un S) < 8 from nI_lt hu (by decide)), if_pos hu]
    exact remember_31 H R I hu
  · have h8 : un S = 8 := by have := I.2.2.2.1.2; omega
    have h7 : un (shP S) = 7 := un_of shP_76 (by decide)
    have h9 : ¬ nI (un S) < (8 : Int32) := show ¬ nI (un S) < nI 8 from nI_nlt (b := 8) (by omega) (by omega)
    rw [if_neg h9, if_neg hu]
    rw [gR_t H.o, H.r2, Option.bind_some, gR_t H.o, H.r2, Option.bind_some, cpI_t (sp := 17) (dp := 0) (n := 119) (n0 := 136) (n1 := 136) (s := 17) (d := 0) (c := 119) H.o2 H.o2 H.n2 H.n2 rfl rfl rfl (by decide) (by decide) ⟨by decide, by decide⟩, pI_t (by rw [isO_cI]; exact H.o)]
    generalize hw2 : sI (cI w (h + 2) 17 (h + 2) 0 119) h 3 7 = w2
    have H2 : HS w2 h := by rw [← hw2]; exact H.to ⟨rfl, rfl, rfl⟩
    have f2 : Fr (hset h) w w2 := by rw [← hw2]; exact (Fr.cI ⟨by omega, by omega⟩).tr (Fr.sI ⟨by omega, by omega⟩)
    have fr : ∀ a, a ≠ h → a ≠ h + 2 → wI w2 a = wI w a := fun a h1 h2 => by
      rw [← hw2]
      funext j
      rw [wI_other h1, wI_cI, if_neg (fun q => h2 q.1)]
    have eh : ∀ j, j ≠ 3 → wI w2 h j = wI w h j := fun j hj => by
      rw [← hw2, wI_place hj, wI_cI, if_neg (by omega)]
    have e3 : wI w2 h 3 = 7 := by rw [← hw2, wI_same]
    have ep : ∀ j, j < 119 → wI w2 (h + 2) j = wI w (h + 2) (17 + j) := fun j hj => by
      rw [← hw2, wI_other (by omega), wI_cI, if_pos ⟨rfl, by omega, by omega⟩, Nat.sub_zero]
    obtain ⟨⟨r3, r4, r5, r6, r7, r8, r9, r10, r11⟩, RG, RQ, RP⟩ := id R
    have hn := I.n.2
    have en : nn (shP S) = nn S := by unfold nn; rw [shP_o (by decide)]
    have R2 : HR (wI w2) h (shP S) := by
      refine ⟨?_, HG.tr RG (fun g hg => fr _ (by omega) (by omega)) (fun j hj => shP_o (by omega)) (fun j h1 h2 => shP_o (by omega)) hn, HQ.tr RQ (fr _ (by omega) (by omega)) (fr _ (by omega) (by omega)) (fr _ (by omega) (by omega)) (fr _ (by omega) (by omega)) (fun j h1 h2 => shP_o (by omega)) I.2.1.2 I.2.2.1.2, fun p hp => ?_⟩
      · refine ⟨by rw [e3, shP_76]; rfl, ?_, ?_, ?_, ?_, ?_, ?_, ?_, ?_⟩
        all_goals rw [eh _ (by decide), shP_o (by decide)]; assumption
      · rw [h7] at hp
        obtain ⟨a1, a2, a3, a4, a5, a6⟩ := RP (p + 1) (by omega)
        rw [en]
        have k1 : ∀ k, k < 17 → wI w2 (h + 2) (17 * p + k) = wI w (h + 2) (17 * (p + 1) + k) := fun k hk => by rw [ep _ (by omega)]; congr 1; omega
        have k2 : ∀ k, k < 17 → shP S (77 + 17 * p + k) = S (77 + 17 * (p + 1) + k) := fun k hk => by rw [shP_in (by omega) (by omega)]; congr 1; omega
        refine ⟨?_, ?_, ?_, ?_, ?_, fun g hg => ⟨?_, ?_⟩⟩
        · rw [k2 12 (by decide)]; exact (k1 0 (by decide)).trans a1
        · rw [k2 13 (by decide), k1 1 (by decide)]; exact a2
        · rw [k2 14 (by decide), k1 2 (by decide)]; exact a3
        · rw [k2 15 (by decide), k1 3 (by decide)]; exact a4
        · rw [k2 16 (by decide), k1 4 (by decide)]; exact a5
        · rw [k2 g (by omega), Nat.add_assoc (17 * p), k1 (5 + 2 * g) (by omega), ← Nat.add_assoc]; exact (a6 g hg).1
        · rw [Nat.add_assoc (77 + 17 * p), k2 (6 + g) (by omega), Nat.add_assoc (17 * p), k1 (6 + 2 * g) (by omega), ← Nat.add_assoc, ← Nat.add_assoc]; exact (a6 g hg).2
    obtain ⟨w', q1, q2, q3⟩ := remember_31 H2 R2 (shP_iv I h8) (by rw [h7]; decide)
    rw [h7] at q3
    exact ⟨w', q1, f2.tr q2, q3⟩
/-! undone -/
def undoS (S : Nat → Int32) : Nat → Int32 := fun j => if j < 17 then S (77 + 17 * (un S - 1) + j) else if j = 76 then nI (un S - 1) else S j
theorem undoS_lo {j : Nat} (hj : j < 17) : undoS S j = S (77 + 17 * (un S - 1) + j) := by unfold undoS; rw [if_pos hj]
theorem undoS_76 : undoS S 76 = nI (un S - 1) := by unfold undoS; rw [if_neg (by decide), if_pos rfl]
theorem undoS_o {j : Nat} (h1 : 17 ≤ j) (h2 : j ≠ 76) : undoS S j = S j := by unfold undoS; rw [if_neg (by omega), if_neg h2]
theorem undoS_iv (I : Iv S K) (hu : 0 < un S) : Iv (undoS S) K := by
  have h8 := I.2.2.2.1.2
  refine I.to (fun j h1 h2 => undoS_o (by omega) (by omega)) ((I.past (p := un S - 1) (by omega)).ext (fun j hj => undoS_lo hj)) ⟨un S - 1, by omega, undoS_76, fun p hp => ?_⟩
  exact (I.past (p := p) (by omega)).ext (fun j hj => undoS_o (by omega) (by omega))
theorem goBack_lp {n u : Nat} (hn : n ≤ 6) (hu : u ≤ 7) : ∀ (d i fuel : Nat) (w : Wd), HS w h → wI w h 4 = nI n → i + d = n → d < fuel → ∃ w', f_X2_goBack_86 fuel h (nI (17 * u)) (nI i) w = some ((), w') ∧ Fr (fun a => h + 9 ≤ a ∧ a < h + 15) w w' ∧ (∀ g, g < 6 → ∀ j, j ≠ 4 → j ≠ 5 → wI w' (h + 9 + g) j = wI w (h + 9 + g) j) ∧ (∀ g, i ≤ g → g < n → wI w' (h + 9 + g) 4 = wI w (h + 2) (17 * u + 5 + 2 * g) ∧ wI w' (h + 9 + g) 5 = wI w (h + 2) (17 * u + 6 + 2 * g)) ∧ (∀ g, g < i → wI w' (h + 9 + g) = wI w (h + 9 + g)) := by
  intro d
  induction d with
  | zero =>
    intro i fuel w H hm hi hf
    obtain ⟨f, rfl⟩ : ∃ f, fuel = f + 1 := ⟨fuel - 1, by omega⟩
    rw [f_X2_goBack_86, gI_t H.o, hm, if_pos (nI_le (by omega) (by omega))]
    exact ⟨w, rfl, Fr.rf w, fun _ _ _ _ _ => rfl, fun g h1 h2 => absurd h2 (by omega), fun _ _ => rfl⟩
  | succ d ih =>
    intro i fuel w H hm hi hf
    obtain ⟨f, rfl⟩ : ∃ f, fuel = f + 1 := ⟨fuel - 1, by omega⟩
    have e5 : nI (17 * u) + 5 + 2 * nI i = nI (17 * u + 5 + 2 * i) := by
      rw [show (5 : Int32) = nI 5 from rfl, show (2 : Int32) = nI 2 from rfl, nI_add, pk_mul, nI_add]
    have e6 : nI (17 * u) + 6 + 2 * nI i = nI (17 * u + 6 + 2 * i) := by
      rw [show (6 : Int32) = nI 6 from rfl, show (2 : Int32) = nI 2 from rfl, nI_add, pk_mul, nI_add]
    have i6 : i < 6 := by omega
    rw [f_X2_goBack_86, gI_t H.o, hm, if_neg (nI_ge (by omega) (by omega))]
    simp only [e5, e6, nI_1]
    rw [gR_t H.o, H.r0, Option.bind_some, lR_t H.o1 (inb_of H.n1 i6 (by decide)), nI_clamp (by omega), H.rg i6, Option.bind_some, gR_t H.o, H.r2, Option.bind_some, lI_t H.o2 (inb_of H.n2 (by omega) (by decide)), nI_clamp (by omega), pI_t (H.og i6)]
    have H1 : HS (sI w (h + 9 + i) 4 (wI w (h + 2) (17 * u + 5 + 2 * i))) h := H.to ⟨rfl, rfl, rfl⟩
    rw [gR_t H1.o, H1.r0, Option.bind_some, lR_t H1.o1 (inb_of H1.n1 i6 (by decide)), nI_clamp (by omega), H1.rg i6, Option.bind_some, gR_t H1.o, H1.r2, Option.bind_some, lI_t H1.o2 (inb_of H1.n2 (by omega) (by decide)), nI_clamp (by omega), pI_t (H1.og i6), wI_other (by omega)]
    generalize hw2 : sI (sI w (h + 9 + i) 4 (wI w (h + 2) (17 * u + 5 + 2 * i))) (h + 9 + i) 5 (wI w (h + 2) (17 * u + 6 + 2 * i)) = w2
    have H2 : HS w2 h := by rw [← hw2]; exact H.to ⟨rfl, rfl, rfl⟩
    have f2 : Fr (fun a => a = h + 9 + i) w w2 := by rw [← hw2]; exact (Fr.sI (A := fun a => a = h + 9 + i) rfl).tr (Fr.sI (A := fun a => a = h + 9 + i) rfl)
    obtain ⟨w', q1, q2, q3, q4, q5⟩ := ih (i + 1) f w2 H2 (by rw [f2.2.2 h (by omega)]; exact hm) (by omega) (by omega)
    refine ⟨w', q1, (f2.wk (fun a (ha : a = h + 9 + i) => ⟨by omega, by omega⟩)).tr q2, fun g hg j h4 h5 => ?_, fun g h1 h2 => ?_, fun g hg => ?_⟩
    · rw [q3 g hg j h4 h5, ← hw2, wI_place h5, wI_place h4]
    · by_cases hgi : g = i
      · subst hgi
        rw [q5 g (by omega), ← hw2]
        exact ⟨by rw [wI_place (by decide), wI_same], wI_same⟩
      · rw [← f2.2.2 (h + 2) (by omega)]
        exact q4 g (by omega) h2
    · rw [q5 g (by omega), f2.2.2 (h + 9 + g) (by omega)]
theorem goBack_row {w : Wd} (H : HS w h) (R : HR (wI w) h S) (I : Iv S K) (hu : 0 < un S) : ∃ w', f_X2_goBack h w = some ((), w') ∧ Fr (hset h) w w' ∧ HR (wI w') h (undoS S) := by
  obtain ⟨⟨r3, r4, r5, r6, r7, r8, r9, r10, r11⟩, RG, RQ, RP⟩ := id R
  have hn := I.n.2
  have h8 := I.2.2.2.1.2
  obtain ⟨u, hu1⟩ : ∃ u, un S = u + 1 := ⟨un S - 1, by omega⟩
  have eu : un S - 1 = u := by omega
  unfold f_X2_goBack
  rw [gI_t H.o, r3, I.2.2.2.1.1, if_pos (show (0 : Int32) < nI (un S) from nI_lt (a := 0) hu (by omega)), gI_t H.o, r3, I.2.2.2.1.1, hu1, pI_t H.o]
  have e7 : nI (u + 1) - 1 = nI u := nI_pred u
  rw [e7]
  have H1 : HS (sI w h 3 (nI u)) h := H.to ⟨rfl, rfl, rfl⟩
  rw [gI_t H1.o, wI_same, nm_t, show (17 : Int32) = nI 17 from rfl, pk_mul, Nat.mul_comm, show (1 : Int32) = nI 1 from rfl, show (2 : Int32) = nI 2 from rfl, show (3 : Int32) = nI 3 from rfl, show (4 : Int32) = nI 4 from rfl]
  simp only [nI_add]
  have b0 : ∀ k, k < 5 → inb w (h + 2) (nI (17 * u + k)) = true := fun k hk => inb_of H.n2 (by omega) (by decide)
  have b1 : inb w (h + 2) (nI (17 * u)) = true := inb_of H.n2 (by omega) (by decide)
  have c1 : (nI (17 * u)).toNatClampNeg = 17 * u := nI_clamp (by omega)
  have c2 : ∀ k, k < 5 → (nI (17 * u + k)).toNatClampNeg = 17 * u + k := fun k hk => nI_clamp (by omega)
  have ne : h + 2 ≠ h := by omega
  simp only [gR_t, pI_t, lI_t, isO_sI, wR_sI, inb_sI, H.o, H.o2, H.r2, Option.bind_some, b1, b0 1 (by decide), b0 2 (by decide), b0 3 (by decide), b0 4 (by decide), c1, c2 1 (by decide), c2 2 (by decide), c2 3 (by decide), c2 4 (by decide), wI_other ne]
  obtain ⟨a1, a2, a3, a4, a5, a6⟩ := RP u (by omega)
  rw [a1, a2, a3, a4, a5]
  generalize hw2 : sI (sI (sI (sI (sI (sI w h 3 (nI u)) h 10 (S (77 + 17 * u + 12))) h 11 (S (77 + 17 * u + 13))) h 9 (S (77 + 17 * u + 14))) h 7 (S (77 + 17 * u + 15))) h 8 (S (77 + 17 * u + 16)) = w2
  have H2 : HS w2 h := by rw [← hw2]; exact H.to ⟨rfl, rfl, rfl⟩
  have f2 : Fr (fun a => a = h) w w2 := by rw [← hw2]; exact (Fr.sI (A := fun a => a = h) rfl).tr ((Fr.sI (A := fun a => a = h) rfl).tr ((Fr.sI (A := fun a => a = h) rfl).tr ((Fr.sI (A := fun a => a = h) rfl).tr ((Fr.sI (A := fun a => a = h) rfl).tr (Fr.sI (A := fun a => a = h) rfl)))))
  have m4 : wI w2 h 4 = nI (nn S) := by rw [← hw2]; simp only [wI_sI]; simp; rw [r4]; exact I.n.1
  obtain ⟨w', q1, q2, q3, q4, q5⟩ := goBack_lp (h := h) hn (show u ≤ 7 by omega) (nn S) 0 4096 w2 H2 m4 (by omega) (by omega)
  have q1' : f_X2_goBack_86 4096 h (nI (17 * u)) 0 w2 = some ((), w') := q1
  refine ⟨w', q1', (f2.wk (fun a (ha : a = h) => (⟨by omega, by omega⟩ : hset h a))).tr (q2.wk (fun a ha => (⟨by omega, by omega⟩ : hset h a))), ?_⟩
  have fr : ∀ a, a ≠ h → a < h + 9 → wI w' a = wI w a := fun a h1 h2 => (q2.2.2 a (by omega)).trans (f2.2.2 a h1)
  have eh : wI w' h = wI w2 h := q2.2.2 h (by omega)
  have en : nn (undoS S) = nn S := by unfold nn; rw [undoS_o (by decide) (by decide)]
  have eun : un (undoS S) = u := by rw [un_of undoS_76 (by omega), eu]
  refine ⟨?_, fun g hg => ?_, HQ.tr RQ (fr _ (by omega) (by omega)) (fr _ (by omega) (by omega)) (fr _ (by omega) (by omega)) (fr _ (by omega) (by omega)) (fun j h1 h2 => undoS_o (by omega) (by omega)) I.2.1.2 I.2.2.1.2, fun p hp => ?_⟩
  · rw [eh, ← hw2]
    refine ⟨?_, ?_, ?_, ?_, ?_, ?_, ?_, ?_, ?_⟩
    · rw [undoS_76, eu]; simp [wI_sI]
    · rw [undoS_o (by decide) (by decide)]; simpa [wI_sI] using r4
    · rw [undoS_o (by decide) (by decide)]; simpa [wI_sI] using r5
    · rw [undoS_o (by decide) (by decide)]; simpa [wI_sI] using r6
    · rw [undoS_lo (by decide), eu]; simp [wI_sI]
    · rw [undoS_lo (by decide), eu]; simp [wI_sI]
    · rw [undoS_lo (by decide), eu]; simp [wI_sI]
    · rw [undoS_lo (by decide), eu]; simp [wI_sI]
    · rw [undoS_lo (by decide), eu]; simp [wI_sI]
  · rw [en] at hg
    obtain ⟨g1, g2, g3, g4, g5⟩ := RG g hg
    have g6 : g < 6 := by omega
    have e9 : wI w2 (h + 9 + g) = wI w (h + 9 + g) := f2.2.2 _ (by omega)
    have e2 : wI w2 (h + 2) = wI w (h + 2) := f2.2.2 _ (by omega)
    rw [q3 g g6 1 (by decide) (by decide), q3 g g6 2 (by decide) (by decide), q3 g g6 3 (by decide) (by decide), (q4 g (by omega) hg).1, (q4 g (by omega) hg).2, e9, e2, undoS_o (by omega) (by omega), undoS_o (by omega) (by omega), undoS_o (by omega) (by omega), undoS_lo (by omega), undoS_lo (by omega), eu]
    refine ⟨g1, g2, g3, (a6 g hg).1, ?_⟩
    rw [← Nat.add_assoc]
    exact (a6 g hg).2
  · rw [eun] at hp
    rw [en, fr (h + 2) (by omega) (by omega)]
    obtain ⟨b1, b2, b3, b4, b5, b6⟩ := RP p (by omega)
    refine ⟨?_, ?_, ?_, ?_, ?_, fun g hg => ?_⟩
    · rw [undoS_o (by omega) (by omega)]; exact b1
    · rw [undoS_o (by omega) (by omega)]; exact b2
    · rw [undoS_o (by omega) (by omega)]; exact b3
    · rw [undoS_o (by omega) (by omega)]; exact b4
    · rw [undoS_o (by omega) (by omega)]; exact b5
    · rw [undoS_o (by omega) (by omega), undoS_o (by omega) (by omega)]; exact b6 g hg
end P6
