/-! items of a text -/
def kfW (t : Nat → Nat) (L p : Nat) : Nat := if wmB t L p 0 = true then 0 else 5
def klW (t : Nat → Nat) (L p : Nat) : Nat := if wmB t L p 1 = true then 1 else if wmB t L p 2 = true then 2 else if wmB t L p 3 = true then 3 else if wmB t L p 4 = true then 4 else 5
/-- an item's body: at fault?, where, the row then -/
def ib1 (t : Nat → Nat) (L e : Nat) (lo hi : Int32) (S S' : Nat → Int32) : Bool × Nat × (Nat → Int32) := if nmO t L e lo hi = true then (false, nmE t L e, S') else (true, nmS t L e, S)
def ibG (t : Nat → Nat) (L : Nat) (S : Nat → Int32) (p : Nat) : Bool × Nat × (Nat → Int32) := if nn S = 6 then (true, p, S) else if nmO t L (tkE t L p) 0 5 = true then (if nmO t L (nmE t L (tkE t L p)) 1 9 = true then (if nmO t L (nmE t L (nmE t L (tkE t L p))) 0 40 = true then (false, nmE t L (nmE t L (nmE t L (tkE t L p))), addS S (nI (nmV t L (tkE t L p))) (nI (nmV t L (nmE t L (tkE t L p)))) (nI (nmV t L (nmE t L (nmE t L (tkE t L p)))))) else (true, nmS t L (nmE t L (nmE t L (tkE t L p))), S)) else (true, nmS t L (nmE t L (tkE t L p)), S)) else (true, nmS t L (tkE t L p), S)
def ibd (t : Nat → Nat) (L : Nat) (S : Nat → Int32) (p k : Nat) : Bool × Nat × (Nat → Int32) := if k = 0 then ib1 t L (tkE t L p) 0 99 S (newS (nI (nmV t L (tkE t L p)))) else if k = 1 then ibG t L S p else if k = 2 then ib1 t L (tkE t L p) 0 (nI (nn S) - 1) S (upd S 15 (nI (nmV t L (tkE t L p)))) else if k = 3 then ib1 t L (tkE t L p) 0 31 S (upd S 18 (nI (nmV t L (tkE t L p)))) else if k = 4 then ib1 t L (tkE t L p) 0 9 S (upd S 16 (nI (nmV t L (tkE t L p)))) else (true, p, S)
def endd (t : Nat → Nat) (L : Nat) (b : Bool × Nat × (Nat → Int32)) : Bool × Nat × (Nat → Int32) := if b.1 = true then b else if rn (txB t) L b.2.1 < L ∧ t (rn (txB t) L b.2.1) = 59 then (false, rn (txB t) L (rn (txB t) L b.2.1 + 1), b.2.2) else (true, rn (txB t) L b.2.1, b.2.2)
def itd (t : Nat → Nat) (L : Nat) (S : Nat → Int32) (p k : Nat) : Bool × Nat × (Nat → Int32) := endd t L (ibd t L S p k)
def pzd (t : Nat → Nat) (L : Nat) : Nat → (Nat → Int32) → Nat → Nat → (Bool × Nat × (Nat → Int32)) × Nat
  | 0, S, p, m => ((false, p, S), m)
  | n + 1, S, p, m => if p < L then (if (itd t L S p (klW t L p)).1 = true then (itd t L S p (klW t L p), m + 1) else pzd t L n (itd t L S p (klW t L p)).2.2 (itd t L S p (klW t L p)).2.1 (m + 1)) else ((false, p, S), m)
section PU
variable {t : Nat → Nat} {L p : Nat} {S : Nat → Int32} {K : Nat}
theorem nm_b3 (hp : p ≤ L) : p ≤ tkE t L p ∧ tkE t L p ≤ L ∧ tkE t L p ≤ nmS t L (tkE t L p) ∧ nmS t L (tkE t L p) ≤ L ∧ tkE t L p ≤ nmE t L (tkE t L p) ∧ nmE t L (tkE t L p) ≤ L := by
  obtain ⟨a, b⟩ := tkE_b (t := t) hp
  obtain ⟨c, d⟩ := nmS_b (t := t) b
  obtain ⟨e, f⟩ := nmE_b (t := t) b
  exact ⟨a, b, c, d, by omega, f⟩
theorem nm_b4 (hp : p ≤ L) : p ≤ nmS t L p ∧ nmS t L p ≤ L ∧ p ≤ nmE t L p ∧ nmE t L p ≤ L := by
  obtain ⟨c, d⟩ := nmS_b (t := t) hp
  obtain ⟨e, f⟩ := nmE_b (t := t) hp
  exact ⟨c, d, by omega, f⟩
theorem ib1_b {e : Nat} {lo hi : Int32} {S' : Nat → Int32} (he : e ≤ L) : e ≤ (ib1 t L e lo hi S S').2.1 ∧ (ib1 t L e lo hi S S').2.1 ≤ L := by
  obtain ⟨b1, b2, b3, b4⟩ := nm_b4 (t := t) he
  unfold ib1
  by_cases h : nmO t L e lo hi = true
  · rw [if_pos h]; exact ⟨b3, b4⟩
  · rw [if_neg h]; exact ⟨b1, b2⟩
theorem ibG_b (hp : p ≤ L) : p ≤ (ibG t L S p).2.1 ∧ (ibG t L S p).2.1 ≤ L := by
  obtain ⟨a1, a2, a3, a4, a5, a6⟩ := nm_b3 (t := t) hp
  obtain ⟨b1, b2, b3, b4⟩ := nm_b4 (t := t) a6
  obtain ⟨c1, c2, c3, c4⟩ := nm_b4 (t := t) b4
  unfold ibG
  by_cases h0 : nn S = 6
  · rw [if_pos h0]; exact ⟨Nat.le_refl _, hp⟩
  · rw [if_neg h0]
    by_cases h1 : nmO t L (tkE t L p) 0 5 = true
    · rw [if_pos h1]
      by_cases h2 : nmO t L (nmE t L (tkE t L p)) 1 9 = true
      · rw [if_pos h2]
        by_cases h3 : nmO t L (nmE t L (nmE t L (tkE t L p))) 0 40 = true
        · rw [if_pos h3]; exact ⟨by show p ≤ nmE t L (nmE t L (nmE t L (tkE t L p))); omega, c4⟩
        · rw [if_neg h3]; exact ⟨by show p ≤ nmS t L (nmE t L (nmE t L (tkE t L p))); omega, c2⟩
      · rw [if_neg h2]; exact ⟨by show p ≤ nmS t L (nmE t L (tkE t L p)); omega, b2⟩
    · rw [if_neg h1]; exact ⟨by show p ≤ nmS t L (tkE t L p); omega, a4⟩
theorem ibd_b (hp : p ≤ L) (k : Nat) : p ≤ (ibd t L S p k).2.1 ∧ (ibd t L S p k).2.1 ≤ L := by
  obtain ⟨a1, a2⟩ := tkE_b (t := t) hp
  have o : ∀ {lo hi : Int32} {S' : Nat → Int32}, p ≤ (ib1 t L (tkE t L p) lo hi S S').2.1 ∧ (ib1 t L (tkE t L p) lo hi S S').2.1 ≤ L := fun {lo hi S'} => by
    obtain ⟨x, y⟩ := ib1_b (t := t) (S := S) (lo := lo) (hi := hi) (S' := S') a2
    exact ⟨by omega, y⟩
  unfold ibd
  by_cases h0 : k = 0
  · rw [if_pos h0]; exact o
  · rw [if_neg h0]
    by_cases h1 : k = 1
    · rw [if_pos h1]; exact ibG_b hp
    · rw [if_neg h1]
      by_cases h2 : k = 2
      · rw [if_pos h2]; exact o
      · rw [if_neg h2]
        by_cases h3 : k = 3
        · rw [if_pos h3]; exact o
        · rw [if_neg h3]
          by_cases h4 : k = 4
          · rw [if_pos h4]; exact o
          · rw [if_neg h4]; exact ⟨Nat.le_refl _, hp⟩
theorem itd_b (hp : p ≤ L) (k : Nat) : (itd t L S p k).2.1 ≤ L ∧ ((itd t L S p k).1 = false → p < (itd t L S p k).2.1) := by
  obtain ⟨a, b⟩ := ibd_b (t := t) (S := S) hp k
  unfold itd endd
  generalize ibd t L S p k = r at a b
  obtain ⟨c, d⟩ := rn_b (P := txB t) b
  by_cases h1 : r.1 = true
  · rw [if_pos h1]
    exact ⟨b, fun q => by rw [h1] at q; exact absurd q (by decide)⟩
  · rw [if_neg h1]
    by_cases h2 : rn (txB t) L r.2.1 < L ∧ t (rn (txB t) L r.2.1) = 59
    · rw [if_pos h2]
      obtain ⟨e, f⟩ := rn_b (P := txB t) (L := L) (p := rn (txB t) L r.2.1 + 1) h2.1
      exact ⟨f, fun _ => by show p < rn (txB t) L (rn (txB t) L r.2.1 + 1); omega⟩
    · rw [if_neg h2]
      exact ⟨d, fun q => absurd q (by show ¬ true = false; decide)⟩
/-- nothing but what a text tells -/
def Zr (S : Nat → Int32) : Prop := ∀ j, j < 213 → ¬ (15 ≤ j ∧ j < 20) → ¬ (20 ≤ j ∧ j < 20 + nn S) → ¬ (26 ≤ j ∧ j < 26 + nn S) → ¬ (32 ≤ j ∧ j < 32 + nn S) → S j = 0
theorem newS_zr {x : Int32} : Zr (newS x) := fun j hj h1 _ _ _ => by
  unfold newS
  rw [if_neg (by omega), if_neg (by omega)]
theorem upd_zr {k : Nat} {x : Int32} (h : Zr S) (hk : k = 15 ∨ k = 16 ∨ k = 18) : Zr (upd S k x) := fun j hj h1 h2 h3 h4 => by
  have e : nn (upd S k x) = nn S := by unfold nn; rw [pk_un (by omega)]
  rw [e] at h2 h3 h4
  rw [pk_un (by omega)]
  exact h j hj h1 h2 h3 h4
theorem addS_zr {k r p : Int32} (hn : nn S ≤ 5) (h : Zr S) (h76 : S 76 = 0) : Zr (addS S k r p) := fun j hj h1 h2 h3 h4 => by
  rw [addS_nn hn] at h2 h3 h4
  by_cases e : j = 76
  · rw [e, addS_76]
  · unfold addS
    rw [pk_un e, pk_un (by omega), pk_un (by omega), pk_un (by omega), pk_un (by omega)]
    exact h j hj h1 (by omega) (by omega) (by omega)
theorem nm_rng {lo hi : Nat} (h : nmO t L p (nI lo) (nI hi) = true) (hp : p ≤ L) (hl : lo < 2 ^ 31) (hh : hi < 2 ^ 31) : lo ≤ nmV t L p ∧ nmV t L p ≤ hi := by
  obtain ⟨h1, h2, h3⟩ := of_decide_eq_true h
  have v := (num_val hp h1).2.2.2
  exact ⟨(nI_leI hl (by omega)).mp h2, (nI_leI (by omega) hh).mp h3⟩
theorem ib1_ok {e : Nat} {lo hi : Int32} {S' : Nat → Int32} (I : Iv S K) (Z : Zr S) (h : nmO t L e lo hi = true → Iv S' K ∧ Zr S') : Iv (ib1 t L e lo hi S S').2.2 K ∧ Zr (ib1 t L e lo hi S S').2.2 := by
  unfold ib1
  by_cases c : nmO t L e lo hi = true
  · rw [if_pos c]; exact h c
  · rw [if_neg c]; exact ⟨I, Z⟩
theorem ibG_ok (I : Iv S K) (Z : Zr S) (hp : p ≤ L) : Iv (ibG t L S p).2.2 K ∧ Zr (ibG t L S p).2.2 := by
  obtain ⟨a1, a2, a3, a4, a5, a6⟩ := nm_b3 (t := t) hp
  obtain ⟨b1, b2, b3, b4⟩ := nm_b4 (t := t) a6
  have hn := I.n.2
  unfold ibG
  by_cases h0 : nn S = 6
  · rw [if_pos h0]; exact ⟨I, Z⟩
  · rw [if_neg h0]
    by_cases h1 : nmO t L (tkE t L p) 0 5 = true
    · rw [if_pos h1]
      by_cases h2 : nmO t L (nmE t L (tkE t L p)) 1 9 = true
      · rw [if_pos h2]
        by_cases h3 : nmO t L (nmE t L (nmE t L (tkE t L p))) 0 40 = true
        · rw [if_pos h3]
          have v1 := nm_rng (lo := 0) (hi := 5) h1 a2 (by decide) (by decide)
          have v2 := nm_rng (lo := 1) (hi := 9) h2 a6 (by decide) (by decide)
          have v3 := nm_rng (lo := 0) (hi := 40) h3 b4 (by decide) (by decide)
          exact ⟨addS_iv I (by omega) (by omega) v2.1 v2.2 v3.2, addS_zr (by omega) Z (Z 76 (by decide) (by omega) (by omega) (by omega) (by omega))⟩
        · rw [if_neg h3]; exact ⟨I, Z⟩
      · rw [if_neg h2]; exact ⟨I, Z⟩
    · rw [if_neg h1]; exact ⟨I, Z⟩
theorem ibd_ok (I : Iv S K) (Z : Zr S) (hp : p ≤ L) (k : Nat) : Iv (ibd t L S p k).2.2 K ∧ Zr (ibd t L S p k).2.2 := by
  obtain ⟨a1, a2⟩ := tkE_b (t := t) hp
  have hn := I.n.2
  unfold ibd
  by_cases h0 : k = 0
  · rw [if_pos h0]
    exact ib1_ok I Z (fun h => ⟨newS_iv (by have := nm_rng (lo := 0) (hi := 99) h a2 (by decide) (by decide); omega) K, newS_zr⟩)
  · rw [if_neg h0]
    by_cases h1 : k = 1
    · rw [if_pos h1]; exact ibG_ok I Z hp
    · rw [if_neg h1]
      by_cases h2 : k = 2
      · rw [if_pos h2]
        refine ib1_ok I Z (fun h => ⟨I.s15 (Or.inr ?_), upd_zr Z (Or.inl rfl)⟩)
        obtain ⟨g1, g2, g3⟩ := of_decide_eq_true h
        have v := (num_val a2 g1).2.2.2
        by_cases z : nn S = 0
        · rw [z] at g3
          exact absurd (Int32.le_trans (nI_pos' (n := nmV t L (tkE t L p)) (by omega)) g3) (by decide)
        · obtain ⟨m, hm⟩ : ∃ m, nn S = m + 1 := ⟨nn S - 1, by omega⟩
          rw [hm, nI_pred] at g3
          have := (nI_leI (by omega) (by omega)).mp g3
          exact ⟨_, by omega, rfl⟩
      · rw [if_neg h2]
        by_cases h3 : k = 3
        · rw [if_pos h3]
          exact ib1_ok I Z (fun h => ⟨I.s18 (nm_rng (lo := 0) (hi := 31) h a2 (by decide) (by decide)).2, upd_zr Z (Or.inr (Or.inr rfl))⟩)
        · rw [if_neg h3]
          by_cases h4 : k = 4
          · rw [if_pos h4]
            exact ib1_ok I Z (fun h => ⟨I.s16 (nm_rng (lo := 0) (hi := 9) h a2 (by decide) (by decide)).2, upd_zr Z (Or.inr (Or.inl rfl))⟩)
          · rw [if_neg h4]; exact ⟨I, Z⟩
theorem endd_22 {b : Bool × Nat × (Nat → Int32)} : (endd t L b).2.2 = b.2.2 := by
  unfold endd
  split
  · rfl
  · split <;> rfl
theorem itd_ok (I : Iv S K) (Z : Zr S) (hp : p ≤ L) (k : Nat) : Iv (itd t L S p k).2.2 K ∧ Zr (itd t L S p k).2.2 := by
  unfold itd
  rw [endd_22]
  exact ibd_ok I Z hp k
end PU
/-! GrindMill: an item -/
def BP (w w2 : Wd) (h L : Nat) (t : Nat → Nat) (f : Int32) (a : Nat) (r : Bool × Nat × (Nat → Int32)) : Prop := CT w2 L t ∧ a ≤ L ∧ Fr (fun c => hset h c ∨ c = 70) w w2 ∧ (r.1 = true → f = nI r.2.1) ∧ (r.1 = false → f = -1 ∧ a = r.2.1 ∧ HR (wI w2) h r.2.2)
def IP (w w3 : Wd) (h L : Nat) (t : Nat → Nat) (r : Bool × Nat × (Nat → Int32)) : Prop := CT w3 L t ∧ Fr (fun c => hset h c ∨ c = 70) w w3 ∧ (r.1 = true → wI w3 70 2 = nI r.2.1) ∧ (r.1 = false → wI w3 70 2 = -1 ∧ wI w3 70 3 = nI r.2.1 ∧ HR (wI w3) h r.2.2)
section U2
variable {w w' : Wd} {h L p K : Nat} {t : Nat → Nat} {S : Nat → Int32}
theorem flI_m {x : Int32} : flI (-1) x = x := if_pos rfl
theorem flI_n {x : Nat} {y : Int32} (hx : x < 2 ^ 31) : flI (nI x) y = nI x := if_neg (nI_ne_m1 hx)
theorem tz_sI {f a x : Int32} {b k : Nat} (hb : b ≠ 70) : sI (tz w f a) b k x = tz (sI w b k x) f a := by
  unfold tz
  rw [sI_cW, sI_cW, cW_o hb, cW_comm (Ne.symm hb), cW_o (Ne.symm hb)]
theorem CT.s (C : CT w L t) {b k : Nat} {x : Int32} (hb : b ≠ 70) (hb2 : b ≠ 71) : CT (sI w b k x) L t := ⟨C.1.to ⟨rfl, rfl, rfl⟩, C.2.1, by rw [wI_other (Ne.symm hb)]; exact C.2.2.1, fun i hi => by rw [wI_other (Ne.symm hb2)]; exact C.2.2.2 i hi⟩
theorem CT.fr (C : CT w L t) {A : Nat → Prop} (f : Fr A w w') (h1 : ¬ A 71) (h2 : wI w' 70 1 = wI w 70 1) : CT w' L t := ⟨C.1.to f.1, C.2.1, by rw [h2]; exact C.2.2.1, by rw [f.2.2 71 h1]; exact C.2.2.2⟩
theorem HR.tz {f a : Int32} (R : HR (wI w) h S) (hn : nn S ≤ 6) (hh : h + 15 ≤ 70) : HR (wI (tz w f a)) h S := R.eq hn (fun k hk _ _ => tz_o (by omega))
theorem end_post {w2 : Wd} {f : Int32} {a : Nat} {r : Bool × Nat × (Nat → Int32)} (hr : r.2.1 ≤ L) (hn : nn r.2.2 ≤ 6) (hh : h + 15 ≤ 70) (B : BP w w2 h L t f a r) : ∃ w3, f_X10_readItemsEnd 70 (tz w2 f (nI a)) = some ((), w3) ∧ IP w w3 h L t (endd t L r) := by
  obtain ⟨C, ha, F, b1, b2⟩ := B
  have hL := C.2.1
  obtain ⟨e1, e2⟩ := rn_b (P := txB t) ha
  have F2 : ∀ {f a : Int32}, Fr (fun c => hset h c ∨ c = 70) w (tz w2 f a) := fun {f a} => F.tr (tz_fr.wk (fun c hc => Or.inr hc))
  refine ⟨_, itemsEnd_eq C ha, ?_⟩
  unfold endd
  by_cases h1 : r.1 = true
  · have ef := b1 h1
    rw [if_pos h1, ef, flI_n (by omega)]
    by_cases c : rn (txB t) L a < L ∧ t (rn (txB t) L a) = 59
    · rw [if_pos c]
      exact ⟨C.z, F2, fun _ => tz_2, fun q => by rw [h1] at q; exact absurd q (by decide)⟩
    · rw [if_neg c]
      exact ⟨C.z, F2, fun _ => tz_2, fun q => by rw [h1] at q; exact absurd q (by decide)⟩
  · obtain ⟨ef, ea, R⟩ := b2 (Bool.not_eq_true _ |>.mp h1)
    rw [if_neg h1, ← ea, ef, flI_m]
    by_cases c : rn (txB t) L a < L ∧ t (rn (txB t) L a) = 59
    · rw [if_pos c, if_pos c]
      exact ⟨C.z, F2, fun q => absurd q (by show ¬ false = true; decide), fun _ => ⟨tz_2, tz_3, R.tz hn hh⟩⟩
    · rw [if_neg c, if_neg c]
      exact ⟨C.z, F2, fun _ => tz_2, fun q => absurd q (by show ¬ true = false; decide)⟩
/-- one number that becomes one of the house's -/
theorem num_body (C : CT w L t) (H : HS w h) (R : HR (wI w) h S) (I : Iv S K) (hh : h + 15 ≤ 70) {e : Nat} (he : e ≤ L) (lo hi : Int32) {k j : Nat} (hk : (k = 5 ∧ j = 17) ∨ (k = 6 ∧ j = 18) ∨ (k = 7 ∧ j = 15) ∨ (k = 8 ∧ j = 16) ∨ (k = 11 ∧ j = 13)) : ∃ v w2 f, f_X10_readNumber 70 lo hi (tz w (-1) (nI e)) = some (v, tz w f (nI (nmE t L e))) ∧ pI (tz w f (nI (nmE t L e))) h 2 k v (fun w' => some ((), w')) = some ((), tz w2 f (nI (nmE t L e))) ∧ w2 = sI w h k v ∧ BP w w2 h L t f (nmE t L e) (ib1 t L e lo hi S (upd S j (nI (nmV t L e)))) := by
  unfold ib1
  obtain ⟨c1, c2, c3, c4⟩ := nm_b4 (t := t) he
  obtain ⟨v, ev, hv⟩ := readNumber_eq (f := -1) C he lo hi
  rw [flI_m] at ev
  have h70 : h ≠ 70 := by omega
  have h71 : h ≠ 71 := by omega
  have F : Fr (fun c => hset h c ∨ c = 70) w (sI w h k v) := Fr.sI (Or.inl ⟨by omega, by omega⟩)
  refine ⟨v, sI w h k v, _, ev, ?_, rfl, C.s h70 h71, c4, F, ?_, ?_⟩
  · rw [pI_t (H.to tz_fr.1).o, tz_sI h70]
  · intro q
    by_cases c : nmO t L e lo hi = true
    · rw [if_pos c] at q; exact absurd q (by show ¬ false = true; decide)
    · rw [if_neg c, if_neg c]
  · intro q
    by_cases c : nmO t L e lo hi = true
    · rw [if_pos c, if_pos c]
      refine ⟨rfl, rfl, ?_⟩
      rw [hv c]
      exact R.set I _ hk
    · rw [if_neg c] at q; exact absurd q (by show ¬ true = false; decide)
theorem goods_body (C : CT w L t) (H : HS w h) (R : HR (wI w) h S) (I : Iv S K) (hh : h + 15 ≤ 70) (hp : p ≤ L) : ∃ w2 f a, f_X10_readGoods 70 h (nI p) (tz w (-1) (nI (tkE t L p))) = some ((), tz w2 f (nI a)) ∧ BP w w2 h L t f a (ibG t L S p) := by
  have hN := I.n.2
  have hL := C.2.1
  obtain ⟨a1, a2, a3, a4, a5, a6⟩ := nm_b3 (t := t) hp
  obtain ⟨b1, b2, b3, b4⟩ := nm_b4 (t := t) a6
  obtain ⟨c1, c2, c3, c4⟩ := nm_b4 (t := t) b4
  have H' : HS (tz w (-1) (nI (tkE t L p))) h := H.to tz_fr.1
  have R' : HR (wI (tz w (-1) (nI (tkE t L p)))) h S := R.tz hN hh
  -- three numbers
  have three : ∀ f0 : Int32, ∃ v1 v2 v3, f_X10_readGoods_14 70 h (tz w f0 (nI (tkE t L p))) = (gI (tz w (if nmO t L (nmE t L (nmE t L (tkE t L p))) 0 40 = true then (if nmO t L (nmE t L (tkE t L p)) 1 9 = true then (if nmO t L (tkE t L p) 0 5 = true then f0 else flI f0 (nI (nmS t L (tkE t L p)))) else flI (if nmO t L (tkE t L p) 0 5 = true then f0 else flI f0 (nI (nmS t L (tkE t L p)))) (nI (nmS t L (nmE t L (tkE t L p))))) else flI (if nmO t L (nmE t L (tkE t L p)) 1 9 = true then (if nmO t L (tkE t L p) 0 5 = true then f0 else flI f0 (nI (nmS t L (tkE t L p)))) else flI (if nmO t L (tkE t L p) 0 5 = true then f0 else flI f0 (nI (nmS t L (tkE t L p)))) (nI (nmS t L (nmE t L (tkE t L p))))) (nI (nmS t L (nmE t L (nmE t L (tkE t L p)))))) (nI (nmE t L (nmE t L (nmE t L (tkE t L p)))))) 70 10 2 fun x7 => if x7 = (-1 : Int32) then calV (tz w (if nmO t L (nmE t L (nmE t L (tkE t L p))) 0 40 = true then (if nmO t L (nmE t L (tkE t L p)) 1 9 = true then (if nmO t L (tkE t L p) 0 5 = true then f0 else flI f0 (nI (nmS t L (tkE t L p)))) else flI (if nmO t L (tkE t L p) 0 5 = true then f0 else flI f0 (nI (nmS t L (tkE t L p)))) (nI (nmS t L (nmE t L (tkE t L p))))) else flI (if nmO t L (nmE t L (tkE t L p)) 1 9 = true then (if nmO t L (tkE t L p) 0 5 = true then f0 else flI f0 (nI (nmS t L (tkE t L p)))) else flI (if nmO t L (tkE t L p) 0 5 = true then f0 else flI f0 (nI (nmS t L (tkE t L p)))) (nI (nmS t L (nmE t L (tkE t L p))))) (nI (nmS t L (nmE t L (nmE t L (tkE t L p)))))) (nI (nmE t L (nmE t L (nmE t L (tkE t L p)))))) h 2 (f_X2_addGoods h v1 v2 v3 (tz w (if nmO t L (nmE t L (nmE t L (tkE t L p))) 0 40 = true then (if nmO t L (nmE t L (tkE t L p)) 1 9 = true then (if nmO t L (tkE t L p) 0 5 = true then f0 else flI f0 (nI (nmS t L (tkE t L p)))) else flI (if nmO t L (tkE t L p) 0 5 = true then f0 else flI f0 (nI (nmS t L (tkE t L p)))) (nI (nmS t L (nmE t L (tkE t L p))))) else flI (if nmO t L (nmE t L (tkE t L p)) 1 9 = true then (if nmO t L (tkE t L p) 0 5 = true then f0 else flI f0 (nI (nmS t L (tkE t L p)))) else flI (if nmO t L (tkE t L p) 0 5 = true then f0 else flI f0 (nI (nmS t L (tkE t L p)))) (nI (nmS t L (nmE t L (tkE t L p))))) (nI (nmS t L (nmE t L (nmE t L (tkE t L p)))))) (nI (nmE t L (nmE t L (nmE t L (tkE t L p))))))) fun _ w8 => f_X10_readGoods_56 w8 else f_X10_readGoods_56 (tz w (if nmO t L (nmE t L (nmE t L (tkE t L p))) 0 40 = true then (if nmO t L (nmE t L (tkE t L p)) 1 9 = true then (if nmO t L (tkE t L p) 0 5 = true then f0 else flI f0 (nI (nmS t L (tkE t L p)))) else flI (if nmO t L (tkE t L p) 0 5 = true then f0 else flI f0 (nI (nmS t L (tkE t L p)))) (nI (nmS t L (nmE t L (tkE t L p))))) else flI (if nmO t L (nmE t L (tkE t L p)) 1 9 = true then (if nmO t L (tkE t L p) 0 5 = true then f0 else flI f0 (nI (nmS t L (tkE t L p)))) else flI (if nmO t L (tkE t L p) 0 5 = true then f0 else flI f0 (nI (nmS t L (tkE t L p)))) (nI (nmS t L (nmE t L (tkE t L p))))) (nI (nmS t L (nmE t L (nmE t L (tkE t L p)))))) (nI (nmE t L (nmE t L (nmE t L (tkE t L p))))))) ∧ (nmO t L (tkE t L p) 0 5 = true → v1 = nI (nmV t L (tkE t L p))) ∧ (nmO t L (nmE t L (tkE t L p)) 1 9 = true → v2 = nI (nmV t L (nmE t L (tkE t L p)))) ∧ (nmO t L (nmE t L (nmE t L (tkE t L p))) 0 40 = true → v3 = nI (nmV t L (nmE t L (nmE t L (tkE t L p))))) := by
    intro f0
    obtain ⟨v1, ev1, hv1⟩ := readNumber_eq (f := f0) C a2 0 5
    obtain ⟨v2, ev2, hv2⟩ := readNumber_eq (f := if nmO t L (tkE t L p) 0 5 = true then f0 else flI f0 (nI (nmS t L (tkE t L p)))) C a6 1 9
    obtain ⟨v3, ev3, hv3⟩ := readNumber_eq (f := if nmO t L (nmE t L (tkE t L p)) 1 9 = true then (if nmO t L (tkE t L p) 0 5 = true then f0 else flI f0 (nI (nmS t L (tkE t L p)))) else flI (if nmO t L (tkE t L p) 0 5 = true then f0 else flI f0 (nI (nmS t L (tkE t L p)))) (nI (nmS t L (nmE t L (tkE t L p))))) C b4 0 40
    refine ⟨v1, v2, v3, ?_, hv1, hv2, hv3⟩
    unfold f_X10_readGoods_14
    rw [C.z.c, ev1, cal_t, C.z.c, ev2, cal_t, C.z.c, ev3, cal_t]
  have bad : ∀ (x : Nat) (r : Bool × Nat × (Nat → Int32)), r = (true, x, S) → x ≤ L → BP w w h L t (nI x) (nmE t L (nmE t L (nmE t L (tkE t L p)))) r := fun x r e hx => by
    rw [e]
    exact ⟨C, c4, Fr.rf w, fun _ => rfl, fun q => absurd q (by show ¬ true = false; decide)⟩
  unfold f_X10_readGoods ibG
  rw [gI_t H'.o, R'.1.2.1, I.n.1]
  by_cases h6 : nn S = 6
  · obtain ⟨v1, v2, v3, e, -, -, -⟩ := three (nI p)
    simp only [flI_n (show p < 2 ^ 31 by omega), ite_self] at e
    rw [C.z.g, tz_2, if_neg (nI_ne_m1 (by omega)), f_X10_readGoods_56] at e
    refine ⟨w, nI p, nmE t L (nmE t L (nmE t L (tkE t L p))), ?_, ?_⟩
    · rw [h6, if_neg (by decide), C.z.c, failAt_eq C, cal_t, flI_m, e]
    · rw [if_pos h6]
      exact bad p _ rfl hp
  · obtain ⟨v1, v2, v3, e, hv1, hv2, hv3⟩ := three (-1)
    rw [if_pos (show nI (nn S) < (6 : Int32) from nI_lt (b := 6) (by omega) (by decide)), if_neg h6]
    by_cases o1 : nmO t L (tkE t L p) 0 5 = true
    · rw [if_pos o1]
      simp only [if_pos o1] at e
      by_cases o2 : nmO t L (nmE t L (tkE t L p)) 1 9 = true
      · rw [if_pos o2]
        simp only [if_pos o2] at e
        by_cases o3 : nmO t L (nmE t L (nmE t L (tkE t L p))) 0 40 = true
        · rw [if_pos o3]
          simp only [if_pos o3] at e
          rw [C.z.g, tz_2, if_pos rfl] at e
          have H2 : HS (tz w (-1) (nI (nmE t L (nmE t L (nmE t L (tkE t L p)))))) h := H.to tz_fr.1
          have R2 : HR (wI (tz w (-1) (nI (nmE t L (nmE t L (nmE t L (tkE t L p))))))) h S := R.tz hN hh
          obtain ⟨w2, g1, g2, g3⟩ := addGoods_row H2 R2 I (by omega) v1 v2 v3
          have no : ¬ hset h 70 := fun q => by unfold hset at q; omega
          have no1 : ¬ hset h 71 := fun q => by unfold hset at q; omega
          have e2 : wI w2 70 2 = -1 := by rw [g2.2.2 70 no, tz_2]
          have e3 : wI w2 70 3 = nI (nmE t L (nmE t L (nmE t L (tkE t L p)))) := by rw [g2.2.2 70 no, tz_3]
          have id : tz w2 (-1) (nI (nmE t L (nmE t L (nmE t L (tkE t L p))))) = w2 := by rw [← e2, ← e3]; exact tz_id
          refine ⟨w2, -1, nmE t L (nmE t L (nmE t L (tkE t L p))), ?_, ?_⟩
          · rw [id, e, calV_t H2.o, g1, cal_t, f_X10_readGoods_56]
          · refine ⟨C.z.fr g2 no1 (by rw [g2.2.2 70 no]), c4, (tz_fr.wk (fun c hc => Or.inr hc)).tr (g2.wk (fun c hc => Or.inl hc)), fun q => absurd q (by show ¬ false = true; decide), fun _ => ⟨rfl, rfl, ?_⟩⟩
            rw [hv1 o1, hv2 o2, hv3 o3] at g3
            exact g3
        · rw [if_neg o3]
          simp only [if_neg o3, flI_m] at e
          rw [C.z.g, tz_2, if_neg (nI_ne_m1 (by omega)), f_X10_readGoods_56] at e
          exact ⟨w, _, _, e, bad _ _ rfl c2⟩
      · rw [if_neg o2]
        simp only [if_neg o2, flI_m, flI_n (show nmS t L (nmE t L (tkE t L p)) < 2 ^ 31 by omega), ite_self] at e
        rw [C.z.g, tz_2, if_neg (nI_ne_m1 (by omega)), f_X10_readGoods_56] at e
        exact ⟨w, _, _, e, bad _ _ rfl b2⟩
    · rw [if_neg o1]
      simp only [if_neg o1, flI_m, flI_n (show nmS t L (tkE t L p) < 2 ^ 31 by omega), ite_self] at e
      rw [C.z.g, tz_2, if_neg (nI_ne_m1 (by omega)), f_X10_readGoods_56] at e
      exact ⟨w, _, _, e, bad _ _ rfl a4⟩
end U2
