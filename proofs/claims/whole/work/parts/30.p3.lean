/-! what a house does, as changes of the row -/
theorem irm_nat {t d : Nat} (ht : t < 2 ^ 31) (h0 : 0 < d) (hd : d < 2 ^ 31) : irm (nI t) (nI d) = nI (t % d) := pk_rem ht h0 hd
theorem gk_nat {k r t c : Nat} (hk : k < 6) (hr : r ≤ 9) (ht : t < 2 ^ 31) (hc : c ≤ 9) : ∃ v, v ≤ 12 ∧ gk k (nI r) (nI t) (nI c) = nI v := by
  have hs : ∃ v, v ≤ 9 ∧ (if nI c < 5 then nI r else (nI r + 1) / 2) = nI v := by
    by_cases h : nI c < 5
    · exact ⟨r, hr, by rw [if_pos h]⟩
    · refine ⟨(r + 1) / 2, by omega, ?_⟩
      rw [if_neg h, nI_1, show (2 : Int32) = nI 2 from rfl, pk_div (by omega) (by decide) (by decide)]
  obtain ⟨v, hv, e⟩ := hs
  rcases six hk with rfl | rfl | rfl | rfl | rfl | rfl
  · exact ⟨r, by omega, rfl⟩
  · exact ⟨v, by omega, e⟩
  · exact ⟨r, by omega, rfl⟩
  · refine ⟨r + t % 4, by omega, ?_⟩
    show nI r + irm (nI t) 4 = _
    rw [show (4 : Int32) = nI 4 from rfl, irm_nat ht (by decide) (by decide), nI_add]
  · refine ⟨v + 1, by omega, ?_⟩
    show (if nI c < 5 then nI r else (nI r + 1) / 2) + 1 = _
    rw [e, nI_1]
  · exact ⟨0, by omega, rfl⟩
theorem sm32_cong {f g : Nat → Int32} : ∀ {n : Nat}, (∀ k, k < n → f k = g k) → sm32 f n = sm32 g n
  | 0, _ => rfl
  | n + 1, h => by rw [sm32, sm32, sm32_cong (fun k hk => h k (by omega)), h n (by omega)]
theorem sm32_zero {f : Nat → Int32} {n : Nat} : ∀ d, (∀ k, n ≤ k → k < n + d → f k = 0) → sm32 f (n + d) = sm32 f n
  | 0, _ => rfl
  | d + 1, h => by
    rw [← Nat.add_assoc, sm32, sm32_zero d (fun k h1 h2 => h k h1 (by omega)), h (n + d) (by omega) (by omega)]
    exact Int32.add_zero _
theorem sm32_nat {f : Nat → Int32} {b : Nat → Nat} (h : ∀ g, g < 6 → f g = nI (b g)) : sm32 f 6 = nI (b 0 + b 1 + b 2 + b 3 + b 4 + b 5) := by
  simp only [sm32]
  rw [h 0 (by decide), h 1 (by decide), h 2 (by decide), h 3 (by decide), h 4 (by decide), h 5 (by decide)]
  rw [show (0 : Int32) = nI 0 from rfl]
  simp only [nI_add, Nat.zero_add]
/-- the BUSHELS of a part -/
def bsum (q : Nat → Int32) : Int32 := sm32 q 6
def mny (S q : Nat → Int32) (g : Nat) : Int32 := gk (S (20 + g)).toNatClampNeg (S (26 + g)) (q 14) (q 16)
def sty (Hd : Int32) (q : Nat → Int32) (many : Int32) : Int32 := if many < Hd - bsum q then many else Hd - bsum q
def pasG (Hd : Int32) (q : Nat → Int32) (g : Nat) (many : Int32) : Nat → Int32 := fun j => if j = g then q g + sty Hd q many else if j = 12 then q 12 + (many - sty Hd q many) else if j = 14 then q 14 + 1 else q j
def pasN (q : Nat → Int32) : Nat → Int32 := fun j => if j = 14 then q 14 + 1 else q j
/-- one HOUR of a part, grinding x: what is ground, and the part then -/
def manyO (S q : Nat → Int32) (x : Int32) : Int32 := if x = -1 then 0 else mny S q x.toNatClampNeg
def pasO (S : Nat → Int32) (Hd : Int32) (q : Nat → Int32) (x : Int32) : Nat → Int32 := if x = -1 then pasN q else pasG Hd q x.toNatClampNeg (mny S q x.toNatClampNeg)
theorem nI_ne_m1 {g : Nat} (h : g < 2 ^ 31) : ¬ nI g = -1 := fun e => by
  have h1 := nI_pos (n := g) h
  rw [e] at h1
  exact h1 (by decide)
theorem manyO_g {S q : Nat → Int32} {g : Nat} (h : g < 2 ^ 31) : manyO S q (nI g) = mny S q g := by unfold manyO; rw [if_neg (nI_ne_m1 h), nI_clamp h]
theorem pasO_g {S : Nat → Int32} {Hd : Int32} {q : Nat → Int32} {g : Nat} (h : g < 2 ^ 31) : pasO S Hd q (nI g) = pasG Hd q g (mny S q g) := by unfold pasO; rw [if_neg (nI_ne_m1 h), nI_clamp h]
theorem mmin_sty {Hd a b : Int32} {q : Nat → Int32} (h : b = bsum q) : f_mmin a (Hd - b) = sty Hd q a := by
  unfold f_mmin sty
  rw [h]
  by_cases h1 : Hd - bsum q < a
  · rw [if_pos h1, if_neg (fun h2 => Int32.lt_irrefl (Int32.lt_trans h1 h2))]
  · rw [if_neg h1]
    by_cases h2 : a < Hd - bsum q
    · rw [if_pos h2]
    · rw [if_neg h2]
      exact Int32.le_antisymm (Int32.not_lt.mp h1) (Int32.not_lt.mp h2)
section P3
variable {w : Wd} {h : Nat} {S : Nat → Int32} {K : Nat}
theorem Iv.n (I : Iv S K) : S 19 = nI (nn S) ∧ nn S ≤ 6 := I.1
theorem Iv.q4 (I : Iv S K) : nn S ≤ 6 ∧ gn S ≤ 6 ∧ tn S ≤ 6 ∧ un S ≤ 8 := ⟨I.1.2, I.2.1.2, I.2.2.1.2, I.2.2.2.1.2⟩
theorem Iv.pv (I : Iv S K) : Pv (nn S) (S 17) K S := I.2.2.2.2.2.2.2.1
theorem HR.all (R : HR (wI w) h S) (I : Iv S K) : sm32 (fun g => wI w (h + 9 + g) 4) (nn S) = bsum S := by
  rw [sm32_cong (g := S) (fun g hg => (R.2.1 g hg).2.2.2.1)]
  have := sm32_zero (f := S) (n := nn S) (6 - nn S) (fun g h1 h2 => (I.pv.2.1 g h1 (by omega)).1)
  rw [← this]
  unfold bsum
  rw [show nn S + (6 - nn S) = 6 by have := I.n.2; omega]
theorem allB_row (H : HS w h) (R : HR (wI w) h S) (I : Iv S K) : f_X2_allBushels h w = some (bsum S, w) := by
  rw [allB_eq H I.n.2 (by rw [R.1.2.1]; exact I.n.1), R.all I]
theorem HR.kind (R : HR (wI w) h S) (I : Iv S K) {g : Nat} (hg : g < nn S) : ∃ k, k < 6 ∧ wI w (h + 9 + g) 1 = nI k ∧ (S (20 + g)).toNatClampNeg = k := by
  obtain ⟨k, r, p, hk, -, -, -, e1, -, -⟩ := I.2.2.2.2.2.2.1 g hg
  exact ⟨k, hk, by rw [(R.2.1 g hg).1]; exact e1, by rw [e1, nI_clamp (by omega)]⟩
theorem groundBy_row (H : HS w h) (R : HR (wI w) h S) (I : Iv S K) {g : Nat} (hg : g < nn S) (hh : Int32) : f_X2_groundBy h (nI g) hh w = some (gk (S (20 + g)).toNatClampNeg (S (26 + g)) hh (S 16), w) := by
  obtain ⟨k, hk, e1, e2⟩ := R.kind I hg
  rw [groundBy_yes H I.n.2 (by rw [R.1.2.1]; exact I.n.1) hg hk e1, e2, (R.2.1 g hg).2.1, R.1.2.2.2.2.2.1]
theorem m1_no {n : Nat} (hn : n ≤ 6) : ¬ hasg n (-1) := fun ⟨g, hg, e⟩ => nI_ne_m1 (by omega) e.symm
theorem groundBy_none (H : HS w h) (R : HR (wI w) h S) (I : Iv S K) {x : Int32} (hg : ¬ hasg (nn S) x) (hh : Int32) : f_X2_groundBy h x hh w = some (0, w) :=
  groundBy_no H I.n.2 (by rw [R.1.2.1]; exact I.n.1) hg hh
/-- a part's BUSHELS fit -/
theorem Pv.room {n : Nat} {Hd : Int32} {q : Nat → Int32} (P : Pv n Hd K q) {Hn : Nat} (hH : Hd = nI Hn) (hl : Hn ≤ 200) : ∃ b, b ≤ Hn ∧ bsum q = nI b ∧ Hd - bsum q = nI (Hn - b) := by
  obtain ⟨⟨b, b1, b2⟩, -⟩ := P
  rw [hH, nI_clamp (by omega)] at b2
  refine ⟨_, b2, sm32_nat b1, ?_⟩
  unfold bsum
  rw [hH, sm32_nat b1, pk_sub b2]
theorem mny_nat {q : Nat → Int32} (I : Iv S K) (P : Pv (nn S) (S 17) K q) (hK : K < 2 ^ 31) {g : Nat} (hg : g < nn S) : ∃ v, v ≤ 12 ∧ mny S q g = nI v := by
  obtain ⟨k, r, p, hk, -, hr, -, e1, e2, -⟩ := I.2.2.2.2.2.2.1 g hg
  obtain ⟨-, -, -, ⟨c, hc, ec⟩, ⟨t, ht, et⟩⟩ := P
  unfold mny
  rw [e1, e2, ec, et, nI_clamp (by omega)]
  exact gk_nat hk hr (by omega) hc
theorem bsum_up {q : Nat → Int32} {b : Nat → Nat} {g v : Nat} (hg : g < 6) : (fun j => if j = g then b j + v else b j) 0 + (fun j => if j = g then b j + v else b j) 1 + (fun j => if j = g then b j + v else b j) 2 + (fun j => if j = g then b j + v else b j) 3 + (fun j => if j = g then b j + v else b j) 4 + (fun j => if j = g then b j + v else b j) 5 = b 0 + b 1 + b 2 + b 3 + b 4 + b 5 + v := by
  rcases six hg with rfl | rfl | rfl | rfl | rfl | rfl <;> simp <;> omega
/-- a part stays one, an HOUR later -/
theorem pas_pv {q : Nat → Int32} (I : Iv S K) (P : Pv (nn S) (S 17) K q) (hK : K < 2 ^ 31) {x : Int32} (hx : x = -1 ∨ hasg (nn S) x) : Pv (nn S) (S 17) (K + 1) (pasO S (S 17) q x) := by
  obtain ⟨Hn, hH, eH⟩ := I.2.2.2.2.1
  have hn := I.n.2
  rcases hx with rfl | ⟨g, hg, rfl⟩
  · have e : pasO S (S 17) q (-1) = pasN q := rfl
    rw [e]
    obtain ⟨⟨b, b1, b2⟩, h2, h3, h4, t, ht, et⟩ := P
    refine ⟨⟨b, fun g hg => ?_, b2⟩, fun g h1 hg => ⟨?_, ?_⟩, ?_, ?_, ⟨t + 1, by omega, ?_⟩⟩
    · unfold pasN; rw [if_neg (by omega)]; exact b1 g hg
    · unfold pasN; rw [if_neg (by omega)]; exact (h2 g h1 hg).1
    · unfold pasN; rw [if_neg (by omega)]; exact (h2 g h1 hg).2
    · exact h3
    · exact h4
    · show q 14 + 1 = _
      rw [et, nI_1]
  · obtain ⟨v, hv, ev⟩ := mny_nat I P hK hg
    obtain ⟨b0, hb0, eb, er⟩ := P.room eH hH
    rw [pasO_g (by omega)]
    obtain ⟨y, hy, ey⟩ : ∃ y, y ≤ Hn - b0 ∧ sty (S 17) q (mny S q g) = nI y := by
      unfold sty
      rw [er, ev]
      by_cases h1 : nI v < nI (Hn - b0)
      · exact ⟨v, Nat.le_of_lt ((nI_ltI (by omega) (by omega)).mp h1), by rw [if_pos h1]⟩
      · exact ⟨Hn - b0, Nat.le_refl _, by rw [if_neg h1]⟩
    obtain ⟨⟨b, b1, b2⟩, h2, h3, h4, t, ht, et⟩ := P
    have eb2 : b 0 + b 1 + b 2 + b 3 + b 4 + b 5 = b0 := by
      have h9 : nI (b 0 + b 1 + b 2 + b 3 + b 4 + b 5) = nI b0 := by rw [← sm32_nat b1]; exact eb
      rw [eH, nI_clamp (by omega)] at b2
      exact (nI_eq (by omega) (by omega)).mp h9
    refine ⟨⟨fun j => if j = g then b j + y else b j, fun j hj => ?_, ?_⟩, fun j h1 hj => ⟨?_, ?_⟩, ?_, ?_, ⟨t + 1, by omega, ?_⟩⟩
    · unfold pasG
      by_cases hjg : j = g
      · rw [if_pos hjg, hjg]
        simp only [if_true]
        rw [ey, b1 g (by omega), nI_add]
      · rw [if_neg hjg, if_neg (by omega), if_neg (by omega)]
        simp only [hjg, if_false]
        exact b1 j hj
    · rw [bsum_up (q := q) (by omega), eb2, eH, nI_clamp (by omega)]
      omega
    · unfold pasG; rw [if_neg (by omega), if_neg (by omega), if_neg (by omega)]; exact (h2 j h1 hj).1
    · unfold pasG; rw [if_neg (by omega), if_neg (by omega), if_neg (by omega)]; exact (h2 j h1 hj).2
    · show (if 15 = g then _ else if 15 = 12 then _ else if 15 = 14 then _ else q 15) = -1 ∨ hasg _ (if 15 = g then _ else if 15 = 12 then _ else if 15 = 14 then _ else q 15)
      rw [if_neg (by omega), if_neg (by decide), if_neg (by decide)]
      exact h3
    · show ∃ c, c ≤ 9 ∧ (if 16 = g then _ else if 16 = 12 then _ else if 16 = 14 then _ else q 16) = nI c
      rw [if_neg (by omega), if_neg (by decide), if_neg (by decide)]
      exact h4
    · show (if 14 = g then _ else if 14 = 12 then _ else if 14 = 14 then q 14 + 1 else q 14) = _
      rw [if_neg (by omega), if_neg (by decide), if_pos rfl, et, nI_1]
/-- the row behind an HOUR -/
theorem pas_o {q : Nat → Int32} {Hd : Int32} {x : Int32} (hx : x = -1 ∨ hasg (nn S) x) (hn : nn S ≤ 6) {j : Nat} (hj : 15 ≤ j) : pasO S Hd q x j = q j := by
  rcases hx with rfl | ⟨g, hg, rfl⟩
  · show pasN q j = q j
    unfold pasN; rw [if_neg (by omega)]
  · rw [pasO_g (by omega)]
    unfold pasG; rw [if_neg (by omega), if_neg (by omega), if_neg (by omega)]
theorem pas_iv (I : Iv S K) (hK : K < 2 ^ 31) : Iv (pasO S (S 17) S (S 15)) (K + 1) := by
  have hx := I.pv.2.2.1
  have hn := I.n.2
  have e : ∀ j, 15 ≤ j → pasO S (S 17) S (S 15) j = S j := fun j hj => pas_o hx hn hj
  have hP := pas_pv I I.pv hK hx
  have I2 := I.mono (Nat.le_succ K)
  have e1 : nn (pasO S (S 17) S (S 15)) = nn S := by unfold nn; rw [e 19 (by decide)]
  have e2 : gn (pasO S (S 17) S (S 15)) = gn S := by unfold gn; rw [e 38 (by decide)]
  have e3 : tn (pasO S (S 17) S (S 15)) = tn S := by unfold tn; rw [e 51 (by decide)]
  have e4 : un (pasO S (S 17) S (S 15)) = un S := by unfold un; rw [e 76 (by decide)]
  obtain ⟨h1, h2, h3, h4, h5, h6, h7, h8, h9, h10⟩ := I2
  refine ⟨by rw [e1, e 19 (by decide)]; exact h1, by rw [e2, e 38 (by decide)]; exact h2, by rw [e3, e 51 (by decide)]; exact h3, by rw [e4, e 76 (by decide)]; exact h4, by rw [e 17 (by decide)]; exact h5, by rw [e 18 (by decide)]; exact h6, fun g hg => ?_, ?_, fun p hp => ?_, fun i hi => ?_⟩
  · rw [e1] at hg
    rw [e (20 + g) (by omega), e (26 + g) (by omega), e (32 + g) (by omega)]
    exact h7 g hg
  · rw [e1, e 17 (by decide)]; exact hP
  · rw [e4] at hp
    rw [e1, e 17 (by decide)]
    exact (h9 p hp).ext (fun j hj => e _ (by omega))
  · rw [e2] at hi
    rw [e (39 + 2 * i) (by omega), e (40 + 2 * i) (by omega)]
    exact h10 i hi
end P3
