/-! a house told by a text: runs of bytes -/
def runF (P : Nat → Bool) : Nat → Nat → Nat
  | 0, p => p
  | d + 1, p => if P p = true then runF P d (p + 1) else p
def rn (P : Nat → Bool) (L p : Nat) : Nat := runF P (L - p) p
def txB (t : Nat → Nat) (q : Nat) : Bool := decide (t q = 32)
def txL (t : Nat → Nat) (q : Nat) : Bool := decide (97 ≤ t q ∧ t q ≤ 122)
def txF (t : Nat → Nat) (q : Nat) : Bool := decide (48 ≤ t q ∧ t q ≤ 57)
theorem runF_b {P : Nat → Bool} : ∀ (d p : Nat), p ≤ runF P d p ∧ runF P d p ≤ p + d
  | 0, p => ⟨Nat.le_refl _, Nat.le_refl _⟩
  | d + 1, p => by
    obtain ⟨a, b⟩ := runF_b (P := P) d (p + 1)
    rw [runF]
    split <;> omega
theorem runF_in {P : Nat → Bool} : ∀ (d p q : Nat), p ≤ q → q < runF P d p → P q = true
  | 0, p, q, h1, h2 => by rw [runF] at h2; omega
  | d + 1, p, q, h1, h2 => by
    rw [runF] at h2
    by_cases h : P p = true
    · rw [if_pos h] at h2
      by_cases e : q = p
      · rw [e]; exact h
      · exact runF_in d (p + 1) q (by omega) h2
    · rw [if_neg h] at h2; omega
theorem rn_b {P : Nat → Bool} {L p : Nat} (h : p ≤ L) : p ≤ rn P L p ∧ rn P L p ≤ L := by
  obtain ⟨a, b⟩ := runF_b (P := P) (L - p) p
  unfold rn
  omega
theorem rn_s {P : Nat → Bool} {L p : Nat} (h : p < L) : rn P L p = if P p = true then rn P L (p + 1) else p := by
  unfold rn
  rw [show L - p = (L - (p + 1)) + 1 by omega, runF]
theorem rn_L {P : Nat → Bool} {L : Nat} : rn P L L = L := by
  unfold rn
  rw [Nat.sub_self, runF]
theorem rn_in {P : Nat → Bool} {L p q : Nat} (h1 : p ≤ q) (h2 : q < rn P L p) : P q = true := runF_in _ _ _ h1 h2
/-- the end of the token at p -/
def tkE (t : Nat → Nat) (L p : Nat) : Nat := if p < L then (if txL t p = true then rn (txL t) L (p + 1) else if txF t p = true then rn (txF t) L (p + 1) else p + 1) else p
theorem tkE_b {t : Nat → Nat} {L p : Nat} (h : p ≤ L) : p ≤ tkE t L p ∧ tkE t L p ≤ L := by
  unfold tkE
  by_cases c : p < L
  · have a := rn_b (P := txL t) (L := L) (p := p + 1) c
    have b := rn_b (P := txF t) (L := L) (p := p + 1) c
    rw [if_pos c]
    split
    · omega
    · split <;> omega
  · rw [if_neg c]; omega
def nmS (t : Nat → Nat) (L p : Nat) : Nat := rn (txB t) L p
def nmE (t : Nat → Nat) (L p : Nat) : Nat := rn (txF t) L (nmS t L p)
def nmV (t : Nat → Nat) (L p : Nat) : Nat := if nmE t L p = nmS t L p + 2 then 10 * (t (nmS t L p) - 48) + (t (nmS t L p + 1) - 48) else t (nmS t L p) - 48
def nmO (t : Nat → Nat) (L p : Nat) (lo hi : Int32) : Bool := decide ((nmE t L p = nmS t L p + 1 ∨ nmE t L p = nmS t L p + 2) ∧ lo ≤ nI (nmV t L p) ∧ nI (nmV t L p) ≤ hi)
theorem nmS_b {t : Nat → Nat} {L p : Nat} (h : p ≤ L) : p ≤ nmS t L p ∧ nmS t L p ≤ L := rn_b h
theorem nmE_b {t : Nat → Nat} {L p : Nat} (h : p ≤ L) : nmS t L p ≤ nmE t L p ∧ nmE t L p ≤ L := rn_b (nmS_b h).2
def numF (t : Nat → Nat) : Nat → Nat → Nat → Nat
  | 0, _, a => a
  | d + 1, q, a => if txF t q = true then numF t d (q + 1) (min 1000 (a * 10 + (t q - 48))) else a
theorem numF_le {t : Nat → Nat} : ∀ (d q a : Nat), a ≤ 1000 → numF t d q a ≤ 1000
  | 0, _, _, h => h
  | d + 1, q, a, h => by
    rw [numF]
    split
    · exact numF_le d (q + 1) _ (by omega)
    · exact h
theorem numF_end {t : Nat → Nat} {q a : Nat} : ∀ (d : Nat), runF (txF t) d q = q → numF t d q a = a
  | 0, _ => rfl
  | d + 1, h => by
    rw [runF] at h
    rw [numF]
    by_cases c : txF t q = true
    · rw [if_pos c] at h
      have := (runF_b (P := txF t) d (q + 1)).1
      omega
    · rw [if_neg c]
theorem txF_le {t : Nat → Nat} {q : Nat} (h : txF t q = true) : 48 ≤ t q ∧ t q ≤ 57 := of_decide_eq_true h
theorem num_val {t : Nat → Nat} {L p : Nat} (hp : p ≤ L) (h : nmE t L p = nmS t L p + 1 ∨ nmE t L p = nmS t L p + 2) : numF t (L - nmS t L p) (nmS t L p) 0 = nmV t L p ∧ txF t (nmS t L p) = true ∧ nmS t L p < L ∧ nmV t L p ≤ 99 := by
  obtain ⟨b1, b2⟩ := nmE_b (t := t) hp
  obtain ⟨c1, c2⟩ := nmS_b (t := t) hp
  have sL : nmS t L p < L := by omega
  unfold nmV
  have hE : nmE t L p = runF (txF t) (L - nmS t L p) (nmS t L p) := rfl
  generalize nmE t L p = e at *
  generalize nmS t L p = s at *
  obtain ⟨d, ed⟩ : ∃ d, L - s = d + 1 := ⟨L - s - 1, by omega⟩
  rw [ed, runF] at hE
  by_cases f0 : txF t s = true
  · have v0 := txF_le f0
    rw [if_pos f0] at hE
    rw [ed, numF, if_pos f0, Nat.zero_mul, Nat.zero_add, Nat.min_eq_right (by omega)]
    rcases h with h | h
    · rw [if_neg (by omega), numF_end d (by omega)]
      exact ⟨rfl, f0, sL, by omega⟩
    · rw [if_pos h]
      cases d with
      | zero => rw [runF] at hE; omega
      | succ d =>
        rw [runF] at hE
        by_cases f1 : txF t (s + 1) = true
        · have v1 := txF_le f1
          rw [if_pos f1] at hE
          rw [numF, if_pos f1, Nat.min_eq_right (by omega), numF_end d (by omega)]
          exact ⟨by omega, f0, sL, by omega⟩
        · rw [if_neg f1] at hE; omega
  · rw [if_neg f0] at hE; omega
/-- the word at p is the one of number k -/
def wmQ (t : Nat → Nat) (L p k j : Nat) : Bool := decide ((if p + j < tkE t L p then nI (t (p + j)) else 0) = WDL.getD (5 * k + j) 0)
def wmB (t : Nat → Nat) (L p k : Nat) : Bool := decide (p < L) && txL t p && decide (tkE t L p - p ≤ 5) && (wmQ t L p k 0 && wmQ t L p k 1 && wmQ t L p k 2 && wmQ t L p k 3 && wmQ t L p k 4)
theorem wm_iff {t : Nat → Nat} {L p k : Nat} : wmB t L p k = true ↔ (p < L ∧ txL t p = true ∧ tkE t L p - p ≤ 5 ∧ ∀ j, j < 5 → (if p + j < tkE t L p then nI (t (p + j)) else 0) = WDL.getD (5 * k + j) 0) := by
  unfold wmB
  simp only [Bool.and_eq_true, decide_eq_true_eq]
  constructor
  · rintro ⟨⟨⟨h1, h2⟩, h3⟩, ⟨⟨⟨a0, a1⟩, a2⟩, a3⟩, a4⟩
    refine ⟨h1, h2, h3, fun j hj => ?_⟩
    have : j = 0 ∨ j = 1 ∨ j = 2 ∨ j = 3 ∨ j = 4 := by omega
    rcases this with rfl | rfl | rfl | rfl | rfl
    · exact of_decide_eq_true a0
    · exact of_decide_eq_true a1
    · exact of_decide_eq_true a2
    · exact of_decide_eq_true a3
    · exact of_decide_eq_true a4
  · rintro ⟨h1, h2, h3, h4⟩
    exact ⟨⟨⟨h1, h2⟩, h3⟩, ⟨⟨⟨decide_eq_true (h4 0 (by decide)), decide_eq_true (h4 1 (by decide))⟩, decide_eq_true (h4 2 (by decide))⟩, decide_eq_true (h4 3 (by decide))⟩, decide_eq_true (h4 4 (by decide))⟩
theorem wm_no {t : Nat → Nat} {L p k : Nat} (h : ¬ (p < L ∧ txL t p = true)) : wmB t L p k = false := Bool.not_eq_true _ |>.mp (fun q => h ⟨(wm_iff.mp q).1, (wm_iff.mp q).2.1⟩)
theorem wm_not {t : Nat → Nat} {L p k : Nat} (h0 : wmB t L p 0 = true) (hk : k = 1 ∨ k = 2 ∨ k = 3 ∨ k = 4) : wmB t L p k = false := by
  cases hb : wmB t L p k with
  | false => rfl
  | true =>
    have a := (wm_iff.mp h0).2.2.2 0 (by decide)
    have b := (wm_iff.mp hb).2.2.2 0 (by decide)
    rw [a] at b
    rcases hk with rfl | rfl | rfl | rfl <;> exact absurd b (by decide)
theorem wi {a lo hi : Nat} (ha : a < 128) (hl : lo < 2 ^ 31) (hh : hi < 2 ^ 31) : (if nI lo ≤ nI a ∧ nI a ≤ nI hi then (1 : Int32) else 0) = b2 (decide (lo ≤ a ∧ a ≤ hi)) := by
  have e : (nI lo ≤ nI a ∧ nI a ≤ nI hi) ↔ (lo ≤ a ∧ a ≤ hi) := by rw [nI_leI hl (by omega), nI_leI (by omega) hh]
  by_cases c : lo ≤ a ∧ a ≤ hi
  · rw [if_pos (e.mpr c), decide_eq_true c]; rfl
  · rw [if_neg (fun q => c (e.mp q)), decide_eq_false c]; rfl
theorem wiL {t : Nat → Nat} {q : Nat} (h : t q < 128) : (if (97 : Int32) ≤ nI (t q) ∧ nI (t q) ≤ 122 then (1 : Int32) else 0) = b2 (txL t q) := wi (lo := 97) (hi := 122) h (by decide) (by decide)
theorem wiF {t : Nat → Nat} {q : Nat} (h : t q < 128) : (if (48 : Int32) ≤ nI (t q) ∧ nI (t q) ≤ 57 then (1 : Int32) else 0) = b2 (txF t q) := wi (lo := 48) (hi := 57) h (by decide) (by decide)
theorem eq32 {t : Nat → Nat} {q : Nat} (h : t q < 128) : (nI (t q) = (32 : Int32)) ↔ txB t q = true := by
  show (nI (t q) = nI 32) ↔ _
  rw [nI_eq (by omega) (by decide)]
  unfold txB
  exact ⟨fun q => decide_eq_true q, fun q => of_decide_eq_true q⟩
/-! GrindMill's cell of the text -/
def tz (w : Wd) (f a : Int32) : Wd := cW w 70 (upd (upd (wI w 70) 2 f) 3 a)
theorem upd4 {T : Nat → Int32} {f a f' a' : Int32} : upd (upd (upd (upd T 2 f) 3 a) 2 f') 3 a' = upd (upd T 2 f') 3 a' := by
  funext j
  by_cases h3 : j = 3
  · subst h3; rw [pk_us, pk_us]
  · rw [pk_un h3, pk_un h3]
    by_cases h2 : j = 2
    · subst h2; rw [pk_us, pk_us]
    · rw [pk_un h2, pk_un h2, pk_un h3, pk_un h2]
section TZ
variable {w : Wd} {f a f' a' : Int32} {L : Nat} {t : Nat → Nat} {α : Type}
theorem tz_tz : tz (tz w f a) f' a' = tz w f' a' := by unfold tz; rw [cW_s, upd4, cW_cW]
theorem tz_3 : wI (tz w f a) 70 3 = a := by unfold tz; rw [cW_s, pk_us]
theorem tz_2 : wI (tz w f a) 70 2 = f := by unfold tz; rw [cW_s, pk_un (by decide), pk_us]
theorem tz_1 : wI (tz w f a) 70 1 = wI w 70 1 := by unfold tz; rw [cW_s, pk_un (by decide), pk_un (by decide)]
theorem tz_o {b : Nat} (h : b ≠ 70) : wI (tz w f a) b = wI w b := cW_o h
theorem tz_id : tz w (wI w 70 2) (wI w 70 3) = w := by
  have : upd (upd (wI w 70) 2 (wI w 70 2)) 3 (wI w 70 3) = wI w 70 := by
    funext j
    by_cases h3 : j = 3
    · subst h3; rw [pk_us]
    · rw [pk_un h3]
      by_cases h2 : j = 2
      · subst h2; rw [pk_us]
      · rw [pk_un h2]
  unfold tz
  rw [this, cW_id]
theorem tz_s3 {x : Int32} : sI (tz w f a) 70 3 x = tz w f x := by
  unfold tz
  rw [sIW, upd_2]
theorem tz_s2 {x : Int32} : sI (tz w f a) 70 2 x = tz w x a := by
  have : upd (upd (upd (wI w 70) 2 f) 3 a) 2 x = upd (upd (wI w 70) 2 x) 3 a := by
    funext j
    by_cases h2 : j = 2
    · subst h2; rw [pk_us, pk_un (by decide), pk_us]
    · rw [pk_un h2]
      by_cases h3 : j = 3
      · subst h3; rw [pk_us, pk_us]
      · rw [pk_un h3, pk_un h3, pk_un h2, pk_un h2]
  unfold tz
  rw [sIW, this]
theorem tz_fr : Fr (fun b => b = 70) w (tz w f a) := Fr.cW rfl
def CT (w : Wd) (L : Nat) (t : Nat → Nat) : Prop := MS w ∧ L ≤ 150 ∧ wI w 70 1 = nI L ∧ ∀ i, i < L → wI w 71 i = nI (t i) ∧ t i < 128
theorem CT.z (C : CT w L t) : CT (tz w f a) L t := ⟨C.1.to tz_fr.1, C.2.1, by rw [tz_1]; exact C.2.2.1, fun i hi => by rw [tz_o (by decide)]; exact C.2.2.2 i hi⟩
theorem CT.g (C : CT w L t) {k : Nat} {K : Int32 → Option α} : gI w 70 10 k K = K (wI w 70 k) := gI_t (C.1.oo 70 10 (by decide))
theorem CT.p (C : CT w L t) {k : Nat} {x : Int32} {K : Wd → Option α} : pI w 70 10 k x K = K (sI w 70 k x) := pI_t (C.1.oo 70 10 (by decide))
theorem CT.c {β : Type} (C : CT w L t) {o : Option (β × Wd)} {K : β → Wd → Option α} : calV w 70 10 o K = cal o K := calV_t (C.1.oo 70 10 (by decide))
theorem CT.ld (C : CT w L t) {q : Nat} (hq : q < L) {K : Int32 → Option α} : lI w 71 13 (nI q) K = K (nI (t q)) := by
  have := C.2.1
  rw [lI_t (C.1.oo 71 13 (by decide)) (inb_of (C.1.nn 71 150 (by decide)) (by omega) (by decide)), nI_clamp (by omega), (C.2.2.2 q hq).1]
theorem CT.r (C : CT w L t) {K : Nat → Option α} : gR w 70 10 0 K = K 71 := C.1.rf 70 10 0 71 (by decide) (by decide)
end TZ
/-- the first fault stays -/
def flI (f x : Int32) : Int32 := if f = -1 then x else f
section U0
variable {w : Wd} {L : Nat} {t : Nat → Nat} {f : Int32}
theorem pB_lp (C : CT w L t) : ∀ (d q fuel : Nat), q + d = L → d < fuel → f_X10_passBlanks_0 fuel 70 (tz w f (nI q)) = some ((), tz w f (nI (runF (txB t) d q))) := by
  have hL := C.2.1
  intro d
  induction d with
  | zero =>
    intro q fuel hq hf
    obtain ⟨f', rfl⟩ : ∃ f, fuel = f + 1 := ⟨fuel - 1, by omega⟩
    rw [f_X10_passBlanks_0, C.z.g, C.z.g, tz_3, C.z.2.2.1, if_pos (nI_le (by omega) (by omega)), f_X10_passBlanks_38, runF]
  | succ d ih =>
    intro q fuel hq hf
    obtain ⟨f', rfl⟩ : ∃ f, fuel = f + 1 := ⟨fuel - 1, by omega⟩
    rw [f_X10_passBlanks_0, C.z.g, C.z.g, tz_3, C.z.2.2.1, if_neg (nI_ge (by omega) (by omega)), C.z.r, C.z.g, tz_3, C.z.ld (by omega), runF]
    by_cases c : txB t q = true
    · rw [if_pos ((eq32 (C.2.2.2 q (by omega)).2).mpr c), if_pos c, C.z.g, tz_3, nI_1, C.z.p, tz_s3]
      exact ih (q + 1) f' (by omega) (by omega)
    · rw [if_neg (fun z => c ((eq32 (C.2.2.2 q (by omega)).2).mp z)), if_neg c, f_X10_passBlanks_38]
theorem passBlanks_eq (C : CT w L t) {p : Nat} (hp : p ≤ L) : f_X10_passBlanks 70 (tz w f (nI p)) = some ((), tz w f (nI (rn (txB t) L p))) := by
  have hL := C.2.1
  unfold f_X10_passBlanks
  exact pB_lp C (L - p) p 4096 (by omega) (by omega)
theorem pL_lp (C : CT w L t) : ∀ (d q fuel : Nat), q + d = L → d < fuel → f_X10_passLetters_0 fuel 70 (tz w f (nI q)) = some ((), tz w f (nI (runF (txL t) d q))) := by
  have hL := C.2.1
  intro d
  induction d with
  | zero =>
    intro q fuel hq hf
    obtain ⟨f', rfl⟩ : ∃ f, fuel = f + 1 := ⟨fuel - 1, by omega⟩
    rw [f_X10_passLetters_0, C.z.g, C.z.g, tz_3, C.z.2.2.1, if_pos (nI_le (by omega) (by omega)), f_X10_passLetters_43, runF]
  | succ d ih =>
    intro q fuel hq hf
    obtain ⟨f', rfl⟩ : ∃ f, fuel = f + 1 := ⟨fuel - 1, by omega⟩
    rw [f_X10_passLetters_0, C.z.g, C.z.g, tz_3, C.z.2.2.1, if_neg (nI_ge (by omega) (by omega)), C.z.r, C.z.g, tz_3, C.z.ld (by omega), within_eq, wiL (C.2.2.2 q (by omega)).2, cal_t, runF]
    cases c : txL t q with
    | true =>
      rw [b2_1, if_neg (by decide), if_pos rfl, C.z.g, tz_3, nI_1, C.z.p, tz_s3]
      exact ih (q + 1) f' (by omega) (by omega)
    | false => rw [b2_0, if_pos rfl, if_neg (by decide), f_X10_passLetters_43]
theorem passLetters_eq (C : CT w L t) {p : Nat} (hp : p ≤ L) : f_X10_passLetters 70 (tz w f (nI p)) = some ((), tz w f (nI (rn (txL t) L p))) := by
  have hL := C.2.1
  unfold f_X10_passLetters
  exact pL_lp C (L - p) p 4096 (by omega) (by omega)
theorem failAt_eq (C : CT w L t) {a x : Int32} : f_X10_failAt 70 x (tz w f a) = some ((), tz w (flI f x) a) := by
  unfold f_X10_failAt flI
  rw [C.z.g, tz_2]
  by_cases c : f = -1
  · rw [if_pos c, if_pos c, C.z.p, tz_s2, f_X10_failAt_13]
  · rw [if_neg c, if_neg c, f_X10_failAt_13]
theorem rN_lp (C : CT w L t) {lo hi st : Int32} : ∀ (d q a fuel : Nat), q + d = L → d < fuel → a ≤ 1000 → f_X10_readNumber_12 fuel 70 lo hi st (nI a) (tz w f (nI q)) = f_X10_readNumber_81 70 lo hi st (nI (numF t d q a)) (tz w f (nI (runF (txF t) d q))) := by
  have hL := C.2.1
  intro d
  induction d with
  | zero =>
    intro q a fuel hq hf ha
    obtain ⟨f', rfl⟩ : ∃ f, fuel = f + 1 := ⟨fuel - 1, by omega⟩
    rw [f_X10_readNumber_12, C.z.g, C.z.g, tz_3, C.z.2.2.1, if_pos (nI_le (by omega) (by omega)), runF, numF]
  | succ d ih =>
    intro q a fuel hq hf ha
    obtain ⟨f', rfl⟩ : ∃ f, fuel = f + 1 := ⟨fuel - 1, by omega⟩
    rw [f_X10_readNumber_12, C.z.g, C.z.g, tz_3, C.z.2.2.1, if_neg (nI_ge (by omega) (by omega)), C.z.r, C.z.g, tz_3, C.z.ld (by omega), within_eq, wiF (C.2.2.2 q (by omega)).2, cal_t, runF, numF]
    cases c : txF t q with
    | true =>
      have v := txF_le c
      have e : nI a * (10 : Int32) + nI (t q) - 48 = nI (a * 10 + (t q - 48)) := by
        rw [show (10 : Int32) = nI 10 from rfl, show (48 : Int32) = nI 48 from rfl, pk_mul, nI_add, pk_sub (by omega)]
        congr 1
        omega
      rw [b2_1, if_neg (by decide), if_pos rfl, if_pos rfl, C.z.r, C.z.g, tz_3, C.z.ld (by omega), e, nm_t, show (1000 : Int32) = nI 1000 from rfl, mn_eq (by decide) (by omega), C.z.g, tz_3, nI_1, C.z.p, tz_s3]
      exact ih (q + 1) _ f' (by omega) (by omega) (by omega)
    | false => rw [b2_0, if_pos rfl, if_neg (by decide), if_neg (by decide)]
theorem readNumber_eq (C : CT w L t) {p : Nat} (hp : p ≤ L) (lo hi : Int32) : ∃ v, f_X10_readNumber 70 lo hi (tz w f (nI p)) = some (v, tz w (if nmO t L p lo hi = true then f else flI f (nI (nmS t L p))) (nI (nmE t L p))) ∧ (nmO t L p lo hi = true → v = nI (nmV t L p)) := by
  have hL := C.2.1
  obtain ⟨s1, s2⟩ := nmS_b (t := t) hp
  obtain ⟨b1, b2'⟩ := nmE_b (t := t) hp
  have nle := numF_le (t := t) (L - nmS t L p) (nmS t L p) 0 (by decide)
  refine ⟨nI (numF t (L - nmS t L p) (nmS t L p) 0), ?_, fun h => by rw [(num_val hp (of_decide_eq_true h).1).1]⟩
  unfold f_X10_readNumber
  rw [C.z.c, passBlanks_eq C hp, cal_t, C.z.g, tz_3]
  refine (rN_lp C (L - nmS t L p) (nmS t L p) 0 4096 (by omega) (by omega) (by decide)).trans ?_
  show f_X10_readNumber_81 70 lo hi (nI (nmS t L p)) (nI (numF t (L - nmS t L p) (nmS t L p) 0)) (tz w f (nI (nmE t L p))) = _
  have bad : f_X10_readNumber_111 70 (nI (nmS t L p)) (nI (numF t (L - nmS t L p) (nmS t L p) 0)) (tz w f (nI (nmE t L p))) = some (nI (numF t (L - nmS t L p) (nmS t L p) 0), tz w (flI f (nI (nmS t L p))) (nI (nmE t L p))) := by
    rw [f_X10_readNumber_111, C.z.c, failAt_eq C, cal_t, f_X10_readNumber_116]
  rw [f_X10_readNumber_81, C.z.g, tz_3, pk_sub b1, nm_t]
  by_cases c1 : nmE t L p = nmS t L p
  · have z : nmO t L p lo hi = false := decide_eq_false (fun q => by have := q.1; omega)
    rw [if_pos (show nI (nmE t L p - nmS t L p) < (1 : Int32) from nI_lt (b := 1) (by omega) (by decide)), bad, z, if_neg (by decide)]
  · rw [if_neg (show ¬ nI (nmE t L p - nmS t L p) < (1 : Int32) from nI_nlt (b := 1) (by omega) (by omega))]
    by_cases c2 : nmS t L p + 2 < nmE t L p
    · have z : nmO t L p lo hi = false := decide_eq_false (fun q => by have := q.1; omega)
      rw [if_pos (show (2 : Int32) < nI (nmE t L p - nmS t L p) from nI_lt (a := 2) (by omega) (by omega)), bad, z, if_neg (by decide)]
    · have h12 : nmE t L p = nmS t L p + 1 ∨ nmE t L p = nmS t L p + 2 := by omega
      have ev := (num_val hp h12).1
      rw [if_neg (show ¬ (2 : Int32) < nI (nmE t L p - nmS t L p) from nI_nlt (a := 2) (by omega) (by decide)), within_eq, cal_t]
      by_cases c3 : lo ≤ nI (nmV t L p) ∧ nI (nmV t L p) ≤ hi
      · have z : nmO t L p lo hi = true := decide_eq_true ⟨h12, c3⟩
        rw [ev, if_pos c3, if_neg (by decide), z, if_pos rfl, f_X10_readNumber_116]
      · have z : nmO t L p lo hi = false := decide_eq_false (fun q => c3 q.2)
        rw [if_neg (show ¬ (lo ≤ nI (numF t (L - nmS t L p) (nmS t L p) 0) ∧ nI (numF t (L - nmS t L p) (nmS t L p) 0) ≤ hi) from by rw [ev]; exact c3), if_pos rfl, bad, z, if_neg (by decide)]
/-- the end of an item -/
theorem itemsEnd_eq (C : CT w L t) {p : Nat} (hp : p ≤ L) : f_X10_readItemsEnd 70 (tz w f (nI p)) = some ((), if rn (txB t) L p < L ∧ t (rn (txB t) L p) = 59 then tz w f (nI (rn (txB t) L (rn (txB t) L p + 1))) else tz w (flI f (nI (rn (txB t) L p))) (nI (rn (txB t) L p))) := by
  have hL := C.2.1
  obtain ⟨s1, s2⟩ := rn_b (P := txB t) hp
  generalize hq : rn (txB t) L p = q at s1 s2
  have bad : f_X10_readItemsEnd_46 70 (tz w f (nI q)) = some ((), tz w (flI f (nI q)) (nI q)) := by
    rw [f_X10_readItemsEnd_46, C.z.g, tz_3, C.z.c, failAt_eq C, cal_t, f_X10_readItemsEnd_54]
  unfold f_X10_readItemsEnd
  rw [C.z.c, passBlanks_eq C hp, cal_t, hq, C.z.g, C.z.g, tz_3, C.z.2.2.1]
  by_cases c1 : q < L
  · rw [if_neg (nI_ge c1 (by omega)), C.z.r, C.z.g, tz_3, C.z.ld c1]
    have e : (nI (t q) = (59 : Int32)) ↔ t q = 59 := nI_eq (b := 59) (by have := (C.2.2.2 q c1).2; omega) (by decide)
    by_cases c2 : t q = 59
    · rw [if_pos (e.mpr c2), if_pos ⟨c1, c2⟩, C.z.g, tz_3, nI_1, C.z.p, tz_s3, C.z.c, passBlanks_eq C (by omega), cal_t, f_X10_readItemsEnd_54]
    · rw [if_neg (fun z => c2 (e.mp z)), if_neg (fun z => c2 z.2), bad]
  · rw [if_pos (nI_le (by omega) (by omega)), if_neg (fun z => c1 z.1), bad]
theorem bytS_eq : ∀ k, k < 5 → ∀ j, j < lenS.getD k 0 → (bytS.getD k []).getD j 0 = WDL.getD (5 * k + j) 0 ∧ ¬ WDL.getD (5 * k + j) 0 = 0 := by decide
theorem wdl_0 : ∀ k, k < 5 → ∀ j, j < 5 → lenS.getD k 0 ≤ j → WDL.getD (5 * k + j) 0 = 0 := by decide
theorem lenS_b : ∀ k, k < 5 → lenS.getD k 0 = 4 ∨ lenS.getD k 0 = 5 := by decide
theorem isNamed_eq (C : CT w L t) {p k : Nat} (hp : p ≤ L) (hk : k < 5) : f_X10_isNamed 70 (nI p) k (tz w f (nI (rn (txL t) L p))) = some (b2 (wmB t L p k), tz w f (nI (rn (txL t) L p))) := by
  have hL := C.2.1
  obtain ⟨s1, s2⟩ := rn_b (P := txL t) hp
  have l45 := lenS_b k hk
  have sl : ∀ w, f_S_length k w = some (nI (lenS.getD k 0), w) := fun w => by unfold f_S_length; rw [if_pos hk]
  unfold f_X10_isNamed
  rw [C.z.g, tz_3, sl, cal_t, pk_sub s1]
  by_cases hl : p < L ∧ txL t p = true
  · have eE : tkE t L p = rn (txL t) L p := by
      unfold tkE
      rw [if_pos hl.1, if_pos hl.2, rn_s hl.1, if_pos hl.2]
    have let0 : ∀ j, p + j < rn (txL t) L p → ¬ nI (t (p + j)) = 0 ∧ t (p + j) < 128 := fun j hj => by
      have a := of_decide_eq_true (rn_in (P := txL t) (show p ≤ p + j by omega) hj)
      have b := (C.2.2.2 (p + j) (by omega)).2
      exact ⟨nI_ne0 (by omega) (by omega), b⟩
    generalize he : rn (txL t) L p = e at *
    by_cases c : e - p = lenS.getD k 0
    · rw [if_pos (by rw [c])]
      have ef : f_X10_isNamed_17 4096 70 (nI p) k 0 (tz w f (nI e)) = ff (fun j => ¬ nI (t (p + j)) = WDL.getD (5 * k + j) 0) (fun _ => some ((0 : Int32), tz w f (nI e))) (some ((1 : Int32), tz w f (nI e))) (lenS.getD k 0) 0 := by
        refine lpF (n := lenS.getD k 0) (F := fun g j => f_X10_isNamed_17 g 70 (nI p) k (nI j) (tz w f (nI e))) (fun g j hj => ?_) (fun g => ?_) 4096 (by omega)
        · show f_X10_isNamed_17 (g + 1) _ _ _ _ _ = _
          have ch : f_S_charAt k (nI j) (tz w f (nI e)) = some (WDL.getD (5 * k + j) 0, tz w f (nI e)) := by
            unfold f_S_charAt
            rw [nI_clamp (by omega), if_pos ⟨hk, nI_pos' (by omega), hj⟩, (bytS_eq k hk j hj).1]
          rw [f_X10_isNamed_17, sl, cal_t, if_neg (nI_ge hj (by omega)), C.z.r, nI_add, C.z.ld (by omega), ch, cal_t, nI_1]
          by_cases c2 : nI (t (p + j)) = WDL.getD (5 * k + j) 0
          · rw [if_pos c2, if_neg (fun q => q c2)]
          · rw [if_neg c2, if_pos c2, rZ0]
        · show f_X10_isNamed_17 (g + 1) _ _ _ _ _ = _
          rw [f_X10_isNamed_17, sl, cal_t, if_pos (nI_le (by omega) (by omega)), rZ1]
      rw [ef]
      have iff : (wmB t L p k = true) ↔ ∀ j, j < lenS.getD k 0 → nI (t (p + j)) = WDL.getD (5 * k + j) 0 := by
        constructor
        · intro h j hj
          have := (wm_iff.mp h).2.2.2 j (by omega)
          rw [eE, if_pos (by omega)] at this
          exact this
        · intro h
          refine wm_iff.mpr ⟨hl.1, hl.2, by rw [eE]; omega, fun j hj => ?_⟩
          rw [eE]
          by_cases c3 : p + j < e
          · rw [if_pos c3]; exact h j (by omega)
          · rw [if_neg c3, wdl_0 k hk j hj (by omega)]
      by_cases hf : ∀ j, j < lenS.getD k 0 → nI (t (p + j)) = WDL.getD (5 * k + j) 0
      · rw [ff_all_t (lenS.getD k 0) 0 (fun j h1 h2 => hf j (by omega)), iff.mpr hf, b2_1]
      · rw [ff_all_f (lenS.getD k 0) 0 (fun q => hf (fun i hi => q i (by omega) (by omega))), show wmB t L p k = false from Bool.not_eq_true _ |>.mp (fun q => hf (iff.mp q)), b2_0]
    · have z : wmB t L p k = false := Bool.not_eq_true _ |>.mp (fun q => by
        obtain ⟨-, -, z1, z2⟩ := wm_iff.mp q
        rw [eE] at z1 z2
        -- too long or too short
        by_cases c4 : e - p < lenS.getD k 0
        · have := z2 (e - p) (by omega)
          rw [if_neg (by omega)] at this
          exact (bytS_eq k hk (e - p) c4).2 this.symm
        · have := z2 (lenS.getD k 0) (by omega)
          rw [if_pos (by omega), wdl_0 k hk _ (by omega) (Nat.le_refl _)] at this
          exact (let0 _ (by omega)).1 this)
      rw [if_neg (fun q => c ((nI_eq (by omega) (by omega)).mp q)), z, rZ0, b2_0]
  · have e0 : rn (txL t) L p = p := by
      by_cases c : p < L
      · rw [rn_s c, if_neg (fun q => hl ⟨c, q⟩)]
      · rw [show p = L by omega, rn_L]
    have z : wmB t L p k = false := wm_no hl
    rw [e0, Nat.sub_self, if_neg (fun q => by have := (nI_eq (by decide) (by omega)).mp q; omega), z, rZ0, b2_0]
end U0
