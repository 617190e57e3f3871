/-! the reference's reading -/
def az (w : Wd) (a b : Int32) : Wd := cW w 95 (upd (upd (wI w 95) 8 a) 9 b)
theorem upd4b {T : Nat → Int32} {f a f' a' : Int32} : upd (upd (upd (upd T 8 f) 9 a) 8 f') 9 a' = upd (upd T 8 f') 9 a' := by
  funext j
  by_cases h3 : j = 9
  · subst h3; rw [pk_us, pk_us]
  · rw [pk_un h3, pk_un h3]
    by_cases h2 : j = 8
    · subst h2; rw [pk_us, pk_us]
    · rw [pk_un h2, pk_un h2, pk_un h3, pk_un h2]
def RC (w : Wd) (L : Nat) (t : Nat → Nat) : Prop := MS w ∧ L ≤ 150 ∧ wI w 95 6 = nI L ∧ (∀ i, i < L → wI w 99 i = nI (t i) ∧ t i < 128) ∧ ∀ k, k < 25 → wI w 100 k = WDL.getD k 0
section AZ
variable {w : Wd} {a b a' b' : Int32} {L : Nat} {t : Nat → Nat} {α : Type}
theorem az_az : az (az w a b) a' b' = az w a' b' := by unfold az; rw [cW_s, upd4b, cW_cW]
theorem az_9 : wI (az w a b) 95 9 = b := by unfold az; rw [cW_s, pk_us]
theorem az_8 : wI (az w a b) 95 8 = a := by unfold az; rw [cW_s, pk_un (by decide), pk_us]
theorem az_k {k : Nat} (h8 : k ≠ 8) (h9 : k ≠ 9) : wI (az w a b) 95 k = wI w 95 k := by unfold az; rw [cW_s, pk_un h9, pk_un h8]
theorem az_o {c : Nat} (h : c ≠ 95) : wI (az w a b) c = wI w c := cW_o h
theorem az_id : az w (wI w 95 8) (wI w 95 9) = w := by
  have : upd (upd (wI w 95) 8 (wI w 95 8)) 9 (wI w 95 9) = wI w 95 := by
    funext j
    by_cases h3 : j = 9
    · subst h3; rw [pk_us]
    · rw [pk_un h3]
      by_cases h2 : j = 8
      · subst h2; rw [pk_us]
      · rw [pk_un h2]
  unfold az
  rw [this, cW_id]
theorem az_s9 {x : Int32} : sI (az w a b) 95 9 x = az w a x := by
  unfold az
  rw [sIW, upd_2]
theorem az_s8 {x : Int32} : sI (az w a b) 95 8 x = az w x b := by
  have : upd (upd (upd (wI w 95) 8 a) 9 b) 8 x = upd (upd (wI w 95) 8 x) 9 b := by
    funext j
    by_cases h2 : j = 8
    · subst h2; rw [pk_us, pk_un (by decide), pk_us]
    · rw [pk_un h2]
      by_cases h3 : j = 9
      · subst h3; rw [pk_us, pk_us]
      · rw [pk_un h3, pk_un h3, pk_un h2, pk_un h2]
  unfold az
  rw [sIW, this]
theorem az_fr : Fr (fun c => c = 95) w (az w a b) := Fr.cW rfl
theorem RC.fr {w' : Wd} (C : RC w L t) {A : Nat → Prop} (f : Fr A w w') (h1 : ¬ A 99) (h2 : ¬ A 100) (h3 : wI w' 95 6 = wI w 95 6) : RC w' L t := ⟨C.1.to f.1, C.2.1, by rw [h3]; exact C.2.2.1, by rw [f.2.2 99 h1]; exact C.2.2.2.1, by rw [f.2.2 100 h2]; exact C.2.2.2.2⟩
theorem RC.z (C : RC w L t) : RC (az w a b) L t := C.fr az_fr (by decide) (by decide) (az_k (by decide) (by decide))
theorem RC.g (C : RC w L t) {k : Nat} {K : Int32 → Option α} : gI w 95 12 k K = K (wI w 95 k) := gI_t C.1.o
theorem RC.p (C : RC w L t) {k : Nat} {x : Int32} {K : Wd → Option α} : pI w 95 12 k x K = K (sI w 95 k x) := pI_t C.1.o
theorem RC.ld (C : RC w L t) {q : Nat} (hq : q < L) {K : Int32 → Option α} : lI w 99 14 (nI q) K = K (nI (t q)) := by
  have := C.2.1
  rw [C.1.ld 99 150 (by decide) (by decide) (by omega) (by decide), (C.2.2.2.1 q hq).1]
theorem RC.r (C : RC w L t) {K : Nat → Option α} : gR w 95 12 5 K = K 99 := C.1.rf 95 12 5 99 (by decide) (by decide)
end AZ
def inL (L : Nat) (P : Nat → Bool) (q : Nat) : Bool := decide (q < L) && P q
section U1
variable {w : Wd} {L : Nat} {t : Nat → Nat} {a b : Int32}
theorem isLetter_eq (C : RC w L t) {q : Nat} (hq : q ≤ L) : f_X12_isLetter 95 (nI q) w = some (b2 (inL L (txL t) q), w) := by
  have hL := C.2.1
  unfold f_X12_isLetter inL
  rw [C.g, C.2.2.1]
  by_cases c : q < L
  · rw [if_neg (nI_ge c (by omega)), C.r, C.ld c, in_eq, wiL (C.2.2.2.1 q c).2, cal_t, decide_eq_true c, Bool.true_and]
    cases txL t q with
    | true => rw [b2_1, if_neg (by decide), f_X12_isLetter_29, rZ1]
    | false => rw [b2_0, if_pos rfl, f_X12_isLetter_28, f_X12_isLetter_29, rZ0]
  · rw [if_pos (nI_le (by omega) (by omega)), decide_eq_false c, Bool.false_and, b2_0, f_X12_isLetter_28, f_X12_isLetter_29, rZ0]
theorem isFigure_eq (C : RC w L t) {q : Nat} (hq : q ≤ L) : f_X12_isFigure 95 (nI q) w = some (b2 (inL L (txF t) q), w) := by
  have hL := C.2.1
  unfold f_X12_isFigure inL
  rw [C.g, C.2.2.1]
  by_cases c : q < L
  · rw [if_neg (nI_ge c (by omega)), C.r, C.ld c, in_eq, wiF (C.2.2.2.1 q c).2, cal_t, decide_eq_true c, Bool.true_and]
    cases txF t q with
    | true => rw [b2_1, if_neg (by decide), f_X12_isFigure_29, rZ1]
    | false => rw [b2_0, if_pos rfl, f_X12_isFigure_28, f_X12_isFigure_29, rZ0]
  · rw [if_pos (nI_le (by omega) (by omega)), decide_eq_false c, Bool.false_and, b2_0, f_X12_isFigure_28, f_X12_isFigure_29, rZ0]
theorem mB_lp (C : RC w L t) : ∀ (d q fuel : Nat), q + d = L → d < fuel → f_X12_next_8 fuel 95 (az w (nI q) b) = f_X12_next_46 95 (az w (nI (runF (txB t) d q)) b) := by
  have hL := C.2.1
  intro d
  induction d with
  | zero =>
    intro q fuel hq hf
    obtain ⟨f', rfl⟩ : ∃ f, fuel = f + 1 := ⟨fuel - 1, by omega⟩
    rw [f_X12_next_8, C.z.g, C.z.g, az_8, C.z.2.2.1, if_pos (nI_le (by omega) (by omega)), runF]
  | succ d ih =>
    intro q fuel hq hf
    obtain ⟨f', rfl⟩ : ∃ f, fuel = f + 1 := ⟨fuel - 1, by omega⟩
    rw [f_X12_next_8, C.z.g, C.z.g, az_8, C.z.2.2.1, if_neg (nI_ge (by omega) (by omega)), C.z.r, C.z.g, az_8, C.z.ld (by omega), runF]
    by_cases c : txB t q = true
    · rw [if_pos ((eq32 (C.2.2.2.1 q (by omega)).2).mpr c), if_pos c, C.z.g, az_8, nI_1, C.z.p, az_s8]
      exact ih (q + 1) f' (by omega) (by omega)
    · rw [if_neg (fun z => c ((eq32 (C.2.2.2.1 q (by omega)).2).mp z)), if_neg c]
theorem mLt_lp (C : RC w L t) {s : Nat} (hs : s ≤ L) (h1 : inL L (txL t) s = true) : ∀ (d q fuel : Nat), q + d = L → d < fuel → f_X12_next_74 fuel 95 (az w (nI s) (nI q)) = f_X12_next_109 4096 95 (az w (nI s) (nI (runF (txL t) d q))) := by
  have hL := C.2.1
  intro d
  induction d with
  | zero =>
    intro q fuel hq hf
    obtain ⟨f', rfl⟩ : ∃ f, fuel = f + 1 := ⟨fuel - 1, by omega⟩
    have z : inL L (txL t) q = false := by unfold inL; rw [decide_eq_false (by omega), Bool.false_and]
    rw [f_X12_next_74, C.z.g, az_8, mc_t C.z.1, isLetter_eq C.z hs, cal_t, h1, b2_1, if_neg (by decide), C.z.g, az_9, mc_t C.z.1, isLetter_eq C.z (by omega), cal_t, z, b2_0, if_pos rfl, runF]
  | succ d ih =>
    intro q fuel hq hf
    obtain ⟨f', rfl⟩ : ∃ f, fuel = f + 1 := ⟨fuel - 1, by omega⟩
    have z : inL L (txL t) q = txL t q := by unfold inL; rw [decide_eq_true (by omega), Bool.true_and]
    rw [f_X12_next_74, C.z.g, az_8, mc_t C.z.1, isLetter_eq C.z hs, cal_t, h1, b2_1, if_neg (by decide), C.z.g, az_9, mc_t C.z.1, isLetter_eq C.z (by omega), cal_t, z, runF]
    cases c : txL t q with
    | true =>
      rw [b2_1, if_neg (by decide), if_pos rfl, C.z.g, az_9, nI_1, C.z.p, az_s9]
      exact ih (q + 1) f' (by omega) (by omega)
    | false => rw [b2_0, if_pos rfl, if_neg (by decide)]
theorem mFg_lp (C : RC w L t) {s : Nat} (hs : s ≤ L) (h1 : inL L (txF t) s = true) : ∀ (d q fuel : Nat), q + d = L → d < fuel → f_X12_next_109 fuel 95 (az w (nI s) (nI q)) = some ((), az w (nI s) (nI (runF (txF t) d q))) := by
  have hL := C.2.1
  intro d
  induction d with
  | zero =>
    intro q fuel hq hf
    obtain ⟨f', rfl⟩ : ∃ f, fuel = f + 1 := ⟨fuel - 1, by omega⟩
    have z : inL L (txF t) q = false := by unfold inL; rw [decide_eq_false (by omega), Bool.false_and]
    rw [f_X12_next_109, C.z.g, az_8, mc_t C.z.1, isFigure_eq C.z hs, cal_t, h1, b2_1, if_neg (by decide), C.z.g, az_9, mc_t C.z.1, isFigure_eq C.z (by omega), cal_t, z, b2_0, if_pos rfl, runF, f_X12_next_144]
  | succ d ih =>
    intro q fuel hq hf
    obtain ⟨f', rfl⟩ : ∃ f, fuel = f + 1 := ⟨fuel - 1, by omega⟩
    have z : inL L (txF t) q = txF t q := by unfold inL; rw [decide_eq_true (by omega), Bool.true_and]
    rw [f_X12_next_109, C.z.g, az_8, mc_t C.z.1, isFigure_eq C.z hs, cal_t, h1, b2_1, if_neg (by decide), C.z.g, az_9, mc_t C.z.1, isFigure_eq C.z (by omega), cal_t, z, runF]
    cases c : txF t q with
    | true =>
      rw [b2_1, if_neg (by decide), if_pos rfl, C.z.g, az_9, nI_1, C.z.p, az_s9]
      exact ih (q + 1) f' (by omega) (by omega)
    | false => rw [b2_0, if_pos rfl, if_neg (by decide), f_X12_next_144]
theorem m109_no (C : RC w L t) {s : Nat} (hs : s ≤ L) (h1 : inL L (txF t) s = false) {fuel : Nat} (hf : 0 < fuel) : f_X12_next_109 fuel 95 (az w (nI s) b) = some ((), az w (nI s) b) := by
  obtain ⟨f', rfl⟩ : ∃ f, fuel = f + 1 := ⟨fuel - 1, by omega⟩
  rw [f_X12_next_109, C.z.g, az_8, mc_t C.z.1, isFigure_eq C.z hs, cal_t, h1, b2_0, if_pos rfl, f_X12_next_144]
theorem m74_no (C : RC w L t) {s : Nat} (hs : s ≤ L) (h1 : inL L (txL t) s = false) {fuel : Nat} (hf : 0 < fuel) : f_X12_next_74 fuel 95 (az w (nI s) b) = f_X12_next_109 4096 95 (az w (nI s) b) := by
  obtain ⟨f', rfl⟩ : ∃ f, fuel = f + 1 := ⟨fuel - 1, by omega⟩
  rw [f_X12_next_74, C.z.g, az_8, mc_t C.z.1, isLetter_eq C.z hs, cal_t, h1, b2_0, if_pos rfl]
theorem txLF {q : Nat} (h : txL t q = true) : txF t q = false := by
  have := of_decide_eq_true h
  exact decide_eq_false (by omega)
theorem inL_t {P : Nat → Bool} {q : Nat} (h : q < L) : inL L P q = P q := by unfold inL; rw [decide_eq_true h, Bool.true_and]
theorem inL_f {P : Nat → Bool} {q : Nat} (h : ¬ q < L) : inL L P q = false := by unfold inL; rw [decide_eq_false h, Bool.false_and]
theorem next_eq (C : RC w L t) {p : Nat} (hp : p ≤ L) : f_X12_next 95 (az w a (nI p)) = some ((), az w (nI (nmS t L p)) (nI (tkE t L (nmS t L p)))) := by
  have hL := C.2.1
  obtain ⟨s1, s2⟩ := nmS_b (t := t) hp
  unfold f_X12_next
  rw [C.z.g, az_9, C.z.p, az_s8]
  refine (mB_lp C (L - p) p 4096 (by omega) (by omega)).trans ?_
  show f_X12_next_46 95 (az w (nI (nmS t L p)) (nI p)) = _
  generalize nmS t L p = s at *
  unfold f_X12_next_46 tkE
  rw [C.z.g, C.z.g, az_8, C.z.2.2.1, C.z.g, az_8, C.z.g, az_8]
  by_cases c : s < L
  · rw [if_neg (nI_ge c (by omega)), if_pos c, nI_1, f_X12_next_71, C.z.p, az_s9]
    cases hl : txL t s with
    | true =>
      rw [if_pos rfl, mLt_lp C s2 (by rw [inL_t c]; exact hl) (L - (s + 1)) (s + 1) 4096 (by omega) (by omega), m109_no C s2 (by rw [inL_t c]; exact txLF hl) (by decide)]
      rfl
    | false =>
      rw [if_neg (by decide), m74_no C s2 (by rw [inL_t c]; exact hl) (by decide)]
      cases hf : txF t s with
      | true =>
        rw [if_pos rfl, mFg_lp C s2 (by rw [inL_t c]; exact hf) (L - (s + 1)) (s + 1) 4096 (by omega) (by omega)]
        rfl
      | false => rw [if_neg (by decide), m109_no C s2 (by rw [inL_t c]; exact hf) (by decide)]
  · rw [if_pos (nI_le (by omega) (by omega)), if_neg c, f_X12_next_71, C.z.p, az_s9, m74_no C s2 (inL_f c) (by decide), m109_no C s2 (inL_f c) (by decide)]
theorem tkE_fig {s : Nat} (h : s < L) (hf : txF t s = true) : tkE t L s = rn (txF t) L s := by
  have hl : ¬ txL t s = true := fun q => by rw [txLF q] at hf; exact Bool.false_ne_true hf
  unfold tkE
  rw [if_pos h, if_neg hl, if_pos hf, rn_s h, if_pos hf]
theorem number_eq (C : RC w L t) {p : Nat} (hp : p ≤ L) (lo hi : Int32) : f_X12_number 95 lo hi (az w a (nI p)) = some (if nmO t L p lo hi = true then nI (nmV t L p) else -1, az w (nI (nmS t L p)) (nI (tkE t L (nmS t L p)))) := by
  have hL := C.2.1
  obtain ⟨s1, s2⟩ := nmS_b (t := t) hp
  obtain ⟨b1, b2'⟩ := nmE_b (t := t) hp
  unfold f_X12_number
  rw [mc_t C.z.1, next_eq C hp, cal_t, C.z.g, az_8, mc_t C.z.1, isFigure_eq C.z s2, cal_t]
  by_cases c : nmS t L p < L ∧ txF t (nmS t L p) = true
  · have eE : tkE t L (nmS t L p) = nmE t L p := tkE_fig c.1 c.2
    have v0 := txF_le c.2
    have gt : nmS t L p < nmE t L p := by
      unfold nmE
      rw [rn_s c.1, if_pos c.2]
      have := (rn_b (P := txF t) (L := L) (p := nmS t L p + 1) c.1).1
      omega
    rw [inL_t c.1, c.2, b2_1, if_neg (by decide), C.z.g, az_9, C.z.g, az_8, eE, pk_sub (by omega)]
    by_cases c2 : nmE t L p - nmS t L p ≤ 2
    · have h12 : nmE t L p = nmS t L p + 1 ∨ nmE t L p = nmS t L p + 2 := by omega
      have e48 : nI (t (nmS t L p)) - 48 = nI (t (nmS t L p) - 48) := by rw [show (48 : Int32) = nI 48 from rfl, pk_sub (by omega)]
      have fin : f_X12_number_79 lo hi (nI (nmV t L p)) (az w (nI (nmS t L p)) (nI (nmE t L p))) = some (if nmO t L p lo hi = true then nI (nmV t L p) else -1, az w (nI (nmS t L p)) (nI (nmE t L p))) := by
        rw [f_X12_number_79, in_eq, cal_t]
        by_cases c3 : lo ≤ nI (nmV t L p) ∧ nI (nmV t L p) ≤ hi
        · rw [if_pos c3, if_neg (by decide), show nmO t L p lo hi = true from decide_eq_true ⟨h12, c3⟩, if_pos rfl, f_X12_number_94]
        · rw [if_neg c3, if_pos rfl, show nmO t L p lo hi = false from decide_eq_false (fun q => c3 q.2), if_neg (by decide), f_X12_number_94]
      rw [if_pos (show nI (nmE t L p - nmS t L p) ≤ (2 : Int32) from nI_le (b := 2) c2 (by decide)), C.z.r, C.z.g, az_8, C.z.ld c.1, nm_t, e48, C.z.g, az_9, C.z.g, az_8, pk_sub (by omega)]
      have e2 : (nI (nmE t L p - nmS t L p) = (2 : Int32)) ↔ nmE t L p - nmS t L p = 2 := nI_eq (b := 2) (by omega) (by decide)
      by_cases c4 : nmE t L p - nmS t L p = 2
      · have h2 : nmE t L p = nmS t L p + 2 := by omega
        have f1 : txF t (nmS t L p + 1) = true := rn_in (P := txF t) (L := L) (p := nmS t L p) (by omega) (show nmS t L p + 1 < nmE t L p by omega)
        have v1 := txF_le f1
        have ev : (10 : Int32) * nI (t (nmS t L p) - 48) + nI (t (nmS t L p + 1)) - 48 = nI (nmV t L p) := by
          rw [show (10 : Int32) = nI 10 from rfl, show (48 : Int32) = nI 48 from rfl, pk_mul, nI_add, pk_sub (by omega)]
          unfold nmV
          rw [if_pos h2]
          congr 1
          omega
        rw [if_pos (e2.mpr c4), C.z.r, C.z.g, az_8, nI_1, C.z.ld (by omega), ev]
        exact fin
      · have ev : t (nmS t L p) - 48 = nmV t L p := by unfold nmV; rw [if_neg (by omega)]
        rw [if_neg (fun q => c4 (e2.mp q)), ev]
        exact fin
    · rw [if_neg (show ¬ nI (nmE t L p - nmS t L p) ≤ (2 : Int32) from fun q => c2 ((nI_leI (b := 2) (by omega) (by decide)).mp q)), f_X12_number_28, show nmO t L p lo hi = false from decide_eq_false (fun q => by have := q.1; omega), if_neg (by decide)]
  · have e0 : nmE t L p = nmS t L p := by
      unfold nmE
      by_cases c1 : nmS t L p < L
      · rw [rn_s c1, if_neg (fun q => c ⟨c1, q⟩)]
      · rw [show nmS t L p = L by omega, rn_L]
    have z : inL L (txF t) (nmS t L p) = false := by
      by_cases c1 : nmS t L p < L
      · rw [inL_t c1]; exact Bool.not_eq_true _ |>.mp (fun q => c ⟨c1, q⟩)
      · exact inL_f c1
    rw [z, b2_0, if_pos rfl, f_X12_number_28, show nmO t L p lo hi = false from decide_eq_false (fun q => by have := q.1; omega), if_neg (by decide)]
def mtN (t : Nat → Nat) (L p k : Nat) : Nat → Bool
  | 0 => decide (tkE t L p - p ≤ 5)
  | j + 1 => mtN t L p k j && wmQ t L p k j
theorem mtN_f {p k : Nat} : ∀ (d j : Nat), mtN t L p k j = false → mtN t L p k (j + d) = false
  | 0, _, h => h
  | d + 1, j, h => by rw [← Nat.add_assoc, mtN, mtN_f d j h, Bool.false_and]
theorem wm_mt {p k : Nat} (h : p < L ∧ txL t p = true) : wmB t L p k = mtN t L p k 5 := by
  unfold wmB
  rw [decide_eq_true h.1, h.2, Bool.true_and, Bool.true_and]
  simp only [mtN, Bool.and_assoc]
theorem i5 {g c : Nat} : (5 : Int32) * nI g + nI c = nI (5 * g + c) := by rw [show (5 : Int32) = nI 5 from rfl, pk_mul, nI_add]
theorem mIsWord_lp (C : RC w L t) {p k : Nat} (hp : p ≤ L) (hk : k < 5) : ∀ (d j fuel : Nat), j + d = 5 → d < fuel → f_X12_isWord_21 fuel 95 (nI k) (b2 (mtN t L p k j)) (nI j) (az w (nI p) (nI (tkE t L p))) = some (b2 (mtN t L p k 5), az w (nI p) (nI (tkE t L p))) := by
  have hL := C.2.1
  obtain ⟨e1, e2⟩ := tkE_b (t := t) hp
  intro d
  induction d with
  | zero =>
    intro j fuel hj hf
    obtain ⟨f', rfl⟩ : ∃ f, fuel = f + 1 := ⟨fuel - 1, by omega⟩
    obtain rfl : j = 5 := by omega
    rw [f_X12_isWord_21, if_pos (by decide), f_X12_isWord_87]
    cases mtN t L p k 5
    · exact rZ0
    · exact rZ1
  | succ d ih =>
    intro j fuel hj hf
    obtain ⟨f', rfl⟩ : ∃ f, fuel = f + 1 := ⟨fuel - 1, by omega⟩
    rw [f_X12_isWord_21, if_neg (show ¬ (5 : Int32) ≤ nI j from nI_ge (b := 5) (by omega) (by decide))]
    cases hb : mtN t L p k j with
    | false =>
      have := mtN_f (t := t) (L := L) (p := p) (k := k) (5 - j) j hb
      rw [show j + (5 - j) = 5 by omega] at this
      rw [b2_0, if_pos rfl, f_X12_isWord_87, this, b2_0, rZ0]
    | true =>
      have i2 := ih (j + 1) f' (by omega) (by omega)
      rw [mtN, hb, Bool.true_and] at i2
      have fin : ∀ x : Int32, (x = if p + j < tkE t L p then nI (t (p + j)) else 0) → f_X12_isWord_58 (f_X12_isWord_21 f') 95 (nI k) (nI j) x (az w (nI p) (nI (tkE t L p))) = some (b2 (mtN t L p k 5), az w (nI p) (nI (tkE t L p))) := fun x hx => by
        rw [f_X12_isWord_58, C.z.1.rf 95 12 7 100 (by decide) (by decide), i5, C.z.1.ld 100 25 (by decide) (by decide) (by omega) (by decide), C.z.2.2.2.2 _ (by omega), hx]
        by_cases c : (if p + j < tkE t L p then nI (t (p + j)) else 0) = WDL.getD (5 * k + j) 0
        · rw [if_pos c, f_X12_isWord_80, nI_1]
          rw [show wmQ t L p k j = true from decide_eq_true c, b2_1] at i2
          exact i2
        · rw [if_neg c, f_X12_isWord_80, nI_1]
          rw [show wmQ t L p k j = false from decide_eq_false c, b2_0] at i2
          exact i2
      rw [b2_1, if_neg (by decide), C.z.g, C.z.g, az_8, az_9, nI_add]
      by_cases c : p + j < tkE t L p
      · rw [if_neg (nI_ge c (by omega)), C.z.r, C.z.g, az_8, nI_add, C.z.ld (by omega)]
        exact fin _ (by rw [if_pos c])
      · rw [if_pos (nI_le (by omega) (by omega))]
        exact fin _ (by rw [if_neg c])
theorem mIsWord_eq (C : RC w L t) {p k : Nat} (hp : p ≤ L) (hk : k < 5) : f_X12_isWord 95 (nI k) (az w (nI p) (nI (tkE t L p))) = some (b2 (mtN t L p k 5), az w (nI p) (nI (tkE t L p))) := by
  have hL := C.2.1
  obtain ⟨e1, e2⟩ := tkE_b (t := t) hp
  have l := mIsWord_lp C hp hk 5 0 4096 (by omega) (by omega)
  unfold f_X12_isWord
  rw [C.z.g, C.z.g, az_8, az_9, pk_sub e1]
  by_cases c : tkE t L p - p ≤ 5
  · rw [mtN, decide_eq_true c, b2_1] at l
    rw [if_neg (show ¬ (5 : Int32) < nI (tkE t L p - p) from nI_nlt (a := 5) c (by decide)), f_X12_isWord_18]
    exact l
  · rw [mtN, decide_eq_false c, b2_0] at l
    rw [if_pos (show (5 : Int32) < nI (tkE t L p - p) from nI_lt (a := 5) (by omega) (by omega)), f_X12_isWord_18]
    exact l
theorem wordHere_eq (C : RC w L t) {p : Nat} (hp : p ≤ L) : f_X12_wordHere 95 (az w (nI p) (nI (tkE t L p))) = some (ff (fun k => wmB t L p k = true) (fun k => nI k) (-1) 5 0, az w (nI p) (nI (tkE t L p))) := by
  have hL := C.2.1
  unfold f_X12_wordHere
  refine (lpF (n := 5) (c := fun k => wmB t L p k = true) (r := fun k => some (nI k, az w (nI p) (nI (tkE t L p)))) (z := some ((-1 : Int32), az w (nI p) (nI (tkE t L p)))) (F := fun f k => f_X12_wordHere_2 f 95 (nI k) (az w (nI p) (nI (tkE t L p)))) (fun f k hk => ?_) (fun f => ?_) 4096 (by omega)).trans (ff_map (fun x => some (x, az w (nI p) (nI (tkE t L p)))) 5 0)
  · show f_X12_wordHere_2 (f + 1) _ _ _ = _
    rw [f_X12_wordHere_2, if_neg (show ¬ (5 : Int32) ≤ nI k from nI_ge (b := 5) hk (by decide)), C.z.g, az_8, mc_t C.z.1, isLetter_eq C.z hp, cal_t]
    by_cases c : p < L ∧ txL t p = true
    · rw [inL_t c.1, c.2, b2_1, if_neg (by decide), mc_t C.z.1, mIsWord_eq C hp hk, cal_t, wm_mt c]
      cases mtN t L p k 5 with
      | true => rw [b2_1, if_neg (by decide), if_pos rfl]
      | false => rw [b2_0, if_pos rfl, if_neg (by decide), f_X12_wordHere_28, nI_1]
    · have z : inL L (txL t) p = false := by
        by_cases c1 : p < L
        · rw [inL_t c1]; exact Bool.not_eq_true _ |>.mp (fun q => c ⟨c1, q⟩)
        · exact inL_f c1
      rw [z, b2_0, if_pos rfl, f_X12_wordHere_28, nI_1, wm_no c, if_neg (by decide)]
  · show f_X12_wordHere_2 (f + 1) _ _ _ = _
    rw [f_X12_wordHere_2, if_pos (show (5 : Int32) ≤ nI 5 by decide)]
end U1
