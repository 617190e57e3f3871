/-! the most money: what is told of it -/
theorem sm32_add (f : Nat → Int32) (a : Nat) : ∀ b, sm32 f (a + b) = sm32 f a + sm32 (fun j => f (a + j)) b
  | 0 => (Int32.add_zero _).symm
  | b + 1 => by rw [← Nat.add_assoc, sm32, sm32_add f a b, sm32, Int32.add_assoc]
def brI (S : Nat → Int32) (g m : Nat) : Int32 := sm32 (fun k => fk (S (20 + g)).toNatClampNeg (S (32 + g)) (S (6 + g) + nI k)) m
def mxI (f : Nat → Int32) : Nat → Int32
  | 0 => 0
  | i + 1 => f_mmax (mxI f i) (f i)
theorem mmax_l (a b : Int32) : a ≤ f_mmax a b := by
  unfold f_mmax
  by_cases h : a < b
  · rw [if_pos h]; exact Int32.le_of_lt h
  · rw [if_neg h]; exact Int32.le_refl _
theorem mxI_pos (f : Nat → Int32) : ∀ i, 0 ≤ mxI f i
  | 0 => Int32.le_refl _
  | i + 1 => Int32.le_trans (mxI_pos f i) (mmax_l _ _)
theorem mxI_ex {f : Nat → Int32} (h0 : 0 ≤ f 0) : ∀ i, ∃ j, j ≤ i ∧ f j = mxI f (i + 1)
  | 0 => by
    refine ⟨0, Nat.le_refl _, ?_⟩
    rw [mxI, mxI]
    unfold f_mmax
    by_cases h : 0 < f 0
    · rw [if_pos h]
    · rw [if_neg h]; exact Int32.le_antisymm (Int32.not_lt.mp h) h0
  | i + 1 => by
    obtain ⟨j, hj, e⟩ := mxI_ex h0 i
    rw [mxI]
    unfold f_mmax
    by_cases h : mxI f (i + 1) < f (i + 1)
    · exact ⟨i + 1, Nat.le_refl _, by rw [if_pos h]⟩
    · exact ⟨j, by omega, by rw [if_neg h]; exact e⟩
theorem mxI_cong {f f' : Nat → Int32} : ∀ {n : Nat}, (∀ k, k < n → f k = f' k) → mxI f n = mxI f' n
  | 0, _ => rfl
  | n + 1, h => by rw [mxI, mxI, mxI_cong (fun k hk => h k (by omega)), h n (by omega)]
def moT (S : Nat → Int32) (N : Nat) : Nat → Nat → Int32
  | 0, _ => 0
  | d + 1, m => mxI (fun x => brI S (N - (d + 1)) (x * yN S (N - (d + 1))) + moT S N d (m - x)) (m + 1)
def MO (S : Nat → Int32) (N g m : Nat) : Int32 := moT S N (N - g) m
def mof (S : Nat → Int32) (N g m : Nat) : Nat → Int32 := fun x => brI S g (x * yN S g) + MO S N (g + 1) (m - x)
theorem MO_N {S : Nat → Int32} {N m : Nat} : MO S N N m = 0 := by unfold MO; rw [Nat.sub_self]; rfl
theorem MO_s {S : Nat → Int32} {N g m : Nat} (hg : g < N) : MO S N g m = mxI (mof S N g m) (m + 1) := by
  unfold MO
  rw [show N - g = (N - (g + 1)) + 1 by omega, moT, show N - (N - (g + 1) + 1) = g by omega]
  rfl
theorem MO_pos {S : Nat → Int32} {N g m : Nat} (hg : g ≤ N) : 0 ≤ MO S N g m := by
  by_cases e : g = N
  · rw [e, MO_N]; exact Int32.le_refl _
  · rw [MO_s (by omega)]; exact mxI_pos _ _
theorem mof_0 {S : Nat → Int32} {N g m : Nat} (hg : g < N) : 0 ≤ mof S N g m 0 := by
  have : mof S N g m 0 = MO S N (g + 1) m := by
    unfold mof
    rw [Nat.zero_mul, Nat.sub_zero]
    show (0 : Int32) + _ = _
    rw [Int32.zero_add]
  rw [this]
  exact MO_pos (by omega)
/-- the most from h down that does, or 0 -/
def wyN (f : Nat → Int32) (c : Int32) : Nat → Nat
  | 0 => 0
  | h + 1 => if f (h + 1) = c then h + 1 else wyN f c h
theorem wyN_le (f : Nat → Int32) (c : Int32) : ∀ h, wyN f c h ≤ h
  | 0 => Nat.le_refl _
  | h + 1 => by
    have := wyN_le f c h
    rw [wyN]
    split <;> omega
def lbN (S : Nat → Int32) (N n : Nat) : Nat → Nat
  | 0 => n
  | g + 1 => lbN S N n g - wyN (mof S N g (lbN S N n g)) (MO S N g (lbN S N n g)) (lbN S N n g)
def wbN (S : Nat → Int32) (N n g : Nat) : Nat := wyN (mof S N g (lbN S N n g)) (MO S N g (lbN S N n g)) (lbN S N n g)
def wbI (S : Nat → Int32) (N n g : Nat) : Int32 := nI (wbN S N n g)
theorem lbN_le (S : Nat → Int32) (N n : Nat) : ∀ g, lbN S N n g ≤ n
  | 0 => Nat.le_refl _
  | g + 1 => by
    have := lbN_le S N n g
    rw [lbN]
    omega
theorem brI_s {S : Nat → Int32} {g x q : Nat} : brI S g ((x + 1) * q) = brI S g (x * q) + sm32 (fun j => fk (S (20 + g)).toNatClampNeg (S (32 + g)) (S (6 + g) + nI (x * q) + nI j)) q := by
  unfold brI
  rw [Nat.add_mul, Nat.one_mul, sm32_add]
  congr 1
  refine sm32_cong (fun j hj => ?_)
  rw [Int32.add_assoc, nI_add]
section MSB
variable {w : Wd} {α : Type}
theorem MS.g6 (M : MS w) {g : Nat} (hg : g < 6) {f : Nat → Option α} : lR w 76 19 (nI g) f = f (77 + g) := by
  rw [lR_t (M.oo 76 19 (by decide)) (inb_of (M.nn 76 6 (by decide)) hg (by decide)), nI_clamp (by omega)]
  rcases six hg with rfl | rfl | rfl | rfl | rfl | rfl
  · rw [M.rr 76 0 77 (by decide), Option.bind_some]
  · rw [M.rr 76 1 78 (by decide), Option.bind_some]
  · rw [M.rr 76 2 79 (by decide), Option.bind_some]
  · rw [M.rr 76 3 80 (by decide), Option.bind_some]
  · rw [M.rr 76 4 81 (by decide), Option.bind_some]
  · rw [M.rr 76 5 82 (by decide), Option.bind_some]
theorem MS.m7 (M : MS w) {g : Nat} (hg : g < 7) {f : Nat → Option α} : lR w 83 19 (nI g) f = f (84 + g) := by
  rw [lR_t (M.oo 83 19 (by decide)) (inb_of (M.nn 83 7 (by decide)) hg (by decide)), nI_clamp (by omega)]
  rcases seven hg with rfl | rfl | rfl | rfl | rfl | rfl | rfl
  · rw [M.rr 83 0 84 (by decide), Option.bind_some]
  · rw [M.rr 83 1 85 (by decide), Option.bind_some]
  · rw [M.rr 83 2 86 (by decide), Option.bind_some]
  · rw [M.rr 83 3 87 (by decide), Option.bind_some]
  · rw [M.rr 83 4 88 (by decide), Option.bind_some]
  · rw [M.rr 83 5 89 (by decide), Option.bind_some]
  · rw [M.rr 83 6 90 (by decide), Option.bind_some]
theorem MS.row (M : MS w) {a : Nat} (ha : 77 ≤ a ∧ a < 91 ∧ a ≠ 83) : isO w a 14 = true ∧ (wS w a).2 = 13 := by
  have h : ∀ b, b < 14 → b ≠ 6 → ((decide (77 + b < 107) && (SHL.getD (77 + b) (99, 0)).1 == 14) = true ∧ (decide (77 + b < 107) && (SHL.getD (77 + b) (99, 0)).2 == 13) = true) := by decide
  obtain ⟨h1, h2⟩ := h (a - 77) (by omega) (by omega)
  rw [show 77 + (a - 77) = a by omega] at h1 h2
  exact ⟨M.oo a 14 h1, M.nn a 13 h2⟩
theorem ms_lr (M : MS w) {a i : Nat} (ha : 77 ≤ a ∧ a < 91 ∧ a ≠ 83) (hi : i < 13) {f : Int32 → Option α} : lI w a 14 (nI i) f = f (wI w a i) := by
  obtain ⟨h1, h2⟩ := M.row ha
  rw [lI_t h1 (inb_of h2 hi (by decide)), nI_clamp (by omega)]
theorem ms_sr (M : MS w) {a i : Nat} (ha : 77 ≤ a ∧ a < 91 ∧ a ≠ 83) (hi : i < 13) {x : Int32} {f : Wd → Option α} : aI w a 14 (nI i) x f = f (cW w a (upd (wI w a) i x)) := by
  obtain ⟨h1, h2⟩ := M.row ha
  rw [aI_t h1 (inb_of h2 hi (by decide)), nI_clamp (by omega), sI_cW]
end MSB
/-- what GrindMill's plans stand on -/
def CX (w : Wd) (h : Nat) (S : Nat → Int32) : Prop := MS w ∧ HS w h ∧ HR (wI w) h S ∧ h + 15 ≤ 72 ∧ ∀ g, g < nn S → wI w 74 g = nI (yN S g)
theorem CX.fr {w w' : Wd} {h K : Nat} {S : Nat → Int32} (C : CX w h S) (I : Iv S K) {A : Nat → Prop} (f : Fr A w w') (hA : ∀ a, A a → a = 73 ∨ 75 ≤ a) : CX w' h S := by
  obtain ⟨c1, c2, c3, c4, c5⟩ := C
  refine ⟨c1.to f.1, c2.to f.1, c3.eq I.q4.1 (fun k hk _ _ => f.2.2 _ (fun q => by have := hA _ q; omega)), c4, fun g hg => ?_⟩
  rw [f.2.2 74 (fun q => by have := hA _ q; omega)]
  exact c5 g hg
