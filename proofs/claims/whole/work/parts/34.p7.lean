/-! loops whose state is told by their count, and whole cells -/
theorem lpE {β : Type} {F : Nat → Nat → β} {n : Nat} {r : β} (step : ∀ f i, i < n → F (f + 1) i = F f (i + 1)) (last : ∀ f, F (f + 1) n = r) : ∀ (fuel : Nat), n < fuel → F fuel 0 = r := by
  have h : ∀ d i fuel, i + d = n → d < fuel → F fuel i = r := by
    intro d
    induction d with
    | zero =>
      intro i fuel hi hf
      obtain ⟨f, rfl⟩ : ∃ f, fuel = f + 1 := ⟨fuel - 1, by omega⟩
      rw [show i = n by omega]; exact last f
    | succ d ih =>
      intro i fuel hi hf
      obtain ⟨f, rfl⟩ : ∃ f, fuel = f + 1 := ⟨fuel - 1, by omega⟩
      rw [step f i (by omega)]; exact ih (i + 1) f (by omega) (by omega)
  exact fun fuel hf => h n 0 fuel (by omega) hf
/-- the first place from i on, among d, where c holds -/
def ff {β : Type} (c : Nat → Prop) [∀ i, Decidable (c i)] (r : Nat → β) (z : β) : Nat → Nat → β
  | 0, _ => z
  | d + 1, i => if c i then r i else ff c r z d (i + 1)
theorem lpF {β : Type} {F : Nat → Nat → β} {n : Nat} {c : Nat → Prop} [∀ i, Decidable (c i)] {r : Nat → β} {z : β} (step : ∀ f i, i < n → F (f + 1) i = if c i then r i else F f (i + 1)) (last : ∀ f, F (f + 1) n = z) : ∀ (fuel : Nat), n < fuel → F fuel 0 = ff c r z n 0 := by
  have h : ∀ d i fuel, i + d = n → d < fuel → F fuel i = ff c r z d i := by
    intro d
    induction d with
    | zero =>
      intro i fuel hi hf
      obtain ⟨f, rfl⟩ : ∃ f, fuel = f + 1 := ⟨fuel - 1, by omega⟩
      rw [show i = n by omega]; exact last f
    | succ d ih =>
      intro i fuel hi hf
      obtain ⟨f, rfl⟩ : ∃ f, fuel = f + 1 := ⟨fuel - 1, by omega⟩
      rw [step f i (by omega), ff]
      by_cases hc : c i
      · rw [if_pos hc, if_pos hc]
      · rw [if_neg hc, if_neg hc]; exact ih (i + 1) f (by omega) (by omega)
  exact fun fuel hf => h n 0 fuel (by omega) hf
theorem ff_map {β γ : Type} {c : Nat → Prop} [∀ i, Decidable (c i)] {r : Nat → β} {z : β} (g : β → γ) : ∀ (d i : Nat), ff c (fun i => g (r i)) (g z) d i = g (ff c r z d i)
  | 0, _ => rfl
  | d + 1, i => by
    rw [ff, ff, ff_map g d (i + 1)]
    split <;> rfl
/-- cell a's ints, all at once -/
def cW (w : Wd) (a : Nat) (T : Nat → Int32) : Wd := (wN w, wS w, fun b => if b = a then T else wI w b, wL w, wR w)
section CW
variable {w : Wd} {a b k t : Nat} {T : Nat → Int32} {x i : Int32}
theorem cW_s : wI (cW w a T) a = T := if_pos rfl
theorem cW_o (h : b ≠ a) : wI (cW w a T) b = wI w b := if_neg h
theorem cW_id : cW w a (wI w a) = w := by
  have : (fun b => if b = a then wI w a else wI w b) = wI w := by
    funext b
    by_cases h : b = a
    · rw [if_pos h, h]
    · rw [if_neg h]
  unfold cW
  rw [this]
  rfl
theorem sI_cW : sI w a k x = cW w a (upd (wI w a) k x) := by
  have : (fun b j => if b = a ∧ j = k then x else wI w b j) = (fun b => if b = a then upd (wI w a) k x else wI w b) := by
    funext b j
    by_cases h : b = a
    · subst h
      rw [if_pos rfl]
      by_cases hj : j = k
      · rw [if_pos ⟨rfl, hj⟩, hj, pk_us]
      · rw [if_neg (fun q => hj q.2), pk_un hj]
    · rw [if_neg (fun q => h q.1), if_neg h]
  unfold sI cW
  rw [this]
theorem cW_cW {T' : Nat → Int32} : cW (cW w a T) a T' = cW w a T' := by
  have : (fun b => if b = a then T' else wI (cW w a T) b) = (fun b => if b = a then T' else wI w b) := by
    funext b
    by_cases h : b = a
    · rw [if_pos h, if_pos h]
    · rw [if_neg h, if_neg h, cW_o h]
  unfold cW at *
  rw [this]
  rfl
theorem sIW : sI (cW w a T) a k x = cW w a (upd T k x) := by rw [sI_cW, cW_cW, cW_s]
theorem isO_cW : isO (cW w a T) b t = isO w b t := rfl
theorem inb_cW : inb (cW w a T) b i = inb w b i := rfl
theorem wR_cW : wR (cW w a T) = wR w := rfl
theorem wS_cW : wS (cW w a T) = wS w := rfl
theorem wN_cW : wN (cW w a T) = wN w := rfl
theorem wL_cW : wL (cW w a T) = wL w := rfl
theorem Eqs.cW : Eqs w (cW w a T) := ⟨rfl, rfl, rfl⟩
theorem Fr.cW {A : Nat → Prop} (h : A a) : Fr A w (cW w a T) := ⟨⟨rfl, rfl, rfl⟩, rfl, fun b hb => cW_o (fun q => hb (by rw [q]; exact h))⟩
end CW
/-- the shape of the reference's cells -/
def MS (w : Wd) : Prop := ∃ h0 h1, Sp w h0 h1
theorem MS.to {w w' : Wd} (H : MS w) (e : Eqs w w') : MS w' := by obtain ⟨h0, h1, S⟩ := H; exact ⟨h0, h1, S.to e⟩
theorem MS.cW {w : Wd} (H : MS w) {a : Nat} {T : Nat → Int32} : MS (cW w a T) := H.to Eqs.cW
theorem MS.oo {w : Wd} (H : MS w) (a t : Nat) (ha : (decide (a < 107) && (SHL.getD a (99, 0)).1 == t) = true) : isO w a t = true := by obtain ⟨h0, h1, S⟩ := H; exact S.o a t ha
theorem MS.nn {w : Wd} (H : MS w) (a n : Nat) (ha : (decide (a < 107) && (SHL.getD a (99, 0)).2 == n) = true) : (wS w a).2 = n := by obtain ⟨h0, h1, S⟩ := H; exact S.n a n ha
theorem MS.rr {w : Wd} (H : MS w) (a k v : Nat) (h : (a, k, v) ∈ RFL) : wR w a k = some v := by obtain ⟨h0, h1, S⟩ := H; exact S.r a k v h
section MSL
variable {w : Wd}
theorem MS.o (H : MS w) : isO w 95 12 = true := H.oo 95 12 (by decide)
theorem MS.o0 (H : MS w) : isO w 96 14 = true := H.oo 96 14 (by decide)
theorem MS.o1 (H : MS w) : isO w 97 15 = true := H.oo 97 15 (by decide)
theorem MS.o2 (H : MS w) : isO w 98 14 = true := H.oo 98 14 (by decide)
theorem MS.o5 (H : MS w) : isO w 99 14 = true := H.oo 99 14 (by decide)
theorem MS.o7 (H : MS w) : isO w 100 14 = true := H.oo 100 14 (by decide)
theorem MS.n0 (H : MS w) : (wS w 96).2 = 656 := H.nn 96 656 (by decide)
theorem MS.n1 (H : MS w) : (wS w 97).2 = 2 := H.nn 97 2 (by decide)
theorem MS.n2 (H : MS w) : (wS w 98).2 = 3 := H.nn 98 3 (by decide)
theorem MS.n5 (H : MS w) : (wS w 99).2 = 150 := H.nn 99 150 (by decide)
theorem MS.n7 (H : MS w) : (wS w 100).2 = 25 := H.nn 100 25 (by decide)
theorem MS.r0 (H : MS w) : wR w 95 0 = some 96 := H.rr 95 0 96 (by decide)
theorem MS.r1 (H : MS w) : wR w 95 1 = some 97 := H.rr 95 1 97 (by decide)
theorem MS.r2 (H : MS w) : wR w 95 2 = some 98 := H.rr 95 2 98 (by decide)
theorem MS.r5 (H : MS w) : wR w 95 5 = some 99 := H.rr 95 5 99 (by decide)
theorem MS.r7 (H : MS w) : wR w 95 7 = some 100 := H.rr 95 7 100 (by decide)
/-- the row read and written -/
theorem rd_t {α : Type} {K : Int32 → Option α} (H : MS w) {i : Nat} (hi : i < 656) : lI w 96 14 (nI i) K = K (wI w 96 i) := by rw [lI_t H.o0 (inb_of H.n0 hi (by decide)), nI_clamp (by omega)]
theorem wr_t {α : Type} {K : Wd → Option α} (H : MS w) {i : Nat} {x : Int32} (hi : i < 656) : aI w 96 14 (nI i) x K = K (cW w 96 (upd (wI w 96) i x)) := by rw [aI_t H.o0 (inb_of H.n0 hi (by decide)), nI_clamp (by omega), sI_cW]
theorem mg_t {α : Type} {K : Nat → Option α} (H : MS w) : gR w 95 12 0 K = K 96 := by rw [gR_t H.o, H.r0, Option.bind_some]
theorem mc_t {α β : Type} {o : Option (β × Wd)} {K : β → Wd → Option α} (H : MS w) : calV w 95 12 o K = cal o K := calV_t H.o
end MSL
theorem in_eq (a b c : Int32) (w : Wd) : f_X12_in a b c w = some (if b ≤ a ∧ a ≤ c then 1 else 0, w) := by
  unfold f_X12_in
  by_cases h1 : a < b
  · rw [if_pos h1, f_X12_in_14, f_X12_in_15, rZ0, if_neg (fun q => Int32.not_le.mpr h1 q.1)]
  · rw [if_neg h1]
    by_cases h2 : c < a
    · rw [if_pos h2, f_X12_in_14, f_X12_in_15, rZ0, if_neg (fun q => Int32.not_le.mpr h2 q.2)]
    · rw [if_neg h2, f_X12_in_15, rZ1, if_pos ⟨Int32.not_lt.mp h1, Int32.not_lt.mp h2⟩]
theorem within_eq (a b c : Int32) (w : Wd) : f_X11_within a b c w = some (if b ≤ a ∧ a ≤ c then 1 else 0, w) := by
  unfold f_X11_within
  by_cases h1 : a < b
  · rw [if_pos h1, if_neg (fun q => Int32.not_le.mpr h1 q.1)]
    simp only [f_X11_within_14, f_X11_within_15, rZ0]
  · rw [if_neg h1]
    by_cases h2 : c < a
    · rw [if_pos h2, if_neg (fun q => Int32.not_le.mpr h2 q.2)]
      simp only [f_X11_within_14, f_X11_within_15, rZ0]
    · rw [if_neg h2, if_pos ⟨Int32.not_lt.mp h1, Int32.not_lt.mp h2⟩]
      simp only [f_X11_within_15, rZ1]
