/-! the fewest HOURS for just so much -/
def rp (y : Nat → Nat) (N g : Nat) : Nat → Nat → Prop
  | 0, b => b = 0
  | m + 1, b => ∃ j, g ≤ j ∧ j < N ∧ 0 < y j ∧ y j ≤ b ∧ rp y N g m (b - y j)
noncomputable def op (y : Nat → Nat) (N B g b : Nat) : Nat := @dite Nat (∃ m, rp y N g m b) (Classical.propDecidable _) (fun h => Classical.choose (pk_least _ h)) (fun _ => B)
section RP
variable {y : Nat → Nat} {N B g : Nat}
theorem rp_le : ∀ (m b : Nat), rp y N g m b → m ≤ b
  | 0, _, _ => Nat.zero_le _
  | m + 1, b, ⟨j, _, _, h0, h1, h2⟩ => by
    have := rp_le m _ h2
    omega
theorem rp_add {j m b : Nat} (h1 : g ≤ j) (h2 : j < N) (h0 : 0 < y j) (h : rp y N g m b) : rp y N g (m + 1) (b + y j) := ⟨j, h1, h2, h0, by omega, by rw [Nat.add_sub_cancel]; exact h⟩
theorem rp_put {j m b : Nat} (h1 : g ≤ j) (h2 : j < N) (h0 : 0 < y j) (hb : y j ≤ b) (h : rp y N g m (b - y j)) : rp y N g (m + 1) b := ⟨j, h1, h2, h0, hb, h⟩
theorem rp_adds {j m b : Nat} (h1 : g ≤ j) (h2 : j < N) (h0 : 0 < y j) (h : rp y N g m b) : ∀ t, rp y N g (m + t) (b + t * y j)
  | 0 => by rw [Nat.zero_mul]; exact h
  | t + 1 => by
    have := rp_add h1 h2 h0 (rp_adds h1 h2 h0 h t)
    rw [Nat.add_mul, Nat.one_mul, ← Nat.add_assoc, ← Nat.add_assoc]
    exact this
theorem rp_mono {g' : Nat} (hg : g ≤ g') : ∀ (m b : Nat), rp y N g' m b → rp y N g m b
  | 0, _, h => h
  | m + 1, _, ⟨j, a, b, c, d, e⟩ => ⟨j, by omega, b, c, d, rp_mono hg m _ e⟩
theorem rp_split (hg : g < N) : ∀ (m b : Nat), rp y N g m b → rp y N (g + 1) m b ∨ ∃ m', m = m' + 1 ∧ 0 < y g ∧ y g ≤ b ∧ rp y N g m' (b - y g)
  | 0, _, h => Or.inl h
  | m + 1, b, ⟨j, a1, a2, a3, a4, a5⟩ => by
    by_cases e : j = g
    · subst e
      exact Or.inr ⟨m, rfl, a3, a4, a5⟩
    · rcases rp_split hg m _ a5 with h | ⟨m', e1, e2, e3, e4⟩
      · exact Or.inl ⟨j, by omega, a2, a3, a4, h⟩
      · subst e1
        exact Or.inr ⟨m' + 1, rfl, e2, by omega, ⟨j, a1, a2, a3, by omega, by rw [Nat.sub_right_comm]; exact e4⟩⟩
theorem op_yes {b : Nat} (h : ∃ m, rp y N g m b) : rp y N g (op y N B g b) b ∧ ∀ m, rp y N g m b → op y N B g b ≤ m := by
  unfold op
  rw [dif_pos h]
  have := Classical.choose_spec (pk_least _ h)
  exact ⟨this.1, fun m hm => Nat.le_of_not_lt (fun q => this.2 m q hm)⟩
theorem op_no {b : Nat} (h : ¬ ∃ m, rp y N g m b) : op y N B g b = B := by
  unfold op
  rw [dif_neg h]
/-- less than B: it is one -/
theorem op_lt {b : Nat} (h : op y N B g b < B) : ∃ m, rp y N g m b := Classical.byContradiction (fun q => by rw [op_no q] at h; omega)
theorem op_le {b : Nat} (hb : b ≤ 60) (hB : 60 ≤ B) : op y N B g b ≤ B := by
  by_cases h : ∃ m, rp y N g m b
  · have := rp_le _ _ (op_yes (B := B) h).1
    omega
  · rw [op_no h]; exact Nat.le_refl _
theorem op_last {b : Nat} : op y N B N b = if b = 0 then 0 else B := by
  by_cases h : b = 0
  · subst h
    rw [if_pos rfl]
    have := (op_yes (y := y) (N := N) (B := B) (g := N) (b := 0) ⟨0, rfl⟩).2 0 rfl
    omega
  · rw [if_neg h]
    refine op_no (fun ⟨m, q⟩ => ?_)
    cases m with
    | zero => exact h q
    | succ m =>
      obtain ⟨j, a, b, -⟩ := q
      omega
theorem op_step {b : Nat} (hg : g < N) (hb : b ≤ 60) : op y N 999 g b = if (if 0 < y g ∧ y g ≤ b then 1 + op y N 999 g (b - y g) else 999) < op y N 999 (g + 1) b then (if 0 < y g ∧ y g ≤ b then 1 + op y N 999 g (b - y g) else 999) else op y N 999 (g + 1) b := by
  have hu := op_le (y := y) (N := N) (B := 999) (g := g + 1) (b := b) hb (by decide)
  generalize hW : (if 0 < y g ∧ y g ≤ b then 1 + op y N 999 g (b - y g) else 999) = W
  -- a W that is small is one
  have hw : W < 999 → rp y N g W b := fun q => by
    by_cases c : 0 < y g ∧ y g ≤ b
    · rw [if_pos c] at hW
      have f := op_yes (B := 999) (op_lt (y := y) (N := N) (B := 999) (g := g) (b := b - y g) (by omega))
      rw [← hW, Nat.add_comm]
      exact rp_put (Nat.le_refl _) hg c.1 c.2 f.1
    · rw [if_neg c] at hW; omega
  by_cases h : ∃ m, rp y N g m b
  · obtain ⟨v1, v2⟩ := op_yes (B := 999) h
    have vb := rp_le _ _ v1
    rcases rp_split hg _ _ v1 with s | ⟨m', e1, e2, e3, e4⟩
    · obtain ⟨u1, u2⟩ := op_yes (B := 999) ⟨_, s⟩
      have a1 := u2 _ s
      have a2 := v2 _ (rp_mono (Nat.le_succ g) _ _ u1)
      have a3 : ¬ W < op y N 999 (g + 1) b := fun q => by
        have := v2 _ (hw (by omega))
        omega
      rw [if_neg a3]
      omega
    · have c : 0 < y g ∧ y g ≤ b := ⟨e2, e3⟩
      have a1 : op y N 999 g (b - y g) ≤ m' := (op_yes ⟨_, e4⟩).2 _ e4
      have eW : W = 1 + op y N 999 g (b - y g) := by rw [← hW, if_pos c]
      have a2 := v2 _ (hw (by omega))
      by_cases q : W < op y N 999 (g + 1) b
      · rw [if_pos q]; omega
      · rw [if_neg q]
        have f := op_yes (B := 999) (op_lt (y := y) (N := N) (B := 999) (g := g + 1) (b := b) (by omega))
        have := v2 _ (rp_mono (Nat.le_succ g) _ _ f.1)
        omega
  · have e1 : op y N 999 (g + 1) b = 999 := op_no (fun ⟨m, q⟩ => h ⟨m, rp_mono (Nat.le_succ g) _ _ q⟩)
    rw [op_no h, e1]
    by_cases q : W < 999
    · exact absurd ⟨_, hw q⟩ h
    · rw [if_neg q]
end RP
/-- the least over the GOODS below k -/
def mnF (y F : Nat → Nat) (b : Nat) : Nat → Nat
  | 0 => 1000
  | k + 1 => if 0 < y k ∧ y k ≤ b then min (mnF y F b k) (F (b - y k) + 1) else mnF y F b k
section MN
variable {y F : Nat → Nat} {N b : Nat}
theorem mnF_top : ∀ k, mnF y F b k ≤ 1000
  | 0 => Nat.le_refl _
  | k + 1 => by
    have := mnF_top k
    rw [mnF]
    split <;> omega
theorem mnF_le {j : Nat} (h0 : 0 < y j) (h1 : y j ≤ b) : ∀ k, j < k → mnF y F b k ≤ F (b - y j) + 1
  | 0, h => absurd h (by omega)
  | k + 1, h => by
    rw [mnF]
    by_cases e : j = k
    · subst e
      rw [if_pos ⟨h0, h1⟩]; omega
    · have := mnF_le h0 h1 k (by omega)
      split <;> omega
theorem mnF_ex : ∀ k, mnF y F b k = 1000 ∨ ∃ j, j < k ∧ 0 < y j ∧ y j ≤ b ∧ mnF y F b k = F (b - y j) + 1
  | 0 => Or.inl rfl
  | k + 1 => by
    rw [mnF]
    by_cases c : 0 < y k ∧ y k ≤ b
    · rw [if_pos c]
      by_cases q : mnF y F b k ≤ F (b - y k) + 1
      · rw [Nat.min_eq_left q]
        exact (mnF_ex k).imp id (fun ⟨j, a, r⟩ => ⟨j, by omega, r⟩)
      · rw [Nat.min_eq_right (by omega)]
        exact Or.inr ⟨k, by omega, c.1, c.2, rfl⟩
    · rw [if_neg c]
      exact (mnF_ex k).imp id (fun ⟨j, a, r⟩ => ⟨j, by omega, r⟩)
theorem mnF_op (h0 : 0 < b) (hb : b ≤ 60) : mnF y (op y N 1000 0) b N = op y N 1000 0 b := by
  have top := mnF_top (y := y) (F := op y N 1000 0) (b := b) N
  by_cases h : ∃ m, rp y N 0 m b
  · obtain ⟨v1, v2⟩ := op_yes (B := 1000) h
    have vb := rp_le _ _ v1
    have le : mnF y (op y N 1000 0) b N ≤ op y N 1000 0 b := by
      generalize op y N 1000 0 b = v at v1 vb
      cases v with
      | zero => exact absurd v1 (by show ¬ b = 0; omega)
      | succ v' =>
        obtain ⟨j, -, jN, j0, jb, hr⟩ := v1
        have a := mnF_le (F := op y N 1000 0) j0 jb N jN
        have b := (op_yes (B := 1000) ⟨_, hr⟩).2 _ hr
        omega
    rcases mnF_ex (y := y) (F := op y N 1000 0) (b := b) N with e | ⟨j, jN, j0, jb, e⟩
    · omega
    · have f := op_yes (B := 1000) (op_lt (y := y) (N := N) (B := 1000) (g := 0) (b := b - y j) (by omega))
      have := v2 _ (rp_put (Nat.zero_le _) jN j0 jb f.1)
      omega
  · rw [op_no h]
    rcases mnF_ex (y := y) (F := op y N 1000 0) (b := b) N with e | ⟨j, jN, j0, jb, e⟩
    · exact e
    · have f := op_yes (B := 1000) (op_lt (y := y) (N := N) (B := 1000) (g := 0) (b := b - y j) (by omega))
      exact absurd ⟨_, rp_put (Nat.zero_le _) jN j0 jb f.1⟩ h
end MN
def stF (F : Nat → Nat) (q l : Nat) : Prop := 0 < q ∧ q ≤ l ∧ F (l - q) + 1 = F l
def kfN (F : Nat → Nat) (q : Nat) : Nat → Nat → Nat
  | 0, _ => 0
  | d + 1, l => if 0 < q ∧ q ≤ l ∧ F (l - q) + 1 = F l then kfN F q d (l - q) + 1 else 0
section KF
variable {y : Nat → Nat} {N g : Nat}
def NSt (y : Nat → Nat) (N g l : Nat) : Prop := ∀ j, j < g → ¬ stF (op y N 1000 0) (y j) l
theorem F_up {j l : Nat} (hj : j < N) (h0 : 0 < y j) (hl : y j ≤ l) (h : ∃ m, rp y N 0 m (l - y j)) : op y N 1000 0 l ≤ op y N 1000 0 (l - y j) + 1 := by
  have f := op_yes (B := 1000) h
  have := rp_put (Nat.zero_le _) hj h0 hl f.1
  exact (op_yes ⟨_, this⟩).2 _ this
theorem NSt_sub {l g' : Nat} (hl : l ≤ 60) (hf : ∃ m, rp y N 0 m l) (hg : g < N) (hg' : g' ≤ N) (hs : stF (op y N 1000 0) (y g) l) (h : NSt y N g' l) : NSt y N g' (l - y g) := by
  intro j hj ⟨q0, q1, q2⟩
  obtain ⟨s0, s1, s2⟩ := hs
  have fb := rp_le _ _ (op_yes (B := 1000) hf).1
  have f2 := op_yes (B := 1000) (op_lt (y := y) (N := N) (B := 1000) (g := 0) (b := l - y g - y j) (by omega))
  have f3 := rp_add (Nat.zero_le g) hg s0 f2.1
  rw [show l - y g - y j + y g = l - y j by omega] at f3
  have a := (op_yes (B := 1000) ⟨_, f3⟩).2 _ f3
  have b := F_up (N := N) (y := y) (j := j) (l := l) (by omega) q0 (by omega) ⟨_, f3⟩
  exact h j hj ⟨q0, by omega, by omega⟩
theorem kfN_all (hg : g < N) : ∀ (d l : Nat), l ≤ d → l ≤ 60 → (∃ m, rp y N 0 m l) → NSt y N g l → kfN (op y N 1000 0) (y g) d l * y g ≤ l ∧ op y N 1000 0 (l - kfN (op y N 1000 0) (y g) d l * y g) + kfN (op y N 1000 0) (y g) d l = op y N 1000 0 l ∧ NSt y N (g + 1) (l - kfN (op y N 1000 0) (y g) d l * y g) ∧ (∃ m, rp y N 0 m (l - kfN (op y N 1000 0) (y g) d l * y g))
  | 0, l, hd, hl, hf, hn => by
    obtain rfl : l = 0 := by omega
    rw [kfN, Nat.zero_mul, Nat.sub_zero]
    refine ⟨Nat.le_refl _, rfl, fun j hj => ?_, hf⟩
    intro ⟨q0, q1, q2⟩
    omega
  | d + 1, l, hd, hl, hf, hn => by
    rw [kfN]
    by_cases c : 0 < y g ∧ y g ≤ l ∧ op y N 1000 0 (l - y g) + 1 = op y N 1000 0 l
    · rw [if_pos c]
      have fb := rp_le _ _ (op_yes (B := 1000) hf).1
      have f2 := op_lt (y := y) (N := N) (B := 1000) (g := 0) (b := l - y g) (by omega)
      obtain ⟨i1, i2, i3, i4⟩ := kfN_all hg d (l - y g) (by omega) (by omega) f2 (NSt_sub hl hf hg (by omega) c hn)
      generalize kfN (op y N 1000 0) (y g) d (l - y g) = k at i1 i2 i3 i4
      have e : l - (k + 1) * y g = l - y g - k * y g := by rw [Nat.add_mul, Nat.one_mul]; omega
      rw [e]
      exact ⟨by rw [Nat.add_mul, Nat.one_mul]; omega, by omega, i3, i4⟩
    · rw [if_neg c, Nat.zero_mul, Nat.sub_zero]
      refine ⟨Nat.zero_le _, rfl, fun j hj => ?_, hf⟩
      by_cases e : j = g
      · subst e; exact c
      · exact hn j (by omega)
theorem NSt_eq {l : Nat} (hl : l ≤ 60) (hf : ∃ m, rp y N 0 m l) : ∀ g, g ≤ N → NSt y N g l → rp y N g (op y N 1000 0 l) l ∧ op y N 999 g l = op y N 1000 0 l := by
  have h : ∀ g, g ≤ N → NSt y N g l → rp y N g (op y N 1000 0 l) l := by
    intro g
    induction g with
    | zero => intro _ _; exact (op_yes hf).1
    | succ g ih =>
      intro hg hn
      rcases rp_split (by omega) _ _ (ih (by omega) (fun j hj => hn j (by omega))) with s | ⟨m', e1, e2, e3, e4⟩
      · exact s
      · have f := rp_mono (Nat.zero_le g) _ _ e4
        have a := (op_yes (B := 1000) ⟨_, f⟩).2 _ f
        have b := F_up (N := N) (y := y) (j := g) (l := l) (by omega) e2 e3 ⟨_, f⟩
        exact absurd ⟨e2, e3, by omega⟩ (hn g (by omega))
  intro g hg hn
  have r := h g hg hn
  obtain ⟨a, b⟩ := op_yes (B := 999) ⟨_, r⟩
  have c := b _ r
  have d := (op_yes (B := 1000) hf).2 _ (rp_mono (Nat.zero_le g) _ _ a)
  exact ⟨r, by omega⟩
theorem kfN_ref {l k : Nat} (hl : l ≤ 60) (hf : ∃ m, rp y N 0 m l) (hg : g < N) (hn : NSt y N g l) (k1 : k * y g ≤ l) (k2 : op y N 1000 0 (l - k * y g) + k = op y N 1000 0 l) (k3 : NSt y N (g + 1) (l - k * y g)) (k4 : ∃ m, rp y N 0 m (l - k * y g)) : k + op y N 999 (g + 1) (l - k * y g) = op y N 999 g l ∧ ∀ e, 0 < e → 0 < y g → (k + e) * y g ≤ l → ¬ (k + e) + op y N 999 (g + 1) (l - (k + e) * y g) = op y N 999 g l := by
  have e1 := (NSt_eq hl hf g (by omega) hn).2
  have e2 := (NSt_eq (by omega) k4 (g + 1) (by omega) k3).2
  rw [e1, e2]
  refine ⟨by omega, fun e he hq hle q => ?_⟩
  have fb := rp_le _ _ (op_yes (B := 1000) hf).1
  have f := (op_yes (B := 999) (op_lt (y := y) (N := N) (B := 999) (g := g + 1) (b := l - (k + e) * y g) (by omega))).1
  have f2 := rp_adds (Nat.zero_le g) hg hq (rp_mono (Nat.zero_le (g + 1)) _ _ f) (e - 1)
  have e3 : (k + e) * y g = k * y g + (e - 1) * y g + y g := by
    rw [← Nat.add_mul, ← Nat.succ_mul]
    congr 1
    omega
  rw [e3] at f2 hle q
  rw [show l - (k * y g + (e - 1) * y g + y g) + (e - 1) * y g = l - k * y g - y g by omega] at f2
  have a := (op_yes (B := 1000) ⟨_, f2⟩).2 _ f2
  have b := F_up (N := N) (y := y) (j := g) (l := l - k * y g) hg hq (by omega) ⟨_, f2⟩
  exact k3 g (by omega) ⟨hq, by omega, by omega⟩
end KF
