/-! THE WORLD AS FUNCTIONS: cell a has a kind and a length; its ints, longs, references by place -/
abbrev Wd : Type := Nat × (Nat → Nat × Nat) × (Nat → Nat → Int32) × (Nat → Nat → Int64) × (Nat → Nat → Option Nat)
def wN (w : Wd) : Nat := w.1
def wS (w : Wd) : Nat → Nat × Nat := w.2.1
def wI (w : Wd) : Nat → Nat → Int32 := w.2.2.1
def wL (w : Wd) : Nat → Nat → Int64 := w.2.2.2.1
def wR (w : Wd) : Nat → Nat → Option Nat := w.2.2.2.2
def sI (w : Wd) (a k : Nat) (x : Int32) : Wd := (wN w, wS w, fun b j => if b = a ∧ j = k then x else wI w b j, wL w, wR w)
def sL (w : Wd) (a k : Nat) (x : Int64) : Wd := (wN w, wS w, wI w, fun b j => if b = a ∧ j = k then x else wL w b j, wR w)
def sR (w : Wd) (a k : Nat) (r : Nat) : Wd := (wN w, wS w, wI w, wL w, fun b j => if b = a ∧ j = k then some r else wR w b j)
def nC (w : Wd) (t n : Nat) : Wd := (wN w + 1, fun b => if b = wN w then (t, n) else wS w b, fun b j => if b = wN w then 0 else wI w b j, fun b j => if b = wN w then 0 else wL w b j, fun b j => if b = wN w then none else wR w b j)
def cI (w : Wd) (a0 sp a dp n : Nat) : Wd := (wN w, wS w, fun b j => if b = a ∧ dp ≤ j ∧ j < dp + n then wI w a0 (sp + (j - dp)) else wI w b j, wL w, wR w)
/-- int[m][n] at once: the outer row, then the inner ones -/
def nG (w : Wd) (m n : Nat) : Wd := (wN w + 1 + m, fun b => if b = wN w then (19, m) else if wN w < b ∧ b < wN w + 1 + m then (14, n) else wS w b, fun b j => if wN w ≤ b ∧ b < wN w + 1 + m then 0 else wI w b j, fun b j => if wN w ≤ b ∧ b < wN w + 1 + m then 0 else wL w b j, fun b j => if b = wN w then (if j < m then some (wN w + 1 + j) else none) else if wN w < b ∧ b < wN w + 1 + m then none else wR w b j)
theorem wN_sI (w : Wd) (a k : Nat) (x : Int32) : wN (sI w a k x) = wN w := rfl
theorem wS_sI (w : Wd) (a k : Nat) (x : Int32) : wS (sI w a k x) = wS w := rfl
theorem wL_sI (w : Wd) (a k : Nat) (x : Int32) : wL (sI w a k x) = wL w := rfl
theorem wR_sI (w : Wd) (a k : Nat) (x : Int32) : wR (sI w a k x) = wR w := rfl
theorem wI_sI (w : Wd) (a k : Nat) (x : Int32) (b j : Nat) : wI (sI w a k x) b j = if b = a ∧ j = k then x else wI w b j := rfl
theorem wN_sL (w : Wd) (a k : Nat) (x : Int64) : wN (sL w a k x) = wN w := rfl
theorem wS_sL (w : Wd) (a k : Nat) (x : Int64) : wS (sL w a k x) = wS w := rfl
theorem wI_sL (w : Wd) (a k : Nat) (x : Int64) : wI (sL w a k x) = wI w := rfl
theorem wR_sL (w : Wd) (a k : Nat) (x : Int64) : wR (sL w a k x) = wR w := rfl
theorem wL_sL (w : Wd) (a k : Nat) (x : Int64) (b j : Nat) : wL (sL w a k x) b j = if b = a ∧ j = k then x else wL w b j := rfl
theorem wN_sR (w : Wd) (a k r : Nat) : wN (sR w a k r) = wN w := rfl
theorem wS_sR (w : Wd) (a k r : Nat) : wS (sR w a k r) = wS w := rfl
theorem wI_sR (w : Wd) (a k r : Nat) : wI (sR w a k r) = wI w := rfl
theorem wL_sR (w : Wd) (a k r : Nat) : wL (sR w a k r) = wL w := rfl
theorem wR_sR (w : Wd) (a k r : Nat) (b j : Nat) : wR (sR w a k r) b j = if b = a ∧ j = k then some r else wR w b j := rfl
theorem wN_cI (w : Wd) (a0 sp a dp n : Nat) : wN (cI w a0 sp a dp n) = wN w := rfl
theorem wS_cI (w : Wd) (a0 sp a dp n : Nat) : wS (cI w a0 sp a dp n) = wS w := rfl
theorem wL_cI (w : Wd) (a0 sp a dp n : Nat) : wL (cI w a0 sp a dp n) = wL w := rfl
theorem wR_cI (w : Wd) (a0 sp a dp n : Nat) : wR (cI w a0 sp a dp n) = wR w := rfl
theorem wI_cI (w : Wd) (a0 sp a dp n b j : Nat) : wI (cI w a0 sp a dp n) b j = if b = a ∧ dp ≤ j ∧ j < dp + n then wI w a0 (sp + (j - dp)) else wI w b j := rfl
/-! the words of the decompiled methods -/
def isO (w : Wd) (a t : Nat) : Bool := decide (a < wN w) && (wS w a).1 == t
def inb (w : Wd) (a : Nat) (i : Int32) : Bool := decide (0 ≤ i) && decide (i.toNatClampNeg < (wS w a).2)
def gI {α : Type} (w : Wd) (a t k : Nat) (K : Int32 → Option α) : Option α := if isO w a t then K (wI w a k) else none
def gL {α : Type} (w : Wd) (a t k : Nat) (K : Int64 → Option α) : Option α := if isO w a t then K (wL w a k) else none
def gR {α : Type} (w : Wd) (a t k : Nat) (K : Nat → Option α) : Option α := if isO w a t then (wR w a k).bind K else none
def pI {α : Type} (w : Wd) (a t k : Nat) (x : Int32) (K : Wd → Option α) : Option α := if isO w a t then K (sI w a k x) else none
def pL {α : Type} (w : Wd) (a t k : Nat) (x : Int64) (K : Wd → Option α) : Option α := if isO w a t then K (sL w a k x) else none
def pR {α : Type} (w : Wd) (a t k : Nat) (r : Nat) (K : Wd → Option α) : Option α := if isO w a t then K (sR w a k r) else none
def lI {α : Type} (w : Wd) (a t : Nat) (i : Int32) (K : Int32 → Option α) : Option α := if isO w a t && inb w a i then K (wI w a i.toNatClampNeg) else none
def lR {α : Type} (w : Wd) (a t : Nat) (i : Int32) (K : Nat → Option α) : Option α := if isO w a t && inb w a i then (wR w a i.toNatClampNeg).bind K else none
def aI {α : Type} (w : Wd) (a t : Nat) (i x : Int32) (K : Wd → Option α) : Option α := if isO w a t && inb w a i then K (sI w a i.toNatClampNeg x) else none
def aR {α : Type} (w : Wd) (a t : Nat) (i : Int32) (r tr : Nat) (K : Wd → Option α) : Option α := if isO w a t && inb w a i && isO w r tr then K (sR w a i.toNatClampNeg r) else none
def lenA {α : Type} (w : Wd) (a t : Nat) (K : Int32 → Option α) : Option α := if isO w a t then K (Int32.ofNat (wS w a).2) else none
def nm {α β : Type} (x : α) (K : α → Option β) : Option β := K x
def cal {α β : Type} (o : Option (α × Wd)) (K : α → Wd → Option β) : Option β := o.bind (fun q => K q.1 q.2)
def calV {α β : Type} (w : Wd) (a t : Nat) (o : Option (α × Wd)) (K : α → Wd → Option β) : Option β := if isO w a t then cal o K else none
def nz {α : Type} (y : Int32) (K : Option α) : Option α := if y = 0 then none else K
def nzL {α : Type} (y : Int64) (K : Option α) : Option α := if y = 0 then none else K
def rZ (x : Int32) (w : Wd) : Option (Int32 × Wd) := if x = 0 ∨ x = 1 then some (x, w) else none
def cpI {α : Type} (w : Wd) (a0 : Nat) (sp : Int32) (a : Nat) (dp n : Int32) (K : Wd → Option α) : Option α := if isO w a0 14 && isO w a 14 && decide (0 ≤ sp) && decide (0 ≤ dp) && decide (0 ≤ n) && decide (sp.toNatClampNeg + n.toNatClampNeg ≤ (wS w a0).2) && decide (dp.toNatClampNeg + n.toNatClampNeg ≤ (wS w a).2) then K (cI w a0 sp.toNatClampNeg a dp.toNatClampNeg n.toNatClampNeg) else none
theorem isO_iff {w : Wd} {a t : Nat} : isO w a t = true ↔ a < wN w ∧ (wS w a).1 = t := by simp [isO]
theorem inb_iff {w : Wd} {a : Nat} {i : Int32} : inb w a i = true ↔ 0 ≤ i ∧ i.toNatClampNeg < (wS w a).2 := by simp [inb]
theorem inb_vp {w : Wd} {a : Nat} {i : Int32} (h : inb w a i = true) : vp_in i (wS w a).2 := by
  obtain ⟨h1, h2⟩ := inb_iff.mp h
  rintro (q | q)
  · exact absurd h1 (Int32.not_le.mpr q)
  · omega
theorem gI_s {α : Type} {w : Wd} {a t k : Nat} {K : Int32 → Option α} {z : α} (h : gI w a t k K = some z) : isO w a t = true ∧ K (wI w a k) = some z := by
  unfold gI at h; split at h <;> simp_all
theorem gL_s {α : Type} {w : Wd} {a t k : Nat} {K : Int64 → Option α} {z : α} (h : gL w a t k K = some z) : isO w a t = true ∧ K (wL w a k) = some z := by
  unfold gL at h; split at h <;> simp_all
theorem gR_s {α : Type} {w : Wd} {a t k : Nat} {K : Nat → Option α} {z : α} (h : gR w a t k K = some z) : isO w a t = true ∧ ∃ r, wR w a k = some r ∧ K r = some z := by
  unfold gR at h
  split at h
  · exact ⟨by assumption, Option.bind_eq_some_iff.mp h⟩
  · cases h
theorem pI_s {α : Type} {w : Wd} {a t k : Nat} {x : Int32} {K : Wd → Option α} {z : α} (h : pI w a t k x K = some z) : isO w a t = true ∧ K (sI w a k x) = some z := by
  unfold pI at h; split at h <;> simp_all
theorem pL_s {α : Type} {w : Wd} {a t k : Nat} {x : Int64} {K : Wd → Option α} {z : α} (h : pL w a t k x K = some z) : isO w a t = true ∧ K (sL w a k x) = some z := by
  unfold pL at h; split at h <;> simp_all
theorem pR_s {α : Type} {w : Wd} {a t k r : Nat} {K : Wd → Option α} {z : α} (h : pR w a t k r K = some z) : isO w a t = true ∧ K (sR w a k r) = some z := by
  unfold pR at h; split at h <;> simp_all
theorem lI_s {α : Type} {w : Wd} {a t : Nat} {i : Int32} {K : Int32 → Option α} {z : α} (h : lI w a t i K = some z) : isO w a t = true ∧ inb w a i = true ∧ K (wI w a i.toNatClampNeg) = some z := by
  unfold lI at h; split at h <;> simp_all
theorem lR_s {α : Type} {w : Wd} {a t : Nat} {i : Int32} {K : Nat → Option α} {z : α} (h : lR w a t i K = some z) : isO w a t = true ∧ inb w a i = true ∧ ∃ r, wR w a i.toNatClampNeg = some r ∧ K r = some z := by
  unfold lR at h
  split at h
  · rename_i q
    rw [Bool.and_eq_true] at q
    exact ⟨q.1, q.2, Option.bind_eq_some_iff.mp h⟩
  · cases h
theorem aI_s {α : Type} {w : Wd} {a t : Nat} {i x : Int32} {K : Wd → Option α} {z : α} (h : aI w a t i x K = some z) : isO w a t = true ∧ inb w a i = true ∧ K (sI w a i.toNatClampNeg x) = some z := by
  unfold aI at h; split at h <;> simp_all
theorem aR_s {α : Type} {w : Wd} {a t : Nat} {i : Int32} {r tr : Nat} {K : Wd → Option α} {z : α} (h : aR w a t i r tr K = some z) : isO w a t = true ∧ inb w a i = true ∧ isO w r tr = true ∧ K (sR w a i.toNatClampNeg r) = some z := by
  unfold aR at h; split at h <;> simp_all
theorem lenA_s {α : Type} {w : Wd} {a t : Nat} {K : Int32 → Option α} {z : α} (h : lenA w a t K = some z) : isO w a t = true ∧ K (Int32.ofNat (wS w a).2) = some z := by
  unfold lenA at h; split at h <;> simp_all
theorem cal_s {α β : Type} {o : Option (α × Wd)} {K : α → Wd → Option β} {z : β} (h : cal o K = some z) : ∃ r w, o = some (r, w) ∧ K r w = some z := by
  obtain ⟨⟨r, w⟩, h1, h2⟩ := Option.bind_eq_some_iff.mp h
  exact ⟨r, w, h1, h2⟩
theorem calV_s {α β : Type} {w : Wd} {a t : Nat} {o : Option (α × Wd)} {K : α → Wd → Option β} {z : β} (h : calV w a t o K = some z) : isO w a t = true ∧ ∃ r w1, o = some (r, w1) ∧ K r w1 = some z := by
  unfold calV at h
  split at h
  · exact ⟨by assumption, cal_s h⟩
  · cases h
theorem nz_s {α : Type} {y : Int32} {K : Option α} {z : α} (h : nz y K = some z) : ¬ y = 0 ∧ K = some z := by
  unfold nz at h; split at h <;> simp_all
theorem nzL_s {α : Type} {y : Int64} {K : Option α} {z : α} (h : nzL y K = some z) : ¬ y = 0 ∧ K = some z := by
  unfold nzL at h; split at h <;> simp_all
theorem rZ_s {x r : Int32} {w w' : Wd} (h : rZ x w = some (r, w')) : (x = 0 ∨ x = 1) ∧ x = r ∧ w = w' := by
  unfold rZ at h; split at h <;> simp_all
theorem cpI_s {α : Type} {w : Wd} {a0 a : Nat} {sp dp n : Int32} {K : Wd → Option α} {z : α} (h : cpI w a0 sp a dp n K = some z) : isO w a0 14 = true ∧ isO w a 14 = true ∧ 0 ≤ sp ∧ 0 ≤ dp ∧ 0 ≤ n ∧ sp.toNatClampNeg + n.toNatClampNeg ≤ (wS w a0).2 ∧ dp.toNatClampNeg + n.toNatClampNeg ≤ (wS w a).2 ∧ K (cI w a0 sp.toNatClampNeg a dp.toNatClampNeg n.toNatClampNeg) = some z := by
  unfold cpI at h
  split at h
  · rename_i q
    simp only [Bool.and_eq_true, decide_eq_true_eq] at q
    exact ⟨q.1.1.1.1.1.1, q.1.1.1.1.1.2, q.1.1.1.1.2, q.1.1.1.2, q.1.1.2, q.1.2, q.2, h⟩
  · cases h
/-! the cells of a world, in the kit's words -/
def fty (t k : Nat) : FieldType := match t with
  | 0 => tyX0 k
  | 1 => tyX1 k
  | 2 => tyX2 k
  | 7 => tyX7 k
  | 10 => tyX10 k
  | 11 => tyX11 k
  | 12 => tyX12 k
  | _ => .int
def fn (t : Nat) : Nat := match t with
  | 0 => 8
  | 1 => 6
  | 2 => 12
  | 7 => 8
  | 10 => 4
  | 11 => 9
  | 12 => 21
  | _ => 0
def cN (t : Nat) : String := (vwCl.getD t ("", TX3, 0)).1
def cT (t : Nat) : u_T := (vwCl.getD t ("", TX3, 0)).2.1
def arf (B : Nat) (f : Nat → Option Nat) : Nat → Option Nat := fun k => (f k).map (B + ·)
def fval (B : Nat) (w : Wd) (a : Nat) (ty : FieldType) (k : Nat) : Value := match ty with
  | .int => .int (wI w a k)
  | .long => .long (wL w a k)
  | .object _ => va_rf (arf B (wR w a) k)
  | .array _ => va_rf (arf B (wR w a) k)
  | _ => .int 0
def fsO (B : Nat) (w : Wd) (a t : Nat) : List Value := (List.range (fn t)).map (fun k => fval B w a (fty t k) k)
def cellE (G : Nat → ClassId) (B : Nat) (w : Wd) (a : Nat) : va_E :=
  if (wS w a).1 < 13 then .inr ((wS w a).1, fsO B w a (wS w a).1)
  else if (wS w a).1 < 16 then .inl (G (wS w a).1, (wS w a).2, .inl (wI w a))
  else .inl (G (wS w a).1, (wS w a).2, .inr (.inr (.inr (.inr (arf B (wR w a))))))
def lay (G : Nat → ClassId) (B : Nat) (w : Wd) : va_W := (List.range (wN w)).map (fun a => (B + a, cellE G B w a))
theorem lay_get {G : Nat → ClassId} {B : Nat} {w : Wd} {a : Nat} (h : a < wN w) : (lay G B w)[a]? = some (B + a, cellE G B w a) := by
  simp [lay, List.getElem?_map, List.getElem?_range h]
theorem lay_len {G : Nat → ClassId} {B : Nat} {w : Wd} : (lay G B w).length = wN w := by simp [lay]
theorem lay_at {G : Nat → ClassId} {B : Nat} {w : Wd} {k : Nat} {q : Nat × va_E} (h : (lay G B w)[k]? = some q) : k < wN w ∧ q = (B + k, cellE G B w k) := by
  have hk : k < wN w := by
    have := (List.getElem?_eq_some_iff.mp h).1
    rwa [lay_len] at this
  rw [lay_get hk] at h
  exact ⟨hk, (Option.some.inj h).symm⟩
theorem lay_D {G : Nat → ClassId} {B : Nat} {w : Wd} : va_D (fun q => B ≤ q) (lay G B w) := by
  refine ⟨fun i j p q hi hj hpq => ?_, fun k q hk => ?_⟩
  · obtain ⟨-, rfl⟩ := lay_at hi
    obtain ⟨-, rfl⟩ := lay_at hj
    exact Nat.add_left_cancel hpq
  · obtain ⟨-, rfl⟩ := lay_at hk
    exact Nat.le_add_right _ _
theorem lay_set {G : Nat → ClassId} {B : Nat} {w w' : Wd} {a : Nat} {e : va_E} (hn : wN w' = wN w) (ha : a < wN w) (he : cellE G B w' a = e) (ho : ∀ b, b ≠ a → cellE G B w' b = cellE G B w b) : (lay G B w).set a (B + a, e) = lay G B w' := by
  apply List.ext_getElem?
  intro k
  by_cases hk : k = a
  · subst hk
    rw [List.getElem?_set_self (by rw [lay_len]; exact ha), lay_get (by rw [hn]; exact ha), he]
  · rw [List.getElem?_set_ne (Ne.symm hk)]
    by_cases hl : k < wN w
    · rw [lay_get hl, lay_get (by rw [hn]; exact hl), ho k hk]
    · rw [List.getElem?_eq_none (by rw [lay_len]; omega), List.getElem?_eq_none (by rw [lay_len, hn]; omega)]
theorem lay_push {G : Nat → ClassId} {B : Nat} {w w' : Wd} {e : va_E} (hn : wN w' = wN w + 1) (he : cellE G B w' (wN w) = e) (ho : ∀ b, b < wN w → cellE G B w' b = cellE G B w b) : lay G B w ++ [(B + wN w, e)] = lay G B w' := by
  unfold lay
  rw [hn, List.range_succ, List.map_append]
  congr 1
  · apply List.map_congr_left
    intro b hb
    rw [ho b (List.mem_range.mp hb)]
  · simp [he]
theorem cell_o {G : Nat → ClassId} {B : Nat} {w : Wd} {a t : Nat} (h : isO w a t = true) (ht : t < 13) : cellE G B w a = .inr (t, fsO B w a t) := by
  obtain ⟨-, h⟩ := isO_iff.mp h
  subst h
  unfold cellE
  rw [if_pos ht]
theorem cell_i {G : Nat → ClassId} {B : Nat} {w : Wd} {a t : Nat} (h : isO w a t = true) (h1 : ¬ t < 13) (h2 : t < 16) : cellE G B w a = .inl (G t, (wS w a).2, .inl (wI w a)) := by
  obtain ⟨-, h⟩ := isO_iff.mp h
  subst h
  unfold cellE
  rw [if_neg h1, if_pos h2]
theorem cell_r {G : Nat → ClassId} {B : Nat} {w : Wd} {a t : Nat} (h : isO w a t = true) (h2 : ¬ t < 16) : cellE G B w a = .inl (G t, (wS w a).2, .inr (.inr (.inr (.inr (arf B (wR w a)))))) := by
  obtain ⟨-, h⟩ := isO_iff.mp h
  subst h
  unfold cellE
  rw [if_neg (by omega), if_neg h2]
theorem fs_at {B : Nat} {w : Wd} {a t k : Nat} (hk : k < fn t) : (fsO B w a t)[k]? = some (fval B w a (fty t k) k) := by
  simp [fsO, List.getElem?_map, List.getElem?_range hk]
theorem fs_len {B : Nat} {w : Wd} {a t : Nat} : (fsO B w a t).length = fn t := by simp [fsO]
theorem fs_set {B : Nat} {w w' : Wd} {a t k : Nat} {v : Value} (hk : k < fn t) (hv : fval B w' a (fty t k) k = v) (ho : ∀ j, j ≠ k → fval B w' a (fty t j) j = fval B w a (fty t j) j) : (fsO B w a t).set k v = fsO B w' a t := by
  apply List.ext_getElem?
  intro j
  by_cases hj : j = k
  · subst hj
    rw [List.getElem?_set_self (by rw [fs_len]; exact hk), fs_at hk, hv]
  · rw [List.getElem?_set_ne (Ne.symm hj)]
    by_cases hl : j < fn t
    · rw [fs_at hl, fs_at hl, ho j hj]
    · rw [List.getElem?_eq_none (by rw [fs_len]; omega), List.getElem?_eq_none (by rw [fs_len]; omega)]
theorem fval_ext {B : Nat} {w w' : Wd} {a j : Nat} {ty : FieldType} (h1 : wI w' a j = wI w a j) (h2 : wL w' a j = wL w a j) (h3 : wR w' a j = wR w a j) : fval B w' a ty j = fval B w a ty j := by
  unfold fval
  cases ty <;> simp [h1, h2, h3, arf]
theorem cell_ext {G : Nat → ClassId} {B : Nat} {w w' : Wd} {b : Nat} (h0 : wS w' b = wS w b) (h1 : wI w' b = wI w b) (h2 : wL w' b = wL w b) (h3 : wR w' b = wR w b) : cellE G B w' b = cellE G B w b := by
  have hf : ∀ t, fsO B w' b t = fsO B w b t := fun t => by
    unfold fsO
    apply List.map_congr_left
    intro k _
    exact fval_ext (by rw [h1]) (by rw [h2]) (by rw [h3])
  unfold cellE
  rw [h0, hf, h1, h3]
