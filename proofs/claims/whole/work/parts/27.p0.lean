/-! PURE PART: the decompiled functions are evaluated. First the words' own laws -/
section EV
variable {α : Type} {w : Wd} {a t k : Nat}
theorem gI_t {K : Int32 → Option α} (h : isO w a t = true) : gI w a t k K = K (wI w a k) := by simp [gI, h]
theorem gL_t {K : Int64 → Option α} (h : isO w a t = true) : gL w a t k K = K (wL w a k) := by simp [gL, h]
theorem gR_t {K : Nat → Option α} (h : isO w a t = true) : gR w a t k K = (wR w a k).bind K := by simp [gR, h]
theorem pI_t {x : Int32} {K : Wd → Option α} (h : isO w a t = true) : pI w a t k x K = K (sI w a k x) := by simp [pI, h]
theorem pL_t {x : Int64} {K : Wd → Option α} (h : isO w a t = true) : pL w a t k x K = K (sL w a k x) := by simp [pL, h]
theorem pR_t {r : Nat} {K : Wd → Option α} (h : isO w a t = true) : pR w a t k r K = K (sR w a k r) := by simp [pR, h]
theorem lI_t {i : Int32} {K : Int32 → Option α} (h : isO w a t = true) (hi : inb w a i = true) : lI w a t i K = K (wI w a i.toNatClampNeg) := by simp [lI, h, hi]
theorem lR_t {i : Int32} {K : Nat → Option α} (h : isO w a t = true) (hi : inb w a i = true) : lR w a t i K = (wR w a i.toNatClampNeg).bind K := by simp [lR, h, hi]
theorem aI_t {i x : Int32} {K : Wd → Option α} (h : isO w a t = true) (hi : inb w a i = true) : aI w a t i x K = K (sI w a i.toNatClampNeg x) := by simp [aI, h, hi]
theorem lenA_t {K : Int32 → Option α} (h : isO w a t = true) : lenA w a t K = K (Int32.ofNat (wS w a).2) := by simp [lenA, h]
theorem cal_t {β : Type} {r : β} {w1 : Wd} {K : β → Wd → Option α} : cal (some (r, w1)) K = K r w1 := rfl
theorem calV_t {β : Type} {o : Option (β × Wd)} {K : β → Wd → Option α} (h : isO w a t = true) : calV w a t o K = cal o K := by simp [calV, h]
theorem calO_t {β : Type} {o : Option (β × Wd)} {K : β → Wd → Option α} (h : a < wN w) (h2 : (wS w a).1 < 13) : calO w a o K = cal o K := by simp [calO, h, h2]
theorem nm_t {β : Type} {x : β} {K : β → Option α} : nm x K = K x := rfl
theorem rZ0 : rZ 0 w = some (0, w) := by simp [rZ]
theorem rZ1 : rZ 1 w = some (1, w) := by simp [rZ]
theorem isO_sI {b j : Nat} {x : Int32} : isO (sI w b j x) a t = isO w a t := rfl
theorem isO_sL {b j : Nat} {x : Int64} : isO (sL w b j x) a t = isO w a t := rfl
theorem isO_sR {b j r : Nat} : isO (sR w b j r) a t = isO w a t := rfl
theorem isO_cI {a0 sp b dp n : Nat} : isO (cI w a0 sp b dp n) a t = isO w a t := rfl
theorem inb_sI {b j : Nat} {x i : Int32} : inb (sI w b j x) a i = inb w a i := rfl
theorem inb_sL {b j : Nat} {x : Int64} {i : Int32} : inb (sL w b j x) a i = inb w a i := rfl
theorem inb_sR {b j r : Nat} {i : Int32} : inb (sR w b j r) a i = inb w a i := rfl
theorem inb_cI {a0 sp b dp n : Nat} {i : Int32} : inb (cI w a0 sp b dp n) a i = inb w a i := rfl
theorem inb_of {n i : Nat} (h : (wS w a).2 = n) (hi : i < n) (hn : n < 2 ^ 31) : inb w a (nI i) = true := inb_iff.mpr ⟨nI_pos' (by omega), by rw [nI_clamp (by omega), h]; exact hi⟩
theorem inb_lit {n : Nat} {i : Int32} (h : (wS w a).2 = n) (hi : (decide (0 ≤ i) && decide (i.toNatClampNeg < n)) = true) : inb w a i = true := by
  simp only [Bool.and_eq_true, decide_eq_true_eq] at hi
  exact inb_iff.mpr ⟨hi.1, by rw [h]; exact hi.2⟩
theorem wI_same {x : Int32} : wI (sI w a k x) a k = x := by simp [wI_sI]
theorem wI_other {b j : Nat} {x : Int32} (h : b ≠ a) : wI (sI w a k x) b j = wI w b j := by simp [wI_sI, h]
theorem wI_place {b j : Nat} {x : Int32} (h : j ≠ k) : wI (sI w a k x) b j = wI w b j := by simp [wI_sI, h]
end EV
def SHL : List (Nat × Nat) := [(11, 0), (18, 6), (6, 0), (9, 0), (5, 0), (3, 0), (8, 0), (4, 0), (2, 0), (16, 6), (14, 136), (0, 0), (14, 6), (14, 6), (14, 24), (14, 6), (14, 6), (1, 0), (1, 0), (1, 0), (1, 0), (1, 0), (1, 0), (2, 0), (16, 6), (14, 136), (0, 0), (14, 6), (14, 6), (14, 24), (14, 6), (14, 6), (1, 0), (1, 0), (1, 0), (1, 0), (1, 0), (1, 0), (17, 2), (2, 0), (16, 6), (14, 136), (0, 0), (14, 6), (14, 6), (14, 24), (14, 6), (14, 6), (1, 0), (1, 0), (1, 0), (1, 0), (1, 0), (1, 0), (2, 0), (16, 6), (14, 136), (0, 0), (14, 6), (14, 6), (14, 24), (14, 6), (14, 6), (1, 0), (1, 0), (1, 0), (1, 0), (1, 0), (1, 0), (15, 2), (10, 0), (13, 150), (7, 0), (14, 6), (14, 6), (14, 61), (19, 6), (14, 13), (14, 13), (14, 13), (14, 13), (14, 13), (14, 13), (19, 7), (14, 13), (14, 13), (14, 13), (14, 13), (14, 13), (14, 13), (14, 13), (14, 6), (14, 6), (14, 6), (14, 3), (12, 0), (14, 656), (15, 2), (14, 3), (14, 150), (14, 25), (14, 18), (14, 427), (14, 91), (14, 6), (14, 36), (14, 36)]
def RFL : List (Nat × Nat × Nat) := [(0, 0, 38), (0, 1, 69), (0, 2, 70), (0, 3, 72), (0, 4, 94), (1, 0, 2), (1, 1, 3), (1, 2, 4), (1, 3, 5), (1, 4, 6), (1, 5, 7), (8, 0, 9), (8, 1, 11), (8, 2, 10), (9, 0, 17), (9, 1, 18), (9, 2, 19), (9, 3, 20), (9, 4, 21), (9, 5, 22), (11, 0, 1), (11, 1, 12), (11, 2, 13), (11, 3, 14), (11, 4, 15), (11, 5, 16), (17, 0, 1), (18, 0, 1), (19, 0, 1), (20, 0, 1), (21, 0, 1), (22, 0, 1), (23, 0, 24), (23, 1, 26), (23, 2, 25), (24, 0, 32), (24, 1, 33), (24, 2, 34), (24, 3, 35), (24, 4, 36), (24, 5, 37), (26, 0, 1), (26, 1, 27), (26, 2, 28), (26, 3, 29), (26, 4, 30), (26, 5, 31), (32, 0, 1), (33, 0, 1), (34, 0, 1), (35, 0, 1), (36, 0, 1), (37, 0, 1), (38, 0, 39), (38, 1, 54), (39, 0, 40), (39, 1, 42), (39, 2, 41), (40, 0, 48), (40, 1, 49), (40, 2, 50), (40, 3, 51), (40, 4, 52), (40, 5, 53), (42, 0, 1), (42, 1, 43), (42, 2, 44), (42, 3, 45), (42, 4, 46), (42, 5, 47), (48, 0, 1), (49, 0, 1), (50, 0, 1), (51, 0, 1), (52, 0, 1), (53, 0, 1), (54, 0, 55), (54, 1, 57), (54, 2, 56), (55, 0, 63), (55, 1, 64), (55, 2, 65), (55, 3, 66), (55, 4, 67), (55, 5, 68), (57, 0, 1), (57, 1, 58), (57, 2, 59), (57, 3, 60), (57, 4, 61), (57, 5, 62), (63, 0, 1), (64, 0, 1), (65, 0, 1), (66, 0, 1), (67, 0, 1), (68, 0, 1), (70, 0, 71), (72, 0, 73), (72, 1, 74), (72, 2, 75), (72, 3, 76), (72, 4, 83), (72, 5, 91), (72, 6, 92), (72, 7, 93), (76, 0, 77), (76, 1, 78), (76, 2, 79), (76, 3, 80), (76, 4, 81), (76, 5, 82), (83, 0, 84), (83, 1, 85), (83, 2, 86), (83, 3, 87), (83, 4, 88), (83, 5, 89), (83, 6, 90), (95, 0, 96), (95, 1, 97), (95, 2, 98), (95, 5, 99), (95, 7, 100), (95, 14, 101), (95, 16, 102), (95, 17, 103), (95, 18, 104), (95, 19, 105), (95, 20, 106)]
def wIn : Wd := (((f_X11_init 0 (nC w00 11 0)).bind fun q => (f_X12_init (wN q.2) (nC q.2 12 0))).map Prod.snd).getD w00
/-- the shape of every world behind the constructors: now at h0, spare at h1 -/
def Sp (w : Wd) (h0 h1 : Nat) : Prop := wN w = 107 ∧ (∀ a, a < 107 → wS w a = SHL.getD a (99, 0)) ∧ (∀ q ∈ RFL, wR w q.1 q.2.1 = some q.2.2) ∧ wR w 0 5 = some h0 ∧ wR w 0 6 = some h1 ∧ ((h0 = 8 ∧ h1 = 23) ∨ (h0 = 23 ∧ h1 = 8))
set_option maxRecDepth 100000 in
theorem start_eq (L : Nat) (sx : Nat → Int32) : f_L L sx w00 = f_L_18 L sx 4096 0 95 0 wIn := by
  have h1 : (f_X11_init 0 (nC w00 11 0)).isSome = true := by decide +kernel
  obtain ⟨⟨u, wA⟩, hA⟩ := Option.isSome_iff_exists.mp h1
  have hn : wN wA = 95 := by
    have h9 : ((f_X11_init 0 (nC w00 11 0)).map fun q => wN q.2) = some 95 := by decide +kernel
    rw [hA] at h9
    exact Option.some.inj h9
  have h2 : ((f_X11_init 0 (nC w00 11 0)).bind fun q => (f_X12_init (wN q.2) (nC q.2 12 0))).isSome = true := by decide +kernel
  rw [hA] at h2
  obtain ⟨⟨u2, wB⟩, hB⟩ := Option.isSome_iff_exists.mp h2
  have hB' : f_X12_init (wN wA) (nC wA 12 0) = some (u2, wB) := hB
  have e : wIn = wB := by
    unfold wIn
    rw [hA]
    show (Option.map Prod.snd (f_X12_init (wN wA) (nC wA 12 0))).getD w00 = wB
    rw [hB']
    rfl
  unfold f_L
  rw [e]
  simp only [nm_t]
  rw [show wN w00 = 0 from rfl, hA, cal_t, hB', cal_t, hn]
set_option maxRecDepth 100000 in
theorem in_sp : Sp wIn 8 23 := by
  refine ⟨by decide +kernel, ?_, ?_, by decide +kernel, by decide +kernel, Or.inl ⟨rfl, rfl⟩⟩
  · have h : (List.range 107).all (fun a => decide (wS wIn a = SHL.getD a (99, 0))) = true := by decide +kernel
    intro a ha
    exact of_decide_eq_true (List.all_eq_true.mp h a (List.mem_range.mpr ha))
  · have h : RFL.all (fun q => decide (wR wIn q.1 q.2.1 = some q.2.2)) = true := by decide +kernel
    intro q hq
    exact of_decide_eq_true (List.all_eq_true.mp h q hq)
theorem Sp.o {w : Wd} {h0 h1 : Nat} (H : Sp w h0 h1) (a t : Nat) (ha : (decide (a < 107) && (SHL.getD a (99, 0)).1 == t) = true) : isO w a t = true := by
  simp only [Bool.and_eq_true, decide_eq_true_eq, beq_iff_eq] at ha
  exact isO_iff.mpr ⟨by rw [H.1]; exact ha.1, by rw [H.2.1 a ha.1]; exact ha.2⟩
theorem Sp.n {w : Wd} {h0 h1 : Nat} (H : Sp w h0 h1) (a n : Nat) (ha : (decide (a < 107) && (SHL.getD a (99, 0)).2 == n) = true) : (wS w a).2 = n := by
  simp only [Bool.and_eq_true, decide_eq_true_eq, beq_iff_eq] at ha
  rw [H.2.1 a ha.1]; exact ha.2
theorem Sp.r {w : Wd} {h0 h1 : Nat} (H : Sp w h0 h1) (a k v : Nat) (h : (a, k, v) ∈ RFL) : wR w a k = some v := H.2.2.1 (a, k, v) h
/-- same shape -/
def Eqs (w w' : Wd) : Prop := wN w' = wN w ∧ wS w' = wS w ∧ wR w' = wR w
theorem Eqs.rf (w : Wd) : Eqs w w := ⟨rfl, rfl, rfl⟩
theorem Eqs.tr {a b c : Wd} (h : Eqs a b) (h2 : Eqs b c) : Eqs a c := ⟨h2.1.trans h.1, h2.2.1.trans h.2.1, h2.2.2.trans h.2.2⟩
theorem Sp.to {w w' : Wd} {h0 h1 : Nat} (H : Sp w h0 h1) (h : Eqs w w') : Sp w' h0 h1 := by
  obtain ⟨e1, e2, e3⟩ := h
  unfold Sp
  rw [e1, e2, e3]
  exact H
/-- a house of this shape stands at h -/
def HS (w : Wd) (h : Nat) : Prop := wN w = 107 ∧ h + 15 ≤ 107 ∧ wS w h = (2, 0) ∧ wS w (h + 1) = (16, 6) ∧ wS w (h + 2) = (14, 136) ∧ wS w (h + 3) = (0, 0) ∧ wS w (h + 4) = (14, 6) ∧ wS w (h + 5) = (14, 6) ∧ wS w (h + 6) = (14, 24) ∧ wS w (h + 7) = (14, 6) ∧ wS w (h + 8) = (14, 6) ∧ (∀ g, g < 6 → wS w (h + 9 + g) = (1, 0)) ∧
  wR w h 0 = some (h + 1) ∧ wR w h 1 = some (h + 3) ∧ wR w h 2 = some (h + 2) ∧ (∀ g, g < 6 → wR w (h + 1) g = some (h + 9 + g)) ∧ (∀ g, g < 6 → wR w (h + 9 + g) 0 = some 1) ∧ wR w (h + 3) 0 = some 1 ∧ wR w (h + 3) 1 = some (h + 4) ∧ wR w (h + 3) 2 = some (h + 5) ∧ wR w (h + 3) 3 = some (h + 6) ∧ wR w (h + 3) 4 = some (h + 7) ∧ wR w (h + 3) 5 = some (h + 8) ∧
  wS w 1 = (18, 6) ∧ (∀ k, k < 6 → wR w 1 k = some (2 + k)) ∧ wS w 2 = (6, 0) ∧ wS w 3 = (9, 0) ∧ wS w 4 = (5, 0) ∧ wS w 5 = (3, 0) ∧ wS w 6 = (8, 0) ∧ wS w 7 = (4, 0)
def isH (h : Nat) : Prop := h = 8 ∨ h = 23 ∨ h = 39 ∨ h = 54
theorem Sp.hs {w : Wd} {h0 h1 h : Nat} (H : Sp w h0 h1) (hh : isH h) : HS w h := by
  have hS := H.2.1
  have hR := H.2.2.1
  have g6 : ∀ g, g < 6 → g = 0 ∨ g = 1 ∨ g = 2 ∨ g = 3 ∨ g = 4 ∨ g = 5 := fun g hg => by omega
  rcases hh with rfl | rfl | rfl | rfl
  · exact ⟨H.1, by decide, hS 8 (by decide), hS 9 (by decide), hS 10 (by decide), hS 11 (by decide), hS 12 (by decide), hS 13 (by decide), hS 14 (by decide), hS 15 (by decide), hS 16 (by decide), (fun g hg => by rcases g6 g hg with rfl | rfl | rfl | rfl | rfl | rfl <;> first | exact hS 17 (by decide) | exact hS 18 (by decide) | exact hS 19 (by decide) | exact hS 20 (by decide) | exact hS 21 (by decide) | exact hS 22 (by decide)), hR (8, 0, 9) (by decide), hR (8, 1, 11) (by decide), hR (8, 2, 10) (by decide), (fun g hg => by rcases g6 g hg with rfl | rfl | rfl | rfl | rfl | rfl <;> first | exact hR (9, 0, 17) (by decide) | exact hR (9, 1, 18) (by decide) | exact hR (9, 2, 19) (by decide) | exact hR (9, 3, 20) (by decide) | exact hR (9, 4, 21) (by decide) | exact hR (9, 5, 22) (by decide)), (fun g hg => by rcases g6 g hg with rfl | rfl | rfl | rfl | rfl | rfl <;> first | exact hR (17, 0, 1) (by decide) | exact hR (18, 0, 1) (by decide) | exact hR (19, 0, 1) (by decide) | exact hR (20, 0, 1) (by decide) | exact hR (21, 0, 1) (by decide) | exact hR (22, 0, 1) (by decide)), hR (11, 0, 1) (by decide), hR (11, 1, 12) (by decide), hR (11, 2, 13) (by decide), hR (11, 3, 14) (by decide), hR (11, 4, 15) (by decide), hR (11, 5, 16) (by decide), hS 1 (by decide), (fun g hg => by rcases g6 g hg with rfl | rfl | rfl | rfl | rfl | rfl <;> first | exact hR (1, 0, 2) (by decide) | exact hR (1, 1, 3) (by decide) | exact hR (1, 2, 4) (by decide) | exact hR (1, 3, 5) (by decide) | exact hR (1, 4, 6) (by decide) | exact hR (1, 5, 7) (by decide)), hS 2 (by decide), hS 3 (by decide), hS 4 (by decide), hS 5 (by decide), hS 6 (by decide), hS 7 (by decide)⟩
  · exact ⟨H.1, by decide, hS 23 (by decide), hS 24 (by decide), hS 25 (by decide), hS 26 (by decide), hS 27 (by decide), hS 28 (by decide), hS 29 (by decide), hS 30 (by decide), hS 31 (by decide), (fun g hg => by rcases g6 g hg with rfl | rfl | rfl | rfl | rfl | rfl <;> first | exact hS 32 (by decide) | exact hS 33 (by decide) | exact hS 34 (by decide) | exact hS 35 (by decide) | exact hS 36 (by decide) | exact hS 37 (by decide)), hR (23, 0, 24) (by decide), hR (23, 1, 26) (by decide), hR (23, 2, 25) (by decide), (fun g hg => by rcases g6 g hg with rfl | rfl | rfl | rfl | rfl | rfl <;> first | exact hR (24, 0, 32) (by decide) | exact hR (24, 1, 33) (by decide) | exact hR (24, 2, 34) (by decide) | exact hR (24, 3, 35) (by decide) | exact hR (24, 4, 36) (by decide) | exact hR (24, 5, 37) (by decide)), (fun g hg => by rcases g6 g hg with rfl | rfl | rfl | rfl | rfl | rfl <;> first | exact hR (32, 0, 1) (by decide) | exact hR (33, 0, 1) (by decide) | exact hR (34, 0, 1) (by decide) | exact hR (35, 0, 1) (by decide) | exact hR (36, 0, 1) (by decide) | exact hR (37, 0, 1) (by decide)), hR (26, 0, 1) (by decide), hR (26, 1, 27) (by decide), hR (26, 2, 28) (by decide), hR (26, 3, 29) (by decide), hR (26, 4, 30) (by decide), hR (26, 5, 31) (by decide), hS 1 (by decide), (fun g hg => by rcases g6 g hg with rfl | rfl | rfl | rfl | rfl | rfl <;> first | exact hR (1, 0, 2) (by decide) | exact hR (1, 1, 3) (by decide) | exact hR (1, 2, 4) (by decide) | exact hR (1, 3, 5) (by decide) | exact hR (1, 4, 6) (by decide) | exact hR (1, 5, 7) (by decide)), hS 2 (by decide), hS 3 (by decide), hS 4 (by decide), hS 5 (by decide), hS 6 (by decide), hS 7 (by decide)⟩
  · exact ⟨H.1, by decide, hS 39 (by decide), hS 40 (by decide), hS 41 (by decide), hS 42 (by decide), hS 43 (by decide), hS 44 (by decide), hS 45 (by decide), hS 46 (by decide), hS 47 (by decide), (fun g hg => by rcases g6 g hg with rfl | rfl | rfl | rfl | rfl | rfl <;> first | exact hS 48 (by decide) | exact hS 49 (by decide) | exact hS 50 (by decide) | exact hS 51 (by decide) | exact hS 52 (by decide) | exact hS 53 (by decide)), hR (39, 0, 40) (by decide), hR (39, 1, 42) (by decide), hR (39, 2, 41) (by decide), (fun g hg => by rcases g6 g hg with rfl | rfl | rfl | rfl | rfl | rfl <;> first | exact hR (40, 0, 48) (by decide) | exact hR (40, 1, 49) (by decide) | exact hR (40, 2, 50) (by decide) | exact hR (40, 3, 51) (by decide) | exact hR (40, 4, 52) (by decide) | exact hR (40, 5, 53) (by decide)), (fun g hg => by rcases g6 g hg with rfl | rfl | rfl | rfl | rfl | rfl <;> first | exact hR (48, 0, 1) (by decide) | exact hR (49, 0, 1) (by decide) | exact hR (50, 0, 1) (by decide) | exact hR (51, 0, 1) (by decide) | exact hR (52, 0, 1) (by decide) | exact hR (53, 0, 1) (by decide)), hR (42, 0, 1) (by decide), hR (42, 1, 43) (by decide), hR (42, 2, 44) (by decide), hR (42, 3, 45) (by decide), hR (42, 4, 46) (by decide), hR (42, 5, 47) (by decide), hS 1 (by decide), (fun g hg => by rcases g6 g hg with rfl | rfl | rfl | rfl | rfl | rfl <;> first | exact hR (1, 0, 2) (by decide) | exact hR (1, 1, 3) (by decide) | exact hR (1, 2, 4) (by decide) | exact hR (1, 3, 5) (by decide) | exact hR (1, 4, 6) (by decide) | exact hR (1, 5, 7) (by decide)), hS 2 (by decide), hS 3 (by decide), hS 4 (by decide), hS 5 (by decide), hS 6 (by decide), hS 7 (by decide)⟩
  · exact ⟨H.1, by decide, hS 54 (by decide), hS 55 (by decide), hS 56 (by decide), hS 57 (by decide), hS 58 (by decide), hS 59 (by decide), hS 60 (by decide), hS 61 (by decide), hS 62 (by decide), (fun g hg => by rcases g6 g hg with rfl | rfl | rfl | rfl | rfl | rfl <;> first | exact hS 63 (by decide) | exact hS 64 (by decide) | exact hS 65 (by decide) | exact hS 66 (by decide) | exact hS 67 (by decide) | exact hS 68 (by decide)), hR (54, 0, 55) (by decide), hR (54, 1, 57) (by decide), hR (54, 2, 56) (by decide), (fun g hg => by rcases g6 g hg with rfl | rfl | rfl | rfl | rfl | rfl <;> first | exact hR (55, 0, 63) (by decide) | exact hR (55, 1, 64) (by decide) | exact hR (55, 2, 65) (by decide) | exact hR (55, 3, 66) (by decide) | exact hR (55, 4, 67) (by decide) | exact hR (55, 5, 68) (by decide)), (fun g hg => by rcases g6 g hg with rfl | rfl | rfl | rfl | rfl | rfl <;> first | exact hR (63, 0, 1) (by decide) | exact hR (64, 0, 1) (by decide) | exact hR (65, 0, 1) (by decide) | exact hR (66, 0, 1) (by decide) | exact hR (67, 0, 1) (by decide) | exact hR (68, 0, 1) (by decide)), hR (57, 0, 1) (by decide), hR (57, 1, 58) (by decide), hR (57, 2, 59) (by decide), hR (57, 3, 60) (by decide), hR (57, 4, 61) (by decide), hR (57, 5, 62) (by decide), hS 1 (by decide), (fun g hg => by rcases g6 g hg with rfl | rfl | rfl | rfl | rfl | rfl <;> first | exact hR (1, 0, 2) (by decide) | exact hR (1, 1, 3) (by decide) | exact hR (1, 2, 4) (by decide) | exact hR (1, 3, 5) (by decide) | exact hR (1, 4, 6) (by decide) | exact hR (1, 5, 7) (by decide)), hS 2 (by decide), hS 3 (by decide), hS 4 (by decide), hS 5 (by decide), hS 6 (by decide), hS 7 (by decide)⟩
section HSL
variable {w : Wd} {h : Nat}
theorem HS.lt (H : HS w h) {k : Nat} (hk : k < 15) : h + k < wN w := by rw [H.1]; have := H.2.1; omega
theorem HS.to {w' : Wd} (H : HS w h) (e : Eqs w w') : HS w' h := by
  obtain ⟨e1, e2, e3⟩ := e
  unfold HS
  rw [e1, e2, e3]
  exact H
theorem HS.o (H : HS w h) : isO w h 2 = true := isO_iff.mpr ⟨H.lt (k := 0) (by decide), by rw [H.2.2.1]⟩
theorem HS.o1 (H : HS w h) : isO w (h + 1) 16 = true := isO_iff.mpr ⟨H.lt (by decide), by rw [H.2.2.2.1]⟩
theorem HS.o2 (H : HS w h) : isO w (h + 2) 14 = true := isO_iff.mpr ⟨H.lt (by decide), by rw [H.2.2.2.2.1]⟩
theorem HS.o3 (H : HS w h) : isO w (h + 3) 0 = true := isO_iff.mpr ⟨H.lt (by decide), by rw [H.2.2.2.2.2.1]⟩
theorem HS.o4 (H : HS w h) : isO w (h + 4) 14 = true := isO_iff.mpr ⟨H.lt (by decide), by rw [H.2.2.2.2.2.2.1]⟩
theorem HS.o5 (H : HS w h) : isO w (h + 5) 14 = true := isO_iff.mpr ⟨H.lt (by decide), by rw [H.2.2.2.2.2.2.2.1]⟩
theorem HS.o6 (H : HS w h) : isO w (h + 6) 14 = true := isO_iff.mpr ⟨H.lt (by decide), by rw [H.2.2.2.2.2.2.2.2.1]⟩
theorem HS.o7 (H : HS w h) : isO w (h + 7) 14 = true := isO_iff.mpr ⟨H.lt (by decide), by rw [H.2.2.2.2.2.2.2.2.2.1]⟩
theorem HS.o8 (H : HS w h) : isO w (h + 8) 14 = true := isO_iff.mpr ⟨H.lt (by decide), by rw [H.2.2.2.2.2.2.2.2.2.2.1]⟩
theorem HS.og (H : HS w h) {g : Nat} (hg : g < 6) : isO w (h + 9 + g) 1 = true := isO_iff.mpr ⟨by rw [Nat.add_assoc]; exact H.lt (by omega), by rw [H.2.2.2.2.2.2.2.2.2.2.2.1 g hg]⟩
theorem HS.n1 (H : HS w h) : (wS w (h + 1)).2 = 6 := by rw [H.2.2.2.1]
theorem HS.n2 (H : HS w h) : (wS w (h + 2)).2 = 136 := by rw [H.2.2.2.2.1]
theorem HS.n4 (H : HS w h) : (wS w (h + 4)).2 = 6 := by rw [H.2.2.2.2.2.2.1]
theorem HS.n5 (H : HS w h) : (wS w (h + 5)).2 = 6 := by rw [H.2.2.2.2.2.2.2.1]
theorem HS.n6 (H : HS w h) : (wS w (h + 6)).2 = 24 := by rw [H.2.2.2.2.2.2.2.2.1]
theorem HS.n7 (H : HS w h) : (wS w (h + 7)).2 = 6 := by rw [H.2.2.2.2.2.2.2.2.2.1]
theorem HS.n8 (H : HS w h) : (wS w (h + 8)).2 = 6 := by rw [H.2.2.2.2.2.2.2.2.2.2.1]
theorem HS.r0 (H : HS w h) : wR w h 0 = some (h + 1) := H.2.2.2.2.2.2.2.2.2.2.2.2.1
theorem HS.r1 (H : HS w h) : wR w h 1 = some (h + 3) := H.2.2.2.2.2.2.2.2.2.2.2.2.2.1
theorem HS.r2 (H : HS w h) : wR w h 2 = some (h + 2) := H.2.2.2.2.2.2.2.2.2.2.2.2.2.2.1
theorem HS.rg (H : HS w h) {g : Nat} (hg : g < 6) : wR w (h + 1) g = some (h + 9 + g) := H.2.2.2.2.2.2.2.2.2.2.2.2.2.2.2.1 g hg
theorem HS.rk (H : HS w h) {g : Nat} (hg : g < 6) : wR w (h + 9 + g) 0 = some 1 := H.2.2.2.2.2.2.2.2.2.2.2.2.2.2.2.2.1 g hg
theorem HS.c0 (H : HS w h) : wR w (h + 3) 0 = some 1 := H.2.2.2.2.2.2.2.2.2.2.2.2.2.2.2.2.2.1
theorem HS.c1 (H : HS w h) : wR w (h + 3) 1 = some (h + 4) := H.2.2.2.2.2.2.2.2.2.2.2.2.2.2.2.2.2.2.1
theorem HS.c2 (H : HS w h) : wR w (h + 3) 2 = some (h + 5) := H.2.2.2.2.2.2.2.2.2.2.2.2.2.2.2.2.2.2.2.1
theorem HS.c3 (H : HS w h) : wR w (h + 3) 3 = some (h + 6) := H.2.2.2.2.2.2.2.2.2.2.2.2.2.2.2.2.2.2.2.2.1
theorem HS.c4 (H : HS w h) : wR w (h + 3) 4 = some (h + 7) := H.2.2.2.2.2.2.2.2.2.2.2.2.2.2.2.2.2.2.2.2.2.1
theorem HS.c5 (H : HS w h) : wR w (h + 3) 5 = some (h + 8) := H.2.2.2.2.2.2.2.2.2.2.2.2.2.2.2.2.2.2.2.2.2.2.1
theorem HS.k (H : HS w h) : wS w 1 = (18, 6) ∧ (∀ k, k < 6 → wR w 1 k = some (2 + k)) ∧ wS w 2 = (6, 0) ∧ wS w 3 = (9, 0) ∧ wS w 4 = (5, 0) ∧ wS w 5 = (3, 0) ∧ wS w 6 = (8, 0) ∧ wS w 7 = (4, 0) := H.2.2.2.2.2.2.2.2.2.2.2.2.2.2.2.2.2.2.2.2.2.2.2
theorem HS.ok (H : HS w h) : isO w 1 18 = true := isO_iff.mpr ⟨by rw [H.1]; decide, by rw [H.k.1]⟩
theorem HS.nk (H : HS w h) : (wS w 1).2 = 6 := by rw [H.k.1]
theorem HS.rk1 (H : HS w h) {k : Nat} (hk : k < 6) : wR w 1 k = some (2 + k) := H.k.2.1 k hk
end HSL
