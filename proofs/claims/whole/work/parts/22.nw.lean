theorem vr_outer9 (c : ClassId) (N h0 : Nat) : ∀ i : Nat, Jvm.Free.Multi.outerC c N h0 i = arrV c N (fun j => va_rf (if j < i then some (h0 + 1 + j) else none))
  | 0 => by
    show ({ cls := c, slots := Array.replicate N .null, vm := .none } : Cell) = _
    rw [arrV_new]
    refine congrArg (arrV c N) (funext fun j => ?_)
    simp [va_rf]
  | i + 1 => by
    show (Jvm.Free.Multi.outerC c N h0 i).setSlot i (.ref (h0 + 1 + i)) = _
    rw [vr_outer9 c N h0 i, arrV_store]
    refine congrArg (arrV c N) (funext fun j => ?_)
    by_cases e : j = i
    · subst e
      simp [updV, va_rf]
    · by_cases h : j < i
      · simp [updV, e, h, Nat.lt_succ_of_lt h]
      · simp [updV, e, h, show ¬ j < i + 1 by omega]
/-! cells are made: the constructors' rows -/
theorem wN_nC (w : Wd) (t n : Nat) : wN (nC w t n) = wN w + 1 := rfl
theorem wS_nC (w : Wd) (t n b : Nat) : wS (nC w t n) b = if b = wN w then (t, n) else wS w b := rfl
theorem wI_nC (w : Wd) (t n b j : Nat) : wI (nC w t n) b j = if b = wN w then 0 else wI w b j := rfl
theorem wL_nC (w : Wd) (t n b j : Nat) : wL (nC w t n) b j = if b = wN w then 0 else wL w b j := rfl
theorem wR_nC (w : Wd) (t n b j : Nat) : wR (nC w t n) b j = if b = wN w then none else wR w b j := rfl
theorem okf_all : ∀ t, t < 13 → ∀ j, j < fn t → (isRf (fty t j) || decide (fty t j = .int) || decide (fty t j = .long)) = true := by decide
theorem cell_old {G : Nat → ClassId} {B : Nat} {w : Wd} {t n b : Nat} (h : b < wN w) : cellE G B (nC w t n) b = cellE G B w b := by
  have hb : ¬ b = wN w := Nat.ne_of_lt h
  exact cell_ext (by simp [wS_nC, hb]) (by funext j; simp [wI_nC, hb]) (by funext j; simp [wL_nC, hb]) (by funext j; simp [wR_nC, hb])
theorem isO_new {w : Wd} {t n : Nat} : isO (nC w t n) (wN w) t = true := isO_iff.mpr ⟨by rw [wN_nC]; omega, by simp [wS_nC]⟩
theorem lay_nC {G : Nat → ClassId} {B : Nat} {w : Wd} {t n : Nat} {e : va_E} (he : cellE G B (nC w t n) (wN w) = e) : lay G B w ++ [(B + wN w, e)] = lay G B (nC w t n) := lay_push rfl he (fun b hb => cell_old hb)
/-- a new cell's address is the next one -/
theorem new_at {X : Xt} {w : Wd} {H H1 : Heap} {locs : List Loc} {cs q : Nat} {e : va_E} (hW : FW X w H locs cs) (hP : va_P (gD (xg X)) vwCl (lay (gC (xg X)) (gB (xg X)) w ++ [(q, e)]) H1) (hD : va_D (gA (xg X)) (lay (gC (xg X)) (gB (xg X)) w ++ [(q, e)])) (hs : H1.size ≤ (xs X).heap.size + (cs + 1)) : q = gB (xg X) + wN w := by
  have hlast : (lay (gC (xg X)) (gB (xg X)) w ++ [(q, e)])[wN w]? = some (q, e) := by
    rw [List.getElem?_append_right (by rw [lay_len]; omega), lay_len, Nat.sub_self]
    rfl
  have h1 : q < H1.size := (hP _ _ hlast).lt
  have h2 : gB (xg X) ≤ q := hD.2 _ _ hlast
  have h3 := hW.2.2.2.1
  by_cases h4 : q < gB (xg X) + wN w
  · exfalso
    have h5 : q - gB (xg X) < wN w := by omega
    have h6 : (lay (gC (xg X)) (gB (xg X)) w ++ [(q, e)])[q - gB (xg X)]? = some (gB (xg X) + (q - gB (xg X)), cellE (gC (xg X)) (gB (xg X)) w (q - gB (xg X))) := by
      rw [List.getElem?_append_left (by rw [lay_len]; exact h5), lay_get h5]
    have h7 := hD.1 _ _ _ _ hlast h6 (by show q = gB (xg X) + (q - gB (xg X)); omega)
    omega
  · omega
theorem FW.grow {X : Xt} {w : Wd} {t n : Nat} {H H1 : Heap} {locs : List Loc} {cs : Nat} (h : FW X w H locs cs) (hP : va_P (gD (xg X)) vwCl (lay (gC (xg X)) (gB (xg X)) (nC w t n)) H1) (hS : va_S (gA (xg X)) (xs X).heap H1 locs) : FW X (nC w t n) H1 locs (cs + 1) :=
  ⟨h.1, hP, hS, by rw [wN_nC]; have := h.2.2.2.1; omega, h.2.2.2.2.1, h.2.2.2.2.2⟩
theorem cs_ok1 {X : Xt} {own : String} {cc : ByteArray} {nL fr lo mc ms cs sl mc2 ms2 : Nat} (C : Ok X own cc nL fr lo mc ms) (hc : Nat.ble (cs + mc2) mc = true ∧ Nat.ble (sl + ms2) ms = true) : cs + mc2 ≤ (xR X).cells ∧ sl + ms2 ≤ (xR X).slots := cs_ok C hc
section KN
variable {X : Xt} {own : String} {cc : ByteArray} {nL fr lo mc ms cs sl pc : Nat} {Q : State → Prop} {w : Wd} {lv lv2 : List (Nat × Value)} {st : List Value}
theorem k_new (C : Ok X own cc nL fr lo mc ms) {α : Type} {ix t : Nat} {K : Wd → Option α} {z : α} (E : CE t) (hm1 : Cond.classLink own ix (cN t) ∈ tb) (hm2 : Cond.instantiable (cN t) (fn t) ∈ tb) (hm3 : Cond.initialized (cN t) ∈ tb) (hc : Nat.ble (cs + 1) mc = true ∧ Nat.ble (sl + fn t) ms = true) (d : decode cc pc = .ok (.new ix, 3)) (hf : nm (nC w t 0) K = some z) (n : Nat) (hn : n = pc + 3) (kk : ∀ w2, K w2 = some z → Wk X (cs + 1) (sl + fn t) Q w2 lv n (rV (xg X) (wN w) :: st)) : Wk X cs sl Q w lv pc st := by
  subst hn
  obtain ⟨e1, e2, e3, e4, e5⟩ := E
  intro H locs ls hW hl
  have hfs : ∀ j, j < fn t → defaultValue (fty t j) = vp_V (fsO (gB (xg X)) (nC w t 0) (wN w) t) j := fun j hj => by
    have h1 : (fsO (gB (xg X)) (nC w t 0) (wN w) t)[j]? = some (fval (gB (xg X)) (nC w t 0) (wN w) (fty t j) j) := fs_at hj
    unfold vp_V
    rw [List.getD_eq_getElem?_getD, h1]
    have h2 := okf_all t e5 j hj
    simp only [Bool.or_eq_true, decide_eq_true_eq] at h2
    rcases h2 with (h2 | h2) | h2
    · rw [fval_rf h2]
      simp only [arf, wR_nC, if_true, Option.map_none, va_rf, Option.getD_some]
      cases hq : fty t j <;> first | rfl | (rw [hq] at h2; exact absurd h2 (by decide))
    · rw [h2]; simp [fval, wI_nC, defaultValue]
    · rw [h2]; simp [fval, wL_nC, defaultValue]
  refine va_new (ci := t) C.1 C.2.1 C.2.2.2.2.1 e2 (fty t) e3 C.2.2.2.1 (C.2.2.2.2.1 _ hm1) (C.2.2.2.2.1 _ hm2) (C.2.2.2.2.1 _ hm3) hW.1 hW.2.1 lay_D hW.2.2.1 hW.hA e1 hfs (cs_ok1 C hc).1 (cs_ok1 C hc).2 d (fun q H1 hP hD hS => ?_)
  refine W.sized (fun hs => ?_)
  have hq := new_at hW hP hD hs
  subst hq
  rw [lay_nC (n := 0) (cell_o isO_new e5)] at hP
  exact kk _ hf H1 locs ls (hW.grow hP hS) hl
theorem k_newa {t : Nat} {ty : FieldType} {at_ : ArrayType} (hty : newarray.typeOf at_ = ty) (ht : ¬ t < 13) (ht2 : t < 16) (t0 : Nat) (h0 : ∀ g : Gv, (tysG g)[t0]? = some (gC g t, ty)) (hra : ∀ (U : State) (c : ClassId), va_RA U c ty → U.vm.findClass ("[" ++ ty.toString) = some c) (hdv : defaultValue ty = .int 0) (hcb : componentBytes ty ≤ 8) (C : Ok X own cc nL fr lo mc ms) {α : Type} {x : Int32} {N : Nat} {K : Wd → Option α} {z : α} (hm : Cond.arrayClass ty ∈ tb) (hN : ¬ x < 0 ∧ x.toNatClampNeg = N ∧ N ≤ 1000) (hc : Nat.ble (cs + 1) mc = true ∧ Nat.ble (sl + N) ms = true) (d : decode cc pc = .ok (.newarray at_, 2)) (hf : nm (nC w t N) K = some z) (n : Nat) (hn : n = pc + 2) (kk : ∀ w2, K w2 = some z → Wk X (cs + 1) (sl + N) Q w2 lv n (rV (xg X) (wN w) :: st)) : Wk X cs sl Q w lv pc (.int x :: st) := by
  subst hn
  intro H locs ls hW hl
  refine va_newa (a0 := (N, .inl (fun _ => 0))) C.1 C.2.1 (by rw [hty]; exact C.2.2.2.2.1 _ hm) hty hW.1 hW.2.1 lay_D hW.2.2.1 hW.hA (fun cA => by rw [vp_cell_i, hdv]) hN.1 hN.2.1 (Nat.le_trans (Nat.mul_le_mul hN.2.2 hcb) (by decide)) (cs_ok1 C hc).1 (cs_ok1 C hc).2 d (fun q cA H1 hK1 hP hD hS => ?_)
  refine W.sized (fun hs => ?_)
  have hq := new_at hW hP hD hs
  subst hq
  have hc1 : (xs X).vm.findClass ("[" ++ ty.toString) = some cA := by
    have h9 := (hK1.2 (tysG (xg X)).length (cA, ty) (by rw [List.getElem?_append_right (Nat.le_refl _), Nat.sub_self]; rfl)).2
    exact hra _ _ h9
  have hc2 : (xs X).vm.findClass ("[" ++ ty.toString) = some (gC (xg X) t) := hra _ _ (hW.1.2 t0 _ (h0 (xg X))).2
  have hca : cA = gC (xg X) t := Option.some.inj (hc1.symm.trans hc2)
  subst hca
  rw [lay_nC (t := t) (n := N) (by
    rw [cell_i (isO_new (w := w) (t := t) (n := N)) ht ht2]
    have e9 : wI (nC w t N) (wN w) = fun _ => 0 := by funext j; simp [wI_nC]
    rw [e9]
    simp [wS_nC])] at hP
  exact kk _ hf H1 locs ls (hW.grow hP hS) hl
theorem k_newq {t : Nat} {Cn : String} (t0 : Nat) (ht2 : ¬ t < 16) (h0 : ∀ g : Gv, (tysG g)[t0]? = some (gC g t, .object Cn)) (C : Ok X own cc nL fr lo mc ms) {α : Type} {ix : Nat} {x : Int32} {N : Nat} {K : Wd → Option α} {z : α} (hm : Cond.classLink own ix Cn ∈ tb) (hO : ∀ U, AOs U → va_AO Cn U) (hN : ¬ x < 0 ∧ x.toNatClampNeg = N ∧ N ≤ 1000) (hc : Nat.ble (cs + 1) mc = true ∧ Nat.ble (sl + N) ms = true) (d : decode cc pc = .ok (.anewarray ix, 3)) (hf : nm (nC w t N) K = some z) (n : Nat) (hn : n = pc + 3) (kk : ∀ w2, K w2 = some z → Wk X (cs + 1) (sl + N) Q w2 lv n (rV (xg X) (wN w) :: st)) : Wk X cs sl Q w lv pc (.int x :: st) := by
  subst hn
  intro H locs ls hW hl
  refine va_newq C.1 C.2.1 C.2.2.2.1 (C.2.2.2.2.1 _ hm) (hO _ hW.sw.2.2.2.2.2) hW.1 hW.2.1 lay_D hW.2.2.1 hW.hA hN.1 hN.2.1 (Nat.le_trans (Nat.mul_le_mul_right 4 hN.2.2) (by decide)) (cs_ok1 C hc).1 (cs_ok1 C hc).2 d (fun q cA H1 hK1 hP hD hS => ?_)
  refine W.sized (fun hs => ?_)
  have hq := new_at hW hP hD hs
  subst hq
  obtain ⟨kA, comp, -, -, -, hc1⟩ := (hK1.2 (tysG (xg X)).length (cA, .object Cn) (by rw [List.getElem?_append_right (Nat.le_refl _), Nat.sub_self]; rfl)).2
  obtain ⟨kA2, comp2, -, -, -, hc2⟩ := (hW.1.2 t0 _ (h0 (xg X))).2
  have hca : cA = gC (xg X) t := Option.some.inj (hc1.symm.trans hc2)
  subst hca
  rw [lay_nC (t := t) (n := N) (by
    rw [cell_r (isO_new (w := w) (t := t) (n := N)) ht2]
    have e9 : arf (gB (xg X)) (wR (nC w t N) (wN w)) = fun _ => none := by funext j; simp [arf, wR_nC]
    rw [e9]
    simp [wS_nC])] at hP
  exact kk _ hf H1 locs ls (hW.grow hP hS) hl
theorem k_aast {t tr : Nat} {Cn : String} (t0 : Nat) (ht2 : ¬ t < 16) (h0 : ∀ g : Gv, (tysG g)[t0]? = some (gC g t, .object Cn)) (E : CE tr) (hcn : cN tr = Cn ∨ Cond.castable (cN tr) Cn ∈ nwT) (C : Ok X own cc nL fr lo mc ms) {α : Type} {a r : Nat} {i : Int32} {K : Wd → Option α} {z : α} (d : decode cc pc = .ok (.aastore, 1)) (hf : aR w a t i r tr K = some z) (n : Nat) (hn : n = pc + 1) (kk : ∀ w2, w2 = sR w a i.toNatClampNeg r → K w2 = some z → Wk X cs sl Q w2 lv n st) : Wk X cs sl Q w lv pc (rV (xg X) r :: .int i :: rV (xg X) a :: st) := by
  subst hn
  obtain ⟨h1, h3, h4, h2⟩ := aR_s hf
  intro H locs ls hW hl
  have hend : ∀ (H1 : Heap) (locs1 : List Loc), va_P (gD (xg X)) vwCl ((lay (gC (xg X)) (gB (xg X)) w).set a (gB (xg X) + a, .inl (gC (xg X) t, (wS w a).2, .inr (.inr (.inr (.inr (va_up (arf (gB (xg X)) (wR w a)) i.toNatClampNeg (some (gB (xg X) + r))))))))) H1 → va_S (gA (xg X)) (xs X).heap H1 locs1 → Wq X H1 locs1 cs sl Q (pc + 1) ls st := by
    intro H1 locs1 hP hS
    rw [lay_aR h1 ht2] at hP
    exact kk _ rfl h2 H1 locs1 ls (hW.to hP hS rfl) hl
  rcases hcn with hcn | hcn
  · subst hcn
    exact va_astq (r := (cN tr, cT tr, fn tr)) C.1 C.2.1 hW.1 hW.2.1 lay_D hW.2.2.1 a t0 r tr (by rw [lay_get (isO_iff.mp h1).1, cell_r h1 ht2]) (h0 (xg X)) (by rw [lay_get (isO_iff.mp h4).1, cell_o h4 E.2.2.2.2]) E.1 (inb_vp h3) d (fun H1 locs1 hP hD hS => hend H1 locs1 hP hS)
  · exact va_astqO (r := (cN tr, cT tr, fn tr)) C.1 C.2.1 hW.1 hW.2.1 lay_D hW.2.2.1 a t0 r tr (by rw [lay_get (isO_iff.mp h1).1, cell_r h1 ht2]) (h0 (xg X)) (hW.2.2.2.2.2.1 _ hcn) (by rw [lay_get (isO_iff.mp h4).1, cell_o h4 E.2.2.2.2]) E.1 (inb_vp h3) d (fun H1 locs1 hP hD hS => hend H1 locs1 hP hS)
theorem k_objInit (C : Ok X own cc nL fr lo mc ms) {ix a : Nat} (hm1 : Cond.methodLink own ix Lib.objectInit ∈ tb) (hm2 : Cond.instanceMethod Lib.objectInit ∈ tb) (hm3 : Cond.code Lib.objectInit ⟨#[0xb1]⟩ 1 none ∈ tb) (hfr : 1 ≤ fr) (hlo : (st.map fun v => v.category).sum + 12 ≤ lo) (d : decode cc pc = .ok (.invokespecial ix, 3)) (n : Nat) (hn : n = pc + 3) (kk : Wk X cs sl Q w lv n st) : Wk X cs sl Q w lv pc (rV (xg X) a :: st) := by
  subst hn
  obtain ⟨C1, C2, C3, C4, C5, C6, C7, C8, C9, C10, C11⟩ := C
  intro H locs ls hW hl
  refine W.objInit C1 C2 C4 (C5 _ hm1) (C5 _ hm2) (C5 _ hm3) rfl (by rw [C3]; exact hl.1) rfl d (by rw [C7]; exact hfr) (by rw [C8]; show 2 * 0 + _ + 12 ≤ _; omega) ?_
  exact kk H locs ls hW hl
/-! int[m][n] -/
theorem wN_nG (w : Wd) (m n : Nat) : wN (nG w m n) = wN w + 1 + m := rfl
theorem cell_oldG {G : Nat → ClassId} {B : Nat} {w : Wd} {m n b : Nat} (h : b < wN w) : cellE G B (nG w m n) b = cellE G B w b := by
  have h1 : ¬ b = wN w := Nat.ne_of_lt h
  have h2 : ¬ (wN w < b ∧ b < wN w + 1 + m) := by omega
  have h3 : ¬ (wN w ≤ b ∧ b < wN w + 1 + m) := by omega
  refine cell_ext ?_ ?_ ?_ ?_
  · show (if b = wN w then (19, m) else if wN w < b ∧ b < wN w + 1 + m then (14, n) else wS w b) = wS w b
    rw [if_neg h1, if_neg h2]
  · funext j
    show (if wN w ≤ b ∧ b < wN w + 1 + m then 0 else wI w b j) = wI w b j
    rw [if_neg h3]
  · funext j
    show (if wN w ≤ b ∧ b < wN w + 1 + m then 0 else wL w b j) = wL w b j
    rw [if_neg h3]
  · funext j
    show (if b = wN w then (if j < m then some (wN w + 1 + j) else none) else if wN w < b ∧ b < wN w + 1 + m then none else wR w b j) = wR w b j
    rw [if_neg h1, if_neg h2]
theorem k_mna (C : Ok X own cc nL fr lo mc ms) {α : Type} {ix : Nat} {x y : Int32} {M N : Nat} {K : Wd → Option α} {z : α} (hm : Cond.classLink own ix "[[I" ∈ tb) (hm2 : Cond.arrayClass .int ∈ tb) (hM : ¬ x < 0 ∧ x.toNatClampNeg = M ∧ M ≤ 1000) (hN : ¬ y < 0 ∧ y.toNatClampNeg = N ∧ N ≤ 1000) (hc : Nat.ble (cs + (1 + M)) mc = true ∧ Nat.ble (sl + (M + M * N)) ms = true) (d : decode cc pc = .ok (.multianewarray ix 2, 4)) (hf : nm (nG w M N) K = some z) (n : Nat) (hn : n = pc + 4) (kk : ∀ w2, K w2 = some z → Wk X (cs + 1 + M) (sl + M + M * N) Q w2 lv n (rV (xg X) (wN w) :: st)) : Wk X cs sl Q w lv pc (.int y :: .int x :: st) := by
  subst hn
  obtain ⟨hM1, hM2, hM3⟩ := hM
  obtain ⟨hN1, hN2, hN3⟩ := hN
  subst hM2; subst hN2
  intro H locs ls hW hl
  refine W.sized (fun hs => ?_)
  have hsz := hW.size hs
  intro T hT Xs
  have hO2 : (Cond.arrayOver (.array .int)).before (xa X) (xs X) = true := hW.sw.2.2.2.2.2.2.2.2
  obtain ⟨vm₁, cA, comp, -, fA, fC, hOo, -, X', step⟩ := Xs.multianewarray2F (ty := .int) C.1 C.2.2.2.1 (C.2.2.2.2.1 _ hm) hO2 (C.2.2.2.2.1 _ hm2) (g := F0 (xm X) pc ls (.int y :: .int x :: st)) rfl (by rw [C.2.1]; exact d) rfl hM1 hN1 (Nat.le_trans (Nat.mul_le_mul_right 4 hM3) (by decide)) (Nat.le_trans (Nat.mul_le_mul_right _ hN3) (by decide)) (Nat.le_trans hN3 (by decide)) rfl rfl (cs_ok C hc).1 (cs_ok C hc).2
  have ecA : cA = gC (xg X) 19 := by
    have h9 : (xs X).vm.findClass ("[" ++ (FieldType.array .int).toString) = some (gC (xg X) 19) := (hW.1.2 6 (gC (xg X) 19, .array .int) rfl).2
    exact Option.some.inj (fA.symm.trans h9)
  have ecm : comp = gC (xg X) 14 := by
    have h9 : (xs X).vm.findClass ("[" ++ (FieldType.int).toString) = some (gC (xg X) 14) := (hW.1.2 1 (gC (xg X) 14, .int) rfl).2
    exact Option.some.inj (fC.symm.trans h9)
  subst ecA; subst ecm
  generalize hF : Jvm.Free.Multi.fill (T.setVm vm₁) (gC (xg X) 19) (gC (xg X) 14) x.toNatClampNeg y.toNatClampNeg (defaultValue .int) x.toNatClampNeg = F at X' step
  have hTh : (T.setVm vm₁).heap = H := hT
  obtain ⟨f1, f2, -, -⟩ := Jvm.Free.Multi.fill_facts (T.setVm vm₁) (gC (xg X) 19) (gC (xg X) 14) x.toNatClampNeg y.toNatClampNeg (defaultValue .int) x.toNatClampNeg
  rw [hF, hTh] at f1 f2
  have hold : ∀ a : Nat, a < H.size → F.heap[a]? = H[a]? := fun a ha => by
    have := Jvm.Free.Multi.fill_old (T.setVm vm₁) (gC (xg X) 19) (gC (xg X) 14) x.toNatClampNeg y.toNatClampNeg (defaultValue .int) (a := a) (by rw [hTh]; exact ha) x.toNatClampNeg
    rw [hF, hTh] at this
    exact this
  have hrow : ∀ j : Nat, j < x.toNatClampNeg → F.heap[H.size + 1 + j]? = some (Jvm.Free.Multi.innerC (gC (xg X) 14) y.toNatClampNeg (defaultValue .int)) := fun j hj => by
    have := Jvm.Free.Multi.fill_inner (T.setVm vm₁) (gC (xg X) 19) (gC (xg X) 14) x.toNatClampNeg y.toNatClampNeg (defaultValue .int) x.toNatClampNeg j hj
    rw [hF, hTh] at this
    exact this
  have hP1 : va_P (gD (xg X)) vwCl (lay (gC (xg X)) (gB (xg X)) (nG w x.toNatClampNeg y.toNatClampNeg)) F.heap := by
    intro k q hk
    obtain ⟨hk1, rfl⟩ := lay_at hk
    rw [wN_nG] at hk1
    by_cases h1 : k < wN w
    · rw [cell_oldG h1]
      have h2 := hW.2.1 k _ (lay_get h1)
      exact h2.kept (hold _ h2.lt)
    · by_cases h2 : k = wN w
      · subst h2
        have hO9 : isO (nG w x.toNatClampNeg y.toNatClampNeg) (wN w) 19 = true := isO_iff.mpr ⟨by rw [wN_nG]; omega, by show (if wN w = wN w then (19, x.toNatClampNeg) else _).1 = 19; rw [if_pos rfl]⟩
        rw [cell_r hO9 (by decide)]
        show F.heap[gB (xg X) + wN w]? = some (vp_cell _ _)
        have hS9 : wS (nG w x.toNatClampNeg y.toNatClampNeg) (wN w) = (19, x.toNatClampNeg) := by
          show (if wN w = wN w then (19, x.toNatClampNeg) else _) = _
          rw [if_pos rfl]
        rw [← hsz, f2, vp_cell_q, vr_outer9, hS9]
        refine congrArg (fun f => some (arrV (gC (xg X) 19) x.toNatClampNeg f)) (funext fun j => ?_)
        have e9 : wR (nG w x.toNatClampNeg y.toNatClampNeg) (wN w) j = if j < x.toNatClampNeg then some (wN w + 1 + j) else none := by
          show (if wN w = wN w then (if j < x.toNatClampNeg then some (wN w + 1 + j) else none) else _) = _
          rw [if_pos rfl]
        unfold arf
        rw [e9]
        by_cases hj : j < x.toNatClampNeg
        · rw [if_pos hj, if_pos hj, hsz]
          simp [Nat.add_assoc]
        · rw [if_neg hj, if_neg hj]
          rfl
      · have h3 : wN w < k := by omega
        have h4 : wN w < k ∧ k < wN w + 1 + x.toNatClampNeg := ⟨h3, hk1⟩
        have hS9 : wS (nG w x.toNatClampNeg y.toNatClampNeg) k = (14, y.toNatClampNeg) := by
          show (if k = wN w then (19, x.toNatClampNeg) else if wN w < k ∧ k < wN w + 1 + x.toNatClampNeg then (14, y.toNatClampNeg) else wS w k) = _
          rw [if_neg h2, if_pos h4]
        have hO9 : isO (nG w x.toNatClampNeg y.toNatClampNeg) k 14 = true := isO_iff.mpr ⟨by rw [wN_nG]; exact hk1, by rw [hS9]⟩
        rw [cell_i hO9 (by decide) (by decide), hS9]
        show F.heap[gB (xg X) + k]? = some (vp_cell _ _)
        have h5 := hrow (k - (wN w + 1)) (by omega)
        rw [show H.size + 1 + (k - (wN w + 1)) = gB (xg X) + k by omega] at h5
        rw [h5, vp_cell_i]
        have e9 : wI (nG w x.toNatClampNeg y.toNatClampNeg) k = fun _ => 0 := by
          funext j
          show (if wN w ≤ k ∧ k < wN w + 1 + x.toNatClampNeg then 0 else wI w k j) = 0
          rw [if_pos ⟨by omega, hk1⟩]
        rw [e9]
        show some ({ cls := _, slots := Array.replicate y.toNatClampNeg (defaultValue .int), vm := .none } : Cell) = _
        rw [arrV_new]
        rfl
  have hS1 : va_S (gA (xg X)) (xs X).heap F.heap locs := ⟨by rw [f1]; have := hW.2.2.1.1; omega, fun a h1 h2 => (hold a (Nat.lt_of_lt_of_le h1 hW.2.2.1.1)).trans (hW.2.2.1.2.1 a h1 h2), hW.2.2.1.2.2⟩
  obtain ⟨t, a1, b1⟩ := kk _ hf F.heap locs ls ⟨hW.1, hP1, hS1, by rw [wN_nG]; have := hW.2.2.2.1; omega, hW.2.2.2.2⟩ hl F rfl X'
  refine ⟨t, step t ?_, b1⟩
  have e : T.heap.size = gB (xg X) + wN w := by rw [hT]; exact hsz
  rw [e]
  exact a1
end KN
