/-! tb: the tables' words that stay; nwT: those that are carried beside -/
def tb : List Cond := lw_tbl.filter goodWord
theorem tb_of {c : Cond} (i : Nat) (h : lw_tbl[i]? = some c) (g : goodWord c = true) : c ∈ tb := List.mem_filter.mpr ⟨List.mem_of_getElem? h, g⟩
theorem tb_good {w : Cond} (h : w ∈ tb) : (w.onTables && w.keeps) = true ∨ ∃ ty, w = .arrayClass ty := good_of_word (List.mem_filter.mp h).2
theorem tb_goodIn {c : Cond} (h : c ∈ tb) : GoodIn tb (c :: tb) := fun w hw => by
  rcases List.mem_cons.mp hw with rfl | hw
  · exact ⟨h, tb_good h⟩
  · exact ⟨hw, tb_good hw⟩
def isNw (c : Cond) : Bool := match c with
  | .methodLinkNest _ _ _ _ => true
  | .castable _ _ => true
  | .declares _ => true
  | _ => false
def nwT : List Cond := lw_tbl.filter isNw
theorem nw_of {c : Cond} (i : Nat) (h : lw_tbl[i]? = some c) (g : isNw c = true) : c ∈ nwT := List.mem_filter.mpr ⟨List.mem_of_getElem? h, g⟩
theorem nw_warm {c : Cond} {s U : State} (hc : isNw c = true) (hW : s.WarmedH U.vm) (h : va_Nw c s) : va_Nw c U := by
  cases c <;> first | (exact absurd hc (by decide)) | exact va_Nw.warmM hW h | exact va_Nw.warmC hW h | exact va_Nw.warmD hW h | (simp [isNw] at hc)
theorem nw_same {c : Cond} {u U : State} (hc : isNw c = true) (hv : u.vm = U.vm) (h : va_Nw c u) : va_Nw c U := by
  cases c <;> first | (exact absurd hc (by decide)) | exact va_Nw.same rfl hv h | (simp [isNw] at hc)
/-! the strings of the class, the static that String asks -/
def lenS : List Nat := [4, 5, 5, 4, 4]
def bytS : List (List Int32) := [[109, 105, 108, 108], [103, 111, 111, 100, 115], [103, 114, 105, 110, 100], [119, 111, 114, 100], [99, 111, 108, 100]]
def sIx : List Nat := [44, 63, 69, 77, 81]
def sTx : List String := ["mill", "goods", "grind", "word", "cold"]
/-- classes, array classes, base, the strings' addresses and their bytes' -/
abbrev Gv : Type := va_G × (Nat → ClassId) × Nat × (Nat → Nat) × (Nat → Nat)
def gD (g : Gv) : va_G := g.1
def gC (g : Gv) : Nat → ClassId := g.2.1
def gB (g : Gv) : Nat := g.2.2.1
def gK (g : Gv) : Nat → Nat := g.2.2.2.1
def gV (g : Gv) : Nat → Nat := g.2.2.2.2
def gA (g : Gv) : Nat → Prop := fun q => gB g ≤ q
def tysG (g : Gv) : List (ClassId × FieldType) := [(gC g 13, .byte), (gC g 14, .int), (gC g 15, .boolean), (gC g 16, .object "GrindMill$Goods"), (gC g 17, .object "GrindMill$House"), (gC g 18, .object "GrindMill$Plain"), (gC g 19, .array .int)]
def AOA (ty : FieldType) (U : State) : Prop := (Cond.arrayOver (.array ty)).before #[] U = true
theorem AOA.moved {ty : FieldType} {u U : State} (hvm : u.vm.Alike U.vm) (h : AOA ty u) : AOA ty U := by
  unfold AOA Cond.before Cond.holds at h ⊢
  simp only [Cond.value, beq_iff_eq] at h ⊢
  rw [hvm.findClass]
  cases hc : u.vm.findClass (FieldType.array ty).toString with
  | none => simp [hc] at h
  | some comp =>
    simp only [hc, Option.bind_some, Option.bind_eq_some_iff, Option.map_eq_some_iff] at h ⊢
    obtain ⟨c, hi, k, hk, hb⟩ := h
    obtain ⟨k', hk', he⟩ := hvm.2.2 _ _ hk
    refine ⟨c, ?_, k', hk', ?_⟩
    · have h3 : u.vm.bare = U.vm.bare := by first | exact hvm.bare_eq | exact hvm.bare_eq.symm
      exact (va_idx_bare U.vm comp).symm.trans ((congrArg (fun v : Vm => (v.classes.findIdx? fun (x : Class) => match x.kind with | .array component _ => component == comp | _ => false)) h3.symm).trans ((va_idx_bare u.vm comp).trans hi))
    · rw [show k'.kind = k.kind by rw [he]]
      first | exact hb | (simp only [hvm.findClass]; exact hb)
/-- the array classes that are made over others -/
def AOs (U : State) : Prop := va_AO "GrindMill$Goods" U ∧ va_AO "GrindMill$House" U ∧ va_AO "GrindMill$Plain" U ∧ AOA .int U
theorem AOs.moved {u U : State} (hvm : u.vm.Alike U.vm) (h : AOs u) : AOs U := ⟨h.1.moved hvm, h.2.1.moved hvm, h.2.2.1.moved hvm, AOA.moved hvm h.2.2.2⟩
/-- what stays of the state itself -/
def SW (g : Gv) (U : State) : Prop :=
  (∀ c ∈ nwT, va_Nw c U) ∧ vk_S 5 lenS bytS (gK g) (gV g) (gA g) U U.heap ∧ (∀ j, j < 5 → vk_R "GrindMill$Text" (sIx.getD j 0) (sTx.getD j "") (gK g j) U) ∧ va_Z "java/lang/String" "COMPACT_STRINGS" "Z" (.int 1) (gA g) U U.heap ∧ va_Zq "jdk/internal/util/Preconditions" "SIOOBE_FORMATTER" "Ljava/util/function/BiFunction;" (gA g) U U.heap ∧ AOs U
theorem SW.blind {g : Gv} {U V : State} (hv : U.vm = V.vm) (hh : V.heap = U.heap) (h : SW g U) : SW g V := by
  obtain ⟨h1, h2, h3, h4, h5, h6⟩ := h
  have ha : U.vm.Alike V.vm := by rw [← hv]; exact Vm.Alike.refl _
  refine ⟨fun c hc => nw_same (List.mem_filter.mp hc).2 hv (h1 c hc), ?_, fun j hj => vk_R.same hv.symm (h3 j hj), ?_, ?_, h6.moved ha⟩
  · rw [hh]; exact vk_S.moved ha h2
  · rw [hh]; exact va_Z.moved ha h4
  · rw [hh]; exact va_Zq.moved ha h5
theorem SW.warm {g : Gv} {s U : State} (hW : s.WarmedH U.vm) (hq : ∀ a : Nat, a < s.heap.size → ¬ gA g a → U.heap[a]? = s.heap[a]?) (h : SW g s) : SW g U := by
  obtain ⟨h1, h2, h3, h4, h5, h6⟩ := h
  exact ⟨fun c hc => nw_warm (List.mem_filter.mp hc).2 hW (h1 c hc), (vk_S.moved hW.alike h2).kept hq, fun j hj => vk_R.warm hW (h3 j hj), (va_Z.moved hW.alike h4).kept hq, (va_Zq.moved hW.alike h5).kept hq, h6.moved hW.alike⟩
def PW (g : Gv) (w : Wd) (U : State) : Prop := va_K (gD g) vwCl (tysG g) U ∧ va_P (gD g) vwCl (lay (gC g) (gB g) w) U.heap ∧ U.heap.size = gB g + wN w
def rV (g : Gv) (a : Nat) : Value := .ref (gB g + a)
def sV (g : Gv) (j : Nat) : Value := .ref (gK g j)
/-- a method's context -/
abbrev Xt : Type := Program × Launch × Env × Room × State × MethodId × Array Value × List Frame × Method × Code × Gv × Nat
def xp (X : Xt) : Program := X.1
def xl (X : Xt) : Launch := X.2.1
def xe (X : Xt) : Env := X.2.2.1
def xR (X : Xt) : Room := X.2.2.2.1
def xs (X : Xt) : State := X.2.2.2.2.1
def xm (X : Xt) : MethodId := X.2.2.2.2.2.1
def xa (X : Xt) : Array Value := X.2.2.2.2.2.2.1
def xb (X : Xt) : List Frame := X.2.2.2.2.2.2.2.1
def xme (X : Xt) : Method := X.2.2.2.2.2.2.2.2.1
def xc (X : Xt) : Code := X.2.2.2.2.2.2.2.2.2.1
def xg (X : Xt) : Gv := X.2.2.2.2.2.2.2.2.2.2.1
def xn (X : Xt) : Nat := X.2.2.2.2.2.2.2.2.2.2.2
def FW (X : Xt) (w : Wd) (H : Heap) (locs : List Loc) (cs : Nat) : Prop :=
  va_K (gD (xg X)) vwCl (tysG (xg X)) (xs X) ∧ va_P (gD (xg X)) vwCl (lay (gC (xg X)) (gB (xg X)) w) H ∧ va_S (gA (xg X)) (xs X).heap H locs ∧ gB (xg X) + wN w = (xs X).heap.size + cs ∧ gB (xg X) ≤ (xs X).heap.size ∧ SW (xg X) (xs X)
abbrev Wq (X : Xt) (H : Heap) (locs : List Loc) (cs sl : Nat) (Q : State → Prop) (pc : Nat) (ls : Array Slot) (st : List Value) : Prop :=
  W (xp X) (xl X) (xe X) (xR X) (xs X) (xm X) (xa X) (xb X) (xme X) (xc X) H locs cs sl Q (F0 (xm X) pc ls st)
def Wk (X : Xt) (cs sl : Nat) (Q : State → Prop) (w : Wd) (lv : List (Nat × Value)) (pc : Nat) (st : List Value) : Prop :=
  ∀ (H : Heap) (locs : List Loc) (ls : Array Slot), FW X w H locs cs → lv_has ls (xn X) lv → Wq X H locs cs sl Q pc ls st
def Ok (X : Xt) (own : String) (cc : ByteArray) (nL fr lo mc ms : Nat) : Prop :=
  (xp X).tables.exec = Jvm.exec ∧ (xc X).code = cc ∧ (xc X).maxLocals = xn X ∧ (xs X).vm.findClass own = some (xm X).cls ∧ (∀ w ∈ tb, w.before (xa X) (xs X) = true) ∧ (xme X).locks = false ∧ (xR X).frames = fr ∧ (xR X).locals = lo ∧ (xR X).cells = mc ∧ (xR X).slots = ms ∧ xn X = nL
/-! contracts -/
def PcG (g : Gv) (av : List Value) (w : Wd) : Array Value → State → Prop := va_Pc av (fun U => PW g w U ∧ SW g U)
def QcI (g : Gv) (mc : Nat) (w : Wd) (r : Int32) (w' : Wd) : Array Value → State → Outcome → State → Prop := va_Qi (fun r' (_ : Unit) => r' = r ∧ wN w' = wN w + mc) (fun _ t => PW g w' t) (gA g)
def QcL (g : Gv) (mc : Nat) (w : Wd) (r : Int64) (w' : Wd) : Array Value → State → Outcome → State → Prop := va_Ql (fun r' (_ : Unit) => r' = r ∧ wN w' = wN w + mc) (fun _ t => PW g w' t) (gA g)
def QcV (g : Gv) (mc : Nat) (w : Wd) (w' : Wd) : Array Value → State → Outcome → State → Prop := va_Qv (fun (_ : Unit) => wN w' = wN w + mc) (fun _ t => PW g w' t) (gA g)
abbrev rmO (fr lo mc ms : Nat) : Room := { frames := fr, cells := mc, slots := ms, locals := lo }
def MI (g : Gv) (l : Launch) (y : MethodName) (b : ByteArray) (mL : Nat) (rt : FieldType) (fr lo : Nat) (av : List Value) (w : Wd) (r : Int32) (w' : Wd) : Prop :=
  Met l y (.code y b mL (some rt) :: tb) (rmO fr lo 0 0) (PcG g av w) (QcI g 0 w r w') 0 0 (gA g)
def ML (g : Gv) (l : Launch) (y : MethodName) (b : ByteArray) (mL : Nat) (fr lo : Nat) (av : List Value) (w : Wd) (r : Int64) (w' : Wd) : Prop :=
  Met l y (.code y b mL (some .long) :: tb) (rmO fr lo 0 0) (PcG g av w) (QcL g 0 w r w') 0 0 (gA g)
def MV (g : Gv) (l : Launch) (y : MethodName) (b : ByteArray) (mL : Nat) (fr lo mc ms : Nat) (av : List Value) (w : Wd) (w' : Wd) : Prop :=
  Met l y (.code y b mL none :: tb) (rmO fr lo mc ms) (PcG g av w) (QcV g mc w w') mc ms (gA g)
def QI (X : Xt) (w : Wd) (r : Int32) (w' : Wd) : State → Prop := MQ (xb X) (QcI (xg X) 0 w r w') (xa X) (xs X) 0 0 (gA (xg X))
def QL (X : Xt) (w : Wd) (r : Int64) (w' : Wd) : State → Prop := MQ (xb X) (QcL (xg X) 0 w r w') (xa X) (xs X) 0 0 (gA (xg X))
def QV (X : Xt) (mc ms : Nat) (w : Wd) (w' : Wd) : State → Prop := MQ (xb X) (QcV (xg X) mc w w') (xa X) (xs X) mc ms (gA (xg X))
theorem mi_of {g : Gv} {l : Launch} {y : MethodName} {b : ByteArray} {mL : Nat} {rt : FieldType} {fr lo : Nat} {av : List Value} {w : Wd} {r : Int32} {w' : Wd} (own : String) (hy : plainName y.cls = true) (ho : own = y.cls) (hlen : (lg_sl av).length ≤ mL)
    (k : ∀ X : Xt, xg X = g → xl X = l → Ok X own b mL fr lo 0 0 → (xme X).sig.returnType = some rt → gB g + wN w = (xs X).heap.size → Wk X 0 0 (QI X w r w') w (lv_args 0 av) 0 []) : MI g l y b mL rt fr lo av w r w' := by
  refine Met.ofW (cc := b) (maxL := mL) (ret := some rt) hy rfl ?_
  intro p e s m args below meth c s₁ Bd hml hv
  obtain ⟨rfl, ⟨hK, hP, hsz⟩, hst⟩ := hv
  have hts := atoms_spec (ws := .code y b mL (some rt) :: tb) Bd.pre
  have hl := lv_entry av (n := mL) hlen
  rw [lg_entry_eq]
  exact k (p, l, e, _, s, m, av.toArray, below, meth, c, g, mL) rfl rfl ⟨Bd.exec, Bd.bytes, hml, by rw [ho]; exact findClass_of_methodNamed Bd.named, fun w h => hts w (List.mem_cons_of_mem _ h), Bd.notSynchronized, rfl, rfl, rfl, rfl, rfl⟩ Bd.returns hsz.symm s.heap [] _ ⟨hK, hP, va_S.rf, hsz.symm, by show gB g ≤ s.heap.size; omega, hst⟩ hl
theorem ml_of {g : Gv} {l : Launch} {y : MethodName} {b : ByteArray} {mL : Nat} {fr lo : Nat} {av : List Value} {w : Wd} {r : Int64} {w' : Wd} (own : String) (hy : plainName y.cls = true) (ho : own = y.cls) (hlen : (lg_sl av).length ≤ mL)
    (k : ∀ X : Xt, xg X = g → xl X = l → Ok X own b mL fr lo 0 0 → (xme X).sig.returnType = some .long → gB g + wN w = (xs X).heap.size → Wk X 0 0 (QL X w r w') w (lv_args 0 av) 0 []) : ML g l y b mL fr lo av w r w' := by
  refine Met.ofW (cc := b) (maxL := mL) (ret := some .long) hy rfl ?_
  intro p e s m args below meth c s₁ Bd hml hv
  obtain ⟨rfl, ⟨hK, hP, hsz⟩, hst⟩ := hv
  have hts := atoms_spec (ws := .code y b mL (some .long) :: tb) Bd.pre
  have hl := lv_entry av (n := mL) hlen
  rw [lg_entry_eq]
  exact k (p, l, e, _, s, m, av.toArray, below, meth, c, g, mL) rfl rfl ⟨Bd.exec, Bd.bytes, hml, by rw [ho]; exact findClass_of_methodNamed Bd.named, fun w h => hts w (List.mem_cons_of_mem _ h), Bd.notSynchronized, rfl, rfl, rfl, rfl, rfl⟩ Bd.returns hsz.symm s.heap [] _ ⟨hK, hP, va_S.rf, hsz.symm, by show gB g ≤ s.heap.size; omega, hst⟩ hl
theorem mv_of {g : Gv} {l : Launch} {y : MethodName} {b : ByteArray} {mL : Nat} {fr lo mc ms : Nat} {av : List Value} {w : Wd} {w' : Wd} (own : String) (hy : plainName y.cls = true) (ho : own = y.cls) (hlen : (lg_sl av).length ≤ mL)
    (k : ∀ X : Xt, xg X = g → xl X = l → Ok X own b mL fr lo mc ms → (xme X).sig.returnType = none → gB g + wN w = (xs X).heap.size → (xme X).name = y.name → Wk X 0 0 (QV X mc ms w w') w (lv_args 0 av) 0 []) : MV g l y b mL fr lo mc ms av w w' := by
  refine Met.ofW (cc := b) (maxL := mL) (ret := none) hy rfl ?_
  intro p e s m args below meth c s₁ Bd hml hv
  obtain ⟨rfl, ⟨hK, hP, hsz⟩, hst⟩ := hv
  have hts := atoms_spec (ws := .code y b mL none :: tb) Bd.pre
  have hl := lv_entry av (n := mL) hlen
  rw [lg_entry_eq]
  exact k (p, l, e, _, s, m, av.toArray, below, meth, c, g, mL) rfl rfl ⟨Bd.exec, Bd.bytes, hml, by rw [ho]; exact findClass_of_methodNamed Bd.named, fun w h => hts w (List.mem_cons_of_mem _ h), Bd.notSynchronized, rfl, rfl, rfl, rfl, rfl⟩ Bd.returns hsz.symm (name_of_methodNamed Bd.named Bd.method).1 s.heap [] _ ⟨hK, hP, va_S.rf, hsz.symm, by show gB g ≤ s.heap.size; omega, hst⟩ hl
/-- the heap is no larger than the cells made -/
theorem W.sized {p : Program} {l : Launch} {e : Env} {R : Room} {s : State} {m : MethodId} {args : Array Value} {below : List Frame} {meth : Method} {c : Code} {H : Heap} {locs : List Loc} {cells slots : Nat} {Q : State → Prop} {g : JFrame} (k : H.size ≤ s.heap.size + cells → W p l e R s m args below meth c H locs cells slots Q g) : W p l e R s m args below meth c H locs cells slots Q g :=
  fun T hT X => k (by rw [← hT]; exact X.heapSize) T hT X
theorem FW.low {X : Xt} {w : Wd} {H : Heap} {locs : List Loc} {cs : Nat} (h : FW X w H locs cs) : gB (xg X) + wN w ≤ H.size := by
  obtain ⟨-, hP, hS, hn, hB, -⟩ := h
  by_cases h0 : wN w = 0
  · have := hS.1
    omega
  · have h1 := hP (wN w - 1) _ (lay_get (by omega))
    have h2 : gB (xg X) + (wN w - 1) < H.size := h1.lt
    omega
theorem FW.size {X : Xt} {w : Wd} {H : Heap} {locs : List Loc} {cs : Nat} (h : FW X w H locs cs) (hs : H.size ≤ (xs X).heap.size + cs) : H.size = gB (xg X) + wN w := by
  have h1 := h.low
  have h2 := h.2.2.2.1
  omega
theorem FW.hA {X : Xt} {w : Wd} {H : Heap} {locs : List Loc} {cs : Nat} (h : FW X w H locs cs) : ∀ q, (xs X).heap.size ≤ q → gA (xg X) q := fun q hq => Nat.le_trans h.2.2.2.2.1 hq
