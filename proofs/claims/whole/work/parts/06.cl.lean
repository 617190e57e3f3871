def calO {α β : Type} (w : Wd) (a : Nat) (o : Option (α × Wd)) (K : α → Wd → Option β) : Option β := if decide (a < wN w) && decide ((wS w a).1 < 13) then cal o K else none
theorem calO_s {α β : Type} {w : Wd} {a : Nat} {o : Option (α × Wd)} {K : α → Wd → Option β} {z : β} (h : calO w a o K = some z) : isO w a (wS w a).1 = true ∧ (wS w a).1 < 13 ∧ ∃ r w1, o = some (r, w1) ∧ K r w1 = some z := by
  unfold calO at h
  split at h
  · rename_i q
    simp only [Bool.and_eq_true, decide_eq_true_eq] at q
    exact ⟨isO_iff.mpr ⟨q.1, rfl⟩, q.2, cal_s h⟩
  · cases h
theorem tsw_out {x : Int32} {lo hi : Int} (L : List Int32) (hL : ∀ v ∈ L, ¬ x = v) (hc : (List.range (hi - lo + 1).toNat).all (fun j => L.any (fun v => v.toInt == lo + j)) = true) : x.toInt < lo ∨ hi < x.toInt := by
  by_cases h1 : x.toInt < lo
  · exact Or.inl h1
  · by_cases h2 : hi < x.toInt
    · exact Or.inr h2
    · exfalso
      have h3 := List.all_eq_true.mp hc (x.toInt - lo).toNat (List.mem_range.mpr (by omega))
      obtain ⟨v, hv, h4⟩ := List.any_eq_true.mp h3
      have h5 : v.toInt = lo + ((x.toInt - lo).toNat : Int) := eq_of_beq h4
      exact hL v hv (Int32.toInt_inj.mp (by omega))
section SX
variable {p : Program} {l : Launch} {e : Env} {R : Room} {s : State} {m : MethodId} {args : Array Value} {below : List Frame} {meth : Method} {c : Code}
theorem sub_of_super {vm : Vm} {a b : ClassId} {k : Class} (hk : vm.classes[a]? = some k) (hs : k.super = some b) : vm.isSubclass a b = true := by
  have hlt : a < vm.classes.size := (Array.getElem?_eq_some_iff.mp hk).1
  obtain ⟨n, hn⟩ : ∃ n, vm.classes.size = n + 1 := Nat.exists_eq_succ_of_ne_zero (fun h0 => by rw [h0] at hlt; exact absurd hlt (Nat.not_lt_zero _))
  unfold Vm.isSubclass
  rw [hn]
  simp [Vm.isSubclassAux, hk, hs]
/-- super.m(..) where the superclass itself inherits m -/
theorem sx_call {T : State} {locs : List Loc} {cells slots : Nat} (X : Stand p l e R s m args below meth c T locs cells slots) (hexec : p.tables.exec = Jvm.exec) {own owner : String} {index : Nat} {x y : MethodName} {bytes : ByteArray} {maxL : Nat} {ret : Option FieldType} (hyx : y = ⟨owner, x.name, x.desc⟩)
    (hown : s.vm.findClass own = some m.cls) (hlink : (Cond.methodLink own index x).before args s = true) (hsame : (Cond.sameMethod x.cls owner x.name x.desc).before args s = true) (hsup : (Cond.superclass own x.cls).before args s = true) (hsup2 : (Cond.superclass x.cls owner).before args s = true)
    (hinst : (Cond.instanceMethod y).before args s = true) (hcode : (Cond.code y bytes maxL ret).before args s = true) (hno : x.name ≠ "<init>")
    {W : Nat} {Pre : Pt → Array Value → Prop} {Post : Pt → Array Value → Option Value → Pt → Prop} (hK : Back l R p e below s args y 3 W Pre Post)
    {b : Addr} {cellB : Cell} {kB : Class} (hcell : T.heap[b]? = some cellB) (hobj : cellB.vm.isStatics = false) (hkB : s.vm.classes[cellB.cls]? = some kB)
    {g : JFrame} (hg : g.method = m) (hsize : g.locals.size = c.maxLocals) {argsL rest : List Value} (hlen : ∀ sig, parseMethodDescriptor y.desc = some sig → argsL.length = sig.parameters.length)
    (hstack : g.stack = argsL.reverse ++ .ref b :: rest) (hW : 2 * g.monitorRoom + (rest.map fun v => v.category).sum ≤ W) (hdg : decode c.code g.pc = .ok (.invokespecial index, 3))
    (hpre : ∀ vm₁, s.WarmedH vm₁ → Pre ⟨T.setVm vm₁, locs, cells, slots⟩ (Value.ref b :: argsL).toArray) :
    ∃ (v : Option Value) (vm₁ : Vm) (B : Pt), s.WarmedH vm₁ ∧ Stand p l e R s m args below meth c B.U B.locs B.cells B.slots ∧ Post ⟨T.setVm vm₁, locs, cells, slots⟩ (Value.ref b :: argsL).toArray v B ∧
      ∀ target, Steps p.tables e below (B.U.setTop { g with pc := g.pc + 3, stack := v.toList ++ rest }) target → Steps p.tables e below (T.setTop g) target := by
  subst hyx
  obtain ⟨mk, methM, hnamed, hmethM, hstM, habM⟩ := Cond.instanceMethod_spec hinst
  obtain ⟨methM', cM, hmethM', -, -, -, -, -, -, hsigM⟩ := Cond.code_spec hnamed hcode
  cases hmethM.symm.trans hmethM'
  obtain ⟨ps, dk, kp, hps, hdk, hkp, hsuper, -, -, hnid⟩ := Cond.superclass_spec hown hsup
  obtain ⟨p2, k2, kp2, hp2, hk2, hkp2, hs2, -, -, -⟩ := Cond.superclass_spec hps hsup2
  have hpm : p2 = mk.cls := Option.some.inj (hp2.symm.trans (findClass_of_methodNamed hnamed))
  have hsub : s.vm.isSubclass ps mk.cls = true := by rw [← hpm]; exact sub_of_super hk2 hs2
  obtain ⟨vm₁, X₁, hstep₁⟩ := X.invokespecialUp hexec hown hlink hsame hnamed hmethM hstM habM hno hdk hnid hps hsuper hsub (a := b) (cell := cellB) hcell
    (fun z h => by rw [h] at hobj; cases hobj) hkB (g := g) hg (argsL := argsL) (rest := rest) (hlen _ hsigM) hstack hdg
  obtain ⟨v, B, X', hpost, hsteps⟩ := hK m meth c ⟨T.setVm vm₁, locs, cells, slots⟩ { g with stack := rest } (.invokespecial index) mk (Value.ref b :: argsL).toArray X₁ hg hsize hdg hW (X₁.named hnamed) (hpre vm₁ X₁.warmed)
  exact ⟨v, vm₁, B, X₁.warmed, X', hpost, fun target h => hstep₁ _ (by rw [doInvoke_state]; exact hsteps.trans h)⟩
variable {H : Heap} {locs : List Loc} {cells slots : Nat}
theorem sx_run {x y : MethodName} {bytes cc : ByteArray} {maxL nL mc ms n index : Nat} {ret : Option FieldType} {ws : List Cond} {rm : Room} {Pc : Array Value → State → Prop} {Qc : Array Value → State → Outcome → State → Prop} {free : Addr → Prop} {Ts : List Cond} {own owner C : String} {cC : ClassId} {b : Addr} {As rest : List Value} {g : JFrame}
    (hat : ClassAt s C cC) (S : CallFix p m c cc nL s args Ts own) (hM : Met l y ws rm Pc Qc mc ms free) (hyx : y = ⟨owner, x.name, x.desc⟩)
    (hback : rm.cells = mc ∧ rm.slots = ms ∧ rm.frames + 1 ≤ R.frames ∧ 8 + (maxL + 11) + rm.locals ≤ R.locals ∧ (∀ w ∈ ws, ∀ (a' : Array Value) (U : State), s.WarmedH U.vm → w.before a' U = true) ∧ Cond.code y bytes maxL ret ∈ ws)
    (hl1 : (Cond.methodLink own index x).before args s = true) (hl2 : (Cond.sameMethod x.cls owner x.name x.desc).before args s = true) (hl3 : (Cond.superclass own x.cls).before args s = true) (hl3b : (Cond.superclass x.cls owner).before args s = true) (hl4 : (Cond.instanceMethod y).before args s = true) (hini : (Cond.initialized y.cls).before args s = true) (hcode : (Cond.code y bytes maxL ret).before args s = true) (hno : x.name ≠ "<init>") (hlen : ∀ sig, parseMethodDescriptor y.desc = some sig → n = sig.parameters.length) (hp : PreV s H C b Pc As)
    (hg : g.method = m) (hn : As.length = n) (hsize : g.locals.size = nL) (hstack : g.stack = As.reverse ++ .ref b :: rest) (hW : 2 * g.monitorRoom + (rest.map fun v => v.category).sum ≤ 8) (hdg : decode cc g.pc = .ok (.invokespecial index, 3)) (hf : cells + mc ≤ R.cells ∧ slots + ms ≤ R.slots) :
    va_Run p l e R s m args below meth c H locs cells slots mc ms g rest (Qc (Value.ref b :: As).toArray) (free) := by
  obtain ⟨hrc, hrs, hfr, hlo, hws, hcw⟩ := hback
  have hK : Back l R p e below s args y 3 8 (PreOf R mc ms Pc) (PostOf Qc mc ms free) := back_of (bytes := bytes) (maxL := maxL) (ret := ret) hM hp.1 hrc hrs hfr hlo hws hcw (fun a' U hW => word_at hW (Or.inl (by first | rfl | simp [Cond.onTables, Cond.keeps, Cond.steady])) hini)
  obtain ⟨hx, hb, hml, ho, -⟩ := S
  obtain ⟨-, ⟨cellB, hcB, hoB, hclB⟩, hPc⟩ := hp
  obtain ⟨hfc, kB, hkB, -⟩ := hat
  cases hfc.symm.trans hclB
  intro T hT X
  obtain ⟨v, vm₁, ⟨U', l2, c2, s2⟩, hW₁, X', ⟨g', mk, t, L, e1, e2, hq, h1, hL, h2, h3⟩, st⟩ := sx_call X hx (bytes := bytes) (maxL := maxL) (ret := ret) hyx ho hl1 hl2 hl3 hl3b hl4 hcode hno hK (by rw [hT]; exact hcB) hoB hkB hg (hsize.trans hml.symm) (argsL := As) (rest := rest) (fun sig h => hn.trans (hlen sig h)) hstack hW (by rw [hb]; exact hdg)
    (fun vm₁ hW₁ => ⟨hf.1, hf.2, hPc (T.setVm vm₁) hT hW₁⟩)
  dsimp only [Pt.U, Pt.locs, Pt.cells, Pt.slots] at X' e1 e2 h1 h2 h3 st
  subst h1; subst h2; subst h3
  exact ⟨v, (T.setVm vm₁).calling g' mk (Value.ref b :: As).toArray, t, U', L, hT, X', hL, e1, e2, hq, st⟩
end SX
section KC
variable {X : Xt} {own : String} {cc : ByteArray} {nL fr lo mc ms cs sl pc : Nat} {Q : State → Prop} {w : Wd} {lv lv2 : List (Nat × Value)} {st : List Value}
theorem pc_blind {g : Gv} {av : List Value} {w : Wd} : FrameBlind (PcG g av w) := by
  intro a U gg mk h
  obtain ⟨h1, ⟨hK, hP, hs⟩, hSW⟩ := h
  exact ⟨h1, ⟨va_K.moved (u := U) (U := U.calling gg mk a) (Vm.Alike.refl U.vm) hK, hP, hs⟩, SW.blind (U := U) (V := U.calling gg mk a) rfl rfl hSW⟩
theorem pc_pre {av : List Value} {H : Heap} {locs : List Loc} (hW : FW X w H locs cs) (hs : H.size ≤ (xs X).heap.size + cs) (U : State) (hU : U.heap = H) (hWm : (xs X).WarmedH U.vm) : PcG (xg X) av w av.toArray U := by
  refine ⟨rfl, ⟨va_K.moved hWm.alike hW.1, by rw [hU]; exact hW.2.1, by rw [hU]; exact hW.size hs⟩, SW.warm hWm (fun a h1 h2 => ?_) hW.2.2.2.2.2⟩
  rw [hU]
  exact hW.2.2.1.2.1 a h1 h2
def YE (y : MethodName) (b : ByteArray) (mL : Nat) (ret : Option FieldType) (n : Nat) : Prop := Cond.code y b mL ret ∈ tb ∧ Cond.initialized y.cls ∈ tb ∧ (y.cls ≠ "java/lang/invoke/MethodHandle" ∧ y.cls ≠ "java/lang/invoke/VarHandle" ∧ (parseMethodDescriptor y.desc).map (fun d => d.parameters.length) = some n)
def VE (own : String) (ix : Nat) (y : MethodName) (t : Nat) : Prop := Cond.methodLink own ix y ∈ tb ∧ Cond.instanceMethod y ∈ tb ∧ Cond.selects (cN t) y y ∈ tb ∧ CE t
def SE (own : String) (ix : Nat) (y : MethodName) : Prop := Cond.methodLink own ix y ∈ tb ∧ Cond.static y ∈ tb
def SNE (own : String) (ix : Nat) (y : MethodName) (host : String) : Prop := Cond.methodLinkNest own ix y host ∈ nwT ∧ Cond.static y ∈ tb
def IE (own : String) (ix : Nat) (y : MethodName) : Prop := Cond.methodLink own ix y ∈ tb ∧ Cond.instanceMethod y ∈ tb ∧ y.name = "<init>"
def INE (own : String) (ix : Nat) (y : MethodName) (host : String) : Prop := Cond.methodLinkNest own ix y host ∈ nwT ∧ Cond.instanceMethod y ∈ tb ∧ y.name = "<init>"
/-- the class's method x, asked of an object of class t, is y -/
def UE (own : String) (ix : Nat) (x y : MethodName) (t : Nat) : Prop := CE t ∧ ∃ owner : String, owner ≠ "java/lang/invoke/MethodHandle" ∧ owner ≠ "java/lang/invoke/VarHandle" ∧ x.desc = y.desc ∧ ((y = ⟨owner, x.name, x.desc⟩ ∧ ∀ c ∈ ([.methodLink own ix x, .sameMethod x.cls owner x.name x.desc, .selects (cN t) x y, .instanceMethod y, .initialized y.cls] : List Cond), c ∈ tb) ∨ ((∀ c ∈ ([.methodLink own ix x, .sameMethod x.cls owner x.name x.desc, .instanceMethod ⟨owner, x.name, x.desc⟩, .selects (cN t) x y, .instanceMethod y, .initialized y.cls] : List Cond), c ∈ tb) ∧ ∃ b0 m0 r0, Cond.code ⟨owner, x.name, x.desc⟩ b0 m0 r0 ∈ tb))
def SUE (own : String) (ix : Nat) (y : MethodName) : Prop := (∀ c ∈ ([.methodLink own ix y, .sameMethod y.cls y.cls y.name y.desc, .superclass own y.cls, .instanceMethod y, .initialized y.cls] : List Cond), c ∈ tb) ∧ y.name ≠ "<init>"
def SXE (own : String) (ix : Nat) (x y : MethodName) : Prop := ∃ owner : String, y = ⟨owner, x.name, x.desc⟩ ∧ (∀ c ∈ ([.methodLink own ix x, .sameMethod x.cls owner x.name x.desc, .superclass own x.cls, .superclass x.cls owner, .instanceMethod y, .initialized y.cls] : List Cond), c ∈ tb) ∧ x.name ≠ "<init>"
theorem goodIn_L {L : List Cond} {c : Cond} (h : ∀ w ∈ L, w ∈ tb) (hc : c ∈ tb) : GoodIn tb (L ++ c :: tb) := fun w hw => by
  rcases List.mem_append.mp hw with h1 | h1
  · exact ⟨h w h1, tb_good (h w h1)⟩
  · exact tb_goodIn hc w h1
theorem rm_ok {fr2 lo2 mL mc2 ms2 : Nat} (C : Ok X own cc nL fr lo mc ms) (hR : Nat.ble (fr2 + 1) fr = true ∧ Nat.ble (8 + (mL + 11) + lo2) lo = true) : (rmO fr2 lo2 mc2 ms2).frames + 1 ≤ (xR X).frames ∧ 8 + (mL + 11) + (rmO fr2 lo2 mc2 ms2).locals ≤ (xR X).locals := by
  obtain ⟨C1, C2, C3, C4, C5, C6, C7, C8, C9⟩ := C
  rw [C7, C8]
  exact ⟨Nat.le_of_ble_eq_true hR.1, Nat.le_of_ble_eq_true hR.2⟩
theorem cs_ok {mc2 ms2 : Nat} (C : Ok X own cc nL fr lo mc ms) (hc : Nat.ble (cs + mc2) mc = true ∧ Nat.ble (sl + ms2) ms = true) : cs + mc2 ≤ (xR X).cells ∧ sl + ms2 ≤ (xR X).slots := by
  obtain ⟨C1, C2, C3, C4, C5, C6, C7, C8, C9, C10, C11⟩ := C
  rw [C9, C10]
  exact ⟨Nat.le_of_ble_eq_true hc.1, Nat.le_of_ble_eq_true hc.2⟩
theorem recv_ok {a t : Nat} {H : Heap} {locs : List Loc} (hW : FW X w H locs cs) (h1 : isO w a t = true) (E : CE t) : ∃ cellB : Cell, H[gB (xg X) + a]? = some cellB ∧ cellB.vm.isStatics = false ∧ (xs X).vm.findClass (cN t) = some cellB.cls :=
  va_recv (q := (cN t, cT t, fn t)) hW.1 hW.2.1 E.1 (by rw [lay_get (isO_iff.mp h1).1, cell_o h1 E.2.2.2.2])
theorem at_ok {t : Nat} {H : Heap} {locs : List Loc} (hW : FW X w H locs cs) (E : CE t) : ∃ cC, ClassAt (xs X) (cN t) cC := ⟨_, (hW.1.1 t _ E.1).2⟩
abbrev Rn (X : Xt) (H : Heap) (locs : List Loc) (cs sl mc2 ms2 pc : Nat) (ls : Array Slot) (st0 st : List Value) (Qa : State → Outcome → State → Prop) : Prop := va_Run (xp X) (xl X) (xe X) (xR X) (xs X) (xm X) (xa X) (xb X) (xme X) (xc X) H locs cs sl mc2 ms2 (F0 (xm X) pc ls st0) st Qa (gA (xg X))
theorem kc_i {H : Heap} {locs : List Loc} {ls : Array Slot} {st0 : List Value} {r : Int32} {w1 : Wd} {a : Array Value} (hr : Rn X H locs cs sl 0 0 pc ls st0 st (QcI (xg X) 0 w r w1 a)) (hW : FW X w H locs cs) (hl : lv_has ls (xn X) lv) (kk : Wk X cs sl Q w1 lv (pc + 3) (.int r :: st)) : Wq X H locs cs sl Q pc ls st0 := by
  refine va_calli hr hW.2.2.1 (fun q _ h => h) (fun q h => h) (fun r' u t H1 locs1 ht hvm hp hB hz hk hS => ?_)
  obtain ⟨rfl, hn⟩ := hp
  obtain ⟨hK1, hP1, hsz1⟩ := hB
  rw [ht] at hP1
  exact kk H1 locs1 ls (hW.to hP1 hS (by omega)) hl
theorem kc_l {H : Heap} {locs : List Loc} {ls : Array Slot} {st0 : List Value} {r : Int64} {w1 : Wd} {a : Array Value} (hr : Rn X H locs cs sl 0 0 pc ls st0 st (QcL (xg X) 0 w r w1 a)) (hW : FW X w H locs cs) (hl : lv_has ls (xn X) lv) (kk : Wk X cs sl Q w1 lv (pc + 3) (.long r :: st)) : Wq X H locs cs sl Q pc ls st0 := by
  refine va_calll hr hW.2.2.1 (fun q _ h => h) (fun q h => h) (fun r' u t H1 locs1 ht hvm hp hB hz hk hS => ?_)
  obtain ⟨rfl, hn⟩ := hp
  obtain ⟨hK1, hP1, hsz1⟩ := hB
  rw [ht] at hP1
  exact kk H1 locs1 ls (hW.to hP1 hS (by omega)) hl
theorem kc_v {H : Heap} {locs : List Loc} {ls : Array Slot} {st0 : List Value} {w1 : Wd} {a : Array Value} {mc2 ms2 : Nat} (hr : Rn X H locs cs sl mc2 ms2 pc ls st0 st (QcV (xg X) mc2 w w1 a)) (hW : FW X w H locs cs) (hl : lv_has ls (xn X) lv) (kk : Wk X (cs + mc2) (sl + ms2) Q w1 lv (pc + 3) st) : Wq X H locs cs sl Q pc ls st0 := by
  refine va_callv hr hW.2.2.1 (fun q _ h => h) (fun q h => h) (fun u t H1 locs1 ht hvm hp hB hz hk hS => ?_)
  obtain ⟨hK1, hP1, hsz1⟩ := hB
  rw [ht] at hP1
  refine kk H1 locs1 ls ⟨hW.1, hP1, hS, ?_, hW.2.2.2.2⟩ hl
  have := hW.2.2.2.1
  omega
theorem k_callV_i (C : Ok X own cc nL fr lo mc ms) {α : Type} {rt : FieldType} {ix mL fr2 lo2 n : Nat} {a t : Nat} {y : MethodName} {b : ByteArray} {F : Option (Int32 × Wd)} {K : Int32 → Wd → Option α} {z : α} (Y : YE y b mL (some rt) n) (V : VE own ix y t) (hR : Nat.ble (fr2 + 1) fr = true ∧ Nat.ble (8 + (mL + 11) + lo2) lo = true) (hc : Nat.ble (cs + 0) mc = true ∧ Nat.ble (sl + 0) ms = true) (d : decode cc pc = .ok (.invokevirtual ix, 3)) (As : List Value) {st0 : List Value} (hst : st0 = As.reverse ++ rV (xg X) a :: st) (hlen : As.length = n) (hcat : (st.map fun v => v.category).sum ≤ 8) (M : ∀ r w1, F = some (r, w1) → MI (xg X) (xl X) y b mL rt fr2 lo2 (rV (xg X) a :: As) w r w1) (hf : calV w a t F K = some z) (n2 : Nat) (hn : n2 = pc + 3) (kk : ∀ r w1, K r w1 = some z → Wk X cs sl Q w1 lv n2 (.int r :: st)) : Wk X cs sl Q w lv pc st0 := by
  subst hn
  obtain ⟨h1, r, w1, h3, h2⟩ := calV_s hf
  intro H locs ls hW hl
  refine W.sized (fun hs => ?_)
  exact kc_i (va_runV ⟨C.1, C.2.1, C.2.2.1, C.2.2.2.1, C.2.2.2.2.1⟩ (M r w1 h3) ⟨callB_of n C.2.2.2.2.1 (tb_goodIn Y.1) rfl rfl rfl (C.2.2.2.2.1 _ Y.2.1) (C.2.2.2.2.1 _ V.1) Y.2.2 (rm_ok C hR), C.2.2.2.2.1 _ V.2.1, C.2.2.2.2.1 _ V.2.2.1⟩ ⟨pc_blind, recv_ok hW h1 V.2.2.2, pc_pre hW hs⟩ rfl hlen hl.1 hst (lv_room hcat) d (cs_ok C hc)) hW hl (kk r w1 h2)
theorem k_callV_l (C : Ok X own cc nL fr lo mc ms) {α : Type} {ix mL fr2 lo2 n : Nat} {a t : Nat} {y : MethodName} {b : ByteArray} {F : Option (Int64 × Wd)} {K : Int64 → Wd → Option α} {z : α} (Y : YE y b mL (some .long) n) (V : VE own ix y t) (hR : Nat.ble (fr2 + 1) fr = true ∧ Nat.ble (8 + (mL + 11) + lo2) lo = true) (hc : Nat.ble (cs + 0) mc = true ∧ Nat.ble (sl + 0) ms = true) (d : decode cc pc = .ok (.invokevirtual ix, 3)) (As : List Value) {st0 : List Value} (hst : st0 = As.reverse ++ rV (xg X) a :: st) (hlen : As.length = n) (hcat : (st.map fun v => v.category).sum ≤ 8) (M : ∀ r w1, F = some (r, w1) → ML (xg X) (xl X) y b mL fr2 lo2 (rV (xg X) a :: As) w r w1) (hf : calV w a t F K = some z) (n2 : Nat) (hn : n2 = pc + 3) (kk : ∀ r w1, K r w1 = some z → Wk X cs sl Q w1 lv n2 (.long r :: st)) : Wk X cs sl Q w lv pc st0 := by
  subst hn
  obtain ⟨h1, r, w1, h3, h2⟩ := calV_s hf
  intro H locs ls hW hl
  refine W.sized (fun hs => ?_)
  exact kc_l (va_runV ⟨C.1, C.2.1, C.2.2.1, C.2.2.2.1, C.2.2.2.2.1⟩ (M r w1 h3) ⟨callB_of n C.2.2.2.2.1 (tb_goodIn Y.1) rfl rfl rfl (C.2.2.2.2.1 _ Y.2.1) (C.2.2.2.2.1 _ V.1) Y.2.2 (rm_ok C hR), C.2.2.2.2.1 _ V.2.1, C.2.2.2.2.1 _ V.2.2.1⟩ ⟨pc_blind, recv_ok hW h1 V.2.2.2, pc_pre hW hs⟩ rfl hlen hl.1 hst (lv_room hcat) d (cs_ok C hc)) hW hl (kk r w1 h2)
theorem k_callV_v (C : Ok X own cc nL fr lo mc ms) {α : Type} {mc2 ms2 : Nat} {ix mL fr2 lo2 n : Nat} {a t : Nat} {y : MethodName} {b : ByteArray} {F : Option (Unit × Wd)} {K : Unit → Wd → Option α} {z : α} (Y : YE y b mL none n) (V : VE own ix y t) (hR : Nat.ble (fr2 + 1) fr = true ∧ Nat.ble (8 + (mL + 11) + lo2) lo = true) (hc : Nat.ble (cs + mc2) mc = true ∧ Nat.ble (sl + ms2) ms = true) (d : decode cc pc = .ok (.invokevirtual ix, 3)) (As : List Value) {st0 : List Value} (hst : st0 = As.reverse ++ rV (xg X) a :: st) (hlen : As.length = n) (hcat : (st.map fun v => v.category).sum ≤ 8) (M : ∀ w1, F = some ((), w1) → MV (xg X) (xl X) y b mL fr2 lo2 mc2 ms2 (rV (xg X) a :: As) w w1) (hf : calV w a t F K = some z) (n2 : Nat) (hn : n2 = pc + 3) (kk : ∀ w1, K () w1 = some z → Wk X (cs + mc2) (sl + ms2) Q w1 lv n2 (st)) : Wk X cs sl Q w lv pc st0 := by
  subst hn
  obtain ⟨h1, r, w1, h3, h2⟩ := calV_s hf
  intro H locs ls hW hl
  refine W.sized (fun hs => ?_)
  exact kc_v (va_runV ⟨C.1, C.2.1, C.2.2.1, C.2.2.2.1, C.2.2.2.2.1⟩ (M w1 h3) ⟨callB_of n C.2.2.2.2.1 (tb_goodIn Y.1) rfl rfl rfl (C.2.2.2.2.1 _ Y.2.1) (C.2.2.2.2.1 _ V.1) Y.2.2 (rm_ok C hR), C.2.2.2.2.1 _ V.2.1, C.2.2.2.2.1 _ V.2.2.1⟩ ⟨pc_blind, recv_ok hW h1 V.2.2.2, pc_pre hW hs⟩ rfl hlen hl.1 hst (lv_room hcat) d (cs_ok C hc)) hW hl (kk w1 h2)
theorem k_callS_i (C : Ok X own cc nL fr lo mc ms) {α : Type} {rt : FieldType} {ix mL fr2 lo2 n : Nat} {y : MethodName} {b : ByteArray} {F : Option (Int32 × Wd)} {K : Int32 → Wd → Option α} {z : α} (Y : YE y b mL (some rt) n) (V : SE own ix y) (hR : Nat.ble (fr2 + 1) fr = true ∧ Nat.ble (8 + (mL + 11) + lo2) lo = true) (hc : Nat.ble (cs + 0) mc = true ∧ Nat.ble (sl + 0) ms = true) (d : decode cc pc = .ok (.invokestatic ix, 3)) (As : List Value) {st0 : List Value} (hst : st0 = As.reverse ++ st) (hlen : As.length = n) (hcat : (st.map fun v => v.category).sum ≤ 8) (M : ∀ r w1, F = some (r, w1) → MI (xg X) (xl X) y b mL rt fr2 lo2 As w r w1) (hf : cal F K = some z) (n2 : Nat) (hn : n2 = pc + 3) (kk : ∀ r w1, K r w1 = some z → Wk X cs sl Q w1 lv n2 (.int r :: st)) : Wk X cs sl Q w lv pc st0 := by
  subst hn
  obtain ⟨r, w1, h3, h2⟩ := cal_s hf
  intro H locs ls hW hl
  refine W.sized (fun hs => ?_)
  exact kc_i (va_runS ⟨C.1, C.2.1, C.2.2.1, C.2.2.2.1, C.2.2.2.2.1⟩ (M r w1 h3) ⟨callB_of n C.2.2.2.2.1 (tb_goodIn Y.1) rfl rfl rfl (C.2.2.2.2.1 _ Y.2.1) (C.2.2.2.2.1 _ V.1) Y.2.2 (rm_ok C hR), C.2.2.2.2.1 _ V.2⟩ ⟨pc_blind, pc_pre hW hs⟩ rfl hlen hl.1 hst (lv_room hcat) d (cs_ok C hc)) hW hl (kk r w1 h2)
theorem k_callS_l (C : Ok X own cc nL fr lo mc ms) {α : Type} {ix mL fr2 lo2 n : Nat} {y : MethodName} {b : ByteArray} {F : Option (Int64 × Wd)} {K : Int64 → Wd → Option α} {z : α} (Y : YE y b mL (some .long) n) (V : SE own ix y) (hR : Nat.ble (fr2 + 1) fr = true ∧ Nat.ble (8 + (mL + 11) + lo2) lo = true) (hc : Nat.ble (cs + 0) mc = true ∧ Nat.ble (sl + 0) ms = true) (d : decode cc pc = .ok (.invokestatic ix, 3)) (As : List Value) {st0 : List Value} (hst : st0 = As.reverse ++ st) (hlen : As.length = n) (hcat : (st.map fun v => v.category).sum ≤ 8) (M : ∀ r w1, F = some (r, w1) → ML (xg X) (xl X) y b mL fr2 lo2 As w r w1) (hf : cal F K = some z) (n2 : Nat) (hn : n2 = pc + 3) (kk : ∀ r w1, K r w1 = some z → Wk X cs sl Q w1 lv n2 (.long r :: st)) : Wk X cs sl Q w lv pc st0 := by
  subst hn
  obtain ⟨r, w1, h3, h2⟩ := cal_s hf
  intro H locs ls hW hl
  refine W.sized (fun hs => ?_)
  exact kc_l (va_runS ⟨C.1, C.2.1, C.2.2.1, C.2.2.2.1, C.2.2.2.2.1⟩ (M r w1 h3) ⟨callB_of n C.2.2.2.2.1 (tb_goodIn Y.1) rfl rfl rfl (C.2.2.2.2.1 _ Y.2.1) (C.2.2.2.2.1 _ V.1) Y.2.2 (rm_ok C hR), C.2.2.2.2.1 _ V.2⟩ ⟨pc_blind, pc_pre hW hs⟩ rfl hlen hl.1 hst (lv_room hcat) d (cs_ok C hc)) hW hl (kk r w1 h2)
theorem k_callS_v (C : Ok X own cc nL fr lo mc ms) {α : Type} {mc2 ms2 : Nat} {ix mL fr2 lo2 n : Nat} {y : MethodName} {b : ByteArray} {F : Option (Unit × Wd)} {K : Unit → Wd → Option α} {z : α} (Y : YE y b mL none n) (V : SE own ix y) (hR : Nat.ble (fr2 + 1) fr = true ∧ Nat.ble (8 + (mL + 11) + lo2) lo = true) (hc : Nat.ble (cs + mc2) mc = true ∧ Nat.ble (sl + ms2) ms = true) (d : decode cc pc = .ok (.invokestatic ix, 3)) (As : List Value) {st0 : List Value} (hst : st0 = As.reverse ++ st) (hlen : As.length = n) (hcat : (st.map fun v => v.category).sum ≤ 8) (M : ∀ w1, F = some ((), w1) → MV (xg X) (xl X) y b mL fr2 lo2 mc2 ms2 As w w1) (hf : cal F K = some z) (n2 : Nat) (hn : n2 = pc + 3) (kk : ∀ w1, K () w1 = some z → Wk X (cs + mc2) (sl + ms2) Q w1 lv n2 (st)) : Wk X cs sl Q w lv pc st0 := by
  subst hn
  obtain ⟨r, w1, h3, h2⟩ := cal_s hf
  intro H locs ls hW hl
  refine W.sized (fun hs => ?_)
  exact kc_v (va_runS ⟨C.1, C.2.1, C.2.2.1, C.2.2.2.1, C.2.2.2.2.1⟩ (M w1 h3) ⟨callB_of n C.2.2.2.2.1 (tb_goodIn Y.1) rfl rfl rfl (C.2.2.2.2.1 _ Y.2.1) (C.2.2.2.2.1 _ V.1) Y.2.2 (rm_ok C hR), C.2.2.2.2.1 _ V.2⟩ ⟨pc_blind, pc_pre hW hs⟩ rfl hlen hl.1 hst (lv_room hcat) d (cs_ok C hc)) hW hl (kk w1 h2)
theorem k_callSN_i (C : Ok X own cc nL fr lo mc ms) {α : Type} {rt : FieldType} {ix mL fr2 lo2 n : Nat} {y : MethodName} {b : ByteArray} {F : Option (Int32 × Wd)} {K : Int32 → Wd → Option α} {z : α} (Y : YE y b mL (some rt) n) {host : String} (V : SNE own ix y host) (hR : Nat.ble (fr2 + 1) fr = true ∧ Nat.ble (8 + (mL + 11) + lo2) lo = true) (hc : Nat.ble (cs + 0) mc = true ∧ Nat.ble (sl + 0) ms = true) (d : decode cc pc = .ok (.invokestatic ix, 3)) (As : List Value) {st0 : List Value} (hst : st0 = As.reverse ++ st) (hlen : As.length = n) (hcat : (st.map fun v => v.category).sum ≤ 8) (M : ∀ r w1, F = some (r, w1) → MI (xg X) (xl X) y b mL rt fr2 lo2 As w r w1) (hf : cal F K = some z) (n2 : Nat) (hn : n2 = pc + 3) (kk : ∀ r w1, K r w1 = some z → Wk X cs sl Q w1 lv n2 (.int r :: st)) : Wk X cs sl Q w lv pc st0 := by
  subst hn
  obtain ⟨r, w1, h3, h2⟩ := cal_s hf
  intro H locs ls hW hl
  refine W.sized (fun hs => ?_)
  exact kc_i (va_runSN ⟨C.1, C.2.1, C.2.2.1, C.2.2.2.1, C.2.2.2.2.1⟩ (M r w1 h3) ⟨va_cnB n C.2.2.2.2.1 (tb_goodIn Y.1) rfl rfl rfl (hW.2.2.2.2.2.1 _ V.1) (C.2.2.2.2.1 _ Y.2.1) Y.2.2 (rm_ok C hR), C.2.2.2.2.1 _ V.2, trivial⟩ ⟨pc_blind, pc_pre hW hs⟩ rfl hlen hl.1 hst (lv_room hcat) d (cs_ok C hc)) hW hl (kk r w1 h2)
theorem k_callU_i (C : Ok X own cc nL fr lo mc ms) {α : Type} {rt : FieldType} {ix mL fr2 lo2 n : Nat} {a t : Nat} {y : MethodName} {b : ByteArray} {F : Option (Int32 × Wd)} {K : Int32 → Wd → Option α} {z : α} (Y : YE y b mL (some rt) n) {x : MethodName} (V : UE own ix x y t) (hR : Nat.ble (fr2 + 1) fr = true ∧ Nat.ble (8 + (mL + 11) + lo2) lo = true) (hc : Nat.ble (cs + 0) mc = true ∧ Nat.ble (sl + 0) ms = true) (d : decode cc pc = .ok (.invokevirtual ix, 3)) (As : List Value) {st0 : List Value} (hst : st0 = As.reverse ++ rV (xg X) a :: st) (hlen : As.length = n) (hcat : (st.map fun v => v.category).sum ≤ 8) (M : ∀ r w1, F = some (r, w1) → MI (xg X) (xl X) y b mL rt fr2 lo2 (rV (xg X) a :: As) w r w1) (hf : calV w a t F K = some z) (n2 : Nat) (hn : n2 = pc + 3) (kk : ∀ r w1, K r w1 = some z → Wk X cs sl Q w1 lv n2 (.int r :: st)) : Wk X cs sl Q w lv pc st0 := by
  subst hn
  obtain ⟨h1, r, w1, h3, h2⟩ := calV_s hf
  intro H locs ls hW hl
  refine W.sized (fun hs => ?_)
  obtain ⟨E, owner, o1, o2, o3, hO⟩ := V
  have cw : va_CU (xR X) (xs X) (xa X) own (cN t) owner ix x y b mL (some rt) (.code y b mL (some rt) :: tb) (rmO fr2 lo2 0 0) 0 0 n := by
    have hd : owner ≠ "java/lang/invoke/MethodHandle" ∧ owner ≠ "java/lang/invoke/VarHandle" ∧ (parseMethodDescriptor x.desc).map (fun d => d.parameters.length) = some n := ⟨o1, o2, by rw [o3]; exact Y.2.2.2.2⟩
    rcases hO with ⟨q1, q2⟩ | ⟨q2, b0, m0, r0, q3⟩
    · exact va_cwU n C.2.2.2.2.1 (goodIn_L q2 Y.1) rfl rfl rfl q1 hd (rm_ok C hR)
    · exact va_cwO n C.2.2.2.2.1 (goodIn_L q2 Y.1) rfl rfl rfl q3 hd (rm_ok C hR)
  exact kc_i (va_runU ⟨C.1, C.2.1, C.2.2.1, C.2.2.2.1, C.2.2.2.2.1⟩ (M r w1 h3) cw ⟨pc_blind, recv_ok hW h1 E, pc_pre hW hs⟩ rfl hlen hl.1 hst (lv_room hcat) d (cs_ok C hc)) hW hl (kk r w1 h2)
theorem k_callSU_i (C : Ok X own cc nL fr lo mc ms) {α : Type} {rt : FieldType} {ix mL fr2 lo2 n : Nat} {a : Nat} {y : MethodName} {b : ByteArray} {F : Option (Int32 × Wd)} {K : Int32 → Wd → Option α} {z : α} (Y : YE y b mL (some rt) n) (V : SUE own ix y) (Ea : ∀ t, t < 13 → CE t) (hR : Nat.ble (fr2 + 1) fr = true ∧ Nat.ble (8 + (mL + 11) + lo2) lo = true) (hc : Nat.ble (cs + 0) mc = true ∧ Nat.ble (sl + 0) ms = true) (d : decode cc pc = .ok (.invokespecial ix, 3)) (As : List Value) {st0 : List Value} (hst : st0 = As.reverse ++ rV (xg X) a :: st) (hlen : As.length = n) (hcat : (st.map fun v => v.category).sum ≤ 8) (M : ∀ r w1, F = some (r, w1) → MI (xg X) (xl X) y b mL rt fr2 lo2 (rV (xg X) a :: As) w r w1) (hf : calO w a F K = some z) (n2 : Nat) (hn : n2 = pc + 3) (kk : ∀ r w1, K r w1 = some z → Wk X cs sl Q w1 lv n2 (.int r :: st)) : Wk X cs sl Q w lv pc st0 := by
  subst hn
  obtain ⟨h1, ht, r, w1, h3, h2⟩ := calO_s hf
  have E := Ea _ ht
  intro H locs ls hW hl
  refine W.sized (fun hs => ?_)
  obtain ⟨cC, hat⟩ := at_ok hW E
  exact kc_i (va_runSU hat ⟨C.1, C.2.1, C.2.2.1, C.2.2.2.1, C.2.2.2.2.1⟩ (M r w1 h3) (va_cwSU n C.2.2.2.2.1 (goodIn_L V.1 Y.1) rfl rfl rfl ⟨V.2, Y.2.2.2.2⟩ (rm_ok C hR)) ⟨pc_blind, recv_ok hW h1 E, pc_pre hW hs⟩ rfl hlen hl.1 hst (lv_room hcat) d (cs_ok C hc)) hW hl (kk r w1 h2)
theorem k_callSX_i (C : Ok X own cc nL fr lo mc ms) {α : Type} {rt : FieldType} {ix mL fr2 lo2 n : Nat} {a : Nat} {y : MethodName} {b : ByteArray} {F : Option (Int32 × Wd)} {K : Int32 → Wd → Option α} {z : α} (Y : YE y b mL (some rt) n) {x : MethodName} (V : SXE own ix x y) (Ea : ∀ t, t < 13 → CE t) (hR : Nat.ble (fr2 + 1) fr = true ∧ Nat.ble (8 + (mL + 11) + lo2) lo = true) (hc : Nat.ble (cs + 0) mc = true ∧ Nat.ble (sl + 0) ms = true) (d : decode cc pc = .ok (.invokespecial ix, 3)) (As : List Value) {st0 : List Value} (hst : st0 = As.reverse ++ rV (xg X) a :: st) (hlen : As.length = n) (hcat : (st.map fun v => v.category).sum ≤ 8) (M : ∀ r w1, F = some (r, w1) → MI (xg X) (xl X) y b mL rt fr2 lo2 (rV (xg X) a :: As) w r w1) (hf : calO w a F K = some z) (n2 : Nat) (hn : n2 = pc + 3) (kk : ∀ r w1, K r w1 = some z → Wk X cs sl Q w1 lv n2 (.int r :: st)) : Wk X cs sl Q w lv pc st0 := by
  subst hn
  obtain ⟨h1, ht, r, w1, h3, h2⟩ := calO_s hf
  have E := Ea _ ht
  intro H locs ls hW hl
  refine W.sized (fun hs => ?_)
  obtain ⟨cC, hat⟩ := at_ok hW E
  obtain ⟨owner, q1, q2, q3⟩ := V
  have ok : ∀ c ∈ ([.methodLink own ix x, .sameMethod x.cls owner x.name x.desc, .superclass own x.cls, .superclass x.cls owner, .instanceMethod y, .initialized y.cls] : List Cond), c.before (xa X) (xs X) = true := fun c h => C.2.2.2.2.1 c (q2 c h)
  exact kc_i (sx_run (x := x) (owner := owner) (n := n) hat ⟨C.1, C.2.1, C.2.2.1, C.2.2.2.1, C.2.2.2.2.1⟩ (M r w1 h3) q1 ⟨rfl, rfl, (rm_ok (mc2 := 0) (ms2 := 0) C hR).1, (rm_ok (mc2 := 0) (ms2 := 0) C hR).2, pay_in C.2.2.2.2.1 (tb_goodIn Y.1), List.mem_cons_self⟩ (ok _ (by simp)) (ok _ (by simp)) (ok _ (by simp)) (ok _ (by simp)) (ok _ (by simp)) (ok _ (by simp)) (C.2.2.2.2.1 _ Y.1) q3 (fun sig h => by have h9 := Y.2.2.2.2; rw [h] at h9; exact (Option.some.inj h9).symm) ⟨pc_blind, recv_ok hW h1 E, pc_pre hW hs⟩ rfl hlen hl.1 hst (lv_room hcat) d (cs_ok C hc)) hW hl (kk r w1 h2)
theorem k_callI_v (C : Ok X own cc nL fr lo mc ms) {α : Type} {mc2 ms2 : Nat} {ix mL fr2 lo2 n : Nat} {a : Nat} {y : MethodName} {b : ByteArray} {F : Option (Unit × Wd)} {K : Unit → Wd → Option α} {z : α} (Y : YE y b mL none n) (V : IE own ix y) (hR : Nat.ble (fr2 + 1) fr = true ∧ Nat.ble (8 + (mL + 11) + lo2) lo = true) (hc : Nat.ble (cs + mc2) mc = true ∧ Nat.ble (sl + ms2) ms = true) (d : decode cc pc = .ok (.invokespecial ix, 3)) (As : List Value) {st0 : List Value} (hst : st0 = As.reverse ++ rV (xg X) a :: st) (hlen : As.length = n) (hcat : (st.map fun v => v.category).sum ≤ 8) (M : ∀ w1, F = some ((), w1) → MV (xg X) (xl X) y b mL fr2 lo2 mc2 ms2 (rV (xg X) a :: As) w w1) (hf : cal F K = some z) (n2 : Nat) (hn : n2 = pc + 3) (kk : ∀ w1, K () w1 = some z → Wk X (cs + mc2) (sl + ms2) Q w1 lv n2 (st)) : Wk X cs sl Q w lv pc st0 := by
  subst hn
  obtain ⟨r, w1, h3, h2⟩ := cal_s hf
  intro H locs ls hW hl
  refine W.sized (fun hs => ?_)
  exact kc_v (va_runI ⟨C.1, C.2.1, C.2.2.1, C.2.2.2.1, C.2.2.2.2.1⟩ (M w1 h3) (cwI n C.2.2.2.2.1 (tb_goodIn Y.1) rfl rfl rfl (C.2.2.2.2.1 _ Y.2.1) (C.2.2.2.2.1 _ V.1) (C.2.2.2.2.1 _ V.2.1) V.2.2 Y.2.2 (rm_ok C hR)) ⟨pc_blind, pc_pre hW hs⟩ rfl hlen hl.1 hst (lv_room hcat) d (cs_ok C hc)) hW hl (kk w1 h2)
theorem k_callIN_v (C : Ok X own cc nL fr lo mc ms) {α : Type} {mc2 ms2 : Nat} {ix mL fr2 lo2 n : Nat} {a : Nat} {y : MethodName} {b : ByteArray} {F : Option (Unit × Wd)} {K : Unit → Wd → Option α} {z : α} (Y : YE y b mL none n) {host : String} (V : INE own ix y host) (hR : Nat.ble (fr2 + 1) fr = true ∧ Nat.ble (8 + (mL + 11) + lo2) lo = true) (hc : Nat.ble (cs + mc2) mc = true ∧ Nat.ble (sl + ms2) ms = true) (d : decode cc pc = .ok (.invokespecial ix, 3)) (As : List Value) {st0 : List Value} (hst : st0 = As.reverse ++ rV (xg X) a :: st) (hlen : As.length = n) (hcat : (st.map fun v => v.category).sum ≤ 8) (M : ∀ w1, F = some ((), w1) → MV (xg X) (xl X) y b mL fr2 lo2 mc2 ms2 (rV (xg X) a :: As) w w1) (hf : cal F K = some z) (n2 : Nat) (hn : n2 = pc + 3) (kk : ∀ w1, K () w1 = some z → Wk X (cs + mc2) (sl + ms2) Q w1 lv n2 (st)) : Wk X cs sl Q w lv pc st0 := by
  subst hn
  obtain ⟨r, w1, h3, h2⟩ := cal_s hf
  intro H locs ls hW hl
  refine W.sized (fun hs => ?_)
  exact kc_v (va_runIN ⟨C.1, C.2.1, C.2.2.1, C.2.2.2.1, C.2.2.2.2.1⟩ (M w1 h3) ⟨va_cnB n C.2.2.2.2.1 (tb_goodIn Y.1) rfl rfl rfl (hW.2.2.2.2.2.1 _ V.1) (C.2.2.2.2.1 _ Y.2.1) Y.2.2 (rm_ok C hR), V.2.2, C.2.2.2.2.1 _ V.2.1⟩ ⟨pc_blind, pc_pre hW hs⟩ rfl hlen hl.1 hst (lv_room hcat) d (cs_ok C hc)) hW hl (kk w1 h2)
theorem k_iret (C : Ok X own cc nL fr lo mc ms) (hr : (xme X).sig.returnType = some .int) {w0 w2 : Wd} {x r : Int32} (h0 : gB (xg X) + wN w0 = (xs X).heap.size) (d : decode cc pc = .ok (.ireturn, 1)) (hf : some (x, w) = some (r, w2)) : Wk X 0 0 (QI X w0 r w2) w lv pc [.int x] := by
  cases hf
  intro H locs ls hW hl
  refine W.sized (fun hs => ?_)
  have hsz := hW.size hs
  exact W.iret C.1 C.2.1 hr (fun t ht hWm => ⟨⟨x, (), rfl, ⟨rfl, by have := hW.2.2.2.1; omega⟩, va_K.moved hWm.alike hW.1, by rw [ht]; exact hW.2.1, by rw [ht]; exact hsz⟩, hW.2.2.1.F ht⟩) hW.2.2.1.2.2 d (hlocks := C.2.2.2.2.2.1)
theorem k_zret (C : Ok X own cc nL fr lo mc ms) (hr : (xme X).sig.returnType = some .boolean) {w0 w2 : Wd} {x r : Int32} (h0 : gB (xg X) + wN w0 = (xs X).heap.size) (d : decode cc pc = .ok (.ireturn, 1)) (hf : rZ x w = some (r, w2)) : Wk X 0 0 (QI X w0 r w2) w lv pc [.int x] := by
  obtain ⟨hz, rfl, rfl⟩ := rZ_s hf
  intro H locs ls hW hl
  refine W.sized (fun hs => ?_)
  have hsz := hW.size hs
  exact W.zret C.1 C.2.1 hr (by rcases hz with rfl | rfl <;> rfl) (fun t ht hWm => ⟨⟨x, (), rfl, ⟨rfl, by have := hW.2.2.2.1; omega⟩, va_K.moved hWm.alike hW.1, by rw [ht]; exact hW.2.1, by rw [ht]; exact hsz⟩, hW.2.2.1.F ht⟩) hW.2.2.1.2.2 d (hlocks := C.2.2.2.2.2.1)
theorem k_lret (C : Ok X own cc nL fr lo mc ms) (hr : (xme X).sig.returnType = some .long) {w0 w2 : Wd} {x r : Int64} (h0 : gB (xg X) + wN w0 = (xs X).heap.size) (d : decode cc pc = .ok (.lreturn, 1)) (hf : some (x, w) = some (r, w2)) : Wk X 0 0 (QL X w0 r w2) w lv pc [.long x] := by
  cases hf
  intro H locs ls hW hl
  refine W.sized (fun hs => ?_)
  have hsz := hW.size hs
  exact W.lret C.1 C.2.1 hr (fun t ht hWm => ⟨⟨x, (), rfl, ⟨rfl, by have := hW.2.2.2.1; omega⟩, va_K.moved hWm.alike hW.1, by rw [ht]; exact hW.2.1, by rw [ht]; exact hsz⟩, hW.2.2.1.F ht⟩) hW.2.2.1.2.2 d (hlocks := C.2.2.2.2.2.1)
theorem k_vret (C : Ok X own cc nL fr lo mc ms) (hr : (xme X).sig.returnType = none) {w0 w2 : Wd} (h0 : gB (xg X) + wN w0 = (xs X).heap.size) (d : decode cc pc = .ok (.return_, 1)) (hf : some ((), w) = some ((), w2)) : Wk X cs sl (QV X cs sl w0 w2) w lv pc [] := by
  cases hf
  intro H locs ls hW hl
  refine W.sized (fun hs => ?_)
  have hsz := hW.size hs
  exact W.vret C.1 C.2.1 hr (fun t ht hWm => ⟨⟨(), rfl, by have := hW.2.2.2.1; omega, va_K.moved hWm.alike hW.1, by rw [ht]; exact hW.2.1, by rw [ht]; exact hsz⟩, hW.2.2.1.F ht⟩) hW.2.2.1.2.2 d (hlocks := C.2.2.2.2.2.1)
def f_mmax (x y : Int32) : Int32 := if x < y then y else x
theorem k_mmax (C : Ok X own cc nL fr lo mc ms) {ix : Nat} {x y : Int32} (hm : Cond.methodLink own ix Lib.Math.max.name ∈ tb) (hm2 : Cond.static Lib.Math.max.name ∈ tb) (hm3 : Cond.initialized "java/lang/Math" ∈ tb) (hm4 : Cond.code Lib.Math.max.name Lib.Math.max.code 2 (some .int) ∈ tb) (hfr : 1 ≤ fr) (hlo : (st.map fun v => v.category).sum + 13 ≤ lo) (hc : Nat.ble cs mc = true ∧ Nat.ble sl ms = true) (d : decode cc pc = .ok (.invokestatic ix, 3)) (n : Nat) (hn : n = pc + 3) (kk : Wk X cs sl Q w lv n (.int (f_mmax x y) :: st)) : Wk X cs sl Q w lv pc (.int y :: .int x :: st) := by
  subst hn
  obtain ⟨C1, C2, C3, C4, C5, C6, C7, C8, C9, C10, C11⟩ := C
  intro H locs ls hW hl
  exact va_mmax C1 C2 (by rw [C3]; exact hl.1.symm) C4 (C5 _ hm) (C5 _ hm2) (C5 _ hm3) (C5 _ hm4) (by rw [C7]; exact hfr) (by rw [C8]; exact hlo) (by rw [C9]; exact Nat.le_of_ble_eq_true hc.1) (by rw [C10]; exact Nat.le_of_ble_eq_true hc.2) d (kk H locs ls hW hl)
def f_mmin (x y : Int32) : Int32 := if y < x then y else x
theorem k_mmin (C : Ok X own cc nL fr lo mc ms) {ix : Nat} {x y : Int32} (hm : Cond.methodLink own ix Lib.Math.min.name ∈ tb) (hm2 : Cond.static Lib.Math.min.name ∈ tb) (hm3 : Cond.initialized "java/lang/Math" ∈ tb) (hm4 : Cond.code Lib.Math.min.name Lib.Math.min.code 2 (some .int) ∈ tb) (hfr : 1 ≤ fr) (hlo : (st.map fun v => v.category).sum + 13 ≤ lo) (hc : Nat.ble cs mc = true ∧ Nat.ble sl ms = true) (d : decode cc pc = .ok (.invokestatic ix, 3)) (n : Nat) (hn : n = pc + 3) (kk : Wk X cs sl Q w lv n (.int (f_mmin x y) :: st)) : Wk X cs sl Q w lv pc (.int y :: .int x :: st) := by
  subst hn
  obtain ⟨C1, C2, C3, C4, C5, C6, C7, C8, C9, C10, C11⟩ := C
  intro H locs ls hW hl
  exact va_mmin C1 C2 (by rw [C3]; exact hl.1.symm) C4 (C5 _ hm) (C5 _ hm2) (C5 _ hm3) (C5 _ hm4) (by rw [C7]; exact hfr) (by rw [C8]; exact hlo) (by rw [C9]; exact Nat.le_of_ble_eq_true hc.1) (by rw [C10]; exact Nat.le_of_ble_eq_true hc.2) d (kk H locs ls hW hl)
def f_mmax_long (x y : Int64) : Int64 := if y < x then x else y
theorem k_mmax_long (C : Ok X own cc nL fr lo mc ms) {ix : Nat} {x y : Int64} (hm : Cond.methodLink own ix Lib.MathLoose.max_long.x ∈ tb) (hm2 : Cond.static Lib.MathLoose.max_long.x ∈ tb) (hm3 : Cond.initialized "java/lang/Math" ∈ tb) (hm4 : Cond.code Lib.MathLoose.max_long.x Lib.MathLoose.max_long.code 4 (some .long) ∈ tb) (hfr : 1 ≤ fr) (hlo : (st.map fun v => v.category).sum + 15 ≤ lo) (hc : Nat.ble cs mc = true ∧ Nat.ble sl ms = true) (d : decode cc pc = .ok (.invokestatic ix, 3)) (n : Nat) (hn : n = pc + 3) (kk : Wk X cs sl Q w lv n (.long (f_mmax_long x y) :: st)) : Wk X cs sl Q w lv pc (.long y :: .long x :: st) := by
  subst hn
  obtain ⟨C1, C2, C3, C4, C5, C6, C7, C8, C9, C10, C11⟩ := C
  intro H locs ls hW hl
  exact va_mmax_long C1 C2 (by rw [C3]; exact hl.1.symm) C4 (C5 _ hm) (C5 _ hm2) (C5 _ hm3) (C5 _ hm4) (by rw [C7]; exact hfr) (by rw [C8]; exact hlo) (by rw [C9]; exact Nat.le_of_ble_eq_true hc.1) (by rw [C10]; exact Nat.le_of_ble_eq_true hc.2) d (kk H locs ls hW hl)
end KC
