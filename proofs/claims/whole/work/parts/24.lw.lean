/-! THE CLAIM OUT OF ONE WALK OF THE LAW'S BODY. Your part is whole_start (and what it stands on); all else here is the same for every law, but numbers. -/
def R_law : String := "GrindMillLaw"
def lw_P (b : Addr) (xs : List Int32) (args : Array Value) (s : State) : Prop := args = #[.ref b] ∧ s.IntsAt b xs ∧ xs.length ≤ 320 ∧ (Jvm.Cond.and given_1 narrow_1).before args s = true
def lw_Q (_ : Array Value) (s : State) (o : Outcome) (t : State) : Prop := o = .returned (some (.int 1)) ∧ Framed s o t [] 600000 7302250
def lw_Z (below : List Frame) (a : Array Value) (s : State) : State → Prop := fun t => ∃ o, t.status = .running ∧ Ended t below o ∧ lw_Q a s o t
/-- the law's own end, with 1 on the stack, nothing written that was there before, its room as the claim has it -/
theorem lw_ret {p : Program} {l : Launch} {e : Env} {s : State} {m : MethodId} {below : List Frame} {meth : Method} {c : Code} {b : Nat} (hx : p.tables.exec = Jvm.exec) (hb : c.code = code) (hr : meth.sig.returnType = ret) (hlocks : meth.locks = false) {pc : Nat} {H : Heap} {ls : Array Slot} (hdg : decode code pc = .ok (.ireturn, 1)) : W p l e room_1 s m #[Value.ref b] below meth c H [] 600000 7302250 (lw_Z below #[Value.ref b] s) (F0 m pc ls [.int 1]) := by
  intro T hT X
  obtain ⟨fs, hret, hrun, hended, hW, hframe⟩ := X.leave (v := some (.int 1)) (hlocks := hlocks) (fun h => by rw [hr] at h; cases h)
  have hmeth' : T.vm.method? m = some meth := X.method'
  refine ⟨T.setFrames fs, ?_, .returned (some (.int 1)), hrun, hended, rfl, ⟨_, rfl⟩, hW, hframe⟩
  jvm_step X.here [X.here.top, hx, hb, hdg, hmeth', hr, ret, narrow_b1]
  (try refine ⟨rfl, ?_⟩); (try refine ⟨rfl, ?_⟩)
  first | (intro acts; rw [hret _ acts rfl rfl rfl]) | rw [hret _ _ rfl rfl rfl]
  exact Steps.refl _
/-- what holds at the law's entry: the machine, the code, the tables' words (any of lw_tbl by 'hts w (by decide +kernel)'), the script of L ints xs at the cell b, what the Statement gives of the start (any of its parts by flat_of_before) -/
def lw_At (p : Program) (s : State) (m : MethodId) (meth : Method) (c : Code) (b L : Nat) (xs : Nat → Int32) : Prop :=
  p.tables.exec = Jvm.exec ∧ c.code = code ∧ meth.sig.returnType = ret ∧ c.maxLocals = 4 ∧ s.vm.findClass R_law = some m.cls ∧ (∀ w ∈ lw_tbl, w.before #[Value.ref b] s = true) ∧ va_X b L xs s s.heap ∧ b < s.heap.size ∧ meth.locks = false ∧ (Jvm.Cond.and given_1 narrow_1).before #[Value.ref b] s = true
def lS {α : Type} (L : Nat) (sx : Nat → Int32) (i : Int32) (K : Int32 → Option α) : Option α := if decide (0 ≤ i) && decide (i.toNatClampNeg < L) then K (sx i.toNatClampNeg) else none
theorem lS_s {α : Type} {L : Nat} {sx : Nat → Int32} {i : Int32} {K : Int32 → Option α} {z : α} (h : lS L sx i K = some z) : vp_in i L ∧ K (sx i.toNatClampNeg) = some z := by
  unfold lS at h
  split at h
  · rename_i q
    simp only [Bool.and_eq_true, decide_eq_true_eq] at q
    refine ⟨?_, h⟩
    rintro (h1 | h1)
    · exact absurd q.1 (Int32.not_le.mpr h1)
    · omega
  · cases h
section KL
variable {X : Xt} {own : String} {cc : ByteArray} {nL fr lo mc ms cs sl pc : Nat} {Q : State → Prop} {w : Wd} {lv lv2 : List (Nat × Value)} {st : List Value}
theorem k_sld (C : Ok X own cc nL fr lo mc ms) {b L : Nat} {sx : Nat → Int32} (hX : va_X b L sx (xs X) (xs X).heap) (hbl : b < (xs X).heap.size) (hbA : ¬ gA (xg X) b) {α : Type} {i : Int32} {K : Int32 → Option α} {z : α} (d : decode cc pc = .ok (.iaload, 1)) (hf : lS L sx i K = some z) (n : Nat) (hn : n = pc + 1) (kk : ∀ x, K x = some z → Wk X cs sl Q w lv n (.int x :: st)) : Wk X cs sl Q w lv pc (.int i :: .ref b :: st) := by
  subst hn
  obtain ⟨h1, h2⟩ := lS_s hf
  intro H locs ls hW hl
  exact va_sld C.1 C.2.1 hX hbl hbA hW.2.2.1 h1 d (kk _ h2 H locs ls hW hl)
theorem k_slen (C : Ok X own cc nL fr lo mc ms) {b L : Nat} {sx : Nat → Int32} (hX : va_X b L sx (xs X) (xs X).heap) (hbl : b < (xs X).heap.size) (hbA : ¬ gA (xg X) b) (d : decode cc pc = .ok (.arraylength, 1)) (n : Nat) (hn : n = pc + 1) (kk : Wk X cs sl Q w lv n (.int (Int32.ofNat L) :: st)) : Wk X cs sl Q w lv pc (.ref b :: st) := by
  subst hn
  intro H locs ls hW hl
  exact va_slen C.1 C.2.1 hX hbl hbA hW.2.2.1 d (kk H locs ls hW hl)
theorem k_lawret (C : Ok X RL cL_law 4 11 390 600000 7302250) (hRm : xR X = room_1) {b : Nat} (hxa : xa X = #[Value.ref b]) (hr : (xme X).sig.returnType = ret) (hlocks : (xme X).locks = false) (hA0 : gB (xg X) = (xs X).heap.size) (d : decode cL_law pc = .ok (.ireturn, 1)) : Wk X 107 2912 (lw_Z (xb X) #[Value.ref b] (xs X)) w lv pc [.int 1] := by
  intro H locs ls hW hl
  show W (xp X) (xl X) (xe X) (xR X) (xs X) (xm X) (xa X) (xb X) (xme X) (xc X) H locs 107 2912 _ _
  rw [hRm, hxa]
  refine va_forget (fun q hq => ?_) ?_
  · have h9 : gB (xg X) ≤ q.base := hW.2.2.1.2.2 q hq
    rw [← hA0]
    exact h9
  · refine W.widen (k := 600000) (n := 7302250) (by decide) (by decide) ?_
    exact lw_ret C.1 C.2.1 hr hlocks d
end KL
theorem mt_883 : (Jvm.Cond.methodLink "GrindMillLaw" (12 : Nat) ({ cls := "GrindMillModel", name := "<init>", desc := "()V" } : Jvm.MethodName)) ∈ tb := tb_of 883 (by decide +kernel) (by decide +kernel)
theorem mt_884 : (Jvm.Cond.instanceMethod ({ cls := "GrindMillModel", name := "<init>", desc := "()V" } : Jvm.MethodName)) ∈ tb := tb_of 884 (by decide +kernel) (by decide +kernel)
theorem ie_L_12 : IE RL 12 yX12_init := ⟨mt_883, mt_884, rfl⟩
theorem mt_81 : (Jvm.Cond.methodLink "GrindMillLaw" (9 : Nat) ({ cls := "GrindMill", name := "<init>", desc := "()V" } : Jvm.MethodName)) ∈ tb := tb_of 81 (by decide +kernel) (by decide +kernel)
theorem mt_82 : (Jvm.Cond.instanceMethod ({ cls := "GrindMill", name := "<init>", desc := "()V" } : Jvm.MethodName)) ∈ tb := tb_of 82 (by decide +kernel) (by decide +kernel)
theorem ie_L_9 : IE RL 9 yX11_init := ⟨mt_81, mt_82, rfl⟩
theorem mt_881 : (Jvm.Cond.classLink "GrindMillLaw" (10 : Nat) "GrindMillModel") ∈ tb := tb_of 881 (by decide +kernel) (by decide +kernel)
theorem cl_L_10 : Cond.classLink RL 10 (cN 12) ∈ tb := mt_881
theorem mt_882 : (Jvm.Cond.instantiable "GrindMillModel" (21 : Nat)) ∈ tb := tb_of 882 (by decide +kernel) (by decide +kernel)
theorem ins_12 : Cond.instantiable (cN 12) (fn 12) ∈ tb := mt_882
theorem ini_12 : Cond.initialized (cN 12) ∈ tb := mt_71
theorem mt_79 : (Jvm.Cond.classLink "GrindMillLaw" (7 : Nat) "GrindMill") ∈ tb := tb_of 79 (by decide +kernel) (by decide +kernel)
theorem cl_L_7 : Cond.classLink RL 7 (cN 11) ∈ tb := mt_79
theorem mt_80 : (Jvm.Cond.instantiable "GrindMill" (9 : Nat)) ∈ tb := tb_of 80 (by decide +kernel) (by decide +kernel)
theorem ins_11 : Cond.instantiable (cN 11) (fn 11) ∈ tb := mt_80
theorem ini_11 : Cond.initialized (cN 11) ∈ tb := mt_59
theorem mt_1135 : (Jvm.Cond.methodLink "GrindMillLaw" (100 : Nat) ({ cls := "GrindMillModel", name := "words", desc := "(I)I" } : Jvm.MethodName)) ∈ tb := tb_of 1135 (by decide +kernel) (by decide +kernel)
theorem mt_1136 : (Jvm.Cond.instanceMethod ({ cls := "GrindMillModel", name := "words", desc := "(I)I" } : Jvm.MethodName)) ∈ tb := tb_of 1136 (by decide +kernel) (by decide +kernel)
theorem mt_1137 : (Jvm.Cond.selects "GrindMillModel" ({ cls := "GrindMillModel", name := "words", desc := "(I)I" } : Jvm.MethodName) ({ cls := "GrindMillModel", name := "words", desc := "(I)I" } : Jvm.MethodName)) ∈ tb := tb_of 1137 (by decide +kernel) (by decide +kernel)
theorem ve_L_100 : VE RL 100 yX12_words 12 := ⟨mt_1135, mt_1136, mt_1137, ce_12⟩
theorem mt_716 : (Jvm.Cond.methodLink "GrindMillLaw" (101 : Nat) ({ cls := "GrindMill", name := "nextGuess", desc := "()I" } : Jvm.MethodName)) ∈ tb := tb_of 716 (by decide +kernel) (by decide +kernel)
theorem mt_717 : (Jvm.Cond.instanceMethod ({ cls := "GrindMill", name := "nextGuess", desc := "()I" } : Jvm.MethodName)) ∈ tb := tb_of 717 (by decide +kernel) (by decide +kernel)
theorem mt_718 : (Jvm.Cond.selects "GrindMill" ({ cls := "GrindMill", name := "nextGuess", desc := "()I" } : Jvm.MethodName) ({ cls := "GrindMill", name := "nextGuess", desc := "()I" } : Jvm.MethodName)) ∈ tb := tb_of 718 (by decide +kernel) (by decide +kernel)
theorem ve_L_101 : VE RL 101 yX11_nextGuess 11 := ⟨mt_716, mt_717, mt_718, ce_11⟩
theorem mt_1143 : (Jvm.Cond.methodLink "GrindMillLaw" (104 : Nat) ({ cls := "GrindMillModel", name := "nextGuess", desc := "()I" } : Jvm.MethodName)) ∈ tb := tb_of 1143 (by decide +kernel) (by decide +kernel)
theorem mt_1144 : (Jvm.Cond.instanceMethod ({ cls := "GrindMillModel", name := "nextGuess", desc := "()I" } : Jvm.MethodName)) ∈ tb := tb_of 1144 (by decide +kernel) (by decide +kernel)
theorem mt_1145 : (Jvm.Cond.selects "GrindMillModel" ({ cls := "GrindMillModel", name := "nextGuess", desc := "()I" } : Jvm.MethodName) ({ cls := "GrindMillModel", name := "nextGuess", desc := "()I" } : Jvm.MethodName)) ∈ tb := tb_of 1145 (by decide +kernel) (by decide +kernel)
theorem ve_L_104 : VE RL 104 yX12_nextGuess 12 := ⟨mt_1143, mt_1144, mt_1145, ce_12⟩
theorem mt_730 : (Jvm.Cond.methodLink "GrindMillLaw" (105 : Nat) ({ cls := "GrindMill", name := "street", desc := "(II)I" } : Jvm.MethodName)) ∈ tb := tb_of 730 (by decide +kernel) (by decide +kernel)
theorem mt_731 : (Jvm.Cond.instanceMethod ({ cls := "GrindMill", name := "street", desc := "(II)I" } : Jvm.MethodName)) ∈ tb := tb_of 731 (by decide +kernel) (by decide +kernel)
theorem mt_732 : (Jvm.Cond.selects "GrindMill" ({ cls := "GrindMill", name := "street", desc := "(II)I" } : Jvm.MethodName) ({ cls := "GrindMill", name := "street", desc := "(II)I" } : Jvm.MethodName)) ∈ tb := tb_of 732 (by decide +kernel) (by decide +kernel)
theorem ve_L_105 : VE RL 105 yX11_street 11 := ⟨mt_730, mt_731, mt_732, ce_11⟩
theorem mt_1151 : (Jvm.Cond.methodLink "GrindMillLaw" (108 : Nat) ({ cls := "GrindMillModel", name := "street", desc := "(II)I" } : Jvm.MethodName)) ∈ tb := tb_of 1151 (by decide +kernel) (by decide +kernel)
theorem mt_1152 : (Jvm.Cond.instanceMethod ({ cls := "GrindMillModel", name := "street", desc := "(II)I" } : Jvm.MethodName)) ∈ tb := tb_of 1152 (by decide +kernel) (by decide +kernel)
theorem mt_1153 : (Jvm.Cond.selects "GrindMillModel" ({ cls := "GrindMillModel", name := "street", desc := "(II)I" } : Jvm.MethodName) ({ cls := "GrindMillModel", name := "street", desc := "(II)I" } : Jvm.MethodName)) ∈ tb := tb_of 1153 (by decide +kernel) (by decide +kernel)
theorem ve_L_108 : VE RL 108 yX12_street 12 := ⟨mt_1151, mt_1152, mt_1153, ce_12⟩
theorem mt_755 : (Jvm.Cond.methodLink "GrindMillLaw" (109 : Nat) ({ cls := "GrindMill", name := "note", desc := "(IIII)I" } : Jvm.MethodName)) ∈ tb := tb_of 755 (by decide +kernel) (by decide +kernel)
theorem mt_756 : (Jvm.Cond.instanceMethod ({ cls := "GrindMill", name := "note", desc := "(IIII)I" } : Jvm.MethodName)) ∈ tb := tb_of 756 (by decide +kernel) (by decide +kernel)
theorem mt_757 : (Jvm.Cond.selects "GrindMill" ({ cls := "GrindMill", name := "note", desc := "(IIII)I" } : Jvm.MethodName) ({ cls := "GrindMill", name := "note", desc := "(IIII)I" } : Jvm.MethodName)) ∈ tb := tb_of 757 (by decide +kernel) (by decide +kernel)
theorem ve_L_109 : VE RL 109 yX11_note 11 := ⟨mt_755, mt_756, mt_757, ce_11⟩
theorem mt_1163 : (Jvm.Cond.methodLink "GrindMillLaw" (113 : Nat) ({ cls := "GrindMillModel", name := "note", desc := "(IIII)I" } : Jvm.MethodName)) ∈ tb := tb_of 1163 (by decide +kernel) (by decide +kernel)
theorem mt_1164 : (Jvm.Cond.instanceMethod ({ cls := "GrindMillModel", name := "note", desc := "(IIII)I" } : Jvm.MethodName)) ∈ tb := tb_of 1164 (by decide +kernel) (by decide +kernel)
theorem mt_1165 : (Jvm.Cond.selects "GrindMillModel" ({ cls := "GrindMillModel", name := "note", desc := "(IIII)I" } : Jvm.MethodName) ({ cls := "GrindMillModel", name := "note", desc := "(IIII)I" } : Jvm.MethodName)) ∈ tb := tb_of 1165 (by decide +kernel) (by decide +kernel)
theorem ve_L_113 : VE RL 113 yX12_note 12 := ⟨mt_1163, mt_1164, mt_1165, ce_12⟩
theorem mt_763 : (Jvm.Cond.methodLink "GrindMillLaw" (114 : Nat) ({ cls := "GrindMill", name := "forget", desc := "(I)I" } : Jvm.MethodName)) ∈ tb := tb_of 763 (by decide +kernel) (by decide +kernel)
theorem mt_764 : (Jvm.Cond.instanceMethod ({ cls := "GrindMill", name := "forget", desc := "(I)I" } : Jvm.MethodName)) ∈ tb := tb_of 764 (by decide +kernel) (by decide +kernel)
theorem mt_765 : (Jvm.Cond.selects "GrindMill" ({ cls := "GrindMill", name := "forget", desc := "(I)I" } : Jvm.MethodName) ({ cls := "GrindMill", name := "forget", desc := "(I)I" } : Jvm.MethodName)) ∈ tb := tb_of 765 (by decide +kernel) (by decide +kernel)
theorem ve_L_114 : VE RL 114 yX11_forget 11 := ⟨mt_763, mt_764, mt_765, ce_11⟩
theorem mt_1167 : (Jvm.Cond.methodLink "GrindMillLaw" (117 : Nat) ({ cls := "GrindMillModel", name := "forget", desc := "(I)I" } : Jvm.MethodName)) ∈ tb := tb_of 1167 (by decide +kernel) (by decide +kernel)
theorem mt_1168 : (Jvm.Cond.instanceMethod ({ cls := "GrindMillModel", name := "forget", desc := "(I)I" } : Jvm.MethodName)) ∈ tb := tb_of 1168 (by decide +kernel) (by decide +kernel)
theorem mt_1169 : (Jvm.Cond.selects "GrindMillModel" ({ cls := "GrindMillModel", name := "forget", desc := "(I)I" } : Jvm.MethodName) ({ cls := "GrindMillModel", name := "forget", desc := "(I)I" } : Jvm.MethodName)) ∈ tb := tb_of 1169 (by decide +kernel) (by decide +kernel)
theorem ve_L_117 : VE RL 117 yX12_forget 12 := ⟨mt_1167, mt_1168, mt_1169, ce_12⟩
theorem mt_767 : (Jvm.Cond.methodLink "GrindMillLaw" (118 : Nat) ({ cls := "GrindMill", name := "is", desc := "(II)I" } : Jvm.MethodName)) ∈ tb := tb_of 767 (by decide +kernel) (by decide +kernel)
theorem mt_768 : (Jvm.Cond.instanceMethod ({ cls := "GrindMill", name := "is", desc := "(II)I" } : Jvm.MethodName)) ∈ tb := tb_of 768 (by decide +kernel) (by decide +kernel)
theorem mt_769 : (Jvm.Cond.selects "GrindMill" ({ cls := "GrindMill", name := "is", desc := "(II)I" } : Jvm.MethodName) ({ cls := "GrindMill", name := "is", desc := "(II)I" } : Jvm.MethodName)) ∈ tb := tb_of 769 (by decide +kernel) (by decide +kernel)
theorem ve_L_118 : VE RL 118 yX11_is 11 := ⟨mt_767, mt_768, mt_769, ce_11⟩
theorem mt_1171 : (Jvm.Cond.methodLink "GrindMillLaw" (121 : Nat) ({ cls := "GrindMillModel", name := "is", desc := "(II)I" } : Jvm.MethodName)) ∈ tb := tb_of 1171 (by decide +kernel) (by decide +kernel)
theorem mt_1172 : (Jvm.Cond.instanceMethod ({ cls := "GrindMillModel", name := "is", desc := "(II)I" } : Jvm.MethodName)) ∈ tb := tb_of 1172 (by decide +kernel) (by decide +kernel)
theorem mt_1173 : (Jvm.Cond.selects "GrindMillModel" ({ cls := "GrindMillModel", name := "is", desc := "(II)I" } : Jvm.MethodName) ({ cls := "GrindMillModel", name := "is", desc := "(II)I" } : Jvm.MethodName)) ∈ tb := tb_of 1173 (by decide +kernel) (by decide +kernel)
theorem ve_L_121 : VE RL 121 yX12_is 12 := ⟨mt_1171, mt_1172, mt_1173, ce_12⟩
theorem mt_784 : (Jvm.Cond.methodLink "GrindMillLaw" (122 : Nat) ({ cls := "GrindMill", name := "look", desc := "(I)I" } : Jvm.MethodName)) ∈ tb := tb_of 784 (by decide +kernel) (by decide +kernel)
theorem mt_785 : (Jvm.Cond.instanceMethod ({ cls := "GrindMill", name := "look", desc := "(I)I" } : Jvm.MethodName)) ∈ tb := tb_of 785 (by decide +kernel) (by decide +kernel)
theorem mt_786 : (Jvm.Cond.selects "GrindMill" ({ cls := "GrindMill", name := "look", desc := "(I)I" } : Jvm.MethodName) ({ cls := "GrindMill", name := "look", desc := "(I)I" } : Jvm.MethodName)) ∈ tb := tb_of 786 (by decide +kernel) (by decide +kernel)
theorem ve_L_122 : VE RL 122 yX11_look 11 := ⟨mt_784, mt_785, mt_786, ce_11⟩
theorem mt_1183 : (Jvm.Cond.methodLink "GrindMillLaw" (125 : Nat) ({ cls := "GrindMillModel", name := "look", desc := "(I)I" } : Jvm.MethodName)) ∈ tb := tb_of 1183 (by decide +kernel) (by decide +kernel)
theorem mt_1184 : (Jvm.Cond.instanceMethod ({ cls := "GrindMillModel", name := "look", desc := "(I)I" } : Jvm.MethodName)) ∈ tb := tb_of 1184 (by decide +kernel) (by decide +kernel)
theorem mt_1185 : (Jvm.Cond.selects "GrindMillModel" ({ cls := "GrindMillModel", name := "look", desc := "(I)I" } : Jvm.MethodName) ({ cls := "GrindMillModel", name := "look", desc := "(I)I" } : Jvm.MethodName)) ∈ tb := tb_of 1185 (by decide +kernel) (by decide +kernel)
theorem ve_L_125 : VE RL 125 yX12_look 12 := ⟨mt_1183, mt_1184, mt_1185, ce_12⟩
theorem mt_801 : (Jvm.Cond.methodLink "GrindMillLaw" (126 : Nat) ({ cls := "GrindMill", name := "thieves", desc := "(III)I" } : Jvm.MethodName)) ∈ tb := tb_of 801 (by decide +kernel) (by decide +kernel)
theorem mt_802 : (Jvm.Cond.instanceMethod ({ cls := "GrindMill", name := "thieves", desc := "(III)I" } : Jvm.MethodName)) ∈ tb := tb_of 802 (by decide +kernel) (by decide +kernel)
theorem mt_803 : (Jvm.Cond.selects "GrindMill" ({ cls := "GrindMill", name := "thieves", desc := "(III)I" } : Jvm.MethodName) ({ cls := "GrindMill", name := "thieves", desc := "(III)I" } : Jvm.MethodName)) ∈ tb := tb_of 803 (by decide +kernel) (by decide +kernel)
theorem ve_L_126 : VE RL 126 yX11_thieves 11 := ⟨mt_801, mt_802, mt_803, ce_11⟩
theorem mt_1191 : (Jvm.Cond.methodLink "GrindMillLaw" (129 : Nat) ({ cls := "GrindMillModel", name := "thieves", desc := "(III)I" } : Jvm.MethodName)) ∈ tb := tb_of 1191 (by decide +kernel) (by decide +kernel)
theorem mt_1192 : (Jvm.Cond.instanceMethod ({ cls := "GrindMillModel", name := "thieves", desc := "(III)I" } : Jvm.MethodName)) ∈ tb := tb_of 1192 (by decide +kernel) (by decide +kernel)
theorem mt_1193 : (Jvm.Cond.selects "GrindMillModel" ({ cls := "GrindMillModel", name := "thieves", desc := "(III)I" } : Jvm.MethodName) ({ cls := "GrindMillModel", name := "thieves", desc := "(III)I" } : Jvm.MethodName)) ∈ tb := tb_of 1193 (by decide +kernel) (by decide +kernel)
theorem ve_L_129 : VE RL 129 yX12_thieves 12 := ⟨mt_1191, mt_1192, mt_1193, ce_12⟩
theorem mt_352 : (Jvm.Cond.methodLink "GrindMillLaw" (13 : Nat) ({ cls := "GrindMill", name := "mill", desc := "(I)I" } : Jvm.MethodName)) ∈ tb := tb_of 352 (by decide +kernel) (by decide +kernel)
theorem mt_353 : (Jvm.Cond.instanceMethod ({ cls := "GrindMill", name := "mill", desc := "(I)I" } : Jvm.MethodName)) ∈ tb := tb_of 353 (by decide +kernel) (by decide +kernel)
theorem mt_354 : (Jvm.Cond.selects "GrindMill" ({ cls := "GrindMill", name := "mill", desc := "(I)I" } : Jvm.MethodName) ({ cls := "GrindMill", name := "mill", desc := "(I)I" } : Jvm.MethodName)) ∈ tb := tb_of 354 (by decide +kernel) (by decide +kernel)
theorem ve_L_13 : VE RL 13 yX11_mill 11 := ⟨mt_352, mt_353, mt_354, ce_11⟩
theorem mt_812 : (Jvm.Cond.methodLink "GrindMillLaw" (130 : Nat) ({ cls := "GrindMill", name := "mills", desc := "(II)I" } : Jvm.MethodName)) ∈ tb := tb_of 812 (by decide +kernel) (by decide +kernel)
theorem mt_813 : (Jvm.Cond.instanceMethod ({ cls := "GrindMill", name := "mills", desc := "(II)I" } : Jvm.MethodName)) ∈ tb := tb_of 813 (by decide +kernel) (by decide +kernel)
theorem mt_814 : (Jvm.Cond.selects "GrindMill" ({ cls := "GrindMill", name := "mills", desc := "(II)I" } : Jvm.MethodName) ({ cls := "GrindMill", name := "mills", desc := "(II)I" } : Jvm.MethodName)) ∈ tb := tb_of 814 (by decide +kernel) (by decide +kernel)
theorem ve_L_130 : VE RL 130 yX11_mills 11 := ⟨mt_812, mt_813, mt_814, ce_11⟩
theorem mt_1200 : (Jvm.Cond.methodLink "GrindMillLaw" (133 : Nat) ({ cls := "GrindMillModel", name := "mills", desc := "(II)I" } : Jvm.MethodName)) ∈ tb := tb_of 1200 (by decide +kernel) (by decide +kernel)
theorem mt_1201 : (Jvm.Cond.instanceMethod ({ cls := "GrindMillModel", name := "mills", desc := "(II)I" } : Jvm.MethodName)) ∈ tb := tb_of 1201 (by decide +kernel) (by decide +kernel)
theorem mt_1202 : (Jvm.Cond.selects "GrindMillModel" ({ cls := "GrindMillModel", name := "mills", desc := "(II)I" } : Jvm.MethodName) ({ cls := "GrindMillModel", name := "mills", desc := "(II)I" } : Jvm.MethodName)) ∈ tb := tb_of 1202 (by decide +kernel) (by decide +kernel)
theorem ve_L_133 : VE RL 133 yX12_mills 12 := ⟨mt_1200, mt_1201, mt_1202, ce_12⟩
theorem mt_822 : (Jvm.Cond.methodLink "GrindMillLaw" (134 : Nat) ({ cls := "GrindMill", name := "part", desc := "(I)J" } : Jvm.MethodName)) ∈ tb := tb_of 822 (by decide +kernel) (by decide +kernel)
theorem mt_823 : (Jvm.Cond.instanceMethod ({ cls := "GrindMill", name := "part", desc := "(I)J" } : Jvm.MethodName)) ∈ tb := tb_of 823 (by decide +kernel) (by decide +kernel)
theorem mt_824 : (Jvm.Cond.selects "GrindMill" ({ cls := "GrindMill", name := "part", desc := "(I)J" } : Jvm.MethodName) ({ cls := "GrindMill", name := "part", desc := "(I)J" } : Jvm.MethodName)) ∈ tb := tb_of 824 (by decide +kernel) (by decide +kernel)
theorem ve_L_134 : VE RL 134 yX11_part 11 := ⟨mt_822, mt_823, mt_824, ce_11⟩
theorem mt_1210 : (Jvm.Cond.methodLink "GrindMillLaw" (138 : Nat) ({ cls := "GrindMillModel", name := "part", desc := "(I)J" } : Jvm.MethodName)) ∈ tb := tb_of 1210 (by decide +kernel) (by decide +kernel)
theorem mt_1211 : (Jvm.Cond.instanceMethod ({ cls := "GrindMillModel", name := "part", desc := "(I)J" } : Jvm.MethodName)) ∈ tb := tb_of 1211 (by decide +kernel) (by decide +kernel)
theorem mt_1212 : (Jvm.Cond.selects "GrindMillModel" ({ cls := "GrindMillModel", name := "part", desc := "(I)J" } : Jvm.MethodName) ({ cls := "GrindMillModel", name := "part", desc := "(I)J" } : Jvm.MethodName)) ∈ tb := tb_of 1212 (by decide +kernel) (by decide +kernel)
theorem ve_L_138 : VE RL 138 yX12_part 12 := ⟨mt_1210, mt_1211, mt_1212, ce_12⟩
theorem mt_826 : (Jvm.Cond.methodLink "GrindMillLaw" (139 : Nat) ({ cls := "GrindMill", name := "image", desc := "(I)I" } : Jvm.MethodName)) ∈ tb := tb_of 826 (by decide +kernel) (by decide +kernel)
theorem mt_827 : (Jvm.Cond.instanceMethod ({ cls := "GrindMill", name := "image", desc := "(I)I" } : Jvm.MethodName)) ∈ tb := tb_of 827 (by decide +kernel) (by decide +kernel)
theorem mt_828 : (Jvm.Cond.selects "GrindMill" ({ cls := "GrindMill", name := "image", desc := "(I)I" } : Jvm.MethodName) ({ cls := "GrindMill", name := "image", desc := "(I)I" } : Jvm.MethodName)) ∈ tb := tb_of 828 (by decide +kernel) (by decide +kernel)
theorem ve_L_139 : VE RL 139 yX11_image 11 := ⟨mt_826, mt_827, mt_828, ce_11⟩
theorem mt_1214 : (Jvm.Cond.methodLink "GrindMillLaw" (142 : Nat) ({ cls := "GrindMillModel", name := "image", desc := "(I)I" } : Jvm.MethodName)) ∈ tb := tb_of 1214 (by decide +kernel) (by decide +kernel)
theorem mt_1215 : (Jvm.Cond.instanceMethod ({ cls := "GrindMillModel", name := "image", desc := "(I)I" } : Jvm.MethodName)) ∈ tb := tb_of 1215 (by decide +kernel) (by decide +kernel)
theorem mt_1216 : (Jvm.Cond.selects "GrindMillModel" ({ cls := "GrindMillModel", name := "image", desc := "(I)I" } : Jvm.MethodName) ({ cls := "GrindMillModel", name := "image", desc := "(I)I" } : Jvm.MethodName)) ∈ tb := tb_of 1216 (by decide +kernel) (by decide +kernel)
theorem ve_L_142 : VE RL 142 yX12_image 12 := ⟨mt_1214, mt_1215, mt_1216, ce_12⟩
theorem mt_844 : (Jvm.Cond.methodLink "GrindMillLaw" (143 : Nat) ({ cls := "GrindMill", name := "from", desc := "(I)I" } : Jvm.MethodName)) ∈ tb := tb_of 844 (by decide +kernel) (by decide +kernel)
theorem mt_845 : (Jvm.Cond.instanceMethod ({ cls := "GrindMill", name := "from", desc := "(I)I" } : Jvm.MethodName)) ∈ tb := tb_of 845 (by decide +kernel) (by decide +kernel)
theorem mt_846 : (Jvm.Cond.selects "GrindMill" ({ cls := "GrindMill", name := "from", desc := "(I)I" } : Jvm.MethodName) ({ cls := "GrindMill", name := "from", desc := "(I)I" } : Jvm.MethodName)) ∈ tb := tb_of 846 (by decide +kernel) (by decide +kernel)
theorem ve_L_143 : VE RL 143 yX11_from 11 := ⟨mt_844, mt_845, mt_846, ce_11⟩
theorem mt_1218 : (Jvm.Cond.methodLink "GrindMillLaw" (146 : Nat) ({ cls := "GrindMillModel", name := "from", desc := "(I)I" } : Jvm.MethodName)) ∈ tb := tb_of 1218 (by decide +kernel) (by decide +kernel)
theorem mt_1219 : (Jvm.Cond.instanceMethod ({ cls := "GrindMillModel", name := "from", desc := "(I)I" } : Jvm.MethodName)) ∈ tb := tb_of 1219 (by decide +kernel) (by decide +kernel)
theorem mt_1220 : (Jvm.Cond.selects "GrindMillModel" ({ cls := "GrindMillModel", name := "from", desc := "(I)I" } : Jvm.MethodName) ({ cls := "GrindMillModel", name := "from", desc := "(I)I" } : Jvm.MethodName)) ∈ tb := tb_of 1220 (by decide +kernel) (by decide +kernel)
theorem ve_L_146 : VE RL 146 yX12_from 12 := ⟨mt_1218, mt_1219, mt_1220, ce_12⟩
theorem mt_848 : (Jvm.Cond.methodLink "GrindMillLaw" (147 : Nat) ({ cls := "GrindMill", name := "status", desc := "(I)I" } : Jvm.MethodName)) ∈ tb := tb_of 848 (by decide +kernel) (by decide +kernel)
theorem mt_849 : (Jvm.Cond.instanceMethod ({ cls := "GrindMill", name := "status", desc := "(I)I" } : Jvm.MethodName)) ∈ tb := tb_of 849 (by decide +kernel) (by decide +kernel)
theorem mt_850 : (Jvm.Cond.selects "GrindMill" ({ cls := "GrindMill", name := "status", desc := "(I)I" } : Jvm.MethodName) ({ cls := "GrindMill", name := "status", desc := "(I)I" } : Jvm.MethodName)) ∈ tb := tb_of 850 (by decide +kernel) (by decide +kernel)
theorem ve_L_147 : VE RL 147 yX11_status 11 := ⟨mt_848, mt_849, mt_850, ce_11⟩
theorem mt_1222 : (Jvm.Cond.methodLink "GrindMillLaw" (150 : Nat) ({ cls := "GrindMillModel", name := "status", desc := "(I)I" } : Jvm.MethodName)) ∈ tb := tb_of 1222 (by decide +kernel) (by decide +kernel)
theorem mt_1223 : (Jvm.Cond.instanceMethod ({ cls := "GrindMillModel", name := "status", desc := "(I)I" } : Jvm.MethodName)) ∈ tb := tb_of 1223 (by decide +kernel) (by decide +kernel)
theorem mt_1224 : (Jvm.Cond.selects "GrindMillModel" ({ cls := "GrindMillModel", name := "status", desc := "(I)I" } : Jvm.MethodName) ({ cls := "GrindMillModel", name := "status", desc := "(I)I" } : Jvm.MethodName)) ∈ tb := tb_of 1224 (by decide +kernel) (by decide +kernel)
theorem ve_L_150 : VE RL 150 yX12_status 12 := ⟨mt_1222, mt_1223, mt_1224, ce_12⟩
theorem mt_852 : (Jvm.Cond.methodLink "GrindMillLaw" (151 : Nat) ({ cls := "GrindMill", name := "count", desc := "(I)I" } : Jvm.MethodName)) ∈ tb := tb_of 852 (by decide +kernel) (by decide +kernel)
theorem mt_853 : (Jvm.Cond.instanceMethod ({ cls := "GrindMill", name := "count", desc := "(I)I" } : Jvm.MethodName)) ∈ tb := tb_of 853 (by decide +kernel) (by decide +kernel)
theorem mt_854 : (Jvm.Cond.selects "GrindMill" ({ cls := "GrindMill", name := "count", desc := "(I)I" } : Jvm.MethodName) ({ cls := "GrindMill", name := "count", desc := "(I)I" } : Jvm.MethodName)) ∈ tb := tb_of 854 (by decide +kernel) (by decide +kernel)
theorem ve_L_151 : VE RL 151 yX11_count 11 := ⟨mt_852, mt_853, mt_854, ce_11⟩
theorem mt_1226 : (Jvm.Cond.methodLink "GrindMillLaw" (154 : Nat) ({ cls := "GrindMillModel", name := "count", desc := "(I)I" } : Jvm.MethodName)) ∈ tb := tb_of 1226 (by decide +kernel) (by decide +kernel)
theorem mt_1227 : (Jvm.Cond.instanceMethod ({ cls := "GrindMillModel", name := "count", desc := "(I)I" } : Jvm.MethodName)) ∈ tb := tb_of 1227 (by decide +kernel) (by decide +kernel)
theorem mt_1228 : (Jvm.Cond.selects "GrindMillModel" ({ cls := "GrindMillModel", name := "count", desc := "(I)I" } : Jvm.MethodName) ({ cls := "GrindMillModel", name := "count", desc := "(I)I" } : Jvm.MethodName)) ∈ tb := tb_of 1228 (by decide +kernel) (by decide +kernel)
theorem ve_L_154 : VE RL 154 yX12_count 12 := ⟨mt_1226, mt_1227, mt_1228, ce_12⟩
theorem mt_860 : (Jvm.Cond.methodLink "GrindMillLaw" (155 : Nat) ({ cls := "GrindMill", name := "digest", desc := "()J" } : Jvm.MethodName)) ∈ tb := tb_of 860 (by decide +kernel) (by decide +kernel)
theorem mt_861 : (Jvm.Cond.instanceMethod ({ cls := "GrindMill", name := "digest", desc := "()J" } : Jvm.MethodName)) ∈ tb := tb_of 861 (by decide +kernel) (by decide +kernel)
theorem mt_862 : (Jvm.Cond.selects "GrindMill" ({ cls := "GrindMill", name := "digest", desc := "()J" } : Jvm.MethodName) ({ cls := "GrindMill", name := "digest", desc := "()J" } : Jvm.MethodName)) ∈ tb := tb_of 862 (by decide +kernel) (by decide +kernel)
theorem ve_L_155 : VE RL 155 yX11_digest 11 := ⟨mt_860, mt_861, mt_862, ce_11⟩
theorem mt_1234 : (Jvm.Cond.methodLink "GrindMillLaw" (159 : Nat) ({ cls := "GrindMillModel", name := "digest", desc := "()J" } : Jvm.MethodName)) ∈ tb := tb_of 1234 (by decide +kernel) (by decide +kernel)
theorem mt_1235 : (Jvm.Cond.instanceMethod ({ cls := "GrindMillModel", name := "digest", desc := "()J" } : Jvm.MethodName)) ∈ tb := tb_of 1235 (by decide +kernel) (by decide +kernel)
theorem mt_1236 : (Jvm.Cond.selects "GrindMillModel" ({ cls := "GrindMillModel", name := "digest", desc := "()J" } : Jvm.MethodName) ({ cls := "GrindMillModel", name := "digest", desc := "()J" } : Jvm.MethodName)) ∈ tb := tb_of 1236 (by decide +kernel) (by decide +kernel)
theorem ve_L_159 : VE RL 159 yX12_digest 12 := ⟨mt_1234, mt_1235, mt_1236, ce_12⟩
theorem mt_955 : (Jvm.Cond.methodLink "GrindMillLaw" (17 : Nat) ({ cls := "GrindMillModel", name := "mill", desc := "(I)I" } : Jvm.MethodName)) ∈ tb := tb_of 955 (by decide +kernel) (by decide +kernel)
theorem mt_956 : (Jvm.Cond.instanceMethod ({ cls := "GrindMillModel", name := "mill", desc := "(I)I" } : Jvm.MethodName)) ∈ tb := tb_of 956 (by decide +kernel) (by decide +kernel)
theorem mt_957 : (Jvm.Cond.selects "GrindMillModel" ({ cls := "GrindMillModel", name := "mill", desc := "(I)I" } : Jvm.MethodName) ({ cls := "GrindMillModel", name := "mill", desc := "(I)I" } : Jvm.MethodName)) ∈ tb := tb_of 957 (by decide +kernel) (by decide +kernel)
theorem ve_L_17 : VE RL 17 yX12_mill 12 := ⟨mt_955, mt_956, mt_957, ce_12⟩
theorem mt_364 : (Jvm.Cond.methodLink "GrindMillLaw" (18 : Nat) ({ cls := "GrindMill", name := "goods", desc := "(III)I" } : Jvm.MethodName)) ∈ tb := tb_of 364 (by decide +kernel) (by decide +kernel)
theorem mt_365 : (Jvm.Cond.instanceMethod ({ cls := "GrindMill", name := "goods", desc := "(III)I" } : Jvm.MethodName)) ∈ tb := tb_of 365 (by decide +kernel) (by decide +kernel)
theorem mt_366 : (Jvm.Cond.selects "GrindMill" ({ cls := "GrindMill", name := "goods", desc := "(III)I" } : Jvm.MethodName) ({ cls := "GrindMill", name := "goods", desc := "(III)I" } : Jvm.MethodName)) ∈ tb := tb_of 366 (by decide +kernel) (by decide +kernel)
theorem ve_L_18 : VE RL 18 yX11_goods 11 := ⟨mt_364, mt_365, mt_366, ce_11⟩
theorem mt_966 : (Jvm.Cond.methodLink "GrindMillLaw" (22 : Nat) ({ cls := "GrindMillModel", name := "goods", desc := "(III)I" } : Jvm.MethodName)) ∈ tb := tb_of 966 (by decide +kernel) (by decide +kernel)
theorem mt_967 : (Jvm.Cond.instanceMethod ({ cls := "GrindMillModel", name := "goods", desc := "(III)I" } : Jvm.MethodName)) ∈ tb := tb_of 967 (by decide +kernel) (by decide +kernel)
theorem mt_968 : (Jvm.Cond.selects "GrindMillModel" ({ cls := "GrindMillModel", name := "goods", desc := "(III)I" } : Jvm.MethodName) ({ cls := "GrindMillModel", name := "goods", desc := "(III)I" } : Jvm.MethodName)) ∈ tb := tb_of 968 (by decide +kernel) (by decide +kernel)
theorem ve_L_22 : VE RL 22 yX12_goods 12 := ⟨mt_966, mt_967, mt_968, ce_12⟩
theorem mt_376 : (Jvm.Cond.methodLink "GrindMillLaw" (23 : Nat) ({ cls := "GrindMill", name := "word", desc := "(I)I" } : Jvm.MethodName)) ∈ tb := tb_of 376 (by decide +kernel) (by decide +kernel)
theorem mt_377 : (Jvm.Cond.instanceMethod ({ cls := "GrindMill", name := "word", desc := "(I)I" } : Jvm.MethodName)) ∈ tb := tb_of 377 (by decide +kernel) (by decide +kernel)
theorem mt_378 : (Jvm.Cond.selects "GrindMill" ({ cls := "GrindMill", name := "word", desc := "(I)I" } : Jvm.MethodName) ({ cls := "GrindMill", name := "word", desc := "(I)I" } : Jvm.MethodName)) ∈ tb := tb_of 378 (by decide +kernel) (by decide +kernel)
theorem ve_L_23 : VE RL 23 yX11_word 11 := ⟨mt_376, mt_377, mt_378, ce_11⟩
theorem mt_974 : (Jvm.Cond.methodLink "GrindMillLaw" (26 : Nat) ({ cls := "GrindMillModel", name := "word", desc := "(I)I" } : Jvm.MethodName)) ∈ tb := tb_of 974 (by decide +kernel) (by decide +kernel)
theorem mt_975 : (Jvm.Cond.instanceMethod ({ cls := "GrindMillModel", name := "word", desc := "(I)I" } : Jvm.MethodName)) ∈ tb := tb_of 975 (by decide +kernel) (by decide +kernel)
theorem mt_976 : (Jvm.Cond.selects "GrindMillModel" ({ cls := "GrindMillModel", name := "word", desc := "(I)I" } : Jvm.MethodName) ({ cls := "GrindMillModel", name := "word", desc := "(I)I" } : Jvm.MethodName)) ∈ tb := tb_of 976 (by decide +kernel) (by decide +kernel)
theorem ve_L_26 : VE RL 26 yX12_word 12 := ⟨mt_974, mt_975, mt_976, ce_12⟩
theorem mt_383 : (Jvm.Cond.methodLink "GrindMillLaw" (27 : Nat) ({ cls := "GrindMill", name := "type", desc := "(I)I" } : Jvm.MethodName)) ∈ tb := tb_of 383 (by decide +kernel) (by decide +kernel)
theorem mt_384 : (Jvm.Cond.instanceMethod ({ cls := "GrindMill", name := "type", desc := "(I)I" } : Jvm.MethodName)) ∈ tb := tb_of 384 (by decide +kernel) (by decide +kernel)
theorem mt_385 : (Jvm.Cond.selects "GrindMill" ({ cls := "GrindMill", name := "type", desc := "(I)I" } : Jvm.MethodName) ({ cls := "GrindMill", name := "type", desc := "(I)I" } : Jvm.MethodName)) ∈ tb := tb_of 385 (by decide +kernel) (by decide +kernel)
theorem ve_L_27 : VE RL 27 yX11_type 11 := ⟨mt_383, mt_384, mt_385, ce_11⟩
theorem mt_978 : (Jvm.Cond.methodLink "GrindMillLaw" (30 : Nat) ({ cls := "GrindMillModel", name := "type", desc := "(I)I" } : Jvm.MethodName)) ∈ tb := tb_of 978 (by decide +kernel) (by decide +kernel)
theorem mt_979 : (Jvm.Cond.instanceMethod ({ cls := "GrindMillModel", name := "type", desc := "(I)I" } : Jvm.MethodName)) ∈ tb := tb_of 979 (by decide +kernel) (by decide +kernel)
theorem mt_980 : (Jvm.Cond.selects "GrindMillModel" ({ cls := "GrindMillModel", name := "type", desc := "(I)I" } : Jvm.MethodName) ({ cls := "GrindMillModel", name := "type", desc := "(I)I" } : Jvm.MethodName)) ∈ tb := tb_of 980 (by decide +kernel) (by decide +kernel)
theorem ve_L_30 : VE RL 30 yX12_type 12 := ⟨mt_978, mt_979, mt_980, ce_12⟩
theorem mt_391 : (Jvm.Cond.methodLink "GrindMillLaw" (31 : Nat) ({ cls := "GrindMill", name := "clear", desc := "()I" } : Jvm.MethodName)) ∈ tb := tb_of 391 (by decide +kernel) (by decide +kernel)
theorem mt_392 : (Jvm.Cond.instanceMethod ({ cls := "GrindMill", name := "clear", desc := "()I" } : Jvm.MethodName)) ∈ tb := tb_of 392 (by decide +kernel) (by decide +kernel)
theorem mt_393 : (Jvm.Cond.selects "GrindMill" ({ cls := "GrindMill", name := "clear", desc := "()I" } : Jvm.MethodName) ({ cls := "GrindMill", name := "clear", desc := "()I" } : Jvm.MethodName)) ∈ tb := tb_of 393 (by decide +kernel) (by decide +kernel)
theorem ve_L_31 : VE RL 31 yX11_clear 11 := ⟨mt_391, mt_392, mt_393, ce_11⟩
theorem mt_982 : (Jvm.Cond.methodLink "GrindMillLaw" (35 : Nat) ({ cls := "GrindMillModel", name := "clear", desc := "()I" } : Jvm.MethodName)) ∈ tb := tb_of 982 (by decide +kernel) (by decide +kernel)
theorem mt_983 : (Jvm.Cond.instanceMethod ({ cls := "GrindMillModel", name := "clear", desc := "()I" } : Jvm.MethodName)) ∈ tb := tb_of 983 (by decide +kernel) (by decide +kernel)
theorem mt_984 : (Jvm.Cond.selects "GrindMillModel" ({ cls := "GrindMillModel", name := "clear", desc := "()I" } : Jvm.MethodName) ({ cls := "GrindMillModel", name := "clear", desc := "()I" } : Jvm.MethodName)) ∈ tb := tb_of 984 (by decide +kernel) (by decide +kernel)
theorem ve_L_35 : VE RL 35 yX12_clear 12 := ⟨mt_982, mt_983, mt_984, ce_12⟩
theorem mt_395 : (Jvm.Cond.methodLink "GrindMillLaw" (36 : Nat) ({ cls := "GrindMill", name := "read", desc := "()I" } : Jvm.MethodName)) ∈ tb := tb_of 395 (by decide +kernel) (by decide +kernel)
theorem mt_396 : (Jvm.Cond.instanceMethod ({ cls := "GrindMill", name := "read", desc := "()I" } : Jvm.MethodName)) ∈ tb := tb_of 396 (by decide +kernel) (by decide +kernel)
theorem mt_397 : (Jvm.Cond.selects "GrindMill" ({ cls := "GrindMill", name := "read", desc := "()I" } : Jvm.MethodName) ({ cls := "GrindMill", name := "read", desc := "()I" } : Jvm.MethodName)) ∈ tb := tb_of 397 (by decide +kernel) (by decide +kernel)
theorem ve_L_36 : VE RL 36 yX11_read 11 := ⟨mt_395, mt_396, mt_397, ce_11⟩
theorem mt_986 : (Jvm.Cond.methodLink "GrindMillLaw" (39 : Nat) ({ cls := "GrindMillModel", name := "read", desc := "()I" } : Jvm.MethodName)) ∈ tb := tb_of 986 (by decide +kernel) (by decide +kernel)
theorem mt_987 : (Jvm.Cond.instanceMethod ({ cls := "GrindMillModel", name := "read", desc := "()I" } : Jvm.MethodName)) ∈ tb := tb_of 987 (by decide +kernel) (by decide +kernel)
theorem mt_988 : (Jvm.Cond.selects "GrindMillModel" ({ cls := "GrindMillModel", name := "read", desc := "()I" } : Jvm.MethodName) ({ cls := "GrindMillModel", name := "read", desc := "()I" } : Jvm.MethodName)) ∈ tb := tb_of 988 (by decide +kernel) (by decide +kernel)
theorem ve_L_39 : VE RL 39 yX12_read 12 := ⟨mt_986, mt_987, mt_988, ce_12⟩
theorem mt_498 : (Jvm.Cond.methodLink "GrindMillLaw" (40 : Nat) ({ cls := "GrindMill", name := "grind", desc := "(I)I" } : Jvm.MethodName)) ∈ tb := tb_of 498 (by decide +kernel) (by decide +kernel)
theorem mt_499 : (Jvm.Cond.instanceMethod ({ cls := "GrindMill", name := "grind", desc := "(I)I" } : Jvm.MethodName)) ∈ tb := tb_of 499 (by decide +kernel) (by decide +kernel)
theorem mt_500 : (Jvm.Cond.selects "GrindMill" ({ cls := "GrindMill", name := "grind", desc := "(I)I" } : Jvm.MethodName) ({ cls := "GrindMill", name := "grind", desc := "(I)I" } : Jvm.MethodName)) ∈ tb := tb_of 500 (by decide +kernel) (by decide +kernel)
theorem ve_L_40 : VE RL 40 yX11_grind 11 := ⟨mt_498, mt_499, mt_500, ce_11⟩
theorem mt_1026 : (Jvm.Cond.methodLink "GrindMillLaw" (43 : Nat) ({ cls := "GrindMillModel", name := "grind", desc := "(I)I" } : Jvm.MethodName)) ∈ tb := tb_of 1026 (by decide +kernel) (by decide +kernel)
theorem mt_1027 : (Jvm.Cond.instanceMethod ({ cls := "GrindMillModel", name := "grind", desc := "(I)I" } : Jvm.MethodName)) ∈ tb := tb_of 1027 (by decide +kernel) (by decide +kernel)
theorem mt_1028 : (Jvm.Cond.selects "GrindMillModel" ({ cls := "GrindMillModel", name := "grind", desc := "(I)I" } : Jvm.MethodName) ({ cls := "GrindMillModel", name := "grind", desc := "(I)I" } : Jvm.MethodName)) ∈ tb := tb_of 1028 (by decide +kernel) (by decide +kernel)
theorem ve_L_43 : VE RL 43 yX12_grind 12 := ⟨mt_1026, mt_1027, mt_1028, ce_12⟩
theorem mt_517 : (Jvm.Cond.methodLink "GrindMillLaw" (44 : Nat) ({ cls := "GrindMill", name := "hour", desc := "(I)I" } : Jvm.MethodName)) ∈ tb := tb_of 517 (by decide +kernel) (by decide +kernel)
theorem mt_518 : (Jvm.Cond.instanceMethod ({ cls := "GrindMill", name := "hour", desc := "(I)I" } : Jvm.MethodName)) ∈ tb := tb_of 518 (by decide +kernel) (by decide +kernel)
theorem mt_519 : (Jvm.Cond.selects "GrindMill" ({ cls := "GrindMill", name := "hour", desc := "(I)I" } : Jvm.MethodName) ({ cls := "GrindMill", name := "hour", desc := "(I)I" } : Jvm.MethodName)) ∈ tb := tb_of 519 (by decide +kernel) (by decide +kernel)
theorem ve_L_44 : VE RL 44 yX11_hour 11 := ⟨mt_517, mt_518, mt_519, ce_11⟩
theorem mt_1042 : (Jvm.Cond.methodLink "GrindMillLaw" (47 : Nat) ({ cls := "GrindMillModel", name := "hour", desc := "(I)I" } : Jvm.MethodName)) ∈ tb := tb_of 1042 (by decide +kernel) (by decide +kernel)
theorem mt_1043 : (Jvm.Cond.instanceMethod ({ cls := "GrindMillModel", name := "hour", desc := "(I)I" } : Jvm.MethodName)) ∈ tb := tb_of 1043 (by decide +kernel) (by decide +kernel)
theorem mt_1044 : (Jvm.Cond.selects "GrindMillModel" ({ cls := "GrindMillModel", name := "hour", desc := "(I)I" } : Jvm.MethodName) ({ cls := "GrindMillModel", name := "hour", desc := "(I)I" } : Jvm.MethodName)) ∈ tb := tb_of 1044 (by decide +kernel) (by decide +kernel)
theorem ve_L_47 : VE RL 47 yX12_hour 12 := ⟨mt_1042, mt_1043, mt_1044, ce_12⟩
theorem mt_560 : (Jvm.Cond.methodLink "GrindMillLaw" (48 : Nat) ({ cls := "GrindMill", name := "say", desc := "(I)I" } : Jvm.MethodName)) ∈ tb := tb_of 560 (by decide +kernel) (by decide +kernel)
theorem mt_561 : (Jvm.Cond.instanceMethod ({ cls := "GrindMill", name := "say", desc := "(I)I" } : Jvm.MethodName)) ∈ tb := tb_of 561 (by decide +kernel) (by decide +kernel)
theorem mt_562 : (Jvm.Cond.selects "GrindMill" ({ cls := "GrindMill", name := "say", desc := "(I)I" } : Jvm.MethodName) ({ cls := "GrindMill", name := "say", desc := "(I)I" } : Jvm.MethodName)) ∈ tb := tb_of 562 (by decide +kernel) (by decide +kernel)
theorem ve_L_48 : VE RL 48 yX11_say 11 := ⟨mt_560, mt_561, mt_562, ce_11⟩
theorem mt_1061 : (Jvm.Cond.methodLink "GrindMillLaw" (51 : Nat) ({ cls := "GrindMillModel", name := "say", desc := "(I)I" } : Jvm.MethodName)) ∈ tb := tb_of 1061 (by decide +kernel) (by decide +kernel)
theorem mt_1062 : (Jvm.Cond.instanceMethod ({ cls := "GrindMillModel", name := "say", desc := "(I)I" } : Jvm.MethodName)) ∈ tb := tb_of 1062 (by decide +kernel) (by decide +kernel)
theorem mt_1063 : (Jvm.Cond.selects "GrindMillModel" ({ cls := "GrindMillModel", name := "say", desc := "(I)I" } : Jvm.MethodName) ({ cls := "GrindMillModel", name := "say", desc := "(I)I" } : Jvm.MethodName)) ∈ tb := tb_of 1063 (by decide +kernel) (by decide +kernel)
theorem ve_L_51 : VE RL 51 yX12_say 12 := ⟨mt_1061, mt_1062, mt_1063, ce_12⟩
theorem mt_573 : (Jvm.Cond.methodLink "GrindMillLaw" (52 : Nat) ({ cls := "GrindMill", name := "sell", desc := "(II)I" } : Jvm.MethodName)) ∈ tb := tb_of 573 (by decide +kernel) (by decide +kernel)
theorem mt_574 : (Jvm.Cond.instanceMethod ({ cls := "GrindMill", name := "sell", desc := "(II)I" } : Jvm.MethodName)) ∈ tb := tb_of 574 (by decide +kernel) (by decide +kernel)
theorem mt_575 : (Jvm.Cond.selects "GrindMill" ({ cls := "GrindMill", name := "sell", desc := "(II)I" } : Jvm.MethodName) ({ cls := "GrindMill", name := "sell", desc := "(II)I" } : Jvm.MethodName)) ∈ tb := tb_of 575 (by decide +kernel) (by decide +kernel)
theorem ve_L_52 : VE RL 52 yX11_sell 11 := ⟨mt_573, mt_574, mt_575, ce_11⟩
theorem mt_1071 : (Jvm.Cond.methodLink "GrindMillLaw" (56 : Nat) ({ cls := "GrindMillModel", name := "sell", desc := "(II)I" } : Jvm.MethodName)) ∈ tb := tb_of 1071 (by decide +kernel) (by decide +kernel)
theorem mt_1072 : (Jvm.Cond.instanceMethod ({ cls := "GrindMillModel", name := "sell", desc := "(II)I" } : Jvm.MethodName)) ∈ tb := tb_of 1072 (by decide +kernel) (by decide +kernel)
theorem mt_1073 : (Jvm.Cond.selects "GrindMillModel" ({ cls := "GrindMillModel", name := "sell", desc := "(II)I" } : Jvm.MethodName) ({ cls := "GrindMillModel", name := "sell", desc := "(II)I" } : Jvm.MethodName)) ∈ tb := tb_of 1073 (by decide +kernel) (by decide +kernel)
theorem ve_L_56 : VE RL 56 yX12_sell 12 := ⟨mt_1071, mt_1072, mt_1073, ce_12⟩
theorem mt_609 : (Jvm.Cond.methodLink "GrindMillLaw" (57 : Nat) ({ cls := "GrindMill", name := "cold", desc := "(I)I" } : Jvm.MethodName)) ∈ tb := tb_of 609 (by decide +kernel) (by decide +kernel)
theorem mt_610 : (Jvm.Cond.instanceMethod ({ cls := "GrindMill", name := "cold", desc := "(I)I" } : Jvm.MethodName)) ∈ tb := tb_of 610 (by decide +kernel) (by decide +kernel)
theorem mt_611 : (Jvm.Cond.selects "GrindMill" ({ cls := "GrindMill", name := "cold", desc := "(I)I" } : Jvm.MethodName) ({ cls := "GrindMill", name := "cold", desc := "(I)I" } : Jvm.MethodName)) ∈ tb := tb_of 611 (by decide +kernel) (by decide +kernel)
theorem ve_L_57 : VE RL 57 yX11_cold 11 := ⟨mt_609, mt_610, mt_611, ce_11⟩
theorem mt_1079 : (Jvm.Cond.methodLink "GrindMillLaw" (60 : Nat) ({ cls := "GrindMillModel", name := "cold", desc := "(I)I" } : Jvm.MethodName)) ∈ tb := tb_of 1079 (by decide +kernel) (by decide +kernel)
theorem mt_1080 : (Jvm.Cond.instanceMethod ({ cls := "GrindMillModel", name := "cold", desc := "(I)I" } : Jvm.MethodName)) ∈ tb := tb_of 1080 (by decide +kernel) (by decide +kernel)
theorem mt_1081 : (Jvm.Cond.selects "GrindMillModel" ({ cls := "GrindMillModel", name := "cold", desc := "(I)I" } : Jvm.MethodName) ({ cls := "GrindMillModel", name := "cold", desc := "(I)I" } : Jvm.MethodName)) ∈ tb := tb_of 1081 (by decide +kernel) (by decide +kernel)
theorem ve_L_60 : VE RL 60 yX12_cold 12 := ⟨mt_1079, mt_1080, mt_1081, ce_12⟩
theorem mt_613 : (Jvm.Cond.methodLink "GrindMillLaw" (61 : Nat) ({ cls := "GrindMill", name := "undo", desc := "()I" } : Jvm.MethodName)) ∈ tb := tb_of 613 (by decide +kernel) (by decide +kernel)
theorem mt_614 : (Jvm.Cond.instanceMethod ({ cls := "GrindMill", name := "undo", desc := "()I" } : Jvm.MethodName)) ∈ tb := tb_of 614 (by decide +kernel) (by decide +kernel)
theorem mt_615 : (Jvm.Cond.selects "GrindMill" ({ cls := "GrindMill", name := "undo", desc := "()I" } : Jvm.MethodName) ({ cls := "GrindMill", name := "undo", desc := "()I" } : Jvm.MethodName)) ∈ tb := tb_of 615 (by decide +kernel) (by decide +kernel)
theorem ve_L_61 : VE RL 61 yX11_undo 11 := ⟨mt_613, mt_614, mt_615, ce_11⟩
theorem mt_1083 : (Jvm.Cond.methodLink "GrindMillLaw" (64 : Nat) ({ cls := "GrindMillModel", name := "undo", desc := "()I" } : Jvm.MethodName)) ∈ tb := tb_of 1083 (by decide +kernel) (by decide +kernel)
theorem mt_1084 : (Jvm.Cond.instanceMethod ({ cls := "GrindMillModel", name := "undo", desc := "()I" } : Jvm.MethodName)) ∈ tb := tb_of 1084 (by decide +kernel) (by decide +kernel)
theorem mt_1085 : (Jvm.Cond.selects "GrindMillModel" ({ cls := "GrindMillModel", name := "undo", desc := "()I" } : Jvm.MethodName) ({ cls := "GrindMillModel", name := "undo", desc := "()I" } : Jvm.MethodName)) ∈ tb := tb_of 1085 (by decide +kernel) (by decide +kernel)
theorem ve_L_64 : VE RL 64 yX12_undo 12 := ⟨mt_1083, mt_1084, mt_1085, ce_12⟩
theorem mt_621 : (Jvm.Cond.methodLink "GrindMillLaw" (65 : Nat) ({ cls := "GrindMill", name := "of", desc := "(II)I" } : Jvm.MethodName)) ∈ tb := tb_of 621 (by decide +kernel) (by decide +kernel)
theorem mt_622 : (Jvm.Cond.instanceMethod ({ cls := "GrindMill", name := "of", desc := "(II)I" } : Jvm.MethodName)) ∈ tb := tb_of 622 (by decide +kernel) (by decide +kernel)
theorem mt_623 : (Jvm.Cond.selects "GrindMill" ({ cls := "GrindMill", name := "of", desc := "(II)I" } : Jvm.MethodName) ({ cls := "GrindMill", name := "of", desc := "(II)I" } : Jvm.MethodName)) ∈ tb := tb_of 623 (by decide +kernel) (by decide +kernel)
theorem ve_L_65 : VE RL 65 yX11_of 11 := ⟨mt_621, mt_622, mt_623, ce_11⟩
theorem mt_1087 : (Jvm.Cond.methodLink "GrindMillLaw" (68 : Nat) ({ cls := "GrindMillModel", name := "of", desc := "(II)I" } : Jvm.MethodName)) ∈ tb := tb_of 1087 (by decide +kernel) (by decide +kernel)
theorem mt_1088 : (Jvm.Cond.instanceMethod ({ cls := "GrindMillModel", name := "of", desc := "(II)I" } : Jvm.MethodName)) ∈ tb := tb_of 1088 (by decide +kernel) (by decide +kernel)
theorem mt_1089 : (Jvm.Cond.selects "GrindMillModel" ({ cls := "GrindMillModel", name := "of", desc := "(II)I" } : Jvm.MethodName) ({ cls := "GrindMillModel", name := "of", desc := "(II)I" } : Jvm.MethodName)) ∈ tb := tb_of 1089 (by decide +kernel) (by decide +kernel)
theorem ve_L_68 : VE RL 68 yX12_of 12 := ⟨mt_1087, mt_1088, mt_1089, ce_12⟩
theorem mt_627 : (Jvm.Cond.methodLink "GrindMillLaw" (69 : Nat) ({ cls := "GrindMill", name := "grinds", desc := "()I" } : Jvm.MethodName)) ∈ tb := tb_of 627 (by decide +kernel) (by decide +kernel)
theorem mt_628 : (Jvm.Cond.instanceMethod ({ cls := "GrindMill", name := "grinds", desc := "()I" } : Jvm.MethodName)) ∈ tb := tb_of 628 (by decide +kernel) (by decide +kernel)
theorem mt_629 : (Jvm.Cond.selects "GrindMill" ({ cls := "GrindMill", name := "grinds", desc := "()I" } : Jvm.MethodName) ({ cls := "GrindMill", name := "grinds", desc := "()I" } : Jvm.MethodName)) ∈ tb := tb_of 629 (by decide +kernel) (by decide +kernel)
theorem ve_L_69 : VE RL 69 yX11_grinds 11 := ⟨mt_627, mt_628, mt_629, ce_11⟩
theorem mt_1091 : (Jvm.Cond.methodLink "GrindMillLaw" (72 : Nat) ({ cls := "GrindMillModel", name := "grinds", desc := "()I" } : Jvm.MethodName)) ∈ tb := tb_of 1091 (by decide +kernel) (by decide +kernel)
theorem mt_1092 : (Jvm.Cond.instanceMethod ({ cls := "GrindMillModel", name := "grinds", desc := "()I" } : Jvm.MethodName)) ∈ tb := tb_of 1092 (by decide +kernel) (by decide +kernel)
theorem mt_1093 : (Jvm.Cond.selects "GrindMillModel" ({ cls := "GrindMillModel", name := "grinds", desc := "()I" } : Jvm.MethodName) ({ cls := "GrindMillModel", name := "grinds", desc := "()I" } : Jvm.MethodName)) ∈ tb := tb_of 1093 (by decide +kernel) (by decide +kernel)
theorem ve_L_72 : VE RL 72 yX12_grinds 12 := ⟨mt_1091, mt_1092, mt_1093, ce_12⟩
theorem mt_631 : (Jvm.Cond.methodLink "GrindMillLaw" (73 : Nat) ({ cls := "GrindMill", name := "then", desc := "(II)I" } : Jvm.MethodName)) ∈ tb := tb_of 631 (by decide +kernel) (by decide +kernel)
theorem mt_632 : (Jvm.Cond.instanceMethod ({ cls := "GrindMill", name := "then", desc := "(II)I" } : Jvm.MethodName)) ∈ tb := tb_of 632 (by decide +kernel) (by decide +kernel)
theorem mt_633 : (Jvm.Cond.selects "GrindMill" ({ cls := "GrindMill", name := "then", desc := "(II)I" } : Jvm.MethodName) ({ cls := "GrindMill", name := "then", desc := "(II)I" } : Jvm.MethodName)) ∈ tb := tb_of 633 (by decide +kernel) (by decide +kernel)
theorem ve_L_73 : VE RL 73 yX11_then 11 := ⟨mt_631, mt_632, mt_633, ce_11⟩
theorem mt_1095 : (Jvm.Cond.methodLink "GrindMillLaw" (76 : Nat) ({ cls := "GrindMillModel", name := "then", desc := "(II)I" } : Jvm.MethodName)) ∈ tb := tb_of 1095 (by decide +kernel) (by decide +kernel)
theorem mt_1096 : (Jvm.Cond.instanceMethod ({ cls := "GrindMillModel", name := "then", desc := "(II)I" } : Jvm.MethodName)) ∈ tb := tb_of 1096 (by decide +kernel) (by decide +kernel)
theorem mt_1097 : (Jvm.Cond.selects "GrindMillModel" ({ cls := "GrindMillModel", name := "then", desc := "(II)I" } : Jvm.MethodName) ({ cls := "GrindMillModel", name := "then", desc := "(II)I" } : Jvm.MethodName)) ∈ tb := tb_of 1097 (by decide +kernel) (by decide +kernel)
theorem ve_L_76 : VE RL 76 yX12_then 12 := ⟨mt_1095, mt_1096, mt_1097, ce_12⟩
theorem mt_641 : (Jvm.Cond.methodLink "GrindMillLaw" (77 : Nat) ({ cls := "GrindMill", name := "full", desc := "()I" } : Jvm.MethodName)) ∈ tb := tb_of 641 (by decide +kernel) (by decide +kernel)
theorem mt_642 : (Jvm.Cond.instanceMethod ({ cls := "GrindMill", name := "full", desc := "()I" } : Jvm.MethodName)) ∈ tb := tb_of 642 (by decide +kernel) (by decide +kernel)
theorem mt_643 : (Jvm.Cond.selects "GrindMill" ({ cls := "GrindMill", name := "full", desc := "()I" } : Jvm.MethodName) ({ cls := "GrindMill", name := "full", desc := "()I" } : Jvm.MethodName)) ∈ tb := tb_of 643 (by decide +kernel) (by decide +kernel)
theorem ve_L_77 : VE RL 77 yX11_full 11 := ⟨mt_641, mt_642, mt_643, ce_11⟩
theorem mt_1103 : (Jvm.Cond.methodLink "GrindMillLaw" (80 : Nat) ({ cls := "GrindMillModel", name := "full", desc := "()I" } : Jvm.MethodName)) ∈ tb := tb_of 1103 (by decide +kernel) (by decide +kernel)
theorem mt_1104 : (Jvm.Cond.instanceMethod ({ cls := "GrindMillModel", name := "full", desc := "()I" } : Jvm.MethodName)) ∈ tb := tb_of 1104 (by decide +kernel) (by decide +kernel)
theorem mt_1105 : (Jvm.Cond.selects "GrindMillModel" ({ cls := "GrindMillModel", name := "full", desc := "()I" } : Jvm.MethodName) ({ cls := "GrindMillModel", name := "full", desc := "()I" } : Jvm.MethodName)) ∈ tb := tb_of 1105 (by decide +kernel) (by decide +kernel)
theorem ve_L_80 : VE RL 80 yX12_full 12 := ⟨mt_1103, mt_1104, mt_1105, ce_12⟩
theorem mt_646 : (Jvm.Cond.methodLink "GrindMillLaw" (81 : Nat) ({ cls := "GrindMill", name := "just", desc := "(II)I" } : Jvm.MethodName)) ∈ tb := tb_of 646 (by decide +kernel) (by decide +kernel)
theorem mt_647 : (Jvm.Cond.instanceMethod ({ cls := "GrindMill", name := "just", desc := "(II)I" } : Jvm.MethodName)) ∈ tb := tb_of 647 (by decide +kernel) (by decide +kernel)
theorem mt_648 : (Jvm.Cond.selects "GrindMill" ({ cls := "GrindMill", name := "just", desc := "(II)I" } : Jvm.MethodName) ({ cls := "GrindMill", name := "just", desc := "(II)I" } : Jvm.MethodName)) ∈ tb := tb_of 648 (by decide +kernel) (by decide +kernel)
theorem ve_L_81 : VE RL 81 yX11_just 11 := ⟨mt_646, mt_647, mt_648, ce_11⟩
theorem mt_1107 : (Jvm.Cond.methodLink "GrindMillLaw" (84 : Nat) ({ cls := "GrindMillModel", name := "just", desc := "(II)I" } : Jvm.MethodName)) ∈ tb := tb_of 1107 (by decide +kernel) (by decide +kernel)
theorem mt_1108 : (Jvm.Cond.instanceMethod ({ cls := "GrindMillModel", name := "just", desc := "(II)I" } : Jvm.MethodName)) ∈ tb := tb_of 1108 (by decide +kernel) (by decide +kernel)
theorem mt_1109 : (Jvm.Cond.selects "GrindMillModel" ({ cls := "GrindMillModel", name := "just", desc := "(II)I" } : Jvm.MethodName) ({ cls := "GrindMillModel", name := "just", desc := "(II)I" } : Jvm.MethodName)) ∈ tb := tb_of 1109 (by decide +kernel) (by decide +kernel)
theorem ve_L_84 : VE RL 84 yX12_just 12 := ⟨mt_1107, mt_1108, mt_1109, ce_12⟩
theorem mt_668 : (Jvm.Cond.methodLink "GrindMillLaw" (85 : Nat) ({ cls := "GrindMill", name := "best", desc := "(II)I" } : Jvm.MethodName)) ∈ tb := tb_of 668 (by decide +kernel) (by decide +kernel)
theorem mt_669 : (Jvm.Cond.instanceMethod ({ cls := "GrindMill", name := "best", desc := "(II)I" } : Jvm.MethodName)) ∈ tb := tb_of 669 (by decide +kernel) (by decide +kernel)
theorem mt_670 : (Jvm.Cond.selects "GrindMill" ({ cls := "GrindMill", name := "best", desc := "(II)I" } : Jvm.MethodName) ({ cls := "GrindMill", name := "best", desc := "(II)I" } : Jvm.MethodName)) ∈ tb := tb_of 670 (by decide +kernel) (by decide +kernel)
theorem ve_L_85 : VE RL 85 yX11_best 11 := ⟨mt_668, mt_669, mt_670, ce_11⟩
theorem mt_1115 : (Jvm.Cond.methodLink "GrindMillLaw" (88 : Nat) ({ cls := "GrindMillModel", name := "best", desc := "(II)I" } : Jvm.MethodName)) ∈ tb := tb_of 1115 (by decide +kernel) (by decide +kernel)
theorem mt_1116 : (Jvm.Cond.instanceMethod ({ cls := "GrindMillModel", name := "best", desc := "(II)I" } : Jvm.MethodName)) ∈ tb := tb_of 1116 (by decide +kernel) (by decide +kernel)
theorem mt_1117 : (Jvm.Cond.selects "GrindMillModel" ({ cls := "GrindMillModel", name := "best", desc := "(II)I" } : Jvm.MethodName) ({ cls := "GrindMillModel", name := "best", desc := "(II)I" } : Jvm.MethodName)) ∈ tb := tb_of 1117 (by decide +kernel) (by decide +kernel)
theorem ve_L_88 : VE RL 88 yX12_best 12 := ⟨mt_1115, mt_1116, mt_1117, ce_12⟩
theorem mt_688 : (Jvm.Cond.methodLink "GrindMillLaw" (89 : Nat) ({ cls := "GrindMill", name := "ship", desc := "(II)I" } : Jvm.MethodName)) ∈ tb := tb_of 688 (by decide +kernel) (by decide +kernel)
theorem mt_689 : (Jvm.Cond.instanceMethod ({ cls := "GrindMill", name := "ship", desc := "(II)I" } : Jvm.MethodName)) ∈ tb := tb_of 689 (by decide +kernel) (by decide +kernel)
theorem mt_690 : (Jvm.Cond.selects "GrindMill" ({ cls := "GrindMill", name := "ship", desc := "(II)I" } : Jvm.MethodName) ({ cls := "GrindMill", name := "ship", desc := "(II)I" } : Jvm.MethodName)) ∈ tb := tb_of 690 (by decide +kernel) (by decide +kernel)
theorem ve_L_89 : VE RL 89 yX11_ship 11 := ⟨mt_688, mt_689, mt_690, ce_11⟩
theorem mt_1127 : (Jvm.Cond.methodLink "GrindMillLaw" (92 : Nat) ({ cls := "GrindMillModel", name := "ship", desc := "(II)I" } : Jvm.MethodName)) ∈ tb := tb_of 1127 (by decide +kernel) (by decide +kernel)
theorem mt_1128 : (Jvm.Cond.instanceMethod ({ cls := "GrindMillModel", name := "ship", desc := "(II)I" } : Jvm.MethodName)) ∈ tb := tb_of 1128 (by decide +kernel) (by decide +kernel)
theorem mt_1129 : (Jvm.Cond.selects "GrindMillModel" ({ cls := "GrindMillModel", name := "ship", desc := "(II)I" } : Jvm.MethodName) ({ cls := "GrindMillModel", name := "ship", desc := "(II)I" } : Jvm.MethodName)) ∈ tb := tb_of 1129 (by decide +kernel) (by decide +kernel)
theorem ve_L_92 : VE RL 92 yX12_ship 12 := ⟨mt_1127, mt_1128, mt_1129, ce_12⟩
theorem mt_692 : (Jvm.Cond.methodLink "GrindMillLaw" (93 : Nat) ({ cls := "GrindMill", name := "guess", desc := "(II)I" } : Jvm.MethodName)) ∈ tb := tb_of 692 (by decide +kernel) (by decide +kernel)
theorem mt_693 : (Jvm.Cond.instanceMethod ({ cls := "GrindMill", name := "guess", desc := "(II)I" } : Jvm.MethodName)) ∈ tb := tb_of 693 (by decide +kernel) (by decide +kernel)
theorem mt_694 : (Jvm.Cond.selects "GrindMill" ({ cls := "GrindMill", name := "guess", desc := "(II)I" } : Jvm.MethodName) ({ cls := "GrindMill", name := "guess", desc := "(II)I" } : Jvm.MethodName)) ∈ tb := tb_of 694 (by decide +kernel) (by decide +kernel)
theorem ve_L_93 : VE RL 93 yX11_guess 11 := ⟨mt_692, mt_693, mt_694, ce_11⟩
theorem mt_1131 : (Jvm.Cond.methodLink "GrindMillLaw" (96 : Nat) ({ cls := "GrindMillModel", name := "guess", desc := "(II)I" } : Jvm.MethodName)) ∈ tb := tb_of 1131 (by decide +kernel) (by decide +kernel)
theorem mt_1132 : (Jvm.Cond.instanceMethod ({ cls := "GrindMillModel", name := "guess", desc := "(II)I" } : Jvm.MethodName)) ∈ tb := tb_of 1132 (by decide +kernel) (by decide +kernel)
theorem mt_1133 : (Jvm.Cond.selects "GrindMillModel" ({ cls := "GrindMillModel", name := "guess", desc := "(II)I" } : Jvm.MethodName) ({ cls := "GrindMillModel", name := "guess", desc := "(II)I" } : Jvm.MethodName)) ∈ tb := tb_of 1133 (by decide +kernel) (by decide +kernel)
theorem ve_L_96 : VE RL 96 yX12_guess 12 := ⟨mt_1131, mt_1132, mt_1133, ce_12⟩
theorem mt_700 : (Jvm.Cond.methodLink "GrindMillLaw" (97 : Nat) ({ cls := "GrindMill", name := "words", desc := "(I)I" } : Jvm.MethodName)) ∈ tb := tb_of 700 (by decide +kernel) (by decide +kernel)
theorem mt_701 : (Jvm.Cond.instanceMethod ({ cls := "GrindMill", name := "words", desc := "(I)I" } : Jvm.MethodName)) ∈ tb := tb_of 701 (by decide +kernel) (by decide +kernel)
theorem mt_702 : (Jvm.Cond.selects "GrindMill" ({ cls := "GrindMill", name := "words", desc := "(I)I" } : Jvm.MethodName) ({ cls := "GrindMill", name := "words", desc := "(I)I" } : Jvm.MethodName)) ∈ tb := tb_of 702 (by decide +kernel) (by decide +kernel)
theorem ve_L_97 : VE RL 97 yX11_words 11 := ⟨mt_700, mt_701, mt_702, ce_11⟩
theorem mt_671 : (Jvm.Cond.code ({ cls := "GrindMill", name := "best", desc := "(II)I" } : Jvm.MethodName) prog_1_method_19_code (4 : Nat) (Option.some Jvm.ClassFile.FieldType.int)) ∈ tb := tb_of 671 (by decide +kernel) (by decide +kernel)
theorem ye_X11_best : YE yX11_best cX11_best 4 (some .int) 2 := ⟨mt_671, mt_59, by decide +kernel, by decide +kernel, by decide +kernel⟩
theorem mt_394 : (Jvm.Cond.code ({ cls := "GrindMill", name := "clear", desc := "()I" } : Jvm.MethodName) prog_1_method_6_code (2 : Nat) (Option.some Jvm.ClassFile.FieldType.int)) ∈ tb := tb_of 394 (by decide +kernel) (by decide +kernel)
theorem ye_X11_clear : YE yX11_clear cX11_clear 2 (some .int) 0 := ⟨mt_394, mt_59, by decide +kernel, by decide +kernel, by decide +kernel⟩
theorem mt_612 : (Jvm.Cond.code ({ cls := "GrindMill", name := "cold", desc := "(I)I" } : Jvm.MethodName) prog_1_method_12_code (3 : Nat) (Option.some Jvm.ClassFile.FieldType.int)) ∈ tb := tb_of 612 (by decide +kernel) (by decide +kernel)
theorem ye_X11_cold : YE yX11_cold cX11_cold 3 (some .int) 1 := ⟨mt_612, mt_59, by decide +kernel, by decide +kernel, by decide +kernel⟩
theorem mt_855 : (Jvm.Cond.code ({ cls := "GrindMill", name := "count", desc := "(I)I" } : Jvm.MethodName) prog_1_method_35_code (2 : Nat) (Option.some Jvm.ClassFile.FieldType.int)) ∈ tb := tb_of 855 (by decide +kernel) (by decide +kernel)
theorem ye_X11_count : YE yX11_count cX11_count 2 (some .int) 1 := ⟨mt_855, mt_59, by decide +kernel, by decide +kernel, by decide +kernel⟩
theorem mt_863 : (Jvm.Cond.code ({ cls := "GrindMill", name := "digest", desc := "()J" } : Jvm.MethodName) prog_1_method_36_code (4 : Nat) (Option.some Jvm.ClassFile.FieldType.long)) ∈ tb := tb_of 863 (by decide +kernel) (by decide +kernel)
theorem ye_X11_digest : YE yX11_digest cX11_digest 4 (some .long) 0 := ⟨mt_863, mt_59, by decide +kernel, by decide +kernel, by decide +kernel⟩
theorem mt_766 : (Jvm.Cond.code ({ cls := "GrindMill", name := "forget", desc := "(I)I" } : Jvm.MethodName) prog_1_method_26_code (3 : Nat) (Option.some Jvm.ClassFile.FieldType.int)) ∈ tb := tb_of 766 (by decide +kernel) (by decide +kernel)
theorem ye_X11_forget : YE yX11_forget cX11_forget 3 (some .int) 1 := ⟨mt_766, mt_59, by decide +kernel, by decide +kernel, by decide +kernel⟩
theorem mt_847 : (Jvm.Cond.code ({ cls := "GrindMill", name := "from", desc := "(I)I" } : Jvm.MethodName) prog_1_method_33_code (2 : Nat) (Option.some Jvm.ClassFile.FieldType.int)) ∈ tb := tb_of 847 (by decide +kernel) (by decide +kernel)
theorem ye_X11_from : YE yX11_from cX11_from 2 (some .int) 1 := ⟨mt_847, mt_59, by decide +kernel, by decide +kernel, by decide +kernel⟩
theorem mt_644 : (Jvm.Cond.code ({ cls := "GrindMill", name := "full", desc := "()I" } : Jvm.MethodName) prog_1_method_17_code (3 : Nat) (Option.some Jvm.ClassFile.FieldType.int)) ∈ tb := tb_of 644 (by decide +kernel) (by decide +kernel)
theorem ye_X11_full : YE yX11_full cX11_full 3 (some .int) 0 := ⟨mt_644, mt_59, by decide +kernel, by decide +kernel, by decide +kernel⟩
theorem mt_367 : (Jvm.Cond.code ({ cls := "GrindMill", name := "goods", desc := "(III)I" } : Jvm.MethodName) prog_1_method_3_code (4 : Nat) (Option.some Jvm.ClassFile.FieldType.int)) ∈ tb := tb_of 367 (by decide +kernel) (by decide +kernel)
theorem ye_X11_goods : YE yX11_goods cX11_goods 4 (some .int) 3 := ⟨mt_367, mt_59, by decide +kernel, by decide +kernel, by decide +kernel⟩
theorem mt_501 : (Jvm.Cond.code ({ cls := "GrindMill", name := "grind", desc := "(I)I" } : Jvm.MethodName) prog_1_method_8_code (3 : Nat) (Option.some Jvm.ClassFile.FieldType.int)) ∈ tb := tb_of 501 (by decide +kernel) (by decide +kernel)
theorem ye_X11_grind : YE yX11_grind cX11_grind 3 (some .int) 1 := ⟨mt_501, mt_59, by decide +kernel, by decide +kernel, by decide +kernel⟩
theorem mt_630 : (Jvm.Cond.code ({ cls := "GrindMill", name := "grinds", desc := "()I" } : Jvm.MethodName) prog_1_method_15_code (1 : Nat) (Option.some Jvm.ClassFile.FieldType.int)) ∈ tb := tb_of 630 (by decide +kernel) (by decide +kernel)
theorem ye_X11_grinds : YE yX11_grinds cX11_grinds 1 (some .int) 0 := ⟨mt_630, mt_59, by decide +kernel, by decide +kernel, by decide +kernel⟩
theorem mt_695 : (Jvm.Cond.code ({ cls := "GrindMill", name := "guess", desc := "(II)I" } : Jvm.MethodName) prog_1_method_21_code (3 : Nat) (Option.some Jvm.ClassFile.FieldType.int)) ∈ tb := tb_of 695 (by decide +kernel) (by decide +kernel)
theorem ye_X11_guess : YE yX11_guess cX11_guess 3 (some .int) 2 := ⟨mt_695, mt_59, by decide +kernel, by decide +kernel, by decide +kernel⟩
theorem mt_520 : (Jvm.Cond.code ({ cls := "GrindMill", name := "hour", desc := "(I)I" } : Jvm.MethodName) prog_1_method_9_code (4 : Nat) (Option.some Jvm.ClassFile.FieldType.int)) ∈ tb := tb_of 520 (by decide +kernel) (by decide +kernel)
theorem ye_X11_hour : YE yX11_hour cX11_hour 4 (some .int) 1 := ⟨mt_520, mt_59, by decide +kernel, by decide +kernel, by decide +kernel⟩
theorem mt_829 : (Jvm.Cond.code ({ cls := "GrindMill", name := "image", desc := "(I)I" } : Jvm.MethodName) prog_1_method_32_code (2 : Nat) (Option.some Jvm.ClassFile.FieldType.int)) ∈ tb := tb_of 829 (by decide +kernel) (by decide +kernel)
theorem ye_X11_image : YE yX11_image cX11_image 2 (some .int) 1 := ⟨mt_829, mt_59, by decide +kernel, by decide +kernel, by decide +kernel⟩
theorem mt_83 : (Jvm.Cond.code ({ cls := "GrindMill", name := "<init>", desc := "()V" } : Jvm.MethodName) prog_1_method_1_code (2 : Nat) (Option.none : Option Jvm.ClassFile.FieldType)) ∈ tb := tb_of 83 (by decide +kernel) (by decide +kernel)
theorem ye_X11_init : YE yX11_init cX11_init 2 none 0 := ⟨mt_83, mt_59, by decide +kernel, by decide +kernel, by decide +kernel⟩
theorem mt_770 : (Jvm.Cond.code ({ cls := "GrindMill", name := "is", desc := "(II)I" } : Jvm.MethodName) prog_1_method_27_code (4 : Nat) (Option.some Jvm.ClassFile.FieldType.int)) ∈ tb := tb_of 770 (by decide +kernel) (by decide +kernel)
theorem ye_X11_is : YE yX11_is cX11_is 4 (some .int) 2 := ⟨mt_770, mt_59, by decide +kernel, by decide +kernel, by decide +kernel⟩
theorem mt_649 : (Jvm.Cond.code ({ cls := "GrindMill", name := "just", desc := "(II)I" } : Jvm.MethodName) prog_1_method_18_code (4 : Nat) (Option.some Jvm.ClassFile.FieldType.int)) ∈ tb := tb_of 649 (by decide +kernel) (by decide +kernel)
theorem ye_X11_just : YE yX11_just cX11_just 4 (some .int) 2 := ⟨mt_649, mt_59, by decide +kernel, by decide +kernel, by decide +kernel⟩
theorem mt_787 : (Jvm.Cond.code ({ cls := "GrindMill", name := "look", desc := "(I)I" } : Jvm.MethodName) prog_1_method_28_code (2 : Nat) (Option.some Jvm.ClassFile.FieldType.int)) ∈ tb := tb_of 787 (by decide +kernel) (by decide +kernel)
theorem ye_X11_look : YE yX11_look cX11_look 2 (some .int) 1 := ⟨mt_787, mt_59, by decide +kernel, by decide +kernel, by decide +kernel⟩
theorem mt_355 : (Jvm.Cond.code ({ cls := "GrindMill", name := "mill", desc := "(I)I" } : Jvm.MethodName) prog_1_method_2_code (3 : Nat) (Option.some Jvm.ClassFile.FieldType.int)) ∈ tb := tb_of 355 (by decide +kernel) (by decide +kernel)
theorem ye_X11_mill : YE yX11_mill cX11_mill 3 (some .int) 1 := ⟨mt_355, mt_59, by decide +kernel, by decide +kernel, by decide +kernel⟩
theorem mt_815 : (Jvm.Cond.code ({ cls := "GrindMill", name := "mills", desc := "(II)I" } : Jvm.MethodName) prog_1_method_30_code (7 : Nat) (Option.some Jvm.ClassFile.FieldType.int)) ∈ tb := tb_of 815 (by decide +kernel) (by decide +kernel)
theorem ye_X11_mills : YE yX11_mills cX11_mills 7 (some .int) 2 := ⟨mt_815, mt_59, by decide +kernel, by decide +kernel, by decide +kernel⟩
theorem mt_719 : (Jvm.Cond.code ({ cls := "GrindMill", name := "nextGuess", desc := "()I" } : Jvm.MethodName) prog_1_method_23_code (1 : Nat) (Option.some Jvm.ClassFile.FieldType.int)) ∈ tb := tb_of 719 (by decide +kernel) (by decide +kernel)
theorem ye_X11_nextGuess : YE yX11_nextGuess cX11_nextGuess 1 (some .int) 0 := ⟨mt_719, mt_59, by decide +kernel, by decide +kernel, by decide +kernel⟩
theorem mt_758 : (Jvm.Cond.code ({ cls := "GrindMill", name := "note", desc := "(IIII)I" } : Jvm.MethodName) prog_1_method_25_code (5 : Nat) (Option.some Jvm.ClassFile.FieldType.int)) ∈ tb := tb_of 758 (by decide +kernel) (by decide +kernel)
theorem ye_X11_note : YE yX11_note cX11_note 5 (some .int) 4 := ⟨mt_758, mt_59, by decide +kernel, by decide +kernel, by decide +kernel⟩
theorem mt_624 : (Jvm.Cond.code ({ cls := "GrindMill", name := "of", desc := "(II)I" } : Jvm.MethodName) prog_1_method_14_code (4 : Nat) (Option.some Jvm.ClassFile.FieldType.int)) ∈ tb := tb_of 624 (by decide +kernel) (by decide +kernel)
theorem ye_X11_of : YE yX11_of cX11_of 4 (some .int) 2 := ⟨mt_624, mt_59, by decide +kernel, by decide +kernel, by decide +kernel⟩
theorem mt_825 : (Jvm.Cond.code ({ cls := "GrindMill", name := "part", desc := "(I)J" } : Jvm.MethodName) prog_1_method_31_code (2 : Nat) (Option.some Jvm.ClassFile.FieldType.long)) ∈ tb := tb_of 825 (by decide +kernel) (by decide +kernel)
theorem ye_X11_part : YE yX11_part cX11_part 2 (some .long) 1 := ⟨mt_825, mt_59, by decide +kernel, by decide +kernel, by decide +kernel⟩
theorem mt_398 : (Jvm.Cond.code ({ cls := "GrindMill", name := "read", desc := "()I" } : Jvm.MethodName) prog_1_method_7_code (3 : Nat) (Option.some Jvm.ClassFile.FieldType.int)) ∈ tb := tb_of 398 (by decide +kernel) (by decide +kernel)
theorem ye_X11_read : YE yX11_read cX11_read 3 (some .int) 0 := ⟨mt_398, mt_59, by decide +kernel, by decide +kernel, by decide +kernel⟩
theorem mt_563 : (Jvm.Cond.code ({ cls := "GrindMill", name := "say", desc := "(I)I" } : Jvm.MethodName) prog_1_method_10_code (3 : Nat) (Option.some Jvm.ClassFile.FieldType.int)) ∈ tb := tb_of 563 (by decide +kernel) (by decide +kernel)
theorem ye_X11_say : YE yX11_say cX11_say 3 (some .int) 1 := ⟨mt_563, mt_59, by decide +kernel, by decide +kernel, by decide +kernel⟩
theorem mt_576 : (Jvm.Cond.code ({ cls := "GrindMill", name := "sell", desc := "(II)I" } : Jvm.MethodName) prog_1_method_11_code (4 : Nat) (Option.some Jvm.ClassFile.FieldType.int)) ∈ tb := tb_of 576 (by decide +kernel) (by decide +kernel)
theorem ye_X11_sell : YE yX11_sell cX11_sell 4 (some .int) 2 := ⟨mt_576, mt_59, by decide +kernel, by decide +kernel, by decide +kernel⟩
theorem mt_691 : (Jvm.Cond.code ({ cls := "GrindMill", name := "ship", desc := "(II)I" } : Jvm.MethodName) prog_1_method_20_code (5 : Nat) (Option.some Jvm.ClassFile.FieldType.int)) ∈ tb := tb_of 691 (by decide +kernel) (by decide +kernel)
theorem ye_X11_ship : YE yX11_ship cX11_ship 5 (some .int) 2 := ⟨mt_691, mt_59, by decide +kernel, by decide +kernel, by decide +kernel⟩
theorem mt_851 : (Jvm.Cond.code ({ cls := "GrindMill", name := "status", desc := "(I)I" } : Jvm.MethodName) prog_1_method_34_code (2 : Nat) (Option.some Jvm.ClassFile.FieldType.int)) ∈ tb := tb_of 851 (by decide +kernel) (by decide +kernel)
theorem ye_X11_status : YE yX11_status cX11_status 2 (some .int) 1 := ⟨mt_851, mt_59, by decide +kernel, by decide +kernel, by decide +kernel⟩
theorem mt_733 : (Jvm.Cond.code ({ cls := "GrindMill", name := "street", desc := "(II)I" } : Jvm.MethodName) prog_1_method_24_code (3 : Nat) (Option.some Jvm.ClassFile.FieldType.int)) ∈ tb := tb_of 733 (by decide +kernel) (by decide +kernel)
theorem ye_X11_street : YE yX11_street cX11_street 3 (some .int) 2 := ⟨mt_733, mt_59, by decide +kernel, by decide +kernel, by decide +kernel⟩
theorem mt_634 : (Jvm.Cond.code ({ cls := "GrindMill", name := "then", desc := "(II)I" } : Jvm.MethodName) prog_1_method_16_code (6 : Nat) (Option.some Jvm.ClassFile.FieldType.int)) ∈ tb := tb_of 634 (by decide +kernel) (by decide +kernel)
theorem ye_X11_then : YE yX11_then cX11_then 6 (some .int) 2 := ⟨mt_634, mt_59, by decide +kernel, by decide +kernel, by decide +kernel⟩
theorem mt_804 : (Jvm.Cond.code ({ cls := "GrindMill", name := "thieves", desc := "(III)I" } : Jvm.MethodName) prog_1_method_29_code (12 : Nat) (Option.some Jvm.ClassFile.FieldType.int)) ∈ tb := tb_of 804 (by decide +kernel) (by decide +kernel)
theorem ye_X11_thieves : YE yX11_thieves cX11_thieves 12 (some .int) 3 := ⟨mt_804, mt_59, by decide +kernel, by decide +kernel, by decide +kernel⟩
theorem mt_386 : (Jvm.Cond.code ({ cls := "GrindMill", name := "type", desc := "(I)I" } : Jvm.MethodName) prog_1_method_5_code (2 : Nat) (Option.some Jvm.ClassFile.FieldType.int)) ∈ tb := tb_of 386 (by decide +kernel) (by decide +kernel)
theorem ye_X11_type : YE yX11_type cX11_type 2 (some .int) 1 := ⟨mt_386, mt_59, by decide +kernel, by decide +kernel, by decide +kernel⟩
theorem mt_616 : (Jvm.Cond.code ({ cls := "GrindMill", name := "undo", desc := "()I" } : Jvm.MethodName) prog_1_method_13_code (1 : Nat) (Option.some Jvm.ClassFile.FieldType.int)) ∈ tb := tb_of 616 (by decide +kernel) (by decide +kernel)
theorem ye_X11_undo : YE yX11_undo cX11_undo 1 (some .int) 0 := ⟨mt_616, mt_59, by decide +kernel, by decide +kernel, by decide +kernel⟩
theorem mt_379 : (Jvm.Cond.code ({ cls := "GrindMill", name := "word", desc := "(I)I" } : Jvm.MethodName) prog_1_method_4_code (2 : Nat) (Option.some Jvm.ClassFile.FieldType.int)) ∈ tb := tb_of 379 (by decide +kernel) (by decide +kernel)
theorem ye_X11_word : YE yX11_word cX11_word 2 (some .int) 1 := ⟨mt_379, mt_59, by decide +kernel, by decide +kernel, by decide +kernel⟩
theorem mt_703 : (Jvm.Cond.code ({ cls := "GrindMill", name := "words", desc := "(I)I" } : Jvm.MethodName) prog_1_method_22_code (3 : Nat) (Option.some Jvm.ClassFile.FieldType.int)) ∈ tb := tb_of 703 (by decide +kernel) (by decide +kernel)
theorem ye_X11_words : YE yX11_words cX11_words 3 (some .int) 1 := ⟨mt_703, mt_59, by decide +kernel, by decide +kernel, by decide +kernel⟩
theorem mt_1118 : (Jvm.Cond.code ({ cls := "GrindMillModel", name := "best", desc := "(II)I" } : Jvm.MethodName) prog_14_method_46_code (6 : Nat) (Option.some Jvm.ClassFile.FieldType.int)) ∈ tb := tb_of 1118 (by decide +kernel) (by decide +kernel)
theorem ye_X12_best : YE yX12_best cX12_best 6 (some .int) 2 := ⟨mt_1118, mt_71, by decide +kernel, by decide +kernel, by decide +kernel⟩
theorem mt_985 : (Jvm.Cond.code ({ cls := "GrindMillModel", name := "clear", desc := "()I" } : Jvm.MethodName) prog_14_method_11_code (2 : Nat) (Option.some Jvm.ClassFile.FieldType.int)) ∈ tb := tb_of 985 (by decide +kernel) (by decide +kernel)
theorem ye_X12_clear : YE yX12_clear cX12_clear 2 (some .int) 0 := ⟨mt_985, mt_71, by decide +kernel, by decide +kernel, by decide +kernel⟩
theorem mt_1082 : (Jvm.Cond.code ({ cls := "GrindMillModel", name := "cold", desc := "(I)I" } : Jvm.MethodName) prog_14_method_35_code (3 : Nat) (Option.some Jvm.ClassFile.FieldType.int)) ∈ tb := tb_of 1082 (by decide +kernel) (by decide +kernel)
theorem ye_X12_cold : YE yX12_cold cX12_cold 3 (some .int) 1 := ⟨mt_1082, mt_71, by decide +kernel, by decide +kernel, by decide +kernel⟩
theorem mt_1229 : (Jvm.Cond.code ({ cls := "GrindMillModel", name := "count", desc := "(I)I" } : Jvm.MethodName) prog_14_method_71_code (2 : Nat) (Option.some Jvm.ClassFile.FieldType.int)) ∈ tb := tb_of 1229 (by decide +kernel) (by decide +kernel)
theorem ye_X12_count : YE yX12_count cX12_count 2 (some .int) 1 := ⟨mt_1229, mt_71, by decide +kernel, by decide +kernel, by decide +kernel⟩
theorem mt_1237 : (Jvm.Cond.code ({ cls := "GrindMillModel", name := "digest", desc := "()J" } : Jvm.MethodName) prog_14_method_72_code (4 : Nat) (Option.some Jvm.ClassFile.FieldType.long)) ∈ tb := tb_of 1237 (by decide +kernel) (by decide +kernel)
theorem ye_X12_digest : YE yX12_digest cX12_digest 4 (some .long) 0 := ⟨mt_1237, mt_71, by decide +kernel, by decide +kernel, by decide +kernel⟩
theorem mt_1170 : (Jvm.Cond.code ({ cls := "GrindMillModel", name := "forget", desc := "(I)I" } : Jvm.MethodName) prog_14_method_57_code (4 : Nat) (Option.some Jvm.ClassFile.FieldType.int)) ∈ tb := tb_of 1170 (by decide +kernel) (by decide +kernel)
theorem ye_X12_forget : YE yX12_forget cX12_forget 4 (some .int) 1 := ⟨mt_1170, mt_71, by decide +kernel, by decide +kernel, by decide +kernel⟩
theorem mt_1221 : (Jvm.Cond.code ({ cls := "GrindMillModel", name := "from", desc := "(I)I" } : Jvm.MethodName) prog_14_method_68_code (3 : Nat) (Option.some Jvm.ClassFile.FieldType.int)) ∈ tb := tb_of 1221 (by decide +kernel) (by decide +kernel)
theorem ye_X12_from : YE yX12_from cX12_from 3 (some .int) 1 := ⟨mt_1221, mt_71, by decide +kernel, by decide +kernel, by decide +kernel⟩
theorem mt_1106 : (Jvm.Cond.code ({ cls := "GrindMillModel", name := "full", desc := "()I" } : Jvm.MethodName) prog_14_method_41_code (2 : Nat) (Option.some Jvm.ClassFile.FieldType.int)) ∈ tb := tb_of 1106 (by decide +kernel) (by decide +kernel)
theorem ye_X12_full : YE yX12_full cX12_full 2 (some .int) 0 := ⟨mt_1106, mt_71, by decide +kernel, by decide +kernel, by decide +kernel⟩
theorem mt_969 : (Jvm.Cond.code ({ cls := "GrindMillModel", name := "goods", desc := "(III)I" } : Jvm.MethodName) prog_14_method_8_code (4 : Nat) (Option.some Jvm.ClassFile.FieldType.int)) ∈ tb := tb_of 969 (by decide +kernel) (by decide +kernel)
theorem ye_X12_goods : YE yX12_goods cX12_goods 4 (some .int) 3 := ⟨mt_969, mt_71, by decide +kernel, by decide +kernel, by decide +kernel⟩
theorem mt_1029 : (Jvm.Cond.code ({ cls := "GrindMillModel", name := "grind", desc := "(I)I" } : Jvm.MethodName) prog_14_method_30_code (3 : Nat) (Option.some Jvm.ClassFile.FieldType.int)) ∈ tb := tb_of 1029 (by decide +kernel) (by decide +kernel)
theorem ye_X12_grind : YE yX12_grind cX12_grind 3 (some .int) 1 := ⟨mt_1029, mt_71, by decide +kernel, by decide +kernel, by decide +kernel⟩
theorem mt_1094 : (Jvm.Cond.code ({ cls := "GrindMillModel", name := "grinds", desc := "()I" } : Jvm.MethodName) prog_14_method_38_code (1 : Nat) (Option.some Jvm.ClassFile.FieldType.int)) ∈ tb := tb_of 1094 (by decide +kernel) (by decide +kernel)
theorem ye_X12_grinds : YE yX12_grinds cX12_grinds 1 (some .int) 0 := ⟨mt_1094, mt_71, by decide +kernel, by decide +kernel, by decide +kernel⟩
theorem mt_1134 : (Jvm.Cond.code ({ cls := "GrindMillModel", name := "guess", desc := "(II)I" } : Jvm.MethodName) prog_14_method_48_code (3 : Nat) (Option.some Jvm.ClassFile.FieldType.int)) ∈ tb := tb_of 1134 (by decide +kernel) (by decide +kernel)
theorem ye_X12_guess : YE yX12_guess cX12_guess 3 (some .int) 2 := ⟨mt_1134, mt_71, by decide +kernel, by decide +kernel, by decide +kernel⟩
theorem mt_1045 : (Jvm.Cond.code ({ cls := "GrindMillModel", name := "hour", desc := "(I)I" } : Jvm.MethodName) prog_14_method_31_code (4 : Nat) (Option.some Jvm.ClassFile.FieldType.int)) ∈ tb := tb_of 1045 (by decide +kernel) (by decide +kernel)
theorem ye_X12_hour : YE yX12_hour cX12_hour 4 (some .int) 1 := ⟨mt_1045, mt_71, by decide +kernel, by decide +kernel, by decide +kernel⟩
theorem mt_1217 : (Jvm.Cond.code ({ cls := "GrindMillModel", name := "image", desc := "(I)I" } : Jvm.MethodName) prog_14_method_67_code (3 : Nat) (Option.some Jvm.ClassFile.FieldType.int)) ∈ tb := tb_of 1217 (by decide +kernel) (by decide +kernel)
theorem ye_X12_image : YE yX12_image cX12_image 3 (some .int) 1 := ⟨mt_1217, mt_71, by decide +kernel, by decide +kernel, by decide +kernel⟩
theorem mt_885 : (Jvm.Cond.code ({ cls := "GrindMillModel", name := "<init>", desc := "()V" } : Jvm.MethodName) prog_14_method_1_code (1 : Nat) (Option.none : Option Jvm.ClassFile.FieldType)) ∈ tb := tb_of 885 (by decide +kernel) (by decide +kernel)
theorem ye_X12_init : YE yX12_init cX12_init 1 none 0 := ⟨mt_885, mt_71, by decide +kernel, by decide +kernel, by decide +kernel⟩
theorem mt_1174 : (Jvm.Cond.code ({ cls := "GrindMillModel", name := "is", desc := "(II)I" } : Jvm.MethodName) prog_14_method_60_code (5 : Nat) (Option.some Jvm.ClassFile.FieldType.int)) ∈ tb := tb_of 1174 (by decide +kernel) (by decide +kernel)
theorem ye_X12_is : YE yX12_is cX12_is 5 (some .int) 2 := ⟨mt_1174, mt_71, by decide +kernel, by decide +kernel, by decide +kernel⟩
theorem mt_1110 : (Jvm.Cond.code ({ cls := "GrindMillModel", name := "just", desc := "(II)I" } : Jvm.MethodName) prog_14_method_43_code (7 : Nat) (Option.some Jvm.ClassFile.FieldType.int)) ∈ tb := tb_of 1110 (by decide +kernel) (by decide +kernel)
theorem ye_X12_just : YE yX12_just cX12_just 7 (some .int) 2 := ⟨mt_1110, mt_71, by decide +kernel, by decide +kernel, by decide +kernel⟩
theorem mt_1186 : (Jvm.Cond.code ({ cls := "GrindMillModel", name := "look", desc := "(I)I" } : Jvm.MethodName) prog_14_method_62_code (8 : Nat) (Option.some Jvm.ClassFile.FieldType.int)) ∈ tb := tb_of 1186 (by decide +kernel) (by decide +kernel)
theorem ye_X12_look : YE yX12_look cX12_look 8 (some .int) 1 := ⟨mt_1186, mt_71, by decide +kernel, by decide +kernel, by decide +kernel⟩
theorem mt_958 : (Jvm.Cond.code ({ cls := "GrindMillModel", name := "mill", desc := "(I)I" } : Jvm.MethodName) prog_14_method_6_code (3 : Nat) (Option.some Jvm.ClassFile.FieldType.int)) ∈ tb := tb_of 958 (by decide +kernel) (by decide +kernel)
theorem ye_X12_mill : YE yX12_mill cX12_mill 3 (some .int) 1 := ⟨mt_958, mt_71, by decide +kernel, by decide +kernel, by decide +kernel⟩
theorem mt_1203 : (Jvm.Cond.code ({ cls := "GrindMillModel", name := "mills", desc := "(II)I" } : Jvm.MethodName) prog_14_method_65_code (7 : Nat) (Option.some Jvm.ClassFile.FieldType.int)) ∈ tb := tb_of 1203 (by decide +kernel) (by decide +kernel)
theorem ye_X12_mills : YE yX12_mills cX12_mills 7 (some .int) 2 := ⟨mt_1203, mt_71, by decide +kernel, by decide +kernel, by decide +kernel⟩
theorem mt_1146 : (Jvm.Cond.code ({ cls := "GrindMillModel", name := "nextGuess", desc := "()I" } : Jvm.MethodName) prog_14_method_52_code (6 : Nat) (Option.some Jvm.ClassFile.FieldType.int)) ∈ tb := tb_of 1146 (by decide +kernel) (by decide +kernel)
theorem ye_X12_nextGuess : YE yX12_nextGuess cX12_nextGuess 6 (some .int) 0 := ⟨mt_1146, mt_71, by decide +kernel, by decide +kernel, by decide +kernel⟩
theorem mt_1166 : (Jvm.Cond.code ({ cls := "GrindMillModel", name := "note", desc := "(IIII)I" } : Jvm.MethodName) prog_14_method_56_code (6 : Nat) (Option.some Jvm.ClassFile.FieldType.int)) ∈ tb := tb_of 1166 (by decide +kernel) (by decide +kernel)
theorem ye_X12_note : YE yX12_note cX12_note 6 (some .int) 4 := ⟨mt_1166, mt_71, by decide +kernel, by decide +kernel, by decide +kernel⟩
theorem mt_1090 : (Jvm.Cond.code ({ cls := "GrindMillModel", name := "of", desc := "(II)I" } : Jvm.MethodName) prog_14_method_37_code (3 : Nat) (Option.some Jvm.ClassFile.FieldType.int)) ∈ tb := tb_of 1090 (by decide +kernel) (by decide +kernel)
theorem ye_X12_of : YE yX12_of cX12_of 3 (some .int) 2 := ⟨mt_1090, mt_71, by decide +kernel, by decide +kernel, by decide +kernel⟩
theorem mt_1213 : (Jvm.Cond.code ({ cls := "GrindMillModel", name := "part", desc := "(I)J" } : Jvm.MethodName) prog_14_method_66_code (2 : Nat) (Option.some Jvm.ClassFile.FieldType.long)) ∈ tb := tb_of 1213 (by decide +kernel) (by decide +kernel)
theorem ye_X12_part : YE yX12_part cX12_part 2 (some .long) 1 := ⟨mt_1213, mt_71, by decide +kernel, by decide +kernel, by decide +kernel⟩
theorem mt_989 : (Jvm.Cond.code ({ cls := "GrindMillModel", name := "read", desc := "()I" } : Jvm.MethodName) prog_14_method_21_code (3 : Nat) (Option.some Jvm.ClassFile.FieldType.int)) ∈ tb := tb_of 989 (by decide +kernel) (by decide +kernel)
theorem ye_X12_read : YE yX12_read cX12_read 3 (some .int) 0 := ⟨mt_989, mt_71, by decide +kernel, by decide +kernel, by decide +kernel⟩
theorem mt_1064 : (Jvm.Cond.code ({ cls := "GrindMillModel", name := "say", desc := "(I)I" } : Jvm.MethodName) prog_14_method_33_code (3 : Nat) (Option.some Jvm.ClassFile.FieldType.int)) ∈ tb := tb_of 1064 (by decide +kernel) (by decide +kernel)
theorem ye_X12_say : YE yX12_say cX12_say 3 (some .int) 1 := ⟨mt_1064, mt_71, by decide +kernel, by decide +kernel, by decide +kernel⟩
theorem mt_1074 : (Jvm.Cond.code ({ cls := "GrindMillModel", name := "sell", desc := "(II)I" } : Jvm.MethodName) prog_14_method_34_code (5 : Nat) (Option.some Jvm.ClassFile.FieldType.int)) ∈ tb := tb_of 1074 (by decide +kernel) (by decide +kernel)
theorem ye_X12_sell : YE yX12_sell cX12_sell 5 (some .int) 2 := ⟨mt_1074, mt_71, by decide +kernel, by decide +kernel, by decide +kernel⟩
theorem mt_1130 : (Jvm.Cond.code ({ cls := "GrindMillModel", name := "ship", desc := "(II)I" } : Jvm.MethodName) prog_14_method_47_code (5 : Nat) (Option.some Jvm.ClassFile.FieldType.int)) ∈ tb := tb_of 1130 (by decide +kernel) (by decide +kernel)
theorem ye_X12_ship : YE yX12_ship cX12_ship 5 (some .int) 2 := ⟨mt_1130, mt_71, by decide +kernel, by decide +kernel, by decide +kernel⟩
theorem mt_1225 : (Jvm.Cond.code ({ cls := "GrindMillModel", name := "status", desc := "(I)I" } : Jvm.MethodName) prog_14_method_69_code (2 : Nat) (Option.some Jvm.ClassFile.FieldType.int)) ∈ tb := tb_of 1225 (by decide +kernel) (by decide +kernel)
theorem ye_X12_status : YE yX12_status cX12_status 2 (some .int) 1 := ⟨mt_1225, mt_71, by decide +kernel, by decide +kernel, by decide +kernel⟩
theorem mt_1154 : (Jvm.Cond.code ({ cls := "GrindMillModel", name := "street", desc := "(II)I" } : Jvm.MethodName) prog_14_method_55_code (6 : Nat) (Option.some Jvm.ClassFile.FieldType.int)) ∈ tb := tb_of 1154 (by decide +kernel) (by decide +kernel)
theorem ye_X12_street : YE yX12_street cX12_street 6 (some .int) 2 := ⟨mt_1154, mt_71, by decide +kernel, by decide +kernel, by decide +kernel⟩
theorem mt_1098 : (Jvm.Cond.code ({ cls := "GrindMillModel", name := "then", desc := "(II)I" } : Jvm.MethodName) prog_14_method_40_code (4 : Nat) (Option.some Jvm.ClassFile.FieldType.int)) ∈ tb := tb_of 1098 (by decide +kernel) (by decide +kernel)
theorem ye_X12_then : YE yX12_then cX12_then 4 (some .int) 2 := ⟨mt_1098, mt_71, by decide +kernel, by decide +kernel, by decide +kernel⟩
theorem mt_1194 : (Jvm.Cond.code ({ cls := "GrindMillModel", name := "thieves", desc := "(III)I" } : Jvm.MethodName) prog_14_method_64_code (11 : Nat) (Option.some Jvm.ClassFile.FieldType.int)) ∈ tb := tb_of 1194 (by decide +kernel) (by decide +kernel)
theorem ye_X12_thieves : YE yX12_thieves cX12_thieves 11 (some .int) 3 := ⟨mt_1194, mt_71, by decide +kernel, by decide +kernel, by decide +kernel⟩
theorem mt_981 : (Jvm.Cond.code ({ cls := "GrindMillModel", name := "type", desc := "(I)I" } : Jvm.MethodName) prog_14_method_10_code (2 : Nat) (Option.some Jvm.ClassFile.FieldType.int)) ∈ tb := tb_of 981 (by decide +kernel) (by decide +kernel)
theorem ye_X12_type : YE yX12_type cX12_type 2 (some .int) 1 := ⟨mt_981, mt_71, by decide +kernel, by decide +kernel, by decide +kernel⟩
theorem mt_1086 : (Jvm.Cond.code ({ cls := "GrindMillModel", name := "undo", desc := "()I" } : Jvm.MethodName) prog_14_method_36_code (2 : Nat) (Option.some Jvm.ClassFile.FieldType.int)) ∈ tb := tb_of 1086 (by decide +kernel) (by decide +kernel)
theorem ye_X12_undo : YE yX12_undo cX12_undo 2 (some .int) 0 := ⟨mt_1086, mt_71, by decide +kernel, by decide +kernel, by decide +kernel⟩
theorem mt_977 : (Jvm.Cond.code ({ cls := "GrindMillModel", name := "word", desc := "(I)I" } : Jvm.MethodName) prog_14_method_9_code (2 : Nat) (Option.some Jvm.ClassFile.FieldType.int)) ∈ tb := tb_of 977 (by decide +kernel) (by decide +kernel)
theorem ye_X12_word : YE yX12_word cX12_word 2 (some .int) 1 := ⟨mt_977, mt_71, by decide +kernel, by decide +kernel, by decide +kernel⟩
theorem mt_1138 : (Jvm.Cond.code ({ cls := "GrindMillModel", name := "words", desc := "(I)I" } : Jvm.MethodName) prog_14_method_50_code (5 : Nat) (Option.some Jvm.ClassFile.FieldType.int)) ∈ tb := tb_of 1138 (by decide +kernel) (by decide +kernel)
theorem ye_X12_words : YE yX12_words cX12_words 5 (some .int) 1 := ⟨mt_1138, mt_71, by decide +kernel, by decide +kernel, by decide +kernel⟩
def f_L_1095 (L : Nat) (sx : Nat → Int32) (rec18 : Nat → Nat → Int32 → Wd → Option (Int32 × Wd)) (v1 : Nat) (v2 : Nat) (v3 : Int32) (w : Wd) : Option (Int32 × Wd) :=
  rec18 v1 v2 ((v3 + (5 : Int32))) w
def f_L_1081 (L : Nat) (sx : Nat → Int32) (rec18 : Nat → Nat → Int32 → Wd → Option (Int32 × Wd)) (v1 : Nat) (v2 : Nat) (v3 : Int32) (w : Wd) : Option (Int32 × Wd) :=
  calV w v1 11 (f_X11_digest v1 w) fun x2 w1 =>
  calV w1 v2 12 (f_X12_digest v2 w1) fun x4 w3 =>
  if (lg_cmp x2 x4) = 0 then
    f_L_1095 L sx rec18 v1 v2 v3 w3
  else
    some ((0 : Int32), w3)
def f_L_1058 (L : Nat) (sx : Nat → Int32) (rec18 : Nat → Nat → Int32 → Wd → Option (Int32 × Wd)) (v1 : Nat) (v2 : Nat) (v3 : Int32) (w : Wd) : Option (Int32 × Wd) :=
  lS L sx (v3 + (1 : Int32)) fun x5 =>
  calV w v1 11 (f_X11_count v1 x5 w) fun x7 w6 =>
  lS L sx (v3 + (1 : Int32)) fun x8 =>
  calV w6 v2 12 (f_X12_count v2 x8 w6) fun x10 w9 =>
  if x7 = x10 then
    f_L_1095 L sx rec18 v1 v2 v3 w9
  else
    some ((0 : Int32), w9)
def f_L_1035 (L : Nat) (sx : Nat → Int32) (rec18 : Nat → Nat → Int32 → Wd → Option (Int32 × Wd)) (v1 : Nat) (v2 : Nat) (v3 : Int32) (w : Wd) : Option (Int32 × Wd) :=
  lS L sx (v3 + (1 : Int32)) fun x11 =>
  calV w v1 11 (f_X11_status v1 x11 w) fun x13 w12 =>
  lS L sx (v3 + (1 : Int32)) fun x14 =>
  calV w12 v2 12 (f_X12_status v2 x14 w12) fun x16 w15 =>
  if x13 = x16 then
    f_L_1095 L sx rec18 v1 v2 v3 w15
  else
    some ((0 : Int32), w15)
def f_L_1012 (L : Nat) (sx : Nat → Int32) (rec18 : Nat → Nat → Int32 → Wd → Option (Int32 × Wd)) (v1 : Nat) (v2 : Nat) (v3 : Int32) (w : Wd) : Option (Int32 × Wd) :=
  lS L sx (v3 + (1 : Int32)) fun x17 =>
  calV w v1 11 (f_X11_from v1 x17 w) fun x19 w18 =>
  lS L sx (v3 + (1 : Int32)) fun x20 =>
  calV w18 v2 12 (f_X12_from v2 x20 w18) fun x22 w21 =>
  if x19 = x22 then
    f_L_1095 L sx rec18 v1 v2 v3 w21
  else
    some ((0 : Int32), w21)
def f_L_989 (L : Nat) (sx : Nat → Int32) (rec18 : Nat → Nat → Int32 → Wd → Option (Int32 × Wd)) (v1 : Nat) (v2 : Nat) (v3 : Int32) (w : Wd) : Option (Int32 × Wd) :=
  lS L sx (v3 + (1 : Int32)) fun x23 =>
  calV w v1 11 (f_X11_image v1 x23 w) fun x25 w24 =>
  lS L sx (v3 + (1 : Int32)) fun x26 =>
  calV w24 v2 12 (f_X12_image v2 x26 w24) fun x28 w27 =>
  if x25 = x28 then
    f_L_1095 L sx rec18 v1 v2 v3 w27
  else
    some ((0 : Int32), w27)
def f_L_965 (L : Nat) (sx : Nat → Int32) (rec18 : Nat → Nat → Int32 → Wd → Option (Int32 × Wd)) (v1 : Nat) (v2 : Nat) (v3 : Int32) (w : Wd) : Option (Int32 × Wd) :=
  lS L sx (v3 + (1 : Int32)) fun x29 =>
  calV w v1 11 (f_X11_part v1 x29 w) fun x31 w30 =>
  lS L sx (v3 + (1 : Int32)) fun x32 =>
  calV w30 v2 12 (f_X12_part v2 x32 w30) fun x34 w33 =>
  if (lg_cmp x31 x34) = 0 then
    f_L_1095 L sx rec18 v1 v2 v3 w33
  else
    some ((0 : Int32), w33)
def f_L_932 (L : Nat) (sx : Nat → Int32) (rec18 : Nat → Nat → Int32 → Wd → Option (Int32 × Wd)) (v1 : Nat) (v2 : Nat) (v3 : Int32) (w : Wd) : Option (Int32 × Wd) :=
  lS L sx (v3 + (1 : Int32)) fun x35 =>
  lS L sx (v3 + (2 : Int32)) fun x36 =>
  calV w v1 11 (f_X11_mills v1 x35 x36 w) fun x38 w37 =>
  lS L sx (v3 + (1 : Int32)) fun x39 =>
  lS L sx (v3 + (2 : Int32)) fun x40 =>
  calV w37 v2 12 (f_X12_mills v2 x39 x40 w37) fun x42 w41 =>
  if x38 = x42 then
    f_L_1095 L sx rec18 v1 v2 v3 w41
  else
    some ((0 : Int32), w41)
def f_L_889 (L : Nat) (sx : Nat → Int32) (rec18 : Nat → Nat → Int32 → Wd → Option (Int32 × Wd)) (v1 : Nat) (v2 : Nat) (v3 : Int32) (w : Wd) : Option (Int32 × Wd) :=
  lS L sx (v3 + (1 : Int32)) fun x43 =>
  lS L sx (v3 + (2 : Int32)) fun x44 =>
  lS L sx (v3 + (3 : Int32)) fun x45 =>
  calV w v1 11 (f_X11_thieves v1 x43 x44 x45 w) fun x47 w46 =>
  lS L sx (v3 + (1 : Int32)) fun x48 =>
  lS L sx (v3 + (2 : Int32)) fun x49 =>
  lS L sx (v3 + (3 : Int32)) fun x50 =>
  calV w46 v2 12 (f_X12_thieves v2 x48 x49 x50 w46) fun x52 w51 =>
  if x47 = x52 then
    f_L_1095 L sx rec18 v1 v2 v3 w51
  else
    some ((0 : Int32), w51)
def f_L_866 (L : Nat) (sx : Nat → Int32) (rec18 : Nat → Nat → Int32 → Wd → Option (Int32 × Wd)) (v1 : Nat) (v2 : Nat) (v3 : Int32) (w : Wd) : Option (Int32 × Wd) :=
  lS L sx (v3 + (1 : Int32)) fun x53 =>
  calV w v1 11 (f_X11_look v1 x53 w) fun x55 w54 =>
  lS L sx (v3 + (1 : Int32)) fun x56 =>
  calV w54 v2 12 (f_X12_look v2 x56 w54) fun x58 w57 =>
  if x55 = x58 then
    f_L_1095 L sx rec18 v1 v2 v3 w57
  else
    some ((0 : Int32), w57)
def f_L_833 (L : Nat) (sx : Nat → Int32) (rec18 : Nat → Nat → Int32 → Wd → Option (Int32 × Wd)) (v1 : Nat) (v2 : Nat) (v3 : Int32) (w : Wd) : Option (Int32 × Wd) :=
  lS L sx (v3 + (1 : Int32)) fun x59 =>
  lS L sx (v3 + (2 : Int32)) fun x60 =>
  calV w v1 11 (f_X11_is v1 x59 x60 w) fun x62 w61 =>
  lS L sx (v3 + (1 : Int32)) fun x63 =>
  lS L sx (v3 + (2 : Int32)) fun x64 =>
  calV w61 v2 12 (f_X12_is v2 x63 x64 w61) fun x66 w65 =>
  if x62 = x66 then
    f_L_1095 L sx rec18 v1 v2 v3 w65
  else
    some ((0 : Int32), w65)
def f_L_810 (L : Nat) (sx : Nat → Int32) (rec18 : Nat → Nat → Int32 → Wd → Option (Int32 × Wd)) (v1 : Nat) (v2 : Nat) (v3 : Int32) (w : Wd) : Option (Int32 × Wd) :=
  lS L sx (v3 + (1 : Int32)) fun x67 =>
  calV w v1 11 (f_X11_forget v1 x67 w) fun x69 w68 =>
  lS L sx (v3 + (1 : Int32)) fun x70 =>
  calV w68 v2 12 (f_X12_forget v2 x70 w68) fun x72 w71 =>
  if x69 = x72 then
    f_L_1095 L sx rec18 v1 v2 v3 w71
  else
    some ((0 : Int32), w71)
def f_L_757 (L : Nat) (sx : Nat → Int32) (rec18 : Nat → Nat → Int32 → Wd → Option (Int32 × Wd)) (v1 : Nat) (v2 : Nat) (v3 : Int32) (w : Wd) : Option (Int32 × Wd) :=
  lS L sx (v3 + (1 : Int32)) fun x73 =>
  lS L sx (v3 + (2 : Int32)) fun x74 =>
  lS L sx (v3 + (3 : Int32)) fun x75 =>
  lS L sx (v3 + (4 : Int32)) fun x76 =>
  calV w v1 11 (f_X11_note v1 x73 x74 x75 x76 w) fun x78 w77 =>
  lS L sx (v3 + (1 : Int32)) fun x79 =>
  lS L sx (v3 + (2 : Int32)) fun x80 =>
  lS L sx (v3 + (3 : Int32)) fun x81 =>
  lS L sx (v3 + (4 : Int32)) fun x82 =>
  calV w77 v2 12 (f_X12_note v2 x79 x80 x81 x82 w77) fun x84 w83 =>
  if x78 = x84 then
    f_L_1095 L sx rec18 v1 v2 v3 w83
  else
    some ((0 : Int32), w83)
def f_L_724 (L : Nat) (sx : Nat → Int32) (rec18 : Nat → Nat → Int32 → Wd → Option (Int32 × Wd)) (v1 : Nat) (v2 : Nat) (v3 : Int32) (w : Wd) : Option (Int32 × Wd) :=
  lS L sx (v3 + (1 : Int32)) fun x85 =>
  lS L sx (v3 + (2 : Int32)) fun x86 =>
  calV w v1 11 (f_X11_street v1 x85 x86 w) fun x88 w87 =>
  lS L sx (v3 + (1 : Int32)) fun x89 =>
  lS L sx (v3 + (2 : Int32)) fun x90 =>
  calV w87 v2 12 (f_X12_street v2 x89 x90 w87) fun x92 w91 =>
  if x88 = x92 then
    f_L_1095 L sx rec18 v1 v2 v3 w91
  else
    some ((0 : Int32), w91)
def f_L_711 (L : Nat) (sx : Nat → Int32) (rec18 : Nat → Nat → Int32 → Wd → Option (Int32 × Wd)) (v1 : Nat) (v2 : Nat) (v3 : Int32) (w : Wd) : Option (Int32 × Wd) :=
  calV w v1 11 (f_X11_nextGuess v1 w) fun x94 w93 =>
  calV w93 v2 12 (f_X12_nextGuess v2 w93) fun x96 w95 =>
  if x94 = x96 then
    f_L_1095 L sx rec18 v1 v2 v3 w95
  else
    some ((0 : Int32), w95)
def f_L_688 (L : Nat) (sx : Nat → Int32) (rec18 : Nat → Nat → Int32 → Wd → Option (Int32 × Wd)) (v1 : Nat) (v2 : Nat) (v3 : Int32) (w : Wd) : Option (Int32 × Wd) :=
  lS L sx (v3 + (1 : Int32)) fun x97 =>
  calV w v1 11 (f_X11_words v1 x97 w) fun x99 w98 =>
  lS L sx (v3 + (1 : Int32)) fun x100 =>
  calV w98 v2 12 (f_X12_words v2 x100 w98) fun x102 w101 =>
  if x99 = x102 then
    f_L_1095 L sx rec18 v1 v2 v3 w101
  else
    some ((0 : Int32), w101)
def f_L_655 (L : Nat) (sx : Nat → Int32) (rec18 : Nat → Nat → Int32 → Wd → Option (Int32 × Wd)) (v1 : Nat) (v2 : Nat) (v3 : Int32) (w : Wd) : Option (Int32 × Wd) :=
  lS L sx (v3 + (1 : Int32)) fun x103 =>
  lS L sx (v3 + (2 : Int32)) fun x104 =>
  calV w v1 11 (f_X11_guess v1 x103 x104 w) fun x106 w105 =>
  lS L sx (v3 + (1 : Int32)) fun x107 =>
  lS L sx (v3 + (2 : Int32)) fun x108 =>
  calV w105 v2 12 (f_X12_guess v2 x107 x108 w105) fun x110 w109 =>
  if x106 = x110 then
    f_L_1095 L sx rec18 v1 v2 v3 w109
  else
    some ((0 : Int32), w109)
def f_L_622 (L : Nat) (sx : Nat → Int32) (rec18 : Nat → Nat → Int32 → Wd → Option (Int32 × Wd)) (v1 : Nat) (v2 : Nat) (v3 : Int32) (w : Wd) : Option (Int32 × Wd) :=
  lS L sx (v3 + (1 : Int32)) fun x111 =>
  lS L sx (v3 + (2 : Int32)) fun x112 =>
  calV w v1 11 (f_X11_ship v1 x111 x112 w) fun x114 w113 =>
  lS L sx (v3 + (1 : Int32)) fun x115 =>
  lS L sx (v3 + (2 : Int32)) fun x116 =>
  calV w113 v2 12 (f_X12_ship v2 x115 x116 w113) fun x118 w117 =>
  if x114 = x118 then
    f_L_1095 L sx rec18 v1 v2 v3 w117
  else
    some ((0 : Int32), w117)
def f_L_589 (L : Nat) (sx : Nat → Int32) (rec18 : Nat → Nat → Int32 → Wd → Option (Int32 × Wd)) (v1 : Nat) (v2 : Nat) (v3 : Int32) (w : Wd) : Option (Int32 × Wd) :=
  lS L sx (v3 + (1 : Int32)) fun x119 =>
  lS L sx (v3 + (2 : Int32)) fun x120 =>
  calV w v1 11 (f_X11_best v1 x119 x120 w) fun x122 w121 =>
  lS L sx (v3 + (1 : Int32)) fun x123 =>
  lS L sx (v3 + (2 : Int32)) fun x124 =>
  calV w121 v2 12 (f_X12_best v2 x123 x124 w121) fun x126 w125 =>
  if x122 = x126 then
    f_L_1095 L sx rec18 v1 v2 v3 w125
  else
    some ((0 : Int32), w125)
def f_L_556 (L : Nat) (sx : Nat → Int32) (rec18 : Nat → Nat → Int32 → Wd → Option (Int32 × Wd)) (v1 : Nat) (v2 : Nat) (v3 : Int32) (w : Wd) : Option (Int32 × Wd) :=
  lS L sx (v3 + (1 : Int32)) fun x127 =>
  lS L sx (v3 + (2 : Int32)) fun x128 =>
  calV w v1 11 (f_X11_just v1 x127 x128 w) fun x130 w129 =>
  lS L sx (v3 + (1 : Int32)) fun x131 =>
  lS L sx (v3 + (2 : Int32)) fun x132 =>
  calV w129 v2 12 (f_X12_just v2 x131 x132 w129) fun x134 w133 =>
  if x130 = x134 then
    f_L_1095 L sx rec18 v1 v2 v3 w133
  else
    some ((0 : Int32), w133)
def f_L_543 (L : Nat) (sx : Nat → Int32) (rec18 : Nat → Nat → Int32 → Wd → Option (Int32 × Wd)) (v1 : Nat) (v2 : Nat) (v3 : Int32) (w : Wd) : Option (Int32 × Wd) :=
  calV w v1 11 (f_X11_full v1 w) fun x136 w135 =>
  calV w135 v2 12 (f_X12_full v2 w135) fun x138 w137 =>
  if x136 = x138 then
    f_L_1095 L sx rec18 v1 v2 v3 w137
  else
    some ((0 : Int32), w137)
def f_L_510 (L : Nat) (sx : Nat → Int32) (rec18 : Nat → Nat → Int32 → Wd → Option (Int32 × Wd)) (v1 : Nat) (v2 : Nat) (v3 : Int32) (w : Wd) : Option (Int32 × Wd) :=
  lS L sx (v3 + (1 : Int32)) fun x139 =>
  lS L sx (v3 + (2 : Int32)) fun x140 =>
  calV w v1 11 (f_X11_then v1 x139 x140 w) fun x142 w141 =>
  lS L sx (v3 + (1 : Int32)) fun x143 =>
  lS L sx (v3 + (2 : Int32)) fun x144 =>
  calV w141 v2 12 (f_X12_then v2 x143 x144 w141) fun x146 w145 =>
  if x142 = x146 then
    f_L_1095 L sx rec18 v1 v2 v3 w145
  else
    some ((0 : Int32), w145)
def f_L_497 (L : Nat) (sx : Nat → Int32) (rec18 : Nat → Nat → Int32 → Wd → Option (Int32 × Wd)) (v1 : Nat) (v2 : Nat) (v3 : Int32) (w : Wd) : Option (Int32 × Wd) :=
  calV w v1 11 (f_X11_grinds v1 w) fun x148 w147 =>
  calV w147 v2 12 (f_X12_grinds v2 w147) fun x150 w149 =>
  if x148 = x150 then
    f_L_1095 L sx rec18 v1 v2 v3 w149
  else
    some ((0 : Int32), w149)
def f_L_464 (L : Nat) (sx : Nat → Int32) (rec18 : Nat → Nat → Int32 → Wd → Option (Int32 × Wd)) (v1 : Nat) (v2 : Nat) (v3 : Int32) (w : Wd) : Option (Int32 × Wd) :=
  lS L sx (v3 + (1 : Int32)) fun x151 =>
  lS L sx (v3 + (2 : Int32)) fun x152 =>
  calV w v1 11 (f_X11_of v1 x151 x152 w) fun x154 w153 =>
  lS L sx (v3 + (1 : Int32)) fun x155 =>
  lS L sx (v3 + (2 : Int32)) fun x156 =>
  calV w153 v2 12 (f_X12_of v2 x155 x156 w153) fun x158 w157 =>
  if x154 = x158 then
    f_L_1095 L sx rec18 v1 v2 v3 w157
  else
    some ((0 : Int32), w157)
def f_L_451 (L : Nat) (sx : Nat → Int32) (rec18 : Nat → Nat → Int32 → Wd → Option (Int32 × Wd)) (v1 : Nat) (v2 : Nat) (v3 : Int32) (w : Wd) : Option (Int32 × Wd) :=
  calV w v1 11 (f_X11_undo v1 w) fun x160 w159 =>
  calV w159 v2 12 (f_X12_undo v2 w159) fun x162 w161 =>
  if x160 = x162 then
    f_L_1095 L sx rec18 v1 v2 v3 w161
  else
    some ((0 : Int32), w161)
def f_L_428 (L : Nat) (sx : Nat → Int32) (rec18 : Nat → Nat → Int32 → Wd → Option (Int32 × Wd)) (v1 : Nat) (v2 : Nat) (v3 : Int32) (w : Wd) : Option (Int32 × Wd) :=
  lS L sx (v3 + (1 : Int32)) fun x163 =>
  calV w v1 11 (f_X11_cold v1 x163 w) fun x165 w164 =>
  lS L sx (v3 + (1 : Int32)) fun x166 =>
  calV w164 v2 12 (f_X12_cold v2 x166 w164) fun x168 w167 =>
  if x165 = x168 then
    f_L_1095 L sx rec18 v1 v2 v3 w167
  else
    some ((0 : Int32), w167)
def f_L_395 (L : Nat) (sx : Nat → Int32) (rec18 : Nat → Nat → Int32 → Wd → Option (Int32 × Wd)) (v1 : Nat) (v2 : Nat) (v3 : Int32) (w : Wd) : Option (Int32 × Wd) :=
  lS L sx (v3 + (1 : Int32)) fun x169 =>
  lS L sx (v3 + (2 : Int32)) fun x170 =>
  calV w v1 11 (f_X11_sell v1 x169 x170 w) fun x172 w171 =>
  lS L sx (v3 + (1 : Int32)) fun x173 =>
  lS L sx (v3 + (2 : Int32)) fun x174 =>
  calV w171 v2 12 (f_X12_sell v2 x173 x174 w171) fun x176 w175 =>
  if x172 = x176 then
    f_L_1095 L sx rec18 v1 v2 v3 w175
  else
    some ((0 : Int32), w175)
def f_L_372 (L : Nat) (sx : Nat → Int32) (rec18 : Nat → Nat → Int32 → Wd → Option (Int32 × Wd)) (v1 : Nat) (v2 : Nat) (v3 : Int32) (w : Wd) : Option (Int32 × Wd) :=
  lS L sx (v3 + (1 : Int32)) fun x177 =>
  calV w v1 11 (f_X11_say v1 x177 w) fun x179 w178 =>
  lS L sx (v3 + (1 : Int32)) fun x180 =>
  calV w178 v2 12 (f_X12_say v2 x180 w178) fun x182 w181 =>
  if x179 = x182 then
    f_L_1095 L sx rec18 v1 v2 v3 w181
  else
    some ((0 : Int32), w181)
def f_L_349 (L : Nat) (sx : Nat → Int32) (rec18 : Nat → Nat → Int32 → Wd → Option (Int32 × Wd)) (v1 : Nat) (v2 : Nat) (v3 : Int32) (w : Wd) : Option (Int32 × Wd) :=
  lS L sx (v3 + (1 : Int32)) fun x183 =>
  calV w v1 11 (f_X11_hour v1 x183 w) fun x185 w184 =>
  lS L sx (v3 + (1 : Int32)) fun x186 =>
  calV w184 v2 12 (f_X12_hour v2 x186 w184) fun x188 w187 =>
  if x185 = x188 then
    f_L_1095 L sx rec18 v1 v2 v3 w187
  else
    some ((0 : Int32), w187)
def f_L_326 (L : Nat) (sx : Nat → Int32) (rec18 : Nat → Nat → Int32 → Wd → Option (Int32 × Wd)) (v1 : Nat) (v2 : Nat) (v3 : Int32) (w : Wd) : Option (Int32 × Wd) :=
  lS L sx (v3 + (1 : Int32)) fun x189 =>
  calV w v1 11 (f_X11_grind v1 x189 w) fun x191 w190 =>
  lS L sx (v3 + (1 : Int32)) fun x192 =>
  calV w190 v2 12 (f_X12_grind v2 x192 w190) fun x194 w193 =>
  if x191 = x194 then
    f_L_1095 L sx rec18 v1 v2 v3 w193
  else
    some ((0 : Int32), w193)
def f_L_313 (L : Nat) (sx : Nat → Int32) (rec18 : Nat → Nat → Int32 → Wd → Option (Int32 × Wd)) (v1 : Nat) (v2 : Nat) (v3 : Int32) (w : Wd) : Option (Int32 × Wd) :=
  calV w v1 11 (f_X11_read v1 w) fun x196 w195 =>
  calV w195 v2 12 (f_X12_read v2 w195) fun x198 w197 =>
  if x196 = x198 then
    f_L_1095 L sx rec18 v1 v2 v3 w197
  else
    some ((0 : Int32), w197)
def f_L_300 (L : Nat) (sx : Nat → Int32) (rec18 : Nat → Nat → Int32 → Wd → Option (Int32 × Wd)) (v1 : Nat) (v2 : Nat) (v3 : Int32) (w : Wd) : Option (Int32 × Wd) :=
  calV w v1 11 (f_X11_clear v1 w) fun x200 w199 =>
  calV w199 v2 12 (f_X12_clear v2 w199) fun x202 w201 =>
  if x200 = x202 then
    f_L_1095 L sx rec18 v1 v2 v3 w201
  else
    some ((0 : Int32), w201)
def f_L_277 (L : Nat) (sx : Nat → Int32) (rec18 : Nat → Nat → Int32 → Wd → Option (Int32 × Wd)) (v1 : Nat) (v2 : Nat) (v3 : Int32) (w : Wd) : Option (Int32 × Wd) :=
  lS L sx (v3 + (1 : Int32)) fun x203 =>
  calV w v1 11 (f_X11_type v1 x203 w) fun x205 w204 =>
  lS L sx (v3 + (1 : Int32)) fun x206 =>
  calV w204 v2 12 (f_X12_type v2 x206 w204) fun x208 w207 =>
  if x205 = x208 then
    f_L_1095 L sx rec18 v1 v2 v3 w207
  else
    some ((0 : Int32), w207)
def f_L_254 (L : Nat) (sx : Nat → Int32) (rec18 : Nat → Nat → Int32 → Wd → Option (Int32 × Wd)) (v1 : Nat) (v2 : Nat) (v3 : Int32) (w : Wd) : Option (Int32 × Wd) :=
  lS L sx (v3 + (1 : Int32)) fun x209 =>
  calV w v1 11 (f_X11_word v1 x209 w) fun x211 w210 =>
  lS L sx (v3 + (1 : Int32)) fun x212 =>
  calV w210 v2 12 (f_X12_word v2 x212 w210) fun x214 w213 =>
  if x211 = x214 then
    f_L_1095 L sx rec18 v1 v2 v3 w213
  else
    some ((0 : Int32), w213)
def f_L_211 (L : Nat) (sx : Nat → Int32) (rec18 : Nat → Nat → Int32 → Wd → Option (Int32 × Wd)) (v1 : Nat) (v2 : Nat) (v3 : Int32) (w : Wd) : Option (Int32 × Wd) :=
  lS L sx (v3 + (1 : Int32)) fun x215 =>
  lS L sx (v3 + (2 : Int32)) fun x216 =>
  lS L sx (v3 + (3 : Int32)) fun x217 =>
  calV w v1 11 (f_X11_goods v1 x215 x216 x217 w) fun x219 w218 =>
  lS L sx (v3 + (1 : Int32)) fun x220 =>
  lS L sx (v3 + (2 : Int32)) fun x221 =>
  lS L sx (v3 + (3 : Int32)) fun x222 =>
  calV w218 v2 12 (f_X12_goods v2 x220 x221 x222 w218) fun x224 w223 =>
  if x219 = x224 then
    f_L_1095 L sx rec18 v1 v2 v3 w223
  else
    some ((0 : Int32), w223)
def f_L_188 (L : Nat) (sx : Nat → Int32) (rec18 : Nat → Nat → Int32 → Wd → Option (Int32 × Wd)) (v1 : Nat) (v2 : Nat) (v3 : Int32) (w : Wd) : Option (Int32 × Wd) :=
  lS L sx (v3 + (1 : Int32)) fun x225 =>
  calV w v1 11 (f_X11_mill v1 x225 w) fun x227 w226 =>
  lS L sx (v3 + (1 : Int32)) fun x228 =>
  calV w226 v2 12 (f_X12_mill v2 x228 w226) fun x230 w229 =>
  if x227 = x230 then
    f_L_1095 L sx rec18 v1 v2 v3 w229
  else
    some ((0 : Int32), w229)
def f_L_18 (L : Nat) (sx : Nat → Int32) : Nat → Nat → Nat → Int32 → Wd → Option (Int32 × Wd)
  | 0, _, _, _, _ => none
  | n + 1, v1, v2, v3, w =>
    if ((Int32.ofNat L) - (5 : Int32)) < v3 then
      some ((1 : Int32), w)
    else
      lS L sx v3 fun x231 =>
      if (x231 &&& (63 : Int32)) = (0 : Int32) then
        f_L_188 L sx (f_L_18 L sx n) v1 v2 v3 w
      else
        if (x231 &&& (63 : Int32)) = (1 : Int32) then
          f_L_211 L sx (f_L_18 L sx n) v1 v2 v3 w
        else
          if (x231 &&& (63 : Int32)) = (2 : Int32) then
            f_L_254 L sx (f_L_18 L sx n) v1 v2 v3 w
          else
            if (x231 &&& (63 : Int32)) = (3 : Int32) then
              f_L_277 L sx (f_L_18 L sx n) v1 v2 v3 w
            else
              if (x231 &&& (63 : Int32)) = (4 : Int32) then
                f_L_300 L sx (f_L_18 L sx n) v1 v2 v3 w
              else
                if (x231 &&& (63 : Int32)) = (5 : Int32) then
                  f_L_313 L sx (f_L_18 L sx n) v1 v2 v3 w
                else
                  if (x231 &&& (63 : Int32)) = (6 : Int32) then
                    f_L_326 L sx (f_L_18 L sx n) v1 v2 v3 w
                  else
                    if (x231 &&& (63 : Int32)) = (7 : Int32) then
                      f_L_349 L sx (f_L_18 L sx n) v1 v2 v3 w
                    else
                      if (x231 &&& (63 : Int32)) = (8 : Int32) then
                        f_L_372 L sx (f_L_18 L sx n) v1 v2 v3 w
                      else
                        if (x231 &&& (63 : Int32)) = (9 : Int32) then
                          f_L_395 L sx (f_L_18 L sx n) v1 v2 v3 w
                        else
                          if (x231 &&& (63 : Int32)) = (10 : Int32) then
                            f_L_428 L sx (f_L_18 L sx n) v1 v2 v3 w
                          else
                            if (x231 &&& (63 : Int32)) = (11 : Int32) then
                              f_L_451 L sx (f_L_18 L sx n) v1 v2 v3 w
                            else
                              if (x231 &&& (63 : Int32)) = (12 : Int32) then
                                f_L_464 L sx (f_L_18 L sx n) v1 v2 v3 w
                              else
                                if (x231 &&& (63 : Int32)) = (13 : Int32) then
                                  f_L_497 L sx (f_L_18 L sx n) v1 v2 v3 w
                                else
                                  if (x231 &&& (63 : Int32)) = (14 : Int32) then
                                    f_L_510 L sx (f_L_18 L sx n) v1 v2 v3 w
                                  else
                                    if (x231 &&& (63 : Int32)) = (15 : Int32) then
                                      f_L_543 L sx (f_L_18 L sx n) v1 v2 v3 w
                                    else
                                      if (x231 &&& (63 : Int32)) = (16 : Int32) then
                                        f_L_556 L sx (f_L_18 L sx n) v1 v2 v3 w
                                      else
                                        if (x231 &&& (63 : Int32)) = (17 : Int32) then
                                          f_L_589 L sx (f_L_18 L sx n) v1 v2 v3 w
                                        else
                                          if (x231 &&& (63 : Int32)) = (18 : Int32) then
                                            f_L_622 L sx (f_L_18 L sx n) v1 v2 v3 w
                                          else
                                            if (x231 &&& (63 : Int32)) = (19 : Int32) then
                                              f_L_655 L sx (f_L_18 L sx n) v1 v2 v3 w
                                            else
                                              if (x231 &&& (63 : Int32)) = (20 : Int32) then
                                                f_L_688 L sx (f_L_18 L sx n) v1 v2 v3 w
                                              else
                                                if (x231 &&& (63 : Int32)) = (21 : Int32) then
                                                  f_L_711 L sx (f_L_18 L sx n) v1 v2 v3 w
                                                else
                                                  if (x231 &&& (63 : Int32)) = (22 : Int32) then
                                                    f_L_724 L sx (f_L_18 L sx n) v1 v2 v3 w
                                                  else
                                                    if (x231 &&& (63 : Int32)) = (23 : Int32) then
                                                      f_L_757 L sx (f_L_18 L sx n) v1 v2 v3 w
                                                    else
                                                      if (x231 &&& (63 : Int32)) = (24 : Int32) then
                                                        f_L_810 L sx (f_L_18 L sx n) v1 v2 v3 w
                                                      else
                                                        if (x231 &&& (63 : Int32)) = (25 : Int32) then
                                                          f_L_833 L sx (f_L_18 L sx n) v1 v2 v3 w
                                                        else
                                                          if (x231 &&& (63 : Int32)) = (26 : Int32) then
                                                            f_L_866 L sx (f_L_18 L sx n) v1 v2 v3 w
                                                          else
                                                            if (x231 &&& (63 : Int32)) = (27 : Int32) then
                                                              f_L_889 L sx (f_L_18 L sx n) v1 v2 v3 w
                                                            else
                                                              if (x231 &&& (63 : Int32)) = (28 : Int32) then
                                                                f_L_932 L sx (f_L_18 L sx n) v1 v2 v3 w
                                                              else
                                                                if (x231 &&& (63 : Int32)) = (29 : Int32) then
                                                                  f_L_965 L sx (f_L_18 L sx n) v1 v2 v3 w
                                                                else
                                                                  if (x231 &&& (63 : Int32)) = (30 : Int32) then
                                                                    f_L_989 L sx (f_L_18 L sx n) v1 v2 v3 w
                                                                  else
                                                                    if (x231 &&& (63 : Int32)) = (31 : Int32) then
                                                                      f_L_1012 L sx (f_L_18 L sx n) v1 v2 v3 w
                                                                    else
                                                                      if (x231 &&& (63 : Int32)) = (32 : Int32) then
                                                                        f_L_1035 L sx (f_L_18 L sx n) v1 v2 v3 w
                                                                      else
                                                                        if (x231 &&& (63 : Int32)) = (33 : Int32) then
                                                                          f_L_1058 L sx (f_L_18 L sx n) v1 v2 v3 w
                                                                        else
                                                                          if (x231 &&& (63 : Int32)) = (34 : Int32) then
                                                                            f_L_1081 L sx (f_L_18 L sx n) v1 v2 v3 w
                                                                          else
                                                                            f_L_1095 L sx (f_L_18 L sx n) v1 v2 v3 w
def f_L (L : Nat) (sx : Nat → Int32) (w : Wd) : Option (Int32 × Wd) :=
  nm (nC w 11 0) fun w232 =>
  cal (f_X11_init (wN w) w232) fun _ w233 =>
  nm (nC w233 12 0) fun w235 =>
  cal (f_X12_init (wN w233) w235) fun _ w236 =>
  f_L_18 L sx 4096 ((wN w)) ((wN w233)) (0 : Int32) w236
