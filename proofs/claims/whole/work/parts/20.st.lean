theorem dJ0_coder_7d493_0 : decode cJ0_coder_7d493 0 = .ok (.getstatic 38, 3) := by decide +kernel
theorem dJ0_coder_7d493_3 : decode cJ0_coder_7d493 3 = .ok (.ifCond .eq 10, 3) := by decide +kernel
theorem dJ0_coder_7d493_6 : decode cJ0_coder_7d493 6 = .ok (.aload_n 0, 1) := by decide +kernel
theorem dJ0_coder_7d493_7 : decode cJ0_coder_7d493 7 = .ok (.getfield 15, 3) := by decide +kernel
theorem dJ0_coder_7d493_10 : decode cJ0_coder_7d493 10 = .ok (.goto 4, 3) := by decide +kernel
theorem dJ0_coder_7d493_13 : decode cJ0_coder_7d493 13 = .ok (.iconst 1, 1) := by decide +kernel
theorem dJ0_coder_7d493_14 : decode cJ0_coder_7d493 14 = .ok (.ireturn, 1) := by decide +kernel
theorem dJ0_isLatin1_aae02_0 : decode cJ0_isLatin1_aae02 0 = .ok (.getstatic 38, 3) := by decide +kernel
theorem dJ0_isLatin1_aae02_3 : decode cJ0_isLatin1_aae02 3 = .ok (.ifCond .eq 14, 3) := by decide +kernel
theorem dJ0_isLatin1_aae02_6 : decode cJ0_isLatin1_aae02 6 = .ok (.aload_n 0, 1) := by decide +kernel
theorem dJ0_isLatin1_aae02_7 : decode cJ0_isLatin1_aae02 7 = .ok (.getfield 15, 3) := by decide +kernel
theorem dJ0_isLatin1_aae02_10 : decode cJ0_isLatin1_aae02 10 = .ok (.ifCond .ne 7, 3) := by decide +kernel
theorem dJ0_isLatin1_aae02_13 : decode cJ0_isLatin1_aae02 13 = .ok (.iconst 1, 1) := by decide +kernel
theorem dJ0_isLatin1_aae02_14 : decode cJ0_isLatin1_aae02 14 = .ok (.goto 4, 3) := by decide +kernel
theorem dJ0_isLatin1_aae02_17 : decode cJ0_isLatin1_aae02 17 = .ok (.iconst 0, 1) := by decide +kernel
theorem dJ0_isLatin1_aae02_18 : decode cJ0_isLatin1_aae02 18 = .ok (.ireturn, 1) := by decide +kernel
theorem dJ0_length_8abf5_0 : decode cJ0_length_8abf5 0 = .ok (.aload_n 0, 1) := by decide +kernel
theorem dJ0_length_8abf5_1 : decode cJ0_length_8abf5 1 = .ok (.getfield 9, 3) := by decide +kernel
theorem dJ0_length_8abf5_4 : decode cJ0_length_8abf5 4 = .ok (.arraylength, 1) := by decide +kernel
theorem dJ0_length_8abf5_5 : decode cJ0_length_8abf5 5 = .ok (.aload_n 0, 1) := by decide +kernel
theorem dJ0_length_8abf5_6 : decode cJ0_length_8abf5 6 = .ok (.invokevirtual 335, 3) := by decide +kernel
theorem dJ0_length_8abf5_9 : decode cJ0_length_8abf5 9 = .ok (.ishr, 1) := by decide +kernel
theorem dJ0_length_8abf5_10 : decode cJ0_length_8abf5 10 = .ok (.ireturn, 1) := by decide +kernel
theorem dJ3_checkIndex_8e157_0 : decode cJ3_checkIndex_8e157 0 = .ok (.iload_n 0, 1) := by decide +kernel
theorem dJ3_checkIndex_8e157_1 : decode cJ3_checkIndex_8e157 1 = .ok (.ifCond .lt 8, 3) := by decide +kernel
theorem dJ3_checkIndex_8e157_4 : decode cJ3_checkIndex_8e157 4 = .ok (.iload_n 0, 1) := by decide +kernel
theorem dJ3_checkIndex_8e157_5 : decode cJ3_checkIndex_8e157 5 = .ok (.iload_n 1, 1) := by decide +kernel
theorem dJ3_checkIndex_8e157_6 : decode cJ3_checkIndex_8e157 6 = .ok (.if_icmp .lt 10, 3) := by decide +kernel
theorem dJ3_checkIndex_8e157_9 : decode cJ3_checkIndex_8e157 9 = .ok (.aload_n 2, 1) := by decide +kernel
theorem dJ3_checkIndex_8e157_10 : decode cJ3_checkIndex_8e157 10 = .ok (.iload_n 0, 1) := by decide +kernel
theorem dJ3_checkIndex_8e157_11 : decode cJ3_checkIndex_8e157 11 = .ok (.iload_n 1, 1) := by decide +kernel
theorem dJ3_checkIndex_8e157_12 : decode cJ3_checkIndex_8e157 12 = .ok (.invokestatic 95, 3) := by decide +kernel
theorem dJ3_checkIndex_8e157_15 : decode cJ3_checkIndex_8e157 15 = .ok (.athrow, 1) := by decide +kernel
theorem dJ3_checkIndex_8e157_16 : decode cJ3_checkIndex_8e157 16 = .ok (.iload_n 0, 1) := by decide +kernel
theorem dJ3_checkIndex_8e157_17 : decode cJ3_checkIndex_8e157 17 = .ok (.ireturn, 1) := by decide +kernel
theorem dJ0_checkIndex_df160_0 : decode cJ0_checkIndex_df160 0 = .ok (.iload_n 0, 1) := by decide +kernel
theorem dJ0_checkIndex_df160_1 : decode cJ0_checkIndex_df160 1 = .ok (.iload_n 1, 1) := by decide +kernel
theorem dJ0_checkIndex_df160_2 : decode cJ0_checkIndex_df160 2 = .ok (.getstatic 1053, 3) := by decide +kernel
theorem dJ0_checkIndex_df160_5 : decode cJ0_checkIndex_df160 5 = .ok (.invokestatic 1059, 3) := by decide +kernel
theorem dJ0_checkIndex_df160_8 : decode cJ0_checkIndex_df160 8 = .ok (.pop, 1) := by decide +kernel
theorem dJ0_checkIndex_df160_9 : decode cJ0_checkIndex_df160 9 = .ok (.return_, 1) := by decide +kernel
theorem dJ1_charAt_3b067_0 : decode cJ1_charAt_3b067 0 = .ok (.iload_n 1, 1) := by decide +kernel
theorem dJ1_charAt_3b067_1 : decode cJ1_charAt_3b067 1 = .ok (.aload_n 0, 1) := by decide +kernel
theorem dJ1_charAt_3b067_2 : decode cJ1_charAt_3b067 2 = .ok (.arraylength, 1) := by decide +kernel
theorem dJ1_charAt_3b067_3 : decode cJ1_charAt_3b067 3 = .ok (.invokestatic 9, 3) := by decide +kernel
theorem dJ1_charAt_3b067_6 : decode cJ1_charAt_3b067 6 = .ok (.aload_n 0, 1) := by decide +kernel
theorem dJ1_charAt_3b067_7 : decode cJ1_charAt_3b067 7 = .ok (.iload_n 1, 1) := by decide +kernel
theorem dJ1_charAt_3b067_8 : decode cJ1_charAt_3b067 8 = .ok (.baload, 1) := by decide +kernel
theorem dJ1_charAt_3b067_9 : decode cJ1_charAt_3b067 9 = .ok (.sipush 255, 3) := by decide +kernel
theorem dJ1_charAt_3b067_12 : decode cJ1_charAt_3b067 12 = .ok (.iand, 1) := by decide +kernel
theorem dJ1_charAt_3b067_13 : decode cJ1_charAt_3b067 13 = .ok (.i2c, 1) := by decide +kernel
theorem dJ1_charAt_3b067_14 : decode cJ1_charAt_3b067 14 = .ok (.ireturn, 1) := by decide +kernel
theorem dJ0_charAt_5068e_0 : decode cJ0_charAt_5068e 0 = .ok (.aload_n 0, 1) := by decide +kernel
theorem dJ0_charAt_5068e_1 : decode cJ0_charAt_5068e 1 = .ok (.invokevirtual 492, 3) := by decide +kernel
theorem dJ0_charAt_5068e_4 : decode cJ0_charAt_5068e 4 = .ok (.ifCond .eq 12, 3) := by decide +kernel
theorem dJ0_charAt_5068e_7 : decode cJ0_charAt_5068e 7 = .ok (.aload_n 0, 1) := by decide +kernel
theorem dJ0_charAt_5068e_8 : decode cJ0_charAt_5068e 8 = .ok (.getfield 9, 3) := by decide +kernel
theorem dJ0_charAt_5068e_11 : decode cJ0_charAt_5068e 11 = .ok (.iload_n 1, 1) := by decide +kernel
theorem dJ0_charAt_5068e_12 : decode cJ0_charAt_5068e 12 = .ok (.invokestatic 495, 3) := by decide +kernel
theorem dJ0_charAt_5068e_15 : decode cJ0_charAt_5068e 15 = .ok (.ireturn, 1) := by decide +kernel
theorem dJ0_charAt_5068e_16 : decode cJ0_charAt_5068e 16 = .ok (.aload_n 0, 1) := by decide +kernel
theorem dJ0_charAt_5068e_17 : decode cJ0_charAt_5068e 17 = .ok (.getfield 9, 3) := by decide +kernel
theorem dJ0_charAt_5068e_20 : decode cJ0_charAt_5068e 20 = .ok (.iload_n 1, 1) := by decide +kernel
theorem dJ0_charAt_5068e_21 : decode cJ0_charAt_5068e 21 = .ok (.invokestatic 498, 3) := by decide +kernel
theorem dJ0_charAt_5068e_24 : decode cJ0_charAt_5068e 24 = .ok (.ireturn, 1) := by decide +kernel
def StrE (own : String) (ix : Nat) (y : MethodName) : Prop := Cond.methodLink own ix y ∈ tb ∧ Cond.instanceMethod y ∈ tb ∧ Cond.selects "java/lang/String" y y ∈ tb
def bV (g : Gv) (j : Nat) : Value := .ref (gV g j)
theorem mt_430 : (Jvm.Cond.fieldLink "java/lang/String" (38 : Nat) "java/lang/String" "COMPACT_STRINGS" "Z") ∈ tb := tb_of 430 (by decide +kernel) (by decide +kernel)
theorem mt_1247 : (Jvm.Cond.fieldLink "java/lang/String" (9 : Nat) "java/lang/String" "value" "[B") ∈ tb := tb_of 1247 (by decide +kernel) (by decide +kernel)
theorem mt_1248 : (Jvm.Cond.fieldLink "java/lang/String" (15 : Nat) "java/lang/String" "coder" "B") ∈ tb := tb_of 1248 (by decide +kernel) (by decide +kernel)
theorem mt_446 : (Jvm.Cond.fieldLink "java/lang/String" (1053 : Nat) "jdk/internal/util/Preconditions" "SIOOBE_FORMATTER" "Ljava/util/function/BiFunction;") ∈ tb := tb_of 446 (by decide +kernel) (by decide +kernel)
theorem mt_429 : (Jvm.Cond.code ({ cls := "java/lang/String", name := "coder", desc := "()B" } : Jvm.MethodName) prog_17_method_152_code (1 : Nat) (Option.some Jvm.ClassFile.FieldType.byte)) ∈ tb := tb_of 429 (by decide +kernel) (by decide +kernel)
theorem mt_72 : (Jvm.Cond.initialized "java/lang/String") ∈ tb := tb_of 72 (by decide +kernel) (by decide +kernel)
theorem mt_439 : (Jvm.Cond.code ({ cls := "java/lang/String", name := "isLatin1", desc := "()Z" } : Jvm.MethodName) prog_17_method_154_code (1 : Nat) (Option.some Jvm.ClassFile.FieldType.boolean)) ∈ tb := tb_of 439 (by decide +kernel) (by decide +kernel)
theorem mt_425 : (Jvm.Cond.code ({ cls := "java/lang/String", name := "length", desc := "()I" } : Jvm.MethodName) prog_17_method_54_code (1 : Nat) (Option.some Jvm.ClassFile.FieldType.int)) ∈ tb := tb_of 425 (by decide +kernel) (by decide +kernel)
theorem mt_450 : (Jvm.Cond.code ({ cls := "jdk/internal/util/Preconditions", name := "checkIndex", desc := "(IILjava/util/function/BiFunction;)I" } : Jvm.MethodName) prog_21_method_11_code (3 : Nat) (Option.some Jvm.ClassFile.FieldType.int)) ∈ tb := tb_of 450 (by decide +kernel) (by decide +kernel)
theorem mt_74 : (Jvm.Cond.initialized "jdk/internal/util/Preconditions") ∈ tb := tb_of 74 (by decide +kernel) (by decide +kernel)
theorem mt_445 : (Jvm.Cond.code ({ cls := "java/lang/String", name := "checkIndex", desc := "(II)V" } : Jvm.MethodName) prog_17_method_155_code (2 : Nat) (Option.none : Option Jvm.ClassFile.FieldType)) ∈ tb := tb_of 445 (by decide +kernel) (by decide +kernel)
theorem mt_442 : (Jvm.Cond.code ({ cls := "java/lang/StringLatin1", name := "charAt", desc := "([BI)C" } : Jvm.MethodName) prog_18_method_2_code (2 : Nat) (Option.some Jvm.ClassFile.FieldType.char)) ∈ tb := tb_of 442 (by decide +kernel) (by decide +kernel)
theorem mt_73 : (Jvm.Cond.initialized "java/lang/StringLatin1") ∈ tb := tb_of 73 (by decide +kernel) (by decide +kernel)
theorem mt_435 : (Jvm.Cond.code ({ cls := "java/lang/String", name := "charAt", desc := "(I)C" } : Jvm.MethodName) prog_17_method_56_code (2 : Nat) (Option.some Jvm.ClassFile.FieldType.char)) ∈ tb := tb_of 435 (by decide +kernel) (by decide +kernel)
theorem mt_426 : (Jvm.Cond.methodLink "java/lang/String" (335 : Nat) ({ cls := "java/lang/String", name := "coder", desc := "()B" } : Jvm.MethodName)) ∈ tb := tb_of 426 (by decide +kernel) (by decide +kernel)
theorem mt_427 : (Jvm.Cond.instanceMethod ({ cls := "java/lang/String", name := "coder", desc := "()B" } : Jvm.MethodName)) ∈ tb := tb_of 427 (by decide +kernel) (by decide +kernel)
theorem mt_428 : (Jvm.Cond.selects "java/lang/String" ({ cls := "java/lang/String", name := "coder", desc := "()B" } : Jvm.MethodName) ({ cls := "java/lang/String", name := "coder", desc := "()B" } : Jvm.MethodName)) ∈ tb := tb_of 428 (by decide +kernel) (by decide +kernel)
theorem mt_422 : (Jvm.Cond.methodLink "GrindMill$Text" (98 : Nat) ({ cls := "java/lang/String", name := "length", desc := "()I" } : Jvm.MethodName)) ∈ tb := tb_of 422 (by decide +kernel) (by decide +kernel)
theorem mt_423 : (Jvm.Cond.instanceMethod ({ cls := "java/lang/String", name := "length", desc := "()I" } : Jvm.MethodName)) ∈ tb := tb_of 423 (by decide +kernel) (by decide +kernel)
theorem mt_424 : (Jvm.Cond.selects "java/lang/String" ({ cls := "java/lang/String", name := "length", desc := "()I" } : Jvm.MethodName) ({ cls := "java/lang/String", name := "length", desc := "()I" } : Jvm.MethodName)) ∈ tb := tb_of 424 (by decide +kernel) (by decide +kernel)
theorem mt_432 : (Jvm.Cond.methodLink "GrindMill$Text" (103 : Nat) ({ cls := "java/lang/String", name := "charAt", desc := "(I)C" } : Jvm.MethodName)) ∈ tb := tb_of 432 (by decide +kernel) (by decide +kernel)
theorem mt_433 : (Jvm.Cond.instanceMethod ({ cls := "java/lang/String", name := "charAt", desc := "(I)C" } : Jvm.MethodName)) ∈ tb := tb_of 433 (by decide +kernel) (by decide +kernel)
theorem mt_434 : (Jvm.Cond.selects "java/lang/String" ({ cls := "java/lang/String", name := "charAt", desc := "(I)C" } : Jvm.MethodName) ({ cls := "java/lang/String", name := "charAt", desc := "(I)C" } : Jvm.MethodName)) ∈ tb := tb_of 434 (by decide +kernel) (by decide +kernel)
theorem mt_436 : (Jvm.Cond.methodLink "java/lang/String" (492 : Nat) ({ cls := "java/lang/String", name := "isLatin1", desc := "()Z" } : Jvm.MethodName)) ∈ tb := tb_of 436 (by decide +kernel) (by decide +kernel)
theorem mt_437 : (Jvm.Cond.instanceMethod ({ cls := "java/lang/String", name := "isLatin1", desc := "()Z" } : Jvm.MethodName)) ∈ tb := tb_of 437 (by decide +kernel) (by decide +kernel)
theorem mt_438 : (Jvm.Cond.selects "java/lang/String" ({ cls := "java/lang/String", name := "isLatin1", desc := "()Z" } : Jvm.MethodName) ({ cls := "java/lang/String", name := "isLatin1", desc := "()Z" } : Jvm.MethodName)) ∈ tb := tb_of 438 (by decide +kernel) (by decide +kernel)
theorem mt_440 : (Jvm.Cond.methodLink "java/lang/String" (495 : Nat) ({ cls := "java/lang/StringLatin1", name := "charAt", desc := "([BI)C" } : Jvm.MethodName)) ∈ tb := tb_of 440 (by decide +kernel) (by decide +kernel)
theorem mt_441 : (Jvm.Cond.static ({ cls := "java/lang/StringLatin1", name := "charAt", desc := "([BI)C" } : Jvm.MethodName)) ∈ tb := tb_of 441 (by decide +kernel) (by decide +kernel)
theorem mt_443 : (Jvm.Cond.methodLink "java/lang/StringLatin1" (9 : Nat) ({ cls := "java/lang/String", name := "checkIndex", desc := "(II)V" } : Jvm.MethodName)) ∈ tb := tb_of 443 (by decide +kernel) (by decide +kernel)
theorem mt_444 : (Jvm.Cond.static ({ cls := "java/lang/String", name := "checkIndex", desc := "(II)V" } : Jvm.MethodName)) ∈ tb := tb_of 444 (by decide +kernel) (by decide +kernel)
theorem mt_448 : (Jvm.Cond.methodLink "java/lang/String" (1059 : Nat) ({ cls := "jdk/internal/util/Preconditions", name := "checkIndex", desc := "(IILjava/util/function/BiFunction;)I" } : Jvm.MethodName)) ∈ tb := tb_of 448 (by decide +kernel) (by decide +kernel)
theorem mt_449 : (Jvm.Cond.static ({ cls := "jdk/internal/util/Preconditions", name := "checkIndex", desc := "(IILjava/util/function/BiFunction;)I" } : Jvm.MethodName)) ∈ tb := tb_of 449 (by decide +kernel) (by decide +kernel)
section KS
variable {X : Xt} {own : String} {cc : ByteArray} {nL fr lo mc ms cs sl pc : Nat} {Q : State → Prop} {w : Wd} {lv lv2 : List (Nat × Value)} {st : List Value}
theorem FW.sw {H : Heap} {locs : List Loc} (h : FW X w H locs cs) : SW (xg X) (xs X) := h.2.2.2.2.2
theorem k_getsC (C : Ok X RJ0 cc nL fr lo mc ms) (d : decode cc pc = .ok (.getstatic 38, 3)) (n : Nat) (hn : n = pc + 3) (kk : Wk X cs sl Q w lv n (.int 1 :: st)) : Wk X cs sl Q w lv pc st := by
  subst hn; exact fun H locs ls hW hl => va_gets C.1 C.2.1 hW.sw.2.2.2.1 hW.2.2.1 C.2.2.2.1 (C.2.2.2.2.1 _ mt_430) (fun _ h => h) d (kk H locs ls hW hl)
theorem k_getsF (C : Ok X RJ0 cc nL fr lo mc ms) (d : decode cc pc = .ok (.getstatic 1053, 3)) (n : Nat) (hn : n = pc + 3) (kk : ∀ v : Value, (v = .null ∨ ∃ t, v = .ref t) → Wk X cs sl Q w lv n (v :: st)) : Wk X cs sl Q w lv pc st := by
  subst hn
  intro H locs ls hW hl
  rcases hW.sw.2.2.2.2.1 with hz | ⟨t, hz⟩
  · exact va_gets C.1 C.2.1 hz hW.2.2.1 C.2.2.2.1 (C.2.2.2.2.1 _ mt_446) (fun _ h => h) d (kk _ (Or.inl rfl) H locs ls hW hl)
  · exact va_gets C.1 C.2.1 hz hW.2.2.1 C.2.2.2.1 (C.2.2.2.2.1 _ mt_446) (fun _ h => h) d (kk _ (Or.inr ⟨t, rfl⟩) H locs ls hW hl)
theorem k_getCod (C : Ok X RJ0 cc nL fr lo mc ms) {j : Nat} (hj : j < 5) (d : decode cc pc = .ok (.getfield 15, 3)) (n : Nat) (hn : n = pc + 3) (kk : Wk X cs sl Q w lv n (.int 0 :: st)) : Wk X cs sl Q w lv pc (sV (xg X) j :: st) := by
  subst hn; exact fun H locs ls hW hl => vk_getf C.1 C.2.1 (hW.sw.2.1.1 j hj).2.1 hW.2.2.1 C.2.2.2.1 (C.2.2.2.2.1 _ mt_1248) (fun _ h => h) d (kk H locs ls hW hl)
theorem k_getVal (C : Ok X RJ0 cc nL fr lo mc ms) {j : Nat} (hj : j < 5) (d : decode cc pc = .ok (.getfield 9, 3)) (n : Nat) (hn : n = pc + 3) (kk : Wk X cs sl Q w lv n (bV (xg X) j :: st)) : Wk X cs sl Q w lv pc (sV (xg X) j :: st) := by
  subst hn; exact fun H locs ls hW hl => vk_getf C.1 C.2.1 (hW.sw.2.1.1 j hj).2.2.1 hW.2.2.1 C.2.2.2.1 (C.2.2.2.2.1 _ mt_1247) (fun _ h => h) d (kk H locs ls hW hl)
theorem k_lenB (C : Ok X own cc nL fr lo mc ms) {j : Nat} (hj : j < 5) (d : decode cc pc = .ok (.arraylength, 1)) (n : Nat) (hn : n = pc + 1) (kk : Wk X cs sl Q w lv n (.int (nI (lenS.getD j 0)) :: st)) : Wk X cs sl Q w lv pc (bV (xg X) j :: st) := by
  subst hn
  intro H locs ls hW hl
  obtain ⟨cell, h1, h2, h3, h4, h5, h6, h7⟩ := (hW.sw.2.1.1 j hj).2.2.2.kept hW.2.2.1.2.1
  exact W.alen C.1 C.2.1 h1 h2 h5 rfl rfl d (kk H locs ls hW hl)
theorem k_baldB (C : Ok X own cc nL fr lo mc ms) {j : Nat} {i : Int32} (hj : j < 5) (hi : vp_in i (lenS.getD j 0)) (d : decode cc pc = .ok (.baload, 1)) (n : Nat) (hn : n = pc + 1) (kk : Wk X cs sl Q w lv n (.int ((bytS.getD j []).getD i.toNatClampNeg 0) :: st)) : Wk X cs sl Q w lv pc (.int i :: bV (xg X) j :: st) := by
  subst hn
  intro H locs ls hW hl
  obtain ⟨cell, h1, h2, h3, h4, h5, h6, h7⟩ := (hW.sw.2.1.1 j hj).2.2.2.kept hW.2.2.1.2.1
  have hlt : i.toNatClampNeg < lenS.getD j 0 := Nat.not_le.mp fun q => hi (Or.inr q)
  exact W.bald (v := .int ((bytS.getD j []).getD i.toNatClampNeg 0)) C.1 C.2.1 h1 h2 h3 (fun q => hi (q.elim Or.inl (fun q => absurd q (by omega)))) (h6 _ hlt) rfl rfl d (kk H locs ls hW hl)
theorem k_nret (C : Ok X own cc nL fr lo mc ms) {ty : FieldType} (hr : (xme X).sig.returnType = some ty) {w0 : Wd} {x : Int32} (hnr : narrow ty (.int x) = .int x) (h0 : gB (xg X) + wN w0 = (xs X).heap.size) (d : decode cc pc = .ok (.ireturn, 1)) : Wk X 0 0 (QI X w0 x w) w lv pc [.int x] := by
  intro H locs ls hW hl
  refine W.sized (fun hs => ?_)
  have hsz := hW.size hs
  exact W.zret C.1 C.2.1 hr hnr (fun t ht hWm => ⟨⟨x, (), rfl, ⟨rfl, by have := hW.2.2.2.1; omega⟩, va_K.moved hWm.alike hW.1, by rw [ht]; exact hW.2.1, by rw [ht]; exact hsz⟩, hW.2.2.1.F ht⟩) hW.2.2.1.2.2 d (hlocks := C.2.2.2.2.2.1)
theorem k_callStr (C : Ok X own cc nL fr lo mc ms) {rt : FieldType} {ix mL fr2 lo2 n : Nat} {j : Nat} {y : MethodName} {b : ByteArray} (hj : j < 5) (Y : YE y b mL (some rt) n) (V : StrE own ix y) (hR : Nat.ble (fr2 + 1) fr = true ∧ Nat.ble (8 + (mL + 11) + lo2) lo = true) (hc : Nat.ble (cs + 0) mc = true ∧ Nat.ble (sl + 0) ms = true) (d : decode cc pc = .ok (.invokevirtual ix, 3)) (As : List Value) {st0 : List Value} (hst : st0 = As.reverse ++ sV (xg X) j :: st) (hlen : As.length = n) (hcat : (st.map fun v => v.category).sum ≤ 8) {r : Int32} (M : MI (xg X) (xl X) y b mL rt fr2 lo2 (sV (xg X) j :: As) w r w) (n2 : Nat) (hn : n2 = pc + 3) (kk : Wk X cs sl Q w lv n2 (.int r :: st)) : Wk X cs sl Q w lv pc st0 := by
  subst hn
  intro H locs ls hW hl
  refine W.sized (fun hs => ?_)
  exact kc_i (va_runV ⟨C.1, C.2.1, C.2.2.1, C.2.2.2.1, C.2.2.2.2.1⟩ M ⟨callB_of n C.2.2.2.2.1 (tb_goodIn Y.1) rfl rfl rfl (C.2.2.2.2.1 _ Y.2.1) (C.2.2.2.2.1 _ V.1) Y.2.2 (rm_ok C hR), C.2.2.2.2.1 _ V.2.1, C.2.2.2.2.1 _ V.2.2⟩ ⟨pc_blind, vk_recv hW.sw.2.1 hj hW.2.2.1, pc_pre hW hs⟩ rfl hlen hl.1 hst (lv_room hcat) d (cs_ok C hc)) hW hl kk
end KS
theorem ye_J0_coder_7d493 : YE yJ0_coder_7d493 cJ0_coder_7d493 1 (some .byte) 0 := ⟨mt_429, mt_72, by decide +kernel, by decide +kernel, by decide +kernel⟩
theorem ye_J0_isLatin1_aae02 : YE yJ0_isLatin1_aae02 cJ0_isLatin1_aae02 1 (some .boolean) 0 := ⟨mt_439, mt_72, by decide +kernel, by decide +kernel, by decide +kernel⟩
theorem ye_J0_length_8abf5 : YE yJ0_length_8abf5 cJ0_length_8abf5 1 (some .int) 0 := ⟨mt_425, mt_72, by decide +kernel, by decide +kernel, by decide +kernel⟩
theorem ye_J3_checkIndex_8e157 : YE yJ3_checkIndex_8e157 cJ3_checkIndex_8e157 3 (some .int) 3 := ⟨mt_450, mt_74, by decide +kernel, by decide +kernel, by decide +kernel⟩
theorem ye_J0_checkIndex_df160 : YE yJ0_checkIndex_df160 cJ0_checkIndex_df160 2 none 2 := ⟨mt_445, mt_72, by decide +kernel, by decide +kernel, by decide +kernel⟩
theorem ye_J1_charAt_3b067 : YE yJ1_charAt_3b067 cJ1_charAt_3b067 2 (some .char) 2 := ⟨mt_442, mt_73, by decide +kernel, by decide +kernel, by decide +kernel⟩
theorem ye_J0_charAt_5068e : YE yJ0_charAt_5068e cJ0_charAt_5068e 2 (some .char) 1 := ⟨mt_435, mt_72, by decide +kernel, by decide +kernel, by decide +kernel⟩
theorem stv_J0_335 : StrE RJ0 335 yJ0_coder_7d493 := ⟨mt_426, mt_427, mt_428⟩
theorem stv_X10_98 : StrE RX10 98 yJ0_length_8abf5 := ⟨mt_422, mt_423, mt_424⟩
theorem stv_X10_103 : StrE RX10 103 yJ0_charAt_5068e := ⟨mt_432, mt_433, mt_434⟩
theorem stv_J0_492 : StrE RJ0 492 yJ0_isLatin1_aae02 := ⟨mt_436, mt_437, mt_438⟩
theorem se_J0_495 : SE RJ0 495 yJ1_charAt_3b067 := ⟨mt_440, mt_441⟩
theorem se_J1_9 : SE RJ1 9 yJ0_checkIndex_df160 := ⟨mt_443, mt_444⟩
theorem se_J0_1059 : SE RJ0 1059 yJ3_checkIndex_8e157 := ⟨mt_448, mt_449⟩
set_option maxRecDepth 100000 in
theorem c_coder {g : Gv} {l : Launch} (j : Nat) (hj : j < 5) (w : Wd) : MI g l yJ0_coder_7d493 cJ0_coder_7d493 1 .byte 0 0 [sV g j] w 0 w := by
  refine mi_of RJ0 (by decide) rfl (Nat.le_of_ble_eq_true rfl) ?_
  intro X hg hll C hr h0
  subst hg; subst hll
  refine k_sub (lv2 := [(0, sV (xg X) j)]) [0] rfl ?_
  refine k_getsC C dJ0_coder_7d493_0 3 rfl ?_
  refine k_if_eq (z := ()) C dJ0_coder_7d493_3 (show (if (1 : Int32) = 0 then none else some ()) = some () by decide) 13 rfl 6 rfl (fun hf => by cases hf) (fun hf => ?_)
  refine k_aload_n C dJ0_coder_7d493_6 0 rfl rfl 7 rfl ?_
  refine k_getCod C hj dJ0_coder_7d493_7 10 rfl ?_
  refine k_goto C dJ0_coder_7d493_10 14 rfl ?_
  exact k_nret C hr rfl h0 dJ0_coder_7d493_14
set_option maxRecDepth 100000 in
theorem c_isLatin1 {g : Gv} {l : Launch} (j : Nat) (hj : j < 5) (w : Wd) : MI g l yJ0_isLatin1_aae02 cJ0_isLatin1_aae02 1 .boolean 0 0 [sV g j] w 1 w := by
  refine mi_of RJ0 (by decide) rfl (Nat.le_of_ble_eq_true rfl) ?_
  intro X hg hll C hr h0
  subst hg; subst hll
  refine k_sub (lv2 := [(0, sV (xg X) j)]) [0] rfl ?_
  refine k_getsC C dJ0_isLatin1_aae02_0 3 rfl ?_
  refine k_if_eq (z := ()) C dJ0_isLatin1_aae02_3 (show (if (1 : Int32) = 0 then none else some ()) = some () by decide) 17 rfl 6 rfl (fun hf => by cases hf) (fun hf => ?_)
  refine k_aload_n C dJ0_isLatin1_aae02_6 0 rfl rfl 7 rfl ?_
  refine k_getCod C hj dJ0_isLatin1_aae02_7 10 rfl ?_
  refine k_if_ne (z := ()) C dJ0_isLatin1_aae02_10 (show (if (0 : Int32) = 0 then some () else none) = some () by decide) 17 rfl 13 rfl (fun hf => by cases hf) (fun hf => ?_)
  refine k_iconst C dJ0_isLatin1_aae02_13 (1) (by decide) 14 rfl ?_
  refine k_goto C dJ0_isLatin1_aae02_14 18 rfl ?_
  exact k_nret C hr rfl h0 dJ0_isLatin1_aae02_18
set_option maxRecDepth 100000 in
theorem c_length {g : Gv} {l : Launch} (j : Nat) (hj : j < 5) (w : Wd) : MI g l yJ0_length_8abf5 cJ0_length_8abf5 1 .int 1 20 [sV g j] w (nI (lenS.getD j 0)) w := by
  refine mi_of RJ0 (by decide) rfl (Nat.le_of_ble_eq_true rfl) ?_
  intro X hg hll C hr h0
  subst hg; subst hll
  refine k_sub (lv2 := [(0, sV (xg X) j)]) [0] rfl ?_
  refine k_aload_n C dJ0_length_8abf5_0 0 rfl rfl 1 rfl ?_
  refine k_getVal C hj dJ0_length_8abf5_1 4 rfl ?_
  refine k_lenB C hj dJ0_length_8abf5_4 5 rfl ?_
  refine k_aload_n C dJ0_length_8abf5_5 0 rfl rfl 6 rfl ?_
  refine k_callStr C hj ye_J0_coder_7d493 stv_J0_335 ⟨rfl, rfl⟩ ⟨rfl, rfl⟩ dJ0_length_8abf5_6 [] rfl rfl (Nat.le_of_ble_eq_true rfl) (c_coder j hj w) 9 rfl ?_
  refine k_ishr C dJ0_length_8abf5_9 10 rfl ?_
  exact k_iret C hr h0 dJ0_length_8abf5_10 (by rw [sb_shr0])
set_option maxRecDepth 100000 in
theorem c_checkP {g : Gv} {l : Launch} (i n : Int32) (v : Value) (hv : v = .null ∨ ∃ t, v = .ref t) (h1 : ¬ i < 0) (h2 : i < n) (w : Wd) : MI g l yJ3_checkIndex_8e157 cJ3_checkIndex_8e157 3 .int 0 0 [.int i, .int n, v] w i w := by
  refine mi_of RJ3 (by decide) rfl (by rcases hv with rfl | ⟨t, rfl⟩ <;> exact Nat.le_of_ble_eq_true rfl) ?_
  intro X hg hll C hr h0
  subst hg; subst hll
  refine k_sub (lv2 := [(0, .int i), (1, .int n)]) [0, 1] rfl ?_
  refine k_iload_n C dJ3_checkIndex_8e157_0 0 rfl 1 rfl ?_
  refine k_if_lt (z := ()) C dJ3_checkIndex_8e157_1 (show (if i < 0 then none else some ()) = some () by rw [if_neg h1]) 9 rfl 4 rfl (fun hf => by cases hf) (fun hf => ?_)
  refine k_iload_n C dJ3_checkIndex_8e157_4 0 rfl 5 rfl ?_
  refine k_iload_n C dJ3_checkIndex_8e157_5 1 rfl 6 rfl ?_
  refine k_icmp_lt (z := ()) C dJ3_checkIndex_8e157_6 (show (if i < n then some () else none) = some () by rw [if_pos h2]) 16 rfl 9 rfl (fun hf => ?_) (fun hf => by cases hf)
  refine k_iload_n C dJ3_checkIndex_8e157_16 0 rfl 17 rfl ?_
  exact k_iret C hr h0 dJ3_checkIndex_8e157_17 rfl
set_option maxRecDepth 100000 in
theorem c_checkS {g : Gv} {l : Launch} (i n : Int32) (h1 : ¬ i < 0) (h2 : i < n) (w : Wd) : MV g l yJ0_checkIndex_df160 cJ0_checkIndex_df160 2 1 22 0 0 [.int i, .int n] w w := by
  refine mv_of RJ0 (by decide) rfl (Nat.le_of_ble_eq_true rfl) ?_
  intro X hg hll C hr h0 hin
  subst hg; subst hll
  refine k_sub (lv2 := [(0, .int i), (1, .int n)]) [0, 1] rfl ?_
  refine k_iload_n C dJ0_checkIndex_df160_0 0 rfl 1 rfl ?_
  refine k_iload_n C dJ0_checkIndex_df160_1 1 rfl 2 rfl ?_
  refine k_getsF C dJ0_checkIndex_df160_2 5 rfl (fun v hv => ?_)
  refine k_callS_i (z := (i, w)) (F := some (i, w)) (K := fun r w1 => some (r, w1)) C ye_J3_checkIndex_8e157 se_J0_1059 ⟨rfl, rfl⟩ ⟨rfl, rfl⟩ dJ0_checkIndex_df160_5 [.int i, .int n, v] rfl rfl (Nat.le_of_ble_eq_true rfl) (fun r w1 h => by cases h; exact c_checkP i n v hv h1 h2 w) rfl 8 rfl (fun r w1 hf => ?_)
  cases hf
  refine k_pop C dJ0_checkIndex_df160_8 rfl 9 rfl ?_
  exact k_vret C hr h0 dJ0_checkIndex_df160_9 rfl
theorem ch_all : ∀ j, j < 5 → ∀ k, k < lenS.getD j 0 → ((((bytS.getD j []).getD k 0) &&& 255).toUInt32 % 65536).toInt32 = (bytS.getD j []).getD k 0 ∧ narrow .char (.int ((bytS.getD j []).getD k 0)) = .int ((bytS.getD j []).getD k 0) := by decide +kernel
theorem len_all : ∀ j, j < 5 → lenS.getD j 0 < 10 := by decide
set_option maxRecDepth 100000 in
theorem c_charL {g : Gv} {l : Launch} (j : Nat) (hj : j < 5) (i : Int32) (h1 : 0 ≤ i) (h2 : i.toNatClampNeg < lenS.getD j 0) (w : Wd) : MI g l yJ1_charAt_3b067 cJ1_charAt_3b067 2 .char 2 43 [bV g j, .int i] w ((bytS.getD j []).getD i.toNatClampNeg 0) w := by
  have h9 := len_all j hj
  have hi : i = nI i.toNatClampNeg := by
    obtain ⟨k, hk, e⟩ := nI_of (Int32.not_lt.mpr h1)
    rw [e, nI_clamp hk]
  have h1' : ¬ i < 0 := Int32.not_lt.mpr h1
  have h2' : i < nI (lenS.getD j 0) := by
    rw [hi]
    exact nI_lt h2 (by omega)
  have hvp : vp_in i (lenS.getD j 0) := by rw [hi]; exact vp_in_nI h2 (by omega)
  obtain ⟨q1, q2⟩ := ch_all j hj _ h2
  refine mi_of RJ1 (by decide) rfl (Nat.le_of_ble_eq_true rfl) ?_
  intro X hg hll C hr h0
  subst hg; subst hll
  refine k_sub (lv2 := [(0, bV (xg X) j), (1, .int i)]) [0, 1] rfl ?_
  refine k_iload_n C dJ1_charAt_3b067_0 1 rfl 1 rfl ?_
  refine k_aload_n C dJ1_charAt_3b067_1 0 rfl rfl 2 rfl ?_
  refine k_lenB C hj dJ1_charAt_3b067_2 3 rfl ?_
  refine k_callS_v (z := w) (F := some ((), w)) (K := fun _ w1 => some w1) C ye_J0_checkIndex_df160 se_J1_9 ⟨rfl, rfl⟩ ⟨rfl, rfl⟩ dJ1_charAt_3b067_3 [.int i, .int (nI (lenS.getD j 0))] rfl rfl (Nat.le_of_ble_eq_true rfl) (fun w1 h => by cases h; exact c_checkS i _ h1' h2' w) rfl 6 rfl (fun w1 hf => ?_)
  cases hf
  refine k_aload_n C dJ1_charAt_3b067_6 0 rfl rfl 7 rfl ?_
  refine k_iload_n C dJ1_charAt_3b067_7 1 rfl 8 rfl ?_
  refine k_baldB C hj hvp dJ1_charAt_3b067_8 9 rfl ?_
  refine k_sipush C dJ1_charAt_3b067_9 (255) (by decide) 12 rfl ?_
  refine k_iand C dJ1_charAt_3b067_12 13 rfl ?_
  refine k_i2c C dJ1_charAt_3b067_13 14 rfl ?_
  rw [q1]
  exact k_nret C hr q2 h0 dJ1_charAt_3b067_14
set_option maxRecDepth 100000 in
theorem c_charAt {g : Gv} {l : Launch} (j : Nat) (hj : j < 5) (i : Int32) (h1 : 0 ≤ i) (h2 : i.toNatClampNeg < lenS.getD j 0) (w : Wd) : MI g l yJ0_charAt_5068e cJ0_charAt_5068e 2 .char 3 64 [sV g j, .int i] w ((bytS.getD j []).getD i.toNatClampNeg 0) w := by
  obtain ⟨q1, q2⟩ := ch_all j hj _ h2
  refine mi_of RJ0 (by decide) rfl (Nat.le_of_ble_eq_true rfl) ?_
  intro X hg hll C hr h0
  subst hg; subst hll
  refine k_sub (lv2 := [(0, sV (xg X) j), (1, .int i)]) [0, 1] rfl ?_
  refine k_aload_n C dJ0_charAt_5068e_0 0 rfl rfl 1 rfl ?_
  refine k_callStr C hj ye_J0_isLatin1_aae02 stv_J0_492 ⟨rfl, rfl⟩ ⟨rfl, rfl⟩ dJ0_charAt_5068e_1 [] rfl rfl (Nat.le_of_ble_eq_true rfl) (c_isLatin1 j hj w) 4 rfl ?_
  refine k_if_eq (z := ()) C dJ0_charAt_5068e_4 (show (if (1 : Int32) = 0 then none else some ()) = some () by decide) 16 rfl 7 rfl (fun hf => by cases hf) (fun hf => ?_)
  refine k_aload_n C dJ0_charAt_5068e_7 0 rfl rfl 8 rfl ?_
  refine k_getVal C hj dJ0_charAt_5068e_8 11 rfl ?_
  refine k_iload_n C dJ0_charAt_5068e_11 1 rfl 12 rfl ?_
  refine k_callS_i (z := ((bytS.getD j []).getD i.toNatClampNeg 0, w)) (F := some ((bytS.getD j []).getD i.toNatClampNeg 0, w)) (K := fun r w1 => some (r, w1)) C ye_J1_charAt_3b067 se_J0_495 ⟨rfl, rfl⟩ ⟨rfl, rfl⟩ dJ0_charAt_5068e_12 [bV (xg X) j, .int i] rfl rfl (Nat.le_of_ble_eq_true rfl) (fun r w1 h => by cases h; exact c_charL j hj i h1 h2 w) rfl 15 rfl (fun r w1 hf => ?_)
  cases hf
  exact k_nret C hr q2 h0 dJ0_charAt_5068e_15
section KS2
variable {X : Xt} {cc : ByteArray} {nL fr lo mc ms cs sl pc : Nat} {Q : State → Prop} {w : Wd} {lv : List (Nat × Value)} {st : List Value}
theorem ks_length (C : Ok X RX10 cc nL fr lo mc ms) {α : Type} {j : Nat} {K : Int32 → Wd → Option α} {z : α} (hR : Nat.ble 2 fr = true ∧ Nat.ble 40 lo = true) (hc : Nat.ble (cs + 0) mc = true ∧ Nat.ble (sl + 0) ms = true) (d : decode cc pc = .ok (.invokevirtual 98, 3)) (As : List Value) (hA : As = []) (hcat : (st.map fun v => v.category).sum ≤ 8) (hf : cal (f_S_length j w) K = some z) (n2 : Nat) (hn : n2 = pc + 3) (kk : ∀ r w1, K r w1 = some z → Wk X cs sl Q w1 lv n2 (.int r :: st)) : Wk X cs sl Q w lv pc (sV (xg X) j :: st) := by
  obtain ⟨r, w1, h3, h2⟩ := cal_s hf
  unfold f_S_length at h3
  split at h3
  · rename_i hj
    cases h3
    exact k_callStr C hj ye_J0_length_8abf5 stv_X10_98 hR hc d [] rfl rfl hcat (c_length j hj w) n2 hn (kk _ _ h2)
  · cases h3
theorem ks_charAt (C : Ok X RX10 cc nL fr lo mc ms) {α : Type} {j : Nat} {i : Int32} {K : Int32 → Wd → Option α} {z : α} (hR : Nat.ble 4 fr = true ∧ Nat.ble 85 lo = true) (hc : Nat.ble (cs + 0) mc = true ∧ Nat.ble (sl + 0) ms = true) (d : decode cc pc = .ok (.invokevirtual 103, 3)) (As : List Value) (hA : As = [.int i]) (hcat : (st.map fun v => v.category).sum ≤ 8) (hf : cal (f_S_charAt j i w) K = some z) (n2 : Nat) (hn : n2 = pc + 3) (kk : ∀ r w1, K r w1 = some z → Wk X cs sl Q w1 lv n2 (.int r :: st)) : Wk X cs sl Q w lv pc (.int i :: sV (xg X) j :: st) := by
  obtain ⟨r, w1, h3, h2⟩ := cal_s hf
  unfold f_S_charAt at h3
  split at h3
  · rename_i hj
    cases h3
    exact k_callStr C hj.1 ye_J0_charAt_5068e stv_X10_103 hR hc d [.int i] rfl rfl hcat (c_charAt j hj.1 i hj.2.1 hj.2.2 w) n2 hn (kk _ _ h2)
  · cases h3
end KS2
