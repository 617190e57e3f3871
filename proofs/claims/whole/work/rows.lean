section
-- ===== PART A: goes FIRST, ahead of the names: the tables' words, and 'selects' of the private methods out of them =====
/-- a private method of a class that the tables say can be made, by its rows of tables_1 -/
def lw_okq (q : MethodName × Nat) : Prop := (q.1.cls ≠ "java/lang/invoke/MethodHandle" ∧ q.1.cls ≠ "java/lang/invoke/VarHandle") ∧ Cond.instantiable q.1.cls q.2 ∈ tables_1 ∧ Cond.privateMethod q.1 ∈ tables_1 ∧ Cond.instanceMethod q.1 ∈ tables_1
theorem lw_p0 : lw_okq (⟨"GrindMill", "refuse", "(I)I"⟩, 9) := ⟨⟨by decide +kernel, by decide +kernel⟩, List.mem_of_getElem? (i := 22) (by decide +kernel), List.mem_of_getElem? (i := 302) (by decide +kernel), List.mem_of_getElem? (i := 303) (by decide +kernel)⟩
theorem lw_p1 : lw_okq (⟨"GrindMill$Text", "passBlanks", "()V"⟩, 4) := ⟨⟨by decide +kernel, by decide +kernel⟩, List.mem_of_getElem? (i := 210) (by decide +kernel), List.mem_of_getElem? (i := 347) (by decide +kernel), List.mem_of_getElem? (i := 348) (by decide +kernel)⟩
theorem lw_p2 : lw_okq (⟨"GrindMill$Text", "readFirstItem", "(LGrindMill$House;)V"⟩, 4) := ⟨⟨by decide +kernel, by decide +kernel⟩, List.mem_of_getElem? (i := 210) (by decide +kernel), List.mem_of_getElem? (i := 351) (by decide +kernel), List.mem_of_getElem? (i := 352) (by decide +kernel)⟩
theorem lw_p3 : lw_okq (⟨"GrindMill$Text", "passLetters", "()V"⟩, 4) := ⟨⟨by decide +kernel, by decide +kernel⟩, List.mem_of_getElem? (i := 210) (by decide +kernel), List.mem_of_getElem? (i := 355) (by decide +kernel), List.mem_of_getElem? (i := 356) (by decide +kernel)⟩
theorem lw_p4 : lw_okq (⟨"GrindMill$Text", "isNamed", "(ILjava/lang/String;)Z"⟩, 4) := ⟨⟨by decide +kernel, by decide +kernel⟩, List.mem_of_getElem? (i := 210) (by decide +kernel), List.mem_of_getElem? (i := 361) (by decide +kernel), List.mem_of_getElem? (i := 362) (by decide +kernel)⟩
theorem lw_p5 : lw_okq (⟨"GrindMill$Text", "readNumber", "(II)I"⟩, 4) := ⟨⟨by decide +kernel, by decide +kernel⟩, List.mem_of_getElem? (i := 210) (by decide +kernel), List.mem_of_getElem? (i := 413) (by decide +kernel), List.mem_of_getElem? (i := 414) (by decide +kernel)⟩
theorem lw_p6 : lw_okq (⟨"GrindMill$Text", "failAt", "(I)V"⟩, 4) := ⟨⟨by decide +kernel, by decide +kernel⟩, List.mem_of_getElem? (i := 210) (by decide +kernel), List.mem_of_getElem? (i := 420) (by decide +kernel), List.mem_of_getElem? (i := 421) (by decide +kernel)⟩
theorem lw_p7 : lw_okq (⟨"GrindMill$Text", "readItemsEnd", "()V"⟩, 4) := ⟨⟨by decide +kernel, by decide +kernel⟩, List.mem_of_getElem? (i := 210) (by decide +kernel), List.mem_of_getElem? (i := 424) (by decide +kernel), List.mem_of_getElem? (i := 425) (by decide +kernel)⟩
theorem lw_p8 : lw_okq (⟨"GrindMill$Text", "readLaterItem", "(LGrindMill$House;)V"⟩, 4) := ⟨⟨by decide +kernel, by decide +kernel⟩, List.mem_of_getElem? (i := 210) (by decide +kernel), List.mem_of_getElem? (i := 428) (by decide +kernel), List.mem_of_getElem? (i := 429) (by decide +kernel)⟩
theorem lw_p9 : lw_okq (⟨"GrindMill$Text", "readGoods", "(LGrindMill$House;I)V"⟩, 4) := ⟨⟨by decide +kernel, by decide +kernel⟩, List.mem_of_getElem? (i := 210) (by decide +kernel), List.mem_of_getElem? (i := 433) (by decide +kernel), List.mem_of_getElem? (i := 434) (by decide +kernel)⟩
theorem lw_p10 : lw_okq (⟨"GrindMill", "refuseApart", "()I"⟩, 9) := ⟨⟨by decide +kernel, by decide +kernel⟩, List.mem_of_getElem? (i := 22) (by decide +kernel), List.mem_of_getElem? (i := 449) (by decide +kernel), List.mem_of_getElem? (i := 450) (by decide +kernel)⟩
theorem lw_p11 : lw_okq (⟨"GrindMill$Plans", "fillYields", "(LGrindMill$House;)V"⟩, 8) := ⟨⟨by decide +kernel, by decide +kernel⟩, List.mem_of_getElem? (i := 233) (by decide +kernel), List.mem_of_getElem? (i := 597) (by decide +kernel), List.mem_of_getElem? (i := 598) (by decide +kernel)⟩
theorem lw_p12 : lw_okq (⟨"GrindMill$Plans", "fillFewest", "(II)V"⟩, 8) := ⟨⟨by decide +kernel, by decide +kernel⟩, List.mem_of_getElem? (i := 233) (by decide +kernel), List.mem_of_getElem? (i := 602) (by decide +kernel), List.mem_of_getElem? (i := 603) (by decide +kernel)⟩
theorem lw_p13 : lw_okq (⟨"GrindMill$Plans", "staysFewest", "(II)Z"⟩, 8) := ⟨⟨by decide +kernel, by decide +kernel⟩, List.mem_of_getElem? (i := 233) (by decide +kernel), List.mem_of_getElem? (i := 607) (by decide +kernel), List.mem_of_getElem? (i := 608) (by decide +kernel)⟩
theorem lw_p14 : lw_okq (⟨"GrindMill$Plans", "fillGains", "(LGrindMill$House;I)V"⟩, 8) := ⟨⟨by decide +kernel, by decide +kernel⟩, List.mem_of_getElem? (i := 233) (by decide +kernel), List.mem_of_getElem? (i := 619) (by decide +kernel), List.mem_of_getElem? (i := 620) (by decide +kernel)⟩
theorem lw_p15 : lw_okq (⟨"GrindMill$Plans", "fillMost", "(II)V"⟩, 8) := ⟨⟨by decide +kernel, by decide +kernel⟩, List.mem_of_getElem? (i := 233) (by decide +kernel), List.mem_of_getElem? (i := 624) (by decide +kernel), List.mem_of_getElem? (i := 625) (by decide +kernel)⟩
def lw_privs_1 : List (MethodName × Nat) := [(⟨"GrindMill", "refuse", "(I)I"⟩, 9), (⟨"GrindMill$Text", "passBlanks", "()V"⟩, 4), (⟨"GrindMill$Text", "readFirstItem", "(LGrindMill$House;)V"⟩, 4), (⟨"GrindMill$Text", "passLetters", "()V"⟩, 4), (⟨"GrindMill$Text", "isNamed", "(ILjava/lang/String;)Z"⟩, 4), (⟨"GrindMill$Text", "readNumber", "(II)I"⟩, 4), (⟨"GrindMill$Text", "failAt", "(I)V"⟩, 4), (⟨"GrindMill$Text", "readItemsEnd", "()V"⟩, 4), (⟨"GrindMill$Text", "readLaterItem", "(LGrindMill$House;)V"⟩, 4), (⟨"GrindMill$Text", "readGoods", "(LGrindMill$House;I)V"⟩, 4), (⟨"GrindMill", "refuseApart", "()I"⟩, 9), (⟨"GrindMill$Plans", "fillYields", "(LGrindMill$House;)V"⟩, 8), (⟨"GrindMill$Plans", "fillFewest", "(II)V"⟩, 8), (⟨"GrindMill$Plans", "staysFewest", "(II)Z"⟩, 8), (⟨"GrindMill$Plans", "fillGains", "(LGrindMill$House;I)V"⟩, 8), (⟨"GrindMill$Plans", "fillMost", "(II)V"⟩, 8)]
theorem lw_r1 : ∀ q ∈ lw_privs_1, lw_okq q := List.forall_mem_cons.mpr ⟨lw_p0, List.forall_mem_cons.mpr ⟨lw_p1, List.forall_mem_cons.mpr ⟨lw_p2, List.forall_mem_cons.mpr ⟨lw_p3, List.forall_mem_cons.mpr ⟨lw_p4, List.forall_mem_cons.mpr ⟨lw_p5, List.forall_mem_cons.mpr ⟨lw_p6, List.forall_mem_cons.mpr ⟨lw_p7, List.forall_mem_cons.mpr ⟨lw_p8, List.forall_mem_cons.mpr ⟨lw_p9, List.forall_mem_cons.mpr ⟨lw_p10, List.forall_mem_cons.mpr ⟨lw_p11, List.forall_mem_cons.mpr ⟨lw_p12, List.forall_mem_cons.mpr ⟨lw_p13, List.forall_mem_cons.mpr ⟨lw_p14, List.forall_mem_cons.mpr ⟨lw_p15, fun _ h => absurd h List.not_mem_nil⟩⟩⟩⟩⟩⟩⟩⟩⟩⟩⟩⟩⟩⟩⟩⟩
theorem lw_p16 : lw_okq (⟨"GrindMill$Clues", "wordFits", "(I)Z"⟩, 8) := ⟨⟨by decide +kernel, by decide +kernel⟩, List.mem_of_getElem? (i := 81) (by decide +kernel), List.mem_of_getElem? (i := 651) (by decide +kernel), List.mem_of_getElem? (i := 652) (by decide +kernel)⟩
theorem lw_p17 : lw_okq (⟨"GrindMill$Clues", "mostAnsweredAlike", "(II)I"⟩, 8) := ⟨⟨by decide +kernel, by decide +kernel⟩, List.mem_of_getElem? (i := 81) (by decide +kernel), List.mem_of_getElem? (i := 668) (by decide +kernel), List.mem_of_getElem? (i := 669) (by decide +kernel)⟩
theorem lw_p18 : lw_okq (⟨"GrindMill$Plans", "fillStreet", "(LGrindMill$House;I)V"⟩, 8) := ⟨⟨by decide +kernel, by decide +kernel⟩, List.mem_of_getElem? (i := 233) (by decide +kernel), List.mem_of_getElem? (i := 681) (by decide +kernel), List.mem_of_getElem? (i := 682) (by decide +kernel)⟩
theorem lw_p19 : lw_okq (⟨"GrindMill$Plans", "pairRests", "(III)Z"⟩, 8) := ⟨⟨by decide +kernel, by decide +kernel⟩, List.mem_of_getElem? (i := 233) (by decide +kernel), List.mem_of_getElem? (i := 686) (by decide +kernel), List.mem_of_getElem? (i := 687) (by decide +kernel)⟩
theorem lw_p20 : lw_okq (⟨"GrindMill$Plans", "firstHas", "(II)I"⟩, 8) := ⟨⟨by decide +kernel, by decide +kernel⟩, List.mem_of_getElem? (i := 233) (by decide +kernel), List.mem_of_getElem? (i := 690) (by decide +kernel), List.mem_of_getElem? (i := 691) (by decide +kernel)⟩
theorem lw_p21 : lw_okq (⟨"GrindMill$Plans", "secondHas", "(II)I"⟩, 8) := ⟨⟨by decide +kernel, by decide +kernel⟩, List.mem_of_getElem? (i := 233) (by decide +kernel), List.mem_of_getElem? (i := 694) (by decide +kernel), List.mem_of_getElem? (i := 695) (by decide +kernel)⟩
theorem lw_p22 : lw_okq (⟨"GrindMill$Clues", "notesFit", "(III)Z"⟩, 8) := ⟨⟨by decide +kernel, by decide +kernel⟩, List.mem_of_getElem? (i := 81) (by decide +kernel), List.mem_of_getElem? (i := 718) (by decide +kernel), List.mem_of_getElem? (i := 719) (by decide +kernel)⟩
theorem lw_p23 : lw_okq (⟨"GrindMill$Clues", "mostGroundAlike", "(IIII)I"⟩, 8) := ⟨⟨by decide +kernel, by decide +kernel⟩, List.mem_of_getElem? (i := 81) (by decide +kernel), List.mem_of_getElem? (i := 736) (by decide +kernel), List.mem_of_getElem? (i := 737) (by decide +kernel)⟩
theorem lw_p24 : lw_okq (⟨"GrindMill$Clues", "fittingLike", "(II)I"⟩, 8) := ⟨⟨by decide +kernel, by decide +kernel⟩, List.mem_of_getElem? (i := 81) (by decide +kernel), List.mem_of_getElem? (i := 740) (by decide +kernel), List.mem_of_getElem? (i := 741) (by decide +kernel)⟩
theorem lw_p25 : lw_okq (⟨"GrindMill", "amountOf", "(I)I"⟩, 9) := ⟨⟨by decide +kernel, by decide +kernel⟩, List.mem_of_getElem? (i := 22) (by decide +kernel), List.mem_of_getElem? (i := 799) (by decide +kernel), List.mem_of_getElem? (i := 800) (by decide +kernel)⟩
theorem lw_p26 : lw_okq (⟨"GrindMillModel", "layMill", "(I)V"⟩, 21) := ⟨⟨by decide +kernel, by decide +kernel⟩, List.mem_of_getElem? (i := 824) (by decide +kernel), List.mem_of_getElem? (i := 830) (by decide +kernel), List.mem_of_getElem? (i := 831) (by decide +kernel)⟩
theorem lw_p27 : lw_okq (⟨"GrindMillModel", "refuse", "(I)I"⟩, 21) := ⟨⟨by decide +kernel, by decide +kernel⟩, List.mem_of_getElem? (i := 824) (by decide +kernel), List.mem_of_getElem? (i := 905) (by decide +kernel), List.mem_of_getElem? (i := 906) (by decide +kernel)⟩
theorem lw_p28 : lw_okq (⟨"GrindMillModel", "addGoods", "(III)V"⟩, 21) := ⟨⟨by decide +kernel, by decide +kernel⟩, List.mem_of_getElem? (i := 824) (by decide +kernel), List.mem_of_getElem? (i := 913) (by decide +kernel), List.mem_of_getElem? (i := 914) (by decide +kernel)⟩
theorem lw_p29 : lw_okq (⟨"GrindMillModel", "readItems", "()I"⟩, 21) := ⟨⟨by decide +kernel, by decide +kernel⟩, List.mem_of_getElem? (i := 824) (by decide +kernel), List.mem_of_getElem? (i := 933) (by decide +kernel), List.mem_of_getElem? (i := 934) (by decide +kernel)⟩
theorem lw_p30 : lw_okq (⟨"GrindMillModel", "next", "()V"⟩, 21) := ⟨⟨by decide +kernel, by decide +kernel⟩, List.mem_of_getElem? (i := 824) (by decide +kernel), List.mem_of_getElem? (i := 937) (by decide +kernel), List.mem_of_getElem? (i := 938) (by decide +kernel)⟩
theorem lw_p31 : lw_okq (⟨"GrindMillModel", "isLetter", "(I)Z"⟩, 21) := ⟨⟨by decide +kernel, by decide +kernel⟩, List.mem_of_getElem? (i := 824) (by decide +kernel), List.mem_of_getElem? (i := 941) (by decide +kernel), List.mem_of_getElem? (i := 942) (by decide +kernel)⟩
def lw_privs_2 : List (MethodName × Nat) := [(⟨"GrindMill$Clues", "wordFits", "(I)Z"⟩, 8), (⟨"GrindMill$Clues", "mostAnsweredAlike", "(II)I"⟩, 8), (⟨"GrindMill$Plans", "fillStreet", "(LGrindMill$House;I)V"⟩, 8), (⟨"GrindMill$Plans", "pairRests", "(III)Z"⟩, 8), (⟨"GrindMill$Plans", "firstHas", "(II)I"⟩, 8), (⟨"GrindMill$Plans", "secondHas", "(II)I"⟩, 8), (⟨"GrindMill$Clues", "notesFit", "(III)Z"⟩, 8), (⟨"GrindMill$Clues", "mostGroundAlike", "(IIII)I"⟩, 8), (⟨"GrindMill$Clues", "fittingLike", "(II)I"⟩, 8), (⟨"GrindMill", "amountOf", "(I)I"⟩, 9), (⟨"GrindMillModel", "layMill", "(I)V"⟩, 21), (⟨"GrindMillModel", "refuse", "(I)I"⟩, 21), (⟨"GrindMillModel", "addGoods", "(III)V"⟩, 21), (⟨"GrindMillModel", "readItems", "()I"⟩, 21), (⟨"GrindMillModel", "next", "()V"⟩, 21), (⟨"GrindMillModel", "isLetter", "(I)Z"⟩, 21)]
theorem lw_r2 : ∀ q ∈ lw_privs_2, lw_okq q := List.forall_mem_cons.mpr ⟨lw_p16, List.forall_mem_cons.mpr ⟨lw_p17, List.forall_mem_cons.mpr ⟨lw_p18, List.forall_mem_cons.mpr ⟨lw_p19, List.forall_mem_cons.mpr ⟨lw_p20, List.forall_mem_cons.mpr ⟨lw_p21, List.forall_mem_cons.mpr ⟨lw_p22, List.forall_mem_cons.mpr ⟨lw_p23, List.forall_mem_cons.mpr ⟨lw_p24, List.forall_mem_cons.mpr ⟨lw_p25, List.forall_mem_cons.mpr ⟨lw_p26, List.forall_mem_cons.mpr ⟨lw_p27, List.forall_mem_cons.mpr ⟨lw_p28, List.forall_mem_cons.mpr ⟨lw_p29, List.forall_mem_cons.mpr ⟨lw_p30, List.forall_mem_cons.mpr ⟨lw_p31, fun _ h => absurd h List.not_mem_nil⟩⟩⟩⟩⟩⟩⟩⟩⟩⟩⟩⟩⟩⟩⟩⟩
theorem lw_p32 : lw_okq (⟨"GrindMillModel", "isFigure", "(I)Z"⟩, 21) := ⟨⟨by decide +kernel, by decide +kernel⟩, List.mem_of_getElem? (i := 824) (by decide +kernel), List.mem_of_getElem? (i := 945) (by decide +kernel), List.mem_of_getElem? (i := 946) (by decide +kernel)⟩
theorem lw_p33 : lw_okq (⟨"GrindMillModel", "wordHere", "()I"⟩, 21) := ⟨⟨by decide +kernel, by decide +kernel⟩, List.mem_of_getElem? (i := 824) (by decide +kernel), List.mem_of_getElem? (i := 949) (by decide +kernel), List.mem_of_getElem? (i := 950) (by decide +kernel)⟩
theorem lw_p34 : lw_okq (⟨"GrindMillModel", "isWord", "(I)Z"⟩, 21) := ⟨⟨by decide +kernel, by decide +kernel⟩, List.mem_of_getElem? (i := 824) (by decide +kernel), List.mem_of_getElem? (i := 953) (by decide +kernel), List.mem_of_getElem? (i := 954) (by decide +kernel)⟩
theorem lw_p35 : lw_okq (⟨"GrindMillModel", "readsItem", "(I)Z"⟩, 21) := ⟨⟨by decide +kernel, by decide +kernel⟩, List.mem_of_getElem? (i := 824) (by decide +kernel), List.mem_of_getElem? (i := 957) (by decide +kernel), List.mem_of_getElem? (i := 958) (by decide +kernel)⟩
theorem lw_p36 : lw_okq (⟨"GrindMillModel", "number", "(II)I"⟩, 21) := ⟨⟨by decide +kernel, by decide +kernel⟩, List.mem_of_getElem? (i := 824) (by decide +kernel), List.mem_of_getElem? (i := 961) (by decide +kernel), List.mem_of_getElem? (i := 962) (by decide +kernel)⟩
theorem lw_p37 : lw_okq (⟨"GrindMillModel", "readsGoods", "()Z"⟩, 21) := ⟨⟨by decide +kernel, by decide +kernel⟩, List.mem_of_getElem? (i := 824) (by decide +kernel), List.mem_of_getElem? (i := 965) (by decide +kernel), List.mem_of_getElem? (i := 966) (by decide +kernel)⟩
theorem lw_p38 : lw_okq (⟨"GrindMillModel", "isGoods", "(I)Z"⟩, 21) := ⟨⟨by decide +kernel, by decide +kernel⟩, List.mem_of_getElem? (i := 824) (by decide +kernel), List.mem_of_getElem? (i := 973) (by decide +kernel), List.mem_of_getElem? (i := 974) (by decide +kernel)⟩
theorem lw_p39 : lw_okq (⟨"GrindMillModel", "badTen", "()I"⟩, 21) := ⟨⟨by decide +kernel, by decide +kernel⟩, List.mem_of_getElem? (i := 824) (by decide +kernel), List.mem_of_getElem? (i := 977) (by decide +kernel), List.mem_of_getElem? (i := 978) (by decide +kernel)⟩
theorem lw_p40 : lw_okq (⟨"GrindMillModel", "keepPast", "()V"⟩, 21) := ⟨⟨by decide +kernel, by decide +kernel⟩, List.mem_of_getElem? (i := 824) (by decide +kernel), List.mem_of_getElem? (i := 981) (by decide +kernel), List.mem_of_getElem? (i := 982) (by decide +kernel)⟩
theorem lw_p41 : lw_okq (⟨"GrindMillModel", "pass", "(II)I"⟩, 21) := ⟨⟨by decide +kernel, by decide +kernel⟩, List.mem_of_getElem? (i := 824) (by decide +kernel), List.mem_of_getElem? (i := 989) (by decide +kernel), List.mem_of_getElem? (i := 990) (by decide +kernel)⟩
theorem lw_p42 : lw_okq (⟨"GrindMillModel", "ground", "(III)I"⟩, 21) := ⟨⟨by decide +kernel, by decide +kernel⟩, List.mem_of_getElem? (i := 824) (by decide +kernel), List.mem_of_getElem? (i := 993) (by decide +kernel), List.mem_of_getElem? (i := 994) (by decide +kernel)⟩
theorem lw_p43 : lw_okq (⟨"GrindMillModel", "inHouse", "(I)I"⟩, 21) := ⟨⟨by decide +kernel, by decide +kernel⟩, List.mem_of_getElem? (i := 824) (by decide +kernel), List.mem_of_getElem? (i := 1000) (by decide +kernel), List.mem_of_getElem? (i := 1001) (by decide +kernel)⟩
theorem lw_p44 : lw_okq (⟨"GrindMillModel", "fetches", "(II)I"⟩, 21) := ⟨⟨by decide +kernel, by decide +kernel⟩, List.mem_of_getElem? (i := 824) (by decide +kernel), List.mem_of_getElem? (i := 1018) (by decide +kernel), List.mem_of_getElem? (i := 1019) (by decide +kernel)⟩
theorem lw_p45 : lw_okq (⟨"GrindMillModel", "layTried", "()V"⟩, 21) := ⟨⟨by decide +kernel, by decide +kernel⟩, List.mem_of_getElem? (i := 824) (by decide +kernel), List.mem_of_getElem? (i := 1042) (by decide +kernel), List.mem_of_getElem? (i := 1043) (by decide +kernel)⟩
theorem lw_p46 : lw_okq (⟨"GrindMillModel", "layFewest", "(I)V"⟩, 21) := ⟨⟨by decide +kernel, by decide +kernel⟩, List.mem_of_getElem? (i := 824) (by decide +kernel), List.mem_of_getElem? (i := 1054) (by decide +kernel), List.mem_of_getElem? (i := 1055) (by decide +kernel)⟩
theorem lw_p47 : lw_okq (⟨"GrindMillModel", "layRichest", "(I)V"⟩, 21) := ⟨⟨by decide +kernel, by decide +kernel⟩, List.mem_of_getElem? (i := 824) (by decide +kernel), List.mem_of_getElem? (i := 1062) (by decide +kernel), List.mem_of_getElem? (i := 1063) (by decide +kernel)⟩
def lw_privs_3 : List (MethodName × Nat) := [(⟨"GrindMillModel", "isFigure", "(I)Z"⟩, 21), (⟨"GrindMillModel", "wordHere", "()I"⟩, 21), (⟨"GrindMillModel", "isWord", "(I)Z"⟩, 21), (⟨"GrindMillModel", "readsItem", "(I)Z"⟩, 21), (⟨"GrindMillModel", "number", "(II)I"⟩, 21), (⟨"GrindMillModel", "readsGoods", "()Z"⟩, 21), (⟨"GrindMillModel", "isGoods", "(I)Z"⟩, 21), (⟨"GrindMillModel", "badTen", "()I"⟩, 21), (⟨"GrindMillModel", "keepPast", "()V"⟩, 21), (⟨"GrindMillModel", "pass", "(II)I"⟩, 21), (⟨"GrindMillModel", "ground", "(III)I"⟩, 21), (⟨"GrindMillModel", "inHouse", "(I)I"⟩, 21), (⟨"GrindMillModel", "fetches", "(II)I"⟩, 21), (⟨"GrindMillModel", "layTried", "()V"⟩, 21), (⟨"GrindMillModel", "layFewest", "(I)V"⟩, 21), (⟨"GrindMillModel", "layRichest", "(I)V"⟩, 21)]
theorem lw_r3 : ∀ q ∈ lw_privs_3, lw_okq q := List.forall_mem_cons.mpr ⟨lw_p32, List.forall_mem_cons.mpr ⟨lw_p33, List.forall_mem_cons.mpr ⟨lw_p34, List.forall_mem_cons.mpr ⟨lw_p35, List.forall_mem_cons.mpr ⟨lw_p36, List.forall_mem_cons.mpr ⟨lw_p37, List.forall_mem_cons.mpr ⟨lw_p38, List.forall_mem_cons.mpr ⟨lw_p39, List.forall_mem_cons.mpr ⟨lw_p40, List.forall_mem_cons.mpr ⟨lw_p41, List.forall_mem_cons.mpr ⟨lw_p42, List.forall_mem_cons.mpr ⟨lw_p43, List.forall_mem_cons.mpr ⟨lw_p44, List.forall_mem_cons.mpr ⟨lw_p45, List.forall_mem_cons.mpr ⟨lw_p46, List.forall_mem_cons.mpr ⟨lw_p47, fun _ h => absurd h List.not_mem_nil⟩⟩⟩⟩⟩⟩⟩⟩⟩⟩⟩⟩⟩⟩⟩⟩
theorem lw_p48 : lw_okq (⟨"GrindMillModel", "brings", "(II)I"⟩, 21) := ⟨⟨by decide +kernel, by decide +kernel⟩, List.mem_of_getElem? (i := 824) (by decide +kernel), List.mem_of_getElem? (i := 1066) (by decide +kernel), List.mem_of_getElem? (i := 1067) (by decide +kernel)⟩
theorem lw_p49 : lw_okq (⟨"GrindMillModel", "mayBe", "(I)Z"⟩, 21) := ⟨⟨by decide +kernel, by decide +kernel⟩, List.mem_of_getElem? (i := 824) (by decide +kernel), List.mem_of_getElem? (i := 1082) (by decide +kernel), List.mem_of_getElem? (i := 1083) (by decide +kernel)⟩
theorem lw_p50 : lw_okq (⟨"GrindMillModel", "mostAlike", "(I)I"⟩, 21) := ⟨⟨by decide +kernel, by decide +kernel⟩, List.mem_of_getElem? (i := 824) (by decide +kernel), List.mem_of_getElem? (i := 1090) (by decide +kernel), List.mem_of_getElem? (i := 1091) (by decide +kernel)⟩
theorem lw_p51 : lw_okq (⟨"GrindMillModel", "layStreet", "(I)V"⟩, 21) := ⟨⟨by decide +kernel, by decide +kernel⟩, List.mem_of_getElem? (i := 824) (by decide +kernel), List.mem_of_getElem? (i := 1098) (by decide +kernel), List.mem_of_getElem? (i := 1099) (by decide +kernel)⟩
theorem lw_p52 : lw_okq (⟨"GrindMillModel", "rests", "(II)Z"⟩, 21) := ⟨⟨by decide +kernel, by decide +kernel⟩, List.mem_of_getElem? (i := 824) (by decide +kernel), List.mem_of_getElem? (i := 1102) (by decide +kernel), List.mem_of_getElem? (i := 1103) (by decide +kernel)⟩
theorem lw_p53 : lw_okq (⟨"GrindMillModel", "kindsOf", "(I)I"⟩, 21) := ⟨⟨by decide +kernel, by decide +kernel⟩, List.mem_of_getElem? (i := 824) (by decide +kernel), List.mem_of_getElem? (i := 1118) (by decide +kernel), List.mem_of_getElem? (i := 1119) (by decide +kernel)⟩
theorem lw_p54 : lw_okq (⟨"GrindMillModel", "isNoted", "(III)Z"⟩, 21) := ⟨⟨by decide +kernel, by decide +kernel⟩, List.mem_of_getElem? (i := 824) (by decide +kernel), List.mem_of_getElem? (i := 1122) (by decide +kernel), List.mem_of_getElem? (i := 1123) (by decide +kernel)⟩
theorem lw_p55 : lw_okq (⟨"GrindMillModel", "mostKinds", "(IIII)I"⟩, 21) := ⟨⟨by decide +kernel, by decide +kernel⟩, List.mem_of_getElem? (i := 824) (by decide +kernel), List.mem_of_getElem? (i := 1130) (by decide +kernel), List.mem_of_getElem? (i := 1131) (by decide +kernel)⟩
theorem lw_p56 : lw_okq (⟨"GrindMillModel", "tellPart", "(JJ)V"⟩, 21) := ⟨⟨by decide +kernel, by decide +kernel⟩, List.mem_of_getElem? (i := 824) (by decide +kernel), List.mem_of_getElem? (i := 1139) (by decide +kernel), List.mem_of_getElem? (i := 1140) (by decide +kernel)⟩
theorem lw_p57 : lw_okq (⟨"GrindMillModel", "countOf", "(I)I"⟩, 21) := ⟨⟨by decide +kernel, by decide +kernel⟩, List.mem_of_getElem? (i := 824) (by decide +kernel), List.mem_of_getElem? (i := 1173) (by decide +kernel), List.mem_of_getElem? (i := 1174) (by decide +kernel)⟩
def lw_privs_4 : List (MethodName × Nat) := [(⟨"GrindMillModel", "brings", "(II)I"⟩, 21), (⟨"GrindMillModel", "mayBe", "(I)Z"⟩, 21), (⟨"GrindMillModel", "mostAlike", "(I)I"⟩, 21), (⟨"GrindMillModel", "layStreet", "(I)V"⟩, 21), (⟨"GrindMillModel", "rests", "(II)Z"⟩, 21), (⟨"GrindMillModel", "kindsOf", "(I)I"⟩, 21), (⟨"GrindMillModel", "isNoted", "(III)Z"⟩, 21), (⟨"GrindMillModel", "mostKinds", "(IIII)I"⟩, 21), (⟨"GrindMillModel", "tellPart", "(JJ)V"⟩, 21), (⟨"GrindMillModel", "countOf", "(I)I"⟩, 21)]
theorem lw_r4 : ∀ q ∈ lw_privs_4, lw_okq q := List.forall_mem_cons.mpr ⟨lw_p48, List.forall_mem_cons.mpr ⟨lw_p49, List.forall_mem_cons.mpr ⟨lw_p50, List.forall_mem_cons.mpr ⟨lw_p51, List.forall_mem_cons.mpr ⟨lw_p52, List.forall_mem_cons.mpr ⟨lw_p53, List.forall_mem_cons.mpr ⟨lw_p54, List.forall_mem_cons.mpr ⟨lw_p55, List.forall_mem_cons.mpr ⟨lw_p56, List.forall_mem_cons.mpr ⟨lw_p57, fun _ h => absurd h List.not_mem_nil⟩⟩⟩⟩⟩⟩⟩⟩⟩⟩
def lw_privs : List (MethodName × Nat) := lw_privs_1 ++ (lw_privs_2 ++ (lw_privs_3 ++ (lw_privs_4)))
def lw_tbl : List Cond := k2_sels lw_privs ++ tables_1
theorem lw_privs_ok : ∀ q ∈ lw_privs, lw_okq q := by
  show ∀ q ∈ lw_privs_1 ++ (lw_privs_2 ++ (lw_privs_3 ++ (lw_privs_4))), lw_okq q
  exact List.forall_mem_append.mpr ⟨lw_r1, List.forall_mem_append.mpr ⟨lw_r2, List.forall_mem_append.mpr ⟨lw_r3, lw_r4⟩⟩⟩
end
section
def RX0 : String := "GrindMill$Clues"
def TX0 : u_T := fun k => match k with
  | 0 => ("GrindMill$Clues", "kinds", "[LGrindMill$Plain;", true)
  | 1 => ("GrindMill$Clues", "guessed", "[I", true)
  | 2 => ("GrindMill$Clues", "answers", "[I", true)
  | 3 => ("GrindMill$Clues", "notes", "[I", true)
  | 4 => ("GrindMill$Clues", "alike", "[I", true)
  | 5 => ("GrindMill$Clues", "yields", "[I", true)
  | 6 => ("GrindMill$Clues", "guessCount", "I", false)
  | _ => ("GrindMill$Clues", "noteCount", "I", false)
def tyX0 : Nat → FieldType := fun k => match k with
  | 0 => .array (.object "GrindMill$Plain")
  | 1 => .array .int
  | 2 => .array .int
  | 3 => .array .int
  | 4 => .array .int
  | 5 => .array .int
  | 6 => .int
  | _ => .int
abbrev wsX00 : List Cond := u_ws RX0 TX0 8
theorem nmX0 : ∀ a, a < 8 → ∀ b, b < 8 → a ≠ b → (TX0 a).2.1 ≠ (TX0 b).2.1 := by decide +kernel
theorem tyX0_ok : ∀ k, k < 8 → parseFieldDescriptor (TX0 k).2.2.1 = some (tyX0 k) := by decide +kernel
abbrev cX0_init : ByteArray := prog_2_method_1_code
def yX0_init : MethodName := ⟨RX0, "<init>", "([LGrindMill$Plain;)V"⟩
abbrev cX0_copyFrom : ByteArray := prog_2_method_2_code
def yX0_copyFrom : MethodName := ⟨RX0, "copyFrom", "(LGrindMill$Clues;)V"⟩
abbrev cX0_addGuess : ByteArray := prog_2_method_3_code
def yX0_addGuess : MethodName := ⟨RX0, "addGuess", "(II)V"⟩
abbrev cX0_addNote : ByteArray := prog_2_method_4_code
def yX0_addNote : MethodName := ⟨RX0, "addNote", "(IIII)V"⟩
abbrev cX0_wordFits : ByteArray := prog_2_method_5_code
def yX0_wordFits : MethodName := ⟨RX0, "wordFits", "(I)Z"⟩
abbrev cX0_fittingWords : ByteArray := prog_2_method_6_code
def yX0_fittingWords : MethodName := ⟨RX0, "fittingWords", "()I"⟩
abbrev cX0_sharpestWord : ByteArray := prog_2_method_7_code
def yX0_sharpestWord : MethodName := ⟨RX0, "sharpestWord", "()I"⟩
abbrev cX0_mostAnsweredAlike : ByteArray := prog_2_method_8_code
def yX0_mostAnsweredAlike : MethodName := ⟨RX0, "mostAnsweredAlike", "(II)I"⟩
abbrev cX0_notesFit : ByteArray := prog_2_method_9_code
def yX0_notesFit : MethodName := ⟨RX0, "notesFit", "(III)Z"⟩
abbrev cX0_fittingKinds : ByteArray := prog_2_method_10_code
def yX0_fittingKinds : MethodName := ⟨RX0, "fittingKinds", "(II)I"⟩
abbrev cX0_fittingRates : ByteArray := prog_2_method_11_code
def yX0_fittingRates : MethodName := ⟨RX0, "fittingRates", "(II)I"⟩
abbrev cX0_sharpestLook : ByteArray := prog_2_method_12_code
def yX0_sharpestLook : MethodName := ⟨RX0, "sharpestLook", "(II)I"⟩
abbrev cX0_mostGroundAlike : ByteArray := prog_2_method_13_code
def yX0_mostGroundAlike : MethodName := ⟨RX0, "mostGroundAlike", "(IIII)I"⟩
abbrev cX0_fittingLike : ByteArray := prog_2_method_14_code
def yX0_fittingLike : MethodName := ⟨RX0, "fittingLike", "(II)I"⟩
abbrev cX0_mixInto : ByteArray := prog_2_method_15_code
def yX0_mixInto : MethodName := ⟨RX0, "mixInto", "(J)J"⟩
def RX1 : String := "GrindMill$Goods"
def TX1 : u_T := fun k => match k with
  | 0 => ("GrindMill$Goods", "kinds", "[LGrindMill$Plain;", true)
  | 1 => ("GrindMill$Goods", "kind", "I", false)
  | 2 => ("GrindMill$Goods", "rate", "I", false)
  | 3 => ("GrindMill$Goods", "price", "I", false)
  | 4 => ("GrindMill$Goods", "bushels", "I", false)
  | _ => ("GrindMill$Goods", "sold", "I", false)
def tyX1 : Nat → FieldType := fun k => match k with
  | 0 => .array (.object "GrindMill$Plain")
  | 1 => .int
  | 2 => .int
  | 3 => .int
  | 4 => .int
  | _ => .int
abbrev wsX10 : List Cond := u_ws RX1 TX1 6
theorem nmX1 : ∀ a, a < 6 → ∀ b, b < 6 → a ≠ b → (TX1 a).2.1 ≠ (TX1 b).2.1 := by decide +kernel
theorem tyX1_ok : ∀ k, k < 6 → parseFieldDescriptor (TX1 k).2.2.1 = some (tyX1 k) := by decide +kernel
abbrev cX1_init : ByteArray := prog_3_method_1_code
def yX1_init : MethodName := ⟨RX1, "<init>", "([LGrindMill$Plain;)V"⟩
abbrev cX1_become : ByteArray := prog_3_method_2_code
def yX1_become : MethodName := ⟨RX1, "become", "(III)V"⟩
abbrev cX1_copyFrom : ByteArray := prog_3_method_3_code
def yX1_copyFrom : MethodName := ⟨RX1, "copyFrom", "(LGrindMill$Goods;)V"⟩
abbrev cX1_groundIn : ByteArray := prog_3_method_4_code
def yX1_groundIn : MethodName := ⟨RX1, "groundIn", "(II)I"⟩
abbrev cX1_fetchesWhen : ByteArray := prog_3_method_5_code
def yX1_fetchesWhen : MethodName := ⟨RX1, "fetchesWhen", "(I)I"⟩
abbrev cX1_fetchedBy : ByteArray := prog_3_method_6_code
def yX1_fetchedBy : MethodName := ⟨RX1, "fetchedBy", "(II)I"⟩
abbrev cX1_giveAway : ByteArray := prog_3_method_7_code
def yX1_giveAway : MethodName := ⟨RX1, "giveAway", "(I)I"⟩
abbrev cX1_mixInto : ByteArray := prog_3_method_8_code
def yX1_mixInto : MethodName := ⟨RX1, "mixInto", "(J)J"⟩
def RX2 : String := "GrindMill$House"
def TX2 : u_T := fun k => match k with
  | 0 => ("GrindMill$House", "goods", "[LGrindMill$Goods;", true)
  | 1 => ("GrindMill$House", "clues", "LGrindMill$Clues;", true)
  | 2 => ("GrindMill$House", "past", "[I", true)
  | 3 => ("GrindMill$House", "pastCount", "I", false)
  | 4 => ("GrindMill$House", "goodsCount", "I", false)
  | 5 => ("GrindMill$House", "held", "I", false)
  | 6 => ("GrindMill$House", "word", "I", false)
  | 7 => ("GrindMill$House", "grinding", "I", false)
  | 8 => ("GrindMill$House", "cold", "I", false)
  | 9 => ("GrindMill$House", "hour", "I", false)
  | 10 => ("GrindMill$House", "spilled", "I", false)
  | _ => ("GrindMill$House", "money", "I", false)
def tyX2 : Nat → FieldType := fun k => match k with
  | 0 => .array (.object "GrindMill$Goods")
  | 1 => .object "GrindMill$Clues"
  | 2 => .array .int
  | 3 => .int
  | 4 => .int
  | 5 => .int
  | 6 => .int
  | 7 => .int
  | 8 => .int
  | 9 => .int
  | 10 => .int
  | _ => .int
abbrev wsX20 : List Cond := u_ws RX2 TX2 12
theorem nmX2 : ∀ a, a < 12 → ∀ b, b < 12 → a ≠ b → (TX2 a).2.1 ≠ (TX2 b).2.1 := by decide +kernel
theorem tyX2_ok : ∀ k, k < 12 → parseFieldDescriptor (TX2 k).2.2.1 = some (tyX2 k) := by decide +kernel
abbrev cX2_init : ByteArray := prog_4_method_1_code
def yX2_init : MethodName := ⟨RX2, "<init>", "([LGrindMill$Plain;)V"⟩
abbrev cX2_startAnew : ByteArray := prog_4_method_2_code
def yX2_startAnew : MethodName := ⟨RX2, "startAnew", "(I)V"⟩
abbrev cX2_copyFrom : ByteArray := prog_4_method_3_code
def yX2_copyFrom : MethodName := ⟨RX2, "copyFrom", "(LGrindMill$House;)V"⟩
abbrev cX2_has : ByteArray := prog_4_method_4_code
def yX2_has : MethodName := ⟨RX2, "has", "(I)Z"⟩
abbrev cX2_addGoods : ByteArray := prog_4_method_5_code
def yX2_addGoods : MethodName := ⟨RX2, "addGoods", "(III)V"⟩
abbrev cX2_allBushels : ByteArray := prog_4_method_6_code
def yX2_allBushels : MethodName := ⟨RX2, "allBushels", "()I"⟩
abbrev cX2_groundBy : ByteArray := prog_4_method_7_code
def yX2_groundBy : MethodName := ⟨RX2, "groundBy", "(II)I"⟩
abbrev cX2_groundWithin : ByteArray := prog_4_method_8_code
def yX2_groundWithin : MethodName := ⟨RX2, "groundWithin", "(II)I"⟩
abbrev cX2_passHour : ByteArray := prog_4_method_9_code
def yX2_passHour : MethodName := ⟨RX2, "passHour", "()I"⟩
abbrev cX2_remember : ByteArray := prog_4_method_10_code
def yX2_remember : MethodName := ⟨RX2, "remember", "()V"⟩
abbrev cX2_goBack : ByteArray := prog_4_method_11_code
def yX2_goBack : MethodName := ⟨RX2, "goBack", "()V"⟩
abbrev cX2_mixInto : ByteArray := prog_4_method_12_code
def yX2_mixInto : MethodName := ⟨RX2, "mixInto", "(J)J"⟩
def RX3 : String := "GrindMill$Mills"
def TX3 : u_T := fun k => match k with
  | _ => ("", "", "", false)
def tyX3 : Nat → FieldType := fun k => match k with
  | _ => .int
abbrev wsX30 : List Cond := u_ws RX3 TX3 0
theorem nmX3 : ∀ a, a < 0 → ∀ b, b < 0 → a ≠ b → (TX3 a).2.1 ≠ (TX3 b).2.1 := by decide +kernel
theorem tyX3_ok : ∀ k, k < 0 → parseFieldDescriptor (TX3 k).2.2.1 = some (tyX3 k) := by decide +kernel
abbrev cX3_init : ByteArray := prog_5_method_1_code
def yX3_init : MethodName := ⟨RX3, "<init>", "()V"⟩
abbrev cX3_ground : ByteArray := prog_5_method_2_code
def yX3_ground : MethodName := ⟨RX3, "ground", "(III)I"⟩
def RX4 : String := "GrindMill$Nothing"
def TX4 : u_T := fun k => match k with
  | _ => ("", "", "", false)
def tyX4 : Nat → FieldType := fun k => match k with
  | _ => .int
abbrev wsX40 : List Cond := u_ws RX4 TX4 0
theorem nmX4 : ∀ a, a < 0 → ∀ b, b < 0 → a ≠ b → (TX4 a).2.1 ≠ (TX4 b).2.1 := by decide +kernel
theorem tyX4_ok : ∀ k, k < 0 → parseFieldDescriptor (TX4 k).2.2.1 = some (tyX4 k) := by decide +kernel
abbrev cX4_init : ByteArray := prog_6_method_1_code
def yX4_init : MethodName := ⟨RX4, "<init>", "()V"⟩
abbrev cX4_ground : ByteArray := prog_6_method_2_code
def yX4_ground : MethodName := ⟨RX4, "ground", "(III)I"⟩
abbrev cX4_fetches : ByteArray := prog_6_method_3_code
def yX4_fetches : MethodName := ⟨RX4, "fetches", "(II)I"⟩
def RX5 : String := "GrindMill$Peace"
def TX5 : u_T := fun k => match k with
  | _ => ("", "", "", false)
def tyX5 : Nat → FieldType := fun k => match k with
  | _ => .int
abbrev wsX50 : List Cond := u_ws RX5 TX5 0
theorem nmX5 : ∀ a, a < 0 → ∀ b, b < 0 → a ≠ b → (TX5 a).2.1 ≠ (TX5 b).2.1 := by decide +kernel
theorem tyX5_ok : ∀ k, k < 0 → parseFieldDescriptor (TX5 k).2.2.1 = some (tyX5 k) := by decide +kernel
abbrev cX5_init : ByteArray := prog_7_method_1_code
def yX5_init : MethodName := ⟨RX5, "<init>", "()V"⟩
abbrev cX5_fetches : ByteArray := prog_7_method_2_code
def yX5_fetches : MethodName := ⟨RX5, "fetches", "(II)I"⟩
def RX6 : String := "GrindMill$Plain"
def TX6 : u_T := fun k => match k with
  | _ => ("", "", "", false)
def tyX6 : Nat → FieldType := fun k => match k with
  | _ => .int
abbrev wsX60 : List Cond := u_ws RX6 TX6 0
theorem nmX6 : ∀ a, a < 0 → ∀ b, b < 0 → a ≠ b → (TX6 a).2.1 ≠ (TX6 b).2.1 := by decide +kernel
theorem tyX6_ok : ∀ k, k < 0 → parseFieldDescriptor (TX6 k).2.2.1 = some (tyX6 k) := by decide +kernel
abbrev cX6_init : ByteArray := prog_8_method_1_code
def yX6_init : MethodName := ⟨RX6, "<init>", "()V"⟩
abbrev cX6_ground : ByteArray := prog_8_method_2_code
def yX6_ground : MethodName := ⟨RX6, "ground", "(III)I"⟩
abbrev cX6_fetches : ByteArray := prog_8_method_3_code
def yX6_fetches : MethodName := ⟨RX6, "fetches", "(II)I"⟩
def RX7 : String := "GrindMill$Plans"
def TX7 : u_T := fun k => match k with
  | 0 => ("GrindMill$Plans", "way", "[I", true)
  | 1 => ("GrindMill$Plans", "yields", "[I", true)
  | 2 => ("GrindMill$Plans", "fewest", "[I", true)
  | 3 => ("GrindMill$Plans", "gains", "[[I", true)
  | 4 => ("GrindMill$Plans", "most", "[[I", true)
  | 5 => ("GrindMill$Plans", "alone", "[I", true)
  | 6 => ("GrindMill$Plans", "firstOfTwo", "[I", true)
  | _ => ("GrindMill$Plans", "secondOfTwo", "[I", true)
def tyX7 : Nat → FieldType := fun k => match k with
  | 0 => .array .int
  | 1 => .array .int
  | 2 => .array .int
  | 3 => .array (.array .int)
  | 4 => .array (.array .int)
  | 5 => .array .int
  | 6 => .array .int
  | _ => .array .int
abbrev wsX70 : List Cond := u_ws RX7 TX7 8
theorem nmX7 : ∀ a, a < 8 → ∀ b, b < 8 → a ≠ b → (TX7 a).2.1 ≠ (TX7 b).2.1 := by decide +kernel
theorem tyX7_ok : ∀ k, k < 8 → parseFieldDescriptor (TX7 k).2.2.1 = some (tyX7 k) := by decide +kernel
abbrev cX7_init : ByteArray := prog_9_method_1_code
def yX7_init : MethodName := ⟨RX7, "<init>", "()V"⟩
abbrev cX7_fewestHours : ByteArray := prog_9_method_2_code
def yX7_fewestHours : MethodName := ⟨RX7, "fewestHours", "(LGrindMill$House;I)I"⟩
abbrev cX7_fillYields : ByteArray := prog_9_method_3_code
def yX7_fillYields : MethodName := ⟨RX7, "fillYields", "(LGrindMill$House;)V"⟩
abbrev cX7_fillFewest : ByteArray := prog_9_method_4_code
def yX7_fillFewest : MethodName := ⟨RX7, "fillFewest", "(II)V"⟩
abbrev cX7_staysFewest : ByteArray := prog_9_method_5_code
def yX7_staysFewest : MethodName := ⟨RX7, "staysFewest", "(II)Z"⟩
abbrev cX7_mostMoney : ByteArray := prog_9_method_6_code
def yX7_mostMoney : MethodName := ⟨RX7, "mostMoney", "(LGrindMill$House;I)I"⟩
abbrev cX7_fillMost : ByteArray := prog_9_method_7_code
def yX7_fillMost : MethodName := ⟨RX7, "fillMost", "(II)V"⟩
abbrev cX7_fillGains : ByteArray := prog_9_method_8_code
def yX7_fillGains : MethodName := ⟨RX7, "fillGains", "(LGrindMill$House;I)V"⟩
abbrev cX7_restingPairs : ByteArray := prog_9_method_9_code
def yX7_restingPairs : MethodName := ⟨RX7, "restingPairs", "(LGrindMill$House;II)I"⟩
abbrev cX7_fillStreet : ByteArray := prog_9_method_10_code
def yX7_fillStreet : MethodName := ⟨RX7, "fillStreet", "(LGrindMill$House;I)V"⟩
abbrev cX7_pairRests : ByteArray := prog_9_method_11_code
def yX7_pairRests : MethodName := ⟨RX7, "pairRests", "(III)Z"⟩
abbrev cX7_firstHas : ByteArray := prog_9_method_12_code
def yX7_firstHas : MethodName := ⟨RX7, "firstHas", "(II)I"⟩
abbrev cX7_secondHas : ByteArray := prog_9_method_13_code
def yX7_secondHas : MethodName := ⟨RX7, "secondHas", "(II)I"⟩
def RX8 : String := "GrindMill$Salt"
def TX8 : u_T := fun k => match k with
  | _ => ("", "", "", false)
def tyX8 : Nat → FieldType := fun k => match k with
  | _ => .int
abbrev wsX80 : List Cond := u_ws RX8 TX8 0
theorem nmX8 : ∀ a, a < 0 → ∀ b, b < 0 → a ≠ b → (TX8 a).2.1 ≠ (TX8 b).2.1 := by decide +kernel
theorem tyX8_ok : ∀ k, k < 0 → parseFieldDescriptor (TX8 k).2.2.1 = some (tyX8 k) := by decide +kernel
abbrev cX8_init : ByteArray := prog_10_method_1_code
def yX8_init : MethodName := ⟨RX8, "<init>", "()V"⟩
abbrev cX8_ground : ByteArray := prog_10_method_2_code
def yX8_ground : MethodName := ⟨RX8, "ground", "(III)I"⟩
abbrev cX8_fetches : ByteArray := prog_10_method_3_code
def yX8_fetches : MethodName := ⟨RX8, "fetches", "(II)I"⟩
def RX9 : String := "GrindMill$Slow"
def TX9 : u_T := fun k => match k with
  | _ => ("", "", "", false)
def tyX9 : Nat → FieldType := fun k => match k with
  | _ => .int
abbrev wsX90 : List Cond := u_ws RX9 TX9 0
theorem nmX9 : ∀ a, a < 0 → ∀ b, b < 0 → a ≠ b → (TX9 a).2.1 ≠ (TX9 b).2.1 := by decide +kernel
theorem tyX9_ok : ∀ k, k < 0 → parseFieldDescriptor (TX9 k).2.2.1 = some (tyX9 k) := by decide +kernel
abbrev cX9_init : ByteArray := prog_11_method_1_code
def yX9_init : MethodName := ⟨RX9, "<init>", "()V"⟩
abbrev cX9_ground : ByteArray := prog_11_method_2_code
def yX9_ground : MethodName := ⟨RX9, "ground", "(III)I"⟩
def RX10 : String := "GrindMill$Text"
def TX10 : u_T := fun k => match k with
  | 0 => ("GrindMill$Text", "bytes", "[B", true)
  | 1 => ("GrindMill$Text", "length", "I", false)
  | 2 => ("GrindMill$Text", "fault", "I", false)
  | _ => ("GrindMill$Text", "at", "I", false)
def tyX10 : Nat → FieldType := fun k => match k with
  | 0 => .array .byte
  | 1 => .int
  | 2 => .int
  | _ => .int
abbrev wsX100 : List Cond := u_ws RX10 TX10 4
theorem nmX10 : ∀ a, a < 4 → ∀ b, b < 4 → a ≠ b → (TX10 a).2.1 ≠ (TX10 b).2.1 := by decide +kernel
theorem tyX10_ok : ∀ k, k < 4 → parseFieldDescriptor (TX10 k).2.2.1 = some (tyX10 k) := by decide +kernel
abbrev cX10_init : ByteArray := prog_12_method_1_code
def yX10_init : MethodName := ⟨RX10, "<init>", "()V"⟩
abbrev cX10_append : ByteArray := prog_12_method_2_code
def yX10_append : MethodName := ⟨RX10, "append", "(I)V"⟩
abbrev cX10_readInto : ByteArray := prog_12_method_3_code
def yX10_readInto : MethodName := ⟨RX10, "readInto", "(LGrindMill$House;)I"⟩
abbrev cX10_readFirstItem : ByteArray := prog_12_method_4_code
def yX10_readFirstItem : MethodName := ⟨RX10, "readFirstItem", "(LGrindMill$House;)V"⟩
abbrev cX10_readLaterItem : ByteArray := prog_12_method_5_code
def yX10_readLaterItem : MethodName := ⟨RX10, "readLaterItem", "(LGrindMill$House;)V"⟩
abbrev cX10_readGoods : ByteArray := prog_12_method_6_code
def yX10_readGoods : MethodName := ⟨RX10, "readGoods", "(LGrindMill$House;I)V"⟩
abbrev cX10_readNumber : ByteArray := prog_12_method_7_code
def yX10_readNumber : MethodName := ⟨RX10, "readNumber", "(II)I"⟩
abbrev cX10_readItemsEnd : ByteArray := prog_12_method_8_code
def yX10_readItemsEnd : MethodName := ⟨RX10, "readItemsEnd", "()V"⟩
abbrev cX10_passBlanks : ByteArray := prog_12_method_9_code
def yX10_passBlanks : MethodName := ⟨RX10, "passBlanks", "()V"⟩
abbrev cX10_passLetters : ByteArray := prog_12_method_10_code
def yX10_passLetters : MethodName := ⟨RX10, "passLetters", "()V"⟩
abbrev cX10_isNamed : ByteArray := prog_12_method_11_code
def yX10_isNamed : MethodName := ⟨RX10, "isNamed", "(ILjava/lang/String;)Z"⟩
abbrev cX10_failAt : ByteArray := prog_12_method_12_code
def yX10_failAt : MethodName := ⟨RX10, "failAt", "(I)V"⟩
def RX11 : String := "GrindMill"
def TX11 : u_T := fun k => match k with
  | 0 => ("GrindMill", "images", "[LGrindMill$House;", true)
  | 1 => ("GrindMill", "kept", "[Z", true)
  | 2 => ("GrindMill", "text", "LGrindMill$Text;", true)
  | 3 => ("GrindMill", "plans", "LGrindMill$Plans;", true)
  | 4 => ("GrindMill", "refused", "[I", true)
  | 5 => ("GrindMill", "now", "LGrindMill$House;", false)
  | 6 => ("GrindMill", "spare", "LGrindMill$House;", false)
  | 7 => ("GrindMill", "above", "J", false)
  | _ => ("GrindMill", "below", "J", false)
def tyX11 : Nat → FieldType := fun k => match k with
  | 0 => .array (.object "GrindMill$House")
  | 1 => .array .boolean
  | 2 => .object "GrindMill$Text"
  | 3 => .object "GrindMill$Plans"
  | 4 => .array .int
  | 5 => .object "GrindMill$House"
  | 6 => .object "GrindMill$House"
  | 7 => .long
  | _ => .long
abbrev wsX110 : List Cond := u_ws RX11 TX11 9
theorem nmX11 : ∀ a, a < 9 → ∀ b, b < 9 → a ≠ b → (TX11 a).2.1 ≠ (TX11 b).2.1 := by decide +kernel
theorem tyX11_ok : ∀ k, k < 9 → parseFieldDescriptor (TX11 k).2.2.1 = some (tyX11 k) := by decide +kernel
abbrev cX11_init : ByteArray := prog_1_method_1_code
def yX11_init : MethodName := ⟨RX11, "<init>", "()V"⟩
abbrev cX11_mill : ByteArray := prog_1_method_2_code
def yX11_mill : MethodName := ⟨RX11, "mill", "(I)I"⟩
abbrev cX11_goods : ByteArray := prog_1_method_3_code
def yX11_goods : MethodName := ⟨RX11, "goods", "(III)I"⟩
abbrev cX11_word : ByteArray := prog_1_method_4_code
def yX11_word : MethodName := ⟨RX11, "word", "(I)I"⟩
abbrev cX11_type : ByteArray := prog_1_method_5_code
def yX11_type : MethodName := ⟨RX11, "type", "(I)I"⟩
abbrev cX11_clear : ByteArray := prog_1_method_6_code
def yX11_clear : MethodName := ⟨RX11, "clear", "()I"⟩
abbrev cX11_read : ByteArray := prog_1_method_7_code
def yX11_read : MethodName := ⟨RX11, "read", "()I"⟩
abbrev cX11_grind : ByteArray := prog_1_method_8_code
def yX11_grind : MethodName := ⟨RX11, "grind", "(I)I"⟩
abbrev cX11_hour : ByteArray := prog_1_method_9_code
def yX11_hour : MethodName := ⟨RX11, "hour", "(I)I"⟩
abbrev cX11_say : ByteArray := prog_1_method_10_code
def yX11_say : MethodName := ⟨RX11, "say", "(I)I"⟩
abbrev cX11_sell : ByteArray := prog_1_method_11_code
def yX11_sell : MethodName := ⟨RX11, "sell", "(II)I"⟩
abbrev cX11_cold : ByteArray := prog_1_method_12_code
def yX11_cold : MethodName := ⟨RX11, "cold", "(I)I"⟩
abbrev cX11_undo : ByteArray := prog_1_method_13_code
def yX11_undo : MethodName := ⟨RX11, "undo", "()I"⟩
abbrev cX11_of : ByteArray := prog_1_method_14_code
def yX11_of : MethodName := ⟨RX11, "of", "(II)I"⟩
abbrev cX11_grinds : ByteArray := prog_1_method_15_code
def yX11_grinds : MethodName := ⟨RX11, "grinds", "()I"⟩
abbrev cX11_then : ByteArray := prog_1_method_16_code
def yX11_then : MethodName := ⟨RX11, "then", "(II)I"⟩
abbrev cX11_full : ByteArray := prog_1_method_17_code
def yX11_full : MethodName := ⟨RX11, "full", "()I"⟩
abbrev cX11_just : ByteArray := prog_1_method_18_code
def yX11_just : MethodName := ⟨RX11, "just", "(II)I"⟩
abbrev cX11_best : ByteArray := prog_1_method_19_code
def yX11_best : MethodName := ⟨RX11, "best", "(II)I"⟩
abbrev cX11_ship : ByteArray := prog_1_method_20_code
def yX11_ship : MethodName := ⟨RX11, "ship", "(II)I"⟩
abbrev cX11_guess : ByteArray := prog_1_method_21_code
def yX11_guess : MethodName := ⟨RX11, "guess", "(II)I"⟩
abbrev cX11_words : ByteArray := prog_1_method_22_code
def yX11_words : MethodName := ⟨RX11, "words", "(I)I"⟩
abbrev cX11_nextGuess : ByteArray := prog_1_method_23_code
def yX11_nextGuess : MethodName := ⟨RX11, "nextGuess", "()I"⟩
abbrev cX11_street : ByteArray := prog_1_method_24_code
def yX11_street : MethodName := ⟨RX11, "street", "(II)I"⟩
abbrev cX11_note : ByteArray := prog_1_method_25_code
def yX11_note : MethodName := ⟨RX11, "note", "(IIII)I"⟩
abbrev cX11_forget : ByteArray := prog_1_method_26_code
def yX11_forget : MethodName := ⟨RX11, "forget", "(I)I"⟩
abbrev cX11_is : ByteArray := prog_1_method_27_code
def yX11_is : MethodName := ⟨RX11, "is", "(II)I"⟩
abbrev cX11_look : ByteArray := prog_1_method_28_code
def yX11_look : MethodName := ⟨RX11, "look", "(I)I"⟩
abbrev cX11_thieves : ByteArray := prog_1_method_29_code
def yX11_thieves : MethodName := ⟨RX11, "thieves", "(III)I"⟩
abbrev cX11_mills : ByteArray := prog_1_method_30_code
def yX11_mills : MethodName := ⟨RX11, "mills", "(II)I"⟩
abbrev cX11_part : ByteArray := prog_1_method_31_code
def yX11_part : MethodName := ⟨RX11, "part", "(I)J"⟩
abbrev cX11_image : ByteArray := prog_1_method_32_code
def yX11_image : MethodName := ⟨RX11, "image", "(I)I"⟩
abbrev cX11_from : ByteArray := prog_1_method_33_code
def yX11_from : MethodName := ⟨RX11, "from", "(I)I"⟩
abbrev cX11_status : ByteArray := prog_1_method_34_code
def yX11_status : MethodName := ⟨RX11, "status", "(I)I"⟩
abbrev cX11_count : ByteArray := prog_1_method_35_code
def yX11_count : MethodName := ⟨RX11, "count", "(I)I"⟩
abbrev cX11_digest : ByteArray := prog_1_method_36_code
def yX11_digest : MethodName := ⟨RX11, "digest", "()J"⟩
abbrev cX11_amountOf : ByteArray := prog_1_method_37_code
def yX11_amountOf : MethodName := ⟨RX11, "amountOf", "(I)I"⟩
abbrev cX11_refuse : ByteArray := prog_1_method_38_code
def yX11_refuse : MethodName := ⟨RX11, "refuse", "(I)I"⟩
abbrev cX11_refuseApart : ByteArray := prog_1_method_39_code
def yX11_refuseApart : MethodName := ⟨RX11, "refuseApart", "()I"⟩
abbrev cX11_within : ByteArray := prog_1_method_40_code
def yX11_within : MethodName := ⟨RX11, "within", "(III)Z"⟩
abbrev cX11_isWord : ByteArray := prog_1_method_41_code
def yX11_isWord : MethodName := ⟨RX11, "isWord", "(I)Z"⟩
abbrev cX11_likeLetters : ByteArray := prog_1_method_42_code
def yX11_likeLetters : MethodName := ⟨RX11, "likeLetters", "(II)I"⟩
abbrev cX11_leastIn : ByteArray := prog_1_method_43_code
def yX11_leastIn : MethodName := ⟨RX11, "leastIn", "(I)I"⟩
abbrev cX11_greatestDivisor : ByteArray := prog_1_method_44_code
def yX11_greatestDivisor : MethodName := ⟨RX11, "greatestDivisor", "(JJ)J"⟩
def RX12 : String := "GrindMillModel"
def TX12 : u_T := fun k => match k with
  | 0 => ("GrindMillModel", "row", "[I", true)
  | 1 => ("GrindMillModel", "isKept", "[Z", true)
  | 2 => ("GrindMillModel", "refused", "[I", true)
  | 3 => ("GrindMillModel", "above", "J", false)
  | 4 => ("GrindMillModel", "below", "J", false)
  | 5 => ("GrindMillModel", "text", "[I", true)
  | 6 => ("GrindMillModel", "length", "I", false)
  | 7 => ("GrindMillModel", "words", "[I", true)
  | 8 => ("GrindMillModel", "at", "I", false)
  | 9 => ("GrindMillModel", "behind", "I", false)
  | 10 => ("GrindMillModel", "readHolds", "I", false)
  | 11 => ("GrindMillModel", "readWord", "I", false)
  | 12 => ("GrindMillModel", "readCold", "I", false)
  | 13 => ("GrindMillModel", "readGrinds", "I", false)
  | 14 => ("GrindMillModel", "readGoods", "[I", true)
  | 15 => ("GrindMillModel", "readMany", "I", false)
  | 16 => ("GrindMillModel", "fewest", "[I", true)
  | 17 => ("GrindMillModel", "richest", "[I", true)
  | 18 => ("GrindMillModel", "likes", "[I", true)
  | 19 => ("GrindMillModel", "firstMoney", "[I", true)
  | _ => ("GrindMillModel", "otherMoney", "[I", true)
def tyX12 : Nat → FieldType := fun k => match k with
  | 0 => .array .int
  | 1 => .array .boolean
  | 2 => .array .int
  | 3 => .long
  | 4 => .long
  | 5 => .array .int
  | 6 => .int
  | 7 => .array .int
  | 8 => .int
  | 9 => .int
  | 10 => .int
  | 11 => .int
  | 12 => .int
  | 13 => .int
  | 14 => .array .int
  | 15 => .int
  | 16 => .array .int
  | 17 => .array .int
  | 18 => .array .int
  | 19 => .array .int
  | _ => .array .int
abbrev wsX120 : List Cond := u_ws RX12 TX12 21
theorem nmX12 : ∀ a, a < 21 → ∀ b, b < 21 → a ≠ b → (TX12 a).2.1 ≠ (TX12 b).2.1 := by decide +kernel
theorem tyX12_ok : ∀ k, k < 21 → parseFieldDescriptor (TX12 k).2.2.1 = some (tyX12 k) := by decide +kernel
abbrev cX12_init : ByteArray := prog_14_method_1_code
def yX12_init : MethodName := ⟨RX12, "<init>", "()V"⟩
abbrev cX12_in : ByteArray := prog_14_method_2_code
def yX12_in : MethodName := ⟨RX12, "in", "(III)Z"⟩
abbrev cX12_has : ByteArray := prog_14_method_3_code
def yX12_has : MethodName := ⟨RX12, "has", "(II)Z"⟩
abbrev cX12_refuse : ByteArray := prog_14_method_4_code
def yX12_refuse : MethodName := ⟨RX12, "refuse", "(I)I"⟩
abbrev cX12_layMill : ByteArray := prog_14_method_5_code
def yX12_layMill : MethodName := ⟨RX12, "layMill", "(I)V"⟩
abbrev cX12_mill : ByteArray := prog_14_method_6_code
def yX12_mill : MethodName := ⟨RX12, "mill", "(I)I"⟩
abbrev cX12_addGoods : ByteArray := prog_14_method_7_code
def yX12_addGoods : MethodName := ⟨RX12, "addGoods", "(III)V"⟩
abbrev cX12_goods : ByteArray := prog_14_method_8_code
def yX12_goods : MethodName := ⟨RX12, "goods", "(III)I"⟩
abbrev cX12_word : ByteArray := prog_14_method_9_code
def yX12_word : MethodName := ⟨RX12, "word", "(I)I"⟩
abbrev cX12_type : ByteArray := prog_14_method_10_code
def yX12_type : MethodName := ⟨RX12, "type", "(I)I"⟩
abbrev cX12_clear : ByteArray := prog_14_method_11_code
def yX12_clear : MethodName := ⟨RX12, "clear", "()I"⟩
abbrev cX12_isLetter : ByteArray := prog_14_method_12_code
def yX12_isLetter : MethodName := ⟨RX12, "isLetter", "(I)Z"⟩
abbrev cX12_isFigure : ByteArray := prog_14_method_13_code
def yX12_isFigure : MethodName := ⟨RX12, "isFigure", "(I)Z"⟩
abbrev cX12_next : ByteArray := prog_14_method_14_code
def yX12_next : MethodName := ⟨RX12, "next", "()V"⟩
abbrev cX12_isWord : ByteArray := prog_14_method_15_code
def yX12_isWord : MethodName := ⟨RX12, "isWord", "(I)Z"⟩
abbrev cX12_wordHere : ByteArray := prog_14_method_16_code
def yX12_wordHere : MethodName := ⟨RX12, "wordHere", "()I"⟩
abbrev cX12_number : ByteArray := prog_14_method_17_code
def yX12_number : MethodName := ⟨RX12, "number", "(II)I"⟩
abbrev cX12_readsGoods : ByteArray := prog_14_method_18_code
def yX12_readsGoods : MethodName := ⟨RX12, "readsGoods", "()Z"⟩
abbrev cX12_readsItem : ByteArray := prog_14_method_19_code
def yX12_readsItem : MethodName := ⟨RX12, "readsItem", "(I)Z"⟩
abbrev cX12_readItems : ByteArray := prog_14_method_20_code
def yX12_readItems : MethodName := ⟨RX12, "readItems", "()I"⟩
abbrev cX12_read : ByteArray := prog_14_method_21_code
def yX12_read : MethodName := ⟨RX12, "read", "()I"⟩
abbrev cX12_isGoods : ByteArray := prog_14_method_22_code
def yX12_isGoods : MethodName := ⟨RX12, "isGoods", "(I)Z"⟩
abbrev cX12_groundBy : ByteArray := prog_14_method_23_code
def yX12_groundBy : MethodName := ⟨RX12, "groundBy", "(IIII)I"⟩
abbrev cX12_ground : ByteArray := prog_14_method_24_code
def yX12_ground : MethodName := ⟨RX12, "ground", "(III)I"⟩
abbrev cX12_fetches : ByteArray := prog_14_method_25_code
def yX12_fetches : MethodName := ⟨RX12, "fetches", "(II)I"⟩
abbrev cX12_inHouse : ByteArray := prog_14_method_26_code
def yX12_inHouse : MethodName := ⟨RX12, "inHouse", "(I)I"⟩
abbrev cX12_pass : ByteArray := prog_14_method_27_code
def yX12_pass : MethodName := ⟨RX12, "pass", "(II)I"⟩
abbrev cX12_keepPast : ByteArray := prog_14_method_28_code
def yX12_keepPast : MethodName := ⟨RX12, "keepPast", "()V"⟩
abbrev cX12_badTen : ByteArray := prog_14_method_29_code
def yX12_badTen : MethodName := ⟨RX12, "badTen", "()I"⟩
abbrev cX12_grind : ByteArray := prog_14_method_30_code
def yX12_grind : MethodName := ⟨RX12, "grind", "(I)I"⟩
abbrev cX12_hour : ByteArray := prog_14_method_31_code
def yX12_hour : MethodName := ⟨RX12, "hour", "(I)I"⟩
abbrev cX12_alike : ByteArray := prog_14_method_32_code
def yX12_alike : MethodName := ⟨RX12, "alike", "(II)I"⟩
abbrev cX12_say : ByteArray := prog_14_method_33_code
def yX12_say : MethodName := ⟨RX12, "say", "(I)I"⟩
abbrev cX12_sell : ByteArray := prog_14_method_34_code
def yX12_sell : MethodName := ⟨RX12, "sell", "(II)I"⟩
abbrev cX12_cold : ByteArray := prog_14_method_35_code
def yX12_cold : MethodName := ⟨RX12, "cold", "(I)I"⟩
abbrev cX12_undo : ByteArray := prog_14_method_36_code
def yX12_undo : MethodName := ⟨RX12, "undo", "()I"⟩
abbrev cX12_of : ByteArray := prog_14_method_37_code
def yX12_of : MethodName := ⟨RX12, "of", "(II)I"⟩
abbrev cX12_grinds : ByteArray := prog_14_method_38_code
def yX12_grinds : MethodName := ⟨RX12, "grinds", "()I"⟩
abbrev cX12_layTried : ByteArray := prog_14_method_39_code
def yX12_layTried : MethodName := ⟨RX12, "layTried", "()V"⟩
abbrev cX12_then : ByteArray := prog_14_method_40_code
def yX12_then : MethodName := ⟨RX12, "then", "(II)I"⟩
abbrev cX12_full : ByteArray := prog_14_method_41_code
def yX12_full : MethodName := ⟨RX12, "full", "()I"⟩
abbrev cX12_layFewest : ByteArray := prog_14_method_42_code
def yX12_layFewest : MethodName := ⟨RX12, "layFewest", "(I)V"⟩
abbrev cX12_just : ByteArray := prog_14_method_43_code
def yX12_just : MethodName := ⟨RX12, "just", "(II)I"⟩
abbrev cX12_brings : ByteArray := prog_14_method_44_code
def yX12_brings : MethodName := ⟨RX12, "brings", "(II)I"⟩
abbrev cX12_layRichest : ByteArray := prog_14_method_45_code
def yX12_layRichest : MethodName := ⟨RX12, "layRichest", "(I)V"⟩
abbrev cX12_best : ByteArray := prog_14_method_46_code
def yX12_best : MethodName := ⟨RX12, "best", "(II)I"⟩
abbrev cX12_ship : ByteArray := prog_14_method_47_code
def yX12_ship : MethodName := ⟨RX12, "ship", "(II)I"⟩
abbrev cX12_guess : ByteArray := prog_14_method_48_code
def yX12_guess : MethodName := ⟨RX12, "guess", "(II)I"⟩
abbrev cX12_mayBe : ByteArray := prog_14_method_49_code
def yX12_mayBe : MethodName := ⟨RX12, "mayBe", "(I)Z"⟩
abbrev cX12_words : ByteArray := prog_14_method_50_code
def yX12_words : MethodName := ⟨RX12, "words", "(I)I"⟩
abbrev cX12_mostAlike : ByteArray := prog_14_method_51_code
def yX12_mostAlike : MethodName := ⟨RX12, "mostAlike", "(I)I"⟩
abbrev cX12_nextGuess : ByteArray := prog_14_method_52_code
def yX12_nextGuess : MethodName := ⟨RX12, "nextGuess", "()I"⟩
abbrev cX12_layStreet : ByteArray := prog_14_method_53_code
def yX12_layStreet : MethodName := ⟨RX12, "layStreet", "(I)V"⟩
abbrev cX12_rests : ByteArray := prog_14_method_54_code
def yX12_rests : MethodName := ⟨RX12, "rests", "(II)Z"⟩
abbrev cX12_street : ByteArray := prog_14_method_55_code
def yX12_street : MethodName := ⟨RX12, "street", "(II)I"⟩
abbrev cX12_note : ByteArray := prog_14_method_56_code
def yX12_note : MethodName := ⟨RX12, "note", "(IIII)I"⟩
abbrev cX12_forget : ByteArray := prog_14_method_57_code
def yX12_forget : MethodName := ⟨RX12, "forget", "(I)I"⟩
abbrev cX12_isNoted : ByteArray := prog_14_method_58_code
def yX12_isNoted : MethodName := ⟨RX12, "isNoted", "(III)Z"⟩
abbrev cX12_kindsOf : ByteArray := prog_14_method_59_code
def yX12_kindsOf : MethodName := ⟨RX12, "kindsOf", "(I)I"⟩
abbrev cX12_is : ByteArray := prog_14_method_60_code
def yX12_is : MethodName := ⟨RX12, "is", "(II)I"⟩
abbrev cX12_mostKinds : ByteArray := prog_14_method_61_code
def yX12_mostKinds : MethodName := ⟨RX12, "mostKinds", "(IIII)I"⟩
abbrev cX12_look : ByteArray := prog_14_method_62_code
def yX12_look : MethodName := ⟨RX12, "look", "(I)I"⟩
abbrev cX12_tellPart : ByteArray := prog_14_method_63_code
def yX12_tellPart : MethodName := ⟨RX12, "tellPart", "(JJ)V"⟩
abbrev cX12_thieves : ByteArray := prog_14_method_64_code
def yX12_thieves : MethodName := ⟨RX12, "thieves", "(III)I"⟩
abbrev cX12_mills : ByteArray := prog_14_method_65_code
def yX12_mills : MethodName := ⟨RX12, "mills", "(II)I"⟩
abbrev cX12_part : ByteArray := prog_14_method_66_code
def yX12_part : MethodName := ⟨RX12, "part", "(I)J"⟩
abbrev cX12_image : ByteArray := prog_14_method_67_code
def yX12_image : MethodName := ⟨RX12, "image", "(I)I"⟩
abbrev cX12_from : ByteArray := prog_14_method_68_code
def yX12_from : MethodName := ⟨RX12, "from", "(I)I"⟩
abbrev cX12_status : ByteArray := prog_14_method_69_code
def yX12_status : MethodName := ⟨RX12, "status", "(I)I"⟩
abbrev cX12_countOf : ByteArray := prog_14_method_70_code
def yX12_countOf : MethodName := ⟨RX12, "countOf", "(I)I"⟩
abbrev cX12_count : ByteArray := prog_14_method_71_code
def yX12_count : MethodName := ⟨RX12, "count", "(I)I"⟩
abbrev cX12_digest : ByteArray := prog_14_method_72_code
def yX12_digest : MethodName := ⟨RX12, "digest", "()J"⟩
def RJ6 : String := "java/lang/Integer"
def TJ6 : u_T := fun k => match k with
  | _ => ("", "", "", false)
def tyJ6 : Nat → FieldType := fun k => match k with
  | _ => .int
abbrev wsJ60 : List Cond := u_ws RJ6 TJ6 0
theorem nmJ6 : ∀ a, a < 0 → ∀ b, b < 0 → a ≠ b → (TJ6 a).2.1 ≠ (TJ6 b).2.1 := by decide +kernel
theorem tyJ6_ok : ∀ k, k < 0 → parseFieldDescriptor (TJ6 k).2.2.1 = some (tyJ6 k) := by decide +kernel
abbrev cJ6_bitCount_0f7a4 : ByteArray := prog_15_method_49_code
def yJ6_bitCount_0f7a4 : MethodName := ⟨RJ6, "bitCount", "(I)I"⟩
def RJ9 : String := "java/lang/Math"
def TJ9 : u_T := fun k => match k with
  | _ => ("", "", "", false)
def tyJ9 : Nat → FieldType := fun k => match k with
  | _ => .int
abbrev wsJ90 : List Cond := u_ws RJ9 TJ9 0
theorem nmJ9 : ∀ a, a < 0 → ∀ b, b < 0 → a ≠ b → (TJ9 a).2.1 ≠ (TJ9 b).2.1 := by decide +kernel
theorem tyJ9_ok : ∀ k, k < 0 → parseFieldDescriptor (TJ9 k).2.2.1 = some (tyJ9 k) := by decide +kernel
abbrev cJ9_max_7cf53 : ByteArray := prog_16_method_65_code
def yJ9_max_7cf53 : MethodName := ⟨RJ9, "max", "(II)I"⟩
abbrev cJ9_max_f86c9 : ByteArray := prog_16_method_66_code
def yJ9_max_f86c9 : MethodName := ⟨RJ9, "max", "(JJ)J"⟩
abbrev cJ9_min_7cf53 : ByteArray := prog_16_method_69_code
def yJ9_min_7cf53 : MethodName := ⟨RJ9, "min", "(II)I"⟩
def RJ0 : String := "java/lang/String"
def TJ0 : u_T := fun k => match k with
  | _ => ("", "", "", false)
def tyJ0 : Nat → FieldType := fun k => match k with
  | _ => .int
abbrev wsJ00 : List Cond := u_ws RJ0 TJ0 0
theorem nmJ0 : ∀ a, a < 0 → ∀ b, b < 0 → a ≠ b → (TJ0 a).2.1 ≠ (TJ0 b).2.1 := by decide +kernel
theorem tyJ0_ok : ∀ k, k < 0 → parseFieldDescriptor (TJ0 k).2.2.1 = some (tyJ0 k) := by decide +kernel
abbrev cJ0_length_8abf5 : ByteArray := prog_17_method_54_code
def yJ0_length_8abf5 : MethodName := ⟨RJ0, "length", "()I"⟩
abbrev cJ0_charAt_5068e : ByteArray := prog_17_method_56_code
def yJ0_charAt_5068e : MethodName := ⟨RJ0, "charAt", "(I)C"⟩
abbrev cJ0_coder_7d493 : ByteArray := prog_17_method_152_code
def yJ0_coder_7d493 : MethodName := ⟨RJ0, "coder", "()B"⟩
abbrev cJ0_isLatin1_aae02 : ByteArray := prog_17_method_154_code
def yJ0_isLatin1_aae02 : MethodName := ⟨RJ0, "isLatin1", "()Z"⟩
abbrev cJ0_checkIndex_df160 : ByteArray := prog_17_method_155_code
def yJ0_checkIndex_df160 : MethodName := ⟨RJ0, "checkIndex", "(II)V"⟩
def RJ1 : String := "java/lang/StringLatin1"
def TJ1 : u_T := fun k => match k with
  | _ => ("", "", "", false)
def tyJ1 : Nat → FieldType := fun k => match k with
  | _ => .int
abbrev wsJ10 : List Cond := u_ws RJ1 TJ1 0
theorem nmJ1 : ∀ a, a < 0 → ∀ b, b < 0 → a ≠ b → (TJ1 a).2.1 ≠ (TJ1 b).2.1 := by decide +kernel
theorem tyJ1_ok : ∀ k, k < 0 → parseFieldDescriptor (TJ1 k).2.2.1 = some (tyJ1 k) := by decide +kernel
abbrev cJ1_charAt_3b067 : ByteArray := prog_18_method_2_code
def yJ1_charAt_3b067 : MethodName := ⟨RJ1, "charAt", "([BI)C"⟩
def RJ2 : String := "java/lang/StringUTF16"
def TJ2 : u_T := fun k => match k with
  | _ => ("", "", "", false)
def tyJ2 : Nat → FieldType := fun k => match k with
  | _ => .int
abbrev wsJ20 : List Cond := u_ws RJ2 TJ2 0
theorem nmJ2 : ∀ a, a < 0 → ∀ b, b < 0 → a ≠ b → (TJ2 a).2.1 ≠ (TJ2 b).2.1 := by decide +kernel
theorem tyJ2_ok : ∀ k, k < 0 → parseFieldDescriptor (TJ2 k).2.2.1 = some (tyJ2 k) := by decide +kernel
abbrev cJ2_getChar_3b067 : ByteArray := prog_19_method_5_code
def yJ2_getChar_3b067 : MethodName := ⟨RJ2, "getChar", "([BI)C"⟩
abbrev cJ2_length_9d52b : ByteArray := prog_19_method_6_code
def yJ2_length_9d52b : MethodName := ⟨RJ2, "length", "([B)I"⟩
abbrev cJ2_charAt_3b067 : ByteArray := prog_19_method_83_code
def yJ2_charAt_3b067 : MethodName := ⟨RJ2, "charAt", "([BI)C"⟩
abbrev cJ2_checkIndex_2214a : ByteArray := prog_19_method_91_code
def yJ2_checkIndex_2214a : MethodName := ⟨RJ2, "checkIndex", "(I[B)V"⟩
def RJ10 : String := "java/lang/System"
def TJ10 : u_T := fun k => match k with
  | _ => ("", "", "", false)
def tyJ10 : Nat → FieldType := fun k => match k with
  | _ => .int
abbrev wsJ100 : List Cond := u_ws RJ10 TJ10 0
theorem nmJ10 : ∀ a, a < 0 → ∀ b, b < 0 → a ≠ b → (TJ10 a).2.1 ≠ (TJ10 b).2.1 := by decide +kernel
theorem tyJ10_ok : ∀ k, k < 0 → parseFieldDescriptor (TJ10 k).2.2.1 = some (tyJ10 k) := by decide +kernel
def RJ3 : String := "jdk/internal/util/Preconditions"
def TJ3 : u_T := fun k => match k with
  | _ => ("", "", "", false)
def tyJ3 : Nat → FieldType := fun k => match k with
  | _ => .int
abbrev wsJ30 : List Cond := u_ws RJ3 TJ3 0
theorem nmJ3 : ∀ a, a < 0 → ∀ b, b < 0 → a ≠ b → (TJ3 a).2.1 ≠ (TJ3 b).2.1 := by decide +kernel
theorem tyJ3_ok : ∀ k, k < 0 → parseFieldDescriptor (TJ3 k).2.2.1 = some (tyJ3 k) := by decide +kernel
abbrev cJ3_checkIndex_8e157 : ByteArray := prog_21_method_11_code
def yJ3_checkIndex_8e157 : MethodName := ⟨RJ3, "checkIndex", "(IILjava/util/function/BiFunction;)I"⟩
def RL : String := "GrindMillLaw"
abbrev cL_law : ByteArray := code
def yL_law : MethodName := ⟨RL, "law", "([I)Z"⟩
abbrev vwCl : List vw_C := [(RX0, TX0, 8), (RX1, TX1, 6), (RX2, TX2, 12), (RX3, TX3, 0), (RX4, TX4, 0), (RX5, TX5, 0), (RX6, TX6, 0), (RX7, TX7, 8), (RX8, TX8, 0), (RX9, TX9, 0), (RX10, TX10, 4), (RX11, TX11, 9), (RX12, TX12, 21)]
end
section
/-! THE WORLD AS FUNCTIONS: cell a has a kind and a length; its ints, longs, references by place -/
abbrev Wd : Type := Nat × (Nat → Nat × Nat) × (Nat → Nat → Int32) × (Nat → Nat → Int64) × (Nat → Nat → Option Nat)
def wN (w : Wd) : Nat := w.1
def wS (w : Wd) : Nat → Nat × Nat := w.2.1
def wI (w : Wd) : Nat → Nat → Int32 := w.2.2.1
def wL (w : Wd) : Nat → Nat → Int64 := w.2.2.2.1
def wR (w : Wd) : Nat → Nat → Option Nat := w.2.2.2.2
def sI (w : Wd) (a k : Nat) (x : Int32) : Wd := (wN w, wS w, fun b j => if b = a ∧ j = k then x else wI w b j, wL w, wR w)
def sL (w : Wd) (a k : Nat) (x : Int64) : Wd := (wN w, wS w, wI w, fun b j => if b = a ∧ j = k then x else wL w b j, wR w)
def sR (w : Wd) (a k : Nat) (r : Nat) : Wd := (wN w, wS w, wI w, wL w, fun b j => if b = a ∧ j = k then some r else wR w b j)
def nC (w : Wd) (t n : Nat) : Wd := (wN w + 1, fun b => if b = wN w then (t, n) else wS w b, fun b j => if b = wN w then 0 else wI w b j, fun b j => if b = wN w then 0 else wL w b j, fun b j => if b = wN w then none else wR w b j)
def cI (w : Wd) (a0 sp a dp n : Nat) : Wd := (wN w, wS w, fun b j => if b = a ∧ dp ≤ j ∧ j < dp + n then wI w a0 (sp + (j - dp)) else wI w b j, wL w, wR w)
/-- int[m][n] at once: the outer row, then the inner ones -/
def nG (w : Wd) (m n : Nat) : Wd := (wN w + 1 + m, fun b => if b = wN w then (19, m) else if wN w < b ∧ b < wN w + 1 + m then (14, n) else wS w b, fun b j => if wN w ≤ b ∧ b < wN w + 1 + m then 0 else wI w b j, fun b j => if wN w ≤ b ∧ b < wN w + 1 + m then 0 else wL w b j, fun b j => if b = wN w then (if j < m then some (wN w + 1 + j) else none) else if wN w < b ∧ b < wN w + 1 + m then none else wR w b j)
theorem wN_sI (w : Wd) (a k : Nat) (x : Int32) : wN (sI w a k x) = wN w := rfl
theorem wS_sI (w : Wd) (a k : Nat) (x : Int32) : wS (sI w a k x) = wS w := rfl
theorem wL_sI (w : Wd) (a k : Nat) (x : Int32) : wL (sI w a k x) = wL w := rfl
theorem wR_sI (w : Wd) (a k : Nat) (x : Int32) : wR (sI w a k x) = wR w := rfl
theorem wI_sI (w : Wd) (a k : Nat) (x : Int32) (b j : Nat) : wI (sI w a k x) b j = if b = a ∧ j = k then x else wI w b j := rfl
theorem wN_sL (w : Wd) (a k : Nat) (x : Int64) : wN (sL w a k x) = wN w := rfl
theorem wS_sL (w : Wd) (a k : Nat) (x : Int64) : wS (sL w a k x) = wS w := rfl
theorem wI_sL (w : Wd) (a k : Nat) (x : Int64) : wI (sL w a k x) = wI w := rfl
theorem wR_sL (w : Wd) (a k : Nat) (x : Int64) : wR (sL w a k x) = wR w := rfl
theorem wL_sL (w : Wd) (a k : Nat) (x : Int64) (b j : Nat) : wL (sL w a k x) b j = if b = a ∧ j = k then x else wL w b j := rfl
theorem wN_sR (w : Wd) (a k r : Nat) : wN (sR w a k r) = wN w := rfl
theorem wS_sR (w : Wd) (a k r : Nat) : wS (sR w a k r) = wS w := rfl
theorem wI_sR (w : Wd) (a k r : Nat) : wI (sR w a k r) = wI w := rfl
theorem wL_sR (w : Wd) (a k r : Nat) : wL (sR w a k r) = wL w := rfl
theorem wR_sR (w : Wd) (a k r : Nat) (b j : Nat) : wR (sR w a k r) b j = if b = a ∧ j = k then some r else wR w b j := rfl
theorem wN_cI (w : Wd) (a0 sp a dp n : Nat) : wN (cI w a0 sp a dp n) = wN w := rfl
theorem wS_cI (w : Wd) (a0 sp a dp n : Nat) : wS (cI w a0 sp a dp n) = wS w := rfl
theorem wL_cI (w : Wd) (a0 sp a dp n : Nat) : wL (cI w a0 sp a dp n) = wL w := rfl
theorem wR_cI (w : Wd) (a0 sp a dp n : Nat) : wR (cI w a0 sp a dp n) = wR w := rfl
theorem wI_cI (w : Wd) (a0 sp a dp n b j : Nat) : wI (cI w a0 sp a dp n) b j = if b = a ∧ dp ≤ j ∧ j < dp + n then wI w a0 (sp + (j - dp)) else wI w b j := rfl
/-! the words of the decompiled methods -/
def isO (w : Wd) (a t : Nat) : Bool := decide (a < wN w) && (wS w a).1 == t
def inb (w : Wd) (a : Nat) (i : Int32) : Bool := decide (0 ≤ i) && decide (i.toNatClampNeg < (wS w a).2)
def gI {α : Type} (w : Wd) (a t k : Nat) (K : Int32 → Option α) : Option α := if isO w a t then K (wI w a k) else none
def gL {α : Type} (w : Wd) (a t k : Nat) (K : Int64 → Option α) : Option α := if isO w a t then K (wL w a k) else none
def gR {α : Type} (w : Wd) (a t k : Nat) (K : Nat → Option α) : Option α := if isO w a t then (wR w a k).bind K else none
def pI {α : Type} (w : Wd) (a t k : Nat) (x : Int32) (K : Wd → Option α) : Option α := if isO w a t then K (sI w a k x) else none
def pL {α : Type} (w : Wd) (a t k : Nat) (x : Int64) (K : Wd → Option α) : Option α := if isO w a t then K (sL w a k x) else none
def pR {α : Type} (w : Wd) (a t k : Nat) (r : Nat) (K : Wd → Option α) : Option α := if isO w a t then K (sR w a k r) else none
def lI {α : Type} (w : Wd) (a t : Nat) (i : Int32) (K : Int32 → Option α) : Option α := if isO w a t && inb w a i then K (wI w a i.toNatClampNeg) else none
def lR {α : Type} (w : Wd) (a t : Nat) (i : Int32) (K : Nat → Option α) : Option α := if isO w a t && inb w a i then (wR w a i.toNatClampNeg).bind K else none
def aI {α : Type} (w : Wd) (a t : Nat) (i x : Int32) (K : Wd → Option α) : Option α := if isO w a t && inb w a i then K (sI w a i.toNatClampNeg x) else none
def aR {α : Type} (w : Wd) (a t : Nat) (i : Int32) (r tr : Nat) (K : Wd → Option α) : Option α := if isO w a t && inb w a i && isO w r tr then K (sR w a i.toNatClampNeg r) else none
def lenA {α : Type} (w : Wd) (a t : Nat) (K : Int32 → Option α) : Option α := if isO w a t then K (Int32.ofNat (wS w a).2) else none
def nm {α β : Type} (x : α) (K : α → Option β) : Option β := K x
def cal {α β : Type} (o : Option (α × Wd)) (K : α → Wd → Option β) : Option β := o.bind (fun q => K q.1 q.2)
def calV {α β : Type} (w : Wd) (a t : Nat) (o : Option (α × Wd)) (K : α → Wd → Option β) : Option β := if isO w a t then cal o K else none
def nz {α : Type} (y : Int32) (K : Option α) : Option α := if y = 0 then none else K
def nzL {α : Type} (y : Int64) (K : Option α) : Option α := if y = 0 then none else K
def rZ (x : Int32) (w : Wd) : Option (Int32 × Wd) := if x = 0 ∨ x = 1 then some (x, w) else none
def cpI {α : Type} (w : Wd) (a0 : Nat) (sp : Int32) (a : Nat) (dp n : Int32) (K : Wd → Option α) : Option α := if isO w a0 14 && isO w a 14 && decide (0 ≤ sp) && decide (0 ≤ dp) && decide (0 ≤ n) && decide (sp.toNatClampNeg + n.toNatClampNeg ≤ (wS w a0).2) && decide (dp.toNatClampNeg + n.toNatClampNeg ≤ (wS w a).2) then K (cI w a0 sp.toNatClampNeg a dp.toNatClampNeg n.toNatClampNeg) else none
theorem isO_iff {w : Wd} {a t : Nat} : isO w a t = true ↔ a < wN w ∧ (wS w a).1 = t := by simp [isO]
theorem inb_iff {w : Wd} {a : Nat} {i : Int32} : inb w a i = true ↔ 0 ≤ i ∧ i.toNatClampNeg < (wS w a).2 := by simp [inb]
theorem inb_vp {w : Wd} {a : Nat} {i : Int32} (h : inb w a i = true) : vp_in i (wS w a).2 := by
  obtain ⟨h1, h2⟩ := inb_iff.mp h
  rintro (q | q)
  · exact absurd h1 (Int32.not_le.mpr q)
  · omega
theorem gI_s {α : Type} {w : Wd} {a t k : Nat} {K : Int32 → Option α} {z : α} (h : gI w a t k K = some z) : isO w a t = true ∧ K (wI w a k) = some z := by
  unfold gI at h; split at h <;> simp_all
theorem gL_s {α : Type} {w : Wd} {a t k : Nat} {K : Int64 → Option α} {z : α} (h : gL w a t k K = some z) : isO w a t = true ∧ K (wL w a k) = some z := by
  unfold gL at h; split at h <;> simp_all
theorem gR_s {α : Type} {w : Wd} {a t k : Nat} {K : Nat → Option α} {z : α} (h : gR w a t k K = some z) : isO w a t = true ∧ ∃ r, wR w a k = some r ∧ K r = some z := by
  unfold gR at h
  split at h
  · exact ⟨by assumption, Option.bind_eq_some_iff.mp h⟩
  · cases h
theorem pI_s {α : Type} {w : Wd} {a t k : Nat} {x : Int32} {K : Wd → Option α} {z : α} (h : pI w a t k x K = some z) : isO w a t = true ∧ K (sI w a k x) = some z := by
  unfold pI at h; split at h <;> simp_all
theorem pL_s {α : Type} {w : Wd} {a t k : Nat} {x : Int64} {K : Wd → Option α} {z : α} (h : pL w a t k x K = some z) : isO w a t = true ∧ K (sL w a k x) = some z := by
  unfold pL at h; split at h <;> simp_all
theorem pR_s {α : Type} {w : Wd} {a t k r : Nat} {K : Wd → Option α} {z : α} (h : pR w a t k r K = some z) : isO w a t = true ∧ K (sR w a k r) = some z := by
  unfold pR at h; split at h <;> simp_all
theorem lI_s {α : Type} {w : Wd} {a t : Nat} {i : Int32} {K : Int32 → Option α} {z : α} (h : lI w a t i K = some z) : isO w a t = true ∧ inb w a i = true ∧ K (wI w a i.toNatClampNeg) = some z := by
  unfold lI at h; split at h <;> simp_all
theorem lR_s {α : Type} {w : Wd} {a t : Nat} {i : Int32} {K : Nat → Option α} {z : α} (h : lR w a t i K = some z) : isO w a t = true ∧ inb w a i = true ∧ ∃ r, wR w a i.toNatClampNeg = some r ∧ K r = some z := by
  unfold lR at h
  split at h
  · rename_i q
    rw [Bool.and_eq_true] at q
    exact ⟨q.1, q.2, Option.bind_eq_some_iff.mp h⟩
  · cases h
theorem aI_s {α : Type} {w : Wd} {a t : Nat} {i x : Int32} {K : Wd → Option α} {z : α} (h : aI w a t i x K = some z) : isO w a t = true ∧ inb w a i = true ∧ K (sI w a i.toNatClampNeg x) = some z := by
  unfold aI at h; split at h <;> simp_all
theorem aR_s {α : Type} {w : Wd} {a t : Nat} {i : Int32} {r tr : Nat} {K : Wd → Option α} {z : α} (h : aR w a t i r tr K = some z) : isO w a t = true ∧ inb w a i = true ∧ isO w r tr = true ∧ K (sR w a i.toNatClampNeg r) = some z := by
  unfold aR at h; split at h <;> simp_all
theorem lenA_s {α : Type} {w : Wd} {a t : Nat} {K : Int32 → Option α} {z : α} (h : lenA w a t K = some z) : isO w a t = true ∧ K (Int32.ofNat (wS w a).2) = some z := by
  unfold lenA at h; split at h <;> simp_all
theorem cal_s {α β : Type} {o : Option (α × Wd)} {K : α → Wd → Option β} {z : β} (h : cal o K = some z) : ∃ r w, o = some (r, w) ∧ K r w = some z := by
  obtain ⟨⟨r, w⟩, h1, h2⟩ := Option.bind_eq_some_iff.mp h
  exact ⟨r, w, h1, h2⟩
theorem calV_s {α β : Type} {w : Wd} {a t : Nat} {o : Option (α × Wd)} {K : α → Wd → Option β} {z : β} (h : calV w a t o K = some z) : isO w a t = true ∧ ∃ r w1, o = some (r, w1) ∧ K r w1 = some z := by
  unfold calV at h
  split at h
  · exact ⟨by assumption, cal_s h⟩
  · cases h
theorem nz_s {α : Type} {y : Int32} {K : Option α} {z : α} (h : nz y K = some z) : ¬ y = 0 ∧ K = some z := by
  unfold nz at h; split at h <;> simp_all
theorem nzL_s {α : Type} {y : Int64} {K : Option α} {z : α} (h : nzL y K = some z) : ¬ y = 0 ∧ K = some z := by
  unfold nzL at h; split at h <;> simp_all
theorem rZ_s {x r : Int32} {w w' : Wd} (h : rZ x w = some (r, w')) : (x = 0 ∨ x = 1) ∧ x = r ∧ w = w' := by
  unfold rZ at h; split at h <;> simp_all
theorem cpI_s {α : Type} {w : Wd} {a0 a : Nat} {sp dp n : Int32} {K : Wd → Option α} {z : α} (h : cpI w a0 sp a dp n K = some z) : isO w a0 14 = true ∧ isO w a 14 = true ∧ 0 ≤ sp ∧ 0 ≤ dp ∧ 0 ≤ n ∧ sp.toNatClampNeg + n.toNatClampNeg ≤ (wS w a0).2 ∧ dp.toNatClampNeg + n.toNatClampNeg ≤ (wS w a).2 ∧ K (cI w a0 sp.toNatClampNeg a dp.toNatClampNeg n.toNatClampNeg) = some z := by
  unfold cpI at h
  split at h
  · rename_i q
    simp only [Bool.and_eq_true, decide_eq_true_eq] at q
    exact ⟨q.1.1.1.1.1.1, q.1.1.1.1.1.2, q.1.1.1.1.2, q.1.1.1.2, q.1.1.2, q.1.2, q.2, h⟩
  · cases h
/-! the cells of a world, in the kit's words -/
def fty (t k : Nat) : FieldType := match t with
  | 0 => tyX0 k
  | 1 => tyX1 k
  | 2 => tyX2 k
  | 7 => tyX7 k
  | 10 => tyX10 k
  | 11 => tyX11 k
  | 12 => tyX12 k
  | _ => .int
def fn (t : Nat) : Nat := match t with
  | 0 => 8
  | 1 => 6
  | 2 => 12
  | 7 => 8
  | 10 => 4
  | 11 => 9
  | 12 => 21
  | _ => 0
def cN (t : Nat) : String := (vwCl.getD t ("", TX3, 0)).1
def cT (t : Nat) : u_T := (vwCl.getD t ("", TX3, 0)).2.1
def arf (B : Nat) (f : Nat → Option Nat) : Nat → Option Nat := fun k => (f k).map (B + ·)
def fval (B : Nat) (w : Wd) (a : Nat) (ty : FieldType) (k : Nat) : Value := match ty with
  | .int => .int (wI w a k)
  | .long => .long (wL w a k)
  | .object _ => va_rf (arf B (wR w a) k)
  | .array _ => va_rf (arf B (wR w a) k)
  | _ => .int 0
def fsO (B : Nat) (w : Wd) (a t : Nat) : List Value := (List.range (fn t)).map (fun k => fval B w a (fty t k) k)
def cellE (G : Nat → ClassId) (B : Nat) (w : Wd) (a : Nat) : va_E :=
  if (wS w a).1 < 13 then .inr ((wS w a).1, fsO B w a (wS w a).1)
  else if (wS w a).1 < 16 then .inl (G (wS w a).1, (wS w a).2, .inl (wI w a))
  else .inl (G (wS w a).1, (wS w a).2, .inr (.inr (.inr (.inr (arf B (wR w a))))))
def lay (G : Nat → ClassId) (B : Nat) (w : Wd) : va_W := (List.range (wN w)).map (fun a => (B + a, cellE G B w a))
theorem lay_get {G : Nat → ClassId} {B : Nat} {w : Wd} {a : Nat} (h : a < wN w) : (lay G B w)[a]? = some (B + a, cellE G B w a) := by
  simp [lay, List.getElem?_map, List.getElem?_range h]
theorem lay_len {G : Nat → ClassId} {B : Nat} {w : Wd} : (lay G B w).length = wN w := by simp [lay]
theorem lay_at {G : Nat → ClassId} {B : Nat} {w : Wd} {k : Nat} {q : Nat × va_E} (h : (lay G B w)[k]? = some q) : k < wN w ∧ q = (B + k, cellE G B w k) := by
  have hk : k < wN w := by
    have := (List.getElem?_eq_some_iff.mp h).1
    rwa [lay_len] at this
  rw [lay_get hk] at h
  exact ⟨hk, (Option.some.inj h).symm⟩
theorem lay_D {G : Nat → ClassId} {B : Nat} {w : Wd} : va_D (fun q => B ≤ q) (lay G B w) := by
  refine ⟨fun i j p q hi hj hpq => ?_, fun k q hk => ?_⟩
  · obtain ⟨-, rfl⟩ := lay_at hi
    obtain ⟨-, rfl⟩ := lay_at hj
    exact Nat.add_left_cancel hpq
  · obtain ⟨-, rfl⟩ := lay_at hk
    exact Nat.le_add_right _ _
theorem lay_set {G : Nat → ClassId} {B : Nat} {w w' : Wd} {a : Nat} {e : va_E} (hn : wN w' = wN w) (ha : a < wN w) (he : cellE G B w' a = e) (ho : ∀ b, b ≠ a → cellE G B w' b = cellE G B w b) : (lay G B w).set a (B + a, e) = lay G B w' := by
  apply List.ext_getElem?
  intro k
  by_cases hk : k = a
  · subst hk
    rw [List.getElem?_set_self (by rw [lay_len]; exact ha), lay_get (by rw [hn]; exact ha), he]
  · rw [List.getElem?_set_ne (Ne.symm hk)]
    by_cases hl : k < wN w
    · rw [lay_get hl, lay_get (by rw [hn]; exact hl), ho k hk]
    · rw [List.getElem?_eq_none (by rw [lay_len]; omega), List.getElem?_eq_none (by rw [lay_len, hn]; omega)]
theorem lay_push {G : Nat → ClassId} {B : Nat} {w w' : Wd} {e : va_E} (hn : wN w' = wN w + 1) (he : cellE G B w' (wN w) = e) (ho : ∀ b, b < wN w → cellE G B w' b = cellE G B w b) : lay G B w ++ [(B + wN w, e)] = lay G B w' := by
  unfold lay
  rw [hn, List.range_succ, List.map_append]
  congr 1
  · apply List.map_congr_left
    intro b hb
    rw [ho b (List.mem_range.mp hb)]
  · simp [he]
theorem cell_o {G : Nat → ClassId} {B : Nat} {w : Wd} {a t : Nat} (h : isO w a t = true) (ht : t < 13) : cellE G B w a = .inr (t, fsO B w a t) := by
  obtain ⟨-, h⟩ := isO_iff.mp h
  subst h
  unfold cellE
  rw [if_pos ht]
theorem cell_i {G : Nat → ClassId} {B : Nat} {w : Wd} {a t : Nat} (h : isO w a t = true) (h1 : ¬ t < 13) (h2 : t < 16) : cellE G B w a = .inl (G t, (wS w a).2, .inl (wI w a)) := by
  obtain ⟨-, h⟩ := isO_iff.mp h
  subst h
  unfold cellE
  rw [if_neg h1, if_pos h2]
theorem cell_r {G : Nat → ClassId} {B : Nat} {w : Wd} {a t : Nat} (h : isO w a t = true) (h2 : ¬ t < 16) : cellE G B w a = .inl (G t, (wS w a).2, .inr (.inr (.inr (.inr (arf B (wR w a)))))) := by
  obtain ⟨-, h⟩ := isO_iff.mp h
  subst h
  unfold cellE
  rw [if_neg (by omega), if_neg h2]
theorem fs_at {B : Nat} {w : Wd} {a t k : Nat} (hk : k < fn t) : (fsO B w a t)[k]? = some (fval B w a (fty t k) k) := by
  simp [fsO, List.getElem?_map, List.getElem?_range hk]
theorem fs_len {B : Nat} {w : Wd} {a t : Nat} : (fsO B w a t).length = fn t := by simp [fsO]
theorem fs_set {B : Nat} {w w' : Wd} {a t k : Nat} {v : Value} (hk : k < fn t) (hv : fval B w' a (fty t k) k = v) (ho : ∀ j, j ≠ k → fval B w' a (fty t j) j = fval B w a (fty t j) j) : (fsO B w a t).set k v = fsO B w' a t := by
  apply List.ext_getElem?
  intro j
  by_cases hj : j = k
  · subst hj
    rw [List.getElem?_set_self (by rw [fs_len]; exact hk), fs_at hk, hv]
  · rw [List.getElem?_set_ne (Ne.symm hj)]
    by_cases hl : j < fn t
    · rw [fs_at hl, fs_at hl, ho j hj]
    · rw [List.getElem?_eq_none (by rw [fs_len]; omega), List.getElem?_eq_none (by rw [fs_len]; omega)]
theorem fval_ext {B : Nat} {w w' : Wd} {a j : Nat} {ty : FieldType} (h1 : wI w' a j = wI w a j) (h2 : wL w' a j = wL w a j) (h3 : wR w' a j = wR w a j) : fval B w' a ty j = fval B w a ty j := by
  unfold fval
  cases ty <;> simp [h1, h2, h3, arf]
theorem cell_ext {G : Nat → ClassId} {B : Nat} {w w' : Wd} {b : Nat} (h0 : wS w' b = wS w b) (h1 : wI w' b = wI w b) (h2 : wL w' b = wL w b) (h3 : wR w' b = wR w b) : cellE G B w' b = cellE G B w b := by
  have hf : ∀ t, fsO B w' b t = fsO B w b t := fun t => by
    unfold fsO
    apply List.map_congr_left
    intro k _
    exact fval_ext (by rw [h1]) (by rw [h2]) (by rw [h3])
  unfold cellE
  rw [h0, hf, h1, h3]
end
section
/-! tb: the tables' words that stay; nwT: those that are carried beside -/
def tb : List Cond := lw_tbl.filter goodWord
theorem tb_of {c : Cond} (i : Nat) (h : lw_tbl[i]? = some c) (g : goodWord c = true) : c ∈ tb := List.mem_filter.mpr ⟨List.mem_of_getElem? h, g⟩
theorem tb_good {w : Cond} (h : w ∈ tb) : (w.onTables && w.keeps) = true ∨ ∃ ty, w = .arrayClass ty := good_of_word (List.mem_filter.mp h).2
theorem tb_goodIn {c : Cond} (h : c ∈ tb) : GoodIn tb (c :: tb) := fun w hw => by
  rcases List.mem_cons.mp hw with rfl | hw
  · exact ⟨h, tb_good h⟩
  · exact ⟨hw, tb_good hw⟩
def isNw (c : Cond) : Bool := match c with
  | .methodLinkNest _ _ _ _ => true
  | .castable _ _ => true
  | .declares _ => true
  | _ => false
def nwT : List Cond := lw_tbl.filter isNw
theorem nw_of {c : Cond} (i : Nat) (h : lw_tbl[i]? = some c) (g : isNw c = true) : c ∈ nwT := List.mem_filter.mpr ⟨List.mem_of_getElem? h, g⟩
theorem nw_warm {c : Cond} {s U : State} (hc : isNw c = true) (hW : s.WarmedH U.vm) (h : va_Nw c s) : va_Nw c U := by
  cases c <;> first | (exact absurd hc (by decide)) | exact va_Nw.warmM hW h | exact va_Nw.warmC hW h | exact va_Nw.warmD hW h | (simp [isNw] at hc)
theorem nw_same {c : Cond} {u U : State} (hc : isNw c = true) (hv : u.vm = U.vm) (h : va_Nw c u) : va_Nw c U := by
  cases c <;> first | (exact absurd hc (by decide)) | exact va_Nw.same rfl hv h | (simp [isNw] at hc)
/-! the strings of the class, the static that String asks -/
def lenS : List Nat := [4, 5, 5, 4, 4]
def bytS : List (List Int32) := [[109, 105, 108, 108], [103, 111, 111, 100, 115], [103, 114, 105, 110, 100], [119, 111, 114, 100], [99, 111, 108, 100]]
def sIx : List Nat := [44, 63, 69, 77, 81]
def sTx : List String := ["mill", "goods", "grind", "word", "cold"]
/-- classes, array classes, base, the strings' addresses and their bytes' -/
abbrev Gv : Type := va_G × (Nat → ClassId) × Nat × (Nat → Nat) × (Nat → Nat)
def gD (g : Gv) : va_G := g.1
def gC (g : Gv) : Nat → ClassId := g.2.1
def gB (g : Gv) : Nat := g.2.2.1
def gK (g : Gv) : Nat → Nat := g.2.2.2.1
def gV (g : Gv) : Nat → Nat := g.2.2.2.2
def gA (g : Gv) : Nat → Prop := fun q => gB g ≤ q
def tysG (g : Gv) : List (ClassId × FieldType) := [(gC g 13, .byte), (gC g 14, .int), (gC g 15, .boolean), (gC g 16, .object "GrindMill$Goods"), (gC g 17, .object "GrindMill$House"), (gC g 18, .object "GrindMill$Plain"), (gC g 19, .array .int)]
def AOA (ty : FieldType) (U : State) : Prop := (Cond.arrayOver (.array ty)).before #[] U = true
/-- what stays of the state itself -/
def SW (g : Gv) (U : State) : Prop :=
  (∀ c ∈ nwT, va_Nw c U) ∧ vk_S 5 lenS bytS (gK g) (gV g) (gA g) U U.heap ∧ (∀ j, j < 5 → vk_R "GrindMill$Text" (sIx.getD j 0) (sTx.getD j "") (gK g j) U) ∧ va_Z "java/lang/String" "COMPACT_STRINGS" "Z" (.int 1) (gA g) U U.heap
theorem SW.blind {g : Gv} {U V : State} (hv : U.vm = V.vm) (hh : V.heap = U.heap) (h : SW g U) : SW g V := by
  obtain ⟨h1, h2, h3, h4⟩ := h
  have ha : U.vm.Alike V.vm := by rw [← hv]; exact Vm.Alike.refl _
  refine ⟨fun c hc => nw_same (List.mem_filter.mp hc).2 hv (h1 c hc), ?_, fun j hj => vk_R.same hv.symm (h3 j hj), ?_⟩
  · rw [hh]; exact vk_S.moved ha h2
  · rw [hh]; exact va_Z.moved ha h4
theorem SW.warm {g : Gv} {s U : State} (hW : s.WarmedH U.vm) (hq : ∀ a : Nat, a < s.heap.size → ¬ gA g a → U.heap[a]? = s.heap[a]?) (h : SW g s) : SW g U := by
  obtain ⟨h1, h2, h3, h4⟩ := h
  exact ⟨fun c hc => nw_warm (List.mem_filter.mp hc).2 hW (h1 c hc), (vk_S.moved hW.alike h2).kept hq, fun j hj => vk_R.warm hW (h3 j hj), (va_Z.moved hW.alike h4).kept hq⟩
/-- the array classes that are made over others -/
def AOs (U : State) : Prop := va_AO "GrindMill$Goods" U ∧ va_AO "GrindMill$House" U ∧ va_AO "GrindMill$Plain" U ∧ AOA .int U
def PW (g : Gv) (w : Wd) (U : State) : Prop := va_K (gD g) vwCl (tysG g) U ∧ va_P (gD g) vwCl (lay (gC g) (gB g) w) U.heap ∧ U.heap.size = gB g + wN w
def rV (g : Gv) (a : Nat) : Value := .ref (gB g + a)
def sV (g : Gv) (j : Nat) : Value := .ref (gK g j)
/-- a method's context -/
abbrev Xt : Type := Program × Launch × Env × Room × State × MethodId × Array Value × List Frame × Method × Code × Gv × Nat
def xp (X : Xt) : Program := X.1
def xl (X : Xt) : Launch := X.2.1
def xe (X : Xt) : Env := X.2.2.1
def xR (X : Xt) : Room := X.2.2.2.1
def xs (X : Xt) : State := X.2.2.2.2.1
def xm (X : Xt) : MethodId := X.2.2.2.2.2.1
def xa (X : Xt) : Array Value := X.2.2.2.2.2.2.1
def xb (X : Xt) : List Frame := X.2.2.2.2.2.2.2.1
def xme (X : Xt) : Method := X.2.2.2.2.2.2.2.2.1
def xc (X : Xt) : Code := X.2.2.2.2.2.2.2.2.2.1
def xg (X : Xt) : Gv := X.2.2.2.2.2.2.2.2.2.2.1
def xn (X : Xt) : Nat := X.2.2.2.2.2.2.2.2.2.2.2
def FW (X : Xt) (w : Wd) (H : Heap) (locs : List Loc) (cs : Nat) : Prop :=
  va_K (gD (xg X)) vwCl (tysG (xg X)) (xs X) ∧ va_P (gD (xg X)) vwCl (lay (gC (xg X)) (gB (xg X)) w) H ∧ va_S (gA (xg X)) (xs X).heap H locs ∧ gB (xg X) + wN w = (xs X).heap.size + cs ∧ gB (xg X) ≤ (xs X).heap.size ∧ SW (xg X) (xs X)
abbrev Wq (X : Xt) (H : Heap) (locs : List Loc) (cs sl : Nat) (Q : State → Prop) (pc : Nat) (ls : Array Slot) (st : List Value) : Prop :=
  W (xp X) (xl X) (xe X) (xR X) (xs X) (xm X) (xa X) (xb X) (xme X) (xc X) H locs cs sl Q (F0 (xm X) pc ls st)
def Wk (X : Xt) (cs sl : Nat) (Q : State → Prop) (w : Wd) (lv : List (Nat × Value)) (pc : Nat) (st : List Value) : Prop :=
  ∀ (H : Heap) (locs : List Loc) (ls : Array Slot), FW X w H locs cs → lv_has ls (xn X) lv → Wq X H locs cs sl Q pc ls st
def Ok (X : Xt) (own : String) (cc : ByteArray) (nL fr lo mc ms : Nat) : Prop :=
  (xp X).tables.exec = Jvm.exec ∧ (xc X).code = cc ∧ (xc X).maxLocals = xn X ∧ (xs X).vm.findClass own = some (xm X).cls ∧ (∀ w ∈ tb, w.before (xa X) (xs X) = true) ∧ (xme X).locks = false ∧ (xR X).frames = fr ∧ (xR X).locals = lo ∧ (xR X).cells = mc ∧ (xR X).slots = ms ∧ xn X = nL
/-! contracts -/
def PcG (g : Gv) (av : List Value) (w : Wd) : Array Value → State → Prop := va_Pc av (fun U => PW g w U ∧ SW g U)
def QcI (g : Gv) (mc : Nat) (w : Wd) (r : Int32) (w' : Wd) : Array Value → State → Outcome → State → Prop := va_Qi (fun r' (_ : Unit) => r' = r ∧ wN w' = wN w + mc) (fun _ t => PW g w' t) (gA g)
def QcL (g : Gv) (mc : Nat) (w : Wd) (r : Int64) (w' : Wd) : Array Value → State → Outcome → State → Prop := va_Ql (fun r' (_ : Unit) => r' = r ∧ wN w' = wN w + mc) (fun _ t => PW g w' t) (gA g)
def QcV (g : Gv) (mc : Nat) (w : Wd) (w' : Wd) : Array Value → State → Outcome → State → Prop := va_Qv (fun (_ : Unit) => wN w' = wN w + mc) (fun _ t => PW g w' t) (gA g)
abbrev rmO (fr lo mc ms : Nat) : Room := { frames := fr, cells := mc, slots := ms, locals := lo }
def MI (g : Gv) (l : Launch) (y : MethodName) (b : ByteArray) (mL : Nat) (rt : FieldType) (fr lo : Nat) (av : List Value) (w : Wd) (r : Int32) (w' : Wd) : Prop :=
  Met l y (.code y b mL (some rt) :: tb) (rmO fr lo 0 0) (PcG g av w) (QcI g 0 w r w') 0 0 (gA g)
def ML (g : Gv) (l : Launch) (y : MethodName) (b : ByteArray) (mL : Nat) (fr lo : Nat) (av : List Value) (w : Wd) (r : Int64) (w' : Wd) : Prop :=
  Met l y (.code y b mL (some .long) :: tb) (rmO fr lo 0 0) (PcG g av w) (QcL g 0 w r w') 0 0 (gA g)
def MV (g : Gv) (l : Launch) (y : MethodName) (b : ByteArray) (mL : Nat) (fr lo mc ms : Nat) (av : List Value) (w : Wd) (w' : Wd) : Prop :=
  Met l y (.code y b mL none :: tb) (rmO fr lo mc ms) (PcG g av w) (QcV g mc w w') mc ms (gA g)
def QI (X : Xt) (w : Wd) (r : Int32) (w' : Wd) : State → Prop := MQ (xb X) (QcI (xg X) 0 w r w') (xa X) (xs X) 0 0 (gA (xg X))
def QL (X : Xt) (w : Wd) (r : Int64) (w' : Wd) : State → Prop := MQ (xb X) (QcL (xg X) 0 w r w') (xa X) (xs X) 0 0 (gA (xg X))
def QV (X : Xt) (mc ms : Nat) (w : Wd) (w' : Wd) : State → Prop := MQ (xb X) (QcV (xg X) mc w w') (xa X) (xs X) mc ms (gA (xg X))
theorem mi_of {g : Gv} {l : Launch} {y : MethodName} {b : ByteArray} {mL : Nat} {rt : FieldType} {fr lo : Nat} {av : List Value} {w : Wd} {r : Int32} {w' : Wd} (own : String) (hy : plainName y.cls = true) (ho : own = y.cls) (hlen : (lg_sl av).length ≤ mL)
    (k : ∀ X : Xt, xg X = g → xl X = l → Ok X own b mL fr lo 0 0 → (xme X).sig.returnType = some rt → gB g + wN w = (xs X).heap.size → Wk X 0 0 (QI X w r w') w (lv_args 0 av) 0 []) : MI g l y b mL rt fr lo av w r w' := by
  refine Met.ofW (cc := b) (maxL := mL) (ret := some rt) hy rfl ?_
  intro p e s m args below meth c s₁ Bd hml hv
  obtain ⟨rfl, ⟨hK, hP, hsz⟩, hst⟩ := hv
  have hts := atoms_spec (ws := .code y b mL (some rt) :: tb) Bd.pre
  have hl := lv_entry av (n := mL) hlen
  rw [lg_entry_eq]
  exact k (p, l, e, _, s, m, av.toArray, below, meth, c, g, mL) rfl rfl ⟨Bd.exec, Bd.bytes, hml, by rw [ho]; exact findClass_of_methodNamed Bd.named, fun w h => hts w (List.mem_cons_of_mem _ h), Bd.notSynchronized, rfl, rfl, rfl, rfl, rfl⟩ Bd.returns hsz.symm s.heap [] _ ⟨hK, hP, va_S.rf, hsz.symm, by show gB g ≤ s.heap.size; omega, hst⟩ hl
theorem ml_of {g : Gv} {l : Launch} {y : MethodName} {b : ByteArray} {mL : Nat} {fr lo : Nat} {av : List Value} {w : Wd} {r : Int64} {w' : Wd} (own : String) (hy : plainName y.cls = true) (ho : own = y.cls) (hlen : (lg_sl av).length ≤ mL)
    (k : ∀ X : Xt, xg X = g → xl X = l → Ok X own b mL fr lo 0 0 → (xme X).sig.returnType = some .long → gB g + wN w = (xs X).heap.size → Wk X 0 0 (QL X w r w') w (lv_args 0 av) 0 []) : ML g l y b mL fr lo av w r w' := by
  refine Met.ofW (cc := b) (maxL := mL) (ret := some .long) hy rfl ?_
  intro p e s m args below meth c s₁ Bd hml hv
  obtain ⟨rfl, ⟨hK, hP, hsz⟩, hst⟩ := hv
  have hts := atoms_spec (ws := .code y b mL (some .long) :: tb) Bd.pre
  have hl := lv_entry av (n := mL) hlen
  rw [lg_entry_eq]
  exact k (p, l, e, _, s, m, av.toArray, below, meth, c, g, mL) rfl rfl ⟨Bd.exec, Bd.bytes, hml, by rw [ho]; exact findClass_of_methodNamed Bd.named, fun w h => hts w (List.mem_cons_of_mem _ h), Bd.notSynchronized, rfl, rfl, rfl, rfl, rfl⟩ Bd.returns hsz.symm s.heap [] _ ⟨hK, hP, va_S.rf, hsz.symm, by show gB g ≤ s.heap.size; omega, hst⟩ hl
theorem mv_of {g : Gv} {l : Launch} {y : MethodName} {b : ByteArray} {mL : Nat} {fr lo mc ms : Nat} {av : List Value} {w : Wd} {w' : Wd} (own : String) (hy : plainName y.cls = true) (ho : own = y.cls) (hlen : (lg_sl av).length ≤ mL)
    (k : ∀ X : Xt, xg X = g → xl X = l → Ok X own b mL fr lo mc ms → (xme X).sig.returnType = none → gB g + wN w = (xs X).heap.size → (xme X).name = y.name → Wk X 0 0 (QV X mc ms w w') w (lv_args 0 av) 0 []) : MV g l y b mL fr lo mc ms av w w' := by
  refine Met.ofW (cc := b) (maxL := mL) (ret := none) hy rfl ?_
  intro p e s m args below meth c s₁ Bd hml hv
  obtain ⟨rfl, ⟨hK, hP, hsz⟩, hst⟩ := hv
  have hts := atoms_spec (ws := .code y b mL none :: tb) Bd.pre
  have hl := lv_entry av (n := mL) hlen
  rw [lg_entry_eq]
  exact k (p, l, e, _, s, m, av.toArray, below, meth, c, g, mL) rfl rfl ⟨Bd.exec, Bd.bytes, hml, by rw [ho]; exact findClass_of_methodNamed Bd.named, fun w h => hts w (List.mem_cons_of_mem _ h), Bd.notSynchronized, rfl, rfl, rfl, rfl, rfl⟩ Bd.returns hsz.symm (name_of_methodNamed Bd.named Bd.method).1 s.heap [] _ ⟨hK, hP, va_S.rf, hsz.symm, by show gB g ≤ s.heap.size; omega, hst⟩ hl
/-- the heap is no larger than the cells made -/
theorem W.sized {p : Program} {l : Launch} {e : Env} {R : Room} {s : State} {m : MethodId} {args : Array Value} {below : List Frame} {meth : Method} {c : Code} {H : Heap} {locs : List Loc} {cells slots : Nat} {Q : State → Prop} {g : JFrame} (k : H.size ≤ s.heap.size + cells → W p l e R s m args below meth c H locs cells slots Q g) : W p l e R s m args below meth c H locs cells slots Q g :=
  fun T hT X => k (by rw [← hT]; exact X.heapSize) T hT X
theorem FW.low {X : Xt} {w : Wd} {H : Heap} {locs : List Loc} {cs : Nat} (h : FW X w H locs cs) : gB (xg X) + wN w ≤ H.size := by
  obtain ⟨-, hP, hS, hn, hB, -⟩ := h
  by_cases h0 : wN w = 0
  · have := hS.1
    omega
  · have h1 := hP (wN w - 1) _ (lay_get (by omega))
    have h2 : gB (xg X) + (wN w - 1) < H.size := h1.lt
    omega
theorem FW.size {X : Xt} {w : Wd} {H : Heap} {locs : List Loc} {cs : Nat} (h : FW X w H locs cs) (hs : H.size ≤ (xs X).heap.size + cs) : H.size = gB (xg X) + wN w := by
  have h1 := h.low
  have h2 := h.2.2.2.1
  omega
theorem FW.hA {X : Xt} {w : Wd} {H : Heap} {locs : List Loc} {cs : Nat} (h : FW X w H locs cs) : ∀ q, (xs X).heap.size ≤ q → gA (xg X) q := fun q hq => Nat.le_trans h.2.2.2.2.1 hq
end
section
section KR
variable {X : Xt} {own : String} {cc : ByteArray} {nL fr lo mc ms cs sl pc : Nat} {Q : State → Prop} {w : Wd} {lv lv2 : List (Nat × Value)} {st : List Value}
theorem k_sub (ks : List Nat) (h : lv_pick lv ks = lv2) (kk : Wk X cs sl Q w lv2 pc st) : Wk X cs sl Q w lv pc st := fun H locs ls hW hl => kk H locs ls hW (lv_sub hl ks h)
theorem k_aload_n (C : Ok X own cc nL fr lo mc ms) {k : Fin 4} {x : Nat} {v : Value} (d : decode cc pc = .ok (.aload_n k, 1)) (j : Nat) (hj : lv[j]? = some (k.val, v)) (hv : v = .ref x) (n : Nat) (hn : n = pc + 1) (kk : Wk X cs sl Q w lv n (v :: st)) : Wk X cs sl Q w lv pc st := by
  subst hn; subst hv; exact fun H locs ls hW hl => lv_aload_n C.1 C.2.1 d rfl (lv_at hl j hj) (kk H locs ls hW hl)
theorem k_iload_n (C : Ok X own cc nL fr lo mc ms) {k : Fin 4} {x : Int32} (d : decode cc pc = .ok (.iload_n k, 1)) (j : Nat) (hj : lv[j]? = some (k.val, .int x)) (n : Nat) (hn : n = pc + 1) (kk : Wk X cs sl Q w lv n (.int x :: st)) : Wk X cs sl Q w lv pc st := by
  subst hn; exact fun H locs ls hW hl => lv_iload_n C.1 C.2.1 d rfl (lv_at hl j hj) (kk H locs ls hW hl)
theorem k_lload_n (C : Ok X own cc nL fr lo mc ms) {k : Fin 4} {x : Int64} (d : decode cc pc = .ok (.lload_n k, 1)) (j : Nat) (hj : lv[j]? = some (k.val, .long x)) (n : Nat) (hn : n = pc + 1) (kk : Wk X cs sl Q w lv n (.long x :: st)) : Wk X cs sl Q w lv pc st := by
  subst hn; exact fun H locs ls hW hl => lv_lload_n C.1 C.2.1 d rfl (lv_at hl j hj) (kk H locs ls hW hl)
theorem k_aload (C : Ok X own cc nL fr lo mc ms) {i : Nat} {x : Nat} {v : Value} (d : decode cc pc = .ok (.aload i, 2)) (j : Nat) (hj : lv[j]? = some (i, v)) (hv : v = .ref x) (n : Nat) (hn : n = pc + 2) (kk : Wk X cs sl Q w lv n (v :: st)) : Wk X cs sl Q w lv pc st := by
  subst hn; subst hv; exact fun H locs ls hW hl => lv_aload C.1 C.2.1 d (lv_at hl j hj) (kk H locs ls hW hl)
theorem k_iload (C : Ok X own cc nL fr lo mc ms) {i : Nat} {x : Int32} (d : decode cc pc = .ok (.iload i, 2)) (j : Nat) (hj : lv[j]? = some (i, .int x)) (n : Nat) (hn : n = pc + 2) (kk : Wk X cs sl Q w lv n (.int x :: st)) : Wk X cs sl Q w lv pc st := by
  subst hn; exact fun H locs ls hW hl => lv_iload C.1 C.2.1 d (lv_at hl j hj) (kk H locs ls hW hl)
theorem k_lload (C : Ok X own cc nL fr lo mc ms) {i : Nat} {x : Int64} (d : decode cc pc = .ok (.lload i, 2)) (j : Nat) (hj : lv[j]? = some (i, .long x)) (n : Nat) (hn : n = pc + 2) (kk : Wk X cs sl Q w lv n (.long x :: st)) : Wk X cs sl Q w lv pc st := by
  subst hn; exact fun H locs ls hW hl => lv_lload C.1 C.2.1 d (lv_at hl j hj) (kk H locs ls hW hl)
theorem k_istore_n (C : Ok X own cc nL fr lo mc ms) {k : Fin 4} {i : Nat} {x : Int32} (d : decode cc pc = .ok (.istore_n k, 1)) (hi : k.val = i) (hb : i < nL) (lv2 : List (Nat × Value)) (hl2 : (i, Value.int x) :: lv.filter (fun q => !(q.1 == i) && !(q.1 + 1 == i && q.2.category == 2)) = lv2) (n : Nat) (hn : n = pc + 1) (kk : Wk X cs sl Q w lv2 n st) : Wk X cs sl Q w lv pc (.int x :: st) := by
  subst hn; have e := C.2.2.2.2.2.2.2.2.2.2; exact fun H locs ls hW hl => lv_istore_n C.1 C.2.1 d hi hl (by rw [e]; exact hb) hl2 (fun ls2 h2 => kk H locs ls2 hW h2)
theorem k_istore (C : Ok X own cc nL fr lo mc ms) {i : Nat} {x : Int32} (d : decode cc pc = .ok (.istore i, 2)) (hb : i < nL) (lv2 : List (Nat × Value)) (hl2 : (i, Value.int x) :: lv.filter (fun q => !(q.1 == i) && !(q.1 + 1 == i && q.2.category == 2)) = lv2) (n : Nat) (hn : n = pc + 2) (kk : Wk X cs sl Q w lv2 n st) : Wk X cs sl Q w lv pc (.int x :: st) := by
  subst hn; have e := C.2.2.2.2.2.2.2.2.2.2; exact fun H locs ls hW hl => lv_istore C.1 C.2.1 d hl (by rw [e]; exact hb) hl2 (fun ls2 h2 => kk H locs ls2 hW h2)
theorem k_lstore_n (C : Ok X own cc nL fr lo mc ms) {k : Fin 4} {i : Nat} {x : Int64} (d : decode cc pc = .ok (.lstore_n k, 1)) (hi : k.val = i) (hb : i + 1 < nL) (lv2 : List (Nat × Value)) (hl2 : (i, Value.long x) :: lv.filter (fun q => !(q.1 == i) && (!(q.1 == i + 1) && !(q.1 + 1 == i && q.2.category == 2))) = lv2) (n : Nat) (hn : n = pc + 1) (kk : Wk X cs sl Q w lv2 n st) : Wk X cs sl Q w lv pc (.long x :: st) := by
  subst hn; have e := C.2.2.2.2.2.2.2.2.2.2; exact fun H locs ls hW hl => lv_lstore_n C.1 C.2.1 d hi hl (by rw [e]; exact hb) hl2 (fun ls2 h2 => kk H locs ls2 hW h2)
theorem k_lstore (C : Ok X own cc nL fr lo mc ms) {i : Nat} {x : Int64} (d : decode cc pc = .ok (.lstore i, 2)) (hb : i + 1 < nL) (lv2 : List (Nat × Value)) (hl2 : (i, Value.long x) :: lv.filter (fun q => !(q.1 == i) && (!(q.1 == i + 1) && !(q.1 + 1 == i && q.2.category == 2))) = lv2) (n : Nat) (hn : n = pc + 2) (kk : Wk X cs sl Q w lv2 n st) : Wk X cs sl Q w lv pc (.long x :: st) := by
  subst hn; have e := C.2.2.2.2.2.2.2.2.2.2; exact fun H locs ls hW hl => lv_lstore C.1 C.2.1 d hl (by rw [e]; exact hb) hl2 (fun ls2 h2 => kk H locs ls2 hW h2)
theorem k_astore_n (C : Ok X own cc nL fr lo mc ms) {k : Fin 4} {i : Nat} {x : Nat} {v : Value} (d : decode cc pc = .ok (.astore_n k, 1)) (hi : k.val = i) (hv : v = .ref x) (hb : i < nL) (lv2 : List (Nat × Value)) (hl2 : (i, v) :: lv.filter (fun q => !(q.1 == i) && !(q.1 + 1 == i && q.2.category == 2)) = lv2) (n : Nat) (hn : n = pc + 1) (kk : Wk X cs sl Q w lv2 n st) : Wk X cs sl Q w lv pc (v :: st) := by
  subst hn; subst hv; have e := C.2.2.2.2.2.2.2.2.2.2; exact fun H locs ls hW hl => lv_astore_n C.1 C.2.1 d hi hl (by rw [e]; exact hb) hl2 (fun ls2 h2 => kk H locs ls2 hW h2)
theorem k_astore (C : Ok X own cc nL fr lo mc ms) {i : Nat} {x : Nat} {v : Value} (d : decode cc pc = .ok (.astore i, 2)) (hv : v = .ref x) (hb : i < nL) (lv2 : List (Nat × Value)) (hl2 : (i, v) :: lv.filter (fun q => !(q.1 == i) && !(q.1 + 1 == i && q.2.category == 2)) = lv2) (n : Nat) (hn : n = pc + 2) (kk : Wk X cs sl Q w lv2 n st) : Wk X cs sl Q w lv pc (v :: st) := by
  subst hn; subst hv; have e := C.2.2.2.2.2.2.2.2.2.2; exact fun H locs ls hW hl => lv_astore C.1 C.2.1 d hl (by rw [e]; exact hb) hl2 (fun ls2 h2 => kk H locs ls2 hW h2)
theorem k_iinc (C : Ok X own cc nL fr lo mc ms) {i : Nat} {x v : Int32} {z : Int} (d : decode cc pc = .ok (.iinc i z, 3)) (j : Nat) (hj : lv[j]? = some (i, .int x)) (hv : Int32.ofInt z = v) (hb : i < nL) (lv2 : List (Nat × Value)) (hl2 : (i, Value.int (x + v)) :: lv.filter (fun q => !(q.1 == i) && !(q.1 + 1 == i && q.2.category == 2)) = lv2) (n : Nat) (hn : n = pc + 3) (kk : Wk X cs sl Q w lv2 n st) : Wk X cs sl Q w lv pc st := by
  subst hn; subst hv; have e := C.2.2.2.2.2.2.2.2.2.2; exact fun H locs ls hW hl => lv_iinc C.1 C.2.1 d hl hj rfl (by rw [e]; exact hb) hl2 (fun ls2 h2 => kk H locs ls2 hW h2)
theorem k_iconst (C : Ok X own cc nL fr lo mc ms) {z : Int} (d : decode cc pc = .ok (.iconst z, 1)) (v : Int32) (hv : Int32.ofInt z = v) (n : Nat) (hn : n = pc + 1) (kk : Wk X cs sl Q w lv n (.int v :: st)) : Wk X cs sl Q w lv pc st := by
  subst hn; exact fun H locs ls hW hl => lv_iconst C.1 C.2.1 d hv (kk H locs ls hW hl)
theorem k_bipush (C : Ok X own cc nL fr lo mc ms) {z : Int} (d : decode cc pc = .ok (.bipush z, 2)) (v : Int32) (hv : (Int8.ofInt z).toInt32 = v) (n : Nat) (hn : n = pc + 2) (kk : Wk X cs sl Q w lv n (.int v :: st)) : Wk X cs sl Q w lv pc st := by
  subst hn; exact fun H locs ls hW hl => lv_bipush C.1 C.2.1 d hv (kk H locs ls hW hl)
theorem k_sipush (C : Ok X own cc nL fr lo mc ms) {z : Int} (d : decode cc pc = .ok (.sipush z, 3)) (v : Int32) (hv : (Int16.ofInt z).toInt32 = v) (n : Nat) (hn : n = pc + 3) (kk : Wk X cs sl Q w lv n (.int v :: st)) : Wk X cs sl Q w lv pc st := by
  subst hn; exact fun H locs ls hW hl => lv_sipush C.1 C.2.1 d hv (kk H locs ls hW hl)
theorem k_lconst (C : Ok X own cc nL fr lo mc ms) {z : Fin 2} (d : decode cc pc = .ok (.lconst z, 1)) (v : Int64) (hv : Int64.ofNat z.val = v) (n : Nat) (hn : n = pc + 1) (kk : Wk X cs sl Q w lv n (.long v :: st)) : Wk X cs sl Q w lv pc st := by
  subst hn; exact fun H locs ls hW hl => lv_lconst C.1 C.2.1 d hv (kk H locs ls hW hl)
theorem k_ldc (C : Ok X own cc nL fr lo mc ms) {ix : Nat} {v : Int32} (d : decode cc pc = .ok (.ldc ix, 2)) (hm : Cond.constant own ix v ∈ tb) (n : Nat) (hn : n = pc + 2) (kk : Wk X cs sl Q w lv n (.int v :: st)) : Wk X cs sl Q w lv pc st := by
  subst hn; exact fun H locs ls hW hl => lv_ldc C.1 C.2.1 C.2.2.2.1 (C.2.2.2.2.1 _ hm) d (kk H locs ls hW hl)
theorem k_ldcw (C : Ok X own cc nL fr lo mc ms) {ix : Nat} {v : Int32} (d : decode cc pc = .ok (.ldc_w ix, 3)) (hm : Cond.constant own ix v ∈ tb) (n : Nat) (hn : n = pc + 3) (kk : Wk X cs sl Q w lv n (.int v :: st)) : Wk X cs sl Q w lv pc st := by
  subst hn; exact fun H locs ls hW hl => lv_ldcw C.1 C.2.1 C.2.2.2.1 (C.2.2.2.2.1 _ hm) d (kk H locs ls hW hl)
theorem k_ldc2 (C : Ok X own cc nL fr lo mc ms) {ix : Nat} {v : Int64} (d : decode cc pc = .ok (.ldc2_w ix, 3)) (hm : Cond.constantLong own ix v ∈ tb) (n : Nat) (hn : n = pc + 3) (kk : Wk X cs sl Q w lv n (.long v :: st)) : Wk X cs sl Q w lv pc st := by
  subst hn; exact fun H locs ls hW hl => lv_ldc2 C.1 C.2.1 C.2.2.2.1 (C.2.2.2.2.1 _ hm) d (kk H locs ls hW hl)
theorem k_ldcS (C : Ok X own cc nL fr lo mc ms) {ix : Nat} (d : decode cc pc = .ok (.ldc ix, 2)) (j : Nat) (hj : j < 5) (ho : own = "GrindMill$Text") (hx : sIx.getD j 0 = ix) (n : Nat) (hn : n = pc + 2) (kk : Wk X cs sl Q w lv n (sV (xg X) j :: st)) : Wk X cs sl Q w lv pc st := by
  subst hn; subst hx; subst ho; exact fun H locs ls hW hl => va_ldcS C.1 C.2.1 C.2.2.2.1 (hW.2.2.2.2.2.2.2.1 j hj) d (kk H locs ls hW hl)
theorem k_iadd (C : Ok X own cc nL fr lo mc ms) {x y : Int32} (d : decode cc pc = .ok (.iadd, 1)) (n : Nat) (hn : n = pc + 1) (kk : Wk X cs sl Q w lv n (.int (x + y) :: st)) : Wk X cs sl Q w lv pc (.int y :: .int x :: st) := by
  subst hn; exact fun H locs ls hW hl => lv_iadd C.1 C.2.1 d (kk H locs ls hW hl)
theorem k_isub (C : Ok X own cc nL fr lo mc ms) {x y : Int32} (d : decode cc pc = .ok (.isub, 1)) (n : Nat) (hn : n = pc + 1) (kk : Wk X cs sl Q w lv n (.int (x - y) :: st)) : Wk X cs sl Q w lv pc (.int y :: .int x :: st) := by
  subst hn; exact fun H locs ls hW hl => lv_isub C.1 C.2.1 d (kk H locs ls hW hl)
theorem k_imul (C : Ok X own cc nL fr lo mc ms) {x y : Int32} (d : decode cc pc = .ok (.imul, 1)) (n : Nat) (hn : n = pc + 1) (kk : Wk X cs sl Q w lv n (.int (x * y) :: st)) : Wk X cs sl Q w lv pc (.int y :: .int x :: st) := by
  subst hn; exact fun H locs ls hW hl => lv_imul C.1 C.2.1 d (kk H locs ls hW hl)
theorem k_iand (C : Ok X own cc nL fr lo mc ms) {x y : Int32} (d : decode cc pc = .ok (.iand, 1)) (n : Nat) (hn : n = pc + 1) (kk : Wk X cs sl Q w lv n (.int (x &&& y) :: st)) : Wk X cs sl Q w lv pc (.int y :: .int x :: st) := by
  subst hn; exact fun H locs ls hW hl => lv_iand C.1 C.2.1 d (kk H locs ls hW hl)
theorem k_ior (C : Ok X own cc nL fr lo mc ms) {x y : Int32} (d : decode cc pc = .ok (.ior, 1)) (n : Nat) (hn : n = pc + 1) (kk : Wk X cs sl Q w lv n (.int (x ||| y) :: st)) : Wk X cs sl Q w lv pc (.int y :: .int x :: st) := by
  subst hn; exact fun H locs ls hW hl => lv_ior C.1 C.2.1 d (kk H locs ls hW hl)
theorem k_ixor (C : Ok X own cc nL fr lo mc ms) {x y : Int32} (d : decode cc pc = .ok (.ixor, 1)) (n : Nat) (hn : n = pc + 1) (kk : Wk X cs sl Q w lv n (.int (x ^^^ y) :: st)) : Wk X cs sl Q w lv pc (.int y :: .int x :: st) := by
  subst hn; exact fun H locs ls hW hl => lv_ixor C.1 C.2.1 d (kk H locs ls hW hl)
theorem k_ishl (C : Ok X own cc nL fr lo mc ms) {x y : Int32} (d : decode cc pc = .ok (.ishl, 1)) (n : Nat) (hn : n = pc + 1) (kk : Wk X cs sl Q w lv n (.int (x <<< (y &&& 31)) :: st)) : Wk X cs sl Q w lv pc (.int y :: .int x :: st) := by
  subst hn; exact fun H locs ls hW hl => lv_ishl C.1 C.2.1 d (kk H locs ls hW hl)
theorem k_ishr (C : Ok X own cc nL fr lo mc ms) {x y : Int32} (d : decode cc pc = .ok (.ishr, 1)) (n : Nat) (hn : n = pc + 1) (kk : Wk X cs sl Q w lv n (.int (x >>> (y &&& 31)) :: st)) : Wk X cs sl Q w lv pc (.int y :: .int x :: st) := by
  subst hn; exact fun H locs ls hW hl => lv_ishr C.1 C.2.1 d (kk H locs ls hW hl)
def iush (x y : Int32) : Int32 := (x.toUInt32 >>> (y.toUInt32 &&& Int32.toUInt32 31)).toInt32
theorem k_iushr (C : Ok X own cc nL fr lo mc ms) {x y : Int32} (d : decode cc pc = .ok (.iushr, 1)) (n : Nat) (hn : n = pc + 1) (kk : Wk X cs sl Q w lv n (.int (iush x y) :: st)) : Wk X cs sl Q w lv pc (.int y :: .int x :: st) := by
  subst hn; exact fun H locs ls hW hl => lv_iushr C.1 C.2.1 d rfl (kk H locs ls hW hl)
def irm (x y : Int32) : Int32 := x - x / y * y
def lrm (x y : Int64) : Int64 := x - x / y * y
theorem k_idiv (C : Ok X own cc nL fr lo mc ms) {x y : Int32} (d : decode cc pc = .ok (.idiv, 1)) (h0 : ¬ y = 0) (n : Nat) (hn : n = pc + 1) (kk : Wk X cs sl Q w lv n (.int (x / y) :: st)) : Wk X cs sl Q w lv pc (.int y :: .int x :: st) := by
  subst hn; exact fun H locs ls hW hl => lv_idiv C.1 C.2.1 d h0 (kk H locs ls hW hl)
theorem k_irem (C : Ok X own cc nL fr lo mc ms) {x y : Int32} (d : decode cc pc = .ok (.irem, 1)) (h0 : ¬ y = 0) (n : Nat) (hn : n = pc + 1) (kk : Wk X cs sl Q w lv n (.int (irm x y) :: st)) : Wk X cs sl Q w lv pc (.int y :: .int x :: st) := by
  subst hn; exact fun H locs ls hW hl => lv_irem C.1 C.2.1 d h0 (kk H locs ls hW hl)
theorem k_ladd (C : Ok X own cc nL fr lo mc ms) {x y : Int64} (d : decode cc pc = .ok (.ladd, 1)) (n : Nat) (hn : n = pc + 1) (kk : Wk X cs sl Q w lv n (.long (x + y) :: st)) : Wk X cs sl Q w lv pc (.long y :: .long x :: st) := by
  subst hn; exact fun H locs ls hW hl => lv_ladd C.1 C.2.1 d (kk H locs ls hW hl)
theorem k_lmul (C : Ok X own cc nL fr lo mc ms) {x y : Int64} (d : decode cc pc = .ok (.lmul, 1)) (n : Nat) (hn : n = pc + 1) (kk : Wk X cs sl Q w lv n (.long (x * y) :: st)) : Wk X cs sl Q w lv pc (.long y :: .long x :: st) := by
  subst hn; exact fun H locs ls hW hl => lv_lmul C.1 C.2.1 d (kk H locs ls hW hl)
theorem k_ldiv (C : Ok X own cc nL fr lo mc ms) {x y : Int64} (d : decode cc pc = .ok (.ldiv, 1)) (h0 : ¬ y = 0) (n : Nat) (hn : n = pc + 1) (kk : Wk X cs sl Q w lv n (.long (x / y) :: st)) : Wk X cs sl Q w lv pc (.long y :: .long x :: st) := by
  subst hn; exact fun H locs ls hW hl => lv_ldiv C.1 C.2.1 d h0 (kk H locs ls hW hl)
theorem k_lrem (C : Ok X own cc nL fr lo mc ms) {x y : Int64} (d : decode cc pc = .ok (.lrem, 1)) (h0 : ¬ y = 0) (n : Nat) (hn : n = pc + 1) (kk : Wk X cs sl Q w lv n (.long (lrm x y) :: st)) : Wk X cs sl Q w lv pc (.long y :: .long x :: st) := by
  subst hn; exact fun H locs ls hW hl => lv_lrem C.1 C.2.1 d h0 (kk H locs ls hW hl)
theorem k_lcmp (C : Ok X own cc nL fr lo mc ms) {x y : Int64} (d : decode cc pc = .ok (.lcmp, 1)) (n : Nat) (hn : n = pc + 1) (kk : Wk X cs sl Q w lv n (.int (lg_cmp x y) :: st)) : Wk X cs sl Q w lv pc (.long y :: .long x :: st) := by
  subst hn; exact fun H locs ls hW hl => W.lcmp C.1 C.2.1 d (kk H locs ls hW hl)
theorem k_i2l (C : Ok X own cc nL fr lo mc ms) {x : Int32} (d : decode cc pc = .ok (.i2l, 1)) (n : Nat) (hn : n = pc + 1) (kk : Wk X cs sl Q w lv n (.long (x.toInt64) :: st)) : Wk X cs sl Q w lv pc (.int x :: st) := by
  subst hn; exact fun H locs ls hW hl => lv_i2l C.1 C.2.1 d rfl (kk H locs ls hW hl)
theorem k_l2i (C : Ok X own cc nL fr lo mc ms) {x : Int64} (d : decode cc pc = .ok (.l2i, 1)) (n : Nat) (hn : n = pc + 1) (kk : Wk X cs sl Q w lv n (.int (x.toInt32) :: st)) : Wk X cs sl Q w lv pc (.long x :: st) := by
  subst hn; exact fun H locs ls hW hl => lv_l2i C.1 C.2.1 d rfl (kk H locs ls hW hl)
theorem k_i2b (C : Ok X own cc nL fr lo mc ms) {x : Int32} (d : decode cc pc = .ok (.i2b, 1)) (n : Nat) (hn : n = pc + 1) (kk : Wk X cs sl Q w lv n (.int (x.toInt8.toInt32) :: st)) : Wk X cs sl Q w lv pc (.int x :: st) := by
  subst hn; exact fun H locs ls hW hl => lv_i2b C.1 C.2.1 d rfl (kk H locs ls hW hl)
theorem k_i2c (C : Ok X own cc nL fr lo mc ms) {x : Int32} (d : decode cc pc = .ok (.i2c, 1)) (n : Nat) (hn : n = pc + 1) (kk : Wk X cs sl Q w lv n (.int ((x.toUInt32 % 65536).toInt32) :: st)) : Wk X cs sl Q w lv pc (.int x :: st) := by
  subst hn; exact fun H locs ls hW hl => lv_i2c C.1 C.2.1 d rfl (kk H locs ls hW hl)
theorem k_dup (C : Ok X own cc nL fr lo mc ms) {v : Value} (d : decode cc pc = .ok (.dup, 1)) (hv : v.category = 1) (n : Nat) (hn : n = pc + 1) (kk : Wk X cs sl Q w lv n (v :: v :: st)) : Wk X cs sl Q w lv pc (v :: st) := by
  subst hn; exact fun H locs ls hW hl => lv_dup C.1 C.2.1 d hv (kk H locs ls hW hl)
theorem k_dup2 (C : Ok X own cc nL fr lo mc ms) {v u : Value} (d : decode cc pc = .ok (.dup2, 1)) (hv : v.category = 1) (hu : u.category = 1) (n : Nat) (hn : n = pc + 1) (kk : Wk X cs sl Q w lv n (v :: u :: v :: u :: st)) : Wk X cs sl Q w lv pc (v :: u :: st) := by
  subst hn; exact fun H locs ls hW hl => lv_dup2_11 C.1 C.2.1 d hv hu (kk H locs ls hW hl)
theorem k_pop (C : Ok X own cc nL fr lo mc ms) {v : Value} (d : decode cc pc = .ok (.pop, 1)) (hv : v.category = 1) (n : Nat) (hn : n = pc + 1) (kk : Wk X cs sl Q w lv n st) : Wk X cs sl Q w lv pc (v :: st) := by
  subst hn; exact fun H locs ls hW hl => lv_pop C.1 C.2.1 d hv (kk H locs ls hW hl)
theorem k_goto (C : Ok X own cc nL fr lo mc ms) {off : Int} (d : decode cc pc = .ok (.goto off, 3)) (n : Nat) (hn : (pc : Int) + off = (n : Int)) (kk : Wk X cs sl Q w lv n st) : Wk X cs sl Q w lv pc st :=
  fun H locs ls hW hl => lv_goto C.1 C.2.1 d hn (kk H locs ls hW hl)
theorem k_icmp_eq (C : Ok X own cc nL fr lo mc ms) {α : Type} {x y : Int32} {off : Int} {i0 : Decidable (x = y)} {A B : Option α} {z : α} (d : decode cc pc = .ok (.if_icmp .eq off, 3)) (hf : (@ite _ (x = y) i0 A B) = some z) (t : Nat) (ht : (pc : Int) + off = (t : Int)) (n : Nat) (hn : n = pc + 3) (kt : A = some z → Wk X cs sl Q w lv t st) (kf : B = some z → Wk X cs sl Q w lv n st) : Wk X cs sl Q w lv pc (.int y :: .int x :: st) := by
  subst hn; exact fun H locs ls hW hl => lv_icmp_eq C.1 C.2.1 d ht (fun h => kt (by rw [if_pos h] at hf; exact hf) H locs ls hW hl) (fun h => kf (by rw [if_neg h] at hf; exact hf) H locs ls hW hl)
theorem k_if_eq (C : Ok X own cc nL fr lo mc ms) {α : Type} {x : Int32} {off : Int} {i0 : Decidable (x = 0)} {A B : Option α} {z : α} (d : decode cc pc = .ok (.ifCond .eq off, 3)) (hf : (@ite _ (x = 0) i0 A B) = some z) (t : Nat) (ht : (pc : Int) + off = (t : Int)) (n : Nat) (hn : n = pc + 3) (kt : A = some z → Wk X cs sl Q w lv t st) (kf : B = some z → Wk X cs sl Q w lv n st) : Wk X cs sl Q w lv pc (.int x :: st) := by
  subst hn; exact fun H locs ls hW hl => lv_if_eq C.1 C.2.1 d ht (fun h => kt (by rw [if_pos h] at hf; exact hf) H locs ls hW hl) (fun h => kf (by rw [if_neg h] at hf; exact hf) H locs ls hW hl)
theorem k_icmp_ne (C : Ok X own cc nL fr lo mc ms) {α : Type} {x y : Int32} {off : Int} {i0 : Decidable (x = y)} {A B : Option α} {z : α} (d : decode cc pc = .ok (.if_icmp .ne off, 3)) (hf : (@ite _ (x = y) i0 A B) = some z) (t : Nat) (ht : (pc : Int) + off = (t : Int)) (n : Nat) (hn : n = pc + 3) (kt : B = some z → Wk X cs sl Q w lv t st) (kf : A = some z → Wk X cs sl Q w lv n st) : Wk X cs sl Q w lv pc (.int y :: .int x :: st) := by
  subst hn; exact fun H locs ls hW hl => lv_icmp_ne C.1 C.2.1 d ht (fun h => kt (by rw [if_neg h] at hf; exact hf) H locs ls hW hl) (fun h => kf (by rw [if_pos h] at hf; exact hf) H locs ls hW hl)
theorem k_if_ne (C : Ok X own cc nL fr lo mc ms) {α : Type} {x : Int32} {off : Int} {i0 : Decidable (x = 0)} {A B : Option α} {z : α} (d : decode cc pc = .ok (.ifCond .ne off, 3)) (hf : (@ite _ (x = 0) i0 A B) = some z) (t : Nat) (ht : (pc : Int) + off = (t : Int)) (n : Nat) (hn : n = pc + 3) (kt : B = some z → Wk X cs sl Q w lv t st) (kf : A = some z → Wk X cs sl Q w lv n st) : Wk X cs sl Q w lv pc (.int x :: st) := by
  subst hn; exact fun H locs ls hW hl => lv_if_ne C.1 C.2.1 d ht (fun h => kt (by rw [if_neg h] at hf; exact hf) H locs ls hW hl) (fun h => kf (by rw [if_pos h] at hf; exact hf) H locs ls hW hl)
theorem k_icmp_lt (C : Ok X own cc nL fr lo mc ms) {α : Type} {x y : Int32} {off : Int} {i0 : Decidable (x < y)} {A B : Option α} {z : α} (d : decode cc pc = .ok (.if_icmp .lt off, 3)) (hf : (@ite _ (x < y) i0 A B) = some z) (t : Nat) (ht : (pc : Int) + off = (t : Int)) (n : Nat) (hn : n = pc + 3) (kt : A = some z → Wk X cs sl Q w lv t st) (kf : B = some z → Wk X cs sl Q w lv n st) : Wk X cs sl Q w lv pc (.int y :: .int x :: st) := by
  subst hn; exact fun H locs ls hW hl => lv_icmp_lt C.1 C.2.1 d ht (fun h => kt (by rw [if_pos h] at hf; exact hf) H locs ls hW hl) (fun h => kf (by rw [if_neg h] at hf; exact hf) H locs ls hW hl)
theorem k_if_lt (C : Ok X own cc nL fr lo mc ms) {α : Type} {x : Int32} {off : Int} {i0 : Decidable (x < 0)} {A B : Option α} {z : α} (d : decode cc pc = .ok (.ifCond .lt off, 3)) (hf : (@ite _ (x < 0) i0 A B) = some z) (t : Nat) (ht : (pc : Int) + off = (t : Int)) (n : Nat) (hn : n = pc + 3) (kt : A = some z → Wk X cs sl Q w lv t st) (kf : B = some z → Wk X cs sl Q w lv n st) : Wk X cs sl Q w lv pc (.int x :: st) := by
  subst hn; exact fun H locs ls hW hl => lv_if_lt C.1 C.2.1 d ht (fun h => kt (by rw [if_pos h] at hf; exact hf) H locs ls hW hl) (fun h => kf (by rw [if_neg h] at hf; exact hf) H locs ls hW hl)
theorem k_icmp_ge (C : Ok X own cc nL fr lo mc ms) {α : Type} {x y : Int32} {off : Int} {i0 : Decidable (y ≤ x)} {A B : Option α} {z : α} (d : decode cc pc = .ok (.if_icmp .ge off, 3)) (hf : (@ite _ (y ≤ x) i0 A B) = some z) (t : Nat) (ht : (pc : Int) + off = (t : Int)) (n : Nat) (hn : n = pc + 3) (kt : A = some z → Wk X cs sl Q w lv t st) (kf : B = some z → Wk X cs sl Q w lv n st) : Wk X cs sl Q w lv pc (.int y :: .int x :: st) := by
  subst hn; exact fun H locs ls hW hl => lv_icmp_ge C.1 C.2.1 d ht (fun h => kt (by rw [if_pos h] at hf; exact hf) H locs ls hW hl) (fun h => kf (by rw [if_neg h] at hf; exact hf) H locs ls hW hl)
theorem k_if_ge (C : Ok X own cc nL fr lo mc ms) {α : Type} {x : Int32} {off : Int} {i0 : Decidable (0 ≤ x)} {A B : Option α} {z : α} (d : decode cc pc = .ok (.ifCond .ge off, 3)) (hf : (@ite _ (0 ≤ x) i0 A B) = some z) (t : Nat) (ht : (pc : Int) + off = (t : Int)) (n : Nat) (hn : n = pc + 3) (kt : A = some z → Wk X cs sl Q w lv t st) (kf : B = some z → Wk X cs sl Q w lv n st) : Wk X cs sl Q w lv pc (.int x :: st) := by
  subst hn; exact fun H locs ls hW hl => lv_if_ge C.1 C.2.1 d ht (fun h => kt (by rw [if_pos h] at hf; exact hf) H locs ls hW hl) (fun h => kf (by rw [if_neg h] at hf; exact hf) H locs ls hW hl)
theorem k_icmp_gt (C : Ok X own cc nL fr lo mc ms) {α : Type} {x y : Int32} {off : Int} {i0 : Decidable (y < x)} {A B : Option α} {z : α} (d : decode cc pc = .ok (.if_icmp .gt off, 3)) (hf : (@ite _ (y < x) i0 A B) = some z) (t : Nat) (ht : (pc : Int) + off = (t : Int)) (n : Nat) (hn : n = pc + 3) (kt : A = some z → Wk X cs sl Q w lv t st) (kf : B = some z → Wk X cs sl Q w lv n st) : Wk X cs sl Q w lv pc (.int y :: .int x :: st) := by
  subst hn; exact fun H locs ls hW hl => lv_icmp_gt C.1 C.2.1 d ht (fun h => kt (by rw [if_pos h] at hf; exact hf) H locs ls hW hl) (fun h => kf (by rw [if_neg h] at hf; exact hf) H locs ls hW hl)
theorem k_if_gt (C : Ok X own cc nL fr lo mc ms) {α : Type} {x : Int32} {off : Int} {i0 : Decidable (0 < x)} {A B : Option α} {z : α} (d : decode cc pc = .ok (.ifCond .gt off, 3)) (hf : (@ite _ (0 < x) i0 A B) = some z) (t : Nat) (ht : (pc : Int) + off = (t : Int)) (n : Nat) (hn : n = pc + 3) (kt : A = some z → Wk X cs sl Q w lv t st) (kf : B = some z → Wk X cs sl Q w lv n st) : Wk X cs sl Q w lv pc (.int x :: st) := by
  subst hn; exact fun H locs ls hW hl => lv_if_gt C.1 C.2.1 d ht (fun h => kt (by rw [if_pos h] at hf; exact hf) H locs ls hW hl) (fun h => kf (by rw [if_neg h] at hf; exact hf) H locs ls hW hl)
theorem k_icmp_le (C : Ok X own cc nL fr lo mc ms) {α : Type} {x y : Int32} {off : Int} {i0 : Decidable (x ≤ y)} {A B : Option α} {z : α} (d : decode cc pc = .ok (.if_icmp .le off, 3)) (hf : (@ite _ (x ≤ y) i0 A B) = some z) (t : Nat) (ht : (pc : Int) + off = (t : Int)) (n : Nat) (hn : n = pc + 3) (kt : A = some z → Wk X cs sl Q w lv t st) (kf : B = some z → Wk X cs sl Q w lv n st) : Wk X cs sl Q w lv pc (.int y :: .int x :: st) := by
  subst hn; exact fun H locs ls hW hl => lv_icmp_le C.1 C.2.1 d ht (fun h => kt (by rw [if_pos h] at hf; exact hf) H locs ls hW hl) (fun h => kf (by rw [if_neg h] at hf; exact hf) H locs ls hW hl)
theorem k_if_le (C : Ok X own cc nL fr lo mc ms) {α : Type} {x : Int32} {off : Int} {i0 : Decidable (x ≤ 0)} {A B : Option α} {z : α} (d : decode cc pc = .ok (.ifCond .le off, 3)) (hf : (@ite _ (x ≤ 0) i0 A B) = some z) (t : Nat) (ht : (pc : Int) + off = (t : Int)) (n : Nat) (hn : n = pc + 3) (kt : A = some z → Wk X cs sl Q w lv t st) (kf : B = some z → Wk X cs sl Q w lv n st) : Wk X cs sl Q w lv pc (.int x :: st) := by
  subst hn; exact fun H locs ls hW hl => lv_if_le C.1 C.2.1 d ht (fun h => kt (by rw [if_pos h] at hf; exact hf) H locs ls hW hl) (fun h => kf (by rw [if_neg h] at hf; exact hf) H locs ls hW hl)
theorem k_tswIn (C : Ok X own cc nL fr lo mc ms) {dflt lo2 hi off : Int} {offs : Array Int} {len : Nat} {x : Int32} (d : decode cc pc = .ok (.tableswitch dflt lo2 hi offs, len)) (v : Int32) (hx : x = v) (h : ¬ v.toInt < lo2 ∧ ¬ hi < v.toInt ∧ offs[(v.toInt - lo2).toNat]? = some off) (t : Nat) (ht : (pc : Int) + off = (t : Int)) (kk : Wk X cs sl Q w lv t st) : Wk X cs sl Q w lv pc (.int x :: st) := by
  subst hx; exact fun H locs ls hW hl => lv_tableIn C.1 C.2.1 d h.1 h.2.1 h.2.2 ht (kk H locs ls hW hl)
theorem k_tswOut (C : Ok X own cc nL fr lo mc ms) {dflt lo2 hi : Int} {offs : Array Int} {len : Nat} {x : Int32} (d : decode cc pc = .ok (.tableswitch dflt lo2 hi offs, len)) (h : x.toInt < lo2 ∨ hi < x.toInt) (t : Nat) (ht : (pc : Int) + dflt = (t : Int)) (kk : Wk X cs sl Q w lv t st) : Wk X cs sl Q w lv pc (.int x :: st) :=
  fun H locs ls hW hl => lv_tableOut C.1 C.2.1 d h ht (kk H locs ls hW hl)
theorem k_nm {α β : Type} {e : α} {K : α → Option β} {z : β} {P : Prop} (hf : nm e K = some z) (kk : ∀ x, x = e → K x = some z → P) : P := kk e rfl hf
theorem k_nmi {β : Type} {e : Int32} {K : Int32 → Option β} {z : β} (hf : nm e K = some z) (kk : ∀ x, K x = some z → Wk X cs sl Q w lv pc (.int x :: st)) : Wk X cs sl Q w lv pc (.int e :: st) := kk e hf
theorem k_nml {β : Type} {e : Int64} {K : Int64 → Option β} {z : β} (hf : nm e K = some z) (kk : ∀ x, K x = some z → Wk X cs sl Q w lv pc (.long x :: st)) : Wk X cs sl Q w lv pc (.long e :: st) := kk e hf
theorem k_split {α : Type} {c P : Prop} {i0 : Decidable c} {A B : Option α} {z : α} (hf : (@ite _ c i0 A B) = some z) (kt : c → A = some z → P) (kf : ¬ c → B = some z → P) : P := by
  by_cases h : c
  · exact kt h (by rw [if_pos h] at hf; exact hf)
  · exact kf h (by rw [if_neg h] at hf; exact hf)
/-- a class: its words, the types and names of its fields -/
def isRf (ty : FieldType) : Bool := match ty with
  | .object _ => true
  | .array _ => true
  | _ => false
theorem fval_rf {B : Nat} {w : Wd} {a k : Nat} {ty : FieldType} (h : isRf ty = true) : fval B w a ty k = va_rf (arf B (wR w a) k) := by
  cases ty <;> first | rfl | exact absurd h (by decide)
theorem fits_rf {ty : FieldType} {a : Nat} (h : isRf ty = true) : fits ty (.ref a) = true := by
  cases ty <;> first | rfl | exact absurd h (by decide)
def CE (t : Nat) : Prop := vwCl[t]? = some (cN t, cT t, fn t) ∧ (∀ w ∈ u_ws (cN t) (cT t) (fn t), w ∈ tb) ∧ (∀ k, k < fn t → parseFieldDescriptor (cT t k).2.2.1 = some (fty t k)) ∧ (∀ a, a < fn t → ∀ b, b < fn t → a ≠ b → (cT t a).2.1 ≠ (cT t b).2.1) ∧ t < 13
def FE (own : String) (ix t k : Nat) : Prop := CE t ∧ k < fn t ∧ Cond.fieldLink own ix (cT t k).1 (cT t k).2.1 (cT t k).2.2.1 ∈ tb
theorem k_getI (C : Ok X own cc nL fr lo mc ms) {α : Type} {ix a t k : Nat} {K : Int32 → Option α} {z : α} (E : FE own ix t k) (hty : fty t k = .int) (d : decode cc pc = .ok (.getfield ix, 3)) (hf : gI w a t k K = some z) (n : Nat) (hn : n = pc + 3) (kk : ∀ x, K x = some z → Wk X cs sl Q w lv n (.int x :: st)) : Wk X cs sl Q w lv pc (rV (xg X) a :: st) := by
  subst hn
  obtain ⟨h1, h2⟩ := gI_s hf
  obtain ⟨⟨e1, e2, e3, e4, e5⟩, e6, e7⟩ := E
  intro H locs ls hW hl
  exact va_get C.1 C.2.1 C.2.2.2.2.1 e2 C.2.2.2.1 hW.1 hW.2.1 a (by rw [lay_get (isO_iff.mp h1).1, cell_o h1 e5]) e1 k e6 (C.2.2.2.2.1 _ e7) (fun _ h => h) (by rw [fs_at e6, hty]; rfl) d (kk _ h2 H locs ls hW hl)
theorem k_getL (C : Ok X own cc nL fr lo mc ms) {α : Type} {ix a t k : Nat} {K : Int64 → Option α} {z : α} (E : FE own ix t k) (hty : fty t k = .long) (d : decode cc pc = .ok (.getfield ix, 3)) (hf : gL w a t k K = some z) (n : Nat) (hn : n = pc + 3) (kk : ∀ x, K x = some z → Wk X cs sl Q w lv n (.long x :: st)) : Wk X cs sl Q w lv pc (rV (xg X) a :: st) := by
  subst hn
  obtain ⟨h1, h2⟩ := gL_s hf
  obtain ⟨⟨e1, e2, e3, e4, e5⟩, e6, e7⟩ := E
  intro H locs ls hW hl
  exact va_get C.1 C.2.1 C.2.2.2.2.1 e2 C.2.2.2.1 hW.1 hW.2.1 a (by rw [lay_get (isO_iff.mp h1).1, cell_o h1 e5]) e1 k e6 (C.2.2.2.2.1 _ e7) (fun _ h => h) (by rw [fs_at e6, hty]; rfl) d (kk _ h2 H locs ls hW hl)
theorem k_getR (C : Ok X own cc nL fr lo mc ms) {α : Type} {ix a t k : Nat} {K : Nat → Option α} {z : α} (E : FE own ix t k) (hty : isRf (fty t k) = true) (d : decode cc pc = .ok (.getfield ix, 3)) (hf : gR w a t k K = some z) (n : Nat) (hn : n = pc + 3) (kk : ∀ r, K r = some z → Wk X cs sl Q w lv n (rV (xg X) r :: st)) : Wk X cs sl Q w lv pc (rV (xg X) a :: st) := by
  subst hn
  obtain ⟨h1, r, h3, h2⟩ := gR_s hf
  obtain ⟨⟨e1, e2, e3, e4, e5⟩, e6, e7⟩ := E
  intro H locs ls hW hl
  have hv : fval (gB (xg X)) w a (fty t k) k = rV (xg X) r := by
    rw [fval_rf hty]
    simp [arf, h3, va_rf, rV]
  exact va_get C.1 C.2.1 C.2.2.2.2.1 e2 C.2.2.2.1 hW.1 hW.2.1 a (by rw [lay_get (isO_iff.mp h1).1, cell_o h1 e5]) e1 k e6 (C.2.2.2.2.1 _ e7) (fun _ h => h) (by rw [fs_at e6, hv]) d (kk _ h2 H locs ls hW hl)
theorem lay_sI {G : Nat → ClassId} {B : Nat} {w : Wd} {a t k : Nat} {x : Int32} (h1 : isO w a t = true) (ht : t < 13) (hk : k < fn t) (hty : fty t k = .int) : (lay G B w).set a (B + a, .inr (t, (fsO B w a t).set k (.int x))) = lay G B (sI w a k x) := by
  refine lay_set rfl (isO_iff.mp h1).1 ?_ (fun b hb => ?_)
  · rw [cell_o (w := sI w a k x) (t := t) h1 ht, fs_set (B := B) (w := w) (a := a) (w' := sI w a k x) (v := .int x) hk (by rw [hty]; simp [fval, wI_sI]) (fun j hj => fval_ext (by simp [wI_sI, hj]) rfl rfl)]
  · exact cell_ext rfl (by funext j; simp [wI_sI, hb]) rfl rfl
theorem lay_sL {G : Nat → ClassId} {B : Nat} {w : Wd} {a t k : Nat} {x : Int64} (h1 : isO w a t = true) (ht : t < 13) (hk : k < fn t) (hty : fty t k = .long) : (lay G B w).set a (B + a, .inr (t, (fsO B w a t).set k (.long x))) = lay G B (sL w a k x) := by
  refine lay_set rfl (isO_iff.mp h1).1 ?_ (fun b hb => ?_)
  · rw [cell_o (w := sL w a k x) (t := t) h1 ht, fs_set (B := B) (w := w) (a := a) (w' := sL w a k x) (v := .long x) hk (by rw [hty]; simp [fval, wL_sL]) (fun j hj => fval_ext rfl (by simp [wL_sL, hj]) rfl)]
  · exact cell_ext rfl rfl (by funext j; simp [wL_sL, hb]) rfl
theorem lay_sR {G : Nat → ClassId} {B : Nat} {w : Wd} {a t k r : Nat} (h1 : isO w a t = true) (ht : t < 13) (hk : k < fn t) (hty : isRf (fty t k) = true) : (lay G B w).set a (B + a, .inr (t, (fsO B w a t).set k (.ref (B + r)))) = lay G B (sR w a k r) := by
  refine lay_set rfl (isO_iff.mp h1).1 ?_ (fun b hb => ?_)
  · have hv : fval B (sR w a k r) a (fty t k) k = .ref (B + r) := by
      rw [fval_rf hty]
      simp [arf, wR_sR, va_rf]
    rw [cell_o (w := sR w a k r) (t := t) h1 ht, fs_set (B := B) (w := w) (a := a) (w' := sR w a k r) hk hv (fun j hj => fval_ext rfl rfl (by simp [wR_sR, hj]))]
  · exact cell_ext rfl rfl rfl (by funext j; simp [wR_sR, hb])
theorem FW.to {w w' : Wd} {H H1 : Heap} {locs locs1 : List Loc} (h : FW X w H locs cs) (hP : va_P (gD (xg X)) vwCl (lay (gC (xg X)) (gB (xg X)) w') H1) (hS : va_S (gA (xg X)) (xs X).heap H1 locs1) (hn : wN w' = wN w) : FW X w' H1 locs1 cs :=
  ⟨h.1, hP, hS, by rw [hn]; exact h.2.2.2.1, h.2.2.2.2.1, h.2.2.2.2.2⟩
theorem k_putI (C : Ok X own cc nL fr lo mc ms) {α : Type} {ix a t k : Nat} {x : Int32} {K : Wd → Option α} {z : α} (E : FE own ix t k) (hty : fty t k = .int) (hfin : (cT t k).2.2.2 = false) (d : decode cc pc = .ok (.putfield ix, 3)) (hf : pI w a t k x K = some z) (n : Nat) (hn : n = pc + 3) (kk : ∀ w2, w2 = sI w a k x → K w2 = some z → Wk X cs sl Q w2 lv n st) : Wk X cs sl Q w lv pc (.int x :: rV (xg X) a :: st) := by
  subst hn
  obtain ⟨h1, h2⟩ := pI_s hf
  obtain ⟨⟨e1, e2, e3, e4, e5⟩, e6, e7⟩ := E
  intro H locs ls hW hl
  refine va_put (ty := .int) C.1 C.2.1 C.2.2.2.2.1 e2 (fty t) e3 e4 C.2.2.2.1 hW.1 hW.2.1 lay_D hW.2.2.1 a (by rw [lay_get (isO_iff.mp h1).1, cell_o h1 e5]) e1 k e6 (C.2.2.2.2.1 _ e7) (fun _ h => h) hfin (by rw [e3 k e6, hty]) rfl rfl (by rw [fs_len]; exact e6) d (fun H1 locs1 hP hD hS => ?_)
  rw [lay_sI h1 e5 e6 hty] at hP
  exact kk _ rfl h2 H1 locs1 ls (hW.to hP hS rfl) hl
theorem k_putIF (C : Ok X own cc nL fr lo mc ms) {α : Type} {ix a t k : Nat} {x : Int32} {K : Wd → Option α} {z : α} (E : FE own ix t k) (hty : fty t k = .int) (hfin : (cT t k).2.2.2 = true) (hin : (xme X).name = "<init>") (hdc : (cT t k).1 = own) (d : decode cc pc = .ok (.putfield ix, 3)) (hf : pI w a t k x K = some z) (n : Nat) (hn : n = pc + 3) (kk : ∀ w2, w2 = sI w a k x → K w2 = some z → Wk X cs sl Q w2 lv n st) : Wk X cs sl Q w lv pc (.int x :: rV (xg X) a :: st) := by
  subst hn
  obtain ⟨h1, h2⟩ := pI_s hf
  obtain ⟨⟨e1, e2, e3, e4, e5⟩, e6, e7⟩ := E
  intro H locs ls hW hl
  refine va_putF (ty := .int) C.1 C.2.1 C.2.2.2.2.1 e2 (fty t) e3 e4 C.2.2.2.1 hW.1 hW.2.1 lay_D hW.2.2.1 a (by rw [lay_get (isO_iff.mp h1).1, cell_o h1 e5]) e1 k e6 (C.2.2.2.2.1 _ e7) (fun _ h => h) hfin hin hdc (by rw [e3 k e6, hty]) rfl rfl (by rw [fs_len]; exact e6) d (fun H1 locs1 hP hD hS => ?_)
  rw [lay_sI h1 e5 e6 hty] at hP
  exact kk _ rfl h2 H1 locs1 ls (hW.to hP hS rfl) hl
theorem k_putL (C : Ok X own cc nL fr lo mc ms) {α : Type} {ix a t k : Nat} {x : Int64} {K : Wd → Option α} {z : α} (E : FE own ix t k) (hty : fty t k = .long) (hfin : (cT t k).2.2.2 = false) (d : decode cc pc = .ok (.putfield ix, 3)) (hf : pL w a t k x K = some z) (n : Nat) (hn : n = pc + 3) (kk : ∀ w2, w2 = sL w a k x → K w2 = some z → Wk X cs sl Q w2 lv n st) : Wk X cs sl Q w lv pc (.long x :: rV (xg X) a :: st) := by
  subst hn
  obtain ⟨h1, h2⟩ := pL_s hf
  obtain ⟨⟨e1, e2, e3, e4, e5⟩, e6, e7⟩ := E
  intro H locs ls hW hl
  refine va_put (ty := .long) C.1 C.2.1 C.2.2.2.2.1 e2 (fty t) e3 e4 C.2.2.2.1 hW.1 hW.2.1 lay_D hW.2.2.1 a (by rw [lay_get (isO_iff.mp h1).1, cell_o h1 e5]) e1 k e6 (C.2.2.2.2.1 _ e7) (fun _ h => h) hfin (by rw [e3 k e6, hty]) rfl rfl (by rw [fs_len]; exact e6) d (fun H1 locs1 hP hD hS => ?_)
  rw [lay_sL h1 e5 e6 hty] at hP
  exact kk _ rfl h2 H1 locs1 ls (hW.to hP hS rfl) hl
theorem k_putLF (C : Ok X own cc nL fr lo mc ms) {α : Type} {ix a t k : Nat} {x : Int64} {K : Wd → Option α} {z : α} (E : FE own ix t k) (hty : fty t k = .long) (hfin : (cT t k).2.2.2 = true) (hin : (xme X).name = "<init>") (hdc : (cT t k).1 = own) (d : decode cc pc = .ok (.putfield ix, 3)) (hf : pL w a t k x K = some z) (n : Nat) (hn : n = pc + 3) (kk : ∀ w2, w2 = sL w a k x → K w2 = some z → Wk X cs sl Q w2 lv n st) : Wk X cs sl Q w lv pc (.long x :: rV (xg X) a :: st) := by
  subst hn
  obtain ⟨h1, h2⟩ := pL_s hf
  obtain ⟨⟨e1, e2, e3, e4, e5⟩, e6, e7⟩ := E
  intro H locs ls hW hl
  refine va_putF (ty := .long) C.1 C.2.1 C.2.2.2.2.1 e2 (fty t) e3 e4 C.2.2.2.1 hW.1 hW.2.1 lay_D hW.2.2.1 a (by rw [lay_get (isO_iff.mp h1).1, cell_o h1 e5]) e1 k e6 (C.2.2.2.2.1 _ e7) (fun _ h => h) hfin hin hdc (by rw [e3 k e6, hty]) rfl rfl (by rw [fs_len]; exact e6) d (fun H1 locs1 hP hD hS => ?_)
  rw [lay_sL h1 e5 e6 hty] at hP
  exact kk _ rfl h2 H1 locs1 ls (hW.to hP hS rfl) hl
theorem k_putR (C : Ok X own cc nL fr lo mc ms) {α : Type} {ix a t k r : Nat} {K : Wd → Option α} {z : α} (E : FE own ix t k) (hty : isRf (fty t k) = true) (hfin : (cT t k).2.2.2 = false) (d : decode cc pc = .ok (.putfield ix, 3)) (hf : pR w a t k r K = some z) (n : Nat) (hn : n = pc + 3) (kk : ∀ w2, w2 = sR w a k r → K w2 = some z → Wk X cs sl Q w2 lv n st) : Wk X cs sl Q w lv pc (rV (xg X) r :: rV (xg X) a :: st) := by
  subst hn
  obtain ⟨h1, h2⟩ := pR_s hf
  obtain ⟨⟨e1, e2, e3, e4, e5⟩, e6, e7⟩ := E
  intro H locs ls hW hl
  have hn1 : narrow (fty t k) (rV (xg X) r) = rV (xg X) r := by cases hq : fty t k <;> rfl
  have hn2 : fits (fty t k) (rV (xg X) r) = true := fits_rf hty
  refine va_put (ty := fty t k) C.1 C.2.1 C.2.2.2.2.1 e2 (fty t) e3 e4 C.2.2.2.1 hW.1 hW.2.1 lay_D hW.2.2.1 a (by rw [lay_get (isO_iff.mp h1).1, cell_o h1 e5]) e1 k e6 (C.2.2.2.2.1 _ e7) (fun _ h => h) hfin (e3 k e6) hn1 hn2 (by rw [fs_len]; exact e6) d (fun H1 locs1 hP hD hS => ?_)
  rw [show rV (xg X) r = .ref (gB (xg X) + r) from rfl, lay_sR h1 e5 e6 hty] at hP
  exact kk _ rfl h2 H1 locs1 ls (hW.to hP hS rfl) hl
theorem k_putRF (C : Ok X own cc nL fr lo mc ms) {α : Type} {ix a t k r : Nat} {K : Wd → Option α} {z : α} (E : FE own ix t k) (hty : isRf (fty t k) = true) (hfin : (cT t k).2.2.2 = true) (hin : (xme X).name = "<init>") (hdc : (cT t k).1 = own) (d : decode cc pc = .ok (.putfield ix, 3)) (hf : pR w a t k r K = some z) (n : Nat) (hn : n = pc + 3) (kk : ∀ w2, w2 = sR w a k r → K w2 = some z → Wk X cs sl Q w2 lv n st) : Wk X cs sl Q w lv pc (rV (xg X) r :: rV (xg X) a :: st) := by
  subst hn
  obtain ⟨h1, h2⟩ := pR_s hf
  obtain ⟨⟨e1, e2, e3, e4, e5⟩, e6, e7⟩ := E
  intro H locs ls hW hl
  have hn1 : narrow (fty t k) (rV (xg X) r) = rV (xg X) r := by cases hq : fty t k <;> rfl
  have hn2 : fits (fty t k) (rV (xg X) r) = true := fits_rf hty
  refine va_putF (ty := fty t k) C.1 C.2.1 C.2.2.2.2.1 e2 (fty t) e3 e4 C.2.2.2.1 hW.1 hW.2.1 lay_D hW.2.2.1 a (by rw [lay_get (isO_iff.mp h1).1, cell_o h1 e5]) e1 k e6 (C.2.2.2.2.1 _ e7) (fun _ h => h) hfin hin hdc (e3 k e6) hn1 hn2 (by rw [fs_len]; exact e6) d (fun H1 locs1 hP hD hS => ?_)
  rw [show rV (xg X) r = .ref (gB (xg X) + r) from rfl, lay_sR h1 e5 e6 hty] at hP
  exact kk _ rfl h2 H1 locs1 ls (hW.to hP hS rfl) hl
theorem lay_aI {G : Nat → ClassId} {B : Nat} {w : Wd} {a t k : Nat} {x : Int32} (h1 : isO w a t = true) (ht : ¬ t < 13) (ht2 : t < 16) : (lay G B w).set a (B + a, .inl (G t, (wS w a).2, .inl (upd (wI w a) k x))) = lay G B (sI w a k x) := by
  refine lay_set rfl (isO_iff.mp h1).1 ?_ (fun b hb => ?_)
  · rw [cell_i (w := sI w a k x) (t := t) h1 ht ht2]
    congr 4
    funext j
    by_cases hj : j = k <;> simp [wI_sI, upd, hj]
  · exact cell_ext rfl (by funext j; simp [wI_sI, hb]) rfl rfl
theorem arf_up {B : Nat} {w : Wd} {a k r : Nat} : va_up (arf B (wR w a)) k (some (B + r)) = arf B (wR (sR w a k r) a) := by
  funext j
  by_cases hj : j = k <;> simp [va_up, arf, wR_sR, hj]
theorem lay_aR {G : Nat → ClassId} {B : Nat} {w : Wd} {a t k r : Nat} (h1 : isO w a t = true) (ht2 : ¬ t < 16) : (lay G B w).set a (B + a, .inl (G t, (wS w a).2, .inr (.inr (.inr (.inr (va_up (arf B (wR w a)) k (some (B + r)))))))) = lay G B (sR w a k r) := by
  refine lay_set rfl (isO_iff.mp h1).1 ?_ (fun b hb => ?_)
  · rw [cell_r (w := sR w a k r) (t := t) h1 ht2, arf_up]
    rfl
  · exact cell_ext rfl rfl rfl (by funext j; simp [wR_sR, hb])
theorem k_iald (C : Ok X own cc nL fr lo mc ms) {α : Type} {a : Nat} {i : Int32} {K : Int32 → Option α} {z : α} (d : decode cc pc = .ok (.iaload, 1)) (hf : lI w a 14 i K = some z) (n : Nat) (hn : n = pc + 1) (kk : ∀ x, K x = some z → Wk X cs sl Q w lv n (.int x :: st)) : Wk X cs sl Q w lv pc (.int i :: rV (xg X) a :: st) := by
  subst hn
  obtain ⟨h1, h3, h2⟩ := lI_s hf
  intro H locs ls hW hl
  exact va_iald C.1 C.2.1 hW.1 hW.2.1 a 1 (by rw [lay_get (isO_iff.mp h1).1, cell_i h1 (by decide) (by decide)]) rfl (inb_vp h3) d (kk _ h2 H locs ls hW hl)
theorem k_bald (C : Ok X own cc nL fr lo mc ms) {α : Type} {a : Nat} {i : Int32} {K : Int32 → Option α} {z : α} (d : decode cc pc = .ok (.baload, 1)) (hf : lI w a 13 i K = some z) (n : Nat) (hn : n = pc + 1) (kk : ∀ x, K x = some z → Wk X cs sl Q w lv n (.int x :: st)) : Wk X cs sl Q w lv pc (.int i :: rV (xg X) a :: st) := by
  subst hn
  obtain ⟨h1, h3, h2⟩ := lI_s hf
  intro H locs ls hW hl
  exact va_bald C.1 C.2.1 hW.1 hW.2.1 a 0 (by rw [lay_get (isO_iff.mp h1).1, cell_i h1 (by decide) (by decide)]) rfl (inb_vp h3) d (kk _ h2 H locs ls hW hl)
theorem k_zald (C : Ok X own cc nL fr lo mc ms) {α : Type} {a : Nat} {i : Int32} {K : Int32 → Option α} {z : α} (d : decode cc pc = .ok (.baload, 1)) (hf : lI w a 15 i K = some z) (n : Nat) (hn : n = pc + 1) (kk : ∀ x, K x = some z → Wk X cs sl Q w lv n (.int x :: st)) : Wk X cs sl Q w lv pc (.int i :: rV (xg X) a :: st) := by
  subst hn
  obtain ⟨h1, h3, h2⟩ := lI_s hf
  intro H locs ls hW hl
  exact va_zald C.1 C.2.1 hW.1 hW.2.1 a 2 (by rw [lay_get (isO_iff.mp h1).1, cell_i h1 (by decide) (by decide)]) rfl (inb_vp h3) d (kk _ h2 H locs ls hW hl)
theorem k_iast (C : Ok X own cc nL fr lo mc ms) {α : Type} {a : Nat} {i x : Int32} {K : Wd → Option α} {z : α} (d : decode cc pc = .ok (.iastore, 1)) (hf : aI w a 14 i x K = some z) (n : Nat) (hn : n = pc + 1) (kk : ∀ w2, w2 = sI w a i.toNatClampNeg x → K w2 = some z → Wk X cs sl Q w2 lv n st) : Wk X cs sl Q w lv pc (.int x :: .int i :: rV (xg X) a :: st) := by
  subst hn
  obtain ⟨h1, h3, h2⟩ := aI_s hf
  intro H locs ls hW hl
  refine va_iast C.1 C.2.1 hW.1 hW.2.1 lay_D hW.2.2.1 a 1 (by rw [lay_get (isO_iff.mp h1).1, cell_i h1 (by decide) (by decide)]) rfl (inb_vp h3) d (fun H1 locs1 hP hD hS => ?_)
  rw [lay_aI h1 (by decide) (by decide)] at hP
  exact kk _ rfl h2 H1 locs1 ls (hW.to hP hS rfl) hl
theorem k_bast (C : Ok X own cc nL fr lo mc ms) {α : Type} {a : Nat} {i x : Int32} {K : Wd → Option α} {z : α} (d : decode cc pc = .ok (.bastore, 1)) (hf : aI w a 13 i (vp_nar .byte x) K = some z) (n : Nat) (hn : n = pc + 1) (kk : ∀ w2, w2 = sI w a i.toNatClampNeg (vp_nar .byte x) → K w2 = some z → Wk X cs sl Q w2 lv n st) : Wk X cs sl Q w lv pc (.int x :: .int i :: rV (xg X) a :: st) := by
  subst hn
  obtain ⟨h1, h3, h2⟩ := aI_s hf
  intro H locs ls hW hl
  refine va_bast C.1 C.2.1 hW.1 hW.2.1 lay_D hW.2.2.1 a 0 (by rw [lay_get (isO_iff.mp h1).1, cell_i h1 (by decide) (by decide)]) rfl (inb_vp h3) d (fun H1 locs1 hP hD hS => ?_)
  rw [lay_aI h1 (by decide) (by decide)] at hP
  exact kk _ rfl h2 H1 locs1 ls (hW.to hP hS rfl) hl
theorem k_zast (C : Ok X own cc nL fr lo mc ms) {α : Type} {a : Nat} {i x : Int32} {K : Wd → Option α} {z : α} (d : decode cc pc = .ok (.bastore, 1)) (hf : aI w a 15 i (vp_nar .boolean x) K = some z) (n : Nat) (hn : n = pc + 1) (kk : ∀ w2, w2 = sI w a i.toNatClampNeg (vp_nar .boolean x) → K w2 = some z → Wk X cs sl Q w2 lv n st) : Wk X cs sl Q w lv pc (.int x :: .int i :: rV (xg X) a :: st) := by
  subst hn
  obtain ⟨h1, h3, h2⟩ := aI_s hf
  intro H locs ls hW hl
  refine va_zast C.1 C.2.1 hW.1 hW.2.1 lay_D hW.2.2.1 a 2 (by rw [lay_get (isO_iff.mp h1).1, cell_i h1 (by decide) (by decide)]) rfl (inb_vp h3) d (fun H1 locs1 hP hD hS => ?_)
  rw [lay_aI h1 (by decide) (by decide)] at hP
  exact kk _ rfl h2 H1 locs1 ls (hW.to hP hS rfl) hl
theorem k_aald16 (C : Ok X own cc nL fr lo mc ms) {α : Type} {a : Nat} {i : Int32} {K : Nat → Option α} {z : α} (d : decode cc pc = .ok (.aaload, 1)) (hf : lR w a 16 i K = some z) (n : Nat) (hn : n = pc + 1) (kk : ∀ r, K r = some z → Wk X cs sl Q w lv n (rV (xg X) r :: st)) : Wk X cs sl Q w lv pc (.int i :: rV (xg X) a :: st) := by
  subst hn
  obtain ⟨h1, h3, r, h4, h2⟩ := lR_s hf
  intro H locs ls hW hl
  refine va_aldq C.1 C.2.1 hW.1 hW.2.1 a 3 (by rw [lay_get (isO_iff.mp h1).1, cell_r h1 (by decide)]) rfl (inb_vp h3) d ?_
  rw [show arf (gB (xg X)) (wR w a) i.toNatClampNeg = some (gB (xg X) + r) by simp [arf, h4]]
  exact kk _ h2 H locs ls hW hl
theorem k_aald17 (C : Ok X own cc nL fr lo mc ms) {α : Type} {a : Nat} {i : Int32} {K : Nat → Option α} {z : α} (d : decode cc pc = .ok (.aaload, 1)) (hf : lR w a 17 i K = some z) (n : Nat) (hn : n = pc + 1) (kk : ∀ r, K r = some z → Wk X cs sl Q w lv n (rV (xg X) r :: st)) : Wk X cs sl Q w lv pc (.int i :: rV (xg X) a :: st) := by
  subst hn
  obtain ⟨h1, h3, r, h4, h2⟩ := lR_s hf
  intro H locs ls hW hl
  refine va_aldq C.1 C.2.1 hW.1 hW.2.1 a 4 (by rw [lay_get (isO_iff.mp h1).1, cell_r h1 (by decide)]) rfl (inb_vp h3) d ?_
  rw [show arf (gB (xg X)) (wR w a) i.toNatClampNeg = some (gB (xg X) + r) by simp [arf, h4]]
  exact kk _ h2 H locs ls hW hl
theorem k_aald18 (C : Ok X own cc nL fr lo mc ms) {α : Type} {a : Nat} {i : Int32} {K : Nat → Option α} {z : α} (d : decode cc pc = .ok (.aaload, 1)) (hf : lR w a 18 i K = some z) (n : Nat) (hn : n = pc + 1) (kk : ∀ r, K r = some z → Wk X cs sl Q w lv n (rV (xg X) r :: st)) : Wk X cs sl Q w lv pc (.int i :: rV (xg X) a :: st) := by
  subst hn
  obtain ⟨h1, h3, r, h4, h2⟩ := lR_s hf
  intro H locs ls hW hl
  refine va_aldq C.1 C.2.1 hW.1 hW.2.1 a 5 (by rw [lay_get (isO_iff.mp h1).1, cell_r h1 (by decide)]) rfl (inb_vp h3) d ?_
  rw [show arf (gB (xg X)) (wR w a) i.toNatClampNeg = some (gB (xg X) + r) by simp [arf, h4]]
  exact kk _ h2 H locs ls hW hl
theorem k_aald19 (C : Ok X own cc nL fr lo mc ms) {α : Type} {a : Nat} {i : Int32} {K : Nat → Option α} {z : α} (d : decode cc pc = .ok (.aaload, 1)) (hf : lR w a 19 i K = some z) (n : Nat) (hn : n = pc + 1) (kk : ∀ r, K r = some z → Wk X cs sl Q w lv n (rV (xg X) r :: st)) : Wk X cs sl Q w lv pc (.int i :: rV (xg X) a :: st) := by
  subst hn
  obtain ⟨h1, h3, r, h4, h2⟩ := lR_s hf
  intro H locs ls hW hl
  have hlt : i.toNatClampNeg < (wS w a).2 := (inb_iff.mp h3).2
  have hin := inb_vp h3
  have hP := hW.2.1 a _ (by rw [lay_get (isO_iff.mp h1).1, cell_r h1 (by decide)])
  have hv : arf (gB (xg X)) (wR w a) i.toNatClampNeg = some (gB (xg X) + r) := by simp [arf, h4]
  refine W.aald (v := va_rf (arf (gB (xg X)) (wR w a) i.toNatClampNeg)) (ty := .array .int) C.1 C.2.1 hP ((hW.1.2 6 (gC (xg X) 19, .array .int) rfl).1 (wS w a).2 (fun j => va_rf (arf (gB (xg X)) (wR w a) j))) rfl (fun q => by cases q) (by show ¬ (i < 0 ∨ (arrV _ _ _).slots.size ≤ _); rw [arrV_size]; exact hin) (by show (arrV _ _ _).slots[_]? = _; rw [arrV_read _ _ hlt]) rfl rfl d ?_
  rw [hv]
  exact kk _ h2 H locs ls hW hl
theorem k_alen (C : Ok X own cc nL fr lo mc ms) {α : Type} {a : Nat} {K : Int32 → Option α} {z : α} (d : decode cc pc = .ok (.arraylength, 1)) (hf : lenA w a 14 K = some z) (n : Nat) (hn : n = pc + 1) (kk : ∀ x, K x = some z → Wk X cs sl Q w lv n (.int x :: st)) : Wk X cs sl Q w lv pc (rV (xg X) a :: st) := by
  subst hn
  obtain ⟨h1, h2⟩ := lenA_s hf
  intro H locs ls hW hl
  exact va_alen C.1 C.2.1 hW.1 hW.2.1 a 1 (by rw [lay_get (isO_iff.mp h1).1, cell_i h1 (by decide) (by decide)]) rfl rfl d (kk _ h2 H locs ls hW hl)
theorem k_copy (C : Ok X own cc nL fr lo mc ms) {α : Type} {ix a0 a : Nat} {sp dp m : Int32} {K : Wd → Option α} {z : α} (hm : Cond.methodLink own ix arraycopyName ∈ tb) (hm2 : Cond.native arraycopyName ∈ tb) (hm3 : Cond.static arraycopyName ∈ tb) (hm4 : Cond.initialized "java/lang/System" ∈ tb) (hfr : 1 ≤ fr) (hlo : (st.map fun v => v.category).sum + (nativeFrameWords "java/lang/System" "arraycopy" 5 + 11) ≤ lo) (d : decode cc pc = .ok (.invokestatic ix, 3)) (hf : cpI w a0 sp a dp m K = some z) (n : Nat) (hn : n = pc + 3) (kk : ∀ w2, w2 = cI w a0 sp.toNatClampNeg a dp.toNatClampNeg m.toNatClampNeg → K w2 = some z → Wk X cs sl Q w2 lv n st) : Wk X cs sl Q w lv pc (.int m :: .int dp :: rV (xg X) a :: .int sp :: rV (xg X) a0 :: st) := by
  subst hn
  obtain ⟨h0, h1, q1, q2, q3, q4, q5, h2⟩ := cpI_s hf
  obtain ⟨C1, C2, C3, C4, C5, C6, C7, C8, C9⟩ := C
  intro H locs ls hW hl
  refine va_copyi (ty := .int) C1 C2 (by rw [C3]; exact hl.1.symm) C4 (C5 _ hm) (C5 _ hm2) (C5 _ hm3) (C5 _ hm4) hW.1 hW.2.1 lay_D hW.2.2.1 a0 a 1 1 (by rw [lay_get (isO_iff.mp h0).1, cell_i h0 (by decide) (by decide)]) (by rw [lay_get (isO_iff.mp h1).1, cell_i h1 (by decide) (by decide)]) rfl rfl rfl (Int32.not_lt.mpr q1) (Int32.not_lt.mpr q2) (Int32.not_lt.mpr q3) q4 q5 (fun _ _ => rfl) (by rw [C7]; exact hfr) (by rw [C8]; exact hlo) d (fun H1 locs1 hP hD hS => ?_)
  have e : (lay (gC (xg X)) (gB (xg X)) w).set a (gB (xg X) + a, .inl (gC (xg X) 14, (wS w a).2, .inl (va_cpy (wI w a0) (wI w a) sp.toNatClampNeg dp.toNatClampNeg m.toNatClampNeg))) = lay (gC (xg X)) (gB (xg X)) (cI w a0 sp.toNatClampNeg a dp.toNatClampNeg m.toNatClampNeg) := by
    refine lay_set rfl (isO_iff.mp h1).1 ?_ (fun b hb => ?_)
    · rw [cell_i (w := cI w a0 sp.toNatClampNeg a dp.toNatClampNeg m.toNatClampNeg) (t := 14) h1 (by decide) (by decide)]
      congr 4
      funext j
      simp [wI_cI, va_cpy]
    · exact cell_ext rfl (by funext j; simp [wI_cI, hb]) rfl rfl
  rw [e] at hP
  exact kk _ rfl h2 H1 locs1 ls (hW.to hP hS rfl) hl
end KR
end
section
def calO {α β : Type} (w : Wd) (a : Nat) (o : Option (α × Wd)) (K : α → Wd → Option β) : Option β := if decide (a < wN w) && decide ((wS w a).1 < 13) then cal o K else none
theorem calO_s {α β : Type} {w : Wd} {a : Nat} {o : Option (α × Wd)} {K : α → Wd → Option β} {z : β} (h : calO w a o K = some z) : isO w a (wS w a).1 = true ∧ (wS w a).1 < 13 ∧ ∃ r w1, o = some (r, w1) ∧ K r w1 = some z := by
  unfold calO at h
  split at h
  · rename_i q
    simp only [Bool.and_eq_true, decide_eq_true_eq] at q
    exact ⟨isO_iff.mpr ⟨q.1, rfl⟩, q.2, cal_s h⟩
  · cases h
theorem tsw_out {x : Int32} {lo hi : Int} (L : List Int32) (hL : ∀ v ∈ L, ¬ x = v) (hc : (List.range (hi - lo + 1).toNat).all (fun j => L.any (fun v => v.toInt == lo + j)) = true) : x.toInt < lo ∨ hi < x.toInt := by
  by_cases h1 : x.toInt < lo
  · exact Or.inl h1
  · by_cases h2 : hi < x.toInt
    · exact Or.inr h2
    · exfalso
      have h3 := List.all_eq_true.mp hc (x.toInt - lo).toNat (List.mem_range.mpr (by omega))
      obtain ⟨v, hv, h4⟩ := List.any_eq_true.mp h3
      have h5 : v.toInt = lo + ((x.toInt - lo).toNat : Int) := eq_of_beq h4
      exact hL v hv (Int32.toInt_inj.mp (by omega))
section SX
variable {p : Program} {l : Launch} {e : Env} {R : Room} {s : State} {m : MethodId} {args : Array Value} {below : List Frame} {meth : Method} {c : Code}
theorem sub_of_super {vm : Vm} {a b : ClassId} {k : Class} (hk : vm.classes[a]? = some k) (hs : k.super = some b) : vm.isSubclass a b = true := by
  have hlt : a < vm.classes.size := (Array.getElem?_eq_some_iff.mp hk).1
  obtain ⟨n, hn⟩ : ∃ n, vm.classes.size = n + 1 := Nat.exists_eq_succ_of_ne_zero (fun h0 => by rw [h0] at hlt; exact absurd hlt (Nat.not_lt_zero _))
  unfold Vm.isSubclass
  rw [hn]
  simp [Vm.isSubclassAux, hk, hs]
/-- super.m(..) where the superclass itself inherits m -/
theorem sx_call {T : State} {locs : List Loc} {cells slots : Nat} (X : Stand p l e R s m args below meth c T locs cells slots) (hexec : p.tables.exec = Jvm.exec) {own owner : String} {index : Nat} {x y : MethodName} {bytes : ByteArray} {maxL : Nat} {ret : Option FieldType} (hyx : y = ⟨owner, x.name, x.desc⟩)
    (hown : s.vm.findClass own = some m.cls) (hlink : (Cond.methodLink own index x).before args s = true) (hsame : (Cond.sameMethod x.cls owner x.name x.desc).before args s = true) (hsup : (Cond.superclass own x.cls).before args s = true) (hsup2 : (Cond.superclass x.cls owner).before args s = true)
    (hinst : (Cond.instanceMethod y).before args s = true) (hcode : (Cond.code y bytes maxL ret).before args s = true) (hno : x.name ≠ "<init>")
    {W : Nat} {Pre : Pt → Array Value → Prop} {Post : Pt → Array Value → Option Value → Pt → Prop} (hK : Back l R p e below s args y 3 W Pre Post)
    {b : Addr} {cellB : Cell} {kB : Class} (hcell : T.heap[b]? = some cellB) (hobj : cellB.vm.isStatics = false) (hkB : s.vm.classes[cellB.cls]? = some kB)
    {g : JFrame} (hg : g.method = m) (hsize : g.locals.size = c.maxLocals) {argsL rest : List Value} (hlen : ∀ sig, parseMethodDescriptor y.desc = some sig → argsL.length = sig.parameters.length)
    (hstack : g.stack = argsL.reverse ++ .ref b :: rest) (hW : 2 * g.monitorRoom + (rest.map fun v => v.category).sum ≤ W) (hdg : decode c.code g.pc = .ok (.invokespecial index, 3))
    (hpre : ∀ vm₁, s.WarmedH vm₁ → Pre ⟨T.setVm vm₁, locs, cells, slots⟩ (Value.ref b :: argsL).toArray) :
    ∃ (v : Option Value) (vm₁ : Vm) (B : Pt), s.WarmedH vm₁ ∧ Stand p l e R s m args below meth c B.U B.locs B.cells B.slots ∧ Post ⟨T.setVm vm₁, locs, cells, slots⟩ (Value.ref b :: argsL).toArray v B ∧
      ∀ target, Steps p.tables e below (B.U.setTop { g with pc := g.pc + 3, stack := v.toList ++ rest }) target → Steps p.tables e below (T.setTop g) target := by
  subst hyx
  obtain ⟨mk, methM, hnamed, hmethM, hstM, habM⟩ := Cond.instanceMethod_spec hinst
  obtain ⟨methM', cM, hmethM', -, -, -, -, -, -, hsigM⟩ := Cond.code_spec hnamed hcode
  cases hmethM.symm.trans hmethM'
  obtain ⟨ps, dk, kp, hps, hdk, hkp, hsuper, -, -, hnid⟩ := Cond.superclass_spec hown hsup
  obtain ⟨p2, k2, kp2, hp2, hk2, hkp2, hs2, -, -, -⟩ := Cond.superclass_spec hps hsup2
  have hpm : p2 = mk.cls := Option.some.inj (hp2.symm.trans (findClass_of_methodNamed hnamed))
  have hsub : s.vm.isSubclass ps mk.cls = true := by rw [← hpm]; exact sub_of_super hk2 hs2
  obtain ⟨vm₁, X₁, hstep₁⟩ := X.invokespecialUp hexec hown hlink hsame hnamed hmethM hstM habM hno hdk hnid hps hsuper hsub (a := b) (cell := cellB) hcell
    (fun z h => by rw [h] at hobj; cases hobj) hkB (g := g) hg (argsL := argsL) (rest := rest) (hlen _ hsigM) hstack hdg
  obtain ⟨v, B, X', hpost, hsteps⟩ := hK m meth c ⟨T.setVm vm₁, locs, cells, slots⟩ { g with stack := rest } (.invokespecial index) mk (Value.ref b :: argsL).toArray X₁ hg hsize hdg hW (X₁.named hnamed) (hpre vm₁ X₁.warmed)
  exact ⟨v, vm₁, B, X₁.warmed, X', hpost, fun target h => hstep₁ _ (by rw [doInvoke_state]; exact hsteps.trans h)⟩
variable {H : Heap} {locs : List Loc} {cells slots : Nat}
theorem sx_run {x y : MethodName} {bytes cc : ByteArray} {maxL nL mc ms n index : Nat} {ret : Option FieldType} {ws : List Cond} {rm : Room} {Pc : Array Value → State → Prop} {Qc : Array Value → State → Outcome → State → Prop} {free : Addr → Prop} {Ts : List Cond} {own owner C : String} {cC : ClassId} {b : Addr} {As rest : List Value} {g : JFrame}
    (hat : ClassAt s C cC) (S : CallFix p m c cc nL s args Ts own) (hM : Met l y ws rm Pc Qc mc ms free) (hyx : y = ⟨owner, x.name, x.desc⟩)
    (hback : rm.cells = mc ∧ rm.slots = ms ∧ rm.frames + 1 ≤ R.frames ∧ 8 + (maxL + 11) + rm.locals ≤ R.locals ∧ (∀ w ∈ ws, ∀ (a' : Array Value) (U : State), s.WarmedH U.vm → w.before a' U = true) ∧ Cond.code y bytes maxL ret ∈ ws)
    (hl1 : (Cond.methodLink own index x).before args s = true) (hl2 : (Cond.sameMethod x.cls owner x.name x.desc).before args s = true) (hl3 : (Cond.superclass own x.cls).before args s = true) (hl3b : (Cond.superclass x.cls owner).before args s = true) (hl4 : (Cond.instanceMethod y).before args s = true) (hini : (Cond.initialized y.cls).before args s = true) (hcode : (Cond.code y bytes maxL ret).before args s = true) (hno : x.name ≠ "<init>") (hlen : ∀ sig, parseMethodDescriptor y.desc = some sig → n = sig.parameters.length) (hp : PreV s H C b Pc As)
    (hg : g.method = m) (hn : As.length = n) (hsize : g.locals.size = nL) (hstack : g.stack = As.reverse ++ .ref b :: rest) (hW : 2 * g.monitorRoom + (rest.map fun v => v.category).sum ≤ 8) (hdg : decode cc g.pc = .ok (.invokespecial index, 3)) (hf : cells + mc ≤ R.cells ∧ slots + ms ≤ R.slots) :
    va_Run p l e R s m args below meth c H locs cells slots mc ms g rest (Qc (Value.ref b :: As).toArray) (free) := by
  obtain ⟨hrc, hrs, hfr, hlo, hws, hcw⟩ := hback
  have hK : Back l R p e below s args y 3 8 (PreOf R mc ms Pc) (PostOf Qc mc ms free) := back_of (bytes := bytes) (maxL := maxL) (ret := ret) hM hp.1 hrc hrs hfr hlo hws hcw (fun a' U hW => word_at hW (Or.inl (by first | rfl | simp [Cond.onTables, Cond.keeps, Cond.steady])) hini)
  obtain ⟨hx, hb, hml, ho, -⟩ := S
  obtain ⟨-, ⟨cellB, hcB, hoB, hclB⟩, hPc⟩ := hp
  obtain ⟨hfc, kB, hkB, -⟩ := hat
  cases hfc.symm.trans hclB
  intro T hT X
  obtain ⟨v, vm₁, ⟨U', l2, c2, s2⟩, hW₁, X', ⟨g', mk, t, L, e1, e2, hq, h1, hL, h2, h3⟩, st⟩ := sx_call X hx (bytes := bytes) (maxL := maxL) (ret := ret) hyx ho hl1 hl2 hl3 hl3b hl4 hcode hno hK (by rw [hT]; exact hcB) hoB hkB hg (hsize.trans hml.symm) (argsL := As) (rest := rest) (fun sig h => hn.trans (hlen sig h)) hstack hW (by rw [hb]; exact hdg)
    (fun vm₁ hW₁ => ⟨hf.1, hf.2, hPc (T.setVm vm₁) hT hW₁⟩)
  dsimp only [Pt.U, Pt.locs, Pt.cells, Pt.slots] at X' e1 e2 h1 h2 h3 st
  subst h1; subst h2; subst h3
  exact ⟨v, (T.setVm vm₁).calling g' mk (Value.ref b :: As).toArray, t, U', L, hT, X', hL, e1, e2, hq, st⟩
end SX
section KC
variable {X : Xt} {own : String} {cc : ByteArray} {nL fr lo mc ms cs sl pc : Nat} {Q : State → Prop} {w : Wd} {lv lv2 : List (Nat × Value)} {st : List Value}
theorem pc_blind {g : Gv} {av : List Value} {w : Wd} : FrameBlind (PcG g av w) := by
  intro a U gg mk h
  obtain ⟨h1, ⟨hK, hP, hs⟩, hSW⟩ := h
  exact ⟨h1, ⟨va_K.moved (u := U) (U := U.calling gg mk a) (Vm.Alike.refl U.vm) hK, hP, hs⟩, SW.blind (U := U) (V := U.calling gg mk a) rfl rfl hSW⟩
theorem pc_pre {av : List Value} {H : Heap} {locs : List Loc} (hW : FW X w H locs cs) (hs : H.size ≤ (xs X).heap.size + cs) (U : State) (hU : U.heap = H) (hWm : (xs X).WarmedH U.vm) : PcG (xg X) av w av.toArray U := by
  refine ⟨rfl, ⟨va_K.moved hWm.alike hW.1, by rw [hU]; exact hW.2.1, by rw [hU]; exact hW.size hs⟩, SW.warm hWm (fun a h1 h2 => ?_) hW.2.2.2.2.2⟩
  rw [hU]
  exact hW.2.2.1.2.1 a h1 h2
def YE (y : MethodName) (b : ByteArray) (mL : Nat) (ret : Option FieldType) (n : Nat) : Prop := Cond.code y b mL ret ∈ tb ∧ Cond.initialized y.cls ∈ tb ∧ (y.cls ≠ "java/lang/invoke/MethodHandle" ∧ y.cls ≠ "java/lang/invoke/VarHandle" ∧ (parseMethodDescriptor y.desc).map (fun d => d.parameters.length) = some n)
def VE (own : String) (ix : Nat) (y : MethodName) (t : Nat) : Prop := Cond.methodLink own ix y ∈ tb ∧ Cond.instanceMethod y ∈ tb ∧ Cond.selects (cN t) y y ∈ tb ∧ CE t
def SE (own : String) (ix : Nat) (y : MethodName) : Prop := Cond.methodLink own ix y ∈ tb ∧ Cond.static y ∈ tb
def SNE (own : String) (ix : Nat) (y : MethodName) (host : String) : Prop := Cond.methodLinkNest own ix y host ∈ nwT ∧ Cond.static y ∈ tb
def IE (own : String) (ix : Nat) (y : MethodName) : Prop := Cond.methodLink own ix y ∈ tb ∧ Cond.instanceMethod y ∈ tb ∧ y.name = "<init>"
def INE (own : String) (ix : Nat) (y : MethodName) (host : String) : Prop := Cond.methodLinkNest own ix y host ∈ nwT ∧ Cond.instanceMethod y ∈ tb ∧ y.name = "<init>"
/-- the class's method x, asked of an object of class t, is y -/
def UE (own : String) (ix : Nat) (x y : MethodName) (t : Nat) : Prop := CE t ∧ ∃ owner : String, owner ≠ "java/lang/invoke/MethodHandle" ∧ owner ≠ "java/lang/invoke/VarHandle" ∧ x.desc = y.desc ∧ ((y = ⟨owner, x.name, x.desc⟩ ∧ ∀ c ∈ ([.methodLink own ix x, .sameMethod x.cls owner x.name x.desc, .selects (cN t) x y, .instanceMethod y, .initialized y.cls] : List Cond), c ∈ tb) ∨ ((∀ c ∈ ([.methodLink own ix x, .sameMethod x.cls owner x.name x.desc, .instanceMethod ⟨owner, x.name, x.desc⟩, .selects (cN t) x y, .instanceMethod y, .initialized y.cls] : List Cond), c ∈ tb) ∧ ∃ b0 m0 r0, Cond.code ⟨owner, x.name, x.desc⟩ b0 m0 r0 ∈ tb))
def SUE (own : String) (ix : Nat) (y : MethodName) : Prop := (∀ c ∈ ([.methodLink own ix y, .sameMethod y.cls y.cls y.name y.desc, .superclass own y.cls, .instanceMethod y, .initialized y.cls] : List Cond), c ∈ tb) ∧ y.name ≠ "<init>"
def SXE (own : String) (ix : Nat) (x y : MethodName) : Prop := ∃ owner : String, y = ⟨owner, x.name, x.desc⟩ ∧ (∀ c ∈ ([.methodLink own ix x, .sameMethod x.cls owner x.name x.desc, .superclass own x.cls, .superclass x.cls owner, .instanceMethod y, .initialized y.cls] : List Cond), c ∈ tb) ∧ x.name ≠ "<init>"
theorem goodIn_L {L : List Cond} {c : Cond} (h : ∀ w ∈ L, w ∈ tb) (hc : c ∈ tb) : GoodIn tb (L ++ c :: tb) := fun w hw => by
  rcases List.mem_append.mp hw with h1 | h1
  · exact ⟨h w h1, tb_good (h w h1)⟩
  · exact tb_goodIn hc w h1
theorem rm_ok {fr2 lo2 mL mc2 ms2 : Nat} (C : Ok X own cc nL fr lo mc ms) (hR : Nat.ble (fr2 + 1) fr = true ∧ Nat.ble (8 + (mL + 11) + lo2) lo = true) : (rmO fr2 lo2 mc2 ms2).frames + 1 ≤ (xR X).frames ∧ 8 + (mL + 11) + (rmO fr2 lo2 mc2 ms2).locals ≤ (xR X).locals := by
  obtain ⟨C1, C2, C3, C4, C5, C6, C7, C8, C9⟩ := C
  rw [C7, C8]
  exact ⟨Nat.le_of_ble_eq_true hR.1, Nat.le_of_ble_eq_true hR.2⟩
theorem cs_ok {mc2 ms2 : Nat} (C : Ok X own cc nL fr lo mc ms) (hc : Nat.ble (cs + mc2) mc = true ∧ Nat.ble (sl + ms2) ms = true) : cs + mc2 ≤ (xR X).cells ∧ sl + ms2 ≤ (xR X).slots := by
  obtain ⟨C1, C2, C3, C4, C5, C6, C7, C8, C9, C10, C11⟩ := C
  rw [C9, C10]
  exact ⟨Nat.le_of_ble_eq_true hc.1, Nat.le_of_ble_eq_true hc.2⟩
theorem recv_ok {a t : Nat} {H : Heap} {locs : List Loc} (hW : FW X w H locs cs) (h1 : isO w a t = true) (E : CE t) : ∃ cellB : Cell, H[gB (xg X) + a]? = some cellB ∧ cellB.vm.isStatics = false ∧ (xs X).vm.findClass (cN t) = some cellB.cls :=
  va_recv (q := (cN t, cT t, fn t)) hW.1 hW.2.1 E.1 (by rw [lay_get (isO_iff.mp h1).1, cell_o h1 E.2.2.2.2])
theorem at_ok {t : Nat} {H : Heap} {locs : List Loc} (hW : FW X w H locs cs) (E : CE t) : ∃ cC, ClassAt (xs X) (cN t) cC := ⟨_, (hW.1.1 t _ E.1).2⟩
abbrev Rn (X : Xt) (H : Heap) (locs : List Loc) (cs sl mc2 ms2 pc : Nat) (ls : Array Slot) (st0 st : List Value) (Qa : State → Outcome → State → Prop) : Prop := va_Run (xp X) (xl X) (xe X) (xR X) (xs X) (xm X) (xa X) (xb X) (xme X) (xc X) H locs cs sl mc2 ms2 (F0 (xm X) pc ls st0) st Qa (gA (xg X))
theorem kc_i {H : Heap} {locs : List Loc} {ls : Array Slot} {st0 : List Value} {r : Int32} {w1 : Wd} {a : Array Value} (hr : Rn X H locs cs sl 0 0 pc ls st0 st (QcI (xg X) 0 w r w1 a)) (hW : FW X w H locs cs) (hl : lv_has ls (xn X) lv) (kk : Wk X cs sl Q w1 lv (pc + 3) (.int r :: st)) : Wq X H locs cs sl Q pc ls st0 := by
  refine va_calli hr hW.2.2.1 (fun q _ h => h) (fun q h => h) (fun r' u t H1 locs1 ht hvm hp hB hz hk hS => ?_)
  obtain ⟨rfl, hn⟩ := hp
  obtain ⟨hK1, hP1, hsz1⟩ := hB
  rw [ht] at hP1
  exact kk H1 locs1 ls (hW.to hP1 hS (by omega)) hl
theorem kc_l {H : Heap} {locs : List Loc} {ls : Array Slot} {st0 : List Value} {r : Int64} {w1 : Wd} {a : Array Value} (hr : Rn X H locs cs sl 0 0 pc ls st0 st (QcL (xg X) 0 w r w1 a)) (hW : FW X w H locs cs) (hl : lv_has ls (xn X) lv) (kk : Wk X cs sl Q w1 lv (pc + 3) (.long r :: st)) : Wq X H locs cs sl Q pc ls st0 := by
  refine va_calll hr hW.2.2.1 (fun q _ h => h) (fun q h => h) (fun r' u t H1 locs1 ht hvm hp hB hz hk hS => ?_)
  obtain ⟨rfl, hn⟩ := hp
  obtain ⟨hK1, hP1, hsz1⟩ := hB
  rw [ht] at hP1
  exact kk H1 locs1 ls (hW.to hP1 hS (by omega)) hl
theorem kc_v {H : Heap} {locs : List Loc} {ls : Array Slot} {st0 : List Value} {w1 : Wd} {a : Array Value} {mc2 ms2 : Nat} (hr : Rn X H locs cs sl mc2 ms2 pc ls st0 st (QcV (xg X) mc2 w w1 a)) (hW : FW X w H locs cs) (hl : lv_has ls (xn X) lv) (kk : Wk X (cs + mc2) (sl + ms2) Q w1 lv (pc + 3) st) : Wq X H locs cs sl Q pc ls st0 := by
  refine va_callv hr hW.2.2.1 (fun q _ h => h) (fun q h => h) (fun u t H1 locs1 ht hvm hp hB hz hk hS => ?_)
  obtain ⟨hK1, hP1, hsz1⟩ := hB
  rw [ht] at hP1
  refine kk H1 locs1 ls ⟨hW.1, hP1, hS, ?_, hW.2.2.2.2⟩ hl
  have := hW.2.2.2.1
  omega
theorem k_callV_i (C : Ok X own cc nL fr lo mc ms) {α : Type} {rt : FieldType} {ix mL fr2 lo2 n : Nat} {a t : Nat} {y : MethodName} {b : ByteArray} {F : Option (Int32 × Wd)} {K : Int32 → Wd → Option α} {z : α} (Y : YE y b mL (some rt) n) (V : VE own ix y t) (hR : Nat.ble (fr2 + 1) fr = true ∧ Nat.ble (8 + (mL + 11) + lo2) lo = true) (hc : Nat.ble (cs + 0) mc = true ∧ Nat.ble (sl + 0) ms = true) (d : decode cc pc = .ok (.invokevirtual ix, 3)) (As : List Value) {st0 : List Value} (hst : st0 = As.reverse ++ rV (xg X) a :: st) (hlen : As.length = n) (hcat : (st.map fun v => v.category).sum ≤ 8) (M : ∀ r w1, F = some (r, w1) → MI (xg X) (xl X) y b mL rt fr2 lo2 (rV (xg X) a :: As) w r w1) (hf : calV w a t F K = some z) (n2 : Nat) (hn : n2 = pc + 3) (kk : ∀ r w1, K r w1 = some z → Wk X cs sl Q w1 lv n2 (.int r :: st)) : Wk X cs sl Q w lv pc st0 := by
  subst hn
  obtain ⟨h1, r, w1, h3, h2⟩ := calV_s hf
  intro H locs ls hW hl
  refine W.sized (fun hs => ?_)
  exact kc_i (va_runV ⟨C.1, C.2.1, C.2.2.1, C.2.2.2.1, C.2.2.2.2.1⟩ (M r w1 h3) ⟨callB_of n C.2.2.2.2.1 (tb_goodIn Y.1) rfl rfl rfl (C.2.2.2.2.1 _ Y.2.1) (C.2.2.2.2.1 _ V.1) Y.2.2 (rm_ok C hR), C.2.2.2.2.1 _ V.2.1, C.2.2.2.2.1 _ V.2.2.1⟩ ⟨pc_blind, recv_ok hW h1 V.2.2.2, pc_pre hW hs⟩ rfl hlen hl.1 hst (lv_room hcat) d (cs_ok C hc)) hW hl (kk r w1 h2)
theorem k_callV_l (C : Ok X own cc nL fr lo mc ms) {α : Type} {ix mL fr2 lo2 n : Nat} {a t : Nat} {y : MethodName} {b : ByteArray} {F : Option (Int64 × Wd)} {K : Int64 → Wd → Option α} {z : α} (Y : YE y b mL (some .long) n) (V : VE own ix y t) (hR : Nat.ble (fr2 + 1) fr = true ∧ Nat.ble (8 + (mL + 11) + lo2) lo = true) (hc : Nat.ble (cs + 0) mc = true ∧ Nat.ble (sl + 0) ms = true) (d : decode cc pc = .ok (.invokevirtual ix, 3)) (As : List Value) {st0 : List Value} (hst : st0 = As.reverse ++ rV (xg X) a :: st) (hlen : As.length = n) (hcat : (st.map fun v => v.category).sum ≤ 8) (M : ∀ r w1, F = some (r, w1) → ML (xg X) (xl X) y b mL fr2 lo2 (rV (xg X) a :: As) w r w1) (hf : calV w a t F K = some z) (n2 : Nat) (hn : n2 = pc + 3) (kk : ∀ r w1, K r w1 = some z → Wk X cs sl Q w1 lv n2 (.long r :: st)) : Wk X cs sl Q w lv pc st0 := by
  subst hn
  obtain ⟨h1, r, w1, h3, h2⟩ := calV_s hf
  intro H locs ls hW hl
  refine W.sized (fun hs => ?_)
  exact kc_l (va_runV ⟨C.1, C.2.1, C.2.2.1, C.2.2.2.1, C.2.2.2.2.1⟩ (M r w1 h3) ⟨callB_of n C.2.2.2.2.1 (tb_goodIn Y.1) rfl rfl rfl (C.2.2.2.2.1 _ Y.2.1) (C.2.2.2.2.1 _ V.1) Y.2.2 (rm_ok C hR), C.2.2.2.2.1 _ V.2.1, C.2.2.2.2.1 _ V.2.2.1⟩ ⟨pc_blind, recv_ok hW h1 V.2.2.2, pc_pre hW hs⟩ rfl hlen hl.1 hst (lv_room hcat) d (cs_ok C hc)) hW hl (kk r w1 h2)
theorem k_callV_v (C : Ok X own cc nL fr lo mc ms) {α : Type} {mc2 ms2 : Nat} {ix mL fr2 lo2 n : Nat} {a t : Nat} {y : MethodName} {b : ByteArray} {F : Option (Unit × Wd)} {K : Unit → Wd → Option α} {z : α} (Y : YE y b mL none n) (V : VE own ix y t) (hR : Nat.ble (fr2 + 1) fr = true ∧ Nat.ble (8 + (mL + 11) + lo2) lo = true) (hc : Nat.ble (cs + mc2) mc = true ∧ Nat.ble (sl + ms2) ms = true) (d : decode cc pc = .ok (.invokevirtual ix, 3)) (As : List Value) {st0 : List Value} (hst : st0 = As.reverse ++ rV (xg X) a :: st) (hlen : As.length = n) (hcat : (st.map fun v => v.category).sum ≤ 8) (M : ∀ w1, F = some ((), w1) → MV (xg X) (xl X) y b mL fr2 lo2 mc2 ms2 (rV (xg X) a :: As) w w1) (hf : calV w a t F K = some z) (n2 : Nat) (hn : n2 = pc + 3) (kk : ∀ w1, K () w1 = some z → Wk X (cs + mc2) (sl + ms2) Q w1 lv n2 (st)) : Wk X cs sl Q w lv pc st0 := by
  subst hn
  obtain ⟨h1, r, w1, h3, h2⟩ := calV_s hf
  intro H locs ls hW hl
  refine W.sized (fun hs => ?_)
  exact kc_v (va_runV ⟨C.1, C.2.1, C.2.2.1, C.2.2.2.1, C.2.2.2.2.1⟩ (M w1 h3) ⟨callB_of n C.2.2.2.2.1 (tb_goodIn Y.1) rfl rfl rfl (C.2.2.2.2.1 _ Y.2.1) (C.2.2.2.2.1 _ V.1) Y.2.2 (rm_ok C hR), C.2.2.2.2.1 _ V.2.1, C.2.2.2.2.1 _ V.2.2.1⟩ ⟨pc_blind, recv_ok hW h1 V.2.2.2, pc_pre hW hs⟩ rfl hlen hl.1 hst (lv_room hcat) d (cs_ok C hc)) hW hl (kk w1 h2)
theorem k_callS_i (C : Ok X own cc nL fr lo mc ms) {α : Type} {rt : FieldType} {ix mL fr2 lo2 n : Nat} {y : MethodName} {b : ByteArray} {F : Option (Int32 × Wd)} {K : Int32 → Wd → Option α} {z : α} (Y : YE y b mL (some rt) n) (V : SE own ix y) (hR : Nat.ble (fr2 + 1) fr = true ∧ Nat.ble (8 + (mL + 11) + lo2) lo = true) (hc : Nat.ble (cs + 0) mc = true ∧ Nat.ble (sl + 0) ms = true) (d : decode cc pc = .ok (.invokestatic ix, 3)) (As : List Value) {st0 : List Value} (hst : st0 = As.reverse ++ st) (hlen : As.length = n) (hcat : (st.map fun v => v.category).sum ≤ 8) (M : ∀ r w1, F = some (r, w1) → MI (xg X) (xl X) y b mL rt fr2 lo2 As w r w1) (hf : cal F K = some z) (n2 : Nat) (hn : n2 = pc + 3) (kk : ∀ r w1, K r w1 = some z → Wk X cs sl Q w1 lv n2 (.int r :: st)) : Wk X cs sl Q w lv pc st0 := by
  subst hn
  obtain ⟨r, w1, h3, h2⟩ := cal_s hf
  intro H locs ls hW hl
  refine W.sized (fun hs => ?_)
  exact kc_i (va_runS ⟨C.1, C.2.1, C.2.2.1, C.2.2.2.1, C.2.2.2.2.1⟩ (M r w1 h3) ⟨callB_of n C.2.2.2.2.1 (tb_goodIn Y.1) rfl rfl rfl (C.2.2.2.2.1 _ Y.2.1) (C.2.2.2.2.1 _ V.1) Y.2.2 (rm_ok C hR), C.2.2.2.2.1 _ V.2⟩ ⟨pc_blind, pc_pre hW hs⟩ rfl hlen hl.1 hst (lv_room hcat) d (cs_ok C hc)) hW hl (kk r w1 h2)
theorem k_callS_l (C : Ok X own cc nL fr lo mc ms) {α : Type} {ix mL fr2 lo2 n : Nat} {y : MethodName} {b : ByteArray} {F : Option (Int64 × Wd)} {K : Int64 → Wd → Option α} {z : α} (Y : YE y b mL (some .long) n) (V : SE own ix y) (hR : Nat.ble (fr2 + 1) fr = true ∧ Nat.ble (8 + (mL + 11) + lo2) lo = true) (hc : Nat.ble (cs + 0) mc = true ∧ Nat.ble (sl + 0) ms = true) (d : decode cc pc = .ok (.invokestatic ix, 3)) (As : List Value) {st0 : List Value} (hst : st0 = As.reverse ++ st) (hlen : As.length = n) (hcat : (st.map fun v => v.category).sum ≤ 8) (M : ∀ r w1, F = some (r, w1) → ML (xg X) (xl X) y b mL fr2 lo2 As w r w1) (hf : cal F K = some z) (n2 : Nat) (hn : n2 = pc + 3) (kk : ∀ r w1, K r w1 = some z → Wk X cs sl Q w1 lv n2 (.long r :: st)) : Wk X cs sl Q w lv pc st0 := by
  subst hn
  obtain ⟨r, w1, h3, h2⟩ := cal_s hf
  intro H locs ls hW hl
  refine W.sized (fun hs => ?_)
  exact kc_l (va_runS ⟨C.1, C.2.1, C.2.2.1, C.2.2.2.1, C.2.2.2.2.1⟩ (M r w1 h3) ⟨callB_of n C.2.2.2.2.1 (tb_goodIn Y.1) rfl rfl rfl (C.2.2.2.2.1 _ Y.2.1) (C.2.2.2.2.1 _ V.1) Y.2.2 (rm_ok C hR), C.2.2.2.2.1 _ V.2⟩ ⟨pc_blind, pc_pre hW hs⟩ rfl hlen hl.1 hst (lv_room hcat) d (cs_ok C hc)) hW hl (kk r w1 h2)
theorem k_callS_v (C : Ok X own cc nL fr lo mc ms) {α : Type} {mc2 ms2 : Nat} {ix mL fr2 lo2 n : Nat} {y : MethodName} {b : ByteArray} {F : Option (Unit × Wd)} {K : Unit → Wd → Option α} {z : α} (Y : YE y b mL none n) (V : SE own ix y) (hR : Nat.ble (fr2 + 1) fr = true ∧ Nat.ble (8 + (mL + 11) + lo2) lo = true) (hc : Nat.ble (cs + mc2) mc = true ∧ Nat.ble (sl + ms2) ms = true) (d : decode cc pc = .ok (.invokestatic ix, 3)) (As : List Value) {st0 : List Value} (hst : st0 = As.reverse ++ st) (hlen : As.length = n) (hcat : (st.map fun v => v.category).sum ≤ 8) (M : ∀ w1, F = some ((), w1) → MV (xg X) (xl X) y b mL fr2 lo2 mc2 ms2 As w w1) (hf : cal F K = some z) (n2 : Nat) (hn : n2 = pc + 3) (kk : ∀ w1, K () w1 = some z → Wk X (cs + mc2) (sl + ms2) Q w1 lv n2 (st)) : Wk X cs sl Q w lv pc st0 := by
  subst hn
  obtain ⟨r, w1, h3, h2⟩ := cal_s hf
  intro H locs ls hW hl
  refine W.sized (fun hs => ?_)
  exact kc_v (va_runS ⟨C.1, C.2.1, C.2.2.1, C.2.2.2.1, C.2.2.2.2.1⟩ (M w1 h3) ⟨callB_of n C.2.2.2.2.1 (tb_goodIn Y.1) rfl rfl rfl (C.2.2.2.2.1 _ Y.2.1) (C.2.2.2.2.1 _ V.1) Y.2.2 (rm_ok C hR), C.2.2.2.2.1 _ V.2⟩ ⟨pc_blind, pc_pre hW hs⟩ rfl hlen hl.1 hst (lv_room hcat) d (cs_ok C hc)) hW hl (kk w1 h2)
theorem k_callSN_i (C : Ok X own cc nL fr lo mc ms) {α : Type} {rt : FieldType} {ix mL fr2 lo2 n : Nat} {y : MethodName} {b : ByteArray} {F : Option (Int32 × Wd)} {K : Int32 → Wd → Option α} {z : α} (Y : YE y b mL (some rt) n) {host : String} (V : SNE own ix y host) (hR : Nat.ble (fr2 + 1) fr = true ∧ Nat.ble (8 + (mL + 11) + lo2) lo = true) (hc : Nat.ble (cs + 0) mc = true ∧ Nat.ble (sl + 0) ms = true) (d : decode cc pc = .ok (.invokestatic ix, 3)) (As : List Value) {st0 : List Value} (hst : st0 = As.reverse ++ st) (hlen : As.length = n) (hcat : (st.map fun v => v.category).sum ≤ 8) (M : ∀ r w1, F = some (r, w1) → MI (xg X) (xl X) y b mL rt fr2 lo2 As w r w1) (hf : cal F K = some z) (n2 : Nat) (hn : n2 = pc + 3) (kk : ∀ r w1, K r w1 = some z → Wk X cs sl Q w1 lv n2 (.int r :: st)) : Wk X cs sl Q w lv pc st0 := by
  subst hn
  obtain ⟨r, w1, h3, h2⟩ := cal_s hf
  intro H locs ls hW hl
  refine W.sized (fun hs => ?_)
  exact kc_i (va_runSN ⟨C.1, C.2.1, C.2.2.1, C.2.2.2.1, C.2.2.2.2.1⟩ (M r w1 h3) ⟨va_cnB n C.2.2.2.2.1 (tb_goodIn Y.1) rfl rfl rfl (hW.2.2.2.2.2.1 _ V.1) (C.2.2.2.2.1 _ Y.2.1) Y.2.2 (rm_ok C hR), C.2.2.2.2.1 _ V.2, trivial⟩ ⟨pc_blind, pc_pre hW hs⟩ rfl hlen hl.1 hst (lv_room hcat) d (cs_ok C hc)) hW hl (kk r w1 h2)
theorem k_callU_i (C : Ok X own cc nL fr lo mc ms) {α : Type} {rt : FieldType} {ix mL fr2 lo2 n : Nat} {a t : Nat} {y : MethodName} {b : ByteArray} {F : Option (Int32 × Wd)} {K : Int32 → Wd → Option α} {z : α} (Y : YE y b mL (some rt) n) {x : MethodName} (V : UE own ix x y t) (hR : Nat.ble (fr2 + 1) fr = true ∧ Nat.ble (8 + (mL + 11) + lo2) lo = true) (hc : Nat.ble (cs + 0) mc = true ∧ Nat.ble (sl + 0) ms = true) (d : decode cc pc = .ok (.invokevirtual ix, 3)) (As : List Value) {st0 : List Value} (hst : st0 = As.reverse ++ rV (xg X) a :: st) (hlen : As.length = n) (hcat : (st.map fun v => v.category).sum ≤ 8) (M : ∀ r w1, F = some (r, w1) → MI (xg X) (xl X) y b mL rt fr2 lo2 (rV (xg X) a :: As) w r w1) (hf : calV w a t F K = some z) (n2 : Nat) (hn : n2 = pc + 3) (kk : ∀ r w1, K r w1 = some z → Wk X cs sl Q w1 lv n2 (.int r :: st)) : Wk X cs sl Q w lv pc st0 := by
  subst hn
  obtain ⟨h1, r, w1, h3, h2⟩ := calV_s hf
  intro H locs ls hW hl
  refine W.sized (fun hs => ?_)
  obtain ⟨E, owner, o1, o2, o3, hO⟩ := V
  have cw : va_CU (xR X) (xs X) (xa X) own (cN t) owner ix x y b mL (some rt) (.code y b mL (some rt) :: tb) (rmO fr2 lo2 0 0) 0 0 n := by
    have hd : owner ≠ "java/lang/invoke/MethodHandle" ∧ owner ≠ "java/lang/invoke/VarHandle" ∧ (parseMethodDescriptor x.desc).map (fun d => d.parameters.length) = some n := ⟨o1, o2, by rw [o3]; exact Y.2.2.2.2⟩
    rcases hO with ⟨q1, q2⟩ | ⟨q2, b0, m0, r0, q3⟩
    · exact va_cwU n C.2.2.2.2.1 (goodIn_L q2 Y.1) rfl rfl rfl q1 hd (rm_ok C hR)
    · exact va_cwO n C.2.2.2.2.1 (goodIn_L q2 Y.1) rfl rfl rfl q3 hd (rm_ok C hR)
  exact kc_i (va_runU ⟨C.1, C.2.1, C.2.2.1, C.2.2.2.1, C.2.2.2.2.1⟩ (M r w1 h3) cw ⟨pc_blind, recv_ok hW h1 E, pc_pre hW hs⟩ rfl hlen hl.1 hst (lv_room hcat) d (cs_ok C hc)) hW hl (kk r w1 h2)
theorem k_callSU_i (C : Ok X own cc nL fr lo mc ms) {α : Type} {rt : FieldType} {ix mL fr2 lo2 n : Nat} {a : Nat} {y : MethodName} {b : ByteArray} {F : Option (Int32 × Wd)} {K : Int32 → Wd → Option α} {z : α} (Y : YE y b mL (some rt) n) (V : SUE own ix y) (Ea : ∀ t, t < 13 → CE t) (hR : Nat.ble (fr2 + 1) fr = true ∧ Nat.ble (8 + (mL + 11) + lo2) lo = true) (hc : Nat.ble (cs + 0) mc = true ∧ Nat.ble (sl + 0) ms = true) (d : decode cc pc = .ok (.invokespecial ix, 3)) (As : List Value) {st0 : List Value} (hst : st0 = As.reverse ++ rV (xg X) a :: st) (hlen : As.length = n) (hcat : (st.map fun v => v.category).sum ≤ 8) (M : ∀ r w1, F = some (r, w1) → MI (xg X) (xl X) y b mL rt fr2 lo2 (rV (xg X) a :: As) w r w1) (hf : calO w a F K = some z) (n2 : Nat) (hn : n2 = pc + 3) (kk : ∀ r w1, K r w1 = some z → Wk X cs sl Q w1 lv n2 (.int r :: st)) : Wk X cs sl Q w lv pc st0 := by
  subst hn
  obtain ⟨h1, ht, r, w1, h3, h2⟩ := calO_s hf
  have E := Ea _ ht
  intro H locs ls hW hl
  refine W.sized (fun hs => ?_)
  obtain ⟨cC, hat⟩ := at_ok hW E
  exact kc_i (va_runSU hat ⟨C.1, C.2.1, C.2.2.1, C.2.2.2.1, C.2.2.2.2.1⟩ (M r w1 h3) (va_cwSU n C.2.2.2.2.1 (goodIn_L V.1 Y.1) rfl rfl rfl ⟨V.2, Y.2.2.2.2⟩ (rm_ok C hR)) ⟨pc_blind, recv_ok hW h1 E, pc_pre hW hs⟩ rfl hlen hl.1 hst (lv_room hcat) d (cs_ok C hc)) hW hl (kk r w1 h2)
theorem k_callSX_i (C : Ok X own cc nL fr lo mc ms) {α : Type} {rt : FieldType} {ix mL fr2 lo2 n : Nat} {a : Nat} {y : MethodName} {b : ByteArray} {F : Option (Int32 × Wd)} {K : Int32 → Wd → Option α} {z : α} (Y : YE y b mL (some rt) n) {x : MethodName} (V : SXE own ix x y) (Ea : ∀ t, t < 13 → CE t) (hR : Nat.ble (fr2 + 1) fr = true ∧ Nat.ble (8 + (mL + 11) + lo2) lo = true) (hc : Nat.ble (cs + 0) mc = true ∧ Nat.ble (sl + 0) ms = true) (d : decode cc pc = .ok (.invokespecial ix, 3)) (As : List Value) {st0 : List Value} (hst : st0 = As.reverse ++ rV (xg X) a :: st) (hlen : As.length = n) (hcat : (st.map fun v => v.category).sum ≤ 8) (M : ∀ r w1, F = some (r, w1) → MI (xg X) (xl X) y b mL rt fr2 lo2 (rV (xg X) a :: As) w r w1) (hf : calO w a F K = some z) (n2 : Nat) (hn : n2 = pc + 3) (kk : ∀ r w1, K r w1 = some z → Wk X cs sl Q w1 lv n2 (.int r :: st)) : Wk X cs sl Q w lv pc st0 := by
  subst hn
  obtain ⟨h1, ht, r, w1, h3, h2⟩ := calO_s hf
  have E := Ea _ ht
  intro H locs ls hW hl
  refine W.sized (fun hs => ?_)
  obtain ⟨cC, hat⟩ := at_ok hW E
  obtain ⟨owner, q1, q2, q3⟩ := V
  have ok : ∀ c ∈ ([.methodLink own ix x, .sameMethod x.cls owner x.name x.desc, .superclass own x.cls, .superclass x.cls owner, .instanceMethod y, .initialized y.cls] : List Cond), c.before (xa X) (xs X) = true := fun c h => C.2.2.2.2.1 c (q2 c h)
  exact kc_i (sx_run (x := x) (owner := owner) (n := n) hat ⟨C.1, C.2.1, C.2.2.1, C.2.2.2.1, C.2.2.2.2.1⟩ (M r w1 h3) q1 ⟨rfl, rfl, (rm_ok (mc2 := 0) (ms2 := 0) C hR).1, (rm_ok (mc2 := 0) (ms2 := 0) C hR).2, pay_in C.2.2.2.2.1 (tb_goodIn Y.1), List.mem_cons_self⟩ (ok _ (by simp)) (ok _ (by simp)) (ok _ (by simp)) (ok _ (by simp)) (ok _ (by simp)) (ok _ (by simp)) (C.2.2.2.2.1 _ Y.1) q3 (fun sig h => by have h9 := Y.2.2.2.2; rw [h] at h9; exact (Option.some.inj h9).symm) ⟨pc_blind, recv_ok hW h1 E, pc_pre hW hs⟩ rfl hlen hl.1 hst (lv_room hcat) d (cs_ok C hc)) hW hl (kk r w1 h2)
theorem k_callI_v (C : Ok X own cc nL fr lo mc ms) {α : Type} {mc2 ms2 : Nat} {ix mL fr2 lo2 n : Nat} {a : Nat} {y : MethodName} {b : ByteArray} {F : Option (Unit × Wd)} {K : Unit → Wd → Option α} {z : α} (Y : YE y b mL none n) (V : IE own ix y) (hR : Nat.ble (fr2 + 1) fr = true ∧ Nat.ble (8 + (mL + 11) + lo2) lo = true) (hc : Nat.ble (cs + mc2) mc = true ∧ Nat.ble (sl + ms2) ms = true) (d : decode cc pc = .ok (.invokespecial ix, 3)) (As : List Value) {st0 : List Value} (hst : st0 = As.reverse ++ rV (xg X) a :: st) (hlen : As.length = n) (hcat : (st.map fun v => v.category).sum ≤ 8) (M : ∀ w1, F = some ((), w1) → MV (xg X) (xl X) y b mL fr2 lo2 mc2 ms2 (rV (xg X) a :: As) w w1) (hf : cal F K = some z) (n2 : Nat) (hn : n2 = pc + 3) (kk : ∀ w1, K () w1 = some z → Wk X (cs + mc2) (sl + ms2) Q w1 lv n2 (st)) : Wk X cs sl Q w lv pc st0 := by
  subst hn
  obtain ⟨r, w1, h3, h2⟩ := cal_s hf
  intro H locs ls hW hl
  refine W.sized (fun hs => ?_)
  exact kc_v (va_runI ⟨C.1, C.2.1, C.2.2.1, C.2.2.2.1, C.2.2.2.2.1⟩ (M w1 h3) (cwI n C.2.2.2.2.1 (tb_goodIn Y.1) rfl rfl rfl (C.2.2.2.2.1 _ Y.2.1) (C.2.2.2.2.1 _ V.1) (C.2.2.2.2.1 _ V.2.1) V.2.2 Y.2.2 (rm_ok C hR)) ⟨pc_blind, pc_pre hW hs⟩ rfl hlen hl.1 hst (lv_room hcat) d (cs_ok C hc)) hW hl (kk w1 h2)
theorem k_callIN_v (C : Ok X own cc nL fr lo mc ms) {α : Type} {mc2 ms2 : Nat} {ix mL fr2 lo2 n : Nat} {a : Nat} {y : MethodName} {b : ByteArray} {F : Option (Unit × Wd)} {K : Unit → Wd → Option α} {z : α} (Y : YE y b mL none n) {host : String} (V : INE own ix y host) (hR : Nat.ble (fr2 + 1) fr = true ∧ Nat.ble (8 + (mL + 11) + lo2) lo = true) (hc : Nat.ble (cs + mc2) mc = true ∧ Nat.ble (sl + ms2) ms = true) (d : decode cc pc = .ok (.invokespecial ix, 3)) (As : List Value) {st0 : List Value} (hst : st0 = As.reverse ++ rV (xg X) a :: st) (hlen : As.length = n) (hcat : (st.map fun v => v.category).sum ≤ 8) (M : ∀ w1, F = some ((), w1) → MV (xg X) (xl X) y b mL fr2 lo2 mc2 ms2 (rV (xg X) a :: As) w w1) (hf : cal F K = some z) (n2 : Nat) (hn : n2 = pc + 3) (kk : ∀ w1, K () w1 = some z → Wk X (cs + mc2) (sl + ms2) Q w1 lv n2 (st)) : Wk X cs sl Q w lv pc st0 := by
  subst hn
  obtain ⟨r, w1, h3, h2⟩ := cal_s hf
  intro H locs ls hW hl
  refine W.sized (fun hs => ?_)
  exact kc_v (va_runIN ⟨C.1, C.2.1, C.2.2.1, C.2.2.2.1, C.2.2.2.2.1⟩ (M w1 h3) ⟨va_cnB n C.2.2.2.2.1 (tb_goodIn Y.1) rfl rfl rfl (hW.2.2.2.2.2.1 _ V.1) (C.2.2.2.2.1 _ Y.2.1) Y.2.2 (rm_ok C hR), V.2.2, C.2.2.2.2.1 _ V.2.1⟩ ⟨pc_blind, pc_pre hW hs⟩ rfl hlen hl.1 hst (lv_room hcat) d (cs_ok C hc)) hW hl (kk w1 h2)
theorem k_iret (C : Ok X own cc nL fr lo mc ms) (hr : (xme X).sig.returnType = some .int) {w0 w2 : Wd} {x r : Int32} (h0 : gB (xg X) + wN w0 = (xs X).heap.size) (d : decode cc pc = .ok (.ireturn, 1)) (hf : some (x, w) = some (r, w2)) : Wk X 0 0 (QI X w0 r w2) w lv pc [.int x] := by
  cases hf
  intro H locs ls hW hl
  refine W.sized (fun hs => ?_)
  have hsz := hW.size hs
  exact W.iret C.1 C.2.1 hr (fun t ht hWm => ⟨⟨x, (), rfl, ⟨rfl, by have := hW.2.2.2.1; omega⟩, va_K.moved hWm.alike hW.1, by rw [ht]; exact hW.2.1, by rw [ht]; exact hsz⟩, hW.2.2.1.F ht⟩) hW.2.2.1.2.2 d (hlocks := C.2.2.2.2.2.1)
theorem k_zret (C : Ok X own cc nL fr lo mc ms) (hr : (xme X).sig.returnType = some .boolean) {w0 w2 : Wd} {x r : Int32} (h0 : gB (xg X) + wN w0 = (xs X).heap.size) (d : decode cc pc = .ok (.ireturn, 1)) (hf : rZ x w = some (r, w2)) : Wk X 0 0 (QI X w0 r w2) w lv pc [.int x] := by
  obtain ⟨hz, rfl, rfl⟩ := rZ_s hf
  intro H locs ls hW hl
  refine W.sized (fun hs => ?_)
  have hsz := hW.size hs
  exact W.zret C.1 C.2.1 hr (by rcases hz with rfl | rfl <;> rfl) (fun t ht hWm => ⟨⟨x, (), rfl, ⟨rfl, by have := hW.2.2.2.1; omega⟩, va_K.moved hWm.alike hW.1, by rw [ht]; exact hW.2.1, by rw [ht]; exact hsz⟩, hW.2.2.1.F ht⟩) hW.2.2.1.2.2 d (hlocks := C.2.2.2.2.2.1)
theorem k_lret (C : Ok X own cc nL fr lo mc ms) (hr : (xme X).sig.returnType = some .long) {w0 w2 : Wd} {x r : Int64} (h0 : gB (xg X) + wN w0 = (xs X).heap.size) (d : decode cc pc = .ok (.lreturn, 1)) (hf : some (x, w) = some (r, w2)) : Wk X 0 0 (QL X w0 r w2) w lv pc [.long x] := by
  cases hf
  intro H locs ls hW hl
  refine W.sized (fun hs => ?_)
  have hsz := hW.size hs
  exact W.lret C.1 C.2.1 hr (fun t ht hWm => ⟨⟨x, (), rfl, ⟨rfl, by have := hW.2.2.2.1; omega⟩, va_K.moved hWm.alike hW.1, by rw [ht]; exact hW.2.1, by rw [ht]; exact hsz⟩, hW.2.2.1.F ht⟩) hW.2.2.1.2.2 d (hlocks := C.2.2.2.2.2.1)
theorem k_vret (C : Ok X own cc nL fr lo mc ms) (hr : (xme X).sig.returnType = none) {w0 w2 : Wd} (h0 : gB (xg X) + wN w0 = (xs X).heap.size) (d : decode cc pc = .ok (.return_, 1)) (hf : some ((), w) = some ((), w2)) : Wk X cs sl (QV X cs sl w0 w2) w lv pc [] := by
  cases hf
  intro H locs ls hW hl
  refine W.sized (fun hs => ?_)
  have hsz := hW.size hs
  exact W.vret C.1 C.2.1 hr (fun t ht hWm => ⟨⟨(), rfl, by have := hW.2.2.2.1; omega, va_K.moved hWm.alike hW.1, by rw [ht]; exact hW.2.1, by rw [ht]; exact hsz⟩, hW.2.2.1.F ht⟩) hW.2.2.1.2.2 d (hlocks := C.2.2.2.2.2.1)
def f_mmax (x y : Int32) : Int32 := if x < y then y else x
theorem k_mmax (C : Ok X own cc nL fr lo mc ms) {ix : Nat} {x y : Int32} (hm : Cond.methodLink own ix Lib.Math.max.name ∈ tb) (hm2 : Cond.static Lib.Math.max.name ∈ tb) (hm3 : Cond.initialized "java/lang/Math" ∈ tb) (hm4 : Cond.code Lib.Math.max.name Lib.Math.max.code 2 (some .int) ∈ tb) (hfr : 1 ≤ fr) (hlo : (st.map fun v => v.category).sum + 13 ≤ lo) (hc : Nat.ble cs mc = true ∧ Nat.ble sl ms = true) (d : decode cc pc = .ok (.invokestatic ix, 3)) (n : Nat) (hn : n = pc + 3) (kk : Wk X cs sl Q w lv n (.int (f_mmax x y) :: st)) : Wk X cs sl Q w lv pc (.int y :: .int x :: st) := by
  subst hn
  obtain ⟨C1, C2, C3, C4, C5, C6, C7, C8, C9, C10, C11⟩ := C
  intro H locs ls hW hl
  exact va_mmax C1 C2 (by rw [C3]; exact hl.1.symm) C4 (C5 _ hm) (C5 _ hm2) (C5 _ hm3) (C5 _ hm4) (by rw [C7]; exact hfr) (by rw [C8]; exact hlo) (by rw [C9]; exact Nat.le_of_ble_eq_true hc.1) (by rw [C10]; exact Nat.le_of_ble_eq_true hc.2) d (kk H locs ls hW hl)
def f_mmin (x y : Int32) : Int32 := if y < x then y else x
theorem k_mmin (C : Ok X own cc nL fr lo mc ms) {ix : Nat} {x y : Int32} (hm : Cond.methodLink own ix Lib.Math.min.name ∈ tb) (hm2 : Cond.static Lib.Math.min.name ∈ tb) (hm3 : Cond.initialized "java/lang/Math" ∈ tb) (hm4 : Cond.code Lib.Math.min.name Lib.Math.min.code 2 (some .int) ∈ tb) (hfr : 1 ≤ fr) (hlo : (st.map fun v => v.category).sum + 13 ≤ lo) (hc : Nat.ble cs mc = true ∧ Nat.ble sl ms = true) (d : decode cc pc = .ok (.invokestatic ix, 3)) (n : Nat) (hn : n = pc + 3) (kk : Wk X cs sl Q w lv n (.int (f_mmin x y) :: st)) : Wk X cs sl Q w lv pc (.int y :: .int x :: st) := by
  subst hn
  obtain ⟨C1, C2, C3, C4, C5, C6, C7, C8, C9, C10, C11⟩ := C
  intro H locs ls hW hl
  exact va_mmin C1 C2 (by rw [C3]; exact hl.1.symm) C4 (C5 _ hm) (C5 _ hm2) (C5 _ hm3) (C5 _ hm4) (by rw [C7]; exact hfr) (by rw [C8]; exact hlo) (by rw [C9]; exact Nat.le_of_ble_eq_true hc.1) (by rw [C10]; exact Nat.le_of_ble_eq_true hc.2) d (kk H locs ls hW hl)
def f_mmax_long (x y : Int64) : Int64 := if y < x then x else y
theorem k_mmax_long (C : Ok X own cc nL fr lo mc ms) {ix : Nat} {x y : Int64} (hm : Cond.methodLink own ix Lib.MathLoose.max_long.x ∈ tb) (hm2 : Cond.static Lib.MathLoose.max_long.x ∈ tb) (hm3 : Cond.initialized "java/lang/Math" ∈ tb) (hm4 : Cond.code Lib.MathLoose.max_long.x Lib.MathLoose.max_long.code 4 (some .long) ∈ tb) (hfr : 1 ≤ fr) (hlo : (st.map fun v => v.category).sum + 15 ≤ lo) (hc : Nat.ble cs mc = true ∧ Nat.ble sl ms = true) (d : decode cc pc = .ok (.invokestatic ix, 3)) (n : Nat) (hn : n = pc + 3) (kk : Wk X cs sl Q w lv n (.long (f_mmax_long x y) :: st)) : Wk X cs sl Q w lv pc (.long y :: .long x :: st) := by
  subst hn
  obtain ⟨C1, C2, C3, C4, C5, C6, C7, C8, C9, C10, C11⟩ := C
  intro H locs ls hW hl
  exact va_mmax_long C1 C2 (by rw [C3]; exact hl.1.symm) C4 (C5 _ hm) (C5 _ hm2) (C5 _ hm3) (C5 _ hm4) (by rw [C7]; exact hfr) (by rw [C8]; exact hlo) (by rw [C9]; exact Nat.le_of_ble_eq_true hc.1) (by rw [C10]; exact Nat.le_of_ble_eq_true hc.2) d (kk H locs ls hW hl)
end KC
end
section
theorem ce_0 : CE 0 := ⟨rfl, by decide +kernel, by decide +kernel, by decide +kernel, by decide⟩
theorem ce_1 : CE 1 := ⟨rfl, by decide +kernel, by decide +kernel, by decide +kernel, by decide⟩
theorem ce_2 : CE 2 := ⟨rfl, by decide +kernel, by decide +kernel, by decide +kernel, by decide⟩
theorem ce_3 : CE 3 := ⟨rfl, by decide +kernel, by decide +kernel, by decide +kernel, by decide⟩
theorem ce_4 : CE 4 := ⟨rfl, by decide +kernel, by decide +kernel, by decide +kernel, by decide⟩
theorem ce_5 : CE 5 := ⟨rfl, by decide +kernel, by decide +kernel, by decide +kernel, by decide⟩
theorem ce_6 : CE 6 := ⟨rfl, by decide +kernel, by decide +kernel, by decide +kernel, by decide⟩
theorem ce_7 : CE 7 := ⟨rfl, by decide +kernel, by decide +kernel, by decide +kernel, by decide⟩
theorem ce_8 : CE 8 := ⟨rfl, by decide +kernel, by decide +kernel, by decide +kernel, by decide⟩
theorem ce_9 : CE 9 := ⟨rfl, by decide +kernel, by decide +kernel, by decide +kernel, by decide⟩
theorem ce_10 : CE 10 := ⟨rfl, by decide +kernel, by decide +kernel, by decide +kernel, by decide⟩
theorem ce_11 : CE 11 := ⟨rfl, by decide +kernel, by decide +kernel, by decide +kernel, by decide⟩
theorem ce_12 : CE 12 := ⟨rfl, by decide +kernel, by decide +kernel, by decide +kernel, by decide⟩
theorem ce_all : ∀ t, t < 13 → CE t := fun t ht => by
  rcases (show t = 0 ∨ t = 1 ∨ t = 2 ∨ t = 3 ∨ t = 4 ∨ t = 5 ∨ t = 6 ∨ t = 7 ∨ t = 8 ∨ t = 9 ∨ t = 10 ∨ t = 11 ∨ t = 12 by omega) with rfl | rfl | rfl | rfl | rfl | rfl | rfl | rfl | rfl | rfl | rfl | rfl | rfl
  · exact ce_0
  · exact ce_1
  · exact ce_2
  · exact ce_3
  · exact ce_4
  · exact ce_5
  · exact ce_6
  · exact ce_7
  · exact ce_8
  · exact ce_9
  · exact ce_10
  · exact ce_11
  · exact ce_12
theorem mt_843 : (Jvm.Cond.methodLink "GrindMill$Clues" (38 : Nat) ({ cls := "java/lang/System", name := "arraycopy", desc := "(Ljava/lang/Object;ILjava/lang/Object;II)V" } : Jvm.MethodName)) ∈ tb := tb_of 843 (by decide +kernel) (by decide +kernel)
theorem mm_X0_38 : Cond.methodLink RX0 38 arraycopyName ∈ tb := mt_843
theorem mt_516 : (Jvm.Cond.native ({ cls := "java/lang/System", name := "arraycopy", desc := "(Ljava/lang/Object;ILjava/lang/Object;II)V" } : Jvm.MethodName)) ∈ tb := tb_of 516 (by decide +kernel) (by decide +kernel)
theorem mt_515 : (Jvm.Cond.static ({ cls := "java/lang/System", name := "arraycopy", desc := "(Ljava/lang/Object;ILjava/lang/Object;II)V" } : Jvm.MethodName)) ∈ tb := tb_of 515 (by decide +kernel) (by decide +kernel)
theorem mt_77 : (Jvm.Cond.initialized "java/lang/System") ∈ tb := tb_of 77 (by decide +kernel) (by decide +kernel)
theorem mcp_n : Cond.native arraycopyName ∈ tb := mt_516
theorem mcp_s : Cond.static arraycopyName ∈ tb := mt_515
theorem mcp_i : Cond.initialized "java/lang/System" ∈ tb := mt_77
theorem mt_514 : (Jvm.Cond.methodLink "GrindMill$House" (73 : Nat) ({ cls := "java/lang/System", name := "arraycopy", desc := "(Ljava/lang/Object;ILjava/lang/Object;II)V" } : Jvm.MethodName)) ∈ tb := tb_of 514 (by decide +kernel) (by decide +kernel)
theorem mm_X2_73 : Cond.methodLink RX2 73 arraycopyName ∈ tb := mt_514
theorem mt_880 : (Jvm.Cond.constantLong "GrindMill$Clues" (84 : Nat) (31 : Int64)) ∈ tb := tb_of 880 (by decide +kernel) (by decide +kernel)
theorem mcst_X0_84 : Cond.constantLong RX0 84 31 ∈ tb := mt_880
theorem mt_875 : (Jvm.Cond.constantLong "GrindMill$Goods" (50 : Nat) (31 : Int64)) ∈ tb := tb_of 875 (by decide +kernel) (by decide +kernel)
theorem mcst_X1_50 : Cond.constantLong RX1 50 31 ∈ tb := mt_875
theorem mt_870 : (Jvm.Cond.constantLong "GrindMill$House" (112 : Nat) (31 : Int64)) ∈ tb := tb_of 870 (by decide +kernel) (by decide +kernel)
theorem mcst_X2_112 : Cond.constantLong RX2 112 31 ∈ tb := mt_870
theorem mt_805 : (Jvm.Cond.constantLong "GrindMill" (254 : Nat) (10 : Int64)) ∈ tb := tb_of 805 (by decide +kernel) (by decide +kernel)
theorem mcst_X11_254 : Cond.constantLong RX11 254 10 ∈ tb := mt_805
theorem mt_816 : (Jvm.Cond.constant "GrindMill" (263 : Nat) (999999 : Int32)) ∈ tb := tb_of 816 (by decide +kernel) (by decide +kernel)
theorem mcst_X11_263 : Cond.constant RX11 263 999999 ∈ tb := mt_816
theorem mt_817 : (Jvm.Cond.constantLong "GrindMill" (264 : Nat) (1103515245 : Int64)) ∈ tb := tb_of 817 (by decide +kernel) (by decide +kernel)
theorem mcst_X11_264 : Cond.constantLong RX11 264 1103515245 ∈ tb := mt_817
theorem mt_818 : (Jvm.Cond.constantLong "GrindMill" (266 : Nat) (12345 : Int64)) ∈ tb := tb_of 818 (by decide +kernel) (by decide +kernel)
theorem mcst_X11_266 : Cond.constantLong RX11 266 12345 ∈ tb := mt_818
theorem mt_819 : (Jvm.Cond.constantLong "GrindMill" (268 : Nat) (2147483648 : Int64)) ∈ tb := tb_of 819 (by decide +kernel) (by decide +kernel)
theorem mcst_X11_268 : Cond.constantLong RX11 268 2147483648 ∈ tb := mt_819
theorem mt_820 : (Jvm.Cond.constantLong "GrindMill" (270 : Nat) (65536 : Int64)) ∈ tb := tb_of 820 (by decide +kernel) (by decide +kernel)
theorem mcst_X11_270 : Cond.constantLong RX11 270 65536 ∈ tb := mt_820
theorem mt_821 : (Jvm.Cond.constantLong "GrindMill" (272 : Nat) (8 : Int64)) ∈ tb := tb_of 821 (by decide +kernel) (by decide +kernel)
theorem mcst_X11_272 : Cond.constantLong RX11 272 8 ∈ tb := mt_821
theorem mt_864 : (Jvm.Cond.constantLong "GrindMill" (281 : Nat) (1231 : Int64)) ∈ tb := tb_of 864 (by decide +kernel) (by decide +kernel)
theorem mcst_X11_281 : Cond.constantLong RX11 281 1231 ∈ tb := mt_864
theorem mt_865 : (Jvm.Cond.constantLong "GrindMill" (283 : Nat) (31 : Int64)) ∈ tb := tb_of 865 (by decide +kernel) (by decide +kernel)
theorem mcst_X11_283 : Cond.constantLong RX11 283 31 ∈ tb := mt_865
theorem mt_1195 : (Jvm.Cond.constantLong "GrindMillModel" (189 : Nat) (10 : Int64)) ∈ tb := tb_of 1195 (by decide +kernel) (by decide +kernel)
theorem mcst_X12_189 : Cond.constantLong RX12 189 10 ∈ tb := mt_1195
theorem mt_1204 : (Jvm.Cond.constant "GrindMillModel" (195 : Nat) (999999 : Int32)) ∈ tb := tb_of 1204 (by decide +kernel) (by decide +kernel)
theorem mcst_X12_195 : Cond.constant RX12 195 999999 ∈ tb := mt_1204
theorem mt_1205 : (Jvm.Cond.constantLong "GrindMillModel" (196 : Nat) (1103515245 : Int64)) ∈ tb := tb_of 1205 (by decide +kernel) (by decide +kernel)
theorem mcst_X12_196 : Cond.constantLong RX12 196 1103515245 ∈ tb := mt_1205
theorem mt_1206 : (Jvm.Cond.constantLong "GrindMillModel" (198 : Nat) (12345 : Int64)) ∈ tb := tb_of 1206 (by decide +kernel) (by decide +kernel)
theorem mcst_X12_198 : Cond.constantLong RX12 198 12345 ∈ tb := mt_1206
theorem mt_1207 : (Jvm.Cond.constantLong "GrindMillModel" (200 : Nat) (2147483648 : Int64)) ∈ tb := tb_of 1207 (by decide +kernel) (by decide +kernel)
theorem mcst_X12_200 : Cond.constantLong RX12 200 2147483648 ∈ tb := mt_1207
theorem mt_1208 : (Jvm.Cond.constantLong "GrindMillModel" (202 : Nat) (65536 : Int64)) ∈ tb := tb_of 1208 (by decide +kernel) (by decide +kernel)
theorem mcst_X12_202 : Cond.constantLong RX12 202 65536 ∈ tb := mt_1208
theorem mt_1209 : (Jvm.Cond.constantLong "GrindMillModel" (204 : Nat) (8 : Int64)) ∈ tb := tb_of 1209 (by decide +kernel) (by decide +kernel)
theorem mcst_X12_204 : Cond.constantLong RX12 204 8 ∈ tb := mt_1209
theorem mt_1238 : (Jvm.Cond.constantLong "GrindMillModel" (209 : Nat) (1231 : Int64)) ∈ tb := tb_of 1238 (by decide +kernel) (by decide +kernel)
theorem mcst_X12_209 : Cond.constantLong RX12 209 1231 ∈ tb := mt_1238
theorem mt_1239 : (Jvm.Cond.constantLong "GrindMillModel" (211 : Nat) (31 : Int64)) ∈ tb := tb_of 1239 (by decide +kernel) (by decide +kernel)
theorem mcst_X12_211 : Cond.constantLong RX12 211 31 ∈ tb := mt_1239
theorem mt_570 : (Jvm.Cond.constant "java/lang/Integer" (265 : Nat) (1431655765 : Int32)) ∈ tb := tb_of 570 (by decide +kernel) (by decide +kernel)
theorem mcst_J6_265 : Cond.constant RJ6 265 1431655765 ∈ tb := mt_570
theorem mt_571 : (Jvm.Cond.constant "java/lang/Integer" (266 : Nat) (858993459 : Int32)) ∈ tb := tb_of 571 (by decide +kernel) (by decide +kernel)
theorem mcst_J6_266 : Cond.constant RJ6 266 858993459 ∈ tb := mt_571
theorem mt_572 : (Jvm.Cond.constant "java/lang/Integer" (267 : Nat) (252645135 : Int32)) ∈ tb := tb_of 572 (by decide +kernel) (by decide +kernel)
theorem mcst_J6_267 : Cond.constant RJ6 267 252645135 ∈ tb := mt_572
theorem mt_145 : (Jvm.Cond.fieldLink "GrindMill$Clues" (11 : Nat) "GrindMill$Clues" "guessed" "[I") ∈ tb := tb_of 145 (by decide +kernel) (by decide +kernel)
theorem fe_X0_11 : FE RX0 11 0 1 := ⟨ce_0, by decide, mt_145⟩
theorem mt_146 : (Jvm.Cond.fieldLink "GrindMill$Clues" (15 : Nat) "GrindMill$Clues" "answers" "[I") ∈ tb := tb_of 146 (by decide +kernel) (by decide +kernel)
theorem fe_X0_15 : FE RX0 15 0 2 := ⟨ce_0, by decide, mt_146⟩
theorem mt_147 : (Jvm.Cond.fieldLink "GrindMill$Clues" (18 : Nat) "GrindMill$Clues" "notes" "[I") ∈ tb := tb_of 147 (by decide +kernel) (by decide +kernel)
theorem fe_X0_18 : FE RX0 18 0 3 := ⟨ce_0, by decide, mt_147⟩
theorem mt_148 : (Jvm.Cond.fieldLink "GrindMill$Clues" (21 : Nat) "GrindMill$Clues" "alike" "[I") ∈ tb := tb_of 148 (by decide +kernel) (by decide +kernel)
theorem fe_X0_21 : FE RX0 21 0 4 := ⟨ce_0, by decide, mt_148⟩
theorem mt_149 : (Jvm.Cond.fieldLink "GrindMill$Clues" (24 : Nat) "GrindMill$Clues" "yields" "[I") ∈ tb := tb_of 149 (by decide +kernel) (by decide +kernel)
theorem fe_X0_24 : FE RX0 24 0 5 := ⟨ce_0, by decide, mt_149⟩
theorem mt_144 : (Jvm.Cond.fieldLink "GrindMill$Clues" (27 : Nat) "GrindMill$Clues" "kinds" "[LGrindMill$Plain;") ∈ tb := tb_of 144 (by decide +kernel) (by decide +kernel)
theorem fe_X0_27 : FE RX0 27 0 0 := ⟨ce_0, by decide, mt_144⟩
theorem mt_150 : (Jvm.Cond.fieldLink "GrindMill$Clues" (31 : Nat) "GrindMill$Clues" "guessCount" "I") ∈ tb := tb_of 150 (by decide +kernel) (by decide +kernel)
theorem fe_X0_31 : FE RX0 31 0 6 := ⟨ce_0, by decide, mt_150⟩
theorem mt_153 : (Jvm.Cond.fieldLink "GrindMill$Clues" (35 : Nat) "GrindMill$Clues" "noteCount" "I") ∈ tb := tb_of 153 (by decide +kernel) (by decide +kernel)
theorem fe_X0_35 : FE RX0 35 0 7 := ⟨ce_0, by decide, mt_153⟩
theorem mt_180 : (Jvm.Cond.fieldLink "GrindMill$Goods" (13 : Nat) "GrindMill$Goods" "kind" "I") ∈ tb := tb_of 180 (by decide +kernel) (by decide +kernel)
theorem fe_X1_13 : FE RX1 13 1 1 := ⟨ce_1, by decide, mt_180⟩
theorem mt_182 : (Jvm.Cond.fieldLink "GrindMill$Goods" (17 : Nat) "GrindMill$Goods" "rate" "I") ∈ tb := tb_of 182 (by decide +kernel) (by decide +kernel)
theorem fe_X1_17 : FE RX1 17 1 2 := ⟨ce_1, by decide, mt_182⟩
theorem mt_184 : (Jvm.Cond.fieldLink "GrindMill$Goods" (20 : Nat) "GrindMill$Goods" "price" "I") ∈ tb := tb_of 184 (by decide +kernel) (by decide +kernel)
theorem fe_X1_20 : FE RX1 20 1 3 := ⟨ce_1, by decide, mt_184⟩
theorem mt_186 : (Jvm.Cond.fieldLink "GrindMill$Goods" (23 : Nat) "GrindMill$Goods" "bushels" "I") ∈ tb := tb_of 186 (by decide +kernel) (by decide +kernel)
theorem fe_X1_23 : FE RX1 23 1 4 := ⟨ce_1, by decide, mt_186⟩
theorem mt_189 : (Jvm.Cond.fieldLink "GrindMill$Goods" (26 : Nat) "GrindMill$Goods" "sold" "I") ∈ tb := tb_of 189 (by decide +kernel) (by decide +kernel)
theorem fe_X1_26 : FE RX1 26 1 5 := ⟨ce_1, by decide, mt_189⟩
theorem mt_179 : (Jvm.Cond.fieldLink "GrindMill$Goods" (7 : Nat) "GrindMill$Goods" "kinds" "[LGrindMill$Plain;") ∈ tb := tb_of 179 (by decide +kernel) (by decide +kernel)
theorem fe_X1_7 : FE RX1 7 1 0 := ⟨ce_1, by decide, mt_179⟩
theorem mt_191 : (Jvm.Cond.fieldLink "GrindMill$House" (109 : Nat) "GrindMill$Goods" "sold" "I") ∈ tb := tb_of 191 (by decide +kernel) (by decide +kernel)
theorem fe_X2_109 : FE RX2 109 1 5 := ⟨ce_1, by decide, mt_191⟩
theorem mt_210 : (Jvm.Cond.fieldLink "GrindMill$House" (11 : Nat) "GrindMill$House" "goods" "[LGrindMill$Goods;") ∈ tb := tb_of 210 (by decide +kernel) (by decide +kernel)
theorem fe_X2_11 : FE RX2 11 2 0 := ⟨ce_2, by decide, mt_210⟩
theorem mt_215 : (Jvm.Cond.fieldLink "GrindMill$House" (17 : Nat) "GrindMill$House" "past" "[I") ∈ tb := tb_of 215 (by decide +kernel) (by decide +kernel)
theorem fe_X2_17 : FE RX2 17 2 2 := ⟨ce_2, by decide, mt_215⟩
theorem mt_213 : (Jvm.Cond.fieldLink "GrindMill$House" (26 : Nat) "GrindMill$House" "clues" "LGrindMill$Clues;") ∈ tb := tb_of 213 (by decide +kernel) (by decide +kernel)
theorem fe_X2_26 : FE RX2 26 2 1 := ⟨ce_2, by decide, mt_213⟩
theorem mt_222 : (Jvm.Cond.fieldLink "GrindMill$House" (35 : Nat) "GrindMill$House" "held" "I") ∈ tb := tb_of 222 (by decide +kernel) (by decide +kernel)
theorem fe_X2_35 : FE RX2 35 2 5 := ⟨ce_2, by decide, mt_222⟩
theorem mt_225 : (Jvm.Cond.fieldLink "GrindMill$House" (39 : Nat) "GrindMill$House" "word" "I") ∈ tb := tb_of 225 (by decide +kernel) (by decide +kernel)
theorem fe_X2_39 : FE RX2 39 2 6 := ⟨ce_2, by decide, mt_225⟩
theorem mt_228 : (Jvm.Cond.fieldLink "GrindMill$House" (42 : Nat) "GrindMill$House" "grinding" "I") ∈ tb := tb_of 228 (by decide +kernel) (by decide +kernel)
theorem fe_X2_42 : FE RX2 42 2 7 := ⟨ce_2, by decide, mt_228⟩
theorem mt_231 : (Jvm.Cond.fieldLink "GrindMill$House" (45 : Nat) "GrindMill$House" "cold" "I") ∈ tb := tb_of 231 (by decide +kernel) (by decide +kernel)
theorem fe_X2_45 : FE RX2 45 2 8 := ⟨ce_2, by decide, mt_231⟩
theorem mt_235 : (Jvm.Cond.fieldLink "GrindMill$House" (48 : Nat) "GrindMill$House" "hour" "I") ∈ tb := tb_of 235 (by decide +kernel) (by decide +kernel)
theorem fe_X2_48 : FE RX2 48 2 9 := ⟨ce_2, by decide, mt_235⟩
theorem mt_237 : (Jvm.Cond.fieldLink "GrindMill$House" (51 : Nat) "GrindMill$House" "spilled" "I") ∈ tb := tb_of 237 (by decide +kernel) (by decide +kernel)
theorem fe_X2_51 : FE RX2 51 2 10 := ⟨ce_2, by decide, mt_237⟩
theorem mt_239 : (Jvm.Cond.fieldLink "GrindMill$House" (54 : Nat) "GrindMill$House" "money" "I") ∈ tb := tb_of 239 (by decide +kernel) (by decide +kernel)
theorem fe_X2_54 : FE RX2 54 2 11 := ⟨ce_2, by decide, mt_239⟩
theorem mt_220 : (Jvm.Cond.fieldLink "GrindMill$House" (57 : Nat) "GrindMill$House" "goodsCount" "I") ∈ tb := tb_of 220 (by decide +kernel) (by decide +kernel)
theorem fe_X2_57 : FE RX2 57 2 4 := ⟨ce_2, by decide, mt_220⟩
theorem mt_216 : (Jvm.Cond.fieldLink "GrindMill$House" (60 : Nat) "GrindMill$House" "pastCount" "I") ∈ tb := tb_of 216 (by decide +kernel) (by decide +kernel)
theorem fe_X2_60 : FE RX2 60 2 3 := ⟨ce_2, by decide, mt_216⟩
theorem mt_151 : (Jvm.Cond.fieldLink "GrindMill$House" (63 : Nat) "GrindMill$Clues" "guessCount" "I") ∈ tb := tb_of 151 (by decide +kernel) (by decide +kernel)
theorem fe_X2_63 : FE RX2 63 0 6 := ⟨ce_0, by decide, mt_151⟩
theorem mt_154 : (Jvm.Cond.fieldLink "GrindMill$House" (66 : Nat) "GrindMill$Clues" "noteCount" "I") ∈ tb := tb_of 154 (by decide +kernel) (by decide +kernel)
theorem fe_X2_66 : FE RX2 66 0 7 := ⟨ce_0, by decide, mt_154⟩
theorem mt_187 : (Jvm.Cond.fieldLink "GrindMill$House" (86 : Nat) "GrindMill$Goods" "bushels" "I") ∈ tb := tb_of 187 (by decide +kernel) (by decide +kernel)
theorem fe_X2_86 : FE RX2 86 1 4 := ⟨ce_1, by decide, mt_187⟩
theorem mt_300 : (Jvm.Cond.fieldLink "GrindMill$Plans" (15 : Nat) "GrindMill$Plans" "yields" "[I") ∈ tb := tb_of 300 (by decide +kernel) (by decide +kernel)
theorem fe_X7_15 : FE RX7 15 7 1 := ⟨ce_7, by decide, mt_300⟩
theorem mt_301 : (Jvm.Cond.fieldLink "GrindMill$Plans" (18 : Nat) "GrindMill$Plans" "fewest" "[I") ∈ tb := tb_of 301 (by decide +kernel) (by decide +kernel)
theorem fe_X7_18 : FE RX7 18 7 2 := ⟨ce_7, by decide, mt_301⟩
theorem mt_302 : (Jvm.Cond.fieldLink "GrindMill$Plans" (23 : Nat) "GrindMill$Plans" "gains" "[[I") ∈ tb := tb_of 302 (by decide +kernel) (by decide +kernel)
theorem fe_X7_23 : FE RX7 23 7 3 := ⟨ce_7, by decide, mt_302⟩
theorem mt_303 : (Jvm.Cond.fieldLink "GrindMill$Plans" (26 : Nat) "GrindMill$Plans" "most" "[[I") ∈ tb := tb_of 303 (by decide +kernel) (by decide +kernel)
theorem fe_X7_26 : FE RX7 26 7 4 := ⟨ce_7, by decide, mt_303⟩
theorem mt_304 : (Jvm.Cond.fieldLink "GrindMill$Plans" (29 : Nat) "GrindMill$Plans" "alone" "[I") ∈ tb := tb_of 304 (by decide +kernel) (by decide +kernel)
theorem fe_X7_29 : FE RX7 29 7 5 := ⟨ce_7, by decide, mt_304⟩
theorem mt_305 : (Jvm.Cond.fieldLink "GrindMill$Plans" (32 : Nat) "GrindMill$Plans" "firstOfTwo" "[I") ∈ tb := tb_of 305 (by decide +kernel) (by decide +kernel)
theorem fe_X7_32 : FE RX7 32 7 6 := ⟨ce_7, by decide, mt_305⟩
theorem mt_306 : (Jvm.Cond.fieldLink "GrindMill$Plans" (35 : Nat) "GrindMill$Plans" "secondOfTwo" "[I") ∈ tb := tb_of 306 (by decide +kernel) (by decide +kernel)
theorem fe_X7_35 : FE RX7 35 7 7 := ⟨ce_7, by decide, mt_306⟩
theorem mt_218 : (Jvm.Cond.fieldLink "GrindMill$Plans" (42 : Nat) "GrindMill$House" "goodsCount" "I") ∈ tb := tb_of 218 (by decide +kernel) (by decide +kernel)
theorem fe_X7_42 : FE RX7 42 2 4 := ⟨ce_2, by decide, mt_218⟩
theorem mt_211 : (Jvm.Cond.fieldLink "GrindMill$Plans" (56 : Nat) "GrindMill$House" "goods" "[LGrindMill$Goods;") ∈ tb := tb_of 211 (by decide +kernel) (by decide +kernel)
theorem fe_X7_56 : FE RX7 56 2 0 := ⟨ce_2, by decide, mt_211⟩
theorem mt_232 : (Jvm.Cond.fieldLink "GrindMill$Plans" (60 : Nat) "GrindMill$House" "cold" "I") ∈ tb := tb_of 232 (by decide +kernel) (by decide +kernel)
theorem fe_X7_60 : FE RX7 60 2 8 := ⟨ce_2, by decide, mt_232⟩
theorem mt_190 : (Jvm.Cond.fieldLink "GrindMill$Plans" (84 : Nat) "GrindMill$Goods" "sold" "I") ∈ tb := tb_of 190 (by decide +kernel) (by decide +kernel)
theorem fe_X7_84 : FE RX7 84 1 5 := ⟨ce_1, by decide, mt_190⟩
theorem mt_298 : (Jvm.Cond.fieldLink "GrindMill$Plans" (9 : Nat) "GrindMill$Plans" "way" "[I") ∈ tb := tb_of 298 (by decide +kernel) (by decide +kernel)
theorem fe_X7_9 : FE RX7 9 7 0 := ⟨ce_7, by decide, mt_298⟩
theorem mt_273 : (Jvm.Cond.fieldLink "GrindMill$Text" (11 : Nat) "GrindMill$Text" "bytes" "[B") ∈ tb := tb_of 273 (by decide +kernel) (by decide +kernel)
theorem fe_X10_11 : FE RX10 11 10 0 := ⟨ce_10, by decide, mt_273⟩
theorem mt_274 : (Jvm.Cond.fieldLink "GrindMill$Text" (15 : Nat) "GrindMill$Text" "length" "I") ∈ tb := tb_of 274 (by decide +kernel) (by decide +kernel)
theorem fe_X10_15 : FE RX10 15 10 1 := ⟨ce_10, by decide, mt_274⟩
theorem mt_278 : (Jvm.Cond.fieldLink "GrindMill$Text" (19 : Nat) "GrindMill$Text" "at" "I") ∈ tb := tb_of 278 (by decide +kernel) (by decide +kernel)
theorem fe_X10_19 : FE RX10 19 10 3 := ⟨ce_10, by decide, mt_278⟩
theorem mt_276 : (Jvm.Cond.fieldLink "GrindMill$Text" (22 : Nat) "GrindMill$Text" "fault" "I") ∈ tb := tb_of 276 (by decide +kernel) (by decide +kernel)
theorem fe_X10_22 : FE RX10 22 10 2 := ⟨ce_10, by decide, mt_276⟩
theorem mt_223 : (Jvm.Cond.fieldLink "GrindMill$Text" (54 : Nat) "GrindMill$House" "held" "I") ∈ tb := tb_of 223 (by decide +kernel) (by decide +kernel)
theorem fe_X10_54 : FE RX10 54 2 5 := ⟨ce_2, by decide, mt_223⟩
theorem mt_221 : (Jvm.Cond.fieldLink "GrindMill$Text" (71 : Nat) "GrindMill$House" "goodsCount" "I") ∈ tb := tb_of 221 (by decide +kernel) (by decide +kernel)
theorem fe_X10_71 : FE RX10 71 2 4 := ⟨ce_2, by decide, mt_221⟩
theorem mt_229 : (Jvm.Cond.fieldLink "GrindMill$Text" (74 : Nat) "GrindMill$House" "grinding" "I") ∈ tb := tb_of 229 (by decide +kernel) (by decide +kernel)
theorem fe_X10_74 : FE RX10 74 2 7 := ⟨ce_2, by decide, mt_229⟩
theorem mt_227 : (Jvm.Cond.fieldLink "GrindMill$Text" (79 : Nat) "GrindMill$House" "word" "I") ∈ tb := tb_of 227 (by decide +kernel) (by decide +kernel)
theorem fe_X10_79 : FE RX10 79 2 6 := ⟨ce_2, by decide, mt_227⟩
theorem mt_233 : (Jvm.Cond.fieldLink "GrindMill$Text" (83 : Nat) "GrindMill$House" "cold" "I") ∈ tb := tb_of 233 (by decide +kernel) (by decide +kernel)
theorem fe_X10_83 : FE RX10 83 2 8 := ⟨ce_2, by decide, mt_233⟩
theorem mt_277 : (Jvm.Cond.fieldLink "GrindMill" (109 : Nat) "GrindMill$Text" "fault" "I") ∈ tb := tb_of 277 (by decide +kernel) (by decide +kernel)
theorem fe_X11_109 : FE RX11 109 10 2 := ⟨ce_10, by decide, mt_277⟩
theorem mt_230 : (Jvm.Cond.fieldLink "GrindMill" (122 : Nat) "GrindMill$House" "grinding" "I") ∈ tb := tb_of 230 (by decide +kernel) (by decide +kernel)
theorem fe_X11_122 : FE RX11 122 2 7 := ⟨ce_2, by decide, mt_230⟩
theorem mt_212 : (Jvm.Cond.fieldLink "GrindMill" (132 : Nat) "GrindMill$House" "goods" "[LGrindMill$Goods;") ∈ tb := tb_of 212 (by decide +kernel) (by decide +kernel)
theorem fe_X11_132 : FE RX11 132 2 0 := ⟨ce_2, by decide, mt_212⟩
theorem mt_188 : (Jvm.Cond.fieldLink "GrindMill" (136 : Nat) "GrindMill$Goods" "bushels" "I") ∈ tb := tb_of 188 (by decide +kernel) (by decide +kernel)
theorem fe_X11_136 : FE RX11 136 1 4 := ⟨ce_1, by decide, mt_188⟩
theorem mt_240 : (Jvm.Cond.fieldLink "GrindMill" (144 : Nat) "GrindMill$House" "money" "I") ∈ tb := tb_of 240 (by decide +kernel) (by decide +kernel)
theorem fe_X11_144 : FE RX11 144 2 11 := ⟨ce_2, by decide, mt_240⟩
theorem mt_234 : (Jvm.Cond.fieldLink "GrindMill" (147 : Nat) "GrindMill$House" "cold" "I") ∈ tb := tb_of 234 (by decide +kernel) (by decide +kernel)
theorem fe_X11_147 : FE RX11 147 2 8 := ⟨ce_2, by decide, mt_234⟩
theorem mt_217 : (Jvm.Cond.fieldLink "GrindMill" (150 : Nat) "GrindMill$House" "pastCount" "I") ∈ tb := tb_of 217 (by decide +kernel) (by decide +kernel)
theorem fe_X11_150 : FE RX11 150 2 3 := ⟨ce_2, by decide, mt_217⟩
theorem mt_236 : (Jvm.Cond.fieldLink "GrindMill" (156 : Nat) "GrindMill$House" "hour" "I") ∈ tb := tb_of 236 (by decide +kernel) (by decide +kernel)
theorem fe_X11_156 : FE RX11 156 2 9 := ⟨ce_2, by decide, mt_236⟩
theorem mt_181 : (Jvm.Cond.fieldLink "GrindMill" (159 : Nat) "GrindMill$Goods" "kind" "I") ∈ tb := tb_of 181 (by decide +kernel) (by decide +kernel)
theorem fe_X11_159 : FE RX11 159 1 1 := ⟨ce_1, by decide, mt_181⟩
theorem mt_183 : (Jvm.Cond.fieldLink "GrindMill" (162 : Nat) "GrindMill$Goods" "rate" "I") ∈ tb := tb_of 183 (by decide +kernel) (by decide +kernel)
theorem fe_X11_162 : FE RX11 162 1 2 := ⟨ce_1, by decide, mt_183⟩
theorem mt_185 : (Jvm.Cond.fieldLink "GrindMill" (165 : Nat) "GrindMill$Goods" "price" "I") ∈ tb := tb_of 185 (by decide +kernel) (by decide +kernel)
theorem fe_X11_165 : FE RX11 165 1 3 := ⟨ce_1, by decide, mt_185⟩
theorem mt_192 : (Jvm.Cond.fieldLink "GrindMill" (168 : Nat) "GrindMill$Goods" "sold" "I") ∈ tb := tb_of 192 (by decide +kernel) (by decide +kernel)
theorem fe_X11_168 : FE RX11 168 1 5 := ⟨ce_1, by decide, mt_192⟩
theorem mt_224 : (Jvm.Cond.fieldLink "GrindMill" (183 : Nat) "GrindMill$House" "held" "I") ∈ tb := tb_of 224 (by decide +kernel) (by decide +kernel)
theorem fe_X11_183 : FE RX11 183 2 5 := ⟨ce_2, by decide, mt_224⟩
theorem mt_238 : (Jvm.Cond.fieldLink "GrindMill" (191 : Nat) "GrindMill$House" "spilled" "I") ∈ tb := tb_of 238 (by decide +kernel) (by decide +kernel)
theorem fe_X11_191 : FE RX11 191 2 10 := ⟨ce_2, by decide, mt_238⟩
theorem mt_299 : (Jvm.Cond.fieldLink "GrindMill" (201 : Nat) "GrindMill$Plans" "way" "[I") ∈ tb := tb_of 299 (by decide +kernel) (by decide +kernel)
theorem fe_X11_201 : FE RX11 201 7 0 := ⟨ce_7, by decide, mt_299⟩
theorem mt_214 : (Jvm.Cond.fieldLink "GrindMill" (207 : Nat) "GrindMill$House" "clues" "LGrindMill$Clues;") ∈ tb := tb_of 214 (by decide +kernel) (by decide +kernel)
theorem fe_X11_207 : FE RX11 207 2 1 := ⟨ce_2, by decide, mt_214⟩
theorem mt_152 : (Jvm.Cond.fieldLink "GrindMill" (211 : Nat) "GrindMill$Clues" "guessCount" "I") ∈ tb := tb_of 152 (by decide +kernel) (by decide +kernel)
theorem fe_X11_211 : FE RX11 211 0 6 := ⟨ce_0, by decide, mt_152⟩
theorem mt_155 : (Jvm.Cond.fieldLink "GrindMill" (238 : Nat) "GrindMill$Clues" "noteCount" "I") ∈ tb := tb_of 155 (by decide +kernel) (by decide +kernel)
theorem fe_X11_238 : FE RX11 238 0 7 := ⟨ce_0, by decide, mt_155⟩
theorem mt_329 : (Jvm.Cond.fieldLink "GrindMill" (30 : Nat) "GrindMill" "now" "LGrindMill$House;") ∈ tb := tb_of 329 (by decide +kernel) (by decide +kernel)
theorem fe_X11_30 : FE RX11 30 11 5 := ⟨ce_11, by decide, mt_329⟩
theorem mt_330 : (Jvm.Cond.fieldLink "GrindMill" (36 : Nat) "GrindMill" "spare" "LGrindMill$House;") ∈ tb := tb_of 330 (by decide +kernel) (by decide +kernel)
theorem fe_X11_36 : FE RX11 36 11 6 := ⟨ce_11, by decide, mt_330⟩
theorem mt_324 : (Jvm.Cond.fieldLink "GrindMill" (39 : Nat) "GrindMill" "images" "[LGrindMill$House;") ∈ tb := tb_of 324 (by decide +kernel) (by decide +kernel)
theorem fe_X11_39 : FE RX11 39 11 0 := ⟨ce_11, by decide, mt_324⟩
theorem mt_325 : (Jvm.Cond.fieldLink "GrindMill" (43 : Nat) "GrindMill" "kept" "[Z") ∈ tb := tb_of 325 (by decide +kernel) (by decide +kernel)
theorem fe_X11_43 : FE RX11 43 11 1 := ⟨ce_11, by decide, mt_325⟩
theorem mt_326 : (Jvm.Cond.fieldLink "GrindMill" (50 : Nat) "GrindMill" "text" "LGrindMill$Text;") ∈ tb := tb_of 326 (by decide +kernel) (by decide +kernel)
theorem fe_X11_50 : FE RX11 50 11 2 := ⟨ce_11, by decide, mt_326⟩
theorem mt_327 : (Jvm.Cond.fieldLink "GrindMill" (57 : Nat) "GrindMill" "plans" "LGrindMill$Plans;") ∈ tb := tb_of 327 (by decide +kernel) (by decide +kernel)
theorem fe_X11_57 : FE RX11 57 11 3 := ⟨ce_11, by decide, mt_327⟩
theorem mt_328 : (Jvm.Cond.fieldLink "GrindMill" (61 : Nat) "GrindMill" "refused" "[I") ∈ tb := tb_of 328 (by decide +kernel) (by decide +kernel)
theorem fe_X11_61 : FE RX11 61 11 4 := ⟨ce_11, by decide, mt_328⟩
theorem mt_331 : (Jvm.Cond.fieldLink "GrindMill" (65 : Nat) "GrindMill" "above" "J") ∈ tb := tb_of 331 (by decide +kernel) (by decide +kernel)
theorem fe_X11_65 : FE RX11 65 11 7 := ⟨ce_11, by decide, mt_331⟩
theorem mt_332 : (Jvm.Cond.fieldLink "GrindMill" (69 : Nat) "GrindMill" "below" "J") ∈ tb := tb_of 332 (by decide +kernel) (by decide +kernel)
theorem fe_X11_69 : FE RX11 69 11 8 := ⟨ce_11, by decide, mt_332⟩
theorem mt_219 : (Jvm.Cond.fieldLink "GrindMill" (80 : Nat) "GrindMill$House" "goodsCount" "I") ∈ tb := tb_of 219 (by decide +kernel) (by decide +kernel)
theorem fe_X11_80 : FE RX11 80 2 4 := ⟨ce_2, by decide, mt_219⟩
theorem mt_226 : (Jvm.Cond.fieldLink "GrindMill" (96 : Nat) "GrindMill$House" "word" "I") ∈ tb := tb_of 226 (by decide +kernel) (by decide +kernel)
theorem fe_X11_96 : FE RX11 96 2 6 := ⟨ce_2, by decide, mt_226⟩
theorem mt_275 : (Jvm.Cond.fieldLink "GrindMill" (99 : Nat) "GrindMill$Text" "length" "I") ∈ tb := tb_of 275 (by decide +kernel) (by decide +kernel)
theorem fe_X11_99 : FE RX11 99 10 1 := ⟨ce_10, by decide, mt_275⟩
theorem mt_904 : (Jvm.Cond.fieldLink "GrindMillModel" (101 : Nat) "GrindMillModel" "readGrinds" "I") ∈ tb := tb_of 904 (by decide +kernel) (by decide +kernel)
theorem fe_X12_101 : FE RX12 101 12 13 := ⟨ce_12, by decide, mt_904⟩
theorem mt_902 : (Jvm.Cond.fieldLink "GrindMillModel" (104 : Nat) "GrindMillModel" "readWord" "I") ∈ tb := tb_of 902 (by decide +kernel) (by decide +kernel)
theorem fe_X12_104 : FE RX12 104 12 11 := ⟨ce_12, by decide, mt_902⟩
theorem mt_903 : (Jvm.Cond.fieldLink "GrindMillModel" (107 : Nat) "GrindMillModel" "readCold" "I") ∈ tb := tb_of 903 (by decide +kernel) (by decide +kernel)
theorem fe_X12_107 : FE RX12 107 12 12 := ⟨ce_12, by decide, mt_903⟩
theorem mt_892 : (Jvm.Cond.fieldLink "GrindMillModel" (13 : Nat) "GrindMillModel" "isKept" "[Z") ∈ tb := tb_of 892 (by decide +kernel) (by decide +kernel)
theorem fe_X12_13 : FE RX12 13 12 1 := ⟨ce_12, by decide, mt_892⟩
theorem mt_893 : (Jvm.Cond.fieldLink "GrindMillModel" (17 : Nat) "GrindMillModel" "refused" "[I") ∈ tb := tb_of 893 (by decide +kernel) (by decide +kernel)
theorem fe_X12_17 : FE RX12 17 12 2 := ⟨ce_12, by decide, mt_893⟩
theorem mt_894 : (Jvm.Cond.fieldLink "GrindMillModel" (186 : Nat) "GrindMillModel" "above" "J") ∈ tb := tb_of 894 (by decide +kernel) (by decide +kernel)
theorem fe_X12_186 : FE RX12 186 12 3 := ⟨ce_12, by decide, mt_894⟩
theorem mt_895 : (Jvm.Cond.fieldLink "GrindMillModel" (20 : Nat) "GrindMillModel" "below" "J") ∈ tb := tb_of 895 (by decide +kernel) (by decide +kernel)
theorem fe_X12_20 : FE RX12 20 12 4 := ⟨ce_12, by decide, mt_895⟩
theorem mt_896 : (Jvm.Cond.fieldLink "GrindMillModel" (24 : Nat) "GrindMillModel" "text" "[I") ∈ tb := tb_of 896 (by decide +kernel) (by decide +kernel)
theorem fe_X12_24 : FE RX12 24 12 5 := ⟨ce_12, by decide, mt_896⟩
theorem mt_898 : (Jvm.Cond.fieldLink "GrindMillModel" (27 : Nat) "GrindMillModel" "words" "[I") ∈ tb := tb_of 898 (by decide +kernel) (by decide +kernel)
theorem fe_X12_27 : FE RX12 27 12 7 := ⟨ce_12, by decide, mt_898⟩
theorem mt_905 : (Jvm.Cond.fieldLink "GrindMillModel" (30 : Nat) "GrindMillModel" "readGoods" "[I") ∈ tb := tb_of 905 (by decide +kernel) (by decide +kernel)
theorem fe_X12_30 : FE RX12 30 12 14 := ⟨ce_12, by decide, mt_905⟩
theorem mt_907 : (Jvm.Cond.fieldLink "GrindMillModel" (33 : Nat) "GrindMillModel" "fewest" "[I") ∈ tb := tb_of 907 (by decide +kernel) (by decide +kernel)
theorem fe_X12_33 : FE RX12 33 12 16 := ⟨ce_12, by decide, mt_907⟩
theorem mt_908 : (Jvm.Cond.fieldLink "GrindMillModel" (36 : Nat) "GrindMillModel" "richest" "[I") ∈ tb := tb_of 908 (by decide +kernel) (by decide +kernel)
theorem fe_X12_36 : FE RX12 36 12 17 := ⟨ce_12, by decide, mt_908⟩
theorem mt_909 : (Jvm.Cond.fieldLink "GrindMillModel" (39 : Nat) "GrindMillModel" "likes" "[I") ∈ tb := tb_of 909 (by decide +kernel) (by decide +kernel)
theorem fe_X12_39 : FE RX12 39 12 18 := ⟨ce_12, by decide, mt_909⟩
theorem mt_910 : (Jvm.Cond.fieldLink "GrindMillModel" (42 : Nat) "GrindMillModel" "firstMoney" "[I") ∈ tb := tb_of 910 (by decide +kernel) (by decide +kernel)
theorem fe_X12_42 : FE RX12 42 12 19 := ⟨ce_12, by decide, mt_910⟩
theorem mt_911 : (Jvm.Cond.fieldLink "GrindMillModel" (45 : Nat) "GrindMillModel" "otherMoney" "[I") ∈ tb := tb_of 911 (by decide +kernel) (by decide +kernel)
theorem fe_X12_45 : FE RX12 45 12 20 := ⟨ce_12, by decide, mt_911⟩
theorem mt_897 : (Jvm.Cond.fieldLink "GrindMillModel" (64 : Nat) "GrindMillModel" "length" "I") ∈ tb := tb_of 897 (by decide +kernel) (by decide +kernel)
theorem fe_X12_64 : FE RX12 64 12 6 := ⟨ce_12, by decide, mt_897⟩
theorem mt_900 : (Jvm.Cond.fieldLink "GrindMillModel" (68 : Nat) "GrindMillModel" "behind" "I") ∈ tb := tb_of 900 (by decide +kernel) (by decide +kernel)
theorem fe_X12_68 : FE RX12 68 12 9 := ⟨ce_12, by decide, mt_900⟩
theorem mt_891 : (Jvm.Cond.fieldLink "GrindMillModel" (7 : Nat) "GrindMillModel" "row" "[I") ∈ tb := tb_of 891 (by decide +kernel) (by decide +kernel)
theorem fe_X12_7 : FE RX12 7 12 0 := ⟨ce_12, by decide, mt_891⟩
theorem mt_899 : (Jvm.Cond.fieldLink "GrindMillModel" (71 : Nat) "GrindMillModel" "at" "I") ∈ tb := tb_of 899 (by decide +kernel) (by decide +kernel)
theorem fe_X12_71 : FE RX12 71 12 8 := ⟨ce_12, by decide, mt_899⟩
theorem mt_906 : (Jvm.Cond.fieldLink "GrindMillModel" (87 : Nat) "GrindMillModel" "readMany" "I") ∈ tb := tb_of 906 (by decide +kernel) (by decide +kernel)
theorem fe_X12_87 : FE RX12 87 12 15 := ⟨ce_12, by decide, mt_906⟩
theorem mt_901 : (Jvm.Cond.fieldLink "GrindMillModel" (94 : Nat) "GrindMillModel" "readHolds" "I") ∈ tb := tb_of 901 (by decide +kernel) (by decide +kernel)
theorem fe_X12_94 : FE RX12 94 12 10 := ⟨ce_12, by decide, mt_901⟩
theorem mt_729 : (Jvm.Cond.methodLink "GrindMill$Clues" (59 : Nat) ({ cls := "java/lang/Math", name := "max", desc := "(II)I" } : Jvm.MethodName)) ∈ tb := tb_of 729 (by decide +kernel) (by decide +kernel)
theorem mm_X0_59 : Cond.methodLink RX0 59 Lib.Math.max.name ∈ tb := mt_729
theorem mt_686 : (Jvm.Cond.static ({ cls := "java/lang/Math", name := "max", desc := "(II)I" } : Jvm.MethodName)) ∈ tb := tb_of 686 (by decide +kernel) (by decide +kernel)
theorem mms_mmax : Cond.static Lib.Math.max.name ∈ tb := mt_686
theorem mt_687 : (Jvm.Cond.code ({ cls := "java/lang/Math", name := "max", desc := "(II)I" } : Jvm.MethodName) prog_16_method_65_code (2 : Nat) (Option.some Jvm.ClassFile.FieldType.int)) ∈ tb := tb_of 687 (by decide +kernel) (by decide +kernel)
theorem mmc_mmax : Cond.code Lib.Math.max.name Lib.Math.max.code 2 (some .int) ∈ tb := tb_of 687 (by decide +kernel) (by decide +kernel)
theorem mt_76 : (Jvm.Cond.initialized "java/lang/Math") ∈ tb := tb_of 76 (by decide +kernel) (by decide +kernel)
theorem mmi : Cond.initialized "java/lang/Math" ∈ tb := mt_76
theorem mt_559 : (Jvm.Cond.methodLink "GrindMill$House" (104 : Nat) ({ cls := "java/lang/Math", name := "min", desc := "(II)I" } : Jvm.MethodName)) ∈ tb := tb_of 559 (by decide +kernel) (by decide +kernel)
theorem mm_X2_104 : Cond.methodLink RX2 104 Lib.Math.min.name ∈ tb := mt_559
theorem mt_475 : (Jvm.Cond.static ({ cls := "java/lang/Math", name := "min", desc := "(II)I" } : Jvm.MethodName)) ∈ tb := tb_of 475 (by decide +kernel) (by decide +kernel)
theorem mms_mmin : Cond.static Lib.Math.min.name ∈ tb := mt_475
theorem mt_476 : (Jvm.Cond.code ({ cls := "java/lang/Math", name := "min", desc := "(II)I" } : Jvm.MethodName) prog_16_method_69_code (2 : Nat) (Option.some Jvm.ClassFile.FieldType.int)) ∈ tb := tb_of 476 (by decide +kernel) (by decide +kernel)
theorem mmc_mmin : Cond.code Lib.Math.min.name Lib.Math.min.code 2 (some .int) ∈ tb := tb_of 476 (by decide +kernel) (by decide +kernel)
theorem mt_663 : (Jvm.Cond.methodLink "GrindMill$Plans" (69 : Nat) ({ cls := "java/lang/Math", name := "min", desc := "(II)I" } : Jvm.MethodName)) ∈ tb := tb_of 663 (by decide +kernel) (by decide +kernel)
theorem mm_X7_69 : Cond.methodLink RX7 69 Lib.Math.min.name ∈ tb := mt_663
theorem mt_685 : (Jvm.Cond.methodLink "GrindMill$Plans" (81 : Nat) ({ cls := "java/lang/Math", name := "max", desc := "(II)I" } : Jvm.MethodName)) ∈ tb := tb_of 685 (by decide +kernel) (by decide +kernel)
theorem mm_X7_81 : Cond.methodLink RX7 81 Lib.Math.max.name ∈ tb := mt_685
theorem mt_474 : (Jvm.Cond.methodLink "GrindMill$Text" (93 : Nat) ({ cls := "java/lang/Math", name := "min", desc := "(II)I" } : Jvm.MethodName)) ∈ tb := tb_of 474 (by decide +kernel) (by decide +kernel)
theorem mm_X10_93 : Cond.methodLink RX10 93 Lib.Math.min.name ∈ tb := mt_474
theorem mt_640 : (Jvm.Cond.methodLink "GrindMill" (186 : Nat) ({ cls := "java/lang/Math", name := "min", desc := "(II)I" } : Jvm.MethodName)) ∈ tb := tb_of 640 (by decide +kernel) (by decide +kernel)
theorem mm_X11_186 : Cond.methodLink RX11 186 Lib.Math.min.name ∈ tb := mt_640
theorem mt_809 : (Jvm.Cond.methodLink "GrindMill" (260 : Nat) ({ cls := "java/lang/Math", name := "max", desc := "(JJ)J" } : Jvm.MethodName)) ∈ tb := tb_of 809 (by decide +kernel) (by decide +kernel)
theorem mm_X11_260 : Cond.methodLink RX11 260 Lib.MathLoose.max_long.x ∈ tb := mt_809
theorem mt_810 : (Jvm.Cond.static ({ cls := "java/lang/Math", name := "max", desc := "(JJ)J" } : Jvm.MethodName)) ∈ tb := tb_of 810 (by decide +kernel) (by decide +kernel)
theorem mms_mmax_long : Cond.static Lib.MathLoose.max_long.x ∈ tb := mt_810
theorem mt_811 : (Jvm.Cond.code ({ cls := "java/lang/Math", name := "max", desc := "(JJ)J" } : Jvm.MethodName) prog_16_method_66_code (4 : Nat) (Option.some Jvm.ClassFile.FieldType.long)) ∈ tb := tb_of 811 (by decide +kernel) (by decide +kernel)
theorem mmc_mmax_long : Cond.code Lib.MathLoose.max_long.x Lib.MathLoose.max_long.code 4 (some .long) ∈ tb := tb_of 811 (by decide +kernel) (by decide +kernel)
theorem mt_63 : (Jvm.Cond.initialized "GrindMill$Mills") ∈ tb := tb_of 63 (by decide +kernel) (by decide +kernel)
theorem mt_539 : (Jvm.Cond.instanceMethod ({ cls := "GrindMill$Mills", name := "ground", desc := "(III)I" } : Jvm.MethodName)) ∈ tb := tb_of 539 (by decide +kernel) (by decide +kernel)
theorem mt_538 : (Jvm.Cond.selects "GrindMill$Mills" ({ cls := "GrindMill$Plain", name := "ground", desc := "(III)I" } : Jvm.MethodName) ({ cls := "GrindMill$Mills", name := "ground", desc := "(III)I" } : Jvm.MethodName)) ∈ tb := tb_of 538 (by decide +kernel) (by decide +kernel)
theorem mt_535 : (Jvm.Cond.instanceMethod ({ cls := "GrindMill$Plain", name := "ground", desc := "(III)I" } : Jvm.MethodName)) ∈ tb := tb_of 535 (by decide +kernel) (by decide +kernel)
theorem mt_537 : (Jvm.Cond.sameMethod "GrindMill$Plain" "GrindMill$Plain" "ground" "(III)I") ∈ tb := tb_of 537 (by decide +kernel) (by decide +kernel)
theorem mt_779 : (Jvm.Cond.methodLink "GrindMill$Clues" (64 : Nat) ({ cls := "GrindMill$Plain", name := "ground", desc := "(III)I" } : Jvm.MethodName)) ∈ tb := tb_of 779 (by decide +kernel) (by decide +kernel)
theorem mt_554 : (Jvm.Cond.code ({ cls := "GrindMill$Plain", name := "ground", desc := "(III)I" } : Jvm.MethodName) prog_8_method_2_code (4 : Nat) (Option.some Jvm.ClassFile.FieldType.int)) ∈ tb := tb_of 554 (by decide +kernel) (by decide +kernel)
theorem ue_X0_64_3 : UE RX0 64 ({ cls := "GrindMill$Plain", name := "ground", desc := "(III)I" } : Jvm.MethodName) yX3_ground 3 := ⟨ce_3, "GrindMill$Plain", by decide, by decide, rfl, Or.inr ⟨(List.forall_mem_cons.mpr ⟨mt_779, (List.forall_mem_cons.mpr ⟨mt_537, (List.forall_mem_cons.mpr ⟨mt_535, (List.forall_mem_cons.mpr ⟨mt_538, (List.forall_mem_cons.mpr ⟨mt_539, (List.forall_mem_cons.mpr ⟨mt_63, (fun _ h => absurd h List.not_mem_nil)⟩)⟩)⟩)⟩)⟩)⟩), _, _, _, mt_554⟩⟩
theorem mt_65 : (Jvm.Cond.initialized "GrindMill$Nothing") ∈ tb := tb_of 65 (by decide +kernel) (by decide +kernel)
theorem mt_543 : (Jvm.Cond.instanceMethod ({ cls := "GrindMill$Nothing", name := "ground", desc := "(III)I" } : Jvm.MethodName)) ∈ tb := tb_of 543 (by decide +kernel) (by decide +kernel)
theorem mt_542 : (Jvm.Cond.selects "GrindMill$Nothing" ({ cls := "GrindMill$Plain", name := "ground", desc := "(III)I" } : Jvm.MethodName) ({ cls := "GrindMill$Nothing", name := "ground", desc := "(III)I" } : Jvm.MethodName)) ∈ tb := tb_of 542 (by decide +kernel) (by decide +kernel)
theorem ue_X0_64_4 : UE RX0 64 ({ cls := "GrindMill$Plain", name := "ground", desc := "(III)I" } : Jvm.MethodName) yX4_ground 4 := ⟨ce_4, "GrindMill$Plain", by decide, by decide, rfl, Or.inr ⟨(List.forall_mem_cons.mpr ⟨mt_779, (List.forall_mem_cons.mpr ⟨mt_537, (List.forall_mem_cons.mpr ⟨mt_535, (List.forall_mem_cons.mpr ⟨mt_542, (List.forall_mem_cons.mpr ⟨mt_543, (List.forall_mem_cons.mpr ⟨mt_65, (fun _ h => absurd h List.not_mem_nil)⟩)⟩)⟩)⟩)⟩)⟩), _, _, _, mt_554⟩⟩
theorem mt_60 : (Jvm.Cond.initialized "GrindMill$Plain") ∈ tb := tb_of 60 (by decide +kernel) (by decide +kernel)
theorem mt_545 : (Jvm.Cond.selects "GrindMill$Peace" ({ cls := "GrindMill$Plain", name := "ground", desc := "(III)I" } : Jvm.MethodName) ({ cls := "GrindMill$Plain", name := "ground", desc := "(III)I" } : Jvm.MethodName)) ∈ tb := tb_of 545 (by decide +kernel) (by decide +kernel)
theorem ue_X0_64_5 : UE RX0 64 ({ cls := "GrindMill$Plain", name := "ground", desc := "(III)I" } : Jvm.MethodName) yX6_ground 5 := ⟨ce_5, "GrindMill$Plain", by decide, by decide, rfl, Or.inl ⟨rfl, (List.forall_mem_cons.mpr ⟨mt_779, (List.forall_mem_cons.mpr ⟨mt_537, (List.forall_mem_cons.mpr ⟨mt_545, (List.forall_mem_cons.mpr ⟨mt_535, (List.forall_mem_cons.mpr ⟨mt_60, (fun _ h => absurd h List.not_mem_nil)⟩)⟩)⟩)⟩)⟩)⟩⟩
theorem mt_536 : (Jvm.Cond.selects "GrindMill$Plain" ({ cls := "GrindMill$Plain", name := "ground", desc := "(III)I" } : Jvm.MethodName) ({ cls := "GrindMill$Plain", name := "ground", desc := "(III)I" } : Jvm.MethodName)) ∈ tb := tb_of 536 (by decide +kernel) (by decide +kernel)
theorem ue_X0_64_6 : UE RX0 64 ({ cls := "GrindMill$Plain", name := "ground", desc := "(III)I" } : Jvm.MethodName) yX6_ground 6 := ⟨ce_6, "GrindMill$Plain", by decide, by decide, rfl, Or.inl ⟨rfl, (List.forall_mem_cons.mpr ⟨mt_779, (List.forall_mem_cons.mpr ⟨mt_537, (List.forall_mem_cons.mpr ⟨mt_536, (List.forall_mem_cons.mpr ⟨mt_535, (List.forall_mem_cons.mpr ⟨mt_60, (fun _ h => absurd h List.not_mem_nil)⟩)⟩)⟩)⟩)⟩)⟩⟩
theorem mt_64 : (Jvm.Cond.initialized "GrindMill$Salt") ∈ tb := tb_of 64 (by decide +kernel) (by decide +kernel)
theorem mt_547 : (Jvm.Cond.instanceMethod ({ cls := "GrindMill$Salt", name := "ground", desc := "(III)I" } : Jvm.MethodName)) ∈ tb := tb_of 547 (by decide +kernel) (by decide +kernel)
theorem mt_546 : (Jvm.Cond.selects "GrindMill$Salt" ({ cls := "GrindMill$Plain", name := "ground", desc := "(III)I" } : Jvm.MethodName) ({ cls := "GrindMill$Salt", name := "ground", desc := "(III)I" } : Jvm.MethodName)) ∈ tb := tb_of 546 (by decide +kernel) (by decide +kernel)
theorem ue_X0_64_8 : UE RX0 64 ({ cls := "GrindMill$Plain", name := "ground", desc := "(III)I" } : Jvm.MethodName) yX8_ground 8 := ⟨ce_8, "GrindMill$Plain", by decide, by decide, rfl, Or.inr ⟨(List.forall_mem_cons.mpr ⟨mt_779, (List.forall_mem_cons.mpr ⟨mt_537, (List.forall_mem_cons.mpr ⟨mt_535, (List.forall_mem_cons.mpr ⟨mt_546, (List.forall_mem_cons.mpr ⟨mt_547, (List.forall_mem_cons.mpr ⟨mt_64, (fun _ h => absurd h List.not_mem_nil)⟩)⟩)⟩)⟩)⟩)⟩), _, _, _, mt_554⟩⟩
theorem mt_61 : (Jvm.Cond.initialized "GrindMill$Slow") ∈ tb := tb_of 61 (by decide +kernel) (by decide +kernel)
theorem mt_550 : (Jvm.Cond.instanceMethod ({ cls := "GrindMill$Slow", name := "ground", desc := "(III)I" } : Jvm.MethodName)) ∈ tb := tb_of 550 (by decide +kernel) (by decide +kernel)
theorem mt_553 : (Jvm.Cond.selects "GrindMill$Slow" ({ cls := "GrindMill$Plain", name := "ground", desc := "(III)I" } : Jvm.MethodName) ({ cls := "GrindMill$Slow", name := "ground", desc := "(III)I" } : Jvm.MethodName)) ∈ tb := tb_of 553 (by decide +kernel) (by decide +kernel)
theorem ue_X0_64_9 : UE RX0 64 ({ cls := "GrindMill$Plain", name := "ground", desc := "(III)I" } : Jvm.MethodName) yX9_ground 9 := ⟨ce_9, "GrindMill$Plain", by decide, by decide, rfl, Or.inr ⟨(List.forall_mem_cons.mpr ⟨mt_779, (List.forall_mem_cons.mpr ⟨mt_537, (List.forall_mem_cons.mpr ⟨mt_535, (List.forall_mem_cons.mpr ⟨mt_553, (List.forall_mem_cons.mpr ⟨mt_550, (List.forall_mem_cons.mpr ⟨mt_61, (fun _ h => absurd h List.not_mem_nil)⟩)⟩)⟩)⟩)⟩)⟩), _, _, _, mt_554⟩⟩
theorem mt_534 : (Jvm.Cond.methodLink "GrindMill$Goods" (33 : Nat) ({ cls := "GrindMill$Plain", name := "ground", desc := "(III)I" } : Jvm.MethodName)) ∈ tb := tb_of 534 (by decide +kernel) (by decide +kernel)
theorem ue_X1_33_3 : UE RX1 33 ({ cls := "GrindMill$Plain", name := "ground", desc := "(III)I" } : Jvm.MethodName) yX3_ground 3 := ⟨ce_3, "GrindMill$Plain", by decide, by decide, rfl, Or.inr ⟨(List.forall_mem_cons.mpr ⟨mt_534, (List.forall_mem_cons.mpr ⟨mt_537, (List.forall_mem_cons.mpr ⟨mt_535, (List.forall_mem_cons.mpr ⟨mt_538, (List.forall_mem_cons.mpr ⟨mt_539, (List.forall_mem_cons.mpr ⟨mt_63, (fun _ h => absurd h List.not_mem_nil)⟩)⟩)⟩)⟩)⟩)⟩), _, _, _, mt_554⟩⟩
theorem ue_X1_33_4 : UE RX1 33 ({ cls := "GrindMill$Plain", name := "ground", desc := "(III)I" } : Jvm.MethodName) yX4_ground 4 := ⟨ce_4, "GrindMill$Plain", by decide, by decide, rfl, Or.inr ⟨(List.forall_mem_cons.mpr ⟨mt_534, (List.forall_mem_cons.mpr ⟨mt_537, (List.forall_mem_cons.mpr ⟨mt_535, (List.forall_mem_cons.mpr ⟨mt_542, (List.forall_mem_cons.mpr ⟨mt_543, (List.forall_mem_cons.mpr ⟨mt_65, (fun _ h => absurd h List.not_mem_nil)⟩)⟩)⟩)⟩)⟩)⟩), _, _, _, mt_554⟩⟩
theorem ue_X1_33_5 : UE RX1 33 ({ cls := "GrindMill$Plain", name := "ground", desc := "(III)I" } : Jvm.MethodName) yX6_ground 5 := ⟨ce_5, "GrindMill$Plain", by decide, by decide, rfl, Or.inl ⟨rfl, (List.forall_mem_cons.mpr ⟨mt_534, (List.forall_mem_cons.mpr ⟨mt_537, (List.forall_mem_cons.mpr ⟨mt_545, (List.forall_mem_cons.mpr ⟨mt_535, (List.forall_mem_cons.mpr ⟨mt_60, (fun _ h => absurd h List.not_mem_nil)⟩)⟩)⟩)⟩)⟩)⟩⟩
theorem ue_X1_33_6 : UE RX1 33 ({ cls := "GrindMill$Plain", name := "ground", desc := "(III)I" } : Jvm.MethodName) yX6_ground 6 := ⟨ce_6, "GrindMill$Plain", by decide, by decide, rfl, Or.inl ⟨rfl, (List.forall_mem_cons.mpr ⟨mt_534, (List.forall_mem_cons.mpr ⟨mt_537, (List.forall_mem_cons.mpr ⟨mt_536, (List.forall_mem_cons.mpr ⟨mt_535, (List.forall_mem_cons.mpr ⟨mt_60, (fun _ h => absurd h List.not_mem_nil)⟩)⟩)⟩)⟩)⟩)⟩⟩
theorem ue_X1_33_8 : UE RX1 33 ({ cls := "GrindMill$Plain", name := "ground", desc := "(III)I" } : Jvm.MethodName) yX8_ground 8 := ⟨ce_8, "GrindMill$Plain", by decide, by decide, rfl, Or.inr ⟨(List.forall_mem_cons.mpr ⟨mt_534, (List.forall_mem_cons.mpr ⟨mt_537, (List.forall_mem_cons.mpr ⟨mt_535, (List.forall_mem_cons.mpr ⟨mt_546, (List.forall_mem_cons.mpr ⟨mt_547, (List.forall_mem_cons.mpr ⟨mt_64, (fun _ h => absurd h List.not_mem_nil)⟩)⟩)⟩)⟩)⟩)⟩), _, _, _, mt_554⟩⟩
theorem ue_X1_33_9 : UE RX1 33 ({ cls := "GrindMill$Plain", name := "ground", desc := "(III)I" } : Jvm.MethodName) yX9_ground 9 := ⟨ce_9, "GrindMill$Plain", by decide, by decide, rfl, Or.inr ⟨(List.forall_mem_cons.mpr ⟨mt_534, (List.forall_mem_cons.mpr ⟨mt_537, (List.forall_mem_cons.mpr ⟨mt_535, (List.forall_mem_cons.mpr ⟨mt_553, (List.forall_mem_cons.mpr ⟨mt_550, (List.forall_mem_cons.mpr ⟨mt_61, (fun _ h => absurd h List.not_mem_nil)⟩)⟩)⟩)⟩)⟩)⟩), _, _, _, mt_554⟩⟩
theorem mt_590 : (Jvm.Cond.instanceMethod ({ cls := "GrindMill$Plain", name := "fetches", desc := "(II)I" } : Jvm.MethodName)) ∈ tb := tb_of 590 (by decide +kernel) (by decide +kernel)
theorem mt_593 : (Jvm.Cond.selects "GrindMill$Mills" ({ cls := "GrindMill$Plain", name := "fetches", desc := "(II)I" } : Jvm.MethodName) ({ cls := "GrindMill$Plain", name := "fetches", desc := "(II)I" } : Jvm.MethodName)) ∈ tb := tb_of 593 (by decide +kernel) (by decide +kernel)
theorem mt_592 : (Jvm.Cond.sameMethod "GrindMill$Plain" "GrindMill$Plain" "fetches" "(II)I") ∈ tb := tb_of 592 (by decide +kernel) (by decide +kernel)
theorem mt_589 : (Jvm.Cond.methodLink "GrindMill$Goods" (39 : Nat) ({ cls := "GrindMill$Plain", name := "fetches", desc := "(II)I" } : Jvm.MethodName)) ∈ tb := tb_of 589 (by decide +kernel) (by decide +kernel)
theorem ue_X1_39_3 : UE RX1 39 ({ cls := "GrindMill$Plain", name := "fetches", desc := "(II)I" } : Jvm.MethodName) yX6_fetches 3 := ⟨ce_3, "GrindMill$Plain", by decide, by decide, rfl, Or.inl ⟨rfl, (List.forall_mem_cons.mpr ⟨mt_589, (List.forall_mem_cons.mpr ⟨mt_592, (List.forall_mem_cons.mpr ⟨mt_593, (List.forall_mem_cons.mpr ⟨mt_590, (List.forall_mem_cons.mpr ⟨mt_60, (fun _ h => absurd h List.not_mem_nil)⟩)⟩)⟩)⟩)⟩)⟩⟩
theorem mt_595 : (Jvm.Cond.instanceMethod ({ cls := "GrindMill$Nothing", name := "fetches", desc := "(II)I" } : Jvm.MethodName)) ∈ tb := tb_of 595 (by decide +kernel) (by decide +kernel)
theorem mt_594 : (Jvm.Cond.selects "GrindMill$Nothing" ({ cls := "GrindMill$Plain", name := "fetches", desc := "(II)I" } : Jvm.MethodName) ({ cls := "GrindMill$Nothing", name := "fetches", desc := "(II)I" } : Jvm.MethodName)) ∈ tb := tb_of 594 (by decide +kernel) (by decide +kernel)
theorem mt_608 : (Jvm.Cond.code ({ cls := "GrindMill$Plain", name := "fetches", desc := "(II)I" } : Jvm.MethodName) prog_8_method_3_code (4 : Nat) (Option.some Jvm.ClassFile.FieldType.int)) ∈ tb := tb_of 608 (by decide +kernel) (by decide +kernel)
theorem ue_X1_39_4 : UE RX1 39 ({ cls := "GrindMill$Plain", name := "fetches", desc := "(II)I" } : Jvm.MethodName) yX4_fetches 4 := ⟨ce_4, "GrindMill$Plain", by decide, by decide, rfl, Or.inr ⟨(List.forall_mem_cons.mpr ⟨mt_589, (List.forall_mem_cons.mpr ⟨mt_592, (List.forall_mem_cons.mpr ⟨mt_590, (List.forall_mem_cons.mpr ⟨mt_594, (List.forall_mem_cons.mpr ⟨mt_595, (List.forall_mem_cons.mpr ⟨mt_65, (fun _ h => absurd h List.not_mem_nil)⟩)⟩)⟩)⟩)⟩)⟩), _, _, _, mt_608⟩⟩
theorem mt_62 : (Jvm.Cond.initialized "GrindMill$Peace") ∈ tb := tb_of 62 (by decide +kernel) (by decide +kernel)
theorem mt_598 : (Jvm.Cond.instanceMethod ({ cls := "GrindMill$Peace", name := "fetches", desc := "(II)I" } : Jvm.MethodName)) ∈ tb := tb_of 598 (by decide +kernel) (by decide +kernel)
theorem mt_600 : (Jvm.Cond.selects "GrindMill$Peace" ({ cls := "GrindMill$Plain", name := "fetches", desc := "(II)I" } : Jvm.MethodName) ({ cls := "GrindMill$Peace", name := "fetches", desc := "(II)I" } : Jvm.MethodName)) ∈ tb := tb_of 600 (by decide +kernel) (by decide +kernel)
theorem ue_X1_39_5 : UE RX1 39 ({ cls := "GrindMill$Plain", name := "fetches", desc := "(II)I" } : Jvm.MethodName) yX5_fetches 5 := ⟨ce_5, "GrindMill$Plain", by decide, by decide, rfl, Or.inr ⟨(List.forall_mem_cons.mpr ⟨mt_589, (List.forall_mem_cons.mpr ⟨mt_592, (List.forall_mem_cons.mpr ⟨mt_590, (List.forall_mem_cons.mpr ⟨mt_600, (List.forall_mem_cons.mpr ⟨mt_598, (List.forall_mem_cons.mpr ⟨mt_62, (fun _ h => absurd h List.not_mem_nil)⟩)⟩)⟩)⟩)⟩)⟩), _, _, _, mt_608⟩⟩
theorem mt_591 : (Jvm.Cond.selects "GrindMill$Plain" ({ cls := "GrindMill$Plain", name := "fetches", desc := "(II)I" } : Jvm.MethodName) ({ cls := "GrindMill$Plain", name := "fetches", desc := "(II)I" } : Jvm.MethodName)) ∈ tb := tb_of 591 (by decide +kernel) (by decide +kernel)
theorem ue_X1_39_6 : UE RX1 39 ({ cls := "GrindMill$Plain", name := "fetches", desc := "(II)I" } : Jvm.MethodName) yX6_fetches 6 := ⟨ce_6, "GrindMill$Plain", by decide, by decide, rfl, Or.inl ⟨rfl, (List.forall_mem_cons.mpr ⟨mt_589, (List.forall_mem_cons.mpr ⟨mt_592, (List.forall_mem_cons.mpr ⟨mt_591, (List.forall_mem_cons.mpr ⟨mt_590, (List.forall_mem_cons.mpr ⟨mt_60, (fun _ h => absurd h List.not_mem_nil)⟩)⟩)⟩)⟩)⟩)⟩⟩
theorem mt_602 : (Jvm.Cond.instanceMethod ({ cls := "GrindMill$Salt", name := "fetches", desc := "(II)I" } : Jvm.MethodName)) ∈ tb := tb_of 602 (by decide +kernel) (by decide +kernel)
theorem mt_601 : (Jvm.Cond.selects "GrindMill$Salt" ({ cls := "GrindMill$Plain", name := "fetches", desc := "(II)I" } : Jvm.MethodName) ({ cls := "GrindMill$Salt", name := "fetches", desc := "(II)I" } : Jvm.MethodName)) ∈ tb := tb_of 601 (by decide +kernel) (by decide +kernel)
theorem ue_X1_39_8 : UE RX1 39 ({ cls := "GrindMill$Plain", name := "fetches", desc := "(II)I" } : Jvm.MethodName) yX8_fetches 8 := ⟨ce_8, "GrindMill$Plain", by decide, by decide, rfl, Or.inr ⟨(List.forall_mem_cons.mpr ⟨mt_589, (List.forall_mem_cons.mpr ⟨mt_592, (List.forall_mem_cons.mpr ⟨mt_590, (List.forall_mem_cons.mpr ⟨mt_601, (List.forall_mem_cons.mpr ⟨mt_602, (List.forall_mem_cons.mpr ⟨mt_64, (fun _ h => absurd h List.not_mem_nil)⟩)⟩)⟩)⟩)⟩)⟩), _, _, _, mt_608⟩⟩
theorem mt_607 : (Jvm.Cond.selects "GrindMill$Slow" ({ cls := "GrindMill$Plain", name := "fetches", desc := "(II)I" } : Jvm.MethodName) ({ cls := "GrindMill$Plain", name := "fetches", desc := "(II)I" } : Jvm.MethodName)) ∈ tb := tb_of 607 (by decide +kernel) (by decide +kernel)
theorem ue_X1_39_9 : UE RX1 39 ({ cls := "GrindMill$Plain", name := "fetches", desc := "(II)I" } : Jvm.MethodName) yX6_fetches 9 := ⟨ce_9, "GrindMill$Plain", by decide, by decide, rfl, Or.inl ⟨rfl, (List.forall_mem_cons.mpr ⟨mt_589, (List.forall_mem_cons.mpr ⟨mt_592, (List.forall_mem_cons.mpr ⟨mt_607, (List.forall_mem_cons.mpr ⟨mt_590, (List.forall_mem_cons.mpr ⟨mt_60, (fun _ h => absurd h List.not_mem_nil)⟩)⟩)⟩)⟩)⟩)⟩⟩
theorem mt_564 : (Jvm.Cond.methodLink "GrindMill" (128 : Nat) ({ cls := "GrindMill", name := "likeLetters", desc := "(II)I" } : Jvm.MethodName)) ∈ tb := tb_of 564 (by decide +kernel) (by decide +kernel)
theorem mt_565 : (Jvm.Cond.static ({ cls := "GrindMill", name := "likeLetters", desc := "(II)I" } : Jvm.MethodName)) ∈ tb := tb_of 565 (by decide +kernel) (by decide +kernel)
theorem se_X11_128 : SE RX11 128 yX11_likeLetters := ⟨mt_564, mt_565⟩
theorem mt_567 : (Jvm.Cond.methodLink "GrindMill" (223 : Nat) ({ cls := "java/lang/Integer", name := "bitCount", desc := "(I)I" } : Jvm.MethodName)) ∈ tb := tb_of 567 (by decide +kernel) (by decide +kernel)
theorem mt_568 : (Jvm.Cond.static ({ cls := "java/lang/Integer", name := "bitCount", desc := "(I)I" } : Jvm.MethodName)) ∈ tb := tb_of 568 (by decide +kernel) (by decide +kernel)
theorem se_X11_223 : SE RX11 223 yJ6_bitCount_0f7a4 := ⟨mt_567, mt_568⟩
theorem mt_713 : (Jvm.Cond.methodLink "GrindMill" (228 : Nat) ({ cls := "GrindMill", name := "leastIn", desc := "(I)I" } : Jvm.MethodName)) ∈ tb := tb_of 713 (by decide +kernel) (by decide +kernel)
theorem mt_714 : (Jvm.Cond.static ({ cls := "GrindMill", name := "leastIn", desc := "(I)I" } : Jvm.MethodName)) ∈ tb := tb_of 714 (by decide +kernel) (by decide +kernel)
theorem se_X11_228 : SE RX11 228 yX11_leastIn := ⟨mt_713, mt_714⟩
theorem mt_806 : (Jvm.Cond.methodLink "GrindMill" (256 : Nat) ({ cls := "GrindMill", name := "greatestDivisor", desc := "(JJ)J" } : Jvm.MethodName)) ∈ tb := tb_of 806 (by decide +kernel) (by decide +kernel)
theorem mt_807 : (Jvm.Cond.static ({ cls := "GrindMill", name := "greatestDivisor", desc := "(JJ)J" } : Jvm.MethodName)) ∈ tb := tb_of 807 (by decide +kernel) (by decide +kernel)
theorem se_X11_256 : SE RX11 256 yX11_greatestDivisor := ⟨mt_806, mt_807⟩
theorem mt_356 : (Jvm.Cond.methodLink "GrindMill" (72 : Nat) ({ cls := "GrindMill", name := "within", desc := "(III)Z" } : Jvm.MethodName)) ∈ tb := tb_of 356 (by decide +kernel) (by decide +kernel)
theorem mt_357 : (Jvm.Cond.static ({ cls := "GrindMill", name := "within", desc := "(III)Z" } : Jvm.MethodName)) ∈ tb := tb_of 357 (by decide +kernel) (by decide +kernel)
theorem se_X11_72 : SE RX11 72 yX11_within := ⟨mt_356, mt_357⟩
theorem mt_380 : (Jvm.Cond.methodLink "GrindMill" (92 : Nat) ({ cls := "GrindMill", name := "isWord", desc := "(I)Z" } : Jvm.MethodName)) ∈ tb := tb_of 380 (by decide +kernel) (by decide +kernel)
theorem mt_381 : (Jvm.Cond.static ({ cls := "GrindMill", name := "isWord", desc := "(I)Z" } : Jvm.MethodName)) ∈ tb := tb_of 381 (by decide +kernel) (by decide +kernel)
theorem se_X11_92 : SE RX11 92 yX11_isWord := ⟨mt_380, mt_381⟩
theorem mt_1054 : (Jvm.Cond.methodLink "GrindMillModel" (120 : Nat) ({ cls := "GrindMillModel", name := "groundBy", desc := "(IIII)I" } : Jvm.MethodName)) ∈ tb := tb_of 1054 (by decide +kernel) (by decide +kernel)
theorem mt_1055 : (Jvm.Cond.static ({ cls := "GrindMillModel", name := "groundBy", desc := "(IIII)I" } : Jvm.MethodName)) ∈ tb := tb_of 1055 (by decide +kernel) (by decide +kernel)
theorem se_X12_120 : SE RX12 120 yX12_groundBy := ⟨mt_1054, mt_1055⟩
theorem mt_1068 : (Jvm.Cond.methodLink "GrindMillModel" (143 : Nat) ({ cls := "GrindMillModel", name := "has", desc := "(II)Z" } : Jvm.MethodName)) ∈ tb := tb_of 1068 (by decide +kernel) (by decide +kernel)
theorem mt_1069 : (Jvm.Cond.static ({ cls := "GrindMillModel", name := "has", desc := "(II)Z" } : Jvm.MethodName)) ∈ tb := tb_of 1069 (by decide +kernel) (by decide +kernel)
theorem se_X12_143 : SE RX12 143 yX12_has := ⟨mt_1068, mt_1069⟩
theorem mt_1065 : (Jvm.Cond.methodLink "GrindMillModel" (147 : Nat) ({ cls := "GrindMillModel", name := "alike", desc := "(II)I" } : Jvm.MethodName)) ∈ tb := tb_of 1065 (by decide +kernel) (by decide +kernel)
theorem mt_1066 : (Jvm.Cond.static ({ cls := "GrindMillModel", name := "alike", desc := "(II)I" } : Jvm.MethodName)) ∈ tb := tb_of 1066 (by decide +kernel) (by decide +kernel)
theorem se_X12_147 : SE RX12 147 yX12_alike := ⟨mt_1065, mt_1066⟩
theorem mt_959 : (Jvm.Cond.methodLink "GrindMillModel" (52 : Nat) ({ cls := "GrindMillModel", name := "in", desc := "(III)Z" } : Jvm.MethodName)) ∈ tb := tb_of 959 (by decide +kernel) (by decide +kernel)
theorem mt_960 : (Jvm.Cond.static ({ cls := "GrindMillModel", name := "in", desc := "(III)Z" } : Jvm.MethodName)) ∈ tb := tb_of 960 (by decide +kernel) (by decide +kernel)
theorem se_X12_52 : SE RX12 52 yX12_in := ⟨mt_959, mt_960⟩
theorem mn_712 : (Jvm.Cond.methodLinkNest "GrindMill$Clues" (44 : Nat) ({ cls := "GrindMill", name := "likeLetters", desc := "(II)I" } : Jvm.MethodName) "GrindMill") ∈ nwT := nw_of 712 (by decide +kernel) (by decide +kernel)
theorem sn_X0_44 : SNE RX0 44 yX11_likeLetters "GrindMill" := ⟨mn_712, mt_565⟩
theorem mn_416 : (Jvm.Cond.methodLinkNest "GrindMill$Text" (89 : Nat) ({ cls := "GrindMill", name := "within", desc := "(III)Z" } : Jvm.MethodName) "GrindMill") ∈ nwT := nw_of 416 (by decide +kernel) (by decide +kernel)
theorem sn_X10_89 : SNE RX10 89 yX11_within "GrindMill" := ⟨mn_416, mt_357⟩
theorem mt_115 : (Jvm.Cond.superclass "GrindMill$Mills" "GrindMill$Plain") ∈ tb := tb_of 115 (by decide +kernel) (by decide +kernel)
theorem mt_541 : (Jvm.Cond.methodLink "GrindMill$Mills" (7 : Nat) ({ cls := "GrindMill$Plain", name := "ground", desc := "(III)I" } : Jvm.MethodName)) ∈ tb := tb_of 541 (by decide +kernel) (by decide +kernel)
theorem su_X3_7 : SUE RX3 7 yX6_ground := ⟨(List.forall_mem_cons.mpr ⟨mt_541, (List.forall_mem_cons.mpr ⟨mt_537, (List.forall_mem_cons.mpr ⟨mt_115, (List.forall_mem_cons.mpr ⟨mt_535, (List.forall_mem_cons.mpr ⟨mt_60, (fun _ h => absurd h List.not_mem_nil)⟩)⟩)⟩)⟩)⟩), by decide⟩
theorem mt_129 : (Jvm.Cond.superclass "GrindMill$Nothing" "GrindMill$Peace") ∈ tb := tb_of 129 (by decide +kernel) (by decide +kernel)
theorem mt_1241 : (Jvm.Cond.sameMethod "GrindMill$Peace" "GrindMill$Peace" "fetches" "(II)I") ∈ tb := tb_of 1241 (by decide +kernel) (by decide +kernel)
theorem mt_597 : (Jvm.Cond.methodLink "GrindMill$Nothing" (7 : Nat) ({ cls := "GrindMill$Peace", name := "fetches", desc := "(II)I" } : Jvm.MethodName)) ∈ tb := tb_of 597 (by decide +kernel) (by decide +kernel)
theorem su_X4_7 : SUE RX4 7 yX5_fetches := ⟨(List.forall_mem_cons.mpr ⟨mt_597, (List.forall_mem_cons.mpr ⟨mt_1241, (List.forall_mem_cons.mpr ⟨mt_129, (List.forall_mem_cons.mpr ⟨mt_598, (List.forall_mem_cons.mpr ⟨mt_62, (fun _ h => absurd h List.not_mem_nil)⟩)⟩)⟩)⟩)⟩), by decide⟩
theorem mt_101 : (Jvm.Cond.superclass "GrindMill$Slow" "GrindMill$Plain") ∈ tb := tb_of 101 (by decide +kernel) (by decide +kernel)
theorem mt_122 : (Jvm.Cond.superclass "GrindMill$Salt" "GrindMill$Slow") ∈ tb := tb_of 122 (by decide +kernel) (by decide +kernel)
theorem mt_605 : (Jvm.Cond.sameMethod "GrindMill$Slow" "GrindMill$Plain" "fetches" "(II)I") ∈ tb := tb_of 605 (by decide +kernel) (by decide +kernel)
theorem mt_604 : (Jvm.Cond.methodLink "GrindMill$Salt" (11 : Nat) ({ cls := "GrindMill$Slow", name := "fetches", desc := "(II)I" } : Jvm.MethodName)) ∈ tb := tb_of 604 (by decide +kernel) (by decide +kernel)
theorem sx_X8_11 : SXE RX8 11 ({ cls := "GrindMill$Slow", name := "fetches", desc := "(II)I" } : Jvm.MethodName) yX6_fetches := ⟨"GrindMill$Plain", rfl, (List.forall_mem_cons.mpr ⟨mt_604, (List.forall_mem_cons.mpr ⟨mt_605, (List.forall_mem_cons.mpr ⟨mt_122, (List.forall_mem_cons.mpr ⟨mt_101, (List.forall_mem_cons.mpr ⟨mt_590, (List.forall_mem_cons.mpr ⟨mt_60, (fun _ h => absurd h List.not_mem_nil)⟩)⟩)⟩)⟩)⟩)⟩), by decide⟩
theorem mt_1240 : (Jvm.Cond.sameMethod "GrindMill$Slow" "GrindMill$Slow" "ground" "(III)I") ∈ tb := tb_of 1240 (by decide +kernel) (by decide +kernel)
theorem mt_549 : (Jvm.Cond.methodLink "GrindMill$Salt" (7 : Nat) ({ cls := "GrindMill$Slow", name := "ground", desc := "(III)I" } : Jvm.MethodName)) ∈ tb := tb_of 549 (by decide +kernel) (by decide +kernel)
theorem su_X8_7 : SUE RX8 7 yX9_ground := ⟨(List.forall_mem_cons.mpr ⟨mt_549, (List.forall_mem_cons.mpr ⟨mt_1240, (List.forall_mem_cons.mpr ⟨mt_122, (List.forall_mem_cons.mpr ⟨mt_550, (List.forall_mem_cons.mpr ⟨mt_61, (fun _ h => absurd h List.not_mem_nil)⟩)⟩)⟩)⟩)⟩), by decide⟩
theorem mt_552 : (Jvm.Cond.methodLink "GrindMill$Slow" (7 : Nat) ({ cls := "GrindMill$Plain", name := "ground", desc := "(III)I" } : Jvm.MethodName)) ∈ tb := tb_of 552 (by decide +kernel) (by decide +kernel)
theorem su_X9_7 : SUE RX9 7 yX6_ground := ⟨(List.forall_mem_cons.mpr ⟨mt_552, (List.forall_mem_cons.mpr ⟨mt_537, (List.forall_mem_cons.mpr ⟨mt_101, (List.forall_mem_cons.mpr ⟨mt_535, (List.forall_mem_cons.mpr ⟨mt_60, (fun _ h => absurd h List.not_mem_nil)⟩)⟩)⟩)⟩)⟩), by decide⟩
theorem mt_708 : (Jvm.Cond.methodLink "GrindMill$Clues" (48 : Nat) ({ cls := "GrindMill$Clues", name := "wordFits", desc := "(I)Z" } : Jvm.MethodName)) ∈ tb := tb_of 708 (by decide +kernel) (by decide +kernel)
theorem mt_710 : (Jvm.Cond.instanceMethod ({ cls := "GrindMill$Clues", name := "wordFits", desc := "(I)Z" } : Jvm.MethodName)) ∈ tb := tb_of 710 (by decide +kernel) (by decide +kernel)
theorem mt_16 : (Jvm.Cond.selects "GrindMill$Clues" ({ cls := "GrindMill$Clues", name := "wordFits", desc := "(I)Z" } : Jvm.MethodName) ({ cls := "GrindMill$Clues", name := "wordFits", desc := "(I)Z" } : Jvm.MethodName)) ∈ tb := tb_of 16 (by decide +kernel) (by decide +kernel)
theorem ve_X0_48 : VE RX0 48 yX0_wordFits 0 := ⟨mt_708, mt_710, mt_16, ce_0⟩
theorem mt_724 : (Jvm.Cond.methodLink "GrindMill$Clues" (52 : Nat) ({ cls := "GrindMill$Clues", name := "fittingWords", desc := "()I" } : Jvm.MethodName)) ∈ tb := tb_of 724 (by decide +kernel) (by decide +kernel)
theorem mt_705 : (Jvm.Cond.instanceMethod ({ cls := "GrindMill$Clues", name := "fittingWords", desc := "()I" } : Jvm.MethodName)) ∈ tb := tb_of 705 (by decide +kernel) (by decide +kernel)
theorem mt_706 : (Jvm.Cond.selects "GrindMill$Clues" ({ cls := "GrindMill$Clues", name := "fittingWords", desc := "()I" } : Jvm.MethodName) ({ cls := "GrindMill$Clues", name := "fittingWords", desc := "()I" } : Jvm.MethodName)) ∈ tb := tb_of 706 (by decide +kernel) (by decide +kernel)
theorem ve_X0_52 : VE RX0 52 yX0_fittingWords 0 := ⟨mt_724, mt_705, mt_706, ce_0⟩
theorem mt_725 : (Jvm.Cond.methodLink "GrindMill$Clues" (56 : Nat) ({ cls := "GrindMill$Clues", name := "mostAnsweredAlike", desc := "(II)I" } : Jvm.MethodName)) ∈ tb := tb_of 725 (by decide +kernel) (by decide +kernel)
theorem mt_727 : (Jvm.Cond.instanceMethod ({ cls := "GrindMill$Clues", name := "mostAnsweredAlike", desc := "(II)I" } : Jvm.MethodName)) ∈ tb := tb_of 727 (by decide +kernel) (by decide +kernel)
theorem mt_17 : (Jvm.Cond.selects "GrindMill$Clues" ({ cls := "GrindMill$Clues", name := "mostAnsweredAlike", desc := "(II)I" } : Jvm.MethodName) ({ cls := "GrindMill$Clues", name := "mostAnsweredAlike", desc := "(II)I" } : Jvm.MethodName)) ∈ tb := tb_of 17 (by decide +kernel) (by decide +kernel)
theorem ve_X0_56 : VE RX0 56 yX0_mostAnsweredAlike 0 := ⟨mt_725, mt_727, mt_17, ce_0⟩
theorem mt_775 : (Jvm.Cond.methodLink "GrindMill$Clues" (70 : Nat) ({ cls := "GrindMill$Clues", name := "notesFit", desc := "(III)Z" } : Jvm.MethodName)) ∈ tb := tb_of 775 (by decide +kernel) (by decide +kernel)
theorem mt_777 : (Jvm.Cond.instanceMethod ({ cls := "GrindMill$Clues", name := "notesFit", desc := "(III)Z" } : Jvm.MethodName)) ∈ tb := tb_of 777 (by decide +kernel) (by decide +kernel)
theorem mt_22 : (Jvm.Cond.selects "GrindMill$Clues" ({ cls := "GrindMill$Clues", name := "notesFit", desc := "(III)Z" } : Jvm.MethodName) ({ cls := "GrindMill$Clues", name := "notesFit", desc := "(III)Z" } : Jvm.MethodName)) ∈ tb := tb_of 22 (by decide +kernel) (by decide +kernel)
theorem ve_X0_70 : VE RX0 70 yX0_notesFit 0 := ⟨mt_775, mt_777, mt_22, ce_0⟩
theorem mt_792 : (Jvm.Cond.methodLink "GrindMill$Clues" (74 : Nat) ({ cls := "GrindMill$Clues", name := "fittingKinds", desc := "(II)I" } : Jvm.MethodName)) ∈ tb := tb_of 792 (by decide +kernel) (by decide +kernel)
theorem mt_772 : (Jvm.Cond.instanceMethod ({ cls := "GrindMill$Clues", name := "fittingKinds", desc := "(II)I" } : Jvm.MethodName)) ∈ tb := tb_of 772 (by decide +kernel) (by decide +kernel)
theorem mt_773 : (Jvm.Cond.selects "GrindMill$Clues" ({ cls := "GrindMill$Clues", name := "fittingKinds", desc := "(II)I" } : Jvm.MethodName) ({ cls := "GrindMill$Clues", name := "fittingKinds", desc := "(II)I" } : Jvm.MethodName)) ∈ tb := tb_of 773 (by decide +kernel) (by decide +kernel)
theorem ve_X0_74 : VE RX0 74 yX0_fittingKinds 0 := ⟨mt_792, mt_772, mt_773, ce_0⟩
theorem mt_793 : (Jvm.Cond.methodLink "GrindMill$Clues" (77 : Nat) ({ cls := "GrindMill$Clues", name := "mostGroundAlike", desc := "(IIII)I" } : Jvm.MethodName)) ∈ tb := tb_of 793 (by decide +kernel) (by decide +kernel)
theorem mt_795 : (Jvm.Cond.instanceMethod ({ cls := "GrindMill$Clues", name := "mostGroundAlike", desc := "(IIII)I" } : Jvm.MethodName)) ∈ tb := tb_of 795 (by decide +kernel) (by decide +kernel)
theorem mt_23 : (Jvm.Cond.selects "GrindMill$Clues" ({ cls := "GrindMill$Clues", name := "mostGroundAlike", desc := "(IIII)I" } : Jvm.MethodName) ({ cls := "GrindMill$Clues", name := "mostGroundAlike", desc := "(IIII)I" } : Jvm.MethodName)) ∈ tb := tb_of 23 (by decide +kernel) (by decide +kernel)
theorem ve_X0_77 : VE RX0 77 yX0_mostGroundAlike 0 := ⟨mt_793, mt_795, mt_23, ce_0⟩
theorem mt_797 : (Jvm.Cond.methodLink "GrindMill$Clues" (81 : Nat) ({ cls := "GrindMill$Clues", name := "fittingLike", desc := "(II)I" } : Jvm.MethodName)) ∈ tb := tb_of 797 (by decide +kernel) (by decide +kernel)
theorem mt_799 : (Jvm.Cond.instanceMethod ({ cls := "GrindMill$Clues", name := "fittingLike", desc := "(II)I" } : Jvm.MethodName)) ∈ tb := tb_of 799 (by decide +kernel) (by decide +kernel)
theorem mt_24 : (Jvm.Cond.selects "GrindMill$Clues" ({ cls := "GrindMill$Clues", name := "fittingLike", desc := "(II)I" } : Jvm.MethodName) ({ cls := "GrindMill$Clues", name := "fittingLike", desc := "(II)I" } : Jvm.MethodName)) ∈ tb := tb_of 24 (by decide +kernel) (by decide +kernel)
theorem ve_X0_81 : VE RX0 81 yX0_fittingLike 0 := ⟨mt_797, mt_799, mt_24, ce_0⟩
theorem mt_838 : (Jvm.Cond.methodLink "GrindMill$Goods" (29 : Nat) ({ cls := "GrindMill$Goods", name := "become", desc := "(III)V" } : Jvm.MethodName)) ∈ tb := tb_of 838 (by decide +kernel) (by decide +kernel)
theorem mt_373 : (Jvm.Cond.instanceMethod ({ cls := "GrindMill$Goods", name := "become", desc := "(III)V" } : Jvm.MethodName)) ∈ tb := tb_of 373 (by decide +kernel) (by decide +kernel)
theorem mt_374 : (Jvm.Cond.selects "GrindMill$Goods" ({ cls := "GrindMill$Goods", name := "become", desc := "(III)V" } : Jvm.MethodName) ({ cls := "GrindMill$Goods", name := "become", desc := "(III)V" } : Jvm.MethodName)) ∈ tb := tb_of 374 (by decide +kernel) (by decide +kernel)
theorem ve_X1_29 : VE RX1 29 yX1_become 1 := ⟨mt_838, mt_373, mt_374, ce_1⟩
theorem mt_585 : (Jvm.Cond.methodLink "GrindMill$Goods" (43 : Nat) ({ cls := "GrindMill$Goods", name := "fetchesWhen", desc := "(I)I" } : Jvm.MethodName)) ∈ tb := tb_of 585 (by decide +kernel) (by decide +kernel)
theorem mt_586 : (Jvm.Cond.instanceMethod ({ cls := "GrindMill$Goods", name := "fetchesWhen", desc := "(I)I" } : Jvm.MethodName)) ∈ tb := tb_of 586 (by decide +kernel) (by decide +kernel)
theorem mt_587 : (Jvm.Cond.selects "GrindMill$Goods" ({ cls := "GrindMill$Goods", name := "fetchesWhen", desc := "(I)I" } : Jvm.MethodName) ({ cls := "GrindMill$Goods", name := "fetchesWhen", desc := "(I)I" } : Jvm.MethodName)) ∈ tb := tb_of 587 (by decide +kernel) (by decide +kernel)
theorem ve_X1_43 : VE RX1 43 yX1_fetchesWhen 1 := ⟨mt_585, mt_586, mt_587, ce_1⟩
theorem mt_581 : (Jvm.Cond.methodLink "GrindMill$Goods" (47 : Nat) ({ cls := "GrindMill$Goods", name := "fetchedBy", desc := "(II)I" } : Jvm.MethodName)) ∈ tb := tb_of 581 (by decide +kernel) (by decide +kernel)
theorem mt_582 : (Jvm.Cond.instanceMethod ({ cls := "GrindMill$Goods", name := "fetchedBy", desc := "(II)I" } : Jvm.MethodName)) ∈ tb := tb_of 582 (by decide +kernel) (by decide +kernel)
theorem mt_583 : (Jvm.Cond.selects "GrindMill$Goods" ({ cls := "GrindMill$Goods", name := "fetchedBy", desc := "(II)I" } : Jvm.MethodName) ({ cls := "GrindMill$Goods", name := "fetchedBy", desc := "(II)I" } : Jvm.MethodName)) ∈ tb := tb_of 583 (by decide +kernel) (by decide +kernel)
theorem ve_X1_47 : VE RX1 47 yX1_fetchedBy 1 := ⟨mt_581, mt_582, mt_583, ce_1⟩
theorem mt_555 : (Jvm.Cond.methodLink "GrindMill$House" (100 : Nat) ({ cls := "GrindMill$House", name := "allBushels", desc := "()I" } : Jvm.MethodName)) ∈ tb := tb_of 555 (by decide +kernel) (by decide +kernel)
theorem mt_556 : (Jvm.Cond.instanceMethod ({ cls := "GrindMill$House", name := "allBushels", desc := "()I" } : Jvm.MethodName)) ∈ tb := tb_of 556 (by decide +kernel) (by decide +kernel)
theorem mt_557 : (Jvm.Cond.selects "GrindMill$House" ({ cls := "GrindMill$House", name := "allBushels", desc := "()I" } : Jvm.MethodName) ({ cls := "GrindMill$House", name := "allBushels", desc := "()I" } : Jvm.MethodName)) ∈ tb := tb_of 557 (by decide +kernel) (by decide +kernel)
theorem ve_X2_100 : VE RX2 100 yX2_allBushels 2 := ⟨mt_555, mt_556, mt_557, ce_2⟩
theorem mt_871 : (Jvm.Cond.methodLink "GrindMill$House" (114 : Nat) ({ cls := "GrindMill$Goods", name := "mixInto", desc := "(J)J" } : Jvm.MethodName)) ∈ tb := tb_of 871 (by decide +kernel) (by decide +kernel)
theorem mt_872 : (Jvm.Cond.instanceMethod ({ cls := "GrindMill$Goods", name := "mixInto", desc := "(J)J" } : Jvm.MethodName)) ∈ tb := tb_of 872 (by decide +kernel) (by decide +kernel)
theorem mt_873 : (Jvm.Cond.selects "GrindMill$Goods" ({ cls := "GrindMill$Goods", name := "mixInto", desc := "(J)J" } : Jvm.MethodName) ({ cls := "GrindMill$Goods", name := "mixInto", desc := "(J)J" } : Jvm.MethodName)) ∈ tb := tb_of 873 (by decide +kernel) (by decide +kernel)
theorem ve_X2_114 : VE RX2 114 yX1_mixInto 1 := ⟨mt_871, mt_872, mt_873, ce_1⟩
theorem mt_876 : (Jvm.Cond.methodLink "GrindMill$House" (118 : Nat) ({ cls := "GrindMill$Clues", name := "mixInto", desc := "(J)J" } : Jvm.MethodName)) ∈ tb := tb_of 876 (by decide +kernel) (by decide +kernel)
theorem mt_877 : (Jvm.Cond.instanceMethod ({ cls := "GrindMill$Clues", name := "mixInto", desc := "(J)J" } : Jvm.MethodName)) ∈ tb := tb_of 877 (by decide +kernel) (by decide +kernel)
theorem mt_878 : (Jvm.Cond.selects "GrindMill$Clues" ({ cls := "GrindMill$Clues", name := "mixInto", desc := "(J)J" } : Jvm.MethodName) ({ cls := "GrindMill$Clues", name := "mixInto", desc := "(J)J" } : Jvm.MethodName)) ∈ tb := tb_of 878 (by decide +kernel) (by decide +kernel)
theorem ve_X2_118 : VE RX2 118 yX0_mixInto 0 := ⟨mt_876, mt_877, mt_878, ce_0⟩
theorem mt_834 : (Jvm.Cond.methodLink "GrindMill$House" (69 : Nat) ({ cls := "GrindMill$Goods", name := "copyFrom", desc := "(LGrindMill$Goods;)V" } : Jvm.MethodName)) ∈ tb := tb_of 834 (by decide +kernel) (by decide +kernel)
theorem mt_835 : (Jvm.Cond.instanceMethod ({ cls := "GrindMill$Goods", name := "copyFrom", desc := "(LGrindMill$Goods;)V" } : Jvm.MethodName)) ∈ tb := tb_of 835 (by decide +kernel) (by decide +kernel)
theorem mt_836 : (Jvm.Cond.selects "GrindMill$Goods" ({ cls := "GrindMill$Goods", name := "copyFrom", desc := "(LGrindMill$Goods;)V" } : Jvm.MethodName) ({ cls := "GrindMill$Goods", name := "copyFrom", desc := "(LGrindMill$Goods;)V" } : Jvm.MethodName)) ∈ tb := tb_of 836 (by decide +kernel) (by decide +kernel)
theorem ve_X2_69 : VE RX2 69 yX1_copyFrom 1 := ⟨mt_834, mt_835, mt_836, ce_1⟩
theorem mt_839 : (Jvm.Cond.methodLink "GrindMill$House" (79 : Nat) ({ cls := "GrindMill$Clues", name := "copyFrom", desc := "(LGrindMill$Clues;)V" } : Jvm.MethodName)) ∈ tb := tb_of 839 (by decide +kernel) (by decide +kernel)
theorem mt_840 : (Jvm.Cond.instanceMethod ({ cls := "GrindMill$Clues", name := "copyFrom", desc := "(LGrindMill$Clues;)V" } : Jvm.MethodName)) ∈ tb := tb_of 840 (by decide +kernel) (by decide +kernel)
theorem mt_841 : (Jvm.Cond.selects "GrindMill$Clues" ({ cls := "GrindMill$Clues", name := "copyFrom", desc := "(LGrindMill$Clues;)V" } : Jvm.MethodName) ({ cls := "GrindMill$Clues", name := "copyFrom", desc := "(LGrindMill$Clues;)V" } : Jvm.MethodName)) ∈ tb := tb_of 841 (by decide +kernel) (by decide +kernel)
theorem ve_X2_79 : VE RX2 79 yX0_copyFrom 0 := ⟨mt_839, mt_840, mt_841, ce_0⟩
theorem mt_372 : (Jvm.Cond.methodLink "GrindMill$House" (82 : Nat) ({ cls := "GrindMill$Goods", name := "become", desc := "(III)V" } : Jvm.MethodName)) ∈ tb := tb_of 372 (by decide +kernel) (by decide +kernel)
theorem ve_X2_82 : VE RX2 82 yX1_become 1 := ⟨mt_372, mt_373, mt_374, ce_1⟩
theorem mt_529 : (Jvm.Cond.methodLink "GrindMill$House" (89 : Nat) ({ cls := "GrindMill$House", name := "has", desc := "(I)Z" } : Jvm.MethodName)) ∈ tb := tb_of 529 (by decide +kernel) (by decide +kernel)
theorem mt_503 : (Jvm.Cond.instanceMethod ({ cls := "GrindMill$House", name := "has", desc := "(I)Z" } : Jvm.MethodName)) ∈ tb := tb_of 503 (by decide +kernel) (by decide +kernel)
theorem mt_504 : (Jvm.Cond.selects "GrindMill$House" ({ cls := "GrindMill$House", name := "has", desc := "(I)Z" } : Jvm.MethodName) ({ cls := "GrindMill$House", name := "has", desc := "(I)Z" } : Jvm.MethodName)) ∈ tb := tb_of 504 (by decide +kernel) (by decide +kernel)
theorem ve_X2_89 : VE RX2 89 yX2_has 2 := ⟨mt_529, mt_503, mt_504, ce_2⟩
theorem mt_530 : (Jvm.Cond.methodLink "GrindMill$House" (93 : Nat) ({ cls := "GrindMill$Goods", name := "groundIn", desc := "(II)I" } : Jvm.MethodName)) ∈ tb := tb_of 530 (by decide +kernel) (by decide +kernel)
theorem mt_531 : (Jvm.Cond.instanceMethod ({ cls := "GrindMill$Goods", name := "groundIn", desc := "(II)I" } : Jvm.MethodName)) ∈ tb := tb_of 531 (by decide +kernel) (by decide +kernel)
theorem mt_532 : (Jvm.Cond.selects "GrindMill$Goods" ({ cls := "GrindMill$Goods", name := "groundIn", desc := "(II)I" } : Jvm.MethodName) ({ cls := "GrindMill$Goods", name := "groundIn", desc := "(II)I" } : Jvm.MethodName)) ∈ tb := tb_of 532 (by decide +kernel) (by decide +kernel)
theorem ve_X2_93 : VE RX2 93 yX1_groundIn 1 := ⟨mt_530, mt_531, mt_532, ce_1⟩
theorem mt_525 : (Jvm.Cond.methodLink "GrindMill$House" (97 : Nat) ({ cls := "GrindMill$House", name := "groundBy", desc := "(II)I" } : Jvm.MethodName)) ∈ tb := tb_of 525 (by decide +kernel) (by decide +kernel)
theorem mt_526 : (Jvm.Cond.instanceMethod ({ cls := "GrindMill$House", name := "groundBy", desc := "(II)I" } : Jvm.MethodName)) ∈ tb := tb_of 526 (by decide +kernel) (by decide +kernel)
theorem mt_527 : (Jvm.Cond.selects "GrindMill$House" ({ cls := "GrindMill$House", name := "groundBy", desc := "(II)I" } : Jvm.MethodName) ({ cls := "GrindMill$House", name := "groundBy", desc := "(II)I" } : Jvm.MethodName)) ∈ tb := tb_of 527 (by decide +kernel) (by decide +kernel)
theorem ve_X2_97 : VE RX2 97 yX2_groundBy 2 := ⟨mt_525, mt_526, mt_527, ce_2⟩
theorem mt_747 : (Jvm.Cond.methodLink "GrindMill$Plans" (101 : Nat) ({ cls := "GrindMill$Plans", name := "firstHas", desc := "(II)I" } : Jvm.MethodName)) ∈ tb := tb_of 747 (by decide +kernel) (by decide +kernel)
theorem mt_749 : (Jvm.Cond.instanceMethod ({ cls := "GrindMill$Plans", name := "firstHas", desc := "(II)I" } : Jvm.MethodName)) ∈ tb := tb_of 749 (by decide +kernel) (by decide +kernel)
theorem mt_20 : (Jvm.Cond.selects "GrindMill$Plans" ({ cls := "GrindMill$Plans", name := "firstHas", desc := "(II)I" } : Jvm.MethodName) ({ cls := "GrindMill$Plans", name := "firstHas", desc := "(II)I" } : Jvm.MethodName)) ∈ tb := tb_of 20 (by decide +kernel) (by decide +kernel)
theorem ve_X7_101 : VE RX7 101 yX7_firstHas 7 := ⟨mt_747, mt_749, mt_20, ce_7⟩
theorem mt_751 : (Jvm.Cond.methodLink "GrindMill$Plans" (104 : Nat) ({ cls := "GrindMill$Plans", name := "secondHas", desc := "(II)I" } : Jvm.MethodName)) ∈ tb := tb_of 751 (by decide +kernel) (by decide +kernel)
theorem mt_753 : (Jvm.Cond.instanceMethod ({ cls := "GrindMill$Plans", name := "secondHas", desc := "(II)I" } : Jvm.MethodName)) ∈ tb := tb_of 753 (by decide +kernel) (by decide +kernel)
theorem mt_21 : (Jvm.Cond.selects "GrindMill$Plans" ({ cls := "GrindMill$Plans", name := "secondHas", desc := "(II)I" } : Jvm.MethodName) ({ cls := "GrindMill$Plans", name := "secondHas", desc := "(II)I" } : Jvm.MethodName)) ∈ tb := tb_of 21 (by decide +kernel) (by decide +kernel)
theorem ve_X7_104 : VE RX7 104 yX7_secondHas 7 := ⟨mt_751, mt_753, mt_21, ce_7⟩
theorem mt_654 : (Jvm.Cond.methodLink "GrindMill$Plans" (38 : Nat) ({ cls := "GrindMill$Plans", name := "fillYields", desc := "(LGrindMill$House;)V" } : Jvm.MethodName)) ∈ tb := tb_of 654 (by decide +kernel) (by decide +kernel)
theorem mt_656 : (Jvm.Cond.instanceMethod ({ cls := "GrindMill$Plans", name := "fillYields", desc := "(LGrindMill$House;)V" } : Jvm.MethodName)) ∈ tb := tb_of 656 (by decide +kernel) (by decide +kernel)
theorem mt_11 : (Jvm.Cond.selects "GrindMill$Plans" ({ cls := "GrindMill$Plans", name := "fillYields", desc := "(LGrindMill$House;)V" } : Jvm.MethodName) ({ cls := "GrindMill$Plans", name := "fillYields", desc := "(LGrindMill$House;)V" } : Jvm.MethodName)) ∈ tb := tb_of 11 (by decide +kernel) (by decide +kernel)
theorem ve_X7_38 : VE RX7 38 yX7_fillYields 7 := ⟨mt_654, mt_656, mt_11, ce_7⟩
theorem mt_659 : (Jvm.Cond.methodLink "GrindMill$Plans" (48 : Nat) ({ cls := "GrindMill$Plans", name := "fillFewest", desc := "(II)V" } : Jvm.MethodName)) ∈ tb := tb_of 659 (by decide +kernel) (by decide +kernel)
theorem mt_661 : (Jvm.Cond.instanceMethod ({ cls := "GrindMill$Plans", name := "fillFewest", desc := "(II)V" } : Jvm.MethodName)) ∈ tb := tb_of 661 (by decide +kernel) (by decide +kernel)
theorem mt_12 : (Jvm.Cond.selects "GrindMill$Plans" ({ cls := "GrindMill$Plans", name := "fillFewest", desc := "(II)V" } : Jvm.MethodName) ({ cls := "GrindMill$Plans", name := "fillFewest", desc := "(II)V" } : Jvm.MethodName)) ∈ tb := tb_of 12 (by decide +kernel) (by decide +kernel)
theorem ve_X7_48 : VE RX7 48 yX7_fillFewest 7 := ⟨mt_659, mt_661, mt_12, ce_7⟩
theorem mt_664 : (Jvm.Cond.methodLink "GrindMill$Plans" (52 : Nat) ({ cls := "GrindMill$Plans", name := "staysFewest", desc := "(II)Z" } : Jvm.MethodName)) ∈ tb := tb_of 664 (by decide +kernel) (by decide +kernel)
theorem mt_666 : (Jvm.Cond.instanceMethod ({ cls := "GrindMill$Plans", name := "staysFewest", desc := "(II)Z" } : Jvm.MethodName)) ∈ tb := tb_of 666 (by decide +kernel) (by decide +kernel)
theorem mt_13 : (Jvm.Cond.selects "GrindMill$Plans" ({ cls := "GrindMill$Plans", name := "staysFewest", desc := "(II)Z" } : Jvm.MethodName) ({ cls := "GrindMill$Plans", name := "staysFewest", desc := "(II)Z" } : Jvm.MethodName)) ∈ tb := tb_of 13 (by decide +kernel) (by decide +kernel)
theorem ve_X7_52 : VE RX7 52 yX7_staysFewest 7 := ⟨mt_664, mt_666, mt_13, ce_7⟩
theorem mt_658 : (Jvm.Cond.methodLink "GrindMill$Plans" (63 : Nat) ({ cls := "GrindMill$Goods", name := "groundIn", desc := "(II)I" } : Jvm.MethodName)) ∈ tb := tb_of 658 (by decide +kernel) (by decide +kernel)
theorem ve_X7_63 : VE RX7 63 yX1_groundIn 1 := ⟨mt_658, mt_531, mt_532, ce_1⟩
theorem mt_676 : (Jvm.Cond.methodLink "GrindMill$Plans" (74 : Nat) ({ cls := "GrindMill$Plans", name := "fillGains", desc := "(LGrindMill$House;I)V" } : Jvm.MethodName)) ∈ tb := tb_of 676 (by decide +kernel) (by decide +kernel)
theorem mt_678 : (Jvm.Cond.instanceMethod ({ cls := "GrindMill$Plans", name := "fillGains", desc := "(LGrindMill$House;I)V" } : Jvm.MethodName)) ∈ tb := tb_of 678 (by decide +kernel) (by decide +kernel)
theorem mt_14 : (Jvm.Cond.selects "GrindMill$Plans" ({ cls := "GrindMill$Plans", name := "fillGains", desc := "(LGrindMill$House;I)V" } : Jvm.MethodName) ({ cls := "GrindMill$Plans", name := "fillGains", desc := "(LGrindMill$House;I)V" } : Jvm.MethodName)) ∈ tb := tb_of 14 (by decide +kernel) (by decide +kernel)
theorem ve_X7_74 : VE RX7 74 yX7_fillGains 7 := ⟨mt_676, mt_678, mt_14, ce_7⟩
theorem mt_681 : (Jvm.Cond.methodLink "GrindMill$Plans" (78 : Nat) ({ cls := "GrindMill$Plans", name := "fillMost", desc := "(II)V" } : Jvm.MethodName)) ∈ tb := tb_of 681 (by decide +kernel) (by decide +kernel)
theorem mt_683 : (Jvm.Cond.instanceMethod ({ cls := "GrindMill$Plans", name := "fillMost", desc := "(II)V" } : Jvm.MethodName)) ∈ tb := tb_of 683 (by decide +kernel) (by decide +kernel)
theorem mt_15 : (Jvm.Cond.selects "GrindMill$Plans" ({ cls := "GrindMill$Plans", name := "fillMost", desc := "(II)V" } : Jvm.MethodName) ({ cls := "GrindMill$Plans", name := "fillMost", desc := "(II)V" } : Jvm.MethodName)) ∈ tb := tb_of 15 (by decide +kernel) (by decide +kernel)
theorem ve_X7_78 : VE RX7 78 yX7_fillMost 7 := ⟨mt_681, mt_683, mt_15, ce_7⟩
theorem mt_680 : (Jvm.Cond.methodLink "GrindMill$Plans" (87 : Nat) ({ cls := "GrindMill$Goods", name := "fetchedBy", desc := "(II)I" } : Jvm.MethodName)) ∈ tb := tb_of 680 (by decide +kernel) (by decide +kernel)
theorem ve_X7_87 : VE RX7 87 yX1_fetchedBy 1 := ⟨mt_680, mt_582, mt_583, ce_1⟩
theorem mt_738 : (Jvm.Cond.methodLink "GrindMill$Plans" (90 : Nat) ({ cls := "GrindMill$Plans", name := "fillStreet", desc := "(LGrindMill$House;I)V" } : Jvm.MethodName)) ∈ tb := tb_of 738 (by decide +kernel) (by decide +kernel)
theorem mt_740 : (Jvm.Cond.instanceMethod ({ cls := "GrindMill$Plans", name := "fillStreet", desc := "(LGrindMill$House;I)V" } : Jvm.MethodName)) ∈ tb := tb_of 740 (by decide +kernel) (by decide +kernel)
theorem mt_18 : (Jvm.Cond.selects "GrindMill$Plans" ({ cls := "GrindMill$Plans", name := "fillStreet", desc := "(LGrindMill$House;I)V" } : Jvm.MethodName) ({ cls := "GrindMill$Plans", name := "fillStreet", desc := "(LGrindMill$House;I)V" } : Jvm.MethodName)) ∈ tb := tb_of 18 (by decide +kernel) (by decide +kernel)
theorem ve_X7_90 : VE RX7 90 yX7_fillStreet 7 := ⟨mt_738, mt_740, mt_18, ce_7⟩
theorem mt_743 : (Jvm.Cond.methodLink "GrindMill$Plans" (93 : Nat) ({ cls := "GrindMill$Plans", name := "pairRests", desc := "(III)Z" } : Jvm.MethodName)) ∈ tb := tb_of 743 (by decide +kernel) (by decide +kernel)
theorem mt_745 : (Jvm.Cond.instanceMethod ({ cls := "GrindMill$Plans", name := "pairRests", desc := "(III)Z" } : Jvm.MethodName)) ∈ tb := tb_of 745 (by decide +kernel) (by decide +kernel)
theorem mt_19 : (Jvm.Cond.selects "GrindMill$Plans" ({ cls := "GrindMill$Plans", name := "pairRests", desc := "(III)Z" } : Jvm.MethodName) ({ cls := "GrindMill$Plans", name := "pairRests", desc := "(III)Z" } : Jvm.MethodName)) ∈ tb := tb_of 19 (by decide +kernel) (by decide +kernel)
theorem ve_X7_93 : VE RX7 93 yX7_pairRests 7 := ⟨mt_743, mt_745, mt_19, ce_7⟩
theorem mt_742 : (Jvm.Cond.methodLink "GrindMill$Plans" (97 : Nat) ({ cls := "GrindMill$Goods", name := "fetchesWhen", desc := "(I)I" } : Jvm.MethodName)) ∈ tb := tb_of 742 (by decide +kernel) (by decide +kernel)
theorem ve_X7_97 : VE RX7 97 yX1_fetchesWhen 1 := ⟨mt_742, mt_586, mt_587, ce_1⟩
theorem mt_403 : (Jvm.Cond.methodLink "GrindMill$Text" (25 : Nat) ({ cls := "GrindMill$House", name := "startAnew", desc := "(I)V" } : Jvm.MethodName)) ∈ tb := tb_of 403 (by decide +kernel) (by decide +kernel)
theorem mt_207 : (Jvm.Cond.instanceMethod ({ cls := "GrindMill$House", name := "startAnew", desc := "(I)V" } : Jvm.MethodName)) ∈ tb := tb_of 207 (by decide +kernel) (by decide +kernel)
theorem mt_208 : (Jvm.Cond.selects "GrindMill$House" ({ cls := "GrindMill$House", name := "startAnew", desc := "(I)V" } : Jvm.MethodName) ({ cls := "GrindMill$House", name := "startAnew", desc := "(I)V" } : Jvm.MethodName)) ∈ tb := tb_of 208 (by decide +kernel) (by decide +kernel)
theorem ve_X10_25 : VE RX10 25 yX2_startAnew 2 := ⟨mt_403, mt_207, mt_208, ce_2⟩
theorem mt_404 : (Jvm.Cond.methodLink "GrindMill$Text" (31 : Nat) ({ cls := "GrindMill$Text", name := "passBlanks", desc := "()V" } : Jvm.MethodName)) ∈ tb := tb_of 404 (by decide +kernel) (by decide +kernel)
theorem mt_406 : (Jvm.Cond.instanceMethod ({ cls := "GrindMill$Text", name := "passBlanks", desc := "()V" } : Jvm.MethodName)) ∈ tb := tb_of 406 (by decide +kernel) (by decide +kernel)
theorem mt_1 : (Jvm.Cond.selects "GrindMill$Text" ({ cls := "GrindMill$Text", name := "passBlanks", desc := "()V" } : Jvm.MethodName) ({ cls := "GrindMill$Text", name := "passBlanks", desc := "()V" } : Jvm.MethodName)) ∈ tb := tb_of 1 (by decide +kernel) (by decide +kernel)
theorem ve_X10_31 : VE RX10 31 yX10_passBlanks 10 := ⟨mt_404, mt_406, mt_1, ce_10⟩
theorem mt_408 : (Jvm.Cond.methodLink "GrindMill$Text" (34 : Nat) ({ cls := "GrindMill$Text", name := "readFirstItem", desc := "(LGrindMill$House;)V" } : Jvm.MethodName)) ∈ tb := tb_of 408 (by decide +kernel) (by decide +kernel)
theorem mt_410 : (Jvm.Cond.instanceMethod ({ cls := "GrindMill$Text", name := "readFirstItem", desc := "(LGrindMill$House;)V" } : Jvm.MethodName)) ∈ tb := tb_of 410 (by decide +kernel) (by decide +kernel)
theorem mt_2 : (Jvm.Cond.selects "GrindMill$Text" ({ cls := "GrindMill$Text", name := "readFirstItem", desc := "(LGrindMill$House;)V" } : Jvm.MethodName) ({ cls := "GrindMill$Text", name := "readFirstItem", desc := "(LGrindMill$House;)V" } : Jvm.MethodName)) ∈ tb := tb_of 2 (by decide +kernel) (by decide +kernel)
theorem ve_X10_34 : VE RX10 34 yX10_readFirstItem 10 := ⟨mt_408, mt_410, mt_2, ce_10⟩
theorem mt_485 : (Jvm.Cond.methodLink "GrindMill$Text" (38 : Nat) ({ cls := "GrindMill$Text", name := "readLaterItem", desc := "(LGrindMill$House;)V" } : Jvm.MethodName)) ∈ tb := tb_of 485 (by decide +kernel) (by decide +kernel)
theorem mt_487 : (Jvm.Cond.instanceMethod ({ cls := "GrindMill$Text", name := "readLaterItem", desc := "(LGrindMill$House;)V" } : Jvm.MethodName)) ∈ tb := tb_of 487 (by decide +kernel) (by decide +kernel)
theorem mt_8 : (Jvm.Cond.selects "GrindMill$Text" ({ cls := "GrindMill$Text", name := "readLaterItem", desc := "(LGrindMill$House;)V" } : Jvm.MethodName) ({ cls := "GrindMill$Text", name := "readLaterItem", desc := "(LGrindMill$House;)V" } : Jvm.MethodName)) ∈ tb := tb_of 8 (by decide +kernel) (by decide +kernel)
theorem ve_X10_38 : VE RX10 38 yX10_readLaterItem 10 := ⟨mt_485, mt_487, mt_8, ce_10⟩
theorem mt_412 : (Jvm.Cond.methodLink "GrindMill$Text" (41 : Nat) ({ cls := "GrindMill$Text", name := "passLetters", desc := "()V" } : Jvm.MethodName)) ∈ tb := tb_of 412 (by decide +kernel) (by decide +kernel)
theorem mt_414 : (Jvm.Cond.instanceMethod ({ cls := "GrindMill$Text", name := "passLetters", desc := "()V" } : Jvm.MethodName)) ∈ tb := tb_of 414 (by decide +kernel) (by decide +kernel)
theorem mt_3 : (Jvm.Cond.selects "GrindMill$Text" ({ cls := "GrindMill$Text", name := "passLetters", desc := "()V" } : Jvm.MethodName) ({ cls := "GrindMill$Text", name := "passLetters", desc := "()V" } : Jvm.MethodName)) ∈ tb := tb_of 3 (by decide +kernel) (by decide +kernel)
theorem ve_X10_41 : VE RX10 41 yX10_passLetters 10 := ⟨mt_412, mt_414, mt_3, ce_10⟩
theorem mt_418 : (Jvm.Cond.methodLink "GrindMill$Text" (46 : Nat) ({ cls := "GrindMill$Text", name := "isNamed", desc := "(ILjava/lang/String;)Z" } : Jvm.MethodName)) ∈ tb := tb_of 418 (by decide +kernel) (by decide +kernel)
theorem mt_420 : (Jvm.Cond.instanceMethod ({ cls := "GrindMill$Text", name := "isNamed", desc := "(ILjava/lang/String;)Z" } : Jvm.MethodName)) ∈ tb := tb_of 420 (by decide +kernel) (by decide +kernel)
theorem mt_4 : (Jvm.Cond.selects "GrindMill$Text" ({ cls := "GrindMill$Text", name := "isNamed", desc := "(ILjava/lang/String;)Z" } : Jvm.MethodName) ({ cls := "GrindMill$Text", name := "isNamed", desc := "(ILjava/lang/String;)Z" } : Jvm.MethodName)) ∈ tb := tb_of 4 (by decide +kernel) (by decide +kernel)
theorem ve_X10_46 : VE RX10 46 yX10_isNamed 10 := ⟨mt_418, mt_420, mt_4, ce_10⟩
theorem mt_470 : (Jvm.Cond.methodLink "GrindMill$Text" (50 : Nat) ({ cls := "GrindMill$Text", name := "readNumber", desc := "(II)I" } : Jvm.MethodName)) ∈ tb := tb_of 470 (by decide +kernel) (by decide +kernel)
theorem mt_472 : (Jvm.Cond.instanceMethod ({ cls := "GrindMill$Text", name := "readNumber", desc := "(II)I" } : Jvm.MethodName)) ∈ tb := tb_of 472 (by decide +kernel) (by decide +kernel)
theorem mt_5 : (Jvm.Cond.selects "GrindMill$Text" ({ cls := "GrindMill$Text", name := "readNumber", desc := "(II)I" } : Jvm.MethodName) ({ cls := "GrindMill$Text", name := "readNumber", desc := "(II)I" } : Jvm.MethodName)) ∈ tb := tb_of 5 (by decide +kernel) (by decide +kernel)
theorem ve_X10_50 : VE RX10 50 yX10_readNumber 10 := ⟨mt_470, mt_472, mt_5, ce_10⟩
theorem mt_477 : (Jvm.Cond.methodLink "GrindMill$Text" (57 : Nat) ({ cls := "GrindMill$Text", name := "failAt", desc := "(I)V" } : Jvm.MethodName)) ∈ tb := tb_of 477 (by decide +kernel) (by decide +kernel)
theorem mt_479 : (Jvm.Cond.instanceMethod ({ cls := "GrindMill$Text", name := "failAt", desc := "(I)V" } : Jvm.MethodName)) ∈ tb := tb_of 479 (by decide +kernel) (by decide +kernel)
theorem mt_6 : (Jvm.Cond.selects "GrindMill$Text" ({ cls := "GrindMill$Text", name := "failAt", desc := "(I)V" } : Jvm.MethodName) ({ cls := "GrindMill$Text", name := "failAt", desc := "(I)V" } : Jvm.MethodName)) ∈ tb := tb_of 6 (by decide +kernel) (by decide +kernel)
theorem ve_X10_57 : VE RX10 57 yX10_failAt 10 := ⟨mt_477, mt_479, mt_6, ce_10⟩
theorem mt_481 : (Jvm.Cond.methodLink "GrindMill$Text" (60 : Nat) ({ cls := "GrindMill$Text", name := "readItemsEnd", desc := "()V" } : Jvm.MethodName)) ∈ tb := tb_of 481 (by decide +kernel) (by decide +kernel)
theorem mt_483 : (Jvm.Cond.instanceMethod ({ cls := "GrindMill$Text", name := "readItemsEnd", desc := "()V" } : Jvm.MethodName)) ∈ tb := tb_of 483 (by decide +kernel) (by decide +kernel)
theorem mt_7 : (Jvm.Cond.selects "GrindMill$Text" ({ cls := "GrindMill$Text", name := "readItemsEnd", desc := "()V" } : Jvm.MethodName) ({ cls := "GrindMill$Text", name := "readItemsEnd", desc := "()V" } : Jvm.MethodName)) ∈ tb := tb_of 7 (by decide +kernel) (by decide +kernel)
theorem ve_X10_60 : VE RX10 60 yX10_readItemsEnd 10 := ⟨mt_481, mt_483, mt_7, ce_10⟩
theorem mt_490 : (Jvm.Cond.methodLink "GrindMill$Text" (65 : Nat) ({ cls := "GrindMill$Text", name := "readGoods", desc := "(LGrindMill$House;I)V" } : Jvm.MethodName)) ∈ tb := tb_of 490 (by decide +kernel) (by decide +kernel)
theorem mt_492 : (Jvm.Cond.instanceMethod ({ cls := "GrindMill$Text", name := "readGoods", desc := "(LGrindMill$House;I)V" } : Jvm.MethodName)) ∈ tb := tb_of 492 (by decide +kernel) (by decide +kernel)
theorem mt_9 : (Jvm.Cond.selects "GrindMill$Text" ({ cls := "GrindMill$Text", name := "readGoods", desc := "(LGrindMill$House;I)V" } : Jvm.MethodName) ({ cls := "GrindMill$Text", name := "readGoods", desc := "(LGrindMill$House;I)V" } : Jvm.MethodName)) ∈ tb := tb_of 9 (by decide +kernel) (by decide +kernel)
theorem ve_X10_65 : VE RX10 65 yX10_readGoods 10 := ⟨mt_490, mt_492, mt_9, ce_10⟩
theorem mt_494 : (Jvm.Cond.methodLink "GrindMill$Text" (85 : Nat) ({ cls := "GrindMill$House", name := "addGoods", desc := "(III)V" } : Jvm.MethodName)) ∈ tb := tb_of 494 (by decide +kernel) (by decide +kernel)
theorem mt_369 : (Jvm.Cond.instanceMethod ({ cls := "GrindMill$House", name := "addGoods", desc := "(III)V" } : Jvm.MethodName)) ∈ tb := tb_of 369 (by decide +kernel) (by decide +kernel)
theorem mt_370 : (Jvm.Cond.selects "GrindMill$House" ({ cls := "GrindMill$House", name := "addGoods", desc := "(III)V" } : Jvm.MethodName) ({ cls := "GrindMill$House", name := "addGoods", desc := "(III)V" } : Jvm.MethodName)) ∈ tb := tb_of 370 (by decide +kernel) (by decide +kernel)
theorem ve_X10_85 : VE RX10 85 yX2_addGoods 2 := ⟨mt_494, mt_369, mt_370, ce_2⟩
theorem mt_387 : (Jvm.Cond.methodLink "GrindMill" (102 : Nat) ({ cls := "GrindMill$Text", name := "append", desc := "(I)V" } : Jvm.MethodName)) ∈ tb := tb_of 387 (by decide +kernel) (by decide +kernel)
theorem mt_388 : (Jvm.Cond.instanceMethod ({ cls := "GrindMill$Text", name := "append", desc := "(I)V" } : Jvm.MethodName)) ∈ tb := tb_of 388 (by decide +kernel) (by decide +kernel)
theorem mt_389 : (Jvm.Cond.selects "GrindMill$Text" ({ cls := "GrindMill$Text", name := "append", desc := "(I)V" } : Jvm.MethodName) ({ cls := "GrindMill$Text", name := "append", desc := "(I)V" } : Jvm.MethodName)) ∈ tb := tb_of 389 (by decide +kernel) (by decide +kernel)
theorem ve_X11_102 : VE RX11 102 yX10_append 10 := ⟨mt_387, mt_388, mt_389, ce_10⟩
theorem mt_399 : (Jvm.Cond.methodLink "GrindMill" (105 : Nat) ({ cls := "GrindMill$Text", name := "readInto", desc := "(LGrindMill$House;)I" } : Jvm.MethodName)) ∈ tb := tb_of 399 (by decide +kernel) (by decide +kernel)
theorem mt_400 : (Jvm.Cond.instanceMethod ({ cls := "GrindMill$Text", name := "readInto", desc := "(LGrindMill$House;)I" } : Jvm.MethodName)) ∈ tb := tb_of 400 (by decide +kernel) (by decide +kernel)
theorem mt_401 : (Jvm.Cond.selects "GrindMill$Text" ({ cls := "GrindMill$Text", name := "readInto", desc := "(LGrindMill$House;)I" } : Jvm.MethodName) ({ cls := "GrindMill$Text", name := "readInto", desc := "(LGrindMill$House;)I" } : Jvm.MethodName)) ∈ tb := tb_of 401 (by decide +kernel) (by decide +kernel)
theorem ve_X11_105 : VE RX11 105 yX10_readInto 10 := ⟨mt_399, mt_400, mt_401, ce_10⟩
theorem mt_502 : (Jvm.Cond.methodLink "GrindMill" (112 : Nat) ({ cls := "GrindMill$House", name := "has", desc := "(I)Z" } : Jvm.MethodName)) ∈ tb := tb_of 502 (by decide +kernel) (by decide +kernel)
theorem ve_X11_112 : VE RX11 112 yX2_has 2 := ⟨mt_502, mt_503, mt_504, ce_2⟩
theorem mt_506 : (Jvm.Cond.methodLink "GrindMill" (115 : Nat) ({ cls := "GrindMill", name := "refuseApart", desc := "()I" } : Jvm.MethodName)) ∈ tb := tb_of 506 (by decide +kernel) (by decide +kernel)
theorem mt_508 : (Jvm.Cond.instanceMethod ({ cls := "GrindMill", name := "refuseApart", desc := "()I" } : Jvm.MethodName)) ∈ tb := tb_of 508 (by decide +kernel) (by decide +kernel)
theorem mt_10 : (Jvm.Cond.selects "GrindMill" ({ cls := "GrindMill", name := "refuseApart", desc := "()I" } : Jvm.MethodName) ({ cls := "GrindMill", name := "refuseApart", desc := "()I" } : Jvm.MethodName)) ∈ tb := tb_of 10 (by decide +kernel) (by decide +kernel)
theorem ve_X11_115 : VE RX11 115 yX11_refuseApart 11 := ⟨mt_506, mt_508, mt_10, ce_11⟩
theorem mt_510 : (Jvm.Cond.methodLink "GrindMill" (119 : Nat) ({ cls := "GrindMill$House", name := "remember", desc := "()V" } : Jvm.MethodName)) ∈ tb := tb_of 510 (by decide +kernel) (by decide +kernel)
theorem mt_511 : (Jvm.Cond.instanceMethod ({ cls := "GrindMill$House", name := "remember", desc := "()V" } : Jvm.MethodName)) ∈ tb := tb_of 511 (by decide +kernel) (by decide +kernel)
theorem mt_512 : (Jvm.Cond.selects "GrindMill$House" ({ cls := "GrindMill$House", name := "remember", desc := "()V" } : Jvm.MethodName) ({ cls := "GrindMill$House", name := "remember", desc := "()V" } : Jvm.MethodName)) ∈ tb := tb_of 512 (by decide +kernel) (by decide +kernel)
theorem ve_X11_119 : VE RX11 119 yX2_remember 2 := ⟨mt_510, mt_511, mt_512, ce_2⟩
theorem mt_521 : (Jvm.Cond.methodLink "GrindMill" (125 : Nat) ({ cls := "GrindMill$House", name := "passHour", desc := "()I" } : Jvm.MethodName)) ∈ tb := tb_of 521 (by decide +kernel) (by decide +kernel)
theorem mt_522 : (Jvm.Cond.instanceMethod ({ cls := "GrindMill$House", name := "passHour", desc := "()I" } : Jvm.MethodName)) ∈ tb := tb_of 522 (by decide +kernel) (by decide +kernel)
theorem mt_523 : (Jvm.Cond.selects "GrindMill$House" ({ cls := "GrindMill$House", name := "passHour", desc := "()I" } : Jvm.MethodName) ({ cls := "GrindMill$House", name := "passHour", desc := "()I" } : Jvm.MethodName)) ∈ tb := tb_of 523 (by decide +kernel) (by decide +kernel)
theorem ve_X11_125 : VE RX11 125 yX2_passHour 2 := ⟨mt_521, mt_522, mt_523, ce_2⟩
theorem mt_577 : (Jvm.Cond.methodLink "GrindMill" (141 : Nat) ({ cls := "GrindMill$Goods", name := "giveAway", desc := "(I)I" } : Jvm.MethodName)) ∈ tb := tb_of 577 (by decide +kernel) (by decide +kernel)
theorem mt_578 : (Jvm.Cond.instanceMethod ({ cls := "GrindMill$Goods", name := "giveAway", desc := "(I)I" } : Jvm.MethodName)) ∈ tb := tb_of 578 (by decide +kernel) (by decide +kernel)
theorem mt_579 : (Jvm.Cond.selects "GrindMill$Goods" ({ cls := "GrindMill$Goods", name := "giveAway", desc := "(I)I" } : Jvm.MethodName) ({ cls := "GrindMill$Goods", name := "giveAway", desc := "(I)I" } : Jvm.MethodName)) ∈ tb := tb_of 579 (by decide +kernel) (by decide +kernel)
theorem ve_X11_141 : VE RX11 141 yX1_giveAway 1 := ⟨mt_577, mt_578, mt_579, ce_1⟩
theorem mt_617 : (Jvm.Cond.methodLink "GrindMill" (153 : Nat) ({ cls := "GrindMill$House", name := "goBack", desc := "()V" } : Jvm.MethodName)) ∈ tb := tb_of 617 (by decide +kernel) (by decide +kernel)
theorem mt_618 : (Jvm.Cond.instanceMethod ({ cls := "GrindMill$House", name := "goBack", desc := "()V" } : Jvm.MethodName)) ∈ tb := tb_of 618 (by decide +kernel) (by decide +kernel)
theorem mt_619 : (Jvm.Cond.selects "GrindMill$House" ({ cls := "GrindMill$House", name := "goBack", desc := "()V" } : Jvm.MethodName) ({ cls := "GrindMill$House", name := "goBack", desc := "()V" } : Jvm.MethodName)) ∈ tb := tb_of 619 (by decide +kernel) (by decide +kernel)
theorem ve_X11_153 : VE RX11 153 yX2_goBack 2 := ⟨mt_617, mt_618, mt_619, ce_2⟩
theorem mt_625 : (Jvm.Cond.methodLink "GrindMill" (171 : Nat) ({ cls := "GrindMill$Goods", name := "groundIn", desc := "(II)I" } : Jvm.MethodName)) ∈ tb := tb_of 625 (by decide +kernel) (by decide +kernel)
theorem ve_X11_171 : VE RX11 171 yX1_groundIn 1 := ⟨mt_625, mt_531, mt_532, ce_1⟩
theorem mt_626 : (Jvm.Cond.methodLink "GrindMill" (174 : Nat) ({ cls := "GrindMill$Goods", name := "fetchesWhen", desc := "(I)I" } : Jvm.MethodName)) ∈ tb := tb_of 626 (by decide +kernel) (by decide +kernel)
theorem ve_X11_174 : VE RX11 174 yX1_fetchesWhen 1 := ⟨mt_626, mt_586, mt_587, ce_1⟩
theorem mt_635 : (Jvm.Cond.methodLink "GrindMill" (177 : Nat) ({ cls := "GrindMill$House", name := "groundWithin", desc := "(II)I" } : Jvm.MethodName)) ∈ tb := tb_of 635 (by decide +kernel) (by decide +kernel)
theorem mt_636 : (Jvm.Cond.instanceMethod ({ cls := "GrindMill$House", name := "groundWithin", desc := "(II)I" } : Jvm.MethodName)) ∈ tb := tb_of 636 (by decide +kernel) (by decide +kernel)
theorem mt_637 : (Jvm.Cond.selects "GrindMill$House" ({ cls := "GrindMill$House", name := "groundWithin", desc := "(II)I" } : Jvm.MethodName) ({ cls := "GrindMill$House", name := "groundWithin", desc := "(II)I" } : Jvm.MethodName)) ∈ tb := tb_of 637 (by decide +kernel) (by decide +kernel)
theorem ve_X11_177 : VE RX11 177 yX2_groundWithin 2 := ⟨mt_635, mt_636, mt_637, ce_2⟩
theorem mt_639 : (Jvm.Cond.methodLink "GrindMill" (180 : Nat) ({ cls := "GrindMill$House", name := "allBushels", desc := "()I" } : Jvm.MethodName)) ∈ tb := tb_of 639 (by decide +kernel) (by decide +kernel)
theorem ve_X11_180 : VE RX11 180 yX2_allBushels 2 := ⟨mt_639, mt_556, mt_557, ce_2⟩
theorem mt_645 : (Jvm.Cond.methodLink "GrindMill" (194 : Nat) ({ cls := "GrindMill$House", name := "groundBy", desc := "(II)I" } : Jvm.MethodName)) ∈ tb := tb_of 645 (by decide +kernel) (by decide +kernel)
theorem ve_X11_194 : VE RX11 194 yX2_groundBy 2 := ⟨mt_645, mt_526, mt_527, ce_2⟩
theorem mt_650 : (Jvm.Cond.methodLink "GrindMill" (197 : Nat) ({ cls := "GrindMill$Plans", name := "fewestHours", desc := "(LGrindMill$House;I)I" } : Jvm.MethodName)) ∈ tb := tb_of 650 (by decide +kernel) (by decide +kernel)
theorem mt_651 : (Jvm.Cond.instanceMethod ({ cls := "GrindMill$Plans", name := "fewestHours", desc := "(LGrindMill$House;I)I" } : Jvm.MethodName)) ∈ tb := tb_of 651 (by decide +kernel) (by decide +kernel)
theorem mt_652 : (Jvm.Cond.selects "GrindMill$Plans" ({ cls := "GrindMill$Plans", name := "fewestHours", desc := "(LGrindMill$House;I)I" } : Jvm.MethodName) ({ cls := "GrindMill$Plans", name := "fewestHours", desc := "(LGrindMill$House;I)I" } : Jvm.MethodName)) ∈ tb := tb_of 652 (by decide +kernel) (by decide +kernel)
theorem ve_X11_197 : VE RX11 197 yX7_fewestHours 7 := ⟨mt_650, mt_651, mt_652, ce_7⟩
theorem mt_672 : (Jvm.Cond.methodLink "GrindMill" (204 : Nat) ({ cls := "GrindMill$Plans", name := "mostMoney", desc := "(LGrindMill$House;I)I" } : Jvm.MethodName)) ∈ tb := tb_of 672 (by decide +kernel) (by decide +kernel)
theorem mt_673 : (Jvm.Cond.instanceMethod ({ cls := "GrindMill$Plans", name := "mostMoney", desc := "(LGrindMill$House;I)I" } : Jvm.MethodName)) ∈ tb := tb_of 673 (by decide +kernel) (by decide +kernel)
theorem mt_674 : (Jvm.Cond.selects "GrindMill$Plans" ({ cls := "GrindMill$Plans", name := "mostMoney", desc := "(LGrindMill$House;I)I" } : Jvm.MethodName) ({ cls := "GrindMill$Plans", name := "mostMoney", desc := "(LGrindMill$House;I)I" } : Jvm.MethodName)) ∈ tb := tb_of 674 (by decide +kernel) (by decide +kernel)
theorem ve_X11_204 : VE RX11 204 yX7_mostMoney 7 := ⟨mt_672, mt_673, mt_674, ce_7⟩
theorem mt_696 : (Jvm.Cond.methodLink "GrindMill" (216 : Nat) ({ cls := "GrindMill$Clues", name := "addGuess", desc := "(II)V" } : Jvm.MethodName)) ∈ tb := tb_of 696 (by decide +kernel) (by decide +kernel)
theorem mt_697 : (Jvm.Cond.instanceMethod ({ cls := "GrindMill$Clues", name := "addGuess", desc := "(II)V" } : Jvm.MethodName)) ∈ tb := tb_of 697 (by decide +kernel) (by decide +kernel)
theorem mt_698 : (Jvm.Cond.selects "GrindMill$Clues" ({ cls := "GrindMill$Clues", name := "addGuess", desc := "(II)V" } : Jvm.MethodName) ({ cls := "GrindMill$Clues", name := "addGuess", desc := "(II)V" } : Jvm.MethodName)) ∈ tb := tb_of 698 (by decide +kernel) (by decide +kernel)
theorem ve_X11_216 : VE RX11 216 yX0_addGuess 0 := ⟨mt_696, mt_697, mt_698, ce_0⟩
theorem mt_704 : (Jvm.Cond.methodLink "GrindMill" (220 : Nat) ({ cls := "GrindMill$Clues", name := "fittingWords", desc := "()I" } : Jvm.MethodName)) ∈ tb := tb_of 704 (by decide +kernel) (by decide +kernel)
theorem ve_X11_220 : VE RX11 220 yX0_fittingWords 0 := ⟨mt_704, mt_705, mt_706, ce_0⟩
theorem mt_720 : (Jvm.Cond.methodLink "GrindMill" (231 : Nat) ({ cls := "GrindMill$Clues", name := "sharpestWord", desc := "()I" } : Jvm.MethodName)) ∈ tb := tb_of 720 (by decide +kernel) (by decide +kernel)
theorem mt_721 : (Jvm.Cond.instanceMethod ({ cls := "GrindMill$Clues", name := "sharpestWord", desc := "()I" } : Jvm.MethodName)) ∈ tb := tb_of 721 (by decide +kernel) (by decide +kernel)
theorem mt_722 : (Jvm.Cond.selects "GrindMill$Clues" ({ cls := "GrindMill$Clues", name := "sharpestWord", desc := "()I" } : Jvm.MethodName) ({ cls := "GrindMill$Clues", name := "sharpestWord", desc := "()I" } : Jvm.MethodName)) ∈ tb := tb_of 722 (by decide +kernel) (by decide +kernel)
theorem ve_X11_231 : VE RX11 231 yX0_sharpestWord 0 := ⟨mt_720, mt_721, mt_722, ce_0⟩
theorem mt_734 : (Jvm.Cond.methodLink "GrindMill" (234 : Nat) ({ cls := "GrindMill$Plans", name := "restingPairs", desc := "(LGrindMill$House;II)I" } : Jvm.MethodName)) ∈ tb := tb_of 734 (by decide +kernel) (by decide +kernel)
theorem mt_735 : (Jvm.Cond.instanceMethod ({ cls := "GrindMill$Plans", name := "restingPairs", desc := "(LGrindMill$House;II)I" } : Jvm.MethodName)) ∈ tb := tb_of 735 (by decide +kernel) (by decide +kernel)
theorem mt_736 : (Jvm.Cond.selects "GrindMill$Plans" ({ cls := "GrindMill$Plans", name := "restingPairs", desc := "(LGrindMill$House;II)I" } : Jvm.MethodName) ({ cls := "GrindMill$Plans", name := "restingPairs", desc := "(LGrindMill$House;II)I" } : Jvm.MethodName)) ∈ tb := tb_of 736 (by decide +kernel) (by decide +kernel)
theorem ve_X11_234 : VE RX11 234 yX7_restingPairs 7 := ⟨mt_734, mt_735, mt_736, ce_7⟩
theorem mt_759 : (Jvm.Cond.methodLink "GrindMill" (241 : Nat) ({ cls := "GrindMill$Clues", name := "addNote", desc := "(IIII)V" } : Jvm.MethodName)) ∈ tb := tb_of 759 (by decide +kernel) (by decide +kernel)
theorem mt_760 : (Jvm.Cond.instanceMethod ({ cls := "GrindMill$Clues", name := "addNote", desc := "(IIII)V" } : Jvm.MethodName)) ∈ tb := tb_of 760 (by decide +kernel) (by decide +kernel)
theorem mt_761 : (Jvm.Cond.selects "GrindMill$Clues" ({ cls := "GrindMill$Clues", name := "addNote", desc := "(IIII)V" } : Jvm.MethodName) ({ cls := "GrindMill$Clues", name := "addNote", desc := "(IIII)V" } : Jvm.MethodName)) ∈ tb := tb_of 761 (by decide +kernel) (by decide +kernel)
theorem ve_X11_241 : VE RX11 241 yX0_addNote 0 := ⟨mt_759, mt_760, mt_761, ce_0⟩
theorem mt_771 : (Jvm.Cond.methodLink "GrindMill" (245 : Nat) ({ cls := "GrindMill$Clues", name := "fittingKinds", desc := "(II)I" } : Jvm.MethodName)) ∈ tb := tb_of 771 (by decide +kernel) (by decide +kernel)
theorem ve_X11_245 : VE RX11 245 yX0_fittingKinds 0 := ⟨mt_771, mt_772, mt_773, ce_0⟩
theorem mt_780 : (Jvm.Cond.methodLink "GrindMill" (248 : Nat) ({ cls := "GrindMill$Clues", name := "fittingRates", desc := "(II)I" } : Jvm.MethodName)) ∈ tb := tb_of 780 (by decide +kernel) (by decide +kernel)
theorem mt_781 : (Jvm.Cond.instanceMethod ({ cls := "GrindMill$Clues", name := "fittingRates", desc := "(II)I" } : Jvm.MethodName)) ∈ tb := tb_of 781 (by decide +kernel) (by decide +kernel)
theorem mt_782 : (Jvm.Cond.selects "GrindMill$Clues" ({ cls := "GrindMill$Clues", name := "fittingRates", desc := "(II)I" } : Jvm.MethodName) ({ cls := "GrindMill$Clues", name := "fittingRates", desc := "(II)I" } : Jvm.MethodName)) ∈ tb := tb_of 782 (by decide +kernel) (by decide +kernel)
theorem ve_X11_248 : VE RX11 248 yX0_fittingRates 0 := ⟨mt_780, mt_781, mt_782, ce_0⟩
theorem mt_788 : (Jvm.Cond.methodLink "GrindMill" (251 : Nat) ({ cls := "GrindMill$Clues", name := "sharpestLook", desc := "(II)I" } : Jvm.MethodName)) ∈ tb := tb_of 788 (by decide +kernel) (by decide +kernel)
theorem mt_789 : (Jvm.Cond.instanceMethod ({ cls := "GrindMill$Clues", name := "sharpestLook", desc := "(II)I" } : Jvm.MethodName)) ∈ tb := tb_of 789 (by decide +kernel) (by decide +kernel)
theorem mt_790 : (Jvm.Cond.selects "GrindMill$Clues" ({ cls := "GrindMill$Clues", name := "sharpestLook", desc := "(II)I" } : Jvm.MethodName) ({ cls := "GrindMill$Clues", name := "sharpestLook", desc := "(II)I" } : Jvm.MethodName)) ∈ tb := tb_of 790 (by decide +kernel) (by decide +kernel)
theorem ve_X11_251 : VE RX11 251 yX0_sharpestLook 0 := ⟨mt_788, mt_789, mt_790, ce_0⟩
theorem mt_830 : (Jvm.Cond.methodLink "GrindMill" (274 : Nat) ({ cls := "GrindMill$House", name := "copyFrom", desc := "(LGrindMill$House;)V" } : Jvm.MethodName)) ∈ tb := tb_of 830 (by decide +kernel) (by decide +kernel)
theorem mt_831 : (Jvm.Cond.instanceMethod ({ cls := "GrindMill$House", name := "copyFrom", desc := "(LGrindMill$House;)V" } : Jvm.MethodName)) ∈ tb := tb_of 831 (by decide +kernel) (by decide +kernel)
theorem mt_832 : (Jvm.Cond.selects "GrindMill$House" ({ cls := "GrindMill$House", name := "copyFrom", desc := "(LGrindMill$House;)V" } : Jvm.MethodName) ({ cls := "GrindMill$House", name := "copyFrom", desc := "(LGrindMill$House;)V" } : Jvm.MethodName)) ∈ tb := tb_of 832 (by decide +kernel) (by decide +kernel)
theorem ve_X11_274 : VE RX11 274 yX2_copyFrom 2 := ⟨mt_830, mt_831, mt_832, ce_2⟩
theorem mt_856 : (Jvm.Cond.methodLink "GrindMill" (278 : Nat) ({ cls := "GrindMill", name := "amountOf", desc := "(I)I" } : Jvm.MethodName)) ∈ tb := tb_of 856 (by decide +kernel) (by decide +kernel)
theorem mt_858 : (Jvm.Cond.instanceMethod ({ cls := "GrindMill", name := "amountOf", desc := "(I)I" } : Jvm.MethodName)) ∈ tb := tb_of 858 (by decide +kernel) (by decide +kernel)
theorem mt_25 : (Jvm.Cond.selects "GrindMill" ({ cls := "GrindMill", name := "amountOf", desc := "(I)I" } : Jvm.MethodName) ({ cls := "GrindMill", name := "amountOf", desc := "(I)I" } : Jvm.MethodName)) ∈ tb := tb_of 25 (by decide +kernel) (by decide +kernel)
theorem ve_X11_278 : VE RX11 278 yX11_amountOf 11 := ⟨mt_856, mt_858, mt_25, ce_11⟩
theorem mt_866 : (Jvm.Cond.methodLink "GrindMill" (285 : Nat) ({ cls := "GrindMill$House", name := "mixInto", desc := "(J)J" } : Jvm.MethodName)) ∈ tb := tb_of 866 (by decide +kernel) (by decide +kernel)
theorem mt_867 : (Jvm.Cond.instanceMethod ({ cls := "GrindMill$House", name := "mixInto", desc := "(J)J" } : Jvm.MethodName)) ∈ tb := tb_of 867 (by decide +kernel) (by decide +kernel)
theorem mt_868 : (Jvm.Cond.selects "GrindMill$House" ({ cls := "GrindMill$House", name := "mixInto", desc := "(J)J" } : Jvm.MethodName) ({ cls := "GrindMill$House", name := "mixInto", desc := "(J)J" } : Jvm.MethodName)) ∈ tb := tb_of 868 (by decide +kernel) (by decide +kernel)
theorem ve_X11_285 : VE RX11 285 yX2_mixInto 2 := ⟨mt_866, mt_867, mt_868, ce_2⟩
theorem mt_359 : (Jvm.Cond.methodLink "GrindMill" (76 : Nat) ({ cls := "GrindMill", name := "refuse", desc := "(I)I" } : Jvm.MethodName)) ∈ tb := tb_of 359 (by decide +kernel) (by decide +kernel)
theorem mt_361 : (Jvm.Cond.instanceMethod ({ cls := "GrindMill", name := "refuse", desc := "(I)I" } : Jvm.MethodName)) ∈ tb := tb_of 361 (by decide +kernel) (by decide +kernel)
theorem mt_0 : (Jvm.Cond.selects "GrindMill" ({ cls := "GrindMill", name := "refuse", desc := "(I)I" } : Jvm.MethodName) ({ cls := "GrindMill", name := "refuse", desc := "(I)I" } : Jvm.MethodName)) ∈ tb := tb_of 0 (by decide +kernel) (by decide +kernel)
theorem ve_X11_76 : VE RX11 76 yX11_refuse 11 := ⟨mt_359, mt_361, mt_0, ce_11⟩
theorem mt_363 : (Jvm.Cond.methodLink "GrindMill" (84 : Nat) ({ cls := "GrindMill$House", name := "startAnew", desc := "(I)V" } : Jvm.MethodName)) ∈ tb := tb_of 363 (by decide +kernel) (by decide +kernel)
theorem ve_X11_84 : VE RX11 84 yX2_startAnew 2 := ⟨mt_363, mt_207, mt_208, ce_2⟩
theorem mt_368 : (Jvm.Cond.methodLink "GrindMill" (88 : Nat) ({ cls := "GrindMill$House", name := "addGoods", desc := "(III)V" } : Jvm.MethodName)) ∈ tb := tb_of 368 (by decide +kernel) (by decide +kernel)
theorem ve_X11_88 : VE RX11 88 yX2_addGoods 2 := ⟨mt_368, mt_369, mt_370, ce_2⟩
theorem mt_1006 : (Jvm.Cond.methodLink "GrindMillModel" (110 : Nat) ({ cls := "GrindMillModel", name := "wordHere", desc := "()I" } : Jvm.MethodName)) ∈ tb := tb_of 1006 (by decide +kernel) (by decide +kernel)
theorem mt_1008 : (Jvm.Cond.instanceMethod ({ cls := "GrindMillModel", name := "wordHere", desc := "()I" } : Jvm.MethodName)) ∈ tb := tb_of 1008 (by decide +kernel) (by decide +kernel)
theorem mt_33 : (Jvm.Cond.selects "GrindMillModel" ({ cls := "GrindMillModel", name := "wordHere", desc := "()I" } : Jvm.MethodName) ({ cls := "GrindMillModel", name := "wordHere", desc := "()I" } : Jvm.MethodName)) ∈ tb := tb_of 33 (by decide +kernel) (by decide +kernel)
theorem ve_X12_110 : VE RX12 110 yX12_wordHere 12 := ⟨mt_1006, mt_1008, mt_33, ce_12⟩
theorem mt_1014 : (Jvm.Cond.methodLink "GrindMillModel" (114 : Nat) ({ cls := "GrindMillModel", name := "readsItem", desc := "(I)Z" } : Jvm.MethodName)) ∈ tb := tb_of 1014 (by decide +kernel) (by decide +kernel)
theorem mt_1016 : (Jvm.Cond.instanceMethod ({ cls := "GrindMillModel", name := "readsItem", desc := "(I)Z" } : Jvm.MethodName)) ∈ tb := tb_of 1016 (by decide +kernel) (by decide +kernel)
theorem mt_35 : (Jvm.Cond.selects "GrindMillModel" ({ cls := "GrindMillModel", name := "readsItem", desc := "(I)Z" } : Jvm.MethodName) ({ cls := "GrindMillModel", name := "readsItem", desc := "(I)Z" } : Jvm.MethodName)) ∈ tb := tb_of 35 (by decide +kernel) (by decide +kernel)
theorem ve_X12_114 : VE RX12 114 yX12_readsItem 12 := ⟨mt_1014, mt_1016, mt_35, ce_12⟩
theorem mt_990 : (Jvm.Cond.methodLink "GrindMillModel" (117 : Nat) ({ cls := "GrindMillModel", name := "readItems", desc := "()I" } : Jvm.MethodName)) ∈ tb := tb_of 990 (by decide +kernel) (by decide +kernel)
theorem mt_992 : (Jvm.Cond.instanceMethod ({ cls := "GrindMillModel", name := "readItems", desc := "()I" } : Jvm.MethodName)) ∈ tb := tb_of 992 (by decide +kernel) (by decide +kernel)
theorem mt_29 : (Jvm.Cond.selects "GrindMillModel" ({ cls := "GrindMillModel", name := "readItems", desc := "()I" } : Jvm.MethodName) ({ cls := "GrindMillModel", name := "readItems", desc := "()I" } : Jvm.MethodName)) ∈ tb := tb_of 29 (by decide +kernel) (by decide +kernel)
theorem ve_X12_117 : VE RX12 117 yX12_readItems 12 := ⟨mt_990, mt_992, mt_29, ce_12⟩
theorem mt_1050 : (Jvm.Cond.methodLink "GrindMillModel" (124 : Nat) ({ cls := "GrindMillModel", name := "ground", desc := "(III)I" } : Jvm.MethodName)) ∈ tb := tb_of 1050 (by decide +kernel) (by decide +kernel)
theorem mt_1052 : (Jvm.Cond.instanceMethod ({ cls := "GrindMillModel", name := "ground", desc := "(III)I" } : Jvm.MethodName)) ∈ tb := tb_of 1052 (by decide +kernel) (by decide +kernel)
theorem mt_42 : (Jvm.Cond.selects "GrindMillModel" ({ cls := "GrindMillModel", name := "ground", desc := "(III)I" } : Jvm.MethodName) ({ cls := "GrindMillModel", name := "ground", desc := "(III)I" } : Jvm.MethodName)) ∈ tb := tb_of 42 (by decide +kernel) (by decide +kernel)
theorem ve_X12_124 : VE RX12 124 yX12_ground 12 := ⟨mt_1050, mt_1052, mt_42, ce_12⟩
theorem mt_1057 : (Jvm.Cond.methodLink "GrindMillModel" (128 : Nat) ({ cls := "GrindMillModel", name := "inHouse", desc := "(I)I" } : Jvm.MethodName)) ∈ tb := tb_of 1057 (by decide +kernel) (by decide +kernel)
theorem mt_1059 : (Jvm.Cond.instanceMethod ({ cls := "GrindMillModel", name := "inHouse", desc := "(I)I" } : Jvm.MethodName)) ∈ tb := tb_of 1059 (by decide +kernel) (by decide +kernel)
theorem mt_43 : (Jvm.Cond.selects "GrindMillModel" ({ cls := "GrindMillModel", name := "inHouse", desc := "(I)I" } : Jvm.MethodName) ({ cls := "GrindMillModel", name := "inHouse", desc := "(I)I" } : Jvm.MethodName)) ∈ tb := tb_of 43 (by decide +kernel) (by decide +kernel)
theorem ve_X12_128 : VE RX12 128 yX12_inHouse 12 := ⟨mt_1057, mt_1059, mt_43, ce_12⟩
theorem mt_1030 : (Jvm.Cond.methodLink "GrindMillModel" (131 : Nat) ({ cls := "GrindMillModel", name := "isGoods", desc := "(I)Z" } : Jvm.MethodName)) ∈ tb := tb_of 1030 (by decide +kernel) (by decide +kernel)
theorem mt_1032 : (Jvm.Cond.instanceMethod ({ cls := "GrindMillModel", name := "isGoods", desc := "(I)Z" } : Jvm.MethodName)) ∈ tb := tb_of 1032 (by decide +kernel) (by decide +kernel)
theorem mt_38 : (Jvm.Cond.selects "GrindMillModel" ({ cls := "GrindMillModel", name := "isGoods", desc := "(I)Z" } : Jvm.MethodName) ({ cls := "GrindMillModel", name := "isGoods", desc := "(I)Z" } : Jvm.MethodName)) ∈ tb := tb_of 38 (by decide +kernel) (by decide +kernel)
theorem ve_X12_131 : VE RX12 131 yX12_isGoods 12 := ⟨mt_1030, mt_1032, mt_38, ce_12⟩
theorem mt_1034 : (Jvm.Cond.methodLink "GrindMillModel" (134 : Nat) ({ cls := "GrindMillModel", name := "badTen", desc := "()I" } : Jvm.MethodName)) ∈ tb := tb_of 1034 (by decide +kernel) (by decide +kernel)
theorem mt_1036 : (Jvm.Cond.instanceMethod ({ cls := "GrindMillModel", name := "badTen", desc := "()I" } : Jvm.MethodName)) ∈ tb := tb_of 1036 (by decide +kernel) (by decide +kernel)
theorem mt_39 : (Jvm.Cond.selects "GrindMillModel" ({ cls := "GrindMillModel", name := "badTen", desc := "()I" } : Jvm.MethodName) ({ cls := "GrindMillModel", name := "badTen", desc := "()I" } : Jvm.MethodName)) ∈ tb := tb_of 39 (by decide +kernel) (by decide +kernel)
theorem ve_X12_134 : VE RX12 134 yX12_badTen 12 := ⟨mt_1034, mt_1036, mt_39, ce_12⟩
theorem mt_1038 : (Jvm.Cond.methodLink "GrindMillModel" (137 : Nat) ({ cls := "GrindMillModel", name := "keepPast", desc := "()V" } : Jvm.MethodName)) ∈ tb := tb_of 1038 (by decide +kernel) (by decide +kernel)
theorem mt_1040 : (Jvm.Cond.instanceMethod ({ cls := "GrindMillModel", name := "keepPast", desc := "()V" } : Jvm.MethodName)) ∈ tb := tb_of 1040 (by decide +kernel) (by decide +kernel)
theorem mt_40 : (Jvm.Cond.selects "GrindMillModel" ({ cls := "GrindMillModel", name := "keepPast", desc := "()V" } : Jvm.MethodName) ({ cls := "GrindMillModel", name := "keepPast", desc := "()V" } : Jvm.MethodName)) ∈ tb := tb_of 40 (by decide +kernel) (by decide +kernel)
theorem ve_X12_137 : VE RX12 137 yX12_keepPast 12 := ⟨mt_1038, mt_1040, mt_40, ce_12⟩
theorem mt_1046 : (Jvm.Cond.methodLink "GrindMillModel" (140 : Nat) ({ cls := "GrindMillModel", name := "pass", desc := "(II)I" } : Jvm.MethodName)) ∈ tb := tb_of 1046 (by decide +kernel) (by decide +kernel)
theorem mt_1048 : (Jvm.Cond.instanceMethod ({ cls := "GrindMillModel", name := "pass", desc := "(II)I" } : Jvm.MethodName)) ∈ tb := tb_of 1048 (by decide +kernel) (by decide +kernel)
theorem mt_41 : (Jvm.Cond.selects "GrindMillModel" ({ cls := "GrindMillModel", name := "pass", desc := "(II)I" } : Jvm.MethodName) ({ cls := "GrindMillModel", name := "pass", desc := "(II)I" } : Jvm.MethodName)) ∈ tb := tb_of 41 (by decide +kernel) (by decide +kernel)
theorem ve_X12_140 : VE RX12 140 yX12_pass 12 := ⟨mt_1046, mt_1048, mt_41, ce_12⟩
theorem mt_1075 : (Jvm.Cond.methodLink "GrindMillModel" (150 : Nat) ({ cls := "GrindMillModel", name := "fetches", desc := "(II)I" } : Jvm.MethodName)) ∈ tb := tb_of 1075 (by decide +kernel) (by decide +kernel)
theorem mt_1077 : (Jvm.Cond.instanceMethod ({ cls := "GrindMillModel", name := "fetches", desc := "(II)I" } : Jvm.MethodName)) ∈ tb := tb_of 1077 (by decide +kernel) (by decide +kernel)
theorem mt_44 : (Jvm.Cond.selects "GrindMillModel" ({ cls := "GrindMillModel", name := "fetches", desc := "(II)I" } : Jvm.MethodName) ({ cls := "GrindMillModel", name := "fetches", desc := "(II)I" } : Jvm.MethodName)) ∈ tb := tb_of 44 (by decide +kernel) (by decide +kernel)
theorem ve_X12_150 : VE RX12 150 yX12_fetches 12 := ⟨mt_1075, mt_1077, mt_44, ce_12⟩
theorem mt_1099 : (Jvm.Cond.methodLink "GrindMillModel" (153 : Nat) ({ cls := "GrindMillModel", name := "layTried", desc := "()V" } : Jvm.MethodName)) ∈ tb := tb_of 1099 (by decide +kernel) (by decide +kernel)
theorem mt_1101 : (Jvm.Cond.instanceMethod ({ cls := "GrindMillModel", name := "layTried", desc := "()V" } : Jvm.MethodName)) ∈ tb := tb_of 1101 (by decide +kernel) (by decide +kernel)
theorem mt_45 : (Jvm.Cond.selects "GrindMillModel" ({ cls := "GrindMillModel", name := "layTried", desc := "()V" } : Jvm.MethodName) ({ cls := "GrindMillModel", name := "layTried", desc := "()V" } : Jvm.MethodName)) ∈ tb := tb_of 45 (by decide +kernel) (by decide +kernel)
theorem ve_X12_153 : VE RX12 153 yX12_layTried 12 := ⟨mt_1099, mt_1101, mt_45, ce_12⟩
theorem mt_1111 : (Jvm.Cond.methodLink "GrindMillModel" (156 : Nat) ({ cls := "GrindMillModel", name := "layFewest", desc := "(I)V" } : Jvm.MethodName)) ∈ tb := tb_of 1111 (by decide +kernel) (by decide +kernel)
theorem mt_1113 : (Jvm.Cond.instanceMethod ({ cls := "GrindMillModel", name := "layFewest", desc := "(I)V" } : Jvm.MethodName)) ∈ tb := tb_of 1113 (by decide +kernel) (by decide +kernel)
theorem mt_46 : (Jvm.Cond.selects "GrindMillModel" ({ cls := "GrindMillModel", name := "layFewest", desc := "(I)V" } : Jvm.MethodName) ({ cls := "GrindMillModel", name := "layFewest", desc := "(I)V" } : Jvm.MethodName)) ∈ tb := tb_of 46 (by decide +kernel) (by decide +kernel)
theorem ve_X12_156 : VE RX12 156 yX12_layFewest 12 := ⟨mt_1111, mt_1113, mt_46, ce_12⟩
theorem mt_1123 : (Jvm.Cond.methodLink "GrindMillModel" (159 : Nat) ({ cls := "GrindMillModel", name := "brings", desc := "(II)I" } : Jvm.MethodName)) ∈ tb := tb_of 1123 (by decide +kernel) (by decide +kernel)
theorem mt_1125 : (Jvm.Cond.instanceMethod ({ cls := "GrindMillModel", name := "brings", desc := "(II)I" } : Jvm.MethodName)) ∈ tb := tb_of 1125 (by decide +kernel) (by decide +kernel)
theorem mt_48 : (Jvm.Cond.selects "GrindMillModel" ({ cls := "GrindMillModel", name := "brings", desc := "(II)I" } : Jvm.MethodName) ({ cls := "GrindMillModel", name := "brings", desc := "(II)I" } : Jvm.MethodName)) ∈ tb := tb_of 48 (by decide +kernel) (by decide +kernel)
theorem ve_X12_159 : VE RX12 159 yX12_brings 12 := ⟨mt_1123, mt_1125, mt_48, ce_12⟩
theorem mt_1119 : (Jvm.Cond.methodLink "GrindMillModel" (162 : Nat) ({ cls := "GrindMillModel", name := "layRichest", desc := "(I)V" } : Jvm.MethodName)) ∈ tb := tb_of 1119 (by decide +kernel) (by decide +kernel)
theorem mt_1121 : (Jvm.Cond.instanceMethod ({ cls := "GrindMillModel", name := "layRichest", desc := "(I)V" } : Jvm.MethodName)) ∈ tb := tb_of 1121 (by decide +kernel) (by decide +kernel)
theorem mt_47 : (Jvm.Cond.selects "GrindMillModel" ({ cls := "GrindMillModel", name := "layRichest", desc := "(I)V" } : Jvm.MethodName) ({ cls := "GrindMillModel", name := "layRichest", desc := "(I)V" } : Jvm.MethodName)) ∈ tb := tb_of 47 (by decide +kernel) (by decide +kernel)
theorem ve_X12_162 : VE RX12 162 yX12_layRichest 12 := ⟨mt_1119, mt_1121, mt_47, ce_12⟩
theorem mt_1139 : (Jvm.Cond.methodLink "GrindMillModel" (165 : Nat) ({ cls := "GrindMillModel", name := "mayBe", desc := "(I)Z" } : Jvm.MethodName)) ∈ tb := tb_of 1139 (by decide +kernel) (by decide +kernel)
theorem mt_1141 : (Jvm.Cond.instanceMethod ({ cls := "GrindMillModel", name := "mayBe", desc := "(I)Z" } : Jvm.MethodName)) ∈ tb := tb_of 1141 (by decide +kernel) (by decide +kernel)
theorem mt_49 : (Jvm.Cond.selects "GrindMillModel" ({ cls := "GrindMillModel", name := "mayBe", desc := "(I)Z" } : Jvm.MethodName) ({ cls := "GrindMillModel", name := "mayBe", desc := "(I)Z" } : Jvm.MethodName)) ∈ tb := tb_of 49 (by decide +kernel) (by decide +kernel)
theorem ve_X12_165 : VE RX12 165 yX12_mayBe 12 := ⟨mt_1139, mt_1141, mt_49, ce_12⟩
theorem mt_1147 : (Jvm.Cond.methodLink "GrindMillModel" (168 : Nat) ({ cls := "GrindMillModel", name := "mostAlike", desc := "(I)I" } : Jvm.MethodName)) ∈ tb := tb_of 1147 (by decide +kernel) (by decide +kernel)
theorem mt_1149 : (Jvm.Cond.instanceMethod ({ cls := "GrindMillModel", name := "mostAlike", desc := "(I)I" } : Jvm.MethodName)) ∈ tb := tb_of 1149 (by decide +kernel) (by decide +kernel)
theorem mt_50 : (Jvm.Cond.selects "GrindMillModel" ({ cls := "GrindMillModel", name := "mostAlike", desc := "(I)I" } : Jvm.MethodName) ({ cls := "GrindMillModel", name := "mostAlike", desc := "(I)I" } : Jvm.MethodName)) ∈ tb := tb_of 50 (by decide +kernel) (by decide +kernel)
theorem ve_X12_168 : VE RX12 168 yX12_mostAlike 12 := ⟨mt_1147, mt_1149, mt_50, ce_12⟩
theorem mt_1155 : (Jvm.Cond.methodLink "GrindMillModel" (171 : Nat) ({ cls := "GrindMillModel", name := "layStreet", desc := "(I)V" } : Jvm.MethodName)) ∈ tb := tb_of 1155 (by decide +kernel) (by decide +kernel)
theorem mt_1157 : (Jvm.Cond.instanceMethod ({ cls := "GrindMillModel", name := "layStreet", desc := "(I)V" } : Jvm.MethodName)) ∈ tb := tb_of 1157 (by decide +kernel) (by decide +kernel)
theorem mt_51 : (Jvm.Cond.selects "GrindMillModel" ({ cls := "GrindMillModel", name := "layStreet", desc := "(I)V" } : Jvm.MethodName) ({ cls := "GrindMillModel", name := "layStreet", desc := "(I)V" } : Jvm.MethodName)) ∈ tb := tb_of 51 (by decide +kernel) (by decide +kernel)
theorem ve_X12_171 : VE RX12 171 yX12_layStreet 12 := ⟨mt_1155, mt_1157, mt_51, ce_12⟩
theorem mt_1159 : (Jvm.Cond.methodLink "GrindMillModel" (174 : Nat) ({ cls := "GrindMillModel", name := "rests", desc := "(II)Z" } : Jvm.MethodName)) ∈ tb := tb_of 1159 (by decide +kernel) (by decide +kernel)
theorem mt_1161 : (Jvm.Cond.instanceMethod ({ cls := "GrindMillModel", name := "rests", desc := "(II)Z" } : Jvm.MethodName)) ∈ tb := tb_of 1161 (by decide +kernel) (by decide +kernel)
theorem mt_52 : (Jvm.Cond.selects "GrindMillModel" ({ cls := "GrindMillModel", name := "rests", desc := "(II)Z" } : Jvm.MethodName) ({ cls := "GrindMillModel", name := "rests", desc := "(II)Z" } : Jvm.MethodName)) ∈ tb := tb_of 52 (by decide +kernel) (by decide +kernel)
theorem ve_X12_174 : VE RX12 174 yX12_rests 12 := ⟨mt_1159, mt_1161, mt_52, ce_12⟩
theorem mt_1179 : (Jvm.Cond.methodLink "GrindMillModel" (177 : Nat) ({ cls := "GrindMillModel", name := "isNoted", desc := "(III)Z" } : Jvm.MethodName)) ∈ tb := tb_of 1179 (by decide +kernel) (by decide +kernel)
theorem mt_1181 : (Jvm.Cond.instanceMethod ({ cls := "GrindMillModel", name := "isNoted", desc := "(III)Z" } : Jvm.MethodName)) ∈ tb := tb_of 1181 (by decide +kernel) (by decide +kernel)
theorem mt_54 : (Jvm.Cond.selects "GrindMillModel" ({ cls := "GrindMillModel", name := "isNoted", desc := "(III)Z" } : Jvm.MethodName) ({ cls := "GrindMillModel", name := "isNoted", desc := "(III)Z" } : Jvm.MethodName)) ∈ tb := tb_of 54 (by decide +kernel) (by decide +kernel)
theorem ve_X12_177 : VE RX12 177 yX12_isNoted 12 := ⟨mt_1179, mt_1181, mt_54, ce_12⟩
theorem mt_1175 : (Jvm.Cond.methodLink "GrindMillModel" (180 : Nat) ({ cls := "GrindMillModel", name := "kindsOf", desc := "(I)I" } : Jvm.MethodName)) ∈ tb := tb_of 1175 (by decide +kernel) (by decide +kernel)
theorem mt_1177 : (Jvm.Cond.instanceMethod ({ cls := "GrindMillModel", name := "kindsOf", desc := "(I)I" } : Jvm.MethodName)) ∈ tb := tb_of 1177 (by decide +kernel) (by decide +kernel)
theorem mt_53 : (Jvm.Cond.selects "GrindMillModel" ({ cls := "GrindMillModel", name := "kindsOf", desc := "(I)I" } : Jvm.MethodName) ({ cls := "GrindMillModel", name := "kindsOf", desc := "(I)I" } : Jvm.MethodName)) ∈ tb := tb_of 53 (by decide +kernel) (by decide +kernel)
theorem ve_X12_180 : VE RX12 180 yX12_kindsOf 12 := ⟨mt_1175, mt_1177, mt_53, ce_12⟩
theorem mt_1187 : (Jvm.Cond.methodLink "GrindMillModel" (183 : Nat) ({ cls := "GrindMillModel", name := "mostKinds", desc := "(IIII)I" } : Jvm.MethodName)) ∈ tb := tb_of 1187 (by decide +kernel) (by decide +kernel)
theorem mt_1189 : (Jvm.Cond.instanceMethod ({ cls := "GrindMillModel", name := "mostKinds", desc := "(IIII)I" } : Jvm.MethodName)) ∈ tb := tb_of 1189 (by decide +kernel) (by decide +kernel)
theorem mt_55 : (Jvm.Cond.selects "GrindMillModel" ({ cls := "GrindMillModel", name := "mostKinds", desc := "(IIII)I" } : Jvm.MethodName) ({ cls := "GrindMillModel", name := "mostKinds", desc := "(IIII)I" } : Jvm.MethodName)) ∈ tb := tb_of 55 (by decide +kernel) (by decide +kernel)
theorem ve_X12_183 : VE RX12 183 yX12_mostKinds 12 := ⟨mt_1187, mt_1189, mt_55, ce_12⟩
theorem mt_1196 : (Jvm.Cond.methodLink "GrindMillModel" (191 : Nat) ({ cls := "GrindMillModel", name := "tellPart", desc := "(JJ)V" } : Jvm.MethodName)) ∈ tb := tb_of 1196 (by decide +kernel) (by decide +kernel)
theorem mt_1198 : (Jvm.Cond.instanceMethod ({ cls := "GrindMillModel", name := "tellPart", desc := "(JJ)V" } : Jvm.MethodName)) ∈ tb := tb_of 1198 (by decide +kernel) (by decide +kernel)
theorem mt_56 : (Jvm.Cond.selects "GrindMillModel" ({ cls := "GrindMillModel", name := "tellPart", desc := "(JJ)V" } : Jvm.MethodName) ({ cls := "GrindMillModel", name := "tellPart", desc := "(JJ)V" } : Jvm.MethodName)) ∈ tb := tb_of 56 (by decide +kernel) (by decide +kernel)
theorem ve_X12_191 : VE RX12 191 yX12_tellPart 12 := ⟨mt_1196, mt_1198, mt_56, ce_12⟩
theorem mt_1230 : (Jvm.Cond.methodLink "GrindMillModel" (206 : Nat) ({ cls := "GrindMillModel", name := "countOf", desc := "(I)I" } : Jvm.MethodName)) ∈ tb := tb_of 1230 (by decide +kernel) (by decide +kernel)
theorem mt_1232 : (Jvm.Cond.instanceMethod ({ cls := "GrindMillModel", name := "countOf", desc := "(I)I" } : Jvm.MethodName)) ∈ tb := tb_of 1232 (by decide +kernel) (by decide +kernel)
theorem mt_57 : (Jvm.Cond.selects "GrindMillModel" ({ cls := "GrindMillModel", name := "countOf", desc := "(I)I" } : Jvm.MethodName) ({ cls := "GrindMillModel", name := "countOf", desc := "(I)I" } : Jvm.MethodName)) ∈ tb := tb_of 57 (by decide +kernel) (by decide +kernel)
theorem ve_X12_206 : VE RX12 206 yX12_countOf 12 := ⟨mt_1230, mt_1232, mt_57, ce_12⟩
theorem mt_887 : (Jvm.Cond.methodLink "GrindMillModel" (48 : Nat) ({ cls := "GrindMillModel", name := "layMill", desc := "(I)V" } : Jvm.MethodName)) ∈ tb := tb_of 887 (by decide +kernel) (by decide +kernel)
theorem mt_889 : (Jvm.Cond.instanceMethod ({ cls := "GrindMillModel", name := "layMill", desc := "(I)V" } : Jvm.MethodName)) ∈ tb := tb_of 889 (by decide +kernel) (by decide +kernel)
theorem mt_26 : (Jvm.Cond.selects "GrindMillModel" ({ cls := "GrindMillModel", name := "layMill", desc := "(I)V" } : Jvm.MethodName) ({ cls := "GrindMillModel", name := "layMill", desc := "(I)V" } : Jvm.MethodName)) ∈ tb := tb_of 26 (by decide +kernel) (by decide +kernel)
theorem ve_X12_48 : VE RX12 48 yX12_layMill 12 := ⟨mt_887, mt_889, mt_26, ce_12⟩
theorem mt_962 : (Jvm.Cond.methodLink "GrindMillModel" (56 : Nat) ({ cls := "GrindMillModel", name := "refuse", desc := "(I)I" } : Jvm.MethodName)) ∈ tb := tb_of 962 (by decide +kernel) (by decide +kernel)
theorem mt_964 : (Jvm.Cond.instanceMethod ({ cls := "GrindMillModel", name := "refuse", desc := "(I)I" } : Jvm.MethodName)) ∈ tb := tb_of 964 (by decide +kernel) (by decide +kernel)
theorem mt_27 : (Jvm.Cond.selects "GrindMillModel" ({ cls := "GrindMillModel", name := "refuse", desc := "(I)I" } : Jvm.MethodName) ({ cls := "GrindMillModel", name := "refuse", desc := "(I)I" } : Jvm.MethodName)) ∈ tb := tb_of 27 (by decide +kernel) (by decide +kernel)
theorem ve_X12_56 : VE RX12 56 yX12_refuse 12 := ⟨mt_962, mt_964, mt_27, ce_12⟩
theorem mt_970 : (Jvm.Cond.methodLink "GrindMillModel" (60 : Nat) ({ cls := "GrindMillModel", name := "addGoods", desc := "(III)V" } : Jvm.MethodName)) ∈ tb := tb_of 970 (by decide +kernel) (by decide +kernel)
theorem mt_972 : (Jvm.Cond.instanceMethod ({ cls := "GrindMillModel", name := "addGoods", desc := "(III)V" } : Jvm.MethodName)) ∈ tb := tb_of 972 (by decide +kernel) (by decide +kernel)
theorem mt_28 : (Jvm.Cond.selects "GrindMillModel" ({ cls := "GrindMillModel", name := "addGoods", desc := "(III)V" } : Jvm.MethodName) ({ cls := "GrindMillModel", name := "addGoods", desc := "(III)V" } : Jvm.MethodName)) ∈ tb := tb_of 28 (by decide +kernel) (by decide +kernel)
theorem ve_X12_60 : VE RX12 60 yX12_addGoods 12 := ⟨mt_970, mt_972, mt_28, ce_12⟩
theorem mt_998 : (Jvm.Cond.methodLink "GrindMillModel" (74 : Nat) ({ cls := "GrindMillModel", name := "isLetter", desc := "(I)Z" } : Jvm.MethodName)) ∈ tb := tb_of 998 (by decide +kernel) (by decide +kernel)
theorem mt_1000 : (Jvm.Cond.instanceMethod ({ cls := "GrindMillModel", name := "isLetter", desc := "(I)Z" } : Jvm.MethodName)) ∈ tb := tb_of 1000 (by decide +kernel) (by decide +kernel)
theorem mt_31 : (Jvm.Cond.selects "GrindMillModel" ({ cls := "GrindMillModel", name := "isLetter", desc := "(I)Z" } : Jvm.MethodName) ({ cls := "GrindMillModel", name := "isLetter", desc := "(I)Z" } : Jvm.MethodName)) ∈ tb := tb_of 31 (by decide +kernel) (by decide +kernel)
theorem ve_X12_74 : VE RX12 74 yX12_isLetter 12 := ⟨mt_998, mt_1000, mt_31, ce_12⟩
theorem mt_1002 : (Jvm.Cond.methodLink "GrindMillModel" (78 : Nat) ({ cls := "GrindMillModel", name := "isFigure", desc := "(I)Z" } : Jvm.MethodName)) ∈ tb := tb_of 1002 (by decide +kernel) (by decide +kernel)
theorem mt_1004 : (Jvm.Cond.instanceMethod ({ cls := "GrindMillModel", name := "isFigure", desc := "(I)Z" } : Jvm.MethodName)) ∈ tb := tb_of 1004 (by decide +kernel) (by decide +kernel)
theorem mt_32 : (Jvm.Cond.selects "GrindMillModel" ({ cls := "GrindMillModel", name := "isFigure", desc := "(I)Z" } : Jvm.MethodName) ({ cls := "GrindMillModel", name := "isFigure", desc := "(I)Z" } : Jvm.MethodName)) ∈ tb := tb_of 32 (by decide +kernel) (by decide +kernel)
theorem ve_X12_78 : VE RX12 78 yX12_isFigure 12 := ⟨mt_1002, mt_1004, mt_32, ce_12⟩
theorem mt_1010 : (Jvm.Cond.methodLink "GrindMillModel" (81 : Nat) ({ cls := "GrindMillModel", name := "isWord", desc := "(I)Z" } : Jvm.MethodName)) ∈ tb := tb_of 1010 (by decide +kernel) (by decide +kernel)
theorem mt_1012 : (Jvm.Cond.instanceMethod ({ cls := "GrindMillModel", name := "isWord", desc := "(I)Z" } : Jvm.MethodName)) ∈ tb := tb_of 1012 (by decide +kernel) (by decide +kernel)
theorem mt_34 : (Jvm.Cond.selects "GrindMillModel" ({ cls := "GrindMillModel", name := "isWord", desc := "(I)Z" } : Jvm.MethodName) ({ cls := "GrindMillModel", name := "isWord", desc := "(I)Z" } : Jvm.MethodName)) ∈ tb := tb_of 34 (by decide +kernel) (by decide +kernel)
theorem ve_X12_81 : VE RX12 81 yX12_isWord 12 := ⟨mt_1010, mt_1012, mt_34, ce_12⟩
theorem mt_994 : (Jvm.Cond.methodLink "GrindMillModel" (84 : Nat) ({ cls := "GrindMillModel", name := "next", desc := "()V" } : Jvm.MethodName)) ∈ tb := tb_of 994 (by decide +kernel) (by decide +kernel)
theorem mt_996 : (Jvm.Cond.instanceMethod ({ cls := "GrindMillModel", name := "next", desc := "()V" } : Jvm.MethodName)) ∈ tb := tb_of 996 (by decide +kernel) (by decide +kernel)
theorem mt_30 : (Jvm.Cond.selects "GrindMillModel" ({ cls := "GrindMillModel", name := "next", desc := "()V" } : Jvm.MethodName) ({ cls := "GrindMillModel", name := "next", desc := "()V" } : Jvm.MethodName)) ∈ tb := tb_of 30 (by decide +kernel) (by decide +kernel)
theorem ve_X12_84 : VE RX12 84 yX12_next 12 := ⟨mt_994, mt_996, mt_30, ce_12⟩
theorem mt_1018 : (Jvm.Cond.methodLink "GrindMillModel" (90 : Nat) ({ cls := "GrindMillModel", name := "number", desc := "(II)I" } : Jvm.MethodName)) ∈ tb := tb_of 1018 (by decide +kernel) (by decide +kernel)
theorem mt_1020 : (Jvm.Cond.instanceMethod ({ cls := "GrindMillModel", name := "number", desc := "(II)I" } : Jvm.MethodName)) ∈ tb := tb_of 1020 (by decide +kernel) (by decide +kernel)
theorem mt_36 : (Jvm.Cond.selects "GrindMillModel" ({ cls := "GrindMillModel", name := "number", desc := "(II)I" } : Jvm.MethodName) ({ cls := "GrindMillModel", name := "number", desc := "(II)I" } : Jvm.MethodName)) ∈ tb := tb_of 36 (by decide +kernel) (by decide +kernel)
theorem ve_X12_90 : VE RX12 90 yX12_number 12 := ⟨mt_1018, mt_1020, mt_36, ce_12⟩
theorem mt_1022 : (Jvm.Cond.methodLink "GrindMillModel" (97 : Nat) ({ cls := "GrindMillModel", name := "readsGoods", desc := "()Z" } : Jvm.MethodName)) ∈ tb := tb_of 1022 (by decide +kernel) (by decide +kernel)
theorem mt_1024 : (Jvm.Cond.instanceMethod ({ cls := "GrindMillModel", name := "readsGoods", desc := "()Z" } : Jvm.MethodName)) ∈ tb := tb_of 1024 (by decide +kernel) (by decide +kernel)
theorem mt_37 : (Jvm.Cond.selects "GrindMillModel" ({ cls := "GrindMillModel", name := "readsGoods", desc := "()Z" } : Jvm.MethodName) ({ cls := "GrindMillModel", name := "readsGoods", desc := "()Z" } : Jvm.MethodName)) ∈ tb := tb_of 37 (by decide +kernel) (by decide +kernel)
theorem ve_X12_97 : VE RX12 97 yX12_readsGoods 12 := ⟨mt_1022, mt_1024, mt_37, ce_12⟩
theorem mt_569 : (Jvm.Cond.code ({ cls := "java/lang/Integer", name := "bitCount", desc := "(I)I" } : Jvm.MethodName) prog_15_method_49_code (1 : Nat) (Option.some Jvm.ClassFile.FieldType.int)) ∈ tb := tb_of 569 (by decide +kernel) (by decide +kernel)
theorem mt_78 : (Jvm.Cond.initialized "java/lang/Integer") ∈ tb := tb_of 78 (by decide +kernel) (by decide +kernel)
theorem ye_J6_bitCount_0f7a4 : YE yJ6_bitCount_0f7a4 cJ6_bitCount_0f7a4 1 (some .int) 1 := ⟨mt_569, mt_78, by decide +kernel, by decide +kernel, by decide +kernel⟩
theorem mt_699 : (Jvm.Cond.code ({ cls := "GrindMill$Clues", name := "addGuess", desc := "(II)V" } : Jvm.MethodName) prog_2_method_3_code (3 : Nat) (Option.none : Option Jvm.ClassFile.FieldType)) ∈ tb := tb_of 699 (by decide +kernel) (by decide +kernel)
theorem mt_67 : (Jvm.Cond.initialized "GrindMill$Clues") ∈ tb := tb_of 67 (by decide +kernel) (by decide +kernel)
theorem ye_X0_addGuess : YE yX0_addGuess cX0_addGuess 3 none 2 := ⟨mt_699, mt_67, by decide +kernel, by decide +kernel, by decide +kernel⟩
theorem mt_762 : (Jvm.Cond.code ({ cls := "GrindMill$Clues", name := "addNote", desc := "(IIII)V" } : Jvm.MethodName) prog_2_method_4_code (6 : Nat) (Option.none : Option Jvm.ClassFile.FieldType)) ∈ tb := tb_of 762 (by decide +kernel) (by decide +kernel)
theorem ye_X0_addNote : YE yX0_addNote cX0_addNote 6 none 4 := ⟨mt_762, mt_67, by decide +kernel, by decide +kernel, by decide +kernel⟩
theorem mt_842 : (Jvm.Cond.code ({ cls := "GrindMill$Clues", name := "copyFrom", desc := "(LGrindMill$Clues;)V" } : Jvm.MethodName) prog_2_method_2_code (2 : Nat) (Option.none : Option Jvm.ClassFile.FieldType)) ∈ tb := tb_of 842 (by decide +kernel) (by decide +kernel)
theorem ye_X0_copyFrom : YE yX0_copyFrom cX0_copyFrom 2 none 1 := ⟨mt_842, mt_67, by decide +kernel, by decide +kernel, by decide +kernel⟩
theorem mt_774 : (Jvm.Cond.code ({ cls := "GrindMill$Clues", name := "fittingKinds", desc := "(II)I" } : Jvm.MethodName) prog_2_method_10_code (5 : Nat) (Option.some Jvm.ClassFile.FieldType.int)) ∈ tb := tb_of 774 (by decide +kernel) (by decide +kernel)
theorem ye_X0_fittingKinds : YE yX0_fittingKinds cX0_fittingKinds 5 (some .int) 2 := ⟨mt_774, mt_67, by decide +kernel, by decide +kernel, by decide +kernel⟩
theorem mt_800 : (Jvm.Cond.code ({ cls := "GrindMill$Clues", name := "fittingLike", desc := "(II)I" } : Jvm.MethodName) prog_2_method_14_code (5 : Nat) (Option.some Jvm.ClassFile.FieldType.int)) ∈ tb := tb_of 800 (by decide +kernel) (by decide +kernel)
theorem ye_X0_fittingLike : YE yX0_fittingLike cX0_fittingLike 5 (some .int) 2 := ⟨mt_800, mt_67, by decide +kernel, by decide +kernel, by decide +kernel⟩
theorem mt_783 : (Jvm.Cond.code ({ cls := "GrindMill$Clues", name := "fittingRates", desc := "(II)I" } : Jvm.MethodName) prog_2_method_11_code (5 : Nat) (Option.some Jvm.ClassFile.FieldType.int)) ∈ tb := tb_of 783 (by decide +kernel) (by decide +kernel)
theorem ye_X0_fittingRates : YE yX0_fittingRates cX0_fittingRates 5 (some .int) 2 := ⟨mt_783, mt_67, by decide +kernel, by decide +kernel, by decide +kernel⟩
theorem mt_707 : (Jvm.Cond.code ({ cls := "GrindMill$Clues", name := "fittingWords", desc := "()I" } : Jvm.MethodName) prog_2_method_6_code (3 : Nat) (Option.some Jvm.ClassFile.FieldType.int)) ∈ tb := tb_of 707 (by decide +kernel) (by decide +kernel)
theorem ye_X0_fittingWords : YE yX0_fittingWords cX0_fittingWords 3 (some .int) 0 := ⟨mt_707, mt_67, by decide +kernel, by decide +kernel, by decide +kernel⟩
theorem mt_879 : (Jvm.Cond.code ({ cls := "GrindMill$Clues", name := "mixInto", desc := "(J)J" } : Jvm.MethodName) prog_2_method_15_code (6 : Nat) (Option.some Jvm.ClassFile.FieldType.long)) ∈ tb := tb_of 879 (by decide +kernel) (by decide +kernel)
theorem ye_X0_mixInto : YE yX0_mixInto cX0_mixInto 6 (some .long) 1 := ⟨mt_879, mt_67, by decide +kernel, by decide +kernel, by decide +kernel⟩
theorem mt_728 : (Jvm.Cond.code ({ cls := "GrindMill$Clues", name := "mostAnsweredAlike", desc := "(II)I" } : Jvm.MethodName) prog_2_method_8_code (6 : Nat) (Option.some Jvm.ClassFile.FieldType.int)) ∈ tb := tb_of 728 (by decide +kernel) (by decide +kernel)
theorem ye_X0_mostAnsweredAlike : YE yX0_mostAnsweredAlike cX0_mostAnsweredAlike 6 (some .int) 2 := ⟨mt_728, mt_67, by decide +kernel, by decide +kernel, by decide +kernel⟩
theorem mt_796 : (Jvm.Cond.code ({ cls := "GrindMill$Clues", name := "mostGroundAlike", desc := "(IIII)I" } : Jvm.MethodName) prog_2_method_13_code (7 : Nat) (Option.some Jvm.ClassFile.FieldType.int)) ∈ tb := tb_of 796 (by decide +kernel) (by decide +kernel)
theorem ye_X0_mostGroundAlike : YE yX0_mostGroundAlike cX0_mostGroundAlike 7 (some .int) 4 := ⟨mt_796, mt_67, by decide +kernel, by decide +kernel, by decide +kernel⟩
theorem mt_778 : (Jvm.Cond.code ({ cls := "GrindMill$Clues", name := "notesFit", desc := "(III)Z" } : Jvm.MethodName) prog_2_method_9_code (6 : Nat) (Option.some Jvm.ClassFile.FieldType.boolean)) ∈ tb := tb_of 778 (by decide +kernel) (by decide +kernel)
theorem ye_X0_notesFit : YE yX0_notesFit cX0_notesFit 6 (some .boolean) 3 := ⟨mt_778, mt_67, by decide +kernel, by decide +kernel, by decide +kernel⟩
theorem mt_791 : (Jvm.Cond.code ({ cls := "GrindMill$Clues", name := "sharpestLook", desc := "(II)I" } : Jvm.MethodName) prog_2_method_12_code (9 : Nat) (Option.some Jvm.ClassFile.FieldType.int)) ∈ tb := tb_of 791 (by decide +kernel) (by decide +kernel)
theorem ye_X0_sharpestLook : YE yX0_sharpestLook cX0_sharpestLook 9 (some .int) 2 := ⟨mt_791, mt_67, by decide +kernel, by decide +kernel, by decide +kernel⟩
theorem mt_723 : (Jvm.Cond.code ({ cls := "GrindMill$Clues", name := "sharpestWord", desc := "()I" } : Jvm.MethodName) prog_2_method_7_code (6 : Nat) (Option.some Jvm.ClassFile.FieldType.int)) ∈ tb := tb_of 723 (by decide +kernel) (by decide +kernel)
theorem ye_X0_sharpestWord : YE yX0_sharpestWord cX0_sharpestWord 6 (some .int) 0 := ⟨mt_723, mt_67, by decide +kernel, by decide +kernel, by decide +kernel⟩
theorem mt_711 : (Jvm.Cond.code ({ cls := "GrindMill$Clues", name := "wordFits", desc := "(I)Z" } : Jvm.MethodName) prog_2_method_5_code (3 : Nat) (Option.some Jvm.ClassFile.FieldType.boolean)) ∈ tb := tb_of 711 (by decide +kernel) (by decide +kernel)
theorem ye_X0_wordFits : YE yX0_wordFits cX0_wordFits 3 (some .boolean) 1 := ⟨mt_711, mt_67, by decide +kernel, by decide +kernel, by decide +kernel⟩
theorem mt_390 : (Jvm.Cond.code ({ cls := "GrindMill$Text", name := "append", desc := "(I)V" } : Jvm.MethodName) prog_12_method_2_code (2 : Nat) (Option.none : Option Jvm.ClassFile.FieldType)) ∈ tb := tb_of 390 (by decide +kernel) (by decide +kernel)
theorem mt_69 : (Jvm.Cond.initialized "GrindMill$Text") ∈ tb := tb_of 69 (by decide +kernel) (by decide +kernel)
theorem ye_X10_append : YE yX10_append cX10_append 2 none 1 := ⟨mt_390, mt_69, by decide +kernel, by decide +kernel, by decide +kernel⟩
theorem mt_480 : (Jvm.Cond.code ({ cls := "GrindMill$Text", name := "failAt", desc := "(I)V" } : Jvm.MethodName) prog_12_method_12_code (2 : Nat) (Option.none : Option Jvm.ClassFile.FieldType)) ∈ tb := tb_of 480 (by decide +kernel) (by decide +kernel)
theorem ye_X10_failAt : YE yX10_failAt cX10_failAt 2 none 1 := ⟨mt_480, mt_69, by decide +kernel, by decide +kernel, by decide +kernel⟩
theorem mt_421 : (Jvm.Cond.code ({ cls := "GrindMill$Text", name := "isNamed", desc := "(ILjava/lang/String;)Z" } : Jvm.MethodName) prog_12_method_11_code (4 : Nat) (Option.some Jvm.ClassFile.FieldType.boolean)) ∈ tb := tb_of 421 (by decide +kernel) (by decide +kernel)
theorem ye_X10_isNamed : YE yX10_isNamed cX10_isNamed 4 (some .boolean) 2 := ⟨mt_421, mt_69, by decide +kernel, by decide +kernel, by decide +kernel⟩
theorem mt_407 : (Jvm.Cond.code ({ cls := "GrindMill$Text", name := "passBlanks", desc := "()V" } : Jvm.MethodName) prog_12_method_9_code (1 : Nat) (Option.none : Option Jvm.ClassFile.FieldType)) ∈ tb := tb_of 407 (by decide +kernel) (by decide +kernel)
theorem ye_X10_passBlanks : YE yX10_passBlanks cX10_passBlanks 1 none 0 := ⟨mt_407, mt_69, by decide +kernel, by decide +kernel, by decide +kernel⟩
theorem mt_415 : (Jvm.Cond.code ({ cls := "GrindMill$Text", name := "passLetters", desc := "()V" } : Jvm.MethodName) prog_12_method_10_code (1 : Nat) (Option.none : Option Jvm.ClassFile.FieldType)) ∈ tb := tb_of 415 (by decide +kernel) (by decide +kernel)
theorem ye_X10_passLetters : YE yX10_passLetters cX10_passLetters 1 none 0 := ⟨mt_415, mt_69, by decide +kernel, by decide +kernel, by decide +kernel⟩
theorem mt_411 : (Jvm.Cond.code ({ cls := "GrindMill$Text", name := "readFirstItem", desc := "(LGrindMill$House;)V" } : Jvm.MethodName) prog_12_method_4_code (3 : Nat) (Option.none : Option Jvm.ClassFile.FieldType)) ∈ tb := tb_of 411 (by decide +kernel) (by decide +kernel)
theorem ye_X10_readFirstItem : YE yX10_readFirstItem cX10_readFirstItem 3 none 1 := ⟨mt_411, mt_69, by decide +kernel, by decide +kernel, by decide +kernel⟩
theorem mt_493 : (Jvm.Cond.code ({ cls := "GrindMill$Text", name := "readGoods", desc := "(LGrindMill$House;I)V" } : Jvm.MethodName) prog_12_method_6_code (6 : Nat) (Option.none : Option Jvm.ClassFile.FieldType)) ∈ tb := tb_of 493 (by decide +kernel) (by decide +kernel)
theorem ye_X10_readGoods : YE yX10_readGoods cX10_readGoods 6 none 2 := ⟨mt_493, mt_69, by decide +kernel, by decide +kernel, by decide +kernel⟩
theorem mt_402 : (Jvm.Cond.code ({ cls := "GrindMill$Text", name := "readInto", desc := "(LGrindMill$House;)I" } : Jvm.MethodName) prog_12_method_3_code (3 : Nat) (Option.some Jvm.ClassFile.FieldType.int)) ∈ tb := tb_of 402 (by decide +kernel) (by decide +kernel)
theorem ye_X10_readInto : YE yX10_readInto cX10_readInto 3 (some .int) 1 := ⟨mt_402, mt_69, by decide +kernel, by decide +kernel, by decide +kernel⟩
theorem mt_484 : (Jvm.Cond.code ({ cls := "GrindMill$Text", name := "readItemsEnd", desc := "()V" } : Jvm.MethodName) prog_12_method_8_code (1 : Nat) (Option.none : Option Jvm.ClassFile.FieldType)) ∈ tb := tb_of 484 (by decide +kernel) (by decide +kernel)
theorem ye_X10_readItemsEnd : YE yX10_readItemsEnd cX10_readItemsEnd 1 none 0 := ⟨mt_484, mt_69, by decide +kernel, by decide +kernel, by decide +kernel⟩
theorem mt_488 : (Jvm.Cond.code ({ cls := "GrindMill$Text", name := "readLaterItem", desc := "(LGrindMill$House;)V" } : Jvm.MethodName) prog_12_method_5_code (3 : Nat) (Option.none : Option Jvm.ClassFile.FieldType)) ∈ tb := tb_of 488 (by decide +kernel) (by decide +kernel)
theorem ye_X10_readLaterItem : YE yX10_readLaterItem cX10_readLaterItem 3 none 1 := ⟨mt_488, mt_69, by decide +kernel, by decide +kernel, by decide +kernel⟩
theorem mt_473 : (Jvm.Cond.code ({ cls := "GrindMill$Text", name := "readNumber", desc := "(II)I" } : Jvm.MethodName) prog_12_method_7_code (6 : Nat) (Option.some Jvm.ClassFile.FieldType.int)) ∈ tb := tb_of 473 (by decide +kernel) (by decide +kernel)
theorem ye_X10_readNumber : YE yX10_readNumber cX10_readNumber 6 (some .int) 2 := ⟨mt_473, mt_69, by decide +kernel, by decide +kernel, by decide +kernel⟩
theorem mt_859 : (Jvm.Cond.code ({ cls := "GrindMill", name := "amountOf", desc := "(I)I" } : Jvm.MethodName) prog_1_method_37_code (2 : Nat) (Option.some Jvm.ClassFile.FieldType.int)) ∈ tb := tb_of 859 (by decide +kernel) (by decide +kernel)
theorem mt_59 : (Jvm.Cond.initialized "GrindMill") ∈ tb := tb_of 59 (by decide +kernel) (by decide +kernel)
theorem ye_X11_amountOf : YE yX11_amountOf cX11_amountOf 2 (some .int) 1 := ⟨mt_859, mt_59, by decide +kernel, by decide +kernel, by decide +kernel⟩
theorem mt_808 : (Jvm.Cond.code ({ cls := "GrindMill", name := "greatestDivisor", desc := "(JJ)J" } : Jvm.MethodName) prog_1_method_44_code (11 : Nat) (Option.some Jvm.ClassFile.FieldType.long)) ∈ tb := tb_of 808 (by decide +kernel) (by decide +kernel)
theorem ye_X11_greatestDivisor : YE yX11_greatestDivisor cX11_greatestDivisor 11 (some .long) 2 := ⟨mt_808, mt_59, by decide +kernel, by decide +kernel, by decide +kernel⟩
theorem mt_382 : (Jvm.Cond.code ({ cls := "GrindMill", name := "isWord", desc := "(I)Z" } : Jvm.MethodName) prog_1_method_41_code (1 : Nat) (Option.some Jvm.ClassFile.FieldType.boolean)) ∈ tb := tb_of 382 (by decide +kernel) (by decide +kernel)
theorem ye_X11_isWord : YE yX11_isWord cX11_isWord 1 (some .boolean) 1 := ⟨mt_382, mt_59, by decide +kernel, by decide +kernel, by decide +kernel⟩
theorem mt_715 : (Jvm.Cond.code ({ cls := "GrindMill", name := "leastIn", desc := "(I)I" } : Jvm.MethodName) prog_1_method_43_code (2 : Nat) (Option.some Jvm.ClassFile.FieldType.int)) ∈ tb := tb_of 715 (by decide +kernel) (by decide +kernel)
theorem ye_X11_leastIn : YE yX11_leastIn cX11_leastIn 2 (some .int) 1 := ⟨mt_715, mt_59, by decide +kernel, by decide +kernel, by decide +kernel⟩
theorem mt_566 : (Jvm.Cond.code ({ cls := "GrindMill", name := "likeLetters", desc := "(II)I" } : Jvm.MethodName) prog_1_method_42_code (2 : Nat) (Option.some Jvm.ClassFile.FieldType.int)) ∈ tb := tb_of 566 (by decide +kernel) (by decide +kernel)
theorem ye_X11_likeLetters : YE yX11_likeLetters cX11_likeLetters 2 (some .int) 2 := ⟨mt_566, mt_59, by decide +kernel, by decide +kernel, by decide +kernel⟩
theorem mt_362 : (Jvm.Cond.code ({ cls := "GrindMill", name := "refuse", desc := "(I)I" } : Jvm.MethodName) prog_1_method_38_code (3 : Nat) (Option.some Jvm.ClassFile.FieldType.int)) ∈ tb := tb_of 362 (by decide +kernel) (by decide +kernel)
theorem ye_X11_refuse : YE yX11_refuse cX11_refuse 3 (some .int) 1 := ⟨mt_362, mt_59, by decide +kernel, by decide +kernel, by decide +kernel⟩
theorem mt_509 : (Jvm.Cond.code ({ cls := "GrindMill", name := "refuseApart", desc := "()I" } : Jvm.MethodName) prog_1_method_39_code (1 : Nat) (Option.some Jvm.ClassFile.FieldType.int)) ∈ tb := tb_of 509 (by decide +kernel) (by decide +kernel)
theorem ye_X11_refuseApart : YE yX11_refuseApart cX11_refuseApart 1 (some .int) 0 := ⟨mt_509, mt_59, by decide +kernel, by decide +kernel, by decide +kernel⟩
theorem mt_358 : (Jvm.Cond.code ({ cls := "GrindMill", name := "within", desc := "(III)Z" } : Jvm.MethodName) prog_1_method_40_code (3 : Nat) (Option.some Jvm.ClassFile.FieldType.boolean)) ∈ tb := tb_of 358 (by decide +kernel) (by decide +kernel)
theorem ye_X11_within : YE yX11_within cX11_within 3 (some .boolean) 3 := ⟨mt_358, mt_59, by decide +kernel, by decide +kernel, by decide +kernel⟩
theorem mt_973 : (Jvm.Cond.code ({ cls := "GrindMillModel", name := "addGoods", desc := "(III)V" } : Jvm.MethodName) prog_14_method_7_code (5 : Nat) (Option.none : Option Jvm.ClassFile.FieldType)) ∈ tb := tb_of 973 (by decide +kernel) (by decide +kernel)
theorem mt_71 : (Jvm.Cond.initialized "GrindMillModel") ∈ tb := tb_of 71 (by decide +kernel) (by decide +kernel)
theorem ye_X12_addGoods : YE yX12_addGoods cX12_addGoods 5 none 3 := ⟨mt_973, mt_71, by decide +kernel, by decide +kernel, by decide +kernel⟩
theorem mt_1067 : (Jvm.Cond.code ({ cls := "GrindMillModel", name := "alike", desc := "(II)I" } : Jvm.MethodName) prog_14_method_32_code (4 : Nat) (Option.some Jvm.ClassFile.FieldType.int)) ∈ tb := tb_of 1067 (by decide +kernel) (by decide +kernel)
theorem ye_X12_alike : YE yX12_alike cX12_alike 4 (some .int) 2 := ⟨mt_1067, mt_71, by decide +kernel, by decide +kernel, by decide +kernel⟩
theorem mt_1037 : (Jvm.Cond.code ({ cls := "GrindMillModel", name := "badTen", desc := "()I" } : Jvm.MethodName) prog_14_method_29_code (1 : Nat) (Option.some Jvm.ClassFile.FieldType.int)) ∈ tb := tb_of 1037 (by decide +kernel) (by decide +kernel)
theorem ye_X12_badTen : YE yX12_badTen cX12_badTen 1 (some .int) 0 := ⟨mt_1037, mt_71, by decide +kernel, by decide +kernel, by decide +kernel⟩
theorem mt_1126 : (Jvm.Cond.code ({ cls := "GrindMillModel", name := "brings", desc := "(II)I" } : Jvm.MethodName) prog_14_method_44_code (6 : Nat) (Option.some Jvm.ClassFile.FieldType.int)) ∈ tb := tb_of 1126 (by decide +kernel) (by decide +kernel)
theorem ye_X12_brings : YE yX12_brings cX12_brings 6 (some .int) 2 := ⟨mt_1126, mt_71, by decide +kernel, by decide +kernel, by decide +kernel⟩
theorem mt_1233 : (Jvm.Cond.code ({ cls := "GrindMillModel", name := "countOf", desc := "(I)I" } : Jvm.MethodName) prog_14_method_70_code (2 : Nat) (Option.some Jvm.ClassFile.FieldType.int)) ∈ tb := tb_of 1233 (by decide +kernel) (by decide +kernel)
theorem ye_X12_countOf : YE yX12_countOf cX12_countOf 2 (some .int) 1 := ⟨mt_1233, mt_71, by decide +kernel, by decide +kernel, by decide +kernel⟩
theorem mt_1078 : (Jvm.Cond.code ({ cls := "GrindMillModel", name := "fetches", desc := "(II)I" } : Jvm.MethodName) prog_14_method_25_code (4 : Nat) (Option.some Jvm.ClassFile.FieldType.int)) ∈ tb := tb_of 1078 (by decide +kernel) (by decide +kernel)
theorem ye_X12_fetches : YE yX12_fetches cX12_fetches 4 (some .int) 2 := ⟨mt_1078, mt_71, by decide +kernel, by decide +kernel, by decide +kernel⟩
theorem mt_1053 : (Jvm.Cond.code ({ cls := "GrindMillModel", name := "ground", desc := "(III)I" } : Jvm.MethodName) prog_14_method_24_code (4 : Nat) (Option.some Jvm.ClassFile.FieldType.int)) ∈ tb := tb_of 1053 (by decide +kernel) (by decide +kernel)
theorem ye_X12_ground : YE yX12_ground cX12_ground 4 (some .int) 3 := ⟨mt_1053, mt_71, by decide +kernel, by decide +kernel, by decide +kernel⟩
theorem mt_1056 : (Jvm.Cond.code ({ cls := "GrindMillModel", name := "groundBy", desc := "(IIII)I" } : Jvm.MethodName) prog_14_method_23_code (5 : Nat) (Option.some Jvm.ClassFile.FieldType.int)) ∈ tb := tb_of 1056 (by decide +kernel) (by decide +kernel)
theorem ye_X12_groundBy : YE yX12_groundBy cX12_groundBy 5 (some .int) 4 := ⟨mt_1056, mt_71, by decide +kernel, by decide +kernel, by decide +kernel⟩
theorem mt_1070 : (Jvm.Cond.code ({ cls := "GrindMillModel", name := "has", desc := "(II)Z" } : Jvm.MethodName) prog_14_method_3_code (2 : Nat) (Option.some Jvm.ClassFile.FieldType.boolean)) ∈ tb := tb_of 1070 (by decide +kernel) (by decide +kernel)
theorem ye_X12_has : YE yX12_has cX12_has 2 (some .boolean) 2 := ⟨mt_1070, mt_71, by decide +kernel, by decide +kernel, by decide +kernel⟩
theorem mt_961 : (Jvm.Cond.code ({ cls := "GrindMillModel", name := "in", desc := "(III)Z" } : Jvm.MethodName) prog_14_method_2_code (3 : Nat) (Option.some Jvm.ClassFile.FieldType.boolean)) ∈ tb := tb_of 961 (by decide +kernel) (by decide +kernel)
theorem ye_X12_in : YE yX12_in cX12_in 3 (some .boolean) 3 := ⟨mt_961, mt_71, by decide +kernel, by decide +kernel, by decide +kernel⟩
theorem mt_1060 : (Jvm.Cond.code ({ cls := "GrindMillModel", name := "inHouse", desc := "(I)I" } : Jvm.MethodName) prog_14_method_26_code (4 : Nat) (Option.some Jvm.ClassFile.FieldType.int)) ∈ tb := tb_of 1060 (by decide +kernel) (by decide +kernel)
theorem ye_X12_inHouse : YE yX12_inHouse cX12_inHouse 4 (some .int) 1 := ⟨mt_1060, mt_71, by decide +kernel, by decide +kernel, by decide +kernel⟩
theorem mt_1005 : (Jvm.Cond.code ({ cls := "GrindMillModel", name := "isFigure", desc := "(I)Z" } : Jvm.MethodName) prog_14_method_13_code (2 : Nat) (Option.some Jvm.ClassFile.FieldType.boolean)) ∈ tb := tb_of 1005 (by decide +kernel) (by decide +kernel)
theorem ye_X12_isFigure : YE yX12_isFigure cX12_isFigure 2 (some .boolean) 1 := ⟨mt_1005, mt_71, by decide +kernel, by decide +kernel, by decide +kernel⟩
theorem mt_1033 : (Jvm.Cond.code ({ cls := "GrindMillModel", name := "isGoods", desc := "(I)Z" } : Jvm.MethodName) prog_14_method_22_code (2 : Nat) (Option.some Jvm.ClassFile.FieldType.boolean)) ∈ tb := tb_of 1033 (by decide +kernel) (by decide +kernel)
theorem ye_X12_isGoods : YE yX12_isGoods cX12_isGoods 2 (some .boolean) 1 := ⟨mt_1033, mt_71, by decide +kernel, by decide +kernel, by decide +kernel⟩
theorem mt_1001 : (Jvm.Cond.code ({ cls := "GrindMillModel", name := "isLetter", desc := "(I)Z" } : Jvm.MethodName) prog_14_method_12_code (2 : Nat) (Option.some Jvm.ClassFile.FieldType.boolean)) ∈ tb := tb_of 1001 (by decide +kernel) (by decide +kernel)
theorem ye_X12_isLetter : YE yX12_isLetter cX12_isLetter 2 (some .boolean) 1 := ⟨mt_1001, mt_71, by decide +kernel, by decide +kernel, by decide +kernel⟩
theorem mt_1182 : (Jvm.Cond.code ({ cls := "GrindMillModel", name := "isNoted", desc := "(III)Z" } : Jvm.MethodName) prog_14_method_58_code (7 : Nat) (Option.some Jvm.ClassFile.FieldType.boolean)) ∈ tb := tb_of 1182 (by decide +kernel) (by decide +kernel)
theorem ye_X12_isNoted : YE yX12_isNoted cX12_isNoted 7 (some .boolean) 3 := ⟨mt_1182, mt_71, by decide +kernel, by decide +kernel, by decide +kernel⟩
theorem mt_1013 : (Jvm.Cond.code ({ cls := "GrindMillModel", name := "isWord", desc := "(I)Z" } : Jvm.MethodName) prog_14_method_15_code (5 : Nat) (Option.some Jvm.ClassFile.FieldType.boolean)) ∈ tb := tb_of 1013 (by decide +kernel) (by decide +kernel)
theorem ye_X12_isWord : YE yX12_isWord cX12_isWord 5 (some .boolean) 1 := ⟨mt_1013, mt_71, by decide +kernel, by decide +kernel, by decide +kernel⟩
theorem mt_1041 : (Jvm.Cond.code ({ cls := "GrindMillModel", name := "keepPast", desc := "()V" } : Jvm.MethodName) prog_14_method_28_code (2 : Nat) (Option.none : Option Jvm.ClassFile.FieldType)) ∈ tb := tb_of 1041 (by decide +kernel) (by decide +kernel)
theorem ye_X12_keepPast : YE yX12_keepPast cX12_keepPast 2 none 0 := ⟨mt_1041, mt_71, by decide +kernel, by decide +kernel, by decide +kernel⟩
theorem mt_1178 : (Jvm.Cond.code ({ cls := "GrindMillModel", name := "kindsOf", desc := "(I)I" } : Jvm.MethodName) prog_14_method_59_code (4 : Nat) (Option.some Jvm.ClassFile.FieldType.int)) ∈ tb := tb_of 1178 (by decide +kernel) (by decide +kernel)
theorem ye_X12_kindsOf : YE yX12_kindsOf cX12_kindsOf 4 (some .int) 1 := ⟨mt_1178, mt_71, by decide +kernel, by decide +kernel, by decide +kernel⟩
theorem mt_1114 : (Jvm.Cond.code ({ cls := "GrindMillModel", name := "layFewest", desc := "(I)V" } : Jvm.MethodName) prog_14_method_42_code (7 : Nat) (Option.none : Option Jvm.ClassFile.FieldType)) ∈ tb := tb_of 1114 (by decide +kernel) (by decide +kernel)
theorem ye_X12_layFewest : YE yX12_layFewest cX12_layFewest 7 none 1 := ⟨mt_1114, mt_71, by decide +kernel, by decide +kernel, by decide +kernel⟩
theorem mt_890 : (Jvm.Cond.code ({ cls := "GrindMillModel", name := "layMill", desc := "(I)V" } : Jvm.MethodName) prog_14_method_5_code (3 : Nat) (Option.none : Option Jvm.ClassFile.FieldType)) ∈ tb := tb_of 890 (by decide +kernel) (by decide +kernel)
theorem ye_X12_layMill : YE yX12_layMill cX12_layMill 3 none 1 := ⟨mt_890, mt_71, by decide +kernel, by decide +kernel, by decide +kernel⟩
theorem mt_1122 : (Jvm.Cond.code ({ cls := "GrindMillModel", name := "layRichest", desc := "(I)V" } : Jvm.MethodName) prog_14_method_45_code (7 : Nat) (Option.none : Option Jvm.ClassFile.FieldType)) ∈ tb := tb_of 1122 (by decide +kernel) (by decide +kernel)
theorem ye_X12_layRichest : YE yX12_layRichest cX12_layRichest 7 none 1 := ⟨mt_1122, mt_71, by decide +kernel, by decide +kernel, by decide +kernel⟩
theorem mt_1158 : (Jvm.Cond.code ({ cls := "GrindMillModel", name := "layStreet", desc := "(I)V" } : Jvm.MethodName) prog_14_method_53_code (9 : Nat) (Option.none : Option Jvm.ClassFile.FieldType)) ∈ tb := tb_of 1158 (by decide +kernel) (by decide +kernel)
theorem ye_X12_layStreet : YE yX12_layStreet cX12_layStreet 9 none 1 := ⟨mt_1158, mt_71, by decide +kernel, by decide +kernel, by decide +kernel⟩
theorem mt_1102 : (Jvm.Cond.code ({ cls := "GrindMillModel", name := "layTried", desc := "()V" } : Jvm.MethodName) prog_14_method_39_code (2 : Nat) (Option.none : Option Jvm.ClassFile.FieldType)) ∈ tb := tb_of 1102 (by decide +kernel) (by decide +kernel)
theorem ye_X12_layTried : YE yX12_layTried cX12_layTried 2 none 0 := ⟨mt_1102, mt_71, by decide +kernel, by decide +kernel, by decide +kernel⟩
theorem mt_1142 : (Jvm.Cond.code ({ cls := "GrindMillModel", name := "mayBe", desc := "(I)Z" } : Jvm.MethodName) prog_14_method_49_code (4 : Nat) (Option.some Jvm.ClassFile.FieldType.boolean)) ∈ tb := tb_of 1142 (by decide +kernel) (by decide +kernel)
theorem ye_X12_mayBe : YE yX12_mayBe cX12_mayBe 4 (some .boolean) 1 := ⟨mt_1142, mt_71, by decide +kernel, by decide +kernel, by decide +kernel⟩
theorem mt_1150 : (Jvm.Cond.code ({ cls := "GrindMillModel", name := "mostAlike", desc := "(I)I" } : Jvm.MethodName) prog_14_method_51_code (5 : Nat) (Option.some Jvm.ClassFile.FieldType.int)) ∈ tb := tb_of 1150 (by decide +kernel) (by decide +kernel)
theorem ye_X12_mostAlike : YE yX12_mostAlike cX12_mostAlike 5 (some .int) 1 := ⟨mt_1150, mt_71, by decide +kernel, by decide +kernel, by decide +kernel⟩
theorem mt_1190 : (Jvm.Cond.code ({ cls := "GrindMillModel", name := "mostKinds", desc := "(IIII)I" } : Jvm.MethodName) prog_14_method_61_code (9 : Nat) (Option.some Jvm.ClassFile.FieldType.int)) ∈ tb := tb_of 1190 (by decide +kernel) (by decide +kernel)
theorem ye_X12_mostKinds : YE yX12_mostKinds cX12_mostKinds 9 (some .int) 4 := ⟨mt_1190, mt_71, by decide +kernel, by decide +kernel, by decide +kernel⟩
theorem mt_997 : (Jvm.Cond.code ({ cls := "GrindMillModel", name := "next", desc := "()V" } : Jvm.MethodName) prog_14_method_14_code (1 : Nat) (Option.none : Option Jvm.ClassFile.FieldType)) ∈ tb := tb_of 997 (by decide +kernel) (by decide +kernel)
theorem ye_X12_next : YE yX12_next cX12_next 1 none 0 := ⟨mt_997, mt_71, by decide +kernel, by decide +kernel, by decide +kernel⟩
theorem mt_1021 : (Jvm.Cond.code ({ cls := "GrindMillModel", name := "number", desc := "(II)I" } : Jvm.MethodName) prog_14_method_17_code (4 : Nat) (Option.some Jvm.ClassFile.FieldType.int)) ∈ tb := tb_of 1021 (by decide +kernel) (by decide +kernel)
theorem ye_X12_number : YE yX12_number cX12_number 4 (some .int) 2 := ⟨mt_1021, mt_71, by decide +kernel, by decide +kernel, by decide +kernel⟩
theorem mt_1049 : (Jvm.Cond.code ({ cls := "GrindMillModel", name := "pass", desc := "(II)I" } : Jvm.MethodName) prog_14_method_27_code (6 : Nat) (Option.some Jvm.ClassFile.FieldType.int)) ∈ tb := tb_of 1049 (by decide +kernel) (by decide +kernel)
theorem ye_X12_pass : YE yX12_pass cX12_pass 6 (some .int) 2 := ⟨mt_1049, mt_71, by decide +kernel, by decide +kernel, by decide +kernel⟩
theorem mt_993 : (Jvm.Cond.code ({ cls := "GrindMillModel", name := "readItems", desc := "()I" } : Jvm.MethodName) prog_14_method_20_code (3 : Nat) (Option.some Jvm.ClassFile.FieldType.int)) ∈ tb := tb_of 993 (by decide +kernel) (by decide +kernel)
theorem ye_X12_readItems : YE yX12_readItems cX12_readItems 3 (some .int) 0 := ⟨mt_993, mt_71, by decide +kernel, by decide +kernel, by decide +kernel⟩
theorem mt_1025 : (Jvm.Cond.code ({ cls := "GrindMillModel", name := "readsGoods", desc := "()Z" } : Jvm.MethodName) prog_14_method_18_code (4 : Nat) (Option.some Jvm.ClassFile.FieldType.boolean)) ∈ tb := tb_of 1025 (by decide +kernel) (by decide +kernel)
theorem ye_X12_readsGoods : YE yX12_readsGoods cX12_readsGoods 4 (some .boolean) 0 := ⟨mt_1025, mt_71, by decide +kernel, by decide +kernel, by decide +kernel⟩
theorem mt_1017 : (Jvm.Cond.code ({ cls := "GrindMillModel", name := "readsItem", desc := "(I)Z" } : Jvm.MethodName) prog_14_method_19_code (3 : Nat) (Option.some Jvm.ClassFile.FieldType.boolean)) ∈ tb := tb_of 1017 (by decide +kernel) (by decide +kernel)
theorem ye_X12_readsItem : YE yX12_readsItem cX12_readsItem 3 (some .boolean) 1 := ⟨mt_1017, mt_71, by decide +kernel, by decide +kernel, by decide +kernel⟩
theorem mt_965 : (Jvm.Cond.code ({ cls := "GrindMillModel", name := "refuse", desc := "(I)I" } : Jvm.MethodName) prog_14_method_4_code (2 : Nat) (Option.some Jvm.ClassFile.FieldType.int)) ∈ tb := tb_of 965 (by decide +kernel) (by decide +kernel)
theorem ye_X12_refuse : YE yX12_refuse cX12_refuse 2 (some .int) 1 := ⟨mt_965, mt_71, by decide +kernel, by decide +kernel, by decide +kernel⟩
theorem mt_1162 : (Jvm.Cond.code ({ cls := "GrindMillModel", name := "rests", desc := "(II)Z" } : Jvm.MethodName) prog_14_method_54_code (5 : Nat) (Option.some Jvm.ClassFile.FieldType.boolean)) ∈ tb := tb_of 1162 (by decide +kernel) (by decide +kernel)
theorem ye_X12_rests : YE yX12_rests cX12_rests 5 (some .boolean) 2 := ⟨mt_1162, mt_71, by decide +kernel, by decide +kernel, by decide +kernel⟩
theorem mt_1199 : (Jvm.Cond.code ({ cls := "GrindMillModel", name := "tellPart", desc := "(JJ)V" } : Jvm.MethodName) prog_14_method_63_code (11 : Nat) (Option.none : Option Jvm.ClassFile.FieldType)) ∈ tb := tb_of 1199 (by decide +kernel) (by decide +kernel)
theorem ye_X12_tellPart : YE yX12_tellPart cX12_tellPart 11 none 2 := ⟨mt_1199, mt_71, by decide +kernel, by decide +kernel, by decide +kernel⟩
theorem mt_1009 : (Jvm.Cond.code ({ cls := "GrindMillModel", name := "wordHere", desc := "()I" } : Jvm.MethodName) prog_14_method_16_code (2 : Nat) (Option.some Jvm.ClassFile.FieldType.int)) ∈ tb := tb_of 1009 (by decide +kernel) (by decide +kernel)
theorem ye_X12_wordHere : YE yX12_wordHere cX12_wordHere 2 (some .int) 0 := ⟨mt_1009, mt_71, by decide +kernel, by decide +kernel, by decide +kernel⟩
theorem mt_375 : (Jvm.Cond.code ({ cls := "GrindMill$Goods", name := "become", desc := "(III)V" } : Jvm.MethodName) prog_3_method_2_code (4 : Nat) (Option.none : Option Jvm.ClassFile.FieldType)) ∈ tb := tb_of 375 (by decide +kernel) (by decide +kernel)
theorem mt_68 : (Jvm.Cond.initialized "GrindMill$Goods") ∈ tb := tb_of 68 (by decide +kernel) (by decide +kernel)
theorem ye_X1_become : YE yX1_become cX1_become 4 none 3 := ⟨mt_375, mt_68, by decide +kernel, by decide +kernel, by decide +kernel⟩
theorem mt_837 : (Jvm.Cond.code ({ cls := "GrindMill$Goods", name := "copyFrom", desc := "(LGrindMill$Goods;)V" } : Jvm.MethodName) prog_3_method_3_code (2 : Nat) (Option.none : Option Jvm.ClassFile.FieldType)) ∈ tb := tb_of 837 (by decide +kernel) (by decide +kernel)
theorem ye_X1_copyFrom : YE yX1_copyFrom cX1_copyFrom 2 none 1 := ⟨mt_837, mt_68, by decide +kernel, by decide +kernel, by decide +kernel⟩
theorem mt_584 : (Jvm.Cond.code ({ cls := "GrindMill$Goods", name := "fetchedBy", desc := "(II)I" } : Jvm.MethodName) prog_3_method_6_code (5 : Nat) (Option.some Jvm.ClassFile.FieldType.int)) ∈ tb := tb_of 584 (by decide +kernel) (by decide +kernel)
theorem ye_X1_fetchedBy : YE yX1_fetchedBy cX1_fetchedBy 5 (some .int) 2 := ⟨mt_584, mt_68, by decide +kernel, by decide +kernel, by decide +kernel⟩
theorem mt_588 : (Jvm.Cond.code ({ cls := "GrindMill$Goods", name := "fetchesWhen", desc := "(I)I" } : Jvm.MethodName) prog_3_method_5_code (2 : Nat) (Option.some Jvm.ClassFile.FieldType.int)) ∈ tb := tb_of 588 (by decide +kernel) (by decide +kernel)
theorem ye_X1_fetchesWhen : YE yX1_fetchesWhen cX1_fetchesWhen 2 (some .int) 1 := ⟨mt_588, mt_68, by decide +kernel, by decide +kernel, by decide +kernel⟩
theorem mt_580 : (Jvm.Cond.code ({ cls := "GrindMill$Goods", name := "giveAway", desc := "(I)I" } : Jvm.MethodName) prog_3_method_7_code (3 : Nat) (Option.some Jvm.ClassFile.FieldType.int)) ∈ tb := tb_of 580 (by decide +kernel) (by decide +kernel)
theorem ye_X1_giveAway : YE yX1_giveAway cX1_giveAway 3 (some .int) 1 := ⟨mt_580, mt_68, by decide +kernel, by decide +kernel, by decide +kernel⟩
theorem mt_533 : (Jvm.Cond.code ({ cls := "GrindMill$Goods", name := "groundIn", desc := "(II)I" } : Jvm.MethodName) prog_3_method_4_code (3 : Nat) (Option.some Jvm.ClassFile.FieldType.int)) ∈ tb := tb_of 533 (by decide +kernel) (by decide +kernel)
theorem ye_X1_groundIn : YE yX1_groundIn cX1_groundIn 3 (some .int) 2 := ⟨mt_533, mt_68, by decide +kernel, by decide +kernel, by decide +kernel⟩
theorem mt_874 : (Jvm.Cond.code ({ cls := "GrindMill$Goods", name := "mixInto", desc := "(J)J" } : Jvm.MethodName) prog_3_method_8_code (5 : Nat) (Option.some Jvm.ClassFile.FieldType.long)) ∈ tb := tb_of 874 (by decide +kernel) (by decide +kernel)
theorem ye_X1_mixInto : YE yX1_mixInto cX1_mixInto 5 (some .long) 1 := ⟨mt_874, mt_68, by decide +kernel, by decide +kernel, by decide +kernel⟩
theorem mt_371 : (Jvm.Cond.code ({ cls := "GrindMill$House", name := "addGoods", desc := "(III)V" } : Jvm.MethodName) prog_4_method_5_code (4 : Nat) (Option.none : Option Jvm.ClassFile.FieldType)) ∈ tb := tb_of 371 (by decide +kernel) (by decide +kernel)
theorem mt_66 : (Jvm.Cond.initialized "GrindMill$House") ∈ tb := tb_of 66 (by decide +kernel) (by decide +kernel)
theorem ye_X2_addGoods : YE yX2_addGoods cX2_addGoods 4 none 3 := ⟨mt_371, mt_66, by decide +kernel, by decide +kernel, by decide +kernel⟩
theorem mt_558 : (Jvm.Cond.code ({ cls := "GrindMill$House", name := "allBushels", desc := "()I" } : Jvm.MethodName) prog_4_method_6_code (3 : Nat) (Option.some Jvm.ClassFile.FieldType.int)) ∈ tb := tb_of 558 (by decide +kernel) (by decide +kernel)
theorem ye_X2_allBushels : YE yX2_allBushels cX2_allBushels 3 (some .int) 0 := ⟨mt_558, mt_66, by decide +kernel, by decide +kernel, by decide +kernel⟩
theorem mt_833 : (Jvm.Cond.code ({ cls := "GrindMill$House", name := "copyFrom", desc := "(LGrindMill$House;)V" } : Jvm.MethodName) prog_4_method_3_code (3 : Nat) (Option.none : Option Jvm.ClassFile.FieldType)) ∈ tb := tb_of 833 (by decide +kernel) (by decide +kernel)
theorem ye_X2_copyFrom : YE yX2_copyFrom cX2_copyFrom 3 none 1 := ⟨mt_833, mt_66, by decide +kernel, by decide +kernel, by decide +kernel⟩
theorem mt_620 : (Jvm.Cond.code ({ cls := "GrindMill$House", name := "goBack", desc := "()V" } : Jvm.MethodName) prog_4_method_11_code (3 : Nat) (Option.none : Option Jvm.ClassFile.FieldType)) ∈ tb := tb_of 620 (by decide +kernel) (by decide +kernel)
theorem ye_X2_goBack : YE yX2_goBack cX2_goBack 3 none 0 := ⟨mt_620, mt_66, by decide +kernel, by decide +kernel, by decide +kernel⟩
theorem mt_528 : (Jvm.Cond.code ({ cls := "GrindMill$House", name := "groundBy", desc := "(II)I" } : Jvm.MethodName) prog_4_method_7_code (3 : Nat) (Option.some Jvm.ClassFile.FieldType.int)) ∈ tb := tb_of 528 (by decide +kernel) (by decide +kernel)
theorem ye_X2_groundBy : YE yX2_groundBy cX2_groundBy 3 (some .int) 2 := ⟨mt_528, mt_66, by decide +kernel, by decide +kernel, by decide +kernel⟩
theorem mt_638 : (Jvm.Cond.code ({ cls := "GrindMill$House", name := "groundWithin", desc := "(II)I" } : Jvm.MethodName) prog_4_method_8_code (5 : Nat) (Option.some Jvm.ClassFile.FieldType.int)) ∈ tb := tb_of 638 (by decide +kernel) (by decide +kernel)
theorem ye_X2_groundWithin : YE yX2_groundWithin cX2_groundWithin 5 (some .int) 2 := ⟨mt_638, mt_66, by decide +kernel, by decide +kernel, by decide +kernel⟩
theorem mt_505 : (Jvm.Cond.code ({ cls := "GrindMill$House", name := "has", desc := "(I)Z" } : Jvm.MethodName) prog_4_method_4_code (2 : Nat) (Option.some Jvm.ClassFile.FieldType.boolean)) ∈ tb := tb_of 505 (by decide +kernel) (by decide +kernel)
theorem ye_X2_has : YE yX2_has cX2_has 2 (some .boolean) 1 := ⟨mt_505, mt_66, by decide +kernel, by decide +kernel, by decide +kernel⟩
theorem mt_869 : (Jvm.Cond.code ({ cls := "GrindMill$House", name := "mixInto", desc := "(J)J" } : Jvm.MethodName) prog_4_method_12_code (6 : Nat) (Option.some Jvm.ClassFile.FieldType.long)) ∈ tb := tb_of 869 (by decide +kernel) (by decide +kernel)
theorem ye_X2_mixInto : YE yX2_mixInto cX2_mixInto 6 (some .long) 1 := ⟨mt_869, mt_66, by decide +kernel, by decide +kernel, by decide +kernel⟩
theorem mt_524 : (Jvm.Cond.code ({ cls := "GrindMill$House", name := "passHour", desc := "()I" } : Jvm.MethodName) prog_4_method_9_code (3 : Nat) (Option.some Jvm.ClassFile.FieldType.int)) ∈ tb := tb_of 524 (by decide +kernel) (by decide +kernel)
theorem ye_X2_passHour : YE yX2_passHour cX2_passHour 3 (some .int) 0 := ⟨mt_524, mt_66, by decide +kernel, by decide +kernel, by decide +kernel⟩
theorem mt_513 : (Jvm.Cond.code ({ cls := "GrindMill$House", name := "remember", desc := "()V" } : Jvm.MethodName) prog_4_method_10_code (3 : Nat) (Option.none : Option Jvm.ClassFile.FieldType)) ∈ tb := tb_of 513 (by decide +kernel) (by decide +kernel)
theorem ye_X2_remember : YE yX2_remember cX2_remember 3 none 0 := ⟨mt_513, mt_66, by decide +kernel, by decide +kernel, by decide +kernel⟩
theorem mt_209 : (Jvm.Cond.code ({ cls := "GrindMill$House", name := "startAnew", desc := "(I)V" } : Jvm.MethodName) prog_4_method_2_code (2 : Nat) (Option.none : Option Jvm.ClassFile.FieldType)) ∈ tb := tb_of 209 (by decide +kernel) (by decide +kernel)
theorem ye_X2_startAnew : YE yX2_startAnew cX2_startAnew 2 none 1 := ⟨mt_209, mt_66, by decide +kernel, by decide +kernel, by decide +kernel⟩
theorem mt_599 : (Jvm.Cond.code ({ cls := "GrindMill$Peace", name := "fetches", desc := "(II)I" } : Jvm.MethodName) prog_7_method_2_code (3 : Nat) (Option.some Jvm.ClassFile.FieldType.int)) ∈ tb := tb_of 599 (by decide +kernel) (by decide +kernel)
theorem ye_X5_fetches : YE yX5_fetches cX5_fetches 3 (some .int) 2 := ⟨mt_599, mt_62, by decide +kernel, by decide +kernel, by decide +kernel⟩
theorem ye_X6_fetches : YE yX6_fetches cX6_fetches 4 (some .int) 2 := ⟨mt_608, mt_60, by decide +kernel, by decide +kernel, by decide +kernel⟩
theorem ye_X6_ground : YE yX6_ground cX6_ground 4 (some .int) 3 := ⟨mt_554, mt_60, by decide +kernel, by decide +kernel, by decide +kernel⟩
theorem mt_653 : (Jvm.Cond.code ({ cls := "GrindMill$Plans", name := "fewestHours", desc := "(LGrindMill$House;I)I" } : Jvm.MethodName) prog_9_method_2_code (6 : Nat) (Option.some Jvm.ClassFile.FieldType.int)) ∈ tb := tb_of 653 (by decide +kernel) (by decide +kernel)
theorem mt_70 : (Jvm.Cond.initialized "GrindMill$Plans") ∈ tb := tb_of 70 (by decide +kernel) (by decide +kernel)
theorem ye_X7_fewestHours : YE yX7_fewestHours cX7_fewestHours 6 (some .int) 2 := ⟨mt_653, mt_70, by decide +kernel, by decide +kernel, by decide +kernel⟩
theorem mt_662 : (Jvm.Cond.code ({ cls := "GrindMill$Plans", name := "fillFewest", desc := "(II)V" } : Jvm.MethodName) prog_9_method_4_code (5 : Nat) (Option.none : Option Jvm.ClassFile.FieldType)) ∈ tb := tb_of 662 (by decide +kernel) (by decide +kernel)
theorem ye_X7_fillFewest : YE yX7_fillFewest cX7_fillFewest 5 none 2 := ⟨mt_662, mt_70, by decide +kernel, by decide +kernel, by decide +kernel⟩
theorem mt_679 : (Jvm.Cond.code ({ cls := "GrindMill$Plans", name := "fillGains", desc := "(LGrindMill$House;I)V" } : Jvm.MethodName) prog_9_method_8_code (7 : Nat) (Option.none : Option Jvm.ClassFile.FieldType)) ∈ tb := tb_of 679 (by decide +kernel) (by decide +kernel)
theorem ye_X7_fillGains : YE yX7_fillGains cX7_fillGains 7 none 2 := ⟨mt_679, mt_70, by decide +kernel, by decide +kernel, by decide +kernel⟩
theorem mt_684 : (Jvm.Cond.code ({ cls := "GrindMill$Plans", name := "fillMost", desc := "(II)V" } : Jvm.MethodName) prog_9_method_7_code (6 : Nat) (Option.none : Option Jvm.ClassFile.FieldType)) ∈ tb := tb_of 684 (by decide +kernel) (by decide +kernel)
theorem ye_X7_fillMost : YE yX7_fillMost cX7_fillMost 6 none 2 := ⟨mt_684, mt_70, by decide +kernel, by decide +kernel, by decide +kernel⟩
theorem mt_741 : (Jvm.Cond.code ({ cls := "GrindMill$Plans", name := "fillStreet", desc := "(LGrindMill$House;I)V" } : Jvm.MethodName) prog_9_method_10_code (8 : Nat) (Option.none : Option Jvm.ClassFile.FieldType)) ∈ tb := tb_of 741 (by decide +kernel) (by decide +kernel)
theorem ye_X7_fillStreet : YE yX7_fillStreet cX7_fillStreet 8 none 2 := ⟨mt_741, mt_70, by decide +kernel, by decide +kernel, by decide +kernel⟩
theorem mt_657 : (Jvm.Cond.code ({ cls := "GrindMill$Plans", name := "fillYields", desc := "(LGrindMill$House;)V" } : Jvm.MethodName) prog_9_method_3_code (3 : Nat) (Option.none : Option Jvm.ClassFile.FieldType)) ∈ tb := tb_of 657 (by decide +kernel) (by decide +kernel)
theorem ye_X7_fillYields : YE yX7_fillYields cX7_fillYields 3 none 1 := ⟨mt_657, mt_70, by decide +kernel, by decide +kernel, by decide +kernel⟩
theorem mt_750 : (Jvm.Cond.code ({ cls := "GrindMill$Plans", name := "firstHas", desc := "(II)I" } : Jvm.MethodName) prog_9_method_12_code (3 : Nat) (Option.some Jvm.ClassFile.FieldType.int)) ∈ tb := tb_of 750 (by decide +kernel) (by decide +kernel)
theorem ye_X7_firstHas : YE yX7_firstHas cX7_firstHas 3 (some .int) 2 := ⟨mt_750, mt_70, by decide +kernel, by decide +kernel, by decide +kernel⟩
theorem mt_675 : (Jvm.Cond.code ({ cls := "GrindMill$Plans", name := "mostMoney", desc := "(LGrindMill$House;I)I" } : Jvm.MethodName) prog_9_method_6_code (6 : Nat) (Option.some Jvm.ClassFile.FieldType.int)) ∈ tb := tb_of 675 (by decide +kernel) (by decide +kernel)
theorem ye_X7_mostMoney : YE yX7_mostMoney cX7_mostMoney 6 (some .int) 2 := ⟨mt_675, mt_70, by decide +kernel, by decide +kernel, by decide +kernel⟩
theorem mt_746 : (Jvm.Cond.code ({ cls := "GrindMill$Plans", name := "pairRests", desc := "(III)Z" } : Jvm.MethodName) prog_9_method_11_code (5 : Nat) (Option.some Jvm.ClassFile.FieldType.boolean)) ∈ tb := tb_of 746 (by decide +kernel) (by decide +kernel)
theorem ye_X7_pairRests : YE yX7_pairRests cX7_pairRests 5 (some .boolean) 3 := ⟨mt_746, mt_70, by decide +kernel, by decide +kernel, by decide +kernel⟩
theorem mt_737 : (Jvm.Cond.code ({ cls := "GrindMill$Plans", name := "restingPairs", desc := "(LGrindMill$House;II)I" } : Jvm.MethodName) prog_9_method_9_code (7 : Nat) (Option.some Jvm.ClassFile.FieldType.int)) ∈ tb := tb_of 737 (by decide +kernel) (by decide +kernel)
theorem ye_X7_restingPairs : YE yX7_restingPairs cX7_restingPairs 7 (some .int) 3 := ⟨mt_737, mt_70, by decide +kernel, by decide +kernel, by decide +kernel⟩
theorem mt_754 : (Jvm.Cond.code ({ cls := "GrindMill$Plans", name := "secondHas", desc := "(II)I" } : Jvm.MethodName) prog_9_method_13_code (3 : Nat) (Option.some Jvm.ClassFile.FieldType.int)) ∈ tb := tb_of 754 (by decide +kernel) (by decide +kernel)
theorem ye_X7_secondHas : YE yX7_secondHas cX7_secondHas 3 (some .int) 2 := ⟨mt_754, mt_70, by decide +kernel, by decide +kernel, by decide +kernel⟩
theorem mt_667 : (Jvm.Cond.code ({ cls := "GrindMill$Plans", name := "staysFewest", desc := "(II)Z" } : Jvm.MethodName) prog_9_method_5_code (3 : Nat) (Option.some Jvm.ClassFile.FieldType.boolean)) ∈ tb := tb_of 667 (by decide +kernel) (by decide +kernel)
theorem ye_X7_staysFewest : YE yX7_staysFewest cX7_staysFewest 3 (some .boolean) 2 := ⟨mt_667, mt_70, by decide +kernel, by decide +kernel, by decide +kernel⟩
theorem mt_551 : (Jvm.Cond.code ({ cls := "GrindMill$Slow", name := "ground", desc := "(III)I" } : Jvm.MethodName) prog_11_method_2_code (5 : Nat) (Option.some Jvm.ClassFile.FieldType.int)) ∈ tb := tb_of 551 (by decide +kernel) (by decide +kernel)
theorem ye_X9_ground : YE yX9_ground cX9_ground 5 (some .int) 3 := ⟨mt_551, mt_61, by decide +kernel, by decide +kernel, by decide +kernel⟩
theorem mt_540 : (Jvm.Cond.code ({ cls := "GrindMill$Mills", name := "ground", desc := "(III)I" } : Jvm.MethodName) prog_5_method_2_code (4 : Nat) (Option.some Jvm.ClassFile.FieldType.int)) ∈ tb := tb_of 540 (by decide +kernel) (by decide +kernel)
theorem ye_X3_ground : YE yX3_ground cX3_ground 4 (some .int) 3 := ⟨mt_540, mt_63, by decide +kernel, by decide +kernel, by decide +kernel⟩
theorem mt_544 : (Jvm.Cond.code ({ cls := "GrindMill$Nothing", name := "ground", desc := "(III)I" } : Jvm.MethodName) prog_6_method_2_code (4 : Nat) (Option.some Jvm.ClassFile.FieldType.int)) ∈ tb := tb_of 544 (by decide +kernel) (by decide +kernel)
theorem ye_X4_ground : YE yX4_ground cX4_ground 4 (some .int) 3 := ⟨mt_544, mt_65, by decide +kernel, by decide +kernel, by decide +kernel⟩
theorem mt_548 : (Jvm.Cond.code ({ cls := "GrindMill$Salt", name := "ground", desc := "(III)I" } : Jvm.MethodName) prog_10_method_2_code (4 : Nat) (Option.some Jvm.ClassFile.FieldType.int)) ∈ tb := tb_of 548 (by decide +kernel) (by decide +kernel)
theorem ye_X8_ground : YE yX8_ground cX8_ground 4 (some .int) 3 := ⟨mt_548, mt_64, by decide +kernel, by decide +kernel, by decide +kernel⟩
theorem mt_596 : (Jvm.Cond.code ({ cls := "GrindMill$Nothing", name := "fetches", desc := "(II)I" } : Jvm.MethodName) prog_6_method_3_code (3 : Nat) (Option.some Jvm.ClassFile.FieldType.int)) ∈ tb := tb_of 596 (by decide +kernel) (by decide +kernel)
theorem ye_X4_fetches : YE yX4_fetches cX4_fetches 3 (some .int) 2 := ⟨mt_596, mt_65, by decide +kernel, by decide +kernel, by decide +kernel⟩
theorem mt_603 : (Jvm.Cond.code ({ cls := "GrindMill$Salt", name := "fetches", desc := "(II)I" } : Jvm.MethodName) prog_10_method_3_code (3 : Nat) (Option.some Jvm.ClassFile.FieldType.int)) ∈ tb := tb_of 603 (by decide +kernel) (by decide +kernel)
theorem ye_X8_fetches : YE yX8_fetches cX8_fetches 3 (some .int) 2 := ⟨mt_603, mt_64, by decide +kernel, by decide +kernel, by decide +kernel⟩
end
section
def f_S_length (j : Nat) (w : Wd) : Option (Int32 × Wd) := if j < 5 then some (nI (lenS.getD j 0), w) else none
def f_S_charAt (j : Nat) (i : Int32) (w : Wd) : Option (Int32 × Wd) := if j < 5 ∧ 0 ≤ i ∧ i.toNatClampNeg < lenS.getD j 0 then some ((bytS.getD j []).getD i.toNatClampNeg 0, w) else none
def f_X0_addGuess (p0 : Nat) (p1 : Int32) (p2 : Int32) (w : Wd) : Option (Unit × Wd) :=
  gI w p0 0 6 fun x1 =>
  if x1 < (6 : Int32) then
    gR w p0 0 1 fun r2 =>
    gI w p0 0 6 fun x3 =>
    aI w r2 14 x3 p1 fun w4 =>
    gR w4 p0 0 2 fun r5 =>
    gI w4 p0 0 6 fun x6 =>
    aI w4 r5 14 x6 p2 fun w7 =>
    gI w7 p0 0 6 fun x8 =>
    pI w7 p0 0 6 (x8 + (1 : Int32)) fun w9 =>
    some ((), w9)
  else
    some ((), w)
def f_X0_addNote (p0 : Nat) (p1 : Int32) (p2 : Int32) (p3 : Int32) (p4 : Int32) (w : Wd) : Option (Unit × Wd) :=
  gI w p0 0 7 fun x1 =>
  if x1 < (6 : Int32) then
    gI w p0 0 7 fun x2 =>
    nm ((x2 * (4 : Int32))) fun x3 =>
    gR w p0 0 3 fun r4 =>
    aI w r4 14 x3 p1 fun w5 =>
    gR w5 p0 0 3 fun r6 =>
    aI w5 r6 14 (x3 + (1 : Int32)) p2 fun w7 =>
    gR w7 p0 0 3 fun r8 =>
    aI w7 r8 14 (x3 + (2 : Int32)) p3 fun w9 =>
    gR w9 p0 0 3 fun r10 =>
    aI w9 r10 14 (x3 + (3 : Int32)) p4 fun w11 =>
    gI w11 p0 0 7 fun x12 =>
    pI w11 p0 0 7 (x12 + (1 : Int32)) fun w13 =>
    some ((), w13)
  else
    some ((), w)
def f_X0_copyFrom (p0 : Nat) (p1 : Nat) (w : Wd) : Option (Unit × Wd) :=
  gI w p1 0 6 fun x1 =>
  pI w p0 0 6 x1 fun w2 =>
  gI w2 p1 0 7 fun x3 =>
  pI w2 p0 0 7 x3 fun w4 =>
  gR w4 p1 0 1 fun r5 =>
  gR w4 p0 0 1 fun r6 =>
  cpI w4 r5 (0 : Int32) r6 (0 : Int32) (6 : Int32) fun w7 =>
  gR w7 p1 0 2 fun r8 =>
  gR w7 p0 0 2 fun r9 =>
  cpI w7 r8 (0 : Int32) r9 (0 : Int32) (6 : Int32) fun w10 =>
  gR w10 p1 0 3 fun r11 =>
  gR w10 p0 0 3 fun r12 =>
  cpI w10 r11 (0 : Int32) r12 (0 : Int32) (24 : Int32) fun w13 =>
  some ((), w13)
def f_X6_ground (p0 : Nat) (p1 : Int32) (p2 : Int32) (p3 : Int32) (w : Wd) : Option (Int32 × Wd) :=
  some (p1, w)
def f_X3_ground (p0 : Nat) (p1 : Int32) (p2 : Int32) (p3 : Int32) (w : Wd) : Option (Int32 × Wd) :=
  calO w p0 (f_X6_ground p0 p1 p2 p3 w) fun x2 w1 =>
  some ((x2 + (irm p2 (4 : Int32))), w1)
def f_X4_ground (p0 : Nat) (p1 : Int32) (p2 : Int32) (p3 : Int32) (w : Wd) : Option (Int32 × Wd) :=
  some ((0 : Int32), w)
def f_X9_ground_25 (s0 : Int32) (w : Wd) : Option (Int32 × Wd) :=
  some (s0, w)
def f_X9_ground (p0 : Nat) (p1 : Int32) (p2 : Int32) (p3 : Int32) (w : Wd) : Option (Int32 × Wd) :=
  calO w p0 (f_X6_ground p0 p1 p2 p3 w) fun x2 w1 =>
  if p3 < (5 : Int32) then
    f_X9_ground_25 x2 w1
  else
    f_X9_ground_25 (((x2 + (1 : Int32)) / (2 : Int32))) w1
def f_X8_ground (p0 : Nat) (p1 : Int32) (p2 : Int32) (p3 : Int32) (w : Wd) : Option (Int32 × Wd) :=
  calO w p0 (f_X9_ground p0 p1 p2 p3 w) fun x2 w1 =>
  some ((x2 + (1 : Int32)), w1)
def u_ground (a : Nat) (x0 x1 x2 : Int32) (w : Wd) : Option (Int32 × Wd) := if isO w a 3 then f_X3_ground a x0 x1 x2 w else if isO w a 4 then f_X4_ground a x0 x1 x2 w else if isO w a 5 then f_X6_ground a x0 x1 x2 w else if isO w a 6 then f_X6_ground a x0 x1 x2 w else if isO w a 8 then f_X8_ground a x0 x1 x2 w else if isO w a 9 then f_X9_ground a x0 x1 x2 w else none
def f_X0_notesFit_71 (rec3 : Nat → Int32 → Int32 → Int32 → Int32 → Wd → Option (Int32 × Wd)) (v0 : Nat) (v1 : Int32) (v2 : Int32) (v3 : Int32) (v4 : Int32) (w : Wd) : Option (Int32 × Wd) :=
  rec3 v0 v1 v2 v3 ((v4 + (1 : Int32))) w
def f_X0_notesFit_3 : Nat → Nat → Int32 → Int32 → Int32 → Int32 → Wd → Option (Int32 × Wd)
  | 0, _, _, _, _, _, _ => none
  | n + 1, v0, v1, v2, v3, v4, w =>
    gI w v0 0 7 fun x1 =>
    if x1 ≤ v4 then
      rZ (1 : Int32) w
    else
      nm ((v4 * (4 : Int32))) fun x2 =>
      gR w v0 0 3 fun r3 =>
      lI w r3 14 x2 fun x4 =>
      if x4 = v1 then
        gR w v0 0 0 fun r5 =>
        lR w r5 18 v2 fun r6 =>
        gR w v0 0 3 fun r7 =>
        lI w r7 14 (x2 + (1 : Int32)) fun x8 =>
        gR w v0 0 3 fun r9 =>
        lI w r9 14 (x2 + (2 : Int32)) fun x10 =>
        cal (u_ground r6 v3 x8 x10 w) fun x12 w11 =>
        gR w11 v0 0 3 fun r13 =>
        lI w11 r13 14 (x2 + (3 : Int32)) fun x14 =>
        if x12 = x14 then
          f_X0_notesFit_71 (f_X0_notesFit_3 n) v0 v1 v2 v3 v4 w11
        else
          rZ (0 : Int32) w11
      else
        f_X0_notesFit_71 (f_X0_notesFit_3 n) v0 v1 v2 v3 v4 w
def f_X0_notesFit (p0 : Nat) (p1 : Int32) (p2 : Int32) (p3 : Int32) (w : Wd) : Option (Int32 × Wd) :=
  f_X0_notesFit_3 4096 p0 p1 p2 p3 (0 : Int32) w
def f_X0_fittingKinds_30 (rec5 : Nat → Int32 → Int32 → Int32 → Int32 → Wd → Option (Int32 × Wd)) (v0 : Nat) (v1 : Int32) (v2 : Int32) (v3 : Int32) (v4 : Int32) (w : Wd) : Option (Int32 × Wd) :=
  rec5 v0 v1 v2 v3 ((v4 + (1 : Int32))) w
def f_X0_fittingKinds_5 : Nat → Nat → Int32 → Int32 → Int32 → Int32 → Wd → Option (Int32 × Wd)
  | 0, _, _, _, _, _, _ => none
  | n + 1, v0, v1, v2, v3, v4, w =>
    if (6 : Int32) ≤ v4 then
      some (v3, w)
    else
      calV w v0 0 (f_X0_notesFit v0 v1 v4 v2 w) fun x2 w1 =>
      if x2 = 0 then
        f_X0_fittingKinds_30 (f_X0_fittingKinds_5 n) v0 v1 v2 v3 v4 w1
      else
        nm ((v3 ||| ((1 : Int32) <<< (v4 &&& 31)))) fun x3 =>
        f_X0_fittingKinds_30 (f_X0_fittingKinds_5 n) v0 v1 v2 x3 v4 w1
def f_X0_fittingKinds (p0 : Nat) (p1 : Int32) (p2 : Int32) (w : Wd) : Option (Int32 × Wd) :=
  f_X0_fittingKinds_5 4096 p0 p1 p2 (0 : Int32) (0 : Int32) w
def f_X0_fittingLike_40 (rec5 : Nat → Int32 → Int32 → Int32 → Int32 → Wd → Option (Int32 × Wd)) (v0 : Nat) (v1 : Int32) (v2 : Int32) (v3 : Int32) (v4 : Int32) (w : Wd) : Option (Int32 × Wd) :=
  rec5 v0 v1 v2 v3 ((v4 + (1 : Int32))) w
def f_X0_fittingLike_5 : Nat → Nat → Int32 → Int32 → Int32 → Int32 → Wd → Option (Int32 × Wd)
  | 0, _, _, _, _, _, _ => none
  | n + 1, v0, v1, v2, v3, v4, w =>
    if v1 < v4 then
      some (v3, w)
    else
      if ((iush v2 v4) &&& (1 : Int32)) = (1 : Int32) then
        gR w v0 0 5 fun r1 =>
        lI w r1 14 v4 fun x2 =>
        gR w v0 0 5 fun r3 =>
        lI w r3 14 v1 fun x4 =>
        if x2 = x4 then
          f_X0_fittingLike_40 (f_X0_fittingLike_5 n) v0 v1 v2 ((v3 + (1 : Int32))) v4 w
        else
          f_X0_fittingLike_40 (f_X0_fittingLike_5 n) v0 v1 v2 v3 v4 w
      else
        f_X0_fittingLike_40 (f_X0_fittingLike_5 n) v0 v1 v2 v3 v4 w
def f_X0_fittingLike (p0 : Nat) (p1 : Int32) (p2 : Int32) (w : Wd) : Option (Int32 × Wd) :=
  f_X0_fittingLike_5 4096 p0 p1 p2 (0 : Int32) (0 : Int32) w
def f_X0_fittingRates_26 (rec5 : Nat → Int32 → Int32 → Int32 → Int32 → Wd → Option (Int32 × Wd)) (v0 : Nat) (v1 : Int32) (v2 : Int32) (v3 : Int32) (v4 : Int32) (w : Wd) : Option (Int32 × Wd) :=
  rec5 v0 v1 v2 v3 ((v4 + (1 : Int32))) w
def f_X0_fittingRates_5 : Nat → Nat → Int32 → Int32 → Int32 → Int32 → Wd → Option (Int32 × Wd)
  | 0, _, _, _, _, _, _ => none
  | n + 1, v0, v1, v2, v3, v4, w =>
    if (9 : Int32) < v4 then
      some (v3, w)
    else
      calV w v0 0 (f_X0_notesFit v0 v1 v2 v4 w) fun x2 w1 =>
      if x2 = 0 then
        f_X0_fittingRates_26 (f_X0_fittingRates_5 n) v0 v1 v2 v3 v4 w1
      else
        f_X0_fittingRates_26 (f_X0_fittingRates_5 n) v0 v1 v2 ((v3 + (1 : Int32))) v4 w1
def f_X0_fittingRates (p0 : Nat) (p1 : Int32) (p2 : Int32) (w : Wd) : Option (Int32 × Wd) :=
  f_X0_fittingRates_5 4096 p0 p1 p2 (0 : Int32) (1 : Int32) w
def f_J6_bitCount_0f7a4 (p0 : Int32) (w : Wd) : Option (Int32 × Wd) :=
  nm ((p0 - ((iush p0 (1 : Int32)) &&& (1431655765 : Int32)))) fun x1 =>
  nm (((x1 &&& (858993459 : Int32)) + ((iush x1 (2 : Int32)) &&& (858993459 : Int32)))) fun x2 =>
  nm (((x2 + (iush x2 (4 : Int32))) &&& (252645135 : Int32))) fun x3 =>
  nm ((x3 + (iush x3 (8 : Int32)))) fun x4 =>
  nm ((x4 + (iush x4 (16 : Int32)))) fun x5 =>
  some ((x5 &&& (63 : Int32)), w)
def f_X11_likeLetters (p0 : Int32) (p1 : Int32) (w : Wd) : Option (Int32 × Wd) :=
  cal (f_J6_bitCount_0f7a4 (p0 ^^^ p1) w) fun x2 w1 =>
  some (((5 : Int32) - x2), w1)
def f_X0_wordFits_2 : Nat → Nat → Int32 → Int32 → Wd → Option (Int32 × Wd)
  | 0, _, _, _, _ => none
  | n + 1, v0, v1, v2, w =>
    gI w v0 0 6 fun x1 =>
    if x1 ≤ v2 then
      rZ (1 : Int32) w
    else
      gR w v0 0 1 fun r2 =>
      lI w r2 14 v2 fun x3 =>
      cal (f_X11_likeLetters v1 x3 w) fun x5 w4 =>
      gR w4 v0 0 2 fun r6 =>
      lI w4 r6 14 v2 fun x7 =>
      if x5 = x7 then
        (f_X0_wordFits_2 n) v0 v1 ((v2 + (1 : Int32))) w4
      else
        rZ (0 : Int32) w4
def f_X0_wordFits (p0 : Nat) (p1 : Int32) (w : Wd) : Option (Int32 × Wd) :=
  f_X0_wordFits_2 4096 p0 p1 (0 : Int32) w
def f_X0_fittingWords_24 (rec4 : Nat → Int32 → Int32 → Wd → Option (Int32 × Wd)) (v0 : Nat) (v1 : Int32) (v2 : Int32) (w : Wd) : Option (Int32 × Wd) :=
  rec4 v0 v1 ((v2 + (1 : Int32))) w
def f_X0_fittingWords_4 : Nat → Nat → Int32 → Int32 → Wd → Option (Int32 × Wd)
  | 0, _, _, _, _ => none
  | n + 1, v0, v1, v2, w =>
    if (32 : Int32) ≤ v2 then
      some (v1, w)
    else
      calV w v0 0 (f_X0_wordFits v0 v2 w) fun x2 w1 =>
      if x2 = 0 then
        f_X0_fittingWords_24 (f_X0_fittingWords_4 n) v0 v1 v2 w1
      else
        nm ((v1 ||| ((1 : Int32) <<< (v2 &&& 31)))) fun x3 =>
        f_X0_fittingWords_24 (f_X0_fittingWords_4 n) v0 x3 v2 w1
def f_X0_fittingWords (p0 : Nat) (w : Wd) : Option (Int32 × Wd) :=
  f_X0_fittingWords_4 4096 p0 (0 : Int32) (0 : Int32) w
def f_X0_mixInto_53 : Nat → Nat → Int64 → Int32 → Wd → Option (Int64 × Wd)
  | 0, _, _, _, _ => none
  | n + 1, v0, v3, v5, w =>
    gI w v0 0 7 fun x1 =>
    if (x1 * (4 : Int32)) ≤ v5 then
      some (v3, w)
    else
      gR w v0 0 3 fun r2 =>
      lI w r2 14 v5 fun x3 =>
      nm ((((31 : Int64) * v3) + (x3.toInt64))) fun x4 =>
      (f_X0_mixInto_53 n) v0 x4 ((v5 + (1 : Int32))) w
def f_X0_mixInto_5 : Nat → Nat → Int64 → Int32 → Wd → Option (Int64 × Wd)
  | 0, _, _, _, _ => none
  | n + 1, v0, v3, v5, w =>
    gI w v0 0 6 fun x5 =>
    if x5 ≤ v5 then
      f_X0_mixInto_53 4096 v0 v3 (0 : Int32) w
    else
      gR w v0 0 1 fun r6 =>
      lI w r6 14 v5 fun x7 =>
      nm ((((31 : Int64) * v3) + (x7.toInt64))) fun x8 =>
      gR w v0 0 2 fun r9 =>
      lI w r9 14 v5 fun x10 =>
      nm ((((31 : Int64) * x8) + (x10.toInt64))) fun x11 =>
      (f_X0_mixInto_5 n) v0 x11 ((v5 + (1 : Int32))) w
def f_X0_mixInto (p0 : Nat) (p1 : Int64) (w : Wd) : Option (Int64 × Wd) :=
  f_X0_mixInto_5 4096 p0 p1 (0 : Int32) w
def f_X0_mostAnsweredAlike_73 (rec25 : Nat → Int32 → Int32 → Int32 → Int32 → Wd → Option (Int32 × Wd)) (v0 : Nat) (v1 : Int32) (v2 : Int32) (v3 : Int32) (v4 : Int32) (w : Wd) : Option (Int32 × Wd) :=
  rec25 v0 v1 v2 v3 ((v4 + (1 : Int32))) w
def f_X0_mostAnsweredAlike_25 : Nat → Nat → Int32 → Int32 → Int32 → Int32 → Wd → Option (Int32 × Wd)
  | 0, _, _, _, _, _, _ => none
  | n + 1, v0, v1, v2, v3, v4, w =>
    if (32 : Int32) ≤ v4 then
      some (v3, w)
    else
      if ((iush v2 v4) &&& (1 : Int32)) = (1 : Int32) then
        cal (f_X11_likeLetters v1 v4 w) fun x2 w1 =>
        gR w1 v0 0 4 fun r3 =>
        lI w1 r3 14 x2 fun x4 =>
        aI w1 r3 14 x2 (x4 + (1 : Int32)) fun w5 =>
        gR w5 v0 0 4 fun r6 =>
        lI w5 r6 14 x2 fun x7 =>
        nm ((f_mmax v3 x7)) fun x8 =>
        f_X0_mostAnsweredAlike_73 (f_X0_mostAnsweredAlike_25 n) v0 v1 v2 x8 v4 w5
      else
        f_X0_mostAnsweredAlike_73 (f_X0_mostAnsweredAlike_25 n) v0 v1 v2 v3 v4 w
def f_X0_mostAnsweredAlike_2 : Nat → Nat → Int32 → Int32 → Int32 → Wd → Option (Int32 × Wd)
  | 0, _, _, _, _, _ => none
  | n + 1, v0, v1, v2, v3, w =>
    if (5 : Int32) < v3 then
      f_X0_mostAnsweredAlike_25 4096 v0 v1 v2 (0 : Int32) (0 : Int32) w
    else
      gR w v0 0 4 fun r9 =>
      aI w r9 14 v3 (0 : Int32) fun w10 =>
      (f_X0_mostAnsweredAlike_2 n) v0 v1 v2 ((v3 + (1 : Int32))) w10
def f_X0_mostAnsweredAlike (p0 : Nat) (p1 : Int32) (p2 : Int32) (w : Wd) : Option (Int32 × Wd) :=
  f_X0_mostAnsweredAlike_2 4096 p0 p1 p2 (0 : Int32) w
def f_X0_mostGroundAlike_6 : Nat → Nat → Int32 → Int32 → Int32 → Int32 → Int32 → Int32 → Wd → Option (Int32 × Wd)
  | 0, _, _, _, _, _, _, _, _ => none
  | n + 1, v0, v1, v2, v3, v4, v5, v6, w =>
    if (6 : Int32) ≤ v6 then
      some (v5, w)
    else
      gR w v0 0 5 fun r1 =>
      gR w v0 0 0 fun r2 =>
      lR w r2 18 v6 fun r3 =>
      cal (u_ground r3 v1 v2 v3 w) fun x5 w4 =>
      aI w4 r1 14 v6 x5 fun w6 =>
      calV w6 v0 0 (f_X0_fittingLike v0 v6 v4 w6) fun x8 w7 =>
      nm ((f_mmax v5 x8)) fun x9 =>
      (f_X0_mostGroundAlike_6 n) v0 v1 v2 v3 v4 x9 ((v6 + (1 : Int32))) w7
def f_X0_mostGroundAlike (p0 : Nat) (p1 : Int32) (p2 : Int32) (p3 : Int32) (p4 : Int32) (w : Wd) : Option (Int32 × Wd) :=
  f_X0_mostGroundAlike_6 4096 p0 p1 p2 p3 p4 (0 : Int32) (0 : Int32) w
def f_X0_sharpestLook_72 (rec23 : Nat → Int32 → Int32 → Int32 → Int32 → Int32 → Wd → Option (Int32 × Wd)) (rec33 : Nat → Int32 → Int32 → Int32 → Int32 → Int32 → Int32 → Wd → Option (Int32 × Wd)) (v0 : Nat) (v2 : Int32) (v3 : Int32) (v4 : Int32) (v5 : Int32) (v6 : Int32) (v7 : Int32) (w : Wd) : Option (Int32 × Wd) :=
  rec33 v0 v2 v3 v4 v5 v6 ((v7 + (1 : Int32))) w
def f_X0_sharpestLook_33 (rec23 : Nat → Int32 → Int32 → Int32 → Int32 → Int32 → Wd → Option (Int32 × Wd)) : Nat → Nat → Int32 → Int32 → Int32 → Int32 → Int32 → Int32 → Wd → Option (Int32 × Wd)
  | 0, _, _, _, _, _, _, _, _ => none
  | n + 1, v0, v2, v3, v4, v5, v6, v7, w =>
    if (4 : Int32) ≤ v7 then
      rec23 v0 v2 v3 v4 v5 ((v6 + (1 : Int32))) w
    else
      calV w v0 0 (f_X0_mostGroundAlike v0 v2 v7 v6 v3 w) fun x2 w1 =>
      if v5 ≤ x2 then
        f_X0_sharpestLook_72 rec23 (f_X0_sharpestLook_33 rec23 n) v0 v2 v3 v4 v5 v6 v7 w1
      else
        nm ((((10 : Int32) * v6) + v7)) fun x3 =>
        f_X0_sharpestLook_72 rec23 (f_X0_sharpestLook_33 rec23 n) v0 v2 v3 x3 x2 v6 v7 w1
def f_X0_sharpestLook_23 : Nat → Nat → Int32 → Int32 → Int32 → Int32 → Int32 → Wd → Option (Int32 × Wd)
  | 0, _, _, _, _, _, _, _ => none
  | n + 1, v0, v2, v3, v4, v5, v6, w =>
    if (9 : Int32) < v6 then
      some (v4, w)
    else
      f_X0_sharpestLook_33 (f_X0_sharpestLook_23 n) 4096 v0 v2 v3 v4 v5 v6 (0 : Int32) w
def f_X0_sharpestLook (p0 : Nat) (p1 : Int32) (p2 : Int32) (w : Wd) : Option (Int32 × Wd) :=
  calV w p0 0 (f_X0_fittingKinds p0 p1 p2 w) fun x5 w4 =>
  if x5 = 0 then
    some ((-1 : Int32), w4)
  else
    f_X0_sharpestLook_23 4096 p0 p2 x5 (-1 : Int32) (7 : Int32) (0 : Int32) w4
def f_X0_sharpestWord_47 (rec19 : Nat → Int32 → Int32 → Int32 → Int32 → Wd → Option (Int32 × Wd)) (v0 : Nat) (v1 : Int32) (v2 : Int32) (v3 : Int32) (v4 : Int32) (w : Wd) : Option (Int32 × Wd) :=
  rec19 v0 v1 v2 v3 ((v4 + (1 : Int32))) w
def f_X0_sharpestWord_19 : Nat → Nat → Int32 → Int32 → Int32 → Int32 → Wd → Option (Int32 × Wd)
  | 0, _, _, _, _, _, _ => none
  | n + 1, v0, v1, v2, v3, v4, w =>
    if (32 : Int32) ≤ v4 then
      some (v2, w)
    else
      calV w v0 0 (f_X0_mostAnsweredAlike v0 v4 v1 w) fun x2 w1 =>
      if v3 ≤ x2 then
        f_X0_sharpestWord_47 (f_X0_sharpestWord_19 n) v0 v1 v2 v3 v4 w1
      else
        f_X0_sharpestWord_47 (f_X0_sharpestWord_19 n) v0 v1 v4 x2 v4 w1
def f_X0_sharpestWord (p0 : Nat) (w : Wd) : Option (Int32 × Wd) :=
  calV w p0 0 (f_X0_fittingWords p0 w) fun x4 w3 =>
  if x4 = 0 then
    some ((-1 : Int32), w3)
  else
    f_X0_sharpestWord_19 4096 p0 x4 (-1 : Int32) (33 : Int32) (0 : Int32) w3
def f_X1_become (p0 : Nat) (p1 : Int32) (p2 : Int32) (p3 : Int32) (w : Wd) : Option (Unit × Wd) :=
  pI w p0 1 1 p1 fun w1 =>
  pI w1 p0 1 2 p2 fun w2 =>
  pI w2 p0 1 3 p3 fun w3 =>
  pI w3 p0 1 4 (0 : Int32) fun w4 =>
  pI w4 p0 1 5 (0 : Int32) fun w5 =>
  some ((), w5)
def f_X1_copyFrom (p0 : Nat) (p1 : Nat) (w : Wd) : Option (Unit × Wd) :=
  gI w p1 1 1 fun x1 =>
  gI w p1 1 2 fun x2 =>
  gI w p1 1 3 fun x3 =>
  calV w p0 1 (f_X1_become p0 x1 x2 x3 w) fun _ w4 =>
  gI w4 p1 1 4 fun x6 =>
  pI w4 p0 1 4 x6 fun w7 =>
  gI w7 p1 1 5 fun x8 =>
  pI w7 p0 1 5 x8 fun w9 =>
  some ((), w9)
def f_X5_fetches (p0 : Nat) (p1 : Int32) (p2 : Int32) (w : Wd) : Option (Int32 × Wd) :=
  some ((0 : Int32), w)
def f_X4_fetches (p0 : Nat) (p1 : Int32) (p2 : Int32) (w : Wd) : Option (Int32 × Wd) :=
  calO w p0 (f_X5_fetches p0 p1 p2 w) fun x2 w1 =>
  some ((x2 + (1 : Int32)), w1)
def f_X6_fetches_15 (s0 : Int32) (w : Wd) : Option (Int32 × Wd) :=
  some (s0, w)
def f_X6_fetches (p0 : Nat) (p1 : Int32) (p2 : Int32) (w : Wd) : Option (Int32 × Wd) :=
  nm ((p1 - (p2 / (5 : Int32)))) fun x1 =>
  if x1 ≤ 0 then
    f_X6_fetches_15 (0 : Int32) w
  else
    f_X6_fetches_15 x1 w
def f_X8_fetches (p0 : Nat) (p1 : Int32) (p2 : Int32) (w : Wd) : Option (Int32 × Wd) :=
  calO w p0 (f_X6_fetches p0 p1 p2 w) fun x2 w1 =>
  some ((x2 / (2 : Int32)), w1)
def u_fetches (a : Nat) (x0 x1 : Int32) (w : Wd) : Option (Int32 × Wd) := if isO w a 3 then f_X6_fetches a x0 x1 w else if isO w a 4 then f_X4_fetches a x0 x1 w else if isO w a 5 then f_X5_fetches a x0 x1 w else if isO w a 6 then f_X6_fetches a x0 x1 w else if isO w a 8 then f_X8_fetches a x0 x1 w else if isO w a 9 then f_X6_fetches a x0 x1 w else none
def f_X1_fetchesWhen (p0 : Nat) (p1 : Int32) (w : Wd) : Option (Int32 × Wd) :=
  gR w p0 1 0 fun r1 =>
  gI w p0 1 1 fun x2 =>
  lR w r1 18 x2 fun r3 =>
  gI w p0 1 3 fun x4 =>
  cal (u_fetches r3 x4 p1 w) fun x6 w5 =>
  some (x6, w5)
def f_X1_fetchedBy_5 : Nat → Nat → Int32 → Int32 → Int32 → Int32 → Wd → Option (Int32 × Wd)
  | 0, _, _, _, _, _, _ => none
  | n + 1, v0, v1, v2, v3, v4, w =>
    if v1 ≤ v4 then
      some (v3, w)
    else
      calV w v0 1 (f_X1_fetchesWhen v0 (v2 + v4) w) fun x2 w1 =>
      nm ((v3 + x2)) fun x3 =>
      (f_X1_fetchedBy_5 n) v0 v1 v2 x3 ((v4 + (1 : Int32))) w1
def f_X1_fetchedBy (p0 : Nat) (p1 : Int32) (p2 : Int32) (w : Wd) : Option (Int32 × Wd) :=
  f_X1_fetchedBy_5 4096 p0 p1 p2 (0 : Int32) (0 : Int32) w
def f_X1_giveAway (p0 : Nat) (p1 : Int32) (w : Wd) : Option (Int32 × Wd) :=
  gI w p0 1 5 fun x1 =>
  calV w p0 1 (f_X1_fetchedBy p0 p1 x1 w) fun x3 w2 =>
  gI w2 p0 1 4 fun x4 =>
  pI w2 p0 1 4 (x4 - p1) fun w5 =>
  gI w5 p0 1 5 fun x6 =>
  pI w5 p0 1 5 (x6 + p1) fun w7 =>
  some (x3, w7)
def f_X1_groundIn (p0 : Nat) (p1 : Int32) (p2 : Int32) (w : Wd) : Option (Int32 × Wd) :=
  gR w p0 1 0 fun r1 =>
  gI w p0 1 1 fun x2 =>
  lR w r1 18 x2 fun r3 =>
  gI w p0 1 2 fun x4 =>
  cal (u_ground r3 x4 p1 p2 w) fun x6 w5 =>
  some (x6, w5)
def f_X1_mixInto (p0 : Nat) (p1 : Int64) (w : Wd) : Option (Int64 × Wd) :=
  gI w p0 1 1 fun x1 =>
  nm ((((31 : Int64) * p1) + (x1.toInt64))) fun x2 =>
  gI w p0 1 2 fun x3 =>
  nm ((((31 : Int64) * x2) + (x3.toInt64))) fun x4 =>
  gI w p0 1 3 fun x5 =>
  nm ((((31 : Int64) * x4) + (x5.toInt64))) fun x6 =>
  gI w p0 1 4 fun x7 =>
  nm ((((31 : Int64) * x6) + (x7.toInt64))) fun x8 =>
  gI w p0 1 5 fun x9 =>
  some ((((31 : Int64) * x8) + (x9.toInt64)), w)
def f_X2_addGoods (p0 : Nat) (p1 : Int32) (p2 : Int32) (p3 : Int32) (w : Wd) : Option (Unit × Wd) :=
  gI w p0 2 4 fun x1 =>
  if x1 < (6 : Int32) then
    gR w p0 2 0 fun r2 =>
    gI w p0 2 4 fun x3 =>
    lR w r2 16 x3 fun r4 =>
    calV w r4 1 (f_X1_become r4 p1 p2 p3 w) fun _ w5 =>
    gI w5 p0 2 4 fun x7 =>
    pI w5 p0 2 4 (x7 + (1 : Int32)) fun w8 =>
    pI w8 p0 2 3 (0 : Int32) fun w9 =>
    some ((), w9)
  else
    some ((), w)
def f_X2_allBushels_4 : Nat → Nat → Int32 → Int32 → Wd → Option (Int32 × Wd)
  | 0, _, _, _, _ => none
  | n + 1, v0, v1, v2, w =>
    gI w v0 2 4 fun x1 =>
    if x1 ≤ v2 then
      some (v1, w)
    else
      gR w v0 2 0 fun r2 =>
      lR w r2 16 v2 fun r3 =>
      gI w r3 1 4 fun x4 =>
      nm ((v1 + x4)) fun x5 =>
      (f_X2_allBushels_4 n) v0 x5 ((v2 + (1 : Int32))) w
def f_X2_allBushels (p0 : Nat) (w : Wd) : Option (Int32 × Wd) :=
  f_X2_allBushels_4 4096 p0 (0 : Int32) (0 : Int32) w
def f_X2_copyFrom_66 : Nat → Nat → Nat → Int32 → Wd → Option (Unit × Wd)
  | 0, _, _, _, _ => none
  | n + 1, v0, v1, v2, w =>
    gI w v0 2 4 fun x1 =>
    if x1 ≤ v2 then
      gI w v1 2 3 fun x2 =>
      pI w v0 2 3 x2 fun w3 =>
      gR w3 v1 2 2 fun r4 =>
      gR w3 v0 2 2 fun r5 =>
      cpI w3 r4 (0 : Int32) r5 (0 : Int32) (136 : Int32) fun w6 =>
      gR w6 v0 2 1 fun r7 =>
      gR w6 v1 2 1 fun r8 =>
      calV w6 r7 0 (f_X0_copyFrom r7 r8 w6) fun _ w9 =>
      some ((), w9)
    else
      gR w v0 2 0 fun r11 =>
      lR w r11 16 v2 fun r12 =>
      gR w v1 2 0 fun r13 =>
      lR w r13 16 v2 fun r14 =>
      calV w r12 1 (f_X1_copyFrom r12 r14 w) fun _ w15 =>
      (f_X2_copyFrom_66 n) v0 v1 ((v2 + (1 : Int32))) w15
def f_X2_copyFrom (p0 : Nat) (p1 : Nat) (w : Wd) : Option (Unit × Wd) :=
  gI w p1 2 5 fun x17 =>
  pI w p0 2 5 x17 fun w18 =>
  gI w18 p1 2 6 fun x19 =>
  pI w18 p0 2 6 x19 fun w20 =>
  gI w20 p1 2 7 fun x21 =>
  pI w20 p0 2 7 x21 fun w22 =>
  gI w22 p1 2 8 fun x23 =>
  pI w22 p0 2 8 x23 fun w24 =>
  gI w24 p1 2 9 fun x25 =>
  pI w24 p0 2 9 x25 fun w26 =>
  gI w26 p1 2 10 fun x27 =>
  pI w26 p0 2 10 x27 fun w28 =>
  gI w28 p1 2 11 fun x29 =>
  pI w28 p0 2 11 x29 fun w30 =>
  gI w30 p1 2 4 fun x31 =>
  pI w30 p0 2 4 x31 fun w32 =>
  f_X2_copyFrom_66 4096 p0 p1 (0 : Int32) w32
def f_X2_goBack_86 : Nat → Nat → Int32 → Int32 → Wd → Option (Unit × Wd)
  | 0, _, _, _, _ => none
  | n + 1, v0, v1, v2, w =>
    gI w v0 2 4 fun x1 =>
    if x1 ≤ v2 then
      some ((), w)
    else
      gR w v0 2 0 fun r2 =>
      lR w r2 16 v2 fun r3 =>
      gR w v0 2 2 fun r4 =>
      lI w r4 14 ((v1 + (5 : Int32)) + ((2 : Int32) * v2)) fun x5 =>
      pI w r3 1 4 x5 fun w6 =>
      gR w6 v0 2 0 fun r7 =>
      lR w6 r7 16 v2 fun r8 =>
      gR w6 v0 2 2 fun r9 =>
      lI w6 r9 14 ((v1 + (6 : Int32)) + ((2 : Int32) * v2)) fun x10 =>
      pI w6 r8 1 5 x10 fun w11 =>
      (f_X2_goBack_86 n) v0 v1 ((v2 + (1 : Int32))) w11
def f_X2_goBack (p0 : Nat) (w : Wd) : Option (Unit × Wd) :=
  gI w p0 2 3 fun x12 =>
  if 0 < x12 then
    gI w p0 2 3 fun x13 =>
    pI w p0 2 3 (x13 - (1 : Int32)) fun w14 =>
    gI w14 p0 2 3 fun x15 =>
    nm ((x15 * (17 : Int32))) fun x16 =>
    gR w14 p0 2 2 fun r17 =>
    lI w14 r17 14 x16 fun x18 =>
    pI w14 p0 2 10 x18 fun w19 =>
    gR w19 p0 2 2 fun r20 =>
    lI w19 r20 14 (x16 + (1 : Int32)) fun x21 =>
    pI w19 p0 2 11 x21 fun w22 =>
    gR w22 p0 2 2 fun r23 =>
    lI w22 r23 14 (x16 + (2 : Int32)) fun x24 =>
    pI w22 p0 2 9 x24 fun w25 =>
    gR w25 p0 2 2 fun r26 =>
    lI w25 r26 14 (x16 + (3 : Int32)) fun x27 =>
    pI w25 p0 2 7 x27 fun w28 =>
    gR w28 p0 2 2 fun r29 =>
    lI w28 r29 14 (x16 + (4 : Int32)) fun x30 =>
    pI w28 p0 2 8 x30 fun w31 =>
    f_X2_goBack_86 4096 p0 x16 (0 : Int32) w31
  else
    some ((), w)
def f_X2_has_17 (s0 : Int32) (w : Wd) : Option (Int32 × Wd) :=
  rZ s0 w
def f_X2_has_16 (w : Wd) : Option (Int32 × Wd) :=
  f_X2_has_17 (0 : Int32) w
def f_X2_has (p0 : Nat) (p1 : Int32) (w : Wd) : Option (Int32 × Wd) :=
  if p1 < 0 then
    f_X2_has_16  w
  else
    gI w p0 2 4 fun x1 =>
    if x1 ≤ p1 then
      f_X2_has_16  w
    else
      f_X2_has_17 (1 : Int32) w
def f_X2_groundBy_26 (s0 : Int32) (w : Wd) : Option (Int32 × Wd) :=
  some (s0, w)
def f_X2_groundBy (p0 : Nat) (p1 : Int32) (p2 : Int32) (w : Wd) : Option (Int32 × Wd) :=
  calV w p0 2 (f_X2_has p0 p1 w) fun x2 w1 =>
  if x2 = 0 then
    f_X2_groundBy_26 (0 : Int32) w1
  else
    gR w1 p0 2 0 fun r3 =>
    lR w1 r3 16 p1 fun r4 =>
    gI w1 p0 2 8 fun x5 =>
    calV w1 r4 1 (f_X1_groundIn r4 p2 x5 w1) fun x7 w6 =>
    f_X2_groundBy_26 x7 w6
def f_X2_groundWithin_5 : Nat → Nat → Int32 → Int32 → Int32 → Int32 → Wd → Option (Int32 × Wd)
  | 0, _, _, _, _, _, _ => none
  | n + 1, v0, v1, v2, v3, v4, w =>
    if v2 ≤ v4 then
      some (v3, w)
    else
      gI w v0 2 9 fun x1 =>
      calV w v0 2 (f_X2_groundBy v0 v1 (x1 + v4) w) fun x3 w2 =>
      nm ((v3 + x3)) fun x4 =>
      (f_X2_groundWithin_5 n) v0 v1 v2 x4 ((v4 + (1 : Int32))) w2
def f_X2_groundWithin (p0 : Nat) (p1 : Int32) (p2 : Int32) (w : Wd) : Option (Int32 × Wd) :=
  f_X2_groundWithin_5 4096 p0 p1 p2 (0 : Int32) (0 : Int32) w
def f_X2_mixInto_39 : Nat → Nat → Int64 → Int32 → Wd → Option (Int64 × Wd)
  | 0, _, _, _, _ => none
  | n + 1, v0, v3, v5, w =>
    gI w v0 2 4 fun x1 =>
    if x1 ≤ v5 then
      gR w v0 2 1 fun r2 =>
      calV w r2 0 (f_X0_mixInto r2 v3 w) fun x4 w3 =>
      some (x4, w3)
    else
      gR w v0 2 0 fun r5 =>
      lR w r5 16 v5 fun r6 =>
      calV w r6 1 (f_X1_mixInto r6 v3 w) fun x8 w7 =>
      (f_X2_mixInto_39 n) v0 x8 ((v5 + (1 : Int32))) w7
def f_X2_mixInto (p0 : Nat) (p1 : Int64) (w : Wd) : Option (Int64 × Wd) :=
  gI w p0 2 5 fun x9 =>
  nm ((((31 : Int64) * p1) + (x9.toInt64))) fun x10 =>
  gI w p0 2 6 fun x11 =>
  nm ((((31 : Int64) * x10) + (x11.toInt64))) fun x12 =>
  gI w p0 2 7 fun x13 =>
  nm ((((31 : Int64) * x12) + (x13.toInt64))) fun x14 =>
  f_X2_mixInto_39 4096 p0 x14 (0 : Int32) w
def f_X2_passHour_56 (v0 : Nat) (v1 : Int32) (v2 : Int32) (w : Wd) : Option (Int32 × Wd) :=
  gI w v0 2 10 fun x1 =>
  pI w v0 2 10 (x1 + (v1 - v2)) fun w2 =>
  gI w2 v0 2 9 fun x3 =>
  pI w2 v0 2 9 (x3 + (1 : Int32)) fun w4 =>
  some (v1, w4)
def f_X2_passHour (p0 : Nat) (w : Wd) : Option (Int32 × Wd) :=
  gI w p0 2 7 fun x5 =>
  gI w p0 2 9 fun x6 =>
  calV w p0 2 (f_X2_groundBy p0 x5 x6 w) fun x8 w7 =>
  gI w7 p0 2 5 fun x9 =>
  calV w7 p0 2 (f_X2_allBushels p0 w7) fun x11 w10 =>
  nm ((f_mmin x8 (x9 - x11))) fun x12 =>
  gI w10 p0 2 7 fun x13 =>
  calV w10 p0 2 (f_X2_has p0 x13 w10) fun x15 w14 =>
  if x15 = 0 then
    f_X2_passHour_56 p0 x8 x12 w14
  else
    gR w14 p0 2 0 fun r16 =>
    gI w14 p0 2 7 fun x17 =>
    lR w14 r16 16 x17 fun r18 =>
    gI w14 r18 1 4 fun x19 =>
    pI w14 r18 1 4 (x19 + x12) fun w20 =>
    f_X2_passHour_56 p0 x8 x12 w20
def f_X2_remember_99 : Nat → Nat → Int32 → Int32 → Wd → Option (Unit × Wd)
  | 0, _, _, _, _ => none
  | n + 1, v0, v1, v2, w =>
    gI w v0 2 4 fun x1 =>
    if x1 ≤ v2 then
      gI w v0 2 3 fun x2 =>
      pI w v0 2 3 (x2 + (1 : Int32)) fun w3 =>
      some ((), w3)
    else
      gR w v0 2 2 fun r4 =>
      gR w v0 2 0 fun r5 =>
      lR w r5 16 v2 fun r6 =>
      gI w r6 1 4 fun x7 =>
      aI w r4 14 ((v1 + (5 : Int32)) + ((2 : Int32) * v2)) x7 fun w8 =>
      gR w8 v0 2 2 fun r9 =>
      gR w8 v0 2 0 fun r10 =>
      lR w8 r10 16 v2 fun r11 =>
      gI w8 r11 1 5 fun x12 =>
      aI w8 r9 14 ((v1 + (6 : Int32)) + ((2 : Int32) * v2)) x12 fun w13 =>
      (f_X2_remember_99 n) v0 v1 ((v2 + (1 : Int32))) w13
def f_X2_remember_31 (v0 : Nat) (w : Wd) : Option (Unit × Wd) :=
  gI w v0 2 3 fun x14 =>
  nm ((x14 * (17 : Int32))) fun x15 =>
  gR w v0 2 2 fun r16 =>
  gI w v0 2 10 fun x17 =>
  aI w r16 14 x15 x17 fun w18 =>
  gR w18 v0 2 2 fun r19 =>
  gI w18 v0 2 11 fun x20 =>
  aI w18 r19 14 (x15 + (1 : Int32)) x20 fun w21 =>
  gR w21 v0 2 2 fun r22 =>
  gI w21 v0 2 9 fun x23 =>
  aI w21 r22 14 (x15 + (2 : Int32)) x23 fun w24 =>
  gR w24 v0 2 2 fun r25 =>
  gI w24 v0 2 7 fun x26 =>
  aI w24 r25 14 (x15 + (3 : Int32)) x26 fun w27 =>
  gR w27 v0 2 2 fun r28 =>
  gI w27 v0 2 8 fun x29 =>
  aI w27 r28 14 (x15 + (4 : Int32)) x29 fun w30 =>
  f_X2_remember_99 4096 v0 x15 (0 : Int32) w30
def f_X2_remember (p0 : Nat) (w : Wd) : Option (Unit × Wd) :=
  gI w p0 2 3 fun x31 =>
  if x31 < (8 : Int32) then
    f_X2_remember_31 p0 w
  else
    gR w p0 2 2 fun r32 =>
    gR w p0 2 2 fun r33 =>
    cpI w r32 (17 : Int32) r33 (0 : Int32) (119 : Int32) fun w34 =>
    pI w34 p0 2 3 (7 : Int32) fun w35 =>
    f_X2_remember_31 p0 w35
def f_X2_startAnew (p0 : Nat) (p1 : Int32) (w : Wd) : Option (Unit × Wd) :=
  pI w p0 2 5 p1 fun w1 =>
  pI w1 p0 2 6 (0 : Int32) fun w2 =>
  pI w2 p0 2 7 (-1 : Int32) fun w3 =>
  pI w3 p0 2 8 (0 : Int32) fun w4 =>
  pI w4 p0 2 9 (0 : Int32) fun w5 =>
  pI w5 p0 2 10 (0 : Int32) fun w6 =>
  pI w6 p0 2 11 (0 : Int32) fun w7 =>
  pI w7 p0 2 4 (0 : Int32) fun w8 =>
  pI w8 p0 2 3 (0 : Int32) fun w9 =>
  gR w9 p0 2 1 fun r10 =>
  pI w9 r10 0 6 (0 : Int32) fun w11 =>
  gR w11 p0 2 1 fun r12 =>
  pI w11 r12 0 7 (0 : Int32) fun w13 =>
  some ((), w13)
def f_X7_fillFewest_84 (rec9 : Nat → Int32 → Int32 → Int32 → Wd → Option (Unit × Wd)) (rec26 : Nat → Int32 → Int32 → Int32 → Int32 → Wd → Option (Unit × Wd)) (v0 : Nat) (v1 : Int32) (v2 : Int32) (v3 : Int32) (v4 : Int32) (w : Wd) : Option (Unit × Wd) :=
  rec26 v0 v1 v2 v3 ((v4 + (1 : Int32))) w
def f_X7_fillFewest_26 (rec9 : Nat → Int32 → Int32 → Int32 → Wd → Option (Unit × Wd)) : Nat → Nat → Int32 → Int32 → Int32 → Int32 → Wd → Option (Unit × Wd)
  | 0, _, _, _, _, _, _ => none
  | n + 1, v0, v1, v2, v3, v4, w =>
    if v1 ≤ v4 then
      rec9 v0 v1 v2 ((v3 + (1 : Int32))) w
    else
      gR w v0 7 1 fun r1 =>
      lI w r1 14 v4 fun x2 =>
      if x2 ≤ 0 then
        f_X7_fillFewest_84 rec9 (f_X7_fillFewest_26 rec9 n) v0 v1 v2 v3 v4 w
      else
        gR w v0 7 1 fun r3 =>
        lI w r3 14 v4 fun x4 =>
        if v3 < x4 then
          f_X7_fillFewest_84 rec9 (f_X7_fillFewest_26 rec9 n) v0 v1 v2 v3 v4 w
        else
          gR w v0 7 2 fun r5 =>
          gR w v0 7 2 fun r6 =>
          lI w r6 14 v3 fun x7 =>
          gR w v0 7 2 fun r8 =>
          gR w v0 7 1 fun r9 =>
          lI w r9 14 v4 fun x10 =>
          lI w r8 14 (v3 - x10) fun x11 =>
          aI w r5 14 v3 (f_mmin x7 (x11 + (1 : Int32))) fun w12 =>
          f_X7_fillFewest_84 rec9 (f_X7_fillFewest_26 rec9 n) v0 v1 v2 v3 v4 w12
def f_X7_fillFewest_9 : Nat → Nat → Int32 → Int32 → Int32 → Wd → Option (Unit × Wd)
  | 0, _, _, _, _, _ => none
  | n + 1, v0, v1, v2, v3, w =>
    if v2 < v3 then
      some ((), w)
    else
      gR w v0 7 2 fun r13 =>
      aI w r13 14 v3 (1000 : Int32) fun w14 =>
      f_X7_fillFewest_26 (f_X7_fillFewest_9 n) 4096 v0 v1 v2 v3 (0 : Int32) w14
def f_X7_fillFewest (p0 : Nat) (p1 : Int32) (p2 : Int32) (w : Wd) : Option (Unit × Wd) :=
  gR w p0 7 2 fun r15 =>
  aI w r15 14 (0 : Int32) (0 : Int32) fun w16 =>
  f_X7_fillFewest_9 4096 p0 p1 p2 (1 : Int32) w16
def f_X7_fillYields_2 : Nat → Nat → Nat → Int32 → Wd → Option (Unit × Wd)
  | 0, _, _, _, _ => none
  | n + 1, v0, v1, v2, w =>
    gI w v1 2 4 fun x1 =>
    if x1 ≤ v2 then
      some ((), w)
    else
      gR w v0 7 1 fun r2 =>
      gR w v1 2 0 fun r3 =>
      lR w r3 16 v2 fun r4 =>
      gI w v1 2 8 fun x5 =>
      calV w r4 1 (f_X1_groundIn r4 (0 : Int32) x5 w) fun x7 w6 =>
      aI w6 r2 14 v2 x7 fun w8 =>
      (f_X7_fillYields_2 n) v0 v1 ((v2 + (1 : Int32))) w8
def f_X7_fillYields (p0 : Nat) (p1 : Nat) (w : Wd) : Option (Unit × Wd) :=
  f_X7_fillYields_2 4096 p0 p1 (0 : Int32) w
def f_X7_staysFewest_33 (s0 : Int32) (w : Wd) : Option (Int32 × Wd) :=
  rZ s0 w
def f_X7_staysFewest_32 (w : Wd) : Option (Int32 × Wd) :=
  f_X7_staysFewest_33 (0 : Int32) w
def f_X7_staysFewest (p0 : Nat) (p1 : Int32) (p2 : Int32) (w : Wd) : Option (Int32 × Wd) :=
  if p2 ≤ 0 then
    f_X7_staysFewest_32  w
  else
    if p1 < p2 then
      f_X7_staysFewest_32  w
    else
      gR w p0 7 2 fun r1 =>
      lI w r1 14 (p1 - p2) fun x2 =>
      gR w p0 7 2 fun r3 =>
      lI w r3 14 p1 fun x4 =>
      if x2 = (x4 - (1 : Int32)) then
        f_X7_staysFewest_33 (1 : Int32) w
      else
        f_X7_staysFewest_32  w
def f_X7_fewestHours_101 (rec33 : Nat → Nat → Int32 → Int32 → Int32 → Wd → Option (Int32 × Wd)) (v0 : Nat) (v1 : Nat) (v2 : Int32) (v3 : Int32) (v4 : Int32) (w : Wd) : Option (Int32 × Wd) :=
  rec33 v0 v1 v2 v3 ((v4 + (1 : Int32))) w
def f_X7_fewestHours_53 (rec33 : Nat → Nat → Int32 → Int32 → Int32 → Wd → Option (Int32 × Wd)) : Nat → Nat → Nat → Int32 → Int32 → Int32 → Int32 → Wd → Option (Int32 × Wd)
  | 0, _, _, _, _, _, _, _ => none
  | n + 1, v0, v1, v2, v3, v4, v5, w =>
    if v2 ≤ v5 then
      f_X7_fewestHours_101 rec33 v0 v1 v2 v3 v4 w
    else
      gR w v0 7 1 fun r1 =>
      lI w r1 14 v4 fun x2 =>
      calV w v0 7 (f_X7_staysFewest v0 v3 x2 w) fun x4 w3 =>
      if x4 = 0 then
        f_X7_fewestHours_101 rec33 v0 v1 v2 v3 v4 w3
      else
        gR w3 v0 7 0 fun r5 =>
        lI w3 r5 14 v4 fun x6 =>
        aI w3 r5 14 v4 (x6 + (1 : Int32)) fun w7 =>
        gR w7 v0 7 1 fun r8 =>
        lI w7 r8 14 v4 fun x9 =>
        nm ((v3 - x9)) fun x10 =>
        (f_X7_fewestHours_53 rec33 n) v0 v1 v2 x10 v4 ((v5 + (1 : Int32))) w7
def f_X7_fewestHours_33 : Nat → Nat → Nat → Int32 → Int32 → Int32 → Wd → Option (Int32 × Wd)
  | 0, _, _, _, _, _, _ => none
  | n + 1, v0, v1, v2, v3, v4, w =>
    gI w v1 2 4 fun x11 =>
    if x11 ≤ v4 then
      gR w v0 7 2 fun r12 =>
      lI w r12 14 v2 fun x13 =>
      some (x13, w)
    else
      gR w v0 7 0 fun r14 =>
      aI w r14 14 v4 (0 : Int32) fun w15 =>
      f_X7_fewestHours_53 (f_X7_fewestHours_33 n) 4096 v0 v1 v2 v3 v4 (0 : Int32) w15
def f_X7_fewestHours (p0 : Nat) (p1 : Nat) (p2 : Int32) (w : Wd) : Option (Int32 × Wd) :=
  calV w p0 7 (f_X7_fillYields p0 p1 w) fun _ w16 =>
  gI w16 p1 2 4 fun x18 =>
  calV w16 p0 7 (f_X7_fillFewest p0 x18 p2 w16) fun _ w19 =>
  gR w19 p0 7 2 fun r21 =>
  lI w19 r21 14 p2 fun x22 =>
  if x22 < (1000 : Int32) then
    f_X7_fewestHours_33 4096 p0 p1 p2 p2 (0 : Int32) w19
  else
    some ((-1 : Int32), w19)
def f_X7_fillGains_30 (rec2 : Nat → Nat → Int32 → Int32 → Wd → Option (Unit × Wd)) : Nat → Nat → Nat → Int32 → Int32 → Nat → Int32 → Wd → Option (Unit × Wd)
  | 0, _, _, _, _, _, _, _ => none
  | n + 1, v0, v1, v2, v3, v4, v5, w =>
    if v2 < v5 then
      rec2 v0 v1 v2 ((v3 + (1 : Int32))) w
    else
      gI w v4 1 5 fun x1 =>
      gR w v0 7 1 fun r2 =>
      lI w r2 14 v3 fun x3 =>
      nm ((x1 + ((v5 - (1 : Int32)) * x3))) fun x4 =>
      gR w v0 7 3 fun r5 =>
      lR w r5 19 v3 fun r6 =>
      gR w v0 7 3 fun r7 =>
      lR w r7 19 v3 fun r8 =>
      lI w r8 14 (v5 - (1 : Int32)) fun x9 =>
      gR w v0 7 1 fun r10 =>
      lI w r10 14 v3 fun x11 =>
      calV w v4 1 (f_X1_fetchedBy v4 x11 x4 w) fun x13 w12 =>
      aI w12 r6 14 v5 (x9 + x13) fun w14 =>
      (f_X7_fillGains_30 rec2 n) v0 v1 v2 v3 v4 ((v5 + (1 : Int32))) w14
def f_X7_fillGains_2 : Nat → Nat → Nat → Int32 → Int32 → Wd → Option (Unit × Wd)
  | 0, _, _, _, _, _ => none
  | n + 1, v0, v1, v2, v3, w =>
    gI w v1 2 4 fun x15 =>
    if x15 ≤ v3 then
      some ((), w)
    else
      gR w v1 2 0 fun r16 =>
      lR w r16 16 v3 fun r17 =>
      gR w v0 7 3 fun r18 =>
      lR w r18 19 v3 fun r19 =>
      aI w r19 14 (0 : Int32) (0 : Int32) fun w20 =>
      f_X7_fillGains_30 (f_X7_fillGains_2 n) 4096 v0 v1 v2 v3 r17 (1 : Int32) w20
def f_X7_fillGains (p0 : Nat) (p1 : Nat) (p2 : Int32) (w : Wd) : Option (Unit × Wd) :=
  f_X7_fillGains_2 4096 p0 p1 p2 (0 : Int32) w
def f_X7_fillMost_52 (rec26 : Nat → Int32 → Int32 → Wd → Option (Unit × Wd)) (rec33 : Nat → Int32 → Int32 → Int32 → Wd → Option (Unit × Wd)) : Nat → Nat → Int32 → Int32 → Int32 → Int32 → Wd → Option (Unit × Wd)
  | 0, _, _, _, _, _, _ => none
  | n + 1, v0, v2, v3, v4, v5, w =>
    if v4 < v5 then
      rec33 v0 v2 v3 ((v4 + (1 : Int32))) w
    else
      gR w v0 7 4 fun r1 =>
      lR w r1 19 v3 fun r2 =>
      gR w v0 7 4 fun r3 =>
      lR w r3 19 v3 fun r4 =>
      lI w r4 14 v4 fun x5 =>
      gR w v0 7 3 fun r6 =>
      lR w r6 19 v3 fun r7 =>
      lI w r7 14 v5 fun x8 =>
      gR w v0 7 4 fun r9 =>
      lR w r9 19 (v3 + (1 : Int32)) fun r10 =>
      lI w r10 14 (v4 - v5) fun x11 =>
      aI w r2 14 v4 (f_mmax x5 (x8 + x11)) fun w12 =>
      (f_X7_fillMost_52 rec26 rec33 n) v0 v2 v3 v4 ((v5 + (1 : Int32))) w12
def f_X7_fillMost_33 (rec26 : Nat → Int32 → Int32 → Wd → Option (Unit × Wd)) : Nat → Nat → Int32 → Int32 → Int32 → Wd → Option (Unit × Wd)
  | 0, _, _, _, _, _ => none
  | n + 1, v0, v2, v3, v4, w =>
    if v2 < v4 then
      rec26 v0 v2 ((v3 + (-1 : Int32))) w
    else
      gR w v0 7 4 fun r13 =>
      lR w r13 19 v3 fun r14 =>
      aI w r14 14 v4 (0 : Int32) fun w15 =>
      f_X7_fillMost_52 rec26 (f_X7_fillMost_33 rec26 n) 4096 v0 v2 v3 v4 (0 : Int32) w15
def f_X7_fillMost_26 : Nat → Nat → Int32 → Int32 → Wd → Option (Unit × Wd)
  | 0, _, _, _, _ => none
  | n + 1, v0, v2, v3, w =>
    if v3 < 0 then
      some ((), w)
    else
      f_X7_fillMost_33 (f_X7_fillMost_26 n) 4096 v0 v2 v3 (0 : Int32) w
def f_X7_fillMost_2 : Nat → Nat → Int32 → Int32 → Int32 → Wd → Option (Unit × Wd)
  | 0, _, _, _, _, _ => none
  | n + 1, v0, v1, v2, v3, w =>
    if v2 < v3 then
      nm ((v1 - (1 : Int32))) fun x16 =>
      f_X7_fillMost_26 4096 v0 v2 x16 w
    else
      gR w v0 7 4 fun r17 =>
      lR w r17 19 v1 fun r18 =>
      aI w r18 14 v3 (0 : Int32) fun w19 =>
      (f_X7_fillMost_2 n) v0 v1 v2 ((v3 + (1 : Int32))) w19
def f_X7_fillMost (p0 : Nat) (p1 : Int32) (p2 : Int32) (w : Wd) : Option (Unit × Wd) :=
  f_X7_fillMost_2 4096 p0 p1 p2 (0 : Int32) w
def f_X7_fillStreet_63 (rec2 : Nat → Nat → Int32 → Int32 → Wd → Option (Unit × Wd)) : Nat → Nat → Nat → Int32 → Int32 → Nat → Int32 → Int32 → Wd → Option (Unit × Wd)
  | 0, _, _, _, _, _, _, _, _ => none
  | n + 1, v0, v1, v2, v3, v4, v5, v6, w =>
    if v5 ≤ v6 then
      rec2 v0 v1 v2 ((v3 + (1 : Int32))) w
    else
      gI w v4 1 5 fun x1 =>
      nm ((x1 + ((2 : Int32) * v6))) fun x2 =>
      gR w v0 7 6 fun r3 =>
      lI w r3 14 v3 fun x4 =>
      calV w v4 1 (f_X1_fetchesWhen v4 x2 w) fun x6 w5 =>
      aI w5 r3 14 v3 (x4 + x6) fun w7 =>
      gR w7 v0 7 7 fun r8 =>
      lI w7 r8 14 v3 fun x9 =>
      calV w7 v4 1 (f_X1_fetchesWhen v4 (x2 + (1 : Int32)) w7) fun x11 w10 =>
      aI w10 r8 14 v3 (x9 + x11) fun w12 =>
      (f_X7_fillStreet_63 rec2 n) v0 v1 v2 v3 v4 v5 ((v6 + (1 : Int32))) w12
def f_X7_fillStreet_2 : Nat → Nat → Nat → Int32 → Int32 → Wd → Option (Unit × Wd)
  | 0, _, _, _, _, _ => none
  | n + 1, v0, v1, v2, v3, w =>
    gI w v1 2 4 fun x13 =>
    if x13 ≤ v3 then
      some ((), w)
    else
      gR w v1 2 0 fun r14 =>
      lR w r14 16 v3 fun r15 =>
      gR w v0 7 1 fun r16 =>
      lI w r16 14 v3 fun x17 =>
      nm ((v2 * x17)) fun x18 =>
      gR w v0 7 5 fun r19 =>
      gI w r15 1 5 fun x20 =>
      calV w r15 1 (f_X1_fetchedBy r15 x18 x20 w) fun x22 w21 =>
      aI w21 r19 14 v3 x22 fun w23 =>
      gR w23 v0 7 6 fun r24 =>
      aI w23 r24 14 v3 (0 : Int32) fun w25 =>
      gR w25 v0 7 7 fun r26 =>
      aI w25 r26 14 v3 (0 : Int32) fun w27 =>
      f_X7_fillStreet_63 (f_X7_fillStreet_2 n) 4096 v0 v1 v2 v3 r15 x18 (0 : Int32) w27
def f_X7_fillStreet (p0 : Nat) (p1 : Nat) (p2 : Int32) (w : Wd) : Option (Unit × Wd) :=
  f_X7_fillStreet_2 4096 p0 p1 p2 (0 : Int32) w
def f_X7_firstHas_20 (s0 : Int32) (w : Wd) : Option (Int32 × Wd) :=
  some (s0, w)
def f_X7_firstHas (p0 : Nat) (p1 : Int32) (p2 : Int32) (w : Wd) : Option (Int32 × Wd) :=
  if p1 = p2 then
    gR w p0 7 6 fun r3 =>
    lI w r3 14 p1 fun x4 =>
    f_X7_firstHas_20 x4 w
  else
    gR w p0 7 5 fun r1 =>
    lI w r1 14 p1 fun x2 =>
    f_X7_firstHas_20 x2 w
def f_X7_mostMoney_105 (rec25 : Nat → Nat → Int32 → Int32 → Int32 → Wd → Option (Int32 × Wd)) (v0 : Nat) (v1 : Nat) (v2 : Int32) (v3 : Int32) (v4 : Int32) (w : Wd) : Option (Int32 × Wd) :=
  gR w v0 7 0 fun r1 =>
  lI w r1 14 v4 fun x2 =>
  nm ((v3 - x2)) fun x3 =>
  rec25 v0 v1 v2 x3 ((v4 + (1 : Int32))) w
def f_X7_mostMoney_45 (rec25 : Nat → Nat → Int32 → Int32 → Int32 → Wd → Option (Int32 × Wd)) : Nat → Nat → Nat → Int32 → Int32 → Int32 → Int32 → Wd → Option (Int32 × Wd)
  | 0, _, _, _, _, _, _, _ => none
  | n + 1, v0, v1, v2, v3, v4, v5, w =>
    if v5 ≤ 0 then
      f_X7_mostMoney_105 rec25 v0 v1 v2 v3 v4 w
    else
      gR w v0 7 3 fun r4 =>
      lR w r4 19 v4 fun r5 =>
      lI w r5 14 v5 fun x6 =>
      gR w v0 7 4 fun r7 =>
      lR w r7 19 (v4 + (1 : Int32)) fun r8 =>
      lI w r8 14 (v3 - v5) fun x9 =>
      gR w v0 7 4 fun r10 =>
      lR w r10 19 v4 fun r11 =>
      lI w r11 14 v3 fun x12 =>
      if (x6 + x9) = x12 then
        gR w v0 7 0 fun r13 =>
        aI w r13 14 v4 v5 fun w14 =>
        f_X7_mostMoney_105 rec25 v0 v1 v2 v3 v4 w14
      else
        (f_X7_mostMoney_45 rec25 n) v0 v1 v2 v3 v4 ((v5 + (-1 : Int32))) w
def f_X7_mostMoney_25 : Nat → Nat → Nat → Int32 → Int32 → Int32 → Wd → Option (Int32 × Wd)
  | 0, _, _, _, _, _, _ => none
  | n + 1, v0, v1, v2, v3, v4, w =>
    gI w v1 2 4 fun x15 =>
    if x15 ≤ v4 then
      gR w v0 7 4 fun r16 =>
      lR w r16 19 (0 : Int32) fun r17 =>
      lI w r17 14 v2 fun x18 =>
      some (x18, w)
    else
      gR w v0 7 0 fun r19 =>
      aI w r19 14 v4 (0 : Int32) fun w20 =>
      f_X7_mostMoney_45 (f_X7_mostMoney_25 n) 4096 v0 v1 v2 v3 v4 v3 w20
def f_X7_mostMoney (p0 : Nat) (p1 : Nat) (p2 : Int32) (w : Wd) : Option (Int32 × Wd) :=
  calV w p0 7 (f_X7_fillYields p0 p1 w) fun _ w21 =>
  calV w21 p0 7 (f_X7_fillGains p0 p1 p2 w21) fun _ w23 =>
  gI w23 p1 2 4 fun x25 =>
  calV w23 p0 7 (f_X7_fillMost p0 x25 p2 w23) fun _ w26 =>
  f_X7_mostMoney_25 4096 p0 p1 p2 p2 (0 : Int32) w26
def f_X7_secondHas_20 (s0 : Int32) (w : Wd) : Option (Int32 × Wd) :=
  some (s0, w)
def f_X7_secondHas (p0 : Nat) (p1 : Int32) (p2 : Int32) (w : Wd) : Option (Int32 × Wd) :=
  if p1 = p2 then
    gR w p0 7 7 fun r3 =>
    lI w r3 14 p2 fun x4 =>
    f_X7_secondHas_20 x4 w
  else
    gR w p0 7 5 fun r1 =>
    lI w r1 14 p2 fun x2 =>
    f_X7_secondHas_20 x2 w
def f_X7_pairRests_41 (w : Wd) : Option (Int32 × Wd) :=
  rZ (0 : Int32) w
def f_X7_pairRests_3 : Nat → Nat → Int32 → Int32 → Int32 → Int32 → Wd → Option (Int32 × Wd)
  | 0, _, _, _, _, _, _ => none
  | n + 1, v0, v1, v2, v3, v4, w =>
    if v3 ≤ v4 then
      rZ (1 : Int32) w
    else
      calV w v0 7 (f_X7_firstHas v0 v4 v2 w) fun x2 w1 =>
      calV w1 v0 7 (f_X7_firstHas v0 v1 v2 w1) fun x4 w3 =>
      if x4 < x2 then
        f_X7_pairRests_41  w3
      else
        calV w3 v0 7 (f_X7_secondHas v0 v1 v4 w3) fun x6 w5 =>
        calV w5 v0 7 (f_X7_secondHas v0 v1 v2 w5) fun x8 w7 =>
        if x6 ≤ x8 then
          (f_X7_pairRests_3 n) v0 v1 v2 v3 ((v4 + (1 : Int32))) w7
        else
          f_X7_pairRests_41  w7
def f_X7_pairRests (p0 : Nat) (p1 : Int32) (p2 : Int32) (p3 : Int32) (w : Wd) : Option (Int32 × Wd) :=
  f_X7_pairRests_3 4096 p0 p1 p2 p3 (0 : Int32) w
def f_X7_restingPairs_98 (s0 : Int32) (w : Wd) : Option (Int32 × Wd) :=
  some (s0, w)
def f_X7_restingPairs_74 (rec17 : Nat → Nat → Int32 → Int32 → Int32 → Wd → Option (Int32 × Wd)) (rec29 : Nat → Nat → Int32 → Int32 → Int32 → Int32 → Wd → Option (Int32 × Wd)) (v0 : Nat) (v1 : Nat) (v3 : Int32) (v4 : Int32) (v5 : Int32) (v6 : Int32) (w : Wd) : Option (Int32 × Wd) :=
  rec29 v0 v1 v3 v4 v5 ((v6 + (1 : Int32))) w
def f_X7_restingPairs_29 (rec17 : Nat → Nat → Int32 → Int32 → Int32 → Wd → Option (Int32 × Wd)) : Nat → Nat → Nat → Int32 → Int32 → Int32 → Int32 → Wd → Option (Int32 × Wd)
  | 0, _, _, _, _, _, _, _ => none
  | n + 1, v0, v1, v3, v4, v5, v6, w =>
    gI w v1 2 4 fun x1 =>
    if x1 ≤ v6 then
      rec17 v0 v1 v3 v4 ((v5 + (1 : Int32))) w
    else
      gI w v1 2 4 fun x2 =>
      calV w v0 7 (f_X7_pairRests v0 v5 v6 x2 w) fun x4 w3 =>
      if x4 = 0 then
        f_X7_restingPairs_74 rec17 (f_X7_restingPairs_29 rec17 n) v0 v1 v3 v4 v5 v6 w3
      else
        if v4 = v3 then
          some ((((6 : Int32) * v5) + v6), w3)
        else
          f_X7_restingPairs_74 rec17 (f_X7_restingPairs_29 rec17 n) v0 v1 v3 ((v4 + (1 : Int32))) v5 v6 w3
def f_X7_restingPairs_17 : Nat → Nat → Nat → Int32 → Int32 → Int32 → Wd → Option (Int32 × Wd)
  | 0, _, _, _, _, _, _ => none
  | n + 1, v0, v1, v3, v4, v5, w =>
    gI w v1 2 4 fun x5 =>
    if x5 ≤ v5 then
      if v3 = (-1 : Int32) then
        f_X7_restingPairs_98 v4 w
      else
        f_X7_restingPairs_98 (-5 : Int32) w
    else
      f_X7_restingPairs_29 (f_X7_restingPairs_17 n) 4096 v0 v1 v3 v4 v5 (0 : Int32) w
def f_X7_restingPairs (p0 : Nat) (p1 : Nat) (p2 : Int32) (p3 : Int32) (w : Wd) : Option (Int32 × Wd) :=
  calV w p0 7 (f_X7_fillYields p0 p1 w) fun _ w6 =>
  calV w6 p0 7 (f_X7_fillStreet p0 p1 p2 w6) fun _ w8 =>
  f_X7_restingPairs_17 4096 p0 p1 p3 (0 : Int32) (0 : Int32) w8
def f_X10_append_31 (w : Wd) : Option (Unit × Wd) :=
  some ((), w)
def f_X10_append (p0 : Nat) (p1 : Int32) (w : Wd) : Option (Unit × Wd) :=
  gI w p0 10 1 fun x1 =>
  if (150 : Int32) ≤ x1 then
    f_X10_append_31  w
  else
    gR w p0 10 0 fun r2 =>
    gI w p0 10 1 fun x3 =>
    aI w r2 13 x3 (vp_nar .byte (p1.toInt8.toInt32)) fun w4 =>
    gI w4 p0 10 1 fun x5 =>
    pI w4 p0 10 1 (x5 + (1 : Int32)) fun w6 =>
    f_X10_append_31  w6
def f_X10_failAt_13 (w : Wd) : Option (Unit × Wd) :=
  some ((), w)
def f_X10_failAt (p0 : Nat) (p1 : Int32) (w : Wd) : Option (Unit × Wd) :=
  gI w p0 10 2 fun x1 =>
  if x1 = (-1 : Int32) then
    pI w p0 10 2 p1 fun w2 =>
    f_X10_failAt_13  w2
  else
    f_X10_failAt_13  w
def f_X10_isNamed_17 : Nat → Nat → Int32 → Nat → Int32 → Wd → Option (Int32 × Wd)
  | 0, _, _, _, _, _ => none
  | n + 1, v0, v1, v2, v3, w =>
    cal (f_S_length v2 w) fun x2 w1 =>
    if x2 ≤ v3 then
      rZ (1 : Int32) w1
    else
      gR w1 v0 10 0 fun r3 =>
      lI w1 r3 13 (v1 + v3) fun x4 =>
      cal (f_S_charAt v2 v3 w1) fun x6 w5 =>
      if x4 = x6 then
        (f_X10_isNamed_17 n) v0 v1 v2 ((v3 + (1 : Int32))) w5
      else
        rZ (0 : Int32) w5
def f_X10_isNamed (p0 : Nat) (p1 : Int32) (p2 : Nat) (w : Wd) : Option (Int32 × Wd) :=
  gI w p0 10 3 fun x7 =>
  cal (f_S_length p2 w) fun x9 w8 =>
  if (x7 - p1) = x9 then
    f_X10_isNamed_17 4096 p0 p1 p2 (0 : Int32) w8
  else
    rZ (0 : Int32) w8
def f_X10_passBlanks_38 (w : Wd) : Option (Unit × Wd) :=
  some ((), w)
def f_X10_passBlanks_0 : Nat → Nat → Wd → Option (Unit × Wd)
  | 0, _, _ => none
  | n + 1, v0, w =>
    gI w v0 10 3 fun x1 =>
    gI w v0 10 1 fun x2 =>
    if x2 ≤ x1 then
      f_X10_passBlanks_38  w
    else
      gR w v0 10 0 fun r3 =>
      gI w v0 10 3 fun x4 =>
      lI w r3 13 x4 fun x5 =>
      if x5 = (32 : Int32) then
        gI w v0 10 3 fun x6 =>
        pI w v0 10 3 (x6 + (1 : Int32)) fun w7 =>
        (f_X10_passBlanks_0 n) v0 w7
      else
        f_X10_passBlanks_38  w
def f_X10_passBlanks (p0 : Nat) (w : Wd) : Option (Unit × Wd) :=
  f_X10_passBlanks_0 4096 p0 w
def f_X11_within_15 (s0 : Int32) (w : Wd) : Option (Int32 × Wd) :=
  rZ s0 w
def f_X11_within_14 (w : Wd) : Option (Int32 × Wd) :=
  f_X11_within_15 (0 : Int32) w
def f_X11_within (p0 : Int32) (p1 : Int32) (p2 : Int32) (w : Wd) : Option (Int32 × Wd) :=
  if p0 < p1 then
    f_X11_within_14  w
  else
    if p2 < p0 then
      f_X11_within_14  w
    else
      f_X11_within_15 (1 : Int32) w
def f_X10_passLetters_43 (w : Wd) : Option (Unit × Wd) :=
  some ((), w)
def f_X10_passLetters_0 : Nat → Nat → Wd → Option (Unit × Wd)
  | 0, _, _ => none
  | n + 1, v0, w =>
    gI w v0 10 3 fun x1 =>
    gI w v0 10 1 fun x2 =>
    if x2 ≤ x1 then
      f_X10_passLetters_43  w
    else
      gR w v0 10 0 fun r3 =>
      gI w v0 10 3 fun x4 =>
      lI w r3 13 x4 fun x5 =>
      cal (f_X11_within x5 (97 : Int32) (122 : Int32) w) fun x7 w6 =>
      if x7 = 0 then
        f_X10_passLetters_43  w6
      else
        gI w6 v0 10 3 fun x8 =>
        pI w6 v0 10 3 (x8 + (1 : Int32)) fun w9 =>
        (f_X10_passLetters_0 n) v0 w9
def f_X10_passLetters (p0 : Nat) (w : Wd) : Option (Unit × Wd) :=
  f_X10_passLetters_0 4096 p0 w
def f_X10_readItemsEnd_54 (w : Wd) : Option (Unit × Wd) :=
  some ((), w)
def f_X10_readItemsEnd_46 (v0 : Nat) (w : Wd) : Option (Unit × Wd) :=
  gI w v0 10 3 fun x1 =>
  calV w v0 10 (f_X10_failAt v0 x1 w) fun _ w2 =>
  f_X10_readItemsEnd_54  w2
def f_X10_readItemsEnd (p0 : Nat) (w : Wd) : Option (Unit × Wd) :=
  calV w p0 10 (f_X10_passBlanks p0 w) fun _ w4 =>
  gI w4 p0 10 3 fun x6 =>
  gI w4 p0 10 1 fun x7 =>
  if x7 ≤ x6 then
    f_X10_readItemsEnd_46 p0 w4
  else
    gR w4 p0 10 0 fun r8 =>
    gI w4 p0 10 3 fun x9 =>
    lI w4 r8 13 x9 fun x10 =>
    if x10 = (59 : Int32) then
      gI w4 p0 10 3 fun x11 =>
      pI w4 p0 10 3 (x11 + (1 : Int32)) fun w12 =>
      calV w12 p0 10 (f_X10_passBlanks p0 w12) fun _ w13 =>
      f_X10_readItemsEnd_54  w13
    else
      f_X10_readItemsEnd_46 p0 w4
def f_X10_readNumber_116 (v4 : Int32) (w : Wd) : Option (Int32 × Wd) :=
  some (v4, w)
def f_X10_readNumber_111 (v0 : Nat) (v3 : Int32) (v4 : Int32) (w : Wd) : Option (Int32 × Wd) :=
  calV w v0 10 (f_X10_failAt v0 v3 w) fun _ w1 =>
  f_X10_readNumber_116 v4 w1
def f_X10_readNumber_81 (v0 : Nat) (v1 : Int32) (v2 : Int32) (v3 : Int32) (v4 : Int32) (w : Wd) : Option (Int32 × Wd) :=
  gI w v0 10 3 fun x3 =>
  nm ((x3 - v3)) fun x4 =>
  if x4 < (1 : Int32) then
    f_X10_readNumber_111 v0 v3 v4 w
  else
    if (2 : Int32) < x4 then
      f_X10_readNumber_111 v0 v3 v4 w
    else
      cal (f_X11_within v4 v1 v2 w) fun x6 w5 =>
      if x6 = 0 then
        f_X10_readNumber_111 v0 v3 v4 w5
      else
        f_X10_readNumber_116 v4 w5
def f_X10_readNumber_12 : Nat → Nat → Int32 → Int32 → Int32 → Int32 → Wd → Option (Int32 × Wd)
  | 0, _, _, _, _, _, _ => none
  | n + 1, v0, v1, v2, v3, v4, w =>
    gI w v0 10 3 fun x7 =>
    gI w v0 10 1 fun x8 =>
    if x8 ≤ x7 then
      f_X10_readNumber_81 v0 v1 v2 v3 v4 w
    else
      gR w v0 10 0 fun r9 =>
      gI w v0 10 3 fun x10 =>
      lI w r9 13 x10 fun x11 =>
      cal (f_X11_within x11 (48 : Int32) (57 : Int32) w) fun x13 w12 =>
      if x13 = 0 then
        f_X10_readNumber_81 v0 v1 v2 v3 v4 w12
      else
        gR w12 v0 10 0 fun r14 =>
        gI w12 v0 10 3 fun x15 =>
        lI w12 r14 13 x15 fun x16 =>
        nm ((f_mmin (1000 : Int32) (((v4 * (10 : Int32)) + x16) - (48 : Int32)))) fun x17 =>
        gI w12 v0 10 3 fun x18 =>
        pI w12 v0 10 3 (x18 + (1 : Int32)) fun w19 =>
        (f_X10_readNumber_12 n) v0 v1 v2 v3 x17 w19
def f_X10_readNumber (p0 : Nat) (p1 : Int32) (p2 : Int32) (w : Wd) : Option (Int32 × Wd) :=
  calV w p0 10 (f_X10_passBlanks p0 w) fun _ w20 =>
  gI w20 p0 10 3 fun x22 =>
  f_X10_readNumber_12 4096 p0 p1 p2 x22 (0 : Int32) w20
def f_X10_readFirstItem_38 (v0 : Nat) (w : Wd) : Option (Unit × Wd) :=
  calV w v0 10 (f_X10_readItemsEnd v0 w) fun _ w1 =>
  some ((), w1)
def f_X10_readFirstItem (p0 : Nat) (p1 : Nat) (w : Wd) : Option (Unit × Wd) :=
  gI w p0 10 3 fun x3 =>
  calV w p0 10 (f_X10_passLetters p0 w) fun _ w4 =>
  calV w4 p0 10 (f_X10_isNamed p0 x3 0 w4) fun x7 w6 =>
  if x7 = 0 then
    calV w6 p0 10 (f_X10_failAt p0 x3 w6) fun _ w8 =>
    f_X10_readFirstItem_38 p0 w8
  else
    calV w6 p0 10 (f_X10_readNumber p0 (0 : Int32) (99 : Int32) w6) fun x11 w10 =>
    pI w10 p1 2 5 x11 fun w12 =>
    f_X10_readFirstItem_38 p0 w12
def f_X10_readGoods_56 (w : Wd) : Option (Unit × Wd) :=
  some ((), w)
def f_X10_readGoods_14 (v0 : Nat) (v1 : Nat) (w : Wd) : Option (Unit × Wd) :=
  calV w v0 10 (f_X10_readNumber v0 (0 : Int32) (5 : Int32) w) fun x2 w1 =>
  calV w1 v0 10 (f_X10_readNumber v0 (1 : Int32) (9 : Int32) w1) fun x4 w3 =>
  calV w3 v0 10 (f_X10_readNumber v0 (0 : Int32) (40 : Int32) w3) fun x6 w5 =>
  gI w5 v0 10 2 fun x7 =>
  if x7 = (-1 : Int32) then
    calV w5 v1 2 (f_X2_addGoods v1 x2 x4 x6 w5) fun _ w8 =>
    f_X10_readGoods_56  w8
  else
    f_X10_readGoods_56  w5
def f_X10_readGoods (p0 : Nat) (p1 : Nat) (p2 : Int32) (w : Wd) : Option (Unit × Wd) :=
  gI w p1 2 4 fun x10 =>
  if x10 < (6 : Int32) then
    f_X10_readGoods_14 p0 p1 w
  else
    calV w p0 10 (f_X10_failAt p0 p2 w) fun _ w11 =>
    f_X10_readGoods_14 p0 p1 w11
def f_X10_readLaterItem_109 (v0 : Nat) (w : Wd) : Option (Unit × Wd) :=
  calV w v0 10 (f_X10_readItemsEnd v0 w) fun _ w1 =>
  some ((), w1)
def f_X10_readLaterItem (p0 : Nat) (p1 : Nat) (w : Wd) : Option (Unit × Wd) :=
  gI w p0 10 3 fun x3 =>
  calV w p0 10 (f_X10_passLetters p0 w) fun _ w4 =>
  calV w4 p0 10 (f_X10_isNamed p0 x3 1 w4) fun x7 w6 =>
  if x7 = 0 then
    calV w6 p0 10 (f_X10_isNamed p0 x3 2 w6) fun x9 w8 =>
    if x9 = 0 then
      calV w8 p0 10 (f_X10_isNamed p0 x3 3 w8) fun x11 w10 =>
      if x11 = 0 then
        calV w10 p0 10 (f_X10_isNamed p0 x3 4 w10) fun x13 w12 =>
        if x13 = 0 then
          calV w12 p0 10 (f_X10_failAt p0 x3 w12) fun _ w14 =>
          f_X10_readLaterItem_109 p0 w14
        else
          calV w12 p0 10 (f_X10_readNumber p0 (0 : Int32) (9 : Int32) w12) fun x17 w16 =>
          pI w16 p1 2 8 x17 fun w18 =>
          f_X10_readLaterItem_109 p0 w18
      else
        calV w10 p0 10 (f_X10_readNumber p0 (0 : Int32) (31 : Int32) w10) fun x20 w19 =>
        pI w19 p1 2 6 x20 fun w21 =>
        f_X10_readLaterItem_109 p0 w21
    else
      gI w8 p1 2 4 fun x22 =>
      calV w8 p0 10 (f_X10_readNumber p0 (0 : Int32) (x22 - (1 : Int32)) w8) fun x24 w23 =>
      pI w23 p1 2 7 x24 fun w25 =>
      f_X10_readLaterItem_109 p0 w25
  else
    calV w6 p0 10 (f_X10_readGoods p0 p1 x3 w6) fun _ w26 =>
    f_X10_readLaterItem_109 p0 w26
def f_X10_readInto_64 (v2 : Int32) (w : Wd) : Option (Int32 × Wd) :=
  some (v2, w)
def f_X10_readInto_27 : Nat → Nat → Nat → Int32 → Wd → Option (Int32 × Wd)
  | 0, _, _, _, _ => none
  | n + 1, v0, v1, v2, w =>
    if (150 : Int32) ≤ v2 then
      f_X10_readInto_64 v2 w
    else
      gI w v0 10 2 fun x1 =>
      if x1 = (-1 : Int32) then
        gI w v0 10 3 fun x2 =>
        gI w v0 10 1 fun x3 =>
        if x3 ≤ x2 then
          f_X10_readInto_64 v2 w
        else
          calV w v0 10 (f_X10_readLaterItem v0 v1 w) fun _ w4 =>
          (f_X10_readInto_27 n) v0 v1 ((v2 + (1 : Int32))) w4
      else
        f_X10_readInto_64 v2 w
def f_X10_readInto (p0 : Nat) (p1 : Nat) (w : Wd) : Option (Int32 × Wd) :=
  pI w p0 10 3 (0 : Int32) fun w6 =>
  pI w6 p0 10 2 (-1 : Int32) fun w7 =>
  calV w7 p1 2 (f_X2_startAnew p1 (60 : Int32) w7) fun _ w8 =>
  calV w8 p0 10 (f_X10_passBlanks p0 w8) fun _ w10 =>
  calV w10 p0 10 (f_X10_readFirstItem p0 p1 w10) fun _ w12 =>
  f_X10_readInto_27 4096 p0 p1 (1 : Int32) w12
def f_X11_amountOf (p0 : Nat) (p1 : Int32) (w : Wd) : Option (Int32 × Wd) :=
  if p1 = (0 : Int32) then
    gR w p0 11 5 fun r1 =>
    gI w r1 2 4 fun x2 =>
    some (x2, w)
  else
    if p1 = (1 : Int32) then
      gR w p0 11 5 fun r3 =>
      gI w r3 2 9 fun x4 =>
      some (x4, w)
    else
      if p1 = (2 : Int32) then
        gR w p0 11 5 fun r5 =>
        calV w r5 2 (f_X2_allBushels r5 w) fun x7 w6 =>
        some (x7, w6)
      else
        if p1 = (3 : Int32) then
          gR w p0 11 5 fun r8 =>
          gI w r8 2 10 fun x9 =>
          some (x9, w)
        else
          if p1 = (4 : Int32) then
            gR w p0 11 5 fun r10 =>
            gI w r10 2 11 fun x11 =>
            some (x11, w)
          else
            if p1 = (5 : Int32) then
              gR w p0 11 5 fun r12 =>
              gR w r12 2 1 fun r13 =>
              gI w r13 0 6 fun x14 =>
              some (x14, w)
            else
              if p1 = (6 : Int32) then
                gR w p0 11 5 fun r15 =>
                gR w r15 2 1 fun r16 =>
                gI w r16 0 7 fun x17 =>
                some (x17, w)
              else
                if p1 = (7 : Int32) then
                  gR w p0 11 5 fun r18 =>
                  gI w r18 2 3 fun x19 =>
                  some (x19, w)
                else
                  if p1 = (8 : Int32) then
                    gR w p0 11 2 fun r20 =>
                    gI w r20 10 1 fun x21 =>
                    some (x21, w)
                  else
                    gR w p0 11 5 fun r22 =>
                    gI w r22 2 8 fun x23 =>
                    some (x23, w)
def f_X11_refuse_30 (v1 : Int32) (w : Wd) : Option (Int32 × Wd) :=
  some (v1, w)
def f_X11_refuse (p0 : Nat) (p1 : Int32) (w : Wd) : Option (Int32 × Wd) :=
  nm (((-2 : Int32) - p1)) fun x1 =>
  gR w p0 11 4 fun r2 =>
  lenA w r2 14 fun x3 =>
  cal (f_X11_within x1 (0 : Int32) (x3 - (1 : Int32)) w) fun x5 w4 =>
  if x5 = 0 then
    f_X11_refuse_30 p1 w4
  else
    gR w4 p0 11 4 fun r6 =>
    lI w4 r6 14 x1 fun x7 =>
    aI w4 r6 14 x1 (x7 + (1 : Int32)) fun w8 =>
    f_X11_refuse_30 p1 w8
def f_X11_refuseApart (p0 : Nat) (w : Wd) : Option (Int32 × Wd) :=
  calV w p0 11 (f_X11_refuse p0 (-2 : Int32) w) fun x2 w1 =>
  some ((-10 : Int32), w1)
def f_X11_best_62 (s0 : Int32) (w : Wd) : Option (Int32 × Wd) :=
  some (s0, w)
def f_X11_best_31 (v0 : Nat) (v1 : Int32) (v2 : Int32) (w : Wd) : Option (Int32 × Wd) :=
  gR w v0 11 3 fun r1 =>
  gR w v0 11 5 fun r2 =>
  calV w r1 7 (f_X7_mostMoney r1 r2 v1 w) fun x4 w3 =>
  if v2 = (-1 : Int32) then
    f_X11_best_62 x4 w3
  else
    gR w3 v0 11 3 fun r5 =>
    gR w3 r5 7 0 fun r6 =>
    lI w3 r6 14 v2 fun x7 =>
    f_X11_best_62 x7 w3
def f_X11_best_26 (v0 : Nat) (w : Wd) : Option (Int32 × Wd) :=
  calV w v0 11 (f_X11_refuseApart v0 w) fun x9 w8 =>
  some (x9, w8)
def f_X11_best (p0 : Nat) (p1 : Int32) (p2 : Int32) (w : Wd) : Option (Int32 × Wd) :=
  cal (f_X11_within p1 (0 : Int32) (12 : Int32) w) fun x11 w10 =>
  if x11 = 0 then
    f_X11_best_26 p0 w10
  else
    if p2 = (-1 : Int32) then
      f_X11_best_31 p0 p1 p2 w10
    else
      gR w10 p0 11 5 fun r12 =>
      calV w10 r12 2 (f_X2_has r12 p2 w10) fun x14 w13 =>
      if x14 = 0 then
        f_X11_best_26 p0 w13
      else
        f_X11_best_31 p0 p1 p2 w13
def f_X11_clear (p0 : Nat) (w : Wd) : Option (Int32 × Wd) :=
  gR w p0 11 2 fun r1 =>
  gI w r1 10 1 fun x2 =>
  gR w p0 11 2 fun r3 =>
  pI w r3 10 1 (0 : Int32) fun w4 =>
  some (x2, w4)
def f_X11_cold (p0 : Nat) (p1 : Int32) (w : Wd) : Option (Int32 × Wd) :=
  cal (f_X11_within p1 (0 : Int32) (9 : Int32) w) fun x2 w1 =>
  if x2 = 0 then
    calV w1 p0 11 (f_X11_refuse p0 (-2 : Int32) w1) fun x11 w10 =>
    some (x11, w10)
  else
    gR w1 p0 11 5 fun r3 =>
    calV w1 r3 2 (f_X2_remember r3 w1) fun _ w4 =>
    gR w4 p0 11 5 fun r6 =>
    gI w4 r6 2 8 fun x7 =>
    gR w4 p0 11 5 fun r8 =>
    pI w4 r8 2 8 p1 fun w9 =>
    some (x7, w9)
def f_X11_count_24 (s0 : Int32) (w : Wd) : Option (Int32 × Wd) :=
  some (s0, w)
def f_X11_count (p0 : Nat) (p1 : Int32) (w : Wd) : Option (Int32 × Wd) :=
  cal (f_X11_within p1 (0 : Int32) (9 : Int32) w) fun x2 w1 =>
  if x2 = 0 then
    calV w1 p0 11 (f_X11_refuse p0 (-2 : Int32) w1) fun x4 w3 =>
    f_X11_count_24 x4 w3
  else
    calV w1 p0 11 (f_X11_amountOf p0 p1 w1) fun x6 w5 =>
    f_X11_count_24 x6 w5
def f_X11_digest_6 : Nat → Nat → Int64 → Int32 → Wd → Option (Int64 × Wd)
  | 0, _, _, _, _ => none
  | n + 1, v0, v1, v3, w =>
    if (9 : Int32) < v3 then
      gR w v0 11 5 fun r1 =>
      calV w r1 2 (f_X2_mixInto r1 v1 w) fun x3 w2 =>
      gL w2 v0 11 7 fun x4 =>
      nm ((((31 : Int64) * x3) + x4)) fun x5 =>
      gL w2 v0 11 8 fun x6 =>
      some ((((31 : Int64) * x5) + x6), w2)
    else
      calV w v0 11 (f_X11_amountOf v0 v3 w) fun x8 w7 =>
      nm ((((31 : Int64) * v1) + (x8.toInt64))) fun x9 =>
      (f_X11_digest_6 n) v0 x9 ((v3 + (1 : Int32))) w7
def f_X11_digest (p0 : Nat) (w : Wd) : Option (Int64 × Wd) :=
  f_X11_digest_6 4096 p0 (1231 : Int64) (0 : Int32) w
def f_X11_forget_73 (v2 : Int32) (w : Wd) : Option (Int32 × Wd) :=
  some (v2, w)
def f_X11_forget_43 (v0 : Nat) (v1 : Int32) (s0 : Int32) (w : Wd) : Option (Int32 × Wd) :=
  if v1 = 0 then
    gR w v0 11 5 fun r4 =>
    gR w r4 2 1 fun r5 =>
    pI w r5 0 6 (0 : Int32) fun w6 =>
    f_X11_forget_73 s0 w6
  else
    gR w v0 11 5 fun r1 =>
    gR w r1 2 1 fun r2 =>
    pI w r2 0 7 (0 : Int32) fun w3 =>
    f_X11_forget_73 s0 w3
def f_X11_forget (p0 : Nat) (p1 : Int32) (w : Wd) : Option (Int32 × Wd) :=
  cal (f_X11_within p1 (0 : Int32) (1 : Int32) w) fun x8 w7 =>
  if x8 = 0 then
    calV w7 p0 11 (f_X11_refuse p0 (-2 : Int32) w7) fun x16 w15 =>
    some (x16, w15)
  else
    if p1 = 0 then
      gR w7 p0 11 5 fun r12 =>
      gR w7 r12 2 1 fun r13 =>
      gI w7 r13 0 6 fun x14 =>
      f_X11_forget_43 p0 p1 x14 w7
    else
      gR w7 p0 11 5 fun r9 =>
      gR w7 r9 2 1 fun r10 =>
      gI w7 r10 0 7 fun x11 =>
      f_X11_forget_43 p0 p1 x11 w7
def f_X11_from (p0 : Nat) (p1 : Int32) (w : Wd) : Option (Int32 × Wd) :=
  cal (f_X11_within p1 (0 : Int32) (1 : Int32) w) fun x2 w1 =>
  if x2 = 0 then
    calV w1 p0 11 (f_X11_refuse p0 (-2 : Int32) w1) fun x13 w12 =>
    some (x13, w12)
  else
    gR w1 p0 11 1 fun r3 =>
    lI w1 r3 15 p1 fun x4 =>
    if x4 = 0 then
      calV w1 p0 11 (f_X11_refuse p0 (-3 : Int32) w1) fun x11 w10 =>
      some (x11, w10)
    else
      gR w1 p0 11 5 fun r5 =>
      gR w1 p0 11 0 fun r6 =>
      lR w1 r6 17 p1 fun r7 =>
      calV w1 r5 2 (f_X2_copyFrom r5 r7 w1) fun _ w8 =>
      some ((1 : Int32), w8)
def f_X11_full_10 : Nat → Nat → Int32 → Int32 → Wd → Option (Int32 × Wd)
  | 0, _, _, _, _ => none
  | n + 1, v0, v1, v2, w =>
    if (60 : Int32) < v2 then
      some ((-1 : Int32), w)
    else
      gR w v0 11 5 fun r1 =>
      gI w r1 2 5 fun x2 =>
      if v1 < x2 then
        gR w v0 11 5 fun r3 =>
        gR w v0 11 5 fun r4 =>
        gI w r4 2 7 fun x5 =>
        gR w v0 11 5 fun r6 =>
        gI w r6 2 9 fun x7 =>
        calV w r3 2 (f_X2_groundBy r3 x5 (x7 + v2) w) fun x9 w8 =>
        nm ((v1 + x9)) fun x10 =>
        (f_X11_full_10 n) v0 x10 ((v2 + (1 : Int32))) w8
      else
        some (v2, w)
def f_X11_full (p0 : Nat) (w : Wd) : Option (Int32 × Wd) :=
  gR w p0 11 5 fun r11 =>
  calV w r11 2 (f_X2_allBushels r11 w) fun x13 w12 =>
  f_X11_full_10 4096 p0 x13 (0 : Int32) w12
def f_X11_goods_29 (v0 : Nat) (w : Wd) : Option (Int32 × Wd) :=
  calV w v0 11 (f_X11_refuse v0 (-2 : Int32) w) fun x2 w1 =>
  some (x2, w1)
def f_X11_goods (p0 : Nat) (p1 : Int32) (p2 : Int32) (p3 : Int32) (w : Wd) : Option (Int32 × Wd) :=
  cal (f_X11_within p1 (0 : Int32) (5 : Int32) w) fun x4 w3 =>
  if x4 = 0 then
    f_X11_goods_29 p0 w3
  else
    cal (f_X11_within p2 (1 : Int32) (9 : Int32) w3) fun x6 w5 =>
    if x6 = 0 then
      f_X11_goods_29 p0 w5
    else
      cal (f_X11_within p3 (0 : Int32) (40 : Int32) w5) fun x8 w7 =>
      if x8 = 0 then
        f_X11_goods_29 p0 w7
      else
        gR w7 p0 11 5 fun r9 =>
        gI w7 r9 2 4 fun x10 =>
        if x10 < (6 : Int32) then
          gR w7 p0 11 5 fun r11 =>
          calV w7 r11 2 (f_X2_addGoods r11 p1 p2 p3 w7) fun _ w12 =>
          gR w12 p0 11 5 fun r14 =>
          gI w12 r14 2 4 fun x15 =>
          some ((x15 - (1 : Int32)), w12)
        else
          calV w7 p0 11 (f_X11_refuse p0 (-4 : Int32) w7) fun x17 w16 =>
          some (x17, w16)
def f_X11_greatestDivisor_45 (v4 : Int64) (w : Wd) : Option (Int64 × Wd) :=
  some (v4, w)
def f_X11_greatestDivisor_9 : Nat → Int64 → Int64 → Int32 → Wd → Option (Int64 × Wd)
  | 0, _, _, _, _ => none
  | n + 1, v4, v6, v8, w =>
    if (200 : Int32) ≤ v8 then
      f_X11_greatestDivisor_45 v4 w
    else
      if (lg_cmp v6 (0 : Int64)) = 0 then
        f_X11_greatestDivisor_45 v4 w
      else
        nzL v6 <|
        nm ((lrm v4 v6)) fun x1 =>
        (f_X11_greatestDivisor_9 n) v6 x1 ((v8 + (1 : Int32))) w
def f_X11_greatestDivisor (p0 : Int64) (p2 : Int64) (w : Wd) : Option (Int64 × Wd) :=
  f_X11_greatestDivisor_9 4096 p0 p2 (0 : Int32) w
def f_X11_grind (p0 : Nat) (p1 : Int32) (w : Wd) : Option (Int32 × Wd) :=
  gR w p0 11 5 fun r1 =>
  calV w r1 2 (f_X2_has r1 p1 w) fun x3 w2 =>
  if x3 = 0 then
    calV w2 p0 11 (f_X11_refuseApart p0 w2) fun x12 w11 =>
    some (x12, w11)
  else
    gR w2 p0 11 5 fun r4 =>
    calV w2 r4 2 (f_X2_remember r4 w2) fun _ w5 =>
    gR w5 p0 11 5 fun r7 =>
    gI w5 r7 2 7 fun x8 =>
    gR w5 p0 11 5 fun r9 =>
    pI w5 r9 2 7 p1 fun w10 =>
    some (x8, w10)
def f_X11_grinds (p0 : Nat) (w : Wd) : Option (Int32 × Wd) :=
  gR w p0 11 5 fun r1 =>
  gI w r1 2 7 fun x2 =>
  some (x2, w)
def f_X11_isWord (p0 : Int32) (w : Wd) : Option (Int32 × Wd) :=
  cal (f_X11_within p0 (0 : Int32) (31 : Int32) w) fun x2 w1 =>
  rZ x2 w1
def f_X11_guess_16 (v0 : Nat) (w : Wd) : Option (Int32 × Wd) :=
  calV w v0 11 (f_X11_refuse v0 (-2 : Int32) w) fun x2 w1 =>
  some (x2, w1)
def f_X11_guess (p0 : Nat) (p1 : Int32) (p2 : Int32) (w : Wd) : Option (Int32 × Wd) :=
  cal (f_X11_isWord p1 w) fun x4 w3 =>
  if x4 = 0 then
    f_X11_guess_16 p0 w3
  else
    cal (f_X11_within p2 (0 : Int32) (5 : Int32) w3) fun x6 w5 =>
    if x6 = 0 then
      f_X11_guess_16 p0 w5
    else
      gR w5 p0 11 5 fun r7 =>
      gR w5 r7 2 1 fun r8 =>
      gI w5 r8 0 6 fun x9 =>
      if x9 < (6 : Int32) then
        gR w5 p0 11 5 fun r10 =>
        gR w5 r10 2 1 fun r11 =>
        calV w5 r11 0 (f_X0_addGuess r11 p1 p2 w5) fun _ w12 =>
        gR w12 p0 11 5 fun r14 =>
        gR w12 r14 2 1 fun r15 =>
        gI w12 r15 0 6 fun x16 =>
        some (x16, w12)
      else
        calV w5 p0 11 (f_X11_refuse p0 (-4 : Int32) w5) fun x18 w17 =>
        some (x18, w17)
def f_X11_hour_28 : Nat → Nat → Int32 → Int32 → Int32 → Wd → Option (Int32 × Wd)
  | 0, _, _, _, _, _ => none
  | n + 1, v0, v1, v2, v3, w =>
    if v1 ≤ v3 then
      some (v2, w)
    else
      gR w v0 11 5 fun r1 =>
      calV w r1 2 (f_X2_passHour r1 w) fun x3 w2 =>
      nm ((v2 + x3)) fun x4 =>
      (f_X11_hour_28 n) v0 v1 x4 ((v3 + (1 : Int32))) w2
def f_X11_hour (p0 : Nat) (p1 : Int32) (w : Wd) : Option (Int32 × Wd) :=
  cal (f_X11_within p1 (1 : Int32) (60 : Int32) w) fun x6 w5 =>
  if x6 = 0 then
    calV w5 p0 11 (f_X11_refuse p0 (-2 : Int32) w5) fun x11 w10 =>
    some (x11, w10)
  else
    gR w5 p0 11 5 fun r7 =>
    calV w5 r7 2 (f_X2_remember r7 w5) fun _ w8 =>
    f_X11_hour_28 4096 p0 p1 (0 : Int32) (0 : Int32) w8
def f_X11_image (p0 : Nat) (p1 : Int32) (w : Wd) : Option (Int32 × Wd) :=
  cal (f_X11_within p1 (0 : Int32) (1 : Int32) w) fun x2 w1 =>
  if x2 = 0 then
    calV w1 p0 11 (f_X11_refuse p0 (-2 : Int32) w1) fun x11 w10 =>
    some (x11, w10)
  else
    gR w1 p0 11 0 fun r3 =>
    lR w1 r3 17 p1 fun r4 =>
    gR w1 p0 11 5 fun r5 =>
    calV w1 r4 2 (f_X2_copyFrom r4 r5 w1) fun _ w6 =>
    gR w6 p0 11 1 fun r8 =>
    aI w6 r8 15 p1 (vp_nar .boolean (1 : Int32)) fun w9 =>
    some ((1 : Int32), w9)
def f_X11_is_74 (s0 : Int32) (w : Wd) : Option (Int32 × Wd) :=
  some (s0, w)
def f_X11_is_20 (v0 : Nat) (w : Wd) : Option (Int32 × Wd) :=
  calV w v0 11 (f_X11_refuse v0 (-2 : Int32) w) fun x2 w1 =>
  some (x2, w1)
def f_X11_is (p0 : Nat) (p1 : Int32) (p2 : Int32) (w : Wd) : Option (Int32 × Wd) :=
  gR w p0 11 5 fun r3 =>
  calV w r3 2 (f_X2_has r3 p1 w) fun x5 w4 =>
  if x5 = 0 then
    f_X11_is_20 p0 w4
  else
    cal (f_X11_within p2 (0 : Int32) (1 : Int32) w4) fun x7 w6 =>
    if x7 = 0 then
      f_X11_is_20 p0 w6
    else
      gR w6 p0 11 5 fun r8 =>
      gR w6 r8 2 0 fun r9 =>
      lR w6 r9 16 p1 fun r10 =>
      if p2 = 0 then
        gR w6 p0 11 5 fun r16 =>
        gR w6 r16 2 1 fun r17 =>
        gI w6 r10 1 2 fun x18 =>
        calV w6 r17 0 (f_X0_fittingKinds r17 p1 x18 w6) fun x20 w19 =>
        f_X11_is_74 x20 w19
      else
        gR w6 p0 11 5 fun r11 =>
        gR w6 r11 2 1 fun r12 =>
        gI w6 r10 1 1 fun x13 =>
        calV w6 r12 0 (f_X0_fittingRates r12 p1 x13 w6) fun x15 w14 =>
        f_X11_is_74 x15 w14
def f_X11_just_67 (s0 : Int32) (w : Wd) : Option (Int32 × Wd) :=
  some (s0, w)
def f_X11_just_54 (v3 : Int32) (w : Wd) : Option (Int32 × Wd) :=
  f_X11_just_67 v3 w
def f_X11_just_31 (v0 : Nat) (v1 : Int32) (v2 : Int32) (w : Wd) : Option (Int32 × Wd) :=
  gR w v0 11 3 fun r1 =>
  gR w v0 11 5 fun r2 =>
  calV w r1 7 (f_X7_fewestHours r1 r2 v1 w) fun x4 w3 =>
  if x4 = (-1 : Int32) then
    f_X11_just_54 x4 w3
  else
    if v2 = (-1 : Int32) then
      f_X11_just_54 x4 w3
    else
      gR w3 v0 11 3 fun r5 =>
      gR w3 r5 7 0 fun r6 =>
      lI w3 r6 14 v2 fun x7 =>
      f_X11_just_67 x7 w3
def f_X11_just_26 (v0 : Nat) (w : Wd) : Option (Int32 × Wd) :=
  calV w v0 11 (f_X11_refuseApart v0 w) fun x9 w8 =>
  some (x9, w8)
def f_X11_just (p0 : Nat) (p1 : Int32) (p2 : Int32) (w : Wd) : Option (Int32 × Wd) :=
  cal (f_X11_within p1 (1 : Int32) (60 : Int32) w) fun x11 w10 =>
  if x11 = 0 then
    f_X11_just_26 p0 w10
  else
    if p2 = (-1 : Int32) then
      f_X11_just_31 p0 p1 p2 w10
    else
      gR w10 p0 11 5 fun r12 =>
      calV w10 r12 2 (f_X2_has r12 p2 w10) fun x14 w13 =>
      if x14 = 0 then
        f_X11_just_26 p0 w13
      else
        f_X11_just_31 p0 p1 p2 w13
def f_X11_leastIn_2 : Nat → Int32 → Int32 → Wd → Option (Int32 × Wd)
  | 0, _, _, _ => none
  | n + 1, v0, v1, w =>
    if (32 : Int32) ≤ v1 then
      some ((-1 : Int32), w)
    else
      if ((iush v0 v1) &&& (1 : Int32)) = (1 : Int32) then
        some (v1, w)
      else
        (f_X11_leastIn_2 n) v0 ((v1 + (1 : Int32))) w
def f_X11_leastIn (p0 : Int32) (w : Wd) : Option (Int32 × Wd) :=
  f_X11_leastIn_2 4096 p0 (0 : Int32) w
def f_X11_look (p0 : Nat) (p1 : Int32) (w : Wd) : Option (Int32 × Wd) :=
  gR w p0 11 5 fun r1 =>
  calV w r1 2 (f_X2_has r1 p1 w) fun x3 w2 =>
  if x3 = 0 then
    calV w2 p0 11 (f_X11_refuse p0 (-2 : Int32) w2) fun x13 w12 =>
    some (x13, w12)
  else
    gR w2 p0 11 5 fun r4 =>
    gR w2 r4 2 1 fun r5 =>
    gR w2 p0 11 5 fun r6 =>
    gR w2 r6 2 0 fun r7 =>
    lR w2 r7 16 p1 fun r8 =>
    gI w2 r8 1 2 fun x9 =>
    calV w2 r5 0 (f_X0_sharpestLook r5 p1 x9 w2) fun x11 w10 =>
    some (x11, w10)
def f_X11_mill (p0 : Nat) (p1 : Int32) (w : Wd) : Option (Int32 × Wd) :=
  cal (f_X11_within p1 (0 : Int32) (200 : Int32) w) fun x2 w1 =>
  if x2 = 0 then
    calV w1 p0 11 (f_X11_refuse p0 (-2 : Int32) w1) fun x9 w8 =>
    some (x9, w8)
  else
    gR w1 p0 11 5 fun r3 =>
    gI w1 r3 2 4 fun x4 =>
    gR w1 p0 11 5 fun r5 =>
    calV w1 r5 2 (f_X2_startAnew r5 p1 w1) fun _ w6 =>
    some (x4, w6)
def f_X11_mills_51 : Nat → Nat → Int32 → Int32 → Int64 → Int32 → Wd → Option (Int32 × Wd)
  | 0, _, _, _, _, _, _ => none
  | n + 1, v0, v2, v3, v4, v6, w =>
    if v2 ≤ v6 then
      some (v3, w)
    else
      nm ((lrm ((v4 * (1103515245 : Int64)) + (12345 : Int64)) (2147483648 : Int64))) fun x1 =>
      gR w v0 11 5 fun r2 =>
      gR w v0 11 5 fun r3 =>
      gI w r3 2 9 fun x4 =>
      calV w r2 2 (f_X2_groundBy r2 ((lrm (x1 / (65536 : Int64)) (8 : Int64)).toInt32) (x4 + v6) w) fun x6 w5 =>
      nm ((v3 + x6)) fun x7 =>
      (f_X11_mills_51 n) v0 v2 x7 x1 ((v6 + (1 : Int32))) w5
def f_X11_mills_21 (v0 : Nat) (w : Wd) : Option (Int32 × Wd) :=
  calV w v0 11 (f_X11_refuse v0 (-2 : Int32) w) fun x9 w8 =>
  some (x9, w8)
def f_X11_mills (p0 : Nat) (p1 : Int32) (p2 : Int32) (w : Wd) : Option (Int32 × Wd) :=
  cal (f_X11_within p1 (0 : Int32) (999999 : Int32) w) fun x11 w10 =>
  if x11 = 0 then
    f_X11_mills_21 p0 w10
  else
    cal (f_X11_within p2 (0 : Int32) (60 : Int32) w10) fun x13 w12 =>
    if x13 = 0 then
      f_X11_mills_21 p0 w12
    else
      gR w12 p0 11 5 fun r14 =>
      calV w12 r14 2 (f_X2_allBushels r14 w12) fun x16 w15 =>
      gR w15 p0 11 5 fun r17 =>
      gI w15 r17 2 10 fun x18 =>
      nm ((x16 + x18)) fun x19 =>
      nm ((p1.toInt64)) fun x20 =>
      f_X11_mills_51 4096 p0 p2 x19 x20 (0 : Int32) w15
def f_X11_nextGuess (p0 : Nat) (w : Wd) : Option (Int32 × Wd) :=
  gR w p0 11 5 fun r1 =>
  gR w r1 2 1 fun r2 =>
  calV w r2 0 (f_X0_sharpestWord r2 w) fun x4 w3 =>
  some (x4, w3)
def f_X11_note_42 (v0 : Nat) (w : Wd) : Option (Int32 × Wd) :=
  calV w v0 11 (f_X11_refuse v0 (-2 : Int32) w) fun x2 w1 =>
  some (x2, w1)
def f_X11_note (p0 : Nat) (p1 : Int32) (p2 : Int32) (p3 : Int32) (p4 : Int32) (w : Wd) : Option (Int32 × Wd) :=
  gR w p0 11 5 fun r3 =>
  calV w r3 2 (f_X2_has r3 p1 w) fun x5 w4 =>
  if x5 = 0 then
    f_X11_note_42 p0 w4
  else
    cal (f_X11_within p2 (0 : Int32) (99 : Int32) w4) fun x7 w6 =>
    if x7 = 0 then
      f_X11_note_42 p0 w6
    else
      cal (f_X11_within p3 (0 : Int32) (9 : Int32) w6) fun x9 w8 =>
      if x9 = 0 then
        f_X11_note_42 p0 w8
      else
        cal (f_X11_within p4 (0 : Int32) (20 : Int32) w8) fun x11 w10 =>
        if x11 = 0 then
          f_X11_note_42 p0 w10
        else
          gR w10 p0 11 5 fun r12 =>
          gR w10 r12 2 1 fun r13 =>
          gI w10 r13 0 7 fun x14 =>
          if x14 < (6 : Int32) then
            gR w10 p0 11 5 fun r15 =>
            gR w10 r15 2 1 fun r16 =>
            calV w10 r16 0 (f_X0_addNote r16 p1 p2 p3 p4 w10) fun _ w17 =>
            gR w17 p0 11 5 fun r19 =>
            gR w17 r19 2 1 fun r20 =>
            gI w17 r20 0 7 fun x21 =>
            some (x21, w17)
          else
            calV w10 p0 11 (f_X11_refuse p0 (-4 : Int32) w10) fun x23 w22 =>
            some (x23, w22)
def f_X11_of_21 (v0 : Nat) (w : Wd) : Option (Int32 × Wd) :=
  calV w v0 11 (f_X11_refuse v0 (-2 : Int32) w) fun x2 w1 =>
  some (x2, w1)
def f_X11_of (p0 : Nat) (p1 : Int32) (p2 : Int32) (w : Wd) : Option (Int32 × Wd) :=
  gR w p0 11 5 fun r3 =>
  calV w r3 2 (f_X2_has r3 p1 w) fun x5 w4 =>
  if x5 = 0 then
    f_X11_of_21 p0 w4
  else
    cal (f_X11_within p2 (0 : Int32) (6 : Int32) w4) fun x7 w6 =>
    if x7 = 0 then
      f_X11_of_21 p0 w6
    else
      gR w6 p0 11 5 fun r8 =>
      gR w6 r8 2 0 fun r9 =>
      lR w6 r9 16 p1 fun r10 =>
      if p2 = (0 : Int32) then
        gI w6 r10 1 1 fun x11 =>
        some (x11, w6)
      else
        if p2 = (1 : Int32) then
          gI w6 r10 1 2 fun x12 =>
          some (x12, w6)
        else
          if p2 = (2 : Int32) then
            gI w6 r10 1 3 fun x13 =>
            some (x13, w6)
          else
            if p2 = (3 : Int32) then
              gI w6 r10 1 4 fun x14 =>
              some (x14, w6)
            else
              if p2 = (4 : Int32) then
                gI w6 r10 1 5 fun x15 =>
                some (x15, w6)
              else
                if p2 = (5 : Int32) then
                  gR w6 p0 11 5 fun r16 =>
                  gI w6 r16 2 9 fun x17 =>
                  gR w6 p0 11 5 fun r18 =>
                  gI w6 r18 2 8 fun x19 =>
                  calV w6 r10 1 (f_X1_groundIn r10 x17 x19 w6) fun x21 w20 =>
                  some (x21, w20)
                else
                  gI w6 r10 1 5 fun x22 =>
                  calV w6 r10 1 (f_X1_fetchesWhen r10 x22 w6) fun x24 w23 =>
                  some (x24, w23)
def f_X11_part_32 (s0 : Int64) (w : Wd) : Option (Int64 × Wd) :=
  some (s0, w)
def f_X11_part (p0 : Nat) (p1 : Int32) (w : Wd) : Option (Int64 × Wd) :=
  cal (f_X11_within p1 (0 : Int32) (1 : Int32) w) fun x2 w1 =>
  if x2 = 0 then
    calV w1 p0 11 (f_X11_refuse p0 (-2 : Int32) w1) fun x6 w5 =>
    some ((x6.toInt64), w5)
  else
    if p1 = 0 then
      gL w1 p0 11 7 fun x4 =>
      f_X11_part_32 x4 w1
    else
      gL w1 p0 11 8 fun x3 =>
      f_X11_part_32 x3 w1
def f_X11_read (p0 : Nat) (w : Wd) : Option (Int32 × Wd) :=
  gR w p0 11 2 fun r1 =>
  gR w p0 11 6 fun r2 =>
  calV w r1 10 (f_X10_readInto r1 r2 w) fun x4 w3 =>
  gR w3 p0 11 2 fun r5 =>
  gI w3 r5 10 2 fun x6 =>
  if x6 = (-1 : Int32) then
    gR w3 p0 11 5 fun r7 =>
    gR w3 p0 11 6 fun r8 =>
    pR w3 p0 11 5 r8 fun w9 =>
    pR w9 p0 11 6 r7 fun w10 =>
    some (x4, w10)
  else
    gR w3 p0 11 2 fun r11 =>
    gI w3 r11 10 2 fun x12 =>
    some (((-10 : Int32) - x12), w3)
def f_X11_say_46 (v2 : Int32) (w : Wd) : Option (Int32 × Wd) :=
  some (v2, w)
def f_X11_say (p0 : Nat) (p1 : Int32) (w : Wd) : Option (Int32 × Wd) :=
  cal (f_X11_isWord p1 w) fun x2 w1 =>
  if x2 = 0 then
    calV w1 p0 11 (f_X11_refuse p0 (-2 : Int32) w1) fun x13 w12 =>
    some (x13, w12)
  else
    gR w1 p0 11 5 fun r3 =>
    calV w1 r3 2 (f_X2_remember r3 w1) fun _ w4 =>
    gR w4 p0 11 5 fun r6 =>
    gI w4 r6 2 6 fun x7 =>
    cal (f_X11_likeLetters p1 x7 w4) fun x9 w8 =>
    if x9 = (5 : Int32) then
      gR w8 p0 11 5 fun r10 =>
      pI w8 r10 2 7 (-1 : Int32) fun w11 =>
      f_X11_say_46 x9 w11
    else
      f_X11_say_46 x9 w8
def f_X11_sell_22 (v0 : Nat) (w : Wd) : Option (Int32 × Wd) :=
  calV w v0 11 (f_X11_refuse v0 (-2 : Int32) w) fun x2 w1 =>
  some (x2, w1)
def f_X11_sell (p0 : Nat) (p1 : Int32) (p2 : Int32) (w : Wd) : Option (Int32 × Wd) :=
  gR w p0 11 5 fun r3 =>
  calV w r3 2 (f_X2_has r3 p1 w) fun x5 w4 =>
  if x5 = 0 then
    f_X11_sell_22 p0 w4
  else
    cal (f_X11_within p2 (1 : Int32) (200 : Int32) w4) fun x7 w6 =>
    if x7 = 0 then
      f_X11_sell_22 p0 w6
    else
      gR w6 p0 11 5 fun r8 =>
      gR w6 r8 2 0 fun r9 =>
      lR w6 r9 16 p1 fun r10 =>
      gI w6 r10 1 4 fun x11 =>
      if p2 ≤ x11 then
        gR w6 p0 11 5 fun r12 =>
        calV w6 r12 2 (f_X2_remember r12 w6) fun _ w13 =>
        gR w13 p0 11 5 fun r15 =>
        gR w13 r15 2 0 fun r16 =>
        lR w13 r16 16 p1 fun r17 =>
        calV w13 r17 1 (f_X1_giveAway r17 p2 w13) fun x19 w18 =>
        gR w18 p0 11 5 fun r20 =>
        gI w18 r20 2 11 fun x21 =>
        pI w18 r20 2 11 (x21 + x19) fun w22 =>
        some (x19, w22)
      else
        calV w6 p0 11 (f_X11_refuse p0 (-3 : Int32) w6) fun x24 w23 =>
        some (x24, w23)
def f_X11_ship_34 : Nat → Nat → Int32 → Int32 → Int32 → Int32 → Wd → Option (Int32 × Wd)
  | 0, _, _, _, _, _, _ => none
  | n + 1, v0, v1, v2, v3, v4, w =>
    if (60 : Int32) < v4 then
      some ((-1 : Int32), w)
    else
      gR w v0 11 5 fun r1 =>
      gR w v0 11 5 fun r2 =>
      gI w r2 2 9 fun x3 =>
      calV w r1 2 (f_X2_groundBy r1 v1 ((x3 + v4) - (1 : Int32)) w) fun x5 w4 =>
      nm ((v3 + x5)) fun x6 =>
      if x6 ≤ v2 then
        (f_X11_ship_34 n) v0 v1 v2 x6 ((v4 + (1 : Int32))) w4
      else
        some (v4, w4)
def f_X11_ship_22 (v0 : Nat) (w : Wd) : Option (Int32 × Wd) :=
  calV w v0 11 (f_X11_refuse v0 (-2 : Int32) w) fun x8 w7 =>
  some (x8, w7)
def f_X11_ship (p0 : Nat) (p1 : Int32) (p2 : Int32) (w : Wd) : Option (Int32 × Wd) :=
  gR w p0 11 5 fun r9 =>
  calV w r9 2 (f_X2_has r9 p1 w) fun x11 w10 =>
  if x11 = 0 then
    f_X11_ship_22 p0 w10
  else
    cal (f_X11_within p2 (0 : Int32) (300 : Int32) w10) fun x13 w12 =>
    if x13 = 0 then
      f_X11_ship_22 p0 w12
    else
      f_X11_ship_34 4096 p0 p1 p2 (0 : Int32) (1 : Int32) w12
def f_X11_status (p0 : Nat) (p1 : Int32) (w : Wd) : Option (Int32 × Wd) :=
  cal (f_X11_within p1 (0 : Int32) (2 : Int32) w) fun x2 w1 =>
  if x2 = 0 then
    calV w1 p0 11 (f_X11_refuse p0 (-2 : Int32) w1) fun x6 w5 =>
    some ((-1 : Int32), w5)
  else
    gR w1 p0 11 4 fun r3 =>
    lI w1 r3 14 p1 fun x4 =>
    some (x4, w1)
def f_X11_street_15 (v0 : Nat) (w : Wd) : Option (Int32 × Wd) :=
  calV w v0 11 (f_X11_refuseApart v0 w) fun x2 w1 =>
  some (x2, w1)
def f_X11_street (p0 : Nat) (p1 : Int32) (p2 : Int32) (w : Wd) : Option (Int32 × Wd) :=
  cal (f_X11_within p1 (1 : Int32) (9 : Int32) w) fun x4 w3 =>
  if x4 = 0 then
    f_X11_street_15 p0 w3
  else
    if (-1 : Int32) ≤ p2 then
      gR w3 p0 11 3 fun r5 =>
      gR w3 p0 11 5 fun r6 =>
      calV w3 r5 7 (f_X7_restingPairs r5 r6 p1 p2 w3) fun x8 w7 =>
      some (x8, w7)
    else
      f_X11_street_15 p0 w3
def f_X11_then_91 (s0 : Int32) (w : Wd) : Option (Int32 × Wd) :=
  some (s0, w)
def f_X11_then_19 (v0 : Nat) (w : Wd) : Option (Int32 × Wd) :=
  calV w v0 11 (f_X11_refuse v0 (-2 : Int32) w) fun x2 w1 =>
  some (x2, w1)
def f_X11_then (p0 : Nat) (p1 : Int32) (p2 : Int32) (w : Wd) : Option (Int32 × Wd) :=
  cal (f_X11_within p1 (0 : Int32) (60 : Int32) w) fun x4 w3 =>
  if x4 = 0 then
    f_X11_then_19 p0 w3
  else
    cal (f_X11_within p2 (0 : Int32) (1 : Int32) w3) fun x6 w5 =>
    if x6 = 0 then
      f_X11_then_19 p0 w5
    else
      gR w5 p0 11 5 fun r7 =>
      gR w5 p0 11 5 fun r8 =>
      gI w5 r8 2 7 fun x9 =>
      calV w5 r7 2 (f_X2_groundWithin r7 x9 p1 w5) fun x11 w10 =>
      gR w10 p0 11 5 fun r12 =>
      calV w10 r12 2 (f_X2_allBushels r12 w10) fun x14 w13 =>
      gR w13 p0 11 5 fun r15 =>
      gI w13 r15 2 5 fun x16 =>
      nm ((f_mmin x11 (x16 - x14))) fun x17 =>
      if p2 = 0 then
        f_X11_then_91 ((x14 + x17)) w13
      else
        gR w13 p0 11 5 fun r18 =>
        gI w13 r18 2 10 fun x19 =>
        f_X11_then_91 (((x19 + x11) - x17)) w13
def f_X11_thieves_50 : Nat → Nat → Int32 → Int32 → Int32 → Int64 → Int64 → Int64 → Int32 → Wd → Option (Int32 × Wd)
  | 0, _, _, _, _, _, _, _, _, _ => none
  | n + 1, v0, v1, v2, v3, v4, v6, v8, v10, w =>
    if v2 ≤ v10 then
      cal (f_X11_greatestDivisor v4 v8 w) fun x2 w1 =>
      nm ((f_mmax_long (1 : Int64) x2)) fun x3 =>
      nzL x3 <|
      pL w1 v0 11 7 (v4 / x3) fun w4 =>
      nzL x3 <|
      pL w4 v0 11 8 (v8 / x3) fun w5 =>
      some ((1 : Int32), w5)
    else
      nm ((v6 * (((10 : Int32) - v3).toInt64))) fun x6 =>
      nm ((v8 * (10 : Int64))) fun x7 =>
      gR w v0 11 5 fun r8 =>
      gR w v0 11 5 fun r9 =>
      gI w r9 2 9 fun x10 =>
      calV w r8 2 (f_X2_groundBy r8 v1 (x10 + v10) w) fun x12 w11 =>
      nm (((v4 * (10 : Int64)) + (x6 * (x12.toInt64)))) fun x13 =>
      (f_X11_thieves_50 n) v0 v1 v2 v3 x13 x6 x7 ((v10 + (1 : Int32))) w11
def f_X11_thieves_31 (v0 : Nat) (w : Wd) : Option (Int32 × Wd) :=
  calV w v0 11 (f_X11_refuse v0 (-2 : Int32) w) fun x15 w14 =>
  some (x15, w14)
def f_X11_thieves (p0 : Nat) (p1 : Int32) (p2 : Int32) (p3 : Int32) (w : Wd) : Option (Int32 × Wd) :=
  gR w p0 11 5 fun r16 =>
  calV w r16 2 (f_X2_has r16 p1 w) fun x18 w17 =>
  if x18 = 0 then
    f_X11_thieves_31 p0 w17
  else
    cal (f_X11_within p2 (0 : Int32) (9 : Int32) w17) fun x20 w19 =>
    if x20 = 0 then
      f_X11_thieves_31 p0 w19
    else
      cal (f_X11_within p3 (0 : Int32) (10 : Int32) w19) fun x22 w21 =>
      if x22 = 0 then
        f_X11_thieves_31 p0 w21
      else
        f_X11_thieves_50 4096 p0 p1 p2 p3 (0 : Int64) (1 : Int64) (1 : Int64) (0 : Int32) w21
def f_X11_type (p0 : Nat) (p1 : Int32) (w : Wd) : Option (Int32 × Wd) :=
  cal (f_X11_within p1 (0 : Int32) (127 : Int32) w) fun x2 w1 =>
  if x2 = 0 then
    calV w1 p0 11 (f_X11_refuse p0 (-2 : Int32) w1) fun x13 w12 =>
    some (x13, w12)
  else
    gR w1 p0 11 2 fun r3 =>
    gI w1 r3 10 1 fun x4 =>
    if x4 < (150 : Int32) then
      gR w1 p0 11 2 fun r5 =>
      calV w1 r5 10 (f_X10_append r5 p1 w1) fun _ w6 =>
      gR w6 p0 11 2 fun r8 =>
      gI w6 r8 10 1 fun x9 =>
      some (x9, w6)
    else
      calV w1 p0 11 (f_X11_refuse p0 (-4 : Int32) w1) fun x11 w10 =>
      some (x11, w10)
def f_X11_undo (p0 : Nat) (w : Wd) : Option (Int32 × Wd) :=
  gR w p0 11 5 fun r1 =>
  gI w r1 2 3 fun x2 =>
  if 0 < x2 then
    gR w p0 11 5 fun r3 =>
    calV w r3 2 (f_X2_goBack r3 w) fun _ w4 =>
    gR w4 p0 11 5 fun r6 =>
    gI w4 r6 2 9 fun x7 =>
    some (x7, w4)
  else
    calV w p0 11 (f_X11_refuse p0 (-3 : Int32) w) fun x9 w8 =>
    some (x9, w8)
def f_X11_word (p0 : Nat) (p1 : Int32) (w : Wd) : Option (Int32 × Wd) :=
  cal (f_X11_isWord p1 w) fun x2 w1 =>
  if x2 = 0 then
    calV w1 p0 11 (f_X11_refuse p0 (-2 : Int32) w1) fun x6 w5 =>
    some (x6, w5)
  else
    gR w1 p0 11 5 fun r3 =>
    pI w1 r3 2 6 p1 fun w4 =>
    some ((1 : Int32), w4)
def f_X11_words_42 (s0 : Int32) (w : Wd) : Option (Int32 × Wd) :=
  some (s0, w)
def f_X11_words (p0 : Nat) (p1 : Int32) (w : Wd) : Option (Int32 × Wd) :=
  cal (f_X11_within p1 (0 : Int32) (1 : Int32) w) fun x2 w1 =>
  if x2 = 0 then
    calV w1 p0 11 (f_X11_refuse p0 (-2 : Int32) w1) fun x12 w11 =>
    some (x12, w11)
  else
    gR w1 p0 11 5 fun r3 =>
    gR w1 r3 2 1 fun r4 =>
    calV w1 r4 0 (f_X0_fittingWords r4 w1) fun x6 w5 =>
    if p1 = 0 then
      cal (f_J6_bitCount_0f7a4 x6 w5) fun x10 w9 =>
      f_X11_words_42 x10 w9
    else
      cal (f_X11_leastIn x6 w5) fun x8 w7 =>
      f_X11_words_42 x8 w7
def f_X12_addGoods (p0 : Nat) (p1 : Int32) (p2 : Int32) (p3 : Int32) (w : Wd) : Option (Unit × Wd) :=
  gR w p0 12 0 fun r1 =>
  lI w r1 14 (19 : Int32) fun x2 =>
  gR w p0 12 0 fun r3 =>
  aI w r3 14 ((20 : Int32) + x2) p1 fun w4 =>
  gR w4 p0 12 0 fun r5 =>
  aI w4 r5 14 ((26 : Int32) + x2) p2 fun w6 =>
  gR w6 p0 12 0 fun r7 =>
  aI w6 r7 14 ((32 : Int32) + x2) p3 fun w8 =>
  gR w8 p0 12 0 fun r9 =>
  lI w8 r9 14 (19 : Int32) fun x10 =>
  aI w8 r9 14 (19 : Int32) (x10 + (1 : Int32)) fun w11 =>
  gR w11 p0 12 0 fun r12 =>
  aI w11 r12 14 (76 : Int32) (0 : Int32) fun w13 =>
  some ((), w13)
def f_X12_has_14 (s0 : Int32) (w : Wd) : Option (Int32 × Wd) :=
  rZ s0 w
def f_X12_has (p0 : Int32) (p1 : Int32) (w : Wd) : Option (Int32 × Wd) :=
  if ((p0 >>> (p1 &&& 31)) &&& (1 : Int32)) = (1 : Int32) then
    f_X12_has_14 (1 : Int32) w
  else
    f_X12_has_14 (0 : Int32) w
def f_X12_alike_28 (rec4 : Int32 → Int32 → Int32 → Int32 → Wd → Option (Int32 × Wd)) (v0 : Int32) (v1 : Int32) (v3 : Int32) (s0 : Int32) (s1 : Int32) (w : Wd) : Option (Int32 × Wd) :=
  nm ((s1 + s0)) fun x1 =>
  rec4 v0 v1 x1 ((v3 + (1 : Int32))) w
def f_X12_alike_4 : Nat → Int32 → Int32 → Int32 → Int32 → Wd → Option (Int32 × Wd)
  | 0, _, _, _, _, _ => none
  | n + 1, v0, v1, v2, v3, w =>
    if (5 : Int32) ≤ v3 then
      some (v2, w)
    else
      cal (f_X12_has v0 v3 w) fun x3 w2 =>
      cal (f_X12_has v1 v3 w2) fun x5 w4 =>
      if x3 = x5 then
        f_X12_alike_28 (f_X12_alike_4 n) v0 v1 v3 (1 : Int32) v2 w4
      else
        f_X12_alike_28 (f_X12_alike_4 n) v0 v1 v3 (0 : Int32) v2 w4
def f_X12_alike (p0 : Int32) (p1 : Int32) (w : Wd) : Option (Int32 × Wd) :=
  f_X12_alike_4 4096 p0 p1 (0 : Int32) (0 : Int32) w
def f_X12_refuse_25 (v1 : Int32) (s0 : Int32) (s1 : Nat) (w : Wd) : Option (Int32 × Wd) :=
  lI w s1 14 s0 fun x1 =>
  aI w s1 14 s0 (x1 + (1 : Int32)) fun w2 =>
  some (v1, w2)
def f_X12_refuse (p0 : Nat) (p1 : Int32) (w : Wd) : Option (Int32 × Wd) :=
  gR w p0 12 2 fun r3 =>
  if p1 = (-3 : Int32) then
    f_X12_refuse_25 p1 (1 : Int32) r3 w
  else
    if p1 = (-4 : Int32) then
      f_X12_refuse_25 p1 (2 : Int32) r3 w
    else
      f_X12_refuse_25 p1 (0 : Int32) r3 w
def f_X12_badTen (p0 : Nat) (w : Wd) : Option (Int32 × Wd) :=
  calV w p0 12 (f_X12_refuse p0 (-2 : Int32) w) fun x2 w1 =>
  some ((-10 : Int32), w1)
def f_X12_fetches_23 (v0 : Nat) (v1 : Int32) (s0 : Int32) (w : Wd) : Option (Int32 × Wd) :=
  gR w v0 12 0 fun r1 =>
  lI w r1 14 ((20 : Int32) + v1) fun x2 =>
  if x2 = (2 : Int32) then
    some ((0 : Int32), w)
  else
    if x2 = (3 : Int32) then
      some (s0, w)
    else
      if x2 = (4 : Int32) then
        some ((s0 / (2 : Int32)), w)
      else
        if x2 = (5 : Int32) then
          some ((1 : Int32), w)
        else
          some (s0, w)
def f_X12_fetches (p0 : Nat) (p1 : Int32) (p2 : Int32) (w : Wd) : Option (Int32 × Wd) :=
  gR w p0 12 0 fun r3 =>
  lI w r3 14 ((32 : Int32) + p1) fun x4 =>
  nm ((x4 - (p2 / (5 : Int32)))) fun x5 =>
  if 0 ≤ x5 then
    f_X12_fetches_23 p0 p1 x5 w
  else
    f_X12_fetches_23 p0 p1 (0 : Int32) w
def f_X12_groundBy_14 (v0 : Int32) (v1 : Int32) (v2 : Int32) (s0 : Int32) (w : Wd) : Option (Int32 × Wd) :=
  if v0 = (1 : Int32) then
    some (s0, w)
  else
    if v0 = (2 : Int32) then
      some (v1, w)
    else
      if v0 = (3 : Int32) then
        some ((v1 + (irm v2 (4 : Int32))), w)
      else
        if v0 = (4 : Int32) then
          some ((s0 + (1 : Int32)), w)
        else
          if v0 = (5 : Int32) then
            some ((0 : Int32), w)
          else
            some (v1, w)
def f_X12_groundBy (p0 : Int32) (p1 : Int32) (p2 : Int32) (p3 : Int32) (w : Wd) : Option (Int32 × Wd) :=
  if p3 ≤ (4 : Int32) then
    f_X12_groundBy_14 p0 p1 p2 p1 w
  else
    f_X12_groundBy_14 p0 p1 p2 (((p1 + (1 : Int32)) / (2 : Int32))) w
def f_X12_ground (p0 : Nat) (p1 : Int32) (p2 : Int32) (p3 : Int32) (w : Wd) : Option (Int32 × Wd) :=
  gR w p0 12 0 fun r1 =>
  lI w r1 14 ((20 : Int32) + p1) fun x2 =>
  gR w p0 12 0 fun r3 =>
  lI w r3 14 ((26 : Int32) + p1) fun x4 =>
  cal (f_X12_groundBy x2 x4 p2 p3 w) fun x6 w5 =>
  some (x6, w5)
def f_X12_brings_22 : Nat → Nat → Int32 → Int32 → Int32 → Int32 → Wd → Option (Int32 × Wd)
  | 0, _, _, _, _, _, _ => none
  | n + 1, v0, v1, v3, v4, v5, w =>
    if v3 ≤ v5 then
      some (v4, w)
    else
      gR w v0 12 0 fun r1 =>
      lI w r1 14 ((6 : Int32) + v1) fun x2 =>
      calV w v0 12 (f_X12_fetches v0 v1 (x2 + v5) w) fun x4 w3 =>
      nm ((v4 + x4)) fun x5 =>
      (f_X12_brings_22 n) v0 v1 v3 x5 ((v5 + (1 : Int32))) w3
def f_X12_brings (p0 : Nat) (p1 : Int32) (p2 : Int32) (w : Wd) : Option (Int32 × Wd) :=
  gR w p0 12 0 fun r6 =>
  lI w r6 14 (16 : Int32) fun x7 =>
  calV w p0 12 (f_X12_ground p0 p1 (0 : Int32) x7 w) fun x9 w8 =>
  nm ((p2 * x9)) fun x10 =>
  f_X12_brings_22 4096 p0 p1 x10 (0 : Int32) (0 : Int32) w8
def f_X12_in_15 (s0 : Int32) (w : Wd) : Option (Int32 × Wd) :=
  rZ s0 w
def f_X12_in_14 (w : Wd) : Option (Int32 × Wd) :=
  f_X12_in_15 (0 : Int32) w
def f_X12_in (p0 : Int32) (p1 : Int32) (p2 : Int32) (w : Wd) : Option (Int32 × Wd) :=
  if p0 < p1 then
    f_X12_in_14  w
  else
    if p2 < p0 then
      f_X12_in_14  w
    else
      f_X12_in_15 (1 : Int32) w
def f_X12_isGoods (p0 : Nat) (p1 : Int32) (w : Wd) : Option (Int32 × Wd) :=
  gR w p0 12 0 fun r1 =>
  lI w r1 14 (19 : Int32) fun x2 =>
  cal (f_X12_in p1 (0 : Int32) (x2 - (1 : Int32)) w) fun x4 w3 =>
  rZ x4 w3
def f_X12_layRichest_104 (rec41 : Nat → Int32 → Int32 → Wd → Option (Unit × Wd)) (rec47 : Nat → Int32 → Int32 → Int32 → Wd → Option (Unit × Wd)) (rec58 : Nat → Int32 → Int32 → Int32 → Int32 → Int32 → Wd → Option (Unit × Wd)) (v0 : Nat) (v1 : Int32) (v2 : Int32) (v3 : Int32) (v5 : Int32) (s0 : Int32) (w : Wd) : Option (Unit × Wd) :=
  rec58 v0 v1 v2 v3 s0 ((v5 + (1 : Int32))) w
def f_X12_layRichest_58 (rec41 : Nat → Int32 → Int32 → Wd → Option (Unit × Wd)) (rec47 : Nat → Int32 → Int32 → Int32 → Wd → Option (Unit × Wd)) : Nat → Nat → Int32 → Int32 → Int32 → Int32 → Int32 → Wd → Option (Unit × Wd)
  | 0, _, _, _, _, _, _, _ => none
  | n + 1, v0, v1, v2, v3, v4, v5, w =>
    if v3 < v5 then
      gR w v0 12 17 fun r1 =>
      aI w r1 14 (((13 : Int32) * v2) + v3) v4 fun w2 =>
      rec47 v0 v1 v2 ((v3 + (1 : Int32))) w2
    else
      calV w v0 12 (f_X12_brings v0 v2 v5 w) fun x4 w3 =>
      gR w3 v0 12 17 fun r5 =>
      lI w3 r5 14 ((((13 : Int32) * (v2 + (1 : Int32))) + v3) - v5) fun x6 =>
      nm ((x4 + x6)) fun x7 =>
      if x7 ≤ v4 then
        f_X12_layRichest_104 rec41 rec47 (f_X12_layRichest_58 rec41 rec47 n) v0 v1 v2 v3 v5 v4 w3
      else
        f_X12_layRichest_104 rec41 rec47 (f_X12_layRichest_58 rec41 rec47 n) v0 v1 v2 v3 v5 x7 w3
def f_X12_layRichest_47 (rec41 : Nat → Int32 → Int32 → Wd → Option (Unit × Wd)) : Nat → Nat → Int32 → Int32 → Int32 → Wd → Option (Unit × Wd)
  | 0, _, _, _, _, _ => none
  | n + 1, v0, v1, v2, v3, w =>
    if v1 < v3 then
      rec41 v0 v1 ((v2 + (-1 : Int32))) w
    else
      f_X12_layRichest_58 rec41 (f_X12_layRichest_47 rec41 n) 4096 v0 v1 v2 v3 (0 : Int32) (0 : Int32) w
def f_X12_layRichest_41 : Nat → Nat → Int32 → Int32 → Wd → Option (Unit × Wd)
  | 0, _, _, _, _ => none
  | n + 1, v0, v1, v2, w =>
    if v2 < 0 then
      some ((), w)
    else
      f_X12_layRichest_47 (f_X12_layRichest_41 n) 4096 v0 v1 v2 (0 : Int32) w
def f_X12_layRichest_2 : Nat → Nat → Int32 → Int32 → Wd → Option (Unit × Wd)
  | 0, _, _, _, _ => none
  | n + 1, v0, v1, v2, w =>
    if v1 < v2 then
      gR w v0 12 0 fun r8 =>
      lI w r8 14 (19 : Int32) fun x9 =>
      nm ((x9 - (1 : Int32))) fun x10 =>
      f_X12_layRichest_41 4096 v0 v1 x10 w
    else
      gR w v0 12 17 fun r11 =>
      gR w v0 12 0 fun r12 =>
      lI w r12 14 (19 : Int32) fun x13 =>
      aI w r11 14 (((13 : Int32) * x13) + v2) (0 : Int32) fun w14 =>
      (f_X12_layRichest_2 n) v0 v1 ((v2 + (1 : Int32))) w14
def f_X12_layRichest (p0 : Nat) (p1 : Int32) (w : Wd) : Option (Unit × Wd) :=
  f_X12_layRichest_2 4096 p0 p1 (0 : Int32) w
def f_X12_best_62 (rec53 : Nat → Int32 → Int32 → Int32 → Int32 → Wd → Option (Int32 × Wd)) : Nat → Nat → Int32 → Int32 → Int32 → Int32 → Wd → Option (Int32 × Wd)
  | 0, _, _, _, _, _, _ => none
  | n + 1, v0, v2, v3, v4, v5, w =>
    calV w v0 12 (f_X12_brings v0 v5 v4 w) fun x2 w1 =>
    gR w1 v0 12 17 fun r3 =>
    lI w1 r3 14 ((((13 : Int32) * (v5 + (1 : Int32))) + v3) - v4) fun x4 =>
    gR w1 v0 12 17 fun r5 =>
    lI w1 r5 14 (((13 : Int32) * v5) + v3) fun x6 =>
    if (x2 + x4) = x6 then
      nm ((v3 - v4)) fun x7 =>
      rec53 v0 v2 x7 v4 ((v5 + (1 : Int32))) w1
    else
      (f_X12_best_62 rec53 n) v0 v2 v3 ((v4 + (-1 : Int32))) v5 w1
def f_X12_best_53 : Nat → Nat → Int32 → Int32 → Int32 → Int32 → Wd → Option (Int32 × Wd)
  | 0, _, _, _, _, _, _ => none
  | n + 1, v0, v2, v3, v4, v5, w =>
    if v2 < v5 then
      some (v4, w)
    else
      f_X12_best_62 (f_X12_best_53 n) 4096 v0 v2 v3 v3 v5 w
def f_X12_best_28 (v0 : Nat) (v1 : Int32) (v2 : Int32) (w : Wd) : Option (Int32 × Wd) :=
  calV w v0 12 (f_X12_layRichest v0 v1 w) fun _ w8 =>
  if v2 = (-1 : Int32) then
    gR w8 v0 12 17 fun r10 =>
    lI w8 r10 14 v1 fun x11 =>
    some (x11, w8)
  else
    f_X12_best_53 4096 v0 v2 v1 (0 : Int32) (0 : Int32) w8
def f_X12_best_23 (v0 : Nat) (w : Wd) : Option (Int32 × Wd) :=
  calV w v0 12 (f_X12_badTen v0 w) fun x13 w12 =>
  some (x13, w12)
def f_X12_best (p0 : Nat) (p1 : Int32) (p2 : Int32) (w : Wd) : Option (Int32 × Wd) :=
  cal (f_X12_in p1 (0 : Int32) (12 : Int32) w) fun x15 w14 =>
  if x15 = 0 then
    f_X12_best_23 p0 w14
  else
    if p2 = (-1 : Int32) then
      f_X12_best_28 p0 p1 p2 w14
    else
      calV w14 p0 12 (f_X12_isGoods p0 p2 w14) fun x17 w16 =>
      if x17 = 0 then
        f_X12_best_23 p0 w16
      else
        f_X12_best_28 p0 p1 p2 w16
def f_X12_clear (p0 : Nat) (w : Wd) : Option (Int32 × Wd) :=
  gI w p0 12 6 fun x1 =>
  pI w p0 12 6 (0 : Int32) fun w2 =>
  some (x1, w2)
def f_X12_keepPast_57 : Nat → Nat → Int32 → Wd → Option (Unit × Wd)
  | 0, _, _, _ => none
  | n + 1, v0, v1, w =>
    if (17 : Int32) ≤ v1 then
      gR w v0 12 0 fun r1 =>
      lI w r1 14 (76 : Int32) fun x2 =>
      aI w r1 14 (76 : Int32) (x2 + (1 : Int32)) fun w3 =>
      some ((), w3)
    else
      gR w v0 12 0 fun r4 =>
      gR w v0 12 0 fun r5 =>
      lI w r5 14 (76 : Int32) fun x6 =>
      gR w v0 12 0 fun r7 =>
      lI w r7 14 v1 fun x8 =>
      aI w r4 14 (((77 : Int32) + ((17 : Int32) * x6)) + v1) x8 fun w9 =>
      (f_X12_keepPast_57 n) v0 ((v1 + (1 : Int32))) w9
def f_X12_keepPast_55 (v0 : Nat) (w : Wd) : Option (Unit × Wd) :=
  f_X12_keepPast_57 4096 v0 (0 : Int32) w
def f_X12_keepPast_14 : Nat → Nat → Int32 → Wd → Option (Unit × Wd)
  | 0, _, _, _ => none
  | n + 1, v0, v1, w =>
    if (119 : Int32) ≤ v1 then
      gR w v0 12 0 fun r10 =>
      lI w r10 14 (76 : Int32) fun x11 =>
      aI w r10 14 (76 : Int32) (x11 - (1 : Int32)) fun w12 =>
      f_X12_keepPast_55 v0 w12
    else
      gR w v0 12 0 fun r13 =>
      gR w v0 12 0 fun r14 =>
      lI w r14 14 ((94 : Int32) + v1) fun x15 =>
      aI w r13 14 ((77 : Int32) + v1) x15 fun w16 =>
      (f_X12_keepPast_14 n) v0 ((v1 + (1 : Int32))) w16
def f_X12_keepPast (p0 : Nat) (w : Wd) : Option (Unit × Wd) :=
  gR w p0 12 0 fun r17 =>
  lI w r17 14 (76 : Int32) fun x18 =>
  if x18 = (8 : Int32) then
    f_X12_keepPast_14 4096 p0 (0 : Int32) w
  else
    f_X12_keepPast_55 p0 w
def f_X12_cold (p0 : Nat) (p1 : Int32) (w : Wd) : Option (Int32 × Wd) :=
  cal (f_X12_in p1 (0 : Int32) (9 : Int32) w) fun x2 w1 =>
  if x2 = 0 then
    calV w1 p0 12 (f_X12_refuse p0 (-2 : Int32) w1) fun x10 w9 =>
    some (x10, w9)
  else
    calV w1 p0 12 (f_X12_keepPast p0 w1) fun _ w3 =>
    gR w3 p0 12 0 fun r5 =>
    lI w3 r5 14 (16 : Int32) fun x6 =>
    gR w3 p0 12 0 fun r7 =>
    aI w3 r7 14 (16 : Int32) p1 fun w8 =>
    some (x6, w8)
def f_X12_inHouse_4 : Nat → Nat → Int32 → Int32 → Int32 → Wd → Option (Int32 × Wd)
  | 0, _, _, _, _, _ => none
  | n + 1, v0, v1, v2, v3, w =>
    if (6 : Int32) ≤ v3 then
      some (v2, w)
    else
      gR w v0 12 0 fun r1 =>
      lI w r1 14 ((v1 + (0 : Int32)) + v3) fun x2 =>
      nm ((v2 + x2)) fun x3 =>
      (f_X12_inHouse_4 n) v0 v1 x3 ((v3 + (1 : Int32))) w
def f_X12_inHouse (p0 : Nat) (p1 : Int32) (w : Wd) : Option (Int32 × Wd) :=
  f_X12_inHouse_4 4096 p0 p1 (0 : Int32) (0 : Int32) w
def f_X12_countOf (p0 : Nat) (p1 : Int32) (w : Wd) : Option (Int32 × Wd) :=
  if p1 = (0 : Int32) then
    gR w p0 12 0 fun r1 =>
    lI w r1 14 (19 : Int32) fun x2 =>
    some (x2, w)
  else
    if p1 = (1 : Int32) then
      gR w p0 12 0 fun r3 =>
      lI w r3 14 (14 : Int32) fun x4 =>
      some (x4, w)
    else
      if p1 = (2 : Int32) then
        calV w p0 12 (f_X12_inHouse p0 (0 : Int32) w) fun x6 w5 =>
        some (x6, w5)
      else
        if p1 = (3 : Int32) then
          gR w p0 12 0 fun r7 =>
          lI w r7 14 (12 : Int32) fun x8 =>
          some (x8, w)
        else
          if p1 = (4 : Int32) then
            gR w p0 12 0 fun r9 =>
            lI w r9 14 (13 : Int32) fun x10 =>
            some (x10, w)
          else
            if p1 = (5 : Int32) then
              gR w p0 12 0 fun r11 =>
              lI w r11 14 (38 : Int32) fun x12 =>
              some (x12, w)
            else
              if p1 = (6 : Int32) then
                gR w p0 12 0 fun r13 =>
                lI w r13 14 (51 : Int32) fun x14 =>
                some (x14, w)
              else
                if p1 = (7 : Int32) then
                  gR w p0 12 0 fun r15 =>
                  lI w r15 14 (76 : Int32) fun x16 =>
                  some (x16, w)
                else
                  if p1 = (8 : Int32) then
                    gI w p0 12 6 fun x17 =>
                    some (x17, w)
                  else
                    gR w p0 12 0 fun r18 =>
                    lI w r18 14 (16 : Int32) fun x19 =>
                    some (x19, w)
def f_X12_count_24 (s0 : Int32) (w : Wd) : Option (Int32 × Wd) :=
  some (s0, w)
def f_X12_count (p0 : Nat) (p1 : Int32) (w : Wd) : Option (Int32 × Wd) :=
  cal (f_X12_in p1 (0 : Int32) (9 : Int32) w) fun x2 w1 =>
  if x2 = 0 then
    calV w1 p0 12 (f_X12_refuse p0 (-2 : Int32) w1) fun x4 w3 =>
    f_X12_count_24 x4 w3
  else
    calV w1 p0 12 (f_X12_countOf p0 p1 w1) fun x6 w5 =>
    f_X12_count_24 x6 w5
def f_X12_digest_219 : Nat → Nat → Int64 → Int32 → Wd → Option (Int64 × Wd)
  | 0, _, _, _, _ => none
  | n + 1, v0, v1, v3, w =>
    gR w v0 12 0 fun r1 =>
    lI w r1 14 (51 : Int32) fun x2 =>
    if ((4 : Int32) * x2) ≤ v3 then
      gL w v0 12 3 fun x3 =>
      nm ((((31 : Int64) * v1) + x3)) fun x4 =>
      gL w v0 12 4 fun x5 =>
      some ((((31 : Int64) * x4) + x5), w)
    else
      gR w v0 12 0 fun r6 =>
      lI w r6 14 ((52 : Int32) + v3) fun x7 =>
      nm ((((31 : Int64) * v1) + (x7.toInt64))) fun x8 =>
      (f_X12_digest_219 n) v0 x8 ((v3 + (1 : Int32))) w
def f_X12_digest_181 : Nat → Nat → Int64 → Int32 → Wd → Option (Int64 × Wd)
  | 0, _, _, _, _ => none
  | n + 1, v0, v1, v3, w =>
    gR w v0 12 0 fun r9 =>
    lI w r9 14 (38 : Int32) fun x10 =>
    if ((2 : Int32) * x10) ≤ v3 then
      f_X12_digest_219 4096 v0 v1 (0 : Int32) w
    else
      gR w v0 12 0 fun r11 =>
      lI w r11 14 ((39 : Int32) + v3) fun x12 =>
      nm ((((31 : Int64) * v1) + (x12.toInt64))) fun x13 =>
      (f_X12_digest_181 n) v0 x13 ((v3 + (1 : Int32))) w
def f_X12_digest_78 : Nat → Nat → Int64 → Int32 → Wd → Option (Int64 × Wd)
  | 0, _, _, _, _ => none
  | n + 1, v0, v1, v3, w =>
    gR w v0 12 0 fun r14 =>
    lI w r14 14 (19 : Int32) fun x15 =>
    if x15 ≤ v3 then
      f_X12_digest_181 4096 v0 v1 (0 : Int32) w
    else
      gR w v0 12 0 fun r16 =>
      lI w r16 14 ((20 : Int32) + v3) fun x17 =>
      nm ((((31 : Int64) * v1) + (x17.toInt64))) fun x18 =>
      gR w v0 12 0 fun r19 =>
      lI w r19 14 ((26 : Int32) + v3) fun x20 =>
      nm ((((31 : Int64) * x18) + (x20.toInt64))) fun x21 =>
      gR w v0 12 0 fun r22 =>
      lI w r22 14 ((32 : Int32) + v3) fun x23 =>
      nm ((((31 : Int64) * x21) + (x23.toInt64))) fun x24 =>
      gR w v0 12 0 fun r25 =>
      lI w r25 14 ((0 : Int32) + v3) fun x26 =>
      nm ((((31 : Int64) * x24) + (x26.toInt64))) fun x27 =>
      gR w v0 12 0 fun r28 =>
      lI w r28 14 ((6 : Int32) + v3) fun x29 =>
      nm ((((31 : Int64) * x27) + (x29.toInt64))) fun x30 =>
      (f_X12_digest_78 n) v0 x30 ((v3 + (1 : Int32))) w
def f_X12_digest_6 : Nat → Nat → Int64 → Int32 → Wd → Option (Int64 × Wd)
  | 0, _, _, _, _ => none
  | n + 1, v0, v1, v3, w =>
    if (10 : Int32) ≤ v3 then
      gR w v0 12 0 fun r31 =>
      lI w r31 14 (17 : Int32) fun x32 =>
      nm ((((31 : Int64) * v1) + (x32.toInt64))) fun x33 =>
      gR w v0 12 0 fun r34 =>
      lI w r34 14 (18 : Int32) fun x35 =>
      nm ((((31 : Int64) * x33) + (x35.toInt64))) fun x36 =>
      gR w v0 12 0 fun r37 =>
      lI w r37 14 (15 : Int32) fun x38 =>
      nm ((((31 : Int64) * x36) + (x38.toInt64))) fun x39 =>
      f_X12_digest_78 4096 v0 x39 (0 : Int32) w
    else
      calV w v0 12 (f_X12_countOf v0 v3 w) fun x41 w40 =>
      nm ((((31 : Int64) * v1) + (x41.toInt64))) fun x42 =>
      (f_X12_digest_6 n) v0 x42 ((v3 + (1 : Int32))) w40
def f_X12_digest (p0 : Nat) (w : Wd) : Option (Int64 × Wd) :=
  f_X12_digest_6 4096 p0 (1231 : Int64) (0 : Int32) w
def f_X12_forget_27 (v0 : Nat) (s0 : Int32) (w : Wd) : Option (Int32 × Wd) :=
  gR w v0 12 0 fun r1 =>
  lI w r1 14 s0 fun x2 =>
  gR w v0 12 0 fun r3 =>
  aI w r3 14 s0 (0 : Int32) fun w4 =>
  some (x2, w4)
def f_X12_forget (p0 : Nat) (p1 : Int32) (w : Wd) : Option (Int32 × Wd) :=
  cal (f_X12_in p1 (0 : Int32) (1 : Int32) w) fun x6 w5 =>
  if x6 = 0 then
    calV w5 p0 12 (f_X12_refuse p0 (-2 : Int32) w5) fun x8 w7 =>
    some (x8, w7)
  else
    if p1 = 0 then
      f_X12_forget_27 p0 (38 : Int32) w5
    else
      f_X12_forget_27 p0 (51 : Int32) w5
def f_X12_from_34 : Nat → Nat → Int32 → Int32 → Wd → Option (Int32 × Wd)
  | 0, _, _, _, _ => none
  | n + 1, v0, v1, v2, w =>
    if (213 : Int32) ≤ v2 then
      some ((1 : Int32), w)
    else
      gR w v0 12 0 fun r1 =>
      gR w v0 12 0 fun r2 =>
      lI w r2 14 (((213 : Int32) + ((213 : Int32) * v1)) + v2) fun x3 =>
      aI w r1 14 v2 x3 fun w4 =>
      (f_X12_from_34 n) v0 v1 ((v2 + (1 : Int32))) w4
def f_X12_from (p0 : Nat) (p1 : Int32) (w : Wd) : Option (Int32 × Wd) :=
  cal (f_X12_in p1 (0 : Int32) (1 : Int32) w) fun x6 w5 =>
  if x6 = 0 then
    calV w5 p0 12 (f_X12_refuse p0 (-2 : Int32) w5) fun x12 w11 =>
    some (x12, w11)
  else
    gR w5 p0 12 1 fun r7 =>
    lI w5 r7 15 p1 fun x8 =>
    if x8 = 0 then
      calV w5 p0 12 (f_X12_refuse p0 (-3 : Int32) w5) fun x10 w9 =>
      some (x10, w9)
    else
      f_X12_from_34 4096 p0 p1 (0 : Int32) w5
def f_X12_layTried_2 : Nat → Nat → Int32 → Wd → Option (Unit × Wd)
  | 0, _, _, _ => none
  | n + 1, v0, v1, w =>
    if (17 : Int32) ≤ v1 then
      some ((), w)
    else
      gR w v0 12 0 fun r1 =>
      gR w v0 12 0 fun r2 =>
      lI w r2 14 v1 fun x3 =>
      aI w r1 14 ((639 : Int32) + v1) x3 fun w4 =>
      (f_X12_layTried_2 n) v0 ((v1 + (1 : Int32))) w4
def f_X12_layTried (p0 : Nat) (w : Wd) : Option (Unit × Wd) :=
  f_X12_layTried_2 4096 p0 (0 : Int32) w
def f_X12_pass_98 (v0 : Nat) (v1 : Int32) (v3 : Int32) (w : Wd) : Option (Int32 × Wd) :=
  gR w v0 12 0 fun r1 =>
  lI w r1 14 (v1 + (14 : Int32)) fun x2 =>
  aI w r1 14 (v1 + (14 : Int32)) (x2 + (1 : Int32)) fun w3 =>
  some (v3, w3)
def f_X12_pass_60 (v0 : Nat) (v1 : Int32) (v2 : Int32) (v3 : Int32) (s0 : Int32) (w : Wd) : Option (Int32 × Wd) :=
  if v2 = (-1 : Int32) then
    f_X12_pass_98 v0 v1 v3 w
  else
    gR w v0 12 0 fun r4 =>
    lI w r4 14 ((v1 + (0 : Int32)) + v2) fun x5 =>
    aI w r4 14 ((v1 + (0 : Int32)) + v2) (x5 + s0) fun w6 =>
    gR w6 v0 12 0 fun r7 =>
    lI w6 r7 14 (v1 + (12 : Int32)) fun x8 =>
    aI w6 r7 14 (v1 + (12 : Int32)) (x8 + (v3 - s0)) fun w9 =>
    f_X12_pass_98 v0 v1 v3 w9
def f_X12_pass_32 (v0 : Nat) (v1 : Int32) (v2 : Int32) (s0 : Int32) (w : Wd) : Option (Int32 × Wd) :=
  gR w v0 12 0 fun r10 =>
  lI w r10 14 (17 : Int32) fun x11 =>
  calV w v0 12 (f_X12_inHouse v0 v1 w) fun x13 w12 =>
  nm ((x11 - x13)) fun x14 =>
  if x14 ≤ s0 then
    f_X12_pass_60 v0 v1 v2 s0 x14 w12
  else
    f_X12_pass_60 v0 v1 v2 s0 s0 w12
def f_X12_pass (p0 : Nat) (p1 : Int32) (p2 : Int32) (w : Wd) : Option (Int32 × Wd) :=
  if p2 = (-1 : Int32) then
    f_X12_pass_32 p0 p1 p2 (0 : Int32) w
  else
    gR w p0 12 0 fun r15 =>
    lI w r15 14 (p1 + (14 : Int32)) fun x16 =>
    gR w p0 12 0 fun r17 =>
    lI w r17 14 (p1 + (16 : Int32)) fun x18 =>
    calV w p0 12 (f_X12_ground p0 p2 x16 x18 w) fun x20 w19 =>
    f_X12_pass_32 p0 p1 p2 x20 w19
def f_X12_full_6 : Nat → Nat → Int32 → Wd → Option (Int32 × Wd)
  | 0, _, _, _ => none
  | n + 1, v0, v1, w =>
    if (61 : Int32) ≤ v1 then
      some ((-1 : Int32), w)
    else
      calV w v0 12 (f_X12_inHouse v0 (639 : Int32) w) fun x2 w1 =>
      gR w1 v0 12 0 fun r3 =>
      lI w1 r3 14 (17 : Int32) fun x4 =>
      if x2 = x4 then
        some (v1, w1)
      else
        gR w1 v0 12 0 fun r5 =>
        lI w1 r5 14 (15 : Int32) fun x6 =>
        calV w1 v0 12 (f_X12_pass v0 (639 : Int32) x6 w1) fun x8 w7 =>
        (f_X12_full_6 n) v0 ((v1 + (1 : Int32))) w7
def f_X12_full (p0 : Nat) (w : Wd) : Option (Int32 × Wd) :=
  calV w p0 12 (f_X12_layTried p0 w) fun _ w9 =>
  f_X12_full_6 4096 p0 (0 : Int32) w9
def f_X12_goods_29 (v0 : Nat) (w : Wd) : Option (Int32 × Wd) :=
  calV w v0 12 (f_X12_refuse v0 (-2 : Int32) w) fun x2 w1 =>
  some (x2, w1)
def f_X12_goods (p0 : Nat) (p1 : Int32) (p2 : Int32) (p3 : Int32) (w : Wd) : Option (Int32 × Wd) :=
  cal (f_X12_in p1 (0 : Int32) (5 : Int32) w) fun x4 w3 =>
  if x4 = 0 then
    f_X12_goods_29 p0 w3
  else
    cal (f_X12_in p2 (1 : Int32) (9 : Int32) w3) fun x6 w5 =>
    if x6 = 0 then
      f_X12_goods_29 p0 w5
    else
      cal (f_X12_in p3 (0 : Int32) (40 : Int32) w5) fun x8 w7 =>
      if x8 = 0 then
        f_X12_goods_29 p0 w7
      else
        gR w7 p0 12 0 fun r9 =>
        lI w7 r9 14 (19 : Int32) fun x10 =>
        if x10 = (6 : Int32) then
          calV w7 p0 12 (f_X12_refuse p0 (-4 : Int32) w7) fun x16 w15 =>
          some (x16, w15)
        else
          calV w7 p0 12 (f_X12_addGoods p0 p1 p2 p3 w7) fun _ w11 =>
          gR w11 p0 12 0 fun r13 =>
          lI w11 r13 14 (19 : Int32) fun x14 =>
          some ((x14 - (1 : Int32)), w11)
def f_X12_grind (p0 : Nat) (p1 : Int32) (w : Wd) : Option (Int32 × Wd) :=
  calV w p0 12 (f_X12_isGoods p0 p1 w) fun x2 w1 =>
  if x2 = 0 then
    calV w1 p0 12 (f_X12_badTen p0 w1) fun x10 w9 =>
    some (x10, w9)
  else
    calV w1 p0 12 (f_X12_keepPast p0 w1) fun _ w3 =>
    gR w3 p0 12 0 fun r5 =>
    lI w3 r5 14 (15 : Int32) fun x6 =>
    gR w3 p0 12 0 fun r7 =>
    aI w3 r7 14 (15 : Int32) p1 fun w8 =>
    some (x6, w8)
def f_X12_grinds (p0 : Nat) (w : Wd) : Option (Int32 × Wd) :=
  gR w p0 12 0 fun r1 =>
  lI w r1 14 (15 : Int32) fun x2 =>
  some (x2, w)
def f_X12_guess_19 (v0 : Nat) (w : Wd) : Option (Int32 × Wd) :=
  calV w v0 12 (f_X12_refuse v0 (-2 : Int32) w) fun x2 w1 =>
  some (x2, w1)
def f_X12_guess (p0 : Nat) (p1 : Int32) (p2 : Int32) (w : Wd) : Option (Int32 × Wd) :=
  cal (f_X12_in p1 (0 : Int32) (31 : Int32) w) fun x4 w3 =>
  if x4 = 0 then
    f_X12_guess_19 p0 w3
  else
    cal (f_X12_in p2 (0 : Int32) (5 : Int32) w3) fun x6 w5 =>
    if x6 = 0 then
      f_X12_guess_19 p0 w5
    else
      gR w5 p0 12 0 fun r7 =>
      lI w5 r7 14 (38 : Int32) fun x8 =>
      if x8 = (6 : Int32) then
        calV w5 p0 12 (f_X12_refuse p0 (-4 : Int32) w5) fun x23 w22 =>
        some (x23, w22)
      else
        gR w5 p0 12 0 fun r9 =>
        gR w5 p0 12 0 fun r10 =>
        lI w5 r10 14 (38 : Int32) fun x11 =>
        aI w5 r9 14 ((39 : Int32) + ((2 : Int32) * x11)) p1 fun w12 =>
        gR w12 p0 12 0 fun r13 =>
        gR w12 p0 12 0 fun r14 =>
        lI w12 r14 14 (38 : Int32) fun x15 =>
        aI w12 r13 14 (((39 : Int32) + ((2 : Int32) * x15)) + (1 : Int32)) p2 fun w16 =>
        gR w16 p0 12 0 fun r17 =>
        lI w16 r17 14 (38 : Int32) fun x18 =>
        aI w16 r17 14 (38 : Int32) (x18 + (1 : Int32)) fun w19 =>
        gR w19 p0 12 0 fun r20 =>
        lI w19 r20 14 (38 : Int32) fun x21 =>
        some (x21, w19)
def f_X12_hour_25 : Nat → Nat → Int32 → Int32 → Int32 → Wd → Option (Int32 × Wd)
  | 0, _, _, _, _, _ => none
  | n + 1, v0, v1, v2, v3, w =>
    if v1 ≤ v3 then
      some (v2, w)
    else
      gR w v0 12 0 fun r1 =>
      lI w r1 14 (15 : Int32) fun x2 =>
      calV w v0 12 (f_X12_pass v0 (0 : Int32) x2 w) fun x4 w3 =>
      nm ((v2 + x4)) fun x5 =>
      (f_X12_hour_25 n) v0 v1 x5 ((v3 + (1 : Int32))) w3
def f_X12_hour (p0 : Nat) (p1 : Int32) (w : Wd) : Option (Int32 × Wd) :=
  cal (f_X12_in p1 (1 : Int32) (60 : Int32) w) fun x7 w6 =>
  if x7 = 0 then
    calV w6 p0 12 (f_X12_refuse p0 (-2 : Int32) w6) fun x11 w10 =>
    some (x11, w10)
  else
    calV w6 p0 12 (f_X12_keepPast p0 w6) fun _ w8 =>
    f_X12_hour_25 4096 p0 p1 (0 : Int32) (0 : Int32) w8
def f_X12_image_18 : Nat → Nat → Int32 → Int32 → Wd → Option (Int32 × Wd)
  | 0, _, _, _, _ => none
  | n + 1, v0, v1, v2, w =>
    if (213 : Int32) ≤ v2 then
      gR w v0 12 1 fun r1 =>
      aI w r1 15 v1 (vp_nar .boolean (1 : Int32)) fun w2 =>
      some ((1 : Int32), w2)
    else
      gR w v0 12 0 fun r3 =>
      gR w v0 12 0 fun r4 =>
      lI w r4 14 v2 fun x5 =>
      aI w r3 14 (((213 : Int32) + ((213 : Int32) * v1)) + v2) x5 fun w6 =>
      (f_X12_image_18 n) v0 v1 ((v2 + (1 : Int32))) w6
def f_X12_image (p0 : Nat) (p1 : Int32) (w : Wd) : Option (Int32 × Wd) :=
  cal (f_X12_in p1 (0 : Int32) (1 : Int32) w) fun x8 w7 =>
  if x8 = 0 then
    calV w7 p0 12 (f_X12_refuse p0 (-2 : Int32) w7) fun x10 w9 =>
    some (x10, w9)
  else
    f_X12_image_18 4096 p0 p1 (0 : Int32) w7
def f_X12_isNoted_83 (rec6 : Nat → Int32 → Int32 → Int32 → Int32 → Int32 → Wd → Option (Int32 × Wd)) (v0 : Nat) (v1 : Int32) (v2 : Int32) (v3 : Int32) (v5 : Int32) (s0 : Int32) (w : Wd) : Option (Int32 × Wd) :=
  rec6 v0 v1 v2 v3 s0 ((v5 + (1 : Int32))) w
def f_X12_isNoted_82 (rec6 : Nat → Int32 → Int32 → Int32 → Int32 → Int32 → Wd → Option (Int32 × Wd)) (v0 : Nat) (v1 : Int32) (v2 : Int32) (v3 : Int32) (v5 : Int32) (w : Wd) : Option (Int32 × Wd) :=
  f_X12_isNoted_83 rec6 v0 v1 v2 v3 v5 (0 : Int32) w
def f_X12_isNoted_78 (rec6 : Nat → Int32 → Int32 → Int32 → Int32 → Int32 → Wd → Option (Int32 × Wd)) (v0 : Nat) (v1 : Int32) (v2 : Int32) (v3 : Int32) (v5 : Int32) (w : Wd) : Option (Int32 × Wd) :=
  f_X12_isNoted_83 rec6 v0 v1 v2 v3 v5 (1 : Int32) w
def f_X12_isNoted_6 : Nat → Nat → Int32 → Int32 → Int32 → Int32 → Int32 → Wd → Option (Int32 × Wd)
  | 0, _, _, _, _, _, _, _ => none
  | n + 1, v0, v1, v2, v3, v4, v5, w =>
    gR w v0 12 0 fun r1 =>
    lI w r1 14 (51 : Int32) fun x2 =>
    if x2 ≤ v5 then
      rZ v4 w
    else
      nm (((52 : Int32) + ((4 : Int32) * v5))) fun x3 =>
      if v4 = 0 then
        f_X12_isNoted_82 (f_X12_isNoted_6 n) v0 v1 v2 v3 v5 w
      else
        gR w v0 12 0 fun r4 =>
        lI w r4 14 x3 fun x5 =>
        if x5 = v1 then
          gR w v0 12 0 fun r6 =>
          lI w r6 14 (x3 + (1 : Int32)) fun x7 =>
          gR w v0 12 0 fun r8 =>
          lI w r8 14 (x3 + (2 : Int32)) fun x9 =>
          cal (f_X12_groundBy v2 v3 x7 x9 w) fun x11 w10 =>
          gR w10 v0 12 0 fun r12 =>
          lI w10 r12 14 (x3 + (3 : Int32)) fun x13 =>
          if x11 = x13 then
            f_X12_isNoted_78 (f_X12_isNoted_6 n) v0 v1 v2 v3 v5 w10
          else
            f_X12_isNoted_82 (f_X12_isNoted_6 n) v0 v1 v2 v3 v5 w10
        else
          f_X12_isNoted_78 (f_X12_isNoted_6 n) v0 v1 v2 v3 v5 w
def f_X12_isNoted (p0 : Nat) (p1 : Int32) (p2 : Int32) (p3 : Int32) (w : Wd) : Option (Int32 × Wd) :=
  f_X12_isNoted_6 4096 p0 p1 p2 p3 (1 : Int32) (0 : Int32) w
def f_X12_kindsOf_36 (rec4 : Nat → Int32 → Int32 → Int32 → Wd → Option (Int32 × Wd)) (v0 : Nat) (v1 : Int32) (v3 : Int32) (s0 : Int32) (s1 : Int32) (w : Wd) : Option (Int32 × Wd) :=
  nm ((s1 ||| s0)) fun x1 =>
  rec4 v0 v1 x1 ((v3 + (1 : Int32))) w
def f_X12_kindsOf_4 : Nat → Nat → Int32 → Int32 → Int32 → Wd → Option (Int32 × Wd)
  | 0, _, _, _, _, _ => none
  | n + 1, v0, v1, v2, v3, w =>
    if (6 : Int32) ≤ v3 then
      some (v2, w)
    else
      gR w v0 12 0 fun r2 =>
      lI w r2 14 ((26 : Int32) + v1) fun x3 =>
      calV w v0 12 (f_X12_isNoted v0 v1 v3 x3 w) fun x5 w4 =>
      if x5 = 0 then
        f_X12_kindsOf_36 (f_X12_kindsOf_4 n) v0 v1 v3 (0 : Int32) v2 w4
      else
        f_X12_kindsOf_36 (f_X12_kindsOf_4 n) v0 v1 v3 (((1 : Int32) <<< (v3 &&& 31))) v2 w4
def f_X12_kindsOf (p0 : Nat) (p1 : Int32) (w : Wd) : Option (Int32 × Wd) :=
  f_X12_kindsOf_4 4096 p0 p1 (0 : Int32) (0 : Int32) w
def f_X12_is_71 (rec39 : Nat → Int32 → Int32 → Int32 → Wd → Option (Int32 × Wd)) (v0 : Nat) (v1 : Int32) (v4 : Int32) (s0 : Int32) (s1 : Int32) (w : Wd) : Option (Int32 × Wd) :=
  nm ((s1 + s0)) fun x1 =>
  rec39 v0 v1 x1 ((v4 + (1 : Int32))) w
def f_X12_is_39 : Nat → Nat → Int32 → Int32 → Int32 → Wd → Option (Int32 × Wd)
  | 0, _, _, _, _, _ => none
  | n + 1, v0, v1, v3, v4, w =>
    if (10 : Int32) ≤ v4 then
      some (v3, w)
    else
      gR w v0 12 0 fun r2 =>
      lI w r2 14 ((20 : Int32) + v1) fun x3 =>
      calV w v0 12 (f_X12_isNoted v0 v1 x3 v4 w) fun x5 w4 =>
      if x5 = 0 then
        f_X12_is_71 (f_X12_is_39 n) v0 v1 v4 (0 : Int32) v3 w4
      else
        f_X12_is_71 (f_X12_is_39 n) v0 v1 v4 (1 : Int32) v3 w4
def f_X12_is_17 (v0 : Nat) (w : Wd) : Option (Int32 × Wd) :=
  calV w v0 12 (f_X12_refuse v0 (-2 : Int32) w) fun x7 w6 =>
  some (x7, w6)
def f_X12_is (p0 : Nat) (p1 : Int32) (p2 : Int32) (w : Wd) : Option (Int32 × Wd) :=
  calV w p0 12 (f_X12_isGoods p0 p1 w) fun x9 w8 =>
  if x9 = 0 then
    f_X12_is_17 p0 w8
  else
    cal (f_X12_in p2 (0 : Int32) (1 : Int32) w8) fun x11 w10 =>
    if x11 = 0 then
      f_X12_is_17 p0 w10
    else
      if p2 = 0 then
        calV w10 p0 12 (f_X12_kindsOf p0 p1 w10) fun x13 w12 =>
        some (x13, w12)
      else
        f_X12_is_39 4096 p0 p1 (0 : Int32) (1 : Int32) w10
def f_X12_isFigure_29 (s0 : Int32) (w : Wd) : Option (Int32 × Wd) :=
  rZ s0 w
def f_X12_isFigure_28 (w : Wd) : Option (Int32 × Wd) :=
  f_X12_isFigure_29 (0 : Int32) w
def f_X12_isFigure (p0 : Nat) (p1 : Int32) (w : Wd) : Option (Int32 × Wd) :=
  gI w p0 12 6 fun x1 =>
  if x1 ≤ p1 then
    f_X12_isFigure_28  w
  else
    gR w p0 12 5 fun r2 =>
    lI w r2 14 p1 fun x3 =>
    cal (f_X12_in x3 (48 : Int32) (57 : Int32) w) fun x5 w4 =>
    if x5 = 0 then
      f_X12_isFigure_28  w4
    else
      f_X12_isFigure_29 (1 : Int32) w4
def f_X12_isLetter_29 (s0 : Int32) (w : Wd) : Option (Int32 × Wd) :=
  rZ s0 w
def f_X12_isLetter_28 (w : Wd) : Option (Int32 × Wd) :=
  f_X12_isLetter_29 (0 : Int32) w
def f_X12_isLetter (p0 : Nat) (p1 : Int32) (w : Wd) : Option (Int32 × Wd) :=
  gI w p0 12 6 fun x1 =>
  if x1 ≤ p1 then
    f_X12_isLetter_28  w
  else
    gR w p0 12 5 fun r2 =>
    lI w r2 14 p1 fun x3 =>
    cal (f_X12_in x3 (97 : Int32) (122 : Int32) w) fun x5 w4 =>
    if x5 = 0 then
      f_X12_isLetter_28  w4
    else
      f_X12_isLetter_29 (1 : Int32) w4
def f_X12_isWord_87 (v2 : Int32) (w : Wd) : Option (Int32 × Wd) :=
  rZ v2 w
def f_X12_isWord_80 (rec21 : Nat → Int32 → Int32 → Int32 → Wd → Option (Int32 × Wd)) (v0 : Nat) (v1 : Int32) (v3 : Int32) (s0 : Int32) (w : Wd) : Option (Int32 × Wd) :=
  rec21 v0 v1 s0 ((v3 + (1 : Int32))) w
def f_X12_isWord_58 (rec21 : Nat → Int32 → Int32 → Int32 → Wd → Option (Int32 × Wd)) (v0 : Nat) (v1 : Int32) (v3 : Int32) (s0 : Int32) (w : Wd) : Option (Int32 × Wd) :=
  gR w v0 12 7 fun r1 =>
  lI w r1 14 (((5 : Int32) * v1) + v3) fun x2 =>
  if s0 = x2 then
    f_X12_isWord_80 rec21 v0 v1 v3 (1 : Int32) w
  else
    f_X12_isWord_80 rec21 v0 v1 v3 (0 : Int32) w
def f_X12_isWord_21 : Nat → Nat → Int32 → Int32 → Int32 → Wd → Option (Int32 × Wd)
  | 0, _, _, _, _, _ => none
  | n + 1, v0, v1, v2, v3, w =>
    if (5 : Int32) ≤ v3 then
      f_X12_isWord_87 v2 w
    else
      if v2 = 0 then
        f_X12_isWord_87 v2 w
      else
        gI w v0 12 8 fun x3 =>
        gI w v0 12 9 fun x4 =>
        if x4 ≤ (x3 + v3) then
          f_X12_isWord_58 (f_X12_isWord_21 n) v0 v1 v3 (0 : Int32) w
        else
          gR w v0 12 5 fun r5 =>
          gI w v0 12 8 fun x6 =>
          lI w r5 14 (x6 + v3) fun x7 =>
          f_X12_isWord_58 (f_X12_isWord_21 n) v0 v1 v3 x7 w
def f_X12_isWord_18 (v0 : Nat) (v1 : Int32) (s0 : Int32) (w : Wd) : Option (Int32 × Wd) :=
  f_X12_isWord_21 4096 v0 v1 s0 (0 : Int32) w
def f_X12_isWord (p0 : Nat) (p1 : Int32) (w : Wd) : Option (Int32 × Wd) :=
  gI w p0 12 9 fun x8 =>
  gI w p0 12 8 fun x9 =>
  if (5 : Int32) < (x8 - x9) then
    f_X12_isWord_18 p0 p1 (0 : Int32) w
  else
    f_X12_isWord_18 p0 p1 (1 : Int32) w
def f_X12_layFewest_153 (rec51 : Nat → Int32 → Int32 → Wd → Option (Unit × Wd)) (rec72 : Nat → Int32 → Int32 → Int32 → Int32 → Wd → Option (Unit × Wd)) (v0 : Nat) (v1 : Int32) (v2 : Int32) (v3 : Int32) (v4 : Int32) (s0 : Int32) (s1 : Int32) (s2 : Nat) (w : Wd) : Option (Unit × Wd) :=
  aI w s2 14 s1 s0 fun w1 =>
  rec72 v0 v1 v2 v3 ((v4 + (1 : Int32))) w1
def f_X12_layFewest_126 (rec51 : Nat → Int32 → Int32 → Wd → Option (Unit × Wd)) (rec72 : Nat → Int32 → Int32 → Int32 → Int32 → Wd → Option (Unit × Wd)) (v0 : Nat) (v1 : Int32) (v2 : Int32) (v3 : Int32) (v4 : Int32) (v5 : Int32) (s0 : Int32) (w : Wd) : Option (Unit × Wd) :=
  gR w v0 12 16 fun r2 =>
  if v5 ≤ s0 then
    f_X12_layFewest_153 rec51 rec72 v0 v1 v2 v3 v4 v5 ((((61 : Int32) * v2) + v4)) r2 w
  else
    f_X12_layFewest_153 rec51 rec72 v0 v1 v2 v3 v4 s0 ((((61 : Int32) * v2) + v4)) r2 w
def f_X12_layFewest_123 (rec51 : Nat → Int32 → Int32 → Wd → Option (Unit × Wd)) (rec72 : Nat → Int32 → Int32 → Int32 → Int32 → Wd → Option (Unit × Wd)) (v0 : Nat) (v1 : Int32) (v2 : Int32) (v3 : Int32) (v4 : Int32) (v5 : Int32) (w : Wd) : Option (Unit × Wd) :=
  f_X12_layFewest_126 rec51 rec72 v0 v1 v2 v3 v4 v5 (999 : Int32) w
def f_X12_layFewest_72 (rec51 : Nat → Int32 → Int32 → Wd → Option (Unit × Wd)) : Nat → Nat → Int32 → Int32 → Int32 → Int32 → Wd → Option (Unit × Wd)
  | 0, _, _, _, _, _, _ => none
  | n + 1, v0, v1, v2, v3, v4, w =>
    if v1 < v4 then
      rec51 v0 v1 ((v2 + (-1 : Int32))) w
    else
      gR w v0 12 16 fun r3 =>
      lI w r3 14 (((61 : Int32) * (v2 + (1 : Int32))) + v4) fun x4 =>
      if v3 ≤ 0 then
        f_X12_layFewest_123 rec51 (f_X12_layFewest_72 rec51 n) v0 v1 v2 v3 v4 x4 w
      else
        if v4 < v3 then
          f_X12_layFewest_123 rec51 (f_X12_layFewest_72 rec51 n) v0 v1 v2 v3 v4 x4 w
        else
          gR w v0 12 16 fun r5 =>
          lI w r5 14 ((((61 : Int32) * v2) + v4) - v3) fun x6 =>
          f_X12_layFewest_126 rec51 (f_X12_layFewest_72 rec51 n) v0 v1 v2 v3 v4 x4 (((1 : Int32) + x6)) w
def f_X12_layFewest_51 : Nat → Nat → Int32 → Int32 → Wd → Option (Unit × Wd)
  | 0, _, _, _, _ => none
  | n + 1, v0, v1, v2, w =>
    if v2 < 0 then
      some ((), w)
    else
      gR w v0 12 0 fun r7 =>
      lI w r7 14 (16 : Int32) fun x8 =>
      calV w v0 12 (f_X12_ground v0 v2 (0 : Int32) x8 w) fun x10 w9 =>
      f_X12_layFewest_72 (f_X12_layFewest_51 n) 4096 v0 v1 v2 x10 (0 : Int32) w9
def f_X12_layFewest_34 (rec2 : Nat → Int32 → Int32 → Wd → Option (Unit × Wd)) (v0 : Nat) (v1 : Int32) (v2 : Int32) (s0 : Int32) (s1 : Int32) (s2 : Nat) (w : Wd) : Option (Unit × Wd) :=
  aI w s2 14 s1 s0 fun w11 =>
  rec2 v0 v1 ((v2 + (1 : Int32))) w11
def f_X12_layFewest_2 : Nat → Nat → Int32 → Int32 → Wd → Option (Unit × Wd)
  | 0, _, _, _, _ => none
  | n + 1, v0, v1, v2, w =>
    if v1 < v2 then
      gR w v0 12 0 fun r12 =>
      lI w r12 14 (19 : Int32) fun x13 =>
      nm ((x13 - (1 : Int32))) fun x14 =>
      f_X12_layFewest_51 4096 v0 v1 x14 w
    else
      gR w v0 12 16 fun r15 =>
      gR w v0 12 0 fun r16 =>
      lI w r16 14 (19 : Int32) fun x17 =>
      if v2 = 0 then
        f_X12_layFewest_34 (f_X12_layFewest_2 n) v0 v1 v2 (0 : Int32) ((((61 : Int32) * x17) + v2)) r15 w
      else
        f_X12_layFewest_34 (f_X12_layFewest_2 n) v0 v1 v2 (999 : Int32) ((((61 : Int32) * x17) + v2)) r15 w
def f_X12_layFewest (p0 : Nat) (p1 : Int32) (w : Wd) : Option (Unit × Wd) :=
  f_X12_layFewest_2 4096 p0 p1 (0 : Int32) w
def f_X12_just_104 (rec67 : Nat → Int32 → Int32 → Int32 → Int32 → Wd → Option (Int32 × Wd)) : Nat → Nat → Int32 → Int32 → Int32 → Int32 → Int32 → Wd → Option (Int32 × Wd)
  | 0, _, _, _, _, _, _, _ => none
  | n + 1, v0, v2, v3, v4, v5, v6, w =>
    gR w v0 12 16 fun r1 =>
    lI w r1 14 ((((61 : Int32) * (v5 + (1 : Int32))) + v3) - (v4 * v6)) fun x2 =>
    gR w v0 12 16 fun r3 =>
    lI w r3 14 (((61 : Int32) * v5) + v3) fun x4 =>
    if (v4 + x2) = x4 then
      nm ((v3 - (v4 * v6))) fun x5 =>
      rec67 v0 v2 x5 v4 ((v5 + (1 : Int32))) w
    else
      (f_X12_just_104 rec67 n) v0 v2 v3 ((v4 + (-1 : Int32))) v5 v6 w
def f_X12_just_102 (rec67 : Nat → Int32 → Int32 → Int32 → Int32 → Wd → Option (Int32 × Wd)) (v0 : Nat) (v2 : Int32) (v3 : Int32) (v5 : Int32) (v6 : Int32) (s0 : Int32) (w : Wd) : Option (Int32 × Wd) :=
  f_X12_just_104 rec67 4096 v0 v2 v3 s0 v5 v6 w
def f_X12_just_67 : Nat → Nat → Int32 → Int32 → Int32 → Int32 → Wd → Option (Int32 × Wd)
  | 0, _, _, _, _, _, _ => none
  | n + 1, v0, v2, v3, v4, v5, w =>
    if v2 < v5 then
      some (v4, w)
    else
      gR w v0 12 0 fun r6 =>
      lI w r6 14 (16 : Int32) fun x7 =>
      calV w v0 12 (f_X12_ground v0 v5 (0 : Int32) x7 w) fun x9 w8 =>
      if x9 ≤ 0 then
        f_X12_just_102 (f_X12_just_67 n) v0 v2 v3 v5 x9 (0 : Int32) w8
      else
        nz x9 <|
        f_X12_just_102 (f_X12_just_67 n) v0 v2 v3 v5 x9 ((v3 / x9)) w8
def f_X12_just_28 (v0 : Nat) (v1 : Int32) (v2 : Int32) (w : Wd) : Option (Int32 × Wd) :=
  calV w v0 12 (f_X12_layFewest v0 v1 w) fun _ w10 =>
  gR w10 v0 12 16 fun r12 =>
  lI w10 r12 14 v1 fun x13 =>
  if x13 < (999 : Int32) then
    if v2 = (-1 : Int32) then
      gR w10 v0 12 16 fun r14 =>
      lI w10 r14 14 v1 fun x15 =>
      some (x15, w10)
    else
      f_X12_just_67 4096 v0 v2 v1 (0 : Int32) (0 : Int32) w10
  else
    some ((-1 : Int32), w10)
def f_X12_just_23 (v0 : Nat) (w : Wd) : Option (Int32 × Wd) :=
  calV w v0 12 (f_X12_badTen v0 w) fun x17 w16 =>
  some (x17, w16)
def f_X12_just (p0 : Nat) (p1 : Int32) (p2 : Int32) (w : Wd) : Option (Int32 × Wd) :=
  cal (f_X12_in p1 (1 : Int32) (60 : Int32) w) fun x19 w18 =>
  if x19 = 0 then
    f_X12_just_23 p0 w18
  else
    if p2 = (-1 : Int32) then
      f_X12_just_28 p0 p1 p2 w18
    else
      calV w18 p0 12 (f_X12_isGoods p0 p2 w18) fun x21 w20 =>
      if x21 = 0 then
        f_X12_just_23 p0 w20
      else
        f_X12_just_28 p0 p1 p2 w20
def f_X12_layMill_2 : Nat → Nat → Int32 → Int32 → Wd → Option (Unit × Wd)
  | 0, _, _, _, _ => none
  | n + 1, v0, v1, v2, w =>
    if (213 : Int32) ≤ v2 then
      gR w v0 12 0 fun r1 =>
      aI w r1 14 (17 : Int32) v1 fun w2 =>
      gR w2 v0 12 0 fun r3 =>
      aI w2 r3 14 (15 : Int32) (-1 : Int32) fun w4 =>
      some ((), w4)
    else
      gR w v0 12 0 fun r5 =>
      aI w r5 14 v2 (0 : Int32) fun w6 =>
      (f_X12_layMill_2 n) v0 v1 ((v2 + (1 : Int32))) w6
def f_X12_layMill (p0 : Nat) (p1 : Int32) (w : Wd) : Option (Unit × Wd) :=
  f_X12_layMill_2 4096 p0 p1 (0 : Int32) w
def f_X12_layStreet_229 (rec2 : Nat → Int32 → Int32 → Wd → Option (Unit × Wd)) (rec126 : Nat → Int32 → Int32 → Int32 → Int32 → Int32 → Int32 → Int32 → Int32 → Wd → Option (Unit × Wd)) (v0 : Nat) (v1 : Int32) (v2 : Int32) (v3 : Int32) (v4 : Int32) (v5 : Int32) (v6 : Int32) (v8 : Int32) (s0 : Int32) (s1 : Int32) (w : Wd) : Option (Unit × Wd) :=
  nm ((s1 + s0)) fun x1 =>
  rec126 v0 v1 v2 v3 v4 v5 ((v6 + (-1 : Int32))) x1 v8 w
def f_X12_layStreet_185 (rec2 : Nat → Int32 → Int32 → Wd → Option (Unit × Wd)) (rec126 : Nat → Int32 → Int32 → Int32 → Int32 → Int32 → Int32 → Int32 → Int32 → Wd → Option (Unit × Wd)) (v0 : Nat) (v1 : Int32) (v2 : Int32) (v3 : Int32) (v4 : Int32) (v5 : Int32) (v6 : Int32) (v7 : Int32) (v8 : Int32) (w : Wd) : Option (Unit × Wd) :=
  if v6 ≤ 0 then
    rec126 v0 v1 v2 v3 v4 v5 v6 v7 v8 w
  else
    gR w v0 12 20 fun r2 =>
    lI w r2 14 (((6 : Int32) * v3) + v4) fun x3 =>
    calV w v0 12 (f_X12_fetches v0 v4 v8 w) fun x5 w4 =>
    aI w4 r2 14 (((6 : Int32) * v3) + v4) (x3 + x5) fun w6 =>
    if v3 = v4 then
      f_X12_layStreet_229 rec2 rec126 v0 v1 v2 v3 v4 v5 v6 ((v8 + (1 : Int32))) (1 : Int32) v7 w6
    else
      f_X12_layStreet_229 rec2 rec126 v0 v1 v2 v3 v4 v5 v6 ((v8 + (1 : Int32))) (0 : Int32) v7 w6
def f_X12_layStreet_179 (rec2 : Nat → Int32 → Int32 → Wd → Option (Unit × Wd)) (rec126 : Nat → Int32 → Int32 → Int32 → Int32 → Int32 → Int32 → Int32 → Int32 → Wd → Option (Unit × Wd)) (v0 : Nat) (v1 : Int32) (v2 : Int32) (v3 : Int32) (v4 : Int32) (v5 : Int32) (v6 : Int32) (v7 : Int32) (s0 : Int32) (s1 : Int32) (w : Wd) : Option (Unit × Wd) :=
  nm ((s1 + s0)) fun x7 =>
  f_X12_layStreet_185 rec2 rec126 v0 v1 v2 v3 v4 ((v5 + (-1 : Int32))) v6 v7 x7 w
def f_X12_layStreet_136 (rec2 : Nat → Int32 → Int32 → Wd → Option (Unit × Wd)) (rec126 : Nat → Int32 → Int32 → Int32 → Int32 → Int32 → Int32 → Int32 → Int32 → Wd → Option (Unit × Wd)) (v0 : Nat) (v1 : Int32) (v2 : Int32) (v3 : Int32) (v4 : Int32) (v5 : Int32) (v6 : Int32) (v7 : Int32) (v8 : Int32) (w : Wd) : Option (Unit × Wd) :=
  if v5 ≤ 0 then
    f_X12_layStreet_185 rec2 rec126 v0 v1 v2 v3 v4 v5 v6 v7 v8 w
  else
    gR w v0 12 19 fun r8 =>
    lI w r8 14 (((6 : Int32) * v3) + v4) fun x9 =>
    calV w v0 12 (f_X12_fetches v0 v3 v7 w) fun x11 w10 =>
    aI w10 r8 14 (((6 : Int32) * v3) + v4) (x9 + x11) fun w12 =>
    if v3 = v4 then
      f_X12_layStreet_179 rec2 rec126 v0 v1 v2 v3 v4 v5 v6 ((v7 + (1 : Int32))) (1 : Int32) v8 w12
    else
      f_X12_layStreet_179 rec2 rec126 v0 v1 v2 v3 v4 v5 v6 ((v7 + (1 : Int32))) (0 : Int32) v8 w12
def f_X12_layStreet_126 (rec2 : Nat → Int32 → Int32 → Wd → Option (Unit × Wd)) : Nat → Nat → Int32 → Int32 → Int32 → Int32 → Int32 → Int32 → Int32 → Int32 → Wd → Option (Unit × Wd)
  | 0, _, _, _, _, _, _, _, _, _, _ => none
  | n + 1, v0, v1, v2, v3, v4, v5, v6, v7, v8, w =>
    if 0 < v5 then
      f_X12_layStreet_136 rec2 (f_X12_layStreet_126 rec2 n) v0 v1 v2 v3 v4 v5 v6 v7 v8 w
    else
      if v6 ≤ 0 then
        rec2 v0 v1 ((v2 + (1 : Int32))) w
      else
        f_X12_layStreet_136 rec2 (f_X12_layStreet_126 rec2 n) v0 v1 v2 v3 v4 v5 v6 v7 v8 w
def f_X12_layStreet_2 : Nat → Nat → Int32 → Int32 → Wd → Option (Unit × Wd)
  | 0, _, _, _, _ => none
  | n + 1, v0, v1, v2, w =>
    gR w v0 12 0 fun r13 =>
    lI w r13 14 (19 : Int32) fun x14 =>
    gR w v0 12 0 fun r15 =>
    lI w r15 14 (19 : Int32) fun x16 =>
    if (x14 * x16) ≤ v2 then
      some ((), w)
    else
      gR w v0 12 0 fun r17 =>
      lI w r17 14 (19 : Int32) fun x18 =>
      nz x18 <|
      nm ((v2 / x18)) fun x19 =>
      gR w v0 12 0 fun r20 =>
      lI w r20 14 (19 : Int32) fun x21 =>
      nz x21 <|
      nm ((irm v2 x21)) fun x22 =>
      gR w v0 12 0 fun r23 =>
      lI w r23 14 (16 : Int32) fun x24 =>
      calV w v0 12 (f_X12_ground v0 x19 (0 : Int32) x24 w) fun x26 w25 =>
      nm ((v1 * x26)) fun x27 =>
      gR w25 v0 12 0 fun r28 =>
      lI w25 r28 14 (16 : Int32) fun x29 =>
      calV w25 v0 12 (f_X12_ground v0 x22 (0 : Int32) x29 w25) fun x31 w30 =>
      nm ((v1 * x31)) fun x32 =>
      gR w30 v0 12 0 fun r33 =>
      lI w30 r33 14 ((6 : Int32) + x19) fun x34 =>
      gR w30 v0 12 0 fun r35 =>
      lI w30 r35 14 ((6 : Int32) + x22) fun x36 =>
      gR w30 v0 12 19 fun r37 =>
      aI w30 r37 14 (((6 : Int32) * x19) + x22) (0 : Int32) fun w38 =>
      gR w38 v0 12 20 fun r39 =>
      aI w38 r39 14 (((6 : Int32) * x19) + x22) (0 : Int32) fun w40 =>
      f_X12_layStreet_126 (f_X12_layStreet_2 n) 4096 v0 v1 v2 x19 x22 x27 x32 x34 x36 w40
def f_X12_layStreet (p0 : Nat) (p1 : Int32) (w : Wd) : Option (Unit × Wd) :=
  f_X12_layStreet_2 4096 p0 p1 (0 : Int32) w
def f_X12_mostKinds_111 (rec6 : Nat → Int32 → Int32 → Int32 → Int32 → Int32 → Int32 → Wd → Option (Int32 × Wd)) (v0 : Nat) (v1 : Int32) (v2 : Int32) (v3 : Int32) (v4 : Int32) (v6 : Int32) (s0 : Int32) (w : Wd) : Option (Int32 × Wd) :=
  rec6 v0 v1 v2 v3 v4 s0 ((v6 + (1 : Int32))) w
def f_X12_mostKinds_88 (rec6 : Nat → Int32 → Int32 → Int32 → Int32 → Int32 → Int32 → Wd → Option (Int32 × Wd)) (rec19 : Nat → Int32 → Int32 → Int32 → Int32 → Int32 → Int32 → Int32 → Int32 → Wd → Option (Int32 × Wd)) (v0 : Nat) (v1 : Int32) (v2 : Int32) (v3 : Int32) (v4 : Int32) (v5 : Int32) (v6 : Int32) (v8 : Int32) (s0 : Int32) (s1 : Int32) (w : Wd) : Option (Int32 × Wd) :=
  nm ((s1 + s0)) fun x1 =>
  rec19 v0 v1 v2 v3 v4 v5 v6 x1 ((v8 + (1 : Int32))) w
def f_X12_mostKinds_87 (rec6 : Nat → Int32 → Int32 → Int32 → Int32 → Int32 → Int32 → Wd → Option (Int32 × Wd)) (rec19 : Nat → Int32 → Int32 → Int32 → Int32 → Int32 → Int32 → Int32 → Int32 → Wd → Option (Int32 × Wd)) (v0 : Nat) (v1 : Int32) (v2 : Int32) (v3 : Int32) (v4 : Int32) (v5 : Int32) (v6 : Int32) (v8 : Int32) (s0 : Int32) (w : Wd) : Option (Int32 × Wd) :=
  f_X12_mostKinds_88 rec6 rec19 v0 v1 v2 v3 v4 v5 v6 v8 (0 : Int32) s0 w
def f_X12_mostKinds_19 (rec6 : Nat → Int32 → Int32 → Int32 → Int32 → Int32 → Int32 → Wd → Option (Int32 × Wd)) : Nat → Nat → Int32 → Int32 → Int32 → Int32 → Int32 → Int32 → Int32 → Int32 → Wd → Option (Int32 × Wd)
  | 0, _, _, _, _, _, _, _, _, _, _ => none
  | n + 1, v0, v1, v2, v3, v4, v5, v6, v7, v8, w =>
    if (6 : Int32) ≤ v8 then
      if v7 ≤ v5 then
        f_X12_mostKinds_111 rec6 v0 v1 v2 v3 v4 v6 v5 w
      else
        f_X12_mostKinds_111 rec6 v0 v1 v2 v3 v4 v6 v7 w
    else
      cal (f_X12_has v2 v6 w) fun x3 w2 =>
      if x3 = 0 then
        f_X12_mostKinds_87 rec6 (f_X12_mostKinds_19 rec6 n) v0 v1 v2 v3 v4 v5 v6 v8 v7 w2
      else
        cal (f_X12_has v2 v8 w2) fun x5 w4 =>
        if x5 = 0 then
          f_X12_mostKinds_87 rec6 (f_X12_mostKinds_19 rec6 n) v0 v1 v2 v3 v4 v5 v6 v8 v7 w4
        else
          gR w4 v0 12 0 fun r6 =>
          lI w4 r6 14 ((26 : Int32) + v1) fun x7 =>
          cal (f_X12_groundBy v6 x7 v3 v4 w4) fun x9 w8 =>
          gR w8 v0 12 0 fun r10 =>
          lI w8 r10 14 ((26 : Int32) + v1) fun x11 =>
          cal (f_X12_groundBy v8 x11 v3 v4 w8) fun x13 w12 =>
          if x9 = x13 then
            f_X12_mostKinds_88 rec6 (f_X12_mostKinds_19 rec6 n) v0 v1 v2 v3 v4 v5 v6 v8 (1 : Int32) v7 w12
          else
            f_X12_mostKinds_87 rec6 (f_X12_mostKinds_19 rec6 n) v0 v1 v2 v3 v4 v5 v6 v8 v7 w12
def f_X12_mostKinds_6 : Nat → Nat → Int32 → Int32 → Int32 → Int32 → Int32 → Int32 → Wd → Option (Int32 × Wd)
  | 0, _, _, _, _, _, _, _, _ => none
  | n + 1, v0, v1, v2, v3, v4, v5, v6, w =>
    if (6 : Int32) ≤ v6 then
      some (v5, w)
    else
      f_X12_mostKinds_19 (f_X12_mostKinds_6 n) 4096 v0 v1 v2 v3 v4 v5 v6 (0 : Int32) (0 : Int32) w
def f_X12_mostKinds (p0 : Nat) (p1 : Int32) (p2 : Int32) (p3 : Int32) (p4 : Int32) (w : Wd) : Option (Int32 × Wd) :=
  f_X12_mostKinds_6 4096 p0 p1 p2 p3 p4 (0 : Int32) (0 : Int32) w
def f_X12_look_110 (v3 : Int32) (w : Wd) : Option (Int32 × Wd) :=
  some (v3, w)
def f_X12_look_96 (rec30 : Nat → Int32 → Int32 → Int32 → Int32 → Int32 → Wd → Option (Int32 × Wd)) (rec44 : Nat → Int32 → Int32 → Int32 → Int32 → Int32 → Int32 → Wd → Option (Int32 × Wd)) (v0 : Nat) (v1 : Int32) (v2 : Int32) (v3 : Int32) (v5 : Int32) (v6 : Int32) (s0 : Int32) (w : Wd) : Option (Int32 × Wd) :=
  rec44 v0 v1 v2 v3 s0 v5 ((v6 + (1 : Int32))) w
def f_X12_look_81 (rec30 : Nat → Int32 → Int32 → Int32 → Int32 → Int32 → Wd → Option (Int32 × Wd)) (rec44 : Nat → Int32 → Int32 → Int32 → Int32 → Int32 → Int32 → Wd → Option (Int32 × Wd)) (v0 : Nat) (v1 : Int32) (v2 : Int32) (v4 : Int32) (v5 : Int32) (v6 : Int32) (v7 : Int32) (s0 : Int32) (w : Wd) : Option (Int32 × Wd) :=
  if v4 ≤ v7 then
    f_X12_look_96 rec30 rec44 v0 v1 v2 s0 v5 v6 v4 w
  else
    f_X12_look_96 rec30 rec44 v0 v1 v2 s0 v5 v6 v7 w
def f_X12_look_44 (rec30 : Nat → Int32 → Int32 → Int32 → Int32 → Int32 → Wd → Option (Int32 × Wd)) : Nat → Nat → Int32 → Int32 → Int32 → Int32 → Int32 → Int32 → Wd → Option (Int32 × Wd)
  | 0, _, _, _, _, _, _, _, _ => none
  | n + 1, v0, v1, v2, v3, v4, v5, v6, w =>
    if (4 : Int32) ≤ v6 then
      rec30 v0 v1 v2 v3 v4 ((v5 + (1 : Int32))) w
    else
      calV w v0 12 (f_X12_mostKinds v0 v1 v2 v6 v5 w) fun x2 w1 =>
      if v4 ≤ x2 then
        f_X12_look_81 rec30 (f_X12_look_44 rec30 n) v0 v1 v2 v4 v5 v6 x2 v3 w1
      else
        f_X12_look_81 rec30 (f_X12_look_44 rec30 n) v0 v1 v2 v4 v5 v6 x2 ((((10 : Int32) * v5) + v6)) w1
def f_X12_look_30 : Nat → Nat → Int32 → Int32 → Int32 → Int32 → Int32 → Wd → Option (Int32 × Wd)
  | 0, _, _, _, _, _, _, _ => none
  | n + 1, v0, v1, v2, v3, v4, v5, w =>
    if (10 : Int32) ≤ v5 then
      f_X12_look_110 v3 w
    else
      if v2 = 0 then
        f_X12_look_110 v3 w
      else
        f_X12_look_44 (f_X12_look_30 n) 4096 v0 v1 v2 v3 v4 v5 (0 : Int32) w
def f_X12_look (p0 : Nat) (p1 : Int32) (w : Wd) : Option (Int32 × Wd) :=
  calV w p0 12 (f_X12_isGoods p0 p1 w) fun x4 w3 =>
  if x4 = 0 then
    calV w3 p0 12 (f_X12_refuse p0 (-2 : Int32) w3) fun x8 w7 =>
    some (x8, w7)
  else
    calV w3 p0 12 (f_X12_kindsOf p0 p1 w3) fun x6 w5 =>
    f_X12_look_30 4096 p0 p1 x6 (-1 : Int32) (99 : Int32) (0 : Int32) w5
def f_X12_mayBe_55 (rec4 : Nat → Int32 → Int32 → Int32 → Wd → Option (Int32 × Wd)) (v0 : Nat) (v1 : Int32) (v3 : Int32) (s0 : Int32) (w : Wd) : Option (Int32 × Wd) :=
  rec4 v0 v1 s0 ((v3 + (1 : Int32))) w
def f_X12_mayBe_54 (rec4 : Nat → Int32 → Int32 → Int32 → Wd → Option (Int32 × Wd)) (v0 : Nat) (v1 : Int32) (v3 : Int32) (w : Wd) : Option (Int32 × Wd) :=
  f_X12_mayBe_55 rec4 v0 v1 v3 (0 : Int32) w
def f_X12_mayBe_4 : Nat → Nat → Int32 → Int32 → Int32 → Wd → Option (Int32 × Wd)
  | 0, _, _, _, _, _ => none
  | n + 1, v0, v1, v2, v3, w =>
    gR w v0 12 0 fun r1 =>
    lI w r1 14 (38 : Int32) fun x2 =>
    if x2 ≤ v3 then
      rZ v2 w
    else
      if v2 = 0 then
        f_X12_mayBe_54 (f_X12_mayBe_4 n) v0 v1 v3 w
      else
        gR w v0 12 0 fun r3 =>
        lI w r3 14 ((39 : Int32) + ((2 : Int32) * v3)) fun x4 =>
        cal (f_X12_alike v1 x4 w) fun x6 w5 =>
        gR w5 v0 12 0 fun r7 =>
        lI w5 r7 14 (((39 : Int32) + ((2 : Int32) * v3)) + (1 : Int32)) fun x8 =>
        if x6 = x8 then
          f_X12_mayBe_55 (f_X12_mayBe_4 n) v0 v1 v3 (1 : Int32) w5
        else
          f_X12_mayBe_54 (f_X12_mayBe_4 n) v0 v1 v3 w5
def f_X12_mayBe (p0 : Nat) (p1 : Int32) (w : Wd) : Option (Int32 × Wd) :=
  f_X12_mayBe_4 4096 p0 p1 (1 : Int32) (0 : Int32) w
def f_X12_mill (p0 : Nat) (p1 : Int32) (w : Wd) : Option (Int32 × Wd) :=
  cal (f_X12_in p1 (0 : Int32) (200 : Int32) w) fun x2 w1 =>
  if x2 = 0 then
    calV w1 p0 12 (f_X12_refuse p0 (-2 : Int32) w1) fun x8 w7 =>
    some (x8, w7)
  else
    gR w1 p0 12 0 fun r3 =>
    lI w1 r3 14 (19 : Int32) fun x4 =>
    calV w1 p0 12 (f_X12_layMill p0 p1 w1) fun _ w5 =>
    some (x4, w5)
def f_X12_mills_88 (rec37 : Nat → Int32 → Int64 → Int32 → Wd → Option (Int32 × Wd)) (v0 : Nat) (v2 : Int32) (v3 : Int64) (v5 : Int32) (s0 : Int32) (s1 : Int32) (s2 : Nat) (w : Wd) : Option (Int32 × Wd) :=
  calV w s2 12 (f_X12_pass s2 s1 s0 w) fun x2 w1 =>
  rec37 v0 v2 v3 ((v5 + (1 : Int32))) w1
def f_X12_mills_37 : Nat → Nat → Int32 → Int64 → Int32 → Wd → Option (Int32 × Wd)
  | 0, _, _, _, _, _ => none
  | n + 1, v0, v2, v3, v5, w =>
    if v2 ≤ v5 then
      calV w v0 12 (f_X12_inHouse v0 (639 : Int32) w) fun x4 w3 =>
      gR w3 v0 12 0 fun r5 =>
      lI w3 r5 14 (651 : Int32) fun x6 =>
      some ((x4 + x6), w3)
    else
      nm ((lrm ((v3 * (1103515245 : Int64)) + (12345 : Int64)) (2147483648 : Int64))) fun x7 =>
      nm (((lrm (x7 / (65536 : Int64)) (8 : Int64)).toInt32)) fun x8 =>
      calV w v0 12 (f_X12_isGoods v0 x8 w) fun x10 w9 =>
      if x10 = 0 then
        f_X12_mills_88 (f_X12_mills_37 n) v0 v2 x7 v5 (-1 : Int32) (639 : Int32) v0 w9
      else
        f_X12_mills_88 (f_X12_mills_37 n) v0 v2 x7 v5 x8 (639 : Int32) v0 w9
def f_X12_mills_20 (v0 : Nat) (w : Wd) : Option (Int32 × Wd) :=
  calV w v0 12 (f_X12_refuse v0 (-2 : Int32) w) fun x12 w11 =>
  some (x12, w11)
def f_X12_mills (p0 : Nat) (p1 : Int32) (p2 : Int32) (w : Wd) : Option (Int32 × Wd) :=
  cal (f_X12_in p1 (0 : Int32) (999999 : Int32) w) fun x14 w13 =>
  if x14 = 0 then
    f_X12_mills_20 p0 w13
  else
    cal (f_X12_in p2 (0 : Int32) (60 : Int32) w13) fun x16 w15 =>
    if x16 = 0 then
      f_X12_mills_20 p0 w15
    else
      calV w15 p0 12 (f_X12_layTried p0 w15) fun _ w17 =>
      nm ((p1.toInt64)) fun x19 =>
      f_X12_mills_37 4096 p0 p2 x19 (0 : Int32) w17
def f_X12_mostAlike_80 (rec25 : Nat → Int32 → Int32 → Int32 → Wd → Option (Int32 × Wd)) (v0 : Nat) (v1 : Int32) (v2 : Int32) (v3 : Int32) (w : Wd) : Option (Int32 × Wd) :=
  rec25 v0 v1 v2 ((v3 + (1 : Int32))) w
def f_X12_mostAlike_79 (rec25 : Nat → Int32 → Int32 → Int32 → Wd → Option (Int32 × Wd)) (v0 : Nat) (v1 : Int32) (v3 : Int32) (s0 : Int32) (w : Wd) : Option (Int32 × Wd) :=
  f_X12_mostAlike_80 rec25 v0 v1 s0 v3 w
def f_X12_mostAlike_25 : Nat → Nat → Int32 → Int32 → Int32 → Wd → Option (Int32 × Wd)
  | 0, _, _, _, _, _ => none
  | n + 1, v0, v1, v2, v3, w =>
    if (32 : Int32) ≤ v3 then
      some (v2, w)
    else
      calV w v0 12 (f_X12_mayBe v0 v3 w) fun x2 w1 =>
      if x2 = 0 then
        f_X12_mostAlike_80 (f_X12_mostAlike_25 n) v0 v1 v2 v3 w1
      else
        cal (f_X12_alike v1 v3 w1) fun x4 w3 =>
        gR w3 v0 12 18 fun r5 =>
        lI w3 r5 14 x4 fun x6 =>
        aI w3 r5 14 x4 (x6 + (1 : Int32)) fun w7 =>
        gR w7 v0 12 18 fun r8 =>
        lI w7 r8 14 x4 fun x9 =>
        if x9 ≤ v2 then
          f_X12_mostAlike_79 (f_X12_mostAlike_25 n) v0 v1 v3 v2 w7
        else
          gR w7 v0 12 18 fun r10 =>
          lI w7 r10 14 x4 fun x11 =>
          f_X12_mostAlike_79 (f_X12_mostAlike_25 n) v0 v1 v3 x11 w7
def f_X12_mostAlike_4 : Nat → Nat → Int32 → Int32 → Int32 → Wd → Option (Int32 × Wd)
  | 0, _, _, _, _, _ => none
  | n + 1, v0, v1, v2, v3, w =>
    if (6 : Int32) ≤ v3 then
      f_X12_mostAlike_25 4096 v0 v1 v2 (0 : Int32) w
    else
      gR w v0 12 18 fun r12 =>
      aI w r12 14 v3 (0 : Int32) fun w13 =>
      (f_X12_mostAlike_4 n) v0 v1 v2 ((v3 + (1 : Int32))) w13
def f_X12_mostAlike (p0 : Nat) (p1 : Int32) (w : Wd) : Option (Int32 × Wd) :=
  f_X12_mostAlike_4 4096 p0 p1 (0 : Int32) (0 : Int32) w
def f_X12_next_144 (w : Wd) : Option (Unit × Wd) :=
  some ((), w)
def f_X12_next_109 : Nat → Nat → Wd → Option (Unit × Wd)
  | 0, _, _ => none
  | n + 1, v0, w =>
    gI w v0 12 8 fun x1 =>
    calV w v0 12 (f_X12_isFigure v0 x1 w) fun x3 w2 =>
    if x3 = 0 then
      f_X12_next_144  w2
    else
      gI w2 v0 12 9 fun x4 =>
      calV w2 v0 12 (f_X12_isFigure v0 x4 w2) fun x6 w5 =>
      if x6 = 0 then
        f_X12_next_144  w5
      else
        gI w5 v0 12 9 fun x7 =>
        pI w5 v0 12 9 (x7 + (1 : Int32)) fun w8 =>
        (f_X12_next_109 n) v0 w8
def f_X12_next_74 : Nat → Nat → Wd → Option (Unit × Wd)
  | 0, _, _ => none
  | n + 1, v0, w =>
    gI w v0 12 8 fun x9 =>
    calV w v0 12 (f_X12_isLetter v0 x9 w) fun x11 w10 =>
    if x11 = 0 then
      f_X12_next_109 4096 v0 w10
    else
      gI w10 v0 12 9 fun x12 =>
      calV w10 v0 12 (f_X12_isLetter v0 x12 w10) fun x14 w13 =>
      if x14 = 0 then
        f_X12_next_109 4096 v0 w13
      else
        gI w13 v0 12 9 fun x15 =>
        pI w13 v0 12 9 (x15 + (1 : Int32)) fun w16 =>
        (f_X12_next_74 n) v0 w16
def f_X12_next_71 (v0 : Nat) (s0 : Int32) (s1 : Nat) (w : Wd) : Option (Unit × Wd) :=
  pI w s1 12 9 s0 fun w17 =>
  f_X12_next_74 4096 v0 w17
def f_X12_next_46 (v0 : Nat) (w : Wd) : Option (Unit × Wd) :=
  gI w v0 12 8 fun x18 =>
  gI w v0 12 6 fun x19 =>
  if x19 ≤ x18 then
    gI w v0 12 8 fun x20 =>
    f_X12_next_71 v0 x20 v0 w
  else
    gI w v0 12 8 fun x21 =>
    f_X12_next_71 v0 ((x21 + (1 : Int32))) v0 w
def f_X12_next_8 : Nat → Nat → Wd → Option (Unit × Wd)
  | 0, _, _ => none
  | n + 1, v0, w =>
    gI w v0 12 8 fun x22 =>
    gI w v0 12 6 fun x23 =>
    if x23 ≤ x22 then
      f_X12_next_46 v0 w
    else
      gR w v0 12 5 fun r24 =>
      gI w v0 12 8 fun x25 =>
      lI w r24 14 x25 fun x26 =>
      if x26 = (32 : Int32) then
        gI w v0 12 8 fun x27 =>
        pI w v0 12 8 (x27 + (1 : Int32)) fun w28 =>
        (f_X12_next_8 n) v0 w28
      else
        f_X12_next_46 v0 w
def f_X12_next (p0 : Nat) (w : Wd) : Option (Unit × Wd) :=
  gI w p0 12 9 fun x29 =>
  pI w p0 12 8 x29 fun w30 =>
  f_X12_next_8 4096 p0 w30
def f_X12_nextGuess_60 (rec7 : Nat → Int32 → Int32 → Int32 → Wd → Option (Int32 × Wd)) (v0 : Nat) (v1 : Int32) (v3 : Int32) (s0 : Int32) (w : Wd) : Option (Int32 × Wd) :=
  rec7 v0 v1 s0 ((v3 + (1 : Int32))) w
def f_X12_nextGuess_48 (rec7 : Nat → Int32 → Int32 → Int32 → Wd → Option (Int32 × Wd)) (v0 : Nat) (v2 : Int32) (v3 : Int32) (v4 : Int32) (v5 : Int32) (s0 : Int32) (w : Wd) : Option (Int32 × Wd) :=
  if v5 = 0 then
    f_X12_nextGuess_60 rec7 v0 s0 v3 v2 w
  else
    f_X12_nextGuess_60 rec7 v0 s0 v3 v4 w
def f_X12_nextGuess_36 (rec7 : Nat → Int32 → Int32 → Int32 → Wd → Option (Int32 × Wd)) (v0 : Nat) (v1 : Int32) (v2 : Int32) (v3 : Int32) (v4 : Int32) (s0 : Int32) (w : Wd) : Option (Int32 × Wd) :=
  if s0 = 0 then
    f_X12_nextGuess_48 rec7 v0 v2 v3 v4 s0 v1 w
  else
    f_X12_nextGuess_48 rec7 v0 v2 v3 v4 s0 v3 w
def f_X12_nextGuess_35 (rec7 : Nat → Int32 → Int32 → Int32 → Wd → Option (Int32 × Wd)) (v0 : Nat) (v1 : Int32) (v2 : Int32) (v3 : Int32) (v4 : Int32) (w : Wd) : Option (Int32 × Wd) :=
  f_X12_nextGuess_36 rec7 v0 v1 v2 v3 v4 (0 : Int32) w
def f_X12_nextGuess_7 : Nat → Nat → Int32 → Int32 → Int32 → Wd → Option (Int32 × Wd)
  | 0, _, _, _, _, _ => none
  | n + 1, v0, v1, v2, v3, w =>
    if (32 : Int32) ≤ v3 then
      some (v1, w)
    else
      calV w v0 12 (f_X12_mostAlike v0 v3 w) fun x2 w1 =>
      if x2 ≤ 0 then
        f_X12_nextGuess_35 (f_X12_nextGuess_7 n) v0 v1 v2 v3 x2 w1
      else
        if v2 ≤ x2 then
          f_X12_nextGuess_35 (f_X12_nextGuess_7 n) v0 v1 v2 v3 x2 w1
        else
          f_X12_nextGuess_36 (f_X12_nextGuess_7 n) v0 v1 v2 v3 x2 (1 : Int32) w1
def f_X12_nextGuess (p0 : Nat) (w : Wd) : Option (Int32 × Wd) :=
  f_X12_nextGuess_7 4096 p0 (-1 : Int32) (99 : Int32) (0 : Int32) w
def f_X12_note_39 (v0 : Nat) (w : Wd) : Option (Int32 × Wd) :=
  calV w v0 12 (f_X12_refuse v0 (-2 : Int32) w) fun x2 w1 =>
  some (x2, w1)
def f_X12_note (p0 : Nat) (p1 : Int32) (p2 : Int32) (p3 : Int32) (p4 : Int32) (w : Wd) : Option (Int32 × Wd) :=
  calV w p0 12 (f_X12_isGoods p0 p1 w) fun x4 w3 =>
  if x4 = 0 then
    f_X12_note_39 p0 w3
  else
    cal (f_X12_in p2 (0 : Int32) (99 : Int32) w3) fun x6 w5 =>
    if x6 = 0 then
      f_X12_note_39 p0 w5
    else
      cal (f_X12_in p3 (0 : Int32) (9 : Int32) w5) fun x8 w7 =>
      if x8 = 0 then
        f_X12_note_39 p0 w7
      else
        cal (f_X12_in p4 (0 : Int32) (20 : Int32) w7) fun x10 w9 =>
        if x10 = 0 then
          f_X12_note_39 p0 w9
        else
          gR w9 p0 12 0 fun r11 =>
          lI w9 r11 14 (51 : Int32) fun x12 =>
          if x12 = (6 : Int32) then
            calV w9 p0 12 (f_X12_refuse p0 (-4 : Int32) w9) fun x30 w29 =>
            some (x30, w29)
          else
            gR w9 p0 12 0 fun r13 =>
            lI w9 r13 14 (51 : Int32) fun x14 =>
            nm (((52 : Int32) + ((4 : Int32) * x14))) fun x15 =>
            gR w9 p0 12 0 fun r16 =>
            aI w9 r16 14 x15 p1 fun w17 =>
            gR w17 p0 12 0 fun r18 =>
            aI w17 r18 14 (x15 + (1 : Int32)) p2 fun w19 =>
            gR w19 p0 12 0 fun r20 =>
            aI w19 r20 14 (x15 + (2 : Int32)) p3 fun w21 =>
            gR w21 p0 12 0 fun r22 =>
            aI w21 r22 14 (x15 + (3 : Int32)) p4 fun w23 =>
            gR w23 p0 12 0 fun r24 =>
            lI w23 r24 14 (51 : Int32) fun x25 =>
            aI w23 r24 14 (51 : Int32) (x25 + (1 : Int32)) fun w26 =>
            gR w26 p0 12 0 fun r27 =>
            lI w26 r27 14 (51 : Int32) fun x28 =>
            some (x28, w26)
def f_X12_number_94 (s0 : Int32) (w : Wd) : Option (Int32 × Wd) :=
  some (s0, w)
def f_X12_number_79 (v1 : Int32) (v2 : Int32) (s0 : Int32) (w : Wd) : Option (Int32 × Wd) :=
  cal (f_X12_in s0 v1 v2 w) fun x2 w1 =>
  if x2 = 0 then
    f_X12_number_94 (-1 : Int32) w1
  else
    f_X12_number_94 s0 w1
def f_X12_number_28 (w : Wd) : Option (Int32 × Wd) :=
  some ((-1 : Int32), w)
def f_X12_number (p0 : Nat) (p1 : Int32) (p2 : Int32) (w : Wd) : Option (Int32 × Wd) :=
  calV w p0 12 (f_X12_next p0 w) fun _ w3 =>
  gI w3 p0 12 8 fun x5 =>
  calV w3 p0 12 (f_X12_isFigure p0 x5 w3) fun x7 w6 =>
  if x7 = 0 then
    f_X12_number_28  w6
  else
    gI w6 p0 12 9 fun x8 =>
    gI w6 p0 12 8 fun x9 =>
    if (x8 - x9) ≤ (2 : Int32) then
      gR w6 p0 12 5 fun r10 =>
      gI w6 p0 12 8 fun x11 =>
      lI w6 r10 14 x11 fun x12 =>
      nm ((x12 - (48 : Int32))) fun x13 =>
      gI w6 p0 12 9 fun x14 =>
      gI w6 p0 12 8 fun x15 =>
      if (x14 - x15) = (2 : Int32) then
        gR w6 p0 12 5 fun r16 =>
        gI w6 p0 12 8 fun x17 =>
        lI w6 r16 14 (x17 + (1 : Int32)) fun x18 =>
        f_X12_number_79 p1 p2 (((((10 : Int32) * x13) + x18) - (48 : Int32))) w6
      else
        f_X12_number_79 p1 p2 x13 w6
    else
      f_X12_number_28  w6
def f_X12_of_18 (v0 : Nat) (w : Wd) : Option (Int32 × Wd) :=
  calV w v0 12 (f_X12_refuse v0 (-2 : Int32) w) fun x2 w1 =>
  some (x2, w1)
def f_X12_of (p0 : Nat) (p1 : Int32) (p2 : Int32) (w : Wd) : Option (Int32 × Wd) :=
  calV w p0 12 (f_X12_isGoods p0 p1 w) fun x4 w3 =>
  if x4 = 0 then
    f_X12_of_18 p0 w3
  else
    cal (f_X12_in p2 (0 : Int32) (6 : Int32) w3) fun x6 w5 =>
    if x6 = 0 then
      f_X12_of_18 p0 w5
    else
      if p2 = (0 : Int32) then
        gR w5 p0 12 0 fun r7 =>
        lI w5 r7 14 ((20 : Int32) + p1) fun x8 =>
        some (x8, w5)
      else
        if p2 = (1 : Int32) then
          gR w5 p0 12 0 fun r9 =>
          lI w5 r9 14 ((26 : Int32) + p1) fun x10 =>
          some (x10, w5)
        else
          if p2 = (2 : Int32) then
            gR w5 p0 12 0 fun r11 =>
            lI w5 r11 14 ((32 : Int32) + p1) fun x12 =>
            some (x12, w5)
          else
            if p2 = (3 : Int32) then
              gR w5 p0 12 0 fun r13 =>
              lI w5 r13 14 ((0 : Int32) + p1) fun x14 =>
              some (x14, w5)
            else
              if p2 = (4 : Int32) then
                gR w5 p0 12 0 fun r15 =>
                lI w5 r15 14 ((6 : Int32) + p1) fun x16 =>
                some (x16, w5)
              else
                if p2 = (5 : Int32) then
                  gR w5 p0 12 0 fun r17 =>
                  lI w5 r17 14 (14 : Int32) fun x18 =>
                  gR w5 p0 12 0 fun r19 =>
                  lI w5 r19 14 (16 : Int32) fun x20 =>
                  calV w5 p0 12 (f_X12_ground p0 p1 x18 x20 w5) fun x22 w21 =>
                  some (x22, w21)
                else
                  gR w5 p0 12 0 fun r23 =>
                  lI w5 r23 14 ((6 : Int32) + p1) fun x24 =>
                  calV w5 p0 12 (f_X12_fetches p0 p1 x24 w5) fun x26 w25 =>
                  some (x26, w25)
def f_X12_part_30 (s0 : Int64) (w : Wd) : Option (Int64 × Wd) :=
  some (s0, w)
def f_X12_part (p0 : Nat) (p1 : Int32) (w : Wd) : Option (Int64 × Wd) :=
  if p1 = 0 then
    gL w p0 12 3 fun x4 =>
    f_X12_part_30 x4 w
  else
    if p1 = (1 : Int32) then
      gL w p0 12 4 fun x3 =>
      f_X12_part_30 x3 w
    else
      calV w p0 12 (f_X12_refuse p0 (-2 : Int32) w) fun x2 w1 =>
      f_X12_part_30 ((x2.toInt64)) w1
def f_X12_readsGoods_51 (v0 : Nat) (v1 : Int32) (v2 : Int32) (s0 : Int32) (w : Wd) : Option (Int32 × Wd) :=
  if s0 = (-1 : Int32) then
    rZ (0 : Int32) w
  else
    gR w v0 12 14 fun r1 =>
    gI w v0 12 15 fun x2 =>
    aI w r1 14 ((3 : Int32) * x2) v1 fun w3 =>
    gR w3 v0 12 14 fun r4 =>
    gI w3 v0 12 15 fun x5 =>
    aI w3 r4 14 (((3 : Int32) * x5) + (1 : Int32)) v2 fun w6 =>
    gR w6 v0 12 14 fun r7 =>
    gI w6 v0 12 15 fun x8 =>
    aI w6 r7 14 (((3 : Int32) * x8) + (2 : Int32)) s0 fun w9 =>
    gI w9 v0 12 15 fun x10 =>
    pI w9 v0 12 15 (x10 + (1 : Int32)) fun w11 =>
    rZ (1 : Int32) w11
def f_X12_readsGoods_34 (v0 : Nat) (v1 : Int32) (s0 : Int32) (w : Wd) : Option (Int32 × Wd) :=
  if s0 = (-1 : Int32) then
    f_X12_readsGoods_51 v0 v1 s0 (-1 : Int32) w
  else
    calV w v0 12 (f_X12_number v0 (0 : Int32) (40 : Int32) w) fun x13 w12 =>
    f_X12_readsGoods_51 v0 v1 s0 x13 w12
def f_X12_readsGoods (p0 : Nat) (w : Wd) : Option (Int32 × Wd) :=
  gI w p0 12 15 fun x14 =>
  if x14 = (6 : Int32) then
    rZ (0 : Int32) w
  else
    calV w p0 12 (f_X12_number p0 (0 : Int32) (5 : Int32) w) fun x16 w15 =>
    if x16 = (-1 : Int32) then
      f_X12_readsGoods_34 p0 x16 (-1 : Int32) w15
    else
      calV w15 p0 12 (f_X12_number p0 (1 : Int32) (9 : Int32) w15) fun x18 w17 =>
      f_X12_readsGoods_34 p0 x16 x18 w17
def f_X12_readsItem_139 (s0 : Int32) (w : Wd) : Option (Int32 × Wd) :=
  rZ s0 w
def f_X12_readsItem_114 (s0 : Int32) (w : Wd) : Option (Int32 × Wd) :=
  rZ s0 w
def f_X12_readsItem_89 (s0 : Int32) (w : Wd) : Option (Int32 × Wd) :=
  rZ s0 w
def f_X12_readsItem_56 (s0 : Int32) (w : Wd) : Option (Int32 × Wd) :=
  rZ s0 w
def f_X12_readsItem (p0 : Nat) (p1 : Int32) (w : Wd) : Option (Int32 × Wd) :=
  if p1 = (0 : Int32) then
    calV w p0 12 (f_X12_number p0 (0 : Int32) (99 : Int32) w) fun x2 w1 =>
    pI w1 p0 12 10 x2 fun w3 =>
    gI w3 p0 12 10 fun x4 =>
    if x4 = (-1 : Int32) then
      f_X12_readsItem_56 (0 : Int32) w3
    else
      f_X12_readsItem_56 (1 : Int32) w3
  else
    if p1 = (1 : Int32) then
      calV w p0 12 (f_X12_readsGoods p0 w) fun x6 w5 =>
      rZ x6 w5
    else
      if p1 = (2 : Int32) then
        gI w p0 12 15 fun x7 =>
        calV w p0 12 (f_X12_number p0 (0 : Int32) (x7 - (1 : Int32)) w) fun x9 w8 =>
        pI w8 p0 12 13 x9 fun w10 =>
        if x9 = (-1 : Int32) then
          f_X12_readsItem_89 (0 : Int32) w10
        else
          f_X12_readsItem_89 (1 : Int32) w10
      else
        if p1 = (3 : Int32) then
          calV w p0 12 (f_X12_number p0 (0 : Int32) (31 : Int32) w) fun x12 w11 =>
          pI w11 p0 12 11 x12 fun w13 =>
          gI w13 p0 12 11 fun x14 =>
          if x14 = (-1 : Int32) then
            f_X12_readsItem_114 (0 : Int32) w13
          else
            f_X12_readsItem_114 (1 : Int32) w13
        else
          calV w p0 12 (f_X12_number p0 (0 : Int32) (9 : Int32) w) fun x16 w15 =>
          pI w15 p0 12 12 x16 fun w17 =>
          gI w17 p0 12 12 fun x18 =>
          if x18 = (-1 : Int32) then
            f_X12_readsItem_139 (0 : Int32) w17
          else
            f_X12_readsItem_139 (1 : Int32) w17
def f_X12_wordHere_28 (rec2 : Nat → Int32 → Wd → Option (Int32 × Wd)) (v0 : Nat) (v1 : Int32) (w : Wd) : Option (Int32 × Wd) :=
  rec2 v0 ((v1 + (1 : Int32))) w
def f_X12_wordHere_2 : Nat → Nat → Int32 → Wd → Option (Int32 × Wd)
  | 0, _, _, _ => none
  | n + 1, v0, v1, w =>
    if (5 : Int32) ≤ v1 then
      some ((-1 : Int32), w)
    else
      gI w v0 12 8 fun x1 =>
      calV w v0 12 (f_X12_isLetter v0 x1 w) fun x3 w2 =>
      if x3 = 0 then
        f_X12_wordHere_28 (f_X12_wordHere_2 n) v0 v1 w2
      else
        calV w2 v0 12 (f_X12_isWord v0 v1 w2) fun x5 w4 =>
        if x5 = 0 then
          f_X12_wordHere_28 (f_X12_wordHere_2 n) v0 v1 w4
        else
          some (v1, w4)
def f_X12_wordHere (p0 : Nat) (w : Wd) : Option (Int32 × Wd) :=
  f_X12_wordHere_2 4096 p0 (0 : Int32) w
def f_X12_readItems_116 (w : Wd) : Option (Int32 × Wd) :=
  some ((-1 : Int32), w)
def f_X12_readItems_85 (w : Wd) : Option (Int32 × Wd) :=
  some ((-1 : Int32), w)
def f_X12_readItems_74 (rec31 : Nat → Int32 → Wd → Option (Int32 × Wd)) (v0 : Nat) (v1 : Int32) (v2 : Int32) (s0 : Int32) (s1 : Int32) (w : Wd) : Option (Int32 × Wd) :=
  if s1 = s0 then
    calV w v0 12 (f_X12_readsItem v0 v2 w) fun x2 w1 =>
    if x2 = 0 then
      f_X12_readItems_85  w1
    else
      calV w1 v0 12 (f_X12_next v0 w1) fun _ w3 =>
      gI w3 v0 12 8 fun x5 =>
      gI w3 v0 12 6 fun x6 =>
      if x5 = x6 then
        f_X12_readItems_116  w3
      else
        gR w3 v0 12 5 fun r7 =>
        gI w3 v0 12 8 fun x8 =>
        lI w3 r7 14 x8 fun x9 =>
        if x9 = (59 : Int32) then
          calV w3 v0 12 (f_X12_next v0 w3) fun _ w10 =>
          rec31 v0 ((v1 + (1 : Int32))) w10
        else
          f_X12_readItems_116  w3
  else
    f_X12_readItems_85  w
def f_X12_readItems_65 (rec31 : Nat → Int32 → Wd → Option (Int32 × Wd)) (v0 : Nat) (v1 : Int32) (v2 : Int32) (s0 : Int32) (w : Wd) : Option (Int32 × Wd) :=
  if v1 = 0 then
    f_X12_readItems_74 rec31 v0 v1 v2 (1 : Int32) s0 w
  else
    f_X12_readItems_74 rec31 v0 v1 v2 (0 : Int32) s0 w
def f_X12_readItems_46 (rec31 : Nat → Int32 → Wd → Option (Int32 × Wd)) (v0 : Nat) (v1 : Int32) (w : Wd) : Option (Int32 × Wd) :=
  calV w v0 12 (f_X12_wordHere v0 w) fun x13 w12 =>
  if x13 = (-1 : Int32) then
    f_X12_readItems_85  w12
  else
    if x13 = 0 then
      f_X12_readItems_65 rec31 v0 v1 x13 (1 : Int32) w12
    else
      f_X12_readItems_65 rec31 v0 v1 x13 (0 : Int32) w12
def f_X12_readItems_31 : Nat → Nat → Int32 → Wd → Option (Int32 × Wd)
  | 0, _, _, _ => none
  | n + 1, v0, v1, w =>
    if v1 = 0 then
      f_X12_readItems_46 (f_X12_readItems_31 n) v0 v1 w
    else
      gI w v0 12 8 fun x14 =>
      gI w v0 12 6 fun x15 =>
      if x15 ≤ x14 then
        some (v1, w)
      else
        f_X12_readItems_46 (f_X12_readItems_31 n) v0 v1 w
def f_X12_readItems (p0 : Nat) (w : Wd) : Option (Int32 × Wd) :=
  pI w p0 12 9 (0 : Int32) fun w16 =>
  pI w16 p0 12 15 (0 : Int32) fun w17 =>
  pI w17 p0 12 11 (0 : Int32) fun w18 =>
  pI w18 p0 12 12 (0 : Int32) fun w19 =>
  pI w19 p0 12 13 (-1 : Int32) fun w20 =>
  calV w20 p0 12 (f_X12_next p0 w20) fun _ w21 =>
  f_X12_readItems_31 4096 p0 (0 : Int32) w21
def f_X12_read_28 : Nat → Nat → Int32 → Int32 → Wd → Option (Int32 × Wd)
  | 0, _, _, _, _ => none
  | n + 1, v0, v1, v2, w =>
    gI w v0 12 15 fun x1 =>
    if x1 ≤ v2 then
      gR w v0 12 0 fun r2 =>
      gI w v0 12 11 fun x3 =>
      aI w r2 14 (18 : Int32) x3 fun w4 =>
      gR w4 v0 12 0 fun r5 =>
      gI w4 v0 12 12 fun x6 =>
      aI w4 r5 14 (16 : Int32) x6 fun w7 =>
      gR w7 v0 12 0 fun r8 =>
      gI w7 v0 12 13 fun x9 =>
      aI w7 r8 14 (15 : Int32) x9 fun w10 =>
      some (v1, w10)
    else
      gR w v0 12 14 fun r11 =>
      lI w r11 14 ((3 : Int32) * v2) fun x12 =>
      gR w v0 12 14 fun r13 =>
      lI w r13 14 (((3 : Int32) * v2) + (1 : Int32)) fun x14 =>
      gR w v0 12 14 fun r15 =>
      lI w r15 14 (((3 : Int32) * v2) + (2 : Int32)) fun x16 =>
      calV w v0 12 (f_X12_addGoods v0 x12 x14 x16 w) fun _ w17 =>
      (f_X12_read_28 n) v0 v1 ((v2 + (1 : Int32))) w17
def f_X12_read (p0 : Nat) (w : Wd) : Option (Int32 × Wd) :=
  calV w p0 12 (f_X12_readItems p0 w) fun x20 w19 =>
  if x20 = (-1 : Int32) then
    gI w19 p0 12 8 fun x24 =>
    some (((-10 : Int32) - x24), w19)
  else
    gI w19 p0 12 10 fun x21 =>
    calV w19 p0 12 (f_X12_layMill p0 x21 w19) fun _ w22 =>
    f_X12_read_28 4096 p0 x20 (0 : Int32) w22
def f_X12_rests_78 (rec5 : Nat → Int32 → Int32 → Int32 → Int32 → Wd → Option (Int32 × Wd)) (v0 : Nat) (v1 : Int32) (v2 : Int32) (v4 : Int32) (s0 : Int32) (w : Wd) : Option (Int32 × Wd) :=
  rec5 v0 v1 v2 s0 ((v4 + (1 : Int32))) w
def f_X12_rests_77 (rec5 : Nat → Int32 → Int32 → Int32 → Int32 → Wd → Option (Int32 × Wd)) (v0 : Nat) (v1 : Int32) (v2 : Int32) (v4 : Int32) (w : Wd) : Option (Int32 × Wd) :=
  f_X12_rests_78 rec5 v0 v1 v2 v4 (0 : Int32) w
def f_X12_rests_5 : Nat → Nat → Int32 → Int32 → Int32 → Int32 → Wd → Option (Int32 × Wd)
  | 0, _, _, _, _, _, _ => none
  | n + 1, v0, v1, v2, v3, v4, w =>
    gR w v0 12 0 fun r1 =>
    lI w r1 14 (19 : Int32) fun x2 =>
    if x2 ≤ v4 then
      rZ v3 w
    else
      if v3 = 0 then
        f_X12_rests_77 (f_X12_rests_5 n) v0 v1 v2 v4 w
      else
        gR w v0 12 19 fun r3 =>
        lI w r3 14 (((6 : Int32) * v4) + v2) fun x4 =>
        gR w v0 12 19 fun r5 =>
        lI w r5 14 (((6 : Int32) * v1) + v2) fun x6 =>
        if x6 < x4 then
          f_X12_rests_77 (f_X12_rests_5 n) v0 v1 v2 v4 w
        else
          gR w v0 12 20 fun r7 =>
          lI w r7 14 (((6 : Int32) * v1) + v4) fun x8 =>
          gR w v0 12 20 fun r9 =>
          lI w r9 14 (((6 : Int32) * v1) + v2) fun x10 =>
          if x10 < x8 then
            f_X12_rests_77 (f_X12_rests_5 n) v0 v1 v2 v4 w
          else
            f_X12_rests_78 (f_X12_rests_5 n) v0 v1 v2 v4 (1 : Int32) w
def f_X12_rests (p0 : Nat) (p1 : Int32) (p2 : Int32) (w : Wd) : Option (Int32 × Wd) :=
  f_X12_rests_5 4096 p0 p1 p2 (1 : Int32) (0 : Int32) w
def f_X12_say_55 (v2 : Int32) (s0 : Int32) (s1 : Int32) (s2 : Nat) (w : Wd) : Option (Int32 × Wd) :=
  aI w s2 14 s1 s0 fun w1 =>
  some (v2, w1)
def f_X12_say (p0 : Nat) (p1 : Int32) (w : Wd) : Option (Int32 × Wd) :=
  cal (f_X12_in p1 (0 : Int32) (31 : Int32) w) fun x3 w2 =>
  if x3 = 0 then
    calV w2 p0 12 (f_X12_refuse p0 (-2 : Int32) w2) fun x14 w13 =>
    some (x14, w13)
  else
    calV w2 p0 12 (f_X12_keepPast p0 w2) fun _ w4 =>
    gR w4 p0 12 0 fun r6 =>
    lI w4 r6 14 (18 : Int32) fun x7 =>
    cal (f_X12_alike p1 x7 w4) fun x9 w8 =>
    gR w8 p0 12 0 fun r10 =>
    if x9 = (5 : Int32) then
      f_X12_say_55 x9 (-1 : Int32) (15 : Int32) r10 w8
    else
      gR w8 p0 12 0 fun r11 =>
      lI w8 r11 14 (15 : Int32) fun x12 =>
      f_X12_say_55 x9 x12 (15 : Int32) r10 w8
def f_X12_sell_54 : Nat → Nat → Int32 → Int32 → Int32 → Int32 → Wd → Option (Int32 × Wd)
  | 0, _, _, _, _, _, _ => none
  | n + 1, v0, v1, v2, v3, v4, w =>
    if v2 ≤ v4 then
      gR w v0 12 0 fun r1 =>
      lI w r1 14 ((0 : Int32) + v1) fun x2 =>
      aI w r1 14 ((0 : Int32) + v1) (x2 - v2) fun w3 =>
      gR w3 v0 12 0 fun r4 =>
      lI w3 r4 14 (13 : Int32) fun x5 =>
      aI w3 r4 14 (13 : Int32) (x5 + v3) fun w6 =>
      some (v3, w6)
    else
      gR w v0 12 0 fun r7 =>
      lI w r7 14 ((6 : Int32) + v1) fun x8 =>
      calV w v0 12 (f_X12_fetches v0 v1 x8 w) fun x10 w9 =>
      nm ((v3 + x10)) fun x11 =>
      gR w9 v0 12 0 fun r12 =>
      lI w9 r12 14 ((6 : Int32) + v1) fun x13 =>
      aI w9 r12 14 ((6 : Int32) + v1) (x13 + (1 : Int32)) fun w14 =>
      (f_X12_sell_54 n) v0 v1 v2 x11 ((v4 + (1 : Int32))) w14
def f_X12_sell_19 (v0 : Nat) (w : Wd) : Option (Int32 × Wd) :=
  calV w v0 12 (f_X12_refuse v0 (-2 : Int32) w) fun x16 w15 =>
  some (x16, w15)
def f_X12_sell (p0 : Nat) (p1 : Int32) (p2 : Int32) (w : Wd) : Option (Int32 × Wd) :=
  calV w p0 12 (f_X12_isGoods p0 p1 w) fun x18 w17 =>
  if x18 = 0 then
    f_X12_sell_19 p0 w17
  else
    cal (f_X12_in p2 (1 : Int32) (200 : Int32) w17) fun x20 w19 =>
    if x20 = 0 then
      f_X12_sell_19 p0 w19
    else
      gR w19 p0 12 0 fun r21 =>
      lI w19 r21 14 ((0 : Int32) + p1) fun x22 =>
      if p2 ≤ x22 then
        calV w19 p0 12 (f_X12_keepPast p0 w19) fun _ w23 =>
        f_X12_sell_54 4096 p0 p1 p2 (0 : Int32) (0 : Int32) w23
      else
        calV w19 p0 12 (f_X12_refuse p0 (-3 : Int32) w19) fun x26 w25 =>
        some (x26, w25)
def f_X12_ship_31 : Nat → Nat → Int32 → Int32 → Int32 → Int32 → Wd → Option (Int32 × Wd)
  | 0, _, _, _, _, _, _ => none
  | n + 1, v0, v1, v2, v3, v4, w =>
    if (60 : Int32) ≤ v4 then
      some ((-1 : Int32), w)
    else
      gR w v0 12 0 fun r1 =>
      lI w r1 14 (14 : Int32) fun x2 =>
      gR w v0 12 0 fun r3 =>
      lI w r3 14 (16 : Int32) fun x4 =>
      calV w v0 12 (f_X12_ground v0 v1 (x2 + v4) x4 w) fun x6 w5 =>
      nm ((v3 + x6)) fun x7 =>
      if x7 ≤ v2 then
        (f_X12_ship_31 n) v0 v1 v2 x7 ((v4 + (1 : Int32))) w5
      else
        some ((v4 + (1 : Int32)), w5)
def f_X12_ship_19 (v0 : Nat) (w : Wd) : Option (Int32 × Wd) :=
  calV w v0 12 (f_X12_refuse v0 (-2 : Int32) w) fun x9 w8 =>
  some (x9, w8)
def f_X12_ship (p0 : Nat) (p1 : Int32) (p2 : Int32) (w : Wd) : Option (Int32 × Wd) :=
  calV w p0 12 (f_X12_isGoods p0 p1 w) fun x11 w10 =>
  if x11 = 0 then
    f_X12_ship_19 p0 w10
  else
    cal (f_X12_in p2 (0 : Int32) (300 : Int32) w10) fun x13 w12 =>
    if x13 = 0 then
      f_X12_ship_19 p0 w12
    else
      f_X12_ship_31 4096 p0 p1 p2 (0 : Int32) (0 : Int32) w12
def f_X12_status (p0 : Nat) (p1 : Int32) (w : Wd) : Option (Int32 × Wd) :=
  cal (f_X12_in p1 (0 : Int32) (2 : Int32) w) fun x2 w1 =>
  if x2 = 0 then
    calV w1 p0 12 (f_X12_refuse p0 (-2 : Int32) w1) fun x6 w5 =>
    some ((-1 : Int32), w5)
  else
    gR w1 p0 12 2 fun r3 =>
    lI w1 r3 14 p1 fun x4 =>
    some (x4, w1)
def f_X12_street_108 (s0 : Int32) (w : Wd) : Option (Int32 × Wd) :=
  some (s0, w)
def f_X12_street_85 (rec30 : Nat → Int32 → Int32 → Int32 → Wd → Option (Int32 × Wd)) (rec45 : Nat → Int32 → Int32 → Int32 → Int32 → Wd → Option (Int32 × Wd)) (v0 : Nat) (v2 : Int32) (v3 : Int32) (v4 : Int32) (v5 : Int32) (w : Wd) : Option (Int32 × Wd) :=
  rec45 v0 v2 v3 v4 ((v5 + (1 : Int32))) w
def f_X12_street_45 (rec30 : Nat → Int32 → Int32 → Int32 → Wd → Option (Int32 × Wd)) : Nat → Nat → Int32 → Int32 → Int32 → Int32 → Wd → Option (Int32 × Wd)
  | 0, _, _, _, _, _, _ => none
  | n + 1, v0, v2, v3, v4, v5, w =>
    gR w v0 12 0 fun r1 =>
    lI w r1 14 (19 : Int32) fun x2 =>
    if x2 ≤ v5 then
      rec30 v0 v2 v3 ((v4 + (1 : Int32))) w
    else
      calV w v0 12 (f_X12_rests v0 v4 v5 w) fun x4 w3 =>
      if x4 = 0 then
        f_X12_street_85 rec30 (f_X12_street_45 rec30 n) v0 v2 v3 v4 v5 w3
      else
        if v3 = v2 then
          some ((((6 : Int32) * v4) + v5), w3)
        else
          f_X12_street_85 rec30 (f_X12_street_45 rec30 n) v0 v2 ((v3 + (1 : Int32))) v4 v5 w3
def f_X12_street_30 : Nat → Nat → Int32 → Int32 → Int32 → Wd → Option (Int32 × Wd)
  | 0, _, _, _, _, _ => none
  | n + 1, v0, v2, v3, v4, w =>
    gR w v0 12 0 fun r5 =>
    lI w r5 14 (19 : Int32) fun x6 =>
    if x6 ≤ v4 then
      if v2 = (-1 : Int32) then
        f_X12_street_108 v3 w
      else
        f_X12_street_108 (-5 : Int32) w
    else
      f_X12_street_45 (f_X12_street_30 n) 4096 v0 v2 v3 v4 (0 : Int32) w
def f_X12_street_15 (v0 : Nat) (w : Wd) : Option (Int32 × Wd) :=
  calV w v0 12 (f_X12_badTen v0 w) fun x8 w7 =>
  some (x8, w7)
def f_X12_street (p0 : Nat) (p1 : Int32) (p2 : Int32) (w : Wd) : Option (Int32 × Wd) :=
  cal (f_X12_in p1 (1 : Int32) (9 : Int32) w) fun x10 w9 =>
  if x10 = 0 then
    f_X12_street_15 p0 w9
  else
    if (-1 : Int32) ≤ p2 then
      calV w9 p0 12 (f_X12_layStreet p0 p1 w9) fun _ w11 =>
      f_X12_street_30 4096 p0 p2 (0 : Int32) (0 : Int32) w11
    else
      f_X12_street_15 p0 w9
def f_X12_tellPart_6 : Nat → Nat → Int64 → Int64 → Int64 → Int64 → Wd → Option (Unit × Wd)
  | 0, _, _, _, _, _, _ => none
  | n + 1, v0, v1, v3, v5, v7, w =>
    if (lg_cmp v7 (0 : Int64)) = 0 then
      nzL v5 <|
      pL w v0 12 3 (v1 / v5) fun w1 =>
      nzL v5 <|
      pL w1 v0 12 4 (v3 / v5) fun w2 =>
      some ((), w2)
    else
      nzL v7 <|
      nm ((lrm v5 v7)) fun x3 =>
      (f_X12_tellPart_6 n) v0 v1 v3 v7 x3 w
def f_X12_tellPart (p0 : Nat) (p1 : Int64) (p3 : Int64) (w : Wd) : Option (Unit × Wd) :=
  f_X12_tellPart_6 4096 p0 p1 p3 p1 p3 w
def f_X12_then_80 (s0 : Int32) (w : Wd) : Option (Int32 × Wd) :=
  some (s0, w)
def f_X12_then_32 : Nat → Nat → Int32 → Int32 → Int32 → Wd → Option (Int32 × Wd)
  | 0, _, _, _, _, _ => none
  | n + 1, v0, v1, v2, v3, w =>
    if v1 ≤ v3 then
      if v2 = 0 then
        calV w v0 12 (f_X12_inHouse v0 (639 : Int32) w) fun x4 w3 =>
        f_X12_then_80 x4 w3
      else
        gR w v0 12 0 fun r1 =>
        lI w r1 14 (651 : Int32) fun x2 =>
        f_X12_then_80 x2 w
    else
      gR w v0 12 0 fun r5 =>
      lI w r5 14 (15 : Int32) fun x6 =>
      calV w v0 12 (f_X12_pass v0 (639 : Int32) x6 w) fun x8 w7 =>
      (f_X12_then_32 n) v0 v1 v2 ((v3 + (1 : Int32))) w7
def f_X12_then_19 (v0 : Nat) (w : Wd) : Option (Int32 × Wd) :=
  calV w v0 12 (f_X12_refuse v0 (-2 : Int32) w) fun x10 w9 =>
  some (x10, w9)
def f_X12_then (p0 : Nat) (p1 : Int32) (p2 : Int32) (w : Wd) : Option (Int32 × Wd) :=
  cal (f_X12_in p1 (0 : Int32) (60 : Int32) w) fun x12 w11 =>
  if x12 = 0 then
    f_X12_then_19 p0 w11
  else
    cal (f_X12_in p2 (0 : Int32) (1 : Int32) w11) fun x14 w13 =>
    if x14 = 0 then
      f_X12_then_19 p0 w13
    else
      calV w13 p0 12 (f_X12_layTried p0 w13) fun _ w15 =>
      f_X12_then_32 4096 p0 p1 p2 (0 : Int32) w15
def f_X12_thieves_47 : Nat → Nat → Int32 → Int32 → Int32 → Int64 → Int64 → Int64 → Int32 → Wd → Option (Int32 × Wd)
  | 0, _, _, _, _, _, _, _, _, _ => none
  | n + 1, v0, v1, v2, v3, v4, v6, v8, v10, w =>
    if v2 ≤ v10 then
      calV w v0 12 (f_X12_tellPart v0 v4 v6 w) fun _ w1 =>
      some ((1 : Int32), w1)
    else
      nm ((v8 * (((10 : Int32) - v3).toInt64))) fun x3 =>
      gR w v0 12 0 fun r4 =>
      lI w r4 14 (14 : Int32) fun x5 =>
      gR w v0 12 0 fun r6 =>
      lI w r6 14 (16 : Int32) fun x7 =>
      calV w v0 12 (f_X12_ground v0 v1 (x5 + v10) x7 w) fun x9 w8 =>
      nm ((((10 : Int64) * v4) + (x3 * (x9.toInt64)))) fun x10 =>
      nm ((v6 * (10 : Int64))) fun x11 =>
      (f_X12_thieves_47 n) v0 v1 v2 v3 x10 x11 x3 ((v10 + (1 : Int32))) w8
def f_X12_thieves_28 (v0 : Nat) (w : Wd) : Option (Int32 × Wd) :=
  calV w v0 12 (f_X12_refuse v0 (-2 : Int32) w) fun x13 w12 =>
  some (x13, w12)
def f_X12_thieves (p0 : Nat) (p1 : Int32) (p2 : Int32) (p3 : Int32) (w : Wd) : Option (Int32 × Wd) :=
  calV w p0 12 (f_X12_isGoods p0 p1 w) fun x15 w14 =>
  if x15 = 0 then
    f_X12_thieves_28 p0 w14
  else
    cal (f_X12_in p2 (0 : Int32) (9 : Int32) w14) fun x17 w16 =>
    if x17 = 0 then
      f_X12_thieves_28 p0 w16
    else
      cal (f_X12_in p3 (0 : Int32) (10 : Int32) w16) fun x19 w18 =>
      if x19 = 0 then
        f_X12_thieves_28 p0 w18
      else
        f_X12_thieves_47 4096 p0 p1 p2 p3 (0 : Int64) (1 : Int64) (1 : Int64) (0 : Int32) w18
def f_X12_type (p0 : Nat) (p1 : Int32) (w : Wd) : Option (Int32 × Wd) :=
  cal (f_X12_in p1 (0 : Int32) (127 : Int32) w) fun x2 w1 =>
  if x2 = 0 then
    calV w1 p0 12 (f_X12_refuse p0 (-2 : Int32) w1) fun x13 w12 =>
    some (x13, w12)
  else
    gI w1 p0 12 6 fun x3 =>
    if x3 = (150 : Int32) then
      calV w1 p0 12 (f_X12_refuse p0 (-4 : Int32) w1) fun x11 w10 =>
      some (x11, w10)
    else
      gR w1 p0 12 5 fun r4 =>
      gI w1 p0 12 6 fun x5 =>
      aI w1 r4 14 x5 p1 fun w6 =>
      gI w6 p0 12 6 fun x7 =>
      pI w6 p0 12 6 (x7 + (1 : Int32)) fun w8 =>
      gI w8 p0 12 6 fun x9 =>
      some (x9, w8)
def f_X12_undo_30 : Nat → Nat → Int32 → Wd → Option (Int32 × Wd)
  | 0, _, _, _ => none
  | n + 1, v0, v1, w =>
    if (17 : Int32) ≤ v1 then
      gR w v0 12 0 fun r1 =>
      lI w r1 14 (14 : Int32) fun x2 =>
      some (x2, w)
    else
      gR w v0 12 0 fun r3 =>
      gR w v0 12 0 fun r4 =>
      gR w v0 12 0 fun r5 =>
      lI w r5 14 (76 : Int32) fun x6 =>
      lI w r4 14 (((77 : Int32) + ((17 : Int32) * x6)) + v1) fun x7 =>
      aI w r3 14 v1 x7 fun w8 =>
      (f_X12_undo_30 n) v0 ((v1 + (1 : Int32))) w8
def f_X12_undo (p0 : Nat) (w : Wd) : Option (Int32 × Wd) :=
  gR w p0 12 0 fun r9 =>
  lI w r9 14 (76 : Int32) fun x10 =>
  if x10 = 0 then
    calV w p0 12 (f_X12_refuse p0 (-3 : Int32) w) fun x15 w14 =>
    some (x15, w14)
  else
    gR w p0 12 0 fun r11 =>
    lI w r11 14 (76 : Int32) fun x12 =>
    aI w r11 14 (76 : Int32) (x12 - (1 : Int32)) fun w13 =>
    f_X12_undo_30 4096 p0 (0 : Int32) w13
def f_X12_word (p0 : Nat) (p1 : Int32) (w : Wd) : Option (Int32 × Wd) :=
  cal (f_X12_in p1 (0 : Int32) (31 : Int32) w) fun x2 w1 =>
  if x2 = 0 then
    calV w1 p0 12 (f_X12_refuse p0 (-2 : Int32) w1) fun x6 w5 =>
    some (x6, w5)
  else
    gR w1 p0 12 0 fun r3 =>
    aI w1 r3 14 (18 : Int32) p1 fun w4 =>
    some ((1 : Int32), w4)
def f_X12_words_77 (s0 : Int32) (w : Wd) : Option (Int32 × Wd) :=
  some (s0, w)
def f_X12_words_61 (rec24 : Nat → Int32 → Int32 → Int32 → Int32 → Wd → Option (Int32 × Wd)) (v0 : Nat) (v1 : Int32) (v2 : Int32) (v4 : Int32) (s0 : Int32) (w : Wd) : Option (Int32 × Wd) :=
  rec24 v0 v1 v2 s0 ((v4 + (-1 : Int32))) w
def f_X12_words_44 (rec24 : Nat → Int32 → Int32 → Int32 → Int32 → Wd → Option (Int32 × Wd)) (v0 : Nat) (v1 : Int32) (v3 : Int32) (v4 : Int32) (s0 : Int32) (s1 : Int32) (w : Wd) : Option (Int32 × Wd) :=
  nm ((s1 + s0)) fun x1 =>
  calV w v0 12 (f_X12_mayBe v0 v4 w) fun x3 w2 =>
  if x3 = 0 then
    f_X12_words_61 rec24 v0 v1 x1 v4 v3 w2
  else
    f_X12_words_61 rec24 v0 v1 x1 v4 v4 w2
def f_X12_words_24 : Nat → Nat → Int32 → Int32 → Int32 → Int32 → Wd → Option (Int32 × Wd)
  | 0, _, _, _, _, _, _ => none
  | n + 1, v0, v1, v2, v3, v4, w =>
    if v4 < 0 then
      if v1 = 0 then
        f_X12_words_77 v2 w
      else
        f_X12_words_77 v3 w
    else
      calV w v0 12 (f_X12_mayBe v0 v4 w) fun x5 w4 =>
      if x5 = 0 then
        f_X12_words_44 (f_X12_words_24 n) v0 v1 v3 v4 (0 : Int32) v2 w4
      else
        f_X12_words_44 (f_X12_words_24 n) v0 v1 v3 v4 (1 : Int32) v2 w4
def f_X12_words (p0 : Nat) (p1 : Int32) (w : Wd) : Option (Int32 × Wd) :=
  cal (f_X12_in p1 (0 : Int32) (1 : Int32) w) fun x7 w6 =>
  if x7 = 0 then
    calV w6 p0 12 (f_X12_refuse p0 (-2 : Int32) w6) fun x9 w8 =>
    some (x9, w8)
  else
    f_X12_words_24 4096 p0 p1 (0 : Int32) (-1 : Int32) (31 : Int32) w6
end
