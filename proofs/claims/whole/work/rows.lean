section
-- ===== PART A: goes FIRST, ahead of the names: the tables' words, and 'selects' of the private methods out of them =====
/-- a private method of a class that the tables say can be made, by its rows of tables_1 -/
def lw_okq (q : MethodName × Nat) : Prop := (q.1.cls ≠ "java/lang/invoke/MethodHandle" ∧ q.1.cls ≠ "java/lang/invoke/VarHandle") ∧ Cond.instantiable q.1.cls q.2 ∈ tables_1 ∧ Cond.privateMethod q.1 ∈ tables_1 ∧ Cond.instanceMethod q.1 ∈ tables_1
theorem lw_p0 : lw_okq (⟨"GrindMill", "refuse", "(I)I"⟩, 9) := ⟨⟨by decide +kernel, by decide +kernel⟩, List.mem_of_getElem? (i := 22) (by decide +kernel), List.mem_of_getElem? (i := 302) (by decide +kernel), List.mem_of_getElem? (i := 303) (by decide +kernel)⟩
theorem lw_p1 : lw_okq (⟨"GrindMill$Text", "passBlanks", "()V"⟩, 4) := ⟨⟨by decide +kernel, by decide +kernel⟩, List.mem_of_getElem? (i := 210) (by decide +kernel), List.mem_of_getElem? (i := 347) (by decide +kernel), List.mem_of_getElem? (i := 348) (by decide +kernel)⟩
theorem lw_p2 : lw_okq (⟨"GrindMill$Text", "readFirstItem", "(LGrindMill$House;)V"⟩, 4) := ⟨⟨by decide +kernel, by decide +kernel⟩, List.mem_of_getElem? (i := 210) (by decide +kernel), List.mem_of_getElem? (i := 351) (by decide +kernel), List.mem_of_getElem? (i := 352) (by decide +kernel)⟩
theorem lw_p3 : lw_okq (⟨"GrindMill$Text", "passLetters", "()V"⟩, 4) := ⟨⟨by decide +kernel, by decide +kernel⟩, List.mem_of_getElem? (i := 210) (by decide +kernel), List.mem_of_getElem? (i := 355) (by decide +kernel), List.mem_of_getElem? (i := 356) (by decide +kernel)⟩
theorem lw_p4 : lw_okq (⟨"GrindMill$Text", "isNamed", "(ILjava/lang/String;)Z"⟩, 4) := ⟨⟨by decide +kernel, by decide +kernel⟩, List.mem_of_getElem? (i := 210) (by decide +kernel), List.mem_of_getElem? (i := 361) (by decide +kernel), List.mem_of_getElem? (i := 362) (by decide +kernel)⟩
theorem lw_p5 : lw_okq (⟨"GrindMill$Text", "readNumber", "(II)I"⟩, 4) := ⟨⟨by decide +kernel, by decide +kernel⟩, List.mem_of_getElem? (i := 210) (by decide +kernel), List.mem_of_getElem? (i := 413) (by decide +kernel), List.mem_of_getElem? (i := 414) (by decide +kernel)⟩
theorem lw_p6 : lw_okq (⟨"GrindMill$Text", "failAt", "(I)V"⟩, 4) := ⟨⟨by decide +kernel, by decide +kernel⟩, List.mem_of_getElem? (i := 210) (by decide +kernel), List.mem_of_getElem? (i := 420) (by decide +kernel), List.mem_of_getElem? (i := 421) (by decide +kernel)⟩
theorem lw_p7 : lw_okq (⟨"GrindMill$Text", "readItemsEnd", "()V"⟩, 4) := ⟨⟨by decide +kernel, by decide +kernel⟩, List.mem_of_getElem? (i := 210) (by decide +kernel), List.mem_of_getElem? (i := 424) (by decide +kernel), List.mem_of_getElem? (i := 425) (by decide +kernel)⟩
theorem lw_p8 : lw_okq (⟨"GrindMill$Text", "readLaterItem", "(LGrindMill$House;)V"⟩, 4) := ⟨⟨by decide +kernel, by decide +kernel⟩, List.mem_of_getElem? (i := 210) (by decide +kernel), List.mem_of_getElem? (i := 428) (by decide +kernel), List.mem_of_getElem? (i := 429) (by decide +kernel)⟩
theorem lw_p9 : lw_okq (⟨"GrindMill$Text", "readGoods", "(LGrindMill$House;I)V"⟩, 4) := ⟨⟨by decide +kernel, by decide +kernel⟩, List.mem_of_getElem? (i := 210) (by decide +kernel), List.mem_of_getElem? (i := 433) (by decide +kernel), List.mem_of_getElem? (i := 434) (by decide +kernel)⟩
theorem lw_p10 : lw_okq (⟨"GrindMill", "refuseApart", "()I"⟩, 9) := ⟨⟨by decide +kernel, by decide +kernel⟩, List.mem_of_getElem? (i := 22) (by decide +kernel), List.mem_of_getElem? (i := 449) (by decide +kernel), List.mem_of_getElem? (i := 450) (by decide +kernel)⟩
theorem lw_p11 : lw_okq (⟨"GrindMill$Plans", "fillYields", "(LGrindMill$House;)V"⟩, 8) := ⟨⟨by decide +kernel, by decide +kernel⟩, List.mem_of_getElem? (i := 233) (by decide +kernel), List.mem_of_getElem? (i := 597) (by decide +kernel), List.mem_of_getElem? (i := 598) (by decide +kernel)⟩
theorem lw_p12 : lw_okq (⟨"GrindMill$Plans", "fillFewest", "(II)V"⟩, 8) := ⟨⟨by decide +kernel, by decide +kernel⟩, List.mem_of_getElem? (i := 233) (by decide +kernel), List.mem_of_getElem? (i := 602) (by decide +kernel), List.mem_of_getElem? (i := 603) (by decide +kernel)⟩
theorem lw_p13 : lw_okq (⟨"GrindMill$Plans", "staysFewest", "(II)Z"⟩, 8) := ⟨⟨by decide +kernel, by decide +kernel⟩, List.mem_of_getElem? (i := 233) (by decide +kernel), List.mem_of_getElem? (i := 607) (by decide +kernel), List.mem_of_getElem? (i := 608) (by decide +kernel)⟩
theorem lw_p14 : lw_okq (⟨"GrindMill$Plans", "fillGains", "(LGrindMill$House;I)V"⟩, 8) := ⟨⟨by decide +kernel, by decide +kernel⟩, List.mem_of_getElem? (i := 233) (by decide +kernel), List.mem_of_getElem? (i := 619) (by decide +kernel), List.mem_of_getElem? (i := 620) (by decide +kernel)⟩
theorem lw_p15 : lw_okq (⟨"GrindMill$Plans", "fillMost", "(II)V"⟩, 8) := ⟨⟨by decide +kernel, by decide +kernel⟩, List.mem_of_getElem? (i := 233) (by decide +kernel), List.mem_of_getElem? (i := 624) (by decide +kernel), List.mem_of_getElem? (i := 625) (by decide +kernel)⟩
def lw_privs_1 : List (MethodName × Nat) := [(⟨"GrindMill", "refuse", "(I)I"⟩, 9), (⟨"GrindMill$Text", "passBlanks", "()V"⟩, 4), (⟨"GrindMill$Text", "readFirstItem", "(LGrindMill$House;)V"⟩, 4), (⟨"GrindMill$Text", "passLetters", "()V"⟩, 4), (⟨"GrindMill$Text", "isNamed", "(ILjava/lang/String;)Z"⟩, 4), (⟨"GrindMill$Text", "readNumber", "(II)I"⟩, 4), (⟨"GrindMill$Text", "failAt", "(I)V"⟩, 4), (⟨"GrindMill$Text", "readItemsEnd", "()V"⟩, 4), (⟨"GrindMill$Text", "readLaterItem", "(LGrindMill$House;)V"⟩, 4), (⟨"GrindMill$Text", "readGoods", "(LGrindMill$House;I)V"⟩, 4), (⟨"GrindMill", "refuseApart", "()I"⟩, 9), (⟨"GrindMill$Plans", "fillYields", "(LGrindMill$House;)V"⟩, 8), (⟨"GrindMill$Plans", "fillFewest", "(II)V"⟩, 8), (⟨"GrindMill$Plans", "staysFewest", "(II)Z"⟩, 8), (⟨"GrindMill$Plans", "fillGains", "(LGrindMill$House;I)V"⟩, 8), (⟨"GrindMill$Plans", "fillMost", "(II)V"⟩, 8)]
theorem lw_r1 : ∀ q ∈ lw_privs_1, lw_okq q := List.forall_mem_cons.mpr ⟨lw_p0, List.forall_mem_cons.mpr ⟨lw_p1, List.forall_mem_cons.mpr ⟨lw_p2, List.forall_mem_cons.mpr ⟨lw_p3, List.forall_mem_cons.mpr ⟨lw_p4, List.forall_mem_cons.mpr ⟨lw_p5, List.forall_mem_cons.mpr ⟨lw_p6, List.forall_mem_cons.mpr ⟨lw_p7, List.forall_mem_cons.mpr ⟨lw_p8, List.forall_mem_cons.mpr ⟨lw_p9, List.forall_mem_cons.mpr ⟨lw_p10, List.forall_mem_cons.mpr ⟨lw_p11, List.forall_mem_cons.mpr ⟨lw_p12, List.forall_mem_cons.mpr ⟨lw_p13, List.forall_mem_cons.mpr ⟨lw_p14, List.forall_mem_cons.mpr ⟨lw_p15, fun _ h => absurd h List.not_mem_nil⟩⟩⟩⟩⟩⟩⟩⟩⟩⟩⟩⟩⟩⟩⟩⟩
theorem lw_p16 : lw_okq (⟨"GrindMill$Clues", "wordFits", "(I)Z"⟩, 8) := ⟨⟨by decide +kernel, by decide +kernel⟩, List.mem_of_getElem? (i := 81) (by decide +kernel), List.mem_of_getElem? (i := 651) (by decide +kernel), List.mem_of_getElem? (i := 652) (by decide +kernel)⟩
theorem lw_p17 : lw_okq (⟨"GrindMill$Clues", "mostAnsweredAlike", "(II)I"⟩, 8) := ⟨⟨by decide +kernel, by decide +kernel⟩, List.mem_of_getElem? (i := 81) (by decide +kernel), List.mem_of_getElem? (i := 668) (by decide +kernel), List.mem_of_getElem? (i := 669) (by decide +kernel)⟩
theorem lw_p18 : lw_okq (⟨"GrindMill$Plans", "fillStreet", "(LGrindMill$House;I)V"⟩, 8) := ⟨⟨by decide +kernel, by decide +kernel⟩, List.mem_of_getElem? (i := 233) (by decide +kernel), List.mem_of_getElem? (i := 681) (by decide +kernel), List.mem_of_getElem? (i := 682) (by decide +kernel)⟩
theorem lw_p19 : lw_okq (⟨"GrindMill$Plans", "pairRests", "(III)Z"⟩, 8) := ⟨⟨by decide +kernel, by decide +kernel⟩, List.mem_of_getElem? (i := 233) (by decide +kernel), List.mem_of_getElem? (i := 686) (by decide +kernel), List.mem_of_getElem? (i := 687) (by decide +kernel)⟩
theorem lw_p20 : lw_okq (⟨"GrindMill$Plans", "firstHas", "(II)I"⟩, 8) := ⟨⟨by decide +kernel, by decide +kernel⟩, List.mem_of_getElem? (i := 233) (by decide +kernel), List.mem_of_getElem? (i := 690) (by decide +kernel), List.mem_of_getElem? (i := 691) (by decide +kernel)⟩
theorem lw_p21 : lw_okq (⟨"GrindMill$Plans", "secondHas", "(II)I"⟩, 8) := ⟨⟨by decide +kernel, by decide +kernel⟩, List.mem_of_getElem? (i := 233) (by decide +kernel), List.mem_of_getElem? (i := 694) (by decide +kernel), List.mem_of_getElem? (i := 695) (by decide +kernel)⟩
theorem lw_p22 : lw_okq (⟨"GrindMill$Clues", "notesFit", "(III)Z"⟩, 8) := ⟨⟨by decide +kernel, by decide +kernel⟩, List.mem_of_getElem? (i := 81) (by decide +kernel), List.mem_of_getElem? (i := 718) (by decide +kernel), List.mem_of_getElem? (i := 719) (by decide +kernel)⟩
theorem lw_p23 : lw_okq (⟨"GrindMill$Clues", "mostGroundAlike", "(IIII)I"⟩, 8) := ⟨⟨by decide +kernel, by decide +kernel⟩, List.mem_of_getElem? (i := 81) (by decide +kernel), List.mem_of_getElem? (i := 736) (by decide +kernel), List.mem_of_getElem? (i := 737) (by decide +kernel)⟩
theorem lw_p24 : lw_okq (⟨"GrindMill$Clues", "fittingLike", "(II)I"⟩, 8) := ⟨⟨by decide +kernel, by decide +kernel⟩, List.mem_of_getElem? (i := 81) (by decide +kernel), List.mem_of_getElem? (i := 740) (by decide +kernel), List.mem_of_getElem? (i := 741) (by decide +kernel)⟩
theorem lw_p25 : lw_okq (⟨"GrindMill", "amountOf", "(I)I"⟩, 9) := ⟨⟨by decide +kernel, by decide +kernel⟩, List.mem_of_getElem? (i := 22) (by decide +kernel), List.mem_of_getElem? (i := 799) (by decide +kernel), List.mem_of_getElem? (i := 800) (by decide +kernel)⟩
theorem lw_p26 : lw_okq (⟨"GrindMillModel", "layMill", "(I)V"⟩, 21) := ⟨⟨by decide +kernel, by decide +kernel⟩, List.mem_of_getElem? (i := 824) (by decide +kernel), List.mem_of_getElem? (i := 830) (by decide +kernel), List.mem_of_getElem? (i := 831) (by decide +kernel)⟩
theorem lw_p27 : lw_okq (⟨"GrindMillModel", "refuse", "(I)I"⟩, 21) := ⟨⟨by decide +kernel, by decide +kernel⟩, List.mem_of_getElem? (i := 824) (by decide +kernel), List.mem_of_getElem? (i := 905) (by decide +kernel), List.mem_of_getElem? (i := 906) (by decide +kernel)⟩
theorem lw_p28 : lw_okq (⟨"GrindMillModel", "addGoods", "(III)V"⟩, 21) := ⟨⟨by decide +kernel, by decide +kernel⟩, List.mem_of_getElem? (i := 824) (by decide +kernel), List.mem_of_getElem? (i := 913) (by decide +kernel), List.mem_of_getElem? (i := 914) (by decide +kernel)⟩
theorem lw_p29 : lw_okq (⟨"GrindMillModel", "readItems", "()I"⟩, 21) := ⟨⟨by decide +kernel, by decide +kernel⟩, List.mem_of_getElem? (i := 824) (by decide +kernel), List.mem_of_getElem? (i := 933) (by decide +kernel), List.mem_of_getElem? (i := 934) (by decide +kernel)⟩
theorem lw_p30 : lw_okq (⟨"GrindMillModel", "next", "()V"⟩, 21) := ⟨⟨by decide +kernel, by decide +kernel⟩, List.mem_of_getElem? (i := 824) (by decide +kernel), List.mem_of_getElem? (i := 937) (by decide +kernel), List.mem_of_getElem? (i := 938) (by decide +kernel)⟩
theorem lw_p31 : lw_okq (⟨"GrindMillModel", "isLetter", "(I)Z"⟩, 21) := ⟨⟨by decide +kernel, by decide +kernel⟩, List.mem_of_getElem? (i := 824) (by decide +kernel), List.mem_of_getElem? (i := 941) (by decide +kernel), List.mem_of_getElem? (i := 942) (by decide +kernel)⟩
def lw_privs_2 : List (MethodName × Nat) := [(⟨"GrindMill$Clues", "wordFits", "(I)Z"⟩, 8), (⟨"GrindMill$Clues", "mostAnsweredAlike", "(II)I"⟩, 8), (⟨"GrindMill$Plans", "fillStreet", "(LGrindMill$House;I)V"⟩, 8), (⟨"GrindMill$Plans", "pairRests", "(III)Z"⟩, 8), (⟨"GrindMill$Plans", "firstHas", "(II)I"⟩, 8), (⟨"GrindMill$Plans", "secondHas", "(II)I"⟩, 8), (⟨"GrindMill$Clues", "notesFit", "(III)Z"⟩, 8), (⟨"GrindMill$Clues", "mostGroundAlike", "(IIII)I"⟩, 8), (⟨"GrindMill$Clues", "fittingLike", "(II)I"⟩, 8), (⟨"GrindMill", "amountOf", "(I)I"⟩, 9), (⟨"GrindMillModel", "layMill", "(I)V"⟩, 21), (⟨"GrindMillModel", "refuse", "(I)I"⟩, 21), (⟨"GrindMillModel", "addGoods", "(III)V"⟩, 21), (⟨"GrindMillModel", "readItems", "()I"⟩, 21), (⟨"GrindMillModel", "next", "()V"⟩, 21), (⟨"GrindMillModel", "isLetter", "(I)Z"⟩, 21)]
theorem lw_r2 : ∀ q ∈ lw_privs_2, lw_okq q := List.forall_mem_cons.mpr ⟨lw_p16, List.forall_mem_cons.mpr ⟨lw_p17, List.forall_mem_cons.mpr ⟨lw_p18, List.forall_mem_cons.mpr ⟨lw_p19, List.forall_mem_cons.mpr ⟨lw_p20, List.forall_mem_cons.mpr ⟨lw_p21, List.forall_mem_cons.mpr ⟨lw_p22, List.forall_mem_cons.mpr ⟨lw_p23, List.forall_mem_cons.mpr ⟨lw_p24, List.forall_mem_cons.mpr ⟨lw_p25, List.forall_mem_cons.mpr ⟨lw_p26, List.forall_mem_cons.mpr ⟨lw_p27, List.forall_mem_cons.mpr ⟨lw_p28, List.forall_mem_cons.mpr ⟨lw_p29, List.forall_mem_cons.mpr ⟨lw_p30, List.forall_mem_cons.mpr ⟨lw_p31, fun _ h => absurd h List.not_mem_nil⟩⟩⟩⟩⟩⟩⟩⟩⟩⟩⟩⟩⟩⟩⟩⟩
theorem lw_p32 : lw_okq (⟨"GrindMillModel", "isFigure", "(I)Z"⟩, 21) := ⟨⟨by decide +kernel, by decide +kernel⟩, List.mem_of_getElem? (i := 824) (by decide +kernel), List.mem_of_getElem? (i := 945) (by decide +kernel), List.mem_of_getElem? (i := 946) (by decide +kernel)⟩
theorem lw_p33 : lw_okq (⟨"GrindMillModel", "wordHere", "()I"⟩, 21) := ⟨⟨by decide +kernel, by decide +kernel⟩, List.mem_of_getElem? (i := 824) (by decide +kernel), List.mem_of_getElem? (i := 949) (by decide +kernel), List.mem_of_getElem? (i := 950) (by decide +kernel)⟩
theorem lw_p34 : lw_okq (⟨"GrindMillModel", "isWord", "(I)Z"⟩, 21) := ⟨⟨by decide +kernel, by decide +kernel⟩, List.mem_of_getElem? (i := 824) (by decide +kernel), List.mem_of_getElem? (i := 953) (by decide +kernel), List.mem_of_getElem? (i := 954) (by decide +kernel)⟩
theorem lw_p35 : lw_okq (⟨"GrindMillModel", "readsItem", "(I)Z"⟩, 21) := ⟨⟨by decide +kernel, by decide +kernel⟩, List.mem_of_getElem? (i := 824) (by decide +kernel), List.mem_of_getElem? (i := 957) (by decide +kernel), List.mem_of_getElem? (i := 958) (by decide +kernel)⟩
theorem lw_p36 : lw_okq (⟨"GrindMillModel", "number", "(II)I"⟩, 21) := ⟨⟨by decide +kernel, by decide +kernel⟩, List.mem_of_getElem? (i := 824) (by decide +kernel), List.mem_of_getElem? (i := 961) (by decide +kernel), List.mem_of_getElem? (i := 962) (by decide +kernel)⟩
theorem lw_p37 : lw_okq (⟨"GrindMillModel", "readsGoods", "()Z"⟩, 21) := ⟨⟨by decide +kernel, by decide +kernel⟩, List.mem_of_getElem? (i := 824) (by decide +kernel), List.mem_of_getElem? (i := 965) (by decide +kernel), List.mem_of_getElem? (i := 966) (by decide +kernel)⟩
theorem lw_p38 : lw_okq (⟨"GrindMillModel", "isGoods", "(I)Z"⟩, 21) := ⟨⟨by decide +kernel, by decide +kernel⟩, List.mem_of_getElem? (i := 824) (by decide +kernel), List.mem_of_getElem? (i := 973) (by decide +kernel), List.mem_of_getElem? (i := 974) (by decide +kernel)⟩
theorem lw_p39 : lw_okq (⟨"GrindMillModel", "badTen", "()I"⟩, 21) := ⟨⟨by decide +kernel, by decide +kernel⟩, List.mem_of_getElem? (i := 824) (by decide +kernel), List.mem_of_getElem? (i := 977) (by decide +kernel), List.mem_of_getElem? (i := 978) (by decide +kernel)⟩
theorem lw_p40 : lw_okq (⟨"GrindMillModel", "keepPast", "()V"⟩, 21) := ⟨⟨by decide +kernel, by decide +kernel⟩, List.mem_of_getElem? (i := 824) (by decide +kernel), List.mem_of_getElem? (i := 981) (by decide +kernel), List.mem_of_getElem? (i := 982) (by decide +kernel)⟩
theorem lw_p41 : lw_okq (⟨"GrindMillModel", "pass", "(II)I"⟩, 21) := ⟨⟨by decide +kernel, by decide +kernel⟩, List.mem_of_getElem? (i := 824) (by decide +kernel), List.mem_of_getElem? (i := 989) (by decide +kernel), List.mem_of_getElem? (i := 990) (by decide +kernel)⟩
theorem lw_p42 : lw_okq (⟨"GrindMillModel", "ground", "(III)I"⟩, 21) := ⟨⟨by decide +kernel, by decide +kernel⟩, List.mem_of_getElem? (i := 824) (by decide +kernel), List.mem_of_getElem? (i := 993) (by decide +kernel), List.mem_of_getElem? (i := 994) (by decide +kernel)⟩
theorem lw_p43 : lw_okq (⟨"GrindMillModel", "inHouse", "(I)I"⟩, 21) := ⟨⟨by decide +kernel, by decide +kernel⟩, List.mem_of_getElem? (i := 824) (by decide +kernel), List.mem_of_getElem? (i := 1000) (by decide +kernel), List.mem_of_getElem? (i := 1001) (by decide +kernel)⟩
theorem lw_p44 : lw_okq (⟨"GrindMillModel", "fetches", "(II)I"⟩, 21) := ⟨⟨by decide +kernel, by decide +kernel⟩, List.mem_of_getElem? (i := 824) (by decide +kernel), List.mem_of_getElem? (i := 1018) (by decide +kernel), List.mem_of_getElem? (i := 1019) (by decide +kernel)⟩
theorem lw_p45 : lw_okq (⟨"GrindMillModel", "layTried", "()V"⟩, 21) := ⟨⟨by decide +kernel, by decide +kernel⟩, List.mem_of_getElem? (i := 824) (by decide +kernel), List.mem_of_getElem? (i := 1042) (by decide +kernel), List.mem_of_getElem? (i := 1043) (by decide +kernel)⟩
theorem lw_p46 : lw_okq (⟨"GrindMillModel", "layFewest", "(I)V"⟩, 21) := ⟨⟨by decide +kernel, by decide +kernel⟩, List.mem_of_getElem? (i := 824) (by decide +kernel), List.mem_of_getElem? (i := 1054) (by decide +kernel), List.mem_of_getElem? (i := 1055) (by decide +kernel)⟩
theorem lw_p47 : lw_okq (⟨"GrindMillModel", "layRichest", "(I)V"⟩, 21) := ⟨⟨by decide +kernel, by decide +kernel⟩, List.mem_of_getElem? (i := 824) (by decide +kernel), List.mem_of_getElem? (i := 1062) (by decide +kernel), List.mem_of_getElem? (i := 1063) (by decide +kernel)⟩
def lw_privs_3 : List (MethodName × Nat) := [(⟨"GrindMillModel", "isFigure", "(I)Z"⟩, 21), (⟨"GrindMillModel", "wordHere", "()I"⟩, 21), (⟨"GrindMillModel", "isWord", "(I)Z"⟩, 21), (⟨"GrindMillModel", "readsItem", "(I)Z"⟩, 21), (⟨"GrindMillModel", "number", "(II)I"⟩, 21), (⟨"GrindMillModel", "readsGoods", "()Z"⟩, 21), (⟨"GrindMillModel", "isGoods", "(I)Z"⟩, 21), (⟨"GrindMillModel", "badTen", "()I"⟩, 21), (⟨"GrindMillModel", "keepPast", "()V"⟩, 21), (⟨"GrindMillModel", "pass", "(II)I"⟩, 21), (⟨"GrindMillModel", "ground", "(III)I"⟩, 21), (⟨"GrindMillModel", "inHouse", "(I)I"⟩, 21), (⟨"GrindMillModel", "fetches", "(II)I"⟩, 21), (⟨"GrindMillModel", "layTried", "()V"⟩, 21), (⟨"GrindMillModel", "layFewest", "(I)V"⟩, 21), (⟨"GrindMillModel", "layRichest", "(I)V"⟩, 21)]
theorem lw_r3 : ∀ q ∈ lw_privs_3, lw_okq q := List.forall_mem_cons.mpr ⟨lw_p32, List.forall_mem_cons.mpr ⟨lw_p33, List.forall_mem_cons.mpr ⟨lw_p34, List.forall_mem_cons.mpr ⟨lw_p35, List.forall_mem_cons.mpr ⟨lw_p36, List.forall_mem_cons.mpr ⟨lw_p37, List.forall_mem_cons.mpr ⟨lw_p38, List.forall_mem_cons.mpr ⟨lw_p39, List.forall_mem_cons.mpr ⟨lw_p40, List.forall_mem_cons.mpr ⟨lw_p41, List.forall_mem_cons.mpr ⟨lw_p42, List.forall_mem_cons.mpr ⟨lw_p43, List.forall_mem_cons.mpr ⟨lw_p44, List.forall_mem_cons.mpr ⟨lw_p45, List.forall_mem_cons.mpr ⟨lw_p46, List.forall_mem_cons.mpr ⟨lw_p47, fun _ h => absurd h List.not_mem_nil⟩⟩⟩⟩⟩⟩⟩⟩⟩⟩⟩⟩⟩⟩⟩⟩
theorem lw_p48 : lw_okq (⟨"GrindMillModel", "brings", "(II)I"⟩, 21) := ⟨⟨by decide +kernel, by decide +kernel⟩, List.mem_of_getElem? (i := 824) (by decide +kernel), List.mem_of_getElem? (i := 1066) (by decide +kernel), List.mem_of_getElem? (i := 1067) (by decide +kernel)⟩
theorem lw_p49 : lw_okq (⟨"GrindMillModel", "mayBe", "(I)Z"⟩, 21) := ⟨⟨by decide +kernel, by decide +kernel⟩, List.mem_of_getElem? (i := 824) (by decide +kernel), List.mem_of_getElem? (i := 1082) (by decide +kernel), List.mem_of_getElem? (i := 1083) (by decide +kernel)⟩
theorem lw_p50 : lw_okq (⟨"GrindMillModel", "mostAlike", "(I)I"⟩, 21) := ⟨⟨by decide +kernel, by decide +kernel⟩, List.mem_of_getElem? (i := 824) (by decide +kernel), List.mem_of_getElem? (i := 1090) (by decide +kernel), List.mem_of_getElem? (i := 1091) (by decide +kernel)⟩
theorem lw_p51 : lw_okq (⟨"GrindMillModel", "layStreet", "(I)V"⟩, 21) := ⟨⟨by decide +kernel, by decide +kernel⟩, List.mem_of_getElem? (i := 824) (by decide +kernel), List.mem_of_getElem? (i := 1098) (by decide +kernel), List.mem_of_getElem? (i := 1099) (by decide +kernel)⟩
theorem lw_p52 : lw_okq (⟨"GrindMillModel", "rests", "(II)Z"⟩, 21) := ⟨⟨by decide +kernel, by decide +kernel⟩, List.mem_of_getElem? (i := 824) (by decide +kernel), List.mem_of_getElem? (i := 1102) (by decide +kernel), List.mem_of_getElem? (i := 1103) (by decide +kernel)⟩
theorem lw_p53 : lw_okq (⟨"GrindMillModel", "kindsOf", "(I)I"⟩, 21) := ⟨⟨by decide +kernel, by decide +kernel⟩, List.mem_of_getElem? (i := 824) (by decide +kernel), List.mem_of_getElem? (i := 1118) (by decide +kernel), List.mem_of_getElem? (i := 1119) (by decide +kernel)⟩
theorem lw_p54 : lw_okq (⟨"GrindMillModel", "isNoted", "(III)Z"⟩, 21) := ⟨⟨by decide +kernel, by decide +kernel⟩, List.mem_of_getElem? (i := 824) (by decide +kernel), List.mem_of_getElem? (i := 1122) (by decide +kernel), List.mem_of_getElem? (i := 1123) (by decide +kernel)⟩
theorem lw_p55 : lw_okq (⟨"GrindMillModel", "mostKinds", "(IIII)I"⟩, 21) := ⟨⟨by decide +kernel, by decide +kernel⟩, List.mem_of_getElem? (i := 824) (by decide +kernel), List.mem_of_getElem? (i := 1130) (by decide +kernel), List.mem_of_getElem? (i := 1131) (by decide +kernel)⟩
theorem lw_p56 : lw_okq (⟨"GrindMillModel", "tellPart", "(JJ)V"⟩, 21) := ⟨⟨by decide +kernel, by decide +kernel⟩, List.mem_of_getElem? (i := 824) (by decide +kernel), List.mem_of_getElem? (i := 1139) (by decide +kernel), List.mem_of_getElem? (i := 1140) (by decide +kernel)⟩
theorem lw_p57 : lw_okq (⟨"GrindMillModel", "countOf", "(I)I"⟩, 21) := ⟨⟨by decide +kernel, by decide +kernel⟩, List.mem_of_getElem? (i := 824) (by decide +kernel), List.mem_of_getElem? (i := 1173) (by decide +kernel), List.mem_of_getElem? (i := 1174) (by decide +kernel)⟩
def lw_privs_4 : List (MethodName × Nat) := [(⟨"GrindMillModel", "brings", "(II)I"⟩, 21), (⟨"GrindMillModel", "mayBe", "(I)Z"⟩, 21), (⟨"GrindMillModel", "mostAlike", "(I)I"⟩, 21), (⟨"GrindMillModel", "layStreet", "(I)V"⟩, 21), (⟨"GrindMillModel", "rests", "(II)Z"⟩, 21), (⟨"GrindMillModel", "kindsOf", "(I)I"⟩, 21), (⟨"GrindMillModel", "isNoted", "(III)Z"⟩, 21), (⟨"GrindMillModel", "mostKinds", "(IIII)I"⟩, 21), (⟨"GrindMillModel", "tellPart", "(JJ)V"⟩, 21), (⟨"GrindMillModel", "countOf", "(I)I"⟩, 21)]
theorem lw_r4 : ∀ q ∈ lw_privs_4, lw_okq q := List.forall_mem_cons.mpr ⟨lw_p48, List.forall_mem_cons.mpr ⟨lw_p49, List.forall_mem_cons.mpr ⟨lw_p50, List.forall_mem_cons.mpr ⟨lw_p51, List.forall_mem_cons.mpr ⟨lw_p52, List.forall_mem_cons.mpr ⟨lw_p53, List.forall_mem_cons.mpr ⟨lw_p54, List.forall_mem_cons.mpr ⟨lw_p55, List.forall_mem_cons.mpr ⟨lw_p56, List.forall_mem_cons.mpr ⟨lw_p57, fun _ h => absurd h List.not_mem_nil⟩⟩⟩⟩⟩⟩⟩⟩⟩⟩
def lw_privs : List (MethodName × Nat) := lw_privs_1 ++ (lw_privs_2 ++ (lw_privs_3 ++ (lw_privs_4)))
def lw_tbl : List Cond := k2_sels lw_privs ++ tables_1
theorem lw_privs_ok : ∀ q ∈ lw_privs, lw_okq q := by
  show ∀ q ∈ lw_privs_1 ++ (lw_privs_2 ++ (lw_privs_3 ++ (lw_privs_4))), lw_okq q
  exact List.forall_mem_append.mpr ⟨lw_r1, List.forall_mem_append.mpr ⟨lw_r2, List.forall_mem_append.mpr ⟨lw_r3, lw_r4⟩⟩⟩
end
section
def RX0 : String := "GrindMill$Clues"
def TX0 : u_T := fun k => match k with
  | 0 => ("GrindMill$Clues", "kinds", "[LGrindMill$Plain;", true)
  | 1 => ("GrindMill$Clues", "guessed", "[I", true)
  | 2 => ("GrindMill$Clues", "answers", "[I", true)
  | 3 => ("GrindMill$Clues", "notes", "[I", true)
  | 4 => ("GrindMill$Clues", "alike", "[I", true)
  | 5 => ("GrindMill$Clues", "yields", "[I", true)
  | 6 => ("GrindMill$Clues", "guessCount", "I", false)
  | _ => ("GrindMill$Clues", "noteCount", "I", false)
def tyX0 : Nat → FieldType := fun k => match k with
  | 0 => .array (.object "GrindMill$Plain")
  | 1 => .array .int
  | 2 => .array .int
  | 3 => .array .int
  | 4 => .array .int
  | 5 => .array .int
  | 6 => .int
  | _ => .int
abbrev wsX00 : List Cond := u_ws RX0 TX0 8
theorem nmX0 : ∀ a, a < 8 → ∀ b, b < 8 → a ≠ b → (TX0 a).2.1 ≠ (TX0 b).2.1 := by decide +kernel
theorem tyX0_ok : ∀ k, k < 8 → parseFieldDescriptor (TX0 k).2.2.1 = some (tyX0 k) := by decide +kernel
abbrev cX0_init : ByteArray := prog_2_method_1_code
def yX0_init : MethodName := ⟨RX0, "<init>", "([LGrindMill$Plain;)V"⟩
abbrev cX0_copyFrom : ByteArray := prog_2_method_2_code
def yX0_copyFrom : MethodName := ⟨RX0, "copyFrom", "(LGrindMill$Clues;)V"⟩
abbrev cX0_addGuess : ByteArray := prog_2_method_3_code
def yX0_addGuess : MethodName := ⟨RX0, "addGuess", "(II)V"⟩
abbrev cX0_addNote : ByteArray := prog_2_method_4_code
def yX0_addNote : MethodName := ⟨RX0, "addNote", "(IIII)V"⟩
abbrev cX0_wordFits : ByteArray := prog_2_method_5_code
def yX0_wordFits : MethodName := ⟨RX0, "wordFits", "(I)Z"⟩
abbrev cX0_fittingWords : ByteArray := prog_2_method_6_code
def yX0_fittingWords : MethodName := ⟨RX0, "fittingWords", "()I"⟩
abbrev cX0_sharpestWord : ByteArray := prog_2_method_7_code
def yX0_sharpestWord : MethodName := ⟨RX0, "sharpestWord", "()I"⟩
abbrev cX0_mostAnsweredAlike : ByteArray := prog_2_method_8_code
def yX0_mostAnsweredAlike : MethodName := ⟨RX0, "mostAnsweredAlike", "(II)I"⟩
abbrev cX0_notesFit : ByteArray := prog_2_method_9_code
def yX0_notesFit : MethodName := ⟨RX0, "notesFit", "(III)Z"⟩
abbrev cX0_fittingKinds : ByteArray := prog_2_method_10_code
def yX0_fittingKinds : MethodName := ⟨RX0, "fittingKinds", "(II)I"⟩
abbrev cX0_fittingRates : ByteArray := prog_2_method_11_code
def yX0_fittingRates : MethodName := ⟨RX0, "fittingRates", "(II)I"⟩
abbrev cX0_sharpestLook : ByteArray := prog_2_method_12_code
def yX0_sharpestLook : MethodName := ⟨RX0, "sharpestLook", "(II)I"⟩
abbrev cX0_mostGroundAlike : ByteArray := prog_2_method_13_code
def yX0_mostGroundAlike : MethodName := ⟨RX0, "mostGroundAlike", "(IIII)I"⟩
abbrev cX0_fittingLike : ByteArray := prog_2_method_14_code
def yX0_fittingLike : MethodName := ⟨RX0, "fittingLike", "(II)I"⟩
abbrev cX0_mixInto : ByteArray := prog_2_method_15_code
def yX0_mixInto : MethodName := ⟨RX0, "mixInto", "(J)J"⟩
def RX1 : String := "GrindMill$Goods"
def TX1 : u_T := fun k => match k with
  | 0 => ("GrindMill$Goods", "kinds", "[LGrindMill$Plain;", true)
  | 1 => ("GrindMill$Goods", "kind", "I", false)
  | 2 => ("GrindMill$Goods", "rate", "I", false)
  | 3 => ("GrindMill$Goods", "price", "I", false)
  | 4 => ("GrindMill$Goods", "bushels", "I", false)
  | _ => ("GrindMill$Goods", "sold", "I", false)
def tyX1 : Nat → FieldType := fun k => match k with
  | 0 => .array (.object "GrindMill$Plain")
  | 1 => .int
  | 2 => .int
  | 3 => .int
  | 4 => .int
  | _ => .int
abbrev wsX10 : List Cond := u_ws RX1 TX1 6
theorem nmX1 : ∀ a, a < 6 → ∀ b, b < 6 → a ≠ b → (TX1 a).2.1 ≠ (TX1 b).2.1 := by decide +kernel
theorem tyX1_ok : ∀ k, k < 6 → parseFieldDescriptor (TX1 k).2.2.1 = some (tyX1 k) := by decide +kernel
abbrev cX1_init : ByteArray := prog_3_method_1_code
def yX1_init : MethodName := ⟨RX1, "<init>", "([LGrindMill$Plain;)V"⟩
abbrev cX1_become : ByteArray := prog_3_method_2_code
def yX1_become : MethodName := ⟨RX1, "become", "(III)V"⟩
abbrev cX1_copyFrom : ByteArray := prog_3_method_3_code
def yX1_copyFrom : MethodName := ⟨RX1, "copyFrom", "(LGrindMill$Goods;)V"⟩
abbrev cX1_groundIn : ByteArray := prog_3_method_4_code
def yX1_groundIn : MethodName := ⟨RX1, "groundIn", "(II)I"⟩
abbrev cX1_fetchesWhen : ByteArray := prog_3_method_5_code
def yX1_fetchesWhen : MethodName := ⟨RX1, "fetchesWhen", "(I)I"⟩
abbrev cX1_fetchedBy : ByteArray := prog_3_method_6_code
def yX1_fetchedBy : MethodName := ⟨RX1, "fetchedBy", "(II)I"⟩
abbrev cX1_giveAway : ByteArray := prog_3_method_7_code
def yX1_giveAway : MethodName := ⟨RX1, "giveAway", "(I)I"⟩
abbrev cX1_mixInto : ByteArray := prog_3_method_8_code
def yX1_mixInto : MethodName := ⟨RX1, "mixInto", "(J)J"⟩
def RX2 : String := "GrindMill$House"
def TX2 : u_T := fun k => match k with
  | 0 => ("GrindMill$House", "goods", "[LGrindMill$Goods;", true)
  | 1 => ("GrindMill$House", "clues", "LGrindMill$Clues;", true)
  | 2 => ("GrindMill$House", "past", "[I", true)
  | 3 => ("GrindMill$House", "pastCount", "I", false)
  | 4 => ("GrindMill$House", "goodsCount", "I", false)
  | 5 => ("GrindMill$House", "held", "I", false)
  | 6 => ("GrindMill$House", "word", "I", false)
  | 7 => ("GrindMill$House", "grinding", "I", false)
  | 8 => ("GrindMill$House", "cold", "I", false)
  | 9 => ("GrindMill$House", "hour", "I", false)
  | 10 => ("GrindMill$House", "spilled", "I", false)
  | _ => ("GrindMill$House", "money", "I", false)
def tyX2 : Nat → FieldType := fun k => match k with
  | 0 => .array (.object "GrindMill$Goods")
  | 1 => .object "GrindMill$Clues"
  | 2 => .array .int
  | 3 => .int
  | 4 => .int
  | 5 => .int
  | 6 => .int
  | 7 => .int
  | 8 => .int
  | 9 => .int
  | 10 => .int
  | _ => .int
abbrev wsX20 : List Cond := u_ws RX2 TX2 12
theorem nmX2 : ∀ a, a < 12 → ∀ b, b < 12 → a ≠ b → (TX2 a).2.1 ≠ (TX2 b).2.1 := by decide +kernel
theorem tyX2_ok : ∀ k, k < 12 → parseFieldDescriptor (TX2 k).2.2.1 = some (tyX2 k) := by decide +kernel
abbrev cX2_init : ByteArray := prog_4_method_1_code
def yX2_init : MethodName := ⟨RX2, "<init>", "([LGrindMill$Plain;)V"⟩
abbrev cX2_startAnew : ByteArray := prog_4_method_2_code
def yX2_startAnew : MethodName := ⟨RX2, "startAnew", "(I)V"⟩
abbrev cX2_copyFrom : ByteArray := prog_4_method_3_code
def yX2_copyFrom : MethodName := ⟨RX2, "copyFrom", "(LGrindMill$House;)V"⟩
abbrev cX2_has : ByteArray := prog_4_method_4_code
def yX2_has : MethodName := ⟨RX2, "has", "(I)Z"⟩
abbrev cX2_addGoods : ByteArray := prog_4_method_5_code
def yX2_addGoods : MethodName := ⟨RX2, "addGoods", "(III)V"⟩
abbrev cX2_allBushels : ByteArray := prog_4_method_6_code
def yX2_allBushels : MethodName := ⟨RX2, "allBushels", "()I"⟩
abbrev cX2_groundBy : ByteArray := prog_4_method_7_code
def yX2_groundBy : MethodName := ⟨RX2, "groundBy", "(II)I"⟩
abbrev cX2_groundWithin : ByteArray := prog_4_method_8_code
def yX2_groundWithin : MethodName := ⟨RX2, "groundWithin", "(II)I"⟩
abbrev cX2_passHour : ByteArray := prog_4_method_9_code
def yX2_passHour : MethodName := ⟨RX2, "passHour", "()I"⟩
abbrev cX2_remember : ByteArray := prog_4_method_10_code
def yX2_remember : MethodName := ⟨RX2, "remember", "()V"⟩
abbrev cX2_goBack : ByteArray := prog_4_method_11_code
def yX2_goBack : MethodName := ⟨RX2, "goBack", "()V"⟩
abbrev cX2_mixInto : ByteArray := prog_4_method_12_code
def yX2_mixInto : MethodName := ⟨RX2, "mixInto", "(J)J"⟩
def RX3 : String := "GrindMill$Mills"
def TX3 : u_T := fun k => match k with
  | _ => ("", "", "", false)
def tyX3 : Nat → FieldType := fun k => match k with
  | _ => .int
abbrev wsX30 : List Cond := u_ws RX3 TX3 0
theorem nmX3 : ∀ a, a < 0 → ∀ b, b < 0 → a ≠ b → (TX3 a).2.1 ≠ (TX3 b).2.1 := by decide +kernel
theorem tyX3_ok : ∀ k, k < 0 → parseFieldDescriptor (TX3 k).2.2.1 = some (tyX3 k) := by decide +kernel
abbrev cX3_init : ByteArray := prog_5_method_1_code
def yX3_init : MethodName := ⟨RX3, "<init>", "()V"⟩
abbrev cX3_ground : ByteArray := prog_5_method_2_code
def yX3_ground : MethodName := ⟨RX3, "ground", "(III)I"⟩
def RX4 : String := "GrindMill$Nothing"
def TX4 : u_T := fun k => match k with
  | _ => ("", "", "", false)
def tyX4 : Nat → FieldType := fun k => match k with
  | _ => .int
abbrev wsX40 : List Cond := u_ws RX4 TX4 0
theorem nmX4 : ∀ a, a < 0 → ∀ b, b < 0 → a ≠ b → (TX4 a).2.1 ≠ (TX4 b).2.1 := by decide +kernel
theorem tyX4_ok : ∀ k, k < 0 → parseFieldDescriptor (TX4 k).2.2.1 = some (tyX4 k) := by decide +kernel
abbrev cX4_init : ByteArray := prog_6_method_1_code
def yX4_init : MethodName := ⟨RX4, "<init>", "()V"⟩
abbrev cX4_ground : ByteArray := prog_6_method_2_code
def yX4_ground : MethodName := ⟨RX4, "ground", "(III)I"⟩
abbrev cX4_fetches : ByteArray := prog_6_method_3_code
def yX4_fetches : MethodName := ⟨RX4, "fetches", "(II)I"⟩
def RX5 : String := "GrindMill$Peace"
def TX5 : u_T := fun k => match k with
  | _ => ("", "", "", false)
def tyX5 : Nat → FieldType := fun k => match k with
  | _ => .int
abbrev wsX50 : List Cond := u_ws RX5 TX5 0
theorem nmX5 : ∀ a, a < 0 → ∀ b, b < 0 → a ≠ b → (TX5 a).2.1 ≠ (TX5 b).2.1 := by decide +kernel
theorem tyX5_ok : ∀ k, k < 0 → parseFieldDescriptor (TX5 k).2.2.1 = some (tyX5 k) := by decide +kernel
abbrev cX5_init : ByteArray := prog_7_method_1_code
def yX5_init : MethodName := ⟨RX5, "<init>", "()V"⟩
abbrev cX5_fetches : ByteArray := prog_7_method_2_code
def yX5_fetches : MethodName := ⟨RX5, "fetches", "(II)I"⟩
def RX6 : String := "GrindMill$Plain"
def TX6 : u_T := fun k => match k with
  | _ => ("", "", "", false)
def tyX6 : Nat → FieldType := fun k => match k with
  | _ => .int
abbrev wsX60 : List Cond := u_ws RX6 TX6 0
theorem nmX6 : ∀ a, a < 0 → ∀ b, b < 0 → a ≠ b → (TX6 a).2.1 ≠ (TX6 b).2.1 := by decide +kernel
theorem tyX6_ok : ∀ k, k < 0 → parseFieldDescriptor (TX6 k).2.2.1 = some (tyX6 k) := by decide +kernel
abbrev cX6_init : ByteArray := prog_8_method_1_code
def yX6_init : MethodName := ⟨RX6, "<init>", "()V"⟩
abbrev cX6_ground : ByteArray := prog_8_method_2_code
def yX6_ground : MethodName := ⟨RX6, "ground", "(III)I"⟩
abbrev cX6_fetches : ByteArray := prog_8_method_3_code
def yX6_fetches : MethodName := ⟨RX6, "fetches", "(II)I"⟩
def RX7 : String := "GrindMill$Plans"
def TX7 : u_T := fun k => match k with
  | 0 => ("GrindMill$Plans", "way", "[I", true)
  | 1 => ("GrindMill$Plans", "yields", "[I", true)
  | 2 => ("GrindMill$Plans", "fewest", "[I", true)
  | 3 => ("GrindMill$Plans", "gains", "[[I", true)
  | 4 => ("GrindMill$Plans", "most", "[[I", true)
  | 5 => ("GrindMill$Plans", "alone", "[I", true)
  | 6 => ("GrindMill$Plans", "firstOfTwo", "[I", true)
  | _ => ("GrindMill$Plans", "secondOfTwo", "[I", true)
def tyX7 : Nat → FieldType := fun k => match k with
  | 0 => .array .int
  | 1 => .array .int
  | 2 => .array .int
  | 3 => .array (.array .int)
  | 4 => .array (.array .int)
  | 5 => .array .int
  | 6 => .array .int
  | _ => .array .int
abbrev wsX70 : List Cond := u_ws RX7 TX7 8
theorem nmX7 : ∀ a, a < 8 → ∀ b, b < 8 → a ≠ b → (TX7 a).2.1 ≠ (TX7 b).2.1 := by decide +kernel
theorem tyX7_ok : ∀ k, k < 8 → parseFieldDescriptor (TX7 k).2.2.1 = some (tyX7 k) := by decide +kernel
abbrev cX7_init : ByteArray := prog_9_method_1_code
def yX7_init : MethodName := ⟨RX7, "<init>", "()V"⟩
abbrev cX7_fewestHours : ByteArray := prog_9_method_2_code
def yX7_fewestHours : MethodName := ⟨RX7, "fewestHours", "(LGrindMill$House;I)I"⟩
abbrev cX7_fillYields : ByteArray := prog_9_method_3_code
def yX7_fillYields : MethodName := ⟨RX7, "fillYields", "(LGrindMill$House;)V"⟩
abbrev cX7_fillFewest : ByteArray := prog_9_method_4_code
def yX7_fillFewest : MethodName := ⟨RX7, "fillFewest", "(II)V"⟩
abbrev cX7_staysFewest : ByteArray := prog_9_method_5_code
def yX7_staysFewest : MethodName := ⟨RX7, "staysFewest", "(II)Z"⟩
abbrev cX7_mostMoney : ByteArray := prog_9_method_6_code
def yX7_mostMoney : MethodName := ⟨RX7, "mostMoney", "(LGrindMill$House;I)I"⟩
abbrev cX7_fillMost : ByteArray := prog_9_method_7_code
def yX7_fillMost : MethodName := ⟨RX7, "fillMost", "(II)V"⟩
abbrev cX7_fillGains : ByteArray := prog_9_method_8_code
def yX7_fillGains : MethodName := ⟨RX7, "fillGains", "(LGrindMill$House;I)V"⟩
abbrev cX7_restingPairs : ByteArray := prog_9_method_9_code
def yX7_restingPairs : MethodName := ⟨RX7, "restingPairs", "(LGrindMill$House;II)I"⟩
abbrev cX7_fillStreet : ByteArray := prog_9_method_10_code
def yX7_fillStreet : MethodName := ⟨RX7, "fillStreet", "(LGrindMill$House;I)V"⟩
abbrev cX7_pairRests : ByteArray := prog_9_method_11_code
def yX7_pairRests : MethodName := ⟨RX7, "pairRests", "(III)Z"⟩
abbrev cX7_firstHas : ByteArray := prog_9_method_12_code
def yX7_firstHas : MethodName := ⟨RX7, "firstHas", "(II)I"⟩
abbrev cX7_secondHas : ByteArray := prog_9_method_13_code
def yX7_secondHas : MethodName := ⟨RX7, "secondHas", "(II)I"⟩
def RX8 : String := "GrindMill$Salt"
def TX8 : u_T := fun k => match k with
  | _ => ("", "", "", false)
def tyX8 : Nat → FieldType := fun k => match k with
  | _ => .int
abbrev wsX80 : List Cond := u_ws RX8 TX8 0
theorem nmX8 : ∀ a, a < 0 → ∀ b, b < 0 → a ≠ b → (TX8 a).2.1 ≠ (TX8 b).2.1 := by decide +kernel
theorem tyX8_ok : ∀ k, k < 0 → parseFieldDescriptor (TX8 k).2.2.1 = some (tyX8 k) := by decide +kernel
abbrev cX8_init : ByteArray := prog_10_method_1_code
def yX8_init : MethodName := ⟨RX8, "<init>", "()V"⟩
abbrev cX8_ground : ByteArray := prog_10_method_2_code
def yX8_ground : MethodName := ⟨RX8, "ground", "(III)I"⟩
abbrev cX8_fetches : ByteArray := prog_10_method_3_code
def yX8_fetches : MethodName := ⟨RX8, "fetches", "(II)I"⟩
def RX9 : String := "GrindMill$Slow"
def TX9 : u_T := fun k => match k with
  | _ => ("", "", "", false)
def tyX9 : Nat → FieldType := fun k => match k with
  | _ => .int
abbrev wsX90 : List Cond := u_ws RX9 TX9 0
theorem nmX9 : ∀ a, a < 0 → ∀ b, b < 0 → a ≠ b → (TX9 a).2.1 ≠ (TX9 b).2.1 := by decide +kernel
theorem tyX9_ok : ∀ k, k < 0 → parseFieldDescriptor (TX9 k).2.2.1 = some (tyX9 k) := by decide +kernel
abbrev cX9_init : ByteArray := prog_11_method_1_code
def yX9_init : MethodName := ⟨RX9, "<init>", "()V"⟩
abbrev cX9_ground : ByteArray := prog_11_method_2_code
def yX9_ground : MethodName := ⟨RX9, "ground", "(III)I"⟩
def RX10 : String := "GrindMill$Text"
def TX10 : u_T := fun k => match k with
  | 0 => ("GrindMill$Text", "bytes", "[B", true)
  | 1 => ("GrindMill$Text", "length", "I", false)
  | 2 => ("GrindMill$Text", "fault", "I", false)
  | _ => ("GrindMill$Text", "at", "I", false)
def tyX10 : Nat → FieldType := fun k => match k with
  | 0 => .array .byte
  | 1 => .int
  | 2 => .int
  | _ => .int
abbrev wsX100 : List Cond := u_ws RX10 TX10 4
theorem nmX10 : ∀ a, a < 4 → ∀ b, b < 4 → a ≠ b → (TX10 a).2.1 ≠ (TX10 b).2.1 := by decide +kernel
theorem tyX10_ok : ∀ k, k < 4 → parseFieldDescriptor (TX10 k).2.2.1 = some (tyX10 k) := by decide +kernel
abbrev cX10_init : ByteArray := prog_12_method_1_code
def yX10_init : MethodName := ⟨RX10, "<init>", "()V"⟩
abbrev cX10_append : ByteArray := prog_12_method_2_code
def yX10_append : MethodName := ⟨RX10, "append", "(I)V"⟩
abbrev cX10_readInto : ByteArray := prog_12_method_3_code
def yX10_readInto : MethodName := ⟨RX10, "readInto", "(LGrindMill$House;)I"⟩
abbrev cX10_readFirstItem : ByteArray := prog_12_method_4_code
def yX10_readFirstItem : MethodName := ⟨RX10, "readFirstItem", "(LGrindMill$House;)V"⟩
abbrev cX10_readLaterItem : ByteArray := prog_12_method_5_code
def yX10_readLaterItem : MethodName := ⟨RX10, "readLaterItem", "(LGrindMill$House;)V"⟩
abbrev cX10_readGoods : ByteArray := prog_12_method_6_code
def yX10_readGoods : MethodName := ⟨RX10, "readGoods", "(LGrindMill$House;I)V"⟩
abbrev cX10_readNumber : ByteArray := prog_12_method_7_code
def yX10_readNumber : MethodName := ⟨RX10, "readNumber", "(II)I"⟩
abbrev cX10_readItemsEnd : ByteArray := prog_12_method_8_code
def yX10_readItemsEnd : MethodName := ⟨RX10, "readItemsEnd", "()V"⟩
abbrev cX10_passBlanks : ByteArray := prog_12_method_9_code
def yX10_passBlanks : MethodName := ⟨RX10, "passBlanks", "()V"⟩
abbrev cX10_passLetters : ByteArray := prog_12_method_10_code
def yX10_passLetters : MethodName := ⟨RX10, "passLetters", "()V"⟩
abbrev cX10_isNamed : ByteArray := prog_12_method_11_code
def yX10_isNamed : MethodName := ⟨RX10, "isNamed", "(ILjava/lang/String;)Z"⟩
abbrev cX10_failAt : ByteArray := prog_12_method_12_code
def yX10_failAt : MethodName := ⟨RX10, "failAt", "(I)V"⟩
def RX11 : String := "GrindMill"
def TX11 : u_T := fun k => match k with
  | 0 => ("GrindMill", "images", "[LGrindMill$House;", true)
  | 1 => ("GrindMill", "kept", "[Z", true)
  | 2 => ("GrindMill", "text", "LGrindMill$Text;", true)
  | 3 => ("GrindMill", "plans", "LGrindMill$Plans;", true)
  | 4 => ("GrindMill", "refused", "[I", true)
  | 5 => ("GrindMill", "now", "LGrindMill$House;", false)
  | 6 => ("GrindMill", "spare", "LGrindMill$House;", false)
  | 7 => ("GrindMill", "above", "J", false)
  | _ => ("GrindMill", "below", "J", false)
def tyX11 : Nat → FieldType := fun k => match k with
  | 0 => .array (.object "GrindMill$House")
  | 1 => .array .boolean
  | 2 => .object "GrindMill$Text"
  | 3 => .object "GrindMill$Plans"
  | 4 => .array .int
  | 5 => .object "GrindMill$House"
  | 6 => .object "GrindMill$House"
  | 7 => .long
  | _ => .long
abbrev wsX110 : List Cond := u_ws RX11 TX11 9
theorem nmX11 : ∀ a, a < 9 → ∀ b, b < 9 → a ≠ b → (TX11 a).2.1 ≠ (TX11 b).2.1 := by decide +kernel
theorem tyX11_ok : ∀ k, k < 9 → parseFieldDescriptor (TX11 k).2.2.1 = some (tyX11 k) := by decide +kernel
abbrev cX11_init : ByteArray := prog_1_method_1_code
def yX11_init : MethodName := ⟨RX11, "<init>", "()V"⟩
abbrev cX11_mill : ByteArray := prog_1_method_2_code
def yX11_mill : MethodName := ⟨RX11, "mill", "(I)I"⟩
abbrev cX11_goods : ByteArray := prog_1_method_3_code
def yX11_goods : MethodName := ⟨RX11, "goods", "(III)I"⟩
abbrev cX11_word : ByteArray := prog_1_method_4_code
def yX11_word : MethodName := ⟨RX11, "word", "(I)I"⟩
abbrev cX11_type : ByteArray := prog_1_method_5_code
def yX11_type : MethodName := ⟨RX11, "type", "(I)I"⟩
abbrev cX11_clear : ByteArray := prog_1_method_6_code
def yX11_clear : MethodName := ⟨RX11, "clear", "()I"⟩
abbrev cX11_read : ByteArray := prog_1_method_7_code
def yX11_read : MethodName := ⟨RX11, "read", "()I"⟩
abbrev cX11_grind : ByteArray := prog_1_method_8_code
def yX11_grind : MethodName := ⟨RX11, "grind", "(I)I"⟩
abbrev cX11_hour : ByteArray := prog_1_method_9_code
def yX11_hour : MethodName := ⟨RX11, "hour", "(I)I"⟩
abbrev cX11_say : ByteArray := prog_1_method_10_code
def yX11_say : MethodName := ⟨RX11, "say", "(I)I"⟩
abbrev cX11_sell : ByteArray := prog_1_method_11_code
def yX11_sell : MethodName := ⟨RX11, "sell", "(II)I"⟩
abbrev cX11_cold : ByteArray := prog_1_method_12_code
def yX11_cold : MethodName := ⟨RX11, "cold", "(I)I"⟩
abbrev cX11_undo : ByteArray := prog_1_method_13_code
def yX11_undo : MethodName := ⟨RX11, "undo", "()I"⟩
abbrev cX11_of : ByteArray := prog_1_method_14_code
def yX11_of : MethodName := ⟨RX11, "of", "(II)I"⟩
abbrev cX11_grinds : ByteArray := prog_1_method_15_code
def yX11_grinds : MethodName := ⟨RX11, "grinds", "()I"⟩
abbrev cX11_then : ByteArray := prog_1_method_16_code
def yX11_then : MethodName := ⟨RX11, "then", "(II)I"⟩
abbrev cX11_full : ByteArray := prog_1_method_17_code
def yX11_full : MethodName := ⟨RX11, "full", "()I"⟩
abbrev cX11_just : ByteArray := prog_1_method_18_code
def yX11_just : MethodName := ⟨RX11, "just", "(II)I"⟩
abbrev cX11_best : ByteArray := prog_1_method_19_code
def yX11_best : MethodName := ⟨RX11, "best", "(II)I"⟩
abbrev cX11_ship : ByteArray := prog_1_method_20_code
def yX11_ship : MethodName := ⟨RX11, "ship", "(II)I"⟩
abbrev cX11_guess : ByteArray := prog_1_method_21_code
def yX11_guess : MethodName := ⟨RX11, "guess", "(II)I"⟩
abbrev cX11_words : ByteArray := prog_1_method_22_code
def yX11_words : MethodName := ⟨RX11, "words", "(I)I"⟩
abbrev cX11_nextGuess : ByteArray := prog_1_method_23_code
def yX11_nextGuess : MethodName := ⟨RX11, "nextGuess", "()I"⟩
abbrev cX11_street : ByteArray := prog_1_method_24_code
def yX11_street : MethodName := ⟨RX11, "street", "(II)I"⟩
abbrev cX11_note : ByteArray := prog_1_method_25_code
def yX11_note : MethodName := ⟨RX11, "note", "(IIII)I"⟩
abbrev cX11_forget : ByteArray := prog_1_method_26_code
def yX11_forget : MethodName := ⟨RX11, "forget", "(I)I"⟩
abbrev cX11_is : ByteArray := prog_1_method_27_code
def yX11_is : MethodName := ⟨RX11, "is", "(II)I"⟩
abbrev cX11_look : ByteArray := prog_1_method_28_code
def yX11_look : MethodName := ⟨RX11, "look", "(I)I"⟩
abbrev cX11_thieves : ByteArray := prog_1_method_29_code
def yX11_thieves : MethodName := ⟨RX11, "thieves", "(III)I"⟩
abbrev cX11_mills : ByteArray := prog_1_method_30_code
def yX11_mills : MethodName := ⟨RX11, "mills", "(II)I"⟩
abbrev cX11_part : ByteArray := prog_1_method_31_code
def yX11_part : MethodName := ⟨RX11, "part", "(I)J"⟩
abbrev cX11_image : ByteArray := prog_1_method_32_code
def yX11_image : MethodName := ⟨RX11, "image", "(I)I"⟩
abbrev cX11_from : ByteArray := prog_1_method_33_code
def yX11_from : MethodName := ⟨RX11, "from", "(I)I"⟩
abbrev cX11_status : ByteArray := prog_1_method_34_code
def yX11_status : MethodName := ⟨RX11, "status", "(I)I"⟩
abbrev cX11_count : ByteArray := prog_1_method_35_code
def yX11_count : MethodName := ⟨RX11, "count", "(I)I"⟩
abbrev cX11_digest : ByteArray := prog_1_method_36_code
def yX11_digest : MethodName := ⟨RX11, "digest", "()J"⟩
abbrev cX11_amountOf : ByteArray := prog_1_method_37_code
def yX11_amountOf : MethodName := ⟨RX11, "amountOf", "(I)I"⟩
abbrev cX11_refuse : ByteArray := prog_1_method_38_code
def yX11_refuse : MethodName := ⟨RX11, "refuse", "(I)I"⟩
abbrev cX11_refuseApart : ByteArray := prog_1_method_39_code
def yX11_refuseApart : MethodName := ⟨RX11, "refuseApart", "()I"⟩
abbrev cX11_within : ByteArray := prog_1_method_40_code
def yX11_within : MethodName := ⟨RX11, "within", "(III)Z"⟩
abbrev cX11_isWord : ByteArray := prog_1_method_41_code
def yX11_isWord : MethodName := ⟨RX11, "isWord", "(I)Z"⟩
abbrev cX11_likeLetters : ByteArray := prog_1_method_42_code
def yX11_likeLetters : MethodName := ⟨RX11, "likeLetters", "(II)I"⟩
abbrev cX11_leastIn : ByteArray := prog_1_method_43_code
def yX11_leastIn : MethodName := ⟨RX11, "leastIn", "(I)I"⟩
abbrev cX11_greatestDivisor : ByteArray := prog_1_method_44_code
def yX11_greatestDivisor : MethodName := ⟨RX11, "greatestDivisor", "(JJ)J"⟩
def RX12 : String := "GrindMillModel"
def TX12 : u_T := fun k => match k with
  | 0 => ("GrindMillModel", "row", "[I", true)
  | 1 => ("GrindMillModel", "isKept", "[Z", true)
  | 2 => ("GrindMillModel", "refused", "[I", true)
  | 3 => ("GrindMillModel", "above", "J", false)
  | 4 => ("GrindMillModel", "below", "J", false)
  | 5 => ("GrindMillModel", "text", "[I", true)
  | 6 => ("GrindMillModel", "length", "I", false)
  | 7 => ("GrindMillModel", "words", "[I", true)
  | 8 => ("GrindMillModel", "at", "I", false)
  | 9 => ("GrindMillModel", "behind", "I", false)
  | 10 => ("GrindMillModel", "readHolds", "I", false)
  | 11 => ("GrindMillModel", "readWord", "I", false)
  | 12 => ("GrindMillModel", "readCold", "I", false)
  | 13 => ("GrindMillModel", "readGrinds", "I", false)
  | 14 => ("GrindMillModel", "readGoods", "[I", true)
  | 15 => ("GrindMillModel", "readMany", "I", false)
  | 16 => ("GrindMillModel", "fewest", "[I", true)
  | 17 => ("GrindMillModel", "richest", "[I", true)
  | 18 => ("GrindMillModel", "likes", "[I", true)
  | 19 => ("GrindMillModel", "firstMoney", "[I", true)
  | _ => ("GrindMillModel", "otherMoney", "[I", true)
def tyX12 : Nat → FieldType := fun k => match k with
  | 0 => .array .int
  | 1 => .array .boolean
  | 2 => .array .int
  | 3 => .long
  | 4 => .long
  | 5 => .array .int
  | 6 => .int
  | 7 => .array .int
  | 8 => .int
  | 9 => .int
  | 10 => .int
  | 11 => .int
  | 12 => .int
  | 13 => .int
  | 14 => .array .int
  | 15 => .int
  | 16 => .array .int
  | 17 => .array .int
  | 18 => .array .int
  | 19 => .array .int
  | _ => .array .int
abbrev wsX120 : List Cond := u_ws RX12 TX12 21
theorem nmX12 : ∀ a, a < 21 → ∀ b, b < 21 → a ≠ b → (TX12 a).2.1 ≠ (TX12 b).2.1 := by decide +kernel
theorem tyX12_ok : ∀ k, k < 21 → parseFieldDescriptor (TX12 k).2.2.1 = some (tyX12 k) := by decide +kernel
abbrev cX12_init : ByteArray := prog_14_method_1_code
def yX12_init : MethodName := ⟨RX12, "<init>", "()V"⟩
abbrev cX12_in : ByteArray := prog_14_method_2_code
def yX12_in : MethodName := ⟨RX12, "in", "(III)Z"⟩
abbrev cX12_has : ByteArray := prog_14_method_3_code
def yX12_has : MethodName := ⟨RX12, "has", "(II)Z"⟩
abbrev cX12_refuse : ByteArray := prog_14_method_4_code
def yX12_refuse : MethodName := ⟨RX12, "refuse", "(I)I"⟩
abbrev cX12_layMill : ByteArray := prog_14_method_5_code
def yX12_layMill : MethodName := ⟨RX12, "layMill", "(I)V"⟩
abbrev cX12_mill : ByteArray := prog_14_method_6_code
def yX12_mill : MethodName := ⟨RX12, "mill", "(I)I"⟩
abbrev cX12_addGoods : ByteArray := prog_14_method_7_code
def yX12_addGoods : MethodName := ⟨RX12, "addGoods", "(III)V"⟩
abbrev cX12_goods : ByteArray := prog_14_method_8_code
def yX12_goods : MethodName := ⟨RX12, "goods", "(III)I"⟩
abbrev cX12_word : ByteArray := prog_14_method_9_code
def yX12_word : MethodName := ⟨RX12, "word", "(I)I"⟩
abbrev cX12_type : ByteArray := prog_14_method_10_code
def yX12_type : MethodName := ⟨RX12, "type", "(I)I"⟩
abbrev cX12_clear : ByteArray := prog_14_method_11_code
def yX12_clear : MethodName := ⟨RX12, "clear", "()I"⟩
abbrev cX12_isLetter : ByteArray := prog_14_method_12_code
def yX12_isLetter : MethodName := ⟨RX12, "isLetter", "(I)Z"⟩
abbrev cX12_isFigure : ByteArray := prog_14_method_13_code
def yX12_isFigure : MethodName := ⟨RX12, "isFigure", "(I)Z"⟩
abbrev cX12_next : ByteArray := prog_14_method_14_code
def yX12_next : MethodName := ⟨RX12, "next", "()V"⟩
abbrev cX12_isWord : ByteArray := prog_14_method_15_code
def yX12_isWord : MethodName := ⟨RX12, "isWord", "(I)Z"⟩
abbrev cX12_wordHere : ByteArray := prog_14_method_16_code
def yX12_wordHere : MethodName := ⟨RX12, "wordHere", "()I"⟩
abbrev cX12_number : ByteArray := prog_14_method_17_code
def yX12_number : MethodName := ⟨RX12, "number", "(II)I"⟩
abbrev cX12_readsGoods : ByteArray := prog_14_method_18_code
def yX12_readsGoods : MethodName := ⟨RX12, "readsGoods", "()Z"⟩
abbrev cX12_readsItem : ByteArray := prog_14_method_19_code
def yX12_readsItem : MethodName := ⟨RX12, "readsItem", "(I)Z"⟩
abbrev cX12_readItems : ByteArray := prog_14_method_20_code
def yX12_readItems : MethodName := ⟨RX12, "readItems", "()I"⟩
abbrev cX12_read : ByteArray := prog_14_method_21_code
def yX12_read : MethodName := ⟨RX12, "read", "()I"⟩
abbrev cX12_isGoods : ByteArray := prog_14_method_22_code
def yX12_isGoods : MethodName := ⟨RX12, "isGoods", "(I)Z"⟩
abbrev cX12_groundBy : ByteArray := prog_14_method_23_code
def yX12_groundBy : MethodName := ⟨RX12, "groundBy", "(IIII)I"⟩
abbrev cX12_ground : ByteArray := prog_14_method_24_code
def yX12_ground : MethodName := ⟨RX12, "ground", "(III)I"⟩
abbrev cX12_fetches : ByteArray := prog_14_method_25_code
def yX12_fetches : MethodName := ⟨RX12, "fetches", "(II)I"⟩
abbrev cX12_inHouse : ByteArray := prog_14_method_26_code
def yX12_inHouse : MethodName := ⟨RX12, "inHouse", "(I)I"⟩
abbrev cX12_pass : ByteArray := prog_14_method_27_code
def yX12_pass : MethodName := ⟨RX12, "pass", "(II)I"⟩
abbrev cX12_keepPast : ByteArray := prog_14_method_28_code
def yX12_keepPast : MethodName := ⟨RX12, "keepPast", "()V"⟩
abbrev cX12_badTen : ByteArray := prog_14_method_29_code
def yX12_badTen : MethodName := ⟨RX12, "badTen", "()I"⟩
abbrev cX12_grind : ByteArray := prog_14_method_30_code
def yX12_grind : MethodName := ⟨RX12, "grind", "(I)I"⟩
abbrev cX12_hour : ByteArray := prog_14_method_31_code
def yX12_hour : MethodName := ⟨RX12, "hour", "(I)I"⟩
abbrev cX12_alike : ByteArray := prog_14_method_32_code
def yX12_alike : MethodName := ⟨RX12, "alike", "(II)I"⟩
abbrev cX12_say : ByteArray := prog_14_method_33_code
def yX12_say : MethodName := ⟨RX12, "say", "(I)I"⟩
abbrev cX12_sell : ByteArray := prog_14_method_34_code
def yX12_sell : MethodName := ⟨RX12, "sell", "(II)I"⟩
abbrev cX12_cold : ByteArray := prog_14_method_35_code
def yX12_cold : MethodName := ⟨RX12, "cold", "(I)I"⟩
abbrev cX12_undo : ByteArray := prog_14_method_36_code
def yX12_undo : MethodName := ⟨RX12, "undo", "()I"⟩
abbrev cX12_of : ByteArray := prog_14_method_37_code
def yX12_of : MethodName := ⟨RX12, "of", "(II)I"⟩
abbrev cX12_grinds : ByteArray := prog_14_method_38_code
def yX12_grinds : MethodName := ⟨RX12, "grinds", "()I"⟩
abbrev cX12_layTried : ByteArray := prog_14_method_39_code
def yX12_layTried : MethodName := ⟨RX12, "layTried", "()V"⟩
abbrev cX12_then : ByteArray := prog_14_method_40_code
def yX12_then : MethodName := ⟨RX12, "then", "(II)I"⟩
abbrev cX12_full : ByteArray := prog_14_method_41_code
def yX12_full : MethodName := ⟨RX12, "full", "()I"⟩
abbrev cX12_layFewest : ByteArray := prog_14_method_42_code
def yX12_layFewest : MethodName := ⟨RX12, "layFewest", "(I)V"⟩
abbrev cX12_just : ByteArray := prog_14_method_43_code
def yX12_just : MethodName := ⟨RX12, "just", "(II)I"⟩
abbrev cX12_brings : ByteArray := prog_14_method_44_code
def yX12_brings : MethodName := ⟨RX12, "brings", "(II)I"⟩
abbrev cX12_layRichest : ByteArray := prog_14_method_45_code
def yX12_layRichest : MethodName := ⟨RX12, "layRichest", "(I)V"⟩
abbrev cX12_best : ByteArray := prog_14_method_46_code
def yX12_best : MethodName := ⟨RX12, "best", "(II)I"⟩
abbrev cX12_ship : ByteArray := prog_14_method_47_code
def yX12_ship : MethodName := ⟨RX12, "ship", "(II)I"⟩
abbrev cX12_guess : ByteArray := prog_14_method_48_code
def yX12_guess : MethodName := ⟨RX12, "guess", "(II)I"⟩
abbrev cX12_mayBe : ByteArray := prog_14_method_49_code
def yX12_mayBe : MethodName := ⟨RX12, "mayBe", "(I)Z"⟩
abbrev cX12_words : ByteArray := prog_14_method_50_code
def yX12_words : MethodName := ⟨RX12, "words", "(I)I"⟩
abbrev cX12_mostAlike : ByteArray := prog_14_method_51_code
def yX12_mostAlike : MethodName := ⟨RX12, "mostAlike", "(I)I"⟩
abbrev cX12_nextGuess : ByteArray := prog_14_method_52_code
def yX12_nextGuess : MethodName := ⟨RX12, "nextGuess", "()I"⟩
abbrev cX12_layStreet : ByteArray := prog_14_method_53_code
def yX12_layStreet : MethodName := ⟨RX12, "layStreet", "(I)V"⟩
abbrev cX12_rests : ByteArray := prog_14_method_54_code
def yX12_rests : MethodName := ⟨RX12, "rests", "(II)Z"⟩
abbrev cX12_street : ByteArray := prog_14_method_55_code
def yX12_street : MethodName := ⟨RX12, "street", "(II)I"⟩
abbrev cX12_note : ByteArray := prog_14_method_56_code
def yX12_note : MethodName := ⟨RX12, "note", "(IIII)I"⟩
abbrev cX12_forget : ByteArray := prog_14_method_57_code
def yX12_forget : MethodName := ⟨RX12, "forget", "(I)I"⟩
abbrev cX12_isNoted : ByteArray := prog_14_method_58_code
def yX12_isNoted : MethodName := ⟨RX12, "isNoted", "(III)Z"⟩
abbrev cX12_kindsOf : ByteArray := prog_14_method_59_code
def yX12_kindsOf : MethodName := ⟨RX12, "kindsOf", "(I)I"⟩
abbrev cX12_is : ByteArray := prog_14_method_60_code
def yX12_is : MethodName := ⟨RX12, "is", "(II)I"⟩
abbrev cX12_mostKinds : ByteArray := prog_14_method_61_code
def yX12_mostKinds : MethodName := ⟨RX12, "mostKinds", "(IIII)I"⟩
abbrev cX12_look : ByteArray := prog_14_method_62_code
def yX12_look : MethodName := ⟨RX12, "look", "(I)I"⟩
abbrev cX12_tellPart : ByteArray := prog_14_method_63_code
def yX12_tellPart : MethodName := ⟨RX12, "tellPart", "(JJ)V"⟩
abbrev cX12_thieves : ByteArray := prog_14_method_64_code
def yX12_thieves : MethodName := ⟨RX12, "thieves", "(III)I"⟩
abbrev cX12_mills : ByteArray := prog_14_method_65_code
def yX12_mills : MethodName := ⟨RX12, "mills", "(II)I"⟩
abbrev cX12_part : ByteArray := prog_14_method_66_code
def yX12_part : MethodName := ⟨RX12, "part", "(I)J"⟩
abbrev cX12_image : ByteArray := prog_14_method_67_code
def yX12_image : MethodName := ⟨RX12, "image", "(I)I"⟩
abbrev cX12_from : ByteArray := prog_14_method_68_code
def yX12_from : MethodName := ⟨RX12, "from", "(I)I"⟩
abbrev cX12_status : ByteArray := prog_14_method_69_code
def yX12_status : MethodName := ⟨RX12, "status", "(I)I"⟩
abbrev cX12_countOf : ByteArray := prog_14_method_70_code
def yX12_countOf : MethodName := ⟨RX12, "countOf", "(I)I"⟩
abbrev cX12_count : ByteArray := prog_14_method_71_code
def yX12_count : MethodName := ⟨RX12, "count", "(I)I"⟩
abbrev cX12_digest : ByteArray := prog_14_method_72_code
def yX12_digest : MethodName := ⟨RX12, "digest", "()J"⟩
def RJ6 : String := "java/lang/Integer"
def TJ6 : u_T := fun k => match k with
  | _ => ("", "", "", false)
def tyJ6 : Nat → FieldType := fun k => match k with
  | _ => .int
abbrev wsJ60 : List Cond := u_ws RJ6 TJ6 0
theorem nmJ6 : ∀ a, a < 0 → ∀ b, b < 0 → a ≠ b → (TJ6 a).2.1 ≠ (TJ6 b).2.1 := by decide +kernel
theorem tyJ6_ok : ∀ k, k < 0 → parseFieldDescriptor (TJ6 k).2.2.1 = some (tyJ6 k) := by decide +kernel
abbrev cJ6_bitCount_0f7a4 : ByteArray := prog_15_method_49_code
def yJ6_bitCount_0f7a4 : MethodName := ⟨RJ6, "bitCount", "(I)I"⟩
def RJ9 : String := "java/lang/Math"
def TJ9 : u_T := fun k => match k with
  | _ => ("", "", "", false)
def tyJ9 : Nat → FieldType := fun k => match k with
  | _ => .int
abbrev wsJ90 : List Cond := u_ws RJ9 TJ9 0
theorem nmJ9 : ∀ a, a < 0 → ∀ b, b < 0 → a ≠ b → (TJ9 a).2.1 ≠ (TJ9 b).2.1 := by decide +kernel
theorem tyJ9_ok : ∀ k, k < 0 → parseFieldDescriptor (TJ9 k).2.2.1 = some (tyJ9 k) := by decide +kernel
abbrev cJ9_max_7cf53 : ByteArray := prog_16_method_65_code
def yJ9_max_7cf53 : MethodName := ⟨RJ9, "max", "(II)I"⟩
abbrev cJ9_max_f86c9 : ByteArray := prog_16_method_66_code
def yJ9_max_f86c9 : MethodName := ⟨RJ9, "max", "(JJ)J"⟩
abbrev cJ9_min_7cf53 : ByteArray := prog_16_method_69_code
def yJ9_min_7cf53 : MethodName := ⟨RJ9, "min", "(II)I"⟩
def RJ0 : String := "java/lang/String"
def TJ0 : u_T := fun k => match k with
  | _ => ("", "", "", false)
def tyJ0 : Nat → FieldType := fun k => match k with
  | _ => .int
abbrev wsJ00 : List Cond := u_ws RJ0 TJ0 0
theorem nmJ0 : ∀ a, a < 0 → ∀ b, b < 0 → a ≠ b → (TJ0 a).2.1 ≠ (TJ0 b).2.1 := by decide +kernel
theorem tyJ0_ok : ∀ k, k < 0 → parseFieldDescriptor (TJ0 k).2.2.1 = some (tyJ0 k) := by decide +kernel
abbrev cJ0_length_8abf5 : ByteArray := prog_17_method_54_code
def yJ0_length_8abf5 : MethodName := ⟨RJ0, "length", "()I"⟩
abbrev cJ0_charAt_5068e : ByteArray := prog_17_method_56_code
def yJ0_charAt_5068e : MethodName := ⟨RJ0, "charAt", "(I)C"⟩
abbrev cJ0_coder_7d493 : ByteArray := prog_17_method_152_code
def yJ0_coder_7d493 : MethodName := ⟨RJ0, "coder", "()B"⟩
abbrev cJ0_isLatin1_aae02 : ByteArray := prog_17_method_154_code
def yJ0_isLatin1_aae02 : MethodName := ⟨RJ0, "isLatin1", "()Z"⟩
abbrev cJ0_checkIndex_df160 : ByteArray := prog_17_method_155_code
def yJ0_checkIndex_df160 : MethodName := ⟨RJ0, "checkIndex", "(II)V"⟩
def RJ1 : String := "java/lang/StringLatin1"
def TJ1 : u_T := fun k => match k with
  | _ => ("", "", "", false)
def tyJ1 : Nat → FieldType := fun k => match k with
  | _ => .int
abbrev wsJ10 : List Cond := u_ws RJ1 TJ1 0
theorem nmJ1 : ∀ a, a < 0 → ∀ b, b < 0 → a ≠ b → (TJ1 a).2.1 ≠ (TJ1 b).2.1 := by decide +kernel
theorem tyJ1_ok : ∀ k, k < 0 → parseFieldDescriptor (TJ1 k).2.2.1 = some (tyJ1 k) := by decide +kernel
abbrev cJ1_charAt_3b067 : ByteArray := prog_18_method_2_code
def yJ1_charAt_3b067 : MethodName := ⟨RJ1, "charAt", "([BI)C"⟩
def RJ2 : String := "java/lang/StringUTF16"
def TJ2 : u_T := fun k => match k with
  | _ => ("", "", "", false)
def tyJ2 : Nat → FieldType := fun k => match k with
  | _ => .int
abbrev wsJ20 : List Cond := u_ws RJ2 TJ2 0
theorem nmJ2 : ∀ a, a < 0 → ∀ b, b < 0 → a ≠ b → (TJ2 a).2.1 ≠ (TJ2 b).2.1 := by decide +kernel
theorem tyJ2_ok : ∀ k, k < 0 → parseFieldDescriptor (TJ2 k).2.2.1 = some (tyJ2 k) := by decide +kernel
abbrev cJ2_getChar_3b067 : ByteArray := prog_19_method_5_code
def yJ2_getChar_3b067 : MethodName := ⟨RJ2, "getChar", "([BI)C"⟩
abbrev cJ2_length_9d52b : ByteArray := prog_19_method_6_code
def yJ2_length_9d52b : MethodName := ⟨RJ2, "length", "([B)I"⟩
abbrev cJ2_charAt_3b067 : ByteArray := prog_19_method_83_code
def yJ2_charAt_3b067 : MethodName := ⟨RJ2, "charAt", "([BI)C"⟩
abbrev cJ2_checkIndex_2214a : ByteArray := prog_19_method_91_code
def yJ2_checkIndex_2214a : MethodName := ⟨RJ2, "checkIndex", "(I[B)V"⟩
def RJ10 : String := "java/lang/System"
def TJ10 : u_T := fun k => match k with
  | _ => ("", "", "", false)
def tyJ10 : Nat → FieldType := fun k => match k with
  | _ => .int
abbrev wsJ100 : List Cond := u_ws RJ10 TJ10 0
theorem nmJ10 : ∀ a, a < 0 → ∀ b, b < 0 → a ≠ b → (TJ10 a).2.1 ≠ (TJ10 b).2.1 := by decide +kernel
theorem tyJ10_ok : ∀ k, k < 0 → parseFieldDescriptor (TJ10 k).2.2.1 = some (tyJ10 k) := by decide +kernel
def RJ3 : String := "jdk/internal/util/Preconditions"
def TJ3 : u_T := fun k => match k with
  | _ => ("", "", "", false)
def tyJ3 : Nat → FieldType := fun k => match k with
  | _ => .int
abbrev wsJ30 : List Cond := u_ws RJ3 TJ3 0
theorem nmJ3 : ∀ a, a < 0 → ∀ b, b < 0 → a ≠ b → (TJ3 a).2.1 ≠ (TJ3 b).2.1 := by decide +kernel
theorem tyJ3_ok : ∀ k, k < 0 → parseFieldDescriptor (TJ3 k).2.2.1 = some (tyJ3 k) := by decide +kernel
abbrev cJ3_checkIndex_8e157 : ByteArray := prog_21_method_11_code
def yJ3_checkIndex_8e157 : MethodName := ⟨RJ3, "checkIndex", "(IILjava/util/function/BiFunction;)I"⟩
def RL : String := "GrindMillLaw"
abbrev cL_law : ByteArray := code
def yL_law : MethodName := ⟨RL, "law", "([I)Z"⟩
abbrev vwCl : List vw_C := [(RX0, TX0, 8), (RX1, TX1, 6), (RX2, TX2, 12), (RX3, TX3, 0), (RX4, TX4, 0), (RX5, TX5, 0), (RX6, TX6, 0), (RX7, TX7, 8), (RX8, TX8, 0), (RX9, TX9, 0), (RX10, TX10, 4), (RX11, TX11, 9), (RX12, TX12, 21)]
end
section
/-! THE WORLD AS FUNCTIONS: cell a has a kind and a length; its ints, longs, references by place -/
abbrev Wd : Type := Nat × (Nat → Nat × Nat) × (Nat → Nat → Int32) × (Nat → Nat → Int64) × (Nat → Nat → Option Nat)
def wN (w : Wd) : Nat := w.1
def wS (w : Wd) : Nat → Nat × Nat := w.2.1
def wI (w : Wd) : Nat → Nat → Int32 := w.2.2.1
def wL (w : Wd) : Nat → Nat → Int64 := w.2.2.2.1
def wR (w : Wd) : Nat → Nat → Option Nat := w.2.2.2.2
def sI (w : Wd) (a k : Nat) (x : Int32) : Wd := (wN w, wS w, fun b j => if b = a ∧ j = k then x else wI w b j, wL w, wR w)
def sL (w : Wd) (a k : Nat) (x : Int64) : Wd := (wN w, wS w, wI w, fun b j => if b = a ∧ j = k then x else wL w b j, wR w)
def sR (w : Wd) (a k : Nat) (r : Nat) : Wd := (wN w, wS w, wI w, wL w, fun b j => if b = a ∧ j = k then some r else wR w b j)
def nC (w : Wd) (t n : Nat) : Wd := (wN w + 1, fun b => if b = wN w then (t, n) else wS w b, fun b j => if b = wN w then 0 else wI w b j, fun b j => if b = wN w then 0 else wL w b j, fun b j => if b = wN w then none else wR w b j)
def cI (w : Wd) (a0 sp a dp n : Nat) : Wd := (wN w, wS w, fun b j => if b = a ∧ dp ≤ j ∧ j < dp + n then wI w a0 (sp + (j - dp)) else wI w b j, wL w, wR w)
/-- int[m][n] at once: the outer row, then the inner ones -/
def nG (w : Wd) (m n : Nat) : Wd := (wN w + 1 + m, fun b => if b = wN w then (19, m) else if wN w < b ∧ b < wN w + 1 + m then (14, n) else wS w b, fun b j => if wN w ≤ b ∧ b < wN w + 1 + m then 0 else wI w b j, fun b j => if wN w ≤ b ∧ b < wN w + 1 + m then 0 else wL w b j, fun b j => if b = wN w then (if j < m then some (wN w + 1 + j) else none) else if wN w < b ∧ b < wN w + 1 + m then none else wR w b j)
theorem wN_sI (w : Wd) (a k : Nat) (x : Int32) : wN (sI w a k x) = wN w := rfl
theorem wS_sI (w : Wd) (a k : Nat) (x : Int32) : wS (sI w a k x) = wS w := rfl
theorem wL_sI (w : Wd) (a k : Nat) (x : Int32) : wL (sI w a k x) = wL w := rfl
theorem wR_sI (w : Wd) (a k : Nat) (x : Int32) : wR (sI w a k x) = wR w := rfl
theorem wI_sI (w : Wd) (a k : Nat) (x : Int32) (b j : Nat) : wI (sI w a k x) b j = if b = a ∧ j = k then x else wI w b j := rfl
theorem wN_sL (w : Wd) (a k : Nat) (x : Int64) : wN (sL w a k x) = wN w := rfl
theorem wS_sL (w : Wd) (a k : Nat) (x : Int64) : wS (sL w a k x) = wS w := rfl
theorem wI_sL (w : Wd) (a k : Nat) (x : Int64) : wI (sL w a k x) = wI w := rfl
theorem wR_sL (w : Wd) (a k : Nat) (x : Int64) : wR (sL w a k x) = wR w := rfl
theorem wL_sL (w : Wd) (a k : Nat) (x : Int64) (b j : Nat) : wL (sL w a k x) b j = if b = a ∧ j = k then x else wL w b j := rfl
theorem wN_sR (w : Wd) (a k r : Nat) : wN (sR w a k r) = wN w := rfl
theorem wS_sR (w : Wd) (a k r : Nat) : wS (sR w a k r) = wS w := rfl
theorem wI_sR (w : Wd) (a k r : Nat) : wI (sR w a k r) = wI w := rfl
theorem wL_sR (w : Wd) (a k r : Nat) : wL (sR w a k r) = wL w := rfl
theorem wR_sR (w : Wd) (a k r : Nat) (b j : Nat) : wR (sR w a k r) b j = if b = a ∧ j = k then some r else wR w b j := rfl
theorem wN_cI (w : Wd) (a0 sp a dp n : Nat) : wN (cI w a0 sp a dp n) = wN w := rfl
theorem wS_cI (w : Wd) (a0 sp a dp n : Nat) : wS (cI w a0 sp a dp n) = wS w := rfl
theorem wL_cI (w : Wd) (a0 sp a dp n : Nat) : wL (cI w a0 sp a dp n) = wL w := rfl
theorem wR_cI (w : Wd) (a0 sp a dp n : Nat) : wR (cI w a0 sp a dp n) = wR w := rfl
theorem wI_cI (w : Wd) (a0 sp a dp n b j : Nat) : wI (cI w a0 sp a dp n) b j = if b = a ∧ dp ≤ j ∧ j < dp + n then wI w a0 (sp + (j - dp)) else wI w b j := rfl
/-! the words of the decompiled methods -/
def isO (w : Wd) (a t : Nat) : Bool := decide (a < wN w) && (wS w a).1 == t
def inb (w : Wd) (a : Nat) (i : Int32) : Bool := decide (0 ≤ i) && decide (i.toNatClampNeg < (wS w a).2)
def gI {α : Type} (w : Wd) (a t k : Nat) (K : Int32 → Option α) : Option α := if isO w a t then K (wI w a k) else none
def gL {α : Type} (w : Wd) (a t k : Nat) (K : Int64 → Option α) : Option α := if isO w a t then K (wL w a k) else none
def gR {α : Type} (w : Wd) (a t k : Nat) (K : Nat → Option α) : Option α := if isO w a t then (wR w a k).bind K else none
def pI {α : Type} (w : Wd) (a t k : Nat) (x : Int32) (K : Wd → Option α) : Option α := if isO w a t then K (sI w a k x) else none
def pL {α : Type} (w : Wd) (a t k : Nat) (x : Int64) (K : Wd → Option α) : Option α := if isO w a t then K (sL w a k x) else none
def pR {α : Type} (w : Wd) (a t k : Nat) (r : Nat) (K : Wd → Option α) : Option α := if isO w a t then K (sR w a k r) else none
def lI {α : Type} (w : Wd) (a t : Nat) (i : Int32) (K : Int32 → Option α) : Option α := if isO w a t && inb w a i then K (wI w a i.toNatClampNeg) else none
def lR {α : Type} (w : Wd) (a t : Nat) (i : Int32) (K : Nat → Option α) : Option α := if isO w a t && inb w a i then (wR w a i.toNatClampNeg).bind K else none
def aI {α : Type} (w : Wd) (a t : Nat) (i x : Int32) (K : Wd → Option α) : Option α := if isO w a t && inb w a i then K (sI w a i.toNatClampNeg x) else none
def aR {α : Type} (w : Wd) (a t : Nat) (i : Int32) (r tr : Nat) (K : Wd → Option α) : Option α := if isO w a t && inb w a i && isO w r tr then K (sR w a i.toNatClampNeg r) else none
def lenA {α : Type} (w : Wd) (a t : Nat) (K : Int32 → Option α) : Option α := if isO w a t then K (Int32.ofNat (wS w a).2) else none
def nm {α β : Type} (x : α) (K : α → Option β) : Option β := K x
def cal {α β : Type} (o : Option (α × Wd)) (K : α → Wd → Option β) : Option β := o.bind (fun q => K q.1 q.2)
def calV {α β : Type} (w : Wd) (a t : Nat) (o : Option (α × Wd)) (K : α → Wd → Option β) : Option β := if isO w a t then cal o K else none
def nz {α : Type} (y : Int32) (K : Option α) : Option α := if y = 0 then none else K
def nzL {α : Type} (y : Int64) (K : Option α) : Option α := if y = 0 then none else K
def rZ (x : Int32) (w : Wd) : Option (Int32 × Wd) := if x = 0 ∨ x = 1 then some (x, w) else none
def cpI {α : Type} (w : Wd) (a0 : Nat) (sp : Int32) (a : Nat) (dp n : Int32) (K : Wd → Option α) : Option α := if isO w a0 14 && isO w a 14 && decide (0 ≤ sp) && decide (0 ≤ dp) && decide (0 ≤ n) && decide (sp.toNatClampNeg + n.toNatClampNeg ≤ (wS w a0).2) && decide (dp.toNatClampNeg + n.toNatClampNeg ≤ (wS w a).2) then K (cI w a0 sp.toNatClampNeg a dp.toNatClampNeg n.toNatClampNeg) else none
theorem isO_iff {w : Wd} {a t : Nat} : isO w a t = true ↔ a < wN w ∧ (wS w a).1 = t := by simp [isO]
theorem inb_iff {w : Wd} {a : Nat} {i : Int32} : inb w a i = true ↔ 0 ≤ i ∧ i.toNatClampNeg < (wS w a).2 := by simp [inb]
theorem inb_vp {w : Wd} {a : Nat} {i : Int32} (h : inb w a i = true) : vp_in i (wS w a).2 := by
  obtain ⟨h1, h2⟩ := inb_iff.mp h
  rintro (q | q)
  · exact absurd h1 (Int32.not_le.mpr q)
  · omega
theorem gI_s {α : Type} {w : Wd} {a t k : Nat} {K : Int32 → Option α} {z : α} (h : gI w a t k K = some z) : isO w a t = true ∧ K (wI w a k) = some z := by
  unfold gI at h; split at h <;> simp_all
theorem gL_s {α : Type} {w : Wd} {a t k : Nat} {K : Int64 → Option α} {z : α} (h : gL w a t k K = some z) : isO w a t = true ∧ K (wL w a k) = some z := by
  unfold gL at h; split at h <;> simp_all
theorem gR_s {α : Type} {w : Wd} {a t k : Nat} {K : Nat → Option α} {z : α} (h : gR w a t k K = some z) : isO w a t = true ∧ ∃ r, wR w a k = some r ∧ K r = some z := by
  unfold gR at h
  split at h
  · exact ⟨by assumption, Option.bind_eq_some_iff.mp h⟩
  · cases h
theorem pI_s {α : Type} {w : Wd} {a t k : Nat} {x : Int32} {K : Wd → Option α} {z : α} (h : pI w a t k x K = some z) : isO w a t = true ∧ K (sI w a k x) = some z := by
  unfold pI at h; split at h <;> simp_all
theorem pL_s {α : Type} {w : Wd} {a t k : Nat} {x : Int64} {K : Wd → Option α} {z : α} (h : pL w a t k x K = some z) : isO w a t = true ∧ K (sL w a k x) = some z := by
  unfold pL at h; split at h <;> simp_all
theorem pR_s {α : Type} {w : Wd} {a t k r : Nat} {K : Wd → Option α} {z : α} (h : pR w a t k r K = some z) : isO w a t = true ∧ K (sR w a k r) = some z := by
  unfold pR at h; split at h <;> simp_all
theorem lI_s {α : Type} {w : Wd} {a t : Nat} {i : Int32} {K : Int32 → Option α} {z : α} (h : lI w a t i K = some z) : isO w a t = true ∧ inb w a i = true ∧ K (wI w a i.toNatClampNeg) = some z := by
  unfold lI at h; split at h <;> simp_all
theorem lR_s {α : Type} {w : Wd} {a t : Nat} {i : Int32} {K : Nat → Option α} {z : α} (h : lR w a t i K = some z) : isO w a t = true ∧ inb w a i = true ∧ ∃ r, wR w a i.toNatClampNeg = some r ∧ K r = some z := by
  unfold lR at h
  split at h
  · rename_i q
    rw [Bool.and_eq_true] at q
    exact ⟨q.1, q.2, Option.bind_eq_some_iff.mp h⟩
  · cases h
theorem aI_s {α : Type} {w : Wd} {a t : Nat} {i x : Int32} {K : Wd → Option α} {z : α} (h : aI w a t i x K = some z) : isO w a t = true ∧ inb w a i = true ∧ K (sI w a i.toNatClampNeg x) = some z := by
  unfold aI at h; split at h <;> simp_all
theorem aR_s {α : Type} {w : Wd} {a t : Nat} {i : Int32} {r tr : Nat} {K : Wd → Option α} {z : α} (h : aR w a t i r tr K = some z) : isO w a t = true ∧ inb w a i = true ∧ isO w r tr = true ∧ K (sR w a i.toNatClampNeg r) = some z := by
  unfold aR at h; split at h <;> simp_all
theorem lenA_s {α : Type} {w : Wd} {a t : Nat} {K : Int32 → Option α} {z : α} (h : lenA w a t K = some z) : isO w a t = true ∧ K (Int32.ofNat (wS w a).2) = some z := by
  unfold lenA at h; split at h <;> simp_all
theorem cal_s {α β : Type} {o : Option (α × Wd)} {K : α → Wd → Option β} {z : β} (h : cal o K = some z) : ∃ r w, o = some (r, w) ∧ K r w = some z := by
  obtain ⟨⟨r, w⟩, h1, h2⟩ := Option.bind_eq_some_iff.mp h
  exact ⟨r, w, h1, h2⟩
theorem calV_s {α β : Type} {w : Wd} {a t : Nat} {o : Option (α × Wd)} {K : α → Wd → Option β} {z : β} (h : calV w a t o K = some z) : isO w a t = true ∧ ∃ r w1, o = some (r, w1) ∧ K r w1 = some z := by
  unfold calV at h
  split at h
  · exact ⟨by assumption, cal_s h⟩
  · cases h
theorem nz_s {α : Type} {y : Int32} {K : Option α} {z : α} (h : nz y K = some z) : ¬ y = 0 ∧ K = some z := by
  unfold nz at h; split at h <;> simp_all
theorem nzL_s {α : Type} {y : Int64} {K : Option α} {z : α} (h : nzL y K = some z) : ¬ y = 0 ∧ K = some z := by
  unfold nzL at h; split at h <;> simp_all
theorem rZ_s {x r : Int32} {w w' : Wd} (h : rZ x w = some (r, w')) : (x = 0 ∨ x = 1) ∧ x = r ∧ w = w' := by
  unfold rZ at h; split at h <;> simp_all
theorem cpI_s {α : Type} {w : Wd} {a0 a : Nat} {sp dp n : Int32} {K : Wd → Option α} {z : α} (h : cpI w a0 sp a dp n K = some z) : isO w a0 14 = true ∧ isO w a 14 = true ∧ 0 ≤ sp ∧ 0 ≤ dp ∧ 0 ≤ n ∧ sp.toNatClampNeg + n.toNatClampNeg ≤ (wS w a0).2 ∧ dp.toNatClampNeg + n.toNatClampNeg ≤ (wS w a).2 ∧ K (cI w a0 sp.toNatClampNeg a dp.toNatClampNeg n.toNatClampNeg) = some z := by
  unfold cpI at h
  split at h
  · rename_i q
    simp only [Bool.and_eq_true, decide_eq_true_eq] at q
    exact ⟨q.1.1.1.1.1.1, q.1.1.1.1.1.2, q.1.1.1.1.2, q.1.1.1.2, q.1.1.2, q.1.2, q.2, h⟩
  · cases h
/-! the cells of a world, in the kit's words -/
def fty (t k : Nat) : FieldType := match t with
  | 0 => tyX0 k
  | 1 => tyX1 k
  | 2 => tyX2 k
  | 7 => tyX7 k
  | 10 => tyX10 k
  | 11 => tyX11 k
  | 12 => tyX12 k
  | _ => .int
def fn (t : Nat) : Nat := match t with
  | 0 => 8
  | 1 => 6
  | 2 => 12
  | 7 => 8
  | 10 => 4
  | 11 => 9
  | 12 => 21
  | _ => 0
def cN (t : Nat) : String := (vwCl.getD t ("", TX3, 0)).1
def cT (t : Nat) : u_T := (vwCl.getD t ("", TX3, 0)).2.1
def arf (B : Nat) (f : Nat → Option Nat) : Nat → Option Nat := fun k => (f k).map (B + ·)
def fval (B : Nat) (w : Wd) (a : Nat) (ty : FieldType) (k : Nat) : Value := match ty with
  | .int => .int (wI w a k)
  | .long => .long (wL w a k)
  | .object _ => va_rf (arf B (wR w a) k)
  | .array _ => va_rf (arf B (wR w a) k)
  | _ => .int 0
def fsO (B : Nat) (w : Wd) (a t : Nat) : List Value := (List.range (fn t)).map (fun k => fval B w a (fty t k) k)
def cellE (G : Nat → ClassId) (B : Nat) (w : Wd) (a : Nat) : va_E :=
  if (wS w a).1 < 13 then .inr ((wS w a).1, fsO B w a (wS w a).1)
  else if (wS w a).1 < 16 then .inl (G (wS w a).1, (wS w a).2, .inl (wI w a))
  else .inl (G (wS w a).1, (wS w a).2, .inr (.inr (.inr (.inr (arf B (wR w a))))))
def lay (G : Nat → ClassId) (B : Nat) (w : Wd) : va_W := (List.range (wN w)).map (fun a => (B + a, cellE G B w a))
theorem lay_get {G : Nat → ClassId} {B : Nat} {w : Wd} {a : Nat} (h : a < wN w) : (lay G B w)[a]? = some (B + a, cellE G B w a) := by
  simp [lay, List.getElem?_map, List.getElem?_range h]
theorem lay_len {G : Nat → ClassId} {B : Nat} {w : Wd} : (lay G B w).length = wN w := by simp [lay]
theorem lay_at {G : Nat → ClassId} {B : Nat} {w : Wd} {k : Nat} {q : Nat × va_E} (h : (lay G B w)[k]? = some q) : k < wN w ∧ q = (B + k, cellE G B w k) := by
  have hk : k < wN w := by
    have := (List.getElem?_eq_some_iff.mp h).1
    rwa [lay_len] at this
  rw [lay_get hk] at h
  exact ⟨hk, (Option.some.inj h).symm⟩
theorem lay_D {G : Nat → ClassId} {B : Nat} {w : Wd} : va_D (fun q => B ≤ q) (lay G B w) := by
  refine ⟨fun i j p q hi hj hpq => ?_, fun k q hk => ?_⟩
  · obtain ⟨-, rfl⟩ := lay_at hi
    obtain ⟨-, rfl⟩ := lay_at hj
    exact Nat.add_left_cancel hpq
  · obtain ⟨-, rfl⟩ := lay_at hk
    exact Nat.le_add_right _ _
theorem lay_set {G : Nat → ClassId} {B : Nat} {w w' : Wd} {a : Nat} {e : va_E} (hn : wN w' = wN w) (ha : a < wN w) (he : cellE G B w' a = e) (ho : ∀ b, b ≠ a → cellE G B w' b = cellE G B w b) : (lay G B w).set a (B + a, e) = lay G B w' := by
  apply List.ext_getElem?
  intro k
  by_cases hk : k = a
  · subst hk
    rw [List.getElem?_set_self (by rw [lay_len]; exact ha), lay_get (by rw [hn]; exact ha), he]
  · rw [List.getElem?_set_ne (Ne.symm hk)]
    by_cases hl : k < wN w
    · rw [lay_get hl, lay_get (by rw [hn]; exact hl), ho k hk]
    · rw [List.getElem?_eq_none (by rw [lay_len]; omega), List.getElem?_eq_none (by rw [lay_len, hn]; omega)]
theorem lay_push {G : Nat → ClassId} {B : Nat} {w w' : Wd} {e : va_E} (hn : wN w' = wN w + 1) (he : cellE G B w' (wN w) = e) (ho : ∀ b, b < wN w → cellE G B w' b = cellE G B w b) : lay G B w ++ [(B + wN w, e)] = lay G B w' := by
  unfold lay
  rw [hn, List.range_succ, List.map_append]
  congr 1
  · apply List.map_congr_left
    intro b hb
    rw [ho b (List.mem_range.mp hb)]
  · simp [he]
theorem cell_o {G : Nat → ClassId} {B : Nat} {w : Wd} {a t : Nat} (h : isO w a t = true) (ht : t < 13) : cellE G B w a = .inr (t, fsO B w a t) := by
  obtain ⟨-, h⟩ := isO_iff.mp h
  subst h
  unfold cellE
  rw [if_pos ht]
theorem cell_i {G : Nat → ClassId} {B : Nat} {w : Wd} {a t : Nat} (h : isO w a t = true) (h1 : ¬ t < 13) (h2 : t < 16) : cellE G B w a = .inl (G t, (wS w a).2, .inl (wI w a)) := by
  obtain ⟨-, h⟩ := isO_iff.mp h
  subst h
  unfold cellE
  rw [if_neg h1, if_pos h2]
theorem cell_r {G : Nat → ClassId} {B : Nat} {w : Wd} {a t : Nat} (h : isO w a t = true) (h2 : ¬ t < 16) : cellE G B w a = .inl (G t, (wS w a).2, .inr (.inr (.inr (.inr (arf B (wR w a)))))) := by
  obtain ⟨-, h⟩ := isO_iff.mp h
  subst h
  unfold cellE
  rw [if_neg (by omega), if_neg h2]
theorem fs_at {B : Nat} {w : Wd} {a t k : Nat} (hk : k < fn t) : (fsO B w a t)[k]? = some (fval B w a (fty t k) k) := by
  simp [fsO, List.getElem?_map, List.getElem?_range hk]
theorem fs_len {B : Nat} {w : Wd} {a t : Nat} : (fsO B w a t).length = fn t := by simp [fsO]
theorem fs_set {B : Nat} {w w' : Wd} {a t k : Nat} {v : Value} (hk : k < fn t) (hv : fval B w' a (fty t k) k = v) (ho : ∀ j, j ≠ k → fval B w' a (fty t j) j = fval B w a (fty t j) j) : (fsO B w a t).set k v = fsO B w' a t := by
  apply List.ext_getElem?
  intro j
  by_cases hj : j = k
  · subst hj
    rw [List.getElem?_set_self (by rw [fs_len]; exact hk), fs_at hk, hv]
  · rw [List.getElem?_set_ne (Ne.symm hj)]
    by_cases hl : j < fn t
    · rw [fs_at hl, fs_at hl, ho j hj]
    · rw [List.getElem?_eq_none (by rw [fs_len]; omega), List.getElem?_eq_none (by rw [fs_len]; omega)]
theorem fval_ext {B : Nat} {w w' : Wd} {a j : Nat} {ty : FieldType} (h1 : wI w' a j = wI w a j) (h2 : wL w' a j = wL w a j) (h3 : wR w' a j = wR w a j) : fval B w' a ty j = fval B w a ty j := by
  unfold fval
  cases ty <;> simp [h1, h2, h3, arf]
theorem cell_ext {G : Nat → ClassId} {B : Nat} {w w' : Wd} {b : Nat} (h0 : wS w' b = wS w b) (h1 : wI w' b = wI w b) (h2 : wL w' b = wL w b) (h3 : wR w' b = wR w b) : cellE G B w' b = cellE G B w b := by
  have hf : ∀ t, fsO B w' b t = fsO B w b t := fun t => by
    unfold fsO
    apply List.map_congr_left
    intro k _
    exact fval_ext (by rw [h1]) (by rw [h2]) (by rw [h3])
  unfold cellE
  rw [h0, hf, h1, h3]
end
section
/-! tb: the tables' words that stay; nwT: those that are carried beside -/
def tb : List Cond := lw_tbl.filter goodWord
theorem tb_of {c : Cond} (i : Nat) (h : lw_tbl[i]? = some c) (g : goodWord c = true) : c ∈ tb := List.mem_filter.mpr ⟨List.mem_of_getElem? h, g⟩
theorem tb_good {w : Cond} (h : w ∈ tb) : (w.onTables && w.keeps) = true ∨ ∃ ty, w = .arrayClass ty := good_of_word (List.mem_filter.mp h).2
theorem tb_goodIn {c : Cond} (h : c ∈ tb) : GoodIn tb (c :: tb) := fun w hw => by
  rcases List.mem_cons.mp hw with rfl | hw
  · exact ⟨h, tb_good h⟩
  · exact ⟨hw, tb_good hw⟩
def isNw (c : Cond) : Bool := match c with
  | .methodLinkNest _ _ _ _ => true
  | .castable _ _ => true
  | .declares _ => true
  | _ => false
def nwT : List Cond := lw_tbl.filter isNw
theorem nw_of {c : Cond} (i : Nat) (h : lw_tbl[i]? = some c) (g : isNw c = true) : c ∈ nwT := List.mem_filter.mpr ⟨List.mem_of_getElem? h, g⟩
theorem nw_warm {c : Cond} {s U : State} (hc : isNw c = true) (hW : s.WarmedH U.vm) (h : va_Nw c s) : va_Nw c U := by
  cases c <;> first | (exact absurd hc (by decide)) | exact va_Nw.warmM hW h | exact va_Nw.warmC hW h | exact va_Nw.warmD hW h | (simp [isNw] at hc)
theorem nw_same {c : Cond} {u U : State} (hc : isNw c = true) (hv : u.vm = U.vm) (h : va_Nw c u) : va_Nw c U := by
  cases c <;> first | (exact absurd hc (by decide)) | exact va_Nw.same rfl hv h | (simp [isNw] at hc)
/-! the strings of the class, the static that String asks -/
def lenS : List Nat := [4, 5, 5, 4, 4]
def bytS : List (List Int32) := [[109, 105, 108, 108], [103, 111, 111, 100, 115], [103, 114, 105, 110, 100], [119, 111, 114, 100], [99, 111, 108, 100]]
def sIx : List Nat := [44, 63, 69, 77, 81]
def sTx : List String := ["mill", "goods", "grind", "word", "cold"]
/-- classes, array classes, base, the strings' addresses and their bytes' -/
abbrev Gv : Type := va_G × (Nat → ClassId) × Nat × (Nat → Nat) × (Nat → Nat)
def gD (g : Gv) : va_G := g.1
def gC (g : Gv) : Nat → ClassId := g.2.1
def gB (g : Gv) : Nat := g.2.2.1
def gK (g : Gv) : Nat → Nat := g.2.2.2.1
def gV (g : Gv) : Nat → Nat := g.2.2.2.2
def gA (g : Gv) : Nat → Prop := fun q => gB g ≤ q
def tysG (g : Gv) : List (ClassId × FieldType) := [(gC g 13, .byte), (gC g 14, .int), (gC g 15, .boolean), (gC g 16, .object "GrindMill$Goods"), (gC g 17, .object "GrindMill$House"), (gC g 18, .object "GrindMill$Plain"), (gC g 19, .array .int)]
def AOA (ty : FieldType) (U : State) : Prop := (Cond.arrayOver (.array ty)).before #[] U = true
theorem AOA.moved {ty : FieldType} {u U : State} (hvm : u.vm.Alike U.vm) (h : AOA ty u) : AOA ty U := by
  unfold AOA Cond.before Cond.holds at h ⊢
  simp only [Cond.value, beq_iff_eq] at h ⊢
  rw [hvm.findClass]
  cases hc : u.vm.findClass (FieldType.array ty).toString with
  | none => simp [hc] at h
  | some comp =>
    simp only [hc, Option.bind_some, Option.bind_eq_some_iff, Option.map_eq_some_iff] at h ⊢
    obtain ⟨c, hi, k, hk, hb⟩ := h
    obtain ⟨k', hk', he⟩ := hvm.2.2 _ _ hk
    refine ⟨c, ?_, k', hk', ?_⟩
    · have h3 : u.vm.bare = U.vm.bare := by first | exact hvm.bare_eq | exact hvm.bare_eq.symm
      exact (va_idx_bare U.vm comp).symm.trans ((congrArg (fun v : Vm => (v.classes.findIdx? fun (x : Class) => match x.kind with | .array component _ => component == comp | _ => false)) h3.symm).trans ((va_idx_bare u.vm comp).trans hi))
    · rw [show k'.kind = k.kind by rw [he]]
      first | exact hb | (simp only [hvm.findClass]; exact hb)
/-- the array classes that are made over others -/
def AOs (U : State) : Prop := va_AO "GrindMill$Goods" U ∧ va_AO "GrindMill$House" U ∧ va_AO "GrindMill$Plain" U ∧ AOA .int U
theorem AOs.moved {u U : State} (hvm : u.vm.Alike U.vm) (h : AOs u) : AOs U := ⟨h.1.moved hvm, h.2.1.moved hvm, h.2.2.1.moved hvm, AOA.moved hvm h.2.2.2⟩
/-- what stays of the state itself -/
def SW (g : Gv) (U : State) : Prop :=
  (∀ c ∈ nwT, va_Nw c U) ∧ vk_S 5 lenS bytS (gK g) (gV g) (gA g) U U.heap ∧ (∀ j, j < 5 → vk_R "GrindMill$Text" (sIx.getD j 0) (sTx.getD j "") (gK g j) U) ∧ va_Z "java/lang/String" "COMPACT_STRINGS" "Z" (.int 1) (gA g) U U.heap ∧ va_Zq "jdk/internal/util/Preconditions" "SIOOBE_FORMATTER" "Ljava/util/function/BiFunction;" (gA g) U U.heap ∧ AOs U
theorem SW.blind {g : Gv} {U V : State} (hv : U.vm = V.vm) (hh : V.heap = U.heap) (h : SW g U) : SW g V := by
  obtain ⟨h1, h2, h3, h4, h5, h6⟩ := h
  have ha : U.vm.Alike V.vm := by rw [← hv]; exact Vm.Alike.refl _
  refine ⟨fun c hc => nw_same (List.mem_filter.mp hc).2 hv (h1 c hc), ?_, fun j hj => vk_R.same hv.symm (h3 j hj), ?_, ?_, h6.moved ha⟩
  · rw [hh]; exact vk_S.moved ha h2
  · rw [hh]; exact va_Z.moved ha h4
  · rw [hh]; exact va_Zq.moved ha h5
theorem SW.warm {g : Gv} {s U : State} (hW : s.WarmedH U.vm) (hq : ∀ a : Nat, a < s.heap.size → ¬ gA g a → U.heap[a]? = s.heap[a]?) (h : SW g s) : SW g U := by
  obtain ⟨h1, h2, h3, h4, h5, h6⟩ := h
  exact ⟨fun c hc => nw_warm (List.mem_filter.mp hc).2 hW (h1 c hc), (vk_S.moved hW.alike h2).kept hq, fun j hj => vk_R.warm hW (h3 j hj), (va_Z.moved hW.alike h4).kept hq, (va_Zq.moved hW.alike h5).kept hq, h6.moved hW.alike⟩
def PW (g : Gv) (w : Wd) (U : State) : Prop := va_K (gD g) vwCl (tysG g) U ∧ va_P (gD g) vwCl (lay (gC g) (gB g) w) U.heap ∧ U.heap.size = gB g + wN w
def rV (g : Gv) (a : Nat) : Value := .ref (gB g + a)
def sV (g : Gv) (j : Nat) : Value := .ref (gK g j)
/-- a method's context -/
abbrev Xt : Type := Program × Launch × Env × Room × State × MethodId × Array Value × List Frame × Method × Code × Gv × Nat
def xp (X : Xt) : Program := X.1
def xl (X : Xt) : Launch := X.2.1
def xe (X : Xt) : Env := X.2.2.1
def xR (X : Xt) : Room := X.2.2.2.1
def xs (X : Xt) : State := X.2.2.2.2.1
def xm (X : Xt) : MethodId := X.2.2.2.2.2.1
def xa (X : Xt) : Array Value := X.2.2.2.2.2.2.1
def xb (X : Xt) : List Frame := X.2.2.2.2.2.2.2.1
def xme (X : Xt) : Method := X.2.2.2.2.2.2.2.2.1
def xc (X : Xt) : Code := X.2.2.2.2.2.2.2.2.2.1
def xg (X : Xt) : Gv := X.2.2.2.2.2.2.2.2.2.2.1
def xn (X : Xt) : Nat := X.2.2.2.2.2.2.2.2.2.2.2
def FW (X : Xt) (w : Wd) (H : Heap) (locs : List Loc) (cs : Nat) : Prop :=
  va_K (gD (xg X)) vwCl (tysG (xg X)) (xs X) ∧ va_P (gD (xg X)) vwCl (lay (gC (xg X)) (gB (xg X)) w) H ∧ va_S (gA (xg X)) (xs X).heap H locs ∧ gB (xg X) + wN w = (xs X).heap.size + cs ∧ gB (xg X) ≤ (xs X).heap.size ∧ SW (xg X) (xs X)
abbrev Wq (X : Xt) (H : Heap) (locs : List Loc) (cs sl : Nat) (Q : State → Prop) (pc : Nat) (ls : Array Slot) (st : List Value) : Prop :=
  W (xp X) (xl X) (xe X) (xR X) (xs X) (xm X) (xa X) (xb X) (xme X) (xc X) H locs cs sl Q (F0 (xm X) pc ls st)
def Wk (X : Xt) (cs sl : Nat) (Q : State → Prop) (w : Wd) (lv : List (Nat × Value)) (pc : Nat) (st : List Value) : Prop :=
  ∀ (H : Heap) (locs : List Loc) (ls : Array Slot), FW X w H locs cs → lv_has ls (xn X) lv → Wq X H locs cs sl Q pc ls st
def Ok (X : Xt) (own : String) (cc : ByteArray) (nL fr lo mc ms : Nat) : Prop :=
  (xp X).tables.exec = Jvm.exec ∧ (xc X).code = cc ∧ (xc X).maxLocals = xn X ∧ (xs X).vm.findClass own = some (xm X).cls ∧ (∀ w ∈ tb, w.before (xa X) (xs X) = true) ∧ (xme X).locks = false ∧ (xR X).frames = fr ∧ (xR X).locals = lo ∧ (xR X).cells = mc ∧ (xR X).slots = ms ∧ xn X = nL
/-! contracts -/
def PcG (g : Gv) (av : List Value) (w : Wd) : Array Value → State → Prop := va_Pc av (fun U => PW g w U ∧ SW g U)
def QcI (g : Gv) (mc : Nat) (w : Wd) (r : Int32) (w' : Wd) : Array Value → State → Outcome → State → Prop := va_Qi (fun r' (_ : Unit) => r' = r ∧ wN w' = wN w + mc) (fun _ t => PW g w' t) (gA g)
def QcL (g : Gv) (mc : Nat) (w : Wd) (r : Int64) (w' : Wd) : Array Value → State → Outcome → State → Prop := va_Ql (fun r' (_ : Unit) => r' = r ∧ wN w' = wN w + mc) (fun _ t => PW g w' t) (gA g)
def QcV (g : Gv) (mc : Nat) (w : Wd) (w' : Wd) : Array Value → State → Outcome → State → Prop := va_Qv (fun (_ : Unit) => wN w' = wN w + mc) (fun _ t => PW g w' t) (gA g)
abbrev rmO (fr lo mc ms : Nat) : Room := { frames := fr, cells := mc, slots := ms, locals := lo }
def MI (g : Gv) (l : Launch) (y : MethodName) (b : ByteArray) (mL : Nat) (rt : FieldType) (fr lo : Nat) (av : List Value) (w : Wd) (r : Int32) (w' : Wd) : Prop :=
  Met l y (.code y b mL (some rt) :: tb) (rmO fr lo 0 0) (PcG g av w) (QcI g 0 w r w') 0 0 (gA g)
def ML (g : Gv) (l : Launch) (y : MethodName) (b : ByteArray) (mL : Nat) (fr lo : Nat) (av : List Value) (w : Wd) (r : Int64) (w' : Wd) : Prop :=
  Met l y (.code y b mL (some .long) :: tb) (rmO fr lo 0 0) (PcG g av w) (QcL g 0 w r w') 0 0 (gA g)
def MV (g : Gv) (l : Launch) (y : MethodName) (b : ByteArray) (mL : Nat) (fr lo mc ms : Nat) (av : List Value) (w : Wd) (w' : Wd) : Prop :=
  Met l y (.code y b mL none :: tb) (rmO fr lo mc ms) (PcG g av w) (QcV g mc w w') mc ms (gA g)
def QI (X : Xt) (w : Wd) (r : Int32) (w' : Wd) : State → Prop := MQ (xb X) (QcI (xg X) 0 w r w') (xa X) (xs X) 0 0 (gA (xg X))
def QL (X : Xt) (w : Wd) (r : Int64) (w' : Wd) : State → Prop := MQ (xb X) (QcL (xg X) 0 w r w') (xa X) (xs X) 0 0 (gA (xg X))
def QV (X : Xt) (mc ms : Nat) (w : Wd) (w' : Wd) : State → Prop := MQ (xb X) (QcV (xg X) mc w w') (xa X) (xs X) mc ms (gA (xg X))
theorem mi_of {g : Gv} {l : Launch} {y : MethodName} {b : ByteArray} {mL : Nat} {rt : FieldType} {fr lo : Nat} {av : List Value} {w : Wd} {r : Int32} {w' : Wd} (own : String) (hy : plainName y.cls = true) (ho : own = y.cls) (hlen : (lg_sl av).length ≤ mL)
    (k : ∀ X : Xt, xg X = g → xl X = l → Ok X own b mL fr lo 0 0 → (xme X).sig.returnType = some rt → gB g + wN w = (xs X).heap.size → Wk X 0 0 (QI X w r w') w (lv_args 0 av) 0 []) : MI g l y b mL rt fr lo av w r w' := by
  refine Met.ofW (cc := b) (maxL := mL) (ret := some rt) hy rfl ?_
  intro p e s m args below meth c s₁ Bd hml hv
  obtain ⟨rfl, ⟨hK, hP, hsz⟩, hst⟩ := hv
  have hts := atoms_spec (ws := .code y b mL (some rt) :: tb) Bd.pre
  have hl := lv_entry av (n := mL) hlen
  rw [lg_entry_eq]
  exact k (p, l, e, _, s, m, av.toArray, below, meth, c, g, mL) rfl rfl ⟨Bd.exec, Bd.bytes, hml, by rw [ho]; exact findClass_of_methodNamed Bd.named, fun w h => hts w (List.mem_cons_of_mem _ h), Bd.notSynchronized, rfl, rfl, rfl, rfl, rfl⟩ Bd.returns hsz.symm s.heap [] _ ⟨hK, hP, va_S.rf, hsz.symm, by show gB g ≤ s.heap.size; omega, hst⟩ hl
theorem ml_of {g : Gv} {l : Launch} {y : MethodName} {b : ByteArray} {mL : Nat} {fr lo : Nat} {av : List Value} {w : Wd} {r : Int64} {w' : Wd} (own : String) (hy : plainName y.cls = true) (ho : own = y.cls) (hlen : (lg_sl av).length ≤ mL)
    (k : ∀ X : Xt, xg X = g → xl X = l → Ok X own b mL fr lo 0 0 → (xme X).sig.returnType = some .long → gB g + wN w = (xs X).heap.size → Wk X 0 0 (QL X w r w') w (lv_args 0 av) 0 []) : ML g l y b mL fr lo av w r w' := by
  refine Met.ofW (cc := b) (maxL := mL) (ret := some .long) hy rfl ?_
  intro p e s m args below meth c s₁ Bd hml hv
  obtain ⟨rfl, ⟨hK, hP, hsz⟩, hst⟩ := hv
  have hts := atoms_spec (ws := .code y b mL (some .long) :: tb) Bd.pre
  have hl := lv_entry av (n := mL) hlen
  rw [lg_entry_eq]
  exact k (p, l, e, _, s, m, av.toArray, below, meth, c, g, mL) rfl rfl ⟨Bd.exec, Bd.bytes, hml, by rw [ho]; exact findClass_of_methodNamed Bd.named, fun w h => hts w (List.mem_cons_of_mem _ h), Bd.notSynchronized, rfl, rfl, rfl, rfl, rfl⟩ Bd.returns hsz.symm s.heap [] _ ⟨hK, hP, va_S.rf, hsz.symm, by show gB g ≤ s.heap.size; omega, hst⟩ hl
theorem mv_of {g : Gv} {l : Launch} {y : MethodName} {b : ByteArray} {mL : Nat} {fr lo mc ms : Nat} {av : List Value} {w : Wd} {w' : Wd} (own : String) (hy : plainName y.cls = true) (ho : own = y.cls) (hlen : (lg_sl av).length ≤ mL)
    (k : ∀ X : Xt, xg X = g → xl X = l → Ok X own b mL fr lo mc ms → (xme X).sig.returnType = none → gB g + wN w = (xs X).heap.size → (xme X).name = y.name → Wk X 0 0 (QV X mc ms w w') w (lv_args 0 av) 0 []) : MV g l y b mL fr lo mc ms av w w' := by
  refine Met.ofW (cc := b) (maxL := mL) (ret := none) hy rfl ?_
  intro p e s m args below meth c s₁ Bd hml hv
  obtain ⟨rfl, ⟨hK, hP, hsz⟩, hst⟩ := hv
  have hts := atoms_spec (ws := .code y b mL none :: tb) Bd.pre
  have hl := lv_entry av (n := mL) hlen
  rw [lg_entry_eq]
  exact k (p, l, e, _, s, m, av.toArray, below, meth, c, g, mL) rfl rfl ⟨Bd.exec, Bd.bytes, hml, by rw [ho]; exact findClass_of_methodNamed Bd.named, fun w h => hts w (List.mem_cons_of_mem _ h), Bd.notSynchronized, rfl, rfl, rfl, rfl, rfl⟩ Bd.returns hsz.symm (name_of_methodNamed Bd.named Bd.method).1 s.heap [] _ ⟨hK, hP, va_S.rf, hsz.symm, by show gB g ≤ s.heap.size; omega, hst⟩ hl
/-- the heap is no larger than the cells made -/
theorem W.sized {p : Program} {l : Launch} {e : Env} {R : Room} {s : State} {m : MethodId} {args : Array Value} {below : List Frame} {meth : Method} {c : Code} {H : Heap} {locs : List Loc} {cells slots : Nat} {Q : State → Prop} {g : JFrame} (k : H.size ≤ s.heap.size + cells → W p l e R s m args below meth c H locs cells slots Q g) : W p l e R s m args below meth c H locs cells slots Q g :=
  fun T hT X => k (by rw [← hT]; exact X.heapSize) T hT X
theorem FW.low {X : Xt} {w : Wd} {H : Heap} {locs : List Loc} {cs : Nat} (h : FW X w H locs cs) : gB (xg X) + wN w ≤ H.size := by
  obtain ⟨-, hP, hS, hn, hB, -⟩ := h
  by_cases h0 : wN w = 0
  · have := hS.1
    omega
  · have h1 := hP (wN w - 1) _ (lay_get (by omega))
    have h2 : gB (xg X) + (wN w - 1) < H.size := h1.lt
    omega
theorem FW.size {X : Xt} {w : Wd} {H : Heap} {locs : List Loc} {cs : Nat} (h : FW X w H locs cs) (hs : H.size ≤ (xs X).heap.size + cs) : H.size = gB (xg X) + wN w := by
  have h1 := h.low
  have h2 := h.2.2.2.1
  omega
theorem FW.hA {X : Xt} {w : Wd} {H : Heap} {locs : List Loc} {cs : Nat} (h : FW X w H locs cs) : ∀ q, (xs X).heap.size ≤ q → gA (xg X) q := fun q hq => Nat.le_trans h.2.2.2.2.1 hq
end
