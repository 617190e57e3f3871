theorem ce_0 : CE 0 := ⟨rfl, by decide +kernel, by decide +kernel, by decide +kernel, by decide⟩
theorem ce_1 : CE 1 := ⟨rfl, by decide +kernel, by decide +kernel, by decide +kernel, by decide⟩
theorem ce_2 : CE 2 := ⟨rfl, by decide +kernel, by decide +kernel, by decide +kernel, by decide⟩
theorem ce_3 : CE 3 := ⟨rfl, by decide +kernel, by decide +kernel, by decide +kernel, by decide⟩
theorem ce_4 : CE 4 := ⟨rfl, by decide +kernel, by decide +kernel, by decide +kernel, by decide⟩
theorem ce_5 : CE 5 := ⟨rfl, by decide +kernel, by decide +kernel, by decide +kernel, by decide⟩
theorem ce_6 : CE 6 := ⟨rfl, by decide +kernel, by decide +kernel, by decide +kernel, by decide⟩
theorem ce_7 : CE 7 := ⟨rfl, by decide +kernel, by decide +kernel, by decide +kernel, by decide⟩
theorem ce_8 : CE 8 := ⟨rfl, by decide +kernel, by decide +kernel, by decide +kernel, by decide⟩
theorem ce_9 : CE 9 := ⟨rfl, by decide +kernel, by decide +kernel, by decide +kernel, by decide⟩
theorem ce_10 : CE 10 := ⟨rfl, by decide +kernel, by decide +kernel, by decide +kernel, by decide⟩
theorem ce_11 : CE 11 := ⟨rfl, by decide +kernel, by decide +kernel, by decide +kernel, by decide⟩
theorem ce_12 : CE 12 := ⟨rfl, by decide +kernel, by decide +kernel, by decide +kernel, by decide⟩
theorem ce_all : ∀ t, t < 13 → CE t := fun t ht => by
  rcases (show t = 0 ∨ t = 1 ∨ t = 2 ∨ t = 3 ∨ t = 4 ∨ t = 5 ∨ t = 6 ∨ t = 7 ∨ t = 8 ∨ t = 9 ∨ t = 10 ∨ t = 11 ∨ t = 12 by omega) with rfl | rfl | rfl | rfl | rfl | rfl | rfl | rfl | rfl | rfl | rfl | rfl | rfl
  · exact ce_0
  · exact ce_1
  · exact ce_2
  · exact ce_3
  · exact ce_4
  · exact ce_5
  · exact ce_6
  · exact ce_7
  · exact ce_8
  · exact ce_9
  · exact ce_10
  · exact ce_11
  · exact ce_12
theorem mt_843 : (Jvm.Cond.methodLink "GrindMill$Clues" (38 : Nat) ({ cls := "java/lang/System", name := "arraycopy", desc := "(Ljava/lang/Object;ILjava/lang/Object;II)V" } : Jvm.MethodName)) ∈ tb := tb_of 843 (by decide +kernel) (by decide +kernel)
theorem mm_X0_38 : Cond.methodLink RX0 38 arraycopyName ∈ tb := mt_843
theorem mt_516 : (Jvm.Cond.native ({ cls := "java/lang/System", name := "arraycopy", desc := "(Ljava/lang/Object;ILjava/lang/Object;II)V" } : Jvm.MethodName)) ∈ tb := tb_of 516 (by decide +kernel) (by decide +kernel)
theorem mt_515 : (Jvm.Cond.static ({ cls := "java/lang/System", name := "arraycopy", desc := "(Ljava/lang/Object;ILjava/lang/Object;II)V" } : Jvm.MethodName)) ∈ tb := tb_of 515 (by decide +kernel) (by decide +kernel)
theorem mt_77 : (Jvm.Cond.initialized "java/lang/System") ∈ tb := tb_of 77 (by decide +kernel) (by decide +kernel)
theorem mcp_n : Cond.native arraycopyName ∈ tb := mt_516
theorem mcp_s : Cond.static arraycopyName ∈ tb := mt_515
theorem mcp_i : Cond.initialized "java/lang/System" ∈ tb := mt_77
theorem mt_514 : (Jvm.Cond.methodLink "GrindMill$House" (73 : Nat) ({ cls := "java/lang/System", name := "arraycopy", desc := "(Ljava/lang/Object;ILjava/lang/Object;II)V" } : Jvm.MethodName)) ∈ tb := tb_of 514 (by decide +kernel) (by decide +kernel)
theorem mm_X2_73 : Cond.methodLink RX2 73 arraycopyName ∈ tb := mt_514
theorem mt_880 : (Jvm.Cond.constantLong "GrindMill$Clues" (84 : Nat) (31 : Int64)) ∈ tb := tb_of 880 (by decide +kernel) (by decide +kernel)
theorem mcst_X0_84 : Cond.constantLong RX0 84 31 ∈ tb := mt_880
theorem mt_875 : (Jvm.Cond.constantLong "GrindMill$Goods" (50 : Nat) (31 : Int64)) ∈ tb := tb_of 875 (by decide +kernel) (by decide +kernel)
theorem mcst_X1_50 : Cond.constantLong RX1 50 31 ∈ tb := mt_875
theorem mt_870 : (Jvm.Cond.constantLong "GrindMill$House" (112 : Nat) (31 : Int64)) ∈ tb := tb_of 870 (by decide +kernel) (by decide +kernel)
theorem mcst_X2_112 : Cond.constantLong RX2 112 31 ∈ tb := mt_870
theorem mt_805 : (Jvm.Cond.constantLong "GrindMill" (254 : Nat) (10 : Int64)) ∈ tb := tb_of 805 (by decide +kernel) (by decide +kernel)
theorem mcst_X11_254 : Cond.constantLong RX11 254 10 ∈ tb := mt_805
theorem mt_816 : (Jvm.Cond.constant "GrindMill" (263 : Nat) (999999 : Int32)) ∈ tb := tb_of 816 (by decide +kernel) (by decide +kernel)
theorem mcst_X11_263 : Cond.constant RX11 263 999999 ∈ tb := mt_816
theorem mt_817 : (Jvm.Cond.constantLong "GrindMill" (264 : Nat) (1103515245 : Int64)) ∈ tb := tb_of 817 (by decide +kernel) (by decide +kernel)
theorem mcst_X11_264 : Cond.constantLong RX11 264 1103515245 ∈ tb := mt_817
theorem mt_818 : (Jvm.Cond.constantLong "GrindMill" (266 : Nat) (12345 : Int64)) ∈ tb := tb_of 818 (by decide +kernel) (by decide +kernel)
theorem mcst_X11_266 : Cond.constantLong RX11 266 12345 ∈ tb := mt_818
theorem mt_819 : (Jvm.Cond.constantLong "GrindMill" (268 : Nat) (2147483648 : Int64)) ∈ tb := tb_of 819 (by decide +kernel) (by decide +kernel)
theorem mcst_X11_268 : Cond.constantLong RX11 268 2147483648 ∈ tb := mt_819
theorem mt_820 : (Jvm.Cond.constantLong "GrindMill" (270 : Nat) (65536 : Int64)) ∈ tb := tb_of 820 (by decide +kernel) (by decide +kernel)
theorem mcst_X11_270 : Cond.constantLong RX11 270 65536 ∈ tb := mt_820
theorem mt_821 : (Jvm.Cond.constantLong "GrindMill" (272 : Nat) (8 : Int64)) ∈ tb := tb_of 821 (by decide +kernel) (by decide +kernel)
theorem mcst_X11_272 : Cond.constantLong RX11 272 8 ∈ tb := mt_821
theorem mt_864 : (Jvm.Cond.constantLong "GrindMill" (281 : Nat) (1231 : Int64)) ∈ tb := tb_of 864 (by decide +kernel) (by decide +kernel)
theorem mcst_X11_281 : Cond.constantLong RX11 281 1231 ∈ tb := mt_864
theorem mt_865 : (Jvm.Cond.constantLong "GrindMill" (283 : Nat) (31 : Int64)) ∈ tb := tb_of 865 (by decide +kernel) (by decide +kernel)
theorem mcst_X11_283 : Cond.constantLong RX11 283 31 ∈ tb := mt_865
theorem mt_1195 : (Jvm.Cond.constantLong "GrindMillModel" (189 : Nat) (10 : Int64)) ∈ tb := tb_of 1195 (by decide +kernel) (by decide +kernel)
theorem mcst_X12_189 : Cond.constantLong RX12 189 10 ∈ tb := mt_1195
theorem mt_1204 : (Jvm.Cond.constant "GrindMillModel" (195 : Nat) (999999 : Int32)) ∈ tb := tb_of 1204 (by decide +kernel) (by decide +kernel)
theorem mcst_X12_195 : Cond.constant RX12 195 999999 ∈ tb := mt_1204
theorem mt_1205 : (Jvm.Cond.constantLong "GrindMillModel" (196 : Nat) (1103515245 : Int64)) ∈ tb := tb_of 1205 (by decide +kernel) (by decide +kernel)
theorem mcst_X12_196 : Cond.constantLong RX12 196 1103515245 ∈ tb := mt_1205
theorem mt_1206 : (Jvm.Cond.constantLong "GrindMillModel" (198 : Nat) (12345 : Int64)) ∈ tb := tb_of 1206 (by decide +kernel) (by decide +kernel)
theorem mcst_X12_198 : Cond.constantLong RX12 198 12345 ∈ tb := mt_1206
theorem mt_1207 : (Jvm.Cond.constantLong "GrindMillModel" (200 : Nat) (2147483648 : Int64)) ∈ tb := tb_of 1207 (by decide +kernel) (by decide +kernel)
theorem mcst_X12_200 : Cond.constantLong RX12 200 2147483648 ∈ tb := mt_1207
theorem mt_1208 : (Jvm.Cond.constantLong "GrindMillModel" (202 : Nat) (65536 : Int64)) ∈ tb := tb_of 1208 (by decide +kernel) (by decide +kernel)
theorem mcst_X12_202 : Cond.constantLong RX12 202 65536 ∈ tb := mt_1208
theorem mt_1209 : (Jvm.Cond.constantLong "GrindMillModel" (204 : Nat) (8 : Int64)) ∈ tb := tb_of 1209 (by decide +kernel) (by decide +kernel)
theorem mcst_X12_204 : Cond.constantLong RX12 204 8 ∈ tb := mt_1209
theorem mt_1238 : (Jvm.Cond.constantLong "GrindMillModel" (209 : Nat) (1231 : Int64)) ∈ tb := tb_of 1238 (by decide +kernel) (by decide +kernel)
theorem mcst_X12_209 : Cond.constantLong RX12 209 1231 ∈ tb := mt_1238
theorem mt_1239 : (Jvm.Cond.constantLong "GrindMillModel" (211 : Nat) (31 : Int64)) ∈ tb := tb_of 1239 (by decide +kernel) (by decide +kernel)
theorem mcst_X12_211 : Cond.constantLong RX12 211 31 ∈ tb := mt_1239
theorem mt_570 : (Jvm.Cond.constant "java/lang/Integer" (265 : Nat) (1431655765 : Int32)) ∈ tb := tb_of 570 (by decide +kernel) (by decide +kernel)
theorem mcst_J6_265 : Cond.constant RJ6 265 1431655765 ∈ tb := mt_570
theorem mt_571 : (Jvm.Cond.constant "java/lang/Integer" (266 : Nat) (858993459 : Int32)) ∈ tb := tb_of 571 (by decide +kernel) (by decide +kernel)
theorem mcst_J6_266 : Cond.constant RJ6 266 858993459 ∈ tb := mt_571
theorem mt_572 : (Jvm.Cond.constant "java/lang/Integer" (267 : Nat) (252645135 : Int32)) ∈ tb := tb_of 572 (by decide +kernel) (by decide +kernel)
theorem mcst_J6_267 : Cond.constant RJ6 267 252645135 ∈ tb := mt_572
theorem mt_145 : (Jvm.Cond.fieldLink "GrindMill$Clues" (11 : Nat) "GrindMill$Clues" "guessed" "[I") ∈ tb := tb_of 145 (by decide +kernel) (by decide +kernel)
theorem fe_X0_11 : FE RX0 11 0 1 := ⟨ce_0, by decide, mt_145⟩
theorem mt_146 : (Jvm.Cond.fieldLink "GrindMill$Clues" (15 : Nat) "GrindMill$Clues" "answers" "[I") ∈ tb := tb_of 146 (by decide +kernel) (by decide +kernel)
theorem fe_X0_15 : FE RX0 15 0 2 := ⟨ce_0, by decide, mt_146⟩
theorem mt_147 : (Jvm.Cond.fieldLink "GrindMill$Clues" (18 : Nat) "GrindMill$Clues" "notes" "[I") ∈ tb := tb_of 147 (by decide +kernel) (by decide +kernel)
theorem fe_X0_18 : FE RX0 18 0 3 := ⟨ce_0, by decide, mt_147⟩
theorem mt_148 : (Jvm.Cond.fieldLink "GrindMill$Clues" (21 : Nat) "GrindMill$Clues" "alike" "[I") ∈ tb := tb_of 148 (by decide +kernel) (by decide +kernel)
theorem fe_X0_21 : FE RX0 21 0 4 := ⟨ce_0, by decide, mt_148⟩
theorem mt_149 : (Jvm.Cond.fieldLink "GrindMill$Clues" (24 : Nat) "GrindMill$Clues" "yields" "[I") ∈ tb := tb_of 149 (by decide +kernel) (by decide +kernel)
theorem fe_X0_24 : FE RX0 24 0 5 := ⟨ce_0, by decide, mt_149⟩
theorem mt_144 : (Jvm.Cond.fieldLink "GrindMill$Clues" (27 : Nat) "GrindMill$Clues" "kinds" "[LGrindMill$Plain;") ∈ tb := tb_of 144 (by decide +kernel) (by decide +kernel)
theorem fe_X0_27 : FE RX0 27 0 0 := ⟨ce_0, by decide, mt_144⟩
theorem mt_150 : (Jvm.Cond.fieldLink "GrindMill$Clues" (31 : Nat) "GrindMill$Clues" "guessCount" "I") ∈ tb := tb_of 150 (by decide +kernel) (by decide +kernel)
theorem fe_X0_31 : FE RX0 31 0 6 := ⟨ce_0, by decide, mt_150⟩
theorem mt_153 : (Jvm.Cond.fieldLink "GrindMill$Clues" (35 : Nat) "GrindMill$Clues" "noteCount" "I") ∈ tb := tb_of 153 (by decide +kernel) (by decide +kernel)
theorem fe_X0_35 : FE RX0 35 0 7 := ⟨ce_0, by decide, mt_153⟩
theorem mt_180 : (Jvm.Cond.fieldLink "GrindMill$Goods" (13 : Nat) "GrindMill$Goods" "kind" "I") ∈ tb := tb_of 180 (by decide +kernel) (by decide +kernel)
theorem fe_X1_13 : FE RX1 13 1 1 := ⟨ce_1, by decide, mt_180⟩
theorem mt_182 : (Jvm.Cond.fieldLink "GrindMill$Goods" (17 : Nat) "GrindMill$Goods" "rate" "I") ∈ tb := tb_of 182 (by decide +kernel) (by decide +kernel)
theorem fe_X1_17 : FE RX1 17 1 2 := ⟨ce_1, by decide, mt_182⟩
theorem mt_184 : (Jvm.Cond.fieldLink "GrindMill$Goods" (20 : Nat) "GrindMill$Goods" "price" "I") ∈ tb := tb_of 184 (by decide +kernel) (by decide +kernel)
theorem fe_X1_20 : FE RX1 20 1 3 := ⟨ce_1, by decide, mt_184⟩
theorem mt_186 : (Jvm.Cond.fieldLink "GrindMill$Goods" (23 : Nat) "GrindMill$Goods" "bushels" "I") ∈ tb := tb_of 186 (by decide +kernel) (by decide +kernel)
theorem fe_X1_23 : FE RX1 23 1 4 := ⟨ce_1, by decide, mt_186⟩
theorem mt_189 : (Jvm.Cond.fieldLink "GrindMill$Goods" (26 : Nat) "GrindMill$Goods" "sold" "I") ∈ tb := tb_of 189 (by decide +kernel) (by decide +kernel)
theorem fe_X1_26 : FE RX1 26 1 5 := ⟨ce_1, by decide, mt_189⟩
theorem mt_179 : (Jvm.Cond.fieldLink "GrindMill$Goods" (7 : Nat) "GrindMill$Goods" "kinds" "[LGrindMill$Plain;") ∈ tb := tb_of 179 (by decide +kernel) (by decide +kernel)
theorem fe_X1_7 : FE RX1 7 1 0 := ⟨ce_1, by decide, mt_179⟩
theorem mt_191 : (Jvm.Cond.fieldLink "GrindMill$House" (109 : Nat) "GrindMill$Goods" "sold" "I") ∈ tb := tb_of 191 (by decide +kernel) (by decide +kernel)
theorem fe_X2_109 : FE RX2 109 1 5 := ⟨ce_1, by decide, mt_191⟩
theorem mt_210 : (Jvm.Cond.fieldLink "GrindMill$House" (11 : Nat) "GrindMill$House" "goods" "[LGrindMill$Goods;") ∈ tb := tb_of 210 (by decide +kernel) (by decide +kernel)
theorem fe_X2_11 : FE RX2 11 2 0 := ⟨ce_2, by decide, mt_210⟩
theorem mt_215 : (Jvm.Cond.fieldLink "GrindMill$House" (17 : Nat) "GrindMill$House" "past" "[I") ∈ tb := tb_of 215 (by decide +kernel) (by decide +kernel)
theorem fe_X2_17 : FE RX2 17 2 2 := ⟨ce_2, by decide, mt_215⟩
theorem mt_213 : (Jvm.Cond.fieldLink "GrindMill$House" (26 : Nat) "GrindMill$House" "clues" "LGrindMill$Clues;") ∈ tb := tb_of 213 (by decide +kernel) (by decide +kernel)
theorem fe_X2_26 : FE RX2 26 2 1 := ⟨ce_2, by decide, mt_213⟩
theorem mt_222 : (Jvm.Cond.fieldLink "GrindMill$House" (35 : Nat) "GrindMill$House" "held" "I") ∈ tb := tb_of 222 (by decide +kernel) (by decide +kernel)
theorem fe_X2_35 : FE RX2 35 2 5 := ⟨ce_2, by decide, mt_222⟩
theorem mt_225 : (Jvm.Cond.fieldLink "GrindMill$House" (39 : Nat) "GrindMill$House" "word" "I") ∈ tb := tb_of 225 (by decide +kernel) (by decide +kernel)
theorem fe_X2_39 : FE RX2 39 2 6 := ⟨ce_2, by decide, mt_225⟩
theorem mt_228 : (Jvm.Cond.fieldLink "GrindMill$House" (42 : Nat) "GrindMill$House" "grinding" "I") ∈ tb := tb_of 228 (by decide +kernel) (by decide +kernel)
theorem fe_X2_42 : FE RX2 42 2 7 := ⟨ce_2, by decide, mt_228⟩
theorem mt_231 : (Jvm.Cond.fieldLink "GrindMill$House" (45 : Nat) "GrindMill$House" "cold" "I") ∈ tb := tb_of 231 (by decide +kernel) (by decide +kernel)
theorem fe_X2_45 : FE RX2 45 2 8 := ⟨ce_2, by decide, mt_231⟩
theorem mt_235 : (Jvm.Cond.fieldLink "GrindMill$House" (48 : Nat) "GrindMill$House" "hour" "I") ∈ tb := tb_of 235 (by decide +kernel) (by decide +kernel)
theorem fe_X2_48 : FE RX2 48 2 9 := ⟨ce_2, by decide, mt_235⟩
theorem mt_237 : (Jvm.Cond.fieldLink "GrindMill$House" (51 : Nat) "GrindMill$House" "spilled" "I") ∈ tb := tb_of 237 (by decide +kernel) (by decide +kernel)
theorem fe_X2_51 : FE RX2 51 2 10 := ⟨ce_2, by decide, mt_237⟩
theorem mt_239 : (Jvm.Cond.fieldLink "GrindMill$House" (54 : Nat) "GrindMill$House" "money" "I") ∈ tb := tb_of 239 (by decide +kernel) (by decide +kernel)
theorem fe_X2_54 : FE RX2 54 2 11 := ⟨ce_2, by decide, mt_239⟩
theorem mt_220 : (Jvm.Cond.fieldLink "GrindMill$House" (57 : Nat) "GrindMill$House" "goodsCount" "I") ∈ tb := tb_of 220 (by decide +kernel) (by decide +kernel)
theorem fe_X2_57 : FE RX2 57 2 4 := ⟨ce_2, by decide, mt_220⟩
theorem mt_216 : (Jvm.Cond.fieldLink "GrindMill$House" (60 : Nat) "GrindMill$House" "pastCount" "I") ∈ tb := tb_of 216 (by decide +kernel) (by decide +kernel)
theorem fe_X2_60 : FE RX2 60 2 3 := ⟨ce_2, by decide, mt_216⟩
theorem mt_151 : (Jvm.Cond.fieldLink "GrindMill$House" (63 : Nat) "GrindMill$Clues" "guessCount" "I") ∈ tb := tb_of 151 (by decide +kernel) (by decide +kernel)
theorem fe_X2_63 : FE RX2 63 0 6 := ⟨ce_0, by decide, mt_151⟩
theorem mt_154 : (Jvm.Cond.fieldLink "GrindMill$House" (66 : Nat) "GrindMill$Clues" "noteCount" "I") ∈ tb := tb_of 154 (by decide +kernel) (by decide +kernel)
theorem fe_X2_66 : FE RX2 66 0 7 := ⟨ce_0, by decide, mt_154⟩
theorem mt_187 : (Jvm.Cond.fieldLink "GrindMill$House" (86 : Nat) "GrindMill$Goods" "bushels" "I") ∈ tb := tb_of 187 (by decide +kernel) (by decide +kernel)
theorem fe_X2_86 : FE RX2 86 1 4 := ⟨ce_1, by decide, mt_187⟩
theorem mt_300 : (Jvm.Cond.fieldLink "GrindMill$Plans" (15 : Nat) "GrindMill$Plans" "yields" "[I") ∈ tb := tb_of 300 (by decide +kernel) (by decide +kernel)
theorem fe_X7_15 : FE RX7 15 7 1 := ⟨ce_7, by decide, mt_300⟩
theorem mt_301 : (Jvm.Cond.fieldLink "GrindMill$Plans" (18 : Nat) "GrindMill$Plans" "fewest" "[I") ∈ tb := tb_of 301 (by decide +kernel) (by decide +kernel)
theorem fe_X7_18 : FE RX7 18 7 2 := ⟨ce_7, by decide, mt_301⟩
theorem mt_302 : (Jvm.Cond.fieldLink "GrindMill$Plans" (23 : Nat) "GrindMill$Plans" "gains" "[[I") ∈ tb := tb_of 302 (by decide +kernel) (by decide +kernel)
theorem fe_X7_23 : FE RX7 23 7 3 := ⟨ce_7, by decide, mt_302⟩
theorem mt_303 : (Jvm.Cond.fieldLink "GrindMill$Plans" (26 : Nat) "GrindMill$Plans" "most" "[[I") ∈ tb := tb_of 303 (by decide +kernel) (by decide +kernel)
theorem fe_X7_26 : FE RX7 26 7 4 := ⟨ce_7, by decide, mt_303⟩
theorem mt_304 : (Jvm.Cond.fieldLink "GrindMill$Plans" (29 : Nat) "GrindMill$Plans" "alone" "[I") ∈ tb := tb_of 304 (by decide +kernel) (by decide +kernel)
theorem fe_X7_29 : FE RX7 29 7 5 := ⟨ce_7, by decide, mt_304⟩
theorem mt_305 : (Jvm.Cond.fieldLink "GrindMill$Plans" (32 : Nat) "GrindMill$Plans" "firstOfTwo" "[I") ∈ tb := tb_of 305 (by decide +kernel) (by decide +kernel)
theorem fe_X7_32 : FE RX7 32 7 6 := ⟨ce_7, by decide, mt_305⟩
theorem mt_306 : (Jvm.Cond.fieldLink "GrindMill$Plans" (35 : Nat) "GrindMill$Plans" "secondOfTwo" "[I") ∈ tb := tb_of 306 (by decide +kernel) (by decide +kernel)
theorem fe_X7_35 : FE RX7 35 7 7 := ⟨ce_7, by decide, mt_306⟩
theorem mt_218 : (Jvm.Cond.fieldLink "GrindMill$Plans" (42 : Nat) "GrindMill$House" "goodsCount" "I") ∈ tb := tb_of 218 (by decide +kernel) (by decide +kernel)
theorem fe_X7_42 : FE RX7 42 2 4 := ⟨ce_2, by decide, mt_218⟩
theorem mt_211 : (Jvm.Cond.fieldLink "GrindMill$Plans" (56 : Nat) "GrindMill$House" "goods" "[LGrindMill$Goods;") ∈ tb := tb_of 211 (by decide +kernel) (by decide +kernel)
theorem fe_X7_56 : FE RX7 56 2 0 := ⟨ce_2, by decide, mt_211⟩
theorem mt_232 : (Jvm.Cond.fieldLink "GrindMill$Plans" (60 : Nat) "GrindMill$House" "cold" "I") ∈ tb := tb_of 232 (by decide +kernel) (by decide +kernel)
theorem fe_X7_60 : FE RX7 60 2 8 := ⟨ce_2, by decide, mt_232⟩
theorem mt_190 : (Jvm.Cond.fieldLink "GrindMill$Plans" (84 : Nat) "GrindMill$Goods" "sold" "I") ∈ tb := tb_of 190 (by decide +kernel) (by decide +kernel)
theorem fe_X7_84 : FE RX7 84 1 5 := ⟨ce_1, by decide, mt_190⟩
theorem mt_298 : (Jvm.Cond.fieldLink "GrindMill$Plans" (9 : Nat) "GrindMill$Plans" "way" "[I") ∈ tb := tb_of 298 (by decide +kernel) (by decide +kernel)
theorem fe_X7_9 : FE RX7 9 7 0 := ⟨ce_7, by decide, mt_298⟩
theorem mt_273 : (Jvm.Cond.fieldLink "GrindMill$Text" (11 : Nat) "GrindMill$Text" "bytes" "[B") ∈ tb := tb_of 273 (by decide +kernel) (by decide +kernel)
theorem fe_X10_11 : FE RX10 11 10 0 := ⟨ce_10, by decide, mt_273⟩
theorem mt_274 : (Jvm.Cond.fieldLink "GrindMill$Text" (15 : Nat) "GrindMill$Text" "length" "I") ∈ tb := tb_of 274 (by decide +kernel) (by decide +kernel)
theorem fe_X10_15 : FE RX10 15 10 1 := ⟨ce_10, by decide, mt_274⟩
theorem mt_278 : (Jvm.Cond.fieldLink "GrindMill$Text" (19 : Nat) "GrindMill$Text" "at" "I") ∈ tb := tb_of 278 (by decide +kernel) (by decide +kernel)
theorem fe_X10_19 : FE RX10 19 10 3 := ⟨ce_10, by decide, mt_278⟩
theorem mt_276 : (Jvm.Cond.fieldLink "GrindMill$Text" (22 : Nat) "GrindMill$Text" "fault" "I") ∈ tb := tb_of 276 (by decide +kernel) (by decide +kernel)
theorem fe_X10_22 : FE RX10 22 10 2 := ⟨ce_10, by decide, mt_276⟩
theorem mt_223 : (Jvm.Cond.fieldLink "GrindMill$Text" (54 : Nat) "GrindMill$House" "held" "I") ∈ tb := tb_of 223 (by decide +kernel) (by decide +kernel)
theorem fe_X10_54 : FE RX10 54 2 5 := ⟨ce_2, by decide, mt_223⟩
theorem mt_221 : (Jvm.Cond.fieldLink "GrindMill$Text" (71 : Nat) "GrindMill$House" "goodsCount" "I") ∈ tb := tb_of 221 (by decide +kernel) (by decide +kernel)
theorem fe_X10_71 : FE RX10 71 2 4 := ⟨ce_2, by decide, mt_221⟩
theorem mt_229 : (Jvm.Cond.fieldLink "GrindMill$Text" (74 : Nat) "GrindMill$House" "grinding" "I") ∈ tb := tb_of 229 (by decide +kernel) (by decide +kernel)
theorem fe_X10_74 : FE RX10 74 2 7 := ⟨ce_2, by decide, mt_229⟩
theorem mt_227 : (Jvm.Cond.fieldLink "GrindMill$Text" (79 : Nat) "GrindMill$House" "word" "I") ∈ tb := tb_of 227 (by decide +kernel) (by decide +kernel)
theorem fe_X10_79 : FE RX10 79 2 6 := ⟨ce_2, by decide, mt_227⟩
theorem mt_233 : (Jvm.Cond.fieldLink "GrindMill$Text" (83 : Nat) "GrindMill$House" "cold" "I") ∈ tb := tb_of 233 (by decide +kernel) (by decide +kernel)
theorem fe_X10_83 : FE RX10 83 2 8 := ⟨ce_2, by decide, mt_233⟩
theorem mt_277 : (Jvm.Cond.fieldLink "GrindMill" (109 : Nat) "GrindMill$Text" "fault" "I") ∈ tb := tb_of 277 (by decide +kernel) (by decide +kernel)
theorem fe_X11_109 : FE RX11 109 10 2 := ⟨ce_10, by decide, mt_277⟩
theorem mt_230 : (Jvm.Cond.fieldLink "GrindMill" (122 : Nat) "GrindMill$House" "grinding" "I") ∈ tb := tb_of 230 (by decide +kernel) (by decide +kernel)
theorem fe_X11_122 : FE RX11 122 2 7 := ⟨ce_2, by decide, mt_230⟩
theorem mt_212 : (Jvm.Cond.fieldLink "GrindMill" (132 : Nat) "GrindMill$House" "goods" "[LGrindMill$Goods;") ∈ tb := tb_of 212 (by decide +kernel) (by decide +kernel)
theorem fe_X11_132 : FE RX11 132 2 0 := ⟨ce_2, by decide, mt_212⟩
theorem mt_188 : (Jvm.Cond.fieldLink "GrindMill" (136 : Nat) "GrindMill$Goods" "bushels" "I") ∈ tb := tb_of 188 (by decide +kernel) (by decide +kernel)
theorem fe_X11_136 : FE RX11 136 1 4 := ⟨ce_1, by decide, mt_188⟩
theorem mt_240 : (Jvm.Cond.fieldLink "GrindMill" (144 : Nat) "GrindMill$House" "money" "I") ∈ tb := tb_of 240 (by decide +kernel) (by decide +kernel)
theorem fe_X11_144 : FE RX11 144 2 11 := ⟨ce_2, by decide, mt_240⟩
theorem mt_234 : (Jvm.Cond.fieldLink "GrindMill" (147 : Nat) "GrindMill$House" "cold" "I") ∈ tb := tb_of 234 (by decide +kernel) (by decide +kernel)
theorem fe_X11_147 : FE RX11 147 2 8 := ⟨ce_2, by decide, mt_234⟩
theorem mt_217 : (Jvm.Cond.fieldLink "GrindMill" (150 : Nat) "GrindMill$House" "pastCount" "I") ∈ tb := tb_of 217 (by decide +kernel) (by decide +kernel)
theorem fe_X11_150 : FE RX11 150 2 3 := ⟨ce_2, by decide, mt_217⟩
theorem mt_236 : (Jvm.Cond.fieldLink "GrindMill" (156 : Nat) "GrindMill$House" "hour" "I") ∈ tb := tb_of 236 (by decide +kernel) (by decide +kernel)
theorem fe_X11_156 : FE RX11 156 2 9 := ⟨ce_2, by decide, mt_236⟩
theorem mt_181 : (Jvm.Cond.fieldLink "GrindMill" (159 : Nat) "GrindMill$Goods" "kind" "I") ∈ tb := tb_of 181 (by decide +kernel) (by decide +kernel)
theorem fe_X11_159 : FE RX11 159 1 1 := ⟨ce_1, by decide, mt_181⟩
theorem mt_183 : (Jvm.Cond.fieldLink "GrindMill" (162 : Nat) "GrindMill$Goods" "rate" "I") ∈ tb := tb_of 183 (by decide +kernel) (by decide +kernel)
theorem fe_X11_162 : FE RX11 162 1 2 := ⟨ce_1, by decide, mt_183⟩
theorem mt_185 : (Jvm.Cond.fieldLink "GrindMill" (165 : Nat) "GrindMill$Goods" "price" "I") ∈ tb := tb_of 185 (by decide +kernel) (by decide +kernel)
theorem fe_X11_165 : FE RX11 165 1 3 := ⟨ce_1, by decide, mt_185⟩
theorem mt_192 : (Jvm.Cond.fieldLink "GrindMill" (168 : Nat) "GrindMill$Goods" "sold" "I") ∈ tb := tb_of 192 (by decide +kernel) (by decide +kernel)
theorem fe_X11_168 : FE RX11 168 1 5 := ⟨ce_1, by decide, mt_192⟩
theorem mt_224 : (Jvm.Cond.fieldLink "GrindMill" (183 : Nat) "GrindMill$House" "held" "I") ∈ tb := tb_of 224 (by decide +kernel) (by decide +kernel)
theorem fe_X11_183 : FE RX11 183 2 5 := ⟨ce_2, by decide, mt_224⟩
theorem mt_238 : (Jvm.Cond.fieldLink "GrindMill" (191 : Nat) "GrindMill$House" "spilled" "I") ∈ tb := tb_of 238 (by decide +kernel) (by decide +kernel)
theorem fe_X11_191 : FE RX11 191 2 10 := ⟨ce_2, by decide, mt_238⟩
theorem mt_299 : (Jvm.Cond.fieldLink "GrindMill" (201 : Nat) "GrindMill$Plans" "way" "[I") ∈ tb := tb_of 299 (by decide +kernel) (by decide +kernel)
theorem fe_X11_201 : FE RX11 201 7 0 := ⟨ce_7, by decide, mt_299⟩
theorem mt_214 : (Jvm.Cond.fieldLink "GrindMill" (207 : Nat) "GrindMill$House" "clues" "LGrindMill$Clues;") ∈ tb := tb_of 214 (by decide +kernel) (by decide +kernel)
theorem fe_X11_207 : FE RX11 207 2 1 := ⟨ce_2, by decide, mt_214⟩
theorem mt_152 : (Jvm.Cond.fieldLink "GrindMill" (211 : Nat) "GrindMill$Clues" "guessCount" "I") ∈ tb := tb_of 152 (by decide +kernel) (by decide +kernel)
theorem fe_X11_211 : FE RX11 211 0 6 := ⟨ce_0, by decide, mt_152⟩
theorem mt_155 : (Jvm.Cond.fieldLink "GrindMill" (238 : Nat) "GrindMill$Clues" "noteCount" "I") ∈ tb := tb_of 155 (by decide +kernel) (by decide +kernel)
theorem fe_X11_238 : FE RX11 238 0 7 := ⟨ce_0, by decide, mt_155⟩
theorem mt_329 : (Jvm.Cond.fieldLink "GrindMill" (30 : Nat) "GrindMill" "now" "LGrindMill$House;") ∈ tb := tb_of 329 (by decide +kernel) (by decide +kernel)
theorem fe_X11_30 : FE RX11 30 11 5 := ⟨ce_11, by decide, mt_329⟩
theorem mt_330 : (Jvm.Cond.fieldLink "GrindMill" (36 : Nat) "GrindMill" "spare" "LGrindMill$House;") ∈ tb := tb_of 330 (by decide +kernel) (by decide +kernel)
theorem fe_X11_36 : FE RX11 36 11 6 := ⟨ce_11, by decide, mt_330⟩
theorem mt_324 : (Jvm.Cond.fieldLink "GrindMill" (39 : Nat) "GrindMill" "images" "[LGrindMill$House;") ∈ tb := tb_of 324 (by decide +kernel) (by decide +kernel)
theorem fe_X11_39 : FE RX11 39 11 0 := ⟨ce_11, by decide, mt_324⟩
theorem mt_325 : (Jvm.Cond.fieldLink "GrindMill" (43 : Nat) "GrindMill" "kept" "[Z") ∈ tb := tb_of 325 (by decide +kernel) (by decide +kernel)
theorem fe_X11_43 : FE RX11 43 11 1 := ⟨ce_11, by decide, mt_325⟩
theorem mt_326 : (Jvm.Cond.fieldLink "GrindMill" (50 : Nat) "GrindMill" "text" "LGrindMill$Text;") ∈ tb := tb_of 326 (by decide +kernel) (by decide +kernel)
theorem fe_X11_50 : FE RX11 50 11 2 := ⟨ce_11, by decide, mt_326⟩
theorem mt_327 : (Jvm.Cond.fieldLink "GrindMill" (57 : Nat) "GrindMill" "plans" "LGrindMill$Plans;") ∈ tb := tb_of 327 (by decide +kernel) (by decide +kernel)
theorem fe_X11_57 : FE RX11 57 11 3 := ⟨ce_11, by decide, mt_327⟩
theorem mt_328 : (Jvm.Cond.fieldLink "GrindMill" (61 : Nat) "GrindMill" "refused" "[I") ∈ tb := tb_of 328 (by decide +kernel) (by decide +kernel)
theorem fe_X11_61 : FE RX11 61 11 4 := ⟨ce_11, by decide, mt_328⟩
theorem mt_331 : (Jvm.Cond.fieldLink "GrindMill" (65 : Nat) "GrindMill" "above" "J") ∈ tb := tb_of 331 (by decide +kernel) (by decide +kernel)
theorem fe_X11_65 : FE RX11 65 11 7 := ⟨ce_11, by decide, mt_331⟩
theorem mt_332 : (Jvm.Cond.fieldLink "GrindMill" (69 : Nat) "GrindMill" "below" "J") ∈ tb := tb_of 332 (by decide +kernel) (by decide +kernel)
theorem fe_X11_69 : FE RX11 69 11 8 := ⟨ce_11, by decide, mt_332⟩
theorem mt_219 : (Jvm.Cond.fieldLink "GrindMill" (80 : Nat) "GrindMill$House" "goodsCount" "I") ∈ tb := tb_of 219 (by decide +kernel) (by decide +kernel)
theorem fe_X11_80 : FE RX11 80 2 4 := ⟨ce_2, by decide, mt_219⟩
theorem mt_226 : (Jvm.Cond.fieldLink "GrindMill" (96 : Nat) "GrindMill$House" "word" "I") ∈ tb := tb_of 226 (by decide +kernel) (by decide +kernel)
theorem fe_X11_96 : FE RX11 96 2 6 := ⟨ce_2, by decide, mt_226⟩
theorem mt_275 : (Jvm.Cond.fieldLink "GrindMill" (99 : Nat) "GrindMill$Text" "length" "I") ∈ tb := tb_of 275 (by decide +kernel) (by decide +kernel)
theorem fe_X11_99 : FE RX11 99 10 1 := ⟨ce_10, by decide, mt_275⟩
theorem mt_904 : (Jvm.Cond.fieldLink "GrindMillModel" (101 : Nat) "GrindMillModel" "readGrinds" "I") ∈ tb := tb_of 904 (by decide +kernel) (by decide +kernel)
theorem fe_X12_101 : FE RX12 101 12 13 := ⟨ce_12, by decide, mt_904⟩
theorem mt_902 : (Jvm.Cond.fieldLink "GrindMillModel" (104 : Nat) "GrindMillModel" "readWord" "I") ∈ tb := tb_of 902 (by decide +kernel) (by decide +kernel)
theorem fe_X12_104 : FE RX12 104 12 11 := ⟨ce_12, by decide, mt_902⟩
theorem mt_903 : (Jvm.Cond.fieldLink "GrindMillModel" (107 : Nat) "GrindMillModel" "readCold" "I") ∈ tb := tb_of 903 (by decide +kernel) (by decide +kernel)
theorem fe_X12_107 : FE RX12 107 12 12 := ⟨ce_12, by decide, mt_903⟩
theorem mt_892 : (Jvm.Cond.fieldLink "GrindMillModel" (13 : Nat) "GrindMillModel" "isKept" "[Z") ∈ tb := tb_of 892 (by decide +kernel) (by decide +kernel)
theorem fe_X12_13 : FE RX12 13 12 1 := ⟨ce_12, by decide, mt_892⟩
theorem mt_893 : (Jvm.Cond.fieldLink "GrindMillModel" (17 : Nat) "GrindMillModel" "refused" "[I") ∈ tb := tb_of 893 (by decide +kernel) (by decide +kernel)
theorem fe_X12_17 : FE RX12 17 12 2 := ⟨ce_12, by decide, mt_893⟩
theorem mt_894 : (Jvm.Cond.fieldLink "GrindMillModel" (186 : Nat) "GrindMillModel" "above" "J") ∈ tb := tb_of 894 (by decide +kernel) (by decide +kernel)
theorem fe_X12_186 : FE RX12 186 12 3 := ⟨ce_12, by decide, mt_894⟩
theorem mt_895 : (Jvm.Cond.fieldLink "GrindMillModel" (20 : Nat) "GrindMillModel" "below" "J") ∈ tb := tb_of 895 (by decide +kernel) (by decide +kernel)
theorem fe_X12_20 : FE RX12 20 12 4 := ⟨ce_12, by decide, mt_895⟩
theorem mt_896 : (Jvm.Cond.fieldLink "GrindMillModel" (24 : Nat) "GrindMillModel" "text" "[I") ∈ tb := tb_of 896 (by decide +kernel) (by decide +kernel)
theorem fe_X12_24 : FE RX12 24 12 5 := ⟨ce_12, by decide, mt_896⟩
theorem mt_898 : (Jvm.Cond.fieldLink "GrindMillModel" (27 : Nat) "GrindMillModel" "words" "[I") ∈ tb := tb_of 898 (by decide +kernel) (by decide +kernel)
theorem fe_X12_27 : FE RX12 27 12 7 := ⟨ce_12, by decide, mt_898⟩
theorem mt_905 : (Jvm.Cond.fieldLink "GrindMillModel" (30 : Nat) "GrindMillModel" "readGoods" "[I") ∈ tb := tb_of 905 (by decide +kernel) (by decide +kernel)
theorem fe_X12_30 : FE RX12 30 12 14 := ⟨ce_12, by decide, mt_905⟩
theorem mt_907 : (Jvm.Cond.fieldLink "GrindMillModel" (33 : Nat) "GrindMillModel" "fewest" "[I") ∈ tb := tb_of 907 (by decide +kernel) (by decide +kernel)
theorem fe_X12_33 : FE RX12 33 12 16 := ⟨ce_12, by decide, mt_907⟩
theorem mt_908 : (Jvm.Cond.fieldLink "GrindMillModel" (36 : Nat) "GrindMillModel" "richest" "[I") ∈ tb := tb_of 908 (by decide +kernel) (by decide +kernel)
theorem fe_X12_36 : FE RX12 36 12 17 := ⟨ce_12, by decide, mt_908⟩
theorem mt_909 : (Jvm.Cond.fieldLink "GrindMillModel" (39 : Nat) "GrindMillModel" "likes" "[I") ∈ tb := tb_of 909 (by decide +kernel) (by decide +kernel)
theorem fe_X12_39 : FE RX12 39 12 18 := ⟨ce_12, by decide, mt_909⟩
theorem mt_910 : (Jvm.Cond.fieldLink "GrindMillModel" (42 : Nat) "GrindMillModel" "firstMoney" "[I") ∈ tb := tb_of 910 (by decide +kernel) (by decide +kernel)
theorem fe_X12_42 : FE RX12 42 12 19 := ⟨ce_12, by decide, mt_910⟩
theorem mt_911 : (Jvm.Cond.fieldLink "GrindMillModel" (45 : Nat) "GrindMillModel" "otherMoney" "[I") ∈ tb := tb_of 911 (by decide +kernel) (by decide +kernel)
theorem fe_X12_45 : FE RX12 45 12 20 := ⟨ce_12, by decide, mt_911⟩
theorem mt_897 : (Jvm.Cond.fieldLink "GrindMillModel" (64 : Nat) "GrindMillModel" "length" "I") ∈ tb := tb_of 897 (by decide +kernel) (by decide +kernel)
theorem fe_X12_64 : FE RX12 64 12 6 := ⟨ce_12, by decide, mt_897⟩
theorem mt_900 : (Jvm.Cond.fieldLink "GrindMillModel" (68 : Nat) "GrindMillModel" "behind" "I") ∈ tb := tb_of 900 (by decide +kernel) (by decide +kernel)
theorem fe_X12_68 : FE RX12 68 12 9 := ⟨ce_12, by decide, mt_900⟩
theorem mt_891 : (Jvm.Cond.fieldLink "GrindMillModel" (7 : Nat) "GrindMillModel" "row" "[I") ∈ tb := tb_of 891 (by decide +kernel) (by decide +kernel)
theorem fe_X12_7 : FE RX12 7 12 0 := ⟨ce_12, by decide, mt_891⟩
theorem mt_899 : (Jvm.Cond.fieldLink "GrindMillModel" (71 : Nat) "GrindMillModel" "at" "I") ∈ tb := tb_of 899 (by decide +kernel) (by decide +kernel)
theorem fe_X12_71 : FE RX12 71 12 8 := ⟨ce_12, by decide, mt_899⟩
theorem mt_906 : (Jvm.Cond.fieldLink "GrindMillModel" (87 : Nat) "GrindMillModel" "readMany" "I") ∈ tb := tb_of 906 (by decide +kernel) (by decide +kernel)
theorem fe_X12_87 : FE RX12 87 12 15 := ⟨ce_12, by decide, mt_906⟩
theorem mt_901 : (Jvm.Cond.fieldLink "GrindMillModel" (94 : Nat) "GrindMillModel" "readHolds" "I") ∈ tb := tb_of 901 (by decide +kernel) (by decide +kernel)
theorem fe_X12_94 : FE RX12 94 12 10 := ⟨ce_12, by decide, mt_901⟩
theorem mt_729 : (Jvm.Cond.methodLink "GrindMill$Clues" (59 : Nat) ({ cls := "java/lang/Math", name := "max", desc := "(II)I" } : Jvm.MethodName)) ∈ tb := tb_of 729 (by decide +kernel) (by decide +kernel)
theorem mm_X0_59 : Cond.methodLink RX0 59 Lib.Math.max.name ∈ tb := mt_729
theorem mt_686 : (Jvm.Cond.static ({ cls := "java/lang/Math", name := "max", desc := "(II)I" } : Jvm.MethodName)) ∈ tb := tb_of 686 (by decide +kernel) (by decide +kernel)
theorem mms_mmax : Cond.static Lib.Math.max.name ∈ tb := mt_686
theorem mt_687 : (Jvm.Cond.code ({ cls := "java/lang/Math", name := "max", desc := "(II)I" } : Jvm.MethodName) prog_16_method_65_code (2 : Nat) (Option.some Jvm.ClassFile.FieldType.int)) ∈ tb := tb_of 687 (by decide +kernel) (by decide +kernel)
theorem mmc_mmax : Cond.code Lib.Math.max.name Lib.Math.max.code 2 (some .int) ∈ tb := tb_of 687 (by decide +kernel) (by decide +kernel)
theorem mt_76 : (Jvm.Cond.initialized "java/lang/Math") ∈ tb := tb_of 76 (by decide +kernel) (by decide +kernel)
theorem mmi : Cond.initialized "java/lang/Math" ∈ tb := mt_76
theorem mt_559 : (Jvm.Cond.methodLink "GrindMill$House" (104 : Nat) ({ cls := "java/lang/Math", name := "min", desc := "(II)I" } : Jvm.MethodName)) ∈ tb := tb_of 559 (by decide +kernel) (by decide +kernel)
theorem mm_X2_104 : Cond.methodLink RX2 104 Lib.Math.min.name ∈ tb := mt_559
theorem mt_475 : (Jvm.Cond.static ({ cls := "java/lang/Math", name := "min", desc := "(II)I" } : Jvm.MethodName)) ∈ tb := tb_of 475 (by decide +kernel) (by decide +kernel)
theorem mms_mmin : Cond.static Lib.Math.min.name ∈ tb := mt_475
theorem mt_476 : (Jvm.Cond.code ({ cls := "java/lang/Math", name := "min", desc := "(II)I" } : Jvm.MethodName) prog_16_method_69_code (2 : Nat) (Option.some Jvm.ClassFile.FieldType.int)) ∈ tb := tb_of 476 (by decide +kernel) (by decide +kernel)
theorem mmc_mmin : Cond.code Lib.Math.min.name Lib.Math.min.code 2 (some .int) ∈ tb := tb_of 476 (by decide +kernel) (by decide +kernel)
theorem mt_663 : (Jvm.Cond.methodLink "GrindMill$Plans" (69 : Nat) ({ cls := "java/lang/Math", name := "min", desc := "(II)I" } : Jvm.MethodName)) ∈ tb := tb_of 663 (by decide +kernel) (by decide +kernel)
theorem mm_X7_69 : Cond.methodLink RX7 69 Lib.Math.min.name ∈ tb := mt_663
theorem mt_685 : (Jvm.Cond.methodLink "GrindMill$Plans" (81 : Nat) ({ cls := "java/lang/Math", name := "max", desc := "(II)I" } : Jvm.MethodName)) ∈ tb := tb_of 685 (by decide +kernel) (by decide +kernel)
theorem mm_X7_81 : Cond.methodLink RX7 81 Lib.Math.max.name ∈ tb := mt_685
theorem mt_474 : (Jvm.Cond.methodLink "GrindMill$Text" (93 : Nat) ({ cls := "java/lang/Math", name := "min", desc := "(II)I" } : Jvm.MethodName)) ∈ tb := tb_of 474 (by decide +kernel) (by decide +kernel)
theorem mm_X10_93 : Cond.methodLink RX10 93 Lib.Math.min.name ∈ tb := mt_474
theorem mt_640 : (Jvm.Cond.methodLink "GrindMill" (186 : Nat) ({ cls := "java/lang/Math", name := "min", desc := "(II)I" } : Jvm.MethodName)) ∈ tb := tb_of 640 (by decide +kernel) (by decide +kernel)
theorem mm_X11_186 : Cond.methodLink RX11 186 Lib.Math.min.name ∈ tb := mt_640
theorem mt_809 : (Jvm.Cond.methodLink "GrindMill" (260 : Nat) ({ cls := "java/lang/Math", name := "max", desc := "(JJ)J" } : Jvm.MethodName)) ∈ tb := tb_of 809 (by decide +kernel) (by decide +kernel)
theorem mm_X11_260 : Cond.methodLink RX11 260 Lib.MathLoose.max_long.x ∈ tb := mt_809
theorem mt_810 : (Jvm.Cond.static ({ cls := "java/lang/Math", name := "max", desc := "(JJ)J" } : Jvm.MethodName)) ∈ tb := tb_of 810 (by decide +kernel) (by decide +kernel)
theorem mms_mmax_long : Cond.static Lib.MathLoose.max_long.x ∈ tb := mt_810
theorem mt_811 : (Jvm.Cond.code ({ cls := "java/lang/Math", name := "max", desc := "(JJ)J" } : Jvm.MethodName) prog_16_method_66_code (4 : Nat) (Option.some Jvm.ClassFile.FieldType.long)) ∈ tb := tb_of 811 (by decide +kernel) (by decide +kernel)
theorem mmc_mmax_long : Cond.code Lib.MathLoose.max_long.x Lib.MathLoose.max_long.code 4 (some .long) ∈ tb := tb_of 811 (by decide +kernel) (by decide +kernel)
theorem mt_63 : (Jvm.Cond.initialized "GrindMill$Mills") ∈ tb := tb_of 63 (by decide +kernel) (by decide +kernel)
theorem mt_539 : (Jvm.Cond.instanceMethod ({ cls := "GrindMill$Mills", name := "ground", desc := "(III)I" } : Jvm.MethodName)) ∈ tb := tb_of 539 (by decide +kernel) (by decide +kernel)
theorem mt_538 : (Jvm.Cond.selects "GrindMill$Mills" ({ cls := "GrindMill$Plain", name := "ground", desc := "(III)I" } : Jvm.MethodName) ({ cls := "GrindMill$Mills", name := "ground", desc := "(III)I" } : Jvm.MethodName)) ∈ tb := tb_of 538 (by decide +kernel) (by decide +kernel)
theorem mt_535 : (Jvm.Cond.instanceMethod ({ cls := "GrindMill$Plain", name := "ground", desc := "(III)I" } : Jvm.MethodName)) ∈ tb := tb_of 535 (by decide +kernel) (by decide +kernel)
theorem mt_537 : (Jvm.Cond.sameMethod "GrindMill$Plain" "GrindMill$Plain" "ground" "(III)I") ∈ tb := tb_of 537 (by decide +kernel) (by decide +kernel)
theorem mt_779 : (Jvm.Cond.methodLink "GrindMill$Clues" (64 : Nat) ({ cls := "GrindMill$Plain", name := "ground", desc := "(III)I" } : Jvm.MethodName)) ∈ tb := tb_of 779 (by decide +kernel) (by decide +kernel)
theorem mt_554 : (Jvm.Cond.code ({ cls := "GrindMill$Plain", name := "ground", desc := "(III)I" } : Jvm.MethodName) prog_8_method_2_code (4 : Nat) (Option.some Jvm.ClassFile.FieldType.int)) ∈ tb := tb_of 554 (by decide +kernel) (by decide +kernel)
theorem ue_X0_64_3 : UE RX0 64 ({ cls := "GrindMill$Plain", name := "ground", desc := "(III)I" } : Jvm.MethodName) yX3_ground 3 := ⟨ce_3, "GrindMill$Plain", by decide, by decide, rfl, Or.inr ⟨(List.forall_mem_cons.mpr ⟨mt_779, (List.forall_mem_cons.mpr ⟨mt_537, (List.forall_mem_cons.mpr ⟨mt_535, (List.forall_mem_cons.mpr ⟨mt_538, (List.forall_mem_cons.mpr ⟨mt_539, (List.forall_mem_cons.mpr ⟨mt_63, (fun _ h => absurd h List.not_mem_nil)⟩)⟩)⟩)⟩)⟩)⟩), _, _, _, mt_554⟩⟩
theorem mt_65 : (Jvm.Cond.initialized "GrindMill$Nothing") ∈ tb := tb_of 65 (by decide +kernel) (by decide +kernel)
theorem mt_543 : (Jvm.Cond.instanceMethod ({ cls := "GrindMill$Nothing", name := "ground", desc := "(III)I" } : Jvm.MethodName)) ∈ tb := tb_of 543 (by decide +kernel) (by decide +kernel)
theorem mt_542 : (Jvm.Cond.selects "GrindMill$Nothing" ({ cls := "GrindMill$Plain", name := "ground", desc := "(III)I" } : Jvm.MethodName) ({ cls := "GrindMill$Nothing", name := "ground", desc := "(III)I" } : Jvm.MethodName)) ∈ tb := tb_of 542 (by decide +kernel) (by decide +kernel)
theorem ue_X0_64_4 : UE RX0 64 ({ cls := "GrindMill$Plain", name := "ground", desc := "(III)I" } : Jvm.MethodName) yX4_ground 4 := ⟨ce_4, "GrindMill$Plain", by decide, by decide, rfl, Or.inr ⟨(List.forall_mem_cons.mpr ⟨mt_779, (List.forall_mem_cons.mpr ⟨mt_537, (List.forall_mem_cons.mpr ⟨mt_535, (List.forall_mem_cons.mpr ⟨mt_542, (List.forall_mem_cons.mpr ⟨mt_543, (List.forall_mem_cons.mpr ⟨mt_65, (fun _ h => absurd h List.not_mem_nil)⟩)⟩)⟩)⟩)⟩)⟩), _, _, _, mt_554⟩⟩
theorem mt_60 : (Jvm.Cond.initialized "GrindMill$Plain") ∈ tb := tb_of 60 (by decide +kernel) (by decide +kernel)
theorem mt_545 : (Jvm.Cond.selects "GrindMill$Peace" ({ cls := "GrindMill$Plain", name := "ground", desc := "(III)I" } : Jvm.MethodName) ({ cls := "GrindMill$Plain", name := "ground", desc := "(III)I" } : Jvm.MethodName)) ∈ tb := tb_of 545 (by decide +kernel) (by decide +kernel)
theorem ue_X0_64_5 : UE RX0 64 ({ cls := "GrindMill$Plain", name := "ground", desc := "(III)I" } : Jvm.MethodName) yX6_ground 5 := ⟨ce_5, "GrindMill$Plain", by decide, by decide, rfl, Or.inl ⟨rfl, (List.forall_mem_cons.mpr ⟨mt_779, (List.forall_mem_cons.mpr ⟨mt_537, (List.forall_mem_cons.mpr ⟨mt_545, (List.forall_mem_cons.mpr ⟨mt_535, (List.forall_mem_cons.mpr ⟨mt_60, (fun _ h => absurd h List.not_mem_nil)⟩)⟩)⟩)⟩)⟩)⟩⟩
theorem mt_536 : (Jvm.Cond.selects "GrindMill$Plain" ({ cls := "GrindMill$Plain", name := "ground", desc := "(III)I" } : Jvm.MethodName) ({ cls := "GrindMill$Plain", name := "ground", desc := "(III)I" } : Jvm.MethodName)) ∈ tb := tb_of 536 (by decide +kernel) (by decide +kernel)
theorem ue_X0_64_6 : UE RX0 64 ({ cls := "GrindMill$Plain", name := "ground", desc := "(III)I" } : Jvm.MethodName) yX6_ground 6 := ⟨ce_6, "GrindMill$Plain", by decide, by decide, rfl, Or.inl ⟨rfl, (List.forall_mem_cons.mpr ⟨mt_779, (List.forall_mem_cons.mpr ⟨mt_537, (List.forall_mem_cons.mpr ⟨mt_536, (List.forall_mem_cons.mpr ⟨mt_535, (List.forall_mem_cons.mpr ⟨mt_60, (fun _ h => absurd h List.not_mem_nil)⟩)⟩)⟩)⟩)⟩)⟩⟩
theorem mt_64 : (Jvm.Cond.initialized "GrindMill$Salt") ∈ tb := tb_of 64 (by decide +kernel) (by decide +kernel)
theorem mt_547 : (Jvm.Cond.instanceMethod ({ cls := "GrindMill$Salt", name := "ground", desc := "(III)I" } : Jvm.MethodName)) ∈ tb := tb_of 547 (by decide +kernel) (by decide +kernel)
theorem mt_546 : (Jvm.Cond.selects "GrindMill$Salt" ({ cls := "GrindMill$Plain", name := "ground", desc := "(III)I" } : Jvm.MethodName) ({ cls := "GrindMill$Salt", name := "ground", desc := "(III)I" } : Jvm.MethodName)) ∈ tb := tb_of 546 (by decide +kernel) (by decide +kernel)
theorem ue_X0_64_8 : UE RX0 64 ({ cls := "GrindMill$Plain", name := "ground", desc := "(III)I" } : Jvm.MethodName) yX8_ground 8 := ⟨ce_8, "GrindMill$Plain", by decide, by decide, rfl, Or.inr ⟨(List.forall_mem_cons.mpr ⟨mt_779, (List.forall_mem_cons.mpr ⟨mt_537, (List.forall_mem_cons.mpr ⟨mt_535, (List.forall_mem_cons.mpr ⟨mt_546, (List.forall_mem_cons.mpr ⟨mt_547, (List.forall_mem_cons.mpr ⟨mt_64, (fun _ h => absurd h List.not_mem_nil)⟩)⟩)⟩)⟩)⟩)⟩), _, _, _, mt_554⟩⟩
theorem mt_61 : (Jvm.Cond.initialized "GrindMill$Slow") ∈ tb := tb_of 61 (by decide +kernel) (by decide +kernel)
theorem mt_550 : (Jvm.Cond.instanceMethod ({ cls := "GrindMill$Slow", name := "ground", desc := "(III)I" } : Jvm.MethodName)) ∈ tb := tb_of 550 (by decide +kernel) (by decide +kernel)
theorem mt_553 : (Jvm.Cond.selects "GrindMill$Slow" ({ cls := "GrindMill$Plain", name := "ground", desc := "(III)I" } : Jvm.MethodName) ({ cls := "GrindMill$Slow", name := "ground", desc := "(III)I" } : Jvm.MethodName)) ∈ tb := tb_of 553 (by decide +kernel) (by decide +kernel)
theorem ue_X0_64_9 : UE RX0 64 ({ cls := "GrindMill$Plain", name := "ground", desc := "(III)I" } : Jvm.MethodName) yX9_ground 9 := ⟨ce_9, "GrindMill$Plain", by decide, by decide, rfl, Or.inr ⟨(List.forall_mem_cons.mpr ⟨mt_779, (List.forall_mem_cons.mpr ⟨mt_537, (List.forall_mem_cons.mpr ⟨mt_535, (List.forall_mem_cons.mpr ⟨mt_553, (List.forall_mem_cons.mpr ⟨mt_550, (List.forall_mem_cons.mpr ⟨mt_61, (fun _ h => absurd h List.not_mem_nil)⟩)⟩)⟩)⟩)⟩)⟩), _, _, _, mt_554⟩⟩
theorem mt_534 : (Jvm.Cond.methodLink "GrindMill$Goods" (33 : Nat) ({ cls := "GrindMill$Plain", name := "ground", desc := "(III)I" } : Jvm.MethodName)) ∈ tb := tb_of 534 (by decide +kernel) (by decide +kernel)
theorem ue_X1_33_3 : UE RX1 33 ({ cls := "GrindMill$Plain", name := "ground", desc := "(III)I" } : Jvm.MethodName) yX3_ground 3 := ⟨ce_3, "GrindMill$Plain", by decide, by decide, rfl, Or.inr ⟨(List.forall_mem_cons.mpr ⟨mt_534, (List.forall_mem_cons.mpr ⟨mt_537, (List.forall_mem_cons.mpr ⟨mt_535, (List.forall_mem_cons.mpr ⟨mt_538, (List.forall_mem_cons.mpr ⟨mt_539, (List.forall_mem_cons.mpr ⟨mt_63, (fun _ h => absurd h List.not_mem_nil)⟩)⟩)⟩)⟩)⟩)⟩), _, _, _, mt_554⟩⟩
theorem ue_X1_33_4 : UE RX1 33 ({ cls := "GrindMill$Plain", name := "ground", desc := "(III)I" } : Jvm.MethodName) yX4_ground 4 := ⟨ce_4, "GrindMill$Plain", by decide, by decide, rfl, Or.inr ⟨(List.forall_mem_cons.mpr ⟨mt_534, (List.forall_mem_cons.mpr ⟨mt_537, (List.forall_mem_cons.mpr ⟨mt_535, (List.forall_mem_cons.mpr ⟨mt_542, (List.forall_mem_cons.mpr ⟨mt_543, (List.forall_mem_cons.mpr ⟨mt_65, (fun _ h => absurd h List.not_mem_nil)⟩)⟩)⟩)⟩)⟩)⟩), _, _, _, mt_554⟩⟩
theorem ue_X1_33_5 : UE RX1 33 ({ cls := "GrindMill$Plain", name := "ground", desc := "(III)I" } : Jvm.MethodName) yX6_ground 5 := ⟨ce_5, "GrindMill$Plain", by decide, by decide, rfl, Or.inl ⟨rfl, (List.forall_mem_cons.mpr ⟨mt_534, (List.forall_mem_cons.mpr ⟨mt_537, (List.forall_mem_cons.mpr ⟨mt_545, (List.forall_mem_cons.mpr ⟨mt_535, (List.forall_mem_cons.mpr ⟨mt_60, (fun _ h => absurd h List.not_mem_nil)⟩)⟩)⟩)⟩)⟩)⟩⟩
theorem ue_X1_33_6 : UE RX1 33 ({ cls := "GrindMill$Plain", name := "ground", desc := "(III)I" } : Jvm.MethodName) yX6_ground 6 := ⟨ce_6, "GrindMill$Plain", by decide, by decide, rfl, Or.inl ⟨rfl, (List.forall_mem_cons.mpr ⟨mt_534, (List.forall_mem_cons.mpr ⟨mt_537, (List.forall_mem_cons.mpr ⟨mt_536, (List.forall_mem_cons.mpr ⟨mt_535, (List.forall_mem_cons.mpr ⟨mt_60, (fun _ h => absurd h List.not_mem_nil)⟩)⟩)⟩)⟩)⟩)⟩⟩
theorem ue_X1_33_8 : UE RX1 33 ({ cls := "GrindMill$Plain", name := "ground", desc := "(III)I" } : Jvm.MethodName) yX8_ground 8 := ⟨ce_8, "GrindMill$Plain", by decide, by decide, rfl, Or.inr ⟨(List.forall_mem_cons.mpr ⟨mt_534, (List.forall_mem_cons.mpr ⟨mt_537, (List.forall_mem_cons.mpr ⟨mt_535, (List.forall_mem_cons.mpr ⟨mt_546, (List.forall_mem_cons.mpr ⟨mt_547, (List.forall_mem_cons.mpr ⟨mt_64, (fun _ h => absurd h List.not_mem_nil)⟩)⟩)⟩)⟩)⟩)⟩), _, _, _, mt_554⟩⟩
theorem ue_X1_33_9 : UE RX1 33 ({ cls := "GrindMill$Plain", name := "ground", desc := "(III)I" } : Jvm.MethodName) yX9_ground 9 := ⟨ce_9, "GrindMill$Plain", by decide, by decide, rfl, Or.inr ⟨(List.forall_mem_cons.mpr ⟨mt_534, (List.forall_mem_cons.mpr ⟨mt_537, (List.forall_mem_cons.mpr ⟨mt_535, (List.forall_mem_cons.mpr ⟨mt_553, (List.forall_mem_cons.mpr ⟨mt_550, (List.forall_mem_cons.mpr ⟨mt_61, (fun _ h => absurd h List.not_mem_nil)⟩)⟩)⟩)⟩)⟩)⟩), _, _, _, mt_554⟩⟩
theorem mt_590 : (Jvm.Cond.instanceMethod ({ cls := "GrindMill$Plain", name := "fetches", desc := "(II)I" } : Jvm.MethodName)) ∈ tb := tb_of 590 (by decide +kernel) (by decide +kernel)
theorem mt_593 : (Jvm.Cond.selects "GrindMill$Mills" ({ cls := "GrindMill$Plain", name := "fetches", desc := "(II)I" } : Jvm.MethodName) ({ cls := "GrindMill$Plain", name := "fetches", desc := "(II)I" } : Jvm.MethodName)) ∈ tb := tb_of 593 (by decide +kernel) (by decide +kernel)
theorem mt_592 : (Jvm.Cond.sameMethod "GrindMill$Plain" "GrindMill$Plain" "fetches" "(II)I") ∈ tb := tb_of 592 (by decide +kernel) (by decide +kernel)
theorem mt_589 : (Jvm.Cond.methodLink "GrindMill$Goods" (39 : Nat) ({ cls := "GrindMill$Plain", name := "fetches", desc := "(II)I" } : Jvm.MethodName)) ∈ tb := tb_of 589 (by decide +kernel) (by decide +kernel)
theorem ue_X1_39_3 : UE RX1 39 ({ cls := "GrindMill$Plain", name := "fetches", desc := "(II)I" } : Jvm.MethodName) yX6_fetches 3 := ⟨ce_3, "GrindMill$Plain", by decide, by decide, rfl, Or.inl ⟨rfl, (List.forall_mem_cons.mpr ⟨mt_589, (List.forall_mem_cons.mpr ⟨mt_592, (List.forall_mem_cons.mpr ⟨mt_593, (List.forall_mem_cons.mpr ⟨mt_590, (List.forall_mem_cons.mpr ⟨mt_60, (fun _ h => absurd h List.not_mem_nil)⟩)⟩)⟩)⟩)⟩)⟩⟩
theorem mt_595 : (Jvm.Cond.instanceMethod ({ cls := "GrindMill$Nothing", name := "fetches", desc := "(II)I" } : Jvm.MethodName)) ∈ tb := tb_of 595 (by decide +kernel) (by decide +kernel)
theorem mt_594 : (Jvm.Cond.selects "GrindMill$Nothing" ({ cls := "GrindMill$Plain", name := "fetches", desc := "(II)I" } : Jvm.MethodName) ({ cls := "GrindMill$Nothing", name := "fetches", desc := "(II)I" } : Jvm.MethodName)) ∈ tb := tb_of 594 (by decide +kernel) (by decide +kernel)
theorem mt_608 : (Jvm.Cond.code ({ cls := "GrindMill$Plain", name := "fetches", desc := "(II)I" } : Jvm.MethodName) prog_8_method_3_code (4 : Nat) (Option.some Jvm.ClassFile.FieldType.int)) ∈ tb := tb_of 608 (by decide +kernel) (by decide +kernel)
theorem ue_X1_39_4 : UE RX1 39 ({ cls := "GrindMill$Plain", name := "fetches", desc := "(II)I" } : Jvm.MethodName) yX4_fetches 4 := ⟨ce_4, "GrindMill$Plain", by decide, by decide, rfl, Or.inr ⟨(List.forall_mem_cons.mpr ⟨mt_589, (List.forall_mem_cons.mpr ⟨mt_592, (List.forall_mem_cons.mpr ⟨mt_590, (List.forall_mem_cons.mpr ⟨mt_594, (List.forall_mem_cons.mpr ⟨mt_595, (List.forall_mem_cons.mpr ⟨mt_65, (fun _ h => absurd h List.not_mem_nil)⟩)⟩)⟩)⟩)⟩)⟩), _, _, _, mt_608⟩⟩
theorem mt_62 : (Jvm.Cond.initialized "GrindMill$Peace") ∈ tb := tb_of 62 (by decide +kernel) (by decide +kernel)
theorem mt_598 : (Jvm.Cond.instanceMethod ({ cls := "GrindMill$Peace", name := "fetches", desc := "(II)I" } : Jvm.MethodName)) ∈ tb := tb_of 598 (by decide +kernel) (by decide +kernel)
theorem mt_600 : (Jvm.Cond.selects "GrindMill$Peace" ({ cls := "GrindMill$Plain", name := "fetches", desc := "(II)I" } : Jvm.MethodName) ({ cls := "GrindMill$Peace", name := "fetches", desc := "(II)I" } : Jvm.MethodName)) ∈ tb := tb_of 600 (by decide +kernel) (by decide +kernel)
theorem ue_X1_39_5 : UE RX1 39 ({ cls := "GrindMill$Plain", name := "fetches", desc := "(II)I" } : Jvm.MethodName) yX5_fetches 5 := ⟨ce_5, "GrindMill$Plain", by decide, by decide, rfl, Or.inr ⟨(List.forall_mem_cons.mpr ⟨mt_589, (List.forall_mem_cons.mpr ⟨mt_592, (List.forall_mem_cons.mpr ⟨mt_590, (List.forall_mem_cons.mpr ⟨mt_600, (List.forall_mem_cons.mpr ⟨mt_598, (List.forall_mem_cons.mpr ⟨mt_62, (fun _ h => absurd h List.not_mem_nil)⟩)⟩)⟩)⟩)⟩)⟩), _, _, _, mt_608⟩⟩
theorem mt_591 : (Jvm.Cond.selects "GrindMill$Plain" ({ cls := "GrindMill$Plain", name := "fetches", desc := "(II)I" } : Jvm.MethodName) ({ cls := "GrindMill$Plain", name := "fetches", desc := "(II)I" } : Jvm.MethodName)) ∈ tb := tb_of 591 (by decide +kernel) (by decide +kernel)
theorem ue_X1_39_6 : UE RX1 39 ({ cls := "GrindMill$Plain", name := "fetches", desc := "(II)I" } : Jvm.MethodName) yX6_fetches 6 := ⟨ce_6, "GrindMill$Plain", by decide, by decide, rfl, Or.inl ⟨rfl, (List.forall_mem_cons.mpr ⟨mt_589, (List.forall_mem_cons.mpr ⟨mt_592, (List.forall_mem_cons.mpr ⟨mt_591, (List.forall_mem_cons.mpr ⟨mt_590, (List.forall_mem_cons.mpr ⟨mt_60, (fun _ h => absurd h List.not_mem_nil)⟩)⟩)⟩)⟩)⟩)⟩⟩
theorem mt_602 : (Jvm.Cond.instanceMethod ({ cls := "GrindMill$Salt", name := "fetches", desc := "(II)I" } : Jvm.MethodName)) ∈ tb := tb_of 602 (by decide +kernel) (by decide +kernel)
theorem mt_601 : (Jvm.Cond.selects "GrindMill$Salt" ({ cls := "GrindMill$Plain", name := "fetches", desc := "(II)I" } : Jvm.MethodName) ({ cls := "GrindMill$Salt", name := "fetches", desc := "(II)I" } : Jvm.MethodName)) ∈ tb := tb_of 601 (by decide +kernel) (by decide +kernel)
theorem ue_X1_39_8 : UE RX1 39 ({ cls := "GrindMill$Plain", name := "fetches", desc := "(II)I" } : Jvm.MethodName) yX8_fetches 8 := ⟨ce_8, "GrindMill$Plain", by decide, by decide, rfl, Or.inr ⟨(List.forall_mem_cons.mpr ⟨mt_589, (List.forall_mem_cons.mpr ⟨mt_592, (List.forall_mem_cons.mpr ⟨mt_590, (List.forall_mem_cons.mpr ⟨mt_601, (List.forall_mem_cons.mpr ⟨mt_602, (List.forall_mem_cons.mpr ⟨mt_64, (fun _ h => absurd h List.not_mem_nil)⟩)⟩)⟩)⟩)⟩)⟩), _, _, _, mt_608⟩⟩
theorem mt_607 : (Jvm.Cond.selects "GrindMill$Slow" ({ cls := "GrindMill$Plain", name := "fetches", desc := "(II)I" } : Jvm.MethodName) ({ cls := "GrindMill$Plain", name := "fetches", desc := "(II)I" } : Jvm.MethodName)) ∈ tb := tb_of 607 (by decide +kernel) (by decide +kernel)
theorem ue_X1_39_9 : UE RX1 39 ({ cls := "GrindMill$Plain", name := "fetches", desc := "(II)I" } : Jvm.MethodName) yX6_fetches 9 := ⟨ce_9, "GrindMill$Plain", by decide, by decide, rfl, Or.inl ⟨rfl, (List.forall_mem_cons.mpr ⟨mt_589, (List.forall_mem_cons.mpr ⟨mt_592, (List.forall_mem_cons.mpr ⟨mt_607, (List.forall_mem_cons.mpr ⟨mt_590, (List.forall_mem_cons.mpr ⟨mt_60, (fun _ h => absurd h List.not_mem_nil)⟩)⟩)⟩)⟩)⟩)⟩⟩
theorem mt_564 : (Jvm.Cond.methodLink "GrindMill" (128 : Nat) ({ cls := "GrindMill", name := "likeLetters", desc := "(II)I" } : Jvm.MethodName)) ∈ tb := tb_of 564 (by decide +kernel) (by decide +kernel)
theorem mt_565 : (Jvm.Cond.static ({ cls := "GrindMill", name := "likeLetters", desc := "(II)I" } : Jvm.MethodName)) ∈ tb := tb_of 565 (by decide +kernel) (by decide +kernel)
theorem se_X11_128 : SE RX11 128 yX11_likeLetters := ⟨mt_564, mt_565⟩
theorem mt_567 : (Jvm.Cond.methodLink "GrindMill" (223 : Nat) ({ cls := "java/lang/Integer", name := "bitCount", desc := "(I)I" } : Jvm.MethodName)) ∈ tb := tb_of 567 (by decide +kernel) (by decide +kernel)
theorem mt_568 : (Jvm.Cond.static ({ cls := "java/lang/Integer", name := "bitCount", desc := "(I)I" } : Jvm.MethodName)) ∈ tb := tb_of 568 (by decide +kernel) (by decide +kernel)
theorem se_X11_223 : SE RX11 223 yJ6_bitCount_0f7a4 := ⟨mt_567, mt_568⟩
theorem mt_713 : (Jvm.Cond.methodLink "GrindMill" (228 : Nat) ({ cls := "GrindMill", name := "leastIn", desc := "(I)I" } : Jvm.MethodName)) ∈ tb := tb_of 713 (by decide +kernel) (by decide +kernel)
theorem mt_714 : (Jvm.Cond.static ({ cls := "GrindMill", name := "leastIn", desc := "(I)I" } : Jvm.MethodName)) ∈ tb := tb_of 714 (by decide +kernel) (by decide +kernel)
theorem se_X11_228 : SE RX11 228 yX11_leastIn := ⟨mt_713, mt_714⟩
theorem mt_806 : (Jvm.Cond.methodLink "GrindMill" (256 : Nat) ({ cls := "GrindMill", name := "greatestDivisor", desc := "(JJ)J" } : Jvm.MethodName)) ∈ tb := tb_of 806 (by decide +kernel) (by decide +kernel)
theorem mt_807 : (Jvm.Cond.static ({ cls := "GrindMill", name := "greatestDivisor", desc := "(JJ)J" } : Jvm.MethodName)) ∈ tb := tb_of 807 (by decide +kernel) (by decide +kernel)
theorem se_X11_256 : SE RX11 256 yX11_greatestDivisor := ⟨mt_806, mt_807⟩
theorem mt_356 : (Jvm.Cond.methodLink "GrindMill" (72 : Nat) ({ cls := "GrindMill", name := "within", desc := "(III)Z" } : Jvm.MethodName)) ∈ tb := tb_of 356 (by decide +kernel) (by decide +kernel)
theorem mt_357 : (Jvm.Cond.static ({ cls := "GrindMill", name := "within", desc := "(III)Z" } : Jvm.MethodName)) ∈ tb := tb_of 357 (by decide +kernel) (by decide +kernel)
theorem se_X11_72 : SE RX11 72 yX11_within := ⟨mt_356, mt_357⟩
theorem mt_380 : (Jvm.Cond.methodLink "GrindMill" (92 : Nat) ({ cls := "GrindMill", name := "isWord", desc := "(I)Z" } : Jvm.MethodName)) ∈ tb := tb_of 380 (by decide +kernel) (by decide +kernel)
theorem mt_381 : (Jvm.Cond.static ({ cls := "GrindMill", name := "isWord", desc := "(I)Z" } : Jvm.MethodName)) ∈ tb := tb_of 381 (by decide +kernel) (by decide +kernel)
theorem se_X11_92 : SE RX11 92 yX11_isWord := ⟨mt_380, mt_381⟩
theorem mt_1054 : (Jvm.Cond.methodLink "GrindMillModel" (120 : Nat) ({ cls := "GrindMillModel", name := "groundBy", desc := "(IIII)I" } : Jvm.MethodName)) ∈ tb := tb_of 1054 (by decide +kernel) (by decide +kernel)
theorem mt_1055 : (Jvm.Cond.static ({ cls := "GrindMillModel", name := "groundBy", desc := "(IIII)I" } : Jvm.MethodName)) ∈ tb := tb_of 1055 (by decide +kernel) (by decide +kernel)
theorem se_X12_120 : SE RX12 120 yX12_groundBy := ⟨mt_1054, mt_1055⟩
theorem mt_1068 : (Jvm.Cond.methodLink "GrindMillModel" (143 : Nat) ({ cls := "GrindMillModel", name := "has", desc := "(II)Z" } : Jvm.MethodName)) ∈ tb := tb_of 1068 (by decide +kernel) (by decide +kernel)
theorem mt_1069 : (Jvm.Cond.static ({ cls := "GrindMillModel", name := "has", desc := "(II)Z" } : Jvm.MethodName)) ∈ tb := tb_of 1069 (by decide +kernel) (by decide +kernel)
theorem se_X12_143 : SE RX12 143 yX12_has := ⟨mt_1068, mt_1069⟩
theorem mt_1065 : (Jvm.Cond.methodLink "GrindMillModel" (147 : Nat) ({ cls := "GrindMillModel", name := "alike", desc := "(II)I" } : Jvm.MethodName)) ∈ tb := tb_of 1065 (by decide +kernel) (by decide +kernel)
theorem mt_1066 : (Jvm.Cond.static ({ cls := "GrindMillModel", name := "alike", desc := "(II)I" } : Jvm.MethodName)) ∈ tb := tb_of 1066 (by decide +kernel) (by decide +kernel)
theorem se_X12_147 : SE RX12 147 yX12_alike := ⟨mt_1065, mt_1066⟩
theorem mt_959 : (Jvm.Cond.methodLink "GrindMillModel" (52 : Nat) ({ cls := "GrindMillModel", name := "in", desc := "(III)Z" } : Jvm.MethodName)) ∈ tb := tb_of 959 (by decide +kernel) (by decide +kernel)
theorem mt_960 : (Jvm.Cond.static ({ cls := "GrindMillModel", name := "in", desc := "(III)Z" } : Jvm.MethodName)) ∈ tb := tb_of 960 (by decide +kernel) (by decide +kernel)
theorem se_X12_52 : SE RX12 52 yX12_in := ⟨mt_959, mt_960⟩
theorem mn_712 : (Jvm.Cond.methodLinkNest "GrindMill$Clues" (44 : Nat) ({ cls := "GrindMill", name := "likeLetters", desc := "(II)I" } : Jvm.MethodName) "GrindMill") ∈ nwT := nw_of 712 (by decide +kernel) (by decide +kernel)
theorem sn_X0_44 : SNE RX0 44 yX11_likeLetters "GrindMill" := ⟨mn_712, mt_565⟩
theorem mn_416 : (Jvm.Cond.methodLinkNest "GrindMill$Text" (89 : Nat) ({ cls := "GrindMill", name := "within", desc := "(III)Z" } : Jvm.MethodName) "GrindMill") ∈ nwT := nw_of 416 (by decide +kernel) (by decide +kernel)
theorem sn_X10_89 : SNE RX10 89 yX11_within "GrindMill" := ⟨mn_416, mt_357⟩
theorem mt_115 : (Jvm.Cond.superclass "GrindMill$Mills" "GrindMill$Plain") ∈ tb := tb_of 115 (by decide +kernel) (by decide +kernel)
theorem mt_541 : (Jvm.Cond.methodLink "GrindMill$Mills" (7 : Nat) ({ cls := "GrindMill$Plain", name := "ground", desc := "(III)I" } : Jvm.MethodName)) ∈ tb := tb_of 541 (by decide +kernel) (by decide +kernel)
theorem su_X3_7 : SUE RX3 7 yX6_ground := ⟨(List.forall_mem_cons.mpr ⟨mt_541, (List.forall_mem_cons.mpr ⟨mt_537, (List.forall_mem_cons.mpr ⟨mt_115, (List.forall_mem_cons.mpr ⟨mt_535, (List.forall_mem_cons.mpr ⟨mt_60, (fun _ h => absurd h List.not_mem_nil)⟩)⟩)⟩)⟩)⟩), by decide⟩
theorem mt_129 : (Jvm.Cond.superclass "GrindMill$Nothing" "GrindMill$Peace") ∈ tb := tb_of 129 (by decide +kernel) (by decide +kernel)
theorem mt_1241 : (Jvm.Cond.sameMethod "GrindMill$Peace" "GrindMill$Peace" "fetches" "(II)I") ∈ tb := tb_of 1241 (by decide +kernel) (by decide +kernel)
theorem mt_597 : (Jvm.Cond.methodLink "GrindMill$Nothing" (7 : Nat) ({ cls := "GrindMill$Peace", name := "fetches", desc := "(II)I" } : Jvm.MethodName)) ∈ tb := tb_of 597 (by decide +kernel) (by decide +kernel)
theorem su_X4_7 : SUE RX4 7 yX5_fetches := ⟨(List.forall_mem_cons.mpr ⟨mt_597, (List.forall_mem_cons.mpr ⟨mt_1241, (List.forall_mem_cons.mpr ⟨mt_129, (List.forall_mem_cons.mpr ⟨mt_598, (List.forall_mem_cons.mpr ⟨mt_62, (fun _ h => absurd h List.not_mem_nil)⟩)⟩)⟩)⟩)⟩), by decide⟩
theorem mt_101 : (Jvm.Cond.superclass "GrindMill$Slow" "GrindMill$Plain") ∈ tb := tb_of 101 (by decide +kernel) (by decide +kernel)
theorem mt_122 : (Jvm.Cond.superclass "GrindMill$Salt" "GrindMill$Slow") ∈ tb := tb_of 122 (by decide +kernel) (by decide +kernel)
theorem mt_605 : (Jvm.Cond.sameMethod "GrindMill$Slow" "GrindMill$Plain" "fetches" "(II)I") ∈ tb := tb_of 605 (by decide +kernel) (by decide +kernel)
theorem mt_604 : (Jvm.Cond.methodLink "GrindMill$Salt" (11 : Nat) ({ cls := "GrindMill$Slow", name := "fetches", desc := "(II)I" } : Jvm.MethodName)) ∈ tb := tb_of 604 (by decide +kernel) (by decide +kernel)
theorem sx_X8_11 : SXE RX8 11 ({ cls := "GrindMill$Slow", name := "fetches", desc := "(II)I" } : Jvm.MethodName) yX6_fetches := ⟨"GrindMill$Plain", rfl, (List.forall_mem_cons.mpr ⟨mt_604, (List.forall_mem_cons.mpr ⟨mt_605, (List.forall_mem_cons.mpr ⟨mt_122, (List.forall_mem_cons.mpr ⟨mt_101, (List.forall_mem_cons.mpr ⟨mt_590, (List.forall_mem_cons.mpr ⟨mt_60, (fun _ h => absurd h List.not_mem_nil)⟩)⟩)⟩)⟩)⟩)⟩), by decide⟩
theorem mt_1240 : (Jvm.Cond.sameMethod "GrindMill$Slow" "GrindMill$Slow" "ground" "(III)I") ∈ tb := tb_of 1240 (by decide +kernel) (by decide +kernel)
theorem mt_549 : (Jvm.Cond.methodLink "GrindMill$Salt" (7 : Nat) ({ cls := "GrindMill$Slow", name := "ground", desc := "(III)I" } : Jvm.MethodName)) ∈ tb := tb_of 549 (by decide +kernel) (by decide +kernel)
theorem su_X8_7 : SUE RX8 7 yX9_ground := ⟨(List.forall_mem_cons.mpr ⟨mt_549, (List.forall_mem_cons.mpr ⟨mt_1240, (List.forall_mem_cons.mpr ⟨mt_122, (List.forall_mem_cons.mpr ⟨mt_550, (List.forall_mem_cons.mpr ⟨mt_61, (fun _ h => absurd h List.not_mem_nil)⟩)⟩)⟩)⟩)⟩), by decide⟩
theorem mt_552 : (Jvm.Cond.methodLink "GrindMill$Slow" (7 : Nat) ({ cls := "GrindMill$Plain", name := "ground", desc := "(III)I" } : Jvm.MethodName)) ∈ tb := tb_of 552 (by decide +kernel) (by decide +kernel)
theorem su_X9_7 : SUE RX9 7 yX6_ground := ⟨(List.forall_mem_cons.mpr ⟨mt_552, (List.forall_mem_cons.mpr ⟨mt_537, (List.forall_mem_cons.mpr ⟨mt_101, (List.forall_mem_cons.mpr ⟨mt_535, (List.forall_mem_cons.mpr ⟨mt_60, (fun _ h => absurd h List.not_mem_nil)⟩)⟩)⟩)⟩)⟩), by decide⟩
theorem mt_708 : (Jvm.Cond.methodLink "GrindMill$Clues" (48 : Nat) ({ cls := "GrindMill$Clues", name := "wordFits", desc := "(I)Z" } : Jvm.MethodName)) ∈ tb := tb_of 708 (by decide +kernel) (by decide +kernel)
theorem mt_710 : (Jvm.Cond.instanceMethod ({ cls := "GrindMill$Clues", name := "wordFits", desc := "(I)Z" } : Jvm.MethodName)) ∈ tb := tb_of 710 (by decide +kernel) (by decide +kernel)
theorem mt_16 : (Jvm.Cond.selects "GrindMill$Clues" ({ cls := "GrindMill$Clues", name := "wordFits", desc := "(I)Z" } : Jvm.MethodName) ({ cls := "GrindMill$Clues", name := "wordFits", desc := "(I)Z" } : Jvm.MethodName)) ∈ tb := tb_of 16 (by decide +kernel) (by decide +kernel)
theorem ve_X0_48 : VE RX0 48 yX0_wordFits 0 := ⟨mt_708, mt_710, mt_16, ce_0⟩
theorem mt_724 : (Jvm.Cond.methodLink "GrindMill$Clues" (52 : Nat) ({ cls := "GrindMill$Clues", name := "fittingWords", desc := "()I" } : Jvm.MethodName)) ∈ tb := tb_of 724 (by decide +kernel) (by decide +kernel)
theorem mt_705 : (Jvm.Cond.instanceMethod ({ cls := "GrindMill$Clues", name := "fittingWords", desc := "()I" } : Jvm.MethodName)) ∈ tb := tb_of 705 (by decide +kernel) (by decide +kernel)
theorem mt_706 : (Jvm.Cond.selects "GrindMill$Clues" ({ cls := "GrindMill$Clues", name := "fittingWords", desc := "()I" } : Jvm.MethodName) ({ cls := "GrindMill$Clues", name := "fittingWords", desc := "()I" } : Jvm.MethodName)) ∈ tb := tb_of 706 (by decide +kernel) (by decide +kernel)
theorem ve_X0_52 : VE RX0 52 yX0_fittingWords 0 := ⟨mt_724, mt_705, mt_706, ce_0⟩
theorem mt_725 : (Jvm.Cond.methodLink "GrindMill$Clues" (56 : Nat) ({ cls := "GrindMill$Clues", name := "mostAnsweredAlike", desc := "(II)I" } : Jvm.MethodName)) ∈ tb := tb_of 725 (by decide +kernel) (by decide +kernel)
theorem mt_727 : (Jvm.Cond.instanceMethod ({ cls := "GrindMill$Clues", name := "mostAnsweredAlike", desc := "(II)I" } : Jvm.MethodName)) ∈ tb := tb_of 727 (by decide +kernel) (by decide +kernel)
theorem mt_17 : (Jvm.Cond.selects "GrindMill$Clues" ({ cls := "GrindMill$Clues", name := "mostAnsweredAlike", desc := "(II)I" } : Jvm.MethodName) ({ cls := "GrindMill$Clues", name := "mostAnsweredAlike", desc := "(II)I" } : Jvm.MethodName)) ∈ tb := tb_of 17 (by decide +kernel) (by decide +kernel)
theorem ve_X0_56 : VE RX0 56 yX0_mostAnsweredAlike 0 := ⟨mt_725, mt_727, mt_17, ce_0⟩
theorem mt_775 : (Jvm.Cond.methodLink "GrindMill$Clues" (70 : Nat) ({ cls := "GrindMill$Clues", name := "notesFit", desc := "(III)Z" } : Jvm.MethodName)) ∈ tb := tb_of 775 (by decide +kernel) (by decide +kernel)
theorem mt_777 : (Jvm.Cond.instanceMethod ({ cls := "GrindMill$Clues", name := "notesFit", desc := "(III)Z" } : Jvm.MethodName)) ∈ tb := tb_of 777 (by decide +kernel) (by decide +kernel)
theorem mt_22 : (Jvm.Cond.selects "GrindMill$Clues" ({ cls := "GrindMill$Clues", name := "notesFit", desc := "(III)Z" } : Jvm.MethodName) ({ cls := "GrindMill$Clues", name := "notesFit", desc := "(III)Z" } : Jvm.MethodName)) ∈ tb := tb_of 22 (by decide +kernel) (by decide +kernel)
theorem ve_X0_70 : VE RX0 70 yX0_notesFit 0 := ⟨mt_775, mt_777, mt_22, ce_0⟩
theorem mt_792 : (Jvm.Cond.methodLink "GrindMill$Clues" (74 : Nat) ({ cls := "GrindMill$Clues", name := "fittingKinds", desc := "(II)I" } : Jvm.MethodName)) ∈ tb := tb_of 792 (by decide +kernel) (by decide +kernel)
theorem mt_772 : (Jvm.Cond.instanceMethod ({ cls := "GrindMill$Clues", name := "fittingKinds", desc := "(II)I" } : Jvm.MethodName)) ∈ tb := tb_of 772 (by decide +kernel) (by decide +kernel)
theorem mt_773 : (Jvm.Cond.selects "GrindMill$Clues" ({ cls := "GrindMill$Clues", name := "fittingKinds", desc := "(II)I" } : Jvm.MethodName) ({ cls := "GrindMill$Clues", name := "fittingKinds", desc := "(II)I" } : Jvm.MethodName)) ∈ tb := tb_of 773 (by decide +kernel) (by decide +kernel)
theorem ve_X0_74 : VE RX0 74 yX0_fittingKinds 0 := ⟨mt_792, mt_772, mt_773, ce_0⟩
theorem mt_793 : (Jvm.Cond.methodLink "GrindMill$Clues" (77 : Nat) ({ cls := "GrindMill$Clues", name := "mostGroundAlike", desc := "(IIII)I" } : Jvm.MethodName)) ∈ tb := tb_of 793 (by decide +kernel) (by decide +kernel)
theorem mt_795 : (Jvm.Cond.instanceMethod ({ cls := "GrindMill$Clues", name := "mostGroundAlike", desc := "(IIII)I" } : Jvm.MethodName)) ∈ tb := tb_of 795 (by decide +kernel) (by decide +kernel)
theorem mt_23 : (Jvm.Cond.selects "GrindMill$Clues" ({ cls := "GrindMill$Clues", name := "mostGroundAlike", desc := "(IIII)I" } : Jvm.MethodName) ({ cls := "GrindMill$Clues", name := "mostGroundAlike", desc := "(IIII)I" } : Jvm.MethodName)) ∈ tb := tb_of 23 (by decide +kernel) (by decide +kernel)
theorem ve_X0_77 : VE RX0 77 yX0_mostGroundAlike 0 := ⟨mt_793, mt_795, mt_23, ce_0⟩
theorem mt_797 : (Jvm.Cond.methodLink "GrindMill$Clues" (81 : Nat) ({ cls := "GrindMill$Clues", name := "fittingLike", desc := "(II)I" } : Jvm.MethodName)) ∈ tb := tb_of 797 (by decide +kernel) (by decide +kernel)
theorem mt_799 : (Jvm.Cond.instanceMethod ({ cls := "GrindMill$Clues", name := "fittingLike", desc := "(II)I" } : Jvm.MethodName)) ∈ tb := tb_of 799 (by decide +kernel) (by decide +kernel)
theorem mt_24 : (Jvm.Cond.selects "GrindMill$Clues" ({ cls := "GrindMill$Clues", name := "fittingLike", desc := "(II)I" } : Jvm.MethodName) ({ cls := "GrindMill$Clues", name := "fittingLike", desc := "(II)I" } : Jvm.MethodName)) ∈ tb := tb_of 24 (by decide +kernel) (by decide +kernel)
theorem ve_X0_81 : VE RX0 81 yX0_fittingLike 0 := ⟨mt_797, mt_799, mt_24, ce_0⟩
theorem mt_838 : (Jvm.Cond.methodLink "GrindMill$Goods" (29 : Nat) ({ cls := "GrindMill$Goods", name := "become", desc := "(III)V" } : Jvm.MethodName)) ∈ tb := tb_of 838 (by decide +kernel) (by decide +kernel)
theorem mt_373 : (Jvm.Cond.instanceMethod ({ cls := "GrindMill$Goods", name := "become", desc := "(III)V" } : Jvm.MethodName)) ∈ tb := tb_of 373 (by decide +kernel) (by decide +kernel)
theorem mt_374 : (Jvm.Cond.selects "GrindMill$Goods" ({ cls := "GrindMill$Goods", name := "become", desc := "(III)V" } : Jvm.MethodName) ({ cls := "GrindMill$Goods", name := "become", desc := "(III)V" } : Jvm.MethodName)) ∈ tb := tb_of 374 (by decide +kernel) (by decide +kernel)
theorem ve_X1_29 : VE RX1 29 yX1_become 1 := ⟨mt_838, mt_373, mt_374, ce_1⟩
theorem mt_585 : (Jvm.Cond.methodLink "GrindMill$Goods" (43 : Nat) ({ cls := "GrindMill$Goods", name := "fetchesWhen", desc := "(I)I" } : Jvm.MethodName)) ∈ tb := tb_of 585 (by decide +kernel) (by decide +kernel)
theorem mt_586 : (Jvm.Cond.instanceMethod ({ cls := "GrindMill$Goods", name := "fetchesWhen", desc := "(I)I" } : Jvm.MethodName)) ∈ tb := tb_of 586 (by decide +kernel) (by decide +kernel)
theorem mt_587 : (Jvm.Cond.selects "GrindMill$Goods" ({ cls := "GrindMill$Goods", name := "fetchesWhen", desc := "(I)I" } : Jvm.MethodName) ({ cls := "GrindMill$Goods", name := "fetchesWhen", desc := "(I)I" } : Jvm.MethodName)) ∈ tb := tb_of 587 (by decide +kernel) (by decide +kernel)
theorem ve_X1_43 : VE RX1 43 yX1_fetchesWhen 1 := ⟨mt_585, mt_586, mt_587, ce_1⟩
theorem mt_581 : (Jvm.Cond.methodLink "GrindMill$Goods" (47 : Nat) ({ cls := "GrindMill$Goods", name := "fetchedBy", desc := "(II)I" } : Jvm.MethodName)) ∈ tb := tb_of 581 (by decide +kernel) (by decide +kernel)
theorem mt_582 : (Jvm.Cond.instanceMethod ({ cls := "GrindMill$Goods", name := "fetchedBy", desc := "(II)I" } : Jvm.MethodName)) ∈ tb := tb_of 582 (by decide +kernel) (by decide +kernel)
theorem mt_583 : (Jvm.Cond.selects "GrindMill$Goods" ({ cls := "GrindMill$Goods", name := "fetchedBy", desc := "(II)I" } : Jvm.MethodName) ({ cls := "GrindMill$Goods", name := "fetchedBy", desc := "(II)I" } : Jvm.MethodName)) ∈ tb := tb_of 583 (by decide +kernel) (by decide +kernel)
theorem ve_X1_47 : VE RX1 47 yX1_fetchedBy 1 := ⟨mt_581, mt_582, mt_583, ce_1⟩
theorem mt_555 : (Jvm.Cond.methodLink "GrindMill$House" (100 : Nat) ({ cls := "GrindMill$House", name := "allBushels", desc := "()I" } : Jvm.MethodName)) ∈ tb := tb_of 555 (by decide +kernel) (by decide +kernel)
theorem mt_556 : (Jvm.Cond.instanceMethod ({ cls := "GrindMill$House", name := "allBushels", desc := "()I" } : Jvm.MethodName)) ∈ tb := tb_of 556 (by decide +kernel) (by decide +kernel)
theorem mt_557 : (Jvm.Cond.selects "GrindMill$House" ({ cls := "GrindMill$House", name := "allBushels", desc := "()I" } : Jvm.MethodName) ({ cls := "GrindMill$House", name := "allBushels", desc := "()I" } : Jvm.MethodName)) ∈ tb := tb_of 557 (by decide +kernel) (by decide +kernel)
theorem ve_X2_100 : VE RX2 100 yX2_allBushels 2 := ⟨mt_555, mt_556, mt_557, ce_2⟩
theorem mt_871 : (Jvm.Cond.methodLink "GrindMill$House" (114 : Nat) ({ cls := "GrindMill$Goods", name := "mixInto", desc := "(J)J" } : Jvm.MethodName)) ∈ tb := tb_of 871 (by decide +kernel) (by decide +kernel)
theorem mt_872 : (Jvm.Cond.instanceMethod ({ cls := "GrindMill$Goods", name := "mixInto", desc := "(J)J" } : Jvm.MethodName)) ∈ tb := tb_of 872 (by decide +kernel) (by decide +kernel)
theorem mt_873 : (Jvm.Cond.selects "GrindMill$Goods" ({ cls := "GrindMill$Goods", name := "mixInto", desc := "(J)J" } : Jvm.MethodName) ({ cls := "GrindMill$Goods", name := "mixInto", desc := "(J)J" } : Jvm.MethodName)) ∈ tb := tb_of 873 (by decide +kernel) (by decide +kernel)
theorem ve_X2_114 : VE RX2 114 yX1_mixInto 1 := ⟨mt_871, mt_872, mt_873, ce_1⟩
theorem mt_876 : (Jvm.Cond.methodLink "GrindMill$House" (118 : Nat) ({ cls := "GrindMill$Clues", name := "mixInto", desc := "(J)J" } : Jvm.MethodName)) ∈ tb := tb_of 876 (by decide +kernel) (by decide +kernel)
theorem mt_877 : (Jvm.Cond.instanceMethod ({ cls := "GrindMill$Clues", name := "mixInto", desc := "(J)J" } : Jvm.MethodName)) ∈ tb := tb_of 877 (by decide +kernel) (by decide +kernel)
theorem mt_878 : (Jvm.Cond.selects "GrindMill$Clues" ({ cls := "GrindMill$Clues", name := "mixInto", desc := "(J)J" } : Jvm.MethodName) ({ cls := "GrindMill$Clues", name := "mixInto", desc := "(J)J" } : Jvm.MethodName)) ∈ tb := tb_of 878 (by decide +kernel) (by decide +kernel)
theorem ve_X2_118 : VE RX2 118 yX0_mixInto 0 := ⟨mt_876, mt_877, mt_878, ce_0⟩
theorem mt_834 : (Jvm.Cond.methodLink "GrindMill$House" (69 : Nat) ({ cls := "GrindMill$Goods", name := "copyFrom", desc := "(LGrindMill$Goods;)V" } : Jvm.MethodName)) ∈ tb := tb_of 834 (by decide +kernel) (by decide +kernel)
theorem mt_835 : (Jvm.Cond.instanceMethod ({ cls := "GrindMill$Goods", name := "copyFrom", desc := "(LGrindMill$Goods;)V" } : Jvm.MethodName)) ∈ tb := tb_of 835 (by decide +kernel) (by decide +kernel)
theorem mt_836 : (Jvm.Cond.selects "GrindMill$Goods" ({ cls := "GrindMill$Goods", name := "copyFrom", desc := "(LGrindMill$Goods;)V" } : Jvm.MethodName) ({ cls := "GrindMill$Goods", name := "copyFrom", desc := "(LGrindMill$Goods;)V" } : Jvm.MethodName)) ∈ tb := tb_of 836 (by decide +kernel) (by decide +kernel)
theorem ve_X2_69 : VE RX2 69 yX1_copyFrom 1 := ⟨mt_834, mt_835, mt_836, ce_1⟩
theorem mt_839 : (Jvm.Cond.methodLink "GrindMill$House" (79 : Nat) ({ cls := "GrindMill$Clues", name := "copyFrom", desc := "(LGrindMill$Clues;)V" } : Jvm.MethodName)) ∈ tb := tb_of 839 (by decide +kernel) (by decide +kernel)
theorem mt_840 : (Jvm.Cond.instanceMethod ({ cls := "GrindMill$Clues", name := "copyFrom", desc := "(LGrindMill$Clues;)V" } : Jvm.MethodName)) ∈ tb := tb_of 840 (by decide +kernel) (by decide +kernel)
theorem mt_841 : (Jvm.Cond.selects "GrindMill$Clues" ({ cls := "GrindMill$Clues", name := "copyFrom", desc := "(LGrindMill$Clues;)V" } : Jvm.MethodName) ({ cls := "GrindMill$Clues", name := "copyFrom", desc := "(LGrindMill$Clues;)V" } : Jvm.MethodName)) ∈ tb := tb_of 841 (by decide +kernel) (by decide +kernel)
theorem ve_X2_79 : VE RX2 79 yX0_copyFrom 0 := ⟨mt_839, mt_840, mt_841, ce_0⟩
theorem mt_372 : (Jvm.Cond.methodLink "GrindMill$House" (82 : Nat) ({ cls := "GrindMill$Goods", name := "become", desc := "(III)V" } : Jvm.MethodName)) ∈ tb := tb_of 372 (by decide +kernel) (by decide +kernel)
theorem ve_X2_82 : VE RX2 82 yX1_become 1 := ⟨mt_372, mt_373, mt_374, ce_1⟩
theorem mt_529 : (Jvm.Cond.methodLink "GrindMill$House" (89 : Nat) ({ cls := "GrindMill$House", name := "has", desc := "(I)Z" } : Jvm.MethodName)) ∈ tb := tb_of 529 (by decide +kernel) (by decide +kernel)
theorem mt_503 : (Jvm.Cond.instanceMethod ({ cls := "GrindMill$House", name := "has", desc := "(I)Z" } : Jvm.MethodName)) ∈ tb := tb_of 503 (by decide +kernel) (by decide +kernel)
theorem mt_504 : (Jvm.Cond.selects "GrindMill$House" ({ cls := "GrindMill$House", name := "has", desc := "(I)Z" } : Jvm.MethodName) ({ cls := "GrindMill$House", name := "has", desc := "(I)Z" } : Jvm.MethodName)) ∈ tb := tb_of 504 (by decide +kernel) (by decide +kernel)
theorem ve_X2_89 : VE RX2 89 yX2_has 2 := ⟨mt_529, mt_503, mt_504, ce_2⟩
theorem mt_530 : (Jvm.Cond.methodLink "GrindMill$House" (93 : Nat) ({ cls := "GrindMill$Goods", name := "groundIn", desc := "(II)I" } : Jvm.MethodName)) ∈ tb := tb_of 530 (by decide +kernel) (by decide +kernel)
theorem mt_531 : (Jvm.Cond.instanceMethod ({ cls := "GrindMill$Goods", name := "groundIn", desc := "(II)I" } : Jvm.MethodName)) ∈ tb := tb_of 531 (by decide +kernel) (by decide +kernel)
theorem mt_532 : (Jvm.Cond.selects "GrindMill$Goods" ({ cls := "GrindMill$Goods", name := "groundIn", desc := "(II)I" } : Jvm.MethodName) ({ cls := "GrindMill$Goods", name := "groundIn", desc := "(II)I" } : Jvm.MethodName)) ∈ tb := tb_of 532 (by decide +kernel) (by decide +kernel)
theorem ve_X2_93 : VE RX2 93 yX1_groundIn 1 := ⟨mt_530, mt_531, mt_532, ce_1⟩
theorem mt_525 : (Jvm.Cond.methodLink "GrindMill$House" (97 : Nat) ({ cls := "GrindMill$House", name := "groundBy", desc := "(II)I" } : Jvm.MethodName)) ∈ tb := tb_of 525 (by decide +kernel) (by decide +kernel)
theorem mt_526 : (Jvm.Cond.instanceMethod ({ cls := "GrindMill$House", name := "groundBy", desc := "(II)I" } : Jvm.MethodName)) ∈ tb := tb_of 526 (by decide +kernel) (by decide +kernel)
theorem mt_527 : (Jvm.Cond.selects "GrindMill$House" ({ cls := "GrindMill$House", name := "groundBy", desc := "(II)I" } : Jvm.MethodName) ({ cls := "GrindMill$House", name := "groundBy", desc := "(II)I" } : Jvm.MethodName)) ∈ tb := tb_of 527 (by decide +kernel) (by decide +kernel)
theorem ve_X2_97 : VE RX2 97 yX2_groundBy 2 := ⟨mt_525, mt_526, mt_527, ce_2⟩
theorem mt_747 : (Jvm.Cond.methodLink "GrindMill$Plans" (101 : Nat) ({ cls := "GrindMill$Plans", name := "firstHas", desc := "(II)I" } : Jvm.MethodName)) ∈ tb := tb_of 747 (by decide +kernel) (by decide +kernel)
theorem mt_749 : (Jvm.Cond.instanceMethod ({ cls := "GrindMill$Plans", name := "firstHas", desc := "(II)I" } : Jvm.MethodName)) ∈ tb := tb_of 749 (by decide +kernel) (by decide +kernel)
theorem mt_20 : (Jvm.Cond.selects "GrindMill$Plans" ({ cls := "GrindMill$Plans", name := "firstHas", desc := "(II)I" } : Jvm.MethodName) ({ cls := "GrindMill$Plans", name := "firstHas", desc := "(II)I" } : Jvm.MethodName)) ∈ tb := tb_of 20 (by decide +kernel) (by decide +kernel)
theorem ve_X7_101 : VE RX7 101 yX7_firstHas 7 := ⟨mt_747, mt_749, mt_20, ce_7⟩
theorem mt_751 : (Jvm.Cond.methodLink "GrindMill$Plans" (104 : Nat) ({ cls := "GrindMill$Plans", name := "secondHas", desc := "(II)I" } : Jvm.MethodName)) ∈ tb := tb_of 751 (by decide +kernel) (by decide +kernel)
theorem mt_753 : (Jvm.Cond.instanceMethod ({ cls := "GrindMill$Plans", name := "secondHas", desc := "(II)I" } : Jvm.MethodName)) ∈ tb := tb_of 753 (by decide +kernel) (by decide +kernel)
theorem mt_21 : (Jvm.Cond.selects "GrindMill$Plans" ({ cls := "GrindMill$Plans", name := "secondHas", desc := "(II)I" } : Jvm.MethodName) ({ cls := "GrindMill$Plans", name := "secondHas", desc := "(II)I" } : Jvm.MethodName)) ∈ tb := tb_of 21 (by decide +kernel) (by decide +kernel)
theorem ve_X7_104 : VE RX7 104 yX7_secondHas 7 := ⟨mt_751, mt_753, mt_21, ce_7⟩
theorem mt_654 : (Jvm.Cond.methodLink "GrindMill$Plans" (38 : Nat) ({ cls := "GrindMill$Plans", name := "fillYields", desc := "(LGrindMill$House;)V" } : Jvm.MethodName)) ∈ tb := tb_of 654 (by decide +kernel) (by decide +kernel)
theorem mt_656 : (Jvm.Cond.instanceMethod ({ cls := "GrindMill$Plans", name := "fillYields", desc := "(LGrindMill$House;)V" } : Jvm.MethodName)) ∈ tb := tb_of 656 (by decide +kernel) (by decide +kernel)
theorem mt_11 : (Jvm.Cond.selects "GrindMill$Plans" ({ cls := "GrindMill$Plans", name := "fillYields", desc := "(LGrindMill$House;)V" } : Jvm.MethodName) ({ cls := "GrindMill$Plans", name := "fillYields", desc := "(LGrindMill$House;)V" } : Jvm.MethodName)) ∈ tb := tb_of 11 (by decide +kernel) (by decide +kernel)
theorem ve_X7_38 : VE RX7 38 yX7_fillYields 7 := ⟨mt_654, mt_656, mt_11, ce_7⟩
theorem mt_659 : (Jvm.Cond.methodLink "GrindMill$Plans" (48 : Nat) ({ cls := "GrindMill$Plans", name := "fillFewest", desc := "(II)V" } : Jvm.MethodName)) ∈ tb := tb_of 659 (by decide +kernel) (by decide +kernel)
theorem mt_661 : (Jvm.Cond.instanceMethod ({ cls := "GrindMill$Plans", name := "fillFewest", desc := "(II)V" } : Jvm.MethodName)) ∈ tb := tb_of 661 (by decide +kernel) (by decide +kernel)
theorem mt_12 : (Jvm.Cond.selects "GrindMill$Plans" ({ cls := "GrindMill$Plans", name := "fillFewest", desc := "(II)V" } : Jvm.MethodName) ({ cls := "GrindMill$Plans", name := "fillFewest", desc := "(II)V" } : Jvm.MethodName)) ∈ tb := tb_of 12 (by decide +kernel) (by decide +kernel)
theorem ve_X7_48 : VE RX7 48 yX7_fillFewest 7 := ⟨mt_659, mt_661, mt_12, ce_7⟩
theorem mt_664 : (Jvm.Cond.methodLink "GrindMill$Plans" (52 : Nat) ({ cls := "GrindMill$Plans", name := "staysFewest", desc := "(II)Z" } : Jvm.MethodName)) ∈ tb := tb_of 664 (by decide +kernel) (by decide +kernel)
theorem mt_666 : (Jvm.Cond.instanceMethod ({ cls := "GrindMill$Plans", name := "staysFewest", desc := "(II)Z" } : Jvm.MethodName)) ∈ tb := tb_of 666 (by decide +kernel) (by decide +kernel)
theorem mt_13 : (Jvm.Cond.selects "GrindMill$Plans" ({ cls := "GrindMill$Plans", name := "staysFewest", desc := "(II)Z" } : Jvm.MethodName) ({ cls := "GrindMill$Plans", name := "staysFewest", desc := "(II)Z" } : Jvm.MethodName)) ∈ tb := tb_of 13 (by decide +kernel) (by decide +kernel)
theorem ve_X7_52 : VE RX7 52 yX7_staysFewest 7 := ⟨mt_664, mt_666, mt_13, ce_7⟩
theorem mt_658 : (Jvm.Cond.methodLink "GrindMill$Plans" (63 : Nat) ({ cls := "GrindMill$Goods", name := "groundIn", desc := "(II)I" } : Jvm.MethodName)) ∈ tb := tb_of 658 (by decide +kernel) (by decide +kernel)
theorem ve_X7_63 : VE RX7 63 yX1_groundIn 1 := ⟨mt_658, mt_531, mt_532, ce_1⟩
theorem mt_676 : (Jvm.Cond.methodLink "GrindMill$Plans" (74 : Nat) ({ cls := "GrindMill$Plans", name := "fillGains", desc := "(LGrindMill$House;I)V" } : Jvm.MethodName)) ∈ tb := tb_of 676 (by decide +kernel) (by decide +kernel)
theorem mt_678 : (Jvm.Cond.instanceMethod ({ cls := "GrindMill$Plans", name := "fillGains", desc := "(LGrindMill$House;I)V" } : Jvm.MethodName)) ∈ tb := tb_of 678 (by decide +kernel) (by decide +kernel)
theorem mt_14 : (Jvm.Cond.selects "GrindMill$Plans" ({ cls := "GrindMill$Plans", name := "fillGains", desc := "(LGrindMill$House;I)V" } : Jvm.MethodName) ({ cls := "GrindMill$Plans", name := "fillGains", desc := "(LGrindMill$House;I)V" } : Jvm.MethodName)) ∈ tb := tb_of 14 (by decide +kernel) (by decide +kernel)
theorem ve_X7_74 : VE RX7 74 yX7_fillGains 7 := ⟨mt_676, mt_678, mt_14, ce_7⟩
theorem mt_681 : (Jvm.Cond.methodLink "GrindMill$Plans" (78 : Nat) ({ cls := "GrindMill$Plans", name := "fillMost", desc := "(II)V" } : Jvm.MethodName)) ∈ tb := tb_of 681 (by decide +kernel) (by decide +kernel)
theorem mt_683 : (Jvm.Cond.instanceMethod ({ cls := "GrindMill$Plans", name := "fillMost", desc := "(II)V" } : Jvm.MethodName)) ∈ tb := tb_of 683 (by decide +kernel) (by decide +kernel)
theorem mt_15 : (Jvm.Cond.selects "GrindMill$Plans" ({ cls := "GrindMill$Plans", name := "fillMost", desc := "(II)V" } : Jvm.MethodName) ({ cls := "GrindMill$Plans", name := "fillMost", desc := "(II)V" } : Jvm.MethodName)) ∈ tb := tb_of 15 (by decide +kernel) (by decide +kernel)
theorem ve_X7_78 : VE RX7 78 yX7_fillMost 7 := ⟨mt_681, mt_683, mt_15, ce_7⟩
theorem mt_680 : (Jvm.Cond.methodLink "GrindMill$Plans" (87 : Nat) ({ cls := "GrindMill$Goods", name := "fetchedBy", desc := "(II)I" } : Jvm.MethodName)) ∈ tb := tb_of 680 (by decide +kernel) (by decide +kernel)
theorem ve_X7_87 : VE RX7 87 yX1_fetchedBy 1 := ⟨mt_680, mt_582, mt_583, ce_1⟩
theorem mt_738 : (Jvm.Cond.methodLink "GrindMill$Plans" (90 : Nat) ({ cls := "GrindMill$Plans", name := "fillStreet", desc := "(LGrindMill$House;I)V" } : Jvm.MethodName)) ∈ tb := tb_of 738 (by decide +kernel) (by decide +kernel)
theorem mt_740 : (Jvm.Cond.instanceMethod ({ cls := "GrindMill$Plans", name := "fillStreet", desc := "(LGrindMill$House;I)V" } : Jvm.MethodName)) ∈ tb := tb_of 740 (by decide +kernel) (by decide +kernel)
theorem mt_18 : (Jvm.Cond.selects "GrindMill$Plans" ({ cls := "GrindMill$Plans", name := "fillStreet", desc := "(LGrindMill$House;I)V" } : Jvm.MethodName) ({ cls := "GrindMill$Plans", name := "fillStreet", desc := "(LGrindMill$House;I)V" } : Jvm.MethodName)) ∈ tb := tb_of 18 (by decide +kernel) (by decide +kernel)
theorem ve_X7_90 : VE RX7 90 yX7_fillStreet 7 := ⟨mt_738, mt_740, mt_18, ce_7⟩
theorem mt_743 : (Jvm.Cond.methodLink "GrindMill$Plans" (93 : Nat) ({ cls := "GrindMill$Plans", name := "pairRests", desc := "(III)Z" } : Jvm.MethodName)) ∈ tb := tb_of 743 (by decide +kernel) (by decide +kernel)
theorem mt_745 : (Jvm.Cond.instanceMethod ({ cls := "GrindMill$Plans", name := "pairRests", desc := "(III)Z" } : Jvm.MethodName)) ∈ tb := tb_of 745 (by decide +kernel) (by decide +kernel)
theorem mt_19 : (Jvm.Cond.selects "GrindMill$Plans" ({ cls := "GrindMill$Plans", name := "pairRests", desc := "(III)Z" } : Jvm.MethodName) ({ cls := "GrindMill$Plans", name := "pairRests", desc := "(III)Z" } : Jvm.MethodName)) ∈ tb := tb_of 19 (by decide +kernel) (by decide +kernel)
theorem ve_X7_93 : VE RX7 93 yX7_pairRests 7 := ⟨mt_743, mt_745, mt_19, ce_7⟩
theorem mt_742 : (Jvm.Cond.methodLink "GrindMill$Plans" (97 : Nat) ({ cls := "GrindMill$Goods", name := "fetchesWhen", desc := "(I)I" } : Jvm.MethodName)) ∈ tb := tb_of 742 (by decide +kernel) (by decide +kernel)
theorem ve_X7_97 : VE RX7 97 yX1_fetchesWhen 1 := ⟨mt_742, mt_586, mt_587, ce_1⟩
theorem mt_403 : (Jvm.Cond.methodLink "GrindMill$Text" (25 : Nat) ({ cls := "GrindMill$House", name := "startAnew", desc := "(I)V" } : Jvm.MethodName)) ∈ tb := tb_of 403 (by decide +kernel) (by decide +kernel)
theorem mt_207 : (Jvm.Cond.instanceMethod ({ cls := "GrindMill$House", name := "startAnew", desc := "(I)V" } : Jvm.MethodName)) ∈ tb := tb_of 207 (by decide +kernel) (by decide +kernel)
theorem mt_208 : (Jvm.Cond.selects "GrindMill$House" ({ cls := "GrindMill$House", name := "startAnew", desc := "(I)V" } : Jvm.MethodName) ({ cls := "GrindMill$House", name := "startAnew", desc := "(I)V" } : Jvm.MethodName)) ∈ tb := tb_of 208 (by decide +kernel) (by decide +kernel)
theorem ve_X10_25 : VE RX10 25 yX2_startAnew 2 := ⟨mt_403, mt_207, mt_208, ce_2⟩
theorem mt_404 : (Jvm.Cond.methodLink "GrindMill$Text" (31 : Nat) ({ cls := "GrindMill$Text", name := "passBlanks", desc := "()V" } : Jvm.MethodName)) ∈ tb := tb_of 404 (by decide +kernel) (by decide +kernel)
theorem mt_406 : (Jvm.Cond.instanceMethod ({ cls := "GrindMill$Text", name := "passBlanks", desc := "()V" } : Jvm.MethodName)) ∈ tb := tb_of 406 (by decide +kernel) (by decide +kernel)
theorem mt_1 : (Jvm.Cond.selects "GrindMill$Text" ({ cls := "GrindMill$Text", name := "passBlanks", desc := "()V" } : Jvm.MethodName) ({ cls := "GrindMill$Text", name := "passBlanks", desc := "()V" } : Jvm.MethodName)) ∈ tb := tb_of 1 (by decide +kernel) (by decide +kernel)
theorem ve_X10_31 : VE RX10 31 yX10_passBlanks 10 := ⟨mt_404, mt_406, mt_1, ce_10⟩
theorem mt_408 : (Jvm.Cond.methodLink "GrindMill$Text" (34 : Nat) ({ cls := "GrindMill$Text", name := "readFirstItem", desc := "(LGrindMill$House;)V" } : Jvm.MethodName)) ∈ tb := tb_of 408 (by decide +kernel) (by decide +kernel)
theorem mt_410 : (Jvm.Cond.instanceMethod ({ cls := "GrindMill$Text", name := "readFirstItem", desc := "(LGrindMill$House;)V" } : Jvm.MethodName)) ∈ tb := tb_of 410 (by decide +kernel) (by decide +kernel)
theorem mt_2 : (Jvm.Cond.selects "GrindMill$Text" ({ cls := "GrindMill$Text", name := "readFirstItem", desc := "(LGrindMill$House;)V" } : Jvm.MethodName) ({ cls := "GrindMill$Text", name := "readFirstItem", desc := "(LGrindMill$House;)V" } : Jvm.MethodName)) ∈ tb := tb_of 2 (by decide +kernel) (by decide +kernel)
theorem ve_X10_34 : VE RX10 34 yX10_readFirstItem 10 := ⟨mt_408, mt_410, mt_2, ce_10⟩
theorem mt_485 : (Jvm.Cond.methodLink "GrindMill$Text" (38 : Nat) ({ cls := "GrindMill$Text", name := "readLaterItem", desc := "(LGrindMill$House;)V" } : Jvm.MethodName)) ∈ tb := tb_of 485 (by decide +kernel) (by decide +kernel)
theorem mt_487 : (Jvm.Cond.instanceMethod ({ cls := "GrindMill$Text", name := "readLaterItem", desc := "(LGrindMill$House;)V" } : Jvm.MethodName)) ∈ tb := tb_of 487 (by decide +kernel) (by decide +kernel)
theorem mt_8 : (Jvm.Cond.selects "GrindMill$Text" ({ cls := "GrindMill$Text", name := "readLaterItem", desc := "(LGrindMill$House;)V" } : Jvm.MethodName) ({ cls := "GrindMill$Text", name := "readLaterItem", desc := "(LGrindMill$House;)V" } : Jvm.MethodName)) ∈ tb := tb_of 8 (by decide +kernel) (by decide +kernel)
theorem ve_X10_38 : VE RX10 38 yX10_readLaterItem 10 := ⟨mt_485, mt_487, mt_8, ce_10⟩
theorem mt_412 : (Jvm.Cond.methodLink "GrindMill$Text" (41 : Nat) ({ cls := "GrindMill$Text", name := "passLetters", desc := "()V" } : Jvm.MethodName)) ∈ tb := tb_of 412 (by decide +kernel) (by decide +kernel)
theorem mt_414 : (Jvm.Cond.instanceMethod ({ cls := "GrindMill$Text", name := "passLetters", desc := "()V" } : Jvm.MethodName)) ∈ tb := tb_of 414 (by decide +kernel) (by decide +kernel)
theorem mt_3 : (Jvm.Cond.selects "GrindMill$Text" ({ cls := "GrindMill$Text", name := "passLetters", desc := "()V" } : Jvm.MethodName) ({ cls := "GrindMill$Text", name := "passLetters", desc := "()V" } : Jvm.MethodName)) ∈ tb := tb_of 3 (by decide +kernel) (by decide +kernel)
theorem ve_X10_41 : VE RX10 41 yX10_passLetters 10 := ⟨mt_412, mt_414, mt_3, ce_10⟩
theorem mt_418 : (Jvm.Cond.methodLink "GrindMill$Text" (46 : Nat) ({ cls := "GrindMill$Text", name := "isNamed", desc := "(ILjava/lang/String;)Z" } : Jvm.MethodName)) ∈ tb := tb_of 418 (by decide +kernel) (by decide +kernel)
theorem mt_420 : (Jvm.Cond.instanceMethod ({ cls := "GrindMill$Text", name := "isNamed", desc := "(ILjava/lang/String;)Z" } : Jvm.MethodName)) ∈ tb := tb_of 420 (by decide +kernel) (by decide +kernel)
theorem mt_4 : (Jvm.Cond.selects "GrindMill$Text" ({ cls := "GrindMill$Text", name := "isNamed", desc := "(ILjava/lang/String;)Z" } : Jvm.MethodName) ({ cls := "GrindMill$Text", name := "isNamed", desc := "(ILjava/lang/String;)Z" } : Jvm.MethodName)) ∈ tb := tb_of 4 (by decide +kernel) (by decide +kernel)
theorem ve_X10_46 : VE RX10 46 yX10_isNamed 10 := ⟨mt_418, mt_420, mt_4, ce_10⟩
theorem mt_470 : (Jvm.Cond.methodLink "GrindMill$Text" (50 : Nat) ({ cls := "GrindMill$Text", name := "readNumber", desc := "(II)I" } : Jvm.MethodName)) ∈ tb := tb_of 470 (by decide +kernel) (by decide +kernel)
theorem mt_472 : (Jvm.Cond.instanceMethod ({ cls := "GrindMill$Text", name := "readNumber", desc := "(II)I" } : Jvm.MethodName)) ∈ tb := tb_of 472 (by decide +kernel) (by decide +kernel)
theorem mt_5 : (Jvm.Cond.selects "GrindMill$Text" ({ cls := "GrindMill$Text", name := "readNumber", desc := "(II)I" } : Jvm.MethodName) ({ cls := "GrindMill$Text", name := "readNumber", desc := "(II)I" } : Jvm.MethodName)) ∈ tb := tb_of 5 (by decide +kernel) (by decide +kernel)
theorem ve_X10_50 : VE RX10 50 yX10_readNumber 10 := ⟨mt_470, mt_472, mt_5, ce_10⟩
theorem mt_477 : (Jvm.Cond.methodLink "GrindMill$Text" (57 : Nat) ({ cls := "GrindMill$Text", name := "failAt", desc := "(I)V" } : Jvm.MethodName)) ∈ tb := tb_of 477 (by decide +kernel) (by decide +kernel)
theorem mt_479 : (Jvm.Cond.instanceMethod ({ cls := "GrindMill$Text", name := "failAt", desc := "(I)V" } : Jvm.MethodName)) ∈ tb := tb_of 479 (by decide +kernel) (by decide +kernel)
theorem mt_6 : (Jvm.Cond.selects "GrindMill$Text" ({ cls := "GrindMill$Text", name := "failAt", desc := "(I)V" } : Jvm.MethodName) ({ cls := "GrindMill$Text", name := "failAt", desc := "(I)V" } : Jvm.MethodName)) ∈ tb := tb_of 6 (by decide +kernel) (by decide +kernel)
theorem ve_X10_57 : VE RX10 57 yX10_failAt 10 := ⟨mt_477, mt_479, mt_6, ce_10⟩
theorem mt_481 : (Jvm.Cond.methodLink "GrindMill$Text" (60 : Nat) ({ cls := "GrindMill$Text", name := "readItemsEnd", desc := "()V" } : Jvm.MethodName)) ∈ tb := tb_of 481 (by decide +kernel) (by decide +kernel)
theorem mt_483 : (Jvm.Cond.instanceMethod ({ cls := "GrindMill$Text", name := "readItemsEnd", desc := "()V" } : Jvm.MethodName)) ∈ tb := tb_of 483 (by decide +kernel) (by decide +kernel)
theorem mt_7 : (Jvm.Cond.selects "GrindMill$Text" ({ cls := "GrindMill$Text", name := "readItemsEnd", desc := "()V" } : Jvm.MethodName) ({ cls := "GrindMill$Text", name := "readItemsEnd", desc := "()V" } : Jvm.MethodName)) ∈ tb := tb_of 7 (by decide +kernel) (by decide +kernel)
theorem ve_X10_60 : VE RX10 60 yX10_readItemsEnd 10 := ⟨mt_481, mt_483, mt_7, ce_10⟩
theorem mt_490 : (Jvm.Cond.methodLink "GrindMill$Text" (65 : Nat) ({ cls := "GrindMill$Text", name := "readGoods", desc := "(LGrindMill$House;I)V" } : Jvm.MethodName)) ∈ tb := tb_of 490 (by decide +kernel) (by decide +kernel)
theorem mt_492 : (Jvm.Cond.instanceMethod ({ cls := "GrindMill$Text", name := "readGoods", desc := "(LGrindMill$House;I)V" } : Jvm.MethodName)) ∈ tb := tb_of 492 (by decide +kernel) (by decide +kernel)
theorem mt_9 : (Jvm.Cond.selects "GrindMill$Text" ({ cls := "GrindMill$Text", name := "readGoods", desc := "(LGrindMill$House;I)V" } : Jvm.MethodName) ({ cls := "GrindMill$Text", name := "readGoods", desc := "(LGrindMill$House;I)V" } : Jvm.MethodName)) ∈ tb := tb_of 9 (by decide +kernel) (by decide +kernel)
theorem ve_X10_65 : VE RX10 65 yX10_readGoods 10 := ⟨mt_490, mt_492, mt_9, ce_10⟩
theorem mt_494 : (Jvm.Cond.methodLink "GrindMill$Text" (85 : Nat) ({ cls := "GrindMill$House", name := "addGoods", desc := "(III)V" } : Jvm.MethodName)) ∈ tb := tb_of 494 (by decide +kernel) (by decide +kernel)
theorem mt_369 : (Jvm.Cond.instanceMethod ({ cls := "GrindMill$House", name := "addGoods", desc := "(III)V" } : Jvm.MethodName)) ∈ tb := tb_of 369 (by decide +kernel) (by decide +kernel)
theorem mt_370 : (Jvm.Cond.selects "GrindMill$House" ({ cls := "GrindMill$House", name := "addGoods", desc := "(III)V" } : Jvm.MethodName) ({ cls := "GrindMill$House", name := "addGoods", desc := "(III)V" } : Jvm.MethodName)) ∈ tb := tb_of 370 (by decide +kernel) (by decide +kernel)
theorem ve_X10_85 : VE RX10 85 yX2_addGoods 2 := ⟨mt_494, mt_369, mt_370, ce_2⟩
theorem mt_387 : (Jvm.Cond.methodLink "GrindMill" (102 : Nat) ({ cls := "GrindMill$Text", name := "append", desc := "(I)V" } : Jvm.MethodName)) ∈ tb := tb_of 387 (by decide +kernel) (by decide +kernel)
theorem mt_388 : (Jvm.Cond.instanceMethod ({ cls := "GrindMill$Text", name := "append", desc := "(I)V" } : Jvm.MethodName)) ∈ tb := tb_of 388 (by decide +kernel) (by decide +kernel)
theorem mt_389 : (Jvm.Cond.selects "GrindMill$Text" ({ cls := "GrindMill$Text", name := "append", desc := "(I)V" } : Jvm.MethodName) ({ cls := "GrindMill$Text", name := "append", desc := "(I)V" } : Jvm.MethodName)) ∈ tb := tb_of 389 (by decide +kernel) (by decide +kernel)
theorem ve_X11_102 : VE RX11 102 yX10_append 10 := ⟨mt_387, mt_388, mt_389, ce_10⟩
theorem mt_399 : (Jvm.Cond.methodLink "GrindMill" (105 : Nat) ({ cls := "GrindMill$Text", name := "readInto", desc := "(LGrindMill$House;)I" } : Jvm.MethodName)) ∈ tb := tb_of 399 (by decide +kernel) (by decide +kernel)
theorem mt_400 : (Jvm.Cond.instanceMethod ({ cls := "GrindMill$Text", name := "readInto", desc := "(LGrindMill$House;)I" } : Jvm.MethodName)) ∈ tb := tb_of 400 (by decide +kernel) (by decide +kernel)
theorem mt_401 : (Jvm.Cond.selects "GrindMill$Text" ({ cls := "GrindMill$Text", name := "readInto", desc := "(LGrindMill$House;)I" } : Jvm.MethodName) ({ cls := "GrindMill$Text", name := "readInto", desc := "(LGrindMill$House;)I" } : Jvm.MethodName)) ∈ tb := tb_of 401 (by decide +kernel) (by decide +kernel)
theorem ve_X11_105 : VE RX11 105 yX10_readInto 10 := ⟨mt_399, mt_400, mt_401, ce_10⟩
theorem mt_502 : (Jvm.Cond.methodLink "GrindMill" (112 : Nat) ({ cls := "GrindMill$House", name := "has", desc := "(I)Z" } : Jvm.MethodName)) ∈ tb := tb_of 502 (by decide +kernel) (by decide +kernel)
theorem ve_X11_112 : VE RX11 112 yX2_has 2 := ⟨mt_502, mt_503, mt_504, ce_2⟩
theorem mt_506 : (Jvm.Cond.methodLink "GrindMill" (115 : Nat) ({ cls := "GrindMill", name := "refuseApart", desc := "()I" } : Jvm.MethodName)) ∈ tb := tb_of 506 (by decide +kernel) (by decide +kernel)
theorem mt_508 : (Jvm.Cond.instanceMethod ({ cls := "GrindMill", name := "refuseApart", desc := "()I" } : Jvm.MethodName)) ∈ tb := tb_of 508 (by decide +kernel) (by decide +kernel)
theorem mt_10 : (Jvm.Cond.selects "GrindMill" ({ cls := "GrindMill", name := "refuseApart", desc := "()I" } : Jvm.MethodName) ({ cls := "GrindMill", name := "refuseApart", desc := "()I" } : Jvm.MethodName)) ∈ tb := tb_of 10 (by decide +kernel) (by decide +kernel)
theorem ve_X11_115 : VE RX11 115 yX11_refuseApart 11 := ⟨mt_506, mt_508, mt_10, ce_11⟩
theorem mt_510 : (Jvm.Cond.methodLink "GrindMill" (119 : Nat) ({ cls := "GrindMill$House", name := "remember", desc := "()V" } : Jvm.MethodName)) ∈ tb := tb_of 510 (by decide +kernel) (by decide +kernel)
theorem mt_511 : (Jvm.Cond.instanceMethod ({ cls := "GrindMill$House", name := "remember", desc := "()V" } : Jvm.MethodName)) ∈ tb := tb_of 511 (by decide +kernel) (by decide +kernel)
theorem mt_512 : (Jvm.Cond.selects "GrindMill$House" ({ cls := "GrindMill$House", name := "remember", desc := "()V" } : Jvm.MethodName) ({ cls := "GrindMill$House", name := "remember", desc := "()V" } : Jvm.MethodName)) ∈ tb := tb_of 512 (by decide +kernel) (by decide +kernel)
theorem ve_X11_119 : VE RX11 119 yX2_remember 2 := ⟨mt_510, mt_511, mt_512, ce_2⟩
theorem mt_521 : (Jvm.Cond.methodLink "GrindMill" (125 : Nat) ({ cls := "GrindMill$House", name := "passHour", desc := "()I" } : Jvm.MethodName)) ∈ tb := tb_of 521 (by decide +kernel) (by decide +kernel)
theorem mt_522 : (Jvm.Cond.instanceMethod ({ cls := "GrindMill$House", name := "passHour", desc := "()I" } : Jvm.MethodName)) ∈ tb := tb_of 522 (by decide +kernel) (by decide +kernel)
theorem mt_523 : (Jvm.Cond.selects "GrindMill$House" ({ cls := "GrindMill$House", name := "passHour", desc := "()I" } : Jvm.MethodName) ({ cls := "GrindMill$House", name := "passHour", desc := "()I" } : Jvm.MethodName)) ∈ tb := tb_of 523 (by decide +kernel) (by decide +kernel)
theorem ve_X11_125 : VE RX11 125 yX2_passHour 2 := ⟨mt_521, mt_522, mt_523, ce_2⟩
theorem mt_577 : (Jvm.Cond.methodLink "GrindMill" (141 : Nat) ({ cls := "GrindMill$Goods", name := "giveAway", desc := "(I)I" } : Jvm.MethodName)) ∈ tb := tb_of 577 (by decide +kernel) (by decide +kernel)
theorem mt_578 : (Jvm.Cond.instanceMethod ({ cls := "GrindMill$Goods", name := "giveAway", desc := "(I)I" } : Jvm.MethodName)) ∈ tb := tb_of 578 (by decide +kernel) (by decide +kernel)
theorem mt_579 : (Jvm.Cond.selects "GrindMill$Goods" ({ cls := "GrindMill$Goods", name := "giveAway", desc := "(I)I" } : Jvm.MethodName) ({ cls := "GrindMill$Goods", name := "giveAway", desc := "(I)I" } : Jvm.MethodName)) ∈ tb := tb_of 579 (by decide +kernel) (by decide +kernel)
theorem ve_X11_141 : VE RX11 141 yX1_giveAway 1 := ⟨mt_577, mt_578, mt_579, ce_1⟩
theorem mt_617 : (Jvm.Cond.methodLink "GrindMill" (153 : Nat) ({ cls := "GrindMill$House", name := "goBack", desc := "()V" } : Jvm.MethodName)) ∈ tb := tb_of 617 (by decide +kernel) (by decide +kernel)
theorem mt_618 : (Jvm.Cond.instanceMethod ({ cls := "GrindMill$House", name := "goBack", desc := "()V" } : Jvm.MethodName)) ∈ tb := tb_of 618 (by decide +kernel) (by decide +kernel)
theorem mt_619 : (Jvm.Cond.selects "GrindMill$House" ({ cls := "GrindMill$House", name := "goBack", desc := "()V" } : Jvm.MethodName) ({ cls := "GrindMill$House", name := "goBack", desc := "()V" } : Jvm.MethodName)) ∈ tb := tb_of 619 (by decide +kernel) (by decide +kernel)
theorem ve_X11_153 : VE RX11 153 yX2_goBack 2 := ⟨mt_617, mt_618, mt_619, ce_2⟩
theorem mt_625 : (Jvm.Cond.methodLink "GrindMill" (171 : Nat) ({ cls := "GrindMill$Goods", name := "groundIn", desc := "(II)I" } : Jvm.MethodName)) ∈ tb := tb_of 625 (by decide +kernel) (by decide +kernel)
theorem ve_X11_171 : VE RX11 171 yX1_groundIn 1 := ⟨mt_625, mt_531, mt_532, ce_1⟩
theorem mt_626 : (Jvm.Cond.methodLink "GrindMill" (174 : Nat) ({ cls := "GrindMill$Goods", name := "fetchesWhen", desc := "(I)I" } : Jvm.MethodName)) ∈ tb := tb_of 626 (by decide +kernel) (by decide +kernel)
theorem ve_X11_174 : VE RX11 174 yX1_fetchesWhen 1 := ⟨mt_626, mt_586, mt_587, ce_1⟩
theorem mt_635 : (Jvm.Cond.methodLink "GrindMill" (177 : Nat) ({ cls := "GrindMill$House", name := "groundWithin", desc := "(II)I" } : Jvm.MethodName)) ∈ tb := tb_of 635 (by decide +kernel) (by decide +kernel)
theorem mt_636 : (Jvm.Cond.instanceMethod ({ cls := "GrindMill$House", name := "groundWithin", desc := "(II)I" } : Jvm.MethodName)) ∈ tb := tb_of 636 (by decide +kernel) (by decide +kernel)
theorem mt_637 : (Jvm.Cond.selects "GrindMill$House" ({ cls := "GrindMill$House", name := "groundWithin", desc := "(II)I" } : Jvm.MethodName) ({ cls := "GrindMill$House", name := "groundWithin", desc := "(II)I" } : Jvm.MethodName)) ∈ tb := tb_of 637 (by decide +kernel) (by decide +kernel)
theorem ve_X11_177 : VE RX11 177 yX2_groundWithin 2 := ⟨mt_635, mt_636, mt_637, ce_2⟩
theorem mt_639 : (Jvm.Cond.methodLink "GrindMill" (180 : Nat) ({ cls := "GrindMill$House", name := "allBushels", desc := "()I" } : Jvm.MethodName)) ∈ tb := tb_of 639 (by decide +kernel) (by decide +kernel)
theorem ve_X11_180 : VE RX11 180 yX2_allBushels 2 := ⟨mt_639, mt_556, mt_557, ce_2⟩
theorem mt_645 : (Jvm.Cond.methodLink "GrindMill" (194 : Nat) ({ cls := "GrindMill$House", name := "groundBy", desc := "(II)I" } : Jvm.MethodName)) ∈ tb := tb_of 645 (by decide +kernel) (by decide +kernel)
theorem ve_X11_194 : VE RX11 194 yX2_groundBy 2 := ⟨mt_645, mt_526, mt_527, ce_2⟩
theorem mt_650 : (Jvm.Cond.methodLink "GrindMill" (197 : Nat) ({ cls := "GrindMill$Plans", name := "fewestHours", desc := "(LGrindMill$House;I)I" } : Jvm.MethodName)) ∈ tb := tb_of 650 (by decide +kernel) (by decide +kernel)
theorem mt_651 : (Jvm.Cond.instanceMethod ({ cls := "GrindMill$Plans", name := "fewestHours", desc := "(LGrindMill$House;I)I" } : Jvm.MethodName)) ∈ tb := tb_of 651 (by decide +kernel) (by decide +kernel)
theorem mt_652 : (Jvm.Cond.selects "GrindMill$Plans" ({ cls := "GrindMill$Plans", name := "fewestHours", desc := "(LGrindMill$House;I)I" } : Jvm.MethodName) ({ cls := "GrindMill$Plans", name := "fewestHours", desc := "(LGrindMill$House;I)I" } : Jvm.MethodName)) ∈ tb := tb_of 652 (by decide +kernel) (by decide +kernel)
theorem ve_X11_197 : VE RX11 197 yX7_fewestHours 7 := ⟨mt_650, mt_651, mt_652, ce_7⟩
theorem mt_672 : (Jvm.Cond.methodLink "GrindMill" (204 : Nat) ({ cls := "GrindMill$Plans", name := "mostMoney", desc := "(LGrindMill$House;I)I" } : Jvm.MethodName)) ∈ tb := tb_of 672 (by decide +kernel) (by decide +kernel)
theorem mt_673 : (Jvm.Cond.instanceMethod ({ cls := "GrindMill$Plans", name := "mostMoney", desc := "(LGrindMill$House;I)I" } : Jvm.MethodName)) ∈ tb := tb_of 673 (by decide +kernel) (by decide +kernel)
theorem mt_674 : (Jvm.Cond.selects "GrindMill$Plans" ({ cls := "GrindMill$Plans", name := "mostMoney", desc := "(LGrindMill$House;I)I" } : Jvm.MethodName) ({ cls := "GrindMill$Plans", name := "mostMoney", desc := "(LGrindMill$House;I)I" } : Jvm.MethodName)) ∈ tb := tb_of 674 (by decide +kernel) (by decide +kernel)
theorem ve_X11_204 : VE RX11 204 yX7_mostMoney 7 := ⟨mt_672, mt_673, mt_674, ce_7⟩
theorem mt_696 : (Jvm.Cond.methodLink "GrindMill" (216 : Nat) ({ cls := "GrindMill$Clues", name := "addGuess", desc := "(II)V" } : Jvm.MethodName)) ∈ tb := tb_of 696 (by decide +kernel) (by decide +kernel)
theorem mt_697 : (Jvm.Cond.instanceMethod ({ cls := "GrindMill$Clues", name := "addGuess", desc := "(II)V" } : Jvm.MethodName)) ∈ tb := tb_of 697 (by decide +kernel) (by decide +kernel)
theorem mt_698 : (Jvm.Cond.selects "GrindMill$Clues" ({ cls := "GrindMill$Clues", name := "addGuess", desc := "(II)V" } : Jvm.MethodName) ({ cls := "GrindMill$Clues", name := "addGuess", desc := "(II)V" } : Jvm.MethodName)) ∈ tb := tb_of 698 (by decide +kernel) (by decide +kernel)
theorem ve_X11_216 : VE RX11 216 yX0_addGuess 0 := ⟨mt_696, mt_697, mt_698, ce_0⟩
theorem mt_704 : (Jvm.Cond.methodLink "GrindMill" (220 : Nat) ({ cls := "GrindMill$Clues", name := "fittingWords", desc := "()I" } : Jvm.MethodName)) ∈ tb := tb_of 704 (by decide +kernel) (by decide +kernel)
theorem ve_X11_220 : VE RX11 220 yX0_fittingWords 0 := ⟨mt_704, mt_705, mt_706, ce_0⟩
theorem mt_720 : (Jvm.Cond.methodLink "GrindMill" (231 : Nat) ({ cls := "GrindMill$Clues", name := "sharpestWord", desc := "()I" } : Jvm.MethodName)) ∈ tb := tb_of 720 (by decide +kernel) (by decide +kernel)
theorem mt_721 : (Jvm.Cond.instanceMethod ({ cls := "GrindMill$Clues", name := "sharpestWord", desc := "()I" } : Jvm.MethodName)) ∈ tb := tb_of 721 (by decide +kernel) (by decide +kernel)
theorem mt_722 : (Jvm.Cond.selects "GrindMill$Clues" ({ cls := "GrindMill$Clues", name := "sharpestWord", desc := "()I" } : Jvm.MethodName) ({ cls := "GrindMill$Clues", name := "sharpestWord", desc := "()I" } : Jvm.MethodName)) ∈ tb := tb_of 722 (by decide +kernel) (by decide +kernel)
theorem ve_X11_231 : VE RX11 231 yX0_sharpestWord 0 := ⟨mt_720, mt_721, mt_722, ce_0⟩
theorem mt_734 : (Jvm.Cond.methodLink "GrindMill" (234 : Nat) ({ cls := "GrindMill$Plans", name := "restingPairs", desc := "(LGrindMill$House;II)I" } : Jvm.MethodName)) ∈ tb := tb_of 734 (by decide +kernel) (by decide +kernel)
theorem mt_735 : (Jvm.Cond.instanceMethod ({ cls := "GrindMill$Plans", name := "restingPairs", desc := "(LGrindMill$House;II)I" } : Jvm.MethodName)) ∈ tb := tb_of 735 (by decide +kernel) (by decide +kernel)
theorem mt_736 : (Jvm.Cond.selects "GrindMill$Plans" ({ cls := "GrindMill$Plans", name := "restingPairs", desc := "(LGrindMill$House;II)I" } : Jvm.MethodName) ({ cls := "GrindMill$Plans", name := "restingPairs", desc := "(LGrindMill$House;II)I" } : Jvm.MethodName)) ∈ tb := tb_of 736 (by decide +kernel) (by decide +kernel)
theorem ve_X11_234 : VE RX11 234 yX7_restingPairs 7 := ⟨mt_734, mt_735, mt_736, ce_7⟩
theorem mt_759 : (Jvm.Cond.methodLink "GrindMill" (241 : Nat) ({ cls := "GrindMill$Clues", name := "addNote", desc := "(IIII)V" } : Jvm.MethodName)) ∈ tb := tb_of 759 (by decide +kernel) (by decide +kernel)
theorem mt_760 : (Jvm.Cond.instanceMethod ({ cls := "GrindMill$Clues", name := "addNote", desc := "(IIII)V" } : Jvm.MethodName)) ∈ tb := tb_of 760 (by decide +kernel) (by decide +kernel)
theorem mt_761 : (Jvm.Cond.selects "GrindMill$Clues" ({ cls := "GrindMill$Clues", name := "addNote", desc := "(IIII)V" } : Jvm.MethodName) ({ cls := "GrindMill$Clues", name := "addNote", desc := "(IIII)V" } : Jvm.MethodName)) ∈ tb := tb_of 761 (by decide +kernel) (by decide +kernel)
theorem ve_X11_241 : VE RX11 241 yX0_addNote 0 := ⟨mt_759, mt_760, mt_761, ce_0⟩
theorem mt_771 : (Jvm.Cond.methodLink "GrindMill" (245 : Nat) ({ cls := "GrindMill$Clues", name := "fittingKinds", desc := "(II)I" } : Jvm.MethodName)) ∈ tb := tb_of 771 (by decide +kernel) (by decide +kernel)
theorem ve_X11_245 : VE RX11 245 yX0_fittingKinds 0 := ⟨mt_771, mt_772, mt_773, ce_0⟩
theorem mt_780 : (Jvm.Cond.methodLink "GrindMill" (248 : Nat) ({ cls := "GrindMill$Clues", name := "fittingRates", desc := "(II)I" } : Jvm.MethodName)) ∈ tb := tb_of 780 (by decide +kernel) (by decide +kernel)
theorem mt_781 : (Jvm.Cond.instanceMethod ({ cls := "GrindMill$Clues", name := "fittingRates", desc := "(II)I" } : Jvm.MethodName)) ∈ tb := tb_of 781 (by decide +kernel) (by decide +kernel)
theorem mt_782 : (Jvm.Cond.selects "GrindMill$Clues" ({ cls := "GrindMill$Clues", name := "fittingRates", desc := "(II)I" } : Jvm.MethodName) ({ cls := "GrindMill$Clues", name := "fittingRates", desc := "(II)I" } : Jvm.MethodName)) ∈ tb := tb_of 782 (by decide +kernel) (by decide +kernel)
theorem ve_X11_248 : VE RX11 248 yX0_fittingRates 0 := ⟨mt_780, mt_781, mt_782, ce_0⟩
theorem mt_788 : (Jvm.Cond.methodLink "GrindMill" (251 : Nat) ({ cls := "GrindMill$Clues", name := "sharpestLook", desc := "(II)I" } : Jvm.MethodName)) ∈ tb := tb_of 788 (by decide +kernel) (by decide +kernel)
theorem mt_789 : (Jvm.Cond.instanceMethod ({ cls := "GrindMill$Clues", name := "sharpestLook", desc := "(II)I" } : Jvm.MethodName)) ∈ tb := tb_of 789 (by decide +kernel) (by decide +kernel)
theorem mt_790 : (Jvm.Cond.selects "GrindMill$Clues" ({ cls := "GrindMill$Clues", name := "sharpestLook", desc := "(II)I" } : Jvm.MethodName) ({ cls := "GrindMill$Clues", name := "sharpestLook", desc := "(II)I" } : Jvm.MethodName)) ∈ tb := tb_of 790 (by decide +kernel) (by decide +kernel)
theorem ve_X11_251 : VE RX11 251 yX0_sharpestLook 0 := ⟨mt_788, mt_789, mt_790, ce_0⟩
theorem mt_830 : (Jvm.Cond.methodLink "GrindMill" (274 : Nat) ({ cls := "GrindMill$House", name := "copyFrom", desc := "(LGrindMill$House;)V" } : Jvm.MethodName)) ∈ tb := tb_of 830 (by decide +kernel) (by decide +kernel)
theorem mt_831 : (Jvm.Cond.instanceMethod ({ cls := "GrindMill$House", name := "copyFrom", desc := "(LGrindMill$House;)V" } : Jvm.MethodName)) ∈ tb := tb_of 831 (by decide +kernel) (by decide +kernel)
theorem mt_832 : (Jvm.Cond.selects "GrindMill$House" ({ cls := "GrindMill$House", name := "copyFrom", desc := "(LGrindMill$House;)V" } : Jvm.MethodName) ({ cls := "GrindMill$House", name := "copyFrom", desc := "(LGrindMill$House;)V" } : Jvm.MethodName)) ∈ tb := tb_of 832 (by decide +kernel) (by decide +kernel)
theorem ve_X11_274 : VE RX11 274 yX2_copyFrom 2 := ⟨mt_830, mt_831, mt_832, ce_2⟩
theorem mt_856 : (Jvm.Cond.methodLink "GrindMill" (278 : Nat) ({ cls := "GrindMill", name := "amountOf", desc := "(I)I" } : Jvm.MethodName)) ∈ tb := tb_of 856 (by decide +kernel) (by decide +kernel)
theorem mt_858 : (Jvm.Cond.instanceMethod ({ cls := "GrindMill", name := "amountOf", desc := "(I)I" } : Jvm.MethodName)) ∈ tb := tb_of 858 (by decide +kernel) (by decide +kernel)
theorem mt_25 : (Jvm.Cond.selects "GrindMill" ({ cls := "GrindMill", name := "amountOf", desc := "(I)I" } : Jvm.MethodName) ({ cls := "GrindMill", name := "amountOf", desc := "(I)I" } : Jvm.MethodName)) ∈ tb := tb_of 25 (by decide +kernel) (by decide +kernel)
theorem ve_X11_278 : VE RX11 278 yX11_amountOf 11 := ⟨mt_856, mt_858, mt_25, ce_11⟩
theorem mt_866 : (Jvm.Cond.methodLink "GrindMill" (285 : Nat) ({ cls := "GrindMill$House", name := "mixInto", desc := "(J)J" } : Jvm.MethodName)) ∈ tb := tb_of 866 (by decide +kernel) (by decide +kernel)
theorem mt_867 : (Jvm.Cond.instanceMethod ({ cls := "GrindMill$House", name := "mixInto", desc := "(J)J" } : Jvm.MethodName)) ∈ tb := tb_of 867 (by decide +kernel) (by decide +kernel)
theorem mt_868 : (Jvm.Cond.selects "GrindMill$House" ({ cls := "GrindMill$House", name := "mixInto", desc := "(J)J" } : Jvm.MethodName) ({ cls := "GrindMill$House", name := "mixInto", desc := "(J)J" } : Jvm.MethodName)) ∈ tb := tb_of 868 (by decide +kernel) (by decide +kernel)
theorem ve_X11_285 : VE RX11 285 yX2_mixInto 2 := ⟨mt_866, mt_867, mt_868, ce_2⟩
theorem mt_359 : (Jvm.Cond.methodLink "GrindMill" (76 : Nat) ({ cls := "GrindMill", name := "refuse", desc := "(I)I" } : Jvm.MethodName)) ∈ tb := tb_of 359 (by decide +kernel) (by decide +kernel)
theorem mt_361 : (Jvm.Cond.instanceMethod ({ cls := "GrindMill", name := "refuse", desc := "(I)I" } : Jvm.MethodName)) ∈ tb := tb_of 361 (by decide +kernel) (by decide +kernel)
theorem mt_0 : (Jvm.Cond.selects "GrindMill" ({ cls := "GrindMill", name := "refuse", desc := "(I)I" } : Jvm.MethodName) ({ cls := "GrindMill", name := "refuse", desc := "(I)I" } : Jvm.MethodName)) ∈ tb := tb_of 0 (by decide +kernel) (by decide +kernel)
theorem ve_X11_76 : VE RX11 76 yX11_refuse 11 := ⟨mt_359, mt_361, mt_0, ce_11⟩
theorem mt_363 : (Jvm.Cond.methodLink "GrindMill" (84 : Nat) ({ cls := "GrindMill$House", name := "startAnew", desc := "(I)V" } : Jvm.MethodName)) ∈ tb := tb_of 363 (by decide +kernel) (by decide +kernel)
theorem ve_X11_84 : VE RX11 84 yX2_startAnew 2 := ⟨mt_363, mt_207, mt_208, ce_2⟩
theorem mt_368 : (Jvm.Cond.methodLink "GrindMill" (88 : Nat) ({ cls := "GrindMill$House", name := "addGoods", desc := "(III)V" } : Jvm.MethodName)) ∈ tb := tb_of 368 (by decide +kernel) (by decide +kernel)
theorem ve_X11_88 : VE RX11 88 yX2_addGoods 2 := ⟨mt_368, mt_369, mt_370, ce_2⟩
theorem mt_1006 : (Jvm.Cond.methodLink "GrindMillModel" (110 : Nat) ({ cls := "GrindMillModel", name := "wordHere", desc := "()I" } : Jvm.MethodName)) ∈ tb := tb_of 1006 (by decide +kernel) (by decide +kernel)
theorem mt_1008 : (Jvm.Cond.instanceMethod ({ cls := "GrindMillModel", name := "wordHere", desc := "()I" } : Jvm.MethodName)) ∈ tb := tb_of 1008 (by decide +kernel) (by decide +kernel)
theorem mt_33 : (Jvm.Cond.selects "GrindMillModel" ({ cls := "GrindMillModel", name := "wordHere", desc := "()I" } : Jvm.MethodName) ({ cls := "GrindMillModel", name := "wordHere", desc := "()I" } : Jvm.MethodName)) ∈ tb := tb_of 33 (by decide +kernel) (by decide +kernel)
theorem ve_X12_110 : VE RX12 110 yX12_wordHere 12 := ⟨mt_1006, mt_1008, mt_33, ce_12⟩
theorem mt_1014 : (Jvm.Cond.methodLink "GrindMillModel" (114 : Nat) ({ cls := "GrindMillModel", name := "readsItem", desc := "(I)Z" } : Jvm.MethodName)) ∈ tb := tb_of 1014 (by decide +kernel) (by decide +kernel)
theorem mt_1016 : (Jvm.Cond.instanceMethod ({ cls := "GrindMillModel", name := "readsItem", desc := "(I)Z" } : Jvm.MethodName)) ∈ tb := tb_of 1016 (by decide +kernel) (by decide +kernel)
theorem mt_35 : (Jvm.Cond.selects "GrindMillModel" ({ cls := "GrindMillModel", name := "readsItem", desc := "(I)Z" } : Jvm.MethodName) ({ cls := "GrindMillModel", name := "readsItem", desc := "(I)Z" } : Jvm.MethodName)) ∈ tb := tb_of 35 (by decide +kernel) (by decide +kernel)
theorem ve_X12_114 : VE RX12 114 yX12_readsItem 12 := ⟨mt_1014, mt_1016, mt_35, ce_12⟩
theorem mt_990 : (Jvm.Cond.methodLink "GrindMillModel" (117 : Nat) ({ cls := "GrindMillModel", name := "readItems", desc := "()I" } : Jvm.MethodName)) ∈ tb := tb_of 990 (by decide +kernel) (by decide +kernel)
theorem mt_992 : (Jvm.Cond.instanceMethod ({ cls := "GrindMillModel", name := "readItems", desc := "()I" } : Jvm.MethodName)) ∈ tb := tb_of 992 (by decide +kernel) (by decide +kernel)
theorem mt_29 : (Jvm.Cond.selects "GrindMillModel" ({ cls := "GrindMillModel", name := "readItems", desc := "()I" } : Jvm.MethodName) ({ cls := "GrindMillModel", name := "readItems", desc := "()I" } : Jvm.MethodName)) ∈ tb := tb_of 29 (by decide +kernel) (by decide +kernel)
theorem ve_X12_117 : VE RX12 117 yX12_readItems 12 := ⟨mt_990, mt_992, mt_29, ce_12⟩
theorem mt_1050 : (Jvm.Cond.methodLink "GrindMillModel" (124 : Nat) ({ cls := "GrindMillModel", name := "ground", desc := "(III)I" } : Jvm.MethodName)) ∈ tb := tb_of 1050 (by decide +kernel) (by decide +kernel)
theorem mt_1052 : (Jvm.Cond.instanceMethod ({ cls := "GrindMillModel", name := "ground", desc := "(III)I" } : Jvm.MethodName)) ∈ tb := tb_of 1052 (by decide +kernel) (by decide +kernel)
theorem mt_42 : (Jvm.Cond.selects "GrindMillModel" ({ cls := "GrindMillModel", name := "ground", desc := "(III)I" } : Jvm.MethodName) ({ cls := "GrindMillModel", name := "ground", desc := "(III)I" } : Jvm.MethodName)) ∈ tb := tb_of 42 (by decide +kernel) (by decide +kernel)
theorem ve_X12_124 : VE RX12 124 yX12_ground 12 := ⟨mt_1050, mt_1052, mt_42, ce_12⟩
theorem mt_1057 : (Jvm.Cond.methodLink "GrindMillModel" (128 : Nat) ({ cls := "GrindMillModel", name := "inHouse", desc := "(I)I" } : Jvm.MethodName)) ∈ tb := tb_of 1057 (by decide +kernel) (by decide +kernel)
theorem mt_1059 : (Jvm.Cond.instanceMethod ({ cls := "GrindMillModel", name := "inHouse", desc := "(I)I" } : Jvm.MethodName)) ∈ tb := tb_of 1059 (by decide +kernel) (by decide +kernel)
theorem mt_43 : (Jvm.Cond.selects "GrindMillModel" ({ cls := "GrindMillModel", name := "inHouse", desc := "(I)I" } : Jvm.MethodName) ({ cls := "GrindMillModel", name := "inHouse", desc := "(I)I" } : Jvm.MethodName)) ∈ tb := tb_of 43 (by decide +kernel) (by decide +kernel)
theorem ve_X12_128 : VE RX12 128 yX12_inHouse 12 := ⟨mt_1057, mt_1059, mt_43, ce_12⟩
theorem mt_1030 : (Jvm.Cond.methodLink "GrindMillModel" (131 : Nat) ({ cls := "GrindMillModel", name := "isGoods", desc := "(I)Z" } : Jvm.MethodName)) ∈ tb := tb_of 1030 (by decide +kernel) (by decide +kernel)
theorem mt_1032 : (Jvm.Cond.instanceMethod ({ cls := "GrindMillModel", name := "isGoods", desc := "(I)Z" } : Jvm.MethodName)) ∈ tb := tb_of 1032 (by decide +kernel) (by decide +kernel)
theorem mt_38 : (Jvm.Cond.selects "GrindMillModel" ({ cls := "GrindMillModel", name := "isGoods", desc := "(I)Z" } : Jvm.MethodName) ({ cls := "GrindMillModel", name := "isGoods", desc := "(I)Z" } : Jvm.MethodName)) ∈ tb := tb_of 38 (by decide +kernel) (by decide +kernel)
theorem ve_X12_131 : VE RX12 131 yX12_isGoods 12 := ⟨mt_1030, mt_1032, mt_38, ce_12⟩
theorem mt_1034 : (Jvm.Cond.methodLink "GrindMillModel" (134 : Nat) ({ cls := "GrindMillModel", name := "badTen", desc := "()I" } : Jvm.MethodName)) ∈ tb := tb_of 1034 (by decide +kernel) (by decide +kernel)
theorem mt_1036 : (Jvm.Cond.instanceMethod ({ cls := "GrindMillModel", name := "badTen", desc := "()I" } : Jvm.MethodName)) ∈ tb := tb_of 1036 (by decide +kernel) (by decide +kernel)
theorem mt_39 : (Jvm.Cond.selects "GrindMillModel" ({ cls := "GrindMillModel", name := "badTen", desc := "()I" } : Jvm.MethodName) ({ cls := "GrindMillModel", name := "badTen", desc := "()I" } : Jvm.MethodName)) ∈ tb := tb_of 39 (by decide +kernel) (by decide +kernel)
theorem ve_X12_134 : VE RX12 134 yX12_badTen 12 := ⟨mt_1034, mt_1036, mt_39, ce_12⟩
theorem mt_1038 : (Jvm.Cond.methodLink "GrindMillModel" (137 : Nat) ({ cls := "GrindMillModel", name := "keepPast", desc := "()V" } : Jvm.MethodName)) ∈ tb := tb_of 1038 (by decide +kernel) (by decide +kernel)
theorem mt_1040 : (Jvm.Cond.instanceMethod ({ cls := "GrindMillModel", name := "keepPast", desc := "()V" } : Jvm.MethodName)) ∈ tb := tb_of 1040 (by decide +kernel) (by decide +kernel)
theorem mt_40 : (Jvm.Cond.selects "GrindMillModel" ({ cls := "GrindMillModel", name := "keepPast", desc := "()V" } : Jvm.MethodName) ({ cls := "GrindMillModel", name := "keepPast", desc := "()V" } : Jvm.MethodName)) ∈ tb := tb_of 40 (by decide +kernel) (by decide +kernel)
theorem ve_X12_137 : VE RX12 137 yX12_keepPast 12 := ⟨mt_1038, mt_1040, mt_40, ce_12⟩
theorem mt_1046 : (Jvm.Cond.methodLink "GrindMillModel" (140 : Nat) ({ cls := "GrindMillModel", name := "pass", desc := "(II)I" } : Jvm.MethodName)) ∈ tb := tb_of 1046 (by decide +kernel) (by decide +kernel)
theorem mt_1048 : (Jvm.Cond.instanceMethod ({ cls := "GrindMillModel", name := "pass", desc := "(II)I" } : Jvm.MethodName)) ∈ tb := tb_of 1048 (by decide +kernel) (by decide +kernel)
theorem mt_41 : (Jvm.Cond.selects "GrindMillModel" ({ cls := "GrindMillModel", name := "pass", desc := "(II)I" } : Jvm.MethodName) ({ cls := "GrindMillModel", name := "pass", desc := "(II)I" } : Jvm.MethodName)) ∈ tb := tb_of 41 (by decide +kernel) (by decide +kernel)
theorem ve_X12_140 : VE RX12 140 yX12_pass 12 := ⟨mt_1046, mt_1048, mt_41, ce_12⟩
theorem mt_1075 : (Jvm.Cond.methodLink "GrindMillModel" (150 : Nat) ({ cls := "GrindMillModel", name := "fetches", desc := "(II)I" } : Jvm.MethodName)) ∈ tb := tb_of 1075 (by decide +kernel) (by decide +kernel)
theorem mt_1077 : (Jvm.Cond.instanceMethod ({ cls := "GrindMillModel", name := "fetches", desc := "(II)I" } : Jvm.MethodName)) ∈ tb := tb_of 1077 (by decide +kernel) (by decide +kernel)
theorem mt_44 : (Jvm.Cond.selects "GrindMillModel" ({ cls := "GrindMillModel", name := "fetches", desc := "(II)I" } : Jvm.MethodName) ({ cls := "GrindMillModel", name := "fetches", desc := "(II)I" } : Jvm.MethodName)) ∈ tb := tb_of 44 (by decide +kernel) (by decide +kernel)
theorem ve_X12_150 : VE RX12 150 yX12_fetches 12 := ⟨mt_1075, mt_1077, mt_44, ce_12⟩
theorem mt_1099 : (Jvm.Cond.methodLink "GrindMillModel" (153 : Nat) ({ cls := "GrindMillModel", name := "layTried", desc := "()V" } : Jvm.MethodName)) ∈ tb := tb_of 1099 (by decide +kernel) (by decide +kernel)
theorem mt_1101 : (Jvm.Cond.instanceMethod ({ cls := "GrindMillModel", name := "layTried", desc := "()V" } : Jvm.MethodName)) ∈ tb := tb_of 1101 (by decide +kernel) (by decide +kernel)
theorem mt_45 : (Jvm.Cond.selects "GrindMillModel" ({ cls := "GrindMillModel", name := "layTried", desc := "()V" } : Jvm.MethodName) ({ cls := "GrindMillModel", name := "layTried", desc := "()V" } : Jvm.MethodName)) ∈ tb := tb_of 45 (by decide +kernel) (by decide +kernel)
theorem ve_X12_153 : VE RX12 153 yX12_layTried 12 := ⟨mt_1099, mt_1101, mt_45, ce_12⟩
theorem mt_1111 : (Jvm.Cond.methodLink "GrindMillModel" (156 : Nat) ({ cls := "GrindMillModel", name := "layFewest", desc := "(I)V" } : Jvm.MethodName)) ∈ tb := tb_of 1111 (by decide +kernel) (by decide +kernel)
theorem mt_1113 : (Jvm.Cond.instanceMethod ({ cls := "GrindMillModel", name := "layFewest", desc := "(I)V" } : Jvm.MethodName)) ∈ tb := tb_of 1113 (by decide +kernel) (by decide +kernel)
theorem mt_46 : (Jvm.Cond.selects "GrindMillModel" ({ cls := "GrindMillModel", name := "layFewest", desc := "(I)V" } : Jvm.MethodName) ({ cls := "GrindMillModel", name := "layFewest", desc := "(I)V" } : Jvm.MethodName)) ∈ tb := tb_of 46 (by decide +kernel) (by decide +kernel)
theorem ve_X12_156 : VE RX12 156 yX12_layFewest 12 := ⟨mt_1111, mt_1113, mt_46, ce_12⟩
theorem mt_1123 : (Jvm.Cond.methodLink "GrindMillModel" (159 : Nat) ({ cls := "GrindMillModel", name := "brings", desc := "(II)I" } : Jvm.MethodName)) ∈ tb := tb_of 1123 (by decide +kernel) (by decide +kernel)
theorem mt_1125 : (Jvm.Cond.instanceMethod ({ cls := "GrindMillModel", name := "brings", desc := "(II)I" } : Jvm.MethodName)) ∈ tb := tb_of 1125 (by decide +kernel) (by decide +kernel)
theorem mt_48 : (Jvm.Cond.selects "GrindMillModel" ({ cls := "GrindMillModel", name := "brings", desc := "(II)I" } : Jvm.MethodName) ({ cls := "GrindMillModel", name := "brings", desc := "(II)I" } : Jvm.MethodName)) ∈ tb := tb_of 48 (by decide +kernel) (by decide +kernel)
theorem ve_X12_159 : VE RX12 159 yX12_brings 12 := ⟨mt_1123, mt_1125, mt_48, ce_12⟩
theorem mt_1119 : (Jvm.Cond.methodLink "GrindMillModel" (162 : Nat) ({ cls := "GrindMillModel", name := "layRichest", desc := "(I)V" } : Jvm.MethodName)) ∈ tb := tb_of 1119 (by decide +kernel) (by decide +kernel)
theorem mt_1121 : (Jvm.Cond.instanceMethod ({ cls := "GrindMillModel", name := "layRichest", desc := "(I)V" } : Jvm.MethodName)) ∈ tb := tb_of 1121 (by decide +kernel) (by decide +kernel)
theorem mt_47 : (Jvm.Cond.selects "GrindMillModel" ({ cls := "GrindMillModel", name := "layRichest", desc := "(I)V" } : Jvm.MethodName) ({ cls := "GrindMillModel", name := "layRichest", desc := "(I)V" } : Jvm.MethodName)) ∈ tb := tb_of 47 (by decide +kernel) (by decide +kernel)
theorem ve_X12_162 : VE RX12 162 yX12_layRichest 12 := ⟨mt_1119, mt_1121, mt_47, ce_12⟩
theorem mt_1139 : (Jvm.Cond.methodLink "GrindMillModel" (165 : Nat) ({ cls := "GrindMillModel", name := "mayBe", desc := "(I)Z" } : Jvm.MethodName)) ∈ tb := tb_of 1139 (by decide +kernel) (by decide +kernel)
theorem mt_1141 : (Jvm.Cond.instanceMethod ({ cls := "GrindMillModel", name := "mayBe", desc := "(I)Z" } : Jvm.MethodName)) ∈ tb := tb_of 1141 (by decide +kernel) (by decide +kernel)
theorem mt_49 : (Jvm.Cond.selects "GrindMillModel" ({ cls := "GrindMillModel", name := "mayBe", desc := "(I)Z" } : Jvm.MethodName) ({ cls := "GrindMillModel", name := "mayBe", desc := "(I)Z" } : Jvm.MethodName)) ∈ tb := tb_of 49 (by decide +kernel) (by decide +kernel)
theorem ve_X12_165 : VE RX12 165 yX12_mayBe 12 := ⟨mt_1139, mt_1141, mt_49, ce_12⟩
theorem mt_1147 : (Jvm.Cond.methodLink "GrindMillModel" (168 : Nat) ({ cls := "GrindMillModel", name := "mostAlike", desc := "(I)I" } : Jvm.MethodName)) ∈ tb := tb_of 1147 (by decide +kernel) (by decide +kernel)
theorem mt_1149 : (Jvm.Cond.instanceMethod ({ cls := "GrindMillModel", name := "mostAlike", desc := "(I)I" } : Jvm.MethodName)) ∈ tb := tb_of 1149 (by decide +kernel) (by decide +kernel)
theorem mt_50 : (Jvm.Cond.selects "GrindMillModel" ({ cls := "GrindMillModel", name := "mostAlike", desc := "(I)I" } : Jvm.MethodName) ({ cls := "GrindMillModel", name := "mostAlike", desc := "(I)I" } : Jvm.MethodName)) ∈ tb := tb_of 50 (by decide +kernel) (by decide +kernel)
theorem ve_X12_168 : VE RX12 168 yX12_mostAlike 12 := ⟨mt_1147, mt_1149, mt_50, ce_12⟩
theorem mt_1155 : (Jvm.Cond.methodLink "GrindMillModel" (171 : Nat) ({ cls := "GrindMillModel", name := "layStreet", desc := "(I)V" } : Jvm.MethodName)) ∈ tb := tb_of 1155 (by decide +kernel) (by decide +kernel)
theorem mt_1157 : (Jvm.Cond.instanceMethod ({ cls := "GrindMillModel", name := "layStreet", desc := "(I)V" } : Jvm.MethodName)) ∈ tb := tb_of 1157 (by decide +kernel) (by decide +kernel)
theorem mt_51 : (Jvm.Cond.selects "GrindMillModel" ({ cls := "GrindMillModel", name := "layStreet", desc := "(I)V" } : Jvm.MethodName) ({ cls := "GrindMillModel", name := "layStreet", desc := "(I)V" } : Jvm.MethodName)) ∈ tb := tb_of 51 (by decide +kernel) (by decide +kernel)
theorem ve_X12_171 : VE RX12 171 yX12_layStreet 12 := ⟨mt_1155, mt_1157, mt_51, ce_12⟩
theorem mt_1159 : (Jvm.Cond.methodLink "GrindMillModel" (174 : Nat) ({ cls := "GrindMillModel", name := "rests", desc := "(II)Z" } : Jvm.MethodName)) ∈ tb := tb_of 1159 (by decide +kernel) (by decide +kernel)
theorem mt_1161 : (Jvm.Cond.instanceMethod ({ cls := "GrindMillModel", name := "rests", desc := "(II)Z" } : Jvm.MethodName)) ∈ tb := tb_of 1161 (by decide +kernel) (by decide +kernel)
theorem mt_52 : (Jvm.Cond.selects "GrindMillModel" ({ cls := "GrindMillModel", name := "rests", desc := "(II)Z" } : Jvm.MethodName) ({ cls := "GrindMillModel", name := "rests", desc := "(II)Z" } : Jvm.MethodName)) ∈ tb := tb_of 52 (by decide +kernel) (by decide +kernel)
theorem ve_X12_174 : VE RX12 174 yX12_rests 12 := ⟨mt_1159, mt_1161, mt_52, ce_12⟩
theorem mt_1179 : (Jvm.Cond.methodLink "GrindMillModel" (177 : Nat) ({ cls := "GrindMillModel", name := "isNoted", desc := "(III)Z" } : Jvm.MethodName)) ∈ tb := tb_of 1179 (by decide +kernel) (by decide +kernel)
theorem mt_1181 : (Jvm.Cond.instanceMethod ({ cls := "GrindMillModel", name := "isNoted", desc := "(III)Z" } : Jvm.MethodName)) ∈ tb := tb_of 1181 (by decide +kernel) (by decide +kernel)
theorem mt_54 : (Jvm.Cond.selects "GrindMillModel" ({ cls := "GrindMillModel", name := "isNoted", desc := "(III)Z" } : Jvm.MethodName) ({ cls := "GrindMillModel", name := "isNoted", desc := "(III)Z" } : Jvm.MethodName)) ∈ tb := tb_of 54 (by decide +kernel) (by decide +kernel)
theorem ve_X12_177 : VE RX12 177 yX12_isNoted 12 := ⟨mt_1179, mt_1181, mt_54, ce_12⟩
theorem mt_1175 : (Jvm.Cond.methodLink "GrindMillModel" (180 : Nat) ({ cls := "GrindMillModel", name := "kindsOf", desc := "(I)I" } : Jvm.MethodName)) ∈ tb := tb_of 1175 (by decide +kernel) (by decide +kernel)
theorem mt_1177 : (Jvm.Cond.instanceMethod ({ cls := "GrindMillModel", name := "kindsOf", desc := "(I)I" } : Jvm.MethodName)) ∈ tb := tb_of 1177 (by decide +kernel) (by decide +kernel)
theorem mt_53 : (Jvm.Cond.selects "GrindMillModel" ({ cls := "GrindMillModel", name := "kindsOf", desc := "(I)I" } : Jvm.MethodName) ({ cls := "GrindMillModel", name := "kindsOf", desc := "(I)I" } : Jvm.MethodName)) ∈ tb := tb_of 53 (by decide +kernel) (by decide +kernel)
theorem ve_X12_180 : VE RX12 180 yX12_kindsOf 12 := ⟨mt_1175, mt_1177, mt_53, ce_12⟩
theorem mt_1187 : (Jvm.Cond.methodLink "GrindMillModel" (183 : Nat) ({ cls := "GrindMillModel", name := "mostKinds", desc := "(IIII)I" } : Jvm.MethodName)) ∈ tb := tb_of 1187 (by decide +kernel) (by decide +kernel)
theorem mt_1189 : (Jvm.Cond.instanceMethod ({ cls := "GrindMillModel", name := "mostKinds", desc := "(IIII)I" } : Jvm.MethodName)) ∈ tb := tb_of 1189 (by decide +kernel) (by decide +kernel)
theorem mt_55 : (Jvm.Cond.selects "GrindMillModel" ({ cls := "GrindMillModel", name := "mostKinds", desc := "(IIII)I" } : Jvm.MethodName) ({ cls := "GrindMillModel", name := "mostKinds", desc := "(IIII)I" } : Jvm.MethodName)) ∈ tb := tb_of 55 (by decide +kernel) (by decide +kernel)
theorem ve_X12_183 : VE RX12 183 yX12_mostKinds 12 := ⟨mt_1187, mt_1189, mt_55, ce_12⟩
theorem mt_1196 : (Jvm.Cond.methodLink "GrindMillModel" (191 : Nat) ({ cls := "GrindMillModel", name := "tellPart", desc := "(JJ)V" } : Jvm.MethodName)) ∈ tb := tb_of 1196 (by decide +kernel) (by decide +kernel)
theorem mt_1198 : (Jvm.Cond.instanceMethod ({ cls := "GrindMillModel", name := "tellPart", desc := "(JJ)V" } : Jvm.MethodName)) ∈ tb := tb_of 1198 (by decide +kernel) (by decide +kernel)
theorem mt_56 : (Jvm.Cond.selects "GrindMillModel" ({ cls := "GrindMillModel", name := "tellPart", desc := "(JJ)V" } : Jvm.MethodName) ({ cls := "GrindMillModel", name := "tellPart", desc := "(JJ)V" } : Jvm.MethodName)) ∈ tb := tb_of 56 (by decide +kernel) (by decide +kernel)
theorem ve_X12_191 : VE RX12 191 yX12_tellPart 12 := ⟨mt_1196, mt_1198, mt_56, ce_12⟩
theorem mt_1230 : (Jvm.Cond.methodLink "GrindMillModel" (206 : Nat) ({ cls := "GrindMillModel", name := "countOf", desc := "(I)I" } : Jvm.MethodName)) ∈ tb := tb_of 1230 (by decide +kernel) (by decide +kernel)
theorem mt_1232 : (Jvm.Cond.instanceMethod ({ cls := "GrindMillModel", name := "countOf", desc := "(I)I" } : Jvm.MethodName)) ∈ tb := tb_of 1232 (by decide +kernel) (by decide +kernel)
theorem mt_57 : (Jvm.Cond.selects "GrindMillModel" ({ cls := "GrindMillModel", name := "countOf", desc := "(I)I" } : Jvm.MethodName) ({ cls := "GrindMillModel", name := "countOf", desc := "(I)I" } : Jvm.MethodName)) ∈ tb := tb_of 57 (by decide +kernel) (by decide +kernel)
theorem ve_X12_206 : VE RX12 206 yX12_countOf 12 := ⟨mt_1230, mt_1232, mt_57, ce_12⟩
theorem mt_887 : (Jvm.Cond.methodLink "GrindMillModel" (48 : Nat) ({ cls := "GrindMillModel", name := "layMill", desc := "(I)V" } : Jvm.MethodName)) ∈ tb := tb_of 887 (by decide +kernel) (by decide +kernel)
theorem mt_889 : (Jvm.Cond.instanceMethod ({ cls := "GrindMillModel", name := "layMill", desc := "(I)V" } : Jvm.MethodName)) ∈ tb := tb_of 889 (by decide +kernel) (by decide +kernel)
theorem mt_26 : (Jvm.Cond.selects "GrindMillModel" ({ cls := "GrindMillModel", name := "layMill", desc := "(I)V" } : Jvm.MethodName) ({ cls := "GrindMillModel", name := "layMill", desc := "(I)V" } : Jvm.MethodName)) ∈ tb := tb_of 26 (by decide +kernel) (by decide +kernel)
theorem ve_X12_48 : VE RX12 48 yX12_layMill 12 := ⟨mt_887, mt_889, mt_26, ce_12⟩
theorem mt_962 : (Jvm.Cond.methodLink "GrindMillModel" (56 : Nat) ({ cls := "GrindMillModel", name := "refuse", desc := "(I)I" } : Jvm.MethodName)) ∈ tb := tb_of 962 (by decide +kernel) (by decide +kernel)
theorem mt_964 : (Jvm.Cond.instanceMethod ({ cls := "GrindMillModel", name := "refuse", desc := "(I)I" } : Jvm.MethodName)) ∈ tb := tb_of 964 (by decide +kernel) (by decide +kernel)
theorem mt_27 : (Jvm.Cond.selects "GrindMillModel" ({ cls := "GrindMillModel", name := "refuse", desc := "(I)I" } : Jvm.MethodName) ({ cls := "GrindMillModel", name := "refuse", desc := "(I)I" } : Jvm.MethodName)) ∈ tb := tb_of 27 (by decide +kernel) (by decide +kernel)
theorem ve_X12_56 : VE RX12 56 yX12_refuse 12 := ⟨mt_962, mt_964, mt_27, ce_12⟩
theorem mt_970 : (Jvm.Cond.methodLink "GrindMillModel" (60 : Nat) ({ cls := "GrindMillModel", name := "addGoods", desc := "(III)V" } : Jvm.MethodName)) ∈ tb := tb_of 970 (by decide +kernel) (by decide +kernel)
theorem mt_972 : (Jvm.Cond.instanceMethod ({ cls := "GrindMillModel", name := "addGoods", desc := "(III)V" } : Jvm.MethodName)) ∈ tb := tb_of 972 (by decide +kernel) (by decide +kernel)
theorem mt_28 : (Jvm.Cond.selects "GrindMillModel" ({ cls := "GrindMillModel", name := "addGoods", desc := "(III)V" } : Jvm.MethodName) ({ cls := "GrindMillModel", name := "addGoods", desc := "(III)V" } : Jvm.MethodName)) ∈ tb := tb_of 28 (by decide +kernel) (by decide +kernel)
theorem ve_X12_60 : VE RX12 60 yX12_addGoods 12 := ⟨mt_970, mt_972, mt_28, ce_12⟩
theorem mt_998 : (Jvm.Cond.methodLink "GrindMillModel" (74 : Nat) ({ cls := "GrindMillModel", name := "isLetter", desc := "(I)Z" } : Jvm.MethodName)) ∈ tb := tb_of 998 (by decide +kernel) (by decide +kernel)
theorem mt_1000 : (Jvm.Cond.instanceMethod ({ cls := "GrindMillModel", name := "isLetter", desc := "(I)Z" } : Jvm.MethodName)) ∈ tb := tb_of 1000 (by decide +kernel) (by decide +kernel)
theorem mt_31 : (Jvm.Cond.selects "GrindMillModel" ({ cls := "GrindMillModel", name := "isLetter", desc := "(I)Z" } : Jvm.MethodName) ({ cls := "GrindMillModel", name := "isLetter", desc := "(I)Z" } : Jvm.MethodName)) ∈ tb := tb_of 31 (by decide +kernel) (by decide +kernel)
theorem ve_X12_74 : VE RX12 74 yX12_isLetter 12 := ⟨mt_998, mt_1000, mt_31, ce_12⟩
theorem mt_1002 : (Jvm.Cond.methodLink "GrindMillModel" (78 : Nat) ({ cls := "GrindMillModel", name := "isFigure", desc := "(I)Z" } : Jvm.MethodName)) ∈ tb := tb_of 1002 (by decide +kernel) (by decide +kernel)
theorem mt_1004 : (Jvm.Cond.instanceMethod ({ cls := "GrindMillModel", name := "isFigure", desc := "(I)Z" } : Jvm.MethodName)) ∈ tb := tb_of 1004 (by decide +kernel) (by decide +kernel)
theorem mt_32 : (Jvm.Cond.selects "GrindMillModel" ({ cls := "GrindMillModel", name := "isFigure", desc := "(I)Z" } : Jvm.MethodName) ({ cls := "GrindMillModel", name := "isFigure", desc := "(I)Z" } : Jvm.MethodName)) ∈ tb := tb_of 32 (by decide +kernel) (by decide +kernel)
theorem ve_X12_78 : VE RX12 78 yX12_isFigure 12 := ⟨mt_1002, mt_1004, mt_32, ce_12⟩
theorem mt_1010 : (Jvm.Cond.methodLink "GrindMillModel" (81 : Nat) ({ cls := "GrindMillModel", name := "isWord", desc := "(I)Z" } : Jvm.MethodName)) ∈ tb := tb_of 1010 (by decide +kernel) (by decide +kernel)
theorem mt_1012 : (Jvm.Cond.instanceMethod ({ cls := "GrindMillModel", name := "isWord", desc := "(I)Z" } : Jvm.MethodName)) ∈ tb := tb_of 1012 (by decide +kernel) (by decide +kernel)
theorem mt_34 : (Jvm.Cond.selects "GrindMillModel" ({ cls := "GrindMillModel", name := "isWord", desc := "(I)Z" } : Jvm.MethodName) ({ cls := "GrindMillModel", name := "isWord", desc := "(I)Z" } : Jvm.MethodName)) ∈ tb := tb_of 34 (by decide +kernel) (by decide +kernel)
theorem ve_X12_81 : VE RX12 81 yX12_isWord 12 := ⟨mt_1010, mt_1012, mt_34, ce_12⟩
theorem mt_994 : (Jvm.Cond.methodLink "GrindMillModel" (84 : Nat) ({ cls := "GrindMillModel", name := "next", desc := "()V" } : Jvm.MethodName)) ∈ tb := tb_of 994 (by decide +kernel) (by decide +kernel)
theorem mt_996 : (Jvm.Cond.instanceMethod ({ cls := "GrindMillModel", name := "next", desc := "()V" } : Jvm.MethodName)) ∈ tb := tb_of 996 (by decide +kernel) (by decide +kernel)
theorem mt_30 : (Jvm.Cond.selects "GrindMillModel" ({ cls := "GrindMillModel", name := "next", desc := "()V" } : Jvm.MethodName) ({ cls := "GrindMillModel", name := "next", desc := "()V" } : Jvm.MethodName)) ∈ tb := tb_of 30 (by decide +kernel) (by decide +kernel)
theorem ve_X12_84 : VE RX12 84 yX12_next 12 := ⟨mt_994, mt_996, mt_30, ce_12⟩
theorem mt_1018 : (Jvm.Cond.methodLink "GrindMillModel" (90 : Nat) ({ cls := "GrindMillModel", name := "number", desc := "(II)I" } : Jvm.MethodName)) ∈ tb := tb_of 1018 (by decide +kernel) (by decide +kernel)
theorem mt_1020 : (Jvm.Cond.instanceMethod ({ cls := "GrindMillModel", name := "number", desc := "(II)I" } : Jvm.MethodName)) ∈ tb := tb_of 1020 (by decide +kernel) (by decide +kernel)
theorem mt_36 : (Jvm.Cond.selects "GrindMillModel" ({ cls := "GrindMillModel", name := "number", desc := "(II)I" } : Jvm.MethodName) ({ cls := "GrindMillModel", name := "number", desc := "(II)I" } : Jvm.MethodName)) ∈ tb := tb_of 36 (by decide +kernel) (by decide +kernel)
theorem ve_X12_90 : VE RX12 90 yX12_number 12 := ⟨mt_1018, mt_1020, mt_36, ce_12⟩
theorem mt_1022 : (Jvm.Cond.methodLink "GrindMillModel" (97 : Nat) ({ cls := "GrindMillModel", name := "readsGoods", desc := "()Z" } : Jvm.MethodName)) ∈ tb := tb_of 1022 (by decide +kernel) (by decide +kernel)
theorem mt_1024 : (Jvm.Cond.instanceMethod ({ cls := "GrindMillModel", name := "readsGoods", desc := "()Z" } : Jvm.MethodName)) ∈ tb := tb_of 1024 (by decide +kernel) (by decide +kernel)
theorem mt_37 : (Jvm.Cond.selects "GrindMillModel" ({ cls := "GrindMillModel", name := "readsGoods", desc := "()Z" } : Jvm.MethodName) ({ cls := "GrindMillModel", name := "readsGoods", desc := "()Z" } : Jvm.MethodName)) ∈ tb := tb_of 37 (by decide +kernel) (by decide +kernel)
theorem ve_X12_97 : VE RX12 97 yX12_readsGoods 12 := ⟨mt_1022, mt_1024, mt_37, ce_12⟩
theorem mt_569 : (Jvm.Cond.code ({ cls := "java/lang/Integer", name := "bitCount", desc := "(I)I" } : Jvm.MethodName) prog_15_method_49_code (1 : Nat) (Option.some Jvm.ClassFile.FieldType.int)) ∈ tb := tb_of 569 (by decide +kernel) (by decide +kernel)
theorem mt_78 : (Jvm.Cond.initialized "java/lang/Integer") ∈ tb := tb_of 78 (by decide +kernel) (by decide +kernel)
theorem ye_J6_bitCount_0f7a4 : YE yJ6_bitCount_0f7a4 cJ6_bitCount_0f7a4 1 (some .int) 1 := ⟨mt_569, mt_78, by decide +kernel, by decide +kernel, by decide +kernel⟩
theorem mt_699 : (Jvm.Cond.code ({ cls := "GrindMill$Clues", name := "addGuess", desc := "(II)V" } : Jvm.MethodName) prog_2_method_3_code (3 : Nat) (Option.none : Option Jvm.ClassFile.FieldType)) ∈ tb := tb_of 699 (by decide +kernel) (by decide +kernel)
theorem mt_67 : (Jvm.Cond.initialized "GrindMill$Clues") ∈ tb := tb_of 67 (by decide +kernel) (by decide +kernel)
theorem ye_X0_addGuess : YE yX0_addGuess cX0_addGuess 3 none 2 := ⟨mt_699, mt_67, by decide +kernel, by decide +kernel, by decide +kernel⟩
theorem mt_762 : (Jvm.Cond.code ({ cls := "GrindMill$Clues", name := "addNote", desc := "(IIII)V" } : Jvm.MethodName) prog_2_method_4_code (6 : Nat) (Option.none : Option Jvm.ClassFile.FieldType)) ∈ tb := tb_of 762 (by decide +kernel) (by decide +kernel)
theorem ye_X0_addNote : YE yX0_addNote cX0_addNote 6 none 4 := ⟨mt_762, mt_67, by decide +kernel, by decide +kernel, by decide +kernel⟩
theorem mt_842 : (Jvm.Cond.code ({ cls := "GrindMill$Clues", name := "copyFrom", desc := "(LGrindMill$Clues;)V" } : Jvm.MethodName) prog_2_method_2_code (2 : Nat) (Option.none : Option Jvm.ClassFile.FieldType)) ∈ tb := tb_of 842 (by decide +kernel) (by decide +kernel)
theorem ye_X0_copyFrom : YE yX0_copyFrom cX0_copyFrom 2 none 1 := ⟨mt_842, mt_67, by decide +kernel, by decide +kernel, by decide +kernel⟩
theorem mt_774 : (Jvm.Cond.code ({ cls := "GrindMill$Clues", name := "fittingKinds", desc := "(II)I" } : Jvm.MethodName) prog_2_method_10_code (5 : Nat) (Option.some Jvm.ClassFile.FieldType.int)) ∈ tb := tb_of 774 (by decide +kernel) (by decide +kernel)
theorem ye_X0_fittingKinds : YE yX0_fittingKinds cX0_fittingKinds 5 (some .int) 2 := ⟨mt_774, mt_67, by decide +kernel, by decide +kernel, by decide +kernel⟩
theorem mt_800 : (Jvm.Cond.code ({ cls := "GrindMill$Clues", name := "fittingLike", desc := "(II)I" } : Jvm.MethodName) prog_2_method_14_code (5 : Nat) (Option.some Jvm.ClassFile.FieldType.int)) ∈ tb := tb_of 800 (by decide +kernel) (by decide +kernel)
theorem ye_X0_fittingLike : YE yX0_fittingLike cX0_fittingLike 5 (some .int) 2 := ⟨mt_800, mt_67, by decide +kernel, by decide +kernel, by decide +kernel⟩
theorem mt_783 : (Jvm.Cond.code ({ cls := "GrindMill$Clues", name := "fittingRates", desc := "(II)I" } : Jvm.MethodName) prog_2_method_11_code (5 : Nat) (Option.some Jvm.ClassFile.FieldType.int)) ∈ tb := tb_of 783 (by decide +kernel) (by decide +kernel)
theorem ye_X0_fittingRates : YE yX0_fittingRates cX0_fittingRates 5 (some .int) 2 := ⟨mt_783, mt_67, by decide +kernel, by decide +kernel, by decide +kernel⟩
theorem mt_707 : (Jvm.Cond.code ({ cls := "GrindMill$Clues", name := "fittingWords", desc := "()I" } : Jvm.MethodName) prog_2_method_6_code (3 : Nat) (Option.some Jvm.ClassFile.FieldType.int)) ∈ tb := tb_of 707 (by decide +kernel) (by decide +kernel)
theorem ye_X0_fittingWords : YE yX0_fittingWords cX0_fittingWords 3 (some .int) 0 := ⟨mt_707, mt_67, by decide +kernel, by decide +kernel, by decide +kernel⟩
theorem mt_879 : (Jvm.Cond.code ({ cls := "GrindMill$Clues", name := "mixInto", desc := "(J)J" } : Jvm.MethodName) prog_2_method_15_code (6 : Nat) (Option.some Jvm.ClassFile.FieldType.long)) ∈ tb := tb_of 879 (by decide +kernel) (by decide +kernel)
theorem ye_X0_mixInto : YE yX0_mixInto cX0_mixInto 6 (some .long) 1 := ⟨mt_879, mt_67, by decide +kernel, by decide +kernel, by decide +kernel⟩
theorem mt_728 : (Jvm.Cond.code ({ cls := "GrindMill$Clues", name := "mostAnsweredAlike", desc := "(II)I" } : Jvm.MethodName) prog_2_method_8_code (6 : Nat) (Option.some Jvm.ClassFile.FieldType.int)) ∈ tb := tb_of 728 (by decide +kernel) (by decide +kernel)
theorem ye_X0_mostAnsweredAlike : YE yX0_mostAnsweredAlike cX0_mostAnsweredAlike 6 (some .int) 2 := ⟨mt_728, mt_67, by decide +kernel, by decide +kernel, by decide +kernel⟩
theorem mt_796 : (Jvm.Cond.code ({ cls := "GrindMill$Clues", name := "mostGroundAlike", desc := "(IIII)I" } : Jvm.MethodName) prog_2_method_13_code (7 : Nat) (Option.some Jvm.ClassFile.FieldType.int)) ∈ tb := tb_of 796 (by decide +kernel) (by decide +kernel)
theorem ye_X0_mostGroundAlike : YE yX0_mostGroundAlike cX0_mostGroundAlike 7 (some .int) 4 := ⟨mt_796, mt_67, by decide +kernel, by decide +kernel, by decide +kernel⟩
theorem mt_778 : (Jvm.Cond.code ({ cls := "GrindMill$Clues", name := "notesFit", desc := "(III)Z" } : Jvm.MethodName) prog_2_method_9_code (6 : Nat) (Option.some Jvm.ClassFile.FieldType.boolean)) ∈ tb := tb_of 778 (by decide +kernel) (by decide +kernel)
theorem ye_X0_notesFit : YE yX0_notesFit cX0_notesFit 6 (some .boolean) 3 := ⟨mt_778, mt_67, by decide +kernel, by decide +kernel, by decide +kernel⟩
theorem mt_791 : (Jvm.Cond.code ({ cls := "GrindMill$Clues", name := "sharpestLook", desc := "(II)I" } : Jvm.MethodName) prog_2_method_12_code (9 : Nat) (Option.some Jvm.ClassFile.FieldType.int)) ∈ tb := tb_of 791 (by decide +kernel) (by decide +kernel)
theorem ye_X0_sharpestLook : YE yX0_sharpestLook cX0_sharpestLook 9 (some .int) 2 := ⟨mt_791, mt_67, by decide +kernel, by decide +kernel, by decide +kernel⟩
theorem mt_723 : (Jvm.Cond.code ({ cls := "GrindMill$Clues", name := "sharpestWord", desc := "()I" } : Jvm.MethodName) prog_2_method_7_code (6 : Nat) (Option.some Jvm.ClassFile.FieldType.int)) ∈ tb := tb_of 723 (by decide +kernel) (by decide +kernel)
theorem ye_X0_sharpestWord : YE yX0_sharpestWord cX0_sharpestWord 6 (some .int) 0 := ⟨mt_723, mt_67, by decide +kernel, by decide +kernel, by decide +kernel⟩
theorem mt_711 : (Jvm.Cond.code ({ cls := "GrindMill$Clues", name := "wordFits", desc := "(I)Z" } : Jvm.MethodName) prog_2_method_5_code (3 : Nat) (Option.some Jvm.ClassFile.FieldType.boolean)) ∈ tb := tb_of 711 (by decide +kernel) (by decide +kernel)
theorem ye_X0_wordFits : YE yX0_wordFits cX0_wordFits 3 (some .boolean) 1 := ⟨mt_711, mt_67, by decide +kernel, by decide +kernel, by decide +kernel⟩
theorem mt_390 : (Jvm.Cond.code ({ cls := "GrindMill$Text", name := "append", desc := "(I)V" } : Jvm.MethodName) prog_12_method_2_code (2 : Nat) (Option.none : Option Jvm.ClassFile.FieldType)) ∈ tb := tb_of 390 (by decide +kernel) (by decide +kernel)
theorem mt_69 : (Jvm.Cond.initialized "GrindMill$Text") ∈ tb := tb_of 69 (by decide +kernel) (by decide +kernel)
theorem ye_X10_append : YE yX10_append cX10_append 2 none 1 := ⟨mt_390, mt_69, by decide +kernel, by decide +kernel, by decide +kernel⟩
theorem mt_480 : (Jvm.Cond.code ({ cls := "GrindMill$Text", name := "failAt", desc := "(I)V" } : Jvm.MethodName) prog_12_method_12_code (2 : Nat) (Option.none : Option Jvm.ClassFile.FieldType)) ∈ tb := tb_of 480 (by decide +kernel) (by decide +kernel)
theorem ye_X10_failAt : YE yX10_failAt cX10_failAt 2 none 1 := ⟨mt_480, mt_69, by decide +kernel, by decide +kernel, by decide +kernel⟩
theorem mt_421 : (Jvm.Cond.code ({ cls := "GrindMill$Text", name := "isNamed", desc := "(ILjava/lang/String;)Z" } : Jvm.MethodName) prog_12_method_11_code (4 : Nat) (Option.some Jvm.ClassFile.FieldType.boolean)) ∈ tb := tb_of 421 (by decide +kernel) (by decide +kernel)
theorem ye_X10_isNamed : YE yX10_isNamed cX10_isNamed 4 (some .boolean) 2 := ⟨mt_421, mt_69, by decide +kernel, by decide +kernel, by decide +kernel⟩
theorem mt_407 : (Jvm.Cond.code ({ cls := "GrindMill$Text", name := "passBlanks", desc := "()V" } : Jvm.MethodName) prog_12_method_9_code (1 : Nat) (Option.none : Option Jvm.ClassFile.FieldType)) ∈ tb := tb_of 407 (by decide +kernel) (by decide +kernel)
theorem ye_X10_passBlanks : YE yX10_passBlanks cX10_passBlanks 1 none 0 := ⟨mt_407, mt_69, by decide +kernel, by decide +kernel, by decide +kernel⟩
theorem mt_415 : (Jvm.Cond.code ({ cls := "GrindMill$Text", name := "passLetters", desc := "()V" } : Jvm.MethodName) prog_12_method_10_code (1 : Nat) (Option.none : Option Jvm.ClassFile.FieldType)) ∈ tb := tb_of 415 (by decide +kernel) (by decide +kernel)
theorem ye_X10_passLetters : YE yX10_passLetters cX10_passLetters 1 none 0 := ⟨mt_415, mt_69, by decide +kernel, by decide +kernel, by decide +kernel⟩
theorem mt_411 : (Jvm.Cond.code ({ cls := "GrindMill$Text", name := "readFirstItem", desc := "(LGrindMill$House;)V" } : Jvm.MethodName) prog_12_method_4_code (3 : Nat) (Option.none : Option Jvm.ClassFile.FieldType)) ∈ tb := tb_of 411 (by decide +kernel) (by decide +kernel)
theorem ye_X10_readFirstItem : YE yX10_readFirstItem cX10_readFirstItem 3 none 1 := ⟨mt_411, mt_69, by decide +kernel, by decide +kernel, by decide +kernel⟩
theorem mt_493 : (Jvm.Cond.code ({ cls := "GrindMill$Text", name := "readGoods", desc := "(LGrindMill$House;I)V" } : Jvm.MethodName) prog_12_method_6_code (6 : Nat) (Option.none : Option Jvm.ClassFile.FieldType)) ∈ tb := tb_of 493 (by decide +kernel) (by decide +kernel)
theorem ye_X10_readGoods : YE yX10_readGoods cX10_readGoods 6 none 2 := ⟨mt_493, mt_69, by decide +kernel, by decide +kernel, by decide +kernel⟩
theorem mt_402 : (Jvm.Cond.code ({ cls := "GrindMill$Text", name := "readInto", desc := "(LGrindMill$House;)I" } : Jvm.MethodName) prog_12_method_3_code (3 : Nat) (Option.some Jvm.ClassFile.FieldType.int)) ∈ tb := tb_of 402 (by decide +kernel) (by decide +kernel)
theorem ye_X10_readInto : YE yX10_readInto cX10_readInto 3 (some .int) 1 := ⟨mt_402, mt_69, by decide +kernel, by decide +kernel, by decide +kernel⟩
theorem mt_484 : (Jvm.Cond.code ({ cls := "GrindMill$Text", name := "readItemsEnd", desc := "()V" } : Jvm.MethodName) prog_12_method_8_code (1 : Nat) (Option.none : Option Jvm.ClassFile.FieldType)) ∈ tb := tb_of 484 (by decide +kernel) (by decide +kernel)
theorem ye_X10_readItemsEnd : YE yX10_readItemsEnd cX10_readItemsEnd 1 none 0 := ⟨mt_484, mt_69, by decide +kernel, by decide +kernel, by decide +kernel⟩
theorem mt_488 : (Jvm.Cond.code ({ cls := "GrindMill$Text", name := "readLaterItem", desc := "(LGrindMill$House;)V" } : Jvm.MethodName) prog_12_method_5_code (3 : Nat) (Option.none : Option Jvm.ClassFile.FieldType)) ∈ tb := tb_of 488 (by decide +kernel) (by decide +kernel)
theorem ye_X10_readLaterItem : YE yX10_readLaterItem cX10_readLaterItem 3 none 1 := ⟨mt_488, mt_69, by decide +kernel, by decide +kernel, by decide +kernel⟩
theorem mt_473 : (Jvm.Cond.code ({ cls := "GrindMill$Text", name := "readNumber", desc := "(II)I" } : Jvm.MethodName) prog_12_method_7_code (6 : Nat) (Option.some Jvm.ClassFile.FieldType.int)) ∈ tb := tb_of 473 (by decide +kernel) (by decide +kernel)
theorem ye_X10_readNumber : YE yX10_readNumber cX10_readNumber 6 (some .int) 2 := ⟨mt_473, mt_69, by decide +kernel, by decide +kernel, by decide +kernel⟩
theorem mt_859 : (Jvm.Cond.code ({ cls := "GrindMill", name := "amountOf", desc := "(I)I" } : Jvm.MethodName) prog_1_method_37_code (2 : Nat) (Option.some Jvm.ClassFile.FieldType.int)) ∈ tb := tb_of 859 (by decide +kernel) (by decide +kernel)
theorem mt_59 : (Jvm.Cond.initialized "GrindMill") ∈ tb := tb_of 59 (by decide +kernel) (by decide +kernel)
theorem ye_X11_amountOf : YE yX11_amountOf cX11_amountOf 2 (some .int) 1 := ⟨mt_859, mt_59, by decide +kernel, by decide +kernel, by decide +kernel⟩
theorem mt_808 : (Jvm.Cond.code ({ cls := "GrindMill", name := "greatestDivisor", desc := "(JJ)J" } : Jvm.MethodName) prog_1_method_44_code (11 : Nat) (Option.some Jvm.ClassFile.FieldType.long)) ∈ tb := tb_of 808 (by decide +kernel) (by decide +kernel)
theorem ye_X11_greatestDivisor : YE yX11_greatestDivisor cX11_greatestDivisor 11 (some .long) 2 := ⟨mt_808, mt_59, by decide +kernel, by decide +kernel, by decide +kernel⟩
theorem mt_382 : (Jvm.Cond.code ({ cls := "GrindMill", name := "isWord", desc := "(I)Z" } : Jvm.MethodName) prog_1_method_41_code (1 : Nat) (Option.some Jvm.ClassFile.FieldType.boolean)) ∈ tb := tb_of 382 (by decide +kernel) (by decide +kernel)
theorem ye_X11_isWord : YE yX11_isWord cX11_isWord 1 (some .boolean) 1 := ⟨mt_382, mt_59, by decide +kernel, by decide +kernel, by decide +kernel⟩
theorem mt_715 : (Jvm.Cond.code ({ cls := "GrindMill", name := "leastIn", desc := "(I)I" } : Jvm.MethodName) prog_1_method_43_code (2 : Nat) (Option.some Jvm.ClassFile.FieldType.int)) ∈ tb := tb_of 715 (by decide +kernel) (by decide +kernel)
theorem ye_X11_leastIn : YE yX11_leastIn cX11_leastIn 2 (some .int) 1 := ⟨mt_715, mt_59, by decide +kernel, by decide +kernel, by decide +kernel⟩
theorem mt_566 : (Jvm.Cond.code ({ cls := "GrindMill", name := "likeLetters", desc := "(II)I" } : Jvm.MethodName) prog_1_method_42_code (2 : Nat) (Option.some Jvm.ClassFile.FieldType.int)) ∈ tb := tb_of 566 (by decide +kernel) (by decide +kernel)
theorem ye_X11_likeLetters : YE yX11_likeLetters cX11_likeLetters 2 (some .int) 2 := ⟨mt_566, mt_59, by decide +kernel, by decide +kernel, by decide +kernel⟩
theorem mt_362 : (Jvm.Cond.code ({ cls := "GrindMill", name := "refuse", desc := "(I)I" } : Jvm.MethodName) prog_1_method_38_code (3 : Nat) (Option.some Jvm.ClassFile.FieldType.int)) ∈ tb := tb_of 362 (by decide +kernel) (by decide +kernel)
theorem ye_X11_refuse : YE yX11_refuse cX11_refuse 3 (some .int) 1 := ⟨mt_362, mt_59, by decide +kernel, by decide +kernel, by decide +kernel⟩
theorem mt_509 : (Jvm.Cond.code ({ cls := "GrindMill", name := "refuseApart", desc := "()I" } : Jvm.MethodName) prog_1_method_39_code (1 : Nat) (Option.some Jvm.ClassFile.FieldType.int)) ∈ tb := tb_of 509 (by decide +kernel) (by decide +kernel)
theorem ye_X11_refuseApart : YE yX11_refuseApart cX11_refuseApart 1 (some .int) 0 := ⟨mt_509, mt_59, by decide +kernel, by decide +kernel, by decide +kernel⟩
theorem mt_358 : (Jvm.Cond.code ({ cls := "GrindMill", name := "within", desc := "(III)Z" } : Jvm.MethodName) prog_1_method_40_code (3 : Nat) (Option.some Jvm.ClassFile.FieldType.boolean)) ∈ tb := tb_of 358 (by decide +kernel) (by decide +kernel)
theorem ye_X11_within : YE yX11_within cX11_within 3 (some .boolean) 3 := ⟨mt_358, mt_59, by decide +kernel, by decide +kernel, by decide +kernel⟩
theorem mt_973 : (Jvm.Cond.code ({ cls := "GrindMillModel", name := "addGoods", desc := "(III)V" } : Jvm.MethodName) prog_14_method_7_code (5 : Nat) (Option.none : Option Jvm.ClassFile.FieldType)) ∈ tb := tb_of 973 (by decide +kernel) (by decide +kernel)
theorem mt_71 : (Jvm.Cond.initialized "GrindMillModel") ∈ tb := tb_of 71 (by decide +kernel) (by decide +kernel)
theorem ye_X12_addGoods : YE yX12_addGoods cX12_addGoods 5 none 3 := ⟨mt_973, mt_71, by decide +kernel, by decide +kernel, by decide +kernel⟩
theorem mt_1067 : (Jvm.Cond.code ({ cls := "GrindMillModel", name := "alike", desc := "(II)I" } : Jvm.MethodName) prog_14_method_32_code (4 : Nat) (Option.some Jvm.ClassFile.FieldType.int)) ∈ tb := tb_of 1067 (by decide +kernel) (by decide +kernel)
theorem ye_X12_alike : YE yX12_alike cX12_alike 4 (some .int) 2 := ⟨mt_1067, mt_71, by decide +kernel, by decide +kernel, by decide +kernel⟩
theorem mt_1037 : (Jvm.Cond.code ({ cls := "GrindMillModel", name := "badTen", desc := "()I" } : Jvm.MethodName) prog_14_method_29_code (1 : Nat) (Option.some Jvm.ClassFile.FieldType.int)) ∈ tb := tb_of 1037 (by decide +kernel) (by decide +kernel)
theorem ye_X12_badTen : YE yX12_badTen cX12_badTen 1 (some .int) 0 := ⟨mt_1037, mt_71, by decide +kernel, by decide +kernel, by decide +kernel⟩
theorem mt_1126 : (Jvm.Cond.code ({ cls := "GrindMillModel", name := "brings", desc := "(II)I" } : Jvm.MethodName) prog_14_method_44_code (6 : Nat) (Option.some Jvm.ClassFile.FieldType.int)) ∈ tb := tb_of 1126 (by decide +kernel) (by decide +kernel)
theorem ye_X12_brings : YE yX12_brings cX12_brings 6 (some .int) 2 := ⟨mt_1126, mt_71, by decide +kernel, by decide +kernel, by decide +kernel⟩
theorem mt_1233 : (Jvm.Cond.code ({ cls := "GrindMillModel", name := "countOf", desc := "(I)I" } : Jvm.MethodName) prog_14_method_70_code (2 : Nat) (Option.some Jvm.ClassFile.FieldType.int)) ∈ tb := tb_of 1233 (by decide +kernel) (by decide +kernel)
theorem ye_X12_countOf : YE yX12_countOf cX12_countOf 2 (some .int) 1 := ⟨mt_1233, mt_71, by decide +kernel, by decide +kernel, by decide +kernel⟩
theorem mt_1078 : (Jvm.Cond.code ({ cls := "GrindMillModel", name := "fetches", desc := "(II)I" } : Jvm.MethodName) prog_14_method_25_code (4 : Nat) (Option.some Jvm.ClassFile.FieldType.int)) ∈ tb := tb_of 1078 (by decide +kernel) (by decide +kernel)
theorem ye_X12_fetches : YE yX12_fetches cX12_fetches 4 (some .int) 2 := ⟨mt_1078, mt_71, by decide +kernel, by decide +kernel, by decide +kernel⟩
theorem mt_1053 : (Jvm.Cond.code ({ cls := "GrindMillModel", name := "ground", desc := "(III)I" } : Jvm.MethodName) prog_14_method_24_code (4 : Nat) (Option.some Jvm.ClassFile.FieldType.int)) ∈ tb := tb_of 1053 (by decide +kernel) (by decide +kernel)
theorem ye_X12_ground : YE yX12_ground cX12_ground 4 (some .int) 3 := ⟨mt_1053, mt_71, by decide +kernel, by decide +kernel, by decide +kernel⟩
theorem mt_1056 : (Jvm.Cond.code ({ cls := "GrindMillModel", name := "groundBy", desc := "(IIII)I" } : Jvm.MethodName) prog_14_method_23_code (5 : Nat) (Option.some Jvm.ClassFile.FieldType.int)) ∈ tb := tb_of 1056 (by decide +kernel) (by decide +kernel)
theorem ye_X12_groundBy : YE yX12_groundBy cX12_groundBy 5 (some .int) 4 := ⟨mt_1056, mt_71, by decide +kernel, by decide +kernel, by decide +kernel⟩
theorem mt_1070 : (Jvm.Cond.code ({ cls := "GrindMillModel", name := "has", desc := "(II)Z" } : Jvm.MethodName) prog_14_method_3_code (2 : Nat) (Option.some Jvm.ClassFile.FieldType.boolean)) ∈ tb := tb_of 1070 (by decide +kernel) (by decide +kernel)
theorem ye_X12_has : YE yX12_has cX12_has 2 (some .boolean) 2 := ⟨mt_1070, mt_71, by decide +kernel, by decide +kernel, by decide +kernel⟩
theorem mt_961 : (Jvm.Cond.code ({ cls := "GrindMillModel", name := "in", desc := "(III)Z" } : Jvm.MethodName) prog_14_method_2_code (3 : Nat) (Option.some Jvm.ClassFile.FieldType.boolean)) ∈ tb := tb_of 961 (by decide +kernel) (by decide +kernel)
theorem ye_X12_in : YE yX12_in cX12_in 3 (some .boolean) 3 := ⟨mt_961, mt_71, by decide +kernel, by decide +kernel, by decide +kernel⟩
theorem mt_1060 : (Jvm.Cond.code ({ cls := "GrindMillModel", name := "inHouse", desc := "(I)I" } : Jvm.MethodName) prog_14_method_26_code (4 : Nat) (Option.some Jvm.ClassFile.FieldType.int)) ∈ tb := tb_of 1060 (by decide +kernel) (by decide +kernel)
theorem ye_X12_inHouse : YE yX12_inHouse cX12_inHouse 4 (some .int) 1 := ⟨mt_1060, mt_71, by decide +kernel, by decide +kernel, by decide +kernel⟩
theorem mt_1005 : (Jvm.Cond.code ({ cls := "GrindMillModel", name := "isFigure", desc := "(I)Z" } : Jvm.MethodName) prog_14_method_13_code (2 : Nat) (Option.some Jvm.ClassFile.FieldType.boolean)) ∈ tb := tb_of 1005 (by decide +kernel) (by decide +kernel)
theorem ye_X12_isFigure : YE yX12_isFigure cX12_isFigure 2 (some .boolean) 1 := ⟨mt_1005, mt_71, by decide +kernel, by decide +kernel, by decide +kernel⟩
theorem mt_1033 : (Jvm.Cond.code ({ cls := "GrindMillModel", name := "isGoods", desc := "(I)Z" } : Jvm.MethodName) prog_14_method_22_code (2 : Nat) (Option.some Jvm.ClassFile.FieldType.boolean)) ∈ tb := tb_of 1033 (by decide +kernel) (by decide +kernel)
theorem ye_X12_isGoods : YE yX12_isGoods cX12_isGoods 2 (some .boolean) 1 := ⟨mt_1033, mt_71, by decide +kernel, by decide +kernel, by decide +kernel⟩
theorem mt_1001 : (Jvm.Cond.code ({ cls := "GrindMillModel", name := "isLetter", desc := "(I)Z" } : Jvm.MethodName) prog_14_method_12_code (2 : Nat) (Option.some Jvm.ClassFile.FieldType.boolean)) ∈ tb := tb_of 1001 (by decide +kernel) (by decide +kernel)
theorem ye_X12_isLetter : YE yX12_isLetter cX12_isLetter 2 (some .boolean) 1 := ⟨mt_1001, mt_71, by decide +kernel, by decide +kernel, by decide +kernel⟩
theorem mt_1182 : (Jvm.Cond.code ({ cls := "GrindMillModel", name := "isNoted", desc := "(III)Z" } : Jvm.MethodName) prog_14_method_58_code (7 : Nat) (Option.some Jvm.ClassFile.FieldType.boolean)) ∈ tb := tb_of 1182 (by decide +kernel) (by decide +kernel)
theorem ye_X12_isNoted : YE yX12_isNoted cX12_isNoted 7 (some .boolean) 3 := ⟨mt_1182, mt_71, by decide +kernel, by decide +kernel, by decide +kernel⟩
theorem mt_1013 : (Jvm.Cond.code ({ cls := "GrindMillModel", name := "isWord", desc := "(I)Z" } : Jvm.MethodName) prog_14_method_15_code (5 : Nat) (Option.some Jvm.ClassFile.FieldType.boolean)) ∈ tb := tb_of 1013 (by decide +kernel) (by decide +kernel)
theorem ye_X12_isWord : YE yX12_isWord cX12_isWord 5 (some .boolean) 1 := ⟨mt_1013, mt_71, by decide +kernel, by decide +kernel, by decide +kernel⟩
theorem mt_1041 : (Jvm.Cond.code ({ cls := "GrindMillModel", name := "keepPast", desc := "()V" } : Jvm.MethodName) prog_14_method_28_code (2 : Nat) (Option.none : Option Jvm.ClassFile.FieldType)) ∈ tb := tb_of 1041 (by decide +kernel) (by decide +kernel)
theorem ye_X12_keepPast : YE yX12_keepPast cX12_keepPast 2 none 0 := ⟨mt_1041, mt_71, by decide +kernel, by decide +kernel, by decide +kernel⟩
theorem mt_1178 : (Jvm.Cond.code ({ cls := "GrindMillModel", name := "kindsOf", desc := "(I)I" } : Jvm.MethodName) prog_14_method_59_code (4 : Nat) (Option.some Jvm.ClassFile.FieldType.int)) ∈ tb := tb_of 1178 (by decide +kernel) (by decide +kernel)
theorem ye_X12_kindsOf : YE yX12_kindsOf cX12_kindsOf 4 (some .int) 1 := ⟨mt_1178, mt_71, by decide +kernel, by decide +kernel, by decide +kernel⟩
theorem mt_1114 : (Jvm.Cond.code ({ cls := "GrindMillModel", name := "layFewest", desc := "(I)V" } : Jvm.MethodName) prog_14_method_42_code (7 : Nat) (Option.none : Option Jvm.ClassFile.FieldType)) ∈ tb := tb_of 1114 (by decide +kernel) (by decide +kernel)
theorem ye_X12_layFewest : YE yX12_layFewest cX12_layFewest 7 none 1 := ⟨mt_1114, mt_71, by decide +kernel, by decide +kernel, by decide +kernel⟩
theorem mt_890 : (Jvm.Cond.code ({ cls := "GrindMillModel", name := "layMill", desc := "(I)V" } : Jvm.MethodName) prog_14_method_5_code (3 : Nat) (Option.none : Option Jvm.ClassFile.FieldType)) ∈ tb := tb_of 890 (by decide +kernel) (by decide +kernel)
theorem ye_X12_layMill : YE yX12_layMill cX12_layMill 3 none 1 := ⟨mt_890, mt_71, by decide +kernel, by decide +kernel, by decide +kernel⟩
theorem mt_1122 : (Jvm.Cond.code ({ cls := "GrindMillModel", name := "layRichest", desc := "(I)V" } : Jvm.MethodName) prog_14_method_45_code (7 : Nat) (Option.none : Option Jvm.ClassFile.FieldType)) ∈ tb := tb_of 1122 (by decide +kernel) (by decide +kernel)
theorem ye_X12_layRichest : YE yX12_layRichest cX12_layRichest 7 none 1 := ⟨mt_1122, mt_71, by decide +kernel, by decide +kernel, by decide +kernel⟩
theorem mt_1158 : (Jvm.Cond.code ({ cls := "GrindMillModel", name := "layStreet", desc := "(I)V" } : Jvm.MethodName) prog_14_method_53_code (9 : Nat) (Option.none : Option Jvm.ClassFile.FieldType)) ∈ tb := tb_of 1158 (by decide +kernel) (by decide +kernel)
theorem ye_X12_layStreet : YE yX12_layStreet cX12_layStreet 9 none 1 := ⟨mt_1158, mt_71, by decide +kernel, by decide +kernel, by decide +kernel⟩
theorem mt_1102 : (Jvm.Cond.code ({ cls := "GrindMillModel", name := "layTried", desc := "()V" } : Jvm.MethodName) prog_14_method_39_code (2 : Nat) (Option.none : Option Jvm.ClassFile.FieldType)) ∈ tb := tb_of 1102 (by decide +kernel) (by decide +kernel)
theorem ye_X12_layTried : YE yX12_layTried cX12_layTried 2 none 0 := ⟨mt_1102, mt_71, by decide +kernel, by decide +kernel, by decide +kernel⟩
theorem mt_1142 : (Jvm.Cond.code ({ cls := "GrindMillModel", name := "mayBe", desc := "(I)Z" } : Jvm.MethodName) prog_14_method_49_code (4 : Nat) (Option.some Jvm.ClassFile.FieldType.boolean)) ∈ tb := tb_of 1142 (by decide +kernel) (by decide +kernel)
theorem ye_X12_mayBe : YE yX12_mayBe cX12_mayBe 4 (some .boolean) 1 := ⟨mt_1142, mt_71, by decide +kernel, by decide +kernel, by decide +kernel⟩
theorem mt_1150 : (Jvm.Cond.code ({ cls := "GrindMillModel", name := "mostAlike", desc := "(I)I" } : Jvm.MethodName) prog_14_method_51_code (5 : Nat) (Option.some Jvm.ClassFile.FieldType.int)) ∈ tb := tb_of 1150 (by decide +kernel) (by decide +kernel)
theorem ye_X12_mostAlike : YE yX12_mostAlike cX12_mostAlike 5 (some .int) 1 := ⟨mt_1150, mt_71, by decide +kernel, by decide +kernel, by decide +kernel⟩
theorem mt_1190 : (Jvm.Cond.code ({ cls := "GrindMillModel", name := "mostKinds", desc := "(IIII)I" } : Jvm.MethodName) prog_14_method_61_code (9 : Nat) (Option.some Jvm.ClassFile.FieldType.int)) ∈ tb := tb_of 1190 (by decide +kernel) (by decide +kernel)
theorem ye_X12_mostKinds : YE yX12_mostKinds cX12_mostKinds 9 (some .int) 4 := ⟨mt_1190, mt_71, by decide +kernel, by decide +kernel, by decide +kernel⟩
theorem mt_997 : (Jvm.Cond.code ({ cls := "GrindMillModel", name := "next", desc := "()V" } : Jvm.MethodName) prog_14_method_14_code (1 : Nat) (Option.none : Option Jvm.ClassFile.FieldType)) ∈ tb := tb_of 997 (by decide +kernel) (by decide +kernel)
theorem ye_X12_next : YE yX12_next cX12_next 1 none 0 := ⟨mt_997, mt_71, by decide +kernel, by decide +kernel, by decide +kernel⟩
theorem mt_1021 : (Jvm.Cond.code ({ cls := "GrindMillModel", name := "number", desc := "(II)I" } : Jvm.MethodName) prog_14_method_17_code (4 : Nat) (Option.some Jvm.ClassFile.FieldType.int)) ∈ tb := tb_of 1021 (by decide +kernel) (by decide +kernel)
theorem ye_X12_number : YE yX12_number cX12_number 4 (some .int) 2 := ⟨mt_1021, mt_71, by decide +kernel, by decide +kernel, by decide +kernel⟩
theorem mt_1049 : (Jvm.Cond.code ({ cls := "GrindMillModel", name := "pass", desc := "(II)I" } : Jvm.MethodName) prog_14_method_27_code (6 : Nat) (Option.some Jvm.ClassFile.FieldType.int)) ∈ tb := tb_of 1049 (by decide +kernel) (by decide +kernel)
theorem ye_X12_pass : YE yX12_pass cX12_pass 6 (some .int) 2 := ⟨mt_1049, mt_71, by decide +kernel, by decide +kernel, by decide +kernel⟩
theorem mt_993 : (Jvm.Cond.code ({ cls := "GrindMillModel", name := "readItems", desc := "()I" } : Jvm.MethodName) prog_14_method_20_code (3 : Nat) (Option.some Jvm.ClassFile.FieldType.int)) ∈ tb := tb_of 993 (by decide +kernel) (by decide +kernel)
theorem ye_X12_readItems : YE yX12_readItems cX12_readItems 3 (some .int) 0 := ⟨mt_993, mt_71, by decide +kernel, by decide +kernel, by decide +kernel⟩
theorem mt_1025 : (Jvm.Cond.code ({ cls := "GrindMillModel", name := "readsGoods", desc := "()Z" } : Jvm.MethodName) prog_14_method_18_code (4 : Nat) (Option.some Jvm.ClassFile.FieldType.boolean)) ∈ tb := tb_of 1025 (by decide +kernel) (by decide +kernel)
theorem ye_X12_readsGoods : YE yX12_readsGoods cX12_readsGoods 4 (some .boolean) 0 := ⟨mt_1025, mt_71, by decide +kernel, by decide +kernel, by decide +kernel⟩
theorem mt_1017 : (Jvm.Cond.code ({ cls := "GrindMillModel", name := "readsItem", desc := "(I)Z" } : Jvm.MethodName) prog_14_method_19_code (3 : Nat) (Option.some Jvm.ClassFile.FieldType.boolean)) ∈ tb := tb_of 1017 (by decide +kernel) (by decide +kernel)
theorem ye_X12_readsItem : YE yX12_readsItem cX12_readsItem 3 (some .boolean) 1 := ⟨mt_1017, mt_71, by decide +kernel, by decide +kernel, by decide +kernel⟩
theorem mt_965 : (Jvm.Cond.code ({ cls := "GrindMillModel", name := "refuse", desc := "(I)I" } : Jvm.MethodName) prog_14_method_4_code (2 : Nat) (Option.some Jvm.ClassFile.FieldType.int)) ∈ tb := tb_of 965 (by decide +kernel) (by decide +kernel)
theorem ye_X12_refuse : YE yX12_refuse cX12_refuse 2 (some .int) 1 := ⟨mt_965, mt_71, by decide +kernel, by decide +kernel, by decide +kernel⟩
theorem mt_1162 : (Jvm.Cond.code ({ cls := "GrindMillModel", name := "rests", desc := "(II)Z" } : Jvm.MethodName) prog_14_method_54_code (5 : Nat) (Option.some Jvm.ClassFile.FieldType.boolean)) ∈ tb := tb_of 1162 (by decide +kernel) (by decide +kernel)
theorem ye_X12_rests : YE yX12_rests cX12_rests 5 (some .boolean) 2 := ⟨mt_1162, mt_71, by decide +kernel, by decide +kernel, by decide +kernel⟩
theorem mt_1199 : (Jvm.Cond.code ({ cls := "GrindMillModel", name := "tellPart", desc := "(JJ)V" } : Jvm.MethodName) prog_14_method_63_code (11 : Nat) (Option.none : Option Jvm.ClassFile.FieldType)) ∈ tb := tb_of 1199 (by decide +kernel) (by decide +kernel)
theorem ye_X12_tellPart : YE yX12_tellPart cX12_tellPart 11 none 2 := ⟨mt_1199, mt_71, by decide +kernel, by decide +kernel, by decide +kernel⟩
theorem mt_1009 : (Jvm.Cond.code ({ cls := "GrindMillModel", name := "wordHere", desc := "()I" } : Jvm.MethodName) prog_14_method_16_code (2 : Nat) (Option.some Jvm.ClassFile.FieldType.int)) ∈ tb := tb_of 1009 (by decide +kernel) (by decide +kernel)
theorem ye_X12_wordHere : YE yX12_wordHere cX12_wordHere 2 (some .int) 0 := ⟨mt_1009, mt_71, by decide +kernel, by decide +kernel, by decide +kernel⟩
theorem mt_375 : (Jvm.Cond.code ({ cls := "GrindMill$Goods", name := "become", desc := "(III)V" } : Jvm.MethodName) prog_3_method_2_code (4 : Nat) (Option.none : Option Jvm.ClassFile.FieldType)) ∈ tb := tb_of 375 (by decide +kernel) (by decide +kernel)
theorem mt_68 : (Jvm.Cond.initialized "GrindMill$Goods") ∈ tb := tb_of 68 (by decide +kernel) (by decide +kernel)
theorem ye_X1_become : YE yX1_become cX1_become 4 none 3 := ⟨mt_375, mt_68, by decide +kernel, by decide +kernel, by decide +kernel⟩
theorem mt_837 : (Jvm.Cond.code ({ cls := "GrindMill$Goods", name := "copyFrom", desc := "(LGrindMill$Goods;)V" } : Jvm.MethodName) prog_3_method_3_code (2 : Nat) (Option.none : Option Jvm.ClassFile.FieldType)) ∈ tb := tb_of 837 (by decide +kernel) (by decide +kernel)
theorem ye_X1_copyFrom : YE yX1_copyFrom cX1_copyFrom 2 none 1 := ⟨mt_837, mt_68, by decide +kernel, by decide +kernel, by decide +kernel⟩
theorem mt_584 : (Jvm.Cond.code ({ cls := "GrindMill$Goods", name := "fetchedBy", desc := "(II)I" } : Jvm.MethodName) prog_3_method_6_code (5 : Nat) (Option.some Jvm.ClassFile.FieldType.int)) ∈ tb := tb_of 584 (by decide +kernel) (by decide +kernel)
theorem ye_X1_fetchedBy : YE yX1_fetchedBy cX1_fetchedBy 5 (some .int) 2 := ⟨mt_584, mt_68, by decide +kernel, by decide +kernel, by decide +kernel⟩
theorem mt_588 : (Jvm.Cond.code ({ cls := "GrindMill$Goods", name := "fetchesWhen", desc := "(I)I" } : Jvm.MethodName) prog_3_method_5_code (2 : Nat) (Option.some Jvm.ClassFile.FieldType.int)) ∈ tb := tb_of 588 (by decide +kernel) (by decide +kernel)
theorem ye_X1_fetchesWhen : YE yX1_fetchesWhen cX1_fetchesWhen 2 (some .int) 1 := ⟨mt_588, mt_68, by decide +kernel, by decide +kernel, by decide +kernel⟩
theorem mt_580 : (Jvm.Cond.code ({ cls := "GrindMill$Goods", name := "giveAway", desc := "(I)I" } : Jvm.MethodName) prog_3_method_7_code (3 : Nat) (Option.some Jvm.ClassFile.FieldType.int)) ∈ tb := tb_of 580 (by decide +kernel) (by decide +kernel)
theorem ye_X1_giveAway : YE yX1_giveAway cX1_giveAway 3 (some .int) 1 := ⟨mt_580, mt_68, by decide +kernel, by decide +kernel, by decide +kernel⟩
theorem mt_533 : (Jvm.Cond.code ({ cls := "GrindMill$Goods", name := "groundIn", desc := "(II)I" } : Jvm.MethodName) prog_3_method_4_code (3 : Nat) (Option.some Jvm.ClassFile.FieldType.int)) ∈ tb := tb_of 533 (by decide +kernel) (by decide +kernel)
theorem ye_X1_groundIn : YE yX1_groundIn cX1_groundIn 3 (some .int) 2 := ⟨mt_533, mt_68, by decide +kernel, by decide +kernel, by decide +kernel⟩
theorem mt_874 : (Jvm.Cond.code ({ cls := "GrindMill$Goods", name := "mixInto", desc := "(J)J" } : Jvm.MethodName) prog_3_method_8_code (5 : Nat) (Option.some Jvm.ClassFile.FieldType.long)) ∈ tb := tb_of 874 (by decide +kernel) (by decide +kernel)
theorem ye_X1_mixInto : YE yX1_mixInto cX1_mixInto 5 (some .long) 1 := ⟨mt_874, mt_68, by decide +kernel, by decide +kernel, by decide +kernel⟩
theorem mt_371 : (Jvm.Cond.code ({ cls := "GrindMill$House", name := "addGoods", desc := "(III)V" } : Jvm.MethodName) prog_4_method_5_code (4 : Nat) (Option.none : Option Jvm.ClassFile.FieldType)) ∈ tb := tb_of 371 (by decide +kernel) (by decide +kernel)
theorem mt_66 : (Jvm.Cond.initialized "GrindMill$House") ∈ tb := tb_of 66 (by decide +kernel) (by decide +kernel)
theorem ye_X2_addGoods : YE yX2_addGoods cX2_addGoods 4 none 3 := ⟨mt_371, mt_66, by decide +kernel, by decide +kernel, by decide +kernel⟩
theorem mt_558 : (Jvm.Cond.code ({ cls := "GrindMill$House", name := "allBushels", desc := "()I" } : Jvm.MethodName) prog_4_method_6_code (3 : Nat) (Option.some Jvm.ClassFile.FieldType.int)) ∈ tb := tb_of 558 (by decide +kernel) (by decide +kernel)
theorem ye_X2_allBushels : YE yX2_allBushels cX2_allBushels 3 (some .int) 0 := ⟨mt_558, mt_66, by decide +kernel, by decide +kernel, by decide +kernel⟩
theorem mt_833 : (Jvm.Cond.code ({ cls := "GrindMill$House", name := "copyFrom", desc := "(LGrindMill$House;)V" } : Jvm.MethodName) prog_4_method_3_code (3 : Nat) (Option.none : Option Jvm.ClassFile.FieldType)) ∈ tb := tb_of 833 (by decide +kernel) (by decide +kernel)
theorem ye_X2_copyFrom : YE yX2_copyFrom cX2_copyFrom 3 none 1 := ⟨mt_833, mt_66, by decide +kernel, by decide +kernel, by decide +kernel⟩
theorem mt_620 : (Jvm.Cond.code ({ cls := "GrindMill$House", name := "goBack", desc := "()V" } : Jvm.MethodName) prog_4_method_11_code (3 : Nat) (Option.none : Option Jvm.ClassFile.FieldType)) ∈ tb := tb_of 620 (by decide +kernel) (by decide +kernel)
theorem ye_X2_goBack : YE yX2_goBack cX2_goBack 3 none 0 := ⟨mt_620, mt_66, by decide +kernel, by decide +kernel, by decide +kernel⟩
theorem mt_528 : (Jvm.Cond.code ({ cls := "GrindMill$House", name := "groundBy", desc := "(II)I" } : Jvm.MethodName) prog_4_method_7_code (3 : Nat) (Option.some Jvm.ClassFile.FieldType.int)) ∈ tb := tb_of 528 (by decide +kernel) (by decide +kernel)
theorem ye_X2_groundBy : YE yX2_groundBy cX2_groundBy 3 (some .int) 2 := ⟨mt_528, mt_66, by decide +kernel, by decide +kernel, by decide +kernel⟩
theorem mt_638 : (Jvm.Cond.code ({ cls := "GrindMill$House", name := "groundWithin", desc := "(II)I" } : Jvm.MethodName) prog_4_method_8_code (5 : Nat) (Option.some Jvm.ClassFile.FieldType.int)) ∈ tb := tb_of 638 (by decide +kernel) (by decide +kernel)
theorem ye_X2_groundWithin : YE yX2_groundWithin cX2_groundWithin 5 (some .int) 2 := ⟨mt_638, mt_66, by decide +kernel, by decide +kernel, by decide +kernel⟩
theorem mt_505 : (Jvm.Cond.code ({ cls := "GrindMill$House", name := "has", desc := "(I)Z" } : Jvm.MethodName) prog_4_method_4_code (2 : Nat) (Option.some Jvm.ClassFile.FieldType.boolean)) ∈ tb := tb_of 505 (by decide +kernel) (by decide +kernel)
theorem ye_X2_has : YE yX2_has cX2_has 2 (some .boolean) 1 := ⟨mt_505, mt_66, by decide +kernel, by decide +kernel, by decide +kernel⟩
theorem mt_869 : (Jvm.Cond.code ({ cls := "GrindMill$House", name := "mixInto", desc := "(J)J" } : Jvm.MethodName) prog_4_method_12_code (6 : Nat) (Option.some Jvm.ClassFile.FieldType.long)) ∈ tb := tb_of 869 (by decide +kernel) (by decide +kernel)
theorem ye_X2_mixInto : YE yX2_mixInto cX2_mixInto 6 (some .long) 1 := ⟨mt_869, mt_66, by decide +kernel, by decide +kernel, by decide +kernel⟩
theorem mt_524 : (Jvm.Cond.code ({ cls := "GrindMill$House", name := "passHour", desc := "()I" } : Jvm.MethodName) prog_4_method_9_code (3 : Nat) (Option.some Jvm.ClassFile.FieldType.int)) ∈ tb := tb_of 524 (by decide +kernel) (by decide +kernel)
theorem ye_X2_passHour : YE yX2_passHour cX2_passHour 3 (some .int) 0 := ⟨mt_524, mt_66, by decide +kernel, by decide +kernel, by decide +kernel⟩
theorem mt_513 : (Jvm.Cond.code ({ cls := "GrindMill$House", name := "remember", desc := "()V" } : Jvm.MethodName) prog_4_method_10_code (3 : Nat) (Option.none : Option Jvm.ClassFile.FieldType)) ∈ tb := tb_of 513 (by decide +kernel) (by decide +kernel)
theorem ye_X2_remember : YE yX2_remember cX2_remember 3 none 0 := ⟨mt_513, mt_66, by decide +kernel, by decide +kernel, by decide +kernel⟩
theorem mt_209 : (Jvm.Cond.code ({ cls := "GrindMill$House", name := "startAnew", desc := "(I)V" } : Jvm.MethodName) prog_4_method_2_code (2 : Nat) (Option.none : Option Jvm.ClassFile.FieldType)) ∈ tb := tb_of 209 (by decide +kernel) (by decide +kernel)
theorem ye_X2_startAnew : YE yX2_startAnew cX2_startAnew 2 none 1 := ⟨mt_209, mt_66, by decide +kernel, by decide +kernel, by decide +kernel⟩
theorem mt_599 : (Jvm.Cond.code ({ cls := "GrindMill$Peace", name := "fetches", desc := "(II)I" } : Jvm.MethodName) prog_7_method_2_code (3 : Nat) (Option.some Jvm.ClassFile.FieldType.int)) ∈ tb := tb_of 599 (by decide +kernel) (by decide +kernel)
theorem ye_X5_fetches : YE yX5_fetches cX5_fetches 3 (some .int) 2 := ⟨mt_599, mt_62, by decide +kernel, by decide +kernel, by decide +kernel⟩
theorem ye_X6_fetches : YE yX6_fetches cX6_fetches 4 (some .int) 2 := ⟨mt_608, mt_60, by decide +kernel, by decide +kernel, by decide +kernel⟩
theorem ye_X6_ground : YE yX6_ground cX6_ground 4 (some .int) 3 := ⟨mt_554, mt_60, by decide +kernel, by decide +kernel, by decide +kernel⟩
theorem mt_653 : (Jvm.Cond.code ({ cls := "GrindMill$Plans", name := "fewestHours", desc := "(LGrindMill$House;I)I" } : Jvm.MethodName) prog_9_method_2_code (6 : Nat) (Option.some Jvm.ClassFile.FieldType.int)) ∈ tb := tb_of 653 (by decide +kernel) (by decide +kernel)
theorem mt_70 : (Jvm.Cond.initialized "GrindMill$Plans") ∈ tb := tb_of 70 (by decide +kernel) (by decide +kernel)
theorem ye_X7_fewestHours : YE yX7_fewestHours cX7_fewestHours 6 (some .int) 2 := ⟨mt_653, mt_70, by decide +kernel, by decide +kernel, by decide +kernel⟩
theorem mt_662 : (Jvm.Cond.code ({ cls := "GrindMill$Plans", name := "fillFewest", desc := "(II)V" } : Jvm.MethodName) prog_9_method_4_code (5 : Nat) (Option.none : Option Jvm.ClassFile.FieldType)) ∈ tb := tb_of 662 (by decide +kernel) (by decide +kernel)
theorem ye_X7_fillFewest : YE yX7_fillFewest cX7_fillFewest 5 none 2 := ⟨mt_662, mt_70, by decide +kernel, by decide +kernel, by decide +kernel⟩
theorem mt_679 : (Jvm.Cond.code ({ cls := "GrindMill$Plans", name := "fillGains", desc := "(LGrindMill$House;I)V" } : Jvm.MethodName) prog_9_method_8_code (7 : Nat) (Option.none : Option Jvm.ClassFile.FieldType)) ∈ tb := tb_of 679 (by decide +kernel) (by decide +kernel)
theorem ye_X7_fillGains : YE yX7_fillGains cX7_fillGains 7 none 2 := ⟨mt_679, mt_70, by decide +kernel, by decide +kernel, by decide +kernel⟩
theorem mt_684 : (Jvm.Cond.code ({ cls := "GrindMill$Plans", name := "fillMost", desc := "(II)V" } : Jvm.MethodName) prog_9_method_7_code (6 : Nat) (Option.none : Option Jvm.ClassFile.FieldType)) ∈ tb := tb_of 684 (by decide +kernel) (by decide +kernel)
theorem ye_X7_fillMost : YE yX7_fillMost cX7_fillMost 6 none 2 := ⟨mt_684, mt_70, by decide +kernel, by decide +kernel, by decide +kernel⟩
theorem mt_741 : (Jvm.Cond.code ({ cls := "GrindMill$Plans", name := "fillStreet", desc := "(LGrindMill$House;I)V" } : Jvm.MethodName) prog_9_method_10_code (8 : Nat) (Option.none : Option Jvm.ClassFile.FieldType)) ∈ tb := tb_of 741 (by decide +kernel) (by decide +kernel)
theorem ye_X7_fillStreet : YE yX7_fillStreet cX7_fillStreet 8 none 2 := ⟨mt_741, mt_70, by decide +kernel, by decide +kernel, by decide +kernel⟩
theorem mt_657 : (Jvm.Cond.code ({ cls := "GrindMill$Plans", name := "fillYields", desc := "(LGrindMill$House;)V" } : Jvm.MethodName) prog_9_method_3_code (3 : Nat) (Option.none : Option Jvm.ClassFile.FieldType)) ∈ tb := tb_of 657 (by decide +kernel) (by decide +kernel)
theorem ye_X7_fillYields : YE yX7_fillYields cX7_fillYields 3 none 1 := ⟨mt_657, mt_70, by decide +kernel, by decide +kernel, by decide +kernel⟩
theorem mt_750 : (Jvm.Cond.code ({ cls := "GrindMill$Plans", name := "firstHas", desc := "(II)I" } : Jvm.MethodName) prog_9_method_12_code (3 : Nat) (Option.some Jvm.ClassFile.FieldType.int)) ∈ tb := tb_of 750 (by decide +kernel) (by decide +kernel)
theorem ye_X7_firstHas : YE yX7_firstHas cX7_firstHas 3 (some .int) 2 := ⟨mt_750, mt_70, by decide +kernel, by decide +kernel, by decide +kernel⟩
theorem mt_675 : (Jvm.Cond.code ({ cls := "GrindMill$Plans", name := "mostMoney", desc := "(LGrindMill$House;I)I" } : Jvm.MethodName) prog_9_method_6_code (6 : Nat) (Option.some Jvm.ClassFile.FieldType.int)) ∈ tb := tb_of 675 (by decide +kernel) (by decide +kernel)
theorem ye_X7_mostMoney : YE yX7_mostMoney cX7_mostMoney 6 (some .int) 2 := ⟨mt_675, mt_70, by decide +kernel, by decide +kernel, by decide +kernel⟩
theorem mt_746 : (Jvm.Cond.code ({ cls := "GrindMill$Plans", name := "pairRests", desc := "(III)Z" } : Jvm.MethodName) prog_9_method_11_code (5 : Nat) (Option.some Jvm.ClassFile.FieldType.boolean)) ∈ tb := tb_of 746 (by decide +kernel) (by decide +kernel)
theorem ye_X7_pairRests : YE yX7_pairRests cX7_pairRests 5 (some .boolean) 3 := ⟨mt_746, mt_70, by decide +kernel, by decide +kernel, by decide +kernel⟩
theorem mt_737 : (Jvm.Cond.code ({ cls := "GrindMill$Plans", name := "restingPairs", desc := "(LGrindMill$House;II)I" } : Jvm.MethodName) prog_9_method_9_code (7 : Nat) (Option.some Jvm.ClassFile.FieldType.int)) ∈ tb := tb_of 737 (by decide +kernel) (by decide +kernel)
theorem ye_X7_restingPairs : YE yX7_restingPairs cX7_restingPairs 7 (some .int) 3 := ⟨mt_737, mt_70, by decide +kernel, by decide +kernel, by decide +kernel⟩
theorem mt_754 : (Jvm.Cond.code ({ cls := "GrindMill$Plans", name := "secondHas", desc := "(II)I" } : Jvm.MethodName) prog_9_method_13_code (3 : Nat) (Option.some Jvm.ClassFile.FieldType.int)) ∈ tb := tb_of 754 (by decide +kernel) (by decide +kernel)
theorem ye_X7_secondHas : YE yX7_secondHas cX7_secondHas 3 (some .int) 2 := ⟨mt_754, mt_70, by decide +kernel, by decide +kernel, by decide +kernel⟩
theorem mt_667 : (Jvm.Cond.code ({ cls := "GrindMill$Plans", name := "staysFewest", desc := "(II)Z" } : Jvm.MethodName) prog_9_method_5_code (3 : Nat) (Option.some Jvm.ClassFile.FieldType.boolean)) ∈ tb := tb_of 667 (by decide +kernel) (by decide +kernel)
theorem ye_X7_staysFewest : YE yX7_staysFewest cX7_staysFewest 3 (some .boolean) 2 := ⟨mt_667, mt_70, by decide +kernel, by decide +kernel, by decide +kernel⟩
theorem mt_551 : (Jvm.Cond.code ({ cls := "GrindMill$Slow", name := "ground", desc := "(III)I" } : Jvm.MethodName) prog_11_method_2_code (5 : Nat) (Option.some Jvm.ClassFile.FieldType.int)) ∈ tb := tb_of 551 (by decide +kernel) (by decide +kernel)
theorem ye_X9_ground : YE yX9_ground cX9_ground 5 (some .int) 3 := ⟨mt_551, mt_61, by decide +kernel, by decide +kernel, by decide +kernel⟩
theorem mt_540 : (Jvm.Cond.code ({ cls := "GrindMill$Mills", name := "ground", desc := "(III)I" } : Jvm.MethodName) prog_5_method_2_code (4 : Nat) (Option.some Jvm.ClassFile.FieldType.int)) ∈ tb := tb_of 540 (by decide +kernel) (by decide +kernel)
theorem ye_X3_ground : YE yX3_ground cX3_ground 4 (some .int) 3 := ⟨mt_540, mt_63, by decide +kernel, by decide +kernel, by decide +kernel⟩
theorem mt_544 : (Jvm.Cond.code ({ cls := "GrindMill$Nothing", name := "ground", desc := "(III)I" } : Jvm.MethodName) prog_6_method_2_code (4 : Nat) (Option.some Jvm.ClassFile.FieldType.int)) ∈ tb := tb_of 544 (by decide +kernel) (by decide +kernel)
theorem ye_X4_ground : YE yX4_ground cX4_ground 4 (some .int) 3 := ⟨mt_544, mt_65, by decide +kernel, by decide +kernel, by decide +kernel⟩
theorem mt_548 : (Jvm.Cond.code ({ cls := "GrindMill$Salt", name := "ground", desc := "(III)I" } : Jvm.MethodName) prog_10_method_2_code (4 : Nat) (Option.some Jvm.ClassFile.FieldType.int)) ∈ tb := tb_of 548 (by decide +kernel) (by decide +kernel)
theorem ye_X8_ground : YE yX8_ground cX8_ground 4 (some .int) 3 := ⟨mt_548, mt_64, by decide +kernel, by decide +kernel, by decide +kernel⟩
theorem mt_596 : (Jvm.Cond.code ({ cls := "GrindMill$Nothing", name := "fetches", desc := "(II)I" } : Jvm.MethodName) prog_6_method_3_code (3 : Nat) (Option.some Jvm.ClassFile.FieldType.int)) ∈ tb := tb_of 596 (by decide +kernel) (by decide +kernel)
theorem ye_X4_fetches : YE yX4_fetches cX4_fetches 3 (some .int) 2 := ⟨mt_596, mt_65, by decide +kernel, by decide +kernel, by decide +kernel⟩
theorem mt_603 : (Jvm.Cond.code ({ cls := "GrindMill$Salt", name := "fetches", desc := "(II)I" } : Jvm.MethodName) prog_10_method_3_code (3 : Nat) (Option.some Jvm.ClassFile.FieldType.int)) ∈ tb := tb_of 603 (by decide +kernel) (by decide +kernel)
theorem ye_X8_fetches : YE yX8_fetches cX8_fetches 3 (some .int) 2 := ⟨mt_603, mt_64, by decide +kernel, by decide +kernel, by decide +kernel⟩
