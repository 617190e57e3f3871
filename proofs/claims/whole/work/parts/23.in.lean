theorem mt_288 : (Jvm.Cond.arrayClass Jvm.ClassFile.FieldType.boolean) ∈ tb := tb_of 288 (by decide +kernel) (by decide +kernel)
theorem arr_boolean : Cond.arrayClass .boolean ∈ tb := mt_288
theorem mt_289 : (Jvm.Cond.arrayClass Jvm.ClassFile.FieldType.byte) ∈ tb := tb_of 289 (by decide +kernel) (by decide +kernel)
theorem arr_byte : Cond.arrayClass .byte ∈ tb := mt_289
theorem mt_173 : (Jvm.Cond.arrayClass Jvm.ClassFile.FieldType.int) ∈ tb := tb_of 173 (by decide +kernel) (by decide +kernel)
theorem arr_int : Cond.arrayClass .int ∈ tb := mt_173
theorem mn_1244 : (Jvm.Cond.castable "GrindMill$Mills" "GrindMill$Plain") ∈ nwT := nw_of 1244 (by decide +kernel) (by decide +kernel)
theorem cast_3 : Cond.castable (cN 3) "GrindMill$Plain" ∈ nwT := mn_1244
theorem mn_1246 : (Jvm.Cond.castable "GrindMill$Nothing" "GrindMill$Plain") ∈ nwT := nw_of 1246 (by decide +kernel) (by decide +kernel)
theorem cast_4 : Cond.castable (cN 4) "GrindMill$Plain" ∈ nwT := mn_1246
theorem mn_1243 : (Jvm.Cond.castable "GrindMill$Peace" "GrindMill$Plain") ∈ nwT := nw_of 1243 (by decide +kernel) (by decide +kernel)
theorem cast_5 : Cond.castable (cN 5) "GrindMill$Plain" ∈ nwT := mn_1243
theorem mn_1245 : (Jvm.Cond.castable "GrindMill$Salt" "GrindMill$Plain") ∈ nwT := nw_of 1245 (by decide +kernel) (by decide +kernel)
theorem cast_8 : Cond.castable (cN 8) "GrindMill$Plain" ∈ nwT := mn_1245
theorem mn_1242 : (Jvm.Cond.castable "GrindMill$Slow" "GrindMill$Plain") ∈ nwT := nw_of 1242 (by decide +kernel) (by decide +kernel)
theorem cast_9 : Cond.castable (cN 9) "GrindMill$Plain" ∈ nwT := mn_1242
theorem mt_136 : (Jvm.Cond.classLink "GrindMill$House" (9 : Nat) "GrindMill$Goods") ∈ tb := tb_of 136 (by decide +kernel) (by decide +kernel)
theorem cl_X2_9 : Cond.classLink RX2 9 "GrindMill$Goods" ∈ tb := mt_136
theorem mt_296 : (Jvm.Cond.classLink "GrindMill$Plans" (21 : Nat) "[[I") ∈ tb := tb_of 296 (by decide +kernel) (by decide +kernel)
theorem cl_X7_21 : Cond.classLink RX7 21 "[[I" ∈ tb := mt_296
theorem mt_130 : (Jvm.Cond.classLink "GrindMill" (25 : Nat) "GrindMill$House") ∈ tb := tb_of 130 (by decide +kernel) (by decide +kernel)
theorem cl_X11_25 : Cond.classLink RX11 25 "GrindMill$House" ∈ tb := mt_130
theorem mt_87 : (Jvm.Cond.classLink "GrindMill" (7 : Nat) "GrindMill$Plain") ∈ tb := tb_of 87 (by decide +kernel) (by decide +kernel)
theorem cl_X11_7 : Cond.classLink RX11 7 "GrindMill$Plain" ∈ tb := mt_87
theorem mt_140 : (Jvm.Cond.methodLink "GrindMill$House" (23 : Nat) ({ cls := "GrindMill$Clues", name := "<init>", desc := "([LGrindMill$Plain;)V" } : Jvm.MethodName)) ∈ tb := tb_of 140 (by decide +kernel) (by decide +kernel)
theorem mt_141 : (Jvm.Cond.instanceMethod ({ cls := "GrindMill$Clues", name := "<init>", desc := "([LGrindMill$Plain;)V" } : Jvm.MethodName)) ∈ tb := tb_of 141 (by decide +kernel) (by decide +kernel)
theorem ie_X2_23 : IE RX2 23 yX0_init := ⟨mt_140, mt_141, rfl⟩
theorem mt_175 : (Jvm.Cond.methodLink "GrindMill$House" (30 : Nat) ({ cls := "GrindMill$Goods", name := "<init>", desc := "([LGrindMill$Plain;)V" } : Jvm.MethodName)) ∈ tb := tb_of 175 (by decide +kernel) (by decide +kernel)
theorem mt_176 : (Jvm.Cond.instanceMethod ({ cls := "GrindMill$Goods", name := "<init>", desc := "([LGrindMill$Plain;)V" } : Jvm.MethodName)) ∈ tb := tb_of 176 (by decide +kernel) (by decide +kernel)
theorem ie_X2_30 : IE RX2 30 yX1_init := ⟨mt_175, mt_176, rfl⟩
theorem mt_132 : (Jvm.Cond.methodLink "GrindMill" (27 : Nat) ({ cls := "GrindMill$House", name := "<init>", desc := "([LGrindMill$Plain;)V" } : Jvm.MethodName)) ∈ tb := tb_of 132 (by decide +kernel) (by decide +kernel)
theorem mt_133 : (Jvm.Cond.instanceMethod ({ cls := "GrindMill$House", name := "<init>", desc := "([LGrindMill$Plain;)V" } : Jvm.MethodName)) ∈ tb := tb_of 133 (by decide +kernel) (by decide +kernel)
theorem ie_X11_27 : IE RX11 27 yX2_init := ⟨mt_132, mt_133, rfl⟩
theorem mn_114 : (Jvm.Cond.methodLinkNest "GrindMill$Mills" (1 : Nat) ({ cls := "GrindMill$Plain", name := "<init>", desc := "()V" } : Jvm.MethodName) "GrindMill") ∈ nwT := nw_of 114 (by decide +kernel) (by decide +kernel)
theorem mt_91 : (Jvm.Cond.instanceMethod ({ cls := "GrindMill$Plain", name := "<init>", desc := "()V" } : Jvm.MethodName)) ∈ tb := tb_of 91 (by decide +kernel) (by decide +kernel)
theorem in_X3_1 : INE RX3 1 yX6_init "GrindMill" := ⟨mn_114, mt_91, rfl⟩
theorem mn_128 : (Jvm.Cond.methodLinkNest "GrindMill$Nothing" (1 : Nat) ({ cls := "GrindMill$Peace", name := "<init>", desc := "()V" } : Jvm.MethodName) "GrindMill") ∈ nwT := nw_of 128 (by decide +kernel) (by decide +kernel)
theorem mt_105 : (Jvm.Cond.instanceMethod ({ cls := "GrindMill$Peace", name := "<init>", desc := "()V" } : Jvm.MethodName)) ∈ tb := tb_of 105 (by decide +kernel) (by decide +kernel)
theorem in_X4_1 : INE RX4 1 yX5_init "GrindMill" := ⟨mn_128, mt_105, rfl⟩
theorem mn_107 : (Jvm.Cond.methodLinkNest "GrindMill$Peace" (1 : Nat) ({ cls := "GrindMill$Plain", name := "<init>", desc := "()V" } : Jvm.MethodName) "GrindMill") ∈ nwT := nw_of 107 (by decide +kernel) (by decide +kernel)
theorem in_X5_1 : INE RX5 1 yX6_init "GrindMill" := ⟨mn_107, mt_91, rfl⟩
theorem mn_121 : (Jvm.Cond.methodLinkNest "GrindMill$Salt" (1 : Nat) ({ cls := "GrindMill$Slow", name := "<init>", desc := "()V" } : Jvm.MethodName) "GrindMill") ∈ nwT := nw_of 121 (by decide +kernel) (by decide +kernel)
theorem mt_98 : (Jvm.Cond.instanceMethod ({ cls := "GrindMill$Slow", name := "<init>", desc := "()V" } : Jvm.MethodName)) ∈ tb := tb_of 98 (by decide +kernel) (by decide +kernel)
theorem in_X8_1 : INE RX8 1 yX9_init "GrindMill" := ⟨mn_121, mt_98, rfl⟩
theorem mn_100 : (Jvm.Cond.methodLinkNest "GrindMill$Slow" (1 : Nat) ({ cls := "GrindMill$Plain", name := "<init>", desc := "()V" } : Jvm.MethodName) "GrindMill") ∈ nwT := nw_of 100 (by decide +kernel) (by decide +kernel)
theorem in_X9_1 : INE RX9 1 yX6_init "GrindMill" := ⟨mn_100, mt_91, rfl⟩
theorem mn_97 : (Jvm.Cond.methodLinkNest "GrindMill" (12 : Nat) ({ cls := "GrindMill$Slow", name := "<init>", desc := "()V" } : Jvm.MethodName) "GrindMill") ∈ nwT := nw_of 97 (by decide +kernel) (by decide +kernel)
theorem in_X11_12 : INE RX11 12 yX9_init "GrindMill" := ⟨mn_97, mt_98, rfl⟩
theorem mn_104 : (Jvm.Cond.methodLinkNest "GrindMill" (15 : Nat) ({ cls := "GrindMill$Peace", name := "<init>", desc := "()V" } : Jvm.MethodName) "GrindMill") ∈ nwT := nw_of 104 (by decide +kernel) (by decide +kernel)
theorem in_X11_15 : INE RX11 15 yX5_init "GrindMill" := ⟨mn_104, mt_105, rfl⟩
theorem mn_111 : (Jvm.Cond.methodLinkNest "GrindMill" (18 : Nat) ({ cls := "GrindMill$Mills", name := "<init>", desc := "()V" } : Jvm.MethodName) "GrindMill") ∈ nwT := nw_of 111 (by decide +kernel) (by decide +kernel)
theorem mt_112 : (Jvm.Cond.instanceMethod ({ cls := "GrindMill$Mills", name := "<init>", desc := "()V" } : Jvm.MethodName)) ∈ tb := tb_of 112 (by decide +kernel) (by decide +kernel)
theorem in_X11_18 : INE RX11 18 yX3_init "GrindMill" := ⟨mn_111, mt_112, rfl⟩
theorem mn_118 : (Jvm.Cond.methodLinkNest "GrindMill" (21 : Nat) ({ cls := "GrindMill$Salt", name := "<init>", desc := "()V" } : Jvm.MethodName) "GrindMill") ∈ nwT := nw_of 118 (by decide +kernel) (by decide +kernel)
theorem mt_119 : (Jvm.Cond.instanceMethod ({ cls := "GrindMill$Salt", name := "<init>", desc := "()V" } : Jvm.MethodName)) ∈ tb := tb_of 119 (by decide +kernel) (by decide +kernel)
theorem in_X11_21 : INE RX11 21 yX8_init "GrindMill" := ⟨mn_118, mt_119, rfl⟩
theorem mn_125 : (Jvm.Cond.methodLinkNest "GrindMill" (24 : Nat) ({ cls := "GrindMill$Nothing", name := "<init>", desc := "()V" } : Jvm.MethodName) "GrindMill") ∈ nwT := nw_of 125 (by decide +kernel) (by decide +kernel)
theorem mt_126 : (Jvm.Cond.instanceMethod ({ cls := "GrindMill$Nothing", name := "<init>", desc := "()V" } : Jvm.MethodName)) ∈ tb := tb_of 126 (by decide +kernel) (by decide +kernel)
theorem in_X11_24 : INE RX11 24 yX4_init "GrindMill" := ⟨mn_125, mt_126, rfl⟩
theorem mn_269 : (Jvm.Cond.methodLinkNest "GrindMill" (49 : Nat) ({ cls := "GrindMill$Text", name := "<init>", desc := "()V" } : Jvm.MethodName) "GrindMill") ∈ nwT := nw_of 269 (by decide +kernel) (by decide +kernel)
theorem mt_270 : (Jvm.Cond.instanceMethod ({ cls := "GrindMill$Text", name := "<init>", desc := "()V" } : Jvm.MethodName)) ∈ tb := tb_of 270 (by decide +kernel) (by decide +kernel)
theorem in_X11_49 : INE RX11 49 yX10_init "GrindMill" := ⟨mn_269, mt_270, rfl⟩
theorem mn_292 : (Jvm.Cond.methodLinkNest "GrindMill" (56 : Nat) ({ cls := "GrindMill$Plans", name := "<init>", desc := "()V" } : Jvm.MethodName) "GrindMill") ∈ nwT := nw_of 292 (by decide +kernel) (by decide +kernel)
theorem mt_293 : (Jvm.Cond.instanceMethod ({ cls := "GrindMill$Plans", name := "<init>", desc := "()V" } : Jvm.MethodName)) ∈ tb := tb_of 293 (by decide +kernel) (by decide +kernel)
theorem in_X11_56 : INE RX11 56 yX7_init "GrindMill" := ⟨mn_292, mt_293, rfl⟩
theorem mn_90 : (Jvm.Cond.methodLinkNest "GrindMill" (9 : Nat) ({ cls := "GrindMill$Plain", name := "<init>", desc := "()V" } : Jvm.MethodName) "GrindMill") ∈ nwT := nw_of 90 (by decide +kernel) (by decide +kernel)
theorem in_X11_9 : INE RX11 9 yX6_init "GrindMill" := ⟨mn_90, mt_91, rfl⟩
theorem mt_138 : (Jvm.Cond.classLink "GrindMill$House" (21 : Nat) "GrindMill$Clues") ∈ tb := tb_of 138 (by decide +kernel) (by decide +kernel)
theorem cl_X2_21 : Cond.classLink RX2 21 (cN 0) ∈ tb := mt_138
theorem mt_139 : (Jvm.Cond.instantiable "GrindMill$Clues" (8 : Nat)) ∈ tb := tb_of 139 (by decide +kernel) (by decide +kernel)
theorem ins_0 : Cond.instantiable (cN 0) (fn 0) ∈ tb := mt_139
theorem ini_0 : Cond.initialized (cN 0) ∈ tb := mt_67
theorem mt_174 : (Jvm.Cond.instantiable "GrindMill$Goods" (6 : Nat)) ∈ tb := tb_of 174 (by decide +kernel) (by decide +kernel)
theorem ins_1 : Cond.instantiable (cN 1) (fn 1) ∈ tb := mt_174
theorem ini_1 : Cond.initialized (cN 1) ∈ tb := mt_68
theorem mt_95 : (Jvm.Cond.classLink "GrindMill" (10 : Nat) "GrindMill$Slow") ∈ tb := tb_of 95 (by decide +kernel) (by decide +kernel)
theorem cl_X11_10 : Cond.classLink RX11 10 (cN 9) ∈ tb := mt_95
theorem mt_96 : (Jvm.Cond.instantiable "GrindMill$Slow" (0 : Nat)) ∈ tb := tb_of 96 (by decide +kernel) (by decide +kernel)
theorem ins_9 : Cond.instantiable (cN 9) (fn 9) ∈ tb := mt_96
theorem ini_9 : Cond.initialized (cN 9) ∈ tb := mt_61
theorem mt_102 : (Jvm.Cond.classLink "GrindMill" (13 : Nat) "GrindMill$Peace") ∈ tb := tb_of 102 (by decide +kernel) (by decide +kernel)
theorem cl_X11_13 : Cond.classLink RX11 13 (cN 5) ∈ tb := mt_102
theorem mt_103 : (Jvm.Cond.instantiable "GrindMill$Peace" (0 : Nat)) ∈ tb := tb_of 103 (by decide +kernel) (by decide +kernel)
theorem ins_5 : Cond.instantiable (cN 5) (fn 5) ∈ tb := mt_103
theorem ini_5 : Cond.initialized (cN 5) ∈ tb := mt_62
theorem mt_109 : (Jvm.Cond.classLink "GrindMill" (16 : Nat) "GrindMill$Mills") ∈ tb := tb_of 109 (by decide +kernel) (by decide +kernel)
theorem cl_X11_16 : Cond.classLink RX11 16 (cN 3) ∈ tb := mt_109
theorem mt_110 : (Jvm.Cond.instantiable "GrindMill$Mills" (0 : Nat)) ∈ tb := tb_of 110 (by decide +kernel) (by decide +kernel)
theorem ins_3 : Cond.instantiable (cN 3) (fn 3) ∈ tb := mt_110
theorem ini_3 : Cond.initialized (cN 3) ∈ tb := mt_63
theorem mt_116 : (Jvm.Cond.classLink "GrindMill" (19 : Nat) "GrindMill$Salt") ∈ tb := tb_of 116 (by decide +kernel) (by decide +kernel)
theorem cl_X11_19 : Cond.classLink RX11 19 (cN 8) ∈ tb := mt_116
theorem mt_117 : (Jvm.Cond.instantiable "GrindMill$Salt" (0 : Nat)) ∈ tb := tb_of 117 (by decide +kernel) (by decide +kernel)
theorem ins_8 : Cond.instantiable (cN 8) (fn 8) ∈ tb := mt_117
theorem ini_8 : Cond.initialized (cN 8) ∈ tb := mt_64
theorem mt_123 : (Jvm.Cond.classLink "GrindMill" (22 : Nat) "GrindMill$Nothing") ∈ tb := tb_of 123 (by decide +kernel) (by decide +kernel)
theorem cl_X11_22 : Cond.classLink RX11 22 (cN 4) ∈ tb := mt_123
theorem mt_124 : (Jvm.Cond.instantiable "GrindMill$Nothing" (0 : Nat)) ∈ tb := tb_of 124 (by decide +kernel) (by decide +kernel)
theorem ins_4 : Cond.instantiable (cN 4) (fn 4) ∈ tb := mt_124
theorem ini_4 : Cond.initialized (cN 4) ∈ tb := mt_65
theorem mt_131 : (Jvm.Cond.instantiable "GrindMill$House" (12 : Nat)) ∈ tb := tb_of 131 (by decide +kernel) (by decide +kernel)
theorem ins_2 : Cond.instantiable (cN 2) (fn 2) ∈ tb := mt_131
theorem ini_2 : Cond.initialized (cN 2) ∈ tb := mt_66
theorem mt_267 : (Jvm.Cond.classLink "GrindMill" (47 : Nat) "GrindMill$Text") ∈ tb := tb_of 267 (by decide +kernel) (by decide +kernel)
theorem cl_X11_47 : Cond.classLink RX11 47 (cN 10) ∈ tb := mt_267
theorem mt_268 : (Jvm.Cond.instantiable "GrindMill$Text" (4 : Nat)) ∈ tb := tb_of 268 (by decide +kernel) (by decide +kernel)
theorem ins_10 : Cond.instantiable (cN 10) (fn 10) ∈ tb := mt_268
theorem ini_10 : Cond.initialized (cN 10) ∈ tb := mt_69
theorem mt_290 : (Jvm.Cond.classLink "GrindMill" (54 : Nat) "GrindMill$Plans") ∈ tb := tb_of 290 (by decide +kernel) (by decide +kernel)
theorem cl_X11_54 : Cond.classLink RX11 54 (cN 7) ∈ tb := mt_290
theorem mt_291 : (Jvm.Cond.instantiable "GrindMill$Plans" (8 : Nat)) ∈ tb := tb_of 291 (by decide +kernel) (by decide +kernel)
theorem ins_7 : Cond.instantiable (cN 7) (fn 7) ∈ tb := mt_291
theorem ini_7 : Cond.initialized (cN 7) ∈ tb := mt_70
theorem mt_89 : (Jvm.Cond.instantiable "GrindMill$Plain" (0 : Nat)) ∈ tb := tb_of 89 (by decide +kernel) (by decide +kernel)
theorem ins_6 : Cond.instantiable (cN 6) (fn 6) ∈ tb := mt_89
theorem ini_6 : Cond.initialized (cN 6) ∈ tb := mt_60
theorem mt_143 : (Jvm.Cond.methodLink "GrindMill$Clues" (3 : Nat) ({ cls := "java/lang/Object", name := "<init>", desc := "()V" } : Jvm.MethodName)) ∈ tb := tb_of 143 (by decide +kernel) (by decide +kernel)
theorem ob_X0 : Cond.methodLink RX0 3 Lib.objectInit ∈ tb := mt_143
theorem mt_85 : (Jvm.Cond.instanceMethod ({ cls := "java/lang/Object", name := "<init>", desc := "()V" } : Jvm.MethodName)) ∈ tb := tb_of 85 (by decide +kernel) (by decide +kernel)
theorem ob_i : Cond.instanceMethod Lib.objectInit ∈ tb := mt_85
theorem ob_c : Cond.code Lib.objectInit ⟨#[0xb1]⟩ 1 none ∈ tb := tb_of 86 (by decide +kernel) (by decide +kernel)
theorem mt_178 : (Jvm.Cond.methodLink "GrindMill$Goods" (1 : Nat) ({ cls := "java/lang/Object", name := "<init>", desc := "()V" } : Jvm.MethodName)) ∈ tb := tb_of 178 (by decide +kernel) (by decide +kernel)
theorem ob_X1 : Cond.methodLink RX1 1 Lib.objectInit ∈ tb := mt_178
theorem mt_135 : (Jvm.Cond.methodLink "GrindMill$House" (3 : Nat) ({ cls := "java/lang/Object", name := "<init>", desc := "()V" } : Jvm.MethodName)) ∈ tb := tb_of 135 (by decide +kernel) (by decide +kernel)
theorem ob_X2 : Cond.methodLink RX2 3 Lib.objectInit ∈ tb := mt_135
theorem mt_93 : (Jvm.Cond.methodLink "GrindMill$Plain" (1 : Nat) ({ cls := "java/lang/Object", name := "<init>", desc := "()V" } : Jvm.MethodName)) ∈ tb := tb_of 93 (by decide +kernel) (by decide +kernel)
theorem ob_X6 : Cond.methodLink RX6 1 Lib.objectInit ∈ tb := mt_93
theorem mt_295 : (Jvm.Cond.methodLink "GrindMill$Plans" (3 : Nat) ({ cls := "java/lang/Object", name := "<init>", desc := "()V" } : Jvm.MethodName)) ∈ tb := tb_of 295 (by decide +kernel) (by decide +kernel)
theorem ob_X7 : Cond.methodLink RX7 3 Lib.objectInit ∈ tb := mt_295
theorem mt_272 : (Jvm.Cond.methodLink "GrindMill$Text" (3 : Nat) ({ cls := "java/lang/Object", name := "<init>", desc := "()V" } : Jvm.MethodName)) ∈ tb := tb_of 272 (by decide +kernel) (by decide +kernel)
theorem ob_X10 : Cond.methodLink RX10 3 Lib.objectInit ∈ tb := mt_272
theorem mt_84 : (Jvm.Cond.methodLink "GrindMill" (1 : Nat) ({ cls := "java/lang/Object", name := "<init>", desc := "()V" } : Jvm.MethodName)) ∈ tb := tb_of 84 (by decide +kernel) (by decide +kernel)
theorem ob_X11 : Cond.methodLink RX11 1 Lib.objectInit ∈ tb := mt_84
theorem mt_886 : (Jvm.Cond.methodLink "GrindMillModel" (1 : Nat) ({ cls := "java/lang/Object", name := "<init>", desc := "()V" } : Jvm.MethodName)) ∈ tb := tb_of 886 (by decide +kernel) (by decide +kernel)
theorem ob_X12 : Cond.methodLink RX12 1 Lib.objectInit ∈ tb := mt_886
theorem mt_206 : (Jvm.Cond.methodLink "GrindMill$House" (31 : Nat) ({ cls := "GrindMill$House", name := "startAnew", desc := "(I)V" } : Jvm.MethodName)) ∈ tb := tb_of 206 (by decide +kernel) (by decide +kernel)
theorem ve_X2_31 : VE RX2 31 yX2_startAnew 2 := ⟨mt_206, mt_207, mt_208, ce_2⟩
theorem mt_142 : (Jvm.Cond.code ({ cls := "GrindMill$Clues", name := "<init>", desc := "([LGrindMill$Plain;)V" } : Jvm.MethodName) prog_2_method_1_code (2 : Nat) (Option.none : Option Jvm.ClassFile.FieldType)) ∈ tb := tb_of 142 (by decide +kernel) (by decide +kernel)
theorem ye_X0_init : YE yX0_init cX0_init 2 none 1 := ⟨mt_142, mt_67, by decide +kernel, by decide +kernel, by decide +kernel⟩
theorem mt_271 : (Jvm.Cond.code ({ cls := "GrindMill$Text", name := "<init>", desc := "()V" } : Jvm.MethodName) prog_12_method_1_code (1 : Nat) (Option.none : Option Jvm.ClassFile.FieldType)) ∈ tb := tb_of 271 (by decide +kernel) (by decide +kernel)
theorem ye_X10_init : YE yX10_init cX10_init 1 none 0 := ⟨mt_271, mt_69, by decide +kernel, by decide +kernel, by decide +kernel⟩
theorem mt_177 : (Jvm.Cond.code ({ cls := "GrindMill$Goods", name := "<init>", desc := "([LGrindMill$Plain;)V" } : Jvm.MethodName) prog_3_method_1_code (2 : Nat) (Option.none : Option Jvm.ClassFile.FieldType)) ∈ tb := tb_of 177 (by decide +kernel) (by decide +kernel)
theorem ye_X1_init : YE yX1_init cX1_init 2 none 1 := ⟨mt_177, mt_68, by decide +kernel, by decide +kernel, by decide +kernel⟩
theorem mt_134 : (Jvm.Cond.code ({ cls := "GrindMill$House", name := "<init>", desc := "([LGrindMill$Plain;)V" } : Jvm.MethodName) prog_4_method_1_code (3 : Nat) (Option.none : Option Jvm.ClassFile.FieldType)) ∈ tb := tb_of 134 (by decide +kernel) (by decide +kernel)
theorem ye_X2_init : YE yX2_init cX2_init 3 none 1 := ⟨mt_134, mt_66, by decide +kernel, by decide +kernel, by decide +kernel⟩
theorem mt_113 : (Jvm.Cond.code ({ cls := "GrindMill$Mills", name := "<init>", desc := "()V" } : Jvm.MethodName) prog_5_method_1_code (1 : Nat) (Option.none : Option Jvm.ClassFile.FieldType)) ∈ tb := tb_of 113 (by decide +kernel) (by decide +kernel)
theorem ye_X3_init : YE yX3_init cX3_init 1 none 0 := ⟨mt_113, mt_63, by decide +kernel, by decide +kernel, by decide +kernel⟩
theorem mt_127 : (Jvm.Cond.code ({ cls := "GrindMill$Nothing", name := "<init>", desc := "()V" } : Jvm.MethodName) prog_6_method_1_code (1 : Nat) (Option.none : Option Jvm.ClassFile.FieldType)) ∈ tb := tb_of 127 (by decide +kernel) (by decide +kernel)
theorem ye_X4_init : YE yX4_init cX4_init 1 none 0 := ⟨mt_127, mt_65, by decide +kernel, by decide +kernel, by decide +kernel⟩
theorem mt_106 : (Jvm.Cond.code ({ cls := "GrindMill$Peace", name := "<init>", desc := "()V" } : Jvm.MethodName) prog_7_method_1_code (1 : Nat) (Option.none : Option Jvm.ClassFile.FieldType)) ∈ tb := tb_of 106 (by decide +kernel) (by decide +kernel)
theorem ye_X5_init : YE yX5_init cX5_init 1 none 0 := ⟨mt_106, mt_62, by decide +kernel, by decide +kernel, by decide +kernel⟩
theorem mt_92 : (Jvm.Cond.code ({ cls := "GrindMill$Plain", name := "<init>", desc := "()V" } : Jvm.MethodName) prog_8_method_1_code (1 : Nat) (Option.none : Option Jvm.ClassFile.FieldType)) ∈ tb := tb_of 92 (by decide +kernel) (by decide +kernel)
theorem ye_X6_init : YE yX6_init cX6_init 1 none 0 := ⟨mt_92, mt_60, by decide +kernel, by decide +kernel, by decide +kernel⟩
theorem mt_294 : (Jvm.Cond.code ({ cls := "GrindMill$Plans", name := "<init>", desc := "()V" } : Jvm.MethodName) prog_9_method_1_code (1 : Nat) (Option.none : Option Jvm.ClassFile.FieldType)) ∈ tb := tb_of 294 (by decide +kernel) (by decide +kernel)
theorem ye_X7_init : YE yX7_init cX7_init 1 none 0 := ⟨mt_294, mt_70, by decide +kernel, by decide +kernel, by decide +kernel⟩
theorem mt_120 : (Jvm.Cond.code ({ cls := "GrindMill$Salt", name := "<init>", desc := "()V" } : Jvm.MethodName) prog_10_method_1_code (1 : Nat) (Option.none : Option Jvm.ClassFile.FieldType)) ∈ tb := tb_of 120 (by decide +kernel) (by decide +kernel)
theorem ye_X8_init : YE yX8_init cX8_init 1 none 0 := ⟨mt_120, mt_64, by decide +kernel, by decide +kernel, by decide +kernel⟩
theorem mt_99 : (Jvm.Cond.code ({ cls := "GrindMill$Slow", name := "<init>", desc := "()V" } : Jvm.MethodName) prog_11_method_1_code (1 : Nat) (Option.none : Option Jvm.ClassFile.FieldType)) ∈ tb := tb_of 99 (by decide +kernel) (by decide +kernel)
theorem ye_X9_init : YE yX9_init cX9_init 1 none 0 := ⟨mt_99, mt_61, by decide +kernel, by decide +kernel, by decide +kernel⟩
def f_X6_init (p0 : Nat) (w : Wd) : Option (Unit × Wd) :=
  some ((), w)
def f_X9_init (p0 : Nat) (w : Wd) : Option (Unit × Wd) :=
  cal (f_X6_init p0 w) fun _ w1 =>
  some ((), w1)
def f_X5_init (p0 : Nat) (w : Wd) : Option (Unit × Wd) :=
  cal (f_X6_init p0 w) fun _ w1 =>
  some ((), w1)
def f_X3_init (p0 : Nat) (w : Wd) : Option (Unit × Wd) :=
  cal (f_X6_init p0 w) fun _ w1 =>
  some ((), w1)
def f_X8_init (p0 : Nat) (w : Wd) : Option (Unit × Wd) :=
  cal (f_X9_init p0 w) fun _ w1 =>
  some ((), w1)
def f_X4_init (p0 : Nat) (w : Wd) : Option (Unit × Wd) :=
  cal (f_X5_init p0 w) fun _ w1 =>
  some ((), w1)
def f_X1_init (p0 : Nat) (p1 : Nat) (w : Wd) : Option (Unit × Wd) :=
  pR w p0 1 0 p1 fun w3 =>
  some ((), w3)
def f_X0_init (p0 : Nat) (p1 : Nat) (w : Wd) : Option (Unit × Wd) :=
  nm (nC w 14 6) fun w3 =>
  pR w3 p0 0 1 (wN w) fun w4 =>
  nm (nC w4 14 6) fun w5 =>
  pR w5 p0 0 2 (wN w4) fun w6 =>
  nm (nC w6 14 24) fun w7 =>
  pR w7 p0 0 3 (wN w6) fun w8 =>
  nm (nC w8 14 6) fun w9 =>
  pR w9 p0 0 4 (wN w8) fun w10 =>
  nm (nC w10 14 6) fun w11 =>
  pR w11 p0 0 5 (wN w10) fun w12 =>
  pR w12 p0 0 0 p1 fun w13 =>
  some ((), w13)
def f_X2_init (p0 : Nat) (p1 : Nat) (w : Wd) : Option (Unit × Wd) :=
  nm (nC w 16 6) fun w3 =>
  pR w3 p0 2 0 (wN w) fun w4 =>
  nm (nC w4 14 136) fun w5 =>
  pR w5 p0 2 2 (wN w4) fun w6 =>
  nm (nC w6 0 0) fun w7 =>
  cal (f_X0_init (wN w6) p1 w7) fun _ w8 =>
  pR w8 p0 2 1 (wN w6) fun w10 =>
  gR w10 p0 2 0 fun r11 =>
  nm (nC w10 1 0) fun w12 =>
  cal (f_X1_init (wN w10) p1 w12) fun _ w13 =>
  aR w13 r11 16 (0 : Int32) (wN w10) 1 fun w15 =>
  gR w15 p0 2 0 fun r16 =>
  nm (nC w15 1 0) fun w17 =>
  cal (f_X1_init (wN w15) p1 w17) fun _ w18 =>
  aR w18 r16 16 (1 : Int32) (wN w15) 1 fun w20 =>
  gR w20 p0 2 0 fun r21 =>
  nm (nC w20 1 0) fun w22 =>
  cal (f_X1_init (wN w20) p1 w22) fun _ w23 =>
  aR w23 r21 16 (2 : Int32) (wN w20) 1 fun w25 =>
  gR w25 p0 2 0 fun r26 =>
  nm (nC w25 1 0) fun w27 =>
  cal (f_X1_init (wN w25) p1 w27) fun _ w28 =>
  aR w28 r26 16 (3 : Int32) (wN w25) 1 fun w30 =>
  gR w30 p0 2 0 fun r31 =>
  nm (nC w30 1 0) fun w32 =>
  cal (f_X1_init (wN w30) p1 w32) fun _ w33 =>
  aR w33 r31 16 (4 : Int32) (wN w30) 1 fun w35 =>
  gR w35 p0 2 0 fun r36 =>
  nm (nC w35 1 0) fun w37 =>
  cal (f_X1_init (wN w35) p1 w37) fun _ w38 =>
  aR w38 r36 16 (5 : Int32) (wN w35) 1 fun w40 =>
  calV w40 p0 2 (f_X2_startAnew p0 (60 : Int32) w40) fun _ w41 =>
  some ((), w41)
def f_X10_init (p0 : Nat) (w : Wd) : Option (Unit × Wd) :=
  nm (nC w 13 150) fun w3 =>
  pR w3 p0 10 0 (wN w) fun w4 =>
  some ((), w4)
def f_X7_init (p0 : Nat) (w : Wd) : Option (Unit × Wd) :=
  nm (nC w 14 6) fun w3 =>
  pR w3 p0 7 0 (wN w) fun w4 =>
  nm (nC w4 14 6) fun w5 =>
  pR w5 p0 7 1 (wN w4) fun w6 =>
  nm (nC w6 14 61) fun w7 =>
  pR w7 p0 7 2 (wN w6) fun w8 =>
  nm (nG w8 6 13) fun w9 =>
  pR w9 p0 7 3 (wN w8) fun w10 =>
  nm (nG w10 7 13) fun w11 =>
  pR w11 p0 7 4 (wN w10) fun w12 =>
  nm (nC w12 14 6) fun w13 =>
  pR w13 p0 7 5 (wN w12) fun w14 =>
  nm (nC w14 14 6) fun w15 =>
  pR w15 p0 7 6 (wN w14) fun w16 =>
  nm (nC w16 14 6) fun w17 =>
  pR w17 p0 7 7 (wN w16) fun w18 =>
  some ((), w18)
def f_X11_init (p0 : Nat) (w : Wd) : Option (Unit × Wd) :=
  nm (nC w 18 6) fun w3 =>
  nm (nC w3 6 0) fun w4 =>
  cal (f_X6_init (wN w3) w4) fun _ w5 =>
  aR w5 (wN w) 18 (0 : Int32) (wN w3) 6 fun w7 =>
  nm (nC w7 9 0) fun w8 =>
  cal (f_X9_init (wN w7) w8) fun _ w9 =>
  aR w9 (wN w) 18 (1 : Int32) (wN w7) 9 fun w11 =>
  nm (nC w11 5 0) fun w12 =>
  cal (f_X5_init (wN w11) w12) fun _ w13 =>
  aR w13 (wN w) 18 (2 : Int32) (wN w11) 5 fun w15 =>
  nm (nC w15 3 0) fun w16 =>
  cal (f_X3_init (wN w15) w16) fun _ w17 =>
  aR w17 (wN w) 18 (3 : Int32) (wN w15) 3 fun w19 =>
  nm (nC w19 8 0) fun w20 =>
  cal (f_X8_init (wN w19) w20) fun _ w21 =>
  aR w21 (wN w) 18 (4 : Int32) (wN w19) 8 fun w23 =>
  nm (nC w23 4 0) fun w24 =>
  cal (f_X4_init (wN w23) w24) fun _ w25 =>
  aR w25 (wN w) 18 (5 : Int32) (wN w23) 4 fun w27 =>
  nm (nC w27 2 0) fun w28 =>
  cal (f_X2_init (wN w27) (wN w) w28) fun _ w29 =>
  pR w29 p0 11 5 (wN w27) fun w31 =>
  nm (nC w31 2 0) fun w32 =>
  cal (f_X2_init (wN w31) (wN w) w32) fun _ w33 =>
  pR w33 p0 11 6 (wN w31) fun w35 =>
  nm (nC w35 17 2) fun w36 =>
  nm (nC w36 2 0) fun w37 =>
  cal (f_X2_init (wN w36) (wN w) w37) fun _ w38 =>
  aR w38 (wN w35) 17 (0 : Int32) (wN w36) 2 fun w40 =>
  nm (nC w40 2 0) fun w41 =>
  cal (f_X2_init (wN w40) (wN w) w41) fun _ w42 =>
  aR w42 (wN w35) 17 (1 : Int32) (wN w40) 2 fun w44 =>
  pR w44 p0 11 0 (wN w35) fun w45 =>
  nm (nC w45 15 2) fun w46 =>
  pR w46 p0 11 1 (wN w45) fun w47 =>
  nm (nC w47 10 0) fun w48 =>
  cal (f_X10_init (wN w47) w48) fun _ w49 =>
  pR w49 p0 11 2 (wN w47) fun w51 =>
  nm (nC w51 7 0) fun w52 =>
  cal (f_X7_init (wN w51) w52) fun _ w53 =>
  pR w53 p0 11 3 (wN w51) fun w55 =>
  nm (nC w55 14 3) fun w56 =>
  pR w56 p0 11 4 (wN w55) fun w57 =>
  pL w57 p0 11 7 (0 : Int64) fun w58 =>
  pL w58 p0 11 8 (1 : Int64) fun w59 =>
  some ((), w59)
def f_X12_init (p0 : Nat) (w : Wd) : Option (Unit × Wd) :=
  nm (nC w 14 656) fun w3 =>
  pR w3 p0 12 0 (wN w) fun w4 =>
  nm (nC w4 15 2) fun w5 =>
  pR w5 p0 12 1 (wN w4) fun w6 =>
  nm (nC w6 14 3) fun w7 =>
  pR w7 p0 12 2 (wN w6) fun w8 =>
  pL w8 p0 12 4 (1 : Int64) fun w9 =>
  nm (nC w9 14 150) fun w10 =>
  pR w10 p0 12 5 (wN w9) fun w11 =>
  nm (nC w11 14 25) fun w12 =>
  aI w12 (wN w11) 14 (0 : Int32) (109 : Int32) fun w13 =>
  aI w13 (wN w11) 14 (1 : Int32) (105 : Int32) fun w14 =>
  aI w14 (wN w11) 14 (2 : Int32) (108 : Int32) fun w15 =>
  aI w15 (wN w11) 14 (3 : Int32) (108 : Int32) fun w16 =>
  aI w16 (wN w11) 14 (4 : Int32) (0 : Int32) fun w17 =>
  aI w17 (wN w11) 14 (5 : Int32) (103 : Int32) fun w18 =>
  aI w18 (wN w11) 14 (6 : Int32) (111 : Int32) fun w19 =>
  aI w19 (wN w11) 14 (7 : Int32) (111 : Int32) fun w20 =>
  aI w20 (wN w11) 14 (8 : Int32) (100 : Int32) fun w21 =>
  aI w21 (wN w11) 14 (9 : Int32) (115 : Int32) fun w22 =>
  aI w22 (wN w11) 14 (10 : Int32) (103 : Int32) fun w23 =>
  aI w23 (wN w11) 14 (11 : Int32) (114 : Int32) fun w24 =>
  aI w24 (wN w11) 14 (12 : Int32) (105 : Int32) fun w25 =>
  aI w25 (wN w11) 14 (13 : Int32) (110 : Int32) fun w26 =>
  aI w26 (wN w11) 14 (14 : Int32) (100 : Int32) fun w27 =>
  aI w27 (wN w11) 14 (15 : Int32) (119 : Int32) fun w28 =>
  aI w28 (wN w11) 14 (16 : Int32) (111 : Int32) fun w29 =>
  aI w29 (wN w11) 14 (17 : Int32) (114 : Int32) fun w30 =>
  aI w30 (wN w11) 14 (18 : Int32) (100 : Int32) fun w31 =>
  aI w31 (wN w11) 14 (19 : Int32) (0 : Int32) fun w32 =>
  aI w32 (wN w11) 14 (20 : Int32) (99 : Int32) fun w33 =>
  aI w33 (wN w11) 14 (21 : Int32) (111 : Int32) fun w34 =>
  aI w34 (wN w11) 14 (22 : Int32) (108 : Int32) fun w35 =>
  aI w35 (wN w11) 14 (23 : Int32) (100 : Int32) fun w36 =>
  aI w36 (wN w11) 14 (24 : Int32) (0 : Int32) fun w37 =>
  pR w37 p0 12 7 (wN w11) fun w38 =>
  nm (nC w38 14 18) fun w39 =>
  pR w39 p0 12 14 (wN w38) fun w40 =>
  nm (nC w40 14 427) fun w41 =>
  pR w41 p0 12 16 (wN w40) fun w42 =>
  nm (nC w42 14 91) fun w43 =>
  pR w43 p0 12 17 (wN w42) fun w44 =>
  nm (nC w44 14 6) fun w45 =>
  pR w45 p0 12 18 (wN w44) fun w46 =>
  nm (nC w46 14 36) fun w47 =>
  pR w47 p0 12 19 (wN w46) fun w48 =>
  nm (nC w48 14 36) fun w49 =>
  pR w49 p0 12 20 (wN w48) fun w50 =>
  calV w50 p0 12 (f_X12_layMill p0 (60 : Int32) w50) fun _ w51 =>
  some ((), w51)
theorem dX6_init_0 : decode cX6_init 0 = .ok (.aload_n 0, 1) := by decide +kernel
theorem dX6_init_1 : decode cX6_init 1 = .ok (.invokespecial 1, 3) := by decide +kernel
theorem dX6_init_4 : decode cX6_init 4 = .ok (.return_, 1) := by decide +kernel
set_option maxRecDepth 100000 in
set_option maxHeartbeats 4000000 in
theorem c_X6_init {g : Gv} {l : Launch} (p0 : Nat) (w0 : Wd) (wz : Wd) (hf : f_X6_init p0 w0 = some ((), wz)) : MV g l yX6_init cX6_init 1 1 20 0 0 [rV g p0] w0 wz := by
  refine mv_of RX6 (by decide) rfl (Nat.le_of_ble_eq_true rfl) ?_
  intro X hg hll C hr h0 hin
  subst hg; subst hll
  unfold f_X6_init at hf
  refine k_sub (lv2 := [(0, rV (xg X) p0)]) [0] rfl ?_
  refine k_aload_n C dX6_init_0 0 rfl rfl 1 rfl ?_
  refine k_objInit C ob_X6 ob_i ob_c (Nat.le_of_ble_eq_true rfl) (Nat.le_of_ble_eq_true rfl) dX6_init_1 4 rfl ?_
  exact k_vret C hr h0 dX6_init_4 hf
theorem dX9_init_0 : decode cX9_init 0 = .ok (.aload_n 0, 1) := by decide +kernel
theorem dX9_init_1 : decode cX9_init 1 = .ok (.invokespecial 1, 3) := by decide +kernel
theorem dX9_init_4 : decode cX9_init 4 = .ok (.return_, 1) := by decide +kernel
set_option maxRecDepth 100000 in
set_option maxHeartbeats 4000000 in
theorem c_X9_init {g : Gv} {l : Launch} (p0 : Nat) (w0 : Wd) (wz : Wd) (hf : f_X9_init p0 w0 = some ((), wz)) : MV g l yX9_init cX9_init 1 2 40 0 0 [rV g p0] w0 wz := by
  refine mv_of RX9 (by decide) rfl (Nat.le_of_ble_eq_true rfl) ?_
  intro X hg hll C hr h0 hin
  subst hg; subst hll
  unfold f_X9_init at hf
  refine k_sub (lv2 := [(0, rV (xg X) p0)]) [0] rfl ?_
  refine k_aload_n C dX9_init_0 0 rfl rfl 1 rfl ?_
  refine k_callIN_v C ye_X6_init in_X9_1 ⟨rfl, rfl⟩ ⟨rfl, rfl⟩ dX9_init_1 [] rfl rfl (Nat.le_of_ble_eq_true rfl) (c_X6_init _ _) hf 4 rfl (fun w3 hf => ?_)
  exact k_vret C hr h0 dX9_init_4 hf
theorem dX5_init_0 : decode cX5_init 0 = .ok (.aload_n 0, 1) := by decide +kernel
theorem dX5_init_1 : decode cX5_init 1 = .ok (.invokespecial 1, 3) := by decide +kernel
theorem dX5_init_4 : decode cX5_init 4 = .ok (.return_, 1) := by decide +kernel
set_option maxRecDepth 100000 in
set_option maxHeartbeats 4000000 in
theorem c_X5_init {g : Gv} {l : Launch} (p0 : Nat) (w0 : Wd) (wz : Wd) (hf : f_X5_init p0 w0 = some ((), wz)) : MV g l yX5_init cX5_init 1 2 40 0 0 [rV g p0] w0 wz := by
  refine mv_of RX5 (by decide) rfl (Nat.le_of_ble_eq_true rfl) ?_
  intro X hg hll C hr h0 hin
  subst hg; subst hll
  unfold f_X5_init at hf
  refine k_sub (lv2 := [(0, rV (xg X) p0)]) [0] rfl ?_
  refine k_aload_n C dX5_init_0 0 rfl rfl 1 rfl ?_
  refine k_callIN_v C ye_X6_init in_X5_1 ⟨rfl, rfl⟩ ⟨rfl, rfl⟩ dX5_init_1 [] rfl rfl (Nat.le_of_ble_eq_true rfl) (c_X6_init _ _) hf 4 rfl (fun w3 hf => ?_)
  exact k_vret C hr h0 dX5_init_4 hf
theorem dX3_init_0 : decode cX3_init 0 = .ok (.aload_n 0, 1) := by decide +kernel
theorem dX3_init_1 : decode cX3_init 1 = .ok (.invokespecial 1, 3) := by decide +kernel
theorem dX3_init_4 : decode cX3_init 4 = .ok (.return_, 1) := by decide +kernel
set_option maxRecDepth 100000 in
set_option maxHeartbeats 4000000 in
theorem c_X3_init {g : Gv} {l : Launch} (p0 : Nat) (w0 : Wd) (wz : Wd) (hf : f_X3_init p0 w0 = some ((), wz)) : MV g l yX3_init cX3_init 1 2 40 0 0 [rV g p0] w0 wz := by
  refine mv_of RX3 (by decide) rfl (Nat.le_of_ble_eq_true rfl) ?_
  intro X hg hll C hr h0 hin
  subst hg; subst hll
  unfold f_X3_init at hf
  refine k_sub (lv2 := [(0, rV (xg X) p0)]) [0] rfl ?_
  refine k_aload_n C dX3_init_0 0 rfl rfl 1 rfl ?_
  refine k_callIN_v C ye_X6_init in_X3_1 ⟨rfl, rfl⟩ ⟨rfl, rfl⟩ dX3_init_1 [] rfl rfl (Nat.le_of_ble_eq_true rfl) (c_X6_init _ _) hf 4 rfl (fun w3 hf => ?_)
  exact k_vret C hr h0 dX3_init_4 hf
theorem dX8_init_0 : decode cX8_init 0 = .ok (.aload_n 0, 1) := by decide +kernel
theorem dX8_init_1 : decode cX8_init 1 = .ok (.invokespecial 1, 3) := by decide +kernel
theorem dX8_init_4 : decode cX8_init 4 = .ok (.return_, 1) := by decide +kernel
set_option maxRecDepth 100000 in
set_option maxHeartbeats 4000000 in
theorem c_X8_init {g : Gv} {l : Launch} (p0 : Nat) (w0 : Wd) (wz : Wd) (hf : f_X8_init p0 w0 = some ((), wz)) : MV g l yX8_init cX8_init 1 3 60 0 0 [rV g p0] w0 wz := by
  refine mv_of RX8 (by decide) rfl (Nat.le_of_ble_eq_true rfl) ?_
  intro X hg hll C hr h0 hin
  subst hg; subst hll
  unfold f_X8_init at hf
  refine k_sub (lv2 := [(0, rV (xg X) p0)]) [0] rfl ?_
  refine k_aload_n C dX8_init_0 0 rfl rfl 1 rfl ?_
  refine k_callIN_v C ye_X9_init in_X8_1 ⟨rfl, rfl⟩ ⟨rfl, rfl⟩ dX8_init_1 [] rfl rfl (Nat.le_of_ble_eq_true rfl) (c_X9_init _ _) hf 4 rfl (fun w3 hf => ?_)
  exact k_vret C hr h0 dX8_init_4 hf
theorem dX4_init_0 : decode cX4_init 0 = .ok (.aload_n 0, 1) := by decide +kernel
theorem dX4_init_1 : decode cX4_init 1 = .ok (.invokespecial 1, 3) := by decide +kernel
theorem dX4_init_4 : decode cX4_init 4 = .ok (.return_, 1) := by decide +kernel
set_option maxRecDepth 100000 in
set_option maxHeartbeats 4000000 in
theorem c_X4_init {g : Gv} {l : Launch} (p0 : Nat) (w0 : Wd) (wz : Wd) (hf : f_X4_init p0 w0 = some ((), wz)) : MV g l yX4_init cX4_init 1 3 60 0 0 [rV g p0] w0 wz := by
  refine mv_of RX4 (by decide) rfl (Nat.le_of_ble_eq_true rfl) ?_
  intro X hg hll C hr h0 hin
  subst hg; subst hll
  unfold f_X4_init at hf
  refine k_sub (lv2 := [(0, rV (xg X) p0)]) [0] rfl ?_
  refine k_aload_n C dX4_init_0 0 rfl rfl 1 rfl ?_
  refine k_callIN_v C ye_X5_init in_X4_1 ⟨rfl, rfl⟩ ⟨rfl, rfl⟩ dX4_init_1 [] rfl rfl (Nat.le_of_ble_eq_true rfl) (c_X5_init _ _) hf 4 rfl (fun w3 hf => ?_)
  exact k_vret C hr h0 dX4_init_4 hf
theorem dX1_init_0 : decode cX1_init 0 = .ok (.aload_n 0, 1) := by decide +kernel
theorem dX1_init_1 : decode cX1_init 1 = .ok (.invokespecial 1, 3) := by decide +kernel
theorem dX1_init_4 : decode cX1_init 4 = .ok (.aload_n 0, 1) := by decide +kernel
theorem dX1_init_5 : decode cX1_init 5 = .ok (.aload_n 1, 1) := by decide +kernel
theorem dX1_init_6 : decode cX1_init 6 = .ok (.putfield 7, 3) := by decide +kernel
theorem dX1_init_9 : decode cX1_init 9 = .ok (.return_, 1) := by decide +kernel
set_option maxRecDepth 100000 in
set_option maxHeartbeats 4000000 in
theorem c_X1_init {g : Gv} {l : Launch} (p0 : Nat) (p1 : Nat) (w0 : Wd) (wz : Wd) (hf : f_X1_init p0 p1 w0 = some ((), wz)) : MV g l yX1_init cX1_init 2 1 20 0 0 [rV g p0, rV g p1] w0 wz := by
  refine mv_of RX1 (by decide) rfl (Nat.le_of_ble_eq_true rfl) ?_
  intro X hg hll C hr h0 hin
  subst hg; subst hll
  unfold f_X1_init at hf
  refine k_sub (lv2 := [(0, rV (xg X) p0), (1, rV (xg X) p1)]) [0, 1] rfl ?_
  refine k_aload_n C dX1_init_0 0 rfl rfl 1 rfl ?_
  refine k_objInit C ob_X1 ob_i ob_c (Nat.le_of_ble_eq_true rfl) (Nat.le_of_ble_eq_true rfl) dX1_init_1 4 rfl ?_
  refine k_aload_n C dX1_init_4 0 rfl rfl 5 rfl ?_
  refine k_aload_n C dX1_init_5 1 rfl rfl 6 rfl ?_
  refine k_putRF C fe_X1_7 rfl rfl hin rfl dX1_init_6 hf 9 rfl (fun w6 _ hf => ?_)
  exact k_vret C hr h0 dX1_init_9 hf
theorem dX0_init_0 : decode cX0_init 0 = .ok (.aload_n 0, 1) := by decide +kernel
theorem dX0_init_1 : decode cX0_init 1 = .ok (.invokespecial 3, 3) := by decide +kernel
theorem dX0_init_4 : decode cX0_init 4 = .ok (.aload_n 0, 1) := by decide +kernel
theorem dX0_init_5 : decode cX0_init 5 = .ok (.bipush 6, 2) := by decide +kernel
theorem dX0_init_7 : decode cX0_init 7 = .ok (.newarray .int, 2) := by decide +kernel
theorem dX0_init_9 : decode cX0_init 9 = .ok (.putfield 11, 3) := by decide +kernel
theorem dX0_init_12 : decode cX0_init 12 = .ok (.aload_n 0, 1) := by decide +kernel
theorem dX0_init_13 : decode cX0_init 13 = .ok (.bipush 6, 2) := by decide +kernel
theorem dX0_init_15 : decode cX0_init 15 = .ok (.newarray .int, 2) := by decide +kernel
theorem dX0_init_17 : decode cX0_init 17 = .ok (.putfield 15, 3) := by decide +kernel
theorem dX0_init_20 : decode cX0_init 20 = .ok (.aload_n 0, 1) := by decide +kernel
theorem dX0_init_21 : decode cX0_init 21 = .ok (.bipush 24, 2) := by decide +kernel
theorem dX0_init_23 : decode cX0_init 23 = .ok (.newarray .int, 2) := by decide +kernel
theorem dX0_init_25 : decode cX0_init 25 = .ok (.putfield 18, 3) := by decide +kernel
theorem dX0_init_28 : decode cX0_init 28 = .ok (.aload_n 0, 1) := by decide +kernel
theorem dX0_init_29 : decode cX0_init 29 = .ok (.bipush 6, 2) := by decide +kernel
theorem dX0_init_31 : decode cX0_init 31 = .ok (.newarray .int, 2) := by decide +kernel
theorem dX0_init_33 : decode cX0_init 33 = .ok (.putfield 21, 3) := by decide +kernel
theorem dX0_init_36 : decode cX0_init 36 = .ok (.aload_n 0, 1) := by decide +kernel
theorem dX0_init_37 : decode cX0_init 37 = .ok (.bipush 6, 2) := by decide +kernel
theorem dX0_init_39 : decode cX0_init 39 = .ok (.newarray .int, 2) := by decide +kernel
theorem dX0_init_41 : decode cX0_init 41 = .ok (.putfield 24, 3) := by decide +kernel
theorem dX0_init_44 : decode cX0_init 44 = .ok (.aload_n 0, 1) := by decide +kernel
theorem dX0_init_45 : decode cX0_init 45 = .ok (.aload_n 1, 1) := by decide +kernel
theorem dX0_init_46 : decode cX0_init 46 = .ok (.putfield 27, 3) := by decide +kernel
theorem dX0_init_49 : decode cX0_init 49 = .ok (.return_, 1) := by decide +kernel
set_option maxRecDepth 100000 in
set_option maxHeartbeats 4000000 in
theorem c_X0_init {g : Gv} {l : Launch} (p0 : Nat) (p1 : Nat) (w0 : Wd) (wz : Wd) (hf : f_X0_init p0 p1 w0 = some ((), wz)) : MV g l yX0_init cX0_init 2 1 20 5 48 [rV g p0, rV g p1] w0 wz := by
  refine mv_of RX0 (by decide) rfl (Nat.le_of_ble_eq_true rfl) ?_
  intro X hg hll C hr h0 hin
  subst hg; subst hll
  unfold f_X0_init at hf
  refine k_sub (lv2 := [(0, rV (xg X) p0), (1, rV (xg X) p1)]) [0, 1] rfl ?_
  refine k_aload_n C dX0_init_0 0 rfl rfl 1 rfl ?_
  refine k_objInit C ob_X0 ob_i ob_c (Nat.le_of_ble_eq_true rfl) (Nat.le_of_ble_eq_true rfl) dX0_init_1 4 rfl ?_
  refine k_aload_n C dX0_init_4 0 rfl rfl 5 rfl ?_
  refine k_bipush C dX0_init_5 (6) (by decide) 7 rfl ?_
  refine k_newa (t := 14) (at_ := .int) rfl (by decide) (by decide) 1 (fun _ => rfl) (fun _ _ h => h) rfl (by decide) C arr_int ⟨by decide, by decide, by decide⟩ ⟨rfl, rfl⟩ dX0_init_7 hf 9 rfl (fun w16 hf => ?_)
  refine k_putRF C fe_X0_11 rfl rfl hin rfl dX0_init_9 hf 12 rfl (fun w17 _ hf => ?_)
  refine k_aload_n C dX0_init_12 0 rfl rfl 13 rfl ?_
  refine k_bipush C dX0_init_13 (6) (by decide) 15 rfl ?_
  refine k_newa (t := 14) (at_ := .int) rfl (by decide) (by decide) 1 (fun _ => rfl) (fun _ _ h => h) rfl (by decide) C arr_int ⟨by decide, by decide, by decide⟩ ⟨rfl, rfl⟩ dX0_init_15 hf 17 rfl (fun w18 hf => ?_)
  refine k_putRF C fe_X0_15 rfl rfl hin rfl dX0_init_17 hf 20 rfl (fun w19 _ hf => ?_)
  refine k_aload_n C dX0_init_20 0 rfl rfl 21 rfl ?_
  refine k_bipush C dX0_init_21 (24) (by decide) 23 rfl ?_
  refine k_newa (t := 14) (at_ := .int) rfl (by decide) (by decide) 1 (fun _ => rfl) (fun _ _ h => h) rfl (by decide) C arr_int ⟨by decide, by decide, by decide⟩ ⟨rfl, rfl⟩ dX0_init_23 hf 25 rfl (fun w20 hf => ?_)
  refine k_putRF C fe_X0_18 rfl rfl hin rfl dX0_init_25 hf 28 rfl (fun w21 _ hf => ?_)
  refine k_aload_n C dX0_init_28 0 rfl rfl 29 rfl ?_
  refine k_bipush C dX0_init_29 (6) (by decide) 31 rfl ?_
  refine k_newa (t := 14) (at_ := .int) rfl (by decide) (by decide) 1 (fun _ => rfl) (fun _ _ h => h) rfl (by decide) C arr_int ⟨by decide, by decide, by decide⟩ ⟨rfl, rfl⟩ dX0_init_31 hf 33 rfl (fun w22 hf => ?_)
  refine k_putRF C fe_X0_21 rfl rfl hin rfl dX0_init_33 hf 36 rfl (fun w23 _ hf => ?_)
  refine k_aload_n C dX0_init_36 0 rfl rfl 37 rfl ?_
  refine k_bipush C dX0_init_37 (6) (by decide) 39 rfl ?_
  refine k_newa (t := 14) (at_ := .int) rfl (by decide) (by decide) 1 (fun _ => rfl) (fun _ _ h => h) rfl (by decide) C arr_int ⟨by decide, by decide, by decide⟩ ⟨rfl, rfl⟩ dX0_init_39 hf 41 rfl (fun w24 hf => ?_)
  refine k_putRF C fe_X0_24 rfl rfl hin rfl dX0_init_41 hf 44 rfl (fun w25 _ hf => ?_)
  refine k_aload_n C dX0_init_44 0 rfl rfl 45 rfl ?_
  refine k_aload_n C dX0_init_45 1 rfl rfl 46 rfl ?_
  refine k_putRF C fe_X0_27 rfl rfl hin rfl dX0_init_46 hf 49 rfl (fun w26 _ hf => ?_)
  exact k_vret C hr h0 dX0_init_49 hf
theorem dX2_init_0 : decode cX2_init 0 = .ok (.aload_n 0, 1) := by decide +kernel
theorem dX2_init_1 : decode cX2_init 1 = .ok (.invokespecial 3, 3) := by decide +kernel
theorem dX2_init_4 : decode cX2_init 4 = .ok (.aload_n 0, 1) := by decide +kernel
theorem dX2_init_5 : decode cX2_init 5 = .ok (.bipush 6, 2) := by decide +kernel
theorem dX2_init_7 : decode cX2_init 7 = .ok (.anewarray 9, 3) := by decide +kernel
theorem dX2_init_10 : decode cX2_init 10 = .ok (.putfield 11, 3) := by decide +kernel
theorem dX2_init_13 : decode cX2_init 13 = .ok (.aload_n 0, 1) := by decide +kernel
theorem dX2_init_14 : decode cX2_init 14 = .ok (.sipush 136, 3) := by decide +kernel
theorem dX2_init_17 : decode cX2_init 17 = .ok (.newarray .int, 2) := by decide +kernel
theorem dX2_init_19 : decode cX2_init 19 = .ok (.putfield 17, 3) := by decide +kernel
theorem dX2_init_22 : decode cX2_init 22 = .ok (.aload_n 0, 1) := by decide +kernel
theorem dX2_init_23 : decode cX2_init 23 = .ok (.new 21, 3) := by decide +kernel
theorem dX2_init_26 : decode cX2_init 26 = .ok (.dup, 1) := by decide +kernel
theorem dX2_init_27 : decode cX2_init 27 = .ok (.aload_n 1, 1) := by decide +kernel
theorem dX2_init_28 : decode cX2_init 28 = .ok (.invokespecial 23, 3) := by decide +kernel
theorem dX2_init_31 : decode cX2_init 31 = .ok (.putfield 26, 3) := by decide +kernel
theorem dX2_init_34 : decode cX2_init 34 = .ok (.iconst 0, 1) := by decide +kernel
theorem dX2_init_35 : decode cX2_init 35 = .ok (.istore_n 2, 1) := by decide +kernel
theorem dX2_init_36 : decode cX2_init 36 = .ok (.iload_n 2, 1) := by decide +kernel
theorem dX2_init_37 : decode cX2_init 37 = .ok (.bipush 6, 2) := by decide +kernel
theorem dX2_init_39 : decode cX2_init 39 = .ok (.if_icmp .ge 23, 3) := by decide +kernel
theorem dX2_init_42 : decode cX2_init 42 = .ok (.aload_n 0, 1) := by decide +kernel
theorem dX2_init_43 : decode cX2_init 43 = .ok (.getfield 11, 3) := by decide +kernel
theorem dX2_init_46 : decode cX2_init 46 = .ok (.iload_n 2, 1) := by decide +kernel
theorem dX2_init_47 : decode cX2_init 47 = .ok (.new 9, 3) := by decide +kernel
theorem dX2_init_50 : decode cX2_init 50 = .ok (.dup, 1) := by decide +kernel
theorem dX2_init_51 : decode cX2_init 51 = .ok (.aload_n 1, 1) := by decide +kernel
theorem dX2_init_52 : decode cX2_init 52 = .ok (.invokespecial 30, 3) := by decide +kernel
theorem dX2_init_55 : decode cX2_init 55 = .ok (.aastore, 1) := by decide +kernel
theorem dX2_init_56 : decode cX2_init 56 = .ok (.iinc 2 1, 3) := by decide +kernel
theorem dX2_init_59 : decode cX2_init 59 = .ok (.goto (-23), 3) := by decide +kernel
theorem dX2_init_62 : decode cX2_init 62 = .ok (.aload_n 0, 1) := by decide +kernel
theorem dX2_init_63 : decode cX2_init 63 = .ok (.bipush 60, 2) := by decide +kernel
theorem dX2_init_65 : decode cX2_init 65 = .ok (.invokevirtual 31, 3) := by decide +kernel
theorem dX2_init_68 : decode cX2_init 68 = .ok (.return_, 1) := by decide +kernel
set_option maxRecDepth 100000 in
set_option maxHeartbeats 4000000 in
theorem c_X2_init {g : Gv} {l : Launch} (p0 : Nat) (p1 : Nat) (w0 : Wd) (wz : Wd) (hf : f_X2_init p0 p1 w0 = some ((), wz)) : MV g l yX2_init cX2_init 3 2 41 14 234 [rV g p0, rV g p1] w0 wz := by
  refine mv_of RX2 (by decide) rfl (Nat.le_of_ble_eq_true rfl) ?_
  intro X hg hll C hr h0 hin
  subst hg; subst hll
  unfold f_X2_init at hf
  refine k_sub (lv2 := [(0, rV (xg X) p0), (1, rV (xg X) p1)]) [0, 1] rfl ?_
  refine k_aload_n C dX2_init_0 0 rfl rfl 1 rfl ?_
  refine k_objInit C ob_X2 ob_i ob_c (Nat.le_of_ble_eq_true rfl) (Nat.le_of_ble_eq_true rfl) dX2_init_1 4 rfl ?_
  refine k_aload_n C dX2_init_4 0 rfl rfl 5 rfl ?_
  refine k_bipush C dX2_init_5 (6) (by decide) 7 rfl ?_
  refine k_newq (t := 16) (Cn := "GrindMill$Goods") 3 (by decide) (fun _ => rfl) C cl_X2_9 (fun _ h => h.1) ⟨by decide, by decide, by decide⟩ ⟨rfl, rfl⟩ dX2_init_7 hf 10 rfl (fun w45 hf => ?_)
  refine k_putRF C fe_X2_11 rfl rfl hin rfl dX2_init_10 hf 13 rfl (fun w46 _ hf => ?_)
  refine k_aload_n C dX2_init_13 0 rfl rfl 14 rfl ?_
  refine k_sipush C dX2_init_14 (136) (by decide) 17 rfl ?_
  refine k_newa (t := 14) (at_ := .int) rfl (by decide) (by decide) 1 (fun _ => rfl) (fun _ _ h => h) rfl (by decide) C arr_int ⟨by decide, by decide, by decide⟩ ⟨rfl, rfl⟩ dX2_init_17 hf 19 rfl (fun w47 hf => ?_)
  refine k_putRF C fe_X2_17 rfl rfl hin rfl dX2_init_19 hf 22 rfl (fun w48 _ hf => ?_)
  refine k_aload_n C dX2_init_22 0 rfl rfl 23 rfl ?_
  refine k_new C ce_0 cl_X2_21 ins_0 ini_0 ⟨rfl, rfl⟩ dX2_init_23 hf 26 rfl (fun w49 hf => ?_)
  refine k_dup C dX2_init_26 rfl 27 rfl ?_
  refine k_aload_n C dX2_init_27 1 rfl rfl 28 rfl ?_
  refine k_callI_v C ye_X0_init ie_X2_23 ⟨rfl, rfl⟩ ⟨rfl, rfl⟩ dX2_init_28 [rV (xg X) p1] rfl rfl (Nat.le_of_ble_eq_true rfl) (c_X0_init _ _ _) hf 31 rfl (fun w50 hf => ?_)
  refine k_putRF C fe_X2_26 rfl rfl hin rfl dX2_init_31 hf 34 rfl (fun w52 _ hf => ?_)
  refine k_iconst C dX2_init_34 (0) (by decide) 35 rfl ?_
  refine k_istore_n C dX2_init_35 rfl (by decide) [(2, .int (0 : Int32)), (0, rV (xg X) p0), (1, rV (xg X) p1)] rfl 36 rfl ?_
  refine k_iload_n C dX2_init_36 0 rfl 37 rfl ?_
  refine k_bipush C dX2_init_37 (6) (by decide) 39 rfl ?_
  refine k_icmp_ge (z := ()) C dX2_init_39 (show (if (6 : Int32) ≤ (0 : Int32) then none else some ()) = some () by decide) 62 rfl 42 rfl (fun hf => by cases hf) (fun _ => ?_)
  refine k_aload_n C dX2_init_42 1 rfl rfl 43 rfl ?_
  refine k_getR C fe_X2_11 rfl dX2_init_43 hf 46 rfl (fun r53 hf => ?_)
  refine k_iload_n C dX2_init_46 0 rfl 47 rfl ?_
  refine k_new C ce_1 cl_X2_9 ins_1 ini_1 ⟨rfl, rfl⟩ dX2_init_47 hf 50 rfl (fun w54 hf => ?_)
  refine k_dup C dX2_init_50 rfl 51 rfl ?_
  refine k_aload_n C dX2_init_51 2 rfl rfl 52 rfl ?_
  refine k_callI_v C ye_X1_init ie_X2_30 ⟨rfl, rfl⟩ ⟨rfl, rfl⟩ dX2_init_52 [rV (xg X) p1] rfl rfl (Nat.le_of_ble_eq_true rfl) (c_X1_init _ _ _) hf 55 rfl (fun w55 hf => ?_)
  refine k_aast (t := 16) (tr := 1) (Cn := "GrindMill$Goods") 3 (by decide) (fun _ => rfl) ce_1 (Or.inl rfl) C dX2_init_55 hf 56 rfl (fun w57 _ hf => ?_)
  refine k_iinc (v := 1) C dX2_init_56 0 rfl (by decide) (by decide) [(2, .int (1 : Int32)), (0, rV (xg X) p0), (1, rV (xg X) p1)] rfl 59 rfl ?_
  refine k_goto C dX2_init_59 36 rfl ?_
  refine k_iload_n C dX2_init_36 0 rfl 37 rfl ?_
  refine k_bipush C dX2_init_37 (6) (by decide) 39 rfl ?_
  refine k_icmp_ge (z := ()) C dX2_init_39 (show (if (6 : Int32) ≤ (1 : Int32) then none else some ()) = some () by decide) 62 rfl 42 rfl (fun hf => by cases hf) (fun _ => ?_)
  refine k_aload_n C dX2_init_42 1 rfl rfl 43 rfl ?_
  refine k_getR C fe_X2_11 rfl dX2_init_43 hf 46 rfl (fun r58 hf => ?_)
  refine k_iload_n C dX2_init_46 0 rfl 47 rfl ?_
  refine k_new C ce_1 cl_X2_9 ins_1 ini_1 ⟨rfl, rfl⟩ dX2_init_47 hf 50 rfl (fun w59 hf => ?_)
  refine k_dup C dX2_init_50 rfl 51 rfl ?_
  refine k_aload_n C dX2_init_51 2 rfl rfl 52 rfl ?_
  refine k_callI_v C ye_X1_init ie_X2_30 ⟨rfl, rfl⟩ ⟨rfl, rfl⟩ dX2_init_52 [rV (xg X) p1] rfl rfl (Nat.le_of_ble_eq_true rfl) (c_X1_init _ _ _) hf 55 rfl (fun w60 hf => ?_)
  refine k_aast (t := 16) (tr := 1) (Cn := "GrindMill$Goods") 3 (by decide) (fun _ => rfl) ce_1 (Or.inl rfl) C dX2_init_55 hf 56 rfl (fun w62 _ hf => ?_)
  refine k_iinc (v := 1) C dX2_init_56 0 rfl (by decide) (by decide) [(2, .int (2 : Int32)), (0, rV (xg X) p0), (1, rV (xg X) p1)] rfl 59 rfl ?_
  refine k_goto C dX2_init_59 36 rfl ?_
  refine k_iload_n C dX2_init_36 0 rfl 37 rfl ?_
  refine k_bipush C dX2_init_37 (6) (by decide) 39 rfl ?_
  refine k_icmp_ge (z := ()) C dX2_init_39 (show (if (6 : Int32) ≤ (2 : Int32) then none else some ()) = some () by decide) 62 rfl 42 rfl (fun hf => by cases hf) (fun _ => ?_)
  refine k_aload_n C dX2_init_42 1 rfl rfl 43 rfl ?_
  refine k_getR C fe_X2_11 rfl dX2_init_43 hf 46 rfl (fun r63 hf => ?_)
  refine k_iload_n C dX2_init_46 0 rfl 47 rfl ?_
  refine k_new C ce_1 cl_X2_9 ins_1 ini_1 ⟨rfl, rfl⟩ dX2_init_47 hf 50 rfl (fun w64 hf => ?_)
  refine k_dup C dX2_init_50 rfl 51 rfl ?_
  refine k_aload_n C dX2_init_51 2 rfl rfl 52 rfl ?_
  refine k_callI_v C ye_X1_init ie_X2_30 ⟨rfl, rfl⟩ ⟨rfl, rfl⟩ dX2_init_52 [rV (xg X) p1] rfl rfl (Nat.le_of_ble_eq_true rfl) (c_X1_init _ _ _) hf 55 rfl (fun w65 hf => ?_)
  refine k_aast (t := 16) (tr := 1) (Cn := "GrindMill$Goods") 3 (by decide) (fun _ => rfl) ce_1 (Or.inl rfl) C dX2_init_55 hf 56 rfl (fun w67 _ hf => ?_)
  refine k_iinc (v := 1) C dX2_init_56 0 rfl (by decide) (by decide) [(2, .int (3 : Int32)), (0, rV (xg X) p0), (1, rV (xg X) p1)] rfl 59 rfl ?_
  refine k_goto C dX2_init_59 36 rfl ?_
  refine k_iload_n C dX2_init_36 0 rfl 37 rfl ?_
  refine k_bipush C dX2_init_37 (6) (by decide) 39 rfl ?_
  refine k_icmp_ge (z := ()) C dX2_init_39 (show (if (6 : Int32) ≤ (3 : Int32) then none else some ()) = some () by decide) 62 rfl 42 rfl (fun hf => by cases hf) (fun _ => ?_)
  refine k_aload_n C dX2_init_42 1 rfl rfl 43 rfl ?_
  refine k_getR C fe_X2_11 rfl dX2_init_43 hf 46 rfl (fun r68 hf => ?_)
  refine k_iload_n C dX2_init_46 0 rfl 47 rfl ?_
  refine k_new C ce_1 cl_X2_9 ins_1 ini_1 ⟨rfl, rfl⟩ dX2_init_47 hf 50 rfl (fun w69 hf => ?_)
  refine k_dup C dX2_init_50 rfl 51 rfl ?_
  refine k_aload_n C dX2_init_51 2 rfl rfl 52 rfl ?_
  refine k_callI_v C ye_X1_init ie_X2_30 ⟨rfl, rfl⟩ ⟨rfl, rfl⟩ dX2_init_52 [rV (xg X) p1] rfl rfl (Nat.le_of_ble_eq_true rfl) (c_X1_init _ _ _) hf 55 rfl (fun w70 hf => ?_)
  refine k_aast (t := 16) (tr := 1) (Cn := "GrindMill$Goods") 3 (by decide) (fun _ => rfl) ce_1 (Or.inl rfl) C dX2_init_55 hf 56 rfl (fun w72 _ hf => ?_)
  refine k_iinc (v := 1) C dX2_init_56 0 rfl (by decide) (by decide) [(2, .int (4 : Int32)), (0, rV (xg X) p0), (1, rV (xg X) p1)] rfl 59 rfl ?_
  refine k_goto C dX2_init_59 36 rfl ?_
  refine k_iload_n C dX2_init_36 0 rfl 37 rfl ?_
  refine k_bipush C dX2_init_37 (6) (by decide) 39 rfl ?_
  refine k_icmp_ge (z := ()) C dX2_init_39 (show (if (6 : Int32) ≤ (4 : Int32) then none else some ()) = some () by decide) 62 rfl 42 rfl (fun hf => by cases hf) (fun _ => ?_)
  refine k_aload_n C dX2_init_42 1 rfl rfl 43 rfl ?_
  refine k_getR C fe_X2_11 rfl dX2_init_43 hf 46 rfl (fun r73 hf => ?_)
  refine k_iload_n C dX2_init_46 0 rfl 47 rfl ?_
  refine k_new C ce_1 cl_X2_9 ins_1 ini_1 ⟨rfl, rfl⟩ dX2_init_47 hf 50 rfl (fun w74 hf => ?_)
  refine k_dup C dX2_init_50 rfl 51 rfl ?_
  refine k_aload_n C dX2_init_51 2 rfl rfl 52 rfl ?_
  refine k_callI_v C ye_X1_init ie_X2_30 ⟨rfl, rfl⟩ ⟨rfl, rfl⟩ dX2_init_52 [rV (xg X) p1] rfl rfl (Nat.le_of_ble_eq_true rfl) (c_X1_init _ _ _) hf 55 rfl (fun w75 hf => ?_)
  refine k_aast (t := 16) (tr := 1) (Cn := "GrindMill$Goods") 3 (by decide) (fun _ => rfl) ce_1 (Or.inl rfl) C dX2_init_55 hf 56 rfl (fun w77 _ hf => ?_)
  refine k_iinc (v := 1) C dX2_init_56 0 rfl (by decide) (by decide) [(2, .int (5 : Int32)), (0, rV (xg X) p0), (1, rV (xg X) p1)] rfl 59 rfl ?_
  refine k_goto C dX2_init_59 36 rfl ?_
  refine k_iload_n C dX2_init_36 0 rfl 37 rfl ?_
  refine k_bipush C dX2_init_37 (6) (by decide) 39 rfl ?_
  refine k_icmp_ge (z := ()) C dX2_init_39 (show (if (6 : Int32) ≤ (5 : Int32) then none else some ()) = some () by decide) 62 rfl 42 rfl (fun hf => by cases hf) (fun _ => ?_)
  refine k_aload_n C dX2_init_42 1 rfl rfl 43 rfl ?_
  refine k_getR C fe_X2_11 rfl dX2_init_43 hf 46 rfl (fun r78 hf => ?_)
  refine k_iload_n C dX2_init_46 0 rfl 47 rfl ?_
  refine k_new C ce_1 cl_X2_9 ins_1 ini_1 ⟨rfl, rfl⟩ dX2_init_47 hf 50 rfl (fun w79 hf => ?_)
  refine k_dup C dX2_init_50 rfl 51 rfl ?_
  refine k_aload_n C dX2_init_51 2 rfl rfl 52 rfl ?_
  refine k_callI_v C ye_X1_init ie_X2_30 ⟨rfl, rfl⟩ ⟨rfl, rfl⟩ dX2_init_52 [rV (xg X) p1] rfl rfl (Nat.le_of_ble_eq_true rfl) (c_X1_init _ _ _) hf 55 rfl (fun w80 hf => ?_)
  refine k_aast (t := 16) (tr := 1) (Cn := "GrindMill$Goods") 3 (by decide) (fun _ => rfl) ce_1 (Or.inl rfl) C dX2_init_55 hf 56 rfl (fun w82 _ hf => ?_)
  refine k_iinc (v := 1) C dX2_init_56 0 rfl (by decide) (by decide) [(2, .int (6 : Int32)), (0, rV (xg X) p0), (1, rV (xg X) p1)] rfl 59 rfl ?_
  refine k_goto C dX2_init_59 36 rfl ?_
  refine k_iload_n C dX2_init_36 0 rfl 37 rfl ?_
  refine k_bipush C dX2_init_37 (6) (by decide) 39 rfl ?_
  refine k_icmp_ge (z := ()) C dX2_init_39 (show (if (6 : Int32) ≤ (6 : Int32) then some () else none) = some () by decide) 62 rfl 42 rfl (fun _ => ?_) (fun hf => by cases hf)
  refine k_aload_n C dX2_init_62 1 rfl rfl 63 rfl ?_
  refine k_bipush C dX2_init_63 (60) (by decide) 65 rfl ?_
  refine k_callV_v C ye_X2_startAnew ve_X2_31 ⟨rfl, rfl⟩ ⟨rfl, rfl⟩ dX2_init_65 [.int (60 : Int32)] rfl rfl (Nat.le_of_ble_eq_true rfl) (c_X2_startAnew _ _ _) hf 68 rfl (fun w83 hf => ?_)
  exact k_vret C hr h0 dX2_init_68 hf
theorem dX10_init_0 : decode cX10_init 0 = .ok (.aload_n 0, 1) := by decide +kernel
theorem dX10_init_1 : decode cX10_init 1 = .ok (.invokespecial 3, 3) := by decide +kernel
theorem dX10_init_4 : decode cX10_init 4 = .ok (.aload_n 0, 1) := by decide +kernel
theorem dX10_init_5 : decode cX10_init 5 = .ok (.sipush 150, 3) := by decide +kernel
theorem dX10_init_8 : decode cX10_init 8 = .ok (.newarray .byte, 2) := by decide +kernel
theorem dX10_init_10 : decode cX10_init 10 = .ok (.putfield 11, 3) := by decide +kernel
theorem dX10_init_13 : decode cX10_init 13 = .ok (.return_, 1) := by decide +kernel
set_option maxRecDepth 100000 in
set_option maxHeartbeats 4000000 in
theorem c_X10_init {g : Gv} {l : Launch} (p0 : Nat) (w0 : Wd) (wz : Wd) (hf : f_X10_init p0 w0 = some ((), wz)) : MV g l yX10_init cX10_init 1 1 20 1 150 [rV g p0] w0 wz := by
  refine mv_of RX10 (by decide) rfl (Nat.le_of_ble_eq_true rfl) ?_
  intro X hg hll C hr h0 hin
  subst hg; subst hll
  unfold f_X10_init at hf
  refine k_sub (lv2 := [(0, rV (xg X) p0)]) [0] rfl ?_
  refine k_aload_n C dX10_init_0 0 rfl rfl 1 rfl ?_
  refine k_objInit C ob_X10 ob_i ob_c (Nat.le_of_ble_eq_true rfl) (Nat.le_of_ble_eq_true rfl) dX10_init_1 4 rfl ?_
  refine k_aload_n C dX10_init_4 0 rfl rfl 5 rfl ?_
  refine k_sipush C dX10_init_5 (150) (by decide) 8 rfl ?_
  refine k_newa (t := 13) (at_ := .byte) rfl (by decide) (by decide) 0 (fun _ => rfl) (fun _ _ h => h) rfl (by decide) C arr_byte ⟨by decide, by decide, by decide⟩ ⟨rfl, rfl⟩ dX10_init_8 hf 10 rfl (fun w7 hf => ?_)
  refine k_putRF C fe_X10_11 rfl rfl hin rfl dX10_init_10 hf 13 rfl (fun w8 _ hf => ?_)
  exact k_vret C hr h0 dX10_init_13 hf
theorem dX7_init_0 : decode cX7_init 0 = .ok (.aload_n 0, 1) := by decide +kernel
theorem dX7_init_1 : decode cX7_init 1 = .ok (.invokespecial 3, 3) := by decide +kernel
theorem dX7_init_4 : decode cX7_init 4 = .ok (.aload_n 0, 1) := by decide +kernel
theorem dX7_init_5 : decode cX7_init 5 = .ok (.bipush 6, 2) := by decide +kernel
theorem dX7_init_7 : decode cX7_init 7 = .ok (.newarray .int, 2) := by decide +kernel
theorem dX7_init_9 : decode cX7_init 9 = .ok (.putfield 9, 3) := by decide +kernel
theorem dX7_init_12 : decode cX7_init 12 = .ok (.aload_n 0, 1) := by decide +kernel
theorem dX7_init_13 : decode cX7_init 13 = .ok (.bipush 6, 2) := by decide +kernel
theorem dX7_init_15 : decode cX7_init 15 = .ok (.newarray .int, 2) := by decide +kernel
theorem dX7_init_17 : decode cX7_init 17 = .ok (.putfield 15, 3) := by decide +kernel
theorem dX7_init_20 : decode cX7_init 20 = .ok (.aload_n 0, 1) := by decide +kernel
theorem dX7_init_21 : decode cX7_init 21 = .ok (.bipush 61, 2) := by decide +kernel
theorem dX7_init_23 : decode cX7_init 23 = .ok (.newarray .int, 2) := by decide +kernel
theorem dX7_init_25 : decode cX7_init 25 = .ok (.putfield 18, 3) := by decide +kernel
theorem dX7_init_28 : decode cX7_init 28 = .ok (.aload_n 0, 1) := by decide +kernel
theorem dX7_init_29 : decode cX7_init 29 = .ok (.bipush 6, 2) := by decide +kernel
theorem dX7_init_31 : decode cX7_init 31 = .ok (.bipush 13, 2) := by decide +kernel
theorem dX7_init_33 : decode cX7_init 33 = .ok (.multianewarray 21 2, 4) := by decide +kernel
theorem dX7_init_37 : decode cX7_init 37 = .ok (.putfield 23, 3) := by decide +kernel
theorem dX7_init_40 : decode cX7_init 40 = .ok (.aload_n 0, 1) := by decide +kernel
theorem dX7_init_41 : decode cX7_init 41 = .ok (.bipush 7, 2) := by decide +kernel
theorem dX7_init_43 : decode cX7_init 43 = .ok (.bipush 13, 2) := by decide +kernel
theorem dX7_init_45 : decode cX7_init 45 = .ok (.multianewarray 21 2, 4) := by decide +kernel
theorem dX7_init_49 : decode cX7_init 49 = .ok (.putfield 26, 3) := by decide +kernel
theorem dX7_init_52 : decode cX7_init 52 = .ok (.aload_n 0, 1) := by decide +kernel
theorem dX7_init_53 : decode cX7_init 53 = .ok (.bipush 6, 2) := by decide +kernel
theorem dX7_init_55 : decode cX7_init 55 = .ok (.newarray .int, 2) := by decide +kernel
theorem dX7_init_57 : decode cX7_init 57 = .ok (.putfield 29, 3) := by decide +kernel
theorem dX7_init_60 : decode cX7_init 60 = .ok (.aload_n 0, 1) := by decide +kernel
theorem dX7_init_61 : decode cX7_init 61 = .ok (.bipush 6, 2) := by decide +kernel
theorem dX7_init_63 : decode cX7_init 63 = .ok (.newarray .int, 2) := by decide +kernel
theorem dX7_init_65 : decode cX7_init 65 = .ok (.putfield 32, 3) := by decide +kernel
theorem dX7_init_68 : decode cX7_init 68 = .ok (.aload_n 0, 1) := by decide +kernel
theorem dX7_init_69 : decode cX7_init 69 = .ok (.bipush 6, 2) := by decide +kernel
theorem dX7_init_71 : decode cX7_init 71 = .ok (.newarray .int, 2) := by decide +kernel
theorem dX7_init_73 : decode cX7_init 73 = .ok (.putfield 35, 3) := by decide +kernel
theorem dX7_init_76 : decode cX7_init 76 = .ok (.return_, 1) := by decide +kernel
set_option maxRecDepth 100000 in
set_option maxHeartbeats 4000000 in
theorem c_X7_init {g : Gv} {l : Launch} (p0 : Nat) (w0 : Wd) (wz : Wd) (hf : f_X7_init p0 w0 = some ((), wz)) : MV g l yX7_init cX7_init 1 1 20 21 273 [rV g p0] w0 wz := by
  refine mv_of RX7 (by decide) rfl (Nat.le_of_ble_eq_true rfl) ?_
  intro X hg hll C hr h0 hin
  subst hg; subst hll
  unfold f_X7_init at hf
  refine k_sub (lv2 := [(0, rV (xg X) p0)]) [0] rfl ?_
  refine k_aload_n C dX7_init_0 0 rfl rfl 1 rfl ?_
  refine k_objInit C ob_X7 ob_i ob_c (Nat.le_of_ble_eq_true rfl) (Nat.le_of_ble_eq_true rfl) dX7_init_1 4 rfl ?_
  refine k_aload_n C dX7_init_4 0 rfl rfl 5 rfl ?_
  refine k_bipush C dX7_init_5 (6) (by decide) 7 rfl ?_
  refine k_newa (t := 14) (at_ := .int) rfl (by decide) (by decide) 1 (fun _ => rfl) (fun _ _ h => h) rfl (by decide) C arr_int ⟨by decide, by decide, by decide⟩ ⟨rfl, rfl⟩ dX7_init_7 hf 9 rfl (fun w21 hf => ?_)
  refine k_putRF C fe_X7_9 rfl rfl hin rfl dX7_init_9 hf 12 rfl (fun w22 _ hf => ?_)
  refine k_aload_n C dX7_init_12 0 rfl rfl 13 rfl ?_
  refine k_bipush C dX7_init_13 (6) (by decide) 15 rfl ?_
  refine k_newa (t := 14) (at_ := .int) rfl (by decide) (by decide) 1 (fun _ => rfl) (fun _ _ h => h) rfl (by decide) C arr_int ⟨by decide, by decide, by decide⟩ ⟨rfl, rfl⟩ dX7_init_15 hf 17 rfl (fun w23 hf => ?_)
  refine k_putRF C fe_X7_15 rfl rfl hin rfl dX7_init_17 hf 20 rfl (fun w24 _ hf => ?_)
  refine k_aload_n C dX7_init_20 0 rfl rfl 21 rfl ?_
  refine k_bipush C dX7_init_21 (61) (by decide) 23 rfl ?_
  refine k_newa (t := 14) (at_ := .int) rfl (by decide) (by decide) 1 (fun _ => rfl) (fun _ _ h => h) rfl (by decide) C arr_int ⟨by decide, by decide, by decide⟩ ⟨rfl, rfl⟩ dX7_init_23 hf 25 rfl (fun w25 hf => ?_)
  refine k_putRF C fe_X7_18 rfl rfl hin rfl dX7_init_25 hf 28 rfl (fun w26 _ hf => ?_)
  refine k_aload_n C dX7_init_28 0 rfl rfl 29 rfl ?_
  refine k_bipush C dX7_init_29 (6) (by decide) 31 rfl ?_
  refine k_bipush C dX7_init_31 (13) (by decide) 33 rfl ?_
  refine k_mna C cl_X7_21 arr_int ⟨by decide, by decide, by decide⟩ ⟨by decide, by decide, by decide⟩ ⟨rfl, rfl⟩ dX7_init_33 hf 37 rfl (fun w27 hf => ?_)
  refine k_putRF C fe_X7_23 rfl rfl hin rfl dX7_init_37 hf 40 rfl (fun w28 _ hf => ?_)
  refine k_aload_n C dX7_init_40 0 rfl rfl 41 rfl ?_
  refine k_bipush C dX7_init_41 (7) (by decide) 43 rfl ?_
  refine k_bipush C dX7_init_43 (13) (by decide) 45 rfl ?_
  refine k_mna C cl_X7_21 arr_int ⟨by decide, by decide, by decide⟩ ⟨by decide, by decide, by decide⟩ ⟨rfl, rfl⟩ dX7_init_45 hf 49 rfl (fun w29 hf => ?_)
  refine k_putRF C fe_X7_26 rfl rfl hin rfl dX7_init_49 hf 52 rfl (fun w30 _ hf => ?_)
  refine k_aload_n C dX7_init_52 0 rfl rfl 53 rfl ?_
  refine k_bipush C dX7_init_53 (6) (by decide) 55 rfl ?_
  refine k_newa (t := 14) (at_ := .int) rfl (by decide) (by decide) 1 (fun _ => rfl) (fun _ _ h => h) rfl (by decide) C arr_int ⟨by decide, by decide, by decide⟩ ⟨rfl, rfl⟩ dX7_init_55 hf 57 rfl (fun w31 hf => ?_)
  refine k_putRF C fe_X7_29 rfl rfl hin rfl dX7_init_57 hf 60 rfl (fun w32 _ hf => ?_)
  refine k_aload_n C dX7_init_60 0 rfl rfl 61 rfl ?_
  refine k_bipush C dX7_init_61 (6) (by decide) 63 rfl ?_
  refine k_newa (t := 14) (at_ := .int) rfl (by decide) (by decide) 1 (fun _ => rfl) (fun _ _ h => h) rfl (by decide) C arr_int ⟨by decide, by decide, by decide⟩ ⟨rfl, rfl⟩ dX7_init_63 hf 65 rfl (fun w33 hf => ?_)
  refine k_putRF C fe_X7_32 rfl rfl hin rfl dX7_init_65 hf 68 rfl (fun w34 _ hf => ?_)
  refine k_aload_n C dX7_init_68 0 rfl rfl 69 rfl ?_
  refine k_bipush C dX7_init_69 (6) (by decide) 71 rfl ?_
  refine k_newa (t := 14) (at_ := .int) rfl (by decide) (by decide) 1 (fun _ => rfl) (fun _ _ h => h) rfl (by decide) C arr_int ⟨by decide, by decide, by decide⟩ ⟨rfl, rfl⟩ dX7_init_71 hf 73 rfl (fun w35 hf => ?_)
  refine k_putRF C fe_X7_35 rfl rfl hin rfl dX7_init_73 hf 76 rfl (fun w36 _ hf => ?_)
  exact k_vret C hr h0 dX7_init_76 hf
theorem dX11_init_0 : decode cX11_init 0 = .ok (.aload_n 0, 1) := by decide +kernel
theorem dX11_init_1 : decode cX11_init 1 = .ok (.invokespecial 1, 3) := by decide +kernel
theorem dX11_init_4 : decode cX11_init 4 = .ok (.bipush 6, 2) := by decide +kernel
theorem dX11_init_6 : decode cX11_init 6 = .ok (.anewarray 7, 3) := by decide +kernel
theorem dX11_init_9 : decode cX11_init 9 = .ok (.dup, 1) := by decide +kernel
theorem dX11_init_10 : decode cX11_init 10 = .ok (.iconst 0, 1) := by decide +kernel
theorem dX11_init_11 : decode cX11_init 11 = .ok (.new 7, 3) := by decide +kernel
theorem dX11_init_14 : decode cX11_init 14 = .ok (.dup, 1) := by decide +kernel
theorem dX11_init_15 : decode cX11_init 15 = .ok (.invokespecial 9, 3) := by decide +kernel
theorem dX11_init_18 : decode cX11_init 18 = .ok (.aastore, 1) := by decide +kernel
theorem dX11_init_19 : decode cX11_init 19 = .ok (.dup, 1) := by decide +kernel
theorem dX11_init_20 : decode cX11_init 20 = .ok (.iconst 1, 1) := by decide +kernel
theorem dX11_init_21 : decode cX11_init 21 = .ok (.new 10, 3) := by decide +kernel
theorem dX11_init_24 : decode cX11_init 24 = .ok (.dup, 1) := by decide +kernel
theorem dX11_init_25 : decode cX11_init 25 = .ok (.invokespecial 12, 3) := by decide +kernel
theorem dX11_init_28 : decode cX11_init 28 = .ok (.aastore, 1) := by decide +kernel
theorem dX11_init_29 : decode cX11_init 29 = .ok (.dup, 1) := by decide +kernel
theorem dX11_init_30 : decode cX11_init 30 = .ok (.iconst 2, 1) := by decide +kernel
theorem dX11_init_31 : decode cX11_init 31 = .ok (.new 13, 3) := by decide +kernel
theorem dX11_init_34 : decode cX11_init 34 = .ok (.dup, 1) := by decide +kernel
theorem dX11_init_35 : decode cX11_init 35 = .ok (.invokespecial 15, 3) := by decide +kernel
theorem dX11_init_38 : decode cX11_init 38 = .ok (.aastore, 1) := by decide +kernel
theorem dX11_init_39 : decode cX11_init 39 = .ok (.dup, 1) := by decide +kernel
theorem dX11_init_40 : decode cX11_init 40 = .ok (.iconst 3, 1) := by decide +kernel
theorem dX11_init_41 : decode cX11_init 41 = .ok (.new 16, 3) := by decide +kernel
theorem dX11_init_44 : decode cX11_init 44 = .ok (.dup, 1) := by decide +kernel
theorem dX11_init_45 : decode cX11_init 45 = .ok (.invokespecial 18, 3) := by decide +kernel
theorem dX11_init_48 : decode cX11_init 48 = .ok (.aastore, 1) := by decide +kernel
theorem dX11_init_49 : decode cX11_init 49 = .ok (.dup, 1) := by decide +kernel
theorem dX11_init_50 : decode cX11_init 50 = .ok (.iconst 4, 1) := by decide +kernel
theorem dX11_init_51 : decode cX11_init 51 = .ok (.new 19, 3) := by decide +kernel
theorem dX11_init_54 : decode cX11_init 54 = .ok (.dup, 1) := by decide +kernel
theorem dX11_init_55 : decode cX11_init 55 = .ok (.invokespecial 21, 3) := by decide +kernel
theorem dX11_init_58 : decode cX11_init 58 = .ok (.aastore, 1) := by decide +kernel
theorem dX11_init_59 : decode cX11_init 59 = .ok (.dup, 1) := by decide +kernel
theorem dX11_init_60 : decode cX11_init 60 = .ok (.iconst 5, 1) := by decide +kernel
theorem dX11_init_61 : decode cX11_init 61 = .ok (.new 22, 3) := by decide +kernel
theorem dX11_init_64 : decode cX11_init 64 = .ok (.dup, 1) := by decide +kernel
theorem dX11_init_65 : decode cX11_init 65 = .ok (.invokespecial 24, 3) := by decide +kernel
theorem dX11_init_68 : decode cX11_init 68 = .ok (.aastore, 1) := by decide +kernel
theorem dX11_init_69 : decode cX11_init 69 = .ok (.astore_n 1, 1) := by decide +kernel
theorem dX11_init_70 : decode cX11_init 70 = .ok (.aload_n 0, 1) := by decide +kernel
theorem dX11_init_71 : decode cX11_init 71 = .ok (.new 25, 3) := by decide +kernel
theorem dX11_init_74 : decode cX11_init 74 = .ok (.dup, 1) := by decide +kernel
theorem dX11_init_75 : decode cX11_init 75 = .ok (.aload_n 1, 1) := by decide +kernel
theorem dX11_init_76 : decode cX11_init 76 = .ok (.invokespecial 27, 3) := by decide +kernel
theorem dX11_init_79 : decode cX11_init 79 = .ok (.putfield 30, 3) := by decide +kernel
theorem dX11_init_82 : decode cX11_init 82 = .ok (.aload_n 0, 1) := by decide +kernel
theorem dX11_init_83 : decode cX11_init 83 = .ok (.new 25, 3) := by decide +kernel
theorem dX11_init_86 : decode cX11_init 86 = .ok (.dup, 1) := by decide +kernel
theorem dX11_init_87 : decode cX11_init 87 = .ok (.aload_n 1, 1) := by decide +kernel
theorem dX11_init_88 : decode cX11_init 88 = .ok (.invokespecial 27, 3) := by decide +kernel
theorem dX11_init_91 : decode cX11_init 91 = .ok (.putfield 36, 3) := by decide +kernel
theorem dX11_init_94 : decode cX11_init 94 = .ok (.aload_n 0, 1) := by decide +kernel
theorem dX11_init_95 : decode cX11_init 95 = .ok (.iconst 2, 1) := by decide +kernel
theorem dX11_init_96 : decode cX11_init 96 = .ok (.anewarray 25, 3) := by decide +kernel
theorem dX11_init_99 : decode cX11_init 99 = .ok (.dup, 1) := by decide +kernel
theorem dX11_init_100 : decode cX11_init 100 = .ok (.iconst 0, 1) := by decide +kernel
theorem dX11_init_101 : decode cX11_init 101 = .ok (.new 25, 3) := by decide +kernel
theorem dX11_init_104 : decode cX11_init 104 = .ok (.dup, 1) := by decide +kernel
theorem dX11_init_105 : decode cX11_init 105 = .ok (.aload_n 1, 1) := by decide +kernel
theorem dX11_init_106 : decode cX11_init 106 = .ok (.invokespecial 27, 3) := by decide +kernel
theorem dX11_init_109 : decode cX11_init 109 = .ok (.aastore, 1) := by decide +kernel
theorem dX11_init_110 : decode cX11_init 110 = .ok (.dup, 1) := by decide +kernel
theorem dX11_init_111 : decode cX11_init 111 = .ok (.iconst 1, 1) := by decide +kernel
theorem dX11_init_112 : decode cX11_init 112 = .ok (.new 25, 3) := by decide +kernel
theorem dX11_init_115 : decode cX11_init 115 = .ok (.dup, 1) := by decide +kernel
theorem dX11_init_116 : decode cX11_init 116 = .ok (.aload_n 1, 1) := by decide +kernel
theorem dX11_init_117 : decode cX11_init 117 = .ok (.invokespecial 27, 3) := by decide +kernel
theorem dX11_init_120 : decode cX11_init 120 = .ok (.aastore, 1) := by decide +kernel
theorem dX11_init_121 : decode cX11_init 121 = .ok (.putfield 39, 3) := by decide +kernel
theorem dX11_init_124 : decode cX11_init 124 = .ok (.aload_n 0, 1) := by decide +kernel
theorem dX11_init_125 : decode cX11_init 125 = .ok (.iconst 2, 1) := by decide +kernel
theorem dX11_init_126 : decode cX11_init 126 = .ok (.newarray .boolean, 2) := by decide +kernel
theorem dX11_init_128 : decode cX11_init 128 = .ok (.putfield 43, 3) := by decide +kernel
theorem dX11_init_131 : decode cX11_init 131 = .ok (.aload_n 0, 1) := by decide +kernel
theorem dX11_init_132 : decode cX11_init 132 = .ok (.new 47, 3) := by decide +kernel
theorem dX11_init_135 : decode cX11_init 135 = .ok (.dup, 1) := by decide +kernel
theorem dX11_init_136 : decode cX11_init 136 = .ok (.invokespecial 49, 3) := by decide +kernel
theorem dX11_init_139 : decode cX11_init 139 = .ok (.putfield 50, 3) := by decide +kernel
theorem dX11_init_142 : decode cX11_init 142 = .ok (.aload_n 0, 1) := by decide +kernel
theorem dX11_init_143 : decode cX11_init 143 = .ok (.new 54, 3) := by decide +kernel
theorem dX11_init_146 : decode cX11_init 146 = .ok (.dup, 1) := by decide +kernel
theorem dX11_init_147 : decode cX11_init 147 = .ok (.invokespecial 56, 3) := by decide +kernel
theorem dX11_init_150 : decode cX11_init 150 = .ok (.putfield 57, 3) := by decide +kernel
theorem dX11_init_153 : decode cX11_init 153 = .ok (.aload_n 0, 1) := by decide +kernel
theorem dX11_init_154 : decode cX11_init 154 = .ok (.iconst 3, 1) := by decide +kernel
theorem dX11_init_155 : decode cX11_init 155 = .ok (.newarray .int, 2) := by decide +kernel
theorem dX11_init_157 : decode cX11_init 157 = .ok (.putfield 61, 3) := by decide +kernel
theorem dX11_init_160 : decode cX11_init 160 = .ok (.aload_n 0, 1) := by decide +kernel
theorem dX11_init_161 : decode cX11_init 161 = .ok (.lconst 0, 1) := by decide +kernel
theorem dX11_init_162 : decode cX11_init 162 = .ok (.putfield 65, 3) := by decide +kernel
theorem dX11_init_165 : decode cX11_init 165 = .ok (.aload_n 0, 1) := by decide +kernel
theorem dX11_init_166 : decode cX11_init 166 = .ok (.lconst 1, 1) := by decide +kernel
theorem dX11_init_167 : decode cX11_init 167 = .ok (.putfield 69, 3) := by decide +kernel
theorem dX11_init_170 : decode cX11_init 170 = .ok (.return_, 1) := by decide +kernel
set_option maxRecDepth 100000 in
set_option maxHeartbeats 4000000 in
theorem c_X11_init {g : Gv} {l : Launch} (p0 : Nat) (w0 : Wd) (wz : Wd) (hf : f_X11_init p0 w0 = some ((), wz)) : MV g l yX11_init cX11_init 2 4 80 94 1432 [rV g p0] w0 wz := by
  refine mv_of RX11 (by decide) rfl (Nat.le_of_ble_eq_true rfl) ?_
  intro X hg hll C hr h0 hin
  subst hg; subst hll
  unfold f_X11_init at hf
  refine k_sub (lv2 := [(0, rV (xg X) p0)]) [0] rfl ?_
  refine k_aload_n C dX11_init_0 0 rfl rfl 1 rfl ?_
  refine k_objInit C ob_X11 ob_i ob_c (Nat.le_of_ble_eq_true rfl) (Nat.le_of_ble_eq_true rfl) dX11_init_1 4 rfl ?_
  refine k_bipush C dX11_init_4 (6) (by decide) 6 rfl ?_
  refine k_newq (t := 18) (Cn := "GrindMill$Plain") 5 (by decide) (fun _ => rfl) C cl_X11_7 (fun _ h => h.2.2.1) ⟨by decide, by decide, by decide⟩ ⟨rfl, rfl⟩ dX11_init_6 hf 9 rfl (fun w62 hf => ?_)
  refine k_dup C dX11_init_9 rfl 10 rfl ?_
  refine k_iconst C dX11_init_10 (0) (by decide) 11 rfl ?_
  refine k_new C ce_6 cl_X11_7 ins_6 ini_6 ⟨rfl, rfl⟩ dX11_init_11 hf 14 rfl (fun w63 hf => ?_)
  refine k_dup C dX11_init_14 rfl 15 rfl ?_
  refine k_callIN_v C ye_X6_init in_X11_9 ⟨rfl, rfl⟩ ⟨rfl, rfl⟩ dX11_init_15 [] rfl rfl (Nat.le_of_ble_eq_true rfl) (c_X6_init _ _) hf 18 rfl (fun w64 hf => ?_)
  refine k_aast (t := 18) (tr := 6) (Cn := "GrindMill$Plain") 5 (by decide) (fun _ => rfl) ce_6 (Or.inl rfl) C dX11_init_18 hf 19 rfl (fun w66 _ hf => ?_)
  refine k_dup C dX11_init_19 rfl 20 rfl ?_
  refine k_iconst C dX11_init_20 (1) (by decide) 21 rfl ?_
  refine k_new C ce_9 cl_X11_10 ins_9 ini_9 ⟨rfl, rfl⟩ dX11_init_21 hf 24 rfl (fun w67 hf => ?_)
  refine k_dup C dX11_init_24 rfl 25 rfl ?_
  refine k_callIN_v C ye_X9_init in_X11_12 ⟨rfl, rfl⟩ ⟨rfl, rfl⟩ dX11_init_25 [] rfl rfl (Nat.le_of_ble_eq_true rfl) (c_X9_init _ _) hf 28 rfl (fun w68 hf => ?_)
  refine k_aast (t := 18) (tr := 9) (Cn := "GrindMill$Plain") 5 (by decide) (fun _ => rfl) ce_9 (Or.inr cast_9) C dX11_init_28 hf 29 rfl (fun w70 _ hf => ?_)
  refine k_dup C dX11_init_29 rfl 30 rfl ?_
  refine k_iconst C dX11_init_30 (2) (by decide) 31 rfl ?_
  refine k_new C ce_5 cl_X11_13 ins_5 ini_5 ⟨rfl, rfl⟩ dX11_init_31 hf 34 rfl (fun w71 hf => ?_)
  refine k_dup C dX11_init_34 rfl 35 rfl ?_
  refine k_callIN_v C ye_X5_init in_X11_15 ⟨rfl, rfl⟩ ⟨rfl, rfl⟩ dX11_init_35 [] rfl rfl (Nat.le_of_ble_eq_true rfl) (c_X5_init _ _) hf 38 rfl (fun w72 hf => ?_)
  refine k_aast (t := 18) (tr := 5) (Cn := "GrindMill$Plain") 5 (by decide) (fun _ => rfl) ce_5 (Or.inr cast_5) C dX11_init_38 hf 39 rfl (fun w74 _ hf => ?_)
  refine k_dup C dX11_init_39 rfl 40 rfl ?_
  refine k_iconst C dX11_init_40 (3) (by decide) 41 rfl ?_
  refine k_new C ce_3 cl_X11_16 ins_3 ini_3 ⟨rfl, rfl⟩ dX11_init_41 hf 44 rfl (fun w75 hf => ?_)
  refine k_dup C dX11_init_44 rfl 45 rfl ?_
  refine k_callIN_v C ye_X3_init in_X11_18 ⟨rfl, rfl⟩ ⟨rfl, rfl⟩ dX11_init_45 [] rfl rfl (Nat.le_of_ble_eq_true rfl) (c_X3_init _ _) hf 48 rfl (fun w76 hf => ?_)
  refine k_aast (t := 18) (tr := 3) (Cn := "GrindMill$Plain") 5 (by decide) (fun _ => rfl) ce_3 (Or.inr cast_3) C dX11_init_48 hf 49 rfl (fun w78 _ hf => ?_)
  refine k_dup C dX11_init_49 rfl 50 rfl ?_
  refine k_iconst C dX11_init_50 (4) (by decide) 51 rfl ?_
  refine k_new C ce_8 cl_X11_19 ins_8 ini_8 ⟨rfl, rfl⟩ dX11_init_51 hf 54 rfl (fun w79 hf => ?_)
  refine k_dup C dX11_init_54 rfl 55 rfl ?_
  refine k_callIN_v C ye_X8_init in_X11_21 ⟨rfl, rfl⟩ ⟨rfl, rfl⟩ dX11_init_55 [] rfl rfl (Nat.le_of_ble_eq_true rfl) (c_X8_init _ _) hf 58 rfl (fun w80 hf => ?_)
  refine k_aast (t := 18) (tr := 8) (Cn := "GrindMill$Plain") 5 (by decide) (fun _ => rfl) ce_8 (Or.inr cast_8) C dX11_init_58 hf 59 rfl (fun w82 _ hf => ?_)
  refine k_dup C dX11_init_59 rfl 60 rfl ?_
  refine k_iconst C dX11_init_60 (5) (by decide) 61 rfl ?_
  refine k_new C ce_4 cl_X11_22 ins_4 ini_4 ⟨rfl, rfl⟩ dX11_init_61 hf 64 rfl (fun w83 hf => ?_)
  refine k_dup C dX11_init_64 rfl 65 rfl ?_
  refine k_callIN_v C ye_X4_init in_X11_24 ⟨rfl, rfl⟩ ⟨rfl, rfl⟩ dX11_init_65 [] rfl rfl (Nat.le_of_ble_eq_true rfl) (c_X4_init _ _) hf 68 rfl (fun w84 hf => ?_)
  refine k_aast (t := 18) (tr := 4) (Cn := "GrindMill$Plain") 5 (by decide) (fun _ => rfl) ce_4 (Or.inr cast_4) C dX11_init_68 hf 69 rfl (fun w86 _ hf => ?_)
  refine k_astore_n C dX11_init_69 rfl rfl (by decide) [(1, rV (xg X) (wN w0)), (0, rV (xg X) p0)] rfl 70 rfl ?_
  refine k_aload_n C dX11_init_70 1 rfl rfl 71 rfl ?_
  refine k_new C ce_2 cl_X11_25 ins_2 ini_2 ⟨rfl, rfl⟩ dX11_init_71 hf 74 rfl (fun w87 hf => ?_)
  refine k_dup C dX11_init_74 rfl 75 rfl ?_
  refine k_aload_n C dX11_init_75 0 rfl rfl 76 rfl ?_
  refine k_callI_v C ye_X2_init ie_X11_27 ⟨rfl, rfl⟩ ⟨rfl, rfl⟩ dX11_init_76 [rV (xg X) (wN w0)] rfl rfl (Nat.le_of_ble_eq_true rfl) (c_X2_init _ _ _) hf 79 rfl (fun w88 hf => ?_)
  refine k_putR C fe_X11_30 rfl rfl dX11_init_79 hf 82 rfl (fun w90 _ hf => ?_)
  refine k_aload_n C dX11_init_82 1 rfl rfl 83 rfl ?_
  refine k_new C ce_2 cl_X11_25 ins_2 ini_2 ⟨rfl, rfl⟩ dX11_init_83 hf 86 rfl (fun w91 hf => ?_)
  refine k_dup C dX11_init_86 rfl 87 rfl ?_
  refine k_aload_n C dX11_init_87 0 rfl rfl 88 rfl ?_
  refine k_callI_v C ye_X2_init ie_X11_27 ⟨rfl, rfl⟩ ⟨rfl, rfl⟩ dX11_init_88 [rV (xg X) (wN w0)] rfl rfl (Nat.le_of_ble_eq_true rfl) (c_X2_init _ _ _) hf 91 rfl (fun w92 hf => ?_)
  refine k_putR C fe_X11_36 rfl rfl dX11_init_91 hf 94 rfl (fun w94 _ hf => ?_)
  refine k_aload_n C dX11_init_94 1 rfl rfl 95 rfl ?_
  refine k_iconst C dX11_init_95 (2) (by decide) 96 rfl ?_
  refine k_newq (t := 17) (Cn := "GrindMill$House") 4 (by decide) (fun _ => rfl) C cl_X11_25 (fun _ h => h.2.1) ⟨by decide, by decide, by decide⟩ ⟨rfl, rfl⟩ dX11_init_96 hf 99 rfl (fun w95 hf => ?_)
  refine k_dup C dX11_init_99 rfl 100 rfl ?_
  refine k_iconst C dX11_init_100 (0) (by decide) 101 rfl ?_
  refine k_new C ce_2 cl_X11_25 ins_2 ini_2 ⟨rfl, rfl⟩ dX11_init_101 hf 104 rfl (fun w96 hf => ?_)
  refine k_dup C dX11_init_104 rfl 105 rfl ?_
  refine k_aload_n C dX11_init_105 0 rfl rfl 106 rfl ?_
  refine k_callI_v C ye_X2_init ie_X11_27 ⟨rfl, rfl⟩ ⟨rfl, rfl⟩ dX11_init_106 [rV (xg X) (wN w0)] rfl rfl (Nat.le_of_ble_eq_true rfl) (c_X2_init _ _ _) hf 109 rfl (fun w97 hf => ?_)
  refine k_aast (t := 17) (tr := 2) (Cn := "GrindMill$House") 4 (by decide) (fun _ => rfl) ce_2 (Or.inl rfl) C dX11_init_109 hf 110 rfl (fun w99 _ hf => ?_)
  refine k_dup C dX11_init_110 rfl 111 rfl ?_
  refine k_iconst C dX11_init_111 (1) (by decide) 112 rfl ?_
  refine k_new C ce_2 cl_X11_25 ins_2 ini_2 ⟨rfl, rfl⟩ dX11_init_112 hf 115 rfl (fun w100 hf => ?_)
  refine k_dup C dX11_init_115 rfl 116 rfl ?_
  refine k_aload_n C dX11_init_116 0 rfl rfl 117 rfl ?_
  refine k_callI_v C ye_X2_init ie_X11_27 ⟨rfl, rfl⟩ ⟨rfl, rfl⟩ dX11_init_117 [rV (xg X) (wN w0)] rfl rfl (Nat.le_of_ble_eq_true rfl) (c_X2_init _ _ _) hf 120 rfl (fun w101 hf => ?_)
  refine k_aast (t := 17) (tr := 2) (Cn := "GrindMill$House") 4 (by decide) (fun _ => rfl) ce_2 (Or.inl rfl) C dX11_init_120 hf 121 rfl (fun w103 _ hf => ?_)
  refine k_putRF C fe_X11_39 rfl rfl hin rfl dX11_init_121 hf 124 rfl (fun w104 _ hf => ?_)
  refine k_aload_n C dX11_init_124 1 rfl rfl 125 rfl ?_
  refine k_iconst C dX11_init_125 (2) (by decide) 126 rfl ?_
  refine k_newa (t := 15) (at_ := .boolean) rfl (by decide) (by decide) 2 (fun _ => rfl) (fun _ _ h => h) rfl (by decide) C arr_boolean ⟨by decide, by decide, by decide⟩ ⟨rfl, rfl⟩ dX11_init_126 hf 128 rfl (fun w105 hf => ?_)
  refine k_putRF C fe_X11_43 rfl rfl hin rfl dX11_init_128 hf 131 rfl (fun w106 _ hf => ?_)
  refine k_aload_n C dX11_init_131 1 rfl rfl 132 rfl ?_
  refine k_new C ce_10 cl_X11_47 ins_10 ini_10 ⟨rfl, rfl⟩ dX11_init_132 hf 135 rfl (fun w107 hf => ?_)
  refine k_dup C dX11_init_135 rfl 136 rfl ?_
  refine k_callIN_v C ye_X10_init in_X11_49 ⟨rfl, rfl⟩ ⟨rfl, rfl⟩ dX11_init_136 [] rfl rfl (Nat.le_of_ble_eq_true rfl) (c_X10_init _ _) hf 139 rfl (fun w108 hf => ?_)
  refine k_putRF C fe_X11_50 rfl rfl hin rfl dX11_init_139 hf 142 rfl (fun w110 _ hf => ?_)
  refine k_aload_n C dX11_init_142 1 rfl rfl 143 rfl ?_
  refine k_new C ce_7 cl_X11_54 ins_7 ini_7 ⟨rfl, rfl⟩ dX11_init_143 hf 146 rfl (fun w111 hf => ?_)
  refine k_dup C dX11_init_146 rfl 147 rfl ?_
  refine k_callIN_v C ye_X7_init in_X11_56 ⟨rfl, rfl⟩ ⟨rfl, rfl⟩ dX11_init_147 [] rfl rfl (Nat.le_of_ble_eq_true rfl) (c_X7_init _ _) hf 150 rfl (fun w112 hf => ?_)
  refine k_putRF C fe_X11_57 rfl rfl hin rfl dX11_init_150 hf 153 rfl (fun w114 _ hf => ?_)
  refine k_aload_n C dX11_init_153 1 rfl rfl 154 rfl ?_
  refine k_iconst C dX11_init_154 (3) (by decide) 155 rfl ?_
  refine k_newa (t := 14) (at_ := .int) rfl (by decide) (by decide) 1 (fun _ => rfl) (fun _ _ h => h) rfl (by decide) C arr_int ⟨by decide, by decide, by decide⟩ ⟨rfl, rfl⟩ dX11_init_155 hf 157 rfl (fun w115 hf => ?_)
  refine k_putRF C fe_X11_61 rfl rfl hin rfl dX11_init_157 hf 160 rfl (fun w116 _ hf => ?_)
  refine k_aload_n C dX11_init_160 1 rfl rfl 161 rfl ?_
  refine k_lconst C dX11_init_161 (0) (by decide) 162 rfl ?_
  refine k_putL C fe_X11_65 rfl rfl dX11_init_162 hf 165 rfl (fun w117 _ hf => ?_)
  refine k_aload_n C dX11_init_165 1 rfl rfl 166 rfl ?_
  refine k_lconst C dX11_init_166 (1) (by decide) 167 rfl ?_
  refine k_putL C fe_X11_69 rfl rfl dX11_init_167 hf 170 rfl (fun w118 _ hf => ?_)
  exact k_vret C hr h0 dX11_init_170 hf
theorem dX12_init_0 : decode cX12_init 0 = .ok (.aload_n 0, 1) := by decide +kernel
theorem dX12_init_1 : decode cX12_init 1 = .ok (.invokespecial 1, 3) := by decide +kernel
theorem dX12_init_4 : decode cX12_init 4 = .ok (.aload_n 0, 1) := by decide +kernel
theorem dX12_init_5 : decode cX12_init 5 = .ok (.sipush 656, 3) := by decide +kernel
theorem dX12_init_8 : decode cX12_init 8 = .ok (.newarray .int, 2) := by decide +kernel
theorem dX12_init_10 : decode cX12_init 10 = .ok (.putfield 7, 3) := by decide +kernel
theorem dX12_init_13 : decode cX12_init 13 = .ok (.aload_n 0, 1) := by decide +kernel
theorem dX12_init_14 : decode cX12_init 14 = .ok (.iconst 2, 1) := by decide +kernel
theorem dX12_init_15 : decode cX12_init 15 = .ok (.newarray .boolean, 2) := by decide +kernel
theorem dX12_init_17 : decode cX12_init 17 = .ok (.putfield 13, 3) := by decide +kernel
theorem dX12_init_20 : decode cX12_init 20 = .ok (.aload_n 0, 1) := by decide +kernel
theorem dX12_init_21 : decode cX12_init 21 = .ok (.iconst 3, 1) := by decide +kernel
theorem dX12_init_22 : decode cX12_init 22 = .ok (.newarray .int, 2) := by decide +kernel
theorem dX12_init_24 : decode cX12_init 24 = .ok (.putfield 17, 3) := by decide +kernel
theorem dX12_init_27 : decode cX12_init 27 = .ok (.aload_n 0, 1) := by decide +kernel
theorem dX12_init_28 : decode cX12_init 28 = .ok (.lconst 1, 1) := by decide +kernel
theorem dX12_init_29 : decode cX12_init 29 = .ok (.putfield 20, 3) := by decide +kernel
theorem dX12_init_32 : decode cX12_init 32 = .ok (.aload_n 0, 1) := by decide +kernel
theorem dX12_init_33 : decode cX12_init 33 = .ok (.sipush 150, 3) := by decide +kernel
theorem dX12_init_36 : decode cX12_init 36 = .ok (.newarray .int, 2) := by decide +kernel
theorem dX12_init_38 : decode cX12_init 38 = .ok (.putfield 24, 3) := by decide +kernel
theorem dX12_init_41 : decode cX12_init 41 = .ok (.aload_n 0, 1) := by decide +kernel
theorem dX12_init_42 : decode cX12_init 42 = .ok (.bipush 25, 2) := by decide +kernel
theorem dX12_init_44 : decode cX12_init 44 = .ok (.newarray .int, 2) := by decide +kernel
theorem dX12_init_46 : decode cX12_init 46 = .ok (.dup, 1) := by decide +kernel
theorem dX12_init_47 : decode cX12_init 47 = .ok (.iconst 0, 1) := by decide +kernel
theorem dX12_init_48 : decode cX12_init 48 = .ok (.bipush 109, 2) := by decide +kernel
theorem dX12_init_50 : decode cX12_init 50 = .ok (.iastore, 1) := by decide +kernel
theorem dX12_init_51 : decode cX12_init 51 = .ok (.dup, 1) := by decide +kernel
theorem dX12_init_52 : decode cX12_init 52 = .ok (.iconst 1, 1) := by decide +kernel
theorem dX12_init_53 : decode cX12_init 53 = .ok (.bipush 105, 2) := by decide +kernel
theorem dX12_init_55 : decode cX12_init 55 = .ok (.iastore, 1) := by decide +kernel
theorem dX12_init_56 : decode cX12_init 56 = .ok (.dup, 1) := by decide +kernel
theorem dX12_init_57 : decode cX12_init 57 = .ok (.iconst 2, 1) := by decide +kernel
theorem dX12_init_58 : decode cX12_init 58 = .ok (.bipush 108, 2) := by decide +kernel
theorem dX12_init_60 : decode cX12_init 60 = .ok (.iastore, 1) := by decide +kernel
theorem dX12_init_61 : decode cX12_init 61 = .ok (.dup, 1) := by decide +kernel
theorem dX12_init_62 : decode cX12_init 62 = .ok (.iconst 3, 1) := by decide +kernel
theorem dX12_init_63 : decode cX12_init 63 = .ok (.bipush 108, 2) := by decide +kernel
theorem dX12_init_65 : decode cX12_init 65 = .ok (.iastore, 1) := by decide +kernel
theorem dX12_init_66 : decode cX12_init 66 = .ok (.dup, 1) := by decide +kernel
theorem dX12_init_67 : decode cX12_init 67 = .ok (.iconst 4, 1) := by decide +kernel
theorem dX12_init_68 : decode cX12_init 68 = .ok (.iconst 0, 1) := by decide +kernel
theorem dX12_init_69 : decode cX12_init 69 = .ok (.iastore, 1) := by decide +kernel
theorem dX12_init_70 : decode cX12_init 70 = .ok (.dup, 1) := by decide +kernel
theorem dX12_init_71 : decode cX12_init 71 = .ok (.iconst 5, 1) := by decide +kernel
theorem dX12_init_72 : decode cX12_init 72 = .ok (.bipush 103, 2) := by decide +kernel
theorem dX12_init_74 : decode cX12_init 74 = .ok (.iastore, 1) := by decide +kernel
theorem dX12_init_75 : decode cX12_init 75 = .ok (.dup, 1) := by decide +kernel
theorem dX12_init_76 : decode cX12_init 76 = .ok (.bipush 6, 2) := by decide +kernel
theorem dX12_init_78 : decode cX12_init 78 = .ok (.bipush 111, 2) := by decide +kernel
theorem dX12_init_80 : decode cX12_init 80 = .ok (.iastore, 1) := by decide +kernel
theorem dX12_init_81 : decode cX12_init 81 = .ok (.dup, 1) := by decide +kernel
theorem dX12_init_82 : decode cX12_init 82 = .ok (.bipush 7, 2) := by decide +kernel
theorem dX12_init_84 : decode cX12_init 84 = .ok (.bipush 111, 2) := by decide +kernel
theorem dX12_init_86 : decode cX12_init 86 = .ok (.iastore, 1) := by decide +kernel
theorem dX12_init_87 : decode cX12_init 87 = .ok (.dup, 1) := by decide +kernel
theorem dX12_init_88 : decode cX12_init 88 = .ok (.bipush 8, 2) := by decide +kernel
theorem dX12_init_90 : decode cX12_init 90 = .ok (.bipush 100, 2) := by decide +kernel
theorem dX12_init_92 : decode cX12_init 92 = .ok (.iastore, 1) := by decide +kernel
theorem dX12_init_93 : decode cX12_init 93 = .ok (.dup, 1) := by decide +kernel
theorem dX12_init_94 : decode cX12_init 94 = .ok (.bipush 9, 2) := by decide +kernel
theorem dX12_init_96 : decode cX12_init 96 = .ok (.bipush 115, 2) := by decide +kernel
theorem dX12_init_98 : decode cX12_init 98 = .ok (.iastore, 1) := by decide +kernel
theorem dX12_init_99 : decode cX12_init 99 = .ok (.dup, 1) := by decide +kernel
theorem dX12_init_100 : decode cX12_init 100 = .ok (.bipush 10, 2) := by decide +kernel
theorem dX12_init_102 : decode cX12_init 102 = .ok (.bipush 103, 2) := by decide +kernel
theorem dX12_init_104 : decode cX12_init 104 = .ok (.iastore, 1) := by decide +kernel
theorem dX12_init_105 : decode cX12_init 105 = .ok (.dup, 1) := by decide +kernel
theorem dX12_init_106 : decode cX12_init 106 = .ok (.bipush 11, 2) := by decide +kernel
theorem dX12_init_108 : decode cX12_init 108 = .ok (.bipush 114, 2) := by decide +kernel
theorem dX12_init_110 : decode cX12_init 110 = .ok (.iastore, 1) := by decide +kernel
theorem dX12_init_111 : decode cX12_init 111 = .ok (.dup, 1) := by decide +kernel
theorem dX12_init_112 : decode cX12_init 112 = .ok (.bipush 12, 2) := by decide +kernel
theorem dX12_init_114 : decode cX12_init 114 = .ok (.bipush 105, 2) := by decide +kernel
theorem dX12_init_116 : decode cX12_init 116 = .ok (.iastore, 1) := by decide +kernel
theorem dX12_init_117 : decode cX12_init 117 = .ok (.dup, 1) := by decide +kernel
theorem dX12_init_118 : decode cX12_init 118 = .ok (.bipush 13, 2) := by decide +kernel
theorem dX12_init_120 : decode cX12_init 120 = .ok (.bipush 110, 2) := by decide +kernel
theorem dX12_init_122 : decode cX12_init 122 = .ok (.iastore, 1) := by decide +kernel
theorem dX12_init_123 : decode cX12_init 123 = .ok (.dup, 1) := by decide +kernel
theorem dX12_init_124 : decode cX12_init 124 = .ok (.bipush 14, 2) := by decide +kernel
theorem dX12_init_126 : decode cX12_init 126 = .ok (.bipush 100, 2) := by decide +kernel
theorem dX12_init_128 : decode cX12_init 128 = .ok (.iastore, 1) := by decide +kernel
theorem dX12_init_129 : decode cX12_init 129 = .ok (.dup, 1) := by decide +kernel
theorem dX12_init_130 : decode cX12_init 130 = .ok (.bipush 15, 2) := by decide +kernel
theorem dX12_init_132 : decode cX12_init 132 = .ok (.bipush 119, 2) := by decide +kernel
theorem dX12_init_134 : decode cX12_init 134 = .ok (.iastore, 1) := by decide +kernel
theorem dX12_init_135 : decode cX12_init 135 = .ok (.dup, 1) := by decide +kernel
theorem dX12_init_136 : decode cX12_init 136 = .ok (.bipush 16, 2) := by decide +kernel
theorem dX12_init_138 : decode cX12_init 138 = .ok (.bipush 111, 2) := by decide +kernel
theorem dX12_init_140 : decode cX12_init 140 = .ok (.iastore, 1) := by decide +kernel
theorem dX12_init_141 : decode cX12_init 141 = .ok (.dup, 1) := by decide +kernel
theorem dX12_init_142 : decode cX12_init 142 = .ok (.bipush 17, 2) := by decide +kernel
theorem dX12_init_144 : decode cX12_init 144 = .ok (.bipush 114, 2) := by decide +kernel
theorem dX12_init_146 : decode cX12_init 146 = .ok (.iastore, 1) := by decide +kernel
theorem dX12_init_147 : decode cX12_init 147 = .ok (.dup, 1) := by decide +kernel
theorem dX12_init_148 : decode cX12_init 148 = .ok (.bipush 18, 2) := by decide +kernel
theorem dX12_init_150 : decode cX12_init 150 = .ok (.bipush 100, 2) := by decide +kernel
theorem dX12_init_152 : decode cX12_init 152 = .ok (.iastore, 1) := by decide +kernel
theorem dX12_init_153 : decode cX12_init 153 = .ok (.dup, 1) := by decide +kernel
theorem dX12_init_154 : decode cX12_init 154 = .ok (.bipush 19, 2) := by decide +kernel
theorem dX12_init_156 : decode cX12_init 156 = .ok (.iconst 0, 1) := by decide +kernel
theorem dX12_init_157 : decode cX12_init 157 = .ok (.iastore, 1) := by decide +kernel
theorem dX12_init_158 : decode cX12_init 158 = .ok (.dup, 1) := by decide +kernel
theorem dX12_init_159 : decode cX12_init 159 = .ok (.bipush 20, 2) := by decide +kernel
theorem dX12_init_161 : decode cX12_init 161 = .ok (.bipush 99, 2) := by decide +kernel
theorem dX12_init_163 : decode cX12_init 163 = .ok (.iastore, 1) := by decide +kernel
theorem dX12_init_164 : decode cX12_init 164 = .ok (.dup, 1) := by decide +kernel
theorem dX12_init_165 : decode cX12_init 165 = .ok (.bipush 21, 2) := by decide +kernel
theorem dX12_init_167 : decode cX12_init 167 = .ok (.bipush 111, 2) := by decide +kernel
theorem dX12_init_169 : decode cX12_init 169 = .ok (.iastore, 1) := by decide +kernel
theorem dX12_init_170 : decode cX12_init 170 = .ok (.dup, 1) := by decide +kernel
theorem dX12_init_171 : decode cX12_init 171 = .ok (.bipush 22, 2) := by decide +kernel
theorem dX12_init_173 : decode cX12_init 173 = .ok (.bipush 108, 2) := by decide +kernel
theorem dX12_init_175 : decode cX12_init 175 = .ok (.iastore, 1) := by decide +kernel
theorem dX12_init_176 : decode cX12_init 176 = .ok (.dup, 1) := by decide +kernel
theorem dX12_init_177 : decode cX12_init 177 = .ok (.bipush 23, 2) := by decide +kernel
theorem dX12_init_179 : decode cX12_init 179 = .ok (.bipush 100, 2) := by decide +kernel
theorem dX12_init_181 : decode cX12_init 181 = .ok (.iastore, 1) := by decide +kernel
theorem dX12_init_182 : decode cX12_init 182 = .ok (.dup, 1) := by decide +kernel
theorem dX12_init_183 : decode cX12_init 183 = .ok (.bipush 24, 2) := by decide +kernel
theorem dX12_init_185 : decode cX12_init 185 = .ok (.iconst 0, 1) := by decide +kernel
theorem dX12_init_186 : decode cX12_init 186 = .ok (.iastore, 1) := by decide +kernel
theorem dX12_init_187 : decode cX12_init 187 = .ok (.putfield 27, 3) := by decide +kernel
theorem dX12_init_190 : decode cX12_init 190 = .ok (.aload_n 0, 1) := by decide +kernel
theorem dX12_init_191 : decode cX12_init 191 = .ok (.bipush 18, 2) := by decide +kernel
theorem dX12_init_193 : decode cX12_init 193 = .ok (.newarray .int, 2) := by decide +kernel
theorem dX12_init_195 : decode cX12_init 195 = .ok (.putfield 30, 3) := by decide +kernel
theorem dX12_init_198 : decode cX12_init 198 = .ok (.aload_n 0, 1) := by decide +kernel
theorem dX12_init_199 : decode cX12_init 199 = .ok (.sipush 427, 3) := by decide +kernel
theorem dX12_init_202 : decode cX12_init 202 = .ok (.newarray .int, 2) := by decide +kernel
theorem dX12_init_204 : decode cX12_init 204 = .ok (.putfield 33, 3) := by decide +kernel
theorem dX12_init_207 : decode cX12_init 207 = .ok (.aload_n 0, 1) := by decide +kernel
theorem dX12_init_208 : decode cX12_init 208 = .ok (.bipush 91, 2) := by decide +kernel
theorem dX12_init_210 : decode cX12_init 210 = .ok (.newarray .int, 2) := by decide +kernel
theorem dX12_init_212 : decode cX12_init 212 = .ok (.putfield 36, 3) := by decide +kernel
theorem dX12_init_215 : decode cX12_init 215 = .ok (.aload_n 0, 1) := by decide +kernel
theorem dX12_init_216 : decode cX12_init 216 = .ok (.bipush 6, 2) := by decide +kernel
theorem dX12_init_218 : decode cX12_init 218 = .ok (.newarray .int, 2) := by decide +kernel
theorem dX12_init_220 : decode cX12_init 220 = .ok (.putfield 39, 3) := by decide +kernel
theorem dX12_init_223 : decode cX12_init 223 = .ok (.aload_n 0, 1) := by decide +kernel
theorem dX12_init_224 : decode cX12_init 224 = .ok (.bipush 36, 2) := by decide +kernel
theorem dX12_init_226 : decode cX12_init 226 = .ok (.newarray .int, 2) := by decide +kernel
theorem dX12_init_228 : decode cX12_init 228 = .ok (.putfield 42, 3) := by decide +kernel
theorem dX12_init_231 : decode cX12_init 231 = .ok (.aload_n 0, 1) := by decide +kernel
theorem dX12_init_232 : decode cX12_init 232 = .ok (.bipush 36, 2) := by decide +kernel
theorem dX12_init_234 : decode cX12_init 234 = .ok (.newarray .int, 2) := by decide +kernel
theorem dX12_init_236 : decode cX12_init 236 = .ok (.putfield 45, 3) := by decide +kernel
theorem dX12_init_239 : decode cX12_init 239 = .ok (.aload_n 0, 1) := by decide +kernel
theorem dX12_init_240 : decode cX12_init 240 = .ok (.bipush 60, 2) := by decide +kernel
theorem dX12_init_242 : decode cX12_init 242 = .ok (.invokevirtual 48, 3) := by decide +kernel
theorem dX12_init_245 : decode cX12_init 245 = .ok (.return_, 1) := by decide +kernel
set_option maxRecDepth 100000 in
set_option maxHeartbeats 4000000 in
theorem c_X12_init {g : Gv} {l : Launch} (p0 : Nat) (w0 : Wd) (wz : Wd) (hf : f_X12_init p0 w0 = some ((), wz)) : MV g l yX12_init cX12_init 1 1 22 11 1450 [rV g p0] w0 wz := by
  refine mv_of RX12 (by decide) rfl (Nat.le_of_ble_eq_true rfl) ?_
  intro X hg hll C hr h0 hin
  subst hg; subst hll
  unfold f_X12_init at hf
  refine k_sub (lv2 := [(0, rV (xg X) p0)]) [0] rfl ?_
  refine k_aload_n C dX12_init_0 0 rfl rfl 1 rfl ?_
  refine k_objInit C ob_X12 ob_i ob_c (Nat.le_of_ble_eq_true rfl) (Nat.le_of_ble_eq_true rfl) dX12_init_1 4 rfl ?_
  refine k_aload_n C dX12_init_4 0 rfl rfl 5 rfl ?_
  refine k_sipush C dX12_init_5 (656) (by decide) 8 rfl ?_
  refine k_newa (t := 14) (at_ := .int) rfl (by decide) (by decide) 1 (fun _ => rfl) (fun _ _ h => h) rfl (by decide) C arr_int ⟨by decide, by decide, by decide⟩ ⟨rfl, rfl⟩ dX12_init_8 hf 10 rfl (fun w55 hf => ?_)
  refine k_putRF C fe_X12_7 rfl rfl hin rfl dX12_init_10 hf 13 rfl (fun w56 _ hf => ?_)
  refine k_aload_n C dX12_init_13 0 rfl rfl 14 rfl ?_
  refine k_iconst C dX12_init_14 (2) (by decide) 15 rfl ?_
  refine k_newa (t := 15) (at_ := .boolean) rfl (by decide) (by decide) 2 (fun _ => rfl) (fun _ _ h => h) rfl (by decide) C arr_boolean ⟨by decide, by decide, by decide⟩ ⟨rfl, rfl⟩ dX12_init_15 hf 17 rfl (fun w57 hf => ?_)
  refine k_putRF C fe_X12_13 rfl rfl hin rfl dX12_init_17 hf 20 rfl (fun w58 _ hf => ?_)
  refine k_aload_n C dX12_init_20 0 rfl rfl 21 rfl ?_
  refine k_iconst C dX12_init_21 (3) (by decide) 22 rfl ?_
  refine k_newa (t := 14) (at_ := .int) rfl (by decide) (by decide) 1 (fun _ => rfl) (fun _ _ h => h) rfl (by decide) C arr_int ⟨by decide, by decide, by decide⟩ ⟨rfl, rfl⟩ dX12_init_22 hf 24 rfl (fun w59 hf => ?_)
  refine k_putRF C fe_X12_17 rfl rfl hin rfl dX12_init_24 hf 27 rfl (fun w60 _ hf => ?_)
  refine k_aload_n C dX12_init_27 0 rfl rfl 28 rfl ?_
  refine k_lconst C dX12_init_28 (1) (by decide) 29 rfl ?_
  refine k_putL C fe_X12_20 rfl rfl dX12_init_29 hf 32 rfl (fun w61 _ hf => ?_)
  refine k_aload_n C dX12_init_32 0 rfl rfl 33 rfl ?_
  refine k_sipush C dX12_init_33 (150) (by decide) 36 rfl ?_
  refine k_newa (t := 14) (at_ := .int) rfl (by decide) (by decide) 1 (fun _ => rfl) (fun _ _ h => h) rfl (by decide) C arr_int ⟨by decide, by decide, by decide⟩ ⟨rfl, rfl⟩ dX12_init_36 hf 38 rfl (fun w62 hf => ?_)
  refine k_putRF C fe_X12_24 rfl rfl hin rfl dX12_init_38 hf 41 rfl (fun w63 _ hf => ?_)
  refine k_aload_n C dX12_init_41 0 rfl rfl 42 rfl ?_
  refine k_bipush C dX12_init_42 (25) (by decide) 44 rfl ?_
  refine k_newa (t := 14) (at_ := .int) rfl (by decide) (by decide) 1 (fun _ => rfl) (fun _ _ h => h) rfl (by decide) C arr_int ⟨by decide, by decide, by decide⟩ ⟨rfl, rfl⟩ dX12_init_44 hf 46 rfl (fun w64 hf => ?_)
  refine k_dup C dX12_init_46 rfl 47 rfl ?_
  refine k_iconst C dX12_init_47 (0) (by decide) 48 rfl ?_
  refine k_bipush C dX12_init_48 (109) (by decide) 50 rfl ?_
  refine k_iast C dX12_init_50 hf 51 rfl (fun w65 _ hf => ?_)
  refine k_dup C dX12_init_51 rfl 52 rfl ?_
  refine k_iconst C dX12_init_52 (1) (by decide) 53 rfl ?_
  refine k_bipush C dX12_init_53 (105) (by decide) 55 rfl ?_
  refine k_iast C dX12_init_55 hf 56 rfl (fun w66 _ hf => ?_)
  refine k_dup C dX12_init_56 rfl 57 rfl ?_
  refine k_iconst C dX12_init_57 (2) (by decide) 58 rfl ?_
  refine k_bipush C dX12_init_58 (108) (by decide) 60 rfl ?_
  refine k_iast C dX12_init_60 hf 61 rfl (fun w67 _ hf => ?_)
  refine k_dup C dX12_init_61 rfl 62 rfl ?_
  refine k_iconst C dX12_init_62 (3) (by decide) 63 rfl ?_
  refine k_bipush C dX12_init_63 (108) (by decide) 65 rfl ?_
  refine k_iast C dX12_init_65 hf 66 rfl (fun w68 _ hf => ?_)
  refine k_dup C dX12_init_66 rfl 67 rfl ?_
  refine k_iconst C dX12_init_67 (4) (by decide) 68 rfl ?_
  refine k_iconst C dX12_init_68 (0) (by decide) 69 rfl ?_
  refine k_iast C dX12_init_69 hf 70 rfl (fun w69 _ hf => ?_)
  refine k_dup C dX12_init_70 rfl 71 rfl ?_
  refine k_iconst C dX12_init_71 (5) (by decide) 72 rfl ?_
  refine k_bipush C dX12_init_72 (103) (by decide) 74 rfl ?_
  refine k_iast C dX12_init_74 hf 75 rfl (fun w70 _ hf => ?_)
  refine k_dup C dX12_init_75 rfl 76 rfl ?_
  refine k_bipush C dX12_init_76 (6) (by decide) 78 rfl ?_
  refine k_bipush C dX12_init_78 (111) (by decide) 80 rfl ?_
  refine k_iast C dX12_init_80 hf 81 rfl (fun w71 _ hf => ?_)
  refine k_dup C dX12_init_81 rfl 82 rfl ?_
  refine k_bipush C dX12_init_82 (7) (by decide) 84 rfl ?_
  refine k_bipush C dX12_init_84 (111) (by decide) 86 rfl ?_
  refine k_iast C dX12_init_86 hf 87 rfl (fun w72 _ hf => ?_)
  refine k_dup C dX12_init_87 rfl 88 rfl ?_
  refine k_bipush C dX12_init_88 (8) (by decide) 90 rfl ?_
  refine k_bipush C dX12_init_90 (100) (by decide) 92 rfl ?_
  refine k_iast C dX12_init_92 hf 93 rfl (fun w73 _ hf => ?_)
  refine k_dup C dX12_init_93 rfl 94 rfl ?_
  refine k_bipush C dX12_init_94 (9) (by decide) 96 rfl ?_
  refine k_bipush C dX12_init_96 (115) (by decide) 98 rfl ?_
  refine k_iast C dX12_init_98 hf 99 rfl (fun w74 _ hf => ?_)
  refine k_dup C dX12_init_99 rfl 100 rfl ?_
  refine k_bipush C dX12_init_100 (10) (by decide) 102 rfl ?_
  refine k_bipush C dX12_init_102 (103) (by decide) 104 rfl ?_
  refine k_iast C dX12_init_104 hf 105 rfl (fun w75 _ hf => ?_)
  refine k_dup C dX12_init_105 rfl 106 rfl ?_
  refine k_bipush C dX12_init_106 (11) (by decide) 108 rfl ?_
  refine k_bipush C dX12_init_108 (114) (by decide) 110 rfl ?_
  refine k_iast C dX12_init_110 hf 111 rfl (fun w76 _ hf => ?_)
  refine k_dup C dX12_init_111 rfl 112 rfl ?_
  refine k_bipush C dX12_init_112 (12) (by decide) 114 rfl ?_
  refine k_bipush C dX12_init_114 (105) (by decide) 116 rfl ?_
  refine k_iast C dX12_init_116 hf 117 rfl (fun w77 _ hf => ?_)
  refine k_dup C dX12_init_117 rfl 118 rfl ?_
  refine k_bipush C dX12_init_118 (13) (by decide) 120 rfl ?_
  refine k_bipush C dX12_init_120 (110) (by decide) 122 rfl ?_
  refine k_iast C dX12_init_122 hf 123 rfl (fun w78 _ hf => ?_)
  refine k_dup C dX12_init_123 rfl 124 rfl ?_
  refine k_bipush C dX12_init_124 (14) (by decide) 126 rfl ?_
  refine k_bipush C dX12_init_126 (100) (by decide) 128 rfl ?_
  refine k_iast C dX12_init_128 hf 129 rfl (fun w79 _ hf => ?_)
  refine k_dup C dX12_init_129 rfl 130 rfl ?_
  refine k_bipush C dX12_init_130 (15) (by decide) 132 rfl ?_
  refine k_bipush C dX12_init_132 (119) (by decide) 134 rfl ?_
  refine k_iast C dX12_init_134 hf 135 rfl (fun w80 _ hf => ?_)
  refine k_dup C dX12_init_135 rfl 136 rfl ?_
  refine k_bipush C dX12_init_136 (16) (by decide) 138 rfl ?_
  refine k_bipush C dX12_init_138 (111) (by decide) 140 rfl ?_
  refine k_iast C dX12_init_140 hf 141 rfl (fun w81 _ hf => ?_)
  refine k_dup C dX12_init_141 rfl 142 rfl ?_
  refine k_bipush C dX12_init_142 (17) (by decide) 144 rfl ?_
  refine k_bipush C dX12_init_144 (114) (by decide) 146 rfl ?_
  refine k_iast C dX12_init_146 hf 147 rfl (fun w82 _ hf => ?_)
  refine k_dup C dX12_init_147 rfl 148 rfl ?_
  refine k_bipush C dX12_init_148 (18) (by decide) 150 rfl ?_
  refine k_bipush C dX12_init_150 (100) (by decide) 152 rfl ?_
  refine k_iast C dX12_init_152 hf 153 rfl (fun w83 _ hf => ?_)
  refine k_dup C dX12_init_153 rfl 154 rfl ?_
  refine k_bipush C dX12_init_154 (19) (by decide) 156 rfl ?_
  refine k_iconst C dX12_init_156 (0) (by decide) 157 rfl ?_
  refine k_iast C dX12_init_157 hf 158 rfl (fun w84 _ hf => ?_)
  refine k_dup C dX12_init_158 rfl 159 rfl ?_
  refine k_bipush C dX12_init_159 (20) (by decide) 161 rfl ?_
  refine k_bipush C dX12_init_161 (99) (by decide) 163 rfl ?_
  refine k_iast C dX12_init_163 hf 164 rfl (fun w85 _ hf => ?_)
  refine k_dup C dX12_init_164 rfl 165 rfl ?_
  refine k_bipush C dX12_init_165 (21) (by decide) 167 rfl ?_
  refine k_bipush C dX12_init_167 (111) (by decide) 169 rfl ?_
  refine k_iast C dX12_init_169 hf 170 rfl (fun w86 _ hf => ?_)
  refine k_dup C dX12_init_170 rfl 171 rfl ?_
  refine k_bipush C dX12_init_171 (22) (by decide) 173 rfl ?_
  refine k_bipush C dX12_init_173 (108) (by decide) 175 rfl ?_
  refine k_iast C dX12_init_175 hf 176 rfl (fun w87 _ hf => ?_)
  refine k_dup C dX12_init_176 rfl 177 rfl ?_
  refine k_bipush C dX12_init_177 (23) (by decide) 179 rfl ?_
  refine k_bipush C dX12_init_179 (100) (by decide) 181 rfl ?_
  refine k_iast C dX12_init_181 hf 182 rfl (fun w88 _ hf => ?_)
  refine k_dup C dX12_init_182 rfl 183 rfl ?_
  refine k_bipush C dX12_init_183 (24) (by decide) 185 rfl ?_
  refine k_iconst C dX12_init_185 (0) (by decide) 186 rfl ?_
  refine k_iast C dX12_init_186 hf 187 rfl (fun w89 _ hf => ?_)
  refine k_putRF C fe_X12_27 rfl rfl hin rfl dX12_init_187 hf 190 rfl (fun w90 _ hf => ?_)
  refine k_aload_n C dX12_init_190 0 rfl rfl 191 rfl ?_
  refine k_bipush C dX12_init_191 (18) (by decide) 193 rfl ?_
  refine k_newa (t := 14) (at_ := .int) rfl (by decide) (by decide) 1 (fun _ => rfl) (fun _ _ h => h) rfl (by decide) C arr_int ⟨by decide, by decide, by decide⟩ ⟨rfl, rfl⟩ dX12_init_193 hf 195 rfl (fun w91 hf => ?_)
  refine k_putRF C fe_X12_30 rfl rfl hin rfl dX12_init_195 hf 198 rfl (fun w92 _ hf => ?_)
  refine k_aload_n C dX12_init_198 0 rfl rfl 199 rfl ?_
  refine k_sipush C dX12_init_199 (427) (by decide) 202 rfl ?_
  refine k_newa (t := 14) (at_ := .int) rfl (by decide) (by decide) 1 (fun _ => rfl) (fun _ _ h => h) rfl (by decide) C arr_int ⟨by decide, by decide, by decide⟩ ⟨rfl, rfl⟩ dX12_init_202 hf 204 rfl (fun w93 hf => ?_)
  refine k_putRF C fe_X12_33 rfl rfl hin rfl dX12_init_204 hf 207 rfl (fun w94 _ hf => ?_)
  refine k_aload_n C dX12_init_207 0 rfl rfl 208 rfl ?_
  refine k_bipush C dX12_init_208 (91) (by decide) 210 rfl ?_
  refine k_newa (t := 14) (at_ := .int) rfl (by decide) (by decide) 1 (fun _ => rfl) (fun _ _ h => h) rfl (by decide) C arr_int ⟨by decide, by decide, by decide⟩ ⟨rfl, rfl⟩ dX12_init_210 hf 212 rfl (fun w95 hf => ?_)
  refine k_putRF C fe_X12_36 rfl rfl hin rfl dX12_init_212 hf 215 rfl (fun w96 _ hf => ?_)
  refine k_aload_n C dX12_init_215 0 rfl rfl 216 rfl ?_
  refine k_bipush C dX12_init_216 (6) (by decide) 218 rfl ?_
  refine k_newa (t := 14) (at_ := .int) rfl (by decide) (by decide) 1 (fun _ => rfl) (fun _ _ h => h) rfl (by decide) C arr_int ⟨by decide, by decide, by decide⟩ ⟨rfl, rfl⟩ dX12_init_218 hf 220 rfl (fun w97 hf => ?_)
  refine k_putRF C fe_X12_39 rfl rfl hin rfl dX12_init_220 hf 223 rfl (fun w98 _ hf => ?_)
  refine k_aload_n C dX12_init_223 0 rfl rfl 224 rfl ?_
  refine k_bipush C dX12_init_224 (36) (by decide) 226 rfl ?_
  refine k_newa (t := 14) (at_ := .int) rfl (by decide) (by decide) 1 (fun _ => rfl) (fun _ _ h => h) rfl (by decide) C arr_int ⟨by decide, by decide, by decide⟩ ⟨rfl, rfl⟩ dX12_init_226 hf 228 rfl (fun w99 hf => ?_)
  refine k_putRF C fe_X12_42 rfl rfl hin rfl dX12_init_228 hf 231 rfl (fun w100 _ hf => ?_)
  refine k_aload_n C dX12_init_231 0 rfl rfl 232 rfl ?_
  refine k_bipush C dX12_init_232 (36) (by decide) 234 rfl ?_
  refine k_newa (t := 14) (at_ := .int) rfl (by decide) (by decide) 1 (fun _ => rfl) (fun _ _ h => h) rfl (by decide) C arr_int ⟨by decide, by decide, by decide⟩ ⟨rfl, rfl⟩ dX12_init_234 hf 236 rfl (fun w101 hf => ?_)
  refine k_putRF C fe_X12_45 rfl rfl hin rfl dX12_init_236 hf 239 rfl (fun w102 _ hf => ?_)
  refine k_aload_n C dX12_init_239 0 rfl rfl 240 rfl ?_
  refine k_bipush C dX12_init_240 (60) (by decide) 242 rfl ?_
  refine k_callV_v C ye_X12_layMill ve_X12_48 ⟨rfl, rfl⟩ ⟨rfl, rfl⟩ dX12_init_242 [.int (60 : Int32)] rfl rfl (Nat.le_of_ble_eq_true rfl) (c_X12_layMill _ _ _) hf 245 rfl (fun w103 hf => ?_)
  exact k_vret C hr h0 dX12_init_245 hf
