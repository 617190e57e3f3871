theorem dX12_layStreet_0 : decode cX12_layStreet 0 = .ok (.iconst 0, 1) := by decide +kernel
theorem dX12_layStreet_1 : decode cX12_layStreet 1 = .ok (.istore_n 2, 1) := by decide +kernel
theorem dX12_layStreet_2 : decode cX12_layStreet 2 = .ok (.iload_n 2, 1) := by decide +kernel
theorem dX12_layStreet_3 : decode cX12_layStreet 3 = .ok (.aload_n 0, 1) := by decide +kernel
theorem dX12_layStreet_4 : decode cX12_layStreet 4 = .ok (.getfield 7, 3) := by decide +kernel
theorem dX12_layStreet_7 : decode cX12_layStreet 7 = .ok (.bipush 19, 2) := by decide +kernel
theorem dX12_layStreet_9 : decode cX12_layStreet 9 = .ok (.iaload, 1) := by decide +kernel
theorem dX12_layStreet_10 : decode cX12_layStreet 10 = .ok (.aload_n 0, 1) := by decide +kernel
theorem dX12_layStreet_11 : decode cX12_layStreet 11 = .ok (.getfield 7, 3) := by decide +kernel
theorem dX12_layStreet_14 : decode cX12_layStreet 14 = .ok (.bipush 19, 2) := by decide +kernel
theorem dX12_layStreet_16 : decode cX12_layStreet 16 = .ok (.iaload, 1) := by decide +kernel
theorem dX12_layStreet_17 : decode cX12_layStreet 17 = .ok (.imul, 1) := by decide +kernel
theorem dX12_layStreet_18 : decode cX12_layStreet 18 = .ok (.if_icmp .ge 226, 3) := by decide +kernel
theorem dX12_layStreet_21 : decode cX12_layStreet 21 = .ok (.iload_n 2, 1) := by decide +kernel
theorem dX12_layStreet_22 : decode cX12_layStreet 22 = .ok (.aload_n 0, 1) := by decide +kernel
theorem dX12_layStreet_23 : decode cX12_layStreet 23 = .ok (.getfield 7, 3) := by decide +kernel
theorem dX12_layStreet_26 : decode cX12_layStreet 26 = .ok (.bipush 19, 2) := by decide +kernel
theorem dX12_layStreet_28 : decode cX12_layStreet 28 = .ok (.iaload, 1) := by decide +kernel
theorem dX12_layStreet_29 : decode cX12_layStreet 29 = .ok (.idiv, 1) := by decide +kernel
theorem dX12_layStreet_30 : decode cX12_layStreet 30 = .ok (.istore_n 3, 1) := by decide +kernel
theorem dX12_layStreet_31 : decode cX12_layStreet 31 = .ok (.iload_n 2, 1) := by decide +kernel
theorem dX12_layStreet_32 : decode cX12_layStreet 32 = .ok (.aload_n 0, 1) := by decide +kernel
theorem dX12_layStreet_33 : decode cX12_layStreet 33 = .ok (.getfield 7, 3) := by decide +kernel
theorem dX12_layStreet_36 : decode cX12_layStreet 36 = .ok (.bipush 19, 2) := by decide +kernel
theorem dX12_layStreet_38 : decode cX12_layStreet 38 = .ok (.iaload, 1) := by decide +kernel
theorem dX12_layStreet_39 : decode cX12_layStreet 39 = .ok (.irem, 1) := by decide +kernel
theorem dX12_layStreet_40 : decode cX12_layStreet 40 = .ok (.istore 4, 2) := by decide +kernel
theorem dX12_layStreet_42 : decode cX12_layStreet 42 = .ok (.iload_n 1, 1) := by decide +kernel
theorem dX12_layStreet_43 : decode cX12_layStreet 43 = .ok (.aload_n 0, 1) := by decide +kernel
theorem dX12_layStreet_44 : decode cX12_layStreet 44 = .ok (.iload_n 3, 1) := by decide +kernel
theorem dX12_layStreet_45 : decode cX12_layStreet 45 = .ok (.iconst 0, 1) := by decide +kernel
theorem dX12_layStreet_46 : decode cX12_layStreet 46 = .ok (.aload_n 0, 1) := by decide +kernel
theorem dX12_layStreet_47 : decode cX12_layStreet 47 = .ok (.getfield 7, 3) := by decide +kernel
theorem dX12_layStreet_50 : decode cX12_layStreet 50 = .ok (.bipush 16, 2) := by decide +kernel
theorem dX12_layStreet_52 : decode cX12_layStreet 52 = .ok (.iaload, 1) := by decide +kernel
theorem dX12_layStreet_53 : decode cX12_layStreet 53 = .ok (.invokevirtual 124, 3) := by decide +kernel
theorem dX12_layStreet_56 : decode cX12_layStreet 56 = .ok (.imul, 1) := by decide +kernel
theorem dX12_layStreet_57 : decode cX12_layStreet 57 = .ok (.istore 5, 2) := by decide +kernel
theorem dX12_layStreet_59 : decode cX12_layStreet 59 = .ok (.iload_n 1, 1) := by decide +kernel
theorem dX12_layStreet_60 : decode cX12_layStreet 60 = .ok (.aload_n 0, 1) := by decide +kernel
theorem dX12_layStreet_61 : decode cX12_layStreet 61 = .ok (.iload 4, 2) := by decide +kernel
theorem dX12_layStreet_63 : decode cX12_layStreet 63 = .ok (.iconst 0, 1) := by decide +kernel
theorem dX12_layStreet_64 : decode cX12_layStreet 64 = .ok (.aload_n 0, 1) := by decide +kernel
theorem dX12_layStreet_65 : decode cX12_layStreet 65 = .ok (.getfield 7, 3) := by decide +kernel
theorem dX12_layStreet_68 : decode cX12_layStreet 68 = .ok (.bipush 16, 2) := by decide +kernel
theorem dX12_layStreet_70 : decode cX12_layStreet 70 = .ok (.iaload, 1) := by decide +kernel
theorem dX12_layStreet_71 : decode cX12_layStreet 71 = .ok (.invokevirtual 124, 3) := by decide +kernel
theorem dX12_layStreet_74 : decode cX12_layStreet 74 = .ok (.imul, 1) := by decide +kernel
theorem dX12_layStreet_75 : decode cX12_layStreet 75 = .ok (.istore 6, 2) := by decide +kernel
theorem dX12_layStreet_77 : decode cX12_layStreet 77 = .ok (.aload_n 0, 1) := by decide +kernel
theorem dX12_layStreet_78 : decode cX12_layStreet 78 = .ok (.getfield 7, 3) := by decide +kernel
theorem dX12_layStreet_81 : decode cX12_layStreet 81 = .ok (.bipush 6, 2) := by decide +kernel
theorem dX12_layStreet_83 : decode cX12_layStreet 83 = .ok (.iload_n 3, 1) := by decide +kernel
theorem dX12_layStreet_84 : decode cX12_layStreet 84 = .ok (.iadd, 1) := by decide +kernel
theorem dX12_layStreet_85 : decode cX12_layStreet 85 = .ok (.iaload, 1) := by decide +kernel
theorem dX12_layStreet_86 : decode cX12_layStreet 86 = .ok (.istore 7, 2) := by decide +kernel
theorem dX12_layStreet_88 : decode cX12_layStreet 88 = .ok (.aload_n 0, 1) := by decide +kernel
theorem dX12_layStreet_89 : decode cX12_layStreet 89 = .ok (.getfield 7, 3) := by decide +kernel
theorem dX12_layStreet_92 : decode cX12_layStreet 92 = .ok (.bipush 6, 2) := by decide +kernel
theorem dX12_layStreet_94 : decode cX12_layStreet 94 = .ok (.iload 4, 2) := by decide +kernel
theorem dX12_layStreet_96 : decode cX12_layStreet 96 = .ok (.iadd, 1) := by decide +kernel
theorem dX12_layStreet_97 : decode cX12_layStreet 97 = .ok (.iaload, 1) := by decide +kernel
theorem dX12_layStreet_98 : decode cX12_layStreet 98 = .ok (.istore 8, 2) := by decide +kernel
theorem dX12_layStreet_100 : decode cX12_layStreet 100 = .ok (.aload_n 0, 1) := by decide +kernel
theorem dX12_layStreet_101 : decode cX12_layStreet 101 = .ok (.getfield 42, 3) := by decide +kernel
theorem dX12_layStreet_104 : decode cX12_layStreet 104 = .ok (.bipush 6, 2) := by decide +kernel
theorem dX12_layStreet_106 : decode cX12_layStreet 106 = .ok (.iload_n 3, 1) := by decide +kernel
theorem dX12_layStreet_107 : decode cX12_layStreet 107 = .ok (.imul, 1) := by decide +kernel
theorem dX12_layStreet_108 : decode cX12_layStreet 108 = .ok (.iload 4, 2) := by decide +kernel
theorem dX12_layStreet_110 : decode cX12_layStreet 110 = .ok (.iadd, 1) := by decide +kernel
theorem dX12_layStreet_111 : decode cX12_layStreet 111 = .ok (.iconst 0, 1) := by decide +kernel
theorem dX12_layStreet_112 : decode cX12_layStreet 112 = .ok (.iastore, 1) := by decide +kernel
theorem dX12_layStreet_113 : decode cX12_layStreet 113 = .ok (.aload_n 0, 1) := by decide +kernel
theorem dX12_layStreet_114 : decode cX12_layStreet 114 = .ok (.getfield 45, 3) := by decide +kernel
theorem dX12_layStreet_117 : decode cX12_layStreet 117 = .ok (.bipush 6, 2) := by decide +kernel
theorem dX12_layStreet_119 : decode cX12_layStreet 119 = .ok (.iload_n 3, 1) := by decide +kernel
theorem dX12_layStreet_120 : decode cX12_layStreet 120 = .ok (.imul, 1) := by decide +kernel
theorem dX12_layStreet_121 : decode cX12_layStreet 121 = .ok (.iload 4, 2) := by decide +kernel
theorem dX12_layStreet_123 : decode cX12_layStreet 123 = .ok (.iadd, 1) := by decide +kernel
theorem dX12_layStreet_124 : decode cX12_layStreet 124 = .ok (.iconst 0, 1) := by decide +kernel
theorem dX12_layStreet_125 : decode cX12_layStreet 125 = .ok (.iastore, 1) := by decide +kernel
theorem dX12_layStreet_126 : decode cX12_layStreet 126 = .ok (.iload 5, 2) := by decide +kernel
theorem dX12_layStreet_128 : decode cX12_layStreet 128 = .ok (.ifCond .gt 8, 3) := by decide +kernel
theorem dX12_layStreet_131 : decode cX12_layStreet 131 = .ok (.iload 6, 2) := by decide +kernel
theorem dX12_layStreet_133 : decode cX12_layStreet 133 = .ok (.ifCond .le 105, 3) := by decide +kernel
theorem dX12_layStreet_136 : decode cX12_layStreet 136 = .ok (.iload 5, 2) := by decide +kernel
theorem dX12_layStreet_138 : decode cX12_layStreet 138 = .ok (.ifCond .le 47, 3) := by decide +kernel
theorem dX12_layStreet_141 : decode cX12_layStreet 141 = .ok (.aload_n 0, 1) := by decide +kernel
theorem dX12_layStreet_142 : decode cX12_layStreet 142 = .ok (.getfield 42, 3) := by decide +kernel
theorem dX12_layStreet_145 : decode cX12_layStreet 145 = .ok (.bipush 6, 2) := by decide +kernel
theorem dX12_layStreet_147 : decode cX12_layStreet 147 = .ok (.iload_n 3, 1) := by decide +kernel
theorem dX12_layStreet_148 : decode cX12_layStreet 148 = .ok (.imul, 1) := by decide +kernel
theorem dX12_layStreet_149 : decode cX12_layStreet 149 = .ok (.iload 4, 2) := by decide +kernel
theorem dX12_layStreet_151 : decode cX12_layStreet 151 = .ok (.iadd, 1) := by decide +kernel
theorem dX12_layStreet_152 : decode cX12_layStreet 152 = .ok (.dup2, 1) := by decide +kernel
theorem dX12_layStreet_153 : decode cX12_layStreet 153 = .ok (.iaload, 1) := by decide +kernel
theorem dX12_layStreet_154 : decode cX12_layStreet 154 = .ok (.aload_n 0, 1) := by decide +kernel
theorem dX12_layStreet_155 : decode cX12_layStreet 155 = .ok (.iload_n 3, 1) := by decide +kernel
theorem dX12_layStreet_156 : decode cX12_layStreet 156 = .ok (.iload 7, 2) := by decide +kernel
theorem dX12_layStreet_158 : decode cX12_layStreet 158 = .ok (.invokevirtual 150, 3) := by decide +kernel
theorem dX12_layStreet_161 : decode cX12_layStreet 161 = .ok (.iadd, 1) := by decide +kernel
theorem dX12_layStreet_162 : decode cX12_layStreet 162 = .ok (.iastore, 1) := by decide +kernel
theorem dX12_layStreet_163 : decode cX12_layStreet 163 = .ok (.iinc 7 1, 3) := by decide +kernel
theorem dX12_layStreet_166 : decode cX12_layStreet 166 = .ok (.iload 8, 2) := by decide +kernel
theorem dX12_layStreet_168 : decode cX12_layStreet 168 = .ok (.iload_n 3, 1) := by decide +kernel
theorem dX12_layStreet_169 : decode cX12_layStreet 169 = .ok (.iload 4, 2) := by decide +kernel
theorem dX12_layStreet_171 : decode cX12_layStreet 171 = .ok (.if_icmp .ne 7, 3) := by decide +kernel
theorem dX12_layStreet_174 : decode cX12_layStreet 174 = .ok (.iconst 1, 1) := by decide +kernel
theorem dX12_layStreet_175 : decode cX12_layStreet 175 = .ok (.goto 4, 3) := by decide +kernel
theorem dX12_layStreet_178 : decode cX12_layStreet 178 = .ok (.iconst 0, 1) := by decide +kernel
theorem dX12_layStreet_179 : decode cX12_layStreet 179 = .ok (.iadd, 1) := by decide +kernel
theorem dX12_layStreet_180 : decode cX12_layStreet 180 = .ok (.istore 8, 2) := by decide +kernel
theorem dX12_layStreet_182 : decode cX12_layStreet 182 = .ok (.iinc 5 (-1), 3) := by decide +kernel
theorem dX12_layStreet_185 : decode cX12_layStreet 185 = .ok (.iload 6, 2) := by decide +kernel
theorem dX12_layStreet_187 : decode cX12_layStreet 187 = .ok (.ifCond .le (-61), 3) := by decide +kernel
theorem dX12_layStreet_190 : decode cX12_layStreet 190 = .ok (.aload_n 0, 1) := by decide +kernel
theorem dX12_layStreet_191 : decode cX12_layStreet 191 = .ok (.getfield 45, 3) := by decide +kernel
theorem dX12_layStreet_194 : decode cX12_layStreet 194 = .ok (.bipush 6, 2) := by decide +kernel
theorem dX12_layStreet_196 : decode cX12_layStreet 196 = .ok (.iload_n 3, 1) := by decide +kernel
theorem dX12_layStreet_197 : decode cX12_layStreet 197 = .ok (.imul, 1) := by decide +kernel
theorem dX12_layStreet_198 : decode cX12_layStreet 198 = .ok (.iload 4, 2) := by decide +kernel
theorem dX12_layStreet_200 : decode cX12_layStreet 200 = .ok (.iadd, 1) := by decide +kernel
theorem dX12_layStreet_201 : decode cX12_layStreet 201 = .ok (.dup2, 1) := by decide +kernel
theorem dX12_layStreet_202 : decode cX12_layStreet 202 = .ok (.iaload, 1) := by decide +kernel
theorem dX12_layStreet_203 : decode cX12_layStreet 203 = .ok (.aload_n 0, 1) := by decide +kernel
theorem dX12_layStreet_204 : decode cX12_layStreet 204 = .ok (.iload 4, 2) := by decide +kernel
theorem dX12_layStreet_206 : decode cX12_layStreet 206 = .ok (.iload 8, 2) := by decide +kernel
theorem dX12_layStreet_208 : decode cX12_layStreet 208 = .ok (.invokevirtual 150, 3) := by decide +kernel
theorem dX12_layStreet_211 : decode cX12_layStreet 211 = .ok (.iadd, 1) := by decide +kernel
theorem dX12_layStreet_212 : decode cX12_layStreet 212 = .ok (.iastore, 1) := by decide +kernel
theorem dX12_layStreet_213 : decode cX12_layStreet 213 = .ok (.iinc 8 1, 3) := by decide +kernel
theorem dX12_layStreet_216 : decode cX12_layStreet 216 = .ok (.iload 7, 2) := by decide +kernel
theorem dX12_layStreet_218 : decode cX12_layStreet 218 = .ok (.iload_n 3, 1) := by decide +kernel
theorem dX12_layStreet_219 : decode cX12_layStreet 219 = .ok (.iload 4, 2) := by decide +kernel
theorem dX12_layStreet_221 : decode cX12_layStreet 221 = .ok (.if_icmp .ne 7, 3) := by decide +kernel
theorem dX12_layStreet_224 : decode cX12_layStreet 224 = .ok (.iconst 1, 1) := by decide +kernel
theorem dX12_layStreet_225 : decode cX12_layStreet 225 = .ok (.goto 4, 3) := by decide +kernel
theorem dX12_layStreet_228 : decode cX12_layStreet 228 = .ok (.iconst 0, 1) := by decide +kernel
theorem dX12_layStreet_229 : decode cX12_layStreet 229 = .ok (.iadd, 1) := by decide +kernel
theorem dX12_layStreet_230 : decode cX12_layStreet 230 = .ok (.istore 7, 2) := by decide +kernel
theorem dX12_layStreet_232 : decode cX12_layStreet 232 = .ok (.iinc 6 (-1), 3) := by decide +kernel
theorem dX12_layStreet_235 : decode cX12_layStreet 235 = .ok (.goto (-109), 3) := by decide +kernel
theorem dX12_layStreet_238 : decode cX12_layStreet 238 = .ok (.iinc 2 1, 3) := by decide +kernel
theorem dX12_layStreet_241 : decode cX12_layStreet 241 = .ok (.goto (-239), 3) := by decide +kernel
theorem dX12_layStreet_244 : decode cX12_layStreet 244 = .ok (.return_, 1) := by decide +kernel
set_option maxRecDepth 100000 in
set_option maxHeartbeats 4000000 in
theorem c_X12_layStreet {g : Gv} {l : Launch} (p0 : Nat) (p1 : Int32) (w0 : Wd) (wz : Wd) (hf : f_X12_layStreet p0 p1 w0 = some ((), wz)) : MV g l yX12_layStreet cX12_layStreet 9 2 47 0 0 [rV g p0, .int p1] w0 wz := by
  refine mv_of RX12 (by decide) rfl (Nat.le_of_ble_eq_true rfl) ?_
  intro X hg hll C hr h0 hin
  subst hg; subst hll
  have t_2 : ∀ (n : Nat) (v0 : Nat) (v1 : Int32) (v2 : Int32) (w : Wd), f_X12_layStreet_2 n v0 v1 v2 w = some ((), wz) → Wk X 0 0 (QV X 0 0 w0 wz) w [(0, rV (xg X) v0), (1, .int v1), (2, .int v2)] 2 [] := by
    intro n
    induction n with
    | zero => intro v0 v1 v2 w hf; rw [f_X12_layStreet_2] at hf; cases hf
    | succ n2 ih2 =>
      have t_126 : ∀ (n : Nat) (v0 : Nat) (v1 : Int32) (v2 : Int32) (v3 : Int32) (v4 : Int32) (v5 : Int32) (v6 : Int32) (v7 : Int32) (v8 : Int32) (w : Wd), f_X12_layStreet_126 (f_X12_layStreet_2 n2) n v0 v1 v2 v3 v4 v5 v6 v7 v8 w = some ((), wz) → Wk X 0 0 (QV X 0 0 w0 wz) w [(0, rV (xg X) v0), (1, .int v1), (2, .int v2), (3, .int v3), (4, .int v4), (5, .int v5), (6, .int v6), (7, .int v7), (8, .int v8)] 126 [] := by
        intro n
        induction n with
        | zero => intro v0 v1 v2 v3 v4 v5 v6 v7 v8 w hf; rw [f_X12_layStreet_126] at hf; cases hf
        | succ n126 ih126 =>
          have t_229 : ∀ (v0 : Nat) (v1 : Int32) (v2 : Int32) (v3 : Int32) (v4 : Int32) (v5 : Int32) (v6 : Int32) (v8 : Int32) (s0 : Int32) (s1 : Int32) (w : Wd), f_X12_layStreet_229 (f_X12_layStreet_2 n2) (f_X12_layStreet_126 (f_X12_layStreet_2 n2) n126) v0 v1 v2 v3 v4 v5 v6 v8 s0 s1 w = some ((), wz) → Wk X 0 0 (QV X 0 0 w0 wz) w [(0, rV (xg X) v0), (1, .int v1), (2, .int v2), (3, .int v3), (4, .int v4), (5, .int v5), (6, .int v6), (8, .int v8)] 229 [.int s0, .int s1] := by
            intro v0 v1 v2 v3 v4 v5 v6 v8 s0 s1 w hf
            unfold f_X12_layStreet_229 at hf
            refine k_iadd C dX12_layStreet_229 230 rfl ?_
            refine k_nmi hf (fun x41 hf => ?_)
            refine k_istore C dX12_layStreet_230 (by decide) [(7, .int x41), (0, rV (xg X) v0), (1, .int v1), (2, .int v2), (3, .int v3), (4, .int v4), (5, .int v5), (6, .int v6), (8, .int v8)] rfl 232 rfl ?_
            refine k_iinc C dX12_layStreet_232 7 rfl (by decide) (by decide) [(6, .int (v6 + (-1 : Int32))), (7, .int x41), (0, rV (xg X) v0), (1, .int v1), (2, .int v2), (3, .int v3), (4, .int v4), (5, .int v5), (8, .int v8)] rfl 235 rfl ?_
            refine k_goto C dX12_layStreet_235 126 rfl ?_
            refine k_sub [2, 3, 4, 5, 6, 7, 0, 1, 8] rfl ?_
            exact ih126 _ _ _ _ _ _ _ _ _ w hf
          have t_185 : ∀ (v0 : Nat) (v1 : Int32) (v2 : Int32) (v3 : Int32) (v4 : Int32) (v5 : Int32) (v6 : Int32) (v7 : Int32) (v8 : Int32) (w : Wd), f_X12_layStreet_185 (f_X12_layStreet_2 n2) (f_X12_layStreet_126 (f_X12_layStreet_2 n2) n126) v0 v1 v2 v3 v4 v5 v6 v7 v8 w = some ((), wz) → Wk X 0 0 (QV X 0 0 w0 wz) w [(0, rV (xg X) v0), (1, .int v1), (2, .int v2), (3, .int v3), (4, .int v4), (5, .int v5), (6, .int v6), (7, .int v7), (8, .int v8)] 185 [] := by
            intro v0 v1 v2 v3 v4 v5 v6 v7 v8 w hf
            unfold f_X12_layStreet_185 at hf
            refine k_iload C dX12_layStreet_185 6 rfl 187 rfl ?_
            refine k_if_le C dX12_layStreet_187 hf 126 rfl 190 rfl (fun hf => ?_) (fun hf => ?_)
            · refine k_sub [0, 1, 2, 3, 4, 5, 6, 7, 8] rfl ?_
              exact ih126 _ _ _ _ _ _ _ _ _ w hf
            · refine k_aload_n C dX12_layStreet_190 0 rfl rfl 191 rfl ?_
              refine k_getR C fe_X12_45 rfl dX12_layStreet_191 hf 194 rfl (fun r42 hf => ?_)
              refine k_bipush C dX12_layStreet_194 (6) (by decide) 196 rfl ?_
              refine k_iload_n C dX12_layStreet_196 3 rfl 197 rfl ?_
              refine k_imul C dX12_layStreet_197 198 rfl ?_
              refine k_iload C dX12_layStreet_198 4 rfl 200 rfl ?_
              refine k_iadd C dX12_layStreet_200 201 rfl ?_
              refine k_dup2 C dX12_layStreet_201 rfl rfl 202 rfl ?_
              refine k_iald C dX12_layStreet_202 hf 203 rfl (fun x43 hf => ?_)
              refine k_aload_n C dX12_layStreet_203 0 rfl rfl 204 rfl ?_
              refine k_iload C dX12_layStreet_204 4 rfl 206 rfl ?_
              refine k_iload C dX12_layStreet_206 8 rfl 208 rfl ?_
              refine k_callV_i C ye_X12_fetches ve_X12_150 ⟨rfl, rfl⟩ ⟨rfl, rfl⟩ dX12_layStreet_208 [.int v4, .int v8] rfl rfl (Nat.le_of_ble_eq_true rfl) (c_X12_fetches _ _ _ _) hf 211 rfl (fun x45 w44 hf => ?_)
              refine k_iadd C dX12_layStreet_211 212 rfl ?_
              refine k_iast C dX12_layStreet_212 hf 213 rfl (fun w46 _ hf => ?_)
              refine k_iinc C dX12_layStreet_213 8 rfl (by decide) (by decide) [(8, .int (v8 + (1 : Int32))), (0, rV (xg X) v0), (1, .int v1), (2, .int v2), (3, .int v3), (4, .int v4), (5, .int v5), (6, .int v6), (7, .int v7)] rfl 216 rfl ?_
              refine k_iload C dX12_layStreet_216 8 rfl 218 rfl ?_
              refine k_iload_n C dX12_layStreet_218 4 rfl 219 rfl ?_
              refine k_iload C dX12_layStreet_219 5 rfl 221 rfl ?_
              refine k_icmp_ne C dX12_layStreet_221 hf 228 rfl 224 rfl (fun hf => ?_) (fun hf => ?_)
              · refine k_iconst C dX12_layStreet_228 (0) (by decide) 229 rfl ?_
                refine k_sub [1, 2, 3, 4, 5, 6, 7, 0] rfl ?_
                exact t_229 _ _ _ _ _ _ _ _ _ _ w46 hf
              · refine k_iconst C dX12_layStreet_224 (1) (by decide) 225 rfl ?_
                refine k_goto C dX12_layStreet_225 229 rfl ?_
                refine k_sub [1, 2, 3, 4, 5, 6, 7, 0] rfl ?_
                exact t_229 _ _ _ _ _ _ _ _ _ _ w46 hf
          have t_179 : ∀ (v0 : Nat) (v1 : Int32) (v2 : Int32) (v3 : Int32) (v4 : Int32) (v5 : Int32) (v6 : Int32) (v7 : Int32) (s0 : Int32) (s1 : Int32) (w : Wd), f_X12_layStreet_179 (f_X12_layStreet_2 n2) (f_X12_layStreet_126 (f_X12_layStreet_2 n2) n126) v0 v1 v2 v3 v4 v5 v6 v7 s0 s1 w = some ((), wz) → Wk X 0 0 (QV X 0 0 w0 wz) w [(0, rV (xg X) v0), (1, .int v1), (2, .int v2), (3, .int v3), (4, .int v4), (5, .int v5), (6, .int v6), (7, .int v7)] 179 [.int s0, .int s1] := by
            intro v0 v1 v2 v3 v4 v5 v6 v7 s0 s1 w hf
            unfold f_X12_layStreet_179 at hf
            refine k_iadd C dX12_layStreet_179 180 rfl ?_
            refine k_nmi hf (fun x47 hf => ?_)
            refine k_istore C dX12_layStreet_180 (by decide) [(8, .int x47), (0, rV (xg X) v0), (1, .int v1), (2, .int v2), (3, .int v3), (4, .int v4), (5, .int v5), (6, .int v6), (7, .int v7)] rfl 182 rfl ?_
            refine k_iinc C dX12_layStreet_182 6 rfl (by decide) (by decide) [(5, .int (v5 + (-1 : Int32))), (8, .int x47), (0, rV (xg X) v0), (1, .int v1), (2, .int v2), (3, .int v3), (4, .int v4), (6, .int v6), (7, .int v7)] rfl 185 rfl ?_
            refine k_sub [2, 3, 4, 5, 6, 0, 7, 8, 1] rfl ?_
            exact t_185 _ _ _ _ _ _ _ _ _ w hf
          have t_136 : ∀ (v0 : Nat) (v1 : Int32) (v2 : Int32) (v3 : Int32) (v4 : Int32) (v5 : Int32) (v6 : Int32) (v7 : Int32) (v8 : Int32) (w : Wd), f_X12_layStreet_136 (f_X12_layStreet_2 n2) (f_X12_layStreet_126 (f_X12_layStreet_2 n2) n126) v0 v1 v2 v3 v4 v5 v6 v7 v8 w = some ((), wz) → Wk X 0 0 (QV X 0 0 w0 wz) w [(0, rV (xg X) v0), (1, .int v1), (2, .int v2), (3, .int v3), (4, .int v4), (5, .int v5), (6, .int v6), (7, .int v7), (8, .int v8)] 136 [] := by
            intro v0 v1 v2 v3 v4 v5 v6 v7 v8 w hf
            unfold f_X12_layStreet_136 at hf
            refine k_iload C dX12_layStreet_136 5 rfl 138 rfl ?_
            refine k_if_le C dX12_layStreet_138 hf 185 rfl 141 rfl (fun hf => ?_) (fun hf => ?_)
            · refine k_sub [0, 1, 2, 3, 4, 5, 6, 7, 8] rfl ?_
              exact t_185 _ _ _ _ _ _ _ _ _ w hf
            · refine k_aload_n C dX12_layStreet_141 0 rfl rfl 142 rfl ?_
              refine k_getR C fe_X12_42 rfl dX12_layStreet_142 hf 145 rfl (fun r48 hf => ?_)
              refine k_bipush C dX12_layStreet_145 (6) (by decide) 147 rfl ?_
              refine k_iload_n C dX12_layStreet_147 3 rfl 148 rfl ?_
              refine k_imul C dX12_layStreet_148 149 rfl ?_
              refine k_iload C dX12_layStreet_149 4 rfl 151 rfl ?_
              refine k_iadd C dX12_layStreet_151 152 rfl ?_
              refine k_dup2 C dX12_layStreet_152 rfl rfl 153 rfl ?_
              refine k_iald C dX12_layStreet_153 hf 154 rfl (fun x49 hf => ?_)
              refine k_aload_n C dX12_layStreet_154 0 rfl rfl 155 rfl ?_
              refine k_iload_n C dX12_layStreet_155 3 rfl 156 rfl ?_
              refine k_iload C dX12_layStreet_156 7 rfl 158 rfl ?_
              refine k_callV_i C ye_X12_fetches ve_X12_150 ⟨rfl, rfl⟩ ⟨rfl, rfl⟩ dX12_layStreet_158 [.int v3, .int v7] rfl rfl (Nat.le_of_ble_eq_true rfl) (c_X12_fetches _ _ _ _) hf 161 rfl (fun x51 w50 hf => ?_)
              refine k_iadd C dX12_layStreet_161 162 rfl ?_
              refine k_iast C dX12_layStreet_162 hf 163 rfl (fun w52 _ hf => ?_)
              refine k_iinc C dX12_layStreet_163 7 rfl (by decide) (by decide) [(7, .int (v7 + (1 : Int32))), (0, rV (xg X) v0), (1, .int v1), (2, .int v2), (3, .int v3), (4, .int v4), (5, .int v5), (6, .int v6), (8, .int v8)] rfl 166 rfl ?_
              refine k_iload C dX12_layStreet_166 8 rfl 168 rfl ?_
              refine k_iload_n C dX12_layStreet_168 4 rfl 169 rfl ?_
              refine k_iload C dX12_layStreet_169 5 rfl 171 rfl ?_
              refine k_icmp_ne C dX12_layStreet_171 hf 178 rfl 174 rfl (fun hf => ?_) (fun hf => ?_)
              · refine k_iconst C dX12_layStreet_178 (0) (by decide) 179 rfl ?_
                refine k_sub [1, 2, 3, 4, 5, 6, 7, 0] rfl ?_
                exact t_179 _ _ _ _ _ _ _ _ _ _ w52 hf
              · refine k_iconst C dX12_layStreet_174 (1) (by decide) 175 rfl ?_
                refine k_goto C dX12_layStreet_175 179 rfl ?_
                refine k_sub [1, 2, 3, 4, 5, 6, 7, 0] rfl ?_
                exact t_179 _ _ _ _ _ _ _ _ _ _ w52 hf
          intro v0 v1 v2 v3 v4 v5 v6 v7 v8 w hf
          rw [f_X12_layStreet_126] at hf
          refine k_iload C dX12_layStreet_126 5 rfl 128 rfl ?_
          refine k_if_gt C dX12_layStreet_128 hf 136 rfl 131 rfl (fun hf => ?_) (fun hf => ?_)
          · refine k_sub [0, 1, 2, 3, 4, 5, 6, 7, 8] rfl ?_
            exact t_136 _ _ _ _ _ _ _ _ _ w hf
          · refine k_iload C dX12_layStreet_131 6 rfl 133 rfl ?_
            refine k_if_le C dX12_layStreet_133 hf 238 rfl 136 rfl (fun hf => ?_) (fun hf => ?_)
            · refine k_iinc C dX12_layStreet_238 2 rfl (by decide) (by decide) [(2, .int (v2 + (1 : Int32))), (0, rV (xg X) v0), (1, .int v1), (3, .int v3), (4, .int v4), (5, .int v5), (6, .int v6), (7, .int v7), (8, .int v8)] rfl 241 rfl ?_
              refine k_goto C dX12_layStreet_241 2 rfl ?_
              refine k_sub [1, 2, 0] rfl ?_
              exact ih2 _ _ _ w hf
            · refine k_sub [0, 1, 2, 3, 4, 5, 6, 7, 8] rfl ?_
              exact t_136 _ _ _ _ _ _ _ _ _ w hf
      intro v0 v1 v2 w hf
      rw [f_X12_layStreet_2] at hf
      refine k_iload_n C dX12_layStreet_2 2 rfl 3 rfl ?_
      refine k_aload_n C dX12_layStreet_3 0 rfl rfl 4 rfl ?_
      refine k_getR C fe_X12_7 rfl dX12_layStreet_4 hf 7 rfl (fun r53 hf => ?_)
      refine k_bipush C dX12_layStreet_7 (19) (by decide) 9 rfl ?_
      refine k_iald C dX12_layStreet_9 hf 10 rfl (fun x54 hf => ?_)
      refine k_aload_n C dX12_layStreet_10 0 rfl rfl 11 rfl ?_
      refine k_getR C fe_X12_7 rfl dX12_layStreet_11 hf 14 rfl (fun r55 hf => ?_)
      refine k_bipush C dX12_layStreet_14 (19) (by decide) 16 rfl ?_
      refine k_iald C dX12_layStreet_16 hf 17 rfl (fun x56 hf => ?_)
      refine k_imul C dX12_layStreet_17 18 rfl ?_
      refine k_icmp_ge C dX12_layStreet_18 hf 244 rfl 21 rfl (fun hf => ?_) (fun hf => ?_)
      · exact k_vret C hr h0 dX12_layStreet_244 hf
      · refine k_iload_n C dX12_layStreet_21 2 rfl 22 rfl ?_
        refine k_aload_n C dX12_layStreet_22 0 rfl rfl 23 rfl ?_
        refine k_getR C fe_X12_7 rfl dX12_layStreet_23 hf 26 rfl (fun r57 hf => ?_)
        refine k_bipush C dX12_layStreet_26 (19) (by decide) 28 rfl ?_
        refine k_iald C dX12_layStreet_28 hf 29 rfl (fun x58 hf => ?_)
        obtain ⟨h029, hf⟩ := nz_s hf
        refine k_idiv C dX12_layStreet_29 h029 30 rfl ?_
        refine k_nmi hf (fun x59 hf => ?_)
        refine k_istore_n C dX12_layStreet_30 rfl (by decide) [(3, .int x59), (0, rV (xg X) v0), (1, .int v1), (2, .int v2)] rfl 31 rfl ?_
        refine k_iload_n C dX12_layStreet_31 3 rfl 32 rfl ?_
        refine k_aload_n C dX12_layStreet_32 1 rfl rfl 33 rfl ?_
        refine k_getR C fe_X12_7 rfl dX12_layStreet_33 hf 36 rfl (fun r60 hf => ?_)
        refine k_bipush C dX12_layStreet_36 (19) (by decide) 38 rfl ?_
        refine k_iald C dX12_layStreet_38 hf 39 rfl (fun x61 hf => ?_)
        obtain ⟨h039, hf⟩ := nz_s hf
        refine k_irem C dX12_layStreet_39 h039 40 rfl ?_
        refine k_nmi hf (fun x62 hf => ?_)
        refine k_istore C dX12_layStreet_40 (by decide) [(4, .int x62), (3, .int x59), (0, rV (xg X) v0), (1, .int v1), (2, .int v2)] rfl 42 rfl ?_
        refine k_iload_n C dX12_layStreet_42 3 rfl 43 rfl ?_
        refine k_aload_n C dX12_layStreet_43 2 rfl rfl 44 rfl ?_
        refine k_iload_n C dX12_layStreet_44 1 rfl 45 rfl ?_
        refine k_iconst C dX12_layStreet_45 (0) (by decide) 46 rfl ?_
        refine k_aload_n C dX12_layStreet_46 2 rfl rfl 47 rfl ?_
        refine k_getR C fe_X12_7 rfl dX12_layStreet_47 hf 50 rfl (fun r63 hf => ?_)
        refine k_bipush C dX12_layStreet_50 (16) (by decide) 52 rfl ?_
        refine k_iald C dX12_layStreet_52 hf 53 rfl (fun x64 hf => ?_)
        refine k_callV_i C ye_X12_ground ve_X12_124 ⟨rfl, rfl⟩ ⟨rfl, rfl⟩ dX12_layStreet_53 [.int x59, .int (0 : Int32), .int x64] rfl rfl (Nat.le_of_ble_eq_true rfl) (c_X12_ground _ _ _ _ _) hf 56 rfl (fun x66 w65 hf => ?_)
        refine k_imul C dX12_layStreet_56 57 rfl ?_
        refine k_nmi hf (fun x67 hf => ?_)
        refine k_istore C dX12_layStreet_57 (by decide) [(5, .int x67), (4, .int x62), (3, .int x59), (0, rV (xg X) v0), (1, .int v1), (2, .int v2)] rfl 59 rfl ?_
        refine k_iload_n C dX12_layStreet_59 4 rfl 60 rfl ?_
        refine k_aload_n C dX12_layStreet_60 3 rfl rfl 61 rfl ?_
        refine k_iload C dX12_layStreet_61 1 rfl 63 rfl ?_
        refine k_iconst C dX12_layStreet_63 (0) (by decide) 64 rfl ?_
        refine k_aload_n C dX12_layStreet_64 3 rfl rfl 65 rfl ?_
        refine k_getR C fe_X12_7 rfl dX12_layStreet_65 hf 68 rfl (fun r68 hf => ?_)
        refine k_bipush C dX12_layStreet_68 (16) (by decide) 70 rfl ?_
        refine k_iald C dX12_layStreet_70 hf 71 rfl (fun x69 hf => ?_)
        refine k_callV_i C ye_X12_ground ve_X12_124 ⟨rfl, rfl⟩ ⟨rfl, rfl⟩ dX12_layStreet_71 [.int x62, .int (0 : Int32), .int x69] rfl rfl (Nat.le_of_ble_eq_true rfl) (c_X12_ground _ _ _ _ _) hf 74 rfl (fun x71 w70 hf => ?_)
        refine k_imul C dX12_layStreet_74 75 rfl ?_
        refine k_nmi hf (fun x72 hf => ?_)
        refine k_istore C dX12_layStreet_75 (by decide) [(6, .int x72), (5, .int x67), (4, .int x62), (3, .int x59), (0, rV (xg X) v0), (1, .int v1), (2, .int v2)] rfl 77 rfl ?_
        refine k_aload_n C dX12_layStreet_77 4 rfl rfl 78 rfl ?_
        refine k_getR C fe_X12_7 rfl dX12_layStreet_78 hf 81 rfl (fun r73 hf => ?_)
        refine k_bipush C dX12_layStreet_81 (6) (by decide) 83 rfl ?_
        refine k_iload_n C dX12_layStreet_83 3 rfl 84 rfl ?_
        refine k_iadd C dX12_layStreet_84 85 rfl ?_
        refine k_iald C dX12_layStreet_85 hf 86 rfl (fun x74 hf => ?_)
        refine k_istore C dX12_layStreet_86 (by decide) [(7, .int x74), (6, .int x72), (5, .int x67), (4, .int x62), (3, .int x59), (0, rV (xg X) v0), (1, .int v1), (2, .int v2)] rfl 88 rfl ?_
        refine k_aload_n C dX12_layStreet_88 5 rfl rfl 89 rfl ?_
        refine k_getR C fe_X12_7 rfl dX12_layStreet_89 hf 92 rfl (fun r75 hf => ?_)
        refine k_bipush C dX12_layStreet_92 (6) (by decide) 94 rfl ?_
        refine k_iload C dX12_layStreet_94 3 rfl 96 rfl ?_
        refine k_iadd C dX12_layStreet_96 97 rfl ?_
        refine k_iald C dX12_layStreet_97 hf 98 rfl (fun x76 hf => ?_)
        refine k_istore C dX12_layStreet_98 (by decide) [(8, .int x76), (7, .int x74), (6, .int x72), (5, .int x67), (4, .int x62), (3, .int x59), (0, rV (xg X) v0), (1, .int v1), (2, .int v2)] rfl 100 rfl ?_
        refine k_aload_n C dX12_layStreet_100 6 rfl rfl 101 rfl ?_
        refine k_getR C fe_X12_42 rfl dX12_layStreet_101 hf 104 rfl (fun r77 hf => ?_)
        refine k_bipush C dX12_layStreet_104 (6) (by decide) 106 rfl ?_
        refine k_iload_n C dX12_layStreet_106 5 rfl 107 rfl ?_
        refine k_imul C dX12_layStreet_107 108 rfl ?_
        refine k_iload C dX12_layStreet_108 4 rfl 110 rfl ?_
        refine k_iadd C dX12_layStreet_110 111 rfl ?_
        refine k_iconst C dX12_layStreet_111 (0) (by decide) 112 rfl ?_
        refine k_iast C dX12_layStreet_112 hf 113 rfl (fun w78 _ hf => ?_)
        refine k_aload_n C dX12_layStreet_113 6 rfl rfl 114 rfl ?_
        refine k_getR C fe_X12_45 rfl dX12_layStreet_114 hf 117 rfl (fun r79 hf => ?_)
        refine k_bipush C dX12_layStreet_117 (6) (by decide) 119 rfl ?_
        refine k_iload_n C dX12_layStreet_119 5 rfl 120 rfl ?_
        refine k_imul C dX12_layStreet_120 121 rfl ?_
        refine k_iload C dX12_layStreet_121 4 rfl 123 rfl ?_
        refine k_iadd C dX12_layStreet_123 124 rfl ?_
        refine k_iconst C dX12_layStreet_124 (0) (by decide) 125 rfl ?_
        refine k_iast C dX12_layStreet_125 hf 126 rfl (fun w80 _ hf => ?_)
        refine k_sub [6, 7, 8, 5, 4, 3, 2, 1, 0] rfl ?_
        exact t_126 4096 _ _ _ _ _ _ _ _ _ w80 hf
  unfold f_X12_layStreet at hf
  refine k_sub (lv2 := [(0, rV (xg X) p0), (1, .int p1)]) [0, 1] rfl ?_
  refine k_iconst C dX12_layStreet_0 (0) (by decide) 1 rfl ?_
  refine k_istore_n C dX12_layStreet_1 rfl (by decide) [(2, .int (0 : Int32)), (0, rV (xg X) p0), (1, .int p1)] rfl 2 rfl ?_
  refine k_sub [1, 2, 0] rfl ?_
  exact t_2 4096 _ _ _ w0 hf
theorem dX12_mostKinds_0 : decode cX12_mostKinds 0 = .ok (.iconst 0, 1) := by decide +kernel
theorem dX12_mostKinds_1 : decode cX12_mostKinds 1 = .ok (.istore 5, 2) := by decide +kernel
theorem dX12_mostKinds_3 : decode cX12_mostKinds 3 = .ok (.iconst 0, 1) := by decide +kernel
theorem dX12_mostKinds_4 : decode cX12_mostKinds 4 = .ok (.istore 6, 2) := by decide +kernel
theorem dX12_mostKinds_6 : decode cX12_mostKinds 6 = .ok (.iload 6, 2) := by decide +kernel
theorem dX12_mostKinds_8 : decode cX12_mostKinds 8 = .ok (.bipush 6, 2) := by decide +kernel
theorem dX12_mostKinds_10 : decode cX12_mostKinds 10 = .ok (.if_icmp .ge 109, 3) := by decide +kernel
theorem dX12_mostKinds_13 : decode cX12_mostKinds 13 = .ok (.iconst 0, 1) := by decide +kernel
theorem dX12_mostKinds_14 : decode cX12_mostKinds 14 = .ok (.istore 7, 2) := by decide +kernel
theorem dX12_mostKinds_16 : decode cX12_mostKinds 16 = .ok (.iconst 0, 1) := by decide +kernel
theorem dX12_mostKinds_17 : decode cX12_mostKinds 17 = .ok (.istore 8, 2) := by decide +kernel
theorem dX12_mostKinds_19 : decode cX12_mostKinds 19 = .ok (.iload 8, 2) := by decide +kernel
theorem dX12_mostKinds_21 : decode cX12_mostKinds 21 = .ok (.bipush 6, 2) := by decide +kernel
theorem dX12_mostKinds_23 : decode cX12_mostKinds 23 = .ok (.if_icmp .ge 74, 3) := by decide +kernel
theorem dX12_mostKinds_26 : decode cX12_mostKinds 26 = .ok (.iload 7, 2) := by decide +kernel
theorem dX12_mostKinds_28 : decode cX12_mostKinds 28 = .ok (.iload_n 2, 1) := by decide +kernel
theorem dX12_mostKinds_29 : decode cX12_mostKinds 29 = .ok (.iload 6, 2) := by decide +kernel
theorem dX12_mostKinds_31 : decode cX12_mostKinds 31 = .ok (.invokestatic 143, 3) := by decide +kernel
theorem dX12_mostKinds_34 : decode cX12_mostKinds 34 = .ok (.ifCond .eq 53, 3) := by decide +kernel
theorem dX12_mostKinds_37 : decode cX12_mostKinds 37 = .ok (.iload_n 2, 1) := by decide +kernel
theorem dX12_mostKinds_38 : decode cX12_mostKinds 38 = .ok (.iload 8, 2) := by decide +kernel
theorem dX12_mostKinds_40 : decode cX12_mostKinds 40 = .ok (.invokestatic 143, 3) := by decide +kernel
theorem dX12_mostKinds_43 : decode cX12_mostKinds 43 = .ok (.ifCond .eq 44, 3) := by decide +kernel
theorem dX12_mostKinds_46 : decode cX12_mostKinds 46 = .ok (.iload 6, 2) := by decide +kernel
theorem dX12_mostKinds_48 : decode cX12_mostKinds 48 = .ok (.aload_n 0, 1) := by decide +kernel
theorem dX12_mostKinds_49 : decode cX12_mostKinds 49 = .ok (.getfield 7, 3) := by decide +kernel
theorem dX12_mostKinds_52 : decode cX12_mostKinds 52 = .ok (.bipush 26, 2) := by decide +kernel
theorem dX12_mostKinds_54 : decode cX12_mostKinds 54 = .ok (.iload_n 1, 1) := by decide +kernel
theorem dX12_mostKinds_55 : decode cX12_mostKinds 55 = .ok (.iadd, 1) := by decide +kernel
theorem dX12_mostKinds_56 : decode cX12_mostKinds 56 = .ok (.iaload, 1) := by decide +kernel
theorem dX12_mostKinds_57 : decode cX12_mostKinds 57 = .ok (.iload_n 3, 1) := by decide +kernel
theorem dX12_mostKinds_58 : decode cX12_mostKinds 58 = .ok (.iload 4, 2) := by decide +kernel
theorem dX12_mostKinds_60 : decode cX12_mostKinds 60 = .ok (.invokestatic 120, 3) := by decide +kernel
theorem dX12_mostKinds_63 : decode cX12_mostKinds 63 = .ok (.iload 8, 2) := by decide +kernel
theorem dX12_mostKinds_65 : decode cX12_mostKinds 65 = .ok (.aload_n 0, 1) := by decide +kernel
theorem dX12_mostKinds_66 : decode cX12_mostKinds 66 = .ok (.getfield 7, 3) := by decide +kernel
theorem dX12_mostKinds_69 : decode cX12_mostKinds 69 = .ok (.bipush 26, 2) := by decide +kernel
theorem dX12_mostKinds_71 : decode cX12_mostKinds 71 = .ok (.iload_n 1, 1) := by decide +kernel
theorem dX12_mostKinds_72 : decode cX12_mostKinds 72 = .ok (.iadd, 1) := by decide +kernel
theorem dX12_mostKinds_73 : decode cX12_mostKinds 73 = .ok (.iaload, 1) := by decide +kernel
theorem dX12_mostKinds_74 : decode cX12_mostKinds 74 = .ok (.iload_n 3, 1) := by decide +kernel
theorem dX12_mostKinds_75 : decode cX12_mostKinds 75 = .ok (.iload 4, 2) := by decide +kernel
theorem dX12_mostKinds_77 : decode cX12_mostKinds 77 = .ok (.invokestatic 120, 3) := by decide +kernel
theorem dX12_mostKinds_80 : decode cX12_mostKinds 80 = .ok (.if_icmp .ne 7, 3) := by decide +kernel
theorem dX12_mostKinds_83 : decode cX12_mostKinds 83 = .ok (.iconst 1, 1) := by decide +kernel
theorem dX12_mostKinds_84 : decode cX12_mostKinds 84 = .ok (.goto 4, 3) := by decide +kernel
theorem dX12_mostKinds_87 : decode cX12_mostKinds 87 = .ok (.iconst 0, 1) := by decide +kernel
theorem dX12_mostKinds_88 : decode cX12_mostKinds 88 = .ok (.iadd, 1) := by decide +kernel
theorem dX12_mostKinds_89 : decode cX12_mostKinds 89 = .ok (.istore 7, 2) := by decide +kernel
theorem dX12_mostKinds_91 : decode cX12_mostKinds 91 = .ok (.iinc 8 1, 3) := by decide +kernel
theorem dX12_mostKinds_94 : decode cX12_mostKinds 94 = .ok (.goto (-75), 3) := by decide +kernel
theorem dX12_mostKinds_97 : decode cX12_mostKinds 97 = .ok (.iload 7, 2) := by decide +kernel
theorem dX12_mostKinds_99 : decode cX12_mostKinds 99 = .ok (.iload 5, 2) := by decide +kernel
theorem dX12_mostKinds_101 : decode cX12_mostKinds 101 = .ok (.if_icmp .le 8, 3) := by decide +kernel
theorem dX12_mostKinds_104 : decode cX12_mostKinds 104 = .ok (.iload 7, 2) := by decide +kernel
theorem dX12_mostKinds_106 : decode cX12_mostKinds 106 = .ok (.goto 5, 3) := by decide +kernel
theorem dX12_mostKinds_109 : decode cX12_mostKinds 109 = .ok (.iload 5, 2) := by decide +kernel
theorem dX12_mostKinds_111 : decode cX12_mostKinds 111 = .ok (.istore 5, 2) := by decide +kernel
theorem dX12_mostKinds_113 : decode cX12_mostKinds 113 = .ok (.iinc 6 1, 3) := by decide +kernel
theorem dX12_mostKinds_116 : decode cX12_mostKinds 116 = .ok (.goto (-110), 3) := by decide +kernel
theorem dX12_mostKinds_119 : decode cX12_mostKinds 119 = .ok (.iload 5, 2) := by decide +kernel
theorem dX12_mostKinds_121 : decode cX12_mostKinds 121 = .ok (.ireturn, 1) := by decide +kernel
set_option maxRecDepth 100000 in
set_option maxHeartbeats 4000000 in
theorem c_X12_mostKinds {g : Gv} {l : Launch} (p0 : Nat) (p1 : Int32) (p2 : Int32) (p3 : Int32) (p4 : Int32) (w0 : Wd) (rz : Int32) (wz : Wd) (hf : f_X12_mostKinds p0 p1 p2 p3 p4 w0 = some (rz, wz)) : MI g l yX12_mostKinds cX12_mostKinds 9 .int 1 24 [rV g p0, .int p1, .int p2, .int p3, .int p4] w0 rz wz := by
  refine mi_of RX12 (by decide) rfl (Nat.le_of_ble_eq_true rfl) ?_
  intro X hg hll C hr h0
  subst hg; subst hll
  have t_6 : ∀ (n : Nat) (v0 : Nat) (v1 : Int32) (v2 : Int32) (v3 : Int32) (v4 : Int32) (v5 : Int32) (v6 : Int32) (w : Wd), f_X12_mostKinds_6 n v0 v1 v2 v3 v4 v5 v6 w = some (rz, wz) → Wk X 0 0 (QI X w0 rz wz) w [(0, rV (xg X) v0), (1, .int v1), (2, .int v2), (3, .int v3), (4, .int v4), (5, .int v5), (6, .int v6)] 6 [] := by
    intro n
    induction n with
    | zero => intro v0 v1 v2 v3 v4 v5 v6 w hf; rw [f_X12_mostKinds_6] at hf; cases hf
    | succ n6 ih6 =>
      have t_111 : ∀ (v0 : Nat) (v1 : Int32) (v2 : Int32) (v3 : Int32) (v4 : Int32) (v6 : Int32) (s0 : Int32) (w : Wd), f_X12_mostKinds_111 (f_X12_mostKinds_6 n6) v0 v1 v2 v3 v4 v6 s0 w = some (rz, wz) → Wk X 0 0 (QI X w0 rz wz) w [(0, rV (xg X) v0), (1, .int v1), (2, .int v2), (3, .int v3), (4, .int v4), (6, .int v6)] 111 [.int s0] := by
        intro v0 v1 v2 v3 v4 v6 s0 w hf
        unfold f_X12_mostKinds_111 at hf
        refine k_istore C dX12_mostKinds_111 (by decide) [(5, .int s0), (0, rV (xg X) v0), (1, .int v1), (2, .int v2), (3, .int v3), (4, .int v4), (6, .int v6)] rfl 113 rfl ?_
        refine k_iinc C dX12_mostKinds_113 6 rfl (by decide) (by decide) [(6, .int (v6 + (1 : Int32))), (5, .int s0), (0, rV (xg X) v0), (1, .int v1), (2, .int v2), (3, .int v3), (4, .int v4)] rfl 116 rfl ?_
        refine k_goto C dX12_mostKinds_116 6 rfl ?_
        refine k_sub [2, 3, 4, 5, 6, 1, 0] rfl ?_
        exact ih6 _ _ _ _ _ _ _ w hf
      have t_19 : ∀ (n : Nat) (v0 : Nat) (v1 : Int32) (v2 : Int32) (v3 : Int32) (v4 : Int32) (v5 : Int32) (v6 : Int32) (v7 : Int32) (v8 : Int32) (w : Wd), f_X12_mostKinds_19 (f_X12_mostKinds_6 n6) n v0 v1 v2 v3 v4 v5 v6 v7 v8 w = some (rz, wz) → Wk X 0 0 (QI X w0 rz wz) w [(0, rV (xg X) v0), (1, .int v1), (2, .int v2), (3, .int v3), (4, .int v4), (5, .int v5), (6, .int v6), (7, .int v7), (8, .int v8)] 19 [] := by
        intro n
        induction n with
        | zero => intro v0 v1 v2 v3 v4 v5 v6 v7 v8 w hf; rw [f_X12_mostKinds_19] at hf; cases hf
        | succ n19 ih19 =>
          have t_88 : ∀ (v0 : Nat) (v1 : Int32) (v2 : Int32) (v3 : Int32) (v4 : Int32) (v5 : Int32) (v6 : Int32) (v8 : Int32) (s0 : Int32) (s1 : Int32) (w : Wd), f_X12_mostKinds_88 (f_X12_mostKinds_6 n6) (f_X12_mostKinds_19 (f_X12_mostKinds_6 n6) n19) v0 v1 v2 v3 v4 v5 v6 v8 s0 s1 w = some (rz, wz) → Wk X 0 0 (QI X w0 rz wz) w [(0, rV (xg X) v0), (1, .int v1), (2, .int v2), (3, .int v3), (4, .int v4), (5, .int v5), (6, .int v6), (8, .int v8)] 88 [.int s0, .int s1] := by
            intro v0 v1 v2 v3 v4 v5 v6 v8 s0 s1 w hf
            unfold f_X12_mostKinds_88 at hf
            refine k_iadd C dX12_mostKinds_88 89 rfl ?_
            refine k_nmi hf (fun x14 hf => ?_)
            refine k_istore C dX12_mostKinds_89 (by decide) [(7, .int x14), (0, rV (xg X) v0), (1, .int v1), (2, .int v2), (3, .int v3), (4, .int v4), (5, .int v5), (6, .int v6), (8, .int v8)] rfl 91 rfl ?_
            refine k_iinc C dX12_mostKinds_91 8 rfl (by decide) (by decide) [(8, .int (v8 + (1 : Int32))), (7, .int x14), (0, rV (xg X) v0), (1, .int v1), (2, .int v2), (3, .int v3), (4, .int v4), (5, .int v5), (6, .int v6)] rfl 94 rfl ?_
            refine k_goto C dX12_mostKinds_94 19 rfl ?_
            refine k_sub [2, 3, 4, 5, 6, 7, 8, 1, 0] rfl ?_
            exact ih19 _ _ _ _ _ _ _ _ _ w hf
          have t_87 : ∀ (v0 : Nat) (v1 : Int32) (v2 : Int32) (v3 : Int32) (v4 : Int32) (v5 : Int32) (v6 : Int32) (v8 : Int32) (s0 : Int32) (w : Wd), f_X12_mostKinds_87 (f_X12_mostKinds_6 n6) (f_X12_mostKinds_19 (f_X12_mostKinds_6 n6) n19) v0 v1 v2 v3 v4 v5 v6 v8 s0 w = some (rz, wz) → Wk X 0 0 (QI X w0 rz wz) w [(0, rV (xg X) v0), (1, .int v1), (2, .int v2), (3, .int v3), (4, .int v4), (5, .int v5), (6, .int v6), (8, .int v8)] 87 [.int s0] := by
            intro v0 v1 v2 v3 v4 v5 v6 v8 s0 w hf
            unfold f_X12_mostKinds_87 at hf
            refine k_iconst C dX12_mostKinds_87 (0) (by decide) 88 rfl ?_
            refine k_sub [0, 1, 2, 3, 4, 5, 6, 7] rfl ?_
            exact t_88 _ _ _ _ _ _ _ _ _ _ w hf
          intro v0 v1 v2 v3 v4 v5 v6 v7 v8 w hf
          rw [f_X12_mostKinds_19] at hf
          refine k_iload C dX12_mostKinds_19 8 rfl 21 rfl ?_
          refine k_bipush C dX12_mostKinds_21 (6) (by decide) 23 rfl ?_
          refine k_icmp_ge C dX12_mostKinds_23 hf 97 rfl 26 rfl (fun hf => ?_) (fun hf => ?_)
          · refine k_iload C dX12_mostKinds_97 7 rfl 99 rfl ?_
            refine k_iload C dX12_mostKinds_99 5 rfl 101 rfl ?_
            refine k_icmp_le C dX12_mostKinds_101 hf 109 rfl 104 rfl (fun hf => ?_) (fun hf => ?_)
            · refine k_iload C dX12_mostKinds_109 5 rfl 111 rfl ?_
              refine k_sub [0, 1, 2, 3, 4, 6] rfl ?_
              exact t_111 _ _ _ _ _ _ _ w hf
            · refine k_iload C dX12_mostKinds_104 7 rfl 106 rfl ?_
              refine k_goto C dX12_mostKinds_106 111 rfl ?_
              refine k_sub [0, 1, 2, 3, 4, 6] rfl ?_
              exact t_111 _ _ _ _ _ _ _ w hf
          · refine k_iload C dX12_mostKinds_26 7 rfl 28 rfl ?_
            refine k_iload_n C dX12_mostKinds_28 2 rfl 29 rfl ?_
            refine k_iload C dX12_mostKinds_29 6 rfl 31 rfl ?_
            refine k_callS_i C ye_X12_has se_X12_143 ⟨rfl, rfl⟩ ⟨rfl, rfl⟩ dX12_mostKinds_31 [.int v2, .int v6] rfl rfl (Nat.le_of_ble_eq_true rfl) (c_X12_has _ _ _) hf 34 rfl (fun x16 w15 hf => ?_)
            refine k_if_eq C dX12_mostKinds_34 hf 87 rfl 37 rfl (fun hf => ?_) (fun hf => ?_)
            · refine k_sub [0, 1, 2, 3, 4, 5, 6, 8] rfl ?_
              exact t_87 _ _ _ _ _ _ _ _ _ w15 hf
            · refine k_iload_n C dX12_mostKinds_37 2 rfl 38 rfl ?_
              refine k_iload C dX12_mostKinds_38 8 rfl 40 rfl ?_
              refine k_callS_i C ye_X12_has se_X12_143 ⟨rfl, rfl⟩ ⟨rfl, rfl⟩ dX12_mostKinds_40 [.int v2, .int v8] rfl rfl (Nat.le_of_ble_eq_true rfl) (c_X12_has _ _ _) hf 43 rfl (fun x18 w17 hf => ?_)
              refine k_if_eq C dX12_mostKinds_43 hf 87 rfl 46 rfl (fun hf => ?_) (fun hf => ?_)
              · refine k_sub [0, 1, 2, 3, 4, 5, 6, 8] rfl ?_
                exact t_87 _ _ _ _ _ _ _ _ _ w17 hf
              · refine k_iload C dX12_mostKinds_46 6 rfl 48 rfl ?_
                refine k_aload_n C dX12_mostKinds_48 0 rfl rfl 49 rfl ?_
                refine k_getR C fe_X12_7 rfl dX12_mostKinds_49 hf 52 rfl (fun r19 hf => ?_)
                refine k_bipush C dX12_mostKinds_52 (26) (by decide) 54 rfl ?_
                refine k_iload_n C dX12_mostKinds_54 1 rfl 55 rfl ?_
                refine k_iadd C dX12_mostKinds_55 56 rfl ?_
                refine k_iald C dX12_mostKinds_56 hf 57 rfl (fun x20 hf => ?_)
                refine k_iload_n C dX12_mostKinds_57 3 rfl 58 rfl ?_
                refine k_iload C dX12_mostKinds_58 4 rfl 60 rfl ?_
                refine k_callS_i C ye_X12_groundBy se_X12_120 ⟨rfl, rfl⟩ ⟨rfl, rfl⟩ dX12_mostKinds_60 [.int v6, .int x20, .int v3, .int v4] rfl rfl (Nat.le_of_ble_eq_true rfl) (c_X12_groundBy _ _ _ _ _) hf 63 rfl (fun x22 w21 hf => ?_)
                refine k_iload C dX12_mostKinds_63 8 rfl 65 rfl ?_
                refine k_aload_n C dX12_mostKinds_65 0 rfl rfl 66 rfl ?_
                refine k_getR C fe_X12_7 rfl dX12_mostKinds_66 hf 69 rfl (fun r23 hf => ?_)
                refine k_bipush C dX12_mostKinds_69 (26) (by decide) 71 rfl ?_
                refine k_iload_n C dX12_mostKinds_71 1 rfl 72 rfl ?_
                refine k_iadd C dX12_mostKinds_72 73 rfl ?_
                refine k_iald C dX12_mostKinds_73 hf 74 rfl (fun x24 hf => ?_)
                refine k_iload_n C dX12_mostKinds_74 3 rfl 75 rfl ?_
                refine k_iload C dX12_mostKinds_75 4 rfl 77 rfl ?_
                refine k_callS_i C ye_X12_groundBy se_X12_120 ⟨rfl, rfl⟩ ⟨rfl, rfl⟩ dX12_mostKinds_77 [.int v8, .int x24, .int v3, .int v4] rfl rfl (Nat.le_of_ble_eq_true rfl) (c_X12_groundBy _ _ _ _ _) hf 80 rfl (fun x26 w25 hf => ?_)
                refine k_icmp_ne C dX12_mostKinds_80 hf 87 rfl 83 rfl (fun hf => ?_) (fun hf => ?_)
                · refine k_sub [0, 1, 2, 3, 4, 5, 6, 8] rfl ?_
                  exact t_87 _ _ _ _ _ _ _ _ _ w25 hf
                · refine k_iconst C dX12_mostKinds_83 (1) (by decide) 84 rfl ?_
                  refine k_goto C dX12_mostKinds_84 88 rfl ?_
                  refine k_sub [0, 1, 2, 3, 4, 5, 6, 8] rfl ?_
                  exact t_88 _ _ _ _ _ _ _ _ _ _ w25 hf
      intro v0 v1 v2 v3 v4 v5 v6 w hf
      rw [f_X12_mostKinds_6] at hf
      refine k_iload C dX12_mostKinds_6 6 rfl 8 rfl ?_
      refine k_bipush C dX12_mostKinds_8 (6) (by decide) 10 rfl ?_
      refine k_icmp_ge C dX12_mostKinds_10 hf 119 rfl 13 rfl (fun hf => ?_) (fun hf => ?_)
      · refine k_iload C dX12_mostKinds_119 5 rfl 121 rfl ?_
        exact k_iret C hr h0 dX12_mostKinds_121 hf
      · refine k_iconst C dX12_mostKinds_13 (0) (by decide) 14 rfl ?_
        refine k_istore C dX12_mostKinds_14 (by decide) [(7, .int (0 : Int32)), (0, rV (xg X) v0), (1, .int v1), (2, .int v2), (3, .int v3), (4, .int v4), (5, .int v5), (6, .int v6)] rfl 16 rfl ?_
        refine k_iconst C dX12_mostKinds_16 (0) (by decide) 17 rfl ?_
        refine k_istore C dX12_mostKinds_17 (by decide) [(8, .int (0 : Int32)), (7, .int (0 : Int32)), (0, rV (xg X) v0), (1, .int v1), (2, .int v2), (3, .int v3), (4, .int v4), (5, .int v5), (6, .int v6)] rfl 19 rfl ?_
        refine k_sub [2, 3, 4, 5, 6, 7, 8, 1, 0] rfl ?_
        exact t_19 4096 _ _ _ _ _ _ _ _ _ w hf
  unfold f_X12_mostKinds at hf
  refine k_sub (lv2 := [(0, rV (xg X) p0), (1, .int p1), (2, .int p2), (3, .int p3), (4, .int p4)]) [0, 1, 2, 3, 4] rfl ?_
  refine k_iconst C dX12_mostKinds_0 (0) (by decide) 1 rfl ?_
  refine k_istore C dX12_mostKinds_1 (by decide) [(5, .int (0 : Int32)), (0, rV (xg X) p0), (1, .int p1), (2, .int p2), (3, .int p3), (4, .int p4)] rfl 3 rfl ?_
  refine k_iconst C dX12_mostKinds_3 (0) (by decide) 4 rfl ?_
  refine k_istore C dX12_mostKinds_4 (by decide) [(6, .int (0 : Int32)), (5, .int (0 : Int32)), (0, rV (xg X) p0), (1, .int p1), (2, .int p2), (3, .int p3), (4, .int p4)] rfl 6 rfl ?_
  refine k_sub [2, 3, 4, 5, 6, 1, 0] rfl ?_
  exact t_6 4096 _ _ _ _ _ _ _ w0 hf
theorem dX12_look_0 : decode cX12_look 0 = .ok (.aload_n 0, 1) := by decide +kernel
theorem dX12_look_1 : decode cX12_look 1 = .ok (.iload_n 1, 1) := by decide +kernel
theorem dX12_look_2 : decode cX12_look 2 = .ok (.invokevirtual 131, 3) := by decide +kernel
theorem dX12_look_5 : decode cX12_look 5 = .ok (.ifCond .ne 10, 3) := by decide +kernel
theorem dX12_look_8 : decode cX12_look 8 = .ok (.aload_n 0, 1) := by decide +kernel
theorem dX12_look_9 : decode cX12_look 9 = .ok (.bipush (-2), 2) := by decide +kernel
theorem dX12_look_11 : decode cX12_look 11 = .ok (.invokevirtual 56, 3) := by decide +kernel
theorem dX12_look_14 : decode cX12_look 14 = .ok (.ireturn, 1) := by decide +kernel
theorem dX12_look_15 : decode cX12_look 15 = .ok (.aload_n 0, 1) := by decide +kernel
theorem dX12_look_16 : decode cX12_look 16 = .ok (.iload_n 1, 1) := by decide +kernel
theorem dX12_look_17 : decode cX12_look 17 = .ok (.invokevirtual 180, 3) := by decide +kernel
theorem dX12_look_20 : decode cX12_look 20 = .ok (.istore_n 2, 1) := by decide +kernel
theorem dX12_look_21 : decode cX12_look 21 = .ok (.iconst (-1), 1) := by decide +kernel
theorem dX12_look_22 : decode cX12_look 22 = .ok (.istore_n 3, 1) := by decide +kernel
theorem dX12_look_23 : decode cX12_look 23 = .ok (.bipush 99, 2) := by decide +kernel
theorem dX12_look_25 : decode cX12_look 25 = .ok (.istore 4, 2) := by decide +kernel
theorem dX12_look_27 : decode cX12_look 27 = .ok (.iconst 0, 1) := by decide +kernel
theorem dX12_look_28 : decode cX12_look 28 = .ok (.istore 5, 2) := by decide +kernel
theorem dX12_look_30 : decode cX12_look 30 = .ok (.iload 5, 2) := by decide +kernel
theorem dX12_look_32 : decode cX12_look 32 = .ok (.bipush 10, 2) := by decide +kernel
theorem dX12_look_34 : decode cX12_look 34 = .ok (.if_icmp .ge 76, 3) := by decide +kernel
theorem dX12_look_37 : decode cX12_look 37 = .ok (.iload_n 2, 1) := by decide +kernel
theorem dX12_look_38 : decode cX12_look 38 = .ok (.ifCond .eq 72, 3) := by decide +kernel
theorem dX12_look_41 : decode cX12_look 41 = .ok (.iconst 0, 1) := by decide +kernel
theorem dX12_look_42 : decode cX12_look 42 = .ok (.istore 6, 2) := by decide +kernel
theorem dX12_look_44 : decode cX12_look 44 = .ok (.iload 6, 2) := by decide +kernel
theorem dX12_look_46 : decode cX12_look 46 = .ok (.iconst 4, 1) := by decide +kernel
theorem dX12_look_47 : decode cX12_look 47 = .ok (.if_icmp .ge 57, 3) := by decide +kernel
theorem dX12_look_50 : decode cX12_look 50 = .ok (.aload_n 0, 1) := by decide +kernel
theorem dX12_look_51 : decode cX12_look 51 = .ok (.iload_n 1, 1) := by decide +kernel
theorem dX12_look_52 : decode cX12_look 52 = .ok (.iload_n 2, 1) := by decide +kernel
theorem dX12_look_53 : decode cX12_look 53 = .ok (.iload 6, 2) := by decide +kernel
theorem dX12_look_55 : decode cX12_look 55 = .ok (.iload 5, 2) := by decide +kernel
theorem dX12_look_57 : decode cX12_look 57 = .ok (.invokevirtual 183, 3) := by decide +kernel
theorem dX12_look_60 : decode cX12_look 60 = .ok (.istore 7, 2) := by decide +kernel
theorem dX12_look_62 : decode cX12_look 62 = .ok (.iload 7, 2) := by decide +kernel
theorem dX12_look_64 : decode cX12_look 64 = .ok (.iload 4, 2) := by decide +kernel
theorem dX12_look_66 : decode cX12_look 66 = .ok (.if_icmp .ge 14, 3) := by decide +kernel
theorem dX12_look_69 : decode cX12_look 69 = .ok (.bipush 10, 2) := by decide +kernel
theorem dX12_look_71 : decode cX12_look 71 = .ok (.iload 5, 2) := by decide +kernel
theorem dX12_look_73 : decode cX12_look 73 = .ok (.imul, 1) := by decide +kernel
theorem dX12_look_74 : decode cX12_look 74 = .ok (.iload 6, 2) := by decide +kernel
theorem dX12_look_76 : decode cX12_look 76 = .ok (.iadd, 1) := by decide +kernel
theorem dX12_look_77 : decode cX12_look 77 = .ok (.goto 4, 3) := by decide +kernel
theorem dX12_look_80 : decode cX12_look 80 = .ok (.iload_n 3, 1) := by decide +kernel
theorem dX12_look_81 : decode cX12_look 81 = .ok (.istore_n 3, 1) := by decide +kernel
theorem dX12_look_82 : decode cX12_look 82 = .ok (.iload 7, 2) := by decide +kernel
theorem dX12_look_84 : decode cX12_look 84 = .ok (.iload 4, 2) := by decide +kernel
theorem dX12_look_86 : decode cX12_look 86 = .ok (.if_icmp .ge 8, 3) := by decide +kernel
theorem dX12_look_89 : decode cX12_look 89 = .ok (.iload 7, 2) := by decide +kernel
theorem dX12_look_91 : decode cX12_look 91 = .ok (.goto 5, 3) := by decide +kernel
theorem dX12_look_94 : decode cX12_look 94 = .ok (.iload 4, 2) := by decide +kernel
theorem dX12_look_96 : decode cX12_look 96 = .ok (.istore 4, 2) := by decide +kernel
theorem dX12_look_98 : decode cX12_look 98 = .ok (.iinc 6 1, 3) := by decide +kernel
theorem dX12_look_101 : decode cX12_look 101 = .ok (.goto (-57), 3) := by decide +kernel
theorem dX12_look_104 : decode cX12_look 104 = .ok (.iinc 5 1, 3) := by decide +kernel
theorem dX12_look_107 : decode cX12_look 107 = .ok (.goto (-77), 3) := by decide +kernel
theorem dX12_look_110 : decode cX12_look 110 = .ok (.iload_n 3, 1) := by decide +kernel
theorem dX12_look_111 : decode cX12_look 111 = .ok (.ireturn, 1) := by decide +kernel
set_option maxRecDepth 100000 in
set_option maxHeartbeats 4000000 in
theorem c_X12_look {g : Gv} {l : Launch} (p0 : Nat) (p1 : Int32) (w0 : Wd) (rz : Int32) (wz : Wd) (hf : f_X12_look p0 p1 w0 = some (rz, wz)) : MI g l yX12_look cX12_look 8 .int 3 73 [rV g p0, .int p1] w0 rz wz := by
  refine mi_of RX12 (by decide) rfl (Nat.le_of_ble_eq_true rfl) ?_
  intro X hg hll C hr h0
  subst hg; subst hll
  have t_110 : ∀ (v3 : Int32) (w : Wd), f_X12_look_110 v3 w = some (rz, wz) → Wk X 0 0 (QI X w0 rz wz) w [(3, .int v3)] 110 [] := by
    intro v3 w hf
    unfold f_X12_look_110 at hf
    refine k_iload_n C dX12_look_110 0 rfl 111 rfl ?_
    exact k_iret C hr h0 dX12_look_111 hf
  have t_30 : ∀ (n : Nat) (v0 : Nat) (v1 : Int32) (v2 : Int32) (v3 : Int32) (v4 : Int32) (v5 : Int32) (w : Wd), f_X12_look_30 n v0 v1 v2 v3 v4 v5 w = some (rz, wz) → Wk X 0 0 (QI X w0 rz wz) w [(0, rV (xg X) v0), (1, .int v1), (2, .int v2), (3, .int v3), (4, .int v4), (5, .int v5)] 30 [] := by
    intro n
    induction n with
    | zero => intro v0 v1 v2 v3 v4 v5 w hf; rw [f_X12_look_30] at hf; cases hf
    | succ n30 ih30 =>
      have t_44 : ∀ (n : Nat) (v0 : Nat) (v1 : Int32) (v2 : Int32) (v3 : Int32) (v4 : Int32) (v5 : Int32) (v6 : Int32) (w : Wd), f_X12_look_44 (f_X12_look_30 n30) n v0 v1 v2 v3 v4 v5 v6 w = some (rz, wz) → Wk X 0 0 (QI X w0 rz wz) w [(0, rV (xg X) v0), (1, .int v1), (2, .int v2), (3, .int v3), (4, .int v4), (5, .int v5), (6, .int v6)] 44 [] := by
        intro n
        induction n with
        | zero => intro v0 v1 v2 v3 v4 v5 v6 w hf; rw [f_X12_look_44] at hf; cases hf
        | succ n44 ih44 =>
          have t_96 : ∀ (v0 : Nat) (v1 : Int32) (v2 : Int32) (v3 : Int32) (v5 : Int32) (v6 : Int32) (s0 : Int32) (w : Wd), f_X12_look_96 (f_X12_look_30 n30) (f_X12_look_44 (f_X12_look_30 n30) n44) v0 v1 v2 v3 v5 v6 s0 w = some (rz, wz) → Wk X 0 0 (QI X w0 rz wz) w [(0, rV (xg X) v0), (1, .int v1), (2, .int v2), (3, .int v3), (5, .int v5), (6, .int v6)] 96 [.int s0] := by
            intro v0 v1 v2 v3 v5 v6 s0 w hf
            unfold f_X12_look_96 at hf
            refine k_istore C dX12_look_96 (by decide) [(4, .int s0), (0, rV (xg X) v0), (1, .int v1), (2, .int v2), (3, .int v3), (5, .int v5), (6, .int v6)] rfl 98 rfl ?_
            refine k_iinc C dX12_look_98 6 rfl (by decide) (by decide) [(6, .int (v6 + (1 : Int32))), (4, .int s0), (0, rV (xg X) v0), (1, .int v1), (2, .int v2), (3, .int v3), (5, .int v5)] rfl 101 rfl ?_
            refine k_goto C dX12_look_101 44 rfl ?_
            refine k_sub [2, 3, 4, 5, 1, 6, 0] rfl ?_
            exact ih44 _ _ _ _ _ _ _ w hf
          have t_81 : ∀ (v0 : Nat) (v1 : Int32) (v2 : Int32) (v4 : Int32) (v5 : Int32) (v6 : Int32) (v7 : Int32) (s0 : Int32) (w : Wd), f_X12_look_81 (f_X12_look_30 n30) (f_X12_look_44 (f_X12_look_30 n30) n44) v0 v1 v2 v4 v5 v6 v7 s0 w = some (rz, wz) → Wk X 0 0 (QI X w0 rz wz) w [(0, rV (xg X) v0), (1, .int v1), (2, .int v2), (4, .int v4), (5, .int v5), (6, .int v6), (7, .int v7)] 81 [.int s0] := by
            intro v0 v1 v2 v4 v5 v6 v7 s0 w hf
            unfold f_X12_look_81 at hf
            refine k_istore_n C dX12_look_81 rfl (by decide) [(3, .int s0), (0, rV (xg X) v0), (1, .int v1), (2, .int v2), (4, .int v4), (5, .int v5), (6, .int v6), (7, .int v7)] rfl 82 rfl ?_
            refine k_iload C dX12_look_82 7 rfl 84 rfl ?_
            refine k_iload C dX12_look_84 4 rfl 86 rfl ?_
            refine k_icmp_ge C dX12_look_86 hf 94 rfl 89 rfl (fun hf => ?_) (fun hf => ?_)
            · refine k_iload C dX12_look_94 4 rfl 96 rfl ?_
              refine k_sub [1, 2, 3, 0, 5, 6] rfl ?_
              exact t_96 _ _ _ _ _ _ _ w hf
            · refine k_iload C dX12_look_89 7 rfl 91 rfl ?_
              refine k_goto C dX12_look_91 96 rfl ?_
              refine k_sub [1, 2, 3, 0, 5, 6] rfl ?_
              exact t_96 _ _ _ _ _ _ _ w hf
          intro v0 v1 v2 v3 v4 v5 v6 w hf
          rw [f_X12_look_44] at hf
          refine k_iload C dX12_look_44 6 rfl 46 rfl ?_
          refine k_iconst C dX12_look_46 (4) (by decide) 47 rfl ?_
          refine k_icmp_ge C dX12_look_47 hf 104 rfl 50 rfl (fun hf => ?_) (fun hf => ?_)
          · refine k_iinc C dX12_look_104 5 rfl (by decide) (by decide) [(5, .int (v5 + (1 : Int32))), (0, rV (xg X) v0), (1, .int v1), (2, .int v2), (3, .int v3), (4, .int v4), (6, .int v6)] rfl 107 rfl ?_
            refine k_goto C dX12_look_107 30 rfl ?_
            refine k_sub [1, 2, 3, 4, 5, 0] rfl ?_
            exact ih30 _ _ _ _ _ _ w hf
          · refine k_aload_n C dX12_look_50 0 rfl rfl 51 rfl ?_
            refine k_iload_n C dX12_look_51 1 rfl 52 rfl ?_
            refine k_iload_n C dX12_look_52 2 rfl 53 rfl ?_
            refine k_iload C dX12_look_53 6 rfl 55 rfl ?_
            refine k_iload C dX12_look_55 5 rfl 57 rfl ?_
            refine k_callV_i C ye_X12_mostKinds ve_X12_183 ⟨rfl, rfl⟩ ⟨rfl, rfl⟩ dX12_look_57 [.int v1, .int v2, .int v6, .int v5] rfl rfl (Nat.le_of_ble_eq_true rfl) (c_X12_mostKinds _ _ _ _ _ _) hf 60 rfl (fun x10 w9 hf => ?_)
            refine k_istore C dX12_look_60 (by decide) [(7, .int x10), (0, rV (xg X) v0), (1, .int v1), (2, .int v2), (3, .int v3), (4, .int v4), (5, .int v5), (6, .int v6)] rfl 62 rfl ?_
            refine k_iload C dX12_look_62 0 rfl 64 rfl ?_
            refine k_iload C dX12_look_64 5 rfl 66 rfl ?_
            refine k_icmp_ge C dX12_look_66 hf 80 rfl 69 rfl (fun hf => ?_) (fun hf => ?_)
            · refine k_iload_n C dX12_look_80 4 rfl 81 rfl ?_
              refine k_sub [1, 2, 3, 5, 6, 7, 0] rfl ?_
              exact t_81 _ _ _ _ _ _ _ _ w9 hf
            · refine k_bipush C dX12_look_69 (10) (by decide) 71 rfl ?_
              refine k_iload C dX12_look_71 6 rfl 73 rfl ?_
              refine k_imul C dX12_look_73 74 rfl ?_
              refine k_iload C dX12_look_74 7 rfl 76 rfl ?_
              refine k_iadd C dX12_look_76 77 rfl ?_
              refine k_goto C dX12_look_77 81 rfl ?_
              refine k_sub [1, 2, 3, 5, 6, 7, 0] rfl ?_
              exact t_81 _ _ _ _ _ _ _ _ w9 hf
      intro v0 v1 v2 v3 v4 v5 w hf
      rw [f_X12_look_30] at hf
      refine k_iload C dX12_look_30 5 rfl 32 rfl ?_
      refine k_bipush C dX12_look_32 (10) (by decide) 34 rfl ?_
      refine k_icmp_ge C dX12_look_34 hf 110 rfl 37 rfl (fun hf => ?_) (fun hf => ?_)
      · refine k_sub [3] rfl ?_
        exact t_110 _ w hf
      · refine k_iload_n C dX12_look_37 2 rfl 38 rfl ?_
        refine k_if_eq C dX12_look_38 hf 110 rfl 41 rfl (fun hf => ?_) (fun hf => ?_)
        · refine k_sub [3] rfl ?_
          exact t_110 _ w hf
        · refine k_iconst C dX12_look_41 (0) (by decide) 42 rfl ?_
          refine k_istore C dX12_look_42 (by decide) [(6, .int (0 : Int32)), (0, rV (xg X) v0), (1, .int v1), (2, .int v2), (3, .int v3), (4, .int v4), (5, .int v5)] rfl 44 rfl ?_
          refine k_sub [1, 2, 3, 4, 5, 6, 0] rfl ?_
          exact t_44 4096 _ _ _ _ _ _ _ w hf
  unfold f_X12_look at hf
  refine k_sub (lv2 := [(0, rV (xg X) p0), (1, .int p1)]) [0, 1] rfl ?_
  refine k_aload_n C dX12_look_0 0 rfl rfl 1 rfl ?_
  refine k_iload_n C dX12_look_1 1 rfl 2 rfl ?_
  refine k_callV_i C ye_X12_isGoods ve_X12_131 ⟨rfl, rfl⟩ ⟨rfl, rfl⟩ dX12_look_2 [.int p1] rfl rfl (Nat.le_of_ble_eq_true rfl) (c_X12_isGoods _ _ _) hf 5 rfl (fun x12 w11 hf => ?_)
  refine k_if_ne C dX12_look_5 hf 15 rfl 8 rfl (fun hf => ?_) (fun hf => ?_)
  · refine k_aload_n C dX12_look_15 0 rfl rfl 16 rfl ?_
    refine k_iload_n C dX12_look_16 1 rfl 17 rfl ?_
    refine k_callV_i C ye_X12_kindsOf ve_X12_180 ⟨rfl, rfl⟩ ⟨rfl, rfl⟩ dX12_look_17 [.int p1] rfl rfl (Nat.le_of_ble_eq_true rfl) (c_X12_kindsOf _ _ _) hf 20 rfl (fun x14 w13 hf => ?_)
    refine k_istore_n C dX12_look_20 rfl (by decide) [(2, .int x14), (0, rV (xg X) p0), (1, .int p1)] rfl 21 rfl ?_
    refine k_iconst C dX12_look_21 (-1) (by decide) 22 rfl ?_
    refine k_istore_n C dX12_look_22 rfl (by decide) [(3, .int (-1 : Int32)), (2, .int x14), (0, rV (xg X) p0), (1, .int p1)] rfl 23 rfl ?_
    refine k_bipush C dX12_look_23 (99) (by decide) 25 rfl ?_
    refine k_istore C dX12_look_25 (by decide) [(4, .int (99 : Int32)), (3, .int (-1 : Int32)), (2, .int x14), (0, rV (xg X) p0), (1, .int p1)] rfl 27 rfl ?_
    refine k_iconst C dX12_look_27 (0) (by decide) 28 rfl ?_
    refine k_istore C dX12_look_28 (by decide) [(5, .int (0 : Int32)), (4, .int (99 : Int32)), (3, .int (-1 : Int32)), (2, .int x14), (0, rV (xg X) p0), (1, .int p1)] rfl 30 rfl ?_
    refine k_sub [4, 5, 3, 2, 1, 0] rfl ?_
    exact t_30 4096 _ _ _ _ _ _ w13 hf
  · refine k_aload_n C dX12_look_8 0 rfl rfl 9 rfl ?_
    refine k_bipush C dX12_look_9 (-2) (by decide) 11 rfl ?_
    refine k_callV_i C ye_X12_refuse ve_X12_56 ⟨rfl, rfl⟩ ⟨rfl, rfl⟩ dX12_look_11 [.int (-2 : Int32)] rfl rfl (Nat.le_of_ble_eq_true rfl) (c_X12_refuse _ _ _) hf 14 rfl (fun x16 w15 hf => ?_)
    exact k_iret C hr h0 dX12_look_14 hf
theorem dX12_mayBe_0 : decode cX12_mayBe 0 = .ok (.iconst 1, 1) := by decide +kernel
theorem dX12_mayBe_1 : decode cX12_mayBe 1 = .ok (.istore_n 2, 1) := by decide +kernel
theorem dX12_mayBe_2 : decode cX12_mayBe 2 = .ok (.iconst 0, 1) := by decide +kernel
theorem dX12_mayBe_3 : decode cX12_mayBe 3 = .ok (.istore_n 3, 1) := by decide +kernel
theorem dX12_mayBe_4 : decode cX12_mayBe 4 = .ok (.iload_n 3, 1) := by decide +kernel
theorem dX12_mayBe_5 : decode cX12_mayBe 5 = .ok (.aload_n 0, 1) := by decide +kernel
theorem dX12_mayBe_6 : decode cX12_mayBe 6 = .ok (.getfield 7, 3) := by decide +kernel
theorem dX12_mayBe_9 : decode cX12_mayBe 9 = .ok (.bipush 38, 2) := by decide +kernel
theorem dX12_mayBe_11 : decode cX12_mayBe 11 = .ok (.iaload, 1) := by decide +kernel
theorem dX12_mayBe_12 : decode cX12_mayBe 12 = .ok (.if_icmp .ge 50, 3) := by decide +kernel
theorem dX12_mayBe_15 : decode cX12_mayBe 15 = .ok (.iload_n 2, 1) := by decide +kernel
theorem dX12_mayBe_16 : decode cX12_mayBe 16 = .ok (.ifCond .eq 38, 3) := by decide +kernel
theorem dX12_mayBe_19 : decode cX12_mayBe 19 = .ok (.iload_n 1, 1) := by decide +kernel
theorem dX12_mayBe_20 : decode cX12_mayBe 20 = .ok (.aload_n 0, 1) := by decide +kernel
theorem dX12_mayBe_21 : decode cX12_mayBe 21 = .ok (.getfield 7, 3) := by decide +kernel
theorem dX12_mayBe_24 : decode cX12_mayBe 24 = .ok (.bipush 39, 2) := by decide +kernel
theorem dX12_mayBe_26 : decode cX12_mayBe 26 = .ok (.iconst 2, 1) := by decide +kernel
theorem dX12_mayBe_27 : decode cX12_mayBe 27 = .ok (.iload_n 3, 1) := by decide +kernel
theorem dX12_mayBe_28 : decode cX12_mayBe 28 = .ok (.imul, 1) := by decide +kernel
theorem dX12_mayBe_29 : decode cX12_mayBe 29 = .ok (.iadd, 1) := by decide +kernel
theorem dX12_mayBe_30 : decode cX12_mayBe 30 = .ok (.iaload, 1) := by decide +kernel
theorem dX12_mayBe_31 : decode cX12_mayBe 31 = .ok (.invokestatic 147, 3) := by decide +kernel
theorem dX12_mayBe_34 : decode cX12_mayBe 34 = .ok (.aload_n 0, 1) := by decide +kernel
theorem dX12_mayBe_35 : decode cX12_mayBe 35 = .ok (.getfield 7, 3) := by decide +kernel
theorem dX12_mayBe_38 : decode cX12_mayBe 38 = .ok (.bipush 39, 2) := by decide +kernel
theorem dX12_mayBe_40 : decode cX12_mayBe 40 = .ok (.iconst 2, 1) := by decide +kernel
theorem dX12_mayBe_41 : decode cX12_mayBe 41 = .ok (.iload_n 3, 1) := by decide +kernel
theorem dX12_mayBe_42 : decode cX12_mayBe 42 = .ok (.imul, 1) := by decide +kernel
theorem dX12_mayBe_43 : decode cX12_mayBe 43 = .ok (.iadd, 1) := by decide +kernel
theorem dX12_mayBe_44 : decode cX12_mayBe 44 = .ok (.iconst 1, 1) := by decide +kernel
theorem dX12_mayBe_45 : decode cX12_mayBe 45 = .ok (.iadd, 1) := by decide +kernel
theorem dX12_mayBe_46 : decode cX12_mayBe 46 = .ok (.iaload, 1) := by decide +kernel
theorem dX12_mayBe_47 : decode cX12_mayBe 47 = .ok (.if_icmp .ne 7, 3) := by decide +kernel
theorem dX12_mayBe_50 : decode cX12_mayBe 50 = .ok (.iconst 1, 1) := by decide +kernel
theorem dX12_mayBe_51 : decode cX12_mayBe 51 = .ok (.goto 4, 3) := by decide +kernel
theorem dX12_mayBe_54 : decode cX12_mayBe 54 = .ok (.iconst 0, 1) := by decide +kernel
theorem dX12_mayBe_55 : decode cX12_mayBe 55 = .ok (.istore_n 2, 1) := by decide +kernel
theorem dX12_mayBe_56 : decode cX12_mayBe 56 = .ok (.iinc 3 1, 3) := by decide +kernel
theorem dX12_mayBe_59 : decode cX12_mayBe 59 = .ok (.goto (-55), 3) := by decide +kernel
theorem dX12_mayBe_62 : decode cX12_mayBe 62 = .ok (.iload_n 2, 1) := by decide +kernel
theorem dX12_mayBe_63 : decode cX12_mayBe 63 = .ok (.ireturn, 1) := by decide +kernel
set_option maxRecDepth 100000 in
set_option maxHeartbeats 4000000 in
theorem c_X12_mayBe {g : Gv} {l : Launch} (p0 : Nat) (p1 : Int32) (w0 : Wd) (rz : Int32) (wz : Wd) (hf : f_X12_mayBe p0 p1 w0 = some (rz, wz)) : MI g l yX12_mayBe cX12_mayBe 4 .boolean 2 44 [rV g p0, .int p1] w0 rz wz := by
  refine mi_of RX12 (by decide) rfl (Nat.le_of_ble_eq_true rfl) ?_
  intro X hg hll C hr h0
  subst hg; subst hll
  have t_4 : ∀ (n : Nat) (v0 : Nat) (v1 : Int32) (v2 : Int32) (v3 : Int32) (w : Wd), f_X12_mayBe_4 n v0 v1 v2 v3 w = some (rz, wz) → Wk X 0 0 (QI X w0 rz wz) w [(0, rV (xg X) v0), (1, .int v1), (2, .int v2), (3, .int v3)] 4 [] := by
    intro n
    induction n with
    | zero => intro v0 v1 v2 v3 w hf; rw [f_X12_mayBe_4] at hf; cases hf
    | succ n4 ih4 =>
      have t_55 : ∀ (v0 : Nat) (v1 : Int32) (v3 : Int32) (s0 : Int32) (w : Wd), f_X12_mayBe_55 (f_X12_mayBe_4 n4) v0 v1 v3 s0 w = some (rz, wz) → Wk X 0 0 (QI X w0 rz wz) w [(0, rV (xg X) v0), (1, .int v1), (3, .int v3)] 55 [.int s0] := by
        intro v0 v1 v3 s0 w hf
        unfold f_X12_mayBe_55 at hf
        refine k_istore_n C dX12_mayBe_55 rfl (by decide) [(2, .int s0), (0, rV (xg X) v0), (1, .int v1), (3, .int v3)] rfl 56 rfl ?_
        refine k_iinc C dX12_mayBe_56 3 rfl (by decide) (by decide) [(3, .int (v3 + (1 : Int32))), (2, .int s0), (0, rV (xg X) v0), (1, .int v1)] rfl 59 rfl ?_
        refine k_goto C dX12_mayBe_59 4 rfl ?_
        refine k_sub [2, 3, 1, 0] rfl ?_
        exact ih4 _ _ _ _ w hf
      have t_54 : ∀ (v0 : Nat) (v1 : Int32) (v3 : Int32) (w : Wd), f_X12_mayBe_54 (f_X12_mayBe_4 n4) v0 v1 v3 w = some (rz, wz) → Wk X 0 0 (QI X w0 rz wz) w [(0, rV (xg X) v0), (1, .int v1), (3, .int v3)] 54 [] := by
        intro v0 v1 v3 w hf
        unfold f_X12_mayBe_54 at hf
        refine k_iconst C dX12_mayBe_54 (0) (by decide) 55 rfl ?_
        refine k_sub [0, 1, 2] rfl ?_
        exact t_55 _ _ _ _ w hf
      intro v0 v1 v2 v3 w hf
      rw [f_X12_mayBe_4] at hf
      refine k_iload_n C dX12_mayBe_4 3 rfl 5 rfl ?_
      refine k_aload_n C dX12_mayBe_5 0 rfl rfl 6 rfl ?_
      refine k_getR C fe_X12_7 rfl dX12_mayBe_6 hf 9 rfl (fun r9 hf => ?_)
      refine k_bipush C dX12_mayBe_9 (38) (by decide) 11 rfl ?_
      refine k_iald C dX12_mayBe_11 hf 12 rfl (fun x10 hf => ?_)
      refine k_icmp_ge C dX12_mayBe_12 hf 62 rfl 15 rfl (fun hf => ?_) (fun hf => ?_)
      · refine k_iload_n C dX12_mayBe_62 2 rfl 63 rfl ?_
        exact k_zret C hr h0 dX12_mayBe_63 hf
      · refine k_iload_n C dX12_mayBe_15 2 rfl 16 rfl ?_
        refine k_if_eq C dX12_mayBe_16 hf 54 rfl 19 rfl (fun hf => ?_) (fun hf => ?_)
        · refine k_sub [0, 1, 3] rfl ?_
          exact t_54 _ _ _ w hf
        · refine k_iload_n C dX12_mayBe_19 1 rfl 20 rfl ?_
          refine k_aload_n C dX12_mayBe_20 0 rfl rfl 21 rfl ?_
          refine k_getR C fe_X12_7 rfl dX12_mayBe_21 hf 24 rfl (fun r11 hf => ?_)
          refine k_bipush C dX12_mayBe_24 (39) (by decide) 26 rfl ?_
          refine k_iconst C dX12_mayBe_26 (2) (by decide) 27 rfl ?_
          refine k_iload_n C dX12_mayBe_27 3 rfl 28 rfl ?_
          refine k_imul C dX12_mayBe_28 29 rfl ?_
          refine k_iadd C dX12_mayBe_29 30 rfl ?_
          refine k_iald C dX12_mayBe_30 hf 31 rfl (fun x12 hf => ?_)
          refine k_callS_i C ye_X12_alike se_X12_147 ⟨rfl, rfl⟩ ⟨rfl, rfl⟩ dX12_mayBe_31 [.int v1, .int x12] rfl rfl (Nat.le_of_ble_eq_true rfl) (c_X12_alike _ _ _) hf 34 rfl (fun x14 w13 hf => ?_)
          refine k_aload_n C dX12_mayBe_34 0 rfl rfl 35 rfl ?_
          refine k_getR C fe_X12_7 rfl dX12_mayBe_35 hf 38 rfl (fun r15 hf => ?_)
          refine k_bipush C dX12_mayBe_38 (39) (by decide) 40 rfl ?_
          refine k_iconst C dX12_mayBe_40 (2) (by decide) 41 rfl ?_
          refine k_iload_n C dX12_mayBe_41 3 rfl 42 rfl ?_
          refine k_imul C dX12_mayBe_42 43 rfl ?_
          refine k_iadd C dX12_mayBe_43 44 rfl ?_
          refine k_iconst C dX12_mayBe_44 (1) (by decide) 45 rfl ?_
          refine k_iadd C dX12_mayBe_45 46 rfl ?_
          refine k_iald C dX12_mayBe_46 hf 47 rfl (fun x16 hf => ?_)
          refine k_icmp_ne C dX12_mayBe_47 hf 54 rfl 50 rfl (fun hf => ?_) (fun hf => ?_)
          · refine k_sub [0, 1, 3] rfl ?_
            exact t_54 _ _ _ w13 hf
          · refine k_iconst C dX12_mayBe_50 (1) (by decide) 51 rfl ?_
            refine k_goto C dX12_mayBe_51 55 rfl ?_
            refine k_sub [0, 1, 3] rfl ?_
            exact t_55 _ _ _ _ w13 hf
  unfold f_X12_mayBe at hf
  refine k_sub (lv2 := [(0, rV (xg X) p0), (1, .int p1)]) [0, 1] rfl ?_
  refine k_iconst C dX12_mayBe_0 (1) (by decide) 1 rfl ?_
  refine k_istore_n C dX12_mayBe_1 rfl (by decide) [(2, .int (1 : Int32)), (0, rV (xg X) p0), (1, .int p1)] rfl 2 rfl ?_
  refine k_iconst C dX12_mayBe_2 (0) (by decide) 3 rfl ?_
  refine k_istore_n C dX12_mayBe_3 rfl (by decide) [(3, .int (0 : Int32)), (2, .int (1 : Int32)), (0, rV (xg X) p0), (1, .int p1)] rfl 4 rfl ?_
  refine k_sub [2, 3, 1, 0] rfl ?_
  exact t_4 4096 _ _ _ _ w0 hf
theorem dX12_mill_0 : decode cX12_mill 0 = .ok (.iload_n 1, 1) := by decide +kernel
theorem dX12_mill_1 : decode cX12_mill 1 = .ok (.iconst 0, 1) := by decide +kernel
theorem dX12_mill_2 : decode cX12_mill 2 = .ok (.sipush 200, 3) := by decide +kernel
theorem dX12_mill_5 : decode cX12_mill 5 = .ok (.invokestatic 52, 3) := by decide +kernel
theorem dX12_mill_8 : decode cX12_mill 8 = .ok (.ifCond .ne 10, 3) := by decide +kernel
theorem dX12_mill_11 : decode cX12_mill 11 = .ok (.aload_n 0, 1) := by decide +kernel
theorem dX12_mill_12 : decode cX12_mill 12 = .ok (.bipush (-2), 2) := by decide +kernel
theorem dX12_mill_14 : decode cX12_mill 14 = .ok (.invokevirtual 56, 3) := by decide +kernel
theorem dX12_mill_17 : decode cX12_mill 17 = .ok (.ireturn, 1) := by decide +kernel
theorem dX12_mill_18 : decode cX12_mill 18 = .ok (.aload_n 0, 1) := by decide +kernel
theorem dX12_mill_19 : decode cX12_mill 19 = .ok (.getfield 7, 3) := by decide +kernel
theorem dX12_mill_22 : decode cX12_mill 22 = .ok (.bipush 19, 2) := by decide +kernel
theorem dX12_mill_24 : decode cX12_mill 24 = .ok (.iaload, 1) := by decide +kernel
theorem dX12_mill_25 : decode cX12_mill 25 = .ok (.istore_n 2, 1) := by decide +kernel
theorem dX12_mill_26 : decode cX12_mill 26 = .ok (.aload_n 0, 1) := by decide +kernel
theorem dX12_mill_27 : decode cX12_mill 27 = .ok (.iload_n 1, 1) := by decide +kernel
theorem dX12_mill_28 : decode cX12_mill 28 = .ok (.invokevirtual 48, 3) := by decide +kernel
theorem dX12_mill_31 : decode cX12_mill 31 = .ok (.iload_n 2, 1) := by decide +kernel
theorem dX12_mill_32 : decode cX12_mill 32 = .ok (.ireturn, 1) := by decide +kernel
set_option maxRecDepth 100000 in
set_option maxHeartbeats 4000000 in
theorem c_X12_mill {g : Gv} {l : Launch} (p0 : Nat) (p1 : Int32) (w0 : Wd) (rz : Int32) (wz : Wd) (hf : f_X12_mill p0 p1 w0 = some (rz, wz)) : MI g l yX12_mill cX12_mill 3 .int 1 22 [rV g p0, .int p1] w0 rz wz := by
  refine mi_of RX12 (by decide) rfl (Nat.le_of_ble_eq_true rfl) ?_
  intro X hg hll C hr h0
  subst hg; subst hll
  unfold f_X12_mill at hf
  refine k_sub (lv2 := [(0, rV (xg X) p0), (1, .int p1)]) [0, 1] rfl ?_
  refine k_iload_n C dX12_mill_0 1 rfl 1 rfl ?_
  refine k_iconst C dX12_mill_1 (0) (by decide) 2 rfl ?_
  refine k_sipush C dX12_mill_2 (200) (by decide) 5 rfl ?_
  refine k_callS_i C ye_X12_in se_X12_52 ⟨rfl, rfl⟩ ⟨rfl, rfl⟩ dX12_mill_5 [.int p1, .int (0 : Int32), .int (200 : Int32)] rfl rfl (Nat.le_of_ble_eq_true rfl) (c_X12_in _ _ _ _) hf 8 rfl (fun x10 w9 hf => ?_)
  refine k_if_ne C dX12_mill_8 hf 18 rfl 11 rfl (fun hf => ?_) (fun hf => ?_)
  · refine k_aload_n C dX12_mill_18 0 rfl rfl 19 rfl ?_
    refine k_getR C fe_X12_7 rfl dX12_mill_19 hf 22 rfl (fun r11 hf => ?_)
    refine k_bipush C dX12_mill_22 (19) (by decide) 24 rfl ?_
    refine k_iald C dX12_mill_24 hf 25 rfl (fun x12 hf => ?_)
    refine k_istore_n C dX12_mill_25 rfl (by decide) [(2, .int x12), (0, rV (xg X) p0), (1, .int p1)] rfl 26 rfl ?_
    refine k_aload_n C dX12_mill_26 1 rfl rfl 27 rfl ?_
    refine k_iload_n C dX12_mill_27 2 rfl 28 rfl ?_
    refine k_callV_v C ye_X12_layMill ve_X12_48 ⟨rfl, rfl⟩ ⟨rfl, rfl⟩ dX12_mill_28 [.int p1] rfl rfl (Nat.le_of_ble_eq_true rfl) (c_X12_layMill _ _ _) hf 31 rfl (fun w13 hf => ?_)
    refine k_iload_n C dX12_mill_31 0 rfl 32 rfl ?_
    exact k_iret C hr h0 dX12_mill_32 hf
  · refine k_aload_n C dX12_mill_11 0 rfl rfl 12 rfl ?_
    refine k_bipush C dX12_mill_12 (-2) (by decide) 14 rfl ?_
    refine k_callV_i C ye_X12_refuse ve_X12_56 ⟨rfl, rfl⟩ ⟨rfl, rfl⟩ dX12_mill_14 [.int (-2 : Int32)] rfl rfl (Nat.le_of_ble_eq_true rfl) (c_X12_refuse _ _ _) hf 17 rfl (fun x16 w15 hf => ?_)
    exact k_iret C hr h0 dX12_mill_17 hf
theorem dX12_mills_0 : decode cX12_mills 0 = .ok (.iload_n 1, 1) := by decide +kernel
theorem dX12_mills_1 : decode cX12_mills 1 = .ok (.iconst 0, 1) := by decide +kernel
theorem dX12_mills_2 : decode cX12_mills 2 = .ok (.ldc 195, 2) := by decide +kernel
theorem dX12_mills_4 : decode cX12_mills 4 = .ok (.invokestatic 52, 3) := by decide +kernel
theorem dX12_mills_7 : decode cX12_mills 7 = .ok (.ifCond .eq 13, 3) := by decide +kernel
theorem dX12_mills_10 : decode cX12_mills 10 = .ok (.iload_n 2, 1) := by decide +kernel
theorem dX12_mills_11 : decode cX12_mills 11 = .ok (.iconst 0, 1) := by decide +kernel
theorem dX12_mills_12 : decode cX12_mills 12 = .ok (.bipush 60, 2) := by decide +kernel
theorem dX12_mills_14 : decode cX12_mills 14 = .ok (.invokestatic 52, 3) := by decide +kernel
theorem dX12_mills_17 : decode cX12_mills 17 = .ok (.ifCond .ne 10, 3) := by decide +kernel
theorem dX12_mills_20 : decode cX12_mills 20 = .ok (.aload_n 0, 1) := by decide +kernel
theorem dX12_mills_21 : decode cX12_mills 21 = .ok (.bipush (-2), 2) := by decide +kernel
theorem dX12_mills_23 : decode cX12_mills 23 = .ok (.invokevirtual 56, 3) := by decide +kernel
theorem dX12_mills_26 : decode cX12_mills 26 = .ok (.ireturn, 1) := by decide +kernel
theorem dX12_mills_27 : decode cX12_mills 27 = .ok (.aload_n 0, 1) := by decide +kernel
theorem dX12_mills_28 : decode cX12_mills 28 = .ok (.invokevirtual 153, 3) := by decide +kernel
theorem dX12_mills_31 : decode cX12_mills 31 = .ok (.iload_n 1, 1) := by decide +kernel
theorem dX12_mills_32 : decode cX12_mills 32 = .ok (.i2l, 1) := by decide +kernel
theorem dX12_mills_33 : decode cX12_mills 33 = .ok (.lstore_n 3, 1) := by decide +kernel
theorem dX12_mills_34 : decode cX12_mills 34 = .ok (.iconst 0, 1) := by decide +kernel
theorem dX12_mills_35 : decode cX12_mills 35 = .ok (.istore 5, 2) := by decide +kernel
theorem dX12_mills_37 : decode cX12_mills 37 = .ok (.iload 5, 2) := by decide +kernel
theorem dX12_mills_39 : decode cX12_mills 39 = .ok (.iload_n 2, 1) := by decide +kernel
theorem dX12_mills_40 : decode cX12_mills 40 = .ok (.if_icmp .ge 58, 3) := by decide +kernel
theorem dX12_mills_43 : decode cX12_mills 43 = .ok (.lload_n 3, 1) := by decide +kernel
theorem dX12_mills_44 : decode cX12_mills 44 = .ok (.ldc2_w 196, 3) := by decide +kernel
theorem dX12_mills_47 : decode cX12_mills 47 = .ok (.lmul, 1) := by decide +kernel
theorem dX12_mills_48 : decode cX12_mills 48 = .ok (.ldc2_w 198, 3) := by decide +kernel
theorem dX12_mills_51 : decode cX12_mills 51 = .ok (.ladd, 1) := by decide +kernel
theorem dX12_mills_52 : decode cX12_mills 52 = .ok (.ldc2_w 200, 3) := by decide +kernel
theorem dX12_mills_55 : decode cX12_mills 55 = .ok (.lrem, 1) := by decide +kernel
theorem dX12_mills_56 : decode cX12_mills 56 = .ok (.lstore_n 3, 1) := by decide +kernel
theorem dX12_mills_57 : decode cX12_mills 57 = .ok (.lload_n 3, 1) := by decide +kernel
theorem dX12_mills_58 : decode cX12_mills 58 = .ok (.ldc2_w 202, 3) := by decide +kernel
theorem dX12_mills_61 : decode cX12_mills 61 = .ok (.ldiv, 1) := by decide +kernel
theorem dX12_mills_62 : decode cX12_mills 62 = .ok (.ldc2_w 204, 3) := by decide +kernel
theorem dX12_mills_65 : decode cX12_mills 65 = .ok (.lrem, 1) := by decide +kernel
theorem dX12_mills_66 : decode cX12_mills 66 = .ok (.l2i, 1) := by decide +kernel
theorem dX12_mills_67 : decode cX12_mills 67 = .ok (.istore 6, 2) := by decide +kernel
theorem dX12_mills_69 : decode cX12_mills 69 = .ok (.aload_n 0, 1) := by decide +kernel
theorem dX12_mills_70 : decode cX12_mills 70 = .ok (.sipush 639, 3) := by decide +kernel
theorem dX12_mills_73 : decode cX12_mills 73 = .ok (.aload_n 0, 1) := by decide +kernel
theorem dX12_mills_74 : decode cX12_mills 74 = .ok (.iload 6, 2) := by decide +kernel
theorem dX12_mills_76 : decode cX12_mills 76 = .ok (.invokevirtual 131, 3) := by decide +kernel
theorem dX12_mills_79 : decode cX12_mills 79 = .ok (.ifCond .eq 8, 3) := by decide +kernel
theorem dX12_mills_82 : decode cX12_mills 82 = .ok (.iload 6, 2) := by decide +kernel
theorem dX12_mills_84 : decode cX12_mills 84 = .ok (.goto 4, 3) := by decide +kernel
theorem dX12_mills_87 : decode cX12_mills 87 = .ok (.iconst (-1), 1) := by decide +kernel
theorem dX12_mills_88 : decode cX12_mills 88 = .ok (.invokevirtual 140, 3) := by decide +kernel
theorem dX12_mills_91 : decode cX12_mills 91 = .ok (.pop, 1) := by decide +kernel
theorem dX12_mills_92 : decode cX12_mills 92 = .ok (.iinc 5 1, 3) := by decide +kernel
theorem dX12_mills_95 : decode cX12_mills 95 = .ok (.goto (-58), 3) := by decide +kernel
theorem dX12_mills_98 : decode cX12_mills 98 = .ok (.aload_n 0, 1) := by decide +kernel
theorem dX12_mills_99 : decode cX12_mills 99 = .ok (.sipush 639, 3) := by decide +kernel
theorem dX12_mills_102 : decode cX12_mills 102 = .ok (.invokevirtual 128, 3) := by decide +kernel
theorem dX12_mills_105 : decode cX12_mills 105 = .ok (.aload_n 0, 1) := by decide +kernel
theorem dX12_mills_106 : decode cX12_mills 106 = .ok (.getfield 7, 3) := by decide +kernel
theorem dX12_mills_109 : decode cX12_mills 109 = .ok (.sipush 651, 3) := by decide +kernel
theorem dX12_mills_112 : decode cX12_mills 112 = .ok (.iaload, 1) := by decide +kernel
theorem dX12_mills_113 : decode cX12_mills 113 = .ok (.iadd, 1) := by decide +kernel
theorem dX12_mills_114 : decode cX12_mills 114 = .ok (.ireturn, 1) := by decide +kernel
set_option maxRecDepth 100000 in
set_option maxHeartbeats 4000000 in
theorem c_X12_mills {g : Gv} {l : Launch} (p0 : Nat) (p1 : Int32) (p2 : Int32) (w0 : Wd) (rz : Int32) (wz : Wd) (hf : f_X12_mills p0 p1 p2 w0 = some (rz, wz)) : MI g l yX12_mills cX12_mills 7 .int 3 72 [rV g p0, .int p1, .int p2] w0 rz wz := by
  refine mi_of RX12 (by decide) rfl (Nat.le_of_ble_eq_true rfl) ?_
  intro X hg hll C hr h0
  subst hg; subst hll
  have t_37 : ∀ (n : Nat) (v0 : Nat) (v2 : Int32) (v3 : Int64) (v5 : Int32) (w : Wd), f_X12_mills_37 n v0 v2 v3 v5 w = some (rz, wz) → Wk X 0 0 (QI X w0 rz wz) w [(0, rV (xg X) v0), (2, .int v2), (3, .long v3), (5, .int v5)] 37 [] := by
    intro n
    induction n with
    | zero => intro v0 v2 v3 v5 w hf; rw [f_X12_mills_37] at hf; cases hf
    | succ n37 ih37 =>
      have t_88 : ∀ (v0 : Nat) (v2 : Int32) (v3 : Int64) (v5 : Int32) (s0 : Int32) (s1 : Int32) (s2 : Nat) (w : Wd), f_X12_mills_88 (f_X12_mills_37 n37) v0 v2 v3 v5 s0 s1 s2 w = some (rz, wz) → Wk X 0 0 (QI X w0 rz wz) w [(0, rV (xg X) v0), (2, .int v2), (3, .long v3), (5, .int v5)] 88 [.int s0, .int s1, rV (xg X) s2] := by
        intro v0 v2 v3 v5 s0 s1 s2 w hf
        unfold f_X12_mills_88 at hf
        refine k_callV_i C ye_X12_pass ve_X12_140 ⟨rfl, rfl⟩ ⟨rfl, rfl⟩ dX12_mills_88 [.int s1, .int s0] rfl rfl (Nat.le_of_ble_eq_true rfl) (c_X12_pass _ _ _ _) hf 91 rfl (fun x21 w20 hf => ?_)
        refine k_pop C dX12_mills_91 rfl 92 rfl ?_
        refine k_iinc C dX12_mills_92 3 rfl (by decide) (by decide) [(5, .int (v5 + (1 : Int32))), (0, rV (xg X) v0), (2, .int v2), (3, .long v3)] rfl 95 rfl ?_
        refine k_goto C dX12_mills_95 37 rfl ?_
        refine k_sub [1, 2, 3, 0] rfl ?_
        exact ih37 _ _ _ _ w20 hf
      intro v0 v2 v3 v5 w hf
      rw [f_X12_mills_37] at hf
      refine k_iload C dX12_mills_37 3 rfl 39 rfl ?_
      refine k_iload_n C dX12_mills_39 1 rfl 40 rfl ?_
      refine k_icmp_ge C dX12_mills_40 hf 98 rfl 43 rfl (fun hf => ?_) (fun hf => ?_)
      · refine k_aload_n C dX12_mills_98 0 rfl rfl 99 rfl ?_
        refine k_sipush C dX12_mills_99 (639) (by decide) 102 rfl ?_
        refine k_callV_i C ye_X12_inHouse ve_X12_128 ⟨rfl, rfl⟩ ⟨rfl, rfl⟩ dX12_mills_102 [.int (639 : Int32)] rfl rfl (Nat.le_of_ble_eq_true rfl) (c_X12_inHouse _ _ _) hf 105 rfl (fun x23 w22 hf => ?_)
        refine k_aload_n C dX12_mills_105 0 rfl rfl 106 rfl ?_
        refine k_getR C fe_X12_7 rfl dX12_mills_106 hf 109 rfl (fun r24 hf => ?_)
        refine k_sipush C dX12_mills_109 (651) (by decide) 112 rfl ?_
        refine k_iald C dX12_mills_112 hf 113 rfl (fun x25 hf => ?_)
        refine k_iadd C dX12_mills_113 114 rfl ?_
        exact k_iret C hr h0 dX12_mills_114 hf
      · refine k_lload_n C dX12_mills_43 2 rfl 44 rfl ?_
        refine k_ldc2 C dX12_mills_44 mcst_X12_196 47 rfl ?_
        refine k_lmul C dX12_mills_47 48 rfl ?_
        refine k_ldc2 C dX12_mills_48 mcst_X12_198 51 rfl ?_
        refine k_ladd C dX12_mills_51 52 rfl ?_
        refine k_ldc2 C dX12_mills_52 mcst_X12_200 55 rfl ?_
        refine k_lrem C dX12_mills_55 (by decide) 56 rfl ?_
        refine k_nml hf (fun x26 hf => ?_)
        refine k_lstore_n C dX12_mills_56 rfl (by decide) [(3, .long x26), (0, rV (xg X) v0), (2, .int v2), (5, .int v5)] rfl 57 rfl ?_
        refine k_lload_n C dX12_mills_57 0 rfl 58 rfl ?_
        refine k_ldc2 C dX12_mills_58 mcst_X12_202 61 rfl ?_
        refine k_ldiv C dX12_mills_61 (by decide) 62 rfl ?_
        refine k_ldc2 C dX12_mills_62 mcst_X12_204 65 rfl ?_
        refine k_lrem C dX12_mills_65 (by decide) 66 rfl ?_
        refine k_l2i C dX12_mills_66 67 rfl ?_
        refine k_nmi hf (fun x27 hf => ?_)
        refine k_istore C dX12_mills_67 (by decide) [(6, .int x27), (3, .long x26), (0, rV (xg X) v0), (2, .int v2), (5, .int v5)] rfl 69 rfl ?_
        refine k_aload_n C dX12_mills_69 2 rfl rfl 70 rfl ?_
        refine k_sipush C dX12_mills_70 (639) (by decide) 73 rfl ?_
        refine k_aload_n C dX12_mills_73 2 rfl rfl 74 rfl ?_
        refine k_iload C dX12_mills_74 0 rfl 76 rfl ?_
        refine k_callV_i C ye_X12_isGoods ve_X12_131 ⟨rfl, rfl⟩ ⟨rfl, rfl⟩ dX12_mills_76 [.int x27] rfl rfl (Nat.le_of_ble_eq_true rfl) (c_X12_isGoods _ _ _) hf 79 rfl (fun x29 w28 hf => ?_)
        refine k_if_eq C dX12_mills_79 hf 87 rfl 82 rfl (fun hf => ?_) (fun hf => ?_)
        · refine k_iconst C dX12_mills_87 (-1) (by decide) 88 rfl ?_
          refine k_sub [2, 3, 1, 4] rfl ?_
          exact t_88 _ _ _ _ _ _ _ w28 hf
        · refine k_iload C dX12_mills_82 0 rfl 84 rfl ?_
          refine k_goto C dX12_mills_84 88 rfl ?_
          refine k_sub [2, 3, 1, 4] rfl ?_
          exact t_88 _ _ _ _ _ _ _ w28 hf
  have t_20 : ∀ (v0 : Nat) (w : Wd), f_X12_mills_20 v0 w = some (rz, wz) → Wk X 0 0 (QI X w0 rz wz) w [(0, rV (xg X) v0)] 20 [] := by
    intro v0 w hf
    unfold f_X12_mills_20 at hf
    refine k_aload_n C dX12_mills_20 0 rfl rfl 21 rfl ?_
    refine k_bipush C dX12_mills_21 (-2) (by decide) 23 rfl ?_
    refine k_callV_i C ye_X12_refuse ve_X12_56 ⟨rfl, rfl⟩ ⟨rfl, rfl⟩ dX12_mills_23 [.int (-2 : Int32)] rfl rfl (Nat.le_of_ble_eq_true rfl) (c_X12_refuse _ _ _) hf 26 rfl (fun x31 w30 hf => ?_)
    exact k_iret C hr h0 dX12_mills_26 hf
  unfold f_X12_mills at hf
  refine k_sub (lv2 := [(0, rV (xg X) p0), (1, .int p1), (2, .int p2)]) [0, 1, 2] rfl ?_
  refine k_iload_n C dX12_mills_0 1 rfl 1 rfl ?_
  refine k_iconst C dX12_mills_1 (0) (by decide) 2 rfl ?_
  refine k_ldc C dX12_mills_2 mcst_X12_195 4 rfl ?_
  refine k_callS_i C ye_X12_in se_X12_52 ⟨rfl, rfl⟩ ⟨rfl, rfl⟩ dX12_mills_4 [.int p1, .int (0 : Int32), .int (999999 : Int32)] rfl rfl (Nat.le_of_ble_eq_true rfl) (c_X12_in _ _ _ _) hf 7 rfl (fun x33 w32 hf => ?_)
  refine k_if_eq C dX12_mills_7 hf 20 rfl 10 rfl (fun hf => ?_) (fun hf => ?_)
  · refine k_sub [0] rfl ?_
    exact t_20 _ w32 hf
  · refine k_iload_n C dX12_mills_10 2 rfl 11 rfl ?_
    refine k_iconst C dX12_mills_11 (0) (by decide) 12 rfl ?_
    refine k_bipush C dX12_mills_12 (60) (by decide) 14 rfl ?_
    refine k_callS_i C ye_X12_in se_X12_52 ⟨rfl, rfl⟩ ⟨rfl, rfl⟩ dX12_mills_14 [.int p2, .int (0 : Int32), .int (60 : Int32)] rfl rfl (Nat.le_of_ble_eq_true rfl) (c_X12_in _ _ _ _) hf 17 rfl (fun x35 w34 hf => ?_)
    refine k_if_ne C dX12_mills_17 hf 27 rfl 20 rfl (fun hf => ?_) (fun hf => ?_)
    · refine k_aload_n C dX12_mills_27 0 rfl rfl 28 rfl ?_
      refine k_callV_v C ye_X12_layTried ve_X12_153 ⟨rfl, rfl⟩ ⟨rfl, rfl⟩ dX12_mills_28 [] rfl rfl (Nat.le_of_ble_eq_true rfl) (c_X12_layTried _ _) hf 31 rfl (fun w36 hf => ?_)
      refine k_iload_n C dX12_mills_31 1 rfl 32 rfl ?_
      refine k_i2l C dX12_mills_32 33 rfl ?_
      refine k_nml hf (fun x38 hf => ?_)
      refine k_lstore_n C dX12_mills_33 rfl (by decide) [(3, .long x38), (0, rV (xg X) p0), (1, .int p1), (2, .int p2)] rfl 34 rfl ?_
      refine k_iconst C dX12_mills_34 (0) (by decide) 35 rfl ?_
      refine k_istore C dX12_mills_35 (by decide) [(5, .int (0 : Int32)), (3, .long x38), (0, rV (xg X) p0), (1, .int p1), (2, .int p2)] rfl 37 rfl ?_
      refine k_sub [2, 4, 1, 0] rfl ?_
      exact t_37 4096 _ _ _ _ w36 hf
    · refine k_sub [0] rfl ?_
      exact t_20 _ w34 hf
theorem dX12_mostAlike_0 : decode cX12_mostAlike 0 = .ok (.iconst 0, 1) := by decide +kernel
theorem dX12_mostAlike_1 : decode cX12_mostAlike 1 = .ok (.istore_n 2, 1) := by decide +kernel
theorem dX12_mostAlike_2 : decode cX12_mostAlike 2 = .ok (.iconst 0, 1) := by decide +kernel
theorem dX12_mostAlike_3 : decode cX12_mostAlike 3 = .ok (.istore_n 3, 1) := by decide +kernel
theorem dX12_mostAlike_4 : decode cX12_mostAlike 4 = .ok (.iload_n 3, 1) := by decide +kernel
theorem dX12_mostAlike_5 : decode cX12_mostAlike 5 = .ok (.bipush 6, 2) := by decide +kernel
theorem dX12_mostAlike_7 : decode cX12_mostAlike 7 = .ok (.if_icmp .ge 16, 3) := by decide +kernel
theorem dX12_mostAlike_10 : decode cX12_mostAlike 10 = .ok (.aload_n 0, 1) := by decide +kernel
theorem dX12_mostAlike_11 : decode cX12_mostAlike 11 = .ok (.getfield 39, 3) := by decide +kernel
theorem dX12_mostAlike_14 : decode cX12_mostAlike 14 = .ok (.iload_n 3, 1) := by decide +kernel
theorem dX12_mostAlike_15 : decode cX12_mostAlike 15 = .ok (.iconst 0, 1) := by decide +kernel
theorem dX12_mostAlike_16 : decode cX12_mostAlike 16 = .ok (.iastore, 1) := by decide +kernel
theorem dX12_mostAlike_17 : decode cX12_mostAlike 17 = .ok (.iinc 3 1, 3) := by decide +kernel
theorem dX12_mostAlike_20 : decode cX12_mostAlike 20 = .ok (.goto (-16), 3) := by decide +kernel
theorem dX12_mostAlike_23 : decode cX12_mostAlike 23 = .ok (.iconst 0, 1) := by decide +kernel
theorem dX12_mostAlike_24 : decode cX12_mostAlike 24 = .ok (.istore_n 3, 1) := by decide +kernel
theorem dX12_mostAlike_25 : decode cX12_mostAlike 25 = .ok (.iload_n 3, 1) := by decide +kernel
theorem dX12_mostAlike_26 : decode cX12_mostAlike 26 = .ok (.bipush 32, 2) := by decide +kernel
theorem dX12_mostAlike_28 : decode cX12_mostAlike 28 = .ok (.if_icmp .ge 58, 3) := by decide +kernel
theorem dX12_mostAlike_31 : decode cX12_mostAlike 31 = .ok (.aload_n 0, 1) := by decide +kernel
theorem dX12_mostAlike_32 : decode cX12_mostAlike 32 = .ok (.iload_n 3, 1) := by decide +kernel
theorem dX12_mostAlike_33 : decode cX12_mostAlike 33 = .ok (.invokevirtual 165, 3) := by decide +kernel
theorem dX12_mostAlike_36 : decode cX12_mostAlike 36 = .ok (.ifCond .eq 44, 3) := by decide +kernel
theorem dX12_mostAlike_39 : decode cX12_mostAlike 39 = .ok (.iload_n 1, 1) := by decide +kernel
theorem dX12_mostAlike_40 : decode cX12_mostAlike 40 = .ok (.iload_n 3, 1) := by decide +kernel
theorem dX12_mostAlike_41 : decode cX12_mostAlike 41 = .ok (.invokestatic 147, 3) := by decide +kernel
theorem dX12_mostAlike_44 : decode cX12_mostAlike 44 = .ok (.istore 4, 2) := by decide +kernel
theorem dX12_mostAlike_46 : decode cX12_mostAlike 46 = .ok (.aload_n 0, 1) := by decide +kernel
theorem dX12_mostAlike_47 : decode cX12_mostAlike 47 = .ok (.getfield 39, 3) := by decide +kernel
theorem dX12_mostAlike_50 : decode cX12_mostAlike 50 = .ok (.iload 4, 2) := by decide +kernel
theorem dX12_mostAlike_52 : decode cX12_mostAlike 52 = .ok (.dup2, 1) := by decide +kernel
theorem dX12_mostAlike_53 : decode cX12_mostAlike 53 = .ok (.iaload, 1) := by decide +kernel
theorem dX12_mostAlike_54 : decode cX12_mostAlike 54 = .ok (.iconst 1, 1) := by decide +kernel
theorem dX12_mostAlike_55 : decode cX12_mostAlike 55 = .ok (.iadd, 1) := by decide +kernel
theorem dX12_mostAlike_56 : decode cX12_mostAlike 56 = .ok (.iastore, 1) := by decide +kernel
theorem dX12_mostAlike_57 : decode cX12_mostAlike 57 = .ok (.aload_n 0, 1) := by decide +kernel
theorem dX12_mostAlike_58 : decode cX12_mostAlike 58 = .ok (.getfield 39, 3) := by decide +kernel
theorem dX12_mostAlike_61 : decode cX12_mostAlike 61 = .ok (.iload 4, 2) := by decide +kernel
theorem dX12_mostAlike_63 : decode cX12_mostAlike 63 = .ok (.iaload, 1) := by decide +kernel
theorem dX12_mostAlike_64 : decode cX12_mostAlike 64 = .ok (.iload_n 2, 1) := by decide +kernel
theorem dX12_mostAlike_65 : decode cX12_mostAlike 65 = .ok (.if_icmp .le 13, 3) := by decide +kernel
theorem dX12_mostAlike_68 : decode cX12_mostAlike 68 = .ok (.aload_n 0, 1) := by decide +kernel
theorem dX12_mostAlike_69 : decode cX12_mostAlike 69 = .ok (.getfield 39, 3) := by decide +kernel
theorem dX12_mostAlike_72 : decode cX12_mostAlike 72 = .ok (.iload 4, 2) := by decide +kernel
theorem dX12_mostAlike_74 : decode cX12_mostAlike 74 = .ok (.iaload, 1) := by decide +kernel
theorem dX12_mostAlike_75 : decode cX12_mostAlike 75 = .ok (.goto 4, 3) := by decide +kernel
theorem dX12_mostAlike_78 : decode cX12_mostAlike 78 = .ok (.iload_n 2, 1) := by decide +kernel
theorem dX12_mostAlike_79 : decode cX12_mostAlike 79 = .ok (.istore_n 2, 1) := by decide +kernel
theorem dX12_mostAlike_80 : decode cX12_mostAlike 80 = .ok (.iinc 3 1, 3) := by decide +kernel
theorem dX12_mostAlike_83 : decode cX12_mostAlike 83 = .ok (.goto (-58), 3) := by decide +kernel
theorem dX12_mostAlike_86 : decode cX12_mostAlike 86 = .ok (.iload_n 2, 1) := by decide +kernel
theorem dX12_mostAlike_87 : decode cX12_mostAlike 87 = .ok (.ireturn, 1) := by decide +kernel
set_option maxRecDepth 100000 in
set_option maxHeartbeats 4000000 in
theorem c_X12_mostAlike {g : Gv} {l : Launch} (p0 : Nat) (p1 : Int32) (w0 : Wd) (rz : Int32) (wz : Wd) (hf : f_X12_mostAlike p0 p1 w0 = some (rz, wz)) : MI g l yX12_mostAlike cX12_mostAlike 5 .int 3 67 [rV g p0, .int p1] w0 rz wz := by
  refine mi_of RX12 (by decide) rfl (Nat.le_of_ble_eq_true rfl) ?_
  intro X hg hll C hr h0
  subst hg; subst hll
  have t_25 : ∀ (n : Nat) (v0 : Nat) (v1 : Int32) (v2 : Int32) (v3 : Int32) (w : Wd), f_X12_mostAlike_25 n v0 v1 v2 v3 w = some (rz, wz) → Wk X 0 0 (QI X w0 rz wz) w [(0, rV (xg X) v0), (1, .int v1), (2, .int v2), (3, .int v3)] 25 [] := by
    intro n
    induction n with
    | zero => intro v0 v1 v2 v3 w hf; rw [f_X12_mostAlike_25] at hf; cases hf
    | succ n25 ih25 =>
      have t_80 : ∀ (v0 : Nat) (v1 : Int32) (v2 : Int32) (v3 : Int32) (w : Wd), f_X12_mostAlike_80 (f_X12_mostAlike_25 n25) v0 v1 v2 v3 w = some (rz, wz) → Wk X 0 0 (QI X w0 rz wz) w [(0, rV (xg X) v0), (1, .int v1), (2, .int v2), (3, .int v3)] 80 [] := by
        intro v0 v1 v2 v3 w hf
        unfold f_X12_mostAlike_80 at hf
        refine k_iinc C dX12_mostAlike_80 3 rfl (by decide) (by decide) [(3, .int (v3 + (1 : Int32))), (0, rV (xg X) v0), (1, .int v1), (2, .int v2)] rfl 83 rfl ?_
        refine k_goto C dX12_mostAlike_83 25 rfl ?_
        refine k_sub [1, 2, 3, 0] rfl ?_
        exact ih25 _ _ _ _ w hf
      have t_79 : ∀ (v0 : Nat) (v1 : Int32) (v3 : Int32) (s0 : Int32) (w : Wd), f_X12_mostAlike_79 (f_X12_mostAlike_25 n25) v0 v1 v3 s0 w = some (rz, wz) → Wk X 0 0 (QI X w0 rz wz) w [(0, rV (xg X) v0), (1, .int v1), (3, .int v3)] 79 [.int s0] := by
        intro v0 v1 v3 s0 w hf
        unfold f_X12_mostAlike_79 at hf
        refine k_istore_n C dX12_mostAlike_79 rfl (by decide) [(2, .int s0), (0, rV (xg X) v0), (1, .int v1), (3, .int v3)] rfl 80 rfl ?_
        refine k_sub [1, 2, 0, 3] rfl ?_
        exact t_80 _ _ _ _ w hf
      intro v0 v1 v2 v3 w hf
      rw [f_X12_mostAlike_25] at hf
      refine k_iload_n C dX12_mostAlike_25 3 rfl 26 rfl ?_
      refine k_bipush C dX12_mostAlike_26 (32) (by decide) 28 rfl ?_
      refine k_icmp_ge C dX12_mostAlike_28 hf 86 rfl 31 rfl (fun hf => ?_) (fun hf => ?_)
      · refine k_iload_n C dX12_mostAlike_86 2 rfl 87 rfl ?_
        exact k_iret C hr h0 dX12_mostAlike_87 hf
      · refine k_aload_n C dX12_mostAlike_31 0 rfl rfl 32 rfl ?_
        refine k_iload_n C dX12_mostAlike_32 3 rfl 33 rfl ?_
        refine k_callV_i C ye_X12_mayBe ve_X12_165 ⟨rfl, rfl⟩ ⟨rfl, rfl⟩ dX12_mostAlike_33 [.int v3] rfl rfl (Nat.le_of_ble_eq_true rfl) (c_X12_mayBe _ _ _) hf 36 rfl (fun x15 w14 hf => ?_)
        refine k_if_eq C dX12_mostAlike_36 hf 80 rfl 39 rfl (fun hf => ?_) (fun hf => ?_)
        · refine k_sub [0, 1, 2, 3] rfl ?_
          exact t_80 _ _ _ _ w14 hf
        · refine k_iload_n C dX12_mostAlike_39 1 rfl 40 rfl ?_
          refine k_iload_n C dX12_mostAlike_40 3 rfl 41 rfl ?_
          refine k_callS_i C ye_X12_alike se_X12_147 ⟨rfl, rfl⟩ ⟨rfl, rfl⟩ dX12_mostAlike_41 [.int v1, .int v3] rfl rfl (Nat.le_of_ble_eq_true rfl) (c_X12_alike _ _ _) hf 44 rfl (fun x17 w16 hf => ?_)
          refine k_istore C dX12_mostAlike_44 (by decide) [(4, .int x17), (0, rV (xg X) v0), (1, .int v1), (2, .int v2), (3, .int v3)] rfl 46 rfl ?_
          refine k_aload_n C dX12_mostAlike_46 1 rfl rfl 47 rfl ?_
          refine k_getR C fe_X12_39 rfl dX12_mostAlike_47 hf 50 rfl (fun r18 hf => ?_)
          refine k_iload C dX12_mostAlike_50 0 rfl 52 rfl ?_
          refine k_dup2 C dX12_mostAlike_52 rfl rfl 53 rfl ?_
          refine k_iald C dX12_mostAlike_53 hf 54 rfl (fun x19 hf => ?_)
          refine k_iconst C dX12_mostAlike_54 (1) (by decide) 55 rfl ?_
          refine k_iadd C dX12_mostAlike_55 56 rfl ?_
          refine k_iast C dX12_mostAlike_56 hf 57 rfl (fun w20 _ hf => ?_)
          refine k_aload_n C dX12_mostAlike_57 1 rfl rfl 58 rfl ?_
          refine k_getR C fe_X12_39 rfl dX12_mostAlike_58 hf 61 rfl (fun r21 hf => ?_)
          refine k_iload C dX12_mostAlike_61 0 rfl 63 rfl ?_
          refine k_iald C dX12_mostAlike_63 hf 64 rfl (fun x22 hf => ?_)
          refine k_iload_n C dX12_mostAlike_64 3 rfl 65 rfl ?_
          refine k_icmp_le C dX12_mostAlike_65 hf 78 rfl 68 rfl (fun hf => ?_) (fun hf => ?_)
          · refine k_iload_n C dX12_mostAlike_78 3 rfl 79 rfl ?_
            refine k_sub [1, 2, 4] rfl ?_
            exact t_79 _ _ _ _ w20 hf
          · refine k_aload_n C dX12_mostAlike_68 1 rfl rfl 69 rfl ?_
            refine k_getR C fe_X12_39 rfl dX12_mostAlike_69 hf 72 rfl (fun r23 hf => ?_)
            refine k_iload C dX12_mostAlike_72 0 rfl 74 rfl ?_
            refine k_iald C dX12_mostAlike_74 hf 75 rfl (fun x24 hf => ?_)
            refine k_goto C dX12_mostAlike_75 79 rfl ?_
            refine k_sub [1, 2, 4] rfl ?_
            exact t_79 _ _ _ _ w20 hf
  have t_4 : ∀ (n : Nat) (v0 : Nat) (v1 : Int32) (v2 : Int32) (v3 : Int32) (w : Wd), f_X12_mostAlike_4 n v0 v1 v2 v3 w = some (rz, wz) → Wk X 0 0 (QI X w0 rz wz) w [(0, rV (xg X) v0), (1, .int v1), (2, .int v2), (3, .int v3)] 4 [] := by
    intro n
    induction n with
    | zero => intro v0 v1 v2 v3 w hf; rw [f_X12_mostAlike_4] at hf; cases hf
    | succ n4 ih4 =>
      intro v0 v1 v2 v3 w hf
      rw [f_X12_mostAlike_4] at hf
      refine k_iload_n C dX12_mostAlike_4 3 rfl 5 rfl ?_
      refine k_bipush C dX12_mostAlike_5 (6) (by decide) 7 rfl ?_
      refine k_icmp_ge C dX12_mostAlike_7 hf 23 rfl 10 rfl (fun hf => ?_) (fun hf => ?_)
      · refine k_iconst C dX12_mostAlike_23 (0) (by decide) 24 rfl ?_
        refine k_istore_n C dX12_mostAlike_24 rfl (by decide) [(3, .int (0 : Int32)), (0, rV (xg X) v0), (1, .int v1), (2, .int v2)] rfl 25 rfl ?_
        refine k_sub [1, 2, 3, 0] rfl ?_
        exact t_25 4096 _ _ _ _ w hf
      · refine k_aload_n C dX12_mostAlike_10 0 rfl rfl 11 rfl ?_
        refine k_getR C fe_X12_39 rfl dX12_mostAlike_11 hf 14 rfl (fun r25 hf => ?_)
        refine k_iload_n C dX12_mostAlike_14 3 rfl 15 rfl ?_
        refine k_iconst C dX12_mostAlike_15 (0) (by decide) 16 rfl ?_
        refine k_iast C dX12_mostAlike_16 hf 17 rfl (fun w26 _ hf => ?_)
        refine k_iinc C dX12_mostAlike_17 3 rfl (by decide) (by decide) [(3, .int (v3 + (1 : Int32))), (0, rV (xg X) v0), (1, .int v1), (2, .int v2)] rfl 20 rfl ?_
        refine k_goto C dX12_mostAlike_20 4 rfl ?_
        refine k_sub [1, 2, 3, 0] rfl ?_
        exact ih4 _ _ _ _ w26 hf
  unfold f_X12_mostAlike at hf
  refine k_sub (lv2 := [(0, rV (xg X) p0), (1, .int p1)]) [0, 1] rfl ?_
  refine k_iconst C dX12_mostAlike_0 (0) (by decide) 1 rfl ?_
  refine k_istore_n C dX12_mostAlike_1 rfl (by decide) [(2, .int (0 : Int32)), (0, rV (xg X) p0), (1, .int p1)] rfl 2 rfl ?_
  refine k_iconst C dX12_mostAlike_2 (0) (by decide) 3 rfl ?_
  refine k_istore_n C dX12_mostAlike_3 rfl (by decide) [(3, .int (0 : Int32)), (2, .int (0 : Int32)), (0, rV (xg X) p0), (1, .int p1)] rfl 4 rfl ?_
  refine k_sub [2, 3, 1, 0] rfl ?_
  exact t_4 4096 _ _ _ _ w0 hf
theorem dX12_next_0 : decode cX12_next 0 = .ok (.aload_n 0, 1) := by decide +kernel
theorem dX12_next_1 : decode cX12_next 1 = .ok (.aload_n 0, 1) := by decide +kernel
theorem dX12_next_2 : decode cX12_next 2 = .ok (.getfield 68, 3) := by decide +kernel
theorem dX12_next_5 : decode cX12_next 5 = .ok (.putfield 71, 3) := by decide +kernel
theorem dX12_next_8 : decode cX12_next 8 = .ok (.aload_n 0, 1) := by decide +kernel
theorem dX12_next_9 : decode cX12_next 9 = .ok (.getfield 71, 3) := by decide +kernel
theorem dX12_next_12 : decode cX12_next 12 = .ok (.aload_n 0, 1) := by decide +kernel
theorem dX12_next_13 : decode cX12_next 13 = .ok (.getfield 64, 3) := by decide +kernel
theorem dX12_next_16 : decode cX12_next 16 = .ok (.if_icmp .ge 30, 3) := by decide +kernel
theorem dX12_next_19 : decode cX12_next 19 = .ok (.aload_n 0, 1) := by decide +kernel
theorem dX12_next_20 : decode cX12_next 20 = .ok (.getfield 24, 3) := by decide +kernel
theorem dX12_next_23 : decode cX12_next 23 = .ok (.aload_n 0, 1) := by decide +kernel
theorem dX12_next_24 : decode cX12_next 24 = .ok (.getfield 71, 3) := by decide +kernel
theorem dX12_next_27 : decode cX12_next 27 = .ok (.iaload, 1) := by decide +kernel
theorem dX12_next_28 : decode cX12_next 28 = .ok (.bipush 32, 2) := by decide +kernel
theorem dX12_next_30 : decode cX12_next 30 = .ok (.if_icmp .ne 16, 3) := by decide +kernel
theorem dX12_next_33 : decode cX12_next 33 = .ok (.aload_n 0, 1) := by decide +kernel
theorem dX12_next_34 : decode cX12_next 34 = .ok (.dup, 1) := by decide +kernel
theorem dX12_next_35 : decode cX12_next 35 = .ok (.getfield 71, 3) := by decide +kernel
theorem dX12_next_38 : decode cX12_next 38 = .ok (.iconst 1, 1) := by decide +kernel
theorem dX12_next_39 : decode cX12_next 39 = .ok (.iadd, 1) := by decide +kernel
theorem dX12_next_40 : decode cX12_next 40 = .ok (.putfield 71, 3) := by decide +kernel
theorem dX12_next_43 : decode cX12_next 43 = .ok (.goto (-35), 3) := by decide +kernel
theorem dX12_next_46 : decode cX12_next 46 = .ok (.aload_n 0, 1) := by decide +kernel
theorem dX12_next_47 : decode cX12_next 47 = .ok (.aload_n 0, 1) := by decide +kernel
theorem dX12_next_48 : decode cX12_next 48 = .ok (.getfield 71, 3) := by decide +kernel
theorem dX12_next_51 : decode cX12_next 51 = .ok (.aload_n 0, 1) := by decide +kernel
theorem dX12_next_52 : decode cX12_next 52 = .ok (.getfield 64, 3) := by decide +kernel
theorem dX12_next_55 : decode cX12_next 55 = .ok (.if_icmp .ge 12, 3) := by decide +kernel
theorem dX12_next_58 : decode cX12_next 58 = .ok (.aload_n 0, 1) := by decide +kernel
theorem dX12_next_59 : decode cX12_next 59 = .ok (.getfield 71, 3) := by decide +kernel
theorem dX12_next_62 : decode cX12_next 62 = .ok (.iconst 1, 1) := by decide +kernel
theorem dX12_next_63 : decode cX12_next 63 = .ok (.iadd, 1) := by decide +kernel
theorem dX12_next_64 : decode cX12_next 64 = .ok (.goto 7, 3) := by decide +kernel
theorem dX12_next_67 : decode cX12_next 67 = .ok (.aload_n 0, 1) := by decide +kernel
theorem dX12_next_68 : decode cX12_next 68 = .ok (.getfield 71, 3) := by decide +kernel
theorem dX12_next_71 : decode cX12_next 71 = .ok (.putfield 68, 3) := by decide +kernel
theorem dX12_next_74 : decode cX12_next 74 = .ok (.aload_n 0, 1) := by decide +kernel
theorem dX12_next_75 : decode cX12_next 75 = .ok (.aload_n 0, 1) := by decide +kernel
theorem dX12_next_76 : decode cX12_next 76 = .ok (.getfield 71, 3) := by decide +kernel
theorem dX12_next_79 : decode cX12_next 79 = .ok (.invokevirtual 74, 3) := by decide +kernel
theorem dX12_next_82 : decode cX12_next 82 = .ok (.ifCond .eq 27, 3) := by decide +kernel
theorem dX12_next_85 : decode cX12_next 85 = .ok (.aload_n 0, 1) := by decide +kernel
theorem dX12_next_86 : decode cX12_next 86 = .ok (.aload_n 0, 1) := by decide +kernel
theorem dX12_next_87 : decode cX12_next 87 = .ok (.getfield 68, 3) := by decide +kernel
theorem dX12_next_90 : decode cX12_next 90 = .ok (.invokevirtual 74, 3) := by decide +kernel
theorem dX12_next_93 : decode cX12_next 93 = .ok (.ifCond .eq 16, 3) := by decide +kernel
theorem dX12_next_96 : decode cX12_next 96 = .ok (.aload_n 0, 1) := by decide +kernel
theorem dX12_next_97 : decode cX12_next 97 = .ok (.dup, 1) := by decide +kernel
theorem dX12_next_98 : decode cX12_next 98 = .ok (.getfield 68, 3) := by decide +kernel
theorem dX12_next_101 : decode cX12_next 101 = .ok (.iconst 1, 1) := by decide +kernel
theorem dX12_next_102 : decode cX12_next 102 = .ok (.iadd, 1) := by decide +kernel
theorem dX12_next_103 : decode cX12_next 103 = .ok (.putfield 68, 3) := by decide +kernel
theorem dX12_next_106 : decode cX12_next 106 = .ok (.goto (-32), 3) := by decide +kernel
theorem dX12_next_109 : decode cX12_next 109 = .ok (.aload_n 0, 1) := by decide +kernel
theorem dX12_next_110 : decode cX12_next 110 = .ok (.aload_n 0, 1) := by decide +kernel
theorem dX12_next_111 : decode cX12_next 111 = .ok (.getfield 71, 3) := by decide +kernel
theorem dX12_next_114 : decode cX12_next 114 = .ok (.invokevirtual 78, 3) := by decide +kernel
theorem dX12_next_117 : decode cX12_next 117 = .ok (.ifCond .eq 27, 3) := by decide +kernel
theorem dX12_next_120 : decode cX12_next 120 = .ok (.aload_n 0, 1) := by decide +kernel
theorem dX12_next_121 : decode cX12_next 121 = .ok (.aload_n 0, 1) := by decide +kernel
theorem dX12_next_122 : decode cX12_next 122 = .ok (.getfield 68, 3) := by decide +kernel
theorem dX12_next_125 : decode cX12_next 125 = .ok (.invokevirtual 78, 3) := by decide +kernel
theorem dX12_next_128 : decode cX12_next 128 = .ok (.ifCond .eq 16, 3) := by decide +kernel
theorem dX12_next_131 : decode cX12_next 131 = .ok (.aload_n 0, 1) := by decide +kernel
theorem dX12_next_132 : decode cX12_next 132 = .ok (.dup, 1) := by decide +kernel
theorem dX12_next_133 : decode cX12_next 133 = .ok (.getfield 68, 3) := by decide +kernel
theorem dX12_next_136 : decode cX12_next 136 = .ok (.iconst 1, 1) := by decide +kernel
theorem dX12_next_137 : decode cX12_next 137 = .ok (.iadd, 1) := by decide +kernel
theorem dX12_next_138 : decode cX12_next 138 = .ok (.putfield 68, 3) := by decide +kernel
theorem dX12_next_141 : decode cX12_next 141 = .ok (.goto (-32), 3) := by decide +kernel
theorem dX12_next_144 : decode cX12_next 144 = .ok (.return_, 1) := by decide +kernel
set_option maxRecDepth 100000 in
set_option maxHeartbeats 4000000 in
theorem c_X12_next {g : Gv} {l : Launch} (p0 : Nat) (w0 : Wd) (wz : Wd) (hf : f_X12_next p0 w0 = some ((), wz)) : MV g l yX12_next cX12_next 1 2 43 0 0 [rV g p0] w0 wz := by
  refine mv_of RX12 (by decide) rfl (Nat.le_of_ble_eq_true rfl) ?_
  intro X hg hll C hr h0 hin
  subst hg; subst hll
  have t_144 : ∀ (w : Wd), f_X12_next_144 w = some ((), wz) → Wk X 0 0 (QV X 0 0 w0 wz) w [] 144 [] := by
    intro w hf
    unfold f_X12_next_144 at hf
    exact k_vret C hr h0 dX12_next_144 hf
  have t_109 : ∀ (n : Nat) (v0 : Nat) (w : Wd), f_X12_next_109 n v0 w = some ((), wz) → Wk X 0 0 (QV X 0 0 w0 wz) w [(0, rV (xg X) v0)] 109 [] := by
    intro n
    induction n with
    | zero => intro v0 w hf; rw [f_X12_next_109] at hf; cases hf
    | succ n109 ih109 =>
      intro v0 w hf
      rw [f_X12_next_109] at hf
      refine k_aload_n C dX12_next_109 0 rfl rfl 110 rfl ?_
      refine k_aload_n C dX12_next_110 0 rfl rfl 111 rfl ?_
      refine k_getI C fe_X12_71 rfl dX12_next_111 hf 114 rfl (fun x31 hf => ?_)
      refine k_callV_i C ye_X12_isFigure ve_X12_78 ⟨rfl, rfl⟩ ⟨rfl, rfl⟩ dX12_next_114 [.int x31] rfl rfl (Nat.le_of_ble_eq_true rfl) (c_X12_isFigure _ _ _) hf 117 rfl (fun x33 w32 hf => ?_)
      refine k_if_eq C dX12_next_117 hf 144 rfl 120 rfl (fun hf => ?_) (fun hf => ?_)
      · refine k_sub [] rfl ?_
        exact t_144 w32 hf
      · refine k_aload_n C dX12_next_120 0 rfl rfl 121 rfl ?_
        refine k_aload_n C dX12_next_121 0 rfl rfl 122 rfl ?_
        refine k_getI C fe_X12_68 rfl dX12_next_122 hf 125 rfl (fun x34 hf => ?_)
        refine k_callV_i C ye_X12_isFigure ve_X12_78 ⟨rfl, rfl⟩ ⟨rfl, rfl⟩ dX12_next_125 [.int x34] rfl rfl (Nat.le_of_ble_eq_true rfl) (c_X12_isFigure _ _ _) hf 128 rfl (fun x36 w35 hf => ?_)
        refine k_if_eq C dX12_next_128 hf 144 rfl 131 rfl (fun hf => ?_) (fun hf => ?_)
        · refine k_sub [] rfl ?_
          exact t_144 w35 hf
        · refine k_aload_n C dX12_next_131 0 rfl rfl 132 rfl ?_
          refine k_dup C dX12_next_132 rfl 133 rfl ?_
          refine k_getI C fe_X12_68 rfl dX12_next_133 hf 136 rfl (fun x37 hf => ?_)
          refine k_iconst C dX12_next_136 (1) (by decide) 137 rfl ?_
          refine k_iadd C dX12_next_137 138 rfl ?_
          refine k_putI C fe_X12_68 rfl rfl dX12_next_138 hf 141 rfl (fun w38 _ hf => ?_)
          refine k_goto C dX12_next_141 109 rfl ?_
          refine k_sub [0] rfl ?_
          exact ih109 _ w38 hf
  have t_74 : ∀ (n : Nat) (v0 : Nat) (w : Wd), f_X12_next_74 n v0 w = some ((), wz) → Wk X 0 0 (QV X 0 0 w0 wz) w [(0, rV (xg X) v0)] 74 [] := by
    intro n
    induction n with
    | zero => intro v0 w hf; rw [f_X12_next_74] at hf; cases hf
    | succ n74 ih74 =>
      intro v0 w hf
      rw [f_X12_next_74] at hf
      refine k_aload_n C dX12_next_74 0 rfl rfl 75 rfl ?_
      refine k_aload_n C dX12_next_75 0 rfl rfl 76 rfl ?_
      refine k_getI C fe_X12_71 rfl dX12_next_76 hf 79 rfl (fun x39 hf => ?_)
      refine k_callV_i C ye_X12_isLetter ve_X12_74 ⟨rfl, rfl⟩ ⟨rfl, rfl⟩ dX12_next_79 [.int x39] rfl rfl (Nat.le_of_ble_eq_true rfl) (c_X12_isLetter _ _ _) hf 82 rfl (fun x41 w40 hf => ?_)
      refine k_if_eq C dX12_next_82 hf 109 rfl 85 rfl (fun hf => ?_) (fun hf => ?_)
      · refine k_sub [0] rfl ?_
        exact t_109 4096 _ w40 hf
      · refine k_aload_n C dX12_next_85 0 rfl rfl 86 rfl ?_
        refine k_aload_n C dX12_next_86 0 rfl rfl 87 rfl ?_
        refine k_getI C fe_X12_68 rfl dX12_next_87 hf 90 rfl (fun x42 hf => ?_)
        refine k_callV_i C ye_X12_isLetter ve_X12_74 ⟨rfl, rfl⟩ ⟨rfl, rfl⟩ dX12_next_90 [.int x42] rfl rfl (Nat.le_of_ble_eq_true rfl) (c_X12_isLetter _ _ _) hf 93 rfl (fun x44 w43 hf => ?_)
        refine k_if_eq C dX12_next_93 hf 109 rfl 96 rfl (fun hf => ?_) (fun hf => ?_)
        · refine k_sub [0] rfl ?_
          exact t_109 4096 _ w43 hf
        · refine k_aload_n C dX12_next_96 0 rfl rfl 97 rfl ?_
          refine k_dup C dX12_next_97 rfl 98 rfl ?_
          refine k_getI C fe_X12_68 rfl dX12_next_98 hf 101 rfl (fun x45 hf => ?_)
          refine k_iconst C dX12_next_101 (1) (by decide) 102 rfl ?_
          refine k_iadd C dX12_next_102 103 rfl ?_
          refine k_putI C fe_X12_68 rfl rfl dX12_next_103 hf 106 rfl (fun w46 _ hf => ?_)
          refine k_goto C dX12_next_106 74 rfl ?_
          refine k_sub [0] rfl ?_
          exact ih74 _ w46 hf
  have t_71 : ∀ (v0 : Nat) (s0 : Int32) (s1 : Nat) (w : Wd), f_X12_next_71 v0 s0 s1 w = some ((), wz) → Wk X 0 0 (QV X 0 0 w0 wz) w [(0, rV (xg X) v0)] 71 [.int s0, rV (xg X) s1] := by
    intro v0 s0 s1 w hf
    unfold f_X12_next_71 at hf
    refine k_putI C fe_X12_68 rfl rfl dX12_next_71 hf 74 rfl (fun w47 _ hf => ?_)
    refine k_sub [0] rfl ?_
    exact t_74 4096 _ w47 hf
  have t_46 : ∀ (v0 : Nat) (w : Wd), f_X12_next_46 v0 w = some ((), wz) → Wk X 0 0 (QV X 0 0 w0 wz) w [(0, rV (xg X) v0)] 46 [] := by
    intro v0 w hf
    unfold f_X12_next_46 at hf
    refine k_aload_n C dX12_next_46 0 rfl rfl 47 rfl ?_
    refine k_aload_n C dX12_next_47 0 rfl rfl 48 rfl ?_
    refine k_getI C fe_X12_71 rfl dX12_next_48 hf 51 rfl (fun x48 hf => ?_)
    refine k_aload_n C dX12_next_51 0 rfl rfl 52 rfl ?_
    refine k_getI C fe_X12_64 rfl dX12_next_52 hf 55 rfl (fun x49 hf => ?_)
    refine k_icmp_ge C dX12_next_55 hf 67 rfl 58 rfl (fun hf => ?_) (fun hf => ?_)
    · refine k_aload_n C dX12_next_67 0 rfl rfl 68 rfl ?_
      refine k_getI C fe_X12_71 rfl dX12_next_68 hf 71 rfl (fun x50 hf => ?_)
      refine k_sub [0] rfl ?_
      exact t_71 _ _ _ w hf
    · refine k_aload_n C dX12_next_58 0 rfl rfl 59 rfl ?_
      refine k_getI C fe_X12_71 rfl dX12_next_59 hf 62 rfl (fun x51 hf => ?_)
      refine k_iconst C dX12_next_62 (1) (by decide) 63 rfl ?_
      refine k_iadd C dX12_next_63 64 rfl ?_
      refine k_goto C dX12_next_64 71 rfl ?_
      refine k_sub [0] rfl ?_
      exact t_71 _ _ _ w hf
  have t_8 : ∀ (n : Nat) (v0 : Nat) (w : Wd), f_X12_next_8 n v0 w = some ((), wz) → Wk X 0 0 (QV X 0 0 w0 wz) w [(0, rV (xg X) v0)] 8 [] := by
    intro n
    induction n with
    | zero => intro v0 w hf; rw [f_X12_next_8] at hf; cases hf
    | succ n8 ih8 =>
      intro v0 w hf
      rw [f_X12_next_8] at hf
      refine k_aload_n C dX12_next_8 0 rfl rfl 9 rfl ?_
      refine k_getI C fe_X12_71 rfl dX12_next_9 hf 12 rfl (fun x52 hf => ?_)
      refine k_aload_n C dX12_next_12 0 rfl rfl 13 rfl ?_
      refine k_getI C fe_X12_64 rfl dX12_next_13 hf 16 rfl (fun x53 hf => ?_)
      refine k_icmp_ge C dX12_next_16 hf 46 rfl 19 rfl (fun hf => ?_) (fun hf => ?_)
      · refine k_sub [0] rfl ?_
        exact t_46 _ w hf
      · refine k_aload_n C dX12_next_19 0 rfl rfl 20 rfl ?_
        refine k_getR C fe_X12_24 rfl dX12_next_20 hf 23 rfl (fun r54 hf => ?_)
        refine k_aload_n C dX12_next_23 0 rfl rfl 24 rfl ?_
        refine k_getI C fe_X12_71 rfl dX12_next_24 hf 27 rfl (fun x55 hf => ?_)
        refine k_iald C dX12_next_27 hf 28 rfl (fun x56 hf => ?_)
        refine k_bipush C dX12_next_28 (32) (by decide) 30 rfl ?_
        refine k_icmp_ne C dX12_next_30 hf 46 rfl 33 rfl (fun hf => ?_) (fun hf => ?_)
        · refine k_sub [0] rfl ?_
          exact t_46 _ w hf
        · refine k_aload_n C dX12_next_33 0 rfl rfl 34 rfl ?_
          refine k_dup C dX12_next_34 rfl 35 rfl ?_
          refine k_getI C fe_X12_71 rfl dX12_next_35 hf 38 rfl (fun x57 hf => ?_)
          refine k_iconst C dX12_next_38 (1) (by decide) 39 rfl ?_
          refine k_iadd C dX12_next_39 40 rfl ?_
          refine k_putI C fe_X12_71 rfl rfl dX12_next_40 hf 43 rfl (fun w58 _ hf => ?_)
          refine k_goto C dX12_next_43 8 rfl ?_
          refine k_sub [0] rfl ?_
          exact ih8 _ w58 hf
  unfold f_X12_next at hf
  refine k_sub (lv2 := [(0, rV (xg X) p0)]) [0] rfl ?_
  refine k_aload_n C dX12_next_0 0 rfl rfl 1 rfl ?_
  refine k_aload_n C dX12_next_1 0 rfl rfl 2 rfl ?_
  refine k_getI C fe_X12_68 rfl dX12_next_2 hf 5 rfl (fun x59 hf => ?_)
  refine k_putI C fe_X12_71 rfl rfl dX12_next_5 hf 8 rfl (fun w60 _ hf => ?_)
  refine k_sub [0] rfl ?_
  exact t_8 4096 _ w60 hf
theorem dX12_nextGuess_0 : decode cX12_nextGuess 0 = .ok (.iconst (-1), 1) := by decide +kernel
theorem dX12_nextGuess_1 : decode cX12_nextGuess 1 = .ok (.istore_n 1, 1) := by decide +kernel
theorem dX12_nextGuess_2 : decode cX12_nextGuess 2 = .ok (.bipush 99, 2) := by decide +kernel
theorem dX12_nextGuess_4 : decode cX12_nextGuess 4 = .ok (.istore_n 2, 1) := by decide +kernel
theorem dX12_nextGuess_5 : decode cX12_nextGuess 5 = .ok (.iconst 0, 1) := by decide +kernel
theorem dX12_nextGuess_6 : decode cX12_nextGuess 6 = .ok (.istore_n 3, 1) := by decide +kernel
theorem dX12_nextGuess_7 : decode cX12_nextGuess 7 = .ok (.iload_n 3, 1) := by decide +kernel
theorem dX12_nextGuess_8 : decode cX12_nextGuess 8 = .ok (.bipush 32, 2) := by decide +kernel
theorem dX12_nextGuess_10 : decode cX12_nextGuess 10 = .ok (.if_icmp .ge 57, 3) := by decide +kernel
theorem dX12_nextGuess_13 : decode cX12_nextGuess 13 = .ok (.aload_n 0, 1) := by decide +kernel
theorem dX12_nextGuess_14 : decode cX12_nextGuess 14 = .ok (.iload_n 3, 1) := by decide +kernel
theorem dX12_nextGuess_15 : decode cX12_nextGuess 15 = .ok (.invokevirtual 168, 3) := by decide +kernel
theorem dX12_nextGuess_18 : decode cX12_nextGuess 18 = .ok (.istore 4, 2) := by decide +kernel
theorem dX12_nextGuess_20 : decode cX12_nextGuess 20 = .ok (.iload 4, 2) := by decide +kernel
theorem dX12_nextGuess_22 : decode cX12_nextGuess 22 = .ok (.ifCond .le 13, 3) := by decide +kernel
theorem dX12_nextGuess_25 : decode cX12_nextGuess 25 = .ok (.iload 4, 2) := by decide +kernel
theorem dX12_nextGuess_27 : decode cX12_nextGuess 27 = .ok (.iload_n 2, 1) := by decide +kernel
theorem dX12_nextGuess_28 : decode cX12_nextGuess 28 = .ok (.if_icmp .ge 7, 3) := by decide +kernel
theorem dX12_nextGuess_31 : decode cX12_nextGuess 31 = .ok (.iconst 1, 1) := by decide +kernel
theorem dX12_nextGuess_32 : decode cX12_nextGuess 32 = .ok (.goto 4, 3) := by decide +kernel
theorem dX12_nextGuess_35 : decode cX12_nextGuess 35 = .ok (.iconst 0, 1) := by decide +kernel
theorem dX12_nextGuess_36 : decode cX12_nextGuess 36 = .ok (.istore 5, 2) := by decide +kernel
theorem dX12_nextGuess_38 : decode cX12_nextGuess 38 = .ok (.iload 5, 2) := by decide +kernel
theorem dX12_nextGuess_40 : decode cX12_nextGuess 40 = .ok (.ifCond .eq 7, 3) := by decide +kernel
theorem dX12_nextGuess_43 : decode cX12_nextGuess 43 = .ok (.iload_n 3, 1) := by decide +kernel
theorem dX12_nextGuess_44 : decode cX12_nextGuess 44 = .ok (.goto 4, 3) := by decide +kernel
theorem dX12_nextGuess_47 : decode cX12_nextGuess 47 = .ok (.iload_n 1, 1) := by decide +kernel
theorem dX12_nextGuess_48 : decode cX12_nextGuess 48 = .ok (.istore_n 1, 1) := by decide +kernel
theorem dX12_nextGuess_49 : decode cX12_nextGuess 49 = .ok (.iload 5, 2) := by decide +kernel
theorem dX12_nextGuess_51 : decode cX12_nextGuess 51 = .ok (.ifCond .eq 8, 3) := by decide +kernel
theorem dX12_nextGuess_54 : decode cX12_nextGuess 54 = .ok (.iload 4, 2) := by decide +kernel
theorem dX12_nextGuess_56 : decode cX12_nextGuess 56 = .ok (.goto 4, 3) := by decide +kernel
theorem dX12_nextGuess_59 : decode cX12_nextGuess 59 = .ok (.iload_n 2, 1) := by decide +kernel
theorem dX12_nextGuess_60 : decode cX12_nextGuess 60 = .ok (.istore_n 2, 1) := by decide +kernel
theorem dX12_nextGuess_61 : decode cX12_nextGuess 61 = .ok (.iinc 3 1, 3) := by decide +kernel
theorem dX12_nextGuess_64 : decode cX12_nextGuess 64 = .ok (.goto (-57), 3) := by decide +kernel
theorem dX12_nextGuess_67 : decode cX12_nextGuess 67 = .ok (.iload_n 1, 1) := by decide +kernel
theorem dX12_nextGuess_68 : decode cX12_nextGuess 68 = .ok (.ireturn, 1) := by decide +kernel
set_option maxRecDepth 100000 in
set_option maxHeartbeats 4000000 in
theorem c_X12_nextGuess {g : Gv} {l : Launch} (p0 : Nat) (w0 : Wd) (rz : Int32) (wz : Wd) (hf : f_X12_nextGuess p0 w0 = some (rz, wz)) : MI g l yX12_nextGuess cX12_nextGuess 6 .int 4 91 [rV g p0] w0 rz wz := by
  refine mi_of RX12 (by decide) rfl (Nat.le_of_ble_eq_true rfl) ?_
  intro X hg hll C hr h0
  subst hg; subst hll
  have t_7 : ∀ (n : Nat) (v0 : Nat) (v1 : Int32) (v2 : Int32) (v3 : Int32) (w : Wd), f_X12_nextGuess_7 n v0 v1 v2 v3 w = some (rz, wz) → Wk X 0 0 (QI X w0 rz wz) w [(0, rV (xg X) v0), (1, .int v1), (2, .int v2), (3, .int v3)] 7 [] := by
    intro n
    induction n with
    | zero => intro v0 v1 v2 v3 w hf; rw [f_X12_nextGuess_7] at hf; cases hf
    | succ n7 ih7 =>
      have t_60 : ∀ (v0 : Nat) (v1 : Int32) (v3 : Int32) (s0 : Int32) (w : Wd), f_X12_nextGuess_60 (f_X12_nextGuess_7 n7) v0 v1 v3 s0 w = some (rz, wz) → Wk X 0 0 (QI X w0 rz wz) w [(0, rV (xg X) v0), (1, .int v1), (3, .int v3)] 60 [.int s0] := by
        intro v0 v1 v3 s0 w hf
        unfold f_X12_nextGuess_60 at hf
        refine k_istore_n C dX12_nextGuess_60 rfl (by decide) [(2, .int s0), (0, rV (xg X) v0), (1, .int v1), (3, .int v3)] rfl 61 rfl ?_
        refine k_iinc C dX12_nextGuess_61 3 rfl (by decide) (by decide) [(3, .int (v3 + (1 : Int32))), (2, .int s0), (0, rV (xg X) v0), (1, .int v1)] rfl 64 rfl ?_
        refine k_goto C dX12_nextGuess_64 7 rfl ?_
        refine k_sub [2, 3, 1, 0] rfl ?_
        exact ih7 _ _ _ _ w hf
      have t_48 : ∀ (v0 : Nat) (v2 : Int32) (v3 : Int32) (v4 : Int32) (v5 : Int32) (s0 : Int32) (w : Wd), f_X12_nextGuess_48 (f_X12_nextGuess_7 n7) v0 v2 v3 v4 v5 s0 w = some (rz, wz) → Wk X 0 0 (QI X w0 rz wz) w [(0, rV (xg X) v0), (2, .int v2), (3, .int v3), (4, .int v4), (5, .int v5)] 48 [.int s0] := by
        intro v0 v2 v3 v4 v5 s0 w hf
        unfold f_X12_nextGuess_48 at hf
        refine k_istore_n C dX12_nextGuess_48 rfl (by decide) [(1, .int s0), (0, rV (xg X) v0), (2, .int v2), (3, .int v3), (4, .int v4), (5, .int v5)] rfl 49 rfl ?_
        refine k_iload C dX12_nextGuess_49 5 rfl 51 rfl ?_
        refine k_if_eq C dX12_nextGuess_51 hf 59 rfl 54 rfl (fun hf => ?_) (fun hf => ?_)
        · refine k_iload_n C dX12_nextGuess_59 2 rfl 60 rfl ?_
          refine k_sub [1, 0, 3] rfl ?_
          exact t_60 _ _ _ _ w hf
        · refine k_iload C dX12_nextGuess_54 4 rfl 56 rfl ?_
          refine k_goto C dX12_nextGuess_56 60 rfl ?_
          refine k_sub [1, 0, 3] rfl ?_
          exact t_60 _ _ _ _ w hf
      have t_36 : ∀ (v0 : Nat) (v1 : Int32) (v2 : Int32) (v3 : Int32) (v4 : Int32) (s0 : Int32) (w : Wd), f_X12_nextGuess_36 (f_X12_nextGuess_7 n7) v0 v1 v2 v3 v4 s0 w = some (rz, wz) → Wk X 0 0 (QI X w0 rz wz) w [(0, rV (xg X) v0), (1, .int v1), (2, .int v2), (3, .int v3), (4, .int v4)] 36 [.int s0] := by
        intro v0 v1 v2 v3 v4 s0 w hf
        unfold f_X12_nextGuess_36 at hf
        refine k_istore C dX12_nextGuess_36 (by decide) [(5, .int s0), (0, rV (xg X) v0), (1, .int v1), (2, .int v2), (3, .int v3), (4, .int v4)] rfl 38 rfl ?_
        refine k_iload C dX12_nextGuess_38 0 rfl 40 rfl ?_
        refine k_if_eq C dX12_nextGuess_40 hf 47 rfl 43 rfl (fun hf => ?_) (fun hf => ?_)
        · refine k_iload_n C dX12_nextGuess_47 2 rfl 48 rfl ?_
          refine k_sub [1, 3, 4, 5, 0] rfl ?_
          exact t_48 _ _ _ _ _ _ w hf
        · refine k_iload_n C dX12_nextGuess_43 4 rfl 44 rfl ?_
          refine k_goto C dX12_nextGuess_44 48 rfl ?_
          refine k_sub [1, 3, 4, 5, 0] rfl ?_
          exact t_48 _ _ _ _ _ _ w hf
      have t_35 : ∀ (v0 : Nat) (v1 : Int32) (v2 : Int32) (v3 : Int32) (v4 : Int32) (w : Wd), f_X12_nextGuess_35 (f_X12_nextGuess_7 n7) v0 v1 v2 v3 v4 w = some (rz, wz) → Wk X 0 0 (QI X w0 rz wz) w [(0, rV (xg X) v0), (1, .int v1), (2, .int v2), (3, .int v3), (4, .int v4)] 35 [] := by
        intro v0 v1 v2 v3 v4 w hf
        unfold f_X12_nextGuess_35 at hf
        refine k_iconst C dX12_nextGuess_35 (0) (by decide) 36 rfl ?_
        refine k_sub [0, 1, 2, 3, 4] rfl ?_
        exact t_36 _ _ _ _ _ _ w hf
      intro v0 v1 v2 v3 w hf
      rw [f_X12_nextGuess_7] at hf
      refine k_iload_n C dX12_nextGuess_7 3 rfl 8 rfl ?_
      refine k_bipush C dX12_nextGuess_8 (32) (by decide) 10 rfl ?_
      refine k_icmp_ge C dX12_nextGuess_10 hf 67 rfl 13 rfl (fun hf => ?_) (fun hf => ?_)
      · refine k_iload_n C dX12_nextGuess_67 1 rfl 68 rfl ?_
        exact k_iret C hr h0 dX12_nextGuess_68 hf
      · refine k_aload_n C dX12_nextGuess_13 0 rfl rfl 14 rfl ?_
        refine k_iload_n C dX12_nextGuess_14 3 rfl 15 rfl ?_
        refine k_callV_i C ye_X12_mostAlike ve_X12_168 ⟨rfl, rfl⟩ ⟨rfl, rfl⟩ dX12_nextGuess_15 [.int v3] rfl rfl (Nat.le_of_ble_eq_true rfl) (c_X12_mostAlike _ _ _) hf 18 rfl (fun x4 w3 hf => ?_)
        refine k_istore C dX12_nextGuess_18 (by decide) [(4, .int x4), (0, rV (xg X) v0), (1, .int v1), (2, .int v2), (3, .int v3)] rfl 20 rfl ?_
        refine k_iload C dX12_nextGuess_20 0 rfl 22 rfl ?_
        refine k_if_le C dX12_nextGuess_22 hf 35 rfl 25 rfl (fun hf => ?_) (fun hf => ?_)
        · refine k_sub [1, 2, 3, 4, 0] rfl ?_
          exact t_35 _ _ _ _ _ w3 hf
        · refine k_iload C dX12_nextGuess_25 0 rfl 27 rfl ?_
          refine k_iload_n C dX12_nextGuess_27 3 rfl 28 rfl ?_
          refine k_icmp_ge C dX12_nextGuess_28 hf 35 rfl 31 rfl (fun hf => ?_) (fun hf => ?_)
          · refine k_sub [1, 2, 3, 4, 0] rfl ?_
            exact t_35 _ _ _ _ _ w3 hf
          · refine k_iconst C dX12_nextGuess_31 (1) (by decide) 32 rfl ?_
            refine k_goto C dX12_nextGuess_32 36 rfl ?_
            refine k_sub [1, 2, 3, 4, 0] rfl ?_
            exact t_36 _ _ _ _ _ _ w3 hf
  unfold f_X12_nextGuess at hf
  refine k_sub (lv2 := [(0, rV (xg X) p0)]) [0] rfl ?_
  refine k_iconst C dX12_nextGuess_0 (-1) (by decide) 1 rfl ?_
  refine k_istore_n C dX12_nextGuess_1 rfl (by decide) [(1, .int (-1 : Int32)), (0, rV (xg X) p0)] rfl 2 rfl ?_
  refine k_bipush C dX12_nextGuess_2 (99) (by decide) 4 rfl ?_
  refine k_istore_n C dX12_nextGuess_4 rfl (by decide) [(2, .int (99 : Int32)), (1, .int (-1 : Int32)), (0, rV (xg X) p0)] rfl 5 rfl ?_
  refine k_iconst C dX12_nextGuess_5 (0) (by decide) 6 rfl ?_
  refine k_istore_n C dX12_nextGuess_6 rfl (by decide) [(3, .int (0 : Int32)), (2, .int (99 : Int32)), (1, .int (-1 : Int32)), (0, rV (xg X) p0)] rfl 7 rfl ?_
  refine k_sub [3, 2, 1, 0] rfl ?_
  exact t_7 4096 _ _ _ _ w0 hf
