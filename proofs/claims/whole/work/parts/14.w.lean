theorem dX11_then_0 : decode cX11_then 0 = .ok (.iload_n 1, 1) := by decide +kernel
theorem dX11_then_1 : decode cX11_then 1 = .ok (.iconst 0, 1) := by decide +kernel
theorem dX11_then_2 : decode cX11_then 2 = .ok (.bipush 60, 2) := by decide +kernel
theorem dX11_then_4 : decode cX11_then 4 = .ok (.invokestatic 72, 3) := by decide +kernel
theorem dX11_then_7 : decode cX11_then 7 = .ok (.ifCond .eq 12, 3) := by decide +kernel
theorem dX11_then_10 : decode cX11_then 10 = .ok (.iload_n 2, 1) := by decide +kernel
theorem dX11_then_11 : decode cX11_then 11 = .ok (.iconst 0, 1) := by decide +kernel
theorem dX11_then_12 : decode cX11_then 12 = .ok (.iconst 1, 1) := by decide +kernel
theorem dX11_then_13 : decode cX11_then 13 = .ok (.invokestatic 72, 3) := by decide +kernel
theorem dX11_then_16 : decode cX11_then 16 = .ok (.ifCond .ne 10, 3) := by decide +kernel
theorem dX11_then_19 : decode cX11_then 19 = .ok (.aload_n 0, 1) := by decide +kernel
theorem dX11_then_20 : decode cX11_then 20 = .ok (.bipush (-2), 2) := by decide +kernel
theorem dX11_then_22 : decode cX11_then 22 = .ok (.invokevirtual 76, 3) := by decide +kernel
theorem dX11_then_25 : decode cX11_then 25 = .ok (.ireturn, 1) := by decide +kernel
theorem dX11_then_26 : decode cX11_then 26 = .ok (.aload_n 0, 1) := by decide +kernel
theorem dX11_then_27 : decode cX11_then 27 = .ok (.getfield 30, 3) := by decide +kernel
theorem dX11_then_30 : decode cX11_then 30 = .ok (.aload_n 0, 1) := by decide +kernel
theorem dX11_then_31 : decode cX11_then 31 = .ok (.getfield 30, 3) := by decide +kernel
theorem dX11_then_34 : decode cX11_then 34 = .ok (.getfield 122, 3) := by decide +kernel
theorem dX11_then_37 : decode cX11_then 37 = .ok (.iload_n 1, 1) := by decide +kernel
theorem dX11_then_38 : decode cX11_then 38 = .ok (.invokevirtual 177, 3) := by decide +kernel
theorem dX11_then_41 : decode cX11_then 41 = .ok (.istore_n 3, 1) := by decide +kernel
theorem dX11_then_42 : decode cX11_then 42 = .ok (.aload_n 0, 1) := by decide +kernel
theorem dX11_then_43 : decode cX11_then 43 = .ok (.getfield 30, 3) := by decide +kernel
theorem dX11_then_46 : decode cX11_then 46 = .ok (.invokevirtual 180, 3) := by decide +kernel
theorem dX11_then_49 : decode cX11_then 49 = .ok (.istore 4, 2) := by decide +kernel
theorem dX11_then_51 : decode cX11_then 51 = .ok (.iload_n 3, 1) := by decide +kernel
theorem dX11_then_52 : decode cX11_then 52 = .ok (.aload_n 0, 1) := by decide +kernel
theorem dX11_then_53 : decode cX11_then 53 = .ok (.getfield 30, 3) := by decide +kernel
theorem dX11_then_56 : decode cX11_then 56 = .ok (.getfield 183, 3) := by decide +kernel
theorem dX11_then_59 : decode cX11_then 59 = .ok (.iload 4, 2) := by decide +kernel
theorem dX11_then_61 : decode cX11_then 61 = .ok (.isub, 1) := by decide +kernel
theorem dX11_then_62 : decode cX11_then 62 = .ok (.invokestatic 186, 3) := by decide +kernel
theorem dX11_then_65 : decode cX11_then 65 = .ok (.istore 5, 2) := by decide +kernel
theorem dX11_then_67 : decode cX11_then 67 = .ok (.iload_n 2, 1) := by decide +kernel
theorem dX11_then_68 : decode cX11_then 68 = .ok (.ifCond .ne 11, 3) := by decide +kernel
theorem dX11_then_71 : decode cX11_then 71 = .ok (.iload 4, 2) := by decide +kernel
theorem dX11_then_73 : decode cX11_then 73 = .ok (.iload 5, 2) := by decide +kernel
theorem dX11_then_75 : decode cX11_then 75 = .ok (.iadd, 1) := by decide +kernel
theorem dX11_then_76 : decode cX11_then 76 = .ok (.goto 15, 3) := by decide +kernel
theorem dX11_then_79 : decode cX11_then 79 = .ok (.aload_n 0, 1) := by decide +kernel
theorem dX11_then_80 : decode cX11_then 80 = .ok (.getfield 30, 3) := by decide +kernel
theorem dX11_then_83 : decode cX11_then 83 = .ok (.getfield 191, 3) := by decide +kernel
theorem dX11_then_86 : decode cX11_then 86 = .ok (.iload_n 3, 1) := by decide +kernel
theorem dX11_then_87 : decode cX11_then 87 = .ok (.iadd, 1) := by decide +kernel
theorem dX11_then_88 : decode cX11_then 88 = .ok (.iload 5, 2) := by decide +kernel
theorem dX11_then_90 : decode cX11_then 90 = .ok (.isub, 1) := by decide +kernel
theorem dX11_then_91 : decode cX11_then 91 = .ok (.ireturn, 1) := by decide +kernel
set_option maxRecDepth 100000 in
set_option maxHeartbeats 4000000 in
theorem c_X11_then {g : Gv} {l : Launch} (p0 : Nat) (p1 : Int32) (p2 : Int32) (w0 : Wd) (rz : Int32) (wz : Wd) (hf : f_X11_then p0 p1 p2 w0 = some (rz, wz)) : MI g l yX11_then cX11_then 6 .int 6 138 [rV g p0, .int p1, .int p2] w0 rz wz := by
  refine mi_of RX11 (by decide) rfl (Nat.le_of_ble_eq_true rfl) ?_
  intro X hg hll C hr h0
  subst hg; subst hll
  have t_91 : ∀ (s0 : Int32) (w : Wd), f_X11_then_91 s0 w = some (rz, wz) → Wk X 0 0 (QI X w0 rz wz) w [] 91 [.int s0] := by
    intro s0 w hf
    unfold f_X11_then_91 at hf
    exact k_iret C hr h0 dX11_then_91 hf
  have t_19 : ∀ (v0 : Nat) (w : Wd), f_X11_then_19 v0 w = some (rz, wz) → Wk X 0 0 (QI X w0 rz wz) w [(0, rV (xg X) v0)] 19 [] := by
    intro v0 w hf
    unfold f_X11_then_19 at hf
    refine k_aload_n C dX11_then_19 0 rfl rfl 20 rfl ?_
    refine k_bipush C dX11_then_20 (-2) (by decide) 22 rfl ?_
    refine k_callV_i C ye_X11_refuse ve_X11_76 ⟨rfl, rfl⟩ ⟨rfl, rfl⟩ dX11_then_22 [.int (-2 : Int32)] rfl rfl (Nat.le_of_ble_eq_true rfl) (c_X11_refuse _ _ _) hf 25 rfl (fun x21 w20 hf => ?_)
    exact k_iret C hr h0 dX11_then_25 hf
  unfold f_X11_then at hf
  refine k_sub (lv2 := [(0, rV (xg X) p0), (1, .int p1), (2, .int p2)]) [0, 1, 2] rfl ?_
  refine k_iload_n C dX11_then_0 1 rfl 1 rfl ?_
  refine k_iconst C dX11_then_1 (0) (by decide) 2 rfl ?_
  refine k_bipush C dX11_then_2 (60) (by decide) 4 rfl ?_
  refine k_callS_i C ye_X11_within se_X11_72 ⟨rfl, rfl⟩ ⟨rfl, rfl⟩ dX11_then_4 [.int p1, .int (0 : Int32), .int (60 : Int32)] rfl rfl (Nat.le_of_ble_eq_true rfl) (c_X11_within _ _ _ _) hf 7 rfl (fun x23 w22 hf => ?_)
  refine k_if_eq C dX11_then_7 hf 19 rfl 10 rfl (fun hf => ?_) (fun hf => ?_)
  · refine k_sub [0] rfl ?_
    exact t_19 _ w22 hf
  · refine k_iload_n C dX11_then_10 2 rfl 11 rfl ?_
    refine k_iconst C dX11_then_11 (0) (by decide) 12 rfl ?_
    refine k_iconst C dX11_then_12 (1) (by decide) 13 rfl ?_
    refine k_callS_i C ye_X11_within se_X11_72 ⟨rfl, rfl⟩ ⟨rfl, rfl⟩ dX11_then_13 [.int p2, .int (0 : Int32), .int (1 : Int32)] rfl rfl (Nat.le_of_ble_eq_true rfl) (c_X11_within _ _ _ _) hf 16 rfl (fun x25 w24 hf => ?_)
    refine k_if_ne C dX11_then_16 hf 26 rfl 19 rfl (fun hf => ?_) (fun hf => ?_)
    · refine k_aload_n C dX11_then_26 0 rfl rfl 27 rfl ?_
      refine k_getR C fe_X11_30 rfl dX11_then_27 hf 30 rfl (fun r26 hf => ?_)
      refine k_aload_n C dX11_then_30 0 rfl rfl 31 rfl ?_
      refine k_getR C fe_X11_30 rfl dX11_then_31 hf 34 rfl (fun r27 hf => ?_)
      refine k_getI C fe_X11_122 rfl dX11_then_34 hf 37 rfl (fun x28 hf => ?_)
      refine k_iload_n C dX11_then_37 1 rfl 38 rfl ?_
      refine k_callV_i C ye_X2_groundWithin ve_X11_177 ⟨rfl, rfl⟩ ⟨rfl, rfl⟩ dX11_then_38 [.int x28, .int p1] rfl rfl (Nat.le_of_ble_eq_true rfl) (c_X2_groundWithin _ _ _ _) hf 41 rfl (fun x30 w29 hf => ?_)
      refine k_istore_n C dX11_then_41 rfl (by decide) [(3, .int x30), (0, rV (xg X) p0), (1, .int p1), (2, .int p2)] rfl 42 rfl ?_
      refine k_aload_n C dX11_then_42 1 rfl rfl 43 rfl ?_
      refine k_getR C fe_X11_30 rfl dX11_then_43 hf 46 rfl (fun r31 hf => ?_)
      refine k_callV_i C ye_X2_allBushels ve_X11_180 ⟨rfl, rfl⟩ ⟨rfl, rfl⟩ dX11_then_46 [] rfl rfl (Nat.le_of_ble_eq_true rfl) (c_X2_allBushels _ _) hf 49 rfl (fun x33 w32 hf => ?_)
      refine k_istore C dX11_then_49 (by decide) [(4, .int x33), (3, .int x30), (0, rV (xg X) p0), (1, .int p1), (2, .int p2)] rfl 51 rfl ?_
      refine k_iload_n C dX11_then_51 1 rfl 52 rfl ?_
      refine k_aload_n C dX11_then_52 2 rfl rfl 53 rfl ?_
      refine k_getR C fe_X11_30 rfl dX11_then_53 hf 56 rfl (fun r34 hf => ?_)
      refine k_getI C fe_X11_183 rfl dX11_then_56 hf 59 rfl (fun x35 hf => ?_)
      refine k_iload C dX11_then_59 0 rfl 61 rfl ?_
      refine k_isub C dX11_then_61 62 rfl ?_
      refine k_mmin C mm_X11_186 mms_mmin mmi mmc_mmin (Nat.le_of_ble_eq_true rfl) (Nat.le_of_ble_eq_true rfl) ⟨rfl, rfl⟩ dX11_then_62 65 rfl ?_
      refine k_nmi hf (fun x36 hf => ?_)
      refine k_istore C dX11_then_65 (by decide) [(5, .int x36), (4, .int x33), (3, .int x30), (0, rV (xg X) p0), (1, .int p1), (2, .int p2)] rfl 67 rfl ?_
      refine k_iload_n C dX11_then_67 5 rfl 68 rfl ?_
      refine k_if_ne C dX11_then_68 hf 79 rfl 71 rfl (fun hf => ?_) (fun hf => ?_)
      · refine k_aload_n C dX11_then_79 3 rfl rfl 80 rfl ?_
        refine k_getR C fe_X11_30 rfl dX11_then_80 hf 83 rfl (fun r37 hf => ?_)
        refine k_getI C fe_X11_191 rfl dX11_then_83 hf 86 rfl (fun x38 hf => ?_)
        refine k_iload_n C dX11_then_86 2 rfl 87 rfl ?_
        refine k_iadd C dX11_then_87 88 rfl ?_
        refine k_iload C dX11_then_88 0 rfl 90 rfl ?_
        refine k_isub C dX11_then_90 91 rfl ?_
        refine k_sub [] rfl ?_
        exact t_91 _ w32 hf
      · refine k_iload C dX11_then_71 1 rfl 73 rfl ?_
        refine k_iload C dX11_then_73 0 rfl 75 rfl ?_
        refine k_iadd C dX11_then_75 76 rfl ?_
        refine k_goto C dX11_then_76 91 rfl ?_
        refine k_sub [] rfl ?_
        exact t_91 _ w32 hf
    · refine k_sub [0] rfl ?_
      exact t_19 _ w24 hf
theorem dX11_thieves_0 : decode cX11_thieves 0 = .ok (.aload_n 0, 1) := by decide +kernel
theorem dX11_thieves_1 : decode cX11_thieves 1 = .ok (.getfield 30, 3) := by decide +kernel
theorem dX11_thieves_4 : decode cX11_thieves 4 = .ok (.iload_n 1, 1) := by decide +kernel
theorem dX11_thieves_5 : decode cX11_thieves 5 = .ok (.invokevirtual 112, 3) := by decide +kernel
theorem dX11_thieves_8 : decode cX11_thieves 8 = .ok (.ifCond .eq 23, 3) := by decide +kernel
theorem dX11_thieves_11 : decode cX11_thieves 11 = .ok (.iload_n 2, 1) := by decide +kernel
theorem dX11_thieves_12 : decode cX11_thieves 12 = .ok (.iconst 0, 1) := by decide +kernel
theorem dX11_thieves_13 : decode cX11_thieves 13 = .ok (.bipush 9, 2) := by decide +kernel
theorem dX11_thieves_15 : decode cX11_thieves 15 = .ok (.invokestatic 72, 3) := by decide +kernel
theorem dX11_thieves_18 : decode cX11_thieves 18 = .ok (.ifCond .eq 13, 3) := by decide +kernel
theorem dX11_thieves_21 : decode cX11_thieves 21 = .ok (.iload_n 3, 1) := by decide +kernel
theorem dX11_thieves_22 : decode cX11_thieves 22 = .ok (.iconst 0, 1) := by decide +kernel
theorem dX11_thieves_23 : decode cX11_thieves 23 = .ok (.bipush 10, 2) := by decide +kernel
theorem dX11_thieves_25 : decode cX11_thieves 25 = .ok (.invokestatic 72, 3) := by decide +kernel
theorem dX11_thieves_28 : decode cX11_thieves 28 = .ok (.ifCond .ne 10, 3) := by decide +kernel
theorem dX11_thieves_31 : decode cX11_thieves 31 = .ok (.aload_n 0, 1) := by decide +kernel
theorem dX11_thieves_32 : decode cX11_thieves 32 = .ok (.bipush (-2), 2) := by decide +kernel
theorem dX11_thieves_34 : decode cX11_thieves 34 = .ok (.invokevirtual 76, 3) := by decide +kernel
theorem dX11_thieves_37 : decode cX11_thieves 37 = .ok (.ireturn, 1) := by decide +kernel
theorem dX11_thieves_38 : decode cX11_thieves 38 = .ok (.lconst 0, 1) := by decide +kernel
theorem dX11_thieves_39 : decode cX11_thieves 39 = .ok (.lstore 4, 2) := by decide +kernel
theorem dX11_thieves_41 : decode cX11_thieves 41 = .ok (.lconst 1, 1) := by decide +kernel
theorem dX11_thieves_42 : decode cX11_thieves 42 = .ok (.lstore 6, 2) := by decide +kernel
theorem dX11_thieves_44 : decode cX11_thieves 44 = .ok (.lconst 1, 1) := by decide +kernel
theorem dX11_thieves_45 : decode cX11_thieves 45 = .ok (.lstore 8, 2) := by decide +kernel
theorem dX11_thieves_47 : decode cX11_thieves 47 = .ok (.iconst 0, 1) := by decide +kernel
theorem dX11_thieves_48 : decode cX11_thieves 48 = .ok (.istore 10, 2) := by decide +kernel
theorem dX11_thieves_50 : decode cX11_thieves 50 = .ok (.iload 10, 2) := by decide +kernel
theorem dX11_thieves_52 : decode cX11_thieves 52 = .ok (.iload_n 2, 1) := by decide +kernel
theorem dX11_thieves_53 : decode cX11_thieves 53 = .ok (.if_icmp .ge 58, 3) := by decide +kernel
theorem dX11_thieves_56 : decode cX11_thieves 56 = .ok (.lload 6, 2) := by decide +kernel
theorem dX11_thieves_58 : decode cX11_thieves 58 = .ok (.bipush 10, 2) := by decide +kernel
theorem dX11_thieves_60 : decode cX11_thieves 60 = .ok (.iload_n 3, 1) := by decide +kernel
theorem dX11_thieves_61 : decode cX11_thieves 61 = .ok (.isub, 1) := by decide +kernel
theorem dX11_thieves_62 : decode cX11_thieves 62 = .ok (.i2l, 1) := by decide +kernel
theorem dX11_thieves_63 : decode cX11_thieves 63 = .ok (.lmul, 1) := by decide +kernel
theorem dX11_thieves_64 : decode cX11_thieves 64 = .ok (.lstore 6, 2) := by decide +kernel
theorem dX11_thieves_66 : decode cX11_thieves 66 = .ok (.lload 8, 2) := by decide +kernel
theorem dX11_thieves_68 : decode cX11_thieves 68 = .ok (.ldc2_w 254, 3) := by decide +kernel
theorem dX11_thieves_71 : decode cX11_thieves 71 = .ok (.lmul, 1) := by decide +kernel
theorem dX11_thieves_72 : decode cX11_thieves 72 = .ok (.lstore 8, 2) := by decide +kernel
theorem dX11_thieves_74 : decode cX11_thieves 74 = .ok (.lload 4, 2) := by decide +kernel
theorem dX11_thieves_76 : decode cX11_thieves 76 = .ok (.ldc2_w 254, 3) := by decide +kernel
theorem dX11_thieves_79 : decode cX11_thieves 79 = .ok (.lmul, 1) := by decide +kernel
theorem dX11_thieves_80 : decode cX11_thieves 80 = .ok (.lload 6, 2) := by decide +kernel
theorem dX11_thieves_82 : decode cX11_thieves 82 = .ok (.aload_n 0, 1) := by decide +kernel
theorem dX11_thieves_83 : decode cX11_thieves 83 = .ok (.getfield 30, 3) := by decide +kernel
theorem dX11_thieves_86 : decode cX11_thieves 86 = .ok (.iload_n 1, 1) := by decide +kernel
theorem dX11_thieves_87 : decode cX11_thieves 87 = .ok (.aload_n 0, 1) := by decide +kernel
theorem dX11_thieves_88 : decode cX11_thieves 88 = .ok (.getfield 30, 3) := by decide +kernel
theorem dX11_thieves_91 : decode cX11_thieves 91 = .ok (.getfield 156, 3) := by decide +kernel
theorem dX11_thieves_94 : decode cX11_thieves 94 = .ok (.iload 10, 2) := by decide +kernel
theorem dX11_thieves_96 : decode cX11_thieves 96 = .ok (.iadd, 1) := by decide +kernel
theorem dX11_thieves_97 : decode cX11_thieves 97 = .ok (.invokevirtual 194, 3) := by decide +kernel
theorem dX11_thieves_100 : decode cX11_thieves 100 = .ok (.i2l, 1) := by decide +kernel
theorem dX11_thieves_101 : decode cX11_thieves 101 = .ok (.lmul, 1) := by decide +kernel
theorem dX11_thieves_102 : decode cX11_thieves 102 = .ok (.ladd, 1) := by decide +kernel
theorem dX11_thieves_103 : decode cX11_thieves 103 = .ok (.lstore 4, 2) := by decide +kernel
theorem dX11_thieves_105 : decode cX11_thieves 105 = .ok (.iinc 10 1, 3) := by decide +kernel
theorem dX11_thieves_108 : decode cX11_thieves 108 = .ok (.goto (-58), 3) := by decide +kernel
theorem dX11_thieves_111 : decode cX11_thieves 111 = .ok (.lconst 1, 1) := by decide +kernel
theorem dX11_thieves_112 : decode cX11_thieves 112 = .ok (.lload 4, 2) := by decide +kernel
theorem dX11_thieves_114 : decode cX11_thieves 114 = .ok (.lload 8, 2) := by decide +kernel
theorem dX11_thieves_116 : decode cX11_thieves 116 = .ok (.invokestatic 256, 3) := by decide +kernel
theorem dX11_thieves_119 : decode cX11_thieves 119 = .ok (.invokestatic 260, 3) := by decide +kernel
theorem dX11_thieves_122 : decode cX11_thieves 122 = .ok (.lstore 10, 2) := by decide +kernel
theorem dX11_thieves_124 : decode cX11_thieves 124 = .ok (.aload_n 0, 1) := by decide +kernel
theorem dX11_thieves_125 : decode cX11_thieves 125 = .ok (.lload 4, 2) := by decide +kernel
theorem dX11_thieves_127 : decode cX11_thieves 127 = .ok (.lload 10, 2) := by decide +kernel
theorem dX11_thieves_129 : decode cX11_thieves 129 = .ok (.ldiv, 1) := by decide +kernel
theorem dX11_thieves_130 : decode cX11_thieves 130 = .ok (.putfield 65, 3) := by decide +kernel
theorem dX11_thieves_133 : decode cX11_thieves 133 = .ok (.aload_n 0, 1) := by decide +kernel
theorem dX11_thieves_134 : decode cX11_thieves 134 = .ok (.lload 8, 2) := by decide +kernel
theorem dX11_thieves_136 : decode cX11_thieves 136 = .ok (.lload 10, 2) := by decide +kernel
theorem dX11_thieves_138 : decode cX11_thieves 138 = .ok (.ldiv, 1) := by decide +kernel
theorem dX11_thieves_139 : decode cX11_thieves 139 = .ok (.putfield 69, 3) := by decide +kernel
theorem dX11_thieves_142 : decode cX11_thieves 142 = .ok (.iconst 1, 1) := by decide +kernel
theorem dX11_thieves_143 : decode cX11_thieves 143 = .ok (.ireturn, 1) := by decide +kernel
set_option maxRecDepth 100000 in
set_option maxHeartbeats 4000000 in
theorem c_X11_thieves {g : Gv} {l : Launch} (p0 : Nat) (p1 : Int32) (p2 : Int32) (p3 : Int32) (w0 : Wd) (rz : Int32) (wz : Wd) (hf : f_X11_thieves p0 p1 p2 p3 w0 = some (rz, wz)) : MI g l yX11_thieves cX11_thieves 12 .int 5 114 [rV g p0, .int p1, .int p2, .int p3] w0 rz wz := by
  refine mi_of RX11 (by decide) rfl (Nat.le_of_ble_eq_true rfl) ?_
  intro X hg hll C hr h0
  subst hg; subst hll
  have t_50 : ∀ (n : Nat) (v0 : Nat) (v1 : Int32) (v2 : Int32) (v3 : Int32) (v4 : Int64) (v6 : Int64) (v8 : Int64) (v10 : Int32) (w : Wd), f_X11_thieves_50 n v0 v1 v2 v3 v4 v6 v8 v10 w = some (rz, wz) → Wk X 0 0 (QI X w0 rz wz) w [(0, rV (xg X) v0), (1, .int v1), (2, .int v2), (3, .int v3), (4, .long v4), (6, .long v6), (8, .long v8), (10, .int v10)] 50 [] := by
    intro n
    induction n with
    | zero => intro v0 v1 v2 v3 v4 v6 v8 v10 w hf; rw [f_X11_thieves_50] at hf; cases hf
    | succ n50 ih50 =>
      intro v0 v1 v2 v3 v4 v6 v8 v10 w hf
      rw [f_X11_thieves_50] at hf
      refine k_iload C dX11_thieves_50 7 rfl 52 rfl ?_
      refine k_iload_n C dX11_thieves_52 2 rfl 53 rfl ?_
      refine k_icmp_ge C dX11_thieves_53 hf 111 rfl 56 rfl (fun hf => ?_) (fun hf => ?_)
      · refine k_lconst C dX11_thieves_111 (1) (by decide) 112 rfl ?_
        refine k_lload C dX11_thieves_112 4 rfl 114 rfl ?_
        refine k_lload C dX11_thieves_114 6 rfl 116 rfl ?_
        refine k_callS_l C ye_X11_greatestDivisor se_X11_256 ⟨rfl, rfl⟩ ⟨rfl, rfl⟩ dX11_thieves_116 [.long v4, .long v8] rfl rfl (Nat.le_of_ble_eq_true rfl) (c_X11_greatestDivisor _ _ _) hf 119 rfl (fun x24 w23 hf => ?_)
        refine k_mmax_long C mm_X11_260 mms_mmax_long mmi mmc_mmax_long (Nat.le_of_ble_eq_true rfl) (Nat.le_of_ble_eq_true rfl) ⟨rfl, rfl⟩ dX11_thieves_119 122 rfl ?_
        refine k_nml hf (fun x25 hf => ?_)
        refine k_lstore C dX11_thieves_122 (by decide) [(10, .long x25), (0, rV (xg X) v0), (1, .int v1), (2, .int v2), (3, .int v3), (4, .long v4), (6, .long v6), (8, .long v8)] rfl 124 rfl ?_
        refine k_aload_n C dX11_thieves_124 1 rfl rfl 125 rfl ?_
        refine k_lload C dX11_thieves_125 5 rfl 127 rfl ?_
        refine k_lload C dX11_thieves_127 0 rfl 129 rfl ?_
        obtain ⟨h0129, hf⟩ := nzL_s hf
        refine k_ldiv C dX11_thieves_129 h0129 130 rfl ?_
        refine k_putL C fe_X11_65 rfl rfl dX11_thieves_130 hf 133 rfl (fun w26 _ hf => ?_)
        refine k_aload_n C dX11_thieves_133 1 rfl rfl 134 rfl ?_
        refine k_lload C dX11_thieves_134 7 rfl 136 rfl ?_
        refine k_lload C dX11_thieves_136 0 rfl 138 rfl ?_
        obtain ⟨h0138, hf⟩ := nzL_s hf
        refine k_ldiv C dX11_thieves_138 h0138 139 rfl ?_
        refine k_putL C fe_X11_69 rfl rfl dX11_thieves_139 hf 142 rfl (fun w27 _ hf => ?_)
        refine k_iconst C dX11_thieves_142 (1) (by decide) 143 rfl ?_
        exact k_iret C hr h0 dX11_thieves_143 hf
      · refine k_lload C dX11_thieves_56 5 rfl 58 rfl ?_
        refine k_bipush C dX11_thieves_58 (10) (by decide) 60 rfl ?_
        refine k_iload_n C dX11_thieves_60 3 rfl 61 rfl ?_
        refine k_isub C dX11_thieves_61 62 rfl ?_
        refine k_i2l C dX11_thieves_62 63 rfl ?_
        refine k_lmul C dX11_thieves_63 64 rfl ?_
        refine k_nml hf (fun x28 hf => ?_)
        refine k_lstore C dX11_thieves_64 (by decide) [(6, .long x28), (0, rV (xg X) v0), (1, .int v1), (2, .int v2), (3, .int v3), (4, .long v4), (8, .long v8), (10, .int v10)] rfl 66 rfl ?_
        refine k_lload C dX11_thieves_66 6 rfl 68 rfl ?_
        refine k_ldc2 C dX11_thieves_68 mcst_X11_254 71 rfl ?_
        refine k_lmul C dX11_thieves_71 72 rfl ?_
        refine k_nml hf (fun x29 hf => ?_)
        refine k_lstore C dX11_thieves_72 (by decide) [(8, .long x29), (6, .long x28), (0, rV (xg X) v0), (1, .int v1), (2, .int v2), (3, .int v3), (4, .long v4), (10, .int v10)] rfl 74 rfl ?_
        refine k_lload C dX11_thieves_74 6 rfl 76 rfl ?_
        refine k_ldc2 C dX11_thieves_76 mcst_X11_254 79 rfl ?_
        refine k_lmul C dX11_thieves_79 80 rfl ?_
        refine k_lload C dX11_thieves_80 1 rfl 82 rfl ?_
        refine k_aload_n C dX11_thieves_82 2 rfl rfl 83 rfl ?_
        refine k_getR C fe_X11_30 rfl dX11_thieves_83 hf 86 rfl (fun r30 hf => ?_)
        refine k_iload_n C dX11_thieves_86 3 rfl 87 rfl ?_
        refine k_aload_n C dX11_thieves_87 2 rfl rfl 88 rfl ?_
        refine k_getR C fe_X11_30 rfl dX11_thieves_88 hf 91 rfl (fun r31 hf => ?_)
        refine k_getI C fe_X11_156 rfl dX11_thieves_91 hf 94 rfl (fun x32 hf => ?_)
        refine k_iload C dX11_thieves_94 7 rfl 96 rfl ?_
        refine k_iadd C dX11_thieves_96 97 rfl ?_
        refine k_callV_i C ye_X2_groundBy ve_X11_194 ⟨rfl, rfl⟩ ⟨rfl, rfl⟩ dX11_thieves_97 [.int v1, .int (x32 + v10)] rfl rfl (Nat.le_of_ble_eq_true rfl) (c_X2_groundBy _ _ _ _) hf 100 rfl (fun x34 w33 hf => ?_)
        refine k_i2l C dX11_thieves_100 101 rfl ?_
        refine k_lmul C dX11_thieves_101 102 rfl ?_
        refine k_ladd C dX11_thieves_102 103 rfl ?_
        refine k_nml hf (fun x35 hf => ?_)
        refine k_lstore C dX11_thieves_103 (by decide) [(4, .long x35), (8, .long x29), (6, .long x28), (0, rV (xg X) v0), (1, .int v1), (2, .int v2), (3, .int v3), (10, .int v10)] rfl 105 rfl ?_
        refine k_iinc C dX11_thieves_105 7 rfl (by decide) (by decide) [(10, .int (v10 + (1 : Int32))), (4, .long x35), (8, .long x29), (6, .long x28), (0, rV (xg X) v0), (1, .int v1), (2, .int v2), (3, .int v3)] rfl 108 rfl ?_
        refine k_goto C dX11_thieves_108 50 rfl ?_
        refine k_sub [4, 5, 6, 7, 1, 3, 2, 0] rfl ?_
        exact ih50 _ _ _ _ _ _ _ _ w33 hf
  have t_31 : ∀ (v0 : Nat) (w : Wd), f_X11_thieves_31 v0 w = some (rz, wz) → Wk X 0 0 (QI X w0 rz wz) w [(0, rV (xg X) v0)] 31 [] := by
    intro v0 w hf
    unfold f_X11_thieves_31 at hf
    refine k_aload_n C dX11_thieves_31 0 rfl rfl 32 rfl ?_
    refine k_bipush C dX11_thieves_32 (-2) (by decide) 34 rfl ?_
    refine k_callV_i C ye_X11_refuse ve_X11_76 ⟨rfl, rfl⟩ ⟨rfl, rfl⟩ dX11_thieves_34 [.int (-2 : Int32)] rfl rfl (Nat.le_of_ble_eq_true rfl) (c_X11_refuse _ _ _) hf 37 rfl (fun x37 w36 hf => ?_)
    exact k_iret C hr h0 dX11_thieves_37 hf
  unfold f_X11_thieves at hf
  refine k_sub (lv2 := [(0, rV (xg X) p0), (1, .int p1), (2, .int p2), (3, .int p3)]) [0, 1, 2, 3] rfl ?_
  refine k_aload_n C dX11_thieves_0 0 rfl rfl 1 rfl ?_
  refine k_getR C fe_X11_30 rfl dX11_thieves_1 hf 4 rfl (fun r38 hf => ?_)
  refine k_iload_n C dX11_thieves_4 1 rfl 5 rfl ?_
  refine k_callV_i C ye_X2_has ve_X11_112 ⟨rfl, rfl⟩ ⟨rfl, rfl⟩ dX11_thieves_5 [.int p1] rfl rfl (Nat.le_of_ble_eq_true rfl) (c_X2_has _ _ _) hf 8 rfl (fun x40 w39 hf => ?_)
  refine k_if_eq C dX11_thieves_8 hf 31 rfl 11 rfl (fun hf => ?_) (fun hf => ?_)
  · refine k_sub [0] rfl ?_
    exact t_31 _ w39 hf
  · refine k_iload_n C dX11_thieves_11 2 rfl 12 rfl ?_
    refine k_iconst C dX11_thieves_12 (0) (by decide) 13 rfl ?_
    refine k_bipush C dX11_thieves_13 (9) (by decide) 15 rfl ?_
    refine k_callS_i C ye_X11_within se_X11_72 ⟨rfl, rfl⟩ ⟨rfl, rfl⟩ dX11_thieves_15 [.int p2, .int (0 : Int32), .int (9 : Int32)] rfl rfl (Nat.le_of_ble_eq_true rfl) (c_X11_within _ _ _ _) hf 18 rfl (fun x42 w41 hf => ?_)
    refine k_if_eq C dX11_thieves_18 hf 31 rfl 21 rfl (fun hf => ?_) (fun hf => ?_)
    · refine k_sub [0] rfl ?_
      exact t_31 _ w41 hf
    · refine k_iload_n C dX11_thieves_21 3 rfl 22 rfl ?_
      refine k_iconst C dX11_thieves_22 (0) (by decide) 23 rfl ?_
      refine k_bipush C dX11_thieves_23 (10) (by decide) 25 rfl ?_
      refine k_callS_i C ye_X11_within se_X11_72 ⟨rfl, rfl⟩ ⟨rfl, rfl⟩ dX11_thieves_25 [.int p3, .int (0 : Int32), .int (10 : Int32)] rfl rfl (Nat.le_of_ble_eq_true rfl) (c_X11_within _ _ _ _) hf 28 rfl (fun x44 w43 hf => ?_)
      refine k_if_ne C dX11_thieves_28 hf 38 rfl 31 rfl (fun hf => ?_) (fun hf => ?_)
      · refine k_lconst C dX11_thieves_38 (0) (by decide) 39 rfl ?_
        refine k_lstore C dX11_thieves_39 (by decide) [(4, .long (0 : Int64)), (0, rV (xg X) p0), (1, .int p1), (2, .int p2), (3, .int p3)] rfl 41 rfl ?_
        refine k_lconst C dX11_thieves_41 (1) (by decide) 42 rfl ?_
        refine k_lstore C dX11_thieves_42 (by decide) [(6, .long (1 : Int64)), (4, .long (0 : Int64)), (0, rV (xg X) p0), (1, .int p1), (2, .int p2), (3, .int p3)] rfl 44 rfl ?_
        refine k_lconst C dX11_thieves_44 (1) (by decide) 45 rfl ?_
        refine k_lstore C dX11_thieves_45 (by decide) [(8, .long (1 : Int64)), (6, .long (1 : Int64)), (4, .long (0 : Int64)), (0, rV (xg X) p0), (1, .int p1), (2, .int p2), (3, .int p3)] rfl 47 rfl ?_
        refine k_iconst C dX11_thieves_47 (0) (by decide) 48 rfl ?_
        refine k_istore C dX11_thieves_48 (by decide) [(10, .int (0 : Int32)), (8, .long (1 : Int64)), (6, .long (1 : Int64)), (4, .long (0 : Int64)), (0, rV (xg X) p0), (1, .int p1), (2, .int p2), (3, .int p3)] rfl 50 rfl ?_
        refine k_sub [4, 5, 6, 7, 3, 2, 1, 0] rfl ?_
        exact t_50 4096 _ _ _ _ _ _ _ _ w43 hf
      · refine k_sub [0] rfl ?_
        exact t_31 _ w43 hf
theorem dX11_type_0 : decode cX11_type 0 = .ok (.iload_n 1, 1) := by decide +kernel
theorem dX11_type_1 : decode cX11_type 1 = .ok (.iconst 0, 1) := by decide +kernel
theorem dX11_type_2 : decode cX11_type 2 = .ok (.bipush 127, 2) := by decide +kernel
theorem dX11_type_4 : decode cX11_type 4 = .ok (.invokestatic 72, 3) := by decide +kernel
theorem dX11_type_7 : decode cX11_type 7 = .ok (.ifCond .ne 10, 3) := by decide +kernel
theorem dX11_type_10 : decode cX11_type 10 = .ok (.aload_n 0, 1) := by decide +kernel
theorem dX11_type_11 : decode cX11_type 11 = .ok (.bipush (-2), 2) := by decide +kernel
theorem dX11_type_13 : decode cX11_type 13 = .ok (.invokevirtual 76, 3) := by decide +kernel
theorem dX11_type_16 : decode cX11_type 16 = .ok (.ireturn, 1) := by decide +kernel
theorem dX11_type_17 : decode cX11_type 17 = .ok (.aload_n 0, 1) := by decide +kernel
theorem dX11_type_18 : decode cX11_type 18 = .ok (.getfield 50, 3) := by decide +kernel
theorem dX11_type_21 : decode cX11_type 21 = .ok (.getfield 99, 3) := by decide +kernel
theorem dX11_type_24 : decode cX11_type 24 = .ok (.sipush 150, 3) := by decide +kernel
theorem dX11_type_27 : decode cX11_type 27 = .ok (.if_icmp .lt 10, 3) := by decide +kernel
theorem dX11_type_30 : decode cX11_type 30 = .ok (.aload_n 0, 1) := by decide +kernel
theorem dX11_type_31 : decode cX11_type 31 = .ok (.bipush (-4), 2) := by decide +kernel
theorem dX11_type_33 : decode cX11_type 33 = .ok (.invokevirtual 76, 3) := by decide +kernel
theorem dX11_type_36 : decode cX11_type 36 = .ok (.ireturn, 1) := by decide +kernel
theorem dX11_type_37 : decode cX11_type 37 = .ok (.aload_n 0, 1) := by decide +kernel
theorem dX11_type_38 : decode cX11_type 38 = .ok (.getfield 50, 3) := by decide +kernel
theorem dX11_type_41 : decode cX11_type 41 = .ok (.iload_n 1, 1) := by decide +kernel
theorem dX11_type_42 : decode cX11_type 42 = .ok (.invokevirtual 102, 3) := by decide +kernel
theorem dX11_type_45 : decode cX11_type 45 = .ok (.aload_n 0, 1) := by decide +kernel
theorem dX11_type_46 : decode cX11_type 46 = .ok (.getfield 50, 3) := by decide +kernel
theorem dX11_type_49 : decode cX11_type 49 = .ok (.getfield 99, 3) := by decide +kernel
theorem dX11_type_52 : decode cX11_type 52 = .ok (.ireturn, 1) := by decide +kernel
set_option maxRecDepth 100000 in
set_option maxHeartbeats 4000000 in
theorem c_X11_type {g : Gv} {l : Launch} (p0 : Nat) (p1 : Int32) (w0 : Wd) (rz : Int32) (wz : Wd) (hf : f_X11_type p0 p1 w0 = some (rz, wz)) : MI g l yX11_type cX11_type 2 .int 2 44 [rV g p0, .int p1] w0 rz wz := by
  refine mi_of RX11 (by decide) rfl (Nat.le_of_ble_eq_true rfl) ?_
  intro X hg hll C hr h0
  subst hg; subst hll
  unfold f_X11_type at hf
  refine k_sub (lv2 := [(0, rV (xg X) p0), (1, .int p1)]) [0, 1] rfl ?_
  refine k_iload_n C dX11_type_0 1 rfl 1 rfl ?_
  refine k_iconst C dX11_type_1 (0) (by decide) 2 rfl ?_
  refine k_bipush C dX11_type_2 (127) (by decide) 4 rfl ?_
  refine k_callS_i C ye_X11_within se_X11_72 ⟨rfl, rfl⟩ ⟨rfl, rfl⟩ dX11_type_4 [.int p1, .int (0 : Int32), .int (127 : Int32)] rfl rfl (Nat.le_of_ble_eq_true rfl) (c_X11_within _ _ _ _) hf 7 rfl (fun x15 w14 hf => ?_)
  refine k_if_ne C dX11_type_7 hf 17 rfl 10 rfl (fun hf => ?_) (fun hf => ?_)
  · refine k_aload_n C dX11_type_17 0 rfl rfl 18 rfl ?_
    refine k_getR C fe_X11_50 rfl dX11_type_18 hf 21 rfl (fun r16 hf => ?_)
    refine k_getI C fe_X11_99 rfl dX11_type_21 hf 24 rfl (fun x17 hf => ?_)
    refine k_sipush C dX11_type_24 (150) (by decide) 27 rfl ?_
    refine k_icmp_lt C dX11_type_27 hf 37 rfl 30 rfl (fun hf => ?_) (fun hf => ?_)
    · refine k_aload_n C dX11_type_37 0 rfl rfl 38 rfl ?_
      refine k_getR C fe_X11_50 rfl dX11_type_38 hf 41 rfl (fun r18 hf => ?_)
      refine k_iload_n C dX11_type_41 1 rfl 42 rfl ?_
      refine k_callV_v C ye_X10_append ve_X11_102 ⟨rfl, rfl⟩ ⟨rfl, rfl⟩ dX11_type_42 [.int p1] rfl rfl (Nat.le_of_ble_eq_true rfl) (c_X10_append _ _ _) hf 45 rfl (fun w19 hf => ?_)
      refine k_aload_n C dX11_type_45 0 rfl rfl 46 rfl ?_
      refine k_getR C fe_X11_50 rfl dX11_type_46 hf 49 rfl (fun r21 hf => ?_)
      refine k_getI C fe_X11_99 rfl dX11_type_49 hf 52 rfl (fun x22 hf => ?_)
      exact k_iret C hr h0 dX11_type_52 hf
    · refine k_aload_n C dX11_type_30 0 rfl rfl 31 rfl ?_
      refine k_bipush C dX11_type_31 (-4) (by decide) 33 rfl ?_
      refine k_callV_i C ye_X11_refuse ve_X11_76 ⟨rfl, rfl⟩ ⟨rfl, rfl⟩ dX11_type_33 [.int (-4 : Int32)] rfl rfl (Nat.le_of_ble_eq_true rfl) (c_X11_refuse _ _ _) hf 36 rfl (fun x24 w23 hf => ?_)
      exact k_iret C hr h0 dX11_type_36 hf
  · refine k_aload_n C dX11_type_10 0 rfl rfl 11 rfl ?_
    refine k_bipush C dX11_type_11 (-2) (by decide) 13 rfl ?_
    refine k_callV_i C ye_X11_refuse ve_X11_76 ⟨rfl, rfl⟩ ⟨rfl, rfl⟩ dX11_type_13 [.int (-2 : Int32)] rfl rfl (Nat.le_of_ble_eq_true rfl) (c_X11_refuse _ _ _) hf 16 rfl (fun x26 w25 hf => ?_)
    exact k_iret C hr h0 dX11_type_16 hf
theorem dX11_undo_0 : decode cX11_undo 0 = .ok (.aload_n 0, 1) := by decide +kernel
theorem dX11_undo_1 : decode cX11_undo 1 = .ok (.getfield 30, 3) := by decide +kernel
theorem dX11_undo_4 : decode cX11_undo 4 = .ok (.getfield 150, 3) := by decide +kernel
theorem dX11_undo_7 : decode cX11_undo 7 = .ok (.ifCond .gt 10, 3) := by decide +kernel
theorem dX11_undo_10 : decode cX11_undo 10 = .ok (.aload_n 0, 1) := by decide +kernel
theorem dX11_undo_11 : decode cX11_undo 11 = .ok (.bipush (-3), 2) := by decide +kernel
theorem dX11_undo_13 : decode cX11_undo 13 = .ok (.invokevirtual 76, 3) := by decide +kernel
theorem dX11_undo_16 : decode cX11_undo 16 = .ok (.ireturn, 1) := by decide +kernel
theorem dX11_undo_17 : decode cX11_undo 17 = .ok (.aload_n 0, 1) := by decide +kernel
theorem dX11_undo_18 : decode cX11_undo 18 = .ok (.getfield 30, 3) := by decide +kernel
theorem dX11_undo_21 : decode cX11_undo 21 = .ok (.invokevirtual 153, 3) := by decide +kernel
theorem dX11_undo_24 : decode cX11_undo 24 = .ok (.aload_n 0, 1) := by decide +kernel
theorem dX11_undo_25 : decode cX11_undo 25 = .ok (.getfield 30, 3) := by decide +kernel
theorem dX11_undo_28 : decode cX11_undo 28 = .ok (.getfield 156, 3) := by decide +kernel
theorem dX11_undo_31 : decode cX11_undo 31 = .ok (.ireturn, 1) := by decide +kernel
set_option maxRecDepth 100000 in
set_option maxHeartbeats 4000000 in
theorem c_X11_undo {g : Gv} {l : Launch} (p0 : Nat) (w0 : Wd) (rz : Int32) (wz : Wd) (hf : f_X11_undo p0 w0 = some (rz, wz)) : MI g l yX11_undo cX11_undo 1 .int 2 44 [rV g p0] w0 rz wz := by
  refine mi_of RX11 (by decide) rfl (Nat.le_of_ble_eq_true rfl) ?_
  intro X hg hll C hr h0
  subst hg; subst hll
  unfold f_X11_undo at hf
  refine k_sub (lv2 := [(0, rV (xg X) p0)]) [0] rfl ?_
  refine k_aload_n C dX11_undo_0 0 rfl rfl 1 rfl ?_
  refine k_getR C fe_X11_30 rfl dX11_undo_1 hf 4 rfl (fun r10 hf => ?_)
  refine k_getI C fe_X11_150 rfl dX11_undo_4 hf 7 rfl (fun x11 hf => ?_)
  refine k_if_gt C dX11_undo_7 hf 17 rfl 10 rfl (fun hf => ?_) (fun hf => ?_)
  · refine k_aload_n C dX11_undo_17 0 rfl rfl 18 rfl ?_
    refine k_getR C fe_X11_30 rfl dX11_undo_18 hf 21 rfl (fun r12 hf => ?_)
    refine k_callV_v C ye_X2_goBack ve_X11_153 ⟨rfl, rfl⟩ ⟨rfl, rfl⟩ dX11_undo_21 [] rfl rfl (Nat.le_of_ble_eq_true rfl) (c_X2_goBack _ _) hf 24 rfl (fun w13 hf => ?_)
    refine k_aload_n C dX11_undo_24 0 rfl rfl 25 rfl ?_
    refine k_getR C fe_X11_30 rfl dX11_undo_25 hf 28 rfl (fun r15 hf => ?_)
    refine k_getI C fe_X11_156 rfl dX11_undo_28 hf 31 rfl (fun x16 hf => ?_)
    exact k_iret C hr h0 dX11_undo_31 hf
  · refine k_aload_n C dX11_undo_10 0 rfl rfl 11 rfl ?_
    refine k_bipush C dX11_undo_11 (-3) (by decide) 13 rfl ?_
    refine k_callV_i C ye_X11_refuse ve_X11_76 ⟨rfl, rfl⟩ ⟨rfl, rfl⟩ dX11_undo_13 [.int (-3 : Int32)] rfl rfl (Nat.le_of_ble_eq_true rfl) (c_X11_refuse _ _ _) hf 16 rfl (fun x18 w17 hf => ?_)
    exact k_iret C hr h0 dX11_undo_16 hf
theorem dX11_word_0 : decode cX11_word 0 = .ok (.iload_n 1, 1) := by decide +kernel
theorem dX11_word_1 : decode cX11_word 1 = .ok (.invokestatic 92, 3) := by decide +kernel
theorem dX11_word_4 : decode cX11_word 4 = .ok (.ifCond .ne 10, 3) := by decide +kernel
theorem dX11_word_7 : decode cX11_word 7 = .ok (.aload_n 0, 1) := by decide +kernel
theorem dX11_word_8 : decode cX11_word 8 = .ok (.bipush (-2), 2) := by decide +kernel
theorem dX11_word_10 : decode cX11_word 10 = .ok (.invokevirtual 76, 3) := by decide +kernel
theorem dX11_word_13 : decode cX11_word 13 = .ok (.ireturn, 1) := by decide +kernel
theorem dX11_word_14 : decode cX11_word 14 = .ok (.aload_n 0, 1) := by decide +kernel
theorem dX11_word_15 : decode cX11_word 15 = .ok (.getfield 30, 3) := by decide +kernel
theorem dX11_word_18 : decode cX11_word 18 = .ok (.iload_n 1, 1) := by decide +kernel
theorem dX11_word_19 : decode cX11_word 19 = .ok (.putfield 96, 3) := by decide +kernel
theorem dX11_word_22 : decode cX11_word 22 = .ok (.iconst 1, 1) := by decide +kernel
theorem dX11_word_23 : decode cX11_word 23 = .ok (.ireturn, 1) := by decide +kernel
set_option maxRecDepth 100000 in
set_option maxHeartbeats 4000000 in
theorem c_X11_word {g : Gv} {l : Launch} (p0 : Nat) (p1 : Int32) (w0 : Wd) (rz : Int32) (wz : Wd) (hf : f_X11_word p0 p1 w0 = some (rz, wz)) : MI g l yX11_word cX11_word 2 .int 2 44 [rV g p0, .int p1] w0 rz wz := by
  refine mi_of RX11 (by decide) rfl (Nat.le_of_ble_eq_true rfl) ?_
  intro X hg hll C hr h0
  subst hg; subst hll
  unfold f_X11_word at hf
  refine k_sub (lv2 := [(0, rV (xg X) p0), (1, .int p1)]) [0, 1] rfl ?_
  refine k_iload_n C dX11_word_0 1 rfl 1 rfl ?_
  refine k_callS_i C ye_X11_isWord se_X11_92 ⟨rfl, rfl⟩ ⟨rfl, rfl⟩ dX11_word_1 [.int p1] rfl rfl (Nat.le_of_ble_eq_true rfl) (c_X11_isWord _ _) hf 4 rfl (fun x8 w7 hf => ?_)
  refine k_if_ne C dX11_word_4 hf 14 rfl 7 rfl (fun hf => ?_) (fun hf => ?_)
  · refine k_aload_n C dX11_word_14 0 rfl rfl 15 rfl ?_
    refine k_getR C fe_X11_30 rfl dX11_word_15 hf 18 rfl (fun r9 hf => ?_)
    refine k_iload_n C dX11_word_18 1 rfl 19 rfl ?_
    refine k_putI C fe_X11_96 rfl rfl dX11_word_19 hf 22 rfl (fun w10 _ hf => ?_)
    refine k_iconst C dX11_word_22 (1) (by decide) 23 rfl ?_
    exact k_iret C hr h0 dX11_word_23 hf
  · refine k_aload_n C dX11_word_7 0 rfl rfl 8 rfl ?_
    refine k_bipush C dX11_word_8 (-2) (by decide) 10 rfl ?_
    refine k_callV_i C ye_X11_refuse ve_X11_76 ⟨rfl, rfl⟩ ⟨rfl, rfl⟩ dX11_word_10 [.int (-2 : Int32)] rfl rfl (Nat.le_of_ble_eq_true rfl) (c_X11_refuse _ _ _) hf 13 rfl (fun x12 w11 hf => ?_)
    exact k_iret C hr h0 dX11_word_13 hf
theorem dX11_words_0 : decode cX11_words 0 = .ok (.iload_n 1, 1) := by decide +kernel
theorem dX11_words_1 : decode cX11_words 1 = .ok (.iconst 0, 1) := by decide +kernel
theorem dX11_words_2 : decode cX11_words 2 = .ok (.iconst 1, 1) := by decide +kernel
theorem dX11_words_3 : decode cX11_words 3 = .ok (.invokestatic 72, 3) := by decide +kernel
theorem dX11_words_6 : decode cX11_words 6 = .ok (.ifCond .ne 10, 3) := by decide +kernel
theorem dX11_words_9 : decode cX11_words 9 = .ok (.aload_n 0, 1) := by decide +kernel
theorem dX11_words_10 : decode cX11_words 10 = .ok (.bipush (-2), 2) := by decide +kernel
theorem dX11_words_12 : decode cX11_words 12 = .ok (.invokevirtual 76, 3) := by decide +kernel
theorem dX11_words_15 : decode cX11_words 15 = .ok (.ireturn, 1) := by decide +kernel
theorem dX11_words_16 : decode cX11_words 16 = .ok (.aload_n 0, 1) := by decide +kernel
theorem dX11_words_17 : decode cX11_words 17 = .ok (.getfield 30, 3) := by decide +kernel
theorem dX11_words_20 : decode cX11_words 20 = .ok (.getfield 207, 3) := by decide +kernel
theorem dX11_words_23 : decode cX11_words 23 = .ok (.invokevirtual 220, 3) := by decide +kernel
theorem dX11_words_26 : decode cX11_words 26 = .ok (.istore_n 2, 1) := by decide +kernel
theorem dX11_words_27 : decode cX11_words 27 = .ok (.iload_n 1, 1) := by decide +kernel
theorem dX11_words_28 : decode cX11_words 28 = .ok (.ifCond .ne 10, 3) := by decide +kernel
theorem dX11_words_31 : decode cX11_words 31 = .ok (.iload_n 2, 1) := by decide +kernel
theorem dX11_words_32 : decode cX11_words 32 = .ok (.invokestatic 223, 3) := by decide +kernel
theorem dX11_words_35 : decode cX11_words 35 = .ok (.goto 7, 3) := by decide +kernel
theorem dX11_words_38 : decode cX11_words 38 = .ok (.iload_n 2, 1) := by decide +kernel
theorem dX11_words_39 : decode cX11_words 39 = .ok (.invokestatic 228, 3) := by decide +kernel
theorem dX11_words_42 : decode cX11_words 42 = .ok (.ireturn, 1) := by decide +kernel
set_option maxRecDepth 100000 in
set_option maxHeartbeats 4000000 in
theorem c_X11_words {g : Gv} {l : Launch} (p0 : Nat) (p1 : Int32) (w0 : Wd) (rz : Int32) (wz : Wd) (hf : f_X11_words p0 p1 w0 = some (rz, wz)) : MI g l yX11_words cX11_words 3 .int 4 85 [rV g p0, .int p1] w0 rz wz := by
  refine mi_of RX11 (by decide) rfl (Nat.le_of_ble_eq_true rfl) ?_
  intro X hg hll C hr h0
  subst hg; subst hll
  have t_42 : ∀ (s0 : Int32) (w : Wd), f_X11_words_42 s0 w = some (rz, wz) → Wk X 0 0 (QI X w0 rz wz) w [] 42 [.int s0] := by
    intro s0 w hf
    unfold f_X11_words_42 at hf
    exact k_iret C hr h0 dX11_words_42 hf
  unfold f_X11_words at hf
  refine k_sub (lv2 := [(0, rV (xg X) p0), (1, .int p1)]) [0, 1] rfl ?_
  refine k_iload_n C dX11_words_0 1 rfl 1 rfl ?_
  refine k_iconst C dX11_words_1 (0) (by decide) 2 rfl ?_
  refine k_iconst C dX11_words_2 (1) (by decide) 3 rfl ?_
  refine k_callS_i C ye_X11_within se_X11_72 ⟨rfl, rfl⟩ ⟨rfl, rfl⟩ dX11_words_3 [.int p1, .int (0 : Int32), .int (1 : Int32)] rfl rfl (Nat.le_of_ble_eq_true rfl) (c_X11_within _ _ _ _) hf 6 rfl (fun x14 w13 hf => ?_)
  refine k_if_ne C dX11_words_6 hf 16 rfl 9 rfl (fun hf => ?_) (fun hf => ?_)
  · refine k_aload_n C dX11_words_16 0 rfl rfl 17 rfl ?_
    refine k_getR C fe_X11_30 rfl dX11_words_17 hf 20 rfl (fun r15 hf => ?_)
    refine k_getR C fe_X11_207 rfl dX11_words_20 hf 23 rfl (fun r16 hf => ?_)
    refine k_callV_i C ye_X0_fittingWords ve_X11_220 ⟨rfl, rfl⟩ ⟨rfl, rfl⟩ dX11_words_23 [] rfl rfl (Nat.le_of_ble_eq_true rfl) (c_X0_fittingWords _ _) hf 26 rfl (fun x18 w17 hf => ?_)
    refine k_istore_n C dX11_words_26 rfl (by decide) [(2, .int x18), (0, rV (xg X) p0), (1, .int p1)] rfl 27 rfl ?_
    refine k_iload_n C dX11_words_27 2 rfl 28 rfl ?_
    refine k_if_ne C dX11_words_28 hf 38 rfl 31 rfl (fun hf => ?_) (fun hf => ?_)
    · refine k_iload_n C dX11_words_38 0 rfl 39 rfl ?_
      refine k_callS_i C ye_X11_leastIn se_X11_228 ⟨rfl, rfl⟩ ⟨rfl, rfl⟩ dX11_words_39 [.int x18] rfl rfl (Nat.le_of_ble_eq_true rfl) (c_X11_leastIn _ _) hf 42 rfl (fun x20 w19 hf => ?_)
      refine k_sub [] rfl ?_
      exact t_42 _ w19 hf
    · refine k_iload_n C dX11_words_31 0 rfl 32 rfl ?_
      refine k_callS_i C ye_J6_bitCount_0f7a4 se_X11_223 ⟨rfl, rfl⟩ ⟨rfl, rfl⟩ dX11_words_32 [.int x18] rfl rfl (Nat.le_of_ble_eq_true rfl) (c_J6_bitCount_0f7a4 _ _) hf 35 rfl (fun x22 w21 hf => ?_)
      refine k_goto C dX11_words_35 42 rfl ?_
      refine k_sub [] rfl ?_
      exact t_42 _ w21 hf
  · refine k_aload_n C dX11_words_9 0 rfl rfl 10 rfl ?_
    refine k_bipush C dX11_words_10 (-2) (by decide) 12 rfl ?_
    refine k_callV_i C ye_X11_refuse ve_X11_76 ⟨rfl, rfl⟩ ⟨rfl, rfl⟩ dX11_words_12 [.int (-2 : Int32)] rfl rfl (Nat.le_of_ble_eq_true rfl) (c_X11_refuse _ _ _) hf 15 rfl (fun x24 w23 hf => ?_)
    exact k_iret C hr h0 dX11_words_15 hf
theorem dX12_addGoods_0 : decode cX12_addGoods 0 = .ok (.aload_n 0, 1) := by decide +kernel
theorem dX12_addGoods_1 : decode cX12_addGoods 1 = .ok (.getfield 7, 3) := by decide +kernel
theorem dX12_addGoods_4 : decode cX12_addGoods 4 = .ok (.bipush 19, 2) := by decide +kernel
theorem dX12_addGoods_6 : decode cX12_addGoods 6 = .ok (.iaload, 1) := by decide +kernel
theorem dX12_addGoods_7 : decode cX12_addGoods 7 = .ok (.istore 4, 2) := by decide +kernel
theorem dX12_addGoods_9 : decode cX12_addGoods 9 = .ok (.aload_n 0, 1) := by decide +kernel
theorem dX12_addGoods_10 : decode cX12_addGoods 10 = .ok (.getfield 7, 3) := by decide +kernel
theorem dX12_addGoods_13 : decode cX12_addGoods 13 = .ok (.bipush 20, 2) := by decide +kernel
theorem dX12_addGoods_15 : decode cX12_addGoods 15 = .ok (.iload 4, 2) := by decide +kernel
theorem dX12_addGoods_17 : decode cX12_addGoods 17 = .ok (.iadd, 1) := by decide +kernel
theorem dX12_addGoods_18 : decode cX12_addGoods 18 = .ok (.iload_n 1, 1) := by decide +kernel
theorem dX12_addGoods_19 : decode cX12_addGoods 19 = .ok (.iastore, 1) := by decide +kernel
theorem dX12_addGoods_20 : decode cX12_addGoods 20 = .ok (.aload_n 0, 1) := by decide +kernel
theorem dX12_addGoods_21 : decode cX12_addGoods 21 = .ok (.getfield 7, 3) := by decide +kernel
theorem dX12_addGoods_24 : decode cX12_addGoods 24 = .ok (.bipush 26, 2) := by decide +kernel
theorem dX12_addGoods_26 : decode cX12_addGoods 26 = .ok (.iload 4, 2) := by decide +kernel
theorem dX12_addGoods_28 : decode cX12_addGoods 28 = .ok (.iadd, 1) := by decide +kernel
theorem dX12_addGoods_29 : decode cX12_addGoods 29 = .ok (.iload_n 2, 1) := by decide +kernel
theorem dX12_addGoods_30 : decode cX12_addGoods 30 = .ok (.iastore, 1) := by decide +kernel
theorem dX12_addGoods_31 : decode cX12_addGoods 31 = .ok (.aload_n 0, 1) := by decide +kernel
theorem dX12_addGoods_32 : decode cX12_addGoods 32 = .ok (.getfield 7, 3) := by decide +kernel
theorem dX12_addGoods_35 : decode cX12_addGoods 35 = .ok (.bipush 32, 2) := by decide +kernel
theorem dX12_addGoods_37 : decode cX12_addGoods 37 = .ok (.iload 4, 2) := by decide +kernel
theorem dX12_addGoods_39 : decode cX12_addGoods 39 = .ok (.iadd, 1) := by decide +kernel
theorem dX12_addGoods_40 : decode cX12_addGoods 40 = .ok (.iload_n 3, 1) := by decide +kernel
theorem dX12_addGoods_41 : decode cX12_addGoods 41 = .ok (.iastore, 1) := by decide +kernel
theorem dX12_addGoods_42 : decode cX12_addGoods 42 = .ok (.aload_n 0, 1) := by decide +kernel
theorem dX12_addGoods_43 : decode cX12_addGoods 43 = .ok (.getfield 7, 3) := by decide +kernel
theorem dX12_addGoods_46 : decode cX12_addGoods 46 = .ok (.bipush 19, 2) := by decide +kernel
theorem dX12_addGoods_48 : decode cX12_addGoods 48 = .ok (.dup2, 1) := by decide +kernel
theorem dX12_addGoods_49 : decode cX12_addGoods 49 = .ok (.iaload, 1) := by decide +kernel
theorem dX12_addGoods_50 : decode cX12_addGoods 50 = .ok (.iconst 1, 1) := by decide +kernel
theorem dX12_addGoods_51 : decode cX12_addGoods 51 = .ok (.iadd, 1) := by decide +kernel
theorem dX12_addGoods_52 : decode cX12_addGoods 52 = .ok (.iastore, 1) := by decide +kernel
theorem dX12_addGoods_53 : decode cX12_addGoods 53 = .ok (.aload_n 0, 1) := by decide +kernel
theorem dX12_addGoods_54 : decode cX12_addGoods 54 = .ok (.getfield 7, 3) := by decide +kernel
theorem dX12_addGoods_57 : decode cX12_addGoods 57 = .ok (.bipush 76, 2) := by decide +kernel
theorem dX12_addGoods_59 : decode cX12_addGoods 59 = .ok (.iconst 0, 1) := by decide +kernel
theorem dX12_addGoods_60 : decode cX12_addGoods 60 = .ok (.iastore, 1) := by decide +kernel
theorem dX12_addGoods_61 : decode cX12_addGoods 61 = .ok (.return_, 1) := by decide +kernel
set_option maxRecDepth 100000 in
set_option maxHeartbeats 4000000 in
theorem c_X12_addGoods {g : Gv} {l : Launch} (p0 : Nat) (p1 : Int32) (p2 : Int32) (p3 : Int32) (w0 : Wd) (wz : Wd) (hf : f_X12_addGoods p0 p1 p2 p3 w0 = some ((), wz)) : MV g l yX12_addGoods cX12_addGoods 5 0 0 0 0 [rV g p0, .int p1, .int p2, .int p3] w0 wz := by
  refine mv_of RX12 (by decide) rfl (Nat.le_of_ble_eq_true rfl) ?_
  intro X hg hll C hr h0 hin
  subst hg; subst hll
  unfold f_X12_addGoods at hf
  refine k_sub (lv2 := [(0, rV (xg X) p0), (1, .int p1), (2, .int p2), (3, .int p3)]) [0, 1, 2, 3] rfl ?_
  refine k_aload_n C dX12_addGoods_0 0 rfl rfl 1 rfl ?_
  refine k_getR C fe_X12_7 rfl dX12_addGoods_1 hf 4 rfl (fun r14 hf => ?_)
  refine k_bipush C dX12_addGoods_4 (19) (by decide) 6 rfl ?_
  refine k_iald C dX12_addGoods_6 hf 7 rfl (fun x15 hf => ?_)
  refine k_istore C dX12_addGoods_7 (by decide) [(4, .int x15), (0, rV (xg X) p0), (1, .int p1), (2, .int p2), (3, .int p3)] rfl 9 rfl ?_
  refine k_aload_n C dX12_addGoods_9 1 rfl rfl 10 rfl ?_
  refine k_getR C fe_X12_7 rfl dX12_addGoods_10 hf 13 rfl (fun r16 hf => ?_)
  refine k_bipush C dX12_addGoods_13 (20) (by decide) 15 rfl ?_
  refine k_iload C dX12_addGoods_15 0 rfl 17 rfl ?_
  refine k_iadd C dX12_addGoods_17 18 rfl ?_
  refine k_iload_n C dX12_addGoods_18 2 rfl 19 rfl ?_
  refine k_iast C dX12_addGoods_19 hf 20 rfl (fun w17 _ hf => ?_)
  refine k_aload_n C dX12_addGoods_20 1 rfl rfl 21 rfl ?_
  refine k_getR C fe_X12_7 rfl dX12_addGoods_21 hf 24 rfl (fun r18 hf => ?_)
  refine k_bipush C dX12_addGoods_24 (26) (by decide) 26 rfl ?_
  refine k_iload C dX12_addGoods_26 0 rfl 28 rfl ?_
  refine k_iadd C dX12_addGoods_28 29 rfl ?_
  refine k_iload_n C dX12_addGoods_29 3 rfl 30 rfl ?_
  refine k_iast C dX12_addGoods_30 hf 31 rfl (fun w19 _ hf => ?_)
  refine k_aload_n C dX12_addGoods_31 1 rfl rfl 32 rfl ?_
  refine k_getR C fe_X12_7 rfl dX12_addGoods_32 hf 35 rfl (fun r20 hf => ?_)
  refine k_bipush C dX12_addGoods_35 (32) (by decide) 37 rfl ?_
  refine k_iload C dX12_addGoods_37 0 rfl 39 rfl ?_
  refine k_iadd C dX12_addGoods_39 40 rfl ?_
  refine k_iload_n C dX12_addGoods_40 4 rfl 41 rfl ?_
  refine k_iast C dX12_addGoods_41 hf 42 rfl (fun w21 _ hf => ?_)
  refine k_aload_n C dX12_addGoods_42 1 rfl rfl 43 rfl ?_
  refine k_getR C fe_X12_7 rfl dX12_addGoods_43 hf 46 rfl (fun r22 hf => ?_)
  refine k_bipush C dX12_addGoods_46 (19) (by decide) 48 rfl ?_
  refine k_dup2 C dX12_addGoods_48 rfl rfl 49 rfl ?_
  refine k_iald C dX12_addGoods_49 hf 50 rfl (fun x23 hf => ?_)
  refine k_iconst C dX12_addGoods_50 (1) (by decide) 51 rfl ?_
  refine k_iadd C dX12_addGoods_51 52 rfl ?_
  refine k_iast C dX12_addGoods_52 hf 53 rfl (fun w24 _ hf => ?_)
  refine k_aload_n C dX12_addGoods_53 1 rfl rfl 54 rfl ?_
  refine k_getR C fe_X12_7 rfl dX12_addGoods_54 hf 57 rfl (fun r25 hf => ?_)
  refine k_bipush C dX12_addGoods_57 (76) (by decide) 59 rfl ?_
  refine k_iconst C dX12_addGoods_59 (0) (by decide) 60 rfl ?_
  refine k_iast C dX12_addGoods_60 hf 61 rfl (fun w26 _ hf => ?_)
  exact k_vret C hr h0 dX12_addGoods_61 hf
theorem dX12_has_0 : decode cX12_has 0 = .ok (.iload_n 0, 1) := by decide +kernel
theorem dX12_has_1 : decode cX12_has 1 = .ok (.iload_n 1, 1) := by decide +kernel
theorem dX12_has_2 : decode cX12_has 2 = .ok (.ishr, 1) := by decide +kernel
theorem dX12_has_3 : decode cX12_has 3 = .ok (.iconst 1, 1) := by decide +kernel
theorem dX12_has_4 : decode cX12_has 4 = .ok (.iand, 1) := by decide +kernel
theorem dX12_has_5 : decode cX12_has 5 = .ok (.iconst 1, 1) := by decide +kernel
theorem dX12_has_6 : decode cX12_has 6 = .ok (.if_icmp .ne 7, 3) := by decide +kernel
theorem dX12_has_9 : decode cX12_has 9 = .ok (.iconst 1, 1) := by decide +kernel
theorem dX12_has_10 : decode cX12_has 10 = .ok (.goto 4, 3) := by decide +kernel
theorem dX12_has_13 : decode cX12_has 13 = .ok (.iconst 0, 1) := by decide +kernel
theorem dX12_has_14 : decode cX12_has 14 = .ok (.ireturn, 1) := by decide +kernel
set_option maxRecDepth 100000 in
set_option maxHeartbeats 4000000 in
theorem c_X12_has {g : Gv} {l : Launch} (p0 : Int32) (p1 : Int32) (w0 : Wd) (rz : Int32) (wz : Wd) (hf : f_X12_has p0 p1 w0 = some (rz, wz)) : MI g l yX12_has cX12_has 2 .boolean 0 0 [.int p0, .int p1] w0 rz wz := by
  refine mi_of RX12 (by decide) rfl (Nat.le_of_ble_eq_true rfl) ?_
  intro X hg hll C hr h0
  subst hg; subst hll
  have t_14 : ∀ (s0 : Int32) (w : Wd), f_X12_has_14 s0 w = some (rz, wz) → Wk X 0 0 (QI X w0 rz wz) w [] 14 [.int s0] := by
    intro s0 w hf
    unfold f_X12_has_14 at hf
    exact k_zret C hr h0 dX12_has_14 hf
  unfold f_X12_has at hf
  refine k_sub (lv2 := [(0, .int p0), (1, .int p1)]) [0, 1] rfl ?_
  refine k_iload_n C dX12_has_0 0 rfl 1 rfl ?_
  refine k_iload_n C dX12_has_1 1 rfl 2 rfl ?_
  refine k_ishr C dX12_has_2 3 rfl ?_
  refine k_iconst C dX12_has_3 (1) (by decide) 4 rfl ?_
  refine k_iand C dX12_has_4 5 rfl ?_
  refine k_iconst C dX12_has_5 (1) (by decide) 6 rfl ?_
  refine k_icmp_ne C dX12_has_6 hf 13 rfl 9 rfl (fun hf => ?_) (fun hf => ?_)
  · refine k_iconst C dX12_has_13 (0) (by decide) 14 rfl ?_
    refine k_sub [] rfl ?_
    exact t_14 _ w0 hf
  · refine k_iconst C dX12_has_9 (1) (by decide) 10 rfl ?_
    refine k_goto C dX12_has_10 14 rfl ?_
    refine k_sub [] rfl ?_
    exact t_14 _ w0 hf
theorem dX12_alike_0 : decode cX12_alike 0 = .ok (.iconst 0, 1) := by decide +kernel
theorem dX12_alike_1 : decode cX12_alike 1 = .ok (.istore_n 2, 1) := by decide +kernel
theorem dX12_alike_2 : decode cX12_alike 2 = .ok (.iconst 0, 1) := by decide +kernel
theorem dX12_alike_3 : decode cX12_alike 3 = .ok (.istore_n 3, 1) := by decide +kernel
theorem dX12_alike_4 : decode cX12_alike 4 = .ok (.iload_n 3, 1) := by decide +kernel
theorem dX12_alike_5 : decode cX12_alike 5 = .ok (.iconst 5, 1) := by decide +kernel
theorem dX12_alike_6 : decode cX12_alike 6 = .ok (.if_icmp .ge 30, 3) := by decide +kernel
theorem dX12_alike_9 : decode cX12_alike 9 = .ok (.iload_n 2, 1) := by decide +kernel
theorem dX12_alike_10 : decode cX12_alike 10 = .ok (.iload_n 0, 1) := by decide +kernel
theorem dX12_alike_11 : decode cX12_alike 11 = .ok (.iload_n 3, 1) := by decide +kernel
theorem dX12_alike_12 : decode cX12_alike 12 = .ok (.invokestatic 143, 3) := by decide +kernel
theorem dX12_alike_15 : decode cX12_alike 15 = .ok (.iload_n 1, 1) := by decide +kernel
theorem dX12_alike_16 : decode cX12_alike 16 = .ok (.iload_n 3, 1) := by decide +kernel
theorem dX12_alike_17 : decode cX12_alike 17 = .ok (.invokestatic 143, 3) := by decide +kernel
theorem dX12_alike_20 : decode cX12_alike 20 = .ok (.if_icmp .ne 7, 3) := by decide +kernel
theorem dX12_alike_23 : decode cX12_alike 23 = .ok (.iconst 1, 1) := by decide +kernel
theorem dX12_alike_24 : decode cX12_alike 24 = .ok (.goto 4, 3) := by decide +kernel
theorem dX12_alike_27 : decode cX12_alike 27 = .ok (.iconst 0, 1) := by decide +kernel
theorem dX12_alike_28 : decode cX12_alike 28 = .ok (.iadd, 1) := by decide +kernel
theorem dX12_alike_29 : decode cX12_alike 29 = .ok (.istore_n 2, 1) := by decide +kernel
theorem dX12_alike_30 : decode cX12_alike 30 = .ok (.iinc 3 1, 3) := by decide +kernel
theorem dX12_alike_33 : decode cX12_alike 33 = .ok (.goto (-29), 3) := by decide +kernel
theorem dX12_alike_36 : decode cX12_alike 36 = .ok (.iload_n 2, 1) := by decide +kernel
theorem dX12_alike_37 : decode cX12_alike 37 = .ok (.ireturn, 1) := by decide +kernel
set_option maxRecDepth 100000 in
set_option maxHeartbeats 4000000 in
theorem c_X12_alike {g : Gv} {l : Launch} (p0 : Int32) (p1 : Int32) (w0 : Wd) (rz : Int32) (wz : Wd) (hf : f_X12_alike p0 p1 w0 = some (rz, wz)) : MI g l yX12_alike cX12_alike 4 .int 1 21 [.int p0, .int p1] w0 rz wz := by
  refine mi_of RX12 (by decide) rfl (Nat.le_of_ble_eq_true rfl) ?_
  intro X hg hll C hr h0
  subst hg; subst hll
  have t_4 : ∀ (n : Nat) (v0 : Int32) (v1 : Int32) (v2 : Int32) (v3 : Int32) (w : Wd), f_X12_alike_4 n v0 v1 v2 v3 w = some (rz, wz) → Wk X 0 0 (QI X w0 rz wz) w [(0, .int v0), (1, .int v1), (2, .int v2), (3, .int v3)] 4 [] := by
    intro n
    induction n with
    | zero => intro v0 v1 v2 v3 w hf; rw [f_X12_alike_4] at hf; cases hf
    | succ n4 ih4 =>
      have t_28 : ∀ (v0 : Int32) (v1 : Int32) (v3 : Int32) (s0 : Int32) (s1 : Int32) (w : Wd), f_X12_alike_28 (f_X12_alike_4 n4) v0 v1 v3 s0 s1 w = some (rz, wz) → Wk X 0 0 (QI X w0 rz wz) w [(0, .int v0), (1, .int v1), (3, .int v3)] 28 [.int s0, .int s1] := by
        intro v0 v1 v3 s0 s1 w hf
        unfold f_X12_alike_28 at hf
        refine k_iadd C dX12_alike_28 29 rfl ?_
        refine k_nmi hf (fun x6 hf => ?_)
        refine k_istore_n C dX12_alike_29 rfl (by decide) [(2, .int x6), (0, .int v0), (1, .int v1), (3, .int v3)] rfl 30 rfl ?_
        refine k_iinc C dX12_alike_30 3 rfl (by decide) (by decide) [(3, .int (v3 + (1 : Int32))), (2, .int x6), (0, .int v0), (1, .int v1)] rfl 33 rfl ?_
        refine k_goto C dX12_alike_33 4 rfl ?_
        refine k_sub [2, 3, 1, 0] rfl ?_
        exact ih4 _ _ _ _ w hf
      intro v0 v1 v2 v3 w hf
      rw [f_X12_alike_4] at hf
      refine k_iload_n C dX12_alike_4 3 rfl 5 rfl ?_
      refine k_iconst C dX12_alike_5 (5) (by decide) 6 rfl ?_
      refine k_icmp_ge C dX12_alike_6 hf 36 rfl 9 rfl (fun hf => ?_) (fun hf => ?_)
      · refine k_iload_n C dX12_alike_36 2 rfl 37 rfl ?_
        exact k_iret C hr h0 dX12_alike_37 hf
      · refine k_iload_n C dX12_alike_9 2 rfl 10 rfl ?_
        refine k_iload_n C dX12_alike_10 0 rfl 11 rfl ?_
        refine k_iload_n C dX12_alike_11 3 rfl 12 rfl ?_
        refine k_callS_i C ye_X12_has se_X12_143 ⟨rfl, rfl⟩ ⟨rfl, rfl⟩ dX12_alike_12 [.int v0, .int v3] rfl rfl (Nat.le_of_ble_eq_true rfl) (c_X12_has _ _ _) hf 15 rfl (fun x8 w7 hf => ?_)
        refine k_iload_n C dX12_alike_15 1 rfl 16 rfl ?_
        refine k_iload_n C dX12_alike_16 3 rfl 17 rfl ?_
        refine k_callS_i C ye_X12_has se_X12_143 ⟨rfl, rfl⟩ ⟨rfl, rfl⟩ dX12_alike_17 [.int v1, .int v3] rfl rfl (Nat.le_of_ble_eq_true rfl) (c_X12_has _ _ _) hf 20 rfl (fun x10 w9 hf => ?_)
        refine k_icmp_ne C dX12_alike_20 hf 27 rfl 23 rfl (fun hf => ?_) (fun hf => ?_)
        · refine k_iconst C dX12_alike_27 (0) (by decide) 28 rfl ?_
          refine k_sub [0, 1, 3] rfl ?_
          exact t_28 _ _ _ _ _ w9 hf
        · refine k_iconst C dX12_alike_23 (1) (by decide) 24 rfl ?_
          refine k_goto C dX12_alike_24 28 rfl ?_
          refine k_sub [0, 1, 3] rfl ?_
          exact t_28 _ _ _ _ _ w9 hf
  unfold f_X12_alike at hf
  refine k_sub (lv2 := [(0, .int p0), (1, .int p1)]) [0, 1] rfl ?_
  refine k_iconst C dX12_alike_0 (0) (by decide) 1 rfl ?_
  refine k_istore_n C dX12_alike_1 rfl (by decide) [(2, .int (0 : Int32)), (0, .int p0), (1, .int p1)] rfl 2 rfl ?_
  refine k_iconst C dX12_alike_2 (0) (by decide) 3 rfl ?_
  refine k_istore_n C dX12_alike_3 rfl (by decide) [(3, .int (0 : Int32)), (2, .int (0 : Int32)), (0, .int p0), (1, .int p1)] rfl 4 rfl ?_
  refine k_sub [2, 3, 1, 0] rfl ?_
  exact t_4 4096 _ _ _ _ w0 hf
theorem dX12_refuse_0 : decode cX12_refuse 0 = .ok (.aload_n 0, 1) := by decide +kernel
theorem dX12_refuse_1 : decode cX12_refuse 1 = .ok (.getfield 17, 3) := by decide +kernel
theorem dX12_refuse_4 : decode cX12_refuse 4 = .ok (.iload_n 1, 1) := by decide +kernel
theorem dX12_refuse_5 : decode cX12_refuse 5 = .ok (.bipush (-3), 2) := by decide +kernel
theorem dX12_refuse_7 : decode cX12_refuse 7 = .ok (.if_icmp .ne 7, 3) := by decide +kernel
theorem dX12_refuse_10 : decode cX12_refuse 10 = .ok (.iconst 1, 1) := by decide +kernel
theorem dX12_refuse_11 : decode cX12_refuse 11 = .ok (.goto 14, 3) := by decide +kernel
theorem dX12_refuse_14 : decode cX12_refuse 14 = .ok (.iload_n 1, 1) := by decide +kernel
theorem dX12_refuse_15 : decode cX12_refuse 15 = .ok (.bipush (-4), 2) := by decide +kernel
theorem dX12_refuse_17 : decode cX12_refuse 17 = .ok (.if_icmp .ne 7, 3) := by decide +kernel
theorem dX12_refuse_20 : decode cX12_refuse 20 = .ok (.iconst 2, 1) := by decide +kernel
theorem dX12_refuse_21 : decode cX12_refuse 21 = .ok (.goto 4, 3) := by decide +kernel
theorem dX12_refuse_24 : decode cX12_refuse 24 = .ok (.iconst 0, 1) := by decide +kernel
theorem dX12_refuse_25 : decode cX12_refuse 25 = .ok (.dup2, 1) := by decide +kernel
theorem dX12_refuse_26 : decode cX12_refuse 26 = .ok (.iaload, 1) := by decide +kernel
theorem dX12_refuse_27 : decode cX12_refuse 27 = .ok (.iconst 1, 1) := by decide +kernel
theorem dX12_refuse_28 : decode cX12_refuse 28 = .ok (.iadd, 1) := by decide +kernel
theorem dX12_refuse_29 : decode cX12_refuse 29 = .ok (.iastore, 1) := by decide +kernel
theorem dX12_refuse_30 : decode cX12_refuse 30 = .ok (.iload_n 1, 1) := by decide +kernel
theorem dX12_refuse_31 : decode cX12_refuse 31 = .ok (.ireturn, 1) := by decide +kernel
set_option maxRecDepth 100000 in
set_option maxHeartbeats 4000000 in
theorem c_X12_refuse {g : Gv} {l : Launch} (p0 : Nat) (p1 : Int32) (w0 : Wd) (rz : Int32) (wz : Wd) (hf : f_X12_refuse p0 p1 w0 = some (rz, wz)) : MI g l yX12_refuse cX12_refuse 2 .int 0 0 [rV g p0, .int p1] w0 rz wz := by
  refine mi_of RX12 (by decide) rfl (Nat.le_of_ble_eq_true rfl) ?_
  intro X hg hll C hr h0
  subst hg; subst hll
  have t_25 : ∀ (v1 : Int32) (s0 : Int32) (s1 : Nat) (w : Wd), f_X12_refuse_25 v1 s0 s1 w = some (rz, wz) → Wk X 0 0 (QI X w0 rz wz) w [(1, .int v1)] 25 [.int s0, rV (xg X) s1] := by
    intro v1 s0 s1 w hf
    unfold f_X12_refuse_25 at hf
    refine k_dup2 C dX12_refuse_25 rfl rfl 26 rfl ?_
    refine k_iald C dX12_refuse_26 hf 27 rfl (fun x4 hf => ?_)
    refine k_iconst C dX12_refuse_27 (1) (by decide) 28 rfl ?_
    refine k_iadd C dX12_refuse_28 29 rfl ?_
    refine k_iast C dX12_refuse_29 hf 30 rfl (fun w5 _ hf => ?_)
    refine k_iload_n C dX12_refuse_30 0 rfl 31 rfl ?_
    exact k_iret C hr h0 dX12_refuse_31 hf
  unfold f_X12_refuse at hf
  refine k_sub (lv2 := [(0, rV (xg X) p0), (1, .int p1)]) [0, 1] rfl ?_
  refine k_aload_n C dX12_refuse_0 0 rfl rfl 1 rfl ?_
  refine k_getR C fe_X12_17 rfl dX12_refuse_1 hf 4 rfl (fun r6 hf => ?_)
  refine k_iload_n C dX12_refuse_4 1 rfl 5 rfl ?_
  refine k_bipush C dX12_refuse_5 (-3) (by decide) 7 rfl ?_
  refine k_icmp_ne C dX12_refuse_7 hf 14 rfl 10 rfl (fun hf => ?_) (fun hf => ?_)
  · refine k_iload_n C dX12_refuse_14 1 rfl 15 rfl ?_
    refine k_bipush C dX12_refuse_15 (-4) (by decide) 17 rfl ?_
    refine k_icmp_ne C dX12_refuse_17 hf 24 rfl 20 rfl (fun hf => ?_) (fun hf => ?_)
    · refine k_iconst C dX12_refuse_24 (0) (by decide) 25 rfl ?_
      refine k_sub [1] rfl ?_
      exact t_25 _ _ _ w0 hf
    · refine k_iconst C dX12_refuse_20 (2) (by decide) 21 rfl ?_
      refine k_goto C dX12_refuse_21 25 rfl ?_
      refine k_sub [1] rfl ?_
      exact t_25 _ _ _ w0 hf
  · refine k_iconst C dX12_refuse_10 (1) (by decide) 11 rfl ?_
    refine k_goto C dX12_refuse_11 25 rfl ?_
    refine k_sub [1] rfl ?_
    exact t_25 _ _ _ w0 hf
theorem dX12_badTen_0 : decode cX12_badTen 0 = .ok (.aload_n 0, 1) := by decide +kernel
theorem dX12_badTen_1 : decode cX12_badTen 1 = .ok (.bipush (-2), 2) := by decide +kernel
theorem dX12_badTen_3 : decode cX12_badTen 3 = .ok (.invokevirtual 56, 3) := by decide +kernel
theorem dX12_badTen_6 : decode cX12_badTen 6 = .ok (.pop, 1) := by decide +kernel
theorem dX12_badTen_7 : decode cX12_badTen 7 = .ok (.bipush (-10), 2) := by decide +kernel
theorem dX12_badTen_9 : decode cX12_badTen 9 = .ok (.ireturn, 1) := by decide +kernel
set_option maxRecDepth 100000 in
set_option maxHeartbeats 4000000 in
theorem c_X12_badTen {g : Gv} {l : Launch} (p0 : Nat) (w0 : Wd) (rz : Int32) (wz : Wd) (hf : f_X12_badTen p0 w0 = some (rz, wz)) : MI g l yX12_badTen cX12_badTen 1 .int 1 21 [rV g p0] w0 rz wz := by
  refine mi_of RX12 (by decide) rfl (Nat.le_of_ble_eq_true rfl) ?_
  intro X hg hll C hr h0
  subst hg; subst hll
  unfold f_X12_badTen at hf
  refine k_sub (lv2 := [(0, rV (xg X) p0)]) [0] rfl ?_
  refine k_aload_n C dX12_badTen_0 0 rfl rfl 1 rfl ?_
  refine k_bipush C dX12_badTen_1 (-2) (by decide) 3 rfl ?_
  refine k_callV_i C ye_X12_refuse ve_X12_56 ⟨rfl, rfl⟩ ⟨rfl, rfl⟩ dX12_badTen_3 [.int (-2 : Int32)] rfl rfl (Nat.le_of_ble_eq_true rfl) (c_X12_refuse _ _ _) hf 6 rfl (fun x4 w3 hf => ?_)
  refine k_pop C dX12_badTen_6 rfl 7 rfl ?_
  refine k_bipush C dX12_badTen_7 (-10) (by decide) 9 rfl ?_
  exact k_iret C hr h0 dX12_badTen_9 hf
theorem dX12_fetches_0 : decode cX12_fetches 0 = .ok (.aload_n 0, 1) := by decide +kernel
theorem dX12_fetches_1 : decode cX12_fetches 1 = .ok (.getfield 7, 3) := by decide +kernel
theorem dX12_fetches_4 : decode cX12_fetches 4 = .ok (.bipush 32, 2) := by decide +kernel
theorem dX12_fetches_6 : decode cX12_fetches 6 = .ok (.iload_n 1, 1) := by decide +kernel
theorem dX12_fetches_7 : decode cX12_fetches 7 = .ok (.iadd, 1) := by decide +kernel
theorem dX12_fetches_8 : decode cX12_fetches 8 = .ok (.iaload, 1) := by decide +kernel
theorem dX12_fetches_9 : decode cX12_fetches 9 = .ok (.iload_n 2, 1) := by decide +kernel
theorem dX12_fetches_10 : decode cX12_fetches 10 = .ok (.iconst 5, 1) := by decide +kernel
theorem dX12_fetches_11 : decode cX12_fetches 11 = .ok (.idiv, 1) := by decide +kernel
theorem dX12_fetches_12 : decode cX12_fetches 12 = .ok (.isub, 1) := by decide +kernel
theorem dX12_fetches_13 : decode cX12_fetches 13 = .ok (.istore_n 3, 1) := by decide +kernel
theorem dX12_fetches_14 : decode cX12_fetches 14 = .ok (.iload_n 3, 1) := by decide +kernel
theorem dX12_fetches_15 : decode cX12_fetches 15 = .ok (.ifCond .ge 7, 3) := by decide +kernel
theorem dX12_fetches_18 : decode cX12_fetches 18 = .ok (.iconst 0, 1) := by decide +kernel
theorem dX12_fetches_19 : decode cX12_fetches 19 = .ok (.goto 4, 3) := by decide +kernel
theorem dX12_fetches_22 : decode cX12_fetches 22 = .ok (.iload_n 3, 1) := by decide +kernel
theorem dX12_fetches_23 : decode cX12_fetches 23 = .ok (.istore_n 3, 1) := by decide +kernel
theorem dX12_fetches_24 : decode cX12_fetches 24 = .ok (.aload_n 0, 1) := by decide +kernel
theorem dX12_fetches_25 : decode cX12_fetches 25 = .ok (.getfield 7, 3) := by decide +kernel
theorem dX12_fetches_28 : decode cX12_fetches 28 = .ok (.bipush 20, 2) := by decide +kernel
theorem dX12_fetches_30 : decode cX12_fetches 30 = .ok (.iload_n 1, 1) := by decide +kernel
theorem dX12_fetches_31 : decode cX12_fetches 31 = .ok (.iadd, 1) := by decide +kernel
theorem dX12_fetches_32 : decode cX12_fetches 32 = .ok (.iaload, 1) := by decide +kernel
theorem dX12_fetches_33 : decode cX12_fetches 33 = .ok (.tableswitch 39 2 5 #[31, 39, 33, 37], 31) := by decide +kernel
theorem dX12_fetches_64 : decode cX12_fetches 64 = .ok (.iconst 0, 1) := by decide +kernel
theorem dX12_fetches_65 : decode cX12_fetches 65 = .ok (.ireturn, 1) := by decide +kernel
theorem dX12_fetches_66 : decode cX12_fetches 66 = .ok (.iload_n 3, 1) := by decide +kernel
theorem dX12_fetches_67 : decode cX12_fetches 67 = .ok (.iconst 2, 1) := by decide +kernel
theorem dX12_fetches_68 : decode cX12_fetches 68 = .ok (.idiv, 1) := by decide +kernel
theorem dX12_fetches_69 : decode cX12_fetches 69 = .ok (.ireturn, 1) := by decide +kernel
theorem dX12_fetches_70 : decode cX12_fetches 70 = .ok (.iconst 1, 1) := by decide +kernel
theorem dX12_fetches_71 : decode cX12_fetches 71 = .ok (.ireturn, 1) := by decide +kernel
theorem dX12_fetches_72 : decode cX12_fetches 72 = .ok (.iload_n 3, 1) := by decide +kernel
theorem dX12_fetches_73 : decode cX12_fetches 73 = .ok (.ireturn, 1) := by decide +kernel
set_option maxRecDepth 100000 in
set_option maxHeartbeats 4000000 in
theorem c_X12_fetches {g : Gv} {l : Launch} (p0 : Nat) (p1 : Int32) (p2 : Int32) (w0 : Wd) (rz : Int32) (wz : Wd) (hf : f_X12_fetches p0 p1 p2 w0 = some (rz, wz)) : MI g l yX12_fetches cX12_fetches 4 .int 0 0 [rV g p0, .int p1, .int p2] w0 rz wz := by
  refine mi_of RX12 (by decide) rfl (Nat.le_of_ble_eq_true rfl) ?_
  intro X hg hll C hr h0
  subst hg; subst hll
  have t_23 : ∀ (v0 : Nat) (v1 : Int32) (s0 : Int32) (w : Wd), f_X12_fetches_23 v0 v1 s0 w = some (rz, wz) → Wk X 0 0 (QI X w0 rz wz) w [(0, rV (xg X) v0), (1, .int v1)] 23 [.int s0] := by
    intro v0 v1 s0 w hf
    unfold f_X12_fetches_23 at hf
    refine k_istore_n C dX12_fetches_23 rfl (by decide) [(3, .int s0), (0, rV (xg X) v0), (1, .int v1)] rfl 24 rfl ?_
    refine k_aload_n C dX12_fetches_24 1 rfl rfl 25 rfl ?_
    refine k_getR C fe_X12_7 rfl dX12_fetches_25 hf 28 rfl (fun r6 hf => ?_)
    refine k_bipush C dX12_fetches_28 (20) (by decide) 30 rfl ?_
    refine k_iload_n C dX12_fetches_30 2 rfl 31 rfl ?_
    refine k_iadd C dX12_fetches_31 32 rfl ?_
    refine k_iald C dX12_fetches_32 hf 33 rfl (fun x7 hf => ?_)
    refine k_split hf (fun he hf => ?_) (fun hn0 hf => ?_)
    · refine k_tswIn (off := 31) C dX12_fetches_33 (2) he (by decide) 64 rfl ?_
      refine k_iconst C dX12_fetches_64 (0) (by decide) 65 rfl ?_
      exact k_iret C hr h0 dX12_fetches_65 hf
    · skip
      refine k_split hf (fun he hf => ?_) (fun hn1 hf => ?_)
      · refine k_tswIn (off := 39) C dX12_fetches_33 (3) he (by decide) 72 rfl ?_
        refine k_iload_n C dX12_fetches_72 0 rfl 73 rfl ?_
        exact k_iret C hr h0 dX12_fetches_73 hf
      · skip
        refine k_split hf (fun he hf => ?_) (fun hn2 hf => ?_)
        · refine k_tswIn (off := 33) C dX12_fetches_33 (4) he (by decide) 66 rfl ?_
          refine k_iload_n C dX12_fetches_66 0 rfl 67 rfl ?_
          refine k_iconst C dX12_fetches_67 (2) (by decide) 68 rfl ?_
          refine k_idiv C dX12_fetches_68 (by decide) 69 rfl ?_
          exact k_iret C hr h0 dX12_fetches_69 hf
        · skip
          refine k_split hf (fun he hf => ?_) (fun hn3 hf => ?_)
          · refine k_tswIn (off := 37) C dX12_fetches_33 (5) he (by decide) 70 rfl ?_
            refine k_iconst C dX12_fetches_70 (1) (by decide) 71 rfl ?_
            exact k_iret C hr h0 dX12_fetches_71 hf
          · skip
            refine k_tswOut C dX12_fetches_33 (tsw_out [(2 : Int32), (3 : Int32), (4 : Int32), (5 : Int32)] (List.forall_mem_cons.mpr ⟨hn0, (List.forall_mem_cons.mpr ⟨hn1, (List.forall_mem_cons.mpr ⟨hn2, (List.forall_mem_cons.mpr ⟨hn3, (fun _ h => absurd h List.not_mem_nil)⟩)⟩)⟩)⟩) (by decide)) 72 rfl ?_
            refine k_iload_n C dX12_fetches_72 0 rfl 73 rfl ?_
            exact k_iret C hr h0 dX12_fetches_73 hf
  unfold f_X12_fetches at hf
  refine k_sub (lv2 := [(0, rV (xg X) p0), (1, .int p1), (2, .int p2)]) [0, 1, 2] rfl ?_
  refine k_aload_n C dX12_fetches_0 0 rfl rfl 1 rfl ?_
  refine k_getR C fe_X12_7 rfl dX12_fetches_1 hf 4 rfl (fun r8 hf => ?_)
  refine k_bipush C dX12_fetches_4 (32) (by decide) 6 rfl ?_
  refine k_iload_n C dX12_fetches_6 1 rfl 7 rfl ?_
  refine k_iadd C dX12_fetches_7 8 rfl ?_
  refine k_iald C dX12_fetches_8 hf 9 rfl (fun x9 hf => ?_)
  refine k_iload_n C dX12_fetches_9 2 rfl 10 rfl ?_
  refine k_iconst C dX12_fetches_10 (5) (by decide) 11 rfl ?_
  refine k_idiv C dX12_fetches_11 (by decide) 12 rfl ?_
  refine k_isub C dX12_fetches_12 13 rfl ?_
  refine k_nmi hf (fun x10 hf => ?_)
  refine k_istore_n C dX12_fetches_13 rfl (by decide) [(3, .int x10), (0, rV (xg X) p0), (1, .int p1), (2, .int p2)] rfl 14 rfl ?_
  refine k_iload_n C dX12_fetches_14 0 rfl 15 rfl ?_
  refine k_if_ge C dX12_fetches_15 hf 22 rfl 18 rfl (fun hf => ?_) (fun hf => ?_)
  · refine k_iload_n C dX12_fetches_22 0 rfl 23 rfl ?_
    refine k_sub [1, 2] rfl ?_
    exact t_23 _ _ _ w0 hf
  · refine k_iconst C dX12_fetches_18 (0) (by decide) 19 rfl ?_
    refine k_goto C dX12_fetches_19 23 rfl ?_
    refine k_sub [1, 2] rfl ?_
    exact t_23 _ _ _ w0 hf
theorem dX12_groundBy_0 : decode cX12_groundBy 0 = .ok (.iload_n 3, 1) := by decide +kernel
theorem dX12_groundBy_1 : decode cX12_groundBy 1 = .ok (.iconst 4, 1) := by decide +kernel
theorem dX12_groundBy_2 : decode cX12_groundBy 2 = .ok (.if_icmp .le 11, 3) := by decide +kernel
theorem dX12_groundBy_5 : decode cX12_groundBy 5 = .ok (.iload_n 1, 1) := by decide +kernel
theorem dX12_groundBy_6 : decode cX12_groundBy 6 = .ok (.iconst 1, 1) := by decide +kernel
theorem dX12_groundBy_7 : decode cX12_groundBy 7 = .ok (.iadd, 1) := by decide +kernel
theorem dX12_groundBy_8 : decode cX12_groundBy 8 = .ok (.iconst 2, 1) := by decide +kernel
theorem dX12_groundBy_9 : decode cX12_groundBy 9 = .ok (.idiv, 1) := by decide +kernel
theorem dX12_groundBy_10 : decode cX12_groundBy 10 = .ok (.goto 4, 3) := by decide +kernel
theorem dX12_groundBy_13 : decode cX12_groundBy 13 = .ok (.iload_n 1, 1) := by decide +kernel
theorem dX12_groundBy_14 : decode cX12_groundBy 14 = .ok (.istore 4, 2) := by decide +kernel
theorem dX12_groundBy_16 : decode cX12_groundBy 16 = .ok (.iload_n 0, 1) := by decide +kernel
theorem dX12_groundBy_17 : decode cX12_groundBy 17 = .ok (.tableswitch 51 1 5 #[35, 51, 38, 44, 49], 35) := by decide +kernel
theorem dX12_groundBy_52 : decode cX12_groundBy 52 = .ok (.iload 4, 2) := by decide +kernel
theorem dX12_groundBy_54 : decode cX12_groundBy 54 = .ok (.ireturn, 1) := by decide +kernel
theorem dX12_groundBy_55 : decode cX12_groundBy 55 = .ok (.iload_n 1, 1) := by decide +kernel
theorem dX12_groundBy_56 : decode cX12_groundBy 56 = .ok (.iload_n 2, 1) := by decide +kernel
theorem dX12_groundBy_57 : decode cX12_groundBy 57 = .ok (.iconst 4, 1) := by decide +kernel
theorem dX12_groundBy_58 : decode cX12_groundBy 58 = .ok (.irem, 1) := by decide +kernel
theorem dX12_groundBy_59 : decode cX12_groundBy 59 = .ok (.iadd, 1) := by decide +kernel
theorem dX12_groundBy_60 : decode cX12_groundBy 60 = .ok (.ireturn, 1) := by decide +kernel
theorem dX12_groundBy_61 : decode cX12_groundBy 61 = .ok (.iload 4, 2) := by decide +kernel
theorem dX12_groundBy_63 : decode cX12_groundBy 63 = .ok (.iconst 1, 1) := by decide +kernel
theorem dX12_groundBy_64 : decode cX12_groundBy 64 = .ok (.iadd, 1) := by decide +kernel
theorem dX12_groundBy_65 : decode cX12_groundBy 65 = .ok (.ireturn, 1) := by decide +kernel
theorem dX12_groundBy_66 : decode cX12_groundBy 66 = .ok (.iconst 0, 1) := by decide +kernel
theorem dX12_groundBy_67 : decode cX12_groundBy 67 = .ok (.ireturn, 1) := by decide +kernel
theorem dX12_groundBy_68 : decode cX12_groundBy 68 = .ok (.iload_n 1, 1) := by decide +kernel
theorem dX12_groundBy_69 : decode cX12_groundBy 69 = .ok (.ireturn, 1) := by decide +kernel
set_option maxRecDepth 100000 in
set_option maxHeartbeats 4000000 in
theorem c_X12_groundBy {g : Gv} {l : Launch} (p0 : Int32) (p1 : Int32) (p2 : Int32) (p3 : Int32) (w0 : Wd) (rz : Int32) (wz : Wd) (hf : f_X12_groundBy p0 p1 p2 p3 w0 = some (rz, wz)) : MI g l yX12_groundBy cX12_groundBy 5 .int 0 0 [.int p0, .int p1, .int p2, .int p3] w0 rz wz := by
  refine mi_of RX12 (by decide) rfl (Nat.le_of_ble_eq_true rfl) ?_
  intro X hg hll C hr h0
  subst hg; subst hll
  have t_14 : ∀ (v0 : Int32) (v1 : Int32) (v2 : Int32) (s0 : Int32) (w : Wd), f_X12_groundBy_14 v0 v1 v2 s0 w = some (rz, wz) → Wk X 0 0 (QI X w0 rz wz) w [(0, .int v0), (1, .int v1), (2, .int v2)] 14 [.int s0] := by
    intro v0 v1 v2 s0 w hf
    unfold f_X12_groundBy_14 at hf
    refine k_istore C dX12_groundBy_14 (by decide) [(4, .int s0), (0, .int v0), (1, .int v1), (2, .int v2)] rfl 16 rfl ?_
    refine k_iload_n C dX12_groundBy_16 1 rfl 17 rfl ?_
    refine k_split hf (fun he hf => ?_) (fun hn0 hf => ?_)
    · refine k_tswIn (off := 35) C dX12_groundBy_17 (1) he (by decide) 52 rfl ?_
      refine k_iload C dX12_groundBy_52 0 rfl 54 rfl ?_
      exact k_iret C hr h0 dX12_groundBy_54 hf
    · skip
      refine k_split hf (fun he hf => ?_) (fun hn1 hf => ?_)
      · refine k_tswIn (off := 51) C dX12_groundBy_17 (2) he (by decide) 68 rfl ?_
        refine k_iload_n C dX12_groundBy_68 2 rfl 69 rfl ?_
        exact k_iret C hr h0 dX12_groundBy_69 hf
      · skip
        refine k_split hf (fun he hf => ?_) (fun hn2 hf => ?_)
        · refine k_tswIn (off := 38) C dX12_groundBy_17 (3) he (by decide) 55 rfl ?_
          refine k_iload_n C dX12_groundBy_55 2 rfl 56 rfl ?_
          refine k_iload_n C dX12_groundBy_56 3 rfl 57 rfl ?_
          refine k_iconst C dX12_groundBy_57 (4) (by decide) 58 rfl ?_
          refine k_irem C dX12_groundBy_58 (by decide) 59 rfl ?_
          refine k_iadd C dX12_groundBy_59 60 rfl ?_
          exact k_iret C hr h0 dX12_groundBy_60 hf
        · skip
          refine k_split hf (fun he hf => ?_) (fun hn3 hf => ?_)
          · refine k_tswIn (off := 44) C dX12_groundBy_17 (4) he (by decide) 61 rfl ?_
            refine k_iload C dX12_groundBy_61 0 rfl 63 rfl ?_
            refine k_iconst C dX12_groundBy_63 (1) (by decide) 64 rfl ?_
            refine k_iadd C dX12_groundBy_64 65 rfl ?_
            exact k_iret C hr h0 dX12_groundBy_65 hf
          · skip
            refine k_split hf (fun he hf => ?_) (fun hn4 hf => ?_)
            · refine k_tswIn (off := 49) C dX12_groundBy_17 (5) he (by decide) 66 rfl ?_
              refine k_iconst C dX12_groundBy_66 (0) (by decide) 67 rfl ?_
              exact k_iret C hr h0 dX12_groundBy_67 hf
            · skip
              refine k_tswOut C dX12_groundBy_17 (tsw_out [(1 : Int32), (2 : Int32), (3 : Int32), (4 : Int32), (5 : Int32)] (List.forall_mem_cons.mpr ⟨hn0, (List.forall_mem_cons.mpr ⟨hn1, (List.forall_mem_cons.mpr ⟨hn2, (List.forall_mem_cons.mpr ⟨hn3, (List.forall_mem_cons.mpr ⟨hn4, (fun _ h => absurd h List.not_mem_nil)⟩)⟩)⟩)⟩)⟩) (by decide)) 68 rfl ?_
              refine k_iload_n C dX12_groundBy_68 2 rfl 69 rfl ?_
              exact k_iret C hr h0 dX12_groundBy_69 hf
  unfold f_X12_groundBy at hf
  refine k_sub (lv2 := [(0, .int p0), (1, .int p1), (2, .int p2), (3, .int p3)]) [0, 1, 2, 3] rfl ?_
  refine k_iload_n C dX12_groundBy_0 3 rfl 1 rfl ?_
  refine k_iconst C dX12_groundBy_1 (4) (by decide) 2 rfl ?_
  refine k_icmp_le C dX12_groundBy_2 hf 13 rfl 5 rfl (fun hf => ?_) (fun hf => ?_)
  · refine k_iload_n C dX12_groundBy_13 1 rfl 14 rfl ?_
    refine k_sub [0, 1, 2] rfl ?_
    exact t_14 _ _ _ _ w0 hf
  · refine k_iload_n C dX12_groundBy_5 1 rfl 6 rfl ?_
    refine k_iconst C dX12_groundBy_6 (1) (by decide) 7 rfl ?_
    refine k_iadd C dX12_groundBy_7 8 rfl ?_
    refine k_iconst C dX12_groundBy_8 (2) (by decide) 9 rfl ?_
    refine k_idiv C dX12_groundBy_9 (by decide) 10 rfl ?_
    refine k_goto C dX12_groundBy_10 14 rfl ?_
    refine k_sub [0, 1, 2] rfl ?_
    exact t_14 _ _ _ _ w0 hf
theorem dX12_ground_0 : decode cX12_ground 0 = .ok (.aload_n 0, 1) := by decide +kernel
theorem dX12_ground_1 : decode cX12_ground 1 = .ok (.getfield 7, 3) := by decide +kernel
theorem dX12_ground_4 : decode cX12_ground 4 = .ok (.bipush 20, 2) := by decide +kernel
theorem dX12_ground_6 : decode cX12_ground 6 = .ok (.iload_n 1, 1) := by decide +kernel
theorem dX12_ground_7 : decode cX12_ground 7 = .ok (.iadd, 1) := by decide +kernel
theorem dX12_ground_8 : decode cX12_ground 8 = .ok (.iaload, 1) := by decide +kernel
theorem dX12_ground_9 : decode cX12_ground 9 = .ok (.aload_n 0, 1) := by decide +kernel
theorem dX12_ground_10 : decode cX12_ground 10 = .ok (.getfield 7, 3) := by decide +kernel
theorem dX12_ground_13 : decode cX12_ground 13 = .ok (.bipush 26, 2) := by decide +kernel
theorem dX12_ground_15 : decode cX12_ground 15 = .ok (.iload_n 1, 1) := by decide +kernel
theorem dX12_ground_16 : decode cX12_ground 16 = .ok (.iadd, 1) := by decide +kernel
theorem dX12_ground_17 : decode cX12_ground 17 = .ok (.iaload, 1) := by decide +kernel
theorem dX12_ground_18 : decode cX12_ground 18 = .ok (.iload_n 2, 1) := by decide +kernel
theorem dX12_ground_19 : decode cX12_ground 19 = .ok (.iload_n 3, 1) := by decide +kernel
theorem dX12_ground_20 : decode cX12_ground 20 = .ok (.invokestatic 120, 3) := by decide +kernel
theorem dX12_ground_23 : decode cX12_ground 23 = .ok (.ireturn, 1) := by decide +kernel
set_option maxRecDepth 100000 in
set_option maxHeartbeats 4000000 in
theorem c_X12_ground {g : Gv} {l : Launch} (p0 : Nat) (p1 : Int32) (p2 : Int32) (p3 : Int32) (w0 : Wd) (rz : Int32) (wz : Wd) (hf : f_X12_ground p0 p1 p2 p3 w0 = some (rz, wz)) : MI g l yX12_ground cX12_ground 4 .int 1 24 [rV g p0, .int p1, .int p2, .int p3] w0 rz wz := by
  refine mi_of RX12 (by decide) rfl (Nat.le_of_ble_eq_true rfl) ?_
  intro X hg hll C hr h0
  subst hg; subst hll
  unfold f_X12_ground at hf
  refine k_sub (lv2 := [(0, rV (xg X) p0), (1, .int p1), (2, .int p2), (3, .int p3)]) [0, 1, 2, 3] rfl ?_
  refine k_aload_n C dX12_ground_0 0 rfl rfl 1 rfl ?_
  refine k_getR C fe_X12_7 rfl dX12_ground_1 hf 4 rfl (fun r7 hf => ?_)
  refine k_bipush C dX12_ground_4 (20) (by decide) 6 rfl ?_
  refine k_iload_n C dX12_ground_6 1 rfl 7 rfl ?_
  refine k_iadd C dX12_ground_7 8 rfl ?_
  refine k_iald C dX12_ground_8 hf 9 rfl (fun x8 hf => ?_)
  refine k_aload_n C dX12_ground_9 0 rfl rfl 10 rfl ?_
  refine k_getR C fe_X12_7 rfl dX12_ground_10 hf 13 rfl (fun r9 hf => ?_)
  refine k_bipush C dX12_ground_13 (26) (by decide) 15 rfl ?_
  refine k_iload_n C dX12_ground_15 1 rfl 16 rfl ?_
  refine k_iadd C dX12_ground_16 17 rfl ?_
  refine k_iald C dX12_ground_17 hf 18 rfl (fun x10 hf => ?_)
  refine k_iload_n C dX12_ground_18 2 rfl 19 rfl ?_
  refine k_iload_n C dX12_ground_19 3 rfl 20 rfl ?_
  refine k_callS_i C ye_X12_groundBy se_X12_120 ⟨rfl, rfl⟩ ⟨rfl, rfl⟩ dX12_ground_20 [.int x8, .int x10, .int p2, .int p3] rfl rfl (Nat.le_of_ble_eq_true rfl) (c_X12_groundBy _ _ _ _ _) hf 23 rfl (fun x12 w11 hf => ?_)
  exact k_iret C hr h0 dX12_ground_23 hf
theorem dX12_brings_0 : decode cX12_brings 0 = .ok (.iload_n 2, 1) := by decide +kernel
theorem dX12_brings_1 : decode cX12_brings 1 = .ok (.aload_n 0, 1) := by decide +kernel
theorem dX12_brings_2 : decode cX12_brings 2 = .ok (.iload_n 1, 1) := by decide +kernel
theorem dX12_brings_3 : decode cX12_brings 3 = .ok (.iconst 0, 1) := by decide +kernel
theorem dX12_brings_4 : decode cX12_brings 4 = .ok (.aload_n 0, 1) := by decide +kernel
theorem dX12_brings_5 : decode cX12_brings 5 = .ok (.getfield 7, 3) := by decide +kernel
theorem dX12_brings_8 : decode cX12_brings 8 = .ok (.bipush 16, 2) := by decide +kernel
theorem dX12_brings_10 : decode cX12_brings 10 = .ok (.iaload, 1) := by decide +kernel
theorem dX12_brings_11 : decode cX12_brings 11 = .ok (.invokevirtual 124, 3) := by decide +kernel
theorem dX12_brings_14 : decode cX12_brings 14 = .ok (.imul, 1) := by decide +kernel
theorem dX12_brings_15 : decode cX12_brings 15 = .ok (.istore_n 3, 1) := by decide +kernel
theorem dX12_brings_16 : decode cX12_brings 16 = .ok (.iconst 0, 1) := by decide +kernel
theorem dX12_brings_17 : decode cX12_brings 17 = .ok (.istore 4, 2) := by decide +kernel
theorem dX12_brings_19 : decode cX12_brings 19 = .ok (.iconst 0, 1) := by decide +kernel
theorem dX12_brings_20 : decode cX12_brings 20 = .ok (.istore 5, 2) := by decide +kernel
theorem dX12_brings_22 : decode cX12_brings 22 = .ok (.iload 5, 2) := by decide +kernel
theorem dX12_brings_24 : decode cX12_brings 24 = .ok (.iload_n 3, 1) := by decide +kernel
theorem dX12_brings_25 : decode cX12_brings 25 = .ok (.if_icmp .ge 31, 3) := by decide +kernel
theorem dX12_brings_28 : decode cX12_brings 28 = .ok (.iload 4, 2) := by decide +kernel
theorem dX12_brings_30 : decode cX12_brings 30 = .ok (.aload_n 0, 1) := by decide +kernel
theorem dX12_brings_31 : decode cX12_brings 31 = .ok (.iload_n 1, 1) := by decide +kernel
theorem dX12_brings_32 : decode cX12_brings 32 = .ok (.aload_n 0, 1) := by decide +kernel
theorem dX12_brings_33 : decode cX12_brings 33 = .ok (.getfield 7, 3) := by decide +kernel
theorem dX12_brings_36 : decode cX12_brings 36 = .ok (.bipush 6, 2) := by decide +kernel
theorem dX12_brings_38 : decode cX12_brings 38 = .ok (.iload_n 1, 1) := by decide +kernel
theorem dX12_brings_39 : decode cX12_brings 39 = .ok (.iadd, 1) := by decide +kernel
theorem dX12_brings_40 : decode cX12_brings 40 = .ok (.iaload, 1) := by decide +kernel
theorem dX12_brings_41 : decode cX12_brings 41 = .ok (.iload 5, 2) := by decide +kernel
theorem dX12_brings_43 : decode cX12_brings 43 = .ok (.iadd, 1) := by decide +kernel
theorem dX12_brings_44 : decode cX12_brings 44 = .ok (.invokevirtual 150, 3) := by decide +kernel
theorem dX12_brings_47 : decode cX12_brings 47 = .ok (.iadd, 1) := by decide +kernel
theorem dX12_brings_48 : decode cX12_brings 48 = .ok (.istore 4, 2) := by decide +kernel
theorem dX12_brings_50 : decode cX12_brings 50 = .ok (.iinc 5 1, 3) := by decide +kernel
theorem dX12_brings_53 : decode cX12_brings 53 = .ok (.goto (-31), 3) := by decide +kernel
theorem dX12_brings_56 : decode cX12_brings 56 = .ok (.iload 4, 2) := by decide +kernel
theorem dX12_brings_58 : decode cX12_brings 58 = .ok (.ireturn, 1) := by decide +kernel
set_option maxRecDepth 100000 in
set_option maxHeartbeats 4000000 in
theorem c_X12_brings {g : Gv} {l : Launch} (p0 : Nat) (p1 : Int32) (p2 : Int32) (w0 : Wd) (rz : Int32) (wz : Wd) (hf : f_X12_brings p0 p1 p2 w0 = some (rz, wz)) : MI g l yX12_brings cX12_brings 6 .int 2 47 [rV g p0, .int p1, .int p2] w0 rz wz := by
  refine mi_of RX12 (by decide) rfl (Nat.le_of_ble_eq_true rfl) ?_
  intro X hg hll C hr h0
  subst hg; subst hll
  have t_22 : ∀ (n : Nat) (v0 : Nat) (v1 : Int32) (v3 : Int32) (v4 : Int32) (v5 : Int32) (w : Wd), f_X12_brings_22 n v0 v1 v3 v4 v5 w = some (rz, wz) → Wk X 0 0 (QI X w0 rz wz) w [(0, rV (xg X) v0), (1, .int v1), (3, .int v3), (4, .int v4), (5, .int v5)] 22 [] := by
    intro n
    induction n with
    | zero => intro v0 v1 v3 v4 v5 w hf; rw [f_X12_brings_22] at hf; cases hf
    | succ n22 ih22 =>
      intro v0 v1 v3 v4 v5 w hf
      rw [f_X12_brings_22] at hf
      refine k_iload C dX12_brings_22 4 rfl 24 rfl ?_
      refine k_iload_n C dX12_brings_24 2 rfl 25 rfl ?_
      refine k_icmp_ge C dX12_brings_25 hf 56 rfl 28 rfl (fun hf => ?_) (fun hf => ?_)
      · refine k_iload C dX12_brings_56 3 rfl 58 rfl ?_
        exact k_iret C hr h0 dX12_brings_58 hf
      · refine k_iload C dX12_brings_28 3 rfl 30 rfl ?_
        refine k_aload_n C dX12_brings_30 0 rfl rfl 31 rfl ?_
        refine k_iload_n C dX12_brings_31 1 rfl 32 rfl ?_
        refine k_aload_n C dX12_brings_32 0 rfl rfl 33 rfl ?_
        refine k_getR C fe_X12_7 rfl dX12_brings_33 hf 36 rfl (fun r11 hf => ?_)
        refine k_bipush C dX12_brings_36 (6) (by decide) 38 rfl ?_
        refine k_iload_n C dX12_brings_38 1 rfl 39 rfl ?_
        refine k_iadd C dX12_brings_39 40 rfl ?_
        refine k_iald C dX12_brings_40 hf 41 rfl (fun x12 hf => ?_)
        refine k_iload C dX12_brings_41 4 rfl 43 rfl ?_
        refine k_iadd C dX12_brings_43 44 rfl ?_
        refine k_callV_i C ye_X12_fetches ve_X12_150 ⟨rfl, rfl⟩ ⟨rfl, rfl⟩ dX12_brings_44 [.int v1, .int (x12 + v5)] rfl rfl (Nat.le_of_ble_eq_true rfl) (c_X12_fetches _ _ _ _) hf 47 rfl (fun x14 w13 hf => ?_)
        refine k_iadd C dX12_brings_47 48 rfl ?_
        refine k_nmi hf (fun x15 hf => ?_)
        refine k_istore C dX12_brings_48 (by decide) [(4, .int x15), (0, rV (xg X) v0), (1, .int v1), (3, .int v3), (5, .int v5)] rfl 50 rfl ?_
        refine k_iinc C dX12_brings_50 4 rfl (by decide) (by decide) [(5, .int (v5 + (1 : Int32))), (4, .int x15), (0, rV (xg X) v0), (1, .int v1), (3, .int v3)] rfl 53 rfl ?_
        refine k_goto C dX12_brings_53 22 rfl ?_
        refine k_sub [2, 3, 4, 1, 0] rfl ?_
        exact ih22 _ _ _ _ _ w13 hf
  unfold f_X12_brings at hf
  refine k_sub (lv2 := [(0, rV (xg X) p0), (1, .int p1), (2, .int p2)]) [0, 1, 2] rfl ?_
  refine k_iload_n C dX12_brings_0 2 rfl 1 rfl ?_
  refine k_aload_n C dX12_brings_1 0 rfl rfl 2 rfl ?_
  refine k_iload_n C dX12_brings_2 1 rfl 3 rfl ?_
  refine k_iconst C dX12_brings_3 (0) (by decide) 4 rfl ?_
  refine k_aload_n C dX12_brings_4 0 rfl rfl 5 rfl ?_
  refine k_getR C fe_X12_7 rfl dX12_brings_5 hf 8 rfl (fun r16 hf => ?_)
  refine k_bipush C dX12_brings_8 (16) (by decide) 10 rfl ?_
  refine k_iald C dX12_brings_10 hf 11 rfl (fun x17 hf => ?_)
  refine k_callV_i C ye_X12_ground ve_X12_124 ⟨rfl, rfl⟩ ⟨rfl, rfl⟩ dX12_brings_11 [.int p1, .int (0 : Int32), .int x17] rfl rfl (Nat.le_of_ble_eq_true rfl) (c_X12_ground _ _ _ _ _) hf 14 rfl (fun x19 w18 hf => ?_)
  refine k_imul C dX12_brings_14 15 rfl ?_
  refine k_nmi hf (fun x20 hf => ?_)
  refine k_istore_n C dX12_brings_15 rfl (by decide) [(3, .int x20), (0, rV (xg X) p0), (1, .int p1), (2, .int p2)] rfl 16 rfl ?_
  refine k_iconst C dX12_brings_16 (0) (by decide) 17 rfl ?_
  refine k_istore C dX12_brings_17 (by decide) [(4, .int (0 : Int32)), (3, .int x20), (0, rV (xg X) p0), (1, .int p1), (2, .int p2)] rfl 19 rfl ?_
  refine k_iconst C dX12_brings_19 (0) (by decide) 20 rfl ?_
  refine k_istore C dX12_brings_20 (by decide) [(5, .int (0 : Int32)), (4, .int (0 : Int32)), (3, .int x20), (0, rV (xg X) p0), (1, .int p1), (2, .int p2)] rfl 22 rfl ?_
  refine k_sub [3, 4, 2, 1, 0] rfl ?_
  exact t_22 4096 _ _ _ _ _ w18 hf
theorem dX12_in_0 : decode cX12_in 0 = .ok (.iload_n 0, 1) := by decide +kernel
theorem dX12_in_1 : decode cX12_in 1 = .ok (.iload_n 1, 1) := by decide +kernel
theorem dX12_in_2 : decode cX12_in 2 = .ok (.if_icmp .lt 12, 3) := by decide +kernel
theorem dX12_in_5 : decode cX12_in 5 = .ok (.iload_n 0, 1) := by decide +kernel
theorem dX12_in_6 : decode cX12_in 6 = .ok (.iload_n 2, 1) := by decide +kernel
theorem dX12_in_7 : decode cX12_in 7 = .ok (.if_icmp .gt 7, 3) := by decide +kernel
theorem dX12_in_10 : decode cX12_in 10 = .ok (.iconst 1, 1) := by decide +kernel
theorem dX12_in_11 : decode cX12_in 11 = .ok (.goto 4, 3) := by decide +kernel
theorem dX12_in_14 : decode cX12_in 14 = .ok (.iconst 0, 1) := by decide +kernel
theorem dX12_in_15 : decode cX12_in 15 = .ok (.ireturn, 1) := by decide +kernel
set_option maxRecDepth 100000 in
set_option maxHeartbeats 4000000 in
theorem c_X12_in {g : Gv} {l : Launch} (p0 : Int32) (p1 : Int32) (p2 : Int32) (w0 : Wd) (rz : Int32) (wz : Wd) (hf : f_X12_in p0 p1 p2 w0 = some (rz, wz)) : MI g l yX12_in cX12_in 3 .boolean 0 0 [.int p0, .int p1, .int p2] w0 rz wz := by
  refine mi_of RX12 (by decide) rfl (Nat.le_of_ble_eq_true rfl) ?_
  intro X hg hll C hr h0
  subst hg; subst hll
  have t_15 : ∀ (s0 : Int32) (w : Wd), f_X12_in_15 s0 w = some (rz, wz) → Wk X 0 0 (QI X w0 rz wz) w [] 15 [.int s0] := by
    intro s0 w hf
    unfold f_X12_in_15 at hf
    exact k_zret C hr h0 dX12_in_15 hf
  have t_14 : ∀ (w : Wd), f_X12_in_14 w = some (rz, wz) → Wk X 0 0 (QI X w0 rz wz) w [] 14 [] := by
    intro w hf
    unfold f_X12_in_14 at hf
    refine k_iconst C dX12_in_14 (0) (by decide) 15 rfl ?_
    refine k_sub [] rfl ?_
    exact t_15 _ w hf
  unfold f_X12_in at hf
  refine k_sub (lv2 := [(0, .int p0), (1, .int p1), (2, .int p2)]) [0, 1, 2] rfl ?_
  refine k_iload_n C dX12_in_0 0 rfl 1 rfl ?_
  refine k_iload_n C dX12_in_1 1 rfl 2 rfl ?_
  refine k_icmp_lt C dX12_in_2 hf 14 rfl 5 rfl (fun hf => ?_) (fun hf => ?_)
  · refine k_sub [] rfl ?_
    exact t_14 w0 hf
  · refine k_iload_n C dX12_in_5 0 rfl 6 rfl ?_
    refine k_iload_n C dX12_in_6 2 rfl 7 rfl ?_
    refine k_icmp_gt C dX12_in_7 hf 14 rfl 10 rfl (fun hf => ?_) (fun hf => ?_)
    · refine k_sub [] rfl ?_
      exact t_14 w0 hf
    · refine k_iconst C dX12_in_10 (1) (by decide) 11 rfl ?_
      refine k_goto C dX12_in_11 15 rfl ?_
      refine k_sub [] rfl ?_
      exact t_15 _ w0 hf
theorem dX12_isGoods_0 : decode cX12_isGoods 0 = .ok (.iload_n 1, 1) := by decide +kernel
theorem dX12_isGoods_1 : decode cX12_isGoods 1 = .ok (.iconst 0, 1) := by decide +kernel
theorem dX12_isGoods_2 : decode cX12_isGoods 2 = .ok (.aload_n 0, 1) := by decide +kernel
theorem dX12_isGoods_3 : decode cX12_isGoods 3 = .ok (.getfield 7, 3) := by decide +kernel
theorem dX12_isGoods_6 : decode cX12_isGoods 6 = .ok (.bipush 19, 2) := by decide +kernel
theorem dX12_isGoods_8 : decode cX12_isGoods 8 = .ok (.iaload, 1) := by decide +kernel
theorem dX12_isGoods_9 : decode cX12_isGoods 9 = .ok (.iconst 1, 1) := by decide +kernel
theorem dX12_isGoods_10 : decode cX12_isGoods 10 = .ok (.isub, 1) := by decide +kernel
theorem dX12_isGoods_11 : decode cX12_isGoods 11 = .ok (.invokestatic 52, 3) := by decide +kernel
theorem dX12_isGoods_14 : decode cX12_isGoods 14 = .ok (.ireturn, 1) := by decide +kernel
set_option maxRecDepth 100000 in
set_option maxHeartbeats 4000000 in
theorem c_X12_isGoods {g : Gv} {l : Launch} (p0 : Nat) (p1 : Int32) (w0 : Wd) (rz : Int32) (wz : Wd) (hf : f_X12_isGoods p0 p1 w0 = some (rz, wz)) : MI g l yX12_isGoods cX12_isGoods 2 .boolean 1 22 [rV g p0, .int p1] w0 rz wz := by
  refine mi_of RX12 (by decide) rfl (Nat.le_of_ble_eq_true rfl) ?_
  intro X hg hll C hr h0
  subst hg; subst hll
  unfold f_X12_isGoods at hf
  refine k_sub (lv2 := [(0, rV (xg X) p0), (1, .int p1)]) [0, 1] rfl ?_
  refine k_iload_n C dX12_isGoods_0 1 rfl 1 rfl ?_
  refine k_iconst C dX12_isGoods_1 (0) (by decide) 2 rfl ?_
  refine k_aload_n C dX12_isGoods_2 0 rfl rfl 3 rfl ?_
  refine k_getR C fe_X12_7 rfl dX12_isGoods_3 hf 6 rfl (fun r5 hf => ?_)
  refine k_bipush C dX12_isGoods_6 (19) (by decide) 8 rfl ?_
  refine k_iald C dX12_isGoods_8 hf 9 rfl (fun x6 hf => ?_)
  refine k_iconst C dX12_isGoods_9 (1) (by decide) 10 rfl ?_
  refine k_isub C dX12_isGoods_10 11 rfl ?_
  refine k_callS_i C ye_X12_in se_X12_52 ⟨rfl, rfl⟩ ⟨rfl, rfl⟩ dX12_isGoods_11 [.int p1, .int (0 : Int32), .int (x6 - (1 : Int32))] rfl rfl (Nat.le_of_ble_eq_true rfl) (c_X12_in _ _ _ _) hf 14 rfl (fun x8 w7 hf => ?_)
  exact k_zret C hr h0 dX12_isGoods_14 hf
theorem dX12_layRichest_0 : decode cX12_layRichest 0 = .ok (.iconst 0, 1) := by decide +kernel
theorem dX12_layRichest_1 : decode cX12_layRichest 1 = .ok (.istore_n 2, 1) := by decide +kernel
theorem dX12_layRichest_2 : decode cX12_layRichest 2 = .ok (.iload_n 2, 1) := by decide +kernel
theorem dX12_layRichest_3 : decode cX12_layRichest 3 = .ok (.iload_n 1, 1) := by decide +kernel
theorem dX12_layRichest_4 : decode cX12_layRichest 4 = .ok (.if_icmp .gt 27, 3) := by decide +kernel
theorem dX12_layRichest_7 : decode cX12_layRichest 7 = .ok (.aload_n 0, 1) := by decide +kernel
theorem dX12_layRichest_8 : decode cX12_layRichest 8 = .ok (.getfield 36, 3) := by decide +kernel
theorem dX12_layRichest_11 : decode cX12_layRichest 11 = .ok (.bipush 13, 2) := by decide +kernel
theorem dX12_layRichest_13 : decode cX12_layRichest 13 = .ok (.aload_n 0, 1) := by decide +kernel
theorem dX12_layRichest_14 : decode cX12_layRichest 14 = .ok (.getfield 7, 3) := by decide +kernel
theorem dX12_layRichest_17 : decode cX12_layRichest 17 = .ok (.bipush 19, 2) := by decide +kernel
theorem dX12_layRichest_19 : decode cX12_layRichest 19 = .ok (.iaload, 1) := by decide +kernel
theorem dX12_layRichest_20 : decode cX12_layRichest 20 = .ok (.imul, 1) := by decide +kernel
theorem dX12_layRichest_21 : decode cX12_layRichest 21 = .ok (.iload_n 2, 1) := by decide +kernel
theorem dX12_layRichest_22 : decode cX12_layRichest 22 = .ok (.iadd, 1) := by decide +kernel
theorem dX12_layRichest_23 : decode cX12_layRichest 23 = .ok (.iconst 0, 1) := by decide +kernel
theorem dX12_layRichest_24 : decode cX12_layRichest 24 = .ok (.iastore, 1) := by decide +kernel
theorem dX12_layRichest_25 : decode cX12_layRichest 25 = .ok (.iinc 2 1, 3) := by decide +kernel
theorem dX12_layRichest_28 : decode cX12_layRichest 28 = .ok (.goto (-26), 3) := by decide +kernel
theorem dX12_layRichest_31 : decode cX12_layRichest 31 = .ok (.aload_n 0, 1) := by decide +kernel
theorem dX12_layRichest_32 : decode cX12_layRichest 32 = .ok (.getfield 7, 3) := by decide +kernel
theorem dX12_layRichest_35 : decode cX12_layRichest 35 = .ok (.bipush 19, 2) := by decide +kernel
theorem dX12_layRichest_37 : decode cX12_layRichest 37 = .ok (.iaload, 1) := by decide +kernel
theorem dX12_layRichest_38 : decode cX12_layRichest 38 = .ok (.iconst 1, 1) := by decide +kernel
theorem dX12_layRichest_39 : decode cX12_layRichest 39 = .ok (.isub, 1) := by decide +kernel
theorem dX12_layRichest_40 : decode cX12_layRichest 40 = .ok (.istore_n 2, 1) := by decide +kernel
theorem dX12_layRichest_41 : decode cX12_layRichest 41 = .ok (.iload_n 2, 1) := by decide +kernel
theorem dX12_layRichest_42 : decode cX12_layRichest 42 = .ok (.ifCond .lt 95, 3) := by decide +kernel
theorem dX12_layRichest_45 : decode cX12_layRichest 45 = .ok (.iconst 0, 1) := by decide +kernel
theorem dX12_layRichest_46 : decode cX12_layRichest 46 = .ok (.istore_n 3, 1) := by decide +kernel
theorem dX12_layRichest_47 : decode cX12_layRichest 47 = .ok (.iload_n 3, 1) := by decide +kernel
theorem dX12_layRichest_48 : decode cX12_layRichest 48 = .ok (.iload_n 1, 1) := by decide +kernel
theorem dX12_layRichest_49 : decode cX12_layRichest 49 = .ok (.if_icmp .gt 82, 3) := by decide +kernel
theorem dX12_layRichest_52 : decode cX12_layRichest 52 = .ok (.iconst 0, 1) := by decide +kernel
theorem dX12_layRichest_53 : decode cX12_layRichest 53 = .ok (.istore 4, 2) := by decide +kernel
theorem dX12_layRichest_55 : decode cX12_layRichest 55 = .ok (.iconst 0, 1) := by decide +kernel
theorem dX12_layRichest_56 : decode cX12_layRichest 56 = .ok (.istore 5, 2) := by decide +kernel
theorem dX12_layRichest_58 : decode cX12_layRichest 58 = .ok (.iload 5, 2) := by decide +kernel
theorem dX12_layRichest_60 : decode cX12_layRichest 60 = .ok (.iload_n 3, 1) := by decide +kernel
theorem dX12_layRichest_61 : decode cX12_layRichest 61 = .ok (.if_icmp .gt 51, 3) := by decide +kernel
theorem dX12_layRichest_64 : decode cX12_layRichest 64 = .ok (.aload_n 0, 1) := by decide +kernel
theorem dX12_layRichest_65 : decode cX12_layRichest 65 = .ok (.iload_n 2, 1) := by decide +kernel
theorem dX12_layRichest_66 : decode cX12_layRichest 66 = .ok (.iload 5, 2) := by decide +kernel
theorem dX12_layRichest_68 : decode cX12_layRichest 68 = .ok (.invokevirtual 159, 3) := by decide +kernel
theorem dX12_layRichest_71 : decode cX12_layRichest 71 = .ok (.aload_n 0, 1) := by decide +kernel
theorem dX12_layRichest_72 : decode cX12_layRichest 72 = .ok (.getfield 36, 3) := by decide +kernel
theorem dX12_layRichest_75 : decode cX12_layRichest 75 = .ok (.bipush 13, 2) := by decide +kernel
theorem dX12_layRichest_77 : decode cX12_layRichest 77 = .ok (.iload_n 2, 1) := by decide +kernel
theorem dX12_layRichest_78 : decode cX12_layRichest 78 = .ok (.iconst 1, 1) := by decide +kernel
theorem dX12_layRichest_79 : decode cX12_layRichest 79 = .ok (.iadd, 1) := by decide +kernel
theorem dX12_layRichest_80 : decode cX12_layRichest 80 = .ok (.imul, 1) := by decide +kernel
theorem dX12_layRichest_81 : decode cX12_layRichest 81 = .ok (.iload_n 3, 1) := by decide +kernel
theorem dX12_layRichest_82 : decode cX12_layRichest 82 = .ok (.iadd, 1) := by decide +kernel
theorem dX12_layRichest_83 : decode cX12_layRichest 83 = .ok (.iload 5, 2) := by decide +kernel
theorem dX12_layRichest_85 : decode cX12_layRichest 85 = .ok (.isub, 1) := by decide +kernel
theorem dX12_layRichest_86 : decode cX12_layRichest 86 = .ok (.iaload, 1) := by decide +kernel
theorem dX12_layRichest_87 : decode cX12_layRichest 87 = .ok (.iadd, 1) := by decide +kernel
theorem dX12_layRichest_88 : decode cX12_layRichest 88 = .ok (.istore 6, 2) := by decide +kernel
theorem dX12_layRichest_90 : decode cX12_layRichest 90 = .ok (.iload 6, 2) := by decide +kernel
theorem dX12_layRichest_92 : decode cX12_layRichest 92 = .ok (.iload 4, 2) := by decide +kernel
theorem dX12_layRichest_94 : decode cX12_layRichest 94 = .ok (.if_icmp .le 8, 3) := by decide +kernel
theorem dX12_layRichest_97 : decode cX12_layRichest 97 = .ok (.iload 6, 2) := by decide +kernel
theorem dX12_layRichest_99 : decode cX12_layRichest 99 = .ok (.goto 5, 3) := by decide +kernel
theorem dX12_layRichest_102 : decode cX12_layRichest 102 = .ok (.iload 4, 2) := by decide +kernel
theorem dX12_layRichest_104 : decode cX12_layRichest 104 = .ok (.istore 4, 2) := by decide +kernel
theorem dX12_layRichest_106 : decode cX12_layRichest 106 = .ok (.iinc 5 1, 3) := by decide +kernel
theorem dX12_layRichest_109 : decode cX12_layRichest 109 = .ok (.goto (-51), 3) := by decide +kernel
theorem dX12_layRichest_112 : decode cX12_layRichest 112 = .ok (.aload_n 0, 1) := by decide +kernel
theorem dX12_layRichest_113 : decode cX12_layRichest 113 = .ok (.getfield 36, 3) := by decide +kernel
theorem dX12_layRichest_116 : decode cX12_layRichest 116 = .ok (.bipush 13, 2) := by decide +kernel
theorem dX12_layRichest_118 : decode cX12_layRichest 118 = .ok (.iload_n 2, 1) := by decide +kernel
theorem dX12_layRichest_119 : decode cX12_layRichest 119 = .ok (.imul, 1) := by decide +kernel
theorem dX12_layRichest_120 : decode cX12_layRichest 120 = .ok (.iload_n 3, 1) := by decide +kernel
theorem dX12_layRichest_121 : decode cX12_layRichest 121 = .ok (.iadd, 1) := by decide +kernel
theorem dX12_layRichest_122 : decode cX12_layRichest 122 = .ok (.iload 4, 2) := by decide +kernel
theorem dX12_layRichest_124 : decode cX12_layRichest 124 = .ok (.iastore, 1) := by decide +kernel
theorem dX12_layRichest_125 : decode cX12_layRichest 125 = .ok (.iinc 3 1, 3) := by decide +kernel
theorem dX12_layRichest_128 : decode cX12_layRichest 128 = .ok (.goto (-81), 3) := by decide +kernel
theorem dX12_layRichest_131 : decode cX12_layRichest 131 = .ok (.iinc 2 (-1), 3) := by decide +kernel
theorem dX12_layRichest_134 : decode cX12_layRichest 134 = .ok (.goto (-93), 3) := by decide +kernel
theorem dX12_layRichest_137 : decode cX12_layRichest 137 = .ok (.return_, 1) := by decide +kernel
set_option maxRecDepth 100000 in
set_option maxHeartbeats 4000000 in
theorem c_X12_layRichest {g : Gv} {l : Launch} (p0 : Nat) (p1 : Int32) (w0 : Wd) (wz : Wd) (hf : f_X12_layRichest p0 p1 w0 = some ((), wz)) : MV g l yX12_layRichest cX12_layRichest 7 3 72 0 0 [rV g p0, .int p1] w0 wz := by
  refine mv_of RX12 (by decide) rfl (Nat.le_of_ble_eq_true rfl) ?_
  intro X hg hll C hr h0 hin
  subst hg; subst hll
  have t_41 : ∀ (n : Nat) (v0 : Nat) (v1 : Int32) (v2 : Int32) (w : Wd), f_X12_layRichest_41 n v0 v1 v2 w = some ((), wz) → Wk X 0 0 (QV X 0 0 w0 wz) w [(0, rV (xg X) v0), (1, .int v1), (2, .int v2)] 41 [] := by
    intro n
    induction n with
    | zero => intro v0 v1 v2 w hf; rw [f_X12_layRichest_41] at hf; cases hf
    | succ n41 ih41 =>
      have t_47 : ∀ (n : Nat) (v0 : Nat) (v1 : Int32) (v2 : Int32) (v3 : Int32) (w : Wd), f_X12_layRichest_47 (f_X12_layRichest_41 n41) n v0 v1 v2 v3 w = some ((), wz) → Wk X 0 0 (QV X 0 0 w0 wz) w [(0, rV (xg X) v0), (1, .int v1), (2, .int v2), (3, .int v3)] 47 [] := by
        intro n
        induction n with
        | zero => intro v0 v1 v2 v3 w hf; rw [f_X12_layRichest_47] at hf; cases hf
        | succ n47 ih47 =>
          have t_58 : ∀ (n : Nat) (v0 : Nat) (v1 : Int32) (v2 : Int32) (v3 : Int32) (v4 : Int32) (v5 : Int32) (w : Wd), f_X12_layRichest_58 (f_X12_layRichest_41 n41) (f_X12_layRichest_47 (f_X12_layRichest_41 n41) n47) n v0 v1 v2 v3 v4 v5 w = some ((), wz) → Wk X 0 0 (QV X 0 0 w0 wz) w [(0, rV (xg X) v0), (1, .int v1), (2, .int v2), (3, .int v3), (4, .int v4), (5, .int v5)] 58 [] := by
            intro n
            induction n with
            | zero => intro v0 v1 v2 v3 v4 v5 w hf; rw [f_X12_layRichest_58] at hf; cases hf
            | succ n58 ih58 =>
              have t_104 : ∀ (v0 : Nat) (v1 : Int32) (v2 : Int32) (v3 : Int32) (v5 : Int32) (s0 : Int32) (w : Wd), f_X12_layRichest_104 (f_X12_layRichest_41 n41) (f_X12_layRichest_47 (f_X12_layRichest_41 n41) n47) (f_X12_layRichest_58 (f_X12_layRichest_41 n41) (f_X12_layRichest_47 (f_X12_layRichest_41 n41) n47) n58) v0 v1 v2 v3 v5 s0 w = some ((), wz) → Wk X 0 0 (QV X 0 0 w0 wz) w [(0, rV (xg X) v0), (1, .int v1), (2, .int v2), (3, .int v3), (5, .int v5)] 104 [.int s0] := by
                intro v0 v1 v2 v3 v5 s0 w hf
                unfold f_X12_layRichest_104 at hf
                refine k_istore C dX12_layRichest_104 (by decide) [(4, .int s0), (0, rV (xg X) v0), (1, .int v1), (2, .int v2), (3, .int v3), (5, .int v5)] rfl 106 rfl ?_
                refine k_iinc C dX12_layRichest_106 5 rfl (by decide) (by decide) [(5, .int (v5 + (1 : Int32))), (4, .int s0), (0, rV (xg X) v0), (1, .int v1), (2, .int v2), (3, .int v3)] rfl 109 rfl ?_
                refine k_goto C dX12_layRichest_109 58 rfl ?_
                refine k_sub [2, 3, 4, 5, 1, 0] rfl ?_
                exact ih58 _ _ _ _ _ _ w hf
              intro v0 v1 v2 v3 v4 v5 w hf
              rw [f_X12_layRichest_58] at hf
              refine k_iload C dX12_layRichest_58 5 rfl 60 rfl ?_
              refine k_iload_n C dX12_layRichest_60 3 rfl 61 rfl ?_
              refine k_icmp_gt C dX12_layRichest_61 hf 112 rfl 64 rfl (fun hf => ?_) (fun hf => ?_)
              · refine k_aload_n C dX12_layRichest_112 0 rfl rfl 113 rfl ?_
                refine k_getR C fe_X12_36 rfl dX12_layRichest_113 hf 116 rfl (fun r15 hf => ?_)
                refine k_bipush C dX12_layRichest_116 (13) (by decide) 118 rfl ?_
                refine k_iload_n C dX12_layRichest_118 2 rfl 119 rfl ?_
                refine k_imul C dX12_layRichest_119 120 rfl ?_
                refine k_iload_n C dX12_layRichest_120 3 rfl 121 rfl ?_
                refine k_iadd C dX12_layRichest_121 122 rfl ?_
                refine k_iload C dX12_layRichest_122 4 rfl 124 rfl ?_
                refine k_iast C dX12_layRichest_124 hf 125 rfl (fun w16 _ hf => ?_)
                refine k_iinc C dX12_layRichest_125 3 rfl (by decide) (by decide) [(3, .int (v3 + (1 : Int32))), (0, rV (xg X) v0), (1, .int v1), (2, .int v2), (4, .int v4), (5, .int v5)] rfl 128 rfl ?_
                refine k_goto C dX12_layRichest_128 47 rfl ?_
                refine k_sub [1, 2, 3, 0] rfl ?_
                exact ih47 _ _ _ _ w16 hf
              · refine k_aload_n C dX12_layRichest_64 0 rfl rfl 65 rfl ?_
                refine k_iload_n C dX12_layRichest_65 2 rfl 66 rfl ?_
                refine k_iload C dX12_layRichest_66 5 rfl 68 rfl ?_
                refine k_callV_i C ye_X12_brings ve_X12_159 ⟨rfl, rfl⟩ ⟨rfl, rfl⟩ dX12_layRichest_68 [.int v2, .int v5] rfl rfl (Nat.le_of_ble_eq_true rfl) (c_X12_brings _ _ _ _) hf 71 rfl (fun x18 w17 hf => ?_)
                refine k_aload_n C dX12_layRichest_71 0 rfl rfl 72 rfl ?_
                refine k_getR C fe_X12_36 rfl dX12_layRichest_72 hf 75 rfl (fun r19 hf => ?_)
                refine k_bipush C dX12_layRichest_75 (13) (by decide) 77 rfl ?_
                refine k_iload_n C dX12_layRichest_77 2 rfl 78 rfl ?_
                refine k_iconst C dX12_layRichest_78 (1) (by decide) 79 rfl ?_
                refine k_iadd C dX12_layRichest_79 80 rfl ?_
                refine k_imul C dX12_layRichest_80 81 rfl ?_
                refine k_iload_n C dX12_layRichest_81 3 rfl 82 rfl ?_
                refine k_iadd C dX12_layRichest_82 83 rfl ?_
                refine k_iload C dX12_layRichest_83 5 rfl 85 rfl ?_
                refine k_isub C dX12_layRichest_85 86 rfl ?_
                refine k_iald C dX12_layRichest_86 hf 87 rfl (fun x20 hf => ?_)
                refine k_iadd C dX12_layRichest_87 88 rfl ?_
                refine k_nmi hf (fun x21 hf => ?_)
                refine k_istore C dX12_layRichest_88 (by decide) [(6, .int x21), (0, rV (xg X) v0), (1, .int v1), (2, .int v2), (3, .int v3), (4, .int v4), (5, .int v5)] rfl 90 rfl ?_
                refine k_iload C dX12_layRichest_90 0 rfl 92 rfl ?_
                refine k_iload C dX12_layRichest_92 5 rfl 94 rfl ?_
                refine k_icmp_le C dX12_layRichest_94 hf 102 rfl 97 rfl (fun hf => ?_) (fun hf => ?_)
                · refine k_iload C dX12_layRichest_102 5 rfl 104 rfl ?_
                  refine k_sub [1, 2, 3, 4, 6] rfl ?_
                  exact t_104 _ _ _ _ _ _ w17 hf
                · refine k_iload C dX12_layRichest_97 0 rfl 99 rfl ?_
                  refine k_goto C dX12_layRichest_99 104 rfl ?_
                  refine k_sub [1, 2, 3, 4, 6] rfl ?_
                  exact t_104 _ _ _ _ _ _ w17 hf
          intro v0 v1 v2 v3 w hf
          rw [f_X12_layRichest_47] at hf
          refine k_iload_n C dX12_layRichest_47 3 rfl 48 rfl ?_
          refine k_iload_n C dX12_layRichest_48 1 rfl 49 rfl ?_
          refine k_icmp_gt C dX12_layRichest_49 hf 131 rfl 52 rfl (fun hf => ?_) (fun hf => ?_)
          · refine k_iinc C dX12_layRichest_131 2 rfl (by decide) (by decide) [(2, .int (v2 + (-1 : Int32))), (0, rV (xg X) v0), (1, .int v1), (3, .int v3)] rfl 134 rfl ?_
            refine k_goto C dX12_layRichest_134 41 rfl ?_
            refine k_sub [1, 2, 0] rfl ?_
            exact ih41 _ _ _ w hf
          · refine k_iconst C dX12_layRichest_52 (0) (by decide) 53 rfl ?_
            refine k_istore C dX12_layRichest_53 (by decide) [(4, .int (0 : Int32)), (0, rV (xg X) v0), (1, .int v1), (2, .int v2), (3, .int v3)] rfl 55 rfl ?_
            refine k_iconst C dX12_layRichest_55 (0) (by decide) 56 rfl ?_
            refine k_istore C dX12_layRichest_56 (by decide) [(5, .int (0 : Int32)), (4, .int (0 : Int32)), (0, rV (xg X) v0), (1, .int v1), (2, .int v2), (3, .int v3)] rfl 58 rfl ?_
            refine k_sub [2, 3, 4, 5, 1, 0] rfl ?_
            exact t_58 4096 _ _ _ _ _ _ w hf
      intro v0 v1 v2 w hf
      rw [f_X12_layRichest_41] at hf
      refine k_iload_n C dX12_layRichest_41 2 rfl 42 rfl ?_
      refine k_if_lt C dX12_layRichest_42 hf 137 rfl 45 rfl (fun hf => ?_) (fun hf => ?_)
      · exact k_vret C hr h0 dX12_layRichest_137 hf
      · refine k_iconst C dX12_layRichest_45 (0) (by decide) 46 rfl ?_
        refine k_istore_n C dX12_layRichest_46 rfl (by decide) [(3, .int (0 : Int32)), (0, rV (xg X) v0), (1, .int v1), (2, .int v2)] rfl 47 rfl ?_
        refine k_sub [1, 2, 3, 0] rfl ?_
        exact t_47 4096 _ _ _ _ w hf
  have t_2 : ∀ (n : Nat) (v0 : Nat) (v1 : Int32) (v2 : Int32) (w : Wd), f_X12_layRichest_2 n v0 v1 v2 w = some ((), wz) → Wk X 0 0 (QV X 0 0 w0 wz) w [(0, rV (xg X) v0), (1, .int v1), (2, .int v2)] 2 [] := by
    intro n
    induction n with
    | zero => intro v0 v1 v2 w hf; rw [f_X12_layRichest_2] at hf; cases hf
    | succ n2 ih2 =>
      intro v0 v1 v2 w hf
      rw [f_X12_layRichest_2] at hf
      refine k_iload_n C dX12_layRichest_2 2 rfl 3 rfl ?_
      refine k_iload_n C dX12_layRichest_3 1 rfl 4 rfl ?_
      refine k_icmp_gt C dX12_layRichest_4 hf 31 rfl 7 rfl (fun hf => ?_) (fun hf => ?_)
      · refine k_aload_n C dX12_layRichest_31 0 rfl rfl 32 rfl ?_
        refine k_getR C fe_X12_7 rfl dX12_layRichest_32 hf 35 rfl (fun r22 hf => ?_)
        refine k_bipush C dX12_layRichest_35 (19) (by decide) 37 rfl ?_
        refine k_iald C dX12_layRichest_37 hf 38 rfl (fun x23 hf => ?_)
        refine k_iconst C dX12_layRichest_38 (1) (by decide) 39 rfl ?_
        refine k_isub C dX12_layRichest_39 40 rfl ?_
        refine k_nmi hf (fun x24 hf => ?_)
        refine k_istore_n C dX12_layRichest_40 rfl (by decide) [(2, .int x24), (0, rV (xg X) v0), (1, .int v1)] rfl 41 rfl ?_
        refine k_sub [1, 2, 0] rfl ?_
        exact t_41 4096 _ _ _ w hf
      · refine k_aload_n C dX12_layRichest_7 0 rfl rfl 8 rfl ?_
        refine k_getR C fe_X12_36 rfl dX12_layRichest_8 hf 11 rfl (fun r25 hf => ?_)
        refine k_bipush C dX12_layRichest_11 (13) (by decide) 13 rfl ?_
        refine k_aload_n C dX12_layRichest_13 0 rfl rfl 14 rfl ?_
        refine k_getR C fe_X12_7 rfl dX12_layRichest_14 hf 17 rfl (fun r26 hf => ?_)
        refine k_bipush C dX12_layRichest_17 (19) (by decide) 19 rfl ?_
        refine k_iald C dX12_layRichest_19 hf 20 rfl (fun x27 hf => ?_)
        refine k_imul C dX12_layRichest_20 21 rfl ?_
        refine k_iload_n C dX12_layRichest_21 2 rfl 22 rfl ?_
        refine k_iadd C dX12_layRichest_22 23 rfl ?_
        refine k_iconst C dX12_layRichest_23 (0) (by decide) 24 rfl ?_
        refine k_iast C dX12_layRichest_24 hf 25 rfl (fun w28 _ hf => ?_)
        refine k_iinc C dX12_layRichest_25 2 rfl (by decide) (by decide) [(2, .int (v2 + (1 : Int32))), (0, rV (xg X) v0), (1, .int v1)] rfl 28 rfl ?_
        refine k_goto C dX12_layRichest_28 2 rfl ?_
        refine k_sub [1, 2, 0] rfl ?_
        exact ih2 _ _ _ w28 hf
  unfold f_X12_layRichest at hf
  refine k_sub (lv2 := [(0, rV (xg X) p0), (1, .int p1)]) [0, 1] rfl ?_
  refine k_iconst C dX12_layRichest_0 (0) (by decide) 1 rfl ?_
  refine k_istore_n C dX12_layRichest_1 rfl (by decide) [(2, .int (0 : Int32)), (0, rV (xg X) p0), (1, .int p1)] rfl 2 rfl ?_
  refine k_sub [1, 2, 0] rfl ?_
  exact t_2 4096 _ _ _ w0 hf
theorem dX12_best_0 : decode cX12_best 0 = .ok (.iload_n 1, 1) := by decide +kernel
theorem dX12_best_1 : decode cX12_best 1 = .ok (.iconst 0, 1) := by decide +kernel
theorem dX12_best_2 : decode cX12_best 2 = .ok (.bipush 12, 2) := by decide +kernel
theorem dX12_best_4 : decode cX12_best 4 = .ok (.invokestatic 52, 3) := by decide +kernel
theorem dX12_best_7 : decode cX12_best 7 = .ok (.ifCond .eq 16, 3) := by decide +kernel
theorem dX12_best_10 : decode cX12_best 10 = .ok (.iload_n 2, 1) := by decide +kernel
theorem dX12_best_11 : decode cX12_best 11 = .ok (.iconst (-1), 1) := by decide +kernel
theorem dX12_best_12 : decode cX12_best 12 = .ok (.if_icmp .eq 16, 3) := by decide +kernel
theorem dX12_best_15 : decode cX12_best 15 = .ok (.aload_n 0, 1) := by decide +kernel
theorem dX12_best_16 : decode cX12_best 16 = .ok (.iload_n 2, 1) := by decide +kernel
theorem dX12_best_17 : decode cX12_best 17 = .ok (.invokevirtual 131, 3) := by decide +kernel
theorem dX12_best_20 : decode cX12_best 20 = .ok (.ifCond .ne 8, 3) := by decide +kernel
theorem dX12_best_23 : decode cX12_best 23 = .ok (.aload_n 0, 1) := by decide +kernel
theorem dX12_best_24 : decode cX12_best 24 = .ok (.invokevirtual 134, 3) := by decide +kernel
theorem dX12_best_27 : decode cX12_best 27 = .ok (.ireturn, 1) := by decide +kernel
theorem dX12_best_28 : decode cX12_best 28 = .ok (.aload_n 0, 1) := by decide +kernel
theorem dX12_best_29 : decode cX12_best 29 = .ok (.iload_n 1, 1) := by decide +kernel
theorem dX12_best_30 : decode cX12_best 30 = .ok (.invokevirtual 162, 3) := by decide +kernel
theorem dX12_best_33 : decode cX12_best 33 = .ok (.iload_n 2, 1) := by decide +kernel
theorem dX12_best_34 : decode cX12_best 34 = .ok (.iconst (-1), 1) := by decide +kernel
theorem dX12_best_35 : decode cX12_best 35 = .ok (.if_icmp .ne 10, 3) := by decide +kernel
theorem dX12_best_38 : decode cX12_best 38 = .ok (.aload_n 0, 1) := by decide +kernel
theorem dX12_best_39 : decode cX12_best 39 = .ok (.getfield 36, 3) := by decide +kernel
theorem dX12_best_42 : decode cX12_best 42 = .ok (.iload_n 1, 1) := by decide +kernel
theorem dX12_best_43 : decode cX12_best 43 = .ok (.iaload, 1) := by decide +kernel
theorem dX12_best_44 : decode cX12_best 44 = .ok (.ireturn, 1) := by decide +kernel
theorem dX12_best_45 : decode cX12_best 45 = .ok (.iload_n 1, 1) := by decide +kernel
theorem dX12_best_46 : decode cX12_best 46 = .ok (.istore_n 3, 1) := by decide +kernel
theorem dX12_best_47 : decode cX12_best 47 = .ok (.iconst 0, 1) := by decide +kernel
theorem dX12_best_48 : decode cX12_best 48 = .ok (.istore 4, 2) := by decide +kernel
theorem dX12_best_50 : decode cX12_best 50 = .ok (.iconst 0, 1) := by decide +kernel
theorem dX12_best_51 : decode cX12_best 51 = .ok (.istore 5, 2) := by decide +kernel
theorem dX12_best_53 : decode cX12_best 53 = .ok (.iload 5, 2) := by decide +kernel
theorem dX12_best_55 : decode cX12_best 55 = .ok (.iload_n 2, 1) := by decide +kernel
theorem dX12_best_56 : decode cX12_best 56 = .ok (.if_icmp .gt 64, 3) := by decide +kernel
theorem dX12_best_59 : decode cX12_best 59 = .ok (.iload_n 3, 1) := by decide +kernel
theorem dX12_best_60 : decode cX12_best 60 = .ok (.istore 4, 2) := by decide +kernel
theorem dX12_best_62 : decode cX12_best 62 = .ok (.aload_n 0, 1) := by decide +kernel
theorem dX12_best_63 : decode cX12_best 63 = .ok (.iload 5, 2) := by decide +kernel
theorem dX12_best_65 : decode cX12_best 65 = .ok (.iload 4, 2) := by decide +kernel
theorem dX12_best_67 : decode cX12_best 67 = .ok (.invokevirtual 159, 3) := by decide +kernel
theorem dX12_best_70 : decode cX12_best 70 = .ok (.aload_n 0, 1) := by decide +kernel
theorem dX12_best_71 : decode cX12_best 71 = .ok (.getfield 36, 3) := by decide +kernel
theorem dX12_best_74 : decode cX12_best 74 = .ok (.bipush 13, 2) := by decide +kernel
theorem dX12_best_76 : decode cX12_best 76 = .ok (.iload 5, 2) := by decide +kernel
theorem dX12_best_78 : decode cX12_best 78 = .ok (.iconst 1, 1) := by decide +kernel
theorem dX12_best_79 : decode cX12_best 79 = .ok (.iadd, 1) := by decide +kernel
theorem dX12_best_80 : decode cX12_best 80 = .ok (.imul, 1) := by decide +kernel
theorem dX12_best_81 : decode cX12_best 81 = .ok (.iload_n 3, 1) := by decide +kernel
theorem dX12_best_82 : decode cX12_best 82 = .ok (.iadd, 1) := by decide +kernel
theorem dX12_best_83 : decode cX12_best 83 = .ok (.iload 4, 2) := by decide +kernel
theorem dX12_best_85 : decode cX12_best 85 = .ok (.isub, 1) := by decide +kernel
theorem dX12_best_86 : decode cX12_best 86 = .ok (.iaload, 1) := by decide +kernel
theorem dX12_best_87 : decode cX12_best 87 = .ok (.iadd, 1) := by decide +kernel
theorem dX12_best_88 : decode cX12_best 88 = .ok (.aload_n 0, 1) := by decide +kernel
theorem dX12_best_89 : decode cX12_best 89 = .ok (.getfield 36, 3) := by decide +kernel
theorem dX12_best_92 : decode cX12_best 92 = .ok (.bipush 13, 2) := by decide +kernel
theorem dX12_best_94 : decode cX12_best 94 = .ok (.iload 5, 2) := by decide +kernel
theorem dX12_best_96 : decode cX12_best 96 = .ok (.imul, 1) := by decide +kernel
theorem dX12_best_97 : decode cX12_best 97 = .ok (.iload_n 3, 1) := by decide +kernel
theorem dX12_best_98 : decode cX12_best 98 = .ok (.iadd, 1) := by decide +kernel
theorem dX12_best_99 : decode cX12_best 99 = .ok (.iaload, 1) := by decide +kernel
theorem dX12_best_100 : decode cX12_best 100 = .ok (.if_icmp .eq 9, 3) := by decide +kernel
theorem dX12_best_103 : decode cX12_best 103 = .ok (.iinc 4 (-1), 3) := by decide +kernel
theorem dX12_best_106 : decode cX12_best 106 = .ok (.goto (-44), 3) := by decide +kernel
theorem dX12_best_109 : decode cX12_best 109 = .ok (.iload_n 3, 1) := by decide +kernel
theorem dX12_best_110 : decode cX12_best 110 = .ok (.iload 4, 2) := by decide +kernel
theorem dX12_best_112 : decode cX12_best 112 = .ok (.isub, 1) := by decide +kernel
theorem dX12_best_113 : decode cX12_best 113 = .ok (.istore_n 3, 1) := by decide +kernel
theorem dX12_best_114 : decode cX12_best 114 = .ok (.iinc 5 1, 3) := by decide +kernel
theorem dX12_best_117 : decode cX12_best 117 = .ok (.goto (-64), 3) := by decide +kernel
theorem dX12_best_120 : decode cX12_best 120 = .ok (.iload 4, 2) := by decide +kernel
theorem dX12_best_122 : decode cX12_best 122 = .ok (.ireturn, 1) := by decide +kernel
set_option maxRecDepth 100000 in
set_option maxHeartbeats 4000000 in
theorem c_X12_best {g : Gv} {l : Launch} (p0 : Nat) (p1 : Int32) (p2 : Int32) (w0 : Wd) (rz : Int32) (wz : Wd) (hf : f_X12_best p0 p1 p2 w0 = some (rz, wz)) : MI g l yX12_best cX12_best 6 .int 4 98 [rV g p0, .int p1, .int p2] w0 rz wz := by
  refine mi_of RX12 (by decide) rfl (Nat.le_of_ble_eq_true rfl) ?_
  intro X hg hll C hr h0
  subst hg; subst hll
  have t_53 : ∀ (n : Nat) (v0 : Nat) (v2 : Int32) (v3 : Int32) (v4 : Int32) (v5 : Int32) (w : Wd), f_X12_best_53 n v0 v2 v3 v4 v5 w = some (rz, wz) → Wk X 0 0 (QI X w0 rz wz) w [(0, rV (xg X) v0), (2, .int v2), (3, .int v3), (4, .int v4), (5, .int v5)] 53 [] := by
    intro n
    induction n with
    | zero => intro v0 v2 v3 v4 v5 w hf; rw [f_X12_best_53] at hf; cases hf
    | succ n53 ih53 =>
      have t_62 : ∀ (n : Nat) (v0 : Nat) (v2 : Int32) (v3 : Int32) (v4 : Int32) (v5 : Int32) (w : Wd), f_X12_best_62 (f_X12_best_53 n53) n v0 v2 v3 v4 v5 w = some (rz, wz) → Wk X 0 0 (QI X w0 rz wz) w [(0, rV (xg X) v0), (2, .int v2), (3, .int v3), (4, .int v4), (5, .int v5)] 62 [] := by
        intro n
        induction n with
        | zero => intro v0 v2 v3 v4 v5 w hf; rw [f_X12_best_62] at hf; cases hf
        | succ n62 ih62 =>
          intro v0 v2 v3 v4 v5 w hf
          rw [f_X12_best_62] at hf
          refine k_aload_n C dX12_best_62 0 rfl rfl 63 rfl ?_
          refine k_iload C dX12_best_63 4 rfl 65 rfl ?_
          refine k_iload C dX12_best_65 3 rfl 67 rfl ?_
          refine k_callV_i C ye_X12_brings ve_X12_159 ⟨rfl, rfl⟩ ⟨rfl, rfl⟩ dX12_best_67 [.int v5, .int v4] rfl rfl (Nat.le_of_ble_eq_true rfl) (c_X12_brings _ _ _ _) hf 70 rfl (fun x19 w18 hf => ?_)
          refine k_aload_n C dX12_best_70 0 rfl rfl 71 rfl ?_
          refine k_getR C fe_X12_36 rfl dX12_best_71 hf 74 rfl (fun r20 hf => ?_)
          refine k_bipush C dX12_best_74 (13) (by decide) 76 rfl ?_
          refine k_iload C dX12_best_76 4 rfl 78 rfl ?_
          refine k_iconst C dX12_best_78 (1) (by decide) 79 rfl ?_
          refine k_iadd C dX12_best_79 80 rfl ?_
          refine k_imul C dX12_best_80 81 rfl ?_
          refine k_iload_n C dX12_best_81 2 rfl 82 rfl ?_
          refine k_iadd C dX12_best_82 83 rfl ?_
          refine k_iload C dX12_best_83 3 rfl 85 rfl ?_
          refine k_isub C dX12_best_85 86 rfl ?_
          refine k_iald C dX12_best_86 hf 87 rfl (fun x21 hf => ?_)
          refine k_iadd C dX12_best_87 88 rfl ?_
          refine k_aload_n C dX12_best_88 0 rfl rfl 89 rfl ?_
          refine k_getR C fe_X12_36 rfl dX12_best_89 hf 92 rfl (fun r22 hf => ?_)
          refine k_bipush C dX12_best_92 (13) (by decide) 94 rfl ?_
          refine k_iload C dX12_best_94 4 rfl 96 rfl ?_
          refine k_imul C dX12_best_96 97 rfl ?_
          refine k_iload_n C dX12_best_97 2 rfl 98 rfl ?_
          refine k_iadd C dX12_best_98 99 rfl ?_
          refine k_iald C dX12_best_99 hf 100 rfl (fun x23 hf => ?_)
          refine k_icmp_eq C dX12_best_100 hf 109 rfl 103 rfl (fun hf => ?_) (fun hf => ?_)
          · refine k_iload_n C dX12_best_109 2 rfl 110 rfl ?_
            refine k_iload C dX12_best_110 3 rfl 112 rfl ?_
            refine k_isub C dX12_best_112 113 rfl ?_
            refine k_nmi hf (fun x24 hf => ?_)
            refine k_istore_n C dX12_best_113 rfl (by decide) [(3, .int x24), (0, rV (xg X) v0), (2, .int v2), (4, .int v4), (5, .int v5)] rfl 114 rfl ?_
            refine k_iinc C dX12_best_114 4 rfl (by decide) (by decide) [(5, .int (v5 + (1 : Int32))), (3, .int x24), (0, rV (xg X) v0), (2, .int v2), (4, .int v4)] rfl 117 rfl ?_
            refine k_goto C dX12_best_117 53 rfl ?_
            refine k_sub [2, 3, 1, 4, 0] rfl ?_
            exact ih53 _ _ _ _ _ w18 hf
          · refine k_iinc C dX12_best_103 3 rfl (by decide) (by decide) [(4, .int (v4 + (-1 : Int32))), (0, rV (xg X) v0), (2, .int v2), (3, .int v3), (5, .int v5)] rfl 106 rfl ?_
            refine k_goto C dX12_best_106 62 rfl ?_
            refine k_sub [1, 2, 3, 0, 4] rfl ?_
            exact ih62 _ _ _ _ _ w18 hf
      intro v0 v2 v3 v4 v5 w hf
      rw [f_X12_best_53] at hf
      refine k_iload C dX12_best_53 4 rfl 55 rfl ?_
      refine k_iload_n C dX12_best_55 1 rfl 56 rfl ?_
      refine k_icmp_gt C dX12_best_56 hf 120 rfl 59 rfl (fun hf => ?_) (fun hf => ?_)
      · refine k_iload C dX12_best_120 3 rfl 122 rfl ?_
        exact k_iret C hr h0 dX12_best_122 hf
      · refine k_iload_n C dX12_best_59 2 rfl 60 rfl ?_
        refine k_istore C dX12_best_60 (by decide) [(4, .int v3), (0, rV (xg X) v0), (2, .int v2), (3, .int v3), (5, .int v5)] rfl 62 rfl ?_
        refine k_sub [1, 2, 3, 0, 4] rfl ?_
        exact t_62 4096 _ _ _ _ _ w hf
  have t_28 : ∀ (v0 : Nat) (v1 : Int32) (v2 : Int32) (w : Wd), f_X12_best_28 v0 v1 v2 w = some (rz, wz) → Wk X 0 0 (QI X w0 rz wz) w [(0, rV (xg X) v0), (1, .int v1), (2, .int v2)] 28 [] := by
    intro v0 v1 v2 w hf
    unfold f_X12_best_28 at hf
    refine k_aload_n C dX12_best_28 0 rfl rfl 29 rfl ?_
    refine k_iload_n C dX12_best_29 1 rfl 30 rfl ?_
    refine k_callV_v C ye_X12_layRichest ve_X12_162 ⟨rfl, rfl⟩ ⟨rfl, rfl⟩ dX12_best_30 [.int v1] rfl rfl (Nat.le_of_ble_eq_true rfl) (c_X12_layRichest _ _ _) hf 33 rfl (fun w25 hf => ?_)
    refine k_iload_n C dX12_best_33 2 rfl 34 rfl ?_
    refine k_iconst C dX12_best_34 (-1) (by decide) 35 rfl ?_
    refine k_icmp_ne C dX12_best_35 hf 45 rfl 38 rfl (fun hf => ?_) (fun hf => ?_)
    · refine k_iload_n C dX12_best_45 1 rfl 46 rfl ?_
      refine k_istore_n C dX12_best_46 rfl (by decide) [(3, .int v1), (0, rV (xg X) v0), (1, .int v1), (2, .int v2)] rfl 47 rfl ?_
      refine k_iconst C dX12_best_47 (0) (by decide) 48 rfl ?_
      refine k_istore C dX12_best_48 (by decide) [(4, .int (0 : Int32)), (3, .int v1), (0, rV (xg X) v0), (1, .int v1), (2, .int v2)] rfl 50 rfl ?_
      refine k_iconst C dX12_best_50 (0) (by decide) 51 rfl ?_
      refine k_istore C dX12_best_51 (by decide) [(5, .int (0 : Int32)), (4, .int (0 : Int32)), (3, .int v1), (0, rV (xg X) v0), (1, .int v1), (2, .int v2)] rfl 53 rfl ?_
      refine k_sub [3, 5, 2, 1, 0] rfl ?_
      exact t_53 4096 _ _ _ _ _ w25 hf
    · refine k_aload_n C dX12_best_38 0 rfl rfl 39 rfl ?_
      refine k_getR C fe_X12_36 rfl dX12_best_39 hf 42 rfl (fun r27 hf => ?_)
      refine k_iload_n C dX12_best_42 1 rfl 43 rfl ?_
      refine k_iald C dX12_best_43 hf 44 rfl (fun x28 hf => ?_)
      exact k_iret C hr h0 dX12_best_44 hf
  have t_23 : ∀ (v0 : Nat) (w : Wd), f_X12_best_23 v0 w = some (rz, wz) → Wk X 0 0 (QI X w0 rz wz) w [(0, rV (xg X) v0)] 23 [] := by
    intro v0 w hf
    unfold f_X12_best_23 at hf
    refine k_aload_n C dX12_best_23 0 rfl rfl 24 rfl ?_
    refine k_callV_i C ye_X12_badTen ve_X12_134 ⟨rfl, rfl⟩ ⟨rfl, rfl⟩ dX12_best_24 [] rfl rfl (Nat.le_of_ble_eq_true rfl) (c_X12_badTen _ _) hf 27 rfl (fun x30 w29 hf => ?_)
    exact k_iret C hr h0 dX12_best_27 hf
  unfold f_X12_best at hf
  refine k_sub (lv2 := [(0, rV (xg X) p0), (1, .int p1), (2, .int p2)]) [0, 1, 2] rfl ?_
  refine k_iload_n C dX12_best_0 1 rfl 1 rfl ?_
  refine k_iconst C dX12_best_1 (0) (by decide) 2 rfl ?_
  refine k_bipush C dX12_best_2 (12) (by decide) 4 rfl ?_
  refine k_callS_i C ye_X12_in se_X12_52 ⟨rfl, rfl⟩ ⟨rfl, rfl⟩ dX12_best_4 [.int p1, .int (0 : Int32), .int (12 : Int32)] rfl rfl (Nat.le_of_ble_eq_true rfl) (c_X12_in _ _ _ _) hf 7 rfl (fun x32 w31 hf => ?_)
  refine k_if_eq C dX12_best_7 hf 23 rfl 10 rfl (fun hf => ?_) (fun hf => ?_)
  · refine k_sub [0] rfl ?_
    exact t_23 _ w31 hf
  · refine k_iload_n C dX12_best_10 2 rfl 11 rfl ?_
    refine k_iconst C dX12_best_11 (-1) (by decide) 12 rfl ?_
    refine k_icmp_eq C dX12_best_12 hf 28 rfl 15 rfl (fun hf => ?_) (fun hf => ?_)
    · refine k_sub [0, 1, 2] rfl ?_
      exact t_28 _ _ _ w31 hf
    · refine k_aload_n C dX12_best_15 0 rfl rfl 16 rfl ?_
      refine k_iload_n C dX12_best_16 2 rfl 17 rfl ?_
      refine k_callV_i C ye_X12_isGoods ve_X12_131 ⟨rfl, rfl⟩ ⟨rfl, rfl⟩ dX12_best_17 [.int p2] rfl rfl (Nat.le_of_ble_eq_true rfl) (c_X12_isGoods _ _ _) hf 20 rfl (fun x34 w33 hf => ?_)
      refine k_if_ne C dX12_best_20 hf 28 rfl 23 rfl (fun hf => ?_) (fun hf => ?_)
      · refine k_sub [0, 1, 2] rfl ?_
        exact t_28 _ _ _ w33 hf
      · refine k_sub [0] rfl ?_
        exact t_23 _ w33 hf
