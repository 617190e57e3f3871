theorem dX12_clear_0 : decode cX12_clear 0 = .ok (.aload_n 0, 1) := by decide +kernel
theorem dX12_clear_1 : decode cX12_clear 1 = .ok (.getfield 64, 3) := by decide +kernel
theorem dX12_clear_4 : decode cX12_clear 4 = .ok (.istore_n 1, 1) := by decide +kernel
theorem dX12_clear_5 : decode cX12_clear 5 = .ok (.aload_n 0, 1) := by decide +kernel
theorem dX12_clear_6 : decode cX12_clear 6 = .ok (.iconst 0, 1) := by decide +kernel
theorem dX12_clear_7 : decode cX12_clear 7 = .ok (.putfield 64, 3) := by decide +kernel
theorem dX12_clear_10 : decode cX12_clear 10 = .ok (.iload_n 1, 1) := by decide +kernel
theorem dX12_clear_11 : decode cX12_clear 11 = .ok (.ireturn, 1) := by decide +kernel
set_option maxRecDepth 100000 in
set_option maxHeartbeats 4000000 in
theorem c_X12_clear {g : Gv} {l : Launch} (p0 : Nat) (w0 : Wd) (rz : Int32) (wz : Wd) (hf : f_X12_clear p0 w0 = some (rz, wz)) : MI g l yX12_clear cX12_clear 2 .int 0 0 [rV g p0] w0 rz wz := by
  refine mi_of RX12 (by decide) rfl (Nat.le_of_ble_eq_true rfl) ?_
  intro X hg hll C hr h0
  subst hg; subst hll
  unfold f_X12_clear at hf
  refine k_sub (lv2 := [(0, rV (xg X) p0)]) [0] rfl ?_
  refine k_aload_n C dX12_clear_0 0 rfl rfl 1 rfl ?_
  refine k_getI C fe_X12_64 rfl dX12_clear_1 hf 4 rfl (fun x3 hf => ?_)
  refine k_istore_n C dX12_clear_4 rfl (by decide) [(1, .int x3), (0, rV (xg X) p0)] rfl 5 rfl ?_
  refine k_aload_n C dX12_clear_5 1 rfl rfl 6 rfl ?_
  refine k_iconst C dX12_clear_6 (0) (by decide) 7 rfl ?_
  refine k_putI C fe_X12_64 rfl rfl dX12_clear_7 hf 10 rfl (fun w4 _ hf => ?_)
  refine k_iload_n C dX12_clear_10 0 rfl 11 rfl ?_
  exact k_iret C hr h0 dX12_clear_11 hf
theorem dX12_keepPast_0 : decode cX12_keepPast 0 = .ok (.aload_n 0, 1) := by decide +kernel
theorem dX12_keepPast_1 : decode cX12_keepPast 1 = .ok (.getfield 7, 3) := by decide +kernel
theorem dX12_keepPast_4 : decode cX12_keepPast 4 = .ok (.bipush 76, 2) := by decide +kernel
theorem dX12_keepPast_6 : decode cX12_keepPast 6 = .ok (.iaload, 1) := by decide +kernel
theorem dX12_keepPast_7 : decode cX12_keepPast 7 = .ok (.bipush 8, 2) := by decide +kernel
theorem dX12_keepPast_9 : decode cX12_keepPast 9 = .ok (.if_icmp .ne 46, 3) := by decide +kernel
theorem dX12_keepPast_12 : decode cX12_keepPast 12 = .ok (.iconst 0, 1) := by decide +kernel
theorem dX12_keepPast_13 : decode cX12_keepPast 13 = .ok (.istore_n 1, 1) := by decide +kernel
theorem dX12_keepPast_14 : decode cX12_keepPast 14 = .ok (.iload_n 1, 1) := by decide +kernel
theorem dX12_keepPast_15 : decode cX12_keepPast 15 = .ok (.bipush 119, 2) := by decide +kernel
theorem dX12_keepPast_17 : decode cX12_keepPast 17 = .ok (.if_icmp .ge 27, 3) := by decide +kernel
theorem dX12_keepPast_20 : decode cX12_keepPast 20 = .ok (.aload_n 0, 1) := by decide +kernel
theorem dX12_keepPast_21 : decode cX12_keepPast 21 = .ok (.getfield 7, 3) := by decide +kernel
theorem dX12_keepPast_24 : decode cX12_keepPast 24 = .ok (.bipush 77, 2) := by decide +kernel
theorem dX12_keepPast_26 : decode cX12_keepPast 26 = .ok (.iload_n 1, 1) := by decide +kernel
theorem dX12_keepPast_27 : decode cX12_keepPast 27 = .ok (.iadd, 1) := by decide +kernel
theorem dX12_keepPast_28 : decode cX12_keepPast 28 = .ok (.aload_n 0, 1) := by decide +kernel
theorem dX12_keepPast_29 : decode cX12_keepPast 29 = .ok (.getfield 7, 3) := by decide +kernel
theorem dX12_keepPast_32 : decode cX12_keepPast 32 = .ok (.bipush 94, 2) := by decide +kernel
theorem dX12_keepPast_34 : decode cX12_keepPast 34 = .ok (.iload_n 1, 1) := by decide +kernel
theorem dX12_keepPast_35 : decode cX12_keepPast 35 = .ok (.iadd, 1) := by decide +kernel
theorem dX12_keepPast_36 : decode cX12_keepPast 36 = .ok (.iaload, 1) := by decide +kernel
theorem dX12_keepPast_37 : decode cX12_keepPast 37 = .ok (.iastore, 1) := by decide +kernel
theorem dX12_keepPast_38 : decode cX12_keepPast 38 = .ok (.iinc 1 1, 3) := by decide +kernel
theorem dX12_keepPast_41 : decode cX12_keepPast 41 = .ok (.goto (-27), 3) := by decide +kernel
theorem dX12_keepPast_44 : decode cX12_keepPast 44 = .ok (.aload_n 0, 1) := by decide +kernel
theorem dX12_keepPast_45 : decode cX12_keepPast 45 = .ok (.getfield 7, 3) := by decide +kernel
theorem dX12_keepPast_48 : decode cX12_keepPast 48 = .ok (.bipush 76, 2) := by decide +kernel
theorem dX12_keepPast_50 : decode cX12_keepPast 50 = .ok (.dup2, 1) := by decide +kernel
theorem dX12_keepPast_51 : decode cX12_keepPast 51 = .ok (.iaload, 1) := by decide +kernel
theorem dX12_keepPast_52 : decode cX12_keepPast 52 = .ok (.iconst 1, 1) := by decide +kernel
theorem dX12_keepPast_53 : decode cX12_keepPast 53 = .ok (.isub, 1) := by decide +kernel
theorem dX12_keepPast_54 : decode cX12_keepPast 54 = .ok (.iastore, 1) := by decide +kernel
theorem dX12_keepPast_55 : decode cX12_keepPast 55 = .ok (.iconst 0, 1) := by decide +kernel
theorem dX12_keepPast_56 : decode cX12_keepPast 56 = .ok (.istore_n 1, 1) := by decide +kernel
theorem dX12_keepPast_57 : decode cX12_keepPast 57 = .ok (.iload_n 1, 1) := by decide +kernel
theorem dX12_keepPast_58 : decode cX12_keepPast 58 = .ok (.bipush 17, 2) := by decide +kernel
theorem dX12_keepPast_60 : decode cX12_keepPast 60 = .ok (.if_icmp .ge 35, 3) := by decide +kernel
theorem dX12_keepPast_63 : decode cX12_keepPast 63 = .ok (.aload_n 0, 1) := by decide +kernel
theorem dX12_keepPast_64 : decode cX12_keepPast 64 = .ok (.getfield 7, 3) := by decide +kernel
theorem dX12_keepPast_67 : decode cX12_keepPast 67 = .ok (.bipush 77, 2) := by decide +kernel
theorem dX12_keepPast_69 : decode cX12_keepPast 69 = .ok (.bipush 17, 2) := by decide +kernel
theorem dX12_keepPast_71 : decode cX12_keepPast 71 = .ok (.aload_n 0, 1) := by decide +kernel
theorem dX12_keepPast_72 : decode cX12_keepPast 72 = .ok (.getfield 7, 3) := by decide +kernel
theorem dX12_keepPast_75 : decode cX12_keepPast 75 = .ok (.bipush 76, 2) := by decide +kernel
theorem dX12_keepPast_77 : decode cX12_keepPast 77 = .ok (.iaload, 1) := by decide +kernel
theorem dX12_keepPast_78 : decode cX12_keepPast 78 = .ok (.imul, 1) := by decide +kernel
theorem dX12_keepPast_79 : decode cX12_keepPast 79 = .ok (.iadd, 1) := by decide +kernel
theorem dX12_keepPast_80 : decode cX12_keepPast 80 = .ok (.iload_n 1, 1) := by decide +kernel
theorem dX12_keepPast_81 : decode cX12_keepPast 81 = .ok (.iadd, 1) := by decide +kernel
theorem dX12_keepPast_82 : decode cX12_keepPast 82 = .ok (.aload_n 0, 1) := by decide +kernel
theorem dX12_keepPast_83 : decode cX12_keepPast 83 = .ok (.getfield 7, 3) := by decide +kernel
theorem dX12_keepPast_86 : decode cX12_keepPast 86 = .ok (.iload_n 1, 1) := by decide +kernel
theorem dX12_keepPast_87 : decode cX12_keepPast 87 = .ok (.iaload, 1) := by decide +kernel
theorem dX12_keepPast_88 : decode cX12_keepPast 88 = .ok (.iastore, 1) := by decide +kernel
theorem dX12_keepPast_89 : decode cX12_keepPast 89 = .ok (.iinc 1 1, 3) := by decide +kernel
theorem dX12_keepPast_92 : decode cX12_keepPast 92 = .ok (.goto (-35), 3) := by decide +kernel
theorem dX12_keepPast_95 : decode cX12_keepPast 95 = .ok (.aload_n 0, 1) := by decide +kernel
theorem dX12_keepPast_96 : decode cX12_keepPast 96 = .ok (.getfield 7, 3) := by decide +kernel
theorem dX12_keepPast_99 : decode cX12_keepPast 99 = .ok (.bipush 76, 2) := by decide +kernel
theorem dX12_keepPast_101 : decode cX12_keepPast 101 = .ok (.dup2, 1) := by decide +kernel
theorem dX12_keepPast_102 : decode cX12_keepPast 102 = .ok (.iaload, 1) := by decide +kernel
theorem dX12_keepPast_103 : decode cX12_keepPast 103 = .ok (.iconst 1, 1) := by decide +kernel
theorem dX12_keepPast_104 : decode cX12_keepPast 104 = .ok (.iadd, 1) := by decide +kernel
theorem dX12_keepPast_105 : decode cX12_keepPast 105 = .ok (.iastore, 1) := by decide +kernel
theorem dX12_keepPast_106 : decode cX12_keepPast 106 = .ok (.return_, 1) := by decide +kernel
set_option maxRecDepth 100000 in
set_option maxHeartbeats 4000000 in
theorem c_X12_keepPast {g : Gv} {l : Launch} (p0 : Nat) (w0 : Wd) (wz : Wd) (hf : f_X12_keepPast p0 w0 = some ((), wz)) : MV g l yX12_keepPast cX12_keepPast 2 0 0 0 0 [rV g p0] w0 wz := by
  refine mv_of RX12 (by decide) rfl (Nat.le_of_ble_eq_true rfl) ?_
  intro X hg hll C hr h0 hin
  subst hg; subst hll
  have t_57 : ∀ (n : Nat) (v0 : Nat) (v1 : Int32) (w : Wd), f_X12_keepPast_57 n v0 v1 w = some ((), wz) → Wk X 0 0 (QV X 0 0 w0 wz) w [(0, rV (xg X) v0), (1, .int v1)] 57 [] := by
    intro n
    induction n with
    | zero => intro v0 v1 w hf; rw [f_X12_keepPast_57] at hf; cases hf
    | succ n57 ih57 =>
      intro v0 v1 w hf
      rw [f_X12_keepPast_57] at hf
      refine k_iload_n C dX12_keepPast_57 1 rfl 58 rfl ?_
      refine k_bipush C dX12_keepPast_58 (17) (by decide) 60 rfl ?_
      refine k_icmp_ge C dX12_keepPast_60 hf 95 rfl 63 rfl (fun hf => ?_) (fun hf => ?_)
      · refine k_aload_n C dX12_keepPast_95 0 rfl rfl 96 rfl ?_
        refine k_getR C fe_X12_7 rfl dX12_keepPast_96 hf 99 rfl (fun r19 hf => ?_)
        refine k_bipush C dX12_keepPast_99 (76) (by decide) 101 rfl ?_
        refine k_dup2 C dX12_keepPast_101 rfl rfl 102 rfl ?_
        refine k_iald C dX12_keepPast_102 hf 103 rfl (fun x20 hf => ?_)
        refine k_iconst C dX12_keepPast_103 (1) (by decide) 104 rfl ?_
        refine k_iadd C dX12_keepPast_104 105 rfl ?_
        refine k_iast C dX12_keepPast_105 hf 106 rfl (fun w21 _ hf => ?_)
        exact k_vret C hr h0 dX12_keepPast_106 hf
      · refine k_aload_n C dX12_keepPast_63 0 rfl rfl 64 rfl ?_
        refine k_getR C fe_X12_7 rfl dX12_keepPast_64 hf 67 rfl (fun r22 hf => ?_)
        refine k_bipush C dX12_keepPast_67 (77) (by decide) 69 rfl ?_
        refine k_bipush C dX12_keepPast_69 (17) (by decide) 71 rfl ?_
        refine k_aload_n C dX12_keepPast_71 0 rfl rfl 72 rfl ?_
        refine k_getR C fe_X12_7 rfl dX12_keepPast_72 hf 75 rfl (fun r23 hf => ?_)
        refine k_bipush C dX12_keepPast_75 (76) (by decide) 77 rfl ?_
        refine k_iald C dX12_keepPast_77 hf 78 rfl (fun x24 hf => ?_)
        refine k_imul C dX12_keepPast_78 79 rfl ?_
        refine k_iadd C dX12_keepPast_79 80 rfl ?_
        refine k_iload_n C dX12_keepPast_80 1 rfl 81 rfl ?_
        refine k_iadd C dX12_keepPast_81 82 rfl ?_
        refine k_aload_n C dX12_keepPast_82 0 rfl rfl 83 rfl ?_
        refine k_getR C fe_X12_7 rfl dX12_keepPast_83 hf 86 rfl (fun r25 hf => ?_)
        refine k_iload_n C dX12_keepPast_86 1 rfl 87 rfl ?_
        refine k_iald C dX12_keepPast_87 hf 88 rfl (fun x26 hf => ?_)
        refine k_iast C dX12_keepPast_88 hf 89 rfl (fun w27 _ hf => ?_)
        refine k_iinc C dX12_keepPast_89 1 rfl (by decide) (by decide) [(1, .int (v1 + (1 : Int32))), (0, rV (xg X) v0)] rfl 92 rfl ?_
        refine k_goto C dX12_keepPast_92 57 rfl ?_
        refine k_sub [1, 0] rfl ?_
        exact ih57 _ _ w27 hf
  have t_55 : ∀ (v0 : Nat) (w : Wd), f_X12_keepPast_55 v0 w = some ((), wz) → Wk X 0 0 (QV X 0 0 w0 wz) w [(0, rV (xg X) v0)] 55 [] := by
    intro v0 w hf
    unfold f_X12_keepPast_55 at hf
    refine k_iconst C dX12_keepPast_55 (0) (by decide) 56 rfl ?_
    refine k_istore_n C dX12_keepPast_56 rfl (by decide) [(1, .int (0 : Int32)), (0, rV (xg X) v0)] rfl 57 rfl ?_
    refine k_sub [1, 0] rfl ?_
    exact t_57 4096 _ _ w hf
  have t_14 : ∀ (n : Nat) (v0 : Nat) (v1 : Int32) (w : Wd), f_X12_keepPast_14 n v0 v1 w = some ((), wz) → Wk X 0 0 (QV X 0 0 w0 wz) w [(0, rV (xg X) v0), (1, .int v1)] 14 [] := by
    intro n
    induction n with
    | zero => intro v0 v1 w hf; rw [f_X12_keepPast_14] at hf; cases hf
    | succ n14 ih14 =>
      intro v0 v1 w hf
      rw [f_X12_keepPast_14] at hf
      refine k_iload_n C dX12_keepPast_14 1 rfl 15 rfl ?_
      refine k_bipush C dX12_keepPast_15 (119) (by decide) 17 rfl ?_
      refine k_icmp_ge C dX12_keepPast_17 hf 44 rfl 20 rfl (fun hf => ?_) (fun hf => ?_)
      · refine k_aload_n C dX12_keepPast_44 0 rfl rfl 45 rfl ?_
        refine k_getR C fe_X12_7 rfl dX12_keepPast_45 hf 48 rfl (fun r28 hf => ?_)
        refine k_bipush C dX12_keepPast_48 (76) (by decide) 50 rfl ?_
        refine k_dup2 C dX12_keepPast_50 rfl rfl 51 rfl ?_
        refine k_iald C dX12_keepPast_51 hf 52 rfl (fun x29 hf => ?_)
        refine k_iconst C dX12_keepPast_52 (1) (by decide) 53 rfl ?_
        refine k_isub C dX12_keepPast_53 54 rfl ?_
        refine k_iast C dX12_keepPast_54 hf 55 rfl (fun w30 _ hf => ?_)
        refine k_sub [0] rfl ?_
        exact t_55 _ w30 hf
      · refine k_aload_n C dX12_keepPast_20 0 rfl rfl 21 rfl ?_
        refine k_getR C fe_X12_7 rfl dX12_keepPast_21 hf 24 rfl (fun r31 hf => ?_)
        refine k_bipush C dX12_keepPast_24 (77) (by decide) 26 rfl ?_
        refine k_iload_n C dX12_keepPast_26 1 rfl 27 rfl ?_
        refine k_iadd C dX12_keepPast_27 28 rfl ?_
        refine k_aload_n C dX12_keepPast_28 0 rfl rfl 29 rfl ?_
        refine k_getR C fe_X12_7 rfl dX12_keepPast_29 hf 32 rfl (fun r32 hf => ?_)
        refine k_bipush C dX12_keepPast_32 (94) (by decide) 34 rfl ?_
        refine k_iload_n C dX12_keepPast_34 1 rfl 35 rfl ?_
        refine k_iadd C dX12_keepPast_35 36 rfl ?_
        refine k_iald C dX12_keepPast_36 hf 37 rfl (fun x33 hf => ?_)
        refine k_iast C dX12_keepPast_37 hf 38 rfl (fun w34 _ hf => ?_)
        refine k_iinc C dX12_keepPast_38 1 rfl (by decide) (by decide) [(1, .int (v1 + (1 : Int32))), (0, rV (xg X) v0)] rfl 41 rfl ?_
        refine k_goto C dX12_keepPast_41 14 rfl ?_
        refine k_sub [1, 0] rfl ?_
        exact ih14 _ _ w34 hf
  unfold f_X12_keepPast at hf
  refine k_sub (lv2 := [(0, rV (xg X) p0)]) [0] rfl ?_
  refine k_aload_n C dX12_keepPast_0 0 rfl rfl 1 rfl ?_
  refine k_getR C fe_X12_7 rfl dX12_keepPast_1 hf 4 rfl (fun r35 hf => ?_)
  refine k_bipush C dX12_keepPast_4 (76) (by decide) 6 rfl ?_
  refine k_iald C dX12_keepPast_6 hf 7 rfl (fun x36 hf => ?_)
  refine k_bipush C dX12_keepPast_7 (8) (by decide) 9 rfl ?_
  refine k_icmp_ne C dX12_keepPast_9 hf 55 rfl 12 rfl (fun hf => ?_) (fun hf => ?_)
  · refine k_sub [0] rfl ?_
    exact t_55 _ w0 hf
  · refine k_iconst C dX12_keepPast_12 (0) (by decide) 13 rfl ?_
    refine k_istore_n C dX12_keepPast_13 rfl (by decide) [(1, .int (0 : Int32)), (0, rV (xg X) p0)] rfl 14 rfl ?_
    refine k_sub [1, 0] rfl ?_
    exact t_14 4096 _ _ w0 hf
theorem dX12_cold_0 : decode cX12_cold 0 = .ok (.iload_n 1, 1) := by decide +kernel
theorem dX12_cold_1 : decode cX12_cold 1 = .ok (.iconst 0, 1) := by decide +kernel
theorem dX12_cold_2 : decode cX12_cold 2 = .ok (.bipush 9, 2) := by decide +kernel
theorem dX12_cold_4 : decode cX12_cold 4 = .ok (.invokestatic 52, 3) := by decide +kernel
theorem dX12_cold_7 : decode cX12_cold 7 = .ok (.ifCond .ne 10, 3) := by decide +kernel
theorem dX12_cold_10 : decode cX12_cold 10 = .ok (.aload_n 0, 1) := by decide +kernel
theorem dX12_cold_11 : decode cX12_cold 11 = .ok (.bipush (-2), 2) := by decide +kernel
theorem dX12_cold_13 : decode cX12_cold 13 = .ok (.invokevirtual 56, 3) := by decide +kernel
theorem dX12_cold_16 : decode cX12_cold 16 = .ok (.ireturn, 1) := by decide +kernel
theorem dX12_cold_17 : decode cX12_cold 17 = .ok (.aload_n 0, 1) := by decide +kernel
theorem dX12_cold_18 : decode cX12_cold 18 = .ok (.invokevirtual 137, 3) := by decide +kernel
theorem dX12_cold_21 : decode cX12_cold 21 = .ok (.aload_n 0, 1) := by decide +kernel
theorem dX12_cold_22 : decode cX12_cold 22 = .ok (.getfield 7, 3) := by decide +kernel
theorem dX12_cold_25 : decode cX12_cold 25 = .ok (.bipush 16, 2) := by decide +kernel
theorem dX12_cold_27 : decode cX12_cold 27 = .ok (.iaload, 1) := by decide +kernel
theorem dX12_cold_28 : decode cX12_cold 28 = .ok (.istore_n 2, 1) := by decide +kernel
theorem dX12_cold_29 : decode cX12_cold 29 = .ok (.aload_n 0, 1) := by decide +kernel
theorem dX12_cold_30 : decode cX12_cold 30 = .ok (.getfield 7, 3) := by decide +kernel
theorem dX12_cold_33 : decode cX12_cold 33 = .ok (.bipush 16, 2) := by decide +kernel
theorem dX12_cold_35 : decode cX12_cold 35 = .ok (.iload_n 1, 1) := by decide +kernel
theorem dX12_cold_36 : decode cX12_cold 36 = .ok (.iastore, 1) := by decide +kernel
theorem dX12_cold_37 : decode cX12_cold 37 = .ok (.iload_n 2, 1) := by decide +kernel
theorem dX12_cold_38 : decode cX12_cold 38 = .ok (.ireturn, 1) := by decide +kernel
set_option maxRecDepth 100000 in
set_option maxHeartbeats 4000000 in
theorem c_X12_cold {g : Gv} {l : Launch} (p0 : Nat) (p1 : Int32) (w0 : Wd) (rz : Int32) (wz : Wd) (hf : f_X12_cold p0 p1 w0 = some (rz, wz)) : MI g l yX12_cold cX12_cold 3 .int 1 22 [rV g p0, .int p1] w0 rz wz := by
  refine mi_of RX12 (by decide) rfl (Nat.le_of_ble_eq_true rfl) ?_
  intro X hg hll C hr h0
  subst hg; subst hll
  unfold f_X12_cold at hf
  refine k_sub (lv2 := [(0, rV (xg X) p0), (1, .int p1)]) [0, 1] rfl ?_
  refine k_iload_n C dX12_cold_0 1 rfl 1 rfl ?_
  refine k_iconst C dX12_cold_1 (0) (by decide) 2 rfl ?_
  refine k_bipush C dX12_cold_2 (9) (by decide) 4 rfl ?_
  refine k_callS_i C ye_X12_in se_X12_52 ⟨rfl, rfl⟩ ⟨rfl, rfl⟩ dX12_cold_4 [.int p1, .int (0 : Int32), .int (9 : Int32)] rfl rfl (Nat.le_of_ble_eq_true rfl) (c_X12_in _ _ _ _) hf 7 rfl (fun x12 w11 hf => ?_)
  refine k_if_ne C dX12_cold_7 hf 17 rfl 10 rfl (fun hf => ?_) (fun hf => ?_)
  · refine k_aload_n C dX12_cold_17 0 rfl rfl 18 rfl ?_
    refine k_callV_v C ye_X12_keepPast ve_X12_137 ⟨rfl, rfl⟩ ⟨rfl, rfl⟩ dX12_cold_18 [] rfl rfl (Nat.le_of_ble_eq_true rfl) (c_X12_keepPast _ _) hf 21 rfl (fun w13 hf => ?_)
    refine k_aload_n C dX12_cold_21 0 rfl rfl 22 rfl ?_
    refine k_getR C fe_X12_7 rfl dX12_cold_22 hf 25 rfl (fun r15 hf => ?_)
    refine k_bipush C dX12_cold_25 (16) (by decide) 27 rfl ?_
    refine k_iald C dX12_cold_27 hf 28 rfl (fun x16 hf => ?_)
    refine k_istore_n C dX12_cold_28 rfl (by decide) [(2, .int x16), (0, rV (xg X) p0), (1, .int p1)] rfl 29 rfl ?_
    refine k_aload_n C dX12_cold_29 1 rfl rfl 30 rfl ?_
    refine k_getR C fe_X12_7 rfl dX12_cold_30 hf 33 rfl (fun r17 hf => ?_)
    refine k_bipush C dX12_cold_33 (16) (by decide) 35 rfl ?_
    refine k_iload_n C dX12_cold_35 2 rfl 36 rfl ?_
    refine k_iast C dX12_cold_36 hf 37 rfl (fun w18 _ hf => ?_)
    refine k_iload_n C dX12_cold_37 0 rfl 38 rfl ?_
    exact k_iret C hr h0 dX12_cold_38 hf
  · refine k_aload_n C dX12_cold_10 0 rfl rfl 11 rfl ?_
    refine k_bipush C dX12_cold_11 (-2) (by decide) 13 rfl ?_
    refine k_callV_i C ye_X12_refuse ve_X12_56 ⟨rfl, rfl⟩ ⟨rfl, rfl⟩ dX12_cold_13 [.int (-2 : Int32)] rfl rfl (Nat.le_of_ble_eq_true rfl) (c_X12_refuse _ _ _) hf 16 rfl (fun x20 w19 hf => ?_)
    exact k_iret C hr h0 dX12_cold_16 hf
theorem dX12_inHouse_0 : decode cX12_inHouse 0 = .ok (.iconst 0, 1) := by decide +kernel
theorem dX12_inHouse_1 : decode cX12_inHouse 1 = .ok (.istore_n 2, 1) := by decide +kernel
theorem dX12_inHouse_2 : decode cX12_inHouse 2 = .ok (.iconst 0, 1) := by decide +kernel
theorem dX12_inHouse_3 : decode cX12_inHouse 3 = .ok (.istore_n 3, 1) := by decide +kernel
theorem dX12_inHouse_4 : decode cX12_inHouse 4 = .ok (.iload_n 3, 1) := by decide +kernel
theorem dX12_inHouse_5 : decode cX12_inHouse 5 = .ok (.bipush 6, 2) := by decide +kernel
theorem dX12_inHouse_7 : decode cX12_inHouse 7 = .ok (.if_icmp .ge 22, 3) := by decide +kernel
theorem dX12_inHouse_10 : decode cX12_inHouse 10 = .ok (.iload_n 2, 1) := by decide +kernel
theorem dX12_inHouse_11 : decode cX12_inHouse 11 = .ok (.aload_n 0, 1) := by decide +kernel
theorem dX12_inHouse_12 : decode cX12_inHouse 12 = .ok (.getfield 7, 3) := by decide +kernel
theorem dX12_inHouse_15 : decode cX12_inHouse 15 = .ok (.iload_n 1, 1) := by decide +kernel
theorem dX12_inHouse_16 : decode cX12_inHouse 16 = .ok (.iconst 0, 1) := by decide +kernel
theorem dX12_inHouse_17 : decode cX12_inHouse 17 = .ok (.iadd, 1) := by decide +kernel
theorem dX12_inHouse_18 : decode cX12_inHouse 18 = .ok (.iload_n 3, 1) := by decide +kernel
theorem dX12_inHouse_19 : decode cX12_inHouse 19 = .ok (.iadd, 1) := by decide +kernel
theorem dX12_inHouse_20 : decode cX12_inHouse 20 = .ok (.iaload, 1) := by decide +kernel
theorem dX12_inHouse_21 : decode cX12_inHouse 21 = .ok (.iadd, 1) := by decide +kernel
theorem dX12_inHouse_22 : decode cX12_inHouse 22 = .ok (.istore_n 2, 1) := by decide +kernel
theorem dX12_inHouse_23 : decode cX12_inHouse 23 = .ok (.iinc 3 1, 3) := by decide +kernel
theorem dX12_inHouse_26 : decode cX12_inHouse 26 = .ok (.goto (-22), 3) := by decide +kernel
theorem dX12_inHouse_29 : decode cX12_inHouse 29 = .ok (.iload_n 2, 1) := by decide +kernel
theorem dX12_inHouse_30 : decode cX12_inHouse 30 = .ok (.ireturn, 1) := by decide +kernel
set_option maxRecDepth 100000 in
set_option maxHeartbeats 4000000 in
theorem c_X12_inHouse {g : Gv} {l : Launch} (p0 : Nat) (p1 : Int32) (w0 : Wd) (rz : Int32) (wz : Wd) (hf : f_X12_inHouse p0 p1 w0 = some (rz, wz)) : MI g l yX12_inHouse cX12_inHouse 4 .int 0 0 [rV g p0, .int p1] w0 rz wz := by
  refine mi_of RX12 (by decide) rfl (Nat.le_of_ble_eq_true rfl) ?_
  intro X hg hll C hr h0
  subst hg; subst hll
  have t_4 : ∀ (n : Nat) (v0 : Nat) (v1 : Int32) (v2 : Int32) (v3 : Int32) (w : Wd), f_X12_inHouse_4 n v0 v1 v2 v3 w = some (rz, wz) → Wk X 0 0 (QI X w0 rz wz) w [(0, rV (xg X) v0), (1, .int v1), (2, .int v2), (3, .int v3)] 4 [] := by
    intro n
    induction n with
    | zero => intro v0 v1 v2 v3 w hf; rw [f_X12_inHouse_4] at hf; cases hf
    | succ n4 ih4 =>
      intro v0 v1 v2 v3 w hf
      rw [f_X12_inHouse_4] at hf
      refine k_iload_n C dX12_inHouse_4 3 rfl 5 rfl ?_
      refine k_bipush C dX12_inHouse_5 (6) (by decide) 7 rfl ?_
      refine k_icmp_ge C dX12_inHouse_7 hf 29 rfl 10 rfl (fun hf => ?_) (fun hf => ?_)
      · refine k_iload_n C dX12_inHouse_29 2 rfl 30 rfl ?_
        exact k_iret C hr h0 dX12_inHouse_30 hf
      · refine k_iload_n C dX12_inHouse_10 2 rfl 11 rfl ?_
        refine k_aload_n C dX12_inHouse_11 0 rfl rfl 12 rfl ?_
        refine k_getR C fe_X12_7 rfl dX12_inHouse_12 hf 15 rfl (fun r4 hf => ?_)
        refine k_iload_n C dX12_inHouse_15 1 rfl 16 rfl ?_
        refine k_iconst C dX12_inHouse_16 (0) (by decide) 17 rfl ?_
        refine k_iadd C dX12_inHouse_17 18 rfl ?_
        refine k_iload_n C dX12_inHouse_18 3 rfl 19 rfl ?_
        refine k_iadd C dX12_inHouse_19 20 rfl ?_
        refine k_iald C dX12_inHouse_20 hf 21 rfl (fun x5 hf => ?_)
        refine k_iadd C dX12_inHouse_21 22 rfl ?_
        refine k_nmi hf (fun x6 hf => ?_)
        refine k_istore_n C dX12_inHouse_22 rfl (by decide) [(2, .int x6), (0, rV (xg X) v0), (1, .int v1), (3, .int v3)] rfl 23 rfl ?_
        refine k_iinc C dX12_inHouse_23 3 rfl (by decide) (by decide) [(3, .int (v3 + (1 : Int32))), (2, .int x6), (0, rV (xg X) v0), (1, .int v1)] rfl 26 rfl ?_
        refine k_goto C dX12_inHouse_26 4 rfl ?_
        refine k_sub [2, 3, 1, 0] rfl ?_
        exact ih4 _ _ _ _ w hf
  unfold f_X12_inHouse at hf
  refine k_sub (lv2 := [(0, rV (xg X) p0), (1, .int p1)]) [0, 1] rfl ?_
  refine k_iconst C dX12_inHouse_0 (0) (by decide) 1 rfl ?_
  refine k_istore_n C dX12_inHouse_1 rfl (by decide) [(2, .int (0 : Int32)), (0, rV (xg X) p0), (1, .int p1)] rfl 2 rfl ?_
  refine k_iconst C dX12_inHouse_2 (0) (by decide) 3 rfl ?_
  refine k_istore_n C dX12_inHouse_3 rfl (by decide) [(3, .int (0 : Int32)), (2, .int (0 : Int32)), (0, rV (xg X) p0), (1, .int p1)] rfl 4 rfl ?_
  refine k_sub [2, 3, 1, 0] rfl ?_
  exact t_4 4096 _ _ _ _ w0 hf
theorem dX12_countOf_0 : decode cX12_countOf 0 = .ok (.iload_n 1, 1) := by decide +kernel
theorem dX12_countOf_1 : decode cX12_countOf 1 = .ok (.tableswitch 118 0 8 #[51, 59, 67, 73, 81, 89, 97, 105, 113], 51) := by decide +kernel
theorem dX12_countOf_52 : decode cX12_countOf 52 = .ok (.aload_n 0, 1) := by decide +kernel
theorem dX12_countOf_53 : decode cX12_countOf 53 = .ok (.getfield 7, 3) := by decide +kernel
theorem dX12_countOf_56 : decode cX12_countOf 56 = .ok (.bipush 19, 2) := by decide +kernel
theorem dX12_countOf_58 : decode cX12_countOf 58 = .ok (.iaload, 1) := by decide +kernel
theorem dX12_countOf_59 : decode cX12_countOf 59 = .ok (.ireturn, 1) := by decide +kernel
theorem dX12_countOf_60 : decode cX12_countOf 60 = .ok (.aload_n 0, 1) := by decide +kernel
theorem dX12_countOf_61 : decode cX12_countOf 61 = .ok (.getfield 7, 3) := by decide +kernel
theorem dX12_countOf_64 : decode cX12_countOf 64 = .ok (.bipush 14, 2) := by decide +kernel
theorem dX12_countOf_66 : decode cX12_countOf 66 = .ok (.iaload, 1) := by decide +kernel
theorem dX12_countOf_67 : decode cX12_countOf 67 = .ok (.ireturn, 1) := by decide +kernel
theorem dX12_countOf_68 : decode cX12_countOf 68 = .ok (.aload_n 0, 1) := by decide +kernel
theorem dX12_countOf_69 : decode cX12_countOf 69 = .ok (.iconst 0, 1) := by decide +kernel
theorem dX12_countOf_70 : decode cX12_countOf 70 = .ok (.invokevirtual 128, 3) := by decide +kernel
theorem dX12_countOf_73 : decode cX12_countOf 73 = .ok (.ireturn, 1) := by decide +kernel
theorem dX12_countOf_74 : decode cX12_countOf 74 = .ok (.aload_n 0, 1) := by decide +kernel
theorem dX12_countOf_75 : decode cX12_countOf 75 = .ok (.getfield 7, 3) := by decide +kernel
theorem dX12_countOf_78 : decode cX12_countOf 78 = .ok (.bipush 12, 2) := by decide +kernel
theorem dX12_countOf_80 : decode cX12_countOf 80 = .ok (.iaload, 1) := by decide +kernel
theorem dX12_countOf_81 : decode cX12_countOf 81 = .ok (.ireturn, 1) := by decide +kernel
theorem dX12_countOf_82 : decode cX12_countOf 82 = .ok (.aload_n 0, 1) := by decide +kernel
theorem dX12_countOf_83 : decode cX12_countOf 83 = .ok (.getfield 7, 3) := by decide +kernel
theorem dX12_countOf_86 : decode cX12_countOf 86 = .ok (.bipush 13, 2) := by decide +kernel
theorem dX12_countOf_88 : decode cX12_countOf 88 = .ok (.iaload, 1) := by decide +kernel
theorem dX12_countOf_89 : decode cX12_countOf 89 = .ok (.ireturn, 1) := by decide +kernel
theorem dX12_countOf_90 : decode cX12_countOf 90 = .ok (.aload_n 0, 1) := by decide +kernel
theorem dX12_countOf_91 : decode cX12_countOf 91 = .ok (.getfield 7, 3) := by decide +kernel
theorem dX12_countOf_94 : decode cX12_countOf 94 = .ok (.bipush 38, 2) := by decide +kernel
theorem dX12_countOf_96 : decode cX12_countOf 96 = .ok (.iaload, 1) := by decide +kernel
theorem dX12_countOf_97 : decode cX12_countOf 97 = .ok (.ireturn, 1) := by decide +kernel
theorem dX12_countOf_98 : decode cX12_countOf 98 = .ok (.aload_n 0, 1) := by decide +kernel
theorem dX12_countOf_99 : decode cX12_countOf 99 = .ok (.getfield 7, 3) := by decide +kernel
theorem dX12_countOf_102 : decode cX12_countOf 102 = .ok (.bipush 51, 2) := by decide +kernel
theorem dX12_countOf_104 : decode cX12_countOf 104 = .ok (.iaload, 1) := by decide +kernel
theorem dX12_countOf_105 : decode cX12_countOf 105 = .ok (.ireturn, 1) := by decide +kernel
theorem dX12_countOf_106 : decode cX12_countOf 106 = .ok (.aload_n 0, 1) := by decide +kernel
theorem dX12_countOf_107 : decode cX12_countOf 107 = .ok (.getfield 7, 3) := by decide +kernel
theorem dX12_countOf_110 : decode cX12_countOf 110 = .ok (.bipush 76, 2) := by decide +kernel
theorem dX12_countOf_112 : decode cX12_countOf 112 = .ok (.iaload, 1) := by decide +kernel
theorem dX12_countOf_113 : decode cX12_countOf 113 = .ok (.ireturn, 1) := by decide +kernel
theorem dX12_countOf_114 : decode cX12_countOf 114 = .ok (.aload_n 0, 1) := by decide +kernel
theorem dX12_countOf_115 : decode cX12_countOf 115 = .ok (.getfield 64, 3) := by decide +kernel
theorem dX12_countOf_118 : decode cX12_countOf 118 = .ok (.ireturn, 1) := by decide +kernel
theorem dX12_countOf_119 : decode cX12_countOf 119 = .ok (.aload_n 0, 1) := by decide +kernel
theorem dX12_countOf_120 : decode cX12_countOf 120 = .ok (.getfield 7, 3) := by decide +kernel
theorem dX12_countOf_123 : decode cX12_countOf 123 = .ok (.bipush 16, 2) := by decide +kernel
theorem dX12_countOf_125 : decode cX12_countOf 125 = .ok (.iaload, 1) := by decide +kernel
theorem dX12_countOf_126 : decode cX12_countOf 126 = .ok (.ireturn, 1) := by decide +kernel
set_option maxRecDepth 100000 in
set_option maxHeartbeats 4000000 in
theorem c_X12_countOf {g : Gv} {l : Launch} (p0 : Nat) (p1 : Int32) (w0 : Wd) (rz : Int32) (wz : Wd) (hf : f_X12_countOf p0 p1 w0 = some (rz, wz)) : MI g l yX12_countOf cX12_countOf 2 .int 1 23 [rV g p0, .int p1] w0 rz wz := by
  refine mi_of RX12 (by decide) rfl (Nat.le_of_ble_eq_true rfl) ?_
  intro X hg hll C hr h0
  subst hg; subst hll
  unfold f_X12_countOf at hf
  refine k_sub (lv2 := [(0, rV (xg X) p0), (1, .int p1)]) [0, 1] rfl ?_
  refine k_iload_n C dX12_countOf_0 1 rfl 1 rfl ?_
  refine k_split hf (fun he hf => ?_) (fun hn0 hf => ?_)
  · refine k_tswIn (off := 51) C dX12_countOf_1 (0) he (by decide) 52 rfl ?_
    refine k_aload_n C dX12_countOf_52 0 rfl rfl 53 rfl ?_
    refine k_getR C fe_X12_7 rfl dX12_countOf_53 hf 56 rfl (fun r20 hf => ?_)
    refine k_bipush C dX12_countOf_56 (19) (by decide) 58 rfl ?_
    refine k_iald C dX12_countOf_58 hf 59 rfl (fun x21 hf => ?_)
    exact k_iret C hr h0 dX12_countOf_59 hf
  · skip
    refine k_split hf (fun he hf => ?_) (fun hn1 hf => ?_)
    · refine k_tswIn (off := 59) C dX12_countOf_1 (1) he (by decide) 60 rfl ?_
      refine k_aload_n C dX12_countOf_60 0 rfl rfl 61 rfl ?_
      refine k_getR C fe_X12_7 rfl dX12_countOf_61 hf 64 rfl (fun r22 hf => ?_)
      refine k_bipush C dX12_countOf_64 (14) (by decide) 66 rfl ?_
      refine k_iald C dX12_countOf_66 hf 67 rfl (fun x23 hf => ?_)
      exact k_iret C hr h0 dX12_countOf_67 hf
    · skip
      refine k_split hf (fun he hf => ?_) (fun hn2 hf => ?_)
      · refine k_tswIn (off := 67) C dX12_countOf_1 (2) he (by decide) 68 rfl ?_
        refine k_aload_n C dX12_countOf_68 0 rfl rfl 69 rfl ?_
        refine k_iconst C dX12_countOf_69 (0) (by decide) 70 rfl ?_
        refine k_callV_i C ye_X12_inHouse ve_X12_128 ⟨rfl, rfl⟩ ⟨rfl, rfl⟩ dX12_countOf_70 [.int (0 : Int32)] rfl rfl (Nat.le_of_ble_eq_true rfl) (c_X12_inHouse _ _ _) hf 73 rfl (fun x25 w24 hf => ?_)
        exact k_iret C hr h0 dX12_countOf_73 hf
      · skip
        refine k_split hf (fun he hf => ?_) (fun hn3 hf => ?_)
        · refine k_tswIn (off := 73) C dX12_countOf_1 (3) he (by decide) 74 rfl ?_
          refine k_aload_n C dX12_countOf_74 0 rfl rfl 75 rfl ?_
          refine k_getR C fe_X12_7 rfl dX12_countOf_75 hf 78 rfl (fun r26 hf => ?_)
          refine k_bipush C dX12_countOf_78 (12) (by decide) 80 rfl ?_
          refine k_iald C dX12_countOf_80 hf 81 rfl (fun x27 hf => ?_)
          exact k_iret C hr h0 dX12_countOf_81 hf
        · skip
          refine k_split hf (fun he hf => ?_) (fun hn4 hf => ?_)
          · refine k_tswIn (off := 81) C dX12_countOf_1 (4) he (by decide) 82 rfl ?_
            refine k_aload_n C dX12_countOf_82 0 rfl rfl 83 rfl ?_
            refine k_getR C fe_X12_7 rfl dX12_countOf_83 hf 86 rfl (fun r28 hf => ?_)
            refine k_bipush C dX12_countOf_86 (13) (by decide) 88 rfl ?_
            refine k_iald C dX12_countOf_88 hf 89 rfl (fun x29 hf => ?_)
            exact k_iret C hr h0 dX12_countOf_89 hf
          · skip
            refine k_split hf (fun he hf => ?_) (fun hn5 hf => ?_)
            · refine k_tswIn (off := 89) C dX12_countOf_1 (5) he (by decide) 90 rfl ?_
              refine k_aload_n C dX12_countOf_90 0 rfl rfl 91 rfl ?_
              refine k_getR C fe_X12_7 rfl dX12_countOf_91 hf 94 rfl (fun r30 hf => ?_)
              refine k_bipush C dX12_countOf_94 (38) (by decide) 96 rfl ?_
              refine k_iald C dX12_countOf_96 hf 97 rfl (fun x31 hf => ?_)
              exact k_iret C hr h0 dX12_countOf_97 hf
            · skip
              refine k_split hf (fun he hf => ?_) (fun hn6 hf => ?_)
              · refine k_tswIn (off := 97) C dX12_countOf_1 (6) he (by decide) 98 rfl ?_
                refine k_aload_n C dX12_countOf_98 0 rfl rfl 99 rfl ?_
                refine k_getR C fe_X12_7 rfl dX12_countOf_99 hf 102 rfl (fun r32 hf => ?_)
                refine k_bipush C dX12_countOf_102 (51) (by decide) 104 rfl ?_
                refine k_iald C dX12_countOf_104 hf 105 rfl (fun x33 hf => ?_)
                exact k_iret C hr h0 dX12_countOf_105 hf
              · skip
                refine k_split hf (fun he hf => ?_) (fun hn7 hf => ?_)
                · refine k_tswIn (off := 105) C dX12_countOf_1 (7) he (by decide) 106 rfl ?_
                  refine k_aload_n C dX12_countOf_106 0 rfl rfl 107 rfl ?_
                  refine k_getR C fe_X12_7 rfl dX12_countOf_107 hf 110 rfl (fun r34 hf => ?_)
                  refine k_bipush C dX12_countOf_110 (76) (by decide) 112 rfl ?_
                  refine k_iald C dX12_countOf_112 hf 113 rfl (fun x35 hf => ?_)
                  exact k_iret C hr h0 dX12_countOf_113 hf
                · skip
                  refine k_split hf (fun he hf => ?_) (fun hn8 hf => ?_)
                  · refine k_tswIn (off := 113) C dX12_countOf_1 (8) he (by decide) 114 rfl ?_
                    refine k_aload_n C dX12_countOf_114 0 rfl rfl 115 rfl ?_
                    refine k_getI C fe_X12_64 rfl dX12_countOf_115 hf 118 rfl (fun x36 hf => ?_)
                    exact k_iret C hr h0 dX12_countOf_118 hf
                  · skip
                    refine k_tswOut C dX12_countOf_1 (tsw_out [(0 : Int32), (1 : Int32), (2 : Int32), (3 : Int32), (4 : Int32), (5 : Int32), (6 : Int32), (7 : Int32), (8 : Int32)] (List.forall_mem_cons.mpr ⟨hn0, (List.forall_mem_cons.mpr ⟨hn1, (List.forall_mem_cons.mpr ⟨hn2, (List.forall_mem_cons.mpr ⟨hn3, (List.forall_mem_cons.mpr ⟨hn4, (List.forall_mem_cons.mpr ⟨hn5, (List.forall_mem_cons.mpr ⟨hn6, (List.forall_mem_cons.mpr ⟨hn7, (List.forall_mem_cons.mpr ⟨hn8, (fun _ h => absurd h List.not_mem_nil)⟩)⟩)⟩)⟩)⟩)⟩)⟩)⟩)⟩) (by decide)) 119 rfl ?_
                    refine k_aload_n C dX12_countOf_119 0 rfl rfl 120 rfl ?_
                    refine k_getR C fe_X12_7 rfl dX12_countOf_120 hf 123 rfl (fun r37 hf => ?_)
                    refine k_bipush C dX12_countOf_123 (16) (by decide) 125 rfl ?_
                    refine k_iald C dX12_countOf_125 hf 126 rfl (fun x38 hf => ?_)
                    exact k_iret C hr h0 dX12_countOf_126 hf
theorem dX12_count_0 : decode cX12_count 0 = .ok (.iload_n 1, 1) := by decide +kernel
theorem dX12_count_1 : decode cX12_count 1 = .ok (.iconst 0, 1) := by decide +kernel
theorem dX12_count_2 : decode cX12_count 2 = .ok (.bipush 9, 2) := by decide +kernel
theorem dX12_count_4 : decode cX12_count 4 = .ok (.invokestatic 52, 3) := by decide +kernel
theorem dX12_count_7 : decode cX12_count 7 = .ok (.ifCond .eq 11, 3) := by decide +kernel
theorem dX12_count_10 : decode cX12_count 10 = .ok (.aload_n 0, 1) := by decide +kernel
theorem dX12_count_11 : decode cX12_count 11 = .ok (.iload_n 1, 1) := by decide +kernel
theorem dX12_count_12 : decode cX12_count 12 = .ok (.invokevirtual 206, 3) := by decide +kernel
theorem dX12_count_15 : decode cX12_count 15 = .ok (.goto 9, 3) := by decide +kernel
theorem dX12_count_18 : decode cX12_count 18 = .ok (.aload_n 0, 1) := by decide +kernel
theorem dX12_count_19 : decode cX12_count 19 = .ok (.bipush (-2), 2) := by decide +kernel
theorem dX12_count_21 : decode cX12_count 21 = .ok (.invokevirtual 56, 3) := by decide +kernel
theorem dX12_count_24 : decode cX12_count 24 = .ok (.ireturn, 1) := by decide +kernel
set_option maxRecDepth 100000 in
set_option maxHeartbeats 4000000 in
theorem c_X12_count {g : Gv} {l : Launch} (p0 : Nat) (p1 : Int32) (w0 : Wd) (rz : Int32) (wz : Wd) (hf : f_X12_count p0 p1 w0 = some (rz, wz)) : MI g l yX12_count cX12_count 2 .int 2 44 [rV g p0, .int p1] w0 rz wz := by
  refine mi_of RX12 (by decide) rfl (Nat.le_of_ble_eq_true rfl) ?_
  intro X hg hll C hr h0
  subst hg; subst hll
  have t_24 : ∀ (s0 : Int32) (w : Wd), f_X12_count_24 s0 w = some (rz, wz) → Wk X 0 0 (QI X w0 rz wz) w [] 24 [.int s0] := by
    intro s0 w hf
    unfold f_X12_count_24 at hf
    exact k_iret C hr h0 dX12_count_24 hf
  unfold f_X12_count at hf
  refine k_sub (lv2 := [(0, rV (xg X) p0), (1, .int p1)]) [0, 1] rfl ?_
  refine k_iload_n C dX12_count_0 1 rfl 1 rfl ?_
  refine k_iconst C dX12_count_1 (0) (by decide) 2 rfl ?_
  refine k_bipush C dX12_count_2 (9) (by decide) 4 rfl ?_
  refine k_callS_i C ye_X12_in se_X12_52 ⟨rfl, rfl⟩ ⟨rfl, rfl⟩ dX12_count_4 [.int p1, .int (0 : Int32), .int (9 : Int32)] rfl rfl (Nat.le_of_ble_eq_true rfl) (c_X12_in _ _ _ _) hf 7 rfl (fun x8 w7 hf => ?_)
  refine k_if_eq C dX12_count_7 hf 18 rfl 10 rfl (fun hf => ?_) (fun hf => ?_)
  · refine k_aload_n C dX12_count_18 0 rfl rfl 19 rfl ?_
    refine k_bipush C dX12_count_19 (-2) (by decide) 21 rfl ?_
    refine k_callV_i C ye_X12_refuse ve_X12_56 ⟨rfl, rfl⟩ ⟨rfl, rfl⟩ dX12_count_21 [.int (-2 : Int32)] rfl rfl (Nat.le_of_ble_eq_true rfl) (c_X12_refuse _ _ _) hf 24 rfl (fun x10 w9 hf => ?_)
    refine k_sub [] rfl ?_
    exact t_24 _ w9 hf
  · refine k_aload_n C dX12_count_10 0 rfl rfl 11 rfl ?_
    refine k_iload_n C dX12_count_11 1 rfl 12 rfl ?_
    refine k_callV_i C ye_X12_countOf ve_X12_206 ⟨rfl, rfl⟩ ⟨rfl, rfl⟩ dX12_count_12 [.int p1] rfl rfl (Nat.le_of_ble_eq_true rfl) (c_X12_countOf _ _ _) hf 15 rfl (fun x12 w11 hf => ?_)
    refine k_goto C dX12_count_15 24 rfl ?_
    refine k_sub [] rfl ?_
    exact t_24 _ w11 hf
theorem dX12_digest_0 : decode cX12_digest 0 = .ok (.ldc2_w 209, 3) := by decide +kernel
theorem dX12_digest_3 : decode cX12_digest 3 = .ok (.lstore_n 1, 1) := by decide +kernel
theorem dX12_digest_4 : decode cX12_digest 4 = .ok (.iconst 0, 1) := by decide +kernel
theorem dX12_digest_5 : decode cX12_digest 5 = .ok (.istore_n 3, 1) := by decide +kernel
theorem dX12_digest_6 : decode cX12_digest 6 = .ok (.iload_n 3, 1) := by decide +kernel
theorem dX12_digest_7 : decode cX12_digest 7 = .ok (.bipush 10, 2) := by decide +kernel
theorem dX12_digest_9 : decode cX12_digest 9 = .ok (.if_icmp .ge 22, 3) := by decide +kernel
theorem dX12_digest_12 : decode cX12_digest 12 = .ok (.ldc2_w 211, 3) := by decide +kernel
theorem dX12_digest_15 : decode cX12_digest 15 = .ok (.lload_n 1, 1) := by decide +kernel
theorem dX12_digest_16 : decode cX12_digest 16 = .ok (.lmul, 1) := by decide +kernel
theorem dX12_digest_17 : decode cX12_digest 17 = .ok (.aload_n 0, 1) := by decide +kernel
theorem dX12_digest_18 : decode cX12_digest 18 = .ok (.iload_n 3, 1) := by decide +kernel
theorem dX12_digest_19 : decode cX12_digest 19 = .ok (.invokevirtual 206, 3) := by decide +kernel
theorem dX12_digest_22 : decode cX12_digest 22 = .ok (.i2l, 1) := by decide +kernel
theorem dX12_digest_23 : decode cX12_digest 23 = .ok (.ladd, 1) := by decide +kernel
theorem dX12_digest_24 : decode cX12_digest 24 = .ok (.lstore_n 1, 1) := by decide +kernel
theorem dX12_digest_25 : decode cX12_digest 25 = .ok (.iinc 3 1, 3) := by decide +kernel
theorem dX12_digest_28 : decode cX12_digest 28 = .ok (.goto (-22), 3) := by decide +kernel
theorem dX12_digest_31 : decode cX12_digest 31 = .ok (.ldc2_w 211, 3) := by decide +kernel
theorem dX12_digest_34 : decode cX12_digest 34 = .ok (.lload_n 1, 1) := by decide +kernel
theorem dX12_digest_35 : decode cX12_digest 35 = .ok (.lmul, 1) := by decide +kernel
theorem dX12_digest_36 : decode cX12_digest 36 = .ok (.aload_n 0, 1) := by decide +kernel
theorem dX12_digest_37 : decode cX12_digest 37 = .ok (.getfield 7, 3) := by decide +kernel
theorem dX12_digest_40 : decode cX12_digest 40 = .ok (.bipush 17, 2) := by decide +kernel
theorem dX12_digest_42 : decode cX12_digest 42 = .ok (.iaload, 1) := by decide +kernel
theorem dX12_digest_43 : decode cX12_digest 43 = .ok (.i2l, 1) := by decide +kernel
theorem dX12_digest_44 : decode cX12_digest 44 = .ok (.ladd, 1) := by decide +kernel
theorem dX12_digest_45 : decode cX12_digest 45 = .ok (.lstore_n 1, 1) := by decide +kernel
theorem dX12_digest_46 : decode cX12_digest 46 = .ok (.ldc2_w 211, 3) := by decide +kernel
theorem dX12_digest_49 : decode cX12_digest 49 = .ok (.lload_n 1, 1) := by decide +kernel
theorem dX12_digest_50 : decode cX12_digest 50 = .ok (.lmul, 1) := by decide +kernel
theorem dX12_digest_51 : decode cX12_digest 51 = .ok (.aload_n 0, 1) := by decide +kernel
theorem dX12_digest_52 : decode cX12_digest 52 = .ok (.getfield 7, 3) := by decide +kernel
theorem dX12_digest_55 : decode cX12_digest 55 = .ok (.bipush 18, 2) := by decide +kernel
theorem dX12_digest_57 : decode cX12_digest 57 = .ok (.iaload, 1) := by decide +kernel
theorem dX12_digest_58 : decode cX12_digest 58 = .ok (.i2l, 1) := by decide +kernel
theorem dX12_digest_59 : decode cX12_digest 59 = .ok (.ladd, 1) := by decide +kernel
theorem dX12_digest_60 : decode cX12_digest 60 = .ok (.lstore_n 1, 1) := by decide +kernel
theorem dX12_digest_61 : decode cX12_digest 61 = .ok (.ldc2_w 211, 3) := by decide +kernel
theorem dX12_digest_64 : decode cX12_digest 64 = .ok (.lload_n 1, 1) := by decide +kernel
theorem dX12_digest_65 : decode cX12_digest 65 = .ok (.lmul, 1) := by decide +kernel
theorem dX12_digest_66 : decode cX12_digest 66 = .ok (.aload_n 0, 1) := by decide +kernel
theorem dX12_digest_67 : decode cX12_digest 67 = .ok (.getfield 7, 3) := by decide +kernel
theorem dX12_digest_70 : decode cX12_digest 70 = .ok (.bipush 15, 2) := by decide +kernel
theorem dX12_digest_72 : decode cX12_digest 72 = .ok (.iaload, 1) := by decide +kernel
theorem dX12_digest_73 : decode cX12_digest 73 = .ok (.i2l, 1) := by decide +kernel
theorem dX12_digest_74 : decode cX12_digest 74 = .ok (.ladd, 1) := by decide +kernel
theorem dX12_digest_75 : decode cX12_digest 75 = .ok (.lstore_n 1, 1) := by decide +kernel
theorem dX12_digest_76 : decode cX12_digest 76 = .ok (.iconst 0, 1) := by decide +kernel
theorem dX12_digest_77 : decode cX12_digest 77 = .ok (.istore_n 3, 1) := by decide +kernel
theorem dX12_digest_78 : decode cX12_digest 78 = .ok (.iload_n 3, 1) := by decide +kernel
theorem dX12_digest_79 : decode cX12_digest 79 = .ok (.aload_n 0, 1) := by decide +kernel
theorem dX12_digest_80 : decode cX12_digest 80 = .ok (.getfield 7, 3) := by decide +kernel
theorem dX12_digest_83 : decode cX12_digest 83 = .ok (.bipush 19, 2) := by decide +kernel
theorem dX12_digest_85 : decode cX12_digest 85 = .ok (.iaload, 1) := by decide +kernel
theorem dX12_digest_86 : decode cX12_digest 86 = .ok (.if_icmp .ge 93, 3) := by decide +kernel
theorem dX12_digest_89 : decode cX12_digest 89 = .ok (.ldc2_w 211, 3) := by decide +kernel
theorem dX12_digest_92 : decode cX12_digest 92 = .ok (.lload_n 1, 1) := by decide +kernel
theorem dX12_digest_93 : decode cX12_digest 93 = .ok (.lmul, 1) := by decide +kernel
theorem dX12_digest_94 : decode cX12_digest 94 = .ok (.aload_n 0, 1) := by decide +kernel
theorem dX12_digest_95 : decode cX12_digest 95 = .ok (.getfield 7, 3) := by decide +kernel
theorem dX12_digest_98 : decode cX12_digest 98 = .ok (.bipush 20, 2) := by decide +kernel
theorem dX12_digest_100 : decode cX12_digest 100 = .ok (.iload_n 3, 1) := by decide +kernel
theorem dX12_digest_101 : decode cX12_digest 101 = .ok (.iadd, 1) := by decide +kernel
theorem dX12_digest_102 : decode cX12_digest 102 = .ok (.iaload, 1) := by decide +kernel
theorem dX12_digest_103 : decode cX12_digest 103 = .ok (.i2l, 1) := by decide +kernel
theorem dX12_digest_104 : decode cX12_digest 104 = .ok (.ladd, 1) := by decide +kernel
theorem dX12_digest_105 : decode cX12_digest 105 = .ok (.lstore_n 1, 1) := by decide +kernel
theorem dX12_digest_106 : decode cX12_digest 106 = .ok (.ldc2_w 211, 3) := by decide +kernel
theorem dX12_digest_109 : decode cX12_digest 109 = .ok (.lload_n 1, 1) := by decide +kernel
theorem dX12_digest_110 : decode cX12_digest 110 = .ok (.lmul, 1) := by decide +kernel
theorem dX12_digest_111 : decode cX12_digest 111 = .ok (.aload_n 0, 1) := by decide +kernel
theorem dX12_digest_112 : decode cX12_digest 112 = .ok (.getfield 7, 3) := by decide +kernel
theorem dX12_digest_115 : decode cX12_digest 115 = .ok (.bipush 26, 2) := by decide +kernel
theorem dX12_digest_117 : decode cX12_digest 117 = .ok (.iload_n 3, 1) := by decide +kernel
theorem dX12_digest_118 : decode cX12_digest 118 = .ok (.iadd, 1) := by decide +kernel
theorem dX12_digest_119 : decode cX12_digest 119 = .ok (.iaload, 1) := by decide +kernel
theorem dX12_digest_120 : decode cX12_digest 120 = .ok (.i2l, 1) := by decide +kernel
theorem dX12_digest_121 : decode cX12_digest 121 = .ok (.ladd, 1) := by decide +kernel
theorem dX12_digest_122 : decode cX12_digest 122 = .ok (.lstore_n 1, 1) := by decide +kernel
theorem dX12_digest_123 : decode cX12_digest 123 = .ok (.ldc2_w 211, 3) := by decide +kernel
theorem dX12_digest_126 : decode cX12_digest 126 = .ok (.lload_n 1, 1) := by decide +kernel
theorem dX12_digest_127 : decode cX12_digest 127 = .ok (.lmul, 1) := by decide +kernel
theorem dX12_digest_128 : decode cX12_digest 128 = .ok (.aload_n 0, 1) := by decide +kernel
theorem dX12_digest_129 : decode cX12_digest 129 = .ok (.getfield 7, 3) := by decide +kernel
theorem dX12_digest_132 : decode cX12_digest 132 = .ok (.bipush 32, 2) := by decide +kernel
theorem dX12_digest_134 : decode cX12_digest 134 = .ok (.iload_n 3, 1) := by decide +kernel
theorem dX12_digest_135 : decode cX12_digest 135 = .ok (.iadd, 1) := by decide +kernel
theorem dX12_digest_136 : decode cX12_digest 136 = .ok (.iaload, 1) := by decide +kernel
theorem dX12_digest_137 : decode cX12_digest 137 = .ok (.i2l, 1) := by decide +kernel
theorem dX12_digest_138 : decode cX12_digest 138 = .ok (.ladd, 1) := by decide +kernel
theorem dX12_digest_139 : decode cX12_digest 139 = .ok (.lstore_n 1, 1) := by decide +kernel
theorem dX12_digest_140 : decode cX12_digest 140 = .ok (.ldc2_w 211, 3) := by decide +kernel
theorem dX12_digest_143 : decode cX12_digest 143 = .ok (.lload_n 1, 1) := by decide +kernel
theorem dX12_digest_144 : decode cX12_digest 144 = .ok (.lmul, 1) := by decide +kernel
theorem dX12_digest_145 : decode cX12_digest 145 = .ok (.aload_n 0, 1) := by decide +kernel
theorem dX12_digest_146 : decode cX12_digest 146 = .ok (.getfield 7, 3) := by decide +kernel
theorem dX12_digest_149 : decode cX12_digest 149 = .ok (.iconst 0, 1) := by decide +kernel
theorem dX12_digest_150 : decode cX12_digest 150 = .ok (.iload_n 3, 1) := by decide +kernel
theorem dX12_digest_151 : decode cX12_digest 151 = .ok (.iadd, 1) := by decide +kernel
theorem dX12_digest_152 : decode cX12_digest 152 = .ok (.iaload, 1) := by decide +kernel
theorem dX12_digest_153 : decode cX12_digest 153 = .ok (.i2l, 1) := by decide +kernel
theorem dX12_digest_154 : decode cX12_digest 154 = .ok (.ladd, 1) := by decide +kernel
theorem dX12_digest_155 : decode cX12_digest 155 = .ok (.lstore_n 1, 1) := by decide +kernel
theorem dX12_digest_156 : decode cX12_digest 156 = .ok (.ldc2_w 211, 3) := by decide +kernel
theorem dX12_digest_159 : decode cX12_digest 159 = .ok (.lload_n 1, 1) := by decide +kernel
theorem dX12_digest_160 : decode cX12_digest 160 = .ok (.lmul, 1) := by decide +kernel
theorem dX12_digest_161 : decode cX12_digest 161 = .ok (.aload_n 0, 1) := by decide +kernel
theorem dX12_digest_162 : decode cX12_digest 162 = .ok (.getfield 7, 3) := by decide +kernel
theorem dX12_digest_165 : decode cX12_digest 165 = .ok (.bipush 6, 2) := by decide +kernel
theorem dX12_digest_167 : decode cX12_digest 167 = .ok (.iload_n 3, 1) := by decide +kernel
theorem dX12_digest_168 : decode cX12_digest 168 = .ok (.iadd, 1) := by decide +kernel
theorem dX12_digest_169 : decode cX12_digest 169 = .ok (.iaload, 1) := by decide +kernel
theorem dX12_digest_170 : decode cX12_digest 170 = .ok (.i2l, 1) := by decide +kernel
theorem dX12_digest_171 : decode cX12_digest 171 = .ok (.ladd, 1) := by decide +kernel
theorem dX12_digest_172 : decode cX12_digest 172 = .ok (.lstore_n 1, 1) := by decide +kernel
theorem dX12_digest_173 : decode cX12_digest 173 = .ok (.iinc 3 1, 3) := by decide +kernel
theorem dX12_digest_176 : decode cX12_digest 176 = .ok (.goto (-98), 3) := by decide +kernel
theorem dX12_digest_179 : decode cX12_digest 179 = .ok (.iconst 0, 1) := by decide +kernel
theorem dX12_digest_180 : decode cX12_digest 180 = .ok (.istore_n 3, 1) := by decide +kernel
theorem dX12_digest_181 : decode cX12_digest 181 = .ok (.iload_n 3, 1) := by decide +kernel
theorem dX12_digest_182 : decode cX12_digest 182 = .ok (.iconst 2, 1) := by decide +kernel
theorem dX12_digest_183 : decode cX12_digest 183 = .ok (.aload_n 0, 1) := by decide +kernel
theorem dX12_digest_184 : decode cX12_digest 184 = .ok (.getfield 7, 3) := by decide +kernel
theorem dX12_digest_187 : decode cX12_digest 187 = .ok (.bipush 38, 2) := by decide +kernel
theorem dX12_digest_189 : decode cX12_digest 189 = .ok (.iaload, 1) := by decide +kernel
theorem dX12_digest_190 : decode cX12_digest 190 = .ok (.imul, 1) := by decide +kernel
theorem dX12_digest_191 : decode cX12_digest 191 = .ok (.if_icmp .ge 26, 3) := by decide +kernel
theorem dX12_digest_194 : decode cX12_digest 194 = .ok (.ldc2_w 211, 3) := by decide +kernel
theorem dX12_digest_197 : decode cX12_digest 197 = .ok (.lload_n 1, 1) := by decide +kernel
theorem dX12_digest_198 : decode cX12_digest 198 = .ok (.lmul, 1) := by decide +kernel
theorem dX12_digest_199 : decode cX12_digest 199 = .ok (.aload_n 0, 1) := by decide +kernel
theorem dX12_digest_200 : decode cX12_digest 200 = .ok (.getfield 7, 3) := by decide +kernel
theorem dX12_digest_203 : decode cX12_digest 203 = .ok (.bipush 39, 2) := by decide +kernel
theorem dX12_digest_205 : decode cX12_digest 205 = .ok (.iload_n 3, 1) := by decide +kernel
theorem dX12_digest_206 : decode cX12_digest 206 = .ok (.iadd, 1) := by decide +kernel
theorem dX12_digest_207 : decode cX12_digest 207 = .ok (.iaload, 1) := by decide +kernel
theorem dX12_digest_208 : decode cX12_digest 208 = .ok (.i2l, 1) := by decide +kernel
theorem dX12_digest_209 : decode cX12_digest 209 = .ok (.ladd, 1) := by decide +kernel
theorem dX12_digest_210 : decode cX12_digest 210 = .ok (.lstore_n 1, 1) := by decide +kernel
theorem dX12_digest_211 : decode cX12_digest 211 = .ok (.iinc 3 1, 3) := by decide +kernel
theorem dX12_digest_214 : decode cX12_digest 214 = .ok (.goto (-33), 3) := by decide +kernel
theorem dX12_digest_217 : decode cX12_digest 217 = .ok (.iconst 0, 1) := by decide +kernel
theorem dX12_digest_218 : decode cX12_digest 218 = .ok (.istore_n 3, 1) := by decide +kernel
theorem dX12_digest_219 : decode cX12_digest 219 = .ok (.iload_n 3, 1) := by decide +kernel
theorem dX12_digest_220 : decode cX12_digest 220 = .ok (.iconst 4, 1) := by decide +kernel
theorem dX12_digest_221 : decode cX12_digest 221 = .ok (.aload_n 0, 1) := by decide +kernel
theorem dX12_digest_222 : decode cX12_digest 222 = .ok (.getfield 7, 3) := by decide +kernel
theorem dX12_digest_225 : decode cX12_digest 225 = .ok (.bipush 51, 2) := by decide +kernel
theorem dX12_digest_227 : decode cX12_digest 227 = .ok (.iaload, 1) := by decide +kernel
theorem dX12_digest_228 : decode cX12_digest 228 = .ok (.imul, 1) := by decide +kernel
theorem dX12_digest_229 : decode cX12_digest 229 = .ok (.if_icmp .ge 26, 3) := by decide +kernel
theorem dX12_digest_232 : decode cX12_digest 232 = .ok (.ldc2_w 211, 3) := by decide +kernel
theorem dX12_digest_235 : decode cX12_digest 235 = .ok (.lload_n 1, 1) := by decide +kernel
theorem dX12_digest_236 : decode cX12_digest 236 = .ok (.lmul, 1) := by decide +kernel
theorem dX12_digest_237 : decode cX12_digest 237 = .ok (.aload_n 0, 1) := by decide +kernel
theorem dX12_digest_238 : decode cX12_digest 238 = .ok (.getfield 7, 3) := by decide +kernel
theorem dX12_digest_241 : decode cX12_digest 241 = .ok (.bipush 52, 2) := by decide +kernel
theorem dX12_digest_243 : decode cX12_digest 243 = .ok (.iload_n 3, 1) := by decide +kernel
theorem dX12_digest_244 : decode cX12_digest 244 = .ok (.iadd, 1) := by decide +kernel
theorem dX12_digest_245 : decode cX12_digest 245 = .ok (.iaload, 1) := by decide +kernel
theorem dX12_digest_246 : decode cX12_digest 246 = .ok (.i2l, 1) := by decide +kernel
theorem dX12_digest_247 : decode cX12_digest 247 = .ok (.ladd, 1) := by decide +kernel
theorem dX12_digest_248 : decode cX12_digest 248 = .ok (.lstore_n 1, 1) := by decide +kernel
theorem dX12_digest_249 : decode cX12_digest 249 = .ok (.iinc 3 1, 3) := by decide +kernel
theorem dX12_digest_252 : decode cX12_digest 252 = .ok (.goto (-33), 3) := by decide +kernel
theorem dX12_digest_255 : decode cX12_digest 255 = .ok (.ldc2_w 211, 3) := by decide +kernel
theorem dX12_digest_258 : decode cX12_digest 258 = .ok (.lload_n 1, 1) := by decide +kernel
theorem dX12_digest_259 : decode cX12_digest 259 = .ok (.lmul, 1) := by decide +kernel
theorem dX12_digest_260 : decode cX12_digest 260 = .ok (.aload_n 0, 1) := by decide +kernel
theorem dX12_digest_261 : decode cX12_digest 261 = .ok (.getfield 186, 3) := by decide +kernel
theorem dX12_digest_264 : decode cX12_digest 264 = .ok (.ladd, 1) := by decide +kernel
theorem dX12_digest_265 : decode cX12_digest 265 = .ok (.lstore_n 1, 1) := by decide +kernel
theorem dX12_digest_266 : decode cX12_digest 266 = .ok (.ldc2_w 211, 3) := by decide +kernel
theorem dX12_digest_269 : decode cX12_digest 269 = .ok (.lload_n 1, 1) := by decide +kernel
theorem dX12_digest_270 : decode cX12_digest 270 = .ok (.lmul, 1) := by decide +kernel
theorem dX12_digest_271 : decode cX12_digest 271 = .ok (.aload_n 0, 1) := by decide +kernel
theorem dX12_digest_272 : decode cX12_digest 272 = .ok (.getfield 20, 3) := by decide +kernel
theorem dX12_digest_275 : decode cX12_digest 275 = .ok (.ladd, 1) := by decide +kernel
theorem dX12_digest_276 : decode cX12_digest 276 = .ok (.lreturn, 1) := by decide +kernel
set_option maxRecDepth 100000 in
set_option maxHeartbeats 4000000 in
theorem c_X12_digest {g : Gv} {l : Launch} (p0 : Nat) (w0 : Wd) (rz : Int64) (wz : Wd) (hf : f_X12_digest p0 w0 = some (rz, wz)) : ML g l yX12_digest cX12_digest 4 2 44 [rV g p0] w0 rz wz := by
  refine ml_of RX12 (by decide) rfl (Nat.le_of_ble_eq_true rfl) ?_
  intro X hg hll C hr h0
  subst hg; subst hll
  have t_219 : ∀ (n : Nat) (v0 : Nat) (v1 : Int64) (v3 : Int32) (w : Wd), f_X12_digest_219 n v0 v1 v3 w = some (rz, wz) → Wk X 0 0 (QL X w0 rz wz) w [(0, rV (xg X) v0), (1, .long v1), (3, .int v3)] 219 [] := by
    intro n
    induction n with
    | zero => intro v0 v1 v3 w hf; rw [f_X12_digest_219] at hf; cases hf
    | succ n219 ih219 =>
      intro v0 v1 v3 w hf
      rw [f_X12_digest_219] at hf
      refine k_iload_n C dX12_digest_219 2 rfl 220 rfl ?_
      refine k_iconst C dX12_digest_220 (4) (by decide) 221 rfl ?_
      refine k_aload_n C dX12_digest_221 0 rfl rfl 222 rfl ?_
      refine k_getR C fe_X12_7 rfl dX12_digest_222 hf 225 rfl (fun r43 hf => ?_)
      refine k_bipush C dX12_digest_225 (51) (by decide) 227 rfl ?_
      refine k_iald C dX12_digest_227 hf 228 rfl (fun x44 hf => ?_)
      refine k_imul C dX12_digest_228 229 rfl ?_
      refine k_icmp_ge C dX12_digest_229 hf 255 rfl 232 rfl (fun hf => ?_) (fun hf => ?_)
      · refine k_ldc2 C dX12_digest_255 mcst_X12_211 258 rfl ?_
        refine k_lload_n C dX12_digest_258 1 rfl 259 rfl ?_
        refine k_lmul C dX12_digest_259 260 rfl ?_
        refine k_aload_n C dX12_digest_260 0 rfl rfl 261 rfl ?_
        refine k_getL C fe_X12_186 rfl dX12_digest_261 hf 264 rfl (fun x45 hf => ?_)
        refine k_ladd C dX12_digest_264 265 rfl ?_
        refine k_nml hf (fun x46 hf => ?_)
        refine k_lstore_n C dX12_digest_265 rfl (by decide) [(1, .long x46), (0, rV (xg X) v0), (3, .int v3)] rfl 266 rfl ?_
        refine k_ldc2 C dX12_digest_266 mcst_X12_211 269 rfl ?_
        refine k_lload_n C dX12_digest_269 0 rfl 270 rfl ?_
        refine k_lmul C dX12_digest_270 271 rfl ?_
        refine k_aload_n C dX12_digest_271 1 rfl rfl 272 rfl ?_
        refine k_getL C fe_X12_20 rfl dX12_digest_272 hf 275 rfl (fun x47 hf => ?_)
        refine k_ladd C dX12_digest_275 276 rfl ?_
        exact k_lret C hr h0 dX12_digest_276 hf
      · refine k_ldc2 C dX12_digest_232 mcst_X12_211 235 rfl ?_
        refine k_lload_n C dX12_digest_235 1 rfl 236 rfl ?_
        refine k_lmul C dX12_digest_236 237 rfl ?_
        refine k_aload_n C dX12_digest_237 0 rfl rfl 238 rfl ?_
        refine k_getR C fe_X12_7 rfl dX12_digest_238 hf 241 rfl (fun r48 hf => ?_)
        refine k_bipush C dX12_digest_241 (52) (by decide) 243 rfl ?_
        refine k_iload_n C dX12_digest_243 2 rfl 244 rfl ?_
        refine k_iadd C dX12_digest_244 245 rfl ?_
        refine k_iald C dX12_digest_245 hf 246 rfl (fun x49 hf => ?_)
        refine k_i2l C dX12_digest_246 247 rfl ?_
        refine k_ladd C dX12_digest_247 248 rfl ?_
        refine k_nml hf (fun x50 hf => ?_)
        refine k_lstore_n C dX12_digest_248 rfl (by decide) [(1, .long x50), (0, rV (xg X) v0), (3, .int v3)] rfl 249 rfl ?_
        refine k_iinc C dX12_digest_249 2 rfl (by decide) (by decide) [(3, .int (v3 + (1 : Int32))), (1, .long x50), (0, rV (xg X) v0)] rfl 252 rfl ?_
        refine k_goto C dX12_digest_252 219 rfl ?_
        refine k_sub [2, 1, 0] rfl ?_
        exact ih219 _ _ _ w hf
  have t_181 : ∀ (n : Nat) (v0 : Nat) (v1 : Int64) (v3 : Int32) (w : Wd), f_X12_digest_181 n v0 v1 v3 w = some (rz, wz) → Wk X 0 0 (QL X w0 rz wz) w [(0, rV (xg X) v0), (1, .long v1), (3, .int v3)] 181 [] := by
    intro n
    induction n with
    | zero => intro v0 v1 v3 w hf; rw [f_X12_digest_181] at hf; cases hf
    | succ n181 ih181 =>
      intro v0 v1 v3 w hf
      rw [f_X12_digest_181] at hf
      refine k_iload_n C dX12_digest_181 2 rfl 182 rfl ?_
      refine k_iconst C dX12_digest_182 (2) (by decide) 183 rfl ?_
      refine k_aload_n C dX12_digest_183 0 rfl rfl 184 rfl ?_
      refine k_getR C fe_X12_7 rfl dX12_digest_184 hf 187 rfl (fun r51 hf => ?_)
      refine k_bipush C dX12_digest_187 (38) (by decide) 189 rfl ?_
      refine k_iald C dX12_digest_189 hf 190 rfl (fun x52 hf => ?_)
      refine k_imul C dX12_digest_190 191 rfl ?_
      refine k_icmp_ge C dX12_digest_191 hf 217 rfl 194 rfl (fun hf => ?_) (fun hf => ?_)
      · refine k_iconst C dX12_digest_217 (0) (by decide) 218 rfl ?_
        refine k_istore_n C dX12_digest_218 rfl (by decide) [(3, .int (0 : Int32)), (0, rV (xg X) v0), (1, .long v1)] rfl 219 rfl ?_
        refine k_sub [1, 2, 0] rfl ?_
        exact t_219 4096 _ _ _ w hf
      · refine k_ldc2 C dX12_digest_194 mcst_X12_211 197 rfl ?_
        refine k_lload_n C dX12_digest_197 1 rfl 198 rfl ?_
        refine k_lmul C dX12_digest_198 199 rfl ?_
        refine k_aload_n C dX12_digest_199 0 rfl rfl 200 rfl ?_
        refine k_getR C fe_X12_7 rfl dX12_digest_200 hf 203 rfl (fun r53 hf => ?_)
        refine k_bipush C dX12_digest_203 (39) (by decide) 205 rfl ?_
        refine k_iload_n C dX12_digest_205 2 rfl 206 rfl ?_
        refine k_iadd C dX12_digest_206 207 rfl ?_
        refine k_iald C dX12_digest_207 hf 208 rfl (fun x54 hf => ?_)
        refine k_i2l C dX12_digest_208 209 rfl ?_
        refine k_ladd C dX12_digest_209 210 rfl ?_
        refine k_nml hf (fun x55 hf => ?_)
        refine k_lstore_n C dX12_digest_210 rfl (by decide) [(1, .long x55), (0, rV (xg X) v0), (3, .int v3)] rfl 211 rfl ?_
        refine k_iinc C dX12_digest_211 2 rfl (by decide) (by decide) [(3, .int (v3 + (1 : Int32))), (1, .long x55), (0, rV (xg X) v0)] rfl 214 rfl ?_
        refine k_goto C dX12_digest_214 181 rfl ?_
        refine k_sub [2, 1, 0] rfl ?_
        exact ih181 _ _ _ w hf
  have t_78 : ∀ (n : Nat) (v0 : Nat) (v1 : Int64) (v3 : Int32) (w : Wd), f_X12_digest_78 n v0 v1 v3 w = some (rz, wz) → Wk X 0 0 (QL X w0 rz wz) w [(0, rV (xg X) v0), (1, .long v1), (3, .int v3)] 78 [] := by
    intro n
    induction n with
    | zero => intro v0 v1 v3 w hf; rw [f_X12_digest_78] at hf; cases hf
    | succ n78 ih78 =>
      intro v0 v1 v3 w hf
      rw [f_X12_digest_78] at hf
      refine k_iload_n C dX12_digest_78 2 rfl 79 rfl ?_
      refine k_aload_n C dX12_digest_79 0 rfl rfl 80 rfl ?_
      refine k_getR C fe_X12_7 rfl dX12_digest_80 hf 83 rfl (fun r56 hf => ?_)
      refine k_bipush C dX12_digest_83 (19) (by decide) 85 rfl ?_
      refine k_iald C dX12_digest_85 hf 86 rfl (fun x57 hf => ?_)
      refine k_icmp_ge C dX12_digest_86 hf 179 rfl 89 rfl (fun hf => ?_) (fun hf => ?_)
      · refine k_iconst C dX12_digest_179 (0) (by decide) 180 rfl ?_
        refine k_istore_n C dX12_digest_180 rfl (by decide) [(3, .int (0 : Int32)), (0, rV (xg X) v0), (1, .long v1)] rfl 181 rfl ?_
        refine k_sub [1, 2, 0] rfl ?_
        exact t_181 4096 _ _ _ w hf
      · refine k_ldc2 C dX12_digest_89 mcst_X12_211 92 rfl ?_
        refine k_lload_n C dX12_digest_92 1 rfl 93 rfl ?_
        refine k_lmul C dX12_digest_93 94 rfl ?_
        refine k_aload_n C dX12_digest_94 0 rfl rfl 95 rfl ?_
        refine k_getR C fe_X12_7 rfl dX12_digest_95 hf 98 rfl (fun r58 hf => ?_)
        refine k_bipush C dX12_digest_98 (20) (by decide) 100 rfl ?_
        refine k_iload_n C dX12_digest_100 2 rfl 101 rfl ?_
        refine k_iadd C dX12_digest_101 102 rfl ?_
        refine k_iald C dX12_digest_102 hf 103 rfl (fun x59 hf => ?_)
        refine k_i2l C dX12_digest_103 104 rfl ?_
        refine k_ladd C dX12_digest_104 105 rfl ?_
        refine k_nml hf (fun x60 hf => ?_)
        refine k_lstore_n C dX12_digest_105 rfl (by decide) [(1, .long x60), (0, rV (xg X) v0), (3, .int v3)] rfl 106 rfl ?_
        refine k_ldc2 C dX12_digest_106 mcst_X12_211 109 rfl ?_
        refine k_lload_n C dX12_digest_109 0 rfl 110 rfl ?_
        refine k_lmul C dX12_digest_110 111 rfl ?_
        refine k_aload_n C dX12_digest_111 1 rfl rfl 112 rfl ?_
        refine k_getR C fe_X12_7 rfl dX12_digest_112 hf 115 rfl (fun r61 hf => ?_)
        refine k_bipush C dX12_digest_115 (26) (by decide) 117 rfl ?_
        refine k_iload_n C dX12_digest_117 2 rfl 118 rfl ?_
        refine k_iadd C dX12_digest_118 119 rfl ?_
        refine k_iald C dX12_digest_119 hf 120 rfl (fun x62 hf => ?_)
        refine k_i2l C dX12_digest_120 121 rfl ?_
        refine k_ladd C dX12_digest_121 122 rfl ?_
        refine k_nml hf (fun x63 hf => ?_)
        refine k_lstore_n C dX12_digest_122 rfl (by decide) [(1, .long x63), (0, rV (xg X) v0), (3, .int v3)] rfl 123 rfl ?_
        refine k_ldc2 C dX12_digest_123 mcst_X12_211 126 rfl ?_
        refine k_lload_n C dX12_digest_126 0 rfl 127 rfl ?_
        refine k_lmul C dX12_digest_127 128 rfl ?_
        refine k_aload_n C dX12_digest_128 1 rfl rfl 129 rfl ?_
        refine k_getR C fe_X12_7 rfl dX12_digest_129 hf 132 rfl (fun r64 hf => ?_)
        refine k_bipush C dX12_digest_132 (32) (by decide) 134 rfl ?_
        refine k_iload_n C dX12_digest_134 2 rfl 135 rfl ?_
        refine k_iadd C dX12_digest_135 136 rfl ?_
        refine k_iald C dX12_digest_136 hf 137 rfl (fun x65 hf => ?_)
        refine k_i2l C dX12_digest_137 138 rfl ?_
        refine k_ladd C dX12_digest_138 139 rfl ?_
        refine k_nml hf (fun x66 hf => ?_)
        refine k_lstore_n C dX12_digest_139 rfl (by decide) [(1, .long x66), (0, rV (xg X) v0), (3, .int v3)] rfl 140 rfl ?_
        refine k_ldc2 C dX12_digest_140 mcst_X12_211 143 rfl ?_
        refine k_lload_n C dX12_digest_143 0 rfl 144 rfl ?_
        refine k_lmul C dX12_digest_144 145 rfl ?_
        refine k_aload_n C dX12_digest_145 1 rfl rfl 146 rfl ?_
        refine k_getR C fe_X12_7 rfl dX12_digest_146 hf 149 rfl (fun r67 hf => ?_)
        refine k_iconst C dX12_digest_149 (0) (by decide) 150 rfl ?_
        refine k_iload_n C dX12_digest_150 2 rfl 151 rfl ?_
        refine k_iadd C dX12_digest_151 152 rfl ?_
        refine k_iald C dX12_digest_152 hf 153 rfl (fun x68 hf => ?_)
        refine k_i2l C dX12_digest_153 154 rfl ?_
        refine k_ladd C dX12_digest_154 155 rfl ?_
        refine k_nml hf (fun x69 hf => ?_)
        refine k_lstore_n C dX12_digest_155 rfl (by decide) [(1, .long x69), (0, rV (xg X) v0), (3, .int v3)] rfl 156 rfl ?_
        refine k_ldc2 C dX12_digest_156 mcst_X12_211 159 rfl ?_
        refine k_lload_n C dX12_digest_159 0 rfl 160 rfl ?_
        refine k_lmul C dX12_digest_160 161 rfl ?_
        refine k_aload_n C dX12_digest_161 1 rfl rfl 162 rfl ?_
        refine k_getR C fe_X12_7 rfl dX12_digest_162 hf 165 rfl (fun r70 hf => ?_)
        refine k_bipush C dX12_digest_165 (6) (by decide) 167 rfl ?_
        refine k_iload_n C dX12_digest_167 2 rfl 168 rfl ?_
        refine k_iadd C dX12_digest_168 169 rfl ?_
        refine k_iald C dX12_digest_169 hf 170 rfl (fun x71 hf => ?_)
        refine k_i2l C dX12_digest_170 171 rfl ?_
        refine k_ladd C dX12_digest_171 172 rfl ?_
        refine k_nml hf (fun x72 hf => ?_)
        refine k_lstore_n C dX12_digest_172 rfl (by decide) [(1, .long x72), (0, rV (xg X) v0), (3, .int v3)] rfl 173 rfl ?_
        refine k_iinc C dX12_digest_173 2 rfl (by decide) (by decide) [(3, .int (v3 + (1 : Int32))), (1, .long x72), (0, rV (xg X) v0)] rfl 176 rfl ?_
        refine k_goto C dX12_digest_176 78 rfl ?_
        refine k_sub [2, 1, 0] rfl ?_
        exact ih78 _ _ _ w hf
  have t_6 : ∀ (n : Nat) (v0 : Nat) (v1 : Int64) (v3 : Int32) (w : Wd), f_X12_digest_6 n v0 v1 v3 w = some (rz, wz) → Wk X 0 0 (QL X w0 rz wz) w [(0, rV (xg X) v0), (1, .long v1), (3, .int v3)] 6 [] := by
    intro n
    induction n with
    | zero => intro v0 v1 v3 w hf; rw [f_X12_digest_6] at hf; cases hf
    | succ n6 ih6 =>
      intro v0 v1 v3 w hf
      rw [f_X12_digest_6] at hf
      refine k_iload_n C dX12_digest_6 2 rfl 7 rfl ?_
      refine k_bipush C dX12_digest_7 (10) (by decide) 9 rfl ?_
      refine k_icmp_ge C dX12_digest_9 hf 31 rfl 12 rfl (fun hf => ?_) (fun hf => ?_)
      · refine k_ldc2 C dX12_digest_31 mcst_X12_211 34 rfl ?_
        refine k_lload_n C dX12_digest_34 1 rfl 35 rfl ?_
        refine k_lmul C dX12_digest_35 36 rfl ?_
        refine k_aload_n C dX12_digest_36 0 rfl rfl 37 rfl ?_
        refine k_getR C fe_X12_7 rfl dX12_digest_37 hf 40 rfl (fun r73 hf => ?_)
        refine k_bipush C dX12_digest_40 (17) (by decide) 42 rfl ?_
        refine k_iald C dX12_digest_42 hf 43 rfl (fun x74 hf => ?_)
        refine k_i2l C dX12_digest_43 44 rfl ?_
        refine k_ladd C dX12_digest_44 45 rfl ?_
        refine k_nml hf (fun x75 hf => ?_)
        refine k_lstore_n C dX12_digest_45 rfl (by decide) [(1, .long x75), (0, rV (xg X) v0), (3, .int v3)] rfl 46 rfl ?_
        refine k_ldc2 C dX12_digest_46 mcst_X12_211 49 rfl ?_
        refine k_lload_n C dX12_digest_49 0 rfl 50 rfl ?_
        refine k_lmul C dX12_digest_50 51 rfl ?_
        refine k_aload_n C dX12_digest_51 1 rfl rfl 52 rfl ?_
        refine k_getR C fe_X12_7 rfl dX12_digest_52 hf 55 rfl (fun r76 hf => ?_)
        refine k_bipush C dX12_digest_55 (18) (by decide) 57 rfl ?_
        refine k_iald C dX12_digest_57 hf 58 rfl (fun x77 hf => ?_)
        refine k_i2l C dX12_digest_58 59 rfl ?_
        refine k_ladd C dX12_digest_59 60 rfl ?_
        refine k_nml hf (fun x78 hf => ?_)
        refine k_lstore_n C dX12_digest_60 rfl (by decide) [(1, .long x78), (0, rV (xg X) v0), (3, .int v3)] rfl 61 rfl ?_
        refine k_ldc2 C dX12_digest_61 mcst_X12_211 64 rfl ?_
        refine k_lload_n C dX12_digest_64 0 rfl 65 rfl ?_
        refine k_lmul C dX12_digest_65 66 rfl ?_
        refine k_aload_n C dX12_digest_66 1 rfl rfl 67 rfl ?_
        refine k_getR C fe_X12_7 rfl dX12_digest_67 hf 70 rfl (fun r79 hf => ?_)
        refine k_bipush C dX12_digest_70 (15) (by decide) 72 rfl ?_
        refine k_iald C dX12_digest_72 hf 73 rfl (fun x80 hf => ?_)
        refine k_i2l C dX12_digest_73 74 rfl ?_
        refine k_ladd C dX12_digest_74 75 rfl ?_
        refine k_nml hf (fun x81 hf => ?_)
        refine k_lstore_n C dX12_digest_75 rfl (by decide) [(1, .long x81), (0, rV (xg X) v0), (3, .int v3)] rfl 76 rfl ?_
        refine k_iconst C dX12_digest_76 (0) (by decide) 77 rfl ?_
        refine k_istore_n C dX12_digest_77 rfl (by decide) [(3, .int (0 : Int32)), (1, .long x81), (0, rV (xg X) v0)] rfl 78 rfl ?_
        refine k_sub [2, 1, 0] rfl ?_
        exact t_78 4096 _ _ _ w hf
      · refine k_ldc2 C dX12_digest_12 mcst_X12_211 15 rfl ?_
        refine k_lload_n C dX12_digest_15 1 rfl 16 rfl ?_
        refine k_lmul C dX12_digest_16 17 rfl ?_
        refine k_aload_n C dX12_digest_17 0 rfl rfl 18 rfl ?_
        refine k_iload_n C dX12_digest_18 2 rfl 19 rfl ?_
        refine k_callV_i C ye_X12_countOf ve_X12_206 ⟨rfl, rfl⟩ ⟨rfl, rfl⟩ dX12_digest_19 [.int v3] rfl rfl (Nat.le_of_ble_eq_true rfl) (c_X12_countOf _ _ _) hf 22 rfl (fun x83 w82 hf => ?_)
        refine k_i2l C dX12_digest_22 23 rfl ?_
        refine k_ladd C dX12_digest_23 24 rfl ?_
        refine k_nml hf (fun x84 hf => ?_)
        refine k_lstore_n C dX12_digest_24 rfl (by decide) [(1, .long x84), (0, rV (xg X) v0), (3, .int v3)] rfl 25 rfl ?_
        refine k_iinc C dX12_digest_25 2 rfl (by decide) (by decide) [(3, .int (v3 + (1 : Int32))), (1, .long x84), (0, rV (xg X) v0)] rfl 28 rfl ?_
        refine k_goto C dX12_digest_28 6 rfl ?_
        refine k_sub [2, 1, 0] rfl ?_
        exact ih6 _ _ _ w82 hf
  unfold f_X12_digest at hf
  refine k_sub (lv2 := [(0, rV (xg X) p0)]) [0] rfl ?_
  refine k_ldc2 C dX12_digest_0 mcst_X12_209 3 rfl ?_
  refine k_lstore_n C dX12_digest_3 rfl (by decide) [(1, .long (1231 : Int64)), (0, rV (xg X) p0)] rfl 4 rfl ?_
  refine k_iconst C dX12_digest_4 (0) (by decide) 5 rfl ?_
  refine k_istore_n C dX12_digest_5 rfl (by decide) [(3, .int (0 : Int32)), (1, .long (1231 : Int64)), (0, rV (xg X) p0)] rfl 6 rfl ?_
  refine k_sub [2, 1, 0] rfl ?_
  exact t_6 4096 _ _ _ w0 hf
theorem dX12_forget_0 : decode cX12_forget 0 = .ok (.iload_n 1, 1) := by decide +kernel
theorem dX12_forget_1 : decode cX12_forget 1 = .ok (.iconst 0, 1) := by decide +kernel
theorem dX12_forget_2 : decode cX12_forget 2 = .ok (.iconst 1, 1) := by decide +kernel
theorem dX12_forget_3 : decode cX12_forget 3 = .ok (.invokestatic 52, 3) := by decide +kernel
theorem dX12_forget_6 : decode cX12_forget 6 = .ok (.ifCond .ne 10, 3) := by decide +kernel
theorem dX12_forget_9 : decode cX12_forget 9 = .ok (.aload_n 0, 1) := by decide +kernel
theorem dX12_forget_10 : decode cX12_forget 10 = .ok (.bipush (-2), 2) := by decide +kernel
theorem dX12_forget_12 : decode cX12_forget 12 = .ok (.invokevirtual 56, 3) := by decide +kernel
theorem dX12_forget_15 : decode cX12_forget 15 = .ok (.ireturn, 1) := by decide +kernel
theorem dX12_forget_16 : decode cX12_forget 16 = .ok (.iload_n 1, 1) := by decide +kernel
theorem dX12_forget_17 : decode cX12_forget 17 = .ok (.ifCond .ne 8, 3) := by decide +kernel
theorem dX12_forget_20 : decode cX12_forget 20 = .ok (.bipush 38, 2) := by decide +kernel
theorem dX12_forget_22 : decode cX12_forget 22 = .ok (.goto 5, 3) := by decide +kernel
theorem dX12_forget_25 : decode cX12_forget 25 = .ok (.bipush 51, 2) := by decide +kernel
theorem dX12_forget_27 : decode cX12_forget 27 = .ok (.istore_n 2, 1) := by decide +kernel
theorem dX12_forget_28 : decode cX12_forget 28 = .ok (.aload_n 0, 1) := by decide +kernel
theorem dX12_forget_29 : decode cX12_forget 29 = .ok (.getfield 7, 3) := by decide +kernel
theorem dX12_forget_32 : decode cX12_forget 32 = .ok (.iload_n 2, 1) := by decide +kernel
theorem dX12_forget_33 : decode cX12_forget 33 = .ok (.iaload, 1) := by decide +kernel
theorem dX12_forget_34 : decode cX12_forget 34 = .ok (.istore_n 3, 1) := by decide +kernel
theorem dX12_forget_35 : decode cX12_forget 35 = .ok (.aload_n 0, 1) := by decide +kernel
theorem dX12_forget_36 : decode cX12_forget 36 = .ok (.getfield 7, 3) := by decide +kernel
theorem dX12_forget_39 : decode cX12_forget 39 = .ok (.iload_n 2, 1) := by decide +kernel
theorem dX12_forget_40 : decode cX12_forget 40 = .ok (.iconst 0, 1) := by decide +kernel
theorem dX12_forget_41 : decode cX12_forget 41 = .ok (.iastore, 1) := by decide +kernel
theorem dX12_forget_42 : decode cX12_forget 42 = .ok (.iload_n 3, 1) := by decide +kernel
theorem dX12_forget_43 : decode cX12_forget 43 = .ok (.ireturn, 1) := by decide +kernel
set_option maxRecDepth 100000 in
set_option maxHeartbeats 4000000 in
theorem c_X12_forget {g : Gv} {l : Launch} (p0 : Nat) (p1 : Int32) (w0 : Wd) (rz : Int32) (wz : Wd) (hf : f_X12_forget p0 p1 w0 = some (rz, wz)) : MI g l yX12_forget cX12_forget 4 .int 1 22 [rV g p0, .int p1] w0 rz wz := by
  refine mi_of RX12 (by decide) rfl (Nat.le_of_ble_eq_true rfl) ?_
  intro X hg hll C hr h0
  subst hg; subst hll
  have t_27 : ∀ (v0 : Nat) (s0 : Int32) (w : Wd), f_X12_forget_27 v0 s0 w = some (rz, wz) → Wk X 0 0 (QI X w0 rz wz) w [(0, rV (xg X) v0)] 27 [.int s0] := by
    intro v0 s0 w hf
    unfold f_X12_forget_27 at hf
    refine k_istore_n C dX12_forget_27 rfl (by decide) [(2, .int s0), (0, rV (xg X) v0)] rfl 28 rfl ?_
    refine k_aload_n C dX12_forget_28 1 rfl rfl 29 rfl ?_
    refine k_getR C fe_X12_7 rfl dX12_forget_29 hf 32 rfl (fun r9 hf => ?_)
    refine k_iload_n C dX12_forget_32 0 rfl 33 rfl ?_
    refine k_iald C dX12_forget_33 hf 34 rfl (fun x10 hf => ?_)
    refine k_istore_n C dX12_forget_34 rfl (by decide) [(3, .int x10), (2, .int s0), (0, rV (xg X) v0)] rfl 35 rfl ?_
    refine k_aload_n C dX12_forget_35 2 rfl rfl 36 rfl ?_
    refine k_getR C fe_X12_7 rfl dX12_forget_36 hf 39 rfl (fun r11 hf => ?_)
    refine k_iload_n C dX12_forget_39 1 rfl 40 rfl ?_
    refine k_iconst C dX12_forget_40 (0) (by decide) 41 rfl ?_
    refine k_iast C dX12_forget_41 hf 42 rfl (fun w12 _ hf => ?_)
    refine k_iload_n C dX12_forget_42 0 rfl 43 rfl ?_
    exact k_iret C hr h0 dX12_forget_43 hf
  unfold f_X12_forget at hf
  refine k_sub (lv2 := [(0, rV (xg X) p0), (1, .int p1)]) [0, 1] rfl ?_
  refine k_iload_n C dX12_forget_0 1 rfl 1 rfl ?_
  refine k_iconst C dX12_forget_1 (0) (by decide) 2 rfl ?_
  refine k_iconst C dX12_forget_2 (1) (by decide) 3 rfl ?_
  refine k_callS_i C ye_X12_in se_X12_52 ⟨rfl, rfl⟩ ⟨rfl, rfl⟩ dX12_forget_3 [.int p1, .int (0 : Int32), .int (1 : Int32)] rfl rfl (Nat.le_of_ble_eq_true rfl) (c_X12_in _ _ _ _) hf 6 rfl (fun x14 w13 hf => ?_)
  refine k_if_ne C dX12_forget_6 hf 16 rfl 9 rfl (fun hf => ?_) (fun hf => ?_)
  · refine k_iload_n C dX12_forget_16 1 rfl 17 rfl ?_
    refine k_if_ne C dX12_forget_17 hf 25 rfl 20 rfl (fun hf => ?_) (fun hf => ?_)
    · refine k_bipush C dX12_forget_25 (51) (by decide) 27 rfl ?_
      refine k_sub [0] rfl ?_
      exact t_27 _ _ w13 hf
    · refine k_bipush C dX12_forget_20 (38) (by decide) 22 rfl ?_
      refine k_goto C dX12_forget_22 27 rfl ?_
      refine k_sub [0] rfl ?_
      exact t_27 _ _ w13 hf
  · refine k_aload_n C dX12_forget_9 0 rfl rfl 10 rfl ?_
    refine k_bipush C dX12_forget_10 (-2) (by decide) 12 rfl ?_
    refine k_callV_i C ye_X12_refuse ve_X12_56 ⟨rfl, rfl⟩ ⟨rfl, rfl⟩ dX12_forget_12 [.int (-2 : Int32)] rfl rfl (Nat.le_of_ble_eq_true rfl) (c_X12_refuse _ _ _) hf 15 rfl (fun x16 w15 hf => ?_)
    exact k_iret C hr h0 dX12_forget_15 hf
theorem dX12_from_0 : decode cX12_from 0 = .ok (.iload_n 1, 1) := by decide +kernel
theorem dX12_from_1 : decode cX12_from 1 = .ok (.iconst 0, 1) := by decide +kernel
theorem dX12_from_2 : decode cX12_from 2 = .ok (.iconst 1, 1) := by decide +kernel
theorem dX12_from_3 : decode cX12_from 3 = .ok (.invokestatic 52, 3) := by decide +kernel
theorem dX12_from_6 : decode cX12_from 6 = .ok (.ifCond .ne 10, 3) := by decide +kernel
theorem dX12_from_9 : decode cX12_from 9 = .ok (.aload_n 0, 1) := by decide +kernel
theorem dX12_from_10 : decode cX12_from 10 = .ok (.bipush (-2), 2) := by decide +kernel
theorem dX12_from_12 : decode cX12_from 12 = .ok (.invokevirtual 56, 3) := by decide +kernel
theorem dX12_from_15 : decode cX12_from 15 = .ok (.ireturn, 1) := by decide +kernel
theorem dX12_from_16 : decode cX12_from 16 = .ok (.aload_n 0, 1) := by decide +kernel
theorem dX12_from_17 : decode cX12_from 17 = .ok (.getfield 13, 3) := by decide +kernel
theorem dX12_from_20 : decode cX12_from 20 = .ok (.iload_n 1, 1) := by decide +kernel
theorem dX12_from_21 : decode cX12_from 21 = .ok (.baload, 1) := by decide +kernel
theorem dX12_from_22 : decode cX12_from 22 = .ok (.ifCond .ne 10, 3) := by decide +kernel
theorem dX12_from_25 : decode cX12_from 25 = .ok (.aload_n 0, 1) := by decide +kernel
theorem dX12_from_26 : decode cX12_from 26 = .ok (.bipush (-3), 2) := by decide +kernel
theorem dX12_from_28 : decode cX12_from 28 = .ok (.invokevirtual 56, 3) := by decide +kernel
theorem dX12_from_31 : decode cX12_from 31 = .ok (.ireturn, 1) := by decide +kernel
theorem dX12_from_32 : decode cX12_from 32 = .ok (.iconst 0, 1) := by decide +kernel
theorem dX12_from_33 : decode cX12_from 33 = .ok (.istore_n 2, 1) := by decide +kernel
theorem dX12_from_34 : decode cX12_from 34 = .ok (.iload_n 2, 1) := by decide +kernel
theorem dX12_from_35 : decode cX12_from 35 = .ok (.sipush 213, 3) := by decide +kernel
theorem dX12_from_38 : decode cX12_from 38 = .ok (.if_icmp .ge 31, 3) := by decide +kernel
theorem dX12_from_41 : decode cX12_from 41 = .ok (.aload_n 0, 1) := by decide +kernel
theorem dX12_from_42 : decode cX12_from 42 = .ok (.getfield 7, 3) := by decide +kernel
theorem dX12_from_45 : decode cX12_from 45 = .ok (.iload_n 2, 1) := by decide +kernel
theorem dX12_from_46 : decode cX12_from 46 = .ok (.aload_n 0, 1) := by decide +kernel
theorem dX12_from_47 : decode cX12_from 47 = .ok (.getfield 7, 3) := by decide +kernel
theorem dX12_from_50 : decode cX12_from 50 = .ok (.sipush 213, 3) := by decide +kernel
theorem dX12_from_53 : decode cX12_from 53 = .ok (.sipush 213, 3) := by decide +kernel
theorem dX12_from_56 : decode cX12_from 56 = .ok (.iload_n 1, 1) := by decide +kernel
theorem dX12_from_57 : decode cX12_from 57 = .ok (.imul, 1) := by decide +kernel
theorem dX12_from_58 : decode cX12_from 58 = .ok (.iadd, 1) := by decide +kernel
theorem dX12_from_59 : decode cX12_from 59 = .ok (.iload_n 2, 1) := by decide +kernel
theorem dX12_from_60 : decode cX12_from 60 = .ok (.iadd, 1) := by decide +kernel
theorem dX12_from_61 : decode cX12_from 61 = .ok (.iaload, 1) := by decide +kernel
theorem dX12_from_62 : decode cX12_from 62 = .ok (.iastore, 1) := by decide +kernel
theorem dX12_from_63 : decode cX12_from 63 = .ok (.iinc 2 1, 3) := by decide +kernel
theorem dX12_from_66 : decode cX12_from 66 = .ok (.goto (-32), 3) := by decide +kernel
theorem dX12_from_69 : decode cX12_from 69 = .ok (.iconst 1, 1) := by decide +kernel
theorem dX12_from_70 : decode cX12_from 70 = .ok (.ireturn, 1) := by decide +kernel
set_option maxRecDepth 100000 in
set_option maxHeartbeats 4000000 in
theorem c_X12_from {g : Gv} {l : Launch} (p0 : Nat) (p1 : Int32) (w0 : Wd) (rz : Int32) (wz : Wd) (hf : f_X12_from p0 p1 w0 = some (rz, wz)) : MI g l yX12_from cX12_from 3 .int 1 22 [rV g p0, .int p1] w0 rz wz := by
  refine mi_of RX12 (by decide) rfl (Nat.le_of_ble_eq_true rfl) ?_
  intro X hg hll C hr h0
  subst hg; subst hll
  have t_34 : ∀ (n : Nat) (v0 : Nat) (v1 : Int32) (v2 : Int32) (w : Wd), f_X12_from_34 n v0 v1 v2 w = some (rz, wz) → Wk X 0 0 (QI X w0 rz wz) w [(0, rV (xg X) v0), (1, .int v1), (2, .int v2)] 34 [] := by
    intro n
    induction n with
    | zero => intro v0 v1 v2 w hf; rw [f_X12_from_34] at hf; cases hf
    | succ n34 ih34 =>
      intro v0 v1 v2 w hf
      rw [f_X12_from_34] at hf
      refine k_iload_n C dX12_from_34 2 rfl 35 rfl ?_
      refine k_sipush C dX12_from_35 (213) (by decide) 38 rfl ?_
      refine k_icmp_ge C dX12_from_38 hf 69 rfl 41 rfl (fun hf => ?_) (fun hf => ?_)
      · refine k_iconst C dX12_from_69 (1) (by decide) 70 rfl ?_
        exact k_iret C hr h0 dX12_from_70 hf
      · refine k_aload_n C dX12_from_41 0 rfl rfl 42 rfl ?_
        refine k_getR C fe_X12_7 rfl dX12_from_42 hf 45 rfl (fun r13 hf => ?_)
        refine k_iload_n C dX12_from_45 2 rfl 46 rfl ?_
        refine k_aload_n C dX12_from_46 0 rfl rfl 47 rfl ?_
        refine k_getR C fe_X12_7 rfl dX12_from_47 hf 50 rfl (fun r14 hf => ?_)
        refine k_sipush C dX12_from_50 (213) (by decide) 53 rfl ?_
        refine k_sipush C dX12_from_53 (213) (by decide) 56 rfl ?_
        refine k_iload_n C dX12_from_56 1 rfl 57 rfl ?_
        refine k_imul C dX12_from_57 58 rfl ?_
        refine k_iadd C dX12_from_58 59 rfl ?_
        refine k_iload_n C dX12_from_59 2 rfl 60 rfl ?_
        refine k_iadd C dX12_from_60 61 rfl ?_
        refine k_iald C dX12_from_61 hf 62 rfl (fun x15 hf => ?_)
        refine k_iast C dX12_from_62 hf 63 rfl (fun w16 _ hf => ?_)
        refine k_iinc C dX12_from_63 2 rfl (by decide) (by decide) [(2, .int (v2 + (1 : Int32))), (0, rV (xg X) v0), (1, .int v1)] rfl 66 rfl ?_
        refine k_goto C dX12_from_66 34 rfl ?_
        refine k_sub [1, 2, 0] rfl ?_
        exact ih34 _ _ _ w16 hf
  unfold f_X12_from at hf
  refine k_sub (lv2 := [(0, rV (xg X) p0), (1, .int p1)]) [0, 1] rfl ?_
  refine k_iload_n C dX12_from_0 1 rfl 1 rfl ?_
  refine k_iconst C dX12_from_1 (0) (by decide) 2 rfl ?_
  refine k_iconst C dX12_from_2 (1) (by decide) 3 rfl ?_
  refine k_callS_i C ye_X12_in se_X12_52 ⟨rfl, rfl⟩ ⟨rfl, rfl⟩ dX12_from_3 [.int p1, .int (0 : Int32), .int (1 : Int32)] rfl rfl (Nat.le_of_ble_eq_true rfl) (c_X12_in _ _ _ _) hf 6 rfl (fun x18 w17 hf => ?_)
  refine k_if_ne C dX12_from_6 hf 16 rfl 9 rfl (fun hf => ?_) (fun hf => ?_)
  · refine k_aload_n C dX12_from_16 0 rfl rfl 17 rfl ?_
    refine k_getR C fe_X12_13 rfl dX12_from_17 hf 20 rfl (fun r19 hf => ?_)
    refine k_iload_n C dX12_from_20 1 rfl 21 rfl ?_
    refine k_zald C dX12_from_21 hf 22 rfl (fun x20 hf => ?_)
    refine k_if_ne C dX12_from_22 hf 32 rfl 25 rfl (fun hf => ?_) (fun hf => ?_)
    · refine k_iconst C dX12_from_32 (0) (by decide) 33 rfl ?_
      refine k_istore_n C dX12_from_33 rfl (by decide) [(2, .int (0 : Int32)), (0, rV (xg X) p0), (1, .int p1)] rfl 34 rfl ?_
      refine k_sub [1, 2, 0] rfl ?_
      exact t_34 4096 _ _ _ w17 hf
    · refine k_aload_n C dX12_from_25 0 rfl rfl 26 rfl ?_
      refine k_bipush C dX12_from_26 (-3) (by decide) 28 rfl ?_
      refine k_callV_i C ye_X12_refuse ve_X12_56 ⟨rfl, rfl⟩ ⟨rfl, rfl⟩ dX12_from_28 [.int (-3 : Int32)] rfl rfl (Nat.le_of_ble_eq_true rfl) (c_X12_refuse _ _ _) hf 31 rfl (fun x22 w21 hf => ?_)
      exact k_iret C hr h0 dX12_from_31 hf
  · refine k_aload_n C dX12_from_9 0 rfl rfl 10 rfl ?_
    refine k_bipush C dX12_from_10 (-2) (by decide) 12 rfl ?_
    refine k_callV_i C ye_X12_refuse ve_X12_56 ⟨rfl, rfl⟩ ⟨rfl, rfl⟩ dX12_from_12 [.int (-2 : Int32)] rfl rfl (Nat.le_of_ble_eq_true rfl) (c_X12_refuse _ _ _) hf 15 rfl (fun x24 w23 hf => ?_)
    exact k_iret C hr h0 dX12_from_15 hf
theorem dX12_layTried_0 : decode cX12_layTried 0 = .ok (.iconst 0, 1) := by decide +kernel
theorem dX12_layTried_1 : decode cX12_layTried 1 = .ok (.istore_n 1, 1) := by decide +kernel
theorem dX12_layTried_2 : decode cX12_layTried 2 = .ok (.iload_n 1, 1) := by decide +kernel
theorem dX12_layTried_3 : decode cX12_layTried 3 = .ok (.bipush 17, 2) := by decide +kernel
theorem dX12_layTried_5 : decode cX12_layTried 5 = .ok (.if_icmp .ge 25, 3) := by decide +kernel
theorem dX12_layTried_8 : decode cX12_layTried 8 = .ok (.aload_n 0, 1) := by decide +kernel
theorem dX12_layTried_9 : decode cX12_layTried 9 = .ok (.getfield 7, 3) := by decide +kernel
theorem dX12_layTried_12 : decode cX12_layTried 12 = .ok (.sipush 639, 3) := by decide +kernel
theorem dX12_layTried_15 : decode cX12_layTried 15 = .ok (.iload_n 1, 1) := by decide +kernel
theorem dX12_layTried_16 : decode cX12_layTried 16 = .ok (.iadd, 1) := by decide +kernel
theorem dX12_layTried_17 : decode cX12_layTried 17 = .ok (.aload_n 0, 1) := by decide +kernel
theorem dX12_layTried_18 : decode cX12_layTried 18 = .ok (.getfield 7, 3) := by decide +kernel
theorem dX12_layTried_21 : decode cX12_layTried 21 = .ok (.iload_n 1, 1) := by decide +kernel
theorem dX12_layTried_22 : decode cX12_layTried 22 = .ok (.iaload, 1) := by decide +kernel
theorem dX12_layTried_23 : decode cX12_layTried 23 = .ok (.iastore, 1) := by decide +kernel
theorem dX12_layTried_24 : decode cX12_layTried 24 = .ok (.iinc 1 1, 3) := by decide +kernel
theorem dX12_layTried_27 : decode cX12_layTried 27 = .ok (.goto (-25), 3) := by decide +kernel
theorem dX12_layTried_30 : decode cX12_layTried 30 = .ok (.return_, 1) := by decide +kernel
set_option maxRecDepth 100000 in
set_option maxHeartbeats 4000000 in
theorem c_X12_layTried {g : Gv} {l : Launch} (p0 : Nat) (w0 : Wd) (wz : Wd) (hf : f_X12_layTried p0 w0 = some ((), wz)) : MV g l yX12_layTried cX12_layTried 2 0 0 0 0 [rV g p0] w0 wz := by
  refine mv_of RX12 (by decide) rfl (Nat.le_of_ble_eq_true rfl) ?_
  intro X hg hll C hr h0 hin
  subst hg; subst hll
  have t_2 : ∀ (n : Nat) (v0 : Nat) (v1 : Int32) (w : Wd), f_X12_layTried_2 n v0 v1 w = some ((), wz) → Wk X 0 0 (QV X 0 0 w0 wz) w [(0, rV (xg X) v0), (1, .int v1)] 2 [] := by
    intro n
    induction n with
    | zero => intro v0 v1 w hf; rw [f_X12_layTried_2] at hf; cases hf
    | succ n2 ih2 =>
      intro v0 v1 w hf
      rw [f_X12_layTried_2] at hf
      refine k_iload_n C dX12_layTried_2 1 rfl 3 rfl ?_
      refine k_bipush C dX12_layTried_3 (17) (by decide) 5 rfl ?_
      refine k_icmp_ge C dX12_layTried_5 hf 30 rfl 8 rfl (fun hf => ?_) (fun hf => ?_)
      · exact k_vret C hr h0 dX12_layTried_30 hf
      · refine k_aload_n C dX12_layTried_8 0 rfl rfl 9 rfl ?_
        refine k_getR C fe_X12_7 rfl dX12_layTried_9 hf 12 rfl (fun r5 hf => ?_)
        refine k_sipush C dX12_layTried_12 (639) (by decide) 15 rfl ?_
        refine k_iload_n C dX12_layTried_15 1 rfl 16 rfl ?_
        refine k_iadd C dX12_layTried_16 17 rfl ?_
        refine k_aload_n C dX12_layTried_17 0 rfl rfl 18 rfl ?_
        refine k_getR C fe_X12_7 rfl dX12_layTried_18 hf 21 rfl (fun r6 hf => ?_)
        refine k_iload_n C dX12_layTried_21 1 rfl 22 rfl ?_
        refine k_iald C dX12_layTried_22 hf 23 rfl (fun x7 hf => ?_)
        refine k_iast C dX12_layTried_23 hf 24 rfl (fun w8 _ hf => ?_)
        refine k_iinc C dX12_layTried_24 1 rfl (by decide) (by decide) [(1, .int (v1 + (1 : Int32))), (0, rV (xg X) v0)] rfl 27 rfl ?_
        refine k_goto C dX12_layTried_27 2 rfl ?_
        refine k_sub [1, 0] rfl ?_
        exact ih2 _ _ w8 hf
  unfold f_X12_layTried at hf
  refine k_sub (lv2 := [(0, rV (xg X) p0)]) [0] rfl ?_
  refine k_iconst C dX12_layTried_0 (0) (by decide) 1 rfl ?_
  refine k_istore_n C dX12_layTried_1 rfl (by decide) [(1, .int (0 : Int32)), (0, rV (xg X) p0)] rfl 2 rfl ?_
  refine k_sub [1, 0] rfl ?_
  exact t_2 4096 _ _ w0 hf
theorem dX12_pass_0 : decode cX12_pass 0 = .ok (.iload_n 2, 1) := by decide +kernel
theorem dX12_pass_1 : decode cX12_pass 1 = .ok (.iconst (-1), 1) := by decide +kernel
theorem dX12_pass_2 : decode cX12_pass 2 = .ok (.if_icmp .ne 7, 3) := by decide +kernel
theorem dX12_pass_5 : decode cX12_pass 5 = .ok (.iconst 0, 1) := by decide +kernel
theorem dX12_pass_6 : decode cX12_pass 6 = .ok (.goto 26, 3) := by decide +kernel
theorem dX12_pass_9 : decode cX12_pass 9 = .ok (.aload_n 0, 1) := by decide +kernel
theorem dX12_pass_10 : decode cX12_pass 10 = .ok (.iload_n 2, 1) := by decide +kernel
theorem dX12_pass_11 : decode cX12_pass 11 = .ok (.aload_n 0, 1) := by decide +kernel
theorem dX12_pass_12 : decode cX12_pass 12 = .ok (.getfield 7, 3) := by decide +kernel
theorem dX12_pass_15 : decode cX12_pass 15 = .ok (.iload_n 1, 1) := by decide +kernel
theorem dX12_pass_16 : decode cX12_pass 16 = .ok (.bipush 14, 2) := by decide +kernel
theorem dX12_pass_18 : decode cX12_pass 18 = .ok (.iadd, 1) := by decide +kernel
theorem dX12_pass_19 : decode cX12_pass 19 = .ok (.iaload, 1) := by decide +kernel
theorem dX12_pass_20 : decode cX12_pass 20 = .ok (.aload_n 0, 1) := by decide +kernel
theorem dX12_pass_21 : decode cX12_pass 21 = .ok (.getfield 7, 3) := by decide +kernel
theorem dX12_pass_24 : decode cX12_pass 24 = .ok (.iload_n 1, 1) := by decide +kernel
theorem dX12_pass_25 : decode cX12_pass 25 = .ok (.bipush 16, 2) := by decide +kernel
theorem dX12_pass_27 : decode cX12_pass 27 = .ok (.iadd, 1) := by decide +kernel
theorem dX12_pass_28 : decode cX12_pass 28 = .ok (.iaload, 1) := by decide +kernel
theorem dX12_pass_29 : decode cX12_pass 29 = .ok (.invokevirtual 124, 3) := by decide +kernel
theorem dX12_pass_32 : decode cX12_pass 32 = .ok (.istore_n 3, 1) := by decide +kernel
theorem dX12_pass_33 : decode cX12_pass 33 = .ok (.aload_n 0, 1) := by decide +kernel
theorem dX12_pass_34 : decode cX12_pass 34 = .ok (.getfield 7, 3) := by decide +kernel
theorem dX12_pass_37 : decode cX12_pass 37 = .ok (.bipush 17, 2) := by decide +kernel
theorem dX12_pass_39 : decode cX12_pass 39 = .ok (.iaload, 1) := by decide +kernel
theorem dX12_pass_40 : decode cX12_pass 40 = .ok (.aload_n 0, 1) := by decide +kernel
theorem dX12_pass_41 : decode cX12_pass 41 = .ok (.iload_n 1, 1) := by decide +kernel
theorem dX12_pass_42 : decode cX12_pass 42 = .ok (.invokevirtual 128, 3) := by decide +kernel
theorem dX12_pass_45 : decode cX12_pass 45 = .ok (.isub, 1) := by decide +kernel
theorem dX12_pass_46 : decode cX12_pass 46 = .ok (.istore 4, 2) := by decide +kernel
theorem dX12_pass_48 : decode cX12_pass 48 = .ok (.iload_n 3, 1) := by decide +kernel
theorem dX12_pass_49 : decode cX12_pass 49 = .ok (.iload 4, 2) := by decide +kernel
theorem dX12_pass_51 : decode cX12_pass 51 = .ok (.if_icmp .ge 7, 3) := by decide +kernel
theorem dX12_pass_54 : decode cX12_pass 54 = .ok (.iload_n 3, 1) := by decide +kernel
theorem dX12_pass_55 : decode cX12_pass 55 = .ok (.goto 5, 3) := by decide +kernel
theorem dX12_pass_58 : decode cX12_pass 58 = .ok (.iload 4, 2) := by decide +kernel
theorem dX12_pass_60 : decode cX12_pass 60 = .ok (.istore 5, 2) := by decide +kernel
theorem dX12_pass_62 : decode cX12_pass 62 = .ok (.iload_n 2, 1) := by decide +kernel
theorem dX12_pass_63 : decode cX12_pass 63 = .ok (.iconst (-1), 1) := by decide +kernel
theorem dX12_pass_64 : decode cX12_pass 64 = .ok (.if_icmp .eq 34, 3) := by decide +kernel
theorem dX12_pass_67 : decode cX12_pass 67 = .ok (.aload_n 0, 1) := by decide +kernel
theorem dX12_pass_68 : decode cX12_pass 68 = .ok (.getfield 7, 3) := by decide +kernel
theorem dX12_pass_71 : decode cX12_pass 71 = .ok (.iload_n 1, 1) := by decide +kernel
theorem dX12_pass_72 : decode cX12_pass 72 = .ok (.iconst 0, 1) := by decide +kernel
theorem dX12_pass_73 : decode cX12_pass 73 = .ok (.iadd, 1) := by decide +kernel
theorem dX12_pass_74 : decode cX12_pass 74 = .ok (.iload_n 2, 1) := by decide +kernel
theorem dX12_pass_75 : decode cX12_pass 75 = .ok (.iadd, 1) := by decide +kernel
theorem dX12_pass_76 : decode cX12_pass 76 = .ok (.dup2, 1) := by decide +kernel
theorem dX12_pass_77 : decode cX12_pass 77 = .ok (.iaload, 1) := by decide +kernel
theorem dX12_pass_78 : decode cX12_pass 78 = .ok (.iload 5, 2) := by decide +kernel
theorem dX12_pass_80 : decode cX12_pass 80 = .ok (.iadd, 1) := by decide +kernel
theorem dX12_pass_81 : decode cX12_pass 81 = .ok (.iastore, 1) := by decide +kernel
theorem dX12_pass_82 : decode cX12_pass 82 = .ok (.aload_n 0, 1) := by decide +kernel
theorem dX12_pass_83 : decode cX12_pass 83 = .ok (.getfield 7, 3) := by decide +kernel
theorem dX12_pass_86 : decode cX12_pass 86 = .ok (.iload_n 1, 1) := by decide +kernel
theorem dX12_pass_87 : decode cX12_pass 87 = .ok (.bipush 12, 2) := by decide +kernel
theorem dX12_pass_89 : decode cX12_pass 89 = .ok (.iadd, 1) := by decide +kernel
theorem dX12_pass_90 : decode cX12_pass 90 = .ok (.dup2, 1) := by decide +kernel
theorem dX12_pass_91 : decode cX12_pass 91 = .ok (.iaload, 1) := by decide +kernel
theorem dX12_pass_92 : decode cX12_pass 92 = .ok (.iload_n 3, 1) := by decide +kernel
theorem dX12_pass_93 : decode cX12_pass 93 = .ok (.iload 5, 2) := by decide +kernel
theorem dX12_pass_95 : decode cX12_pass 95 = .ok (.isub, 1) := by decide +kernel
theorem dX12_pass_96 : decode cX12_pass 96 = .ok (.iadd, 1) := by decide +kernel
theorem dX12_pass_97 : decode cX12_pass 97 = .ok (.iastore, 1) := by decide +kernel
theorem dX12_pass_98 : decode cX12_pass 98 = .ok (.aload_n 0, 1) := by decide +kernel
theorem dX12_pass_99 : decode cX12_pass 99 = .ok (.getfield 7, 3) := by decide +kernel
theorem dX12_pass_102 : decode cX12_pass 102 = .ok (.iload_n 1, 1) := by decide +kernel
theorem dX12_pass_103 : decode cX12_pass 103 = .ok (.bipush 14, 2) := by decide +kernel
theorem dX12_pass_105 : decode cX12_pass 105 = .ok (.iadd, 1) := by decide +kernel
theorem dX12_pass_106 : decode cX12_pass 106 = .ok (.dup2, 1) := by decide +kernel
theorem dX12_pass_107 : decode cX12_pass 107 = .ok (.iaload, 1) := by decide +kernel
theorem dX12_pass_108 : decode cX12_pass 108 = .ok (.iconst 1, 1) := by decide +kernel
theorem dX12_pass_109 : decode cX12_pass 109 = .ok (.iadd, 1) := by decide +kernel
theorem dX12_pass_110 : decode cX12_pass 110 = .ok (.iastore, 1) := by decide +kernel
theorem dX12_pass_111 : decode cX12_pass 111 = .ok (.iload_n 3, 1) := by decide +kernel
theorem dX12_pass_112 : decode cX12_pass 112 = .ok (.ireturn, 1) := by decide +kernel
set_option maxRecDepth 100000 in
set_option maxHeartbeats 4000000 in
theorem c_X12_pass {g : Gv} {l : Launch} (p0 : Nat) (p1 : Int32) (p2 : Int32) (w0 : Wd) (rz : Int32) (wz : Wd) (hf : f_X12_pass p0 p1 p2 w0 = some (rz, wz)) : MI g l yX12_pass cX12_pass 6 .int 2 47 [rV g p0, .int p1, .int p2] w0 rz wz := by
  refine mi_of RX12 (by decide) rfl (Nat.le_of_ble_eq_true rfl) ?_
  intro X hg hll C hr h0
  subst hg; subst hll
  have t_98 : ∀ (v0 : Nat) (v1 : Int32) (v3 : Int32) (w : Wd), f_X12_pass_98 v0 v1 v3 w = some (rz, wz) → Wk X 0 0 (QI X w0 rz wz) w [(0, rV (xg X) v0), (1, .int v1), (3, .int v3)] 98 [] := by
    intro v0 v1 v3 w hf
    unfold f_X12_pass_98 at hf
    refine k_aload_n C dX12_pass_98 0 rfl rfl 99 rfl ?_
    refine k_getR C fe_X12_7 rfl dX12_pass_99 hf 102 rfl (fun r21 hf => ?_)
    refine k_iload_n C dX12_pass_102 1 rfl 103 rfl ?_
    refine k_bipush C dX12_pass_103 (14) (by decide) 105 rfl ?_
    refine k_iadd C dX12_pass_105 106 rfl ?_
    refine k_dup2 C dX12_pass_106 rfl rfl 107 rfl ?_
    refine k_iald C dX12_pass_107 hf 108 rfl (fun x22 hf => ?_)
    refine k_iconst C dX12_pass_108 (1) (by decide) 109 rfl ?_
    refine k_iadd C dX12_pass_109 110 rfl ?_
    refine k_iast C dX12_pass_110 hf 111 rfl (fun w23 _ hf => ?_)
    refine k_iload_n C dX12_pass_111 2 rfl 112 rfl ?_
    exact k_iret C hr h0 dX12_pass_112 hf
  have t_60 : ∀ (v0 : Nat) (v1 : Int32) (v2 : Int32) (v3 : Int32) (s0 : Int32) (w : Wd), f_X12_pass_60 v0 v1 v2 v3 s0 w = some (rz, wz) → Wk X 0 0 (QI X w0 rz wz) w [(0, rV (xg X) v0), (1, .int v1), (2, .int v2), (3, .int v3)] 60 [.int s0] := by
    intro v0 v1 v2 v3 s0 w hf
    unfold f_X12_pass_60 at hf
    refine k_istore C dX12_pass_60 (by decide) [(5, .int s0), (0, rV (xg X) v0), (1, .int v1), (2, .int v2), (3, .int v3)] rfl 62 rfl ?_
    refine k_iload_n C dX12_pass_62 3 rfl 63 rfl ?_
    refine k_iconst C dX12_pass_63 (-1) (by decide) 64 rfl ?_
    refine k_icmp_eq C dX12_pass_64 hf 98 rfl 67 rfl (fun hf => ?_) (fun hf => ?_)
    · refine k_sub [1, 2, 4] rfl ?_
      exact t_98 _ _ _ w hf
    · refine k_aload_n C dX12_pass_67 1 rfl rfl 68 rfl ?_
      refine k_getR C fe_X12_7 rfl dX12_pass_68 hf 71 rfl (fun r24 hf => ?_)
      refine k_iload_n C dX12_pass_71 2 rfl 72 rfl ?_
      refine k_iconst C dX12_pass_72 (0) (by decide) 73 rfl ?_
      refine k_iadd C dX12_pass_73 74 rfl ?_
      refine k_iload_n C dX12_pass_74 3 rfl 75 rfl ?_
      refine k_iadd C dX12_pass_75 76 rfl ?_
      refine k_dup2 C dX12_pass_76 rfl rfl 77 rfl ?_
      refine k_iald C dX12_pass_77 hf 78 rfl (fun x25 hf => ?_)
      refine k_iload C dX12_pass_78 0 rfl 80 rfl ?_
      refine k_iadd C dX12_pass_80 81 rfl ?_
      refine k_iast C dX12_pass_81 hf 82 rfl (fun w26 _ hf => ?_)
      refine k_aload_n C dX12_pass_82 1 rfl rfl 83 rfl ?_
      refine k_getR C fe_X12_7 rfl dX12_pass_83 hf 86 rfl (fun r27 hf => ?_)
      refine k_iload_n C dX12_pass_86 2 rfl 87 rfl ?_
      refine k_bipush C dX12_pass_87 (12) (by decide) 89 rfl ?_
      refine k_iadd C dX12_pass_89 90 rfl ?_
      refine k_dup2 C dX12_pass_90 rfl rfl 91 rfl ?_
      refine k_iald C dX12_pass_91 hf 92 rfl (fun x28 hf => ?_)
      refine k_iload_n C dX12_pass_92 4 rfl 93 rfl ?_
      refine k_iload C dX12_pass_93 0 rfl 95 rfl ?_
      refine k_isub C dX12_pass_95 96 rfl ?_
      refine k_iadd C dX12_pass_96 97 rfl ?_
      refine k_iast C dX12_pass_97 hf 98 rfl (fun w29 _ hf => ?_)
      refine k_sub [1, 2, 4] rfl ?_
      exact t_98 _ _ _ w29 hf
  have t_32 : ∀ (v0 : Nat) (v1 : Int32) (v2 : Int32) (s0 : Int32) (w : Wd), f_X12_pass_32 v0 v1 v2 s0 w = some (rz, wz) → Wk X 0 0 (QI X w0 rz wz) w [(0, rV (xg X) v0), (1, .int v1), (2, .int v2)] 32 [.int s0] := by
    intro v0 v1 v2 s0 w hf
    unfold f_X12_pass_32 at hf
    refine k_istore_n C dX12_pass_32 rfl (by decide) [(3, .int s0), (0, rV (xg X) v0), (1, .int v1), (2, .int v2)] rfl 33 rfl ?_
    refine k_aload_n C dX12_pass_33 1 rfl rfl 34 rfl ?_
    refine k_getR C fe_X12_7 rfl dX12_pass_34 hf 37 rfl (fun r30 hf => ?_)
    refine k_bipush C dX12_pass_37 (17) (by decide) 39 rfl ?_
    refine k_iald C dX12_pass_39 hf 40 rfl (fun x31 hf => ?_)
    refine k_aload_n C dX12_pass_40 1 rfl rfl 41 rfl ?_
    refine k_iload_n C dX12_pass_41 2 rfl 42 rfl ?_
    refine k_callV_i C ye_X12_inHouse ve_X12_128 ⟨rfl, rfl⟩ ⟨rfl, rfl⟩ dX12_pass_42 [.int v1] rfl rfl (Nat.le_of_ble_eq_true rfl) (c_X12_inHouse _ _ _) hf 45 rfl (fun x33 w32 hf => ?_)
    refine k_isub C dX12_pass_45 46 rfl ?_
    refine k_nmi hf (fun x34 hf => ?_)
    refine k_istore C dX12_pass_46 (by decide) [(4, .int x34), (3, .int s0), (0, rV (xg X) v0), (1, .int v1), (2, .int v2)] rfl 48 rfl ?_
    refine k_iload_n C dX12_pass_48 1 rfl 49 rfl ?_
    refine k_iload C dX12_pass_49 0 rfl 51 rfl ?_
    refine k_icmp_ge C dX12_pass_51 hf 58 rfl 54 rfl (fun hf => ?_) (fun hf => ?_)
    · refine k_iload C dX12_pass_58 0 rfl 60 rfl ?_
      refine k_sub [2, 3, 4, 1] rfl ?_
      exact t_60 _ _ _ _ _ w32 hf
    · refine k_iload_n C dX12_pass_54 1 rfl 55 rfl ?_
      refine k_goto C dX12_pass_55 60 rfl ?_
      refine k_sub [2, 3, 4, 1] rfl ?_
      exact t_60 _ _ _ _ _ w32 hf
  unfold f_X12_pass at hf
  refine k_sub (lv2 := [(0, rV (xg X) p0), (1, .int p1), (2, .int p2)]) [0, 1, 2] rfl ?_
  refine k_iload_n C dX12_pass_0 2 rfl 1 rfl ?_
  refine k_iconst C dX12_pass_1 (-1) (by decide) 2 rfl ?_
  refine k_icmp_ne C dX12_pass_2 hf 9 rfl 5 rfl (fun hf => ?_) (fun hf => ?_)
  · refine k_aload_n C dX12_pass_9 0 rfl rfl 10 rfl ?_
    refine k_iload_n C dX12_pass_10 2 rfl 11 rfl ?_
    refine k_aload_n C dX12_pass_11 0 rfl rfl 12 rfl ?_
    refine k_getR C fe_X12_7 rfl dX12_pass_12 hf 15 rfl (fun r35 hf => ?_)
    refine k_iload_n C dX12_pass_15 1 rfl 16 rfl ?_
    refine k_bipush C dX12_pass_16 (14) (by decide) 18 rfl ?_
    refine k_iadd C dX12_pass_18 19 rfl ?_
    refine k_iald C dX12_pass_19 hf 20 rfl (fun x36 hf => ?_)
    refine k_aload_n C dX12_pass_20 0 rfl rfl 21 rfl ?_
    refine k_getR C fe_X12_7 rfl dX12_pass_21 hf 24 rfl (fun r37 hf => ?_)
    refine k_iload_n C dX12_pass_24 1 rfl 25 rfl ?_
    refine k_bipush C dX12_pass_25 (16) (by decide) 27 rfl ?_
    refine k_iadd C dX12_pass_27 28 rfl ?_
    refine k_iald C dX12_pass_28 hf 29 rfl (fun x38 hf => ?_)
    refine k_callV_i C ye_X12_ground ve_X12_124 ⟨rfl, rfl⟩ ⟨rfl, rfl⟩ dX12_pass_29 [.int p2, .int x36, .int x38] rfl rfl (Nat.le_of_ble_eq_true rfl) (c_X12_ground _ _ _ _ _) hf 32 rfl (fun x40 w39 hf => ?_)
    refine k_sub [0, 1, 2] rfl ?_
    exact t_32 _ _ _ _ w39 hf
  · refine k_iconst C dX12_pass_5 (0) (by decide) 6 rfl ?_
    refine k_goto C dX12_pass_6 32 rfl ?_
    refine k_sub [0, 1, 2] rfl ?_
    exact t_32 _ _ _ _ w0 hf
theorem dX12_full_0 : decode cX12_full 0 = .ok (.aload_n 0, 1) := by decide +kernel
theorem dX12_full_1 : decode cX12_full 1 = .ok (.invokevirtual 153, 3) := by decide +kernel
theorem dX12_full_4 : decode cX12_full 4 = .ok (.iconst 0, 1) := by decide +kernel
theorem dX12_full_5 : decode cX12_full 5 = .ok (.istore_n 1, 1) := by decide +kernel
theorem dX12_full_6 : decode cX12_full 6 = .ok (.iload_n 1, 1) := by decide +kernel
theorem dX12_full_7 : decode cX12_full 7 = .ok (.bipush 61, 2) := by decide +kernel
theorem dX12_full_9 : decode cX12_full 9 = .ok (.if_icmp .ge 43, 3) := by decide +kernel
theorem dX12_full_12 : decode cX12_full 12 = .ok (.aload_n 0, 1) := by decide +kernel
theorem dX12_full_13 : decode cX12_full 13 = .ok (.sipush 639, 3) := by decide +kernel
theorem dX12_full_16 : decode cX12_full 16 = .ok (.invokevirtual 128, 3) := by decide +kernel
theorem dX12_full_19 : decode cX12_full 19 = .ok (.aload_n 0, 1) := by decide +kernel
theorem dX12_full_20 : decode cX12_full 20 = .ok (.getfield 7, 3) := by decide +kernel
theorem dX12_full_23 : decode cX12_full 23 = .ok (.bipush 17, 2) := by decide +kernel
theorem dX12_full_25 : decode cX12_full 25 = .ok (.iaload, 1) := by decide +kernel
theorem dX12_full_26 : decode cX12_full 26 = .ok (.if_icmp .ne 5, 3) := by decide +kernel
theorem dX12_full_29 : decode cX12_full 29 = .ok (.iload_n 1, 1) := by decide +kernel
theorem dX12_full_30 : decode cX12_full 30 = .ok (.ireturn, 1) := by decide +kernel
theorem dX12_full_31 : decode cX12_full 31 = .ok (.aload_n 0, 1) := by decide +kernel
theorem dX12_full_32 : decode cX12_full 32 = .ok (.sipush 639, 3) := by decide +kernel
theorem dX12_full_35 : decode cX12_full 35 = .ok (.aload_n 0, 1) := by decide +kernel
theorem dX12_full_36 : decode cX12_full 36 = .ok (.getfield 7, 3) := by decide +kernel
theorem dX12_full_39 : decode cX12_full 39 = .ok (.bipush 15, 2) := by decide +kernel
theorem dX12_full_41 : decode cX12_full 41 = .ok (.iaload, 1) := by decide +kernel
theorem dX12_full_42 : decode cX12_full 42 = .ok (.invokevirtual 140, 3) := by decide +kernel
theorem dX12_full_45 : decode cX12_full 45 = .ok (.pop, 1) := by decide +kernel
theorem dX12_full_46 : decode cX12_full 46 = .ok (.iinc 1 1, 3) := by decide +kernel
theorem dX12_full_49 : decode cX12_full 49 = .ok (.goto (-43), 3) := by decide +kernel
theorem dX12_full_52 : decode cX12_full 52 = .ok (.iconst (-1), 1) := by decide +kernel
theorem dX12_full_53 : decode cX12_full 53 = .ok (.ireturn, 1) := by decide +kernel
set_option maxRecDepth 100000 in
set_option maxHeartbeats 4000000 in
theorem c_X12_full {g : Gv} {l : Launch} (p0 : Nat) (w0 : Wd) (rz : Int32) (wz : Wd) (hf : f_X12_full p0 w0 = some (rz, wz)) : MI g l yX12_full cX12_full 2 .int 3 72 [rV g p0] w0 rz wz := by
  refine mi_of RX12 (by decide) rfl (Nat.le_of_ble_eq_true rfl) ?_
  intro X hg hll C hr h0
  subst hg; subst hll
  have t_6 : ∀ (n : Nat) (v0 : Nat) (v1 : Int32) (w : Wd), f_X12_full_6 n v0 v1 w = some (rz, wz) → Wk X 0 0 (QI X w0 rz wz) w [(0, rV (xg X) v0), (1, .int v1)] 6 [] := by
    intro n
    induction n with
    | zero => intro v0 v1 w hf; rw [f_X12_full_6] at hf; cases hf
    | succ n6 ih6 =>
      intro v0 v1 w hf
      rw [f_X12_full_6] at hf
      refine k_iload_n C dX12_full_6 1 rfl 7 rfl ?_
      refine k_bipush C dX12_full_7 (61) (by decide) 9 rfl ?_
      refine k_icmp_ge C dX12_full_9 hf 52 rfl 12 rfl (fun hf => ?_) (fun hf => ?_)
      · refine k_iconst C dX12_full_52 (-1) (by decide) 53 rfl ?_
        exact k_iret C hr h0 dX12_full_53 hf
      · refine k_aload_n C dX12_full_12 0 rfl rfl 13 rfl ?_
        refine k_sipush C dX12_full_13 (639) (by decide) 16 rfl ?_
        refine k_callV_i C ye_X12_inHouse ve_X12_128 ⟨rfl, rfl⟩ ⟨rfl, rfl⟩ dX12_full_16 [.int (639 : Int32)] rfl rfl (Nat.le_of_ble_eq_true rfl) (c_X12_inHouse _ _ _) hf 19 rfl (fun x12 w11 hf => ?_)
        refine k_aload_n C dX12_full_19 0 rfl rfl 20 rfl ?_
        refine k_getR C fe_X12_7 rfl dX12_full_20 hf 23 rfl (fun r13 hf => ?_)
        refine k_bipush C dX12_full_23 (17) (by decide) 25 rfl ?_
        refine k_iald C dX12_full_25 hf 26 rfl (fun x14 hf => ?_)
        refine k_icmp_ne C dX12_full_26 hf 31 rfl 29 rfl (fun hf => ?_) (fun hf => ?_)
        · refine k_aload_n C dX12_full_31 0 rfl rfl 32 rfl ?_
          refine k_sipush C dX12_full_32 (639) (by decide) 35 rfl ?_
          refine k_aload_n C dX12_full_35 0 rfl rfl 36 rfl ?_
          refine k_getR C fe_X12_7 rfl dX12_full_36 hf 39 rfl (fun r15 hf => ?_)
          refine k_bipush C dX12_full_39 (15) (by decide) 41 rfl ?_
          refine k_iald C dX12_full_41 hf 42 rfl (fun x16 hf => ?_)
          refine k_callV_i C ye_X12_pass ve_X12_140 ⟨rfl, rfl⟩ ⟨rfl, rfl⟩ dX12_full_42 [.int (639 : Int32), .int x16] rfl rfl (Nat.le_of_ble_eq_true rfl) (c_X12_pass _ _ _ _) hf 45 rfl (fun x18 w17 hf => ?_)
          refine k_pop C dX12_full_45 rfl 46 rfl ?_
          refine k_iinc C dX12_full_46 1 rfl (by decide) (by decide) [(1, .int (v1 + (1 : Int32))), (0, rV (xg X) v0)] rfl 49 rfl ?_
          refine k_goto C dX12_full_49 6 rfl ?_
          refine k_sub [1, 0] rfl ?_
          exact ih6 _ _ w17 hf
        · refine k_iload_n C dX12_full_29 1 rfl 30 rfl ?_
          exact k_iret C hr h0 dX12_full_30 hf
  unfold f_X12_full at hf
  refine k_sub (lv2 := [(0, rV (xg X) p0)]) [0] rfl ?_
  refine k_aload_n C dX12_full_0 0 rfl rfl 1 rfl ?_
  refine k_callV_v C ye_X12_layTried ve_X12_153 ⟨rfl, rfl⟩ ⟨rfl, rfl⟩ dX12_full_1 [] rfl rfl (Nat.le_of_ble_eq_true rfl) (c_X12_layTried _ _) hf 4 rfl (fun w19 hf => ?_)
  refine k_iconst C dX12_full_4 (0) (by decide) 5 rfl ?_
  refine k_istore_n C dX12_full_5 rfl (by decide) [(1, .int (0 : Int32)), (0, rV (xg X) p0)] rfl 6 rfl ?_
  refine k_sub [1, 0] rfl ?_
  exact t_6 4096 _ _ w19 hf
theorem dX12_goods_0 : decode cX12_goods 0 = .ok (.iload_n 1, 1) := by decide +kernel
theorem dX12_goods_1 : decode cX12_goods 1 = .ok (.iconst 0, 1) := by decide +kernel
theorem dX12_goods_2 : decode cX12_goods 2 = .ok (.iconst 5, 1) := by decide +kernel
theorem dX12_goods_3 : decode cX12_goods 3 = .ok (.invokestatic 52, 3) := by decide +kernel
theorem dX12_goods_6 : decode cX12_goods 6 = .ok (.ifCond .eq 23, 3) := by decide +kernel
theorem dX12_goods_9 : decode cX12_goods 9 = .ok (.iload_n 2, 1) := by decide +kernel
theorem dX12_goods_10 : decode cX12_goods 10 = .ok (.iconst 1, 1) := by decide +kernel
theorem dX12_goods_11 : decode cX12_goods 11 = .ok (.bipush 9, 2) := by decide +kernel
theorem dX12_goods_13 : decode cX12_goods 13 = .ok (.invokestatic 52, 3) := by decide +kernel
theorem dX12_goods_16 : decode cX12_goods 16 = .ok (.ifCond .eq 13, 3) := by decide +kernel
theorem dX12_goods_19 : decode cX12_goods 19 = .ok (.iload_n 3, 1) := by decide +kernel
theorem dX12_goods_20 : decode cX12_goods 20 = .ok (.iconst 0, 1) := by decide +kernel
theorem dX12_goods_21 : decode cX12_goods 21 = .ok (.bipush 40, 2) := by decide +kernel
theorem dX12_goods_23 : decode cX12_goods 23 = .ok (.invokestatic 52, 3) := by decide +kernel
theorem dX12_goods_26 : decode cX12_goods 26 = .ok (.ifCond .ne 10, 3) := by decide +kernel
theorem dX12_goods_29 : decode cX12_goods 29 = .ok (.aload_n 0, 1) := by decide +kernel
theorem dX12_goods_30 : decode cX12_goods 30 = .ok (.bipush (-2), 2) := by decide +kernel
theorem dX12_goods_32 : decode cX12_goods 32 = .ok (.invokevirtual 56, 3) := by decide +kernel
theorem dX12_goods_35 : decode cX12_goods 35 = .ok (.ireturn, 1) := by decide +kernel
theorem dX12_goods_36 : decode cX12_goods 36 = .ok (.aload_n 0, 1) := by decide +kernel
theorem dX12_goods_37 : decode cX12_goods 37 = .ok (.getfield 7, 3) := by decide +kernel
theorem dX12_goods_40 : decode cX12_goods 40 = .ok (.bipush 19, 2) := by decide +kernel
theorem dX12_goods_42 : decode cX12_goods 42 = .ok (.iaload, 1) := by decide +kernel
theorem dX12_goods_43 : decode cX12_goods 43 = .ok (.bipush 6, 2) := by decide +kernel
theorem dX12_goods_45 : decode cX12_goods 45 = .ok (.if_icmp .ne 10, 3) := by decide +kernel
theorem dX12_goods_48 : decode cX12_goods 48 = .ok (.aload_n 0, 1) := by decide +kernel
theorem dX12_goods_49 : decode cX12_goods 49 = .ok (.bipush (-4), 2) := by decide +kernel
theorem dX12_goods_51 : decode cX12_goods 51 = .ok (.invokevirtual 56, 3) := by decide +kernel
theorem dX12_goods_54 : decode cX12_goods 54 = .ok (.ireturn, 1) := by decide +kernel
theorem dX12_goods_55 : decode cX12_goods 55 = .ok (.aload_n 0, 1) := by decide +kernel
theorem dX12_goods_56 : decode cX12_goods 56 = .ok (.iload_n 1, 1) := by decide +kernel
theorem dX12_goods_57 : decode cX12_goods 57 = .ok (.iload_n 2, 1) := by decide +kernel
theorem dX12_goods_58 : decode cX12_goods 58 = .ok (.iload_n 3, 1) := by decide +kernel
theorem dX12_goods_59 : decode cX12_goods 59 = .ok (.invokevirtual 60, 3) := by decide +kernel
theorem dX12_goods_62 : decode cX12_goods 62 = .ok (.aload_n 0, 1) := by decide +kernel
theorem dX12_goods_63 : decode cX12_goods 63 = .ok (.getfield 7, 3) := by decide +kernel
theorem dX12_goods_66 : decode cX12_goods 66 = .ok (.bipush 19, 2) := by decide +kernel
theorem dX12_goods_68 : decode cX12_goods 68 = .ok (.iaload, 1) := by decide +kernel
theorem dX12_goods_69 : decode cX12_goods 69 = .ok (.iconst 1, 1) := by decide +kernel
theorem dX12_goods_70 : decode cX12_goods 70 = .ok (.isub, 1) := by decide +kernel
theorem dX12_goods_71 : decode cX12_goods 71 = .ok (.ireturn, 1) := by decide +kernel
set_option maxRecDepth 100000 in
set_option maxHeartbeats 4000000 in
theorem c_X12_goods {g : Gv} {l : Launch} (p0 : Nat) (p1 : Int32) (p2 : Int32) (p3 : Int32) (w0 : Wd) (rz : Int32) (wz : Wd) (hf : f_X12_goods p0 p1 p2 p3 w0 = some (rz, wz)) : MI g l yX12_goods cX12_goods 4 .int 1 24 [rV g p0, .int p1, .int p2, .int p3] w0 rz wz := by
  refine mi_of RX12 (by decide) rfl (Nat.le_of_ble_eq_true rfl) ?_
  intro X hg hll C hr h0
  subst hg; subst hll
  have t_29 : ∀ (v0 : Nat) (w : Wd), f_X12_goods_29 v0 w = some (rz, wz) → Wk X 0 0 (QI X w0 rz wz) w [(0, rV (xg X) v0)] 29 [] := by
    intro v0 w hf
    unfold f_X12_goods_29 at hf
    refine k_aload_n C dX12_goods_29 0 rfl rfl 30 rfl ?_
    refine k_bipush C dX12_goods_30 (-2) (by decide) 32 rfl ?_
    refine k_callV_i C ye_X12_refuse ve_X12_56 ⟨rfl, rfl⟩ ⟨rfl, rfl⟩ dX12_goods_32 [.int (-2 : Int32)] rfl rfl (Nat.le_of_ble_eq_true rfl) (c_X12_refuse _ _ _) hf 35 rfl (fun x18 w17 hf => ?_)
    exact k_iret C hr h0 dX12_goods_35 hf
  unfold f_X12_goods at hf
  refine k_sub (lv2 := [(0, rV (xg X) p0), (1, .int p1), (2, .int p2), (3, .int p3)]) [0, 1, 2, 3] rfl ?_
  refine k_iload_n C dX12_goods_0 1 rfl 1 rfl ?_
  refine k_iconst C dX12_goods_1 (0) (by decide) 2 rfl ?_
  refine k_iconst C dX12_goods_2 (5) (by decide) 3 rfl ?_
  refine k_callS_i C ye_X12_in se_X12_52 ⟨rfl, rfl⟩ ⟨rfl, rfl⟩ dX12_goods_3 [.int p1, .int (0 : Int32), .int (5 : Int32)] rfl rfl (Nat.le_of_ble_eq_true rfl) (c_X12_in _ _ _ _) hf 6 rfl (fun x20 w19 hf => ?_)
  refine k_if_eq C dX12_goods_6 hf 29 rfl 9 rfl (fun hf => ?_) (fun hf => ?_)
  · refine k_sub [0] rfl ?_
    exact t_29 _ w19 hf
  · refine k_iload_n C dX12_goods_9 2 rfl 10 rfl ?_
    refine k_iconst C dX12_goods_10 (1) (by decide) 11 rfl ?_
    refine k_bipush C dX12_goods_11 (9) (by decide) 13 rfl ?_
    refine k_callS_i C ye_X12_in se_X12_52 ⟨rfl, rfl⟩ ⟨rfl, rfl⟩ dX12_goods_13 [.int p2, .int (1 : Int32), .int (9 : Int32)] rfl rfl (Nat.le_of_ble_eq_true rfl) (c_X12_in _ _ _ _) hf 16 rfl (fun x22 w21 hf => ?_)
    refine k_if_eq C dX12_goods_16 hf 29 rfl 19 rfl (fun hf => ?_) (fun hf => ?_)
    · refine k_sub [0] rfl ?_
      exact t_29 _ w21 hf
    · refine k_iload_n C dX12_goods_19 3 rfl 20 rfl ?_
      refine k_iconst C dX12_goods_20 (0) (by decide) 21 rfl ?_
      refine k_bipush C dX12_goods_21 (40) (by decide) 23 rfl ?_
      refine k_callS_i C ye_X12_in se_X12_52 ⟨rfl, rfl⟩ ⟨rfl, rfl⟩ dX12_goods_23 [.int p3, .int (0 : Int32), .int (40 : Int32)] rfl rfl (Nat.le_of_ble_eq_true rfl) (c_X12_in _ _ _ _) hf 26 rfl (fun x24 w23 hf => ?_)
      refine k_if_ne C dX12_goods_26 hf 36 rfl 29 rfl (fun hf => ?_) (fun hf => ?_)
      · refine k_aload_n C dX12_goods_36 0 rfl rfl 37 rfl ?_
        refine k_getR C fe_X12_7 rfl dX12_goods_37 hf 40 rfl (fun r25 hf => ?_)
        refine k_bipush C dX12_goods_40 (19) (by decide) 42 rfl ?_
        refine k_iald C dX12_goods_42 hf 43 rfl (fun x26 hf => ?_)
        refine k_bipush C dX12_goods_43 (6) (by decide) 45 rfl ?_
        refine k_icmp_ne C dX12_goods_45 hf 55 rfl 48 rfl (fun hf => ?_) (fun hf => ?_)
        · refine k_aload_n C dX12_goods_55 0 rfl rfl 56 rfl ?_
          refine k_iload_n C dX12_goods_56 1 rfl 57 rfl ?_
          refine k_iload_n C dX12_goods_57 2 rfl 58 rfl ?_
          refine k_iload_n C dX12_goods_58 3 rfl 59 rfl ?_
          refine k_callV_v C ye_X12_addGoods ve_X12_60 ⟨rfl, rfl⟩ ⟨rfl, rfl⟩ dX12_goods_59 [.int p1, .int p2, .int p3] rfl rfl (Nat.le_of_ble_eq_true rfl) (c_X12_addGoods _ _ _ _ _) hf 62 rfl (fun w27 hf => ?_)
          refine k_aload_n C dX12_goods_62 0 rfl rfl 63 rfl ?_
          refine k_getR C fe_X12_7 rfl dX12_goods_63 hf 66 rfl (fun r29 hf => ?_)
          refine k_bipush C dX12_goods_66 (19) (by decide) 68 rfl ?_
          refine k_iald C dX12_goods_68 hf 69 rfl (fun x30 hf => ?_)
          refine k_iconst C dX12_goods_69 (1) (by decide) 70 rfl ?_
          refine k_isub C dX12_goods_70 71 rfl ?_
          exact k_iret C hr h0 dX12_goods_71 hf
        · refine k_aload_n C dX12_goods_48 0 rfl rfl 49 rfl ?_
          refine k_bipush C dX12_goods_49 (-4) (by decide) 51 rfl ?_
          refine k_callV_i C ye_X12_refuse ve_X12_56 ⟨rfl, rfl⟩ ⟨rfl, rfl⟩ dX12_goods_51 [.int (-4 : Int32)] rfl rfl (Nat.le_of_ble_eq_true rfl) (c_X12_refuse _ _ _) hf 54 rfl (fun x32 w31 hf => ?_)
          exact k_iret C hr h0 dX12_goods_54 hf
      · refine k_sub [0] rfl ?_
        exact t_29 _ w23 hf
theorem dX12_grind_0 : decode cX12_grind 0 = .ok (.aload_n 0, 1) := by decide +kernel
theorem dX12_grind_1 : decode cX12_grind 1 = .ok (.iload_n 1, 1) := by decide +kernel
theorem dX12_grind_2 : decode cX12_grind 2 = .ok (.invokevirtual 131, 3) := by decide +kernel
theorem dX12_grind_5 : decode cX12_grind 5 = .ok (.ifCond .ne 8, 3) := by decide +kernel
theorem dX12_grind_8 : decode cX12_grind 8 = .ok (.aload_n 0, 1) := by decide +kernel
theorem dX12_grind_9 : decode cX12_grind 9 = .ok (.invokevirtual 134, 3) := by decide +kernel
theorem dX12_grind_12 : decode cX12_grind 12 = .ok (.ireturn, 1) := by decide +kernel
theorem dX12_grind_13 : decode cX12_grind 13 = .ok (.aload_n 0, 1) := by decide +kernel
theorem dX12_grind_14 : decode cX12_grind 14 = .ok (.invokevirtual 137, 3) := by decide +kernel
theorem dX12_grind_17 : decode cX12_grind 17 = .ok (.aload_n 0, 1) := by decide +kernel
theorem dX12_grind_18 : decode cX12_grind 18 = .ok (.getfield 7, 3) := by decide +kernel
theorem dX12_grind_21 : decode cX12_grind 21 = .ok (.bipush 15, 2) := by decide +kernel
theorem dX12_grind_23 : decode cX12_grind 23 = .ok (.iaload, 1) := by decide +kernel
theorem dX12_grind_24 : decode cX12_grind 24 = .ok (.istore_n 2, 1) := by decide +kernel
theorem dX12_grind_25 : decode cX12_grind 25 = .ok (.aload_n 0, 1) := by decide +kernel
theorem dX12_grind_26 : decode cX12_grind 26 = .ok (.getfield 7, 3) := by decide +kernel
theorem dX12_grind_29 : decode cX12_grind 29 = .ok (.bipush 15, 2) := by decide +kernel
theorem dX12_grind_31 : decode cX12_grind 31 = .ok (.iload_n 1, 1) := by decide +kernel
theorem dX12_grind_32 : decode cX12_grind 32 = .ok (.iastore, 1) := by decide +kernel
theorem dX12_grind_33 : decode cX12_grind 33 = .ok (.iload_n 2, 1) := by decide +kernel
theorem dX12_grind_34 : decode cX12_grind 34 = .ok (.ireturn, 1) := by decide +kernel
set_option maxRecDepth 100000 in
set_option maxHeartbeats 4000000 in
theorem c_X12_grind {g : Gv} {l : Launch} (p0 : Nat) (p1 : Int32) (w0 : Wd) (rz : Int32) (wz : Wd) (hf : f_X12_grind p0 p1 w0 = some (rz, wz)) : MI g l yX12_grind cX12_grind 3 .int 2 43 [rV g p0, .int p1] w0 rz wz := by
  refine mi_of RX12 (by decide) rfl (Nat.le_of_ble_eq_true rfl) ?_
  intro X hg hll C hr h0
  subst hg; subst hll
  unfold f_X12_grind at hf
  refine k_sub (lv2 := [(0, rV (xg X) p0), (1, .int p1)]) [0, 1] rfl ?_
  refine k_aload_n C dX12_grind_0 0 rfl rfl 1 rfl ?_
  refine k_iload_n C dX12_grind_1 1 rfl 2 rfl ?_
  refine k_callV_i C ye_X12_isGoods ve_X12_131 ⟨rfl, rfl⟩ ⟨rfl, rfl⟩ dX12_grind_2 [.int p1] rfl rfl (Nat.le_of_ble_eq_true rfl) (c_X12_isGoods _ _ _) hf 5 rfl (fun x12 w11 hf => ?_)
  refine k_if_ne C dX12_grind_5 hf 13 rfl 8 rfl (fun hf => ?_) (fun hf => ?_)
  · refine k_aload_n C dX12_grind_13 0 rfl rfl 14 rfl ?_
    refine k_callV_v C ye_X12_keepPast ve_X12_137 ⟨rfl, rfl⟩ ⟨rfl, rfl⟩ dX12_grind_14 [] rfl rfl (Nat.le_of_ble_eq_true rfl) (c_X12_keepPast _ _) hf 17 rfl (fun w13 hf => ?_)
    refine k_aload_n C dX12_grind_17 0 rfl rfl 18 rfl ?_
    refine k_getR C fe_X12_7 rfl dX12_grind_18 hf 21 rfl (fun r15 hf => ?_)
    refine k_bipush C dX12_grind_21 (15) (by decide) 23 rfl ?_
    refine k_iald C dX12_grind_23 hf 24 rfl (fun x16 hf => ?_)
    refine k_istore_n C dX12_grind_24 rfl (by decide) [(2, .int x16), (0, rV (xg X) p0), (1, .int p1)] rfl 25 rfl ?_
    refine k_aload_n C dX12_grind_25 1 rfl rfl 26 rfl ?_
    refine k_getR C fe_X12_7 rfl dX12_grind_26 hf 29 rfl (fun r17 hf => ?_)
    refine k_bipush C dX12_grind_29 (15) (by decide) 31 rfl ?_
    refine k_iload_n C dX12_grind_31 2 rfl 32 rfl ?_
    refine k_iast C dX12_grind_32 hf 33 rfl (fun w18 _ hf => ?_)
    refine k_iload_n C dX12_grind_33 0 rfl 34 rfl ?_
    exact k_iret C hr h0 dX12_grind_34 hf
  · refine k_aload_n C dX12_grind_8 0 rfl rfl 9 rfl ?_
    refine k_callV_i C ye_X12_badTen ve_X12_134 ⟨rfl, rfl⟩ ⟨rfl, rfl⟩ dX12_grind_9 [] rfl rfl (Nat.le_of_ble_eq_true rfl) (c_X12_badTen _ _) hf 12 rfl (fun x20 w19 hf => ?_)
    exact k_iret C hr h0 dX12_grind_12 hf
