theorem dX12_sell_0 : decode cX12_sell 0 = .ok (.aload_n 0, 1) := by decide +kernel
theorem dX12_sell_1 : decode cX12_sell 1 = .ok (.iload_n 1, 1) := by decide +kernel
theorem dX12_sell_2 : decode cX12_sell 2 = .ok (.invokevirtual 131, 3) := by decide +kernel
theorem dX12_sell_5 : decode cX12_sell 5 = .ok (.ifCond .eq 14, 3) := by decide +kernel
theorem dX12_sell_8 : decode cX12_sell 8 = .ok (.iload_n 2, 1) := by decide +kernel
theorem dX12_sell_9 : decode cX12_sell 9 = .ok (.iconst 1, 1) := by decide +kernel
theorem dX12_sell_10 : decode cX12_sell 10 = .ok (.sipush 200, 3) := by decide +kernel
theorem dX12_sell_13 : decode cX12_sell 13 = .ok (.invokestatic 52, 3) := by decide +kernel
theorem dX12_sell_16 : decode cX12_sell 16 = .ok (.ifCond .ne 10, 3) := by decide +kernel
theorem dX12_sell_19 : decode cX12_sell 19 = .ok (.aload_n 0, 1) := by decide +kernel
theorem dX12_sell_20 : decode cX12_sell 20 = .ok (.bipush (-2), 2) := by decide +kernel
theorem dX12_sell_22 : decode cX12_sell 22 = .ok (.invokevirtual 56, 3) := by decide +kernel
theorem dX12_sell_25 : decode cX12_sell 25 = .ok (.ireturn, 1) := by decide +kernel
theorem dX12_sell_26 : decode cX12_sell 26 = .ok (.aload_n 0, 1) := by decide +kernel
theorem dX12_sell_27 : decode cX12_sell 27 = .ok (.getfield 7, 3) := by decide +kernel
theorem dX12_sell_30 : decode cX12_sell 30 = .ok (.iconst 0, 1) := by decide +kernel
theorem dX12_sell_31 : decode cX12_sell 31 = .ok (.iload_n 1, 1) := by decide +kernel
theorem dX12_sell_32 : decode cX12_sell 32 = .ok (.iadd, 1) := by decide +kernel
theorem dX12_sell_33 : decode cX12_sell 33 = .ok (.iaload, 1) := by decide +kernel
theorem dX12_sell_34 : decode cX12_sell 34 = .ok (.iload_n 2, 1) := by decide +kernel
theorem dX12_sell_35 : decode cX12_sell 35 = .ok (.if_icmp .ge 10, 3) := by decide +kernel
theorem dX12_sell_38 : decode cX12_sell 38 = .ok (.aload_n 0, 1) := by decide +kernel
theorem dX12_sell_39 : decode cX12_sell 39 = .ok (.bipush (-3), 2) := by decide +kernel
theorem dX12_sell_41 : decode cX12_sell 41 = .ok (.invokevirtual 56, 3) := by decide +kernel
theorem dX12_sell_44 : decode cX12_sell 44 = .ok (.ireturn, 1) := by decide +kernel
theorem dX12_sell_45 : decode cX12_sell 45 = .ok (.aload_n 0, 1) := by decide +kernel
theorem dX12_sell_46 : decode cX12_sell 46 = .ok (.invokevirtual 137, 3) := by decide +kernel
theorem dX12_sell_49 : decode cX12_sell 49 = .ok (.iconst 0, 1) := by decide +kernel
theorem dX12_sell_50 : decode cX12_sell 50 = .ok (.istore_n 3, 1) := by decide +kernel
theorem dX12_sell_51 : decode cX12_sell 51 = .ok (.iconst 0, 1) := by decide +kernel
theorem dX12_sell_52 : decode cX12_sell 52 = .ok (.istore 4, 2) := by decide +kernel
theorem dX12_sell_54 : decode cX12_sell 54 = .ok (.iload 4, 2) := by decide +kernel
theorem dX12_sell_56 : decode cX12_sell 56 = .ok (.iload_n 2, 1) := by decide +kernel
theorem dX12_sell_57 : decode cX12_sell 57 = .ok (.if_icmp .ge 39, 3) := by decide +kernel
theorem dX12_sell_60 : decode cX12_sell 60 = .ok (.iload_n 3, 1) := by decide +kernel
theorem dX12_sell_61 : decode cX12_sell 61 = .ok (.aload_n 0, 1) := by decide +kernel
theorem dX12_sell_62 : decode cX12_sell 62 = .ok (.iload_n 1, 1) := by decide +kernel
theorem dX12_sell_63 : decode cX12_sell 63 = .ok (.aload_n 0, 1) := by decide +kernel
theorem dX12_sell_64 : decode cX12_sell 64 = .ok (.getfield 7, 3) := by decide +kernel
theorem dX12_sell_67 : decode cX12_sell 67 = .ok (.bipush 6, 2) := by decide +kernel
theorem dX12_sell_69 : decode cX12_sell 69 = .ok (.iload_n 1, 1) := by decide +kernel
theorem dX12_sell_70 : decode cX12_sell 70 = .ok (.iadd, 1) := by decide +kernel
theorem dX12_sell_71 : decode cX12_sell 71 = .ok (.iaload, 1) := by decide +kernel
theorem dX12_sell_72 : decode cX12_sell 72 = .ok (.invokevirtual 150, 3) := by decide +kernel
theorem dX12_sell_75 : decode cX12_sell 75 = .ok (.iadd, 1) := by decide +kernel
theorem dX12_sell_76 : decode cX12_sell 76 = .ok (.istore_n 3, 1) := by decide +kernel
theorem dX12_sell_77 : decode cX12_sell 77 = .ok (.aload_n 0, 1) := by decide +kernel
theorem dX12_sell_78 : decode cX12_sell 78 = .ok (.getfield 7, 3) := by decide +kernel
theorem dX12_sell_81 : decode cX12_sell 81 = .ok (.bipush 6, 2) := by decide +kernel
theorem dX12_sell_83 : decode cX12_sell 83 = .ok (.iload_n 1, 1) := by decide +kernel
theorem dX12_sell_84 : decode cX12_sell 84 = .ok (.iadd, 1) := by decide +kernel
theorem dX12_sell_85 : decode cX12_sell 85 = .ok (.dup2, 1) := by decide +kernel
theorem dX12_sell_86 : decode cX12_sell 86 = .ok (.iaload, 1) := by decide +kernel
theorem dX12_sell_87 : decode cX12_sell 87 = .ok (.iconst 1, 1) := by decide +kernel
theorem dX12_sell_88 : decode cX12_sell 88 = .ok (.iadd, 1) := by decide +kernel
theorem dX12_sell_89 : decode cX12_sell 89 = .ok (.iastore, 1) := by decide +kernel
theorem dX12_sell_90 : decode cX12_sell 90 = .ok (.iinc 4 1, 3) := by decide +kernel
theorem dX12_sell_93 : decode cX12_sell 93 = .ok (.goto (-39), 3) := by decide +kernel
theorem dX12_sell_96 : decode cX12_sell 96 = .ok (.aload_n 0, 1) := by decide +kernel
theorem dX12_sell_97 : decode cX12_sell 97 = .ok (.getfield 7, 3) := by decide +kernel
theorem dX12_sell_100 : decode cX12_sell 100 = .ok (.iconst 0, 1) := by decide +kernel
theorem dX12_sell_101 : decode cX12_sell 101 = .ok (.iload_n 1, 1) := by decide +kernel
theorem dX12_sell_102 : decode cX12_sell 102 = .ok (.iadd, 1) := by decide +kernel
theorem dX12_sell_103 : decode cX12_sell 103 = .ok (.dup2, 1) := by decide +kernel
theorem dX12_sell_104 : decode cX12_sell 104 = .ok (.iaload, 1) := by decide +kernel
theorem dX12_sell_105 : decode cX12_sell 105 = .ok (.iload_n 2, 1) := by decide +kernel
theorem dX12_sell_106 : decode cX12_sell 106 = .ok (.isub, 1) := by decide +kernel
theorem dX12_sell_107 : decode cX12_sell 107 = .ok (.iastore, 1) := by decide +kernel
theorem dX12_sell_108 : decode cX12_sell 108 = .ok (.aload_n 0, 1) := by decide +kernel
theorem dX12_sell_109 : decode cX12_sell 109 = .ok (.getfield 7, 3) := by decide +kernel
theorem dX12_sell_112 : decode cX12_sell 112 = .ok (.bipush 13, 2) := by decide +kernel
theorem dX12_sell_114 : decode cX12_sell 114 = .ok (.dup2, 1) := by decide +kernel
theorem dX12_sell_115 : decode cX12_sell 115 = .ok (.iaload, 1) := by decide +kernel
theorem dX12_sell_116 : decode cX12_sell 116 = .ok (.iload_n 3, 1) := by decide +kernel
theorem dX12_sell_117 : decode cX12_sell 117 = .ok (.iadd, 1) := by decide +kernel
theorem dX12_sell_118 : decode cX12_sell 118 = .ok (.iastore, 1) := by decide +kernel
theorem dX12_sell_119 : decode cX12_sell 119 = .ok (.iload_n 3, 1) := by decide +kernel
theorem dX12_sell_120 : decode cX12_sell 120 = .ok (.ireturn, 1) := by decide +kernel
set_option maxRecDepth 100000 in
set_option maxHeartbeats 4000000 in
theorem c_X12_sell {g : Gv} {l : Launch} (p0 : Nat) (p1 : Int32) (p2 : Int32) (w0 : Wd) (rz : Int32) (wz : Wd) (hf : f_X12_sell p0 p1 p2 w0 = some (rz, wz)) : MI g l yX12_sell cX12_sell 5 .int 2 43 [rV g p0, .int p1, .int p2] w0 rz wz := by
  refine mi_of RX12 (by decide) rfl (Nat.le_of_ble_eq_true rfl) ?_
  intro X hg hll C hr h0
  subst hg; subst hll
  have t_54 : ∀ (n : Nat) (v0 : Nat) (v1 : Int32) (v2 : Int32) (v3 : Int32) (v4 : Int32) (w : Wd), f_X12_sell_54 n v0 v1 v2 v3 v4 w = some (rz, wz) → Wk X 0 0 (QI X w0 rz wz) w [(0, rV (xg X) v0), (1, .int v1), (2, .int v2), (3, .int v3), (4, .int v4)] 54 [] := by
    intro n
    induction n with
    | zero => intro v0 v1 v2 v3 v4 w hf; rw [f_X12_sell_54] at hf; cases hf
    | succ n54 ih54 =>
      intro v0 v1 v2 v3 v4 w hf
      rw [f_X12_sell_54] at hf
      refine k_iload C dX12_sell_54 4 rfl 56 rfl ?_
      refine k_iload_n C dX12_sell_56 2 rfl 57 rfl ?_
      refine k_icmp_ge C dX12_sell_57 hf 96 rfl 60 rfl (fun hf => ?_) (fun hf => ?_)
      · refine k_aload_n C dX12_sell_96 0 rfl rfl 97 rfl ?_
        refine k_getR C fe_X12_7 rfl dX12_sell_97 hf 100 rfl (fun r27 hf => ?_)
        refine k_iconst C dX12_sell_100 (0) (by decide) 101 rfl ?_
        refine k_iload_n C dX12_sell_101 1 rfl 102 rfl ?_
        refine k_iadd C dX12_sell_102 103 rfl ?_
        refine k_dup2 C dX12_sell_103 rfl rfl 104 rfl ?_
        refine k_iald C dX12_sell_104 hf 105 rfl (fun x28 hf => ?_)
        refine k_iload_n C dX12_sell_105 2 rfl 106 rfl ?_
        refine k_isub C dX12_sell_106 107 rfl ?_
        refine k_iast C dX12_sell_107 hf 108 rfl (fun w29 _ hf => ?_)
        refine k_aload_n C dX12_sell_108 0 rfl rfl 109 rfl ?_
        refine k_getR C fe_X12_7 rfl dX12_sell_109 hf 112 rfl (fun r30 hf => ?_)
        refine k_bipush C dX12_sell_112 (13) (by decide) 114 rfl ?_
        refine k_dup2 C dX12_sell_114 rfl rfl 115 rfl ?_
        refine k_iald C dX12_sell_115 hf 116 rfl (fun x31 hf => ?_)
        refine k_iload_n C dX12_sell_116 3 rfl 117 rfl ?_
        refine k_iadd C dX12_sell_117 118 rfl ?_
        refine k_iast C dX12_sell_118 hf 119 rfl (fun w32 _ hf => ?_)
        refine k_iload_n C dX12_sell_119 3 rfl 120 rfl ?_
        exact k_iret C hr h0 dX12_sell_120 hf
      · refine k_iload_n C dX12_sell_60 3 rfl 61 rfl ?_
        refine k_aload_n C dX12_sell_61 0 rfl rfl 62 rfl ?_
        refine k_iload_n C dX12_sell_62 1 rfl 63 rfl ?_
        refine k_aload_n C dX12_sell_63 0 rfl rfl 64 rfl ?_
        refine k_getR C fe_X12_7 rfl dX12_sell_64 hf 67 rfl (fun r33 hf => ?_)
        refine k_bipush C dX12_sell_67 (6) (by decide) 69 rfl ?_
        refine k_iload_n C dX12_sell_69 1 rfl 70 rfl ?_
        refine k_iadd C dX12_sell_70 71 rfl ?_
        refine k_iald C dX12_sell_71 hf 72 rfl (fun x34 hf => ?_)
        refine k_callV_i C ye_X12_fetches ve_X12_150 ⟨rfl, rfl⟩ ⟨rfl, rfl⟩ dX12_sell_72 [.int v1, .int x34] rfl rfl (Nat.le_of_ble_eq_true rfl) (c_X12_fetches _ _ _ _) hf 75 rfl (fun x36 w35 hf => ?_)
        refine k_iadd C dX12_sell_75 76 rfl ?_
        refine k_nmi hf (fun x37 hf => ?_)
        refine k_istore_n C dX12_sell_76 rfl (by decide) [(3, .int x37), (0, rV (xg X) v0), (1, .int v1), (2, .int v2), (4, .int v4)] rfl 77 rfl ?_
        refine k_aload_n C dX12_sell_77 1 rfl rfl 78 rfl ?_
        refine k_getR C fe_X12_7 rfl dX12_sell_78 hf 81 rfl (fun r38 hf => ?_)
        refine k_bipush C dX12_sell_81 (6) (by decide) 83 rfl ?_
        refine k_iload_n C dX12_sell_83 2 rfl 84 rfl ?_
        refine k_iadd C dX12_sell_84 85 rfl ?_
        refine k_dup2 C dX12_sell_85 rfl rfl 86 rfl ?_
        refine k_iald C dX12_sell_86 hf 87 rfl (fun x39 hf => ?_)
        refine k_iconst C dX12_sell_87 (1) (by decide) 88 rfl ?_
        refine k_iadd C dX12_sell_88 89 rfl ?_
        refine k_iast C dX12_sell_89 hf 90 rfl (fun w40 _ hf => ?_)
        refine k_iinc C dX12_sell_90 4 rfl (by decide) (by decide) [(4, .int (v4 + (1 : Int32))), (3, .int x37), (0, rV (xg X) v0), (1, .int v1), (2, .int v2)] rfl 93 rfl ?_
        refine k_goto C dX12_sell_93 54 rfl ?_
        refine k_sub [2, 3, 4, 1, 0] rfl ?_
        exact ih54 _ _ _ _ _ w40 hf
  have t_19 : ∀ (v0 : Nat) (w : Wd), f_X12_sell_19 v0 w = some (rz, wz) → Wk X 0 0 (QI X w0 rz wz) w [(0, rV (xg X) v0)] 19 [] := by
    intro v0 w hf
    unfold f_X12_sell_19 at hf
    refine k_aload_n C dX12_sell_19 0 rfl rfl 20 rfl ?_
    refine k_bipush C dX12_sell_20 (-2) (by decide) 22 rfl ?_
    refine k_callV_i C ye_X12_refuse ve_X12_56 ⟨rfl, rfl⟩ ⟨rfl, rfl⟩ dX12_sell_22 [.int (-2 : Int32)] rfl rfl (Nat.le_of_ble_eq_true rfl) (c_X12_refuse _ _ _) hf 25 rfl (fun x42 w41 hf => ?_)
    exact k_iret C hr h0 dX12_sell_25 hf
  unfold f_X12_sell at hf
  refine k_sub (lv2 := [(0, rV (xg X) p0), (1, .int p1), (2, .int p2)]) [0, 1, 2] rfl ?_
  refine k_aload_n C dX12_sell_0 0 rfl rfl 1 rfl ?_
  refine k_iload_n C dX12_sell_1 1 rfl 2 rfl ?_
  refine k_callV_i C ye_X12_isGoods ve_X12_131 ⟨rfl, rfl⟩ ⟨rfl, rfl⟩ dX12_sell_2 [.int p1] rfl rfl (Nat.le_of_ble_eq_true rfl) (c_X12_isGoods _ _ _) hf 5 rfl (fun x44 w43 hf => ?_)
  refine k_if_eq C dX12_sell_5 hf 19 rfl 8 rfl (fun hf => ?_) (fun hf => ?_)
  · refine k_sub [0] rfl ?_
    exact t_19 _ w43 hf
  · refine k_iload_n C dX12_sell_8 2 rfl 9 rfl ?_
    refine k_iconst C dX12_sell_9 (1) (by decide) 10 rfl ?_
    refine k_sipush C dX12_sell_10 (200) (by decide) 13 rfl ?_
    refine k_callS_i C ye_X12_in se_X12_52 ⟨rfl, rfl⟩ ⟨rfl, rfl⟩ dX12_sell_13 [.int p2, .int (1 : Int32), .int (200 : Int32)] rfl rfl (Nat.le_of_ble_eq_true rfl) (c_X12_in _ _ _ _) hf 16 rfl (fun x46 w45 hf => ?_)
    refine k_if_ne C dX12_sell_16 hf 26 rfl 19 rfl (fun hf => ?_) (fun hf => ?_)
    · refine k_aload_n C dX12_sell_26 0 rfl rfl 27 rfl ?_
      refine k_getR C fe_X12_7 rfl dX12_sell_27 hf 30 rfl (fun r47 hf => ?_)
      refine k_iconst C dX12_sell_30 (0) (by decide) 31 rfl ?_
      refine k_iload_n C dX12_sell_31 1 rfl 32 rfl ?_
      refine k_iadd C dX12_sell_32 33 rfl ?_
      refine k_iald C dX12_sell_33 hf 34 rfl (fun x48 hf => ?_)
      refine k_iload_n C dX12_sell_34 2 rfl 35 rfl ?_
      refine k_icmp_ge C dX12_sell_35 hf 45 rfl 38 rfl (fun hf => ?_) (fun hf => ?_)
      · refine k_aload_n C dX12_sell_45 0 rfl rfl 46 rfl ?_
        refine k_callV_v C ye_X12_keepPast ve_X12_137 ⟨rfl, rfl⟩ ⟨rfl, rfl⟩ dX12_sell_46 [] rfl rfl (Nat.le_of_ble_eq_true rfl) (c_X12_keepPast _ _) hf 49 rfl (fun w49 hf => ?_)
        refine k_iconst C dX12_sell_49 (0) (by decide) 50 rfl ?_
        refine k_istore_n C dX12_sell_50 rfl (by decide) [(3, .int (0 : Int32)), (0, rV (xg X) p0), (1, .int p1), (2, .int p2)] rfl 51 rfl ?_
        refine k_iconst C dX12_sell_51 (0) (by decide) 52 rfl ?_
        refine k_istore C dX12_sell_52 (by decide) [(4, .int (0 : Int32)), (3, .int (0 : Int32)), (0, rV (xg X) p0), (1, .int p1), (2, .int p2)] rfl 54 rfl ?_
        refine k_sub [2, 3, 4, 1, 0] rfl ?_
        exact t_54 4096 _ _ _ _ _ w49 hf
      · refine k_aload_n C dX12_sell_38 0 rfl rfl 39 rfl ?_
        refine k_bipush C dX12_sell_39 (-3) (by decide) 41 rfl ?_
        refine k_callV_i C ye_X12_refuse ve_X12_56 ⟨rfl, rfl⟩ ⟨rfl, rfl⟩ dX12_sell_41 [.int (-3 : Int32)] rfl rfl (Nat.le_of_ble_eq_true rfl) (c_X12_refuse _ _ _) hf 44 rfl (fun x52 w51 hf => ?_)
        exact k_iret C hr h0 dX12_sell_44 hf
    · refine k_sub [0] rfl ?_
      exact t_19 _ w45 hf
theorem dX12_ship_0 : decode cX12_ship 0 = .ok (.aload_n 0, 1) := by decide +kernel
theorem dX12_ship_1 : decode cX12_ship 1 = .ok (.iload_n 1, 1) := by decide +kernel
theorem dX12_ship_2 : decode cX12_ship 2 = .ok (.invokevirtual 131, 3) := by decide +kernel
theorem dX12_ship_5 : decode cX12_ship 5 = .ok (.ifCond .eq 14, 3) := by decide +kernel
theorem dX12_ship_8 : decode cX12_ship 8 = .ok (.iload_n 2, 1) := by decide +kernel
theorem dX12_ship_9 : decode cX12_ship 9 = .ok (.iconst 0, 1) := by decide +kernel
theorem dX12_ship_10 : decode cX12_ship 10 = .ok (.sipush 300, 3) := by decide +kernel
theorem dX12_ship_13 : decode cX12_ship 13 = .ok (.invokestatic 52, 3) := by decide +kernel
theorem dX12_ship_16 : decode cX12_ship 16 = .ok (.ifCond .ne 10, 3) := by decide +kernel
theorem dX12_ship_19 : decode cX12_ship 19 = .ok (.aload_n 0, 1) := by decide +kernel
theorem dX12_ship_20 : decode cX12_ship 20 = .ok (.bipush (-2), 2) := by decide +kernel
theorem dX12_ship_22 : decode cX12_ship 22 = .ok (.invokevirtual 56, 3) := by decide +kernel
theorem dX12_ship_25 : decode cX12_ship 25 = .ok (.ireturn, 1) := by decide +kernel
theorem dX12_ship_26 : decode cX12_ship 26 = .ok (.iconst 0, 1) := by decide +kernel
theorem dX12_ship_27 : decode cX12_ship 27 = .ok (.istore_n 3, 1) := by decide +kernel
theorem dX12_ship_28 : decode cX12_ship 28 = .ok (.iconst 0, 1) := by decide +kernel
theorem dX12_ship_29 : decode cX12_ship 29 = .ok (.istore 4, 2) := by decide +kernel
theorem dX12_ship_31 : decode cX12_ship 31 = .ok (.iload 4, 2) := by decide +kernel
theorem dX12_ship_33 : decode cX12_ship 33 = .ok (.bipush 60, 2) := by decide +kernel
theorem dX12_ship_35 : decode cX12_ship 35 = .ok (.if_icmp .ge 44, 3) := by decide +kernel
theorem dX12_ship_38 : decode cX12_ship 38 = .ok (.iload_n 3, 1) := by decide +kernel
theorem dX12_ship_39 : decode cX12_ship 39 = .ok (.aload_n 0, 1) := by decide +kernel
theorem dX12_ship_40 : decode cX12_ship 40 = .ok (.iload_n 1, 1) := by decide +kernel
theorem dX12_ship_41 : decode cX12_ship 41 = .ok (.aload_n 0, 1) := by decide +kernel
theorem dX12_ship_42 : decode cX12_ship 42 = .ok (.getfield 7, 3) := by decide +kernel
theorem dX12_ship_45 : decode cX12_ship 45 = .ok (.bipush 14, 2) := by decide +kernel
theorem dX12_ship_47 : decode cX12_ship 47 = .ok (.iaload, 1) := by decide +kernel
theorem dX12_ship_48 : decode cX12_ship 48 = .ok (.iload 4, 2) := by decide +kernel
theorem dX12_ship_50 : decode cX12_ship 50 = .ok (.iadd, 1) := by decide +kernel
theorem dX12_ship_51 : decode cX12_ship 51 = .ok (.aload_n 0, 1) := by decide +kernel
theorem dX12_ship_52 : decode cX12_ship 52 = .ok (.getfield 7, 3) := by decide +kernel
theorem dX12_ship_55 : decode cX12_ship 55 = .ok (.bipush 16, 2) := by decide +kernel
theorem dX12_ship_57 : decode cX12_ship 57 = .ok (.iaload, 1) := by decide +kernel
theorem dX12_ship_58 : decode cX12_ship 58 = .ok (.invokevirtual 124, 3) := by decide +kernel
theorem dX12_ship_61 : decode cX12_ship 61 = .ok (.iadd, 1) := by decide +kernel
theorem dX12_ship_62 : decode cX12_ship 62 = .ok (.istore_n 3, 1) := by decide +kernel
theorem dX12_ship_63 : decode cX12_ship 63 = .ok (.iload_n 3, 1) := by decide +kernel
theorem dX12_ship_64 : decode cX12_ship 64 = .ok (.iload_n 2, 1) := by decide +kernel
theorem dX12_ship_65 : decode cX12_ship 65 = .ok (.if_icmp .le 8, 3) := by decide +kernel
theorem dX12_ship_68 : decode cX12_ship 68 = .ok (.iload 4, 2) := by decide +kernel
theorem dX12_ship_70 : decode cX12_ship 70 = .ok (.iconst 1, 1) := by decide +kernel
theorem dX12_ship_71 : decode cX12_ship 71 = .ok (.iadd, 1) := by decide +kernel
theorem dX12_ship_72 : decode cX12_ship 72 = .ok (.ireturn, 1) := by decide +kernel
theorem dX12_ship_73 : decode cX12_ship 73 = .ok (.iinc 4 1, 3) := by decide +kernel
theorem dX12_ship_76 : decode cX12_ship 76 = .ok (.goto (-45), 3) := by decide +kernel
theorem dX12_ship_79 : decode cX12_ship 79 = .ok (.iconst (-1), 1) := by decide +kernel
theorem dX12_ship_80 : decode cX12_ship 80 = .ok (.ireturn, 1) := by decide +kernel
set_option maxRecDepth 100000 in
set_option maxHeartbeats 4000000 in
theorem c_X12_ship {g : Gv} {l : Launch} (p0 : Nat) (p1 : Int32) (p2 : Int32) (w0 : Wd) (rz : Int32) (wz : Wd) (hf : f_X12_ship p0 p1 p2 w0 = some (rz, wz)) : MI g l yX12_ship cX12_ship 5 .int 2 47 [rV g p0, .int p1, .int p2] w0 rz wz := by
  refine mi_of RX12 (by decide) rfl (Nat.le_of_ble_eq_true rfl) ?_
  intro X hg hll C hr h0
  subst hg; subst hll
  have t_31 : ∀ (n : Nat) (v0 : Nat) (v1 : Int32) (v2 : Int32) (v3 : Int32) (v4 : Int32) (w : Wd), f_X12_ship_31 n v0 v1 v2 v3 v4 w = some (rz, wz) → Wk X 0 0 (QI X w0 rz wz) w [(0, rV (xg X) v0), (1, .int v1), (2, .int v2), (3, .int v3), (4, .int v4)] 31 [] := by
    intro n
    induction n with
    | zero => intro v0 v1 v2 v3 v4 w hf; rw [f_X12_ship_31] at hf; cases hf
    | succ n31 ih31 =>
      intro v0 v1 v2 v3 v4 w hf
      rw [f_X12_ship_31] at hf
      refine k_iload C dX12_ship_31 4 rfl 33 rfl ?_
      refine k_bipush C dX12_ship_33 (60) (by decide) 35 rfl ?_
      refine k_icmp_ge C dX12_ship_35 hf 79 rfl 38 rfl (fun hf => ?_) (fun hf => ?_)
      · refine k_iconst C dX12_ship_79 (-1) (by decide) 80 rfl ?_
        exact k_iret C hr h0 dX12_ship_80 hf
      · refine k_iload_n C dX12_ship_38 3 rfl 39 rfl ?_
        refine k_aload_n C dX12_ship_39 0 rfl rfl 40 rfl ?_
        refine k_iload_n C dX12_ship_40 1 rfl 41 rfl ?_
        refine k_aload_n C dX12_ship_41 0 rfl rfl 42 rfl ?_
        refine k_getR C fe_X12_7 rfl dX12_ship_42 hf 45 rfl (fun r14 hf => ?_)
        refine k_bipush C dX12_ship_45 (14) (by decide) 47 rfl ?_
        refine k_iald C dX12_ship_47 hf 48 rfl (fun x15 hf => ?_)
        refine k_iload C dX12_ship_48 4 rfl 50 rfl ?_
        refine k_iadd C dX12_ship_50 51 rfl ?_
        refine k_aload_n C dX12_ship_51 0 rfl rfl 52 rfl ?_
        refine k_getR C fe_X12_7 rfl dX12_ship_52 hf 55 rfl (fun r16 hf => ?_)
        refine k_bipush C dX12_ship_55 (16) (by decide) 57 rfl ?_
        refine k_iald C dX12_ship_57 hf 58 rfl (fun x17 hf => ?_)
        refine k_callV_i C ye_X12_ground ve_X12_124 ⟨rfl, rfl⟩ ⟨rfl, rfl⟩ dX12_ship_58 [.int v1, .int (x15 + v4), .int x17] rfl rfl (Nat.le_of_ble_eq_true rfl) (c_X12_ground _ _ _ _ _) hf 61 rfl (fun x19 w18 hf => ?_)
        refine k_iadd C dX12_ship_61 62 rfl ?_
        refine k_nmi hf (fun x20 hf => ?_)
        refine k_istore_n C dX12_ship_62 rfl (by decide) [(3, .int x20), (0, rV (xg X) v0), (1, .int v1), (2, .int v2), (4, .int v4)] rfl 63 rfl ?_
        refine k_iload_n C dX12_ship_63 0 rfl 64 rfl ?_
        refine k_iload_n C dX12_ship_64 3 rfl 65 rfl ?_
        refine k_icmp_le C dX12_ship_65 hf 73 rfl 68 rfl (fun hf => ?_) (fun hf => ?_)
        · refine k_iinc C dX12_ship_73 4 rfl (by decide) (by decide) [(4, .int (v4 + (1 : Int32))), (3, .int x20), (0, rV (xg X) v0), (1, .int v1), (2, .int v2)] rfl 76 rfl ?_
          refine k_goto C dX12_ship_76 31 rfl ?_
          refine k_sub [2, 3, 4, 1, 0] rfl ?_
          exact ih31 _ _ _ _ _ w18 hf
        · refine k_iload C dX12_ship_68 4 rfl 70 rfl ?_
          refine k_iconst C dX12_ship_70 (1) (by decide) 71 rfl ?_
          refine k_iadd C dX12_ship_71 72 rfl ?_
          exact k_iret C hr h0 dX12_ship_72 hf
  have t_19 : ∀ (v0 : Nat) (w : Wd), f_X12_ship_19 v0 w = some (rz, wz) → Wk X 0 0 (QI X w0 rz wz) w [(0, rV (xg X) v0)] 19 [] := by
    intro v0 w hf
    unfold f_X12_ship_19 at hf
    refine k_aload_n C dX12_ship_19 0 rfl rfl 20 rfl ?_
    refine k_bipush C dX12_ship_20 (-2) (by decide) 22 rfl ?_
    refine k_callV_i C ye_X12_refuse ve_X12_56 ⟨rfl, rfl⟩ ⟨rfl, rfl⟩ dX12_ship_22 [.int (-2 : Int32)] rfl rfl (Nat.le_of_ble_eq_true rfl) (c_X12_refuse _ _ _) hf 25 rfl (fun x22 w21 hf => ?_)
    exact k_iret C hr h0 dX12_ship_25 hf
  unfold f_X12_ship at hf
  refine k_sub (lv2 := [(0, rV (xg X) p0), (1, .int p1), (2, .int p2)]) [0, 1, 2] rfl ?_
  refine k_aload_n C dX12_ship_0 0 rfl rfl 1 rfl ?_
  refine k_iload_n C dX12_ship_1 1 rfl 2 rfl ?_
  refine k_callV_i C ye_X12_isGoods ve_X12_131 ⟨rfl, rfl⟩ ⟨rfl, rfl⟩ dX12_ship_2 [.int p1] rfl rfl (Nat.le_of_ble_eq_true rfl) (c_X12_isGoods _ _ _) hf 5 rfl (fun x24 w23 hf => ?_)
  refine k_if_eq C dX12_ship_5 hf 19 rfl 8 rfl (fun hf => ?_) (fun hf => ?_)
  · refine k_sub [0] rfl ?_
    exact t_19 _ w23 hf
  · refine k_iload_n C dX12_ship_8 2 rfl 9 rfl ?_
    refine k_iconst C dX12_ship_9 (0) (by decide) 10 rfl ?_
    refine k_sipush C dX12_ship_10 (300) (by decide) 13 rfl ?_
    refine k_callS_i C ye_X12_in se_X12_52 ⟨rfl, rfl⟩ ⟨rfl, rfl⟩ dX12_ship_13 [.int p2, .int (0 : Int32), .int (300 : Int32)] rfl rfl (Nat.le_of_ble_eq_true rfl) (c_X12_in _ _ _ _) hf 16 rfl (fun x26 w25 hf => ?_)
    refine k_if_ne C dX12_ship_16 hf 26 rfl 19 rfl (fun hf => ?_) (fun hf => ?_)
    · refine k_iconst C dX12_ship_26 (0) (by decide) 27 rfl ?_
      refine k_istore_n C dX12_ship_27 rfl (by decide) [(3, .int (0 : Int32)), (0, rV (xg X) p0), (1, .int p1), (2, .int p2)] rfl 28 rfl ?_
      refine k_iconst C dX12_ship_28 (0) (by decide) 29 rfl ?_
      refine k_istore C dX12_ship_29 (by decide) [(4, .int (0 : Int32)), (3, .int (0 : Int32)), (0, rV (xg X) p0), (1, .int p1), (2, .int p2)] rfl 31 rfl ?_
      refine k_sub [2, 3, 4, 1, 0] rfl ?_
      exact t_31 4096 _ _ _ _ _ w25 hf
    · refine k_sub [0] rfl ?_
      exact t_19 _ w25 hf
theorem dX12_status_0 : decode cX12_status 0 = .ok (.iload_n 1, 1) := by decide +kernel
theorem dX12_status_1 : decode cX12_status 1 = .ok (.iconst 0, 1) := by decide +kernel
theorem dX12_status_2 : decode cX12_status 2 = .ok (.iconst 2, 1) := by decide +kernel
theorem dX12_status_3 : decode cX12_status 3 = .ok (.invokestatic 52, 3) := by decide +kernel
theorem dX12_status_6 : decode cX12_status 6 = .ok (.ifCond .ne 12, 3) := by decide +kernel
theorem dX12_status_9 : decode cX12_status 9 = .ok (.aload_n 0, 1) := by decide +kernel
theorem dX12_status_10 : decode cX12_status 10 = .ok (.bipush (-2), 2) := by decide +kernel
theorem dX12_status_12 : decode cX12_status 12 = .ok (.invokevirtual 56, 3) := by decide +kernel
theorem dX12_status_15 : decode cX12_status 15 = .ok (.pop, 1) := by decide +kernel
theorem dX12_status_16 : decode cX12_status 16 = .ok (.iconst (-1), 1) := by decide +kernel
theorem dX12_status_17 : decode cX12_status 17 = .ok (.ireturn, 1) := by decide +kernel
theorem dX12_status_18 : decode cX12_status 18 = .ok (.aload_n 0, 1) := by decide +kernel
theorem dX12_status_19 : decode cX12_status 19 = .ok (.getfield 17, 3) := by decide +kernel
theorem dX12_status_22 : decode cX12_status 22 = .ok (.iload_n 1, 1) := by decide +kernel
theorem dX12_status_23 : decode cX12_status 23 = .ok (.iaload, 1) := by decide +kernel
theorem dX12_status_24 : decode cX12_status 24 = .ok (.ireturn, 1) := by decide +kernel
set_option maxRecDepth 100000 in
set_option maxHeartbeats 4000000 in
theorem c_X12_status {g : Gv} {l : Launch} (p0 : Nat) (p1 : Int32) (w0 : Wd) (rz : Int32) (wz : Wd) (hf : f_X12_status p0 p1 w0 = some (rz, wz)) : MI g l yX12_status cX12_status 2 .int 1 22 [rV g p0, .int p1] w0 rz wz := by
  refine mi_of RX12 (by decide) rfl (Nat.le_of_ble_eq_true rfl) ?_
  intro X hg hll C hr h0
  subst hg; subst hll
  unfold f_X12_status at hf
  refine k_sub (lv2 := [(0, rV (xg X) p0), (1, .int p1)]) [0, 1] rfl ?_
  refine k_iload_n C dX12_status_0 1 rfl 1 rfl ?_
  refine k_iconst C dX12_status_1 (0) (by decide) 2 rfl ?_
  refine k_iconst C dX12_status_2 (2) (by decide) 3 rfl ?_
  refine k_callS_i C ye_X12_in se_X12_52 ⟨rfl, rfl⟩ ⟨rfl, rfl⟩ dX12_status_3 [.int p1, .int (0 : Int32), .int (2 : Int32)] rfl rfl (Nat.le_of_ble_eq_true rfl) (c_X12_in _ _ _ _) hf 6 rfl (fun x8 w7 hf => ?_)
  refine k_if_ne C dX12_status_6 hf 18 rfl 9 rfl (fun hf => ?_) (fun hf => ?_)
  · refine k_aload_n C dX12_status_18 0 rfl rfl 19 rfl ?_
    refine k_getR C fe_X12_17 rfl dX12_status_19 hf 22 rfl (fun r9 hf => ?_)
    refine k_iload_n C dX12_status_22 1 rfl 23 rfl ?_
    refine k_iald C dX12_status_23 hf 24 rfl (fun x10 hf => ?_)
    exact k_iret C hr h0 dX12_status_24 hf
  · refine k_aload_n C dX12_status_9 0 rfl rfl 10 rfl ?_
    refine k_bipush C dX12_status_10 (-2) (by decide) 12 rfl ?_
    refine k_callV_i C ye_X12_refuse ve_X12_56 ⟨rfl, rfl⟩ ⟨rfl, rfl⟩ dX12_status_12 [.int (-2 : Int32)] rfl rfl (Nat.le_of_ble_eq_true rfl) (c_X12_refuse _ _ _) hf 15 rfl (fun x12 w11 hf => ?_)
    refine k_pop C dX12_status_15 rfl 16 rfl ?_
    refine k_iconst C dX12_status_16 (-1) (by decide) 17 rfl ?_
    exact k_iret C hr h0 dX12_status_17 hf
theorem dX12_street_0 : decode cX12_street 0 = .ok (.iload_n 1, 1) := by decide +kernel
theorem dX12_street_1 : decode cX12_street 1 = .ok (.iconst 1, 1) := by decide +kernel
theorem dX12_street_2 : decode cX12_street 2 = .ok (.bipush 9, 2) := by decide +kernel
theorem dX12_street_4 : decode cX12_street 4 = .ok (.invokestatic 52, 3) := by decide +kernel
theorem dX12_street_7 : decode cX12_street 7 = .ok (.ifCond .eq 8, 3) := by decide +kernel
theorem dX12_street_10 : decode cX12_street 10 = .ok (.iload_n 2, 1) := by decide +kernel
theorem dX12_street_11 : decode cX12_street 11 = .ok (.iconst (-1), 1) := by decide +kernel
theorem dX12_street_12 : decode cX12_street 12 = .ok (.if_icmp .ge 8, 3) := by decide +kernel
theorem dX12_street_15 : decode cX12_street 15 = .ok (.aload_n 0, 1) := by decide +kernel
theorem dX12_street_16 : decode cX12_street 16 = .ok (.invokevirtual 134, 3) := by decide +kernel
theorem dX12_street_19 : decode cX12_street 19 = .ok (.ireturn, 1) := by decide +kernel
theorem dX12_street_20 : decode cX12_street 20 = .ok (.aload_n 0, 1) := by decide +kernel
theorem dX12_street_21 : decode cX12_street 21 = .ok (.iload_n 1, 1) := by decide +kernel
theorem dX12_street_22 : decode cX12_street 22 = .ok (.invokevirtual 171, 3) := by decide +kernel
theorem dX12_street_25 : decode cX12_street 25 = .ok (.iconst 0, 1) := by decide +kernel
theorem dX12_street_26 : decode cX12_street 26 = .ok (.istore_n 3, 1) := by decide +kernel
theorem dX12_street_27 : decode cX12_street 27 = .ok (.iconst 0, 1) := by decide +kernel
theorem dX12_street_28 : decode cX12_street 28 = .ok (.istore 4, 2) := by decide +kernel
theorem dX12_street_30 : decode cX12_street 30 = .ok (.iload 4, 2) := by decide +kernel
theorem dX12_street_32 : decode cX12_street 32 = .ok (.aload_n 0, 1) := by decide +kernel
theorem dX12_street_33 : decode cX12_street 33 = .ok (.getfield 7, 3) := by decide +kernel
theorem dX12_street_36 : decode cX12_street 36 = .ok (.bipush 19, 2) := by decide +kernel
theorem dX12_street_38 : decode cX12_street 38 = .ok (.iaload, 1) := by decide +kernel
theorem dX12_street_39 : decode cX12_street 39 = .ok (.if_icmp .ge 58, 3) := by decide +kernel
theorem dX12_street_42 : decode cX12_street 42 = .ok (.iconst 0, 1) := by decide +kernel
theorem dX12_street_43 : decode cX12_street 43 = .ok (.istore 5, 2) := by decide +kernel
theorem dX12_street_45 : decode cX12_street 45 = .ok (.iload 5, 2) := by decide +kernel
theorem dX12_street_47 : decode cX12_street 47 = .ok (.aload_n 0, 1) := by decide +kernel
theorem dX12_street_48 : decode cX12_street 48 = .ok (.getfield 7, 3) := by decide +kernel
theorem dX12_street_51 : decode cX12_street 51 = .ok (.bipush 19, 2) := by decide +kernel
theorem dX12_street_53 : decode cX12_street 53 = .ok (.iaload, 1) := by decide +kernel
theorem dX12_street_54 : decode cX12_street 54 = .ok (.if_icmp .ge 37, 3) := by decide +kernel
theorem dX12_street_57 : decode cX12_street 57 = .ok (.aload_n 0, 1) := by decide +kernel
theorem dX12_street_58 : decode cX12_street 58 = .ok (.iload 4, 2) := by decide +kernel
theorem dX12_street_60 : decode cX12_street 60 = .ok (.iload 5, 2) := by decide +kernel
theorem dX12_street_62 : decode cX12_street 62 = .ok (.invokevirtual 174, 3) := by decide +kernel
theorem dX12_street_65 : decode cX12_street 65 = .ok (.ifCond .eq 20, 3) := by decide +kernel
theorem dX12_street_68 : decode cX12_street 68 = .ok (.iload_n 3, 1) := by decide +kernel
theorem dX12_street_69 : decode cX12_street 69 = .ok (.iload_n 2, 1) := by decide +kernel
theorem dX12_street_70 : decode cX12_street 70 = .ok (.if_icmp .ne 12, 3) := by decide +kernel
theorem dX12_street_73 : decode cX12_street 73 = .ok (.bipush 6, 2) := by decide +kernel
theorem dX12_street_75 : decode cX12_street 75 = .ok (.iload 4, 2) := by decide +kernel
theorem dX12_street_77 : decode cX12_street 77 = .ok (.imul, 1) := by decide +kernel
theorem dX12_street_78 : decode cX12_street 78 = .ok (.iload 5, 2) := by decide +kernel
theorem dX12_street_80 : decode cX12_street 80 = .ok (.iadd, 1) := by decide +kernel
theorem dX12_street_81 : decode cX12_street 81 = .ok (.ireturn, 1) := by decide +kernel
theorem dX12_street_82 : decode cX12_street 82 = .ok (.iinc 3 1, 3) := by decide +kernel
theorem dX12_street_85 : decode cX12_street 85 = .ok (.iinc 5 1, 3) := by decide +kernel
theorem dX12_street_88 : decode cX12_street 88 = .ok (.goto (-43), 3) := by decide +kernel
theorem dX12_street_91 : decode cX12_street 91 = .ok (.iinc 4 1, 3) := by decide +kernel
theorem dX12_street_94 : decode cX12_street 94 = .ok (.goto (-64), 3) := by decide +kernel
theorem dX12_street_97 : decode cX12_street 97 = .ok (.iload_n 2, 1) := by decide +kernel
theorem dX12_street_98 : decode cX12_street 98 = .ok (.iconst (-1), 1) := by decide +kernel
theorem dX12_street_99 : decode cX12_street 99 = .ok (.if_icmp .ne 7, 3) := by decide +kernel
theorem dX12_street_102 : decode cX12_street 102 = .ok (.iload_n 3, 1) := by decide +kernel
theorem dX12_street_103 : decode cX12_street 103 = .ok (.goto 5, 3) := by decide +kernel
theorem dX12_street_106 : decode cX12_street 106 = .ok (.bipush (-5), 2) := by decide +kernel
theorem dX12_street_108 : decode cX12_street 108 = .ok (.ireturn, 1) := by decide +kernel
set_option maxRecDepth 100000 in
set_option maxHeartbeats 4000000 in
theorem c_X12_street {g : Gv} {l : Launch} (p0 : Nat) (p1 : Int32) (p2 : Int32) (w0 : Wd) (rz : Int32) (wz : Wd) (hf : f_X12_street p0 p1 p2 w0 = some (rz, wz)) : MI g l yX12_street cX12_street 6 .int 3 75 [rV g p0, .int p1, .int p2] w0 rz wz := by
  refine mi_of RX12 (by decide) rfl (Nat.le_of_ble_eq_true rfl) ?_
  intro X hg hll C hr h0
  subst hg; subst hll
  have t_108 : ∀ (s0 : Int32) (w : Wd), f_X12_street_108 s0 w = some (rz, wz) → Wk X 0 0 (QI X w0 rz wz) w [] 108 [.int s0] := by
    intro s0 w hf
    unfold f_X12_street_108 at hf
    exact k_iret C hr h0 dX12_street_108 hf
  have t_30 : ∀ (n : Nat) (v0 : Nat) (v2 : Int32) (v3 : Int32) (v4 : Int32) (w : Wd), f_X12_street_30 n v0 v2 v3 v4 w = some (rz, wz) → Wk X 0 0 (QI X w0 rz wz) w [(0, rV (xg X) v0), (2, .int v2), (3, .int v3), (4, .int v4)] 30 [] := by
    intro n
    induction n with
    | zero => intro v0 v2 v3 v4 w hf; rw [f_X12_street_30] at hf; cases hf
    | succ n30 ih30 =>
      have t_45 : ∀ (n : Nat) (v0 : Nat) (v2 : Int32) (v3 : Int32) (v4 : Int32) (v5 : Int32) (w : Wd), f_X12_street_45 (f_X12_street_30 n30) n v0 v2 v3 v4 v5 w = some (rz, wz) → Wk X 0 0 (QI X w0 rz wz) w [(0, rV (xg X) v0), (2, .int v2), (3, .int v3), (4, .int v4), (5, .int v5)] 45 [] := by
        intro n
        induction n with
        | zero => intro v0 v2 v3 v4 v5 w hf; rw [f_X12_street_45] at hf; cases hf
        | succ n45 ih45 =>
          have t_85 : ∀ (v0 : Nat) (v2 : Int32) (v3 : Int32) (v4 : Int32) (v5 : Int32) (w : Wd), f_X12_street_85 (f_X12_street_30 n30) (f_X12_street_45 (f_X12_street_30 n30) n45) v0 v2 v3 v4 v5 w = some (rz, wz) → Wk X 0 0 (QI X w0 rz wz) w [(0, rV (xg X) v0), (2, .int v2), (3, .int v3), (4, .int v4), (5, .int v5)] 85 [] := by
            intro v0 v2 v3 v4 v5 w hf
            unfold f_X12_street_85 at hf
            refine k_iinc C dX12_street_85 4 rfl (by decide) (by decide) [(5, .int (v5 + (1 : Int32))), (0, rV (xg X) v0), (2, .int v2), (3, .int v3), (4, .int v4)] rfl 88 rfl ?_
            refine k_goto C dX12_street_88 45 rfl ?_
            refine k_sub [1, 2, 3, 4, 0] rfl ?_
            exact ih45 _ _ _ _ _ w hf
          intro v0 v2 v3 v4 v5 w hf
          rw [f_X12_street_45] at hf
          refine k_iload C dX12_street_45 4 rfl 47 rfl ?_
          refine k_aload_n C dX12_street_47 0 rfl rfl 48 rfl ?_
          refine k_getR C fe_X12_7 rfl dX12_street_48 hf 51 rfl (fun r13 hf => ?_)
          refine k_bipush C dX12_street_51 (19) (by decide) 53 rfl ?_
          refine k_iald C dX12_street_53 hf 54 rfl (fun x14 hf => ?_)
          refine k_icmp_ge C dX12_street_54 hf 91 rfl 57 rfl (fun hf => ?_) (fun hf => ?_)
          · refine k_iinc C dX12_street_91 3 rfl (by decide) (by decide) [(4, .int (v4 + (1 : Int32))), (0, rV (xg X) v0), (2, .int v2), (3, .int v3), (5, .int v5)] rfl 94 rfl ?_
            refine k_goto C dX12_street_94 30 rfl ?_
            refine k_sub [1, 2, 3, 0] rfl ?_
            exact ih30 _ _ _ _ w hf
          · refine k_aload_n C dX12_street_57 0 rfl rfl 58 rfl ?_
            refine k_iload C dX12_street_58 3 rfl 60 rfl ?_
            refine k_iload C dX12_street_60 4 rfl 62 rfl ?_
            refine k_callV_i C ye_X12_rests ve_X12_174 ⟨rfl, rfl⟩ ⟨rfl, rfl⟩ dX12_street_62 [.int v4, .int v5] rfl rfl (Nat.le_of_ble_eq_true rfl) (c_X12_rests _ _ _ _) hf 65 rfl (fun x16 w15 hf => ?_)
            refine k_if_eq C dX12_street_65 hf 85 rfl 68 rfl (fun hf => ?_) (fun hf => ?_)
            · refine k_sub [0, 1, 2, 3, 4] rfl ?_
              exact t_85 _ _ _ _ _ w15 hf
            · refine k_iload_n C dX12_street_68 2 rfl 69 rfl ?_
              refine k_iload_n C dX12_street_69 1 rfl 70 rfl ?_
              refine k_icmp_ne C dX12_street_70 hf 82 rfl 73 rfl (fun hf => ?_) (fun hf => ?_)
              · refine k_iinc C dX12_street_82 2 rfl (by decide) (by decide) [(3, .int (v3 + (1 : Int32))), (0, rV (xg X) v0), (2, .int v2), (4, .int v4), (5, .int v5)] rfl 85 rfl ?_
                refine k_sub [1, 2, 0, 3, 4] rfl ?_
                exact t_85 _ _ _ _ _ w15 hf
              · refine k_bipush C dX12_street_73 (6) (by decide) 75 rfl ?_
                refine k_iload C dX12_street_75 3 rfl 77 rfl ?_
                refine k_imul C dX12_street_77 78 rfl ?_
                refine k_iload C dX12_street_78 4 rfl 80 rfl ?_
                refine k_iadd C dX12_street_80 81 rfl ?_
                exact k_iret C hr h0 dX12_street_81 hf
      intro v0 v2 v3 v4 w hf
      rw [f_X12_street_30] at hf
      refine k_iload C dX12_street_30 3 rfl 32 rfl ?_
      refine k_aload_n C dX12_street_32 0 rfl rfl 33 rfl ?_
      refine k_getR C fe_X12_7 rfl dX12_street_33 hf 36 rfl (fun r17 hf => ?_)
      refine k_bipush C dX12_street_36 (19) (by decide) 38 rfl ?_
      refine k_iald C dX12_street_38 hf 39 rfl (fun x18 hf => ?_)
      refine k_icmp_ge C dX12_street_39 hf 97 rfl 42 rfl (fun hf => ?_) (fun hf => ?_)
      · refine k_iload_n C dX12_street_97 1 rfl 98 rfl ?_
        refine k_iconst C dX12_street_98 (-1) (by decide) 99 rfl ?_
        refine k_icmp_ne C dX12_street_99 hf 106 rfl 102 rfl (fun hf => ?_) (fun hf => ?_)
        · refine k_bipush C dX12_street_106 (-5) (by decide) 108 rfl ?_
          refine k_sub [] rfl ?_
          exact t_108 _ w hf
        · refine k_iload_n C dX12_street_102 2 rfl 103 rfl ?_
          refine k_goto C dX12_street_103 108 rfl ?_
          refine k_sub [] rfl ?_
          exact t_108 _ w hf
      · refine k_iconst C dX12_street_42 (0) (by decide) 43 rfl ?_
        refine k_istore C dX12_street_43 (by decide) [(5, .int (0 : Int32)), (0, rV (xg X) v0), (2, .int v2), (3, .int v3), (4, .int v4)] rfl 45 rfl ?_
        refine k_sub [1, 2, 3, 4, 0] rfl ?_
        exact t_45 4096 _ _ _ _ _ w hf
  have t_15 : ∀ (v0 : Nat) (w : Wd), f_X12_street_15 v0 w = some (rz, wz) → Wk X 0 0 (QI X w0 rz wz) w [(0, rV (xg X) v0)] 15 [] := by
    intro v0 w hf
    unfold f_X12_street_15 at hf
    refine k_aload_n C dX12_street_15 0 rfl rfl 16 rfl ?_
    refine k_callV_i C ye_X12_badTen ve_X12_134 ⟨rfl, rfl⟩ ⟨rfl, rfl⟩ dX12_street_16 [] rfl rfl (Nat.le_of_ble_eq_true rfl) (c_X12_badTen _ _) hf 19 rfl (fun x20 w19 hf => ?_)
    exact k_iret C hr h0 dX12_street_19 hf
  unfold f_X12_street at hf
  refine k_sub (lv2 := [(0, rV (xg X) p0), (1, .int p1), (2, .int p2)]) [0, 1, 2] rfl ?_
  refine k_iload_n C dX12_street_0 1 rfl 1 rfl ?_
  refine k_iconst C dX12_street_1 (1) (by decide) 2 rfl ?_
  refine k_bipush C dX12_street_2 (9) (by decide) 4 rfl ?_
  refine k_callS_i C ye_X12_in se_X12_52 ⟨rfl, rfl⟩ ⟨rfl, rfl⟩ dX12_street_4 [.int p1, .int (1 : Int32), .int (9 : Int32)] rfl rfl (Nat.le_of_ble_eq_true rfl) (c_X12_in _ _ _ _) hf 7 rfl (fun x22 w21 hf => ?_)
  refine k_if_eq C dX12_street_7 hf 15 rfl 10 rfl (fun hf => ?_) (fun hf => ?_)
  · refine k_sub [0] rfl ?_
    exact t_15 _ w21 hf
  · refine k_iload_n C dX12_street_10 2 rfl 11 rfl ?_
    refine k_iconst C dX12_street_11 (-1) (by decide) 12 rfl ?_
    refine k_icmp_ge C dX12_street_12 hf 20 rfl 15 rfl (fun hf => ?_) (fun hf => ?_)
    · refine k_aload_n C dX12_street_20 0 rfl rfl 21 rfl ?_
      refine k_iload_n C dX12_street_21 1 rfl 22 rfl ?_
      refine k_callV_v C ye_X12_layStreet ve_X12_171 ⟨rfl, rfl⟩ ⟨rfl, rfl⟩ dX12_street_22 [.int p1] rfl rfl (Nat.le_of_ble_eq_true rfl) (c_X12_layStreet _ _ _) hf 25 rfl (fun w23 hf => ?_)
      refine k_iconst C dX12_street_25 (0) (by decide) 26 rfl ?_
      refine k_istore_n C dX12_street_26 rfl (by decide) [(3, .int (0 : Int32)), (0, rV (xg X) p0), (1, .int p1), (2, .int p2)] rfl 27 rfl ?_
      refine k_iconst C dX12_street_27 (0) (by decide) 28 rfl ?_
      refine k_istore C dX12_street_28 (by decide) [(4, .int (0 : Int32)), (3, .int (0 : Int32)), (0, rV (xg X) p0), (1, .int p1), (2, .int p2)] rfl 30 rfl ?_
      refine k_sub [2, 4, 1, 0] rfl ?_
      exact t_30 4096 _ _ _ _ w23 hf
    · refine k_sub [0] rfl ?_
      exact t_15 _ w21 hf
theorem dX12_tellPart_0 : decode cX12_tellPart 0 = .ok (.lload_n 1, 1) := by decide +kernel
theorem dX12_tellPart_1 : decode cX12_tellPart 1 = .ok (.lstore 5, 2) := by decide +kernel
theorem dX12_tellPart_3 : decode cX12_tellPart 3 = .ok (.lload_n 3, 1) := by decide +kernel
theorem dX12_tellPart_4 : decode cX12_tellPart 4 = .ok (.lstore 7, 2) := by decide +kernel
theorem dX12_tellPart_6 : decode cX12_tellPart 6 = .ok (.lload 7, 2) := by decide +kernel
theorem dX12_tellPart_8 : decode cX12_tellPart 8 = .ok (.lconst 0, 1) := by decide +kernel
theorem dX12_tellPart_9 : decode cX12_tellPart 9 = .ok (.lcmp, 1) := by decide +kernel
theorem dX12_tellPart_10 : decode cX12_tellPart 10 = .ok (.ifCond .eq 21, 3) := by decide +kernel
theorem dX12_tellPart_13 : decode cX12_tellPart 13 = .ok (.lload 5, 2) := by decide +kernel
theorem dX12_tellPart_15 : decode cX12_tellPart 15 = .ok (.lload 7, 2) := by decide +kernel
theorem dX12_tellPart_17 : decode cX12_tellPart 17 = .ok (.lrem, 1) := by decide +kernel
theorem dX12_tellPart_18 : decode cX12_tellPart 18 = .ok (.lstore 9, 2) := by decide +kernel
theorem dX12_tellPart_20 : decode cX12_tellPart 20 = .ok (.lload 7, 2) := by decide +kernel
theorem dX12_tellPart_22 : decode cX12_tellPart 22 = .ok (.lstore 5, 2) := by decide +kernel
theorem dX12_tellPart_24 : decode cX12_tellPart 24 = .ok (.lload 9, 2) := by decide +kernel
theorem dX12_tellPart_26 : decode cX12_tellPart 26 = .ok (.lstore 7, 2) := by decide +kernel
theorem dX12_tellPart_28 : decode cX12_tellPart 28 = .ok (.goto (-22), 3) := by decide +kernel
theorem dX12_tellPart_31 : decode cX12_tellPart 31 = .ok (.aload_n 0, 1) := by decide +kernel
theorem dX12_tellPart_32 : decode cX12_tellPart 32 = .ok (.lload_n 1, 1) := by decide +kernel
theorem dX12_tellPart_33 : decode cX12_tellPart 33 = .ok (.lload 5, 2) := by decide +kernel
theorem dX12_tellPart_35 : decode cX12_tellPart 35 = .ok (.ldiv, 1) := by decide +kernel
theorem dX12_tellPart_36 : decode cX12_tellPart 36 = .ok (.putfield 186, 3) := by decide +kernel
theorem dX12_tellPart_39 : decode cX12_tellPart 39 = .ok (.aload_n 0, 1) := by decide +kernel
theorem dX12_tellPart_40 : decode cX12_tellPart 40 = .ok (.lload_n 3, 1) := by decide +kernel
theorem dX12_tellPart_41 : decode cX12_tellPart 41 = .ok (.lload 5, 2) := by decide +kernel
theorem dX12_tellPart_43 : decode cX12_tellPart 43 = .ok (.ldiv, 1) := by decide +kernel
theorem dX12_tellPart_44 : decode cX12_tellPart 44 = .ok (.putfield 20, 3) := by decide +kernel
theorem dX12_tellPart_47 : decode cX12_tellPart 47 = .ok (.return_, 1) := by decide +kernel
set_option maxRecDepth 100000 in
set_option maxHeartbeats 4000000 in
theorem c_X12_tellPart {g : Gv} {l : Launch} (p0 : Nat) (p1 : Int64) (p3 : Int64) (w0 : Wd) (wz : Wd) (hf : f_X12_tellPart p0 p1 p3 w0 = some ((), wz)) : MV g l yX12_tellPart cX12_tellPart 11 0 0 0 0 [rV g p0, .long p1, .long p3] w0 wz := by
  refine mv_of RX12 (by decide) rfl (Nat.le_of_ble_eq_true rfl) ?_
  intro X hg hll C hr h0 hin
  subst hg; subst hll
  have t_6 : ∀ (n : Nat) (v0 : Nat) (v1 : Int64) (v3 : Int64) (v5 : Int64) (v7 : Int64) (w : Wd), f_X12_tellPart_6 n v0 v1 v3 v5 v7 w = some ((), wz) → Wk X 0 0 (QV X 0 0 w0 wz) w [(0, rV (xg X) v0), (1, .long v1), (3, .long v3), (5, .long v5), (7, .long v7)] 6 [] := by
    intro n
    induction n with
    | zero => intro v0 v1 v3 v5 v7 w hf; rw [f_X12_tellPart_6] at hf; cases hf
    | succ n6 ih6 =>
      intro v0 v1 v3 v5 v7 w hf
      rw [f_X12_tellPart_6] at hf
      refine k_lload C dX12_tellPart_6 4 rfl 8 rfl ?_
      refine k_lconst C dX12_tellPart_8 (0) (by decide) 9 rfl ?_
      refine k_lcmp C dX12_tellPart_9 10 rfl ?_
      refine k_if_eq C dX12_tellPart_10 hf 31 rfl 13 rfl (fun hf => ?_) (fun hf => ?_)
      · refine k_aload_n C dX12_tellPart_31 0 rfl rfl 32 rfl ?_
        refine k_lload_n C dX12_tellPart_32 1 rfl 33 rfl ?_
        refine k_lload C dX12_tellPart_33 3 rfl 35 rfl ?_
        obtain ⟨h035, hf⟩ := nzL_s hf
        refine k_ldiv C dX12_tellPart_35 h035 36 rfl ?_
        refine k_putL C fe_X12_186 rfl rfl dX12_tellPart_36 hf 39 rfl (fun w4 _ hf => ?_)
        refine k_aload_n C dX12_tellPart_39 0 rfl rfl 40 rfl ?_
        refine k_lload_n C dX12_tellPart_40 2 rfl 41 rfl ?_
        refine k_lload C dX12_tellPart_41 3 rfl 43 rfl ?_
        obtain ⟨h043, hf⟩ := nzL_s hf
        refine k_ldiv C dX12_tellPart_43 h043 44 rfl ?_
        refine k_putL C fe_X12_20 rfl rfl dX12_tellPart_44 hf 47 rfl (fun w5 _ hf => ?_)
        exact k_vret C hr h0 dX12_tellPart_47 hf
      · refine k_lload C dX12_tellPart_13 3 rfl 15 rfl ?_
        refine k_lload C dX12_tellPart_15 4 rfl 17 rfl ?_
        obtain ⟨h017, hf⟩ := nzL_s hf
        refine k_lrem C dX12_tellPart_17 h017 18 rfl ?_
        refine k_nml hf (fun x6 hf => ?_)
        refine k_lstore C dX12_tellPart_18 (by decide) [(9, .long x6), (0, rV (xg X) v0), (1, .long v1), (3, .long v3), (5, .long v5), (7, .long v7)] rfl 20 rfl ?_
        refine k_lload C dX12_tellPart_20 5 rfl 22 rfl ?_
        refine k_lstore C dX12_tellPart_22 (by decide) [(5, .long v7), (9, .long x6), (0, rV (xg X) v0), (1, .long v1), (3, .long v3), (7, .long v7)] rfl 24 rfl ?_
        refine k_lload C dX12_tellPart_24 1 rfl 26 rfl ?_
        refine k_lstore C dX12_tellPart_26 (by decide) [(7, .long x6), (5, .long v7), (9, .long x6), (0, rV (xg X) v0), (1, .long v1), (3, .long v3)] rfl 28 rfl ?_
        refine k_goto C dX12_tellPart_28 6 rfl ?_
        refine k_sub [3, 4, 5, 1, 0] rfl ?_
        exact ih6 _ _ _ _ _ w hf
  unfold f_X12_tellPart at hf
  refine k_sub (lv2 := [(0, rV (xg X) p0), (1, .long p1), (3, .long p3)]) [0, 1, 2] rfl ?_
  refine k_lload_n C dX12_tellPart_0 1 rfl 1 rfl ?_
  refine k_lstore C dX12_tellPart_1 (by decide) [(5, .long p1), (0, rV (xg X) p0), (1, .long p1), (3, .long p3)] rfl 3 rfl ?_
  refine k_lload_n C dX12_tellPart_3 3 rfl 4 rfl ?_
  refine k_lstore C dX12_tellPart_4 (by decide) [(7, .long p3), (5, .long p1), (0, rV (xg X) p0), (1, .long p1), (3, .long p3)] rfl 6 rfl ?_
  refine k_sub [2, 3, 4, 1, 0] rfl ?_
  exact t_6 4096 _ _ _ _ _ w0 hf
theorem dX12_then_0 : decode cX12_then 0 = .ok (.iload_n 1, 1) := by decide +kernel
theorem dX12_then_1 : decode cX12_then 1 = .ok (.iconst 0, 1) := by decide +kernel
theorem dX12_then_2 : decode cX12_then 2 = .ok (.bipush 60, 2) := by decide +kernel
theorem dX12_then_4 : decode cX12_then 4 = .ok (.invokestatic 52, 3) := by decide +kernel
theorem dX12_then_7 : decode cX12_then 7 = .ok (.ifCond .eq 12, 3) := by decide +kernel
theorem dX12_then_10 : decode cX12_then 10 = .ok (.iload_n 2, 1) := by decide +kernel
theorem dX12_then_11 : decode cX12_then 11 = .ok (.iconst 0, 1) := by decide +kernel
theorem dX12_then_12 : decode cX12_then 12 = .ok (.iconst 1, 1) := by decide +kernel
theorem dX12_then_13 : decode cX12_then 13 = .ok (.invokestatic 52, 3) := by decide +kernel
theorem dX12_then_16 : decode cX12_then 16 = .ok (.ifCond .ne 10, 3) := by decide +kernel
theorem dX12_then_19 : decode cX12_then 19 = .ok (.aload_n 0, 1) := by decide +kernel
theorem dX12_then_20 : decode cX12_then 20 = .ok (.bipush (-2), 2) := by decide +kernel
theorem dX12_then_22 : decode cX12_then 22 = .ok (.invokevirtual 56, 3) := by decide +kernel
theorem dX12_then_25 : decode cX12_then 25 = .ok (.ireturn, 1) := by decide +kernel
theorem dX12_then_26 : decode cX12_then 26 = .ok (.aload_n 0, 1) := by decide +kernel
theorem dX12_then_27 : decode cX12_then 27 = .ok (.invokevirtual 153, 3) := by decide +kernel
theorem dX12_then_30 : decode cX12_then 30 = .ok (.iconst 0, 1) := by decide +kernel
theorem dX12_then_31 : decode cX12_then 31 = .ok (.istore_n 3, 1) := by decide +kernel
theorem dX12_then_32 : decode cX12_then 32 = .ok (.iload_n 3, 1) := by decide +kernel
theorem dX12_then_33 : decode cX12_then 33 = .ok (.iload_n 1, 1) := by decide +kernel
theorem dX12_then_34 : decode cX12_then 34 = .ok (.if_icmp .ge 24, 3) := by decide +kernel
theorem dX12_then_37 : decode cX12_then 37 = .ok (.aload_n 0, 1) := by decide +kernel
theorem dX12_then_38 : decode cX12_then 38 = .ok (.sipush 639, 3) := by decide +kernel
theorem dX12_then_41 : decode cX12_then 41 = .ok (.aload_n 0, 1) := by decide +kernel
theorem dX12_then_42 : decode cX12_then 42 = .ok (.getfield 7, 3) := by decide +kernel
theorem dX12_then_45 : decode cX12_then 45 = .ok (.bipush 15, 2) := by decide +kernel
theorem dX12_then_47 : decode cX12_then 47 = .ok (.iaload, 1) := by decide +kernel
theorem dX12_then_48 : decode cX12_then 48 = .ok (.invokevirtual 140, 3) := by decide +kernel
theorem dX12_then_51 : decode cX12_then 51 = .ok (.pop, 1) := by decide +kernel
theorem dX12_then_52 : decode cX12_then 52 = .ok (.iinc 3 1, 3) := by decide +kernel
theorem dX12_then_55 : decode cX12_then 55 = .ok (.goto (-23), 3) := by decide +kernel
theorem dX12_then_58 : decode cX12_then 58 = .ok (.iload_n 2, 1) := by decide +kernel
theorem dX12_then_59 : decode cX12_then 59 = .ok (.ifCond .ne 13, 3) := by decide +kernel
theorem dX12_then_62 : decode cX12_then 62 = .ok (.aload_n 0, 1) := by decide +kernel
theorem dX12_then_63 : decode cX12_then 63 = .ok (.sipush 639, 3) := by decide +kernel
theorem dX12_then_66 : decode cX12_then 66 = .ok (.invokevirtual 128, 3) := by decide +kernel
theorem dX12_then_69 : decode cX12_then 69 = .ok (.goto 11, 3) := by decide +kernel
theorem dX12_then_72 : decode cX12_then 72 = .ok (.aload_n 0, 1) := by decide +kernel
theorem dX12_then_73 : decode cX12_then 73 = .ok (.getfield 7, 3) := by decide +kernel
theorem dX12_then_76 : decode cX12_then 76 = .ok (.sipush 651, 3) := by decide +kernel
theorem dX12_then_79 : decode cX12_then 79 = .ok (.iaload, 1) := by decide +kernel
theorem dX12_then_80 : decode cX12_then 80 = .ok (.ireturn, 1) := by decide +kernel
set_option maxRecDepth 100000 in
set_option maxHeartbeats 4000000 in
theorem c_X12_then {g : Gv} {l : Launch} (p0 : Nat) (p1 : Int32) (p2 : Int32) (w0 : Wd) (rz : Int32) (wz : Wd) (hf : f_X12_then p0 p1 p2 w0 = some (rz, wz)) : MI g l yX12_then cX12_then 4 .int 3 72 [rV g p0, .int p1, .int p2] w0 rz wz := by
  refine mi_of RX12 (by decide) rfl (Nat.le_of_ble_eq_true rfl) ?_
  intro X hg hll C hr h0
  subst hg; subst hll
  have t_80 : ∀ (s0 : Int32) (w : Wd), f_X12_then_80 s0 w = some (rz, wz) → Wk X 0 0 (QI X w0 rz wz) w [] 80 [.int s0] := by
    intro s0 w hf
    unfold f_X12_then_80 at hf
    exact k_iret C hr h0 dX12_then_80 hf
  have t_32 : ∀ (n : Nat) (v0 : Nat) (v1 : Int32) (v2 : Int32) (v3 : Int32) (w : Wd), f_X12_then_32 n v0 v1 v2 v3 w = some (rz, wz) → Wk X 0 0 (QI X w0 rz wz) w [(0, rV (xg X) v0), (1, .int v1), (2, .int v2), (3, .int v3)] 32 [] := by
    intro n
    induction n with
    | zero => intro v0 v1 v2 v3 w hf; rw [f_X12_then_32] at hf; cases hf
    | succ n32 ih32 =>
      intro v0 v1 v2 v3 w hf
      rw [f_X12_then_32] at hf
      refine k_iload_n C dX12_then_32 3 rfl 33 rfl ?_
      refine k_iload_n C dX12_then_33 1 rfl 34 rfl ?_
      refine k_icmp_ge C dX12_then_34 hf 58 rfl 37 rfl (fun hf => ?_) (fun hf => ?_)
      · refine k_iload_n C dX12_then_58 2 rfl 59 rfl ?_
        refine k_if_ne C dX12_then_59 hf 72 rfl 62 rfl (fun hf => ?_) (fun hf => ?_)
        · refine k_aload_n C dX12_then_72 0 rfl rfl 73 rfl ?_
          refine k_getR C fe_X12_7 rfl dX12_then_73 hf 76 rfl (fun r17 hf => ?_)
          refine k_sipush C dX12_then_76 (651) (by decide) 79 rfl ?_
          refine k_iald C dX12_then_79 hf 80 rfl (fun x18 hf => ?_)
          refine k_sub [] rfl ?_
          exact t_80 _ w hf
        · refine k_aload_n C dX12_then_62 0 rfl rfl 63 rfl ?_
          refine k_sipush C dX12_then_63 (639) (by decide) 66 rfl ?_
          refine k_callV_i C ye_X12_inHouse ve_X12_128 ⟨rfl, rfl⟩ ⟨rfl, rfl⟩ dX12_then_66 [.int (639 : Int32)] rfl rfl (Nat.le_of_ble_eq_true rfl) (c_X12_inHouse _ _ _) hf 69 rfl (fun x20 w19 hf => ?_)
          refine k_goto C dX12_then_69 80 rfl ?_
          refine k_sub [] rfl ?_
          exact t_80 _ w19 hf
      · refine k_aload_n C dX12_then_37 0 rfl rfl 38 rfl ?_
        refine k_sipush C dX12_then_38 (639) (by decide) 41 rfl ?_
        refine k_aload_n C dX12_then_41 0 rfl rfl 42 rfl ?_
        refine k_getR C fe_X12_7 rfl dX12_then_42 hf 45 rfl (fun r21 hf => ?_)
        refine k_bipush C dX12_then_45 (15) (by decide) 47 rfl ?_
        refine k_iald C dX12_then_47 hf 48 rfl (fun x22 hf => ?_)
        refine k_callV_i C ye_X12_pass ve_X12_140 ⟨rfl, rfl⟩ ⟨rfl, rfl⟩ dX12_then_48 [.int (639 : Int32), .int x22] rfl rfl (Nat.le_of_ble_eq_true rfl) (c_X12_pass _ _ _ _) hf 51 rfl (fun x24 w23 hf => ?_)
        refine k_pop C dX12_then_51 rfl 52 rfl ?_
        refine k_iinc C dX12_then_52 3 rfl (by decide) (by decide) [(3, .int (v3 + (1 : Int32))), (0, rV (xg X) v0), (1, .int v1), (2, .int v2)] rfl 55 rfl ?_
        refine k_goto C dX12_then_55 32 rfl ?_
        refine k_sub [1, 2, 3, 0] rfl ?_
        exact ih32 _ _ _ _ w23 hf
  have t_19 : ∀ (v0 : Nat) (w : Wd), f_X12_then_19 v0 w = some (rz, wz) → Wk X 0 0 (QI X w0 rz wz) w [(0, rV (xg X) v0)] 19 [] := by
    intro v0 w hf
    unfold f_X12_then_19 at hf
    refine k_aload_n C dX12_then_19 0 rfl rfl 20 rfl ?_
    refine k_bipush C dX12_then_20 (-2) (by decide) 22 rfl ?_
    refine k_callV_i C ye_X12_refuse ve_X12_56 ⟨rfl, rfl⟩ ⟨rfl, rfl⟩ dX12_then_22 [.int (-2 : Int32)] rfl rfl (Nat.le_of_ble_eq_true rfl) (c_X12_refuse _ _ _) hf 25 rfl (fun x26 w25 hf => ?_)
    exact k_iret C hr h0 dX12_then_25 hf
  unfold f_X12_then at hf
  refine k_sub (lv2 := [(0, rV (xg X) p0), (1, .int p1), (2, .int p2)]) [0, 1, 2] rfl ?_
  refine k_iload_n C dX12_then_0 1 rfl 1 rfl ?_
  refine k_iconst C dX12_then_1 (0) (by decide) 2 rfl ?_
  refine k_bipush C dX12_then_2 (60) (by decide) 4 rfl ?_
  refine k_callS_i C ye_X12_in se_X12_52 ⟨rfl, rfl⟩ ⟨rfl, rfl⟩ dX12_then_4 [.int p1, .int (0 : Int32), .int (60 : Int32)] rfl rfl (Nat.le_of_ble_eq_true rfl) (c_X12_in _ _ _ _) hf 7 rfl (fun x28 w27 hf => ?_)
  refine k_if_eq C dX12_then_7 hf 19 rfl 10 rfl (fun hf => ?_) (fun hf => ?_)
  · refine k_sub [0] rfl ?_
    exact t_19 _ w27 hf
  · refine k_iload_n C dX12_then_10 2 rfl 11 rfl ?_
    refine k_iconst C dX12_then_11 (0) (by decide) 12 rfl ?_
    refine k_iconst C dX12_then_12 (1) (by decide) 13 rfl ?_
    refine k_callS_i C ye_X12_in se_X12_52 ⟨rfl, rfl⟩ ⟨rfl, rfl⟩ dX12_then_13 [.int p2, .int (0 : Int32), .int (1 : Int32)] rfl rfl (Nat.le_of_ble_eq_true rfl) (c_X12_in _ _ _ _) hf 16 rfl (fun x30 w29 hf => ?_)
    refine k_if_ne C dX12_then_16 hf 26 rfl 19 rfl (fun hf => ?_) (fun hf => ?_)
    · refine k_aload_n C dX12_then_26 0 rfl rfl 27 rfl ?_
      refine k_callV_v C ye_X12_layTried ve_X12_153 ⟨rfl, rfl⟩ ⟨rfl, rfl⟩ dX12_then_27 [] rfl rfl (Nat.le_of_ble_eq_true rfl) (c_X12_layTried _ _) hf 30 rfl (fun w31 hf => ?_)
      refine k_iconst C dX12_then_30 (0) (by decide) 31 rfl ?_
      refine k_istore_n C dX12_then_31 rfl (by decide) [(3, .int (0 : Int32)), (0, rV (xg X) p0), (1, .int p1), (2, .int p2)] rfl 32 rfl ?_
      refine k_sub [1, 2, 3, 0] rfl ?_
      exact t_32 4096 _ _ _ _ w31 hf
    · refine k_sub [0] rfl ?_
      exact t_19 _ w29 hf
theorem dX12_thieves_0 : decode cX12_thieves 0 = .ok (.aload_n 0, 1) := by decide +kernel
theorem dX12_thieves_1 : decode cX12_thieves 1 = .ok (.iload_n 1, 1) := by decide +kernel
theorem dX12_thieves_2 : decode cX12_thieves 2 = .ok (.invokevirtual 131, 3) := by decide +kernel
theorem dX12_thieves_5 : decode cX12_thieves 5 = .ok (.ifCond .eq 23, 3) := by decide +kernel
theorem dX12_thieves_8 : decode cX12_thieves 8 = .ok (.iload_n 2, 1) := by decide +kernel
theorem dX12_thieves_9 : decode cX12_thieves 9 = .ok (.iconst 0, 1) := by decide +kernel
theorem dX12_thieves_10 : decode cX12_thieves 10 = .ok (.bipush 9, 2) := by decide +kernel
theorem dX12_thieves_12 : decode cX12_thieves 12 = .ok (.invokestatic 52, 3) := by decide +kernel
theorem dX12_thieves_15 : decode cX12_thieves 15 = .ok (.ifCond .eq 13, 3) := by decide +kernel
theorem dX12_thieves_18 : decode cX12_thieves 18 = .ok (.iload_n 3, 1) := by decide +kernel
theorem dX12_thieves_19 : decode cX12_thieves 19 = .ok (.iconst 0, 1) := by decide +kernel
theorem dX12_thieves_20 : decode cX12_thieves 20 = .ok (.bipush 10, 2) := by decide +kernel
theorem dX12_thieves_22 : decode cX12_thieves 22 = .ok (.invokestatic 52, 3) := by decide +kernel
theorem dX12_thieves_25 : decode cX12_thieves 25 = .ok (.ifCond .ne 10, 3) := by decide +kernel
theorem dX12_thieves_28 : decode cX12_thieves 28 = .ok (.aload_n 0, 1) := by decide +kernel
theorem dX12_thieves_29 : decode cX12_thieves 29 = .ok (.bipush (-2), 2) := by decide +kernel
theorem dX12_thieves_31 : decode cX12_thieves 31 = .ok (.invokevirtual 56, 3) := by decide +kernel
theorem dX12_thieves_34 : decode cX12_thieves 34 = .ok (.ireturn, 1) := by decide +kernel
theorem dX12_thieves_35 : decode cX12_thieves 35 = .ok (.lconst 0, 1) := by decide +kernel
theorem dX12_thieves_36 : decode cX12_thieves 36 = .ok (.lstore 4, 2) := by decide +kernel
theorem dX12_thieves_38 : decode cX12_thieves 38 = .ok (.lconst 1, 1) := by decide +kernel
theorem dX12_thieves_39 : decode cX12_thieves 39 = .ok (.lstore 6, 2) := by decide +kernel
theorem dX12_thieves_41 : decode cX12_thieves 41 = .ok (.lconst 1, 1) := by decide +kernel
theorem dX12_thieves_42 : decode cX12_thieves 42 = .ok (.lstore 8, 2) := by decide +kernel
theorem dX12_thieves_44 : decode cX12_thieves 44 = .ok (.iconst 0, 1) := by decide +kernel
theorem dX12_thieves_45 : decode cX12_thieves 45 = .ok (.istore 10, 2) := by decide +kernel
theorem dX12_thieves_47 : decode cX12_thieves 47 = .ok (.iload 10, 2) := by decide +kernel
theorem dX12_thieves_49 : decode cX12_thieves 49 = .ok (.iload_n 2, 1) := by decide +kernel
theorem dX12_thieves_50 : decode cX12_thieves 50 = .ok (.if_icmp .ge 62, 3) := by decide +kernel
theorem dX12_thieves_53 : decode cX12_thieves 53 = .ok (.lload 8, 2) := by decide +kernel
theorem dX12_thieves_55 : decode cX12_thieves 55 = .ok (.bipush 10, 2) := by decide +kernel
theorem dX12_thieves_57 : decode cX12_thieves 57 = .ok (.iload_n 3, 1) := by decide +kernel
theorem dX12_thieves_58 : decode cX12_thieves 58 = .ok (.isub, 1) := by decide +kernel
theorem dX12_thieves_59 : decode cX12_thieves 59 = .ok (.i2l, 1) := by decide +kernel
theorem dX12_thieves_60 : decode cX12_thieves 60 = .ok (.lmul, 1) := by decide +kernel
theorem dX12_thieves_61 : decode cX12_thieves 61 = .ok (.lstore 8, 2) := by decide +kernel
theorem dX12_thieves_63 : decode cX12_thieves 63 = .ok (.ldc2_w 189, 3) := by decide +kernel
theorem dX12_thieves_66 : decode cX12_thieves 66 = .ok (.lload 4, 2) := by decide +kernel
theorem dX12_thieves_68 : decode cX12_thieves 68 = .ok (.lmul, 1) := by decide +kernel
theorem dX12_thieves_69 : decode cX12_thieves 69 = .ok (.lload 8, 2) := by decide +kernel
theorem dX12_thieves_71 : decode cX12_thieves 71 = .ok (.aload_n 0, 1) := by decide +kernel
theorem dX12_thieves_72 : decode cX12_thieves 72 = .ok (.iload_n 1, 1) := by decide +kernel
theorem dX12_thieves_73 : decode cX12_thieves 73 = .ok (.aload_n 0, 1) := by decide +kernel
theorem dX12_thieves_74 : decode cX12_thieves 74 = .ok (.getfield 7, 3) := by decide +kernel
theorem dX12_thieves_77 : decode cX12_thieves 77 = .ok (.bipush 14, 2) := by decide +kernel
theorem dX12_thieves_79 : decode cX12_thieves 79 = .ok (.iaload, 1) := by decide +kernel
theorem dX12_thieves_80 : decode cX12_thieves 80 = .ok (.iload 10, 2) := by decide +kernel
theorem dX12_thieves_82 : decode cX12_thieves 82 = .ok (.iadd, 1) := by decide +kernel
theorem dX12_thieves_83 : decode cX12_thieves 83 = .ok (.aload_n 0, 1) := by decide +kernel
theorem dX12_thieves_84 : decode cX12_thieves 84 = .ok (.getfield 7, 3) := by decide +kernel
theorem dX12_thieves_87 : decode cX12_thieves 87 = .ok (.bipush 16, 2) := by decide +kernel
theorem dX12_thieves_89 : decode cX12_thieves 89 = .ok (.iaload, 1) := by decide +kernel
theorem dX12_thieves_90 : decode cX12_thieves 90 = .ok (.invokevirtual 124, 3) := by decide +kernel
theorem dX12_thieves_93 : decode cX12_thieves 93 = .ok (.i2l, 1) := by decide +kernel
theorem dX12_thieves_94 : decode cX12_thieves 94 = .ok (.lmul, 1) := by decide +kernel
theorem dX12_thieves_95 : decode cX12_thieves 95 = .ok (.ladd, 1) := by decide +kernel
theorem dX12_thieves_96 : decode cX12_thieves 96 = .ok (.lstore 4, 2) := by decide +kernel
theorem dX12_thieves_98 : decode cX12_thieves 98 = .ok (.lload 6, 2) := by decide +kernel
theorem dX12_thieves_100 : decode cX12_thieves 100 = .ok (.ldc2_w 189, 3) := by decide +kernel
theorem dX12_thieves_103 : decode cX12_thieves 103 = .ok (.lmul, 1) := by decide +kernel
theorem dX12_thieves_104 : decode cX12_thieves 104 = .ok (.lstore 6, 2) := by decide +kernel
theorem dX12_thieves_106 : decode cX12_thieves 106 = .ok (.iinc 10 1, 3) := by decide +kernel
theorem dX12_thieves_109 : decode cX12_thieves 109 = .ok (.goto (-62), 3) := by decide +kernel
theorem dX12_thieves_112 : decode cX12_thieves 112 = .ok (.aload_n 0, 1) := by decide +kernel
theorem dX12_thieves_113 : decode cX12_thieves 113 = .ok (.lload 4, 2) := by decide +kernel
theorem dX12_thieves_115 : decode cX12_thieves 115 = .ok (.lload 6, 2) := by decide +kernel
theorem dX12_thieves_117 : decode cX12_thieves 117 = .ok (.invokevirtual 191, 3) := by decide +kernel
theorem dX12_thieves_120 : decode cX12_thieves 120 = .ok (.iconst 1, 1) := by decide +kernel
theorem dX12_thieves_121 : decode cX12_thieves 121 = .ok (.ireturn, 1) := by decide +kernel
set_option maxRecDepth 100000 in
set_option maxHeartbeats 4000000 in
theorem c_X12_thieves {g : Gv} {l : Launch} (p0 : Nat) (p1 : Int32) (p2 : Int32) (p3 : Int32) (w0 : Wd) (rz : Int32) (wz : Wd) (hf : f_X12_thieves p0 p1 p2 p3 w0 = some (rz, wz)) : MI g l yX12_thieves cX12_thieves 11 .int 2 47 [rV g p0, .int p1, .int p2, .int p3] w0 rz wz := by
  refine mi_of RX12 (by decide) rfl (Nat.le_of_ble_eq_true rfl) ?_
  intro X hg hll C hr h0
  subst hg; subst hll
  have t_47 : ∀ (n : Nat) (v0 : Nat) (v1 : Int32) (v2 : Int32) (v3 : Int32) (v4 : Int64) (v6 : Int64) (v8 : Int64) (v10 : Int32) (w : Wd), f_X12_thieves_47 n v0 v1 v2 v3 v4 v6 v8 v10 w = some (rz, wz) → Wk X 0 0 (QI X w0 rz wz) w [(0, rV (xg X) v0), (1, .int v1), (2, .int v2), (3, .int v3), (4, .long v4), (6, .long v6), (8, .long v8), (10, .int v10)] 47 [] := by
    intro n
    induction n with
    | zero => intro v0 v1 v2 v3 v4 v6 v8 v10 w hf; rw [f_X12_thieves_47] at hf; cases hf
    | succ n47 ih47 =>
      intro v0 v1 v2 v3 v4 v6 v8 v10 w hf
      rw [f_X12_thieves_47] at hf
      refine k_iload C dX12_thieves_47 7 rfl 49 rfl ?_
      refine k_iload_n C dX12_thieves_49 2 rfl 50 rfl ?_
      refine k_icmp_ge C dX12_thieves_50 hf 112 rfl 53 rfl (fun hf => ?_) (fun hf => ?_)
      · refine k_aload_n C dX12_thieves_112 0 rfl rfl 113 rfl ?_
        refine k_lload C dX12_thieves_113 4 rfl 115 rfl ?_
        refine k_lload C dX12_thieves_115 5 rfl 117 rfl ?_
        refine k_callV_v C ye_X12_tellPart ve_X12_191 ⟨rfl, rfl⟩ ⟨rfl, rfl⟩ dX12_thieves_117 [.long v4, .long v6] rfl rfl (Nat.le_of_ble_eq_true rfl) (c_X12_tellPart _ _ _ _) hf 120 rfl (fun w20 hf => ?_)
        refine k_iconst C dX12_thieves_120 (1) (by decide) 121 rfl ?_
        exact k_iret C hr h0 dX12_thieves_121 hf
      · refine k_lload C dX12_thieves_53 6 rfl 55 rfl ?_
        refine k_bipush C dX12_thieves_55 (10) (by decide) 57 rfl ?_
        refine k_iload_n C dX12_thieves_57 3 rfl 58 rfl ?_
        refine k_isub C dX12_thieves_58 59 rfl ?_
        refine k_i2l C dX12_thieves_59 60 rfl ?_
        refine k_lmul C dX12_thieves_60 61 rfl ?_
        refine k_nml hf (fun x22 hf => ?_)
        refine k_lstore C dX12_thieves_61 (by decide) [(8, .long x22), (0, rV (xg X) v0), (1, .int v1), (2, .int v2), (3, .int v3), (4, .long v4), (6, .long v6), (10, .int v10)] rfl 63 rfl ?_
        refine k_ldc2 C dX12_thieves_63 mcst_X12_189 66 rfl ?_
        refine k_lload C dX12_thieves_66 5 rfl 68 rfl ?_
        refine k_lmul C dX12_thieves_68 69 rfl ?_
        refine k_lload C dX12_thieves_69 0 rfl 71 rfl ?_
        refine k_aload_n C dX12_thieves_71 1 rfl rfl 72 rfl ?_
        refine k_iload_n C dX12_thieves_72 2 rfl 73 rfl ?_
        refine k_aload_n C dX12_thieves_73 1 rfl rfl 74 rfl ?_
        refine k_getR C fe_X12_7 rfl dX12_thieves_74 hf 77 rfl (fun r23 hf => ?_)
        refine k_bipush C dX12_thieves_77 (14) (by decide) 79 rfl ?_
        refine k_iald C dX12_thieves_79 hf 80 rfl (fun x24 hf => ?_)
        refine k_iload C dX12_thieves_80 7 rfl 82 rfl ?_
        refine k_iadd C dX12_thieves_82 83 rfl ?_
        refine k_aload_n C dX12_thieves_83 1 rfl rfl 84 rfl ?_
        refine k_getR C fe_X12_7 rfl dX12_thieves_84 hf 87 rfl (fun r25 hf => ?_)
        refine k_bipush C dX12_thieves_87 (16) (by decide) 89 rfl ?_
        refine k_iald C dX12_thieves_89 hf 90 rfl (fun x26 hf => ?_)
        refine k_callV_i C ye_X12_ground ve_X12_124 ⟨rfl, rfl⟩ ⟨rfl, rfl⟩ dX12_thieves_90 [.int v1, .int (x24 + v10), .int x26] rfl rfl (Nat.le_of_ble_eq_true rfl) (c_X12_ground _ _ _ _ _) hf 93 rfl (fun x28 w27 hf => ?_)
        refine k_i2l C dX12_thieves_93 94 rfl ?_
        refine k_lmul C dX12_thieves_94 95 rfl ?_
        refine k_ladd C dX12_thieves_95 96 rfl ?_
        refine k_nml hf (fun x29 hf => ?_)
        refine k_lstore C dX12_thieves_96 (by decide) [(4, .long x29), (8, .long x22), (0, rV (xg X) v0), (1, .int v1), (2, .int v2), (3, .int v3), (6, .long v6), (10, .int v10)] rfl 98 rfl ?_
        refine k_lload C dX12_thieves_98 6 rfl 100 rfl ?_
        refine k_ldc2 C dX12_thieves_100 mcst_X12_189 103 rfl ?_
        refine k_lmul C dX12_thieves_103 104 rfl ?_
        refine k_nml hf (fun x30 hf => ?_)
        refine k_lstore C dX12_thieves_104 (by decide) [(6, .long x30), (4, .long x29), (8, .long x22), (0, rV (xg X) v0), (1, .int v1), (2, .int v2), (3, .int v3), (10, .int v10)] rfl 106 rfl ?_
        refine k_iinc C dX12_thieves_106 7 rfl (by decide) (by decide) [(10, .int (v10 + (1 : Int32))), (6, .long x30), (4, .long x29), (8, .long x22), (0, rV (xg X) v0), (1, .int v1), (2, .int v2), (3, .int v3)] rfl 109 rfl ?_
        refine k_goto C dX12_thieves_109 47 rfl ?_
        refine k_sub [4, 5, 6, 7, 2, 1, 3, 0] rfl ?_
        exact ih47 _ _ _ _ _ _ _ _ w27 hf
  have t_28 : ∀ (v0 : Nat) (w : Wd), f_X12_thieves_28 v0 w = some (rz, wz) → Wk X 0 0 (QI X w0 rz wz) w [(0, rV (xg X) v0)] 28 [] := by
    intro v0 w hf
    unfold f_X12_thieves_28 at hf
    refine k_aload_n C dX12_thieves_28 0 rfl rfl 29 rfl ?_
    refine k_bipush C dX12_thieves_29 (-2) (by decide) 31 rfl ?_
    refine k_callV_i C ye_X12_refuse ve_X12_56 ⟨rfl, rfl⟩ ⟨rfl, rfl⟩ dX12_thieves_31 [.int (-2 : Int32)] rfl rfl (Nat.le_of_ble_eq_true rfl) (c_X12_refuse _ _ _) hf 34 rfl (fun x32 w31 hf => ?_)
    exact k_iret C hr h0 dX12_thieves_34 hf
  unfold f_X12_thieves at hf
  refine k_sub (lv2 := [(0, rV (xg X) p0), (1, .int p1), (2, .int p2), (3, .int p3)]) [0, 1, 2, 3] rfl ?_
  refine k_aload_n C dX12_thieves_0 0 rfl rfl 1 rfl ?_
  refine k_iload_n C dX12_thieves_1 1 rfl 2 rfl ?_
  refine k_callV_i C ye_X12_isGoods ve_X12_131 ⟨rfl, rfl⟩ ⟨rfl, rfl⟩ dX12_thieves_2 [.int p1] rfl rfl (Nat.le_of_ble_eq_true rfl) (c_X12_isGoods _ _ _) hf 5 rfl (fun x34 w33 hf => ?_)
  refine k_if_eq C dX12_thieves_5 hf 28 rfl 8 rfl (fun hf => ?_) (fun hf => ?_)
  · refine k_sub [0] rfl ?_
    exact t_28 _ w33 hf
  · refine k_iload_n C dX12_thieves_8 2 rfl 9 rfl ?_
    refine k_iconst C dX12_thieves_9 (0) (by decide) 10 rfl ?_
    refine k_bipush C dX12_thieves_10 (9) (by decide) 12 rfl ?_
    refine k_callS_i C ye_X12_in se_X12_52 ⟨rfl, rfl⟩ ⟨rfl, rfl⟩ dX12_thieves_12 [.int p2, .int (0 : Int32), .int (9 : Int32)] rfl rfl (Nat.le_of_ble_eq_true rfl) (c_X12_in _ _ _ _) hf 15 rfl (fun x36 w35 hf => ?_)
    refine k_if_eq C dX12_thieves_15 hf 28 rfl 18 rfl (fun hf => ?_) (fun hf => ?_)
    · refine k_sub [0] rfl ?_
      exact t_28 _ w35 hf
    · refine k_iload_n C dX12_thieves_18 3 rfl 19 rfl ?_
      refine k_iconst C dX12_thieves_19 (0) (by decide) 20 rfl ?_
      refine k_bipush C dX12_thieves_20 (10) (by decide) 22 rfl ?_
      refine k_callS_i C ye_X12_in se_X12_52 ⟨rfl, rfl⟩ ⟨rfl, rfl⟩ dX12_thieves_22 [.int p3, .int (0 : Int32), .int (10 : Int32)] rfl rfl (Nat.le_of_ble_eq_true rfl) (c_X12_in _ _ _ _) hf 25 rfl (fun x38 w37 hf => ?_)
      refine k_if_ne C dX12_thieves_25 hf 35 rfl 28 rfl (fun hf => ?_) (fun hf => ?_)
      · refine k_lconst C dX12_thieves_35 (0) (by decide) 36 rfl ?_
        refine k_lstore C dX12_thieves_36 (by decide) [(4, .long (0 : Int64)), (0, rV (xg X) p0), (1, .int p1), (2, .int p2), (3, .int p3)] rfl 38 rfl ?_
        refine k_lconst C dX12_thieves_38 (1) (by decide) 39 rfl ?_
        refine k_lstore C dX12_thieves_39 (by decide) [(6, .long (1 : Int64)), (4, .long (0 : Int64)), (0, rV (xg X) p0), (1, .int p1), (2, .int p2), (3, .int p3)] rfl 41 rfl ?_
        refine k_lconst C dX12_thieves_41 (1) (by decide) 42 rfl ?_
        refine k_lstore C dX12_thieves_42 (by decide) [(8, .long (1 : Int64)), (6, .long (1 : Int64)), (4, .long (0 : Int64)), (0, rV (xg X) p0), (1, .int p1), (2, .int p2), (3, .int p3)] rfl 44 rfl ?_
        refine k_iconst C dX12_thieves_44 (0) (by decide) 45 rfl ?_
        refine k_istore C dX12_thieves_45 (by decide) [(10, .int (0 : Int32)), (8, .long (1 : Int64)), (6, .long (1 : Int64)), (4, .long (0 : Int64)), (0, rV (xg X) p0), (1, .int p1), (2, .int p2), (3, .int p3)] rfl 47 rfl ?_
        refine k_sub [4, 5, 6, 7, 3, 2, 1, 0] rfl ?_
        exact t_47 4096 _ _ _ _ _ _ _ _ w37 hf
      · refine k_sub [0] rfl ?_
        exact t_28 _ w37 hf
theorem dX12_type_0 : decode cX12_type 0 = .ok (.iload_n 1, 1) := by decide +kernel
theorem dX12_type_1 : decode cX12_type 1 = .ok (.iconst 0, 1) := by decide +kernel
theorem dX12_type_2 : decode cX12_type 2 = .ok (.bipush 127, 2) := by decide +kernel
theorem dX12_type_4 : decode cX12_type 4 = .ok (.invokestatic 52, 3) := by decide +kernel
theorem dX12_type_7 : decode cX12_type 7 = .ok (.ifCond .ne 10, 3) := by decide +kernel
theorem dX12_type_10 : decode cX12_type 10 = .ok (.aload_n 0, 1) := by decide +kernel
theorem dX12_type_11 : decode cX12_type 11 = .ok (.bipush (-2), 2) := by decide +kernel
theorem dX12_type_13 : decode cX12_type 13 = .ok (.invokevirtual 56, 3) := by decide +kernel
theorem dX12_type_16 : decode cX12_type 16 = .ok (.ireturn, 1) := by decide +kernel
theorem dX12_type_17 : decode cX12_type 17 = .ok (.aload_n 0, 1) := by decide +kernel
theorem dX12_type_18 : decode cX12_type 18 = .ok (.getfield 64, 3) := by decide +kernel
theorem dX12_type_21 : decode cX12_type 21 = .ok (.sipush 150, 3) := by decide +kernel
theorem dX12_type_24 : decode cX12_type 24 = .ok (.if_icmp .ne 10, 3) := by decide +kernel
theorem dX12_type_27 : decode cX12_type 27 = .ok (.aload_n 0, 1) := by decide +kernel
theorem dX12_type_28 : decode cX12_type 28 = .ok (.bipush (-4), 2) := by decide +kernel
theorem dX12_type_30 : decode cX12_type 30 = .ok (.invokevirtual 56, 3) := by decide +kernel
theorem dX12_type_33 : decode cX12_type 33 = .ok (.ireturn, 1) := by decide +kernel
theorem dX12_type_34 : decode cX12_type 34 = .ok (.aload_n 0, 1) := by decide +kernel
theorem dX12_type_35 : decode cX12_type 35 = .ok (.getfield 24, 3) := by decide +kernel
theorem dX12_type_38 : decode cX12_type 38 = .ok (.aload_n 0, 1) := by decide +kernel
theorem dX12_type_39 : decode cX12_type 39 = .ok (.getfield 64, 3) := by decide +kernel
theorem dX12_type_42 : decode cX12_type 42 = .ok (.iload_n 1, 1) := by decide +kernel
theorem dX12_type_43 : decode cX12_type 43 = .ok (.iastore, 1) := by decide +kernel
theorem dX12_type_44 : decode cX12_type 44 = .ok (.aload_n 0, 1) := by decide +kernel
theorem dX12_type_45 : decode cX12_type 45 = .ok (.dup, 1) := by decide +kernel
theorem dX12_type_46 : decode cX12_type 46 = .ok (.getfield 64, 3) := by decide +kernel
theorem dX12_type_49 : decode cX12_type 49 = .ok (.iconst 1, 1) := by decide +kernel
theorem dX12_type_50 : decode cX12_type 50 = .ok (.iadd, 1) := by decide +kernel
theorem dX12_type_51 : decode cX12_type 51 = .ok (.putfield 64, 3) := by decide +kernel
theorem dX12_type_54 : decode cX12_type 54 = .ok (.aload_n 0, 1) := by decide +kernel
theorem dX12_type_55 : decode cX12_type 55 = .ok (.getfield 64, 3) := by decide +kernel
theorem dX12_type_58 : decode cX12_type 58 = .ok (.ireturn, 1) := by decide +kernel
set_option maxRecDepth 100000 in
set_option maxHeartbeats 4000000 in
theorem c_X12_type {g : Gv} {l : Launch} (p0 : Nat) (p1 : Int32) (w0 : Wd) (rz : Int32) (wz : Wd) (hf : f_X12_type p0 p1 w0 = some (rz, wz)) : MI g l yX12_type cX12_type 2 .int 1 22 [rV g p0, .int p1] w0 rz wz := by
  refine mi_of RX12 (by decide) rfl (Nat.le_of_ble_eq_true rfl) ?_
  intro X hg hll C hr h0
  subst hg; subst hll
  unfold f_X12_type at hf
  refine k_sub (lv2 := [(0, rV (xg X) p0), (1, .int p1)]) [0, 1] rfl ?_
  refine k_iload_n C dX12_type_0 1 rfl 1 rfl ?_
  refine k_iconst C dX12_type_1 (0) (by decide) 2 rfl ?_
  refine k_bipush C dX12_type_2 (127) (by decide) 4 rfl ?_
  refine k_callS_i C ye_X12_in se_X12_52 ⟨rfl, rfl⟩ ⟨rfl, rfl⟩ dX12_type_4 [.int p1, .int (0 : Int32), .int (127 : Int32)] rfl rfl (Nat.le_of_ble_eq_true rfl) (c_X12_in _ _ _ _) hf 7 rfl (fun x15 w14 hf => ?_)
  refine k_if_ne C dX12_type_7 hf 17 rfl 10 rfl (fun hf => ?_) (fun hf => ?_)
  · refine k_aload_n C dX12_type_17 0 rfl rfl 18 rfl ?_
    refine k_getI C fe_X12_64 rfl dX12_type_18 hf 21 rfl (fun x16 hf => ?_)
    refine k_sipush C dX12_type_21 (150) (by decide) 24 rfl ?_
    refine k_icmp_ne C dX12_type_24 hf 34 rfl 27 rfl (fun hf => ?_) (fun hf => ?_)
    · refine k_aload_n C dX12_type_34 0 rfl rfl 35 rfl ?_
      refine k_getR C fe_X12_24 rfl dX12_type_35 hf 38 rfl (fun r17 hf => ?_)
      refine k_aload_n C dX12_type_38 0 rfl rfl 39 rfl ?_
      refine k_getI C fe_X12_64 rfl dX12_type_39 hf 42 rfl (fun x18 hf => ?_)
      refine k_iload_n C dX12_type_42 1 rfl 43 rfl ?_
      refine k_iast C dX12_type_43 hf 44 rfl (fun w19 _ hf => ?_)
      refine k_aload_n C dX12_type_44 0 rfl rfl 45 rfl ?_
      refine k_dup C dX12_type_45 rfl 46 rfl ?_
      refine k_getI C fe_X12_64 rfl dX12_type_46 hf 49 rfl (fun x20 hf => ?_)
      refine k_iconst C dX12_type_49 (1) (by decide) 50 rfl ?_
      refine k_iadd C dX12_type_50 51 rfl ?_
      refine k_putI C fe_X12_64 rfl rfl dX12_type_51 hf 54 rfl (fun w21 _ hf => ?_)
      refine k_aload_n C dX12_type_54 0 rfl rfl 55 rfl ?_
      refine k_getI C fe_X12_64 rfl dX12_type_55 hf 58 rfl (fun x22 hf => ?_)
      exact k_iret C hr h0 dX12_type_58 hf
    · refine k_aload_n C dX12_type_27 0 rfl rfl 28 rfl ?_
      refine k_bipush C dX12_type_28 (-4) (by decide) 30 rfl ?_
      refine k_callV_i C ye_X12_refuse ve_X12_56 ⟨rfl, rfl⟩ ⟨rfl, rfl⟩ dX12_type_30 [.int (-4 : Int32)] rfl rfl (Nat.le_of_ble_eq_true rfl) (c_X12_refuse _ _ _) hf 33 rfl (fun x24 w23 hf => ?_)
      exact k_iret C hr h0 dX12_type_33 hf
  · refine k_aload_n C dX12_type_10 0 rfl rfl 11 rfl ?_
    refine k_bipush C dX12_type_11 (-2) (by decide) 13 rfl ?_
    refine k_callV_i C ye_X12_refuse ve_X12_56 ⟨rfl, rfl⟩ ⟨rfl, rfl⟩ dX12_type_13 [.int (-2 : Int32)] rfl rfl (Nat.le_of_ble_eq_true rfl) (c_X12_refuse _ _ _) hf 16 rfl (fun x26 w25 hf => ?_)
    exact k_iret C hr h0 dX12_type_16 hf
theorem dX12_undo_0 : decode cX12_undo 0 = .ok (.aload_n 0, 1) := by decide +kernel
theorem dX12_undo_1 : decode cX12_undo 1 = .ok (.getfield 7, 3) := by decide +kernel
theorem dX12_undo_4 : decode cX12_undo 4 = .ok (.bipush 76, 2) := by decide +kernel
theorem dX12_undo_6 : decode cX12_undo 6 = .ok (.iaload, 1) := by decide +kernel
theorem dX12_undo_7 : decode cX12_undo 7 = .ok (.ifCond .ne 10, 3) := by decide +kernel
theorem dX12_undo_10 : decode cX12_undo 10 = .ok (.aload_n 0, 1) := by decide +kernel
theorem dX12_undo_11 : decode cX12_undo 11 = .ok (.bipush (-3), 2) := by decide +kernel
theorem dX12_undo_13 : decode cX12_undo 13 = .ok (.invokevirtual 56, 3) := by decide +kernel
theorem dX12_undo_16 : decode cX12_undo 16 = .ok (.ireturn, 1) := by decide +kernel
theorem dX12_undo_17 : decode cX12_undo 17 = .ok (.aload_n 0, 1) := by decide +kernel
theorem dX12_undo_18 : decode cX12_undo 18 = .ok (.getfield 7, 3) := by decide +kernel
theorem dX12_undo_21 : decode cX12_undo 21 = .ok (.bipush 76, 2) := by decide +kernel
theorem dX12_undo_23 : decode cX12_undo 23 = .ok (.dup2, 1) := by decide +kernel
theorem dX12_undo_24 : decode cX12_undo 24 = .ok (.iaload, 1) := by decide +kernel
theorem dX12_undo_25 : decode cX12_undo 25 = .ok (.iconst 1, 1) := by decide +kernel
theorem dX12_undo_26 : decode cX12_undo 26 = .ok (.isub, 1) := by decide +kernel
theorem dX12_undo_27 : decode cX12_undo 27 = .ok (.iastore, 1) := by decide +kernel
theorem dX12_undo_28 : decode cX12_undo 28 = .ok (.iconst 0, 1) := by decide +kernel
theorem dX12_undo_29 : decode cX12_undo 29 = .ok (.istore_n 1, 1) := by decide +kernel
theorem dX12_undo_30 : decode cX12_undo 30 = .ok (.iload_n 1, 1) := by decide +kernel
theorem dX12_undo_31 : decode cX12_undo 31 = .ok (.bipush 17, 2) := by decide +kernel
theorem dX12_undo_33 : decode cX12_undo 33 = .ok (.if_icmp .ge 35, 3) := by decide +kernel
theorem dX12_undo_36 : decode cX12_undo 36 = .ok (.aload_n 0, 1) := by decide +kernel
theorem dX12_undo_37 : decode cX12_undo 37 = .ok (.getfield 7, 3) := by decide +kernel
theorem dX12_undo_40 : decode cX12_undo 40 = .ok (.iload_n 1, 1) := by decide +kernel
theorem dX12_undo_41 : decode cX12_undo 41 = .ok (.aload_n 0, 1) := by decide +kernel
theorem dX12_undo_42 : decode cX12_undo 42 = .ok (.getfield 7, 3) := by decide +kernel
theorem dX12_undo_45 : decode cX12_undo 45 = .ok (.bipush 77, 2) := by decide +kernel
theorem dX12_undo_47 : decode cX12_undo 47 = .ok (.bipush 17, 2) := by decide +kernel
theorem dX12_undo_49 : decode cX12_undo 49 = .ok (.aload_n 0, 1) := by decide +kernel
theorem dX12_undo_50 : decode cX12_undo 50 = .ok (.getfield 7, 3) := by decide +kernel
theorem dX12_undo_53 : decode cX12_undo 53 = .ok (.bipush 76, 2) := by decide +kernel
theorem dX12_undo_55 : decode cX12_undo 55 = .ok (.iaload, 1) := by decide +kernel
theorem dX12_undo_56 : decode cX12_undo 56 = .ok (.imul, 1) := by decide +kernel
theorem dX12_undo_57 : decode cX12_undo 57 = .ok (.iadd, 1) := by decide +kernel
theorem dX12_undo_58 : decode cX12_undo 58 = .ok (.iload_n 1, 1) := by decide +kernel
theorem dX12_undo_59 : decode cX12_undo 59 = .ok (.iadd, 1) := by decide +kernel
theorem dX12_undo_60 : decode cX12_undo 60 = .ok (.iaload, 1) := by decide +kernel
theorem dX12_undo_61 : decode cX12_undo 61 = .ok (.iastore, 1) := by decide +kernel
theorem dX12_undo_62 : decode cX12_undo 62 = .ok (.iinc 1 1, 3) := by decide +kernel
theorem dX12_undo_65 : decode cX12_undo 65 = .ok (.goto (-35), 3) := by decide +kernel
theorem dX12_undo_68 : decode cX12_undo 68 = .ok (.aload_n 0, 1) := by decide +kernel
theorem dX12_undo_69 : decode cX12_undo 69 = .ok (.getfield 7, 3) := by decide +kernel
theorem dX12_undo_72 : decode cX12_undo 72 = .ok (.bipush 14, 2) := by decide +kernel
theorem dX12_undo_74 : decode cX12_undo 74 = .ok (.iaload, 1) := by decide +kernel
theorem dX12_undo_75 : decode cX12_undo 75 = .ok (.ireturn, 1) := by decide +kernel
set_option maxRecDepth 100000 in
set_option maxHeartbeats 4000000 in
theorem c_X12_undo {g : Gv} {l : Launch} (p0 : Nat) (w0 : Wd) (rz : Int32) (wz : Wd) (hf : f_X12_undo p0 w0 = some (rz, wz)) : MI g l yX12_undo cX12_undo 2 .int 1 21 [rV g p0] w0 rz wz := by
  refine mi_of RX12 (by decide) rfl (Nat.le_of_ble_eq_true rfl) ?_
  intro X hg hll C hr h0
  subst hg; subst hll
  have t_30 : ∀ (n : Nat) (v0 : Nat) (v1 : Int32) (w : Wd), f_X12_undo_30 n v0 v1 w = some (rz, wz) → Wk X 0 0 (QI X w0 rz wz) w [(0, rV (xg X) v0), (1, .int v1)] 30 [] := by
    intro n
    induction n with
    | zero => intro v0 v1 w hf; rw [f_X12_undo_30] at hf; cases hf
    | succ n30 ih30 =>
      intro v0 v1 w hf
      rw [f_X12_undo_30] at hf
      refine k_iload_n C dX12_undo_30 1 rfl 31 rfl ?_
      refine k_bipush C dX12_undo_31 (17) (by decide) 33 rfl ?_
      refine k_icmp_ge C dX12_undo_33 hf 68 rfl 36 rfl (fun hf => ?_) (fun hf => ?_)
      · refine k_aload_n C dX12_undo_68 0 rfl rfl 69 rfl ?_
        refine k_getR C fe_X12_7 rfl dX12_undo_69 hf 72 rfl (fun r16 hf => ?_)
        refine k_bipush C dX12_undo_72 (14) (by decide) 74 rfl ?_
        refine k_iald C dX12_undo_74 hf 75 rfl (fun x17 hf => ?_)
        exact k_iret C hr h0 dX12_undo_75 hf
      · refine k_aload_n C dX12_undo_36 0 rfl rfl 37 rfl ?_
        refine k_getR C fe_X12_7 rfl dX12_undo_37 hf 40 rfl (fun r18 hf => ?_)
        refine k_iload_n C dX12_undo_40 1 rfl 41 rfl ?_
        refine k_aload_n C dX12_undo_41 0 rfl rfl 42 rfl ?_
        refine k_getR C fe_X12_7 rfl dX12_undo_42 hf 45 rfl (fun r19 hf => ?_)
        refine k_bipush C dX12_undo_45 (77) (by decide) 47 rfl ?_
        refine k_bipush C dX12_undo_47 (17) (by decide) 49 rfl ?_
        refine k_aload_n C dX12_undo_49 0 rfl rfl 50 rfl ?_
        refine k_getR C fe_X12_7 rfl dX12_undo_50 hf 53 rfl (fun r20 hf => ?_)
        refine k_bipush C dX12_undo_53 (76) (by decide) 55 rfl ?_
        refine k_iald C dX12_undo_55 hf 56 rfl (fun x21 hf => ?_)
        refine k_imul C dX12_undo_56 57 rfl ?_
        refine k_iadd C dX12_undo_57 58 rfl ?_
        refine k_iload_n C dX12_undo_58 1 rfl 59 rfl ?_
        refine k_iadd C dX12_undo_59 60 rfl ?_
        refine k_iald C dX12_undo_60 hf 61 rfl (fun x22 hf => ?_)
        refine k_iast C dX12_undo_61 hf 62 rfl (fun w23 _ hf => ?_)
        refine k_iinc C dX12_undo_62 1 rfl (by decide) (by decide) [(1, .int (v1 + (1 : Int32))), (0, rV (xg X) v0)] rfl 65 rfl ?_
        refine k_goto C dX12_undo_65 30 rfl ?_
        refine k_sub [1, 0] rfl ?_
        exact ih30 _ _ w23 hf
  unfold f_X12_undo at hf
  refine k_sub (lv2 := [(0, rV (xg X) p0)]) [0] rfl ?_
  refine k_aload_n C dX12_undo_0 0 rfl rfl 1 rfl ?_
  refine k_getR C fe_X12_7 rfl dX12_undo_1 hf 4 rfl (fun r24 hf => ?_)
  refine k_bipush C dX12_undo_4 (76) (by decide) 6 rfl ?_
  refine k_iald C dX12_undo_6 hf 7 rfl (fun x25 hf => ?_)
  refine k_if_ne C dX12_undo_7 hf 17 rfl 10 rfl (fun hf => ?_) (fun hf => ?_)
  · refine k_aload_n C dX12_undo_17 0 rfl rfl 18 rfl ?_
    refine k_getR C fe_X12_7 rfl dX12_undo_18 hf 21 rfl (fun r26 hf => ?_)
    refine k_bipush C dX12_undo_21 (76) (by decide) 23 rfl ?_
    refine k_dup2 C dX12_undo_23 rfl rfl 24 rfl ?_
    refine k_iald C dX12_undo_24 hf 25 rfl (fun x27 hf => ?_)
    refine k_iconst C dX12_undo_25 (1) (by decide) 26 rfl ?_
    refine k_isub C dX12_undo_26 27 rfl ?_
    refine k_iast C dX12_undo_27 hf 28 rfl (fun w28 _ hf => ?_)
    refine k_iconst C dX12_undo_28 (0) (by decide) 29 rfl ?_
    refine k_istore_n C dX12_undo_29 rfl (by decide) [(1, .int (0 : Int32)), (0, rV (xg X) p0)] rfl 30 rfl ?_
    refine k_sub [1, 0] rfl ?_
    exact t_30 4096 _ _ w28 hf
  · refine k_aload_n C dX12_undo_10 0 rfl rfl 11 rfl ?_
    refine k_bipush C dX12_undo_11 (-3) (by decide) 13 rfl ?_
    refine k_callV_i C ye_X12_refuse ve_X12_56 ⟨rfl, rfl⟩ ⟨rfl, rfl⟩ dX12_undo_13 [.int (-3 : Int32)] rfl rfl (Nat.le_of_ble_eq_true rfl) (c_X12_refuse _ _ _) hf 16 rfl (fun x30 w29 hf => ?_)
    exact k_iret C hr h0 dX12_undo_16 hf
theorem dX12_word_0 : decode cX12_word 0 = .ok (.iload_n 1, 1) := by decide +kernel
theorem dX12_word_1 : decode cX12_word 1 = .ok (.iconst 0, 1) := by decide +kernel
theorem dX12_word_2 : decode cX12_word 2 = .ok (.bipush 31, 2) := by decide +kernel
theorem dX12_word_4 : decode cX12_word 4 = .ok (.invokestatic 52, 3) := by decide +kernel
theorem dX12_word_7 : decode cX12_word 7 = .ok (.ifCond .ne 10, 3) := by decide +kernel
theorem dX12_word_10 : decode cX12_word 10 = .ok (.aload_n 0, 1) := by decide +kernel
theorem dX12_word_11 : decode cX12_word 11 = .ok (.bipush (-2), 2) := by decide +kernel
theorem dX12_word_13 : decode cX12_word 13 = .ok (.invokevirtual 56, 3) := by decide +kernel
theorem dX12_word_16 : decode cX12_word 16 = .ok (.ireturn, 1) := by decide +kernel
theorem dX12_word_17 : decode cX12_word 17 = .ok (.aload_n 0, 1) := by decide +kernel
theorem dX12_word_18 : decode cX12_word 18 = .ok (.getfield 7, 3) := by decide +kernel
theorem dX12_word_21 : decode cX12_word 21 = .ok (.bipush 18, 2) := by decide +kernel
theorem dX12_word_23 : decode cX12_word 23 = .ok (.iload_n 1, 1) := by decide +kernel
theorem dX12_word_24 : decode cX12_word 24 = .ok (.iastore, 1) := by decide +kernel
theorem dX12_word_25 : decode cX12_word 25 = .ok (.iconst 1, 1) := by decide +kernel
theorem dX12_word_26 : decode cX12_word 26 = .ok (.ireturn, 1) := by decide +kernel
set_option maxRecDepth 100000 in
set_option maxHeartbeats 4000000 in
theorem c_X12_word {g : Gv} {l : Launch} (p0 : Nat) (p1 : Int32) (w0 : Wd) (rz : Int32) (wz : Wd) (hf : f_X12_word p0 p1 w0 = some (rz, wz)) : MI g l yX12_word cX12_word 2 .int 1 22 [rV g p0, .int p1] w0 rz wz := by
  refine mi_of RX12 (by decide) rfl (Nat.le_of_ble_eq_true rfl) ?_
  intro X hg hll C hr h0
  subst hg; subst hll
  unfold f_X12_word at hf
  refine k_sub (lv2 := [(0, rV (xg X) p0), (1, .int p1)]) [0, 1] rfl ?_
  refine k_iload_n C dX12_word_0 1 rfl 1 rfl ?_
  refine k_iconst C dX12_word_1 (0) (by decide) 2 rfl ?_
  refine k_bipush C dX12_word_2 (31) (by decide) 4 rfl ?_
  refine k_callS_i C ye_X12_in se_X12_52 ⟨rfl, rfl⟩ ⟨rfl, rfl⟩ dX12_word_4 [.int p1, .int (0 : Int32), .int (31 : Int32)] rfl rfl (Nat.le_of_ble_eq_true rfl) (c_X12_in _ _ _ _) hf 7 rfl (fun x8 w7 hf => ?_)
  refine k_if_ne C dX12_word_7 hf 17 rfl 10 rfl (fun hf => ?_) (fun hf => ?_)
  · refine k_aload_n C dX12_word_17 0 rfl rfl 18 rfl ?_
    refine k_getR C fe_X12_7 rfl dX12_word_18 hf 21 rfl (fun r9 hf => ?_)
    refine k_bipush C dX12_word_21 (18) (by decide) 23 rfl ?_
    refine k_iload_n C dX12_word_23 1 rfl 24 rfl ?_
    refine k_iast C dX12_word_24 hf 25 rfl (fun w10 _ hf => ?_)
    refine k_iconst C dX12_word_25 (1) (by decide) 26 rfl ?_
    exact k_iret C hr h0 dX12_word_26 hf
  · refine k_aload_n C dX12_word_10 0 rfl rfl 11 rfl ?_
    refine k_bipush C dX12_word_11 (-2) (by decide) 13 rfl ?_
    refine k_callV_i C ye_X12_refuse ve_X12_56 ⟨rfl, rfl⟩ ⟨rfl, rfl⟩ dX12_word_13 [.int (-2 : Int32)] rfl rfl (Nat.le_of_ble_eq_true rfl) (c_X12_refuse _ _ _) hf 16 rfl (fun x12 w11 hf => ?_)
    exact k_iret C hr h0 dX12_word_16 hf
theorem dX12_words_0 : decode cX12_words 0 = .ok (.iload_n 1, 1) := by decide +kernel
theorem dX12_words_1 : decode cX12_words 1 = .ok (.iconst 0, 1) := by decide +kernel
theorem dX12_words_2 : decode cX12_words 2 = .ok (.iconst 1, 1) := by decide +kernel
theorem dX12_words_3 : decode cX12_words 3 = .ok (.invokestatic 52, 3) := by decide +kernel
theorem dX12_words_6 : decode cX12_words 6 = .ok (.ifCond .ne 10, 3) := by decide +kernel
theorem dX12_words_9 : decode cX12_words 9 = .ok (.aload_n 0, 1) := by decide +kernel
theorem dX12_words_10 : decode cX12_words 10 = .ok (.bipush (-2), 2) := by decide +kernel
theorem dX12_words_12 : decode cX12_words 12 = .ok (.invokevirtual 56, 3) := by decide +kernel
theorem dX12_words_15 : decode cX12_words 15 = .ok (.ireturn, 1) := by decide +kernel
theorem dX12_words_16 : decode cX12_words 16 = .ok (.iconst 0, 1) := by decide +kernel
theorem dX12_words_17 : decode cX12_words 17 = .ok (.istore_n 2, 1) := by decide +kernel
theorem dX12_words_18 : decode cX12_words 18 = .ok (.iconst (-1), 1) := by decide +kernel
theorem dX12_words_19 : decode cX12_words 19 = .ok (.istore_n 3, 1) := by decide +kernel
theorem dX12_words_20 : decode cX12_words 20 = .ok (.bipush 31, 2) := by decide +kernel
theorem dX12_words_22 : decode cX12_words 22 = .ok (.istore 4, 2) := by decide +kernel
theorem dX12_words_24 : decode cX12_words 24 = .ok (.iload 4, 2) := by decide +kernel
theorem dX12_words_26 : decode cX12_words 26 = .ok (.ifCond .lt 42, 3) := by decide +kernel
theorem dX12_words_29 : decode cX12_words 29 = .ok (.iload_n 2, 1) := by decide +kernel
theorem dX12_words_30 : decode cX12_words 30 = .ok (.aload_n 0, 1) := by decide +kernel
theorem dX12_words_31 : decode cX12_words 31 = .ok (.iload 4, 2) := by decide +kernel
theorem dX12_words_33 : decode cX12_words 33 = .ok (.invokevirtual 165, 3) := by decide +kernel
theorem dX12_words_36 : decode cX12_words 36 = .ok (.ifCond .eq 7, 3) := by decide +kernel
theorem dX12_words_39 : decode cX12_words 39 = .ok (.iconst 1, 1) := by decide +kernel
theorem dX12_words_40 : decode cX12_words 40 = .ok (.goto 4, 3) := by decide +kernel
theorem dX12_words_43 : decode cX12_words 43 = .ok (.iconst 0, 1) := by decide +kernel
theorem dX12_words_44 : decode cX12_words 44 = .ok (.iadd, 1) := by decide +kernel
theorem dX12_words_45 : decode cX12_words 45 = .ok (.istore_n 2, 1) := by decide +kernel
theorem dX12_words_46 : decode cX12_words 46 = .ok (.aload_n 0, 1) := by decide +kernel
theorem dX12_words_47 : decode cX12_words 47 = .ok (.iload 4, 2) := by decide +kernel
theorem dX12_words_49 : decode cX12_words 49 = .ok (.invokevirtual 165, 3) := by decide +kernel
theorem dX12_words_52 : decode cX12_words 52 = .ok (.ifCond .eq 8, 3) := by decide +kernel
theorem dX12_words_55 : decode cX12_words 55 = .ok (.iload 4, 2) := by decide +kernel
theorem dX12_words_57 : decode cX12_words 57 = .ok (.goto 4, 3) := by decide +kernel
theorem dX12_words_60 : decode cX12_words 60 = .ok (.iload_n 3, 1) := by decide +kernel
theorem dX12_words_61 : decode cX12_words 61 = .ok (.istore_n 3, 1) := by decide +kernel
theorem dX12_words_62 : decode cX12_words 62 = .ok (.iinc 4 (-1), 3) := by decide +kernel
theorem dX12_words_65 : decode cX12_words 65 = .ok (.goto (-41), 3) := by decide +kernel
theorem dX12_words_68 : decode cX12_words 68 = .ok (.iload_n 1, 1) := by decide +kernel
theorem dX12_words_69 : decode cX12_words 69 = .ok (.ifCond .ne 7, 3) := by decide +kernel
theorem dX12_words_72 : decode cX12_words 72 = .ok (.iload_n 2, 1) := by decide +kernel
theorem dX12_words_73 : decode cX12_words 73 = .ok (.goto 4, 3) := by decide +kernel
theorem dX12_words_76 : decode cX12_words 76 = .ok (.iload_n 3, 1) := by decide +kernel
theorem dX12_words_77 : decode cX12_words 77 = .ok (.ireturn, 1) := by decide +kernel
set_option maxRecDepth 100000 in
set_option maxHeartbeats 4000000 in
theorem c_X12_words {g : Gv} {l : Launch} (p0 : Nat) (p1 : Int32) (w0 : Wd) (rz : Int32) (wz : Wd) (hf : f_X12_words p0 p1 w0 = some (rz, wz)) : MI g l yX12_words cX12_words 5 .int 3 67 [rV g p0, .int p1] w0 rz wz := by
  refine mi_of RX12 (by decide) rfl (Nat.le_of_ble_eq_true rfl) ?_
  intro X hg hll C hr h0
  subst hg; subst hll
  have t_77 : ∀ (s0 : Int32) (w : Wd), f_X12_words_77 s0 w = some (rz, wz) → Wk X 0 0 (QI X w0 rz wz) w [] 77 [.int s0] := by
    intro s0 w hf
    unfold f_X12_words_77 at hf
    exact k_iret C hr h0 dX12_words_77 hf
  have t_24 : ∀ (n : Nat) (v0 : Nat) (v1 : Int32) (v2 : Int32) (v3 : Int32) (v4 : Int32) (w : Wd), f_X12_words_24 n v0 v1 v2 v3 v4 w = some (rz, wz) → Wk X 0 0 (QI X w0 rz wz) w [(0, rV (xg X) v0), (1, .int v1), (2, .int v2), (3, .int v3), (4, .int v4)] 24 [] := by
    intro n
    induction n with
    | zero => intro v0 v1 v2 v3 v4 w hf; rw [f_X12_words_24] at hf; cases hf
    | succ n24 ih24 =>
      have t_61 : ∀ (v0 : Nat) (v1 : Int32) (v2 : Int32) (v4 : Int32) (s0 : Int32) (w : Wd), f_X12_words_61 (f_X12_words_24 n24) v0 v1 v2 v4 s0 w = some (rz, wz) → Wk X 0 0 (QI X w0 rz wz) w [(0, rV (xg X) v0), (1, .int v1), (2, .int v2), (4, .int v4)] 61 [.int s0] := by
        intro v0 v1 v2 v4 s0 w hf
        unfold f_X12_words_61 at hf
        refine k_istore_n C dX12_words_61 rfl (by decide) [(3, .int s0), (0, rV (xg X) v0), (1, .int v1), (2, .int v2), (4, .int v4)] rfl 62 rfl ?_
        refine k_iinc C dX12_words_62 4 rfl (by decide) (by decide) [(4, .int (v4 + (-1 : Int32))), (3, .int s0), (0, rV (xg X) v0), (1, .int v1), (2, .int v2)] rfl 65 rfl ?_
        refine k_goto C dX12_words_65 24 rfl ?_
        refine k_sub [2, 3, 4, 1, 0] rfl ?_
        exact ih24 _ _ _ _ _ w hf
      have t_44 : ∀ (v0 : Nat) (v1 : Int32) (v3 : Int32) (v4 : Int32) (s0 : Int32) (s1 : Int32) (w : Wd), f_X12_words_44 (f_X12_words_24 n24) v0 v1 v3 v4 s0 s1 w = some (rz, wz) → Wk X 0 0 (QI X w0 rz wz) w [(0, rV (xg X) v0), (1, .int v1), (3, .int v3), (4, .int v4)] 44 [.int s0, .int s1] := by
        intro v0 v1 v3 v4 s0 s1 w hf
        unfold f_X12_words_44 at hf
        refine k_iadd C dX12_words_44 45 rfl ?_
        refine k_nmi hf (fun x10 hf => ?_)
        refine k_istore_n C dX12_words_45 rfl (by decide) [(2, .int x10), (0, rV (xg X) v0), (1, .int v1), (3, .int v3), (4, .int v4)] rfl 46 rfl ?_
        refine k_aload_n C dX12_words_46 1 rfl rfl 47 rfl ?_
        refine k_iload C dX12_words_47 4 rfl 49 rfl ?_
        refine k_callV_i C ye_X12_mayBe ve_X12_165 ⟨rfl, rfl⟩ ⟨rfl, rfl⟩ dX12_words_49 [.int v4] rfl rfl (Nat.le_of_ble_eq_true rfl) (c_X12_mayBe _ _ _) hf 52 rfl (fun x12 w11 hf => ?_)
        refine k_if_eq C dX12_words_52 hf 60 rfl 55 rfl (fun hf => ?_) (fun hf => ?_)
        · refine k_iload_n C dX12_words_60 3 rfl 61 rfl ?_
          refine k_sub [1, 2, 0, 4] rfl ?_
          exact t_61 _ _ _ _ _ w11 hf
        · refine k_iload C dX12_words_55 4 rfl 57 rfl ?_
          refine k_goto C dX12_words_57 61 rfl ?_
          refine k_sub [1, 2, 0, 4] rfl ?_
          exact t_61 _ _ _ _ _ w11 hf
      intro v0 v1 v2 v3 v4 w hf
      rw [f_X12_words_24] at hf
      refine k_iload C dX12_words_24 4 rfl 26 rfl ?_
      refine k_if_lt C dX12_words_26 hf 68 rfl 29 rfl (fun hf => ?_) (fun hf => ?_)
      · refine k_iload_n C dX12_words_68 1 rfl 69 rfl ?_
        refine k_if_ne C dX12_words_69 hf 76 rfl 72 rfl (fun hf => ?_) (fun hf => ?_)
        · refine k_iload_n C dX12_words_76 3 rfl 77 rfl ?_
          refine k_sub [] rfl ?_
          exact t_77 _ w hf
        · refine k_iload_n C dX12_words_72 2 rfl 73 rfl ?_
          refine k_goto C dX12_words_73 77 rfl ?_
          refine k_sub [] rfl ?_
          exact t_77 _ w hf
      · refine k_iload_n C dX12_words_29 2 rfl 30 rfl ?_
        refine k_aload_n C dX12_words_30 0 rfl rfl 31 rfl ?_
        refine k_iload C dX12_words_31 4 rfl 33 rfl ?_
        refine k_callV_i C ye_X12_mayBe ve_X12_165 ⟨rfl, rfl⟩ ⟨rfl, rfl⟩ dX12_words_33 [.int v4] rfl rfl (Nat.le_of_ble_eq_true rfl) (c_X12_mayBe _ _ _) hf 36 rfl (fun x14 w13 hf => ?_)
        refine k_if_eq C dX12_words_36 hf 43 rfl 39 rfl (fun hf => ?_) (fun hf => ?_)
        · refine k_iconst C dX12_words_43 (0) (by decide) 44 rfl ?_
          refine k_sub [0, 1, 3, 4] rfl ?_
          exact t_44 _ _ _ _ _ _ w13 hf
        · refine k_iconst C dX12_words_39 (1) (by decide) 40 rfl ?_
          refine k_goto C dX12_words_40 44 rfl ?_
          refine k_sub [0, 1, 3, 4] rfl ?_
          exact t_44 _ _ _ _ _ _ w13 hf
  unfold f_X12_words at hf
  refine k_sub (lv2 := [(0, rV (xg X) p0), (1, .int p1)]) [0, 1] rfl ?_
  refine k_iload_n C dX12_words_0 1 rfl 1 rfl ?_
  refine k_iconst C dX12_words_1 (0) (by decide) 2 rfl ?_
  refine k_iconst C dX12_words_2 (1) (by decide) 3 rfl ?_
  refine k_callS_i C ye_X12_in se_X12_52 ⟨rfl, rfl⟩ ⟨rfl, rfl⟩ dX12_words_3 [.int p1, .int (0 : Int32), .int (1 : Int32)] rfl rfl (Nat.le_of_ble_eq_true rfl) (c_X12_in _ _ _ _) hf 6 rfl (fun x16 w15 hf => ?_)
  refine k_if_ne C dX12_words_6 hf 16 rfl 9 rfl (fun hf => ?_) (fun hf => ?_)
  · refine k_iconst C dX12_words_16 (0) (by decide) 17 rfl ?_
    refine k_istore_n C dX12_words_17 rfl (by decide) [(2, .int (0 : Int32)), (0, rV (xg X) p0), (1, .int p1)] rfl 18 rfl ?_
    refine k_iconst C dX12_words_18 (-1) (by decide) 19 rfl ?_
    refine k_istore_n C dX12_words_19 rfl (by decide) [(3, .int (-1 : Int32)), (2, .int (0 : Int32)), (0, rV (xg X) p0), (1, .int p1)] rfl 20 rfl ?_
    refine k_bipush C dX12_words_20 (31) (by decide) 22 rfl ?_
    refine k_istore C dX12_words_22 (by decide) [(4, .int (31 : Int32)), (3, .int (-1 : Int32)), (2, .int (0 : Int32)), (0, rV (xg X) p0), (1, .int p1)] rfl 24 rfl ?_
    refine k_sub [3, 4, 2, 1, 0] rfl ?_
    exact t_24 4096 _ _ _ _ _ w15 hf
  · refine k_aload_n C dX12_words_9 0 rfl rfl 10 rfl ?_
    refine k_bipush C dX12_words_10 (-2) (by decide) 12 rfl ?_
    refine k_callV_i C ye_X12_refuse ve_X12_56 ⟨rfl, rfl⟩ ⟨rfl, rfl⟩ dX12_words_12 [.int (-2 : Int32)] rfl rfl (Nat.le_of_ble_eq_true rfl) (c_X12_refuse _ _ _) hf 15 rfl (fun x18 w17 hf => ?_)
    exact k_iret C hr h0 dX12_words_15 hf
