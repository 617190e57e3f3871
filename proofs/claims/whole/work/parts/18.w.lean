theorem dX12_note_0 : decode cX12_note 0 = .ok (.aload_n 0, 1) := by decide +kernel
theorem dX12_note_1 : decode cX12_note 1 = .ok (.iload_n 1, 1) := by decide +kernel
theorem dX12_note_2 : decode cX12_note 2 = .ok (.invokevirtual 131, 3) := by decide +kernel
theorem dX12_note_5 : decode cX12_note 5 = .ok (.ifCond .eq 34, 3) := by decide +kernel
theorem dX12_note_8 : decode cX12_note 8 = .ok (.iload_n 2, 1) := by decide +kernel
theorem dX12_note_9 : decode cX12_note 9 = .ok (.iconst 0, 1) := by decide +kernel
theorem dX12_note_10 : decode cX12_note 10 = .ok (.bipush 99, 2) := by decide +kernel
theorem dX12_note_12 : decode cX12_note 12 = .ok (.invokestatic 52, 3) := by decide +kernel
theorem dX12_note_15 : decode cX12_note 15 = .ok (.ifCond .eq 24, 3) := by decide +kernel
theorem dX12_note_18 : decode cX12_note 18 = .ok (.iload_n 3, 1) := by decide +kernel
theorem dX12_note_19 : decode cX12_note 19 = .ok (.iconst 0, 1) := by decide +kernel
theorem dX12_note_20 : decode cX12_note 20 = .ok (.bipush 9, 2) := by decide +kernel
theorem dX12_note_22 : decode cX12_note 22 = .ok (.invokestatic 52, 3) := by decide +kernel
theorem dX12_note_25 : decode cX12_note 25 = .ok (.ifCond .eq 14, 3) := by decide +kernel
theorem dX12_note_28 : decode cX12_note 28 = .ok (.iload 4, 2) := by decide +kernel
theorem dX12_note_30 : decode cX12_note 30 = .ok (.iconst 0, 1) := by decide +kernel
theorem dX12_note_31 : decode cX12_note 31 = .ok (.bipush 20, 2) := by decide +kernel
theorem dX12_note_33 : decode cX12_note 33 = .ok (.invokestatic 52, 3) := by decide +kernel
theorem dX12_note_36 : decode cX12_note 36 = .ok (.ifCond .ne 10, 3) := by decide +kernel
theorem dX12_note_39 : decode cX12_note 39 = .ok (.aload_n 0, 1) := by decide +kernel
theorem dX12_note_40 : decode cX12_note 40 = .ok (.bipush (-2), 2) := by decide +kernel
theorem dX12_note_42 : decode cX12_note 42 = .ok (.invokevirtual 56, 3) := by decide +kernel
theorem dX12_note_45 : decode cX12_note 45 = .ok (.ireturn, 1) := by decide +kernel
theorem dX12_note_46 : decode cX12_note 46 = .ok (.aload_n 0, 1) := by decide +kernel
theorem dX12_note_47 : decode cX12_note 47 = .ok (.getfield 7, 3) := by decide +kernel
theorem dX12_note_50 : decode cX12_note 50 = .ok (.bipush 51, 2) := by decide +kernel
theorem dX12_note_52 : decode cX12_note 52 = .ok (.iaload, 1) := by decide +kernel
theorem dX12_note_53 : decode cX12_note 53 = .ok (.bipush 6, 2) := by decide +kernel
theorem dX12_note_55 : decode cX12_note 55 = .ok (.if_icmp .ne 10, 3) := by decide +kernel
theorem dX12_note_58 : decode cX12_note 58 = .ok (.aload_n 0, 1) := by decide +kernel
theorem dX12_note_59 : decode cX12_note 59 = .ok (.bipush (-4), 2) := by decide +kernel
theorem dX12_note_61 : decode cX12_note 61 = .ok (.invokevirtual 56, 3) := by decide +kernel
theorem dX12_note_64 : decode cX12_note 64 = .ok (.ireturn, 1) := by decide +kernel
theorem dX12_note_65 : decode cX12_note 65 = .ok (.bipush 52, 2) := by decide +kernel
theorem dX12_note_67 : decode cX12_note 67 = .ok (.iconst 4, 1) := by decide +kernel
theorem dX12_note_68 : decode cX12_note 68 = .ok (.aload_n 0, 1) := by decide +kernel
theorem dX12_note_69 : decode cX12_note 69 = .ok (.getfield 7, 3) := by decide +kernel
theorem dX12_note_72 : decode cX12_note 72 = .ok (.bipush 51, 2) := by decide +kernel
theorem dX12_note_74 : decode cX12_note 74 = .ok (.iaload, 1) := by decide +kernel
theorem dX12_note_75 : decode cX12_note 75 = .ok (.imul, 1) := by decide +kernel
theorem dX12_note_76 : decode cX12_note 76 = .ok (.iadd, 1) := by decide +kernel
theorem dX12_note_77 : decode cX12_note 77 = .ok (.istore 5, 2) := by decide +kernel
theorem dX12_note_79 : decode cX12_note 79 = .ok (.aload_n 0, 1) := by decide +kernel
theorem dX12_note_80 : decode cX12_note 80 = .ok (.getfield 7, 3) := by decide +kernel
theorem dX12_note_83 : decode cX12_note 83 = .ok (.iload 5, 2) := by decide +kernel
theorem dX12_note_85 : decode cX12_note 85 = .ok (.iload_n 1, 1) := by decide +kernel
theorem dX12_note_86 : decode cX12_note 86 = .ok (.iastore, 1) := by decide +kernel
theorem dX12_note_87 : decode cX12_note 87 = .ok (.aload_n 0, 1) := by decide +kernel
theorem dX12_note_88 : decode cX12_note 88 = .ok (.getfield 7, 3) := by decide +kernel
theorem dX12_note_91 : decode cX12_note 91 = .ok (.iload 5, 2) := by decide +kernel
theorem dX12_note_93 : decode cX12_note 93 = .ok (.iconst 1, 1) := by decide +kernel
theorem dX12_note_94 : decode cX12_note 94 = .ok (.iadd, 1) := by decide +kernel
theorem dX12_note_95 : decode cX12_note 95 = .ok (.iload_n 2, 1) := by decide +kernel
theorem dX12_note_96 : decode cX12_note 96 = .ok (.iastore, 1) := by decide +kernel
theorem dX12_note_97 : decode cX12_note 97 = .ok (.aload_n 0, 1) := by decide +kernel
theorem dX12_note_98 : decode cX12_note 98 = .ok (.getfield 7, 3) := by decide +kernel
theorem dX12_note_101 : decode cX12_note 101 = .ok (.iload 5, 2) := by decide +kernel
theorem dX12_note_103 : decode cX12_note 103 = .ok (.iconst 2, 1) := by decide +kernel
theorem dX12_note_104 : decode cX12_note 104 = .ok (.iadd, 1) := by decide +kernel
theorem dX12_note_105 : decode cX12_note 105 = .ok (.iload_n 3, 1) := by decide +kernel
theorem dX12_note_106 : decode cX12_note 106 = .ok (.iastore, 1) := by decide +kernel
theorem dX12_note_107 : decode cX12_note 107 = .ok (.aload_n 0, 1) := by decide +kernel
theorem dX12_note_108 : decode cX12_note 108 = .ok (.getfield 7, 3) := by decide +kernel
theorem dX12_note_111 : decode cX12_note 111 = .ok (.iload 5, 2) := by decide +kernel
theorem dX12_note_113 : decode cX12_note 113 = .ok (.iconst 3, 1) := by decide +kernel
theorem dX12_note_114 : decode cX12_note 114 = .ok (.iadd, 1) := by decide +kernel
theorem dX12_note_115 : decode cX12_note 115 = .ok (.iload 4, 2) := by decide +kernel
theorem dX12_note_117 : decode cX12_note 117 = .ok (.iastore, 1) := by decide +kernel
theorem dX12_note_118 : decode cX12_note 118 = .ok (.aload_n 0, 1) := by decide +kernel
theorem dX12_note_119 : decode cX12_note 119 = .ok (.getfield 7, 3) := by decide +kernel
theorem dX12_note_122 : decode cX12_note 122 = .ok (.bipush 51, 2) := by decide +kernel
theorem dX12_note_124 : decode cX12_note 124 = .ok (.dup2, 1) := by decide +kernel
theorem dX12_note_125 : decode cX12_note 125 = .ok (.iaload, 1) := by decide +kernel
theorem dX12_note_126 : decode cX12_note 126 = .ok (.iconst 1, 1) := by decide +kernel
theorem dX12_note_127 : decode cX12_note 127 = .ok (.iadd, 1) := by decide +kernel
theorem dX12_note_128 : decode cX12_note 128 = .ok (.iastore, 1) := by decide +kernel
theorem dX12_note_129 : decode cX12_note 129 = .ok (.aload_n 0, 1) := by decide +kernel
theorem dX12_note_130 : decode cX12_note 130 = .ok (.getfield 7, 3) := by decide +kernel
theorem dX12_note_133 : decode cX12_note 133 = .ok (.bipush 51, 2) := by decide +kernel
theorem dX12_note_135 : decode cX12_note 135 = .ok (.iaload, 1) := by decide +kernel
theorem dX12_note_136 : decode cX12_note 136 = .ok (.ireturn, 1) := by decide +kernel
set_option maxRecDepth 100000 in
set_option maxHeartbeats 4000000 in
theorem c_X12_note {g : Gv} {l : Launch} (p0 : Nat) (p1 : Int32) (p2 : Int32) (p3 : Int32) (p4 : Int32) (w0 : Wd) (rz : Int32) (wz : Wd) (hf : f_X12_note p0 p1 p2 p3 p4 w0 = some (rz, wz)) : MI g l yX12_note cX12_note 6 .int 2 43 [rV g p0, .int p1, .int p2, .int p3, .int p4] w0 rz wz := by
  refine mi_of RX12 (by decide) rfl (Nat.le_of_ble_eq_true rfl) ?_
  intro X hg hll C hr h0
  subst hg; subst hll
  have t_39 : ∀ (v0 : Nat) (w : Wd), f_X12_note_39 v0 w = some (rz, wz) → Wk X 0 0 (QI X w0 rz wz) w [(0, rV (xg X) v0)] 39 [] := by
    intro v0 w hf
    unfold f_X12_note_39 at hf
    refine k_aload_n C dX12_note_39 0 rfl rfl 40 rfl ?_
    refine k_bipush C dX12_note_40 (-2) (by decide) 42 rfl ?_
    refine k_callV_i C ye_X12_refuse ve_X12_56 ⟨rfl, rfl⟩ ⟨rfl, rfl⟩ dX12_note_42 [.int (-2 : Int32)] rfl rfl (Nat.le_of_ble_eq_true rfl) (c_X12_refuse _ _ _) hf 45 rfl (fun x32 w31 hf => ?_)
    exact k_iret C hr h0 dX12_note_45 hf
  unfold f_X12_note at hf
  refine k_sub (lv2 := [(0, rV (xg X) p0), (1, .int p1), (2, .int p2), (3, .int p3), (4, .int p4)]) [0, 1, 2, 3, 4] rfl ?_
  refine k_aload_n C dX12_note_0 0 rfl rfl 1 rfl ?_
  refine k_iload_n C dX12_note_1 1 rfl 2 rfl ?_
  refine k_callV_i C ye_X12_isGoods ve_X12_131 ⟨rfl, rfl⟩ ⟨rfl, rfl⟩ dX12_note_2 [.int p1] rfl rfl (Nat.le_of_ble_eq_true rfl) (c_X12_isGoods _ _ _) hf 5 rfl (fun x34 w33 hf => ?_)
  refine k_if_eq C dX12_note_5 hf 39 rfl 8 rfl (fun hf => ?_) (fun hf => ?_)
  · refine k_sub [0] rfl ?_
    exact t_39 _ w33 hf
  · refine k_iload_n C dX12_note_8 2 rfl 9 rfl ?_
    refine k_iconst C dX12_note_9 (0) (by decide) 10 rfl ?_
    refine k_bipush C dX12_note_10 (99) (by decide) 12 rfl ?_
    refine k_callS_i C ye_X12_in se_X12_52 ⟨rfl, rfl⟩ ⟨rfl, rfl⟩ dX12_note_12 [.int p2, .int (0 : Int32), .int (99 : Int32)] rfl rfl (Nat.le_of_ble_eq_true rfl) (c_X12_in _ _ _ _) hf 15 rfl (fun x36 w35 hf => ?_)
    refine k_if_eq C dX12_note_15 hf 39 rfl 18 rfl (fun hf => ?_) (fun hf => ?_)
    · refine k_sub [0] rfl ?_
      exact t_39 _ w35 hf
    · refine k_iload_n C dX12_note_18 3 rfl 19 rfl ?_
      refine k_iconst C dX12_note_19 (0) (by decide) 20 rfl ?_
      refine k_bipush C dX12_note_20 (9) (by decide) 22 rfl ?_
      refine k_callS_i C ye_X12_in se_X12_52 ⟨rfl, rfl⟩ ⟨rfl, rfl⟩ dX12_note_22 [.int p3, .int (0 : Int32), .int (9 : Int32)] rfl rfl (Nat.le_of_ble_eq_true rfl) (c_X12_in _ _ _ _) hf 25 rfl (fun x38 w37 hf => ?_)
      refine k_if_eq C dX12_note_25 hf 39 rfl 28 rfl (fun hf => ?_) (fun hf => ?_)
      · refine k_sub [0] rfl ?_
        exact t_39 _ w37 hf
      · refine k_iload C dX12_note_28 4 rfl 30 rfl ?_
        refine k_iconst C dX12_note_30 (0) (by decide) 31 rfl ?_
        refine k_bipush C dX12_note_31 (20) (by decide) 33 rfl ?_
        refine k_callS_i C ye_X12_in se_X12_52 ⟨rfl, rfl⟩ ⟨rfl, rfl⟩ dX12_note_33 [.int p4, .int (0 : Int32), .int (20 : Int32)] rfl rfl (Nat.le_of_ble_eq_true rfl) (c_X12_in _ _ _ _) hf 36 rfl (fun x40 w39 hf => ?_)
        refine k_if_ne C dX12_note_36 hf 46 rfl 39 rfl (fun hf => ?_) (fun hf => ?_)
        · refine k_aload_n C dX12_note_46 0 rfl rfl 47 rfl ?_
          refine k_getR C fe_X12_7 rfl dX12_note_47 hf 50 rfl (fun r41 hf => ?_)
          refine k_bipush C dX12_note_50 (51) (by decide) 52 rfl ?_
          refine k_iald C dX12_note_52 hf 53 rfl (fun x42 hf => ?_)
          refine k_bipush C dX12_note_53 (6) (by decide) 55 rfl ?_
          refine k_icmp_ne C dX12_note_55 hf 65 rfl 58 rfl (fun hf => ?_) (fun hf => ?_)
          · refine k_bipush C dX12_note_65 (52) (by decide) 67 rfl ?_
            refine k_iconst C dX12_note_67 (4) (by decide) 68 rfl ?_
            refine k_aload_n C dX12_note_68 0 rfl rfl 69 rfl ?_
            refine k_getR C fe_X12_7 rfl dX12_note_69 hf 72 rfl (fun r43 hf => ?_)
            refine k_bipush C dX12_note_72 (51) (by decide) 74 rfl ?_
            refine k_iald C dX12_note_74 hf 75 rfl (fun x44 hf => ?_)
            refine k_imul C dX12_note_75 76 rfl ?_
            refine k_iadd C dX12_note_76 77 rfl ?_
            refine k_nmi hf (fun x45 hf => ?_)
            refine k_istore C dX12_note_77 (by decide) [(5, .int x45), (0, rV (xg X) p0), (1, .int p1), (2, .int p2), (3, .int p3), (4, .int p4)] rfl 79 rfl ?_
            refine k_aload_n C dX12_note_79 1 rfl rfl 80 rfl ?_
            refine k_getR C fe_X12_7 rfl dX12_note_80 hf 83 rfl (fun r46 hf => ?_)
            refine k_iload C dX12_note_83 0 rfl 85 rfl ?_
            refine k_iload_n C dX12_note_85 2 rfl 86 rfl ?_
            refine k_iast C dX12_note_86 hf 87 rfl (fun w47 _ hf => ?_)
            refine k_aload_n C dX12_note_87 1 rfl rfl 88 rfl ?_
            refine k_getR C fe_X12_7 rfl dX12_note_88 hf 91 rfl (fun r48 hf => ?_)
            refine k_iload C dX12_note_91 0 rfl 93 rfl ?_
            refine k_iconst C dX12_note_93 (1) (by decide) 94 rfl ?_
            refine k_iadd C dX12_note_94 95 rfl ?_
            refine k_iload_n C dX12_note_95 3 rfl 96 rfl ?_
            refine k_iast C dX12_note_96 hf 97 rfl (fun w49 _ hf => ?_)
            refine k_aload_n C dX12_note_97 1 rfl rfl 98 rfl ?_
            refine k_getR C fe_X12_7 rfl dX12_note_98 hf 101 rfl (fun r50 hf => ?_)
            refine k_iload C dX12_note_101 0 rfl 103 rfl ?_
            refine k_iconst C dX12_note_103 (2) (by decide) 104 rfl ?_
            refine k_iadd C dX12_note_104 105 rfl ?_
            refine k_iload_n C dX12_note_105 4 rfl 106 rfl ?_
            refine k_iast C dX12_note_106 hf 107 rfl (fun w51 _ hf => ?_)
            refine k_aload_n C dX12_note_107 1 rfl rfl 108 rfl ?_
            refine k_getR C fe_X12_7 rfl dX12_note_108 hf 111 rfl (fun r52 hf => ?_)
            refine k_iload C dX12_note_111 0 rfl 113 rfl ?_
            refine k_iconst C dX12_note_113 (3) (by decide) 114 rfl ?_
            refine k_iadd C dX12_note_114 115 rfl ?_
            refine k_iload C dX12_note_115 5 rfl 117 rfl ?_
            refine k_iast C dX12_note_117 hf 118 rfl (fun w53 _ hf => ?_)
            refine k_aload_n C dX12_note_118 1 rfl rfl 119 rfl ?_
            refine k_getR C fe_X12_7 rfl dX12_note_119 hf 122 rfl (fun r54 hf => ?_)
            refine k_bipush C dX12_note_122 (51) (by decide) 124 rfl ?_
            refine k_dup2 C dX12_note_124 rfl rfl 125 rfl ?_
            refine k_iald C dX12_note_125 hf 126 rfl (fun x55 hf => ?_)
            refine k_iconst C dX12_note_126 (1) (by decide) 127 rfl ?_
            refine k_iadd C dX12_note_127 128 rfl ?_
            refine k_iast C dX12_note_128 hf 129 rfl (fun w56 _ hf => ?_)
            refine k_aload_n C dX12_note_129 1 rfl rfl 130 rfl ?_
            refine k_getR C fe_X12_7 rfl dX12_note_130 hf 133 rfl (fun r57 hf => ?_)
            refine k_bipush C dX12_note_133 (51) (by decide) 135 rfl ?_
            refine k_iald C dX12_note_135 hf 136 rfl (fun x58 hf => ?_)
            exact k_iret C hr h0 dX12_note_136 hf
          · refine k_aload_n C dX12_note_58 0 rfl rfl 59 rfl ?_
            refine k_bipush C dX12_note_59 (-4) (by decide) 61 rfl ?_
            refine k_callV_i C ye_X12_refuse ve_X12_56 ⟨rfl, rfl⟩ ⟨rfl, rfl⟩ dX12_note_61 [.int (-4 : Int32)] rfl rfl (Nat.le_of_ble_eq_true rfl) (c_X12_refuse _ _ _) hf 64 rfl (fun x60 w59 hf => ?_)
            exact k_iret C hr h0 dX12_note_64 hf
        · refine k_sub [0] rfl ?_
          exact t_39 _ w39 hf
theorem dX12_number_0 : decode cX12_number 0 = .ok (.aload_n 0, 1) := by decide +kernel
theorem dX12_number_1 : decode cX12_number 1 = .ok (.invokevirtual 84, 3) := by decide +kernel
theorem dX12_number_4 : decode cX12_number 4 = .ok (.aload_n 0, 1) := by decide +kernel
theorem dX12_number_5 : decode cX12_number 5 = .ok (.aload_n 0, 1) := by decide +kernel
theorem dX12_number_6 : decode cX12_number 6 = .ok (.getfield 71, 3) := by decide +kernel
theorem dX12_number_9 : decode cX12_number 9 = .ok (.invokevirtual 78, 3) := by decide +kernel
theorem dX12_number_12 : decode cX12_number 12 = .ok (.ifCond .eq 16, 3) := by decide +kernel
theorem dX12_number_15 : decode cX12_number 15 = .ok (.aload_n 0, 1) := by decide +kernel
theorem dX12_number_16 : decode cX12_number 16 = .ok (.getfield 68, 3) := by decide +kernel
theorem dX12_number_19 : decode cX12_number 19 = .ok (.aload_n 0, 1) := by decide +kernel
theorem dX12_number_20 : decode cX12_number 20 = .ok (.getfield 71, 3) := by decide +kernel
theorem dX12_number_23 : decode cX12_number 23 = .ok (.isub, 1) := by decide +kernel
theorem dX12_number_24 : decode cX12_number 24 = .ok (.iconst 2, 1) := by decide +kernel
theorem dX12_number_25 : decode cX12_number 25 = .ok (.if_icmp .le 5, 3) := by decide +kernel
theorem dX12_number_28 : decode cX12_number 28 = .ok (.iconst (-1), 1) := by decide +kernel
theorem dX12_number_29 : decode cX12_number 29 = .ok (.ireturn, 1) := by decide +kernel
theorem dX12_number_30 : decode cX12_number 30 = .ok (.aload_n 0, 1) := by decide +kernel
theorem dX12_number_31 : decode cX12_number 31 = .ok (.getfield 24, 3) := by decide +kernel
theorem dX12_number_34 : decode cX12_number 34 = .ok (.aload_n 0, 1) := by decide +kernel
theorem dX12_number_35 : decode cX12_number 35 = .ok (.getfield 71, 3) := by decide +kernel
theorem dX12_number_38 : decode cX12_number 38 = .ok (.iaload, 1) := by decide +kernel
theorem dX12_number_39 : decode cX12_number 39 = .ok (.bipush 48, 2) := by decide +kernel
theorem dX12_number_41 : decode cX12_number 41 = .ok (.isub, 1) := by decide +kernel
theorem dX12_number_42 : decode cX12_number 42 = .ok (.istore_n 3, 1) := by decide +kernel
theorem dX12_number_43 : decode cX12_number 43 = .ok (.aload_n 0, 1) := by decide +kernel
theorem dX12_number_44 : decode cX12_number 44 = .ok (.getfield 68, 3) := by decide +kernel
theorem dX12_number_47 : decode cX12_number 47 = .ok (.aload_n 0, 1) := by decide +kernel
theorem dX12_number_48 : decode cX12_number 48 = .ok (.getfield 71, 3) := by decide +kernel
theorem dX12_number_51 : decode cX12_number 51 = .ok (.isub, 1) := by decide +kernel
theorem dX12_number_52 : decode cX12_number 52 = .ok (.iconst 2, 1) := by decide +kernel
theorem dX12_number_53 : decode cX12_number 53 = .ok (.if_icmp .ne 25, 3) := by decide +kernel
theorem dX12_number_56 : decode cX12_number 56 = .ok (.bipush 10, 2) := by decide +kernel
theorem dX12_number_58 : decode cX12_number 58 = .ok (.iload_n 3, 1) := by decide +kernel
theorem dX12_number_59 : decode cX12_number 59 = .ok (.imul, 1) := by decide +kernel
theorem dX12_number_60 : decode cX12_number 60 = .ok (.aload_n 0, 1) := by decide +kernel
theorem dX12_number_61 : decode cX12_number 61 = .ok (.getfield 24, 3) := by decide +kernel
theorem dX12_number_64 : decode cX12_number 64 = .ok (.aload_n 0, 1) := by decide +kernel
theorem dX12_number_65 : decode cX12_number 65 = .ok (.getfield 71, 3) := by decide +kernel
theorem dX12_number_68 : decode cX12_number 68 = .ok (.iconst 1, 1) := by decide +kernel
theorem dX12_number_69 : decode cX12_number 69 = .ok (.iadd, 1) := by decide +kernel
theorem dX12_number_70 : decode cX12_number 70 = .ok (.iaload, 1) := by decide +kernel
theorem dX12_number_71 : decode cX12_number 71 = .ok (.iadd, 1) := by decide +kernel
theorem dX12_number_72 : decode cX12_number 72 = .ok (.bipush 48, 2) := by decide +kernel
theorem dX12_number_74 : decode cX12_number 74 = .ok (.isub, 1) := by decide +kernel
theorem dX12_number_75 : decode cX12_number 75 = .ok (.goto 4, 3) := by decide +kernel
theorem dX12_number_78 : decode cX12_number 78 = .ok (.iload_n 3, 1) := by decide +kernel
theorem dX12_number_79 : decode cX12_number 79 = .ok (.istore_n 3, 1) := by decide +kernel
theorem dX12_number_80 : decode cX12_number 80 = .ok (.iload_n 3, 1) := by decide +kernel
theorem dX12_number_81 : decode cX12_number 81 = .ok (.iload_n 1, 1) := by decide +kernel
theorem dX12_number_82 : decode cX12_number 82 = .ok (.iload_n 2, 1) := by decide +kernel
theorem dX12_number_83 : decode cX12_number 83 = .ok (.invokestatic 52, 3) := by decide +kernel
theorem dX12_number_86 : decode cX12_number 86 = .ok (.ifCond .eq 7, 3) := by decide +kernel
theorem dX12_number_89 : decode cX12_number 89 = .ok (.iload_n 3, 1) := by decide +kernel
theorem dX12_number_90 : decode cX12_number 90 = .ok (.goto 4, 3) := by decide +kernel
theorem dX12_number_93 : decode cX12_number 93 = .ok (.iconst (-1), 1) := by decide +kernel
theorem dX12_number_94 : decode cX12_number 94 = .ok (.ireturn, 1) := by decide +kernel
set_option maxRecDepth 100000 in
set_option maxHeartbeats 4000000 in
theorem c_X12_number {g : Gv} {l : Launch} (p0 : Nat) (p1 : Int32) (p2 : Int32) (w0 : Wd) (rz : Int32) (wz : Wd) (hf : f_X12_number p0 p1 p2 w0 = some (rz, wz)) : MI g l yX12_number cX12_number 4 .int 3 63 [rV g p0, .int p1, .int p2] w0 rz wz := by
  refine mi_of RX12 (by decide) rfl (Nat.le_of_ble_eq_true rfl) ?_
  intro X hg hll C hr h0
  subst hg; subst hll
  have t_94 : ∀ (s0 : Int32) (w : Wd), f_X12_number_94 s0 w = some (rz, wz) → Wk X 0 0 (QI X w0 rz wz) w [] 94 [.int s0] := by
    intro s0 w hf
    unfold f_X12_number_94 at hf
    exact k_iret C hr h0 dX12_number_94 hf
  have t_79 : ∀ (v1 : Int32) (v2 : Int32) (s0 : Int32) (w : Wd), f_X12_number_79 v1 v2 s0 w = some (rz, wz) → Wk X 0 0 (QI X w0 rz wz) w [(1, .int v1), (2, .int v2)] 79 [.int s0] := by
    intro v1 v2 s0 w hf
    unfold f_X12_number_79 at hf
    refine k_istore_n C dX12_number_79 rfl (by decide) [(3, .int s0), (1, .int v1), (2, .int v2)] rfl 80 rfl ?_
    refine k_iload_n C dX12_number_80 0 rfl 81 rfl ?_
    refine k_iload_n C dX12_number_81 1 rfl 82 rfl ?_
    refine k_iload_n C dX12_number_82 2 rfl 83 rfl ?_
    refine k_callS_i C ye_X12_in se_X12_52 ⟨rfl, rfl⟩ ⟨rfl, rfl⟩ dX12_number_83 [.int s0, .int v1, .int v2] rfl rfl (Nat.le_of_ble_eq_true rfl) (c_X12_in _ _ _ _) hf 86 rfl (fun x20 w19 hf => ?_)
    refine k_if_eq C dX12_number_86 hf 93 rfl 89 rfl (fun hf => ?_) (fun hf => ?_)
    · refine k_iconst C dX12_number_93 (-1) (by decide) 94 rfl ?_
      refine k_sub [] rfl ?_
      exact t_94 _ w19 hf
    · refine k_iload_n C dX12_number_89 0 rfl 90 rfl ?_
      refine k_goto C dX12_number_90 94 rfl ?_
      refine k_sub [] rfl ?_
      exact t_94 _ w19 hf
  have t_28 : ∀ (w : Wd), f_X12_number_28 w = some (rz, wz) → Wk X 0 0 (QI X w0 rz wz) w [] 28 [] := by
    intro w hf
    unfold f_X12_number_28 at hf
    refine k_iconst C dX12_number_28 (-1) (by decide) 29 rfl ?_
    exact k_iret C hr h0 dX12_number_29 hf
  unfold f_X12_number at hf
  refine k_sub (lv2 := [(0, rV (xg X) p0), (1, .int p1), (2, .int p2)]) [0, 1, 2] rfl ?_
  refine k_aload_n C dX12_number_0 0 rfl rfl 1 rfl ?_
  refine k_callV_v C ye_X12_next ve_X12_84 ⟨rfl, rfl⟩ ⟨rfl, rfl⟩ dX12_number_1 [] rfl rfl (Nat.le_of_ble_eq_true rfl) (c_X12_next _ _) hf 4 rfl (fun w21 hf => ?_)
  refine k_aload_n C dX12_number_4 0 rfl rfl 5 rfl ?_
  refine k_aload_n C dX12_number_5 0 rfl rfl 6 rfl ?_
  refine k_getI C fe_X12_71 rfl dX12_number_6 hf 9 rfl (fun x23 hf => ?_)
  refine k_callV_i C ye_X12_isFigure ve_X12_78 ⟨rfl, rfl⟩ ⟨rfl, rfl⟩ dX12_number_9 [.int x23] rfl rfl (Nat.le_of_ble_eq_true rfl) (c_X12_isFigure _ _ _) hf 12 rfl (fun x25 w24 hf => ?_)
  refine k_if_eq C dX12_number_12 hf 28 rfl 15 rfl (fun hf => ?_) (fun hf => ?_)
  · refine k_sub [] rfl ?_
    exact t_28 w24 hf
  · refine k_aload_n C dX12_number_15 0 rfl rfl 16 rfl ?_
    refine k_getI C fe_X12_68 rfl dX12_number_16 hf 19 rfl (fun x26 hf => ?_)
    refine k_aload_n C dX12_number_19 0 rfl rfl 20 rfl ?_
    refine k_getI C fe_X12_71 rfl dX12_number_20 hf 23 rfl (fun x27 hf => ?_)
    refine k_isub C dX12_number_23 24 rfl ?_
    refine k_iconst C dX12_number_24 (2) (by decide) 25 rfl ?_
    refine k_icmp_le C dX12_number_25 hf 30 rfl 28 rfl (fun hf => ?_) (fun hf => ?_)
    · refine k_aload_n C dX12_number_30 0 rfl rfl 31 rfl ?_
      refine k_getR C fe_X12_24 rfl dX12_number_31 hf 34 rfl (fun r28 hf => ?_)
      refine k_aload_n C dX12_number_34 0 rfl rfl 35 rfl ?_
      refine k_getI C fe_X12_71 rfl dX12_number_35 hf 38 rfl (fun x29 hf => ?_)
      refine k_iald C dX12_number_38 hf 39 rfl (fun x30 hf => ?_)
      refine k_bipush C dX12_number_39 (48) (by decide) 41 rfl ?_
      refine k_isub C dX12_number_41 42 rfl ?_
      refine k_nmi hf (fun x31 hf => ?_)
      refine k_istore_n C dX12_number_42 rfl (by decide) [(3, .int x31), (0, rV (xg X) p0), (1, .int p1), (2, .int p2)] rfl 43 rfl ?_
      refine k_aload_n C dX12_number_43 1 rfl rfl 44 rfl ?_
      refine k_getI C fe_X12_68 rfl dX12_number_44 hf 47 rfl (fun x32 hf => ?_)
      refine k_aload_n C dX12_number_47 1 rfl rfl 48 rfl ?_
      refine k_getI C fe_X12_71 rfl dX12_number_48 hf 51 rfl (fun x33 hf => ?_)
      refine k_isub C dX12_number_51 52 rfl ?_
      refine k_iconst C dX12_number_52 (2) (by decide) 53 rfl ?_
      refine k_icmp_ne C dX12_number_53 hf 78 rfl 56 rfl (fun hf => ?_) (fun hf => ?_)
      · refine k_iload_n C dX12_number_78 0 rfl 79 rfl ?_
        refine k_sub [2, 3] rfl ?_
        exact t_79 _ _ _ w24 hf
      · refine k_bipush C dX12_number_56 (10) (by decide) 58 rfl ?_
        refine k_iload_n C dX12_number_58 0 rfl 59 rfl ?_
        refine k_imul C dX12_number_59 60 rfl ?_
        refine k_aload_n C dX12_number_60 1 rfl rfl 61 rfl ?_
        refine k_getR C fe_X12_24 rfl dX12_number_61 hf 64 rfl (fun r34 hf => ?_)
        refine k_aload_n C dX12_number_64 1 rfl rfl 65 rfl ?_
        refine k_getI C fe_X12_71 rfl dX12_number_65 hf 68 rfl (fun x35 hf => ?_)
        refine k_iconst C dX12_number_68 (1) (by decide) 69 rfl ?_
        refine k_iadd C dX12_number_69 70 rfl ?_
        refine k_iald C dX12_number_70 hf 71 rfl (fun x36 hf => ?_)
        refine k_iadd C dX12_number_71 72 rfl ?_
        refine k_bipush C dX12_number_72 (48) (by decide) 74 rfl ?_
        refine k_isub C dX12_number_74 75 rfl ?_
        refine k_goto C dX12_number_75 79 rfl ?_
        refine k_sub [2, 3] rfl ?_
        exact t_79 _ _ _ w24 hf
    · refine k_sub [] rfl ?_
      exact t_28 w24 hf
theorem dX12_of_0 : decode cX12_of 0 = .ok (.aload_n 0, 1) := by decide +kernel
theorem dX12_of_1 : decode cX12_of 1 = .ok (.iload_n 1, 1) := by decide +kernel
theorem dX12_of_2 : decode cX12_of 2 = .ok (.invokevirtual 131, 3) := by decide +kernel
theorem dX12_of_5 : decode cX12_of 5 = .ok (.ifCond .eq 13, 3) := by decide +kernel
theorem dX12_of_8 : decode cX12_of 8 = .ok (.iload_n 2, 1) := by decide +kernel
theorem dX12_of_9 : decode cX12_of 9 = .ok (.iconst 0, 1) := by decide +kernel
theorem dX12_of_10 : decode cX12_of 10 = .ok (.bipush 6, 2) := by decide +kernel
theorem dX12_of_12 : decode cX12_of 12 = .ok (.invokestatic 52, 3) := by decide +kernel
theorem dX12_of_15 : decode cX12_of 15 = .ok (.ifCond .ne 10, 3) := by decide +kernel
theorem dX12_of_18 : decode cX12_of 18 = .ok (.aload_n 0, 1) := by decide +kernel
theorem dX12_of_19 : decode cX12_of 19 = .ok (.bipush (-2), 2) := by decide +kernel
theorem dX12_of_21 : decode cX12_of 21 = .ok (.invokevirtual 56, 3) := by decide +kernel
theorem dX12_of_24 : decode cX12_of 24 = .ok (.ireturn, 1) := by decide +kernel
theorem dX12_of_25 : decode cX12_of 25 = .ok (.iload_n 2, 1) := by decide +kernel
theorem dX12_of_26 : decode cX12_of 26 = .ok (.tableswitch 107 0 5 #[38, 48, 58, 68, 77, 87], 38) := by decide +kernel
theorem dX12_of_64 : decode cX12_of 64 = .ok (.aload_n 0, 1) := by decide +kernel
theorem dX12_of_65 : decode cX12_of 65 = .ok (.getfield 7, 3) := by decide +kernel
theorem dX12_of_68 : decode cX12_of 68 = .ok (.bipush 20, 2) := by decide +kernel
theorem dX12_of_70 : decode cX12_of 70 = .ok (.iload_n 1, 1) := by decide +kernel
theorem dX12_of_71 : decode cX12_of 71 = .ok (.iadd, 1) := by decide +kernel
theorem dX12_of_72 : decode cX12_of 72 = .ok (.iaload, 1) := by decide +kernel
theorem dX12_of_73 : decode cX12_of 73 = .ok (.ireturn, 1) := by decide +kernel
theorem dX12_of_74 : decode cX12_of 74 = .ok (.aload_n 0, 1) := by decide +kernel
theorem dX12_of_75 : decode cX12_of 75 = .ok (.getfield 7, 3) := by decide +kernel
theorem dX12_of_78 : decode cX12_of 78 = .ok (.bipush 26, 2) := by decide +kernel
theorem dX12_of_80 : decode cX12_of 80 = .ok (.iload_n 1, 1) := by decide +kernel
theorem dX12_of_81 : decode cX12_of 81 = .ok (.iadd, 1) := by decide +kernel
theorem dX12_of_82 : decode cX12_of 82 = .ok (.iaload, 1) := by decide +kernel
theorem dX12_of_83 : decode cX12_of 83 = .ok (.ireturn, 1) := by decide +kernel
theorem dX12_of_84 : decode cX12_of 84 = .ok (.aload_n 0, 1) := by decide +kernel
theorem dX12_of_85 : decode cX12_of 85 = .ok (.getfield 7, 3) := by decide +kernel
theorem dX12_of_88 : decode cX12_of 88 = .ok (.bipush 32, 2) := by decide +kernel
theorem dX12_of_90 : decode cX12_of 90 = .ok (.iload_n 1, 1) := by decide +kernel
theorem dX12_of_91 : decode cX12_of 91 = .ok (.iadd, 1) := by decide +kernel
theorem dX12_of_92 : decode cX12_of 92 = .ok (.iaload, 1) := by decide +kernel
theorem dX12_of_93 : decode cX12_of 93 = .ok (.ireturn, 1) := by decide +kernel
theorem dX12_of_94 : decode cX12_of 94 = .ok (.aload_n 0, 1) := by decide +kernel
theorem dX12_of_95 : decode cX12_of 95 = .ok (.getfield 7, 3) := by decide +kernel
theorem dX12_of_98 : decode cX12_of 98 = .ok (.iconst 0, 1) := by decide +kernel
theorem dX12_of_99 : decode cX12_of 99 = .ok (.iload_n 1, 1) := by decide +kernel
theorem dX12_of_100 : decode cX12_of 100 = .ok (.iadd, 1) := by decide +kernel
theorem dX12_of_101 : decode cX12_of 101 = .ok (.iaload, 1) := by decide +kernel
theorem dX12_of_102 : decode cX12_of 102 = .ok (.ireturn, 1) := by decide +kernel
theorem dX12_of_103 : decode cX12_of 103 = .ok (.aload_n 0, 1) := by decide +kernel
theorem dX12_of_104 : decode cX12_of 104 = .ok (.getfield 7, 3) := by decide +kernel
theorem dX12_of_107 : decode cX12_of 107 = .ok (.bipush 6, 2) := by decide +kernel
theorem dX12_of_109 : decode cX12_of 109 = .ok (.iload_n 1, 1) := by decide +kernel
theorem dX12_of_110 : decode cX12_of 110 = .ok (.iadd, 1) := by decide +kernel
theorem dX12_of_111 : decode cX12_of 111 = .ok (.iaload, 1) := by decide +kernel
theorem dX12_of_112 : decode cX12_of 112 = .ok (.ireturn, 1) := by decide +kernel
theorem dX12_of_113 : decode cX12_of 113 = .ok (.aload_n 0, 1) := by decide +kernel
theorem dX12_of_114 : decode cX12_of 114 = .ok (.iload_n 1, 1) := by decide +kernel
theorem dX12_of_115 : decode cX12_of 115 = .ok (.aload_n 0, 1) := by decide +kernel
theorem dX12_of_116 : decode cX12_of 116 = .ok (.getfield 7, 3) := by decide +kernel
theorem dX12_of_119 : decode cX12_of 119 = .ok (.bipush 14, 2) := by decide +kernel
theorem dX12_of_121 : decode cX12_of 121 = .ok (.iaload, 1) := by decide +kernel
theorem dX12_of_122 : decode cX12_of 122 = .ok (.aload_n 0, 1) := by decide +kernel
theorem dX12_of_123 : decode cX12_of 123 = .ok (.getfield 7, 3) := by decide +kernel
theorem dX12_of_126 : decode cX12_of 126 = .ok (.bipush 16, 2) := by decide +kernel
theorem dX12_of_128 : decode cX12_of 128 = .ok (.iaload, 1) := by decide +kernel
theorem dX12_of_129 : decode cX12_of 129 = .ok (.invokevirtual 124, 3) := by decide +kernel
theorem dX12_of_132 : decode cX12_of 132 = .ok (.ireturn, 1) := by decide +kernel
theorem dX12_of_133 : decode cX12_of 133 = .ok (.aload_n 0, 1) := by decide +kernel
theorem dX12_of_134 : decode cX12_of 134 = .ok (.iload_n 1, 1) := by decide +kernel
theorem dX12_of_135 : decode cX12_of 135 = .ok (.aload_n 0, 1) := by decide +kernel
theorem dX12_of_136 : decode cX12_of 136 = .ok (.getfield 7, 3) := by decide +kernel
theorem dX12_of_139 : decode cX12_of 139 = .ok (.bipush 6, 2) := by decide +kernel
theorem dX12_of_141 : decode cX12_of 141 = .ok (.iload_n 1, 1) := by decide +kernel
theorem dX12_of_142 : decode cX12_of 142 = .ok (.iadd, 1) := by decide +kernel
theorem dX12_of_143 : decode cX12_of 143 = .ok (.iaload, 1) := by decide +kernel
theorem dX12_of_144 : decode cX12_of 144 = .ok (.invokevirtual 150, 3) := by decide +kernel
theorem dX12_of_147 : decode cX12_of 147 = .ok (.ireturn, 1) := by decide +kernel
set_option maxRecDepth 100000 in
set_option maxHeartbeats 4000000 in
theorem c_X12_of {g : Gv} {l : Launch} (p0 : Nat) (p1 : Int32) (p2 : Int32) (w0 : Wd) (rz : Int32) (wz : Wd) (hf : f_X12_of p0 p1 p2 w0 = some (rz, wz)) : MI g l yX12_of cX12_of 3 .int 2 47 [rV g p0, .int p1, .int p2] w0 rz wz := by
  refine mi_of RX12 (by decide) rfl (Nat.le_of_ble_eq_true rfl) ?_
  intro X hg hll C hr h0
  subst hg; subst hll
  have t_18 : ∀ (v0 : Nat) (w : Wd), f_X12_of_18 v0 w = some (rz, wz) → Wk X 0 0 (QI X w0 rz wz) w [(0, rV (xg X) v0)] 18 [] := by
    intro v0 w hf
    unfold f_X12_of_18 at hf
    refine k_aload_n C dX12_of_18 0 rfl rfl 19 rfl ?_
    refine k_bipush C dX12_of_19 (-2) (by decide) 21 rfl ?_
    refine k_callV_i C ye_X12_refuse ve_X12_56 ⟨rfl, rfl⟩ ⟨rfl, rfl⟩ dX12_of_21 [.int (-2 : Int32)] rfl rfl (Nat.le_of_ble_eq_true rfl) (c_X12_refuse _ _ _) hf 24 rfl (fun x28 w27 hf => ?_)
    exact k_iret C hr h0 dX12_of_24 hf
  unfold f_X12_of at hf
  refine k_sub (lv2 := [(0, rV (xg X) p0), (1, .int p1), (2, .int p2)]) [0, 1, 2] rfl ?_
  refine k_aload_n C dX12_of_0 0 rfl rfl 1 rfl ?_
  refine k_iload_n C dX12_of_1 1 rfl 2 rfl ?_
  refine k_callV_i C ye_X12_isGoods ve_X12_131 ⟨rfl, rfl⟩ ⟨rfl, rfl⟩ dX12_of_2 [.int p1] rfl rfl (Nat.le_of_ble_eq_true rfl) (c_X12_isGoods _ _ _) hf 5 rfl (fun x30 w29 hf => ?_)
  refine k_if_eq C dX12_of_5 hf 18 rfl 8 rfl (fun hf => ?_) (fun hf => ?_)
  · refine k_sub [0] rfl ?_
    exact t_18 _ w29 hf
  · refine k_iload_n C dX12_of_8 2 rfl 9 rfl ?_
    refine k_iconst C dX12_of_9 (0) (by decide) 10 rfl ?_
    refine k_bipush C dX12_of_10 (6) (by decide) 12 rfl ?_
    refine k_callS_i C ye_X12_in se_X12_52 ⟨rfl, rfl⟩ ⟨rfl, rfl⟩ dX12_of_12 [.int p2, .int (0 : Int32), .int (6 : Int32)] rfl rfl (Nat.le_of_ble_eq_true rfl) (c_X12_in _ _ _ _) hf 15 rfl (fun x32 w31 hf => ?_)
    refine k_if_ne C dX12_of_15 hf 25 rfl 18 rfl (fun hf => ?_) (fun hf => ?_)
    · refine k_iload_n C dX12_of_25 2 rfl 26 rfl ?_
      refine k_split hf (fun he hf => ?_) (fun hn0 hf => ?_)
      · refine k_tswIn (off := 38) C dX12_of_26 (0) he (by decide) 64 rfl ?_
        refine k_aload_n C dX12_of_64 0 rfl rfl 65 rfl ?_
        refine k_getR C fe_X12_7 rfl dX12_of_65 hf 68 rfl (fun r33 hf => ?_)
        refine k_bipush C dX12_of_68 (20) (by decide) 70 rfl ?_
        refine k_iload_n C dX12_of_70 1 rfl 71 rfl ?_
        refine k_iadd C dX12_of_71 72 rfl ?_
        refine k_iald C dX12_of_72 hf 73 rfl (fun x34 hf => ?_)
        exact k_iret C hr h0 dX12_of_73 hf
      · skip
        refine k_split hf (fun he hf => ?_) (fun hn1 hf => ?_)
        · refine k_tswIn (off := 48) C dX12_of_26 (1) he (by decide) 74 rfl ?_
          refine k_aload_n C dX12_of_74 0 rfl rfl 75 rfl ?_
          refine k_getR C fe_X12_7 rfl dX12_of_75 hf 78 rfl (fun r35 hf => ?_)
          refine k_bipush C dX12_of_78 (26) (by decide) 80 rfl ?_
          refine k_iload_n C dX12_of_80 1 rfl 81 rfl ?_
          refine k_iadd C dX12_of_81 82 rfl ?_
          refine k_iald C dX12_of_82 hf 83 rfl (fun x36 hf => ?_)
          exact k_iret C hr h0 dX12_of_83 hf
        · skip
          refine k_split hf (fun he hf => ?_) (fun hn2 hf => ?_)
          · refine k_tswIn (off := 58) C dX12_of_26 (2) he (by decide) 84 rfl ?_
            refine k_aload_n C dX12_of_84 0 rfl rfl 85 rfl ?_
            refine k_getR C fe_X12_7 rfl dX12_of_85 hf 88 rfl (fun r37 hf => ?_)
            refine k_bipush C dX12_of_88 (32) (by decide) 90 rfl ?_
            refine k_iload_n C dX12_of_90 1 rfl 91 rfl ?_
            refine k_iadd C dX12_of_91 92 rfl ?_
            refine k_iald C dX12_of_92 hf 93 rfl (fun x38 hf => ?_)
            exact k_iret C hr h0 dX12_of_93 hf
          · skip
            refine k_split hf (fun he hf => ?_) (fun hn3 hf => ?_)
            · refine k_tswIn (off := 68) C dX12_of_26 (3) he (by decide) 94 rfl ?_
              refine k_aload_n C dX12_of_94 0 rfl rfl 95 rfl ?_
              refine k_getR C fe_X12_7 rfl dX12_of_95 hf 98 rfl (fun r39 hf => ?_)
              refine k_iconst C dX12_of_98 (0) (by decide) 99 rfl ?_
              refine k_iload_n C dX12_of_99 1 rfl 100 rfl ?_
              refine k_iadd C dX12_of_100 101 rfl ?_
              refine k_iald C dX12_of_101 hf 102 rfl (fun x40 hf => ?_)
              exact k_iret C hr h0 dX12_of_102 hf
            · skip
              refine k_split hf (fun he hf => ?_) (fun hn4 hf => ?_)
              · refine k_tswIn (off := 77) C dX12_of_26 (4) he (by decide) 103 rfl ?_
                refine k_aload_n C dX12_of_103 0 rfl rfl 104 rfl ?_
                refine k_getR C fe_X12_7 rfl dX12_of_104 hf 107 rfl (fun r41 hf => ?_)
                refine k_bipush C dX12_of_107 (6) (by decide) 109 rfl ?_
                refine k_iload_n C dX12_of_109 1 rfl 110 rfl ?_
                refine k_iadd C dX12_of_110 111 rfl ?_
                refine k_iald C dX12_of_111 hf 112 rfl (fun x42 hf => ?_)
                exact k_iret C hr h0 dX12_of_112 hf
              · skip
                refine k_split hf (fun he hf => ?_) (fun hn5 hf => ?_)
                · refine k_tswIn (off := 87) C dX12_of_26 (5) he (by decide) 113 rfl ?_
                  refine k_aload_n C dX12_of_113 0 rfl rfl 114 rfl ?_
                  refine k_iload_n C dX12_of_114 1 rfl 115 rfl ?_
                  refine k_aload_n C dX12_of_115 0 rfl rfl 116 rfl ?_
                  refine k_getR C fe_X12_7 rfl dX12_of_116 hf 119 rfl (fun r43 hf => ?_)
                  refine k_bipush C dX12_of_119 (14) (by decide) 121 rfl ?_
                  refine k_iald C dX12_of_121 hf 122 rfl (fun x44 hf => ?_)
                  refine k_aload_n C dX12_of_122 0 rfl rfl 123 rfl ?_
                  refine k_getR C fe_X12_7 rfl dX12_of_123 hf 126 rfl (fun r45 hf => ?_)
                  refine k_bipush C dX12_of_126 (16) (by decide) 128 rfl ?_
                  refine k_iald C dX12_of_128 hf 129 rfl (fun x46 hf => ?_)
                  refine k_callV_i C ye_X12_ground ve_X12_124 ⟨rfl, rfl⟩ ⟨rfl, rfl⟩ dX12_of_129 [.int p1, .int x44, .int x46] rfl rfl (Nat.le_of_ble_eq_true rfl) (c_X12_ground _ _ _ _ _) hf 132 rfl (fun x48 w47 hf => ?_)
                  exact k_iret C hr h0 dX12_of_132 hf
                · skip
                  refine k_tswOut C dX12_of_26 (tsw_out [(0 : Int32), (1 : Int32), (2 : Int32), (3 : Int32), (4 : Int32), (5 : Int32)] (List.forall_mem_cons.mpr ⟨hn0, (List.forall_mem_cons.mpr ⟨hn1, (List.forall_mem_cons.mpr ⟨hn2, (List.forall_mem_cons.mpr ⟨hn3, (List.forall_mem_cons.mpr ⟨hn4, (List.forall_mem_cons.mpr ⟨hn5, (fun _ h => absurd h List.not_mem_nil)⟩)⟩)⟩)⟩)⟩)⟩) (by decide)) 133 rfl ?_
                  refine k_aload_n C dX12_of_133 0 rfl rfl 134 rfl ?_
                  refine k_iload_n C dX12_of_134 1 rfl 135 rfl ?_
                  refine k_aload_n C dX12_of_135 0 rfl rfl 136 rfl ?_
                  refine k_getR C fe_X12_7 rfl dX12_of_136 hf 139 rfl (fun r49 hf => ?_)
                  refine k_bipush C dX12_of_139 (6) (by decide) 141 rfl ?_
                  refine k_iload_n C dX12_of_141 1 rfl 142 rfl ?_
                  refine k_iadd C dX12_of_142 143 rfl ?_
                  refine k_iald C dX12_of_143 hf 144 rfl (fun x50 hf => ?_)
                  refine k_callV_i C ye_X12_fetches ve_X12_150 ⟨rfl, rfl⟩ ⟨rfl, rfl⟩ dX12_of_144 [.int p1, .int x50] rfl rfl (Nat.le_of_ble_eq_true rfl) (c_X12_fetches _ _ _ _) hf 147 rfl (fun x52 w51 hf => ?_)
                  exact k_iret C hr h0 dX12_of_147 hf
    · refine k_sub [0] rfl ?_
      exact t_18 _ w31 hf
theorem dX12_part_0 : decode cX12_part 0 = .ok (.iload_n 1, 1) := by decide +kernel
theorem dX12_part_1 : decode cX12_part 1 = .ok (.ifCond .ne 10, 3) := by decide +kernel
theorem dX12_part_4 : decode cX12_part 4 = .ok (.aload_n 0, 1) := by decide +kernel
theorem dX12_part_5 : decode cX12_part 5 = .ok (.getfield 186, 3) := by decide +kernel
theorem dX12_part_8 : decode cX12_part 8 = .ok (.goto 22, 3) := by decide +kernel
theorem dX12_part_11 : decode cX12_part 11 = .ok (.iload_n 1, 1) := by decide +kernel
theorem dX12_part_12 : decode cX12_part 12 = .ok (.iconst 1, 1) := by decide +kernel
theorem dX12_part_13 : decode cX12_part 13 = .ok (.if_icmp .ne 10, 3) := by decide +kernel
theorem dX12_part_16 : decode cX12_part 16 = .ok (.aload_n 0, 1) := by decide +kernel
theorem dX12_part_17 : decode cX12_part 17 = .ok (.getfield 20, 3) := by decide +kernel
theorem dX12_part_20 : decode cX12_part 20 = .ok (.goto 10, 3) := by decide +kernel
theorem dX12_part_23 : decode cX12_part 23 = .ok (.aload_n 0, 1) := by decide +kernel
theorem dX12_part_24 : decode cX12_part 24 = .ok (.bipush (-2), 2) := by decide +kernel
theorem dX12_part_26 : decode cX12_part 26 = .ok (.invokevirtual 56, 3) := by decide +kernel
theorem dX12_part_29 : decode cX12_part 29 = .ok (.i2l, 1) := by decide +kernel
theorem dX12_part_30 : decode cX12_part 30 = .ok (.lreturn, 1) := by decide +kernel
set_option maxRecDepth 100000 in
set_option maxHeartbeats 4000000 in
theorem c_X12_part {g : Gv} {l : Launch} (p0 : Nat) (p1 : Int32) (w0 : Wd) (rz : Int64) (wz : Wd) (hf : f_X12_part p0 p1 w0 = some (rz, wz)) : ML g l yX12_part cX12_part 2 1 21 [rV g p0, .int p1] w0 rz wz := by
  refine ml_of RX12 (by decide) rfl (Nat.le_of_ble_eq_true rfl) ?_
  intro X hg hll C hr h0
  subst hg; subst hll
  have t_30 : ∀ (s0 : Int64) (w : Wd), f_X12_part_30 s0 w = some (rz, wz) → Wk X 0 0 (QL X w0 rz wz) w [] 30 [.long s0] := by
    intro s0 w hf
    unfold f_X12_part_30 at hf
    exact k_lret C hr h0 dX12_part_30 hf
  unfold f_X12_part at hf
  refine k_sub (lv2 := [(0, rV (xg X) p0), (1, .int p1)]) [0, 1] rfl ?_
  refine k_iload_n C dX12_part_0 1 rfl 1 rfl ?_
  refine k_if_ne C dX12_part_1 hf 11 rfl 4 rfl (fun hf => ?_) (fun hf => ?_)
  · refine k_iload_n C dX12_part_11 1 rfl 12 rfl ?_
    refine k_iconst C dX12_part_12 (1) (by decide) 13 rfl ?_
    refine k_icmp_ne C dX12_part_13 hf 23 rfl 16 rfl (fun hf => ?_) (fun hf => ?_)
    · refine k_aload_n C dX12_part_23 0 rfl rfl 24 rfl ?_
      refine k_bipush C dX12_part_24 (-2) (by decide) 26 rfl ?_
      refine k_callV_i C ye_X12_refuse ve_X12_56 ⟨rfl, rfl⟩ ⟨rfl, rfl⟩ dX12_part_26 [.int (-2 : Int32)] rfl rfl (Nat.le_of_ble_eq_true rfl) (c_X12_refuse _ _ _) hf 29 rfl (fun x6 w5 hf => ?_)
      refine k_i2l C dX12_part_29 30 rfl ?_
      refine k_sub [] rfl ?_
      exact t_30 _ w5 hf
    · refine k_aload_n C dX12_part_16 0 rfl rfl 17 rfl ?_
      refine k_getL C fe_X12_20 rfl dX12_part_17 hf 20 rfl (fun x7 hf => ?_)
      refine k_goto C dX12_part_20 30 rfl ?_
      refine k_sub [] rfl ?_
      exact t_30 _ w0 hf
  · refine k_aload_n C dX12_part_4 0 rfl rfl 5 rfl ?_
    refine k_getL C fe_X12_186 rfl dX12_part_5 hf 8 rfl (fun x8 hf => ?_)
    refine k_goto C dX12_part_8 30 rfl ?_
    refine k_sub [] rfl ?_
    exact t_30 _ w0 hf
theorem dX12_readsGoods_0 : decode cX12_readsGoods 0 = .ok (.aload_n 0, 1) := by decide +kernel
theorem dX12_readsGoods_1 : decode cX12_readsGoods 1 = .ok (.getfield 87, 3) := by decide +kernel
theorem dX12_readsGoods_4 : decode cX12_readsGoods 4 = .ok (.bipush 6, 2) := by decide +kernel
theorem dX12_readsGoods_6 : decode cX12_readsGoods 6 = .ok (.if_icmp .ne 5, 3) := by decide +kernel
theorem dX12_readsGoods_9 : decode cX12_readsGoods 9 = .ok (.iconst 0, 1) := by decide +kernel
theorem dX12_readsGoods_10 : decode cX12_readsGoods 10 = .ok (.ireturn, 1) := by decide +kernel
theorem dX12_readsGoods_11 : decode cX12_readsGoods 11 = .ok (.aload_n 0, 1) := by decide +kernel
theorem dX12_readsGoods_12 : decode cX12_readsGoods 12 = .ok (.iconst 0, 1) := by decide +kernel
theorem dX12_readsGoods_13 : decode cX12_readsGoods 13 = .ok (.iconst 5, 1) := by decide +kernel
theorem dX12_readsGoods_14 : decode cX12_readsGoods 14 = .ok (.invokevirtual 90, 3) := by decide +kernel
theorem dX12_readsGoods_17 : decode cX12_readsGoods 17 = .ok (.istore_n 1, 1) := by decide +kernel
theorem dX12_readsGoods_18 : decode cX12_readsGoods 18 = .ok (.iload_n 1, 1) := by decide +kernel
theorem dX12_readsGoods_19 : decode cX12_readsGoods 19 = .ok (.iconst (-1), 1) := by decide +kernel
theorem dX12_readsGoods_20 : decode cX12_readsGoods 20 = .ok (.if_icmp .ne 7, 3) := by decide +kernel
theorem dX12_readsGoods_23 : decode cX12_readsGoods 23 = .ok (.iconst (-1), 1) := by decide +kernel
theorem dX12_readsGoods_24 : decode cX12_readsGoods 24 = .ok (.goto 10, 3) := by decide +kernel
theorem dX12_readsGoods_27 : decode cX12_readsGoods 27 = .ok (.aload_n 0, 1) := by decide +kernel
theorem dX12_readsGoods_28 : decode cX12_readsGoods 28 = .ok (.iconst 1, 1) := by decide +kernel
theorem dX12_readsGoods_29 : decode cX12_readsGoods 29 = .ok (.bipush 9, 2) := by decide +kernel
theorem dX12_readsGoods_31 : decode cX12_readsGoods 31 = .ok (.invokevirtual 90, 3) := by decide +kernel
theorem dX12_readsGoods_34 : decode cX12_readsGoods 34 = .ok (.istore_n 2, 1) := by decide +kernel
theorem dX12_readsGoods_35 : decode cX12_readsGoods 35 = .ok (.iload_n 2, 1) := by decide +kernel
theorem dX12_readsGoods_36 : decode cX12_readsGoods 36 = .ok (.iconst (-1), 1) := by decide +kernel
theorem dX12_readsGoods_37 : decode cX12_readsGoods 37 = .ok (.if_icmp .ne 7, 3) := by decide +kernel
theorem dX12_readsGoods_40 : decode cX12_readsGoods 40 = .ok (.iconst (-1), 1) := by decide +kernel
theorem dX12_readsGoods_41 : decode cX12_readsGoods 41 = .ok (.goto 10, 3) := by decide +kernel
theorem dX12_readsGoods_44 : decode cX12_readsGoods 44 = .ok (.aload_n 0, 1) := by decide +kernel
theorem dX12_readsGoods_45 : decode cX12_readsGoods 45 = .ok (.iconst 0, 1) := by decide +kernel
theorem dX12_readsGoods_46 : decode cX12_readsGoods 46 = .ok (.bipush 40, 2) := by decide +kernel
theorem dX12_readsGoods_48 : decode cX12_readsGoods 48 = .ok (.invokevirtual 90, 3) := by decide +kernel
theorem dX12_readsGoods_51 : decode cX12_readsGoods 51 = .ok (.istore_n 3, 1) := by decide +kernel
theorem dX12_readsGoods_52 : decode cX12_readsGoods 52 = .ok (.iload_n 3, 1) := by decide +kernel
theorem dX12_readsGoods_53 : decode cX12_readsGoods 53 = .ok (.iconst (-1), 1) := by decide +kernel
theorem dX12_readsGoods_54 : decode cX12_readsGoods 54 = .ok (.if_icmp .ne 5, 3) := by decide +kernel
theorem dX12_readsGoods_57 : decode cX12_readsGoods 57 = .ok (.iconst 0, 1) := by decide +kernel
theorem dX12_readsGoods_58 : decode cX12_readsGoods 58 = .ok (.ireturn, 1) := by decide +kernel
theorem dX12_readsGoods_59 : decode cX12_readsGoods 59 = .ok (.aload_n 0, 1) := by decide +kernel
theorem dX12_readsGoods_60 : decode cX12_readsGoods 60 = .ok (.getfield 30, 3) := by decide +kernel
theorem dX12_readsGoods_63 : decode cX12_readsGoods 63 = .ok (.iconst 3, 1) := by decide +kernel
theorem dX12_readsGoods_64 : decode cX12_readsGoods 64 = .ok (.aload_n 0, 1) := by decide +kernel
theorem dX12_readsGoods_65 : decode cX12_readsGoods 65 = .ok (.getfield 87, 3) := by decide +kernel
theorem dX12_readsGoods_68 : decode cX12_readsGoods 68 = .ok (.imul, 1) := by decide +kernel
theorem dX12_readsGoods_69 : decode cX12_readsGoods 69 = .ok (.iload_n 1, 1) := by decide +kernel
theorem dX12_readsGoods_70 : decode cX12_readsGoods 70 = .ok (.iastore, 1) := by decide +kernel
theorem dX12_readsGoods_71 : decode cX12_readsGoods 71 = .ok (.aload_n 0, 1) := by decide +kernel
theorem dX12_readsGoods_72 : decode cX12_readsGoods 72 = .ok (.getfield 30, 3) := by decide +kernel
theorem dX12_readsGoods_75 : decode cX12_readsGoods 75 = .ok (.iconst 3, 1) := by decide +kernel
theorem dX12_readsGoods_76 : decode cX12_readsGoods 76 = .ok (.aload_n 0, 1) := by decide +kernel
theorem dX12_readsGoods_77 : decode cX12_readsGoods 77 = .ok (.getfield 87, 3) := by decide +kernel
theorem dX12_readsGoods_80 : decode cX12_readsGoods 80 = .ok (.imul, 1) := by decide +kernel
theorem dX12_readsGoods_81 : decode cX12_readsGoods 81 = .ok (.iconst 1, 1) := by decide +kernel
theorem dX12_readsGoods_82 : decode cX12_readsGoods 82 = .ok (.iadd, 1) := by decide +kernel
theorem dX12_readsGoods_83 : decode cX12_readsGoods 83 = .ok (.iload_n 2, 1) := by decide +kernel
theorem dX12_readsGoods_84 : decode cX12_readsGoods 84 = .ok (.iastore, 1) := by decide +kernel
theorem dX12_readsGoods_85 : decode cX12_readsGoods 85 = .ok (.aload_n 0, 1) := by decide +kernel
theorem dX12_readsGoods_86 : decode cX12_readsGoods 86 = .ok (.getfield 30, 3) := by decide +kernel
theorem dX12_readsGoods_89 : decode cX12_readsGoods 89 = .ok (.iconst 3, 1) := by decide +kernel
theorem dX12_readsGoods_90 : decode cX12_readsGoods 90 = .ok (.aload_n 0, 1) := by decide +kernel
theorem dX12_readsGoods_91 : decode cX12_readsGoods 91 = .ok (.getfield 87, 3) := by decide +kernel
theorem dX12_readsGoods_94 : decode cX12_readsGoods 94 = .ok (.imul, 1) := by decide +kernel
theorem dX12_readsGoods_95 : decode cX12_readsGoods 95 = .ok (.iconst 2, 1) := by decide +kernel
theorem dX12_readsGoods_96 : decode cX12_readsGoods 96 = .ok (.iadd, 1) := by decide +kernel
theorem dX12_readsGoods_97 : decode cX12_readsGoods 97 = .ok (.iload_n 3, 1) := by decide +kernel
theorem dX12_readsGoods_98 : decode cX12_readsGoods 98 = .ok (.iastore, 1) := by decide +kernel
theorem dX12_readsGoods_99 : decode cX12_readsGoods 99 = .ok (.aload_n 0, 1) := by decide +kernel
theorem dX12_readsGoods_100 : decode cX12_readsGoods 100 = .ok (.dup, 1) := by decide +kernel
theorem dX12_readsGoods_101 : decode cX12_readsGoods 101 = .ok (.getfield 87, 3) := by decide +kernel
theorem dX12_readsGoods_104 : decode cX12_readsGoods 104 = .ok (.iconst 1, 1) := by decide +kernel
theorem dX12_readsGoods_105 : decode cX12_readsGoods 105 = .ok (.iadd, 1) := by decide +kernel
theorem dX12_readsGoods_106 : decode cX12_readsGoods 106 = .ok (.putfield 87, 3) := by decide +kernel
theorem dX12_readsGoods_109 : decode cX12_readsGoods 109 = .ok (.iconst 1, 1) := by decide +kernel
theorem dX12_readsGoods_110 : decode cX12_readsGoods 110 = .ok (.ireturn, 1) := by decide +kernel
set_option maxRecDepth 100000 in
set_option maxHeartbeats 4000000 in
theorem c_X12_readsGoods {g : Gv} {l : Launch} (p0 : Nat) (w0 : Wd) (rz : Int32) (wz : Wd) (hf : f_X12_readsGoods p0 w0 = some (rz, wz)) : MI g l yX12_readsGoods cX12_readsGoods 4 .boolean 4 86 [rV g p0] w0 rz wz := by
  refine mi_of RX12 (by decide) rfl (Nat.le_of_ble_eq_true rfl) ?_
  intro X hg hll C hr h0
  subst hg; subst hll
  have t_51 : ∀ (v0 : Nat) (v1 : Int32) (v2 : Int32) (s0 : Int32) (w : Wd), f_X12_readsGoods_51 v0 v1 v2 s0 w = some (rz, wz) → Wk X 0 0 (QI X w0 rz wz) w [(0, rV (xg X) v0), (1, .int v1), (2, .int v2)] 51 [.int s0] := by
    intro v0 v1 v2 s0 w hf
    unfold f_X12_readsGoods_51 at hf
    refine k_istore_n C dX12_readsGoods_51 rfl (by decide) [(3, .int s0), (0, rV (xg X) v0), (1, .int v1), (2, .int v2)] rfl 52 rfl ?_
    refine k_iload_n C dX12_readsGoods_52 0 rfl 53 rfl ?_
    refine k_iconst C dX12_readsGoods_53 (-1) (by decide) 54 rfl ?_
    refine k_icmp_ne C dX12_readsGoods_54 hf 59 rfl 57 rfl (fun hf => ?_) (fun hf => ?_)
    · refine k_aload_n C dX12_readsGoods_59 1 rfl rfl 60 rfl ?_
      refine k_getR C fe_X12_30 rfl dX12_readsGoods_60 hf 63 rfl (fun r19 hf => ?_)
      refine k_iconst C dX12_readsGoods_63 (3) (by decide) 64 rfl ?_
      refine k_aload_n C dX12_readsGoods_64 1 rfl rfl 65 rfl ?_
      refine k_getI C fe_X12_87 rfl dX12_readsGoods_65 hf 68 rfl (fun x20 hf => ?_)
      refine k_imul C dX12_readsGoods_68 69 rfl ?_
      refine k_iload_n C dX12_readsGoods_69 2 rfl 70 rfl ?_
      refine k_iast C dX12_readsGoods_70 hf 71 rfl (fun w21 _ hf => ?_)
      refine k_aload_n C dX12_readsGoods_71 1 rfl rfl 72 rfl ?_
      refine k_getR C fe_X12_30 rfl dX12_readsGoods_72 hf 75 rfl (fun r22 hf => ?_)
      refine k_iconst C dX12_readsGoods_75 (3) (by decide) 76 rfl ?_
      refine k_aload_n C dX12_readsGoods_76 1 rfl rfl 77 rfl ?_
      refine k_getI C fe_X12_87 rfl dX12_readsGoods_77 hf 80 rfl (fun x23 hf => ?_)
      refine k_imul C dX12_readsGoods_80 81 rfl ?_
      refine k_iconst C dX12_readsGoods_81 (1) (by decide) 82 rfl ?_
      refine k_iadd C dX12_readsGoods_82 83 rfl ?_
      refine k_iload_n C dX12_readsGoods_83 3 rfl 84 rfl ?_
      refine k_iast C dX12_readsGoods_84 hf 85 rfl (fun w24 _ hf => ?_)
      refine k_aload_n C dX12_readsGoods_85 1 rfl rfl 86 rfl ?_
      refine k_getR C fe_X12_30 rfl dX12_readsGoods_86 hf 89 rfl (fun r25 hf => ?_)
      refine k_iconst C dX12_readsGoods_89 (3) (by decide) 90 rfl ?_
      refine k_aload_n C dX12_readsGoods_90 1 rfl rfl 91 rfl ?_
      refine k_getI C fe_X12_87 rfl dX12_readsGoods_91 hf 94 rfl (fun x26 hf => ?_)
      refine k_imul C dX12_readsGoods_94 95 rfl ?_
      refine k_iconst C dX12_readsGoods_95 (2) (by decide) 96 rfl ?_
      refine k_iadd C dX12_readsGoods_96 97 rfl ?_
      refine k_iload_n C dX12_readsGoods_97 0 rfl 98 rfl ?_
      refine k_iast C dX12_readsGoods_98 hf 99 rfl (fun w27 _ hf => ?_)
      refine k_aload_n C dX12_readsGoods_99 1 rfl rfl 100 rfl ?_
      refine k_dup C dX12_readsGoods_100 rfl 101 rfl ?_
      refine k_getI C fe_X12_87 rfl dX12_readsGoods_101 hf 104 rfl (fun x28 hf => ?_)
      refine k_iconst C dX12_readsGoods_104 (1) (by decide) 105 rfl ?_
      refine k_iadd C dX12_readsGoods_105 106 rfl ?_
      refine k_putI C fe_X12_87 rfl rfl dX12_readsGoods_106 hf 109 rfl (fun w29 _ hf => ?_)
      refine k_iconst C dX12_readsGoods_109 (1) (by decide) 110 rfl ?_
      exact k_zret C hr h0 dX12_readsGoods_110 hf
    · refine k_iconst C dX12_readsGoods_57 (0) (by decide) 58 rfl ?_
      exact k_zret C hr h0 dX12_readsGoods_58 hf
  have t_34 : ∀ (v0 : Nat) (v1 : Int32) (s0 : Int32) (w : Wd), f_X12_readsGoods_34 v0 v1 s0 w = some (rz, wz) → Wk X 0 0 (QI X w0 rz wz) w [(0, rV (xg X) v0), (1, .int v1)] 34 [.int s0] := by
    intro v0 v1 s0 w hf
    unfold f_X12_readsGoods_34 at hf
    refine k_istore_n C dX12_readsGoods_34 rfl (by decide) [(2, .int s0), (0, rV (xg X) v0), (1, .int v1)] rfl 35 rfl ?_
    refine k_iload_n C dX12_readsGoods_35 0 rfl 36 rfl ?_
    refine k_iconst C dX12_readsGoods_36 (-1) (by decide) 37 rfl ?_
    refine k_icmp_ne C dX12_readsGoods_37 hf 44 rfl 40 rfl (fun hf => ?_) (fun hf => ?_)
    · refine k_aload_n C dX12_readsGoods_44 1 rfl rfl 45 rfl ?_
      refine k_iconst C dX12_readsGoods_45 (0) (by decide) 46 rfl ?_
      refine k_bipush C dX12_readsGoods_46 (40) (by decide) 48 rfl ?_
      refine k_callV_i C ye_X12_number ve_X12_90 ⟨rfl, rfl⟩ ⟨rfl, rfl⟩ dX12_readsGoods_48 [.int (0 : Int32), .int (40 : Int32)] rfl rfl (Nat.le_of_ble_eq_true rfl) (c_X12_number _ _ _ _) hf 51 rfl (fun x31 w30 hf => ?_)
      refine k_sub [1, 2, 0] rfl ?_
      exact t_51 _ _ _ _ w30 hf
    · refine k_iconst C dX12_readsGoods_40 (-1) (by decide) 41 rfl ?_
      refine k_goto C dX12_readsGoods_41 51 rfl ?_
      refine k_sub [1, 2, 0] rfl ?_
      exact t_51 _ _ _ _ w hf
  unfold f_X12_readsGoods at hf
  refine k_sub (lv2 := [(0, rV (xg X) p0)]) [0] rfl ?_
  refine k_aload_n C dX12_readsGoods_0 0 rfl rfl 1 rfl ?_
  refine k_getI C fe_X12_87 rfl dX12_readsGoods_1 hf 4 rfl (fun x32 hf => ?_)
  refine k_bipush C dX12_readsGoods_4 (6) (by decide) 6 rfl ?_
  refine k_icmp_ne C dX12_readsGoods_6 hf 11 rfl 9 rfl (fun hf => ?_) (fun hf => ?_)
  · refine k_aload_n C dX12_readsGoods_11 0 rfl rfl 12 rfl ?_
    refine k_iconst C dX12_readsGoods_12 (0) (by decide) 13 rfl ?_
    refine k_iconst C dX12_readsGoods_13 (5) (by decide) 14 rfl ?_
    refine k_callV_i C ye_X12_number ve_X12_90 ⟨rfl, rfl⟩ ⟨rfl, rfl⟩ dX12_readsGoods_14 [.int (0 : Int32), .int (5 : Int32)] rfl rfl (Nat.le_of_ble_eq_true rfl) (c_X12_number _ _ _ _) hf 17 rfl (fun x34 w33 hf => ?_)
    refine k_istore_n C dX12_readsGoods_17 rfl (by decide) [(1, .int x34), (0, rV (xg X) p0)] rfl 18 rfl ?_
    refine k_iload_n C dX12_readsGoods_18 0 rfl 19 rfl ?_
    refine k_iconst C dX12_readsGoods_19 (-1) (by decide) 20 rfl ?_
    refine k_icmp_ne C dX12_readsGoods_20 hf 27 rfl 23 rfl (fun hf => ?_) (fun hf => ?_)
    · refine k_aload_n C dX12_readsGoods_27 1 rfl rfl 28 rfl ?_
      refine k_iconst C dX12_readsGoods_28 (1) (by decide) 29 rfl ?_
      refine k_bipush C dX12_readsGoods_29 (9) (by decide) 31 rfl ?_
      refine k_callV_i C ye_X12_number ve_X12_90 ⟨rfl, rfl⟩ ⟨rfl, rfl⟩ dX12_readsGoods_31 [.int (1 : Int32), .int (9 : Int32)] rfl rfl (Nat.le_of_ble_eq_true rfl) (c_X12_number _ _ _ _) hf 34 rfl (fun x36 w35 hf => ?_)
      refine k_sub [1, 0] rfl ?_
      exact t_34 _ _ _ w35 hf
    · refine k_iconst C dX12_readsGoods_23 (-1) (by decide) 24 rfl ?_
      refine k_goto C dX12_readsGoods_24 34 rfl ?_
      refine k_sub [1, 0] rfl ?_
      exact t_34 _ _ _ w33 hf
  · refine k_iconst C dX12_readsGoods_9 (0) (by decide) 10 rfl ?_
    exact k_zret C hr h0 dX12_readsGoods_10 hf
theorem dX12_readsItem_0 : decode cX12_readsItem 0 = .ok (.iload_n 1, 1) := by decide +kernel
theorem dX12_readsItem_1 : decode cX12_readsItem 1 = .ok (.tableswitch 114 0 3 #[31, 56, 61, 89], 31) := by decide +kernel
theorem dX12_readsItem_32 : decode cX12_readsItem 32 = .ok (.aload_n 0, 1) := by decide +kernel
theorem dX12_readsItem_33 : decode cX12_readsItem 33 = .ok (.aload_n 0, 1) := by decide +kernel
theorem dX12_readsItem_34 : decode cX12_readsItem 34 = .ok (.iconst 0, 1) := by decide +kernel
theorem dX12_readsItem_35 : decode cX12_readsItem 35 = .ok (.bipush 99, 2) := by decide +kernel
theorem dX12_readsItem_37 : decode cX12_readsItem 37 = .ok (.invokevirtual 90, 3) := by decide +kernel
theorem dX12_readsItem_40 : decode cX12_readsItem 40 = .ok (.putfield 94, 3) := by decide +kernel
theorem dX12_readsItem_43 : decode cX12_readsItem 43 = .ok (.aload_n 0, 1) := by decide +kernel
theorem dX12_readsItem_44 : decode cX12_readsItem 44 = .ok (.getfield 94, 3) := by decide +kernel
theorem dX12_readsItem_47 : decode cX12_readsItem 47 = .ok (.iconst (-1), 1) := by decide +kernel
theorem dX12_readsItem_48 : decode cX12_readsItem 48 = .ok (.if_icmp .eq 7, 3) := by decide +kernel
theorem dX12_readsItem_51 : decode cX12_readsItem 51 = .ok (.iconst 1, 1) := by decide +kernel
theorem dX12_readsItem_52 : decode cX12_readsItem 52 = .ok (.goto 4, 3) := by decide +kernel
theorem dX12_readsItem_55 : decode cX12_readsItem 55 = .ok (.iconst 0, 1) := by decide +kernel
theorem dX12_readsItem_56 : decode cX12_readsItem 56 = .ok (.ireturn, 1) := by decide +kernel
theorem dX12_readsItem_57 : decode cX12_readsItem 57 = .ok (.aload_n 0, 1) := by decide +kernel
theorem dX12_readsItem_58 : decode cX12_readsItem 58 = .ok (.invokevirtual 97, 3) := by decide +kernel
theorem dX12_readsItem_61 : decode cX12_readsItem 61 = .ok (.ireturn, 1) := by decide +kernel
theorem dX12_readsItem_62 : decode cX12_readsItem 62 = .ok (.aload_n 0, 1) := by decide +kernel
theorem dX12_readsItem_63 : decode cX12_readsItem 63 = .ok (.iconst 0, 1) := by decide +kernel
theorem dX12_readsItem_64 : decode cX12_readsItem 64 = .ok (.aload_n 0, 1) := by decide +kernel
theorem dX12_readsItem_65 : decode cX12_readsItem 65 = .ok (.getfield 87, 3) := by decide +kernel
theorem dX12_readsItem_68 : decode cX12_readsItem 68 = .ok (.iconst 1, 1) := by decide +kernel
theorem dX12_readsItem_69 : decode cX12_readsItem 69 = .ok (.isub, 1) := by decide +kernel
theorem dX12_readsItem_70 : decode cX12_readsItem 70 = .ok (.invokevirtual 90, 3) := by decide +kernel
theorem dX12_readsItem_73 : decode cX12_readsItem 73 = .ok (.istore_n 2, 1) := by decide +kernel
theorem dX12_readsItem_74 : decode cX12_readsItem 74 = .ok (.aload_n 0, 1) := by decide +kernel
theorem dX12_readsItem_75 : decode cX12_readsItem 75 = .ok (.iload_n 2, 1) := by decide +kernel
theorem dX12_readsItem_76 : decode cX12_readsItem 76 = .ok (.putfield 101, 3) := by decide +kernel
theorem dX12_readsItem_79 : decode cX12_readsItem 79 = .ok (.iload_n 2, 1) := by decide +kernel
theorem dX12_readsItem_80 : decode cX12_readsItem 80 = .ok (.iconst (-1), 1) := by decide +kernel
theorem dX12_readsItem_81 : decode cX12_readsItem 81 = .ok (.if_icmp .eq 7, 3) := by decide +kernel
theorem dX12_readsItem_84 : decode cX12_readsItem 84 = .ok (.iconst 1, 1) := by decide +kernel
theorem dX12_readsItem_85 : decode cX12_readsItem 85 = .ok (.goto 4, 3) := by decide +kernel
theorem dX12_readsItem_88 : decode cX12_readsItem 88 = .ok (.iconst 0, 1) := by decide +kernel
theorem dX12_readsItem_89 : decode cX12_readsItem 89 = .ok (.ireturn, 1) := by decide +kernel
theorem dX12_readsItem_90 : decode cX12_readsItem 90 = .ok (.aload_n 0, 1) := by decide +kernel
theorem dX12_readsItem_91 : decode cX12_readsItem 91 = .ok (.aload_n 0, 1) := by decide +kernel
theorem dX12_readsItem_92 : decode cX12_readsItem 92 = .ok (.iconst 0, 1) := by decide +kernel
theorem dX12_readsItem_93 : decode cX12_readsItem 93 = .ok (.bipush 31, 2) := by decide +kernel
theorem dX12_readsItem_95 : decode cX12_readsItem 95 = .ok (.invokevirtual 90, 3) := by decide +kernel
theorem dX12_readsItem_98 : decode cX12_readsItem 98 = .ok (.putfield 104, 3) := by decide +kernel
theorem dX12_readsItem_101 : decode cX12_readsItem 101 = .ok (.aload_n 0, 1) := by decide +kernel
theorem dX12_readsItem_102 : decode cX12_readsItem 102 = .ok (.getfield 104, 3) := by decide +kernel
theorem dX12_readsItem_105 : decode cX12_readsItem 105 = .ok (.iconst (-1), 1) := by decide +kernel
theorem dX12_readsItem_106 : decode cX12_readsItem 106 = .ok (.if_icmp .eq 7, 3) := by decide +kernel
theorem dX12_readsItem_109 : decode cX12_readsItem 109 = .ok (.iconst 1, 1) := by decide +kernel
theorem dX12_readsItem_110 : decode cX12_readsItem 110 = .ok (.goto 4, 3) := by decide +kernel
theorem dX12_readsItem_113 : decode cX12_readsItem 113 = .ok (.iconst 0, 1) := by decide +kernel
theorem dX12_readsItem_114 : decode cX12_readsItem 114 = .ok (.ireturn, 1) := by decide +kernel
theorem dX12_readsItem_115 : decode cX12_readsItem 115 = .ok (.aload_n 0, 1) := by decide +kernel
theorem dX12_readsItem_116 : decode cX12_readsItem 116 = .ok (.aload_n 0, 1) := by decide +kernel
theorem dX12_readsItem_117 : decode cX12_readsItem 117 = .ok (.iconst 0, 1) := by decide +kernel
theorem dX12_readsItem_118 : decode cX12_readsItem 118 = .ok (.bipush 9, 2) := by decide +kernel
theorem dX12_readsItem_120 : decode cX12_readsItem 120 = .ok (.invokevirtual 90, 3) := by decide +kernel
theorem dX12_readsItem_123 : decode cX12_readsItem 123 = .ok (.putfield 107, 3) := by decide +kernel
theorem dX12_readsItem_126 : decode cX12_readsItem 126 = .ok (.aload_n 0, 1) := by decide +kernel
theorem dX12_readsItem_127 : decode cX12_readsItem 127 = .ok (.getfield 107, 3) := by decide +kernel
theorem dX12_readsItem_130 : decode cX12_readsItem 130 = .ok (.iconst (-1), 1) := by decide +kernel
theorem dX12_readsItem_131 : decode cX12_readsItem 131 = .ok (.if_icmp .eq 7, 3) := by decide +kernel
theorem dX12_readsItem_134 : decode cX12_readsItem 134 = .ok (.iconst 1, 1) := by decide +kernel
theorem dX12_readsItem_135 : decode cX12_readsItem 135 = .ok (.goto 4, 3) := by decide +kernel
theorem dX12_readsItem_138 : decode cX12_readsItem 138 = .ok (.iconst 0, 1) := by decide +kernel
theorem dX12_readsItem_139 : decode cX12_readsItem 139 = .ok (.ireturn, 1) := by decide +kernel
set_option maxRecDepth 100000 in
set_option maxHeartbeats 4000000 in
theorem c_X12_readsItem {g : Gv} {l : Launch} (p0 : Nat) (p1 : Int32) (w0 : Wd) (rz : Int32) (wz : Wd) (hf : f_X12_readsItem p0 p1 w0 = some (rz, wz)) : MI g l yX12_readsItem cX12_readsItem 3 .boolean 5 109 [rV g p0, .int p1] w0 rz wz := by
  refine mi_of RX12 (by decide) rfl (Nat.le_of_ble_eq_true rfl) ?_
  intro X hg hll C hr h0
  subst hg; subst hll
  have t_139 : ∀ (s0 : Int32) (w : Wd), f_X12_readsItem_139 s0 w = some (rz, wz) → Wk X 0 0 (QI X w0 rz wz) w [] 139 [.int s0] := by
    intro s0 w hf
    unfold f_X12_readsItem_139 at hf
    exact k_zret C hr h0 dX12_readsItem_139 hf
  have t_114 : ∀ (s0 : Int32) (w : Wd), f_X12_readsItem_114 s0 w = some (rz, wz) → Wk X 0 0 (QI X w0 rz wz) w [] 114 [.int s0] := by
    intro s0 w hf
    unfold f_X12_readsItem_114 at hf
    exact k_zret C hr h0 dX12_readsItem_114 hf
  have t_89 : ∀ (s0 : Int32) (w : Wd), f_X12_readsItem_89 s0 w = some (rz, wz) → Wk X 0 0 (QI X w0 rz wz) w [] 89 [.int s0] := by
    intro s0 w hf
    unfold f_X12_readsItem_89 at hf
    exact k_zret C hr h0 dX12_readsItem_89 hf
  have t_56 : ∀ (s0 : Int32) (w : Wd), f_X12_readsItem_56 s0 w = some (rz, wz) → Wk X 0 0 (QI X w0 rz wz) w [] 56 [.int s0] := by
    intro s0 w hf
    unfold f_X12_readsItem_56 at hf
    exact k_zret C hr h0 dX12_readsItem_56 hf
  unfold f_X12_readsItem at hf
  refine k_sub (lv2 := [(0, rV (xg X) p0), (1, .int p1)]) [0, 1] rfl ?_
  refine k_iload_n C dX12_readsItem_0 1 rfl 1 rfl ?_
  refine k_split hf (fun he hf => ?_) (fun hn0 hf => ?_)
  · refine k_tswIn (off := 31) C dX12_readsItem_1 (0) he (by decide) 32 rfl ?_
    refine k_aload_n C dX12_readsItem_32 0 rfl rfl 33 rfl ?_
    refine k_aload_n C dX12_readsItem_33 0 rfl rfl 34 rfl ?_
    refine k_iconst C dX12_readsItem_34 (0) (by decide) 35 rfl ?_
    refine k_bipush C dX12_readsItem_35 (99) (by decide) 37 rfl ?_
    refine k_callV_i C ye_X12_number ve_X12_90 ⟨rfl, rfl⟩ ⟨rfl, rfl⟩ dX12_readsItem_37 [.int (0 : Int32), .int (99 : Int32)] rfl rfl (Nat.le_of_ble_eq_true rfl) (c_X12_number _ _ _ _) hf 40 rfl (fun x20 w19 hf => ?_)
    refine k_putI C fe_X12_94 rfl rfl dX12_readsItem_40 hf 43 rfl (fun w21 _ hf => ?_)
    refine k_aload_n C dX12_readsItem_43 0 rfl rfl 44 rfl ?_
    refine k_getI C fe_X12_94 rfl dX12_readsItem_44 hf 47 rfl (fun x22 hf => ?_)
    refine k_iconst C dX12_readsItem_47 (-1) (by decide) 48 rfl ?_
    refine k_icmp_eq C dX12_readsItem_48 hf 55 rfl 51 rfl (fun hf => ?_) (fun hf => ?_)
    · refine k_iconst C dX12_readsItem_55 (0) (by decide) 56 rfl ?_
      refine k_sub [] rfl ?_
      exact t_56 _ w21 hf
    · refine k_iconst C dX12_readsItem_51 (1) (by decide) 52 rfl ?_
      refine k_goto C dX12_readsItem_52 56 rfl ?_
      refine k_sub [] rfl ?_
      exact t_56 _ w21 hf
  · skip
    refine k_split hf (fun he hf => ?_) (fun hn1 hf => ?_)
    · refine k_tswIn (off := 56) C dX12_readsItem_1 (1) he (by decide) 57 rfl ?_
      refine k_aload_n C dX12_readsItem_57 0 rfl rfl 58 rfl ?_
      refine k_callV_i C ye_X12_readsGoods ve_X12_97 ⟨rfl, rfl⟩ ⟨rfl, rfl⟩ dX12_readsItem_58 [] rfl rfl (Nat.le_of_ble_eq_true rfl) (c_X12_readsGoods _ _) hf 61 rfl (fun x24 w23 hf => ?_)
      exact k_zret C hr h0 dX12_readsItem_61 hf
    · skip
      refine k_split hf (fun he hf => ?_) (fun hn2 hf => ?_)
      · refine k_tswIn (off := 61) C dX12_readsItem_1 (2) he (by decide) 62 rfl ?_
        refine k_aload_n C dX12_readsItem_62 0 rfl rfl 63 rfl ?_
        refine k_iconst C dX12_readsItem_63 (0) (by decide) 64 rfl ?_
        refine k_aload_n C dX12_readsItem_64 0 rfl rfl 65 rfl ?_
        refine k_getI C fe_X12_87 rfl dX12_readsItem_65 hf 68 rfl (fun x25 hf => ?_)
        refine k_iconst C dX12_readsItem_68 (1) (by decide) 69 rfl ?_
        refine k_isub C dX12_readsItem_69 70 rfl ?_
        refine k_callV_i C ye_X12_number ve_X12_90 ⟨rfl, rfl⟩ ⟨rfl, rfl⟩ dX12_readsItem_70 [.int (0 : Int32), .int (x25 - (1 : Int32))] rfl rfl (Nat.le_of_ble_eq_true rfl) (c_X12_number _ _ _ _) hf 73 rfl (fun x27 w26 hf => ?_)
        refine k_istore_n C dX12_readsItem_73 rfl (by decide) [(2, .int x27), (0, rV (xg X) p0), (1, .int p1)] rfl 74 rfl ?_
        refine k_aload_n C dX12_readsItem_74 1 rfl rfl 75 rfl ?_
        refine k_iload_n C dX12_readsItem_75 0 rfl 76 rfl ?_
        refine k_putI C fe_X12_101 rfl rfl dX12_readsItem_76 hf 79 rfl (fun w28 _ hf => ?_)
        refine k_iload_n C dX12_readsItem_79 0 rfl 80 rfl ?_
        refine k_iconst C dX12_readsItem_80 (-1) (by decide) 81 rfl ?_
        refine k_icmp_eq C dX12_readsItem_81 hf 88 rfl 84 rfl (fun hf => ?_) (fun hf => ?_)
        · refine k_iconst C dX12_readsItem_88 (0) (by decide) 89 rfl ?_
          refine k_sub [] rfl ?_
          exact t_89 _ w28 hf
        · refine k_iconst C dX12_readsItem_84 (1) (by decide) 85 rfl ?_
          refine k_goto C dX12_readsItem_85 89 rfl ?_
          refine k_sub [] rfl ?_
          exact t_89 _ w28 hf
      · skip
        refine k_split hf (fun he hf => ?_) (fun hn3 hf => ?_)
        · refine k_tswIn (off := 89) C dX12_readsItem_1 (3) he (by decide) 90 rfl ?_
          refine k_aload_n C dX12_readsItem_90 0 rfl rfl 91 rfl ?_
          refine k_aload_n C dX12_readsItem_91 0 rfl rfl 92 rfl ?_
          refine k_iconst C dX12_readsItem_92 (0) (by decide) 93 rfl ?_
          refine k_bipush C dX12_readsItem_93 (31) (by decide) 95 rfl ?_
          refine k_callV_i C ye_X12_number ve_X12_90 ⟨rfl, rfl⟩ ⟨rfl, rfl⟩ dX12_readsItem_95 [.int (0 : Int32), .int (31 : Int32)] rfl rfl (Nat.le_of_ble_eq_true rfl) (c_X12_number _ _ _ _) hf 98 rfl (fun x30 w29 hf => ?_)
          refine k_putI C fe_X12_104 rfl rfl dX12_readsItem_98 hf 101 rfl (fun w31 _ hf => ?_)
          refine k_aload_n C dX12_readsItem_101 0 rfl rfl 102 rfl ?_
          refine k_getI C fe_X12_104 rfl dX12_readsItem_102 hf 105 rfl (fun x32 hf => ?_)
          refine k_iconst C dX12_readsItem_105 (-1) (by decide) 106 rfl ?_
          refine k_icmp_eq C dX12_readsItem_106 hf 113 rfl 109 rfl (fun hf => ?_) (fun hf => ?_)
          · refine k_iconst C dX12_readsItem_113 (0) (by decide) 114 rfl ?_
            refine k_sub [] rfl ?_
            exact t_114 _ w31 hf
          · refine k_iconst C dX12_readsItem_109 (1) (by decide) 110 rfl ?_
            refine k_goto C dX12_readsItem_110 114 rfl ?_
            refine k_sub [] rfl ?_
            exact t_114 _ w31 hf
        · skip
          refine k_tswOut C dX12_readsItem_1 (tsw_out [(0 : Int32), (1 : Int32), (2 : Int32), (3 : Int32)] (List.forall_mem_cons.mpr ⟨hn0, (List.forall_mem_cons.mpr ⟨hn1, (List.forall_mem_cons.mpr ⟨hn2, (List.forall_mem_cons.mpr ⟨hn3, (fun _ h => absurd h List.not_mem_nil)⟩)⟩)⟩)⟩) (by decide)) 115 rfl ?_
          refine k_aload_n C dX12_readsItem_115 0 rfl rfl 116 rfl ?_
          refine k_aload_n C dX12_readsItem_116 0 rfl rfl 117 rfl ?_
          refine k_iconst C dX12_readsItem_117 (0) (by decide) 118 rfl ?_
          refine k_bipush C dX12_readsItem_118 (9) (by decide) 120 rfl ?_
          refine k_callV_i C ye_X12_number ve_X12_90 ⟨rfl, rfl⟩ ⟨rfl, rfl⟩ dX12_readsItem_120 [.int (0 : Int32), .int (9 : Int32)] rfl rfl (Nat.le_of_ble_eq_true rfl) (c_X12_number _ _ _ _) hf 123 rfl (fun x34 w33 hf => ?_)
          refine k_putI C fe_X12_107 rfl rfl dX12_readsItem_123 hf 126 rfl (fun w35 _ hf => ?_)
          refine k_aload_n C dX12_readsItem_126 0 rfl rfl 127 rfl ?_
          refine k_getI C fe_X12_107 rfl dX12_readsItem_127 hf 130 rfl (fun x36 hf => ?_)
          refine k_iconst C dX12_readsItem_130 (-1) (by decide) 131 rfl ?_
          refine k_icmp_eq C dX12_readsItem_131 hf 138 rfl 134 rfl (fun hf => ?_) (fun hf => ?_)
          · refine k_iconst C dX12_readsItem_138 (0) (by decide) 139 rfl ?_
            refine k_sub [] rfl ?_
            exact t_139 _ w35 hf
          · refine k_iconst C dX12_readsItem_134 (1) (by decide) 135 rfl ?_
            refine k_goto C dX12_readsItem_135 139 rfl ?_
            refine k_sub [] rfl ?_
            exact t_139 _ w35 hf
theorem dX12_wordHere_0 : decode cX12_wordHere 0 = .ok (.iconst 0, 1) := by decide +kernel
theorem dX12_wordHere_1 : decode cX12_wordHere 1 = .ok (.istore_n 1, 1) := by decide +kernel
theorem dX12_wordHere_2 : decode cX12_wordHere 2 = .ok (.iload_n 1, 1) := by decide +kernel
theorem dX12_wordHere_3 : decode cX12_wordHere 3 = .ok (.iconst 5, 1) := by decide +kernel
theorem dX12_wordHere_4 : decode cX12_wordHere 4 = .ok (.if_icmp .ge 30, 3) := by decide +kernel
theorem dX12_wordHere_7 : decode cX12_wordHere 7 = .ok (.aload_n 0, 1) := by decide +kernel
theorem dX12_wordHere_8 : decode cX12_wordHere 8 = .ok (.aload_n 0, 1) := by decide +kernel
theorem dX12_wordHere_9 : decode cX12_wordHere 9 = .ok (.getfield 71, 3) := by decide +kernel
theorem dX12_wordHere_12 : decode cX12_wordHere 12 = .ok (.invokevirtual 74, 3) := by decide +kernel
theorem dX12_wordHere_15 : decode cX12_wordHere 15 = .ok (.ifCond .eq 13, 3) := by decide +kernel
theorem dX12_wordHere_18 : decode cX12_wordHere 18 = .ok (.aload_n 0, 1) := by decide +kernel
theorem dX12_wordHere_19 : decode cX12_wordHere 19 = .ok (.iload_n 1, 1) := by decide +kernel
theorem dX12_wordHere_20 : decode cX12_wordHere 20 = .ok (.invokevirtual 81, 3) := by decide +kernel
theorem dX12_wordHere_23 : decode cX12_wordHere 23 = .ok (.ifCond .eq 5, 3) := by decide +kernel
theorem dX12_wordHere_26 : decode cX12_wordHere 26 = .ok (.iload_n 1, 1) := by decide +kernel
theorem dX12_wordHere_27 : decode cX12_wordHere 27 = .ok (.ireturn, 1) := by decide +kernel
theorem dX12_wordHere_28 : decode cX12_wordHere 28 = .ok (.iinc 1 1, 3) := by decide +kernel
theorem dX12_wordHere_31 : decode cX12_wordHere 31 = .ok (.goto (-29), 3) := by decide +kernel
theorem dX12_wordHere_34 : decode cX12_wordHere 34 = .ok (.iconst (-1), 1) := by decide +kernel
theorem dX12_wordHere_35 : decode cX12_wordHere 35 = .ok (.ireturn, 1) := by decide +kernel
set_option maxRecDepth 100000 in
set_option maxHeartbeats 4000000 in
theorem c_X12_wordHere {g : Gv} {l : Launch} (p0 : Nat) (w0 : Wd) (rz : Int32) (wz : Wd) (hf : f_X12_wordHere p0 w0 = some (rz, wz)) : MI g l yX12_wordHere cX12_wordHere 2 .int 2 43 [rV g p0] w0 rz wz := by
  refine mi_of RX12 (by decide) rfl (Nat.le_of_ble_eq_true rfl) ?_
  intro X hg hll C hr h0
  subst hg; subst hll
  have t_2 : ∀ (n : Nat) (v0 : Nat) (v1 : Int32) (w : Wd), f_X12_wordHere_2 n v0 v1 w = some (rz, wz) → Wk X 0 0 (QI X w0 rz wz) w [(0, rV (xg X) v0), (1, .int v1)] 2 [] := by
    intro n
    induction n with
    | zero => intro v0 v1 w hf; rw [f_X12_wordHere_2] at hf; cases hf
    | succ n2 ih2 =>
      have t_28 : ∀ (v0 : Nat) (v1 : Int32) (w : Wd), f_X12_wordHere_28 (f_X12_wordHere_2 n2) v0 v1 w = some (rz, wz) → Wk X 0 0 (QI X w0 rz wz) w [(0, rV (xg X) v0), (1, .int v1)] 28 [] := by
        intro v0 v1 w hf
        unfold f_X12_wordHere_28 at hf
        refine k_iinc C dX12_wordHere_28 1 rfl (by decide) (by decide) [(1, .int (v1 + (1 : Int32))), (0, rV (xg X) v0)] rfl 31 rfl ?_
        refine k_goto C dX12_wordHere_31 2 rfl ?_
        refine k_sub [1, 0] rfl ?_
        exact ih2 _ _ w hf
      intro v0 v1 w hf
      rw [f_X12_wordHere_2] at hf
      refine k_iload_n C dX12_wordHere_2 1 rfl 3 rfl ?_
      refine k_iconst C dX12_wordHere_3 (5) (by decide) 4 rfl ?_
      refine k_icmp_ge C dX12_wordHere_4 hf 34 rfl 7 rfl (fun hf => ?_) (fun hf => ?_)
      · refine k_iconst C dX12_wordHere_34 (-1) (by decide) 35 rfl ?_
        exact k_iret C hr h0 dX12_wordHere_35 hf
      · refine k_aload_n C dX12_wordHere_7 0 rfl rfl 8 rfl ?_
        refine k_aload_n C dX12_wordHere_8 0 rfl rfl 9 rfl ?_
        refine k_getI C fe_X12_71 rfl dX12_wordHere_9 hf 12 rfl (fun x6 hf => ?_)
        refine k_callV_i C ye_X12_isLetter ve_X12_74 ⟨rfl, rfl⟩ ⟨rfl, rfl⟩ dX12_wordHere_12 [.int x6] rfl rfl (Nat.le_of_ble_eq_true rfl) (c_X12_isLetter _ _ _) hf 15 rfl (fun x8 w7 hf => ?_)
        refine k_if_eq C dX12_wordHere_15 hf 28 rfl 18 rfl (fun hf => ?_) (fun hf => ?_)
        · refine k_sub [0, 1] rfl ?_
          exact t_28 _ _ w7 hf
        · refine k_aload_n C dX12_wordHere_18 0 rfl rfl 19 rfl ?_
          refine k_iload_n C dX12_wordHere_19 1 rfl 20 rfl ?_
          refine k_callV_i C ye_X12_isWord ve_X12_81 ⟨rfl, rfl⟩ ⟨rfl, rfl⟩ dX12_wordHere_20 [.int v1] rfl rfl (Nat.le_of_ble_eq_true rfl) (c_X12_isWord _ _ _) hf 23 rfl (fun x10 w9 hf => ?_)
          refine k_if_eq C dX12_wordHere_23 hf 28 rfl 26 rfl (fun hf => ?_) (fun hf => ?_)
          · refine k_sub [0, 1] rfl ?_
            exact t_28 _ _ w9 hf
          · refine k_iload_n C dX12_wordHere_26 1 rfl 27 rfl ?_
            exact k_iret C hr h0 dX12_wordHere_27 hf
  unfold f_X12_wordHere at hf
  refine k_sub (lv2 := [(0, rV (xg X) p0)]) [0] rfl ?_
  refine k_iconst C dX12_wordHere_0 (0) (by decide) 1 rfl ?_
  refine k_istore_n C dX12_wordHere_1 rfl (by decide) [(1, .int (0 : Int32)), (0, rV (xg X) p0)] rfl 2 rfl ?_
  refine k_sub [1, 0] rfl ?_
  exact t_2 4096 _ _ w0 hf
theorem dX12_readItems_0 : decode cX12_readItems 0 = .ok (.aload_n 0, 1) := by decide +kernel
theorem dX12_readItems_1 : decode cX12_readItems 1 = .ok (.iconst 0, 1) := by decide +kernel
theorem dX12_readItems_2 : decode cX12_readItems 2 = .ok (.putfield 68, 3) := by decide +kernel
theorem dX12_readItems_5 : decode cX12_readItems 5 = .ok (.aload_n 0, 1) := by decide +kernel
theorem dX12_readItems_6 : decode cX12_readItems 6 = .ok (.iconst 0, 1) := by decide +kernel
theorem dX12_readItems_7 : decode cX12_readItems 7 = .ok (.putfield 87, 3) := by decide +kernel
theorem dX12_readItems_10 : decode cX12_readItems 10 = .ok (.aload_n 0, 1) := by decide +kernel
theorem dX12_readItems_11 : decode cX12_readItems 11 = .ok (.iconst 0, 1) := by decide +kernel
theorem dX12_readItems_12 : decode cX12_readItems 12 = .ok (.putfield 104, 3) := by decide +kernel
theorem dX12_readItems_15 : decode cX12_readItems 15 = .ok (.aload_n 0, 1) := by decide +kernel
theorem dX12_readItems_16 : decode cX12_readItems 16 = .ok (.iconst 0, 1) := by decide +kernel
theorem dX12_readItems_17 : decode cX12_readItems 17 = .ok (.putfield 107, 3) := by decide +kernel
theorem dX12_readItems_20 : decode cX12_readItems 20 = .ok (.aload_n 0, 1) := by decide +kernel
theorem dX12_readItems_21 : decode cX12_readItems 21 = .ok (.iconst (-1), 1) := by decide +kernel
theorem dX12_readItems_22 : decode cX12_readItems 22 = .ok (.putfield 101, 3) := by decide +kernel
theorem dX12_readItems_25 : decode cX12_readItems 25 = .ok (.iconst 0, 1) := by decide +kernel
theorem dX12_readItems_26 : decode cX12_readItems 26 = .ok (.istore_n 1, 1) := by decide +kernel
theorem dX12_readItems_27 : decode cX12_readItems 27 = .ok (.aload_n 0, 1) := by decide +kernel
theorem dX12_readItems_28 : decode cX12_readItems 28 = .ok (.invokevirtual 84, 3) := by decide +kernel
theorem dX12_readItems_31 : decode cX12_readItems 31 = .ok (.iload_n 1, 1) := by decide +kernel
theorem dX12_readItems_32 : decode cX12_readItems 32 = .ok (.ifCond .eq 14, 3) := by decide +kernel
theorem dX12_readItems_35 : decode cX12_readItems 35 = .ok (.aload_n 0, 1) := by decide +kernel
theorem dX12_readItems_36 : decode cX12_readItems 36 = .ok (.getfield 71, 3) := by decide +kernel
theorem dX12_readItems_39 : decode cX12_readItems 39 = .ok (.aload_n 0, 1) := by decide +kernel
theorem dX12_readItems_40 : decode cX12_readItems 40 = .ok (.getfield 64, 3) := by decide +kernel
theorem dX12_readItems_43 : decode cX12_readItems 43 = .ok (.if_icmp .ge 85, 3) := by decide +kernel
theorem dX12_readItems_46 : decode cX12_readItems 46 = .ok (.aload_n 0, 1) := by decide +kernel
theorem dX12_readItems_47 : decode cX12_readItems 47 = .ok (.invokevirtual 110, 3) := by decide +kernel
theorem dX12_readItems_50 : decode cX12_readItems 50 = .ok (.istore_n 2, 1) := by decide +kernel
theorem dX12_readItems_51 : decode cX12_readItems 51 = .ok (.iload_n 2, 1) := by decide +kernel
theorem dX12_readItems_52 : decode cX12_readItems 52 = .ok (.iconst (-1), 1) := by decide +kernel
theorem dX12_readItems_53 : decode cX12_readItems 53 = .ok (.if_icmp .eq 32, 3) := by decide +kernel
theorem dX12_readItems_56 : decode cX12_readItems 56 = .ok (.iload_n 2, 1) := by decide +kernel
theorem dX12_readItems_57 : decode cX12_readItems 57 = .ok (.ifCond .ne 7, 3) := by decide +kernel
theorem dX12_readItems_60 : decode cX12_readItems 60 = .ok (.iconst 1, 1) := by decide +kernel
theorem dX12_readItems_61 : decode cX12_readItems 61 = .ok (.goto 4, 3) := by decide +kernel
theorem dX12_readItems_64 : decode cX12_readItems 64 = .ok (.iconst 0, 1) := by decide +kernel
theorem dX12_readItems_65 : decode cX12_readItems 65 = .ok (.iload_n 1, 1) := by decide +kernel
theorem dX12_readItems_66 : decode cX12_readItems 66 = .ok (.ifCond .ne 7, 3) := by decide +kernel
theorem dX12_readItems_69 : decode cX12_readItems 69 = .ok (.iconst 1, 1) := by decide +kernel
theorem dX12_readItems_70 : decode cX12_readItems 70 = .ok (.goto 4, 3) := by decide +kernel
theorem dX12_readItems_73 : decode cX12_readItems 73 = .ok (.iconst 0, 1) := by decide +kernel
theorem dX12_readItems_74 : decode cX12_readItems 74 = .ok (.if_icmp .ne 11, 3) := by decide +kernel
theorem dX12_readItems_77 : decode cX12_readItems 77 = .ok (.aload_n 0, 1) := by decide +kernel
theorem dX12_readItems_78 : decode cX12_readItems 78 = .ok (.iload_n 2, 1) := by decide +kernel
theorem dX12_readItems_79 : decode cX12_readItems 79 = .ok (.invokevirtual 114, 3) := by decide +kernel
theorem dX12_readItems_82 : decode cX12_readItems 82 = .ok (.ifCond .ne 5, 3) := by decide +kernel
theorem dX12_readItems_85 : decode cX12_readItems 85 = .ok (.iconst (-1), 1) := by decide +kernel
theorem dX12_readItems_86 : decode cX12_readItems 86 = .ok (.ireturn, 1) := by decide +kernel
theorem dX12_readItems_87 : decode cX12_readItems 87 = .ok (.aload_n 0, 1) := by decide +kernel
theorem dX12_readItems_88 : decode cX12_readItems 88 = .ok (.invokevirtual 84, 3) := by decide +kernel
theorem dX12_readItems_91 : decode cX12_readItems 91 = .ok (.aload_n 0, 1) := by decide +kernel
theorem dX12_readItems_92 : decode cX12_readItems 92 = .ok (.getfield 71, 3) := by decide +kernel
theorem dX12_readItems_95 : decode cX12_readItems 95 = .ok (.aload_n 0, 1) := by decide +kernel
theorem dX12_readItems_96 : decode cX12_readItems 96 = .ok (.getfield 64, 3) := by decide +kernel
theorem dX12_readItems_99 : decode cX12_readItems 99 = .ok (.if_icmp .eq 17, 3) := by decide +kernel
theorem dX12_readItems_102 : decode cX12_readItems 102 = .ok (.aload_n 0, 1) := by decide +kernel
theorem dX12_readItems_103 : decode cX12_readItems 103 = .ok (.getfield 24, 3) := by decide +kernel
theorem dX12_readItems_106 : decode cX12_readItems 106 = .ok (.aload_n 0, 1) := by decide +kernel
theorem dX12_readItems_107 : decode cX12_readItems 107 = .ok (.getfield 71, 3) := by decide +kernel
theorem dX12_readItems_110 : decode cX12_readItems 110 = .ok (.iaload, 1) := by decide +kernel
theorem dX12_readItems_111 : decode cX12_readItems 111 = .ok (.bipush 59, 2) := by decide +kernel
theorem dX12_readItems_113 : decode cX12_readItems 113 = .ok (.if_icmp .eq 5, 3) := by decide +kernel
theorem dX12_readItems_116 : decode cX12_readItems 116 = .ok (.iconst (-1), 1) := by decide +kernel
theorem dX12_readItems_117 : decode cX12_readItems 117 = .ok (.ireturn, 1) := by decide +kernel
theorem dX12_readItems_118 : decode cX12_readItems 118 = .ok (.iinc 1 1, 3) := by decide +kernel
theorem dX12_readItems_121 : decode cX12_readItems 121 = .ok (.aload_n 0, 1) := by decide +kernel
theorem dX12_readItems_122 : decode cX12_readItems 122 = .ok (.invokevirtual 84, 3) := by decide +kernel
theorem dX12_readItems_125 : decode cX12_readItems 125 = .ok (.goto (-94), 3) := by decide +kernel
theorem dX12_readItems_128 : decode cX12_readItems 128 = .ok (.iload_n 1, 1) := by decide +kernel
theorem dX12_readItems_129 : decode cX12_readItems 129 = .ok (.ireturn, 1) := by decide +kernel
set_option maxRecDepth 100000 in
set_option maxHeartbeats 4000000 in
theorem c_X12_readItems {g : Gv} {l : Launch} (p0 : Nat) (w0 : Wd) (rz : Int32) (wz : Wd) (hf : f_X12_readItems p0 w0 = some (rz, wz)) : MI g l yX12_readItems cX12_readItems 3 .int 6 131 [rV g p0] w0 rz wz := by
  refine mi_of RX12 (by decide) rfl (Nat.le_of_ble_eq_true rfl) ?_
  intro X hg hll C hr h0
  subst hg; subst hll
  have t_116 : ∀ (w : Wd), f_X12_readItems_116 w = some (rz, wz) → Wk X 0 0 (QI X w0 rz wz) w [] 116 [] := by
    intro w hf
    unfold f_X12_readItems_116 at hf
    refine k_iconst C dX12_readItems_116 (-1) (by decide) 117 rfl ?_
    exact k_iret C hr h0 dX12_readItems_117 hf
  have t_85 : ∀ (w : Wd), f_X12_readItems_85 w = some (rz, wz) → Wk X 0 0 (QI X w0 rz wz) w [] 85 [] := by
    intro w hf
    unfold f_X12_readItems_85 at hf
    refine k_iconst C dX12_readItems_85 (-1) (by decide) 86 rfl ?_
    exact k_iret C hr h0 dX12_readItems_86 hf
  have t_31 : ∀ (n : Nat) (v0 : Nat) (v1 : Int32) (w : Wd), f_X12_readItems_31 n v0 v1 w = some (rz, wz) → Wk X 0 0 (QI X w0 rz wz) w [(0, rV (xg X) v0), (1, .int v1)] 31 [] := by
    intro n
    induction n with
    | zero => intro v0 v1 w hf; rw [f_X12_readItems_31] at hf; cases hf
    | succ n31 ih31 =>
      have t_74 : ∀ (v0 : Nat) (v1 : Int32) (v2 : Int32) (s0 : Int32) (s1 : Int32) (w : Wd), f_X12_readItems_74 (f_X12_readItems_31 n31) v0 v1 v2 s0 s1 w = some (rz, wz) → Wk X 0 0 (QI X w0 rz wz) w [(0, rV (xg X) v0), (1, .int v1), (2, .int v2)] 74 [.int s0, .int s1] := by
        intro v0 v1 v2 s0 s1 w hf
        unfold f_X12_readItems_74 at hf
        refine k_icmp_ne C dX12_readItems_74 hf 85 rfl 77 rfl (fun hf => ?_) (fun hf => ?_)
        · refine k_sub [] rfl ?_
          exact t_85 w hf
        · refine k_aload_n C dX12_readItems_77 0 rfl rfl 78 rfl ?_
          refine k_iload_n C dX12_readItems_78 2 rfl 79 rfl ?_
          refine k_callV_i C ye_X12_readsItem ve_X12_114 ⟨rfl, rfl⟩ ⟨rfl, rfl⟩ dX12_readItems_79 [.int v2] rfl rfl (Nat.le_of_ble_eq_true rfl) (c_X12_readsItem _ _ _) hf 82 rfl (fun x24 w23 hf => ?_)
          refine k_if_ne C dX12_readItems_82 hf 87 rfl 85 rfl (fun hf => ?_) (fun hf => ?_)
          · refine k_aload_n C dX12_readItems_87 0 rfl rfl 88 rfl ?_
            refine k_callV_v C ye_X12_next ve_X12_84 ⟨rfl, rfl⟩ ⟨rfl, rfl⟩ dX12_readItems_88 [] rfl rfl (Nat.le_of_ble_eq_true rfl) (c_X12_next _ _) hf 91 rfl (fun w25 hf => ?_)
            refine k_aload_n C dX12_readItems_91 0 rfl rfl 92 rfl ?_
            refine k_getI C fe_X12_71 rfl dX12_readItems_92 hf 95 rfl (fun x27 hf => ?_)
            refine k_aload_n C dX12_readItems_95 0 rfl rfl 96 rfl ?_
            refine k_getI C fe_X12_64 rfl dX12_readItems_96 hf 99 rfl (fun x28 hf => ?_)
            refine k_icmp_eq C dX12_readItems_99 hf 116 rfl 102 rfl (fun hf => ?_) (fun hf => ?_)
            · refine k_sub [] rfl ?_
              exact t_116 w25 hf
            · refine k_aload_n C dX12_readItems_102 0 rfl rfl 103 rfl ?_
              refine k_getR C fe_X12_24 rfl dX12_readItems_103 hf 106 rfl (fun r29 hf => ?_)
              refine k_aload_n C dX12_readItems_106 0 rfl rfl 107 rfl ?_
              refine k_getI C fe_X12_71 rfl dX12_readItems_107 hf 110 rfl (fun x30 hf => ?_)
              refine k_iald C dX12_readItems_110 hf 111 rfl (fun x31 hf => ?_)
              refine k_bipush C dX12_readItems_111 (59) (by decide) 113 rfl ?_
              refine k_icmp_eq C dX12_readItems_113 hf 118 rfl 116 rfl (fun hf => ?_) (fun hf => ?_)
              · refine k_iinc C dX12_readItems_118 1 rfl (by decide) (by decide) [(1, .int (v1 + (1 : Int32))), (0, rV (xg X) v0), (2, .int v2)] rfl 121 rfl ?_
                refine k_aload_n C dX12_readItems_121 1 rfl rfl 122 rfl ?_
                refine k_callV_v C ye_X12_next ve_X12_84 ⟨rfl, rfl⟩ ⟨rfl, rfl⟩ dX12_readItems_122 [] rfl rfl (Nat.le_of_ble_eq_true rfl) (c_X12_next _ _) hf 125 rfl (fun w32 hf => ?_)
                refine k_goto C dX12_readItems_125 31 rfl ?_
                refine k_sub [1, 0] rfl ?_
                exact ih31 _ _ w32 hf
              · refine k_sub [] rfl ?_
                exact t_116 w25 hf
          · refine k_sub [] rfl ?_
            exact t_85 w23 hf
      have t_65 : ∀ (v0 : Nat) (v1 : Int32) (v2 : Int32) (s0 : Int32) (w : Wd), f_X12_readItems_65 (f_X12_readItems_31 n31) v0 v1 v2 s0 w = some (rz, wz) → Wk X 0 0 (QI X w0 rz wz) w [(0, rV (xg X) v0), (1, .int v1), (2, .int v2)] 65 [.int s0] := by
        intro v0 v1 v2 s0 w hf
        unfold f_X12_readItems_65 at hf
        refine k_iload_n C dX12_readItems_65 1 rfl 66 rfl ?_
        refine k_if_ne C dX12_readItems_66 hf 73 rfl 69 rfl (fun hf => ?_) (fun hf => ?_)
        · refine k_iconst C dX12_readItems_73 (0) (by decide) 74 rfl ?_
          refine k_sub [0, 1, 2] rfl ?_
          exact t_74 _ _ _ _ _ w hf
        · refine k_iconst C dX12_readItems_69 (1) (by decide) 70 rfl ?_
          refine k_goto C dX12_readItems_70 74 rfl ?_
          refine k_sub [0, 1, 2] rfl ?_
          exact t_74 _ _ _ _ _ w hf
      have t_46 : ∀ (v0 : Nat) (v1 : Int32) (w : Wd), f_X12_readItems_46 (f_X12_readItems_31 n31) v0 v1 w = some (rz, wz) → Wk X 0 0 (QI X w0 rz wz) w [(0, rV (xg X) v0), (1, .int v1)] 46 [] := by
        intro v0 v1 w hf
        unfold f_X12_readItems_46 at hf
        refine k_aload_n C dX12_readItems_46 0 rfl rfl 47 rfl ?_
        refine k_callV_i C ye_X12_wordHere ve_X12_110 ⟨rfl, rfl⟩ ⟨rfl, rfl⟩ dX12_readItems_47 [] rfl rfl (Nat.le_of_ble_eq_true rfl) (c_X12_wordHere _ _) hf 50 rfl (fun x35 w34 hf => ?_)
        refine k_istore_n C dX12_readItems_50 rfl (by decide) [(2, .int x35), (0, rV (xg X) v0), (1, .int v1)] rfl 51 rfl ?_
        refine k_iload_n C dX12_readItems_51 0 rfl 52 rfl ?_
        refine k_iconst C dX12_readItems_52 (-1) (by decide) 53 rfl ?_
        refine k_icmp_eq C dX12_readItems_53 hf 85 rfl 56 rfl (fun hf => ?_) (fun hf => ?_)
        · refine k_sub [] rfl ?_
          exact t_85 w34 hf
        · refine k_iload_n C dX12_readItems_56 0 rfl 57 rfl ?_
          refine k_if_ne C dX12_readItems_57 hf 64 rfl 60 rfl (fun hf => ?_) (fun hf => ?_)
          · refine k_iconst C dX12_readItems_64 (0) (by decide) 65 rfl ?_
            refine k_sub [1, 2, 0] rfl ?_
            exact t_65 _ _ _ _ w34 hf
          · refine k_iconst C dX12_readItems_60 (1) (by decide) 61 rfl ?_
            refine k_goto C dX12_readItems_61 65 rfl ?_
            refine k_sub [1, 2, 0] rfl ?_
            exact t_65 _ _ _ _ w34 hf
      intro v0 v1 w hf
      rw [f_X12_readItems_31] at hf
      refine k_iload_n C dX12_readItems_31 1 rfl 32 rfl ?_
      refine k_if_eq C dX12_readItems_32 hf 46 rfl 35 rfl (fun hf => ?_) (fun hf => ?_)
      · refine k_sub [0, 1] rfl ?_
        exact t_46 _ _ w hf
      · refine k_aload_n C dX12_readItems_35 0 rfl rfl 36 rfl ?_
        refine k_getI C fe_X12_71 rfl dX12_readItems_36 hf 39 rfl (fun x36 hf => ?_)
        refine k_aload_n C dX12_readItems_39 0 rfl rfl 40 rfl ?_
        refine k_getI C fe_X12_64 rfl dX12_readItems_40 hf 43 rfl (fun x37 hf => ?_)
        refine k_icmp_ge C dX12_readItems_43 hf 128 rfl 46 rfl (fun hf => ?_) (fun hf => ?_)
        · refine k_iload_n C dX12_readItems_128 1 rfl 129 rfl ?_
          exact k_iret C hr h0 dX12_readItems_129 hf
        · refine k_sub [0, 1] rfl ?_
          exact t_46 _ _ w hf
  unfold f_X12_readItems at hf
  refine k_sub (lv2 := [(0, rV (xg X) p0)]) [0] rfl ?_
  refine k_aload_n C dX12_readItems_0 0 rfl rfl 1 rfl ?_
  refine k_iconst C dX12_readItems_1 (0) (by decide) 2 rfl ?_
  refine k_putI C fe_X12_68 rfl rfl dX12_readItems_2 hf 5 rfl (fun w38 _ hf => ?_)
  refine k_aload_n C dX12_readItems_5 0 rfl rfl 6 rfl ?_
  refine k_iconst C dX12_readItems_6 (0) (by decide) 7 rfl ?_
  refine k_putI C fe_X12_87 rfl rfl dX12_readItems_7 hf 10 rfl (fun w39 _ hf => ?_)
  refine k_aload_n C dX12_readItems_10 0 rfl rfl 11 rfl ?_
  refine k_iconst C dX12_readItems_11 (0) (by decide) 12 rfl ?_
  refine k_putI C fe_X12_104 rfl rfl dX12_readItems_12 hf 15 rfl (fun w40 _ hf => ?_)
  refine k_aload_n C dX12_readItems_15 0 rfl rfl 16 rfl ?_
  refine k_iconst C dX12_readItems_16 (0) (by decide) 17 rfl ?_
  refine k_putI C fe_X12_107 rfl rfl dX12_readItems_17 hf 20 rfl (fun w41 _ hf => ?_)
  refine k_aload_n C dX12_readItems_20 0 rfl rfl 21 rfl ?_
  refine k_iconst C dX12_readItems_21 (-1) (by decide) 22 rfl ?_
  refine k_putI C fe_X12_101 rfl rfl dX12_readItems_22 hf 25 rfl (fun w42 _ hf => ?_)
  refine k_iconst C dX12_readItems_25 (0) (by decide) 26 rfl ?_
  refine k_istore_n C dX12_readItems_26 rfl (by decide) [(1, .int (0 : Int32)), (0, rV (xg X) p0)] rfl 27 rfl ?_
  refine k_aload_n C dX12_readItems_27 1 rfl rfl 28 rfl ?_
  refine k_callV_v C ye_X12_next ve_X12_84 ⟨rfl, rfl⟩ ⟨rfl, rfl⟩ dX12_readItems_28 [] rfl rfl (Nat.le_of_ble_eq_true rfl) (c_X12_next _ _) hf 31 rfl (fun w43 hf => ?_)
  refine k_sub [1, 0] rfl ?_
  exact t_31 4096 _ _ w43 hf
theorem dX12_read_0 : decode cX12_read 0 = .ok (.aload_n 0, 1) := by decide +kernel
theorem dX12_read_1 : decode cX12_read 1 = .ok (.invokevirtual 117, 3) := by decide +kernel
theorem dX12_read_4 : decode cX12_read 4 = .ok (.istore_n 1, 1) := by decide +kernel
theorem dX12_read_5 : decode cX12_read 5 = .ok (.iload_n 1, 1) := by decide +kernel
theorem dX12_read_6 : decode cX12_read 6 = .ok (.iconst (-1), 1) := by decide +kernel
theorem dX12_read_7 : decode cX12_read 7 = .ok (.if_icmp .ne 11, 3) := by decide +kernel
theorem dX12_read_10 : decode cX12_read 10 = .ok (.bipush (-10), 2) := by decide +kernel
theorem dX12_read_12 : decode cX12_read 12 = .ok (.aload_n 0, 1) := by decide +kernel
theorem dX12_read_13 : decode cX12_read 13 = .ok (.getfield 71, 3) := by decide +kernel
theorem dX12_read_16 : decode cX12_read 16 = .ok (.isub, 1) := by decide +kernel
theorem dX12_read_17 : decode cX12_read 17 = .ok (.ireturn, 1) := by decide +kernel
theorem dX12_read_18 : decode cX12_read 18 = .ok (.aload_n 0, 1) := by decide +kernel
theorem dX12_read_19 : decode cX12_read 19 = .ok (.aload_n 0, 1) := by decide +kernel
theorem dX12_read_20 : decode cX12_read 20 = .ok (.getfield 94, 3) := by decide +kernel
theorem dX12_read_23 : decode cX12_read 23 = .ok (.invokevirtual 48, 3) := by decide +kernel
theorem dX12_read_26 : decode cX12_read 26 = .ok (.iconst 0, 1) := by decide +kernel
theorem dX12_read_27 : decode cX12_read 27 = .ok (.istore_n 2, 1) := by decide +kernel
theorem dX12_read_28 : decode cX12_read 28 = .ok (.iload_n 2, 1) := by decide +kernel
theorem dX12_read_29 : decode cX12_read 29 = .ok (.aload_n 0, 1) := by decide +kernel
theorem dX12_read_30 : decode cX12_read 30 = .ok (.getfield 87, 3) := by decide +kernel
theorem dX12_read_33 : decode cX12_read 33 = .ok (.if_icmp .ge 41, 3) := by decide +kernel
theorem dX12_read_36 : decode cX12_read 36 = .ok (.aload_n 0, 1) := by decide +kernel
theorem dX12_read_37 : decode cX12_read 37 = .ok (.aload_n 0, 1) := by decide +kernel
theorem dX12_read_38 : decode cX12_read 38 = .ok (.getfield 30, 3) := by decide +kernel
theorem dX12_read_41 : decode cX12_read 41 = .ok (.iconst 3, 1) := by decide +kernel
theorem dX12_read_42 : decode cX12_read 42 = .ok (.iload_n 2, 1) := by decide +kernel
theorem dX12_read_43 : decode cX12_read 43 = .ok (.imul, 1) := by decide +kernel
theorem dX12_read_44 : decode cX12_read 44 = .ok (.iaload, 1) := by decide +kernel
theorem dX12_read_45 : decode cX12_read 45 = .ok (.aload_n 0, 1) := by decide +kernel
theorem dX12_read_46 : decode cX12_read 46 = .ok (.getfield 30, 3) := by decide +kernel
theorem dX12_read_49 : decode cX12_read 49 = .ok (.iconst 3, 1) := by decide +kernel
theorem dX12_read_50 : decode cX12_read 50 = .ok (.iload_n 2, 1) := by decide +kernel
theorem dX12_read_51 : decode cX12_read 51 = .ok (.imul, 1) := by decide +kernel
theorem dX12_read_52 : decode cX12_read 52 = .ok (.iconst 1, 1) := by decide +kernel
theorem dX12_read_53 : decode cX12_read 53 = .ok (.iadd, 1) := by decide +kernel
theorem dX12_read_54 : decode cX12_read 54 = .ok (.iaload, 1) := by decide +kernel
theorem dX12_read_55 : decode cX12_read 55 = .ok (.aload_n 0, 1) := by decide +kernel
theorem dX12_read_56 : decode cX12_read 56 = .ok (.getfield 30, 3) := by decide +kernel
theorem dX12_read_59 : decode cX12_read 59 = .ok (.iconst 3, 1) := by decide +kernel
theorem dX12_read_60 : decode cX12_read 60 = .ok (.iload_n 2, 1) := by decide +kernel
theorem dX12_read_61 : decode cX12_read 61 = .ok (.imul, 1) := by decide +kernel
theorem dX12_read_62 : decode cX12_read 62 = .ok (.iconst 2, 1) := by decide +kernel
theorem dX12_read_63 : decode cX12_read 63 = .ok (.iadd, 1) := by decide +kernel
theorem dX12_read_64 : decode cX12_read 64 = .ok (.iaload, 1) := by decide +kernel
theorem dX12_read_65 : decode cX12_read 65 = .ok (.invokevirtual 60, 3) := by decide +kernel
theorem dX12_read_68 : decode cX12_read 68 = .ok (.iinc 2 1, 3) := by decide +kernel
theorem dX12_read_71 : decode cX12_read 71 = .ok (.goto (-43), 3) := by decide +kernel
theorem dX12_read_74 : decode cX12_read 74 = .ok (.aload_n 0, 1) := by decide +kernel
theorem dX12_read_75 : decode cX12_read 75 = .ok (.getfield 7, 3) := by decide +kernel
theorem dX12_read_78 : decode cX12_read 78 = .ok (.bipush 18, 2) := by decide +kernel
theorem dX12_read_80 : decode cX12_read 80 = .ok (.aload_n 0, 1) := by decide +kernel
theorem dX12_read_81 : decode cX12_read 81 = .ok (.getfield 104, 3) := by decide +kernel
theorem dX12_read_84 : decode cX12_read 84 = .ok (.iastore, 1) := by decide +kernel
theorem dX12_read_85 : decode cX12_read 85 = .ok (.aload_n 0, 1) := by decide +kernel
theorem dX12_read_86 : decode cX12_read 86 = .ok (.getfield 7, 3) := by decide +kernel
theorem dX12_read_89 : decode cX12_read 89 = .ok (.bipush 16, 2) := by decide +kernel
theorem dX12_read_91 : decode cX12_read 91 = .ok (.aload_n 0, 1) := by decide +kernel
theorem dX12_read_92 : decode cX12_read 92 = .ok (.getfield 107, 3) := by decide +kernel
theorem dX12_read_95 : decode cX12_read 95 = .ok (.iastore, 1) := by decide +kernel
theorem dX12_read_96 : decode cX12_read 96 = .ok (.aload_n 0, 1) := by decide +kernel
theorem dX12_read_97 : decode cX12_read 97 = .ok (.getfield 7, 3) := by decide +kernel
theorem dX12_read_100 : decode cX12_read 100 = .ok (.bipush 15, 2) := by decide +kernel
theorem dX12_read_102 : decode cX12_read 102 = .ok (.aload_n 0, 1) := by decide +kernel
theorem dX12_read_103 : decode cX12_read 103 = .ok (.getfield 101, 3) := by decide +kernel
theorem dX12_read_106 : decode cX12_read 106 = .ok (.iastore, 1) := by decide +kernel
theorem dX12_read_107 : decode cX12_read 107 = .ok (.iload_n 1, 1) := by decide +kernel
theorem dX12_read_108 : decode cX12_read 108 = .ok (.ireturn, 1) := by decide +kernel
set_option maxRecDepth 100000 in
set_option maxHeartbeats 4000000 in
theorem c_X12_read {g : Gv} {l : Launch} (p0 : Nat) (w0 : Wd) (rz : Int32) (wz : Wd) (hf : f_X12_read p0 w0 = some (rz, wz)) : MI g l yX12_read cX12_read 3 .int 7 153 [rV g p0] w0 rz wz := by
  refine mi_of RX12 (by decide) rfl (Nat.le_of_ble_eq_true rfl) ?_
  intro X hg hll C hr h0
  subst hg; subst hll
  have t_28 : ∀ (n : Nat) (v0 : Nat) (v1 : Int32) (v2 : Int32) (w : Wd), f_X12_read_28 n v0 v1 v2 w = some (rz, wz) → Wk X 0 0 (QI X w0 rz wz) w [(0, rV (xg X) v0), (1, .int v1), (2, .int v2)] 28 [] := by
    intro n
    induction n with
    | zero => intro v0 v1 v2 w hf; rw [f_X12_read_28] at hf; cases hf
    | succ n28 ih28 =>
      intro v0 v1 v2 w hf
      rw [f_X12_read_28] at hf
      refine k_iload_n C dX12_read_28 2 rfl 29 rfl ?_
      refine k_aload_n C dX12_read_29 0 rfl rfl 30 rfl ?_
      refine k_getI C fe_X12_87 rfl dX12_read_30 hf 33 rfl (fun x25 hf => ?_)
      refine k_icmp_ge C dX12_read_33 hf 74 rfl 36 rfl (fun hf => ?_) (fun hf => ?_)
      · refine k_aload_n C dX12_read_74 0 rfl rfl 75 rfl ?_
        refine k_getR C fe_X12_7 rfl dX12_read_75 hf 78 rfl (fun r26 hf => ?_)
        refine k_bipush C dX12_read_78 (18) (by decide) 80 rfl ?_
        refine k_aload_n C dX12_read_80 0 rfl rfl 81 rfl ?_
        refine k_getI C fe_X12_104 rfl dX12_read_81 hf 84 rfl (fun x27 hf => ?_)
        refine k_iast C dX12_read_84 hf 85 rfl (fun w28 _ hf => ?_)
        refine k_aload_n C dX12_read_85 0 rfl rfl 86 rfl ?_
        refine k_getR C fe_X12_7 rfl dX12_read_86 hf 89 rfl (fun r29 hf => ?_)
        refine k_bipush C dX12_read_89 (16) (by decide) 91 rfl ?_
        refine k_aload_n C dX12_read_91 0 rfl rfl 92 rfl ?_
        refine k_getI C fe_X12_107 rfl dX12_read_92 hf 95 rfl (fun x30 hf => ?_)
        refine k_iast C dX12_read_95 hf 96 rfl (fun w31 _ hf => ?_)
        refine k_aload_n C dX12_read_96 0 rfl rfl 97 rfl ?_
        refine k_getR C fe_X12_7 rfl dX12_read_97 hf 100 rfl (fun r32 hf => ?_)
        refine k_bipush C dX12_read_100 (15) (by decide) 102 rfl ?_
        refine k_aload_n C dX12_read_102 0 rfl rfl 103 rfl ?_
        refine k_getI C fe_X12_101 rfl dX12_read_103 hf 106 rfl (fun x33 hf => ?_)
        refine k_iast C dX12_read_106 hf 107 rfl (fun w34 _ hf => ?_)
        refine k_iload_n C dX12_read_107 1 rfl 108 rfl ?_
        exact k_iret C hr h0 dX12_read_108 hf
      · refine k_aload_n C dX12_read_36 0 rfl rfl 37 rfl ?_
        refine k_aload_n C dX12_read_37 0 rfl rfl 38 rfl ?_
        refine k_getR C fe_X12_30 rfl dX12_read_38 hf 41 rfl (fun r35 hf => ?_)
        refine k_iconst C dX12_read_41 (3) (by decide) 42 rfl ?_
        refine k_iload_n C dX12_read_42 2 rfl 43 rfl ?_
        refine k_imul C dX12_read_43 44 rfl ?_
        refine k_iald C dX12_read_44 hf 45 rfl (fun x36 hf => ?_)
        refine k_aload_n C dX12_read_45 0 rfl rfl 46 rfl ?_
        refine k_getR C fe_X12_30 rfl dX12_read_46 hf 49 rfl (fun r37 hf => ?_)
        refine k_iconst C dX12_read_49 (3) (by decide) 50 rfl ?_
        refine k_iload_n C dX12_read_50 2 rfl 51 rfl ?_
        refine k_imul C dX12_read_51 52 rfl ?_
        refine k_iconst C dX12_read_52 (1) (by decide) 53 rfl ?_
        refine k_iadd C dX12_read_53 54 rfl ?_
        refine k_iald C dX12_read_54 hf 55 rfl (fun x38 hf => ?_)
        refine k_aload_n C dX12_read_55 0 rfl rfl 56 rfl ?_
        refine k_getR C fe_X12_30 rfl dX12_read_56 hf 59 rfl (fun r39 hf => ?_)
        refine k_iconst C dX12_read_59 (3) (by decide) 60 rfl ?_
        refine k_iload_n C dX12_read_60 2 rfl 61 rfl ?_
        refine k_imul C dX12_read_61 62 rfl ?_
        refine k_iconst C dX12_read_62 (2) (by decide) 63 rfl ?_
        refine k_iadd C dX12_read_63 64 rfl ?_
        refine k_iald C dX12_read_64 hf 65 rfl (fun x40 hf => ?_)
        refine k_callV_v C ye_X12_addGoods ve_X12_60 ⟨rfl, rfl⟩ ⟨rfl, rfl⟩ dX12_read_65 [.int x36, .int x38, .int x40] rfl rfl (Nat.le_of_ble_eq_true rfl) (c_X12_addGoods _ _ _ _ _) hf 68 rfl (fun w41 hf => ?_)
        refine k_iinc C dX12_read_68 2 rfl (by decide) (by decide) [(2, .int (v2 + (1 : Int32))), (0, rV (xg X) v0), (1, .int v1)] rfl 71 rfl ?_
        refine k_goto C dX12_read_71 28 rfl ?_
        refine k_sub [1, 2, 0] rfl ?_
        exact ih28 _ _ _ w41 hf
  unfold f_X12_read at hf
  refine k_sub (lv2 := [(0, rV (xg X) p0)]) [0] rfl ?_
  refine k_aload_n C dX12_read_0 0 rfl rfl 1 rfl ?_
  refine k_callV_i C ye_X12_readItems ve_X12_117 ⟨rfl, rfl⟩ ⟨rfl, rfl⟩ dX12_read_1 [] rfl rfl (Nat.le_of_ble_eq_true rfl) (c_X12_readItems _ _) hf 4 rfl (fun x44 w43 hf => ?_)
  refine k_istore_n C dX12_read_4 rfl (by decide) [(1, .int x44), (0, rV (xg X) p0)] rfl 5 rfl ?_
  refine k_iload_n C dX12_read_5 0 rfl 6 rfl ?_
  refine k_iconst C dX12_read_6 (-1) (by decide) 7 rfl ?_
  refine k_icmp_ne C dX12_read_7 hf 18 rfl 10 rfl (fun hf => ?_) (fun hf => ?_)
  · refine k_aload_n C dX12_read_18 1 rfl rfl 19 rfl ?_
    refine k_aload_n C dX12_read_19 1 rfl rfl 20 rfl ?_
    refine k_getI C fe_X12_94 rfl dX12_read_20 hf 23 rfl (fun x45 hf => ?_)
    refine k_callV_v C ye_X12_layMill ve_X12_48 ⟨rfl, rfl⟩ ⟨rfl, rfl⟩ dX12_read_23 [.int x45] rfl rfl (Nat.le_of_ble_eq_true rfl) (c_X12_layMill _ _ _) hf 26 rfl (fun w46 hf => ?_)
    refine k_iconst C dX12_read_26 (0) (by decide) 27 rfl ?_
    refine k_istore_n C dX12_read_27 rfl (by decide) [(2, .int (0 : Int32)), (1, .int x44), (0, rV (xg X) p0)] rfl 28 rfl ?_
    refine k_sub [2, 1, 0] rfl ?_
    exact t_28 4096 _ _ _ w46 hf
  · refine k_bipush C dX12_read_10 (-10) (by decide) 12 rfl ?_
    refine k_aload_n C dX12_read_12 1 rfl rfl 13 rfl ?_
    refine k_getI C fe_X12_71 rfl dX12_read_13 hf 16 rfl (fun x48 hf => ?_)
    refine k_isub C dX12_read_16 17 rfl ?_
    exact k_iret C hr h0 dX12_read_17 hf
theorem dX12_rests_0 : decode cX12_rests 0 = .ok (.iconst 1, 1) := by decide +kernel
theorem dX12_rests_1 : decode cX12_rests 1 = .ok (.istore_n 3, 1) := by decide +kernel
theorem dX12_rests_2 : decode cX12_rests 2 = .ok (.iconst 0, 1) := by decide +kernel
theorem dX12_rests_3 : decode cX12_rests 3 = .ok (.istore 4, 2) := by decide +kernel
theorem dX12_rests_5 : decode cX12_rests 5 = .ok (.iload 4, 2) := by decide +kernel
theorem dX12_rests_7 : decode cX12_rests 7 = .ok (.aload_n 0, 1) := by decide +kernel
theorem dX12_rests_8 : decode cX12_rests 8 = .ok (.getfield 7, 3) := by decide +kernel
theorem dX12_rests_11 : decode cX12_rests 11 = .ok (.bipush 19, 2) := by decide +kernel
theorem dX12_rests_13 : decode cX12_rests 13 = .ok (.iaload, 1) := by decide +kernel
theorem dX12_rests_14 : decode cX12_rests 14 = .ok (.if_icmp .ge 71, 3) := by decide +kernel
theorem dX12_rests_17 : decode cX12_rests 17 = .ok (.iload_n 3, 1) := by decide +kernel
theorem dX12_rests_18 : decode cX12_rests 18 = .ok (.ifCond .eq 59, 3) := by decide +kernel
theorem dX12_rests_21 : decode cX12_rests 21 = .ok (.aload_n 0, 1) := by decide +kernel
theorem dX12_rests_22 : decode cX12_rests 22 = .ok (.getfield 42, 3) := by decide +kernel
theorem dX12_rests_25 : decode cX12_rests 25 = .ok (.bipush 6, 2) := by decide +kernel
theorem dX12_rests_27 : decode cX12_rests 27 = .ok (.iload 4, 2) := by decide +kernel
theorem dX12_rests_29 : decode cX12_rests 29 = .ok (.imul, 1) := by decide +kernel
theorem dX12_rests_30 : decode cX12_rests 30 = .ok (.iload_n 2, 1) := by decide +kernel
theorem dX12_rests_31 : decode cX12_rests 31 = .ok (.iadd, 1) := by decide +kernel
theorem dX12_rests_32 : decode cX12_rests 32 = .ok (.iaload, 1) := by decide +kernel
theorem dX12_rests_33 : decode cX12_rests 33 = .ok (.aload_n 0, 1) := by decide +kernel
theorem dX12_rests_34 : decode cX12_rests 34 = .ok (.getfield 42, 3) := by decide +kernel
theorem dX12_rests_37 : decode cX12_rests 37 = .ok (.bipush 6, 2) := by decide +kernel
theorem dX12_rests_39 : decode cX12_rests 39 = .ok (.iload_n 1, 1) := by decide +kernel
theorem dX12_rests_40 : decode cX12_rests 40 = .ok (.imul, 1) := by decide +kernel
theorem dX12_rests_41 : decode cX12_rests 41 = .ok (.iload_n 2, 1) := by decide +kernel
theorem dX12_rests_42 : decode cX12_rests 42 = .ok (.iadd, 1) := by decide +kernel
theorem dX12_rests_43 : decode cX12_rests 43 = .ok (.iaload, 1) := by decide +kernel
theorem dX12_rests_44 : decode cX12_rests 44 = .ok (.if_icmp .gt 33, 3) := by decide +kernel
theorem dX12_rests_47 : decode cX12_rests 47 = .ok (.aload_n 0, 1) := by decide +kernel
theorem dX12_rests_48 : decode cX12_rests 48 = .ok (.getfield 45, 3) := by decide +kernel
theorem dX12_rests_51 : decode cX12_rests 51 = .ok (.bipush 6, 2) := by decide +kernel
theorem dX12_rests_53 : decode cX12_rests 53 = .ok (.iload_n 1, 1) := by decide +kernel
theorem dX12_rests_54 : decode cX12_rests 54 = .ok (.imul, 1) := by decide +kernel
theorem dX12_rests_55 : decode cX12_rests 55 = .ok (.iload 4, 2) := by decide +kernel
theorem dX12_rests_57 : decode cX12_rests 57 = .ok (.iadd, 1) := by decide +kernel
theorem dX12_rests_58 : decode cX12_rests 58 = .ok (.iaload, 1) := by decide +kernel
theorem dX12_rests_59 : decode cX12_rests 59 = .ok (.aload_n 0, 1) := by decide +kernel
theorem dX12_rests_60 : decode cX12_rests 60 = .ok (.getfield 45, 3) := by decide +kernel
theorem dX12_rests_63 : decode cX12_rests 63 = .ok (.bipush 6, 2) := by decide +kernel
theorem dX12_rests_65 : decode cX12_rests 65 = .ok (.iload_n 1, 1) := by decide +kernel
theorem dX12_rests_66 : decode cX12_rests 66 = .ok (.imul, 1) := by decide +kernel
theorem dX12_rests_67 : decode cX12_rests 67 = .ok (.iload_n 2, 1) := by decide +kernel
theorem dX12_rests_68 : decode cX12_rests 68 = .ok (.iadd, 1) := by decide +kernel
theorem dX12_rests_69 : decode cX12_rests 69 = .ok (.iaload, 1) := by decide +kernel
theorem dX12_rests_70 : decode cX12_rests 70 = .ok (.if_icmp .gt 7, 3) := by decide +kernel
theorem dX12_rests_73 : decode cX12_rests 73 = .ok (.iconst 1, 1) := by decide +kernel
theorem dX12_rests_74 : decode cX12_rests 74 = .ok (.goto 4, 3) := by decide +kernel
theorem dX12_rests_77 : decode cX12_rests 77 = .ok (.iconst 0, 1) := by decide +kernel
theorem dX12_rests_78 : decode cX12_rests 78 = .ok (.istore_n 3, 1) := by decide +kernel
theorem dX12_rests_79 : decode cX12_rests 79 = .ok (.iinc 4 1, 3) := by decide +kernel
theorem dX12_rests_82 : decode cX12_rests 82 = .ok (.goto (-77), 3) := by decide +kernel
theorem dX12_rests_85 : decode cX12_rests 85 = .ok (.iload_n 3, 1) := by decide +kernel
theorem dX12_rests_86 : decode cX12_rests 86 = .ok (.ireturn, 1) := by decide +kernel
set_option maxRecDepth 100000 in
set_option maxHeartbeats 4000000 in
theorem c_X12_rests {g : Gv} {l : Launch} (p0 : Nat) (p1 : Int32) (p2 : Int32) (w0 : Wd) (rz : Int32) (wz : Wd) (hf : f_X12_rests p0 p1 p2 w0 = some (rz, wz)) : MI g l yX12_rests cX12_rests 5 .boolean 0 0 [rV g p0, .int p1, .int p2] w0 rz wz := by
  refine mi_of RX12 (by decide) rfl (Nat.le_of_ble_eq_true rfl) ?_
  intro X hg hll C hr h0
  subst hg; subst hll
  have t_5 : ∀ (n : Nat) (v0 : Nat) (v1 : Int32) (v2 : Int32) (v3 : Int32) (v4 : Int32) (w : Wd), f_X12_rests_5 n v0 v1 v2 v3 v4 w = some (rz, wz) → Wk X 0 0 (QI X w0 rz wz) w [(0, rV (xg X) v0), (1, .int v1), (2, .int v2), (3, .int v3), (4, .int v4)] 5 [] := by
    intro n
    induction n with
    | zero => intro v0 v1 v2 v3 v4 w hf; rw [f_X12_rests_5] at hf; cases hf
    | succ n5 ih5 =>
      have t_78 : ∀ (v0 : Nat) (v1 : Int32) (v2 : Int32) (v4 : Int32) (s0 : Int32) (w : Wd), f_X12_rests_78 (f_X12_rests_5 n5) v0 v1 v2 v4 s0 w = some (rz, wz) → Wk X 0 0 (QI X w0 rz wz) w [(0, rV (xg X) v0), (1, .int v1), (2, .int v2), (4, .int v4)] 78 [.int s0] := by
        intro v0 v1 v2 v4 s0 w hf
        unfold f_X12_rests_78 at hf
        refine k_istore_n C dX12_rests_78 rfl (by decide) [(3, .int s0), (0, rV (xg X) v0), (1, .int v1), (2, .int v2), (4, .int v4)] rfl 79 rfl ?_
        refine k_iinc C dX12_rests_79 4 rfl (by decide) (by decide) [(4, .int (v4 + (1 : Int32))), (3, .int s0), (0, rV (xg X) v0), (1, .int v1), (2, .int v2)] rfl 82 rfl ?_
        refine k_goto C dX12_rests_82 5 rfl ?_
        refine k_sub [2, 3, 4, 1, 0] rfl ?_
        exact ih5 _ _ _ _ _ w hf
      have t_77 : ∀ (v0 : Nat) (v1 : Int32) (v2 : Int32) (v4 : Int32) (w : Wd), f_X12_rests_77 (f_X12_rests_5 n5) v0 v1 v2 v4 w = some (rz, wz) → Wk X 0 0 (QI X w0 rz wz) w [(0, rV (xg X) v0), (1, .int v1), (2, .int v2), (4, .int v4)] 77 [] := by
        intro v0 v1 v2 v4 w hf
        unfold f_X12_rests_77 at hf
        refine k_iconst C dX12_rests_77 (0) (by decide) 78 rfl ?_
        refine k_sub [0, 1, 2, 3] rfl ?_
        exact t_78 _ _ _ _ _ w hf
      intro v0 v1 v2 v3 v4 w hf
      rw [f_X12_rests_5] at hf
      refine k_iload C dX12_rests_5 4 rfl 7 rfl ?_
      refine k_aload_n C dX12_rests_7 0 rfl rfl 8 rfl ?_
      refine k_getR C fe_X12_7 rfl dX12_rests_8 hf 11 rfl (fun r11 hf => ?_)
      refine k_bipush C dX12_rests_11 (19) (by decide) 13 rfl ?_
      refine k_iald C dX12_rests_13 hf 14 rfl (fun x12 hf => ?_)
      refine k_icmp_ge C dX12_rests_14 hf 85 rfl 17 rfl (fun hf => ?_) (fun hf => ?_)
      · refine k_iload_n C dX12_rests_85 3 rfl 86 rfl ?_
        exact k_zret C hr h0 dX12_rests_86 hf
      · refine k_iload_n C dX12_rests_17 3 rfl 18 rfl ?_
        refine k_if_eq C dX12_rests_18 hf 77 rfl 21 rfl (fun hf => ?_) (fun hf => ?_)
        · refine k_sub [0, 1, 2, 4] rfl ?_
          exact t_77 _ _ _ _ w hf
        · refine k_aload_n C dX12_rests_21 0 rfl rfl 22 rfl ?_
          refine k_getR C fe_X12_42 rfl dX12_rests_22 hf 25 rfl (fun r13 hf => ?_)
          refine k_bipush C dX12_rests_25 (6) (by decide) 27 rfl ?_
          refine k_iload C dX12_rests_27 4 rfl 29 rfl ?_
          refine k_imul C dX12_rests_29 30 rfl ?_
          refine k_iload_n C dX12_rests_30 2 rfl 31 rfl ?_
          refine k_iadd C dX12_rests_31 32 rfl ?_
          refine k_iald C dX12_rests_32 hf 33 rfl (fun x14 hf => ?_)
          refine k_aload_n C dX12_rests_33 0 rfl rfl 34 rfl ?_
          refine k_getR C fe_X12_42 rfl dX12_rests_34 hf 37 rfl (fun r15 hf => ?_)
          refine k_bipush C dX12_rests_37 (6) (by decide) 39 rfl ?_
          refine k_iload_n C dX12_rests_39 1 rfl 40 rfl ?_
          refine k_imul C dX12_rests_40 41 rfl ?_
          refine k_iload_n C dX12_rests_41 2 rfl 42 rfl ?_
          refine k_iadd C dX12_rests_42 43 rfl ?_
          refine k_iald C dX12_rests_43 hf 44 rfl (fun x16 hf => ?_)
          refine k_icmp_gt C dX12_rests_44 hf 77 rfl 47 rfl (fun hf => ?_) (fun hf => ?_)
          · refine k_sub [0, 1, 2, 4] rfl ?_
            exact t_77 _ _ _ _ w hf
          · refine k_aload_n C dX12_rests_47 0 rfl rfl 48 rfl ?_
            refine k_getR C fe_X12_45 rfl dX12_rests_48 hf 51 rfl (fun r17 hf => ?_)
            refine k_bipush C dX12_rests_51 (6) (by decide) 53 rfl ?_
            refine k_iload_n C dX12_rests_53 1 rfl 54 rfl ?_
            refine k_imul C dX12_rests_54 55 rfl ?_
            refine k_iload C dX12_rests_55 4 rfl 57 rfl ?_
            refine k_iadd C dX12_rests_57 58 rfl ?_
            refine k_iald C dX12_rests_58 hf 59 rfl (fun x18 hf => ?_)
            refine k_aload_n C dX12_rests_59 0 rfl rfl 60 rfl ?_
            refine k_getR C fe_X12_45 rfl dX12_rests_60 hf 63 rfl (fun r19 hf => ?_)
            refine k_bipush C dX12_rests_63 (6) (by decide) 65 rfl ?_
            refine k_iload_n C dX12_rests_65 1 rfl 66 rfl ?_
            refine k_imul C dX12_rests_66 67 rfl ?_
            refine k_iload_n C dX12_rests_67 2 rfl 68 rfl ?_
            refine k_iadd C dX12_rests_68 69 rfl ?_
            refine k_iald C dX12_rests_69 hf 70 rfl (fun x20 hf => ?_)
            refine k_icmp_gt C dX12_rests_70 hf 77 rfl 73 rfl (fun hf => ?_) (fun hf => ?_)
            · refine k_sub [0, 1, 2, 4] rfl ?_
              exact t_77 _ _ _ _ w hf
            · refine k_iconst C dX12_rests_73 (1) (by decide) 74 rfl ?_
              refine k_goto C dX12_rests_74 78 rfl ?_
              refine k_sub [0, 1, 2, 4] rfl ?_
              exact t_78 _ _ _ _ _ w hf
  unfold f_X12_rests at hf
  refine k_sub (lv2 := [(0, rV (xg X) p0), (1, .int p1), (2, .int p2)]) [0, 1, 2] rfl ?_
  refine k_iconst C dX12_rests_0 (1) (by decide) 1 rfl ?_
  refine k_istore_n C dX12_rests_1 rfl (by decide) [(3, .int (1 : Int32)), (0, rV (xg X) p0), (1, .int p1), (2, .int p2)] rfl 2 rfl ?_
  refine k_iconst C dX12_rests_2 (0) (by decide) 3 rfl ?_
  refine k_istore C dX12_rests_3 (by decide) [(4, .int (0 : Int32)), (3, .int (1 : Int32)), (0, rV (xg X) p0), (1, .int p1), (2, .int p2)] rfl 5 rfl ?_
  refine k_sub [2, 3, 4, 1, 0] rfl ?_
  exact t_5 4096 _ _ _ _ _ w0 hf
theorem dX12_say_0 : decode cX12_say 0 = .ok (.iload_n 1, 1) := by decide +kernel
theorem dX12_say_1 : decode cX12_say 1 = .ok (.iconst 0, 1) := by decide +kernel
theorem dX12_say_2 : decode cX12_say 2 = .ok (.bipush 31, 2) := by decide +kernel
theorem dX12_say_4 : decode cX12_say 4 = .ok (.invokestatic 52, 3) := by decide +kernel
theorem dX12_say_7 : decode cX12_say 7 = .ok (.ifCond .ne 10, 3) := by decide +kernel
theorem dX12_say_10 : decode cX12_say 10 = .ok (.aload_n 0, 1) := by decide +kernel
theorem dX12_say_11 : decode cX12_say 11 = .ok (.bipush (-2), 2) := by decide +kernel
theorem dX12_say_13 : decode cX12_say 13 = .ok (.invokevirtual 56, 3) := by decide +kernel
theorem dX12_say_16 : decode cX12_say 16 = .ok (.ireturn, 1) := by decide +kernel
theorem dX12_say_17 : decode cX12_say 17 = .ok (.aload_n 0, 1) := by decide +kernel
theorem dX12_say_18 : decode cX12_say 18 = .ok (.invokevirtual 137, 3) := by decide +kernel
theorem dX12_say_21 : decode cX12_say 21 = .ok (.iload_n 1, 1) := by decide +kernel
theorem dX12_say_22 : decode cX12_say 22 = .ok (.aload_n 0, 1) := by decide +kernel
theorem dX12_say_23 : decode cX12_say 23 = .ok (.getfield 7, 3) := by decide +kernel
theorem dX12_say_26 : decode cX12_say 26 = .ok (.bipush 18, 2) := by decide +kernel
theorem dX12_say_28 : decode cX12_say 28 = .ok (.iaload, 1) := by decide +kernel
theorem dX12_say_29 : decode cX12_say 29 = .ok (.invokestatic 147, 3) := by decide +kernel
theorem dX12_say_32 : decode cX12_say 32 = .ok (.istore_n 2, 1) := by decide +kernel
theorem dX12_say_33 : decode cX12_say 33 = .ok (.aload_n 0, 1) := by decide +kernel
theorem dX12_say_34 : decode cX12_say 34 = .ok (.getfield 7, 3) := by decide +kernel
theorem dX12_say_37 : decode cX12_say 37 = .ok (.bipush 15, 2) := by decide +kernel
theorem dX12_say_39 : decode cX12_say 39 = .ok (.iload_n 2, 1) := by decide +kernel
theorem dX12_say_40 : decode cX12_say 40 = .ok (.iconst 5, 1) := by decide +kernel
theorem dX12_say_41 : decode cX12_say 41 = .ok (.if_icmp .ne 7, 3) := by decide +kernel
theorem dX12_say_44 : decode cX12_say 44 = .ok (.iconst (-1), 1) := by decide +kernel
theorem dX12_say_45 : decode cX12_say 45 = .ok (.goto 10, 3) := by decide +kernel
theorem dX12_say_48 : decode cX12_say 48 = .ok (.aload_n 0, 1) := by decide +kernel
theorem dX12_say_49 : decode cX12_say 49 = .ok (.getfield 7, 3) := by decide +kernel
theorem dX12_say_52 : decode cX12_say 52 = .ok (.bipush 15, 2) := by decide +kernel
theorem dX12_say_54 : decode cX12_say 54 = .ok (.iaload, 1) := by decide +kernel
theorem dX12_say_55 : decode cX12_say 55 = .ok (.iastore, 1) := by decide +kernel
theorem dX12_say_56 : decode cX12_say 56 = .ok (.iload_n 2, 1) := by decide +kernel
theorem dX12_say_57 : decode cX12_say 57 = .ok (.ireturn, 1) := by decide +kernel
set_option maxRecDepth 100000 in
set_option maxHeartbeats 4000000 in
theorem c_X12_say {g : Gv} {l : Launch} (p0 : Nat) (p1 : Int32) (w0 : Wd) (rz : Int32) (wz : Wd) (hf : f_X12_say p0 p1 w0 = some (rz, wz)) : MI g l yX12_say cX12_say 3 .int 2 44 [rV g p0, .int p1] w0 rz wz := by
  refine mi_of RX12 (by decide) rfl (Nat.le_of_ble_eq_true rfl) ?_
  intro X hg hll C hr h0
  subst hg; subst hll
  have t_55 : ∀ (v2 : Int32) (s0 : Int32) (s1 : Int32) (s2 : Nat) (w : Wd), f_X12_say_55 v2 s0 s1 s2 w = some (rz, wz) → Wk X 0 0 (QI X w0 rz wz) w [(2, .int v2)] 55 [.int s0, .int s1, rV (xg X) s2] := by
    intro v2 s0 s1 s2 w hf
    unfold f_X12_say_55 at hf
    refine k_iast C dX12_say_55 hf 56 rfl (fun w15 _ hf => ?_)
    refine k_iload_n C dX12_say_56 0 rfl 57 rfl ?_
    exact k_iret C hr h0 dX12_say_57 hf
  unfold f_X12_say at hf
  refine k_sub (lv2 := [(0, rV (xg X) p0), (1, .int p1)]) [0, 1] rfl ?_
  refine k_iload_n C dX12_say_0 1 rfl 1 rfl ?_
  refine k_iconst C dX12_say_1 (0) (by decide) 2 rfl ?_
  refine k_bipush C dX12_say_2 (31) (by decide) 4 rfl ?_
  refine k_callS_i C ye_X12_in se_X12_52 ⟨rfl, rfl⟩ ⟨rfl, rfl⟩ dX12_say_4 [.int p1, .int (0 : Int32), .int (31 : Int32)] rfl rfl (Nat.le_of_ble_eq_true rfl) (c_X12_in _ _ _ _) hf 7 rfl (fun x17 w16 hf => ?_)
  refine k_if_ne C dX12_say_7 hf 17 rfl 10 rfl (fun hf => ?_) (fun hf => ?_)
  · refine k_aload_n C dX12_say_17 0 rfl rfl 18 rfl ?_
    refine k_callV_v C ye_X12_keepPast ve_X12_137 ⟨rfl, rfl⟩ ⟨rfl, rfl⟩ dX12_say_18 [] rfl rfl (Nat.le_of_ble_eq_true rfl) (c_X12_keepPast _ _) hf 21 rfl (fun w18 hf => ?_)
    refine k_iload_n C dX12_say_21 1 rfl 22 rfl ?_
    refine k_aload_n C dX12_say_22 0 rfl rfl 23 rfl ?_
    refine k_getR C fe_X12_7 rfl dX12_say_23 hf 26 rfl (fun r20 hf => ?_)
    refine k_bipush C dX12_say_26 (18) (by decide) 28 rfl ?_
    refine k_iald C dX12_say_28 hf 29 rfl (fun x21 hf => ?_)
    refine k_callS_i C ye_X12_alike se_X12_147 ⟨rfl, rfl⟩ ⟨rfl, rfl⟩ dX12_say_29 [.int p1, .int x21] rfl rfl (Nat.le_of_ble_eq_true rfl) (c_X12_alike _ _ _) hf 32 rfl (fun x23 w22 hf => ?_)
    refine k_istore_n C dX12_say_32 rfl (by decide) [(2, .int x23), (0, rV (xg X) p0), (1, .int p1)] rfl 33 rfl ?_
    refine k_aload_n C dX12_say_33 1 rfl rfl 34 rfl ?_
    refine k_getR C fe_X12_7 rfl dX12_say_34 hf 37 rfl (fun r24 hf => ?_)
    refine k_bipush C dX12_say_37 (15) (by decide) 39 rfl ?_
    refine k_iload_n C dX12_say_39 0 rfl 40 rfl ?_
    refine k_iconst C dX12_say_40 (5) (by decide) 41 rfl ?_
    refine k_icmp_ne C dX12_say_41 hf 48 rfl 44 rfl (fun hf => ?_) (fun hf => ?_)
    · refine k_aload_n C dX12_say_48 1 rfl rfl 49 rfl ?_
      refine k_getR C fe_X12_7 rfl dX12_say_49 hf 52 rfl (fun r25 hf => ?_)
      refine k_bipush C dX12_say_52 (15) (by decide) 54 rfl ?_
      refine k_iald C dX12_say_54 hf 55 rfl (fun x26 hf => ?_)
      refine k_sub [0] rfl ?_
      exact t_55 _ _ _ _ w22 hf
    · refine k_iconst C dX12_say_44 (-1) (by decide) 45 rfl ?_
      refine k_goto C dX12_say_45 55 rfl ?_
      refine k_sub [0] rfl ?_
      exact t_55 _ _ _ _ w22 hf
  · refine k_aload_n C dX12_say_10 0 rfl rfl 11 rfl ?_
    refine k_bipush C dX12_say_11 (-2) (by decide) 13 rfl ?_
    refine k_callV_i C ye_X12_refuse ve_X12_56 ⟨rfl, rfl⟩ ⟨rfl, rfl⟩ dX12_say_13 [.int (-2 : Int32)] rfl rfl (Nat.le_of_ble_eq_true rfl) (c_X12_refuse _ _ _) hf 16 rfl (fun x28 w27 hf => ?_)
    exact k_iret C hr h0 dX12_say_16 hf
