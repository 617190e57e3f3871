theorem dX12_grinds_0 : decode cX12_grinds 0 = .ok (.aload_n 0, 1) := by decide +kernel
theorem dX12_grinds_1 : decode cX12_grinds 1 = .ok (.getfield 7, 3) := by decide +kernel
theorem dX12_grinds_4 : decode cX12_grinds 4 = .ok (.bipush 15, 2) := by decide +kernel
theorem dX12_grinds_6 : decode cX12_grinds 6 = .ok (.iaload, 1) := by decide +kernel
theorem dX12_grinds_7 : decode cX12_grinds 7 = .ok (.ireturn, 1) := by decide +kernel
set_option maxRecDepth 100000 in
set_option maxHeartbeats 4000000 in
theorem c_X12_grinds {g : Gv} {l : Launch} (p0 : Nat) (w0 : Wd) (rz : Int32) (wz : Wd) (hf : f_X12_grinds p0 w0 = some (rz, wz)) : MI g l yX12_grinds cX12_grinds 1 .int 0 0 [rV g p0] w0 rz wz := by
  refine mi_of RX12 (by decide) rfl (Nat.le_of_ble_eq_true rfl) ?_
  intro X hg hll C hr h0
  subst hg; subst hll
  unfold f_X12_grinds at hf
  refine k_sub (lv2 := [(0, rV (xg X) p0)]) [0] rfl ?_
  refine k_aload_n C dX12_grinds_0 0 rfl rfl 1 rfl ?_
  refine k_getR C fe_X12_7 rfl dX12_grinds_1 hf 4 rfl (fun r3 hf => ?_)
  refine k_bipush C dX12_grinds_4 (15) (by decide) 6 rfl ?_
  refine k_iald C dX12_grinds_6 hf 7 rfl (fun x4 hf => ?_)
  exact k_iret C hr h0 dX12_grinds_7 hf
theorem dX12_guess_0 : decode cX12_guess 0 = .ok (.iload_n 1, 1) := by decide +kernel
theorem dX12_guess_1 : decode cX12_guess 1 = .ok (.iconst 0, 1) := by decide +kernel
theorem dX12_guess_2 : decode cX12_guess 2 = .ok (.bipush 31, 2) := by decide +kernel
theorem dX12_guess_4 : decode cX12_guess 4 = .ok (.invokestatic 52, 3) := by decide +kernel
theorem dX12_guess_7 : decode cX12_guess 7 = .ok (.ifCond .eq 12, 3) := by decide +kernel
theorem dX12_guess_10 : decode cX12_guess 10 = .ok (.iload_n 2, 1) := by decide +kernel
theorem dX12_guess_11 : decode cX12_guess 11 = .ok (.iconst 0, 1) := by decide +kernel
theorem dX12_guess_12 : decode cX12_guess 12 = .ok (.iconst 5, 1) := by decide +kernel
theorem dX12_guess_13 : decode cX12_guess 13 = .ok (.invokestatic 52, 3) := by decide +kernel
theorem dX12_guess_16 : decode cX12_guess 16 = .ok (.ifCond .ne 10, 3) := by decide +kernel
theorem dX12_guess_19 : decode cX12_guess 19 = .ok (.aload_n 0, 1) := by decide +kernel
theorem dX12_guess_20 : decode cX12_guess 20 = .ok (.bipush (-2), 2) := by decide +kernel
theorem dX12_guess_22 : decode cX12_guess 22 = .ok (.invokevirtual 56, 3) := by decide +kernel
theorem dX12_guess_25 : decode cX12_guess 25 = .ok (.ireturn, 1) := by decide +kernel
theorem dX12_guess_26 : decode cX12_guess 26 = .ok (.aload_n 0, 1) := by decide +kernel
theorem dX12_guess_27 : decode cX12_guess 27 = .ok (.getfield 7, 3) := by decide +kernel
theorem dX12_guess_30 : decode cX12_guess 30 = .ok (.bipush 38, 2) := by decide +kernel
theorem dX12_guess_32 : decode cX12_guess 32 = .ok (.iaload, 1) := by decide +kernel
theorem dX12_guess_33 : decode cX12_guess 33 = .ok (.bipush 6, 2) := by decide +kernel
theorem dX12_guess_35 : decode cX12_guess 35 = .ok (.if_icmp .ne 10, 3) := by decide +kernel
theorem dX12_guess_38 : decode cX12_guess 38 = .ok (.aload_n 0, 1) := by decide +kernel
theorem dX12_guess_39 : decode cX12_guess 39 = .ok (.bipush (-4), 2) := by decide +kernel
theorem dX12_guess_41 : decode cX12_guess 41 = .ok (.invokevirtual 56, 3) := by decide +kernel
theorem dX12_guess_44 : decode cX12_guess 44 = .ok (.ireturn, 1) := by decide +kernel
theorem dX12_guess_45 : decode cX12_guess 45 = .ok (.aload_n 0, 1) := by decide +kernel
theorem dX12_guess_46 : decode cX12_guess 46 = .ok (.getfield 7, 3) := by decide +kernel
theorem dX12_guess_49 : decode cX12_guess 49 = .ok (.bipush 39, 2) := by decide +kernel
theorem dX12_guess_51 : decode cX12_guess 51 = .ok (.iconst 2, 1) := by decide +kernel
theorem dX12_guess_52 : decode cX12_guess 52 = .ok (.aload_n 0, 1) := by decide +kernel
theorem dX12_guess_53 : decode cX12_guess 53 = .ok (.getfield 7, 3) := by decide +kernel
theorem dX12_guess_56 : decode cX12_guess 56 = .ok (.bipush 38, 2) := by decide +kernel
theorem dX12_guess_58 : decode cX12_guess 58 = .ok (.iaload, 1) := by decide +kernel
theorem dX12_guess_59 : decode cX12_guess 59 = .ok (.imul, 1) := by decide +kernel
theorem dX12_guess_60 : decode cX12_guess 60 = .ok (.iadd, 1) := by decide +kernel
theorem dX12_guess_61 : decode cX12_guess 61 = .ok (.iload_n 1, 1) := by decide +kernel
theorem dX12_guess_62 : decode cX12_guess 62 = .ok (.iastore, 1) := by decide +kernel
theorem dX12_guess_63 : decode cX12_guess 63 = .ok (.aload_n 0, 1) := by decide +kernel
theorem dX12_guess_64 : decode cX12_guess 64 = .ok (.getfield 7, 3) := by decide +kernel
theorem dX12_guess_67 : decode cX12_guess 67 = .ok (.bipush 39, 2) := by decide +kernel
theorem dX12_guess_69 : decode cX12_guess 69 = .ok (.iconst 2, 1) := by decide +kernel
theorem dX12_guess_70 : decode cX12_guess 70 = .ok (.aload_n 0, 1) := by decide +kernel
theorem dX12_guess_71 : decode cX12_guess 71 = .ok (.getfield 7, 3) := by decide +kernel
theorem dX12_guess_74 : decode cX12_guess 74 = .ok (.bipush 38, 2) := by decide +kernel
theorem dX12_guess_76 : decode cX12_guess 76 = .ok (.iaload, 1) := by decide +kernel
theorem dX12_guess_77 : decode cX12_guess 77 = .ok (.imul, 1) := by decide +kernel
theorem dX12_guess_78 : decode cX12_guess 78 = .ok (.iadd, 1) := by decide +kernel
theorem dX12_guess_79 : decode cX12_guess 79 = .ok (.iconst 1, 1) := by decide +kernel
theorem dX12_guess_80 : decode cX12_guess 80 = .ok (.iadd, 1) := by decide +kernel
theorem dX12_guess_81 : decode cX12_guess 81 = .ok (.iload_n 2, 1) := by decide +kernel
theorem dX12_guess_82 : decode cX12_guess 82 = .ok (.iastore, 1) := by decide +kernel
theorem dX12_guess_83 : decode cX12_guess 83 = .ok (.aload_n 0, 1) := by decide +kernel
theorem dX12_guess_84 : decode cX12_guess 84 = .ok (.getfield 7, 3) := by decide +kernel
theorem dX12_guess_87 : decode cX12_guess 87 = .ok (.bipush 38, 2) := by decide +kernel
theorem dX12_guess_89 : decode cX12_guess 89 = .ok (.dup2, 1) := by decide +kernel
theorem dX12_guess_90 : decode cX12_guess 90 = .ok (.iaload, 1) := by decide +kernel
theorem dX12_guess_91 : decode cX12_guess 91 = .ok (.iconst 1, 1) := by decide +kernel
theorem dX12_guess_92 : decode cX12_guess 92 = .ok (.iadd, 1) := by decide +kernel
theorem dX12_guess_93 : decode cX12_guess 93 = .ok (.iastore, 1) := by decide +kernel
theorem dX12_guess_94 : decode cX12_guess 94 = .ok (.aload_n 0, 1) := by decide +kernel
theorem dX12_guess_95 : decode cX12_guess 95 = .ok (.getfield 7, 3) := by decide +kernel
theorem dX12_guess_98 : decode cX12_guess 98 = .ok (.bipush 38, 2) := by decide +kernel
theorem dX12_guess_100 : decode cX12_guess 100 = .ok (.iaload, 1) := by decide +kernel
theorem dX12_guess_101 : decode cX12_guess 101 = .ok (.ireturn, 1) := by decide +kernel
set_option maxRecDepth 100000 in
set_option maxHeartbeats 4000000 in
theorem c_X12_guess {g : Gv} {l : Launch} (p0 : Nat) (p1 : Int32) (p2 : Int32) (w0 : Wd) (rz : Int32) (wz : Wd) (hf : f_X12_guess p0 p1 p2 w0 = some (rz, wz)) : MI g l yX12_guess cX12_guess 3 .int 1 22 [rV g p0, .int p1, .int p2] w0 rz wz := by
  refine mi_of RX12 (by decide) rfl (Nat.le_of_ble_eq_true rfl) ?_
  intro X hg hll C hr h0
  subst hg; subst hll
  have t_19 : ∀ (v0 : Nat) (w : Wd), f_X12_guess_19 v0 w = some (rz, wz) → Wk X 0 0 (QI X w0 rz wz) w [(0, rV (xg X) v0)] 19 [] := by
    intro v0 w hf
    unfold f_X12_guess_19 at hf
    refine k_aload_n C dX12_guess_19 0 rfl rfl 20 rfl ?_
    refine k_bipush C dX12_guess_20 (-2) (by decide) 22 rfl ?_
    refine k_callV_i C ye_X12_refuse ve_X12_56 ⟨rfl, rfl⟩ ⟨rfl, rfl⟩ dX12_guess_22 [.int (-2 : Int32)] rfl rfl (Nat.le_of_ble_eq_true rfl) (c_X12_refuse _ _ _) hf 25 rfl (fun x25 w24 hf => ?_)
    exact k_iret C hr h0 dX12_guess_25 hf
  unfold f_X12_guess at hf
  refine k_sub (lv2 := [(0, rV (xg X) p0), (1, .int p1), (2, .int p2)]) [0, 1, 2] rfl ?_
  refine k_iload_n C dX12_guess_0 1 rfl 1 rfl ?_
  refine k_iconst C dX12_guess_1 (0) (by decide) 2 rfl ?_
  refine k_bipush C dX12_guess_2 (31) (by decide) 4 rfl ?_
  refine k_callS_i C ye_X12_in se_X12_52 ⟨rfl, rfl⟩ ⟨rfl, rfl⟩ dX12_guess_4 [.int p1, .int (0 : Int32), .int (31 : Int32)] rfl rfl (Nat.le_of_ble_eq_true rfl) (c_X12_in _ _ _ _) hf 7 rfl (fun x27 w26 hf => ?_)
  refine k_if_eq C dX12_guess_7 hf 19 rfl 10 rfl (fun hf => ?_) (fun hf => ?_)
  · refine k_sub [0] rfl ?_
    exact t_19 _ w26 hf
  · refine k_iload_n C dX12_guess_10 2 rfl 11 rfl ?_
    refine k_iconst C dX12_guess_11 (0) (by decide) 12 rfl ?_
    refine k_iconst C dX12_guess_12 (5) (by decide) 13 rfl ?_
    refine k_callS_i C ye_X12_in se_X12_52 ⟨rfl, rfl⟩ ⟨rfl, rfl⟩ dX12_guess_13 [.int p2, .int (0 : Int32), .int (5 : Int32)] rfl rfl (Nat.le_of_ble_eq_true rfl) (c_X12_in _ _ _ _) hf 16 rfl (fun x29 w28 hf => ?_)
    refine k_if_ne C dX12_guess_16 hf 26 rfl 19 rfl (fun hf => ?_) (fun hf => ?_)
    · refine k_aload_n C dX12_guess_26 0 rfl rfl 27 rfl ?_
      refine k_getR C fe_X12_7 rfl dX12_guess_27 hf 30 rfl (fun r30 hf => ?_)
      refine k_bipush C dX12_guess_30 (38) (by decide) 32 rfl ?_
      refine k_iald C dX12_guess_32 hf 33 rfl (fun x31 hf => ?_)
      refine k_bipush C dX12_guess_33 (6) (by decide) 35 rfl ?_
      refine k_icmp_ne C dX12_guess_35 hf 45 rfl 38 rfl (fun hf => ?_) (fun hf => ?_)
      · refine k_aload_n C dX12_guess_45 0 rfl rfl 46 rfl ?_
        refine k_getR C fe_X12_7 rfl dX12_guess_46 hf 49 rfl (fun r32 hf => ?_)
        refine k_bipush C dX12_guess_49 (39) (by decide) 51 rfl ?_
        refine k_iconst C dX12_guess_51 (2) (by decide) 52 rfl ?_
        refine k_aload_n C dX12_guess_52 0 rfl rfl 53 rfl ?_
        refine k_getR C fe_X12_7 rfl dX12_guess_53 hf 56 rfl (fun r33 hf => ?_)
        refine k_bipush C dX12_guess_56 (38) (by decide) 58 rfl ?_
        refine k_iald C dX12_guess_58 hf 59 rfl (fun x34 hf => ?_)
        refine k_imul C dX12_guess_59 60 rfl ?_
        refine k_iadd C dX12_guess_60 61 rfl ?_
        refine k_iload_n C dX12_guess_61 1 rfl 62 rfl ?_
        refine k_iast C dX12_guess_62 hf 63 rfl (fun w35 _ hf => ?_)
        refine k_aload_n C dX12_guess_63 0 rfl rfl 64 rfl ?_
        refine k_getR C fe_X12_7 rfl dX12_guess_64 hf 67 rfl (fun r36 hf => ?_)
        refine k_bipush C dX12_guess_67 (39) (by decide) 69 rfl ?_
        refine k_iconst C dX12_guess_69 (2) (by decide) 70 rfl ?_
        refine k_aload_n C dX12_guess_70 0 rfl rfl 71 rfl ?_
        refine k_getR C fe_X12_7 rfl dX12_guess_71 hf 74 rfl (fun r37 hf => ?_)
        refine k_bipush C dX12_guess_74 (38) (by decide) 76 rfl ?_
        refine k_iald C dX12_guess_76 hf 77 rfl (fun x38 hf => ?_)
        refine k_imul C dX12_guess_77 78 rfl ?_
        refine k_iadd C dX12_guess_78 79 rfl ?_
        refine k_iconst C dX12_guess_79 (1) (by decide) 80 rfl ?_
        refine k_iadd C dX12_guess_80 81 rfl ?_
        refine k_iload_n C dX12_guess_81 2 rfl 82 rfl ?_
        refine k_iast C dX12_guess_82 hf 83 rfl (fun w39 _ hf => ?_)
        refine k_aload_n C dX12_guess_83 0 rfl rfl 84 rfl ?_
        refine k_getR C fe_X12_7 rfl dX12_guess_84 hf 87 rfl (fun r40 hf => ?_)
        refine k_bipush C dX12_guess_87 (38) (by decide) 89 rfl ?_
        refine k_dup2 C dX12_guess_89 rfl rfl 90 rfl ?_
        refine k_iald C dX12_guess_90 hf 91 rfl (fun x41 hf => ?_)
        refine k_iconst C dX12_guess_91 (1) (by decide) 92 rfl ?_
        refine k_iadd C dX12_guess_92 93 rfl ?_
        refine k_iast C dX12_guess_93 hf 94 rfl (fun w42 _ hf => ?_)
        refine k_aload_n C dX12_guess_94 0 rfl rfl 95 rfl ?_
        refine k_getR C fe_X12_7 rfl dX12_guess_95 hf 98 rfl (fun r43 hf => ?_)
        refine k_bipush C dX12_guess_98 (38) (by decide) 100 rfl ?_
        refine k_iald C dX12_guess_100 hf 101 rfl (fun x44 hf => ?_)
        exact k_iret C hr h0 dX12_guess_101 hf
      · refine k_aload_n C dX12_guess_38 0 rfl rfl 39 rfl ?_
        refine k_bipush C dX12_guess_39 (-4) (by decide) 41 rfl ?_
        refine k_callV_i C ye_X12_refuse ve_X12_56 ⟨rfl, rfl⟩ ⟨rfl, rfl⟩ dX12_guess_41 [.int (-4 : Int32)] rfl rfl (Nat.le_of_ble_eq_true rfl) (c_X12_refuse _ _ _) hf 44 rfl (fun x46 w45 hf => ?_)
        exact k_iret C hr h0 dX12_guess_44 hf
    · refine k_sub [0] rfl ?_
      exact t_19 _ w28 hf
theorem dX12_hour_0 : decode cX12_hour 0 = .ok (.iload_n 1, 1) := by decide +kernel
theorem dX12_hour_1 : decode cX12_hour 1 = .ok (.iconst 1, 1) := by decide +kernel
theorem dX12_hour_2 : decode cX12_hour 2 = .ok (.bipush 60, 2) := by decide +kernel
theorem dX12_hour_4 : decode cX12_hour 4 = .ok (.invokestatic 52, 3) := by decide +kernel
theorem dX12_hour_7 : decode cX12_hour 7 = .ok (.ifCond .ne 10, 3) := by decide +kernel
theorem dX12_hour_10 : decode cX12_hour 10 = .ok (.aload_n 0, 1) := by decide +kernel
theorem dX12_hour_11 : decode cX12_hour 11 = .ok (.bipush (-2), 2) := by decide +kernel
theorem dX12_hour_13 : decode cX12_hour 13 = .ok (.invokevirtual 56, 3) := by decide +kernel
theorem dX12_hour_16 : decode cX12_hour 16 = .ok (.ireturn, 1) := by decide +kernel
theorem dX12_hour_17 : decode cX12_hour 17 = .ok (.aload_n 0, 1) := by decide +kernel
theorem dX12_hour_18 : decode cX12_hour 18 = .ok (.invokevirtual 137, 3) := by decide +kernel
theorem dX12_hour_21 : decode cX12_hour 21 = .ok (.iconst 0, 1) := by decide +kernel
theorem dX12_hour_22 : decode cX12_hour 22 = .ok (.istore_n 2, 1) := by decide +kernel
theorem dX12_hour_23 : decode cX12_hour 23 = .ok (.iconst 0, 1) := by decide +kernel
theorem dX12_hour_24 : decode cX12_hour 24 = .ok (.istore_n 3, 1) := by decide +kernel
theorem dX12_hour_25 : decode cX12_hour 25 = .ok (.iload_n 3, 1) := by decide +kernel
theorem dX12_hour_26 : decode cX12_hour 26 = .ok (.iload_n 1, 1) := by decide +kernel
theorem dX12_hour_27 : decode cX12_hour 27 = .ok (.if_icmp .ge 24, 3) := by decide +kernel
theorem dX12_hour_30 : decode cX12_hour 30 = .ok (.iload_n 2, 1) := by decide +kernel
theorem dX12_hour_31 : decode cX12_hour 31 = .ok (.aload_n 0, 1) := by decide +kernel
theorem dX12_hour_32 : decode cX12_hour 32 = .ok (.iconst 0, 1) := by decide +kernel
theorem dX12_hour_33 : decode cX12_hour 33 = .ok (.aload_n 0, 1) := by decide +kernel
theorem dX12_hour_34 : decode cX12_hour 34 = .ok (.getfield 7, 3) := by decide +kernel
theorem dX12_hour_37 : decode cX12_hour 37 = .ok (.bipush 15, 2) := by decide +kernel
theorem dX12_hour_39 : decode cX12_hour 39 = .ok (.iaload, 1) := by decide +kernel
theorem dX12_hour_40 : decode cX12_hour 40 = .ok (.invokevirtual 140, 3) := by decide +kernel
theorem dX12_hour_43 : decode cX12_hour 43 = .ok (.iadd, 1) := by decide +kernel
theorem dX12_hour_44 : decode cX12_hour 44 = .ok (.istore_n 2, 1) := by decide +kernel
theorem dX12_hour_45 : decode cX12_hour 45 = .ok (.iinc 3 1, 3) := by decide +kernel
theorem dX12_hour_48 : decode cX12_hour 48 = .ok (.goto (-23), 3) := by decide +kernel
theorem dX12_hour_51 : decode cX12_hour 51 = .ok (.iload_n 2, 1) := by decide +kernel
theorem dX12_hour_52 : decode cX12_hour 52 = .ok (.ireturn, 1) := by decide +kernel
set_option maxRecDepth 100000 in
set_option maxHeartbeats 4000000 in
theorem c_X12_hour {g : Gv} {l : Launch} (p0 : Nat) (p1 : Int32) (w0 : Wd) (rz : Int32) (wz : Wd) (hf : f_X12_hour p0 p1 w0 = some (rz, wz)) : MI g l yX12_hour cX12_hour 4 .int 3 72 [rV g p0, .int p1] w0 rz wz := by
  refine mi_of RX12 (by decide) rfl (Nat.le_of_ble_eq_true rfl) ?_
  intro X hg hll C hr h0
  subst hg; subst hll
  have t_25 : ∀ (n : Nat) (v0 : Nat) (v1 : Int32) (v2 : Int32) (v3 : Int32) (w : Wd), f_X12_hour_25 n v0 v1 v2 v3 w = some (rz, wz) → Wk X 0 0 (QI X w0 rz wz) w [(0, rV (xg X) v0), (1, .int v1), (2, .int v2), (3, .int v3)] 25 [] := by
    intro n
    induction n with
    | zero => intro v0 v1 v2 v3 w hf; rw [f_X12_hour_25] at hf; cases hf
    | succ n25 ih25 =>
      intro v0 v1 v2 v3 w hf
      rw [f_X12_hour_25] at hf
      refine k_iload_n C dX12_hour_25 3 rfl 26 rfl ?_
      refine k_iload_n C dX12_hour_26 1 rfl 27 rfl ?_
      refine k_icmp_ge C dX12_hour_27 hf 51 rfl 30 rfl (fun hf => ?_) (fun hf => ?_)
      · refine k_iload_n C dX12_hour_51 2 rfl 52 rfl ?_
        exact k_iret C hr h0 dX12_hour_52 hf
      · refine k_iload_n C dX12_hour_30 2 rfl 31 rfl ?_
        refine k_aload_n C dX12_hour_31 0 rfl rfl 32 rfl ?_
        refine k_iconst C dX12_hour_32 (0) (by decide) 33 rfl ?_
        refine k_aload_n C dX12_hour_33 0 rfl rfl 34 rfl ?_
        refine k_getR C fe_X12_7 rfl dX12_hour_34 hf 37 rfl (fun r12 hf => ?_)
        refine k_bipush C dX12_hour_37 (15) (by decide) 39 rfl ?_
        refine k_iald C dX12_hour_39 hf 40 rfl (fun x13 hf => ?_)
        refine k_callV_i C ye_X12_pass ve_X12_140 ⟨rfl, rfl⟩ ⟨rfl, rfl⟩ dX12_hour_40 [.int (0 : Int32), .int x13] rfl rfl (Nat.le_of_ble_eq_true rfl) (c_X12_pass _ _ _ _) hf 43 rfl (fun x15 w14 hf => ?_)
        refine k_iadd C dX12_hour_43 44 rfl ?_
        refine k_nmi hf (fun x16 hf => ?_)
        refine k_istore_n C dX12_hour_44 rfl (by decide) [(2, .int x16), (0, rV (xg X) v0), (1, .int v1), (3, .int v3)] rfl 45 rfl ?_
        refine k_iinc C dX12_hour_45 3 rfl (by decide) (by decide) [(3, .int (v3 + (1 : Int32))), (2, .int x16), (0, rV (xg X) v0), (1, .int v1)] rfl 48 rfl ?_
        refine k_goto C dX12_hour_48 25 rfl ?_
        refine k_sub [2, 3, 1, 0] rfl ?_
        exact ih25 _ _ _ _ w14 hf
  unfold f_X12_hour at hf
  refine k_sub (lv2 := [(0, rV (xg X) p0), (1, .int p1)]) [0, 1] rfl ?_
  refine k_iload_n C dX12_hour_0 1 rfl 1 rfl ?_
  refine k_iconst C dX12_hour_1 (1) (by decide) 2 rfl ?_
  refine k_bipush C dX12_hour_2 (60) (by decide) 4 rfl ?_
  refine k_callS_i C ye_X12_in se_X12_52 ⟨rfl, rfl⟩ ⟨rfl, rfl⟩ dX12_hour_4 [.int p1, .int (1 : Int32), .int (60 : Int32)] rfl rfl (Nat.le_of_ble_eq_true rfl) (c_X12_in _ _ _ _) hf 7 rfl (fun x18 w17 hf => ?_)
  refine k_if_ne C dX12_hour_7 hf 17 rfl 10 rfl (fun hf => ?_) (fun hf => ?_)
  · refine k_aload_n C dX12_hour_17 0 rfl rfl 18 rfl ?_
    refine k_callV_v C ye_X12_keepPast ve_X12_137 ⟨rfl, rfl⟩ ⟨rfl, rfl⟩ dX12_hour_18 [] rfl rfl (Nat.le_of_ble_eq_true rfl) (c_X12_keepPast _ _) hf 21 rfl (fun w19 hf => ?_)
    refine k_iconst C dX12_hour_21 (0) (by decide) 22 rfl ?_
    refine k_istore_n C dX12_hour_22 rfl (by decide) [(2, .int (0 : Int32)), (0, rV (xg X) p0), (1, .int p1)] rfl 23 rfl ?_
    refine k_iconst C dX12_hour_23 (0) (by decide) 24 rfl ?_
    refine k_istore_n C dX12_hour_24 rfl (by decide) [(3, .int (0 : Int32)), (2, .int (0 : Int32)), (0, rV (xg X) p0), (1, .int p1)] rfl 25 rfl ?_
    refine k_sub [2, 3, 1, 0] rfl ?_
    exact t_25 4096 _ _ _ _ w19 hf
  · refine k_aload_n C dX12_hour_10 0 rfl rfl 11 rfl ?_
    refine k_bipush C dX12_hour_11 (-2) (by decide) 13 rfl ?_
    refine k_callV_i C ye_X12_refuse ve_X12_56 ⟨rfl, rfl⟩ ⟨rfl, rfl⟩ dX12_hour_13 [.int (-2 : Int32)] rfl rfl (Nat.le_of_ble_eq_true rfl) (c_X12_refuse _ _ _) hf 16 rfl (fun x22 w21 hf => ?_)
    exact k_iret C hr h0 dX12_hour_16 hf
theorem dX12_image_0 : decode cX12_image 0 = .ok (.iload_n 1, 1) := by decide +kernel
theorem dX12_image_1 : decode cX12_image 1 = .ok (.iconst 0, 1) := by decide +kernel
theorem dX12_image_2 : decode cX12_image 2 = .ok (.iconst 1, 1) := by decide +kernel
theorem dX12_image_3 : decode cX12_image 3 = .ok (.invokestatic 52, 3) := by decide +kernel
theorem dX12_image_6 : decode cX12_image 6 = .ok (.ifCond .ne 10, 3) := by decide +kernel
theorem dX12_image_9 : decode cX12_image 9 = .ok (.aload_n 0, 1) := by decide +kernel
theorem dX12_image_10 : decode cX12_image 10 = .ok (.bipush (-2), 2) := by decide +kernel
theorem dX12_image_12 : decode cX12_image 12 = .ok (.invokevirtual 56, 3) := by decide +kernel
theorem dX12_image_15 : decode cX12_image 15 = .ok (.ireturn, 1) := by decide +kernel
theorem dX12_image_16 : decode cX12_image 16 = .ok (.iconst 0, 1) := by decide +kernel
theorem dX12_image_17 : decode cX12_image 17 = .ok (.istore_n 2, 1) := by decide +kernel
theorem dX12_image_18 : decode cX12_image 18 = .ok (.iload_n 2, 1) := by decide +kernel
theorem dX12_image_19 : decode cX12_image 19 = .ok (.sipush 213, 3) := by decide +kernel
theorem dX12_image_22 : decode cX12_image 22 = .ok (.if_icmp .ge 31, 3) := by decide +kernel
theorem dX12_image_25 : decode cX12_image 25 = .ok (.aload_n 0, 1) := by decide +kernel
theorem dX12_image_26 : decode cX12_image 26 = .ok (.getfield 7, 3) := by decide +kernel
theorem dX12_image_29 : decode cX12_image 29 = .ok (.sipush 213, 3) := by decide +kernel
theorem dX12_image_32 : decode cX12_image 32 = .ok (.sipush 213, 3) := by decide +kernel
theorem dX12_image_35 : decode cX12_image 35 = .ok (.iload_n 1, 1) := by decide +kernel
theorem dX12_image_36 : decode cX12_image 36 = .ok (.imul, 1) := by decide +kernel
theorem dX12_image_37 : decode cX12_image 37 = .ok (.iadd, 1) := by decide +kernel
theorem dX12_image_38 : decode cX12_image 38 = .ok (.iload_n 2, 1) := by decide +kernel
theorem dX12_image_39 : decode cX12_image 39 = .ok (.iadd, 1) := by decide +kernel
theorem dX12_image_40 : decode cX12_image 40 = .ok (.aload_n 0, 1) := by decide +kernel
theorem dX12_image_41 : decode cX12_image 41 = .ok (.getfield 7, 3) := by decide +kernel
theorem dX12_image_44 : decode cX12_image 44 = .ok (.iload_n 2, 1) := by decide +kernel
theorem dX12_image_45 : decode cX12_image 45 = .ok (.iaload, 1) := by decide +kernel
theorem dX12_image_46 : decode cX12_image 46 = .ok (.iastore, 1) := by decide +kernel
theorem dX12_image_47 : decode cX12_image 47 = .ok (.iinc 2 1, 3) := by decide +kernel
theorem dX12_image_50 : decode cX12_image 50 = .ok (.goto (-32), 3) := by decide +kernel
theorem dX12_image_53 : decode cX12_image 53 = .ok (.aload_n 0, 1) := by decide +kernel
theorem dX12_image_54 : decode cX12_image 54 = .ok (.getfield 13, 3) := by decide +kernel
theorem dX12_image_57 : decode cX12_image 57 = .ok (.iload_n 1, 1) := by decide +kernel
theorem dX12_image_58 : decode cX12_image 58 = .ok (.iconst 1, 1) := by decide +kernel
theorem dX12_image_59 : decode cX12_image 59 = .ok (.bastore, 1) := by decide +kernel
theorem dX12_image_60 : decode cX12_image 60 = .ok (.iconst 1, 1) := by decide +kernel
theorem dX12_image_61 : decode cX12_image 61 = .ok (.ireturn, 1) := by decide +kernel
set_option maxRecDepth 100000 in
set_option maxHeartbeats 4000000 in
theorem c_X12_image {g : Gv} {l : Launch} (p0 : Nat) (p1 : Int32) (w0 : Wd) (rz : Int32) (wz : Wd) (hf : f_X12_image p0 p1 w0 = some (rz, wz)) : MI g l yX12_image cX12_image 3 .int 1 22 [rV g p0, .int p1] w0 rz wz := by
  refine mi_of RX12 (by decide) rfl (Nat.le_of_ble_eq_true rfl) ?_
  intro X hg hll C hr h0
  subst hg; subst hll
  have t_18 : ∀ (n : Nat) (v0 : Nat) (v1 : Int32) (v2 : Int32) (w : Wd), f_X12_image_18 n v0 v1 v2 w = some (rz, wz) → Wk X 0 0 (QI X w0 rz wz) w [(0, rV (xg X) v0), (1, .int v1), (2, .int v2)] 18 [] := by
    intro n
    induction n with
    | zero => intro v0 v1 v2 w hf; rw [f_X12_image_18] at hf; cases hf
    | succ n18 ih18 =>
      intro v0 v1 v2 w hf
      rw [f_X12_image_18] at hf
      refine k_iload_n C dX12_image_18 2 rfl 19 rfl ?_
      refine k_sipush C dX12_image_19 (213) (by decide) 22 rfl ?_
      refine k_icmp_ge C dX12_image_22 hf 53 rfl 25 rfl (fun hf => ?_) (fun hf => ?_)
      · refine k_aload_n C dX12_image_53 0 rfl rfl 54 rfl ?_
        refine k_getR C fe_X12_13 rfl dX12_image_54 hf 57 rfl (fun r11 hf => ?_)
        refine k_iload_n C dX12_image_57 1 rfl 58 rfl ?_
        refine k_iconst C dX12_image_58 (1) (by decide) 59 rfl ?_
        refine k_zast C dX12_image_59 hf 60 rfl (fun w12 _ hf => ?_)
        refine k_iconst C dX12_image_60 (1) (by decide) 61 rfl ?_
        exact k_iret C hr h0 dX12_image_61 hf
      · refine k_aload_n C dX12_image_25 0 rfl rfl 26 rfl ?_
        refine k_getR C fe_X12_7 rfl dX12_image_26 hf 29 rfl (fun r13 hf => ?_)
        refine k_sipush C dX12_image_29 (213) (by decide) 32 rfl ?_
        refine k_sipush C dX12_image_32 (213) (by decide) 35 rfl ?_
        refine k_iload_n C dX12_image_35 1 rfl 36 rfl ?_
        refine k_imul C dX12_image_36 37 rfl ?_
        refine k_iadd C dX12_image_37 38 rfl ?_
        refine k_iload_n C dX12_image_38 2 rfl 39 rfl ?_
        refine k_iadd C dX12_image_39 40 rfl ?_
        refine k_aload_n C dX12_image_40 0 rfl rfl 41 rfl ?_
        refine k_getR C fe_X12_7 rfl dX12_image_41 hf 44 rfl (fun r14 hf => ?_)
        refine k_iload_n C dX12_image_44 2 rfl 45 rfl ?_
        refine k_iald C dX12_image_45 hf 46 rfl (fun x15 hf => ?_)
        refine k_iast C dX12_image_46 hf 47 rfl (fun w16 _ hf => ?_)
        refine k_iinc C dX12_image_47 2 rfl (by decide) (by decide) [(2, .int (v2 + (1 : Int32))), (0, rV (xg X) v0), (1, .int v1)] rfl 50 rfl ?_
        refine k_goto C dX12_image_50 18 rfl ?_
        refine k_sub [1, 2, 0] rfl ?_
        exact ih18 _ _ _ w16 hf
  unfold f_X12_image at hf
  refine k_sub (lv2 := [(0, rV (xg X) p0), (1, .int p1)]) [0, 1] rfl ?_
  refine k_iload_n C dX12_image_0 1 rfl 1 rfl ?_
  refine k_iconst C dX12_image_1 (0) (by decide) 2 rfl ?_
  refine k_iconst C dX12_image_2 (1) (by decide) 3 rfl ?_
  refine k_callS_i C ye_X12_in se_X12_52 ⟨rfl, rfl⟩ ⟨rfl, rfl⟩ dX12_image_3 [.int p1, .int (0 : Int32), .int (1 : Int32)] rfl rfl (Nat.le_of_ble_eq_true rfl) (c_X12_in _ _ _ _) hf 6 rfl (fun x18 w17 hf => ?_)
  refine k_if_ne C dX12_image_6 hf 16 rfl 9 rfl (fun hf => ?_) (fun hf => ?_)
  · refine k_iconst C dX12_image_16 (0) (by decide) 17 rfl ?_
    refine k_istore_n C dX12_image_17 rfl (by decide) [(2, .int (0 : Int32)), (0, rV (xg X) p0), (1, .int p1)] rfl 18 rfl ?_
    refine k_sub [1, 2, 0] rfl ?_
    exact t_18 4096 _ _ _ w17 hf
  · refine k_aload_n C dX12_image_9 0 rfl rfl 10 rfl ?_
    refine k_bipush C dX12_image_10 (-2) (by decide) 12 rfl ?_
    refine k_callV_i C ye_X12_refuse ve_X12_56 ⟨rfl, rfl⟩ ⟨rfl, rfl⟩ dX12_image_12 [.int (-2 : Int32)] rfl rfl (Nat.le_of_ble_eq_true rfl) (c_X12_refuse _ _ _) hf 15 rfl (fun x20 w19 hf => ?_)
    exact k_iret C hr h0 dX12_image_15 hf
theorem dX12_isNoted_0 : decode cX12_isNoted 0 = .ok (.iconst 1, 1) := by decide +kernel
theorem dX12_isNoted_1 : decode cX12_isNoted 1 = .ok (.istore 4, 2) := by decide +kernel
theorem dX12_isNoted_3 : decode cX12_isNoted 3 = .ok (.iconst 0, 1) := by decide +kernel
theorem dX12_isNoted_4 : decode cX12_isNoted 4 = .ok (.istore 5, 2) := by decide +kernel
theorem dX12_isNoted_6 : decode cX12_isNoted 6 = .ok (.iload 5, 2) := by decide +kernel
theorem dX12_isNoted_8 : decode cX12_isNoted 8 = .ok (.aload_n 0, 1) := by decide +kernel
theorem dX12_isNoted_9 : decode cX12_isNoted 9 = .ok (.getfield 7, 3) := by decide +kernel
theorem dX12_isNoted_12 : decode cX12_isNoted 12 = .ok (.bipush 51, 2) := by decide +kernel
theorem dX12_isNoted_14 : decode cX12_isNoted 14 = .ok (.iaload, 1) := by decide +kernel
theorem dX12_isNoted_15 : decode cX12_isNoted 15 = .ok (.if_icmp .ge 76, 3) := by decide +kernel
theorem dX12_isNoted_18 : decode cX12_isNoted 18 = .ok (.bipush 52, 2) := by decide +kernel
theorem dX12_isNoted_20 : decode cX12_isNoted 20 = .ok (.iconst 4, 1) := by decide +kernel
theorem dX12_isNoted_21 : decode cX12_isNoted 21 = .ok (.iload 5, 2) := by decide +kernel
theorem dX12_isNoted_23 : decode cX12_isNoted 23 = .ok (.imul, 1) := by decide +kernel
theorem dX12_isNoted_24 : decode cX12_isNoted 24 = .ok (.iadd, 1) := by decide +kernel
theorem dX12_isNoted_25 : decode cX12_isNoted 25 = .ok (.istore 6, 2) := by decide +kernel
theorem dX12_isNoted_27 : decode cX12_isNoted 27 = .ok (.iload 4, 2) := by decide +kernel
theorem dX12_isNoted_29 : decode cX12_isNoted 29 = .ok (.ifCond .eq 53, 3) := by decide +kernel
theorem dX12_isNoted_32 : decode cX12_isNoted 32 = .ok (.aload_n 0, 1) := by decide +kernel
theorem dX12_isNoted_33 : decode cX12_isNoted 33 = .ok (.getfield 7, 3) := by decide +kernel
theorem dX12_isNoted_36 : decode cX12_isNoted 36 = .ok (.iload 6, 2) := by decide +kernel
theorem dX12_isNoted_38 : decode cX12_isNoted 38 = .ok (.iaload, 1) := by decide +kernel
theorem dX12_isNoted_39 : decode cX12_isNoted 39 = .ok (.iload_n 1, 1) := by decide +kernel
theorem dX12_isNoted_40 : decode cX12_isNoted 40 = .ok (.if_icmp .ne 38, 3) := by decide +kernel
theorem dX12_isNoted_43 : decode cX12_isNoted 43 = .ok (.iload_n 2, 1) := by decide +kernel
theorem dX12_isNoted_44 : decode cX12_isNoted 44 = .ok (.iload_n 3, 1) := by decide +kernel
theorem dX12_isNoted_45 : decode cX12_isNoted 45 = .ok (.aload_n 0, 1) := by decide +kernel
theorem dX12_isNoted_46 : decode cX12_isNoted 46 = .ok (.getfield 7, 3) := by decide +kernel
theorem dX12_isNoted_49 : decode cX12_isNoted 49 = .ok (.iload 6, 2) := by decide +kernel
theorem dX12_isNoted_51 : decode cX12_isNoted 51 = .ok (.iconst 1, 1) := by decide +kernel
theorem dX12_isNoted_52 : decode cX12_isNoted 52 = .ok (.iadd, 1) := by decide +kernel
theorem dX12_isNoted_53 : decode cX12_isNoted 53 = .ok (.iaload, 1) := by decide +kernel
theorem dX12_isNoted_54 : decode cX12_isNoted 54 = .ok (.aload_n 0, 1) := by decide +kernel
theorem dX12_isNoted_55 : decode cX12_isNoted 55 = .ok (.getfield 7, 3) := by decide +kernel
theorem dX12_isNoted_58 : decode cX12_isNoted 58 = .ok (.iload 6, 2) := by decide +kernel
theorem dX12_isNoted_60 : decode cX12_isNoted 60 = .ok (.iconst 2, 1) := by decide +kernel
theorem dX12_isNoted_61 : decode cX12_isNoted 61 = .ok (.iadd, 1) := by decide +kernel
theorem dX12_isNoted_62 : decode cX12_isNoted 62 = .ok (.iaload, 1) := by decide +kernel
theorem dX12_isNoted_63 : decode cX12_isNoted 63 = .ok (.invokestatic 120, 3) := by decide +kernel
theorem dX12_isNoted_66 : decode cX12_isNoted 66 = .ok (.aload_n 0, 1) := by decide +kernel
theorem dX12_isNoted_67 : decode cX12_isNoted 67 = .ok (.getfield 7, 3) := by decide +kernel
theorem dX12_isNoted_70 : decode cX12_isNoted 70 = .ok (.iload 6, 2) := by decide +kernel
theorem dX12_isNoted_72 : decode cX12_isNoted 72 = .ok (.iconst 3, 1) := by decide +kernel
theorem dX12_isNoted_73 : decode cX12_isNoted 73 = .ok (.iadd, 1) := by decide +kernel
theorem dX12_isNoted_74 : decode cX12_isNoted 74 = .ok (.iaload, 1) := by decide +kernel
theorem dX12_isNoted_75 : decode cX12_isNoted 75 = .ok (.if_icmp .ne 7, 3) := by decide +kernel
theorem dX12_isNoted_78 : decode cX12_isNoted 78 = .ok (.iconst 1, 1) := by decide +kernel
theorem dX12_isNoted_79 : decode cX12_isNoted 79 = .ok (.goto 4, 3) := by decide +kernel
theorem dX12_isNoted_82 : decode cX12_isNoted 82 = .ok (.iconst 0, 1) := by decide +kernel
theorem dX12_isNoted_83 : decode cX12_isNoted 83 = .ok (.istore 4, 2) := by decide +kernel
theorem dX12_isNoted_85 : decode cX12_isNoted 85 = .ok (.iinc 5 1, 3) := by decide +kernel
theorem dX12_isNoted_88 : decode cX12_isNoted 88 = .ok (.goto (-82), 3) := by decide +kernel
theorem dX12_isNoted_91 : decode cX12_isNoted 91 = .ok (.iload 4, 2) := by decide +kernel
theorem dX12_isNoted_93 : decode cX12_isNoted 93 = .ok (.ireturn, 1) := by decide +kernel
set_option maxRecDepth 100000 in
set_option maxHeartbeats 4000000 in
theorem c_X12_isNoted {g : Gv} {l : Launch} (p0 : Nat) (p1 : Int32) (p2 : Int32) (p3 : Int32) (w0 : Wd) (rz : Int32) (wz : Wd) (hf : f_X12_isNoted p0 p1 p2 p3 w0 = some (rz, wz)) : MI g l yX12_isNoted cX12_isNoted 7 .boolean 1 24 [rV g p0, .int p1, .int p2, .int p3] w0 rz wz := by
  refine mi_of RX12 (by decide) rfl (Nat.le_of_ble_eq_true rfl) ?_
  intro X hg hll C hr h0
  subst hg; subst hll
  have t_6 : ∀ (n : Nat) (v0 : Nat) (v1 : Int32) (v2 : Int32) (v3 : Int32) (v4 : Int32) (v5 : Int32) (w : Wd), f_X12_isNoted_6 n v0 v1 v2 v3 v4 v5 w = some (rz, wz) → Wk X 0 0 (QI X w0 rz wz) w [(0, rV (xg X) v0), (1, .int v1), (2, .int v2), (3, .int v3), (4, .int v4), (5, .int v5)] 6 [] := by
    intro n
    induction n with
    | zero => intro v0 v1 v2 v3 v4 v5 w hf; rw [f_X12_isNoted_6] at hf; cases hf
    | succ n6 ih6 =>
      have t_83 : ∀ (v0 : Nat) (v1 : Int32) (v2 : Int32) (v3 : Int32) (v5 : Int32) (s0 : Int32) (w : Wd), f_X12_isNoted_83 (f_X12_isNoted_6 n6) v0 v1 v2 v3 v5 s0 w = some (rz, wz) → Wk X 0 0 (QI X w0 rz wz) w [(0, rV (xg X) v0), (1, .int v1), (2, .int v2), (3, .int v3), (5, .int v5)] 83 [.int s0] := by
        intro v0 v1 v2 v3 v5 s0 w hf
        unfold f_X12_isNoted_83 at hf
        refine k_istore C dX12_isNoted_83 (by decide) [(4, .int s0), (0, rV (xg X) v0), (1, .int v1), (2, .int v2), (3, .int v3), (5, .int v5)] rfl 85 rfl ?_
        refine k_iinc C dX12_isNoted_85 5 rfl (by decide) (by decide) [(5, .int (v5 + (1 : Int32))), (4, .int s0), (0, rV (xg X) v0), (1, .int v1), (2, .int v2), (3, .int v3)] rfl 88 rfl ?_
        refine k_goto C dX12_isNoted_88 6 rfl ?_
        refine k_sub [2, 3, 4, 5, 1, 0] rfl ?_
        exact ih6 _ _ _ _ _ _ w hf
      have t_82 : ∀ (v0 : Nat) (v1 : Int32) (v2 : Int32) (v3 : Int32) (v5 : Int32) (w : Wd), f_X12_isNoted_82 (f_X12_isNoted_6 n6) v0 v1 v2 v3 v5 w = some (rz, wz) → Wk X 0 0 (QI X w0 rz wz) w [(0, rV (xg X) v0), (1, .int v1), (2, .int v2), (3, .int v3), (5, .int v5)] 82 [] := by
        intro v0 v1 v2 v3 v5 w hf
        unfold f_X12_isNoted_82 at hf
        refine k_iconst C dX12_isNoted_82 (0) (by decide) 83 rfl ?_
        refine k_sub [0, 1, 2, 3, 4] rfl ?_
        exact t_83 _ _ _ _ _ _ w hf
      have t_78 : ∀ (v0 : Nat) (v1 : Int32) (v2 : Int32) (v3 : Int32) (v5 : Int32) (w : Wd), f_X12_isNoted_78 (f_X12_isNoted_6 n6) v0 v1 v2 v3 v5 w = some (rz, wz) → Wk X 0 0 (QI X w0 rz wz) w [(0, rV (xg X) v0), (1, .int v1), (2, .int v2), (3, .int v3), (5, .int v5)] 78 [] := by
        intro v0 v1 v2 v3 v5 w hf
        unfold f_X12_isNoted_78 at hf
        refine k_iconst C dX12_isNoted_78 (1) (by decide) 79 rfl ?_
        refine k_goto C dX12_isNoted_79 83 rfl ?_
        refine k_sub [0, 1, 2, 3, 4] rfl ?_
        exact t_83 _ _ _ _ _ _ w hf
      intro v0 v1 v2 v3 v4 v5 w hf
      rw [f_X12_isNoted_6] at hf
      refine k_iload C dX12_isNoted_6 5 rfl 8 rfl ?_
      refine k_aload_n C dX12_isNoted_8 0 rfl rfl 9 rfl ?_
      refine k_getR C fe_X12_7 rfl dX12_isNoted_9 hf 12 rfl (fun r14 hf => ?_)
      refine k_bipush C dX12_isNoted_12 (51) (by decide) 14 rfl ?_
      refine k_iald C dX12_isNoted_14 hf 15 rfl (fun x15 hf => ?_)
      refine k_icmp_ge C dX12_isNoted_15 hf 91 rfl 18 rfl (fun hf => ?_) (fun hf => ?_)
      · refine k_iload C dX12_isNoted_91 4 rfl 93 rfl ?_
        exact k_zret C hr h0 dX12_isNoted_93 hf
      · refine k_bipush C dX12_isNoted_18 (52) (by decide) 20 rfl ?_
        refine k_iconst C dX12_isNoted_20 (4) (by decide) 21 rfl ?_
        refine k_iload C dX12_isNoted_21 5 rfl 23 rfl ?_
        refine k_imul C dX12_isNoted_23 24 rfl ?_
        refine k_iadd C dX12_isNoted_24 25 rfl ?_
        refine k_nmi hf (fun x16 hf => ?_)
        refine k_istore C dX12_isNoted_25 (by decide) [(6, .int x16), (0, rV (xg X) v0), (1, .int v1), (2, .int v2), (3, .int v3), (4, .int v4), (5, .int v5)] rfl 27 rfl ?_
        refine k_iload C dX12_isNoted_27 5 rfl 29 rfl ?_
        refine k_if_eq C dX12_isNoted_29 hf 82 rfl 32 rfl (fun hf => ?_) (fun hf => ?_)
        · refine k_sub [1, 2, 3, 4, 6] rfl ?_
          exact t_82 _ _ _ _ _ w hf
        · refine k_aload_n C dX12_isNoted_32 1 rfl rfl 33 rfl ?_
          refine k_getR C fe_X12_7 rfl dX12_isNoted_33 hf 36 rfl (fun r17 hf => ?_)
          refine k_iload C dX12_isNoted_36 0 rfl 38 rfl ?_
          refine k_iald C dX12_isNoted_38 hf 39 rfl (fun x18 hf => ?_)
          refine k_iload_n C dX12_isNoted_39 2 rfl 40 rfl ?_
          refine k_icmp_ne C dX12_isNoted_40 hf 78 rfl 43 rfl (fun hf => ?_) (fun hf => ?_)
          · refine k_sub [1, 2, 3, 4, 6] rfl ?_
            exact t_78 _ _ _ _ _ w hf
          · refine k_iload_n C dX12_isNoted_43 3 rfl 44 rfl ?_
            refine k_iload_n C dX12_isNoted_44 4 rfl 45 rfl ?_
            refine k_aload_n C dX12_isNoted_45 1 rfl rfl 46 rfl ?_
            refine k_getR C fe_X12_7 rfl dX12_isNoted_46 hf 49 rfl (fun r19 hf => ?_)
            refine k_iload C dX12_isNoted_49 0 rfl 51 rfl ?_
            refine k_iconst C dX12_isNoted_51 (1) (by decide) 52 rfl ?_
            refine k_iadd C dX12_isNoted_52 53 rfl ?_
            refine k_iald C dX12_isNoted_53 hf 54 rfl (fun x20 hf => ?_)
            refine k_aload_n C dX12_isNoted_54 1 rfl rfl 55 rfl ?_
            refine k_getR C fe_X12_7 rfl dX12_isNoted_55 hf 58 rfl (fun r21 hf => ?_)
            refine k_iload C dX12_isNoted_58 0 rfl 60 rfl ?_
            refine k_iconst C dX12_isNoted_60 (2) (by decide) 61 rfl ?_
            refine k_iadd C dX12_isNoted_61 62 rfl ?_
            refine k_iald C dX12_isNoted_62 hf 63 rfl (fun x22 hf => ?_)
            refine k_callS_i C ye_X12_groundBy se_X12_120 ⟨rfl, rfl⟩ ⟨rfl, rfl⟩ dX12_isNoted_63 [.int v2, .int v3, .int x20, .int x22] rfl rfl (Nat.le_of_ble_eq_true rfl) (c_X12_groundBy _ _ _ _ _) hf 66 rfl (fun x24 w23 hf => ?_)
            refine k_aload_n C dX12_isNoted_66 1 rfl rfl 67 rfl ?_
            refine k_getR C fe_X12_7 rfl dX12_isNoted_67 hf 70 rfl (fun r25 hf => ?_)
            refine k_iload C dX12_isNoted_70 0 rfl 72 rfl ?_
            refine k_iconst C dX12_isNoted_72 (3) (by decide) 73 rfl ?_
            refine k_iadd C dX12_isNoted_73 74 rfl ?_
            refine k_iald C dX12_isNoted_74 hf 75 rfl (fun x26 hf => ?_)
            refine k_icmp_ne C dX12_isNoted_75 hf 82 rfl 78 rfl (fun hf => ?_) (fun hf => ?_)
            · refine k_sub [1, 2, 3, 4, 6] rfl ?_
              exact t_82 _ _ _ _ _ w23 hf
            · refine k_sub [1, 2, 3, 4, 6] rfl ?_
              exact t_78 _ _ _ _ _ w23 hf
  unfold f_X12_isNoted at hf
  refine k_sub (lv2 := [(0, rV (xg X) p0), (1, .int p1), (2, .int p2), (3, .int p3)]) [0, 1, 2, 3] rfl ?_
  refine k_iconst C dX12_isNoted_0 (1) (by decide) 1 rfl ?_
  refine k_istore C dX12_isNoted_1 (by decide) [(4, .int (1 : Int32)), (0, rV (xg X) p0), (1, .int p1), (2, .int p2), (3, .int p3)] rfl 3 rfl ?_
  refine k_iconst C dX12_isNoted_3 (0) (by decide) 4 rfl ?_
  refine k_istore C dX12_isNoted_4 (by decide) [(5, .int (0 : Int32)), (4, .int (1 : Int32)), (0, rV (xg X) p0), (1, .int p1), (2, .int p2), (3, .int p3)] rfl 6 rfl ?_
  refine k_sub [2, 3, 4, 5, 1, 0] rfl ?_
  exact t_6 4096 _ _ _ _ _ _ w0 hf
theorem dX12_kindsOf_0 : decode cX12_kindsOf 0 = .ok (.iconst 0, 1) := by decide +kernel
theorem dX12_kindsOf_1 : decode cX12_kindsOf 1 = .ok (.istore_n 2, 1) := by decide +kernel
theorem dX12_kindsOf_2 : decode cX12_kindsOf 2 = .ok (.iconst 0, 1) := by decide +kernel
theorem dX12_kindsOf_3 : decode cX12_kindsOf 3 = .ok (.istore_n 3, 1) := by decide +kernel
theorem dX12_kindsOf_4 : decode cX12_kindsOf 4 = .ok (.iload_n 3, 1) := by decide +kernel
theorem dX12_kindsOf_5 : decode cX12_kindsOf 5 = .ok (.bipush 6, 2) := by decide +kernel
theorem dX12_kindsOf_7 : decode cX12_kindsOf 7 = .ok (.if_icmp .ge 37, 3) := by decide +kernel
theorem dX12_kindsOf_10 : decode cX12_kindsOf 10 = .ok (.iload_n 2, 1) := by decide +kernel
theorem dX12_kindsOf_11 : decode cX12_kindsOf 11 = .ok (.aload_n 0, 1) := by decide +kernel
theorem dX12_kindsOf_12 : decode cX12_kindsOf 12 = .ok (.iload_n 1, 1) := by decide +kernel
theorem dX12_kindsOf_13 : decode cX12_kindsOf 13 = .ok (.iload_n 3, 1) := by decide +kernel
theorem dX12_kindsOf_14 : decode cX12_kindsOf 14 = .ok (.aload_n 0, 1) := by decide +kernel
theorem dX12_kindsOf_15 : decode cX12_kindsOf 15 = .ok (.getfield 7, 3) := by decide +kernel
theorem dX12_kindsOf_18 : decode cX12_kindsOf 18 = .ok (.bipush 26, 2) := by decide +kernel
theorem dX12_kindsOf_20 : decode cX12_kindsOf 20 = .ok (.iload_n 1, 1) := by decide +kernel
theorem dX12_kindsOf_21 : decode cX12_kindsOf 21 = .ok (.iadd, 1) := by decide +kernel
theorem dX12_kindsOf_22 : decode cX12_kindsOf 22 = .ok (.iaload, 1) := by decide +kernel
theorem dX12_kindsOf_23 : decode cX12_kindsOf 23 = .ok (.invokevirtual 177, 3) := by decide +kernel
theorem dX12_kindsOf_26 : decode cX12_kindsOf 26 = .ok (.ifCond .eq 9, 3) := by decide +kernel
theorem dX12_kindsOf_29 : decode cX12_kindsOf 29 = .ok (.iconst 1, 1) := by decide +kernel
theorem dX12_kindsOf_30 : decode cX12_kindsOf 30 = .ok (.iload_n 3, 1) := by decide +kernel
theorem dX12_kindsOf_31 : decode cX12_kindsOf 31 = .ok (.ishl, 1) := by decide +kernel
theorem dX12_kindsOf_32 : decode cX12_kindsOf 32 = .ok (.goto 4, 3) := by decide +kernel
theorem dX12_kindsOf_35 : decode cX12_kindsOf 35 = .ok (.iconst 0, 1) := by decide +kernel
theorem dX12_kindsOf_36 : decode cX12_kindsOf 36 = .ok (.ior, 1) := by decide +kernel
theorem dX12_kindsOf_37 : decode cX12_kindsOf 37 = .ok (.istore_n 2, 1) := by decide +kernel
theorem dX12_kindsOf_38 : decode cX12_kindsOf 38 = .ok (.iinc 3 1, 3) := by decide +kernel
theorem dX12_kindsOf_41 : decode cX12_kindsOf 41 = .ok (.goto (-37), 3) := by decide +kernel
theorem dX12_kindsOf_44 : decode cX12_kindsOf 44 = .ok (.iload_n 2, 1) := by decide +kernel
theorem dX12_kindsOf_45 : decode cX12_kindsOf 45 = .ok (.ireturn, 1) := by decide +kernel
set_option maxRecDepth 100000 in
set_option maxHeartbeats 4000000 in
theorem c_X12_kindsOf {g : Gv} {l : Launch} (p0 : Nat) (p1 : Int32) (w0 : Wd) (rz : Int32) (wz : Wd) (hf : f_X12_kindsOf p0 p1 w0 = some (rz, wz)) : MI g l yX12_kindsOf cX12_kindsOf 4 .int 2 50 [rV g p0, .int p1] w0 rz wz := by
  refine mi_of RX12 (by decide) rfl (Nat.le_of_ble_eq_true rfl) ?_
  intro X hg hll C hr h0
  subst hg; subst hll
  have t_4 : ∀ (n : Nat) (v0 : Nat) (v1 : Int32) (v2 : Int32) (v3 : Int32) (w : Wd), f_X12_kindsOf_4 n v0 v1 v2 v3 w = some (rz, wz) → Wk X 0 0 (QI X w0 rz wz) w [(0, rV (xg X) v0), (1, .int v1), (2, .int v2), (3, .int v3)] 4 [] := by
    intro n
    induction n with
    | zero => intro v0 v1 v2 v3 w hf; rw [f_X12_kindsOf_4] at hf; cases hf
    | succ n4 ih4 =>
      have t_36 : ∀ (v0 : Nat) (v1 : Int32) (v3 : Int32) (s0 : Int32) (s1 : Int32) (w : Wd), f_X12_kindsOf_36 (f_X12_kindsOf_4 n4) v0 v1 v3 s0 s1 w = some (rz, wz) → Wk X 0 0 (QI X w0 rz wz) w [(0, rV (xg X) v0), (1, .int v1), (3, .int v3)] 36 [.int s0, .int s1] := by
        intro v0 v1 v3 s0 s1 w hf
        unfold f_X12_kindsOf_36 at hf
        refine k_ior C dX12_kindsOf_36 37 rfl ?_
        refine k_nmi hf (fun x6 hf => ?_)
        refine k_istore_n C dX12_kindsOf_37 rfl (by decide) [(2, .int x6), (0, rV (xg X) v0), (1, .int v1), (3, .int v3)] rfl 38 rfl ?_
        refine k_iinc C dX12_kindsOf_38 3 rfl (by decide) (by decide) [(3, .int (v3 + (1 : Int32))), (2, .int x6), (0, rV (xg X) v0), (1, .int v1)] rfl 41 rfl ?_
        refine k_goto C dX12_kindsOf_41 4 rfl ?_
        refine k_sub [2, 3, 1, 0] rfl ?_
        exact ih4 _ _ _ _ w hf
      intro v0 v1 v2 v3 w hf
      rw [f_X12_kindsOf_4] at hf
      refine k_iload_n C dX12_kindsOf_4 3 rfl 5 rfl ?_
      refine k_bipush C dX12_kindsOf_5 (6) (by decide) 7 rfl ?_
      refine k_icmp_ge C dX12_kindsOf_7 hf 44 rfl 10 rfl (fun hf => ?_) (fun hf => ?_)
      · refine k_iload_n C dX12_kindsOf_44 2 rfl 45 rfl ?_
        exact k_iret C hr h0 dX12_kindsOf_45 hf
      · refine k_iload_n C dX12_kindsOf_10 2 rfl 11 rfl ?_
        refine k_aload_n C dX12_kindsOf_11 0 rfl rfl 12 rfl ?_
        refine k_iload_n C dX12_kindsOf_12 1 rfl 13 rfl ?_
        refine k_iload_n C dX12_kindsOf_13 3 rfl 14 rfl ?_
        refine k_aload_n C dX12_kindsOf_14 0 rfl rfl 15 rfl ?_
        refine k_getR C fe_X12_7 rfl dX12_kindsOf_15 hf 18 rfl (fun r7 hf => ?_)
        refine k_bipush C dX12_kindsOf_18 (26) (by decide) 20 rfl ?_
        refine k_iload_n C dX12_kindsOf_20 1 rfl 21 rfl ?_
        refine k_iadd C dX12_kindsOf_21 22 rfl ?_
        refine k_iald C dX12_kindsOf_22 hf 23 rfl (fun x8 hf => ?_)
        refine k_callV_i C ye_X12_isNoted ve_X12_177 ⟨rfl, rfl⟩ ⟨rfl, rfl⟩ dX12_kindsOf_23 [.int v1, .int v3, .int x8] rfl rfl (Nat.le_of_ble_eq_true rfl) (c_X12_isNoted _ _ _ _ _) hf 26 rfl (fun x10 w9 hf => ?_)
        refine k_if_eq C dX12_kindsOf_26 hf 35 rfl 29 rfl (fun hf => ?_) (fun hf => ?_)
        · refine k_iconst C dX12_kindsOf_35 (0) (by decide) 36 rfl ?_
          refine k_sub [0, 1, 3] rfl ?_
          exact t_36 _ _ _ _ _ w9 hf
        · refine k_iconst C dX12_kindsOf_29 (1) (by decide) 30 rfl ?_
          refine k_iload_n C dX12_kindsOf_30 3 rfl 31 rfl ?_
          refine k_ishl C dX12_kindsOf_31 32 rfl ?_
          refine k_goto C dX12_kindsOf_32 36 rfl ?_
          refine k_sub [0, 1, 3] rfl ?_
          exact t_36 _ _ _ _ _ w9 hf
  unfold f_X12_kindsOf at hf
  refine k_sub (lv2 := [(0, rV (xg X) p0), (1, .int p1)]) [0, 1] rfl ?_
  refine k_iconst C dX12_kindsOf_0 (0) (by decide) 1 rfl ?_
  refine k_istore_n C dX12_kindsOf_1 rfl (by decide) [(2, .int (0 : Int32)), (0, rV (xg X) p0), (1, .int p1)] rfl 2 rfl ?_
  refine k_iconst C dX12_kindsOf_2 (0) (by decide) 3 rfl ?_
  refine k_istore_n C dX12_kindsOf_3 rfl (by decide) [(3, .int (0 : Int32)), (2, .int (0 : Int32)), (0, rV (xg X) p0), (1, .int p1)] rfl 4 rfl ?_
  refine k_sub [2, 3, 1, 0] rfl ?_
  exact t_4 4096 _ _ _ _ w0 hf
theorem dX12_is_0 : decode cX12_is 0 = .ok (.aload_n 0, 1) := by decide +kernel
theorem dX12_is_1 : decode cX12_is 1 = .ok (.iload_n 1, 1) := by decide +kernel
theorem dX12_is_2 : decode cX12_is 2 = .ok (.invokevirtual 131, 3) := by decide +kernel
theorem dX12_is_5 : decode cX12_is 5 = .ok (.ifCond .eq 12, 3) := by decide +kernel
theorem dX12_is_8 : decode cX12_is 8 = .ok (.iload_n 2, 1) := by decide +kernel
theorem dX12_is_9 : decode cX12_is 9 = .ok (.iconst 0, 1) := by decide +kernel
theorem dX12_is_10 : decode cX12_is 10 = .ok (.iconst 1, 1) := by decide +kernel
theorem dX12_is_11 : decode cX12_is 11 = .ok (.invokestatic 52, 3) := by decide +kernel
theorem dX12_is_14 : decode cX12_is 14 = .ok (.ifCond .ne 10, 3) := by decide +kernel
theorem dX12_is_17 : decode cX12_is 17 = .ok (.aload_n 0, 1) := by decide +kernel
theorem dX12_is_18 : decode cX12_is 18 = .ok (.bipush (-2), 2) := by decide +kernel
theorem dX12_is_20 : decode cX12_is 20 = .ok (.invokevirtual 56, 3) := by decide +kernel
theorem dX12_is_23 : decode cX12_is 23 = .ok (.ireturn, 1) := by decide +kernel
theorem dX12_is_24 : decode cX12_is 24 = .ok (.iload_n 2, 1) := by decide +kernel
theorem dX12_is_25 : decode cX12_is 25 = .ok (.ifCond .ne 9, 3) := by decide +kernel
theorem dX12_is_28 : decode cX12_is 28 = .ok (.aload_n 0, 1) := by decide +kernel
theorem dX12_is_29 : decode cX12_is 29 = .ok (.iload_n 1, 1) := by decide +kernel
theorem dX12_is_30 : decode cX12_is 30 = .ok (.invokevirtual 180, 3) := by decide +kernel
theorem dX12_is_33 : decode cX12_is 33 = .ok (.ireturn, 1) := by decide +kernel
theorem dX12_is_34 : decode cX12_is 34 = .ok (.iconst 0, 1) := by decide +kernel
theorem dX12_is_35 : decode cX12_is 35 = .ok (.istore_n 3, 1) := by decide +kernel
theorem dX12_is_36 : decode cX12_is 36 = .ok (.iconst 1, 1) := by decide +kernel
theorem dX12_is_37 : decode cX12_is 37 = .ok (.istore 4, 2) := by decide +kernel
theorem dX12_is_39 : decode cX12_is 39 = .ok (.iload 4, 2) := by decide +kernel
theorem dX12_is_41 : decode cX12_is 41 = .ok (.bipush 10, 2) := by decide +kernel
theorem dX12_is_43 : decode cX12_is 43 = .ok (.if_icmp .ge 36, 3) := by decide +kernel
theorem dX12_is_46 : decode cX12_is 46 = .ok (.iload_n 3, 1) := by decide +kernel
theorem dX12_is_47 : decode cX12_is 47 = .ok (.aload_n 0, 1) := by decide +kernel
theorem dX12_is_48 : decode cX12_is 48 = .ok (.iload_n 1, 1) := by decide +kernel
theorem dX12_is_49 : decode cX12_is 49 = .ok (.aload_n 0, 1) := by decide +kernel
theorem dX12_is_50 : decode cX12_is 50 = .ok (.getfield 7, 3) := by decide +kernel
theorem dX12_is_53 : decode cX12_is 53 = .ok (.bipush 20, 2) := by decide +kernel
theorem dX12_is_55 : decode cX12_is 55 = .ok (.iload_n 1, 1) := by decide +kernel
theorem dX12_is_56 : decode cX12_is 56 = .ok (.iadd, 1) := by decide +kernel
theorem dX12_is_57 : decode cX12_is 57 = .ok (.iaload, 1) := by decide +kernel
theorem dX12_is_58 : decode cX12_is 58 = .ok (.iload 4, 2) := by decide +kernel
theorem dX12_is_60 : decode cX12_is 60 = .ok (.invokevirtual 177, 3) := by decide +kernel
theorem dX12_is_63 : decode cX12_is 63 = .ok (.ifCond .eq 7, 3) := by decide +kernel
theorem dX12_is_66 : decode cX12_is 66 = .ok (.iconst 1, 1) := by decide +kernel
theorem dX12_is_67 : decode cX12_is 67 = .ok (.goto 4, 3) := by decide +kernel
theorem dX12_is_70 : decode cX12_is 70 = .ok (.iconst 0, 1) := by decide +kernel
theorem dX12_is_71 : decode cX12_is 71 = .ok (.iadd, 1) := by decide +kernel
theorem dX12_is_72 : decode cX12_is 72 = .ok (.istore_n 3, 1) := by decide +kernel
theorem dX12_is_73 : decode cX12_is 73 = .ok (.iinc 4 1, 3) := by decide +kernel
theorem dX12_is_76 : decode cX12_is 76 = .ok (.goto (-37), 3) := by decide +kernel
theorem dX12_is_79 : decode cX12_is 79 = .ok (.iload_n 3, 1) := by decide +kernel
theorem dX12_is_80 : decode cX12_is 80 = .ok (.ireturn, 1) := by decide +kernel
set_option maxRecDepth 100000 in
set_option maxHeartbeats 4000000 in
theorem c_X12_is {g : Gv} {l : Launch} (p0 : Nat) (p1 : Int32) (p2 : Int32) (w0 : Wd) (rz : Int32) (wz : Wd) (hf : f_X12_is p0 p1 p2 w0 = some (rz, wz)) : MI g l yX12_is cX12_is 5 .int 3 73 [rV g p0, .int p1, .int p2] w0 rz wz := by
  refine mi_of RX12 (by decide) rfl (Nat.le_of_ble_eq_true rfl) ?_
  intro X hg hll C hr h0
  subst hg; subst hll
  have t_39 : ∀ (n : Nat) (v0 : Nat) (v1 : Int32) (v3 : Int32) (v4 : Int32) (w : Wd), f_X12_is_39 n v0 v1 v3 v4 w = some (rz, wz) → Wk X 0 0 (QI X w0 rz wz) w [(0, rV (xg X) v0), (1, .int v1), (3, .int v3), (4, .int v4)] 39 [] := by
    intro n
    induction n with
    | zero => intro v0 v1 v3 v4 w hf; rw [f_X12_is_39] at hf; cases hf
    | succ n39 ih39 =>
      have t_71 : ∀ (v0 : Nat) (v1 : Int32) (v4 : Int32) (s0 : Int32) (s1 : Int32) (w : Wd), f_X12_is_71 (f_X12_is_39 n39) v0 v1 v4 s0 s1 w = some (rz, wz) → Wk X 0 0 (QI X w0 rz wz) w [(0, rV (xg X) v0), (1, .int v1), (4, .int v4)] 71 [.int s0, .int s1] := by
        intro v0 v1 v4 s0 s1 w hf
        unfold f_X12_is_71 at hf
        refine k_iadd C dX12_is_71 72 rfl ?_
        refine k_nmi hf (fun x14 hf => ?_)
        refine k_istore_n C dX12_is_72 rfl (by decide) [(3, .int x14), (0, rV (xg X) v0), (1, .int v1), (4, .int v4)] rfl 73 rfl ?_
        refine k_iinc C dX12_is_73 3 rfl (by decide) (by decide) [(4, .int (v4 + (1 : Int32))), (3, .int x14), (0, rV (xg X) v0), (1, .int v1)] rfl 76 rfl ?_
        refine k_goto C dX12_is_76 39 rfl ?_
        refine k_sub [2, 3, 1, 0] rfl ?_
        exact ih39 _ _ _ _ w hf
      intro v0 v1 v3 v4 w hf
      rw [f_X12_is_39] at hf
      refine k_iload C dX12_is_39 3 rfl 41 rfl ?_
      refine k_bipush C dX12_is_41 (10) (by decide) 43 rfl ?_
      refine k_icmp_ge C dX12_is_43 hf 79 rfl 46 rfl (fun hf => ?_) (fun hf => ?_)
      · refine k_iload_n C dX12_is_79 2 rfl 80 rfl ?_
        exact k_iret C hr h0 dX12_is_80 hf
      · refine k_iload_n C dX12_is_46 2 rfl 47 rfl ?_
        refine k_aload_n C dX12_is_47 0 rfl rfl 48 rfl ?_
        refine k_iload_n C dX12_is_48 1 rfl 49 rfl ?_
        refine k_aload_n C dX12_is_49 0 rfl rfl 50 rfl ?_
        refine k_getR C fe_X12_7 rfl dX12_is_50 hf 53 rfl (fun r15 hf => ?_)
        refine k_bipush C dX12_is_53 (20) (by decide) 55 rfl ?_
        refine k_iload_n C dX12_is_55 1 rfl 56 rfl ?_
        refine k_iadd C dX12_is_56 57 rfl ?_
        refine k_iald C dX12_is_57 hf 58 rfl (fun x16 hf => ?_)
        refine k_iload C dX12_is_58 3 rfl 60 rfl ?_
        refine k_callV_i C ye_X12_isNoted ve_X12_177 ⟨rfl, rfl⟩ ⟨rfl, rfl⟩ dX12_is_60 [.int v1, .int x16, .int v4] rfl rfl (Nat.le_of_ble_eq_true rfl) (c_X12_isNoted _ _ _ _ _) hf 63 rfl (fun x18 w17 hf => ?_)
        refine k_if_eq C dX12_is_63 hf 70 rfl 66 rfl (fun hf => ?_) (fun hf => ?_)
        · refine k_iconst C dX12_is_70 (0) (by decide) 71 rfl ?_
          refine k_sub [0, 1, 3] rfl ?_
          exact t_71 _ _ _ _ _ w17 hf
        · refine k_iconst C dX12_is_66 (1) (by decide) 67 rfl ?_
          refine k_goto C dX12_is_67 71 rfl ?_
          refine k_sub [0, 1, 3] rfl ?_
          exact t_71 _ _ _ _ _ w17 hf
  have t_17 : ∀ (v0 : Nat) (w : Wd), f_X12_is_17 v0 w = some (rz, wz) → Wk X 0 0 (QI X w0 rz wz) w [(0, rV (xg X) v0)] 17 [] := by
    intro v0 w hf
    unfold f_X12_is_17 at hf
    refine k_aload_n C dX12_is_17 0 rfl rfl 18 rfl ?_
    refine k_bipush C dX12_is_18 (-2) (by decide) 20 rfl ?_
    refine k_callV_i C ye_X12_refuse ve_X12_56 ⟨rfl, rfl⟩ ⟨rfl, rfl⟩ dX12_is_20 [.int (-2 : Int32)] rfl rfl (Nat.le_of_ble_eq_true rfl) (c_X12_refuse _ _ _) hf 23 rfl (fun x20 w19 hf => ?_)
    exact k_iret C hr h0 dX12_is_23 hf
  unfold f_X12_is at hf
  refine k_sub (lv2 := [(0, rV (xg X) p0), (1, .int p1), (2, .int p2)]) [0, 1, 2] rfl ?_
  refine k_aload_n C dX12_is_0 0 rfl rfl 1 rfl ?_
  refine k_iload_n C dX12_is_1 1 rfl 2 rfl ?_
  refine k_callV_i C ye_X12_isGoods ve_X12_131 ⟨rfl, rfl⟩ ⟨rfl, rfl⟩ dX12_is_2 [.int p1] rfl rfl (Nat.le_of_ble_eq_true rfl) (c_X12_isGoods _ _ _) hf 5 rfl (fun x22 w21 hf => ?_)
  refine k_if_eq C dX12_is_5 hf 17 rfl 8 rfl (fun hf => ?_) (fun hf => ?_)
  · refine k_sub [0] rfl ?_
    exact t_17 _ w21 hf
  · refine k_iload_n C dX12_is_8 2 rfl 9 rfl ?_
    refine k_iconst C dX12_is_9 (0) (by decide) 10 rfl ?_
    refine k_iconst C dX12_is_10 (1) (by decide) 11 rfl ?_
    refine k_callS_i C ye_X12_in se_X12_52 ⟨rfl, rfl⟩ ⟨rfl, rfl⟩ dX12_is_11 [.int p2, .int (0 : Int32), .int (1 : Int32)] rfl rfl (Nat.le_of_ble_eq_true rfl) (c_X12_in _ _ _ _) hf 14 rfl (fun x24 w23 hf => ?_)
    refine k_if_ne C dX12_is_14 hf 24 rfl 17 rfl (fun hf => ?_) (fun hf => ?_)
    · refine k_iload_n C dX12_is_24 2 rfl 25 rfl ?_
      refine k_if_ne C dX12_is_25 hf 34 rfl 28 rfl (fun hf => ?_) (fun hf => ?_)
      · refine k_iconst C dX12_is_34 (0) (by decide) 35 rfl ?_
        refine k_istore_n C dX12_is_35 rfl (by decide) [(3, .int (0 : Int32)), (0, rV (xg X) p0), (1, .int p1), (2, .int p2)] rfl 36 rfl ?_
        refine k_iconst C dX12_is_36 (1) (by decide) 37 rfl ?_
        refine k_istore C dX12_is_37 (by decide) [(4, .int (1 : Int32)), (3, .int (0 : Int32)), (0, rV (xg X) p0), (1, .int p1), (2, .int p2)] rfl 39 rfl ?_
        refine k_sub [2, 3, 1, 0] rfl ?_
        exact t_39 4096 _ _ _ _ w23 hf
      · refine k_aload_n C dX12_is_28 0 rfl rfl 29 rfl ?_
        refine k_iload_n C dX12_is_29 1 rfl 30 rfl ?_
        refine k_callV_i C ye_X12_kindsOf ve_X12_180 ⟨rfl, rfl⟩ ⟨rfl, rfl⟩ dX12_is_30 [.int p1] rfl rfl (Nat.le_of_ble_eq_true rfl) (c_X12_kindsOf _ _ _) hf 33 rfl (fun x26 w25 hf => ?_)
        exact k_iret C hr h0 dX12_is_33 hf
    · refine k_sub [0] rfl ?_
      exact t_17 _ w23 hf
theorem dX12_isFigure_0 : decode cX12_isFigure 0 = .ok (.iload_n 1, 1) := by decide +kernel
theorem dX12_isFigure_1 : decode cX12_isFigure 1 = .ok (.aload_n 0, 1) := by decide +kernel
theorem dX12_isFigure_2 : decode cX12_isFigure 2 = .ok (.getfield 64, 3) := by decide +kernel
theorem dX12_isFigure_5 : decode cX12_isFigure 5 = .ok (.if_icmp .ge 23, 3) := by decide +kernel
theorem dX12_isFigure_8 : decode cX12_isFigure 8 = .ok (.aload_n 0, 1) := by decide +kernel
theorem dX12_isFigure_9 : decode cX12_isFigure 9 = .ok (.getfield 24, 3) := by decide +kernel
theorem dX12_isFigure_12 : decode cX12_isFigure 12 = .ok (.iload_n 1, 1) := by decide +kernel
theorem dX12_isFigure_13 : decode cX12_isFigure 13 = .ok (.iaload, 1) := by decide +kernel
theorem dX12_isFigure_14 : decode cX12_isFigure 14 = .ok (.bipush 48, 2) := by decide +kernel
theorem dX12_isFigure_16 : decode cX12_isFigure 16 = .ok (.bipush 57, 2) := by decide +kernel
theorem dX12_isFigure_18 : decode cX12_isFigure 18 = .ok (.invokestatic 52, 3) := by decide +kernel
theorem dX12_isFigure_21 : decode cX12_isFigure 21 = .ok (.ifCond .eq 7, 3) := by decide +kernel
theorem dX12_isFigure_24 : decode cX12_isFigure 24 = .ok (.iconst 1, 1) := by decide +kernel
theorem dX12_isFigure_25 : decode cX12_isFigure 25 = .ok (.goto 4, 3) := by decide +kernel
theorem dX12_isFigure_28 : decode cX12_isFigure 28 = .ok (.iconst 0, 1) := by decide +kernel
theorem dX12_isFigure_29 : decode cX12_isFigure 29 = .ok (.ireturn, 1) := by decide +kernel
set_option maxRecDepth 100000 in
set_option maxHeartbeats 4000000 in
theorem c_X12_isFigure {g : Gv} {l : Launch} (p0 : Nat) (p1 : Int32) (w0 : Wd) (rz : Int32) (wz : Wd) (hf : f_X12_isFigure p0 p1 w0 = some (rz, wz)) : MI g l yX12_isFigure cX12_isFigure 2 .boolean 1 22 [rV g p0, .int p1] w0 rz wz := by
  refine mi_of RX12 (by decide) rfl (Nat.le_of_ble_eq_true rfl) ?_
  intro X hg hll C hr h0
  subst hg; subst hll
  have t_29 : ∀ (s0 : Int32) (w : Wd), f_X12_isFigure_29 s0 w = some (rz, wz) → Wk X 0 0 (QI X w0 rz wz) w [] 29 [.int s0] := by
    intro s0 w hf
    unfold f_X12_isFigure_29 at hf
    exact k_zret C hr h0 dX12_isFigure_29 hf
  have t_28 : ∀ (w : Wd), f_X12_isFigure_28 w = some (rz, wz) → Wk X 0 0 (QI X w0 rz wz) w [] 28 [] := by
    intro w hf
    unfold f_X12_isFigure_28 at hf
    refine k_iconst C dX12_isFigure_28 (0) (by decide) 29 rfl ?_
    refine k_sub [] rfl ?_
    exact t_29 _ w hf
  unfold f_X12_isFigure at hf
  refine k_sub (lv2 := [(0, rV (xg X) p0), (1, .int p1)]) [0, 1] rfl ?_
  refine k_iload_n C dX12_isFigure_0 1 rfl 1 rfl ?_
  refine k_aload_n C dX12_isFigure_1 0 rfl rfl 2 rfl ?_
  refine k_getI C fe_X12_64 rfl dX12_isFigure_2 hf 5 rfl (fun x6 hf => ?_)
  refine k_icmp_ge C dX12_isFigure_5 hf 28 rfl 8 rfl (fun hf => ?_) (fun hf => ?_)
  · refine k_sub [] rfl ?_
    exact t_28 w0 hf
  · refine k_aload_n C dX12_isFigure_8 0 rfl rfl 9 rfl ?_
    refine k_getR C fe_X12_24 rfl dX12_isFigure_9 hf 12 rfl (fun r7 hf => ?_)
    refine k_iload_n C dX12_isFigure_12 1 rfl 13 rfl ?_
    refine k_iald C dX12_isFigure_13 hf 14 rfl (fun x8 hf => ?_)
    refine k_bipush C dX12_isFigure_14 (48) (by decide) 16 rfl ?_
    refine k_bipush C dX12_isFigure_16 (57) (by decide) 18 rfl ?_
    refine k_callS_i C ye_X12_in se_X12_52 ⟨rfl, rfl⟩ ⟨rfl, rfl⟩ dX12_isFigure_18 [.int x8, .int (48 : Int32), .int (57 : Int32)] rfl rfl (Nat.le_of_ble_eq_true rfl) (c_X12_in _ _ _ _) hf 21 rfl (fun x10 w9 hf => ?_)
    refine k_if_eq C dX12_isFigure_21 hf 28 rfl 24 rfl (fun hf => ?_) (fun hf => ?_)
    · refine k_sub [] rfl ?_
      exact t_28 w9 hf
    · refine k_iconst C dX12_isFigure_24 (1) (by decide) 25 rfl ?_
      refine k_goto C dX12_isFigure_25 29 rfl ?_
      refine k_sub [] rfl ?_
      exact t_29 _ w9 hf
theorem dX12_isLetter_0 : decode cX12_isLetter 0 = .ok (.iload_n 1, 1) := by decide +kernel
theorem dX12_isLetter_1 : decode cX12_isLetter 1 = .ok (.aload_n 0, 1) := by decide +kernel
theorem dX12_isLetter_2 : decode cX12_isLetter 2 = .ok (.getfield 64, 3) := by decide +kernel
theorem dX12_isLetter_5 : decode cX12_isLetter 5 = .ok (.if_icmp .ge 23, 3) := by decide +kernel
theorem dX12_isLetter_8 : decode cX12_isLetter 8 = .ok (.aload_n 0, 1) := by decide +kernel
theorem dX12_isLetter_9 : decode cX12_isLetter 9 = .ok (.getfield 24, 3) := by decide +kernel
theorem dX12_isLetter_12 : decode cX12_isLetter 12 = .ok (.iload_n 1, 1) := by decide +kernel
theorem dX12_isLetter_13 : decode cX12_isLetter 13 = .ok (.iaload, 1) := by decide +kernel
theorem dX12_isLetter_14 : decode cX12_isLetter 14 = .ok (.bipush 97, 2) := by decide +kernel
theorem dX12_isLetter_16 : decode cX12_isLetter 16 = .ok (.bipush 122, 2) := by decide +kernel
theorem dX12_isLetter_18 : decode cX12_isLetter 18 = .ok (.invokestatic 52, 3) := by decide +kernel
theorem dX12_isLetter_21 : decode cX12_isLetter 21 = .ok (.ifCond .eq 7, 3) := by decide +kernel
theorem dX12_isLetter_24 : decode cX12_isLetter 24 = .ok (.iconst 1, 1) := by decide +kernel
theorem dX12_isLetter_25 : decode cX12_isLetter 25 = .ok (.goto 4, 3) := by decide +kernel
theorem dX12_isLetter_28 : decode cX12_isLetter 28 = .ok (.iconst 0, 1) := by decide +kernel
theorem dX12_isLetter_29 : decode cX12_isLetter 29 = .ok (.ireturn, 1) := by decide +kernel
set_option maxRecDepth 100000 in
set_option maxHeartbeats 4000000 in
theorem c_X12_isLetter {g : Gv} {l : Launch} (p0 : Nat) (p1 : Int32) (w0 : Wd) (rz : Int32) (wz : Wd) (hf : f_X12_isLetter p0 p1 w0 = some (rz, wz)) : MI g l yX12_isLetter cX12_isLetter 2 .boolean 1 22 [rV g p0, .int p1] w0 rz wz := by
  refine mi_of RX12 (by decide) rfl (Nat.le_of_ble_eq_true rfl) ?_
  intro X hg hll C hr h0
  subst hg; subst hll
  have t_29 : ∀ (s0 : Int32) (w : Wd), f_X12_isLetter_29 s0 w = some (rz, wz) → Wk X 0 0 (QI X w0 rz wz) w [] 29 [.int s0] := by
    intro s0 w hf
    unfold f_X12_isLetter_29 at hf
    exact k_zret C hr h0 dX12_isLetter_29 hf
  have t_28 : ∀ (w : Wd), f_X12_isLetter_28 w = some (rz, wz) → Wk X 0 0 (QI X w0 rz wz) w [] 28 [] := by
    intro w hf
    unfold f_X12_isLetter_28 at hf
    refine k_iconst C dX12_isLetter_28 (0) (by decide) 29 rfl ?_
    refine k_sub [] rfl ?_
    exact t_29 _ w hf
  unfold f_X12_isLetter at hf
  refine k_sub (lv2 := [(0, rV (xg X) p0), (1, .int p1)]) [0, 1] rfl ?_
  refine k_iload_n C dX12_isLetter_0 1 rfl 1 rfl ?_
  refine k_aload_n C dX12_isLetter_1 0 rfl rfl 2 rfl ?_
  refine k_getI C fe_X12_64 rfl dX12_isLetter_2 hf 5 rfl (fun x6 hf => ?_)
  refine k_icmp_ge C dX12_isLetter_5 hf 28 rfl 8 rfl (fun hf => ?_) (fun hf => ?_)
  · refine k_sub [] rfl ?_
    exact t_28 w0 hf
  · refine k_aload_n C dX12_isLetter_8 0 rfl rfl 9 rfl ?_
    refine k_getR C fe_X12_24 rfl dX12_isLetter_9 hf 12 rfl (fun r7 hf => ?_)
    refine k_iload_n C dX12_isLetter_12 1 rfl 13 rfl ?_
    refine k_iald C dX12_isLetter_13 hf 14 rfl (fun x8 hf => ?_)
    refine k_bipush C dX12_isLetter_14 (97) (by decide) 16 rfl ?_
    refine k_bipush C dX12_isLetter_16 (122) (by decide) 18 rfl ?_
    refine k_callS_i C ye_X12_in se_X12_52 ⟨rfl, rfl⟩ ⟨rfl, rfl⟩ dX12_isLetter_18 [.int x8, .int (97 : Int32), .int (122 : Int32)] rfl rfl (Nat.le_of_ble_eq_true rfl) (c_X12_in _ _ _ _) hf 21 rfl (fun x10 w9 hf => ?_)
    refine k_if_eq C dX12_isLetter_21 hf 28 rfl 24 rfl (fun hf => ?_) (fun hf => ?_)
    · refine k_sub [] rfl ?_
      exact t_28 w9 hf
    · refine k_iconst C dX12_isLetter_24 (1) (by decide) 25 rfl ?_
      refine k_goto C dX12_isLetter_25 29 rfl ?_
      refine k_sub [] rfl ?_
      exact t_29 _ w9 hf
theorem dX12_isWord_0 : decode cX12_isWord 0 = .ok (.aload_n 0, 1) := by decide +kernel
theorem dX12_isWord_1 : decode cX12_isWord 1 = .ok (.getfield 68, 3) := by decide +kernel
theorem dX12_isWord_4 : decode cX12_isWord 4 = .ok (.aload_n 0, 1) := by decide +kernel
theorem dX12_isWord_5 : decode cX12_isWord 5 = .ok (.getfield 71, 3) := by decide +kernel
theorem dX12_isWord_8 : decode cX12_isWord 8 = .ok (.isub, 1) := by decide +kernel
theorem dX12_isWord_9 : decode cX12_isWord 9 = .ok (.iconst 5, 1) := by decide +kernel
theorem dX12_isWord_10 : decode cX12_isWord 10 = .ok (.if_icmp .gt 7, 3) := by decide +kernel
theorem dX12_isWord_13 : decode cX12_isWord 13 = .ok (.iconst 1, 1) := by decide +kernel
theorem dX12_isWord_14 : decode cX12_isWord 14 = .ok (.goto 4, 3) := by decide +kernel
theorem dX12_isWord_17 : decode cX12_isWord 17 = .ok (.iconst 0, 1) := by decide +kernel
theorem dX12_isWord_18 : decode cX12_isWord 18 = .ok (.istore_n 2, 1) := by decide +kernel
theorem dX12_isWord_19 : decode cX12_isWord 19 = .ok (.iconst 0, 1) := by decide +kernel
theorem dX12_isWord_20 : decode cX12_isWord 20 = .ok (.istore_n 3, 1) := by decide +kernel
theorem dX12_isWord_21 : decode cX12_isWord 21 = .ok (.iload_n 3, 1) := by decide +kernel
theorem dX12_isWord_22 : decode cX12_isWord 22 = .ok (.iconst 5, 1) := by decide +kernel
theorem dX12_isWord_23 : decode cX12_isWord 23 = .ok (.if_icmp .ge 64, 3) := by decide +kernel
theorem dX12_isWord_26 : decode cX12_isWord 26 = .ok (.iload_n 2, 1) := by decide +kernel
theorem dX12_isWord_27 : decode cX12_isWord 27 = .ok (.ifCond .eq 60, 3) := by decide +kernel
theorem dX12_isWord_30 : decode cX12_isWord 30 = .ok (.aload_n 0, 1) := by decide +kernel
theorem dX12_isWord_31 : decode cX12_isWord 31 = .ok (.getfield 71, 3) := by decide +kernel
theorem dX12_isWord_34 : decode cX12_isWord 34 = .ok (.iload_n 3, 1) := by decide +kernel
theorem dX12_isWord_35 : decode cX12_isWord 35 = .ok (.iadd, 1) := by decide +kernel
theorem dX12_isWord_36 : decode cX12_isWord 36 = .ok (.aload_n 0, 1) := by decide +kernel
theorem dX12_isWord_37 : decode cX12_isWord 37 = .ok (.getfield 68, 3) := by decide +kernel
theorem dX12_isWord_40 : decode cX12_isWord 40 = .ok (.if_icmp .ge 17, 3) := by decide +kernel
theorem dX12_isWord_43 : decode cX12_isWord 43 = .ok (.aload_n 0, 1) := by decide +kernel
theorem dX12_isWord_44 : decode cX12_isWord 44 = .ok (.getfield 24, 3) := by decide +kernel
theorem dX12_isWord_47 : decode cX12_isWord 47 = .ok (.aload_n 0, 1) := by decide +kernel
theorem dX12_isWord_48 : decode cX12_isWord 48 = .ok (.getfield 71, 3) := by decide +kernel
theorem dX12_isWord_51 : decode cX12_isWord 51 = .ok (.iload_n 3, 1) := by decide +kernel
theorem dX12_isWord_52 : decode cX12_isWord 52 = .ok (.iadd, 1) := by decide +kernel
theorem dX12_isWord_53 : decode cX12_isWord 53 = .ok (.iaload, 1) := by decide +kernel
theorem dX12_isWord_54 : decode cX12_isWord 54 = .ok (.goto 4, 3) := by decide +kernel
theorem dX12_isWord_57 : decode cX12_isWord 57 = .ok (.iconst 0, 1) := by decide +kernel
theorem dX12_isWord_58 : decode cX12_isWord 58 = .ok (.istore 4, 2) := by decide +kernel
theorem dX12_isWord_60 : decode cX12_isWord 60 = .ok (.iload 4, 2) := by decide +kernel
theorem dX12_isWord_62 : decode cX12_isWord 62 = .ok (.aload_n 0, 1) := by decide +kernel
theorem dX12_isWord_63 : decode cX12_isWord 63 = .ok (.getfield 27, 3) := by decide +kernel
theorem dX12_isWord_66 : decode cX12_isWord 66 = .ok (.iconst 5, 1) := by decide +kernel
theorem dX12_isWord_67 : decode cX12_isWord 67 = .ok (.iload_n 1, 1) := by decide +kernel
theorem dX12_isWord_68 : decode cX12_isWord 68 = .ok (.imul, 1) := by decide +kernel
theorem dX12_isWord_69 : decode cX12_isWord 69 = .ok (.iload_n 3, 1) := by decide +kernel
theorem dX12_isWord_70 : decode cX12_isWord 70 = .ok (.iadd, 1) := by decide +kernel
theorem dX12_isWord_71 : decode cX12_isWord 71 = .ok (.iaload, 1) := by decide +kernel
theorem dX12_isWord_72 : decode cX12_isWord 72 = .ok (.if_icmp .ne 7, 3) := by decide +kernel
theorem dX12_isWord_75 : decode cX12_isWord 75 = .ok (.iconst 1, 1) := by decide +kernel
theorem dX12_isWord_76 : decode cX12_isWord 76 = .ok (.goto 4, 3) := by decide +kernel
theorem dX12_isWord_79 : decode cX12_isWord 79 = .ok (.iconst 0, 1) := by decide +kernel
theorem dX12_isWord_80 : decode cX12_isWord 80 = .ok (.istore_n 2, 1) := by decide +kernel
theorem dX12_isWord_81 : decode cX12_isWord 81 = .ok (.iinc 3 1, 3) := by decide +kernel
theorem dX12_isWord_84 : decode cX12_isWord 84 = .ok (.goto (-63), 3) := by decide +kernel
theorem dX12_isWord_87 : decode cX12_isWord 87 = .ok (.iload_n 2, 1) := by decide +kernel
theorem dX12_isWord_88 : decode cX12_isWord 88 = .ok (.ireturn, 1) := by decide +kernel
set_option maxRecDepth 100000 in
set_option maxHeartbeats 4000000 in
theorem c_X12_isWord {g : Gv} {l : Launch} (p0 : Nat) (p1 : Int32) (w0 : Wd) (rz : Int32) (wz : Wd) (hf : f_X12_isWord p0 p1 w0 = some (rz, wz)) : MI g l yX12_isWord cX12_isWord 5 .boolean 0 0 [rV g p0, .int p1] w0 rz wz := by
  refine mi_of RX12 (by decide) rfl (Nat.le_of_ble_eq_true rfl) ?_
  intro X hg hll C hr h0
  subst hg; subst hll
  have t_87 : ∀ (v2 : Int32) (w : Wd), f_X12_isWord_87 v2 w = some (rz, wz) → Wk X 0 0 (QI X w0 rz wz) w [(2, .int v2)] 87 [] := by
    intro v2 w hf
    unfold f_X12_isWord_87 at hf
    refine k_iload_n C dX12_isWord_87 0 rfl 88 rfl ?_
    exact k_zret C hr h0 dX12_isWord_88 hf
  have t_21 : ∀ (n : Nat) (v0 : Nat) (v1 : Int32) (v2 : Int32) (v3 : Int32) (w : Wd), f_X12_isWord_21 n v0 v1 v2 v3 w = some (rz, wz) → Wk X 0 0 (QI X w0 rz wz) w [(0, rV (xg X) v0), (1, .int v1), (2, .int v2), (3, .int v3)] 21 [] := by
    intro n
    induction n with
    | zero => intro v0 v1 v2 v3 w hf; rw [f_X12_isWord_21] at hf; cases hf
    | succ n21 ih21 =>
      have t_80 : ∀ (v0 : Nat) (v1 : Int32) (v3 : Int32) (s0 : Int32) (w : Wd), f_X12_isWord_80 (f_X12_isWord_21 n21) v0 v1 v3 s0 w = some (rz, wz) → Wk X 0 0 (QI X w0 rz wz) w [(0, rV (xg X) v0), (1, .int v1), (3, .int v3)] 80 [.int s0] := by
        intro v0 v1 v3 s0 w hf
        unfold f_X12_isWord_80 at hf
        refine k_istore_n C dX12_isWord_80 rfl (by decide) [(2, .int s0), (0, rV (xg X) v0), (1, .int v1), (3, .int v3)] rfl 81 rfl ?_
        refine k_iinc C dX12_isWord_81 3 rfl (by decide) (by decide) [(3, .int (v3 + (1 : Int32))), (2, .int s0), (0, rV (xg X) v0), (1, .int v1)] rfl 84 rfl ?_
        refine k_goto C dX12_isWord_84 21 rfl ?_
        refine k_sub [2, 3, 1, 0] rfl ?_
        exact ih21 _ _ _ _ w hf
      have t_58 : ∀ (v0 : Nat) (v1 : Int32) (v3 : Int32) (s0 : Int32) (w : Wd), f_X12_isWord_58 (f_X12_isWord_21 n21) v0 v1 v3 s0 w = some (rz, wz) → Wk X 0 0 (QI X w0 rz wz) w [(0, rV (xg X) v0), (1, .int v1), (3, .int v3)] 58 [.int s0] := by
        intro v0 v1 v3 s0 w hf
        unfold f_X12_isWord_58 at hf
        refine k_istore C dX12_isWord_58 (by decide) [(4, .int s0), (0, rV (xg X) v0), (1, .int v1), (3, .int v3)] rfl 60 rfl ?_
        refine k_iload C dX12_isWord_60 0 rfl 62 rfl ?_
        refine k_aload_n C dX12_isWord_62 1 rfl rfl 63 rfl ?_
        refine k_getR C fe_X12_27 rfl dX12_isWord_63 hf 66 rfl (fun r10 hf => ?_)
        refine k_iconst C dX12_isWord_66 (5) (by decide) 67 rfl ?_
        refine k_iload_n C dX12_isWord_67 2 rfl 68 rfl ?_
        refine k_imul C dX12_isWord_68 69 rfl ?_
        refine k_iload_n C dX12_isWord_69 3 rfl 70 rfl ?_
        refine k_iadd C dX12_isWord_70 71 rfl ?_
        refine k_iald C dX12_isWord_71 hf 72 rfl (fun x11 hf => ?_)
        refine k_icmp_ne C dX12_isWord_72 hf 79 rfl 75 rfl (fun hf => ?_) (fun hf => ?_)
        · refine k_iconst C dX12_isWord_79 (0) (by decide) 80 rfl ?_
          refine k_sub [1, 2, 3] rfl ?_
          exact t_80 _ _ _ _ w hf
        · refine k_iconst C dX12_isWord_75 (1) (by decide) 76 rfl ?_
          refine k_goto C dX12_isWord_76 80 rfl ?_
          refine k_sub [1, 2, 3] rfl ?_
          exact t_80 _ _ _ _ w hf
      intro v0 v1 v2 v3 w hf
      rw [f_X12_isWord_21] at hf
      refine k_iload_n C dX12_isWord_21 3 rfl 22 rfl ?_
      refine k_iconst C dX12_isWord_22 (5) (by decide) 23 rfl ?_
      refine k_icmp_ge C dX12_isWord_23 hf 87 rfl 26 rfl (fun hf => ?_) (fun hf => ?_)
      · refine k_sub [2] rfl ?_
        exact t_87 _ w hf
      · refine k_iload_n C dX12_isWord_26 2 rfl 27 rfl ?_
        refine k_if_eq C dX12_isWord_27 hf 87 rfl 30 rfl (fun hf => ?_) (fun hf => ?_)
        · refine k_sub [2] rfl ?_
          exact t_87 _ w hf
        · refine k_aload_n C dX12_isWord_30 0 rfl rfl 31 rfl ?_
          refine k_getI C fe_X12_71 rfl dX12_isWord_31 hf 34 rfl (fun x12 hf => ?_)
          refine k_iload_n C dX12_isWord_34 3 rfl 35 rfl ?_
          refine k_iadd C dX12_isWord_35 36 rfl ?_
          refine k_aload_n C dX12_isWord_36 0 rfl rfl 37 rfl ?_
          refine k_getI C fe_X12_68 rfl dX12_isWord_37 hf 40 rfl (fun x13 hf => ?_)
          refine k_icmp_ge C dX12_isWord_40 hf 57 rfl 43 rfl (fun hf => ?_) (fun hf => ?_)
          · refine k_iconst C dX12_isWord_57 (0) (by decide) 58 rfl ?_
            refine k_sub [0, 1, 3] rfl ?_
            exact t_58 _ _ _ _ w hf
          · refine k_aload_n C dX12_isWord_43 0 rfl rfl 44 rfl ?_
            refine k_getR C fe_X12_24 rfl dX12_isWord_44 hf 47 rfl (fun r14 hf => ?_)
            refine k_aload_n C dX12_isWord_47 0 rfl rfl 48 rfl ?_
            refine k_getI C fe_X12_71 rfl dX12_isWord_48 hf 51 rfl (fun x15 hf => ?_)
            refine k_iload_n C dX12_isWord_51 3 rfl 52 rfl ?_
            refine k_iadd C dX12_isWord_52 53 rfl ?_
            refine k_iald C dX12_isWord_53 hf 54 rfl (fun x16 hf => ?_)
            refine k_goto C dX12_isWord_54 58 rfl ?_
            refine k_sub [0, 1, 3] rfl ?_
            exact t_58 _ _ _ _ w hf
  have t_18 : ∀ (v0 : Nat) (v1 : Int32) (s0 : Int32) (w : Wd), f_X12_isWord_18 v0 v1 s0 w = some (rz, wz) → Wk X 0 0 (QI X w0 rz wz) w [(0, rV (xg X) v0), (1, .int v1)] 18 [.int s0] := by
    intro v0 v1 s0 w hf
    unfold f_X12_isWord_18 at hf
    refine k_istore_n C dX12_isWord_18 rfl (by decide) [(2, .int s0), (0, rV (xg X) v0), (1, .int v1)] rfl 19 rfl ?_
    refine k_iconst C dX12_isWord_19 (0) (by decide) 20 rfl ?_
    refine k_istore_n C dX12_isWord_20 rfl (by decide) [(3, .int (0 : Int32)), (2, .int s0), (0, rV (xg X) v0), (1, .int v1)] rfl 21 rfl ?_
    refine k_sub [2, 3, 1, 0] rfl ?_
    exact t_21 4096 _ _ _ _ w hf
  unfold f_X12_isWord at hf
  refine k_sub (lv2 := [(0, rV (xg X) p0), (1, .int p1)]) [0, 1] rfl ?_
  refine k_aload_n C dX12_isWord_0 0 rfl rfl 1 rfl ?_
  refine k_getI C fe_X12_68 rfl dX12_isWord_1 hf 4 rfl (fun x17 hf => ?_)
  refine k_aload_n C dX12_isWord_4 0 rfl rfl 5 rfl ?_
  refine k_getI C fe_X12_71 rfl dX12_isWord_5 hf 8 rfl (fun x18 hf => ?_)
  refine k_isub C dX12_isWord_8 9 rfl ?_
  refine k_iconst C dX12_isWord_9 (5) (by decide) 10 rfl ?_
  refine k_icmp_gt C dX12_isWord_10 hf 17 rfl 13 rfl (fun hf => ?_) (fun hf => ?_)
  · refine k_iconst C dX12_isWord_17 (0) (by decide) 18 rfl ?_
    refine k_sub [0, 1] rfl ?_
    exact t_18 _ _ _ w0 hf
  · refine k_iconst C dX12_isWord_13 (1) (by decide) 14 rfl ?_
    refine k_goto C dX12_isWord_14 18 rfl ?_
    refine k_sub [0, 1] rfl ?_
    exact t_18 _ _ _ w0 hf
theorem dX12_layFewest_0 : decode cX12_layFewest 0 = .ok (.iconst 0, 1) := by decide +kernel
theorem dX12_layFewest_1 : decode cX12_layFewest 1 = .ok (.istore_n 2, 1) := by decide +kernel
theorem dX12_layFewest_2 : decode cX12_layFewest 2 = .ok (.iload_n 2, 1) := by decide +kernel
theorem dX12_layFewest_3 : decode cX12_layFewest 3 = .ok (.iload_n 1, 1) := by decide +kernel
theorem dX12_layFewest_4 : decode cX12_layFewest 4 = .ok (.if_icmp .gt 37, 3) := by decide +kernel
theorem dX12_layFewest_7 : decode cX12_layFewest 7 = .ok (.aload_n 0, 1) := by decide +kernel
theorem dX12_layFewest_8 : decode cX12_layFewest 8 = .ok (.getfield 33, 3) := by decide +kernel
theorem dX12_layFewest_11 : decode cX12_layFewest 11 = .ok (.bipush 61, 2) := by decide +kernel
theorem dX12_layFewest_13 : decode cX12_layFewest 13 = .ok (.aload_n 0, 1) := by decide +kernel
theorem dX12_layFewest_14 : decode cX12_layFewest 14 = .ok (.getfield 7, 3) := by decide +kernel
theorem dX12_layFewest_17 : decode cX12_layFewest 17 = .ok (.bipush 19, 2) := by decide +kernel
theorem dX12_layFewest_19 : decode cX12_layFewest 19 = .ok (.iaload, 1) := by decide +kernel
theorem dX12_layFewest_20 : decode cX12_layFewest 20 = .ok (.imul, 1) := by decide +kernel
theorem dX12_layFewest_21 : decode cX12_layFewest 21 = .ok (.iload_n 2, 1) := by decide +kernel
theorem dX12_layFewest_22 : decode cX12_layFewest 22 = .ok (.iadd, 1) := by decide +kernel
theorem dX12_layFewest_23 : decode cX12_layFewest 23 = .ok (.iload_n 2, 1) := by decide +kernel
theorem dX12_layFewest_24 : decode cX12_layFewest 24 = .ok (.ifCond .ne 7, 3) := by decide +kernel
theorem dX12_layFewest_27 : decode cX12_layFewest 27 = .ok (.iconst 0, 1) := by decide +kernel
theorem dX12_layFewest_28 : decode cX12_layFewest 28 = .ok (.goto 6, 3) := by decide +kernel
theorem dX12_layFewest_31 : decode cX12_layFewest 31 = .ok (.sipush 999, 3) := by decide +kernel
theorem dX12_layFewest_34 : decode cX12_layFewest 34 = .ok (.iastore, 1) := by decide +kernel
theorem dX12_layFewest_35 : decode cX12_layFewest 35 = .ok (.iinc 2 1, 3) := by decide +kernel
theorem dX12_layFewest_38 : decode cX12_layFewest 38 = .ok (.goto (-36), 3) := by decide +kernel
theorem dX12_layFewest_41 : decode cX12_layFewest 41 = .ok (.aload_n 0, 1) := by decide +kernel
theorem dX12_layFewest_42 : decode cX12_layFewest 42 = .ok (.getfield 7, 3) := by decide +kernel
theorem dX12_layFewest_45 : decode cX12_layFewest 45 = .ok (.bipush 19, 2) := by decide +kernel
theorem dX12_layFewest_47 : decode cX12_layFewest 47 = .ok (.iaload, 1) := by decide +kernel
theorem dX12_layFewest_48 : decode cX12_layFewest 48 = .ok (.iconst 1, 1) := by decide +kernel
theorem dX12_layFewest_49 : decode cX12_layFewest 49 = .ok (.isub, 1) := by decide +kernel
theorem dX12_layFewest_50 : decode cX12_layFewest 50 = .ok (.istore_n 2, 1) := by decide +kernel
theorem dX12_layFewest_51 : decode cX12_layFewest 51 = .ok (.iload_n 2, 1) := by decide +kernel
theorem dX12_layFewest_52 : decode cX12_layFewest 52 = .ok (.ifCond .lt 114, 3) := by decide +kernel
theorem dX12_layFewest_55 : decode cX12_layFewest 55 = .ok (.aload_n 0, 1) := by decide +kernel
theorem dX12_layFewest_56 : decode cX12_layFewest 56 = .ok (.iload_n 2, 1) := by decide +kernel
theorem dX12_layFewest_57 : decode cX12_layFewest 57 = .ok (.iconst 0, 1) := by decide +kernel
theorem dX12_layFewest_58 : decode cX12_layFewest 58 = .ok (.aload_n 0, 1) := by decide +kernel
theorem dX12_layFewest_59 : decode cX12_layFewest 59 = .ok (.getfield 7, 3) := by decide +kernel
theorem dX12_layFewest_62 : decode cX12_layFewest 62 = .ok (.bipush 16, 2) := by decide +kernel
theorem dX12_layFewest_64 : decode cX12_layFewest 64 = .ok (.iaload, 1) := by decide +kernel
theorem dX12_layFewest_65 : decode cX12_layFewest 65 = .ok (.invokevirtual 124, 3) := by decide +kernel
theorem dX12_layFewest_68 : decode cX12_layFewest 68 = .ok (.istore_n 3, 1) := by decide +kernel
theorem dX12_layFewest_69 : decode cX12_layFewest 69 = .ok (.iconst 0, 1) := by decide +kernel
theorem dX12_layFewest_70 : decode cX12_layFewest 70 = .ok (.istore 4, 2) := by decide +kernel
theorem dX12_layFewest_72 : decode cX12_layFewest 72 = .ok (.iload 4, 2) := by decide +kernel
theorem dX12_layFewest_74 : decode cX12_layFewest 74 = .ok (.iload_n 1, 1) := by decide +kernel
theorem dX12_layFewest_75 : decode cX12_layFewest 75 = .ok (.if_icmp .gt 85, 3) := by decide +kernel
theorem dX12_layFewest_78 : decode cX12_layFewest 78 = .ok (.aload_n 0, 1) := by decide +kernel
theorem dX12_layFewest_79 : decode cX12_layFewest 79 = .ok (.getfield 33, 3) := by decide +kernel
theorem dX12_layFewest_82 : decode cX12_layFewest 82 = .ok (.bipush 61, 2) := by decide +kernel
theorem dX12_layFewest_84 : decode cX12_layFewest 84 = .ok (.iload_n 2, 1) := by decide +kernel
theorem dX12_layFewest_85 : decode cX12_layFewest 85 = .ok (.iconst 1, 1) := by decide +kernel
theorem dX12_layFewest_86 : decode cX12_layFewest 86 = .ok (.iadd, 1) := by decide +kernel
theorem dX12_layFewest_87 : decode cX12_layFewest 87 = .ok (.imul, 1) := by decide +kernel
theorem dX12_layFewest_88 : decode cX12_layFewest 88 = .ok (.iload 4, 2) := by decide +kernel
theorem dX12_layFewest_90 : decode cX12_layFewest 90 = .ok (.iadd, 1) := by decide +kernel
theorem dX12_layFewest_91 : decode cX12_layFewest 91 = .ok (.iaload, 1) := by decide +kernel
theorem dX12_layFewest_92 : decode cX12_layFewest 92 = .ok (.istore 5, 2) := by decide +kernel
theorem dX12_layFewest_94 : decode cX12_layFewest 94 = .ok (.iload_n 3, 1) := by decide +kernel
theorem dX12_layFewest_95 : decode cX12_layFewest 95 = .ok (.ifCond .le 28, 3) := by decide +kernel
theorem dX12_layFewest_98 : decode cX12_layFewest 98 = .ok (.iload 4, 2) := by decide +kernel
theorem dX12_layFewest_100 : decode cX12_layFewest 100 = .ok (.iload_n 3, 1) := by decide +kernel
theorem dX12_layFewest_101 : decode cX12_layFewest 101 = .ok (.if_icmp .lt 22, 3) := by decide +kernel
theorem dX12_layFewest_104 : decode cX12_layFewest 104 = .ok (.iconst 1, 1) := by decide +kernel
theorem dX12_layFewest_105 : decode cX12_layFewest 105 = .ok (.aload_n 0, 1) := by decide +kernel
theorem dX12_layFewest_106 : decode cX12_layFewest 106 = .ok (.getfield 33, 3) := by decide +kernel
theorem dX12_layFewest_109 : decode cX12_layFewest 109 = .ok (.bipush 61, 2) := by decide +kernel
theorem dX12_layFewest_111 : decode cX12_layFewest 111 = .ok (.iload_n 2, 1) := by decide +kernel
theorem dX12_layFewest_112 : decode cX12_layFewest 112 = .ok (.imul, 1) := by decide +kernel
theorem dX12_layFewest_113 : decode cX12_layFewest 113 = .ok (.iload 4, 2) := by decide +kernel
theorem dX12_layFewest_115 : decode cX12_layFewest 115 = .ok (.iadd, 1) := by decide +kernel
theorem dX12_layFewest_116 : decode cX12_layFewest 116 = .ok (.iload_n 3, 1) := by decide +kernel
theorem dX12_layFewest_117 : decode cX12_layFewest 117 = .ok (.isub, 1) := by decide +kernel
theorem dX12_layFewest_118 : decode cX12_layFewest 118 = .ok (.iaload, 1) := by decide +kernel
theorem dX12_layFewest_119 : decode cX12_layFewest 119 = .ok (.iadd, 1) := by decide +kernel
theorem dX12_layFewest_120 : decode cX12_layFewest 120 = .ok (.goto 6, 3) := by decide +kernel
theorem dX12_layFewest_123 : decode cX12_layFewest 123 = .ok (.sipush 999, 3) := by decide +kernel
theorem dX12_layFewest_126 : decode cX12_layFewest 126 = .ok (.istore 6, 2) := by decide +kernel
theorem dX12_layFewest_128 : decode cX12_layFewest 128 = .ok (.aload_n 0, 1) := by decide +kernel
theorem dX12_layFewest_129 : decode cX12_layFewest 129 = .ok (.getfield 33, 3) := by decide +kernel
theorem dX12_layFewest_132 : decode cX12_layFewest 132 = .ok (.bipush 61, 2) := by decide +kernel
theorem dX12_layFewest_134 : decode cX12_layFewest 134 = .ok (.iload_n 2, 1) := by decide +kernel
theorem dX12_layFewest_135 : decode cX12_layFewest 135 = .ok (.imul, 1) := by decide +kernel
theorem dX12_layFewest_136 : decode cX12_layFewest 136 = .ok (.iload 4, 2) := by decide +kernel
theorem dX12_layFewest_138 : decode cX12_layFewest 138 = .ok (.iadd, 1) := by decide +kernel
theorem dX12_layFewest_139 : decode cX12_layFewest 139 = .ok (.iload 6, 2) := by decide +kernel
theorem dX12_layFewest_141 : decode cX12_layFewest 141 = .ok (.iload 5, 2) := by decide +kernel
theorem dX12_layFewest_143 : decode cX12_layFewest 143 = .ok (.if_icmp .ge 8, 3) := by decide +kernel
theorem dX12_layFewest_146 : decode cX12_layFewest 146 = .ok (.iload 6, 2) := by decide +kernel
theorem dX12_layFewest_148 : decode cX12_layFewest 148 = .ok (.goto 5, 3) := by decide +kernel
theorem dX12_layFewest_151 : decode cX12_layFewest 151 = .ok (.iload 5, 2) := by decide +kernel
theorem dX12_layFewest_153 : decode cX12_layFewest 153 = .ok (.iastore, 1) := by decide +kernel
theorem dX12_layFewest_154 : decode cX12_layFewest 154 = .ok (.iinc 4 1, 3) := by decide +kernel
theorem dX12_layFewest_157 : decode cX12_layFewest 157 = .ok (.goto (-85), 3) := by decide +kernel
theorem dX12_layFewest_160 : decode cX12_layFewest 160 = .ok (.iinc 2 (-1), 3) := by decide +kernel
theorem dX12_layFewest_163 : decode cX12_layFewest 163 = .ok (.goto (-112), 3) := by decide +kernel
theorem dX12_layFewest_166 : decode cX12_layFewest 166 = .ok (.return_, 1) := by decide +kernel
set_option maxRecDepth 100000 in
set_option maxHeartbeats 4000000 in
theorem c_X12_layFewest {g : Gv} {l : Launch} (p0 : Nat) (p1 : Int32) (w0 : Wd) (wz : Wd) (hf : f_X12_layFewest p0 p1 w0 = some ((), wz)) : MV g l yX12_layFewest cX12_layFewest 7 2 47 0 0 [rV g p0, .int p1] w0 wz := by
  refine mv_of RX12 (by decide) rfl (Nat.le_of_ble_eq_true rfl) ?_
  intro X hg hll C hr h0 hin
  subst hg; subst hll
  have t_51 : ∀ (n : Nat) (v0 : Nat) (v1 : Int32) (v2 : Int32) (w : Wd), f_X12_layFewest_51 n v0 v1 v2 w = some ((), wz) → Wk X 0 0 (QV X 0 0 w0 wz) w [(0, rV (xg X) v0), (1, .int v1), (2, .int v2)] 51 [] := by
    intro n
    induction n with
    | zero => intro v0 v1 v2 w hf; rw [f_X12_layFewest_51] at hf; cases hf
    | succ n51 ih51 =>
      have t_72 : ∀ (n : Nat) (v0 : Nat) (v1 : Int32) (v2 : Int32) (v3 : Int32) (v4 : Int32) (w : Wd), f_X12_layFewest_72 (f_X12_layFewest_51 n51) n v0 v1 v2 v3 v4 w = some ((), wz) → Wk X 0 0 (QV X 0 0 w0 wz) w [(0, rV (xg X) v0), (1, .int v1), (2, .int v2), (3, .int v3), (4, .int v4)] 72 [] := by
        intro n
        induction n with
        | zero => intro v0 v1 v2 v3 v4 w hf; rw [f_X12_layFewest_72] at hf; cases hf
        | succ n72 ih72 =>
          have t_153 : ∀ (v0 : Nat) (v1 : Int32) (v2 : Int32) (v3 : Int32) (v4 : Int32) (s0 : Int32) (s1 : Int32) (s2 : Nat) (w : Wd), f_X12_layFewest_153 (f_X12_layFewest_51 n51) (f_X12_layFewest_72 (f_X12_layFewest_51 n51) n72) v0 v1 v2 v3 v4 s0 s1 s2 w = some ((), wz) → Wk X 0 0 (QV X 0 0 w0 wz) w [(0, rV (xg X) v0), (1, .int v1), (2, .int v2), (3, .int v3), (4, .int v4)] 153 [.int s0, .int s1, rV (xg X) s2] := by
            intro v0 v1 v2 v3 v4 s0 s1 s2 w hf
            unfold f_X12_layFewest_153 at hf
            refine k_iast C dX12_layFewest_153 hf 154 rfl (fun w18 _ hf => ?_)
            refine k_iinc C dX12_layFewest_154 4 rfl (by decide) (by decide) [(4, .int (v4 + (1 : Int32))), (0, rV (xg X) v0), (1, .int v1), (2, .int v2), (3, .int v3)] rfl 157 rfl ?_
            refine k_goto C dX12_layFewest_157 72 rfl ?_
            refine k_sub [1, 2, 3, 4, 0] rfl ?_
            exact ih72 _ _ _ _ _ w18 hf
          have t_126 : ∀ (v0 : Nat) (v1 : Int32) (v2 : Int32) (v3 : Int32) (v4 : Int32) (v5 : Int32) (s0 : Int32) (w : Wd), f_X12_layFewest_126 (f_X12_layFewest_51 n51) (f_X12_layFewest_72 (f_X12_layFewest_51 n51) n72) v0 v1 v2 v3 v4 v5 s0 w = some ((), wz) → Wk X 0 0 (QV X 0 0 w0 wz) w [(0, rV (xg X) v0), (1, .int v1), (2, .int v2), (3, .int v3), (4, .int v4), (5, .int v5)] 126 [.int s0] := by
            intro v0 v1 v2 v3 v4 v5 s0 w hf
            unfold f_X12_layFewest_126 at hf
            refine k_istore C dX12_layFewest_126 (by decide) [(6, .int s0), (0, rV (xg X) v0), (1, .int v1), (2, .int v2), (3, .int v3), (4, .int v4), (5, .int v5)] rfl 128 rfl ?_
            refine k_aload_n C dX12_layFewest_128 1 rfl rfl 129 rfl ?_
            refine k_getR C fe_X12_33 rfl dX12_layFewest_129 hf 132 rfl (fun r19 hf => ?_)
            refine k_bipush C dX12_layFewest_132 (61) (by decide) 134 rfl ?_
            refine k_iload_n C dX12_layFewest_134 3 rfl 135 rfl ?_
            refine k_imul C dX12_layFewest_135 136 rfl ?_
            refine k_iload C dX12_layFewest_136 5 rfl 138 rfl ?_
            refine k_iadd C dX12_layFewest_138 139 rfl ?_
            refine k_iload C dX12_layFewest_139 0 rfl 141 rfl ?_
            refine k_iload C dX12_layFewest_141 6 rfl 143 rfl ?_
            refine k_icmp_ge C dX12_layFewest_143 hf 151 rfl 146 rfl (fun hf => ?_) (fun hf => ?_)
            · refine k_iload C dX12_layFewest_151 6 rfl 153 rfl ?_
              refine k_sub [1, 2, 3, 4, 5] rfl ?_
              exact t_153 _ _ _ _ _ _ _ _ w hf
            · refine k_iload C dX12_layFewest_146 0 rfl 148 rfl ?_
              refine k_goto C dX12_layFewest_148 153 rfl ?_
              refine k_sub [1, 2, 3, 4, 5] rfl ?_
              exact t_153 _ _ _ _ _ _ _ _ w hf
          have t_123 : ∀ (v0 : Nat) (v1 : Int32) (v2 : Int32) (v3 : Int32) (v4 : Int32) (v5 : Int32) (w : Wd), f_X12_layFewest_123 (f_X12_layFewest_51 n51) (f_X12_layFewest_72 (f_X12_layFewest_51 n51) n72) v0 v1 v2 v3 v4 v5 w = some ((), wz) → Wk X 0 0 (QV X 0 0 w0 wz) w [(0, rV (xg X) v0), (1, .int v1), (2, .int v2), (3, .int v3), (4, .int v4), (5, .int v5)] 123 [] := by
            intro v0 v1 v2 v3 v4 v5 w hf
            unfold f_X12_layFewest_123 at hf
            refine k_sipush C dX12_layFewest_123 (999) (by decide) 126 rfl ?_
            refine k_sub [0, 1, 2, 3, 4, 5] rfl ?_
            exact t_126 _ _ _ _ _ _ _ w hf
          intro v0 v1 v2 v3 v4 w hf
          rw [f_X12_layFewest_72] at hf
          refine k_iload C dX12_layFewest_72 4 rfl 74 rfl ?_
          refine k_iload_n C dX12_layFewest_74 1 rfl 75 rfl ?_
          refine k_icmp_gt C dX12_layFewest_75 hf 160 rfl 78 rfl (fun hf => ?_) (fun hf => ?_)
          · refine k_iinc C dX12_layFewest_160 2 rfl (by decide) (by decide) [(2, .int (v2 + (-1 : Int32))), (0, rV (xg X) v0), (1, .int v1), (3, .int v3), (4, .int v4)] rfl 163 rfl ?_
            refine k_goto C dX12_layFewest_163 51 rfl ?_
            refine k_sub [1, 2, 0] rfl ?_
            exact ih51 _ _ _ w hf
          · refine k_aload_n C dX12_layFewest_78 0 rfl rfl 79 rfl ?_
            refine k_getR C fe_X12_33 rfl dX12_layFewest_79 hf 82 rfl (fun r20 hf => ?_)
            refine k_bipush C dX12_layFewest_82 (61) (by decide) 84 rfl ?_
            refine k_iload_n C dX12_layFewest_84 2 rfl 85 rfl ?_
            refine k_iconst C dX12_layFewest_85 (1) (by decide) 86 rfl ?_
            refine k_iadd C dX12_layFewest_86 87 rfl ?_
            refine k_imul C dX12_layFewest_87 88 rfl ?_
            refine k_iload C dX12_layFewest_88 4 rfl 90 rfl ?_
            refine k_iadd C dX12_layFewest_90 91 rfl ?_
            refine k_iald C dX12_layFewest_91 hf 92 rfl (fun x21 hf => ?_)
            refine k_istore C dX12_layFewest_92 (by decide) [(5, .int x21), (0, rV (xg X) v0), (1, .int v1), (2, .int v2), (3, .int v3), (4, .int v4)] rfl 94 rfl ?_
            refine k_iload_n C dX12_layFewest_94 4 rfl 95 rfl ?_
            refine k_if_le C dX12_layFewest_95 hf 123 rfl 98 rfl (fun hf => ?_) (fun hf => ?_)
            · refine k_sub [1, 2, 3, 4, 5, 0] rfl ?_
              exact t_123 _ _ _ _ _ _ w hf
            · refine k_iload C dX12_layFewest_98 5 rfl 100 rfl ?_
              refine k_iload_n C dX12_layFewest_100 4 rfl 101 rfl ?_
              refine k_icmp_lt C dX12_layFewest_101 hf 123 rfl 104 rfl (fun hf => ?_) (fun hf => ?_)
              · refine k_sub [1, 2, 3, 4, 5, 0] rfl ?_
                exact t_123 _ _ _ _ _ _ w hf
              · refine k_iconst C dX12_layFewest_104 (1) (by decide) 105 rfl ?_
                refine k_aload_n C dX12_layFewest_105 1 rfl rfl 106 rfl ?_
                refine k_getR C fe_X12_33 rfl dX12_layFewest_106 hf 109 rfl (fun r22 hf => ?_)
                refine k_bipush C dX12_layFewest_109 (61) (by decide) 111 rfl ?_
                refine k_iload_n C dX12_layFewest_111 3 rfl 112 rfl ?_
                refine k_imul C dX12_layFewest_112 113 rfl ?_
                refine k_iload C dX12_layFewest_113 5 rfl 115 rfl ?_
                refine k_iadd C dX12_layFewest_115 116 rfl ?_
                refine k_iload_n C dX12_layFewest_116 4 rfl 117 rfl ?_
                refine k_isub C dX12_layFewest_117 118 rfl ?_
                refine k_iald C dX12_layFewest_118 hf 119 rfl (fun x23 hf => ?_)
                refine k_iadd C dX12_layFewest_119 120 rfl ?_
                refine k_goto C dX12_layFewest_120 126 rfl ?_
                refine k_sub [1, 2, 3, 4, 5, 0] rfl ?_
                exact t_126 _ _ _ _ _ _ _ w hf
      intro v0 v1 v2 w hf
      rw [f_X12_layFewest_51] at hf
      refine k_iload_n C dX12_layFewest_51 2 rfl 52 rfl ?_
      refine k_if_lt C dX12_layFewest_52 hf 166 rfl 55 rfl (fun hf => ?_) (fun hf => ?_)
      · exact k_vret C hr h0 dX12_layFewest_166 hf
      · refine k_aload_n C dX12_layFewest_55 0 rfl rfl 56 rfl ?_
        refine k_iload_n C dX12_layFewest_56 2 rfl 57 rfl ?_
        refine k_iconst C dX12_layFewest_57 (0) (by decide) 58 rfl ?_
        refine k_aload_n C dX12_layFewest_58 0 rfl rfl 59 rfl ?_
        refine k_getR C fe_X12_7 rfl dX12_layFewest_59 hf 62 rfl (fun r24 hf => ?_)
        refine k_bipush C dX12_layFewest_62 (16) (by decide) 64 rfl ?_
        refine k_iald C dX12_layFewest_64 hf 65 rfl (fun x25 hf => ?_)
        refine k_callV_i C ye_X12_ground ve_X12_124 ⟨rfl, rfl⟩ ⟨rfl, rfl⟩ dX12_layFewest_65 [.int v2, .int (0 : Int32), .int x25] rfl rfl (Nat.le_of_ble_eq_true rfl) (c_X12_ground _ _ _ _ _) hf 68 rfl (fun x27 w26 hf => ?_)
        refine k_istore_n C dX12_layFewest_68 rfl (by decide) [(3, .int x27), (0, rV (xg X) v0), (1, .int v1), (2, .int v2)] rfl 69 rfl ?_
        refine k_iconst C dX12_layFewest_69 (0) (by decide) 70 rfl ?_
        refine k_istore C dX12_layFewest_70 (by decide) [(4, .int (0 : Int32)), (3, .int x27), (0, rV (xg X) v0), (1, .int v1), (2, .int v2)] rfl 72 rfl ?_
        refine k_sub [2, 3, 4, 1, 0] rfl ?_
        exact t_72 4096 _ _ _ _ _ w26 hf
  have t_2 : ∀ (n : Nat) (v0 : Nat) (v1 : Int32) (v2 : Int32) (w : Wd), f_X12_layFewest_2 n v0 v1 v2 w = some ((), wz) → Wk X 0 0 (QV X 0 0 w0 wz) w [(0, rV (xg X) v0), (1, .int v1), (2, .int v2)] 2 [] := by
    intro n
    induction n with
    | zero => intro v0 v1 v2 w hf; rw [f_X12_layFewest_2] at hf; cases hf
    | succ n2 ih2 =>
      have t_34 : ∀ (v0 : Nat) (v1 : Int32) (v2 : Int32) (s0 : Int32) (s1 : Int32) (s2 : Nat) (w : Wd), f_X12_layFewest_34 (f_X12_layFewest_2 n2) v0 v1 v2 s0 s1 s2 w = some ((), wz) → Wk X 0 0 (QV X 0 0 w0 wz) w [(0, rV (xg X) v0), (1, .int v1), (2, .int v2)] 34 [.int s0, .int s1, rV (xg X) s2] := by
        intro v0 v1 v2 s0 s1 s2 w hf
        unfold f_X12_layFewest_34 at hf
        refine k_iast C dX12_layFewest_34 hf 35 rfl (fun w28 _ hf => ?_)
        refine k_iinc C dX12_layFewest_35 2 rfl (by decide) (by decide) [(2, .int (v2 + (1 : Int32))), (0, rV (xg X) v0), (1, .int v1)] rfl 38 rfl ?_
        refine k_goto C dX12_layFewest_38 2 rfl ?_
        refine k_sub [1, 2, 0] rfl ?_
        exact ih2 _ _ _ w28 hf
      intro v0 v1 v2 w hf
      rw [f_X12_layFewest_2] at hf
      refine k_iload_n C dX12_layFewest_2 2 rfl 3 rfl ?_
      refine k_iload_n C dX12_layFewest_3 1 rfl 4 rfl ?_
      refine k_icmp_gt C dX12_layFewest_4 hf 41 rfl 7 rfl (fun hf => ?_) (fun hf => ?_)
      · refine k_aload_n C dX12_layFewest_41 0 rfl rfl 42 rfl ?_
        refine k_getR C fe_X12_7 rfl dX12_layFewest_42 hf 45 rfl (fun r29 hf => ?_)
        refine k_bipush C dX12_layFewest_45 (19) (by decide) 47 rfl ?_
        refine k_iald C dX12_layFewest_47 hf 48 rfl (fun x30 hf => ?_)
        refine k_iconst C dX12_layFewest_48 (1) (by decide) 49 rfl ?_
        refine k_isub C dX12_layFewest_49 50 rfl ?_
        refine k_nmi hf (fun x31 hf => ?_)
        refine k_istore_n C dX12_layFewest_50 rfl (by decide) [(2, .int x31), (0, rV (xg X) v0), (1, .int v1)] rfl 51 rfl ?_
        refine k_sub [1, 2, 0] rfl ?_
        exact t_51 4096 _ _ _ w hf
      · refine k_aload_n C dX12_layFewest_7 0 rfl rfl 8 rfl ?_
        refine k_getR C fe_X12_33 rfl dX12_layFewest_8 hf 11 rfl (fun r32 hf => ?_)
        refine k_bipush C dX12_layFewest_11 (61) (by decide) 13 rfl ?_
        refine k_aload_n C dX12_layFewest_13 0 rfl rfl 14 rfl ?_
        refine k_getR C fe_X12_7 rfl dX12_layFewest_14 hf 17 rfl (fun r33 hf => ?_)
        refine k_bipush C dX12_layFewest_17 (19) (by decide) 19 rfl ?_
        refine k_iald C dX12_layFewest_19 hf 20 rfl (fun x34 hf => ?_)
        refine k_imul C dX12_layFewest_20 21 rfl ?_
        refine k_iload_n C dX12_layFewest_21 2 rfl 22 rfl ?_
        refine k_iadd C dX12_layFewest_22 23 rfl ?_
        refine k_iload_n C dX12_layFewest_23 2 rfl 24 rfl ?_
        refine k_if_ne C dX12_layFewest_24 hf 31 rfl 27 rfl (fun hf => ?_) (fun hf => ?_)
        · refine k_sipush C dX12_layFewest_31 (999) (by decide) 34 rfl ?_
          refine k_sub [0, 1, 2] rfl ?_
          exact t_34 _ _ _ _ _ _ w hf
        · refine k_iconst C dX12_layFewest_27 (0) (by decide) 28 rfl ?_
          refine k_goto C dX12_layFewest_28 34 rfl ?_
          refine k_sub [0, 1, 2] rfl ?_
          exact t_34 _ _ _ _ _ _ w hf
  unfold f_X12_layFewest at hf
  refine k_sub (lv2 := [(0, rV (xg X) p0), (1, .int p1)]) [0, 1] rfl ?_
  refine k_iconst C dX12_layFewest_0 (0) (by decide) 1 rfl ?_
  refine k_istore_n C dX12_layFewest_1 rfl (by decide) [(2, .int (0 : Int32)), (0, rV (xg X) p0), (1, .int p1)] rfl 2 rfl ?_
  refine k_sub [1, 2, 0] rfl ?_
  exact t_2 4096 _ _ _ w0 hf
theorem dX12_just_0 : decode cX12_just 0 = .ok (.iload_n 1, 1) := by decide +kernel
theorem dX12_just_1 : decode cX12_just 1 = .ok (.iconst 1, 1) := by decide +kernel
theorem dX12_just_2 : decode cX12_just 2 = .ok (.bipush 60, 2) := by decide +kernel
theorem dX12_just_4 : decode cX12_just 4 = .ok (.invokestatic 52, 3) := by decide +kernel
theorem dX12_just_7 : decode cX12_just 7 = .ok (.ifCond .eq 16, 3) := by decide +kernel
theorem dX12_just_10 : decode cX12_just 10 = .ok (.iload_n 2, 1) := by decide +kernel
theorem dX12_just_11 : decode cX12_just 11 = .ok (.iconst (-1), 1) := by decide +kernel
theorem dX12_just_12 : decode cX12_just 12 = .ok (.if_icmp .eq 16, 3) := by decide +kernel
theorem dX12_just_15 : decode cX12_just 15 = .ok (.aload_n 0, 1) := by decide +kernel
theorem dX12_just_16 : decode cX12_just 16 = .ok (.iload_n 2, 1) := by decide +kernel
theorem dX12_just_17 : decode cX12_just 17 = .ok (.invokevirtual 131, 3) := by decide +kernel
theorem dX12_just_20 : decode cX12_just 20 = .ok (.ifCond .ne 8, 3) := by decide +kernel
theorem dX12_just_23 : decode cX12_just 23 = .ok (.aload_n 0, 1) := by decide +kernel
theorem dX12_just_24 : decode cX12_just 24 = .ok (.invokevirtual 134, 3) := by decide +kernel
theorem dX12_just_27 : decode cX12_just 27 = .ok (.ireturn, 1) := by decide +kernel
theorem dX12_just_28 : decode cX12_just 28 = .ok (.aload_n 0, 1) := by decide +kernel
theorem dX12_just_29 : decode cX12_just 29 = .ok (.iload_n 1, 1) := by decide +kernel
theorem dX12_just_30 : decode cX12_just 30 = .ok (.invokevirtual 156, 3) := by decide +kernel
theorem dX12_just_33 : decode cX12_just 33 = .ok (.aload_n 0, 1) := by decide +kernel
theorem dX12_just_34 : decode cX12_just 34 = .ok (.getfield 33, 3) := by decide +kernel
theorem dX12_just_37 : decode cX12_just 37 = .ok (.iload_n 1, 1) := by decide +kernel
theorem dX12_just_38 : decode cX12_just 38 = .ok (.iaload, 1) := by decide +kernel
theorem dX12_just_39 : decode cX12_just 39 = .ok (.sipush 999, 3) := by decide +kernel
theorem dX12_just_42 : decode cX12_just 42 = .ok (.if_icmp .lt 5, 3) := by decide +kernel
theorem dX12_just_45 : decode cX12_just 45 = .ok (.iconst (-1), 1) := by decide +kernel
theorem dX12_just_46 : decode cX12_just 46 = .ok (.ireturn, 1) := by decide +kernel
theorem dX12_just_47 : decode cX12_just 47 = .ok (.iload_n 2, 1) := by decide +kernel
theorem dX12_just_48 : decode cX12_just 48 = .ok (.iconst (-1), 1) := by decide +kernel
theorem dX12_just_49 : decode cX12_just 49 = .ok (.if_icmp .ne 10, 3) := by decide +kernel
theorem dX12_just_52 : decode cX12_just 52 = .ok (.aload_n 0, 1) := by decide +kernel
theorem dX12_just_53 : decode cX12_just 53 = .ok (.getfield 33, 3) := by decide +kernel
theorem dX12_just_56 : decode cX12_just 56 = .ok (.iload_n 1, 1) := by decide +kernel
theorem dX12_just_57 : decode cX12_just 57 = .ok (.iaload, 1) := by decide +kernel
theorem dX12_just_58 : decode cX12_just 58 = .ok (.ireturn, 1) := by decide +kernel
theorem dX12_just_59 : decode cX12_just 59 = .ok (.iload_n 1, 1) := by decide +kernel
theorem dX12_just_60 : decode cX12_just 60 = .ok (.istore_n 3, 1) := by decide +kernel
theorem dX12_just_61 : decode cX12_just 61 = .ok (.iconst 0, 1) := by decide +kernel
theorem dX12_just_62 : decode cX12_just 62 = .ok (.istore 4, 2) := by decide +kernel
theorem dX12_just_64 : decode cX12_just 64 = .ok (.iconst 0, 1) := by decide +kernel
theorem dX12_just_65 : decode cX12_just 65 = .ok (.istore 5, 2) := by decide +kernel
theorem dX12_just_67 : decode cX12_just 67 = .ok (.iload 5, 2) := by decide +kernel
theorem dX12_just_69 : decode cX12_just 69 = .ok (.iload_n 2, 1) := by decide +kernel
theorem dX12_just_70 : decode cX12_just 70 = .ok (.if_icmp .gt 92, 3) := by decide +kernel
theorem dX12_just_73 : decode cX12_just 73 = .ok (.aload_n 0, 1) := by decide +kernel
theorem dX12_just_74 : decode cX12_just 74 = .ok (.iload 5, 2) := by decide +kernel
theorem dX12_just_76 : decode cX12_just 76 = .ok (.iconst 0, 1) := by decide +kernel
theorem dX12_just_77 : decode cX12_just 77 = .ok (.aload_n 0, 1) := by decide +kernel
theorem dX12_just_78 : decode cX12_just 78 = .ok (.getfield 7, 3) := by decide +kernel
theorem dX12_just_81 : decode cX12_just 81 = .ok (.bipush 16, 2) := by decide +kernel
theorem dX12_just_83 : decode cX12_just 83 = .ok (.iaload, 1) := by decide +kernel
theorem dX12_just_84 : decode cX12_just 84 = .ok (.invokevirtual 124, 3) := by decide +kernel
theorem dX12_just_87 : decode cX12_just 87 = .ok (.istore 6, 2) := by decide +kernel
theorem dX12_just_89 : decode cX12_just 89 = .ok (.iload 6, 2) := by decide +kernel
theorem dX12_just_91 : decode cX12_just 91 = .ok (.ifCond .le 10, 3) := by decide +kernel
theorem dX12_just_94 : decode cX12_just 94 = .ok (.iload_n 3, 1) := by decide +kernel
theorem dX12_just_95 : decode cX12_just 95 = .ok (.iload 6, 2) := by decide +kernel
theorem dX12_just_97 : decode cX12_just 97 = .ok (.idiv, 1) := by decide +kernel
theorem dX12_just_98 : decode cX12_just 98 = .ok (.goto 4, 3) := by decide +kernel
theorem dX12_just_101 : decode cX12_just 101 = .ok (.iconst 0, 1) := by decide +kernel
theorem dX12_just_102 : decode cX12_just 102 = .ok (.istore 4, 2) := by decide +kernel
theorem dX12_just_104 : decode cX12_just 104 = .ok (.iload 4, 2) := by decide +kernel
theorem dX12_just_106 : decode cX12_just 106 = .ok (.aload_n 0, 1) := by decide +kernel
theorem dX12_just_107 : decode cX12_just 107 = .ok (.getfield 33, 3) := by decide +kernel
theorem dX12_just_110 : decode cX12_just 110 = .ok (.bipush 61, 2) := by decide +kernel
theorem dX12_just_112 : decode cX12_just 112 = .ok (.iload 5, 2) := by decide +kernel
theorem dX12_just_114 : decode cX12_just 114 = .ok (.iconst 1, 1) := by decide +kernel
theorem dX12_just_115 : decode cX12_just 115 = .ok (.iadd, 1) := by decide +kernel
theorem dX12_just_116 : decode cX12_just 116 = .ok (.imul, 1) := by decide +kernel
theorem dX12_just_117 : decode cX12_just 117 = .ok (.iload_n 3, 1) := by decide +kernel
theorem dX12_just_118 : decode cX12_just 118 = .ok (.iadd, 1) := by decide +kernel
theorem dX12_just_119 : decode cX12_just 119 = .ok (.iload 4, 2) := by decide +kernel
theorem dX12_just_121 : decode cX12_just 121 = .ok (.iload 6, 2) := by decide +kernel
theorem dX12_just_123 : decode cX12_just 123 = .ok (.imul, 1) := by decide +kernel
theorem dX12_just_124 : decode cX12_just 124 = .ok (.isub, 1) := by decide +kernel
theorem dX12_just_125 : decode cX12_just 125 = .ok (.iaload, 1) := by decide +kernel
theorem dX12_just_126 : decode cX12_just 126 = .ok (.iadd, 1) := by decide +kernel
theorem dX12_just_127 : decode cX12_just 127 = .ok (.aload_n 0, 1) := by decide +kernel
theorem dX12_just_128 : decode cX12_just 128 = .ok (.getfield 33, 3) := by decide +kernel
theorem dX12_just_131 : decode cX12_just 131 = .ok (.bipush 61, 2) := by decide +kernel
theorem dX12_just_133 : decode cX12_just 133 = .ok (.iload 5, 2) := by decide +kernel
theorem dX12_just_135 : decode cX12_just 135 = .ok (.imul, 1) := by decide +kernel
theorem dX12_just_136 : decode cX12_just 136 = .ok (.iload_n 3, 1) := by decide +kernel
theorem dX12_just_137 : decode cX12_just 137 = .ok (.iadd, 1) := by decide +kernel
theorem dX12_just_138 : decode cX12_just 138 = .ok (.iaload, 1) := by decide +kernel
theorem dX12_just_139 : decode cX12_just 139 = .ok (.if_icmp .eq 9, 3) := by decide +kernel
theorem dX12_just_142 : decode cX12_just 142 = .ok (.iinc 4 (-1), 3) := by decide +kernel
theorem dX12_just_145 : decode cX12_just 145 = .ok (.goto (-41), 3) := by decide +kernel
theorem dX12_just_148 : decode cX12_just 148 = .ok (.iload_n 3, 1) := by decide +kernel
theorem dX12_just_149 : decode cX12_just 149 = .ok (.iload 4, 2) := by decide +kernel
theorem dX12_just_151 : decode cX12_just 151 = .ok (.iload 6, 2) := by decide +kernel
theorem dX12_just_153 : decode cX12_just 153 = .ok (.imul, 1) := by decide +kernel
theorem dX12_just_154 : decode cX12_just 154 = .ok (.isub, 1) := by decide +kernel
theorem dX12_just_155 : decode cX12_just 155 = .ok (.istore_n 3, 1) := by decide +kernel
theorem dX12_just_156 : decode cX12_just 156 = .ok (.iinc 5 1, 3) := by decide +kernel
theorem dX12_just_159 : decode cX12_just 159 = .ok (.goto (-92), 3) := by decide +kernel
theorem dX12_just_162 : decode cX12_just 162 = .ok (.iload 4, 2) := by decide +kernel
theorem dX12_just_164 : decode cX12_just 164 = .ok (.ireturn, 1) := by decide +kernel
set_option maxRecDepth 100000 in
set_option maxHeartbeats 4000000 in
theorem c_X12_just {g : Gv} {l : Launch} (p0 : Nat) (p1 : Int32) (p2 : Int32) (w0 : Wd) (rz : Int32) (wz : Wd) (hf : f_X12_just p0 p1 p2 w0 = some (rz, wz)) : MI g l yX12_just cX12_just 7 .int 3 73 [rV g p0, .int p1, .int p2] w0 rz wz := by
  refine mi_of RX12 (by decide) rfl (Nat.le_of_ble_eq_true rfl) ?_
  intro X hg hll C hr h0
  subst hg; subst hll
  have t_67 : ∀ (n : Nat) (v0 : Nat) (v2 : Int32) (v3 : Int32) (v4 : Int32) (v5 : Int32) (w : Wd), f_X12_just_67 n v0 v2 v3 v4 v5 w = some (rz, wz) → Wk X 0 0 (QI X w0 rz wz) w [(0, rV (xg X) v0), (2, .int v2), (3, .int v3), (4, .int v4), (5, .int v5)] 67 [] := by
    intro n
    induction n with
    | zero => intro v0 v2 v3 v4 v5 w hf; rw [f_X12_just_67] at hf; cases hf
    | succ n67 ih67 =>
      have t_104 : ∀ (n : Nat) (v0 : Nat) (v2 : Int32) (v3 : Int32) (v4 : Int32) (v5 : Int32) (v6 : Int32) (w : Wd), f_X12_just_104 (f_X12_just_67 n67) n v0 v2 v3 v4 v5 v6 w = some (rz, wz) → Wk X 0 0 (QI X w0 rz wz) w [(0, rV (xg X) v0), (2, .int v2), (3, .int v3), (4, .int v4), (5, .int v5), (6, .int v6)] 104 [] := by
        intro n
        induction n with
        | zero => intro v0 v2 v3 v4 v5 v6 w hf; rw [f_X12_just_104] at hf; cases hf
        | succ n104 ih104 =>
          intro v0 v2 v3 v4 v5 v6 w hf
          rw [f_X12_just_104] at hf
          refine k_iload C dX12_just_104 3 rfl 106 rfl ?_
          refine k_aload_n C dX12_just_106 0 rfl rfl 107 rfl ?_
          refine k_getR C fe_X12_33 rfl dX12_just_107 hf 110 rfl (fun r22 hf => ?_)
          refine k_bipush C dX12_just_110 (61) (by decide) 112 rfl ?_
          refine k_iload C dX12_just_112 4 rfl 114 rfl ?_
          refine k_iconst C dX12_just_114 (1) (by decide) 115 rfl ?_
          refine k_iadd C dX12_just_115 116 rfl ?_
          refine k_imul C dX12_just_116 117 rfl ?_
          refine k_iload_n C dX12_just_117 2 rfl 118 rfl ?_
          refine k_iadd C dX12_just_118 119 rfl ?_
          refine k_iload C dX12_just_119 3 rfl 121 rfl ?_
          refine k_iload C dX12_just_121 5 rfl 123 rfl ?_
          refine k_imul C dX12_just_123 124 rfl ?_
          refine k_isub C dX12_just_124 125 rfl ?_
          refine k_iald C dX12_just_125 hf 126 rfl (fun x23 hf => ?_)
          refine k_iadd C dX12_just_126 127 rfl ?_
          refine k_aload_n C dX12_just_127 0 rfl rfl 128 rfl ?_
          refine k_getR C fe_X12_33 rfl dX12_just_128 hf 131 rfl (fun r24 hf => ?_)
          refine k_bipush C dX12_just_131 (61) (by decide) 133 rfl ?_
          refine k_iload C dX12_just_133 4 rfl 135 rfl ?_
          refine k_imul C dX12_just_135 136 rfl ?_
          refine k_iload_n C dX12_just_136 2 rfl 137 rfl ?_
          refine k_iadd C dX12_just_137 138 rfl ?_
          refine k_iald C dX12_just_138 hf 139 rfl (fun x25 hf => ?_)
          refine k_icmp_eq C dX12_just_139 hf 148 rfl 142 rfl (fun hf => ?_) (fun hf => ?_)
          · refine k_iload_n C dX12_just_148 2 rfl 149 rfl ?_
            refine k_iload C dX12_just_149 3 rfl 151 rfl ?_
            refine k_iload C dX12_just_151 5 rfl 153 rfl ?_
            refine k_imul C dX12_just_153 154 rfl ?_
            refine k_isub C dX12_just_154 155 rfl ?_
            refine k_nmi hf (fun x26 hf => ?_)
            refine k_istore_n C dX12_just_155 rfl (by decide) [(3, .int x26), (0, rV (xg X) v0), (2, .int v2), (4, .int v4), (5, .int v5), (6, .int v6)] rfl 156 rfl ?_
            refine k_iinc C dX12_just_156 4 rfl (by decide) (by decide) [(5, .int (v5 + (1 : Int32))), (3, .int x26), (0, rV (xg X) v0), (2, .int v2), (4, .int v4), (6, .int v6)] rfl 159 rfl ?_
            refine k_goto C dX12_just_159 67 rfl ?_
            refine k_sub [2, 3, 1, 4, 0] rfl ?_
            exact ih67 _ _ _ _ _ w hf
          · refine k_iinc C dX12_just_142 3 rfl (by decide) (by decide) [(4, .int (v4 + (-1 : Int32))), (0, rV (xg X) v0), (2, .int v2), (3, .int v3), (5, .int v5), (6, .int v6)] rfl 145 rfl ?_
            refine k_goto C dX12_just_145 104 rfl ?_
            refine k_sub [1, 2, 3, 0, 4, 5] rfl ?_
            exact ih104 _ _ _ _ _ _ w hf
      have t_102 : ∀ (v0 : Nat) (v2 : Int32) (v3 : Int32) (v5 : Int32) (v6 : Int32) (s0 : Int32) (w : Wd), f_X12_just_102 (f_X12_just_67 n67) v0 v2 v3 v5 v6 s0 w = some (rz, wz) → Wk X 0 0 (QI X w0 rz wz) w [(0, rV (xg X) v0), (2, .int v2), (3, .int v3), (5, .int v5), (6, .int v6)] 102 [.int s0] := by
        intro v0 v2 v3 v5 v6 s0 w hf
        unfold f_X12_just_102 at hf
        refine k_istore C dX12_just_102 (by decide) [(4, .int s0), (0, rV (xg X) v0), (2, .int v2), (3, .int v3), (5, .int v5), (6, .int v6)] rfl 104 rfl ?_
        refine k_sub [1, 2, 3, 0, 4, 5] rfl ?_
        exact t_104 4096 _ _ _ _ _ _ w hf
      intro v0 v2 v3 v4 v5 w hf
      rw [f_X12_just_67] at hf
      refine k_iload C dX12_just_67 4 rfl 69 rfl ?_
      refine k_iload_n C dX12_just_69 1 rfl 70 rfl ?_
      refine k_icmp_gt C dX12_just_70 hf 162 rfl 73 rfl (fun hf => ?_) (fun hf => ?_)
      · refine k_iload C dX12_just_162 3 rfl 164 rfl ?_
        exact k_iret C hr h0 dX12_just_164 hf
      · refine k_aload_n C dX12_just_73 0 rfl rfl 74 rfl ?_
        refine k_iload C dX12_just_74 4 rfl 76 rfl ?_
        refine k_iconst C dX12_just_76 (0) (by decide) 77 rfl ?_
        refine k_aload_n C dX12_just_77 0 rfl rfl 78 rfl ?_
        refine k_getR C fe_X12_7 rfl dX12_just_78 hf 81 rfl (fun r27 hf => ?_)
        refine k_bipush C dX12_just_81 (16) (by decide) 83 rfl ?_
        refine k_iald C dX12_just_83 hf 84 rfl (fun x28 hf => ?_)
        refine k_callV_i C ye_X12_ground ve_X12_124 ⟨rfl, rfl⟩ ⟨rfl, rfl⟩ dX12_just_84 [.int v5, .int (0 : Int32), .int x28] rfl rfl (Nat.le_of_ble_eq_true rfl) (c_X12_ground _ _ _ _ _) hf 87 rfl (fun x30 w29 hf => ?_)
        refine k_istore C dX12_just_87 (by decide) [(6, .int x30), (0, rV (xg X) v0), (2, .int v2), (3, .int v3), (4, .int v4), (5, .int v5)] rfl 89 rfl ?_
        refine k_iload C dX12_just_89 0 rfl 91 rfl ?_
        refine k_if_le C dX12_just_91 hf 101 rfl 94 rfl (fun hf => ?_) (fun hf => ?_)
        · refine k_iconst C dX12_just_101 (0) (by decide) 102 rfl ?_
          refine k_sub [1, 2, 3, 5, 0] rfl ?_
          exact t_102 _ _ _ _ _ _ w29 hf
        · refine k_iload_n C dX12_just_94 3 rfl 95 rfl ?_
          refine k_iload C dX12_just_95 0 rfl 97 rfl ?_
          obtain ⟨h097, hf⟩ := nz_s hf
          refine k_idiv C dX12_just_97 h097 98 rfl ?_
          refine k_goto C dX12_just_98 102 rfl ?_
          refine k_sub [1, 2, 3, 5, 0] rfl ?_
          exact t_102 _ _ _ _ _ _ w29 hf
  have t_28 : ∀ (v0 : Nat) (v1 : Int32) (v2 : Int32) (w : Wd), f_X12_just_28 v0 v1 v2 w = some (rz, wz) → Wk X 0 0 (QI X w0 rz wz) w [(0, rV (xg X) v0), (1, .int v1), (2, .int v2)] 28 [] := by
    intro v0 v1 v2 w hf
    unfold f_X12_just_28 at hf
    refine k_aload_n C dX12_just_28 0 rfl rfl 29 rfl ?_
    refine k_iload_n C dX12_just_29 1 rfl 30 rfl ?_
    refine k_callV_v C ye_X12_layFewest ve_X12_156 ⟨rfl, rfl⟩ ⟨rfl, rfl⟩ dX12_just_30 [.int v1] rfl rfl (Nat.le_of_ble_eq_true rfl) (c_X12_layFewest _ _ _) hf 33 rfl (fun w31 hf => ?_)
    refine k_aload_n C dX12_just_33 0 rfl rfl 34 rfl ?_
    refine k_getR C fe_X12_33 rfl dX12_just_34 hf 37 rfl (fun r33 hf => ?_)
    refine k_iload_n C dX12_just_37 1 rfl 38 rfl ?_
    refine k_iald C dX12_just_38 hf 39 rfl (fun x34 hf => ?_)
    refine k_sipush C dX12_just_39 (999) (by decide) 42 rfl ?_
    refine k_icmp_lt C dX12_just_42 hf 47 rfl 45 rfl (fun hf => ?_) (fun hf => ?_)
    · refine k_iload_n C dX12_just_47 2 rfl 48 rfl ?_
      refine k_iconst C dX12_just_48 (-1) (by decide) 49 rfl ?_
      refine k_icmp_ne C dX12_just_49 hf 59 rfl 52 rfl (fun hf => ?_) (fun hf => ?_)
      · refine k_iload_n C dX12_just_59 1 rfl 60 rfl ?_
        refine k_istore_n C dX12_just_60 rfl (by decide) [(3, .int v1), (0, rV (xg X) v0), (1, .int v1), (2, .int v2)] rfl 61 rfl ?_
        refine k_iconst C dX12_just_61 (0) (by decide) 62 rfl ?_
        refine k_istore C dX12_just_62 (by decide) [(4, .int (0 : Int32)), (3, .int v1), (0, rV (xg X) v0), (1, .int v1), (2, .int v2)] rfl 64 rfl ?_
        refine k_iconst C dX12_just_64 (0) (by decide) 65 rfl ?_
        refine k_istore C dX12_just_65 (by decide) [(5, .int (0 : Int32)), (4, .int (0 : Int32)), (3, .int v1), (0, rV (xg X) v0), (1, .int v1), (2, .int v2)] rfl 67 rfl ?_
        refine k_sub [3, 5, 2, 1, 0] rfl ?_
        exact t_67 4096 _ _ _ _ _ w31 hf
      · refine k_aload_n C dX12_just_52 0 rfl rfl 53 rfl ?_
        refine k_getR C fe_X12_33 rfl dX12_just_53 hf 56 rfl (fun r35 hf => ?_)
        refine k_iload_n C dX12_just_56 1 rfl 57 rfl ?_
        refine k_iald C dX12_just_57 hf 58 rfl (fun x36 hf => ?_)
        exact k_iret C hr h0 dX12_just_58 hf
    · refine k_iconst C dX12_just_45 (-1) (by decide) 46 rfl ?_
      exact k_iret C hr h0 dX12_just_46 hf
  have t_23 : ∀ (v0 : Nat) (w : Wd), f_X12_just_23 v0 w = some (rz, wz) → Wk X 0 0 (QI X w0 rz wz) w [(0, rV (xg X) v0)] 23 [] := by
    intro v0 w hf
    unfold f_X12_just_23 at hf
    refine k_aload_n C dX12_just_23 0 rfl rfl 24 rfl ?_
    refine k_callV_i C ye_X12_badTen ve_X12_134 ⟨rfl, rfl⟩ ⟨rfl, rfl⟩ dX12_just_24 [] rfl rfl (Nat.le_of_ble_eq_true rfl) (c_X12_badTen _ _) hf 27 rfl (fun x38 w37 hf => ?_)
    exact k_iret C hr h0 dX12_just_27 hf
  unfold f_X12_just at hf
  refine k_sub (lv2 := [(0, rV (xg X) p0), (1, .int p1), (2, .int p2)]) [0, 1, 2] rfl ?_
  refine k_iload_n C dX12_just_0 1 rfl 1 rfl ?_
  refine k_iconst C dX12_just_1 (1) (by decide) 2 rfl ?_
  refine k_bipush C dX12_just_2 (60) (by decide) 4 rfl ?_
  refine k_callS_i C ye_X12_in se_X12_52 ⟨rfl, rfl⟩ ⟨rfl, rfl⟩ dX12_just_4 [.int p1, .int (1 : Int32), .int (60 : Int32)] rfl rfl (Nat.le_of_ble_eq_true rfl) (c_X12_in _ _ _ _) hf 7 rfl (fun x40 w39 hf => ?_)
  refine k_if_eq C dX12_just_7 hf 23 rfl 10 rfl (fun hf => ?_) (fun hf => ?_)
  · refine k_sub [0] rfl ?_
    exact t_23 _ w39 hf
  · refine k_iload_n C dX12_just_10 2 rfl 11 rfl ?_
    refine k_iconst C dX12_just_11 (-1) (by decide) 12 rfl ?_
    refine k_icmp_eq C dX12_just_12 hf 28 rfl 15 rfl (fun hf => ?_) (fun hf => ?_)
    · refine k_sub [0, 1, 2] rfl ?_
      exact t_28 _ _ _ w39 hf
    · refine k_aload_n C dX12_just_15 0 rfl rfl 16 rfl ?_
      refine k_iload_n C dX12_just_16 2 rfl 17 rfl ?_
      refine k_callV_i C ye_X12_isGoods ve_X12_131 ⟨rfl, rfl⟩ ⟨rfl, rfl⟩ dX12_just_17 [.int p2] rfl rfl (Nat.le_of_ble_eq_true rfl) (c_X12_isGoods _ _ _) hf 20 rfl (fun x42 w41 hf => ?_)
      refine k_if_ne C dX12_just_20 hf 28 rfl 23 rfl (fun hf => ?_) (fun hf => ?_)
      · refine k_sub [0, 1, 2] rfl ?_
        exact t_28 _ _ _ w41 hf
      · refine k_sub [0] rfl ?_
        exact t_23 _ w41 hf
theorem dX12_layMill_0 : decode cX12_layMill 0 = .ok (.iconst 0, 1) := by decide +kernel
theorem dX12_layMill_1 : decode cX12_layMill 1 = .ok (.istore_n 2, 1) := by decide +kernel
theorem dX12_layMill_2 : decode cX12_layMill 2 = .ok (.iload_n 2, 1) := by decide +kernel
theorem dX12_layMill_3 : decode cX12_layMill 3 = .ok (.sipush 213, 3) := by decide +kernel
theorem dX12_layMill_6 : decode cX12_layMill 6 = .ok (.if_icmp .ge 16, 3) := by decide +kernel
theorem dX12_layMill_9 : decode cX12_layMill 9 = .ok (.aload_n 0, 1) := by decide +kernel
theorem dX12_layMill_10 : decode cX12_layMill 10 = .ok (.getfield 7, 3) := by decide +kernel
theorem dX12_layMill_13 : decode cX12_layMill 13 = .ok (.iload_n 2, 1) := by decide +kernel
theorem dX12_layMill_14 : decode cX12_layMill 14 = .ok (.iconst 0, 1) := by decide +kernel
theorem dX12_layMill_15 : decode cX12_layMill 15 = .ok (.iastore, 1) := by decide +kernel
theorem dX12_layMill_16 : decode cX12_layMill 16 = .ok (.iinc 2 1, 3) := by decide +kernel
theorem dX12_layMill_19 : decode cX12_layMill 19 = .ok (.goto (-17), 3) := by decide +kernel
theorem dX12_layMill_22 : decode cX12_layMill 22 = .ok (.aload_n 0, 1) := by decide +kernel
theorem dX12_layMill_23 : decode cX12_layMill 23 = .ok (.getfield 7, 3) := by decide +kernel
theorem dX12_layMill_26 : decode cX12_layMill 26 = .ok (.bipush 17, 2) := by decide +kernel
theorem dX12_layMill_28 : decode cX12_layMill 28 = .ok (.iload_n 1, 1) := by decide +kernel
theorem dX12_layMill_29 : decode cX12_layMill 29 = .ok (.iastore, 1) := by decide +kernel
theorem dX12_layMill_30 : decode cX12_layMill 30 = .ok (.aload_n 0, 1) := by decide +kernel
theorem dX12_layMill_31 : decode cX12_layMill 31 = .ok (.getfield 7, 3) := by decide +kernel
theorem dX12_layMill_34 : decode cX12_layMill 34 = .ok (.bipush 15, 2) := by decide +kernel
theorem dX12_layMill_36 : decode cX12_layMill 36 = .ok (.iconst (-1), 1) := by decide +kernel
theorem dX12_layMill_37 : decode cX12_layMill 37 = .ok (.iastore, 1) := by decide +kernel
theorem dX12_layMill_38 : decode cX12_layMill 38 = .ok (.return_, 1) := by decide +kernel
set_option maxRecDepth 100000 in
set_option maxHeartbeats 4000000 in
theorem c_X12_layMill {g : Gv} {l : Launch} (p0 : Nat) (p1 : Int32) (w0 : Wd) (wz : Wd) (hf : f_X12_layMill p0 p1 w0 = some ((), wz)) : MV g l yX12_layMill cX12_layMill 3 0 0 0 0 [rV g p0, .int p1] w0 wz := by
  refine mv_of RX12 (by decide) rfl (Nat.le_of_ble_eq_true rfl) ?_
  intro X hg hll C hr h0 hin
  subst hg; subst hll
  have t_2 : ∀ (n : Nat) (v0 : Nat) (v1 : Int32) (v2 : Int32) (w : Wd), f_X12_layMill_2 n v0 v1 v2 w = some ((), wz) → Wk X 0 0 (QV X 0 0 w0 wz) w [(0, rV (xg X) v0), (1, .int v1), (2, .int v2)] 2 [] := by
    intro n
    induction n with
    | zero => intro v0 v1 v2 w hf; rw [f_X12_layMill_2] at hf; cases hf
    | succ n2 ih2 =>
      intro v0 v1 v2 w hf
      rw [f_X12_layMill_2] at hf
      refine k_iload_n C dX12_layMill_2 2 rfl 3 rfl ?_
      refine k_sipush C dX12_layMill_3 (213) (by decide) 6 rfl ?_
      refine k_icmp_ge C dX12_layMill_6 hf 22 rfl 9 rfl (fun hf => ?_) (fun hf => ?_)
      · refine k_aload_n C dX12_layMill_22 0 rfl rfl 23 rfl ?_
        refine k_getR C fe_X12_7 rfl dX12_layMill_23 hf 26 rfl (fun r7 hf => ?_)
        refine k_bipush C dX12_layMill_26 (17) (by decide) 28 rfl ?_
        refine k_iload_n C dX12_layMill_28 1 rfl 29 rfl ?_
        refine k_iast C dX12_layMill_29 hf 30 rfl (fun w8 _ hf => ?_)
        refine k_aload_n C dX12_layMill_30 0 rfl rfl 31 rfl ?_
        refine k_getR C fe_X12_7 rfl dX12_layMill_31 hf 34 rfl (fun r9 hf => ?_)
        refine k_bipush C dX12_layMill_34 (15) (by decide) 36 rfl ?_
        refine k_iconst C dX12_layMill_36 (-1) (by decide) 37 rfl ?_
        refine k_iast C dX12_layMill_37 hf 38 rfl (fun w10 _ hf => ?_)
        exact k_vret C hr h0 dX12_layMill_38 hf
      · refine k_aload_n C dX12_layMill_9 0 rfl rfl 10 rfl ?_
        refine k_getR C fe_X12_7 rfl dX12_layMill_10 hf 13 rfl (fun r11 hf => ?_)
        refine k_iload_n C dX12_layMill_13 2 rfl 14 rfl ?_
        refine k_iconst C dX12_layMill_14 (0) (by decide) 15 rfl ?_
        refine k_iast C dX12_layMill_15 hf 16 rfl (fun w12 _ hf => ?_)
        refine k_iinc C dX12_layMill_16 2 rfl (by decide) (by decide) [(2, .int (v2 + (1 : Int32))), (0, rV (xg X) v0), (1, .int v1)] rfl 19 rfl ?_
        refine k_goto C dX12_layMill_19 2 rfl ?_
        refine k_sub [1, 2, 0] rfl ?_
        exact ih2 _ _ _ w12 hf
  unfold f_X12_layMill at hf
  refine k_sub (lv2 := [(0, rV (xg X) p0), (1, .int p1)]) [0, 1] rfl ?_
  refine k_iconst C dX12_layMill_0 (0) (by decide) 1 rfl ?_
  refine k_istore_n C dX12_layMill_1 rfl (by decide) [(2, .int (0 : Int32)), (0, rV (xg X) p0), (1, .int p1)] rfl 2 rfl ?_
  refine k_sub [1, 2, 0] rfl ?_
  exact t_2 4096 _ _ _ w0 hf
