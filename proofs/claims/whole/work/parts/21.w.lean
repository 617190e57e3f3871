theorem dX10_isNamed_0 : decode cX10_isNamed 0 = .ok (.aload_n 0, 1) := by decide +kernel
theorem dX10_isNamed_1 : decode cX10_isNamed 1 = .ok (.getfield 19, 3) := by decide +kernel
theorem dX10_isNamed_4 : decode cX10_isNamed 4 = .ok (.iload_n 1, 1) := by decide +kernel
theorem dX10_isNamed_5 : decode cX10_isNamed 5 = .ok (.isub, 1) := by decide +kernel
theorem dX10_isNamed_6 : decode cX10_isNamed 6 = .ok (.aload_n 2, 1) := by decide +kernel
theorem dX10_isNamed_7 : decode cX10_isNamed 7 = .ok (.invokevirtual 98, 3) := by decide +kernel
theorem dX10_isNamed_10 : decode cX10_isNamed 10 = .ok (.if_icmp .eq 5, 3) := by decide +kernel
theorem dX10_isNamed_13 : decode cX10_isNamed 13 = .ok (.iconst 0, 1) := by decide +kernel
theorem dX10_isNamed_14 : decode cX10_isNamed 14 = .ok (.ireturn, 1) := by decide +kernel
theorem dX10_isNamed_15 : decode cX10_isNamed 15 = .ok (.iconst 0, 1) := by decide +kernel
theorem dX10_isNamed_16 : decode cX10_isNamed 16 = .ok (.istore_n 3, 1) := by decide +kernel
theorem dX10_isNamed_17 : decode cX10_isNamed 17 = .ok (.iload_n 3, 1) := by decide +kernel
theorem dX10_isNamed_18 : decode cX10_isNamed 18 = .ok (.aload_n 2, 1) := by decide +kernel
theorem dX10_isNamed_19 : decode cX10_isNamed 19 = .ok (.invokevirtual 98, 3) := by decide +kernel
theorem dX10_isNamed_22 : decode cX10_isNamed 22 = .ok (.if_icmp .ge 27, 3) := by decide +kernel
theorem dX10_isNamed_25 : decode cX10_isNamed 25 = .ok (.aload_n 0, 1) := by decide +kernel
theorem dX10_isNamed_26 : decode cX10_isNamed 26 = .ok (.getfield 11, 3) := by decide +kernel
theorem dX10_isNamed_29 : decode cX10_isNamed 29 = .ok (.iload_n 1, 1) := by decide +kernel
theorem dX10_isNamed_30 : decode cX10_isNamed 30 = .ok (.iload_n 3, 1) := by decide +kernel
theorem dX10_isNamed_31 : decode cX10_isNamed 31 = .ok (.iadd, 1) := by decide +kernel
theorem dX10_isNamed_32 : decode cX10_isNamed 32 = .ok (.baload, 1) := by decide +kernel
theorem dX10_isNamed_33 : decode cX10_isNamed 33 = .ok (.aload_n 2, 1) := by decide +kernel
theorem dX10_isNamed_34 : decode cX10_isNamed 34 = .ok (.iload_n 3, 1) := by decide +kernel
theorem dX10_isNamed_35 : decode cX10_isNamed 35 = .ok (.invokevirtual 103, 3) := by decide +kernel
theorem dX10_isNamed_38 : decode cX10_isNamed 38 = .ok (.if_icmp .eq 5, 3) := by decide +kernel
theorem dX10_isNamed_41 : decode cX10_isNamed 41 = .ok (.iconst 0, 1) := by decide +kernel
theorem dX10_isNamed_42 : decode cX10_isNamed 42 = .ok (.ireturn, 1) := by decide +kernel
theorem dX10_isNamed_43 : decode cX10_isNamed 43 = .ok (.iinc 3 1, 3) := by decide +kernel
theorem dX10_isNamed_46 : decode cX10_isNamed 46 = .ok (.goto (-29), 3) := by decide +kernel
theorem dX10_isNamed_49 : decode cX10_isNamed 49 = .ok (.iconst 1, 1) := by decide +kernel
theorem dX10_isNamed_50 : decode cX10_isNamed 50 = .ok (.ireturn, 1) := by decide +kernel
set_option maxRecDepth 100000 in
set_option maxHeartbeats 4000000 in
theorem c_X10_isNamed {g : Gv} {l : Launch} (p0 : Nat) (p1 : Int32) (p2 : Nat) (w0 : Wd) (rz : Int32) (wz : Wd) (hf : f_X10_isNamed p0 p1 p2 w0 = some (rz, wz)) : MI g l yX10_isNamed cX10_isNamed 4 .boolean 4 120 [rV g p0, .int p1, sV g p2] w0 rz wz := by
  refine mi_of RX10 (by decide) rfl (Nat.le_of_ble_eq_true rfl) ?_
  intro X hg hll C hr h0
  subst hg; subst hll
  have t_17 : ∀ (n : Nat) (v0 : Nat) (v1 : Int32) (v2 : Nat) (v3 : Int32) (w : Wd), f_X10_isNamed_17 n v0 v1 v2 v3 w = some (rz, wz) → Wk X 0 0 (QI X w0 rz wz) w [(0, rV (xg X) v0), (1, .int v1), (2, sV (xg X) v2), (3, .int v3)] 17 [] := by
    intro n
    induction n with
    | zero => intro v0 v1 v2 v3 w hf; rw [f_X10_isNamed_17] at hf; cases hf
    | succ n17 ih17 =>
      intro v0 v1 v2 v3 w hf
      rw [f_X10_isNamed_17] at hf
      refine k_iload_n C dX10_isNamed_17 3 rfl 18 rfl ?_
      refine k_aload_n C dX10_isNamed_18 2 rfl rfl 19 rfl ?_
      refine ks_length C ⟨rfl, rfl⟩ ⟨rfl, rfl⟩ dX10_isNamed_19 [] rfl (Nat.le_of_ble_eq_true rfl) hf 22 rfl (fun x11 w10 hf => ?_)
      refine k_icmp_ge C dX10_isNamed_22 hf 49 rfl 25 rfl (fun hf => ?_) (fun hf => ?_)
      · refine k_iconst C dX10_isNamed_49 (1) (by decide) 50 rfl ?_
        exact k_zret C hr h0 dX10_isNamed_50 hf
      · refine k_aload_n C dX10_isNamed_25 0 rfl rfl 26 rfl ?_
        refine k_getR C fe_X10_11 rfl dX10_isNamed_26 hf 29 rfl (fun r12 hf => ?_)
        refine k_iload_n C dX10_isNamed_29 1 rfl 30 rfl ?_
        refine k_iload_n C dX10_isNamed_30 3 rfl 31 rfl ?_
        refine k_iadd C dX10_isNamed_31 32 rfl ?_
        refine k_bald C dX10_isNamed_32 hf 33 rfl (fun x13 hf => ?_)
        refine k_aload_n C dX10_isNamed_33 2 rfl rfl 34 rfl ?_
        refine k_iload_n C dX10_isNamed_34 3 rfl 35 rfl ?_
        refine ks_charAt C ⟨rfl, rfl⟩ ⟨rfl, rfl⟩ dX10_isNamed_35 [.int v3] rfl (Nat.le_of_ble_eq_true rfl) hf 38 rfl (fun x15 w14 hf => ?_)
        refine k_icmp_eq C dX10_isNamed_38 hf 43 rfl 41 rfl (fun hf => ?_) (fun hf => ?_)
        · refine k_iinc C dX10_isNamed_43 3 rfl (by decide) (by decide) [(3, .int (v3 + (1 : Int32))), (0, rV (xg X) v0), (1, .int v1), (2, sV (xg X) v2)] rfl 46 rfl ?_
          refine k_goto C dX10_isNamed_46 17 rfl ?_
          refine k_sub [1, 2, 3, 0] rfl ?_
          exact ih17 _ _ _ _ w14 hf
        · refine k_iconst C dX10_isNamed_41 (0) (by decide) 42 rfl ?_
          exact k_zret C hr h0 dX10_isNamed_42 hf
  unfold f_X10_isNamed at hf
  refine k_sub (lv2 := [(0, rV (xg X) p0), (1, .int p1), (2, sV (xg X) p2)]) [0, 1, 2] rfl ?_
  refine k_aload_n C dX10_isNamed_0 0 rfl rfl 1 rfl ?_
  refine k_getI C fe_X10_19 rfl dX10_isNamed_1 hf 4 rfl (fun x16 hf => ?_)
  refine k_iload_n C dX10_isNamed_4 1 rfl 5 rfl ?_
  refine k_isub C dX10_isNamed_5 6 rfl ?_
  refine k_aload_n C dX10_isNamed_6 2 rfl rfl 7 rfl ?_
  refine ks_length C ⟨rfl, rfl⟩ ⟨rfl, rfl⟩ dX10_isNamed_7 [] rfl (Nat.le_of_ble_eq_true rfl) hf 10 rfl (fun x18 w17 hf => ?_)
  refine k_icmp_eq C dX10_isNamed_10 hf 15 rfl 13 rfl (fun hf => ?_) (fun hf => ?_)
  · refine k_iconst C dX10_isNamed_15 (0) (by decide) 16 rfl ?_
    refine k_istore_n C dX10_isNamed_16 rfl (by decide) [(3, .int (0 : Int32)), (0, rV (xg X) p0), (1, .int p1), (2, sV (xg X) p2)] rfl 17 rfl ?_
    refine k_sub [1, 2, 3, 0] rfl ?_
    exact t_17 4096 _ _ _ _ w17 hf
  · refine k_iconst C dX10_isNamed_13 (0) (by decide) 14 rfl ?_
    exact k_zret C hr h0 dX10_isNamed_14 hf
theorem dX10_readFirstItem_0 : decode cX10_readFirstItem 0 = .ok (.aload_n 0, 1) := by decide +kernel
theorem dX10_readFirstItem_1 : decode cX10_readFirstItem 1 = .ok (.getfield 19, 3) := by decide +kernel
theorem dX10_readFirstItem_4 : decode cX10_readFirstItem 4 = .ok (.istore_n 2, 1) := by decide +kernel
theorem dX10_readFirstItem_5 : decode cX10_readFirstItem 5 = .ok (.aload_n 0, 1) := by decide +kernel
theorem dX10_readFirstItem_6 : decode cX10_readFirstItem 6 = .ok (.invokevirtual 41, 3) := by decide +kernel
theorem dX10_readFirstItem_9 : decode cX10_readFirstItem 9 = .ok (.aload_n 0, 1) := by decide +kernel
theorem dX10_readFirstItem_10 : decode cX10_readFirstItem 10 = .ok (.iload_n 2, 1) := by decide +kernel
theorem dX10_readFirstItem_11 : decode cX10_readFirstItem 11 = .ok (.ldc 44, 2) := by decide +kernel
theorem dX10_readFirstItem_13 : decode cX10_readFirstItem 13 = .ok (.invokevirtual 46, 3) := by decide +kernel
theorem dX10_readFirstItem_16 : decode cX10_readFirstItem 16 = .ok (.ifCond .eq 17, 3) := by decide +kernel
theorem dX10_readFirstItem_19 : decode cX10_readFirstItem 19 = .ok (.aload_n 1, 1) := by decide +kernel
theorem dX10_readFirstItem_20 : decode cX10_readFirstItem 20 = .ok (.aload_n 0, 1) := by decide +kernel
theorem dX10_readFirstItem_21 : decode cX10_readFirstItem 21 = .ok (.iconst 0, 1) := by decide +kernel
theorem dX10_readFirstItem_22 : decode cX10_readFirstItem 22 = .ok (.bipush 99, 2) := by decide +kernel
theorem dX10_readFirstItem_24 : decode cX10_readFirstItem 24 = .ok (.invokevirtual 50, 3) := by decide +kernel
theorem dX10_readFirstItem_27 : decode cX10_readFirstItem 27 = .ok (.putfield 54, 3) := by decide +kernel
theorem dX10_readFirstItem_30 : decode cX10_readFirstItem 30 = .ok (.goto 8, 3) := by decide +kernel
theorem dX10_readFirstItem_33 : decode cX10_readFirstItem 33 = .ok (.aload_n 0, 1) := by decide +kernel
theorem dX10_readFirstItem_34 : decode cX10_readFirstItem 34 = .ok (.iload_n 2, 1) := by decide +kernel
theorem dX10_readFirstItem_35 : decode cX10_readFirstItem 35 = .ok (.invokevirtual 57, 3) := by decide +kernel
theorem dX10_readFirstItem_38 : decode cX10_readFirstItem 38 = .ok (.aload_n 0, 1) := by decide +kernel
theorem dX10_readFirstItem_39 : decode cX10_readFirstItem 39 = .ok (.invokevirtual 60, 3) := by decide +kernel
theorem dX10_readFirstItem_42 : decode cX10_readFirstItem 42 = .ok (.return_, 1) := by decide +kernel
set_option maxRecDepth 100000 in
set_option maxHeartbeats 4000000 in
theorem c_X10_readFirstItem {g : Gv} {l : Launch} (p0 : Nat) (p1 : Nat) (w0 : Wd) (wz : Wd) (hf : f_X10_readFirstItem p0 p1 w0 = some ((), wz)) : MV g l yX10_readFirstItem cX10_readFirstItem 3 5 143 0 0 [rV g p0, rV g p1] w0 wz := by
  refine mv_of RX10 (by decide) rfl (Nat.le_of_ble_eq_true rfl) ?_
  intro X hg hll C hr h0 hin
  subst hg; subst hll
  have t_38 : ∀ (v0 : Nat) (w : Wd), f_X10_readFirstItem_38 v0 w = some ((), wz) → Wk X 0 0 (QV X 0 0 w0 wz) w [(0, rV (xg X) v0)] 38 [] := by
    intro v0 w hf
    unfold f_X10_readFirstItem_38 at hf
    refine k_aload_n C dX10_readFirstItem_38 0 rfl rfl 39 rfl ?_
    refine k_callV_v C ye_X10_readItemsEnd ve_X10_60 ⟨rfl, rfl⟩ ⟨rfl, rfl⟩ dX10_readFirstItem_39 [] rfl rfl (Nat.le_of_ble_eq_true rfl) (c_X10_readItemsEnd _ _) hf 42 rfl (fun w13 hf => ?_)
    exact k_vret C hr h0 dX10_readFirstItem_42 hf
  unfold f_X10_readFirstItem at hf
  refine k_sub (lv2 := [(0, rV (xg X) p0), (1, rV (xg X) p1)]) [0, 1] rfl ?_
  refine k_aload_n C dX10_readFirstItem_0 0 rfl rfl 1 rfl ?_
  refine k_getI C fe_X10_19 rfl dX10_readFirstItem_1 hf 4 rfl (fun x15 hf => ?_)
  refine k_istore_n C dX10_readFirstItem_4 rfl (by decide) [(2, .int x15), (0, rV (xg X) p0), (1, rV (xg X) p1)] rfl 5 rfl ?_
  refine k_aload_n C dX10_readFirstItem_5 1 rfl rfl 6 rfl ?_
  refine k_callV_v C ye_X10_passLetters ve_X10_41 ⟨rfl, rfl⟩ ⟨rfl, rfl⟩ dX10_readFirstItem_6 [] rfl rfl (Nat.le_of_ble_eq_true rfl) (c_X10_passLetters _ _) hf 9 rfl (fun w16 hf => ?_)
  refine k_aload_n C dX10_readFirstItem_9 1 rfl rfl 10 rfl ?_
  refine k_iload_n C dX10_readFirstItem_10 0 rfl 11 rfl ?_
  refine k_ldcS C dX10_readFirstItem_11 0 (by decide) rfl rfl 13 rfl ?_
  refine k_callV_i C ye_X10_isNamed ve_X10_46 ⟨rfl, rfl⟩ ⟨rfl, rfl⟩ dX10_readFirstItem_13 [.int x15, sV (xg X) 0] rfl rfl (Nat.le_of_ble_eq_true rfl) (c_X10_isNamed _ _ _ _) hf 16 rfl (fun x19 w18 hf => ?_)
  refine k_if_eq C dX10_readFirstItem_16 hf 33 rfl 19 rfl (fun hf => ?_) (fun hf => ?_)
  · refine k_aload_n C dX10_readFirstItem_33 1 rfl rfl 34 rfl ?_
    refine k_iload_n C dX10_readFirstItem_34 0 rfl 35 rfl ?_
    refine k_callV_v C ye_X10_failAt ve_X10_57 ⟨rfl, rfl⟩ ⟨rfl, rfl⟩ dX10_readFirstItem_35 [.int x15] rfl rfl (Nat.le_of_ble_eq_true rfl) (c_X10_failAt _ _ _) hf 38 rfl (fun w20 hf => ?_)
    refine k_sub [1] rfl ?_
    exact t_38 _ w20 hf
  · refine k_aload_n C dX10_readFirstItem_19 2 rfl rfl 20 rfl ?_
    refine k_aload_n C dX10_readFirstItem_20 1 rfl rfl 21 rfl ?_
    refine k_iconst C dX10_readFirstItem_21 (0) (by decide) 22 rfl ?_
    refine k_bipush C dX10_readFirstItem_22 (99) (by decide) 24 rfl ?_
    refine k_callV_i C ye_X10_readNumber ve_X10_50 ⟨rfl, rfl⟩ ⟨rfl, rfl⟩ dX10_readFirstItem_24 [.int (0 : Int32), .int (99 : Int32)] rfl rfl (Nat.le_of_ble_eq_true rfl) (c_X10_readNumber _ _ _ _) hf 27 rfl (fun x23 w22 hf => ?_)
    refine k_putI C fe_X10_54 rfl rfl dX10_readFirstItem_27 hf 30 rfl (fun w24 _ hf => ?_)
    refine k_goto C dX10_readFirstItem_30 38 rfl ?_
    refine k_sub [1] rfl ?_
    exact t_38 _ w24 hf
theorem dX10_readLaterItem_0 : decode cX10_readLaterItem 0 = .ok (.aload_n 0, 1) := by decide +kernel
theorem dX10_readLaterItem_1 : decode cX10_readLaterItem 1 = .ok (.getfield 19, 3) := by decide +kernel
theorem dX10_readLaterItem_4 : decode cX10_readLaterItem 4 = .ok (.istore_n 2, 1) := by decide +kernel
theorem dX10_readLaterItem_5 : decode cX10_readLaterItem 5 = .ok (.aload_n 0, 1) := by decide +kernel
theorem dX10_readLaterItem_6 : decode cX10_readLaterItem 6 = .ok (.invokevirtual 41, 3) := by decide +kernel
theorem dX10_readLaterItem_9 : decode cX10_readLaterItem 9 = .ok (.aload_n 0, 1) := by decide +kernel
theorem dX10_readLaterItem_10 : decode cX10_readLaterItem 10 = .ok (.iload_n 2, 1) := by decide +kernel
theorem dX10_readLaterItem_11 : decode cX10_readLaterItem 11 = .ok (.ldc 63, 2) := by decide +kernel
theorem dX10_readLaterItem_13 : decode cX10_readLaterItem 13 = .ok (.invokevirtual 46, 3) := by decide +kernel
theorem dX10_readLaterItem_16 : decode cX10_readLaterItem 16 = .ok (.ifCond .eq 12, 3) := by decide +kernel
theorem dX10_readLaterItem_19 : decode cX10_readLaterItem 19 = .ok (.aload_n 0, 1) := by decide +kernel
theorem dX10_readLaterItem_20 : decode cX10_readLaterItem 20 = .ok (.aload_n 1, 1) := by decide +kernel
theorem dX10_readLaterItem_21 : decode cX10_readLaterItem 21 = .ok (.iload_n 2, 1) := by decide +kernel
theorem dX10_readLaterItem_22 : decode cX10_readLaterItem 22 = .ok (.invokevirtual 65, 3) := by decide +kernel
theorem dX10_readLaterItem_25 : decode cX10_readLaterItem 25 = .ok (.goto 84, 3) := by decide +kernel
theorem dX10_readLaterItem_28 : decode cX10_readLaterItem 28 = .ok (.aload_n 0, 1) := by decide +kernel
theorem dX10_readLaterItem_29 : decode cX10_readLaterItem 29 = .ok (.iload_n 2, 1) := by decide +kernel
theorem dX10_readLaterItem_30 : decode cX10_readLaterItem 30 = .ok (.ldc 69, 2) := by decide +kernel
theorem dX10_readLaterItem_32 : decode cX10_readLaterItem 32 = .ok (.invokevirtual 46, 3) := by decide +kernel
theorem dX10_readLaterItem_35 : decode cX10_readLaterItem 35 = .ok (.ifCond .eq 21, 3) := by decide +kernel
theorem dX10_readLaterItem_38 : decode cX10_readLaterItem 38 = .ok (.aload_n 1, 1) := by decide +kernel
theorem dX10_readLaterItem_39 : decode cX10_readLaterItem 39 = .ok (.aload_n 0, 1) := by decide +kernel
theorem dX10_readLaterItem_40 : decode cX10_readLaterItem 40 = .ok (.iconst 0, 1) := by decide +kernel
theorem dX10_readLaterItem_41 : decode cX10_readLaterItem 41 = .ok (.aload_n 1, 1) := by decide +kernel
theorem dX10_readLaterItem_42 : decode cX10_readLaterItem 42 = .ok (.getfield 71, 3) := by decide +kernel
theorem dX10_readLaterItem_45 : decode cX10_readLaterItem 45 = .ok (.iconst 1, 1) := by decide +kernel
theorem dX10_readLaterItem_46 : decode cX10_readLaterItem 46 = .ok (.isub, 1) := by decide +kernel
theorem dX10_readLaterItem_47 : decode cX10_readLaterItem 47 = .ok (.invokevirtual 50, 3) := by decide +kernel
theorem dX10_readLaterItem_50 : decode cX10_readLaterItem 50 = .ok (.putfield 74, 3) := by decide +kernel
theorem dX10_readLaterItem_53 : decode cX10_readLaterItem 53 = .ok (.goto 56, 3) := by decide +kernel
theorem dX10_readLaterItem_56 : decode cX10_readLaterItem 56 = .ok (.aload_n 0, 1) := by decide +kernel
theorem dX10_readLaterItem_57 : decode cX10_readLaterItem 57 = .ok (.iload_n 2, 1) := by decide +kernel
theorem dX10_readLaterItem_58 : decode cX10_readLaterItem 58 = .ok (.ldc 77, 2) := by decide +kernel
theorem dX10_readLaterItem_60 : decode cX10_readLaterItem 60 = .ok (.invokevirtual 46, 3) := by decide +kernel
theorem dX10_readLaterItem_63 : decode cX10_readLaterItem 63 = .ok (.ifCond .eq 17, 3) := by decide +kernel
theorem dX10_readLaterItem_66 : decode cX10_readLaterItem 66 = .ok (.aload_n 1, 1) := by decide +kernel
theorem dX10_readLaterItem_67 : decode cX10_readLaterItem 67 = .ok (.aload_n 0, 1) := by decide +kernel
theorem dX10_readLaterItem_68 : decode cX10_readLaterItem 68 = .ok (.iconst 0, 1) := by decide +kernel
theorem dX10_readLaterItem_69 : decode cX10_readLaterItem 69 = .ok (.bipush 31, 2) := by decide +kernel
theorem dX10_readLaterItem_71 : decode cX10_readLaterItem 71 = .ok (.invokevirtual 50, 3) := by decide +kernel
theorem dX10_readLaterItem_74 : decode cX10_readLaterItem 74 = .ok (.putfield 79, 3) := by decide +kernel
theorem dX10_readLaterItem_77 : decode cX10_readLaterItem 77 = .ok (.goto 32, 3) := by decide +kernel
theorem dX10_readLaterItem_80 : decode cX10_readLaterItem 80 = .ok (.aload_n 0, 1) := by decide +kernel
theorem dX10_readLaterItem_81 : decode cX10_readLaterItem 81 = .ok (.iload_n 2, 1) := by decide +kernel
theorem dX10_readLaterItem_82 : decode cX10_readLaterItem 82 = .ok (.ldc 81, 2) := by decide +kernel
theorem dX10_readLaterItem_84 : decode cX10_readLaterItem 84 = .ok (.invokevirtual 46, 3) := by decide +kernel
theorem dX10_readLaterItem_87 : decode cX10_readLaterItem 87 = .ok (.ifCond .eq 17, 3) := by decide +kernel
theorem dX10_readLaterItem_90 : decode cX10_readLaterItem 90 = .ok (.aload_n 1, 1) := by decide +kernel
theorem dX10_readLaterItem_91 : decode cX10_readLaterItem 91 = .ok (.aload_n 0, 1) := by decide +kernel
theorem dX10_readLaterItem_92 : decode cX10_readLaterItem 92 = .ok (.iconst 0, 1) := by decide +kernel
theorem dX10_readLaterItem_93 : decode cX10_readLaterItem 93 = .ok (.bipush 9, 2) := by decide +kernel
theorem dX10_readLaterItem_95 : decode cX10_readLaterItem 95 = .ok (.invokevirtual 50, 3) := by decide +kernel
theorem dX10_readLaterItem_98 : decode cX10_readLaterItem 98 = .ok (.putfield 83, 3) := by decide +kernel
theorem dX10_readLaterItem_101 : decode cX10_readLaterItem 101 = .ok (.goto 8, 3) := by decide +kernel
theorem dX10_readLaterItem_104 : decode cX10_readLaterItem 104 = .ok (.aload_n 0, 1) := by decide +kernel
theorem dX10_readLaterItem_105 : decode cX10_readLaterItem 105 = .ok (.iload_n 2, 1) := by decide +kernel
theorem dX10_readLaterItem_106 : decode cX10_readLaterItem 106 = .ok (.invokevirtual 57, 3) := by decide +kernel
theorem dX10_readLaterItem_109 : decode cX10_readLaterItem 109 = .ok (.aload_n 0, 1) := by decide +kernel
theorem dX10_readLaterItem_110 : decode cX10_readLaterItem 110 = .ok (.invokevirtual 60, 3) := by decide +kernel
theorem dX10_readLaterItem_113 : decode cX10_readLaterItem 113 = .ok (.return_, 1) := by decide +kernel
set_option maxRecDepth 100000 in
set_option maxHeartbeats 4000000 in
theorem c_X10_readLaterItem {g : Gv} {l : Launch} (p0 : Nat) (p1 : Nat) (w0 : Wd) (wz : Wd) (hf : f_X10_readLaterItem p0 p1 w0 = some ((), wz)) : MV g l yX10_readLaterItem cX10_readLaterItem 3 5 143 0 0 [rV g p0, rV g p1] w0 wz := by
  refine mv_of RX10 (by decide) rfl (Nat.le_of_ble_eq_true rfl) ?_
  intro X hg hll C hr h0 hin
  subst hg; subst hll
  have t_109 : ∀ (v0 : Nat) (w : Wd), f_X10_readLaterItem_109 v0 w = some ((), wz) → Wk X 0 0 (QV X 0 0 w0 wz) w [(0, rV (xg X) v0)] 109 [] := by
    intro v0 w hf
    unfold f_X10_readLaterItem_109 at hf
    refine k_aload_n C dX10_readLaterItem_109 0 rfl rfl 110 rfl ?_
    refine k_callV_v C ye_X10_readItemsEnd ve_X10_60 ⟨rfl, rfl⟩ ⟨rfl, rfl⟩ dX10_readLaterItem_110 [] rfl rfl (Nat.le_of_ble_eq_true rfl) (c_X10_readItemsEnd _ _) hf 113 rfl (fun w28 hf => ?_)
    exact k_vret C hr h0 dX10_readLaterItem_113 hf
  unfold f_X10_readLaterItem at hf
  refine k_sub (lv2 := [(0, rV (xg X) p0), (1, rV (xg X) p1)]) [0, 1] rfl ?_
  refine k_aload_n C dX10_readLaterItem_0 0 rfl rfl 1 rfl ?_
  refine k_getI C fe_X10_19 rfl dX10_readLaterItem_1 hf 4 rfl (fun x30 hf => ?_)
  refine k_istore_n C dX10_readLaterItem_4 rfl (by decide) [(2, .int x30), (0, rV (xg X) p0), (1, rV (xg X) p1)] rfl 5 rfl ?_
  refine k_aload_n C dX10_readLaterItem_5 1 rfl rfl 6 rfl ?_
  refine k_callV_v C ye_X10_passLetters ve_X10_41 ⟨rfl, rfl⟩ ⟨rfl, rfl⟩ dX10_readLaterItem_6 [] rfl rfl (Nat.le_of_ble_eq_true rfl) (c_X10_passLetters _ _) hf 9 rfl (fun w31 hf => ?_)
  refine k_aload_n C dX10_readLaterItem_9 1 rfl rfl 10 rfl ?_
  refine k_iload_n C dX10_readLaterItem_10 0 rfl 11 rfl ?_
  refine k_ldcS C dX10_readLaterItem_11 1 (by decide) rfl rfl 13 rfl ?_
  refine k_callV_i C ye_X10_isNamed ve_X10_46 ⟨rfl, rfl⟩ ⟨rfl, rfl⟩ dX10_readLaterItem_13 [.int x30, sV (xg X) 1] rfl rfl (Nat.le_of_ble_eq_true rfl) (c_X10_isNamed _ _ _ _) hf 16 rfl (fun x34 w33 hf => ?_)
  refine k_if_eq C dX10_readLaterItem_16 hf 28 rfl 19 rfl (fun hf => ?_) (fun hf => ?_)
  · refine k_aload_n C dX10_readLaterItem_28 1 rfl rfl 29 rfl ?_
    refine k_iload_n C dX10_readLaterItem_29 0 rfl 30 rfl ?_
    refine k_ldcS C dX10_readLaterItem_30 2 (by decide) rfl rfl 32 rfl ?_
    refine k_callV_i C ye_X10_isNamed ve_X10_46 ⟨rfl, rfl⟩ ⟨rfl, rfl⟩ dX10_readLaterItem_32 [.int x30, sV (xg X) 2] rfl rfl (Nat.le_of_ble_eq_true rfl) (c_X10_isNamed _ _ _ _) hf 35 rfl (fun x36 w35 hf => ?_)
    refine k_if_eq C dX10_readLaterItem_35 hf 56 rfl 38 rfl (fun hf => ?_) (fun hf => ?_)
    · refine k_aload_n C dX10_readLaterItem_56 1 rfl rfl 57 rfl ?_
      refine k_iload_n C dX10_readLaterItem_57 0 rfl 58 rfl ?_
      refine k_ldcS C dX10_readLaterItem_58 3 (by decide) rfl rfl 60 rfl ?_
      refine k_callV_i C ye_X10_isNamed ve_X10_46 ⟨rfl, rfl⟩ ⟨rfl, rfl⟩ dX10_readLaterItem_60 [.int x30, sV (xg X) 3] rfl rfl (Nat.le_of_ble_eq_true rfl) (c_X10_isNamed _ _ _ _) hf 63 rfl (fun x38 w37 hf => ?_)
      refine k_if_eq C dX10_readLaterItem_63 hf 80 rfl 66 rfl (fun hf => ?_) (fun hf => ?_)
      · refine k_aload_n C dX10_readLaterItem_80 1 rfl rfl 81 rfl ?_
        refine k_iload_n C dX10_readLaterItem_81 0 rfl 82 rfl ?_
        refine k_ldcS C dX10_readLaterItem_82 4 (by decide) rfl rfl 84 rfl ?_
        refine k_callV_i C ye_X10_isNamed ve_X10_46 ⟨rfl, rfl⟩ ⟨rfl, rfl⟩ dX10_readLaterItem_84 [.int x30, sV (xg X) 4] rfl rfl (Nat.le_of_ble_eq_true rfl) (c_X10_isNamed _ _ _ _) hf 87 rfl (fun x40 w39 hf => ?_)
        refine k_if_eq C dX10_readLaterItem_87 hf 104 rfl 90 rfl (fun hf => ?_) (fun hf => ?_)
        · refine k_aload_n C dX10_readLaterItem_104 1 rfl rfl 105 rfl ?_
          refine k_iload_n C dX10_readLaterItem_105 0 rfl 106 rfl ?_
          refine k_callV_v C ye_X10_failAt ve_X10_57 ⟨rfl, rfl⟩ ⟨rfl, rfl⟩ dX10_readLaterItem_106 [.int x30] rfl rfl (Nat.le_of_ble_eq_true rfl) (c_X10_failAt _ _ _) hf 109 rfl (fun w41 hf => ?_)
          refine k_sub [1] rfl ?_
          exact t_109 _ w41 hf
        · refine k_aload_n C dX10_readLaterItem_90 2 rfl rfl 91 rfl ?_
          refine k_aload_n C dX10_readLaterItem_91 1 rfl rfl 92 rfl ?_
          refine k_iconst C dX10_readLaterItem_92 (0) (by decide) 93 rfl ?_
          refine k_bipush C dX10_readLaterItem_93 (9) (by decide) 95 rfl ?_
          refine k_callV_i C ye_X10_readNumber ve_X10_50 ⟨rfl, rfl⟩ ⟨rfl, rfl⟩ dX10_readLaterItem_95 [.int (0 : Int32), .int (9 : Int32)] rfl rfl (Nat.le_of_ble_eq_true rfl) (c_X10_readNumber _ _ _ _) hf 98 rfl (fun x44 w43 hf => ?_)
          refine k_putI C fe_X10_83 rfl rfl dX10_readLaterItem_98 hf 101 rfl (fun w45 _ hf => ?_)
          refine k_goto C dX10_readLaterItem_101 109 rfl ?_
          refine k_sub [1] rfl ?_
          exact t_109 _ w45 hf
      · refine k_aload_n C dX10_readLaterItem_66 2 rfl rfl 67 rfl ?_
        refine k_aload_n C dX10_readLaterItem_67 1 rfl rfl 68 rfl ?_
        refine k_iconst C dX10_readLaterItem_68 (0) (by decide) 69 rfl ?_
        refine k_bipush C dX10_readLaterItem_69 (31) (by decide) 71 rfl ?_
        refine k_callV_i C ye_X10_readNumber ve_X10_50 ⟨rfl, rfl⟩ ⟨rfl, rfl⟩ dX10_readLaterItem_71 [.int (0 : Int32), .int (31 : Int32)] rfl rfl (Nat.le_of_ble_eq_true rfl) (c_X10_readNumber _ _ _ _) hf 74 rfl (fun x47 w46 hf => ?_)
        refine k_putI C fe_X10_79 rfl rfl dX10_readLaterItem_74 hf 77 rfl (fun w48 _ hf => ?_)
        refine k_goto C dX10_readLaterItem_77 109 rfl ?_
        refine k_sub [1] rfl ?_
        exact t_109 _ w48 hf
    · refine k_aload_n C dX10_readLaterItem_38 2 rfl rfl 39 rfl ?_
      refine k_aload_n C dX10_readLaterItem_39 1 rfl rfl 40 rfl ?_
      refine k_iconst C dX10_readLaterItem_40 (0) (by decide) 41 rfl ?_
      refine k_aload_n C dX10_readLaterItem_41 2 rfl rfl 42 rfl ?_
      refine k_getI C fe_X10_71 rfl dX10_readLaterItem_42 hf 45 rfl (fun x49 hf => ?_)
      refine k_iconst C dX10_readLaterItem_45 (1) (by decide) 46 rfl ?_
      refine k_isub C dX10_readLaterItem_46 47 rfl ?_
      refine k_callV_i C ye_X10_readNumber ve_X10_50 ⟨rfl, rfl⟩ ⟨rfl, rfl⟩ dX10_readLaterItem_47 [.int (0 : Int32), .int (x49 - (1 : Int32))] rfl rfl (Nat.le_of_ble_eq_true rfl) (c_X10_readNumber _ _ _ _) hf 50 rfl (fun x51 w50 hf => ?_)
      refine k_putI C fe_X10_74 rfl rfl dX10_readLaterItem_50 hf 53 rfl (fun w52 _ hf => ?_)
      refine k_goto C dX10_readLaterItem_53 109 rfl ?_
      refine k_sub [1] rfl ?_
      exact t_109 _ w52 hf
  · refine k_aload_n C dX10_readLaterItem_19 1 rfl rfl 20 rfl ?_
    refine k_aload_n C dX10_readLaterItem_20 2 rfl rfl 21 rfl ?_
    refine k_iload_n C dX10_readLaterItem_21 0 rfl 22 rfl ?_
    refine k_callV_v C ye_X10_readGoods ve_X10_65 ⟨rfl, rfl⟩ ⟨rfl, rfl⟩ dX10_readLaterItem_22 [rV (xg X) p1, .int x30] rfl rfl (Nat.le_of_ble_eq_true rfl) (c_X10_readGoods _ _ _ _) hf 25 rfl (fun w53 hf => ?_)
    refine k_goto C dX10_readLaterItem_25 109 rfl ?_
    refine k_sub [1] rfl ?_
    exact t_109 _ w53 hf
theorem dX10_readInto_0 : decode cX10_readInto 0 = .ok (.aload_n 0, 1) := by decide +kernel
theorem dX10_readInto_1 : decode cX10_readInto 1 = .ok (.iconst 0, 1) := by decide +kernel
theorem dX10_readInto_2 : decode cX10_readInto 2 = .ok (.putfield 19, 3) := by decide +kernel
theorem dX10_readInto_5 : decode cX10_readInto 5 = .ok (.aload_n 0, 1) := by decide +kernel
theorem dX10_readInto_6 : decode cX10_readInto 6 = .ok (.iconst (-1), 1) := by decide +kernel
theorem dX10_readInto_7 : decode cX10_readInto 7 = .ok (.putfield 22, 3) := by decide +kernel
theorem dX10_readInto_10 : decode cX10_readInto 10 = .ok (.aload_n 1, 1) := by decide +kernel
theorem dX10_readInto_11 : decode cX10_readInto 11 = .ok (.bipush 60, 2) := by decide +kernel
theorem dX10_readInto_13 : decode cX10_readInto 13 = .ok (.invokevirtual 25, 3) := by decide +kernel
theorem dX10_readInto_16 : decode cX10_readInto 16 = .ok (.aload_n 0, 1) := by decide +kernel
theorem dX10_readInto_17 : decode cX10_readInto 17 = .ok (.invokevirtual 31, 3) := by decide +kernel
theorem dX10_readInto_20 : decode cX10_readInto 20 = .ok (.aload_n 0, 1) := by decide +kernel
theorem dX10_readInto_21 : decode cX10_readInto 21 = .ok (.aload_n 1, 1) := by decide +kernel
theorem dX10_readInto_22 : decode cX10_readInto 22 = .ok (.invokevirtual 34, 3) := by decide +kernel
theorem dX10_readInto_25 : decode cX10_readInto 25 = .ok (.iconst 1, 1) := by decide +kernel
theorem dX10_readInto_26 : decode cX10_readInto 26 = .ok (.istore_n 2, 1) := by decide +kernel
theorem dX10_readInto_27 : decode cX10_readInto 27 = .ok (.iload_n 2, 1) := by decide +kernel
theorem dX10_readInto_28 : decode cX10_readInto 28 = .ok (.sipush 150, 3) := by decide +kernel
theorem dX10_readInto_31 : decode cX10_readInto 31 = .ok (.if_icmp .ge 33, 3) := by decide +kernel
theorem dX10_readInto_34 : decode cX10_readInto 34 = .ok (.aload_n 0, 1) := by decide +kernel
theorem dX10_readInto_35 : decode cX10_readInto 35 = .ok (.getfield 22, 3) := by decide +kernel
theorem dX10_readInto_38 : decode cX10_readInto 38 = .ok (.iconst (-1), 1) := by decide +kernel
theorem dX10_readInto_39 : decode cX10_readInto 39 = .ok (.if_icmp .ne 25, 3) := by decide +kernel
theorem dX10_readInto_42 : decode cX10_readInto 42 = .ok (.aload_n 0, 1) := by decide +kernel
theorem dX10_readInto_43 : decode cX10_readInto 43 = .ok (.getfield 19, 3) := by decide +kernel
theorem dX10_readInto_46 : decode cX10_readInto 46 = .ok (.aload_n 0, 1) := by decide +kernel
theorem dX10_readInto_47 : decode cX10_readInto 47 = .ok (.getfield 15, 3) := by decide +kernel
theorem dX10_readInto_50 : decode cX10_readInto 50 = .ok (.if_icmp .ge 14, 3) := by decide +kernel
theorem dX10_readInto_53 : decode cX10_readInto 53 = .ok (.aload_n 0, 1) := by decide +kernel
theorem dX10_readInto_54 : decode cX10_readInto 54 = .ok (.aload_n 1, 1) := by decide +kernel
theorem dX10_readInto_55 : decode cX10_readInto 55 = .ok (.invokevirtual 38, 3) := by decide +kernel
theorem dX10_readInto_58 : decode cX10_readInto 58 = .ok (.iinc 2 1, 3) := by decide +kernel
theorem dX10_readInto_61 : decode cX10_readInto 61 = .ok (.goto (-34), 3) := by decide +kernel
theorem dX10_readInto_64 : decode cX10_readInto 64 = .ok (.iload_n 2, 1) := by decide +kernel
theorem dX10_readInto_65 : decode cX10_readInto 65 = .ok (.ireturn, 1) := by decide +kernel
set_option maxRecDepth 100000 in
set_option maxHeartbeats 4000000 in
theorem c_X10_readInto {g : Gv} {l : Launch} (p0 : Nat) (p1 : Nat) (w0 : Wd) (rz : Int32) (wz : Wd) (hf : f_X10_readInto p0 p1 w0 = some (rz, wz)) : MI g l yX10_readInto cX10_readInto 3 .int 6 165 [rV g p0, rV g p1] w0 rz wz := by
  refine mi_of RX10 (by decide) rfl (Nat.le_of_ble_eq_true rfl) ?_
  intro X hg hll C hr h0
  subst hg; subst hll
  have t_64 : ∀ (v2 : Int32) (w : Wd), f_X10_readInto_64 v2 w = some (rz, wz) → Wk X 0 0 (QI X w0 rz wz) w [(2, .int v2)] 64 [] := by
    intro v2 w hf
    unfold f_X10_readInto_64 at hf
    refine k_iload_n C dX10_readInto_64 0 rfl 65 rfl ?_
    exact k_iret C hr h0 dX10_readInto_65 hf
  have t_27 : ∀ (n : Nat) (v0 : Nat) (v1 : Nat) (v2 : Int32) (w : Wd), f_X10_readInto_27 n v0 v1 v2 w = some (rz, wz) → Wk X 0 0 (QI X w0 rz wz) w [(0, rV (xg X) v0), (1, rV (xg X) v1), (2, .int v2)] 27 [] := by
    intro n
    induction n with
    | zero => intro v0 v1 v2 w hf; rw [f_X10_readInto_27] at hf; cases hf
    | succ n27 ih27 =>
      intro v0 v1 v2 w hf
      rw [f_X10_readInto_27] at hf
      refine k_iload_n C dX10_readInto_27 2 rfl 28 rfl ?_
      refine k_sipush C dX10_readInto_28 (150) (by decide) 31 rfl ?_
      refine k_icmp_ge C dX10_readInto_31 hf 64 rfl 34 rfl (fun hf => ?_) (fun hf => ?_)
      · refine k_sub [2] rfl ?_
        exact t_64 _ w hf
      · refine k_aload_n C dX10_readInto_34 0 rfl rfl 35 rfl ?_
        refine k_getI C fe_X10_22 rfl dX10_readInto_35 hf 38 rfl (fun x14 hf => ?_)
        refine k_iconst C dX10_readInto_38 (-1) (by decide) 39 rfl ?_
        refine k_icmp_ne C dX10_readInto_39 hf 64 rfl 42 rfl (fun hf => ?_) (fun hf => ?_)
        · refine k_sub [2] rfl ?_
          exact t_64 _ w hf
        · refine k_aload_n C dX10_readInto_42 0 rfl rfl 43 rfl ?_
          refine k_getI C fe_X10_19 rfl dX10_readInto_43 hf 46 rfl (fun x15 hf => ?_)
          refine k_aload_n C dX10_readInto_46 0 rfl rfl 47 rfl ?_
          refine k_getI C fe_X10_15 rfl dX10_readInto_47 hf 50 rfl (fun x16 hf => ?_)
          refine k_icmp_ge C dX10_readInto_50 hf 64 rfl 53 rfl (fun hf => ?_) (fun hf => ?_)
          · refine k_sub [2] rfl ?_
            exact t_64 _ w hf
          · refine k_aload_n C dX10_readInto_53 0 rfl rfl 54 rfl ?_
            refine k_aload_n C dX10_readInto_54 1 rfl rfl 55 rfl ?_
            refine k_callV_v C ye_X10_readLaterItem ve_X10_38 ⟨rfl, rfl⟩ ⟨rfl, rfl⟩ dX10_readInto_55 [rV (xg X) v1] rfl rfl (Nat.le_of_ble_eq_true rfl) (c_X10_readLaterItem _ _ _) hf 58 rfl (fun w17 hf => ?_)
            refine k_iinc C dX10_readInto_58 2 rfl (by decide) (by decide) [(2, .int (v2 + (1 : Int32))), (0, rV (xg X) v0), (1, rV (xg X) v1)] rfl 61 rfl ?_
            refine k_goto C dX10_readInto_61 27 rfl ?_
            refine k_sub [1, 2, 0] rfl ?_
            exact ih27 _ _ _ w17 hf
  unfold f_X10_readInto at hf
  refine k_sub (lv2 := [(0, rV (xg X) p0), (1, rV (xg X) p1)]) [0, 1] rfl ?_
  refine k_aload_n C dX10_readInto_0 0 rfl rfl 1 rfl ?_
  refine k_iconst C dX10_readInto_1 (0) (by decide) 2 rfl ?_
  refine k_putI C fe_X10_19 rfl rfl dX10_readInto_2 hf 5 rfl (fun w19 _ hf => ?_)
  refine k_aload_n C dX10_readInto_5 0 rfl rfl 6 rfl ?_
  refine k_iconst C dX10_readInto_6 (-1) (by decide) 7 rfl ?_
  refine k_putI C fe_X10_22 rfl rfl dX10_readInto_7 hf 10 rfl (fun w20 _ hf => ?_)
  refine k_aload_n C dX10_readInto_10 1 rfl rfl 11 rfl ?_
  refine k_bipush C dX10_readInto_11 (60) (by decide) 13 rfl ?_
  refine k_callV_v C ye_X2_startAnew ve_X10_25 ⟨rfl, rfl⟩ ⟨rfl, rfl⟩ dX10_readInto_13 [.int (60 : Int32)] rfl rfl (Nat.le_of_ble_eq_true rfl) (c_X2_startAnew _ _ _) hf 16 rfl (fun w21 hf => ?_)
  refine k_aload_n C dX10_readInto_16 0 rfl rfl 17 rfl ?_
  refine k_callV_v C ye_X10_passBlanks ve_X10_31 ⟨rfl, rfl⟩ ⟨rfl, rfl⟩ dX10_readInto_17 [] rfl rfl (Nat.le_of_ble_eq_true rfl) (c_X10_passBlanks _ _) hf 20 rfl (fun w23 hf => ?_)
  refine k_aload_n C dX10_readInto_20 0 rfl rfl 21 rfl ?_
  refine k_aload_n C dX10_readInto_21 1 rfl rfl 22 rfl ?_
  refine k_callV_v C ye_X10_readFirstItem ve_X10_34 ⟨rfl, rfl⟩ ⟨rfl, rfl⟩ dX10_readInto_22 [rV (xg X) p1] rfl rfl (Nat.le_of_ble_eq_true rfl) (c_X10_readFirstItem _ _ _) hf 25 rfl (fun w25 hf => ?_)
  refine k_iconst C dX10_readInto_25 (1) (by decide) 26 rfl ?_
  refine k_istore_n C dX10_readInto_26 rfl (by decide) [(2, .int (1 : Int32)), (0, rV (xg X) p0), (1, rV (xg X) p1)] rfl 27 rfl ?_
  refine k_sub [1, 2, 0] rfl ?_
  exact t_27 4096 _ _ _ w25 hf
theorem dX11_read_0 : decode cX11_read 0 = .ok (.aload_n 0, 1) := by decide +kernel
theorem dX11_read_1 : decode cX11_read 1 = .ok (.getfield 50, 3) := by decide +kernel
theorem dX11_read_4 : decode cX11_read 4 = .ok (.aload_n 0, 1) := by decide +kernel
theorem dX11_read_5 : decode cX11_read 5 = .ok (.getfield 36, 3) := by decide +kernel
theorem dX11_read_8 : decode cX11_read 8 = .ok (.invokevirtual 105, 3) := by decide +kernel
theorem dX11_read_11 : decode cX11_read 11 = .ok (.istore_n 1, 1) := by decide +kernel
theorem dX11_read_12 : decode cX11_read 12 = .ok (.aload_n 0, 1) := by decide +kernel
theorem dX11_read_13 : decode cX11_read 13 = .ok (.getfield 50, 3) := by decide +kernel
theorem dX11_read_16 : decode cX11_read 16 = .ok (.getfield 109, 3) := by decide +kernel
theorem dX11_read_19 : decode cX11_read 19 = .ok (.iconst (-1), 1) := by decide +kernel
theorem dX11_read_20 : decode cX11_read 20 = .ok (.if_icmp .eq 14, 3) := by decide +kernel
theorem dX11_read_23 : decode cX11_read 23 = .ok (.bipush (-10), 2) := by decide +kernel
theorem dX11_read_25 : decode cX11_read 25 = .ok (.aload_n 0, 1) := by decide +kernel
theorem dX11_read_26 : decode cX11_read 26 = .ok (.getfield 50, 3) := by decide +kernel
theorem dX11_read_29 : decode cX11_read 29 = .ok (.getfield 109, 3) := by decide +kernel
theorem dX11_read_32 : decode cX11_read 32 = .ok (.isub, 1) := by decide +kernel
theorem dX11_read_33 : decode cX11_read 33 = .ok (.ireturn, 1) := by decide +kernel
theorem dX11_read_34 : decode cX11_read 34 = .ok (.aload_n 0, 1) := by decide +kernel
theorem dX11_read_35 : decode cX11_read 35 = .ok (.getfield 30, 3) := by decide +kernel
theorem dX11_read_38 : decode cX11_read 38 = .ok (.astore_n 2, 1) := by decide +kernel
theorem dX11_read_39 : decode cX11_read 39 = .ok (.aload_n 0, 1) := by decide +kernel
theorem dX11_read_40 : decode cX11_read 40 = .ok (.aload_n 0, 1) := by decide +kernel
theorem dX11_read_41 : decode cX11_read 41 = .ok (.getfield 36, 3) := by decide +kernel
theorem dX11_read_44 : decode cX11_read 44 = .ok (.putfield 30, 3) := by decide +kernel
theorem dX11_read_47 : decode cX11_read 47 = .ok (.aload_n 0, 1) := by decide +kernel
theorem dX11_read_48 : decode cX11_read 48 = .ok (.aload_n 2, 1) := by decide +kernel
theorem dX11_read_49 : decode cX11_read 49 = .ok (.putfield 36, 3) := by decide +kernel
theorem dX11_read_52 : decode cX11_read 52 = .ok (.iload_n 1, 1) := by decide +kernel
theorem dX11_read_53 : decode cX11_read 53 = .ok (.ireturn, 1) := by decide +kernel
set_option maxRecDepth 100000 in
set_option maxHeartbeats 4000000 in
theorem c_X11_read {g : Gv} {l : Launch} (p0 : Nat) (w0 : Wd) (rz : Int32) (wz : Wd) (hf : f_X11_read p0 w0 = some (rz, wz)) : MI g l yX11_read cX11_read 3 .int 7 187 [rV g p0] w0 rz wz := by
  refine mi_of RX11 (by decide) rfl (Nat.le_of_ble_eq_true rfl) ?_
  intro X hg hll C hr h0
  subst hg; subst hll
  unfold f_X11_read at hf
  refine k_sub (lv2 := [(0, rV (xg X) p0)]) [0] rfl ?_
  refine k_aload_n C dX11_read_0 0 rfl rfl 1 rfl ?_
  refine k_getR C fe_X11_50 rfl dX11_read_1 hf 4 rfl (fun r13 hf => ?_)
  refine k_aload_n C dX11_read_4 0 rfl rfl 5 rfl ?_
  refine k_getR C fe_X11_36 rfl dX11_read_5 hf 8 rfl (fun r14 hf => ?_)
  refine k_callV_i C ye_X10_readInto ve_X11_105 ⟨rfl, rfl⟩ ⟨rfl, rfl⟩ dX11_read_8 [rV (xg X) r14] rfl rfl (Nat.le_of_ble_eq_true rfl) (c_X10_readInto _ _ _) hf 11 rfl (fun x16 w15 hf => ?_)
  refine k_istore_n C dX11_read_11 rfl (by decide) [(1, .int x16), (0, rV (xg X) p0)] rfl 12 rfl ?_
  refine k_aload_n C dX11_read_12 1 rfl rfl 13 rfl ?_
  refine k_getR C fe_X11_50 rfl dX11_read_13 hf 16 rfl (fun r17 hf => ?_)
  refine k_getI C fe_X11_109 rfl dX11_read_16 hf 19 rfl (fun x18 hf => ?_)
  refine k_iconst C dX11_read_19 (-1) (by decide) 20 rfl ?_
  refine k_icmp_eq C dX11_read_20 hf 34 rfl 23 rfl (fun hf => ?_) (fun hf => ?_)
  · refine k_aload_n C dX11_read_34 1 rfl rfl 35 rfl ?_
    refine k_getR C fe_X11_30 rfl dX11_read_35 hf 38 rfl (fun r19 hf => ?_)
    refine k_astore_n C dX11_read_38 rfl rfl (by decide) [(2, rV (xg X) r19), (1, .int x16), (0, rV (xg X) p0)] rfl 39 rfl ?_
    refine k_aload_n C dX11_read_39 2 rfl rfl 40 rfl ?_
    refine k_aload_n C dX11_read_40 2 rfl rfl 41 rfl ?_
    refine k_getR C fe_X11_36 rfl dX11_read_41 hf 44 rfl (fun r20 hf => ?_)
    refine k_putR C fe_X11_30 rfl rfl dX11_read_44 hf 47 rfl (fun w21 _ hf => ?_)
    refine k_aload_n C dX11_read_47 2 rfl rfl 48 rfl ?_
    refine k_aload_n C dX11_read_48 0 rfl rfl 49 rfl ?_
    refine k_putR C fe_X11_36 rfl rfl dX11_read_49 hf 52 rfl (fun w22 _ hf => ?_)
    refine k_iload_n C dX11_read_52 1 rfl 53 rfl ?_
    exact k_iret C hr h0 dX11_read_53 hf
  · refine k_bipush C dX11_read_23 (-10) (by decide) 25 rfl ?_
    refine k_aload_n C dX11_read_25 1 rfl rfl 26 rfl ?_
    refine k_getR C fe_X11_50 rfl dX11_read_26 hf 29 rfl (fun r23 hf => ?_)
    refine k_getI C fe_X11_109 rfl dX11_read_29 hf 32 rfl (fun x24 hf => ?_)
    refine k_isub C dX11_read_32 33 rfl ?_
    exact k_iret C hr h0 dX11_read_33 hf
