theorem dX2_startAnew_0 : decode cX2_startAnew 0 = .ok (.aload_n 0, 1) := by decide +kernel
theorem dX2_startAnew_1 : decode cX2_startAnew 1 = .ok (.iload_n 1, 1) := by decide +kernel
theorem dX2_startAnew_2 : decode cX2_startAnew 2 = .ok (.putfield 35, 3) := by decide +kernel
theorem dX2_startAnew_5 : decode cX2_startAnew 5 = .ok (.aload_n 0, 1) := by decide +kernel
theorem dX2_startAnew_6 : decode cX2_startAnew 6 = .ok (.iconst 0, 1) := by decide +kernel
theorem dX2_startAnew_7 : decode cX2_startAnew 7 = .ok (.putfield 39, 3) := by decide +kernel
theorem dX2_startAnew_10 : decode cX2_startAnew 10 = .ok (.aload_n 0, 1) := by decide +kernel
theorem dX2_startAnew_11 : decode cX2_startAnew 11 = .ok (.iconst (-1), 1) := by decide +kernel
theorem dX2_startAnew_12 : decode cX2_startAnew 12 = .ok (.putfield 42, 3) := by decide +kernel
theorem dX2_startAnew_15 : decode cX2_startAnew 15 = .ok (.aload_n 0, 1) := by decide +kernel
theorem dX2_startAnew_16 : decode cX2_startAnew 16 = .ok (.iconst 0, 1) := by decide +kernel
theorem dX2_startAnew_17 : decode cX2_startAnew 17 = .ok (.putfield 45, 3) := by decide +kernel
theorem dX2_startAnew_20 : decode cX2_startAnew 20 = .ok (.aload_n 0, 1) := by decide +kernel
theorem dX2_startAnew_21 : decode cX2_startAnew 21 = .ok (.iconst 0, 1) := by decide +kernel
theorem dX2_startAnew_22 : decode cX2_startAnew 22 = .ok (.putfield 48, 3) := by decide +kernel
theorem dX2_startAnew_25 : decode cX2_startAnew 25 = .ok (.aload_n 0, 1) := by decide +kernel
theorem dX2_startAnew_26 : decode cX2_startAnew 26 = .ok (.iconst 0, 1) := by decide +kernel
theorem dX2_startAnew_27 : decode cX2_startAnew 27 = .ok (.putfield 51, 3) := by decide +kernel
theorem dX2_startAnew_30 : decode cX2_startAnew 30 = .ok (.aload_n 0, 1) := by decide +kernel
theorem dX2_startAnew_31 : decode cX2_startAnew 31 = .ok (.iconst 0, 1) := by decide +kernel
theorem dX2_startAnew_32 : decode cX2_startAnew 32 = .ok (.putfield 54, 3) := by decide +kernel
theorem dX2_startAnew_35 : decode cX2_startAnew 35 = .ok (.aload_n 0, 1) := by decide +kernel
theorem dX2_startAnew_36 : decode cX2_startAnew 36 = .ok (.iconst 0, 1) := by decide +kernel
theorem dX2_startAnew_37 : decode cX2_startAnew 37 = .ok (.putfield 57, 3) := by decide +kernel
theorem dX2_startAnew_40 : decode cX2_startAnew 40 = .ok (.aload_n 0, 1) := by decide +kernel
theorem dX2_startAnew_41 : decode cX2_startAnew 41 = .ok (.iconst 0, 1) := by decide +kernel
theorem dX2_startAnew_42 : decode cX2_startAnew 42 = .ok (.putfield 60, 3) := by decide +kernel
theorem dX2_startAnew_45 : decode cX2_startAnew 45 = .ok (.aload_n 0, 1) := by decide +kernel
theorem dX2_startAnew_46 : decode cX2_startAnew 46 = .ok (.getfield 26, 3) := by decide +kernel
theorem dX2_startAnew_49 : decode cX2_startAnew 49 = .ok (.iconst 0, 1) := by decide +kernel
theorem dX2_startAnew_50 : decode cX2_startAnew 50 = .ok (.putfield 63, 3) := by decide +kernel
theorem dX2_startAnew_53 : decode cX2_startAnew 53 = .ok (.aload_n 0, 1) := by decide +kernel
theorem dX2_startAnew_54 : decode cX2_startAnew 54 = .ok (.getfield 26, 3) := by decide +kernel
theorem dX2_startAnew_57 : decode cX2_startAnew 57 = .ok (.iconst 0, 1) := by decide +kernel
theorem dX2_startAnew_58 : decode cX2_startAnew 58 = .ok (.putfield 66, 3) := by decide +kernel
theorem dX2_startAnew_61 : decode cX2_startAnew 61 = .ok (.return_, 1) := by decide +kernel
set_option maxRecDepth 100000 in
set_option maxHeartbeats 4000000 in
theorem c_X2_startAnew {g : Gv} {l : Launch} (p0 : Nat) (p1 : Int32) (w0 : Wd) (wz : Wd) (hf : f_X2_startAnew p0 p1 w0 = some ((), wz)) : MV g l yX2_startAnew cX2_startAnew 2 0 0 0 0 [rV g p0, .int p1] w0 wz := by
  refine mv_of RX2 (by decide) rfl (Nat.le_of_ble_eq_true rfl) ?_
  intro X hg hll C hr h0 hin
  subst hg; subst hll
  unfold f_X2_startAnew at hf
  refine k_sub (lv2 := [(0, rV (xg X) p0), (1, .int p1)]) [0, 1] rfl ?_
  refine k_aload_n C dX2_startAnew_0 0 rfl rfl 1 rfl ?_
  refine k_iload_n C dX2_startAnew_1 1 rfl 2 rfl ?_
  refine k_putI C fe_X2_35 rfl rfl dX2_startAnew_2 hf 5 rfl (fun w14 _ hf => ?_)
  refine k_aload_n C dX2_startAnew_5 0 rfl rfl 6 rfl ?_
  refine k_iconst C dX2_startAnew_6 (0) (by decide) 7 rfl ?_
  refine k_putI C fe_X2_39 rfl rfl dX2_startAnew_7 hf 10 rfl (fun w15 _ hf => ?_)
  refine k_aload_n C dX2_startAnew_10 0 rfl rfl 11 rfl ?_
  refine k_iconst C dX2_startAnew_11 (-1) (by decide) 12 rfl ?_
  refine k_putI C fe_X2_42 rfl rfl dX2_startAnew_12 hf 15 rfl (fun w16 _ hf => ?_)
  refine k_aload_n C dX2_startAnew_15 0 rfl rfl 16 rfl ?_
  refine k_iconst C dX2_startAnew_16 (0) (by decide) 17 rfl ?_
  refine k_putI C fe_X2_45 rfl rfl dX2_startAnew_17 hf 20 rfl (fun w17 _ hf => ?_)
  refine k_aload_n C dX2_startAnew_20 0 rfl rfl 21 rfl ?_
  refine k_iconst C dX2_startAnew_21 (0) (by decide) 22 rfl ?_
  refine k_putI C fe_X2_48 rfl rfl dX2_startAnew_22 hf 25 rfl (fun w18 _ hf => ?_)
  refine k_aload_n C dX2_startAnew_25 0 rfl rfl 26 rfl ?_
  refine k_iconst C dX2_startAnew_26 (0) (by decide) 27 rfl ?_
  refine k_putI C fe_X2_51 rfl rfl dX2_startAnew_27 hf 30 rfl (fun w19 _ hf => ?_)
  refine k_aload_n C dX2_startAnew_30 0 rfl rfl 31 rfl ?_
  refine k_iconst C dX2_startAnew_31 (0) (by decide) 32 rfl ?_
  refine k_putI C fe_X2_54 rfl rfl dX2_startAnew_32 hf 35 rfl (fun w20 _ hf => ?_)
  refine k_aload_n C dX2_startAnew_35 0 rfl rfl 36 rfl ?_
  refine k_iconst C dX2_startAnew_36 (0) (by decide) 37 rfl ?_
  refine k_putI C fe_X2_57 rfl rfl dX2_startAnew_37 hf 40 rfl (fun w21 _ hf => ?_)
  refine k_aload_n C dX2_startAnew_40 0 rfl rfl 41 rfl ?_
  refine k_iconst C dX2_startAnew_41 (0) (by decide) 42 rfl ?_
  refine k_putI C fe_X2_60 rfl rfl dX2_startAnew_42 hf 45 rfl (fun w22 _ hf => ?_)
  refine k_aload_n C dX2_startAnew_45 0 rfl rfl 46 rfl ?_
  refine k_getR C fe_X2_26 rfl dX2_startAnew_46 hf 49 rfl (fun r23 hf => ?_)
  refine k_iconst C dX2_startAnew_49 (0) (by decide) 50 rfl ?_
  refine k_putI C fe_X2_63 rfl rfl dX2_startAnew_50 hf 53 rfl (fun w24 _ hf => ?_)
  refine k_aload_n C dX2_startAnew_53 0 rfl rfl 54 rfl ?_
  refine k_getR C fe_X2_26 rfl dX2_startAnew_54 hf 57 rfl (fun r25 hf => ?_)
  refine k_iconst C dX2_startAnew_57 (0) (by decide) 58 rfl ?_
  refine k_putI C fe_X2_66 rfl rfl dX2_startAnew_58 hf 61 rfl (fun w26 _ hf => ?_)
  exact k_vret C hr h0 dX2_startAnew_61 hf
theorem dX7_fillFewest_0 : decode cX7_fillFewest 0 = .ok (.aload_n 0, 1) := by decide +kernel
theorem dX7_fillFewest_1 : decode cX7_fillFewest 1 = .ok (.getfield 18, 3) := by decide +kernel
theorem dX7_fillFewest_4 : decode cX7_fillFewest 4 = .ok (.iconst 0, 1) := by decide +kernel
theorem dX7_fillFewest_5 : decode cX7_fillFewest 5 = .ok (.iconst 0, 1) := by decide +kernel
theorem dX7_fillFewest_6 : decode cX7_fillFewest 6 = .ok (.iastore, 1) := by decide +kernel
theorem dX7_fillFewest_7 : decode cX7_fillFewest 7 = .ok (.iconst 1, 1) := by decide +kernel
theorem dX7_fillFewest_8 : decode cX7_fillFewest 8 = .ok (.istore_n 3, 1) := by decide +kernel
theorem dX7_fillFewest_9 : decode cX7_fillFewest 9 = .ok (.iload_n 3, 1) := by decide +kernel
theorem dX7_fillFewest_10 : decode cX7_fillFewest 10 = .ok (.iload_n 2, 1) := by decide +kernel
theorem dX7_fillFewest_11 : decode cX7_fillFewest 11 = .ok (.if_icmp .gt 85, 3) := by decide +kernel
theorem dX7_fillFewest_14 : decode cX7_fillFewest 14 = .ok (.aload_n 0, 1) := by decide +kernel
theorem dX7_fillFewest_15 : decode cX7_fillFewest 15 = .ok (.getfield 18, 3) := by decide +kernel
theorem dX7_fillFewest_18 : decode cX7_fillFewest 18 = .ok (.iload_n 3, 1) := by decide +kernel
theorem dX7_fillFewest_19 : decode cX7_fillFewest 19 = .ok (.sipush 1000, 3) := by decide +kernel
theorem dX7_fillFewest_22 : decode cX7_fillFewest 22 = .ok (.iastore, 1) := by decide +kernel
theorem dX7_fillFewest_23 : decode cX7_fillFewest 23 = .ok (.iconst 0, 1) := by decide +kernel
theorem dX7_fillFewest_24 : decode cX7_fillFewest 24 = .ok (.istore 4, 2) := by decide +kernel
theorem dX7_fillFewest_26 : decode cX7_fillFewest 26 = .ok (.iload 4, 2) := by decide +kernel
theorem dX7_fillFewest_28 : decode cX7_fillFewest 28 = .ok (.iload_n 1, 1) := by decide +kernel
theorem dX7_fillFewest_29 : decode cX7_fillFewest 29 = .ok (.if_icmp .ge 61, 3) := by decide +kernel
theorem dX7_fillFewest_32 : decode cX7_fillFewest 32 = .ok (.aload_n 0, 1) := by decide +kernel
theorem dX7_fillFewest_33 : decode cX7_fillFewest 33 = .ok (.getfield 15, 3) := by decide +kernel
theorem dX7_fillFewest_36 : decode cX7_fillFewest 36 = .ok (.iload 4, 2) := by decide +kernel
theorem dX7_fillFewest_38 : decode cX7_fillFewest 38 = .ok (.iaload, 1) := by decide +kernel
theorem dX7_fillFewest_39 : decode cX7_fillFewest 39 = .ok (.ifCond .le 45, 3) := by decide +kernel
theorem dX7_fillFewest_42 : decode cX7_fillFewest 42 = .ok (.aload_n 0, 1) := by decide +kernel
theorem dX7_fillFewest_43 : decode cX7_fillFewest 43 = .ok (.getfield 15, 3) := by decide +kernel
theorem dX7_fillFewest_46 : decode cX7_fillFewest 46 = .ok (.iload 4, 2) := by decide +kernel
theorem dX7_fillFewest_48 : decode cX7_fillFewest 48 = .ok (.iaload, 1) := by decide +kernel
theorem dX7_fillFewest_49 : decode cX7_fillFewest 49 = .ok (.iload_n 3, 1) := by decide +kernel
theorem dX7_fillFewest_50 : decode cX7_fillFewest 50 = .ok (.if_icmp .gt 34, 3) := by decide +kernel
theorem dX7_fillFewest_53 : decode cX7_fillFewest 53 = .ok (.aload_n 0, 1) := by decide +kernel
theorem dX7_fillFewest_54 : decode cX7_fillFewest 54 = .ok (.getfield 18, 3) := by decide +kernel
theorem dX7_fillFewest_57 : decode cX7_fillFewest 57 = .ok (.iload_n 3, 1) := by decide +kernel
theorem dX7_fillFewest_58 : decode cX7_fillFewest 58 = .ok (.aload_n 0, 1) := by decide +kernel
theorem dX7_fillFewest_59 : decode cX7_fillFewest 59 = .ok (.getfield 18, 3) := by decide +kernel
theorem dX7_fillFewest_62 : decode cX7_fillFewest 62 = .ok (.iload_n 3, 1) := by decide +kernel
theorem dX7_fillFewest_63 : decode cX7_fillFewest 63 = .ok (.iaload, 1) := by decide +kernel
theorem dX7_fillFewest_64 : decode cX7_fillFewest 64 = .ok (.aload_n 0, 1) := by decide +kernel
theorem dX7_fillFewest_65 : decode cX7_fillFewest 65 = .ok (.getfield 18, 3) := by decide +kernel
theorem dX7_fillFewest_68 : decode cX7_fillFewest 68 = .ok (.iload_n 3, 1) := by decide +kernel
theorem dX7_fillFewest_69 : decode cX7_fillFewest 69 = .ok (.aload_n 0, 1) := by decide +kernel
theorem dX7_fillFewest_70 : decode cX7_fillFewest 70 = .ok (.getfield 15, 3) := by decide +kernel
theorem dX7_fillFewest_73 : decode cX7_fillFewest 73 = .ok (.iload 4, 2) := by decide +kernel
theorem dX7_fillFewest_75 : decode cX7_fillFewest 75 = .ok (.iaload, 1) := by decide +kernel
theorem dX7_fillFewest_76 : decode cX7_fillFewest 76 = .ok (.isub, 1) := by decide +kernel
theorem dX7_fillFewest_77 : decode cX7_fillFewest 77 = .ok (.iaload, 1) := by decide +kernel
theorem dX7_fillFewest_78 : decode cX7_fillFewest 78 = .ok (.iconst 1, 1) := by decide +kernel
theorem dX7_fillFewest_79 : decode cX7_fillFewest 79 = .ok (.iadd, 1) := by decide +kernel
theorem dX7_fillFewest_80 : decode cX7_fillFewest 80 = .ok (.invokestatic 69, 3) := by decide +kernel
theorem dX7_fillFewest_83 : decode cX7_fillFewest 83 = .ok (.iastore, 1) := by decide +kernel
theorem dX7_fillFewest_84 : decode cX7_fillFewest 84 = .ok (.iinc 4 1, 3) := by decide +kernel
theorem dX7_fillFewest_87 : decode cX7_fillFewest 87 = .ok (.goto (-61), 3) := by decide +kernel
theorem dX7_fillFewest_90 : decode cX7_fillFewest 90 = .ok (.iinc 3 1, 3) := by decide +kernel
theorem dX7_fillFewest_93 : decode cX7_fillFewest 93 = .ok (.goto (-84), 3) := by decide +kernel
theorem dX7_fillFewest_96 : decode cX7_fillFewest 96 = .ok (.return_, 1) := by decide +kernel
set_option maxRecDepth 100000 in
set_option maxHeartbeats 4000000 in
theorem c_X7_fillFewest {g : Gv} {l : Launch} (p0 : Nat) (p1 : Int32) (p2 : Int32) (w0 : Wd) (wz : Wd) (hf : f_X7_fillFewest p0 p1 p2 w0 = some ((), wz)) : MV g l yX7_fillFewest cX7_fillFewest 5 1 23 0 0 [rV g p0, .int p1, .int p2] w0 wz := by
  refine mv_of RX7 (by decide) rfl (Nat.le_of_ble_eq_true rfl) ?_
  intro X hg hll C hr h0 hin
  subst hg; subst hll
  have t_9 : ∀ (n : Nat) (v0 : Nat) (v1 : Int32) (v2 : Int32) (v3 : Int32) (w : Wd), f_X7_fillFewest_9 n v0 v1 v2 v3 w = some ((), wz) → Wk X 0 0 (QV X 0 0 w0 wz) w [(0, rV (xg X) v0), (1, .int v1), (2, .int v2), (3, .int v3)] 9 [] := by
    intro n
    induction n with
    | zero => intro v0 v1 v2 v3 w hf; rw [f_X7_fillFewest_9] at hf; cases hf
    | succ n9 ih9 =>
      have t_26 : ∀ (n : Nat) (v0 : Nat) (v1 : Int32) (v2 : Int32) (v3 : Int32) (v4 : Int32) (w : Wd), f_X7_fillFewest_26 (f_X7_fillFewest_9 n9) n v0 v1 v2 v3 v4 w = some ((), wz) → Wk X 0 0 (QV X 0 0 w0 wz) w [(0, rV (xg X) v0), (1, .int v1), (2, .int v2), (3, .int v3), (4, .int v4)] 26 [] := by
        intro n
        induction n with
        | zero => intro v0 v1 v2 v3 v4 w hf; rw [f_X7_fillFewest_26] at hf; cases hf
        | succ n26 ih26 =>
          have t_84 : ∀ (v0 : Nat) (v1 : Int32) (v2 : Int32) (v3 : Int32) (v4 : Int32) (w : Wd), f_X7_fillFewest_84 (f_X7_fillFewest_9 n9) (f_X7_fillFewest_26 (f_X7_fillFewest_9 n9) n26) v0 v1 v2 v3 v4 w = some ((), wz) → Wk X 0 0 (QV X 0 0 w0 wz) w [(0, rV (xg X) v0), (1, .int v1), (2, .int v2), (3, .int v3), (4, .int v4)] 84 [] := by
            intro v0 v1 v2 v3 v4 w hf
            unfold f_X7_fillFewest_84 at hf
            refine k_iinc C dX7_fillFewest_84 4 rfl (by decide) (by decide) [(4, .int (v4 + (1 : Int32))), (0, rV (xg X) v0), (1, .int v1), (2, .int v2), (3, .int v3)] rfl 87 rfl ?_
            refine k_goto C dX7_fillFewest_87 26 rfl ?_
            refine k_sub [1, 2, 3, 4, 0] rfl ?_
            exact ih26 _ _ _ _ _ w hf
          intro v0 v1 v2 v3 v4 w hf
          rw [f_X7_fillFewest_26] at hf
          refine k_iload C dX7_fillFewest_26 4 rfl 28 rfl ?_
          refine k_iload_n C dX7_fillFewest_28 1 rfl 29 rfl ?_
          refine k_icmp_ge C dX7_fillFewest_29 hf 90 rfl 32 rfl (fun hf => ?_) (fun hf => ?_)
          · refine k_iinc C dX7_fillFewest_90 3 rfl (by decide) (by decide) [(3, .int (v3 + (1 : Int32))), (0, rV (xg X) v0), (1, .int v1), (2, .int v2), (4, .int v4)] rfl 93 rfl ?_
            refine k_goto C dX7_fillFewest_93 9 rfl ?_
            refine k_sub [1, 2, 3, 0] rfl ?_
            exact ih9 _ _ _ _ w hf
          · refine k_aload_n C dX7_fillFewest_32 0 rfl rfl 33 rfl ?_
            refine k_getR C fe_X7_15 rfl dX7_fillFewest_33 hf 36 rfl (fun r17 hf => ?_)
            refine k_iload C dX7_fillFewest_36 4 rfl 38 rfl ?_
            refine k_iald C dX7_fillFewest_38 hf 39 rfl (fun x18 hf => ?_)
            refine k_if_le C dX7_fillFewest_39 hf 84 rfl 42 rfl (fun hf => ?_) (fun hf => ?_)
            · refine k_sub [0, 1, 2, 3, 4] rfl ?_
              exact t_84 _ _ _ _ _ w hf
            · refine k_aload_n C dX7_fillFewest_42 0 rfl rfl 43 rfl ?_
              refine k_getR C fe_X7_15 rfl dX7_fillFewest_43 hf 46 rfl (fun r19 hf => ?_)
              refine k_iload C dX7_fillFewest_46 4 rfl 48 rfl ?_
              refine k_iald C dX7_fillFewest_48 hf 49 rfl (fun x20 hf => ?_)
              refine k_iload_n C dX7_fillFewest_49 3 rfl 50 rfl ?_
              refine k_icmp_gt C dX7_fillFewest_50 hf 84 rfl 53 rfl (fun hf => ?_) (fun hf => ?_)
              · refine k_sub [0, 1, 2, 3, 4] rfl ?_
                exact t_84 _ _ _ _ _ w hf
              · refine k_aload_n C dX7_fillFewest_53 0 rfl rfl 54 rfl ?_
                refine k_getR C fe_X7_18 rfl dX7_fillFewest_54 hf 57 rfl (fun r21 hf => ?_)
                refine k_iload_n C dX7_fillFewest_57 3 rfl 58 rfl ?_
                refine k_aload_n C dX7_fillFewest_58 0 rfl rfl 59 rfl ?_
                refine k_getR C fe_X7_18 rfl dX7_fillFewest_59 hf 62 rfl (fun r22 hf => ?_)
                refine k_iload_n C dX7_fillFewest_62 3 rfl 63 rfl ?_
                refine k_iald C dX7_fillFewest_63 hf 64 rfl (fun x23 hf => ?_)
                refine k_aload_n C dX7_fillFewest_64 0 rfl rfl 65 rfl ?_
                refine k_getR C fe_X7_18 rfl dX7_fillFewest_65 hf 68 rfl (fun r24 hf => ?_)
                refine k_iload_n C dX7_fillFewest_68 3 rfl 69 rfl ?_
                refine k_aload_n C dX7_fillFewest_69 0 rfl rfl 70 rfl ?_
                refine k_getR C fe_X7_15 rfl dX7_fillFewest_70 hf 73 rfl (fun r25 hf => ?_)
                refine k_iload C dX7_fillFewest_73 4 rfl 75 rfl ?_
                refine k_iald C dX7_fillFewest_75 hf 76 rfl (fun x26 hf => ?_)
                refine k_isub C dX7_fillFewest_76 77 rfl ?_
                refine k_iald C dX7_fillFewest_77 hf 78 rfl (fun x27 hf => ?_)
                refine k_iconst C dX7_fillFewest_78 (1) (by decide) 79 rfl ?_
                refine k_iadd C dX7_fillFewest_79 80 rfl ?_
                refine k_mmin C mm_X7_69 mms_mmin mmi mmc_mmin (Nat.le_of_ble_eq_true rfl) (Nat.le_of_ble_eq_true rfl) ⟨rfl, rfl⟩ dX7_fillFewest_80 83 rfl ?_
                refine k_iast C dX7_fillFewest_83 hf 84 rfl (fun w28 _ hf => ?_)
                refine k_sub [0, 1, 2, 3, 4] rfl ?_
                exact t_84 _ _ _ _ _ w28 hf
      intro v0 v1 v2 v3 w hf
      rw [f_X7_fillFewest_9] at hf
      refine k_iload_n C dX7_fillFewest_9 3 rfl 10 rfl ?_
      refine k_iload_n C dX7_fillFewest_10 2 rfl 11 rfl ?_
      refine k_icmp_gt C dX7_fillFewest_11 hf 96 rfl 14 rfl (fun hf => ?_) (fun hf => ?_)
      · exact k_vret C hr h0 dX7_fillFewest_96 hf
      · refine k_aload_n C dX7_fillFewest_14 0 rfl rfl 15 rfl ?_
        refine k_getR C fe_X7_18 rfl dX7_fillFewest_15 hf 18 rfl (fun r29 hf => ?_)
        refine k_iload_n C dX7_fillFewest_18 3 rfl 19 rfl ?_
        refine k_sipush C dX7_fillFewest_19 (1000) (by decide) 22 rfl ?_
        refine k_iast C dX7_fillFewest_22 hf 23 rfl (fun w30 _ hf => ?_)
        refine k_iconst C dX7_fillFewest_23 (0) (by decide) 24 rfl ?_
        refine k_istore C dX7_fillFewest_24 (by decide) [(4, .int (0 : Int32)), (0, rV (xg X) v0), (1, .int v1), (2, .int v2), (3, .int v3)] rfl 26 rfl ?_
        refine k_sub [1, 2, 3, 4, 0] rfl ?_
        exact t_26 4096 _ _ _ _ _ w30 hf
  unfold f_X7_fillFewest at hf
  refine k_sub (lv2 := [(0, rV (xg X) p0), (1, .int p1), (2, .int p2)]) [0, 1, 2] rfl ?_
  refine k_aload_n C dX7_fillFewest_0 0 rfl rfl 1 rfl ?_
  refine k_getR C fe_X7_18 rfl dX7_fillFewest_1 hf 4 rfl (fun r31 hf => ?_)
  refine k_iconst C dX7_fillFewest_4 (0) (by decide) 5 rfl ?_
  refine k_iconst C dX7_fillFewest_5 (0) (by decide) 6 rfl ?_
  refine k_iast C dX7_fillFewest_6 hf 7 rfl (fun w32 _ hf => ?_)
  refine k_iconst C dX7_fillFewest_7 (1) (by decide) 8 rfl ?_
  refine k_istore_n C dX7_fillFewest_8 rfl (by decide) [(3, .int (1 : Int32)), (0, rV (xg X) p0), (1, .int p1), (2, .int p2)] rfl 9 rfl ?_
  refine k_sub [1, 2, 3, 0] rfl ?_
  exact t_9 4096 _ _ _ _ w32 hf
theorem dX7_fillYields_0 : decode cX7_fillYields 0 = .ok (.iconst 0, 1) := by decide +kernel
theorem dX7_fillYields_1 : decode cX7_fillYields 1 = .ok (.istore_n 2, 1) := by decide +kernel
theorem dX7_fillYields_2 : decode cX7_fillYields 2 = .ok (.iload_n 2, 1) := by decide +kernel
theorem dX7_fillYields_3 : decode cX7_fillYields 3 = .ok (.aload_n 1, 1) := by decide +kernel
theorem dX7_fillYields_4 : decode cX7_fillYields 4 = .ok (.getfield 42, 3) := by decide +kernel
theorem dX7_fillYields_7 : decode cX7_fillYields 7 = .ok (.if_icmp .ge 29, 3) := by decide +kernel
theorem dX7_fillYields_10 : decode cX7_fillYields 10 = .ok (.aload_n 0, 1) := by decide +kernel
theorem dX7_fillYields_11 : decode cX7_fillYields 11 = .ok (.getfield 15, 3) := by decide +kernel
theorem dX7_fillYields_14 : decode cX7_fillYields 14 = .ok (.iload_n 2, 1) := by decide +kernel
theorem dX7_fillYields_15 : decode cX7_fillYields 15 = .ok (.aload_n 1, 1) := by decide +kernel
theorem dX7_fillYields_16 : decode cX7_fillYields 16 = .ok (.getfield 56, 3) := by decide +kernel
theorem dX7_fillYields_19 : decode cX7_fillYields 19 = .ok (.iload_n 2, 1) := by decide +kernel
theorem dX7_fillYields_20 : decode cX7_fillYields 20 = .ok (.aaload, 1) := by decide +kernel
theorem dX7_fillYields_21 : decode cX7_fillYields 21 = .ok (.iconst 0, 1) := by decide +kernel
theorem dX7_fillYields_22 : decode cX7_fillYields 22 = .ok (.aload_n 1, 1) := by decide +kernel
theorem dX7_fillYields_23 : decode cX7_fillYields 23 = .ok (.getfield 60, 3) := by decide +kernel
theorem dX7_fillYields_26 : decode cX7_fillYields 26 = .ok (.invokevirtual 63, 3) := by decide +kernel
theorem dX7_fillYields_29 : decode cX7_fillYields 29 = .ok (.iastore, 1) := by decide +kernel
theorem dX7_fillYields_30 : decode cX7_fillYields 30 = .ok (.iinc 2 1, 3) := by decide +kernel
theorem dX7_fillYields_33 : decode cX7_fillYields 33 = .ok (.goto (-31), 3) := by decide +kernel
theorem dX7_fillYields_36 : decode cX7_fillYields 36 = .ok (.return_, 1) := by decide +kernel
set_option maxRecDepth 100000 in
set_option maxHeartbeats 4000000 in
theorem c_X7_fillYields {g : Gv} {l : Launch} (p0 : Nat) (p1 : Nat) (w0 : Wd) (wz : Wd) (hf : f_X7_fillYields p0 p1 w0 = some ((), wz)) : MV g l yX7_fillYields cX7_fillYields 3 4 92 0 0 [rV g p0, rV g p1] w0 wz := by
  refine mv_of RX7 (by decide) rfl (Nat.le_of_ble_eq_true rfl) ?_
  intro X hg hll C hr h0 hin
  subst hg; subst hll
  have t_2 : ∀ (n : Nat) (v0 : Nat) (v1 : Nat) (v2 : Int32) (w : Wd), f_X7_fillYields_2 n v0 v1 v2 w = some ((), wz) → Wk X 0 0 (QV X 0 0 w0 wz) w [(0, rV (xg X) v0), (1, rV (xg X) v1), (2, .int v2)] 2 [] := by
    intro n
    induction n with
    | zero => intro v0 v1 v2 w hf; rw [f_X7_fillYields_2] at hf; cases hf
    | succ n2 ih2 =>
      intro v0 v1 v2 w hf
      rw [f_X7_fillYields_2] at hf
      refine k_iload_n C dX7_fillYields_2 2 rfl 3 rfl ?_
      refine k_aload_n C dX7_fillYields_3 1 rfl rfl 4 rfl ?_
      refine k_getI C fe_X7_42 rfl dX7_fillYields_4 hf 7 rfl (fun x9 hf => ?_)
      refine k_icmp_ge C dX7_fillYields_7 hf 36 rfl 10 rfl (fun hf => ?_) (fun hf => ?_)
      · exact k_vret C hr h0 dX7_fillYields_36 hf
      · refine k_aload_n C dX7_fillYields_10 0 rfl rfl 11 rfl ?_
        refine k_getR C fe_X7_15 rfl dX7_fillYields_11 hf 14 rfl (fun r10 hf => ?_)
        refine k_iload_n C dX7_fillYields_14 2 rfl 15 rfl ?_
        refine k_aload_n C dX7_fillYields_15 1 rfl rfl 16 rfl ?_
        refine k_getR C fe_X7_56 rfl dX7_fillYields_16 hf 19 rfl (fun r11 hf => ?_)
        refine k_iload_n C dX7_fillYields_19 2 rfl 20 rfl ?_
        refine k_aald16 C dX7_fillYields_20 hf 21 rfl (fun r12 hf => ?_)
        refine k_iconst C dX7_fillYields_21 (0) (by decide) 22 rfl ?_
        refine k_aload_n C dX7_fillYields_22 1 rfl rfl 23 rfl ?_
        refine k_getI C fe_X7_60 rfl dX7_fillYields_23 hf 26 rfl (fun x13 hf => ?_)
        refine k_callV_i C ye_X1_groundIn ve_X7_63 ⟨rfl, rfl⟩ ⟨rfl, rfl⟩ dX7_fillYields_26 [.int (0 : Int32), .int x13] rfl rfl (Nat.le_of_ble_eq_true rfl) (c_X1_groundIn _ _ _ _) hf 29 rfl (fun x15 w14 hf => ?_)
        refine k_iast C dX7_fillYields_29 hf 30 rfl (fun w16 _ hf => ?_)
        refine k_iinc C dX7_fillYields_30 2 rfl (by decide) (by decide) [(2, .int (v2 + (1 : Int32))), (0, rV (xg X) v0), (1, rV (xg X) v1)] rfl 33 rfl ?_
        refine k_goto C dX7_fillYields_33 2 rfl ?_
        refine k_sub [1, 2, 0] rfl ?_
        exact ih2 _ _ _ w16 hf
  unfold f_X7_fillYields at hf
  refine k_sub (lv2 := [(0, rV (xg X) p0), (1, rV (xg X) p1)]) [0, 1] rfl ?_
  refine k_iconst C dX7_fillYields_0 (0) (by decide) 1 rfl ?_
  refine k_istore_n C dX7_fillYields_1 rfl (by decide) [(2, .int (0 : Int32)), (0, rV (xg X) p0), (1, rV (xg X) p1)] rfl 2 rfl ?_
  refine k_sub [1, 2, 0] rfl ?_
  exact t_2 4096 _ _ _ w0 hf
theorem dX7_staysFewest_0 : decode cX7_staysFewest 0 = .ok (.iload_n 2, 1) := by decide +kernel
theorem dX7_staysFewest_1 : decode cX7_staysFewest 1 = .ok (.ifCond .le 31, 3) := by decide +kernel
theorem dX7_staysFewest_4 : decode cX7_staysFewest 4 = .ok (.iload_n 2, 1) := by decide +kernel
theorem dX7_staysFewest_5 : decode cX7_staysFewest 5 = .ok (.iload_n 1, 1) := by decide +kernel
theorem dX7_staysFewest_6 : decode cX7_staysFewest 6 = .ok (.if_icmp .gt 26, 3) := by decide +kernel
theorem dX7_staysFewest_9 : decode cX7_staysFewest 9 = .ok (.aload_n 0, 1) := by decide +kernel
theorem dX7_staysFewest_10 : decode cX7_staysFewest 10 = .ok (.getfield 18, 3) := by decide +kernel
theorem dX7_staysFewest_13 : decode cX7_staysFewest 13 = .ok (.iload_n 1, 1) := by decide +kernel
theorem dX7_staysFewest_14 : decode cX7_staysFewest 14 = .ok (.iload_n 2, 1) := by decide +kernel
theorem dX7_staysFewest_15 : decode cX7_staysFewest 15 = .ok (.isub, 1) := by decide +kernel
theorem dX7_staysFewest_16 : decode cX7_staysFewest 16 = .ok (.iaload, 1) := by decide +kernel
theorem dX7_staysFewest_17 : decode cX7_staysFewest 17 = .ok (.aload_n 0, 1) := by decide +kernel
theorem dX7_staysFewest_18 : decode cX7_staysFewest 18 = .ok (.getfield 18, 3) := by decide +kernel
theorem dX7_staysFewest_21 : decode cX7_staysFewest 21 = .ok (.iload_n 1, 1) := by decide +kernel
theorem dX7_staysFewest_22 : decode cX7_staysFewest 22 = .ok (.iaload, 1) := by decide +kernel
theorem dX7_staysFewest_23 : decode cX7_staysFewest 23 = .ok (.iconst 1, 1) := by decide +kernel
theorem dX7_staysFewest_24 : decode cX7_staysFewest 24 = .ok (.isub, 1) := by decide +kernel
theorem dX7_staysFewest_25 : decode cX7_staysFewest 25 = .ok (.if_icmp .ne 7, 3) := by decide +kernel
theorem dX7_staysFewest_28 : decode cX7_staysFewest 28 = .ok (.iconst 1, 1) := by decide +kernel
theorem dX7_staysFewest_29 : decode cX7_staysFewest 29 = .ok (.goto 4, 3) := by decide +kernel
theorem dX7_staysFewest_32 : decode cX7_staysFewest 32 = .ok (.iconst 0, 1) := by decide +kernel
theorem dX7_staysFewest_33 : decode cX7_staysFewest 33 = .ok (.ireturn, 1) := by decide +kernel
set_option maxRecDepth 100000 in
set_option maxHeartbeats 4000000 in
theorem c_X7_staysFewest {g : Gv} {l : Launch} (p0 : Nat) (p1 : Int32) (p2 : Int32) (w0 : Wd) (rz : Int32) (wz : Wd) (hf : f_X7_staysFewest p0 p1 p2 w0 = some (rz, wz)) : MI g l yX7_staysFewest cX7_staysFewest 3 .boolean 0 0 [rV g p0, .int p1, .int p2] w0 rz wz := by
  refine mi_of RX7 (by decide) rfl (Nat.le_of_ble_eq_true rfl) ?_
  intro X hg hll C hr h0
  subst hg; subst hll
  have t_33 : ∀ (s0 : Int32) (w : Wd), f_X7_staysFewest_33 s0 w = some (rz, wz) → Wk X 0 0 (QI X w0 rz wz) w [] 33 [.int s0] := by
    intro s0 w hf
    unfold f_X7_staysFewest_33 at hf
    exact k_zret C hr h0 dX7_staysFewest_33 hf
  have t_32 : ∀ (w : Wd), f_X7_staysFewest_32 w = some (rz, wz) → Wk X 0 0 (QI X w0 rz wz) w [] 32 [] := by
    intro w hf
    unfold f_X7_staysFewest_32 at hf
    refine k_iconst C dX7_staysFewest_32 (0) (by decide) 33 rfl ?_
    refine k_sub [] rfl ?_
    exact t_33 _ w hf
  unfold f_X7_staysFewest at hf
  refine k_sub (lv2 := [(0, rV (xg X) p0), (1, .int p1), (2, .int p2)]) [0, 1, 2] rfl ?_
  refine k_iload_n C dX7_staysFewest_0 2 rfl 1 rfl ?_
  refine k_if_le C dX7_staysFewest_1 hf 32 rfl 4 rfl (fun hf => ?_) (fun hf => ?_)
  · refine k_sub [] rfl ?_
    exact t_32 w0 hf
  · refine k_iload_n C dX7_staysFewest_4 2 rfl 5 rfl ?_
    refine k_iload_n C dX7_staysFewest_5 1 rfl 6 rfl ?_
    refine k_icmp_gt C dX7_staysFewest_6 hf 32 rfl 9 rfl (fun hf => ?_) (fun hf => ?_)
    · refine k_sub [] rfl ?_
      exact t_32 w0 hf
    · refine k_aload_n C dX7_staysFewest_9 0 rfl rfl 10 rfl ?_
      refine k_getR C fe_X7_18 rfl dX7_staysFewest_10 hf 13 rfl (fun r5 hf => ?_)
      refine k_iload_n C dX7_staysFewest_13 1 rfl 14 rfl ?_
      refine k_iload_n C dX7_staysFewest_14 2 rfl 15 rfl ?_
      refine k_isub C dX7_staysFewest_15 16 rfl ?_
      refine k_iald C dX7_staysFewest_16 hf 17 rfl (fun x6 hf => ?_)
      refine k_aload_n C dX7_staysFewest_17 0 rfl rfl 18 rfl ?_
      refine k_getR C fe_X7_18 rfl dX7_staysFewest_18 hf 21 rfl (fun r7 hf => ?_)
      refine k_iload_n C dX7_staysFewest_21 1 rfl 22 rfl ?_
      refine k_iald C dX7_staysFewest_22 hf 23 rfl (fun x8 hf => ?_)
      refine k_iconst C dX7_staysFewest_23 (1) (by decide) 24 rfl ?_
      refine k_isub C dX7_staysFewest_24 25 rfl ?_
      refine k_icmp_ne C dX7_staysFewest_25 hf 32 rfl 28 rfl (fun hf => ?_) (fun hf => ?_)
      · refine k_sub [] rfl ?_
        exact t_32 w0 hf
      · refine k_iconst C dX7_staysFewest_28 (1) (by decide) 29 rfl ?_
        refine k_goto C dX7_staysFewest_29 33 rfl ?_
        refine k_sub [] rfl ?_
        exact t_33 _ w0 hf
theorem dX7_fewestHours_0 : decode cX7_fewestHours 0 = .ok (.aload_n 0, 1) := by decide +kernel
theorem dX7_fewestHours_1 : decode cX7_fewestHours 1 = .ok (.aload_n 1, 1) := by decide +kernel
theorem dX7_fewestHours_2 : decode cX7_fewestHours 2 = .ok (.invokevirtual 38, 3) := by decide +kernel
theorem dX7_fewestHours_5 : decode cX7_fewestHours 5 = .ok (.aload_n 0, 1) := by decide +kernel
theorem dX7_fewestHours_6 : decode cX7_fewestHours 6 = .ok (.aload_n 1, 1) := by decide +kernel
theorem dX7_fewestHours_7 : decode cX7_fewestHours 7 = .ok (.getfield 42, 3) := by decide +kernel
theorem dX7_fewestHours_10 : decode cX7_fewestHours 10 = .ok (.iload_n 2, 1) := by decide +kernel
theorem dX7_fewestHours_11 : decode cX7_fewestHours 11 = .ok (.invokevirtual 48, 3) := by decide +kernel
theorem dX7_fewestHours_14 : decode cX7_fewestHours 14 = .ok (.aload_n 0, 1) := by decide +kernel
theorem dX7_fewestHours_15 : decode cX7_fewestHours 15 = .ok (.getfield 18, 3) := by decide +kernel
theorem dX7_fewestHours_18 : decode cX7_fewestHours 18 = .ok (.iload_n 2, 1) := by decide +kernel
theorem dX7_fewestHours_19 : decode cX7_fewestHours 19 = .ok (.iaload, 1) := by decide +kernel
theorem dX7_fewestHours_20 : decode cX7_fewestHours 20 = .ok (.sipush 1000, 3) := by decide +kernel
theorem dX7_fewestHours_23 : decode cX7_fewestHours 23 = .ok (.if_icmp .lt 5, 3) := by decide +kernel
theorem dX7_fewestHours_26 : decode cX7_fewestHours 26 = .ok (.iconst (-1), 1) := by decide +kernel
theorem dX7_fewestHours_27 : decode cX7_fewestHours 27 = .ok (.ireturn, 1) := by decide +kernel
theorem dX7_fewestHours_28 : decode cX7_fewestHours 28 = .ok (.iload_n 2, 1) := by decide +kernel
theorem dX7_fewestHours_29 : decode cX7_fewestHours 29 = .ok (.istore_n 3, 1) := by decide +kernel
theorem dX7_fewestHours_30 : decode cX7_fewestHours 30 = .ok (.iconst 0, 1) := by decide +kernel
theorem dX7_fewestHours_31 : decode cX7_fewestHours 31 = .ok (.istore 4, 2) := by decide +kernel
theorem dX7_fewestHours_33 : decode cX7_fewestHours 33 = .ok (.iload 4, 2) := by decide +kernel
theorem dX7_fewestHours_35 : decode cX7_fewestHours 35 = .ok (.aload_n 1, 1) := by decide +kernel
theorem dX7_fewestHours_36 : decode cX7_fewestHours 36 = .ok (.getfield 42, 3) := by decide +kernel
theorem dX7_fewestHours_39 : decode cX7_fewestHours 39 = .ok (.if_icmp .ge 68, 3) := by decide +kernel
theorem dX7_fewestHours_42 : decode cX7_fewestHours 42 = .ok (.aload_n 0, 1) := by decide +kernel
theorem dX7_fewestHours_43 : decode cX7_fewestHours 43 = .ok (.getfield 9, 3) := by decide +kernel
theorem dX7_fewestHours_46 : decode cX7_fewestHours 46 = .ok (.iload 4, 2) := by decide +kernel
theorem dX7_fewestHours_48 : decode cX7_fewestHours 48 = .ok (.iconst 0, 1) := by decide +kernel
theorem dX7_fewestHours_49 : decode cX7_fewestHours 49 = .ok (.iastore, 1) := by decide +kernel
theorem dX7_fewestHours_50 : decode cX7_fewestHours 50 = .ok (.iconst 0, 1) := by decide +kernel
theorem dX7_fewestHours_51 : decode cX7_fewestHours 51 = .ok (.istore 5, 2) := by decide +kernel
theorem dX7_fewestHours_53 : decode cX7_fewestHours 53 = .ok (.iload 5, 2) := by decide +kernel
theorem dX7_fewestHours_55 : decode cX7_fewestHours 55 = .ok (.iload_n 2, 1) := by decide +kernel
theorem dX7_fewestHours_56 : decode cX7_fewestHours 56 = .ok (.if_icmp .ge 45, 3) := by decide +kernel
theorem dX7_fewestHours_59 : decode cX7_fewestHours 59 = .ok (.aload_n 0, 1) := by decide +kernel
theorem dX7_fewestHours_60 : decode cX7_fewestHours 60 = .ok (.iload_n 3, 1) := by decide +kernel
theorem dX7_fewestHours_61 : decode cX7_fewestHours 61 = .ok (.aload_n 0, 1) := by decide +kernel
theorem dX7_fewestHours_62 : decode cX7_fewestHours 62 = .ok (.getfield 15, 3) := by decide +kernel
theorem dX7_fewestHours_65 : decode cX7_fewestHours 65 = .ok (.iload 4, 2) := by decide +kernel
theorem dX7_fewestHours_67 : decode cX7_fewestHours 67 = .ok (.iaload, 1) := by decide +kernel
theorem dX7_fewestHours_68 : decode cX7_fewestHours 68 = .ok (.invokevirtual 52, 3) := by decide +kernel
theorem dX7_fewestHours_71 : decode cX7_fewestHours 71 = .ok (.ifCond .eq 30, 3) := by decide +kernel
theorem dX7_fewestHours_74 : decode cX7_fewestHours 74 = .ok (.aload_n 0, 1) := by decide +kernel
theorem dX7_fewestHours_75 : decode cX7_fewestHours 75 = .ok (.getfield 9, 3) := by decide +kernel
theorem dX7_fewestHours_78 : decode cX7_fewestHours 78 = .ok (.iload 4, 2) := by decide +kernel
theorem dX7_fewestHours_80 : decode cX7_fewestHours 80 = .ok (.dup2, 1) := by decide +kernel
theorem dX7_fewestHours_81 : decode cX7_fewestHours 81 = .ok (.iaload, 1) := by decide +kernel
theorem dX7_fewestHours_82 : decode cX7_fewestHours 82 = .ok (.iconst 1, 1) := by decide +kernel
theorem dX7_fewestHours_83 : decode cX7_fewestHours 83 = .ok (.iadd, 1) := by decide +kernel
theorem dX7_fewestHours_84 : decode cX7_fewestHours 84 = .ok (.iastore, 1) := by decide +kernel
theorem dX7_fewestHours_85 : decode cX7_fewestHours 85 = .ok (.iload_n 3, 1) := by decide +kernel
theorem dX7_fewestHours_86 : decode cX7_fewestHours 86 = .ok (.aload_n 0, 1) := by decide +kernel
theorem dX7_fewestHours_87 : decode cX7_fewestHours 87 = .ok (.getfield 15, 3) := by decide +kernel
theorem dX7_fewestHours_90 : decode cX7_fewestHours 90 = .ok (.iload 4, 2) := by decide +kernel
theorem dX7_fewestHours_92 : decode cX7_fewestHours 92 = .ok (.iaload, 1) := by decide +kernel
theorem dX7_fewestHours_93 : decode cX7_fewestHours 93 = .ok (.isub, 1) := by decide +kernel
theorem dX7_fewestHours_94 : decode cX7_fewestHours 94 = .ok (.istore_n 3, 1) := by decide +kernel
theorem dX7_fewestHours_95 : decode cX7_fewestHours 95 = .ok (.iinc 5 1, 3) := by decide +kernel
theorem dX7_fewestHours_98 : decode cX7_fewestHours 98 = .ok (.goto (-45), 3) := by decide +kernel
theorem dX7_fewestHours_101 : decode cX7_fewestHours 101 = .ok (.iinc 4 1, 3) := by decide +kernel
theorem dX7_fewestHours_104 : decode cX7_fewestHours 104 = .ok (.goto (-71), 3) := by decide +kernel
theorem dX7_fewestHours_107 : decode cX7_fewestHours 107 = .ok (.aload_n 0, 1) := by decide +kernel
theorem dX7_fewestHours_108 : decode cX7_fewestHours 108 = .ok (.getfield 18, 3) := by decide +kernel
theorem dX7_fewestHours_111 : decode cX7_fewestHours 111 = .ok (.iload_n 2, 1) := by decide +kernel
theorem dX7_fewestHours_112 : decode cX7_fewestHours 112 = .ok (.iaload, 1) := by decide +kernel
theorem dX7_fewestHours_113 : decode cX7_fewestHours 113 = .ok (.ireturn, 1) := by decide +kernel
set_option maxRecDepth 100000 in
set_option maxHeartbeats 4000000 in
theorem c_X7_fewestHours {g : Gv} {l : Launch} (p0 : Nat) (p1 : Nat) (p2 : Int32) (w0 : Wd) (rz : Int32) (wz : Wd) (hf : f_X7_fewestHours p0 p1 p2 w0 = some (rz, wz)) : MI g l yX7_fewestHours cX7_fewestHours 6 .int 5 114 [rV g p0, rV g p1, .int p2] w0 rz wz := by
  refine mi_of RX7 (by decide) rfl (Nat.le_of_ble_eq_true rfl) ?_
  intro X hg hll C hr h0
  subst hg; subst hll
  have t_33 : ∀ (n : Nat) (v0 : Nat) (v1 : Nat) (v2 : Int32) (v3 : Int32) (v4 : Int32) (w : Wd), f_X7_fewestHours_33 n v0 v1 v2 v3 v4 w = some (rz, wz) → Wk X 0 0 (QI X w0 rz wz) w [(0, rV (xg X) v0), (1, rV (xg X) v1), (2, .int v2), (3, .int v3), (4, .int v4)] 33 [] := by
    intro n
    induction n with
    | zero => intro v0 v1 v2 v3 v4 w hf; rw [f_X7_fewestHours_33] at hf; cases hf
    | succ n33 ih33 =>
      have t_101 : ∀ (v0 : Nat) (v1 : Nat) (v2 : Int32) (v3 : Int32) (v4 : Int32) (w : Wd), f_X7_fewestHours_101 (f_X7_fewestHours_33 n33) v0 v1 v2 v3 v4 w = some (rz, wz) → Wk X 0 0 (QI X w0 rz wz) w [(0, rV (xg X) v0), (1, rV (xg X) v1), (2, .int v2), (3, .int v3), (4, .int v4)] 101 [] := by
        intro v0 v1 v2 v3 v4 w hf
        unfold f_X7_fewestHours_101 at hf
        refine k_iinc C dX7_fewestHours_101 4 rfl (by decide) (by decide) [(4, .int (v4 + (1 : Int32))), (0, rV (xg X) v0), (1, rV (xg X) v1), (2, .int v2), (3, .int v3)] rfl 104 rfl ?_
        refine k_goto C dX7_fewestHours_104 33 rfl ?_
        refine k_sub [1, 2, 3, 4, 0] rfl ?_
        exact ih33 _ _ _ _ _ w hf
      have t_53 : ∀ (n : Nat) (v0 : Nat) (v1 : Nat) (v2 : Int32) (v3 : Int32) (v4 : Int32) (v5 : Int32) (w : Wd), f_X7_fewestHours_53 (f_X7_fewestHours_33 n33) n v0 v1 v2 v3 v4 v5 w = some (rz, wz) → Wk X 0 0 (QI X w0 rz wz) w [(0, rV (xg X) v0), (1, rV (xg X) v1), (2, .int v2), (3, .int v3), (4, .int v4), (5, .int v5)] 53 [] := by
        intro n
        induction n with
        | zero => intro v0 v1 v2 v3 v4 v5 w hf; rw [f_X7_fewestHours_53] at hf; cases hf
        | succ n53 ih53 =>
          intro v0 v1 v2 v3 v4 v5 w hf
          rw [f_X7_fewestHours_53] at hf
          refine k_iload C dX7_fewestHours_53 5 rfl 55 rfl ?_
          refine k_iload_n C dX7_fewestHours_55 2 rfl 56 rfl ?_
          refine k_icmp_ge C dX7_fewestHours_56 hf 101 rfl 59 rfl (fun hf => ?_) (fun hf => ?_)
          · refine k_sub [0, 1, 2, 3, 4] rfl ?_
            exact t_101 _ _ _ _ _ w hf
          · refine k_aload_n C dX7_fewestHours_59 0 rfl rfl 60 rfl ?_
            refine k_iload_n C dX7_fewestHours_60 3 rfl 61 rfl ?_
            refine k_aload_n C dX7_fewestHours_61 0 rfl rfl 62 rfl ?_
            refine k_getR C fe_X7_15 rfl dX7_fewestHours_62 hf 65 rfl (fun r23 hf => ?_)
            refine k_iload C dX7_fewestHours_65 4 rfl 67 rfl ?_
            refine k_iald C dX7_fewestHours_67 hf 68 rfl (fun x24 hf => ?_)
            refine k_callV_i C ye_X7_staysFewest ve_X7_52 ⟨rfl, rfl⟩ ⟨rfl, rfl⟩ dX7_fewestHours_68 [.int v3, .int x24] rfl rfl (Nat.le_of_ble_eq_true rfl) (c_X7_staysFewest _ _ _ _) hf 71 rfl (fun x26 w25 hf => ?_)
            refine k_if_eq C dX7_fewestHours_71 hf 101 rfl 74 rfl (fun hf => ?_) (fun hf => ?_)
            · refine k_sub [0, 1, 2, 3, 4] rfl ?_
              exact t_101 _ _ _ _ _ w25 hf
            · refine k_aload_n C dX7_fewestHours_74 0 rfl rfl 75 rfl ?_
              refine k_getR C fe_X7_9 rfl dX7_fewestHours_75 hf 78 rfl (fun r27 hf => ?_)
              refine k_iload C dX7_fewestHours_78 4 rfl 80 rfl ?_
              refine k_dup2 C dX7_fewestHours_80 rfl rfl 81 rfl ?_
              refine k_iald C dX7_fewestHours_81 hf 82 rfl (fun x28 hf => ?_)
              refine k_iconst C dX7_fewestHours_82 (1) (by decide) 83 rfl ?_
              refine k_iadd C dX7_fewestHours_83 84 rfl ?_
              refine k_iast C dX7_fewestHours_84 hf 85 rfl (fun w29 _ hf => ?_)
              refine k_iload_n C dX7_fewestHours_85 3 rfl 86 rfl ?_
              refine k_aload_n C dX7_fewestHours_86 0 rfl rfl 87 rfl ?_
              refine k_getR C fe_X7_15 rfl dX7_fewestHours_87 hf 90 rfl (fun r30 hf => ?_)
              refine k_iload C dX7_fewestHours_90 4 rfl 92 rfl ?_
              refine k_iald C dX7_fewestHours_92 hf 93 rfl (fun x31 hf => ?_)
              refine k_isub C dX7_fewestHours_93 94 rfl ?_
              refine k_nmi hf (fun x32 hf => ?_)
              refine k_istore_n C dX7_fewestHours_94 rfl (by decide) [(3, .int x32), (0, rV (xg X) v0), (1, rV (xg X) v1), (2, .int v2), (4, .int v4), (5, .int v5)] rfl 95 rfl ?_
              refine k_iinc C dX7_fewestHours_95 5 rfl (by decide) (by decide) [(5, .int (v5 + (1 : Int32))), (3, .int x32), (0, rV (xg X) v0), (1, rV (xg X) v1), (2, .int v2), (4, .int v4)] rfl 98 rfl ?_
              refine k_goto C dX7_fewestHours_98 53 rfl ?_
              refine k_sub [2, 3, 4, 1, 5, 0] rfl ?_
              exact ih53 _ _ _ _ _ _ w29 hf
      intro v0 v1 v2 v3 v4 w hf
      rw [f_X7_fewestHours_33] at hf
      refine k_iload C dX7_fewestHours_33 4 rfl 35 rfl ?_
      refine k_aload_n C dX7_fewestHours_35 1 rfl rfl 36 rfl ?_
      refine k_getI C fe_X7_42 rfl dX7_fewestHours_36 hf 39 rfl (fun x33 hf => ?_)
      refine k_icmp_ge C dX7_fewestHours_39 hf 107 rfl 42 rfl (fun hf => ?_) (fun hf => ?_)
      · refine k_aload_n C dX7_fewestHours_107 0 rfl rfl 108 rfl ?_
        refine k_getR C fe_X7_18 rfl dX7_fewestHours_108 hf 111 rfl (fun r34 hf => ?_)
        refine k_iload_n C dX7_fewestHours_111 2 rfl 112 rfl ?_
        refine k_iald C dX7_fewestHours_112 hf 113 rfl (fun x35 hf => ?_)
        exact k_iret C hr h0 dX7_fewestHours_113 hf
      · refine k_aload_n C dX7_fewestHours_42 0 rfl rfl 43 rfl ?_
        refine k_getR C fe_X7_9 rfl dX7_fewestHours_43 hf 46 rfl (fun r36 hf => ?_)
        refine k_iload C dX7_fewestHours_46 4 rfl 48 rfl ?_
        refine k_iconst C dX7_fewestHours_48 (0) (by decide) 49 rfl ?_
        refine k_iast C dX7_fewestHours_49 hf 50 rfl (fun w37 _ hf => ?_)
        refine k_iconst C dX7_fewestHours_50 (0) (by decide) 51 rfl ?_
        refine k_istore C dX7_fewestHours_51 (by decide) [(5, .int (0 : Int32)), (0, rV (xg X) v0), (1, rV (xg X) v1), (2, .int v2), (3, .int v3), (4, .int v4)] rfl 53 rfl ?_
        refine k_sub [1, 2, 3, 4, 5, 0] rfl ?_
        exact t_53 4096 _ _ _ _ _ _ w37 hf
  unfold f_X7_fewestHours at hf
  refine k_sub (lv2 := [(0, rV (xg X) p0), (1, rV (xg X) p1), (2, .int p2)]) [0, 1, 2] rfl ?_
  refine k_aload_n C dX7_fewestHours_0 0 rfl rfl 1 rfl ?_
  refine k_aload_n C dX7_fewestHours_1 1 rfl rfl 2 rfl ?_
  refine k_callV_v C ye_X7_fillYields ve_X7_38 ⟨rfl, rfl⟩ ⟨rfl, rfl⟩ dX7_fewestHours_2 [rV (xg X) p1] rfl rfl (Nat.le_of_ble_eq_true rfl) (c_X7_fillYields _ _ _) hf 5 rfl (fun w38 hf => ?_)
  refine k_aload_n C dX7_fewestHours_5 0 rfl rfl 6 rfl ?_
  refine k_aload_n C dX7_fewestHours_6 1 rfl rfl 7 rfl ?_
  refine k_getI C fe_X7_42 rfl dX7_fewestHours_7 hf 10 rfl (fun x40 hf => ?_)
  refine k_iload_n C dX7_fewestHours_10 2 rfl 11 rfl ?_
  refine k_callV_v C ye_X7_fillFewest ve_X7_48 ⟨rfl, rfl⟩ ⟨rfl, rfl⟩ dX7_fewestHours_11 [.int x40, .int p2] rfl rfl (Nat.le_of_ble_eq_true rfl) (c_X7_fillFewest _ _ _ _) hf 14 rfl (fun w41 hf => ?_)
  refine k_aload_n C dX7_fewestHours_14 0 rfl rfl 15 rfl ?_
  refine k_getR C fe_X7_18 rfl dX7_fewestHours_15 hf 18 rfl (fun r43 hf => ?_)
  refine k_iload_n C dX7_fewestHours_18 2 rfl 19 rfl ?_
  refine k_iald C dX7_fewestHours_19 hf 20 rfl (fun x44 hf => ?_)
  refine k_sipush C dX7_fewestHours_20 (1000) (by decide) 23 rfl ?_
  refine k_icmp_lt C dX7_fewestHours_23 hf 28 rfl 26 rfl (fun hf => ?_) (fun hf => ?_)
  · refine k_iload_n C dX7_fewestHours_28 2 rfl 29 rfl ?_
    refine k_istore_n C dX7_fewestHours_29 rfl (by decide) [(3, .int p2), (0, rV (xg X) p0), (1, rV (xg X) p1), (2, .int p2)] rfl 30 rfl ?_
    refine k_iconst C dX7_fewestHours_30 (0) (by decide) 31 rfl ?_
    refine k_istore C dX7_fewestHours_31 (by decide) [(4, .int (0 : Int32)), (3, .int p2), (0, rV (xg X) p0), (1, rV (xg X) p1), (2, .int p2)] rfl 33 rfl ?_
    refine k_sub [2, 3, 4, 1, 0] rfl ?_
    exact t_33 4096 _ _ _ _ _ w41 hf
  · refine k_iconst C dX7_fewestHours_26 (-1) (by decide) 27 rfl ?_
    exact k_iret C hr h0 dX7_fewestHours_27 hf
theorem dX7_fillGains_0 : decode cX7_fillGains 0 = .ok (.iconst 0, 1) := by decide +kernel
theorem dX7_fillGains_1 : decode cX7_fillGains 1 = .ok (.istore_n 3, 1) := by decide +kernel
theorem dX7_fillGains_2 : decode cX7_fillGains 2 = .ok (.iload_n 3, 1) := by decide +kernel
theorem dX7_fillGains_3 : decode cX7_fillGains 3 = .ok (.aload_n 1, 1) := by decide +kernel
theorem dX7_fillGains_4 : decode cX7_fillGains 4 = .ok (.getfield 42, 3) := by decide +kernel
theorem dX7_fillGains_7 : decode cX7_fillGains 7 = .ok (.if_icmp .ge 94, 3) := by decide +kernel
theorem dX7_fillGains_10 : decode cX7_fillGains 10 = .ok (.aload_n 1, 1) := by decide +kernel
theorem dX7_fillGains_11 : decode cX7_fillGains 11 = .ok (.getfield 56, 3) := by decide +kernel
theorem dX7_fillGains_14 : decode cX7_fillGains 14 = .ok (.iload_n 3, 1) := by decide +kernel
theorem dX7_fillGains_15 : decode cX7_fillGains 15 = .ok (.aaload, 1) := by decide +kernel
theorem dX7_fillGains_16 : decode cX7_fillGains 16 = .ok (.astore 4, 2) := by decide +kernel
theorem dX7_fillGains_18 : decode cX7_fillGains 18 = .ok (.aload_n 0, 1) := by decide +kernel
theorem dX7_fillGains_19 : decode cX7_fillGains 19 = .ok (.getfield 23, 3) := by decide +kernel
theorem dX7_fillGains_22 : decode cX7_fillGains 22 = .ok (.iload_n 3, 1) := by decide +kernel
theorem dX7_fillGains_23 : decode cX7_fillGains 23 = .ok (.aaload, 1) := by decide +kernel
theorem dX7_fillGains_24 : decode cX7_fillGains 24 = .ok (.iconst 0, 1) := by decide +kernel
theorem dX7_fillGains_25 : decode cX7_fillGains 25 = .ok (.iconst 0, 1) := by decide +kernel
theorem dX7_fillGains_26 : decode cX7_fillGains 26 = .ok (.iastore, 1) := by decide +kernel
theorem dX7_fillGains_27 : decode cX7_fillGains 27 = .ok (.iconst 1, 1) := by decide +kernel
theorem dX7_fillGains_28 : decode cX7_fillGains 28 = .ok (.istore 5, 2) := by decide +kernel
theorem dX7_fillGains_30 : decode cX7_fillGains 30 = .ok (.iload 5, 2) := by decide +kernel
theorem dX7_fillGains_32 : decode cX7_fillGains 32 = .ok (.iload_n 2, 1) := by decide +kernel
theorem dX7_fillGains_33 : decode cX7_fillGains 33 = .ok (.if_icmp .gt 62, 3) := by decide +kernel
theorem dX7_fillGains_36 : decode cX7_fillGains 36 = .ok (.aload 4, 2) := by decide +kernel
theorem dX7_fillGains_38 : decode cX7_fillGains 38 = .ok (.getfield 84, 3) := by decide +kernel
theorem dX7_fillGains_41 : decode cX7_fillGains 41 = .ok (.iload 5, 2) := by decide +kernel
theorem dX7_fillGains_43 : decode cX7_fillGains 43 = .ok (.iconst 1, 1) := by decide +kernel
theorem dX7_fillGains_44 : decode cX7_fillGains 44 = .ok (.isub, 1) := by decide +kernel
theorem dX7_fillGains_45 : decode cX7_fillGains 45 = .ok (.aload_n 0, 1) := by decide +kernel
theorem dX7_fillGains_46 : decode cX7_fillGains 46 = .ok (.getfield 15, 3) := by decide +kernel
theorem dX7_fillGains_49 : decode cX7_fillGains 49 = .ok (.iload_n 3, 1) := by decide +kernel
theorem dX7_fillGains_50 : decode cX7_fillGains 50 = .ok (.iaload, 1) := by decide +kernel
theorem dX7_fillGains_51 : decode cX7_fillGains 51 = .ok (.imul, 1) := by decide +kernel
theorem dX7_fillGains_52 : decode cX7_fillGains 52 = .ok (.iadd, 1) := by decide +kernel
theorem dX7_fillGains_53 : decode cX7_fillGains 53 = .ok (.istore 6, 2) := by decide +kernel
theorem dX7_fillGains_55 : decode cX7_fillGains 55 = .ok (.aload_n 0, 1) := by decide +kernel
theorem dX7_fillGains_56 : decode cX7_fillGains 56 = .ok (.getfield 23, 3) := by decide +kernel
theorem dX7_fillGains_59 : decode cX7_fillGains 59 = .ok (.iload_n 3, 1) := by decide +kernel
theorem dX7_fillGains_60 : decode cX7_fillGains 60 = .ok (.aaload, 1) := by decide +kernel
theorem dX7_fillGains_61 : decode cX7_fillGains 61 = .ok (.iload 5, 2) := by decide +kernel
theorem dX7_fillGains_63 : decode cX7_fillGains 63 = .ok (.aload_n 0, 1) := by decide +kernel
theorem dX7_fillGains_64 : decode cX7_fillGains 64 = .ok (.getfield 23, 3) := by decide +kernel
theorem dX7_fillGains_67 : decode cX7_fillGains 67 = .ok (.iload_n 3, 1) := by decide +kernel
theorem dX7_fillGains_68 : decode cX7_fillGains 68 = .ok (.aaload, 1) := by decide +kernel
theorem dX7_fillGains_69 : decode cX7_fillGains 69 = .ok (.iload 5, 2) := by decide +kernel
theorem dX7_fillGains_71 : decode cX7_fillGains 71 = .ok (.iconst 1, 1) := by decide +kernel
theorem dX7_fillGains_72 : decode cX7_fillGains 72 = .ok (.isub, 1) := by decide +kernel
theorem dX7_fillGains_73 : decode cX7_fillGains 73 = .ok (.iaload, 1) := by decide +kernel
theorem dX7_fillGains_74 : decode cX7_fillGains 74 = .ok (.aload 4, 2) := by decide +kernel
theorem dX7_fillGains_76 : decode cX7_fillGains 76 = .ok (.aload_n 0, 1) := by decide +kernel
theorem dX7_fillGains_77 : decode cX7_fillGains 77 = .ok (.getfield 15, 3) := by decide +kernel
theorem dX7_fillGains_80 : decode cX7_fillGains 80 = .ok (.iload_n 3, 1) := by decide +kernel
theorem dX7_fillGains_81 : decode cX7_fillGains 81 = .ok (.iaload, 1) := by decide +kernel
theorem dX7_fillGains_82 : decode cX7_fillGains 82 = .ok (.iload 6, 2) := by decide +kernel
theorem dX7_fillGains_84 : decode cX7_fillGains 84 = .ok (.invokevirtual 87, 3) := by decide +kernel
theorem dX7_fillGains_87 : decode cX7_fillGains 87 = .ok (.iadd, 1) := by decide +kernel
theorem dX7_fillGains_88 : decode cX7_fillGains 88 = .ok (.iastore, 1) := by decide +kernel
theorem dX7_fillGains_89 : decode cX7_fillGains 89 = .ok (.iinc 5 1, 3) := by decide +kernel
theorem dX7_fillGains_92 : decode cX7_fillGains 92 = .ok (.goto (-62), 3) := by decide +kernel
theorem dX7_fillGains_95 : decode cX7_fillGains 95 = .ok (.iinc 3 1, 3) := by decide +kernel
theorem dX7_fillGains_98 : decode cX7_fillGains 98 = .ok (.goto (-96), 3) := by decide +kernel
theorem dX7_fillGains_101 : decode cX7_fillGains 101 = .ok (.return_, 1) := by decide +kernel
set_option maxRecDepth 100000 in
set_option maxHeartbeats 4000000 in
theorem c_X7_fillGains {g : Gv} {l : Launch} (p0 : Nat) (p1 : Nat) (p2 : Int32) (w0 : Wd) (wz : Wd) (hf : f_X7_fillGains p0 p1 p2 w0 = some ((), wz)) : MV g l yX7_fillGains cX7_fillGains 7 4 90 0 0 [rV g p0, rV g p1, .int p2] w0 wz := by
  refine mv_of RX7 (by decide) rfl (Nat.le_of_ble_eq_true rfl) ?_
  intro X hg hll C hr h0 hin
  subst hg; subst hll
  have t_2 : ∀ (n : Nat) (v0 : Nat) (v1 : Nat) (v2 : Int32) (v3 : Int32) (w : Wd), f_X7_fillGains_2 n v0 v1 v2 v3 w = some ((), wz) → Wk X 0 0 (QV X 0 0 w0 wz) w [(0, rV (xg X) v0), (1, rV (xg X) v1), (2, .int v2), (3, .int v3)] 2 [] := by
    intro n
    induction n with
    | zero => intro v0 v1 v2 v3 w hf; rw [f_X7_fillGains_2] at hf; cases hf
    | succ n2 ih2 =>
      have t_30 : ∀ (n : Nat) (v0 : Nat) (v1 : Nat) (v2 : Int32) (v3 : Int32) (v4 : Nat) (v5 : Int32) (w : Wd), f_X7_fillGains_30 (f_X7_fillGains_2 n2) n v0 v1 v2 v3 v4 v5 w = some ((), wz) → Wk X 0 0 (QV X 0 0 w0 wz) w [(0, rV (xg X) v0), (1, rV (xg X) v1), (2, .int v2), (3, .int v3), (4, rV (xg X) v4), (5, .int v5)] 30 [] := by
        intro n
        induction n with
        | zero => intro v0 v1 v2 v3 v4 v5 w hf; rw [f_X7_fillGains_30] at hf; cases hf
        | succ n30 ih30 =>
          intro v0 v1 v2 v3 v4 v5 w hf
          rw [f_X7_fillGains_30] at hf
          refine k_iload C dX7_fillGains_30 5 rfl 32 rfl ?_
          refine k_iload_n C dX7_fillGains_32 2 rfl 33 rfl ?_
          refine k_icmp_gt C dX7_fillGains_33 hf 95 rfl 36 rfl (fun hf => ?_) (fun hf => ?_)
          · refine k_iinc C dX7_fillGains_95 3 rfl (by decide) (by decide) [(3, .int (v3 + (1 : Int32))), (0, rV (xg X) v0), (1, rV (xg X) v1), (2, .int v2), (4, rV (xg X) v4), (5, .int v5)] rfl 98 rfl ?_
            refine k_goto C dX7_fillGains_98 2 rfl ?_
            refine k_sub [1, 2, 3, 0] rfl ?_
            exact ih2 _ _ _ _ w hf
          · refine k_aload C dX7_fillGains_36 4 rfl rfl 38 rfl ?_
            refine k_getI C fe_X7_84 rfl dX7_fillGains_38 hf 41 rfl (fun x21 hf => ?_)
            refine k_iload C dX7_fillGains_41 5 rfl 43 rfl ?_
            refine k_iconst C dX7_fillGains_43 (1) (by decide) 44 rfl ?_
            refine k_isub C dX7_fillGains_44 45 rfl ?_
            refine k_aload_n C dX7_fillGains_45 0 rfl rfl 46 rfl ?_
            refine k_getR C fe_X7_15 rfl dX7_fillGains_46 hf 49 rfl (fun r22 hf => ?_)
            refine k_iload_n C dX7_fillGains_49 3 rfl 50 rfl ?_
            refine k_iald C dX7_fillGains_50 hf 51 rfl (fun x23 hf => ?_)
            refine k_imul C dX7_fillGains_51 52 rfl ?_
            refine k_iadd C dX7_fillGains_52 53 rfl ?_
            refine k_nmi hf (fun x24 hf => ?_)
            refine k_istore C dX7_fillGains_53 (by decide) [(6, .int x24), (0, rV (xg X) v0), (1, rV (xg X) v1), (2, .int v2), (3, .int v3), (4, rV (xg X) v4), (5, .int v5)] rfl 55 rfl ?_
            refine k_aload_n C dX7_fillGains_55 1 rfl rfl 56 rfl ?_
            refine k_getR C fe_X7_23 rfl dX7_fillGains_56 hf 59 rfl (fun r25 hf => ?_)
            refine k_iload_n C dX7_fillGains_59 4 rfl 60 rfl ?_
            refine k_aald19 C dX7_fillGains_60 hf 61 rfl (fun r26 hf => ?_)
            refine k_iload C dX7_fillGains_61 6 rfl 63 rfl ?_
            refine k_aload_n C dX7_fillGains_63 1 rfl rfl 64 rfl ?_
            refine k_getR C fe_X7_23 rfl dX7_fillGains_64 hf 67 rfl (fun r27 hf => ?_)
            refine k_iload_n C dX7_fillGains_67 4 rfl 68 rfl ?_
            refine k_aald19 C dX7_fillGains_68 hf 69 rfl (fun r28 hf => ?_)
            refine k_iload C dX7_fillGains_69 6 rfl 71 rfl ?_
            refine k_iconst C dX7_fillGains_71 (1) (by decide) 72 rfl ?_
            refine k_isub C dX7_fillGains_72 73 rfl ?_
            refine k_iald C dX7_fillGains_73 hf 74 rfl (fun x29 hf => ?_)
            refine k_aload C dX7_fillGains_74 5 rfl rfl 76 rfl ?_
            refine k_aload_n C dX7_fillGains_76 1 rfl rfl 77 rfl ?_
            refine k_getR C fe_X7_15 rfl dX7_fillGains_77 hf 80 rfl (fun r30 hf => ?_)
            refine k_iload_n C dX7_fillGains_80 4 rfl 81 rfl ?_
            refine k_iald C dX7_fillGains_81 hf 82 rfl (fun x31 hf => ?_)
            refine k_iload C dX7_fillGains_82 0 rfl 84 rfl ?_
            refine k_callV_i C ye_X1_fetchedBy ve_X7_87 ⟨rfl, rfl⟩ ⟨rfl, rfl⟩ dX7_fillGains_84 [.int x31, .int x24] rfl rfl (Nat.le_of_ble_eq_true rfl) (c_X1_fetchedBy _ _ _ _) hf 87 rfl (fun x33 w32 hf => ?_)
            refine k_iadd C dX7_fillGains_87 88 rfl ?_
            refine k_iast C dX7_fillGains_88 hf 89 rfl (fun w34 _ hf => ?_)
            refine k_iinc C dX7_fillGains_89 6 rfl (by decide) (by decide) [(5, .int (v5 + (1 : Int32))), (6, .int x24), (0, rV (xg X) v0), (1, rV (xg X) v1), (2, .int v2), (3, .int v3), (4, rV (xg X) v4)] rfl 92 rfl ?_
            refine k_goto C dX7_fillGains_92 30 rfl ?_
            refine k_sub [2, 3, 4, 5, 6, 0] rfl ?_
            exact ih30 _ _ _ _ _ _ w34 hf
      intro v0 v1 v2 v3 w hf
      rw [f_X7_fillGains_2] at hf
      refine k_iload_n C dX7_fillGains_2 3 rfl 3 rfl ?_
      refine k_aload_n C dX7_fillGains_3 1 rfl rfl 4 rfl ?_
      refine k_getI C fe_X7_42 rfl dX7_fillGains_4 hf 7 rfl (fun x35 hf => ?_)
      refine k_icmp_ge C dX7_fillGains_7 hf 101 rfl 10 rfl (fun hf => ?_) (fun hf => ?_)
      · exact k_vret C hr h0 dX7_fillGains_101 hf
      · refine k_aload_n C dX7_fillGains_10 1 rfl rfl 11 rfl ?_
        refine k_getR C fe_X7_56 rfl dX7_fillGains_11 hf 14 rfl (fun r36 hf => ?_)
        refine k_iload_n C dX7_fillGains_14 3 rfl 15 rfl ?_
        refine k_aald16 C dX7_fillGains_15 hf 16 rfl (fun r37 hf => ?_)
        refine k_astore C dX7_fillGains_16 rfl (by decide) [(4, rV (xg X) r37), (0, rV (xg X) v0), (1, rV (xg X) v1), (2, .int v2), (3, .int v3)] rfl 18 rfl ?_
        refine k_aload_n C dX7_fillGains_18 1 rfl rfl 19 rfl ?_
        refine k_getR C fe_X7_23 rfl dX7_fillGains_19 hf 22 rfl (fun r38 hf => ?_)
        refine k_iload_n C dX7_fillGains_22 4 rfl 23 rfl ?_
        refine k_aald19 C dX7_fillGains_23 hf 24 rfl (fun r39 hf => ?_)
        refine k_iconst C dX7_fillGains_24 (0) (by decide) 25 rfl ?_
        refine k_iconst C dX7_fillGains_25 (0) (by decide) 26 rfl ?_
        refine k_iast C dX7_fillGains_26 hf 27 rfl (fun w40 _ hf => ?_)
        refine k_iconst C dX7_fillGains_27 (1) (by decide) 28 rfl ?_
        refine k_istore C dX7_fillGains_28 (by decide) [(5, .int (1 : Int32)), (4, rV (xg X) r37), (0, rV (xg X) v0), (1, rV (xg X) v1), (2, .int v2), (3, .int v3)] rfl 30 rfl ?_
        refine k_sub [2, 3, 4, 5, 1, 0] rfl ?_
        exact t_30 4096 _ _ _ _ _ _ w40 hf
  unfold f_X7_fillGains at hf
  refine k_sub (lv2 := [(0, rV (xg X) p0), (1, rV (xg X) p1), (2, .int p2)]) [0, 1, 2] rfl ?_
  refine k_iconst C dX7_fillGains_0 (0) (by decide) 1 rfl ?_
  refine k_istore_n C dX7_fillGains_1 rfl (by decide) [(3, .int (0 : Int32)), (0, rV (xg X) p0), (1, rV (xg X) p1), (2, .int p2)] rfl 2 rfl ?_
  refine k_sub [1, 2, 3, 0] rfl ?_
  exact t_2 4096 _ _ _ _ w0 hf
theorem dX7_fillMost_0 : decode cX7_fillMost 0 = .ok (.iconst 0, 1) := by decide +kernel
theorem dX7_fillMost_1 : decode cX7_fillMost 1 = .ok (.istore_n 3, 1) := by decide +kernel
theorem dX7_fillMost_2 : decode cX7_fillMost 2 = .ok (.iload_n 3, 1) := by decide +kernel
theorem dX7_fillMost_3 : decode cX7_fillMost 3 = .ok (.iload_n 2, 1) := by decide +kernel
theorem dX7_fillMost_4 : decode cX7_fillMost 4 = .ok (.if_icmp .gt 18, 3) := by decide +kernel
theorem dX7_fillMost_7 : decode cX7_fillMost 7 = .ok (.aload_n 0, 1) := by decide +kernel
theorem dX7_fillMost_8 : decode cX7_fillMost 8 = .ok (.getfield 26, 3) := by decide +kernel
theorem dX7_fillMost_11 : decode cX7_fillMost 11 = .ok (.iload_n 1, 1) := by decide +kernel
theorem dX7_fillMost_12 : decode cX7_fillMost 12 = .ok (.aaload, 1) := by decide +kernel
theorem dX7_fillMost_13 : decode cX7_fillMost 13 = .ok (.iload_n 3, 1) := by decide +kernel
theorem dX7_fillMost_14 : decode cX7_fillMost 14 = .ok (.iconst 0, 1) := by decide +kernel
theorem dX7_fillMost_15 : decode cX7_fillMost 15 = .ok (.iastore, 1) := by decide +kernel
theorem dX7_fillMost_16 : decode cX7_fillMost 16 = .ok (.iinc 3 1, 3) := by decide +kernel
theorem dX7_fillMost_19 : decode cX7_fillMost 19 = .ok (.goto (-17), 3) := by decide +kernel
theorem dX7_fillMost_22 : decode cX7_fillMost 22 = .ok (.iload_n 1, 1) := by decide +kernel
theorem dX7_fillMost_23 : decode cX7_fillMost 23 = .ok (.iconst 1, 1) := by decide +kernel
theorem dX7_fillMost_24 : decode cX7_fillMost 24 = .ok (.isub, 1) := by decide +kernel
theorem dX7_fillMost_25 : decode cX7_fillMost 25 = .ok (.istore_n 3, 1) := by decide +kernel
theorem dX7_fillMost_26 : decode cX7_fillMost 26 = .ok (.iload_n 3, 1) := by decide +kernel
theorem dX7_fillMost_27 : decode cX7_fillMost 27 = .ok (.ifCond .lt 95, 3) := by decide +kernel
theorem dX7_fillMost_30 : decode cX7_fillMost 30 = .ok (.iconst 0, 1) := by decide +kernel
theorem dX7_fillMost_31 : decode cX7_fillMost 31 = .ok (.istore 4, 2) := by decide +kernel
theorem dX7_fillMost_33 : decode cX7_fillMost 33 = .ok (.iload 4, 2) := by decide +kernel
theorem dX7_fillMost_35 : decode cX7_fillMost 35 = .ok (.iload_n 2, 1) := by decide +kernel
theorem dX7_fillMost_36 : decode cX7_fillMost 36 = .ok (.if_icmp .gt 80, 3) := by decide +kernel
theorem dX7_fillMost_39 : decode cX7_fillMost 39 = .ok (.aload_n 0, 1) := by decide +kernel
theorem dX7_fillMost_40 : decode cX7_fillMost 40 = .ok (.getfield 26, 3) := by decide +kernel
theorem dX7_fillMost_43 : decode cX7_fillMost 43 = .ok (.iload_n 3, 1) := by decide +kernel
theorem dX7_fillMost_44 : decode cX7_fillMost 44 = .ok (.aaload, 1) := by decide +kernel
theorem dX7_fillMost_45 : decode cX7_fillMost 45 = .ok (.iload 4, 2) := by decide +kernel
theorem dX7_fillMost_47 : decode cX7_fillMost 47 = .ok (.iconst 0, 1) := by decide +kernel
theorem dX7_fillMost_48 : decode cX7_fillMost 48 = .ok (.iastore, 1) := by decide +kernel
theorem dX7_fillMost_49 : decode cX7_fillMost 49 = .ok (.iconst 0, 1) := by decide +kernel
theorem dX7_fillMost_50 : decode cX7_fillMost 50 = .ok (.istore 5, 2) := by decide +kernel
theorem dX7_fillMost_52 : decode cX7_fillMost 52 = .ok (.iload 5, 2) := by decide +kernel
theorem dX7_fillMost_54 : decode cX7_fillMost 54 = .ok (.iload 4, 2) := by decide +kernel
theorem dX7_fillMost_56 : decode cX7_fillMost 56 = .ok (.if_icmp .gt 54, 3) := by decide +kernel
theorem dX7_fillMost_59 : decode cX7_fillMost 59 = .ok (.aload_n 0, 1) := by decide +kernel
theorem dX7_fillMost_60 : decode cX7_fillMost 60 = .ok (.getfield 26, 3) := by decide +kernel
theorem dX7_fillMost_63 : decode cX7_fillMost 63 = .ok (.iload_n 3, 1) := by decide +kernel
theorem dX7_fillMost_64 : decode cX7_fillMost 64 = .ok (.aaload, 1) := by decide +kernel
theorem dX7_fillMost_65 : decode cX7_fillMost 65 = .ok (.iload 4, 2) := by decide +kernel
theorem dX7_fillMost_67 : decode cX7_fillMost 67 = .ok (.aload_n 0, 1) := by decide +kernel
theorem dX7_fillMost_68 : decode cX7_fillMost 68 = .ok (.getfield 26, 3) := by decide +kernel
theorem dX7_fillMost_71 : decode cX7_fillMost 71 = .ok (.iload_n 3, 1) := by decide +kernel
theorem dX7_fillMost_72 : decode cX7_fillMost 72 = .ok (.aaload, 1) := by decide +kernel
theorem dX7_fillMost_73 : decode cX7_fillMost 73 = .ok (.iload 4, 2) := by decide +kernel
theorem dX7_fillMost_75 : decode cX7_fillMost 75 = .ok (.iaload, 1) := by decide +kernel
theorem dX7_fillMost_76 : decode cX7_fillMost 76 = .ok (.aload_n 0, 1) := by decide +kernel
theorem dX7_fillMost_77 : decode cX7_fillMost 77 = .ok (.getfield 23, 3) := by decide +kernel
theorem dX7_fillMost_80 : decode cX7_fillMost 80 = .ok (.iload_n 3, 1) := by decide +kernel
theorem dX7_fillMost_81 : decode cX7_fillMost 81 = .ok (.aaload, 1) := by decide +kernel
theorem dX7_fillMost_82 : decode cX7_fillMost 82 = .ok (.iload 5, 2) := by decide +kernel
theorem dX7_fillMost_84 : decode cX7_fillMost 84 = .ok (.iaload, 1) := by decide +kernel
theorem dX7_fillMost_85 : decode cX7_fillMost 85 = .ok (.aload_n 0, 1) := by decide +kernel
theorem dX7_fillMost_86 : decode cX7_fillMost 86 = .ok (.getfield 26, 3) := by decide +kernel
theorem dX7_fillMost_89 : decode cX7_fillMost 89 = .ok (.iload_n 3, 1) := by decide +kernel
theorem dX7_fillMost_90 : decode cX7_fillMost 90 = .ok (.iconst 1, 1) := by decide +kernel
theorem dX7_fillMost_91 : decode cX7_fillMost 91 = .ok (.iadd, 1) := by decide +kernel
theorem dX7_fillMost_92 : decode cX7_fillMost 92 = .ok (.aaload, 1) := by decide +kernel
theorem dX7_fillMost_93 : decode cX7_fillMost 93 = .ok (.iload 4, 2) := by decide +kernel
theorem dX7_fillMost_95 : decode cX7_fillMost 95 = .ok (.iload 5, 2) := by decide +kernel
theorem dX7_fillMost_97 : decode cX7_fillMost 97 = .ok (.isub, 1) := by decide +kernel
theorem dX7_fillMost_98 : decode cX7_fillMost 98 = .ok (.iaload, 1) := by decide +kernel
theorem dX7_fillMost_99 : decode cX7_fillMost 99 = .ok (.iadd, 1) := by decide +kernel
theorem dX7_fillMost_100 : decode cX7_fillMost 100 = .ok (.invokestatic 81, 3) := by decide +kernel
theorem dX7_fillMost_103 : decode cX7_fillMost 103 = .ok (.iastore, 1) := by decide +kernel
theorem dX7_fillMost_104 : decode cX7_fillMost 104 = .ok (.iinc 5 1, 3) := by decide +kernel
theorem dX7_fillMost_107 : decode cX7_fillMost 107 = .ok (.goto (-55), 3) := by decide +kernel
theorem dX7_fillMost_110 : decode cX7_fillMost 110 = .ok (.iinc 4 1, 3) := by decide +kernel
theorem dX7_fillMost_113 : decode cX7_fillMost 113 = .ok (.goto (-80), 3) := by decide +kernel
theorem dX7_fillMost_116 : decode cX7_fillMost 116 = .ok (.iinc 3 (-1), 3) := by decide +kernel
theorem dX7_fillMost_119 : decode cX7_fillMost 119 = .ok (.goto (-93), 3) := by decide +kernel
theorem dX7_fillMost_122 : decode cX7_fillMost 122 = .ok (.return_, 1) := by decide +kernel
set_option maxRecDepth 100000 in
set_option maxHeartbeats 4000000 in
theorem c_X7_fillMost {g : Gv} {l : Launch} (p0 : Nat) (p1 : Int32) (p2 : Int32) (w0 : Wd) (wz : Wd) (hf : f_X7_fillMost p0 p1 p2 w0 = some ((), wz)) : MV g l yX7_fillMost cX7_fillMost 6 1 23 0 0 [rV g p0, .int p1, .int p2] w0 wz := by
  refine mv_of RX7 (by decide) rfl (Nat.le_of_ble_eq_true rfl) ?_
  intro X hg hll C hr h0 hin
  subst hg; subst hll
  have t_26 : ∀ (n : Nat) (v0 : Nat) (v2 : Int32) (v3 : Int32) (w : Wd), f_X7_fillMost_26 n v0 v2 v3 w = some ((), wz) → Wk X 0 0 (QV X 0 0 w0 wz) w [(0, rV (xg X) v0), (2, .int v2), (3, .int v3)] 26 [] := by
    intro n
    induction n with
    | zero => intro v0 v2 v3 w hf; rw [f_X7_fillMost_26] at hf; cases hf
    | succ n26 ih26 =>
      have t_33 : ∀ (n : Nat) (v0 : Nat) (v2 : Int32) (v3 : Int32) (v4 : Int32) (w : Wd), f_X7_fillMost_33 (f_X7_fillMost_26 n26) n v0 v2 v3 v4 w = some ((), wz) → Wk X 0 0 (QV X 0 0 w0 wz) w [(0, rV (xg X) v0), (2, .int v2), (3, .int v3), (4, .int v4)] 33 [] := by
        intro n
        induction n with
        | zero => intro v0 v2 v3 v4 w hf; rw [f_X7_fillMost_33] at hf; cases hf
        | succ n33 ih33 =>
          have t_52 : ∀ (n : Nat) (v0 : Nat) (v2 : Int32) (v3 : Int32) (v4 : Int32) (v5 : Int32) (w : Wd), f_X7_fillMost_52 (f_X7_fillMost_26 n26) (f_X7_fillMost_33 (f_X7_fillMost_26 n26) n33) n v0 v2 v3 v4 v5 w = some ((), wz) → Wk X 0 0 (QV X 0 0 w0 wz) w [(0, rV (xg X) v0), (2, .int v2), (3, .int v3), (4, .int v4), (5, .int v5)] 52 [] := by
            intro n
            induction n with
            | zero => intro v0 v2 v3 v4 v5 w hf; rw [f_X7_fillMost_52] at hf; cases hf
            | succ n52 ih52 =>
              intro v0 v2 v3 v4 v5 w hf
              rw [f_X7_fillMost_52] at hf
              refine k_iload C dX7_fillMost_52 4 rfl 54 rfl ?_
              refine k_iload C dX7_fillMost_54 3 rfl 56 rfl ?_
              refine k_icmp_gt C dX7_fillMost_56 hf 110 rfl 59 rfl (fun hf => ?_) (fun hf => ?_)
              · refine k_iinc C dX7_fillMost_110 3 rfl (by decide) (by decide) [(4, .int (v4 + (1 : Int32))), (0, rV (xg X) v0), (2, .int v2), (3, .int v3), (5, .int v5)] rfl 113 rfl ?_
                refine k_goto C dX7_fillMost_113 33 rfl ?_
                refine k_sub [1, 2, 3, 0] rfl ?_
                exact ih33 _ _ _ _ w hf
              · refine k_aload_n C dX7_fillMost_59 0 rfl rfl 60 rfl ?_
                refine k_getR C fe_X7_26 rfl dX7_fillMost_60 hf 63 rfl (fun r20 hf => ?_)
                refine k_iload_n C dX7_fillMost_63 2 rfl 64 rfl ?_
                refine k_aald19 C dX7_fillMost_64 hf 65 rfl (fun r21 hf => ?_)
                refine k_iload C dX7_fillMost_65 3 rfl 67 rfl ?_
                refine k_aload_n C dX7_fillMost_67 0 rfl rfl 68 rfl ?_
                refine k_getR C fe_X7_26 rfl dX7_fillMost_68 hf 71 rfl (fun r22 hf => ?_)
                refine k_iload_n C dX7_fillMost_71 2 rfl 72 rfl ?_
                refine k_aald19 C dX7_fillMost_72 hf 73 rfl (fun r23 hf => ?_)
                refine k_iload C dX7_fillMost_73 3 rfl 75 rfl ?_
                refine k_iald C dX7_fillMost_75 hf 76 rfl (fun x24 hf => ?_)
                refine k_aload_n C dX7_fillMost_76 0 rfl rfl 77 rfl ?_
                refine k_getR C fe_X7_23 rfl dX7_fillMost_77 hf 80 rfl (fun r25 hf => ?_)
                refine k_iload_n C dX7_fillMost_80 2 rfl 81 rfl ?_
                refine k_aald19 C dX7_fillMost_81 hf 82 rfl (fun r26 hf => ?_)
                refine k_iload C dX7_fillMost_82 4 rfl 84 rfl ?_
                refine k_iald C dX7_fillMost_84 hf 85 rfl (fun x27 hf => ?_)
                refine k_aload_n C dX7_fillMost_85 0 rfl rfl 86 rfl ?_
                refine k_getR C fe_X7_26 rfl dX7_fillMost_86 hf 89 rfl (fun r28 hf => ?_)
                refine k_iload_n C dX7_fillMost_89 2 rfl 90 rfl ?_
                refine k_iconst C dX7_fillMost_90 (1) (by decide) 91 rfl ?_
                refine k_iadd C dX7_fillMost_91 92 rfl ?_
                refine k_aald19 C dX7_fillMost_92 hf 93 rfl (fun r29 hf => ?_)
                refine k_iload C dX7_fillMost_93 3 rfl 95 rfl ?_
                refine k_iload C dX7_fillMost_95 4 rfl 97 rfl ?_
                refine k_isub C dX7_fillMost_97 98 rfl ?_
                refine k_iald C dX7_fillMost_98 hf 99 rfl (fun x30 hf => ?_)
                refine k_iadd C dX7_fillMost_99 100 rfl ?_
                refine k_mmax C mm_X7_81 mms_mmax mmi mmc_mmax (Nat.le_of_ble_eq_true rfl) (Nat.le_of_ble_eq_true rfl) ⟨rfl, rfl⟩ dX7_fillMost_100 103 rfl ?_
                refine k_iast C dX7_fillMost_103 hf 104 rfl (fun w31 _ hf => ?_)
                refine k_iinc C dX7_fillMost_104 4 rfl (by decide) (by decide) [(5, .int (v5 + (1 : Int32))), (0, rV (xg X) v0), (2, .int v2), (3, .int v3), (4, .int v4)] rfl 107 rfl ?_
                refine k_goto C dX7_fillMost_107 52 rfl ?_
                refine k_sub [1, 2, 3, 4, 0] rfl ?_
                exact ih52 _ _ _ _ _ w31 hf
          intro v0 v2 v3 v4 w hf
          rw [f_X7_fillMost_33] at hf
          refine k_iload C dX7_fillMost_33 3 rfl 35 rfl ?_
          refine k_iload_n C dX7_fillMost_35 1 rfl 36 rfl ?_
          refine k_icmp_gt C dX7_fillMost_36 hf 116 rfl 39 rfl (fun hf => ?_) (fun hf => ?_)
          · refine k_iinc C dX7_fillMost_116 2 rfl (by decide) (by decide) [(3, .int (v3 + (-1 : Int32))), (0, rV (xg X) v0), (2, .int v2), (4, .int v4)] rfl 119 rfl ?_
            refine k_goto C dX7_fillMost_119 26 rfl ?_
            refine k_sub [1, 2, 0] rfl ?_
            exact ih26 _ _ _ w hf
          · refine k_aload_n C dX7_fillMost_39 0 rfl rfl 40 rfl ?_
            refine k_getR C fe_X7_26 rfl dX7_fillMost_40 hf 43 rfl (fun r32 hf => ?_)
            refine k_iload_n C dX7_fillMost_43 2 rfl 44 rfl ?_
            refine k_aald19 C dX7_fillMost_44 hf 45 rfl (fun r33 hf => ?_)
            refine k_iload C dX7_fillMost_45 3 rfl 47 rfl ?_
            refine k_iconst C dX7_fillMost_47 (0) (by decide) 48 rfl ?_
            refine k_iast C dX7_fillMost_48 hf 49 rfl (fun w34 _ hf => ?_)
            refine k_iconst C dX7_fillMost_49 (0) (by decide) 50 rfl ?_
            refine k_istore C dX7_fillMost_50 (by decide) [(5, .int (0 : Int32)), (0, rV (xg X) v0), (2, .int v2), (3, .int v3), (4, .int v4)] rfl 52 rfl ?_
            refine k_sub [1, 2, 3, 4, 0] rfl ?_
            exact t_52 4096 _ _ _ _ _ w34 hf
      intro v0 v2 v3 w hf
      rw [f_X7_fillMost_26] at hf
      refine k_iload_n C dX7_fillMost_26 2 rfl 27 rfl ?_
      refine k_if_lt C dX7_fillMost_27 hf 122 rfl 30 rfl (fun hf => ?_) (fun hf => ?_)
      · exact k_vret C hr h0 dX7_fillMost_122 hf
      · refine k_iconst C dX7_fillMost_30 (0) (by decide) 31 rfl ?_
        refine k_istore C dX7_fillMost_31 (by decide) [(4, .int (0 : Int32)), (0, rV (xg X) v0), (2, .int v2), (3, .int v3)] rfl 33 rfl ?_
        refine k_sub [1, 2, 3, 0] rfl ?_
        exact t_33 4096 _ _ _ _ w hf
  have t_2 : ∀ (n : Nat) (v0 : Nat) (v1 : Int32) (v2 : Int32) (v3 : Int32) (w : Wd), f_X7_fillMost_2 n v0 v1 v2 v3 w = some ((), wz) → Wk X 0 0 (QV X 0 0 w0 wz) w [(0, rV (xg X) v0), (1, .int v1), (2, .int v2), (3, .int v3)] 2 [] := by
    intro n
    induction n with
    | zero => intro v0 v1 v2 v3 w hf; rw [f_X7_fillMost_2] at hf; cases hf
    | succ n2 ih2 =>
      intro v0 v1 v2 v3 w hf
      rw [f_X7_fillMost_2] at hf
      refine k_iload_n C dX7_fillMost_2 3 rfl 3 rfl ?_
      refine k_iload_n C dX7_fillMost_3 2 rfl 4 rfl ?_
      refine k_icmp_gt C dX7_fillMost_4 hf 22 rfl 7 rfl (fun hf => ?_) (fun hf => ?_)
      · refine k_iload_n C dX7_fillMost_22 1 rfl 23 rfl ?_
        refine k_iconst C dX7_fillMost_23 (1) (by decide) 24 rfl ?_
        refine k_isub C dX7_fillMost_24 25 rfl ?_
        refine k_nmi hf (fun x35 hf => ?_)
        refine k_istore_n C dX7_fillMost_25 rfl (by decide) [(3, .int x35), (0, rV (xg X) v0), (1, .int v1), (2, .int v2)] rfl 26 rfl ?_
        refine k_sub [1, 3, 0] rfl ?_
        exact t_26 4096 _ _ _ w hf
      · refine k_aload_n C dX7_fillMost_7 0 rfl rfl 8 rfl ?_
        refine k_getR C fe_X7_26 rfl dX7_fillMost_8 hf 11 rfl (fun r36 hf => ?_)
        refine k_iload_n C dX7_fillMost_11 1 rfl 12 rfl ?_
        refine k_aald19 C dX7_fillMost_12 hf 13 rfl (fun r37 hf => ?_)
        refine k_iload_n C dX7_fillMost_13 3 rfl 14 rfl ?_
        refine k_iconst C dX7_fillMost_14 (0) (by decide) 15 rfl ?_
        refine k_iast C dX7_fillMost_15 hf 16 rfl (fun w38 _ hf => ?_)
        refine k_iinc C dX7_fillMost_16 3 rfl (by decide) (by decide) [(3, .int (v3 + (1 : Int32))), (0, rV (xg X) v0), (1, .int v1), (2, .int v2)] rfl 19 rfl ?_
        refine k_goto C dX7_fillMost_19 2 rfl ?_
        refine k_sub [1, 2, 3, 0] rfl ?_
        exact ih2 _ _ _ _ w38 hf
  unfold f_X7_fillMost at hf
  refine k_sub (lv2 := [(0, rV (xg X) p0), (1, .int p1), (2, .int p2)]) [0, 1, 2] rfl ?_
  refine k_iconst C dX7_fillMost_0 (0) (by decide) 1 rfl ?_
  refine k_istore_n C dX7_fillMost_1 rfl (by decide) [(3, .int (0 : Int32)), (0, rV (xg X) p0), (1, .int p1), (2, .int p2)] rfl 2 rfl ?_
  refine k_sub [1, 2, 3, 0] rfl ?_
  exact t_2 4096 _ _ _ _ w0 hf
theorem dX7_fillStreet_0 : decode cX7_fillStreet 0 = .ok (.iconst 0, 1) := by decide +kernel
theorem dX7_fillStreet_1 : decode cX7_fillStreet 1 = .ok (.istore_n 3, 1) := by decide +kernel
theorem dX7_fillStreet_2 : decode cX7_fillStreet 2 = .ok (.iload_n 3, 1) := by decide +kernel
theorem dX7_fillStreet_3 : decode cX7_fillStreet 3 = .ok (.aload_n 1, 1) := by decide +kernel
theorem dX7_fillStreet_4 : decode cX7_fillStreet 4 = .ok (.getfield 42, 3) := by decide +kernel
theorem dX7_fillStreet_7 : decode cX7_fillStreet 7 = .ok (.if_icmp .ge 121, 3) := by decide +kernel
theorem dX7_fillStreet_10 : decode cX7_fillStreet 10 = .ok (.aload_n 1, 1) := by decide +kernel
theorem dX7_fillStreet_11 : decode cX7_fillStreet 11 = .ok (.getfield 56, 3) := by decide +kernel
theorem dX7_fillStreet_14 : decode cX7_fillStreet 14 = .ok (.iload_n 3, 1) := by decide +kernel
theorem dX7_fillStreet_15 : decode cX7_fillStreet 15 = .ok (.aaload, 1) := by decide +kernel
theorem dX7_fillStreet_16 : decode cX7_fillStreet 16 = .ok (.astore 4, 2) := by decide +kernel
theorem dX7_fillStreet_18 : decode cX7_fillStreet 18 = .ok (.iload_n 2, 1) := by decide +kernel
theorem dX7_fillStreet_19 : decode cX7_fillStreet 19 = .ok (.aload_n 0, 1) := by decide +kernel
theorem dX7_fillStreet_20 : decode cX7_fillStreet 20 = .ok (.getfield 15, 3) := by decide +kernel
theorem dX7_fillStreet_23 : decode cX7_fillStreet 23 = .ok (.iload_n 3, 1) := by decide +kernel
theorem dX7_fillStreet_24 : decode cX7_fillStreet 24 = .ok (.iaload, 1) := by decide +kernel
theorem dX7_fillStreet_25 : decode cX7_fillStreet 25 = .ok (.imul, 1) := by decide +kernel
theorem dX7_fillStreet_26 : decode cX7_fillStreet 26 = .ok (.istore 5, 2) := by decide +kernel
theorem dX7_fillStreet_28 : decode cX7_fillStreet 28 = .ok (.aload_n 0, 1) := by decide +kernel
theorem dX7_fillStreet_29 : decode cX7_fillStreet 29 = .ok (.getfield 29, 3) := by decide +kernel
theorem dX7_fillStreet_32 : decode cX7_fillStreet 32 = .ok (.iload_n 3, 1) := by decide +kernel
theorem dX7_fillStreet_33 : decode cX7_fillStreet 33 = .ok (.aload 4, 2) := by decide +kernel
theorem dX7_fillStreet_35 : decode cX7_fillStreet 35 = .ok (.iload 5, 2) := by decide +kernel
theorem dX7_fillStreet_37 : decode cX7_fillStreet 37 = .ok (.aload 4, 2) := by decide +kernel
theorem dX7_fillStreet_39 : decode cX7_fillStreet 39 = .ok (.getfield 84, 3) := by decide +kernel
theorem dX7_fillStreet_42 : decode cX7_fillStreet 42 = .ok (.invokevirtual 87, 3) := by decide +kernel
theorem dX7_fillStreet_45 : decode cX7_fillStreet 45 = .ok (.iastore, 1) := by decide +kernel
theorem dX7_fillStreet_46 : decode cX7_fillStreet 46 = .ok (.aload_n 0, 1) := by decide +kernel
theorem dX7_fillStreet_47 : decode cX7_fillStreet 47 = .ok (.getfield 32, 3) := by decide +kernel
theorem dX7_fillStreet_50 : decode cX7_fillStreet 50 = .ok (.iload_n 3, 1) := by decide +kernel
theorem dX7_fillStreet_51 : decode cX7_fillStreet 51 = .ok (.iconst 0, 1) := by decide +kernel
theorem dX7_fillStreet_52 : decode cX7_fillStreet 52 = .ok (.iastore, 1) := by decide +kernel
theorem dX7_fillStreet_53 : decode cX7_fillStreet 53 = .ok (.aload_n 0, 1) := by decide +kernel
theorem dX7_fillStreet_54 : decode cX7_fillStreet 54 = .ok (.getfield 35, 3) := by decide +kernel
theorem dX7_fillStreet_57 : decode cX7_fillStreet 57 = .ok (.iload_n 3, 1) := by decide +kernel
theorem dX7_fillStreet_58 : decode cX7_fillStreet 58 = .ok (.iconst 0, 1) := by decide +kernel
theorem dX7_fillStreet_59 : decode cX7_fillStreet 59 = .ok (.iastore, 1) := by decide +kernel
theorem dX7_fillStreet_60 : decode cX7_fillStreet 60 = .ok (.iconst 0, 1) := by decide +kernel
theorem dX7_fillStreet_61 : decode cX7_fillStreet 61 = .ok (.istore 6, 2) := by decide +kernel
theorem dX7_fillStreet_63 : decode cX7_fillStreet 63 = .ok (.iload 6, 2) := by decide +kernel
theorem dX7_fillStreet_65 : decode cX7_fillStreet 65 = .ok (.iload 5, 2) := by decide +kernel
theorem dX7_fillStreet_67 : decode cX7_fillStreet 67 = .ok (.if_icmp .ge 55, 3) := by decide +kernel
theorem dX7_fillStreet_70 : decode cX7_fillStreet 70 = .ok (.aload 4, 2) := by decide +kernel
theorem dX7_fillStreet_72 : decode cX7_fillStreet 72 = .ok (.getfield 84, 3) := by decide +kernel
theorem dX7_fillStreet_75 : decode cX7_fillStreet 75 = .ok (.iconst 2, 1) := by decide +kernel
theorem dX7_fillStreet_76 : decode cX7_fillStreet 76 = .ok (.iload 6, 2) := by decide +kernel
theorem dX7_fillStreet_78 : decode cX7_fillStreet 78 = .ok (.imul, 1) := by decide +kernel
theorem dX7_fillStreet_79 : decode cX7_fillStreet 79 = .ok (.iadd, 1) := by decide +kernel
theorem dX7_fillStreet_80 : decode cX7_fillStreet 80 = .ok (.istore 7, 2) := by decide +kernel
theorem dX7_fillStreet_82 : decode cX7_fillStreet 82 = .ok (.aload_n 0, 1) := by decide +kernel
theorem dX7_fillStreet_83 : decode cX7_fillStreet 83 = .ok (.getfield 32, 3) := by decide +kernel
theorem dX7_fillStreet_86 : decode cX7_fillStreet 86 = .ok (.iload_n 3, 1) := by decide +kernel
theorem dX7_fillStreet_87 : decode cX7_fillStreet 87 = .ok (.dup2, 1) := by decide +kernel
theorem dX7_fillStreet_88 : decode cX7_fillStreet 88 = .ok (.iaload, 1) := by decide +kernel
theorem dX7_fillStreet_89 : decode cX7_fillStreet 89 = .ok (.aload 4, 2) := by decide +kernel
theorem dX7_fillStreet_91 : decode cX7_fillStreet 91 = .ok (.iload 7, 2) := by decide +kernel
theorem dX7_fillStreet_93 : decode cX7_fillStreet 93 = .ok (.invokevirtual 97, 3) := by decide +kernel
theorem dX7_fillStreet_96 : decode cX7_fillStreet 96 = .ok (.iadd, 1) := by decide +kernel
theorem dX7_fillStreet_97 : decode cX7_fillStreet 97 = .ok (.iastore, 1) := by decide +kernel
theorem dX7_fillStreet_98 : decode cX7_fillStreet 98 = .ok (.aload_n 0, 1) := by decide +kernel
theorem dX7_fillStreet_99 : decode cX7_fillStreet 99 = .ok (.getfield 35, 3) := by decide +kernel
theorem dX7_fillStreet_102 : decode cX7_fillStreet 102 = .ok (.iload_n 3, 1) := by decide +kernel
theorem dX7_fillStreet_103 : decode cX7_fillStreet 103 = .ok (.dup2, 1) := by decide +kernel
theorem dX7_fillStreet_104 : decode cX7_fillStreet 104 = .ok (.iaload, 1) := by decide +kernel
theorem dX7_fillStreet_105 : decode cX7_fillStreet 105 = .ok (.aload 4, 2) := by decide +kernel
theorem dX7_fillStreet_107 : decode cX7_fillStreet 107 = .ok (.iload 7, 2) := by decide +kernel
theorem dX7_fillStreet_109 : decode cX7_fillStreet 109 = .ok (.iconst 1, 1) := by decide +kernel
theorem dX7_fillStreet_110 : decode cX7_fillStreet 110 = .ok (.iadd, 1) := by decide +kernel
theorem dX7_fillStreet_111 : decode cX7_fillStreet 111 = .ok (.invokevirtual 97, 3) := by decide +kernel
theorem dX7_fillStreet_114 : decode cX7_fillStreet 114 = .ok (.iadd, 1) := by decide +kernel
theorem dX7_fillStreet_115 : decode cX7_fillStreet 115 = .ok (.iastore, 1) := by decide +kernel
theorem dX7_fillStreet_116 : decode cX7_fillStreet 116 = .ok (.iinc 6 1, 3) := by decide +kernel
theorem dX7_fillStreet_119 : decode cX7_fillStreet 119 = .ok (.goto (-56), 3) := by decide +kernel
theorem dX7_fillStreet_122 : decode cX7_fillStreet 122 = .ok (.iinc 3 1, 3) := by decide +kernel
theorem dX7_fillStreet_125 : decode cX7_fillStreet 125 = .ok (.goto (-123), 3) := by decide +kernel
theorem dX7_fillStreet_128 : decode cX7_fillStreet 128 = .ok (.return_, 1) := by decide +kernel
set_option maxRecDepth 100000 in
set_option maxHeartbeats 4000000 in
theorem c_X7_fillStreet {g : Gv} {l : Launch} (p0 : Nat) (p1 : Nat) (p2 : Int32) (w0 : Wd) (wz : Wd) (hf : f_X7_fillStreet p0 p1 p2 w0 = some ((), wz)) : MV g l yX7_fillStreet cX7_fillStreet 8 4 90 0 0 [rV g p0, rV g p1, .int p2] w0 wz := by
  refine mv_of RX7 (by decide) rfl (Nat.le_of_ble_eq_true rfl) ?_
  intro X hg hll C hr h0 hin
  subst hg; subst hll
  have t_2 : ∀ (n : Nat) (v0 : Nat) (v1 : Nat) (v2 : Int32) (v3 : Int32) (w : Wd), f_X7_fillStreet_2 n v0 v1 v2 v3 w = some ((), wz) → Wk X 0 0 (QV X 0 0 w0 wz) w [(0, rV (xg X) v0), (1, rV (xg X) v1), (2, .int v2), (3, .int v3)] 2 [] := by
    intro n
    induction n with
    | zero => intro v0 v1 v2 v3 w hf; rw [f_X7_fillStreet_2] at hf; cases hf
    | succ n2 ih2 =>
      have t_63 : ∀ (n : Nat) (v0 : Nat) (v1 : Nat) (v2 : Int32) (v3 : Int32) (v4 : Nat) (v5 : Int32) (v6 : Int32) (w : Wd), f_X7_fillStreet_63 (f_X7_fillStreet_2 n2) n v0 v1 v2 v3 v4 v5 v6 w = some ((), wz) → Wk X 0 0 (QV X 0 0 w0 wz) w [(0, rV (xg X) v0), (1, rV (xg X) v1), (2, .int v2), (3, .int v3), (4, rV (xg X) v4), (5, .int v5), (6, .int v6)] 63 [] := by
        intro n
        induction n with
        | zero => intro v0 v1 v2 v3 v4 v5 v6 w hf; rw [f_X7_fillStreet_63] at hf; cases hf
        | succ n63 ih63 =>
          intro v0 v1 v2 v3 v4 v5 v6 w hf
          rw [f_X7_fillStreet_63] at hf
          refine k_iload C dX7_fillStreet_63 6 rfl 65 rfl ?_
          refine k_iload C dX7_fillStreet_65 5 rfl 67 rfl ?_
          refine k_icmp_ge C dX7_fillStreet_67 hf 122 rfl 70 rfl (fun hf => ?_) (fun hf => ?_)
          · refine k_iinc C dX7_fillStreet_122 3 rfl (by decide) (by decide) [(3, .int (v3 + (1 : Int32))), (0, rV (xg X) v0), (1, rV (xg X) v1), (2, .int v2), (4, rV (xg X) v4), (5, .int v5), (6, .int v6)] rfl 125 rfl ?_
            refine k_goto C dX7_fillStreet_125 2 rfl ?_
            refine k_sub [1, 2, 3, 0] rfl ?_
            exact ih2 _ _ _ _ w hf
          · refine k_aload C dX7_fillStreet_70 4 rfl rfl 72 rfl ?_
            refine k_getI C fe_X7_84 rfl dX7_fillStreet_72 hf 75 rfl (fun x28 hf => ?_)
            refine k_iconst C dX7_fillStreet_75 (2) (by decide) 76 rfl ?_
            refine k_iload C dX7_fillStreet_76 6 rfl 78 rfl ?_
            refine k_imul C dX7_fillStreet_78 79 rfl ?_
            refine k_iadd C dX7_fillStreet_79 80 rfl ?_
            refine k_nmi hf (fun x29 hf => ?_)
            refine k_istore C dX7_fillStreet_80 (by decide) [(7, .int x29), (0, rV (xg X) v0), (1, rV (xg X) v1), (2, .int v2), (3, .int v3), (4, rV (xg X) v4), (5, .int v5), (6, .int v6)] rfl 82 rfl ?_
            refine k_aload_n C dX7_fillStreet_82 1 rfl rfl 83 rfl ?_
            refine k_getR C fe_X7_32 rfl dX7_fillStreet_83 hf 86 rfl (fun r30 hf => ?_)
            refine k_iload_n C dX7_fillStreet_86 4 rfl 87 rfl ?_
            refine k_dup2 C dX7_fillStreet_87 rfl rfl 88 rfl ?_
            refine k_iald C dX7_fillStreet_88 hf 89 rfl (fun x31 hf => ?_)
            refine k_aload C dX7_fillStreet_89 5 rfl rfl 91 rfl ?_
            refine k_iload C dX7_fillStreet_91 0 rfl 93 rfl ?_
            refine k_callV_i C ye_X1_fetchesWhen ve_X7_97 ⟨rfl, rfl⟩ ⟨rfl, rfl⟩ dX7_fillStreet_93 [.int x29] rfl rfl (Nat.le_of_ble_eq_true rfl) (c_X1_fetchesWhen _ _ _) hf 96 rfl (fun x33 w32 hf => ?_)
            refine k_iadd C dX7_fillStreet_96 97 rfl ?_
            refine k_iast C dX7_fillStreet_97 hf 98 rfl (fun w34 _ hf => ?_)
            refine k_aload_n C dX7_fillStreet_98 1 rfl rfl 99 rfl ?_
            refine k_getR C fe_X7_35 rfl dX7_fillStreet_99 hf 102 rfl (fun r35 hf => ?_)
            refine k_iload_n C dX7_fillStreet_102 4 rfl 103 rfl ?_
            refine k_dup2 C dX7_fillStreet_103 rfl rfl 104 rfl ?_
            refine k_iald C dX7_fillStreet_104 hf 105 rfl (fun x36 hf => ?_)
            refine k_aload C dX7_fillStreet_105 5 rfl rfl 107 rfl ?_
            refine k_iload C dX7_fillStreet_107 0 rfl 109 rfl ?_
            refine k_iconst C dX7_fillStreet_109 (1) (by decide) 110 rfl ?_
            refine k_iadd C dX7_fillStreet_110 111 rfl ?_
            refine k_callV_i C ye_X1_fetchesWhen ve_X7_97 ⟨rfl, rfl⟩ ⟨rfl, rfl⟩ dX7_fillStreet_111 [.int (x29 + (1 : Int32))] rfl rfl (Nat.le_of_ble_eq_true rfl) (c_X1_fetchesWhen _ _ _) hf 114 rfl (fun x38 w37 hf => ?_)
            refine k_iadd C dX7_fillStreet_114 115 rfl ?_
            refine k_iast C dX7_fillStreet_115 hf 116 rfl (fun w39 _ hf => ?_)
            refine k_iinc C dX7_fillStreet_116 7 rfl (by decide) (by decide) [(6, .int (v6 + (1 : Int32))), (7, .int x29), (0, rV (xg X) v0), (1, rV (xg X) v1), (2, .int v2), (3, .int v3), (4, rV (xg X) v4), (5, .int v5)] rfl 119 rfl ?_
            refine k_goto C dX7_fillStreet_119 63 rfl ?_
            refine k_sub [2, 3, 4, 5, 6, 7, 0] rfl ?_
            exact ih63 _ _ _ _ _ _ _ w39 hf
      intro v0 v1 v2 v3 w hf
      rw [f_X7_fillStreet_2] at hf
      refine k_iload_n C dX7_fillStreet_2 3 rfl 3 rfl ?_
      refine k_aload_n C dX7_fillStreet_3 1 rfl rfl 4 rfl ?_
      refine k_getI C fe_X7_42 rfl dX7_fillStreet_4 hf 7 rfl (fun x40 hf => ?_)
      refine k_icmp_ge C dX7_fillStreet_7 hf 128 rfl 10 rfl (fun hf => ?_) (fun hf => ?_)
      · exact k_vret C hr h0 dX7_fillStreet_128 hf
      · refine k_aload_n C dX7_fillStreet_10 1 rfl rfl 11 rfl ?_
        refine k_getR C fe_X7_56 rfl dX7_fillStreet_11 hf 14 rfl (fun r41 hf => ?_)
        refine k_iload_n C dX7_fillStreet_14 3 rfl 15 rfl ?_
        refine k_aald16 C dX7_fillStreet_15 hf 16 rfl (fun r42 hf => ?_)
        refine k_astore C dX7_fillStreet_16 rfl (by decide) [(4, rV (xg X) r42), (0, rV (xg X) v0), (1, rV (xg X) v1), (2, .int v2), (3, .int v3)] rfl 18 rfl ?_
        refine k_iload_n C dX7_fillStreet_18 3 rfl 19 rfl ?_
        refine k_aload_n C dX7_fillStreet_19 1 rfl rfl 20 rfl ?_
        refine k_getR C fe_X7_15 rfl dX7_fillStreet_20 hf 23 rfl (fun r43 hf => ?_)
        refine k_iload_n C dX7_fillStreet_23 4 rfl 24 rfl ?_
        refine k_iald C dX7_fillStreet_24 hf 25 rfl (fun x44 hf => ?_)
        refine k_imul C dX7_fillStreet_25 26 rfl ?_
        refine k_nmi hf (fun x45 hf => ?_)
        refine k_istore C dX7_fillStreet_26 (by decide) [(5, .int x45), (4, rV (xg X) r42), (0, rV (xg X) v0), (1, rV (xg X) v1), (2, .int v2), (3, .int v3)] rfl 28 rfl ?_
        refine k_aload_n C dX7_fillStreet_28 2 rfl rfl 29 rfl ?_
        refine k_getR C fe_X7_29 rfl dX7_fillStreet_29 hf 32 rfl (fun r46 hf => ?_)
        refine k_iload_n C dX7_fillStreet_32 5 rfl 33 rfl ?_
        refine k_aload C dX7_fillStreet_33 1 rfl rfl 35 rfl ?_
        refine k_iload C dX7_fillStreet_35 0 rfl 37 rfl ?_
        refine k_aload C dX7_fillStreet_37 1 rfl rfl 39 rfl ?_
        refine k_getI C fe_X7_84 rfl dX7_fillStreet_39 hf 42 rfl (fun x47 hf => ?_)
        refine k_callV_i C ye_X1_fetchedBy ve_X7_87 ⟨rfl, rfl⟩ ⟨rfl, rfl⟩ dX7_fillStreet_42 [.int x45, .int x47] rfl rfl (Nat.le_of_ble_eq_true rfl) (c_X1_fetchedBy _ _ _ _) hf 45 rfl (fun x49 w48 hf => ?_)
        refine k_iast C dX7_fillStreet_45 hf 46 rfl (fun w50 _ hf => ?_)
        refine k_aload_n C dX7_fillStreet_46 2 rfl rfl 47 rfl ?_
        refine k_getR C fe_X7_32 rfl dX7_fillStreet_47 hf 50 rfl (fun r51 hf => ?_)
        refine k_iload_n C dX7_fillStreet_50 5 rfl 51 rfl ?_
        refine k_iconst C dX7_fillStreet_51 (0) (by decide) 52 rfl ?_
        refine k_iast C dX7_fillStreet_52 hf 53 rfl (fun w52 _ hf => ?_)
        refine k_aload_n C dX7_fillStreet_53 2 rfl rfl 54 rfl ?_
        refine k_getR C fe_X7_35 rfl dX7_fillStreet_54 hf 57 rfl (fun r53 hf => ?_)
        refine k_iload_n C dX7_fillStreet_57 5 rfl 58 rfl ?_
        refine k_iconst C dX7_fillStreet_58 (0) (by decide) 59 rfl ?_
        refine k_iast C dX7_fillStreet_59 hf 60 rfl (fun w54 _ hf => ?_)
        refine k_iconst C dX7_fillStreet_60 (0) (by decide) 61 rfl ?_
        refine k_istore C dX7_fillStreet_61 (by decide) [(6, .int (0 : Int32)), (5, .int x45), (4, rV (xg X) r42), (0, rV (xg X) v0), (1, rV (xg X) v1), (2, .int v2), (3, .int v3)] rfl 63 rfl ?_
        refine k_sub [3, 4, 5, 6, 2, 1, 0] rfl ?_
        exact t_63 4096 _ _ _ _ _ _ _ w54 hf
  unfold f_X7_fillStreet at hf
  refine k_sub (lv2 := [(0, rV (xg X) p0), (1, rV (xg X) p1), (2, .int p2)]) [0, 1, 2] rfl ?_
  refine k_iconst C dX7_fillStreet_0 (0) (by decide) 1 rfl ?_
  refine k_istore_n C dX7_fillStreet_1 rfl (by decide) [(3, .int (0 : Int32)), (0, rV (xg X) p0), (1, rV (xg X) p1), (2, .int p2)] rfl 2 rfl ?_
  refine k_sub [1, 2, 3, 0] rfl ?_
  exact t_2 4096 _ _ _ _ w0 hf
theorem dX7_firstHas_0 : decode cX7_firstHas 0 = .ok (.iload_n 1, 1) := by decide +kernel
theorem dX7_firstHas_1 : decode cX7_firstHas 1 = .ok (.iload_n 2, 1) := by decide +kernel
theorem dX7_firstHas_2 : decode cX7_firstHas 2 = .ok (.if_icmp .ne 12, 3) := by decide +kernel
theorem dX7_firstHas_5 : decode cX7_firstHas 5 = .ok (.aload_n 0, 1) := by decide +kernel
theorem dX7_firstHas_6 : decode cX7_firstHas 6 = .ok (.getfield 32, 3) := by decide +kernel
theorem dX7_firstHas_9 : decode cX7_firstHas 9 = .ok (.iload_n 1, 1) := by decide +kernel
theorem dX7_firstHas_10 : decode cX7_firstHas 10 = .ok (.iaload, 1) := by decide +kernel
theorem dX7_firstHas_11 : decode cX7_firstHas 11 = .ok (.goto 9, 3) := by decide +kernel
theorem dX7_firstHas_14 : decode cX7_firstHas 14 = .ok (.aload_n 0, 1) := by decide +kernel
theorem dX7_firstHas_15 : decode cX7_firstHas 15 = .ok (.getfield 29, 3) := by decide +kernel
theorem dX7_firstHas_18 : decode cX7_firstHas 18 = .ok (.iload_n 1, 1) := by decide +kernel
theorem dX7_firstHas_19 : decode cX7_firstHas 19 = .ok (.iaload, 1) := by decide +kernel
theorem dX7_firstHas_20 : decode cX7_firstHas 20 = .ok (.ireturn, 1) := by decide +kernel
set_option maxRecDepth 100000 in
set_option maxHeartbeats 4000000 in
theorem c_X7_firstHas {g : Gv} {l : Launch} (p0 : Nat) (p1 : Int32) (p2 : Int32) (w0 : Wd) (rz : Int32) (wz : Wd) (hf : f_X7_firstHas p0 p1 p2 w0 = some (rz, wz)) : MI g l yX7_firstHas cX7_firstHas 3 .int 0 0 [rV g p0, .int p1, .int p2] w0 rz wz := by
  refine mi_of RX7 (by decide) rfl (Nat.le_of_ble_eq_true rfl) ?_
  intro X hg hll C hr h0
  subst hg; subst hll
  have t_20 : ∀ (s0 : Int32) (w : Wd), f_X7_firstHas_20 s0 w = some (rz, wz) → Wk X 0 0 (QI X w0 rz wz) w [] 20 [.int s0] := by
    intro s0 w hf
    unfold f_X7_firstHas_20 at hf
    exact k_iret C hr h0 dX7_firstHas_20 hf
  unfold f_X7_firstHas at hf
  refine k_sub (lv2 := [(0, rV (xg X) p0), (1, .int p1), (2, .int p2)]) [0, 1, 2] rfl ?_
  refine k_iload_n C dX7_firstHas_0 1 rfl 1 rfl ?_
  refine k_iload_n C dX7_firstHas_1 2 rfl 2 rfl ?_
  refine k_icmp_ne C dX7_firstHas_2 hf 14 rfl 5 rfl (fun hf => ?_) (fun hf => ?_)
  · refine k_aload_n C dX7_firstHas_14 0 rfl rfl 15 rfl ?_
    refine k_getR C fe_X7_29 rfl dX7_firstHas_15 hf 18 rfl (fun r5 hf => ?_)
    refine k_iload_n C dX7_firstHas_18 1 rfl 19 rfl ?_
    refine k_iald C dX7_firstHas_19 hf 20 rfl (fun x6 hf => ?_)
    refine k_sub [] rfl ?_
    exact t_20 _ w0 hf
  · refine k_aload_n C dX7_firstHas_5 0 rfl rfl 6 rfl ?_
    refine k_getR C fe_X7_32 rfl dX7_firstHas_6 hf 9 rfl (fun r7 hf => ?_)
    refine k_iload_n C dX7_firstHas_9 1 rfl 10 rfl ?_
    refine k_iald C dX7_firstHas_10 hf 11 rfl (fun x8 hf => ?_)
    refine k_goto C dX7_firstHas_11 20 rfl ?_
    refine k_sub [] rfl ?_
    exact t_20 _ w0 hf
theorem dX7_mostMoney_0 : decode cX7_mostMoney 0 = .ok (.aload_n 0, 1) := by decide +kernel
theorem dX7_mostMoney_1 : decode cX7_mostMoney 1 = .ok (.aload_n 1, 1) := by decide +kernel
theorem dX7_mostMoney_2 : decode cX7_mostMoney 2 = .ok (.invokevirtual 38, 3) := by decide +kernel
theorem dX7_mostMoney_5 : decode cX7_mostMoney 5 = .ok (.aload_n 0, 1) := by decide +kernel
theorem dX7_mostMoney_6 : decode cX7_mostMoney 6 = .ok (.aload_n 1, 1) := by decide +kernel
theorem dX7_mostMoney_7 : decode cX7_mostMoney 7 = .ok (.iload_n 2, 1) := by decide +kernel
theorem dX7_mostMoney_8 : decode cX7_mostMoney 8 = .ok (.invokevirtual 74, 3) := by decide +kernel
theorem dX7_mostMoney_11 : decode cX7_mostMoney 11 = .ok (.aload_n 0, 1) := by decide +kernel
theorem dX7_mostMoney_12 : decode cX7_mostMoney 12 = .ok (.aload_n 1, 1) := by decide +kernel
theorem dX7_mostMoney_13 : decode cX7_mostMoney 13 = .ok (.getfield 42, 3) := by decide +kernel
theorem dX7_mostMoney_16 : decode cX7_mostMoney 16 = .ok (.iload_n 2, 1) := by decide +kernel
theorem dX7_mostMoney_17 : decode cX7_mostMoney 17 = .ok (.invokevirtual 78, 3) := by decide +kernel
theorem dX7_mostMoney_20 : decode cX7_mostMoney 20 = .ok (.iload_n 2, 1) := by decide +kernel
theorem dX7_mostMoney_21 : decode cX7_mostMoney 21 = .ok (.istore_n 3, 1) := by decide +kernel
theorem dX7_mostMoney_22 : decode cX7_mostMoney 22 = .ok (.iconst 0, 1) := by decide +kernel
theorem dX7_mostMoney_23 : decode cX7_mostMoney 23 = .ok (.istore 4, 2) := by decide +kernel
theorem dX7_mostMoney_25 : decode cX7_mostMoney 25 = .ok (.iload 4, 2) := by decide +kernel
theorem dX7_mostMoney_27 : decode cX7_mostMoney 27 = .ok (.aload_n 1, 1) := by decide +kernel
theorem dX7_mostMoney_28 : decode cX7_mostMoney 28 = .ok (.getfield 42, 3) := by decide +kernel
theorem dX7_mostMoney_31 : decode cX7_mostMoney 31 = .ok (.if_icmp .ge 90, 3) := by decide +kernel
theorem dX7_mostMoney_34 : decode cX7_mostMoney 34 = .ok (.aload_n 0, 1) := by decide +kernel
theorem dX7_mostMoney_35 : decode cX7_mostMoney 35 = .ok (.getfield 9, 3) := by decide +kernel
theorem dX7_mostMoney_38 : decode cX7_mostMoney 38 = .ok (.iload 4, 2) := by decide +kernel
theorem dX7_mostMoney_40 : decode cX7_mostMoney 40 = .ok (.iconst 0, 1) := by decide +kernel
theorem dX7_mostMoney_41 : decode cX7_mostMoney 41 = .ok (.iastore, 1) := by decide +kernel
theorem dX7_mostMoney_42 : decode cX7_mostMoney 42 = .ok (.iload_n 3, 1) := by decide +kernel
theorem dX7_mostMoney_43 : decode cX7_mostMoney 43 = .ok (.istore 5, 2) := by decide +kernel
theorem dX7_mostMoney_45 : decode cX7_mostMoney 45 = .ok (.iload 5, 2) := by decide +kernel
theorem dX7_mostMoney_47 : decode cX7_mostMoney 47 = .ok (.ifCond .le 58, 3) := by decide +kernel
theorem dX7_mostMoney_50 : decode cX7_mostMoney 50 = .ok (.aload_n 0, 1) := by decide +kernel
theorem dX7_mostMoney_51 : decode cX7_mostMoney 51 = .ok (.getfield 23, 3) := by decide +kernel
theorem dX7_mostMoney_54 : decode cX7_mostMoney 54 = .ok (.iload 4, 2) := by decide +kernel
theorem dX7_mostMoney_56 : decode cX7_mostMoney 56 = .ok (.aaload, 1) := by decide +kernel
theorem dX7_mostMoney_57 : decode cX7_mostMoney 57 = .ok (.iload 5, 2) := by decide +kernel
theorem dX7_mostMoney_59 : decode cX7_mostMoney 59 = .ok (.iaload, 1) := by decide +kernel
theorem dX7_mostMoney_60 : decode cX7_mostMoney 60 = .ok (.aload_n 0, 1) := by decide +kernel
theorem dX7_mostMoney_61 : decode cX7_mostMoney 61 = .ok (.getfield 26, 3) := by decide +kernel
theorem dX7_mostMoney_64 : decode cX7_mostMoney 64 = .ok (.iload 4, 2) := by decide +kernel
theorem dX7_mostMoney_66 : decode cX7_mostMoney 66 = .ok (.iconst 1, 1) := by decide +kernel
theorem dX7_mostMoney_67 : decode cX7_mostMoney 67 = .ok (.iadd, 1) := by decide +kernel
theorem dX7_mostMoney_68 : decode cX7_mostMoney 68 = .ok (.aaload, 1) := by decide +kernel
theorem dX7_mostMoney_69 : decode cX7_mostMoney 69 = .ok (.iload_n 3, 1) := by decide +kernel
theorem dX7_mostMoney_70 : decode cX7_mostMoney 70 = .ok (.iload 5, 2) := by decide +kernel
theorem dX7_mostMoney_72 : decode cX7_mostMoney 72 = .ok (.isub, 1) := by decide +kernel
theorem dX7_mostMoney_73 : decode cX7_mostMoney 73 = .ok (.iaload, 1) := by decide +kernel
theorem dX7_mostMoney_74 : decode cX7_mostMoney 74 = .ok (.iadd, 1) := by decide +kernel
theorem dX7_mostMoney_75 : decode cX7_mostMoney 75 = .ok (.aload_n 0, 1) := by decide +kernel
theorem dX7_mostMoney_76 : decode cX7_mostMoney 76 = .ok (.getfield 26, 3) := by decide +kernel
theorem dX7_mostMoney_79 : decode cX7_mostMoney 79 = .ok (.iload 4, 2) := by decide +kernel
theorem dX7_mostMoney_81 : decode cX7_mostMoney 81 = .ok (.aaload, 1) := by decide +kernel
theorem dX7_mostMoney_82 : decode cX7_mostMoney 82 = .ok (.iload_n 3, 1) := by decide +kernel
theorem dX7_mostMoney_83 : decode cX7_mostMoney 83 = .ok (.iaload, 1) := by decide +kernel
theorem dX7_mostMoney_84 : decode cX7_mostMoney 84 = .ok (.if_icmp .ne 15, 3) := by decide +kernel
theorem dX7_mostMoney_87 : decode cX7_mostMoney 87 = .ok (.aload_n 0, 1) := by decide +kernel
theorem dX7_mostMoney_88 : decode cX7_mostMoney 88 = .ok (.getfield 9, 3) := by decide +kernel
theorem dX7_mostMoney_91 : decode cX7_mostMoney 91 = .ok (.iload 4, 2) := by decide +kernel
theorem dX7_mostMoney_93 : decode cX7_mostMoney 93 = .ok (.iload 5, 2) := by decide +kernel
theorem dX7_mostMoney_95 : decode cX7_mostMoney 95 = .ok (.iastore, 1) := by decide +kernel
theorem dX7_mostMoney_96 : decode cX7_mostMoney 96 = .ok (.goto 9, 3) := by decide +kernel
theorem dX7_mostMoney_99 : decode cX7_mostMoney 99 = .ok (.iinc 5 (-1), 3) := by decide +kernel
theorem dX7_mostMoney_102 : decode cX7_mostMoney 102 = .ok (.goto (-57), 3) := by decide +kernel
theorem dX7_mostMoney_105 : decode cX7_mostMoney 105 = .ok (.iload_n 3, 1) := by decide +kernel
theorem dX7_mostMoney_106 : decode cX7_mostMoney 106 = .ok (.aload_n 0, 1) := by decide +kernel
theorem dX7_mostMoney_107 : decode cX7_mostMoney 107 = .ok (.getfield 9, 3) := by decide +kernel
theorem dX7_mostMoney_110 : decode cX7_mostMoney 110 = .ok (.iload 4, 2) := by decide +kernel
theorem dX7_mostMoney_112 : decode cX7_mostMoney 112 = .ok (.iaload, 1) := by decide +kernel
theorem dX7_mostMoney_113 : decode cX7_mostMoney 113 = .ok (.isub, 1) := by decide +kernel
theorem dX7_mostMoney_114 : decode cX7_mostMoney 114 = .ok (.istore_n 3, 1) := by decide +kernel
theorem dX7_mostMoney_115 : decode cX7_mostMoney 115 = .ok (.iinc 4 1, 3) := by decide +kernel
theorem dX7_mostMoney_118 : decode cX7_mostMoney 118 = .ok (.goto (-93), 3) := by decide +kernel
theorem dX7_mostMoney_121 : decode cX7_mostMoney 121 = .ok (.aload_n 0, 1) := by decide +kernel
theorem dX7_mostMoney_122 : decode cX7_mostMoney 122 = .ok (.getfield 26, 3) := by decide +kernel
theorem dX7_mostMoney_125 : decode cX7_mostMoney 125 = .ok (.iconst 0, 1) := by decide +kernel
theorem dX7_mostMoney_126 : decode cX7_mostMoney 126 = .ok (.aaload, 1) := by decide +kernel
theorem dX7_mostMoney_127 : decode cX7_mostMoney 127 = .ok (.iload_n 2, 1) := by decide +kernel
theorem dX7_mostMoney_128 : decode cX7_mostMoney 128 = .ok (.iaload, 1) := by decide +kernel
theorem dX7_mostMoney_129 : decode cX7_mostMoney 129 = .ok (.ireturn, 1) := by decide +kernel
set_option maxRecDepth 100000 in
set_option maxHeartbeats 4000000 in
theorem c_X7_mostMoney {g : Gv} {l : Launch} (p0 : Nat) (p1 : Nat) (p2 : Int32) (w0 : Wd) (rz : Int32) (wz : Wd) (hf : f_X7_mostMoney p0 p1 p2 w0 = some (rz, wz)) : MI g l yX7_mostMoney cX7_mostMoney 6 .int 5 116 [rV g p0, rV g p1, .int p2] w0 rz wz := by
  refine mi_of RX7 (by decide) rfl (Nat.le_of_ble_eq_true rfl) ?_
  intro X hg hll C hr h0
  subst hg; subst hll
  have t_25 : ∀ (n : Nat) (v0 : Nat) (v1 : Nat) (v2 : Int32) (v3 : Int32) (v4 : Int32) (w : Wd), f_X7_mostMoney_25 n v0 v1 v2 v3 v4 w = some (rz, wz) → Wk X 0 0 (QI X w0 rz wz) w [(0, rV (xg X) v0), (1, rV (xg X) v1), (2, .int v2), (3, .int v3), (4, .int v4)] 25 [] := by
    intro n
    induction n with
    | zero => intro v0 v1 v2 v3 v4 w hf; rw [f_X7_mostMoney_25] at hf; cases hf
    | succ n25 ih25 =>
      have t_105 : ∀ (v0 : Nat) (v1 : Nat) (v2 : Int32) (v3 : Int32) (v4 : Int32) (w : Wd), f_X7_mostMoney_105 (f_X7_mostMoney_25 n25) v0 v1 v2 v3 v4 w = some (rz, wz) → Wk X 0 0 (QI X w0 rz wz) w [(0, rV (xg X) v0), (1, rV (xg X) v1), (2, .int v2), (3, .int v3), (4, .int v4)] 105 [] := by
        intro v0 v1 v2 v3 v4 w hf
        unfold f_X7_mostMoney_105 at hf
        refine k_iload_n C dX7_mostMoney_105 3 rfl 106 rfl ?_
        refine k_aload_n C dX7_mostMoney_106 0 rfl rfl 107 rfl ?_
        refine k_getR C fe_X7_9 rfl dX7_mostMoney_107 hf 110 rfl (fun r28 hf => ?_)
        refine k_iload C dX7_mostMoney_110 4 rfl 112 rfl ?_
        refine k_iald C dX7_mostMoney_112 hf 113 rfl (fun x29 hf => ?_)
        refine k_isub C dX7_mostMoney_113 114 rfl ?_
        refine k_nmi hf (fun x30 hf => ?_)
        refine k_istore_n C dX7_mostMoney_114 rfl (by decide) [(3, .int x30), (0, rV (xg X) v0), (1, rV (xg X) v1), (2, .int v2), (4, .int v4)] rfl 115 rfl ?_
        refine k_iinc C dX7_mostMoney_115 4 rfl (by decide) (by decide) [(4, .int (v4 + (1 : Int32))), (3, .int x30), (0, rV (xg X) v0), (1, rV (xg X) v1), (2, .int v2)] rfl 118 rfl ?_
        refine k_goto C dX7_mostMoney_118 25 rfl ?_
        refine k_sub [2, 3, 4, 1, 0] rfl ?_
        exact ih25 _ _ _ _ _ w hf
      have t_45 : ∀ (n : Nat) (v0 : Nat) (v1 : Nat) (v2 : Int32) (v3 : Int32) (v4 : Int32) (v5 : Int32) (w : Wd), f_X7_mostMoney_45 (f_X7_mostMoney_25 n25) n v0 v1 v2 v3 v4 v5 w = some (rz, wz) → Wk X 0 0 (QI X w0 rz wz) w [(0, rV (xg X) v0), (1, rV (xg X) v1), (2, .int v2), (3, .int v3), (4, .int v4), (5, .int v5)] 45 [] := by
        intro n
        induction n with
        | zero => intro v0 v1 v2 v3 v4 v5 w hf; rw [f_X7_mostMoney_45] at hf; cases hf
        | succ n45 ih45 =>
          intro v0 v1 v2 v3 v4 v5 w hf
          rw [f_X7_mostMoney_45] at hf
          refine k_iload C dX7_mostMoney_45 5 rfl 47 rfl ?_
          refine k_if_le C dX7_mostMoney_47 hf 105 rfl 50 rfl (fun hf => ?_) (fun hf => ?_)
          · refine k_sub [0, 1, 2, 3, 4] rfl ?_
            exact t_105 _ _ _ _ _ w hf
          · refine k_aload_n C dX7_mostMoney_50 0 rfl rfl 51 rfl ?_
            refine k_getR C fe_X7_23 rfl dX7_mostMoney_51 hf 54 rfl (fun r31 hf => ?_)
            refine k_iload C dX7_mostMoney_54 4 rfl 56 rfl ?_
            refine k_aald19 C dX7_mostMoney_56 hf 57 rfl (fun r32 hf => ?_)
            refine k_iload C dX7_mostMoney_57 5 rfl 59 rfl ?_
            refine k_iald C dX7_mostMoney_59 hf 60 rfl (fun x33 hf => ?_)
            refine k_aload_n C dX7_mostMoney_60 0 rfl rfl 61 rfl ?_
            refine k_getR C fe_X7_26 rfl dX7_mostMoney_61 hf 64 rfl (fun r34 hf => ?_)
            refine k_iload C dX7_mostMoney_64 4 rfl 66 rfl ?_
            refine k_iconst C dX7_mostMoney_66 (1) (by decide) 67 rfl ?_
            refine k_iadd C dX7_mostMoney_67 68 rfl ?_
            refine k_aald19 C dX7_mostMoney_68 hf 69 rfl (fun r35 hf => ?_)
            refine k_iload_n C dX7_mostMoney_69 3 rfl 70 rfl ?_
            refine k_iload C dX7_mostMoney_70 5 rfl 72 rfl ?_
            refine k_isub C dX7_mostMoney_72 73 rfl ?_
            refine k_iald C dX7_mostMoney_73 hf 74 rfl (fun x36 hf => ?_)
            refine k_iadd C dX7_mostMoney_74 75 rfl ?_
            refine k_aload_n C dX7_mostMoney_75 0 rfl rfl 76 rfl ?_
            refine k_getR C fe_X7_26 rfl dX7_mostMoney_76 hf 79 rfl (fun r37 hf => ?_)
            refine k_iload C dX7_mostMoney_79 4 rfl 81 rfl ?_
            refine k_aald19 C dX7_mostMoney_81 hf 82 rfl (fun r38 hf => ?_)
            refine k_iload_n C dX7_mostMoney_82 3 rfl 83 rfl ?_
            refine k_iald C dX7_mostMoney_83 hf 84 rfl (fun x39 hf => ?_)
            refine k_icmp_ne C dX7_mostMoney_84 hf 99 rfl 87 rfl (fun hf => ?_) (fun hf => ?_)
            · refine k_iinc C dX7_mostMoney_99 5 rfl (by decide) (by decide) [(5, .int (v5 + (-1 : Int32))), (0, rV (xg X) v0), (1, rV (xg X) v1), (2, .int v2), (3, .int v3), (4, .int v4)] rfl 102 rfl ?_
              refine k_goto C dX7_mostMoney_102 45 rfl ?_
              refine k_sub [1, 2, 3, 4, 5, 0] rfl ?_
              exact ih45 _ _ _ _ _ _ w hf
            · refine k_aload_n C dX7_mostMoney_87 0 rfl rfl 88 rfl ?_
              refine k_getR C fe_X7_9 rfl dX7_mostMoney_88 hf 91 rfl (fun r40 hf => ?_)
              refine k_iload C dX7_mostMoney_91 4 rfl 93 rfl ?_
              refine k_iload C dX7_mostMoney_93 5 rfl 95 rfl ?_
              refine k_iast C dX7_mostMoney_95 hf 96 rfl (fun w41 _ hf => ?_)
              refine k_goto C dX7_mostMoney_96 105 rfl ?_
              refine k_sub [0, 1, 2, 3, 4] rfl ?_
              exact t_105 _ _ _ _ _ w41 hf
      intro v0 v1 v2 v3 v4 w hf
      rw [f_X7_mostMoney_25] at hf
      refine k_iload C dX7_mostMoney_25 4 rfl 27 rfl ?_
      refine k_aload_n C dX7_mostMoney_27 1 rfl rfl 28 rfl ?_
      refine k_getI C fe_X7_42 rfl dX7_mostMoney_28 hf 31 rfl (fun x42 hf => ?_)
      refine k_icmp_ge C dX7_mostMoney_31 hf 121 rfl 34 rfl (fun hf => ?_) (fun hf => ?_)
      · refine k_aload_n C dX7_mostMoney_121 0 rfl rfl 122 rfl ?_
        refine k_getR C fe_X7_26 rfl dX7_mostMoney_122 hf 125 rfl (fun r43 hf => ?_)
        refine k_iconst C dX7_mostMoney_125 (0) (by decide) 126 rfl ?_
        refine k_aald19 C dX7_mostMoney_126 hf 127 rfl (fun r44 hf => ?_)
        refine k_iload_n C dX7_mostMoney_127 2 rfl 128 rfl ?_
        refine k_iald C dX7_mostMoney_128 hf 129 rfl (fun x45 hf => ?_)
        exact k_iret C hr h0 dX7_mostMoney_129 hf
      · refine k_aload_n C dX7_mostMoney_34 0 rfl rfl 35 rfl ?_
        refine k_getR C fe_X7_9 rfl dX7_mostMoney_35 hf 38 rfl (fun r46 hf => ?_)
        refine k_iload C dX7_mostMoney_38 4 rfl 40 rfl ?_
        refine k_iconst C dX7_mostMoney_40 (0) (by decide) 41 rfl ?_
        refine k_iast C dX7_mostMoney_41 hf 42 rfl (fun w47 _ hf => ?_)
        refine k_iload_n C dX7_mostMoney_42 3 rfl 43 rfl ?_
        refine k_istore C dX7_mostMoney_43 (by decide) [(5, .int v3), (0, rV (xg X) v0), (1, rV (xg X) v1), (2, .int v2), (3, .int v3), (4, .int v4)] rfl 45 rfl ?_
        refine k_sub [1, 2, 3, 4, 5, 0] rfl ?_
        exact t_45 4096 _ _ _ _ _ _ w47 hf
  unfold f_X7_mostMoney at hf
  refine k_sub (lv2 := [(0, rV (xg X) p0), (1, rV (xg X) p1), (2, .int p2)]) [0, 1, 2] rfl ?_
  refine k_aload_n C dX7_mostMoney_0 0 rfl rfl 1 rfl ?_
  refine k_aload_n C dX7_mostMoney_1 1 rfl rfl 2 rfl ?_
  refine k_callV_v C ye_X7_fillYields ve_X7_38 ⟨rfl, rfl⟩ ⟨rfl, rfl⟩ dX7_mostMoney_2 [rV (xg X) p1] rfl rfl (Nat.le_of_ble_eq_true rfl) (c_X7_fillYields _ _ _) hf 5 rfl (fun w48 hf => ?_)
  refine k_aload_n C dX7_mostMoney_5 0 rfl rfl 6 rfl ?_
  refine k_aload_n C dX7_mostMoney_6 1 rfl rfl 7 rfl ?_
  refine k_iload_n C dX7_mostMoney_7 2 rfl 8 rfl ?_
  refine k_callV_v C ye_X7_fillGains ve_X7_74 ⟨rfl, rfl⟩ ⟨rfl, rfl⟩ dX7_mostMoney_8 [rV (xg X) p1, .int p2] rfl rfl (Nat.le_of_ble_eq_true rfl) (c_X7_fillGains _ _ _ _) hf 11 rfl (fun w50 hf => ?_)
  refine k_aload_n C dX7_mostMoney_11 0 rfl rfl 12 rfl ?_
  refine k_aload_n C dX7_mostMoney_12 1 rfl rfl 13 rfl ?_
  refine k_getI C fe_X7_42 rfl dX7_mostMoney_13 hf 16 rfl (fun x52 hf => ?_)
  refine k_iload_n C dX7_mostMoney_16 2 rfl 17 rfl ?_
  refine k_callV_v C ye_X7_fillMost ve_X7_78 ⟨rfl, rfl⟩ ⟨rfl, rfl⟩ dX7_mostMoney_17 [.int x52, .int p2] rfl rfl (Nat.le_of_ble_eq_true rfl) (c_X7_fillMost _ _ _ _) hf 20 rfl (fun w53 hf => ?_)
  refine k_iload_n C dX7_mostMoney_20 2 rfl 21 rfl ?_
  refine k_istore_n C dX7_mostMoney_21 rfl (by decide) [(3, .int p2), (0, rV (xg X) p0), (1, rV (xg X) p1), (2, .int p2)] rfl 22 rfl ?_
  refine k_iconst C dX7_mostMoney_22 (0) (by decide) 23 rfl ?_
  refine k_istore C dX7_mostMoney_23 (by decide) [(4, .int (0 : Int32)), (3, .int p2), (0, rV (xg X) p0), (1, rV (xg X) p1), (2, .int p2)] rfl 25 rfl ?_
  refine k_sub [2, 3, 4, 1, 0] rfl ?_
  exact t_25 4096 _ _ _ _ _ w53 hf
theorem dX7_secondHas_0 : decode cX7_secondHas 0 = .ok (.iload_n 1, 1) := by decide +kernel
theorem dX7_secondHas_1 : decode cX7_secondHas 1 = .ok (.iload_n 2, 1) := by decide +kernel
theorem dX7_secondHas_2 : decode cX7_secondHas 2 = .ok (.if_icmp .ne 12, 3) := by decide +kernel
theorem dX7_secondHas_5 : decode cX7_secondHas 5 = .ok (.aload_n 0, 1) := by decide +kernel
theorem dX7_secondHas_6 : decode cX7_secondHas 6 = .ok (.getfield 35, 3) := by decide +kernel
theorem dX7_secondHas_9 : decode cX7_secondHas 9 = .ok (.iload_n 2, 1) := by decide +kernel
theorem dX7_secondHas_10 : decode cX7_secondHas 10 = .ok (.iaload, 1) := by decide +kernel
theorem dX7_secondHas_11 : decode cX7_secondHas 11 = .ok (.goto 9, 3) := by decide +kernel
theorem dX7_secondHas_14 : decode cX7_secondHas 14 = .ok (.aload_n 0, 1) := by decide +kernel
theorem dX7_secondHas_15 : decode cX7_secondHas 15 = .ok (.getfield 29, 3) := by decide +kernel
theorem dX7_secondHas_18 : decode cX7_secondHas 18 = .ok (.iload_n 2, 1) := by decide +kernel
theorem dX7_secondHas_19 : decode cX7_secondHas 19 = .ok (.iaload, 1) := by decide +kernel
theorem dX7_secondHas_20 : decode cX7_secondHas 20 = .ok (.ireturn, 1) := by decide +kernel
set_option maxRecDepth 100000 in
set_option maxHeartbeats 4000000 in
theorem c_X7_secondHas {g : Gv} {l : Launch} (p0 : Nat) (p1 : Int32) (p2 : Int32) (w0 : Wd) (rz : Int32) (wz : Wd) (hf : f_X7_secondHas p0 p1 p2 w0 = some (rz, wz)) : MI g l yX7_secondHas cX7_secondHas 3 .int 0 0 [rV g p0, .int p1, .int p2] w0 rz wz := by
  refine mi_of RX7 (by decide) rfl (Nat.le_of_ble_eq_true rfl) ?_
  intro X hg hll C hr h0
  subst hg; subst hll
  have t_20 : ∀ (s0 : Int32) (w : Wd), f_X7_secondHas_20 s0 w = some (rz, wz) → Wk X 0 0 (QI X w0 rz wz) w [] 20 [.int s0] := by
    intro s0 w hf
    unfold f_X7_secondHas_20 at hf
    exact k_iret C hr h0 dX7_secondHas_20 hf
  unfold f_X7_secondHas at hf
  refine k_sub (lv2 := [(0, rV (xg X) p0), (1, .int p1), (2, .int p2)]) [0, 1, 2] rfl ?_
  refine k_iload_n C dX7_secondHas_0 1 rfl 1 rfl ?_
  refine k_iload_n C dX7_secondHas_1 2 rfl 2 rfl ?_
  refine k_icmp_ne C dX7_secondHas_2 hf 14 rfl 5 rfl (fun hf => ?_) (fun hf => ?_)
  · refine k_aload_n C dX7_secondHas_14 0 rfl rfl 15 rfl ?_
    refine k_getR C fe_X7_29 rfl dX7_secondHas_15 hf 18 rfl (fun r5 hf => ?_)
    refine k_iload_n C dX7_secondHas_18 2 rfl 19 rfl ?_
    refine k_iald C dX7_secondHas_19 hf 20 rfl (fun x6 hf => ?_)
    refine k_sub [] rfl ?_
    exact t_20 _ w0 hf
  · refine k_aload_n C dX7_secondHas_5 0 rfl rfl 6 rfl ?_
    refine k_getR C fe_X7_35 rfl dX7_secondHas_6 hf 9 rfl (fun r7 hf => ?_)
    refine k_iload_n C dX7_secondHas_9 2 rfl 10 rfl ?_
    refine k_iald C dX7_secondHas_10 hf 11 rfl (fun x8 hf => ?_)
    refine k_goto C dX7_secondHas_11 20 rfl ?_
    refine k_sub [] rfl ?_
    exact t_20 _ w0 hf
theorem dX7_pairRests_0 : decode cX7_pairRests 0 = .ok (.iconst 0, 1) := by decide +kernel
theorem dX7_pairRests_1 : decode cX7_pairRests 1 = .ok (.istore 4, 2) := by decide +kernel
theorem dX7_pairRests_3 : decode cX7_pairRests 3 = .ok (.iload 4, 2) := by decide +kernel
theorem dX7_pairRests_5 : decode cX7_pairRests 5 = .ok (.iload_n 3, 1) := by decide +kernel
theorem dX7_pairRests_6 : decode cX7_pairRests 6 = .ok (.if_icmp .ge 43, 3) := by decide +kernel
theorem dX7_pairRests_9 : decode cX7_pairRests 9 = .ok (.aload_n 0, 1) := by decide +kernel
theorem dX7_pairRests_10 : decode cX7_pairRests 10 = .ok (.iload 4, 2) := by decide +kernel
theorem dX7_pairRests_12 : decode cX7_pairRests 12 = .ok (.iload_n 2, 1) := by decide +kernel
theorem dX7_pairRests_13 : decode cX7_pairRests 13 = .ok (.invokevirtual 101, 3) := by decide +kernel
theorem dX7_pairRests_16 : decode cX7_pairRests 16 = .ok (.aload_n 0, 1) := by decide +kernel
theorem dX7_pairRests_17 : decode cX7_pairRests 17 = .ok (.iload_n 1, 1) := by decide +kernel
theorem dX7_pairRests_18 : decode cX7_pairRests 18 = .ok (.iload_n 2, 1) := by decide +kernel
theorem dX7_pairRests_19 : decode cX7_pairRests 19 = .ok (.invokevirtual 101, 3) := by decide +kernel
theorem dX7_pairRests_22 : decode cX7_pairRests 22 = .ok (.if_icmp .gt 19, 3) := by decide +kernel
theorem dX7_pairRests_25 : decode cX7_pairRests 25 = .ok (.aload_n 0, 1) := by decide +kernel
theorem dX7_pairRests_26 : decode cX7_pairRests 26 = .ok (.iload_n 1, 1) := by decide +kernel
theorem dX7_pairRests_27 : decode cX7_pairRests 27 = .ok (.iload 4, 2) := by decide +kernel
theorem dX7_pairRests_29 : decode cX7_pairRests 29 = .ok (.invokevirtual 104, 3) := by decide +kernel
theorem dX7_pairRests_32 : decode cX7_pairRests 32 = .ok (.aload_n 0, 1) := by decide +kernel
theorem dX7_pairRests_33 : decode cX7_pairRests 33 = .ok (.iload_n 1, 1) := by decide +kernel
theorem dX7_pairRests_34 : decode cX7_pairRests 34 = .ok (.iload_n 2, 1) := by decide +kernel
theorem dX7_pairRests_35 : decode cX7_pairRests 35 = .ok (.invokevirtual 104, 3) := by decide +kernel
theorem dX7_pairRests_38 : decode cX7_pairRests 38 = .ok (.if_icmp .le 5, 3) := by decide +kernel
theorem dX7_pairRests_41 : decode cX7_pairRests 41 = .ok (.iconst 0, 1) := by decide +kernel
theorem dX7_pairRests_42 : decode cX7_pairRests 42 = .ok (.ireturn, 1) := by decide +kernel
theorem dX7_pairRests_43 : decode cX7_pairRests 43 = .ok (.iinc 4 1, 3) := by decide +kernel
theorem dX7_pairRests_46 : decode cX7_pairRests 46 = .ok (.goto (-43), 3) := by decide +kernel
theorem dX7_pairRests_49 : decode cX7_pairRests 49 = .ok (.iconst 1, 1) := by decide +kernel
theorem dX7_pairRests_50 : decode cX7_pairRests 50 = .ok (.ireturn, 1) := by decide +kernel
set_option maxRecDepth 100000 in
set_option maxHeartbeats 4000000 in
theorem c_X7_pairRests {g : Gv} {l : Launch} (p0 : Nat) (p1 : Int32) (p2 : Int32) (p3 : Int32) (w0 : Wd) (rz : Int32) (wz : Wd) (hf : f_X7_pairRests p0 p1 p2 p3 w0 = some (rz, wz)) : MI g l yX7_pairRests cX7_pairRests 5 .boolean 1 22 [rV g p0, .int p1, .int p2, .int p3] w0 rz wz := by
  refine mi_of RX7 (by decide) rfl (Nat.le_of_ble_eq_true rfl) ?_
  intro X hg hll C hr h0
  subst hg; subst hll
  have t_41 : ∀ (w : Wd), f_X7_pairRests_41 w = some (rz, wz) → Wk X 0 0 (QI X w0 rz wz) w [] 41 [] := by
    intro w hf
    unfold f_X7_pairRests_41 at hf
    refine k_iconst C dX7_pairRests_41 (0) (by decide) 42 rfl ?_
    exact k_zret C hr h0 dX7_pairRests_42 hf
  have t_3 : ∀ (n : Nat) (v0 : Nat) (v1 : Int32) (v2 : Int32) (v3 : Int32) (v4 : Int32) (w : Wd), f_X7_pairRests_3 n v0 v1 v2 v3 v4 w = some (rz, wz) → Wk X 0 0 (QI X w0 rz wz) w [(0, rV (xg X) v0), (1, .int v1), (2, .int v2), (3, .int v3), (4, .int v4)] 3 [] := by
    intro n
    induction n with
    | zero => intro v0 v1 v2 v3 v4 w hf; rw [f_X7_pairRests_3] at hf; cases hf
    | succ n3 ih3 =>
      intro v0 v1 v2 v3 v4 w hf
      rw [f_X7_pairRests_3] at hf
      refine k_iload C dX7_pairRests_3 4 rfl 5 rfl ?_
      refine k_iload_n C dX7_pairRests_5 3 rfl 6 rfl ?_
      refine k_icmp_ge C dX7_pairRests_6 hf 49 rfl 9 rfl (fun hf => ?_) (fun hf => ?_)
      · refine k_iconst C dX7_pairRests_49 (1) (by decide) 50 rfl ?_
        exact k_zret C hr h0 dX7_pairRests_50 hf
      · refine k_aload_n C dX7_pairRests_9 0 rfl rfl 10 rfl ?_
        refine k_iload C dX7_pairRests_10 4 rfl 12 rfl ?_
        refine k_iload_n C dX7_pairRests_12 2 rfl 13 rfl ?_
        refine k_callV_i C ye_X7_firstHas ve_X7_101 ⟨rfl, rfl⟩ ⟨rfl, rfl⟩ dX7_pairRests_13 [.int v4, .int v2] rfl rfl (Nat.le_of_ble_eq_true rfl) (c_X7_firstHas _ _ _ _) hf 16 rfl (fun x10 w9 hf => ?_)
        refine k_aload_n C dX7_pairRests_16 0 rfl rfl 17 rfl ?_
        refine k_iload_n C dX7_pairRests_17 1 rfl 18 rfl ?_
        refine k_iload_n C dX7_pairRests_18 2 rfl 19 rfl ?_
        refine k_callV_i C ye_X7_firstHas ve_X7_101 ⟨rfl, rfl⟩ ⟨rfl, rfl⟩ dX7_pairRests_19 [.int v1, .int v2] rfl rfl (Nat.le_of_ble_eq_true rfl) (c_X7_firstHas _ _ _ _) hf 22 rfl (fun x12 w11 hf => ?_)
        refine k_icmp_gt C dX7_pairRests_22 hf 41 rfl 25 rfl (fun hf => ?_) (fun hf => ?_)
        · refine k_sub [] rfl ?_
          exact t_41 w11 hf
        · refine k_aload_n C dX7_pairRests_25 0 rfl rfl 26 rfl ?_
          refine k_iload_n C dX7_pairRests_26 1 rfl 27 rfl ?_
          refine k_iload C dX7_pairRests_27 4 rfl 29 rfl ?_
          refine k_callV_i C ye_X7_secondHas ve_X7_104 ⟨rfl, rfl⟩ ⟨rfl, rfl⟩ dX7_pairRests_29 [.int v1, .int v4] rfl rfl (Nat.le_of_ble_eq_true rfl) (c_X7_secondHas _ _ _ _) hf 32 rfl (fun x14 w13 hf => ?_)
          refine k_aload_n C dX7_pairRests_32 0 rfl rfl 33 rfl ?_
          refine k_iload_n C dX7_pairRests_33 1 rfl 34 rfl ?_
          refine k_iload_n C dX7_pairRests_34 2 rfl 35 rfl ?_
          refine k_callV_i C ye_X7_secondHas ve_X7_104 ⟨rfl, rfl⟩ ⟨rfl, rfl⟩ dX7_pairRests_35 [.int v1, .int v2] rfl rfl (Nat.le_of_ble_eq_true rfl) (c_X7_secondHas _ _ _ _) hf 38 rfl (fun x16 w15 hf => ?_)
          refine k_icmp_le C dX7_pairRests_38 hf 43 rfl 41 rfl (fun hf => ?_) (fun hf => ?_)
          · refine k_iinc C dX7_pairRests_43 4 rfl (by decide) (by decide) [(4, .int (v4 + (1 : Int32))), (0, rV (xg X) v0), (1, .int v1), (2, .int v2), (3, .int v3)] rfl 46 rfl ?_
            refine k_goto C dX7_pairRests_46 3 rfl ?_
            refine k_sub [1, 2, 3, 4, 0] rfl ?_
            exact ih3 _ _ _ _ _ w15 hf
          · refine k_sub [] rfl ?_
            exact t_41 w15 hf
  unfold f_X7_pairRests at hf
  refine k_sub (lv2 := [(0, rV (xg X) p0), (1, .int p1), (2, .int p2), (3, .int p3)]) [0, 1, 2, 3] rfl ?_
  refine k_iconst C dX7_pairRests_0 (0) (by decide) 1 rfl ?_
  refine k_istore C dX7_pairRests_1 (by decide) [(4, .int (0 : Int32)), (0, rV (xg X) p0), (1, .int p1), (2, .int p2), (3, .int p3)] rfl 3 rfl ?_
  refine k_sub [1, 2, 3, 4, 0] rfl ?_
  exact t_3 4096 _ _ _ _ _ w0 hf
theorem dX7_restingPairs_0 : decode cX7_restingPairs 0 = .ok (.aload_n 0, 1) := by decide +kernel
theorem dX7_restingPairs_1 : decode cX7_restingPairs 1 = .ok (.aload_n 1, 1) := by decide +kernel
theorem dX7_restingPairs_2 : decode cX7_restingPairs 2 = .ok (.invokevirtual 38, 3) := by decide +kernel
theorem dX7_restingPairs_5 : decode cX7_restingPairs 5 = .ok (.aload_n 0, 1) := by decide +kernel
theorem dX7_restingPairs_6 : decode cX7_restingPairs 6 = .ok (.aload_n 1, 1) := by decide +kernel
theorem dX7_restingPairs_7 : decode cX7_restingPairs 7 = .ok (.iload_n 2, 1) := by decide +kernel
theorem dX7_restingPairs_8 : decode cX7_restingPairs 8 = .ok (.invokevirtual 90, 3) := by decide +kernel
theorem dX7_restingPairs_11 : decode cX7_restingPairs 11 = .ok (.iconst 0, 1) := by decide +kernel
theorem dX7_restingPairs_12 : decode cX7_restingPairs 12 = .ok (.istore 4, 2) := by decide +kernel
theorem dX7_restingPairs_14 : decode cX7_restingPairs 14 = .ok (.iconst 0, 1) := by decide +kernel
theorem dX7_restingPairs_15 : decode cX7_restingPairs 15 = .ok (.istore 5, 2) := by decide +kernel
theorem dX7_restingPairs_17 : decode cX7_restingPairs 17 = .ok (.iload 5, 2) := by decide +kernel
theorem dX7_restingPairs_19 : decode cX7_restingPairs 19 = .ok (.aload_n 1, 1) := by decide +kernel
theorem dX7_restingPairs_20 : decode cX7_restingPairs 20 = .ok (.getfield 42, 3) := by decide +kernel
theorem dX7_restingPairs_23 : decode cX7_restingPairs 23 = .ok (.if_icmp .ge 63, 3) := by decide +kernel
theorem dX7_restingPairs_26 : decode cX7_restingPairs 26 = .ok (.iconst 0, 1) := by decide +kernel
theorem dX7_restingPairs_27 : decode cX7_restingPairs 27 = .ok (.istore 6, 2) := by decide +kernel
theorem dX7_restingPairs_29 : decode cX7_restingPairs 29 = .ok (.iload 6, 2) := by decide +kernel
theorem dX7_restingPairs_31 : decode cX7_restingPairs 31 = .ok (.aload_n 1, 1) := by decide +kernel
theorem dX7_restingPairs_32 : decode cX7_restingPairs 32 = .ok (.getfield 42, 3) := by decide +kernel
theorem dX7_restingPairs_35 : decode cX7_restingPairs 35 = .ok (.if_icmp .ge 45, 3) := by decide +kernel
theorem dX7_restingPairs_38 : decode cX7_restingPairs 38 = .ok (.aload_n 0, 1) := by decide +kernel
theorem dX7_restingPairs_39 : decode cX7_restingPairs 39 = .ok (.iload 5, 2) := by decide +kernel
theorem dX7_restingPairs_41 : decode cX7_restingPairs 41 = .ok (.iload 6, 2) := by decide +kernel
theorem dX7_restingPairs_43 : decode cX7_restingPairs 43 = .ok (.aload_n 1, 1) := by decide +kernel
theorem dX7_restingPairs_44 : decode cX7_restingPairs 44 = .ok (.getfield 42, 3) := by decide +kernel
theorem dX7_restingPairs_47 : decode cX7_restingPairs 47 = .ok (.invokevirtual 93, 3) := by decide +kernel
theorem dX7_restingPairs_50 : decode cX7_restingPairs 50 = .ok (.ifCond .ne 6, 3) := by decide +kernel
theorem dX7_restingPairs_53 : decode cX7_restingPairs 53 = .ok (.goto 21, 3) := by decide +kernel
theorem dX7_restingPairs_56 : decode cX7_restingPairs 56 = .ok (.iload 4, 2) := by decide +kernel
theorem dX7_restingPairs_58 : decode cX7_restingPairs 58 = .ok (.iload_n 3, 1) := by decide +kernel
theorem dX7_restingPairs_59 : decode cX7_restingPairs 59 = .ok (.if_icmp .ne 12, 3) := by decide +kernel
theorem dX7_restingPairs_62 : decode cX7_restingPairs 62 = .ok (.bipush 6, 2) := by decide +kernel
theorem dX7_restingPairs_64 : decode cX7_restingPairs 64 = .ok (.iload 5, 2) := by decide +kernel
theorem dX7_restingPairs_66 : decode cX7_restingPairs 66 = .ok (.imul, 1) := by decide +kernel
theorem dX7_restingPairs_67 : decode cX7_restingPairs 67 = .ok (.iload 6, 2) := by decide +kernel
theorem dX7_restingPairs_69 : decode cX7_restingPairs 69 = .ok (.iadd, 1) := by decide +kernel
theorem dX7_restingPairs_70 : decode cX7_restingPairs 70 = .ok (.ireturn, 1) := by decide +kernel
theorem dX7_restingPairs_71 : decode cX7_restingPairs 71 = .ok (.iinc 4 1, 3) := by decide +kernel
theorem dX7_restingPairs_74 : decode cX7_restingPairs 74 = .ok (.iinc 6 1, 3) := by decide +kernel
theorem dX7_restingPairs_77 : decode cX7_restingPairs 77 = .ok (.goto (-48), 3) := by decide +kernel
theorem dX7_restingPairs_80 : decode cX7_restingPairs 80 = .ok (.iinc 5 1, 3) := by decide +kernel
theorem dX7_restingPairs_83 : decode cX7_restingPairs 83 = .ok (.goto (-66), 3) := by decide +kernel
theorem dX7_restingPairs_86 : decode cX7_restingPairs 86 = .ok (.iload_n 3, 1) := by decide +kernel
theorem dX7_restingPairs_87 : decode cX7_restingPairs 87 = .ok (.iconst (-1), 1) := by decide +kernel
theorem dX7_restingPairs_88 : decode cX7_restingPairs 88 = .ok (.if_icmp .ne 8, 3) := by decide +kernel
theorem dX7_restingPairs_91 : decode cX7_restingPairs 91 = .ok (.iload 4, 2) := by decide +kernel
theorem dX7_restingPairs_93 : decode cX7_restingPairs 93 = .ok (.goto 5, 3) := by decide +kernel
theorem dX7_restingPairs_96 : decode cX7_restingPairs 96 = .ok (.bipush (-5), 2) := by decide +kernel
theorem dX7_restingPairs_98 : decode cX7_restingPairs 98 = .ok (.ireturn, 1) := by decide +kernel
set_option maxRecDepth 100000 in
set_option maxHeartbeats 4000000 in
theorem c_X7_restingPairs {g : Gv} {l : Launch} (p0 : Nat) (p1 : Nat) (p2 : Int32) (p3 : Int32) (w0 : Wd) (rz : Int32) (wz : Wd) (hf : f_X7_restingPairs p0 p1 p2 p3 w0 = some (rz, wz)) : MI g l yX7_restingPairs cX7_restingPairs 7 .int 5 117 [rV g p0, rV g p1, .int p2, .int p3] w0 rz wz := by
  refine mi_of RX7 (by decide) rfl (Nat.le_of_ble_eq_true rfl) ?_
  intro X hg hll C hr h0
  subst hg; subst hll
  have t_98 : ∀ (s0 : Int32) (w : Wd), f_X7_restingPairs_98 s0 w = some (rz, wz) → Wk X 0 0 (QI X w0 rz wz) w [] 98 [.int s0] := by
    intro s0 w hf
    unfold f_X7_restingPairs_98 at hf
    exact k_iret C hr h0 dX7_restingPairs_98 hf
  have t_17 : ∀ (n : Nat) (v0 : Nat) (v1 : Nat) (v3 : Int32) (v4 : Int32) (v5 : Int32) (w : Wd), f_X7_restingPairs_17 n v0 v1 v3 v4 v5 w = some (rz, wz) → Wk X 0 0 (QI X w0 rz wz) w [(0, rV (xg X) v0), (1, rV (xg X) v1), (3, .int v3), (4, .int v4), (5, .int v5)] 17 [] := by
    intro n
    induction n with
    | zero => intro v0 v1 v3 v4 v5 w hf; rw [f_X7_restingPairs_17] at hf; cases hf
    | succ n17 ih17 =>
      have t_29 : ∀ (n : Nat) (v0 : Nat) (v1 : Nat) (v3 : Int32) (v4 : Int32) (v5 : Int32) (v6 : Int32) (w : Wd), f_X7_restingPairs_29 (f_X7_restingPairs_17 n17) n v0 v1 v3 v4 v5 v6 w = some (rz, wz) → Wk X 0 0 (QI X w0 rz wz) w [(0, rV (xg X) v0), (1, rV (xg X) v1), (3, .int v3), (4, .int v4), (5, .int v5), (6, .int v6)] 29 [] := by
        intro n
        induction n with
        | zero => intro v0 v1 v3 v4 v5 v6 w hf; rw [f_X7_restingPairs_29] at hf; cases hf
        | succ n29 ih29 =>
          have t_74 : ∀ (v0 : Nat) (v1 : Nat) (v3 : Int32) (v4 : Int32) (v5 : Int32) (v6 : Int32) (w : Wd), f_X7_restingPairs_74 (f_X7_restingPairs_17 n17) (f_X7_restingPairs_29 (f_X7_restingPairs_17 n17) n29) v0 v1 v3 v4 v5 v6 w = some (rz, wz) → Wk X 0 0 (QI X w0 rz wz) w [(0, rV (xg X) v0), (1, rV (xg X) v1), (3, .int v3), (4, .int v4), (5, .int v5), (6, .int v6)] 74 [] := by
            intro v0 v1 v3 v4 v5 v6 w hf
            unfold f_X7_restingPairs_74 at hf
            refine k_iinc C dX7_restingPairs_74 5 rfl (by decide) (by decide) [(6, .int (v6 + (1 : Int32))), (0, rV (xg X) v0), (1, rV (xg X) v1), (3, .int v3), (4, .int v4), (5, .int v5)] rfl 77 rfl ?_
            refine k_goto C dX7_restingPairs_77 29 rfl ?_
            refine k_sub [1, 2, 3, 4, 5, 0] rfl ?_
            exact ih29 _ _ _ _ _ _ w hf
          intro v0 v1 v3 v4 v5 v6 w hf
          rw [f_X7_restingPairs_29] at hf
          refine k_iload C dX7_restingPairs_29 5 rfl 31 rfl ?_
          refine k_aload_n C dX7_restingPairs_31 1 rfl rfl 32 rfl ?_
          refine k_getI C fe_X7_42 rfl dX7_restingPairs_32 hf 35 rfl (fun x10 hf => ?_)
          refine k_icmp_ge C dX7_restingPairs_35 hf 80 rfl 38 rfl (fun hf => ?_) (fun hf => ?_)
          · refine k_iinc C dX7_restingPairs_80 4 rfl (by decide) (by decide) [(5, .int (v5 + (1 : Int32))), (0, rV (xg X) v0), (1, rV (xg X) v1), (3, .int v3), (4, .int v4), (6, .int v6)] rfl 83 rfl ?_
            refine k_goto C dX7_restingPairs_83 17 rfl ?_
            refine k_sub [1, 2, 3, 4, 0] rfl ?_
            exact ih17 _ _ _ _ _ w hf
          · refine k_aload_n C dX7_restingPairs_38 0 rfl rfl 39 rfl ?_
            refine k_iload C dX7_restingPairs_39 4 rfl 41 rfl ?_
            refine k_iload C dX7_restingPairs_41 5 rfl 43 rfl ?_
            refine k_aload_n C dX7_restingPairs_43 1 rfl rfl 44 rfl ?_
            refine k_getI C fe_X7_42 rfl dX7_restingPairs_44 hf 47 rfl (fun x11 hf => ?_)
            refine k_callV_i C ye_X7_pairRests ve_X7_93 ⟨rfl, rfl⟩ ⟨rfl, rfl⟩ dX7_restingPairs_47 [.int v5, .int v6, .int x11] rfl rfl (Nat.le_of_ble_eq_true rfl) (c_X7_pairRests _ _ _ _ _) hf 50 rfl (fun x13 w12 hf => ?_)
            refine k_if_ne C dX7_restingPairs_50 hf 56 rfl 53 rfl (fun hf => ?_) (fun hf => ?_)
            · refine k_iload C dX7_restingPairs_56 3 rfl 58 rfl ?_
              refine k_iload_n C dX7_restingPairs_58 2 rfl 59 rfl ?_
              refine k_icmp_ne C dX7_restingPairs_59 hf 71 rfl 62 rfl (fun hf => ?_) (fun hf => ?_)
              · refine k_iinc C dX7_restingPairs_71 3 rfl (by decide) (by decide) [(4, .int (v4 + (1 : Int32))), (0, rV (xg X) v0), (1, rV (xg X) v1), (3, .int v3), (5, .int v5), (6, .int v6)] rfl 74 rfl ?_
                refine k_sub [1, 2, 3, 0, 4, 5] rfl ?_
                exact t_74 _ _ _ _ _ _ w12 hf
              · refine k_bipush C dX7_restingPairs_62 (6) (by decide) 64 rfl ?_
                refine k_iload C dX7_restingPairs_64 4 rfl 66 rfl ?_
                refine k_imul C dX7_restingPairs_66 67 rfl ?_
                refine k_iload C dX7_restingPairs_67 5 rfl 69 rfl ?_
                refine k_iadd C dX7_restingPairs_69 70 rfl ?_
                exact k_iret C hr h0 dX7_restingPairs_70 hf
            · refine k_goto C dX7_restingPairs_53 74 rfl ?_
              refine k_sub [0, 1, 2, 3, 4, 5] rfl ?_
              exact t_74 _ _ _ _ _ _ w12 hf
      intro v0 v1 v3 v4 v5 w hf
      rw [f_X7_restingPairs_17] at hf
      refine k_iload C dX7_restingPairs_17 4 rfl 19 rfl ?_
      refine k_aload_n C dX7_restingPairs_19 1 rfl rfl 20 rfl ?_
      refine k_getI C fe_X7_42 rfl dX7_restingPairs_20 hf 23 rfl (fun x14 hf => ?_)
      refine k_icmp_ge C dX7_restingPairs_23 hf 86 rfl 26 rfl (fun hf => ?_) (fun hf => ?_)
      · refine k_iload_n C dX7_restingPairs_86 2 rfl 87 rfl ?_
        refine k_iconst C dX7_restingPairs_87 (-1) (by decide) 88 rfl ?_
        refine k_icmp_ne C dX7_restingPairs_88 hf 96 rfl 91 rfl (fun hf => ?_) (fun hf => ?_)
        · refine k_bipush C dX7_restingPairs_96 (-5) (by decide) 98 rfl ?_
          refine k_sub [] rfl ?_
          exact t_98 _ w hf
        · refine k_iload C dX7_restingPairs_91 3 rfl 93 rfl ?_
          refine k_goto C dX7_restingPairs_93 98 rfl ?_
          refine k_sub [] rfl ?_
          exact t_98 _ w hf
      · refine k_iconst C dX7_restingPairs_26 (0) (by decide) 27 rfl ?_
        refine k_istore C dX7_restingPairs_27 (by decide) [(6, .int (0 : Int32)), (0, rV (xg X) v0), (1, rV (xg X) v1), (3, .int v3), (4, .int v4), (5, .int v5)] rfl 29 rfl ?_
        refine k_sub [1, 2, 3, 4, 5, 0] rfl ?_
        exact t_29 4096 _ _ _ _ _ _ w hf
  unfold f_X7_restingPairs at hf
  refine k_sub (lv2 := [(0, rV (xg X) p0), (1, rV (xg X) p1), (2, .int p2), (3, .int p3)]) [0, 1, 2, 3] rfl ?_
  refine k_aload_n C dX7_restingPairs_0 0 rfl rfl 1 rfl ?_
  refine k_aload_n C dX7_restingPairs_1 1 rfl rfl 2 rfl ?_
  refine k_callV_v C ye_X7_fillYields ve_X7_38 ⟨rfl, rfl⟩ ⟨rfl, rfl⟩ dX7_restingPairs_2 [rV (xg X) p1] rfl rfl (Nat.le_of_ble_eq_true rfl) (c_X7_fillYields _ _ _) hf 5 rfl (fun w15 hf => ?_)
  refine k_aload_n C dX7_restingPairs_5 0 rfl rfl 6 rfl ?_
  refine k_aload_n C dX7_restingPairs_6 1 rfl rfl 7 rfl ?_
  refine k_iload_n C dX7_restingPairs_7 2 rfl 8 rfl ?_
  refine k_callV_v C ye_X7_fillStreet ve_X7_90 ⟨rfl, rfl⟩ ⟨rfl, rfl⟩ dX7_restingPairs_8 [rV (xg X) p1, .int p2] rfl rfl (Nat.le_of_ble_eq_true rfl) (c_X7_fillStreet _ _ _ _) hf 11 rfl (fun w17 hf => ?_)
  refine k_iconst C dX7_restingPairs_11 (0) (by decide) 12 rfl ?_
  refine k_istore C dX7_restingPairs_12 (by decide) [(4, .int (0 : Int32)), (0, rV (xg X) p0), (1, rV (xg X) p1), (2, .int p2), (3, .int p3)] rfl 14 rfl ?_
  refine k_iconst C dX7_restingPairs_14 (0) (by decide) 15 rfl ?_
  refine k_istore C dX7_restingPairs_15 (by decide) [(5, .int (0 : Int32)), (4, .int (0 : Int32)), (0, rV (xg X) p0), (1, rV (xg X) p1), (2, .int p2), (3, .int p3)] rfl 17 rfl ?_
  refine k_sub [2, 3, 5, 1, 0] rfl ?_
  exact t_17 4096 _ _ _ _ _ w17 hf
