theorem dX0_addGuess_0 : decode cX0_addGuess 0 = .ok (.aload_n 0, 1) := by decide +kernel
theorem dX0_addGuess_1 : decode cX0_addGuess 1 = .ok (.getfield 31, 3) := by decide +kernel
theorem dX0_addGuess_4 : decode cX0_addGuess 4 = .ok (.bipush 6, 2) := by decide +kernel
theorem dX0_addGuess_6 : decode cX0_addGuess 6 = .ok (.if_icmp .lt 4, 3) := by decide +kernel
theorem dX0_addGuess_9 : decode cX0_addGuess 9 = .ok (.return_, 1) := by decide +kernel
theorem dX0_addGuess_10 : decode cX0_addGuess 10 = .ok (.aload_n 0, 1) := by decide +kernel
theorem dX0_addGuess_11 : decode cX0_addGuess 11 = .ok (.getfield 11, 3) := by decide +kernel
theorem dX0_addGuess_14 : decode cX0_addGuess 14 = .ok (.aload_n 0, 1) := by decide +kernel
theorem dX0_addGuess_15 : decode cX0_addGuess 15 = .ok (.getfield 31, 3) := by decide +kernel
theorem dX0_addGuess_18 : decode cX0_addGuess 18 = .ok (.iload_n 1, 1) := by decide +kernel
theorem dX0_addGuess_19 : decode cX0_addGuess 19 = .ok (.iastore, 1) := by decide +kernel
theorem dX0_addGuess_20 : decode cX0_addGuess 20 = .ok (.aload_n 0, 1) := by decide +kernel
theorem dX0_addGuess_21 : decode cX0_addGuess 21 = .ok (.getfield 15, 3) := by decide +kernel
theorem dX0_addGuess_24 : decode cX0_addGuess 24 = .ok (.aload_n 0, 1) := by decide +kernel
theorem dX0_addGuess_25 : decode cX0_addGuess 25 = .ok (.getfield 31, 3) := by decide +kernel
theorem dX0_addGuess_28 : decode cX0_addGuess 28 = .ok (.iload_n 2, 1) := by decide +kernel
theorem dX0_addGuess_29 : decode cX0_addGuess 29 = .ok (.iastore, 1) := by decide +kernel
theorem dX0_addGuess_30 : decode cX0_addGuess 30 = .ok (.aload_n 0, 1) := by decide +kernel
theorem dX0_addGuess_31 : decode cX0_addGuess 31 = .ok (.dup, 1) := by decide +kernel
theorem dX0_addGuess_32 : decode cX0_addGuess 32 = .ok (.getfield 31, 3) := by decide +kernel
theorem dX0_addGuess_35 : decode cX0_addGuess 35 = .ok (.iconst 1, 1) := by decide +kernel
theorem dX0_addGuess_36 : decode cX0_addGuess 36 = .ok (.iadd, 1) := by decide +kernel
theorem dX0_addGuess_37 : decode cX0_addGuess 37 = .ok (.putfield 31, 3) := by decide +kernel
theorem dX0_addGuess_40 : decode cX0_addGuess 40 = .ok (.return_, 1) := by decide +kernel
set_option maxRecDepth 100000 in
set_option maxHeartbeats 4000000 in
theorem c_X0_addGuess {g : Gv} {l : Launch} (p0 : Nat) (p1 : Int32) (p2 : Int32) (w0 : Wd) (wz : Wd) (hf : f_X0_addGuess p0 p1 p2 w0 = some ((), wz)) : MV g l yX0_addGuess cX0_addGuess 3 0 0 0 0 [rV g p0, .int p1, .int p2] w0 wz := by
  refine mv_of RX0 (by decide) rfl (Nat.le_of_ble_eq_true rfl) ?_
  intro X hg hll C hr h0 hin
  subst hg; subst hll
  unfold f_X0_addGuess at hf
  refine k_sub (lv2 := [(0, rV (xg X) p0), (1, .int p1), (2, .int p2)]) [0, 1, 2] rfl ?_
  refine k_aload_n C dX0_addGuess_0 0 rfl rfl 1 rfl ?_
  refine k_getI C fe_X0_31 rfl dX0_addGuess_1 hf 4 rfl (fun x10 hf => ?_)
  refine k_bipush C dX0_addGuess_4 (6) (by decide) 6 rfl ?_
  refine k_icmp_lt C dX0_addGuess_6 hf 10 rfl 9 rfl (fun hf => ?_) (fun hf => ?_)
  · refine k_aload_n C dX0_addGuess_10 0 rfl rfl 11 rfl ?_
    refine k_getR C fe_X0_11 rfl dX0_addGuess_11 hf 14 rfl (fun r11 hf => ?_)
    refine k_aload_n C dX0_addGuess_14 0 rfl rfl 15 rfl ?_
    refine k_getI C fe_X0_31 rfl dX0_addGuess_15 hf 18 rfl (fun x12 hf => ?_)
    refine k_iload_n C dX0_addGuess_18 1 rfl 19 rfl ?_
    refine k_iast C dX0_addGuess_19 hf 20 rfl (fun w13 _ hf => ?_)
    refine k_aload_n C dX0_addGuess_20 0 rfl rfl 21 rfl ?_
    refine k_getR C fe_X0_15 rfl dX0_addGuess_21 hf 24 rfl (fun r14 hf => ?_)
    refine k_aload_n C dX0_addGuess_24 0 rfl rfl 25 rfl ?_
    refine k_getI C fe_X0_31 rfl dX0_addGuess_25 hf 28 rfl (fun x15 hf => ?_)
    refine k_iload_n C dX0_addGuess_28 2 rfl 29 rfl ?_
    refine k_iast C dX0_addGuess_29 hf 30 rfl (fun w16 _ hf => ?_)
    refine k_aload_n C dX0_addGuess_30 0 rfl rfl 31 rfl ?_
    refine k_dup C dX0_addGuess_31 rfl 32 rfl ?_
    refine k_getI C fe_X0_31 rfl dX0_addGuess_32 hf 35 rfl (fun x17 hf => ?_)
    refine k_iconst C dX0_addGuess_35 (1) (by decide) 36 rfl ?_
    refine k_iadd C dX0_addGuess_36 37 rfl ?_
    refine k_putI C fe_X0_31 rfl rfl dX0_addGuess_37 hf 40 rfl (fun w18 _ hf => ?_)
    exact k_vret C hr h0 dX0_addGuess_40 hf
  · exact k_vret C hr h0 dX0_addGuess_9 hf
theorem dX0_addNote_0 : decode cX0_addNote 0 = .ok (.aload_n 0, 1) := by decide +kernel
theorem dX0_addNote_1 : decode cX0_addNote 1 = .ok (.getfield 35, 3) := by decide +kernel
theorem dX0_addNote_4 : decode cX0_addNote 4 = .ok (.bipush 6, 2) := by decide +kernel
theorem dX0_addNote_6 : decode cX0_addNote 6 = .ok (.if_icmp .lt 4, 3) := by decide +kernel
theorem dX0_addNote_9 : decode cX0_addNote 9 = .ok (.return_, 1) := by decide +kernel
theorem dX0_addNote_10 : decode cX0_addNote 10 = .ok (.aload_n 0, 1) := by decide +kernel
theorem dX0_addNote_11 : decode cX0_addNote 11 = .ok (.getfield 35, 3) := by decide +kernel
theorem dX0_addNote_14 : decode cX0_addNote 14 = .ok (.iconst 4, 1) := by decide +kernel
theorem dX0_addNote_15 : decode cX0_addNote 15 = .ok (.imul, 1) := by decide +kernel
theorem dX0_addNote_16 : decode cX0_addNote 16 = .ok (.istore 5, 2) := by decide +kernel
theorem dX0_addNote_18 : decode cX0_addNote 18 = .ok (.aload_n 0, 1) := by decide +kernel
theorem dX0_addNote_19 : decode cX0_addNote 19 = .ok (.getfield 18, 3) := by decide +kernel
theorem dX0_addNote_22 : decode cX0_addNote 22 = .ok (.iload 5, 2) := by decide +kernel
theorem dX0_addNote_24 : decode cX0_addNote 24 = .ok (.iload_n 1, 1) := by decide +kernel
theorem dX0_addNote_25 : decode cX0_addNote 25 = .ok (.iastore, 1) := by decide +kernel
theorem dX0_addNote_26 : decode cX0_addNote 26 = .ok (.aload_n 0, 1) := by decide +kernel
theorem dX0_addNote_27 : decode cX0_addNote 27 = .ok (.getfield 18, 3) := by decide +kernel
theorem dX0_addNote_30 : decode cX0_addNote 30 = .ok (.iload 5, 2) := by decide +kernel
theorem dX0_addNote_32 : decode cX0_addNote 32 = .ok (.iconst 1, 1) := by decide +kernel
theorem dX0_addNote_33 : decode cX0_addNote 33 = .ok (.iadd, 1) := by decide +kernel
theorem dX0_addNote_34 : decode cX0_addNote 34 = .ok (.iload_n 2, 1) := by decide +kernel
theorem dX0_addNote_35 : decode cX0_addNote 35 = .ok (.iastore, 1) := by decide +kernel
theorem dX0_addNote_36 : decode cX0_addNote 36 = .ok (.aload_n 0, 1) := by decide +kernel
theorem dX0_addNote_37 : decode cX0_addNote 37 = .ok (.getfield 18, 3) := by decide +kernel
theorem dX0_addNote_40 : decode cX0_addNote 40 = .ok (.iload 5, 2) := by decide +kernel
theorem dX0_addNote_42 : decode cX0_addNote 42 = .ok (.iconst 2, 1) := by decide +kernel
theorem dX0_addNote_43 : decode cX0_addNote 43 = .ok (.iadd, 1) := by decide +kernel
theorem dX0_addNote_44 : decode cX0_addNote 44 = .ok (.iload_n 3, 1) := by decide +kernel
theorem dX0_addNote_45 : decode cX0_addNote 45 = .ok (.iastore, 1) := by decide +kernel
theorem dX0_addNote_46 : decode cX0_addNote 46 = .ok (.aload_n 0, 1) := by decide +kernel
theorem dX0_addNote_47 : decode cX0_addNote 47 = .ok (.getfield 18, 3) := by decide +kernel
theorem dX0_addNote_50 : decode cX0_addNote 50 = .ok (.iload 5, 2) := by decide +kernel
theorem dX0_addNote_52 : decode cX0_addNote 52 = .ok (.iconst 3, 1) := by decide +kernel
theorem dX0_addNote_53 : decode cX0_addNote 53 = .ok (.iadd, 1) := by decide +kernel
theorem dX0_addNote_54 : decode cX0_addNote 54 = .ok (.iload 4, 2) := by decide +kernel
theorem dX0_addNote_56 : decode cX0_addNote 56 = .ok (.iastore, 1) := by decide +kernel
theorem dX0_addNote_57 : decode cX0_addNote 57 = .ok (.aload_n 0, 1) := by decide +kernel
theorem dX0_addNote_58 : decode cX0_addNote 58 = .ok (.dup, 1) := by decide +kernel
theorem dX0_addNote_59 : decode cX0_addNote 59 = .ok (.getfield 35, 3) := by decide +kernel
theorem dX0_addNote_62 : decode cX0_addNote 62 = .ok (.iconst 1, 1) := by decide +kernel
theorem dX0_addNote_63 : decode cX0_addNote 63 = .ok (.iadd, 1) := by decide +kernel
theorem dX0_addNote_64 : decode cX0_addNote 64 = .ok (.putfield 35, 3) := by decide +kernel
theorem dX0_addNote_67 : decode cX0_addNote 67 = .ok (.return_, 1) := by decide +kernel
set_option maxRecDepth 100000 in
set_option maxHeartbeats 4000000 in
theorem c_X0_addNote {g : Gv} {l : Launch} (p0 : Nat) (p1 : Int32) (p2 : Int32) (p3 : Int32) (p4 : Int32) (w0 : Wd) (wz : Wd) (hf : f_X0_addNote p0 p1 p2 p3 p4 w0 = some ((), wz)) : MV g l yX0_addNote cX0_addNote 6 0 0 0 0 [rV g p0, .int p1, .int p2, .int p3, .int p4] w0 wz := by
  refine mv_of RX0 (by decide) rfl (Nat.le_of_ble_eq_true rfl) ?_
  intro X hg hll C hr h0 hin
  subst hg; subst hll
  unfold f_X0_addNote at hf
  refine k_sub (lv2 := [(0, rV (xg X) p0), (1, .int p1), (2, .int p2), (3, .int p3), (4, .int p4)]) [0, 1, 2, 3, 4] rfl ?_
  refine k_aload_n C dX0_addNote_0 0 rfl rfl 1 rfl ?_
  refine k_getI C fe_X0_35 rfl dX0_addNote_1 hf 4 rfl (fun x14 hf => ?_)
  refine k_bipush C dX0_addNote_4 (6) (by decide) 6 rfl ?_
  refine k_icmp_lt C dX0_addNote_6 hf 10 rfl 9 rfl (fun hf => ?_) (fun hf => ?_)
  · refine k_aload_n C dX0_addNote_10 0 rfl rfl 11 rfl ?_
    refine k_getI C fe_X0_35 rfl dX0_addNote_11 hf 14 rfl (fun x15 hf => ?_)
    refine k_iconst C dX0_addNote_14 (4) (by decide) 15 rfl ?_
    refine k_imul C dX0_addNote_15 16 rfl ?_
    refine k_nmi hf (fun x16 hf => ?_)
    refine k_istore C dX0_addNote_16 (by decide) [(5, .int x16), (0, rV (xg X) p0), (1, .int p1), (2, .int p2), (3, .int p3), (4, .int p4)] rfl 18 rfl ?_
    refine k_aload_n C dX0_addNote_18 1 rfl rfl 19 rfl ?_
    refine k_getR C fe_X0_18 rfl dX0_addNote_19 hf 22 rfl (fun r17 hf => ?_)
    refine k_iload C dX0_addNote_22 0 rfl 24 rfl ?_
    refine k_iload_n C dX0_addNote_24 2 rfl 25 rfl ?_
    refine k_iast C dX0_addNote_25 hf 26 rfl (fun w18 _ hf => ?_)
    refine k_aload_n C dX0_addNote_26 1 rfl rfl 27 rfl ?_
    refine k_getR C fe_X0_18 rfl dX0_addNote_27 hf 30 rfl (fun r19 hf => ?_)
    refine k_iload C dX0_addNote_30 0 rfl 32 rfl ?_
    refine k_iconst C dX0_addNote_32 (1) (by decide) 33 rfl ?_
    refine k_iadd C dX0_addNote_33 34 rfl ?_
    refine k_iload_n C dX0_addNote_34 3 rfl 35 rfl ?_
    refine k_iast C dX0_addNote_35 hf 36 rfl (fun w20 _ hf => ?_)
    refine k_aload_n C dX0_addNote_36 1 rfl rfl 37 rfl ?_
    refine k_getR C fe_X0_18 rfl dX0_addNote_37 hf 40 rfl (fun r21 hf => ?_)
    refine k_iload C dX0_addNote_40 0 rfl 42 rfl ?_
    refine k_iconst C dX0_addNote_42 (2) (by decide) 43 rfl ?_
    refine k_iadd C dX0_addNote_43 44 rfl ?_
    refine k_iload_n C dX0_addNote_44 4 rfl 45 rfl ?_
    refine k_iast C dX0_addNote_45 hf 46 rfl (fun w22 _ hf => ?_)
    refine k_aload_n C dX0_addNote_46 1 rfl rfl 47 rfl ?_
    refine k_getR C fe_X0_18 rfl dX0_addNote_47 hf 50 rfl (fun r23 hf => ?_)
    refine k_iload C dX0_addNote_50 0 rfl 52 rfl ?_
    refine k_iconst C dX0_addNote_52 (3) (by decide) 53 rfl ?_
    refine k_iadd C dX0_addNote_53 54 rfl ?_
    refine k_iload C dX0_addNote_54 5 rfl 56 rfl ?_
    refine k_iast C dX0_addNote_56 hf 57 rfl (fun w24 _ hf => ?_)
    refine k_aload_n C dX0_addNote_57 1 rfl rfl 58 rfl ?_
    refine k_dup C dX0_addNote_58 rfl 59 rfl ?_
    refine k_getI C fe_X0_35 rfl dX0_addNote_59 hf 62 rfl (fun x25 hf => ?_)
    refine k_iconst C dX0_addNote_62 (1) (by decide) 63 rfl ?_
    refine k_iadd C dX0_addNote_63 64 rfl ?_
    refine k_putI C fe_X0_35 rfl rfl dX0_addNote_64 hf 67 rfl (fun w26 _ hf => ?_)
    exact k_vret C hr h0 dX0_addNote_67 hf
  · exact k_vret C hr h0 dX0_addNote_9 hf
theorem dX0_copyFrom_0 : decode cX0_copyFrom 0 = .ok (.aload_n 0, 1) := by decide +kernel
theorem dX0_copyFrom_1 : decode cX0_copyFrom 1 = .ok (.aload_n 1, 1) := by decide +kernel
theorem dX0_copyFrom_2 : decode cX0_copyFrom 2 = .ok (.getfield 31, 3) := by decide +kernel
theorem dX0_copyFrom_5 : decode cX0_copyFrom 5 = .ok (.putfield 31, 3) := by decide +kernel
theorem dX0_copyFrom_8 : decode cX0_copyFrom 8 = .ok (.aload_n 0, 1) := by decide +kernel
theorem dX0_copyFrom_9 : decode cX0_copyFrom 9 = .ok (.aload_n 1, 1) := by decide +kernel
theorem dX0_copyFrom_10 : decode cX0_copyFrom 10 = .ok (.getfield 35, 3) := by decide +kernel
theorem dX0_copyFrom_13 : decode cX0_copyFrom 13 = .ok (.putfield 35, 3) := by decide +kernel
theorem dX0_copyFrom_16 : decode cX0_copyFrom 16 = .ok (.aload_n 1, 1) := by decide +kernel
theorem dX0_copyFrom_17 : decode cX0_copyFrom 17 = .ok (.getfield 11, 3) := by decide +kernel
theorem dX0_copyFrom_20 : decode cX0_copyFrom 20 = .ok (.iconst 0, 1) := by decide +kernel
theorem dX0_copyFrom_21 : decode cX0_copyFrom 21 = .ok (.aload_n 0, 1) := by decide +kernel
theorem dX0_copyFrom_22 : decode cX0_copyFrom 22 = .ok (.getfield 11, 3) := by decide +kernel
theorem dX0_copyFrom_25 : decode cX0_copyFrom 25 = .ok (.iconst 0, 1) := by decide +kernel
theorem dX0_copyFrom_26 : decode cX0_copyFrom 26 = .ok (.bipush 6, 2) := by decide +kernel
theorem dX0_copyFrom_28 : decode cX0_copyFrom 28 = .ok (.invokestatic 38, 3) := by decide +kernel
theorem dX0_copyFrom_31 : decode cX0_copyFrom 31 = .ok (.aload_n 1, 1) := by decide +kernel
theorem dX0_copyFrom_32 : decode cX0_copyFrom 32 = .ok (.getfield 15, 3) := by decide +kernel
theorem dX0_copyFrom_35 : decode cX0_copyFrom 35 = .ok (.iconst 0, 1) := by decide +kernel
theorem dX0_copyFrom_36 : decode cX0_copyFrom 36 = .ok (.aload_n 0, 1) := by decide +kernel
theorem dX0_copyFrom_37 : decode cX0_copyFrom 37 = .ok (.getfield 15, 3) := by decide +kernel
theorem dX0_copyFrom_40 : decode cX0_copyFrom 40 = .ok (.iconst 0, 1) := by decide +kernel
theorem dX0_copyFrom_41 : decode cX0_copyFrom 41 = .ok (.bipush 6, 2) := by decide +kernel
theorem dX0_copyFrom_43 : decode cX0_copyFrom 43 = .ok (.invokestatic 38, 3) := by decide +kernel
theorem dX0_copyFrom_46 : decode cX0_copyFrom 46 = .ok (.aload_n 1, 1) := by decide +kernel
theorem dX0_copyFrom_47 : decode cX0_copyFrom 47 = .ok (.getfield 18, 3) := by decide +kernel
theorem dX0_copyFrom_50 : decode cX0_copyFrom 50 = .ok (.iconst 0, 1) := by decide +kernel
theorem dX0_copyFrom_51 : decode cX0_copyFrom 51 = .ok (.aload_n 0, 1) := by decide +kernel
theorem dX0_copyFrom_52 : decode cX0_copyFrom 52 = .ok (.getfield 18, 3) := by decide +kernel
theorem dX0_copyFrom_55 : decode cX0_copyFrom 55 = .ok (.iconst 0, 1) := by decide +kernel
theorem dX0_copyFrom_56 : decode cX0_copyFrom 56 = .ok (.bipush 24, 2) := by decide +kernel
theorem dX0_copyFrom_58 : decode cX0_copyFrom 58 = .ok (.invokestatic 38, 3) := by decide +kernel
theorem dX0_copyFrom_61 : decode cX0_copyFrom 61 = .ok (.return_, 1) := by decide +kernel
set_option maxRecDepth 100000 in
set_option maxHeartbeats 4000000 in
theorem c_X0_copyFrom {g : Gv} {l : Launch} (p0 : Nat) (p1 : Nat) (w0 : Wd) (wz : Wd) (hf : f_X0_copyFrom p0 p1 w0 = some ((), wz)) : MV g l yX0_copyFrom cX0_copyFrom 2 1 48 0 0 [rV g p0, rV g p1] w0 wz := by
  refine mv_of RX0 (by decide) rfl (Nat.le_of_ble_eq_true rfl) ?_
  intro X hg hll C hr h0 hin
  subst hg; subst hll
  unfold f_X0_copyFrom at hf
  refine k_sub (lv2 := [(0, rV (xg X) p0), (1, rV (xg X) p1)]) [0, 1] rfl ?_
  refine k_aload_n C dX0_copyFrom_0 0 rfl rfl 1 rfl ?_
  refine k_aload_n C dX0_copyFrom_1 1 rfl rfl 2 rfl ?_
  refine k_getI C fe_X0_31 rfl dX0_copyFrom_2 hf 5 rfl (fun x14 hf => ?_)
  refine k_putI C fe_X0_31 rfl rfl dX0_copyFrom_5 hf 8 rfl (fun w15 _ hf => ?_)
  refine k_aload_n C dX0_copyFrom_8 0 rfl rfl 9 rfl ?_
  refine k_aload_n C dX0_copyFrom_9 1 rfl rfl 10 rfl ?_
  refine k_getI C fe_X0_35 rfl dX0_copyFrom_10 hf 13 rfl (fun x16 hf => ?_)
  refine k_putI C fe_X0_35 rfl rfl dX0_copyFrom_13 hf 16 rfl (fun w17 _ hf => ?_)
  refine k_aload_n C dX0_copyFrom_16 1 rfl rfl 17 rfl ?_
  refine k_getR C fe_X0_11 rfl dX0_copyFrom_17 hf 20 rfl (fun r18 hf => ?_)
  refine k_iconst C dX0_copyFrom_20 (0) (by decide) 21 rfl ?_
  refine k_aload_n C dX0_copyFrom_21 0 rfl rfl 22 rfl ?_
  refine k_getR C fe_X0_11 rfl dX0_copyFrom_22 hf 25 rfl (fun r19 hf => ?_)
  refine k_iconst C dX0_copyFrom_25 (0) (by decide) 26 rfl ?_
  refine k_bipush C dX0_copyFrom_26 (6) (by decide) 28 rfl ?_
  refine k_copy C mm_X0_38 mcp_n mcp_s mcp_i (Nat.le_of_ble_eq_true rfl) (by decide) dX0_copyFrom_28 hf 31 rfl (fun w20 _ hf => ?_)
  refine k_aload_n C dX0_copyFrom_31 1 rfl rfl 32 rfl ?_
  refine k_getR C fe_X0_15 rfl dX0_copyFrom_32 hf 35 rfl (fun r21 hf => ?_)
  refine k_iconst C dX0_copyFrom_35 (0) (by decide) 36 rfl ?_
  refine k_aload_n C dX0_copyFrom_36 0 rfl rfl 37 rfl ?_
  refine k_getR C fe_X0_15 rfl dX0_copyFrom_37 hf 40 rfl (fun r22 hf => ?_)
  refine k_iconst C dX0_copyFrom_40 (0) (by decide) 41 rfl ?_
  refine k_bipush C dX0_copyFrom_41 (6) (by decide) 43 rfl ?_
  refine k_copy C mm_X0_38 mcp_n mcp_s mcp_i (Nat.le_of_ble_eq_true rfl) (by decide) dX0_copyFrom_43 hf 46 rfl (fun w23 _ hf => ?_)
  refine k_aload_n C dX0_copyFrom_46 1 rfl rfl 47 rfl ?_
  refine k_getR C fe_X0_18 rfl dX0_copyFrom_47 hf 50 rfl (fun r24 hf => ?_)
  refine k_iconst C dX0_copyFrom_50 (0) (by decide) 51 rfl ?_
  refine k_aload_n C dX0_copyFrom_51 0 rfl rfl 52 rfl ?_
  refine k_getR C fe_X0_18 rfl dX0_copyFrom_52 hf 55 rfl (fun r25 hf => ?_)
  refine k_iconst C dX0_copyFrom_55 (0) (by decide) 56 rfl ?_
  refine k_bipush C dX0_copyFrom_56 (24) (by decide) 58 rfl ?_
  refine k_copy C mm_X0_38 mcp_n mcp_s mcp_i (Nat.le_of_ble_eq_true rfl) (by decide) dX0_copyFrom_58 hf 61 rfl (fun w26 _ hf => ?_)
  exact k_vret C hr h0 dX0_copyFrom_61 hf
theorem dX6_ground_0 : decode cX6_ground 0 = .ok (.iload_n 1, 1) := by decide +kernel
theorem dX6_ground_1 : decode cX6_ground 1 = .ok (.ireturn, 1) := by decide +kernel
set_option maxRecDepth 100000 in
set_option maxHeartbeats 4000000 in
theorem c_X6_ground {g : Gv} {l : Launch} (p0 : Nat) (p1 : Int32) (p2 : Int32) (p3 : Int32) (w0 : Wd) (rz : Int32) (wz : Wd) (hf : f_X6_ground p0 p1 p2 p3 w0 = some (rz, wz)) : MI g l yX6_ground cX6_ground 4 .int 0 0 [rV g p0, .int p1, .int p2, .int p3] w0 rz wz := by
  refine mi_of RX6 (by decide) rfl (Nat.le_of_ble_eq_true rfl) ?_
  intro X hg hll C hr h0
  subst hg; subst hll
  unfold f_X6_ground at hf
  refine k_sub (lv2 := [(0, rV (xg X) p0), (1, .int p1), (2, .int p2), (3, .int p3)]) [0, 1, 2, 3] rfl ?_
  refine k_iload_n C dX6_ground_0 1 rfl 1 rfl ?_
  exact k_iret C hr h0 dX6_ground_1 hf
theorem dX3_ground_0 : decode cX3_ground 0 = .ok (.aload_n 0, 1) := by decide +kernel
theorem dX3_ground_1 : decode cX3_ground 1 = .ok (.iload_n 1, 1) := by decide +kernel
theorem dX3_ground_2 : decode cX3_ground 2 = .ok (.iload_n 2, 1) := by decide +kernel
theorem dX3_ground_3 : decode cX3_ground 3 = .ok (.iload_n 3, 1) := by decide +kernel
theorem dX3_ground_4 : decode cX3_ground 4 = .ok (.invokespecial 7, 3) := by decide +kernel
theorem dX3_ground_7 : decode cX3_ground 7 = .ok (.iload_n 2, 1) := by decide +kernel
theorem dX3_ground_8 : decode cX3_ground 8 = .ok (.iconst 4, 1) := by decide +kernel
theorem dX3_ground_9 : decode cX3_ground 9 = .ok (.irem, 1) := by decide +kernel
theorem dX3_ground_10 : decode cX3_ground 10 = .ok (.iadd, 1) := by decide +kernel
theorem dX3_ground_11 : decode cX3_ground 11 = .ok (.ireturn, 1) := by decide +kernel
set_option maxRecDepth 100000 in
set_option maxHeartbeats 4000000 in
theorem c_X3_ground {g : Gv} {l : Launch} (p0 : Nat) (p1 : Int32) (p2 : Int32) (p3 : Int32) (w0 : Wd) (rz : Int32) (wz : Wd) (hf : f_X3_ground p0 p1 p2 p3 w0 = some (rz, wz)) : MI g l yX3_ground cX3_ground 4 .int 1 23 [rV g p0, .int p1, .int p2, .int p3] w0 rz wz := by
  refine mi_of RX3 (by decide) rfl (Nat.le_of_ble_eq_true rfl) ?_
  intro X hg hll C hr h0
  subst hg; subst hll
  unfold f_X3_ground at hf
  refine k_sub (lv2 := [(0, rV (xg X) p0), (1, .int p1), (2, .int p2), (3, .int p3)]) [0, 1, 2, 3] rfl ?_
  refine k_aload_n C dX3_ground_0 0 rfl rfl 1 rfl ?_
  refine k_iload_n C dX3_ground_1 1 rfl 2 rfl ?_
  refine k_iload_n C dX3_ground_2 2 rfl 3 rfl ?_
  refine k_iload_n C dX3_ground_3 3 rfl 4 rfl ?_
  refine k_callSU_i C ye_X6_ground su_X3_7 ce_all ⟨rfl, rfl⟩ ⟨rfl, rfl⟩ dX3_ground_4 [.int p1, .int p2, .int p3] rfl rfl (Nat.le_of_ble_eq_true rfl) (c_X6_ground _ _ _ _ _) hf 7 rfl (fun x4 w3 hf => ?_)
  refine k_iload_n C dX3_ground_7 2 rfl 8 rfl ?_
  refine k_iconst C dX3_ground_8 (4) (by decide) 9 rfl ?_
  refine k_irem C dX3_ground_9 (by decide) 10 rfl ?_
  refine k_iadd C dX3_ground_10 11 rfl ?_
  exact k_iret C hr h0 dX3_ground_11 hf
theorem dX4_ground_0 : decode cX4_ground 0 = .ok (.iconst 0, 1) := by decide +kernel
theorem dX4_ground_1 : decode cX4_ground 1 = .ok (.ireturn, 1) := by decide +kernel
set_option maxRecDepth 100000 in
set_option maxHeartbeats 4000000 in
theorem c_X4_ground {g : Gv} {l : Launch} (p0 : Nat) (p1 : Int32) (p2 : Int32) (p3 : Int32) (w0 : Wd) (rz : Int32) (wz : Wd) (hf : f_X4_ground p0 p1 p2 p3 w0 = some (rz, wz)) : MI g l yX4_ground cX4_ground 4 .int 0 0 [rV g p0, .int p1, .int p2, .int p3] w0 rz wz := by
  refine mi_of RX4 (by decide) rfl (Nat.le_of_ble_eq_true rfl) ?_
  intro X hg hll C hr h0
  subst hg; subst hll
  unfold f_X4_ground at hf
  refine k_sub (lv2 := [(0, rV (xg X) p0), (1, .int p1), (2, .int p2), (3, .int p3)]) [0, 1, 2, 3] rfl ?_
  refine k_iconst C dX4_ground_0 (0) (by decide) 1 rfl ?_
  exact k_iret C hr h0 dX4_ground_1 hf
theorem dX9_ground_0 : decode cX9_ground 0 = .ok (.aload_n 0, 1) := by decide +kernel
theorem dX9_ground_1 : decode cX9_ground 1 = .ok (.iload_n 1, 1) := by decide +kernel
theorem dX9_ground_2 : decode cX9_ground 2 = .ok (.iload_n 2, 1) := by decide +kernel
theorem dX9_ground_3 : decode cX9_ground 3 = .ok (.iload_n 3, 1) := by decide +kernel
theorem dX9_ground_4 : decode cX9_ground 4 = .ok (.invokespecial 7, 3) := by decide +kernel
theorem dX9_ground_7 : decode cX9_ground 7 = .ok (.istore 4, 2) := by decide +kernel
theorem dX9_ground_9 : decode cX9_ground 9 = .ok (.iload_n 3, 1) := by decide +kernel
theorem dX9_ground_10 : decode cX9_ground 10 = .ok (.iconst 5, 1) := by decide +kernel
theorem dX9_ground_11 : decode cX9_ground 11 = .ok (.if_icmp .lt 12, 3) := by decide +kernel
theorem dX9_ground_14 : decode cX9_ground 14 = .ok (.iload 4, 2) := by decide +kernel
theorem dX9_ground_16 : decode cX9_ground 16 = .ok (.iconst 1, 1) := by decide +kernel
theorem dX9_ground_17 : decode cX9_ground 17 = .ok (.iadd, 1) := by decide +kernel
theorem dX9_ground_18 : decode cX9_ground 18 = .ok (.iconst 2, 1) := by decide +kernel
theorem dX9_ground_19 : decode cX9_ground 19 = .ok (.idiv, 1) := by decide +kernel
theorem dX9_ground_20 : decode cX9_ground 20 = .ok (.goto 5, 3) := by decide +kernel
theorem dX9_ground_23 : decode cX9_ground 23 = .ok (.iload 4, 2) := by decide +kernel
theorem dX9_ground_25 : decode cX9_ground 25 = .ok (.ireturn, 1) := by decide +kernel
set_option maxRecDepth 100000 in
set_option maxHeartbeats 4000000 in
theorem c_X9_ground {g : Gv} {l : Launch} (p0 : Nat) (p1 : Int32) (p2 : Int32) (p3 : Int32) (w0 : Wd) (rz : Int32) (wz : Wd) (hf : f_X9_ground p0 p1 p2 p3 w0 = some (rz, wz)) : MI g l yX9_ground cX9_ground 5 .int 1 23 [rV g p0, .int p1, .int p2, .int p3] w0 rz wz := by
  refine mi_of RX9 (by decide) rfl (Nat.le_of_ble_eq_true rfl) ?_
  intro X hg hll C hr h0
  subst hg; subst hll
  have t_25 : ∀ (s0 : Int32) (w : Wd), f_X9_ground_25 s0 w = some (rz, wz) → Wk X 0 0 (QI X w0 rz wz) w [] 25 [.int s0] := by
    intro s0 w hf
    unfold f_X9_ground_25 at hf
    exact k_iret C hr h0 dX9_ground_25 hf
  unfold f_X9_ground at hf
  refine k_sub (lv2 := [(0, rV (xg X) p0), (1, .int p1), (2, .int p2), (3, .int p3)]) [0, 1, 2, 3] rfl ?_
  refine k_aload_n C dX9_ground_0 0 rfl rfl 1 rfl ?_
  refine k_iload_n C dX9_ground_1 1 rfl 2 rfl ?_
  refine k_iload_n C dX9_ground_2 2 rfl 3 rfl ?_
  refine k_iload_n C dX9_ground_3 3 rfl 4 rfl ?_
  refine k_callSU_i C ye_X6_ground su_X9_7 ce_all ⟨rfl, rfl⟩ ⟨rfl, rfl⟩ dX9_ground_4 [.int p1, .int p2, .int p3] rfl rfl (Nat.le_of_ble_eq_true rfl) (c_X6_ground _ _ _ _ _) hf 7 rfl (fun x4 w3 hf => ?_)
  refine k_istore C dX9_ground_7 (by decide) [(4, .int x4), (0, rV (xg X) p0), (1, .int p1), (2, .int p2), (3, .int p3)] rfl 9 rfl ?_
  refine k_iload_n C dX9_ground_9 4 rfl 10 rfl ?_
  refine k_iconst C dX9_ground_10 (5) (by decide) 11 rfl ?_
  refine k_icmp_lt C dX9_ground_11 hf 23 rfl 14 rfl (fun hf => ?_) (fun hf => ?_)
  · refine k_iload C dX9_ground_23 0 rfl 25 rfl ?_
    refine k_sub [] rfl ?_
    exact t_25 _ w3 hf
  · refine k_iload C dX9_ground_14 0 rfl 16 rfl ?_
    refine k_iconst C dX9_ground_16 (1) (by decide) 17 rfl ?_
    refine k_iadd C dX9_ground_17 18 rfl ?_
    refine k_iconst C dX9_ground_18 (2) (by decide) 19 rfl ?_
    refine k_idiv C dX9_ground_19 (by decide) 20 rfl ?_
    refine k_goto C dX9_ground_20 25 rfl ?_
    refine k_sub [] rfl ?_
    exact t_25 _ w3 hf
theorem dX8_ground_0 : decode cX8_ground 0 = .ok (.aload_n 0, 1) := by decide +kernel
theorem dX8_ground_1 : decode cX8_ground 1 = .ok (.iload_n 1, 1) := by decide +kernel
theorem dX8_ground_2 : decode cX8_ground 2 = .ok (.iload_n 2, 1) := by decide +kernel
theorem dX8_ground_3 : decode cX8_ground 3 = .ok (.iload_n 3, 1) := by decide +kernel
theorem dX8_ground_4 : decode cX8_ground 4 = .ok (.invokespecial 7, 3) := by decide +kernel
theorem dX8_ground_7 : decode cX8_ground 7 = .ok (.iconst 1, 1) := by decide +kernel
theorem dX8_ground_8 : decode cX8_ground 8 = .ok (.iadd, 1) := by decide +kernel
theorem dX8_ground_9 : decode cX8_ground 9 = .ok (.ireturn, 1) := by decide +kernel
set_option maxRecDepth 100000 in
set_option maxHeartbeats 4000000 in
theorem c_X8_ground {g : Gv} {l : Launch} (p0 : Nat) (p1 : Int32) (p2 : Int32) (p3 : Int32) (w0 : Wd) (rz : Int32) (wz : Wd) (hf : f_X8_ground p0 p1 p2 p3 w0 = some (rz, wz)) : MI g l yX8_ground cX8_ground 4 .int 2 47 [rV g p0, .int p1, .int p2, .int p3] w0 rz wz := by
  refine mi_of RX8 (by decide) rfl (Nat.le_of_ble_eq_true rfl) ?_
  intro X hg hll C hr h0
  subst hg; subst hll
  unfold f_X8_ground at hf
  refine k_sub (lv2 := [(0, rV (xg X) p0), (1, .int p1), (2, .int p2), (3, .int p3)]) [0, 1, 2, 3] rfl ?_
  refine k_aload_n C dX8_ground_0 0 rfl rfl 1 rfl ?_
  refine k_iload_n C dX8_ground_1 1 rfl 2 rfl ?_
  refine k_iload_n C dX8_ground_2 2 rfl 3 rfl ?_
  refine k_iload_n C dX8_ground_3 3 rfl 4 rfl ?_
  refine k_callSU_i C ye_X9_ground su_X8_7 ce_all ⟨rfl, rfl⟩ ⟨rfl, rfl⟩ dX8_ground_4 [.int p1, .int p2, .int p3] rfl rfl (Nat.le_of_ble_eq_true rfl) (c_X9_ground _ _ _ _ _) hf 7 rfl (fun x4 w3 hf => ?_)
  refine k_iconst C dX8_ground_7 (1) (by decide) 8 rfl ?_
  refine k_iadd C dX8_ground_8 9 rfl ?_
  exact k_iret C hr h0 dX8_ground_9 hf
theorem kp_X0_64 {X : Xt} {cc : ByteArray} {nL fr lo mc ms cs sl pc : Nat} {Q : State → Prop} {w : Wd} {lv : List (Nat × Value)} {st : List Value} (C : Ok X RX0 cc nL fr lo mc ms) {α : Type} {a : Nat} {x0 x1 x2 : Int32} {K : Int32 → Wd → Option α} {z : α} (hR : Nat.ble 3 fr = true ∧ Nat.ble 70 lo = true) (hc : Nat.ble (cs + 0) mc = true ∧ Nat.ble (sl + 0) ms = true) (d : decode cc pc = .ok (.invokevirtual 64, 3)) (hcat : (st.map fun v => v.category).sum ≤ 8) (hf : cal (u_ground a x0 x1 x2 w) K = some z) (n2 : Nat) (hn : n2 = pc + 3) (kk : ∀ r w1, K r w1 = some z → Wk X cs sl Q w1 lv n2 (.int r :: st)) : Wk X cs sl Q w lv pc (.int x2 :: .int x1 :: .int x0 :: rV (xg X) a :: st) := by
  obtain ⟨r, w1, h3, h2⟩ := cal_s hf
  have r1 := Nat.le_of_ble_eq_true hR.1
  have r2 := Nat.le_of_ble_eq_true hR.2
  unfold u_ground at h3
  split at h3
  · rename_i q
    exact k_callU_i C ye_X3_ground ue_X0_64_3 ⟨Nat.ble_eq_true_of_le (by omega), Nat.ble_eq_true_of_le (by omega)⟩ hc d [.int x0, .int x1, .int x2] rfl rfl hcat (c_X3_ground _ _ _ _ _) (show calV w a 3 (f_X3_ground a x0 x1 x2 w) K = some z by unfold calV cal; rw [if_pos q, h3]; exact h2) n2 hn kk
  · rename_i q
    split at h3
    · rename_i q
      exact k_callU_i C ye_X4_ground ue_X0_64_4 ⟨Nat.ble_eq_true_of_le (by omega), Nat.ble_eq_true_of_le (by omega)⟩ hc d [.int x0, .int x1, .int x2] rfl rfl hcat (c_X4_ground _ _ _ _ _) (show calV w a 4 (f_X4_ground a x0 x1 x2 w) K = some z by unfold calV cal; rw [if_pos q, h3]; exact h2) n2 hn kk
    · rename_i q
      split at h3
      · rename_i q
        exact k_callU_i C ye_X6_ground ue_X0_64_5 ⟨Nat.ble_eq_true_of_le (by omega), Nat.ble_eq_true_of_le (by omega)⟩ hc d [.int x0, .int x1, .int x2] rfl rfl hcat (c_X6_ground _ _ _ _ _) (show calV w a 5 (f_X6_ground a x0 x1 x2 w) K = some z by unfold calV cal; rw [if_pos q, h3]; exact h2) n2 hn kk
      · rename_i q
        split at h3
        · rename_i q
          exact k_callU_i C ye_X6_ground ue_X0_64_6 ⟨Nat.ble_eq_true_of_le (by omega), Nat.ble_eq_true_of_le (by omega)⟩ hc d [.int x0, .int x1, .int x2] rfl rfl hcat (c_X6_ground _ _ _ _ _) (show calV w a 6 (f_X6_ground a x0 x1 x2 w) K = some z by unfold calV cal; rw [if_pos q, h3]; exact h2) n2 hn kk
        · rename_i q
          split at h3
          · rename_i q
            exact k_callU_i C ye_X8_ground ue_X0_64_8 ⟨Nat.ble_eq_true_of_le (by omega), Nat.ble_eq_true_of_le (by omega)⟩ hc d [.int x0, .int x1, .int x2] rfl rfl hcat (c_X8_ground _ _ _ _ _) (show calV w a 8 (f_X8_ground a x0 x1 x2 w) K = some z by unfold calV cal; rw [if_pos q, h3]; exact h2) n2 hn kk
          · rename_i q
            split at h3
            · rename_i q
              exact k_callU_i C ye_X9_ground ue_X0_64_9 ⟨Nat.ble_eq_true_of_le (by omega), Nat.ble_eq_true_of_le (by omega)⟩ hc d [.int x0, .int x1, .int x2] rfl rfl hcat (c_X9_ground _ _ _ _ _) (show calV w a 9 (f_X9_ground a x0 x1 x2 w) K = some z by unfold calV cal; rw [if_pos q, h3]; exact h2) n2 hn kk
            · rename_i q
              cases h3
theorem kp_X1_33 {X : Xt} {cc : ByteArray} {nL fr lo mc ms cs sl pc : Nat} {Q : State → Prop} {w : Wd} {lv : List (Nat × Value)} {st : List Value} (C : Ok X RX1 cc nL fr lo mc ms) {α : Type} {a : Nat} {x0 x1 x2 : Int32} {K : Int32 → Wd → Option α} {z : α} (hR : Nat.ble 3 fr = true ∧ Nat.ble 70 lo = true) (hc : Nat.ble (cs + 0) mc = true ∧ Nat.ble (sl + 0) ms = true) (d : decode cc pc = .ok (.invokevirtual 33, 3)) (hcat : (st.map fun v => v.category).sum ≤ 8) (hf : cal (u_ground a x0 x1 x2 w) K = some z) (n2 : Nat) (hn : n2 = pc + 3) (kk : ∀ r w1, K r w1 = some z → Wk X cs sl Q w1 lv n2 (.int r :: st)) : Wk X cs sl Q w lv pc (.int x2 :: .int x1 :: .int x0 :: rV (xg X) a :: st) := by
  obtain ⟨r, w1, h3, h2⟩ := cal_s hf
  have r1 := Nat.le_of_ble_eq_true hR.1
  have r2 := Nat.le_of_ble_eq_true hR.2
  unfold u_ground at h3
  split at h3
  · rename_i q
    exact k_callU_i C ye_X3_ground ue_X1_33_3 ⟨Nat.ble_eq_true_of_le (by omega), Nat.ble_eq_true_of_le (by omega)⟩ hc d [.int x0, .int x1, .int x2] rfl rfl hcat (c_X3_ground _ _ _ _ _) (show calV w a 3 (f_X3_ground a x0 x1 x2 w) K = some z by unfold calV cal; rw [if_pos q, h3]; exact h2) n2 hn kk
  · rename_i q
    split at h3
    · rename_i q
      exact k_callU_i C ye_X4_ground ue_X1_33_4 ⟨Nat.ble_eq_true_of_le (by omega), Nat.ble_eq_true_of_le (by omega)⟩ hc d [.int x0, .int x1, .int x2] rfl rfl hcat (c_X4_ground _ _ _ _ _) (show calV w a 4 (f_X4_ground a x0 x1 x2 w) K = some z by unfold calV cal; rw [if_pos q, h3]; exact h2) n2 hn kk
    · rename_i q
      split at h3
      · rename_i q
        exact k_callU_i C ye_X6_ground ue_X1_33_5 ⟨Nat.ble_eq_true_of_le (by omega), Nat.ble_eq_true_of_le (by omega)⟩ hc d [.int x0, .int x1, .int x2] rfl rfl hcat (c_X6_ground _ _ _ _ _) (show calV w a 5 (f_X6_ground a x0 x1 x2 w) K = some z by unfold calV cal; rw [if_pos q, h3]; exact h2) n2 hn kk
      · rename_i q
        split at h3
        · rename_i q
          exact k_callU_i C ye_X6_ground ue_X1_33_6 ⟨Nat.ble_eq_true_of_le (by omega), Nat.ble_eq_true_of_le (by omega)⟩ hc d [.int x0, .int x1, .int x2] rfl rfl hcat (c_X6_ground _ _ _ _ _) (show calV w a 6 (f_X6_ground a x0 x1 x2 w) K = some z by unfold calV cal; rw [if_pos q, h3]; exact h2) n2 hn kk
        · rename_i q
          split at h3
          · rename_i q
            exact k_callU_i C ye_X8_ground ue_X1_33_8 ⟨Nat.ble_eq_true_of_le (by omega), Nat.ble_eq_true_of_le (by omega)⟩ hc d [.int x0, .int x1, .int x2] rfl rfl hcat (c_X8_ground _ _ _ _ _) (show calV w a 8 (f_X8_ground a x0 x1 x2 w) K = some z by unfold calV cal; rw [if_pos q, h3]; exact h2) n2 hn kk
          · rename_i q
            split at h3
            · rename_i q
              exact k_callU_i C ye_X9_ground ue_X1_33_9 ⟨Nat.ble_eq_true_of_le (by omega), Nat.ble_eq_true_of_le (by omega)⟩ hc d [.int x0, .int x1, .int x2] rfl rfl hcat (c_X9_ground _ _ _ _ _) (show calV w a 9 (f_X9_ground a x0 x1 x2 w) K = some z by unfold calV cal; rw [if_pos q, h3]; exact h2) n2 hn kk
            · rename_i q
              cases h3
theorem dX0_notesFit_0 : decode cX0_notesFit 0 = .ok (.iconst 0, 1) := by decide +kernel
theorem dX0_notesFit_1 : decode cX0_notesFit 1 = .ok (.istore 4, 2) := by decide +kernel
theorem dX0_notesFit_3 : decode cX0_notesFit 3 = .ok (.iload 4, 2) := by decide +kernel
theorem dX0_notesFit_5 : decode cX0_notesFit 5 = .ok (.aload_n 0, 1) := by decide +kernel
theorem dX0_notesFit_6 : decode cX0_notesFit 6 = .ok (.getfield 35, 3) := by decide +kernel
theorem dX0_notesFit_9 : decode cX0_notesFit 9 = .ok (.if_icmp .ge 68, 3) := by decide +kernel
theorem dX0_notesFit_12 : decode cX0_notesFit 12 = .ok (.iload 4, 2) := by decide +kernel
theorem dX0_notesFit_14 : decode cX0_notesFit 14 = .ok (.iconst 4, 1) := by decide +kernel
theorem dX0_notesFit_15 : decode cX0_notesFit 15 = .ok (.imul, 1) := by decide +kernel
theorem dX0_notesFit_16 : decode cX0_notesFit 16 = .ok (.istore 5, 2) := by decide +kernel
theorem dX0_notesFit_18 : decode cX0_notesFit 18 = .ok (.aload_n 0, 1) := by decide +kernel
theorem dX0_notesFit_19 : decode cX0_notesFit 19 = .ok (.getfield 18, 3) := by decide +kernel
theorem dX0_notesFit_22 : decode cX0_notesFit 22 = .ok (.iload 5, 2) := by decide +kernel
theorem dX0_notesFit_24 : decode cX0_notesFit 24 = .ok (.iaload, 1) := by decide +kernel
theorem dX0_notesFit_25 : decode cX0_notesFit 25 = .ok (.iload_n 1, 1) := by decide +kernel
theorem dX0_notesFit_26 : decode cX0_notesFit 26 = .ok (.if_icmp .ne 45, 3) := by decide +kernel
theorem dX0_notesFit_29 : decode cX0_notesFit 29 = .ok (.aload_n 0, 1) := by decide +kernel
theorem dX0_notesFit_30 : decode cX0_notesFit 30 = .ok (.getfield 27, 3) := by decide +kernel
theorem dX0_notesFit_33 : decode cX0_notesFit 33 = .ok (.iload_n 2, 1) := by decide +kernel
theorem dX0_notesFit_34 : decode cX0_notesFit 34 = .ok (.aaload, 1) := by decide +kernel
theorem dX0_notesFit_35 : decode cX0_notesFit 35 = .ok (.iload_n 3, 1) := by decide +kernel
theorem dX0_notesFit_36 : decode cX0_notesFit 36 = .ok (.aload_n 0, 1) := by decide +kernel
theorem dX0_notesFit_37 : decode cX0_notesFit 37 = .ok (.getfield 18, 3) := by decide +kernel
theorem dX0_notesFit_40 : decode cX0_notesFit 40 = .ok (.iload 5, 2) := by decide +kernel
theorem dX0_notesFit_42 : decode cX0_notesFit 42 = .ok (.iconst 1, 1) := by decide +kernel
theorem dX0_notesFit_43 : decode cX0_notesFit 43 = .ok (.iadd, 1) := by decide +kernel
theorem dX0_notesFit_44 : decode cX0_notesFit 44 = .ok (.iaload, 1) := by decide +kernel
theorem dX0_notesFit_45 : decode cX0_notesFit 45 = .ok (.aload_n 0, 1) := by decide +kernel
theorem dX0_notesFit_46 : decode cX0_notesFit 46 = .ok (.getfield 18, 3) := by decide +kernel
theorem dX0_notesFit_49 : decode cX0_notesFit 49 = .ok (.iload 5, 2) := by decide +kernel
theorem dX0_notesFit_51 : decode cX0_notesFit 51 = .ok (.iconst 2, 1) := by decide +kernel
theorem dX0_notesFit_52 : decode cX0_notesFit 52 = .ok (.iadd, 1) := by decide +kernel
theorem dX0_notesFit_53 : decode cX0_notesFit 53 = .ok (.iaload, 1) := by decide +kernel
theorem dX0_notesFit_54 : decode cX0_notesFit 54 = .ok (.invokevirtual 64, 3) := by decide +kernel
theorem dX0_notesFit_57 : decode cX0_notesFit 57 = .ok (.aload_n 0, 1) := by decide +kernel
theorem dX0_notesFit_58 : decode cX0_notesFit 58 = .ok (.getfield 18, 3) := by decide +kernel
theorem dX0_notesFit_61 : decode cX0_notesFit 61 = .ok (.iload 5, 2) := by decide +kernel
theorem dX0_notesFit_63 : decode cX0_notesFit 63 = .ok (.iconst 3, 1) := by decide +kernel
theorem dX0_notesFit_64 : decode cX0_notesFit 64 = .ok (.iadd, 1) := by decide +kernel
theorem dX0_notesFit_65 : decode cX0_notesFit 65 = .ok (.iaload, 1) := by decide +kernel
theorem dX0_notesFit_66 : decode cX0_notesFit 66 = .ok (.if_icmp .eq 5, 3) := by decide +kernel
theorem dX0_notesFit_69 : decode cX0_notesFit 69 = .ok (.iconst 0, 1) := by decide +kernel
theorem dX0_notesFit_70 : decode cX0_notesFit 70 = .ok (.ireturn, 1) := by decide +kernel
theorem dX0_notesFit_71 : decode cX0_notesFit 71 = .ok (.iinc 4 1, 3) := by decide +kernel
theorem dX0_notesFit_74 : decode cX0_notesFit 74 = .ok (.goto (-71), 3) := by decide +kernel
theorem dX0_notesFit_77 : decode cX0_notesFit 77 = .ok (.iconst 1, 1) := by decide +kernel
theorem dX0_notesFit_78 : decode cX0_notesFit 78 = .ok (.ireturn, 1) := by decide +kernel
set_option maxRecDepth 100000 in
set_option maxHeartbeats 4000000 in
theorem c_X0_notesFit {g : Gv} {l : Launch} (p0 : Nat) (p1 : Int32) (p2 : Int32) (p3 : Int32) (w0 : Wd) (rz : Int32) (wz : Wd) (hf : f_X0_notesFit p0 p1 p2 p3 w0 = some (rz, wz)) : MI g l yX0_notesFit cX0_notesFit 6 .boolean 3 70 [rV g p0, .int p1, .int p2, .int p3] w0 rz wz := by
  refine mi_of RX0 (by decide) rfl (Nat.le_of_ble_eq_true rfl) ?_
  intro X hg hll C hr h0
  subst hg; subst hll
  have t_3 : ∀ (n : Nat) (v0 : Nat) (v1 : Int32) (v2 : Int32) (v3 : Int32) (v4 : Int32) (w : Wd), f_X0_notesFit_3 n v0 v1 v2 v3 v4 w = some (rz, wz) → Wk X 0 0 (QI X w0 rz wz) w [(0, rV (xg X) v0), (1, .int v1), (2, .int v2), (3, .int v3), (4, .int v4)] 3 [] := by
    intro n
    induction n with
    | zero => intro v0 v1 v2 v3 v4 w hf; rw [f_X0_notesFit_3] at hf; cases hf
    | succ n3 ih3 =>
      have t_71 : ∀ (v0 : Nat) (v1 : Int32) (v2 : Int32) (v3 : Int32) (v4 : Int32) (w : Wd), f_X0_notesFit_71 (f_X0_notesFit_3 n3) v0 v1 v2 v3 v4 w = some (rz, wz) → Wk X 0 0 (QI X w0 rz wz) w [(0, rV (xg X) v0), (1, .int v1), (2, .int v2), (3, .int v3), (4, .int v4)] 71 [] := by
        intro v0 v1 v2 v3 v4 w hf
        unfold f_X0_notesFit_71 at hf
        refine k_iinc C dX0_notesFit_71 4 rfl (by decide) (by decide) [(4, .int (v4 + (1 : Int32))), (0, rV (xg X) v0), (1, .int v1), (2, .int v2), (3, .int v3)] rfl 74 rfl ?_
        refine k_goto C dX0_notesFit_74 3 rfl ?_
        refine k_sub [1, 2, 3, 4, 0] rfl ?_
        exact ih3 _ _ _ _ _ w hf
      intro v0 v1 v2 v3 v4 w hf
      rw [f_X0_notesFit_3] at hf
      refine k_iload C dX0_notesFit_3 4 rfl 5 rfl ?_
      refine k_aload_n C dX0_notesFit_5 0 rfl rfl 6 rfl ?_
      refine k_getI C fe_X0_35 rfl dX0_notesFit_6 hf 9 rfl (fun x15 hf => ?_)
      refine k_icmp_ge C dX0_notesFit_9 hf 77 rfl 12 rfl (fun hf => ?_) (fun hf => ?_)
      · refine k_iconst C dX0_notesFit_77 (1) (by decide) 78 rfl ?_
        exact k_zret C hr h0 dX0_notesFit_78 hf
      · refine k_iload C dX0_notesFit_12 4 rfl 14 rfl ?_
        refine k_iconst C dX0_notesFit_14 (4) (by decide) 15 rfl ?_
        refine k_imul C dX0_notesFit_15 16 rfl ?_
        refine k_nmi hf (fun x16 hf => ?_)
        refine k_istore C dX0_notesFit_16 (by decide) [(5, .int x16), (0, rV (xg X) v0), (1, .int v1), (2, .int v2), (3, .int v3), (4, .int v4)] rfl 18 rfl ?_
        refine k_aload_n C dX0_notesFit_18 1 rfl rfl 19 rfl ?_
        refine k_getR C fe_X0_18 rfl dX0_notesFit_19 hf 22 rfl (fun r17 hf => ?_)
        refine k_iload C dX0_notesFit_22 0 rfl 24 rfl ?_
        refine k_iald C dX0_notesFit_24 hf 25 rfl (fun x18 hf => ?_)
        refine k_iload_n C dX0_notesFit_25 2 rfl 26 rfl ?_
        refine k_icmp_ne C dX0_notesFit_26 hf 71 rfl 29 rfl (fun hf => ?_) (fun hf => ?_)
        · refine k_sub [1, 2, 3, 4, 5] rfl ?_
          exact t_71 _ _ _ _ _ w hf
        · refine k_aload_n C dX0_notesFit_29 1 rfl rfl 30 rfl ?_
          refine k_getR C fe_X0_27 rfl dX0_notesFit_30 hf 33 rfl (fun r19 hf => ?_)
          refine k_iload_n C dX0_notesFit_33 3 rfl 34 rfl ?_
          refine k_aald18 C dX0_notesFit_34 hf 35 rfl (fun r20 hf => ?_)
          refine k_iload_n C dX0_notesFit_35 4 rfl 36 rfl ?_
          refine k_aload_n C dX0_notesFit_36 1 rfl rfl 37 rfl ?_
          refine k_getR C fe_X0_18 rfl dX0_notesFit_37 hf 40 rfl (fun r21 hf => ?_)
          refine k_iload C dX0_notesFit_40 0 rfl 42 rfl ?_
          refine k_iconst C dX0_notesFit_42 (1) (by decide) 43 rfl ?_
          refine k_iadd C dX0_notesFit_43 44 rfl ?_
          refine k_iald C dX0_notesFit_44 hf 45 rfl (fun x22 hf => ?_)
          refine k_aload_n C dX0_notesFit_45 1 rfl rfl 46 rfl ?_
          refine k_getR C fe_X0_18 rfl dX0_notesFit_46 hf 49 rfl (fun r23 hf => ?_)
          refine k_iload C dX0_notesFit_49 0 rfl 51 rfl ?_
          refine k_iconst C dX0_notesFit_51 (2) (by decide) 52 rfl ?_
          refine k_iadd C dX0_notesFit_52 53 rfl ?_
          refine k_iald C dX0_notesFit_53 hf 54 rfl (fun x24 hf => ?_)
          refine kp_X0_64 C ⟨rfl, rfl⟩ ⟨rfl, rfl⟩ dX0_notesFit_54 (Nat.le_of_ble_eq_true rfl) hf 57 rfl (fun x26 w25 hf => ?_)
          refine k_aload_n C dX0_notesFit_57 1 rfl rfl 58 rfl ?_
          refine k_getR C fe_X0_18 rfl dX0_notesFit_58 hf 61 rfl (fun r27 hf => ?_)
          refine k_iload C dX0_notesFit_61 0 rfl 63 rfl ?_
          refine k_iconst C dX0_notesFit_63 (3) (by decide) 64 rfl ?_
          refine k_iadd C dX0_notesFit_64 65 rfl ?_
          refine k_iald C dX0_notesFit_65 hf 66 rfl (fun x28 hf => ?_)
          refine k_icmp_eq C dX0_notesFit_66 hf 71 rfl 69 rfl (fun hf => ?_) (fun hf => ?_)
          · refine k_sub [1, 2, 3, 4, 5] rfl ?_
            exact t_71 _ _ _ _ _ w25 hf
          · refine k_iconst C dX0_notesFit_69 (0) (by decide) 70 rfl ?_
            exact k_zret C hr h0 dX0_notesFit_70 hf
  unfold f_X0_notesFit at hf
  refine k_sub (lv2 := [(0, rV (xg X) p0), (1, .int p1), (2, .int p2), (3, .int p3)]) [0, 1, 2, 3] rfl ?_
  refine k_iconst C dX0_notesFit_0 (0) (by decide) 1 rfl ?_
  refine k_istore C dX0_notesFit_1 (by decide) [(4, .int (0 : Int32)), (0, rV (xg X) p0), (1, .int p1), (2, .int p2), (3, .int p3)] rfl 3 rfl ?_
  refine k_sub [1, 2, 3, 4, 0] rfl ?_
  exact t_3 4096 _ _ _ _ _ w0 hf
theorem dX0_fittingKinds_0 : decode cX0_fittingKinds 0 = .ok (.iconst 0, 1) := by decide +kernel
theorem dX0_fittingKinds_1 : decode cX0_fittingKinds 1 = .ok (.istore_n 3, 1) := by decide +kernel
theorem dX0_fittingKinds_2 : decode cX0_fittingKinds 2 = .ok (.iconst 0, 1) := by decide +kernel
theorem dX0_fittingKinds_3 : decode cX0_fittingKinds 3 = .ok (.istore 4, 2) := by decide +kernel
theorem dX0_fittingKinds_5 : decode cX0_fittingKinds 5 = .ok (.iload 4, 2) := by decide +kernel
theorem dX0_fittingKinds_7 : decode cX0_fittingKinds 7 = .ok (.bipush 6, 2) := by decide +kernel
theorem dX0_fittingKinds_9 : decode cX0_fittingKinds 9 = .ok (.if_icmp .ge 27, 3) := by decide +kernel
theorem dX0_fittingKinds_12 : decode cX0_fittingKinds 12 = .ok (.aload_n 0, 1) := by decide +kernel
theorem dX0_fittingKinds_13 : decode cX0_fittingKinds 13 = .ok (.iload_n 1, 1) := by decide +kernel
theorem dX0_fittingKinds_14 : decode cX0_fittingKinds 14 = .ok (.iload 4, 2) := by decide +kernel
theorem dX0_fittingKinds_16 : decode cX0_fittingKinds 16 = .ok (.iload_n 2, 1) := by decide +kernel
theorem dX0_fittingKinds_17 : decode cX0_fittingKinds 17 = .ok (.invokevirtual 70, 3) := by decide +kernel
theorem dX0_fittingKinds_20 : decode cX0_fittingKinds 20 = .ok (.ifCond .eq 10, 3) := by decide +kernel
theorem dX0_fittingKinds_23 : decode cX0_fittingKinds 23 = .ok (.iload_n 3, 1) := by decide +kernel
theorem dX0_fittingKinds_24 : decode cX0_fittingKinds 24 = .ok (.iconst 1, 1) := by decide +kernel
theorem dX0_fittingKinds_25 : decode cX0_fittingKinds 25 = .ok (.iload 4, 2) := by decide +kernel
theorem dX0_fittingKinds_27 : decode cX0_fittingKinds 27 = .ok (.ishl, 1) := by decide +kernel
theorem dX0_fittingKinds_28 : decode cX0_fittingKinds 28 = .ok (.ior, 1) := by decide +kernel
theorem dX0_fittingKinds_29 : decode cX0_fittingKinds 29 = .ok (.istore_n 3, 1) := by decide +kernel
theorem dX0_fittingKinds_30 : decode cX0_fittingKinds 30 = .ok (.iinc 4 1, 3) := by decide +kernel
theorem dX0_fittingKinds_33 : decode cX0_fittingKinds 33 = .ok (.goto (-28), 3) := by decide +kernel
theorem dX0_fittingKinds_36 : decode cX0_fittingKinds 36 = .ok (.iload_n 3, 1) := by decide +kernel
theorem dX0_fittingKinds_37 : decode cX0_fittingKinds 37 = .ok (.ireturn, 1) := by decide +kernel
set_option maxRecDepth 100000 in
set_option maxHeartbeats 4000000 in
theorem c_X0_fittingKinds {g : Gv} {l : Launch} (p0 : Nat) (p1 : Int32) (p2 : Int32) (w0 : Wd) (rz : Int32) (wz : Wd) (hf : f_X0_fittingKinds p0 p1 p2 w0 = some (rz, wz)) : MI g l yX0_fittingKinds cX0_fittingKinds 5 .int 4 95 [rV g p0, .int p1, .int p2] w0 rz wz := by
  refine mi_of RX0 (by decide) rfl (Nat.le_of_ble_eq_true rfl) ?_
  intro X hg hll C hr h0
  subst hg; subst hll
  have t_5 : ∀ (n : Nat) (v0 : Nat) (v1 : Int32) (v2 : Int32) (v3 : Int32) (v4 : Int32) (w : Wd), f_X0_fittingKinds_5 n v0 v1 v2 v3 v4 w = some (rz, wz) → Wk X 0 0 (QI X w0 rz wz) w [(0, rV (xg X) v0), (1, .int v1), (2, .int v2), (3, .int v3), (4, .int v4)] 5 [] := by
    intro n
    induction n with
    | zero => intro v0 v1 v2 v3 v4 w hf; rw [f_X0_fittingKinds_5] at hf; cases hf
    | succ n5 ih5 =>
      have t_30 : ∀ (v0 : Nat) (v1 : Int32) (v2 : Int32) (v3 : Int32) (v4 : Int32) (w : Wd), f_X0_fittingKinds_30 (f_X0_fittingKinds_5 n5) v0 v1 v2 v3 v4 w = some (rz, wz) → Wk X 0 0 (QI X w0 rz wz) w [(0, rV (xg X) v0), (1, .int v1), (2, .int v2), (3, .int v3), (4, .int v4)] 30 [] := by
        intro v0 v1 v2 v3 v4 w hf
        unfold f_X0_fittingKinds_30 at hf
        refine k_iinc C dX0_fittingKinds_30 4 rfl (by decide) (by decide) [(4, .int (v4 + (1 : Int32))), (0, rV (xg X) v0), (1, .int v1), (2, .int v2), (3, .int v3)] rfl 33 rfl ?_
        refine k_goto C dX0_fittingKinds_33 5 rfl ?_
        refine k_sub [1, 2, 3, 4, 0] rfl ?_
        exact ih5 _ _ _ _ _ w hf
      intro v0 v1 v2 v3 v4 w hf
      rw [f_X0_fittingKinds_5] at hf
      refine k_iload C dX0_fittingKinds_5 4 rfl 7 rfl ?_
      refine k_bipush C dX0_fittingKinds_7 (6) (by decide) 9 rfl ?_
      refine k_icmp_ge C dX0_fittingKinds_9 hf 36 rfl 12 rfl (fun hf => ?_) (fun hf => ?_)
      · refine k_iload_n C dX0_fittingKinds_36 3 rfl 37 rfl ?_
        exact k_iret C hr h0 dX0_fittingKinds_37 hf
      · refine k_aload_n C dX0_fittingKinds_12 0 rfl rfl 13 rfl ?_
        refine k_iload_n C dX0_fittingKinds_13 1 rfl 14 rfl ?_
        refine k_iload C dX0_fittingKinds_14 4 rfl 16 rfl ?_
        refine k_iload_n C dX0_fittingKinds_16 2 rfl 17 rfl ?_
        refine k_callV_i C ye_X0_notesFit ve_X0_70 ⟨rfl, rfl⟩ ⟨rfl, rfl⟩ dX0_fittingKinds_17 [.int v1, .int v4, .int v2] rfl rfl (Nat.le_of_ble_eq_true rfl) (c_X0_notesFit _ _ _ _ _) hf 20 rfl (fun x5 w4 hf => ?_)
        refine k_if_eq C dX0_fittingKinds_20 hf 30 rfl 23 rfl (fun hf => ?_) (fun hf => ?_)
        · refine k_sub [0, 1, 2, 3, 4] rfl ?_
          exact t_30 _ _ _ _ _ w4 hf
        · refine k_iload_n C dX0_fittingKinds_23 3 rfl 24 rfl ?_
          refine k_iconst C dX0_fittingKinds_24 (1) (by decide) 25 rfl ?_
          refine k_iload C dX0_fittingKinds_25 4 rfl 27 rfl ?_
          refine k_ishl C dX0_fittingKinds_27 28 rfl ?_
          refine k_ior C dX0_fittingKinds_28 29 rfl ?_
          refine k_nmi hf (fun x6 hf => ?_)
          refine k_istore_n C dX0_fittingKinds_29 rfl (by decide) [(3, .int x6), (0, rV (xg X) v0), (1, .int v1), (2, .int v2), (4, .int v4)] rfl 30 rfl ?_
          refine k_sub [1, 2, 3, 0, 4] rfl ?_
          exact t_30 _ _ _ _ _ w4 hf
  unfold f_X0_fittingKinds at hf
  refine k_sub (lv2 := [(0, rV (xg X) p0), (1, .int p1), (2, .int p2)]) [0, 1, 2] rfl ?_
  refine k_iconst C dX0_fittingKinds_0 (0) (by decide) 1 rfl ?_
  refine k_istore_n C dX0_fittingKinds_1 rfl (by decide) [(3, .int (0 : Int32)), (0, rV (xg X) p0), (1, .int p1), (2, .int p2)] rfl 2 rfl ?_
  refine k_iconst C dX0_fittingKinds_2 (0) (by decide) 3 rfl ?_
  refine k_istore C dX0_fittingKinds_3 (by decide) [(4, .int (0 : Int32)), (3, .int (0 : Int32)), (0, rV (xg X) p0), (1, .int p1), (2, .int p2)] rfl 5 rfl ?_
  refine k_sub [2, 3, 4, 1, 0] rfl ?_
  exact t_5 4096 _ _ _ _ _ w0 hf
theorem dX0_fittingLike_0 : decode cX0_fittingLike 0 = .ok (.iconst 0, 1) := by decide +kernel
theorem dX0_fittingLike_1 : decode cX0_fittingLike 1 = .ok (.istore_n 3, 1) := by decide +kernel
theorem dX0_fittingLike_2 : decode cX0_fittingLike 2 = .ok (.iconst 0, 1) := by decide +kernel
theorem dX0_fittingLike_3 : decode cX0_fittingLike 3 = .ok (.istore 4, 2) := by decide +kernel
theorem dX0_fittingLike_5 : decode cX0_fittingLike 5 = .ok (.iload 4, 2) := by decide +kernel
theorem dX0_fittingLike_7 : decode cX0_fittingLike 7 = .ok (.iload_n 1, 1) := by decide +kernel
theorem dX0_fittingLike_8 : decode cX0_fittingLike 8 = .ok (.if_icmp .gt 38, 3) := by decide +kernel
theorem dX0_fittingLike_11 : decode cX0_fittingLike 11 = .ok (.iload_n 2, 1) := by decide +kernel
theorem dX0_fittingLike_12 : decode cX0_fittingLike 12 = .ok (.iload 4, 2) := by decide +kernel
theorem dX0_fittingLike_14 : decode cX0_fittingLike 14 = .ok (.iushr, 1) := by decide +kernel
theorem dX0_fittingLike_15 : decode cX0_fittingLike 15 = .ok (.iconst 1, 1) := by decide +kernel
theorem dX0_fittingLike_16 : decode cX0_fittingLike 16 = .ok (.iand, 1) := by decide +kernel
theorem dX0_fittingLike_17 : decode cX0_fittingLike 17 = .ok (.iconst 1, 1) := by decide +kernel
theorem dX0_fittingLike_18 : decode cX0_fittingLike 18 = .ok (.if_icmp .ne 22, 3) := by decide +kernel
theorem dX0_fittingLike_21 : decode cX0_fittingLike 21 = .ok (.aload_n 0, 1) := by decide +kernel
theorem dX0_fittingLike_22 : decode cX0_fittingLike 22 = .ok (.getfield 24, 3) := by decide +kernel
theorem dX0_fittingLike_25 : decode cX0_fittingLike 25 = .ok (.iload 4, 2) := by decide +kernel
theorem dX0_fittingLike_27 : decode cX0_fittingLike 27 = .ok (.iaload, 1) := by decide +kernel
theorem dX0_fittingLike_28 : decode cX0_fittingLike 28 = .ok (.aload_n 0, 1) := by decide +kernel
theorem dX0_fittingLike_29 : decode cX0_fittingLike 29 = .ok (.getfield 24, 3) := by decide +kernel
theorem dX0_fittingLike_32 : decode cX0_fittingLike 32 = .ok (.iload_n 1, 1) := by decide +kernel
theorem dX0_fittingLike_33 : decode cX0_fittingLike 33 = .ok (.iaload, 1) := by decide +kernel
theorem dX0_fittingLike_34 : decode cX0_fittingLike 34 = .ok (.if_icmp .ne 6, 3) := by decide +kernel
theorem dX0_fittingLike_37 : decode cX0_fittingLike 37 = .ok (.iinc 3 1, 3) := by decide +kernel
theorem dX0_fittingLike_40 : decode cX0_fittingLike 40 = .ok (.iinc 4 1, 3) := by decide +kernel
theorem dX0_fittingLike_43 : decode cX0_fittingLike 43 = .ok (.goto (-38), 3) := by decide +kernel
theorem dX0_fittingLike_46 : decode cX0_fittingLike 46 = .ok (.iload_n 3, 1) := by decide +kernel
theorem dX0_fittingLike_47 : decode cX0_fittingLike 47 = .ok (.ireturn, 1) := by decide +kernel
set_option maxRecDepth 100000 in
set_option maxHeartbeats 4000000 in
theorem c_X0_fittingLike {g : Gv} {l : Launch} (p0 : Nat) (p1 : Int32) (p2 : Int32) (w0 : Wd) (rz : Int32) (wz : Wd) (hf : f_X0_fittingLike p0 p1 p2 w0 = some (rz, wz)) : MI g l yX0_fittingLike cX0_fittingLike 5 .int 0 0 [rV g p0, .int p1, .int p2] w0 rz wz := by
  refine mi_of RX0 (by decide) rfl (Nat.le_of_ble_eq_true rfl) ?_
  intro X hg hll C hr h0
  subst hg; subst hll
  have t_5 : ∀ (n : Nat) (v0 : Nat) (v1 : Int32) (v2 : Int32) (v3 : Int32) (v4 : Int32) (w : Wd), f_X0_fittingLike_5 n v0 v1 v2 v3 v4 w = some (rz, wz) → Wk X 0 0 (QI X w0 rz wz) w [(0, rV (xg X) v0), (1, .int v1), (2, .int v2), (3, .int v3), (4, .int v4)] 5 [] := by
    intro n
    induction n with
    | zero => intro v0 v1 v2 v3 v4 w hf; rw [f_X0_fittingLike_5] at hf; cases hf
    | succ n5 ih5 =>
      have t_40 : ∀ (v0 : Nat) (v1 : Int32) (v2 : Int32) (v3 : Int32) (v4 : Int32) (w : Wd), f_X0_fittingLike_40 (f_X0_fittingLike_5 n5) v0 v1 v2 v3 v4 w = some (rz, wz) → Wk X 0 0 (QI X w0 rz wz) w [(0, rV (xg X) v0), (1, .int v1), (2, .int v2), (3, .int v3), (4, .int v4)] 40 [] := by
        intro v0 v1 v2 v3 v4 w hf
        unfold f_X0_fittingLike_40 at hf
        refine k_iinc C dX0_fittingLike_40 4 rfl (by decide) (by decide) [(4, .int (v4 + (1 : Int32))), (0, rV (xg X) v0), (1, .int v1), (2, .int v2), (3, .int v3)] rfl 43 rfl ?_
        refine k_goto C dX0_fittingLike_43 5 rfl ?_
        refine k_sub [1, 2, 3, 4, 0] rfl ?_
        exact ih5 _ _ _ _ _ w hf
      intro v0 v1 v2 v3 v4 w hf
      rw [f_X0_fittingLike_5] at hf
      refine k_iload C dX0_fittingLike_5 4 rfl 7 rfl ?_
      refine k_iload_n C dX0_fittingLike_7 1 rfl 8 rfl ?_
      refine k_icmp_gt C dX0_fittingLike_8 hf 46 rfl 11 rfl (fun hf => ?_) (fun hf => ?_)
      · refine k_iload_n C dX0_fittingLike_46 3 rfl 47 rfl ?_
        exact k_iret C hr h0 dX0_fittingLike_47 hf
      · refine k_iload_n C dX0_fittingLike_11 2 rfl 12 rfl ?_
        refine k_iload C dX0_fittingLike_12 4 rfl 14 rfl ?_
        refine k_iushr C dX0_fittingLike_14 15 rfl ?_
        refine k_iconst C dX0_fittingLike_15 (1) (by decide) 16 rfl ?_
        refine k_iand C dX0_fittingLike_16 17 rfl ?_
        refine k_iconst C dX0_fittingLike_17 (1) (by decide) 18 rfl ?_
        refine k_icmp_ne C dX0_fittingLike_18 hf 40 rfl 21 rfl (fun hf => ?_) (fun hf => ?_)
        · refine k_sub [0, 1, 2, 3, 4] rfl ?_
          exact t_40 _ _ _ _ _ w hf
        · refine k_aload_n C dX0_fittingLike_21 0 rfl rfl 22 rfl ?_
          refine k_getR C fe_X0_24 rfl dX0_fittingLike_22 hf 25 rfl (fun r5 hf => ?_)
          refine k_iload C dX0_fittingLike_25 4 rfl 27 rfl ?_
          refine k_iald C dX0_fittingLike_27 hf 28 rfl (fun x6 hf => ?_)
          refine k_aload_n C dX0_fittingLike_28 0 rfl rfl 29 rfl ?_
          refine k_getR C fe_X0_24 rfl dX0_fittingLike_29 hf 32 rfl (fun r7 hf => ?_)
          refine k_iload_n C dX0_fittingLike_32 1 rfl 33 rfl ?_
          refine k_iald C dX0_fittingLike_33 hf 34 rfl (fun x8 hf => ?_)
          refine k_icmp_ne C dX0_fittingLike_34 hf 40 rfl 37 rfl (fun hf => ?_) (fun hf => ?_)
          · refine k_sub [0, 1, 2, 3, 4] rfl ?_
            exact t_40 _ _ _ _ _ w hf
          · refine k_iinc C dX0_fittingLike_37 3 rfl (by decide) (by decide) [(3, .int (v3 + (1 : Int32))), (0, rV (xg X) v0), (1, .int v1), (2, .int v2), (4, .int v4)] rfl 40 rfl ?_
            refine k_sub [1, 2, 3, 0, 4] rfl ?_
            exact t_40 _ _ _ _ _ w hf
  unfold f_X0_fittingLike at hf
  refine k_sub (lv2 := [(0, rV (xg X) p0), (1, .int p1), (2, .int p2)]) [0, 1, 2] rfl ?_
  refine k_iconst C dX0_fittingLike_0 (0) (by decide) 1 rfl ?_
  refine k_istore_n C dX0_fittingLike_1 rfl (by decide) [(3, .int (0 : Int32)), (0, rV (xg X) p0), (1, .int p1), (2, .int p2)] rfl 2 rfl ?_
  refine k_iconst C dX0_fittingLike_2 (0) (by decide) 3 rfl ?_
  refine k_istore C dX0_fittingLike_3 (by decide) [(4, .int (0 : Int32)), (3, .int (0 : Int32)), (0, rV (xg X) p0), (1, .int p1), (2, .int p2)] rfl 5 rfl ?_
  refine k_sub [2, 3, 4, 1, 0] rfl ?_
  exact t_5 4096 _ _ _ _ _ w0 hf
theorem dX0_fittingRates_0 : decode cX0_fittingRates 0 = .ok (.iconst 0, 1) := by decide +kernel
theorem dX0_fittingRates_1 : decode cX0_fittingRates 1 = .ok (.istore_n 3, 1) := by decide +kernel
theorem dX0_fittingRates_2 : decode cX0_fittingRates 2 = .ok (.iconst 1, 1) := by decide +kernel
theorem dX0_fittingRates_3 : decode cX0_fittingRates 3 = .ok (.istore 4, 2) := by decide +kernel
theorem dX0_fittingRates_5 : decode cX0_fittingRates 5 = .ok (.iload 4, 2) := by decide +kernel
theorem dX0_fittingRates_7 : decode cX0_fittingRates 7 = .ok (.bipush 9, 2) := by decide +kernel
theorem dX0_fittingRates_9 : decode cX0_fittingRates 9 = .ok (.if_icmp .gt 23, 3) := by decide +kernel
theorem dX0_fittingRates_12 : decode cX0_fittingRates 12 = .ok (.aload_n 0, 1) := by decide +kernel
theorem dX0_fittingRates_13 : decode cX0_fittingRates 13 = .ok (.iload_n 1, 1) := by decide +kernel
theorem dX0_fittingRates_14 : decode cX0_fittingRates 14 = .ok (.iload_n 2, 1) := by decide +kernel
theorem dX0_fittingRates_15 : decode cX0_fittingRates 15 = .ok (.iload 4, 2) := by decide +kernel
theorem dX0_fittingRates_17 : decode cX0_fittingRates 17 = .ok (.invokevirtual 70, 3) := by decide +kernel
theorem dX0_fittingRates_20 : decode cX0_fittingRates 20 = .ok (.ifCond .eq 6, 3) := by decide +kernel
theorem dX0_fittingRates_23 : decode cX0_fittingRates 23 = .ok (.iinc 3 1, 3) := by decide +kernel
theorem dX0_fittingRates_26 : decode cX0_fittingRates 26 = .ok (.iinc 4 1, 3) := by decide +kernel
theorem dX0_fittingRates_29 : decode cX0_fittingRates 29 = .ok (.goto (-24), 3) := by decide +kernel
theorem dX0_fittingRates_32 : decode cX0_fittingRates 32 = .ok (.iload_n 3, 1) := by decide +kernel
theorem dX0_fittingRates_33 : decode cX0_fittingRates 33 = .ok (.ireturn, 1) := by decide +kernel
set_option maxRecDepth 100000 in
set_option maxHeartbeats 4000000 in
theorem c_X0_fittingRates {g : Gv} {l : Launch} (p0 : Nat) (p1 : Int32) (p2 : Int32) (w0 : Wd) (rz : Int32) (wz : Wd) (hf : f_X0_fittingRates p0 p1 p2 w0 = some (rz, wz)) : MI g l yX0_fittingRates cX0_fittingRates 5 .int 4 95 [rV g p0, .int p1, .int p2] w0 rz wz := by
  refine mi_of RX0 (by decide) rfl (Nat.le_of_ble_eq_true rfl) ?_
  intro X hg hll C hr h0
  subst hg; subst hll
  have t_5 : ∀ (n : Nat) (v0 : Nat) (v1 : Int32) (v2 : Int32) (v3 : Int32) (v4 : Int32) (w : Wd), f_X0_fittingRates_5 n v0 v1 v2 v3 v4 w = some (rz, wz) → Wk X 0 0 (QI X w0 rz wz) w [(0, rV (xg X) v0), (1, .int v1), (2, .int v2), (3, .int v3), (4, .int v4)] 5 [] := by
    intro n
    induction n with
    | zero => intro v0 v1 v2 v3 v4 w hf; rw [f_X0_fittingRates_5] at hf; cases hf
    | succ n5 ih5 =>
      have t_26 : ∀ (v0 : Nat) (v1 : Int32) (v2 : Int32) (v3 : Int32) (v4 : Int32) (w : Wd), f_X0_fittingRates_26 (f_X0_fittingRates_5 n5) v0 v1 v2 v3 v4 w = some (rz, wz) → Wk X 0 0 (QI X w0 rz wz) w [(0, rV (xg X) v0), (1, .int v1), (2, .int v2), (3, .int v3), (4, .int v4)] 26 [] := by
        intro v0 v1 v2 v3 v4 w hf
        unfold f_X0_fittingRates_26 at hf
        refine k_iinc C dX0_fittingRates_26 4 rfl (by decide) (by decide) [(4, .int (v4 + (1 : Int32))), (0, rV (xg X) v0), (1, .int v1), (2, .int v2), (3, .int v3)] rfl 29 rfl ?_
        refine k_goto C dX0_fittingRates_29 5 rfl ?_
        refine k_sub [1, 2, 3, 4, 0] rfl ?_
        exact ih5 _ _ _ _ _ w hf
      intro v0 v1 v2 v3 v4 w hf
      rw [f_X0_fittingRates_5] at hf
      refine k_iload C dX0_fittingRates_5 4 rfl 7 rfl ?_
      refine k_bipush C dX0_fittingRates_7 (9) (by decide) 9 rfl ?_
      refine k_icmp_gt C dX0_fittingRates_9 hf 32 rfl 12 rfl (fun hf => ?_) (fun hf => ?_)
      · refine k_iload_n C dX0_fittingRates_32 3 rfl 33 rfl ?_
        exact k_iret C hr h0 dX0_fittingRates_33 hf
      · refine k_aload_n C dX0_fittingRates_12 0 rfl rfl 13 rfl ?_
        refine k_iload_n C dX0_fittingRates_13 1 rfl 14 rfl ?_
        refine k_iload_n C dX0_fittingRates_14 2 rfl 15 rfl ?_
        refine k_iload C dX0_fittingRates_15 4 rfl 17 rfl ?_
        refine k_callV_i C ye_X0_notesFit ve_X0_70 ⟨rfl, rfl⟩ ⟨rfl, rfl⟩ dX0_fittingRates_17 [.int v1, .int v2, .int v4] rfl rfl (Nat.le_of_ble_eq_true rfl) (c_X0_notesFit _ _ _ _ _) hf 20 rfl (fun x4 w3 hf => ?_)
        refine k_if_eq C dX0_fittingRates_20 hf 26 rfl 23 rfl (fun hf => ?_) (fun hf => ?_)
        · refine k_sub [0, 1, 2, 3, 4] rfl ?_
          exact t_26 _ _ _ _ _ w3 hf
        · refine k_iinc C dX0_fittingRates_23 3 rfl (by decide) (by decide) [(3, .int (v3 + (1 : Int32))), (0, rV (xg X) v0), (1, .int v1), (2, .int v2), (4, .int v4)] rfl 26 rfl ?_
          refine k_sub [1, 2, 3, 0, 4] rfl ?_
          exact t_26 _ _ _ _ _ w3 hf
  unfold f_X0_fittingRates at hf
  refine k_sub (lv2 := [(0, rV (xg X) p0), (1, .int p1), (2, .int p2)]) [0, 1, 2] rfl ?_
  refine k_iconst C dX0_fittingRates_0 (0) (by decide) 1 rfl ?_
  refine k_istore_n C dX0_fittingRates_1 rfl (by decide) [(3, .int (0 : Int32)), (0, rV (xg X) p0), (1, .int p1), (2, .int p2)] rfl 2 rfl ?_
  refine k_iconst C dX0_fittingRates_2 (1) (by decide) 3 rfl ?_
  refine k_istore C dX0_fittingRates_3 (by decide) [(4, .int (1 : Int32)), (3, .int (0 : Int32)), (0, rV (xg X) p0), (1, .int p1), (2, .int p2)] rfl 5 rfl ?_
  refine k_sub [2, 3, 4, 1, 0] rfl ?_
  exact t_5 4096 _ _ _ _ _ w0 hf
theorem dJ6_bitCount_0f7a4_0 : decode cJ6_bitCount_0f7a4 0 = .ok (.iload_n 0, 1) := by decide +kernel
theorem dJ6_bitCount_0f7a4_1 : decode cJ6_bitCount_0f7a4 1 = .ok (.iload_n 0, 1) := by decide +kernel
theorem dJ6_bitCount_0f7a4_2 : decode cJ6_bitCount_0f7a4 2 = .ok (.iconst 1, 1) := by decide +kernel
theorem dJ6_bitCount_0f7a4_3 : decode cJ6_bitCount_0f7a4 3 = .ok (.iushr, 1) := by decide +kernel
theorem dJ6_bitCount_0f7a4_4 : decode cJ6_bitCount_0f7a4 4 = .ok (.ldc_w 265, 3) := by decide +kernel
theorem dJ6_bitCount_0f7a4_7 : decode cJ6_bitCount_0f7a4 7 = .ok (.iand, 1) := by decide +kernel
theorem dJ6_bitCount_0f7a4_8 : decode cJ6_bitCount_0f7a4 8 = .ok (.isub, 1) := by decide +kernel
theorem dJ6_bitCount_0f7a4_9 : decode cJ6_bitCount_0f7a4 9 = .ok (.istore_n 0, 1) := by decide +kernel
theorem dJ6_bitCount_0f7a4_10 : decode cJ6_bitCount_0f7a4 10 = .ok (.iload_n 0, 1) := by decide +kernel
theorem dJ6_bitCount_0f7a4_11 : decode cJ6_bitCount_0f7a4 11 = .ok (.ldc_w 266, 3) := by decide +kernel
theorem dJ6_bitCount_0f7a4_14 : decode cJ6_bitCount_0f7a4 14 = .ok (.iand, 1) := by decide +kernel
theorem dJ6_bitCount_0f7a4_15 : decode cJ6_bitCount_0f7a4 15 = .ok (.iload_n 0, 1) := by decide +kernel
theorem dJ6_bitCount_0f7a4_16 : decode cJ6_bitCount_0f7a4 16 = .ok (.iconst 2, 1) := by decide +kernel
theorem dJ6_bitCount_0f7a4_17 : decode cJ6_bitCount_0f7a4 17 = .ok (.iushr, 1) := by decide +kernel
theorem dJ6_bitCount_0f7a4_18 : decode cJ6_bitCount_0f7a4 18 = .ok (.ldc_w 266, 3) := by decide +kernel
theorem dJ6_bitCount_0f7a4_21 : decode cJ6_bitCount_0f7a4 21 = .ok (.iand, 1) := by decide +kernel
theorem dJ6_bitCount_0f7a4_22 : decode cJ6_bitCount_0f7a4 22 = .ok (.iadd, 1) := by decide +kernel
theorem dJ6_bitCount_0f7a4_23 : decode cJ6_bitCount_0f7a4 23 = .ok (.istore_n 0, 1) := by decide +kernel
theorem dJ6_bitCount_0f7a4_24 : decode cJ6_bitCount_0f7a4 24 = .ok (.iload_n 0, 1) := by decide +kernel
theorem dJ6_bitCount_0f7a4_25 : decode cJ6_bitCount_0f7a4 25 = .ok (.iload_n 0, 1) := by decide +kernel
theorem dJ6_bitCount_0f7a4_26 : decode cJ6_bitCount_0f7a4 26 = .ok (.iconst 4, 1) := by decide +kernel
theorem dJ6_bitCount_0f7a4_27 : decode cJ6_bitCount_0f7a4 27 = .ok (.iushr, 1) := by decide +kernel
theorem dJ6_bitCount_0f7a4_28 : decode cJ6_bitCount_0f7a4 28 = .ok (.iadd, 1) := by decide +kernel
theorem dJ6_bitCount_0f7a4_29 : decode cJ6_bitCount_0f7a4 29 = .ok (.ldc_w 267, 3) := by decide +kernel
theorem dJ6_bitCount_0f7a4_32 : decode cJ6_bitCount_0f7a4 32 = .ok (.iand, 1) := by decide +kernel
theorem dJ6_bitCount_0f7a4_33 : decode cJ6_bitCount_0f7a4 33 = .ok (.istore_n 0, 1) := by decide +kernel
theorem dJ6_bitCount_0f7a4_34 : decode cJ6_bitCount_0f7a4 34 = .ok (.iload_n 0, 1) := by decide +kernel
theorem dJ6_bitCount_0f7a4_35 : decode cJ6_bitCount_0f7a4 35 = .ok (.iload_n 0, 1) := by decide +kernel
theorem dJ6_bitCount_0f7a4_36 : decode cJ6_bitCount_0f7a4 36 = .ok (.bipush 8, 2) := by decide +kernel
theorem dJ6_bitCount_0f7a4_38 : decode cJ6_bitCount_0f7a4 38 = .ok (.iushr, 1) := by decide +kernel
theorem dJ6_bitCount_0f7a4_39 : decode cJ6_bitCount_0f7a4 39 = .ok (.iadd, 1) := by decide +kernel
theorem dJ6_bitCount_0f7a4_40 : decode cJ6_bitCount_0f7a4 40 = .ok (.istore_n 0, 1) := by decide +kernel
theorem dJ6_bitCount_0f7a4_41 : decode cJ6_bitCount_0f7a4 41 = .ok (.iload_n 0, 1) := by decide +kernel
theorem dJ6_bitCount_0f7a4_42 : decode cJ6_bitCount_0f7a4 42 = .ok (.iload_n 0, 1) := by decide +kernel
theorem dJ6_bitCount_0f7a4_43 : decode cJ6_bitCount_0f7a4 43 = .ok (.bipush 16, 2) := by decide +kernel
theorem dJ6_bitCount_0f7a4_45 : decode cJ6_bitCount_0f7a4 45 = .ok (.iushr, 1) := by decide +kernel
theorem dJ6_bitCount_0f7a4_46 : decode cJ6_bitCount_0f7a4 46 = .ok (.iadd, 1) := by decide +kernel
theorem dJ6_bitCount_0f7a4_47 : decode cJ6_bitCount_0f7a4 47 = .ok (.istore_n 0, 1) := by decide +kernel
theorem dJ6_bitCount_0f7a4_48 : decode cJ6_bitCount_0f7a4 48 = .ok (.iload_n 0, 1) := by decide +kernel
theorem dJ6_bitCount_0f7a4_49 : decode cJ6_bitCount_0f7a4 49 = .ok (.bipush 63, 2) := by decide +kernel
theorem dJ6_bitCount_0f7a4_51 : decode cJ6_bitCount_0f7a4 51 = .ok (.iand, 1) := by decide +kernel
theorem dJ6_bitCount_0f7a4_52 : decode cJ6_bitCount_0f7a4 52 = .ok (.ireturn, 1) := by decide +kernel
set_option maxRecDepth 100000 in
set_option maxHeartbeats 4000000 in
theorem c_J6_bitCount_0f7a4 {g : Gv} {l : Launch} (p0 : Int32) (w0 : Wd) (rz : Int32) (wz : Wd) (hf : f_J6_bitCount_0f7a4 p0 w0 = some (rz, wz)) : MI g l yJ6_bitCount_0f7a4 cJ6_bitCount_0f7a4 1 .int 0 0 [.int p0] w0 rz wz := by
  refine mi_of RJ6 (by decide) rfl (Nat.le_of_ble_eq_true rfl) ?_
  intro X hg hll C hr h0
  subst hg; subst hll
  unfold f_J6_bitCount_0f7a4 at hf
  refine k_sub (lv2 := [(0, .int p0)]) [0] rfl ?_
  refine k_iload_n C dJ6_bitCount_0f7a4_0 0 rfl 1 rfl ?_
  refine k_iload_n C dJ6_bitCount_0f7a4_1 0 rfl 2 rfl ?_
  refine k_iconst C dJ6_bitCount_0f7a4_2 (1) (by decide) 3 rfl ?_
  refine k_iushr C dJ6_bitCount_0f7a4_3 4 rfl ?_
  refine k_ldcw C dJ6_bitCount_0f7a4_4 mcst_J6_265 7 rfl ?_
  refine k_iand C dJ6_bitCount_0f7a4_7 8 rfl ?_
  refine k_isub C dJ6_bitCount_0f7a4_8 9 rfl ?_
  refine k_nmi hf (fun x6 hf => ?_)
  refine k_istore_n C dJ6_bitCount_0f7a4_9 rfl (by decide) [(0, .int x6)] rfl 10 rfl ?_
  refine k_iload_n C dJ6_bitCount_0f7a4_10 0 rfl 11 rfl ?_
  refine k_ldcw C dJ6_bitCount_0f7a4_11 mcst_J6_266 14 rfl ?_
  refine k_iand C dJ6_bitCount_0f7a4_14 15 rfl ?_
  refine k_iload_n C dJ6_bitCount_0f7a4_15 0 rfl 16 rfl ?_
  refine k_iconst C dJ6_bitCount_0f7a4_16 (2) (by decide) 17 rfl ?_
  refine k_iushr C dJ6_bitCount_0f7a4_17 18 rfl ?_
  refine k_ldcw C dJ6_bitCount_0f7a4_18 mcst_J6_266 21 rfl ?_
  refine k_iand C dJ6_bitCount_0f7a4_21 22 rfl ?_
  refine k_iadd C dJ6_bitCount_0f7a4_22 23 rfl ?_
  refine k_nmi hf (fun x7 hf => ?_)
  refine k_istore_n C dJ6_bitCount_0f7a4_23 rfl (by decide) [(0, .int x7)] rfl 24 rfl ?_
  refine k_iload_n C dJ6_bitCount_0f7a4_24 0 rfl 25 rfl ?_
  refine k_iload_n C dJ6_bitCount_0f7a4_25 0 rfl 26 rfl ?_
  refine k_iconst C dJ6_bitCount_0f7a4_26 (4) (by decide) 27 rfl ?_
  refine k_iushr C dJ6_bitCount_0f7a4_27 28 rfl ?_
  refine k_iadd C dJ6_bitCount_0f7a4_28 29 rfl ?_
  refine k_ldcw C dJ6_bitCount_0f7a4_29 mcst_J6_267 32 rfl ?_
  refine k_iand C dJ6_bitCount_0f7a4_32 33 rfl ?_
  refine k_nmi hf (fun x8 hf => ?_)
  refine k_istore_n C dJ6_bitCount_0f7a4_33 rfl (by decide) [(0, .int x8)] rfl 34 rfl ?_
  refine k_iload_n C dJ6_bitCount_0f7a4_34 0 rfl 35 rfl ?_
  refine k_iload_n C dJ6_bitCount_0f7a4_35 0 rfl 36 rfl ?_
  refine k_bipush C dJ6_bitCount_0f7a4_36 (8) (by decide) 38 rfl ?_
  refine k_iushr C dJ6_bitCount_0f7a4_38 39 rfl ?_
  refine k_iadd C dJ6_bitCount_0f7a4_39 40 rfl ?_
  refine k_nmi hf (fun x9 hf => ?_)
  refine k_istore_n C dJ6_bitCount_0f7a4_40 rfl (by decide) [(0, .int x9)] rfl 41 rfl ?_
  refine k_iload_n C dJ6_bitCount_0f7a4_41 0 rfl 42 rfl ?_
  refine k_iload_n C dJ6_bitCount_0f7a4_42 0 rfl 43 rfl ?_
  refine k_bipush C dJ6_bitCount_0f7a4_43 (16) (by decide) 45 rfl ?_
  refine k_iushr C dJ6_bitCount_0f7a4_45 46 rfl ?_
  refine k_iadd C dJ6_bitCount_0f7a4_46 47 rfl ?_
  refine k_nmi hf (fun x10 hf => ?_)
  refine k_istore_n C dJ6_bitCount_0f7a4_47 rfl (by decide) [(0, .int x10)] rfl 48 rfl ?_
  refine k_iload_n C dJ6_bitCount_0f7a4_48 0 rfl 49 rfl ?_
  refine k_bipush C dJ6_bitCount_0f7a4_49 (63) (by decide) 51 rfl ?_
  refine k_iand C dJ6_bitCount_0f7a4_51 52 rfl ?_
  exact k_iret C hr h0 dJ6_bitCount_0f7a4_52 hf
theorem dX11_likeLetters_0 : decode cX11_likeLetters 0 = .ok (.iconst 5, 1) := by decide +kernel
theorem dX11_likeLetters_1 : decode cX11_likeLetters 1 = .ok (.iload_n 0, 1) := by decide +kernel
theorem dX11_likeLetters_2 : decode cX11_likeLetters 2 = .ok (.iload_n 1, 1) := by decide +kernel
theorem dX11_likeLetters_3 : decode cX11_likeLetters 3 = .ok (.ixor, 1) := by decide +kernel
theorem dX11_likeLetters_4 : decode cX11_likeLetters 4 = .ok (.invokestatic 223, 3) := by decide +kernel
theorem dX11_likeLetters_7 : decode cX11_likeLetters 7 = .ok (.isub, 1) := by decide +kernel
theorem dX11_likeLetters_8 : decode cX11_likeLetters 8 = .ok (.ireturn, 1) := by decide +kernel
set_option maxRecDepth 100000 in
set_option maxHeartbeats 4000000 in
theorem c_X11_likeLetters {g : Gv} {l : Launch} (p0 : Int32) (p1 : Int32) (w0 : Wd) (rz : Int32) (wz : Wd) (hf : f_X11_likeLetters p0 p1 w0 = some (rz, wz)) : MI g l yX11_likeLetters cX11_likeLetters 2 .int 1 20 [.int p0, .int p1] w0 rz wz := by
  refine mi_of RX11 (by decide) rfl (Nat.le_of_ble_eq_true rfl) ?_
  intro X hg hll C hr h0
  subst hg; subst hll
  unfold f_X11_likeLetters at hf
  refine k_sub (lv2 := [(0, .int p0), (1, .int p1)]) [0, 1] rfl ?_
  refine k_iconst C dX11_likeLetters_0 (5) (by decide) 1 rfl ?_
  refine k_iload_n C dX11_likeLetters_1 0 rfl 2 rfl ?_
  refine k_iload_n C dX11_likeLetters_2 1 rfl 3 rfl ?_
  refine k_ixor C dX11_likeLetters_3 4 rfl ?_
  refine k_callS_i C ye_J6_bitCount_0f7a4 se_X11_223 ⟨rfl, rfl⟩ ⟨rfl, rfl⟩ dX11_likeLetters_4 [.int (p0 ^^^ p1)] rfl rfl (Nat.le_of_ble_eq_true rfl) (c_J6_bitCount_0f7a4 _ _) hf 7 rfl (fun x4 w3 hf => ?_)
  refine k_isub C dX11_likeLetters_7 8 rfl ?_
  exact k_iret C hr h0 dX11_likeLetters_8 hf
theorem dX0_wordFits_0 : decode cX0_wordFits 0 = .ok (.iconst 0, 1) := by decide +kernel
theorem dX0_wordFits_1 : decode cX0_wordFits 1 = .ok (.istore_n 2, 1) := by decide +kernel
theorem dX0_wordFits_2 : decode cX0_wordFits 2 = .ok (.iload_n 2, 1) := by decide +kernel
theorem dX0_wordFits_3 : decode cX0_wordFits 3 = .ok (.aload_n 0, 1) := by decide +kernel
theorem dX0_wordFits_4 : decode cX0_wordFits 4 = .ok (.getfield 31, 3) := by decide +kernel
theorem dX0_wordFits_7 : decode cX0_wordFits 7 = .ok (.if_icmp .ge 30, 3) := by decide +kernel
theorem dX0_wordFits_10 : decode cX0_wordFits 10 = .ok (.iload_n 1, 1) := by decide +kernel
theorem dX0_wordFits_11 : decode cX0_wordFits 11 = .ok (.aload_n 0, 1) := by decide +kernel
theorem dX0_wordFits_12 : decode cX0_wordFits 12 = .ok (.getfield 11, 3) := by decide +kernel
theorem dX0_wordFits_15 : decode cX0_wordFits 15 = .ok (.iload_n 2, 1) := by decide +kernel
theorem dX0_wordFits_16 : decode cX0_wordFits 16 = .ok (.iaload, 1) := by decide +kernel
theorem dX0_wordFits_17 : decode cX0_wordFits 17 = .ok (.invokestatic 44, 3) := by decide +kernel
theorem dX0_wordFits_20 : decode cX0_wordFits 20 = .ok (.aload_n 0, 1) := by decide +kernel
theorem dX0_wordFits_21 : decode cX0_wordFits 21 = .ok (.getfield 15, 3) := by decide +kernel
theorem dX0_wordFits_24 : decode cX0_wordFits 24 = .ok (.iload_n 2, 1) := by decide +kernel
theorem dX0_wordFits_25 : decode cX0_wordFits 25 = .ok (.iaload, 1) := by decide +kernel
theorem dX0_wordFits_26 : decode cX0_wordFits 26 = .ok (.if_icmp .eq 5, 3) := by decide +kernel
theorem dX0_wordFits_29 : decode cX0_wordFits 29 = .ok (.iconst 0, 1) := by decide +kernel
theorem dX0_wordFits_30 : decode cX0_wordFits 30 = .ok (.ireturn, 1) := by decide +kernel
theorem dX0_wordFits_31 : decode cX0_wordFits 31 = .ok (.iinc 2 1, 3) := by decide +kernel
theorem dX0_wordFits_34 : decode cX0_wordFits 34 = .ok (.goto (-32), 3) := by decide +kernel
theorem dX0_wordFits_37 : decode cX0_wordFits 37 = .ok (.iconst 1, 1) := by decide +kernel
theorem dX0_wordFits_38 : decode cX0_wordFits 38 = .ok (.ireturn, 1) := by decide +kernel
set_option maxRecDepth 100000 in
set_option maxHeartbeats 4000000 in
theorem c_X0_wordFits {g : Gv} {l : Launch} (p0 : Nat) (p1 : Int32) (w0 : Wd) (rz : Int32) (wz : Wd) (hf : f_X0_wordFits p0 p1 w0 = some (rz, wz)) : MI g l yX0_wordFits cX0_wordFits 3 .boolean 2 41 [rV g p0, .int p1] w0 rz wz := by
  refine mi_of RX0 (by decide) rfl (Nat.le_of_ble_eq_true rfl) ?_
  intro X hg hll C hr h0
  subst hg; subst hll
  have t_2 : ∀ (n : Nat) (v0 : Nat) (v1 : Int32) (v2 : Int32) (w : Wd), f_X0_wordFits_2 n v0 v1 v2 w = some (rz, wz) → Wk X 0 0 (QI X w0 rz wz) w [(0, rV (xg X) v0), (1, .int v1), (2, .int v2)] 2 [] := by
    intro n
    induction n with
    | zero => intro v0 v1 v2 w hf; rw [f_X0_wordFits_2] at hf; cases hf
    | succ n2 ih2 =>
      intro v0 v1 v2 w hf
      rw [f_X0_wordFits_2] at hf
      refine k_iload_n C dX0_wordFits_2 2 rfl 3 rfl ?_
      refine k_aload_n C dX0_wordFits_3 0 rfl rfl 4 rfl ?_
      refine k_getI C fe_X0_31 rfl dX0_wordFits_4 hf 7 rfl (fun x8 hf => ?_)
      refine k_icmp_ge C dX0_wordFits_7 hf 37 rfl 10 rfl (fun hf => ?_) (fun hf => ?_)
      · refine k_iconst C dX0_wordFits_37 (1) (by decide) 38 rfl ?_
        exact k_zret C hr h0 dX0_wordFits_38 hf
      · refine k_iload_n C dX0_wordFits_10 1 rfl 11 rfl ?_
        refine k_aload_n C dX0_wordFits_11 0 rfl rfl 12 rfl ?_
        refine k_getR C fe_X0_11 rfl dX0_wordFits_12 hf 15 rfl (fun r9 hf => ?_)
        refine k_iload_n C dX0_wordFits_15 2 rfl 16 rfl ?_
        refine k_iald C dX0_wordFits_16 hf 17 rfl (fun x10 hf => ?_)
        refine k_callSN_i C ye_X11_likeLetters sn_X0_44 ⟨rfl, rfl⟩ ⟨rfl, rfl⟩ dX0_wordFits_17 [.int v1, .int x10] rfl rfl (Nat.le_of_ble_eq_true rfl) (c_X11_likeLetters _ _ _) hf 20 rfl (fun x12 w11 hf => ?_)
        refine k_aload_n C dX0_wordFits_20 0 rfl rfl 21 rfl ?_
        refine k_getR C fe_X0_15 rfl dX0_wordFits_21 hf 24 rfl (fun r13 hf => ?_)
        refine k_iload_n C dX0_wordFits_24 2 rfl 25 rfl ?_
        refine k_iald C dX0_wordFits_25 hf 26 rfl (fun x14 hf => ?_)
        refine k_icmp_eq C dX0_wordFits_26 hf 31 rfl 29 rfl (fun hf => ?_) (fun hf => ?_)
        · refine k_iinc C dX0_wordFits_31 2 rfl (by decide) (by decide) [(2, .int (v2 + (1 : Int32))), (0, rV (xg X) v0), (1, .int v1)] rfl 34 rfl ?_
          refine k_goto C dX0_wordFits_34 2 rfl ?_
          refine k_sub [1, 2, 0] rfl ?_
          exact ih2 _ _ _ w11 hf
        · refine k_iconst C dX0_wordFits_29 (0) (by decide) 30 rfl ?_
          exact k_zret C hr h0 dX0_wordFits_30 hf
  unfold f_X0_wordFits at hf
  refine k_sub (lv2 := [(0, rV (xg X) p0), (1, .int p1)]) [0, 1] rfl ?_
  refine k_iconst C dX0_wordFits_0 (0) (by decide) 1 rfl ?_
  refine k_istore_n C dX0_wordFits_1 rfl (by decide) [(2, .int (0 : Int32)), (0, rV (xg X) p0), (1, .int p1)] rfl 2 rfl ?_
  refine k_sub [1, 2, 0] rfl ?_
  exact t_2 4096 _ _ _ w0 hf
theorem dX0_fittingWords_0 : decode cX0_fittingWords 0 = .ok (.iconst 0, 1) := by decide +kernel
theorem dX0_fittingWords_1 : decode cX0_fittingWords 1 = .ok (.istore_n 1, 1) := by decide +kernel
theorem dX0_fittingWords_2 : decode cX0_fittingWords 2 = .ok (.iconst 0, 1) := by decide +kernel
theorem dX0_fittingWords_3 : decode cX0_fittingWords 3 = .ok (.istore_n 2, 1) := by decide +kernel
theorem dX0_fittingWords_4 : decode cX0_fittingWords 4 = .ok (.iload_n 2, 1) := by decide +kernel
theorem dX0_fittingWords_5 : decode cX0_fittingWords 5 = .ok (.bipush 32, 2) := by decide +kernel
theorem dX0_fittingWords_7 : decode cX0_fittingWords 7 = .ok (.if_icmp .ge 23, 3) := by decide +kernel
theorem dX0_fittingWords_10 : decode cX0_fittingWords 10 = .ok (.aload_n 0, 1) := by decide +kernel
theorem dX0_fittingWords_11 : decode cX0_fittingWords 11 = .ok (.iload_n 2, 1) := by decide +kernel
theorem dX0_fittingWords_12 : decode cX0_fittingWords 12 = .ok (.invokevirtual 48, 3) := by decide +kernel
theorem dX0_fittingWords_15 : decode cX0_fittingWords 15 = .ok (.ifCond .eq 9, 3) := by decide +kernel
theorem dX0_fittingWords_18 : decode cX0_fittingWords 18 = .ok (.iload_n 1, 1) := by decide +kernel
theorem dX0_fittingWords_19 : decode cX0_fittingWords 19 = .ok (.iconst 1, 1) := by decide +kernel
theorem dX0_fittingWords_20 : decode cX0_fittingWords 20 = .ok (.iload_n 2, 1) := by decide +kernel
theorem dX0_fittingWords_21 : decode cX0_fittingWords 21 = .ok (.ishl, 1) := by decide +kernel
theorem dX0_fittingWords_22 : decode cX0_fittingWords 22 = .ok (.ior, 1) := by decide +kernel
theorem dX0_fittingWords_23 : decode cX0_fittingWords 23 = .ok (.istore_n 1, 1) := by decide +kernel
theorem dX0_fittingWords_24 : decode cX0_fittingWords 24 = .ok (.iinc 2 1, 3) := by decide +kernel
theorem dX0_fittingWords_27 : decode cX0_fittingWords 27 = .ok (.goto (-23), 3) := by decide +kernel
theorem dX0_fittingWords_30 : decode cX0_fittingWords 30 = .ok (.iload_n 1, 1) := by decide +kernel
theorem dX0_fittingWords_31 : decode cX0_fittingWords 31 = .ok (.ireturn, 1) := by decide +kernel
set_option maxRecDepth 100000 in
set_option maxHeartbeats 4000000 in
theorem c_X0_fittingWords {g : Gv} {l : Launch} (p0 : Nat) (w0 : Wd) (rz : Int32) (wz : Wd) (hf : f_X0_fittingWords p0 w0 = some (rz, wz)) : MI g l yX0_fittingWords cX0_fittingWords 3 .int 3 63 [rV g p0] w0 rz wz := by
  refine mi_of RX0 (by decide) rfl (Nat.le_of_ble_eq_true rfl) ?_
  intro X hg hll C hr h0
  subst hg; subst hll
  have t_4 : ∀ (n : Nat) (v0 : Nat) (v1 : Int32) (v2 : Int32) (w : Wd), f_X0_fittingWords_4 n v0 v1 v2 w = some (rz, wz) → Wk X 0 0 (QI X w0 rz wz) w [(0, rV (xg X) v0), (1, .int v1), (2, .int v2)] 4 [] := by
    intro n
    induction n with
    | zero => intro v0 v1 v2 w hf; rw [f_X0_fittingWords_4] at hf; cases hf
    | succ n4 ih4 =>
      have t_24 : ∀ (v0 : Nat) (v1 : Int32) (v2 : Int32) (w : Wd), f_X0_fittingWords_24 (f_X0_fittingWords_4 n4) v0 v1 v2 w = some (rz, wz) → Wk X 0 0 (QI X w0 rz wz) w [(0, rV (xg X) v0), (1, .int v1), (2, .int v2)] 24 [] := by
        intro v0 v1 v2 w hf
        unfold f_X0_fittingWords_24 at hf
        refine k_iinc C dX0_fittingWords_24 2 rfl (by decide) (by decide) [(2, .int (v2 + (1 : Int32))), (0, rV (xg X) v0), (1, .int v1)] rfl 27 rfl ?_
        refine k_goto C dX0_fittingWords_27 4 rfl ?_
        refine k_sub [1, 2, 0] rfl ?_
        exact ih4 _ _ _ w hf
      intro v0 v1 v2 w hf
      rw [f_X0_fittingWords_4] at hf
      refine k_iload_n C dX0_fittingWords_4 2 rfl 5 rfl ?_
      refine k_bipush C dX0_fittingWords_5 (32) (by decide) 7 rfl ?_
      refine k_icmp_ge C dX0_fittingWords_7 hf 30 rfl 10 rfl (fun hf => ?_) (fun hf => ?_)
      · refine k_iload_n C dX0_fittingWords_30 1 rfl 31 rfl ?_
        exact k_iret C hr h0 dX0_fittingWords_31 hf
      · refine k_aload_n C dX0_fittingWords_10 0 rfl rfl 11 rfl ?_
        refine k_iload_n C dX0_fittingWords_11 2 rfl 12 rfl ?_
        refine k_callV_i C ye_X0_wordFits ve_X0_48 ⟨rfl, rfl⟩ ⟨rfl, rfl⟩ dX0_fittingWords_12 [.int v2] rfl rfl (Nat.le_of_ble_eq_true rfl) (c_X0_wordFits _ _ _) hf 15 rfl (fun x5 w4 hf => ?_)
        refine k_if_eq C dX0_fittingWords_15 hf 24 rfl 18 rfl (fun hf => ?_) (fun hf => ?_)
        · refine k_sub [0, 1, 2] rfl ?_
          exact t_24 _ _ _ w4 hf
        · refine k_iload_n C dX0_fittingWords_18 1 rfl 19 rfl ?_
          refine k_iconst C dX0_fittingWords_19 (1) (by decide) 20 rfl ?_
          refine k_iload_n C dX0_fittingWords_20 2 rfl 21 rfl ?_
          refine k_ishl C dX0_fittingWords_21 22 rfl ?_
          refine k_ior C dX0_fittingWords_22 23 rfl ?_
          refine k_nmi hf (fun x6 hf => ?_)
          refine k_istore_n C dX0_fittingWords_23 rfl (by decide) [(1, .int x6), (0, rV (xg X) v0), (2, .int v2)] rfl 24 rfl ?_
          refine k_sub [1, 0, 2] rfl ?_
          exact t_24 _ _ _ w4 hf
  unfold f_X0_fittingWords at hf
  refine k_sub (lv2 := [(0, rV (xg X) p0)]) [0] rfl ?_
  refine k_iconst C dX0_fittingWords_0 (0) (by decide) 1 rfl ?_
  refine k_istore_n C dX0_fittingWords_1 rfl (by decide) [(1, .int (0 : Int32)), (0, rV (xg X) p0)] rfl 2 rfl ?_
  refine k_iconst C dX0_fittingWords_2 (0) (by decide) 3 rfl ?_
  refine k_istore_n C dX0_fittingWords_3 rfl (by decide) [(2, .int (0 : Int32)), (1, .int (0 : Int32)), (0, rV (xg X) p0)] rfl 4 rfl ?_
  refine k_sub [2, 1, 0] rfl ?_
  exact t_4 4096 _ _ _ w0 hf
theorem dX0_mixInto_0 : decode cX0_mixInto 0 = .ok (.lload_n 1, 1) := by decide +kernel
theorem dX0_mixInto_1 : decode cX0_mixInto 1 = .ok (.lstore_n 3, 1) := by decide +kernel
theorem dX0_mixInto_2 : decode cX0_mixInto 2 = .ok (.iconst 0, 1) := by decide +kernel
theorem dX0_mixInto_3 : decode cX0_mixInto 3 = .ok (.istore 5, 2) := by decide +kernel
theorem dX0_mixInto_5 : decode cX0_mixInto 5 = .ok (.iload 5, 2) := by decide +kernel
theorem dX0_mixInto_7 : decode cX0_mixInto 7 = .ok (.aload_n 0, 1) := by decide +kernel
theorem dX0_mixInto_8 : decode cX0_mixInto 8 = .ok (.getfield 31, 3) := by decide +kernel
theorem dX0_mixInto_11 : decode cX0_mixInto 11 = .ok (.if_icmp .ge 39, 3) := by decide +kernel
theorem dX0_mixInto_14 : decode cX0_mixInto 14 = .ok (.ldc2_w 84, 3) := by decide +kernel
theorem dX0_mixInto_17 : decode cX0_mixInto 17 = .ok (.lload_n 3, 1) := by decide +kernel
theorem dX0_mixInto_18 : decode cX0_mixInto 18 = .ok (.lmul, 1) := by decide +kernel
theorem dX0_mixInto_19 : decode cX0_mixInto 19 = .ok (.aload_n 0, 1) := by decide +kernel
theorem dX0_mixInto_20 : decode cX0_mixInto 20 = .ok (.getfield 11, 3) := by decide +kernel
theorem dX0_mixInto_23 : decode cX0_mixInto 23 = .ok (.iload 5, 2) := by decide +kernel
theorem dX0_mixInto_25 : decode cX0_mixInto 25 = .ok (.iaload, 1) := by decide +kernel
theorem dX0_mixInto_26 : decode cX0_mixInto 26 = .ok (.i2l, 1) := by decide +kernel
theorem dX0_mixInto_27 : decode cX0_mixInto 27 = .ok (.ladd, 1) := by decide +kernel
theorem dX0_mixInto_28 : decode cX0_mixInto 28 = .ok (.lstore_n 3, 1) := by decide +kernel
theorem dX0_mixInto_29 : decode cX0_mixInto 29 = .ok (.ldc2_w 84, 3) := by decide +kernel
theorem dX0_mixInto_32 : decode cX0_mixInto 32 = .ok (.lload_n 3, 1) := by decide +kernel
theorem dX0_mixInto_33 : decode cX0_mixInto 33 = .ok (.lmul, 1) := by decide +kernel
theorem dX0_mixInto_34 : decode cX0_mixInto 34 = .ok (.aload_n 0, 1) := by decide +kernel
theorem dX0_mixInto_35 : decode cX0_mixInto 35 = .ok (.getfield 15, 3) := by decide +kernel
theorem dX0_mixInto_38 : decode cX0_mixInto 38 = .ok (.iload 5, 2) := by decide +kernel
theorem dX0_mixInto_40 : decode cX0_mixInto 40 = .ok (.iaload, 1) := by decide +kernel
theorem dX0_mixInto_41 : decode cX0_mixInto 41 = .ok (.i2l, 1) := by decide +kernel
theorem dX0_mixInto_42 : decode cX0_mixInto 42 = .ok (.ladd, 1) := by decide +kernel
theorem dX0_mixInto_43 : decode cX0_mixInto 43 = .ok (.lstore_n 3, 1) := by decide +kernel
theorem dX0_mixInto_44 : decode cX0_mixInto 44 = .ok (.iinc 5 1, 3) := by decide +kernel
theorem dX0_mixInto_47 : decode cX0_mixInto 47 = .ok (.goto (-42), 3) := by decide +kernel
theorem dX0_mixInto_50 : decode cX0_mixInto 50 = .ok (.iconst 0, 1) := by decide +kernel
theorem dX0_mixInto_51 : decode cX0_mixInto 51 = .ok (.istore 5, 2) := by decide +kernel
theorem dX0_mixInto_53 : decode cX0_mixInto 53 = .ok (.iload 5, 2) := by decide +kernel
theorem dX0_mixInto_55 : decode cX0_mixInto 55 = .ok (.aload_n 0, 1) := by decide +kernel
theorem dX0_mixInto_56 : decode cX0_mixInto 56 = .ok (.getfield 35, 3) := by decide +kernel
theorem dX0_mixInto_59 : decode cX0_mixInto 59 = .ok (.iconst 4, 1) := by decide +kernel
theorem dX0_mixInto_60 : decode cX0_mixInto 60 = .ok (.imul, 1) := by decide +kernel
theorem dX0_mixInto_61 : decode cX0_mixInto 61 = .ok (.if_icmp .ge 24, 3) := by decide +kernel
theorem dX0_mixInto_64 : decode cX0_mixInto 64 = .ok (.ldc2_w 84, 3) := by decide +kernel
theorem dX0_mixInto_67 : decode cX0_mixInto 67 = .ok (.lload_n 3, 1) := by decide +kernel
theorem dX0_mixInto_68 : decode cX0_mixInto 68 = .ok (.lmul, 1) := by decide +kernel
theorem dX0_mixInto_69 : decode cX0_mixInto 69 = .ok (.aload_n 0, 1) := by decide +kernel
theorem dX0_mixInto_70 : decode cX0_mixInto 70 = .ok (.getfield 18, 3) := by decide +kernel
theorem dX0_mixInto_73 : decode cX0_mixInto 73 = .ok (.iload 5, 2) := by decide +kernel
theorem dX0_mixInto_75 : decode cX0_mixInto 75 = .ok (.iaload, 1) := by decide +kernel
theorem dX0_mixInto_76 : decode cX0_mixInto 76 = .ok (.i2l, 1) := by decide +kernel
theorem dX0_mixInto_77 : decode cX0_mixInto 77 = .ok (.ladd, 1) := by decide +kernel
theorem dX0_mixInto_78 : decode cX0_mixInto 78 = .ok (.lstore_n 3, 1) := by decide +kernel
theorem dX0_mixInto_79 : decode cX0_mixInto 79 = .ok (.iinc 5 1, 3) := by decide +kernel
theorem dX0_mixInto_82 : decode cX0_mixInto 82 = .ok (.goto (-29), 3) := by decide +kernel
theorem dX0_mixInto_85 : decode cX0_mixInto 85 = .ok (.lload_n 3, 1) := by decide +kernel
theorem dX0_mixInto_86 : decode cX0_mixInto 86 = .ok (.lreturn, 1) := by decide +kernel
set_option maxRecDepth 100000 in
set_option maxHeartbeats 4000000 in
theorem c_X0_mixInto {g : Gv} {l : Launch} (p0 : Nat) (p1 : Int64) (w0 : Wd) (rz : Int64) (wz : Wd) (hf : f_X0_mixInto p0 p1 w0 = some (rz, wz)) : ML g l yX0_mixInto cX0_mixInto 6 0 0 [rV g p0, .long p1] w0 rz wz := by
  refine ml_of RX0 (by decide) rfl (Nat.le_of_ble_eq_true rfl) ?_
  intro X hg hll C hr h0
  subst hg; subst hll
  have t_53 : ∀ (n : Nat) (v0 : Nat) (v3 : Int64) (v5 : Int32) (w : Wd), f_X0_mixInto_53 n v0 v3 v5 w = some (rz, wz) → Wk X 0 0 (QL X w0 rz wz) w [(0, rV (xg X) v0), (3, .long v3), (5, .int v5)] 53 [] := by
    intro n
    induction n with
    | zero => intro v0 v3 v5 w hf; rw [f_X0_mixInto_53] at hf; cases hf
    | succ n53 ih53 =>
      intro v0 v3 v5 w hf
      rw [f_X0_mixInto_53] at hf
      refine k_iload C dX0_mixInto_53 2 rfl 55 rfl ?_
      refine k_aload_n C dX0_mixInto_55 0 rfl rfl 56 rfl ?_
      refine k_getI C fe_X0_35 rfl dX0_mixInto_56 hf 59 rfl (fun x12 hf => ?_)
      refine k_iconst C dX0_mixInto_59 (4) (by decide) 60 rfl ?_
      refine k_imul C dX0_mixInto_60 61 rfl ?_
      refine k_icmp_ge C dX0_mixInto_61 hf 85 rfl 64 rfl (fun hf => ?_) (fun hf => ?_)
      · refine k_lload_n C dX0_mixInto_85 1 rfl 86 rfl ?_
        exact k_lret C hr h0 dX0_mixInto_86 hf
      · refine k_ldc2 C dX0_mixInto_64 mcst_X0_84 67 rfl ?_
        refine k_lload_n C dX0_mixInto_67 1 rfl 68 rfl ?_
        refine k_lmul C dX0_mixInto_68 69 rfl ?_
        refine k_aload_n C dX0_mixInto_69 0 rfl rfl 70 rfl ?_
        refine k_getR C fe_X0_18 rfl dX0_mixInto_70 hf 73 rfl (fun r13 hf => ?_)
        refine k_iload C dX0_mixInto_73 2 rfl 75 rfl ?_
        refine k_iald C dX0_mixInto_75 hf 76 rfl (fun x14 hf => ?_)
        refine k_i2l C dX0_mixInto_76 77 rfl ?_
        refine k_ladd C dX0_mixInto_77 78 rfl ?_
        refine k_nml hf (fun x15 hf => ?_)
        refine k_lstore_n C dX0_mixInto_78 rfl (by decide) [(3, .long x15), (0, rV (xg X) v0), (5, .int v5)] rfl 79 rfl ?_
        refine k_iinc C dX0_mixInto_79 2 rfl (by decide) (by decide) [(5, .int (v5 + (1 : Int32))), (3, .long x15), (0, rV (xg X) v0)] rfl 82 rfl ?_
        refine k_goto C dX0_mixInto_82 53 rfl ?_
        refine k_sub [2, 1, 0] rfl ?_
        exact ih53 _ _ _ w hf
  have t_5 : ∀ (n : Nat) (v0 : Nat) (v3 : Int64) (v5 : Int32) (w : Wd), f_X0_mixInto_5 n v0 v3 v5 w = some (rz, wz) → Wk X 0 0 (QL X w0 rz wz) w [(0, rV (xg X) v0), (3, .long v3), (5, .int v5)] 5 [] := by
    intro n
    induction n with
    | zero => intro v0 v3 v5 w hf; rw [f_X0_mixInto_5] at hf; cases hf
    | succ n5 ih5 =>
      intro v0 v3 v5 w hf
      rw [f_X0_mixInto_5] at hf
      refine k_iload C dX0_mixInto_5 2 rfl 7 rfl ?_
      refine k_aload_n C dX0_mixInto_7 0 rfl rfl 8 rfl ?_
      refine k_getI C fe_X0_31 rfl dX0_mixInto_8 hf 11 rfl (fun x16 hf => ?_)
      refine k_icmp_ge C dX0_mixInto_11 hf 50 rfl 14 rfl (fun hf => ?_) (fun hf => ?_)
      · refine k_iconst C dX0_mixInto_50 (0) (by decide) 51 rfl ?_
        refine k_istore C dX0_mixInto_51 (by decide) [(5, .int (0 : Int32)), (0, rV (xg X) v0), (3, .long v3)] rfl 53 rfl ?_
        refine k_sub [1, 2, 0] rfl ?_
        exact t_53 4096 _ _ _ w hf
      · refine k_ldc2 C dX0_mixInto_14 mcst_X0_84 17 rfl ?_
        refine k_lload_n C dX0_mixInto_17 1 rfl 18 rfl ?_
        refine k_lmul C dX0_mixInto_18 19 rfl ?_
        refine k_aload_n C dX0_mixInto_19 0 rfl rfl 20 rfl ?_
        refine k_getR C fe_X0_11 rfl dX0_mixInto_20 hf 23 rfl (fun r17 hf => ?_)
        refine k_iload C dX0_mixInto_23 2 rfl 25 rfl ?_
        refine k_iald C dX0_mixInto_25 hf 26 rfl (fun x18 hf => ?_)
        refine k_i2l C dX0_mixInto_26 27 rfl ?_
        refine k_ladd C dX0_mixInto_27 28 rfl ?_
        refine k_nml hf (fun x19 hf => ?_)
        refine k_lstore_n C dX0_mixInto_28 rfl (by decide) [(3, .long x19), (0, rV (xg X) v0), (5, .int v5)] rfl 29 rfl ?_
        refine k_ldc2 C dX0_mixInto_29 mcst_X0_84 32 rfl ?_
        refine k_lload_n C dX0_mixInto_32 0 rfl 33 rfl ?_
        refine k_lmul C dX0_mixInto_33 34 rfl ?_
        refine k_aload_n C dX0_mixInto_34 1 rfl rfl 35 rfl ?_
        refine k_getR C fe_X0_15 rfl dX0_mixInto_35 hf 38 rfl (fun r20 hf => ?_)
        refine k_iload C dX0_mixInto_38 2 rfl 40 rfl ?_
        refine k_iald C dX0_mixInto_40 hf 41 rfl (fun x21 hf => ?_)
        refine k_i2l C dX0_mixInto_41 42 rfl ?_
        refine k_ladd C dX0_mixInto_42 43 rfl ?_
        refine k_nml hf (fun x22 hf => ?_)
        refine k_lstore_n C dX0_mixInto_43 rfl (by decide) [(3, .long x22), (0, rV (xg X) v0), (5, .int v5)] rfl 44 rfl ?_
        refine k_iinc C dX0_mixInto_44 2 rfl (by decide) (by decide) [(5, .int (v5 + (1 : Int32))), (3, .long x22), (0, rV (xg X) v0)] rfl 47 rfl ?_
        refine k_goto C dX0_mixInto_47 5 rfl ?_
        refine k_sub [2, 1, 0] rfl ?_
        exact ih5 _ _ _ w hf
  unfold f_X0_mixInto at hf
  refine k_sub (lv2 := [(0, rV (xg X) p0), (1, .long p1)]) [0, 1] rfl ?_
  refine k_lload_n C dX0_mixInto_0 1 rfl 1 rfl ?_
  refine k_lstore_n C dX0_mixInto_1 rfl (by decide) [(3, .long p1), (0, rV (xg X) p0), (1, .long p1)] rfl 2 rfl ?_
  refine k_iconst C dX0_mixInto_2 (0) (by decide) 3 rfl ?_
  refine k_istore C dX0_mixInto_3 (by decide) [(5, .int (0 : Int32)), (3, .long p1), (0, rV (xg X) p0), (1, .long p1)] rfl 5 rfl ?_
  refine k_sub [2, 1, 0] rfl ?_
  exact t_5 4096 _ _ _ w0 hf
theorem dX0_mostAnsweredAlike_0 : decode cX0_mostAnsweredAlike 0 = .ok (.iconst 0, 1) := by decide +kernel
theorem dX0_mostAnsweredAlike_1 : decode cX0_mostAnsweredAlike 1 = .ok (.istore_n 3, 1) := by decide +kernel
theorem dX0_mostAnsweredAlike_2 : decode cX0_mostAnsweredAlike 2 = .ok (.iload_n 3, 1) := by decide +kernel
theorem dX0_mostAnsweredAlike_3 : decode cX0_mostAnsweredAlike 3 = .ok (.iconst 5, 1) := by decide +kernel
theorem dX0_mostAnsweredAlike_4 : decode cX0_mostAnsweredAlike 4 = .ok (.if_icmp .gt 16, 3) := by decide +kernel
theorem dX0_mostAnsweredAlike_7 : decode cX0_mostAnsweredAlike 7 = .ok (.aload_n 0, 1) := by decide +kernel
theorem dX0_mostAnsweredAlike_8 : decode cX0_mostAnsweredAlike 8 = .ok (.getfield 21, 3) := by decide +kernel
theorem dX0_mostAnsweredAlike_11 : decode cX0_mostAnsweredAlike 11 = .ok (.iload_n 3, 1) := by decide +kernel
theorem dX0_mostAnsweredAlike_12 : decode cX0_mostAnsweredAlike 12 = .ok (.iconst 0, 1) := by decide +kernel
theorem dX0_mostAnsweredAlike_13 : decode cX0_mostAnsweredAlike 13 = .ok (.iastore, 1) := by decide +kernel
theorem dX0_mostAnsweredAlike_14 : decode cX0_mostAnsweredAlike 14 = .ok (.iinc 3 1, 3) := by decide +kernel
theorem dX0_mostAnsweredAlike_17 : decode cX0_mostAnsweredAlike 17 = .ok (.goto (-15), 3) := by decide +kernel
theorem dX0_mostAnsweredAlike_20 : decode cX0_mostAnsweredAlike 20 = .ok (.iconst 0, 1) := by decide +kernel
theorem dX0_mostAnsweredAlike_21 : decode cX0_mostAnsweredAlike 21 = .ok (.istore_n 3, 1) := by decide +kernel
theorem dX0_mostAnsweredAlike_22 : decode cX0_mostAnsweredAlike 22 = .ok (.iconst 0, 1) := by decide +kernel
theorem dX0_mostAnsweredAlike_23 : decode cX0_mostAnsweredAlike 23 = .ok (.istore 4, 2) := by decide +kernel
theorem dX0_mostAnsweredAlike_25 : decode cX0_mostAnsweredAlike 25 = .ok (.iload 4, 2) := by decide +kernel
theorem dX0_mostAnsweredAlike_27 : decode cX0_mostAnsweredAlike 27 = .ok (.bipush 32, 2) := by decide +kernel
theorem dX0_mostAnsweredAlike_29 : decode cX0_mostAnsweredAlike 29 = .ok (.if_icmp .ge 50, 3) := by decide +kernel
theorem dX0_mostAnsweredAlike_32 : decode cX0_mostAnsweredAlike 32 = .ok (.iload_n 2, 1) := by decide +kernel
theorem dX0_mostAnsweredAlike_33 : decode cX0_mostAnsweredAlike 33 = .ok (.iload 4, 2) := by decide +kernel
theorem dX0_mostAnsweredAlike_35 : decode cX0_mostAnsweredAlike 35 = .ok (.iushr, 1) := by decide +kernel
theorem dX0_mostAnsweredAlike_36 : decode cX0_mostAnsweredAlike 36 = .ok (.iconst 1, 1) := by decide +kernel
theorem dX0_mostAnsweredAlike_37 : decode cX0_mostAnsweredAlike 37 = .ok (.iand, 1) := by decide +kernel
theorem dX0_mostAnsweredAlike_38 : decode cX0_mostAnsweredAlike 38 = .ok (.iconst 1, 1) := by decide +kernel
theorem dX0_mostAnsweredAlike_39 : decode cX0_mostAnsweredAlike 39 = .ok (.if_icmp .ne 34, 3) := by decide +kernel
theorem dX0_mostAnsweredAlike_42 : decode cX0_mostAnsweredAlike 42 = .ok (.iload_n 1, 1) := by decide +kernel
theorem dX0_mostAnsweredAlike_43 : decode cX0_mostAnsweredAlike 43 = .ok (.iload 4, 2) := by decide +kernel
theorem dX0_mostAnsweredAlike_45 : decode cX0_mostAnsweredAlike 45 = .ok (.invokestatic 44, 3) := by decide +kernel
theorem dX0_mostAnsweredAlike_48 : decode cX0_mostAnsweredAlike 48 = .ok (.istore 5, 2) := by decide +kernel
theorem dX0_mostAnsweredAlike_50 : decode cX0_mostAnsweredAlike 50 = .ok (.aload_n 0, 1) := by decide +kernel
theorem dX0_mostAnsweredAlike_51 : decode cX0_mostAnsweredAlike 51 = .ok (.getfield 21, 3) := by decide +kernel
theorem dX0_mostAnsweredAlike_54 : decode cX0_mostAnsweredAlike 54 = .ok (.iload 5, 2) := by decide +kernel
theorem dX0_mostAnsweredAlike_56 : decode cX0_mostAnsweredAlike 56 = .ok (.dup2, 1) := by decide +kernel
theorem dX0_mostAnsweredAlike_57 : decode cX0_mostAnsweredAlike 57 = .ok (.iaload, 1) := by decide +kernel
theorem dX0_mostAnsweredAlike_58 : decode cX0_mostAnsweredAlike 58 = .ok (.iconst 1, 1) := by decide +kernel
theorem dX0_mostAnsweredAlike_59 : decode cX0_mostAnsweredAlike 59 = .ok (.iadd, 1) := by decide +kernel
theorem dX0_mostAnsweredAlike_60 : decode cX0_mostAnsweredAlike 60 = .ok (.iastore, 1) := by decide +kernel
theorem dX0_mostAnsweredAlike_61 : decode cX0_mostAnsweredAlike 61 = .ok (.iload_n 3, 1) := by decide +kernel
theorem dX0_mostAnsweredAlike_62 : decode cX0_mostAnsweredAlike 62 = .ok (.aload_n 0, 1) := by decide +kernel
theorem dX0_mostAnsweredAlike_63 : decode cX0_mostAnsweredAlike 63 = .ok (.getfield 21, 3) := by decide +kernel
theorem dX0_mostAnsweredAlike_66 : decode cX0_mostAnsweredAlike 66 = .ok (.iload 5, 2) := by decide +kernel
theorem dX0_mostAnsweredAlike_68 : decode cX0_mostAnsweredAlike 68 = .ok (.iaload, 1) := by decide +kernel
theorem dX0_mostAnsweredAlike_69 : decode cX0_mostAnsweredAlike 69 = .ok (.invokestatic 59, 3) := by decide +kernel
theorem dX0_mostAnsweredAlike_72 : decode cX0_mostAnsweredAlike 72 = .ok (.istore_n 3, 1) := by decide +kernel
theorem dX0_mostAnsweredAlike_73 : decode cX0_mostAnsweredAlike 73 = .ok (.iinc 4 1, 3) := by decide +kernel
theorem dX0_mostAnsweredAlike_76 : decode cX0_mostAnsweredAlike 76 = .ok (.goto (-51), 3) := by decide +kernel
theorem dX0_mostAnsweredAlike_79 : decode cX0_mostAnsweredAlike 79 = .ok (.iload_n 3, 1) := by decide +kernel
theorem dX0_mostAnsweredAlike_80 : decode cX0_mostAnsweredAlike 80 = .ok (.ireturn, 1) := by decide +kernel
set_option maxRecDepth 100000 in
set_option maxHeartbeats 4000000 in
theorem c_X0_mostAnsweredAlike {g : Gv} {l : Launch} (p0 : Nat) (p1 : Int32) (p2 : Int32) (w0 : Wd) (rz : Int32) (wz : Wd) (hf : f_X0_mostAnsweredAlike p0 p1 p2 w0 = some (rz, wz)) : MI g l yX0_mostAnsweredAlike cX0_mostAnsweredAlike 6 .int 2 41 [rV g p0, .int p1, .int p2] w0 rz wz := by
  refine mi_of RX0 (by decide) rfl (Nat.le_of_ble_eq_true rfl) ?_
  intro X hg hll C hr h0
  subst hg; subst hll
  have t_25 : ∀ (n : Nat) (v0 : Nat) (v1 : Int32) (v2 : Int32) (v3 : Int32) (v4 : Int32) (w : Wd), f_X0_mostAnsweredAlike_25 n v0 v1 v2 v3 v4 w = some (rz, wz) → Wk X 0 0 (QI X w0 rz wz) w [(0, rV (xg X) v0), (1, .int v1), (2, .int v2), (3, .int v3), (4, .int v4)] 25 [] := by
    intro n
    induction n with
    | zero => intro v0 v1 v2 v3 v4 w hf; rw [f_X0_mostAnsweredAlike_25] at hf; cases hf
    | succ n25 ih25 =>
      have t_73 : ∀ (v0 : Nat) (v1 : Int32) (v2 : Int32) (v3 : Int32) (v4 : Int32) (w : Wd), f_X0_mostAnsweredAlike_73 (f_X0_mostAnsweredAlike_25 n25) v0 v1 v2 v3 v4 w = some (rz, wz) → Wk X 0 0 (QI X w0 rz wz) w [(0, rV (xg X) v0), (1, .int v1), (2, .int v2), (3, .int v3), (4, .int v4)] 73 [] := by
        intro v0 v1 v2 v3 v4 w hf
        unfold f_X0_mostAnsweredAlike_73 at hf
        refine k_iinc C dX0_mostAnsweredAlike_73 4 rfl (by decide) (by decide) [(4, .int (v4 + (1 : Int32))), (0, rV (xg X) v0), (1, .int v1), (2, .int v2), (3, .int v3)] rfl 76 rfl ?_
        refine k_goto C dX0_mostAnsweredAlike_76 25 rfl ?_
        refine k_sub [1, 2, 3, 4, 0] rfl ?_
        exact ih25 _ _ _ _ _ w hf
      intro v0 v1 v2 v3 v4 w hf
      rw [f_X0_mostAnsweredAlike_25] at hf
      refine k_iload C dX0_mostAnsweredAlike_25 4 rfl 27 rfl ?_
      refine k_bipush C dX0_mostAnsweredAlike_27 (32) (by decide) 29 rfl ?_
      refine k_icmp_ge C dX0_mostAnsweredAlike_29 hf 79 rfl 32 rfl (fun hf => ?_) (fun hf => ?_)
      · refine k_iload_n C dX0_mostAnsweredAlike_79 3 rfl 80 rfl ?_
        exact k_iret C hr h0 dX0_mostAnsweredAlike_80 hf
      · refine k_iload_n C dX0_mostAnsweredAlike_32 2 rfl 33 rfl ?_
        refine k_iload C dX0_mostAnsweredAlike_33 4 rfl 35 rfl ?_
        refine k_iushr C dX0_mostAnsweredAlike_35 36 rfl ?_
        refine k_iconst C dX0_mostAnsweredAlike_36 (1) (by decide) 37 rfl ?_
        refine k_iand C dX0_mostAnsweredAlike_37 38 rfl ?_
        refine k_iconst C dX0_mostAnsweredAlike_38 (1) (by decide) 39 rfl ?_
        refine k_icmp_ne C dX0_mostAnsweredAlike_39 hf 73 rfl 42 rfl (fun hf => ?_) (fun hf => ?_)
        · refine k_sub [0, 1, 2, 3, 4] rfl ?_
          exact t_73 _ _ _ _ _ w hf
        · refine k_iload_n C dX0_mostAnsweredAlike_42 1 rfl 43 rfl ?_
          refine k_iload C dX0_mostAnsweredAlike_43 4 rfl 45 rfl ?_
          refine k_callSN_i C ye_X11_likeLetters sn_X0_44 ⟨rfl, rfl⟩ ⟨rfl, rfl⟩ dX0_mostAnsweredAlike_45 [.int v1, .int v4] rfl rfl (Nat.le_of_ble_eq_true rfl) (c_X11_likeLetters _ _ _) hf 48 rfl (fun x12 w11 hf => ?_)
          refine k_istore C dX0_mostAnsweredAlike_48 (by decide) [(5, .int x12), (0, rV (xg X) v0), (1, .int v1), (2, .int v2), (3, .int v3), (4, .int v4)] rfl 50 rfl ?_
          refine k_aload_n C dX0_mostAnsweredAlike_50 1 rfl rfl 51 rfl ?_
          refine k_getR C fe_X0_21 rfl dX0_mostAnsweredAlike_51 hf 54 rfl (fun r13 hf => ?_)
          refine k_iload C dX0_mostAnsweredAlike_54 0 rfl 56 rfl ?_
          refine k_dup2 C dX0_mostAnsweredAlike_56 rfl rfl 57 rfl ?_
          refine k_iald C dX0_mostAnsweredAlike_57 hf 58 rfl (fun x14 hf => ?_)
          refine k_iconst C dX0_mostAnsweredAlike_58 (1) (by decide) 59 rfl ?_
          refine k_iadd C dX0_mostAnsweredAlike_59 60 rfl ?_
          refine k_iast C dX0_mostAnsweredAlike_60 hf 61 rfl (fun w15 _ hf => ?_)
          refine k_iload_n C dX0_mostAnsweredAlike_61 4 rfl 62 rfl ?_
          refine k_aload_n C dX0_mostAnsweredAlike_62 1 rfl rfl 63 rfl ?_
          refine k_getR C fe_X0_21 rfl dX0_mostAnsweredAlike_63 hf 66 rfl (fun r16 hf => ?_)
          refine k_iload C dX0_mostAnsweredAlike_66 0 rfl 68 rfl ?_
          refine k_iald C dX0_mostAnsweredAlike_68 hf 69 rfl (fun x17 hf => ?_)
          refine k_mmax C mm_X0_59 mms_mmax mmi mmc_mmax (Nat.le_of_ble_eq_true rfl) (Nat.le_of_ble_eq_true rfl) ⟨rfl, rfl⟩ dX0_mostAnsweredAlike_69 72 rfl ?_
          refine k_nmi hf (fun x18 hf => ?_)
          refine k_istore_n C dX0_mostAnsweredAlike_72 rfl (by decide) [(3, .int x18), (5, .int x12), (0, rV (xg X) v0), (1, .int v1), (2, .int v2), (4, .int v4)] rfl 73 rfl ?_
          refine k_sub [2, 3, 4, 0, 5] rfl ?_
          exact t_73 _ _ _ _ _ w15 hf
  have t_2 : ∀ (n : Nat) (v0 : Nat) (v1 : Int32) (v2 : Int32) (v3 : Int32) (w : Wd), f_X0_mostAnsweredAlike_2 n v0 v1 v2 v3 w = some (rz, wz) → Wk X 0 0 (QI X w0 rz wz) w [(0, rV (xg X) v0), (1, .int v1), (2, .int v2), (3, .int v3)] 2 [] := by
    intro n
    induction n with
    | zero => intro v0 v1 v2 v3 w hf; rw [f_X0_mostAnsweredAlike_2] at hf; cases hf
    | succ n2 ih2 =>
      intro v0 v1 v2 v3 w hf
      rw [f_X0_mostAnsweredAlike_2] at hf
      refine k_iload_n C dX0_mostAnsweredAlike_2 3 rfl 3 rfl ?_
      refine k_iconst C dX0_mostAnsweredAlike_3 (5) (by decide) 4 rfl ?_
      refine k_icmp_gt C dX0_mostAnsweredAlike_4 hf 20 rfl 7 rfl (fun hf => ?_) (fun hf => ?_)
      · refine k_iconst C dX0_mostAnsweredAlike_20 (0) (by decide) 21 rfl ?_
        refine k_istore_n C dX0_mostAnsweredAlike_21 rfl (by decide) [(3, .int (0 : Int32)), (0, rV (xg X) v0), (1, .int v1), (2, .int v2)] rfl 22 rfl ?_
        refine k_iconst C dX0_mostAnsweredAlike_22 (0) (by decide) 23 rfl ?_
        refine k_istore C dX0_mostAnsweredAlike_23 (by decide) [(4, .int (0 : Int32)), (3, .int (0 : Int32)), (0, rV (xg X) v0), (1, .int v1), (2, .int v2)] rfl 25 rfl ?_
        refine k_sub [2, 3, 4, 1, 0] rfl ?_
        exact t_25 4096 _ _ _ _ _ w hf
      · refine k_aload_n C dX0_mostAnsweredAlike_7 0 rfl rfl 8 rfl ?_
        refine k_getR C fe_X0_21 rfl dX0_mostAnsweredAlike_8 hf 11 rfl (fun r19 hf => ?_)
        refine k_iload_n C dX0_mostAnsweredAlike_11 3 rfl 12 rfl ?_
        refine k_iconst C dX0_mostAnsweredAlike_12 (0) (by decide) 13 rfl ?_
        refine k_iast C dX0_mostAnsweredAlike_13 hf 14 rfl (fun w20 _ hf => ?_)
        refine k_iinc C dX0_mostAnsweredAlike_14 3 rfl (by decide) (by decide) [(3, .int (v3 + (1 : Int32))), (0, rV (xg X) v0), (1, .int v1), (2, .int v2)] rfl 17 rfl ?_
        refine k_goto C dX0_mostAnsweredAlike_17 2 rfl ?_
        refine k_sub [1, 2, 3, 0] rfl ?_
        exact ih2 _ _ _ _ w20 hf
  unfold f_X0_mostAnsweredAlike at hf
  refine k_sub (lv2 := [(0, rV (xg X) p0), (1, .int p1), (2, .int p2)]) [0, 1, 2] rfl ?_
  refine k_iconst C dX0_mostAnsweredAlike_0 (0) (by decide) 1 rfl ?_
  refine k_istore_n C dX0_mostAnsweredAlike_1 rfl (by decide) [(3, .int (0 : Int32)), (0, rV (xg X) p0), (1, .int p1), (2, .int p2)] rfl 2 rfl ?_
  refine k_sub [1, 2, 3, 0] rfl ?_
  exact t_2 4096 _ _ _ _ w0 hf
theorem dX0_mostGroundAlike_0 : decode cX0_mostGroundAlike 0 = .ok (.iconst 0, 1) := by decide +kernel
theorem dX0_mostGroundAlike_1 : decode cX0_mostGroundAlike 1 = .ok (.istore 5, 2) := by decide +kernel
theorem dX0_mostGroundAlike_3 : decode cX0_mostGroundAlike 3 = .ok (.iconst 0, 1) := by decide +kernel
theorem dX0_mostGroundAlike_4 : decode cX0_mostGroundAlike 4 = .ok (.istore 6, 2) := by decide +kernel
theorem dX0_mostGroundAlike_6 : decode cX0_mostGroundAlike 6 = .ok (.iload 6, 2) := by decide +kernel
theorem dX0_mostGroundAlike_8 : decode cX0_mostGroundAlike 8 = .ok (.bipush 6, 2) := by decide +kernel
theorem dX0_mostGroundAlike_10 : decode cX0_mostGroundAlike 10 = .ok (.if_icmp .ge 44, 3) := by decide +kernel
theorem dX0_mostGroundAlike_13 : decode cX0_mostGroundAlike 13 = .ok (.aload_n 0, 1) := by decide +kernel
theorem dX0_mostGroundAlike_14 : decode cX0_mostGroundAlike 14 = .ok (.getfield 24, 3) := by decide +kernel
theorem dX0_mostGroundAlike_17 : decode cX0_mostGroundAlike 17 = .ok (.iload 6, 2) := by decide +kernel
theorem dX0_mostGroundAlike_19 : decode cX0_mostGroundAlike 19 = .ok (.aload_n 0, 1) := by decide +kernel
theorem dX0_mostGroundAlike_20 : decode cX0_mostGroundAlike 20 = .ok (.getfield 27, 3) := by decide +kernel
theorem dX0_mostGroundAlike_23 : decode cX0_mostGroundAlike 23 = .ok (.iload 6, 2) := by decide +kernel
theorem dX0_mostGroundAlike_25 : decode cX0_mostGroundAlike 25 = .ok (.aaload, 1) := by decide +kernel
theorem dX0_mostGroundAlike_26 : decode cX0_mostGroundAlike 26 = .ok (.iload_n 1, 1) := by decide +kernel
theorem dX0_mostGroundAlike_27 : decode cX0_mostGroundAlike 27 = .ok (.iload_n 2, 1) := by decide +kernel
theorem dX0_mostGroundAlike_28 : decode cX0_mostGroundAlike 28 = .ok (.iload_n 3, 1) := by decide +kernel
theorem dX0_mostGroundAlike_29 : decode cX0_mostGroundAlike 29 = .ok (.invokevirtual 64, 3) := by decide +kernel
theorem dX0_mostGroundAlike_32 : decode cX0_mostGroundAlike 32 = .ok (.iastore, 1) := by decide +kernel
theorem dX0_mostGroundAlike_33 : decode cX0_mostGroundAlike 33 = .ok (.iload 5, 2) := by decide +kernel
theorem dX0_mostGroundAlike_35 : decode cX0_mostGroundAlike 35 = .ok (.aload_n 0, 1) := by decide +kernel
theorem dX0_mostGroundAlike_36 : decode cX0_mostGroundAlike 36 = .ok (.iload 6, 2) := by decide +kernel
theorem dX0_mostGroundAlike_38 : decode cX0_mostGroundAlike 38 = .ok (.iload 4, 2) := by decide +kernel
theorem dX0_mostGroundAlike_40 : decode cX0_mostGroundAlike 40 = .ok (.invokevirtual 81, 3) := by decide +kernel
theorem dX0_mostGroundAlike_43 : decode cX0_mostGroundAlike 43 = .ok (.invokestatic 59, 3) := by decide +kernel
theorem dX0_mostGroundAlike_46 : decode cX0_mostGroundAlike 46 = .ok (.istore 5, 2) := by decide +kernel
theorem dX0_mostGroundAlike_48 : decode cX0_mostGroundAlike 48 = .ok (.iinc 6 1, 3) := by decide +kernel
theorem dX0_mostGroundAlike_51 : decode cX0_mostGroundAlike 51 = .ok (.goto (-45), 3) := by decide +kernel
theorem dX0_mostGroundAlike_54 : decode cX0_mostGroundAlike 54 = .ok (.iload 5, 2) := by decide +kernel
theorem dX0_mostGroundAlike_56 : decode cX0_mostGroundAlike 56 = .ok (.ireturn, 1) := by decide +kernel
set_option maxRecDepth 100000 in
set_option maxHeartbeats 4000000 in
theorem c_X0_mostGroundAlike {g : Gv} {l : Launch} (p0 : Nat) (p1 : Int32) (p2 : Int32) (p3 : Int32) (p4 : Int32) (w0 : Wd) (rz : Int32) (wz : Wd) (hf : f_X0_mostGroundAlike p0 p1 p2 p3 p4 w0 = some (rz, wz)) : MI g l yX0_mostGroundAlike cX0_mostGroundAlike 7 .int 3 70 [rV g p0, .int p1, .int p2, .int p3, .int p4] w0 rz wz := by
  refine mi_of RX0 (by decide) rfl (Nat.le_of_ble_eq_true rfl) ?_
  intro X hg hll C hr h0
  subst hg; subst hll
  have t_6 : ∀ (n : Nat) (v0 : Nat) (v1 : Int32) (v2 : Int32) (v3 : Int32) (v4 : Int32) (v5 : Int32) (v6 : Int32) (w : Wd), f_X0_mostGroundAlike_6 n v0 v1 v2 v3 v4 v5 v6 w = some (rz, wz) → Wk X 0 0 (QI X w0 rz wz) w [(0, rV (xg X) v0), (1, .int v1), (2, .int v2), (3, .int v3), (4, .int v4), (5, .int v5), (6, .int v6)] 6 [] := by
    intro n
    induction n with
    | zero => intro v0 v1 v2 v3 v4 v5 v6 w hf; rw [f_X0_mostGroundAlike_6] at hf; cases hf
    | succ n6 ih6 =>
      intro v0 v1 v2 v3 v4 v5 v6 w hf
      rw [f_X0_mostGroundAlike_6] at hf
      refine k_iload C dX0_mostGroundAlike_6 6 rfl 8 rfl ?_
      refine k_bipush C dX0_mostGroundAlike_8 (6) (by decide) 10 rfl ?_
      refine k_icmp_ge C dX0_mostGroundAlike_10 hf 54 rfl 13 rfl (fun hf => ?_) (fun hf => ?_)
      · refine k_iload C dX0_mostGroundAlike_54 5 rfl 56 rfl ?_
        exact k_iret C hr h0 dX0_mostGroundAlike_56 hf
      · refine k_aload_n C dX0_mostGroundAlike_13 0 rfl rfl 14 rfl ?_
        refine k_getR C fe_X0_24 rfl dX0_mostGroundAlike_14 hf 17 rfl (fun r10 hf => ?_)
        refine k_iload C dX0_mostGroundAlike_17 6 rfl 19 rfl ?_
        refine k_aload_n C dX0_mostGroundAlike_19 0 rfl rfl 20 rfl ?_
        refine k_getR C fe_X0_27 rfl dX0_mostGroundAlike_20 hf 23 rfl (fun r11 hf => ?_)
        refine k_iload C dX0_mostGroundAlike_23 6 rfl 25 rfl ?_
        refine k_aald18 C dX0_mostGroundAlike_25 hf 26 rfl (fun r12 hf => ?_)
        refine k_iload_n C dX0_mostGroundAlike_26 1 rfl 27 rfl ?_
        refine k_iload_n C dX0_mostGroundAlike_27 2 rfl 28 rfl ?_
        refine k_iload_n C dX0_mostGroundAlike_28 3 rfl 29 rfl ?_
        refine kp_X0_64 C ⟨rfl, rfl⟩ ⟨rfl, rfl⟩ dX0_mostGroundAlike_29 (Nat.le_of_ble_eq_true rfl) hf 32 rfl (fun x14 w13 hf => ?_)
        refine k_iast C dX0_mostGroundAlike_32 hf 33 rfl (fun w15 _ hf => ?_)
        refine k_iload C dX0_mostGroundAlike_33 5 rfl 35 rfl ?_
        refine k_aload_n C dX0_mostGroundAlike_35 0 rfl rfl 36 rfl ?_
        refine k_iload C dX0_mostGroundAlike_36 6 rfl 38 rfl ?_
        refine k_iload C dX0_mostGroundAlike_38 4 rfl 40 rfl ?_
        refine k_callV_i C ye_X0_fittingLike ve_X0_81 ⟨rfl, rfl⟩ ⟨rfl, rfl⟩ dX0_mostGroundAlike_40 [.int v6, .int v4] rfl rfl (Nat.le_of_ble_eq_true rfl) (c_X0_fittingLike _ _ _ _) hf 43 rfl (fun x17 w16 hf => ?_)
        refine k_mmax C mm_X0_59 mms_mmax mmi mmc_mmax (Nat.le_of_ble_eq_true rfl) (Nat.le_of_ble_eq_true rfl) ⟨rfl, rfl⟩ dX0_mostGroundAlike_43 46 rfl ?_
        refine k_nmi hf (fun x18 hf => ?_)
        refine k_istore C dX0_mostGroundAlike_46 (by decide) [(5, .int x18), (0, rV (xg X) v0), (1, .int v1), (2, .int v2), (3, .int v3), (4, .int v4), (6, .int v6)] rfl 48 rfl ?_
        refine k_iinc C dX0_mostGroundAlike_48 6 rfl (by decide) (by decide) [(6, .int (v6 + (1 : Int32))), (5, .int x18), (0, rV (xg X) v0), (1, .int v1), (2, .int v2), (3, .int v3), (4, .int v4)] rfl 51 rfl ?_
        refine k_goto C dX0_mostGroundAlike_51 6 rfl ?_
        refine k_sub [2, 3, 4, 5, 6, 1, 0] rfl ?_
        exact ih6 _ _ _ _ _ _ _ w16 hf
  unfold f_X0_mostGroundAlike at hf
  refine k_sub (lv2 := [(0, rV (xg X) p0), (1, .int p1), (2, .int p2), (3, .int p3), (4, .int p4)]) [0, 1, 2, 3, 4] rfl ?_
  refine k_iconst C dX0_mostGroundAlike_0 (0) (by decide) 1 rfl ?_
  refine k_istore C dX0_mostGroundAlike_1 (by decide) [(5, .int (0 : Int32)), (0, rV (xg X) p0), (1, .int p1), (2, .int p2), (3, .int p3), (4, .int p4)] rfl 3 rfl ?_
  refine k_iconst C dX0_mostGroundAlike_3 (0) (by decide) 4 rfl ?_
  refine k_istore C dX0_mostGroundAlike_4 (by decide) [(6, .int (0 : Int32)), (5, .int (0 : Int32)), (0, rV (xg X) p0), (1, .int p1), (2, .int p2), (3, .int p3), (4, .int p4)] rfl 6 rfl ?_
  refine k_sub [2, 3, 4, 5, 6, 1, 0] rfl ?_
  exact t_6 4096 _ _ _ _ _ _ _ w0 hf
theorem dX0_sharpestLook_0 : decode cX0_sharpestLook 0 = .ok (.aload_n 0, 1) := by decide +kernel
theorem dX0_sharpestLook_1 : decode cX0_sharpestLook 1 = .ok (.iload_n 1, 1) := by decide +kernel
theorem dX0_sharpestLook_2 : decode cX0_sharpestLook 2 = .ok (.iload_n 2, 1) := by decide +kernel
theorem dX0_sharpestLook_3 : decode cX0_sharpestLook 3 = .ok (.invokevirtual 74, 3) := by decide +kernel
theorem dX0_sharpestLook_6 : decode cX0_sharpestLook 6 = .ok (.istore_n 3, 1) := by decide +kernel
theorem dX0_sharpestLook_7 : decode cX0_sharpestLook 7 = .ok (.iload_n 3, 1) := by decide +kernel
theorem dX0_sharpestLook_8 : decode cX0_sharpestLook 8 = .ok (.ifCond .ne 5, 3) := by decide +kernel
theorem dX0_sharpestLook_11 : decode cX0_sharpestLook 11 = .ok (.iconst (-1), 1) := by decide +kernel
theorem dX0_sharpestLook_12 : decode cX0_sharpestLook 12 = .ok (.ireturn, 1) := by decide +kernel
theorem dX0_sharpestLook_13 : decode cX0_sharpestLook 13 = .ok (.iconst (-1), 1) := by decide +kernel
theorem dX0_sharpestLook_14 : decode cX0_sharpestLook 14 = .ok (.istore 4, 2) := by decide +kernel
theorem dX0_sharpestLook_16 : decode cX0_sharpestLook 16 = .ok (.bipush 7, 2) := by decide +kernel
theorem dX0_sharpestLook_18 : decode cX0_sharpestLook 18 = .ok (.istore 5, 2) := by decide +kernel
theorem dX0_sharpestLook_20 : decode cX0_sharpestLook 20 = .ok (.iconst 0, 1) := by decide +kernel
theorem dX0_sharpestLook_21 : decode cX0_sharpestLook 21 = .ok (.istore 6, 2) := by decide +kernel
theorem dX0_sharpestLook_23 : decode cX0_sharpestLook 23 = .ok (.iload 6, 2) := by decide +kernel
theorem dX0_sharpestLook_25 : decode cX0_sharpestLook 25 = .ok (.bipush 9, 2) := by decide +kernel
theorem dX0_sharpestLook_27 : decode cX0_sharpestLook 27 = .ok (.if_icmp .gt 57, 3) := by decide +kernel
theorem dX0_sharpestLook_30 : decode cX0_sharpestLook 30 = .ok (.iconst 0, 1) := by decide +kernel
theorem dX0_sharpestLook_31 : decode cX0_sharpestLook 31 = .ok (.istore 7, 2) := by decide +kernel
theorem dX0_sharpestLook_33 : decode cX0_sharpestLook 33 = .ok (.iload 7, 2) := by decide +kernel
theorem dX0_sharpestLook_35 : decode cX0_sharpestLook 35 = .ok (.iconst 4, 1) := by decide +kernel
theorem dX0_sharpestLook_36 : decode cX0_sharpestLook 36 = .ok (.if_icmp .ge 42, 3) := by decide +kernel
theorem dX0_sharpestLook_39 : decode cX0_sharpestLook 39 = .ok (.aload_n 0, 1) := by decide +kernel
theorem dX0_sharpestLook_40 : decode cX0_sharpestLook 40 = .ok (.iload_n 2, 1) := by decide +kernel
theorem dX0_sharpestLook_41 : decode cX0_sharpestLook 41 = .ok (.iload 7, 2) := by decide +kernel
theorem dX0_sharpestLook_43 : decode cX0_sharpestLook 43 = .ok (.iload 6, 2) := by decide +kernel
theorem dX0_sharpestLook_45 : decode cX0_sharpestLook 45 = .ok (.iload_n 3, 1) := by decide +kernel
theorem dX0_sharpestLook_46 : decode cX0_sharpestLook 46 = .ok (.invokevirtual 77, 3) := by decide +kernel
theorem dX0_sharpestLook_49 : decode cX0_sharpestLook 49 = .ok (.istore 8, 2) := by decide +kernel
theorem dX0_sharpestLook_51 : decode cX0_sharpestLook 51 = .ok (.iload 8, 2) := by decide +kernel
theorem dX0_sharpestLook_53 : decode cX0_sharpestLook 53 = .ok (.iload 5, 2) := by decide +kernel
theorem dX0_sharpestLook_55 : decode cX0_sharpestLook 55 = .ok (.if_icmp .ge 17, 3) := by decide +kernel
theorem dX0_sharpestLook_58 : decode cX0_sharpestLook 58 = .ok (.iload 8, 2) := by decide +kernel
theorem dX0_sharpestLook_60 : decode cX0_sharpestLook 60 = .ok (.istore 5, 2) := by decide +kernel
theorem dX0_sharpestLook_62 : decode cX0_sharpestLook 62 = .ok (.bipush 10, 2) := by decide +kernel
theorem dX0_sharpestLook_64 : decode cX0_sharpestLook 64 = .ok (.iload 6, 2) := by decide +kernel
theorem dX0_sharpestLook_66 : decode cX0_sharpestLook 66 = .ok (.imul, 1) := by decide +kernel
theorem dX0_sharpestLook_67 : decode cX0_sharpestLook 67 = .ok (.iload 7, 2) := by decide +kernel
theorem dX0_sharpestLook_69 : decode cX0_sharpestLook 69 = .ok (.iadd, 1) := by decide +kernel
theorem dX0_sharpestLook_70 : decode cX0_sharpestLook 70 = .ok (.istore 4, 2) := by decide +kernel
theorem dX0_sharpestLook_72 : decode cX0_sharpestLook 72 = .ok (.iinc 7 1, 3) := by decide +kernel
theorem dX0_sharpestLook_75 : decode cX0_sharpestLook 75 = .ok (.goto (-42), 3) := by decide +kernel
theorem dX0_sharpestLook_78 : decode cX0_sharpestLook 78 = .ok (.iinc 6 1, 3) := by decide +kernel
theorem dX0_sharpestLook_81 : decode cX0_sharpestLook 81 = .ok (.goto (-58), 3) := by decide +kernel
theorem dX0_sharpestLook_84 : decode cX0_sharpestLook 84 = .ok (.iload 4, 2) := by decide +kernel
theorem dX0_sharpestLook_86 : decode cX0_sharpestLook 86 = .ok (.ireturn, 1) := by decide +kernel
set_option maxRecDepth 100000 in
set_option maxHeartbeats 4000000 in
theorem c_X0_sharpestLook {g : Gv} {l : Launch} (p0 : Nat) (p1 : Int32) (p2 : Int32) (w0 : Wd) (rz : Int32) (wz : Wd) (hf : f_X0_sharpestLook p0 p1 p2 w0 = some (rz, wz)) : MI g l yX0_sharpestLook cX0_sharpestLook 9 .int 5 119 [rV g p0, .int p1, .int p2] w0 rz wz := by
  refine mi_of RX0 (by decide) rfl (Nat.le_of_ble_eq_true rfl) ?_
  intro X hg hll C hr h0
  subst hg; subst hll
  have t_23 : ∀ (n : Nat) (v0 : Nat) (v2 : Int32) (v3 : Int32) (v4 : Int32) (v5 : Int32) (v6 : Int32) (w : Wd), f_X0_sharpestLook_23 n v0 v2 v3 v4 v5 v6 w = some (rz, wz) → Wk X 0 0 (QI X w0 rz wz) w [(0, rV (xg X) v0), (2, .int v2), (3, .int v3), (4, .int v4), (5, .int v5), (6, .int v6)] 23 [] := by
    intro n
    induction n with
    | zero => intro v0 v2 v3 v4 v5 v6 w hf; rw [f_X0_sharpestLook_23] at hf; cases hf
    | succ n23 ih23 =>
      have t_33 : ∀ (n : Nat) (v0 : Nat) (v2 : Int32) (v3 : Int32) (v4 : Int32) (v5 : Int32) (v6 : Int32) (v7 : Int32) (w : Wd), f_X0_sharpestLook_33 (f_X0_sharpestLook_23 n23) n v0 v2 v3 v4 v5 v6 v7 w = some (rz, wz) → Wk X 0 0 (QI X w0 rz wz) w [(0, rV (xg X) v0), (2, .int v2), (3, .int v3), (4, .int v4), (5, .int v5), (6, .int v6), (7, .int v7)] 33 [] := by
        intro n
        induction n with
        | zero => intro v0 v2 v3 v4 v5 v6 v7 w hf; rw [f_X0_sharpestLook_33] at hf; cases hf
        | succ n33 ih33 =>
          have t_72 : ∀ (v0 : Nat) (v2 : Int32) (v3 : Int32) (v4 : Int32) (v5 : Int32) (v6 : Int32) (v7 : Int32) (w : Wd), f_X0_sharpestLook_72 (f_X0_sharpestLook_23 n23) (f_X0_sharpestLook_33 (f_X0_sharpestLook_23 n23) n33) v0 v2 v3 v4 v5 v6 v7 w = some (rz, wz) → Wk X 0 0 (QI X w0 rz wz) w [(0, rV (xg X) v0), (2, .int v2), (3, .int v3), (4, .int v4), (5, .int v5), (6, .int v6), (7, .int v7)] 72 [] := by
            intro v0 v2 v3 v4 v5 v6 v7 w hf
            unfold f_X0_sharpestLook_72 at hf
            refine k_iinc C dX0_sharpestLook_72 6 rfl (by decide) (by decide) [(7, .int (v7 + (1 : Int32))), (0, rV (xg X) v0), (2, .int v2), (3, .int v3), (4, .int v4), (5, .int v5), (6, .int v6)] rfl 75 rfl ?_
            refine k_goto C dX0_sharpestLook_75 33 rfl ?_
            refine k_sub [1, 2, 3, 4, 5, 6, 0] rfl ?_
            exact ih33 _ _ _ _ _ _ _ w hf
          intro v0 v2 v3 v4 v5 v6 v7 w hf
          rw [f_X0_sharpestLook_33] at hf
          refine k_iload C dX0_sharpestLook_33 6 rfl 35 rfl ?_
          refine k_iconst C dX0_sharpestLook_35 (4) (by decide) 36 rfl ?_
          refine k_icmp_ge C dX0_sharpestLook_36 hf 78 rfl 39 rfl (fun hf => ?_) (fun hf => ?_)
          · refine k_iinc C dX0_sharpestLook_78 5 rfl (by decide) (by decide) [(6, .int (v6 + (1 : Int32))), (0, rV (xg X) v0), (2, .int v2), (3, .int v3), (4, .int v4), (5, .int v5), (7, .int v7)] rfl 81 rfl ?_
            refine k_goto C dX0_sharpestLook_81 23 rfl ?_
            refine k_sub [1, 2, 3, 4, 5, 0] rfl ?_
            exact ih23 _ _ _ _ _ _ w hf
          · refine k_aload_n C dX0_sharpestLook_39 0 rfl rfl 40 rfl ?_
            refine k_iload_n C dX0_sharpestLook_40 1 rfl 41 rfl ?_
            refine k_iload C dX0_sharpestLook_41 6 rfl 43 rfl ?_
            refine k_iload C dX0_sharpestLook_43 5 rfl 45 rfl ?_
            refine k_iload_n C dX0_sharpestLook_45 2 rfl 46 rfl ?_
            refine k_callV_i C ye_X0_mostGroundAlike ve_X0_77 ⟨rfl, rfl⟩ ⟨rfl, rfl⟩ dX0_sharpestLook_46 [.int v2, .int v7, .int v6, .int v3] rfl rfl (Nat.le_of_ble_eq_true rfl) (c_X0_mostGroundAlike _ _ _ _ _ _) hf 49 rfl (fun x7 w6 hf => ?_)
            refine k_istore C dX0_sharpestLook_49 (by decide) [(8, .int x7), (0, rV (xg X) v0), (2, .int v2), (3, .int v3), (4, .int v4), (5, .int v5), (6, .int v6), (7, .int v7)] rfl 51 rfl ?_
            refine k_iload C dX0_sharpestLook_51 0 rfl 53 rfl ?_
            refine k_iload C dX0_sharpestLook_53 5 rfl 55 rfl ?_
            refine k_icmp_ge C dX0_sharpestLook_55 hf 72 rfl 58 rfl (fun hf => ?_) (fun hf => ?_)
            · refine k_sub [1, 2, 3, 4, 5, 6, 7] rfl ?_
              exact t_72 _ _ _ _ _ _ _ w6 hf
            · refine k_iload C dX0_sharpestLook_58 0 rfl 60 rfl ?_
              refine k_istore C dX0_sharpestLook_60 (by decide) [(5, .int x7), (8, .int x7), (0, rV (xg X) v0), (2, .int v2), (3, .int v3), (4, .int v4), (6, .int v6), (7, .int v7)] rfl 62 rfl ?_
              refine k_bipush C dX0_sharpestLook_62 (10) (by decide) 64 rfl ?_
              refine k_iload C dX0_sharpestLook_64 6 rfl 66 rfl ?_
              refine k_imul C dX0_sharpestLook_66 67 rfl ?_
              refine k_iload C dX0_sharpestLook_67 7 rfl 69 rfl ?_
              refine k_iadd C dX0_sharpestLook_69 70 rfl ?_
              refine k_nmi hf (fun x8 hf => ?_)
              refine k_istore C dX0_sharpestLook_70 (by decide) [(4, .int x8), (5, .int x7), (8, .int x7), (0, rV (xg X) v0), (2, .int v2), (3, .int v3), (6, .int v6), (7, .int v7)] rfl 72 rfl ?_
              refine k_sub [3, 4, 5, 0, 1, 6, 7] rfl ?_
              exact t_72 _ _ _ _ _ _ _ w6 hf
      intro v0 v2 v3 v4 v5 v6 w hf
      rw [f_X0_sharpestLook_23] at hf
      refine k_iload C dX0_sharpestLook_23 5 rfl 25 rfl ?_
      refine k_bipush C dX0_sharpestLook_25 (9) (by decide) 27 rfl ?_
      refine k_icmp_gt C dX0_sharpestLook_27 hf 84 rfl 30 rfl (fun hf => ?_) (fun hf => ?_)
      · refine k_iload C dX0_sharpestLook_84 3 rfl 86 rfl ?_
        exact k_iret C hr h0 dX0_sharpestLook_86 hf
      · refine k_iconst C dX0_sharpestLook_30 (0) (by decide) 31 rfl ?_
        refine k_istore C dX0_sharpestLook_31 (by decide) [(7, .int (0 : Int32)), (0, rV (xg X) v0), (2, .int v2), (3, .int v3), (4, .int v4), (5, .int v5), (6, .int v6)] rfl 33 rfl ?_
        refine k_sub [1, 2, 3, 4, 5, 6, 0] rfl ?_
        exact t_33 4096 _ _ _ _ _ _ _ w hf
  unfold f_X0_sharpestLook at hf
  refine k_sub (lv2 := [(0, rV (xg X) p0), (1, .int p1), (2, .int p2)]) [0, 1, 2] rfl ?_
  refine k_aload_n C dX0_sharpestLook_0 0 rfl rfl 1 rfl ?_
  refine k_iload_n C dX0_sharpestLook_1 1 rfl 2 rfl ?_
  refine k_iload_n C dX0_sharpestLook_2 2 rfl 3 rfl ?_
  refine k_callV_i C ye_X0_fittingKinds ve_X0_74 ⟨rfl, rfl⟩ ⟨rfl, rfl⟩ dX0_sharpestLook_3 [.int p1, .int p2] rfl rfl (Nat.le_of_ble_eq_true rfl) (c_X0_fittingKinds _ _ _ _) hf 6 rfl (fun x10 w9 hf => ?_)
  refine k_istore_n C dX0_sharpestLook_6 rfl (by decide) [(3, .int x10), (0, rV (xg X) p0), (1, .int p1), (2, .int p2)] rfl 7 rfl ?_
  refine k_iload_n C dX0_sharpestLook_7 0 rfl 8 rfl ?_
  refine k_if_ne C dX0_sharpestLook_8 hf 13 rfl 11 rfl (fun hf => ?_) (fun hf => ?_)
  · refine k_iconst C dX0_sharpestLook_13 (-1) (by decide) 14 rfl ?_
    refine k_istore C dX0_sharpestLook_14 (by decide) [(4, .int (-1 : Int32)), (3, .int x10), (0, rV (xg X) p0), (1, .int p1), (2, .int p2)] rfl 16 rfl ?_
    refine k_bipush C dX0_sharpestLook_16 (7) (by decide) 18 rfl ?_
    refine k_istore C dX0_sharpestLook_18 (by decide) [(5, .int (7 : Int32)), (4, .int (-1 : Int32)), (3, .int x10), (0, rV (xg X) p0), (1, .int p1), (2, .int p2)] rfl 20 rfl ?_
    refine k_iconst C dX0_sharpestLook_20 (0) (by decide) 21 rfl ?_
    refine k_istore C dX0_sharpestLook_21 (by decide) [(6, .int (0 : Int32)), (5, .int (7 : Int32)), (4, .int (-1 : Int32)), (3, .int x10), (0, rV (xg X) p0), (1, .int p1), (2, .int p2)] rfl 23 rfl ?_
    refine k_sub [4, 6, 3, 2, 1, 0] rfl ?_
    exact t_23 4096 _ _ _ _ _ _ w9 hf
  · refine k_iconst C dX0_sharpestLook_11 (-1) (by decide) 12 rfl ?_
    exact k_iret C hr h0 dX0_sharpestLook_12 hf
theorem dX0_sharpestWord_0 : decode cX0_sharpestWord 0 = .ok (.aload_n 0, 1) := by decide +kernel
theorem dX0_sharpestWord_1 : decode cX0_sharpestWord 1 = .ok (.invokevirtual 52, 3) := by decide +kernel
theorem dX0_sharpestWord_4 : decode cX0_sharpestWord 4 = .ok (.istore_n 1, 1) := by decide +kernel
theorem dX0_sharpestWord_5 : decode cX0_sharpestWord 5 = .ok (.iload_n 1, 1) := by decide +kernel
theorem dX0_sharpestWord_6 : decode cX0_sharpestWord 6 = .ok (.ifCond .ne 5, 3) := by decide +kernel
theorem dX0_sharpestWord_9 : decode cX0_sharpestWord 9 = .ok (.iconst (-1), 1) := by decide +kernel
theorem dX0_sharpestWord_10 : decode cX0_sharpestWord 10 = .ok (.ireturn, 1) := by decide +kernel
theorem dX0_sharpestWord_11 : decode cX0_sharpestWord 11 = .ok (.iconst (-1), 1) := by decide +kernel
theorem dX0_sharpestWord_12 : decode cX0_sharpestWord 12 = .ok (.istore_n 2, 1) := by decide +kernel
theorem dX0_sharpestWord_13 : decode cX0_sharpestWord 13 = .ok (.bipush 33, 2) := by decide +kernel
theorem dX0_sharpestWord_15 : decode cX0_sharpestWord 15 = .ok (.istore_n 3, 1) := by decide +kernel
theorem dX0_sharpestWord_16 : decode cX0_sharpestWord 16 = .ok (.iconst 0, 1) := by decide +kernel
theorem dX0_sharpestWord_17 : decode cX0_sharpestWord 17 = .ok (.istore 4, 2) := by decide +kernel
theorem dX0_sharpestWord_19 : decode cX0_sharpestWord 19 = .ok (.iload 4, 2) := by decide +kernel
theorem dX0_sharpestWord_21 : decode cX0_sharpestWord 21 = .ok (.bipush 32, 2) := by decide +kernel
theorem dX0_sharpestWord_23 : decode cX0_sharpestWord 23 = .ok (.if_icmp .ge 30, 3) := by decide +kernel
theorem dX0_sharpestWord_26 : decode cX0_sharpestWord 26 = .ok (.aload_n 0, 1) := by decide +kernel
theorem dX0_sharpestWord_27 : decode cX0_sharpestWord 27 = .ok (.iload 4, 2) := by decide +kernel
theorem dX0_sharpestWord_29 : decode cX0_sharpestWord 29 = .ok (.iload_n 1, 1) := by decide +kernel
theorem dX0_sharpestWord_30 : decode cX0_sharpestWord 30 = .ok (.invokevirtual 56, 3) := by decide +kernel
theorem dX0_sharpestWord_33 : decode cX0_sharpestWord 33 = .ok (.istore 5, 2) := by decide +kernel
theorem dX0_sharpestWord_35 : decode cX0_sharpestWord 35 = .ok (.iload 5, 2) := by decide +kernel
theorem dX0_sharpestWord_37 : decode cX0_sharpestWord 37 = .ok (.iload_n 3, 1) := by decide +kernel
theorem dX0_sharpestWord_38 : decode cX0_sharpestWord 38 = .ok (.if_icmp .ge 9, 3) := by decide +kernel
theorem dX0_sharpestWord_41 : decode cX0_sharpestWord 41 = .ok (.iload 5, 2) := by decide +kernel
theorem dX0_sharpestWord_43 : decode cX0_sharpestWord 43 = .ok (.istore_n 3, 1) := by decide +kernel
theorem dX0_sharpestWord_44 : decode cX0_sharpestWord 44 = .ok (.iload 4, 2) := by decide +kernel
theorem dX0_sharpestWord_46 : decode cX0_sharpestWord 46 = .ok (.istore_n 2, 1) := by decide +kernel
theorem dX0_sharpestWord_47 : decode cX0_sharpestWord 47 = .ok (.iinc 4 1, 3) := by decide +kernel
theorem dX0_sharpestWord_50 : decode cX0_sharpestWord 50 = .ok (.goto (-31), 3) := by decide +kernel
theorem dX0_sharpestWord_53 : decode cX0_sharpestWord 53 = .ok (.iload_n 2, 1) := by decide +kernel
theorem dX0_sharpestWord_54 : decode cX0_sharpestWord 54 = .ok (.ireturn, 1) := by decide +kernel
set_option maxRecDepth 100000 in
set_option maxHeartbeats 4000000 in
theorem c_X0_sharpestWord {g : Gv} {l : Launch} (p0 : Nat) (w0 : Wd) (rz : Int32) (wz : Wd) (hf : f_X0_sharpestWord p0 w0 = some (rz, wz)) : MI g l yX0_sharpestWord cX0_sharpestWord 6 .int 4 85 [rV g p0] w0 rz wz := by
  refine mi_of RX0 (by decide) rfl (Nat.le_of_ble_eq_true rfl) ?_
  intro X hg hll C hr h0
  subst hg; subst hll
  have t_19 : ∀ (n : Nat) (v0 : Nat) (v1 : Int32) (v2 : Int32) (v3 : Int32) (v4 : Int32) (w : Wd), f_X0_sharpestWord_19 n v0 v1 v2 v3 v4 w = some (rz, wz) → Wk X 0 0 (QI X w0 rz wz) w [(0, rV (xg X) v0), (1, .int v1), (2, .int v2), (3, .int v3), (4, .int v4)] 19 [] := by
    intro n
    induction n with
    | zero => intro v0 v1 v2 v3 v4 w hf; rw [f_X0_sharpestWord_19] at hf; cases hf
    | succ n19 ih19 =>
      have t_47 : ∀ (v0 : Nat) (v1 : Int32) (v2 : Int32) (v3 : Int32) (v4 : Int32) (w : Wd), f_X0_sharpestWord_47 (f_X0_sharpestWord_19 n19) v0 v1 v2 v3 v4 w = some (rz, wz) → Wk X 0 0 (QI X w0 rz wz) w [(0, rV (xg X) v0), (1, .int v1), (2, .int v2), (3, .int v3), (4, .int v4)] 47 [] := by
        intro v0 v1 v2 v3 v4 w hf
        unfold f_X0_sharpestWord_47 at hf
        refine k_iinc C dX0_sharpestWord_47 4 rfl (by decide) (by decide) [(4, .int (v4 + (1 : Int32))), (0, rV (xg X) v0), (1, .int v1), (2, .int v2), (3, .int v3)] rfl 50 rfl ?_
        refine k_goto C dX0_sharpestWord_50 19 rfl ?_
        refine k_sub [1, 2, 3, 4, 0] rfl ?_
        exact ih19 _ _ _ _ _ w hf
      intro v0 v1 v2 v3 v4 w hf
      rw [f_X0_sharpestWord_19] at hf
      refine k_iload C dX0_sharpestWord_19 4 rfl 21 rfl ?_
      refine k_bipush C dX0_sharpestWord_21 (32) (by decide) 23 rfl ?_
      refine k_icmp_ge C dX0_sharpestWord_23 hf 53 rfl 26 rfl (fun hf => ?_) (fun hf => ?_)
      · refine k_iload_n C dX0_sharpestWord_53 2 rfl 54 rfl ?_
        exact k_iret C hr h0 dX0_sharpestWord_54 hf
      · refine k_aload_n C dX0_sharpestWord_26 0 rfl rfl 27 rfl ?_
        refine k_iload C dX0_sharpestWord_27 4 rfl 29 rfl ?_
        refine k_iload_n C dX0_sharpestWord_29 1 rfl 30 rfl ?_
        refine k_callV_i C ye_X0_mostAnsweredAlike ve_X0_56 ⟨rfl, rfl⟩ ⟨rfl, rfl⟩ dX0_sharpestWord_30 [.int v4, .int v1] rfl rfl (Nat.le_of_ble_eq_true rfl) (c_X0_mostAnsweredAlike _ _ _ _) hf 33 rfl (fun x6 w5 hf => ?_)
        refine k_istore C dX0_sharpestWord_33 (by decide) [(5, .int x6), (0, rV (xg X) v0), (1, .int v1), (2, .int v2), (3, .int v3), (4, .int v4)] rfl 35 rfl ?_
        refine k_iload C dX0_sharpestWord_35 0 rfl 37 rfl ?_
        refine k_iload_n C dX0_sharpestWord_37 4 rfl 38 rfl ?_
        refine k_icmp_ge C dX0_sharpestWord_38 hf 47 rfl 41 rfl (fun hf => ?_) (fun hf => ?_)
        · refine k_sub [1, 2, 3, 4, 5] rfl ?_
          exact t_47 _ _ _ _ _ w5 hf
        · refine k_iload C dX0_sharpestWord_41 0 rfl 43 rfl ?_
          refine k_istore_n C dX0_sharpestWord_43 rfl (by decide) [(3, .int x6), (5, .int x6), (0, rV (xg X) v0), (1, .int v1), (2, .int v2), (4, .int v4)] rfl 44 rfl ?_
          refine k_iload C dX0_sharpestWord_44 5 rfl 46 rfl ?_
          refine k_istore_n C dX0_sharpestWord_46 rfl (by decide) [(2, .int v4), (3, .int x6), (5, .int x6), (0, rV (xg X) v0), (1, .int v1), (4, .int v4)] rfl 47 rfl ?_
          refine k_sub [3, 4, 0, 1, 5] rfl ?_
          exact t_47 _ _ _ _ _ w5 hf
  unfold f_X0_sharpestWord at hf
  refine k_sub (lv2 := [(0, rV (xg X) p0)]) [0] rfl ?_
  refine k_aload_n C dX0_sharpestWord_0 0 rfl rfl 1 rfl ?_
  refine k_callV_i C ye_X0_fittingWords ve_X0_52 ⟨rfl, rfl⟩ ⟨rfl, rfl⟩ dX0_sharpestWord_1 [] rfl rfl (Nat.le_of_ble_eq_true rfl) (c_X0_fittingWords _ _) hf 4 rfl (fun x8 w7 hf => ?_)
  refine k_istore_n C dX0_sharpestWord_4 rfl (by decide) [(1, .int x8), (0, rV (xg X) p0)] rfl 5 rfl ?_
  refine k_iload_n C dX0_sharpestWord_5 0 rfl 6 rfl ?_
  refine k_if_ne C dX0_sharpestWord_6 hf 11 rfl 9 rfl (fun hf => ?_) (fun hf => ?_)
  · refine k_iconst C dX0_sharpestWord_11 (-1) (by decide) 12 rfl ?_
    refine k_istore_n C dX0_sharpestWord_12 rfl (by decide) [(2, .int (-1 : Int32)), (1, .int x8), (0, rV (xg X) p0)] rfl 13 rfl ?_
    refine k_bipush C dX0_sharpestWord_13 (33) (by decide) 15 rfl ?_
    refine k_istore_n C dX0_sharpestWord_15 rfl (by decide) [(3, .int (33 : Int32)), (2, .int (-1 : Int32)), (1, .int x8), (0, rV (xg X) p0)] rfl 16 rfl ?_
    refine k_iconst C dX0_sharpestWord_16 (0) (by decide) 17 rfl ?_
    refine k_istore C dX0_sharpestWord_17 (by decide) [(4, .int (0 : Int32)), (3, .int (33 : Int32)), (2, .int (-1 : Int32)), (1, .int x8), (0, rV (xg X) p0)] rfl 19 rfl ?_
    refine k_sub [4, 3, 2, 1, 0] rfl ?_
    exact t_19 4096 _ _ _ _ _ w7 hf
  · refine k_iconst C dX0_sharpestWord_9 (-1) (by decide) 10 rfl ?_
    exact k_iret C hr h0 dX0_sharpestWord_10 hf
