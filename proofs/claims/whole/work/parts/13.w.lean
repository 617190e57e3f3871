theorem dX11_grind_0 : decode cX11_grind 0 = .ok (.aload_n 0, 1) := by decide +kernel
theorem dX11_grind_1 : decode cX11_grind 1 = .ok (.getfield 30, 3) := by decide +kernel
theorem dX11_grind_4 : decode cX11_grind 4 = .ok (.iload_n 1, 1) := by decide +kernel
theorem dX11_grind_5 : decode cX11_grind 5 = .ok (.invokevirtual 112, 3) := by decide +kernel
theorem dX11_grind_8 : decode cX11_grind 8 = .ok (.ifCond .ne 8, 3) := by decide +kernel
theorem dX11_grind_11 : decode cX11_grind 11 = .ok (.aload_n 0, 1) := by decide +kernel
theorem dX11_grind_12 : decode cX11_grind 12 = .ok (.invokevirtual 115, 3) := by decide +kernel
theorem dX11_grind_15 : decode cX11_grind 15 = .ok (.ireturn, 1) := by decide +kernel
theorem dX11_grind_16 : decode cX11_grind 16 = .ok (.aload_n 0, 1) := by decide +kernel
theorem dX11_grind_17 : decode cX11_grind 17 = .ok (.getfield 30, 3) := by decide +kernel
theorem dX11_grind_20 : decode cX11_grind 20 = .ok (.invokevirtual 119, 3) := by decide +kernel
theorem dX11_grind_23 : decode cX11_grind 23 = .ok (.aload_n 0, 1) := by decide +kernel
theorem dX11_grind_24 : decode cX11_grind 24 = .ok (.getfield 30, 3) := by decide +kernel
theorem dX11_grind_27 : decode cX11_grind 27 = .ok (.getfield 122, 3) := by decide +kernel
theorem dX11_grind_30 : decode cX11_grind 30 = .ok (.istore_n 2, 1) := by decide +kernel
theorem dX11_grind_31 : decode cX11_grind 31 = .ok (.aload_n 0, 1) := by decide +kernel
theorem dX11_grind_32 : decode cX11_grind 32 = .ok (.getfield 30, 3) := by decide +kernel
theorem dX11_grind_35 : decode cX11_grind 35 = .ok (.iload_n 1, 1) := by decide +kernel
theorem dX11_grind_36 : decode cX11_grind 36 = .ok (.putfield 122, 3) := by decide +kernel
theorem dX11_grind_39 : decode cX11_grind 39 = .ok (.iload_n 2, 1) := by decide +kernel
theorem dX11_grind_40 : decode cX11_grind 40 = .ok (.ireturn, 1) := by decide +kernel
set_option maxRecDepth 100000 in
set_option maxHeartbeats 4000000 in
theorem c_X11_grind {g : Gv} {l : Launch} (p0 : Nat) (p1 : Int32) (w0 : Wd) (rz : Int32) (wz : Wd) (hf : f_X11_grind p0 p1 w0 = some (rz, wz)) : MI g l yX11_grind cX11_grind 3 .int 3 70 [rV g p0, .int p1] w0 rz wz := by
  refine mi_of RX11 (by decide) rfl (Nat.le_of_ble_eq_true rfl) ?_
  intro X hg hll C hr h0
  subst hg; subst hll
  unfold f_X11_grind at hf
  refine k_sub (lv2 := [(0, rV (xg X) p0), (1, .int p1)]) [0, 1] rfl ?_
  refine k_aload_n C dX11_grind_0 0 rfl rfl 1 rfl ?_
  refine k_getR C fe_X11_30 rfl dX11_grind_1 hf 4 rfl (fun r13 hf => ?_)
  refine k_iload_n C dX11_grind_4 1 rfl 5 rfl ?_
  refine k_callV_i C ye_X2_has ve_X11_112 ⟨rfl, rfl⟩ ⟨rfl, rfl⟩ dX11_grind_5 [.int p1] rfl rfl (Nat.le_of_ble_eq_true rfl) (c_X2_has _ _ _) hf 8 rfl (fun x15 w14 hf => ?_)
  refine k_if_ne C dX11_grind_8 hf 16 rfl 11 rfl (fun hf => ?_) (fun hf => ?_)
  · refine k_aload_n C dX11_grind_16 0 rfl rfl 17 rfl ?_
    refine k_getR C fe_X11_30 rfl dX11_grind_17 hf 20 rfl (fun r16 hf => ?_)
    refine k_callV_v C ye_X2_remember ve_X11_119 ⟨rfl, rfl⟩ ⟨rfl, rfl⟩ dX11_grind_20 [] rfl rfl (Nat.le_of_ble_eq_true rfl) (c_X2_remember _ _) hf 23 rfl (fun w17 hf => ?_)
    refine k_aload_n C dX11_grind_23 0 rfl rfl 24 rfl ?_
    refine k_getR C fe_X11_30 rfl dX11_grind_24 hf 27 rfl (fun r19 hf => ?_)
    refine k_getI C fe_X11_122 rfl dX11_grind_27 hf 30 rfl (fun x20 hf => ?_)
    refine k_istore_n C dX11_grind_30 rfl (by decide) [(2, .int x20), (0, rV (xg X) p0), (1, .int p1)] rfl 31 rfl ?_
    refine k_aload_n C dX11_grind_31 1 rfl rfl 32 rfl ?_
    refine k_getR C fe_X11_30 rfl dX11_grind_32 hf 35 rfl (fun r21 hf => ?_)
    refine k_iload_n C dX11_grind_35 2 rfl 36 rfl ?_
    refine k_putI C fe_X11_122 rfl rfl dX11_grind_36 hf 39 rfl (fun w22 _ hf => ?_)
    refine k_iload_n C dX11_grind_39 0 rfl 40 rfl ?_
    exact k_iret C hr h0 dX11_grind_40 hf
  · refine k_aload_n C dX11_grind_11 0 rfl rfl 12 rfl ?_
    refine k_callV_i C ye_X11_refuseApart ve_X11_115 ⟨rfl, rfl⟩ ⟨rfl, rfl⟩ dX11_grind_12 [] rfl rfl (Nat.le_of_ble_eq_true rfl) (c_X11_refuseApart _ _) hf 15 rfl (fun x24 w23 hf => ?_)
    exact k_iret C hr h0 dX11_grind_15 hf
theorem dX11_grinds_0 : decode cX11_grinds 0 = .ok (.aload_n 0, 1) := by decide +kernel
theorem dX11_grinds_1 : decode cX11_grinds 1 = .ok (.getfield 30, 3) := by decide +kernel
theorem dX11_grinds_4 : decode cX11_grinds 4 = .ok (.getfield 122, 3) := by decide +kernel
theorem dX11_grinds_7 : decode cX11_grinds 7 = .ok (.ireturn, 1) := by decide +kernel
set_option maxRecDepth 100000 in
set_option maxHeartbeats 4000000 in
theorem c_X11_grinds {g : Gv} {l : Launch} (p0 : Nat) (w0 : Wd) (rz : Int32) (wz : Wd) (hf : f_X11_grinds p0 w0 = some (rz, wz)) : MI g l yX11_grinds cX11_grinds 1 .int 0 0 [rV g p0] w0 rz wz := by
  refine mi_of RX11 (by decide) rfl (Nat.le_of_ble_eq_true rfl) ?_
  intro X hg hll C hr h0
  subst hg; subst hll
  unfold f_X11_grinds at hf
  refine k_sub (lv2 := [(0, rV (xg X) p0)]) [0] rfl ?_
  refine k_aload_n C dX11_grinds_0 0 rfl rfl 1 rfl ?_
  refine k_getR C fe_X11_30 rfl dX11_grinds_1 hf 4 rfl (fun r3 hf => ?_)
  refine k_getI C fe_X11_122 rfl dX11_grinds_4 hf 7 rfl (fun x4 hf => ?_)
  exact k_iret C hr h0 dX11_grinds_7 hf
theorem dX11_isWord_0 : decode cX11_isWord 0 = .ok (.iload_n 0, 1) := by decide +kernel
theorem dX11_isWord_1 : decode cX11_isWord 1 = .ok (.iconst 0, 1) := by decide +kernel
theorem dX11_isWord_2 : decode cX11_isWord 2 = .ok (.bipush 31, 2) := by decide +kernel
theorem dX11_isWord_4 : decode cX11_isWord 4 = .ok (.invokestatic 72, 3) := by decide +kernel
theorem dX11_isWord_7 : decode cX11_isWord 7 = .ok (.ireturn, 1) := by decide +kernel
set_option maxRecDepth 100000 in
set_option maxHeartbeats 4000000 in
theorem c_X11_isWord {g : Gv} {l : Launch} (p0 : Int32) (w0 : Wd) (rz : Int32) (wz : Wd) (hf : f_X11_isWord p0 w0 = some (rz, wz)) : MI g l yX11_isWord cX11_isWord 1 .boolean 1 22 [.int p0] w0 rz wz := by
  refine mi_of RX11 (by decide) rfl (Nat.le_of_ble_eq_true rfl) ?_
  intro X hg hll C hr h0
  subst hg; subst hll
  unfold f_X11_isWord at hf
  refine k_sub (lv2 := [(0, .int p0)]) [0] rfl ?_
  refine k_iload_n C dX11_isWord_0 0 rfl 1 rfl ?_
  refine k_iconst C dX11_isWord_1 (0) (by decide) 2 rfl ?_
  refine k_bipush C dX11_isWord_2 (31) (by decide) 4 rfl ?_
  refine k_callS_i C ye_X11_within se_X11_72 ⟨rfl, rfl⟩ ⟨rfl, rfl⟩ dX11_isWord_4 [.int p0, .int (0 : Int32), .int (31 : Int32)] rfl rfl (Nat.le_of_ble_eq_true rfl) (c_X11_within _ _ _ _) hf 7 rfl (fun x4 w3 hf => ?_)
  exact k_zret C hr h0 dX11_isWord_7 hf
theorem dX11_guess_0 : decode cX11_guess 0 = .ok (.iload_n 1, 1) := by decide +kernel
theorem dX11_guess_1 : decode cX11_guess 1 = .ok (.invokestatic 92, 3) := by decide +kernel
theorem dX11_guess_4 : decode cX11_guess 4 = .ok (.ifCond .eq 12, 3) := by decide +kernel
theorem dX11_guess_7 : decode cX11_guess 7 = .ok (.iload_n 2, 1) := by decide +kernel
theorem dX11_guess_8 : decode cX11_guess 8 = .ok (.iconst 0, 1) := by decide +kernel
theorem dX11_guess_9 : decode cX11_guess 9 = .ok (.iconst 5, 1) := by decide +kernel
theorem dX11_guess_10 : decode cX11_guess 10 = .ok (.invokestatic 72, 3) := by decide +kernel
theorem dX11_guess_13 : decode cX11_guess 13 = .ok (.ifCond .ne 10, 3) := by decide +kernel
theorem dX11_guess_16 : decode cX11_guess 16 = .ok (.aload_n 0, 1) := by decide +kernel
theorem dX11_guess_17 : decode cX11_guess 17 = .ok (.bipush (-2), 2) := by decide +kernel
theorem dX11_guess_19 : decode cX11_guess 19 = .ok (.invokevirtual 76, 3) := by decide +kernel
theorem dX11_guess_22 : decode cX11_guess 22 = .ok (.ireturn, 1) := by decide +kernel
theorem dX11_guess_23 : decode cX11_guess 23 = .ok (.aload_n 0, 1) := by decide +kernel
theorem dX11_guess_24 : decode cX11_guess 24 = .ok (.getfield 30, 3) := by decide +kernel
theorem dX11_guess_27 : decode cX11_guess 27 = .ok (.getfield 207, 3) := by decide +kernel
theorem dX11_guess_30 : decode cX11_guess 30 = .ok (.getfield 211, 3) := by decide +kernel
theorem dX11_guess_33 : decode cX11_guess 33 = .ok (.bipush 6, 2) := by decide +kernel
theorem dX11_guess_35 : decode cX11_guess 35 = .ok (.if_icmp .lt 10, 3) := by decide +kernel
theorem dX11_guess_38 : decode cX11_guess 38 = .ok (.aload_n 0, 1) := by decide +kernel
theorem dX11_guess_39 : decode cX11_guess 39 = .ok (.bipush (-4), 2) := by decide +kernel
theorem dX11_guess_41 : decode cX11_guess 41 = .ok (.invokevirtual 76, 3) := by decide +kernel
theorem dX11_guess_44 : decode cX11_guess 44 = .ok (.ireturn, 1) := by decide +kernel
theorem dX11_guess_45 : decode cX11_guess 45 = .ok (.aload_n 0, 1) := by decide +kernel
theorem dX11_guess_46 : decode cX11_guess 46 = .ok (.getfield 30, 3) := by decide +kernel
theorem dX11_guess_49 : decode cX11_guess 49 = .ok (.getfield 207, 3) := by decide +kernel
theorem dX11_guess_52 : decode cX11_guess 52 = .ok (.iload_n 1, 1) := by decide +kernel
theorem dX11_guess_53 : decode cX11_guess 53 = .ok (.iload_n 2, 1) := by decide +kernel
theorem dX11_guess_54 : decode cX11_guess 54 = .ok (.invokevirtual 216, 3) := by decide +kernel
theorem dX11_guess_57 : decode cX11_guess 57 = .ok (.aload_n 0, 1) := by decide +kernel
theorem dX11_guess_58 : decode cX11_guess 58 = .ok (.getfield 30, 3) := by decide +kernel
theorem dX11_guess_61 : decode cX11_guess 61 = .ok (.getfield 207, 3) := by decide +kernel
theorem dX11_guess_64 : decode cX11_guess 64 = .ok (.getfield 211, 3) := by decide +kernel
theorem dX11_guess_67 : decode cX11_guess 67 = .ok (.ireturn, 1) := by decide +kernel
set_option maxRecDepth 100000 in
set_option maxHeartbeats 4000000 in
theorem c_X11_guess {g : Gv} {l : Launch} (p0 : Nat) (p1 : Int32) (p2 : Int32) (w0 : Wd) (rz : Int32) (wz : Wd) (hf : f_X11_guess p0 p1 p2 w0 = some (rz, wz)) : MI g l yX11_guess cX11_guess 3 .int 2 44 [rV g p0, .int p1, .int p2] w0 rz wz := by
  refine mi_of RX11 (by decide) rfl (Nat.le_of_ble_eq_true rfl) ?_
  intro X hg hll C hr h0
  subst hg; subst hll
  have t_16 : ∀ (v0 : Nat) (w : Wd), f_X11_guess_16 v0 w = some (rz, wz) → Wk X 0 0 (QI X w0 rz wz) w [(0, rV (xg X) v0)] 16 [] := by
    intro v0 w hf
    unfold f_X11_guess_16 at hf
    refine k_aload_n C dX11_guess_16 0 rfl rfl 17 rfl ?_
    refine k_bipush C dX11_guess_17 (-2) (by decide) 19 rfl ?_
    refine k_callV_i C ye_X11_refuse ve_X11_76 ⟨rfl, rfl⟩ ⟨rfl, rfl⟩ dX11_guess_19 [.int (-2 : Int32)] rfl rfl (Nat.le_of_ble_eq_true rfl) (c_X11_refuse _ _ _) hf 22 rfl (fun x20 w19 hf => ?_)
    exact k_iret C hr h0 dX11_guess_22 hf
  unfold f_X11_guess at hf
  refine k_sub (lv2 := [(0, rV (xg X) p0), (1, .int p1), (2, .int p2)]) [0, 1, 2] rfl ?_
  refine k_iload_n C dX11_guess_0 1 rfl 1 rfl ?_
  refine k_callS_i C ye_X11_isWord se_X11_92 ⟨rfl, rfl⟩ ⟨rfl, rfl⟩ dX11_guess_1 [.int p1] rfl rfl (Nat.le_of_ble_eq_true rfl) (c_X11_isWord _ _) hf 4 rfl (fun x22 w21 hf => ?_)
  refine k_if_eq C dX11_guess_4 hf 16 rfl 7 rfl (fun hf => ?_) (fun hf => ?_)
  · refine k_sub [0] rfl ?_
    exact t_16 _ w21 hf
  · refine k_iload_n C dX11_guess_7 2 rfl 8 rfl ?_
    refine k_iconst C dX11_guess_8 (0) (by decide) 9 rfl ?_
    refine k_iconst C dX11_guess_9 (5) (by decide) 10 rfl ?_
    refine k_callS_i C ye_X11_within se_X11_72 ⟨rfl, rfl⟩ ⟨rfl, rfl⟩ dX11_guess_10 [.int p2, .int (0 : Int32), .int (5 : Int32)] rfl rfl (Nat.le_of_ble_eq_true rfl) (c_X11_within _ _ _ _) hf 13 rfl (fun x24 w23 hf => ?_)
    refine k_if_ne C dX11_guess_13 hf 23 rfl 16 rfl (fun hf => ?_) (fun hf => ?_)
    · refine k_aload_n C dX11_guess_23 0 rfl rfl 24 rfl ?_
      refine k_getR C fe_X11_30 rfl dX11_guess_24 hf 27 rfl (fun r25 hf => ?_)
      refine k_getR C fe_X11_207 rfl dX11_guess_27 hf 30 rfl (fun r26 hf => ?_)
      refine k_getI C fe_X11_211 rfl dX11_guess_30 hf 33 rfl (fun x27 hf => ?_)
      refine k_bipush C dX11_guess_33 (6) (by decide) 35 rfl ?_
      refine k_icmp_lt C dX11_guess_35 hf 45 rfl 38 rfl (fun hf => ?_) (fun hf => ?_)
      · refine k_aload_n C dX11_guess_45 0 rfl rfl 46 rfl ?_
        refine k_getR C fe_X11_30 rfl dX11_guess_46 hf 49 rfl (fun r28 hf => ?_)
        refine k_getR C fe_X11_207 rfl dX11_guess_49 hf 52 rfl (fun r29 hf => ?_)
        refine k_iload_n C dX11_guess_52 1 rfl 53 rfl ?_
        refine k_iload_n C dX11_guess_53 2 rfl 54 rfl ?_
        refine k_callV_v C ye_X0_addGuess ve_X11_216 ⟨rfl, rfl⟩ ⟨rfl, rfl⟩ dX11_guess_54 [.int p1, .int p2] rfl rfl (Nat.le_of_ble_eq_true rfl) (c_X0_addGuess _ _ _ _) hf 57 rfl (fun w30 hf => ?_)
        refine k_aload_n C dX11_guess_57 0 rfl rfl 58 rfl ?_
        refine k_getR C fe_X11_30 rfl dX11_guess_58 hf 61 rfl (fun r32 hf => ?_)
        refine k_getR C fe_X11_207 rfl dX11_guess_61 hf 64 rfl (fun r33 hf => ?_)
        refine k_getI C fe_X11_211 rfl dX11_guess_64 hf 67 rfl (fun x34 hf => ?_)
        exact k_iret C hr h0 dX11_guess_67 hf
      · refine k_aload_n C dX11_guess_38 0 rfl rfl 39 rfl ?_
        refine k_bipush C dX11_guess_39 (-4) (by decide) 41 rfl ?_
        refine k_callV_i C ye_X11_refuse ve_X11_76 ⟨rfl, rfl⟩ ⟨rfl, rfl⟩ dX11_guess_41 [.int (-4 : Int32)] rfl rfl (Nat.le_of_ble_eq_true rfl) (c_X11_refuse _ _ _) hf 44 rfl (fun x36 w35 hf => ?_)
        exact k_iret C hr h0 dX11_guess_44 hf
    · refine k_sub [0] rfl ?_
      exact t_16 _ w23 hf
theorem dX11_hour_0 : decode cX11_hour 0 = .ok (.iload_n 1, 1) := by decide +kernel
theorem dX11_hour_1 : decode cX11_hour 1 = .ok (.iconst 1, 1) := by decide +kernel
theorem dX11_hour_2 : decode cX11_hour 2 = .ok (.bipush 60, 2) := by decide +kernel
theorem dX11_hour_4 : decode cX11_hour 4 = .ok (.invokestatic 72, 3) := by decide +kernel
theorem dX11_hour_7 : decode cX11_hour 7 = .ok (.ifCond .ne 10, 3) := by decide +kernel
theorem dX11_hour_10 : decode cX11_hour 10 = .ok (.aload_n 0, 1) := by decide +kernel
theorem dX11_hour_11 : decode cX11_hour 11 = .ok (.bipush (-2), 2) := by decide +kernel
theorem dX11_hour_13 : decode cX11_hour 13 = .ok (.invokevirtual 76, 3) := by decide +kernel
theorem dX11_hour_16 : decode cX11_hour 16 = .ok (.ireturn, 1) := by decide +kernel
theorem dX11_hour_17 : decode cX11_hour 17 = .ok (.aload_n 0, 1) := by decide +kernel
theorem dX11_hour_18 : decode cX11_hour 18 = .ok (.getfield 30, 3) := by decide +kernel
theorem dX11_hour_21 : decode cX11_hour 21 = .ok (.invokevirtual 119, 3) := by decide +kernel
theorem dX11_hour_24 : decode cX11_hour 24 = .ok (.iconst 0, 1) := by decide +kernel
theorem dX11_hour_25 : decode cX11_hour 25 = .ok (.istore_n 2, 1) := by decide +kernel
theorem dX11_hour_26 : decode cX11_hour 26 = .ok (.iconst 0, 1) := by decide +kernel
theorem dX11_hour_27 : decode cX11_hour 27 = .ok (.istore_n 3, 1) := by decide +kernel
theorem dX11_hour_28 : decode cX11_hour 28 = .ok (.iload_n 3, 1) := by decide +kernel
theorem dX11_hour_29 : decode cX11_hour 29 = .ok (.iload_n 1, 1) := by decide +kernel
theorem dX11_hour_30 : decode cX11_hour 30 = .ok (.if_icmp .ge 19, 3) := by decide +kernel
theorem dX11_hour_33 : decode cX11_hour 33 = .ok (.iload_n 2, 1) := by decide +kernel
theorem dX11_hour_34 : decode cX11_hour 34 = .ok (.aload_n 0, 1) := by decide +kernel
theorem dX11_hour_35 : decode cX11_hour 35 = .ok (.getfield 30, 3) := by decide +kernel
theorem dX11_hour_38 : decode cX11_hour 38 = .ok (.invokevirtual 125, 3) := by decide +kernel
theorem dX11_hour_41 : decode cX11_hour 41 = .ok (.iadd, 1) := by decide +kernel
theorem dX11_hour_42 : decode cX11_hour 42 = .ok (.istore_n 2, 1) := by decide +kernel
theorem dX11_hour_43 : decode cX11_hour 43 = .ok (.iinc 3 1, 3) := by decide +kernel
theorem dX11_hour_46 : decode cX11_hour 46 = .ok (.goto (-18), 3) := by decide +kernel
theorem dX11_hour_49 : decode cX11_hour 49 = .ok (.iload_n 2, 1) := by decide +kernel
theorem dX11_hour_50 : decode cX11_hour 50 = .ok (.ireturn, 1) := by decide +kernel
set_option maxRecDepth 100000 in
set_option maxHeartbeats 4000000 in
theorem c_X11_hour {g : Gv} {l : Launch} (p0 : Nat) (p1 : Int32) (w0 : Wd) (rz : Int32) (wz : Wd) (hf : f_X11_hour p0 p1 w0 = some (rz, wz)) : MI g l yX11_hour cX11_hour 4 .int 6 136 [rV g p0, .int p1] w0 rz wz := by
  refine mi_of RX11 (by decide) rfl (Nat.le_of_ble_eq_true rfl) ?_
  intro X hg hll C hr h0
  subst hg; subst hll
  have t_28 : ∀ (n : Nat) (v0 : Nat) (v1 : Int32) (v2 : Int32) (v3 : Int32) (w : Wd), f_X11_hour_28 n v0 v1 v2 v3 w = some (rz, wz) → Wk X 0 0 (QI X w0 rz wz) w [(0, rV (xg X) v0), (1, .int v1), (2, .int v2), (3, .int v3)] 28 [] := by
    intro n
    induction n with
    | zero => intro v0 v1 v2 v3 w hf; rw [f_X11_hour_28] at hf; cases hf
    | succ n28 ih28 =>
      intro v0 v1 v2 v3 w hf
      rw [f_X11_hour_28] at hf
      refine k_iload_n C dX11_hour_28 3 rfl 29 rfl ?_
      refine k_iload_n C dX11_hour_29 1 rfl 30 rfl ?_
      refine k_icmp_ge C dX11_hour_30 hf 49 rfl 33 rfl (fun hf => ?_) (fun hf => ?_)
      · refine k_iload_n C dX11_hour_49 2 rfl 50 rfl ?_
        exact k_iret C hr h0 dX11_hour_50 hf
      · refine k_iload_n C dX11_hour_33 2 rfl 34 rfl ?_
        refine k_aload_n C dX11_hour_34 0 rfl rfl 35 rfl ?_
        refine k_getR C fe_X11_30 rfl dX11_hour_35 hf 38 rfl (fun r12 hf => ?_)
        refine k_callV_i C ye_X2_passHour ve_X11_125 ⟨rfl, rfl⟩ ⟨rfl, rfl⟩ dX11_hour_38 [] rfl rfl (Nat.le_of_ble_eq_true rfl) (c_X2_passHour _ _) hf 41 rfl (fun x14 w13 hf => ?_)
        refine k_iadd C dX11_hour_41 42 rfl ?_
        refine k_nmi hf (fun x15 hf => ?_)
        refine k_istore_n C dX11_hour_42 rfl (by decide) [(2, .int x15), (0, rV (xg X) v0), (1, .int v1), (3, .int v3)] rfl 43 rfl ?_
        refine k_iinc C dX11_hour_43 3 rfl (by decide) (by decide) [(3, .int (v3 + (1 : Int32))), (2, .int x15), (0, rV (xg X) v0), (1, .int v1)] rfl 46 rfl ?_
        refine k_goto C dX11_hour_46 28 rfl ?_
        refine k_sub [2, 3, 1, 0] rfl ?_
        exact ih28 _ _ _ _ w13 hf
  unfold f_X11_hour at hf
  refine k_sub (lv2 := [(0, rV (xg X) p0), (1, .int p1)]) [0, 1] rfl ?_
  refine k_iload_n C dX11_hour_0 1 rfl 1 rfl ?_
  refine k_iconst C dX11_hour_1 (1) (by decide) 2 rfl ?_
  refine k_bipush C dX11_hour_2 (60) (by decide) 4 rfl ?_
  refine k_callS_i C ye_X11_within se_X11_72 ⟨rfl, rfl⟩ ⟨rfl, rfl⟩ dX11_hour_4 [.int p1, .int (1 : Int32), .int (60 : Int32)] rfl rfl (Nat.le_of_ble_eq_true rfl) (c_X11_within _ _ _ _) hf 7 rfl (fun x17 w16 hf => ?_)
  refine k_if_ne C dX11_hour_7 hf 17 rfl 10 rfl (fun hf => ?_) (fun hf => ?_)
  · refine k_aload_n C dX11_hour_17 0 rfl rfl 18 rfl ?_
    refine k_getR C fe_X11_30 rfl dX11_hour_18 hf 21 rfl (fun r18 hf => ?_)
    refine k_callV_v C ye_X2_remember ve_X11_119 ⟨rfl, rfl⟩ ⟨rfl, rfl⟩ dX11_hour_21 [] rfl rfl (Nat.le_of_ble_eq_true rfl) (c_X2_remember _ _) hf 24 rfl (fun w19 hf => ?_)
    refine k_iconst C dX11_hour_24 (0) (by decide) 25 rfl ?_
    refine k_istore_n C dX11_hour_25 rfl (by decide) [(2, .int (0 : Int32)), (0, rV (xg X) p0), (1, .int p1)] rfl 26 rfl ?_
    refine k_iconst C dX11_hour_26 (0) (by decide) 27 rfl ?_
    refine k_istore_n C dX11_hour_27 rfl (by decide) [(3, .int (0 : Int32)), (2, .int (0 : Int32)), (0, rV (xg X) p0), (1, .int p1)] rfl 28 rfl ?_
    refine k_sub [2, 3, 1, 0] rfl ?_
    exact t_28 4096 _ _ _ _ w19 hf
  · refine k_aload_n C dX11_hour_10 0 rfl rfl 11 rfl ?_
    refine k_bipush C dX11_hour_11 (-2) (by decide) 13 rfl ?_
    refine k_callV_i C ye_X11_refuse ve_X11_76 ⟨rfl, rfl⟩ ⟨rfl, rfl⟩ dX11_hour_13 [.int (-2 : Int32)] rfl rfl (Nat.le_of_ble_eq_true rfl) (c_X11_refuse _ _ _) hf 16 rfl (fun x22 w21 hf => ?_)
    exact k_iret C hr h0 dX11_hour_16 hf
theorem dX11_image_0 : decode cX11_image 0 = .ok (.iload_n 1, 1) := by decide +kernel
theorem dX11_image_1 : decode cX11_image 1 = .ok (.iconst 0, 1) := by decide +kernel
theorem dX11_image_2 : decode cX11_image 2 = .ok (.iconst 1, 1) := by decide +kernel
theorem dX11_image_3 : decode cX11_image 3 = .ok (.invokestatic 72, 3) := by decide +kernel
theorem dX11_image_6 : decode cX11_image 6 = .ok (.ifCond .ne 10, 3) := by decide +kernel
theorem dX11_image_9 : decode cX11_image 9 = .ok (.aload_n 0, 1) := by decide +kernel
theorem dX11_image_10 : decode cX11_image 10 = .ok (.bipush (-2), 2) := by decide +kernel
theorem dX11_image_12 : decode cX11_image 12 = .ok (.invokevirtual 76, 3) := by decide +kernel
theorem dX11_image_15 : decode cX11_image 15 = .ok (.ireturn, 1) := by decide +kernel
theorem dX11_image_16 : decode cX11_image 16 = .ok (.aload_n 0, 1) := by decide +kernel
theorem dX11_image_17 : decode cX11_image 17 = .ok (.getfield 39, 3) := by decide +kernel
theorem dX11_image_20 : decode cX11_image 20 = .ok (.iload_n 1, 1) := by decide +kernel
theorem dX11_image_21 : decode cX11_image 21 = .ok (.aaload, 1) := by decide +kernel
theorem dX11_image_22 : decode cX11_image 22 = .ok (.aload_n 0, 1) := by decide +kernel
theorem dX11_image_23 : decode cX11_image 23 = .ok (.getfield 30, 3) := by decide +kernel
theorem dX11_image_26 : decode cX11_image 26 = .ok (.invokevirtual 274, 3) := by decide +kernel
theorem dX11_image_29 : decode cX11_image 29 = .ok (.aload_n 0, 1) := by decide +kernel
theorem dX11_image_30 : decode cX11_image 30 = .ok (.getfield 43, 3) := by decide +kernel
theorem dX11_image_33 : decode cX11_image 33 = .ok (.iload_n 1, 1) := by decide +kernel
theorem dX11_image_34 : decode cX11_image 34 = .ok (.iconst 1, 1) := by decide +kernel
theorem dX11_image_35 : decode cX11_image 35 = .ok (.bastore, 1) := by decide +kernel
theorem dX11_image_36 : decode cX11_image 36 = .ok (.iconst 1, 1) := by decide +kernel
theorem dX11_image_37 : decode cX11_image 37 = .ok (.ireturn, 1) := by decide +kernel
set_option maxRecDepth 100000 in
set_option maxHeartbeats 4000000 in
theorem c_X11_image {g : Gv} {l : Launch} (p0 : Nat) (p1 : Int32) (w0 : Wd) (rz : Int32) (wz : Wd) (hf : f_X11_image p0 p1 w0 = some (rz, wz)) : MI g l yX11_image cX11_image 2 .int 3 91 [rV g p0, .int p1] w0 rz wz := by
  refine mi_of RX11 (by decide) rfl (Nat.le_of_ble_eq_true rfl) ?_
  intro X hg hll C hr h0
  subst hg; subst hll
  unfold f_X11_image at hf
  refine k_sub (lv2 := [(0, rV (xg X) p0), (1, .int p1)]) [0, 1] rfl ?_
  refine k_iload_n C dX11_image_0 1 rfl 1 rfl ?_
  refine k_iconst C dX11_image_1 (0) (by decide) 2 rfl ?_
  refine k_iconst C dX11_image_2 (1) (by decide) 3 rfl ?_
  refine k_callS_i C ye_X11_within se_X11_72 ⟨rfl, rfl⟩ ⟨rfl, rfl⟩ dX11_image_3 [.int p1, .int (0 : Int32), .int (1 : Int32)] rfl rfl (Nat.le_of_ble_eq_true rfl) (c_X11_within _ _ _ _) hf 6 rfl (fun x13 w12 hf => ?_)
  refine k_if_ne C dX11_image_6 hf 16 rfl 9 rfl (fun hf => ?_) (fun hf => ?_)
  · refine k_aload_n C dX11_image_16 0 rfl rfl 17 rfl ?_
    refine k_getR C fe_X11_39 rfl dX11_image_17 hf 20 rfl (fun r14 hf => ?_)
    refine k_iload_n C dX11_image_20 1 rfl 21 rfl ?_
    refine k_aald17 C dX11_image_21 hf 22 rfl (fun r15 hf => ?_)
    refine k_aload_n C dX11_image_22 0 rfl rfl 23 rfl ?_
    refine k_getR C fe_X11_30 rfl dX11_image_23 hf 26 rfl (fun r16 hf => ?_)
    refine k_callV_v C ye_X2_copyFrom ve_X11_274 ⟨rfl, rfl⟩ ⟨rfl, rfl⟩ dX11_image_26 [rV (xg X) r16] rfl rfl (Nat.le_of_ble_eq_true rfl) (c_X2_copyFrom _ _ _) hf 29 rfl (fun w17 hf => ?_)
    refine k_aload_n C dX11_image_29 0 rfl rfl 30 rfl ?_
    refine k_getR C fe_X11_43 rfl dX11_image_30 hf 33 rfl (fun r19 hf => ?_)
    refine k_iload_n C dX11_image_33 1 rfl 34 rfl ?_
    refine k_iconst C dX11_image_34 (1) (by decide) 35 rfl ?_
    refine k_zast C dX11_image_35 hf 36 rfl (fun w20 _ hf => ?_)
    refine k_iconst C dX11_image_36 (1) (by decide) 37 rfl ?_
    exact k_iret C hr h0 dX11_image_37 hf
  · refine k_aload_n C dX11_image_9 0 rfl rfl 10 rfl ?_
    refine k_bipush C dX11_image_10 (-2) (by decide) 12 rfl ?_
    refine k_callV_i C ye_X11_refuse ve_X11_76 ⟨rfl, rfl⟩ ⟨rfl, rfl⟩ dX11_image_12 [.int (-2 : Int32)] rfl rfl (Nat.le_of_ble_eq_true rfl) (c_X11_refuse _ _ _) hf 15 rfl (fun x22 w21 hf => ?_)
    exact k_iret C hr h0 dX11_image_15 hf
theorem dX11_is_0 : decode cX11_is 0 = .ok (.aload_n 0, 1) := by decide +kernel
theorem dX11_is_1 : decode cX11_is 1 = .ok (.getfield 30, 3) := by decide +kernel
theorem dX11_is_4 : decode cX11_is 4 = .ok (.iload_n 1, 1) := by decide +kernel
theorem dX11_is_5 : decode cX11_is 5 = .ok (.invokevirtual 112, 3) := by decide +kernel
theorem dX11_is_8 : decode cX11_is 8 = .ok (.ifCond .eq 12, 3) := by decide +kernel
theorem dX11_is_11 : decode cX11_is 11 = .ok (.iload_n 2, 1) := by decide +kernel
theorem dX11_is_12 : decode cX11_is 12 = .ok (.iconst 0, 1) := by decide +kernel
theorem dX11_is_13 : decode cX11_is 13 = .ok (.iconst 1, 1) := by decide +kernel
theorem dX11_is_14 : decode cX11_is 14 = .ok (.invokestatic 72, 3) := by decide +kernel
theorem dX11_is_17 : decode cX11_is 17 = .ok (.ifCond .ne 10, 3) := by decide +kernel
theorem dX11_is_20 : decode cX11_is 20 = .ok (.aload_n 0, 1) := by decide +kernel
theorem dX11_is_21 : decode cX11_is 21 = .ok (.bipush (-2), 2) := by decide +kernel
theorem dX11_is_23 : decode cX11_is 23 = .ok (.invokevirtual 76, 3) := by decide +kernel
theorem dX11_is_26 : decode cX11_is 26 = .ok (.ireturn, 1) := by decide +kernel
theorem dX11_is_27 : decode cX11_is 27 = .ok (.aload_n 0, 1) := by decide +kernel
theorem dX11_is_28 : decode cX11_is 28 = .ok (.getfield 30, 3) := by decide +kernel
theorem dX11_is_31 : decode cX11_is 31 = .ok (.getfield 132, 3) := by decide +kernel
theorem dX11_is_34 : decode cX11_is 34 = .ok (.iload_n 1, 1) := by decide +kernel
theorem dX11_is_35 : decode cX11_is 35 = .ok (.aaload, 1) := by decide +kernel
theorem dX11_is_36 : decode cX11_is 36 = .ok (.astore_n 3, 1) := by decide +kernel
theorem dX11_is_37 : decode cX11_is 37 = .ok (.iload_n 2, 1) := by decide +kernel
theorem dX11_is_38 : decode cX11_is 38 = .ok (.ifCond .ne 21, 3) := by decide +kernel
theorem dX11_is_41 : decode cX11_is 41 = .ok (.aload_n 0, 1) := by decide +kernel
theorem dX11_is_42 : decode cX11_is 42 = .ok (.getfield 30, 3) := by decide +kernel
theorem dX11_is_45 : decode cX11_is 45 = .ok (.getfield 207, 3) := by decide +kernel
theorem dX11_is_48 : decode cX11_is 48 = .ok (.iload_n 1, 1) := by decide +kernel
theorem dX11_is_49 : decode cX11_is 49 = .ok (.aload_n 3, 1) := by decide +kernel
theorem dX11_is_50 : decode cX11_is 50 = .ok (.getfield 162, 3) := by decide +kernel
theorem dX11_is_53 : decode cX11_is 53 = .ok (.invokevirtual 245, 3) := by decide +kernel
theorem dX11_is_56 : decode cX11_is 56 = .ok (.goto 18, 3) := by decide +kernel
theorem dX11_is_59 : decode cX11_is 59 = .ok (.aload_n 0, 1) := by decide +kernel
theorem dX11_is_60 : decode cX11_is 60 = .ok (.getfield 30, 3) := by decide +kernel
theorem dX11_is_63 : decode cX11_is 63 = .ok (.getfield 207, 3) := by decide +kernel
theorem dX11_is_66 : decode cX11_is 66 = .ok (.iload_n 1, 1) := by decide +kernel
theorem dX11_is_67 : decode cX11_is 67 = .ok (.aload_n 3, 1) := by decide +kernel
theorem dX11_is_68 : decode cX11_is 68 = .ok (.getfield 159, 3) := by decide +kernel
theorem dX11_is_71 : decode cX11_is 71 = .ok (.invokevirtual 248, 3) := by decide +kernel
theorem dX11_is_74 : decode cX11_is 74 = .ok (.ireturn, 1) := by decide +kernel
set_option maxRecDepth 100000 in
set_option maxHeartbeats 4000000 in
theorem c_X11_is {g : Gv} {l : Launch} (p0 : Nat) (p1 : Int32) (p2 : Int32) (w0 : Wd) (rz : Int32) (wz : Wd) (hf : f_X11_is p0 p1 p2 w0 = some (rz, wz)) : MI g l yX11_is cX11_is 4 .int 5 119 [rV g p0, .int p1, .int p2] w0 rz wz := by
  refine mi_of RX11 (by decide) rfl (Nat.le_of_ble_eq_true rfl) ?_
  intro X hg hll C hr h0
  subst hg; subst hll
  have t_74 : ∀ (s0 : Int32) (w : Wd), f_X11_is_74 s0 w = some (rz, wz) → Wk X 0 0 (QI X w0 rz wz) w [] 74 [.int s0] := by
    intro s0 w hf
    unfold f_X11_is_74 at hf
    exact k_iret C hr h0 dX11_is_74 hf
  have t_20 : ∀ (v0 : Nat) (w : Wd), f_X11_is_20 v0 w = some (rz, wz) → Wk X 0 0 (QI X w0 rz wz) w [(0, rV (xg X) v0)] 20 [] := by
    intro v0 w hf
    unfold f_X11_is_20 at hf
    refine k_aload_n C dX11_is_20 0 rfl rfl 21 rfl ?_
    refine k_bipush C dX11_is_21 (-2) (by decide) 23 rfl ?_
    refine k_callV_i C ye_X11_refuse ve_X11_76 ⟨rfl, rfl⟩ ⟨rfl, rfl⟩ dX11_is_23 [.int (-2 : Int32)] rfl rfl (Nat.le_of_ble_eq_true rfl) (c_X11_refuse _ _ _) hf 26 rfl (fun x22 w21 hf => ?_)
    exact k_iret C hr h0 dX11_is_26 hf
  unfold f_X11_is at hf
  refine k_sub (lv2 := [(0, rV (xg X) p0), (1, .int p1), (2, .int p2)]) [0, 1, 2] rfl ?_
  refine k_aload_n C dX11_is_0 0 rfl rfl 1 rfl ?_
  refine k_getR C fe_X11_30 rfl dX11_is_1 hf 4 rfl (fun r23 hf => ?_)
  refine k_iload_n C dX11_is_4 1 rfl 5 rfl ?_
  refine k_callV_i C ye_X2_has ve_X11_112 ⟨rfl, rfl⟩ ⟨rfl, rfl⟩ dX11_is_5 [.int p1] rfl rfl (Nat.le_of_ble_eq_true rfl) (c_X2_has _ _ _) hf 8 rfl (fun x25 w24 hf => ?_)
  refine k_if_eq C dX11_is_8 hf 20 rfl 11 rfl (fun hf => ?_) (fun hf => ?_)
  · refine k_sub [0] rfl ?_
    exact t_20 _ w24 hf
  · refine k_iload_n C dX11_is_11 2 rfl 12 rfl ?_
    refine k_iconst C dX11_is_12 (0) (by decide) 13 rfl ?_
    refine k_iconst C dX11_is_13 (1) (by decide) 14 rfl ?_
    refine k_callS_i C ye_X11_within se_X11_72 ⟨rfl, rfl⟩ ⟨rfl, rfl⟩ dX11_is_14 [.int p2, .int (0 : Int32), .int (1 : Int32)] rfl rfl (Nat.le_of_ble_eq_true rfl) (c_X11_within _ _ _ _) hf 17 rfl (fun x27 w26 hf => ?_)
    refine k_if_ne C dX11_is_17 hf 27 rfl 20 rfl (fun hf => ?_) (fun hf => ?_)
    · refine k_aload_n C dX11_is_27 0 rfl rfl 28 rfl ?_
      refine k_getR C fe_X11_30 rfl dX11_is_28 hf 31 rfl (fun r28 hf => ?_)
      refine k_getR C fe_X11_132 rfl dX11_is_31 hf 34 rfl (fun r29 hf => ?_)
      refine k_iload_n C dX11_is_34 1 rfl 35 rfl ?_
      refine k_aald16 C dX11_is_35 hf 36 rfl (fun r30 hf => ?_)
      refine k_astore_n C dX11_is_36 rfl rfl (by decide) [(3, rV (xg X) r30), (0, rV (xg X) p0), (1, .int p1), (2, .int p2)] rfl 37 rfl ?_
      refine k_iload_n C dX11_is_37 3 rfl 38 rfl ?_
      refine k_if_ne C dX11_is_38 hf 59 rfl 41 rfl (fun hf => ?_) (fun hf => ?_)
      · refine k_aload_n C dX11_is_59 1 rfl rfl 60 rfl ?_
        refine k_getR C fe_X11_30 rfl dX11_is_60 hf 63 rfl (fun r31 hf => ?_)
        refine k_getR C fe_X11_207 rfl dX11_is_63 hf 66 rfl (fun r32 hf => ?_)
        refine k_iload_n C dX11_is_66 2 rfl 67 rfl ?_
        refine k_aload_n C dX11_is_67 0 rfl rfl 68 rfl ?_
        refine k_getI C fe_X11_159 rfl dX11_is_68 hf 71 rfl (fun x33 hf => ?_)
        refine k_callV_i C ye_X0_fittingRates ve_X11_248 ⟨rfl, rfl⟩ ⟨rfl, rfl⟩ dX11_is_71 [.int p1, .int x33] rfl rfl (Nat.le_of_ble_eq_true rfl) (c_X0_fittingRates _ _ _ _) hf 74 rfl (fun x35 w34 hf => ?_)
        refine k_sub [] rfl ?_
        exact t_74 _ w34 hf
      · refine k_aload_n C dX11_is_41 1 rfl rfl 42 rfl ?_
        refine k_getR C fe_X11_30 rfl dX11_is_42 hf 45 rfl (fun r36 hf => ?_)
        refine k_getR C fe_X11_207 rfl dX11_is_45 hf 48 rfl (fun r37 hf => ?_)
        refine k_iload_n C dX11_is_48 2 rfl 49 rfl ?_
        refine k_aload_n C dX11_is_49 0 rfl rfl 50 rfl ?_
        refine k_getI C fe_X11_162 rfl dX11_is_50 hf 53 rfl (fun x38 hf => ?_)
        refine k_callV_i C ye_X0_fittingKinds ve_X11_245 ⟨rfl, rfl⟩ ⟨rfl, rfl⟩ dX11_is_53 [.int p1, .int x38] rfl rfl (Nat.le_of_ble_eq_true rfl) (c_X0_fittingKinds _ _ _ _) hf 56 rfl (fun x40 w39 hf => ?_)
        refine k_goto C dX11_is_56 74 rfl ?_
        refine k_sub [] rfl ?_
        exact t_74 _ w39 hf
    · refine k_sub [0] rfl ?_
      exact t_20 _ w26 hf
theorem dX11_just_0 : decode cX11_just 0 = .ok (.iload_n 1, 1) := by decide +kernel
theorem dX11_just_1 : decode cX11_just 1 = .ok (.iconst 1, 1) := by decide +kernel
theorem dX11_just_2 : decode cX11_just 2 = .ok (.bipush 60, 2) := by decide +kernel
theorem dX11_just_4 : decode cX11_just 4 = .ok (.invokestatic 72, 3) := by decide +kernel
theorem dX11_just_7 : decode cX11_just 7 = .ok (.ifCond .eq 19, 3) := by decide +kernel
theorem dX11_just_10 : decode cX11_just 10 = .ok (.iload_n 2, 1) := by decide +kernel
theorem dX11_just_11 : decode cX11_just 11 = .ok (.iconst (-1), 1) := by decide +kernel
theorem dX11_just_12 : decode cX11_just 12 = .ok (.if_icmp .eq 19, 3) := by decide +kernel
theorem dX11_just_15 : decode cX11_just 15 = .ok (.aload_n 0, 1) := by decide +kernel
theorem dX11_just_16 : decode cX11_just 16 = .ok (.getfield 30, 3) := by decide +kernel
theorem dX11_just_19 : decode cX11_just 19 = .ok (.iload_n 2, 1) := by decide +kernel
theorem dX11_just_20 : decode cX11_just 20 = .ok (.invokevirtual 112, 3) := by decide +kernel
theorem dX11_just_23 : decode cX11_just 23 = .ok (.ifCond .ne 8, 3) := by decide +kernel
theorem dX11_just_26 : decode cX11_just 26 = .ok (.aload_n 0, 1) := by decide +kernel
theorem dX11_just_27 : decode cX11_just 27 = .ok (.invokevirtual 115, 3) := by decide +kernel
theorem dX11_just_30 : decode cX11_just 30 = .ok (.ireturn, 1) := by decide +kernel
theorem dX11_just_31 : decode cX11_just 31 = .ok (.aload_n 0, 1) := by decide +kernel
theorem dX11_just_32 : decode cX11_just 32 = .ok (.getfield 57, 3) := by decide +kernel
theorem dX11_just_35 : decode cX11_just 35 = .ok (.aload_n 0, 1) := by decide +kernel
theorem dX11_just_36 : decode cX11_just 36 = .ok (.getfield 30, 3) := by decide +kernel
theorem dX11_just_39 : decode cX11_just 39 = .ok (.iload_n 1, 1) := by decide +kernel
theorem dX11_just_40 : decode cX11_just 40 = .ok (.invokevirtual 197, 3) := by decide +kernel
theorem dX11_just_43 : decode cX11_just 43 = .ok (.istore_n 3, 1) := by decide +kernel
theorem dX11_just_44 : decode cX11_just 44 = .ok (.iload_n 3, 1) := by decide +kernel
theorem dX11_just_45 : decode cX11_just 45 = .ok (.iconst (-1), 1) := by decide +kernel
theorem dX11_just_46 : decode cX11_just 46 = .ok (.if_icmp .eq 8, 3) := by decide +kernel
theorem dX11_just_49 : decode cX11_just 49 = .ok (.iload_n 2, 1) := by decide +kernel
theorem dX11_just_50 : decode cX11_just 50 = .ok (.iconst (-1), 1) := by decide +kernel
theorem dX11_just_51 : decode cX11_just 51 = .ok (.if_icmp .ne 7, 3) := by decide +kernel
theorem dX11_just_54 : decode cX11_just 54 = .ok (.iload_n 3, 1) := by decide +kernel
theorem dX11_just_55 : decode cX11_just 55 = .ok (.goto 12, 3) := by decide +kernel
theorem dX11_just_58 : decode cX11_just 58 = .ok (.aload_n 0, 1) := by decide +kernel
theorem dX11_just_59 : decode cX11_just 59 = .ok (.getfield 57, 3) := by decide +kernel
theorem dX11_just_62 : decode cX11_just 62 = .ok (.getfield 201, 3) := by decide +kernel
theorem dX11_just_65 : decode cX11_just 65 = .ok (.iload_n 2, 1) := by decide +kernel
theorem dX11_just_66 : decode cX11_just 66 = .ok (.iaload, 1) := by decide +kernel
theorem dX11_just_67 : decode cX11_just 67 = .ok (.ireturn, 1) := by decide +kernel
set_option maxRecDepth 100000 in
set_option maxHeartbeats 4000000 in
theorem c_X11_just {g : Gv} {l : Launch} (p0 : Nat) (p1 : Int32) (p2 : Int32) (w0 : Wd) (rz : Int32) (wz : Wd) (hf : f_X11_just p0 p1 p2 w0 = some (rz, wz)) : MI g l yX11_just cX11_just 4 .int 6 139 [rV g p0, .int p1, .int p2] w0 rz wz := by
  refine mi_of RX11 (by decide) rfl (Nat.le_of_ble_eq_true rfl) ?_
  intro X hg hll C hr h0
  subst hg; subst hll
  have t_67 : ∀ (s0 : Int32) (w : Wd), f_X11_just_67 s0 w = some (rz, wz) → Wk X 0 0 (QI X w0 rz wz) w [] 67 [.int s0] := by
    intro s0 w hf
    unfold f_X11_just_67 at hf
    exact k_iret C hr h0 dX11_just_67 hf
  have t_54 : ∀ (v3 : Int32) (w : Wd), f_X11_just_54 v3 w = some (rz, wz) → Wk X 0 0 (QI X w0 rz wz) w [(3, .int v3)] 54 [] := by
    intro v3 w hf
    unfold f_X11_just_54 at hf
    refine k_iload_n C dX11_just_54 0 rfl 55 rfl ?_
    refine k_goto C dX11_just_55 67 rfl ?_
    refine k_sub [] rfl ?_
    exact t_67 _ w hf
  have t_31 : ∀ (v0 : Nat) (v1 : Int32) (v2 : Int32) (w : Wd), f_X11_just_31 v0 v1 v2 w = some (rz, wz) → Wk X 0 0 (QI X w0 rz wz) w [(0, rV (xg X) v0), (1, .int v1), (2, .int v2)] 31 [] := by
    intro v0 v1 v2 w hf
    unfold f_X11_just_31 at hf
    refine k_aload_n C dX11_just_31 0 rfl rfl 32 rfl ?_
    refine k_getR C fe_X11_57 rfl dX11_just_32 hf 35 rfl (fun r15 hf => ?_)
    refine k_aload_n C dX11_just_35 0 rfl rfl 36 rfl ?_
    refine k_getR C fe_X11_30 rfl dX11_just_36 hf 39 rfl (fun r16 hf => ?_)
    refine k_iload_n C dX11_just_39 1 rfl 40 rfl ?_
    refine k_callV_i C ye_X7_fewestHours ve_X11_197 ⟨rfl, rfl⟩ ⟨rfl, rfl⟩ dX11_just_40 [rV (xg X) r16, .int v1] rfl rfl (Nat.le_of_ble_eq_true rfl) (c_X7_fewestHours _ _ _ _) hf 43 rfl (fun x18 w17 hf => ?_)
    refine k_istore_n C dX11_just_43 rfl (by decide) [(3, .int x18), (0, rV (xg X) v0), (1, .int v1), (2, .int v2)] rfl 44 rfl ?_
    refine k_iload_n C dX11_just_44 0 rfl 45 rfl ?_
    refine k_iconst C dX11_just_45 (-1) (by decide) 46 rfl ?_
    refine k_icmp_eq C dX11_just_46 hf 54 rfl 49 rfl (fun hf => ?_) (fun hf => ?_)
    · refine k_sub [0] rfl ?_
      exact t_54 _ w17 hf
    · refine k_iload_n C dX11_just_49 3 rfl 50 rfl ?_
      refine k_iconst C dX11_just_50 (-1) (by decide) 51 rfl ?_
      refine k_icmp_ne C dX11_just_51 hf 58 rfl 54 rfl (fun hf => ?_) (fun hf => ?_)
      · refine k_aload_n C dX11_just_58 1 rfl rfl 59 rfl ?_
        refine k_getR C fe_X11_57 rfl dX11_just_59 hf 62 rfl (fun r19 hf => ?_)
        refine k_getR C fe_X11_201 rfl dX11_just_62 hf 65 rfl (fun r20 hf => ?_)
        refine k_iload_n C dX11_just_65 3 rfl 66 rfl ?_
        refine k_iald C dX11_just_66 hf 67 rfl (fun x21 hf => ?_)
        refine k_sub [] rfl ?_
        exact t_67 _ w17 hf
      · refine k_sub [0] rfl ?_
        exact t_54 _ w17 hf
  have t_26 : ∀ (v0 : Nat) (w : Wd), f_X11_just_26 v0 w = some (rz, wz) → Wk X 0 0 (QI X w0 rz wz) w [(0, rV (xg X) v0)] 26 [] := by
    intro v0 w hf
    unfold f_X11_just_26 at hf
    refine k_aload_n C dX11_just_26 0 rfl rfl 27 rfl ?_
    refine k_callV_i C ye_X11_refuseApart ve_X11_115 ⟨rfl, rfl⟩ ⟨rfl, rfl⟩ dX11_just_27 [] rfl rfl (Nat.le_of_ble_eq_true rfl) (c_X11_refuseApart _ _) hf 30 rfl (fun x23 w22 hf => ?_)
    exact k_iret C hr h0 dX11_just_30 hf
  unfold f_X11_just at hf
  refine k_sub (lv2 := [(0, rV (xg X) p0), (1, .int p1), (2, .int p2)]) [0, 1, 2] rfl ?_
  refine k_iload_n C dX11_just_0 1 rfl 1 rfl ?_
  refine k_iconst C dX11_just_1 (1) (by decide) 2 rfl ?_
  refine k_bipush C dX11_just_2 (60) (by decide) 4 rfl ?_
  refine k_callS_i C ye_X11_within se_X11_72 ⟨rfl, rfl⟩ ⟨rfl, rfl⟩ dX11_just_4 [.int p1, .int (1 : Int32), .int (60 : Int32)] rfl rfl (Nat.le_of_ble_eq_true rfl) (c_X11_within _ _ _ _) hf 7 rfl (fun x25 w24 hf => ?_)
  refine k_if_eq C dX11_just_7 hf 26 rfl 10 rfl (fun hf => ?_) (fun hf => ?_)
  · refine k_sub [0] rfl ?_
    exact t_26 _ w24 hf
  · refine k_iload_n C dX11_just_10 2 rfl 11 rfl ?_
    refine k_iconst C dX11_just_11 (-1) (by decide) 12 rfl ?_
    refine k_icmp_eq C dX11_just_12 hf 31 rfl 15 rfl (fun hf => ?_) (fun hf => ?_)
    · refine k_sub [0, 1, 2] rfl ?_
      exact t_31 _ _ _ w24 hf
    · refine k_aload_n C dX11_just_15 0 rfl rfl 16 rfl ?_
      refine k_getR C fe_X11_30 rfl dX11_just_16 hf 19 rfl (fun r26 hf => ?_)
      refine k_iload_n C dX11_just_19 2 rfl 20 rfl ?_
      refine k_callV_i C ye_X2_has ve_X11_112 ⟨rfl, rfl⟩ ⟨rfl, rfl⟩ dX11_just_20 [.int p2] rfl rfl (Nat.le_of_ble_eq_true rfl) (c_X2_has _ _ _) hf 23 rfl (fun x28 w27 hf => ?_)
      refine k_if_ne C dX11_just_23 hf 31 rfl 26 rfl (fun hf => ?_) (fun hf => ?_)
      · refine k_sub [0, 1, 2] rfl ?_
        exact t_31 _ _ _ w27 hf
      · refine k_sub [0] rfl ?_
        exact t_26 _ w27 hf
theorem dX11_leastIn_0 : decode cX11_leastIn 0 = .ok (.iconst 0, 1) := by decide +kernel
theorem dX11_leastIn_1 : decode cX11_leastIn 1 = .ok (.istore_n 1, 1) := by decide +kernel
theorem dX11_leastIn_2 : decode cX11_leastIn 2 = .ok (.iload_n 1, 1) := by decide +kernel
theorem dX11_leastIn_3 : decode cX11_leastIn 3 = .ok (.bipush 32, 2) := by decide +kernel
theorem dX11_leastIn_5 : decode cX11_leastIn 5 = .ok (.if_icmp .ge 20, 3) := by decide +kernel
theorem dX11_leastIn_8 : decode cX11_leastIn 8 = .ok (.iload_n 0, 1) := by decide +kernel
theorem dX11_leastIn_9 : decode cX11_leastIn 9 = .ok (.iload_n 1, 1) := by decide +kernel
theorem dX11_leastIn_10 : decode cX11_leastIn 10 = .ok (.iushr, 1) := by decide +kernel
theorem dX11_leastIn_11 : decode cX11_leastIn 11 = .ok (.iconst 1, 1) := by decide +kernel
theorem dX11_leastIn_12 : decode cX11_leastIn 12 = .ok (.iand, 1) := by decide +kernel
theorem dX11_leastIn_13 : decode cX11_leastIn 13 = .ok (.iconst 1, 1) := by decide +kernel
theorem dX11_leastIn_14 : decode cX11_leastIn 14 = .ok (.if_icmp .ne 5, 3) := by decide +kernel
theorem dX11_leastIn_17 : decode cX11_leastIn 17 = .ok (.iload_n 1, 1) := by decide +kernel
theorem dX11_leastIn_18 : decode cX11_leastIn 18 = .ok (.ireturn, 1) := by decide +kernel
theorem dX11_leastIn_19 : decode cX11_leastIn 19 = .ok (.iinc 1 1, 3) := by decide +kernel
theorem dX11_leastIn_22 : decode cX11_leastIn 22 = .ok (.goto (-20), 3) := by decide +kernel
theorem dX11_leastIn_25 : decode cX11_leastIn 25 = .ok (.iconst (-1), 1) := by decide +kernel
theorem dX11_leastIn_26 : decode cX11_leastIn 26 = .ok (.ireturn, 1) := by decide +kernel
set_option maxRecDepth 100000 in
set_option maxHeartbeats 4000000 in
theorem c_X11_leastIn {g : Gv} {l : Launch} (p0 : Int32) (w0 : Wd) (rz : Int32) (wz : Wd) (hf : f_X11_leastIn p0 w0 = some (rz, wz)) : MI g l yX11_leastIn cX11_leastIn 2 .int 0 0 [.int p0] w0 rz wz := by
  refine mi_of RX11 (by decide) rfl (Nat.le_of_ble_eq_true rfl) ?_
  intro X hg hll C hr h0
  subst hg; subst hll
  have t_2 : ∀ (n : Nat) (v0 : Int32) (v1 : Int32) (w : Wd), f_X11_leastIn_2 n v0 v1 w = some (rz, wz) → Wk X 0 0 (QI X w0 rz wz) w [(0, .int v0), (1, .int v1)] 2 [] := by
    intro n
    induction n with
    | zero => intro v0 v1 w hf; rw [f_X11_leastIn_2] at hf; cases hf
    | succ n2 ih2 =>
      intro v0 v1 w hf
      rw [f_X11_leastIn_2] at hf
      refine k_iload_n C dX11_leastIn_2 1 rfl 3 rfl ?_
      refine k_bipush C dX11_leastIn_3 (32) (by decide) 5 rfl ?_
      refine k_icmp_ge C dX11_leastIn_5 hf 25 rfl 8 rfl (fun hf => ?_) (fun hf => ?_)
      · refine k_iconst C dX11_leastIn_25 (-1) (by decide) 26 rfl ?_
        exact k_iret C hr h0 dX11_leastIn_26 hf
      · refine k_iload_n C dX11_leastIn_8 0 rfl 9 rfl ?_
        refine k_iload_n C dX11_leastIn_9 1 rfl 10 rfl ?_
        refine k_iushr C dX11_leastIn_10 11 rfl ?_
        refine k_iconst C dX11_leastIn_11 (1) (by decide) 12 rfl ?_
        refine k_iand C dX11_leastIn_12 13 rfl ?_
        refine k_iconst C dX11_leastIn_13 (1) (by decide) 14 rfl ?_
        refine k_icmp_ne C dX11_leastIn_14 hf 19 rfl 17 rfl (fun hf => ?_) (fun hf => ?_)
        · refine k_iinc C dX11_leastIn_19 1 rfl (by decide) (by decide) [(1, .int (v1 + (1 : Int32))), (0, .int v0)] rfl 22 rfl ?_
          refine k_goto C dX11_leastIn_22 2 rfl ?_
          refine k_sub [1, 0] rfl ?_
          exact ih2 _ _ w hf
        · refine k_iload_n C dX11_leastIn_17 1 rfl 18 rfl ?_
          exact k_iret C hr h0 dX11_leastIn_18 hf
  unfold f_X11_leastIn at hf
  refine k_sub (lv2 := [(0, .int p0)]) [0] rfl ?_
  refine k_iconst C dX11_leastIn_0 (0) (by decide) 1 rfl ?_
  refine k_istore_n C dX11_leastIn_1 rfl (by decide) [(1, .int (0 : Int32)), (0, .int p0)] rfl 2 rfl ?_
  refine k_sub [1, 0] rfl ?_
  exact t_2 4096 _ _ w0 hf
theorem dX11_look_0 : decode cX11_look 0 = .ok (.aload_n 0, 1) := by decide +kernel
theorem dX11_look_1 : decode cX11_look 1 = .ok (.getfield 30, 3) := by decide +kernel
theorem dX11_look_4 : decode cX11_look 4 = .ok (.iload_n 1, 1) := by decide +kernel
theorem dX11_look_5 : decode cX11_look 5 = .ok (.invokevirtual 112, 3) := by decide +kernel
theorem dX11_look_8 : decode cX11_look 8 = .ok (.ifCond .ne 10, 3) := by decide +kernel
theorem dX11_look_11 : decode cX11_look 11 = .ok (.aload_n 0, 1) := by decide +kernel
theorem dX11_look_12 : decode cX11_look 12 = .ok (.bipush (-2), 2) := by decide +kernel
theorem dX11_look_14 : decode cX11_look 14 = .ok (.invokevirtual 76, 3) := by decide +kernel
theorem dX11_look_17 : decode cX11_look 17 = .ok (.ireturn, 1) := by decide +kernel
theorem dX11_look_18 : decode cX11_look 18 = .ok (.aload_n 0, 1) := by decide +kernel
theorem dX11_look_19 : decode cX11_look 19 = .ok (.getfield 30, 3) := by decide +kernel
theorem dX11_look_22 : decode cX11_look 22 = .ok (.getfield 207, 3) := by decide +kernel
theorem dX11_look_25 : decode cX11_look 25 = .ok (.iload_n 1, 1) := by decide +kernel
theorem dX11_look_26 : decode cX11_look 26 = .ok (.aload_n 0, 1) := by decide +kernel
theorem dX11_look_27 : decode cX11_look 27 = .ok (.getfield 30, 3) := by decide +kernel
theorem dX11_look_30 : decode cX11_look 30 = .ok (.getfield 132, 3) := by decide +kernel
theorem dX11_look_33 : decode cX11_look 33 = .ok (.iload_n 1, 1) := by decide +kernel
theorem dX11_look_34 : decode cX11_look 34 = .ok (.aaload, 1) := by decide +kernel
theorem dX11_look_35 : decode cX11_look 35 = .ok (.getfield 162, 3) := by decide +kernel
theorem dX11_look_38 : decode cX11_look 38 = .ok (.invokevirtual 251, 3) := by decide +kernel
theorem dX11_look_41 : decode cX11_look 41 = .ok (.ireturn, 1) := by decide +kernel
set_option maxRecDepth 100000 in
set_option maxHeartbeats 4000000 in
theorem c_X11_look {g : Gv} {l : Launch} (p0 : Nat) (p1 : Int32) (w0 : Wd) (rz : Int32) (wz : Wd) (hf : f_X11_look p0 p1 w0 = some (rz, wz)) : MI g l yX11_look cX11_look 2 .int 6 147 [rV g p0, .int p1] w0 rz wz := by
  refine mi_of RX11 (by decide) rfl (Nat.le_of_ble_eq_true rfl) ?_
  intro X hg hll C hr h0
  subst hg; subst hll
  unfold f_X11_look at hf
  refine k_sub (lv2 := [(0, rV (xg X) p0), (1, .int p1)]) [0, 1] rfl ?_
  refine k_aload_n C dX11_look_0 0 rfl rfl 1 rfl ?_
  refine k_getR C fe_X11_30 rfl dX11_look_1 hf 4 rfl (fun r14 hf => ?_)
  refine k_iload_n C dX11_look_4 1 rfl 5 rfl ?_
  refine k_callV_i C ye_X2_has ve_X11_112 ⟨rfl, rfl⟩ ⟨rfl, rfl⟩ dX11_look_5 [.int p1] rfl rfl (Nat.le_of_ble_eq_true rfl) (c_X2_has _ _ _) hf 8 rfl (fun x16 w15 hf => ?_)
  refine k_if_ne C dX11_look_8 hf 18 rfl 11 rfl (fun hf => ?_) (fun hf => ?_)
  · refine k_aload_n C dX11_look_18 0 rfl rfl 19 rfl ?_
    refine k_getR C fe_X11_30 rfl dX11_look_19 hf 22 rfl (fun r17 hf => ?_)
    refine k_getR C fe_X11_207 rfl dX11_look_22 hf 25 rfl (fun r18 hf => ?_)
    refine k_iload_n C dX11_look_25 1 rfl 26 rfl ?_
    refine k_aload_n C dX11_look_26 0 rfl rfl 27 rfl ?_
    refine k_getR C fe_X11_30 rfl dX11_look_27 hf 30 rfl (fun r19 hf => ?_)
    refine k_getR C fe_X11_132 rfl dX11_look_30 hf 33 rfl (fun r20 hf => ?_)
    refine k_iload_n C dX11_look_33 1 rfl 34 rfl ?_
    refine k_aald16 C dX11_look_34 hf 35 rfl (fun r21 hf => ?_)
    refine k_getI C fe_X11_162 rfl dX11_look_35 hf 38 rfl (fun x22 hf => ?_)
    refine k_callV_i C ye_X0_sharpestLook ve_X11_251 ⟨rfl, rfl⟩ ⟨rfl, rfl⟩ dX11_look_38 [.int p1, .int x22] rfl rfl (Nat.le_of_ble_eq_true rfl) (c_X0_sharpestLook _ _ _ _) hf 41 rfl (fun x24 w23 hf => ?_)
    exact k_iret C hr h0 dX11_look_41 hf
  · refine k_aload_n C dX11_look_11 0 rfl rfl 12 rfl ?_
    refine k_bipush C dX11_look_12 (-2) (by decide) 14 rfl ?_
    refine k_callV_i C ye_X11_refuse ve_X11_76 ⟨rfl, rfl⟩ ⟨rfl, rfl⟩ dX11_look_14 [.int (-2 : Int32)] rfl rfl (Nat.le_of_ble_eq_true rfl) (c_X11_refuse _ _ _) hf 17 rfl (fun x26 w25 hf => ?_)
    exact k_iret C hr h0 dX11_look_17 hf
theorem dX11_mill_0 : decode cX11_mill 0 = .ok (.iload_n 1, 1) := by decide +kernel
theorem dX11_mill_1 : decode cX11_mill 1 = .ok (.iconst 0, 1) := by decide +kernel
theorem dX11_mill_2 : decode cX11_mill 2 = .ok (.sipush 200, 3) := by decide +kernel
theorem dX11_mill_5 : decode cX11_mill 5 = .ok (.invokestatic 72, 3) := by decide +kernel
theorem dX11_mill_8 : decode cX11_mill 8 = .ok (.ifCond .ne 10, 3) := by decide +kernel
theorem dX11_mill_11 : decode cX11_mill 11 = .ok (.aload_n 0, 1) := by decide +kernel
theorem dX11_mill_12 : decode cX11_mill 12 = .ok (.bipush (-2), 2) := by decide +kernel
theorem dX11_mill_14 : decode cX11_mill 14 = .ok (.invokevirtual 76, 3) := by decide +kernel
theorem dX11_mill_17 : decode cX11_mill 17 = .ok (.ireturn, 1) := by decide +kernel
theorem dX11_mill_18 : decode cX11_mill 18 = .ok (.aload_n 0, 1) := by decide +kernel
theorem dX11_mill_19 : decode cX11_mill 19 = .ok (.getfield 30, 3) := by decide +kernel
theorem dX11_mill_22 : decode cX11_mill 22 = .ok (.getfield 80, 3) := by decide +kernel
theorem dX11_mill_25 : decode cX11_mill 25 = .ok (.istore_n 2, 1) := by decide +kernel
theorem dX11_mill_26 : decode cX11_mill 26 = .ok (.aload_n 0, 1) := by decide +kernel
theorem dX11_mill_27 : decode cX11_mill 27 = .ok (.getfield 30, 3) := by decide +kernel
theorem dX11_mill_30 : decode cX11_mill 30 = .ok (.iload_n 1, 1) := by decide +kernel
theorem dX11_mill_31 : decode cX11_mill 31 = .ok (.invokevirtual 84, 3) := by decide +kernel
theorem dX11_mill_34 : decode cX11_mill 34 = .ok (.iload_n 2, 1) := by decide +kernel
theorem dX11_mill_35 : decode cX11_mill 35 = .ok (.ireturn, 1) := by decide +kernel
set_option maxRecDepth 100000 in
set_option maxHeartbeats 4000000 in
theorem c_X11_mill {g : Gv} {l : Launch} (p0 : Nat) (p1 : Int32) (w0 : Wd) (rz : Int32) (wz : Wd) (hf : f_X11_mill p0 p1 w0 = some (rz, wz)) : MI g l yX11_mill cX11_mill 3 .int 2 44 [rV g p0, .int p1] w0 rz wz := by
  refine mi_of RX11 (by decide) rfl (Nat.le_of_ble_eq_true rfl) ?_
  intro X hg hll C hr h0
  subst hg; subst hll
  unfold f_X11_mill at hf
  refine k_sub (lv2 := [(0, rV (xg X) p0), (1, .int p1)]) [0, 1] rfl ?_
  refine k_iload_n C dX11_mill_0 1 rfl 1 rfl ?_
  refine k_iconst C dX11_mill_1 (0) (by decide) 2 rfl ?_
  refine k_sipush C dX11_mill_2 (200) (by decide) 5 rfl ?_
  refine k_callS_i C ye_X11_within se_X11_72 ⟨rfl, rfl⟩ ⟨rfl, rfl⟩ dX11_mill_5 [.int p1, .int (0 : Int32), .int (200 : Int32)] rfl rfl (Nat.le_of_ble_eq_true rfl) (c_X11_within _ _ _ _) hf 8 rfl (fun x11 w10 hf => ?_)
  refine k_if_ne C dX11_mill_8 hf 18 rfl 11 rfl (fun hf => ?_) (fun hf => ?_)
  · refine k_aload_n C dX11_mill_18 0 rfl rfl 19 rfl ?_
    refine k_getR C fe_X11_30 rfl dX11_mill_19 hf 22 rfl (fun r12 hf => ?_)
    refine k_getI C fe_X11_80 rfl dX11_mill_22 hf 25 rfl (fun x13 hf => ?_)
    refine k_istore_n C dX11_mill_25 rfl (by decide) [(2, .int x13), (0, rV (xg X) p0), (1, .int p1)] rfl 26 rfl ?_
    refine k_aload_n C dX11_mill_26 1 rfl rfl 27 rfl ?_
    refine k_getR C fe_X11_30 rfl dX11_mill_27 hf 30 rfl (fun r14 hf => ?_)
    refine k_iload_n C dX11_mill_30 2 rfl 31 rfl ?_
    refine k_callV_v C ye_X2_startAnew ve_X11_84 ⟨rfl, rfl⟩ ⟨rfl, rfl⟩ dX11_mill_31 [.int p1] rfl rfl (Nat.le_of_ble_eq_true rfl) (c_X2_startAnew _ _ _) hf 34 rfl (fun w15 hf => ?_)
    refine k_iload_n C dX11_mill_34 0 rfl 35 rfl ?_
    exact k_iret C hr h0 dX11_mill_35 hf
  · refine k_aload_n C dX11_mill_11 0 rfl rfl 12 rfl ?_
    refine k_bipush C dX11_mill_12 (-2) (by decide) 14 rfl ?_
    refine k_callV_i C ye_X11_refuse ve_X11_76 ⟨rfl, rfl⟩ ⟨rfl, rfl⟩ dX11_mill_14 [.int (-2 : Int32)] rfl rfl (Nat.le_of_ble_eq_true rfl) (c_X11_refuse _ _ _) hf 17 rfl (fun x18 w17 hf => ?_)
    exact k_iret C hr h0 dX11_mill_17 hf
theorem dX11_mills_0 : decode cX11_mills 0 = .ok (.iload_n 1, 1) := by decide +kernel
theorem dX11_mills_1 : decode cX11_mills 1 = .ok (.iconst 0, 1) := by decide +kernel
theorem dX11_mills_2 : decode cX11_mills 2 = .ok (.ldc_w 263, 3) := by decide +kernel
theorem dX11_mills_5 : decode cX11_mills 5 = .ok (.invokestatic 72, 3) := by decide +kernel
theorem dX11_mills_8 : decode cX11_mills 8 = .ok (.ifCond .eq 13, 3) := by decide +kernel
theorem dX11_mills_11 : decode cX11_mills 11 = .ok (.iload_n 2, 1) := by decide +kernel
theorem dX11_mills_12 : decode cX11_mills 12 = .ok (.iconst 0, 1) := by decide +kernel
theorem dX11_mills_13 : decode cX11_mills 13 = .ok (.bipush 60, 2) := by decide +kernel
theorem dX11_mills_15 : decode cX11_mills 15 = .ok (.invokestatic 72, 3) := by decide +kernel
theorem dX11_mills_18 : decode cX11_mills 18 = .ok (.ifCond .ne 10, 3) := by decide +kernel
theorem dX11_mills_21 : decode cX11_mills 21 = .ok (.aload_n 0, 1) := by decide +kernel
theorem dX11_mills_22 : decode cX11_mills 22 = .ok (.bipush (-2), 2) := by decide +kernel
theorem dX11_mills_24 : decode cX11_mills 24 = .ok (.invokevirtual 76, 3) := by decide +kernel
theorem dX11_mills_27 : decode cX11_mills 27 = .ok (.ireturn, 1) := by decide +kernel
theorem dX11_mills_28 : decode cX11_mills 28 = .ok (.aload_n 0, 1) := by decide +kernel
theorem dX11_mills_29 : decode cX11_mills 29 = .ok (.getfield 30, 3) := by decide +kernel
theorem dX11_mills_32 : decode cX11_mills 32 = .ok (.invokevirtual 180, 3) := by decide +kernel
theorem dX11_mills_35 : decode cX11_mills 35 = .ok (.aload_n 0, 1) := by decide +kernel
theorem dX11_mills_36 : decode cX11_mills 36 = .ok (.getfield 30, 3) := by decide +kernel
theorem dX11_mills_39 : decode cX11_mills 39 = .ok (.getfield 191, 3) := by decide +kernel
theorem dX11_mills_42 : decode cX11_mills 42 = .ok (.iadd, 1) := by decide +kernel
theorem dX11_mills_43 : decode cX11_mills 43 = .ok (.istore_n 3, 1) := by decide +kernel
theorem dX11_mills_44 : decode cX11_mills 44 = .ok (.iload_n 1, 1) := by decide +kernel
theorem dX11_mills_45 : decode cX11_mills 45 = .ok (.i2l, 1) := by decide +kernel
theorem dX11_mills_46 : decode cX11_mills 46 = .ok (.lstore 4, 2) := by decide +kernel
theorem dX11_mills_48 : decode cX11_mills 48 = .ok (.iconst 0, 1) := by decide +kernel
theorem dX11_mills_49 : decode cX11_mills 49 = .ok (.istore 6, 2) := by decide +kernel
theorem dX11_mills_51 : decode cX11_mills 51 = .ok (.iload 6, 2) := by decide +kernel
theorem dX11_mills_53 : decode cX11_mills 53 = .ok (.iload_n 2, 1) := by decide +kernel
theorem dX11_mills_54 : decode cX11_mills 54 = .ok (.if_icmp .ge 56, 3) := by decide +kernel
theorem dX11_mills_57 : decode cX11_mills 57 = .ok (.lload 4, 2) := by decide +kernel
theorem dX11_mills_59 : decode cX11_mills 59 = .ok (.ldc2_w 264, 3) := by decide +kernel
theorem dX11_mills_62 : decode cX11_mills 62 = .ok (.lmul, 1) := by decide +kernel
theorem dX11_mills_63 : decode cX11_mills 63 = .ok (.ldc2_w 266, 3) := by decide +kernel
theorem dX11_mills_66 : decode cX11_mills 66 = .ok (.ladd, 1) := by decide +kernel
theorem dX11_mills_67 : decode cX11_mills 67 = .ok (.ldc2_w 268, 3) := by decide +kernel
theorem dX11_mills_70 : decode cX11_mills 70 = .ok (.lrem, 1) := by decide +kernel
theorem dX11_mills_71 : decode cX11_mills 71 = .ok (.lstore 4, 2) := by decide +kernel
theorem dX11_mills_73 : decode cX11_mills 73 = .ok (.iload_n 3, 1) := by decide +kernel
theorem dX11_mills_74 : decode cX11_mills 74 = .ok (.aload_n 0, 1) := by decide +kernel
theorem dX11_mills_75 : decode cX11_mills 75 = .ok (.getfield 30, 3) := by decide +kernel
theorem dX11_mills_78 : decode cX11_mills 78 = .ok (.lload 4, 2) := by decide +kernel
theorem dX11_mills_80 : decode cX11_mills 80 = .ok (.ldc2_w 270, 3) := by decide +kernel
theorem dX11_mills_83 : decode cX11_mills 83 = .ok (.ldiv, 1) := by decide +kernel
theorem dX11_mills_84 : decode cX11_mills 84 = .ok (.ldc2_w 272, 3) := by decide +kernel
theorem dX11_mills_87 : decode cX11_mills 87 = .ok (.lrem, 1) := by decide +kernel
theorem dX11_mills_88 : decode cX11_mills 88 = .ok (.l2i, 1) := by decide +kernel
theorem dX11_mills_89 : decode cX11_mills 89 = .ok (.aload_n 0, 1) := by decide +kernel
theorem dX11_mills_90 : decode cX11_mills 90 = .ok (.getfield 30, 3) := by decide +kernel
theorem dX11_mills_93 : decode cX11_mills 93 = .ok (.getfield 156, 3) := by decide +kernel
theorem dX11_mills_96 : decode cX11_mills 96 = .ok (.iload 6, 2) := by decide +kernel
theorem dX11_mills_98 : decode cX11_mills 98 = .ok (.iadd, 1) := by decide +kernel
theorem dX11_mills_99 : decode cX11_mills 99 = .ok (.invokevirtual 194, 3) := by decide +kernel
theorem dX11_mills_102 : decode cX11_mills 102 = .ok (.iadd, 1) := by decide +kernel
theorem dX11_mills_103 : decode cX11_mills 103 = .ok (.istore_n 3, 1) := by decide +kernel
theorem dX11_mills_104 : decode cX11_mills 104 = .ok (.iinc 6 1, 3) := by decide +kernel
theorem dX11_mills_107 : decode cX11_mills 107 = .ok (.goto (-56), 3) := by decide +kernel
theorem dX11_mills_110 : decode cX11_mills 110 = .ok (.iload_n 3, 1) := by decide +kernel
theorem dX11_mills_111 : decode cX11_mills 111 = .ok (.ireturn, 1) := by decide +kernel
set_option maxRecDepth 100000 in
set_option maxHeartbeats 4000000 in
theorem c_X11_mills {g : Gv} {l : Launch} (p0 : Nat) (p1 : Int32) (p2 : Int32) (w0 : Wd) (rz : Int32) (wz : Wd) (hf : f_X11_mills p0 p1 p2 w0 = some (rz, wz)) : MI g l yX11_mills cX11_mills 7 .int 5 114 [rV g p0, .int p1, .int p2] w0 rz wz := by
  refine mi_of RX11 (by decide) rfl (Nat.le_of_ble_eq_true rfl) ?_
  intro X hg hll C hr h0
  subst hg; subst hll
  have t_51 : ∀ (n : Nat) (v0 : Nat) (v2 : Int32) (v3 : Int32) (v4 : Int64) (v6 : Int32) (w : Wd), f_X11_mills_51 n v0 v2 v3 v4 v6 w = some (rz, wz) → Wk X 0 0 (QI X w0 rz wz) w [(0, rV (xg X) v0), (2, .int v2), (3, .int v3), (4, .long v4), (6, .int v6)] 51 [] := by
    intro n
    induction n with
    | zero => intro v0 v2 v3 v4 v6 w hf; rw [f_X11_mills_51] at hf; cases hf
    | succ n51 ih51 =>
      intro v0 v2 v3 v4 v6 w hf
      rw [f_X11_mills_51] at hf
      refine k_iload C dX11_mills_51 4 rfl 53 rfl ?_
      refine k_iload_n C dX11_mills_53 1 rfl 54 rfl ?_
      refine k_icmp_ge C dX11_mills_54 hf 110 rfl 57 rfl (fun hf => ?_) (fun hf => ?_)
      · refine k_iload_n C dX11_mills_110 2 rfl 111 rfl ?_
        exact k_iret C hr h0 dX11_mills_111 hf
      · refine k_lload C dX11_mills_57 3 rfl 59 rfl ?_
        refine k_ldc2 C dX11_mills_59 mcst_X11_264 62 rfl ?_
        refine k_lmul C dX11_mills_62 63 rfl ?_
        refine k_ldc2 C dX11_mills_63 mcst_X11_266 66 rfl ?_
        refine k_ladd C dX11_mills_66 67 rfl ?_
        refine k_ldc2 C dX11_mills_67 mcst_X11_268 70 rfl ?_
        refine k_lrem C dX11_mills_70 (by decide) 71 rfl ?_
        refine k_nml hf (fun x21 hf => ?_)
        refine k_lstore C dX11_mills_71 (by decide) [(4, .long x21), (0, rV (xg X) v0), (2, .int v2), (3, .int v3), (6, .int v6)] rfl 73 rfl ?_
        refine k_iload_n C dX11_mills_73 3 rfl 74 rfl ?_
        refine k_aload_n C dX11_mills_74 1 rfl rfl 75 rfl ?_
        refine k_getR C fe_X11_30 rfl dX11_mills_75 hf 78 rfl (fun r22 hf => ?_)
        refine k_lload C dX11_mills_78 0 rfl 80 rfl ?_
        refine k_ldc2 C dX11_mills_80 mcst_X11_270 83 rfl ?_
        refine k_ldiv C dX11_mills_83 (by decide) 84 rfl ?_
        refine k_ldc2 C dX11_mills_84 mcst_X11_272 87 rfl ?_
        refine k_lrem C dX11_mills_87 (by decide) 88 rfl ?_
        refine k_l2i C dX11_mills_88 89 rfl ?_
        refine k_aload_n C dX11_mills_89 1 rfl rfl 90 rfl ?_
        refine k_getR C fe_X11_30 rfl dX11_mills_90 hf 93 rfl (fun r23 hf => ?_)
        refine k_getI C fe_X11_156 rfl dX11_mills_93 hf 96 rfl (fun x24 hf => ?_)
        refine k_iload C dX11_mills_96 4 rfl 98 rfl ?_
        refine k_iadd C dX11_mills_98 99 rfl ?_
        refine k_callV_i C ye_X2_groundBy ve_X11_194 ⟨rfl, rfl⟩ ⟨rfl, rfl⟩ dX11_mills_99 [.int ((lrm (x21 / (65536 : Int64)) (8 : Int64)).toInt32), .int (x24 + v6)] rfl rfl (Nat.le_of_ble_eq_true rfl) (c_X2_groundBy _ _ _ _) hf 102 rfl (fun x26 w25 hf => ?_)
        refine k_iadd C dX11_mills_102 103 rfl ?_
        refine k_nmi hf (fun x27 hf => ?_)
        refine k_istore_n C dX11_mills_103 rfl (by decide) [(3, .int x27), (4, .long x21), (0, rV (xg X) v0), (2, .int v2), (6, .int v6)] rfl 104 rfl ?_
        refine k_iinc C dX11_mills_104 4 rfl (by decide) (by decide) [(6, .int (v6 + (1 : Int32))), (3, .int x27), (4, .long x21), (0, rV (xg X) v0), (2, .int v2)] rfl 107 rfl ?_
        refine k_goto C dX11_mills_107 51 rfl ?_
        refine k_sub [3, 4, 1, 2, 0] rfl ?_
        exact ih51 _ _ _ _ _ w25 hf
  have t_21 : ∀ (v0 : Nat) (w : Wd), f_X11_mills_21 v0 w = some (rz, wz) → Wk X 0 0 (QI X w0 rz wz) w [(0, rV (xg X) v0)] 21 [] := by
    intro v0 w hf
    unfold f_X11_mills_21 at hf
    refine k_aload_n C dX11_mills_21 0 rfl rfl 22 rfl ?_
    refine k_bipush C dX11_mills_22 (-2) (by decide) 24 rfl ?_
    refine k_callV_i C ye_X11_refuse ve_X11_76 ⟨rfl, rfl⟩ ⟨rfl, rfl⟩ dX11_mills_24 [.int (-2 : Int32)] rfl rfl (Nat.le_of_ble_eq_true rfl) (c_X11_refuse _ _ _) hf 27 rfl (fun x29 w28 hf => ?_)
    exact k_iret C hr h0 dX11_mills_27 hf
  unfold f_X11_mills at hf
  refine k_sub (lv2 := [(0, rV (xg X) p0), (1, .int p1), (2, .int p2)]) [0, 1, 2] rfl ?_
  refine k_iload_n C dX11_mills_0 1 rfl 1 rfl ?_
  refine k_iconst C dX11_mills_1 (0) (by decide) 2 rfl ?_
  refine k_ldcw C dX11_mills_2 mcst_X11_263 5 rfl ?_
  refine k_callS_i C ye_X11_within se_X11_72 ⟨rfl, rfl⟩ ⟨rfl, rfl⟩ dX11_mills_5 [.int p1, .int (0 : Int32), .int (999999 : Int32)] rfl rfl (Nat.le_of_ble_eq_true rfl) (c_X11_within _ _ _ _) hf 8 rfl (fun x31 w30 hf => ?_)
  refine k_if_eq C dX11_mills_8 hf 21 rfl 11 rfl (fun hf => ?_) (fun hf => ?_)
  · refine k_sub [0] rfl ?_
    exact t_21 _ w30 hf
  · refine k_iload_n C dX11_mills_11 2 rfl 12 rfl ?_
    refine k_iconst C dX11_mills_12 (0) (by decide) 13 rfl ?_
    refine k_bipush C dX11_mills_13 (60) (by decide) 15 rfl ?_
    refine k_callS_i C ye_X11_within se_X11_72 ⟨rfl, rfl⟩ ⟨rfl, rfl⟩ dX11_mills_15 [.int p2, .int (0 : Int32), .int (60 : Int32)] rfl rfl (Nat.le_of_ble_eq_true rfl) (c_X11_within _ _ _ _) hf 18 rfl (fun x33 w32 hf => ?_)
    refine k_if_ne C dX11_mills_18 hf 28 rfl 21 rfl (fun hf => ?_) (fun hf => ?_)
    · refine k_aload_n C dX11_mills_28 0 rfl rfl 29 rfl ?_
      refine k_getR C fe_X11_30 rfl dX11_mills_29 hf 32 rfl (fun r34 hf => ?_)
      refine k_callV_i C ye_X2_allBushels ve_X11_180 ⟨rfl, rfl⟩ ⟨rfl, rfl⟩ dX11_mills_32 [] rfl rfl (Nat.le_of_ble_eq_true rfl) (c_X2_allBushels _ _) hf 35 rfl (fun x36 w35 hf => ?_)
      refine k_aload_n C dX11_mills_35 0 rfl rfl 36 rfl ?_
      refine k_getR C fe_X11_30 rfl dX11_mills_36 hf 39 rfl (fun r37 hf => ?_)
      refine k_getI C fe_X11_191 rfl dX11_mills_39 hf 42 rfl (fun x38 hf => ?_)
      refine k_iadd C dX11_mills_42 43 rfl ?_
      refine k_nmi hf (fun x39 hf => ?_)
      refine k_istore_n C dX11_mills_43 rfl (by decide) [(3, .int x39), (0, rV (xg X) p0), (1, .int p1), (2, .int p2)] rfl 44 rfl ?_
      refine k_iload_n C dX11_mills_44 2 rfl 45 rfl ?_
      refine k_i2l C dX11_mills_45 46 rfl ?_
      refine k_nml hf (fun x40 hf => ?_)
      refine k_lstore C dX11_mills_46 (by decide) [(4, .long x40), (3, .int x39), (0, rV (xg X) p0), (1, .int p1), (2, .int p2)] rfl 48 rfl ?_
      refine k_iconst C dX11_mills_48 (0) (by decide) 49 rfl ?_
      refine k_istore C dX11_mills_49 (by decide) [(6, .int (0 : Int32)), (4, .long x40), (3, .int x39), (0, rV (xg X) p0), (1, .int p1), (2, .int p2)] rfl 51 rfl ?_
      refine k_sub [3, 5, 2, 1, 0] rfl ?_
      exact t_51 4096 _ _ _ _ _ w35 hf
    · refine k_sub [0] rfl ?_
      exact t_21 _ w32 hf
theorem dX11_nextGuess_0 : decode cX11_nextGuess 0 = .ok (.aload_n 0, 1) := by decide +kernel
theorem dX11_nextGuess_1 : decode cX11_nextGuess 1 = .ok (.getfield 30, 3) := by decide +kernel
theorem dX11_nextGuess_4 : decode cX11_nextGuess 4 = .ok (.getfield 207, 3) := by decide +kernel
theorem dX11_nextGuess_7 : decode cX11_nextGuess 7 = .ok (.invokevirtual 231, 3) := by decide +kernel
theorem dX11_nextGuess_10 : decode cX11_nextGuess 10 = .ok (.ireturn, 1) := by decide +kernel
set_option maxRecDepth 100000 in
set_option maxHeartbeats 4000000 in
theorem c_X11_nextGuess {g : Gv} {l : Launch} (p0 : Nat) (w0 : Wd) (rz : Int32) (wz : Wd) (hf : f_X11_nextGuess p0 w0 = some (rz, wz)) : MI g l yX11_nextGuess cX11_nextGuess 1 .int 5 110 [rV g p0] w0 rz wz := by
  refine mi_of RX11 (by decide) rfl (Nat.le_of_ble_eq_true rfl) ?_
  intro X hg hll C hr h0
  subst hg; subst hll
  unfold f_X11_nextGuess at hf
  refine k_sub (lv2 := [(0, rV (xg X) p0)]) [0] rfl ?_
  refine k_aload_n C dX11_nextGuess_0 0 rfl rfl 1 rfl ?_
  refine k_getR C fe_X11_30 rfl dX11_nextGuess_1 hf 4 rfl (fun r5 hf => ?_)
  refine k_getR C fe_X11_207 rfl dX11_nextGuess_4 hf 7 rfl (fun r6 hf => ?_)
  refine k_callV_i C ye_X0_sharpestWord ve_X11_231 ⟨rfl, rfl⟩ ⟨rfl, rfl⟩ dX11_nextGuess_7 [] rfl rfl (Nat.le_of_ble_eq_true rfl) (c_X0_sharpestWord _ _) hf 10 rfl (fun x8 w7 hf => ?_)
  exact k_iret C hr h0 dX11_nextGuess_10 hf
theorem dX11_note_0 : decode cX11_note 0 = .ok (.aload_n 0, 1) := by decide +kernel
theorem dX11_note_1 : decode cX11_note 1 = .ok (.getfield 30, 3) := by decide +kernel
theorem dX11_note_4 : decode cX11_note 4 = .ok (.iload_n 1, 1) := by decide +kernel
theorem dX11_note_5 : decode cX11_note 5 = .ok (.invokevirtual 112, 3) := by decide +kernel
theorem dX11_note_8 : decode cX11_note 8 = .ok (.ifCond .eq 34, 3) := by decide +kernel
theorem dX11_note_11 : decode cX11_note 11 = .ok (.iload_n 2, 1) := by decide +kernel
theorem dX11_note_12 : decode cX11_note 12 = .ok (.iconst 0, 1) := by decide +kernel
theorem dX11_note_13 : decode cX11_note 13 = .ok (.bipush 99, 2) := by decide +kernel
theorem dX11_note_15 : decode cX11_note 15 = .ok (.invokestatic 72, 3) := by decide +kernel
theorem dX11_note_18 : decode cX11_note 18 = .ok (.ifCond .eq 24, 3) := by decide +kernel
theorem dX11_note_21 : decode cX11_note 21 = .ok (.iload_n 3, 1) := by decide +kernel
theorem dX11_note_22 : decode cX11_note 22 = .ok (.iconst 0, 1) := by decide +kernel
theorem dX11_note_23 : decode cX11_note 23 = .ok (.bipush 9, 2) := by decide +kernel
theorem dX11_note_25 : decode cX11_note 25 = .ok (.invokestatic 72, 3) := by decide +kernel
theorem dX11_note_28 : decode cX11_note 28 = .ok (.ifCond .eq 14, 3) := by decide +kernel
theorem dX11_note_31 : decode cX11_note 31 = .ok (.iload 4, 2) := by decide +kernel
theorem dX11_note_33 : decode cX11_note 33 = .ok (.iconst 0, 1) := by decide +kernel
theorem dX11_note_34 : decode cX11_note 34 = .ok (.bipush 20, 2) := by decide +kernel
theorem dX11_note_36 : decode cX11_note 36 = .ok (.invokestatic 72, 3) := by decide +kernel
theorem dX11_note_39 : decode cX11_note 39 = .ok (.ifCond .ne 10, 3) := by decide +kernel
theorem dX11_note_42 : decode cX11_note 42 = .ok (.aload_n 0, 1) := by decide +kernel
theorem dX11_note_43 : decode cX11_note 43 = .ok (.bipush (-2), 2) := by decide +kernel
theorem dX11_note_45 : decode cX11_note 45 = .ok (.invokevirtual 76, 3) := by decide +kernel
theorem dX11_note_48 : decode cX11_note 48 = .ok (.ireturn, 1) := by decide +kernel
theorem dX11_note_49 : decode cX11_note 49 = .ok (.aload_n 0, 1) := by decide +kernel
theorem dX11_note_50 : decode cX11_note 50 = .ok (.getfield 30, 3) := by decide +kernel
theorem dX11_note_53 : decode cX11_note 53 = .ok (.getfield 207, 3) := by decide +kernel
theorem dX11_note_56 : decode cX11_note 56 = .ok (.getfield 238, 3) := by decide +kernel
theorem dX11_note_59 : decode cX11_note 59 = .ok (.bipush 6, 2) := by decide +kernel
theorem dX11_note_61 : decode cX11_note 61 = .ok (.if_icmp .lt 10, 3) := by decide +kernel
theorem dX11_note_64 : decode cX11_note 64 = .ok (.aload_n 0, 1) := by decide +kernel
theorem dX11_note_65 : decode cX11_note 65 = .ok (.bipush (-4), 2) := by decide +kernel
theorem dX11_note_67 : decode cX11_note 67 = .ok (.invokevirtual 76, 3) := by decide +kernel
theorem dX11_note_70 : decode cX11_note 70 = .ok (.ireturn, 1) := by decide +kernel
theorem dX11_note_71 : decode cX11_note 71 = .ok (.aload_n 0, 1) := by decide +kernel
theorem dX11_note_72 : decode cX11_note 72 = .ok (.getfield 30, 3) := by decide +kernel
theorem dX11_note_75 : decode cX11_note 75 = .ok (.getfield 207, 3) := by decide +kernel
theorem dX11_note_78 : decode cX11_note 78 = .ok (.iload_n 1, 1) := by decide +kernel
theorem dX11_note_79 : decode cX11_note 79 = .ok (.iload_n 2, 1) := by decide +kernel
theorem dX11_note_80 : decode cX11_note 80 = .ok (.iload_n 3, 1) := by decide +kernel
theorem dX11_note_81 : decode cX11_note 81 = .ok (.iload 4, 2) := by decide +kernel
theorem dX11_note_83 : decode cX11_note 83 = .ok (.invokevirtual 241, 3) := by decide +kernel
theorem dX11_note_86 : decode cX11_note 86 = .ok (.aload_n 0, 1) := by decide +kernel
theorem dX11_note_87 : decode cX11_note 87 = .ok (.getfield 30, 3) := by decide +kernel
theorem dX11_note_90 : decode cX11_note 90 = .ok (.getfield 207, 3) := by decide +kernel
theorem dX11_note_93 : decode cX11_note 93 = .ok (.getfield 238, 3) := by decide +kernel
theorem dX11_note_96 : decode cX11_note 96 = .ok (.ireturn, 1) := by decide +kernel
set_option maxRecDepth 100000 in
set_option maxHeartbeats 4000000 in
theorem c_X11_note {g : Gv} {l : Launch} (p0 : Nat) (p1 : Int32) (p2 : Int32) (p3 : Int32) (p4 : Int32) (w0 : Wd) (rz : Int32) (wz : Wd) (hf : f_X11_note p0 p1 p2 p3 p4 w0 = some (rz, wz)) : MI g l yX11_note cX11_note 5 .int 2 44 [rV g p0, .int p1, .int p2, .int p3, .int p4] w0 rz wz := by
  refine mi_of RX11 (by decide) rfl (Nat.le_of_ble_eq_true rfl) ?_
  intro X hg hll C hr h0
  subst hg; subst hll
  have t_42 : ∀ (v0 : Nat) (w : Wd), f_X11_note_42 v0 w = some (rz, wz) → Wk X 0 0 (QI X w0 rz wz) w [(0, rV (xg X) v0)] 42 [] := by
    intro v0 w hf
    unfold f_X11_note_42 at hf
    refine k_aload_n C dX11_note_42 0 rfl rfl 43 rfl ?_
    refine k_bipush C dX11_note_43 (-2) (by decide) 45 rfl ?_
    refine k_callV_i C ye_X11_refuse ve_X11_76 ⟨rfl, rfl⟩ ⟨rfl, rfl⟩ dX11_note_45 [.int (-2 : Int32)] rfl rfl (Nat.le_of_ble_eq_true rfl) (c_X11_refuse _ _ _) hf 48 rfl (fun x25 w24 hf => ?_)
    exact k_iret C hr h0 dX11_note_48 hf
  unfold f_X11_note at hf
  refine k_sub (lv2 := [(0, rV (xg X) p0), (1, .int p1), (2, .int p2), (3, .int p3), (4, .int p4)]) [0, 1, 2, 3, 4] rfl ?_
  refine k_aload_n C dX11_note_0 0 rfl rfl 1 rfl ?_
  refine k_getR C fe_X11_30 rfl dX11_note_1 hf 4 rfl (fun r26 hf => ?_)
  refine k_iload_n C dX11_note_4 1 rfl 5 rfl ?_
  refine k_callV_i C ye_X2_has ve_X11_112 ⟨rfl, rfl⟩ ⟨rfl, rfl⟩ dX11_note_5 [.int p1] rfl rfl (Nat.le_of_ble_eq_true rfl) (c_X2_has _ _ _) hf 8 rfl (fun x28 w27 hf => ?_)
  refine k_if_eq C dX11_note_8 hf 42 rfl 11 rfl (fun hf => ?_) (fun hf => ?_)
  · refine k_sub [0] rfl ?_
    exact t_42 _ w27 hf
  · refine k_iload_n C dX11_note_11 2 rfl 12 rfl ?_
    refine k_iconst C dX11_note_12 (0) (by decide) 13 rfl ?_
    refine k_bipush C dX11_note_13 (99) (by decide) 15 rfl ?_
    refine k_callS_i C ye_X11_within se_X11_72 ⟨rfl, rfl⟩ ⟨rfl, rfl⟩ dX11_note_15 [.int p2, .int (0 : Int32), .int (99 : Int32)] rfl rfl (Nat.le_of_ble_eq_true rfl) (c_X11_within _ _ _ _) hf 18 rfl (fun x30 w29 hf => ?_)
    refine k_if_eq C dX11_note_18 hf 42 rfl 21 rfl (fun hf => ?_) (fun hf => ?_)
    · refine k_sub [0] rfl ?_
      exact t_42 _ w29 hf
    · refine k_iload_n C dX11_note_21 3 rfl 22 rfl ?_
      refine k_iconst C dX11_note_22 (0) (by decide) 23 rfl ?_
      refine k_bipush C dX11_note_23 (9) (by decide) 25 rfl ?_
      refine k_callS_i C ye_X11_within se_X11_72 ⟨rfl, rfl⟩ ⟨rfl, rfl⟩ dX11_note_25 [.int p3, .int (0 : Int32), .int (9 : Int32)] rfl rfl (Nat.le_of_ble_eq_true rfl) (c_X11_within _ _ _ _) hf 28 rfl (fun x32 w31 hf => ?_)
      refine k_if_eq C dX11_note_28 hf 42 rfl 31 rfl (fun hf => ?_) (fun hf => ?_)
      · refine k_sub [0] rfl ?_
        exact t_42 _ w31 hf
      · refine k_iload C dX11_note_31 4 rfl 33 rfl ?_
        refine k_iconst C dX11_note_33 (0) (by decide) 34 rfl ?_
        refine k_bipush C dX11_note_34 (20) (by decide) 36 rfl ?_
        refine k_callS_i C ye_X11_within se_X11_72 ⟨rfl, rfl⟩ ⟨rfl, rfl⟩ dX11_note_36 [.int p4, .int (0 : Int32), .int (20 : Int32)] rfl rfl (Nat.le_of_ble_eq_true rfl) (c_X11_within _ _ _ _) hf 39 rfl (fun x34 w33 hf => ?_)
        refine k_if_ne C dX11_note_39 hf 49 rfl 42 rfl (fun hf => ?_) (fun hf => ?_)
        · refine k_aload_n C dX11_note_49 0 rfl rfl 50 rfl ?_
          refine k_getR C fe_X11_30 rfl dX11_note_50 hf 53 rfl (fun r35 hf => ?_)
          refine k_getR C fe_X11_207 rfl dX11_note_53 hf 56 rfl (fun r36 hf => ?_)
          refine k_getI C fe_X11_238 rfl dX11_note_56 hf 59 rfl (fun x37 hf => ?_)
          refine k_bipush C dX11_note_59 (6) (by decide) 61 rfl ?_
          refine k_icmp_lt C dX11_note_61 hf 71 rfl 64 rfl (fun hf => ?_) (fun hf => ?_)
          · refine k_aload_n C dX11_note_71 0 rfl rfl 72 rfl ?_
            refine k_getR C fe_X11_30 rfl dX11_note_72 hf 75 rfl (fun r38 hf => ?_)
            refine k_getR C fe_X11_207 rfl dX11_note_75 hf 78 rfl (fun r39 hf => ?_)
            refine k_iload_n C dX11_note_78 1 rfl 79 rfl ?_
            refine k_iload_n C dX11_note_79 2 rfl 80 rfl ?_
            refine k_iload_n C dX11_note_80 3 rfl 81 rfl ?_
            refine k_iload C dX11_note_81 4 rfl 83 rfl ?_
            refine k_callV_v C ye_X0_addNote ve_X11_241 ⟨rfl, rfl⟩ ⟨rfl, rfl⟩ dX11_note_83 [.int p1, .int p2, .int p3, .int p4] rfl rfl (Nat.le_of_ble_eq_true rfl) (c_X0_addNote _ _ _ _ _ _) hf 86 rfl (fun w40 hf => ?_)
            refine k_aload_n C dX11_note_86 0 rfl rfl 87 rfl ?_
            refine k_getR C fe_X11_30 rfl dX11_note_87 hf 90 rfl (fun r42 hf => ?_)
            refine k_getR C fe_X11_207 rfl dX11_note_90 hf 93 rfl (fun r43 hf => ?_)
            refine k_getI C fe_X11_238 rfl dX11_note_93 hf 96 rfl (fun x44 hf => ?_)
            exact k_iret C hr h0 dX11_note_96 hf
          · refine k_aload_n C dX11_note_64 0 rfl rfl 65 rfl ?_
            refine k_bipush C dX11_note_65 (-4) (by decide) 67 rfl ?_
            refine k_callV_i C ye_X11_refuse ve_X11_76 ⟨rfl, rfl⟩ ⟨rfl, rfl⟩ dX11_note_67 [.int (-4 : Int32)] rfl rfl (Nat.le_of_ble_eq_true rfl) (c_X11_refuse _ _ _) hf 70 rfl (fun x46 w45 hf => ?_)
            exact k_iret C hr h0 dX11_note_70 hf
        · refine k_sub [0] rfl ?_
          exact t_42 _ w33 hf
theorem dX11_of_0 : decode cX11_of 0 = .ok (.aload_n 0, 1) := by decide +kernel
theorem dX11_of_1 : decode cX11_of 1 = .ok (.getfield 30, 3) := by decide +kernel
theorem dX11_of_4 : decode cX11_of 4 = .ok (.iload_n 1, 1) := by decide +kernel
theorem dX11_of_5 : decode cX11_of 5 = .ok (.invokevirtual 112, 3) := by decide +kernel
theorem dX11_of_8 : decode cX11_of 8 = .ok (.ifCond .eq 13, 3) := by decide +kernel
theorem dX11_of_11 : decode cX11_of 11 = .ok (.iload_n 2, 1) := by decide +kernel
theorem dX11_of_12 : decode cX11_of 12 = .ok (.iconst 0, 1) := by decide +kernel
theorem dX11_of_13 : decode cX11_of 13 = .ok (.bipush 6, 2) := by decide +kernel
theorem dX11_of_15 : decode cX11_of 15 = .ok (.invokestatic 72, 3) := by decide +kernel
theorem dX11_of_18 : decode cX11_of 18 = .ok (.ifCond .ne 10, 3) := by decide +kernel
theorem dX11_of_21 : decode cX11_of 21 = .ok (.aload_n 0, 1) := by decide +kernel
theorem dX11_of_22 : decode cX11_of 22 = .ok (.bipush (-2), 2) := by decide +kernel
theorem dX11_of_24 : decode cX11_of 24 = .ok (.invokevirtual 76, 3) := by decide +kernel
theorem dX11_of_27 : decode cX11_of 27 = .ok (.ireturn, 1) := by decide +kernel
theorem dX11_of_28 : decode cX11_of 28 = .ok (.aload_n 0, 1) := by decide +kernel
theorem dX11_of_29 : decode cX11_of 29 = .ok (.getfield 30, 3) := by decide +kernel
theorem dX11_of_32 : decode cX11_of 32 = .ok (.getfield 132, 3) := by decide +kernel
theorem dX11_of_35 : decode cX11_of 35 = .ok (.iload_n 1, 1) := by decide +kernel
theorem dX11_of_36 : decode cX11_of 36 = .ok (.aaload, 1) := by decide +kernel
theorem dX11_of_37 : decode cX11_of 37 = .ok (.astore_n 3, 1) := by decide +kernel
theorem dX11_of_38 : decode cX11_of 38 = .ok (.iload_n 2, 1) := by decide +kernel
theorem dX11_of_39 : decode cX11_of 39 = .ok (.tableswitch 81 0 5 #[37, 42, 47, 52, 57, 62], 37) := by decide +kernel
theorem dX11_of_76 : decode cX11_of 76 = .ok (.aload_n 3, 1) := by decide +kernel
theorem dX11_of_77 : decode cX11_of 77 = .ok (.getfield 159, 3) := by decide +kernel
theorem dX11_of_80 : decode cX11_of 80 = .ok (.ireturn, 1) := by decide +kernel
theorem dX11_of_81 : decode cX11_of 81 = .ok (.aload_n 3, 1) := by decide +kernel
theorem dX11_of_82 : decode cX11_of 82 = .ok (.getfield 162, 3) := by decide +kernel
theorem dX11_of_85 : decode cX11_of 85 = .ok (.ireturn, 1) := by decide +kernel
theorem dX11_of_86 : decode cX11_of 86 = .ok (.aload_n 3, 1) := by decide +kernel
theorem dX11_of_87 : decode cX11_of 87 = .ok (.getfield 165, 3) := by decide +kernel
theorem dX11_of_90 : decode cX11_of 90 = .ok (.ireturn, 1) := by decide +kernel
theorem dX11_of_91 : decode cX11_of 91 = .ok (.aload_n 3, 1) := by decide +kernel
theorem dX11_of_92 : decode cX11_of 92 = .ok (.getfield 136, 3) := by decide +kernel
theorem dX11_of_95 : decode cX11_of 95 = .ok (.ireturn, 1) := by decide +kernel
theorem dX11_of_96 : decode cX11_of 96 = .ok (.aload_n 3, 1) := by decide +kernel
theorem dX11_of_97 : decode cX11_of 97 = .ok (.getfield 168, 3) := by decide +kernel
theorem dX11_of_100 : decode cX11_of 100 = .ok (.ireturn, 1) := by decide +kernel
theorem dX11_of_101 : decode cX11_of 101 = .ok (.aload_n 3, 1) := by decide +kernel
theorem dX11_of_102 : decode cX11_of 102 = .ok (.aload_n 0, 1) := by decide +kernel
theorem dX11_of_103 : decode cX11_of 103 = .ok (.getfield 30, 3) := by decide +kernel
theorem dX11_of_106 : decode cX11_of 106 = .ok (.getfield 156, 3) := by decide +kernel
theorem dX11_of_109 : decode cX11_of 109 = .ok (.aload_n 0, 1) := by decide +kernel
theorem dX11_of_110 : decode cX11_of 110 = .ok (.getfield 30, 3) := by decide +kernel
theorem dX11_of_113 : decode cX11_of 113 = .ok (.getfield 147, 3) := by decide +kernel
theorem dX11_of_116 : decode cX11_of 116 = .ok (.invokevirtual 171, 3) := by decide +kernel
theorem dX11_of_119 : decode cX11_of 119 = .ok (.ireturn, 1) := by decide +kernel
theorem dX11_of_120 : decode cX11_of 120 = .ok (.aload_n 3, 1) := by decide +kernel
theorem dX11_of_121 : decode cX11_of 121 = .ok (.aload_n 3, 1) := by decide +kernel
theorem dX11_of_122 : decode cX11_of 122 = .ok (.getfield 168, 3) := by decide +kernel
theorem dX11_of_125 : decode cX11_of 125 = .ok (.invokevirtual 174, 3) := by decide +kernel
theorem dX11_of_128 : decode cX11_of 128 = .ok (.ireturn, 1) := by decide +kernel
set_option maxRecDepth 100000 in
set_option maxHeartbeats 4000000 in
theorem c_X11_of {g : Gv} {l : Launch} (p0 : Nat) (p1 : Int32) (p2 : Int32) (w0 : Wd) (rz : Int32) (wz : Wd) (hf : f_X11_of p0 p1 p2 w0 = some (rz, wz)) : MI g l yX11_of cX11_of 4 .int 4 92 [rV g p0, .int p1, .int p2] w0 rz wz := by
  refine mi_of RX11 (by decide) rfl (Nat.le_of_ble_eq_true rfl) ?_
  intro X hg hll C hr h0
  subst hg; subst hll
  have t_21 : ∀ (v0 : Nat) (w : Wd), f_X11_of_21 v0 w = some (rz, wz) → Wk X 0 0 (QI X w0 rz wz) w [(0, rV (xg X) v0)] 21 [] := by
    intro v0 w hf
    unfold f_X11_of_21 at hf
    refine k_aload_n C dX11_of_21 0 rfl rfl 22 rfl ?_
    refine k_bipush C dX11_of_22 (-2) (by decide) 24 rfl ?_
    refine k_callV_i C ye_X11_refuse ve_X11_76 ⟨rfl, rfl⟩ ⟨rfl, rfl⟩ dX11_of_24 [.int (-2 : Int32)] rfl rfl (Nat.le_of_ble_eq_true rfl) (c_X11_refuse _ _ _) hf 27 rfl (fun x26 w25 hf => ?_)
    exact k_iret C hr h0 dX11_of_27 hf
  unfold f_X11_of at hf
  refine k_sub (lv2 := [(0, rV (xg X) p0), (1, .int p1), (2, .int p2)]) [0, 1, 2] rfl ?_
  refine k_aload_n C dX11_of_0 0 rfl rfl 1 rfl ?_
  refine k_getR C fe_X11_30 rfl dX11_of_1 hf 4 rfl (fun r27 hf => ?_)
  refine k_iload_n C dX11_of_4 1 rfl 5 rfl ?_
  refine k_callV_i C ye_X2_has ve_X11_112 ⟨rfl, rfl⟩ ⟨rfl, rfl⟩ dX11_of_5 [.int p1] rfl rfl (Nat.le_of_ble_eq_true rfl) (c_X2_has _ _ _) hf 8 rfl (fun x29 w28 hf => ?_)
  refine k_if_eq C dX11_of_8 hf 21 rfl 11 rfl (fun hf => ?_) (fun hf => ?_)
  · refine k_sub [0] rfl ?_
    exact t_21 _ w28 hf
  · refine k_iload_n C dX11_of_11 2 rfl 12 rfl ?_
    refine k_iconst C dX11_of_12 (0) (by decide) 13 rfl ?_
    refine k_bipush C dX11_of_13 (6) (by decide) 15 rfl ?_
    refine k_callS_i C ye_X11_within se_X11_72 ⟨rfl, rfl⟩ ⟨rfl, rfl⟩ dX11_of_15 [.int p2, .int (0 : Int32), .int (6 : Int32)] rfl rfl (Nat.le_of_ble_eq_true rfl) (c_X11_within _ _ _ _) hf 18 rfl (fun x31 w30 hf => ?_)
    refine k_if_ne C dX11_of_18 hf 28 rfl 21 rfl (fun hf => ?_) (fun hf => ?_)
    · refine k_aload_n C dX11_of_28 0 rfl rfl 29 rfl ?_
      refine k_getR C fe_X11_30 rfl dX11_of_29 hf 32 rfl (fun r32 hf => ?_)
      refine k_getR C fe_X11_132 rfl dX11_of_32 hf 35 rfl (fun r33 hf => ?_)
      refine k_iload_n C dX11_of_35 1 rfl 36 rfl ?_
      refine k_aald16 C dX11_of_36 hf 37 rfl (fun r34 hf => ?_)
      refine k_astore_n C dX11_of_37 rfl rfl (by decide) [(3, rV (xg X) r34), (0, rV (xg X) p0), (1, .int p1), (2, .int p2)] rfl 38 rfl ?_
      refine k_iload_n C dX11_of_38 3 rfl 39 rfl ?_
      refine k_split hf (fun he hf => ?_) (fun hn0 hf => ?_)
      · refine k_tswIn (off := 37) C dX11_of_39 (0) he (by decide) 76 rfl ?_
        refine k_aload_n C dX11_of_76 0 rfl rfl 77 rfl ?_
        refine k_getI C fe_X11_159 rfl dX11_of_77 hf 80 rfl (fun x35 hf => ?_)
        exact k_iret C hr h0 dX11_of_80 hf
      · skip
        refine k_split hf (fun he hf => ?_) (fun hn1 hf => ?_)
        · refine k_tswIn (off := 42) C dX11_of_39 (1) he (by decide) 81 rfl ?_
          refine k_aload_n C dX11_of_81 0 rfl rfl 82 rfl ?_
          refine k_getI C fe_X11_162 rfl dX11_of_82 hf 85 rfl (fun x36 hf => ?_)
          exact k_iret C hr h0 dX11_of_85 hf
        · skip
          refine k_split hf (fun he hf => ?_) (fun hn2 hf => ?_)
          · refine k_tswIn (off := 47) C dX11_of_39 (2) he (by decide) 86 rfl ?_
            refine k_aload_n C dX11_of_86 0 rfl rfl 87 rfl ?_
            refine k_getI C fe_X11_165 rfl dX11_of_87 hf 90 rfl (fun x37 hf => ?_)
            exact k_iret C hr h0 dX11_of_90 hf
          · skip
            refine k_split hf (fun he hf => ?_) (fun hn3 hf => ?_)
            · refine k_tswIn (off := 52) C dX11_of_39 (3) he (by decide) 91 rfl ?_
              refine k_aload_n C dX11_of_91 0 rfl rfl 92 rfl ?_
              refine k_getI C fe_X11_136 rfl dX11_of_92 hf 95 rfl (fun x38 hf => ?_)
              exact k_iret C hr h0 dX11_of_95 hf
            · skip
              refine k_split hf (fun he hf => ?_) (fun hn4 hf => ?_)
              · refine k_tswIn (off := 57) C dX11_of_39 (4) he (by decide) 96 rfl ?_
                refine k_aload_n C dX11_of_96 0 rfl rfl 97 rfl ?_
                refine k_getI C fe_X11_168 rfl dX11_of_97 hf 100 rfl (fun x39 hf => ?_)
                exact k_iret C hr h0 dX11_of_100 hf
              · skip
                refine k_split hf (fun he hf => ?_) (fun hn5 hf => ?_)
                · refine k_tswIn (off := 62) C dX11_of_39 (5) he (by decide) 101 rfl ?_
                  refine k_aload_n C dX11_of_101 0 rfl rfl 102 rfl ?_
                  refine k_aload_n C dX11_of_102 1 rfl rfl 103 rfl ?_
                  refine k_getR C fe_X11_30 rfl dX11_of_103 hf 106 rfl (fun r40 hf => ?_)
                  refine k_getI C fe_X11_156 rfl dX11_of_106 hf 109 rfl (fun x41 hf => ?_)
                  refine k_aload_n C dX11_of_109 1 rfl rfl 110 rfl ?_
                  refine k_getR C fe_X11_30 rfl dX11_of_110 hf 113 rfl (fun r42 hf => ?_)
                  refine k_getI C fe_X11_147 rfl dX11_of_113 hf 116 rfl (fun x43 hf => ?_)
                  refine k_callV_i C ye_X1_groundIn ve_X11_171 ⟨rfl, rfl⟩ ⟨rfl, rfl⟩ dX11_of_116 [.int x41, .int x43] rfl rfl (Nat.le_of_ble_eq_true rfl) (c_X1_groundIn _ _ _ _) hf 119 rfl (fun x45 w44 hf => ?_)
                  exact k_iret C hr h0 dX11_of_119 hf
                · skip
                  refine k_tswOut C dX11_of_39 (tsw_out [(0 : Int32), (1 : Int32), (2 : Int32), (3 : Int32), (4 : Int32), (5 : Int32)] (List.forall_mem_cons.mpr ⟨hn0, (List.forall_mem_cons.mpr ⟨hn1, (List.forall_mem_cons.mpr ⟨hn2, (List.forall_mem_cons.mpr ⟨hn3, (List.forall_mem_cons.mpr ⟨hn4, (List.forall_mem_cons.mpr ⟨hn5, (fun _ h => absurd h List.not_mem_nil)⟩)⟩)⟩)⟩)⟩)⟩) (by decide)) 120 rfl ?_
                  refine k_aload_n C dX11_of_120 0 rfl rfl 121 rfl ?_
                  refine k_aload_n C dX11_of_121 0 rfl rfl 122 rfl ?_
                  refine k_getI C fe_X11_168 rfl dX11_of_122 hf 125 rfl (fun x46 hf => ?_)
                  refine k_callV_i C ye_X1_fetchesWhen ve_X11_174 ⟨rfl, rfl⟩ ⟨rfl, rfl⟩ dX11_of_125 [.int x46] rfl rfl (Nat.le_of_ble_eq_true rfl) (c_X1_fetchesWhen _ _ _) hf 128 rfl (fun x48 w47 hf => ?_)
                  exact k_iret C hr h0 dX11_of_128 hf
    · refine k_sub [0] rfl ?_
      exact t_21 _ w30 hf
theorem dX11_part_0 : decode cX11_part 0 = .ok (.iload_n 1, 1) := by decide +kernel
theorem dX11_part_1 : decode cX11_part 1 = .ok (.iconst 0, 1) := by decide +kernel
theorem dX11_part_2 : decode cX11_part 2 = .ok (.iconst 1, 1) := by decide +kernel
theorem dX11_part_3 : decode cX11_part 3 = .ok (.invokestatic 72, 3) := by decide +kernel
theorem dX11_part_6 : decode cX11_part 6 = .ok (.ifCond .ne 11, 3) := by decide +kernel
theorem dX11_part_9 : decode cX11_part 9 = .ok (.aload_n 0, 1) := by decide +kernel
theorem dX11_part_10 : decode cX11_part 10 = .ok (.bipush (-2), 2) := by decide +kernel
theorem dX11_part_12 : decode cX11_part 12 = .ok (.invokevirtual 76, 3) := by decide +kernel
theorem dX11_part_15 : decode cX11_part 15 = .ok (.i2l, 1) := by decide +kernel
theorem dX11_part_16 : decode cX11_part 16 = .ok (.lreturn, 1) := by decide +kernel
theorem dX11_part_17 : decode cX11_part 17 = .ok (.iload_n 1, 1) := by decide +kernel
theorem dX11_part_18 : decode cX11_part 18 = .ok (.ifCond .ne 10, 3) := by decide +kernel
theorem dX11_part_21 : decode cX11_part 21 = .ok (.aload_n 0, 1) := by decide +kernel
theorem dX11_part_22 : decode cX11_part 22 = .ok (.getfield 65, 3) := by decide +kernel
theorem dX11_part_25 : decode cX11_part 25 = .ok (.goto 7, 3) := by decide +kernel
theorem dX11_part_28 : decode cX11_part 28 = .ok (.aload_n 0, 1) := by decide +kernel
theorem dX11_part_29 : decode cX11_part 29 = .ok (.getfield 69, 3) := by decide +kernel
theorem dX11_part_32 : decode cX11_part 32 = .ok (.lreturn, 1) := by decide +kernel
set_option maxRecDepth 100000 in
set_option maxHeartbeats 4000000 in
theorem c_X11_part {g : Gv} {l : Launch} (p0 : Nat) (p1 : Int32) (w0 : Wd) (rz : Int64) (wz : Wd) (hf : f_X11_part p0 p1 w0 = some (rz, wz)) : ML g l yX11_part cX11_part 2 2 44 [rV g p0, .int p1] w0 rz wz := by
  refine ml_of RX11 (by decide) rfl (Nat.le_of_ble_eq_true rfl) ?_
  intro X hg hll C hr h0
  subst hg; subst hll
  have t_32 : ∀ (s0 : Int64) (w : Wd), f_X11_part_32 s0 w = some (rz, wz) → Wk X 0 0 (QL X w0 rz wz) w [] 32 [.long s0] := by
    intro s0 w hf
    unfold f_X11_part_32 at hf
    exact k_lret C hr h0 dX11_part_32 hf
  unfold f_X11_part at hf
  refine k_sub (lv2 := [(0, rV (xg X) p0), (1, .int p1)]) [0, 1] rfl ?_
  refine k_iload_n C dX11_part_0 1 rfl 1 rfl ?_
  refine k_iconst C dX11_part_1 (0) (by decide) 2 rfl ?_
  refine k_iconst C dX11_part_2 (1) (by decide) 3 rfl ?_
  refine k_callS_i C ye_X11_within se_X11_72 ⟨rfl, rfl⟩ ⟨rfl, rfl⟩ dX11_part_3 [.int p1, .int (0 : Int32), .int (1 : Int32)] rfl rfl (Nat.le_of_ble_eq_true rfl) (c_X11_within _ _ _ _) hf 6 rfl (fun x8 w7 hf => ?_)
  refine k_if_ne C dX11_part_6 hf 17 rfl 9 rfl (fun hf => ?_) (fun hf => ?_)
  · refine k_iload_n C dX11_part_17 1 rfl 18 rfl ?_
    refine k_if_ne C dX11_part_18 hf 28 rfl 21 rfl (fun hf => ?_) (fun hf => ?_)
    · refine k_aload_n C dX11_part_28 0 rfl rfl 29 rfl ?_
      refine k_getL C fe_X11_69 rfl dX11_part_29 hf 32 rfl (fun x9 hf => ?_)
      refine k_sub [] rfl ?_
      exact t_32 _ w7 hf
    · refine k_aload_n C dX11_part_21 0 rfl rfl 22 rfl ?_
      refine k_getL C fe_X11_65 rfl dX11_part_22 hf 25 rfl (fun x10 hf => ?_)
      refine k_goto C dX11_part_25 32 rfl ?_
      refine k_sub [] rfl ?_
      exact t_32 _ w7 hf
  · refine k_aload_n C dX11_part_9 0 rfl rfl 10 rfl ?_
    refine k_bipush C dX11_part_10 (-2) (by decide) 12 rfl ?_
    refine k_callV_i C ye_X11_refuse ve_X11_76 ⟨rfl, rfl⟩ ⟨rfl, rfl⟩ dX11_part_12 [.int (-2 : Int32)] rfl rfl (Nat.le_of_ble_eq_true rfl) (c_X11_refuse _ _ _) hf 15 rfl (fun x12 w11 hf => ?_)
    refine k_i2l C dX11_part_15 16 rfl ?_
    exact k_lret C hr h0 dX11_part_16 hf
theorem dX11_say_0 : decode cX11_say 0 = .ok (.iload_n 1, 1) := by decide +kernel
theorem dX11_say_1 : decode cX11_say 1 = .ok (.invokestatic 92, 3) := by decide +kernel
theorem dX11_say_4 : decode cX11_say 4 = .ok (.ifCond .ne 10, 3) := by decide +kernel
theorem dX11_say_7 : decode cX11_say 7 = .ok (.aload_n 0, 1) := by decide +kernel
theorem dX11_say_8 : decode cX11_say 8 = .ok (.bipush (-2), 2) := by decide +kernel
theorem dX11_say_10 : decode cX11_say 10 = .ok (.invokevirtual 76, 3) := by decide +kernel
theorem dX11_say_13 : decode cX11_say 13 = .ok (.ireturn, 1) := by decide +kernel
theorem dX11_say_14 : decode cX11_say 14 = .ok (.aload_n 0, 1) := by decide +kernel
theorem dX11_say_15 : decode cX11_say 15 = .ok (.getfield 30, 3) := by decide +kernel
theorem dX11_say_18 : decode cX11_say 18 = .ok (.invokevirtual 119, 3) := by decide +kernel
theorem dX11_say_21 : decode cX11_say 21 = .ok (.iload_n 1, 1) := by decide +kernel
theorem dX11_say_22 : decode cX11_say 22 = .ok (.aload_n 0, 1) := by decide +kernel
theorem dX11_say_23 : decode cX11_say 23 = .ok (.getfield 30, 3) := by decide +kernel
theorem dX11_say_26 : decode cX11_say 26 = .ok (.getfield 96, 3) := by decide +kernel
theorem dX11_say_29 : decode cX11_say 29 = .ok (.invokestatic 128, 3) := by decide +kernel
theorem dX11_say_32 : decode cX11_say 32 = .ok (.istore_n 2, 1) := by decide +kernel
theorem dX11_say_33 : decode cX11_say 33 = .ok (.iload_n 2, 1) := by decide +kernel
theorem dX11_say_34 : decode cX11_say 34 = .ok (.iconst 5, 1) := by decide +kernel
theorem dX11_say_35 : decode cX11_say 35 = .ok (.if_icmp .ne 11, 3) := by decide +kernel
theorem dX11_say_38 : decode cX11_say 38 = .ok (.aload_n 0, 1) := by decide +kernel
theorem dX11_say_39 : decode cX11_say 39 = .ok (.getfield 30, 3) := by decide +kernel
theorem dX11_say_42 : decode cX11_say 42 = .ok (.iconst (-1), 1) := by decide +kernel
theorem dX11_say_43 : decode cX11_say 43 = .ok (.putfield 122, 3) := by decide +kernel
theorem dX11_say_46 : decode cX11_say 46 = .ok (.iload_n 2, 1) := by decide +kernel
theorem dX11_say_47 : decode cX11_say 47 = .ok (.ireturn, 1) := by decide +kernel
set_option maxRecDepth 100000 in
set_option maxHeartbeats 4000000 in
theorem c_X11_say {g : Gv} {l : Launch} (p0 : Nat) (p1 : Int32) (w0 : Wd) (rz : Int32) (wz : Wd) (hf : f_X11_say p0 p1 w0 = some (rz, wz)) : MI g l yX11_say cX11_say 3 .int 2 70 [rV g p0, .int p1] w0 rz wz := by
  refine mi_of RX11 (by decide) rfl (Nat.le_of_ble_eq_true rfl) ?_
  intro X hg hll C hr h0
  subst hg; subst hll
  have t_46 : ∀ (v2 : Int32) (w : Wd), f_X11_say_46 v2 w = some (rz, wz) → Wk X 0 0 (QI X w0 rz wz) w [(2, .int v2)] 46 [] := by
    intro v2 w hf
    unfold f_X11_say_46 at hf
    refine k_iload_n C dX11_say_46 0 rfl 47 rfl ?_
    exact k_iret C hr h0 dX11_say_47 hf
  unfold f_X11_say at hf
  refine k_sub (lv2 := [(0, rV (xg X) p0), (1, .int p1)]) [0, 1] rfl ?_
  refine k_iload_n C dX11_say_0 1 rfl 1 rfl ?_
  refine k_callS_i C ye_X11_isWord se_X11_92 ⟨rfl, rfl⟩ ⟨rfl, rfl⟩ dX11_say_1 [.int p1] rfl rfl (Nat.le_of_ble_eq_true rfl) (c_X11_isWord _ _) hf 4 rfl (fun x15 w14 hf => ?_)
  refine k_if_ne C dX11_say_4 hf 14 rfl 7 rfl (fun hf => ?_) (fun hf => ?_)
  · refine k_aload_n C dX11_say_14 0 rfl rfl 15 rfl ?_
    refine k_getR C fe_X11_30 rfl dX11_say_15 hf 18 rfl (fun r16 hf => ?_)
    refine k_callV_v C ye_X2_remember ve_X11_119 ⟨rfl, rfl⟩ ⟨rfl, rfl⟩ dX11_say_18 [] rfl rfl (Nat.le_of_ble_eq_true rfl) (c_X2_remember _ _) hf 21 rfl (fun w17 hf => ?_)
    refine k_iload_n C dX11_say_21 1 rfl 22 rfl ?_
    refine k_aload_n C dX11_say_22 0 rfl rfl 23 rfl ?_
    refine k_getR C fe_X11_30 rfl dX11_say_23 hf 26 rfl (fun r19 hf => ?_)
    refine k_getI C fe_X11_96 rfl dX11_say_26 hf 29 rfl (fun x20 hf => ?_)
    refine k_callS_i C ye_X11_likeLetters se_X11_128 ⟨rfl, rfl⟩ ⟨rfl, rfl⟩ dX11_say_29 [.int p1, .int x20] rfl rfl (Nat.le_of_ble_eq_true rfl) (c_X11_likeLetters _ _ _) hf 32 rfl (fun x22 w21 hf => ?_)
    refine k_istore_n C dX11_say_32 rfl (by decide) [(2, .int x22), (0, rV (xg X) p0), (1, .int p1)] rfl 33 rfl ?_
    refine k_iload_n C dX11_say_33 0 rfl 34 rfl ?_
    refine k_iconst C dX11_say_34 (5) (by decide) 35 rfl ?_
    refine k_icmp_ne C dX11_say_35 hf 46 rfl 38 rfl (fun hf => ?_) (fun hf => ?_)
    · refine k_sub [0] rfl ?_
      exact t_46 _ w21 hf
    · refine k_aload_n C dX11_say_38 1 rfl rfl 39 rfl ?_
      refine k_getR C fe_X11_30 rfl dX11_say_39 hf 42 rfl (fun r23 hf => ?_)
      refine k_iconst C dX11_say_42 (-1) (by decide) 43 rfl ?_
      refine k_putI C fe_X11_122 rfl rfl dX11_say_43 hf 46 rfl (fun w24 _ hf => ?_)
      refine k_sub [0] rfl ?_
      exact t_46 _ w24 hf
  · refine k_aload_n C dX11_say_7 0 rfl rfl 8 rfl ?_
    refine k_bipush C dX11_say_8 (-2) (by decide) 10 rfl ?_
    refine k_callV_i C ye_X11_refuse ve_X11_76 ⟨rfl, rfl⟩ ⟨rfl, rfl⟩ dX11_say_10 [.int (-2 : Int32)] rfl rfl (Nat.le_of_ble_eq_true rfl) (c_X11_refuse _ _ _) hf 13 rfl (fun x26 w25 hf => ?_)
    exact k_iret C hr h0 dX11_say_13 hf
theorem dX11_sell_0 : decode cX11_sell 0 = .ok (.aload_n 0, 1) := by decide +kernel
theorem dX11_sell_1 : decode cX11_sell 1 = .ok (.getfield 30, 3) := by decide +kernel
theorem dX11_sell_4 : decode cX11_sell 4 = .ok (.iload_n 1, 1) := by decide +kernel
theorem dX11_sell_5 : decode cX11_sell 5 = .ok (.invokevirtual 112, 3) := by decide +kernel
theorem dX11_sell_8 : decode cX11_sell 8 = .ok (.ifCond .eq 14, 3) := by decide +kernel
theorem dX11_sell_11 : decode cX11_sell 11 = .ok (.iload_n 2, 1) := by decide +kernel
theorem dX11_sell_12 : decode cX11_sell 12 = .ok (.iconst 1, 1) := by decide +kernel
theorem dX11_sell_13 : decode cX11_sell 13 = .ok (.sipush 200, 3) := by decide +kernel
theorem dX11_sell_16 : decode cX11_sell 16 = .ok (.invokestatic 72, 3) := by decide +kernel
theorem dX11_sell_19 : decode cX11_sell 19 = .ok (.ifCond .ne 10, 3) := by decide +kernel
theorem dX11_sell_22 : decode cX11_sell 22 = .ok (.aload_n 0, 1) := by decide +kernel
theorem dX11_sell_23 : decode cX11_sell 23 = .ok (.bipush (-2), 2) := by decide +kernel
theorem dX11_sell_25 : decode cX11_sell 25 = .ok (.invokevirtual 76, 3) := by decide +kernel
theorem dX11_sell_28 : decode cX11_sell 28 = .ok (.ireturn, 1) := by decide +kernel
theorem dX11_sell_29 : decode cX11_sell 29 = .ok (.aload_n 0, 1) := by decide +kernel
theorem dX11_sell_30 : decode cX11_sell 30 = .ok (.getfield 30, 3) := by decide +kernel
theorem dX11_sell_33 : decode cX11_sell 33 = .ok (.getfield 132, 3) := by decide +kernel
theorem dX11_sell_36 : decode cX11_sell 36 = .ok (.iload_n 1, 1) := by decide +kernel
theorem dX11_sell_37 : decode cX11_sell 37 = .ok (.aaload, 1) := by decide +kernel
theorem dX11_sell_38 : decode cX11_sell 38 = .ok (.getfield 136, 3) := by decide +kernel
theorem dX11_sell_41 : decode cX11_sell 41 = .ok (.iload_n 2, 1) := by decide +kernel
theorem dX11_sell_42 : decode cX11_sell 42 = .ok (.if_icmp .ge 10, 3) := by decide +kernel
theorem dX11_sell_45 : decode cX11_sell 45 = .ok (.aload_n 0, 1) := by decide +kernel
theorem dX11_sell_46 : decode cX11_sell 46 = .ok (.bipush (-3), 2) := by decide +kernel
theorem dX11_sell_48 : decode cX11_sell 48 = .ok (.invokevirtual 76, 3) := by decide +kernel
theorem dX11_sell_51 : decode cX11_sell 51 = .ok (.ireturn, 1) := by decide +kernel
theorem dX11_sell_52 : decode cX11_sell 52 = .ok (.aload_n 0, 1) := by decide +kernel
theorem dX11_sell_53 : decode cX11_sell 53 = .ok (.getfield 30, 3) := by decide +kernel
theorem dX11_sell_56 : decode cX11_sell 56 = .ok (.invokevirtual 119, 3) := by decide +kernel
theorem dX11_sell_59 : decode cX11_sell 59 = .ok (.aload_n 0, 1) := by decide +kernel
theorem dX11_sell_60 : decode cX11_sell 60 = .ok (.getfield 30, 3) := by decide +kernel
theorem dX11_sell_63 : decode cX11_sell 63 = .ok (.getfield 132, 3) := by decide +kernel
theorem dX11_sell_66 : decode cX11_sell 66 = .ok (.iload_n 1, 1) := by decide +kernel
theorem dX11_sell_67 : decode cX11_sell 67 = .ok (.aaload, 1) := by decide +kernel
theorem dX11_sell_68 : decode cX11_sell 68 = .ok (.iload_n 2, 1) := by decide +kernel
theorem dX11_sell_69 : decode cX11_sell 69 = .ok (.invokevirtual 141, 3) := by decide +kernel
theorem dX11_sell_72 : decode cX11_sell 72 = .ok (.istore_n 3, 1) := by decide +kernel
theorem dX11_sell_73 : decode cX11_sell 73 = .ok (.aload_n 0, 1) := by decide +kernel
theorem dX11_sell_74 : decode cX11_sell 74 = .ok (.getfield 30, 3) := by decide +kernel
theorem dX11_sell_77 : decode cX11_sell 77 = .ok (.dup, 1) := by decide +kernel
theorem dX11_sell_78 : decode cX11_sell 78 = .ok (.getfield 144, 3) := by decide +kernel
theorem dX11_sell_81 : decode cX11_sell 81 = .ok (.iload_n 3, 1) := by decide +kernel
theorem dX11_sell_82 : decode cX11_sell 82 = .ok (.iadd, 1) := by decide +kernel
theorem dX11_sell_83 : decode cX11_sell 83 = .ok (.putfield 144, 3) := by decide +kernel
theorem dX11_sell_86 : decode cX11_sell 86 = .ok (.iload_n 3, 1) := by decide +kernel
theorem dX11_sell_87 : decode cX11_sell 87 = .ok (.ireturn, 1) := by decide +kernel
set_option maxRecDepth 100000 in
set_option maxHeartbeats 4000000 in
theorem c_X11_sell {g : Gv} {l : Launch} (p0 : Nat) (p1 : Int32) (p2 : Int32) (w0 : Wd) (rz : Int32) (wz : Wd) (hf : f_X11_sell p0 p1 p2 w0 = some (rz, wz)) : MI g l yX11_sell cX11_sell 4 .int 5 112 [rV g p0, .int p1, .int p2] w0 rz wz := by
  refine mi_of RX11 (by decide) rfl (Nat.le_of_ble_eq_true rfl) ?_
  intro X hg hll C hr h0
  subst hg; subst hll
  have t_22 : ∀ (v0 : Nat) (w : Wd), f_X11_sell_22 v0 w = some (rz, wz) → Wk X 0 0 (QI X w0 rz wz) w [(0, rV (xg X) v0)] 22 [] := by
    intro v0 w hf
    unfold f_X11_sell_22 at hf
    refine k_aload_n C dX11_sell_22 0 rfl rfl 23 rfl ?_
    refine k_bipush C dX11_sell_23 (-2) (by decide) 25 rfl ?_
    refine k_callV_i C ye_X11_refuse ve_X11_76 ⟨rfl, rfl⟩ ⟨rfl, rfl⟩ dX11_sell_25 [.int (-2 : Int32)] rfl rfl (Nat.le_of_ble_eq_true rfl) (c_X11_refuse _ _ _) hf 28 rfl (fun x26 w25 hf => ?_)
    exact k_iret C hr h0 dX11_sell_28 hf
  unfold f_X11_sell at hf
  refine k_sub (lv2 := [(0, rV (xg X) p0), (1, .int p1), (2, .int p2)]) [0, 1, 2] rfl ?_
  refine k_aload_n C dX11_sell_0 0 rfl rfl 1 rfl ?_
  refine k_getR C fe_X11_30 rfl dX11_sell_1 hf 4 rfl (fun r27 hf => ?_)
  refine k_iload_n C dX11_sell_4 1 rfl 5 rfl ?_
  refine k_callV_i C ye_X2_has ve_X11_112 ⟨rfl, rfl⟩ ⟨rfl, rfl⟩ dX11_sell_5 [.int p1] rfl rfl (Nat.le_of_ble_eq_true rfl) (c_X2_has _ _ _) hf 8 rfl (fun x29 w28 hf => ?_)
  refine k_if_eq C dX11_sell_8 hf 22 rfl 11 rfl (fun hf => ?_) (fun hf => ?_)
  · refine k_sub [0] rfl ?_
    exact t_22 _ w28 hf
  · refine k_iload_n C dX11_sell_11 2 rfl 12 rfl ?_
    refine k_iconst C dX11_sell_12 (1) (by decide) 13 rfl ?_
    refine k_sipush C dX11_sell_13 (200) (by decide) 16 rfl ?_
    refine k_callS_i C ye_X11_within se_X11_72 ⟨rfl, rfl⟩ ⟨rfl, rfl⟩ dX11_sell_16 [.int p2, .int (1 : Int32), .int (200 : Int32)] rfl rfl (Nat.le_of_ble_eq_true rfl) (c_X11_within _ _ _ _) hf 19 rfl (fun x31 w30 hf => ?_)
    refine k_if_ne C dX11_sell_19 hf 29 rfl 22 rfl (fun hf => ?_) (fun hf => ?_)
    · refine k_aload_n C dX11_sell_29 0 rfl rfl 30 rfl ?_
      refine k_getR C fe_X11_30 rfl dX11_sell_30 hf 33 rfl (fun r32 hf => ?_)
      refine k_getR C fe_X11_132 rfl dX11_sell_33 hf 36 rfl (fun r33 hf => ?_)
      refine k_iload_n C dX11_sell_36 1 rfl 37 rfl ?_
      refine k_aald16 C dX11_sell_37 hf 38 rfl (fun r34 hf => ?_)
      refine k_getI C fe_X11_136 rfl dX11_sell_38 hf 41 rfl (fun x35 hf => ?_)
      refine k_iload_n C dX11_sell_41 2 rfl 42 rfl ?_
      refine k_icmp_ge C dX11_sell_42 hf 52 rfl 45 rfl (fun hf => ?_) (fun hf => ?_)
      · refine k_aload_n C dX11_sell_52 0 rfl rfl 53 rfl ?_
        refine k_getR C fe_X11_30 rfl dX11_sell_53 hf 56 rfl (fun r36 hf => ?_)
        refine k_callV_v C ye_X2_remember ve_X11_119 ⟨rfl, rfl⟩ ⟨rfl, rfl⟩ dX11_sell_56 [] rfl rfl (Nat.le_of_ble_eq_true rfl) (c_X2_remember _ _) hf 59 rfl (fun w37 hf => ?_)
        refine k_aload_n C dX11_sell_59 0 rfl rfl 60 rfl ?_
        refine k_getR C fe_X11_30 rfl dX11_sell_60 hf 63 rfl (fun r39 hf => ?_)
        refine k_getR C fe_X11_132 rfl dX11_sell_63 hf 66 rfl (fun r40 hf => ?_)
        refine k_iload_n C dX11_sell_66 1 rfl 67 rfl ?_
        refine k_aald16 C dX11_sell_67 hf 68 rfl (fun r41 hf => ?_)
        refine k_iload_n C dX11_sell_68 2 rfl 69 rfl ?_
        refine k_callV_i C ye_X1_giveAway ve_X11_141 ⟨rfl, rfl⟩ ⟨rfl, rfl⟩ dX11_sell_69 [.int p2] rfl rfl (Nat.le_of_ble_eq_true rfl) (c_X1_giveAway _ _ _) hf 72 rfl (fun x43 w42 hf => ?_)
        refine k_istore_n C dX11_sell_72 rfl (by decide) [(3, .int x43), (0, rV (xg X) p0), (1, .int p1), (2, .int p2)] rfl 73 rfl ?_
        refine k_aload_n C dX11_sell_73 1 rfl rfl 74 rfl ?_
        refine k_getR C fe_X11_30 rfl dX11_sell_74 hf 77 rfl (fun r44 hf => ?_)
        refine k_dup C dX11_sell_77 rfl 78 rfl ?_
        refine k_getI C fe_X11_144 rfl dX11_sell_78 hf 81 rfl (fun x45 hf => ?_)
        refine k_iload_n C dX11_sell_81 0 rfl 82 rfl ?_
        refine k_iadd C dX11_sell_82 83 rfl ?_
        refine k_putI C fe_X11_144 rfl rfl dX11_sell_83 hf 86 rfl (fun w46 _ hf => ?_)
        refine k_iload_n C dX11_sell_86 0 rfl 87 rfl ?_
        exact k_iret C hr h0 dX11_sell_87 hf
      · refine k_aload_n C dX11_sell_45 0 rfl rfl 46 rfl ?_
        refine k_bipush C dX11_sell_46 (-3) (by decide) 48 rfl ?_
        refine k_callV_i C ye_X11_refuse ve_X11_76 ⟨rfl, rfl⟩ ⟨rfl, rfl⟩ dX11_sell_48 [.int (-3 : Int32)] rfl rfl (Nat.le_of_ble_eq_true rfl) (c_X11_refuse _ _ _) hf 51 rfl (fun x48 w47 hf => ?_)
        exact k_iret C hr h0 dX11_sell_51 hf
    · refine k_sub [0] rfl ?_
      exact t_22 _ w30 hf
theorem dX11_ship_0 : decode cX11_ship 0 = .ok (.aload_n 0, 1) := by decide +kernel
theorem dX11_ship_1 : decode cX11_ship 1 = .ok (.getfield 30, 3) := by decide +kernel
theorem dX11_ship_4 : decode cX11_ship 4 = .ok (.iload_n 1, 1) := by decide +kernel
theorem dX11_ship_5 : decode cX11_ship 5 = .ok (.invokevirtual 112, 3) := by decide +kernel
theorem dX11_ship_8 : decode cX11_ship 8 = .ok (.ifCond .eq 14, 3) := by decide +kernel
theorem dX11_ship_11 : decode cX11_ship 11 = .ok (.iload_n 2, 1) := by decide +kernel
theorem dX11_ship_12 : decode cX11_ship 12 = .ok (.iconst 0, 1) := by decide +kernel
theorem dX11_ship_13 : decode cX11_ship 13 = .ok (.sipush 300, 3) := by decide +kernel
theorem dX11_ship_16 : decode cX11_ship 16 = .ok (.invokestatic 72, 3) := by decide +kernel
theorem dX11_ship_19 : decode cX11_ship 19 = .ok (.ifCond .ne 10, 3) := by decide +kernel
theorem dX11_ship_22 : decode cX11_ship 22 = .ok (.aload_n 0, 1) := by decide +kernel
theorem dX11_ship_23 : decode cX11_ship 23 = .ok (.bipush (-2), 2) := by decide +kernel
theorem dX11_ship_25 : decode cX11_ship 25 = .ok (.invokevirtual 76, 3) := by decide +kernel
theorem dX11_ship_28 : decode cX11_ship 28 = .ok (.ireturn, 1) := by decide +kernel
theorem dX11_ship_29 : decode cX11_ship 29 = .ok (.iconst 0, 1) := by decide +kernel
theorem dX11_ship_30 : decode cX11_ship 30 = .ok (.istore_n 3, 1) := by decide +kernel
theorem dX11_ship_31 : decode cX11_ship 31 = .ok (.iconst 1, 1) := by decide +kernel
theorem dX11_ship_32 : decode cX11_ship 32 = .ok (.istore 4, 2) := by decide +kernel
theorem dX11_ship_34 : decode cX11_ship 34 = .ok (.iload 4, 2) := by decide +kernel
theorem dX11_ship_36 : decode cX11_ship 36 = .ok (.bipush 60, 2) := by decide +kernel
theorem dX11_ship_38 : decode cX11_ship 38 = .ok (.if_icmp .gt 40, 3) := by decide +kernel
theorem dX11_ship_41 : decode cX11_ship 41 = .ok (.iload_n 3, 1) := by decide +kernel
theorem dX11_ship_42 : decode cX11_ship 42 = .ok (.aload_n 0, 1) := by decide +kernel
theorem dX11_ship_43 : decode cX11_ship 43 = .ok (.getfield 30, 3) := by decide +kernel
theorem dX11_ship_46 : decode cX11_ship 46 = .ok (.iload_n 1, 1) := by decide +kernel
theorem dX11_ship_47 : decode cX11_ship 47 = .ok (.aload_n 0, 1) := by decide +kernel
theorem dX11_ship_48 : decode cX11_ship 48 = .ok (.getfield 30, 3) := by decide +kernel
theorem dX11_ship_51 : decode cX11_ship 51 = .ok (.getfield 156, 3) := by decide +kernel
theorem dX11_ship_54 : decode cX11_ship 54 = .ok (.iload 4, 2) := by decide +kernel
theorem dX11_ship_56 : decode cX11_ship 56 = .ok (.iadd, 1) := by decide +kernel
theorem dX11_ship_57 : decode cX11_ship 57 = .ok (.iconst 1, 1) := by decide +kernel
theorem dX11_ship_58 : decode cX11_ship 58 = .ok (.isub, 1) := by decide +kernel
theorem dX11_ship_59 : decode cX11_ship 59 = .ok (.invokevirtual 194, 3) := by decide +kernel
theorem dX11_ship_62 : decode cX11_ship 62 = .ok (.iadd, 1) := by decide +kernel
theorem dX11_ship_63 : decode cX11_ship 63 = .ok (.istore_n 3, 1) := by decide +kernel
theorem dX11_ship_64 : decode cX11_ship 64 = .ok (.iload_n 3, 1) := by decide +kernel
theorem dX11_ship_65 : decode cX11_ship 65 = .ok (.iload_n 2, 1) := by decide +kernel
theorem dX11_ship_66 : decode cX11_ship 66 = .ok (.if_icmp .le 6, 3) := by decide +kernel
theorem dX11_ship_69 : decode cX11_ship 69 = .ok (.iload 4, 2) := by decide +kernel
theorem dX11_ship_71 : decode cX11_ship 71 = .ok (.ireturn, 1) := by decide +kernel
theorem dX11_ship_72 : decode cX11_ship 72 = .ok (.iinc 4 1, 3) := by decide +kernel
theorem dX11_ship_75 : decode cX11_ship 75 = .ok (.goto (-41), 3) := by decide +kernel
theorem dX11_ship_78 : decode cX11_ship 78 = .ok (.iconst (-1), 1) := by decide +kernel
theorem dX11_ship_79 : decode cX11_ship 79 = .ok (.ireturn, 1) := by decide +kernel
set_option maxRecDepth 100000 in
set_option maxHeartbeats 4000000 in
theorem c_X11_ship {g : Gv} {l : Launch} (p0 : Nat) (p1 : Int32) (p2 : Int32) (w0 : Wd) (rz : Int32) (wz : Wd) (hf : f_X11_ship p0 p1 p2 w0 = some (rz, wz)) : MI g l yX11_ship cX11_ship 5 .int 5 114 [rV g p0, .int p1, .int p2] w0 rz wz := by
  refine mi_of RX11 (by decide) rfl (Nat.le_of_ble_eq_true rfl) ?_
  intro X hg hll C hr h0
  subst hg; subst hll
  have t_34 : ∀ (n : Nat) (v0 : Nat) (v1 : Int32) (v2 : Int32) (v3 : Int32) (v4 : Int32) (w : Wd), f_X11_ship_34 n v0 v1 v2 v3 v4 w = some (rz, wz) → Wk X 0 0 (QI X w0 rz wz) w [(0, rV (xg X) v0), (1, .int v1), (2, .int v2), (3, .int v3), (4, .int v4)] 34 [] := by
    intro n
    induction n with
    | zero => intro v0 v1 v2 v3 v4 w hf; rw [f_X11_ship_34] at hf; cases hf
    | succ n34 ih34 =>
      intro v0 v1 v2 v3 v4 w hf
      rw [f_X11_ship_34] at hf
      refine k_iload C dX11_ship_34 4 rfl 36 rfl ?_
      refine k_bipush C dX11_ship_36 (60) (by decide) 38 rfl ?_
      refine k_icmp_gt C dX11_ship_38 hf 78 rfl 41 rfl (fun hf => ?_) (fun hf => ?_)
      · refine k_iconst C dX11_ship_78 (-1) (by decide) 79 rfl ?_
        exact k_iret C hr h0 dX11_ship_79 hf
      · refine k_iload_n C dX11_ship_41 3 rfl 42 rfl ?_
        refine k_aload_n C dX11_ship_42 0 rfl rfl 43 rfl ?_
        refine k_getR C fe_X11_30 rfl dX11_ship_43 hf 46 rfl (fun r14 hf => ?_)
        refine k_iload_n C dX11_ship_46 1 rfl 47 rfl ?_
        refine k_aload_n C dX11_ship_47 0 rfl rfl 48 rfl ?_
        refine k_getR C fe_X11_30 rfl dX11_ship_48 hf 51 rfl (fun r15 hf => ?_)
        refine k_getI C fe_X11_156 rfl dX11_ship_51 hf 54 rfl (fun x16 hf => ?_)
        refine k_iload C dX11_ship_54 4 rfl 56 rfl ?_
        refine k_iadd C dX11_ship_56 57 rfl ?_
        refine k_iconst C dX11_ship_57 (1) (by decide) 58 rfl ?_
        refine k_isub C dX11_ship_58 59 rfl ?_
        refine k_callV_i C ye_X2_groundBy ve_X11_194 ⟨rfl, rfl⟩ ⟨rfl, rfl⟩ dX11_ship_59 [.int v1, .int ((x16 + v4) - (1 : Int32))] rfl rfl (Nat.le_of_ble_eq_true rfl) (c_X2_groundBy _ _ _ _) hf 62 rfl (fun x18 w17 hf => ?_)
        refine k_iadd C dX11_ship_62 63 rfl ?_
        refine k_nmi hf (fun x19 hf => ?_)
        refine k_istore_n C dX11_ship_63 rfl (by decide) [(3, .int x19), (0, rV (xg X) v0), (1, .int v1), (2, .int v2), (4, .int v4)] rfl 64 rfl ?_
        refine k_iload_n C dX11_ship_64 0 rfl 65 rfl ?_
        refine k_iload_n C dX11_ship_65 3 rfl 66 rfl ?_
        refine k_icmp_le C dX11_ship_66 hf 72 rfl 69 rfl (fun hf => ?_) (fun hf => ?_)
        · refine k_iinc C dX11_ship_72 4 rfl (by decide) (by decide) [(4, .int (v4 + (1 : Int32))), (3, .int x19), (0, rV (xg X) v0), (1, .int v1), (2, .int v2)] rfl 75 rfl ?_
          refine k_goto C dX11_ship_75 34 rfl ?_
          refine k_sub [2, 3, 4, 1, 0] rfl ?_
          exact ih34 _ _ _ _ _ w17 hf
        · refine k_iload C dX11_ship_69 4 rfl 71 rfl ?_
          exact k_iret C hr h0 dX11_ship_71 hf
  have t_22 : ∀ (v0 : Nat) (w : Wd), f_X11_ship_22 v0 w = some (rz, wz) → Wk X 0 0 (QI X w0 rz wz) w [(0, rV (xg X) v0)] 22 [] := by
    intro v0 w hf
    unfold f_X11_ship_22 at hf
    refine k_aload_n C dX11_ship_22 0 rfl rfl 23 rfl ?_
    refine k_bipush C dX11_ship_23 (-2) (by decide) 25 rfl ?_
    refine k_callV_i C ye_X11_refuse ve_X11_76 ⟨rfl, rfl⟩ ⟨rfl, rfl⟩ dX11_ship_25 [.int (-2 : Int32)] rfl rfl (Nat.le_of_ble_eq_true rfl) (c_X11_refuse _ _ _) hf 28 rfl (fun x21 w20 hf => ?_)
    exact k_iret C hr h0 dX11_ship_28 hf
  unfold f_X11_ship at hf
  refine k_sub (lv2 := [(0, rV (xg X) p0), (1, .int p1), (2, .int p2)]) [0, 1, 2] rfl ?_
  refine k_aload_n C dX11_ship_0 0 rfl rfl 1 rfl ?_
  refine k_getR C fe_X11_30 rfl dX11_ship_1 hf 4 rfl (fun r22 hf => ?_)
  refine k_iload_n C dX11_ship_4 1 rfl 5 rfl ?_
  refine k_callV_i C ye_X2_has ve_X11_112 ⟨rfl, rfl⟩ ⟨rfl, rfl⟩ dX11_ship_5 [.int p1] rfl rfl (Nat.le_of_ble_eq_true rfl) (c_X2_has _ _ _) hf 8 rfl (fun x24 w23 hf => ?_)
  refine k_if_eq C dX11_ship_8 hf 22 rfl 11 rfl (fun hf => ?_) (fun hf => ?_)
  · refine k_sub [0] rfl ?_
    exact t_22 _ w23 hf
  · refine k_iload_n C dX11_ship_11 2 rfl 12 rfl ?_
    refine k_iconst C dX11_ship_12 (0) (by decide) 13 rfl ?_
    refine k_sipush C dX11_ship_13 (300) (by decide) 16 rfl ?_
    refine k_callS_i C ye_X11_within se_X11_72 ⟨rfl, rfl⟩ ⟨rfl, rfl⟩ dX11_ship_16 [.int p2, .int (0 : Int32), .int (300 : Int32)] rfl rfl (Nat.le_of_ble_eq_true rfl) (c_X11_within _ _ _ _) hf 19 rfl (fun x26 w25 hf => ?_)
    refine k_if_ne C dX11_ship_19 hf 29 rfl 22 rfl (fun hf => ?_) (fun hf => ?_)
    · refine k_iconst C dX11_ship_29 (0) (by decide) 30 rfl ?_
      refine k_istore_n C dX11_ship_30 rfl (by decide) [(3, .int (0 : Int32)), (0, rV (xg X) p0), (1, .int p1), (2, .int p2)] rfl 31 rfl ?_
      refine k_iconst C dX11_ship_31 (1) (by decide) 32 rfl ?_
      refine k_istore C dX11_ship_32 (by decide) [(4, .int (1 : Int32)), (3, .int (0 : Int32)), (0, rV (xg X) p0), (1, .int p1), (2, .int p2)] rfl 34 rfl ?_
      refine k_sub [2, 3, 4, 1, 0] rfl ?_
      exact t_34 4096 _ _ _ _ _ w25 hf
    · refine k_sub [0] rfl ?_
      exact t_22 _ w25 hf
theorem dX11_status_0 : decode cX11_status 0 = .ok (.iload_n 1, 1) := by decide +kernel
theorem dX11_status_1 : decode cX11_status 1 = .ok (.iconst 0, 1) := by decide +kernel
theorem dX11_status_2 : decode cX11_status 2 = .ok (.iconst 2, 1) := by decide +kernel
theorem dX11_status_3 : decode cX11_status 3 = .ok (.invokestatic 72, 3) := by decide +kernel
theorem dX11_status_6 : decode cX11_status 6 = .ok (.ifCond .ne 12, 3) := by decide +kernel
theorem dX11_status_9 : decode cX11_status 9 = .ok (.aload_n 0, 1) := by decide +kernel
theorem dX11_status_10 : decode cX11_status 10 = .ok (.bipush (-2), 2) := by decide +kernel
theorem dX11_status_12 : decode cX11_status 12 = .ok (.invokevirtual 76, 3) := by decide +kernel
theorem dX11_status_15 : decode cX11_status 15 = .ok (.pop, 1) := by decide +kernel
theorem dX11_status_16 : decode cX11_status 16 = .ok (.iconst (-1), 1) := by decide +kernel
theorem dX11_status_17 : decode cX11_status 17 = .ok (.ireturn, 1) := by decide +kernel
theorem dX11_status_18 : decode cX11_status 18 = .ok (.aload_n 0, 1) := by decide +kernel
theorem dX11_status_19 : decode cX11_status 19 = .ok (.getfield 61, 3) := by decide +kernel
theorem dX11_status_22 : decode cX11_status 22 = .ok (.iload_n 1, 1) := by decide +kernel
theorem dX11_status_23 : decode cX11_status 23 = .ok (.iaload, 1) := by decide +kernel
theorem dX11_status_24 : decode cX11_status 24 = .ok (.ireturn, 1) := by decide +kernel
set_option maxRecDepth 100000 in
set_option maxHeartbeats 4000000 in
theorem c_X11_status {g : Gv} {l : Launch} (p0 : Nat) (p1 : Int32) (w0 : Wd) (rz : Int32) (wz : Wd) (hf : f_X11_status p0 p1 w0 = some (rz, wz)) : MI g l yX11_status cX11_status 2 .int 2 44 [rV g p0, .int p1] w0 rz wz := by
  refine mi_of RX11 (by decide) rfl (Nat.le_of_ble_eq_true rfl) ?_
  intro X hg hll C hr h0
  subst hg; subst hll
  unfold f_X11_status at hf
  refine k_sub (lv2 := [(0, rV (xg X) p0), (1, .int p1)]) [0, 1] rfl ?_
  refine k_iload_n C dX11_status_0 1 rfl 1 rfl ?_
  refine k_iconst C dX11_status_1 (0) (by decide) 2 rfl ?_
  refine k_iconst C dX11_status_2 (2) (by decide) 3 rfl ?_
  refine k_callS_i C ye_X11_within se_X11_72 ⟨rfl, rfl⟩ ⟨rfl, rfl⟩ dX11_status_3 [.int p1, .int (0 : Int32), .int (2 : Int32)] rfl rfl (Nat.le_of_ble_eq_true rfl) (c_X11_within _ _ _ _) hf 6 rfl (fun x8 w7 hf => ?_)
  refine k_if_ne C dX11_status_6 hf 18 rfl 9 rfl (fun hf => ?_) (fun hf => ?_)
  · refine k_aload_n C dX11_status_18 0 rfl rfl 19 rfl ?_
    refine k_getR C fe_X11_61 rfl dX11_status_19 hf 22 rfl (fun r9 hf => ?_)
    refine k_iload_n C dX11_status_22 1 rfl 23 rfl ?_
    refine k_iald C dX11_status_23 hf 24 rfl (fun x10 hf => ?_)
    exact k_iret C hr h0 dX11_status_24 hf
  · refine k_aload_n C dX11_status_9 0 rfl rfl 10 rfl ?_
    refine k_bipush C dX11_status_10 (-2) (by decide) 12 rfl ?_
    refine k_callV_i C ye_X11_refuse ve_X11_76 ⟨rfl, rfl⟩ ⟨rfl, rfl⟩ dX11_status_12 [.int (-2 : Int32)] rfl rfl (Nat.le_of_ble_eq_true rfl) (c_X11_refuse _ _ _) hf 15 rfl (fun x12 w11 hf => ?_)
    refine k_pop C dX11_status_15 rfl 16 rfl ?_
    refine k_iconst C dX11_status_16 (-1) (by decide) 17 rfl ?_
    exact k_iret C hr h0 dX11_status_17 hf
theorem dX11_street_0 : decode cX11_street 0 = .ok (.iload_n 1, 1) := by decide +kernel
theorem dX11_street_1 : decode cX11_street 1 = .ok (.iconst 1, 1) := by decide +kernel
theorem dX11_street_2 : decode cX11_street 2 = .ok (.bipush 9, 2) := by decide +kernel
theorem dX11_street_4 : decode cX11_street 4 = .ok (.invokestatic 72, 3) := by decide +kernel
theorem dX11_street_7 : decode cX11_street 7 = .ok (.ifCond .eq 8, 3) := by decide +kernel
theorem dX11_street_10 : decode cX11_street 10 = .ok (.iload_n 2, 1) := by decide +kernel
theorem dX11_street_11 : decode cX11_street 11 = .ok (.iconst (-1), 1) := by decide +kernel
theorem dX11_street_12 : decode cX11_street 12 = .ok (.if_icmp .ge 8, 3) := by decide +kernel
theorem dX11_street_15 : decode cX11_street 15 = .ok (.aload_n 0, 1) := by decide +kernel
theorem dX11_street_16 : decode cX11_street 16 = .ok (.invokevirtual 115, 3) := by decide +kernel
theorem dX11_street_19 : decode cX11_street 19 = .ok (.ireturn, 1) := by decide +kernel
theorem dX11_street_20 : decode cX11_street 20 = .ok (.aload_n 0, 1) := by decide +kernel
theorem dX11_street_21 : decode cX11_street 21 = .ok (.getfield 57, 3) := by decide +kernel
theorem dX11_street_24 : decode cX11_street 24 = .ok (.aload_n 0, 1) := by decide +kernel
theorem dX11_street_25 : decode cX11_street 25 = .ok (.getfield 30, 3) := by decide +kernel
theorem dX11_street_28 : decode cX11_street 28 = .ok (.iload_n 1, 1) := by decide +kernel
theorem dX11_street_29 : decode cX11_street 29 = .ok (.iload_n 2, 1) := by decide +kernel
theorem dX11_street_30 : decode cX11_street 30 = .ok (.invokevirtual 234, 3) := by decide +kernel
theorem dX11_street_33 : decode cX11_street 33 = .ok (.ireturn, 1) := by decide +kernel
set_option maxRecDepth 100000 in
set_option maxHeartbeats 4000000 in
theorem c_X11_street {g : Gv} {l : Launch} (p0 : Nat) (p1 : Int32) (p2 : Int32) (w0 : Wd) (rz : Int32) (wz : Wd) (hf : f_X11_street p0 p1 p2 w0 = some (rz, wz)) : MI g l yX11_street cX11_street 3 .int 6 143 [rV g p0, .int p1, .int p2] w0 rz wz := by
  refine mi_of RX11 (by decide) rfl (Nat.le_of_ble_eq_true rfl) ?_
  intro X hg hll C hr h0
  subst hg; subst hll
  have t_15 : ∀ (v0 : Nat) (w : Wd), f_X11_street_15 v0 w = some (rz, wz) → Wk X 0 0 (QI X w0 rz wz) w [(0, rV (xg X) v0)] 15 [] := by
    intro v0 w hf
    unfold f_X11_street_15 at hf
    refine k_aload_n C dX11_street_15 0 rfl rfl 16 rfl ?_
    refine k_callV_i C ye_X11_refuseApart ve_X11_115 ⟨rfl, rfl⟩ ⟨rfl, rfl⟩ dX11_street_16 [] rfl rfl (Nat.le_of_ble_eq_true rfl) (c_X11_refuseApart _ _) hf 19 rfl (fun x10 w9 hf => ?_)
    exact k_iret C hr h0 dX11_street_19 hf
  unfold f_X11_street at hf
  refine k_sub (lv2 := [(0, rV (xg X) p0), (1, .int p1), (2, .int p2)]) [0, 1, 2] rfl ?_
  refine k_iload_n C dX11_street_0 1 rfl 1 rfl ?_
  refine k_iconst C dX11_street_1 (1) (by decide) 2 rfl ?_
  refine k_bipush C dX11_street_2 (9) (by decide) 4 rfl ?_
  refine k_callS_i C ye_X11_within se_X11_72 ⟨rfl, rfl⟩ ⟨rfl, rfl⟩ dX11_street_4 [.int p1, .int (1 : Int32), .int (9 : Int32)] rfl rfl (Nat.le_of_ble_eq_true rfl) (c_X11_within _ _ _ _) hf 7 rfl (fun x12 w11 hf => ?_)
  refine k_if_eq C dX11_street_7 hf 15 rfl 10 rfl (fun hf => ?_) (fun hf => ?_)
  · refine k_sub [0] rfl ?_
    exact t_15 _ w11 hf
  · refine k_iload_n C dX11_street_10 2 rfl 11 rfl ?_
    refine k_iconst C dX11_street_11 (-1) (by decide) 12 rfl ?_
    refine k_icmp_ge C dX11_street_12 hf 20 rfl 15 rfl (fun hf => ?_) (fun hf => ?_)
    · refine k_aload_n C dX11_street_20 0 rfl rfl 21 rfl ?_
      refine k_getR C fe_X11_57 rfl dX11_street_21 hf 24 rfl (fun r13 hf => ?_)
      refine k_aload_n C dX11_street_24 0 rfl rfl 25 rfl ?_
      refine k_getR C fe_X11_30 rfl dX11_street_25 hf 28 rfl (fun r14 hf => ?_)
      refine k_iload_n C dX11_street_28 1 rfl 29 rfl ?_
      refine k_iload_n C dX11_street_29 2 rfl 30 rfl ?_
      refine k_callV_i C ye_X7_restingPairs ve_X11_234 ⟨rfl, rfl⟩ ⟨rfl, rfl⟩ dX11_street_30 [rV (xg X) r14, .int p1, .int p2] rfl rfl (Nat.le_of_ble_eq_true rfl) (c_X7_restingPairs _ _ _ _ _) hf 33 rfl (fun x16 w15 hf => ?_)
      exact k_iret C hr h0 dX11_street_33 hf
    · refine k_sub [0] rfl ?_
      exact t_15 _ w11 hf
