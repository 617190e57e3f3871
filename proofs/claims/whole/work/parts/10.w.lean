theorem dX1_become_0 : decode cX1_become 0 = .ok (.aload_n 0, 1) := by decide +kernel
theorem dX1_become_1 : decode cX1_become 1 = .ok (.iload_n 1, 1) := by decide +kernel
theorem dX1_become_2 : decode cX1_become 2 = .ok (.putfield 13, 3) := by decide +kernel
theorem dX1_become_5 : decode cX1_become 5 = .ok (.aload_n 0, 1) := by decide +kernel
theorem dX1_become_6 : decode cX1_become 6 = .ok (.iload_n 2, 1) := by decide +kernel
theorem dX1_become_7 : decode cX1_become 7 = .ok (.putfield 17, 3) := by decide +kernel
theorem dX1_become_10 : decode cX1_become 10 = .ok (.aload_n 0, 1) := by decide +kernel
theorem dX1_become_11 : decode cX1_become 11 = .ok (.iload_n 3, 1) := by decide +kernel
theorem dX1_become_12 : decode cX1_become 12 = .ok (.putfield 20, 3) := by decide +kernel
theorem dX1_become_15 : decode cX1_become 15 = .ok (.aload_n 0, 1) := by decide +kernel
theorem dX1_become_16 : decode cX1_become 16 = .ok (.iconst 0, 1) := by decide +kernel
theorem dX1_become_17 : decode cX1_become 17 = .ok (.putfield 23, 3) := by decide +kernel
theorem dX1_become_20 : decode cX1_become 20 = .ok (.aload_n 0, 1) := by decide +kernel
theorem dX1_become_21 : decode cX1_become 21 = .ok (.iconst 0, 1) := by decide +kernel
theorem dX1_become_22 : decode cX1_become 22 = .ok (.putfield 26, 3) := by decide +kernel
theorem dX1_become_25 : decode cX1_become 25 = .ok (.return_, 1) := by decide +kernel
set_option maxRecDepth 100000 in
set_option maxHeartbeats 4000000 in
theorem c_X1_become {g : Gv} {l : Launch} (p0 : Nat) (p1 : Int32) (p2 : Int32) (p3 : Int32) (w0 : Wd) (wz : Wd) (hf : f_X1_become p0 p1 p2 p3 w0 = some ((), wz)) : MV g l yX1_become cX1_become 4 0 0 0 0 [rV g p0, .int p1, .int p2, .int p3] w0 wz := by
  refine mv_of RX1 (by decide) rfl (Nat.le_of_ble_eq_true rfl) ?_
  intro X hg hll C hr h0 hin
  subst hg; subst hll
  unfold f_X1_become at hf
  refine k_sub (lv2 := [(0, rV (xg X) p0), (1, .int p1), (2, .int p2), (3, .int p3)]) [0, 1, 2, 3] rfl ?_
  refine k_aload_n C dX1_become_0 0 rfl rfl 1 rfl ?_
  refine k_iload_n C dX1_become_1 1 rfl 2 rfl ?_
  refine k_putI C fe_X1_13 rfl rfl dX1_become_2 hf 5 rfl (fun w6 _ hf => ?_)
  refine k_aload_n C dX1_become_5 0 rfl rfl 6 rfl ?_
  refine k_iload_n C dX1_become_6 2 rfl 7 rfl ?_
  refine k_putI C fe_X1_17 rfl rfl dX1_become_7 hf 10 rfl (fun w7 _ hf => ?_)
  refine k_aload_n C dX1_become_10 0 rfl rfl 11 rfl ?_
  refine k_iload_n C dX1_become_11 3 rfl 12 rfl ?_
  refine k_putI C fe_X1_20 rfl rfl dX1_become_12 hf 15 rfl (fun w8 _ hf => ?_)
  refine k_aload_n C dX1_become_15 0 rfl rfl 16 rfl ?_
  refine k_iconst C dX1_become_16 (0) (by decide) 17 rfl ?_
  refine k_putI C fe_X1_23 rfl rfl dX1_become_17 hf 20 rfl (fun w9 _ hf => ?_)
  refine k_aload_n C dX1_become_20 0 rfl rfl 21 rfl ?_
  refine k_iconst C dX1_become_21 (0) (by decide) 22 rfl ?_
  refine k_putI C fe_X1_26 rfl rfl dX1_become_22 hf 25 rfl (fun w10 _ hf => ?_)
  exact k_vret C hr h0 dX1_become_25 hf
theorem dX1_copyFrom_0 : decode cX1_copyFrom 0 = .ok (.aload_n 0, 1) := by decide +kernel
theorem dX1_copyFrom_1 : decode cX1_copyFrom 1 = .ok (.aload_n 1, 1) := by decide +kernel
theorem dX1_copyFrom_2 : decode cX1_copyFrom 2 = .ok (.getfield 13, 3) := by decide +kernel
theorem dX1_copyFrom_5 : decode cX1_copyFrom 5 = .ok (.aload_n 1, 1) := by decide +kernel
theorem dX1_copyFrom_6 : decode cX1_copyFrom 6 = .ok (.getfield 17, 3) := by decide +kernel
theorem dX1_copyFrom_9 : decode cX1_copyFrom 9 = .ok (.aload_n 1, 1) := by decide +kernel
theorem dX1_copyFrom_10 : decode cX1_copyFrom 10 = .ok (.getfield 20, 3) := by decide +kernel
theorem dX1_copyFrom_13 : decode cX1_copyFrom 13 = .ok (.invokevirtual 29, 3) := by decide +kernel
theorem dX1_copyFrom_16 : decode cX1_copyFrom 16 = .ok (.aload_n 0, 1) := by decide +kernel
theorem dX1_copyFrom_17 : decode cX1_copyFrom 17 = .ok (.aload_n 1, 1) := by decide +kernel
theorem dX1_copyFrom_18 : decode cX1_copyFrom 18 = .ok (.getfield 23, 3) := by decide +kernel
theorem dX1_copyFrom_21 : decode cX1_copyFrom 21 = .ok (.putfield 23, 3) := by decide +kernel
theorem dX1_copyFrom_24 : decode cX1_copyFrom 24 = .ok (.aload_n 0, 1) := by decide +kernel
theorem dX1_copyFrom_25 : decode cX1_copyFrom 25 = .ok (.aload_n 1, 1) := by decide +kernel
theorem dX1_copyFrom_26 : decode cX1_copyFrom 26 = .ok (.getfield 26, 3) := by decide +kernel
theorem dX1_copyFrom_29 : decode cX1_copyFrom 29 = .ok (.putfield 26, 3) := by decide +kernel
theorem dX1_copyFrom_32 : decode cX1_copyFrom 32 = .ok (.return_, 1) := by decide +kernel
set_option maxRecDepth 100000 in
set_option maxHeartbeats 4000000 in
theorem c_X1_copyFrom {g : Gv} {l : Launch} (p0 : Nat) (p1 : Nat) (w0 : Wd) (wz : Wd) (hf : f_X1_copyFrom p0 p1 w0 = some ((), wz)) : MV g l yX1_copyFrom cX1_copyFrom 2 1 23 0 0 [rV g p0, rV g p1] w0 wz := by
  refine mv_of RX1 (by decide) rfl (Nat.le_of_ble_eq_true rfl) ?_
  intro X hg hll C hr h0 hin
  subst hg; subst hll
  unfold f_X1_copyFrom at hf
  refine k_sub (lv2 := [(0, rV (xg X) p0), (1, rV (xg X) p1)]) [0, 1] rfl ?_
  refine k_aload_n C dX1_copyFrom_0 0 rfl rfl 1 rfl ?_
  refine k_aload_n C dX1_copyFrom_1 1 rfl rfl 2 rfl ?_
  refine k_getI C fe_X1_13 rfl dX1_copyFrom_2 hf 5 rfl (fun x10 hf => ?_)
  refine k_aload_n C dX1_copyFrom_5 1 rfl rfl 6 rfl ?_
  refine k_getI C fe_X1_17 rfl dX1_copyFrom_6 hf 9 rfl (fun x11 hf => ?_)
  refine k_aload_n C dX1_copyFrom_9 1 rfl rfl 10 rfl ?_
  refine k_getI C fe_X1_20 rfl dX1_copyFrom_10 hf 13 rfl (fun x12 hf => ?_)
  refine k_callV_v C ye_X1_become ve_X1_29 ⟨rfl, rfl⟩ ⟨rfl, rfl⟩ dX1_copyFrom_13 [.int x10, .int x11, .int x12] rfl rfl (Nat.le_of_ble_eq_true rfl) (c_X1_become _ _ _ _ _) hf 16 rfl (fun w13 hf => ?_)
  refine k_aload_n C dX1_copyFrom_16 0 rfl rfl 17 rfl ?_
  refine k_aload_n C dX1_copyFrom_17 1 rfl rfl 18 rfl ?_
  refine k_getI C fe_X1_23 rfl dX1_copyFrom_18 hf 21 rfl (fun x15 hf => ?_)
  refine k_putI C fe_X1_23 rfl rfl dX1_copyFrom_21 hf 24 rfl (fun w16 _ hf => ?_)
  refine k_aload_n C dX1_copyFrom_24 0 rfl rfl 25 rfl ?_
  refine k_aload_n C dX1_copyFrom_25 1 rfl rfl 26 rfl ?_
  refine k_getI C fe_X1_26 rfl dX1_copyFrom_26 hf 29 rfl (fun x17 hf => ?_)
  refine k_putI C fe_X1_26 rfl rfl dX1_copyFrom_29 hf 32 rfl (fun w18 _ hf => ?_)
  exact k_vret C hr h0 dX1_copyFrom_32 hf
theorem dX5_fetches_0 : decode cX5_fetches 0 = .ok (.iconst 0, 1) := by decide +kernel
theorem dX5_fetches_1 : decode cX5_fetches 1 = .ok (.ireturn, 1) := by decide +kernel
set_option maxRecDepth 100000 in
set_option maxHeartbeats 4000000 in
theorem c_X5_fetches {g : Gv} {l : Launch} (p0 : Nat) (p1 : Int32) (p2 : Int32) (w0 : Wd) (rz : Int32) (wz : Wd) (hf : f_X5_fetches p0 p1 p2 w0 = some (rz, wz)) : MI g l yX5_fetches cX5_fetches 3 .int 0 0 [rV g p0, .int p1, .int p2] w0 rz wz := by
  refine mi_of RX5 (by decide) rfl (Nat.le_of_ble_eq_true rfl) ?_
  intro X hg hll C hr h0
  subst hg; subst hll
  unfold f_X5_fetches at hf
  refine k_sub (lv2 := [(0, rV (xg X) p0), (1, .int p1), (2, .int p2)]) [0, 1, 2] rfl ?_
  refine k_iconst C dX5_fetches_0 (0) (by decide) 1 rfl ?_
  exact k_iret C hr h0 dX5_fetches_1 hf
theorem dX4_fetches_0 : decode cX4_fetches 0 = .ok (.aload_n 0, 1) := by decide +kernel
theorem dX4_fetches_1 : decode cX4_fetches 1 = .ok (.iload_n 1, 1) := by decide +kernel
theorem dX4_fetches_2 : decode cX4_fetches 2 = .ok (.iload_n 2, 1) := by decide +kernel
theorem dX4_fetches_3 : decode cX4_fetches 3 = .ok (.invokespecial 7, 3) := by decide +kernel
theorem dX4_fetches_6 : decode cX4_fetches 6 = .ok (.iconst 1, 1) := by decide +kernel
theorem dX4_fetches_7 : decode cX4_fetches 7 = .ok (.iadd, 1) := by decide +kernel
theorem dX4_fetches_8 : decode cX4_fetches 8 = .ok (.ireturn, 1) := by decide +kernel
set_option maxRecDepth 100000 in
set_option maxHeartbeats 4000000 in
theorem c_X4_fetches {g : Gv} {l : Launch} (p0 : Nat) (p1 : Int32) (p2 : Int32) (w0 : Wd) (rz : Int32) (wz : Wd) (hf : f_X4_fetches p0 p1 p2 w0 = some (rz, wz)) : MI g l yX4_fetches cX4_fetches 3 .int 1 22 [rV g p0, .int p1, .int p2] w0 rz wz := by
  refine mi_of RX4 (by decide) rfl (Nat.le_of_ble_eq_true rfl) ?_
  intro X hg hll C hr h0
  subst hg; subst hll
  unfold f_X4_fetches at hf
  refine k_sub (lv2 := [(0, rV (xg X) p0), (1, .int p1), (2, .int p2)]) [0, 1, 2] rfl ?_
  refine k_aload_n C dX4_fetches_0 0 rfl rfl 1 rfl ?_
  refine k_iload_n C dX4_fetches_1 1 rfl 2 rfl ?_
  refine k_iload_n C dX4_fetches_2 2 rfl 3 rfl ?_
  refine k_callSU_i C ye_X5_fetches su_X4_7 ce_all ⟨rfl, rfl⟩ ⟨rfl, rfl⟩ dX4_fetches_3 [.int p1, .int p2] rfl rfl (Nat.le_of_ble_eq_true rfl) (c_X5_fetches _ _ _ _) hf 6 rfl (fun x4 w3 hf => ?_)
  refine k_iconst C dX4_fetches_6 (1) (by decide) 7 rfl ?_
  refine k_iadd C dX4_fetches_7 8 rfl ?_
  exact k_iret C hr h0 dX4_fetches_8 hf
theorem dX6_fetches_0 : decode cX6_fetches 0 = .ok (.iload_n 1, 1) := by decide +kernel
theorem dX6_fetches_1 : decode cX6_fetches 1 = .ok (.iload_n 2, 1) := by decide +kernel
theorem dX6_fetches_2 : decode cX6_fetches 2 = .ok (.iconst 5, 1) := by decide +kernel
theorem dX6_fetches_3 : decode cX6_fetches 3 = .ok (.idiv, 1) := by decide +kernel
theorem dX6_fetches_4 : decode cX6_fetches 4 = .ok (.isub, 1) := by decide +kernel
theorem dX6_fetches_5 : decode cX6_fetches 5 = .ok (.istore_n 3, 1) := by decide +kernel
theorem dX6_fetches_6 : decode cX6_fetches 6 = .ok (.iload_n 3, 1) := by decide +kernel
theorem dX6_fetches_7 : decode cX6_fetches 7 = .ok (.ifCond .le 7, 3) := by decide +kernel
theorem dX6_fetches_10 : decode cX6_fetches 10 = .ok (.iload_n 3, 1) := by decide +kernel
theorem dX6_fetches_11 : decode cX6_fetches 11 = .ok (.goto 4, 3) := by decide +kernel
theorem dX6_fetches_14 : decode cX6_fetches 14 = .ok (.iconst 0, 1) := by decide +kernel
theorem dX6_fetches_15 : decode cX6_fetches 15 = .ok (.ireturn, 1) := by decide +kernel
set_option maxRecDepth 100000 in
set_option maxHeartbeats 4000000 in
theorem c_X6_fetches {g : Gv} {l : Launch} (p0 : Nat) (p1 : Int32) (p2 : Int32) (w0 : Wd) (rz : Int32) (wz : Wd) (hf : f_X6_fetches p0 p1 p2 w0 = some (rz, wz)) : MI g l yX6_fetches cX6_fetches 4 .int 0 0 [rV g p0, .int p1, .int p2] w0 rz wz := by
  refine mi_of RX6 (by decide) rfl (Nat.le_of_ble_eq_true rfl) ?_
  intro X hg hll C hr h0
  subst hg; subst hll
  have t_15 : ∀ (s0 : Int32) (w : Wd), f_X6_fetches_15 s0 w = some (rz, wz) → Wk X 0 0 (QI X w0 rz wz) w [] 15 [.int s0] := by
    intro s0 w hf
    unfold f_X6_fetches_15 at hf
    exact k_iret C hr h0 dX6_fetches_15 hf
  unfold f_X6_fetches at hf
  refine k_sub (lv2 := [(0, rV (xg X) p0), (1, .int p1), (2, .int p2)]) [0, 1, 2] rfl ?_
  refine k_iload_n C dX6_fetches_0 1 rfl 1 rfl ?_
  refine k_iload_n C dX6_fetches_1 2 rfl 2 rfl ?_
  refine k_iconst C dX6_fetches_2 (5) (by decide) 3 rfl ?_
  refine k_idiv C dX6_fetches_3 (by decide) 4 rfl ?_
  refine k_isub C dX6_fetches_4 5 rfl ?_
  refine k_nmi hf (fun x2 hf => ?_)
  refine k_istore_n C dX6_fetches_5 rfl (by decide) [(3, .int x2), (0, rV (xg X) p0), (1, .int p1), (2, .int p2)] rfl 6 rfl ?_
  refine k_iload_n C dX6_fetches_6 0 rfl 7 rfl ?_
  refine k_if_le C dX6_fetches_7 hf 14 rfl 10 rfl (fun hf => ?_) (fun hf => ?_)
  · refine k_iconst C dX6_fetches_14 (0) (by decide) 15 rfl ?_
    refine k_sub [] rfl ?_
    exact t_15 _ w0 hf
  · refine k_iload_n C dX6_fetches_10 0 rfl 11 rfl ?_
    refine k_goto C dX6_fetches_11 15 rfl ?_
    refine k_sub [] rfl ?_
    exact t_15 _ w0 hf
theorem dX8_fetches_0 : decode cX8_fetches 0 = .ok (.aload_n 0, 1) := by decide +kernel
theorem dX8_fetches_1 : decode cX8_fetches 1 = .ok (.iload_n 1, 1) := by decide +kernel
theorem dX8_fetches_2 : decode cX8_fetches 2 = .ok (.iload_n 2, 1) := by decide +kernel
theorem dX8_fetches_3 : decode cX8_fetches 3 = .ok (.invokespecial 11, 3) := by decide +kernel
theorem dX8_fetches_6 : decode cX8_fetches 6 = .ok (.iconst 2, 1) := by decide +kernel
theorem dX8_fetches_7 : decode cX8_fetches 7 = .ok (.idiv, 1) := by decide +kernel
theorem dX8_fetches_8 : decode cX8_fetches 8 = .ok (.ireturn, 1) := by decide +kernel
set_option maxRecDepth 100000 in
set_option maxHeartbeats 4000000 in
theorem c_X8_fetches {g : Gv} {l : Launch} (p0 : Nat) (p1 : Int32) (p2 : Int32) (w0 : Wd) (rz : Int32) (wz : Wd) (hf : f_X8_fetches p0 p1 p2 w0 = some (rz, wz)) : MI g l yX8_fetches cX8_fetches 3 .int 1 23 [rV g p0, .int p1, .int p2] w0 rz wz := by
  refine mi_of RX8 (by decide) rfl (Nat.le_of_ble_eq_true rfl) ?_
  intro X hg hll C hr h0
  subst hg; subst hll
  unfold f_X8_fetches at hf
  refine k_sub (lv2 := [(0, rV (xg X) p0), (1, .int p1), (2, .int p2)]) [0, 1, 2] rfl ?_
  refine k_aload_n C dX8_fetches_0 0 rfl rfl 1 rfl ?_
  refine k_iload_n C dX8_fetches_1 1 rfl 2 rfl ?_
  refine k_iload_n C dX8_fetches_2 2 rfl 3 rfl ?_
  refine k_callSX_i C ye_X6_fetches sx_X8_11 ce_all ⟨rfl, rfl⟩ ⟨rfl, rfl⟩ dX8_fetches_3 [.int p1, .int p2] rfl rfl (Nat.le_of_ble_eq_true rfl) (c_X6_fetches _ _ _ _) hf 6 rfl (fun x4 w3 hf => ?_)
  refine k_iconst C dX8_fetches_6 (2) (by decide) 7 rfl ?_
  refine k_idiv C dX8_fetches_7 (by decide) 8 rfl ?_
  exact k_iret C hr h0 dX8_fetches_8 hf
theorem kp_X1_39 {X : Xt} {cc : ByteArray} {nL fr lo mc ms cs sl pc : Nat} {Q : State → Prop} {w : Wd} {lv : List (Nat × Value)} {st : List Value} (C : Ok X RX1 cc nL fr lo mc ms) {α : Type} {a : Nat} {x0 x1 : Int32} {K : Int32 → Wd → Option α} {z : α} (hR : Nat.ble 2 fr = true ∧ Nat.ble 45 lo = true) (hc : Nat.ble (cs + 0) mc = true ∧ Nat.ble (sl + 0) ms = true) (d : decode cc pc = .ok (.invokevirtual 39, 3)) (hcat : (st.map fun v => v.category).sum ≤ 8) (hf : cal (u_fetches a x0 x1 w) K = some z) (n2 : Nat) (hn : n2 = pc + 3) (kk : ∀ r w1, K r w1 = some z → Wk X cs sl Q w1 lv n2 (.int r :: st)) : Wk X cs sl Q w lv pc (.int x1 :: .int x0 :: rV (xg X) a :: st) := by
  obtain ⟨r, w1, h3, h2⟩ := cal_s hf
  have r1 := Nat.le_of_ble_eq_true hR.1
  have r2 := Nat.le_of_ble_eq_true hR.2
  unfold u_fetches at h3
  split at h3
  · rename_i q
    exact k_callU_i C ye_X6_fetches ue_X1_39_3 ⟨Nat.ble_eq_true_of_le (by omega), Nat.ble_eq_true_of_le (by omega)⟩ hc d [.int x0, .int x1] rfl rfl hcat (c_X6_fetches _ _ _ _) (show calV w a 3 (f_X6_fetches a x0 x1 w) K = some z by unfold calV cal; rw [if_pos q, h3]; exact h2) n2 hn kk
  · rename_i q
    split at h3
    · rename_i q
      exact k_callU_i C ye_X4_fetches ue_X1_39_4 ⟨Nat.ble_eq_true_of_le (by omega), Nat.ble_eq_true_of_le (by omega)⟩ hc d [.int x0, .int x1] rfl rfl hcat (c_X4_fetches _ _ _ _) (show calV w a 4 (f_X4_fetches a x0 x1 w) K = some z by unfold calV cal; rw [if_pos q, h3]; exact h2) n2 hn kk
    · rename_i q
      split at h3
      · rename_i q
        exact k_callU_i C ye_X5_fetches ue_X1_39_5 ⟨Nat.ble_eq_true_of_le (by omega), Nat.ble_eq_true_of_le (by omega)⟩ hc d [.int x0, .int x1] rfl rfl hcat (c_X5_fetches _ _ _ _) (show calV w a 5 (f_X5_fetches a x0 x1 w) K = some z by unfold calV cal; rw [if_pos q, h3]; exact h2) n2 hn kk
      · rename_i q
        split at h3
        · rename_i q
          exact k_callU_i C ye_X6_fetches ue_X1_39_6 ⟨Nat.ble_eq_true_of_le (by omega), Nat.ble_eq_true_of_le (by omega)⟩ hc d [.int x0, .int x1] rfl rfl hcat (c_X6_fetches _ _ _ _) (show calV w a 6 (f_X6_fetches a x0 x1 w) K = some z by unfold calV cal; rw [if_pos q, h3]; exact h2) n2 hn kk
        · rename_i q
          split at h3
          · rename_i q
            exact k_callU_i C ye_X8_fetches ue_X1_39_8 ⟨Nat.ble_eq_true_of_le (by omega), Nat.ble_eq_true_of_le (by omega)⟩ hc d [.int x0, .int x1] rfl rfl hcat (c_X8_fetches _ _ _ _) (show calV w a 8 (f_X8_fetches a x0 x1 w) K = some z by unfold calV cal; rw [if_pos q, h3]; exact h2) n2 hn kk
          · rename_i q
            split at h3
            · rename_i q
              exact k_callU_i C ye_X6_fetches ue_X1_39_9 ⟨Nat.ble_eq_true_of_le (by omega), Nat.ble_eq_true_of_le (by omega)⟩ hc d [.int x0, .int x1] rfl rfl hcat (c_X6_fetches _ _ _ _) (show calV w a 9 (f_X6_fetches a x0 x1 w) K = some z by unfold calV cal; rw [if_pos q, h3]; exact h2) n2 hn kk
            · rename_i q
              cases h3
theorem dX1_fetchesWhen_0 : decode cX1_fetchesWhen 0 = .ok (.aload_n 0, 1) := by decide +kernel
theorem dX1_fetchesWhen_1 : decode cX1_fetchesWhen 1 = .ok (.getfield 7, 3) := by decide +kernel
theorem dX1_fetchesWhen_4 : decode cX1_fetchesWhen 4 = .ok (.aload_n 0, 1) := by decide +kernel
theorem dX1_fetchesWhen_5 : decode cX1_fetchesWhen 5 = .ok (.getfield 13, 3) := by decide +kernel
theorem dX1_fetchesWhen_8 : decode cX1_fetchesWhen 8 = .ok (.aaload, 1) := by decide +kernel
theorem dX1_fetchesWhen_9 : decode cX1_fetchesWhen 9 = .ok (.aload_n 0, 1) := by decide +kernel
theorem dX1_fetchesWhen_10 : decode cX1_fetchesWhen 10 = .ok (.getfield 20, 3) := by decide +kernel
theorem dX1_fetchesWhen_13 : decode cX1_fetchesWhen 13 = .ok (.iload_n 1, 1) := by decide +kernel
theorem dX1_fetchesWhen_14 : decode cX1_fetchesWhen 14 = .ok (.invokevirtual 39, 3) := by decide +kernel
theorem dX1_fetchesWhen_17 : decode cX1_fetchesWhen 17 = .ok (.ireturn, 1) := by decide +kernel
set_option maxRecDepth 100000 in
set_option maxHeartbeats 4000000 in
theorem c_X1_fetchesWhen {g : Gv} {l : Launch} (p0 : Nat) (p1 : Int32) (w0 : Wd) (rz : Int32) (wz : Wd) (hf : f_X1_fetchesWhen p0 p1 w0 = some (rz, wz)) : MI g l yX1_fetchesWhen cX1_fetchesWhen 2 .int 2 45 [rV g p0, .int p1] w0 rz wz := by
  refine mi_of RX1 (by decide) rfl (Nat.le_of_ble_eq_true rfl) ?_
  intro X hg hll C hr h0
  subst hg; subst hll
  unfold f_X1_fetchesWhen at hf
  refine k_sub (lv2 := [(0, rV (xg X) p0), (1, .int p1)]) [0, 1] rfl ?_
  refine k_aload_n C dX1_fetchesWhen_0 0 rfl rfl 1 rfl ?_
  refine k_getR C fe_X1_7 rfl dX1_fetchesWhen_1 hf 4 rfl (fun r7 hf => ?_)
  refine k_aload_n C dX1_fetchesWhen_4 0 rfl rfl 5 rfl ?_
  refine k_getI C fe_X1_13 rfl dX1_fetchesWhen_5 hf 8 rfl (fun x8 hf => ?_)
  refine k_aald18 C dX1_fetchesWhen_8 hf 9 rfl (fun r9 hf => ?_)
  refine k_aload_n C dX1_fetchesWhen_9 0 rfl rfl 10 rfl ?_
  refine k_getI C fe_X1_20 rfl dX1_fetchesWhen_10 hf 13 rfl (fun x10 hf => ?_)
  refine k_iload_n C dX1_fetchesWhen_13 1 rfl 14 rfl ?_
  refine kp_X1_39 C ⟨rfl, rfl⟩ ⟨rfl, rfl⟩ dX1_fetchesWhen_14 (Nat.le_of_ble_eq_true rfl) hf 17 rfl (fun x12 w11 hf => ?_)
  exact k_iret C hr h0 dX1_fetchesWhen_17 hf
theorem dX1_fetchedBy_0 : decode cX1_fetchedBy 0 = .ok (.iconst 0, 1) := by decide +kernel
theorem dX1_fetchedBy_1 : decode cX1_fetchedBy 1 = .ok (.istore_n 3, 1) := by decide +kernel
theorem dX1_fetchedBy_2 : decode cX1_fetchedBy 2 = .ok (.iconst 0, 1) := by decide +kernel
theorem dX1_fetchedBy_3 : decode cX1_fetchedBy 3 = .ok (.istore 4, 2) := by decide +kernel
theorem dX1_fetchedBy_5 : decode cX1_fetchedBy 5 = .ok (.iload 4, 2) := by decide +kernel
theorem dX1_fetchedBy_7 : decode cX1_fetchedBy 7 = .ok (.iload_n 1, 1) := by decide +kernel
theorem dX1_fetchedBy_8 : decode cX1_fetchedBy 8 = .ok (.if_icmp .ge 20, 3) := by decide +kernel
theorem dX1_fetchedBy_11 : decode cX1_fetchedBy 11 = .ok (.iload_n 3, 1) := by decide +kernel
theorem dX1_fetchedBy_12 : decode cX1_fetchedBy 12 = .ok (.aload_n 0, 1) := by decide +kernel
theorem dX1_fetchedBy_13 : decode cX1_fetchedBy 13 = .ok (.iload_n 2, 1) := by decide +kernel
theorem dX1_fetchedBy_14 : decode cX1_fetchedBy 14 = .ok (.iload 4, 2) := by decide +kernel
theorem dX1_fetchedBy_16 : decode cX1_fetchedBy 16 = .ok (.iadd, 1) := by decide +kernel
theorem dX1_fetchedBy_17 : decode cX1_fetchedBy 17 = .ok (.invokevirtual 43, 3) := by decide +kernel
theorem dX1_fetchedBy_20 : decode cX1_fetchedBy 20 = .ok (.iadd, 1) := by decide +kernel
theorem dX1_fetchedBy_21 : decode cX1_fetchedBy 21 = .ok (.istore_n 3, 1) := by decide +kernel
theorem dX1_fetchedBy_22 : decode cX1_fetchedBy 22 = .ok (.iinc 4 1, 3) := by decide +kernel
theorem dX1_fetchedBy_25 : decode cX1_fetchedBy 25 = .ok (.goto (-20), 3) := by decide +kernel
theorem dX1_fetchedBy_28 : decode cX1_fetchedBy 28 = .ok (.iload_n 3, 1) := by decide +kernel
theorem dX1_fetchedBy_29 : decode cX1_fetchedBy 29 = .ok (.ireturn, 1) := by decide +kernel
set_option maxRecDepth 100000 in
set_option maxHeartbeats 4000000 in
theorem c_X1_fetchedBy {g : Gv} {l : Launch} (p0 : Nat) (p1 : Int32) (p2 : Int32) (w0 : Wd) (rz : Int32) (wz : Wd) (hf : f_X1_fetchedBy p0 p1 p2 w0 = some (rz, wz)) : MI g l yX1_fetchedBy cX1_fetchedBy 5 .int 3 66 [rV g p0, .int p1, .int p2] w0 rz wz := by
  refine mi_of RX1 (by decide) rfl (Nat.le_of_ble_eq_true rfl) ?_
  intro X hg hll C hr h0
  subst hg; subst hll
  have t_5 : ∀ (n : Nat) (v0 : Nat) (v1 : Int32) (v2 : Int32) (v3 : Int32) (v4 : Int32) (w : Wd), f_X1_fetchedBy_5 n v0 v1 v2 v3 v4 w = some (rz, wz) → Wk X 0 0 (QI X w0 rz wz) w [(0, rV (xg X) v0), (1, .int v1), (2, .int v2), (3, .int v3), (4, .int v4)] 5 [] := by
    intro n
    induction n with
    | zero => intro v0 v1 v2 v3 v4 w hf; rw [f_X1_fetchedBy_5] at hf; cases hf
    | succ n5 ih5 =>
      intro v0 v1 v2 v3 v4 w hf
      rw [f_X1_fetchedBy_5] at hf
      refine k_iload C dX1_fetchedBy_5 4 rfl 7 rfl ?_
      refine k_iload_n C dX1_fetchedBy_7 1 rfl 8 rfl ?_
      refine k_icmp_ge C dX1_fetchedBy_8 hf 28 rfl 11 rfl (fun hf => ?_) (fun hf => ?_)
      · refine k_iload_n C dX1_fetchedBy_28 3 rfl 29 rfl ?_
        exact k_iret C hr h0 dX1_fetchedBy_29 hf
      · refine k_iload_n C dX1_fetchedBy_11 3 rfl 12 rfl ?_
        refine k_aload_n C dX1_fetchedBy_12 0 rfl rfl 13 rfl ?_
        refine k_iload_n C dX1_fetchedBy_13 2 rfl 14 rfl ?_
        refine k_iload C dX1_fetchedBy_14 4 rfl 16 rfl ?_
        refine k_iadd C dX1_fetchedBy_16 17 rfl ?_
        refine k_callV_i C ye_X1_fetchesWhen ve_X1_43 ⟨rfl, rfl⟩ ⟨rfl, rfl⟩ dX1_fetchedBy_17 [.int (v2 + v4)] rfl rfl (Nat.le_of_ble_eq_true rfl) (c_X1_fetchesWhen _ _ _) hf 20 rfl (fun x5 w4 hf => ?_)
        refine k_iadd C dX1_fetchedBy_20 21 rfl ?_
        refine k_nmi hf (fun x6 hf => ?_)
        refine k_istore_n C dX1_fetchedBy_21 rfl (by decide) [(3, .int x6), (0, rV (xg X) v0), (1, .int v1), (2, .int v2), (4, .int v4)] rfl 22 rfl ?_
        refine k_iinc C dX1_fetchedBy_22 4 rfl (by decide) (by decide) [(4, .int (v4 + (1 : Int32))), (3, .int x6), (0, rV (xg X) v0), (1, .int v1), (2, .int v2)] rfl 25 rfl ?_
        refine k_goto C dX1_fetchedBy_25 5 rfl ?_
        refine k_sub [2, 3, 4, 1, 0] rfl ?_
        exact ih5 _ _ _ _ _ w4 hf
  unfold f_X1_fetchedBy at hf
  refine k_sub (lv2 := [(0, rV (xg X) p0), (1, .int p1), (2, .int p2)]) [0, 1, 2] rfl ?_
  refine k_iconst C dX1_fetchedBy_0 (0) (by decide) 1 rfl ?_
  refine k_istore_n C dX1_fetchedBy_1 rfl (by decide) [(3, .int (0 : Int32)), (0, rV (xg X) p0), (1, .int p1), (2, .int p2)] rfl 2 rfl ?_
  refine k_iconst C dX1_fetchedBy_2 (0) (by decide) 3 rfl ?_
  refine k_istore C dX1_fetchedBy_3 (by decide) [(4, .int (0 : Int32)), (3, .int (0 : Int32)), (0, rV (xg X) p0), (1, .int p1), (2, .int p2)] rfl 5 rfl ?_
  refine k_sub [2, 3, 4, 1, 0] rfl ?_
  exact t_5 4096 _ _ _ _ _ w0 hf
theorem dX1_giveAway_0 : decode cX1_giveAway 0 = .ok (.aload_n 0, 1) := by decide +kernel
theorem dX1_giveAway_1 : decode cX1_giveAway 1 = .ok (.iload_n 1, 1) := by decide +kernel
theorem dX1_giveAway_2 : decode cX1_giveAway 2 = .ok (.aload_n 0, 1) := by decide +kernel
theorem dX1_giveAway_3 : decode cX1_giveAway 3 = .ok (.getfield 26, 3) := by decide +kernel
theorem dX1_giveAway_6 : decode cX1_giveAway 6 = .ok (.invokevirtual 47, 3) := by decide +kernel
theorem dX1_giveAway_9 : decode cX1_giveAway 9 = .ok (.istore_n 2, 1) := by decide +kernel
theorem dX1_giveAway_10 : decode cX1_giveAway 10 = .ok (.aload_n 0, 1) := by decide +kernel
theorem dX1_giveAway_11 : decode cX1_giveAway 11 = .ok (.dup, 1) := by decide +kernel
theorem dX1_giveAway_12 : decode cX1_giveAway 12 = .ok (.getfield 23, 3) := by decide +kernel
theorem dX1_giveAway_15 : decode cX1_giveAway 15 = .ok (.iload_n 1, 1) := by decide +kernel
theorem dX1_giveAway_16 : decode cX1_giveAway 16 = .ok (.isub, 1) := by decide +kernel
theorem dX1_giveAway_17 : decode cX1_giveAway 17 = .ok (.putfield 23, 3) := by decide +kernel
theorem dX1_giveAway_20 : decode cX1_giveAway 20 = .ok (.aload_n 0, 1) := by decide +kernel
theorem dX1_giveAway_21 : decode cX1_giveAway 21 = .ok (.dup, 1) := by decide +kernel
theorem dX1_giveAway_22 : decode cX1_giveAway 22 = .ok (.getfield 26, 3) := by decide +kernel
theorem dX1_giveAway_25 : decode cX1_giveAway 25 = .ok (.iload_n 1, 1) := by decide +kernel
theorem dX1_giveAway_26 : decode cX1_giveAway 26 = .ok (.iadd, 1) := by decide +kernel
theorem dX1_giveAway_27 : decode cX1_giveAway 27 = .ok (.putfield 26, 3) := by decide +kernel
theorem dX1_giveAway_30 : decode cX1_giveAway 30 = .ok (.iload_n 2, 1) := by decide +kernel
theorem dX1_giveAway_31 : decode cX1_giveAway 31 = .ok (.ireturn, 1) := by decide +kernel
set_option maxRecDepth 100000 in
set_option maxHeartbeats 4000000 in
theorem c_X1_giveAway {g : Gv} {l : Launch} (p0 : Nat) (p1 : Int32) (w0 : Wd) (rz : Int32) (wz : Wd) (hf : f_X1_giveAway p0 p1 w0 = some (rz, wz)) : MI g l yX1_giveAway cX1_giveAway 3 .int 4 90 [rV g p0, .int p1] w0 rz wz := by
  refine mi_of RX1 (by decide) rfl (Nat.le_of_ble_eq_true rfl) ?_
  intro X hg hll C hr h0
  subst hg; subst hll
  unfold f_X1_giveAway at hf
  refine k_sub (lv2 := [(0, rV (xg X) p0), (1, .int p1)]) [0, 1] rfl ?_
  refine k_aload_n C dX1_giveAway_0 0 rfl rfl 1 rfl ?_
  refine k_iload_n C dX1_giveAway_1 1 rfl 2 rfl ?_
  refine k_aload_n C dX1_giveAway_2 0 rfl rfl 3 rfl ?_
  refine k_getI C fe_X1_26 rfl dX1_giveAway_3 hf 6 rfl (fun x8 hf => ?_)
  refine k_callV_i C ye_X1_fetchedBy ve_X1_47 ⟨rfl, rfl⟩ ⟨rfl, rfl⟩ dX1_giveAway_6 [.int p1, .int x8] rfl rfl (Nat.le_of_ble_eq_true rfl) (c_X1_fetchedBy _ _ _ _) hf 9 rfl (fun x10 w9 hf => ?_)
  refine k_istore_n C dX1_giveAway_9 rfl (by decide) [(2, .int x10), (0, rV (xg X) p0), (1, .int p1)] rfl 10 rfl ?_
  refine k_aload_n C dX1_giveAway_10 1 rfl rfl 11 rfl ?_
  refine k_dup C dX1_giveAway_11 rfl 12 rfl ?_
  refine k_getI C fe_X1_23 rfl dX1_giveAway_12 hf 15 rfl (fun x11 hf => ?_)
  refine k_iload_n C dX1_giveAway_15 2 rfl 16 rfl ?_
  refine k_isub C dX1_giveAway_16 17 rfl ?_
  refine k_putI C fe_X1_23 rfl rfl dX1_giveAway_17 hf 20 rfl (fun w12 _ hf => ?_)
  refine k_aload_n C dX1_giveAway_20 1 rfl rfl 21 rfl ?_
  refine k_dup C dX1_giveAway_21 rfl 22 rfl ?_
  refine k_getI C fe_X1_26 rfl dX1_giveAway_22 hf 25 rfl (fun x13 hf => ?_)
  refine k_iload_n C dX1_giveAway_25 2 rfl 26 rfl ?_
  refine k_iadd C dX1_giveAway_26 27 rfl ?_
  refine k_putI C fe_X1_26 rfl rfl dX1_giveAway_27 hf 30 rfl (fun w14 _ hf => ?_)
  refine k_iload_n C dX1_giveAway_30 0 rfl 31 rfl ?_
  exact k_iret C hr h0 dX1_giveAway_31 hf
theorem dX1_groundIn_0 : decode cX1_groundIn 0 = .ok (.aload_n 0, 1) := by decide +kernel
theorem dX1_groundIn_1 : decode cX1_groundIn 1 = .ok (.getfield 7, 3) := by decide +kernel
theorem dX1_groundIn_4 : decode cX1_groundIn 4 = .ok (.aload_n 0, 1) := by decide +kernel
theorem dX1_groundIn_5 : decode cX1_groundIn 5 = .ok (.getfield 13, 3) := by decide +kernel
theorem dX1_groundIn_8 : decode cX1_groundIn 8 = .ok (.aaload, 1) := by decide +kernel
theorem dX1_groundIn_9 : decode cX1_groundIn 9 = .ok (.aload_n 0, 1) := by decide +kernel
theorem dX1_groundIn_10 : decode cX1_groundIn 10 = .ok (.getfield 17, 3) := by decide +kernel
theorem dX1_groundIn_13 : decode cX1_groundIn 13 = .ok (.iload_n 1, 1) := by decide +kernel
theorem dX1_groundIn_14 : decode cX1_groundIn 14 = .ok (.iload_n 2, 1) := by decide +kernel
theorem dX1_groundIn_15 : decode cX1_groundIn 15 = .ok (.invokevirtual 33, 3) := by decide +kernel
theorem dX1_groundIn_18 : decode cX1_groundIn 18 = .ok (.ireturn, 1) := by decide +kernel
set_option maxRecDepth 100000 in
set_option maxHeartbeats 4000000 in
theorem c_X1_groundIn {g : Gv} {l : Launch} (p0 : Nat) (p1 : Int32) (p2 : Int32) (w0 : Wd) (rz : Int32) (wz : Wd) (hf : f_X1_groundIn p0 p1 p2 w0 = some (rz, wz)) : MI g l yX1_groundIn cX1_groundIn 3 .int 3 70 [rV g p0, .int p1, .int p2] w0 rz wz := by
  refine mi_of RX1 (by decide) rfl (Nat.le_of_ble_eq_true rfl) ?_
  intro X hg hll C hr h0
  subst hg; subst hll
  unfold f_X1_groundIn at hf
  refine k_sub (lv2 := [(0, rV (xg X) p0), (1, .int p1), (2, .int p2)]) [0, 1, 2] rfl ?_
  refine k_aload_n C dX1_groundIn_0 0 rfl rfl 1 rfl ?_
  refine k_getR C fe_X1_7 rfl dX1_groundIn_1 hf 4 rfl (fun r7 hf => ?_)
  refine k_aload_n C dX1_groundIn_4 0 rfl rfl 5 rfl ?_
  refine k_getI C fe_X1_13 rfl dX1_groundIn_5 hf 8 rfl (fun x8 hf => ?_)
  refine k_aald18 C dX1_groundIn_8 hf 9 rfl (fun r9 hf => ?_)
  refine k_aload_n C dX1_groundIn_9 0 rfl rfl 10 rfl ?_
  refine k_getI C fe_X1_17 rfl dX1_groundIn_10 hf 13 rfl (fun x10 hf => ?_)
  refine k_iload_n C dX1_groundIn_13 1 rfl 14 rfl ?_
  refine k_iload_n C dX1_groundIn_14 2 rfl 15 rfl ?_
  refine kp_X1_33 C ⟨rfl, rfl⟩ ⟨rfl, rfl⟩ dX1_groundIn_15 (Nat.le_of_ble_eq_true rfl) hf 18 rfl (fun x12 w11 hf => ?_)
  exact k_iret C hr h0 dX1_groundIn_18 hf
theorem dX1_mixInto_0 : decode cX1_mixInto 0 = .ok (.ldc2_w 50, 3) := by decide +kernel
theorem dX1_mixInto_3 : decode cX1_mixInto 3 = .ok (.lload_n 1, 1) := by decide +kernel
theorem dX1_mixInto_4 : decode cX1_mixInto 4 = .ok (.lmul, 1) := by decide +kernel
theorem dX1_mixInto_5 : decode cX1_mixInto 5 = .ok (.aload_n 0, 1) := by decide +kernel
theorem dX1_mixInto_6 : decode cX1_mixInto 6 = .ok (.getfield 13, 3) := by decide +kernel
theorem dX1_mixInto_9 : decode cX1_mixInto 9 = .ok (.i2l, 1) := by decide +kernel
theorem dX1_mixInto_10 : decode cX1_mixInto 10 = .ok (.ladd, 1) := by decide +kernel
theorem dX1_mixInto_11 : decode cX1_mixInto 11 = .ok (.lstore_n 3, 1) := by decide +kernel
theorem dX1_mixInto_12 : decode cX1_mixInto 12 = .ok (.ldc2_w 50, 3) := by decide +kernel
theorem dX1_mixInto_15 : decode cX1_mixInto 15 = .ok (.lload_n 3, 1) := by decide +kernel
theorem dX1_mixInto_16 : decode cX1_mixInto 16 = .ok (.lmul, 1) := by decide +kernel
theorem dX1_mixInto_17 : decode cX1_mixInto 17 = .ok (.aload_n 0, 1) := by decide +kernel
theorem dX1_mixInto_18 : decode cX1_mixInto 18 = .ok (.getfield 17, 3) := by decide +kernel
theorem dX1_mixInto_21 : decode cX1_mixInto 21 = .ok (.i2l, 1) := by decide +kernel
theorem dX1_mixInto_22 : decode cX1_mixInto 22 = .ok (.ladd, 1) := by decide +kernel
theorem dX1_mixInto_23 : decode cX1_mixInto 23 = .ok (.lstore_n 3, 1) := by decide +kernel
theorem dX1_mixInto_24 : decode cX1_mixInto 24 = .ok (.ldc2_w 50, 3) := by decide +kernel
theorem dX1_mixInto_27 : decode cX1_mixInto 27 = .ok (.lload_n 3, 1) := by decide +kernel
theorem dX1_mixInto_28 : decode cX1_mixInto 28 = .ok (.lmul, 1) := by decide +kernel
theorem dX1_mixInto_29 : decode cX1_mixInto 29 = .ok (.aload_n 0, 1) := by decide +kernel
theorem dX1_mixInto_30 : decode cX1_mixInto 30 = .ok (.getfield 20, 3) := by decide +kernel
theorem dX1_mixInto_33 : decode cX1_mixInto 33 = .ok (.i2l, 1) := by decide +kernel
theorem dX1_mixInto_34 : decode cX1_mixInto 34 = .ok (.ladd, 1) := by decide +kernel
theorem dX1_mixInto_35 : decode cX1_mixInto 35 = .ok (.lstore_n 3, 1) := by decide +kernel
theorem dX1_mixInto_36 : decode cX1_mixInto 36 = .ok (.ldc2_w 50, 3) := by decide +kernel
theorem dX1_mixInto_39 : decode cX1_mixInto 39 = .ok (.lload_n 3, 1) := by decide +kernel
theorem dX1_mixInto_40 : decode cX1_mixInto 40 = .ok (.lmul, 1) := by decide +kernel
theorem dX1_mixInto_41 : decode cX1_mixInto 41 = .ok (.aload_n 0, 1) := by decide +kernel
theorem dX1_mixInto_42 : decode cX1_mixInto 42 = .ok (.getfield 23, 3) := by decide +kernel
theorem dX1_mixInto_45 : decode cX1_mixInto 45 = .ok (.i2l, 1) := by decide +kernel
theorem dX1_mixInto_46 : decode cX1_mixInto 46 = .ok (.ladd, 1) := by decide +kernel
theorem dX1_mixInto_47 : decode cX1_mixInto 47 = .ok (.lstore_n 3, 1) := by decide +kernel
theorem dX1_mixInto_48 : decode cX1_mixInto 48 = .ok (.ldc2_w 50, 3) := by decide +kernel
theorem dX1_mixInto_51 : decode cX1_mixInto 51 = .ok (.lload_n 3, 1) := by decide +kernel
theorem dX1_mixInto_52 : decode cX1_mixInto 52 = .ok (.lmul, 1) := by decide +kernel
theorem dX1_mixInto_53 : decode cX1_mixInto 53 = .ok (.aload_n 0, 1) := by decide +kernel
theorem dX1_mixInto_54 : decode cX1_mixInto 54 = .ok (.getfield 26, 3) := by decide +kernel
theorem dX1_mixInto_57 : decode cX1_mixInto 57 = .ok (.i2l, 1) := by decide +kernel
theorem dX1_mixInto_58 : decode cX1_mixInto 58 = .ok (.ladd, 1) := by decide +kernel
theorem dX1_mixInto_59 : decode cX1_mixInto 59 = .ok (.lreturn, 1) := by decide +kernel
set_option maxRecDepth 100000 in
set_option maxHeartbeats 4000000 in
theorem c_X1_mixInto {g : Gv} {l : Launch} (p0 : Nat) (p1 : Int64) (w0 : Wd) (rz : Int64) (wz : Wd) (hf : f_X1_mixInto p0 p1 w0 = some (rz, wz)) : ML g l yX1_mixInto cX1_mixInto 5 0 0 [rV g p0, .long p1] w0 rz wz := by
  refine ml_of RX1 (by decide) rfl (Nat.le_of_ble_eq_true rfl) ?_
  intro X hg hll C hr h0
  subst hg; subst hll
  unfold f_X1_mixInto at hf
  refine k_sub (lv2 := [(0, rV (xg X) p0), (1, .long p1)]) [0, 1] rfl ?_
  refine k_ldc2 C dX1_mixInto_0 mcst_X1_50 3 rfl ?_
  refine k_lload_n C dX1_mixInto_3 1 rfl 4 rfl ?_
  refine k_lmul C dX1_mixInto_4 5 rfl ?_
  refine k_aload_n C dX1_mixInto_5 0 rfl rfl 6 rfl ?_
  refine k_getI C fe_X1_13 rfl dX1_mixInto_6 hf 9 rfl (fun x10 hf => ?_)
  refine k_i2l C dX1_mixInto_9 10 rfl ?_
  refine k_ladd C dX1_mixInto_10 11 rfl ?_
  refine k_nml hf (fun x11 hf => ?_)
  refine k_lstore_n C dX1_mixInto_11 rfl (by decide) [(3, .long x11), (0, rV (xg X) p0), (1, .long p1)] rfl 12 rfl ?_
  refine k_ldc2 C dX1_mixInto_12 mcst_X1_50 15 rfl ?_
  refine k_lload_n C dX1_mixInto_15 0 rfl 16 rfl ?_
  refine k_lmul C dX1_mixInto_16 17 rfl ?_
  refine k_aload_n C dX1_mixInto_17 1 rfl rfl 18 rfl ?_
  refine k_getI C fe_X1_17 rfl dX1_mixInto_18 hf 21 rfl (fun x12 hf => ?_)
  refine k_i2l C dX1_mixInto_21 22 rfl ?_
  refine k_ladd C dX1_mixInto_22 23 rfl ?_
  refine k_nml hf (fun x13 hf => ?_)
  refine k_lstore_n C dX1_mixInto_23 rfl (by decide) [(3, .long x13), (0, rV (xg X) p0), (1, .long p1)] rfl 24 rfl ?_
  refine k_ldc2 C dX1_mixInto_24 mcst_X1_50 27 rfl ?_
  refine k_lload_n C dX1_mixInto_27 0 rfl 28 rfl ?_
  refine k_lmul C dX1_mixInto_28 29 rfl ?_
  refine k_aload_n C dX1_mixInto_29 1 rfl rfl 30 rfl ?_
  refine k_getI C fe_X1_20 rfl dX1_mixInto_30 hf 33 rfl (fun x14 hf => ?_)
  refine k_i2l C dX1_mixInto_33 34 rfl ?_
  refine k_ladd C dX1_mixInto_34 35 rfl ?_
  refine k_nml hf (fun x15 hf => ?_)
  refine k_lstore_n C dX1_mixInto_35 rfl (by decide) [(3, .long x15), (0, rV (xg X) p0), (1, .long p1)] rfl 36 rfl ?_
  refine k_ldc2 C dX1_mixInto_36 mcst_X1_50 39 rfl ?_
  refine k_lload_n C dX1_mixInto_39 0 rfl 40 rfl ?_
  refine k_lmul C dX1_mixInto_40 41 rfl ?_
  refine k_aload_n C dX1_mixInto_41 1 rfl rfl 42 rfl ?_
  refine k_getI C fe_X1_23 rfl dX1_mixInto_42 hf 45 rfl (fun x16 hf => ?_)
  refine k_i2l C dX1_mixInto_45 46 rfl ?_
  refine k_ladd C dX1_mixInto_46 47 rfl ?_
  refine k_nml hf (fun x17 hf => ?_)
  refine k_lstore_n C dX1_mixInto_47 rfl (by decide) [(3, .long x17), (0, rV (xg X) p0), (1, .long p1)] rfl 48 rfl ?_
  refine k_ldc2 C dX1_mixInto_48 mcst_X1_50 51 rfl ?_
  refine k_lload_n C dX1_mixInto_51 0 rfl 52 rfl ?_
  refine k_lmul C dX1_mixInto_52 53 rfl ?_
  refine k_aload_n C dX1_mixInto_53 1 rfl rfl 54 rfl ?_
  refine k_getI C fe_X1_26 rfl dX1_mixInto_54 hf 57 rfl (fun x18 hf => ?_)
  refine k_i2l C dX1_mixInto_57 58 rfl ?_
  refine k_ladd C dX1_mixInto_58 59 rfl ?_
  exact k_lret C hr h0 dX1_mixInto_59 hf
theorem dX2_addGoods_0 : decode cX2_addGoods 0 = .ok (.aload_n 0, 1) := by decide +kernel
theorem dX2_addGoods_1 : decode cX2_addGoods 1 = .ok (.getfield 57, 3) := by decide +kernel
theorem dX2_addGoods_4 : decode cX2_addGoods 4 = .ok (.bipush 6, 2) := by decide +kernel
theorem dX2_addGoods_6 : decode cX2_addGoods 6 = .ok (.if_icmp .lt 4, 3) := by decide +kernel
theorem dX2_addGoods_9 : decode cX2_addGoods 9 = .ok (.return_, 1) := by decide +kernel
theorem dX2_addGoods_10 : decode cX2_addGoods 10 = .ok (.aload_n 0, 1) := by decide +kernel
theorem dX2_addGoods_11 : decode cX2_addGoods 11 = .ok (.getfield 11, 3) := by decide +kernel
theorem dX2_addGoods_14 : decode cX2_addGoods 14 = .ok (.aload_n 0, 1) := by decide +kernel
theorem dX2_addGoods_15 : decode cX2_addGoods 15 = .ok (.getfield 57, 3) := by decide +kernel
theorem dX2_addGoods_18 : decode cX2_addGoods 18 = .ok (.aaload, 1) := by decide +kernel
theorem dX2_addGoods_19 : decode cX2_addGoods 19 = .ok (.iload_n 1, 1) := by decide +kernel
theorem dX2_addGoods_20 : decode cX2_addGoods 20 = .ok (.iload_n 2, 1) := by decide +kernel
theorem dX2_addGoods_21 : decode cX2_addGoods 21 = .ok (.iload_n 3, 1) := by decide +kernel
theorem dX2_addGoods_22 : decode cX2_addGoods 22 = .ok (.invokevirtual 82, 3) := by decide +kernel
theorem dX2_addGoods_25 : decode cX2_addGoods 25 = .ok (.aload_n 0, 1) := by decide +kernel
theorem dX2_addGoods_26 : decode cX2_addGoods 26 = .ok (.dup, 1) := by decide +kernel
theorem dX2_addGoods_27 : decode cX2_addGoods 27 = .ok (.getfield 57, 3) := by decide +kernel
theorem dX2_addGoods_30 : decode cX2_addGoods 30 = .ok (.iconst 1, 1) := by decide +kernel
theorem dX2_addGoods_31 : decode cX2_addGoods 31 = .ok (.iadd, 1) := by decide +kernel
theorem dX2_addGoods_32 : decode cX2_addGoods 32 = .ok (.putfield 57, 3) := by decide +kernel
theorem dX2_addGoods_35 : decode cX2_addGoods 35 = .ok (.aload_n 0, 1) := by decide +kernel
theorem dX2_addGoods_36 : decode cX2_addGoods 36 = .ok (.iconst 0, 1) := by decide +kernel
theorem dX2_addGoods_37 : decode cX2_addGoods 37 = .ok (.putfield 60, 3) := by decide +kernel
theorem dX2_addGoods_40 : decode cX2_addGoods 40 = .ok (.return_, 1) := by decide +kernel
set_option maxRecDepth 100000 in
set_option maxHeartbeats 4000000 in
theorem c_X2_addGoods {g : Gv} {l : Launch} (p0 : Nat) (p1 : Int32) (p2 : Int32) (p3 : Int32) (w0 : Wd) (wz : Wd) (hf : f_X2_addGoods p0 p1 p2 p3 w0 = some ((), wz)) : MV g l yX2_addGoods cX2_addGoods 4 1 23 0 0 [rV g p0, .int p1, .int p2, .int p3] w0 wz := by
  refine mv_of RX2 (by decide) rfl (Nat.le_of_ble_eq_true rfl) ?_
  intro X hg hll C hr h0 hin
  subst hg; subst hll
  unfold f_X2_addGoods at hf
  refine k_sub (lv2 := [(0, rV (xg X) p0), (1, .int p1), (2, .int p2), (3, .int p3)]) [0, 1, 2, 3] rfl ?_
  refine k_aload_n C dX2_addGoods_0 0 rfl rfl 1 rfl ?_
  refine k_getI C fe_X2_57 rfl dX2_addGoods_1 hf 4 rfl (fun x10 hf => ?_)
  refine k_bipush C dX2_addGoods_4 (6) (by decide) 6 rfl ?_
  refine k_icmp_lt C dX2_addGoods_6 hf 10 rfl 9 rfl (fun hf => ?_) (fun hf => ?_)
  · refine k_aload_n C dX2_addGoods_10 0 rfl rfl 11 rfl ?_
    refine k_getR C fe_X2_11 rfl dX2_addGoods_11 hf 14 rfl (fun r11 hf => ?_)
    refine k_aload_n C dX2_addGoods_14 0 rfl rfl 15 rfl ?_
    refine k_getI C fe_X2_57 rfl dX2_addGoods_15 hf 18 rfl (fun x12 hf => ?_)
    refine k_aald16 C dX2_addGoods_18 hf 19 rfl (fun r13 hf => ?_)
    refine k_iload_n C dX2_addGoods_19 1 rfl 20 rfl ?_
    refine k_iload_n C dX2_addGoods_20 2 rfl 21 rfl ?_
    refine k_iload_n C dX2_addGoods_21 3 rfl 22 rfl ?_
    refine k_callV_v C ye_X1_become ve_X2_82 ⟨rfl, rfl⟩ ⟨rfl, rfl⟩ dX2_addGoods_22 [.int p1, .int p2, .int p3] rfl rfl (Nat.le_of_ble_eq_true rfl) (c_X1_become _ _ _ _ _) hf 25 rfl (fun w14 hf => ?_)
    refine k_aload_n C dX2_addGoods_25 0 rfl rfl 26 rfl ?_
    refine k_dup C dX2_addGoods_26 rfl 27 rfl ?_
    refine k_getI C fe_X2_57 rfl dX2_addGoods_27 hf 30 rfl (fun x16 hf => ?_)
    refine k_iconst C dX2_addGoods_30 (1) (by decide) 31 rfl ?_
    refine k_iadd C dX2_addGoods_31 32 rfl ?_
    refine k_putI C fe_X2_57 rfl rfl dX2_addGoods_32 hf 35 rfl (fun w17 _ hf => ?_)
    refine k_aload_n C dX2_addGoods_35 0 rfl rfl 36 rfl ?_
    refine k_iconst C dX2_addGoods_36 (0) (by decide) 37 rfl ?_
    refine k_putI C fe_X2_60 rfl rfl dX2_addGoods_37 hf 40 rfl (fun w18 _ hf => ?_)
    exact k_vret C hr h0 dX2_addGoods_40 hf
  · exact k_vret C hr h0 dX2_addGoods_9 hf
theorem dX2_allBushels_0 : decode cX2_allBushels 0 = .ok (.iconst 0, 1) := by decide +kernel
theorem dX2_allBushels_1 : decode cX2_allBushels 1 = .ok (.istore_n 1, 1) := by decide +kernel
theorem dX2_allBushels_2 : decode cX2_allBushels 2 = .ok (.iconst 0, 1) := by decide +kernel
theorem dX2_allBushels_3 : decode cX2_allBushels 3 = .ok (.istore_n 2, 1) := by decide +kernel
theorem dX2_allBushels_4 : decode cX2_allBushels 4 = .ok (.iload_n 2, 1) := by decide +kernel
theorem dX2_allBushels_5 : decode cX2_allBushels 5 = .ok (.aload_n 0, 1) := by decide +kernel
theorem dX2_allBushels_6 : decode cX2_allBushels 6 = .ok (.getfield 57, 3) := by decide +kernel
theorem dX2_allBushels_9 : decode cX2_allBushels 9 = .ok (.if_icmp .ge 21, 3) := by decide +kernel
theorem dX2_allBushels_12 : decode cX2_allBushels 12 = .ok (.iload_n 1, 1) := by decide +kernel
theorem dX2_allBushels_13 : decode cX2_allBushels 13 = .ok (.aload_n 0, 1) := by decide +kernel
theorem dX2_allBushels_14 : decode cX2_allBushels 14 = .ok (.getfield 11, 3) := by decide +kernel
theorem dX2_allBushels_17 : decode cX2_allBushels 17 = .ok (.iload_n 2, 1) := by decide +kernel
theorem dX2_allBushels_18 : decode cX2_allBushels 18 = .ok (.aaload, 1) := by decide +kernel
theorem dX2_allBushels_19 : decode cX2_allBushels 19 = .ok (.getfield 86, 3) := by decide +kernel
theorem dX2_allBushels_22 : decode cX2_allBushels 22 = .ok (.iadd, 1) := by decide +kernel
theorem dX2_allBushels_23 : decode cX2_allBushels 23 = .ok (.istore_n 1, 1) := by decide +kernel
theorem dX2_allBushels_24 : decode cX2_allBushels 24 = .ok (.iinc 2 1, 3) := by decide +kernel
theorem dX2_allBushels_27 : decode cX2_allBushels 27 = .ok (.goto (-23), 3) := by decide +kernel
theorem dX2_allBushels_30 : decode cX2_allBushels 30 = .ok (.iload_n 1, 1) := by decide +kernel
theorem dX2_allBushels_31 : decode cX2_allBushels 31 = .ok (.ireturn, 1) := by decide +kernel
set_option maxRecDepth 100000 in
set_option maxHeartbeats 4000000 in
theorem c_X2_allBushels {g : Gv} {l : Launch} (p0 : Nat) (w0 : Wd) (rz : Int32) (wz : Wd) (hf : f_X2_allBushels p0 w0 = some (rz, wz)) : MI g l yX2_allBushels cX2_allBushels 3 .int 0 0 [rV g p0] w0 rz wz := by
  refine mi_of RX2 (by decide) rfl (Nat.le_of_ble_eq_true rfl) ?_
  intro X hg hll C hr h0
  subst hg; subst hll
  have t_4 : ∀ (n : Nat) (v0 : Nat) (v1 : Int32) (v2 : Int32) (w : Wd), f_X2_allBushels_4 n v0 v1 v2 w = some (rz, wz) → Wk X 0 0 (QI X w0 rz wz) w [(0, rV (xg X) v0), (1, .int v1), (2, .int v2)] 4 [] := by
    intro n
    induction n with
    | zero => intro v0 v1 v2 w hf; rw [f_X2_allBushels_4] at hf; cases hf
    | succ n4 ih4 =>
      intro v0 v1 v2 w hf
      rw [f_X2_allBushels_4] at hf
      refine k_iload_n C dX2_allBushels_4 2 rfl 5 rfl ?_
      refine k_aload_n C dX2_allBushels_5 0 rfl rfl 6 rfl ?_
      refine k_getI C fe_X2_57 rfl dX2_allBushels_6 hf 9 rfl (fun x6 hf => ?_)
      refine k_icmp_ge C dX2_allBushels_9 hf 30 rfl 12 rfl (fun hf => ?_) (fun hf => ?_)
      · refine k_iload_n C dX2_allBushels_30 1 rfl 31 rfl ?_
        exact k_iret C hr h0 dX2_allBushels_31 hf
      · refine k_iload_n C dX2_allBushels_12 1 rfl 13 rfl ?_
        refine k_aload_n C dX2_allBushels_13 0 rfl rfl 14 rfl ?_
        refine k_getR C fe_X2_11 rfl dX2_allBushels_14 hf 17 rfl (fun r7 hf => ?_)
        refine k_iload_n C dX2_allBushels_17 2 rfl 18 rfl ?_
        refine k_aald16 C dX2_allBushels_18 hf 19 rfl (fun r8 hf => ?_)
        refine k_getI C fe_X2_86 rfl dX2_allBushels_19 hf 22 rfl (fun x9 hf => ?_)
        refine k_iadd C dX2_allBushels_22 23 rfl ?_
        refine k_nmi hf (fun x10 hf => ?_)
        refine k_istore_n C dX2_allBushels_23 rfl (by decide) [(1, .int x10), (0, rV (xg X) v0), (2, .int v2)] rfl 24 rfl ?_
        refine k_iinc C dX2_allBushels_24 2 rfl (by decide) (by decide) [(2, .int (v2 + (1 : Int32))), (1, .int x10), (0, rV (xg X) v0)] rfl 27 rfl ?_
        refine k_goto C dX2_allBushels_27 4 rfl ?_
        refine k_sub [2, 1, 0] rfl ?_
        exact ih4 _ _ _ w hf
  unfold f_X2_allBushels at hf
  refine k_sub (lv2 := [(0, rV (xg X) p0)]) [0] rfl ?_
  refine k_iconst C dX2_allBushels_0 (0) (by decide) 1 rfl ?_
  refine k_istore_n C dX2_allBushels_1 rfl (by decide) [(1, .int (0 : Int32)), (0, rV (xg X) p0)] rfl 2 rfl ?_
  refine k_iconst C dX2_allBushels_2 (0) (by decide) 3 rfl ?_
  refine k_istore_n C dX2_allBushels_3 rfl (by decide) [(2, .int (0 : Int32)), (1, .int (0 : Int32)), (0, rV (xg X) p0)] rfl 4 rfl ?_
  refine k_sub [2, 1, 0] rfl ?_
  exact t_4 4096 _ _ _ w0 hf
theorem dX2_copyFrom_0 : decode cX2_copyFrom 0 = .ok (.aload_n 0, 1) := by decide +kernel
theorem dX2_copyFrom_1 : decode cX2_copyFrom 1 = .ok (.aload_n 1, 1) := by decide +kernel
theorem dX2_copyFrom_2 : decode cX2_copyFrom 2 = .ok (.getfield 35, 3) := by decide +kernel
theorem dX2_copyFrom_5 : decode cX2_copyFrom 5 = .ok (.putfield 35, 3) := by decide +kernel
theorem dX2_copyFrom_8 : decode cX2_copyFrom 8 = .ok (.aload_n 0, 1) := by decide +kernel
theorem dX2_copyFrom_9 : decode cX2_copyFrom 9 = .ok (.aload_n 1, 1) := by decide +kernel
theorem dX2_copyFrom_10 : decode cX2_copyFrom 10 = .ok (.getfield 39, 3) := by decide +kernel
theorem dX2_copyFrom_13 : decode cX2_copyFrom 13 = .ok (.putfield 39, 3) := by decide +kernel
theorem dX2_copyFrom_16 : decode cX2_copyFrom 16 = .ok (.aload_n 0, 1) := by decide +kernel
theorem dX2_copyFrom_17 : decode cX2_copyFrom 17 = .ok (.aload_n 1, 1) := by decide +kernel
theorem dX2_copyFrom_18 : decode cX2_copyFrom 18 = .ok (.getfield 42, 3) := by decide +kernel
theorem dX2_copyFrom_21 : decode cX2_copyFrom 21 = .ok (.putfield 42, 3) := by decide +kernel
theorem dX2_copyFrom_24 : decode cX2_copyFrom 24 = .ok (.aload_n 0, 1) := by decide +kernel
theorem dX2_copyFrom_25 : decode cX2_copyFrom 25 = .ok (.aload_n 1, 1) := by decide +kernel
theorem dX2_copyFrom_26 : decode cX2_copyFrom 26 = .ok (.getfield 45, 3) := by decide +kernel
theorem dX2_copyFrom_29 : decode cX2_copyFrom 29 = .ok (.putfield 45, 3) := by decide +kernel
theorem dX2_copyFrom_32 : decode cX2_copyFrom 32 = .ok (.aload_n 0, 1) := by decide +kernel
theorem dX2_copyFrom_33 : decode cX2_copyFrom 33 = .ok (.aload_n 1, 1) := by decide +kernel
theorem dX2_copyFrom_34 : decode cX2_copyFrom 34 = .ok (.getfield 48, 3) := by decide +kernel
theorem dX2_copyFrom_37 : decode cX2_copyFrom 37 = .ok (.putfield 48, 3) := by decide +kernel
theorem dX2_copyFrom_40 : decode cX2_copyFrom 40 = .ok (.aload_n 0, 1) := by decide +kernel
theorem dX2_copyFrom_41 : decode cX2_copyFrom 41 = .ok (.aload_n 1, 1) := by decide +kernel
theorem dX2_copyFrom_42 : decode cX2_copyFrom 42 = .ok (.getfield 51, 3) := by decide +kernel
theorem dX2_copyFrom_45 : decode cX2_copyFrom 45 = .ok (.putfield 51, 3) := by decide +kernel
theorem dX2_copyFrom_48 : decode cX2_copyFrom 48 = .ok (.aload_n 0, 1) := by decide +kernel
theorem dX2_copyFrom_49 : decode cX2_copyFrom 49 = .ok (.aload_n 1, 1) := by decide +kernel
theorem dX2_copyFrom_50 : decode cX2_copyFrom 50 = .ok (.getfield 54, 3) := by decide +kernel
theorem dX2_copyFrom_53 : decode cX2_copyFrom 53 = .ok (.putfield 54, 3) := by decide +kernel
theorem dX2_copyFrom_56 : decode cX2_copyFrom 56 = .ok (.aload_n 0, 1) := by decide +kernel
theorem dX2_copyFrom_57 : decode cX2_copyFrom 57 = .ok (.aload_n 1, 1) := by decide +kernel
theorem dX2_copyFrom_58 : decode cX2_copyFrom 58 = .ok (.getfield 57, 3) := by decide +kernel
theorem dX2_copyFrom_61 : decode cX2_copyFrom 61 = .ok (.putfield 57, 3) := by decide +kernel
theorem dX2_copyFrom_64 : decode cX2_copyFrom 64 = .ok (.iconst 0, 1) := by decide +kernel
theorem dX2_copyFrom_65 : decode cX2_copyFrom 65 = .ok (.istore_n 2, 1) := by decide +kernel
theorem dX2_copyFrom_66 : decode cX2_copyFrom 66 = .ok (.iload_n 2, 1) := by decide +kernel
theorem dX2_copyFrom_67 : decode cX2_copyFrom 67 = .ok (.aload_n 0, 1) := by decide +kernel
theorem dX2_copyFrom_68 : decode cX2_copyFrom 68 = .ok (.getfield 57, 3) := by decide +kernel
theorem dX2_copyFrom_71 : decode cX2_copyFrom 71 = .ok (.if_icmp .ge 24, 3) := by decide +kernel
theorem dX2_copyFrom_74 : decode cX2_copyFrom 74 = .ok (.aload_n 0, 1) := by decide +kernel
theorem dX2_copyFrom_75 : decode cX2_copyFrom 75 = .ok (.getfield 11, 3) := by decide +kernel
theorem dX2_copyFrom_78 : decode cX2_copyFrom 78 = .ok (.iload_n 2, 1) := by decide +kernel
theorem dX2_copyFrom_79 : decode cX2_copyFrom 79 = .ok (.aaload, 1) := by decide +kernel
theorem dX2_copyFrom_80 : decode cX2_copyFrom 80 = .ok (.aload_n 1, 1) := by decide +kernel
theorem dX2_copyFrom_81 : decode cX2_copyFrom 81 = .ok (.getfield 11, 3) := by decide +kernel
theorem dX2_copyFrom_84 : decode cX2_copyFrom 84 = .ok (.iload_n 2, 1) := by decide +kernel
theorem dX2_copyFrom_85 : decode cX2_copyFrom 85 = .ok (.aaload, 1) := by decide +kernel
theorem dX2_copyFrom_86 : decode cX2_copyFrom 86 = .ok (.invokevirtual 69, 3) := by decide +kernel
theorem dX2_copyFrom_89 : decode cX2_copyFrom 89 = .ok (.iinc 2 1, 3) := by decide +kernel
theorem dX2_copyFrom_92 : decode cX2_copyFrom 92 = .ok (.goto (-26), 3) := by decide +kernel
theorem dX2_copyFrom_95 : decode cX2_copyFrom 95 = .ok (.aload_n 0, 1) := by decide +kernel
theorem dX2_copyFrom_96 : decode cX2_copyFrom 96 = .ok (.aload_n 1, 1) := by decide +kernel
theorem dX2_copyFrom_97 : decode cX2_copyFrom 97 = .ok (.getfield 60, 3) := by decide +kernel
theorem dX2_copyFrom_100 : decode cX2_copyFrom 100 = .ok (.putfield 60, 3) := by decide +kernel
theorem dX2_copyFrom_103 : decode cX2_copyFrom 103 = .ok (.aload_n 1, 1) := by decide +kernel
theorem dX2_copyFrom_104 : decode cX2_copyFrom 104 = .ok (.getfield 17, 3) := by decide +kernel
theorem dX2_copyFrom_107 : decode cX2_copyFrom 107 = .ok (.iconst 0, 1) := by decide +kernel
theorem dX2_copyFrom_108 : decode cX2_copyFrom 108 = .ok (.aload_n 0, 1) := by decide +kernel
theorem dX2_copyFrom_109 : decode cX2_copyFrom 109 = .ok (.getfield 17, 3) := by decide +kernel
theorem dX2_copyFrom_112 : decode cX2_copyFrom 112 = .ok (.iconst 0, 1) := by decide +kernel
theorem dX2_copyFrom_113 : decode cX2_copyFrom 113 = .ok (.sipush 136, 3) := by decide +kernel
theorem dX2_copyFrom_116 : decode cX2_copyFrom 116 = .ok (.invokestatic 73, 3) := by decide +kernel
theorem dX2_copyFrom_119 : decode cX2_copyFrom 119 = .ok (.aload_n 0, 1) := by decide +kernel
theorem dX2_copyFrom_120 : decode cX2_copyFrom 120 = .ok (.getfield 26, 3) := by decide +kernel
theorem dX2_copyFrom_123 : decode cX2_copyFrom 123 = .ok (.aload_n 1, 1) := by decide +kernel
theorem dX2_copyFrom_124 : decode cX2_copyFrom 124 = .ok (.getfield 26, 3) := by decide +kernel
theorem dX2_copyFrom_127 : decode cX2_copyFrom 127 = .ok (.invokevirtual 79, 3) := by decide +kernel
theorem dX2_copyFrom_130 : decode cX2_copyFrom 130 = .ok (.return_, 1) := by decide +kernel
set_option maxRecDepth 100000 in
set_option maxHeartbeats 4000000 in
theorem c_X2_copyFrom {g : Gv} {l : Launch} (p0 : Nat) (p1 : Nat) (w0 : Wd) (wz : Wd) (hf : f_X2_copyFrom p0 p1 w0 = some ((), wz)) : MV g l yX2_copyFrom cX2_copyFrom 3 2 69 0 0 [rV g p0, rV g p1] w0 wz := by
  refine mv_of RX2 (by decide) rfl (Nat.le_of_ble_eq_true rfl) ?_
  intro X hg hll C hr h0 hin
  subst hg; subst hll
  have t_66 : ∀ (n : Nat) (v0 : Nat) (v1 : Nat) (v2 : Int32) (w : Wd), f_X2_copyFrom_66 n v0 v1 v2 w = some ((), wz) → Wk X 0 0 (QV X 0 0 w0 wz) w [(0, rV (xg X) v0), (1, rV (xg X) v1), (2, .int v2)] 66 [] := by
    intro n
    induction n with
    | zero => intro v0 v1 v2 w hf; rw [f_X2_copyFrom_66] at hf; cases hf
    | succ n66 ih66 =>
      intro v0 v1 v2 w hf
      rw [f_X2_copyFrom_66] at hf
      refine k_iload_n C dX2_copyFrom_66 2 rfl 67 rfl ?_
      refine k_aload_n C dX2_copyFrom_67 0 rfl rfl 68 rfl ?_
      refine k_getI C fe_X2_57 rfl dX2_copyFrom_68 hf 71 rfl (fun x33 hf => ?_)
      refine k_icmp_ge C dX2_copyFrom_71 hf 95 rfl 74 rfl (fun hf => ?_) (fun hf => ?_)
      · refine k_aload_n C dX2_copyFrom_95 0 rfl rfl 96 rfl ?_
        refine k_aload_n C dX2_copyFrom_96 1 rfl rfl 97 rfl ?_
        refine k_getI C fe_X2_60 rfl dX2_copyFrom_97 hf 100 rfl (fun x34 hf => ?_)
        refine k_putI C fe_X2_60 rfl rfl dX2_copyFrom_100 hf 103 rfl (fun w35 _ hf => ?_)
        refine k_aload_n C dX2_copyFrom_103 1 rfl rfl 104 rfl ?_
        refine k_getR C fe_X2_17 rfl dX2_copyFrom_104 hf 107 rfl (fun r36 hf => ?_)
        refine k_iconst C dX2_copyFrom_107 (0) (by decide) 108 rfl ?_
        refine k_aload_n C dX2_copyFrom_108 0 rfl rfl 109 rfl ?_
        refine k_getR C fe_X2_17 rfl dX2_copyFrom_109 hf 112 rfl (fun r37 hf => ?_)
        refine k_iconst C dX2_copyFrom_112 (0) (by decide) 113 rfl ?_
        refine k_sipush C dX2_copyFrom_113 (136) (by decide) 116 rfl ?_
        refine k_copy C mm_X2_73 mcp_n mcp_s mcp_i (Nat.le_of_ble_eq_true rfl) (by decide) dX2_copyFrom_116 hf 119 rfl (fun w38 _ hf => ?_)
        refine k_aload_n C dX2_copyFrom_119 0 rfl rfl 120 rfl ?_
        refine k_getR C fe_X2_26 rfl dX2_copyFrom_120 hf 123 rfl (fun r39 hf => ?_)
        refine k_aload_n C dX2_copyFrom_123 1 rfl rfl 124 rfl ?_
        refine k_getR C fe_X2_26 rfl dX2_copyFrom_124 hf 127 rfl (fun r40 hf => ?_)
        refine k_callV_v C ye_X0_copyFrom ve_X2_79 ⟨rfl, rfl⟩ ⟨rfl, rfl⟩ dX2_copyFrom_127 [rV (xg X) r40] rfl rfl (Nat.le_of_ble_eq_true rfl) (c_X0_copyFrom _ _ _) hf 130 rfl (fun w41 hf => ?_)
        exact k_vret C hr h0 dX2_copyFrom_130 hf
      · refine k_aload_n C dX2_copyFrom_74 0 rfl rfl 75 rfl ?_
        refine k_getR C fe_X2_11 rfl dX2_copyFrom_75 hf 78 rfl (fun r43 hf => ?_)
        refine k_iload_n C dX2_copyFrom_78 2 rfl 79 rfl ?_
        refine k_aald16 C dX2_copyFrom_79 hf 80 rfl (fun r44 hf => ?_)
        refine k_aload_n C dX2_copyFrom_80 1 rfl rfl 81 rfl ?_
        refine k_getR C fe_X2_11 rfl dX2_copyFrom_81 hf 84 rfl (fun r45 hf => ?_)
        refine k_iload_n C dX2_copyFrom_84 2 rfl 85 rfl ?_
        refine k_aald16 C dX2_copyFrom_85 hf 86 rfl (fun r46 hf => ?_)
        refine k_callV_v C ye_X1_copyFrom ve_X2_69 ⟨rfl, rfl⟩ ⟨rfl, rfl⟩ dX2_copyFrom_86 [rV (xg X) r46] rfl rfl (Nat.le_of_ble_eq_true rfl) (c_X1_copyFrom _ _ _) hf 89 rfl (fun w47 hf => ?_)
        refine k_iinc C dX2_copyFrom_89 2 rfl (by decide) (by decide) [(2, .int (v2 + (1 : Int32))), (0, rV (xg X) v0), (1, rV (xg X) v1)] rfl 92 rfl ?_
        refine k_goto C dX2_copyFrom_92 66 rfl ?_
        refine k_sub [1, 2, 0] rfl ?_
        exact ih66 _ _ _ w47 hf
  unfold f_X2_copyFrom at hf
  refine k_sub (lv2 := [(0, rV (xg X) p0), (1, rV (xg X) p1)]) [0, 1] rfl ?_
  refine k_aload_n C dX2_copyFrom_0 0 rfl rfl 1 rfl ?_
  refine k_aload_n C dX2_copyFrom_1 1 rfl rfl 2 rfl ?_
  refine k_getI C fe_X2_35 rfl dX2_copyFrom_2 hf 5 rfl (fun x49 hf => ?_)
  refine k_putI C fe_X2_35 rfl rfl dX2_copyFrom_5 hf 8 rfl (fun w50 _ hf => ?_)
  refine k_aload_n C dX2_copyFrom_8 0 rfl rfl 9 rfl ?_
  refine k_aload_n C dX2_copyFrom_9 1 rfl rfl 10 rfl ?_
  refine k_getI C fe_X2_39 rfl dX2_copyFrom_10 hf 13 rfl (fun x51 hf => ?_)
  refine k_putI C fe_X2_39 rfl rfl dX2_copyFrom_13 hf 16 rfl (fun w52 _ hf => ?_)
  refine k_aload_n C dX2_copyFrom_16 0 rfl rfl 17 rfl ?_
  refine k_aload_n C dX2_copyFrom_17 1 rfl rfl 18 rfl ?_
  refine k_getI C fe_X2_42 rfl dX2_copyFrom_18 hf 21 rfl (fun x53 hf => ?_)
  refine k_putI C fe_X2_42 rfl rfl dX2_copyFrom_21 hf 24 rfl (fun w54 _ hf => ?_)
  refine k_aload_n C dX2_copyFrom_24 0 rfl rfl 25 rfl ?_
  refine k_aload_n C dX2_copyFrom_25 1 rfl rfl 26 rfl ?_
  refine k_getI C fe_X2_45 rfl dX2_copyFrom_26 hf 29 rfl (fun x55 hf => ?_)
  refine k_putI C fe_X2_45 rfl rfl dX2_copyFrom_29 hf 32 rfl (fun w56 _ hf => ?_)
  refine k_aload_n C dX2_copyFrom_32 0 rfl rfl 33 rfl ?_
  refine k_aload_n C dX2_copyFrom_33 1 rfl rfl 34 rfl ?_
  refine k_getI C fe_X2_48 rfl dX2_copyFrom_34 hf 37 rfl (fun x57 hf => ?_)
  refine k_putI C fe_X2_48 rfl rfl dX2_copyFrom_37 hf 40 rfl (fun w58 _ hf => ?_)
  refine k_aload_n C dX2_copyFrom_40 0 rfl rfl 41 rfl ?_
  refine k_aload_n C dX2_copyFrom_41 1 rfl rfl 42 rfl ?_
  refine k_getI C fe_X2_51 rfl dX2_copyFrom_42 hf 45 rfl (fun x59 hf => ?_)
  refine k_putI C fe_X2_51 rfl rfl dX2_copyFrom_45 hf 48 rfl (fun w60 _ hf => ?_)
  refine k_aload_n C dX2_copyFrom_48 0 rfl rfl 49 rfl ?_
  refine k_aload_n C dX2_copyFrom_49 1 rfl rfl 50 rfl ?_
  refine k_getI C fe_X2_54 rfl dX2_copyFrom_50 hf 53 rfl (fun x61 hf => ?_)
  refine k_putI C fe_X2_54 rfl rfl dX2_copyFrom_53 hf 56 rfl (fun w62 _ hf => ?_)
  refine k_aload_n C dX2_copyFrom_56 0 rfl rfl 57 rfl ?_
  refine k_aload_n C dX2_copyFrom_57 1 rfl rfl 58 rfl ?_
  refine k_getI C fe_X2_57 rfl dX2_copyFrom_58 hf 61 rfl (fun x63 hf => ?_)
  refine k_putI C fe_X2_57 rfl rfl dX2_copyFrom_61 hf 64 rfl (fun w64 _ hf => ?_)
  refine k_iconst C dX2_copyFrom_64 (0) (by decide) 65 rfl ?_
  refine k_istore_n C dX2_copyFrom_65 rfl (by decide) [(2, .int (0 : Int32)), (0, rV (xg X) p0), (1, rV (xg X) p1)] rfl 66 rfl ?_
  refine k_sub [1, 2, 0] rfl ?_
  exact t_66 4096 _ _ _ w64 hf
theorem dX2_goBack_0 : decode cX2_goBack 0 = .ok (.aload_n 0, 1) := by decide +kernel
theorem dX2_goBack_1 : decode cX2_goBack 1 = .ok (.getfield 60, 3) := by decide +kernel
theorem dX2_goBack_4 : decode cX2_goBack 4 = .ok (.ifCond .gt 4, 3) := by decide +kernel
theorem dX2_goBack_7 : decode cX2_goBack 7 = .ok (.return_, 1) := by decide +kernel
theorem dX2_goBack_8 : decode cX2_goBack 8 = .ok (.aload_n 0, 1) := by decide +kernel
theorem dX2_goBack_9 : decode cX2_goBack 9 = .ok (.dup, 1) := by decide +kernel
theorem dX2_goBack_10 : decode cX2_goBack 10 = .ok (.getfield 60, 3) := by decide +kernel
theorem dX2_goBack_13 : decode cX2_goBack 13 = .ok (.iconst 1, 1) := by decide +kernel
theorem dX2_goBack_14 : decode cX2_goBack 14 = .ok (.isub, 1) := by decide +kernel
theorem dX2_goBack_15 : decode cX2_goBack 15 = .ok (.putfield 60, 3) := by decide +kernel
theorem dX2_goBack_18 : decode cX2_goBack 18 = .ok (.aload_n 0, 1) := by decide +kernel
theorem dX2_goBack_19 : decode cX2_goBack 19 = .ok (.getfield 60, 3) := by decide +kernel
theorem dX2_goBack_22 : decode cX2_goBack 22 = .ok (.bipush 17, 2) := by decide +kernel
theorem dX2_goBack_24 : decode cX2_goBack 24 = .ok (.imul, 1) := by decide +kernel
theorem dX2_goBack_25 : decode cX2_goBack 25 = .ok (.istore_n 1, 1) := by decide +kernel
theorem dX2_goBack_26 : decode cX2_goBack 26 = .ok (.aload_n 0, 1) := by decide +kernel
theorem dX2_goBack_27 : decode cX2_goBack 27 = .ok (.aload_n 0, 1) := by decide +kernel
theorem dX2_goBack_28 : decode cX2_goBack 28 = .ok (.getfield 17, 3) := by decide +kernel
theorem dX2_goBack_31 : decode cX2_goBack 31 = .ok (.iload_n 1, 1) := by decide +kernel
theorem dX2_goBack_32 : decode cX2_goBack 32 = .ok (.iaload, 1) := by decide +kernel
theorem dX2_goBack_33 : decode cX2_goBack 33 = .ok (.putfield 51, 3) := by decide +kernel
theorem dX2_goBack_36 : decode cX2_goBack 36 = .ok (.aload_n 0, 1) := by decide +kernel
theorem dX2_goBack_37 : decode cX2_goBack 37 = .ok (.aload_n 0, 1) := by decide +kernel
theorem dX2_goBack_38 : decode cX2_goBack 38 = .ok (.getfield 17, 3) := by decide +kernel
theorem dX2_goBack_41 : decode cX2_goBack 41 = .ok (.iload_n 1, 1) := by decide +kernel
theorem dX2_goBack_42 : decode cX2_goBack 42 = .ok (.iconst 1, 1) := by decide +kernel
theorem dX2_goBack_43 : decode cX2_goBack 43 = .ok (.iadd, 1) := by decide +kernel
theorem dX2_goBack_44 : decode cX2_goBack 44 = .ok (.iaload, 1) := by decide +kernel
theorem dX2_goBack_45 : decode cX2_goBack 45 = .ok (.putfield 54, 3) := by decide +kernel
theorem dX2_goBack_48 : decode cX2_goBack 48 = .ok (.aload_n 0, 1) := by decide +kernel
theorem dX2_goBack_49 : decode cX2_goBack 49 = .ok (.aload_n 0, 1) := by decide +kernel
theorem dX2_goBack_50 : decode cX2_goBack 50 = .ok (.getfield 17, 3) := by decide +kernel
theorem dX2_goBack_53 : decode cX2_goBack 53 = .ok (.iload_n 1, 1) := by decide +kernel
theorem dX2_goBack_54 : decode cX2_goBack 54 = .ok (.iconst 2, 1) := by decide +kernel
theorem dX2_goBack_55 : decode cX2_goBack 55 = .ok (.iadd, 1) := by decide +kernel
theorem dX2_goBack_56 : decode cX2_goBack 56 = .ok (.iaload, 1) := by decide +kernel
theorem dX2_goBack_57 : decode cX2_goBack 57 = .ok (.putfield 48, 3) := by decide +kernel
theorem dX2_goBack_60 : decode cX2_goBack 60 = .ok (.aload_n 0, 1) := by decide +kernel
theorem dX2_goBack_61 : decode cX2_goBack 61 = .ok (.aload_n 0, 1) := by decide +kernel
theorem dX2_goBack_62 : decode cX2_goBack 62 = .ok (.getfield 17, 3) := by decide +kernel
theorem dX2_goBack_65 : decode cX2_goBack 65 = .ok (.iload_n 1, 1) := by decide +kernel
theorem dX2_goBack_66 : decode cX2_goBack 66 = .ok (.iconst 3, 1) := by decide +kernel
theorem dX2_goBack_67 : decode cX2_goBack 67 = .ok (.iadd, 1) := by decide +kernel
theorem dX2_goBack_68 : decode cX2_goBack 68 = .ok (.iaload, 1) := by decide +kernel
theorem dX2_goBack_69 : decode cX2_goBack 69 = .ok (.putfield 42, 3) := by decide +kernel
theorem dX2_goBack_72 : decode cX2_goBack 72 = .ok (.aload_n 0, 1) := by decide +kernel
theorem dX2_goBack_73 : decode cX2_goBack 73 = .ok (.aload_n 0, 1) := by decide +kernel
theorem dX2_goBack_74 : decode cX2_goBack 74 = .ok (.getfield 17, 3) := by decide +kernel
theorem dX2_goBack_77 : decode cX2_goBack 77 = .ok (.iload_n 1, 1) := by decide +kernel
theorem dX2_goBack_78 : decode cX2_goBack 78 = .ok (.iconst 4, 1) := by decide +kernel
theorem dX2_goBack_79 : decode cX2_goBack 79 = .ok (.iadd, 1) := by decide +kernel
theorem dX2_goBack_80 : decode cX2_goBack 80 = .ok (.iaload, 1) := by decide +kernel
theorem dX2_goBack_81 : decode cX2_goBack 81 = .ok (.putfield 45, 3) := by decide +kernel
theorem dX2_goBack_84 : decode cX2_goBack 84 = .ok (.iconst 0, 1) := by decide +kernel
theorem dX2_goBack_85 : decode cX2_goBack 85 = .ok (.istore_n 2, 1) := by decide +kernel
theorem dX2_goBack_86 : decode cX2_goBack 86 = .ok (.iload_n 2, 1) := by decide +kernel
theorem dX2_goBack_87 : decode cX2_goBack 87 = .ok (.aload_n 0, 1) := by decide +kernel
theorem dX2_goBack_88 : decode cX2_goBack 88 = .ok (.getfield 57, 3) := by decide +kernel
theorem dX2_goBack_91 : decode cX2_goBack 91 = .ok (.if_icmp .ge 52, 3) := by decide +kernel
theorem dX2_goBack_94 : decode cX2_goBack 94 = .ok (.aload_n 0, 1) := by decide +kernel
theorem dX2_goBack_95 : decode cX2_goBack 95 = .ok (.getfield 11, 3) := by decide +kernel
theorem dX2_goBack_98 : decode cX2_goBack 98 = .ok (.iload_n 2, 1) := by decide +kernel
theorem dX2_goBack_99 : decode cX2_goBack 99 = .ok (.aaload, 1) := by decide +kernel
theorem dX2_goBack_100 : decode cX2_goBack 100 = .ok (.aload_n 0, 1) := by decide +kernel
theorem dX2_goBack_101 : decode cX2_goBack 101 = .ok (.getfield 17, 3) := by decide +kernel
theorem dX2_goBack_104 : decode cX2_goBack 104 = .ok (.iload_n 1, 1) := by decide +kernel
theorem dX2_goBack_105 : decode cX2_goBack 105 = .ok (.iconst 5, 1) := by decide +kernel
theorem dX2_goBack_106 : decode cX2_goBack 106 = .ok (.iadd, 1) := by decide +kernel
theorem dX2_goBack_107 : decode cX2_goBack 107 = .ok (.iconst 2, 1) := by decide +kernel
theorem dX2_goBack_108 : decode cX2_goBack 108 = .ok (.iload_n 2, 1) := by decide +kernel
theorem dX2_goBack_109 : decode cX2_goBack 109 = .ok (.imul, 1) := by decide +kernel
theorem dX2_goBack_110 : decode cX2_goBack 110 = .ok (.iadd, 1) := by decide +kernel
theorem dX2_goBack_111 : decode cX2_goBack 111 = .ok (.iaload, 1) := by decide +kernel
theorem dX2_goBack_112 : decode cX2_goBack 112 = .ok (.putfield 86, 3) := by decide +kernel
theorem dX2_goBack_115 : decode cX2_goBack 115 = .ok (.aload_n 0, 1) := by decide +kernel
theorem dX2_goBack_116 : decode cX2_goBack 116 = .ok (.getfield 11, 3) := by decide +kernel
theorem dX2_goBack_119 : decode cX2_goBack 119 = .ok (.iload_n 2, 1) := by decide +kernel
theorem dX2_goBack_120 : decode cX2_goBack 120 = .ok (.aaload, 1) := by decide +kernel
theorem dX2_goBack_121 : decode cX2_goBack 121 = .ok (.aload_n 0, 1) := by decide +kernel
theorem dX2_goBack_122 : decode cX2_goBack 122 = .ok (.getfield 17, 3) := by decide +kernel
theorem dX2_goBack_125 : decode cX2_goBack 125 = .ok (.iload_n 1, 1) := by decide +kernel
theorem dX2_goBack_126 : decode cX2_goBack 126 = .ok (.bipush 6, 2) := by decide +kernel
theorem dX2_goBack_128 : decode cX2_goBack 128 = .ok (.iadd, 1) := by decide +kernel
theorem dX2_goBack_129 : decode cX2_goBack 129 = .ok (.iconst 2, 1) := by decide +kernel
theorem dX2_goBack_130 : decode cX2_goBack 130 = .ok (.iload_n 2, 1) := by decide +kernel
theorem dX2_goBack_131 : decode cX2_goBack 131 = .ok (.imul, 1) := by decide +kernel
theorem dX2_goBack_132 : decode cX2_goBack 132 = .ok (.iadd, 1) := by decide +kernel
theorem dX2_goBack_133 : decode cX2_goBack 133 = .ok (.iaload, 1) := by decide +kernel
theorem dX2_goBack_134 : decode cX2_goBack 134 = .ok (.putfield 109, 3) := by decide +kernel
theorem dX2_goBack_137 : decode cX2_goBack 137 = .ok (.iinc 2 1, 3) := by decide +kernel
theorem dX2_goBack_140 : decode cX2_goBack 140 = .ok (.goto (-54), 3) := by decide +kernel
theorem dX2_goBack_143 : decode cX2_goBack 143 = .ok (.return_, 1) := by decide +kernel
set_option maxRecDepth 100000 in
set_option maxHeartbeats 4000000 in
theorem c_X2_goBack {g : Gv} {l : Launch} (p0 : Nat) (w0 : Wd) (wz : Wd) (hf : f_X2_goBack p0 w0 = some ((), wz)) : MV g l yX2_goBack cX2_goBack 3 0 0 0 0 [rV g p0] w0 wz := by
  refine mv_of RX2 (by decide) rfl (Nat.le_of_ble_eq_true rfl) ?_
  intro X hg hll C hr h0 hin
  subst hg; subst hll
  have t_86 : ∀ (n : Nat) (v0 : Nat) (v1 : Int32) (v2 : Int32) (w : Wd), f_X2_goBack_86 n v0 v1 v2 w = some ((), wz) → Wk X 0 0 (QV X 0 0 w0 wz) w [(0, rV (xg X) v0), (1, .int v1), (2, .int v2)] 86 [] := by
    intro n
    induction n with
    | zero => intro v0 v1 v2 w hf; rw [f_X2_goBack_86] at hf; cases hf
    | succ n86 ih86 =>
      intro v0 v1 v2 w hf
      rw [f_X2_goBack_86] at hf
      refine k_iload_n C dX2_goBack_86 2 rfl 87 rfl ?_
      refine k_aload_n C dX2_goBack_87 0 rfl rfl 88 rfl ?_
      refine k_getI C fe_X2_57 rfl dX2_goBack_88 hf 91 rfl (fun x32 hf => ?_)
      refine k_icmp_ge C dX2_goBack_91 hf 143 rfl 94 rfl (fun hf => ?_) (fun hf => ?_)
      · exact k_vret C hr h0 dX2_goBack_143 hf
      · refine k_aload_n C dX2_goBack_94 0 rfl rfl 95 rfl ?_
        refine k_getR C fe_X2_11 rfl dX2_goBack_95 hf 98 rfl (fun r33 hf => ?_)
        refine k_iload_n C dX2_goBack_98 2 rfl 99 rfl ?_
        refine k_aald16 C dX2_goBack_99 hf 100 rfl (fun r34 hf => ?_)
        refine k_aload_n C dX2_goBack_100 0 rfl rfl 101 rfl ?_
        refine k_getR C fe_X2_17 rfl dX2_goBack_101 hf 104 rfl (fun r35 hf => ?_)
        refine k_iload_n C dX2_goBack_104 1 rfl 105 rfl ?_
        refine k_iconst C dX2_goBack_105 (5) (by decide) 106 rfl ?_
        refine k_iadd C dX2_goBack_106 107 rfl ?_
        refine k_iconst C dX2_goBack_107 (2) (by decide) 108 rfl ?_
        refine k_iload_n C dX2_goBack_108 2 rfl 109 rfl ?_
        refine k_imul C dX2_goBack_109 110 rfl ?_
        refine k_iadd C dX2_goBack_110 111 rfl ?_
        refine k_iald C dX2_goBack_111 hf 112 rfl (fun x36 hf => ?_)
        refine k_putI C fe_X2_86 rfl rfl dX2_goBack_112 hf 115 rfl (fun w37 _ hf => ?_)
        refine k_aload_n C dX2_goBack_115 0 rfl rfl 116 rfl ?_
        refine k_getR C fe_X2_11 rfl dX2_goBack_116 hf 119 rfl (fun r38 hf => ?_)
        refine k_iload_n C dX2_goBack_119 2 rfl 120 rfl ?_
        refine k_aald16 C dX2_goBack_120 hf 121 rfl (fun r39 hf => ?_)
        refine k_aload_n C dX2_goBack_121 0 rfl rfl 122 rfl ?_
        refine k_getR C fe_X2_17 rfl dX2_goBack_122 hf 125 rfl (fun r40 hf => ?_)
        refine k_iload_n C dX2_goBack_125 1 rfl 126 rfl ?_
        refine k_bipush C dX2_goBack_126 (6) (by decide) 128 rfl ?_
        refine k_iadd C dX2_goBack_128 129 rfl ?_
        refine k_iconst C dX2_goBack_129 (2) (by decide) 130 rfl ?_
        refine k_iload_n C dX2_goBack_130 2 rfl 131 rfl ?_
        refine k_imul C dX2_goBack_131 132 rfl ?_
        refine k_iadd C dX2_goBack_132 133 rfl ?_
        refine k_iald C dX2_goBack_133 hf 134 rfl (fun x41 hf => ?_)
        refine k_putI C fe_X2_109 rfl rfl dX2_goBack_134 hf 137 rfl (fun w42 _ hf => ?_)
        refine k_iinc C dX2_goBack_137 2 rfl (by decide) (by decide) [(2, .int (v2 + (1 : Int32))), (0, rV (xg X) v0), (1, .int v1)] rfl 140 rfl ?_
        refine k_goto C dX2_goBack_140 86 rfl ?_
        refine k_sub [1, 2, 0] rfl ?_
        exact ih86 _ _ _ w42 hf
  unfold f_X2_goBack at hf
  refine k_sub (lv2 := [(0, rV (xg X) p0)]) [0] rfl ?_
  refine k_aload_n C dX2_goBack_0 0 rfl rfl 1 rfl ?_
  refine k_getI C fe_X2_60 rfl dX2_goBack_1 hf 4 rfl (fun x43 hf => ?_)
  refine k_if_gt C dX2_goBack_4 hf 8 rfl 7 rfl (fun hf => ?_) (fun hf => ?_)
  · refine k_aload_n C dX2_goBack_8 0 rfl rfl 9 rfl ?_
    refine k_dup C dX2_goBack_9 rfl 10 rfl ?_
    refine k_getI C fe_X2_60 rfl dX2_goBack_10 hf 13 rfl (fun x44 hf => ?_)
    refine k_iconst C dX2_goBack_13 (1) (by decide) 14 rfl ?_
    refine k_isub C dX2_goBack_14 15 rfl ?_
    refine k_putI C fe_X2_60 rfl rfl dX2_goBack_15 hf 18 rfl (fun w45 _ hf => ?_)
    refine k_aload_n C dX2_goBack_18 0 rfl rfl 19 rfl ?_
    refine k_getI C fe_X2_60 rfl dX2_goBack_19 hf 22 rfl (fun x46 hf => ?_)
    refine k_bipush C dX2_goBack_22 (17) (by decide) 24 rfl ?_
    refine k_imul C dX2_goBack_24 25 rfl ?_
    refine k_nmi hf (fun x47 hf => ?_)
    refine k_istore_n C dX2_goBack_25 rfl (by decide) [(1, .int x47), (0, rV (xg X) p0)] rfl 26 rfl ?_
    refine k_aload_n C dX2_goBack_26 1 rfl rfl 27 rfl ?_
    refine k_aload_n C dX2_goBack_27 1 rfl rfl 28 rfl ?_
    refine k_getR C fe_X2_17 rfl dX2_goBack_28 hf 31 rfl (fun r48 hf => ?_)
    refine k_iload_n C dX2_goBack_31 0 rfl 32 rfl ?_
    refine k_iald C dX2_goBack_32 hf 33 rfl (fun x49 hf => ?_)
    refine k_putI C fe_X2_51 rfl rfl dX2_goBack_33 hf 36 rfl (fun w50 _ hf => ?_)
    refine k_aload_n C dX2_goBack_36 1 rfl rfl 37 rfl ?_
    refine k_aload_n C dX2_goBack_37 1 rfl rfl 38 rfl ?_
    refine k_getR C fe_X2_17 rfl dX2_goBack_38 hf 41 rfl (fun r51 hf => ?_)
    refine k_iload_n C dX2_goBack_41 0 rfl 42 rfl ?_
    refine k_iconst C dX2_goBack_42 (1) (by decide) 43 rfl ?_
    refine k_iadd C dX2_goBack_43 44 rfl ?_
    refine k_iald C dX2_goBack_44 hf 45 rfl (fun x52 hf => ?_)
    refine k_putI C fe_X2_54 rfl rfl dX2_goBack_45 hf 48 rfl (fun w53 _ hf => ?_)
    refine k_aload_n C dX2_goBack_48 1 rfl rfl 49 rfl ?_
    refine k_aload_n C dX2_goBack_49 1 rfl rfl 50 rfl ?_
    refine k_getR C fe_X2_17 rfl dX2_goBack_50 hf 53 rfl (fun r54 hf => ?_)
    refine k_iload_n C dX2_goBack_53 0 rfl 54 rfl ?_
    refine k_iconst C dX2_goBack_54 (2) (by decide) 55 rfl ?_
    refine k_iadd C dX2_goBack_55 56 rfl ?_
    refine k_iald C dX2_goBack_56 hf 57 rfl (fun x55 hf => ?_)
    refine k_putI C fe_X2_48 rfl rfl dX2_goBack_57 hf 60 rfl (fun w56 _ hf => ?_)
    refine k_aload_n C dX2_goBack_60 1 rfl rfl 61 rfl ?_
    refine k_aload_n C dX2_goBack_61 1 rfl rfl 62 rfl ?_
    refine k_getR C fe_X2_17 rfl dX2_goBack_62 hf 65 rfl (fun r57 hf => ?_)
    refine k_iload_n C dX2_goBack_65 0 rfl 66 rfl ?_
    refine k_iconst C dX2_goBack_66 (3) (by decide) 67 rfl ?_
    refine k_iadd C dX2_goBack_67 68 rfl ?_
    refine k_iald C dX2_goBack_68 hf 69 rfl (fun x58 hf => ?_)
    refine k_putI C fe_X2_42 rfl rfl dX2_goBack_69 hf 72 rfl (fun w59 _ hf => ?_)
    refine k_aload_n C dX2_goBack_72 1 rfl rfl 73 rfl ?_
    refine k_aload_n C dX2_goBack_73 1 rfl rfl 74 rfl ?_
    refine k_getR C fe_X2_17 rfl dX2_goBack_74 hf 77 rfl (fun r60 hf => ?_)
    refine k_iload_n C dX2_goBack_77 0 rfl 78 rfl ?_
    refine k_iconst C dX2_goBack_78 (4) (by decide) 79 rfl ?_
    refine k_iadd C dX2_goBack_79 80 rfl ?_
    refine k_iald C dX2_goBack_80 hf 81 rfl (fun x61 hf => ?_)
    refine k_putI C fe_X2_45 rfl rfl dX2_goBack_81 hf 84 rfl (fun w62 _ hf => ?_)
    refine k_iconst C dX2_goBack_84 (0) (by decide) 85 rfl ?_
    refine k_istore_n C dX2_goBack_85 rfl (by decide) [(2, .int (0 : Int32)), (1, .int x47), (0, rV (xg X) p0)] rfl 86 rfl ?_
    refine k_sub [2, 1, 0] rfl ?_
    exact t_86 4096 _ _ _ w62 hf
  · exact k_vret C hr h0 dX2_goBack_7 hf
theorem dX2_has_0 : decode cX2_has 0 = .ok (.iload_n 1, 1) := by decide +kernel
theorem dX2_has_1 : decode cX2_has 1 = .ok (.ifCond .lt 15, 3) := by decide +kernel
theorem dX2_has_4 : decode cX2_has 4 = .ok (.iload_n 1, 1) := by decide +kernel
theorem dX2_has_5 : decode cX2_has 5 = .ok (.aload_n 0, 1) := by decide +kernel
theorem dX2_has_6 : decode cX2_has 6 = .ok (.getfield 57, 3) := by decide +kernel
theorem dX2_has_9 : decode cX2_has 9 = .ok (.if_icmp .ge 7, 3) := by decide +kernel
theorem dX2_has_12 : decode cX2_has 12 = .ok (.iconst 1, 1) := by decide +kernel
theorem dX2_has_13 : decode cX2_has 13 = .ok (.goto 4, 3) := by decide +kernel
theorem dX2_has_16 : decode cX2_has 16 = .ok (.iconst 0, 1) := by decide +kernel
theorem dX2_has_17 : decode cX2_has 17 = .ok (.ireturn, 1) := by decide +kernel
set_option maxRecDepth 100000 in
set_option maxHeartbeats 4000000 in
theorem c_X2_has {g : Gv} {l : Launch} (p0 : Nat) (p1 : Int32) (w0 : Wd) (rz : Int32) (wz : Wd) (hf : f_X2_has p0 p1 w0 = some (rz, wz)) : MI g l yX2_has cX2_has 2 .boolean 0 0 [rV g p0, .int p1] w0 rz wz := by
  refine mi_of RX2 (by decide) rfl (Nat.le_of_ble_eq_true rfl) ?_
  intro X hg hll C hr h0
  subst hg; subst hll
  have t_17 : ∀ (s0 : Int32) (w : Wd), f_X2_has_17 s0 w = some (rz, wz) → Wk X 0 0 (QI X w0 rz wz) w [] 17 [.int s0] := by
    intro s0 w hf
    unfold f_X2_has_17 at hf
    exact k_zret C hr h0 dX2_has_17 hf
  have t_16 : ∀ (w : Wd), f_X2_has_16 w = some (rz, wz) → Wk X 0 0 (QI X w0 rz wz) w [] 16 [] := by
    intro w hf
    unfold f_X2_has_16 at hf
    refine k_iconst C dX2_has_16 (0) (by decide) 17 rfl ?_
    refine k_sub [] rfl ?_
    exact t_17 _ w hf
  unfold f_X2_has at hf
  refine k_sub (lv2 := [(0, rV (xg X) p0), (1, .int p1)]) [0, 1] rfl ?_
  refine k_iload_n C dX2_has_0 1 rfl 1 rfl ?_
  refine k_if_lt C dX2_has_1 hf 16 rfl 4 rfl (fun hf => ?_) (fun hf => ?_)
  · refine k_sub [] rfl ?_
    exact t_16 w0 hf
  · refine k_iload_n C dX2_has_4 1 rfl 5 rfl ?_
    refine k_aload_n C dX2_has_5 0 rfl rfl 6 rfl ?_
    refine k_getI C fe_X2_57 rfl dX2_has_6 hf 9 rfl (fun x2 hf => ?_)
    refine k_icmp_ge C dX2_has_9 hf 16 rfl 12 rfl (fun hf => ?_) (fun hf => ?_)
    · refine k_sub [] rfl ?_
      exact t_16 w0 hf
    · refine k_iconst C dX2_has_12 (1) (by decide) 13 rfl ?_
      refine k_goto C dX2_has_13 17 rfl ?_
      refine k_sub [] rfl ?_
      exact t_17 _ w0 hf
theorem dX2_groundBy_0 : decode cX2_groundBy 0 = .ok (.aload_n 0, 1) := by decide +kernel
theorem dX2_groundBy_1 : decode cX2_groundBy 1 = .ok (.iload_n 1, 1) := by decide +kernel
theorem dX2_groundBy_2 : decode cX2_groundBy 2 = .ok (.invokevirtual 89, 3) := by decide +kernel
theorem dX2_groundBy_5 : decode cX2_groundBy 5 = .ok (.ifCond .eq 20, 3) := by decide +kernel
theorem dX2_groundBy_8 : decode cX2_groundBy 8 = .ok (.aload_n 0, 1) := by decide +kernel
theorem dX2_groundBy_9 : decode cX2_groundBy 9 = .ok (.getfield 11, 3) := by decide +kernel
theorem dX2_groundBy_12 : decode cX2_groundBy 12 = .ok (.iload_n 1, 1) := by decide +kernel
theorem dX2_groundBy_13 : decode cX2_groundBy 13 = .ok (.aaload, 1) := by decide +kernel
theorem dX2_groundBy_14 : decode cX2_groundBy 14 = .ok (.iload_n 2, 1) := by decide +kernel
theorem dX2_groundBy_15 : decode cX2_groundBy 15 = .ok (.aload_n 0, 1) := by decide +kernel
theorem dX2_groundBy_16 : decode cX2_groundBy 16 = .ok (.getfield 45, 3) := by decide +kernel
theorem dX2_groundBy_19 : decode cX2_groundBy 19 = .ok (.invokevirtual 93, 3) := by decide +kernel
theorem dX2_groundBy_22 : decode cX2_groundBy 22 = .ok (.goto 4, 3) := by decide +kernel
theorem dX2_groundBy_25 : decode cX2_groundBy 25 = .ok (.iconst 0, 1) := by decide +kernel
theorem dX2_groundBy_26 : decode cX2_groundBy 26 = .ok (.ireturn, 1) := by decide +kernel
set_option maxRecDepth 100000 in
set_option maxHeartbeats 4000000 in
theorem c_X2_groundBy {g : Gv} {l : Launch} (p0 : Nat) (p1 : Int32) (p2 : Int32) (w0 : Wd) (rz : Int32) (wz : Wd) (hf : f_X2_groundBy p0 p1 p2 w0 = some (rz, wz)) : MI g l yX2_groundBy cX2_groundBy 3 .int 4 92 [rV g p0, .int p1, .int p2] w0 rz wz := by
  refine mi_of RX2 (by decide) rfl (Nat.le_of_ble_eq_true rfl) ?_
  intro X hg hll C hr h0
  subst hg; subst hll
  have t_26 : ∀ (s0 : Int32) (w : Wd), f_X2_groundBy_26 s0 w = some (rz, wz) → Wk X 0 0 (QI X w0 rz wz) w [] 26 [.int s0] := by
    intro s0 w hf
    unfold f_X2_groundBy_26 at hf
    exact k_iret C hr h0 dX2_groundBy_26 hf
  unfold f_X2_groundBy at hf
  refine k_sub (lv2 := [(0, rV (xg X) p0), (1, .int p1), (2, .int p2)]) [0, 1, 2] rfl ?_
  refine k_aload_n C dX2_groundBy_0 0 rfl rfl 1 rfl ?_
  refine k_iload_n C dX2_groundBy_1 1 rfl 2 rfl ?_
  refine k_callV_i C ye_X2_has ve_X2_89 ⟨rfl, rfl⟩ ⟨rfl, rfl⟩ dX2_groundBy_2 [.int p1] rfl rfl (Nat.le_of_ble_eq_true rfl) (c_X2_has _ _ _) hf 5 rfl (fun x9 w8 hf => ?_)
  refine k_if_eq C dX2_groundBy_5 hf 25 rfl 8 rfl (fun hf => ?_) (fun hf => ?_)
  · refine k_iconst C dX2_groundBy_25 (0) (by decide) 26 rfl ?_
    refine k_sub [] rfl ?_
    exact t_26 _ w8 hf
  · refine k_aload_n C dX2_groundBy_8 0 rfl rfl 9 rfl ?_
    refine k_getR C fe_X2_11 rfl dX2_groundBy_9 hf 12 rfl (fun r10 hf => ?_)
    refine k_iload_n C dX2_groundBy_12 1 rfl 13 rfl ?_
    refine k_aald16 C dX2_groundBy_13 hf 14 rfl (fun r11 hf => ?_)
    refine k_iload_n C dX2_groundBy_14 2 rfl 15 rfl ?_
    refine k_aload_n C dX2_groundBy_15 0 rfl rfl 16 rfl ?_
    refine k_getI C fe_X2_45 rfl dX2_groundBy_16 hf 19 rfl (fun x12 hf => ?_)
    refine k_callV_i C ye_X1_groundIn ve_X2_93 ⟨rfl, rfl⟩ ⟨rfl, rfl⟩ dX2_groundBy_19 [.int p2, .int x12] rfl rfl (Nat.le_of_ble_eq_true rfl) (c_X1_groundIn _ _ _ _) hf 22 rfl (fun x14 w13 hf => ?_)
    refine k_goto C dX2_groundBy_22 26 rfl ?_
    refine k_sub [] rfl ?_
    exact t_26 _ w13 hf
theorem dX2_groundWithin_0 : decode cX2_groundWithin 0 = .ok (.iconst 0, 1) := by decide +kernel
theorem dX2_groundWithin_1 : decode cX2_groundWithin 1 = .ok (.istore_n 3, 1) := by decide +kernel
theorem dX2_groundWithin_2 : decode cX2_groundWithin 2 = .ok (.iconst 0, 1) := by decide +kernel
theorem dX2_groundWithin_3 : decode cX2_groundWithin 3 = .ok (.istore 4, 2) := by decide +kernel
theorem dX2_groundWithin_5 : decode cX2_groundWithin 5 = .ok (.iload 4, 2) := by decide +kernel
theorem dX2_groundWithin_7 : decode cX2_groundWithin 7 = .ok (.iload_n 2, 1) := by decide +kernel
theorem dX2_groundWithin_8 : decode cX2_groundWithin 8 = .ok (.if_icmp .ge 24, 3) := by decide +kernel
theorem dX2_groundWithin_11 : decode cX2_groundWithin 11 = .ok (.iload_n 3, 1) := by decide +kernel
theorem dX2_groundWithin_12 : decode cX2_groundWithin 12 = .ok (.aload_n 0, 1) := by decide +kernel
theorem dX2_groundWithin_13 : decode cX2_groundWithin 13 = .ok (.iload_n 1, 1) := by decide +kernel
theorem dX2_groundWithin_14 : decode cX2_groundWithin 14 = .ok (.aload_n 0, 1) := by decide +kernel
theorem dX2_groundWithin_15 : decode cX2_groundWithin 15 = .ok (.getfield 48, 3) := by decide +kernel
theorem dX2_groundWithin_18 : decode cX2_groundWithin 18 = .ok (.iload 4, 2) := by decide +kernel
theorem dX2_groundWithin_20 : decode cX2_groundWithin 20 = .ok (.iadd, 1) := by decide +kernel
theorem dX2_groundWithin_21 : decode cX2_groundWithin 21 = .ok (.invokevirtual 97, 3) := by decide +kernel
theorem dX2_groundWithin_24 : decode cX2_groundWithin 24 = .ok (.iadd, 1) := by decide +kernel
theorem dX2_groundWithin_25 : decode cX2_groundWithin 25 = .ok (.istore_n 3, 1) := by decide +kernel
theorem dX2_groundWithin_26 : decode cX2_groundWithin 26 = .ok (.iinc 4 1, 3) := by decide +kernel
theorem dX2_groundWithin_29 : decode cX2_groundWithin 29 = .ok (.goto (-24), 3) := by decide +kernel
theorem dX2_groundWithin_32 : decode cX2_groundWithin 32 = .ok (.iload_n 3, 1) := by decide +kernel
theorem dX2_groundWithin_33 : decode cX2_groundWithin 33 = .ok (.ireturn, 1) := by decide +kernel
set_option maxRecDepth 100000 in
set_option maxHeartbeats 4000000 in
theorem c_X2_groundWithin {g : Gv} {l : Launch} (p0 : Nat) (p1 : Int32) (p2 : Int32) (w0 : Wd) (rz : Int32) (wz : Wd) (hf : f_X2_groundWithin p0 p1 p2 w0 = some (rz, wz)) : MI g l yX2_groundWithin cX2_groundWithin 5 .int 5 114 [rV g p0, .int p1, .int p2] w0 rz wz := by
  refine mi_of RX2 (by decide) rfl (Nat.le_of_ble_eq_true rfl) ?_
  intro X hg hll C hr h0
  subst hg; subst hll
  have t_5 : ∀ (n : Nat) (v0 : Nat) (v1 : Int32) (v2 : Int32) (v3 : Int32) (v4 : Int32) (w : Wd), f_X2_groundWithin_5 n v0 v1 v2 v3 v4 w = some (rz, wz) → Wk X 0 0 (QI X w0 rz wz) w [(0, rV (xg X) v0), (1, .int v1), (2, .int v2), (3, .int v3), (4, .int v4)] 5 [] := by
    intro n
    induction n with
    | zero => intro v0 v1 v2 v3 v4 w hf; rw [f_X2_groundWithin_5] at hf; cases hf
    | succ n5 ih5 =>
      intro v0 v1 v2 v3 v4 w hf
      rw [f_X2_groundWithin_5] at hf
      refine k_iload C dX2_groundWithin_5 4 rfl 7 rfl ?_
      refine k_iload_n C dX2_groundWithin_7 2 rfl 8 rfl ?_
      refine k_icmp_ge C dX2_groundWithin_8 hf 32 rfl 11 rfl (fun hf => ?_) (fun hf => ?_)
      · refine k_iload_n C dX2_groundWithin_32 3 rfl 33 rfl ?_
        exact k_iret C hr h0 dX2_groundWithin_33 hf
      · refine k_iload_n C dX2_groundWithin_11 3 rfl 12 rfl ?_
        refine k_aload_n C dX2_groundWithin_12 0 rfl rfl 13 rfl ?_
        refine k_iload_n C dX2_groundWithin_13 1 rfl 14 rfl ?_
        refine k_aload_n C dX2_groundWithin_14 0 rfl rfl 15 rfl ?_
        refine k_getI C fe_X2_48 rfl dX2_groundWithin_15 hf 18 rfl (fun x5 hf => ?_)
        refine k_iload C dX2_groundWithin_18 4 rfl 20 rfl ?_
        refine k_iadd C dX2_groundWithin_20 21 rfl ?_
        refine k_callV_i C ye_X2_groundBy ve_X2_97 ⟨rfl, rfl⟩ ⟨rfl, rfl⟩ dX2_groundWithin_21 [.int v1, .int (x5 + v4)] rfl rfl (Nat.le_of_ble_eq_true rfl) (c_X2_groundBy _ _ _ _) hf 24 rfl (fun x7 w6 hf => ?_)
        refine k_iadd C dX2_groundWithin_24 25 rfl ?_
        refine k_nmi hf (fun x8 hf => ?_)
        refine k_istore_n C dX2_groundWithin_25 rfl (by decide) [(3, .int x8), (0, rV (xg X) v0), (1, .int v1), (2, .int v2), (4, .int v4)] rfl 26 rfl ?_
        refine k_iinc C dX2_groundWithin_26 4 rfl (by decide) (by decide) [(4, .int (v4 + (1 : Int32))), (3, .int x8), (0, rV (xg X) v0), (1, .int v1), (2, .int v2)] rfl 29 rfl ?_
        refine k_goto C dX2_groundWithin_29 5 rfl ?_
        refine k_sub [2, 3, 4, 1, 0] rfl ?_
        exact ih5 _ _ _ _ _ w6 hf
  unfold f_X2_groundWithin at hf
  refine k_sub (lv2 := [(0, rV (xg X) p0), (1, .int p1), (2, .int p2)]) [0, 1, 2] rfl ?_
  refine k_iconst C dX2_groundWithin_0 (0) (by decide) 1 rfl ?_
  refine k_istore_n C dX2_groundWithin_1 rfl (by decide) [(3, .int (0 : Int32)), (0, rV (xg X) p0), (1, .int p1), (2, .int p2)] rfl 2 rfl ?_
  refine k_iconst C dX2_groundWithin_2 (0) (by decide) 3 rfl ?_
  refine k_istore C dX2_groundWithin_3 (by decide) [(4, .int (0 : Int32)), (3, .int (0 : Int32)), (0, rV (xg X) p0), (1, .int p1), (2, .int p2)] rfl 5 rfl ?_
  refine k_sub [2, 3, 4, 1, 0] rfl ?_
  exact t_5 4096 _ _ _ _ _ w0 hf
theorem dX2_mixInto_0 : decode cX2_mixInto 0 = .ok (.ldc2_w 112, 3) := by decide +kernel
theorem dX2_mixInto_3 : decode cX2_mixInto 3 = .ok (.lload_n 1, 1) := by decide +kernel
theorem dX2_mixInto_4 : decode cX2_mixInto 4 = .ok (.lmul, 1) := by decide +kernel
theorem dX2_mixInto_5 : decode cX2_mixInto 5 = .ok (.aload_n 0, 1) := by decide +kernel
theorem dX2_mixInto_6 : decode cX2_mixInto 6 = .ok (.getfield 35, 3) := by decide +kernel
theorem dX2_mixInto_9 : decode cX2_mixInto 9 = .ok (.i2l, 1) := by decide +kernel
theorem dX2_mixInto_10 : decode cX2_mixInto 10 = .ok (.ladd, 1) := by decide +kernel
theorem dX2_mixInto_11 : decode cX2_mixInto 11 = .ok (.lstore_n 3, 1) := by decide +kernel
theorem dX2_mixInto_12 : decode cX2_mixInto 12 = .ok (.ldc2_w 112, 3) := by decide +kernel
theorem dX2_mixInto_15 : decode cX2_mixInto 15 = .ok (.lload_n 3, 1) := by decide +kernel
theorem dX2_mixInto_16 : decode cX2_mixInto 16 = .ok (.lmul, 1) := by decide +kernel
theorem dX2_mixInto_17 : decode cX2_mixInto 17 = .ok (.aload_n 0, 1) := by decide +kernel
theorem dX2_mixInto_18 : decode cX2_mixInto 18 = .ok (.getfield 39, 3) := by decide +kernel
theorem dX2_mixInto_21 : decode cX2_mixInto 21 = .ok (.i2l, 1) := by decide +kernel
theorem dX2_mixInto_22 : decode cX2_mixInto 22 = .ok (.ladd, 1) := by decide +kernel
theorem dX2_mixInto_23 : decode cX2_mixInto 23 = .ok (.lstore_n 3, 1) := by decide +kernel
theorem dX2_mixInto_24 : decode cX2_mixInto 24 = .ok (.ldc2_w 112, 3) := by decide +kernel
theorem dX2_mixInto_27 : decode cX2_mixInto 27 = .ok (.lload_n 3, 1) := by decide +kernel
theorem dX2_mixInto_28 : decode cX2_mixInto 28 = .ok (.lmul, 1) := by decide +kernel
theorem dX2_mixInto_29 : decode cX2_mixInto 29 = .ok (.aload_n 0, 1) := by decide +kernel
theorem dX2_mixInto_30 : decode cX2_mixInto 30 = .ok (.getfield 42, 3) := by decide +kernel
theorem dX2_mixInto_33 : decode cX2_mixInto 33 = .ok (.i2l, 1) := by decide +kernel
theorem dX2_mixInto_34 : decode cX2_mixInto 34 = .ok (.ladd, 1) := by decide +kernel
theorem dX2_mixInto_35 : decode cX2_mixInto 35 = .ok (.lstore_n 3, 1) := by decide +kernel
theorem dX2_mixInto_36 : decode cX2_mixInto 36 = .ok (.iconst 0, 1) := by decide +kernel
theorem dX2_mixInto_37 : decode cX2_mixInto 37 = .ok (.istore 5, 2) := by decide +kernel
theorem dX2_mixInto_39 : decode cX2_mixInto 39 = .ok (.iload 5, 2) := by decide +kernel
theorem dX2_mixInto_41 : decode cX2_mixInto 41 = .ok (.aload_n 0, 1) := by decide +kernel
theorem dX2_mixInto_42 : decode cX2_mixInto 42 = .ok (.getfield 57, 3) := by decide +kernel
theorem dX2_mixInto_45 : decode cX2_mixInto 45 = .ok (.if_icmp .ge 21, 3) := by decide +kernel
theorem dX2_mixInto_48 : decode cX2_mixInto 48 = .ok (.aload_n 0, 1) := by decide +kernel
theorem dX2_mixInto_49 : decode cX2_mixInto 49 = .ok (.getfield 11, 3) := by decide +kernel
theorem dX2_mixInto_52 : decode cX2_mixInto 52 = .ok (.iload 5, 2) := by decide +kernel
theorem dX2_mixInto_54 : decode cX2_mixInto 54 = .ok (.aaload, 1) := by decide +kernel
theorem dX2_mixInto_55 : decode cX2_mixInto 55 = .ok (.lload_n 3, 1) := by decide +kernel
theorem dX2_mixInto_56 : decode cX2_mixInto 56 = .ok (.invokevirtual 114, 3) := by decide +kernel
theorem dX2_mixInto_59 : decode cX2_mixInto 59 = .ok (.lstore_n 3, 1) := by decide +kernel
theorem dX2_mixInto_60 : decode cX2_mixInto 60 = .ok (.iinc 5 1, 3) := by decide +kernel
theorem dX2_mixInto_63 : decode cX2_mixInto 63 = .ok (.goto (-24), 3) := by decide +kernel
theorem dX2_mixInto_66 : decode cX2_mixInto 66 = .ok (.aload_n 0, 1) := by decide +kernel
theorem dX2_mixInto_67 : decode cX2_mixInto 67 = .ok (.getfield 26, 3) := by decide +kernel
theorem dX2_mixInto_70 : decode cX2_mixInto 70 = .ok (.lload_n 3, 1) := by decide +kernel
theorem dX2_mixInto_71 : decode cX2_mixInto 71 = .ok (.invokevirtual 118, 3) := by decide +kernel
theorem dX2_mixInto_74 : decode cX2_mixInto 74 = .ok (.lreturn, 1) := by decide +kernel
set_option maxRecDepth 100000 in
set_option maxHeartbeats 4000000 in
theorem c_X2_mixInto {g : Gv} {l : Launch} (p0 : Nat) (p1 : Int64) (w0 : Wd) (rz : Int64) (wz : Wd) (hf : f_X2_mixInto p0 p1 w0 = some (rz, wz)) : ML g l yX2_mixInto cX2_mixInto 6 1 25 [rV g p0, .long p1] w0 rz wz := by
  refine ml_of RX2 (by decide) rfl (Nat.le_of_ble_eq_true rfl) ?_
  intro X hg hll C hr h0
  subst hg; subst hll
  have t_39 : ∀ (n : Nat) (v0 : Nat) (v3 : Int64) (v5 : Int32) (w : Wd), f_X2_mixInto_39 n v0 v3 v5 w = some (rz, wz) → Wk X 0 0 (QL X w0 rz wz) w [(0, rV (xg X) v0), (3, .long v3), (5, .int v5)] 39 [] := by
    intro n
    induction n with
    | zero => intro v0 v3 v5 w hf; rw [f_X2_mixInto_39] at hf; cases hf
    | succ n39 ih39 =>
      intro v0 v3 v5 w hf
      rw [f_X2_mixInto_39] at hf
      refine k_iload C dX2_mixInto_39 2 rfl 41 rfl ?_
      refine k_aload_n C dX2_mixInto_41 0 rfl rfl 42 rfl ?_
      refine k_getI C fe_X2_57 rfl dX2_mixInto_42 hf 45 rfl (fun x15 hf => ?_)
      refine k_icmp_ge C dX2_mixInto_45 hf 66 rfl 48 rfl (fun hf => ?_) (fun hf => ?_)
      · refine k_aload_n C dX2_mixInto_66 0 rfl rfl 67 rfl ?_
        refine k_getR C fe_X2_26 rfl dX2_mixInto_67 hf 70 rfl (fun r16 hf => ?_)
        refine k_lload_n C dX2_mixInto_70 1 rfl 71 rfl ?_
        refine k_callV_l C ye_X0_mixInto ve_X2_118 ⟨rfl, rfl⟩ ⟨rfl, rfl⟩ dX2_mixInto_71 [.long v3] rfl rfl (Nat.le_of_ble_eq_true rfl) (c_X0_mixInto _ _ _) hf 74 rfl (fun x18 w17 hf => ?_)
        exact k_lret C hr h0 dX2_mixInto_74 hf
      · refine k_aload_n C dX2_mixInto_48 0 rfl rfl 49 rfl ?_
        refine k_getR C fe_X2_11 rfl dX2_mixInto_49 hf 52 rfl (fun r19 hf => ?_)
        refine k_iload C dX2_mixInto_52 2 rfl 54 rfl ?_
        refine k_aald16 C dX2_mixInto_54 hf 55 rfl (fun r20 hf => ?_)
        refine k_lload_n C dX2_mixInto_55 1 rfl 56 rfl ?_
        refine k_callV_l C ye_X1_mixInto ve_X2_114 ⟨rfl, rfl⟩ ⟨rfl, rfl⟩ dX2_mixInto_56 [.long v3] rfl rfl (Nat.le_of_ble_eq_true rfl) (c_X1_mixInto _ _ _) hf 59 rfl (fun x22 w21 hf => ?_)
        refine k_lstore_n C dX2_mixInto_59 rfl (by decide) [(3, .long x22), (0, rV (xg X) v0), (5, .int v5)] rfl 60 rfl ?_
        refine k_iinc C dX2_mixInto_60 2 rfl (by decide) (by decide) [(5, .int (v5 + (1 : Int32))), (3, .long x22), (0, rV (xg X) v0)] rfl 63 rfl ?_
        refine k_goto C dX2_mixInto_63 39 rfl ?_
        refine k_sub [2, 1, 0] rfl ?_
        exact ih39 _ _ _ w21 hf
  unfold f_X2_mixInto at hf
  refine k_sub (lv2 := [(0, rV (xg X) p0), (1, .long p1)]) [0, 1] rfl ?_
  refine k_ldc2 C dX2_mixInto_0 mcst_X2_112 3 rfl ?_
  refine k_lload_n C dX2_mixInto_3 1 rfl 4 rfl ?_
  refine k_lmul C dX2_mixInto_4 5 rfl ?_
  refine k_aload_n C dX2_mixInto_5 0 rfl rfl 6 rfl ?_
  refine k_getI C fe_X2_35 rfl dX2_mixInto_6 hf 9 rfl (fun x23 hf => ?_)
  refine k_i2l C dX2_mixInto_9 10 rfl ?_
  refine k_ladd C dX2_mixInto_10 11 rfl ?_
  refine k_nml hf (fun x24 hf => ?_)
  refine k_lstore_n C dX2_mixInto_11 rfl (by decide) [(3, .long x24), (0, rV (xg X) p0), (1, .long p1)] rfl 12 rfl ?_
  refine k_ldc2 C dX2_mixInto_12 mcst_X2_112 15 rfl ?_
  refine k_lload_n C dX2_mixInto_15 0 rfl 16 rfl ?_
  refine k_lmul C dX2_mixInto_16 17 rfl ?_
  refine k_aload_n C dX2_mixInto_17 1 rfl rfl 18 rfl ?_
  refine k_getI C fe_X2_39 rfl dX2_mixInto_18 hf 21 rfl (fun x25 hf => ?_)
  refine k_i2l C dX2_mixInto_21 22 rfl ?_
  refine k_ladd C dX2_mixInto_22 23 rfl ?_
  refine k_nml hf (fun x26 hf => ?_)
  refine k_lstore_n C dX2_mixInto_23 rfl (by decide) [(3, .long x26), (0, rV (xg X) p0), (1, .long p1)] rfl 24 rfl ?_
  refine k_ldc2 C dX2_mixInto_24 mcst_X2_112 27 rfl ?_
  refine k_lload_n C dX2_mixInto_27 0 rfl 28 rfl ?_
  refine k_lmul C dX2_mixInto_28 29 rfl ?_
  refine k_aload_n C dX2_mixInto_29 1 rfl rfl 30 rfl ?_
  refine k_getI C fe_X2_42 rfl dX2_mixInto_30 hf 33 rfl (fun x27 hf => ?_)
  refine k_i2l C dX2_mixInto_33 34 rfl ?_
  refine k_ladd C dX2_mixInto_34 35 rfl ?_
  refine k_nml hf (fun x28 hf => ?_)
  refine k_lstore_n C dX2_mixInto_35 rfl (by decide) [(3, .long x28), (0, rV (xg X) p0), (1, .long p1)] rfl 36 rfl ?_
  refine k_iconst C dX2_mixInto_36 (0) (by decide) 37 rfl ?_
  refine k_istore C dX2_mixInto_37 (by decide) [(5, .int (0 : Int32)), (3, .long x28), (0, rV (xg X) p0), (1, .long p1)] rfl 39 rfl ?_
  refine k_sub [2, 1, 0] rfl ?_
  exact t_39 4096 _ _ _ w0 hf
theorem dX2_passHour_0 : decode cX2_passHour 0 = .ok (.aload_n 0, 1) := by decide +kernel
theorem dX2_passHour_1 : decode cX2_passHour 1 = .ok (.aload_n 0, 1) := by decide +kernel
theorem dX2_passHour_2 : decode cX2_passHour 2 = .ok (.getfield 42, 3) := by decide +kernel
theorem dX2_passHour_5 : decode cX2_passHour 5 = .ok (.aload_n 0, 1) := by decide +kernel
theorem dX2_passHour_6 : decode cX2_passHour 6 = .ok (.getfield 48, 3) := by decide +kernel
theorem dX2_passHour_9 : decode cX2_passHour 9 = .ok (.invokevirtual 97, 3) := by decide +kernel
theorem dX2_passHour_12 : decode cX2_passHour 12 = .ok (.istore_n 1, 1) := by decide +kernel
theorem dX2_passHour_13 : decode cX2_passHour 13 = .ok (.iload_n 1, 1) := by decide +kernel
theorem dX2_passHour_14 : decode cX2_passHour 14 = .ok (.aload_n 0, 1) := by decide +kernel
theorem dX2_passHour_15 : decode cX2_passHour 15 = .ok (.getfield 35, 3) := by decide +kernel
theorem dX2_passHour_18 : decode cX2_passHour 18 = .ok (.aload_n 0, 1) := by decide +kernel
theorem dX2_passHour_19 : decode cX2_passHour 19 = .ok (.invokevirtual 100, 3) := by decide +kernel
theorem dX2_passHour_22 : decode cX2_passHour 22 = .ok (.isub, 1) := by decide +kernel
theorem dX2_passHour_23 : decode cX2_passHour 23 = .ok (.invokestatic 104, 3) := by decide +kernel
theorem dX2_passHour_26 : decode cX2_passHour 26 = .ok (.istore_n 2, 1) := by decide +kernel
theorem dX2_passHour_27 : decode cX2_passHour 27 = .ok (.aload_n 0, 1) := by decide +kernel
theorem dX2_passHour_28 : decode cX2_passHour 28 = .ok (.aload_n 0, 1) := by decide +kernel
theorem dX2_passHour_29 : decode cX2_passHour 29 = .ok (.getfield 42, 3) := by decide +kernel
theorem dX2_passHour_32 : decode cX2_passHour 32 = .ok (.invokevirtual 89, 3) := by decide +kernel
theorem dX2_passHour_35 : decode cX2_passHour 35 = .ok (.ifCond .eq 21, 3) := by decide +kernel
theorem dX2_passHour_38 : decode cX2_passHour 38 = .ok (.aload_n 0, 1) := by decide +kernel
theorem dX2_passHour_39 : decode cX2_passHour 39 = .ok (.getfield 11, 3) := by decide +kernel
theorem dX2_passHour_42 : decode cX2_passHour 42 = .ok (.aload_n 0, 1) := by decide +kernel
theorem dX2_passHour_43 : decode cX2_passHour 43 = .ok (.getfield 42, 3) := by decide +kernel
theorem dX2_passHour_46 : decode cX2_passHour 46 = .ok (.aaload, 1) := by decide +kernel
theorem dX2_passHour_47 : decode cX2_passHour 47 = .ok (.dup, 1) := by decide +kernel
theorem dX2_passHour_48 : decode cX2_passHour 48 = .ok (.getfield 86, 3) := by decide +kernel
theorem dX2_passHour_51 : decode cX2_passHour 51 = .ok (.iload_n 2, 1) := by decide +kernel
theorem dX2_passHour_52 : decode cX2_passHour 52 = .ok (.iadd, 1) := by decide +kernel
theorem dX2_passHour_53 : decode cX2_passHour 53 = .ok (.putfield 86, 3) := by decide +kernel
theorem dX2_passHour_56 : decode cX2_passHour 56 = .ok (.aload_n 0, 1) := by decide +kernel
theorem dX2_passHour_57 : decode cX2_passHour 57 = .ok (.dup, 1) := by decide +kernel
theorem dX2_passHour_58 : decode cX2_passHour 58 = .ok (.getfield 51, 3) := by decide +kernel
theorem dX2_passHour_61 : decode cX2_passHour 61 = .ok (.iload_n 1, 1) := by decide +kernel
theorem dX2_passHour_62 : decode cX2_passHour 62 = .ok (.iload_n 2, 1) := by decide +kernel
theorem dX2_passHour_63 : decode cX2_passHour 63 = .ok (.isub, 1) := by decide +kernel
theorem dX2_passHour_64 : decode cX2_passHour 64 = .ok (.iadd, 1) := by decide +kernel
theorem dX2_passHour_65 : decode cX2_passHour 65 = .ok (.putfield 51, 3) := by decide +kernel
theorem dX2_passHour_68 : decode cX2_passHour 68 = .ok (.aload_n 0, 1) := by decide +kernel
theorem dX2_passHour_69 : decode cX2_passHour 69 = .ok (.dup, 1) := by decide +kernel
theorem dX2_passHour_70 : decode cX2_passHour 70 = .ok (.getfield 48, 3) := by decide +kernel
theorem dX2_passHour_73 : decode cX2_passHour 73 = .ok (.iconst 1, 1) := by decide +kernel
theorem dX2_passHour_74 : decode cX2_passHour 74 = .ok (.iadd, 1) := by decide +kernel
theorem dX2_passHour_75 : decode cX2_passHour 75 = .ok (.putfield 48, 3) := by decide +kernel
theorem dX2_passHour_78 : decode cX2_passHour 78 = .ok (.iload_n 1, 1) := by decide +kernel
theorem dX2_passHour_79 : decode cX2_passHour 79 = .ok (.ireturn, 1) := by decide +kernel
set_option maxRecDepth 100000 in
set_option maxHeartbeats 4000000 in
theorem c_X2_passHour {g : Gv} {l : Launch} (p0 : Nat) (w0 : Wd) (rz : Int32) (wz : Wd) (hf : f_X2_passHour p0 w0 = some (rz, wz)) : MI g l yX2_passHour cX2_passHour 3 .int 5 114 [rV g p0] w0 rz wz := by
  refine mi_of RX2 (by decide) rfl (Nat.le_of_ble_eq_true rfl) ?_
  intro X hg hll C hr h0
  subst hg; subst hll
  have t_56 : ∀ (v0 : Nat) (v1 : Int32) (v2 : Int32) (w : Wd), f_X2_passHour_56 v0 v1 v2 w = some (rz, wz) → Wk X 0 0 (QI X w0 rz wz) w [(0, rV (xg X) v0), (1, .int v1), (2, .int v2)] 56 [] := by
    intro v0 v1 v2 w hf
    unfold f_X2_passHour_56 at hf
    refine k_aload_n C dX2_passHour_56 0 rfl rfl 57 rfl ?_
    refine k_dup C dX2_passHour_57 rfl 58 rfl ?_
    refine k_getI C fe_X2_51 rfl dX2_passHour_58 hf 61 rfl (fun x21 hf => ?_)
    refine k_iload_n C dX2_passHour_61 1 rfl 62 rfl ?_
    refine k_iload_n C dX2_passHour_62 2 rfl 63 rfl ?_
    refine k_isub C dX2_passHour_63 64 rfl ?_
    refine k_iadd C dX2_passHour_64 65 rfl ?_
    refine k_putI C fe_X2_51 rfl rfl dX2_passHour_65 hf 68 rfl (fun w22 _ hf => ?_)
    refine k_aload_n C dX2_passHour_68 0 rfl rfl 69 rfl ?_
    refine k_dup C dX2_passHour_69 rfl 70 rfl ?_
    refine k_getI C fe_X2_48 rfl dX2_passHour_70 hf 73 rfl (fun x23 hf => ?_)
    refine k_iconst C dX2_passHour_73 (1) (by decide) 74 rfl ?_
    refine k_iadd C dX2_passHour_74 75 rfl ?_
    refine k_putI C fe_X2_48 rfl rfl dX2_passHour_75 hf 78 rfl (fun w24 _ hf => ?_)
    refine k_iload_n C dX2_passHour_78 1 rfl 79 rfl ?_
    exact k_iret C hr h0 dX2_passHour_79 hf
  unfold f_X2_passHour at hf
  refine k_sub (lv2 := [(0, rV (xg X) p0)]) [0] rfl ?_
  refine k_aload_n C dX2_passHour_0 0 rfl rfl 1 rfl ?_
  refine k_aload_n C dX2_passHour_1 0 rfl rfl 2 rfl ?_
  refine k_getI C fe_X2_42 rfl dX2_passHour_2 hf 5 rfl (fun x25 hf => ?_)
  refine k_aload_n C dX2_passHour_5 0 rfl rfl 6 rfl ?_
  refine k_getI C fe_X2_48 rfl dX2_passHour_6 hf 9 rfl (fun x26 hf => ?_)
  refine k_callV_i C ye_X2_groundBy ve_X2_97 ⟨rfl, rfl⟩ ⟨rfl, rfl⟩ dX2_passHour_9 [.int x25, .int x26] rfl rfl (Nat.le_of_ble_eq_true rfl) (c_X2_groundBy _ _ _ _) hf 12 rfl (fun x28 w27 hf => ?_)
  refine k_istore_n C dX2_passHour_12 rfl (by decide) [(1, .int x28), (0, rV (xg X) p0)] rfl 13 rfl ?_
  refine k_iload_n C dX2_passHour_13 0 rfl 14 rfl ?_
  refine k_aload_n C dX2_passHour_14 1 rfl rfl 15 rfl ?_
  refine k_getI C fe_X2_35 rfl dX2_passHour_15 hf 18 rfl (fun x29 hf => ?_)
  refine k_aload_n C dX2_passHour_18 1 rfl rfl 19 rfl ?_
  refine k_callV_i C ye_X2_allBushels ve_X2_100 ⟨rfl, rfl⟩ ⟨rfl, rfl⟩ dX2_passHour_19 [] rfl rfl (Nat.le_of_ble_eq_true rfl) (c_X2_allBushels _ _) hf 22 rfl (fun x31 w30 hf => ?_)
  refine k_isub C dX2_passHour_22 23 rfl ?_
  refine k_mmin C mm_X2_104 mms_mmin mmi mmc_mmin (Nat.le_of_ble_eq_true rfl) (Nat.le_of_ble_eq_true rfl) ⟨rfl, rfl⟩ dX2_passHour_23 26 rfl ?_
  refine k_nmi hf (fun x32 hf => ?_)
  refine k_istore_n C dX2_passHour_26 rfl (by decide) [(2, .int x32), (1, .int x28), (0, rV (xg X) p0)] rfl 27 rfl ?_
  refine k_aload_n C dX2_passHour_27 2 rfl rfl 28 rfl ?_
  refine k_aload_n C dX2_passHour_28 2 rfl rfl 29 rfl ?_
  refine k_getI C fe_X2_42 rfl dX2_passHour_29 hf 32 rfl (fun x33 hf => ?_)
  refine k_callV_i C ye_X2_has ve_X2_89 ⟨rfl, rfl⟩ ⟨rfl, rfl⟩ dX2_passHour_32 [.int x33] rfl rfl (Nat.le_of_ble_eq_true rfl) (c_X2_has _ _ _) hf 35 rfl (fun x35 w34 hf => ?_)
  refine k_if_eq C dX2_passHour_35 hf 56 rfl 38 rfl (fun hf => ?_) (fun hf => ?_)
  · refine k_sub [2, 1, 0] rfl ?_
    exact t_56 _ _ _ w34 hf
  · refine k_aload_n C dX2_passHour_38 2 rfl rfl 39 rfl ?_
    refine k_getR C fe_X2_11 rfl dX2_passHour_39 hf 42 rfl (fun r36 hf => ?_)
    refine k_aload_n C dX2_passHour_42 2 rfl rfl 43 rfl ?_
    refine k_getI C fe_X2_42 rfl dX2_passHour_43 hf 46 rfl (fun x37 hf => ?_)
    refine k_aald16 C dX2_passHour_46 hf 47 rfl (fun r38 hf => ?_)
    refine k_dup C dX2_passHour_47 rfl 48 rfl ?_
    refine k_getI C fe_X2_86 rfl dX2_passHour_48 hf 51 rfl (fun x39 hf => ?_)
    refine k_iload_n C dX2_passHour_51 0 rfl 52 rfl ?_
    refine k_iadd C dX2_passHour_52 53 rfl ?_
    refine k_putI C fe_X2_86 rfl rfl dX2_passHour_53 hf 56 rfl (fun w40 _ hf => ?_)
    refine k_sub [2, 1, 0] rfl ?_
    exact t_56 _ _ _ w40 hf
theorem dX2_remember_0 : decode cX2_remember 0 = .ok (.aload_n 0, 1) := by decide +kernel
theorem dX2_remember_1 : decode cX2_remember 1 = .ok (.getfield 60, 3) := by decide +kernel
theorem dX2_remember_4 : decode cX2_remember 4 = .ok (.bipush 8, 2) := by decide +kernel
theorem dX2_remember_6 : decode cX2_remember 6 = .ok (.if_icmp .lt 25, 3) := by decide +kernel
theorem dX2_remember_9 : decode cX2_remember 9 = .ok (.aload_n 0, 1) := by decide +kernel
theorem dX2_remember_10 : decode cX2_remember 10 = .ok (.getfield 17, 3) := by decide +kernel
theorem dX2_remember_13 : decode cX2_remember 13 = .ok (.bipush 17, 2) := by decide +kernel
theorem dX2_remember_15 : decode cX2_remember 15 = .ok (.aload_n 0, 1) := by decide +kernel
theorem dX2_remember_16 : decode cX2_remember 16 = .ok (.getfield 17, 3) := by decide +kernel
theorem dX2_remember_19 : decode cX2_remember 19 = .ok (.iconst 0, 1) := by decide +kernel
theorem dX2_remember_20 : decode cX2_remember 20 = .ok (.bipush 119, 2) := by decide +kernel
theorem dX2_remember_22 : decode cX2_remember 22 = .ok (.invokestatic 73, 3) := by decide +kernel
theorem dX2_remember_25 : decode cX2_remember 25 = .ok (.aload_n 0, 1) := by decide +kernel
theorem dX2_remember_26 : decode cX2_remember 26 = .ok (.bipush 7, 2) := by decide +kernel
theorem dX2_remember_28 : decode cX2_remember 28 = .ok (.putfield 60, 3) := by decide +kernel
theorem dX2_remember_31 : decode cX2_remember 31 = .ok (.aload_n 0, 1) := by decide +kernel
theorem dX2_remember_32 : decode cX2_remember 32 = .ok (.getfield 60, 3) := by decide +kernel
theorem dX2_remember_35 : decode cX2_remember 35 = .ok (.bipush 17, 2) := by decide +kernel
theorem dX2_remember_37 : decode cX2_remember 37 = .ok (.imul, 1) := by decide +kernel
theorem dX2_remember_38 : decode cX2_remember 38 = .ok (.istore_n 1, 1) := by decide +kernel
theorem dX2_remember_39 : decode cX2_remember 39 = .ok (.aload_n 0, 1) := by decide +kernel
theorem dX2_remember_40 : decode cX2_remember 40 = .ok (.getfield 17, 3) := by decide +kernel
theorem dX2_remember_43 : decode cX2_remember 43 = .ok (.iload_n 1, 1) := by decide +kernel
theorem dX2_remember_44 : decode cX2_remember 44 = .ok (.aload_n 0, 1) := by decide +kernel
theorem dX2_remember_45 : decode cX2_remember 45 = .ok (.getfield 51, 3) := by decide +kernel
theorem dX2_remember_48 : decode cX2_remember 48 = .ok (.iastore, 1) := by decide +kernel
theorem dX2_remember_49 : decode cX2_remember 49 = .ok (.aload_n 0, 1) := by decide +kernel
theorem dX2_remember_50 : decode cX2_remember 50 = .ok (.getfield 17, 3) := by decide +kernel
theorem dX2_remember_53 : decode cX2_remember 53 = .ok (.iload_n 1, 1) := by decide +kernel
theorem dX2_remember_54 : decode cX2_remember 54 = .ok (.iconst 1, 1) := by decide +kernel
theorem dX2_remember_55 : decode cX2_remember 55 = .ok (.iadd, 1) := by decide +kernel
theorem dX2_remember_56 : decode cX2_remember 56 = .ok (.aload_n 0, 1) := by decide +kernel
theorem dX2_remember_57 : decode cX2_remember 57 = .ok (.getfield 54, 3) := by decide +kernel
theorem dX2_remember_60 : decode cX2_remember 60 = .ok (.iastore, 1) := by decide +kernel
theorem dX2_remember_61 : decode cX2_remember 61 = .ok (.aload_n 0, 1) := by decide +kernel
theorem dX2_remember_62 : decode cX2_remember 62 = .ok (.getfield 17, 3) := by decide +kernel
theorem dX2_remember_65 : decode cX2_remember 65 = .ok (.iload_n 1, 1) := by decide +kernel
theorem dX2_remember_66 : decode cX2_remember 66 = .ok (.iconst 2, 1) := by decide +kernel
theorem dX2_remember_67 : decode cX2_remember 67 = .ok (.iadd, 1) := by decide +kernel
theorem dX2_remember_68 : decode cX2_remember 68 = .ok (.aload_n 0, 1) := by decide +kernel
theorem dX2_remember_69 : decode cX2_remember 69 = .ok (.getfield 48, 3) := by decide +kernel
theorem dX2_remember_72 : decode cX2_remember 72 = .ok (.iastore, 1) := by decide +kernel
theorem dX2_remember_73 : decode cX2_remember 73 = .ok (.aload_n 0, 1) := by decide +kernel
theorem dX2_remember_74 : decode cX2_remember 74 = .ok (.getfield 17, 3) := by decide +kernel
theorem dX2_remember_77 : decode cX2_remember 77 = .ok (.iload_n 1, 1) := by decide +kernel
theorem dX2_remember_78 : decode cX2_remember 78 = .ok (.iconst 3, 1) := by decide +kernel
theorem dX2_remember_79 : decode cX2_remember 79 = .ok (.iadd, 1) := by decide +kernel
theorem dX2_remember_80 : decode cX2_remember 80 = .ok (.aload_n 0, 1) := by decide +kernel
theorem dX2_remember_81 : decode cX2_remember 81 = .ok (.getfield 42, 3) := by decide +kernel
theorem dX2_remember_84 : decode cX2_remember 84 = .ok (.iastore, 1) := by decide +kernel
theorem dX2_remember_85 : decode cX2_remember 85 = .ok (.aload_n 0, 1) := by decide +kernel
theorem dX2_remember_86 : decode cX2_remember 86 = .ok (.getfield 17, 3) := by decide +kernel
theorem dX2_remember_89 : decode cX2_remember 89 = .ok (.iload_n 1, 1) := by decide +kernel
theorem dX2_remember_90 : decode cX2_remember 90 = .ok (.iconst 4, 1) := by decide +kernel
theorem dX2_remember_91 : decode cX2_remember 91 = .ok (.iadd, 1) := by decide +kernel
theorem dX2_remember_92 : decode cX2_remember 92 = .ok (.aload_n 0, 1) := by decide +kernel
theorem dX2_remember_93 : decode cX2_remember 93 = .ok (.getfield 45, 3) := by decide +kernel
theorem dX2_remember_96 : decode cX2_remember 96 = .ok (.iastore, 1) := by decide +kernel
theorem dX2_remember_97 : decode cX2_remember 97 = .ok (.iconst 0, 1) := by decide +kernel
theorem dX2_remember_98 : decode cX2_remember 98 = .ok (.istore_n 2, 1) := by decide +kernel
theorem dX2_remember_99 : decode cX2_remember 99 = .ok (.iload_n 2, 1) := by decide +kernel
theorem dX2_remember_100 : decode cX2_remember 100 = .ok (.aload_n 0, 1) := by decide +kernel
theorem dX2_remember_101 : decode cX2_remember 101 = .ok (.getfield 57, 3) := by decide +kernel
theorem dX2_remember_104 : decode cX2_remember 104 = .ok (.if_icmp .ge 52, 3) := by decide +kernel
theorem dX2_remember_107 : decode cX2_remember 107 = .ok (.aload_n 0, 1) := by decide +kernel
theorem dX2_remember_108 : decode cX2_remember 108 = .ok (.getfield 17, 3) := by decide +kernel
theorem dX2_remember_111 : decode cX2_remember 111 = .ok (.iload_n 1, 1) := by decide +kernel
theorem dX2_remember_112 : decode cX2_remember 112 = .ok (.iconst 5, 1) := by decide +kernel
theorem dX2_remember_113 : decode cX2_remember 113 = .ok (.iadd, 1) := by decide +kernel
theorem dX2_remember_114 : decode cX2_remember 114 = .ok (.iconst 2, 1) := by decide +kernel
theorem dX2_remember_115 : decode cX2_remember 115 = .ok (.iload_n 2, 1) := by decide +kernel
theorem dX2_remember_116 : decode cX2_remember 116 = .ok (.imul, 1) := by decide +kernel
theorem dX2_remember_117 : decode cX2_remember 117 = .ok (.iadd, 1) := by decide +kernel
theorem dX2_remember_118 : decode cX2_remember 118 = .ok (.aload_n 0, 1) := by decide +kernel
theorem dX2_remember_119 : decode cX2_remember 119 = .ok (.getfield 11, 3) := by decide +kernel
theorem dX2_remember_122 : decode cX2_remember 122 = .ok (.iload_n 2, 1) := by decide +kernel
theorem dX2_remember_123 : decode cX2_remember 123 = .ok (.aaload, 1) := by decide +kernel
theorem dX2_remember_124 : decode cX2_remember 124 = .ok (.getfield 86, 3) := by decide +kernel
theorem dX2_remember_127 : decode cX2_remember 127 = .ok (.iastore, 1) := by decide +kernel
theorem dX2_remember_128 : decode cX2_remember 128 = .ok (.aload_n 0, 1) := by decide +kernel
theorem dX2_remember_129 : decode cX2_remember 129 = .ok (.getfield 17, 3) := by decide +kernel
theorem dX2_remember_132 : decode cX2_remember 132 = .ok (.iload_n 1, 1) := by decide +kernel
theorem dX2_remember_133 : decode cX2_remember 133 = .ok (.bipush 6, 2) := by decide +kernel
theorem dX2_remember_135 : decode cX2_remember 135 = .ok (.iadd, 1) := by decide +kernel
theorem dX2_remember_136 : decode cX2_remember 136 = .ok (.iconst 2, 1) := by decide +kernel
theorem dX2_remember_137 : decode cX2_remember 137 = .ok (.iload_n 2, 1) := by decide +kernel
theorem dX2_remember_138 : decode cX2_remember 138 = .ok (.imul, 1) := by decide +kernel
theorem dX2_remember_139 : decode cX2_remember 139 = .ok (.iadd, 1) := by decide +kernel
theorem dX2_remember_140 : decode cX2_remember 140 = .ok (.aload_n 0, 1) := by decide +kernel
theorem dX2_remember_141 : decode cX2_remember 141 = .ok (.getfield 11, 3) := by decide +kernel
theorem dX2_remember_144 : decode cX2_remember 144 = .ok (.iload_n 2, 1) := by decide +kernel
theorem dX2_remember_145 : decode cX2_remember 145 = .ok (.aaload, 1) := by decide +kernel
theorem dX2_remember_146 : decode cX2_remember 146 = .ok (.getfield 109, 3) := by decide +kernel
theorem dX2_remember_149 : decode cX2_remember 149 = .ok (.iastore, 1) := by decide +kernel
theorem dX2_remember_150 : decode cX2_remember 150 = .ok (.iinc 2 1, 3) := by decide +kernel
theorem dX2_remember_153 : decode cX2_remember 153 = .ok (.goto (-54), 3) := by decide +kernel
theorem dX2_remember_156 : decode cX2_remember 156 = .ok (.aload_n 0, 1) := by decide +kernel
theorem dX2_remember_157 : decode cX2_remember 157 = .ok (.dup, 1) := by decide +kernel
theorem dX2_remember_158 : decode cX2_remember 158 = .ok (.getfield 60, 3) := by decide +kernel
theorem dX2_remember_161 : decode cX2_remember 161 = .ok (.iconst 1, 1) := by decide +kernel
theorem dX2_remember_162 : decode cX2_remember 162 = .ok (.iadd, 1) := by decide +kernel
theorem dX2_remember_163 : decode cX2_remember 163 = .ok (.putfield 60, 3) := by decide +kernel
theorem dX2_remember_166 : decode cX2_remember 166 = .ok (.return_, 1) := by decide +kernel
set_option maxRecDepth 100000 in
set_option maxHeartbeats 4000000 in
theorem c_X2_remember {g : Gv} {l : Launch} (p0 : Nat) (w0 : Wd) (wz : Wd) (hf : f_X2_remember p0 w0 = some ((), wz)) : MV g l yX2_remember cX2_remember 3 1 48 0 0 [rV g p0] w0 wz := by
  refine mv_of RX2 (by decide) rfl (Nat.le_of_ble_eq_true rfl) ?_
  intro X hg hll C hr h0 hin
  subst hg; subst hll
  have t_99 : ∀ (n : Nat) (v0 : Nat) (v1 : Int32) (v2 : Int32) (w : Wd), f_X2_remember_99 n v0 v1 v2 w = some ((), wz) → Wk X 0 0 (QV X 0 0 w0 wz) w [(0, rV (xg X) v0), (1, .int v1), (2, .int v2)] 99 [] := by
    intro n
    induction n with
    | zero => intro v0 v1 v2 w hf; rw [f_X2_remember_99] at hf; cases hf
    | succ n99 ih99 =>
      intro v0 v1 v2 w hf
      rw [f_X2_remember_99] at hf
      refine k_iload_n C dX2_remember_99 2 rfl 100 rfl ?_
      refine k_aload_n C dX2_remember_100 0 rfl rfl 101 rfl ?_
      refine k_getI C fe_X2_57 rfl dX2_remember_101 hf 104 rfl (fun x36 hf => ?_)
      refine k_icmp_ge C dX2_remember_104 hf 156 rfl 107 rfl (fun hf => ?_) (fun hf => ?_)
      · refine k_aload_n C dX2_remember_156 0 rfl rfl 157 rfl ?_
        refine k_dup C dX2_remember_157 rfl 158 rfl ?_
        refine k_getI C fe_X2_60 rfl dX2_remember_158 hf 161 rfl (fun x37 hf => ?_)
        refine k_iconst C dX2_remember_161 (1) (by decide) 162 rfl ?_
        refine k_iadd C dX2_remember_162 163 rfl ?_
        refine k_putI C fe_X2_60 rfl rfl dX2_remember_163 hf 166 rfl (fun w38 _ hf => ?_)
        exact k_vret C hr h0 dX2_remember_166 hf
      · refine k_aload_n C dX2_remember_107 0 rfl rfl 108 rfl ?_
        refine k_getR C fe_X2_17 rfl dX2_remember_108 hf 111 rfl (fun r39 hf => ?_)
        refine k_iload_n C dX2_remember_111 1 rfl 112 rfl ?_
        refine k_iconst C dX2_remember_112 (5) (by decide) 113 rfl ?_
        refine k_iadd C dX2_remember_113 114 rfl ?_
        refine k_iconst C dX2_remember_114 (2) (by decide) 115 rfl ?_
        refine k_iload_n C dX2_remember_115 2 rfl 116 rfl ?_
        refine k_imul C dX2_remember_116 117 rfl ?_
        refine k_iadd C dX2_remember_117 118 rfl ?_
        refine k_aload_n C dX2_remember_118 0 rfl rfl 119 rfl ?_
        refine k_getR C fe_X2_11 rfl dX2_remember_119 hf 122 rfl (fun r40 hf => ?_)
        refine k_iload_n C dX2_remember_122 2 rfl 123 rfl ?_
        refine k_aald16 C dX2_remember_123 hf 124 rfl (fun r41 hf => ?_)
        refine k_getI C fe_X2_86 rfl dX2_remember_124 hf 127 rfl (fun x42 hf => ?_)
        refine k_iast C dX2_remember_127 hf 128 rfl (fun w43 _ hf => ?_)
        refine k_aload_n C dX2_remember_128 0 rfl rfl 129 rfl ?_
        refine k_getR C fe_X2_17 rfl dX2_remember_129 hf 132 rfl (fun r44 hf => ?_)
        refine k_iload_n C dX2_remember_132 1 rfl 133 rfl ?_
        refine k_bipush C dX2_remember_133 (6) (by decide) 135 rfl ?_
        refine k_iadd C dX2_remember_135 136 rfl ?_
        refine k_iconst C dX2_remember_136 (2) (by decide) 137 rfl ?_
        refine k_iload_n C dX2_remember_137 2 rfl 138 rfl ?_
        refine k_imul C dX2_remember_138 139 rfl ?_
        refine k_iadd C dX2_remember_139 140 rfl ?_
        refine k_aload_n C dX2_remember_140 0 rfl rfl 141 rfl ?_
        refine k_getR C fe_X2_11 rfl dX2_remember_141 hf 144 rfl (fun r45 hf => ?_)
        refine k_iload_n C dX2_remember_144 2 rfl 145 rfl ?_
        refine k_aald16 C dX2_remember_145 hf 146 rfl (fun r46 hf => ?_)
        refine k_getI C fe_X2_109 rfl dX2_remember_146 hf 149 rfl (fun x47 hf => ?_)
        refine k_iast C dX2_remember_149 hf 150 rfl (fun w48 _ hf => ?_)
        refine k_iinc C dX2_remember_150 2 rfl (by decide) (by decide) [(2, .int (v2 + (1 : Int32))), (0, rV (xg X) v0), (1, .int v1)] rfl 153 rfl ?_
        refine k_goto C dX2_remember_153 99 rfl ?_
        refine k_sub [1, 2, 0] rfl ?_
        exact ih99 _ _ _ w48 hf
  have t_31 : ∀ (v0 : Nat) (w : Wd), f_X2_remember_31 v0 w = some ((), wz) → Wk X 0 0 (QV X 0 0 w0 wz) w [(0, rV (xg X) v0)] 31 [] := by
    intro v0 w hf
    unfold f_X2_remember_31 at hf
    refine k_aload_n C dX2_remember_31 0 rfl rfl 32 rfl ?_
    refine k_getI C fe_X2_60 rfl dX2_remember_32 hf 35 rfl (fun x49 hf => ?_)
    refine k_bipush C dX2_remember_35 (17) (by decide) 37 rfl ?_
    refine k_imul C dX2_remember_37 38 rfl ?_
    refine k_nmi hf (fun x50 hf => ?_)
    refine k_istore_n C dX2_remember_38 rfl (by decide) [(1, .int x50), (0, rV (xg X) v0)] rfl 39 rfl ?_
    refine k_aload_n C dX2_remember_39 1 rfl rfl 40 rfl ?_
    refine k_getR C fe_X2_17 rfl dX2_remember_40 hf 43 rfl (fun r51 hf => ?_)
    refine k_iload_n C dX2_remember_43 0 rfl 44 rfl ?_
    refine k_aload_n C dX2_remember_44 1 rfl rfl 45 rfl ?_
    refine k_getI C fe_X2_51 rfl dX2_remember_45 hf 48 rfl (fun x52 hf => ?_)
    refine k_iast C dX2_remember_48 hf 49 rfl (fun w53 _ hf => ?_)
    refine k_aload_n C dX2_remember_49 1 rfl rfl 50 rfl ?_
    refine k_getR C fe_X2_17 rfl dX2_remember_50 hf 53 rfl (fun r54 hf => ?_)
    refine k_iload_n C dX2_remember_53 0 rfl 54 rfl ?_
    refine k_iconst C dX2_remember_54 (1) (by decide) 55 rfl ?_
    refine k_iadd C dX2_remember_55 56 rfl ?_
    refine k_aload_n C dX2_remember_56 1 rfl rfl 57 rfl ?_
    refine k_getI C fe_X2_54 rfl dX2_remember_57 hf 60 rfl (fun x55 hf => ?_)
    refine k_iast C dX2_remember_60 hf 61 rfl (fun w56 _ hf => ?_)
    refine k_aload_n C dX2_remember_61 1 rfl rfl 62 rfl ?_
    refine k_getR C fe_X2_17 rfl dX2_remember_62 hf 65 rfl (fun r57 hf => ?_)
    refine k_iload_n C dX2_remember_65 0 rfl 66 rfl ?_
    refine k_iconst C dX2_remember_66 (2) (by decide) 67 rfl ?_
    refine k_iadd C dX2_remember_67 68 rfl ?_
    refine k_aload_n C dX2_remember_68 1 rfl rfl 69 rfl ?_
    refine k_getI C fe_X2_48 rfl dX2_remember_69 hf 72 rfl (fun x58 hf => ?_)
    refine k_iast C dX2_remember_72 hf 73 rfl (fun w59 _ hf => ?_)
    refine k_aload_n C dX2_remember_73 1 rfl rfl 74 rfl ?_
    refine k_getR C fe_X2_17 rfl dX2_remember_74 hf 77 rfl (fun r60 hf => ?_)
    refine k_iload_n C dX2_remember_77 0 rfl 78 rfl ?_
    refine k_iconst C dX2_remember_78 (3) (by decide) 79 rfl ?_
    refine k_iadd C dX2_remember_79 80 rfl ?_
    refine k_aload_n C dX2_remember_80 1 rfl rfl 81 rfl ?_
    refine k_getI C fe_X2_42 rfl dX2_remember_81 hf 84 rfl (fun x61 hf => ?_)
    refine k_iast C dX2_remember_84 hf 85 rfl (fun w62 _ hf => ?_)
    refine k_aload_n C dX2_remember_85 1 rfl rfl 86 rfl ?_
    refine k_getR C fe_X2_17 rfl dX2_remember_86 hf 89 rfl (fun r63 hf => ?_)
    refine k_iload_n C dX2_remember_89 0 rfl 90 rfl ?_
    refine k_iconst C dX2_remember_90 (4) (by decide) 91 rfl ?_
    refine k_iadd C dX2_remember_91 92 rfl ?_
    refine k_aload_n C dX2_remember_92 1 rfl rfl 93 rfl ?_
    refine k_getI C fe_X2_45 rfl dX2_remember_93 hf 96 rfl (fun x64 hf => ?_)
    refine k_iast C dX2_remember_96 hf 97 rfl (fun w65 _ hf => ?_)
    refine k_iconst C dX2_remember_97 (0) (by decide) 98 rfl ?_
    refine k_istore_n C dX2_remember_98 rfl (by decide) [(2, .int (0 : Int32)), (1, .int x50), (0, rV (xg X) v0)] rfl 99 rfl ?_
    refine k_sub [2, 1, 0] rfl ?_
    exact t_99 4096 _ _ _ w65 hf
  unfold f_X2_remember at hf
  refine k_sub (lv2 := [(0, rV (xg X) p0)]) [0] rfl ?_
  refine k_aload_n C dX2_remember_0 0 rfl rfl 1 rfl ?_
  refine k_getI C fe_X2_60 rfl dX2_remember_1 hf 4 rfl (fun x66 hf => ?_)
  refine k_bipush C dX2_remember_4 (8) (by decide) 6 rfl ?_
  refine k_icmp_lt C dX2_remember_6 hf 31 rfl 9 rfl (fun hf => ?_) (fun hf => ?_)
  · refine k_sub [0] rfl ?_
    exact t_31 _ w0 hf
  · refine k_aload_n C dX2_remember_9 0 rfl rfl 10 rfl ?_
    refine k_getR C fe_X2_17 rfl dX2_remember_10 hf 13 rfl (fun r67 hf => ?_)
    refine k_bipush C dX2_remember_13 (17) (by decide) 15 rfl ?_
    refine k_aload_n C dX2_remember_15 0 rfl rfl 16 rfl ?_
    refine k_getR C fe_X2_17 rfl dX2_remember_16 hf 19 rfl (fun r68 hf => ?_)
    refine k_iconst C dX2_remember_19 (0) (by decide) 20 rfl ?_
    refine k_bipush C dX2_remember_20 (119) (by decide) 22 rfl ?_
    refine k_copy C mm_X2_73 mcp_n mcp_s mcp_i (Nat.le_of_ble_eq_true rfl) (by decide) dX2_remember_22 hf 25 rfl (fun w69 _ hf => ?_)
    refine k_aload_n C dX2_remember_25 0 rfl rfl 26 rfl ?_
    refine k_bipush C dX2_remember_26 (7) (by decide) 28 rfl ?_
    refine k_putI C fe_X2_60 rfl rfl dX2_remember_28 hf 31 rfl (fun w70 _ hf => ?_)
    refine k_sub [0] rfl ?_
    exact t_31 _ w70 hf
