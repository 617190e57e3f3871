theorem dX10_append_0 : decode cX10_append 0 = .ok (.aload_n 0, 1) := by decide +kernel
theorem dX10_append_1 : decode cX10_append 1 = .ok (.getfield 15, 3) := by decide +kernel
theorem dX10_append_4 : decode cX10_append 4 = .ok (.sipush 150, 3) := by decide +kernel
theorem dX10_append_7 : decode cX10_append 7 = .ok (.if_icmp .ge 24, 3) := by decide +kernel
theorem dX10_append_10 : decode cX10_append 10 = .ok (.aload_n 0, 1) := by decide +kernel
theorem dX10_append_11 : decode cX10_append 11 = .ok (.getfield 11, 3) := by decide +kernel
theorem dX10_append_14 : decode cX10_append 14 = .ok (.aload_n 0, 1) := by decide +kernel
theorem dX10_append_15 : decode cX10_append 15 = .ok (.getfield 15, 3) := by decide +kernel
theorem dX10_append_18 : decode cX10_append 18 = .ok (.iload_n 1, 1) := by decide +kernel
theorem dX10_append_19 : decode cX10_append 19 = .ok (.i2b, 1) := by decide +kernel
theorem dX10_append_20 : decode cX10_append 20 = .ok (.bastore, 1) := by decide +kernel
theorem dX10_append_21 : decode cX10_append 21 = .ok (.aload_n 0, 1) := by decide +kernel
theorem dX10_append_22 : decode cX10_append 22 = .ok (.dup, 1) := by decide +kernel
theorem dX10_append_23 : decode cX10_append 23 = .ok (.getfield 15, 3) := by decide +kernel
theorem dX10_append_26 : decode cX10_append 26 = .ok (.iconst 1, 1) := by decide +kernel
theorem dX10_append_27 : decode cX10_append 27 = .ok (.iadd, 1) := by decide +kernel
theorem dX10_append_28 : decode cX10_append 28 = .ok (.putfield 15, 3) := by decide +kernel
theorem dX10_append_31 : decode cX10_append 31 = .ok (.return_, 1) := by decide +kernel
set_option maxRecDepth 100000 in
set_option maxHeartbeats 4000000 in
theorem c_X10_append {g : Gv} {l : Launch} (p0 : Nat) (p1 : Int32) (w0 : Wd) (wz : Wd) (hf : f_X10_append p0 p1 w0 = some ((), wz)) : MV g l yX10_append cX10_append 2 0 0 0 0 [rV g p0, .int p1] w0 wz := by
  refine mv_of RX10 (by decide) rfl (Nat.le_of_ble_eq_true rfl) ?_
  intro X hg hll C hr h0 hin
  subst hg; subst hll
  have t_31 : ∀ (w : Wd), f_X10_append_31 w = some ((), wz) → Wk X 0 0 (QV X 0 0 w0 wz) w [] 31 [] := by
    intro w hf
    unfold f_X10_append_31 at hf
    exact k_vret C hr h0 dX10_append_31 hf
  unfold f_X10_append at hf
  refine k_sub (lv2 := [(0, rV (xg X) p0), (1, .int p1)]) [0, 1] rfl ?_
  refine k_aload_n C dX10_append_0 0 rfl rfl 1 rfl ?_
  refine k_getI C fe_X10_15 rfl dX10_append_1 hf 4 rfl (fun x7 hf => ?_)
  refine k_sipush C dX10_append_4 (150) (by decide) 7 rfl ?_
  refine k_icmp_ge C dX10_append_7 hf 31 rfl 10 rfl (fun hf => ?_) (fun hf => ?_)
  · refine k_sub [] rfl ?_
    exact t_31 w0 hf
  · refine k_aload_n C dX10_append_10 0 rfl rfl 11 rfl ?_
    refine k_getR C fe_X10_11 rfl dX10_append_11 hf 14 rfl (fun r8 hf => ?_)
    refine k_aload_n C dX10_append_14 0 rfl rfl 15 rfl ?_
    refine k_getI C fe_X10_15 rfl dX10_append_15 hf 18 rfl (fun x9 hf => ?_)
    refine k_iload_n C dX10_append_18 1 rfl 19 rfl ?_
    refine k_i2b C dX10_append_19 20 rfl ?_
    refine k_bast C dX10_append_20 hf 21 rfl (fun w10 _ hf => ?_)
    refine k_aload_n C dX10_append_21 0 rfl rfl 22 rfl ?_
    refine k_dup C dX10_append_22 rfl 23 rfl ?_
    refine k_getI C fe_X10_15 rfl dX10_append_23 hf 26 rfl (fun x11 hf => ?_)
    refine k_iconst C dX10_append_26 (1) (by decide) 27 rfl ?_
    refine k_iadd C dX10_append_27 28 rfl ?_
    refine k_putI C fe_X10_15 rfl rfl dX10_append_28 hf 31 rfl (fun w12 _ hf => ?_)
    refine k_sub [] rfl ?_
    exact t_31 w12 hf
theorem dX10_failAt_0 : decode cX10_failAt 0 = .ok (.aload_n 0, 1) := by decide +kernel
theorem dX10_failAt_1 : decode cX10_failAt 1 = .ok (.getfield 22, 3) := by decide +kernel
theorem dX10_failAt_4 : decode cX10_failAt 4 = .ok (.iconst (-1), 1) := by decide +kernel
theorem dX10_failAt_5 : decode cX10_failAt 5 = .ok (.if_icmp .ne 8, 3) := by decide +kernel
theorem dX10_failAt_8 : decode cX10_failAt 8 = .ok (.aload_n 0, 1) := by decide +kernel
theorem dX10_failAt_9 : decode cX10_failAt 9 = .ok (.iload_n 1, 1) := by decide +kernel
theorem dX10_failAt_10 : decode cX10_failAt 10 = .ok (.putfield 22, 3) := by decide +kernel
theorem dX10_failAt_13 : decode cX10_failAt 13 = .ok (.return_, 1) := by decide +kernel
set_option maxRecDepth 100000 in
set_option maxHeartbeats 4000000 in
theorem c_X10_failAt {g : Gv} {l : Launch} (p0 : Nat) (p1 : Int32) (w0 : Wd) (wz : Wd) (hf : f_X10_failAt p0 p1 w0 = some ((), wz)) : MV g l yX10_failAt cX10_failAt 2 0 0 0 0 [rV g p0, .int p1] w0 wz := by
  refine mv_of RX10 (by decide) rfl (Nat.le_of_ble_eq_true rfl) ?_
  intro X hg hll C hr h0 hin
  subst hg; subst hll
  have t_13 : ∀ (w : Wd), f_X10_failAt_13 w = some ((), wz) → Wk X 0 0 (QV X 0 0 w0 wz) w [] 13 [] := by
    intro w hf
    unfold f_X10_failAt_13 at hf
    exact k_vret C hr h0 dX10_failAt_13 hf
  unfold f_X10_failAt at hf
  refine k_sub (lv2 := [(0, rV (xg X) p0), (1, .int p1)]) [0, 1] rfl ?_
  refine k_aload_n C dX10_failAt_0 0 rfl rfl 1 rfl ?_
  refine k_getI C fe_X10_22 rfl dX10_failAt_1 hf 4 rfl (fun x3 hf => ?_)
  refine k_iconst C dX10_failAt_4 (-1) (by decide) 5 rfl ?_
  refine k_icmp_ne C dX10_failAt_5 hf 13 rfl 8 rfl (fun hf => ?_) (fun hf => ?_)
  · refine k_sub [] rfl ?_
    exact t_13 w0 hf
  · refine k_aload_n C dX10_failAt_8 0 rfl rfl 9 rfl ?_
    refine k_iload_n C dX10_failAt_9 1 rfl 10 rfl ?_
    refine k_putI C fe_X10_22 rfl rfl dX10_failAt_10 hf 13 rfl (fun w4 _ hf => ?_)
    refine k_sub [] rfl ?_
    exact t_13 w4 hf
theorem dX10_passBlanks_0 : decode cX10_passBlanks 0 = .ok (.aload_n 0, 1) := by decide +kernel
theorem dX10_passBlanks_1 : decode cX10_passBlanks 1 = .ok (.getfield 19, 3) := by decide +kernel
theorem dX10_passBlanks_4 : decode cX10_passBlanks 4 = .ok (.aload_n 0, 1) := by decide +kernel
theorem dX10_passBlanks_5 : decode cX10_passBlanks 5 = .ok (.getfield 15, 3) := by decide +kernel
theorem dX10_passBlanks_8 : decode cX10_passBlanks 8 = .ok (.if_icmp .ge 30, 3) := by decide +kernel
theorem dX10_passBlanks_11 : decode cX10_passBlanks 11 = .ok (.aload_n 0, 1) := by decide +kernel
theorem dX10_passBlanks_12 : decode cX10_passBlanks 12 = .ok (.getfield 11, 3) := by decide +kernel
theorem dX10_passBlanks_15 : decode cX10_passBlanks 15 = .ok (.aload_n 0, 1) := by decide +kernel
theorem dX10_passBlanks_16 : decode cX10_passBlanks 16 = .ok (.getfield 19, 3) := by decide +kernel
theorem dX10_passBlanks_19 : decode cX10_passBlanks 19 = .ok (.baload, 1) := by decide +kernel
theorem dX10_passBlanks_20 : decode cX10_passBlanks 20 = .ok (.bipush 32, 2) := by decide +kernel
theorem dX10_passBlanks_22 : decode cX10_passBlanks 22 = .ok (.if_icmp .ne 16, 3) := by decide +kernel
theorem dX10_passBlanks_25 : decode cX10_passBlanks 25 = .ok (.aload_n 0, 1) := by decide +kernel
theorem dX10_passBlanks_26 : decode cX10_passBlanks 26 = .ok (.dup, 1) := by decide +kernel
theorem dX10_passBlanks_27 : decode cX10_passBlanks 27 = .ok (.getfield 19, 3) := by decide +kernel
theorem dX10_passBlanks_30 : decode cX10_passBlanks 30 = .ok (.iconst 1, 1) := by decide +kernel
theorem dX10_passBlanks_31 : decode cX10_passBlanks 31 = .ok (.iadd, 1) := by decide +kernel
theorem dX10_passBlanks_32 : decode cX10_passBlanks 32 = .ok (.putfield 19, 3) := by decide +kernel
theorem dX10_passBlanks_35 : decode cX10_passBlanks 35 = .ok (.goto (-35), 3) := by decide +kernel
theorem dX10_passBlanks_38 : decode cX10_passBlanks 38 = .ok (.return_, 1) := by decide +kernel
set_option maxRecDepth 100000 in
set_option maxHeartbeats 4000000 in
theorem c_X10_passBlanks {g : Gv} {l : Launch} (p0 : Nat) (w0 : Wd) (wz : Wd) (hf : f_X10_passBlanks p0 w0 = some ((), wz)) : MV g l yX10_passBlanks cX10_passBlanks 1 0 0 0 0 [rV g p0] w0 wz := by
  refine mv_of RX10 (by decide) rfl (Nat.le_of_ble_eq_true rfl) ?_
  intro X hg hll C hr h0 hin
  subst hg; subst hll
  have t_38 : ∀ (w : Wd), f_X10_passBlanks_38 w = some ((), wz) → Wk X 0 0 (QV X 0 0 w0 wz) w [] 38 [] := by
    intro w hf
    unfold f_X10_passBlanks_38 at hf
    exact k_vret C hr h0 dX10_passBlanks_38 hf
  have t_0 : ∀ (n : Nat) (v0 : Nat) (w : Wd), f_X10_passBlanks_0 n v0 w = some ((), wz) → Wk X 0 0 (QV X 0 0 w0 wz) w [(0, rV (xg X) v0)] 0 [] := by
    intro n
    induction n with
    | zero => intro v0 w hf; rw [f_X10_passBlanks_0] at hf; cases hf
    | succ n0 ih0 =>
      intro v0 w hf
      rw [f_X10_passBlanks_0] at hf
      refine k_aload_n C dX10_passBlanks_0 0 rfl rfl 1 rfl ?_
      refine k_getI C fe_X10_19 rfl dX10_passBlanks_1 hf 4 rfl (fun x8 hf => ?_)
      refine k_aload_n C dX10_passBlanks_4 0 rfl rfl 5 rfl ?_
      refine k_getI C fe_X10_15 rfl dX10_passBlanks_5 hf 8 rfl (fun x9 hf => ?_)
      refine k_icmp_ge C dX10_passBlanks_8 hf 38 rfl 11 rfl (fun hf => ?_) (fun hf => ?_)
      · refine k_sub [] rfl ?_
        exact t_38 w hf
      · refine k_aload_n C dX10_passBlanks_11 0 rfl rfl 12 rfl ?_
        refine k_getR C fe_X10_11 rfl dX10_passBlanks_12 hf 15 rfl (fun r10 hf => ?_)
        refine k_aload_n C dX10_passBlanks_15 0 rfl rfl 16 rfl ?_
        refine k_getI C fe_X10_19 rfl dX10_passBlanks_16 hf 19 rfl (fun x11 hf => ?_)
        refine k_bald C dX10_passBlanks_19 hf 20 rfl (fun x12 hf => ?_)
        refine k_bipush C dX10_passBlanks_20 (32) (by decide) 22 rfl ?_
        refine k_icmp_ne C dX10_passBlanks_22 hf 38 rfl 25 rfl (fun hf => ?_) (fun hf => ?_)
        · refine k_sub [] rfl ?_
          exact t_38 w hf
        · refine k_aload_n C dX10_passBlanks_25 0 rfl rfl 26 rfl ?_
          refine k_dup C dX10_passBlanks_26 rfl 27 rfl ?_
          refine k_getI C fe_X10_19 rfl dX10_passBlanks_27 hf 30 rfl (fun x13 hf => ?_)
          refine k_iconst C dX10_passBlanks_30 (1) (by decide) 31 rfl ?_
          refine k_iadd C dX10_passBlanks_31 32 rfl ?_
          refine k_putI C fe_X10_19 rfl rfl dX10_passBlanks_32 hf 35 rfl (fun w14 _ hf => ?_)
          refine k_goto C dX10_passBlanks_35 0 rfl ?_
          refine k_sub [0] rfl ?_
          exact ih0 _ w14 hf
  unfold f_X10_passBlanks at hf
  refine k_sub (lv2 := [(0, rV (xg X) p0)]) [0] rfl ?_
  refine k_sub [0] rfl ?_
  exact t_0 4096 _ w0 hf
theorem dX11_within_0 : decode cX11_within 0 = .ok (.iload_n 0, 1) := by decide +kernel
theorem dX11_within_1 : decode cX11_within 1 = .ok (.iload_n 1, 1) := by decide +kernel
theorem dX11_within_2 : decode cX11_within 2 = .ok (.if_icmp .lt 12, 3) := by decide +kernel
theorem dX11_within_5 : decode cX11_within 5 = .ok (.iload_n 0, 1) := by decide +kernel
theorem dX11_within_6 : decode cX11_within 6 = .ok (.iload_n 2, 1) := by decide +kernel
theorem dX11_within_7 : decode cX11_within 7 = .ok (.if_icmp .gt 7, 3) := by decide +kernel
theorem dX11_within_10 : decode cX11_within 10 = .ok (.iconst 1, 1) := by decide +kernel
theorem dX11_within_11 : decode cX11_within 11 = .ok (.goto 4, 3) := by decide +kernel
theorem dX11_within_14 : decode cX11_within 14 = .ok (.iconst 0, 1) := by decide +kernel
theorem dX11_within_15 : decode cX11_within 15 = .ok (.ireturn, 1) := by decide +kernel
set_option maxRecDepth 100000 in
set_option maxHeartbeats 4000000 in
theorem c_X11_within {g : Gv} {l : Launch} (p0 : Int32) (p1 : Int32) (p2 : Int32) (w0 : Wd) (rz : Int32) (wz : Wd) (hf : f_X11_within p0 p1 p2 w0 = some (rz, wz)) : MI g l yX11_within cX11_within 3 .boolean 0 0 [.int p0, .int p1, .int p2] w0 rz wz := by
  refine mi_of RX11 (by decide) rfl (Nat.le_of_ble_eq_true rfl) ?_
  intro X hg hll C hr h0
  subst hg; subst hll
  have t_15 : ∀ (s0 : Int32) (w : Wd), f_X11_within_15 s0 w = some (rz, wz) → Wk X 0 0 (QI X w0 rz wz) w [] 15 [.int s0] := by
    intro s0 w hf
    unfold f_X11_within_15 at hf
    exact k_zret C hr h0 dX11_within_15 hf
  have t_14 : ∀ (w : Wd), f_X11_within_14 w = some (rz, wz) → Wk X 0 0 (QI X w0 rz wz) w [] 14 [] := by
    intro w hf
    unfold f_X11_within_14 at hf
    refine k_iconst C dX11_within_14 (0) (by decide) 15 rfl ?_
    refine k_sub [] rfl ?_
    exact t_15 _ w hf
  unfold f_X11_within at hf
  refine k_sub (lv2 := [(0, .int p0), (1, .int p1), (2, .int p2)]) [0, 1, 2] rfl ?_
  refine k_iload_n C dX11_within_0 0 rfl 1 rfl ?_
  refine k_iload_n C dX11_within_1 1 rfl 2 rfl ?_
  refine k_icmp_lt C dX11_within_2 hf 14 rfl 5 rfl (fun hf => ?_) (fun hf => ?_)
  · refine k_sub [] rfl ?_
    exact t_14 w0 hf
  · refine k_iload_n C dX11_within_5 0 rfl 6 rfl ?_
    refine k_iload_n C dX11_within_6 2 rfl 7 rfl ?_
    refine k_icmp_gt C dX11_within_7 hf 14 rfl 10 rfl (fun hf => ?_) (fun hf => ?_)
    · refine k_sub [] rfl ?_
      exact t_14 w0 hf
    · refine k_iconst C dX11_within_10 (1) (by decide) 11 rfl ?_
      refine k_goto C dX11_within_11 15 rfl ?_
      refine k_sub [] rfl ?_
      exact t_15 _ w0 hf
theorem dX10_passLetters_0 : decode cX10_passLetters 0 = .ok (.aload_n 0, 1) := by decide +kernel
theorem dX10_passLetters_1 : decode cX10_passLetters 1 = .ok (.getfield 19, 3) := by decide +kernel
theorem dX10_passLetters_4 : decode cX10_passLetters 4 = .ok (.aload_n 0, 1) := by decide +kernel
theorem dX10_passLetters_5 : decode cX10_passLetters 5 = .ok (.getfield 15, 3) := by decide +kernel
theorem dX10_passLetters_8 : decode cX10_passLetters 8 = .ok (.if_icmp .ge 35, 3) := by decide +kernel
theorem dX10_passLetters_11 : decode cX10_passLetters 11 = .ok (.aload_n 0, 1) := by decide +kernel
theorem dX10_passLetters_12 : decode cX10_passLetters 12 = .ok (.getfield 11, 3) := by decide +kernel
theorem dX10_passLetters_15 : decode cX10_passLetters 15 = .ok (.aload_n 0, 1) := by decide +kernel
theorem dX10_passLetters_16 : decode cX10_passLetters 16 = .ok (.getfield 19, 3) := by decide +kernel
theorem dX10_passLetters_19 : decode cX10_passLetters 19 = .ok (.baload, 1) := by decide +kernel
theorem dX10_passLetters_20 : decode cX10_passLetters 20 = .ok (.bipush 97, 2) := by decide +kernel
theorem dX10_passLetters_22 : decode cX10_passLetters 22 = .ok (.bipush 122, 2) := by decide +kernel
theorem dX10_passLetters_24 : decode cX10_passLetters 24 = .ok (.invokestatic 89, 3) := by decide +kernel
theorem dX10_passLetters_27 : decode cX10_passLetters 27 = .ok (.ifCond .eq 16, 3) := by decide +kernel
theorem dX10_passLetters_30 : decode cX10_passLetters 30 = .ok (.aload_n 0, 1) := by decide +kernel
theorem dX10_passLetters_31 : decode cX10_passLetters 31 = .ok (.dup, 1) := by decide +kernel
theorem dX10_passLetters_32 : decode cX10_passLetters 32 = .ok (.getfield 19, 3) := by decide +kernel
theorem dX10_passLetters_35 : decode cX10_passLetters 35 = .ok (.iconst 1, 1) := by decide +kernel
theorem dX10_passLetters_36 : decode cX10_passLetters 36 = .ok (.iadd, 1) := by decide +kernel
theorem dX10_passLetters_37 : decode cX10_passLetters 37 = .ok (.putfield 19, 3) := by decide +kernel
theorem dX10_passLetters_40 : decode cX10_passLetters 40 = .ok (.goto (-40), 3) := by decide +kernel
theorem dX10_passLetters_43 : decode cX10_passLetters 43 = .ok (.return_, 1) := by decide +kernel
set_option maxRecDepth 100000 in
set_option maxHeartbeats 4000000 in
theorem c_X10_passLetters {g : Gv} {l : Launch} (p0 : Nat) (w0 : Wd) (wz : Wd) (hf : f_X10_passLetters p0 w0 = some ((), wz)) : MV g l yX10_passLetters cX10_passLetters 1 1 22 0 0 [rV g p0] w0 wz := by
  refine mv_of RX10 (by decide) rfl (Nat.le_of_ble_eq_true rfl) ?_
  intro X hg hll C hr h0 hin
  subst hg; subst hll
  have t_43 : ∀ (w : Wd), f_X10_passLetters_43 w = some ((), wz) → Wk X 0 0 (QV X 0 0 w0 wz) w [] 43 [] := by
    intro w hf
    unfold f_X10_passLetters_43 at hf
    exact k_vret C hr h0 dX10_passLetters_43 hf
  have t_0 : ∀ (n : Nat) (v0 : Nat) (w : Wd), f_X10_passLetters_0 n v0 w = some ((), wz) → Wk X 0 0 (QV X 0 0 w0 wz) w [(0, rV (xg X) v0)] 0 [] := by
    intro n
    induction n with
    | zero => intro v0 w hf; rw [f_X10_passLetters_0] at hf; cases hf
    | succ n0 ih0 =>
      intro v0 w hf
      rw [f_X10_passLetters_0] at hf
      refine k_aload_n C dX10_passLetters_0 0 rfl rfl 1 rfl ?_
      refine k_getI C fe_X10_19 rfl dX10_passLetters_1 hf 4 rfl (fun x10 hf => ?_)
      refine k_aload_n C dX10_passLetters_4 0 rfl rfl 5 rfl ?_
      refine k_getI C fe_X10_15 rfl dX10_passLetters_5 hf 8 rfl (fun x11 hf => ?_)
      refine k_icmp_ge C dX10_passLetters_8 hf 43 rfl 11 rfl (fun hf => ?_) (fun hf => ?_)
      · refine k_sub [] rfl ?_
        exact t_43 w hf
      · refine k_aload_n C dX10_passLetters_11 0 rfl rfl 12 rfl ?_
        refine k_getR C fe_X10_11 rfl dX10_passLetters_12 hf 15 rfl (fun r12 hf => ?_)
        refine k_aload_n C dX10_passLetters_15 0 rfl rfl 16 rfl ?_
        refine k_getI C fe_X10_19 rfl dX10_passLetters_16 hf 19 rfl (fun x13 hf => ?_)
        refine k_bald C dX10_passLetters_19 hf 20 rfl (fun x14 hf => ?_)
        refine k_bipush C dX10_passLetters_20 (97) (by decide) 22 rfl ?_
        refine k_bipush C dX10_passLetters_22 (122) (by decide) 24 rfl ?_
        refine k_callSN_i C ye_X11_within sn_X10_89 ⟨rfl, rfl⟩ ⟨rfl, rfl⟩ dX10_passLetters_24 [.int x14, .int (97 : Int32), .int (122 : Int32)] rfl rfl (Nat.le_of_ble_eq_true rfl) (c_X11_within _ _ _ _) hf 27 rfl (fun x16 w15 hf => ?_)
        refine k_if_eq C dX10_passLetters_27 hf 43 rfl 30 rfl (fun hf => ?_) (fun hf => ?_)
        · refine k_sub [] rfl ?_
          exact t_43 w15 hf
        · refine k_aload_n C dX10_passLetters_30 0 rfl rfl 31 rfl ?_
          refine k_dup C dX10_passLetters_31 rfl 32 rfl ?_
          refine k_getI C fe_X10_19 rfl dX10_passLetters_32 hf 35 rfl (fun x17 hf => ?_)
          refine k_iconst C dX10_passLetters_35 (1) (by decide) 36 rfl ?_
          refine k_iadd C dX10_passLetters_36 37 rfl ?_
          refine k_putI C fe_X10_19 rfl rfl dX10_passLetters_37 hf 40 rfl (fun w18 _ hf => ?_)
          refine k_goto C dX10_passLetters_40 0 rfl ?_
          refine k_sub [0] rfl ?_
          exact ih0 _ w18 hf
  unfold f_X10_passLetters at hf
  refine k_sub (lv2 := [(0, rV (xg X) p0)]) [0] rfl ?_
  refine k_sub [0] rfl ?_
  exact t_0 4096 _ w0 hf
theorem dX10_readItemsEnd_0 : decode cX10_readItemsEnd 0 = .ok (.aload_n 0, 1) := by decide +kernel
theorem dX10_readItemsEnd_1 : decode cX10_readItemsEnd 1 = .ok (.invokevirtual 31, 3) := by decide +kernel
theorem dX10_readItemsEnd_4 : decode cX10_readItemsEnd 4 = .ok (.aload_n 0, 1) := by decide +kernel
theorem dX10_readItemsEnd_5 : decode cX10_readItemsEnd 5 = .ok (.getfield 19, 3) := by decide +kernel
theorem dX10_readItemsEnd_8 : decode cX10_readItemsEnd 8 = .ok (.aload_n 0, 1) := by decide +kernel
theorem dX10_readItemsEnd_9 : decode cX10_readItemsEnd 9 = .ok (.getfield 15, 3) := by decide +kernel
theorem dX10_readItemsEnd_12 : decode cX10_readItemsEnd 12 = .ok (.if_icmp .ge 34, 3) := by decide +kernel
theorem dX10_readItemsEnd_15 : decode cX10_readItemsEnd 15 = .ok (.aload_n 0, 1) := by decide +kernel
theorem dX10_readItemsEnd_16 : decode cX10_readItemsEnd 16 = .ok (.getfield 11, 3) := by decide +kernel
theorem dX10_readItemsEnd_19 : decode cX10_readItemsEnd 19 = .ok (.aload_n 0, 1) := by decide +kernel
theorem dX10_readItemsEnd_20 : decode cX10_readItemsEnd 20 = .ok (.getfield 19, 3) := by decide +kernel
theorem dX10_readItemsEnd_23 : decode cX10_readItemsEnd 23 = .ok (.baload, 1) := by decide +kernel
theorem dX10_readItemsEnd_24 : decode cX10_readItemsEnd 24 = .ok (.bipush 59, 2) := by decide +kernel
theorem dX10_readItemsEnd_26 : decode cX10_readItemsEnd 26 = .ok (.if_icmp .ne 20, 3) := by decide +kernel
theorem dX10_readItemsEnd_29 : decode cX10_readItemsEnd 29 = .ok (.aload_n 0, 1) := by decide +kernel
theorem dX10_readItemsEnd_30 : decode cX10_readItemsEnd 30 = .ok (.dup, 1) := by decide +kernel
theorem dX10_readItemsEnd_31 : decode cX10_readItemsEnd 31 = .ok (.getfield 19, 3) := by decide +kernel
theorem dX10_readItemsEnd_34 : decode cX10_readItemsEnd 34 = .ok (.iconst 1, 1) := by decide +kernel
theorem dX10_readItemsEnd_35 : decode cX10_readItemsEnd 35 = .ok (.iadd, 1) := by decide +kernel
theorem dX10_readItemsEnd_36 : decode cX10_readItemsEnd 36 = .ok (.putfield 19, 3) := by decide +kernel
theorem dX10_readItemsEnd_39 : decode cX10_readItemsEnd 39 = .ok (.aload_n 0, 1) := by decide +kernel
theorem dX10_readItemsEnd_40 : decode cX10_readItemsEnd 40 = .ok (.invokevirtual 31, 3) := by decide +kernel
theorem dX10_readItemsEnd_43 : decode cX10_readItemsEnd 43 = .ok (.goto 11, 3) := by decide +kernel
theorem dX10_readItemsEnd_46 : decode cX10_readItemsEnd 46 = .ok (.aload_n 0, 1) := by decide +kernel
theorem dX10_readItemsEnd_47 : decode cX10_readItemsEnd 47 = .ok (.aload_n 0, 1) := by decide +kernel
theorem dX10_readItemsEnd_48 : decode cX10_readItemsEnd 48 = .ok (.getfield 19, 3) := by decide +kernel
theorem dX10_readItemsEnd_51 : decode cX10_readItemsEnd 51 = .ok (.invokevirtual 57, 3) := by decide +kernel
theorem dX10_readItemsEnd_54 : decode cX10_readItemsEnd 54 = .ok (.return_, 1) := by decide +kernel
set_option maxRecDepth 100000 in
set_option maxHeartbeats 4000000 in
theorem c_X10_readItemsEnd {g : Gv} {l : Launch} (p0 : Nat) (w0 : Wd) (wz : Wd) (hf : f_X10_readItemsEnd p0 w0 = some ((), wz)) : MV g l yX10_readItemsEnd cX10_readItemsEnd 1 1 21 0 0 [rV g p0] w0 wz := by
  refine mv_of RX10 (by decide) rfl (Nat.le_of_ble_eq_true rfl) ?_
  intro X hg hll C hr h0 hin
  subst hg; subst hll
  have t_54 : ∀ (w : Wd), f_X10_readItemsEnd_54 w = some ((), wz) → Wk X 0 0 (QV X 0 0 w0 wz) w [] 54 [] := by
    intro w hf
    unfold f_X10_readItemsEnd_54 at hf
    exact k_vret C hr h0 dX10_readItemsEnd_54 hf
  have t_46 : ∀ (v0 : Nat) (w : Wd), f_X10_readItemsEnd_46 v0 w = some ((), wz) → Wk X 0 0 (QV X 0 0 w0 wz) w [(0, rV (xg X) v0)] 46 [] := by
    intro v0 w hf
    unfold f_X10_readItemsEnd_46 at hf
    refine k_aload_n C dX10_readItemsEnd_46 0 rfl rfl 47 rfl ?_
    refine k_aload_n C dX10_readItemsEnd_47 0 rfl rfl 48 rfl ?_
    refine k_getI C fe_X10_19 rfl dX10_readItemsEnd_48 hf 51 rfl (fun x15 hf => ?_)
    refine k_callV_v C ye_X10_failAt ve_X10_57 ⟨rfl, rfl⟩ ⟨rfl, rfl⟩ dX10_readItemsEnd_51 [.int x15] rfl rfl (Nat.le_of_ble_eq_true rfl) (c_X10_failAt _ _ _) hf 54 rfl (fun w16 hf => ?_)
    refine k_sub [] rfl ?_
    exact t_54 w16 hf
  unfold f_X10_readItemsEnd at hf
  refine k_sub (lv2 := [(0, rV (xg X) p0)]) [0] rfl ?_
  refine k_aload_n C dX10_readItemsEnd_0 0 rfl rfl 1 rfl ?_
  refine k_callV_v C ye_X10_passBlanks ve_X10_31 ⟨rfl, rfl⟩ ⟨rfl, rfl⟩ dX10_readItemsEnd_1 [] rfl rfl (Nat.le_of_ble_eq_true rfl) (c_X10_passBlanks _ _) hf 4 rfl (fun w18 hf => ?_)
  refine k_aload_n C dX10_readItemsEnd_4 0 rfl rfl 5 rfl ?_
  refine k_getI C fe_X10_19 rfl dX10_readItemsEnd_5 hf 8 rfl (fun x20 hf => ?_)
  refine k_aload_n C dX10_readItemsEnd_8 0 rfl rfl 9 rfl ?_
  refine k_getI C fe_X10_15 rfl dX10_readItemsEnd_9 hf 12 rfl (fun x21 hf => ?_)
  refine k_icmp_ge C dX10_readItemsEnd_12 hf 46 rfl 15 rfl (fun hf => ?_) (fun hf => ?_)
  · refine k_sub [0] rfl ?_
    exact t_46 _ w18 hf
  · refine k_aload_n C dX10_readItemsEnd_15 0 rfl rfl 16 rfl ?_
    refine k_getR C fe_X10_11 rfl dX10_readItemsEnd_16 hf 19 rfl (fun r22 hf => ?_)
    refine k_aload_n C dX10_readItemsEnd_19 0 rfl rfl 20 rfl ?_
    refine k_getI C fe_X10_19 rfl dX10_readItemsEnd_20 hf 23 rfl (fun x23 hf => ?_)
    refine k_bald C dX10_readItemsEnd_23 hf 24 rfl (fun x24 hf => ?_)
    refine k_bipush C dX10_readItemsEnd_24 (59) (by decide) 26 rfl ?_
    refine k_icmp_ne C dX10_readItemsEnd_26 hf 46 rfl 29 rfl (fun hf => ?_) (fun hf => ?_)
    · refine k_sub [0] rfl ?_
      exact t_46 _ w18 hf
    · refine k_aload_n C dX10_readItemsEnd_29 0 rfl rfl 30 rfl ?_
      refine k_dup C dX10_readItemsEnd_30 rfl 31 rfl ?_
      refine k_getI C fe_X10_19 rfl dX10_readItemsEnd_31 hf 34 rfl (fun x25 hf => ?_)
      refine k_iconst C dX10_readItemsEnd_34 (1) (by decide) 35 rfl ?_
      refine k_iadd C dX10_readItemsEnd_35 36 rfl ?_
      refine k_putI C fe_X10_19 rfl rfl dX10_readItemsEnd_36 hf 39 rfl (fun w26 _ hf => ?_)
      refine k_aload_n C dX10_readItemsEnd_39 0 rfl rfl 40 rfl ?_
      refine k_callV_v C ye_X10_passBlanks ve_X10_31 ⟨rfl, rfl⟩ ⟨rfl, rfl⟩ dX10_readItemsEnd_40 [] rfl rfl (Nat.le_of_ble_eq_true rfl) (c_X10_passBlanks _ _) hf 43 rfl (fun w27 hf => ?_)
      refine k_goto C dX10_readItemsEnd_43 54 rfl ?_
      refine k_sub [] rfl ?_
      exact t_54 w27 hf
theorem dX10_readNumber_0 : decode cX10_readNumber 0 = .ok (.aload_n 0, 1) := by decide +kernel
theorem dX10_readNumber_1 : decode cX10_readNumber 1 = .ok (.invokevirtual 31, 3) := by decide +kernel
theorem dX10_readNumber_4 : decode cX10_readNumber 4 = .ok (.aload_n 0, 1) := by decide +kernel
theorem dX10_readNumber_5 : decode cX10_readNumber 5 = .ok (.getfield 19, 3) := by decide +kernel
theorem dX10_readNumber_8 : decode cX10_readNumber 8 = .ok (.istore_n 3, 1) := by decide +kernel
theorem dX10_readNumber_9 : decode cX10_readNumber 9 = .ok (.iconst 0, 1) := by decide +kernel
theorem dX10_readNumber_10 : decode cX10_readNumber 10 = .ok (.istore 4, 2) := by decide +kernel
theorem dX10_readNumber_12 : decode cX10_readNumber 12 = .ok (.aload_n 0, 1) := by decide +kernel
theorem dX10_readNumber_13 : decode cX10_readNumber 13 = .ok (.getfield 19, 3) := by decide +kernel
theorem dX10_readNumber_16 : decode cX10_readNumber 16 = .ok (.aload_n 0, 1) := by decide +kernel
theorem dX10_readNumber_17 : decode cX10_readNumber 17 = .ok (.getfield 15, 3) := by decide +kernel
theorem dX10_readNumber_20 : decode cX10_readNumber 20 = .ok (.if_icmp .ge 61, 3) := by decide +kernel
theorem dX10_readNumber_23 : decode cX10_readNumber 23 = .ok (.aload_n 0, 1) := by decide +kernel
theorem dX10_readNumber_24 : decode cX10_readNumber 24 = .ok (.getfield 11, 3) := by decide +kernel
theorem dX10_readNumber_27 : decode cX10_readNumber 27 = .ok (.aload_n 0, 1) := by decide +kernel
theorem dX10_readNumber_28 : decode cX10_readNumber 28 = .ok (.getfield 19, 3) := by decide +kernel
theorem dX10_readNumber_31 : decode cX10_readNumber 31 = .ok (.baload, 1) := by decide +kernel
theorem dX10_readNumber_32 : decode cX10_readNumber 32 = .ok (.bipush 48, 2) := by decide +kernel
theorem dX10_readNumber_34 : decode cX10_readNumber 34 = .ok (.bipush 57, 2) := by decide +kernel
theorem dX10_readNumber_36 : decode cX10_readNumber 36 = .ok (.invokestatic 89, 3) := by decide +kernel
theorem dX10_readNumber_39 : decode cX10_readNumber 39 = .ok (.ifCond .eq 42, 3) := by decide +kernel
theorem dX10_readNumber_42 : decode cX10_readNumber 42 = .ok (.sipush 1000, 3) := by decide +kernel
theorem dX10_readNumber_45 : decode cX10_readNumber 45 = .ok (.iload 4, 2) := by decide +kernel
theorem dX10_readNumber_47 : decode cX10_readNumber 47 = .ok (.bipush 10, 2) := by decide +kernel
theorem dX10_readNumber_49 : decode cX10_readNumber 49 = .ok (.imul, 1) := by decide +kernel
theorem dX10_readNumber_50 : decode cX10_readNumber 50 = .ok (.aload_n 0, 1) := by decide +kernel
theorem dX10_readNumber_51 : decode cX10_readNumber 51 = .ok (.getfield 11, 3) := by decide +kernel
theorem dX10_readNumber_54 : decode cX10_readNumber 54 = .ok (.aload_n 0, 1) := by decide +kernel
theorem dX10_readNumber_55 : decode cX10_readNumber 55 = .ok (.getfield 19, 3) := by decide +kernel
theorem dX10_readNumber_58 : decode cX10_readNumber 58 = .ok (.baload, 1) := by decide +kernel
theorem dX10_readNumber_59 : decode cX10_readNumber 59 = .ok (.iadd, 1) := by decide +kernel
theorem dX10_readNumber_60 : decode cX10_readNumber 60 = .ok (.bipush 48, 2) := by decide +kernel
theorem dX10_readNumber_62 : decode cX10_readNumber 62 = .ok (.isub, 1) := by decide +kernel
theorem dX10_readNumber_63 : decode cX10_readNumber 63 = .ok (.invokestatic 93, 3) := by decide +kernel
theorem dX10_readNumber_66 : decode cX10_readNumber 66 = .ok (.istore 4, 2) := by decide +kernel
theorem dX10_readNumber_68 : decode cX10_readNumber 68 = .ok (.aload_n 0, 1) := by decide +kernel
theorem dX10_readNumber_69 : decode cX10_readNumber 69 = .ok (.dup, 1) := by decide +kernel
theorem dX10_readNumber_70 : decode cX10_readNumber 70 = .ok (.getfield 19, 3) := by decide +kernel
theorem dX10_readNumber_73 : decode cX10_readNumber 73 = .ok (.iconst 1, 1) := by decide +kernel
theorem dX10_readNumber_74 : decode cX10_readNumber 74 = .ok (.iadd, 1) := by decide +kernel
theorem dX10_readNumber_75 : decode cX10_readNumber 75 = .ok (.putfield 19, 3) := by decide +kernel
theorem dX10_readNumber_78 : decode cX10_readNumber 78 = .ok (.goto (-66), 3) := by decide +kernel
theorem dX10_readNumber_81 : decode cX10_readNumber 81 = .ok (.aload_n 0, 1) := by decide +kernel
theorem dX10_readNumber_82 : decode cX10_readNumber 82 = .ok (.getfield 19, 3) := by decide +kernel
theorem dX10_readNumber_85 : decode cX10_readNumber 85 = .ok (.iload_n 3, 1) := by decide +kernel
theorem dX10_readNumber_86 : decode cX10_readNumber 86 = .ok (.isub, 1) := by decide +kernel
theorem dX10_readNumber_87 : decode cX10_readNumber 87 = .ok (.istore 5, 2) := by decide +kernel
theorem dX10_readNumber_89 : decode cX10_readNumber 89 = .ok (.iload 5, 2) := by decide +kernel
theorem dX10_readNumber_91 : decode cX10_readNumber 91 = .ok (.iconst 1, 1) := by decide +kernel
theorem dX10_readNumber_92 : decode cX10_readNumber 92 = .ok (.if_icmp .lt 19, 3) := by decide +kernel
theorem dX10_readNumber_95 : decode cX10_readNumber 95 = .ok (.iload 5, 2) := by decide +kernel
theorem dX10_readNumber_97 : decode cX10_readNumber 97 = .ok (.iconst 2, 1) := by decide +kernel
theorem dX10_readNumber_98 : decode cX10_readNumber 98 = .ok (.if_icmp .gt 13, 3) := by decide +kernel
theorem dX10_readNumber_101 : decode cX10_readNumber 101 = .ok (.iload 4, 2) := by decide +kernel
theorem dX10_readNumber_103 : decode cX10_readNumber 103 = .ok (.iload_n 1, 1) := by decide +kernel
theorem dX10_readNumber_104 : decode cX10_readNumber 104 = .ok (.iload_n 2, 1) := by decide +kernel
theorem dX10_readNumber_105 : decode cX10_readNumber 105 = .ok (.invokestatic 89, 3) := by decide +kernel
theorem dX10_readNumber_108 : decode cX10_readNumber 108 = .ok (.ifCond .ne 8, 3) := by decide +kernel
theorem dX10_readNumber_111 : decode cX10_readNumber 111 = .ok (.aload_n 0, 1) := by decide +kernel
theorem dX10_readNumber_112 : decode cX10_readNumber 112 = .ok (.iload_n 3, 1) := by decide +kernel
theorem dX10_readNumber_113 : decode cX10_readNumber 113 = .ok (.invokevirtual 57, 3) := by decide +kernel
theorem dX10_readNumber_116 : decode cX10_readNumber 116 = .ok (.iload 4, 2) := by decide +kernel
theorem dX10_readNumber_118 : decode cX10_readNumber 118 = .ok (.ireturn, 1) := by decide +kernel
set_option maxRecDepth 100000 in
set_option maxHeartbeats 4000000 in
theorem c_X10_readNumber {g : Gv} {l : Launch} (p0 : Nat) (p1 : Int32) (p2 : Int32) (w0 : Wd) (rz : Int32) (wz : Wd) (hf : f_X10_readNumber p0 p1 p2 w0 = some (rz, wz)) : MI g l yX10_readNumber cX10_readNumber 6 .int 1 23 [rV g p0, .int p1, .int p2] w0 rz wz := by
  refine mi_of RX10 (by decide) rfl (Nat.le_of_ble_eq_true rfl) ?_
  intro X hg hll C hr h0
  subst hg; subst hll
  have t_116 : ∀ (v4 : Int32) (w : Wd), f_X10_readNumber_116 v4 w = some (rz, wz) → Wk X 0 0 (QI X w0 rz wz) w [(4, .int v4)] 116 [] := by
    intro v4 w hf
    unfold f_X10_readNumber_116 at hf
    refine k_iload C dX10_readNumber_116 0 rfl 118 rfl ?_
    exact k_iret C hr h0 dX10_readNumber_118 hf
  have t_111 : ∀ (v0 : Nat) (v3 : Int32) (v4 : Int32) (w : Wd), f_X10_readNumber_111 v0 v3 v4 w = some (rz, wz) → Wk X 0 0 (QI X w0 rz wz) w [(0, rV (xg X) v0), (3, .int v3), (4, .int v4)] 111 [] := by
    intro v0 v3 v4 w hf
    unfold f_X10_readNumber_111 at hf
    refine k_aload_n C dX10_readNumber_111 0 rfl rfl 112 rfl ?_
    refine k_iload_n C dX10_readNumber_112 1 rfl 113 rfl ?_
    refine k_callV_v C ye_X10_failAt ve_X10_57 ⟨rfl, rfl⟩ ⟨rfl, rfl⟩ dX10_readNumber_113 [.int v3] rfl rfl (Nat.le_of_ble_eq_true rfl) (c_X10_failAt _ _ _) hf 116 rfl (fun w23 hf => ?_)
    refine k_sub [2] rfl ?_
    exact t_116 _ w23 hf
  have t_81 : ∀ (v0 : Nat) (v1 : Int32) (v2 : Int32) (v3 : Int32) (v4 : Int32) (w : Wd), f_X10_readNumber_81 v0 v1 v2 v3 v4 w = some (rz, wz) → Wk X 0 0 (QI X w0 rz wz) w [(0, rV (xg X) v0), (1, .int v1), (2, .int v2), (3, .int v3), (4, .int v4)] 81 [] := by
    intro v0 v1 v2 v3 v4 w hf
    unfold f_X10_readNumber_81 at hf
    refine k_aload_n C dX10_readNumber_81 0 rfl rfl 82 rfl ?_
    refine k_getI C fe_X10_19 rfl dX10_readNumber_82 hf 85 rfl (fun x25 hf => ?_)
    refine k_iload_n C dX10_readNumber_85 3 rfl 86 rfl ?_
    refine k_isub C dX10_readNumber_86 87 rfl ?_
    refine k_nmi hf (fun x26 hf => ?_)
    refine k_istore C dX10_readNumber_87 (by decide) [(5, .int x26), (0, rV (xg X) v0), (1, .int v1), (2, .int v2), (3, .int v3), (4, .int v4)] rfl 89 rfl ?_
    refine k_iload C dX10_readNumber_89 0 rfl 91 rfl ?_
    refine k_iconst C dX10_readNumber_91 (1) (by decide) 92 rfl ?_
    refine k_icmp_lt C dX10_readNumber_92 hf 111 rfl 95 rfl (fun hf => ?_) (fun hf => ?_)
    · refine k_sub [1, 4, 5] rfl ?_
      exact t_111 _ _ _ w hf
    · refine k_iload C dX10_readNumber_95 0 rfl 97 rfl ?_
      refine k_iconst C dX10_readNumber_97 (2) (by decide) 98 rfl ?_
      refine k_icmp_gt C dX10_readNumber_98 hf 111 rfl 101 rfl (fun hf => ?_) (fun hf => ?_)
      · refine k_sub [1, 4, 5] rfl ?_
        exact t_111 _ _ _ w hf
      · refine k_iload C dX10_readNumber_101 5 rfl 103 rfl ?_
        refine k_iload_n C dX10_readNumber_103 2 rfl 104 rfl ?_
        refine k_iload_n C dX10_readNumber_104 3 rfl 105 rfl ?_
        refine k_callSN_i C ye_X11_within sn_X10_89 ⟨rfl, rfl⟩ ⟨rfl, rfl⟩ dX10_readNumber_105 [.int v4, .int v1, .int v2] rfl rfl (Nat.le_of_ble_eq_true rfl) (c_X11_within _ _ _ _) hf 108 rfl (fun x28 w27 hf => ?_)
        refine k_if_ne C dX10_readNumber_108 hf 116 rfl 111 rfl (fun hf => ?_) (fun hf => ?_)
        · refine k_sub [5] rfl ?_
          exact t_116 _ w27 hf
        · refine k_sub [1, 4, 5] rfl ?_
          exact t_111 _ _ _ w27 hf
  have t_12 : ∀ (n : Nat) (v0 : Nat) (v1 : Int32) (v2 : Int32) (v3 : Int32) (v4 : Int32) (w : Wd), f_X10_readNumber_12 n v0 v1 v2 v3 v4 w = some (rz, wz) → Wk X 0 0 (QI X w0 rz wz) w [(0, rV (xg X) v0), (1, .int v1), (2, .int v2), (3, .int v3), (4, .int v4)] 12 [] := by
    intro n
    induction n with
    | zero => intro v0 v1 v2 v3 v4 w hf; rw [f_X10_readNumber_12] at hf; cases hf
    | succ n12 ih12 =>
      intro v0 v1 v2 v3 v4 w hf
      rw [f_X10_readNumber_12] at hf
      refine k_aload_n C dX10_readNumber_12 0 rfl rfl 13 rfl ?_
      refine k_getI C fe_X10_19 rfl dX10_readNumber_13 hf 16 rfl (fun x29 hf => ?_)
      refine k_aload_n C dX10_readNumber_16 0 rfl rfl 17 rfl ?_
      refine k_getI C fe_X10_15 rfl dX10_readNumber_17 hf 20 rfl (fun x30 hf => ?_)
      refine k_icmp_ge C dX10_readNumber_20 hf 81 rfl 23 rfl (fun hf => ?_) (fun hf => ?_)
      · refine k_sub [0, 1, 2, 3, 4] rfl ?_
        exact t_81 _ _ _ _ _ w hf
      · refine k_aload_n C dX10_readNumber_23 0 rfl rfl 24 rfl ?_
        refine k_getR C fe_X10_11 rfl dX10_readNumber_24 hf 27 rfl (fun r31 hf => ?_)
        refine k_aload_n C dX10_readNumber_27 0 rfl rfl 28 rfl ?_
        refine k_getI C fe_X10_19 rfl dX10_readNumber_28 hf 31 rfl (fun x32 hf => ?_)
        refine k_bald C dX10_readNumber_31 hf 32 rfl (fun x33 hf => ?_)
        refine k_bipush C dX10_readNumber_32 (48) (by decide) 34 rfl ?_
        refine k_bipush C dX10_readNumber_34 (57) (by decide) 36 rfl ?_
        refine k_callSN_i C ye_X11_within sn_X10_89 ⟨rfl, rfl⟩ ⟨rfl, rfl⟩ dX10_readNumber_36 [.int x33, .int (48 : Int32), .int (57 : Int32)] rfl rfl (Nat.le_of_ble_eq_true rfl) (c_X11_within _ _ _ _) hf 39 rfl (fun x35 w34 hf => ?_)
        refine k_if_eq C dX10_readNumber_39 hf 81 rfl 42 rfl (fun hf => ?_) (fun hf => ?_)
        · refine k_sub [0, 1, 2, 3, 4] rfl ?_
          exact t_81 _ _ _ _ _ w34 hf
        · refine k_sipush C dX10_readNumber_42 (1000) (by decide) 45 rfl ?_
          refine k_iload C dX10_readNumber_45 4 rfl 47 rfl ?_
          refine k_bipush C dX10_readNumber_47 (10) (by decide) 49 rfl ?_
          refine k_imul C dX10_readNumber_49 50 rfl ?_
          refine k_aload_n C dX10_readNumber_50 0 rfl rfl 51 rfl ?_
          refine k_getR C fe_X10_11 rfl dX10_readNumber_51 hf 54 rfl (fun r36 hf => ?_)
          refine k_aload_n C dX10_readNumber_54 0 rfl rfl 55 rfl ?_
          refine k_getI C fe_X10_19 rfl dX10_readNumber_55 hf 58 rfl (fun x37 hf => ?_)
          refine k_bald C dX10_readNumber_58 hf 59 rfl (fun x38 hf => ?_)
          refine k_iadd C dX10_readNumber_59 60 rfl ?_
          refine k_bipush C dX10_readNumber_60 (48) (by decide) 62 rfl ?_
          refine k_isub C dX10_readNumber_62 63 rfl ?_
          refine k_mmin C mm_X10_93 mms_mmin mmi mmc_mmin (Nat.le_of_ble_eq_true rfl) (Nat.le_of_ble_eq_true rfl) ⟨rfl, rfl⟩ dX10_readNumber_63 66 rfl ?_
          refine k_nmi hf (fun x39 hf => ?_)
          refine k_istore C dX10_readNumber_66 (by decide) [(4, .int x39), (0, rV (xg X) v0), (1, .int v1), (2, .int v2), (3, .int v3)] rfl 68 rfl ?_
          refine k_aload_n C dX10_readNumber_68 1 rfl rfl 69 rfl ?_
          refine k_dup C dX10_readNumber_69 rfl 70 rfl ?_
          refine k_getI C fe_X10_19 rfl dX10_readNumber_70 hf 73 rfl (fun x40 hf => ?_)
          refine k_iconst C dX10_readNumber_73 (1) (by decide) 74 rfl ?_
          refine k_iadd C dX10_readNumber_74 75 rfl ?_
          refine k_putI C fe_X10_19 rfl rfl dX10_readNumber_75 hf 78 rfl (fun w41 _ hf => ?_)
          refine k_goto C dX10_readNumber_78 12 rfl ?_
          refine k_sub [1, 2, 3, 4, 0] rfl ?_
          exact ih12 _ _ _ _ _ w41 hf
  unfold f_X10_readNumber at hf
  refine k_sub (lv2 := [(0, rV (xg X) p0), (1, .int p1), (2, .int p2)]) [0, 1, 2] rfl ?_
  refine k_aload_n C dX10_readNumber_0 0 rfl rfl 1 rfl ?_
  refine k_callV_v C ye_X10_passBlanks ve_X10_31 ⟨rfl, rfl⟩ ⟨rfl, rfl⟩ dX10_readNumber_1 [] rfl rfl (Nat.le_of_ble_eq_true rfl) (c_X10_passBlanks _ _) hf 4 rfl (fun w42 hf => ?_)
  refine k_aload_n C dX10_readNumber_4 0 rfl rfl 5 rfl ?_
  refine k_getI C fe_X10_19 rfl dX10_readNumber_5 hf 8 rfl (fun x44 hf => ?_)
  refine k_istore_n C dX10_readNumber_8 rfl (by decide) [(3, .int x44), (0, rV (xg X) p0), (1, .int p1), (2, .int p2)] rfl 9 rfl ?_
  refine k_iconst C dX10_readNumber_9 (0) (by decide) 10 rfl ?_
  refine k_istore C dX10_readNumber_10 (by decide) [(4, .int (0 : Int32)), (3, .int x44), (0, rV (xg X) p0), (1, .int p1), (2, .int p2)] rfl 12 rfl ?_
  refine k_sub [2, 3, 4, 1, 0] rfl ?_
  exact t_12 4096 _ _ _ _ _ w42 hf
theorem dX10_readGoods_0 : decode cX10_readGoods 0 = .ok (.aload_n 1, 1) := by decide +kernel
theorem dX10_readGoods_1 : decode cX10_readGoods 1 = .ok (.getfield 71, 3) := by decide +kernel
theorem dX10_readGoods_4 : decode cX10_readGoods 4 = .ok (.bipush 6, 2) := by decide +kernel
theorem dX10_readGoods_6 : decode cX10_readGoods 6 = .ok (.if_icmp .lt 8, 3) := by decide +kernel
theorem dX10_readGoods_9 : decode cX10_readGoods 9 = .ok (.aload_n 0, 1) := by decide +kernel
theorem dX10_readGoods_10 : decode cX10_readGoods 10 = .ok (.iload_n 2, 1) := by decide +kernel
theorem dX10_readGoods_11 : decode cX10_readGoods 11 = .ok (.invokevirtual 57, 3) := by decide +kernel
theorem dX10_readGoods_14 : decode cX10_readGoods 14 = .ok (.aload_n 0, 1) := by decide +kernel
theorem dX10_readGoods_15 : decode cX10_readGoods 15 = .ok (.iconst 0, 1) := by decide +kernel
theorem dX10_readGoods_16 : decode cX10_readGoods 16 = .ok (.iconst 5, 1) := by decide +kernel
theorem dX10_readGoods_17 : decode cX10_readGoods 17 = .ok (.invokevirtual 50, 3) := by decide +kernel
theorem dX10_readGoods_20 : decode cX10_readGoods 20 = .ok (.istore_n 3, 1) := by decide +kernel
theorem dX10_readGoods_21 : decode cX10_readGoods 21 = .ok (.aload_n 0, 1) := by decide +kernel
theorem dX10_readGoods_22 : decode cX10_readGoods 22 = .ok (.iconst 1, 1) := by decide +kernel
theorem dX10_readGoods_23 : decode cX10_readGoods 23 = .ok (.bipush 9, 2) := by decide +kernel
theorem dX10_readGoods_25 : decode cX10_readGoods 25 = .ok (.invokevirtual 50, 3) := by decide +kernel
theorem dX10_readGoods_28 : decode cX10_readGoods 28 = .ok (.istore 4, 2) := by decide +kernel
theorem dX10_readGoods_30 : decode cX10_readGoods 30 = .ok (.aload_n 0, 1) := by decide +kernel
theorem dX10_readGoods_31 : decode cX10_readGoods 31 = .ok (.iconst 0, 1) := by decide +kernel
theorem dX10_readGoods_32 : decode cX10_readGoods 32 = .ok (.bipush 40, 2) := by decide +kernel
theorem dX10_readGoods_34 : decode cX10_readGoods 34 = .ok (.invokevirtual 50, 3) := by decide +kernel
theorem dX10_readGoods_37 : decode cX10_readGoods 37 = .ok (.istore 5, 2) := by decide +kernel
theorem dX10_readGoods_39 : decode cX10_readGoods 39 = .ok (.aload_n 0, 1) := by decide +kernel
theorem dX10_readGoods_40 : decode cX10_readGoods 40 = .ok (.getfield 22, 3) := by decide +kernel
theorem dX10_readGoods_43 : decode cX10_readGoods 43 = .ok (.iconst (-1), 1) := by decide +kernel
theorem dX10_readGoods_44 : decode cX10_readGoods 44 = .ok (.if_icmp .ne 12, 3) := by decide +kernel
theorem dX10_readGoods_47 : decode cX10_readGoods 47 = .ok (.aload_n 1, 1) := by decide +kernel
theorem dX10_readGoods_48 : decode cX10_readGoods 48 = .ok (.iload_n 3, 1) := by decide +kernel
theorem dX10_readGoods_49 : decode cX10_readGoods 49 = .ok (.iload 4, 2) := by decide +kernel
theorem dX10_readGoods_51 : decode cX10_readGoods 51 = .ok (.iload 5, 2) := by decide +kernel
theorem dX10_readGoods_53 : decode cX10_readGoods 53 = .ok (.invokevirtual 85, 3) := by decide +kernel
theorem dX10_readGoods_56 : decode cX10_readGoods 56 = .ok (.return_, 1) := by decide +kernel
set_option maxRecDepth 100000 in
set_option maxHeartbeats 4000000 in
theorem c_X10_readGoods {g : Gv} {l : Launch} (p0 : Nat) (p1 : Nat) (p2 : Int32) (w0 : Wd) (wz : Wd) (hf : f_X10_readGoods p0 p1 p2 w0 = some ((), wz)) : MV g l yX10_readGoods cX10_readGoods 6 2 48 0 0 [rV g p0, rV g p1, .int p2] w0 wz := by
  refine mv_of RX10 (by decide) rfl (Nat.le_of_ble_eq_true rfl) ?_
  intro X hg hll C hr h0 hin
  subst hg; subst hll
  have t_56 : ∀ (w : Wd), f_X10_readGoods_56 w = some ((), wz) → Wk X 0 0 (QV X 0 0 w0 wz) w [] 56 [] := by
    intro w hf
    unfold f_X10_readGoods_56 at hf
    exact k_vret C hr h0 dX10_readGoods_56 hf
  have t_14 : ∀ (v0 : Nat) (v1 : Nat) (w : Wd), f_X10_readGoods_14 v0 v1 w = some ((), wz) → Wk X 0 0 (QV X 0 0 w0 wz) w [(0, rV (xg X) v0), (1, rV (xg X) v1)] 14 [] := by
    intro v0 v1 w hf
    unfold f_X10_readGoods_14 at hf
    refine k_aload_n C dX10_readGoods_14 0 rfl rfl 15 rfl ?_
    refine k_iconst C dX10_readGoods_15 (0) (by decide) 16 rfl ?_
    refine k_iconst C dX10_readGoods_16 (5) (by decide) 17 rfl ?_
    refine k_callV_i C ye_X10_readNumber ve_X10_50 ⟨rfl, rfl⟩ ⟨rfl, rfl⟩ dX10_readGoods_17 [.int (0 : Int32), .int (5 : Int32)] rfl rfl (Nat.le_of_ble_eq_true rfl) (c_X10_readNumber _ _ _ _) hf 20 rfl (fun x14 w13 hf => ?_)
    refine k_istore_n C dX10_readGoods_20 rfl (by decide) [(3, .int x14), (0, rV (xg X) v0), (1, rV (xg X) v1)] rfl 21 rfl ?_
    refine k_aload_n C dX10_readGoods_21 1 rfl rfl 22 rfl ?_
    refine k_iconst C dX10_readGoods_22 (1) (by decide) 23 rfl ?_
    refine k_bipush C dX10_readGoods_23 (9) (by decide) 25 rfl ?_
    refine k_callV_i C ye_X10_readNumber ve_X10_50 ⟨rfl, rfl⟩ ⟨rfl, rfl⟩ dX10_readGoods_25 [.int (1 : Int32), .int (9 : Int32)] rfl rfl (Nat.le_of_ble_eq_true rfl) (c_X10_readNumber _ _ _ _) hf 28 rfl (fun x16 w15 hf => ?_)
    refine k_istore C dX10_readGoods_28 (by decide) [(4, .int x16), (3, .int x14), (0, rV (xg X) v0), (1, rV (xg X) v1)] rfl 30 rfl ?_
    refine k_aload_n C dX10_readGoods_30 2 rfl rfl 31 rfl ?_
    refine k_iconst C dX10_readGoods_31 (0) (by decide) 32 rfl ?_
    refine k_bipush C dX10_readGoods_32 (40) (by decide) 34 rfl ?_
    refine k_callV_i C ye_X10_readNumber ve_X10_50 ⟨rfl, rfl⟩ ⟨rfl, rfl⟩ dX10_readGoods_34 [.int (0 : Int32), .int (40 : Int32)] rfl rfl (Nat.le_of_ble_eq_true rfl) (c_X10_readNumber _ _ _ _) hf 37 rfl (fun x18 w17 hf => ?_)
    refine k_istore C dX10_readGoods_37 (by decide) [(5, .int x18), (4, .int x16), (3, .int x14), (0, rV (xg X) v0), (1, rV (xg X) v1)] rfl 39 rfl ?_
    refine k_aload_n C dX10_readGoods_39 3 rfl rfl 40 rfl ?_
    refine k_getI C fe_X10_22 rfl dX10_readGoods_40 hf 43 rfl (fun x19 hf => ?_)
    refine k_iconst C dX10_readGoods_43 (-1) (by decide) 44 rfl ?_
    refine k_icmp_ne C dX10_readGoods_44 hf 56 rfl 47 rfl (fun hf => ?_) (fun hf => ?_)
    · refine k_sub [] rfl ?_
      exact t_56 w17 hf
    · refine k_aload_n C dX10_readGoods_47 4 rfl rfl 48 rfl ?_
      refine k_iload_n C dX10_readGoods_48 2 rfl 49 rfl ?_
      refine k_iload C dX10_readGoods_49 1 rfl 51 rfl ?_
      refine k_iload C dX10_readGoods_51 0 rfl 53 rfl ?_
      refine k_callV_v C ye_X2_addGoods ve_X10_85 ⟨rfl, rfl⟩ ⟨rfl, rfl⟩ dX10_readGoods_53 [.int x14, .int x16, .int x18] rfl rfl (Nat.le_of_ble_eq_true rfl) (c_X2_addGoods _ _ _ _ _) hf 56 rfl (fun w20 hf => ?_)
      refine k_sub [] rfl ?_
      exact t_56 w20 hf
  unfold f_X10_readGoods at hf
  refine k_sub (lv2 := [(0, rV (xg X) p0), (1, rV (xg X) p1), (2, .int p2)]) [0, 1, 2] rfl ?_
  refine k_aload_n C dX10_readGoods_0 1 rfl rfl 1 rfl ?_
  refine k_getI C fe_X10_71 rfl dX10_readGoods_1 hf 4 rfl (fun x22 hf => ?_)
  refine k_bipush C dX10_readGoods_4 (6) (by decide) 6 rfl ?_
  refine k_icmp_lt C dX10_readGoods_6 hf 14 rfl 9 rfl (fun hf => ?_) (fun hf => ?_)
  · refine k_sub [0, 1] rfl ?_
    exact t_14 _ _ w0 hf
  · refine k_aload_n C dX10_readGoods_9 0 rfl rfl 10 rfl ?_
    refine k_iload_n C dX10_readGoods_10 2 rfl 11 rfl ?_
    refine k_callV_v C ye_X10_failAt ve_X10_57 ⟨rfl, rfl⟩ ⟨rfl, rfl⟩ dX10_readGoods_11 [.int p2] rfl rfl (Nat.le_of_ble_eq_true rfl) (c_X10_failAt _ _ _) hf 14 rfl (fun w23 hf => ?_)
    refine k_sub [0, 1] rfl ?_
    exact t_14 _ _ w23 hf
theorem dX11_amountOf_0 : decode cX11_amountOf 0 = .ok (.iload_n 1, 1) := by decide +kernel
theorem dX11_amountOf_1 : decode cX11_amountOf 1 = .ok (.tableswitch 129 0 8 #[51, 59, 67, 75, 83, 91, 102, 113, 121], 51) := by decide +kernel
theorem dX11_amountOf_52 : decode cX11_amountOf 52 = .ok (.aload_n 0, 1) := by decide +kernel
theorem dX11_amountOf_53 : decode cX11_amountOf 53 = .ok (.getfield 30, 3) := by decide +kernel
theorem dX11_amountOf_56 : decode cX11_amountOf 56 = .ok (.getfield 80, 3) := by decide +kernel
theorem dX11_amountOf_59 : decode cX11_amountOf 59 = .ok (.ireturn, 1) := by decide +kernel
theorem dX11_amountOf_60 : decode cX11_amountOf 60 = .ok (.aload_n 0, 1) := by decide +kernel
theorem dX11_amountOf_61 : decode cX11_amountOf 61 = .ok (.getfield 30, 3) := by decide +kernel
theorem dX11_amountOf_64 : decode cX11_amountOf 64 = .ok (.getfield 156, 3) := by decide +kernel
theorem dX11_amountOf_67 : decode cX11_amountOf 67 = .ok (.ireturn, 1) := by decide +kernel
theorem dX11_amountOf_68 : decode cX11_amountOf 68 = .ok (.aload_n 0, 1) := by decide +kernel
theorem dX11_amountOf_69 : decode cX11_amountOf 69 = .ok (.getfield 30, 3) := by decide +kernel
theorem dX11_amountOf_72 : decode cX11_amountOf 72 = .ok (.invokevirtual 180, 3) := by decide +kernel
theorem dX11_amountOf_75 : decode cX11_amountOf 75 = .ok (.ireturn, 1) := by decide +kernel
theorem dX11_amountOf_76 : decode cX11_amountOf 76 = .ok (.aload_n 0, 1) := by decide +kernel
theorem dX11_amountOf_77 : decode cX11_amountOf 77 = .ok (.getfield 30, 3) := by decide +kernel
theorem dX11_amountOf_80 : decode cX11_amountOf 80 = .ok (.getfield 191, 3) := by decide +kernel
theorem dX11_amountOf_83 : decode cX11_amountOf 83 = .ok (.ireturn, 1) := by decide +kernel
theorem dX11_amountOf_84 : decode cX11_amountOf 84 = .ok (.aload_n 0, 1) := by decide +kernel
theorem dX11_amountOf_85 : decode cX11_amountOf 85 = .ok (.getfield 30, 3) := by decide +kernel
theorem dX11_amountOf_88 : decode cX11_amountOf 88 = .ok (.getfield 144, 3) := by decide +kernel
theorem dX11_amountOf_91 : decode cX11_amountOf 91 = .ok (.ireturn, 1) := by decide +kernel
theorem dX11_amountOf_92 : decode cX11_amountOf 92 = .ok (.aload_n 0, 1) := by decide +kernel
theorem dX11_amountOf_93 : decode cX11_amountOf 93 = .ok (.getfield 30, 3) := by decide +kernel
theorem dX11_amountOf_96 : decode cX11_amountOf 96 = .ok (.getfield 207, 3) := by decide +kernel
theorem dX11_amountOf_99 : decode cX11_amountOf 99 = .ok (.getfield 211, 3) := by decide +kernel
theorem dX11_amountOf_102 : decode cX11_amountOf 102 = .ok (.ireturn, 1) := by decide +kernel
theorem dX11_amountOf_103 : decode cX11_amountOf 103 = .ok (.aload_n 0, 1) := by decide +kernel
theorem dX11_amountOf_104 : decode cX11_amountOf 104 = .ok (.getfield 30, 3) := by decide +kernel
theorem dX11_amountOf_107 : decode cX11_amountOf 107 = .ok (.getfield 207, 3) := by decide +kernel
theorem dX11_amountOf_110 : decode cX11_amountOf 110 = .ok (.getfield 238, 3) := by decide +kernel
theorem dX11_amountOf_113 : decode cX11_amountOf 113 = .ok (.ireturn, 1) := by decide +kernel
theorem dX11_amountOf_114 : decode cX11_amountOf 114 = .ok (.aload_n 0, 1) := by decide +kernel
theorem dX11_amountOf_115 : decode cX11_amountOf 115 = .ok (.getfield 30, 3) := by decide +kernel
theorem dX11_amountOf_118 : decode cX11_amountOf 118 = .ok (.getfield 150, 3) := by decide +kernel
theorem dX11_amountOf_121 : decode cX11_amountOf 121 = .ok (.ireturn, 1) := by decide +kernel
theorem dX11_amountOf_122 : decode cX11_amountOf 122 = .ok (.aload_n 0, 1) := by decide +kernel
theorem dX11_amountOf_123 : decode cX11_amountOf 123 = .ok (.getfield 50, 3) := by decide +kernel
theorem dX11_amountOf_126 : decode cX11_amountOf 126 = .ok (.getfield 99, 3) := by decide +kernel
theorem dX11_amountOf_129 : decode cX11_amountOf 129 = .ok (.ireturn, 1) := by decide +kernel
theorem dX11_amountOf_130 : decode cX11_amountOf 130 = .ok (.aload_n 0, 1) := by decide +kernel
theorem dX11_amountOf_131 : decode cX11_amountOf 131 = .ok (.getfield 30, 3) := by decide +kernel
theorem dX11_amountOf_134 : decode cX11_amountOf 134 = .ok (.getfield 147, 3) := by decide +kernel
theorem dX11_amountOf_137 : decode cX11_amountOf 137 = .ok (.ireturn, 1) := by decide +kernel
set_option maxRecDepth 100000 in
set_option maxHeartbeats 4000000 in
theorem c_X11_amountOf {g : Gv} {l : Launch} (p0 : Nat) (p1 : Int32) (w0 : Wd) (rz : Int32) (wz : Wd) (hf : f_X11_amountOf p0 p1 w0 = some (rz, wz)) : MI g l yX11_amountOf cX11_amountOf 2 .int 1 22 [rV g p0, .int p1] w0 rz wz := by
  refine mi_of RX11 (by decide) rfl (Nat.le_of_ble_eq_true rfl) ?_
  intro X hg hll C hr h0
  subst hg; subst hll
  unfold f_X11_amountOf at hf
  refine k_sub (lv2 := [(0, rV (xg X) p0), (1, .int p1)]) [0, 1] rfl ?_
  refine k_iload_n C dX11_amountOf_0 1 rfl 1 rfl ?_
  refine k_split hf (fun he hf => ?_) (fun hn0 hf => ?_)
  · refine k_tswIn (off := 51) C dX11_amountOf_1 (0) he (by decide) 52 rfl ?_
    refine k_aload_n C dX11_amountOf_52 0 rfl rfl 53 rfl ?_
    refine k_getR C fe_X11_30 rfl dX11_amountOf_53 hf 56 rfl (fun r24 hf => ?_)
    refine k_getI C fe_X11_80 rfl dX11_amountOf_56 hf 59 rfl (fun x25 hf => ?_)
    exact k_iret C hr h0 dX11_amountOf_59 hf
  · skip
    refine k_split hf (fun he hf => ?_) (fun hn1 hf => ?_)
    · refine k_tswIn (off := 59) C dX11_amountOf_1 (1) he (by decide) 60 rfl ?_
      refine k_aload_n C dX11_amountOf_60 0 rfl rfl 61 rfl ?_
      refine k_getR C fe_X11_30 rfl dX11_amountOf_61 hf 64 rfl (fun r26 hf => ?_)
      refine k_getI C fe_X11_156 rfl dX11_amountOf_64 hf 67 rfl (fun x27 hf => ?_)
      exact k_iret C hr h0 dX11_amountOf_67 hf
    · skip
      refine k_split hf (fun he hf => ?_) (fun hn2 hf => ?_)
      · refine k_tswIn (off := 67) C dX11_amountOf_1 (2) he (by decide) 68 rfl ?_
        refine k_aload_n C dX11_amountOf_68 0 rfl rfl 69 rfl ?_
        refine k_getR C fe_X11_30 rfl dX11_amountOf_69 hf 72 rfl (fun r28 hf => ?_)
        refine k_callV_i C ye_X2_allBushels ve_X11_180 ⟨rfl, rfl⟩ ⟨rfl, rfl⟩ dX11_amountOf_72 [] rfl rfl (Nat.le_of_ble_eq_true rfl) (c_X2_allBushels _ _) hf 75 rfl (fun x30 w29 hf => ?_)
        exact k_iret C hr h0 dX11_amountOf_75 hf
      · skip
        refine k_split hf (fun he hf => ?_) (fun hn3 hf => ?_)
        · refine k_tswIn (off := 75) C dX11_amountOf_1 (3) he (by decide) 76 rfl ?_
          refine k_aload_n C dX11_amountOf_76 0 rfl rfl 77 rfl ?_
          refine k_getR C fe_X11_30 rfl dX11_amountOf_77 hf 80 rfl (fun r31 hf => ?_)
          refine k_getI C fe_X11_191 rfl dX11_amountOf_80 hf 83 rfl (fun x32 hf => ?_)
          exact k_iret C hr h0 dX11_amountOf_83 hf
        · skip
          refine k_split hf (fun he hf => ?_) (fun hn4 hf => ?_)
          · refine k_tswIn (off := 83) C dX11_amountOf_1 (4) he (by decide) 84 rfl ?_
            refine k_aload_n C dX11_amountOf_84 0 rfl rfl 85 rfl ?_
            refine k_getR C fe_X11_30 rfl dX11_amountOf_85 hf 88 rfl (fun r33 hf => ?_)
            refine k_getI C fe_X11_144 rfl dX11_amountOf_88 hf 91 rfl (fun x34 hf => ?_)
            exact k_iret C hr h0 dX11_amountOf_91 hf
          · skip
            refine k_split hf (fun he hf => ?_) (fun hn5 hf => ?_)
            · refine k_tswIn (off := 91) C dX11_amountOf_1 (5) he (by decide) 92 rfl ?_
              refine k_aload_n C dX11_amountOf_92 0 rfl rfl 93 rfl ?_
              refine k_getR C fe_X11_30 rfl dX11_amountOf_93 hf 96 rfl (fun r35 hf => ?_)
              refine k_getR C fe_X11_207 rfl dX11_amountOf_96 hf 99 rfl (fun r36 hf => ?_)
              refine k_getI C fe_X11_211 rfl dX11_amountOf_99 hf 102 rfl (fun x37 hf => ?_)
              exact k_iret C hr h0 dX11_amountOf_102 hf
            · skip
              refine k_split hf (fun he hf => ?_) (fun hn6 hf => ?_)
              · refine k_tswIn (off := 102) C dX11_amountOf_1 (6) he (by decide) 103 rfl ?_
                refine k_aload_n C dX11_amountOf_103 0 rfl rfl 104 rfl ?_
                refine k_getR C fe_X11_30 rfl dX11_amountOf_104 hf 107 rfl (fun r38 hf => ?_)
                refine k_getR C fe_X11_207 rfl dX11_amountOf_107 hf 110 rfl (fun r39 hf => ?_)
                refine k_getI C fe_X11_238 rfl dX11_amountOf_110 hf 113 rfl (fun x40 hf => ?_)
                exact k_iret C hr h0 dX11_amountOf_113 hf
              · skip
                refine k_split hf (fun he hf => ?_) (fun hn7 hf => ?_)
                · refine k_tswIn (off := 113) C dX11_amountOf_1 (7) he (by decide) 114 rfl ?_
                  refine k_aload_n C dX11_amountOf_114 0 rfl rfl 115 rfl ?_
                  refine k_getR C fe_X11_30 rfl dX11_amountOf_115 hf 118 rfl (fun r41 hf => ?_)
                  refine k_getI C fe_X11_150 rfl dX11_amountOf_118 hf 121 rfl (fun x42 hf => ?_)
                  exact k_iret C hr h0 dX11_amountOf_121 hf
                · skip
                  refine k_split hf (fun he hf => ?_) (fun hn8 hf => ?_)
                  · refine k_tswIn (off := 121) C dX11_amountOf_1 (8) he (by decide) 122 rfl ?_
                    refine k_aload_n C dX11_amountOf_122 0 rfl rfl 123 rfl ?_
                    refine k_getR C fe_X11_50 rfl dX11_amountOf_123 hf 126 rfl (fun r43 hf => ?_)
                    refine k_getI C fe_X11_99 rfl dX11_amountOf_126 hf 129 rfl (fun x44 hf => ?_)
                    exact k_iret C hr h0 dX11_amountOf_129 hf
                  · skip
                    refine k_tswOut C dX11_amountOf_1 (tsw_out [(0 : Int32), (1 : Int32), (2 : Int32), (3 : Int32), (4 : Int32), (5 : Int32), (6 : Int32), (7 : Int32), (8 : Int32)] (List.forall_mem_cons.mpr ⟨hn0, (List.forall_mem_cons.mpr ⟨hn1, (List.forall_mem_cons.mpr ⟨hn2, (List.forall_mem_cons.mpr ⟨hn3, (List.forall_mem_cons.mpr ⟨hn4, (List.forall_mem_cons.mpr ⟨hn5, (List.forall_mem_cons.mpr ⟨hn6, (List.forall_mem_cons.mpr ⟨hn7, (List.forall_mem_cons.mpr ⟨hn8, (fun _ h => absurd h List.not_mem_nil)⟩)⟩)⟩)⟩)⟩)⟩)⟩)⟩)⟩) (by decide)) 130 rfl ?_
                    refine k_aload_n C dX11_amountOf_130 0 rfl rfl 131 rfl ?_
                    refine k_getR C fe_X11_30 rfl dX11_amountOf_131 hf 134 rfl (fun r45 hf => ?_)
                    refine k_getI C fe_X11_147 rfl dX11_amountOf_134 hf 137 rfl (fun x46 hf => ?_)
                    exact k_iret C hr h0 dX11_amountOf_137 hf
theorem dX11_refuse_0 : decode cX11_refuse 0 = .ok (.bipush (-2), 2) := by decide +kernel
theorem dX11_refuse_2 : decode cX11_refuse 2 = .ok (.iload_n 1, 1) := by decide +kernel
theorem dX11_refuse_3 : decode cX11_refuse 3 = .ok (.isub, 1) := by decide +kernel
theorem dX11_refuse_4 : decode cX11_refuse 4 = .ok (.istore_n 2, 1) := by decide +kernel
theorem dX11_refuse_5 : decode cX11_refuse 5 = .ok (.iload_n 2, 1) := by decide +kernel
theorem dX11_refuse_6 : decode cX11_refuse 6 = .ok (.iconst 0, 1) := by decide +kernel
theorem dX11_refuse_7 : decode cX11_refuse 7 = .ok (.aload_n 0, 1) := by decide +kernel
theorem dX11_refuse_8 : decode cX11_refuse 8 = .ok (.getfield 61, 3) := by decide +kernel
theorem dX11_refuse_11 : decode cX11_refuse 11 = .ok (.arraylength, 1) := by decide +kernel
theorem dX11_refuse_12 : decode cX11_refuse 12 = .ok (.iconst 1, 1) := by decide +kernel
theorem dX11_refuse_13 : decode cX11_refuse 13 = .ok (.isub, 1) := by decide +kernel
theorem dX11_refuse_14 : decode cX11_refuse 14 = .ok (.invokestatic 72, 3) := by decide +kernel
theorem dX11_refuse_17 : decode cX11_refuse 17 = .ok (.ifCond .eq 13, 3) := by decide +kernel
theorem dX11_refuse_20 : decode cX11_refuse 20 = .ok (.aload_n 0, 1) := by decide +kernel
theorem dX11_refuse_21 : decode cX11_refuse 21 = .ok (.getfield 61, 3) := by decide +kernel
theorem dX11_refuse_24 : decode cX11_refuse 24 = .ok (.iload_n 2, 1) := by decide +kernel
theorem dX11_refuse_25 : decode cX11_refuse 25 = .ok (.dup2, 1) := by decide +kernel
theorem dX11_refuse_26 : decode cX11_refuse 26 = .ok (.iaload, 1) := by decide +kernel
theorem dX11_refuse_27 : decode cX11_refuse 27 = .ok (.iconst 1, 1) := by decide +kernel
theorem dX11_refuse_28 : decode cX11_refuse 28 = .ok (.iadd, 1) := by decide +kernel
theorem dX11_refuse_29 : decode cX11_refuse 29 = .ok (.iastore, 1) := by decide +kernel
theorem dX11_refuse_30 : decode cX11_refuse 30 = .ok (.iload_n 1, 1) := by decide +kernel
theorem dX11_refuse_31 : decode cX11_refuse 31 = .ok (.ireturn, 1) := by decide +kernel
set_option maxRecDepth 100000 in
set_option maxHeartbeats 4000000 in
theorem c_X11_refuse {g : Gv} {l : Launch} (p0 : Nat) (p1 : Int32) (w0 : Wd) (rz : Int32) (wz : Wd) (hf : f_X11_refuse p0 p1 w0 = some (rz, wz)) : MI g l yX11_refuse cX11_refuse 3 .int 1 22 [rV g p0, .int p1] w0 rz wz := by
  refine mi_of RX11 (by decide) rfl (Nat.le_of_ble_eq_true rfl) ?_
  intro X hg hll C hr h0
  subst hg; subst hll
  have t_30 : ∀ (v1 : Int32) (w : Wd), f_X11_refuse_30 v1 w = some (rz, wz) → Wk X 0 0 (QI X w0 rz wz) w [(1, .int v1)] 30 [] := by
    intro v1 w hf
    unfold f_X11_refuse_30 at hf
    refine k_iload_n C dX11_refuse_30 0 rfl 31 rfl ?_
    exact k_iret C hr h0 dX11_refuse_31 hf
  unfold f_X11_refuse at hf
  refine k_sub (lv2 := [(0, rV (xg X) p0), (1, .int p1)]) [0, 1] rfl ?_
  refine k_bipush C dX11_refuse_0 (-2) (by decide) 2 rfl ?_
  refine k_iload_n C dX11_refuse_2 1 rfl 3 rfl ?_
  refine k_isub C dX11_refuse_3 4 rfl ?_
  refine k_nmi hf (fun x9 hf => ?_)
  refine k_istore_n C dX11_refuse_4 rfl (by decide) [(2, .int x9), (0, rV (xg X) p0), (1, .int p1)] rfl 5 rfl ?_
  refine k_iload_n C dX11_refuse_5 0 rfl 6 rfl ?_
  refine k_iconst C dX11_refuse_6 (0) (by decide) 7 rfl ?_
  refine k_aload_n C dX11_refuse_7 1 rfl rfl 8 rfl ?_
  refine k_getR C fe_X11_61 rfl dX11_refuse_8 hf 11 rfl (fun r10 hf => ?_)
  refine k_alen C dX11_refuse_11 hf 12 rfl (fun x11 hf => ?_)
  refine k_iconst C dX11_refuse_12 (1) (by decide) 13 rfl ?_
  refine k_isub C dX11_refuse_13 14 rfl ?_
  refine k_callS_i C ye_X11_within se_X11_72 ⟨rfl, rfl⟩ ⟨rfl, rfl⟩ dX11_refuse_14 [.int x9, .int (0 : Int32), .int (x11 - (1 : Int32))] rfl rfl (Nat.le_of_ble_eq_true rfl) (c_X11_within _ _ _ _) hf 17 rfl (fun x13 w12 hf => ?_)
  refine k_if_eq C dX11_refuse_17 hf 30 rfl 20 rfl (fun hf => ?_) (fun hf => ?_)
  · refine k_sub [2] rfl ?_
    exact t_30 _ w12 hf
  · refine k_aload_n C dX11_refuse_20 1 rfl rfl 21 rfl ?_
    refine k_getR C fe_X11_61 rfl dX11_refuse_21 hf 24 rfl (fun r14 hf => ?_)
    refine k_iload_n C dX11_refuse_24 0 rfl 25 rfl ?_
    refine k_dup2 C dX11_refuse_25 rfl rfl 26 rfl ?_
    refine k_iald C dX11_refuse_26 hf 27 rfl (fun x15 hf => ?_)
    refine k_iconst C dX11_refuse_27 (1) (by decide) 28 rfl ?_
    refine k_iadd C dX11_refuse_28 29 rfl ?_
    refine k_iast C dX11_refuse_29 hf 30 rfl (fun w16 _ hf => ?_)
    refine k_sub [2] rfl ?_
    exact t_30 _ w16 hf
theorem dX11_refuseApart_0 : decode cX11_refuseApart 0 = .ok (.aload_n 0, 1) := by decide +kernel
theorem dX11_refuseApart_1 : decode cX11_refuseApart 1 = .ok (.bipush (-2), 2) := by decide +kernel
theorem dX11_refuseApart_3 : decode cX11_refuseApart 3 = .ok (.invokevirtual 76, 3) := by decide +kernel
theorem dX11_refuseApart_6 : decode cX11_refuseApart 6 = .ok (.pop, 1) := by decide +kernel
theorem dX11_refuseApart_7 : decode cX11_refuseApart 7 = .ok (.bipush (-10), 2) := by decide +kernel
theorem dX11_refuseApart_9 : decode cX11_refuseApart 9 = .ok (.ireturn, 1) := by decide +kernel
set_option maxRecDepth 100000 in
set_option maxHeartbeats 4000000 in
theorem c_X11_refuseApart {g : Gv} {l : Launch} (p0 : Nat) (w0 : Wd) (rz : Int32) (wz : Wd) (hf : f_X11_refuseApart p0 w0 = some (rz, wz)) : MI g l yX11_refuseApart cX11_refuseApart 1 .int 2 44 [rV g p0] w0 rz wz := by
  refine mi_of RX11 (by decide) rfl (Nat.le_of_ble_eq_true rfl) ?_
  intro X hg hll C hr h0
  subst hg; subst hll
  unfold f_X11_refuseApart at hf
  refine k_sub (lv2 := [(0, rV (xg X) p0)]) [0] rfl ?_
  refine k_aload_n C dX11_refuseApart_0 0 rfl rfl 1 rfl ?_
  refine k_bipush C dX11_refuseApart_1 (-2) (by decide) 3 rfl ?_
  refine k_callV_i C ye_X11_refuse ve_X11_76 ⟨rfl, rfl⟩ ⟨rfl, rfl⟩ dX11_refuseApart_3 [.int (-2 : Int32)] rfl rfl (Nat.le_of_ble_eq_true rfl) (c_X11_refuse _ _ _) hf 6 rfl (fun x4 w3 hf => ?_)
  refine k_pop C dX11_refuseApart_6 rfl 7 rfl ?_
  refine k_bipush C dX11_refuseApart_7 (-10) (by decide) 9 rfl ?_
  exact k_iret C hr h0 dX11_refuseApart_9 hf
theorem dX11_best_0 : decode cX11_best 0 = .ok (.iload_n 1, 1) := by decide +kernel
theorem dX11_best_1 : decode cX11_best 1 = .ok (.iconst 0, 1) := by decide +kernel
theorem dX11_best_2 : decode cX11_best 2 = .ok (.bipush 12, 2) := by decide +kernel
theorem dX11_best_4 : decode cX11_best 4 = .ok (.invokestatic 72, 3) := by decide +kernel
theorem dX11_best_7 : decode cX11_best 7 = .ok (.ifCond .eq 19, 3) := by decide +kernel
theorem dX11_best_10 : decode cX11_best 10 = .ok (.iload_n 2, 1) := by decide +kernel
theorem dX11_best_11 : decode cX11_best 11 = .ok (.iconst (-1), 1) := by decide +kernel
theorem dX11_best_12 : decode cX11_best 12 = .ok (.if_icmp .eq 19, 3) := by decide +kernel
theorem dX11_best_15 : decode cX11_best 15 = .ok (.aload_n 0, 1) := by decide +kernel
theorem dX11_best_16 : decode cX11_best 16 = .ok (.getfield 30, 3) := by decide +kernel
theorem dX11_best_19 : decode cX11_best 19 = .ok (.iload_n 2, 1) := by decide +kernel
theorem dX11_best_20 : decode cX11_best 20 = .ok (.invokevirtual 112, 3) := by decide +kernel
theorem dX11_best_23 : decode cX11_best 23 = .ok (.ifCond .ne 8, 3) := by decide +kernel
theorem dX11_best_26 : decode cX11_best 26 = .ok (.aload_n 0, 1) := by decide +kernel
theorem dX11_best_27 : decode cX11_best 27 = .ok (.invokevirtual 115, 3) := by decide +kernel
theorem dX11_best_30 : decode cX11_best 30 = .ok (.ireturn, 1) := by decide +kernel
theorem dX11_best_31 : decode cX11_best 31 = .ok (.aload_n 0, 1) := by decide +kernel
theorem dX11_best_32 : decode cX11_best 32 = .ok (.getfield 57, 3) := by decide +kernel
theorem dX11_best_35 : decode cX11_best 35 = .ok (.aload_n 0, 1) := by decide +kernel
theorem dX11_best_36 : decode cX11_best 36 = .ok (.getfield 30, 3) := by decide +kernel
theorem dX11_best_39 : decode cX11_best 39 = .ok (.iload_n 1, 1) := by decide +kernel
theorem dX11_best_40 : decode cX11_best 40 = .ok (.invokevirtual 204, 3) := by decide +kernel
theorem dX11_best_43 : decode cX11_best 43 = .ok (.istore_n 3, 1) := by decide +kernel
theorem dX11_best_44 : decode cX11_best 44 = .ok (.iload_n 2, 1) := by decide +kernel
theorem dX11_best_45 : decode cX11_best 45 = .ok (.iconst (-1), 1) := by decide +kernel
theorem dX11_best_46 : decode cX11_best 46 = .ok (.if_icmp .ne 7, 3) := by decide +kernel
theorem dX11_best_49 : decode cX11_best 49 = .ok (.iload_n 3, 1) := by decide +kernel
theorem dX11_best_50 : decode cX11_best 50 = .ok (.goto 12, 3) := by decide +kernel
theorem dX11_best_53 : decode cX11_best 53 = .ok (.aload_n 0, 1) := by decide +kernel
theorem dX11_best_54 : decode cX11_best 54 = .ok (.getfield 57, 3) := by decide +kernel
theorem dX11_best_57 : decode cX11_best 57 = .ok (.getfield 201, 3) := by decide +kernel
theorem dX11_best_60 : decode cX11_best 60 = .ok (.iload_n 2, 1) := by decide +kernel
theorem dX11_best_61 : decode cX11_best 61 = .ok (.iaload, 1) := by decide +kernel
theorem dX11_best_62 : decode cX11_best 62 = .ok (.ireturn, 1) := by decide +kernel
set_option maxRecDepth 100000 in
set_option maxHeartbeats 4000000 in
theorem c_X11_best {g : Gv} {l : Launch} (p0 : Nat) (p1 : Int32) (p2 : Int32) (w0 : Wd) (rz : Int32) (wz : Wd) (hf : f_X11_best p0 p1 p2 w0 = some (rz, wz)) : MI g l yX11_best cX11_best 4 .int 6 141 [rV g p0, .int p1, .int p2] w0 rz wz := by
  refine mi_of RX11 (by decide) rfl (Nat.le_of_ble_eq_true rfl) ?_
  intro X hg hll C hr h0
  subst hg; subst hll
  have t_62 : ∀ (s0 : Int32) (w : Wd), f_X11_best_62 s0 w = some (rz, wz) → Wk X 0 0 (QI X w0 rz wz) w [] 62 [.int s0] := by
    intro s0 w hf
    unfold f_X11_best_62 at hf
    exact k_iret C hr h0 dX11_best_62 hf
  have t_31 : ∀ (v0 : Nat) (v1 : Int32) (v2 : Int32) (w : Wd), f_X11_best_31 v0 v1 v2 w = some (rz, wz) → Wk X 0 0 (QI X w0 rz wz) w [(0, rV (xg X) v0), (1, .int v1), (2, .int v2)] 31 [] := by
    intro v0 v1 v2 w hf
    unfold f_X11_best_31 at hf
    refine k_aload_n C dX11_best_31 0 rfl rfl 32 rfl ?_
    refine k_getR C fe_X11_57 rfl dX11_best_32 hf 35 rfl (fun r15 hf => ?_)
    refine k_aload_n C dX11_best_35 0 rfl rfl 36 rfl ?_
    refine k_getR C fe_X11_30 rfl dX11_best_36 hf 39 rfl (fun r16 hf => ?_)
    refine k_iload_n C dX11_best_39 1 rfl 40 rfl ?_
    refine k_callV_i C ye_X7_mostMoney ve_X11_204 ⟨rfl, rfl⟩ ⟨rfl, rfl⟩ dX11_best_40 [rV (xg X) r16, .int v1] rfl rfl (Nat.le_of_ble_eq_true rfl) (c_X7_mostMoney _ _ _ _) hf 43 rfl (fun x18 w17 hf => ?_)
    refine k_istore_n C dX11_best_43 rfl (by decide) [(3, .int x18), (0, rV (xg X) v0), (1, .int v1), (2, .int v2)] rfl 44 rfl ?_
    refine k_iload_n C dX11_best_44 3 rfl 45 rfl ?_
    refine k_iconst C dX11_best_45 (-1) (by decide) 46 rfl ?_
    refine k_icmp_ne C dX11_best_46 hf 53 rfl 49 rfl (fun hf => ?_) (fun hf => ?_)
    · refine k_aload_n C dX11_best_53 1 rfl rfl 54 rfl ?_
      refine k_getR C fe_X11_57 rfl dX11_best_54 hf 57 rfl (fun r19 hf => ?_)
      refine k_getR C fe_X11_201 rfl dX11_best_57 hf 60 rfl (fun r20 hf => ?_)
      refine k_iload_n C dX11_best_60 3 rfl 61 rfl ?_
      refine k_iald C dX11_best_61 hf 62 rfl (fun x21 hf => ?_)
      refine k_sub [] rfl ?_
      exact t_62 _ w17 hf
    · refine k_iload_n C dX11_best_49 0 rfl 50 rfl ?_
      refine k_goto C dX11_best_50 62 rfl ?_
      refine k_sub [] rfl ?_
      exact t_62 _ w17 hf
  have t_26 : ∀ (v0 : Nat) (w : Wd), f_X11_best_26 v0 w = some (rz, wz) → Wk X 0 0 (QI X w0 rz wz) w [(0, rV (xg X) v0)] 26 [] := by
    intro v0 w hf
    unfold f_X11_best_26 at hf
    refine k_aload_n C dX11_best_26 0 rfl rfl 27 rfl ?_
    refine k_callV_i C ye_X11_refuseApart ve_X11_115 ⟨rfl, rfl⟩ ⟨rfl, rfl⟩ dX11_best_27 [] rfl rfl (Nat.le_of_ble_eq_true rfl) (c_X11_refuseApart _ _) hf 30 rfl (fun x23 w22 hf => ?_)
    exact k_iret C hr h0 dX11_best_30 hf
  unfold f_X11_best at hf
  refine k_sub (lv2 := [(0, rV (xg X) p0), (1, .int p1), (2, .int p2)]) [0, 1, 2] rfl ?_
  refine k_iload_n C dX11_best_0 1 rfl 1 rfl ?_
  refine k_iconst C dX11_best_1 (0) (by decide) 2 rfl ?_
  refine k_bipush C dX11_best_2 (12) (by decide) 4 rfl ?_
  refine k_callS_i C ye_X11_within se_X11_72 ⟨rfl, rfl⟩ ⟨rfl, rfl⟩ dX11_best_4 [.int p1, .int (0 : Int32), .int (12 : Int32)] rfl rfl (Nat.le_of_ble_eq_true rfl) (c_X11_within _ _ _ _) hf 7 rfl (fun x25 w24 hf => ?_)
  refine k_if_eq C dX11_best_7 hf 26 rfl 10 rfl (fun hf => ?_) (fun hf => ?_)
  · refine k_sub [0] rfl ?_
    exact t_26 _ w24 hf
  · refine k_iload_n C dX11_best_10 2 rfl 11 rfl ?_
    refine k_iconst C dX11_best_11 (-1) (by decide) 12 rfl ?_
    refine k_icmp_eq C dX11_best_12 hf 31 rfl 15 rfl (fun hf => ?_) (fun hf => ?_)
    · refine k_sub [0, 1, 2] rfl ?_
      exact t_31 _ _ _ w24 hf
    · refine k_aload_n C dX11_best_15 0 rfl rfl 16 rfl ?_
      refine k_getR C fe_X11_30 rfl dX11_best_16 hf 19 rfl (fun r26 hf => ?_)
      refine k_iload_n C dX11_best_19 2 rfl 20 rfl ?_
      refine k_callV_i C ye_X2_has ve_X11_112 ⟨rfl, rfl⟩ ⟨rfl, rfl⟩ dX11_best_20 [.int p2] rfl rfl (Nat.le_of_ble_eq_true rfl) (c_X2_has _ _ _) hf 23 rfl (fun x28 w27 hf => ?_)
      refine k_if_ne C dX11_best_23 hf 31 rfl 26 rfl (fun hf => ?_) (fun hf => ?_)
      · refine k_sub [0, 1, 2] rfl ?_
        exact t_31 _ _ _ w27 hf
      · refine k_sub [0] rfl ?_
        exact t_26 _ w27 hf
theorem dX11_clear_0 : decode cX11_clear 0 = .ok (.aload_n 0, 1) := by decide +kernel
theorem dX11_clear_1 : decode cX11_clear 1 = .ok (.getfield 50, 3) := by decide +kernel
theorem dX11_clear_4 : decode cX11_clear 4 = .ok (.getfield 99, 3) := by decide +kernel
theorem dX11_clear_7 : decode cX11_clear 7 = .ok (.istore_n 1, 1) := by decide +kernel
theorem dX11_clear_8 : decode cX11_clear 8 = .ok (.aload_n 0, 1) := by decide +kernel
theorem dX11_clear_9 : decode cX11_clear 9 = .ok (.getfield 50, 3) := by decide +kernel
theorem dX11_clear_12 : decode cX11_clear 12 = .ok (.iconst 0, 1) := by decide +kernel
theorem dX11_clear_13 : decode cX11_clear 13 = .ok (.putfield 99, 3) := by decide +kernel
theorem dX11_clear_16 : decode cX11_clear 16 = .ok (.iload_n 1, 1) := by decide +kernel
theorem dX11_clear_17 : decode cX11_clear 17 = .ok (.ireturn, 1) := by decide +kernel
set_option maxRecDepth 100000 in
set_option maxHeartbeats 4000000 in
theorem c_X11_clear {g : Gv} {l : Launch} (p0 : Nat) (w0 : Wd) (rz : Int32) (wz : Wd) (hf : f_X11_clear p0 w0 = some (rz, wz)) : MI g l yX11_clear cX11_clear 2 .int 0 0 [rV g p0] w0 rz wz := by
  refine mi_of RX11 (by decide) rfl (Nat.le_of_ble_eq_true rfl) ?_
  intro X hg hll C hr h0
  subst hg; subst hll
  unfold f_X11_clear at hf
  refine k_sub (lv2 := [(0, rV (xg X) p0)]) [0] rfl ?_
  refine k_aload_n C dX11_clear_0 0 rfl rfl 1 rfl ?_
  refine k_getR C fe_X11_50 rfl dX11_clear_1 hf 4 rfl (fun r5 hf => ?_)
  refine k_getI C fe_X11_99 rfl dX11_clear_4 hf 7 rfl (fun x6 hf => ?_)
  refine k_istore_n C dX11_clear_7 rfl (by decide) [(1, .int x6), (0, rV (xg X) p0)] rfl 8 rfl ?_
  refine k_aload_n C dX11_clear_8 1 rfl rfl 9 rfl ?_
  refine k_getR C fe_X11_50 rfl dX11_clear_9 hf 12 rfl (fun r7 hf => ?_)
  refine k_iconst C dX11_clear_12 (0) (by decide) 13 rfl ?_
  refine k_putI C fe_X11_99 rfl rfl dX11_clear_13 hf 16 rfl (fun w8 _ hf => ?_)
  refine k_iload_n C dX11_clear_16 0 rfl 17 rfl ?_
  exact k_iret C hr h0 dX11_clear_17 hf
theorem dX11_cold_0 : decode cX11_cold 0 = .ok (.iload_n 1, 1) := by decide +kernel
theorem dX11_cold_1 : decode cX11_cold 1 = .ok (.iconst 0, 1) := by decide +kernel
theorem dX11_cold_2 : decode cX11_cold 2 = .ok (.bipush 9, 2) := by decide +kernel
theorem dX11_cold_4 : decode cX11_cold 4 = .ok (.invokestatic 72, 3) := by decide +kernel
theorem dX11_cold_7 : decode cX11_cold 7 = .ok (.ifCond .ne 10, 3) := by decide +kernel
theorem dX11_cold_10 : decode cX11_cold 10 = .ok (.aload_n 0, 1) := by decide +kernel
theorem dX11_cold_11 : decode cX11_cold 11 = .ok (.bipush (-2), 2) := by decide +kernel
theorem dX11_cold_13 : decode cX11_cold 13 = .ok (.invokevirtual 76, 3) := by decide +kernel
theorem dX11_cold_16 : decode cX11_cold 16 = .ok (.ireturn, 1) := by decide +kernel
theorem dX11_cold_17 : decode cX11_cold 17 = .ok (.aload_n 0, 1) := by decide +kernel
theorem dX11_cold_18 : decode cX11_cold 18 = .ok (.getfield 30, 3) := by decide +kernel
theorem dX11_cold_21 : decode cX11_cold 21 = .ok (.invokevirtual 119, 3) := by decide +kernel
theorem dX11_cold_24 : decode cX11_cold 24 = .ok (.aload_n 0, 1) := by decide +kernel
theorem dX11_cold_25 : decode cX11_cold 25 = .ok (.getfield 30, 3) := by decide +kernel
theorem dX11_cold_28 : decode cX11_cold 28 = .ok (.getfield 147, 3) := by decide +kernel
theorem dX11_cold_31 : decode cX11_cold 31 = .ok (.istore_n 2, 1) := by decide +kernel
theorem dX11_cold_32 : decode cX11_cold 32 = .ok (.aload_n 0, 1) := by decide +kernel
theorem dX11_cold_33 : decode cX11_cold 33 = .ok (.getfield 30, 3) := by decide +kernel
theorem dX11_cold_36 : decode cX11_cold 36 = .ok (.iload_n 1, 1) := by decide +kernel
theorem dX11_cold_37 : decode cX11_cold 37 = .ok (.putfield 147, 3) := by decide +kernel
theorem dX11_cold_40 : decode cX11_cold 40 = .ok (.iload_n 2, 1) := by decide +kernel
theorem dX11_cold_41 : decode cX11_cold 41 = .ok (.ireturn, 1) := by decide +kernel
set_option maxRecDepth 100000 in
set_option maxHeartbeats 4000000 in
theorem c_X11_cold {g : Gv} {l : Launch} (p0 : Nat) (p1 : Int32) (w0 : Wd) (rz : Int32) (wz : Wd) (hf : f_X11_cold p0 p1 w0 = some (rz, wz)) : MI g l yX11_cold cX11_cold 3 .int 2 70 [rV g p0, .int p1] w0 rz wz := by
  refine mi_of RX11 (by decide) rfl (Nat.le_of_ble_eq_true rfl) ?_
  intro X hg hll C hr h0
  subst hg; subst hll
  unfold f_X11_cold at hf
  refine k_sub (lv2 := [(0, rV (xg X) p0), (1, .int p1)]) [0, 1] rfl ?_
  refine k_iload_n C dX11_cold_0 1 rfl 1 rfl ?_
  refine k_iconst C dX11_cold_1 (0) (by decide) 2 rfl ?_
  refine k_bipush C dX11_cold_2 (9) (by decide) 4 rfl ?_
  refine k_callS_i C ye_X11_within se_X11_72 ⟨rfl, rfl⟩ ⟨rfl, rfl⟩ dX11_cold_4 [.int p1, .int (0 : Int32), .int (9 : Int32)] rfl rfl (Nat.le_of_ble_eq_true rfl) (c_X11_within _ _ _ _) hf 7 rfl (fun x13 w12 hf => ?_)
  refine k_if_ne C dX11_cold_7 hf 17 rfl 10 rfl (fun hf => ?_) (fun hf => ?_)
  · refine k_aload_n C dX11_cold_17 0 rfl rfl 18 rfl ?_
    refine k_getR C fe_X11_30 rfl dX11_cold_18 hf 21 rfl (fun r14 hf => ?_)
    refine k_callV_v C ye_X2_remember ve_X11_119 ⟨rfl, rfl⟩ ⟨rfl, rfl⟩ dX11_cold_21 [] rfl rfl (Nat.le_of_ble_eq_true rfl) (c_X2_remember _ _) hf 24 rfl (fun w15 hf => ?_)
    refine k_aload_n C dX11_cold_24 0 rfl rfl 25 rfl ?_
    refine k_getR C fe_X11_30 rfl dX11_cold_25 hf 28 rfl (fun r17 hf => ?_)
    refine k_getI C fe_X11_147 rfl dX11_cold_28 hf 31 rfl (fun x18 hf => ?_)
    refine k_istore_n C dX11_cold_31 rfl (by decide) [(2, .int x18), (0, rV (xg X) p0), (1, .int p1)] rfl 32 rfl ?_
    refine k_aload_n C dX11_cold_32 1 rfl rfl 33 rfl ?_
    refine k_getR C fe_X11_30 rfl dX11_cold_33 hf 36 rfl (fun r19 hf => ?_)
    refine k_iload_n C dX11_cold_36 2 rfl 37 rfl ?_
    refine k_putI C fe_X11_147 rfl rfl dX11_cold_37 hf 40 rfl (fun w20 _ hf => ?_)
    refine k_iload_n C dX11_cold_40 0 rfl 41 rfl ?_
    exact k_iret C hr h0 dX11_cold_41 hf
  · refine k_aload_n C dX11_cold_10 0 rfl rfl 11 rfl ?_
    refine k_bipush C dX11_cold_11 (-2) (by decide) 13 rfl ?_
    refine k_callV_i C ye_X11_refuse ve_X11_76 ⟨rfl, rfl⟩ ⟨rfl, rfl⟩ dX11_cold_13 [.int (-2 : Int32)] rfl rfl (Nat.le_of_ble_eq_true rfl) (c_X11_refuse _ _ _) hf 16 rfl (fun x22 w21 hf => ?_)
    exact k_iret C hr h0 dX11_cold_16 hf
theorem dX11_count_0 : decode cX11_count 0 = .ok (.iload_n 1, 1) := by decide +kernel
theorem dX11_count_1 : decode cX11_count 1 = .ok (.iconst 0, 1) := by decide +kernel
theorem dX11_count_2 : decode cX11_count 2 = .ok (.bipush 9, 2) := by decide +kernel
theorem dX11_count_4 : decode cX11_count 4 = .ok (.invokestatic 72, 3) := by decide +kernel
theorem dX11_count_7 : decode cX11_count 7 = .ok (.ifCond .eq 11, 3) := by decide +kernel
theorem dX11_count_10 : decode cX11_count 10 = .ok (.aload_n 0, 1) := by decide +kernel
theorem dX11_count_11 : decode cX11_count 11 = .ok (.iload_n 1, 1) := by decide +kernel
theorem dX11_count_12 : decode cX11_count 12 = .ok (.invokevirtual 278, 3) := by decide +kernel
theorem dX11_count_15 : decode cX11_count 15 = .ok (.goto 9, 3) := by decide +kernel
theorem dX11_count_18 : decode cX11_count 18 = .ok (.aload_n 0, 1) := by decide +kernel
theorem dX11_count_19 : decode cX11_count 19 = .ok (.bipush (-2), 2) := by decide +kernel
theorem dX11_count_21 : decode cX11_count 21 = .ok (.invokevirtual 76, 3) := by decide +kernel
theorem dX11_count_24 : decode cX11_count 24 = .ok (.ireturn, 1) := by decide +kernel
set_option maxRecDepth 100000 in
set_option maxHeartbeats 4000000 in
theorem c_X11_count {g : Gv} {l : Launch} (p0 : Nat) (p1 : Int32) (w0 : Wd) (rz : Int32) (wz : Wd) (hf : f_X11_count p0 p1 w0 = some (rz, wz)) : MI g l yX11_count cX11_count 2 .int 2 44 [rV g p0, .int p1] w0 rz wz := by
  refine mi_of RX11 (by decide) rfl (Nat.le_of_ble_eq_true rfl) ?_
  intro X hg hll C hr h0
  subst hg; subst hll
  have t_24 : ∀ (s0 : Int32) (w : Wd), f_X11_count_24 s0 w = some (rz, wz) → Wk X 0 0 (QI X w0 rz wz) w [] 24 [.int s0] := by
    intro s0 w hf
    unfold f_X11_count_24 at hf
    exact k_iret C hr h0 dX11_count_24 hf
  unfold f_X11_count at hf
  refine k_sub (lv2 := [(0, rV (xg X) p0), (1, .int p1)]) [0, 1] rfl ?_
  refine k_iload_n C dX11_count_0 1 rfl 1 rfl ?_
  refine k_iconst C dX11_count_1 (0) (by decide) 2 rfl ?_
  refine k_bipush C dX11_count_2 (9) (by decide) 4 rfl ?_
  refine k_callS_i C ye_X11_within se_X11_72 ⟨rfl, rfl⟩ ⟨rfl, rfl⟩ dX11_count_4 [.int p1, .int (0 : Int32), .int (9 : Int32)] rfl rfl (Nat.le_of_ble_eq_true rfl) (c_X11_within _ _ _ _) hf 7 rfl (fun x8 w7 hf => ?_)
  refine k_if_eq C dX11_count_7 hf 18 rfl 10 rfl (fun hf => ?_) (fun hf => ?_)
  · refine k_aload_n C dX11_count_18 0 rfl rfl 19 rfl ?_
    refine k_bipush C dX11_count_19 (-2) (by decide) 21 rfl ?_
    refine k_callV_i C ye_X11_refuse ve_X11_76 ⟨rfl, rfl⟩ ⟨rfl, rfl⟩ dX11_count_21 [.int (-2 : Int32)] rfl rfl (Nat.le_of_ble_eq_true rfl) (c_X11_refuse _ _ _) hf 24 rfl (fun x10 w9 hf => ?_)
    refine k_sub [] rfl ?_
    exact t_24 _ w9 hf
  · refine k_aload_n C dX11_count_10 0 rfl rfl 11 rfl ?_
    refine k_iload_n C dX11_count_11 1 rfl 12 rfl ?_
    refine k_callV_i C ye_X11_amountOf ve_X11_278 ⟨rfl, rfl⟩ ⟨rfl, rfl⟩ dX11_count_12 [.int p1] rfl rfl (Nat.le_of_ble_eq_true rfl) (c_X11_amountOf _ _ _) hf 15 rfl (fun x12 w11 hf => ?_)
    refine k_goto C dX11_count_15 24 rfl ?_
    refine k_sub [] rfl ?_
    exact t_24 _ w11 hf
theorem dX11_digest_0 : decode cX11_digest 0 = .ok (.ldc2_w 281, 3) := by decide +kernel
theorem dX11_digest_3 : decode cX11_digest 3 = .ok (.lstore_n 1, 1) := by decide +kernel
theorem dX11_digest_4 : decode cX11_digest 4 = .ok (.iconst 0, 1) := by decide +kernel
theorem dX11_digest_5 : decode cX11_digest 5 = .ok (.istore_n 3, 1) := by decide +kernel
theorem dX11_digest_6 : decode cX11_digest 6 = .ok (.iload_n 3, 1) := by decide +kernel
theorem dX11_digest_7 : decode cX11_digest 7 = .ok (.bipush 9, 2) := by decide +kernel
theorem dX11_digest_9 : decode cX11_digest 9 = .ok (.if_icmp .gt 22, 3) := by decide +kernel
theorem dX11_digest_12 : decode cX11_digest 12 = .ok (.ldc2_w 283, 3) := by decide +kernel
theorem dX11_digest_15 : decode cX11_digest 15 = .ok (.lload_n 1, 1) := by decide +kernel
theorem dX11_digest_16 : decode cX11_digest 16 = .ok (.lmul, 1) := by decide +kernel
theorem dX11_digest_17 : decode cX11_digest 17 = .ok (.aload_n 0, 1) := by decide +kernel
theorem dX11_digest_18 : decode cX11_digest 18 = .ok (.iload_n 3, 1) := by decide +kernel
theorem dX11_digest_19 : decode cX11_digest 19 = .ok (.invokevirtual 278, 3) := by decide +kernel
theorem dX11_digest_22 : decode cX11_digest 22 = .ok (.i2l, 1) := by decide +kernel
theorem dX11_digest_23 : decode cX11_digest 23 = .ok (.ladd, 1) := by decide +kernel
theorem dX11_digest_24 : decode cX11_digest 24 = .ok (.lstore_n 1, 1) := by decide +kernel
theorem dX11_digest_25 : decode cX11_digest 25 = .ok (.iinc 3 1, 3) := by decide +kernel
theorem dX11_digest_28 : decode cX11_digest 28 = .ok (.goto (-22), 3) := by decide +kernel
theorem dX11_digest_31 : decode cX11_digest 31 = .ok (.aload_n 0, 1) := by decide +kernel
theorem dX11_digest_32 : decode cX11_digest 32 = .ok (.getfield 30, 3) := by decide +kernel
theorem dX11_digest_35 : decode cX11_digest 35 = .ok (.lload_n 1, 1) := by decide +kernel
theorem dX11_digest_36 : decode cX11_digest 36 = .ok (.invokevirtual 285, 3) := by decide +kernel
theorem dX11_digest_39 : decode cX11_digest 39 = .ok (.lstore_n 1, 1) := by decide +kernel
theorem dX11_digest_40 : decode cX11_digest 40 = .ok (.ldc2_w 283, 3) := by decide +kernel
theorem dX11_digest_43 : decode cX11_digest 43 = .ok (.lload_n 1, 1) := by decide +kernel
theorem dX11_digest_44 : decode cX11_digest 44 = .ok (.lmul, 1) := by decide +kernel
theorem dX11_digest_45 : decode cX11_digest 45 = .ok (.aload_n 0, 1) := by decide +kernel
theorem dX11_digest_46 : decode cX11_digest 46 = .ok (.getfield 65, 3) := by decide +kernel
theorem dX11_digest_49 : decode cX11_digest 49 = .ok (.ladd, 1) := by decide +kernel
theorem dX11_digest_50 : decode cX11_digest 50 = .ok (.lstore_n 1, 1) := by decide +kernel
theorem dX11_digest_51 : decode cX11_digest 51 = .ok (.ldc2_w 283, 3) := by decide +kernel
theorem dX11_digest_54 : decode cX11_digest 54 = .ok (.lload_n 1, 1) := by decide +kernel
theorem dX11_digest_55 : decode cX11_digest 55 = .ok (.lmul, 1) := by decide +kernel
theorem dX11_digest_56 : decode cX11_digest 56 = .ok (.aload_n 0, 1) := by decide +kernel
theorem dX11_digest_57 : decode cX11_digest 57 = .ok (.getfield 69, 3) := by decide +kernel
theorem dX11_digest_60 : decode cX11_digest 60 = .ok (.ladd, 1) := by decide +kernel
theorem dX11_digest_61 : decode cX11_digest 61 = .ok (.lreturn, 1) := by decide +kernel
set_option maxRecDepth 100000 in
set_option maxHeartbeats 4000000 in
theorem c_X11_digest {g : Gv} {l : Launch} (p0 : Nat) (w0 : Wd) (rz : Int64) (wz : Wd) (hf : f_X11_digest p0 w0 = some (rz, wz)) : ML g l yX11_digest cX11_digest 4 2 50 [rV g p0] w0 rz wz := by
  refine ml_of RX11 (by decide) rfl (Nat.le_of_ble_eq_true rfl) ?_
  intro X hg hll C hr h0
  subst hg; subst hll
  have t_6 : ∀ (n : Nat) (v0 : Nat) (v1 : Int64) (v3 : Int32) (w : Wd), f_X11_digest_6 n v0 v1 v3 w = some (rz, wz) → Wk X 0 0 (QL X w0 rz wz) w [(0, rV (xg X) v0), (1, .long v1), (3, .int v3)] 6 [] := by
    intro n
    induction n with
    | zero => intro v0 v1 v3 w hf; rw [f_X11_digest_6] at hf; cases hf
    | succ n6 ih6 =>
      intro v0 v1 v3 w hf
      rw [f_X11_digest_6] at hf
      refine k_iload_n C dX11_digest_6 2 rfl 7 rfl ?_
      refine k_bipush C dX11_digest_7 (9) (by decide) 9 rfl ?_
      refine k_icmp_gt C dX11_digest_9 hf 31 rfl 12 rfl (fun hf => ?_) (fun hf => ?_)
      · refine k_aload_n C dX11_digest_31 0 rfl rfl 32 rfl ?_
        refine k_getR C fe_X11_30 rfl dX11_digest_32 hf 35 rfl (fun r10 hf => ?_)
        refine k_lload_n C dX11_digest_35 1 rfl 36 rfl ?_
        refine k_callV_l C ye_X2_mixInto ve_X11_285 ⟨rfl, rfl⟩ ⟨rfl, rfl⟩ dX11_digest_36 [.long v1] rfl rfl (Nat.le_of_ble_eq_true rfl) (c_X2_mixInto _ _ _) hf 39 rfl (fun x12 w11 hf => ?_)
        refine k_lstore_n C dX11_digest_39 rfl (by decide) [(1, .long x12), (0, rV (xg X) v0), (3, .int v3)] rfl 40 rfl ?_
        refine k_ldc2 C dX11_digest_40 mcst_X11_283 43 rfl ?_
        refine k_lload_n C dX11_digest_43 0 rfl 44 rfl ?_
        refine k_lmul C dX11_digest_44 45 rfl ?_
        refine k_aload_n C dX11_digest_45 1 rfl rfl 46 rfl ?_
        refine k_getL C fe_X11_65 rfl dX11_digest_46 hf 49 rfl (fun x13 hf => ?_)
        refine k_ladd C dX11_digest_49 50 rfl ?_
        refine k_nml hf (fun x14 hf => ?_)
        refine k_lstore_n C dX11_digest_50 rfl (by decide) [(1, .long x14), (0, rV (xg X) v0), (3, .int v3)] rfl 51 rfl ?_
        refine k_ldc2 C dX11_digest_51 mcst_X11_283 54 rfl ?_
        refine k_lload_n C dX11_digest_54 0 rfl 55 rfl ?_
        refine k_lmul C dX11_digest_55 56 rfl ?_
        refine k_aload_n C dX11_digest_56 1 rfl rfl 57 rfl ?_
        refine k_getL C fe_X11_69 rfl dX11_digest_57 hf 60 rfl (fun x15 hf => ?_)
        refine k_ladd C dX11_digest_60 61 rfl ?_
        exact k_lret C hr h0 dX11_digest_61 hf
      · refine k_ldc2 C dX11_digest_12 mcst_X11_283 15 rfl ?_
        refine k_lload_n C dX11_digest_15 1 rfl 16 rfl ?_
        refine k_lmul C dX11_digest_16 17 rfl ?_
        refine k_aload_n C dX11_digest_17 0 rfl rfl 18 rfl ?_
        refine k_iload_n C dX11_digest_18 2 rfl 19 rfl ?_
        refine k_callV_i C ye_X11_amountOf ve_X11_278 ⟨rfl, rfl⟩ ⟨rfl, rfl⟩ dX11_digest_19 [.int v3] rfl rfl (Nat.le_of_ble_eq_true rfl) (c_X11_amountOf _ _ _) hf 22 rfl (fun x17 w16 hf => ?_)
        refine k_i2l C dX11_digest_22 23 rfl ?_
        refine k_ladd C dX11_digest_23 24 rfl ?_
        refine k_nml hf (fun x18 hf => ?_)
        refine k_lstore_n C dX11_digest_24 rfl (by decide) [(1, .long x18), (0, rV (xg X) v0), (3, .int v3)] rfl 25 rfl ?_
        refine k_iinc C dX11_digest_25 2 rfl (by decide) (by decide) [(3, .int (v3 + (1 : Int32))), (1, .long x18), (0, rV (xg X) v0)] rfl 28 rfl ?_
        refine k_goto C dX11_digest_28 6 rfl ?_
        refine k_sub [2, 1, 0] rfl ?_
        exact ih6 _ _ _ w16 hf
  unfold f_X11_digest at hf
  refine k_sub (lv2 := [(0, rV (xg X) p0)]) [0] rfl ?_
  refine k_ldc2 C dX11_digest_0 mcst_X11_281 3 rfl ?_
  refine k_lstore_n C dX11_digest_3 rfl (by decide) [(1, .long (1231 : Int64)), (0, rV (xg X) p0)] rfl 4 rfl ?_
  refine k_iconst C dX11_digest_4 (0) (by decide) 5 rfl ?_
  refine k_istore_n C dX11_digest_5 rfl (by decide) [(3, .int (0 : Int32)), (1, .long (1231 : Int64)), (0, rV (xg X) p0)] rfl 6 rfl ?_
  refine k_sub [2, 1, 0] rfl ?_
  exact t_6 4096 _ _ _ w0 hf
theorem dX11_forget_0 : decode cX11_forget 0 = .ok (.iload_n 1, 1) := by decide +kernel
theorem dX11_forget_1 : decode cX11_forget 1 = .ok (.iconst 0, 1) := by decide +kernel
theorem dX11_forget_2 : decode cX11_forget 2 = .ok (.iconst 1, 1) := by decide +kernel
theorem dX11_forget_3 : decode cX11_forget 3 = .ok (.invokestatic 72, 3) := by decide +kernel
theorem dX11_forget_6 : decode cX11_forget 6 = .ok (.ifCond .ne 10, 3) := by decide +kernel
theorem dX11_forget_9 : decode cX11_forget 9 = .ok (.aload_n 0, 1) := by decide +kernel
theorem dX11_forget_10 : decode cX11_forget 10 = .ok (.bipush (-2), 2) := by decide +kernel
theorem dX11_forget_12 : decode cX11_forget 12 = .ok (.invokevirtual 76, 3) := by decide +kernel
theorem dX11_forget_15 : decode cX11_forget 15 = .ok (.ireturn, 1) := by decide +kernel
theorem dX11_forget_16 : decode cX11_forget 16 = .ok (.iload_n 1, 1) := by decide +kernel
theorem dX11_forget_17 : decode cX11_forget 17 = .ok (.ifCond .ne 16, 3) := by decide +kernel
theorem dX11_forget_20 : decode cX11_forget 20 = .ok (.aload_n 0, 1) := by decide +kernel
theorem dX11_forget_21 : decode cX11_forget 21 = .ok (.getfield 30, 3) := by decide +kernel
theorem dX11_forget_24 : decode cX11_forget 24 = .ok (.getfield 207, 3) := by decide +kernel
theorem dX11_forget_27 : decode cX11_forget 27 = .ok (.getfield 211, 3) := by decide +kernel
theorem dX11_forget_30 : decode cX11_forget 30 = .ok (.goto 13, 3) := by decide +kernel
theorem dX11_forget_33 : decode cX11_forget 33 = .ok (.aload_n 0, 1) := by decide +kernel
theorem dX11_forget_34 : decode cX11_forget 34 = .ok (.getfield 30, 3) := by decide +kernel
theorem dX11_forget_37 : decode cX11_forget 37 = .ok (.getfield 207, 3) := by decide +kernel
theorem dX11_forget_40 : decode cX11_forget 40 = .ok (.getfield 238, 3) := by decide +kernel
theorem dX11_forget_43 : decode cX11_forget 43 = .ok (.istore_n 2, 1) := by decide +kernel
theorem dX11_forget_44 : decode cX11_forget 44 = .ok (.iload_n 1, 1) := by decide +kernel
theorem dX11_forget_45 : decode cX11_forget 45 = .ok (.ifCond .ne 17, 3) := by decide +kernel
theorem dX11_forget_48 : decode cX11_forget 48 = .ok (.aload_n 0, 1) := by decide +kernel
theorem dX11_forget_49 : decode cX11_forget 49 = .ok (.getfield 30, 3) := by decide +kernel
theorem dX11_forget_52 : decode cX11_forget 52 = .ok (.getfield 207, 3) := by decide +kernel
theorem dX11_forget_55 : decode cX11_forget 55 = .ok (.iconst 0, 1) := by decide +kernel
theorem dX11_forget_56 : decode cX11_forget 56 = .ok (.putfield 211, 3) := by decide +kernel
theorem dX11_forget_59 : decode cX11_forget 59 = .ok (.goto 14, 3) := by decide +kernel
theorem dX11_forget_62 : decode cX11_forget 62 = .ok (.aload_n 0, 1) := by decide +kernel
theorem dX11_forget_63 : decode cX11_forget 63 = .ok (.getfield 30, 3) := by decide +kernel
theorem dX11_forget_66 : decode cX11_forget 66 = .ok (.getfield 207, 3) := by decide +kernel
theorem dX11_forget_69 : decode cX11_forget 69 = .ok (.iconst 0, 1) := by decide +kernel
theorem dX11_forget_70 : decode cX11_forget 70 = .ok (.putfield 238, 3) := by decide +kernel
theorem dX11_forget_73 : decode cX11_forget 73 = .ok (.iload_n 2, 1) := by decide +kernel
theorem dX11_forget_74 : decode cX11_forget 74 = .ok (.ireturn, 1) := by decide +kernel
set_option maxRecDepth 100000 in
set_option maxHeartbeats 4000000 in
theorem c_X11_forget {g : Gv} {l : Launch} (p0 : Nat) (p1 : Int32) (w0 : Wd) (rz : Int32) (wz : Wd) (hf : f_X11_forget p0 p1 w0 = some (rz, wz)) : MI g l yX11_forget cX11_forget 3 .int 2 44 [rV g p0, .int p1] w0 rz wz := by
  refine mi_of RX11 (by decide) rfl (Nat.le_of_ble_eq_true rfl) ?_
  intro X hg hll C hr h0
  subst hg; subst hll
  have t_73 : ∀ (v2 : Int32) (w : Wd), f_X11_forget_73 v2 w = some (rz, wz) → Wk X 0 0 (QI X w0 rz wz) w [(2, .int v2)] 73 [] := by
    intro v2 w hf
    unfold f_X11_forget_73 at hf
    refine k_iload_n C dX11_forget_73 0 rfl 74 rfl ?_
    exact k_iret C hr h0 dX11_forget_74 hf
  have t_43 : ∀ (v0 : Nat) (v1 : Int32) (s0 : Int32) (w : Wd), f_X11_forget_43 v0 v1 s0 w = some (rz, wz) → Wk X 0 0 (QI X w0 rz wz) w [(0, rV (xg X) v0), (1, .int v1)] 43 [.int s0] := by
    intro v0 v1 s0 w hf
    unfold f_X11_forget_43 at hf
    refine k_istore_n C dX11_forget_43 rfl (by decide) [(2, .int s0), (0, rV (xg X) v0), (1, .int v1)] rfl 44 rfl ?_
    refine k_iload_n C dX11_forget_44 2 rfl 45 rfl ?_
    refine k_if_ne C dX11_forget_45 hf 62 rfl 48 rfl (fun hf => ?_) (fun hf => ?_)
    · refine k_aload_n C dX11_forget_62 1 rfl rfl 63 rfl ?_
      refine k_getR C fe_X11_30 rfl dX11_forget_63 hf 66 rfl (fun r17 hf => ?_)
      refine k_getR C fe_X11_207 rfl dX11_forget_66 hf 69 rfl (fun r18 hf => ?_)
      refine k_iconst C dX11_forget_69 (0) (by decide) 70 rfl ?_
      refine k_putI C fe_X11_238 rfl rfl dX11_forget_70 hf 73 rfl (fun w19 _ hf => ?_)
      refine k_sub [0] rfl ?_
      exact t_73 _ w19 hf
    · refine k_aload_n C dX11_forget_48 1 rfl rfl 49 rfl ?_
      refine k_getR C fe_X11_30 rfl dX11_forget_49 hf 52 rfl (fun r20 hf => ?_)
      refine k_getR C fe_X11_207 rfl dX11_forget_52 hf 55 rfl (fun r21 hf => ?_)
      refine k_iconst C dX11_forget_55 (0) (by decide) 56 rfl ?_
      refine k_putI C fe_X11_211 rfl rfl dX11_forget_56 hf 59 rfl (fun w22 _ hf => ?_)
      refine k_goto C dX11_forget_59 73 rfl ?_
      refine k_sub [0] rfl ?_
      exact t_73 _ w22 hf
  unfold f_X11_forget at hf
  refine k_sub (lv2 := [(0, rV (xg X) p0), (1, .int p1)]) [0, 1] rfl ?_
  refine k_iload_n C dX11_forget_0 1 rfl 1 rfl ?_
  refine k_iconst C dX11_forget_1 (0) (by decide) 2 rfl ?_
  refine k_iconst C dX11_forget_2 (1) (by decide) 3 rfl ?_
  refine k_callS_i C ye_X11_within se_X11_72 ⟨rfl, rfl⟩ ⟨rfl, rfl⟩ dX11_forget_3 [.int p1, .int (0 : Int32), .int (1 : Int32)] rfl rfl (Nat.le_of_ble_eq_true rfl) (c_X11_within _ _ _ _) hf 6 rfl (fun x24 w23 hf => ?_)
  refine k_if_ne C dX11_forget_6 hf 16 rfl 9 rfl (fun hf => ?_) (fun hf => ?_)
  · refine k_iload_n C dX11_forget_16 1 rfl 17 rfl ?_
    refine k_if_ne C dX11_forget_17 hf 33 rfl 20 rfl (fun hf => ?_) (fun hf => ?_)
    · refine k_aload_n C dX11_forget_33 0 rfl rfl 34 rfl ?_
      refine k_getR C fe_X11_30 rfl dX11_forget_34 hf 37 rfl (fun r25 hf => ?_)
      refine k_getR C fe_X11_207 rfl dX11_forget_37 hf 40 rfl (fun r26 hf => ?_)
      refine k_getI C fe_X11_238 rfl dX11_forget_40 hf 43 rfl (fun x27 hf => ?_)
      refine k_sub [0, 1] rfl ?_
      exact t_43 _ _ _ w23 hf
    · refine k_aload_n C dX11_forget_20 0 rfl rfl 21 rfl ?_
      refine k_getR C fe_X11_30 rfl dX11_forget_21 hf 24 rfl (fun r28 hf => ?_)
      refine k_getR C fe_X11_207 rfl dX11_forget_24 hf 27 rfl (fun r29 hf => ?_)
      refine k_getI C fe_X11_211 rfl dX11_forget_27 hf 30 rfl (fun x30 hf => ?_)
      refine k_goto C dX11_forget_30 43 rfl ?_
      refine k_sub [0, 1] rfl ?_
      exact t_43 _ _ _ w23 hf
  · refine k_aload_n C dX11_forget_9 0 rfl rfl 10 rfl ?_
    refine k_bipush C dX11_forget_10 (-2) (by decide) 12 rfl ?_
    refine k_callV_i C ye_X11_refuse ve_X11_76 ⟨rfl, rfl⟩ ⟨rfl, rfl⟩ dX11_forget_12 [.int (-2 : Int32)] rfl rfl (Nat.le_of_ble_eq_true rfl) (c_X11_refuse _ _ _) hf 15 rfl (fun x32 w31 hf => ?_)
    exact k_iret C hr h0 dX11_forget_15 hf
theorem dX11_from_0 : decode cX11_from 0 = .ok (.iload_n 1, 1) := by decide +kernel
theorem dX11_from_1 : decode cX11_from 1 = .ok (.iconst 0, 1) := by decide +kernel
theorem dX11_from_2 : decode cX11_from 2 = .ok (.iconst 1, 1) := by decide +kernel
theorem dX11_from_3 : decode cX11_from 3 = .ok (.invokestatic 72, 3) := by decide +kernel
theorem dX11_from_6 : decode cX11_from 6 = .ok (.ifCond .ne 10, 3) := by decide +kernel
theorem dX11_from_9 : decode cX11_from 9 = .ok (.aload_n 0, 1) := by decide +kernel
theorem dX11_from_10 : decode cX11_from 10 = .ok (.bipush (-2), 2) := by decide +kernel
theorem dX11_from_12 : decode cX11_from 12 = .ok (.invokevirtual 76, 3) := by decide +kernel
theorem dX11_from_15 : decode cX11_from 15 = .ok (.ireturn, 1) := by decide +kernel
theorem dX11_from_16 : decode cX11_from 16 = .ok (.aload_n 0, 1) := by decide +kernel
theorem dX11_from_17 : decode cX11_from 17 = .ok (.getfield 43, 3) := by decide +kernel
theorem dX11_from_20 : decode cX11_from 20 = .ok (.iload_n 1, 1) := by decide +kernel
theorem dX11_from_21 : decode cX11_from 21 = .ok (.baload, 1) := by decide +kernel
theorem dX11_from_22 : decode cX11_from 22 = .ok (.ifCond .ne 10, 3) := by decide +kernel
theorem dX11_from_25 : decode cX11_from 25 = .ok (.aload_n 0, 1) := by decide +kernel
theorem dX11_from_26 : decode cX11_from 26 = .ok (.bipush (-3), 2) := by decide +kernel
theorem dX11_from_28 : decode cX11_from 28 = .ok (.invokevirtual 76, 3) := by decide +kernel
theorem dX11_from_31 : decode cX11_from 31 = .ok (.ireturn, 1) := by decide +kernel
theorem dX11_from_32 : decode cX11_from 32 = .ok (.aload_n 0, 1) := by decide +kernel
theorem dX11_from_33 : decode cX11_from 33 = .ok (.getfield 30, 3) := by decide +kernel
theorem dX11_from_36 : decode cX11_from 36 = .ok (.aload_n 0, 1) := by decide +kernel
theorem dX11_from_37 : decode cX11_from 37 = .ok (.getfield 39, 3) := by decide +kernel
theorem dX11_from_40 : decode cX11_from 40 = .ok (.iload_n 1, 1) := by decide +kernel
theorem dX11_from_41 : decode cX11_from 41 = .ok (.aaload, 1) := by decide +kernel
theorem dX11_from_42 : decode cX11_from 42 = .ok (.invokevirtual 274, 3) := by decide +kernel
theorem dX11_from_45 : decode cX11_from 45 = .ok (.iconst 1, 1) := by decide +kernel
theorem dX11_from_46 : decode cX11_from 46 = .ok (.ireturn, 1) := by decide +kernel
set_option maxRecDepth 100000 in
set_option maxHeartbeats 4000000 in
theorem c_X11_from {g : Gv} {l : Launch} (p0 : Nat) (p1 : Int32) (w0 : Wd) (rz : Int32) (wz : Wd) (hf : f_X11_from p0 p1 w0 = some (rz, wz)) : MI g l yX11_from cX11_from 2 .int 3 91 [rV g p0, .int p1] w0 rz wz := by
  refine mi_of RX11 (by decide) rfl (Nat.le_of_ble_eq_true rfl) ?_
  intro X hg hll C hr h0
  subst hg; subst hll
  unfold f_X11_from at hf
  refine k_sub (lv2 := [(0, rV (xg X) p0), (1, .int p1)]) [0, 1] rfl ?_
  refine k_iload_n C dX11_from_0 1 rfl 1 rfl ?_
  refine k_iconst C dX11_from_1 (0) (by decide) 2 rfl ?_
  refine k_iconst C dX11_from_2 (1) (by decide) 3 rfl ?_
  refine k_callS_i C ye_X11_within se_X11_72 ⟨rfl, rfl⟩ ⟨rfl, rfl⟩ dX11_from_3 [.int p1, .int (0 : Int32), .int (1 : Int32)] rfl rfl (Nat.le_of_ble_eq_true rfl) (c_X11_within _ _ _ _) hf 6 rfl (fun x15 w14 hf => ?_)
  refine k_if_ne C dX11_from_6 hf 16 rfl 9 rfl (fun hf => ?_) (fun hf => ?_)
  · refine k_aload_n C dX11_from_16 0 rfl rfl 17 rfl ?_
    refine k_getR C fe_X11_43 rfl dX11_from_17 hf 20 rfl (fun r16 hf => ?_)
    refine k_iload_n C dX11_from_20 1 rfl 21 rfl ?_
    refine k_zald C dX11_from_21 hf 22 rfl (fun x17 hf => ?_)
    refine k_if_ne C dX11_from_22 hf 32 rfl 25 rfl (fun hf => ?_) (fun hf => ?_)
    · refine k_aload_n C dX11_from_32 0 rfl rfl 33 rfl ?_
      refine k_getR C fe_X11_30 rfl dX11_from_33 hf 36 rfl (fun r18 hf => ?_)
      refine k_aload_n C dX11_from_36 0 rfl rfl 37 rfl ?_
      refine k_getR C fe_X11_39 rfl dX11_from_37 hf 40 rfl (fun r19 hf => ?_)
      refine k_iload_n C dX11_from_40 1 rfl 41 rfl ?_
      refine k_aald17 C dX11_from_41 hf 42 rfl (fun r20 hf => ?_)
      refine k_callV_v C ye_X2_copyFrom ve_X11_274 ⟨rfl, rfl⟩ ⟨rfl, rfl⟩ dX11_from_42 [rV (xg X) r20] rfl rfl (Nat.le_of_ble_eq_true rfl) (c_X2_copyFrom _ _ _) hf 45 rfl (fun w21 hf => ?_)
      refine k_iconst C dX11_from_45 (1) (by decide) 46 rfl ?_
      exact k_iret C hr h0 dX11_from_46 hf
    · refine k_aload_n C dX11_from_25 0 rfl rfl 26 rfl ?_
      refine k_bipush C dX11_from_26 (-3) (by decide) 28 rfl ?_
      refine k_callV_i C ye_X11_refuse ve_X11_76 ⟨rfl, rfl⟩ ⟨rfl, rfl⟩ dX11_from_28 [.int (-3 : Int32)] rfl rfl (Nat.le_of_ble_eq_true rfl) (c_X11_refuse _ _ _) hf 31 rfl (fun x24 w23 hf => ?_)
      exact k_iret C hr h0 dX11_from_31 hf
  · refine k_aload_n C dX11_from_9 0 rfl rfl 10 rfl ?_
    refine k_bipush C dX11_from_10 (-2) (by decide) 12 rfl ?_
    refine k_callV_i C ye_X11_refuse ve_X11_76 ⟨rfl, rfl⟩ ⟨rfl, rfl⟩ dX11_from_12 [.int (-2 : Int32)] rfl rfl (Nat.le_of_ble_eq_true rfl) (c_X11_refuse _ _ _) hf 15 rfl (fun x26 w25 hf => ?_)
    exact k_iret C hr h0 dX11_from_15 hf
theorem dX11_full_0 : decode cX11_full 0 = .ok (.aload_n 0, 1) := by decide +kernel
theorem dX11_full_1 : decode cX11_full 1 = .ok (.getfield 30, 3) := by decide +kernel
theorem dX11_full_4 : decode cX11_full 4 = .ok (.invokevirtual 180, 3) := by decide +kernel
theorem dX11_full_7 : decode cX11_full 7 = .ok (.istore_n 1, 1) := by decide +kernel
theorem dX11_full_8 : decode cX11_full 8 = .ok (.iconst 0, 1) := by decide +kernel
theorem dX11_full_9 : decode cX11_full 9 = .ok (.istore_n 2, 1) := by decide +kernel
theorem dX11_full_10 : decode cX11_full 10 = .ok (.iload_n 2, 1) := by decide +kernel
theorem dX11_full_11 : decode cX11_full 11 = .ok (.bipush 60, 2) := by decide +kernel
theorem dX11_full_13 : decode cX11_full 13 = .ok (.if_icmp .gt 48, 3) := by decide +kernel
theorem dX11_full_16 : decode cX11_full 16 = .ok (.iload_n 1, 1) := by decide +kernel
theorem dX11_full_17 : decode cX11_full 17 = .ok (.aload_n 0, 1) := by decide +kernel
theorem dX11_full_18 : decode cX11_full 18 = .ok (.getfield 30, 3) := by decide +kernel
theorem dX11_full_21 : decode cX11_full 21 = .ok (.getfield 183, 3) := by decide +kernel
theorem dX11_full_24 : decode cX11_full 24 = .ok (.if_icmp .lt 5, 3) := by decide +kernel
theorem dX11_full_27 : decode cX11_full 27 = .ok (.iload_n 2, 1) := by decide +kernel
theorem dX11_full_28 : decode cX11_full 28 = .ok (.ireturn, 1) := by decide +kernel
theorem dX11_full_29 : decode cX11_full 29 = .ok (.iload_n 1, 1) := by decide +kernel
theorem dX11_full_30 : decode cX11_full 30 = .ok (.aload_n 0, 1) := by decide +kernel
theorem dX11_full_31 : decode cX11_full 31 = .ok (.getfield 30, 3) := by decide +kernel
theorem dX11_full_34 : decode cX11_full 34 = .ok (.aload_n 0, 1) := by decide +kernel
theorem dX11_full_35 : decode cX11_full 35 = .ok (.getfield 30, 3) := by decide +kernel
theorem dX11_full_38 : decode cX11_full 38 = .ok (.getfield 122, 3) := by decide +kernel
theorem dX11_full_41 : decode cX11_full 41 = .ok (.aload_n 0, 1) := by decide +kernel
theorem dX11_full_42 : decode cX11_full 42 = .ok (.getfield 30, 3) := by decide +kernel
theorem dX11_full_45 : decode cX11_full 45 = .ok (.getfield 156, 3) := by decide +kernel
theorem dX11_full_48 : decode cX11_full 48 = .ok (.iload_n 2, 1) := by decide +kernel
theorem dX11_full_49 : decode cX11_full 49 = .ok (.iadd, 1) := by decide +kernel
theorem dX11_full_50 : decode cX11_full 50 = .ok (.invokevirtual 194, 3) := by decide +kernel
theorem dX11_full_53 : decode cX11_full 53 = .ok (.iadd, 1) := by decide +kernel
theorem dX11_full_54 : decode cX11_full 54 = .ok (.istore_n 1, 1) := by decide +kernel
theorem dX11_full_55 : decode cX11_full 55 = .ok (.iinc 2 1, 3) := by decide +kernel
theorem dX11_full_58 : decode cX11_full 58 = .ok (.goto (-48), 3) := by decide +kernel
theorem dX11_full_61 : decode cX11_full 61 = .ok (.iconst (-1), 1) := by decide +kernel
theorem dX11_full_62 : decode cX11_full 62 = .ok (.ireturn, 1) := by decide +kernel
set_option maxRecDepth 100000 in
set_option maxHeartbeats 4000000 in
theorem c_X11_full {g : Gv} {l : Launch} (p0 : Nat) (w0 : Wd) (rz : Int32) (wz : Wd) (hf : f_X11_full p0 w0 = some (rz, wz)) : MI g l yX11_full cX11_full 3 .int 5 114 [rV g p0] w0 rz wz := by
  refine mi_of RX11 (by decide) rfl (Nat.le_of_ble_eq_true rfl) ?_
  intro X hg hll C hr h0
  subst hg; subst hll
  have t_10 : ∀ (n : Nat) (v0 : Nat) (v1 : Int32) (v2 : Int32) (w : Wd), f_X11_full_10 n v0 v1 v2 w = some (rz, wz) → Wk X 0 0 (QI X w0 rz wz) w [(0, rV (xg X) v0), (1, .int v1), (2, .int v2)] 10 [] := by
    intro n
    induction n with
    | zero => intro v0 v1 v2 w hf; rw [f_X11_full_10] at hf; cases hf
    | succ n10 ih10 =>
      intro v0 v1 v2 w hf
      rw [f_X11_full_10] at hf
      refine k_iload_n C dX11_full_10 2 rfl 11 rfl ?_
      refine k_bipush C dX11_full_11 (60) (by decide) 13 rfl ?_
      refine k_icmp_gt C dX11_full_13 hf 61 rfl 16 rfl (fun hf => ?_) (fun hf => ?_)
      · refine k_iconst C dX11_full_61 (-1) (by decide) 62 rfl ?_
        exact k_iret C hr h0 dX11_full_62 hf
      · refine k_iload_n C dX11_full_16 1 rfl 17 rfl ?_
        refine k_aload_n C dX11_full_17 0 rfl rfl 18 rfl ?_
        refine k_getR C fe_X11_30 rfl dX11_full_18 hf 21 rfl (fun r14 hf => ?_)
        refine k_getI C fe_X11_183 rfl dX11_full_21 hf 24 rfl (fun x15 hf => ?_)
        refine k_icmp_lt C dX11_full_24 hf 29 rfl 27 rfl (fun hf => ?_) (fun hf => ?_)
        · refine k_iload_n C dX11_full_29 1 rfl 30 rfl ?_
          refine k_aload_n C dX11_full_30 0 rfl rfl 31 rfl ?_
          refine k_getR C fe_X11_30 rfl dX11_full_31 hf 34 rfl (fun r16 hf => ?_)
          refine k_aload_n C dX11_full_34 0 rfl rfl 35 rfl ?_
          refine k_getR C fe_X11_30 rfl dX11_full_35 hf 38 rfl (fun r17 hf => ?_)
          refine k_getI C fe_X11_122 rfl dX11_full_38 hf 41 rfl (fun x18 hf => ?_)
          refine k_aload_n C dX11_full_41 0 rfl rfl 42 rfl ?_
          refine k_getR C fe_X11_30 rfl dX11_full_42 hf 45 rfl (fun r19 hf => ?_)
          refine k_getI C fe_X11_156 rfl dX11_full_45 hf 48 rfl (fun x20 hf => ?_)
          refine k_iload_n C dX11_full_48 2 rfl 49 rfl ?_
          refine k_iadd C dX11_full_49 50 rfl ?_
          refine k_callV_i C ye_X2_groundBy ve_X11_194 ⟨rfl, rfl⟩ ⟨rfl, rfl⟩ dX11_full_50 [.int x18, .int (x20 + v2)] rfl rfl (Nat.le_of_ble_eq_true rfl) (c_X2_groundBy _ _ _ _) hf 53 rfl (fun x22 w21 hf => ?_)
          refine k_iadd C dX11_full_53 54 rfl ?_
          refine k_nmi hf (fun x23 hf => ?_)
          refine k_istore_n C dX11_full_54 rfl (by decide) [(1, .int x23), (0, rV (xg X) v0), (2, .int v2)] rfl 55 rfl ?_
          refine k_iinc C dX11_full_55 2 rfl (by decide) (by decide) [(2, .int (v2 + (1 : Int32))), (1, .int x23), (0, rV (xg X) v0)] rfl 58 rfl ?_
          refine k_goto C dX11_full_58 10 rfl ?_
          refine k_sub [2, 1, 0] rfl ?_
          exact ih10 _ _ _ w21 hf
        · refine k_iload_n C dX11_full_27 2 rfl 28 rfl ?_
          exact k_iret C hr h0 dX11_full_28 hf
  unfold f_X11_full at hf
  refine k_sub (lv2 := [(0, rV (xg X) p0)]) [0] rfl ?_
  refine k_aload_n C dX11_full_0 0 rfl rfl 1 rfl ?_
  refine k_getR C fe_X11_30 rfl dX11_full_1 hf 4 rfl (fun r24 hf => ?_)
  refine k_callV_i C ye_X2_allBushels ve_X11_180 ⟨rfl, rfl⟩ ⟨rfl, rfl⟩ dX11_full_4 [] rfl rfl (Nat.le_of_ble_eq_true rfl) (c_X2_allBushels _ _) hf 7 rfl (fun x26 w25 hf => ?_)
  refine k_istore_n C dX11_full_7 rfl (by decide) [(1, .int x26), (0, rV (xg X) p0)] rfl 8 rfl ?_
  refine k_iconst C dX11_full_8 (0) (by decide) 9 rfl ?_
  refine k_istore_n C dX11_full_9 rfl (by decide) [(2, .int (0 : Int32)), (1, .int x26), (0, rV (xg X) p0)] rfl 10 rfl ?_
  refine k_sub [2, 1, 0] rfl ?_
  exact t_10 4096 _ _ _ w25 hf
theorem dX11_goods_0 : decode cX11_goods 0 = .ok (.iload_n 1, 1) := by decide +kernel
theorem dX11_goods_1 : decode cX11_goods 1 = .ok (.iconst 0, 1) := by decide +kernel
theorem dX11_goods_2 : decode cX11_goods 2 = .ok (.iconst 5, 1) := by decide +kernel
theorem dX11_goods_3 : decode cX11_goods 3 = .ok (.invokestatic 72, 3) := by decide +kernel
theorem dX11_goods_6 : decode cX11_goods 6 = .ok (.ifCond .eq 23, 3) := by decide +kernel
theorem dX11_goods_9 : decode cX11_goods 9 = .ok (.iload_n 2, 1) := by decide +kernel
theorem dX11_goods_10 : decode cX11_goods 10 = .ok (.iconst 1, 1) := by decide +kernel
theorem dX11_goods_11 : decode cX11_goods 11 = .ok (.bipush 9, 2) := by decide +kernel
theorem dX11_goods_13 : decode cX11_goods 13 = .ok (.invokestatic 72, 3) := by decide +kernel
theorem dX11_goods_16 : decode cX11_goods 16 = .ok (.ifCond .eq 13, 3) := by decide +kernel
theorem dX11_goods_19 : decode cX11_goods 19 = .ok (.iload_n 3, 1) := by decide +kernel
theorem dX11_goods_20 : decode cX11_goods 20 = .ok (.iconst 0, 1) := by decide +kernel
theorem dX11_goods_21 : decode cX11_goods 21 = .ok (.bipush 40, 2) := by decide +kernel
theorem dX11_goods_23 : decode cX11_goods 23 = .ok (.invokestatic 72, 3) := by decide +kernel
theorem dX11_goods_26 : decode cX11_goods 26 = .ok (.ifCond .ne 10, 3) := by decide +kernel
theorem dX11_goods_29 : decode cX11_goods 29 = .ok (.aload_n 0, 1) := by decide +kernel
theorem dX11_goods_30 : decode cX11_goods 30 = .ok (.bipush (-2), 2) := by decide +kernel
theorem dX11_goods_32 : decode cX11_goods 32 = .ok (.invokevirtual 76, 3) := by decide +kernel
theorem dX11_goods_35 : decode cX11_goods 35 = .ok (.ireturn, 1) := by decide +kernel
theorem dX11_goods_36 : decode cX11_goods 36 = .ok (.aload_n 0, 1) := by decide +kernel
theorem dX11_goods_37 : decode cX11_goods 37 = .ok (.getfield 30, 3) := by decide +kernel
theorem dX11_goods_40 : decode cX11_goods 40 = .ok (.getfield 80, 3) := by decide +kernel
theorem dX11_goods_43 : decode cX11_goods 43 = .ok (.bipush 6, 2) := by decide +kernel
theorem dX11_goods_45 : decode cX11_goods 45 = .ok (.if_icmp .lt 10, 3) := by decide +kernel
theorem dX11_goods_48 : decode cX11_goods 48 = .ok (.aload_n 0, 1) := by decide +kernel
theorem dX11_goods_49 : decode cX11_goods 49 = .ok (.bipush (-4), 2) := by decide +kernel
theorem dX11_goods_51 : decode cX11_goods 51 = .ok (.invokevirtual 76, 3) := by decide +kernel
theorem dX11_goods_54 : decode cX11_goods 54 = .ok (.ireturn, 1) := by decide +kernel
theorem dX11_goods_55 : decode cX11_goods 55 = .ok (.aload_n 0, 1) := by decide +kernel
theorem dX11_goods_56 : decode cX11_goods 56 = .ok (.getfield 30, 3) := by decide +kernel
theorem dX11_goods_59 : decode cX11_goods 59 = .ok (.iload_n 1, 1) := by decide +kernel
theorem dX11_goods_60 : decode cX11_goods 60 = .ok (.iload_n 2, 1) := by decide +kernel
theorem dX11_goods_61 : decode cX11_goods 61 = .ok (.iload_n 3, 1) := by decide +kernel
theorem dX11_goods_62 : decode cX11_goods 62 = .ok (.invokevirtual 88, 3) := by decide +kernel
theorem dX11_goods_65 : decode cX11_goods 65 = .ok (.aload_n 0, 1) := by decide +kernel
theorem dX11_goods_66 : decode cX11_goods 66 = .ok (.getfield 30, 3) := by decide +kernel
theorem dX11_goods_69 : decode cX11_goods 69 = .ok (.getfield 80, 3) := by decide +kernel
theorem dX11_goods_72 : decode cX11_goods 72 = .ok (.iconst 1, 1) := by decide +kernel
theorem dX11_goods_73 : decode cX11_goods 73 = .ok (.isub, 1) := by decide +kernel
theorem dX11_goods_74 : decode cX11_goods 74 = .ok (.ireturn, 1) := by decide +kernel
set_option maxRecDepth 100000 in
set_option maxHeartbeats 4000000 in
theorem c_X11_goods {g : Gv} {l : Launch} (p0 : Nat) (p1 : Int32) (p2 : Int32) (p3 : Int32) (w0 : Wd) (rz : Int32) (wz : Wd) (hf : f_X11_goods p0 p1 p2 p3 w0 = some (rz, wz)) : MI g l yX11_goods cX11_goods 4 .int 2 46 [rV g p0, .int p1, .int p2, .int p3] w0 rz wz := by
  refine mi_of RX11 (by decide) rfl (Nat.le_of_ble_eq_true rfl) ?_
  intro X hg hll C hr h0
  subst hg; subst hll
  have t_29 : ∀ (v0 : Nat) (w : Wd), f_X11_goods_29 v0 w = some (rz, wz) → Wk X 0 0 (QI X w0 rz wz) w [(0, rV (xg X) v0)] 29 [] := by
    intro v0 w hf
    unfold f_X11_goods_29 at hf
    refine k_aload_n C dX11_goods_29 0 rfl rfl 30 rfl ?_
    refine k_bipush C dX11_goods_30 (-2) (by decide) 32 rfl ?_
    refine k_callV_i C ye_X11_refuse ve_X11_76 ⟨rfl, rfl⟩ ⟨rfl, rfl⟩ dX11_goods_32 [.int (-2 : Int32)] rfl rfl (Nat.le_of_ble_eq_true rfl) (c_X11_refuse _ _ _) hf 35 rfl (fun x19 w18 hf => ?_)
    exact k_iret C hr h0 dX11_goods_35 hf
  unfold f_X11_goods at hf
  refine k_sub (lv2 := [(0, rV (xg X) p0), (1, .int p1), (2, .int p2), (3, .int p3)]) [0, 1, 2, 3] rfl ?_
  refine k_iload_n C dX11_goods_0 1 rfl 1 rfl ?_
  refine k_iconst C dX11_goods_1 (0) (by decide) 2 rfl ?_
  refine k_iconst C dX11_goods_2 (5) (by decide) 3 rfl ?_
  refine k_callS_i C ye_X11_within se_X11_72 ⟨rfl, rfl⟩ ⟨rfl, rfl⟩ dX11_goods_3 [.int p1, .int (0 : Int32), .int (5 : Int32)] rfl rfl (Nat.le_of_ble_eq_true rfl) (c_X11_within _ _ _ _) hf 6 rfl (fun x21 w20 hf => ?_)
  refine k_if_eq C dX11_goods_6 hf 29 rfl 9 rfl (fun hf => ?_) (fun hf => ?_)
  · refine k_sub [0] rfl ?_
    exact t_29 _ w20 hf
  · refine k_iload_n C dX11_goods_9 2 rfl 10 rfl ?_
    refine k_iconst C dX11_goods_10 (1) (by decide) 11 rfl ?_
    refine k_bipush C dX11_goods_11 (9) (by decide) 13 rfl ?_
    refine k_callS_i C ye_X11_within se_X11_72 ⟨rfl, rfl⟩ ⟨rfl, rfl⟩ dX11_goods_13 [.int p2, .int (1 : Int32), .int (9 : Int32)] rfl rfl (Nat.le_of_ble_eq_true rfl) (c_X11_within _ _ _ _) hf 16 rfl (fun x23 w22 hf => ?_)
    refine k_if_eq C dX11_goods_16 hf 29 rfl 19 rfl (fun hf => ?_) (fun hf => ?_)
    · refine k_sub [0] rfl ?_
      exact t_29 _ w22 hf
    · refine k_iload_n C dX11_goods_19 3 rfl 20 rfl ?_
      refine k_iconst C dX11_goods_20 (0) (by decide) 21 rfl ?_
      refine k_bipush C dX11_goods_21 (40) (by decide) 23 rfl ?_
      refine k_callS_i C ye_X11_within se_X11_72 ⟨rfl, rfl⟩ ⟨rfl, rfl⟩ dX11_goods_23 [.int p3, .int (0 : Int32), .int (40 : Int32)] rfl rfl (Nat.le_of_ble_eq_true rfl) (c_X11_within _ _ _ _) hf 26 rfl (fun x25 w24 hf => ?_)
      refine k_if_ne C dX11_goods_26 hf 36 rfl 29 rfl (fun hf => ?_) (fun hf => ?_)
      · refine k_aload_n C dX11_goods_36 0 rfl rfl 37 rfl ?_
        refine k_getR C fe_X11_30 rfl dX11_goods_37 hf 40 rfl (fun r26 hf => ?_)
        refine k_getI C fe_X11_80 rfl dX11_goods_40 hf 43 rfl (fun x27 hf => ?_)
        refine k_bipush C dX11_goods_43 (6) (by decide) 45 rfl ?_
        refine k_icmp_lt C dX11_goods_45 hf 55 rfl 48 rfl (fun hf => ?_) (fun hf => ?_)
        · refine k_aload_n C dX11_goods_55 0 rfl rfl 56 rfl ?_
          refine k_getR C fe_X11_30 rfl dX11_goods_56 hf 59 rfl (fun r28 hf => ?_)
          refine k_iload_n C dX11_goods_59 1 rfl 60 rfl ?_
          refine k_iload_n C dX11_goods_60 2 rfl 61 rfl ?_
          refine k_iload_n C dX11_goods_61 3 rfl 62 rfl ?_
          refine k_callV_v C ye_X2_addGoods ve_X11_88 ⟨rfl, rfl⟩ ⟨rfl, rfl⟩ dX11_goods_62 [.int p1, .int p2, .int p3] rfl rfl (Nat.le_of_ble_eq_true rfl) (c_X2_addGoods _ _ _ _ _) hf 65 rfl (fun w29 hf => ?_)
          refine k_aload_n C dX11_goods_65 0 rfl rfl 66 rfl ?_
          refine k_getR C fe_X11_30 rfl dX11_goods_66 hf 69 rfl (fun r31 hf => ?_)
          refine k_getI C fe_X11_80 rfl dX11_goods_69 hf 72 rfl (fun x32 hf => ?_)
          refine k_iconst C dX11_goods_72 (1) (by decide) 73 rfl ?_
          refine k_isub C dX11_goods_73 74 rfl ?_
          exact k_iret C hr h0 dX11_goods_74 hf
        · refine k_aload_n C dX11_goods_48 0 rfl rfl 49 rfl ?_
          refine k_bipush C dX11_goods_49 (-4) (by decide) 51 rfl ?_
          refine k_callV_i C ye_X11_refuse ve_X11_76 ⟨rfl, rfl⟩ ⟨rfl, rfl⟩ dX11_goods_51 [.int (-4 : Int32)] rfl rfl (Nat.le_of_ble_eq_true rfl) (c_X11_refuse _ _ _) hf 54 rfl (fun x34 w33 hf => ?_)
          exact k_iret C hr h0 dX11_goods_54 hf
      · refine k_sub [0] rfl ?_
        exact t_29 _ w24 hf
theorem dX11_greatestDivisor_0 : decode cX11_greatestDivisor 0 = .ok (.lload_n 0, 1) := by decide +kernel
theorem dX11_greatestDivisor_1 : decode cX11_greatestDivisor 1 = .ok (.lstore 4, 2) := by decide +kernel
theorem dX11_greatestDivisor_3 : decode cX11_greatestDivisor 3 = .ok (.lload_n 2, 1) := by decide +kernel
theorem dX11_greatestDivisor_4 : decode cX11_greatestDivisor 4 = .ok (.lstore 6, 2) := by decide +kernel
theorem dX11_greatestDivisor_6 : decode cX11_greatestDivisor 6 = .ok (.iconst 0, 1) := by decide +kernel
theorem dX11_greatestDivisor_7 : decode cX11_greatestDivisor 7 = .ok (.istore 8, 2) := by decide +kernel
theorem dX11_greatestDivisor_9 : decode cX11_greatestDivisor 9 = .ok (.iload 8, 2) := by decide +kernel
theorem dX11_greatestDivisor_11 : decode cX11_greatestDivisor 11 = .ok (.sipush 200, 3) := by decide +kernel
theorem dX11_greatestDivisor_14 : decode cX11_greatestDivisor 14 = .ok (.if_icmp .ge 31, 3) := by decide +kernel
theorem dX11_greatestDivisor_17 : decode cX11_greatestDivisor 17 = .ok (.lload 6, 2) := by decide +kernel
theorem dX11_greatestDivisor_19 : decode cX11_greatestDivisor 19 = .ok (.lconst 0, 1) := by decide +kernel
theorem dX11_greatestDivisor_20 : decode cX11_greatestDivisor 20 = .ok (.lcmp, 1) := by decide +kernel
theorem dX11_greatestDivisor_21 : decode cX11_greatestDivisor 21 = .ok (.ifCond .eq 24, 3) := by decide +kernel
theorem dX11_greatestDivisor_24 : decode cX11_greatestDivisor 24 = .ok (.lload 4, 2) := by decide +kernel
theorem dX11_greatestDivisor_26 : decode cX11_greatestDivisor 26 = .ok (.lload 6, 2) := by decide +kernel
theorem dX11_greatestDivisor_28 : decode cX11_greatestDivisor 28 = .ok (.lrem, 1) := by decide +kernel
theorem dX11_greatestDivisor_29 : decode cX11_greatestDivisor 29 = .ok (.lstore 9, 2) := by decide +kernel
theorem dX11_greatestDivisor_31 : decode cX11_greatestDivisor 31 = .ok (.lload 6, 2) := by decide +kernel
theorem dX11_greatestDivisor_33 : decode cX11_greatestDivisor 33 = .ok (.lstore 4, 2) := by decide +kernel
theorem dX11_greatestDivisor_35 : decode cX11_greatestDivisor 35 = .ok (.lload 9, 2) := by decide +kernel
theorem dX11_greatestDivisor_37 : decode cX11_greatestDivisor 37 = .ok (.lstore 6, 2) := by decide +kernel
theorem dX11_greatestDivisor_39 : decode cX11_greatestDivisor 39 = .ok (.iinc 8 1, 3) := by decide +kernel
theorem dX11_greatestDivisor_42 : decode cX11_greatestDivisor 42 = .ok (.goto (-33), 3) := by decide +kernel
theorem dX11_greatestDivisor_45 : decode cX11_greatestDivisor 45 = .ok (.lload 4, 2) := by decide +kernel
theorem dX11_greatestDivisor_47 : decode cX11_greatestDivisor 47 = .ok (.lreturn, 1) := by decide +kernel
set_option maxRecDepth 100000 in
set_option maxHeartbeats 4000000 in
theorem c_X11_greatestDivisor {g : Gv} {l : Launch} (p0 : Int64) (p2 : Int64) (w0 : Wd) (rz : Int64) (wz : Wd) (hf : f_X11_greatestDivisor p0 p2 w0 = some (rz, wz)) : ML g l yX11_greatestDivisor cX11_greatestDivisor 11 0 0 [.long p0, .long p2] w0 rz wz := by
  refine ml_of RX11 (by decide) rfl (Nat.le_of_ble_eq_true rfl) ?_
  intro X hg hll C hr h0
  subst hg; subst hll
  have t_45 : ∀ (v4 : Int64) (w : Wd), f_X11_greatestDivisor_45 v4 w = some (rz, wz) → Wk X 0 0 (QL X w0 rz wz) w [(4, .long v4)] 45 [] := by
    intro v4 w hf
    unfold f_X11_greatestDivisor_45 at hf
    refine k_lload C dX11_greatestDivisor_45 0 rfl 47 rfl ?_
    exact k_lret C hr h0 dX11_greatestDivisor_47 hf
  have t_9 : ∀ (n : Nat) (v4 : Int64) (v6 : Int64) (v8 : Int32) (w : Wd), f_X11_greatestDivisor_9 n v4 v6 v8 w = some (rz, wz) → Wk X 0 0 (QL X w0 rz wz) w [(4, .long v4), (6, .long v6), (8, .int v8)] 9 [] := by
    intro n
    induction n with
    | zero => intro v4 v6 v8 w hf; rw [f_X11_greatestDivisor_9] at hf; cases hf
    | succ n9 ih9 =>
      intro v4 v6 v8 w hf
      rw [f_X11_greatestDivisor_9] at hf
      refine k_iload C dX11_greatestDivisor_9 2 rfl 11 rfl ?_
      refine k_sipush C dX11_greatestDivisor_11 (200) (by decide) 14 rfl ?_
      refine k_icmp_ge C dX11_greatestDivisor_14 hf 45 rfl 17 rfl (fun hf => ?_) (fun hf => ?_)
      · refine k_sub [0] rfl ?_
        exact t_45 _ w hf
      · refine k_lload C dX11_greatestDivisor_17 1 rfl 19 rfl ?_
        refine k_lconst C dX11_greatestDivisor_19 (0) (by decide) 20 rfl ?_
        refine k_lcmp C dX11_greatestDivisor_20 21 rfl ?_
        refine k_if_eq C dX11_greatestDivisor_21 hf 45 rfl 24 rfl (fun hf => ?_) (fun hf => ?_)
        · refine k_sub [0] rfl ?_
          exact t_45 _ w hf
        · refine k_lload C dX11_greatestDivisor_24 0 rfl 26 rfl ?_
          refine k_lload C dX11_greatestDivisor_26 1 rfl 28 rfl ?_
          obtain ⟨h028, hf⟩ := nzL_s hf
          refine k_lrem C dX11_greatestDivisor_28 h028 29 rfl ?_
          refine k_nml hf (fun x2 hf => ?_)
          refine k_lstore C dX11_greatestDivisor_29 (by decide) [(9, .long x2), (4, .long v4), (6, .long v6), (8, .int v8)] rfl 31 rfl ?_
          refine k_lload C dX11_greatestDivisor_31 2 rfl 33 rfl ?_
          refine k_lstore C dX11_greatestDivisor_33 (by decide) [(4, .long v6), (9, .long x2), (6, .long v6), (8, .int v8)] rfl 35 rfl ?_
          refine k_lload C dX11_greatestDivisor_35 1 rfl 37 rfl ?_
          refine k_lstore C dX11_greatestDivisor_37 (by decide) [(6, .long x2), (4, .long v6), (9, .long x2), (8, .int v8)] rfl 39 rfl ?_
          refine k_iinc C dX11_greatestDivisor_39 3 rfl (by decide) (by decide) [(8, .int (v8 + (1 : Int32))), (6, .long x2), (4, .long v6), (9, .long x2)] rfl 42 rfl ?_
          refine k_goto C dX11_greatestDivisor_42 9 rfl ?_
          refine k_sub [2, 1, 0] rfl ?_
          exact ih9 _ _ _ w hf
  unfold f_X11_greatestDivisor at hf
  refine k_sub (lv2 := [(0, .long p0), (2, .long p2)]) [0, 1] rfl ?_
  refine k_lload_n C dX11_greatestDivisor_0 0 rfl 1 rfl ?_
  refine k_lstore C dX11_greatestDivisor_1 (by decide) [(4, .long p0), (0, .long p0), (2, .long p2)] rfl 3 rfl ?_
  refine k_lload_n C dX11_greatestDivisor_3 2 rfl 4 rfl ?_
  refine k_lstore C dX11_greatestDivisor_4 (by decide) [(6, .long p2), (4, .long p0), (0, .long p0), (2, .long p2)] rfl 6 rfl ?_
  refine k_iconst C dX11_greatestDivisor_6 (0) (by decide) 7 rfl ?_
  refine k_istore C dX11_greatestDivisor_7 (by decide) [(8, .int (0 : Int32)), (6, .long p2), (4, .long p0), (0, .long p0), (2, .long p2)] rfl 9 rfl ?_
  refine k_sub [2, 1, 0] rfl ?_
  exact t_9 4096 _ _ _ w0 hf
