/-! AgingLettersModel.costBy(III)I -/
theorem dX7_costBy_0 : decode cX7_costBy 0 = .ok (.aload_n 0, 1) := by decide +kernel
theorem dX7_costBy_1 : decode cX7_costBy 1 = .ok (.iload_n 2, 1) := by decide +kernel
theorem dX7_costBy_2 : decode cX7_costBy 2 = .ok (.invokevirtual 107, 3) := by decide +kernel
theorem dX7_costBy_5 : decode cX7_costBy 5 = .ok (.iload_n 3, 1) := by decide +kernel
theorem dX7_costBy_6 : decode cX7_costBy 6 = .ok (.invokestatic 110, 3) := by decide +kernel
theorem dX7_costBy_9 : decode cX7_costBy 9 = .ok (.istore 4, 2) := by decide +kernel
theorem dX7_costBy_11 : decode cX7_costBy 11 = .ok (.aload_n 0, 1) := by decide +kernel
theorem dX7_costBy_12 : decode cX7_costBy 12 = .ok (.iload_n 2, 1) := by decide +kernel
theorem dX7_costBy_13 : decode cX7_costBy 13 = .ok (.iload_n 1, 1) := by decide +kernel
theorem dX7_costBy_14 : decode cX7_costBy 14 = .ok (.invokevirtual 101, 3) := by decide +kernel
theorem dX7_costBy_17 : decode cX7_costBy 17 = .ok (.ifCond .le 12, 3) := by decide +kernel
theorem dX7_costBy_20 : decode cX7_costBy 20 = .ok (.iload 4, 2) := by decide +kernel
theorem dX7_costBy_22 : decode cX7_costBy 22 = .ok (.iconst 2, 1) := by decide +kernel
theorem dX7_costBy_23 : decode cX7_costBy 23 = .ok (.invokestatic 104, 3) := by decide +kernel
theorem dX7_costBy_26 : decode cX7_costBy 26 = .ok (.goto 5, 3) := by decide +kernel
theorem dX7_costBy_29 : decode cX7_costBy 29 = .ok (.iload 4, 2) := by decide +kernel
theorem dX7_costBy_31 : decode cX7_costBy 31 = .ok (.ireturn, 1) := by decide +kernel
set_option maxRecDepth 100000 in
set_option maxHeartbeats 4000000 in
theorem con_X7_costBy (G : Gt) (o : Nat) (a1 : Int32) (a2 : Int32) (a3 : Int32) (ho : kd o = 7) (mem : Mem) : Con tvI G yX7_costBy cX7_costBy 5 (some .int) 3 [.ref (gA G o), .int a1, .int a2, .int a3] mem (X7_costBy o a1 a2 a3 mem) := by
  refine con_of (by decide) (Nat.le_of_ble_eq_true rfl) ?_
  show EvR tvI G cX7_costBy 5 (some .int) RX7 3 0 [(0, .ref (gA G o)), (1, .int (a1)), (2, .int (a2)), (3, .int (a3))] [] mem _
  unfold X7_costBy
  refine ev_aload_n (q := 1) dX7_costBy_0 rfl 0 rfl rfl ?_
  refine ev_iload_n (q := 2) dX7_costBy_1 rfl 2 rfl rfl ?_
  refine ev_callVI (q := 5) dX7_costBy_2 rfl ml_X7_107 mt_X7_sort cf_7 rfl ho hc_7 (con_X7_sort G _ _ ho _) rfl (Nat.le_of_ble_eq_true rfl) (Nat.le_of_ble_eq_true rfl) rfl (Nat.le_of_ble_eq_true rfl) (fun r1 m2 => ?_)
  refine ev_iload_n (q := 6) dX7_costBy_5 rfl 3 rfl rfl ?_
  refine ev_callSI (q := 9) dX7_costBy_6 rfl ml_X7_110 mt_X7_firstCost (con_X7_firstCost G _ _  _) rfl (Nat.le_of_ble_eq_true rfl) (Nat.le_of_ble_eq_true rfl) rfl (Nat.le_of_ble_eq_true rfl) (fun r3 m4 => ?_)
  refine ev_istore (q := 11) (lv2 := [(4, .int _), (0, .ref _), (1, .int _), (2, .int _), (3, .int _)]) dX7_costBy_9 rfl (Nat.le_of_ble_eq_true rfl) rfl ?_
  refine ev_aload_n (q := 12) dX7_costBy_11 rfl 1 rfl rfl ?_
  refine ev_iload_n (q := 13) dX7_costBy_12 rfl 3 rfl rfl ?_
  refine ev_iload_n (q := 14) dX7_costBy_13 rfl 2 rfl rfl ?_
  refine ev_callVI (q := 17) dX7_costBy_14 rfl ml_X7_101 mt_X7_readBy cf_7 rfl ho hc_7 (con_X7_readBy G _ _ _ ho _) rfl (Nat.le_of_ble_eq_true rfl) (Nat.le_of_ble_eq_true rfl) rfl (Nat.le_of_ble_eq_true rfl) (fun r5 m6 => ?_)
  refine ev_if_le (t := 29) (q := 20) dX7_costBy_17 rfl rfl (fun hc7 => ?_) (fun hc7 => ?_)
  · refine ev_iload (q := 22) dX7_costBy_20 0 rfl rfl ?_
    refine ev_iconst (q := 23) (v := 2) dX7_costBy_22 rfl li_2 ?_
    refine ev_callSI (q := 26) dX7_costBy_23 rfl ml_X7_104 mt_X7_upwards (con_X7_upwards G _ _  _) rfl (Nat.le_of_ble_eq_true rfl) (Nat.le_of_ble_eq_true rfl) rfl (Nat.le_of_ble_eq_true rfl) (fun r8 m9 => ?_)
    refine ev_goto (t := 31) dX7_costBy_26 rfl ?_
    exact ev_iret dX7_costBy_31 rfl
  · refine ev_iload (q := 31) dX7_costBy_29 0 rfl rfl ?_
    exact ev_iret dX7_costBy_31 rfl
/-! AgingLettersModel.cost(II)I -/
theorem dX7_cost_0 : decode cX7_cost 0 = .ok (.aload_n 0, 1) := by decide +kernel
theorem dX7_cost_1 : decode cX7_cost 1 = .ok (.iload_n 1, 1) := by decide +kernel
theorem dX7_cost_2 : decode cX7_cost 2 = .ok (.iload_n 2, 1) := by decide +kernel
theorem dX7_cost_3 : decode cX7_cost 3 = .ok (.aload_n 0, 1) := by decide +kernel
theorem dX7_cost_4 : decode cX7_cost 4 = .ok (.getfield 22, 3) := by decide +kernel
theorem dX7_cost_7 : decode cX7_cost 7 = .ok (.bipush 11, 2) := by decide +kernel
theorem dX7_cost_9 : decode cX7_cost 9 = .ok (.iload_n 2, 1) := by decide +kernel
theorem dX7_cost_10 : decode cX7_cost 10 = .ok (.iadd, 1) := by decide +kernel
theorem dX7_cost_11 : decode cX7_cost 11 = .ok (.iaload, 1) := by decide +kernel
theorem dX7_cost_12 : decode cX7_cost 12 = .ok (.invokevirtual 113, 3) := by decide +kernel
theorem dX7_cost_15 : decode cX7_cost 15 = .ok (.ireturn, 1) := by decide +kernel
set_option maxRecDepth 100000 in
set_option maxHeartbeats 4000000 in
theorem con_X7_cost (G : Gt) (o : Nat) (a1 : Int32) (a2 : Int32) (ho : kd o = 7) (mem : Mem) : Con tvI G yX7_cost cX7_cost 3 (some .int) 4 [.ref (gA G o), .int a1, .int a2] mem (X7_cost o a1 a2 mem) := by
  refine con_of (by decide) (Nat.le_of_ble_eq_true rfl) ?_
  show EvR tvI G cX7_cost 3 (some .int) RX7 4 0 [(0, .ref (gA G o)), (1, .int (a1)), (2, .int (a2))] [] mem _
  unfold X7_cost
  refine ev_aload_n (q := 1) dX7_cost_0 rfl 0 rfl rfl ?_
  refine ev_iload_n (q := 2) dX7_cost_1 rfl 1 rfl rfl ?_
  refine ev_iload_n (q := 3) dX7_cost_2 rfl 2 rfl rfl ?_
  refine ev_aload_n (q := 4) dX7_cost_3 rfl 0 rfl rfl ?_
  refine ev_getR (q := 7) (ci := 7) (j := 5) (T := TX7) dX7_cost_4 rfl cf_7 ho hj_7_5 hc_7 gf_X7_22 rfl ?_
  refine ev_bipush (q := 9) (v := 11) dX7_cost_7 rfl lb_11 ?_
  refine ev_iload_n (q := 10) dX7_cost_9 rfl 2 rfl rfl ?_
  refine ev_iadd (q := 11) dX7_cost_10 rfl ?_
  refine ev_iald (q := 12) dX7_cost_11 rfl (kr_7_5 ho) (fun z1 => ?_)
  refine ev_callVI (q := 15) dX7_cost_12 rfl ml_X7_113 mt_X7_costBy cf_7 rfl ho hc_7 (con_X7_costBy G _ _ _ _ ho _) rfl (Nat.le_of_ble_eq_true rfl) (Nat.le_of_ble_eq_true rfl) rfl (Nat.le_of_ble_eq_true rfl) (fun r2 m3 => ?_)
  exact ev_iret dX7_cost_15 rfl
/-! AgingLettersModel.feed(I)I -/
theorem dX7_feed_0 : decode cX7_feed 0 = .ok (.iload_n 1, 1) := by decide +kernel
theorem dX7_feed_1 : decode cX7_feed 1 = .ok (.i2l, 1) := by decide +kernel
theorem dX7_feed_2 : decode cX7_feed 2 = .ok (.lconst 0, 1) := by decide +kernel
theorem dX7_feed_3 : decode cX7_feed 3 = .ok (.ldc2_w 117, 3) := by decide +kernel
theorem dX7_feed_6 : decode cX7_feed 6 = .ok (.invokestatic 63, 3) := by decide +kernel
theorem dX7_feed_9 : decode cX7_feed 9 = .ok (.ifCond .ne 6, 3) := by decide +kernel
theorem dX7_feed_12 : decode cX7_feed 12 = .ok (.ldc 73, 2) := by decide +kernel
theorem dX7_feed_14 : decode cX7_feed 14 = .ok (.ireturn, 1) := by decide +kernel
theorem dX7_feed_15 : decode cX7_feed 15 = .ok (.aload_n 0, 1) := by decide +kernel
theorem dX7_feed_16 : decode cX7_feed 16 = .ok (.getfield 119, 3) := by decide +kernel
theorem dX7_feed_19 : decode cX7_feed 19 = .ok (.bipush 120, 2) := by decide +kernel
theorem dX7_feed_21 : decode cX7_feed 21 = .ok (.if_icmp .ne 6, 3) := by decide +kernel
theorem dX7_feed_24 : decode cX7_feed 24 = .ok (.ldc 122, 2) := by decide +kernel
theorem dX7_feed_26 : decode cX7_feed 26 = .ok (.ireturn, 1) := by decide +kernel
theorem dX7_feed_27 : decode cX7_feed 27 = .ok (.aload_n 0, 1) := by decide +kernel
theorem dX7_feed_28 : decode cX7_feed 28 = .ok (.getfield 25, 3) := by decide +kernel
theorem dX7_feed_31 : decode cX7_feed 31 = .ok (.aload_n 0, 1) := by decide +kernel
theorem dX7_feed_32 : decode cX7_feed 32 = .ok (.getfield 119, 3) := by decide +kernel
theorem dX7_feed_35 : decode cX7_feed 35 = .ok (.iload_n 1, 1) := by decide +kernel
theorem dX7_feed_36 : decode cX7_feed 36 = .ok (.iastore, 1) := by decide +kernel
theorem dX7_feed_37 : decode cX7_feed 37 = .ok (.aload_n 0, 1) := by decide +kernel
theorem dX7_feed_38 : decode cX7_feed 38 = .ok (.dup, 1) := by decide +kernel
theorem dX7_feed_39 : decode cX7_feed 39 = .ok (.getfield 119, 3) := by decide +kernel
theorem dX7_feed_42 : decode cX7_feed 42 = .ok (.iconst 1, 1) := by decide +kernel
theorem dX7_feed_43 : decode cX7_feed 43 = .ok (.iadd, 1) := by decide +kernel
theorem dX7_feed_44 : decode cX7_feed 44 = .ok (.putfield 119, 3) := by decide +kernel
theorem dX7_feed_47 : decode cX7_feed 47 = .ok (.aload_n 0, 1) := by decide +kernel
theorem dX7_feed_48 : decode cX7_feed 48 = .ok (.getfield 119, 3) := by decide +kernel
theorem dX7_feed_51 : decode cX7_feed 51 = .ok (.ireturn, 1) := by decide +kernel
set_option maxRecDepth 100000 in
set_option maxHeartbeats 4000000 in
theorem con_X7_feed (G : Gt) (o : Nat) (a1 : Int32) (ho : kd o = 7) (mem : Mem) : Con tvI G yX7_feed cX7_feed 2 (some .int) 2 [.ref (gA G o), .int a1] mem (X7_feed o a1 mem) := by
  refine con_of (by decide) (Nat.le_of_ble_eq_true rfl) ?_
  show EvR tvI G cX7_feed 2 (some .int) RX7 2 0 [(0, .ref (gA G o)), (1, .int (a1))] [] mem _
  unfold X7_feed
  refine ev_iload_n (q := 1) dX7_feed_0 rfl 1 rfl rfl ?_
  refine ev_i2l (q := 2) dX7_feed_1 rfl ?_
  refine ev_lconst (q := 3) (v := 0) dX7_feed_2 rfl ll_0 ?_
  refine ev_ldc2 (q := 6) (v := 255) dX7_feed_3 rfl kc_X7_117 ?_
  refine ev_callSI (q := 9) dX7_feed_6 rfl ml_X7_63 mt_X7_in (con_X7_in G _ _ _  _) rfl (Nat.le_of_ble_eq_true rfl) (Nat.le_of_ble_eq_true rfl) rfl (Nat.le_of_ble_eq_true rfl) (fun r1 m2 => ?_)
  refine ev_if_ne (t := 15) (q := 12) dX7_feed_9 rfl rfl (fun hc3 => ?_) (fun hc3 => ?_)
  · refine ev_ldc (q := 14) (v := (-1000001)) dX7_feed_12 rfl kc_X7_73 ?_
    exact ev_iret dX7_feed_14 rfl
  · refine ev_aload_n (q := 16) dX7_feed_15 rfl 0 rfl rfl ?_
    refine ev_getI (q := 19) (ci := 7) (j := 7) (T := TX7) dX7_feed_16 rfl cf_7 ho hj_7_7 hc_7 gf_X7_119 rfl ?_
    refine ev_bipush (q := 21) (v := 120) dX7_feed_19 rfl lb_120 ?_
    refine ev_icmp_ne (t := 27) (q := 24) dX7_feed_21 rfl rfl (fun hc4 => ?_) (fun hc4 => ?_)
    · refine ev_ldc (q := 26) (v := (-1000003)) dX7_feed_24 rfl kc_X7_122 ?_
      exact ev_iret dX7_feed_26 rfl
    · refine ev_aload_n (q := 28) dX7_feed_27 rfl 0 rfl rfl ?_
      refine ev_getR (q := 31) (ci := 7) (j := 6) (T := TX7) dX7_feed_28 rfl cf_7 ho hj_7_6 hc_7 gf_X7_25 rfl ?_
      refine ev_aload_n (q := 32) dX7_feed_31 rfl 0 rfl rfl ?_
      refine ev_getI (q := 35) (ci := 7) (j := 7) (T := TX7) dX7_feed_32 rfl cf_7 ho hj_7_7 hc_7 gf_X7_119 rfl ?_
      refine ev_iload_n (q := 36) dX7_feed_35 rfl 1 rfl rfl ?_
      refine ev_iast (q := 37) dX7_feed_36 rfl (kr_7_6 ho) (fun m5 => ?_)
      refine ev_aload_n (q := 38) dX7_feed_37 rfl 0 rfl rfl ?_
      refine ev_dup (q := 39) dX7_feed_38 rfl rfl ?_
      refine ev_getI (q := 42) (ci := 7) (j := 7) (T := TX7) dX7_feed_39 rfl cf_7 ho hj_7_7 hc_7 gf_X7_119 rfl ?_
      refine ev_iconst (q := 43) (v := 1) dX7_feed_42 rfl li_1 ?_
      refine ev_iadd (q := 44) dX7_feed_43 rfl ?_
      refine ev_putI (q := 47) (ci := 7) (j := 7) (T := TX7) dX7_feed_44 rfl cf_7 ho hj_7_7 hc_7 gf_X7_119 rfl rfl (tyX7_ok 7 hj_7_7) ?_
      refine ev_aload_n (q := 48) dX7_feed_47 rfl 0 rfl rfl ?_
      refine ev_getI (q := 51) (ci := 7) (j := 7) (T := TX7) dX7_feed_48 rfl cf_7 ho hj_7_7 hc_7 gf_X7_119 rfl ?_
      exact ev_iret dX7_feed_51 rfl
/-! AgingLettersModel.here()I -/
theorem dX7_here_0 : decode cX7_here 0 = .ok (.aload_n 0, 1) := by decide +kernel
theorem dX7_here_1 : decode cX7_here 1 = .ok (.getfield 123, 3) := by decide +kernel
theorem dX7_here_4 : decode cX7_here 4 = .ok (.aload_n 0, 1) := by decide +kernel
theorem dX7_here_5 : decode cX7_here 5 = .ok (.getfield 119, 3) := by decide +kernel
theorem dX7_here_8 : decode cX7_here 8 = .ok (.if_icmp .ge 15, 3) := by decide +kernel
theorem dX7_here_11 : decode cX7_here 11 = .ok (.aload_n 0, 1) := by decide +kernel
theorem dX7_here_12 : decode cX7_here 12 = .ok (.getfield 25, 3) := by decide +kernel
theorem dX7_here_15 : decode cX7_here 15 = .ok (.aload_n 0, 1) := by decide +kernel
theorem dX7_here_16 : decode cX7_here 16 = .ok (.getfield 123, 3) := by decide +kernel
theorem dX7_here_19 : decode cX7_here 19 = .ok (.iaload, 1) := by decide +kernel
theorem dX7_here_20 : decode cX7_here 20 = .ok (.goto 4, 3) := by decide +kernel
theorem dX7_here_23 : decode cX7_here 23 = .ok (.iconst (-1), 1) := by decide +kernel
theorem dX7_here_24 : decode cX7_here 24 = .ok (.ireturn, 1) := by decide +kernel
set_option maxRecDepth 100000 in
set_option maxHeartbeats 4000000 in
theorem con_X7_here (G : Gt) (o : Nat) (ho : kd o = 7) (mem : Mem) : Con tvI G yX7_here cX7_here 1 (some .int) 1 [.ref (gA G o)] mem (X7_here o mem) := by
  refine con_of (by decide) (Nat.le_of_ble_eq_true rfl) ?_
  show EvR tvI G cX7_here 1 (some .int) RX7 1 0 [(0, .ref (gA G o))] [] mem _
  unfold X7_here
  refine ev_aload_n (q := 1) dX7_here_0 rfl 0 rfl rfl ?_
  refine ev_getI (q := 4) (ci := 7) (j := 9) (T := TX7) dX7_here_1 rfl cf_7 ho hj_7_9 hc_7 gf_X7_123 rfl ?_
  refine ev_aload_n (q := 5) dX7_here_4 rfl 0 rfl rfl ?_
  refine ev_getI (q := 8) (ci := 7) (j := 7) (T := TX7) dX7_here_5 rfl cf_7 ho hj_7_7 hc_7 gf_X7_119 rfl ?_
  refine ev_icmp_ge (t := 23) (q := 11) dX7_here_8 rfl rfl (fun hc1 => ?_) (fun hc1 => ?_)
  · refine ev_aload_n (q := 12) dX7_here_11 rfl 0 rfl rfl ?_
    refine ev_getR (q := 15) (ci := 7) (j := 6) (T := TX7) dX7_here_12 rfl cf_7 ho hj_7_6 hc_7 gf_X7_25 rfl ?_
    refine ev_aload_n (q := 16) dX7_here_15 rfl 0 rfl rfl ?_
    refine ev_getI (q := 19) (ci := 7) (j := 9) (T := TX7) dX7_here_16 rfl cf_7 ho hj_7_9 hc_7 gf_X7_123 rfl ?_
    refine ev_iald (q := 20) dX7_here_19 rfl (kr_7_6 ho) (fun z2 => ?_)
    refine ev_goto (t := 24) dX7_here_20 rfl ?_
    exact ev_iret dX7_here_24 rfl
  · refine ev_iconst (q := 24) (v := (-1)) dX7_here_23 rfl li_m1 ?_
    exact ev_iret dX7_here_24 rfl
/-! AgingLettersModel.fails(II)Z -/
theorem dX7_fails_0 : decode cX7_fails 0 = .ok (.aload_n 0, 1) := by decide +kernel
theorem dX7_fails_1 : decode cX7_fails 1 = .ok (.iload_n 1, 1) := by decide +kernel
theorem dX7_fails_2 : decode cX7_fails 2 = .ok (.putfield 126, 3) := by decide +kernel
theorem dX7_fails_5 : decode cX7_fails 5 = .ok (.aload_n 0, 1) := by decide +kernel
theorem dX7_fails_6 : decode cX7_fails 6 = .ok (.iload_n 2, 1) := by decide +kernel
theorem dX7_fails_7 : decode cX7_fails 7 = .ok (.putfield 129, 3) := by decide +kernel
theorem dX7_fails_10 : decode cX7_fails 10 = .ok (.iconst 0, 1) := by decide +kernel
theorem dX7_fails_11 : decode cX7_fails 11 = .ok (.ireturn, 1) := by decide +kernel
set_option maxRecDepth 100000 in
set_option maxHeartbeats 4000000 in
theorem con_X7_fails (G : Gt) (o : Nat) (a1 : Int32) (a2 : Int32) (ho : kd o = 7) (mem : Mem) : Con tvI G yX7_fails cX7_fails 3 (some .boolean) 1 [.ref (gA G o), .int a1, .int a2] mem (X7_fails o a1 a2 mem) := by
  refine con_of (by decide) (Nat.le_of_ble_eq_true rfl) ?_
  show EvR tvI G cX7_fails 3 (some .boolean) RX7 1 0 [(0, .ref (gA G o)), (1, .int (a1)), (2, .int (a2))] [] mem _
  unfold X7_fails
  refine ev_aload_n (q := 1) dX7_fails_0 rfl 0 rfl rfl ?_
  refine ev_iload_n (q := 2) dX7_fails_1 rfl 1 rfl rfl ?_
  refine ev_putI (q := 5) (ci := 7) (j := 8) (T := TX7) dX7_fails_2 rfl cf_7 ho hj_7_8 hc_7 gf_X7_126 rfl rfl (tyX7_ok 8 hj_7_8) ?_
  refine ev_aload_n (q := 6) dX7_fails_5 rfl 0 rfl rfl ?_
  refine ev_iload_n (q := 7) dX7_fails_6 rfl 2 rfl rfl ?_
  refine ev_putI (q := 10) (ci := 7) (j := 10) (T := TX7) dX7_fails_7 rfl cf_7 ho hj_7_10 hc_7 gf_X7_129 rfl rfl (tyX7_ok 10 hj_7_10) ?_
  refine ev_iconst (q := 11) (v := 0) dX7_fails_10 rfl li_0 ?_
  exact ev_zret dX7_fails_11 rfl
/-! AgingLettersModel.sign(I)Z -/
theorem dX7_sign_0 : decode cX7_sign 0 = .ok (.aload_n 0, 1) := by decide +kernel
theorem dX7_sign_1 : decode cX7_sign 1 = .ok (.invokevirtual 132, 3) := by decide +kernel
theorem dX7_sign_4 : decode cX7_sign 4 = .ok (.iload_n 1, 1) := by decide +kernel
theorem dX7_sign_5 : decode cX7_sign 5 = .ok (.if_icmp .eq 13, 3) := by decide +kernel
theorem dX7_sign_8 : decode cX7_sign 8 = .ok (.aload_n 0, 1) := by decide +kernel
theorem dX7_sign_9 : decode cX7_sign 9 = .ok (.iconst 1, 1) := by decide +kernel
theorem dX7_sign_10 : decode cX7_sign 10 = .ok (.aload_n 0, 1) := by decide +kernel
theorem dX7_sign_11 : decode cX7_sign 11 = .ok (.getfield 123, 3) := by decide +kernel
theorem dX7_sign_14 : decode cX7_sign 14 = .ok (.invokevirtual 135, 3) := by decide +kernel
theorem dX7_sign_17 : decode cX7_sign 17 = .ok (.ireturn, 1) := by decide +kernel
theorem dX7_sign_18 : decode cX7_sign 18 = .ok (.aload_n 0, 1) := by decide +kernel
theorem dX7_sign_19 : decode cX7_sign 19 = .ok (.dup, 1) := by decide +kernel
theorem dX7_sign_20 : decode cX7_sign 20 = .ok (.getfield 123, 3) := by decide +kernel
theorem dX7_sign_23 : decode cX7_sign 23 = .ok (.iconst 1, 1) := by decide +kernel
theorem dX7_sign_24 : decode cX7_sign 24 = .ok (.iadd, 1) := by decide +kernel
theorem dX7_sign_25 : decode cX7_sign 25 = .ok (.putfield 123, 3) := by decide +kernel
theorem dX7_sign_28 : decode cX7_sign 28 = .ok (.iconst 1, 1) := by decide +kernel
theorem dX7_sign_29 : decode cX7_sign 29 = .ok (.ireturn, 1) := by decide +kernel
set_option maxRecDepth 100000 in
set_option maxHeartbeats 4000000 in
theorem con_X7_sign (G : Gt) (o : Nat) (a1 : Int32) (ho : kd o = 7) (mem : Mem) : Con tvI G yX7_sign cX7_sign 2 (some .boolean) 2 [.ref (gA G o), .int a1] mem (X7_sign o a1 mem) := by
  refine con_of (by decide) (Nat.le_of_ble_eq_true rfl) ?_
  show EvR tvI G cX7_sign 2 (some .boolean) RX7 2 0 [(0, .ref (gA G o)), (1, .int (a1))] [] mem _
  unfold X7_sign
  refine ev_aload_n (q := 1) dX7_sign_0 rfl 0 rfl rfl ?_
  refine ev_callVI (q := 4) dX7_sign_1 rfl ml_X7_132 mt_X7_here cf_7 rfl ho hc_7 (con_X7_here G _ ho _) rfl (Nat.le_of_ble_eq_true rfl) (Nat.le_of_ble_eq_true rfl) rfl (Nat.le_of_ble_eq_true rfl) (fun r1 m2 => ?_)
  refine ev_iload_n (q := 5) dX7_sign_4 rfl 1 rfl rfl ?_
  refine ev_icmp_eq (t := 18) (q := 8) dX7_sign_5 rfl rfl (fun hc3 => ?_) (fun hc3 => ?_)
  · refine ev_aload_n (q := 19) dX7_sign_18 rfl 0 rfl rfl ?_
    refine ev_dup (q := 20) dX7_sign_19 rfl rfl ?_
    refine ev_getI (q := 23) (ci := 7) (j := 9) (T := TX7) dX7_sign_20 rfl cf_7 ho hj_7_9 hc_7 gf_X7_123 rfl ?_
    refine ev_iconst (q := 24) (v := 1) dX7_sign_23 rfl li_1 ?_
    refine ev_iadd (q := 25) dX7_sign_24 rfl ?_
    refine ev_putI (q := 28) (ci := 7) (j := 9) (T := TX7) dX7_sign_25 rfl cf_7 ho hj_7_9 hc_7 gf_X7_123 rfl rfl (tyX7_ok 9 hj_7_9) ?_
    refine ev_iconst (q := 29) (v := 1) dX7_sign_28 rfl li_1 ?_
    exact ev_zret dX7_sign_29 rfl
  · refine ev_aload_n (q := 9) dX7_sign_8 rfl 0 rfl rfl ?_
    refine ev_iconst (q := 10) (v := 1) dX7_sign_9 rfl li_1 ?_
    refine ev_aload_n (q := 11) dX7_sign_10 rfl 0 rfl rfl ?_
    refine ev_getI (q := 14) (ci := 7) (j := 9) (T := TX7) dX7_sign_11 rfl cf_7 ho hj_7_9 hc_7 gf_X7_123 rfl ?_
    refine ev_callVI (q := 17) dX7_sign_14 rfl ml_X7_135 mt_X7_fails cf_7 rfl ho hc_7 (con_X7_fails G _ _ _ ho _) rfl (Nat.le_of_ble_eq_true rfl) (Nat.le_of_ble_eq_true rfl) rfl (Nat.le_of_ble_eq_true rfl) (fun r5 m6 => ?_)
    exact ev_zret dX7_sign_17 rfl
/-! AgingLettersModel.takeNumber(II)Z -/
theorem dX7_takeNumber_0 : decode cX7_takeNumber 0 = .ok (.aload_n 0, 1) := by decide +kernel
theorem dX7_takeNumber_1 : decode cX7_takeNumber 1 = .ok (.getfield 123, 3) := by decide +kernel
theorem dX7_takeNumber_4 : decode cX7_takeNumber 4 = .ok (.istore_n 3, 1) := by decide +kernel
theorem dX7_takeNumber_5 : decode cX7_takeNumber 5 = .ok (.aload_n 0, 1) := by decide +kernel
theorem dX7_takeNumber_6 : decode cX7_takeNumber 6 = .ok (.iconst 0, 1) := by decide +kernel
theorem dX7_takeNumber_7 : decode cX7_takeNumber 7 = .ok (.putfield 139, 3) := by decide +kernel
theorem dX7_takeNumber_10 : decode cX7_takeNumber 10 = .ok (.aload_n 0, 1) := by decide +kernel
theorem dX7_takeNumber_11 : decode cX7_takeNumber 11 = .ok (.invokevirtual 132, 3) := by decide +kernel
theorem dX7_takeNumber_14 : decode cX7_takeNumber 14 = .ok (.i2l, 1) := by decide +kernel
theorem dX7_takeNumber_15 : decode cX7_takeNumber 15 = .ok (.ldc2_w 142, 3) := by decide +kernel
theorem dX7_takeNumber_18 : decode cX7_takeNumber 18 = .ok (.ldc2_w 144, 3) := by decide +kernel
theorem dX7_takeNumber_21 : decode cX7_takeNumber 21 = .ok (.invokestatic 63, 3) := by decide +kernel
theorem dX7_takeNumber_24 : decode cX7_takeNumber 24 = .ok (.ifCond .eq 52, 3) := by decide +kernel
theorem dX7_takeNumber_27 : decode cX7_takeNumber 27 = .ok (.aload_n 0, 1) := by decide +kernel
theorem dX7_takeNumber_28 : decode cX7_takeNumber 28 = .ok (.aload_n 0, 1) := by decide +kernel
theorem dX7_takeNumber_29 : decode cX7_takeNumber 29 = .ok (.getfield 139, 3) := by decide +kernel
theorem dX7_takeNumber_32 : decode cX7_takeNumber 32 = .ok (.sipush 1000, 3) := by decide +kernel
theorem dX7_takeNumber_35 : decode cX7_takeNumber 35 = .ok (.if_icmp .le 10, 3) := by decide +kernel
theorem dX7_takeNumber_38 : decode cX7_takeNumber 38 = .ok (.aload_n 0, 1) := by decide +kernel
theorem dX7_takeNumber_39 : decode cX7_takeNumber 39 = .ok (.getfield 139, 3) := by decide +kernel
theorem dX7_takeNumber_42 : decode cX7_takeNumber 42 = .ok (.goto 18, 3) := by decide +kernel
theorem dX7_takeNumber_45 : decode cX7_takeNumber 45 = .ok (.bipush 10, 2) := by decide +kernel
theorem dX7_takeNumber_47 : decode cX7_takeNumber 47 = .ok (.aload_n 0, 1) := by decide +kernel
theorem dX7_takeNumber_48 : decode cX7_takeNumber 48 = .ok (.getfield 139, 3) := by decide +kernel
theorem dX7_takeNumber_51 : decode cX7_takeNumber 51 = .ok (.imul, 1) := by decide +kernel
theorem dX7_takeNumber_52 : decode cX7_takeNumber 52 = .ok (.aload_n 0, 1) := by decide +kernel
theorem dX7_takeNumber_53 : decode cX7_takeNumber 53 = .ok (.invokevirtual 132, 3) := by decide +kernel
theorem dX7_takeNumber_56 : decode cX7_takeNumber 56 = .ok (.iadd, 1) := by decide +kernel
theorem dX7_takeNumber_57 : decode cX7_takeNumber 57 = .ok (.bipush 48, 2) := by decide +kernel
theorem dX7_takeNumber_59 : decode cX7_takeNumber 59 = .ok (.isub, 1) := by decide +kernel
theorem dX7_takeNumber_60 : decode cX7_takeNumber 60 = .ok (.putfield 139, 3) := by decide +kernel
theorem dX7_takeNumber_63 : decode cX7_takeNumber 63 = .ok (.aload_n 0, 1) := by decide +kernel
theorem dX7_takeNumber_64 : decode cX7_takeNumber 64 = .ok (.dup, 1) := by decide +kernel
theorem dX7_takeNumber_65 : decode cX7_takeNumber 65 = .ok (.getfield 123, 3) := by decide +kernel
theorem dX7_takeNumber_68 : decode cX7_takeNumber 68 = .ok (.iconst 1, 1) := by decide +kernel
theorem dX7_takeNumber_69 : decode cX7_takeNumber 69 = .ok (.iadd, 1) := by decide +kernel
theorem dX7_takeNumber_70 : decode cX7_takeNumber 70 = .ok (.putfield 123, 3) := by decide +kernel
theorem dX7_takeNumber_73 : decode cX7_takeNumber 73 = .ok (.goto (-63), 3) := by decide +kernel
theorem dX7_takeNumber_76 : decode cX7_takeNumber 76 = .ok (.aload_n 0, 1) := by decide +kernel
theorem dX7_takeNumber_77 : decode cX7_takeNumber 77 = .ok (.getfield 123, 3) := by decide +kernel
theorem dX7_takeNumber_80 : decode cX7_takeNumber 80 = .ok (.iload_n 3, 1) := by decide +kernel
theorem dX7_takeNumber_81 : decode cX7_takeNumber 81 = .ok (.if_icmp .eq 13, 3) := by decide +kernel
theorem dX7_takeNumber_84 : decode cX7_takeNumber 84 = .ok (.aload_n 0, 1) := by decide +kernel
theorem dX7_takeNumber_85 : decode cX7_takeNumber 85 = .ok (.getfield 123, 3) := by decide +kernel
theorem dX7_takeNumber_88 : decode cX7_takeNumber 88 = .ok (.iload_n 3, 1) := by decide +kernel
theorem dX7_takeNumber_89 : decode cX7_takeNumber 89 = .ok (.isub, 1) := by decide +kernel
theorem dX7_takeNumber_90 : decode cX7_takeNumber 90 = .ok (.iconst 3, 1) := by decide +kernel
theorem dX7_takeNumber_91 : decode cX7_takeNumber 91 = .ok (.if_icmp .le 10, 3) := by decide +kernel
theorem dX7_takeNumber_94 : decode cX7_takeNumber 94 = .ok (.aload_n 0, 1) := by decide +kernel
theorem dX7_takeNumber_95 : decode cX7_takeNumber 95 = .ok (.iconst 1, 1) := by decide +kernel
theorem dX7_takeNumber_96 : decode cX7_takeNumber 96 = .ok (.iload_n 3, 1) := by decide +kernel
theorem dX7_takeNumber_97 : decode cX7_takeNumber 97 = .ok (.invokevirtual 135, 3) := by decide +kernel
theorem dX7_takeNumber_100 : decode cX7_takeNumber 100 = .ok (.ireturn, 1) := by decide +kernel
theorem dX7_takeNumber_101 : decode cX7_takeNumber 101 = .ok (.aload_n 0, 1) := by decide +kernel
theorem dX7_takeNumber_102 : decode cX7_takeNumber 102 = .ok (.getfield 139, 3) := by decide +kernel
theorem dX7_takeNumber_105 : decode cX7_takeNumber 105 = .ok (.i2l, 1) := by decide +kernel
theorem dX7_takeNumber_106 : decode cX7_takeNumber 106 = .ok (.iload_n 1, 1) := by decide +kernel
theorem dX7_takeNumber_107 : decode cX7_takeNumber 107 = .ok (.i2l, 1) := by decide +kernel
theorem dX7_takeNumber_108 : decode cX7_takeNumber 108 = .ok (.iload_n 2, 1) := by decide +kernel
theorem dX7_takeNumber_109 : decode cX7_takeNumber 109 = .ok (.i2l, 1) := by decide +kernel
theorem dX7_takeNumber_110 : decode cX7_takeNumber 110 = .ok (.invokestatic 63, 3) := by decide +kernel
theorem dX7_takeNumber_113 : decode cX7_takeNumber 113 = .ok (.ifCond .ne 12, 3) := by decide +kernel
theorem dX7_takeNumber_116 : decode cX7_takeNumber 116 = .ok (.aload_n 0, 1) := by decide +kernel
theorem dX7_takeNumber_117 : decode cX7_takeNumber 117 = .ok (.iconst 2, 1) := by decide +kernel
theorem dX7_takeNumber_118 : decode cX7_takeNumber 118 = .ok (.iload_n 3, 1) := by decide +kernel
theorem dX7_takeNumber_119 : decode cX7_takeNumber 119 = .ok (.invokevirtual 135, 3) := by decide +kernel
theorem dX7_takeNumber_122 : decode cX7_takeNumber 122 = .ok (.ifCond .eq 7, 3) := by decide +kernel
theorem dX7_takeNumber_125 : decode cX7_takeNumber 125 = .ok (.iconst 1, 1) := by decide +kernel
theorem dX7_takeNumber_126 : decode cX7_takeNumber 126 = .ok (.goto 4, 3) := by decide +kernel
theorem dX7_takeNumber_129 : decode cX7_takeNumber 129 = .ok (.iconst 0, 1) := by decide +kernel
theorem dX7_takeNumber_130 : decode cX7_takeNumber 130 = .ok (.ireturn, 1) := by decide +kernel
set_option maxRecDepth 100000 in
set_option maxHeartbeats 4000000 in
theorem X7_takeNumber_b94_ok (G : Gt) (o : Nat) (ho : kd o = 7)    (x3 : Int32) (mem : Mem) : EvR tvI G cX7_takeNumber 4 (some .boolean) RX7 2 94 [(0, .ref (gA G o)), (3, .int (x3))] [] mem (X7_takeNumber_b94 o x3 mem) := by
  unfold X7_takeNumber_b94
  refine ev_aload_n (q := 95) dX7_takeNumber_94 rfl 0 rfl rfl ?_
  refine ev_iconst (q := 96) (v := 1) dX7_takeNumber_95 rfl li_1 ?_
  refine ev_iload_n (q := 97) dX7_takeNumber_96 rfl 1 rfl rfl ?_
  refine ev_callVI (q := 100) dX7_takeNumber_97 rfl ml_X7_135 mt_X7_fails cf_7 rfl ho hc_7 (con_X7_fails G _ _ _ ho _) rfl (Nat.le_of_ble_eq_true rfl) (Nat.le_of_ble_eq_true rfl) rfl (Nat.le_of_ble_eq_true rfl) (fun r18 m19 => ?_)
  exact ev_zret dX7_takeNumber_100 rfl
set_option maxRecDepth 100000 in
set_option maxHeartbeats 4000000 in
theorem X7_takeNumber_b125_ok (G : Gt) (o : Nat) (ho : kd o = 7)     (mem : Mem) : EvR tvI G cX7_takeNumber 4 (some .boolean) RX7 2 125 [] [] mem (X7_takeNumber_b125 o  mem) := by
  unfold X7_takeNumber_b125
  refine ev_iconst (q := 126) (v := 1) dX7_takeNumber_125 rfl li_1 ?_
  refine ev_goto (t := 130) dX7_takeNumber_126 rfl ?_
  exact ev_zret dX7_takeNumber_130 rfl
set_option maxRecDepth 100000 in
set_option maxHeartbeats 4000000 in
theorem X7_takeNumber_b60_ok (G : Gt) (o : Nat) (ho : kd o = 7)   (k10 : Int32 → Int32 → Int32 → Mem → Option (Int32 × Mem)) (hk10 : ∀ (x1 : Int32) (x2 : Int32) (x3 : Int32) (mem : Mem), EvR tvI G cX7_takeNumber 4 (some .boolean) RX7 2 10 [(0, .ref (gA G o)), (1, .int (x1)), (2, .int (x2)), (3, .int (x3))] [] mem (k10 x1 x2 x3 mem)) (x1 : Int32) (x2 : Int32) (x3 : Int32) (s1 : Int32) (mem : Mem) : EvR tvI G cX7_takeNumber 4 (some .boolean) RX7 2 60 [(0, .ref (gA G o)), (1, .int (x1)), (2, .int (x2)), (3, .int (x3))] [.int (s1), .ref (gA G o)] mem (X7_takeNumber_b60 o k10 x1 x2 x3 s1 mem) := by
  unfold X7_takeNumber_b60
  refine ev_putI (q := 63) (ci := 7) (j := 11) (T := TX7) dX7_takeNumber_60 rfl cf_7 ho hj_7_11 hc_7 gf_X7_139 rfl rfl (tyX7_ok 11 hj_7_11) ?_
  refine ev_aload_n (q := 64) dX7_takeNumber_63 rfl 0 rfl rfl ?_
  refine ev_dup (q := 65) dX7_takeNumber_64 rfl rfl ?_
  refine ev_getI (q := 68) (ci := 7) (j := 9) (T := TX7) dX7_takeNumber_65 rfl cf_7 ho hj_7_9 hc_7 gf_X7_123 rfl ?_
  refine ev_iconst (q := 69) (v := 1) dX7_takeNumber_68 rfl li_1 ?_
  refine ev_iadd (q := 70) dX7_takeNumber_69 rfl ?_
  refine ev_putI (q := 73) (ci := 7) (j := 9) (T := TX7) dX7_takeNumber_70 rfl cf_7 ho hj_7_9 hc_7 gf_X7_123 rfl rfl (tyX7_ok 9 hj_7_9) ?_
  refine ev_goto (t := 10) dX7_takeNumber_73 rfl ?_
  exact hk10 _ _ _ _
set_option maxRecDepth 100000 in
set_option maxHeartbeats 4000000 in
theorem X7_takeNumber_b10_ok (G : Gt) (o : Nat) (ho : kd o = 7)    : ∀ (n : Nat) (x1 : Int32) (x2 : Int32) (x3 : Int32) (mem : Mem), EvR tvI G cX7_takeNumber 4 (some .boolean) RX7 2 10 [(0, .ref (gA G o)), (1, .int (x1)), (2, .int (x2)), (3, .int (x3))] [] mem (X7_takeNumber_b10 o n x1 x2 x3 mem) := by
  intro n
  induction n with
  | zero => intros; exact ev_none
  | succ n ih =>
    intro x1 x2 x3 mem
    rw [X7_takeNumber_b10]
    refine ev_aload_n (q := 11) dX7_takeNumber_10 rfl 0 rfl rfl ?_
    refine ev_callVI (q := 14) dX7_takeNumber_11 rfl ml_X7_132 mt_X7_here cf_7 rfl ho hc_7 (con_X7_here G _ ho _) rfl (Nat.le_of_ble_eq_true rfl) (Nat.le_of_ble_eq_true rfl) rfl (Nat.le_of_ble_eq_true rfl) (fun r2 m3 => ?_)
    refine ev_i2l (q := 15) dX7_takeNumber_14 rfl ?_
    refine ev_ldc2 (q := 18) (v := 48) dX7_takeNumber_15 rfl kc_X7_142 ?_
    refine ev_ldc2 (q := 21) (v := 57) dX7_takeNumber_18 rfl kc_X7_144 ?_
    refine ev_callSI (q := 24) dX7_takeNumber_21 rfl ml_X7_63 mt_X7_in (con_X7_in G _ _ _  _) rfl (Nat.le_of_ble_eq_true rfl) (Nat.le_of_ble_eq_true rfl) rfl (Nat.le_of_ble_eq_true rfl) (fun r4 m5 => ?_)
    refine ev_if_eq (t := 76) (q := 27) dX7_takeNumber_24 rfl rfl (fun hc6 => ?_) (fun hc6 => ?_)
    · refine ev_aload_n (q := 77) dX7_takeNumber_76 rfl 0 rfl rfl ?_
      refine ev_getI (q := 80) (ci := 7) (j := 9) (T := TX7) dX7_takeNumber_77 rfl cf_7 ho hj_7_9 hc_7 gf_X7_123 rfl ?_
      refine ev_iload_n (q := 81) dX7_takeNumber_80 rfl 3 rfl rfl ?_
      refine ev_icmp_eq (t := 94) (q := 84) dX7_takeNumber_81 rfl rfl (fun hc7 => ?_) (fun hc7 => ?_)
      · refine ev_sub (lv' := [(0, .ref _), (3, .int _)]) [0, 3] rfl ?_
        exact X7_takeNumber_b94_ok G o ho   _ _
      · refine ev_aload_n (q := 85) dX7_takeNumber_84 rfl 0 rfl rfl ?_
        refine ev_getI (q := 88) (ci := 7) (j := 9) (T := TX7) dX7_takeNumber_85 rfl cf_7 ho hj_7_9 hc_7 gf_X7_123 rfl ?_
        refine ev_iload_n (q := 89) dX7_takeNumber_88 rfl 3 rfl rfl ?_
        refine ev_isub (q := 90) dX7_takeNumber_89 rfl ?_
        refine ev_iconst (q := 91) (v := 3) dX7_takeNumber_90 rfl li_3 ?_
        refine ev_icmp_le (t := 101) (q := 94) dX7_takeNumber_91 rfl rfl (fun hc8 => ?_) (fun hc8 => ?_)
        · refine ev_sub (lv' := [(0, .ref _), (3, .int _)]) [0, 3] rfl ?_
          exact X7_takeNumber_b94_ok G o ho   _ _
        · refine ev_aload_n (q := 102) dX7_takeNumber_101 rfl 0 rfl rfl ?_
          refine ev_getI (q := 105) (ci := 7) (j := 11) (T := TX7) dX7_takeNumber_102 rfl cf_7 ho hj_7_11 hc_7 gf_X7_139 rfl ?_
          refine ev_i2l (q := 106) dX7_takeNumber_105 rfl ?_
          refine ev_iload_n (q := 107) dX7_takeNumber_106 rfl 1 rfl rfl ?_
          refine ev_i2l (q := 108) dX7_takeNumber_107 rfl ?_
          refine ev_iload_n (q := 109) dX7_takeNumber_108 rfl 2 rfl rfl ?_
          refine ev_i2l (q := 110) dX7_takeNumber_109 rfl ?_
          refine ev_callSI (q := 113) dX7_takeNumber_110 rfl ml_X7_63 mt_X7_in (con_X7_in G _ _ _  _) rfl (Nat.le_of_ble_eq_true rfl) (Nat.le_of_ble_eq_true rfl) rfl (Nat.le_of_ble_eq_true rfl) (fun r9 m10 => ?_)
          refine ev_if_ne (t := 125) (q := 116) dX7_takeNumber_113 rfl rfl (fun hc11 => ?_) (fun hc11 => ?_)
          · refine ev_aload_n (q := 117) dX7_takeNumber_116 rfl 0 rfl rfl ?_
            refine ev_iconst (q := 118) (v := 2) dX7_takeNumber_117 rfl li_2 ?_
            refine ev_iload_n (q := 119) dX7_takeNumber_118 rfl 3 rfl rfl ?_
            refine ev_callVI (q := 122) dX7_takeNumber_119 rfl ml_X7_135 mt_X7_fails cf_7 rfl ho hc_7 (con_X7_fails G _ _ _ ho _) rfl (Nat.le_of_ble_eq_true rfl) (Nat.le_of_ble_eq_true rfl) rfl (Nat.le_of_ble_eq_true rfl) (fun r12 m13 => ?_)
            refine ev_if_eq (t := 129) (q := 125) dX7_takeNumber_122 rfl rfl (fun hc14 => ?_) (fun hc14 => ?_)
            · refine ev_iconst (q := 130) (v := 0) dX7_takeNumber_129 rfl li_0 ?_
              exact ev_zret dX7_takeNumber_130 rfl
            · refine ev_sub (lv' := []) [] rfl ?_
              exact X7_takeNumber_b125_ok G o ho   _
          · refine ev_sub (lv' := []) [] rfl ?_
            exact X7_takeNumber_b125_ok G o ho   _
    · refine ev_aload_n (q := 28) dX7_takeNumber_27 rfl 0 rfl rfl ?_
      refine ev_aload_n (q := 29) dX7_takeNumber_28 rfl 0 rfl rfl ?_
      refine ev_getI (q := 32) (ci := 7) (j := 11) (T := TX7) dX7_takeNumber_29 rfl cf_7 ho hj_7_11 hc_7 gf_X7_139 rfl ?_
      refine ev_sipush (q := 35) (v := 1000) dX7_takeNumber_32 rfl ls_1000 ?_
      refine ev_icmp_le (t := 45) (q := 38) dX7_takeNumber_35 rfl rfl (fun hc15 => ?_) (fun hc15 => ?_)
      · refine ev_aload_n (q := 39) dX7_takeNumber_38 rfl 0 rfl rfl ?_
        refine ev_getI (q := 42) (ci := 7) (j := 11) (T := TX7) dX7_takeNumber_39 rfl cf_7 ho hj_7_11 hc_7 gf_X7_139 rfl ?_
        refine ev_goto (t := 60) dX7_takeNumber_42 rfl ?_
        exact X7_takeNumber_b60_ok G o ho  (X7_takeNumber_b10 o n) ih _ _ _ _ _
      · refine ev_bipush (q := 47) (v := 10) dX7_takeNumber_45 rfl lb_10 ?_
        refine ev_aload_n (q := 48) dX7_takeNumber_47 rfl 0 rfl rfl ?_
        refine ev_getI (q := 51) (ci := 7) (j := 11) (T := TX7) dX7_takeNumber_48 rfl cf_7 ho hj_7_11 hc_7 gf_X7_139 rfl ?_
        refine ev_imul (q := 52) dX7_takeNumber_51 rfl ?_
        refine ev_aload_n (q := 53) dX7_takeNumber_52 rfl 0 rfl rfl ?_
        refine ev_callVI (q := 56) dX7_takeNumber_53 rfl ml_X7_132 mt_X7_here cf_7 rfl ho hc_7 (con_X7_here G _ ho _) rfl (Nat.le_of_ble_eq_true rfl) (Nat.le_of_ble_eq_true rfl) rfl (Nat.le_of_ble_eq_true rfl) (fun r16 m17 => ?_)
        refine ev_iadd (q := 57) dX7_takeNumber_56 rfl ?_
        refine ev_bipush (q := 59) (v := 48) dX7_takeNumber_57 rfl lb_48 ?_
        refine ev_isub (q := 60) dX7_takeNumber_59 rfl ?_
        exact X7_takeNumber_b60_ok G o ho  (X7_takeNumber_b10 o n) ih _ _ _ _ _
set_option maxRecDepth 100000 in
set_option maxHeartbeats 4000000 in
theorem con_X7_takeNumber (G : Gt) (o : Nat) (a1 : Int32) (a2 : Int32) (ho : kd o = 7) (mem : Mem) : Con tvI G yX7_takeNumber cX7_takeNumber 4 (some .boolean) 2 [.ref (gA G o), .int a1, .int a2] mem (X7_takeNumber o a1 a2 mem) := by
  refine con_of (by decide) (Nat.le_of_ble_eq_true rfl) ?_
  show EvR tvI G cX7_takeNumber 4 (some .boolean) RX7 2 0 [(0, .ref (gA G o)), (1, .int (a1)), (2, .int (a2))] [] mem _
  unfold X7_takeNumber
  refine ev_aload_n (q := 1) dX7_takeNumber_0 rfl 0 rfl rfl ?_
  refine ev_getI (q := 4) (ci := 7) (j := 9) (T := TX7) dX7_takeNumber_1 rfl cf_7 ho hj_7_9 hc_7 gf_X7_123 rfl ?_
  refine ev_istore_n (q := 5) (lv2 := [(3, .int _), (0, .ref _), (1, .int _), (2, .int _)]) dX7_takeNumber_4 rfl rfl (Nat.le_of_ble_eq_true rfl) rfl ?_
  refine ev_aload_n (q := 6) dX7_takeNumber_5 rfl 1 rfl rfl ?_
  refine ev_iconst (q := 7) (v := 0) dX7_takeNumber_6 rfl li_0 ?_
  refine ev_putI (q := 10) (ci := 7) (j := 11) (T := TX7) dX7_takeNumber_7 rfl cf_7 ho hj_7_11 hc_7 gf_X7_139 rfl rfl (tyX7_ok 11 hj_7_11) ?_
  refine ev_sub (lv' := [(0, .ref _), (1, .int _), (2, .int _), (3, .int _)]) [1, 2, 3, 0] rfl ?_
  exact X7_takeNumber_b10_ok G o ho   fu _ _ _ _
/-! AgingLettersModel.into(III)Z -/
theorem dX7_into_0 : decode cX7_into 0 = .ok (.aload_n 0, 1) := by decide +kernel
theorem dX7_into_1 : decode cX7_into 1 = .ok (.iload_n 2, 1) := by decide +kernel
theorem dX7_into_2 : decode cX7_into 2 = .ok (.iload_n 3, 1) := by decide +kernel
theorem dX7_into_3 : decode cX7_into 3 = .ok (.invokevirtual 146, 3) := by decide +kernel
theorem dX7_into_6 : decode cX7_into 6 = .ok (.istore 4, 2) := by decide +kernel
theorem dX7_into_8 : decode cX7_into 8 = .ok (.aload_n 0, 1) := by decide +kernel
theorem dX7_into_9 : decode cX7_into 9 = .ok (.getfield 28, 3) := by decide +kernel
theorem dX7_into_12 : decode cX7_into 12 = .ok (.iload_n 1, 1) := by decide +kernel
theorem dX7_into_13 : decode cX7_into 13 = .ok (.aload_n 0, 1) := by decide +kernel
theorem dX7_into_14 : decode cX7_into 14 = .ok (.getfield 139, 3) := by decide +kernel
theorem dX7_into_17 : decode cX7_into 17 = .ok (.iastore, 1) := by decide +kernel
theorem dX7_into_18 : decode cX7_into 18 = .ok (.iload 4, 2) := by decide +kernel
theorem dX7_into_20 : decode cX7_into 20 = .ok (.ireturn, 1) := by decide +kernel
set_option maxRecDepth 100000 in
set_option maxHeartbeats 4000000 in
theorem con_X7_into (G : Gt) (o : Nat) (a1 : Int32) (a2 : Int32) (a3 : Int32) (ho : kd o = 7) (mem : Mem) : Con tvI G yX7_into cX7_into 5 (some .boolean) 3 [.ref (gA G o), .int a1, .int a2, .int a3] mem (X7_into o a1 a2 a3 mem) := by
  refine con_of (by decide) (Nat.le_of_ble_eq_true rfl) ?_
  show EvR tvI G cX7_into 5 (some .boolean) RX7 3 0 [(0, .ref (gA G o)), (1, .int (a1)), (2, .int (a2)), (3, .int (a3))] [] mem _
  unfold X7_into
  refine ev_aload_n (q := 1) dX7_into_0 rfl 0 rfl rfl ?_
  refine ev_iload_n (q := 2) dX7_into_1 rfl 2 rfl rfl ?_
  refine ev_iload_n (q := 3) dX7_into_2 rfl 3 rfl rfl ?_
  refine ev_callVI (q := 6) dX7_into_3 rfl ml_X7_146 mt_X7_takeNumber cf_7 rfl ho hc_7 (con_X7_takeNumber G _ _ _ ho _) rfl (Nat.le_of_ble_eq_true rfl) (Nat.le_of_ble_eq_true rfl) rfl (Nat.le_of_ble_eq_true rfl) (fun r1 m2 => ?_)
  refine ev_istore (q := 8) (lv2 := [(4, .int _), (0, .ref _), (1, .int _), (2, .int _), (3, .int _)]) dX7_into_6 rfl (Nat.le_of_ble_eq_true rfl) rfl ?_
  refine ev_aload_n (q := 9) dX7_into_8 rfl 1 rfl rfl ?_
  refine ev_getR (q := 12) (ci := 7) (j := 12) (T := TX7) dX7_into_9 rfl cf_7 ho hj_7_12 hc_7 gf_X7_28 rfl ?_
  refine ev_iload_n (q := 13) dX7_into_12 rfl 2 rfl rfl ?_
  refine ev_aload_n (q := 14) dX7_into_13 rfl 1 rfl rfl ?_
  refine ev_getI (q := 17) (ci := 7) (j := 11) (T := TX7) dX7_into_14 rfl cf_7 ho hj_7_11 hc_7 gf_X7_139 rfl ?_
  refine ev_iast (q := 18) dX7_into_17 rfl (kr_7_12 ho) (fun m3 => ?_)
  refine ev_iload (q := 20) dX7_into_18 0 rfl rfl ?_
  exact ev_zret dX7_into_20 rfl
/-! AgingLettersModel.sortOf(I)I -/
theorem dX7_sortOf_0 : decode cX7_sortOf 0 = .ok (.iload_n 0, 1) := by decide +kernel
theorem dX7_sortOf_1 : decode cX7_sortOf 1 = .ok (.bipush 112, 2) := by decide +kernel
theorem dX7_sortOf_3 : decode cX7_sortOf 3 = .ok (.if_icmp .ne 7, 3) := by decide +kernel
theorem dX7_sortOf_6 : decode cX7_sortOf 6 = .ok (.iconst 1, 1) := by decide +kernel
theorem dX7_sortOf_7 : decode cX7_sortOf 7 = .ok (.goto 44, 3) := by decide +kernel
theorem dX7_sortOf_10 : decode cX7_sortOf 10 = .ok (.iload_n 0, 1) := by decide +kernel
theorem dX7_sortOf_11 : decode cX7_sortOf 11 = .ok (.bipush 118, 2) := by decide +kernel
theorem dX7_sortOf_13 : decode cX7_sortOf 13 = .ok (.if_icmp .ne 7, 3) := by decide +kernel
theorem dX7_sortOf_16 : decode cX7_sortOf 16 = .ok (.iconst 2, 1) := by decide +kernel
theorem dX7_sortOf_17 : decode cX7_sortOf 17 = .ok (.goto 34, 3) := by decide +kernel
theorem dX7_sortOf_20 : decode cX7_sortOf 20 = .ok (.iload_n 0, 1) := by decide +kernel
theorem dX7_sortOf_21 : decode cX7_sortOf 21 = .ok (.bipush 108, 2) := by decide +kernel
theorem dX7_sortOf_23 : decode cX7_sortOf 23 = .ok (.if_icmp .ne 7, 3) := by decide +kernel
theorem dX7_sortOf_26 : decode cX7_sortOf 26 = .ok (.iconst 3, 1) := by decide +kernel
theorem dX7_sortOf_27 : decode cX7_sortOf 27 = .ok (.goto 24, 3) := by decide +kernel
theorem dX7_sortOf_30 : decode cX7_sortOf 30 = .ok (.iload_n 0, 1) := by decide +kernel
theorem dX7_sortOf_31 : decode cX7_sortOf 31 = .ok (.bipush 102, 2) := by decide +kernel
theorem dX7_sortOf_33 : decode cX7_sortOf 33 = .ok (.if_icmp .ne 7, 3) := by decide +kernel
theorem dX7_sortOf_36 : decode cX7_sortOf 36 = .ok (.iconst 4, 1) := by decide +kernel
theorem dX7_sortOf_37 : decode cX7_sortOf 37 = .ok (.goto 14, 3) := by decide +kernel
theorem dX7_sortOf_40 : decode cX7_sortOf 40 = .ok (.iload_n 0, 1) := by decide +kernel
theorem dX7_sortOf_41 : decode cX7_sortOf 41 = .ok (.bipush 115, 2) := by decide +kernel
theorem dX7_sortOf_43 : decode cX7_sortOf 43 = .ok (.if_icmp .ne 7, 3) := by decide +kernel
theorem dX7_sortOf_46 : decode cX7_sortOf 46 = .ok (.iconst 5, 1) := by decide +kernel
theorem dX7_sortOf_47 : decode cX7_sortOf 47 = .ok (.goto 4, 3) := by decide +kernel
theorem dX7_sortOf_50 : decode cX7_sortOf 50 = .ok (.iconst 0, 1) := by decide +kernel
theorem dX7_sortOf_51 : decode cX7_sortOf 51 = .ok (.ireturn, 1) := by decide +kernel
set_option maxRecDepth 100000 in
set_option maxHeartbeats 4000000 in
theorem con_X7_sortOf (G : Gt) (a0 : Int32)  (mem : Mem) : Con tvI G yX7_sortOf cX7_sortOf 1 (some .int) 1 [.int a0] mem (X7_sortOf a0 mem) := by
  refine con_of (by decide) (Nat.le_of_ble_eq_true rfl) ?_
  show EvR tvI G cX7_sortOf 1 (some .int) RX7 1 0 [(0, .int (a0))] [] mem _
  unfold X7_sortOf
  refine ev_iload_n (q := 1) dX7_sortOf_0 rfl 0 rfl rfl ?_
  refine ev_bipush (q := 3) (v := 112) dX7_sortOf_1 rfl lb_112 ?_
  refine ev_icmp_ne (t := 10) (q := 6) dX7_sortOf_3 rfl rfl (fun hc1 => ?_) (fun hc1 => ?_)
  · refine ev_iconst (q := 7) (v := 1) dX7_sortOf_6 rfl li_1 ?_
    refine ev_goto (t := 51) dX7_sortOf_7 rfl ?_
    exact ev_iret dX7_sortOf_51 rfl
  · refine ev_iload_n (q := 11) dX7_sortOf_10 rfl 0 rfl rfl ?_
    refine ev_bipush (q := 13) (v := 118) dX7_sortOf_11 rfl lb_118 ?_
    refine ev_icmp_ne (t := 20) (q := 16) dX7_sortOf_13 rfl rfl (fun hc2 => ?_) (fun hc2 => ?_)
    · refine ev_iconst (q := 17) (v := 2) dX7_sortOf_16 rfl li_2 ?_
      refine ev_goto (t := 51) dX7_sortOf_17 rfl ?_
      exact ev_iret dX7_sortOf_51 rfl
    · refine ev_iload_n (q := 21) dX7_sortOf_20 rfl 0 rfl rfl ?_
      refine ev_bipush (q := 23) (v := 108) dX7_sortOf_21 rfl lb_108 ?_
      refine ev_icmp_ne (t := 30) (q := 26) dX7_sortOf_23 rfl rfl (fun hc3 => ?_) (fun hc3 => ?_)
      · refine ev_iconst (q := 27) (v := 3) dX7_sortOf_26 rfl li_3 ?_
        refine ev_goto (t := 51) dX7_sortOf_27 rfl ?_
        exact ev_iret dX7_sortOf_51 rfl
      · refine ev_iload_n (q := 31) dX7_sortOf_30 rfl 0 rfl rfl ?_
        refine ev_bipush (q := 33) (v := 102) dX7_sortOf_31 rfl lb_102 ?_
        refine ev_icmp_ne (t := 40) (q := 36) dX7_sortOf_33 rfl rfl (fun hc4 => ?_) (fun hc4 => ?_)
        · refine ev_iconst (q := 37) (v := 4) dX7_sortOf_36 rfl li_4 ?_
          refine ev_goto (t := 51) dX7_sortOf_37 rfl ?_
          exact ev_iret dX7_sortOf_51 rfl
        · refine ev_iload_n (q := 41) dX7_sortOf_40 rfl 0 rfl rfl ?_
          refine ev_bipush (q := 43) (v := 115) dX7_sortOf_41 rfl lb_115 ?_
          refine ev_icmp_ne (t := 50) (q := 46) dX7_sortOf_43 rfl rfl (fun hc5 => ?_) (fun hc5 => ?_)
          · refine ev_iconst (q := 47) (v := 5) dX7_sortOf_46 rfl li_5 ?_
            refine ev_goto (t := 51) dX7_sortOf_47 rfl ?_
            exact ev_iret dX7_sortOf_51 rfl
          · refine ev_iconst (q := 51) (v := 0) dX7_sortOf_50 rfl li_0 ?_
            exact ev_iret dX7_sortOf_51 rfl
/-! AgingLettersModel.takeLetter()Z -/
theorem dX7_takeLetter_0 : decode cX7_takeLetter 0 = .ok (.aload_n 0, 1) := by decide +kernel
theorem dX7_takeLetter_1 : decode cX7_takeLetter 1 = .ok (.getfield 28, 3) := by decide +kernel
theorem dX7_takeLetter_4 : decode cX7_takeLetter 4 = .ok (.iconst 2, 1) := by decide +kernel
theorem dX7_takeLetter_5 : decode cX7_takeLetter 5 = .ok (.iaload, 1) := by decide +kernel
theorem dX7_takeLetter_6 : decode cX7_takeLetter 6 = .ok (.istore_n 1, 1) := by decide +kernel
theorem dX7_takeLetter_7 : decode cX7_takeLetter 7 = .ok (.iload_n 1, 1) := by decide +kernel
theorem dX7_takeLetter_8 : decode cX7_takeLetter 8 = .ok (.bipush 6, 2) := by decide +kernel
theorem dX7_takeLetter_10 : decode cX7_takeLetter 10 = .ok (.if_icmp .ne 13, 3) := by decide +kernel
theorem dX7_takeLetter_13 : decode cX7_takeLetter 13 = .ok (.aload_n 0, 1) := by decide +kernel
theorem dX7_takeLetter_14 : decode cX7_takeLetter 14 = .ok (.iconst 3, 1) := by decide +kernel
theorem dX7_takeLetter_15 : decode cX7_takeLetter 15 = .ok (.aload_n 0, 1) := by decide +kernel
theorem dX7_takeLetter_16 : decode cX7_takeLetter 16 = .ok (.getfield 123, 3) := by decide +kernel
theorem dX7_takeLetter_19 : decode cX7_takeLetter 19 = .ok (.invokevirtual 135, 3) := by decide +kernel
theorem dX7_takeLetter_22 : decode cX7_takeLetter 22 = .ok (.ireturn, 1) := by decide +kernel
theorem dX7_takeLetter_23 : decode cX7_takeLetter 23 = .ok (.aload_n 0, 1) := by decide +kernel
theorem dX7_takeLetter_24 : decode cX7_takeLetter 24 = .ok (.getfield 28, 3) := by decide +kernel
theorem dX7_takeLetter_27 : decode cX7_takeLetter 27 = .ok (.iconst 5, 1) := by decide +kernel
theorem dX7_takeLetter_28 : decode cX7_takeLetter 28 = .ok (.iload_n 1, 1) := by decide +kernel
theorem dX7_takeLetter_29 : decode cX7_takeLetter 29 = .ok (.iadd, 1) := by decide +kernel
theorem dX7_takeLetter_30 : decode cX7_takeLetter 30 = .ok (.aload_n 0, 1) := by decide +kernel
theorem dX7_takeLetter_31 : decode cX7_takeLetter 31 = .ok (.invokevirtual 132, 3) := by decide +kernel
theorem dX7_takeLetter_34 : decode cX7_takeLetter 34 = .ok (.invokestatic 149, 3) := by decide +kernel
theorem dX7_takeLetter_37 : decode cX7_takeLetter 37 = .ok (.iastore, 1) := by decide +kernel
theorem dX7_takeLetter_38 : decode cX7_takeLetter 38 = .ok (.aload_n 0, 1) := by decide +kernel
theorem dX7_takeLetter_39 : decode cX7_takeLetter 39 = .ok (.getfield 28, 3) := by decide +kernel
theorem dX7_takeLetter_42 : decode cX7_takeLetter 42 = .ok (.iconst 2, 1) := by decide +kernel
theorem dX7_takeLetter_43 : decode cX7_takeLetter 43 = .ok (.dup2, 1) := by decide +kernel
theorem dX7_takeLetter_44 : decode cX7_takeLetter 44 = .ok (.iaload, 1) := by decide +kernel
theorem dX7_takeLetter_45 : decode cX7_takeLetter 45 = .ok (.iconst 1, 1) := by decide +kernel
theorem dX7_takeLetter_46 : decode cX7_takeLetter 46 = .ok (.iadd, 1) := by decide +kernel
theorem dX7_takeLetter_47 : decode cX7_takeLetter 47 = .ok (.iastore, 1) := by decide +kernel
theorem dX7_takeLetter_48 : decode cX7_takeLetter 48 = .ok (.aload_n 0, 1) := by decide +kernel
theorem dX7_takeLetter_49 : decode cX7_takeLetter 49 = .ok (.dup, 1) := by decide +kernel
theorem dX7_takeLetter_50 : decode cX7_takeLetter 50 = .ok (.getfield 123, 3) := by decide +kernel
theorem dX7_takeLetter_53 : decode cX7_takeLetter 53 = .ok (.iconst 1, 1) := by decide +kernel
theorem dX7_takeLetter_54 : decode cX7_takeLetter 54 = .ok (.iadd, 1) := by decide +kernel
theorem dX7_takeLetter_55 : decode cX7_takeLetter 55 = .ok (.putfield 123, 3) := by decide +kernel
theorem dX7_takeLetter_58 : decode cX7_takeLetter 58 = .ok (.aload_n 0, 1) := by decide +kernel
theorem dX7_takeLetter_59 : decode cX7_takeLetter 59 = .ok (.bipush 11, 2) := by decide +kernel
theorem dX7_takeLetter_61 : decode cX7_takeLetter 61 = .ok (.iload_n 1, 1) := by decide +kernel
theorem dX7_takeLetter_62 : decode cX7_takeLetter 62 = .ok (.iadd, 1) := by decide +kernel
theorem dX7_takeLetter_63 : decode cX7_takeLetter 63 = .ok (.iconst 1, 1) := by decide +kernel
theorem dX7_takeLetter_64 : decode cX7_takeLetter 64 = .ok (.bipush 40, 2) := by decide +kernel
theorem dX7_takeLetter_66 : decode cX7_takeLetter 66 = .ok (.invokevirtual 152, 3) := by decide +kernel
theorem dX7_takeLetter_69 : decode cX7_takeLetter 69 = .ok (.ifCond .eq 39, 3) := by decide +kernel
theorem dX7_takeLetter_72 : decode cX7_takeLetter 72 = .ok (.aload_n 0, 1) := by decide +kernel
theorem dX7_takeLetter_73 : decode cX7_takeLetter 73 = .ok (.bipush 44, 2) := by decide +kernel
theorem dX7_takeLetter_75 : decode cX7_takeLetter 75 = .ok (.invokevirtual 156, 3) := by decide +kernel
theorem dX7_takeLetter_78 : decode cX7_takeLetter 78 = .ok (.ifCond .eq 30, 3) := by decide +kernel
theorem dX7_takeLetter_81 : decode cX7_takeLetter 81 = .ok (.aload_n 0, 1) := by decide +kernel
theorem dX7_takeLetter_82 : decode cX7_takeLetter 82 = .ok (.bipush 17, 2) := by decide +kernel
theorem dX7_takeLetter_84 : decode cX7_takeLetter 84 = .ok (.iload_n 1, 1) := by decide +kernel
theorem dX7_takeLetter_85 : decode cX7_takeLetter 85 = .ok (.iadd, 1) := by decide +kernel
theorem dX7_takeLetter_86 : decode cX7_takeLetter 86 = .ok (.iconst 1, 1) := by decide +kernel
theorem dX7_takeLetter_87 : decode cX7_takeLetter 87 = .ok (.bipush 99, 2) := by decide +kernel
theorem dX7_takeLetter_89 : decode cX7_takeLetter 89 = .ok (.invokevirtual 152, 3) := by decide +kernel
theorem dX7_takeLetter_92 : decode cX7_takeLetter 92 = .ok (.ifCond .eq 16, 3) := by decide +kernel
theorem dX7_takeLetter_95 : decode cX7_takeLetter 95 = .ok (.aload_n 0, 1) := by decide +kernel
theorem dX7_takeLetter_96 : decode cX7_takeLetter 96 = .ok (.bipush 59, 2) := by decide +kernel
theorem dX7_takeLetter_98 : decode cX7_takeLetter 98 = .ok (.invokevirtual 156, 3) := by decide +kernel
theorem dX7_takeLetter_101 : decode cX7_takeLetter 101 = .ok (.ifCond .eq 7, 3) := by decide +kernel
theorem dX7_takeLetter_104 : decode cX7_takeLetter 104 = .ok (.iconst 1, 1) := by decide +kernel
theorem dX7_takeLetter_105 : decode cX7_takeLetter 105 = .ok (.goto 4, 3) := by decide +kernel
theorem dX7_takeLetter_108 : decode cX7_takeLetter 108 = .ok (.iconst 0, 1) := by decide +kernel
theorem dX7_takeLetter_109 : decode cX7_takeLetter 109 = .ok (.ireturn, 1) := by decide +kernel
set_option maxRecDepth 100000 in
set_option maxHeartbeats 4000000 in
theorem con_X7_takeLetter (G : Gt) (o : Nat) (ho : kd o = 7) (mem : Mem) : Con tvI G yX7_takeLetter cX7_takeLetter 2 (some .boolean) 4 [.ref (gA G o)] mem (X7_takeLetter o mem) := by
  refine con_of (by decide) (Nat.le_of_ble_eq_true rfl) ?_
  show EvR tvI G cX7_takeLetter 2 (some .boolean) RX7 4 0 [(0, .ref (gA G o))] [] mem _
  unfold X7_takeLetter
  refine ev_aload_n (q := 1) dX7_takeLetter_0 rfl 0 rfl rfl ?_
  refine ev_getR (q := 4) (ci := 7) (j := 12) (T := TX7) dX7_takeLetter_1 rfl cf_7 ho hj_7_12 hc_7 gf_X7_28 rfl ?_
  refine ev_iconst (q := 5) (v := 2) dX7_takeLetter_4 rfl li_2 ?_
  refine ev_iald (q := 6) dX7_takeLetter_5 rfl (kr_7_12 ho) (fun z1 => ?_)
  refine ev_istore_n (q := 7) (lv2 := [(1, .int _), (0, .ref _)]) dX7_takeLetter_6 rfl rfl (Nat.le_of_ble_eq_true rfl) rfl ?_
  refine ev_iload_n (q := 8) dX7_takeLetter_7 rfl 0 rfl rfl ?_
  refine ev_bipush (q := 10) (v := 6) dX7_takeLetter_8 rfl lb_6 ?_
  refine ev_icmp_ne (t := 23) (q := 13) dX7_takeLetter_10 rfl rfl (fun hc2 => ?_) (fun hc2 => ?_)
  · refine ev_aload_n (q := 14) dX7_takeLetter_13 rfl 1 rfl rfl ?_
    refine ev_iconst (q := 15) (v := 3) dX7_takeLetter_14 rfl li_3 ?_
    refine ev_aload_n (q := 16) dX7_takeLetter_15 rfl 1 rfl rfl ?_
    refine ev_getI (q := 19) (ci := 7) (j := 9) (T := TX7) dX7_takeLetter_16 rfl cf_7 ho hj_7_9 hc_7 gf_X7_123 rfl ?_
    refine ev_callVI (q := 22) dX7_takeLetter_19 rfl ml_X7_135 mt_X7_fails cf_7 rfl ho hc_7 (con_X7_fails G _ _ _ ho _) rfl (Nat.le_of_ble_eq_true rfl) (Nat.le_of_ble_eq_true rfl) rfl (Nat.le_of_ble_eq_true rfl) (fun r23 m24 => ?_)
    exact ev_zret dX7_takeLetter_22 rfl
  · refine ev_aload_n (q := 24) dX7_takeLetter_23 rfl 1 rfl rfl ?_
    refine ev_getR (q := 27) (ci := 7) (j := 12) (T := TX7) dX7_takeLetter_24 rfl cf_7 ho hj_7_12 hc_7 gf_X7_28 rfl ?_
    refine ev_iconst (q := 28) (v := 5) dX7_takeLetter_27 rfl li_5 ?_
    refine ev_iload_n (q := 29) dX7_takeLetter_28 rfl 0 rfl rfl ?_
    refine ev_iadd (q := 30) dX7_takeLetter_29 rfl ?_
    refine ev_aload_n (q := 31) dX7_takeLetter_30 rfl 1 rfl rfl ?_
    refine ev_callVI (q := 34) dX7_takeLetter_31 rfl ml_X7_132 mt_X7_here cf_7 rfl ho hc_7 (con_X7_here G _ ho _) rfl (Nat.le_of_ble_eq_true rfl) (Nat.le_of_ble_eq_true rfl) rfl (Nat.le_of_ble_eq_true rfl) (fun r3 m4 => ?_)
    refine ev_callSI (q := 37) dX7_takeLetter_34 rfl ml_X7_149 mt_X7_sortOf (con_X7_sortOf G _  _) rfl (Nat.le_of_ble_eq_true rfl) (Nat.le_of_ble_eq_true rfl) rfl (Nat.le_of_ble_eq_true rfl) (fun r5 m6 => ?_)
    refine ev_iast (q := 38) dX7_takeLetter_37 rfl (kr_7_12 ho) (fun m7 => ?_)
    refine ev_aload_n (q := 39) dX7_takeLetter_38 rfl 1 rfl rfl ?_
    refine ev_getR (q := 42) (ci := 7) (j := 12) (T := TX7) dX7_takeLetter_39 rfl cf_7 ho hj_7_12 hc_7 gf_X7_28 rfl ?_
    refine ev_iconst (q := 43) (v := 2) dX7_takeLetter_42 rfl li_2 ?_
    refine ev_dup2_11 (q := 44) dX7_takeLetter_43 rfl rfl rfl ?_
    refine ev_iald (q := 45) dX7_takeLetter_44 rfl (kr_7_12 ho) (fun z8 => ?_)
    refine ev_iconst (q := 46) (v := 1) dX7_takeLetter_45 rfl li_1 ?_
    refine ev_iadd (q := 47) dX7_takeLetter_46 rfl ?_
    refine ev_iast (q := 48) dX7_takeLetter_47 rfl (kr_7_12 ho) (fun m9 => ?_)
    refine ev_aload_n (q := 49) dX7_takeLetter_48 rfl 1 rfl rfl ?_
    refine ev_dup (q := 50) dX7_takeLetter_49 rfl rfl ?_
    refine ev_getI (q := 53) (ci := 7) (j := 9) (T := TX7) dX7_takeLetter_50 rfl cf_7 ho hj_7_9 hc_7 gf_X7_123 rfl ?_
    refine ev_iconst (q := 54) (v := 1) dX7_takeLetter_53 rfl li_1 ?_
    refine ev_iadd (q := 55) dX7_takeLetter_54 rfl ?_
    refine ev_putI (q := 58) (ci := 7) (j := 9) (T := TX7) dX7_takeLetter_55 rfl cf_7 ho hj_7_9 hc_7 gf_X7_123 rfl rfl (tyX7_ok 9 hj_7_9) ?_
    refine ev_aload_n (q := 59) dX7_takeLetter_58 rfl 1 rfl rfl ?_
    refine ev_bipush (q := 61) (v := 11) dX7_takeLetter_59 rfl lb_11 ?_
    refine ev_iload_n (q := 62) dX7_takeLetter_61 rfl 0 rfl rfl ?_
    refine ev_iadd (q := 63) dX7_takeLetter_62 rfl ?_
    refine ev_iconst (q := 64) (v := 1) dX7_takeLetter_63 rfl li_1 ?_
    refine ev_bipush (q := 66) (v := 40) dX7_takeLetter_64 rfl lb_40 ?_
    refine ev_callVI (q := 69) dX7_takeLetter_66 rfl ml_X7_152 mt_X7_into cf_7 rfl ho hc_7 (con_X7_into G _ _ _ _ ho _) rfl (Nat.le_of_ble_eq_true rfl) (Nat.le_of_ble_eq_true rfl) rfl (Nat.le_of_ble_eq_true rfl) (fun r11 m12 => ?_)
    refine ev_if_eq (t := 108) (q := 72) dX7_takeLetter_69 rfl rfl (fun hc13 => ?_) (fun hc13 => ?_)
    · refine ev_iconst (q := 109) (v := 0) dX7_takeLetter_108 rfl li_0 ?_
      exact ev_zret dX7_takeLetter_109 rfl
    · refine ev_aload_n (q := 73) dX7_takeLetter_72 rfl 1 rfl rfl ?_
      refine ev_bipush (q := 75) (v := 44) dX7_takeLetter_73 rfl lb_44 ?_
      refine ev_callVI (q := 78) dX7_takeLetter_75 rfl ml_X7_156 mt_X7_sign cf_7 rfl ho hc_7 (con_X7_sign G _ _ ho _) rfl (Nat.le_of_ble_eq_true rfl) (Nat.le_of_ble_eq_true rfl) rfl (Nat.le_of_ble_eq_true rfl) (fun r14 m15 => ?_)
      refine ev_if_eq (t := 108) (q := 81) dX7_takeLetter_78 rfl rfl (fun hc16 => ?_) (fun hc16 => ?_)
      · refine ev_iconst (q := 109) (v := 0) dX7_takeLetter_108 rfl li_0 ?_
        exact ev_zret dX7_takeLetter_109 rfl
      · refine ev_aload_n (q := 82) dX7_takeLetter_81 rfl 1 rfl rfl ?_
        refine ev_bipush (q := 84) (v := 17) dX7_takeLetter_82 rfl lb_17 ?_
        refine ev_iload_n (q := 85) dX7_takeLetter_84 rfl 0 rfl rfl ?_
        refine ev_iadd (q := 86) dX7_takeLetter_85 rfl ?_
        refine ev_iconst (q := 87) (v := 1) dX7_takeLetter_86 rfl li_1 ?_
        refine ev_bipush (q := 89) (v := 99) dX7_takeLetter_87 rfl lb_99 ?_
        refine ev_callVI (q := 92) dX7_takeLetter_89 rfl ml_X7_152 mt_X7_into cf_7 rfl ho hc_7 (con_X7_into G _ _ _ _ ho _) rfl (Nat.le_of_ble_eq_true rfl) (Nat.le_of_ble_eq_true rfl) rfl (Nat.le_of_ble_eq_true rfl) (fun r17 m18 => ?_)
        refine ev_if_eq (t := 108) (q := 95) dX7_takeLetter_92 rfl rfl (fun hc19 => ?_) (fun hc19 => ?_)
        · refine ev_iconst (q := 109) (v := 0) dX7_takeLetter_108 rfl li_0 ?_
          exact ev_zret dX7_takeLetter_109 rfl
        · refine ev_aload_n (q := 96) dX7_takeLetter_95 rfl 1 rfl rfl ?_
          refine ev_bipush (q := 98) (v := 59) dX7_takeLetter_96 rfl lb_59 ?_
          refine ev_callVI (q := 101) dX7_takeLetter_98 rfl ml_X7_156 mt_X7_sign cf_7 rfl ho hc_7 (con_X7_sign G _ _ ho _) rfl (Nat.le_of_ble_eq_true rfl) (Nat.le_of_ble_eq_true rfl) rfl (Nat.le_of_ble_eq_true rfl) (fun r20 m21 => ?_)
          refine ev_if_eq (t := 108) (q := 104) dX7_takeLetter_101 rfl rfl (fun hc22 => ?_) (fun hc22 => ?_)
          · refine ev_iconst (q := 109) (v := 0) dX7_takeLetter_108 rfl li_0 ?_
            exact ev_zret dX7_takeLetter_109 rfl
          · refine ev_iconst (q := 105) (v := 1) dX7_takeLetter_104 rfl li_1 ?_
            refine ev_goto (t := 109) dX7_takeLetter_105 rfl ?_
            exact ev_zret dX7_takeLetter_109 rfl
/-! AgingLettersModel.takeReader()Z -/
theorem dX7_takeReader_0 : decode cX7_takeReader 0 = .ok (.aload_n 0, 1) := by decide +kernel
theorem dX7_takeReader_1 : decode cX7_takeReader 1 = .ok (.getfield 28, 3) := by decide +kernel
theorem dX7_takeReader_4 : decode cX7_takeReader 4 = .ok (.iconst 3, 1) := by decide +kernel
theorem dX7_takeReader_5 : decode cX7_takeReader 5 = .ok (.iaload, 1) := by decide +kernel
theorem dX7_takeReader_6 : decode cX7_takeReader 6 = .ok (.istore_n 1, 1) := by decide +kernel
theorem dX7_takeReader_7 : decode cX7_takeReader 7 = .ok (.iload_n 1, 1) := by decide +kernel
theorem dX7_takeReader_8 : decode cX7_takeReader 8 = .ok (.iconst 4, 1) := by decide +kernel
theorem dX7_takeReader_9 : decode cX7_takeReader 9 = .ok (.if_icmp .ne 13, 3) := by decide +kernel
theorem dX7_takeReader_12 : decode cX7_takeReader 12 = .ok (.aload_n 0, 1) := by decide +kernel
theorem dX7_takeReader_13 : decode cX7_takeReader 13 = .ok (.iconst 3, 1) := by decide +kernel
theorem dX7_takeReader_14 : decode cX7_takeReader 14 = .ok (.aload_n 0, 1) := by decide +kernel
theorem dX7_takeReader_15 : decode cX7_takeReader 15 = .ok (.getfield 123, 3) := by decide +kernel
theorem dX7_takeReader_18 : decode cX7_takeReader 18 = .ok (.invokevirtual 135, 3) := by decide +kernel
theorem dX7_takeReader_21 : decode cX7_takeReader 21 = .ok (.ireturn, 1) := by decide +kernel
theorem dX7_takeReader_22 : decode cX7_takeReader 22 = .ok (.aload_n 0, 1) := by decide +kernel
theorem dX7_takeReader_23 : decode cX7_takeReader 23 = .ok (.getfield 28, 3) := by decide +kernel
theorem dX7_takeReader_26 : decode cX7_takeReader 26 = .ok (.iconst 3, 1) := by decide +kernel
theorem dX7_takeReader_27 : decode cX7_takeReader 27 = .ok (.dup2, 1) := by decide +kernel
theorem dX7_takeReader_28 : decode cX7_takeReader 28 = .ok (.iaload, 1) := by decide +kernel
theorem dX7_takeReader_29 : decode cX7_takeReader 29 = .ok (.iconst 1, 1) := by decide +kernel
theorem dX7_takeReader_30 : decode cX7_takeReader 30 = .ok (.iadd, 1) := by decide +kernel
theorem dX7_takeReader_31 : decode cX7_takeReader 31 = .ok (.iastore, 1) := by decide +kernel
theorem dX7_takeReader_32 : decode cX7_takeReader 32 = .ok (.aload_n 0, 1) := by decide +kernel
theorem dX7_takeReader_33 : decode cX7_takeReader 33 = .ok (.dup, 1) := by decide +kernel
theorem dX7_takeReader_34 : decode cX7_takeReader 34 = .ok (.getfield 123, 3) := by decide +kernel
theorem dX7_takeReader_37 : decode cX7_takeReader 37 = .ok (.iconst 1, 1) := by decide +kernel
theorem dX7_takeReader_38 : decode cX7_takeReader 38 = .ok (.iadd, 1) := by decide +kernel
theorem dX7_takeReader_39 : decode cX7_takeReader 39 = .ok (.putfield 123, 3) := by decide +kernel
theorem dX7_takeReader_42 : decode cX7_takeReader 42 = .ok (.aload_n 0, 1) := by decide +kernel
theorem dX7_takeReader_43 : decode cX7_takeReader 43 = .ok (.bipush 23, 2) := by decide +kernel
theorem dX7_takeReader_45 : decode cX7_takeReader 45 = .ok (.iload_n 1, 1) := by decide +kernel
theorem dX7_takeReader_46 : decode cX7_takeReader 46 = .ok (.iadd, 1) := by decide +kernel
theorem dX7_takeReader_47 : decode cX7_takeReader 47 = .ok (.iconst 0, 1) := by decide +kernel
theorem dX7_takeReader_48 : decode cX7_takeReader 48 = .ok (.bipush 99, 2) := by decide +kernel
theorem dX7_takeReader_50 : decode cX7_takeReader 50 = .ok (.invokevirtual 152, 3) := by decide +kernel
theorem dX7_takeReader_53 : decode cX7_takeReader 53 = .ok (.ifCond .eq 41, 3) := by decide +kernel
theorem dX7_takeReader_56 : decode cX7_takeReader 56 = .ok (.aload_n 0, 1) := by decide +kernel
theorem dX7_takeReader_57 : decode cX7_takeReader 57 = .ok (.bipush 44, 2) := by decide +kernel
theorem dX7_takeReader_59 : decode cX7_takeReader 59 = .ok (.invokevirtual 156, 3) := by decide +kernel
theorem dX7_takeReader_62 : decode cX7_takeReader 62 = .ok (.ifCond .eq 32, 3) := by decide +kernel
theorem dX7_takeReader_65 : decode cX7_takeReader 65 = .ok (.aload_n 0, 1) := by decide +kernel
theorem dX7_takeReader_66 : decode cX7_takeReader 66 = .ok (.bipush 27, 2) := by decide +kernel
theorem dX7_takeReader_68 : decode cX7_takeReader 68 = .ok (.iload_n 1, 1) := by decide +kernel
theorem dX7_takeReader_69 : decode cX7_takeReader 69 = .ok (.iadd, 1) := by decide +kernel
theorem dX7_takeReader_70 : decode cX7_takeReader 70 = .ok (.aload_n 0, 1) := by decide +kernel
theorem dX7_takeReader_71 : decode cX7_takeReader 71 = .ok (.getfield 28, 3) := by decide +kernel
theorem dX7_takeReader_74 : decode cX7_takeReader 74 = .ok (.bipush 23, 2) := by decide +kernel
theorem dX7_takeReader_76 : decode cX7_takeReader 76 = .ok (.iload_n 1, 1) := by decide +kernel
theorem dX7_takeReader_77 : decode cX7_takeReader 77 = .ok (.iadd, 1) := by decide +kernel
theorem dX7_takeReader_78 : decode cX7_takeReader 78 = .ok (.iaload, 1) := by decide +kernel
theorem dX7_takeReader_79 : decode cX7_takeReader 79 = .ok (.iconst 1, 1) := by decide +kernel
theorem dX7_takeReader_80 : decode cX7_takeReader 80 = .ok (.iadd, 1) := by decide +kernel
theorem dX7_takeReader_81 : decode cX7_takeReader 81 = .ok (.sipush 999, 3) := by decide +kernel
theorem dX7_takeReader_84 : decode cX7_takeReader 84 = .ok (.invokevirtual 152, 3) := by decide +kernel
theorem dX7_takeReader_87 : decode cX7_takeReader 87 = .ok (.ifCond .eq 7, 3) := by decide +kernel
theorem dX7_takeReader_90 : decode cX7_takeReader 90 = .ok (.iconst 1, 1) := by decide +kernel
theorem dX7_takeReader_91 : decode cX7_takeReader 91 = .ok (.goto 4, 3) := by decide +kernel
theorem dX7_takeReader_94 : decode cX7_takeReader 94 = .ok (.iconst 0, 1) := by decide +kernel
theorem dX7_takeReader_95 : decode cX7_takeReader 95 = .ok (.istore_n 2, 1) := by decide +kernel
theorem dX7_takeReader_96 : decode cX7_takeReader 96 = .ok (.aload_n 0, 1) := by decide +kernel
theorem dX7_takeReader_97 : decode cX7_takeReader 97 = .ok (.getfield 28, 3) := by decide +kernel
theorem dX7_takeReader_100 : decode cX7_takeReader 100 = .ok (.bipush 31, 2) := by decide +kernel
theorem dX7_takeReader_102 : decode cX7_takeReader 102 = .ok (.iload_n 1, 1) := by decide +kernel
theorem dX7_takeReader_103 : decode cX7_takeReader 103 = .ok (.iadd, 1) := by decide +kernel
theorem dX7_takeReader_104 : decode cX7_takeReader 104 = .ok (.aload_n 0, 1) := by decide +kernel
theorem dX7_takeReader_105 : decode cX7_takeReader 105 = .ok (.getfield 28, 3) := by decide +kernel
theorem dX7_takeReader_108 : decode cX7_takeReader 108 = .ok (.bipush 23, 2) := by decide +kernel
theorem dX7_takeReader_110 : decode cX7_takeReader 110 = .ok (.iload_n 1, 1) := by decide +kernel
theorem dX7_takeReader_111 : decode cX7_takeReader 111 = .ok (.iadd, 1) := by decide +kernel
theorem dX7_takeReader_112 : decode cX7_takeReader 112 = .ok (.iaload, 1) := by decide +kernel
theorem dX7_takeReader_113 : decode cX7_takeReader 113 = .ok (.iastore, 1) := by decide +kernel
theorem dX7_takeReader_114 : decode cX7_takeReader 114 = .ok (.iload_n 2, 1) := by decide +kernel
theorem dX7_takeReader_115 : decode cX7_takeReader 115 = .ok (.ifCond .eq 16, 3) := by decide +kernel
theorem dX7_takeReader_118 : decode cX7_takeReader 118 = .ok (.aload_n 0, 1) := by decide +kernel
theorem dX7_takeReader_119 : decode cX7_takeReader 119 = .ok (.bipush 59, 2) := by decide +kernel
theorem dX7_takeReader_121 : decode cX7_takeReader 121 = .ok (.invokevirtual 156, 3) := by decide +kernel
theorem dX7_takeReader_124 : decode cX7_takeReader 124 = .ok (.ifCond .eq 7, 3) := by decide +kernel
theorem dX7_takeReader_127 : decode cX7_takeReader 127 = .ok (.iconst 1, 1) := by decide +kernel
theorem dX7_takeReader_128 : decode cX7_takeReader 128 = .ok (.goto 4, 3) := by decide +kernel
theorem dX7_takeReader_131 : decode cX7_takeReader 131 = .ok (.iconst 0, 1) := by decide +kernel
theorem dX7_takeReader_132 : decode cX7_takeReader 132 = .ok (.ireturn, 1) := by decide +kernel
set_option maxRecDepth 100000 in
set_option maxHeartbeats 4000000 in
theorem X7_takeReader_b95_ok (G : Gt) (o : Nat) (ho : kd o = 7)    (x1 : Int32) (s0 : Int32) (mem : Mem) : EvR tvI G cX7_takeReader 3 (some .boolean) RX7 4 95 [(0, .ref (gA G o)), (1, .int (x1))] [.int (s0)] mem (X7_takeReader_b95 o x1 s0 mem) := by
  unfold X7_takeReader_b95
  refine ev_istore_n (q := 96) (lv2 := [(2, .int _), (0, .ref _), (1, .int _)]) dX7_takeReader_95 rfl rfl (Nat.le_of_ble_eq_true rfl) rfl ?_
  refine ev_aload_n (q := 97) dX7_takeReader_96 rfl 1 rfl rfl ?_
  refine ev_getR (q := 100) (ci := 7) (j := 12) (T := TX7) dX7_takeReader_97 rfl cf_7 ho hj_7_12 hc_7 gf_X7_28 rfl ?_
  refine ev_bipush (q := 102) (v := 31) dX7_takeReader_100 rfl lb_31 ?_
  refine ev_iload_n (q := 103) dX7_takeReader_102 rfl 2 rfl rfl ?_
  refine ev_iadd (q := 104) dX7_takeReader_103 rfl ?_
  refine ev_aload_n (q := 105) dX7_takeReader_104 rfl 1 rfl rfl ?_
  refine ev_getR (q := 108) (ci := 7) (j := 12) (T := TX7) dX7_takeReader_105 rfl cf_7 ho hj_7_12 hc_7 gf_X7_28 rfl ?_
  refine ev_bipush (q := 110) (v := 23) dX7_takeReader_108 rfl lb_23 ?_
  refine ev_iload_n (q := 111) dX7_takeReader_110 rfl 2 rfl rfl ?_
  refine ev_iadd (q := 112) dX7_takeReader_111 rfl ?_
  refine ev_iald (q := 113) dX7_takeReader_112 rfl (kr_7_12 ho) (fun z18 => ?_)
  refine ev_iast (q := 114) dX7_takeReader_113 rfl (kr_7_12 ho) (fun m19 => ?_)
  refine ev_iload_n (q := 115) dX7_takeReader_114 rfl 0 rfl rfl ?_
  refine ev_if_eq (t := 131) (q := 118) dX7_takeReader_115 rfl rfl (fun hc20 => ?_) (fun hc20 => ?_)
  · refine ev_iconst (q := 132) (v := 0) dX7_takeReader_131 rfl li_0 ?_
    exact ev_zret dX7_takeReader_132 rfl
  · refine ev_aload_n (q := 119) dX7_takeReader_118 rfl 1 rfl rfl ?_
    refine ev_bipush (q := 121) (v := 59) dX7_takeReader_119 rfl lb_59 ?_
    refine ev_callVI (q := 124) dX7_takeReader_121 rfl ml_X7_156 mt_X7_sign cf_7 rfl ho hc_7 (con_X7_sign G _ _ ho _) rfl (Nat.le_of_ble_eq_true rfl) (Nat.le_of_ble_eq_true rfl) rfl (Nat.le_of_ble_eq_true rfl) (fun r21 m22 => ?_)
    refine ev_if_eq (t := 131) (q := 127) dX7_takeReader_124 rfl rfl (fun hc23 => ?_) (fun hc23 => ?_)
    · refine ev_iconst (q := 132) (v := 0) dX7_takeReader_131 rfl li_0 ?_
      exact ev_zret dX7_takeReader_132 rfl
    · refine ev_iconst (q := 128) (v := 1) dX7_takeReader_127 rfl li_1 ?_
      refine ev_goto (t := 132) dX7_takeReader_128 rfl ?_
      exact ev_zret dX7_takeReader_132 rfl
set_option maxRecDepth 100000 in
set_option maxHeartbeats 4000000 in
theorem X7_takeReader_b94_ok (G : Gt) (o : Nat) (ho : kd o = 7)    (x1 : Int32) (mem : Mem) : EvR tvI G cX7_takeReader 3 (some .boolean) RX7 4 94 [(0, .ref (gA G o)), (1, .int (x1))] [] mem (X7_takeReader_b94 o x1 mem) := by
  unfold X7_takeReader_b94
  refine ev_iconst (q := 95) (v := 0) dX7_takeReader_94 rfl li_0 ?_
  exact X7_takeReader_b95_ok G o ho   _ _ _
set_option maxRecDepth 100000 in
set_option maxHeartbeats 4000000 in
theorem con_X7_takeReader (G : Gt) (o : Nat) (ho : kd o = 7) (mem : Mem) : Con tvI G yX7_takeReader cX7_takeReader 3 (some .boolean) 4 [.ref (gA G o)] mem (X7_takeReader o mem) := by
  refine con_of (by decide) (Nat.le_of_ble_eq_true rfl) ?_
  show EvR tvI G cX7_takeReader 3 (some .boolean) RX7 4 0 [(0, .ref (gA G o))] [] mem _
  unfold X7_takeReader
  refine ev_aload_n (q := 1) dX7_takeReader_0 rfl 0 rfl rfl ?_
  refine ev_getR (q := 4) (ci := 7) (j := 12) (T := TX7) dX7_takeReader_1 rfl cf_7 ho hj_7_12 hc_7 gf_X7_28 rfl ?_
  refine ev_iconst (q := 5) (v := 3) dX7_takeReader_4 rfl li_3 ?_
  refine ev_iald (q := 6) dX7_takeReader_5 rfl (kr_7_12 ho) (fun z1 => ?_)
  refine ev_istore_n (q := 7) (lv2 := [(1, .int _), (0, .ref _)]) dX7_takeReader_6 rfl rfl (Nat.le_of_ble_eq_true rfl) rfl ?_
  refine ev_iload_n (q := 8) dX7_takeReader_7 rfl 0 rfl rfl ?_
  refine ev_iconst (q := 9) (v := 4) dX7_takeReader_8 rfl li_4 ?_
  refine ev_icmp_ne (t := 22) (q := 12) dX7_takeReader_9 rfl rfl (fun hc2 => ?_) (fun hc2 => ?_)
  · refine ev_aload_n (q := 13) dX7_takeReader_12 rfl 1 rfl rfl ?_
    refine ev_iconst (q := 14) (v := 3) dX7_takeReader_13 rfl li_3 ?_
    refine ev_aload_n (q := 15) dX7_takeReader_14 rfl 1 rfl rfl ?_
    refine ev_getI (q := 18) (ci := 7) (j := 9) (T := TX7) dX7_takeReader_15 rfl cf_7 ho hj_7_9 hc_7 gf_X7_123 rfl ?_
    refine ev_callVI (q := 21) dX7_takeReader_18 rfl ml_X7_135 mt_X7_fails cf_7 rfl ho hc_7 (con_X7_fails G _ _ _ ho _) rfl (Nat.le_of_ble_eq_true rfl) (Nat.le_of_ble_eq_true rfl) rfl (Nat.le_of_ble_eq_true rfl) (fun r16 m17 => ?_)
    exact ev_zret dX7_takeReader_21 rfl
  · refine ev_aload_n (q := 23) dX7_takeReader_22 rfl 1 rfl rfl ?_
    refine ev_getR (q := 26) (ci := 7) (j := 12) (T := TX7) dX7_takeReader_23 rfl cf_7 ho hj_7_12 hc_7 gf_X7_28 rfl ?_
    refine ev_iconst (q := 27) (v := 3) dX7_takeReader_26 rfl li_3 ?_
    refine ev_dup2_11 (q := 28) dX7_takeReader_27 rfl rfl rfl ?_
    refine ev_iald (q := 29) dX7_takeReader_28 rfl (kr_7_12 ho) (fun z3 => ?_)
    refine ev_iconst (q := 30) (v := 1) dX7_takeReader_29 rfl li_1 ?_
    refine ev_iadd (q := 31) dX7_takeReader_30 rfl ?_
    refine ev_iast (q := 32) dX7_takeReader_31 rfl (kr_7_12 ho) (fun m4 => ?_)
    refine ev_aload_n (q := 33) dX7_takeReader_32 rfl 1 rfl rfl ?_
    refine ev_dup (q := 34) dX7_takeReader_33 rfl rfl ?_
    refine ev_getI (q := 37) (ci := 7) (j := 9) (T := TX7) dX7_takeReader_34 rfl cf_7 ho hj_7_9 hc_7 gf_X7_123 rfl ?_
    refine ev_iconst (q := 38) (v := 1) dX7_takeReader_37 rfl li_1 ?_
    refine ev_iadd (q := 39) dX7_takeReader_38 rfl ?_
    refine ev_putI (q := 42) (ci := 7) (j := 9) (T := TX7) dX7_takeReader_39 rfl cf_7 ho hj_7_9 hc_7 gf_X7_123 rfl rfl (tyX7_ok 9 hj_7_9) ?_
    refine ev_aload_n (q := 43) dX7_takeReader_42 rfl 1 rfl rfl ?_
    refine ev_bipush (q := 45) (v := 23) dX7_takeReader_43 rfl lb_23 ?_
    refine ev_iload_n (q := 46) dX7_takeReader_45 rfl 0 rfl rfl ?_
    refine ev_iadd (q := 47) dX7_takeReader_46 rfl ?_
    refine ev_iconst (q := 48) (v := 0) dX7_takeReader_47 rfl li_0 ?_
    refine ev_bipush (q := 50) (v := 99) dX7_takeReader_48 rfl lb_99 ?_
    refine ev_callVI (q := 53) dX7_takeReader_50 rfl ml_X7_152 mt_X7_into cf_7 rfl ho hc_7 (con_X7_into G _ _ _ _ ho _) rfl (Nat.le_of_ble_eq_true rfl) (Nat.le_of_ble_eq_true rfl) rfl (Nat.le_of_ble_eq_true rfl) (fun r6 m7 => ?_)
    refine ev_if_eq (t := 94) (q := 56) dX7_takeReader_53 rfl rfl (fun hc8 => ?_) (fun hc8 => ?_)
    · refine ev_sub (lv' := [(0, .ref _), (1, .int _)]) [1, 0] rfl ?_
      exact X7_takeReader_b94_ok G o ho   _ _
    · refine ev_aload_n (q := 57) dX7_takeReader_56 rfl 1 rfl rfl ?_
      refine ev_bipush (q := 59) (v := 44) dX7_takeReader_57 rfl lb_44 ?_
      refine ev_callVI (q := 62) dX7_takeReader_59 rfl ml_X7_156 mt_X7_sign cf_7 rfl ho hc_7 (con_X7_sign G _ _ ho _) rfl (Nat.le_of_ble_eq_true rfl) (Nat.le_of_ble_eq_true rfl) rfl (Nat.le_of_ble_eq_true rfl) (fun r9 m10 => ?_)
      refine ev_if_eq (t := 94) (q := 65) dX7_takeReader_62 rfl rfl (fun hc11 => ?_) (fun hc11 => ?_)
      · refine ev_sub (lv' := [(0, .ref _), (1, .int _)]) [1, 0] rfl ?_
        exact X7_takeReader_b94_ok G o ho   _ _
      · refine ev_aload_n (q := 66) dX7_takeReader_65 rfl 1 rfl rfl ?_
        refine ev_bipush (q := 68) (v := 27) dX7_takeReader_66 rfl lb_27 ?_
        refine ev_iload_n (q := 69) dX7_takeReader_68 rfl 0 rfl rfl ?_
        refine ev_iadd (q := 70) dX7_takeReader_69 rfl ?_
        refine ev_aload_n (q := 71) dX7_takeReader_70 rfl 1 rfl rfl ?_
        refine ev_getR (q := 74) (ci := 7) (j := 12) (T := TX7) dX7_takeReader_71 rfl cf_7 ho hj_7_12 hc_7 gf_X7_28 rfl ?_
        refine ev_bipush (q := 76) (v := 23) dX7_takeReader_74 rfl lb_23 ?_
        refine ev_iload_n (q := 77) dX7_takeReader_76 rfl 0 rfl rfl ?_
        refine ev_iadd (q := 78) dX7_takeReader_77 rfl ?_
        refine ev_iald (q := 79) dX7_takeReader_78 rfl (kr_7_12 ho) (fun z12 => ?_)
        refine ev_iconst (q := 80) (v := 1) dX7_takeReader_79 rfl li_1 ?_
        refine ev_iadd (q := 81) dX7_takeReader_80 rfl ?_
        refine ev_sipush (q := 84) (v := 999) dX7_takeReader_81 rfl ls_999 ?_
        refine ev_callVI (q := 87) dX7_takeReader_84 rfl ml_X7_152 mt_X7_into cf_7 rfl ho hc_7 (con_X7_into G _ _ _ _ ho _) rfl (Nat.le_of_ble_eq_true rfl) (Nat.le_of_ble_eq_true rfl) rfl (Nat.le_of_ble_eq_true rfl) (fun r13 m14 => ?_)
        refine ev_if_eq (t := 94) (q := 90) dX7_takeReader_87 rfl rfl (fun hc15 => ?_) (fun hc15 => ?_)
        · refine ev_sub (lv' := [(0, .ref _), (1, .int _)]) [1, 0] rfl ?_
          exact X7_takeReader_b94_ok G o ho   _ _
        · refine ev_iconst (q := 91) (v := 1) dX7_takeReader_90 rfl li_1 ?_
          refine ev_goto (t := 95) dX7_takeReader_91 rfl ?_
          refine ev_sub (lv' := [(0, .ref _), (1, .int _)]) [1, 0] rfl ?_
          exact X7_takeReader_b95_ok G o ho   _ _ _
/-! AgingLettersModel.takeNext()Z -/
theorem dX7_takeNext_0 : decode cX7_takeNext 0 = .ok (.aload_n 0, 1) := by decide +kernel
theorem dX7_takeNext_1 : decode cX7_takeNext 1 = .ok (.invokevirtual 132, 3) := by decide +kernel
theorem dX7_takeNext_4 : decode cX7_takeNext 4 = .ok (.istore_n 1, 1) := by decide +kernel
theorem dX7_takeNext_5 : decode cX7_takeNext 5 = .ok (.iload_n 1, 1) := by decide +kernel
theorem dX7_takeNext_6 : decode cX7_takeNext 6 = .ok (.bipush 114, 2) := by decide +kernel
theorem dX7_takeNext_8 : decode cX7_takeNext 8 = .ok (.if_icmp .ne 8, 3) := by decide +kernel
theorem dX7_takeNext_11 : decode cX7_takeNext 11 = .ok (.aload_n 0, 1) := by decide +kernel
theorem dX7_takeNext_12 : decode cX7_takeNext 12 = .ok (.invokevirtual 159, 3) := by decide +kernel
theorem dX7_takeNext_15 : decode cX7_takeNext 15 = .ok (.ireturn, 1) := by decide +kernel
theorem dX7_takeNext_16 : decode cX7_takeNext 16 = .ok (.iload_n 1, 1) := by decide +kernel
theorem dX7_takeNext_17 : decode cX7_takeNext 17 = .ok (.invokestatic 149, 3) := by decide +kernel
theorem dX7_takeNext_20 : decode cX7_takeNext 20 = .ok (.ifCond .le 19, 3) := by decide +kernel
theorem dX7_takeNext_23 : decode cX7_takeNext 23 = .ok (.aload_n 0, 1) := by decide +kernel
theorem dX7_takeNext_24 : decode cX7_takeNext 24 = .ok (.getfield 28, 3) := by decide +kernel
theorem dX7_takeNext_27 : decode cX7_takeNext 27 = .ok (.iconst 3, 1) := by decide +kernel
theorem dX7_takeNext_28 : decode cX7_takeNext 28 = .ok (.iaload, 1) := by decide +kernel
theorem dX7_takeNext_29 : decode cX7_takeNext 29 = .ok (.ifCond .ne 10, 3) := by decide +kernel
theorem dX7_takeNext_32 : decode cX7_takeNext 32 = .ok (.aload_n 0, 1) := by decide +kernel
theorem dX7_takeNext_33 : decode cX7_takeNext 33 = .ok (.invokevirtual 163, 3) := by decide +kernel
theorem dX7_takeNext_36 : decode cX7_takeNext 36 = .ok (.goto 12, 3) := by decide +kernel
theorem dX7_takeNext_39 : decode cX7_takeNext 39 = .ok (.aload_n 0, 1) := by decide +kernel
theorem dX7_takeNext_40 : decode cX7_takeNext 40 = .ok (.iconst 1, 1) := by decide +kernel
theorem dX7_takeNext_41 : decode cX7_takeNext 41 = .ok (.aload_n 0, 1) := by decide +kernel
theorem dX7_takeNext_42 : decode cX7_takeNext 42 = .ok (.getfield 123, 3) := by decide +kernel
theorem dX7_takeNext_45 : decode cX7_takeNext 45 = .ok (.invokevirtual 135, 3) := by decide +kernel
theorem dX7_takeNext_48 : decode cX7_takeNext 48 = .ok (.ireturn, 1) := by decide +kernel
set_option maxRecDepth 100000 in
set_option maxHeartbeats 4000000 in
theorem X7_takeNext_b39_ok (G : Gt) (o : Nat) (ho : kd o = 7)     (mem : Mem) : EvR tvI G cX7_takeNext 2 (some .boolean) RX7 5 39 [(0, .ref (gA G o))] [] mem (X7_takeNext_b39 o  mem) := by
  unfold X7_takeNext_b39
  refine ev_aload_n (q := 40) dX7_takeNext_39 rfl 0 rfl rfl ?_
  refine ev_iconst (q := 41) (v := 1) dX7_takeNext_40 rfl li_1 ?_
  refine ev_aload_n (q := 42) dX7_takeNext_41 rfl 0 rfl rfl ?_
  refine ev_getI (q := 45) (ci := 7) (j := 9) (T := TX7) dX7_takeNext_42 rfl cf_7 ho hj_7_9 hc_7 gf_X7_123 rfl ?_
  refine ev_callVI (q := 48) dX7_takeNext_45 rfl ml_X7_135 mt_X7_fails cf_7 rfl ho hc_7 (con_X7_fails G _ _ _ ho _) rfl (Nat.le_of_ble_eq_true rfl) (Nat.le_of_ble_eq_true rfl) rfl (Nat.le_of_ble_eq_true rfl) (fun r13 m14 => ?_)
  exact ev_zret dX7_takeNext_48 rfl
set_option maxRecDepth 100000 in
set_option maxHeartbeats 4000000 in
theorem con_X7_takeNext (G : Gt) (o : Nat) (ho : kd o = 7) (mem : Mem) : Con tvI G yX7_takeNext cX7_takeNext 2 (some .boolean) 5 [.ref (gA G o)] mem (X7_takeNext o mem) := by
  refine con_of (by decide) (Nat.le_of_ble_eq_true rfl) ?_
  show EvR tvI G cX7_takeNext 2 (some .boolean) RX7 5 0 [(0, .ref (gA G o))] [] mem _
  unfold X7_takeNext
  refine ev_aload_n (q := 1) dX7_takeNext_0 rfl 0 rfl rfl ?_
  refine ev_callVI (q := 4) dX7_takeNext_1 rfl ml_X7_132 mt_X7_here cf_7 rfl ho hc_7 (con_X7_here G _ ho _) rfl (Nat.le_of_ble_eq_true rfl) (Nat.le_of_ble_eq_true rfl) rfl (Nat.le_of_ble_eq_true rfl) (fun r1 m2 => ?_)
  refine ev_istore_n (q := 5) (lv2 := [(1, .int _), (0, .ref _)]) dX7_takeNext_4 rfl rfl (Nat.le_of_ble_eq_true rfl) rfl ?_
  refine ev_iload_n (q := 6) dX7_takeNext_5 rfl 0 rfl rfl ?_
  refine ev_bipush (q := 8) (v := 114) dX7_takeNext_6 rfl lb_114 ?_
  refine ev_icmp_ne (t := 16) (q := 11) dX7_takeNext_8 rfl rfl (fun hc3 => ?_) (fun hc3 => ?_)
  · refine ev_aload_n (q := 12) dX7_takeNext_11 rfl 1 rfl rfl ?_
    refine ev_callVI (q := 15) dX7_takeNext_12 rfl ml_X7_159 mt_X7_takeReader cf_7 rfl ho hc_7 (con_X7_takeReader G _ ho _) rfl (Nat.le_of_ble_eq_true rfl) (Nat.le_of_ble_eq_true rfl) rfl (Nat.le_of_ble_eq_true rfl) (fun r11 m12 => ?_)
    exact ev_zret dX7_takeNext_15 rfl
  · refine ev_iload_n (q := 17) dX7_takeNext_16 rfl 0 rfl rfl ?_
    refine ev_callSI (q := 20) dX7_takeNext_17 rfl ml_X7_149 mt_X7_sortOf (con_X7_sortOf G _  _) rfl (Nat.le_of_ble_eq_true rfl) (Nat.le_of_ble_eq_true rfl) rfl (Nat.le_of_ble_eq_true rfl) (fun r4 m5 => ?_)
    refine ev_if_le (t := 39) (q := 23) dX7_takeNext_20 rfl rfl (fun hc6 => ?_) (fun hc6 => ?_)
    · refine ev_aload_n (q := 24) dX7_takeNext_23 rfl 1 rfl rfl ?_
      refine ev_getR (q := 27) (ci := 7) (j := 12) (T := TX7) dX7_takeNext_24 rfl cf_7 ho hj_7_12 hc_7 gf_X7_28 rfl ?_
      refine ev_iconst (q := 28) (v := 3) dX7_takeNext_27 rfl li_3 ?_
      refine ev_iald (q := 29) dX7_takeNext_28 rfl (kr_7_12 ho) (fun z7 => ?_)
      refine ev_if_ne (t := 39) (q := 32) dX7_takeNext_29 rfl rfl (fun hc8 => ?_) (fun hc8 => ?_)
      · refine ev_aload_n (q := 33) dX7_takeNext_32 rfl 1 rfl rfl ?_
        refine ev_callVI (q := 36) dX7_takeNext_33 rfl ml_X7_163 mt_X7_takeLetter cf_7 rfl ho hc_7 (con_X7_takeLetter G _ ho _) rfl (Nat.le_of_ble_eq_true rfl) (Nat.le_of_ble_eq_true rfl) rfl (Nat.le_of_ble_eq_true rfl) (fun r9 m10 => ?_)
        refine ev_goto (t := 48) dX7_takeNext_36 rfl ?_
        exact ev_zret dX7_takeNext_48 rfl
      · refine ev_sub (lv' := [(0, .ref _)]) [1] rfl ?_
        exact X7_takeNext_b39_ok G o ho   _
    · refine ev_sub (lv' := [(0, .ref _)]) [1] rfl ?_
      exact X7_takeNext_b39_ok G o ho   _
/-! AgingLettersModel.takeOffice()Z -/
theorem dX7_takeOffice_0 : decode cX7_takeOffice 0 = .ok (.aload_n 0, 1) := by decide +kernel
theorem dX7_takeOffice_1 : decode cX7_takeOffice 1 = .ok (.bipush 111, 2) := by decide +kernel
theorem dX7_takeOffice_3 : decode cX7_takeOffice 3 = .ok (.invokevirtual 156, 3) := by decide +kernel
theorem dX7_takeOffice_6 : decode cX7_takeOffice 6 = .ok (.ifCond .eq 28, 3) := by decide +kernel
theorem dX7_takeOffice_9 : decode cX7_takeOffice 9 = .ok (.aload_n 0, 1) := by decide +kernel
theorem dX7_takeOffice_10 : decode cX7_takeOffice 10 = .ok (.iconst 1, 1) := by decide +kernel
theorem dX7_takeOffice_11 : decode cX7_takeOffice 11 = .ok (.iconst 1, 1) := by decide +kernel
theorem dX7_takeOffice_12 : decode cX7_takeOffice 12 = .ok (.sipush 999, 3) := by decide +kernel
theorem dX7_takeOffice_15 : decode cX7_takeOffice 15 = .ok (.invokevirtual 152, 3) := by decide +kernel
theorem dX7_takeOffice_18 : decode cX7_takeOffice 18 = .ok (.ifCond .eq 16, 3) := by decide +kernel
theorem dX7_takeOffice_21 : decode cX7_takeOffice 21 = .ok (.aload_n 0, 1) := by decide +kernel
theorem dX7_takeOffice_22 : decode cX7_takeOffice 22 = .ok (.bipush 59, 2) := by decide +kernel
theorem dX7_takeOffice_24 : decode cX7_takeOffice 24 = .ok (.invokevirtual 156, 3) := by decide +kernel
theorem dX7_takeOffice_27 : decode cX7_takeOffice 27 = .ok (.ifCond .eq 7, 3) := by decide +kernel
theorem dX7_takeOffice_30 : decode cX7_takeOffice 30 = .ok (.iconst 1, 1) := by decide +kernel
theorem dX7_takeOffice_31 : decode cX7_takeOffice 31 = .ok (.goto 4, 3) := by decide +kernel
theorem dX7_takeOffice_34 : decode cX7_takeOffice 34 = .ok (.iconst 0, 1) := by decide +kernel
theorem dX7_takeOffice_35 : decode cX7_takeOffice 35 = .ok (.istore_n 1, 1) := by decide +kernel
theorem dX7_takeOffice_36 : decode cX7_takeOffice 36 = .ok (.iload_n 1, 1) := by decide +kernel
theorem dX7_takeOffice_37 : decode cX7_takeOffice 37 = .ok (.ifCond .eq 22, 3) := by decide +kernel
theorem dX7_takeOffice_40 : decode cX7_takeOffice 40 = .ok (.aload_n 0, 1) := by decide +kernel
theorem dX7_takeOffice_41 : decode cX7_takeOffice 41 = .ok (.getfield 123, 3) := by decide +kernel
theorem dX7_takeOffice_44 : decode cX7_takeOffice 44 = .ok (.aload_n 0, 1) := by decide +kernel
theorem dX7_takeOffice_45 : decode cX7_takeOffice 45 = .ok (.getfield 119, 3) := by decide +kernel
theorem dX7_takeOffice_48 : decode cX7_takeOffice 48 = .ok (.if_icmp .ge 11, 3) := by decide +kernel
theorem dX7_takeOffice_51 : decode cX7_takeOffice 51 = .ok (.aload_n 0, 1) := by decide +kernel
theorem dX7_takeOffice_52 : decode cX7_takeOffice 52 = .ok (.invokevirtual 166, 3) := by decide +kernel
theorem dX7_takeOffice_55 : decode cX7_takeOffice 55 = .ok (.istore_n 1, 1) := by decide +kernel
theorem dX7_takeOffice_56 : decode cX7_takeOffice 56 = .ok (.goto (-20), 3) := by decide +kernel
theorem dX7_takeOffice_59 : decode cX7_takeOffice 59 = .ok (.iload_n 1, 1) := by decide +kernel
theorem dX7_takeOffice_60 : decode cX7_takeOffice 60 = .ok (.ireturn, 1) := by decide +kernel
set_option maxRecDepth 100000 in
set_option maxHeartbeats 4000000 in
theorem X7_takeOffice_b36_ok (G : Gt) (o : Nat) (ho : kd o = 7)    : ∀ (n : Nat) (x1 : Int32) (mem : Mem), EvR tvI G cX7_takeOffice 2 (some .boolean) RX7 6 36 [(0, .ref (gA G o)), (1, .int (x1))] [] mem (X7_takeOffice_b36 o n x1 mem) := by
  intro n
  induction n with
  | zero => intros; exact ev_none
  | succ n ih =>
    intro x1 mem
    rw [X7_takeOffice_b36]
    refine ev_iload_n (q := 37) dX7_takeOffice_36 rfl 1 rfl rfl ?_
    refine ev_if_eq (t := 59) (q := 40) dX7_takeOffice_37 rfl rfl (fun hc10 => ?_) (fun hc10 => ?_)
    · refine ev_iload_n (q := 60) dX7_takeOffice_59 rfl 1 rfl rfl ?_
      exact ev_zret dX7_takeOffice_60 rfl
    · refine ev_aload_n (q := 41) dX7_takeOffice_40 rfl 0 rfl rfl ?_
      refine ev_getI (q := 44) (ci := 7) (j := 9) (T := TX7) dX7_takeOffice_41 rfl cf_7 ho hj_7_9 hc_7 gf_X7_123 rfl ?_
      refine ev_aload_n (q := 45) dX7_takeOffice_44 rfl 0 rfl rfl ?_
      refine ev_getI (q := 48) (ci := 7) (j := 7) (T := TX7) dX7_takeOffice_45 rfl cf_7 ho hj_7_7 hc_7 gf_X7_119 rfl ?_
      refine ev_icmp_ge (t := 59) (q := 51) dX7_takeOffice_48 rfl rfl (fun hc11 => ?_) (fun hc11 => ?_)
      · refine ev_aload_n (q := 52) dX7_takeOffice_51 rfl 0 rfl rfl ?_
        refine ev_callVI (q := 55) dX7_takeOffice_52 rfl ml_X7_166 mt_X7_takeNext cf_7 rfl ho hc_7 (con_X7_takeNext G _ ho _) rfl (Nat.le_of_ble_eq_true rfl) (Nat.le_of_ble_eq_true rfl) rfl (Nat.le_of_ble_eq_true rfl) (fun r12 m13 => ?_)
        refine ev_istore_n (q := 56) (lv2 := [(1, .int _), (0, .ref _)]) dX7_takeOffice_55 rfl rfl (Nat.le_of_ble_eq_true rfl) rfl ?_
        refine ev_goto (t := 36) dX7_takeOffice_56 rfl ?_
        refine ev_sub (lv' := [(0, .ref _), (1, .int _)]) [1, 0] rfl ?_
        exact ih _ _
      · refine ev_iload_n (q := 60) dX7_takeOffice_59 rfl 1 rfl rfl ?_
        exact ev_zret dX7_takeOffice_60 rfl
set_option maxRecDepth 100000 in
set_option maxHeartbeats 4000000 in
theorem X7_takeOffice_b35_ok (G : Gt) (o : Nat) (ho : kd o = 7)    (s0 : Int32) (mem : Mem) : EvR tvI G cX7_takeOffice 2 (some .boolean) RX7 6 35 [(0, .ref (gA G o))] [.int (s0)] mem (X7_takeOffice_b35 o s0 mem) := by
  unfold X7_takeOffice_b35
  refine ev_istore_n (q := 36) (lv2 := [(1, .int _), (0, .ref _)]) dX7_takeOffice_35 rfl rfl (Nat.le_of_ble_eq_true rfl) rfl ?_
  refine ev_sub (lv' := [(0, .ref _), (1, .int _)]) [1, 0] rfl ?_
  exact X7_takeOffice_b36_ok G o ho   fu _ _
set_option maxRecDepth 100000 in
set_option maxHeartbeats 4000000 in
theorem X7_takeOffice_b34_ok (G : Gt) (o : Nat) (ho : kd o = 7)     (mem : Mem) : EvR tvI G cX7_takeOffice 2 (some .boolean) RX7 6 34 [(0, .ref (gA G o))] [] mem (X7_takeOffice_b34 o  mem) := by
  unfold X7_takeOffice_b34
  refine ev_iconst (q := 35) (v := 0) dX7_takeOffice_34 rfl li_0 ?_
  exact X7_takeOffice_b35_ok G o ho   _ _
set_option maxRecDepth 100000 in
set_option maxHeartbeats 4000000 in
theorem con_X7_takeOffice (G : Gt) (o : Nat) (ho : kd o = 7) (mem : Mem) : Con tvI G yX7_takeOffice cX7_takeOffice 2 (some .boolean) 6 [.ref (gA G o)] mem (X7_takeOffice o mem) := by
  refine con_of (by decide) (Nat.le_of_ble_eq_true rfl) ?_
  show EvR tvI G cX7_takeOffice 2 (some .boolean) RX7 6 0 [(0, .ref (gA G o))] [] mem _
  unfold X7_takeOffice
  refine ev_aload_n (q := 1) dX7_takeOffice_0 rfl 0 rfl rfl ?_
  refine ev_bipush (q := 3) (v := 111) dX7_takeOffice_1 rfl lb_111 ?_
  refine ev_callVI (q := 6) dX7_takeOffice_3 rfl ml_X7_156 mt_X7_sign cf_7 rfl ho hc_7 (con_X7_sign G _ _ ho _) rfl (Nat.le_of_ble_eq_true rfl) (Nat.le_of_ble_eq_true rfl) rfl (Nat.le_of_ble_eq_true rfl) (fun r1 m2 => ?_)
  refine ev_if_eq (t := 34) (q := 9) dX7_takeOffice_6 rfl rfl (fun hc3 => ?_) (fun hc3 => ?_)
  · exact X7_takeOffice_b34_ok G o ho   _
  · refine ev_aload_n (q := 10) dX7_takeOffice_9 rfl 0 rfl rfl ?_
    refine ev_iconst (q := 11) (v := 1) dX7_takeOffice_10 rfl li_1 ?_
    refine ev_iconst (q := 12) (v := 1) dX7_takeOffice_11 rfl li_1 ?_
    refine ev_sipush (q := 15) (v := 999) dX7_takeOffice_12 rfl ls_999 ?_
    refine ev_callVI (q := 18) dX7_takeOffice_15 rfl ml_X7_152 mt_X7_into cf_7 rfl ho hc_7 (con_X7_into G _ _ _ _ ho _) rfl (Nat.le_of_ble_eq_true rfl) (Nat.le_of_ble_eq_true rfl) rfl (Nat.le_of_ble_eq_true rfl) (fun r4 m5 => ?_)
    refine ev_if_eq (t := 34) (q := 21) dX7_takeOffice_18 rfl rfl (fun hc6 => ?_) (fun hc6 => ?_)
    · exact X7_takeOffice_b34_ok G o ho   _
    · refine ev_aload_n (q := 22) dX7_takeOffice_21 rfl 0 rfl rfl ?_
      refine ev_bipush (q := 24) (v := 59) dX7_takeOffice_22 rfl lb_59 ?_
      refine ev_callVI (q := 27) dX7_takeOffice_24 rfl ml_X7_156 mt_X7_sign cf_7 rfl ho hc_7 (con_X7_sign G _ _ ho _) rfl (Nat.le_of_ble_eq_true rfl) (Nat.le_of_ble_eq_true rfl) rfl (Nat.le_of_ble_eq_true rfl) (fun r7 m8 => ?_)
      refine ev_if_eq (t := 34) (q := 30) dX7_takeOffice_27 rfl rfl (fun hc9 => ?_) (fun hc9 => ?_)
      · exact X7_takeOffice_b34_ok G o ho   _
      · refine ev_iconst (q := 31) (v := 1) dX7_takeOffice_30 rfl li_1 ?_
        refine ev_goto (t := 35) dX7_takeOffice_31 rfl ?_
        exact X7_takeOffice_b35_ok G o ho   _ _
/-! AgingLettersModel.office()I -/
theorem dX7_office_0 : decode cX7_office 0 = .ok (.aload_n 0, 1) := by decide +kernel
theorem dX7_office_1 : decode cX7_office 1 = .ok (.iconst 0, 1) := by decide +kernel
theorem dX7_office_2 : decode cX7_office 2 = .ok (.putfield 123, 3) := by decide +kernel
theorem dX7_office_5 : decode cX7_office 5 = .ok (.iconst 0, 1) := by decide +kernel
theorem dX7_office_6 : decode cX7_office 6 = .ok (.istore_n 1, 1) := by decide +kernel
theorem dX7_office_7 : decode cX7_office 7 = .ok (.iload_n 1, 1) := by decide +kernel
theorem dX7_office_8 : decode cX7_office 8 = .ok (.bipush 63, 2) := by decide +kernel
theorem dX7_office_10 : decode cX7_office 10 = .ok (.if_icmp .ge 16, 3) := by decide +kernel
theorem dX7_office_13 : decode cX7_office 13 = .ok (.aload_n 0, 1) := by decide +kernel
theorem dX7_office_14 : decode cX7_office 14 = .ok (.getfield 28, 3) := by decide +kernel
theorem dX7_office_17 : decode cX7_office 17 = .ok (.iload_n 1, 1) := by decide +kernel
theorem dX7_office_18 : decode cX7_office 18 = .ok (.iconst 0, 1) := by decide +kernel
theorem dX7_office_19 : decode cX7_office 19 = .ok (.iastore, 1) := by decide +kernel
theorem dX7_office_20 : decode cX7_office 20 = .ok (.iinc 1 1, 3) := by decide +kernel
theorem dX7_office_23 : decode cX7_office 23 = .ok (.goto (-16), 3) := by decide +kernel
theorem dX7_office_26 : decode cX7_office 26 = .ok (.aload_n 0, 1) := by decide +kernel
theorem dX7_office_27 : decode cX7_office 27 = .ok (.invokevirtual 169, 3) := by decide +kernel
theorem dX7_office_30 : decode cX7_office 30 = .ok (.istore_n 1, 1) := by decide +kernel
theorem dX7_office_31 : decode cX7_office 31 = .ok (.aload_n 0, 1) := by decide +kernel
theorem dX7_office_32 : decode cX7_office 32 = .ok (.iconst 0, 1) := by decide +kernel
theorem dX7_office_33 : decode cX7_office 33 = .ok (.putfield 119, 3) := by decide +kernel
theorem dX7_office_36 : decode cX7_office 36 = .ok (.iload_n 1, 1) := by decide +kernel
theorem dX7_office_37 : decode cX7_office 37 = .ok (.ifCond .ne 11, 3) := by decide +kernel
theorem dX7_office_40 : decode cX7_office 40 = .ok (.ldc 172, 2) := by decide +kernel
theorem dX7_office_42 : decode cX7_office 42 = .ok (.aload_n 0, 1) := by decide +kernel
theorem dX7_office_43 : decode cX7_office 43 = .ok (.getfield 129, 3) := by decide +kernel
theorem dX7_office_46 : decode cX7_office 46 = .ok (.isub, 1) := by decide +kernel
theorem dX7_office_47 : decode cX7_office 47 = .ok (.ireturn, 1) := by decide +kernel
theorem dX7_office_48 : decode cX7_office 48 = .ok (.iconst 0, 1) := by decide +kernel
theorem dX7_office_49 : decode cX7_office 49 = .ok (.istore_n 2, 1) := by decide +kernel
theorem dX7_office_50 : decode cX7_office 50 = .ok (.iload_n 2, 1) := by decide +kernel
theorem dX7_office_51 : decode cX7_office 51 = .ok (.bipush 63, 2) := by decide +kernel
theorem dX7_office_53 : decode cX7_office 53 = .ok (.if_icmp .ge 21, 3) := by decide +kernel
theorem dX7_office_56 : decode cX7_office 56 = .ok (.aload_n 0, 1) := by decide +kernel
theorem dX7_office_57 : decode cX7_office 57 = .ok (.getfield 22, 3) := by decide +kernel
theorem dX7_office_60 : decode cX7_office 60 = .ok (.iload_n 2, 1) := by decide +kernel
theorem dX7_office_61 : decode cX7_office 61 = .ok (.aload_n 0, 1) := by decide +kernel
theorem dX7_office_62 : decode cX7_office 62 = .ok (.getfield 28, 3) := by decide +kernel
theorem dX7_office_65 : decode cX7_office 65 = .ok (.iload_n 2, 1) := by decide +kernel
theorem dX7_office_66 : decode cX7_office 66 = .ok (.iaload, 1) := by decide +kernel
theorem dX7_office_67 : decode cX7_office 67 = .ok (.iastore, 1) := by decide +kernel
theorem dX7_office_68 : decode cX7_office 68 = .ok (.iinc 2 1, 3) := by decide +kernel
theorem dX7_office_71 : decode cX7_office 71 = .ok (.goto (-21), 3) := by decide +kernel
theorem dX7_office_74 : decode cX7_office 74 = .ok (.aload_n 0, 1) := by decide +kernel
theorem dX7_office_75 : decode cX7_office 75 = .ok (.getfield 22, 3) := by decide +kernel
theorem dX7_office_78 : decode cX7_office 78 = .ok (.iconst 0, 1) := by decide +kernel
theorem dX7_office_79 : decode cX7_office 79 = .ok (.iconst 1, 1) := by decide +kernel
theorem dX7_office_80 : decode cX7_office 80 = .ok (.iastore, 1) := by decide +kernel
theorem dX7_office_81 : decode cX7_office 81 = .ok (.aload_n 0, 1) := by decide +kernel
theorem dX7_office_82 : decode cX7_office 82 = .ok (.iconst 0, 1) := by decide +kernel
theorem dX7_office_83 : decode cX7_office 83 = .ok (.putfield 173, 3) := by decide +kernel
theorem dX7_office_86 : decode cX7_office 86 = .ok (.aload_n 0, 1) := by decide +kernel
theorem dX7_office_87 : decode cX7_office 87 = .ok (.invokevirtual 89, 3) := by decide +kernel
theorem dX7_office_90 : decode cX7_office 90 = .ok (.ireturn, 1) := by decide +kernel
set_option maxRecDepth 100000 in
set_option maxHeartbeats 4000000 in
theorem X7_office_b50_ok (G : Gt) (o : Nat) (ho : kd o = 7)    : ∀ (n : Nat) (x2 : Int32) (mem : Mem), EvR tvI G cX7_office 3 (some .int) RX7 7 50 [(0, .ref (gA G o)), (2, .int (x2))] [] mem (X7_office_b50 o n x2 mem) := by
  intro n
  induction n with
  | zero => intros; exact ev_none
  | succ n ih =>
    intro x2 mem
    rw [X7_office_b50]
    refine ev_iload_n (q := 51) dX7_office_50 rfl 1 rfl rfl ?_
    refine ev_bipush (q := 53) (v := 63) dX7_office_51 rfl lb_63 ?_
    refine ev_icmp_ge (t := 74) (q := 56) dX7_office_53 rfl rfl (fun hc8 => ?_) (fun hc8 => ?_)
    · refine ev_aload_n (q := 57) dX7_office_56 rfl 0 rfl rfl ?_
      refine ev_getR (q := 60) (ci := 7) (j := 5) (T := TX7) dX7_office_57 rfl cf_7 ho hj_7_5 hc_7 gf_X7_22 rfl ?_
      refine ev_iload_n (q := 61) dX7_office_60 rfl 1 rfl rfl ?_
      refine ev_aload_n (q := 62) dX7_office_61 rfl 0 rfl rfl ?_
      refine ev_getR (q := 65) (ci := 7) (j := 12) (T := TX7) dX7_office_62 rfl cf_7 ho hj_7_12 hc_7 gf_X7_28 rfl ?_
      refine ev_iload_n (q := 66) dX7_office_65 rfl 1 rfl rfl ?_
      refine ev_iald (q := 67) dX7_office_66 rfl (kr_7_12 ho) (fun z13 => ?_)
      refine ev_iast (q := 68) dX7_office_67 rfl (kr_7_5 ho) (fun m14 => ?_)
      refine ev_iinc (q := 71) (lv2 := [(2, .int _), (0, .ref _)]) (v := x2 + 1) dX7_office_68 1 rfl rfl (congrArg (HAdd.hAdd _) li_1) (Nat.le_of_ble_eq_true rfl) rfl ?_
      refine ev_goto (t := 50) dX7_office_71 rfl ?_
      refine ev_sub (lv' := [(0, .ref _), (2, .int _)]) [1, 0] rfl ?_
      exact ih _ _
    · refine ev_aload_n (q := 75) dX7_office_74 rfl 0 rfl rfl ?_
      refine ev_getR (q := 78) (ci := 7) (j := 5) (T := TX7) dX7_office_75 rfl cf_7 ho hj_7_5 hc_7 gf_X7_22 rfl ?_
      refine ev_iconst (q := 79) (v := 0) dX7_office_78 rfl li_0 ?_
      refine ev_iconst (q := 80) (v := 1) dX7_office_79 rfl li_1 ?_
      refine ev_iast (q := 81) dX7_office_80 rfl (kr_7_5 ho) (fun m9 => ?_)
      refine ev_aload_n (q := 82) dX7_office_81 rfl 0 rfl rfl ?_
      refine ev_iconst (q := 83) (v := 0) dX7_office_82 rfl li_0 ?_
      refine ev_putI (q := 86) (ci := 7) (j := 13) (T := TX7) dX7_office_83 rfl cf_7 ho hj_7_13 hc_7 gf_X7_173 rfl rfl (tyX7_ok 13 hj_7_13) ?_
      refine ev_aload_n (q := 87) dX7_office_86 rfl 0 rfl rfl ?_
      refine ev_callVI (q := 90) dX7_office_87 rfl ml_X7_89 mt_X7_readers cf_7 rfl ho hc_7 (con_X7_readers G _ ho _) rfl (Nat.le_of_ble_eq_true rfl) (Nat.le_of_ble_eq_true rfl) rfl (Nat.le_of_ble_eq_true rfl) (fun r11 m12 => ?_)
      exact ev_iret dX7_office_90 rfl
set_option maxRecDepth 100000 in
set_option maxHeartbeats 4000000 in
theorem X7_office_b7_ok (G : Gt) (o : Nat) (ho : kd o = 7)    : ∀ (n : Nat) (x1 : Int32) (mem : Mem), EvR tvI G cX7_office 3 (some .int) RX7 7 7 [(0, .ref (gA G o)), (1, .int (x1))] [] mem (X7_office_b7 o n x1 mem) := by
  intro n
  induction n with
  | zero => intros; exact ev_none
  | succ n ih =>
    intro x1 mem
    rw [X7_office_b7]
    refine ev_iload_n (q := 8) dX7_office_7 rfl 1 rfl rfl ?_
    refine ev_bipush (q := 10) (v := 63) dX7_office_8 rfl lb_63 ?_
    refine ev_icmp_ge (t := 26) (q := 13) dX7_office_10 rfl rfl (fun hc2 => ?_) (fun hc2 => ?_)
    · refine ev_aload_n (q := 14) dX7_office_13 rfl 0 rfl rfl ?_
      refine ev_getR (q := 17) (ci := 7) (j := 12) (T := TX7) dX7_office_14 rfl cf_7 ho hj_7_12 hc_7 gf_X7_28 rfl ?_
      refine ev_iload_n (q := 18) dX7_office_17 rfl 1 rfl rfl ?_
      refine ev_iconst (q := 19) (v := 0) dX7_office_18 rfl li_0 ?_
      refine ev_iast (q := 20) dX7_office_19 rfl (kr_7_12 ho) (fun m7 => ?_)
      refine ev_iinc (q := 23) (lv2 := [(1, .int _), (0, .ref _)]) (v := x1 + 1) dX7_office_20 1 rfl rfl (congrArg (HAdd.hAdd _) li_1) (Nat.le_of_ble_eq_true rfl) rfl ?_
      refine ev_goto (t := 7) dX7_office_23 rfl ?_
      refine ev_sub (lv' := [(0, .ref _), (1, .int _)]) [1, 0] rfl ?_
      exact ih _ _
    · refine ev_aload_n (q := 27) dX7_office_26 rfl 0 rfl rfl ?_
      refine ev_callVI (q := 30) dX7_office_27 rfl ml_X7_169 mt_X7_takeOffice cf_7 rfl ho hc_7 (con_X7_takeOffice G _ ho _) rfl (Nat.le_of_ble_eq_true rfl) (Nat.le_of_ble_eq_true rfl) rfl (Nat.le_of_ble_eq_true rfl) (fun r3 m4 => ?_)
      refine ev_istore_n (q := 31) (lv2 := [(1, .int _), (0, .ref _)]) dX7_office_30 rfl rfl (Nat.le_of_ble_eq_true rfl) rfl ?_
      refine ev_aload_n (q := 32) dX7_office_31 rfl 1 rfl rfl ?_
      refine ev_iconst (q := 33) (v := 0) dX7_office_32 rfl li_0 ?_
      refine ev_putI (q := 36) (ci := 7) (j := 7) (T := TX7) dX7_office_33 rfl cf_7 ho hj_7_7 hc_7 gf_X7_119 rfl rfl (tyX7_ok 7 hj_7_7) ?_
      refine ev_iload_n (q := 37) dX7_office_36 rfl 0 rfl rfl ?_
      refine ev_if_ne (t := 48) (q := 40) dX7_office_37 rfl rfl (fun hc6 => ?_) (fun hc6 => ?_)
      · refine ev_ldc (q := 42) (v := (-1000100)) dX7_office_40 rfl kc_X7_172 ?_
        refine ev_aload_n (q := 43) dX7_office_42 rfl 1 rfl rfl ?_
        refine ev_getI (q := 46) (ci := 7) (j := 10) (T := TX7) dX7_office_43 rfl cf_7 ho hj_7_10 hc_7 gf_X7_129 rfl ?_
        refine ev_isub (q := 47) dX7_office_46 rfl ?_
        exact ev_iret dX7_office_47 rfl
      · refine ev_iconst (q := 49) (v := 0) dX7_office_48 rfl li_0 ?_
        refine ev_istore_n (q := 50) (lv2 := [(2, .int _), (1, .int _), (0, .ref _)]) dX7_office_49 rfl rfl (Nat.le_of_ble_eq_true rfl) rfl ?_
        refine ev_sub (lv' := [(0, .ref _), (2, .int _)]) [2, 0] rfl ?_
        exact X7_office_b50_ok G o ho   fu _ _
set_option maxRecDepth 100000 in
set_option maxHeartbeats 4000000 in
theorem con_X7_office (G : Gt) (o : Nat) (ho : kd o = 7) (mem : Mem) : Con tvI G yX7_office cX7_office 3 (some .int) 7 [.ref (gA G o)] mem (X7_office o mem) := by
  refine con_of (by decide) (Nat.le_of_ble_eq_true rfl) ?_
  show EvR tvI G cX7_office 3 (some .int) RX7 7 0 [(0, .ref (gA G o))] [] mem _
  unfold X7_office
  refine ev_aload_n (q := 1) dX7_office_0 rfl 0 rfl rfl ?_
  refine ev_iconst (q := 2) (v := 0) dX7_office_1 rfl li_0 ?_
  refine ev_putI (q := 5) (ci := 7) (j := 9) (T := TX7) dX7_office_2 rfl cf_7 ho hj_7_9 hc_7 gf_X7_123 rfl rfl (tyX7_ok 9 hj_7_9) ?_
  refine ev_iconst (q := 6) (v := 0) dX7_office_5 rfl li_0 ?_
  refine ev_istore_n (q := 7) (lv2 := [(1, .int _), (0, .ref _)]) dX7_office_6 rfl rfl (Nat.le_of_ble_eq_true rfl) rfl ?_
  refine ev_sub (lv' := [(0, .ref _), (1, .int _)]) [1, 0] rfl ?_
  exact X7_office_b7_ok G o ho   fu _ _
/-! AgingLettersModel.fault()I -/
theorem dX7_fault_0 : decode cX7_fault 0 = .ok (.aload_n 0, 1) := by decide +kernel
theorem dX7_fault_1 : decode cX7_fault 1 = .ok (.getfield 126, 3) := by decide +kernel
theorem dX7_fault_4 : decode cX7_fault 4 = .ok (.ireturn, 1) := by decide +kernel
set_option maxRecDepth 100000 in
set_option maxHeartbeats 4000000 in
theorem con_X7_fault (G : Gt) (o : Nat) (ho : kd o = 7) (mem : Mem) : Con tvI G yX7_fault cX7_fault 1 (some .int) 1 [.ref (gA G o)] mem (X7_fault o mem) := by
  refine con_of (by decide) (Nat.le_of_ble_eq_true rfl) ?_
  show EvR tvI G cX7_fault 1 (some .int) RX7 1 0 [(0, .ref (gA G o))] [] mem _
  unfold X7_fault
  refine ev_aload_n (q := 1) dX7_fault_0 rfl 0 rfl rfl ?_
  refine ev_getI (q := 4) (ci := 7) (j := 8) (T := TX7) dX7_fault_1 rfl cf_7 ho hj_7_8 hc_7 gf_X7_126 rfl ?_
  exact ev_iret dX7_fault_4 rfl
/-! AgingLettersModel.putInto([II)V -/
theorem dX7_putInto_0 : decode cX7_putInto 0 = .ok (.iconst 0, 1) := by decide +kernel
theorem dX7_putInto_1 : decode cX7_putInto 1 = .ok (.istore_n 3, 1) := by decide +kernel
theorem dX7_putInto_2 : decode cX7_putInto 2 = .ok (.iload_n 3, 1) := by decide +kernel
theorem dX7_putInto_3 : decode cX7_putInto 3 = .ok (.bipush 63, 2) := by decide +kernel
theorem dX7_putInto_5 : decode cX7_putInto 5 = .ok (.if_icmp .ge 20, 3) := by decide +kernel
theorem dX7_putInto_8 : decode cX7_putInto 8 = .ok (.aload_n 1, 1) := by decide +kernel
theorem dX7_putInto_9 : decode cX7_putInto 9 = .ok (.iload_n 2, 1) := by decide +kernel
theorem dX7_putInto_10 : decode cX7_putInto 10 = .ok (.iload_n 3, 1) := by decide +kernel
theorem dX7_putInto_11 : decode cX7_putInto 11 = .ok (.iadd, 1) := by decide +kernel
theorem dX7_putInto_12 : decode cX7_putInto 12 = .ok (.aload_n 0, 1) := by decide +kernel
theorem dX7_putInto_13 : decode cX7_putInto 13 = .ok (.getfield 22, 3) := by decide +kernel
theorem dX7_putInto_16 : decode cX7_putInto 16 = .ok (.iload_n 3, 1) := by decide +kernel
theorem dX7_putInto_17 : decode cX7_putInto 17 = .ok (.iaload, 1) := by decide +kernel
theorem dX7_putInto_18 : decode cX7_putInto 18 = .ok (.iastore, 1) := by decide +kernel
theorem dX7_putInto_19 : decode cX7_putInto 19 = .ok (.iinc 3 1, 3) := by decide +kernel
theorem dX7_putInto_22 : decode cX7_putInto 22 = .ok (.goto (-20), 3) := by decide +kernel
theorem dX7_putInto_25 : decode cX7_putInto 25 = .ok (.return_, 1) := by decide +kernel
set_option maxRecDepth 100000 in
set_option maxHeartbeats 4000000 in
theorem X7_putInto_b2_ok (G : Gt) (o : Nat) (p1 : Nat) (ho : kd o = 7) (hp1 : kd p1 = 100)    : ∀ (n : Nat) (x2 : Int32) (x3 : Int32) (mem : Mem), EvR tvU G cX7_putInto 4 none RX7 1 2 [(0, .ref (gA G o)), (1, .ref (gA G p1)), (2, .int (x2)), (3, .int (x3))] [] mem (X7_putInto_b2 o p1 n x2 x3 mem) := by
  intro n
  induction n with
  | zero => intros; exact ev_none
  | succ n ih =>
    intro x2 x3 mem
    rw [X7_putInto_b2]
    refine ev_iload_n (q := 3) dX7_putInto_2 rfl 3 rfl rfl ?_
    refine ev_bipush (q := 5) (v := 63) dX7_putInto_3 rfl lb_63 ?_
    refine ev_icmp_ge (t := 25) (q := 8) dX7_putInto_5 rfl rfl (fun hc1 => ?_) (fun hc1 => ?_)
    · refine ev_aload_n (q := 9) dX7_putInto_8 rfl 1 rfl rfl ?_
      refine ev_iload_n (q := 10) dX7_putInto_9 rfl 2 rfl rfl ?_
      refine ev_iload_n (q := 11) dX7_putInto_10 rfl 3 rfl rfl ?_
      refine ev_iadd (q := 12) dX7_putInto_11 rfl ?_
      refine ev_aload_n (q := 13) dX7_putInto_12 rfl 0 rfl rfl ?_
      refine ev_getR (q := 16) (ci := 7) (j := 5) (T := TX7) dX7_putInto_13 rfl cf_7 ho hj_7_5 hc_7 gf_X7_22 rfl ?_
      refine ev_iload_n (q := 17) dX7_putInto_16 rfl 3 rfl rfl ?_
      refine ev_iald (q := 18) dX7_putInto_17 rfl (kr_7_5 ho) (fun z2 => ?_)
      refine ev_iast (q := 19) dX7_putInto_18 rfl hp1 (fun m3 => ?_)
      refine ev_iinc (q := 22) (lv2 := [(3, .int _), (0, .ref _), (1, .ref _), (2, .int _)]) (v := x3 + 1) dX7_putInto_19 3 rfl rfl (congrArg (HAdd.hAdd _) li_1) (Nat.le_of_ble_eq_true rfl) rfl ?_
      refine ev_goto (t := 2) dX7_putInto_22 rfl ?_
      refine ev_sub (lv' := [(0, .ref _), (1, .ref _), (2, .int _), (3, .int _)]) [1, 2, 3, 0] rfl ?_
      exact ih _ _ _
    · exact ev_vret dX7_putInto_25 rfl
set_option maxRecDepth 100000 in
set_option maxHeartbeats 4000000 in
theorem con_X7_putInto (G : Gt) (o : Nat) (p1 : Nat) (a2 : Int32) (ho : kd o = 7) (hp1 : kd p1 = 100) (mem : Mem) : Con tvU G yX7_putInto cX7_putInto 4 none 1 [.ref (gA G o), .ref (gA G p1), .int a2] mem (X7_putInto o p1 a2 mem) := by
  refine con_of (by decide) (Nat.le_of_ble_eq_true rfl) ?_
  show EvR tvU G cX7_putInto 4 none RX7 1 0 [(0, .ref (gA G o)), (1, .ref (gA G p1)), (2, .int (a2))] [] mem _
  unfold X7_putInto
  refine ev_iconst (q := 1) (v := 0) dX7_putInto_0 rfl li_0 ?_
  refine ev_istore_n (q := 2) (lv2 := [(3, .int _), (0, .ref _), (1, .ref _), (2, .int _)]) dX7_putInto_1 rfl rfl (Nat.le_of_ble_eq_true rfl) rfl ?_
  refine ev_sub (lv' := [(0, .ref _), (1, .ref _), (2, .int _), (3, .int _)]) [1, 2, 3, 0] rfl ?_
  exact X7_putInto_b2_ok G o p1 ho hp1   fu _ _ _
/-! AgingLettersModel.takeFrom([II)V -/
theorem dX7_takeFrom_0 : decode cX7_takeFrom 0 = .ok (.iconst 0, 1) := by decide +kernel
theorem dX7_takeFrom_1 : decode cX7_takeFrom 1 = .ok (.istore_n 3, 1) := by decide +kernel
theorem dX7_takeFrom_2 : decode cX7_takeFrom 2 = .ok (.iload_n 3, 1) := by decide +kernel
theorem dX7_takeFrom_3 : decode cX7_takeFrom 3 = .ok (.bipush 63, 2) := by decide +kernel
theorem dX7_takeFrom_5 : decode cX7_takeFrom 5 = .ok (.if_icmp .ge 20, 3) := by decide +kernel
theorem dX7_takeFrom_8 : decode cX7_takeFrom 8 = .ok (.aload_n 0, 1) := by decide +kernel
theorem dX7_takeFrom_9 : decode cX7_takeFrom 9 = .ok (.getfield 22, 3) := by decide +kernel
theorem dX7_takeFrom_12 : decode cX7_takeFrom 12 = .ok (.iload_n 3, 1) := by decide +kernel
theorem dX7_takeFrom_13 : decode cX7_takeFrom 13 = .ok (.aload_n 1, 1) := by decide +kernel
theorem dX7_takeFrom_14 : decode cX7_takeFrom 14 = .ok (.iload_n 2, 1) := by decide +kernel
theorem dX7_takeFrom_15 : decode cX7_takeFrom 15 = .ok (.iload_n 3, 1) := by decide +kernel
theorem dX7_takeFrom_16 : decode cX7_takeFrom 16 = .ok (.iadd, 1) := by decide +kernel
theorem dX7_takeFrom_17 : decode cX7_takeFrom 17 = .ok (.iaload, 1) := by decide +kernel
theorem dX7_takeFrom_18 : decode cX7_takeFrom 18 = .ok (.iastore, 1) := by decide +kernel
theorem dX7_takeFrom_19 : decode cX7_takeFrom 19 = .ok (.iinc 3 1, 3) := by decide +kernel
theorem dX7_takeFrom_22 : decode cX7_takeFrom 22 = .ok (.goto (-20), 3) := by decide +kernel
theorem dX7_takeFrom_25 : decode cX7_takeFrom 25 = .ok (.return_, 1) := by decide +kernel
set_option maxRecDepth 100000 in
set_option maxHeartbeats 4000000 in
theorem X7_takeFrom_b2_ok (G : Gt) (o : Nat) (p1 : Nat) (ho : kd o = 7) (hp1 : kd p1 = 100)    : ∀ (n : Nat) (x2 : Int32) (x3 : Int32) (mem : Mem), EvR tvU G cX7_takeFrom 4 none RX7 1 2 [(0, .ref (gA G o)), (1, .ref (gA G p1)), (2, .int (x2)), (3, .int (x3))] [] mem (X7_takeFrom_b2 o p1 n x2 x3 mem) := by
  intro n
  induction n with
  | zero => intros; exact ev_none
  | succ n ih =>
    intro x2 x3 mem
    rw [X7_takeFrom_b2]
    refine ev_iload_n (q := 3) dX7_takeFrom_2 rfl 3 rfl rfl ?_
    refine ev_bipush (q := 5) (v := 63) dX7_takeFrom_3 rfl lb_63 ?_
    refine ev_icmp_ge (t := 25) (q := 8) dX7_takeFrom_5 rfl rfl (fun hc1 => ?_) (fun hc1 => ?_)
    · refine ev_aload_n (q := 9) dX7_takeFrom_8 rfl 0 rfl rfl ?_
      refine ev_getR (q := 12) (ci := 7) (j := 5) (T := TX7) dX7_takeFrom_9 rfl cf_7 ho hj_7_5 hc_7 gf_X7_22 rfl ?_
      refine ev_iload_n (q := 13) dX7_takeFrom_12 rfl 3 rfl rfl ?_
      refine ev_aload_n (q := 14) dX7_takeFrom_13 rfl 1 rfl rfl ?_
      refine ev_iload_n (q := 15) dX7_takeFrom_14 rfl 2 rfl rfl ?_
      refine ev_iload_n (q := 16) dX7_takeFrom_15 rfl 3 rfl rfl ?_
      refine ev_iadd (q := 17) dX7_takeFrom_16 rfl ?_
      refine ev_iald (q := 18) dX7_takeFrom_17 rfl hp1 (fun z2 => ?_)
      refine ev_iast (q := 19) dX7_takeFrom_18 rfl (kr_7_5 ho) (fun m3 => ?_)
      refine ev_iinc (q := 22) (lv2 := [(3, .int _), (0, .ref _), (1, .ref _), (2, .int _)]) (v := x3 + 1) dX7_takeFrom_19 3 rfl rfl (congrArg (HAdd.hAdd _) li_1) (Nat.le_of_ble_eq_true rfl) rfl ?_
      refine ev_goto (t := 2) dX7_takeFrom_22 rfl ?_
      refine ev_sub (lv' := [(0, .ref _), (1, .ref _), (2, .int _), (3, .int _)]) [1, 2, 3, 0] rfl ?_
      exact ih _ _ _
    · exact ev_vret dX7_takeFrom_25 rfl
set_option maxRecDepth 100000 in
set_option maxHeartbeats 4000000 in
theorem con_X7_takeFrom (G : Gt) (o : Nat) (p1 : Nat) (a2 : Int32) (ho : kd o = 7) (hp1 : kd p1 = 100) (mem : Mem) : Con tvU G yX7_takeFrom cX7_takeFrom 4 none 1 [.ref (gA G o), .ref (gA G p1), .int a2] mem (X7_takeFrom o p1 a2 mem) := by
  refine con_of (by decide) (Nat.le_of_ble_eq_true rfl) ?_
  show EvR tvU G cX7_takeFrom 4 none RX7 1 0 [(0, .ref (gA G o)), (1, .ref (gA G p1)), (2, .int (a2))] [] mem _
  unfold X7_takeFrom
  refine ev_iconst (q := 1) (v := 0) dX7_takeFrom_0 rfl li_0 ?_
  refine ev_istore_n (q := 2) (lv2 := [(3, .int _), (0, .ref _), (1, .ref _), (2, .int _)]) dX7_takeFrom_1 rfl rfl (Nat.le_of_ble_eq_true rfl) rfl ?_
  refine ev_sub (lv' := [(0, .ref _), (1, .ref _), (2, .int _), (3, .int _)]) [1, 2, 3, 0] rfl ?_
  exact X7_takeFrom_b2_ok G o p1 ho hp1   fu _ _ _
/-! AgingLettersModel.remember()V -/
theorem dX7_remember_0 : decode cX7_remember 0 = .ok (.aload_n 0, 1) := by decide +kernel
theorem dX7_remember_1 : decode cX7_remember 1 = .ok (.getfield 173, 3) := by decide +kernel
theorem dX7_remember_4 : decode cX7_remember 4 = .ok (.bipush 24, 2) := by decide +kernel
theorem dX7_remember_6 : decode cX7_remember 6 = .ok (.if_icmp .ne 44, 3) := by decide +kernel
theorem dX7_remember_9 : decode cX7_remember 9 = .ok (.bipush 63, 2) := by decide +kernel
theorem dX7_remember_11 : decode cX7_remember 11 = .ok (.istore_n 1, 1) := by decide +kernel
theorem dX7_remember_12 : decode cX7_remember 12 = .ok (.iload_n 1, 1) := by decide +kernel
theorem dX7_remember_13 : decode cX7_remember 13 = .ok (.sipush 1512, 3) := by decide +kernel
theorem dX7_remember_16 : decode cX7_remember 16 = .ok (.if_icmp .ge 24, 3) := by decide +kernel
theorem dX7_remember_19 : decode cX7_remember 19 = .ok (.aload_n 0, 1) := by decide +kernel
theorem dX7_remember_20 : decode cX7_remember 20 = .ok (.getfield 31, 3) := by decide +kernel
theorem dX7_remember_23 : decode cX7_remember 23 = .ok (.iload_n 1, 1) := by decide +kernel
theorem dX7_remember_24 : decode cX7_remember 24 = .ok (.bipush 63, 2) := by decide +kernel
theorem dX7_remember_26 : decode cX7_remember 26 = .ok (.isub, 1) := by decide +kernel
theorem dX7_remember_27 : decode cX7_remember 27 = .ok (.aload_n 0, 1) := by decide +kernel
theorem dX7_remember_28 : decode cX7_remember 28 = .ok (.getfield 31, 3) := by decide +kernel
theorem dX7_remember_31 : decode cX7_remember 31 = .ok (.iload_n 1, 1) := by decide +kernel
theorem dX7_remember_32 : decode cX7_remember 32 = .ok (.iaload, 1) := by decide +kernel
theorem dX7_remember_33 : decode cX7_remember 33 = .ok (.iastore, 1) := by decide +kernel
theorem dX7_remember_34 : decode cX7_remember 34 = .ok (.iinc 1 1, 3) := by decide +kernel
theorem dX7_remember_37 : decode cX7_remember 37 = .ok (.goto (-25), 3) := by decide +kernel
theorem dX7_remember_40 : decode cX7_remember 40 = .ok (.aload_n 0, 1) := by decide +kernel
theorem dX7_remember_41 : decode cX7_remember 41 = .ok (.dup, 1) := by decide +kernel
theorem dX7_remember_42 : decode cX7_remember 42 = .ok (.getfield 173, 3) := by decide +kernel
theorem dX7_remember_45 : decode cX7_remember 45 = .ok (.iconst 1, 1) := by decide +kernel
theorem dX7_remember_46 : decode cX7_remember 46 = .ok (.isub, 1) := by decide +kernel
theorem dX7_remember_47 : decode cX7_remember 47 = .ok (.putfield 173, 3) := by decide +kernel
theorem dX7_remember_50 : decode cX7_remember 50 = .ok (.aload_n 0, 1) := by decide +kernel
theorem dX7_remember_51 : decode cX7_remember 51 = .ok (.aload_n 0, 1) := by decide +kernel
theorem dX7_remember_52 : decode cX7_remember 52 = .ok (.getfield 31, 3) := by decide +kernel
theorem dX7_remember_55 : decode cX7_remember 55 = .ok (.bipush 63, 2) := by decide +kernel
theorem dX7_remember_57 : decode cX7_remember 57 = .ok (.aload_n 0, 1) := by decide +kernel
theorem dX7_remember_58 : decode cX7_remember 58 = .ok (.getfield 173, 3) := by decide +kernel
theorem dX7_remember_61 : decode cX7_remember 61 = .ok (.imul, 1) := by decide +kernel
theorem dX7_remember_62 : decode cX7_remember 62 = .ok (.invokevirtual 176, 3) := by decide +kernel
theorem dX7_remember_65 : decode cX7_remember 65 = .ok (.aload_n 0, 1) := by decide +kernel
theorem dX7_remember_66 : decode cX7_remember 66 = .ok (.dup, 1) := by decide +kernel
theorem dX7_remember_67 : decode cX7_remember 67 = .ok (.getfield 173, 3) := by decide +kernel
theorem dX7_remember_70 : decode cX7_remember 70 = .ok (.iconst 1, 1) := by decide +kernel
theorem dX7_remember_71 : decode cX7_remember 71 = .ok (.iadd, 1) := by decide +kernel
theorem dX7_remember_72 : decode cX7_remember 72 = .ok (.putfield 173, 3) := by decide +kernel
theorem dX7_remember_75 : decode cX7_remember 75 = .ok (.return_, 1) := by decide +kernel
set_option maxRecDepth 100000 in
set_option maxHeartbeats 4000000 in
theorem X7_remember_b50_ok (G : Gt) (o : Nat) (ho : kd o = 7)     (mem : Mem) : EvR tvU G cX7_remember 2 none RX7 2 50 [(0, .ref (gA G o))] [] mem (X7_remember_b50 o  mem) := by
  unfold X7_remember_b50
  refine ev_aload_n (q := 51) dX7_remember_50 rfl 0 rfl rfl ?_
  refine ev_aload_n (q := 52) dX7_remember_51 rfl 0 rfl rfl ?_
  refine ev_getR (q := 55) (ci := 7) (j := 14) (T := TX7) dX7_remember_52 rfl cf_7 ho hj_7_14 hc_7 gf_X7_31 rfl ?_
  refine ev_bipush (q := 57) (v := 63) dX7_remember_55 rfl lb_63 ?_
  refine ev_aload_n (q := 58) dX7_remember_57 rfl 0 rfl rfl ?_
  refine ev_getI (q := 61) (ci := 7) (j := 13) (T := TX7) dX7_remember_58 rfl cf_7 ho hj_7_13 hc_7 gf_X7_173 rfl ?_
  refine ev_imul (q := 62) dX7_remember_61 rfl ?_
  refine ev_callVU (q := 65) dX7_remember_62 rfl ml_X7_176 mt_X7_putInto cf_7 rfl ho hc_7 (con_X7_putInto G _ _ _ ho (kr_7_14 ho) _) rfl (Nat.le_of_ble_eq_true rfl) (Nat.le_of_ble_eq_true rfl) rfl (Nat.le_of_ble_eq_true rfl) (fun r2 m3 => ?_)
  refine ev_aload_n (q := 66) dX7_remember_65 rfl 0 rfl rfl ?_
  refine ev_dup (q := 67) dX7_remember_66 rfl rfl ?_
  refine ev_getI (q := 70) (ci := 7) (j := 13) (T := TX7) dX7_remember_67 rfl cf_7 ho hj_7_13 hc_7 gf_X7_173 rfl ?_
  refine ev_iconst (q := 71) (v := 1) dX7_remember_70 rfl li_1 ?_
  refine ev_iadd (q := 72) dX7_remember_71 rfl ?_
  refine ev_putI (q := 75) (ci := 7) (j := 13) (T := TX7) dX7_remember_72 rfl cf_7 ho hj_7_13 hc_7 gf_X7_173 rfl rfl (tyX7_ok 13 hj_7_13) ?_
  exact ev_vret dX7_remember_75 rfl
set_option maxRecDepth 100000 in
set_option maxHeartbeats 4000000 in
theorem X7_remember_b12_ok (G : Gt) (o : Nat) (ho : kd o = 7)    : ∀ (n : Nat) (x1 : Int32) (mem : Mem), EvR tvU G cX7_remember 2 none RX7 2 12 [(0, .ref (gA G o)), (1, .int (x1))] [] mem (X7_remember_b12 o n x1 mem) := by
  intro n
  induction n with
  | zero => intros; exact ev_none
  | succ n ih =>
    intro x1 mem
    rw [X7_remember_b12]
    refine ev_iload_n (q := 13) dX7_remember_12 rfl 1 rfl rfl ?_
    refine ev_sipush (q := 16) (v := 1512) dX7_remember_13 rfl ls_1512 ?_
    refine ev_icmp_ge (t := 40) (q := 19) dX7_remember_16 rfl rfl (fun hc5 => ?_) (fun hc5 => ?_)
    · refine ev_aload_n (q := 20) dX7_remember_19 rfl 0 rfl rfl ?_
      refine ev_getR (q := 23) (ci := 7) (j := 14) (T := TX7) dX7_remember_20 rfl cf_7 ho hj_7_14 hc_7 gf_X7_31 rfl ?_
      refine ev_iload_n (q := 24) dX7_remember_23 rfl 1 rfl rfl ?_
      refine ev_bipush (q := 26) (v := 63) dX7_remember_24 rfl lb_63 ?_
      refine ev_isub (q := 27) dX7_remember_26 rfl ?_
      refine ev_aload_n (q := 28) dX7_remember_27 rfl 0 rfl rfl ?_
      refine ev_getR (q := 31) (ci := 7) (j := 14) (T := TX7) dX7_remember_28 rfl cf_7 ho hj_7_14 hc_7 gf_X7_31 rfl ?_
      refine ev_iload_n (q := 32) dX7_remember_31 rfl 1 rfl rfl ?_
      refine ev_iald (q := 33) dX7_remember_32 rfl (kr_7_14 ho) (fun z7 => ?_)
      refine ev_iast (q := 34) dX7_remember_33 rfl (kr_7_14 ho) (fun m8 => ?_)
      refine ev_iinc (q := 37) (lv2 := [(1, .int _), (0, .ref _)]) (v := x1 + 1) dX7_remember_34 1 rfl rfl (congrArg (HAdd.hAdd _) li_1) (Nat.le_of_ble_eq_true rfl) rfl ?_
      refine ev_goto (t := 12) dX7_remember_37 rfl ?_
      refine ev_sub (lv' := [(0, .ref _), (1, .int _)]) [1, 0] rfl ?_
      exact ih _ _
    · refine ev_aload_n (q := 41) dX7_remember_40 rfl 0 rfl rfl ?_
      refine ev_dup (q := 42) dX7_remember_41 rfl rfl ?_
      refine ev_getI (q := 45) (ci := 7) (j := 13) (T := TX7) dX7_remember_42 rfl cf_7 ho hj_7_13 hc_7 gf_X7_173 rfl ?_
      refine ev_iconst (q := 46) (v := 1) dX7_remember_45 rfl li_1 ?_
      refine ev_isub (q := 47) dX7_remember_46 rfl ?_
      refine ev_putI (q := 50) (ci := 7) (j := 13) (T := TX7) dX7_remember_47 rfl cf_7 ho hj_7_13 hc_7 gf_X7_173 rfl rfl (tyX7_ok 13 hj_7_13) ?_
      refine ev_sub (lv' := [(0, .ref _)]) [0] rfl ?_
      exact X7_remember_b50_ok G o ho   _
set_option maxRecDepth 100000 in
set_option maxHeartbeats 4000000 in
theorem con_X7_remember (G : Gt) (o : Nat) (ho : kd o = 7) (mem : Mem) : Con tvU G yX7_remember cX7_remember 2 none 2 [.ref (gA G o)] mem (X7_remember o mem) := by
  refine con_of (by decide) (Nat.le_of_ble_eq_true rfl) ?_
  show EvR tvU G cX7_remember 2 none RX7 2 0 [(0, .ref (gA G o))] [] mem _
  unfold X7_remember
  refine ev_aload_n (q := 1) dX7_remember_0 rfl 0 rfl rfl ?_
  refine ev_getI (q := 4) (ci := 7) (j := 13) (T := TX7) dX7_remember_1 rfl cf_7 ho hj_7_13 hc_7 gf_X7_173 rfl ?_
  refine ev_bipush (q := 6) (v := 24) dX7_remember_4 rfl lb_24 ?_
  refine ev_icmp_ne (t := 50) (q := 9) dX7_remember_6 rfl rfl (fun hc1 => ?_) (fun hc1 => ?_)
  · refine ev_bipush (q := 11) (v := 63) dX7_remember_9 rfl lb_63 ?_
    refine ev_istore_n (q := 12) (lv2 := [(1, .int _), (0, .ref _)]) dX7_remember_11 rfl rfl (Nat.le_of_ble_eq_true rfl) rfl ?_
    refine ev_sub (lv' := [(0, .ref _), (1, .int _)]) [1, 0] rfl ?_
    exact X7_remember_b12_ok G o ho   fu _ _
  · exact X7_remember_b50_ok G o ho   _
/-! AgingLettersModel.readNow(III)V -/
theorem dX7_readNow_0 : decode cX7_readNow 0 = .ok (.aload_n 0, 1) := by decide +kernel
theorem dX7_readNow_1 : decode cX7_readNow 1 = .ok (.getfield 22, 3) := by decide +kernel
theorem dX7_readNow_4 : decode cX7_readNow 4 = .ok (.bipush 31, 2) := by decide +kernel
theorem dX7_readNow_6 : decode cX7_readNow 6 = .ok (.iload_n 1, 1) := by decide +kernel
theorem dX7_readNow_7 : decode cX7_readNow 7 = .ok (.iadd, 1) := by decide +kernel
theorem dX7_readNow_8 : decode cX7_readNow 8 = .ok (.dup2, 1) := by decide +kernel
theorem dX7_readNow_9 : decode cX7_readNow 9 = .ok (.iaload, 1) := by decide +kernel
theorem dX7_readNow_10 : decode cX7_readNow 10 = .ok (.iload_n 3, 1) := by decide +kernel
theorem dX7_readNow_11 : decode cX7_readNow 11 = .ok (.iadd, 1) := by decide +kernel
theorem dX7_readNow_12 : decode cX7_readNow 12 = .ok (.iastore, 1) := by decide +kernel
theorem dX7_readNow_13 : decode cX7_readNow 13 = .ok (.aload_n 0, 1) := by decide +kernel
theorem dX7_readNow_14 : decode cX7_readNow 14 = .ok (.getfield 22, 3) := by decide +kernel
theorem dX7_readNow_17 : decode cX7_readNow 17 = .ok (.bipush 39, 2) := by decide +kernel
theorem dX7_readNow_19 : decode cX7_readNow 19 = .ok (.iconst 4, 1) := by decide +kernel
theorem dX7_readNow_20 : decode cX7_readNow 20 = .ok (.iload_n 2, 1) := by decide +kernel
theorem dX7_readNow_21 : decode cX7_readNow 21 = .ok (.imul, 1) := by decide +kernel
theorem dX7_readNow_22 : decode cX7_readNow 22 = .ok (.iadd, 1) := by decide +kernel
theorem dX7_readNow_23 : decode cX7_readNow 23 = .ok (.iload_n 1, 1) := by decide +kernel
theorem dX7_readNow_24 : decode cX7_readNow 24 = .ok (.iadd, 1) := by decide +kernel
theorem dX7_readNow_25 : decode cX7_readNow 25 = .ok (.dup2, 1) := by decide +kernel
theorem dX7_readNow_26 : decode cX7_readNow 26 = .ok (.iaload, 1) := by decide +kernel
theorem dX7_readNow_27 : decode cX7_readNow 27 = .ok (.aload_n 0, 1) := by decide +kernel
theorem dX7_readNow_28 : decode cX7_readNow 28 = .ok (.iload_n 1, 1) := by decide +kernel
theorem dX7_readNow_29 : decode cX7_readNow 29 = .ok (.invokevirtual 98, 3) := by decide +kernel
theorem dX7_readNow_32 : decode cX7_readNow 32 = .ok (.ifCond .eq 7, 3) := by decide +kernel
theorem dX7_readNow_35 : decode cX7_readNow 35 = .ok (.iconst 1, 1) := by decide +kernel
theorem dX7_readNow_36 : decode cX7_readNow 36 = .ok (.goto 4, 3) := by decide +kernel
theorem dX7_readNow_39 : decode cX7_readNow 39 = .ok (.iconst 0, 1) := by decide +kernel
theorem dX7_readNow_40 : decode cX7_readNow 40 = .ok (.iadd, 1) := by decide +kernel
theorem dX7_readNow_41 : decode cX7_readNow 41 = .ok (.iastore, 1) := by decide +kernel
theorem dX7_readNow_42 : decode cX7_readNow 42 = .ok (.return_, 1) := by decide +kernel
set_option maxRecDepth 100000 in
set_option maxHeartbeats 4000000 in
theorem X7_readNow_b40_ok (G : Gt) (o : Nat) (ho : kd o = 7)    (s1 : Int32) (s2 : Int32) (s3 : Int32) (mem : Mem) : EvR tvU G cX7_readNow 4 none RX7 3 40 [] [.int (s3), .int (s2), .int (s1), .ref (gA G (rf o 5))] mem (X7_readNow_b40 o s1 s2 s3 mem) := by
  unfold X7_readNow_b40
  refine ev_iadd (q := 41) dX7_readNow_40 rfl ?_
  refine ev_iast (q := 42) dX7_readNow_41 rfl (kr_7_5 ho) (fun m7 => ?_)
  exact ev_vret dX7_readNow_42 rfl
set_option maxRecDepth 100000 in
set_option maxHeartbeats 4000000 in
theorem con_X7_readNow (G : Gt) (o : Nat) (a1 : Int32) (a2 : Int32) (a3 : Int32) (ho : kd o = 7) (mem : Mem) : Con tvU G yX7_readNow cX7_readNow 4 none 3 [.ref (gA G o), .int a1, .int a2, .int a3] mem (X7_readNow o a1 a2 a3 mem) := by
  refine con_of (by decide) (Nat.le_of_ble_eq_true rfl) ?_
  show EvR tvU G cX7_readNow 4 none RX7 3 0 [(0, .ref (gA G o)), (1, .int (a1)), (2, .int (a2)), (3, .int (a3))] [] mem _
  unfold X7_readNow
  refine ev_aload_n (q := 1) dX7_readNow_0 rfl 0 rfl rfl ?_
  refine ev_getR (q := 4) (ci := 7) (j := 5) (T := TX7) dX7_readNow_1 rfl cf_7 ho hj_7_5 hc_7 gf_X7_22 rfl ?_
  refine ev_bipush (q := 6) (v := 31) dX7_readNow_4 rfl lb_31 ?_
  refine ev_iload_n (q := 7) dX7_readNow_6 rfl 1 rfl rfl ?_
  refine ev_iadd (q := 8) dX7_readNow_7 rfl ?_
  refine ev_dup2_11 (q := 9) dX7_readNow_8 rfl rfl rfl ?_
  refine ev_iald (q := 10) dX7_readNow_9 rfl (kr_7_5 ho) (fun z1 => ?_)
  refine ev_iload_n (q := 11) dX7_readNow_10 rfl 3 rfl rfl ?_
  refine ev_iadd (q := 12) dX7_readNow_11 rfl ?_
  refine ev_iast (q := 13) dX7_readNow_12 rfl (kr_7_5 ho) (fun m2 => ?_)
  refine ev_aload_n (q := 14) dX7_readNow_13 rfl 0 rfl rfl ?_
  refine ev_getR (q := 17) (ci := 7) (j := 5) (T := TX7) dX7_readNow_14 rfl cf_7 ho hj_7_5 hc_7 gf_X7_22 rfl ?_
  refine ev_bipush (q := 19) (v := 39) dX7_readNow_17 rfl lb_39 ?_
  refine ev_iconst (q := 20) (v := 4) dX7_readNow_19 rfl li_4 ?_
  refine ev_iload_n (q := 21) dX7_readNow_20 rfl 2 rfl rfl ?_
  refine ev_imul (q := 22) dX7_readNow_21 rfl ?_
  refine ev_iadd (q := 23) dX7_readNow_22 rfl ?_
  refine ev_iload_n (q := 24) dX7_readNow_23 rfl 1 rfl rfl ?_
  refine ev_iadd (q := 25) dX7_readNow_24 rfl ?_
  refine ev_dup2_11 (q := 26) dX7_readNow_25 rfl rfl rfl ?_
  refine ev_iald (q := 27) dX7_readNow_26 rfl (kr_7_5 ho) (fun z3 => ?_)
  refine ev_aload_n (q := 28) dX7_readNow_27 rfl 0 rfl rfl ?_
  refine ev_iload_n (q := 29) dX7_readNow_28 rfl 1 rfl rfl ?_
  refine ev_callVI (q := 32) dX7_readNow_29 rfl ml_X7_98 mt_X7_isAlive cf_7 rfl ho hc_7 (con_X7_isAlive G _ _ ho _) rfl (Nat.le_of_ble_eq_true rfl) (Nat.le_of_ble_eq_true rfl) rfl (Nat.le_of_ble_eq_true rfl) (fun r4 m5 => ?_)
  refine ev_if_eq (t := 39) (q := 35) dX7_readNow_32 rfl rfl (fun hc6 => ?_) (fun hc6 => ?_)
  · refine ev_iconst (q := 40) (v := 0) dX7_readNow_39 rfl li_0 ?_
    refine ev_sub (lv' := []) [] rfl ?_
    exact X7_readNow_b40_ok G o ho   _ _ _ _
  · refine ev_iconst (q := 36) (v := 1) dX7_readNow_35 rfl li_1 ?_
    refine ev_goto (t := 40) dX7_readNow_36 rfl ?_
    refine ev_sub (lv' := []) [] rfl ?_
    exact X7_readNow_b40_ok G o ho   _ _ _ _
/-! AgingLettersModel.read(II)I -/
theorem dX7_read_0 : decode cX7_read 0 = .ok (.aload_n 0, 1) := by decide +kernel
theorem dX7_read_1 : decode cX7_read 1 = .ok (.iload_n 1, 1) := by decide +kernel
theorem dX7_read_2 : decode cX7_read 2 = .ok (.invokevirtual 180, 3) := by decide +kernel
theorem dX7_read_5 : decode cX7_read 5 = .ok (.ifCond .eq 11, 3) := by decide +kernel
theorem dX7_read_8 : decode cX7_read 8 = .ok (.aload_n 0, 1) := by decide +kernel
theorem dX7_read_9 : decode cX7_read 9 = .ok (.iload_n 2, 1) := by decide +kernel
theorem dX7_read_10 : decode cX7_read 10 = .ok (.invokevirtual 183, 3) := by decide +kernel
theorem dX7_read_13 : decode cX7_read 13 = .ok (.ifCond .ne 6, 3) := by decide +kernel
theorem dX7_read_16 : decode cX7_read 16 = .ok (.ldc 73, 2) := by decide +kernel
theorem dX7_read_18 : decode cX7_read 18 = .ok (.ireturn, 1) := by decide +kernel
theorem dX7_read_19 : decode cX7_read 19 = .ok (.aload_n 0, 1) := by decide +kernel
theorem dX7_read_20 : decode cX7_read 20 = .ok (.iload_n 1, 1) := by decide +kernel
theorem dX7_read_21 : decode cX7_read 21 = .ok (.invokevirtual 186, 3) := by decide +kernel
theorem dX7_read_24 : decode cX7_read 24 = .ok (.ifCond .ne 6, 3) := by decide +kernel
theorem dX7_read_27 : decode cX7_read 27 = .ok (.ldc 189, 2) := by decide +kernel
theorem dX7_read_29 : decode cX7_read 29 = .ok (.ireturn, 1) := by decide +kernel
theorem dX7_read_30 : decode cX7_read 30 = .ok (.aload_n 0, 1) := by decide +kernel
theorem dX7_read_31 : decode cX7_read 31 = .ok (.invokevirtual 190, 3) := by decide +kernel
theorem dX7_read_34 : decode cX7_read 34 = .ok (.aload_n 0, 1) := by decide +kernel
theorem dX7_read_35 : decode cX7_read 35 = .ok (.iload_n 1, 1) := by decide +kernel
theorem dX7_read_36 : decode cX7_read 36 = .ok (.iload_n 2, 1) := by decide +kernel
theorem dX7_read_37 : decode cX7_read 37 = .ok (.aload_n 0, 1) := by decide +kernel
theorem dX7_read_38 : decode cX7_read 38 = .ok (.iload_n 1, 1) := by decide +kernel
theorem dX7_read_39 : decode cX7_read 39 = .ok (.iload_n 2, 1) := by decide +kernel
theorem dX7_read_40 : decode cX7_read 40 = .ok (.invokevirtual 193, 3) := by decide +kernel
theorem dX7_read_43 : decode cX7_read 43 = .ok (.invokevirtual 196, 3) := by decide +kernel
theorem dX7_read_46 : decode cX7_read 46 = .ok (.aload_n 0, 1) := by decide +kernel
theorem dX7_read_47 : decode cX7_read 47 = .ok (.iload_n 1, 1) := by decide +kernel
theorem dX7_read_48 : decode cX7_read 48 = .ok (.invokevirtual 92, 3) := by decide +kernel
theorem dX7_read_51 : decode cX7_read 51 = .ok (.ireturn, 1) := by decide +kernel
set_option maxRecDepth 100000 in
set_option maxHeartbeats 4000000 in
theorem con_X7_read (G : Gt) (o : Nat) (a1 : Int32) (a2 : Int32) (ho : kd o = 7) (mem : Mem) : Con tvI G yX7_read cX7_read 3 (some .int) 5 [.ref (gA G o), .int a1, .int a2] mem (X7_read o a1 a2 mem) := by
  refine con_of (by decide) (Nat.le_of_ble_eq_true rfl) ?_
  show EvR tvI G cX7_read 3 (some .int) RX7 5 0 [(0, .ref (gA G o)), (1, .int (a1)), (2, .int (a2))] [] mem _
  unfold X7_read
  refine ev_aload_n (q := 1) dX7_read_0 rfl 0 rfl rfl ?_
  refine ev_iload_n (q := 2) dX7_read_1 rfl 1 rfl rfl ?_
  refine ev_callVI (q := 5) dX7_read_2 rfl ml_X7_180 mt_X7_isReader cf_7 rfl ho hc_7 (con_X7_isReader G _ _ ho _) rfl (Nat.le_of_ble_eq_true rfl) (Nat.le_of_ble_eq_true rfl) rfl (Nat.le_of_ble_eq_true rfl) (fun r1 m2 => ?_)
  refine ev_if_eq (t := 16) (q := 8) dX7_read_5 rfl rfl (fun hc3 => ?_) (fun hc3 => ?_)
  · refine ev_ldc (q := 18) (v := (-1000001)) dX7_read_16 rfl kc_X7_73 ?_
    exact ev_iret dX7_read_18 rfl
  · refine ev_aload_n (q := 9) dX7_read_8 rfl 0 rfl rfl ?_
    refine ev_iload_n (q := 10) dX7_read_9 rfl 2 rfl rfl ?_
    refine ev_callVI (q := 13) dX7_read_10 rfl ml_X7_183 mt_X7_isLetter cf_7 rfl ho hc_7 (con_X7_isLetter G _ _ ho _) rfl (Nat.le_of_ble_eq_true rfl) (Nat.le_of_ble_eq_true rfl) rfl (Nat.le_of_ble_eq_true rfl) (fun r4 m5 => ?_)
    refine ev_if_ne (t := 19) (q := 16) dX7_read_13 rfl rfl (fun hc6 => ?_) (fun hc6 => ?_)
    · refine ev_ldc (q := 18) (v := (-1000001)) dX7_read_16 rfl kc_X7_73 ?_
      exact ev_iret dX7_read_18 rfl
    · refine ev_aload_n (q := 20) dX7_read_19 rfl 0 rfl rfl ?_
      refine ev_iload_n (q := 21) dX7_read_20 rfl 1 rfl rfl ?_
      refine ev_callVI (q := 24) dX7_read_21 rfl ml_X7_186 mt_X7_isFit cf_7 rfl ho hc_7 (con_X7_isFit G _ _ ho _) rfl (Nat.le_of_ble_eq_true rfl) (Nat.le_of_ble_eq_true rfl) rfl (Nat.le_of_ble_eq_true rfl) (fun r7 m8 => ?_)
      refine ev_if_ne (t := 30) (q := 27) dX7_read_24 rfl rfl (fun hc9 => ?_) (fun hc9 => ?_)
      · refine ev_ldc (q := 29) (v := (-1000002)) dX7_read_27 rfl kc_X7_189 ?_
        exact ev_iret dX7_read_29 rfl
      · refine ev_aload_n (q := 31) dX7_read_30 rfl 0 rfl rfl ?_
        refine ev_callVU (q := 34) dX7_read_31 rfl ml_X7_190 mt_X7_remember cf_7 rfl ho hc_7 (con_X7_remember G _ ho _) rfl (Nat.le_of_ble_eq_true rfl) (Nat.le_of_ble_eq_true rfl) rfl (Nat.le_of_ble_eq_true rfl) (fun r10 m11 => ?_)
        refine ev_aload_n (q := 35) dX7_read_34 rfl 0 rfl rfl ?_
        refine ev_iload_n (q := 36) dX7_read_35 rfl 1 rfl rfl ?_
        refine ev_iload_n (q := 37) dX7_read_36 rfl 2 rfl rfl ?_
        refine ev_aload_n (q := 38) dX7_read_37 rfl 0 rfl rfl ?_
        refine ev_iload_n (q := 39) dX7_read_38 rfl 1 rfl rfl ?_
        refine ev_iload_n (q := 40) dX7_read_39 rfl 2 rfl rfl ?_
        refine ev_callVI (q := 43) dX7_read_40 rfl ml_X7_193 mt_X7_cost cf_7 rfl ho hc_7 (con_X7_cost G _ _ _ ho _) rfl (Nat.le_of_ble_eq_true rfl) (Nat.le_of_ble_eq_true rfl) rfl (Nat.le_of_ble_eq_true rfl) (fun r12 m13 => ?_)
        refine ev_callVU (q := 46) dX7_read_43 rfl ml_X7_196 mt_X7_readNow cf_7 rfl ho hc_7 (con_X7_readNow G _ _ _ _ ho _) rfl (Nat.le_of_ble_eq_true rfl) (Nat.le_of_ble_eq_true rfl) rfl (Nat.le_of_ble_eq_true rfl) (fun r14 m15 => ?_)
        refine ev_aload_n (q := 47) dX7_read_46 rfl 0 rfl rfl ?_
        refine ev_iload_n (q := 48) dX7_read_47 rfl 1 rfl rfl ?_
        refine ev_callVI (q := 51) dX7_read_48 rfl ml_X7_92 mt_X7_age cf_7 rfl ho hc_7 (con_X7_age G _ _ ho _) rfl (Nat.le_of_ble_eq_true rfl) (Nat.le_of_ble_eq_true rfl) rfl (Nat.le_of_ble_eq_true rfl) (fun r16 m17 => ?_)
        exact ev_iret dX7_read_51 rfl
/-! AgingLettersModel.alive()I -/
theorem dX7_alive_0 : decode cX7_alive 0 = .ok (.iconst 0, 1) := by decide +kernel
theorem dX7_alive_1 : decode cX7_alive 1 = .ok (.istore_n 1, 1) := by decide +kernel
theorem dX7_alive_2 : decode cX7_alive 2 = .ok (.iconst 0, 1) := by decide +kernel
theorem dX7_alive_3 : decode cX7_alive 3 = .ok (.istore_n 2, 1) := by decide +kernel
theorem dX7_alive_4 : decode cX7_alive 4 = .ok (.iload_n 2, 1) := by decide +kernel
theorem dX7_alive_5 : decode cX7_alive 5 = .ok (.aload_n 0, 1) := by decide +kernel
theorem dX7_alive_6 : decode cX7_alive 6 = .ok (.invokevirtual 89, 3) := by decide +kernel
theorem dX7_alive_9 : decode cX7_alive 9 = .ok (.if_icmp .ge 27, 3) := by decide +kernel
theorem dX7_alive_12 : decode cX7_alive 12 = .ok (.iload_n 1, 1) := by decide +kernel
theorem dX7_alive_13 : decode cX7_alive 13 = .ok (.aload_n 0, 1) := by decide +kernel
theorem dX7_alive_14 : decode cX7_alive 14 = .ok (.iload_n 2, 1) := by decide +kernel
theorem dX7_alive_15 : decode cX7_alive 15 = .ok (.invokevirtual 98, 3) := by decide +kernel
theorem dX7_alive_18 : decode cX7_alive 18 = .ok (.ifCond .eq 9, 3) := by decide +kernel
theorem dX7_alive_21 : decode cX7_alive 21 = .ok (.iconst 1, 1) := by decide +kernel
theorem dX7_alive_22 : decode cX7_alive 22 = .ok (.iload_n 2, 1) := by decide +kernel
theorem dX7_alive_23 : decode cX7_alive 23 = .ok (.ishl, 1) := by decide +kernel
theorem dX7_alive_24 : decode cX7_alive 24 = .ok (.goto 4, 3) := by decide +kernel
theorem dX7_alive_27 : decode cX7_alive 27 = .ok (.iconst 0, 1) := by decide +kernel
theorem dX7_alive_28 : decode cX7_alive 28 = .ok (.ior, 1) := by decide +kernel
theorem dX7_alive_29 : decode cX7_alive 29 = .ok (.istore_n 1, 1) := by decide +kernel
theorem dX7_alive_30 : decode cX7_alive 30 = .ok (.iinc 2 1, 3) := by decide +kernel
theorem dX7_alive_33 : decode cX7_alive 33 = .ok (.goto (-29), 3) := by decide +kernel
theorem dX7_alive_36 : decode cX7_alive 36 = .ok (.iload_n 1, 1) := by decide +kernel
theorem dX7_alive_37 : decode cX7_alive 37 = .ok (.ireturn, 1) := by decide +kernel
set_option maxRecDepth 100000 in
set_option maxHeartbeats 4000000 in
theorem X7_alive_b28_ok (G : Gt) (o : Nat) (ho : kd o = 7)   (k4 : Int32 → Int32 → Mem → Option (Int32 × Mem)) (hk4 : ∀ (x1 : Int32) (x2 : Int32) (mem : Mem), EvR tvI G cX7_alive 3 (some .int) RX7 3 4 [(0, .ref (gA G o)), (1, .int (x1)), (2, .int (x2))] [] mem (k4 x1 x2 mem)) (x2 : Int32) (s0 : Int32) (s1 : Int32) (mem : Mem) : EvR tvI G cX7_alive 3 (some .int) RX7 3 28 [(0, .ref (gA G o)), (2, .int (x2))] [.int (s1), .int (s0)] mem (X7_alive_b28 o k4 x2 s0 s1 mem) := by
  unfold X7_alive_b28
  refine ev_ior (q := 29) dX7_alive_28 rfl ?_
  refine ev_istore_n (q := 30) (lv2 := [(1, .int _), (0, .ref _), (2, .int _)]) dX7_alive_29 rfl rfl (Nat.le_of_ble_eq_true rfl) rfl ?_
  refine ev_iinc (q := 33) (lv2 := [(2, .int _), (1, .int _), (0, .ref _)]) (v := x2 + 1) dX7_alive_30 2 rfl rfl (congrArg (HAdd.hAdd _) li_1) (Nat.le_of_ble_eq_true rfl) rfl ?_
  refine ev_goto (t := 4) dX7_alive_33 rfl ?_
  refine ev_sub (lv' := [(0, .ref _), (1, .int _), (2, .int _)]) [2, 1, 0] rfl ?_
  exact hk4 _ _ _
set_option maxRecDepth 100000 in
set_option maxHeartbeats 4000000 in
theorem X7_alive_b4_ok (G : Gt) (o : Nat) (ho : kd o = 7)    : ∀ (n : Nat) (x1 : Int32) (x2 : Int32) (mem : Mem), EvR tvI G cX7_alive 3 (some .int) RX7 3 4 [(0, .ref (gA G o)), (1, .int (x1)), (2, .int (x2))] [] mem (X7_alive_b4 o n x1 x2 mem) := by
  intro n
  induction n with
  | zero => intros; exact ev_none
  | succ n ih =>
    intro x1 x2 mem
    rw [X7_alive_b4]
    refine ev_iload_n (q := 5) dX7_alive_4 rfl 2 rfl rfl ?_
    refine ev_aload_n (q := 6) dX7_alive_5 rfl 0 rfl rfl ?_
    refine ev_callVI (q := 9) dX7_alive_6 rfl ml_X7_89 mt_X7_readers cf_7 rfl ho hc_7 (con_X7_readers G _ ho _) rfl (Nat.le_of_ble_eq_true rfl) (Nat.le_of_ble_eq_true rfl) rfl (Nat.le_of_ble_eq_true rfl) (fun r1 m2 => ?_)
    refine ev_icmp_ge (t := 36) (q := 12) dX7_alive_9 rfl rfl (fun hc3 => ?_) (fun hc3 => ?_)
    · refine ev_iload_n (q := 13) dX7_alive_12 rfl 1 rfl rfl ?_
      refine ev_aload_n (q := 14) dX7_alive_13 rfl 0 rfl rfl ?_
      refine ev_iload_n (q := 15) dX7_alive_14 rfl 2 rfl rfl ?_
      refine ev_callVI (q := 18) dX7_alive_15 rfl ml_X7_98 mt_X7_isAlive cf_7 rfl ho hc_7 (con_X7_isAlive G _ _ ho _) rfl (Nat.le_of_ble_eq_true rfl) (Nat.le_of_ble_eq_true rfl) rfl (Nat.le_of_ble_eq_true rfl) (fun r4 m5 => ?_)
      refine ev_if_eq (t := 27) (q := 21) dX7_alive_18 rfl rfl (fun hc6 => ?_) (fun hc6 => ?_)
      · refine ev_iconst (q := 28) (v := 0) dX7_alive_27 rfl li_0 ?_
        refine ev_sub (lv' := [(0, .ref _), (2, .int _)]) [0, 2] rfl ?_
        exact X7_alive_b28_ok G o ho  (X7_alive_b4 o n) ih _ _ _ _
      · refine ev_iconst (q := 22) (v := 1) dX7_alive_21 rfl li_1 ?_
        refine ev_iload_n (q := 23) dX7_alive_22 rfl 2 rfl rfl ?_
        refine ev_ishl (q := 24) dX7_alive_23 rfl ?_
        refine ev_goto (t := 28) dX7_alive_24 rfl ?_
        refine ev_sub (lv' := [(0, .ref _), (2, .int _)]) [0, 2] rfl ?_
        exact X7_alive_b28_ok G o ho  (X7_alive_b4 o n) ih _ _ _ _
    · refine ev_iload_n (q := 37) dX7_alive_36 rfl 1 rfl rfl ?_
      exact ev_iret dX7_alive_37 rfl
set_option maxRecDepth 100000 in
set_option maxHeartbeats 4000000 in
theorem con_X7_alive (G : Gt) (o : Nat) (ho : kd o = 7) (mem : Mem) : Con tvI G yX7_alive cX7_alive 3 (some .int) 3 [.ref (gA G o)] mem (X7_alive o mem) := by
  refine con_of (by decide) (Nat.le_of_ble_eq_true rfl) ?_
  show EvR tvI G cX7_alive 3 (some .int) RX7 3 0 [(0, .ref (gA G o))] [] mem _
  unfold X7_alive
  refine ev_iconst (q := 1) (v := 0) dX7_alive_0 rfl li_0 ?_
  refine ev_istore_n (q := 2) (lv2 := [(1, .int _), (0, .ref _)]) dX7_alive_1 rfl rfl (Nat.le_of_ble_eq_true rfl) rfl ?_
  refine ev_iconst (q := 3) (v := 0) dX7_alive_2 rfl li_0 ?_
  refine ev_istore_n (q := 4) (lv2 := [(2, .int _), (1, .int _), (0, .ref _)]) dX7_alive_3 rfl rfl (Nat.le_of_ble_eq_true rfl) rfl ?_
  refine ev_sub (lv' := [(0, .ref _), (1, .int _), (2, .int _)]) [2, 1, 0] rfl ?_
  exact X7_alive_b4_ok G o ho   fu _ _ _
/-! AgingLettersModel.aloud(III)I -/
theorem dX7_aloud_0 : decode cX7_aloud 0 = .ok (.aload_n 0, 1) := by decide +kernel
theorem dX7_aloud_1 : decode cX7_aloud 1 = .ok (.iload_n 1, 1) := by decide +kernel
theorem dX7_aloud_2 : decode cX7_aloud 2 = .ok (.invokevirtual 180, 3) := by decide +kernel
theorem dX7_aloud_5 : decode cX7_aloud 5 = .ok (.ifCond .eq 37, 3) := by decide +kernel
theorem dX7_aloud_8 : decode cX7_aloud 8 = .ok (.iload_n 2, 1) := by decide +kernel
theorem dX7_aloud_9 : decode cX7_aloud 9 = .ok (.i2l, 1) := by decide +kernel
theorem dX7_aloud_10 : decode cX7_aloud 10 = .ok (.lconst 0, 1) := by decide +kernel
theorem dX7_aloud_11 : decode cX7_aloud 11 = .ok (.iconst 1, 1) := by decide +kernel
theorem dX7_aloud_12 : decode cX7_aloud 12 = .ok (.aload_n 0, 1) := by decide +kernel
theorem dX7_aloud_13 : decode cX7_aloud 13 = .ok (.invokevirtual 89, 3) := by decide +kernel
theorem dX7_aloud_16 : decode cX7_aloud 16 = .ok (.ishl, 1) := by decide +kernel
theorem dX7_aloud_17 : decode cX7_aloud 17 = .ok (.iconst 1, 1) := by decide +kernel
theorem dX7_aloud_18 : decode cX7_aloud 18 = .ok (.isub, 1) := by decide +kernel
theorem dX7_aloud_19 : decode cX7_aloud 19 = .ok (.i2l, 1) := by decide +kernel
theorem dX7_aloud_20 : decode cX7_aloud 20 = .ok (.invokestatic 63, 3) := by decide +kernel
theorem dX7_aloud_23 : decode cX7_aloud 23 = .ok (.ifCond .eq 19, 3) := by decide +kernel
theorem dX7_aloud_26 : decode cX7_aloud 26 = .ok (.iload_n 2, 1) := by decide +kernel
theorem dX7_aloud_27 : decode cX7_aloud 27 = .ok (.iload_n 1, 1) := by decide +kernel
theorem dX7_aloud_28 : decode cX7_aloud 28 = .ok (.invokestatic 200, 3) := by decide +kernel
theorem dX7_aloud_31 : decode cX7_aloud 31 = .ok (.ifCond .ne 11, 3) := by decide +kernel
theorem dX7_aloud_34 : decode cX7_aloud 34 = .ok (.aload_n 0, 1) := by decide +kernel
theorem dX7_aloud_35 : decode cX7_aloud 35 = .ok (.iload_n 3, 1) := by decide +kernel
theorem dX7_aloud_36 : decode cX7_aloud 36 = .ok (.invokevirtual 183, 3) := by decide +kernel
theorem dX7_aloud_39 : decode cX7_aloud 39 = .ok (.ifCond .ne 6, 3) := by decide +kernel
theorem dX7_aloud_42 : decode cX7_aloud 42 = .ok (.ldc 73, 2) := by decide +kernel
theorem dX7_aloud_44 : decode cX7_aloud 44 = .ok (.ireturn, 1) := by decide +kernel
theorem dX7_aloud_45 : decode cX7_aloud 45 = .ok (.aload_n 0, 1) := by decide +kernel
theorem dX7_aloud_46 : decode cX7_aloud 46 = .ok (.iload_n 1, 1) := by decide +kernel
theorem dX7_aloud_47 : decode cX7_aloud 47 = .ok (.invokevirtual 186, 3) := by decide +kernel
theorem dX7_aloud_50 : decode cX7_aloud 50 = .ok (.ifCond .eq 14, 3) := by decide +kernel
theorem dX7_aloud_53 : decode cX7_aloud 53 = .ok (.iload_n 2, 1) := by decide +kernel
theorem dX7_aloud_54 : decode cX7_aloud 54 = .ok (.aload_n 0, 1) := by decide +kernel
theorem dX7_aloud_55 : decode cX7_aloud 55 = .ok (.invokevirtual 203, 3) := by decide +kernel
theorem dX7_aloud_58 : decode cX7_aloud 58 = .ok (.iconst (-1), 1) := by decide +kernel
theorem dX7_aloud_59 : decode cX7_aloud 59 = .ok (.ixor, 1) := by decide +kernel
theorem dX7_aloud_60 : decode cX7_aloud 60 = .ok (.iand, 1) := by decide +kernel
theorem dX7_aloud_61 : decode cX7_aloud 61 = .ok (.ifCond .eq 6, 3) := by decide +kernel
theorem dX7_aloud_64 : decode cX7_aloud 64 = .ok (.ldc 189, 2) := by decide +kernel
theorem dX7_aloud_66 : decode cX7_aloud 66 = .ok (.ireturn, 1) := by decide +kernel
theorem dX7_aloud_67 : decode cX7_aloud 67 = .ok (.aload_n 0, 1) := by decide +kernel
theorem dX7_aloud_68 : decode cX7_aloud 68 = .ok (.invokevirtual 190, 3) := by decide +kernel
theorem dX7_aloud_71 : decode cX7_aloud 71 = .ok (.aload_n 0, 1) := by decide +kernel
theorem dX7_aloud_72 : decode cX7_aloud 72 = .ok (.iload_n 1, 1) := by decide +kernel
theorem dX7_aloud_73 : decode cX7_aloud 73 = .ok (.iload_n 3, 1) := by decide +kernel
theorem dX7_aloud_74 : decode cX7_aloud 74 = .ok (.invokevirtual 193, 3) := by decide +kernel
theorem dX7_aloud_77 : decode cX7_aloud 77 = .ok (.istore 4, 2) := by decide +kernel
theorem dX7_aloud_79 : decode cX7_aloud 79 = .ok (.aload_n 0, 1) := by decide +kernel
theorem dX7_aloud_80 : decode cX7_aloud 80 = .ok (.iload_n 1, 1) := by decide +kernel
theorem dX7_aloud_81 : decode cX7_aloud 81 = .ok (.iload_n 3, 1) := by decide +kernel
theorem dX7_aloud_82 : decode cX7_aloud 82 = .ok (.iload 4, 2) := by decide +kernel
theorem dX7_aloud_84 : decode cX7_aloud 84 = .ok (.invokevirtual 196, 3) := by decide +kernel
theorem dX7_aloud_87 : decode cX7_aloud 87 = .ok (.iconst 0, 1) := by decide +kernel
theorem dX7_aloud_88 : decode cX7_aloud 88 = .ok (.istore 5, 2) := by decide +kernel
theorem dX7_aloud_90 : decode cX7_aloud 90 = .ok (.iload 5, 2) := by decide +kernel
theorem dX7_aloud_92 : decode cX7_aloud 92 = .ok (.aload_n 0, 1) := by decide +kernel
theorem dX7_aloud_93 : decode cX7_aloud 93 = .ok (.invokevirtual 89, 3) := by decide +kernel
theorem dX7_aloud_96 : decode cX7_aloud 96 = .ok (.if_icmp .ge 54, 3) := by decide +kernel
theorem dX7_aloud_99 : decode cX7_aloud 99 = .ok (.iload_n 2, 1) := by decide +kernel
theorem dX7_aloud_100 : decode cX7_aloud 100 = .ok (.iload 5, 2) := by decide +kernel
theorem dX7_aloud_102 : decode cX7_aloud 102 = .ok (.invokestatic 200, 3) := by decide +kernel
theorem dX7_aloud_105 : decode cX7_aloud 105 = .ok (.ifCond .eq 39, 3) := by decide +kernel
theorem dX7_aloud_108 : decode cX7_aloud 108 = .ok (.aload_n 0, 1) := by decide +kernel
theorem dX7_aloud_109 : decode cX7_aloud 109 = .ok (.getfield 22, 3) := by decide +kernel
theorem dX7_aloud_112 : decode cX7_aloud 112 = .ok (.bipush 31, 2) := by decide +kernel
theorem dX7_aloud_114 : decode cX7_aloud 114 = .ok (.iload 5, 2) := by decide +kernel
theorem dX7_aloud_116 : decode cX7_aloud 116 = .ok (.iadd, 1) := by decide +kernel
theorem dX7_aloud_117 : decode cX7_aloud 117 = .ok (.dup2, 1) := by decide +kernel
theorem dX7_aloud_118 : decode cX7_aloud 118 = .ok (.iaload, 1) := by decide +kernel
theorem dX7_aloud_119 : decode cX7_aloud 119 = .ok (.iload 4, 2) := by decide +kernel
theorem dX7_aloud_121 : decode cX7_aloud 121 = .ok (.bipush 10, 2) := by decide +kernel
theorem dX7_aloud_123 : decode cX7_aloud 123 = .ok (.invokestatic 104, 3) := by decide +kernel
theorem dX7_aloud_126 : decode cX7_aloud 126 = .ok (.iadd, 1) := by decide +kernel
theorem dX7_aloud_127 : decode cX7_aloud 127 = .ok (.iastore, 1) := by decide +kernel
theorem dX7_aloud_128 : decode cX7_aloud 128 = .ok (.aload_n 0, 1) := by decide +kernel
theorem dX7_aloud_129 : decode cX7_aloud 129 = .ok (.getfield 22, 3) := by decide +kernel
theorem dX7_aloud_132 : decode cX7_aloud 132 = .ok (.bipush 35, 2) := by decide +kernel
theorem dX7_aloud_134 : decode cX7_aloud 134 = .ok (.iload 5, 2) := by decide +kernel
theorem dX7_aloud_136 : decode cX7_aloud 136 = .ok (.iadd, 1) := by decide +kernel
theorem dX7_aloud_137 : decode cX7_aloud 137 = .ok (.dup2, 1) := by decide +kernel
theorem dX7_aloud_138 : decode cX7_aloud 138 = .ok (.iaload, 1) := by decide +kernel
theorem dX7_aloud_139 : decode cX7_aloud 139 = .ok (.iconst 1, 1) := by decide +kernel
theorem dX7_aloud_140 : decode cX7_aloud 140 = .ok (.iload_n 3, 1) := by decide +kernel
theorem dX7_aloud_141 : decode cX7_aloud 141 = .ok (.ishl, 1) := by decide +kernel
theorem dX7_aloud_142 : decode cX7_aloud 142 = .ok (.ior, 1) := by decide +kernel
theorem dX7_aloud_143 : decode cX7_aloud 143 = .ok (.iastore, 1) := by decide +kernel
theorem dX7_aloud_144 : decode cX7_aloud 144 = .ok (.iinc 5 1, 3) := by decide +kernel
theorem dX7_aloud_147 : decode cX7_aloud 147 = .ok (.goto (-57), 3) := by decide +kernel
theorem dX7_aloud_150 : decode cX7_aloud 150 = .ok (.aload_n 0, 1) := by decide +kernel
theorem dX7_aloud_151 : decode cX7_aloud 151 = .ok (.iload_n 1, 1) := by decide +kernel
theorem dX7_aloud_152 : decode cX7_aloud 152 = .ok (.invokevirtual 92, 3) := by decide +kernel
theorem dX7_aloud_155 : decode cX7_aloud 155 = .ok (.ireturn, 1) := by decide +kernel
set_option maxRecDepth 100000 in
set_option maxHeartbeats 4000000 in
theorem X7_aloud_b144_ok (G : Gt) (o : Nat) (ho : kd o = 7)   (k90 : Int32 → Int32 → Int32 → Int32 → Int32 → Mem → Option (Int32 × Mem)) (hk90 : ∀ (x1 : Int32) (x2 : Int32) (x3 : Int32) (x4 : Int32) (x5 : Int32) (mem : Mem), EvR tvI G cX7_aloud 6 (some .int) RX7 5 90 [(0, .ref (gA G o)), (1, .int (x1)), (2, .int (x2)), (3, .int (x3)), (4, .int (x4)), (5, .int (x5))] [] mem (k90 x1 x2 x3 x4 x5 mem)) (x1 : Int32) (x2 : Int32) (x3 : Int32) (x4 : Int32) (x5 : Int32) (mem : Mem) : EvR tvI G cX7_aloud 6 (some .int) RX7 5 144 [(0, .ref (gA G o)), (1, .int (x1)), (2, .int (x2)), (3, .int (x3)), (4, .int (x4)), (5, .int (x5))] [] mem (X7_aloud_b144 o k90 x1 x2 x3 x4 x5 mem) := by
  unfold X7_aloud_b144
  refine ev_iinc (q := 147) (lv2 := [(5, .int _), (0, .ref _), (1, .int _), (2, .int _), (3, .int _), (4, .int _)]) (v := x5 + 1) dX7_aloud_144 5 rfl rfl (congrArg (HAdd.hAdd _) li_1) (Nat.le_of_ble_eq_true rfl) rfl ?_
  refine ev_goto (t := 90) dX7_aloud_147 rfl ?_
  refine ev_sub (lv' := [(0, .ref _), (1, .int _), (2, .int _), (3, .int _), (4, .int _), (5, .int _)]) [1, 2, 3, 4, 5, 0] rfl ?_
  exact hk90 _ _ _ _ _ _
set_option maxRecDepth 100000 in
set_option maxHeartbeats 4000000 in
theorem X7_aloud_b90_ok (G : Gt) (o : Nat) (ho : kd o = 7)    : ∀ (n : Nat) (x1 : Int32) (x2 : Int32) (x3 : Int32) (x4 : Int32) (x5 : Int32) (mem : Mem), EvR tvI G cX7_aloud 6 (some .int) RX7 5 90 [(0, .ref (gA G o)), (1, .int (x1)), (2, .int (x2)), (3, .int (x3)), (4, .int (x4)), (5, .int (x5))] [] mem (X7_aloud_b90 o n x1 x2 x3 x4 x5 mem) := by
  intro n
  induction n with
  | zero => intros; exact ev_none
  | succ n ih =>
    intro x1 x2 x3 x4 x5 mem
    rw [X7_aloud_b90]
    refine ev_iload (q := 92) dX7_aloud_90 5 rfl rfl ?_
    refine ev_aload_n (q := 93) dX7_aloud_92 rfl 0 rfl rfl ?_
    refine ev_callVI (q := 96) dX7_aloud_93 rfl ml_X7_89 mt_X7_readers cf_7 rfl ho hc_7 (con_X7_readers G _ ho _) rfl (Nat.le_of_ble_eq_true rfl) (Nat.le_of_ble_eq_true rfl) rfl (Nat.le_of_ble_eq_true rfl) (fun r27 m28 => ?_)
    refine ev_icmp_ge (t := 150) (q := 99) dX7_aloud_96 rfl rfl (fun hc29 => ?_) (fun hc29 => ?_)
    · refine ev_iload_n (q := 100) dX7_aloud_99 rfl 2 rfl rfl ?_
      refine ev_iload (q := 102) dX7_aloud_100 5 rfl rfl ?_
      refine ev_callSI (q := 105) dX7_aloud_102 rfl ml_X7_200 mt_X7_has (con_X7_has G _ _  _) rfl (Nat.le_of_ble_eq_true rfl) (Nat.le_of_ble_eq_true rfl) rfl (Nat.le_of_ble_eq_true rfl) (fun r32 m33 => ?_)
      refine ev_if_eq (t := 144) (q := 108) dX7_aloud_105 rfl rfl (fun hc34 => ?_) (fun hc34 => ?_)
      · exact X7_aloud_b144_ok G o ho  (X7_aloud_b90 o n) ih _ _ _ _ _ _
      · refine ev_aload_n (q := 109) dX7_aloud_108 rfl 0 rfl rfl ?_
        refine ev_getR (q := 112) (ci := 7) (j := 5) (T := TX7) dX7_aloud_109 rfl cf_7 ho hj_7_5 hc_7 gf_X7_22 rfl ?_
        refine ev_bipush (q := 114) (v := 31) dX7_aloud_112 rfl lb_31 ?_
        refine ev_iload (q := 116) dX7_aloud_114 5 rfl rfl ?_
        refine ev_iadd (q := 117) dX7_aloud_116 rfl ?_
        refine ev_dup2_11 (q := 118) dX7_aloud_117 rfl rfl rfl ?_
        refine ev_iald (q := 119) dX7_aloud_118 rfl (kr_7_5 ho) (fun z35 => ?_)
        refine ev_iload (q := 121) dX7_aloud_119 4 rfl rfl ?_
        refine ev_bipush (q := 123) (v := 10) dX7_aloud_121 rfl lb_10 ?_
        refine ev_callSI (q := 126) dX7_aloud_123 rfl ml_X7_104 mt_X7_upwards (con_X7_upwards G _ _  _) rfl (Nat.le_of_ble_eq_true rfl) (Nat.le_of_ble_eq_true rfl) rfl (Nat.le_of_ble_eq_true rfl) (fun r36 m37 => ?_)
        refine ev_iadd (q := 127) dX7_aloud_126 rfl ?_
        refine ev_iast (q := 128) dX7_aloud_127 rfl (kr_7_5 ho) (fun m38 => ?_)
        refine ev_aload_n (q := 129) dX7_aloud_128 rfl 0 rfl rfl ?_
        refine ev_getR (q := 132) (ci := 7) (j := 5) (T := TX7) dX7_aloud_129 rfl cf_7 ho hj_7_5 hc_7 gf_X7_22 rfl ?_
        refine ev_bipush (q := 134) (v := 35) dX7_aloud_132 rfl lb_35 ?_
        refine ev_iload (q := 136) dX7_aloud_134 5 rfl rfl ?_
        refine ev_iadd (q := 137) dX7_aloud_136 rfl ?_
        refine ev_dup2_11 (q := 138) dX7_aloud_137 rfl rfl rfl ?_
        refine ev_iald (q := 139) dX7_aloud_138 rfl (kr_7_5 ho) (fun z39 => ?_)
        refine ev_iconst (q := 140) (v := 1) dX7_aloud_139 rfl li_1 ?_
        refine ev_iload_n (q := 141) dX7_aloud_140 rfl 3 rfl rfl ?_
        refine ev_ishl (q := 142) dX7_aloud_141 rfl ?_
        refine ev_ior (q := 143) dX7_aloud_142 rfl ?_
        refine ev_iast (q := 144) dX7_aloud_143 rfl (kr_7_5 ho) (fun m40 => ?_)
        exact X7_aloud_b144_ok G o ho  (X7_aloud_b90 o n) ih _ _ _ _ _ _
    · refine ev_aload_n (q := 151) dX7_aloud_150 rfl 0 rfl rfl ?_
      refine ev_iload_n (q := 152) dX7_aloud_151 rfl 1 rfl rfl ?_
      refine ev_callVI (q := 155) dX7_aloud_152 rfl ml_X7_92 mt_X7_age cf_7 rfl ho hc_7 (con_X7_age G _ _ ho _) rfl (Nat.le_of_ble_eq_true rfl) (Nat.le_of_ble_eq_true rfl) rfl (Nat.le_of_ble_eq_true rfl) (fun r30 m31 => ?_)
      exact ev_iret dX7_aloud_155 rfl
set_option maxRecDepth 100000 in
set_option maxHeartbeats 4000000 in
theorem con_X7_aloud (G : Gt) (o : Nat) (a1 : Int32) (a2 : Int32) (a3 : Int32) (ho : kd o = 7) (mem : Mem) : Con tvI G yX7_aloud cX7_aloud 6 (some .int) 5 [.ref (gA G o), .int a1, .int a2, .int a3] mem (X7_aloud o a1 a2 a3 mem) := by
  refine con_of (by decide) (Nat.le_of_ble_eq_true rfl) ?_
  show EvR tvI G cX7_aloud 6 (some .int) RX7 5 0 [(0, .ref (gA G o)), (1, .int (a1)), (2, .int (a2)), (3, .int (a3))] [] mem _
  unfold X7_aloud
  refine ev_aload_n (q := 1) dX7_aloud_0 rfl 0 rfl rfl ?_
  refine ev_iload_n (q := 2) dX7_aloud_1 rfl 1 rfl rfl ?_
  refine ev_callVI (q := 5) dX7_aloud_2 rfl ml_X7_180 mt_X7_isReader cf_7 rfl ho hc_7 (con_X7_isReader G _ _ ho _) rfl (Nat.le_of_ble_eq_true rfl) (Nat.le_of_ble_eq_true rfl) rfl (Nat.le_of_ble_eq_true rfl) (fun r1 m2 => ?_)
  refine ev_if_eq (t := 42) (q := 8) dX7_aloud_5 rfl rfl (fun hc3 => ?_) (fun hc3 => ?_)
  · refine ev_ldc (q := 44) (v := (-1000001)) dX7_aloud_42 rfl kc_X7_73 ?_
    exact ev_iret dX7_aloud_44 rfl
  · refine ev_iload_n (q := 9) dX7_aloud_8 rfl 2 rfl rfl ?_
    refine ev_i2l (q := 10) dX7_aloud_9 rfl ?_
    refine ev_lconst (q := 11) (v := 0) dX7_aloud_10 rfl ll_0 ?_
    refine ev_iconst (q := 12) (v := 1) dX7_aloud_11 rfl li_1 ?_
    refine ev_aload_n (q := 13) dX7_aloud_12 rfl 0 rfl rfl ?_
    refine ev_callVI (q := 16) dX7_aloud_13 rfl ml_X7_89 mt_X7_readers cf_7 rfl ho hc_7 (con_X7_readers G _ ho _) rfl (Nat.le_of_ble_eq_true rfl) (Nat.le_of_ble_eq_true rfl) rfl (Nat.le_of_ble_eq_true rfl) (fun r4 m5 => ?_)
    refine ev_ishl (q := 17) dX7_aloud_16 rfl ?_
    refine ev_iconst (q := 18) (v := 1) dX7_aloud_17 rfl li_1 ?_
    refine ev_isub (q := 19) dX7_aloud_18 rfl ?_
    refine ev_i2l (q := 20) dX7_aloud_19 rfl ?_
    refine ev_callSI (q := 23) dX7_aloud_20 rfl ml_X7_63 mt_X7_in (con_X7_in G _ _ _  _) rfl (Nat.le_of_ble_eq_true rfl) (Nat.le_of_ble_eq_true rfl) rfl (Nat.le_of_ble_eq_true rfl) (fun r6 m7 => ?_)
    refine ev_if_eq (t := 42) (q := 26) dX7_aloud_23 rfl rfl (fun hc8 => ?_) (fun hc8 => ?_)
    · refine ev_ldc (q := 44) (v := (-1000001)) dX7_aloud_42 rfl kc_X7_73 ?_
      exact ev_iret dX7_aloud_44 rfl
    · refine ev_iload_n (q := 27) dX7_aloud_26 rfl 2 rfl rfl ?_
      refine ev_iload_n (q := 28) dX7_aloud_27 rfl 1 rfl rfl ?_
      refine ev_callSI (q := 31) dX7_aloud_28 rfl ml_X7_200 mt_X7_has (con_X7_has G _ _  _) rfl (Nat.le_of_ble_eq_true rfl) (Nat.le_of_ble_eq_true rfl) rfl (Nat.le_of_ble_eq_true rfl) (fun r9 m10 => ?_)
      refine ev_if_ne (t := 42) (q := 34) dX7_aloud_31 rfl rfl (fun hc11 => ?_) (fun hc11 => ?_)
      · refine ev_aload_n (q := 35) dX7_aloud_34 rfl 0 rfl rfl ?_
        refine ev_iload_n (q := 36) dX7_aloud_35 rfl 3 rfl rfl ?_
        refine ev_callVI (q := 39) dX7_aloud_36 rfl ml_X7_183 mt_X7_isLetter cf_7 rfl ho hc_7 (con_X7_isLetter G _ _ ho _) rfl (Nat.le_of_ble_eq_true rfl) (Nat.le_of_ble_eq_true rfl) rfl (Nat.le_of_ble_eq_true rfl) (fun r12 m13 => ?_)
        refine ev_if_ne (t := 45) (q := 42) dX7_aloud_39 rfl rfl (fun hc14 => ?_) (fun hc14 => ?_)
        · refine ev_ldc (q := 44) (v := (-1000001)) dX7_aloud_42 rfl kc_X7_73 ?_
          exact ev_iret dX7_aloud_44 rfl
        · refine ev_aload_n (q := 46) dX7_aloud_45 rfl 0 rfl rfl ?_
          refine ev_iload_n (q := 47) dX7_aloud_46 rfl 1 rfl rfl ?_
          refine ev_callVI (q := 50) dX7_aloud_47 rfl ml_X7_186 mt_X7_isFit cf_7 rfl ho hc_7 (con_X7_isFit G _ _ ho _) rfl (Nat.le_of_ble_eq_true rfl) (Nat.le_of_ble_eq_true rfl) rfl (Nat.le_of_ble_eq_true rfl) (fun r15 m16 => ?_)
          refine ev_if_eq (t := 64) (q := 53) dX7_aloud_50 rfl rfl (fun hc17 => ?_) (fun hc17 => ?_)
          · refine ev_ldc (q := 66) (v := (-1000002)) dX7_aloud_64 rfl kc_X7_189 ?_
            exact ev_iret dX7_aloud_66 rfl
          · refine ev_iload_n (q := 54) dX7_aloud_53 rfl 2 rfl rfl ?_
            refine ev_aload_n (q := 55) dX7_aloud_54 rfl 0 rfl rfl ?_
            refine ev_callVI (q := 58) dX7_aloud_55 rfl ml_X7_203 mt_X7_alive cf_7 rfl ho hc_7 (con_X7_alive G _ ho _) rfl (Nat.le_of_ble_eq_true rfl) (Nat.le_of_ble_eq_true rfl) rfl (Nat.le_of_ble_eq_true rfl) (fun r18 m19 => ?_)
            refine ev_iconst (q := 59) (v := (-1)) dX7_aloud_58 rfl li_m1 ?_
            refine ev_ixor (q := 60) dX7_aloud_59 rfl ?_
            refine ev_iand (q := 61) dX7_aloud_60 rfl ?_
            refine ev_if_eq (t := 67) (q := 64) dX7_aloud_61 rfl rfl (fun hc20 => ?_) (fun hc20 => ?_)
            · refine ev_aload_n (q := 68) dX7_aloud_67 rfl 0 rfl rfl ?_
              refine ev_callVU (q := 71) dX7_aloud_68 rfl ml_X7_190 mt_X7_remember cf_7 rfl ho hc_7 (con_X7_remember G _ ho _) rfl (Nat.le_of_ble_eq_true rfl) (Nat.le_of_ble_eq_true rfl) rfl (Nat.le_of_ble_eq_true rfl) (fun r21 m22 => ?_)
              refine ev_aload_n (q := 72) dX7_aloud_71 rfl 0 rfl rfl ?_
              refine ev_iload_n (q := 73) dX7_aloud_72 rfl 1 rfl rfl ?_
              refine ev_iload_n (q := 74) dX7_aloud_73 rfl 3 rfl rfl ?_
              refine ev_callVI (q := 77) dX7_aloud_74 rfl ml_X7_193 mt_X7_cost cf_7 rfl ho hc_7 (con_X7_cost G _ _ _ ho _) rfl (Nat.le_of_ble_eq_true rfl) (Nat.le_of_ble_eq_true rfl) rfl (Nat.le_of_ble_eq_true rfl) (fun r23 m24 => ?_)
              refine ev_istore (q := 79) (lv2 := [(4, .int _), (0, .ref _), (1, .int _), (2, .int _), (3, .int _)]) dX7_aloud_77 rfl (Nat.le_of_ble_eq_true rfl) rfl ?_
              refine ev_aload_n (q := 80) dX7_aloud_79 rfl 1 rfl rfl ?_
              refine ev_iload_n (q := 81) dX7_aloud_80 rfl 2 rfl rfl ?_
              refine ev_iload_n (q := 82) dX7_aloud_81 rfl 4 rfl rfl ?_
              refine ev_iload (q := 84) dX7_aloud_82 0 rfl rfl ?_
              refine ev_callVU (q := 87) dX7_aloud_84 rfl ml_X7_196 mt_X7_readNow cf_7 rfl ho hc_7 (con_X7_readNow G _ _ _ _ ho _) rfl (Nat.le_of_ble_eq_true rfl) (Nat.le_of_ble_eq_true rfl) rfl (Nat.le_of_ble_eq_true rfl) (fun r25 m26 => ?_)
              refine ev_iconst (q := 88) (v := 0) dX7_aloud_87 rfl li_0 ?_
              refine ev_istore (q := 90) (lv2 := [(5, .int _), (4, .int _), (0, .ref _), (1, .int _), (2, .int _), (3, .int _)]) dX7_aloud_88 rfl (Nat.le_of_ble_eq_true rfl) rfl ?_
              refine ev_sub (lv' := [(0, .ref _), (1, .int _), (2, .int _), (3, .int _), (4, .int _), (5, .int _)]) [2, 3, 4, 5, 1, 0] rfl ?_
              exact X7_aloud_b90_ok G o ho   fu _ _ _ _ _ _
            · refine ev_ldc (q := 66) (v := (-1000002)) dX7_aloud_64 rfl kc_X7_189 ?_
              exact ev_iret dX7_aloud_66 rfl
      · refine ev_ldc (q := 44) (v := (-1000001)) dX7_aloud_42 rfl kc_X7_73 ?_
        exact ev_iret dX7_aloud_44 rfl
