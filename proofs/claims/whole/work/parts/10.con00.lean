/-! AgingLetters$Acts.forgetAll()V -/
theorem dX0_forgetAll_0 : decode cX0_forgetAll 0 = .ok (.aload_n 0, 1) := by decide +kernel
theorem dX0_forgetAll_1 : decode cX0_forgetAll 1 = .ok (.iconst 0, 1) := by decide +kernel
theorem dX0_forgetAll_2 : decode cX0_forgetAll 2 = .ok (.putfield 31, 3) := by decide +kernel
theorem dX0_forgetAll_5 : decode cX0_forgetAll 5 = .ok (.aload_n 0, 1) := by decide +kernel
theorem dX0_forgetAll_6 : decode cX0_forgetAll 6 = .ok (.iconst 0, 1) := by decide +kernel
theorem dX0_forgetAll_7 : decode cX0_forgetAll 7 = .ok (.putfield 35, 3) := by decide +kernel
theorem dX0_forgetAll_10 : decode cX0_forgetAll 10 = .ok (.return_, 1) := by decide +kernel
set_option maxRecDepth 100000 in
set_option maxHeartbeats 4000000 in
theorem con_X0_forgetAll (G : Gt) (o : Nat) (ho : kd o = 0) (mem : Mem) : Con tvU G yX0_forgetAll cX0_forgetAll 1 none 1 [.ref (gA G o)] mem (X0_forgetAll o mem) := by
  refine con_of (by decide) (Nat.le_of_ble_eq_true rfl) ?_
  show EvR tvU G cX0_forgetAll 1 none RX0 1 0 [(0, .ref (gA G o))] [] mem _
  unfold X0_forgetAll
  refine ev_aload_n (q := 1) dX0_forgetAll_0 rfl 0 rfl rfl ?_
  refine ev_iconst (q := 2) (v := 0) dX0_forgetAll_1 rfl li_0 ?_
  refine ev_putI (q := 5) (ci := 0) (j := 7) (T := TX0) dX0_forgetAll_2 rfl cf_0 ho hj_0_7 hc_0 gf_X0_31 rfl rfl (tyX0_ok 7 hj_0_7) ?_
  refine ev_aload_n (q := 6) dX0_forgetAll_5 rfl 0 rfl rfl ?_
  refine ev_iconst (q := 7) (v := 0) dX0_forgetAll_6 rfl li_0 ?_
  refine ev_putI (q := 10) (ci := 0) (j := 8) (T := TX0) dX0_forgetAll_7 rfl cf_0 ho hj_0_8 hc_0 gf_X0_35 rfl rfl (tyX0_ok 8 hj_0_8) ?_
  exact ev_vret dX0_forgetAll_10 rfl
/-! AgingLetters.halfUp(I)I -/
theorem dX6_halfUp_0 : decode cX6_halfUp 0 = .ok (.iload_n 0, 1) := by decide +kernel
theorem dX6_halfUp_1 : decode cX6_halfUp 1 = .ok (.iconst 1, 1) := by decide +kernel
theorem dX6_halfUp_2 : decode cX6_halfUp 2 = .ok (.iadd, 1) := by decide +kernel
theorem dX6_halfUp_3 : decode cX6_halfUp 3 = .ok (.iconst 2, 1) := by decide +kernel
theorem dX6_halfUp_4 : decode cX6_halfUp 4 = .ok (.idiv, 1) := by decide +kernel
theorem dX6_halfUp_5 : decode cX6_halfUp 5 = .ok (.ireturn, 1) := by decide +kernel
set_option maxRecDepth 100000 in
set_option maxHeartbeats 4000000 in
theorem con_X6_halfUp (G : Gt) (a0 : Int32)  (mem : Mem) : Con tvI G yX6_halfUp cX6_halfUp 1 (some .int) 1 [.int a0] mem (X6_halfUp a0 mem) := by
  refine con_of (by decide) (Nat.le_of_ble_eq_true rfl) ?_
  show EvR tvI G cX6_halfUp 1 (some .int) RX6 1 0 [(0, .int (a0))] [] mem _
  unfold X6_halfUp
  refine ev_iload_n (q := 1) dX6_halfUp_0 rfl 0 rfl rfl ?_
  refine ev_iconst (q := 2) (v := 1) dX6_halfUp_1 rfl li_1 ?_
  refine ev_iadd (q := 3) dX6_halfUp_2 rfl ?_
  refine ev_iconst (q := 4) (v := 2) dX6_halfUp_3 rfl li_2 ?_
  refine ev_idiv (q := 5) dX6_halfUp_4 rfl ?_
  exact ev_iret dX6_halfUp_5 rfl
/-! AgingLetters.tenthUp(I)I -/
theorem dX6_tenthUp_0 : decode cX6_tenthUp 0 = .ok (.iload_n 0, 1) := by decide +kernel
theorem dX6_tenthUp_1 : decode cX6_tenthUp 1 = .ok (.bipush 9, 2) := by decide +kernel
theorem dX6_tenthUp_3 : decode cX6_tenthUp 3 = .ok (.iadd, 1) := by decide +kernel
theorem dX6_tenthUp_4 : decode cX6_tenthUp 4 = .ok (.bipush 10, 2) := by decide +kernel
theorem dX6_tenthUp_6 : decode cX6_tenthUp 6 = .ok (.idiv, 1) := by decide +kernel
theorem dX6_tenthUp_7 : decode cX6_tenthUp 7 = .ok (.ireturn, 1) := by decide +kernel
set_option maxRecDepth 100000 in
set_option maxHeartbeats 4000000 in
theorem con_X6_tenthUp (G : Gt) (a0 : Int32)  (mem : Mem) : Con tvI G yX6_tenthUp cX6_tenthUp 1 (some .int) 1 [.int a0] mem (X6_tenthUp a0 mem) := by
  refine con_of (by decide) (Nat.le_of_ble_eq_true rfl) ?_
  show EvR tvI G cX6_tenthUp 1 (some .int) RX6 1 0 [(0, .int (a0))] [] mem _
  unfold X6_tenthUp
  refine ev_iload_n (q := 1) dX6_tenthUp_0 rfl 0 rfl rfl ?_
  refine ev_bipush (q := 3) (v := 9) dX6_tenthUp_1 rfl lb_9 ?_
  refine ev_iadd (q := 4) dX6_tenthUp_3 rfl ?_
  refine ev_bipush (q := 6) (v := 10) dX6_tenthUp_4 rfl lb_10 ?_
  refine ev_idiv (q := 7) dX6_tenthUp_6 rfl ?_
  exact ev_iret dX6_tenthUp_7 rfl
/-! AgingLetters$Office.costOfPages(II)I -/
theorem dX3_costOfPages_0 : decode cX3_costOfPages 0 = .ok (.iload_n 0, 1) := by decide +kernel
theorem dX3_costOfPages_1 : decode cX3_costOfPages 1 = .ok (.tableswitch 51 1 5 #[35, 37, 41, 51, 46], 35) := by decide +kernel
theorem dX3_costOfPages_36 : decode cX3_costOfPages 36 = .ok (.iload_n 1, 1) := by decide +kernel
theorem dX3_costOfPages_37 : decode cX3_costOfPages 37 = .ok (.ireturn, 1) := by decide +kernel
theorem dX3_costOfPages_38 : decode cX3_costOfPages 38 = .ok (.iconst 3, 1) := by decide +kernel
theorem dX3_costOfPages_39 : decode cX3_costOfPages 39 = .ok (.iload_n 1, 1) := by decide +kernel
theorem dX3_costOfPages_40 : decode cX3_costOfPages 40 = .ok (.imul, 1) := by decide +kernel
theorem dX3_costOfPages_41 : decode cX3_costOfPages 41 = .ok (.ireturn, 1) := by decide +kernel
theorem dX3_costOfPages_42 : decode cX3_costOfPages 42 = .ok (.iload_n 1, 1) := by decide +kernel
theorem dX3_costOfPages_43 : decode cX3_costOfPages 43 = .ok (.invokestatic 94, 3) := by decide +kernel
theorem dX3_costOfPages_46 : decode cX3_costOfPages 46 = .ok (.ireturn, 1) := by decide +kernel
theorem dX3_costOfPages_47 : decode cX3_costOfPages 47 = .ok (.iload_n 1, 1) := by decide +kernel
theorem dX3_costOfPages_48 : decode cX3_costOfPages 48 = .ok (.invokestatic 102, 3) := by decide +kernel
theorem dX3_costOfPages_51 : decode cX3_costOfPages 51 = .ok (.ireturn, 1) := by decide +kernel
theorem dX3_costOfPages_52 : decode cX3_costOfPages 52 = .ok (.iconst 0, 1) := by decide +kernel
theorem dX3_costOfPages_53 : decode cX3_costOfPages 53 = .ok (.ireturn, 1) := by decide +kernel
set_option maxRecDepth 100000 in
set_option maxHeartbeats 4000000 in
theorem con_X3_costOfPages (G : Gt) (a0 : Int32) (a1 : Int32)  (mem : Mem) : Con tvI G yX3_costOfPages cX3_costOfPages 2 (some .int) 2 [.int a0, .int a1] mem (X3_costOfPages a0 a1 mem) := by
  refine con_of (by decide) (Nat.le_of_ble_eq_true rfl) ?_
  show EvR tvI G cX3_costOfPages 2 (some .int) RX3 2 0 [(0, .int (a0)), (1, .int (a1))] [] mem _
  unfold X3_costOfPages
  refine ev_iload_n (q := 1) dX3_costOfPages_0 rfl 0 rfl rfl ?_
  refine ev_ite (fun hc1 => ?_) (fun hc1 => ?_)
  · subst hc1
    refine ev_tsIn (t := 36) (off := 35) dX3_costOfPages_1 (by decide) (by decide) (by decide) rfl ?_
    refine ev_iload_n (q := 37) dX3_costOfPages_36 rfl 1 rfl rfl ?_
    exact ev_iret dX3_costOfPages_37 rfl
  refine ev_ite (fun hc2 => ?_) (fun hc2 => ?_)
  · subst hc2
    refine ev_tsIn (t := 38) (off := 37) dX3_costOfPages_1 (by decide) (by decide) (by decide) rfl ?_
    refine ev_iconst (q := 39) (v := 3) dX3_costOfPages_38 rfl li_3 ?_
    refine ev_iload_n (q := 40) dX3_costOfPages_39 rfl 1 rfl rfl ?_
    refine ev_imul (q := 41) dX3_costOfPages_40 rfl ?_
    exact ev_iret dX3_costOfPages_41 rfl
  refine ev_ite (fun hc3 => ?_) (fun hc3 => ?_)
  · subst hc3
    refine ev_tsIn (t := 42) (off := 41) dX3_costOfPages_1 (by decide) (by decide) (by decide) rfl ?_
    refine ev_iload_n (q := 43) dX3_costOfPages_42 rfl 1 rfl rfl ?_
    refine ev_callSNI (q := 46) dX3_costOfPages_43 rfl ml_X3_94 mt_X6_halfUp (con_X6_halfUp G _  _) rfl (Nat.le_of_ble_eq_true rfl) (Nat.le_of_ble_eq_true rfl) rfl (Nat.le_of_ble_eq_true rfl) (fun r4 m5 => ?_)
    exact ev_iret dX3_costOfPages_46 rfl
  refine ev_ite (fun hc6 => ?_) (fun hc6 => ?_)
  · subst hc6
    refine ev_tsIn (t := 52) (off := 51) dX3_costOfPages_1 (by decide) (by decide) (by decide) rfl ?_
    refine ev_iconst (q := 53) (v := 0) dX3_costOfPages_52 rfl li_0 ?_
    exact ev_iret dX3_costOfPages_53 rfl
  refine ev_ite (fun hc7 => ?_) (fun hc7 => ?_)
  · subst hc7
    refine ev_tsIn (t := 47) (off := 46) dX3_costOfPages_1 (by decide) (by decide) (by decide) rfl ?_
    refine ev_iload_n (q := 48) dX3_costOfPages_47 rfl 1 rfl rfl ?_
    refine ev_callSNI (q := 51) dX3_costOfPages_48 rfl ml_X3_102 mt_X6_tenthUp (con_X6_tenthUp G _  _) rfl (Nat.le_of_ble_eq_true rfl) (Nat.le_of_ble_eq_true rfl) rfl (Nat.le_of_ble_eq_true rfl) (fun r8 m9 => ?_)
    exact ev_iret dX3_costOfPages_51 rfl
  refine ev_tsOut (t := 52) dX3_costOfPages_1 (by have g0 := lv_neT hc1 (a := 1) (by decide); have g1 := lv_neT hc2 (a := 2) (by decide); have g2 := lv_neT hc3 (a := 3) (by decide); have g3 := lv_neT hc6 (a := 4) (by decide); have g4 := lv_neT hc7 (a := 5) (by decide); omega) rfl ?_
  refine ev_iconst (q := 53) (v := 0) dX3_costOfPages_52 rfl li_0 ?_
  exact ev_iret dX3_costOfPages_53 rfl
/-! AgingLetters$Office.hasRead(II)Z -/
theorem dX3_hasRead_0 : decode cX3_hasRead 0 = .ok (.aload_n 0, 1) := by decide +kernel
theorem dX3_hasRead_1 : decode cX3_hasRead 1 = .ok (.getfield 33, 3) := by decide +kernel
theorem dX3_hasRead_4 : decode cX3_hasRead 4 = .ok (.iload_n 1, 1) := by decide +kernel
theorem dX3_hasRead_5 : decode cX3_hasRead 5 = .ok (.bipush 6, 2) := by decide +kernel
theorem dX3_hasRead_7 : decode cX3_hasRead 7 = .ok (.imul, 1) := by decide +kernel
theorem dX3_hasRead_8 : decode cX3_hasRead 8 = .ok (.iload_n 2, 1) := by decide +kernel
theorem dX3_hasRead_9 : decode cX3_hasRead 9 = .ok (.iadd, 1) := by decide +kernel
theorem dX3_hasRead_10 : decode cX3_hasRead 10 = .ok (.iaload, 1) := by decide +kernel
theorem dX3_hasRead_11 : decode cX3_hasRead 11 = .ok (.ifCond .le 7, 3) := by decide +kernel
theorem dX3_hasRead_14 : decode cX3_hasRead 14 = .ok (.iconst 1, 1) := by decide +kernel
theorem dX3_hasRead_15 : decode cX3_hasRead 15 = .ok (.goto 4, 3) := by decide +kernel
theorem dX3_hasRead_18 : decode cX3_hasRead 18 = .ok (.iconst 0, 1) := by decide +kernel
theorem dX3_hasRead_19 : decode cX3_hasRead 19 = .ok (.ireturn, 1) := by decide +kernel
set_option maxRecDepth 100000 in
set_option maxHeartbeats 4000000 in
theorem con_X3_hasRead (G : Gt) (o : Nat) (a1 : Int32) (a2 : Int32) (ho : kd o = 3) (mem : Mem) : Con tvI G yX3_hasRead cX3_hasRead 3 (some .boolean) 1 [.ref (gA G o), .int a1, .int a2] mem (X3_hasRead o a1 a2 mem) := by
  refine con_of (by decide) (Nat.le_of_ble_eq_true rfl) ?_
  show EvR tvI G cX3_hasRead 3 (some .boolean) RX3 1 0 [(0, .ref (gA G o)), (1, .int (a1)), (2, .int (a2))] [] mem _
  unfold X3_hasRead
  refine ev_aload_n (q := 1) dX3_hasRead_0 rfl 0 rfl rfl ?_
  refine ev_getR (q := 4) (ci := 3) (j := 12) (T := TX3) dX3_hasRead_1 rfl cf_3 ho hj_3_12 hc_3 gf_X3_33 rfl ?_
  refine ev_iload_n (q := 5) dX3_hasRead_4 rfl 1 rfl rfl ?_
  refine ev_bipush (q := 7) (v := 6) dX3_hasRead_5 rfl lb_6 ?_
  refine ev_imul (q := 8) dX3_hasRead_7 rfl ?_
  refine ev_iload_n (q := 9) dX3_hasRead_8 rfl 2 rfl rfl ?_
  refine ev_iadd (q := 10) dX3_hasRead_9 rfl ?_
  refine ev_iald (q := 11) dX3_hasRead_10 rfl (kr_3_12 ho) (fun z1 => ?_)
  refine ev_if_le (t := 18) (q := 14) dX3_hasRead_11 rfl rfl (fun hc2 => ?_) (fun hc2 => ?_)
  · refine ev_iconst (q := 15) (v := 1) dX3_hasRead_14 rfl li_1 ?_
    refine ev_goto (t := 19) dX3_hasRead_15 rfl ?_
    exact ev_zret dX3_hasRead_19 rfl
  · refine ev_iconst (q := 19) (v := 0) dX3_hasRead_18 rfl li_0 ?_
    exact ev_zret dX3_hasRead_19 rfl
/-! AgingLetters$Office.costFor(III)I -/
theorem dX3_costFor__0 : decode cX3_costFor_ 0 = .ok (.aload_n 0, 1) := by decide +kernel
theorem dX3_costFor__1 : decode cX3_costFor_ 1 = .ok (.getfield 9, 3) := by decide +kernel
theorem dX3_costFor__4 : decode cX3_costFor_ 4 = .ok (.iload_n 2, 1) := by decide +kernel
theorem dX3_costFor__5 : decode cX3_costFor_ 5 = .ok (.iaload, 1) := by decide +kernel
theorem dX3_costFor__6 : decode cX3_costFor_ 6 = .ok (.iload_n 3, 1) := by decide +kernel
theorem dX3_costFor__7 : decode cX3_costFor_ 7 = .ok (.invokestatic 90, 3) := by decide +kernel
theorem dX3_costFor__10 : decode cX3_costFor_ 10 = .ok (.istore 4, 2) := by decide +kernel
theorem dX3_costFor__12 : decode cX3_costFor_ 12 = .ok (.aload_n 0, 1) := by decide +kernel
theorem dX3_costFor__13 : decode cX3_costFor_ 13 = .ok (.iload_n 1, 1) := by decide +kernel
theorem dX3_costFor__14 : decode cX3_costFor_ 14 = .ok (.iload_n 2, 1) := by decide +kernel
theorem dX3_costFor__15 : decode cX3_costFor_ 15 = .ok (.invokevirtual 76, 3) := by decide +kernel
theorem dX3_costFor__18 : decode cX3_costFor_ 18 = .ok (.ifCond .eq 11, 3) := by decide +kernel
theorem dX3_costFor__21 : decode cX3_costFor_ 21 = .ok (.iload 4, 2) := by decide +kernel
theorem dX3_costFor__23 : decode cX3_costFor_ 23 = .ok (.invokestatic 94, 3) := by decide +kernel
theorem dX3_costFor__26 : decode cX3_costFor_ 26 = .ok (.goto 5, 3) := by decide +kernel
theorem dX3_costFor__29 : decode cX3_costFor_ 29 = .ok (.iload 4, 2) := by decide +kernel
theorem dX3_costFor__31 : decode cX3_costFor_ 31 = .ok (.ireturn, 1) := by decide +kernel
set_option maxRecDepth 100000 in
set_option maxHeartbeats 4000000 in
theorem con_X3_costFor_ (G : Gt) (o : Nat) (a1 : Int32) (a2 : Int32) (a3 : Int32) (ho : kd o = 3) (mem : Mem) : Con tvI G yX3_costFor_ cX3_costFor_ 5 (some .int) 3 [.ref (gA G o), .int a1, .int a2, .int a3] mem (X3_costFor_ o a1 a2 a3 mem) := by
  refine con_of (by decide) (Nat.le_of_ble_eq_true rfl) ?_
  show EvR tvI G cX3_costFor_ 5 (some .int) RX3 3 0 [(0, .ref (gA G o)), (1, .int (a1)), (2, .int (a2)), (3, .int (a3))] [] mem _
  unfold X3_costFor_
  refine ev_aload_n (q := 1) dX3_costFor__0 rfl 0 rfl rfl ?_
  refine ev_getR (q := 4) (ci := 3) (j := 4) (T := TX3) dX3_costFor__1 rfl cf_3 ho hj_3_4 hc_3 gf_X3_9 rfl ?_
  refine ev_iload_n (q := 5) dX3_costFor__4 rfl 2 rfl rfl ?_
  refine ev_iald (q := 6) dX3_costFor__5 rfl (kr_3_4 ho) (fun z1 => ?_)
  refine ev_iload_n (q := 7) dX3_costFor__6 rfl 3 rfl rfl ?_
  refine ev_callSI (q := 10) dX3_costFor__7 rfl ml_X3_90 mt_X3_costOfPages (con_X3_costOfPages G _ _  _) rfl (Nat.le_of_ble_eq_true rfl) (Nat.le_of_ble_eq_true rfl) rfl (Nat.le_of_ble_eq_true rfl) (fun r2 m3 => ?_)
  refine ev_istore (q := 12) (lv2 := [(4, .int _), (0, .ref _), (1, .int _), (2, .int _), (3, .int _)]) dX3_costFor__10 rfl (Nat.le_of_ble_eq_true rfl) rfl ?_
  refine ev_aload_n (q := 13) dX3_costFor__12 rfl 1 rfl rfl ?_
  refine ev_iload_n (q := 14) dX3_costFor__13 rfl 2 rfl rfl ?_
  refine ev_iload_n (q := 15) dX3_costFor__14 rfl 3 rfl rfl ?_
  refine ev_callVI (q := 18) dX3_costFor__15 rfl ml_X3_76 mt_X3_hasRead cf_3 rfl ho hc_3 (con_X3_hasRead G _ _ _ ho _) rfl (Nat.le_of_ble_eq_true rfl) (Nat.le_of_ble_eq_true rfl) rfl (Nat.le_of_ble_eq_true rfl) (fun r4 m5 => ?_)
  refine ev_if_eq (t := 29) (q := 21) dX3_costFor__18 rfl rfl (fun hc6 => ?_) (fun hc6 => ?_)
  · refine ev_iload (q := 31) dX3_costFor__29 0 rfl rfl ?_
    exact ev_iret dX3_costFor__31 rfl
  · refine ev_iload (q := 23) dX3_costFor__21 0 rfl rfl ?_
    refine ev_callSNI (q := 26) dX3_costFor__23 rfl ml_X3_94 mt_X6_halfUp (con_X6_halfUp G _  _) rfl (Nat.le_of_ble_eq_true rfl) (Nat.le_of_ble_eq_true rfl) rfl (Nat.le_of_ble_eq_true rfl) (fun r7 m8 => ?_)
    refine ev_goto (t := 31) dX3_costFor__26 rfl ?_
    exact ev_iret dX3_costFor__31 rfl
/-! AgingLetters$Office.costFor(II)I -/
theorem dX3_costFor_0 : decode cX3_costFor 0 = .ok (.aload_n 0, 1) := by decide +kernel
theorem dX3_costFor_1 : decode cX3_costFor 1 = .ok (.iload_n 1, 1) := by decide +kernel
theorem dX3_costFor_2 : decode cX3_costFor 2 = .ok (.iload_n 2, 1) := by decide +kernel
theorem dX3_costFor_3 : decode cX3_costFor 3 = .ok (.aload_n 0, 1) := by decide +kernel
theorem dX3_costFor_4 : decode cX3_costFor 4 = .ok (.getfield 15, 3) := by decide +kernel
theorem dX3_costFor_7 : decode cX3_costFor 7 = .ok (.iload_n 2, 1) := by decide +kernel
theorem dX3_costFor_8 : decode cX3_costFor 8 = .ok (.iaload, 1) := by decide +kernel
theorem dX3_costFor_9 : decode cX3_costFor 9 = .ok (.invokevirtual 86, 3) := by decide +kernel
theorem dX3_costFor_12 : decode cX3_costFor 12 = .ok (.ireturn, 1) := by decide +kernel
set_option maxRecDepth 100000 in
set_option maxHeartbeats 4000000 in
theorem con_X3_costFor (G : Gt) (o : Nat) (a1 : Int32) (a2 : Int32) (ho : kd o = 3) (mem : Mem) : Con tvI G yX3_costFor cX3_costFor 3 (some .int) 4 [.ref (gA G o), .int a1, .int a2] mem (X3_costFor o a1 a2 mem) := by
  refine con_of (by decide) (Nat.le_of_ble_eq_true rfl) ?_
  show EvR tvI G cX3_costFor 3 (some .int) RX3 4 0 [(0, .ref (gA G o)), (1, .int (a1)), (2, .int (a2))] [] mem _
  unfold X3_costFor
  refine ev_aload_n (q := 1) dX3_costFor_0 rfl 0 rfl rfl ?_
  refine ev_iload_n (q := 2) dX3_costFor_1 rfl 1 rfl rfl ?_
  refine ev_iload_n (q := 3) dX3_costFor_2 rfl 2 rfl rfl ?_
  refine ev_aload_n (q := 4) dX3_costFor_3 rfl 0 rfl rfl ?_
  refine ev_getR (q := 7) (ci := 3) (j := 5) (T := TX3) dX3_costFor_4 rfl cf_3 ho hj_3_5 hc_3 gf_X3_15 rfl ?_
  refine ev_iload_n (q := 8) dX3_costFor_7 rfl 2 rfl rfl ?_
  refine ev_iald (q := 9) dX3_costFor_8 rfl (kr_3_5 ho) (fun z1 => ?_)
  refine ev_callVI (q := 12) dX3_costFor_9 rfl ml_X3_86 mt_X3_costFor_ cf_3 rfl ho hc_3 (con_X3_costFor_ G _ _ _ _ ho _) rfl (Nat.le_of_ble_eq_true rfl) (Nat.le_of_ble_eq_true rfl) rfl (Nat.le_of_ble_eq_true rfl) (fun r2 m3 => ?_)
  exact ev_iret dX3_costFor_12 rfl
/-! AgingLetters$Office.survives(II)Z -/
theorem dX3_survives_0 : decode cX3_survives 0 = .ok (.aload_n 0, 1) := by decide +kernel
theorem dX3_survives_1 : decode cX3_survives 1 = .ok (.getfield 24, 3) := by decide +kernel
theorem dX3_survives_4 : decode cX3_survives 4 = .ok (.iload_n 1, 1) := by decide +kernel
theorem dX3_survives_5 : decode cX3_survives 5 = .ok (.iaload, 1) := by decide +kernel
theorem dX3_survives_6 : decode cX3_survives 6 = .ok (.iload_n 2, 1) := by decide +kernel
theorem dX3_survives_7 : decode cX3_survives 7 = .ok (.iadd, 1) := by decide +kernel
theorem dX3_survives_8 : decode cX3_survives 8 = .ok (.aload_n 0, 1) := by decide +kernel
theorem dX3_survives_9 : decode cX3_survives 9 = .ok (.getfield 27, 3) := by decide +kernel
theorem dX3_survives_12 : decode cX3_survives 12 = .ok (.iload_n 1, 1) := by decide +kernel
theorem dX3_survives_13 : decode cX3_survives 13 = .ok (.iaload, 1) := by decide +kernel
theorem dX3_survives_14 : decode cX3_survives 14 = .ok (.if_icmp .ge 7, 3) := by decide +kernel
theorem dX3_survives_17 : decode cX3_survives 17 = .ok (.iconst 1, 1) := by decide +kernel
theorem dX3_survives_18 : decode cX3_survives 18 = .ok (.goto 4, 3) := by decide +kernel
theorem dX3_survives_21 : decode cX3_survives 21 = .ok (.iconst 0, 1) := by decide +kernel
theorem dX3_survives_22 : decode cX3_survives 22 = .ok (.ireturn, 1) := by decide +kernel
set_option maxRecDepth 100000 in
set_option maxHeartbeats 4000000 in
theorem con_X3_survives (G : Gt) (o : Nat) (a1 : Int32) (a2 : Int32) (ho : kd o = 3) (mem : Mem) : Con tvI G yX3_survives cX3_survives 3 (some .boolean) 1 [.ref (gA G o), .int a1, .int a2] mem (X3_survives o a1 a2 mem) := by
  refine con_of (by decide) (Nat.le_of_ble_eq_true rfl) ?_
  show EvR tvI G cX3_survives 3 (some .boolean) RX3 1 0 [(0, .ref (gA G o)), (1, .int (a1)), (2, .int (a2))] [] mem _
  unfold X3_survives
  refine ev_aload_n (q := 1) dX3_survives_0 rfl 0 rfl rfl ?_
  refine ev_getR (q := 4) (ci := 3) (j := 9) (T := TX3) dX3_survives_1 rfl cf_3 ho hj_3_9 hc_3 gf_X3_24 rfl ?_
  refine ev_iload_n (q := 5) dX3_survives_4 rfl 1 rfl rfl ?_
  refine ev_iald (q := 6) dX3_survives_5 rfl (kr_3_9 ho) (fun z1 => ?_)
  refine ev_iload_n (q := 7) dX3_survives_6 rfl 2 rfl rfl ?_
  refine ev_iadd (q := 8) dX3_survives_7 rfl ?_
  refine ev_aload_n (q := 9) dX3_survives_8 rfl 0 rfl rfl ?_
  refine ev_getR (q := 12) (ci := 3) (j := 10) (T := TX3) dX3_survives_9 rfl cf_3 ho hj_3_10 hc_3 gf_X3_27 rfl ?_
  refine ev_iload_n (q := 13) dX3_survives_12 rfl 1 rfl rfl ?_
  refine ev_iald (q := 14) dX3_survives_13 rfl (kr_3_10 ho) (fun z2 => ?_)
  refine ev_icmp_ge (t := 21) (q := 17) dX3_survives_14 rfl rfl (fun hc3 => ?_) (fun hc3 => ?_)
  · refine ev_iconst (q := 18) (v := 1) dX3_survives_17 rfl li_1 ?_
    refine ev_goto (t := 22) dX3_survives_18 rfl ?_
    exact ev_zret dX3_survives_22 rfl
  · refine ev_iconst (q := 22) (v := 0) dX3_survives_21 rfl li_0 ?_
    exact ev_zret dX3_survives_22 rfl
/-! AgingLetters$Office.addTimesRead(III)V -/
theorem dX3_addTimesRead_0 : decode cX3_addTimesRead 0 = .ok (.aload_n 0, 1) := by decide +kernel
theorem dX3_addTimesRead_1 : decode cX3_addTimesRead 1 = .ok (.getfield 33, 3) := by decide +kernel
theorem dX3_addTimesRead_4 : decode cX3_addTimesRead 4 = .ok (.iload_n 1, 1) := by decide +kernel
theorem dX3_addTimesRead_5 : decode cX3_addTimesRead 5 = .ok (.bipush 6, 2) := by decide +kernel
theorem dX3_addTimesRead_7 : decode cX3_addTimesRead 7 = .ok (.imul, 1) := by decide +kernel
theorem dX3_addTimesRead_8 : decode cX3_addTimesRead 8 = .ok (.iload_n 2, 1) := by decide +kernel
theorem dX3_addTimesRead_9 : decode cX3_addTimesRead 9 = .ok (.iadd, 1) := by decide +kernel
theorem dX3_addTimesRead_10 : decode cX3_addTimesRead 10 = .ok (.dup2, 1) := by decide +kernel
theorem dX3_addTimesRead_11 : decode cX3_addTimesRead 11 = .ok (.iaload, 1) := by decide +kernel
theorem dX3_addTimesRead_12 : decode cX3_addTimesRead 12 = .ok (.iload_n 3, 1) := by decide +kernel
theorem dX3_addTimesRead_13 : decode cX3_addTimesRead 13 = .ok (.iadd, 1) := by decide +kernel
theorem dX3_addTimesRead_14 : decode cX3_addTimesRead 14 = .ok (.iastore, 1) := by decide +kernel
theorem dX3_addTimesRead_15 : decode cX3_addTimesRead 15 = .ok (.return_, 1) := by decide +kernel
set_option maxRecDepth 100000 in
set_option maxHeartbeats 4000000 in
theorem con_X3_addTimesRead (G : Gt) (o : Nat) (a1 : Int32) (a2 : Int32) (a3 : Int32) (ho : kd o = 3) (mem : Mem) : Con tvU G yX3_addTimesRead cX3_addTimesRead 4 none 1 [.ref (gA G o), .int a1, .int a2, .int a3] mem (X3_addTimesRead o a1 a2 a3 mem) := by
  refine con_of (by decide) (Nat.le_of_ble_eq_true rfl) ?_
  show EvR tvU G cX3_addTimesRead 4 none RX3 1 0 [(0, .ref (gA G o)), (1, .int (a1)), (2, .int (a2)), (3, .int (a3))] [] mem _
  unfold X3_addTimesRead
  refine ev_aload_n (q := 1) dX3_addTimesRead_0 rfl 0 rfl rfl ?_
  refine ev_getR (q := 4) (ci := 3) (j := 12) (T := TX3) dX3_addTimesRead_1 rfl cf_3 ho hj_3_12 hc_3 gf_X3_33 rfl ?_
  refine ev_iload_n (q := 5) dX3_addTimesRead_4 rfl 1 rfl rfl ?_
  refine ev_bipush (q := 7) (v := 6) dX3_addTimesRead_5 rfl lb_6 ?_
  refine ev_imul (q := 8) dX3_addTimesRead_7 rfl ?_
  refine ev_iload_n (q := 9) dX3_addTimesRead_8 rfl 2 rfl rfl ?_
  refine ev_iadd (q := 10) dX3_addTimesRead_9 rfl ?_
  refine ev_dup2_11 (q := 11) dX3_addTimesRead_10 rfl rfl rfl ?_
  refine ev_iald (q := 12) dX3_addTimesRead_11 rfl (kr_3_12 ho) (fun z1 => ?_)
  refine ev_iload_n (q := 13) dX3_addTimesRead_12 rfl 3 rfl rfl ?_
  refine ev_iadd (q := 14) dX3_addTimesRead_13 rfl ?_
  refine ev_iast (q := 15) dX3_addTimesRead_14 rfl (kr_3_12 ho) (fun m2 => ?_)
  exact ev_vret dX3_addTimesRead_15 rfl
/-! AgingLetters.inSet(II)Z -/
theorem dX6_inSet_0 : decode cX6_inSet 0 = .ok (.iload_n 0, 1) := by decide +kernel
theorem dX6_inSet_1 : decode cX6_inSet 1 = .ok (.iload_n 1, 1) := by decide +kernel
theorem dX6_inSet_2 : decode cX6_inSet 2 = .ok (.ishr, 1) := by decide +kernel
theorem dX6_inSet_3 : decode cX6_inSet 3 = .ok (.iconst 1, 1) := by decide +kernel
theorem dX6_inSet_4 : decode cX6_inSet 4 = .ok (.iand, 1) := by decide +kernel
theorem dX6_inSet_5 : decode cX6_inSet 5 = .ok (.iconst 1, 1) := by decide +kernel
theorem dX6_inSet_6 : decode cX6_inSet 6 = .ok (.if_icmp .ne 7, 3) := by decide +kernel
theorem dX6_inSet_9 : decode cX6_inSet 9 = .ok (.iconst 1, 1) := by decide +kernel
theorem dX6_inSet_10 : decode cX6_inSet 10 = .ok (.goto 4, 3) := by decide +kernel
theorem dX6_inSet_13 : decode cX6_inSet 13 = .ok (.iconst 0, 1) := by decide +kernel
theorem dX6_inSet_14 : decode cX6_inSet 14 = .ok (.ireturn, 1) := by decide +kernel
set_option maxRecDepth 100000 in
set_option maxHeartbeats 4000000 in
theorem con_X6_inSet (G : Gt) (a0 : Int32) (a1 : Int32)  (mem : Mem) : Con tvI G yX6_inSet cX6_inSet 2 (some .boolean) 1 [.int a0, .int a1] mem (X6_inSet a0 a1 mem) := by
  refine con_of (by decide) (Nat.le_of_ble_eq_true rfl) ?_
  show EvR tvI G cX6_inSet 2 (some .boolean) RX6 1 0 [(0, .int (a0)), (1, .int (a1))] [] mem _
  unfold X6_inSet
  refine ev_iload_n (q := 1) dX6_inSet_0 rfl 0 rfl rfl ?_
  refine ev_iload_n (q := 2) dX6_inSet_1 rfl 1 rfl rfl ?_
  refine ev_ishr (q := 3) dX6_inSet_2 rfl ?_
  refine ev_iconst (q := 4) (v := 1) dX6_inSet_3 rfl li_1 ?_
  refine ev_iand (q := 5) dX6_inSet_4 rfl ?_
  refine ev_iconst (q := 6) (v := 1) dX6_inSet_5 rfl li_1 ?_
  refine ev_icmp_ne (t := 13) (q := 9) dX6_inSet_6 rfl rfl (fun hc1 => ?_) (fun hc1 => ?_)
  · refine ev_iconst (q := 10) (v := 1) dX6_inSet_9 rfl li_1 ?_
    refine ev_goto (t := 14) dX6_inSet_10 rfl ?_
    exact ev_zret dX6_inSet_14 rfl
  · refine ev_iconst (q := 14) (v := 0) dX6_inSet_13 rfl li_0 ?_
    exact ev_zret dX6_inSet_14 rfl
/-! AgingLetters$Acts.letHear(LAgingLetters$Office;III)I -/
theorem dX0_letHear_0 : decode cX0_letHear 0 = .ok (.iconst 0, 1) := by decide +kernel
theorem dX0_letHear_1 : decode cX0_letHear 1 = .ok (.istore 4, 2) := by decide +kernel
theorem dX0_letHear_3 : decode cX0_letHear 3 = .ok (.iconst 0, 1) := by decide +kernel
theorem dX0_letHear_4 : decode cX0_letHear 4 = .ok (.istore 5, 2) := by decide +kernel
theorem dX0_letHear_6 : decode cX0_letHear 6 = .ok (.iload 5, 2) := by decide +kernel
theorem dX0_letHear_8 : decode cX0_letHear 8 = .ok (.aload_n 0, 1) := by decide +kernel
theorem dX0_letHear_9 : decode cX0_letHear 9 = .ok (.getfield 68, 3) := by decide +kernel
theorem dX0_letHear_12 : decode cX0_letHear 12 = .ok (.if_icmp .ge 68, 3) := by decide +kernel
theorem dX0_letHear_15 : decode cX0_letHear 15 = .ok (.iload_n 2, 1) := by decide +kernel
theorem dX0_letHear_16 : decode cX0_letHear 16 = .ok (.iload 5, 2) := by decide +kernel
theorem dX0_letHear_18 : decode cX0_letHear 18 = .ok (.invokestatic 71, 3) := by decide +kernel
theorem dX0_letHear_21 : decode cX0_letHear 21 = .ok (.ifCond .ne 6, 3) := by decide +kernel
theorem dX0_letHear_24 : decode cX0_letHear 24 = .ok (.goto 50, 3) := by decide +kernel
theorem dX0_letHear_27 : decode cX0_letHear 27 = .ok (.aload_n 0, 1) := by decide +kernel
theorem dX0_letHear_28 : decode cX0_letHear 28 = .ok (.getfield 74, 3) := by decide +kernel
theorem dX0_letHear_31 : decode cX0_letHear 31 = .ok (.iload 5, 2) := by decide +kernel
theorem dX0_letHear_33 : decode cX0_letHear 33 = .ok (.iaload, 1) := by decide +kernel
theorem dX0_letHear_34 : decode cX0_letHear 34 = .ok (.iload_n 1, 1) := by decide +kernel
theorem dX0_letHear_35 : decode cX0_letHear 35 = .ok (.invokestatic 71, 3) := by decide +kernel
theorem dX0_letHear_38 : decode cX0_letHear 38 = .ok (.ifCond .ne 12, 3) := by decide +kernel
theorem dX0_letHear_41 : decode cX0_letHear 41 = .ok (.iload 4, 2) := by decide +kernel
theorem dX0_letHear_43 : decode cX0_letHear 43 = .ok (.iconst 1, 1) := by decide +kernel
theorem dX0_letHear_44 : decode cX0_letHear 44 = .ok (.iload 5, 2) := by decide +kernel
theorem dX0_letHear_46 : decode cX0_letHear 46 = .ok (.ishl, 1) := by decide +kernel
theorem dX0_letHear_47 : decode cX0_letHear 47 = .ok (.ior, 1) := by decide +kernel
theorem dX0_letHear_48 : decode cX0_letHear 48 = .ok (.istore 4, 2) := by decide +kernel
theorem dX0_letHear_50 : decode cX0_letHear 50 = .ok (.aload_n 0, 1) := by decide +kernel
theorem dX0_letHear_51 : decode cX0_letHear 51 = .ok (.getfield 74, 3) := by decide +kernel
theorem dX0_letHear_54 : decode cX0_letHear 54 = .ok (.iload 5, 2) := by decide +kernel
theorem dX0_letHear_56 : decode cX0_letHear 56 = .ok (.dup2, 1) := by decide +kernel
theorem dX0_letHear_57 : decode cX0_letHear 57 = .ok (.iaload, 1) := by decide +kernel
theorem dX0_letHear_58 : decode cX0_letHear 58 = .ok (.iconst 1, 1) := by decide +kernel
theorem dX0_letHear_59 : decode cX0_letHear 59 = .ok (.iload_n 1, 1) := by decide +kernel
theorem dX0_letHear_60 : decode cX0_letHear 60 = .ok (.ishl, 1) := by decide +kernel
theorem dX0_letHear_61 : decode cX0_letHear 61 = .ok (.ior, 1) := by decide +kernel
theorem dX0_letHear_62 : decode cX0_letHear 62 = .ok (.iastore, 1) := by decide +kernel
theorem dX0_letHear_63 : decode cX0_letHear 63 = .ok (.aload_n 0, 1) := by decide +kernel
theorem dX0_letHear_64 : decode cX0_letHear 64 = .ok (.getfield 48, 3) := by decide +kernel
theorem dX0_letHear_67 : decode cX0_letHear 67 = .ok (.iload 5, 2) := by decide +kernel
theorem dX0_letHear_69 : decode cX0_letHear 69 = .ok (.dup2, 1) := by decide +kernel
theorem dX0_letHear_70 : decode cX0_letHear 70 = .ok (.iaload, 1) := by decide +kernel
theorem dX0_letHear_71 : decode cX0_letHear 71 = .ok (.iload_n 3, 1) := by decide +kernel
theorem dX0_letHear_72 : decode cX0_letHear 72 = .ok (.iadd, 1) := by decide +kernel
theorem dX0_letHear_73 : decode cX0_letHear 73 = .ok (.iastore, 1) := by decide +kernel
theorem dX0_letHear_74 : decode cX0_letHear 74 = .ok (.iinc 5 1, 3) := by decide +kernel
theorem dX0_letHear_77 : decode cX0_letHear 77 = .ok (.goto (-71), 3) := by decide +kernel
theorem dX0_letHear_80 : decode cX0_letHear 80 = .ok (.iload 4, 2) := by decide +kernel
theorem dX0_letHear_82 : decode cX0_letHear 82 = .ok (.ireturn, 1) := by decide +kernel
set_option maxRecDepth 100000 in
set_option maxHeartbeats 4000000 in
theorem X0_letHear_b74_ok (G : Gt) (p0 : Nat) (hp0 : kd p0 = 3)   (k6 : Int32 → Int32 → Int32 → Int32 → Int32 → Mem → Option (Int32 × Mem)) (hk6 : ∀ (x1 : Int32) (x2 : Int32) (x3 : Int32) (x4 : Int32) (x5 : Int32) (mem : Mem), EvR tvI G cX0_letHear 6 (some .int) RX0 2 6 [(0, .ref (gA G p0)), (1, .int (x1)), (2, .int (x2)), (3, .int (x3)), (4, .int (x4)), (5, .int (x5))] [] mem (k6 x1 x2 x3 x4 x5 mem)) (x1 : Int32) (x2 : Int32) (x3 : Int32) (x4 : Int32) (x5 : Int32) (mem : Mem) : EvR tvI G cX0_letHear 6 (some .int) RX0 2 74 [(0, .ref (gA G p0)), (1, .int (x1)), (2, .int (x2)), (3, .int (x3)), (4, .int (x4)), (5, .int (x5))] [] mem (X0_letHear_b74 p0 k6 x1 x2 x3 x4 x5 mem) := by
  unfold X0_letHear_b74
  refine ev_iinc (q := 77) (lv2 := [(5, .int _), (0, .ref _), (1, .int _), (2, .int _), (3, .int _), (4, .int _)]) (v := x5 + 1) dX0_letHear_74 5 rfl rfl (congrArg (HAdd.hAdd _) li_1) (Nat.le_of_ble_eq_true rfl) rfl ?_
  refine ev_goto (t := 6) dX0_letHear_77 rfl ?_
  refine ev_sub (lv' := [(0, .ref _), (1, .int _), (2, .int _), (3, .int _), (4, .int _), (5, .int _)]) [1, 2, 3, 4, 5, 0] rfl ?_
  exact hk6 _ _ _ _ _ _
set_option maxRecDepth 100000 in
set_option maxHeartbeats 4000000 in
theorem X0_letHear_b50_ok (G : Gt) (p0 : Nat) (hp0 : kd p0 = 3)   (k6 : Int32 → Int32 → Int32 → Int32 → Int32 → Mem → Option (Int32 × Mem)) (hk6 : ∀ (x1 : Int32) (x2 : Int32) (x3 : Int32) (x4 : Int32) (x5 : Int32) (mem : Mem), EvR tvI G cX0_letHear 6 (some .int) RX0 2 6 [(0, .ref (gA G p0)), (1, .int (x1)), (2, .int (x2)), (3, .int (x3)), (4, .int (x4)), (5, .int (x5))] [] mem (k6 x1 x2 x3 x4 x5 mem)) (x1 : Int32) (x2 : Int32) (x3 : Int32) (x4 : Int32) (x5 : Int32) (mem : Mem) : EvR tvI G cX0_letHear 6 (some .int) RX0 2 50 [(0, .ref (gA G p0)), (1, .int (x1)), (2, .int (x2)), (3, .int (x3)), (4, .int (x4)), (5, .int (x5))] [] mem (X0_letHear_b50 p0 k6 x1 x2 x3 x4 x5 mem) := by
  unfold X0_letHear_b50
  refine ev_aload_n (q := 51) dX0_letHear_50 rfl 0 rfl rfl ?_
  refine ev_getR (q := 54) (ci := 3) (j := 11) (T := TX3) dX0_letHear_51 rfl cf_3 hp0 hj_3_11 hc_3 gf_X0_74 rfl ?_
  refine ev_iload (q := 56) dX0_letHear_54 5 rfl rfl ?_
  refine ev_dup2_11 (q := 57) dX0_letHear_56 rfl rfl rfl ?_
  refine ev_iald (q := 58) dX0_letHear_57 rfl (kr_3_11 hp0) (fun z9 => ?_)
  refine ev_iconst (q := 59) (v := 1) dX0_letHear_58 rfl li_1 ?_
  refine ev_iload_n (q := 60) dX0_letHear_59 rfl 1 rfl rfl ?_
  refine ev_ishl (q := 61) dX0_letHear_60 rfl ?_
  refine ev_ior (q := 62) dX0_letHear_61 rfl ?_
  refine ev_iast (q := 63) dX0_letHear_62 rfl (kr_3_11 hp0) (fun m10 => ?_)
  refine ev_aload_n (q := 64) dX0_letHear_63 rfl 0 rfl rfl ?_
  refine ev_getR (q := 67) (ci := 3) (j := 9) (T := TX3) dX0_letHear_64 rfl cf_3 hp0 hj_3_9 hc_3 gf_X0_48 rfl ?_
  refine ev_iload (q := 69) dX0_letHear_67 5 rfl rfl ?_
  refine ev_dup2_11 (q := 70) dX0_letHear_69 rfl rfl rfl ?_
  refine ev_iald (q := 71) dX0_letHear_70 rfl (kr_3_9 hp0) (fun z11 => ?_)
  refine ev_iload_n (q := 72) dX0_letHear_71 rfl 3 rfl rfl ?_
  refine ev_iadd (q := 73) dX0_letHear_72 rfl ?_
  refine ev_iast (q := 74) dX0_letHear_73 rfl (kr_3_9 hp0) (fun m12 => ?_)
  exact X0_letHear_b74_ok G p0 hp0  k6 hk6 _ _ _ _ _ _
set_option maxRecDepth 100000 in
set_option maxHeartbeats 4000000 in
theorem X0_letHear_b6_ok (G : Gt) (p0 : Nat) (hp0 : kd p0 = 3)    : ∀ (n : Nat) (x1 : Int32) (x2 : Int32) (x3 : Int32) (x4 : Int32) (x5 : Int32) (mem : Mem), EvR tvI G cX0_letHear 6 (some .int) RX0 2 6 [(0, .ref (gA G p0)), (1, .int (x1)), (2, .int (x2)), (3, .int (x3)), (4, .int (x4)), (5, .int (x5))] [] mem (X0_letHear_b6 p0 n x1 x2 x3 x4 x5 mem) := by
  intro n
  induction n with
  | zero => intros; exact ev_none
  | succ n ih =>
    intro x1 x2 x3 x4 x5 mem
    rw [X0_letHear_b6]
    refine ev_iload (q := 8) dX0_letHear_6 5 rfl rfl ?_
    refine ev_aload_n (q := 9) dX0_letHear_8 rfl 0 rfl rfl ?_
    refine ev_getI (q := 12) (ci := 3) (j := 7) (T := TX3) dX0_letHear_9 rfl cf_3 hp0 hj_3_7 hc_3 gf_X0_68 rfl ?_
    refine ev_icmp_ge (t := 80) (q := 15) dX0_letHear_12 rfl rfl (fun hc1 => ?_) (fun hc1 => ?_)
    · refine ev_iload_n (q := 16) dX0_letHear_15 rfl 2 rfl rfl ?_
      refine ev_iload (q := 18) dX0_letHear_16 5 rfl rfl ?_
      refine ev_callSNI (q := 21) dX0_letHear_18 rfl ml_X0_71 mt_X6_inSet (con_X6_inSet G _ _  _) rfl (Nat.le_of_ble_eq_true rfl) (Nat.le_of_ble_eq_true rfl) rfl (Nat.le_of_ble_eq_true rfl) (fun r2 m3 => ?_)
      refine ev_if_ne (t := 27) (q := 24) dX0_letHear_21 rfl rfl (fun hc4 => ?_) (fun hc4 => ?_)
      · refine ev_goto (t := 74) dX0_letHear_24 rfl ?_
        exact X0_letHear_b74_ok G p0 hp0  (X0_letHear_b6 p0 n) ih _ _ _ _ _ _
      · refine ev_aload_n (q := 28) dX0_letHear_27 rfl 0 rfl rfl ?_
        refine ev_getR (q := 31) (ci := 3) (j := 11) (T := TX3) dX0_letHear_28 rfl cf_3 hp0 hj_3_11 hc_3 gf_X0_74 rfl ?_
        refine ev_iload (q := 33) dX0_letHear_31 5 rfl rfl ?_
        refine ev_iald (q := 34) dX0_letHear_33 rfl (kr_3_11 hp0) (fun z5 => ?_)
        refine ev_iload_n (q := 35) dX0_letHear_34 rfl 1 rfl rfl ?_
        refine ev_callSNI (q := 38) dX0_letHear_35 rfl ml_X0_71 mt_X6_inSet (con_X6_inSet G _ _  _) rfl (Nat.le_of_ble_eq_true rfl) (Nat.le_of_ble_eq_true rfl) rfl (Nat.le_of_ble_eq_true rfl) (fun r6 m7 => ?_)
        refine ev_if_ne (t := 50) (q := 41) dX0_letHear_38 rfl rfl (fun hc8 => ?_) (fun hc8 => ?_)
        · refine ev_iload (q := 43) dX0_letHear_41 4 rfl rfl ?_
          refine ev_iconst (q := 44) (v := 1) dX0_letHear_43 rfl li_1 ?_
          refine ev_iload (q := 46) dX0_letHear_44 5 rfl rfl ?_
          refine ev_ishl (q := 47) dX0_letHear_46 rfl ?_
          refine ev_ior (q := 48) dX0_letHear_47 rfl ?_
          refine ev_istore (q := 50) (lv2 := [(4, .int _), (0, .ref _), (1, .int _), (2, .int _), (3, .int _), (5, .int _)]) dX0_letHear_48 rfl (Nat.le_of_ble_eq_true rfl) rfl ?_
          refine ev_sub (lv' := [(0, .ref _), (1, .int _), (2, .int _), (3, .int _), (4, .int _), (5, .int _)]) [1, 2, 3, 4, 0, 5] rfl ?_
          exact X0_letHear_b50_ok G p0 hp0  (X0_letHear_b6 p0 n) ih _ _ _ _ _ _
        · exact X0_letHear_b50_ok G p0 hp0  (X0_letHear_b6 p0 n) ih _ _ _ _ _ _
    · refine ev_iload (q := 82) dX0_letHear_80 4 rfl rfl ?_
      exact ev_iret dX0_letHear_82 rfl
set_option maxRecDepth 100000 in
set_option maxHeartbeats 4000000 in
theorem con_X0_letHear (G : Gt) (p0 : Nat) (a1 : Int32) (a2 : Int32) (a3 : Int32) (hp0 : kd p0 = 3) (mem : Mem) : Con tvI G yX0_letHear cX0_letHear 6 (some .int) 2 [.ref (gA G p0), .int a1, .int a2, .int a3] mem (X0_letHear p0 a1 a2 a3 mem) := by
  refine con_of (by decide) (Nat.le_of_ble_eq_true rfl) ?_
  show EvR tvI G cX0_letHear 6 (some .int) RX0 2 0 [(0, .ref (gA G p0)), (1, .int (a1)), (2, .int (a2)), (3, .int (a3))] [] mem _
  unfold X0_letHear
  refine ev_iconst (q := 1) (v := 0) dX0_letHear_0 rfl li_0 ?_
  refine ev_istore (q := 3) (lv2 := [(4, .int _), (0, .ref _), (1, .int _), (2, .int _), (3, .int _)]) dX0_letHear_1 rfl (Nat.le_of_ble_eq_true rfl) rfl ?_
  refine ev_iconst (q := 4) (v := 0) dX0_letHear_3 rfl li_0 ?_
  refine ev_istore (q := 6) (lv2 := [(5, .int _), (4, .int _), (0, .ref _), (1, .int _), (2, .int _), (3, .int _)]) dX0_letHear_4 rfl (Nat.le_of_ble_eq_true rfl) rfl ?_
  refine ev_sub (lv' := [(0, .ref _), (1, .int _), (2, .int _), (3, .int _), (4, .int _), (5, .int _)]) [2, 3, 4, 5, 1, 0] rfl ?_
  exact X0_letHear_b6_ok G p0 hp0   fu _ _ _ _ _ _
/-! AgingLetters$Acts.keep(III)V -/
theorem dX0_keep_0 : decode cX0_keep 0 = .ok (.aload_n 0, 1) := by decide +kernel
theorem dX0_keep_1 : decode cX0_keep 1 = .ok (.getfield 9, 3) := by decide +kernel
theorem dX0_keep_4 : decode cX0_keep 4 = .ok (.aload_n 0, 1) := by decide +kernel
theorem dX0_keep_5 : decode cX0_keep 5 = .ok (.getfield 31, 3) := by decide +kernel
theorem dX0_keep_8 : decode cX0_keep 8 = .ok (.iload_n 1, 1) := by decide +kernel
theorem dX0_keep_9 : decode cX0_keep 9 = .ok (.iastore, 1) := by decide +kernel
theorem dX0_keep_10 : decode cX0_keep 10 = .ok (.aload_n 0, 1) := by decide +kernel
theorem dX0_keep_11 : decode cX0_keep 11 = .ok (.getfield 16, 3) := by decide +kernel
theorem dX0_keep_14 : decode cX0_keep 14 = .ok (.aload_n 0, 1) := by decide +kernel
theorem dX0_keep_15 : decode cX0_keep 15 = .ok (.getfield 31, 3) := by decide +kernel
theorem dX0_keep_18 : decode cX0_keep 18 = .ok (.iload_n 2, 1) := by decide +kernel
theorem dX0_keep_19 : decode cX0_keep 19 = .ok (.iastore, 1) := by decide +kernel
theorem dX0_keep_20 : decode cX0_keep 20 = .ok (.aload_n 0, 1) := by decide +kernel
theorem dX0_keep_21 : decode cX0_keep 21 = .ok (.getfield 19, 3) := by decide +kernel
theorem dX0_keep_24 : decode cX0_keep 24 = .ok (.aload_n 0, 1) := by decide +kernel
theorem dX0_keep_25 : decode cX0_keep 25 = .ok (.getfield 31, 3) := by decide +kernel
theorem dX0_keep_28 : decode cX0_keep 28 = .ok (.iload_n 3, 1) := by decide +kernel
theorem dX0_keep_29 : decode cX0_keep 29 = .ok (.iastore, 1) := by decide +kernel
theorem dX0_keep_30 : decode cX0_keep 30 = .ok (.aload_n 0, 1) := by decide +kernel
theorem dX0_keep_31 : decode cX0_keep 31 = .ok (.aload_n 0, 1) := by decide +kernel
theorem dX0_keep_32 : decode cX0_keep 32 = .ok (.getfield 31, 3) := by decide +kernel
theorem dX0_keep_35 : decode cX0_keep 35 = .ok (.iconst 1, 1) := by decide +kernel
theorem dX0_keep_36 : decode cX0_keep 36 = .ok (.iadd, 1) := by decide +kernel
theorem dX0_keep_37 : decode cX0_keep 37 = .ok (.bipush 24, 2) := by decide +kernel
theorem dX0_keep_39 : decode cX0_keep 39 = .ok (.if_icmp .ge 12, 3) := by decide +kernel
theorem dX0_keep_42 : decode cX0_keep 42 = .ok (.aload_n 0, 1) := by decide +kernel
theorem dX0_keep_43 : decode cX0_keep 43 = .ok (.getfield 31, 3) := by decide +kernel
theorem dX0_keep_46 : decode cX0_keep 46 = .ok (.iconst 1, 1) := by decide +kernel
theorem dX0_keep_47 : decode cX0_keep 47 = .ok (.iadd, 1) := by decide +kernel
theorem dX0_keep_48 : decode cX0_keep 48 = .ok (.goto 4, 3) := by decide +kernel
theorem dX0_keep_51 : decode cX0_keep 51 = .ok (.iconst 0, 1) := by decide +kernel
theorem dX0_keep_52 : decode cX0_keep 52 = .ok (.putfield 31, 3) := by decide +kernel
theorem dX0_keep_55 : decode cX0_keep 55 = .ok (.aload_n 0, 1) := by decide +kernel
theorem dX0_keep_56 : decode cX0_keep 56 = .ok (.getfield 35, 3) := by decide +kernel
theorem dX0_keep_59 : decode cX0_keep 59 = .ok (.bipush 24, 2) := by decide +kernel
theorem dX0_keep_61 : decode cX0_keep 61 = .ok (.if_icmp .ge 13, 3) := by decide +kernel
theorem dX0_keep_64 : decode cX0_keep 64 = .ok (.aload_n 0, 1) := by decide +kernel
theorem dX0_keep_65 : decode cX0_keep 65 = .ok (.dup, 1) := by decide +kernel
theorem dX0_keep_66 : decode cX0_keep 66 = .ok (.getfield 35, 3) := by decide +kernel
theorem dX0_keep_69 : decode cX0_keep 69 = .ok (.iconst 1, 1) := by decide +kernel
theorem dX0_keep_70 : decode cX0_keep 70 = .ok (.iadd, 1) := by decide +kernel
theorem dX0_keep_71 : decode cX0_keep 71 = .ok (.putfield 35, 3) := by decide +kernel
theorem dX0_keep_74 : decode cX0_keep 74 = .ok (.return_, 1) := by decide +kernel
set_option maxRecDepth 100000 in
set_option maxHeartbeats 4000000 in
theorem X0_keep_b52_ok (G : Gt) (o : Nat) (ho : kd o = 0)    (s1 : Int32) (mem : Mem) : EvR tvU G cX0_keep 4 none RX0 1 52 [(0, .ref (gA G o))] [.int (s1), .ref (gA G o)] mem (X0_keep_b52 o s1 mem) := by
  unfold X0_keep_b52
  refine ev_putI (q := 55) (ci := 0) (j := 7) (T := TX0) dX0_keep_52 rfl cf_0 ho hj_0_7 hc_0 gf_X0_31 rfl rfl (tyX0_ok 7 hj_0_7) ?_
  refine ev_aload_n (q := 56) dX0_keep_55 rfl 0 rfl rfl ?_
  refine ev_getI (q := 59) (ci := 0) (j := 8) (T := TX0) dX0_keep_56 rfl cf_0 ho hj_0_8 hc_0 gf_X0_35 rfl ?_
  refine ev_bipush (q := 61) (v := 24) dX0_keep_59 rfl lb_24 ?_
  refine ev_icmp_ge (t := 74) (q := 64) dX0_keep_61 rfl rfl (fun hc6 => ?_) (fun hc6 => ?_)
  · refine ev_aload_n (q := 65) dX0_keep_64 rfl 0 rfl rfl ?_
    refine ev_dup (q := 66) dX0_keep_65 rfl rfl ?_
    refine ev_getI (q := 69) (ci := 0) (j := 8) (T := TX0) dX0_keep_66 rfl cf_0 ho hj_0_8 hc_0 gf_X0_35 rfl ?_
    refine ev_iconst (q := 70) (v := 1) dX0_keep_69 rfl li_1 ?_
    refine ev_iadd (q := 71) dX0_keep_70 rfl ?_
    refine ev_putI (q := 74) (ci := 0) (j := 8) (T := TX0) dX0_keep_71 rfl cf_0 ho hj_0_8 hc_0 gf_X0_35 rfl rfl (tyX0_ok 8 hj_0_8) ?_
    exact ev_vret dX0_keep_74 rfl
  · exact ev_vret dX0_keep_74 rfl
set_option maxRecDepth 100000 in
set_option maxHeartbeats 4000000 in
theorem con_X0_keep (G : Gt) (o : Nat) (a1 : Int32) (a2 : Int32) (a3 : Int32) (ho : kd o = 0) (mem : Mem) : Con tvU G yX0_keep cX0_keep 4 none 1 [.ref (gA G o), .int a1, .int a2, .int a3] mem (X0_keep o a1 a2 a3 mem) := by
  refine con_of (by decide) (Nat.le_of_ble_eq_true rfl) ?_
  show EvR tvU G cX0_keep 4 none RX0 1 0 [(0, .ref (gA G o)), (1, .int (a1)), (2, .int (a2)), (3, .int (a3))] [] mem _
  unfold X0_keep
  refine ev_aload_n (q := 1) dX0_keep_0 rfl 0 rfl rfl ?_
  refine ev_getR (q := 4) (ci := 0) (j := 0) (T := TX0) dX0_keep_1 rfl cf_0 ho hj_0_0 hc_0 gf_X0_9 rfl ?_
  refine ev_aload_n (q := 5) dX0_keep_4 rfl 0 rfl rfl ?_
  refine ev_getI (q := 8) (ci := 0) (j := 7) (T := TX0) dX0_keep_5 rfl cf_0 ho hj_0_7 hc_0 gf_X0_31 rfl ?_
  refine ev_iload_n (q := 9) dX0_keep_8 rfl 1 rfl rfl ?_
  refine ev_iast (q := 10) dX0_keep_9 rfl (kr_0_0 ho) (fun m1 => ?_)
  refine ev_aload_n (q := 11) dX0_keep_10 rfl 0 rfl rfl ?_
  refine ev_getR (q := 14) (ci := 0) (j := 2) (T := TX0) dX0_keep_11 rfl cf_0 ho hj_0_2 hc_0 gf_X0_16 rfl ?_
  refine ev_aload_n (q := 15) dX0_keep_14 rfl 0 rfl rfl ?_
  refine ev_getI (q := 18) (ci := 0) (j := 7) (T := TX0) dX0_keep_15 rfl cf_0 ho hj_0_7 hc_0 gf_X0_31 rfl ?_
  refine ev_iload_n (q := 19) dX0_keep_18 rfl 2 rfl rfl ?_
  refine ev_iast (q := 20) dX0_keep_19 rfl (kr_0_2 ho) (fun m2 => ?_)
  refine ev_aload_n (q := 21) dX0_keep_20 rfl 0 rfl rfl ?_
  refine ev_getR (q := 24) (ci := 0) (j := 3) (T := TX0) dX0_keep_21 rfl cf_0 ho hj_0_3 hc_0 gf_X0_19 rfl ?_
  refine ev_aload_n (q := 25) dX0_keep_24 rfl 0 rfl rfl ?_
  refine ev_getI (q := 28) (ci := 0) (j := 7) (T := TX0) dX0_keep_25 rfl cf_0 ho hj_0_7 hc_0 gf_X0_31 rfl ?_
  refine ev_iload_n (q := 29) dX0_keep_28 rfl 3 rfl rfl ?_
  refine ev_iast (q := 30) dX0_keep_29 rfl (kr_0_3 ho) (fun m3 => ?_)
  refine ev_aload_n (q := 31) dX0_keep_30 rfl 0 rfl rfl ?_
  refine ev_aload_n (q := 32) dX0_keep_31 rfl 0 rfl rfl ?_
  refine ev_getI (q := 35) (ci := 0) (j := 7) (T := TX0) dX0_keep_32 rfl cf_0 ho hj_0_7 hc_0 gf_X0_31 rfl ?_
  refine ev_iconst (q := 36) (v := 1) dX0_keep_35 rfl li_1 ?_
  refine ev_iadd (q := 37) dX0_keep_36 rfl ?_
  refine ev_bipush (q := 39) (v := 24) dX0_keep_37 rfl lb_24 ?_
  refine ev_icmp_ge (t := 51) (q := 42) dX0_keep_39 rfl rfl (fun hc4 => ?_) (fun hc4 => ?_)
  · refine ev_aload_n (q := 43) dX0_keep_42 rfl 0 rfl rfl ?_
    refine ev_getI (q := 46) (ci := 0) (j := 7) (T := TX0) dX0_keep_43 rfl cf_0 ho hj_0_7 hc_0 gf_X0_31 rfl ?_
    refine ev_iconst (q := 47) (v := 1) dX0_keep_46 rfl li_1 ?_
    refine ev_iadd (q := 48) dX0_keep_47 rfl ?_
    refine ev_goto (t := 52) dX0_keep_48 rfl ?_
    refine ev_sub (lv' := [(0, .ref _)]) [0] rfl ?_
    exact X0_keep_b52_ok G o ho   _ _
  · refine ev_iconst (q := 52) (v := 0) dX0_keep_51 rfl li_0 ?_
    refine ev_sub (lv' := [(0, .ref _)]) [0] rfl ?_
    exact X0_keep_b52_ok G o ho   _ _
/-! AgingLetters$Acts.letRead(LAgingLetters$Office;III)V -/
theorem dX0_letRead_0 : decode cX0_letRead 0 = .ok (.aload_n 1, 1) := by decide +kernel
theorem dX0_letRead_1 : decode cX0_letRead 1 = .ok (.iload_n 2, 1) := by decide +kernel
theorem dX0_letRead_2 : decode cX0_letRead 2 = .ok (.iload_n 3, 1) := by decide +kernel
theorem dX0_letRead_3 : decode cX0_letRead 3 = .ok (.invokevirtual 38, 3) := by decide +kernel
theorem dX0_letRead_6 : decode cX0_letRead 6 = .ok (.istore 5, 2) := by decide +kernel
theorem dX0_letRead_8 : decode cX0_letRead 8 = .ok (.aload_n 1, 1) := by decide +kernel
theorem dX0_letRead_9 : decode cX0_letRead 9 = .ok (.iload_n 2, 1) := by decide +kernel
theorem dX0_letRead_10 : decode cX0_letRead 10 = .ok (.iload 5, 2) := by decide +kernel
theorem dX0_letRead_12 : decode cX0_letRead 12 = .ok (.invokevirtual 44, 3) := by decide +kernel
theorem dX0_letRead_15 : decode cX0_letRead 15 = .ok (.ifCond .eq 7, 3) := by decide +kernel
theorem dX0_letRead_18 : decode cX0_letRead 18 = .ok (.iconst 1, 1) := by decide +kernel
theorem dX0_letRead_19 : decode cX0_letRead 19 = .ok (.goto 4, 3) := by decide +kernel
theorem dX0_letRead_22 : decode cX0_letRead 22 = .ok (.iconst 0, 1) := by decide +kernel
theorem dX0_letRead_23 : decode cX0_letRead 23 = .ok (.istore 6, 2) := by decide +kernel
theorem dX0_letRead_25 : decode cX0_letRead 25 = .ok (.aload_n 1, 1) := by decide +kernel
theorem dX0_letRead_26 : decode cX0_letRead 26 = .ok (.getfield 48, 3) := by decide +kernel
theorem dX0_letRead_29 : decode cX0_letRead 29 = .ok (.iload_n 2, 1) := by decide +kernel
theorem dX0_letRead_30 : decode cX0_letRead 30 = .ok (.dup2, 1) := by decide +kernel
theorem dX0_letRead_31 : decode cX0_letRead 31 = .ok (.iaload, 1) := by decide +kernel
theorem dX0_letRead_32 : decode cX0_letRead 32 = .ok (.iload 5, 2) := by decide +kernel
theorem dX0_letRead_34 : decode cX0_letRead 34 = .ok (.iadd, 1) := by decide +kernel
theorem dX0_letRead_35 : decode cX0_letRead 35 = .ok (.iastore, 1) := by decide +kernel
theorem dX0_letRead_36 : decode cX0_letRead 36 = .ok (.aload_n 1, 1) := by decide +kernel
theorem dX0_letRead_37 : decode cX0_letRead 37 = .ok (.iload_n 2, 1) := by decide +kernel
theorem dX0_letRead_38 : decode cX0_letRead 38 = .ok (.iload_n 3, 1) := by decide +kernel
theorem dX0_letRead_39 : decode cX0_letRead 39 = .ok (.iload 6, 2) := by decide +kernel
theorem dX0_letRead_41 : decode cX0_letRead 41 = .ok (.invokevirtual 51, 3) := by decide +kernel
theorem dX0_letRead_44 : decode cX0_letRead 44 = .ok (.aload_n 0, 1) := by decide +kernel
theorem dX0_letRead_45 : decode cX0_letRead 45 = .ok (.getfield 13, 3) := by decide +kernel
theorem dX0_letRead_48 : decode cX0_letRead 48 = .ok (.aload_n 0, 1) := by decide +kernel
theorem dX0_letRead_49 : decode cX0_letRead 49 = .ok (.getfield 31, 3) := by decide +kernel
theorem dX0_letRead_52 : decode cX0_letRead 52 = .ok (.iload_n 2, 1) := by decide +kernel
theorem dX0_letRead_53 : decode cX0_letRead 53 = .ok (.iastore, 1) := by decide +kernel
theorem dX0_letRead_54 : decode cX0_letRead 54 = .ok (.aload_n 0, 1) := by decide +kernel
theorem dX0_letRead_55 : decode cX0_letRead 55 = .ok (.getfield 22, 3) := by decide +kernel
theorem dX0_letRead_58 : decode cX0_letRead 58 = .ok (.aload_n 0, 1) := by decide +kernel
theorem dX0_letRead_59 : decode cX0_letRead 59 = .ok (.getfield 31, 3) := by decide +kernel
theorem dX0_letRead_62 : decode cX0_letRead 62 = .ok (.iload 6, 2) := by decide +kernel
theorem dX0_letRead_64 : decode cX0_letRead 64 = .ok (.iastore, 1) := by decide +kernel
theorem dX0_letRead_65 : decode cX0_letRead 65 = .ok (.aload_n 0, 1) := by decide +kernel
theorem dX0_letRead_66 : decode cX0_letRead 66 = .ok (.getfield 25, 3) := by decide +kernel
theorem dX0_letRead_69 : decode cX0_letRead 69 = .ok (.aload_n 0, 1) := by decide +kernel
theorem dX0_letRead_70 : decode cX0_letRead 70 = .ok (.getfield 31, 3) := by decide +kernel
theorem dX0_letRead_73 : decode cX0_letRead 73 = .ok (.iload 4, 2) := by decide +kernel
theorem dX0_letRead_75 : decode cX0_letRead 75 = .ok (.iastore, 1) := by decide +kernel
theorem dX0_letRead_76 : decode cX0_letRead 76 = .ok (.aload_n 0, 1) := by decide +kernel
theorem dX0_letRead_77 : decode cX0_letRead 77 = .ok (.getfield 28, 3) := by decide +kernel
theorem dX0_letRead_80 : decode cX0_letRead 80 = .ok (.aload_n 0, 1) := by decide +kernel
theorem dX0_letRead_81 : decode cX0_letRead 81 = .ok (.getfield 31, 3) := by decide +kernel
theorem dX0_letRead_84 : decode cX0_letRead 84 = .ok (.aload_n 1, 1) := by decide +kernel
theorem dX0_letRead_85 : decode cX0_letRead 85 = .ok (.iload_n 3, 1) := by decide +kernel
theorem dX0_letRead_86 : decode cX0_letRead 86 = .ok (.iload 4, 2) := by decide +kernel
theorem dX0_letRead_88 : decode cX0_letRead 88 = .ok (.iload 5, 2) := by decide +kernel
theorem dX0_letRead_90 : decode cX0_letRead 90 = .ok (.invokestatic 55, 3) := by decide +kernel
theorem dX0_letRead_93 : decode cX0_letRead 93 = .ok (.invokestatic 61, 3) := by decide +kernel
theorem dX0_letRead_96 : decode cX0_letRead 96 = .ok (.iastore, 1) := by decide +kernel
theorem dX0_letRead_97 : decode cX0_letRead 97 = .ok (.aload_n 0, 1) := by decide +kernel
theorem dX0_letRead_98 : decode cX0_letRead 98 = .ok (.iconst 0, 1) := by decide +kernel
theorem dX0_letRead_99 : decode cX0_letRead 99 = .ok (.iload_n 3, 1) := by decide +kernel
theorem dX0_letRead_100 : decode cX0_letRead 100 = .ok (.iload 5, 2) := by decide +kernel
theorem dX0_letRead_102 : decode cX0_letRead 102 = .ok (.invokevirtual 65, 3) := by decide +kernel
theorem dX0_letRead_105 : decode cX0_letRead 105 = .ok (.return_, 1) := by decide +kernel
set_option maxRecDepth 100000 in
set_option maxHeartbeats 4000000 in
theorem X0_letRead_b23_ok (G : Gt) (o : Nat) (p1 : Nat) (ho : kd o = 0) (hp1 : kd p1 = 3)    (x2 : Int32) (x3 : Int32) (x4 : Int32) (x5 : Int32) (s0 : Int32) (mem : Mem) : EvR tvU G cX0_letRead 7 none RX0 5 23 [(0, .ref (gA G o)), (1, .ref (gA G p1)), (2, .int (x2)), (3, .int (x3)), (4, .int (x4)), (5, .int (x5))] [.int (s0)] mem (X0_letRead_b23 o p1 x2 x3 x4 x5 s0 mem) := by
  unfold X0_letRead_b23
  refine ev_istore (q := 25) (lv2 := [(6, .int _), (0, .ref _), (1, .ref _), (2, .int _), (3, .int _), (4, .int _), (5, .int _)]) dX0_letRead_23 rfl (Nat.le_of_ble_eq_true rfl) rfl ?_
  refine ev_aload_n (q := 26) dX0_letRead_25 rfl 2 rfl rfl ?_
  refine ev_getR (q := 29) (ci := 3) (j := 9) (T := TX3) dX0_letRead_26 rfl cf_3 hp1 hj_3_9 hc_3 gf_X0_48 rfl ?_
  refine ev_iload_n (q := 30) dX0_letRead_29 rfl 3 rfl rfl ?_
  refine ev_dup2_11 (q := 31) dX0_letRead_30 rfl rfl rfl ?_
  refine ev_iald (q := 32) dX0_letRead_31 rfl (kr_3_9 hp1) (fun z6 => ?_)
  refine ev_iload (q := 34) dX0_letRead_32 6 rfl rfl ?_
  refine ev_iadd (q := 35) dX0_letRead_34 rfl ?_
  refine ev_iast (q := 36) dX0_letRead_35 rfl (kr_3_9 hp1) (fun m7 => ?_)
  refine ev_aload_n (q := 37) dX0_letRead_36 rfl 2 rfl rfl ?_
  refine ev_iload_n (q := 38) dX0_letRead_37 rfl 3 rfl rfl ?_
  refine ev_iload_n (q := 39) dX0_letRead_38 rfl 4 rfl rfl ?_
  refine ev_iload (q := 41) dX0_letRead_39 0 rfl rfl ?_
  refine ev_callVU (q := 44) dX0_letRead_41 rfl ml_X0_51 mt_X3_addTimesRead cf_3 rfl hp1 hc_3 (con_X3_addTimesRead G _ _ _ _ hp1 _) rfl (Nat.le_of_ble_eq_true rfl) (Nat.le_of_ble_eq_true rfl) rfl (Nat.le_of_ble_eq_true rfl) (fun r8 m9 => ?_)
  refine ev_aload_n (q := 45) dX0_letRead_44 rfl 1 rfl rfl ?_
  refine ev_getR (q := 48) (ci := 0) (j := 1) (T := TX0) dX0_letRead_45 rfl cf_0 ho hj_0_1 hc_0 gf_X0_13 rfl ?_
  refine ev_aload_n (q := 49) dX0_letRead_48 rfl 1 rfl rfl ?_
  refine ev_getI (q := 52) (ci := 0) (j := 7) (T := TX0) dX0_letRead_49 rfl cf_0 ho hj_0_7 hc_0 gf_X0_31 rfl ?_
  refine ev_iload_n (q := 53) dX0_letRead_52 rfl 3 rfl rfl ?_
  refine ev_iast (q := 54) dX0_letRead_53 rfl (kr_0_1 ho) (fun m10 => ?_)
  refine ev_aload_n (q := 55) dX0_letRead_54 rfl 1 rfl rfl ?_
  refine ev_getR (q := 58) (ci := 0) (j := 4) (T := TX0) dX0_letRead_55 rfl cf_0 ho hj_0_4 hc_0 gf_X0_22 rfl ?_
  refine ev_aload_n (q := 59) dX0_letRead_58 rfl 1 rfl rfl ?_
  refine ev_getI (q := 62) (ci := 0) (j := 7) (T := TX0) dX0_letRead_59 rfl cf_0 ho hj_0_7 hc_0 gf_X0_31 rfl ?_
  refine ev_iload (q := 64) dX0_letRead_62 0 rfl rfl ?_
  refine ev_iast (q := 65) dX0_letRead_64 rfl (kr_0_4 ho) (fun m11 => ?_)
  refine ev_aload_n (q := 66) dX0_letRead_65 rfl 1 rfl rfl ?_
  refine ev_getR (q := 69) (ci := 0) (j := 5) (T := TX0) dX0_letRead_66 rfl cf_0 ho hj_0_5 hc_0 gf_X0_25 rfl ?_
  refine ev_aload_n (q := 70) dX0_letRead_69 rfl 1 rfl rfl ?_
  refine ev_getI (q := 73) (ci := 0) (j := 7) (T := TX0) dX0_letRead_70 rfl cf_0 ho hj_0_7 hc_0 gf_X0_31 rfl ?_
  refine ev_iload (q := 75) dX0_letRead_73 5 rfl rfl ?_
  refine ev_iast (q := 76) dX0_letRead_75 rfl (kr_0_5 ho) (fun m12 => ?_)
  refine ev_aload_n (q := 77) dX0_letRead_76 rfl 1 rfl rfl ?_
  refine ev_getR (q := 80) (ci := 0) (j := 6) (T := TX0) dX0_letRead_77 rfl cf_0 ho hj_0_6 hc_0 gf_X0_28 rfl ?_
  refine ev_aload_n (q := 81) dX0_letRead_80 rfl 1 rfl rfl ?_
  refine ev_getI (q := 84) (ci := 0) (j := 7) (T := TX0) dX0_letRead_81 rfl cf_0 ho hj_0_7 hc_0 gf_X0_31 rfl ?_
  refine ev_aload_n (q := 85) dX0_letRead_84 rfl 2 rfl rfl ?_
  refine ev_iload_n (q := 86) dX0_letRead_85 rfl 4 rfl rfl ?_
  refine ev_iload (q := 88) dX0_letRead_86 5 rfl rfl ?_
  refine ev_iload (q := 90) dX0_letRead_88 6 rfl rfl ?_
  refine ev_callSNI (q := 93) dX0_letRead_90 rfl ml_X0_55 mt_X6_tenthUp (con_X6_tenthUp G _  _) rfl (Nat.le_of_ble_eq_true rfl) (Nat.le_of_ble_eq_true rfl) rfl (Nat.le_of_ble_eq_true rfl) (fun r13 m14 => ?_)
  refine ev_callSI (q := 96) dX0_letRead_93 rfl ml_X0_61 mt_X0_letHear (con_X0_letHear G _ _ _ _ hp1 _) rfl (Nat.le_of_ble_eq_true rfl) (Nat.le_of_ble_eq_true rfl) rfl (Nat.le_of_ble_eq_true rfl) (fun r15 m16 => ?_)
  refine ev_iast (q := 97) dX0_letRead_96 rfl (kr_0_6 ho) (fun m17 => ?_)
  refine ev_aload_n (q := 98) dX0_letRead_97 rfl 1 rfl rfl ?_
  refine ev_iconst (q := 99) (v := 0) dX0_letRead_98 rfl li_0 ?_
  refine ev_iload_n (q := 100) dX0_letRead_99 rfl 4 rfl rfl ?_
  refine ev_iload (q := 102) dX0_letRead_100 6 rfl rfl ?_
  refine ev_callVU (q := 105) dX0_letRead_102 rfl ml_X0_65 mt_X0_keep cf_0 rfl ho hc_0 (con_X0_keep G _ _ _ _ ho _) rfl (Nat.le_of_ble_eq_true rfl) (Nat.le_of_ble_eq_true rfl) rfl (Nat.le_of_ble_eq_true rfl) (fun r18 m19 => ?_)
  exact ev_vret dX0_letRead_105 rfl
set_option maxRecDepth 100000 in
set_option maxHeartbeats 4000000 in
theorem con_X0_letRead (G : Gt) (o : Nat) (p1 : Nat) (a2 : Int32) (a3 : Int32) (a4 : Int32) (ho : kd o = 0) (hp1 : kd p1 = 3) (mem : Mem) : Con tvU G yX0_letRead cX0_letRead 7 none 5 [.ref (gA G o), .ref (gA G p1), .int a2, .int a3, .int a4] mem (X0_letRead o p1 a2 a3 a4 mem) := by
  refine con_of (by decide) (Nat.le_of_ble_eq_true rfl) ?_
  show EvR tvU G cX0_letRead 7 none RX0 5 0 [(0, .ref (gA G o)), (1, .ref (gA G p1)), (2, .int (a2)), (3, .int (a3)), (4, .int (a4))] [] mem _
  unfold X0_letRead
  refine ev_aload_n (q := 1) dX0_letRead_0 rfl 1 rfl rfl ?_
  refine ev_iload_n (q := 2) dX0_letRead_1 rfl 2 rfl rfl ?_
  refine ev_iload_n (q := 3) dX0_letRead_2 rfl 3 rfl rfl ?_
  refine ev_callVI (q := 6) dX0_letRead_3 rfl ml_X0_38 mt_X3_costFor cf_3 rfl hp1 hc_3 (con_X3_costFor G _ _ _ hp1 _) rfl (Nat.le_of_ble_eq_true rfl) (Nat.le_of_ble_eq_true rfl) rfl (Nat.le_of_ble_eq_true rfl) (fun r1 m2 => ?_)
  refine ev_istore (q := 8) (lv2 := [(5, .int _), (0, .ref _), (1, .ref _), (2, .int _), (3, .int _), (4, .int _)]) dX0_letRead_6 rfl (Nat.le_of_ble_eq_true rfl) rfl ?_
  refine ev_aload_n (q := 9) dX0_letRead_8 rfl 2 rfl rfl ?_
  refine ev_iload_n (q := 10) dX0_letRead_9 rfl 3 rfl rfl ?_
  refine ev_iload (q := 12) dX0_letRead_10 0 rfl rfl ?_
  refine ev_callVI (q := 15) dX0_letRead_12 rfl ml_X0_44 mt_X3_survives cf_3 rfl hp1 hc_3 (con_X3_survives G _ _ _ hp1 _) rfl (Nat.le_of_ble_eq_true rfl) (Nat.le_of_ble_eq_true rfl) rfl (Nat.le_of_ble_eq_true rfl) (fun r3 m4 => ?_)
  refine ev_if_eq (t := 22) (q := 18) dX0_letRead_15 rfl rfl (fun hc5 => ?_) (fun hc5 => ?_)
  · refine ev_iconst (q := 23) (v := 0) dX0_letRead_22 rfl li_0 ?_
    refine ev_sub (lv' := [(0, .ref _), (1, .ref _), (2, .int _), (3, .int _), (4, .int _), (5, .int _)]) [1, 2, 3, 4, 5, 0] rfl ?_
    exact X0_letRead_b23_ok G o p1 ho hp1   _ _ _ _ _ _
  · refine ev_iconst (q := 19) (v := 1) dX0_letRead_18 rfl li_1 ?_
    refine ev_goto (t := 23) dX0_letRead_19 rfl ?_
    refine ev_sub (lv' := [(0, .ref _), (1, .ref _), (2, .int _), (3, .int _), (4, .int _), (5, .int _)]) [1, 2, 3, 4, 5, 0] rfl ?_
    exact X0_letRead_b23_ok G o p1 ho hp1   _ _ _ _ _ _
/-! AgingLetters$Acts.letCross(LAgingLetters$Office;II)V -/
theorem dX0_letCross_0 : decode cX0_letCross 0 = .ok (.aload_n 1, 1) := by decide +kernel
theorem dX0_letCross_1 : decode cX0_letCross 1 = .ok (.getfield 77, 3) := by decide +kernel
theorem dX0_letCross_4 : decode cX0_letCross 4 = .ok (.iload_n 2, 1) := by decide +kernel
theorem dX0_letCross_5 : decode cX0_letCross 5 = .ok (.dup2, 1) := by decide +kernel
theorem dX0_letCross_6 : decode cX0_letCross 6 = .ok (.iaload, 1) := by decide +kernel
theorem dX0_letCross_7 : decode cX0_letCross 7 = .ok (.iload_n 3, 1) := by decide +kernel
theorem dX0_letCross_8 : decode cX0_letCross 8 = .ok (.isub, 1) := by decide +kernel
theorem dX0_letCross_9 : decode cX0_letCross 9 = .ok (.iastore, 1) := by decide +kernel
theorem dX0_letCross_10 : decode cX0_letCross 10 = .ok (.aload_n 0, 1) := by decide +kernel
theorem dX0_letCross_11 : decode cX0_letCross 11 = .ok (.iconst 1, 1) := by decide +kernel
theorem dX0_letCross_12 : decode cX0_letCross 12 = .ok (.iload_n 2, 1) := by decide +kernel
theorem dX0_letCross_13 : decode cX0_letCross 13 = .ok (.iload_n 3, 1) := by decide +kernel
theorem dX0_letCross_14 : decode cX0_letCross 14 = .ok (.invokevirtual 65, 3) := by decide +kernel
theorem dX0_letCross_17 : decode cX0_letCross 17 = .ok (.return_, 1) := by decide +kernel
set_option maxRecDepth 100000 in
set_option maxHeartbeats 4000000 in
theorem con_X0_letCross (G : Gt) (o : Nat) (p1 : Nat) (a2 : Int32) (a3 : Int32) (ho : kd o = 0) (hp1 : kd p1 = 3) (mem : Mem) : Con tvU G yX0_letCross cX0_letCross 4 none 2 [.ref (gA G o), .ref (gA G p1), .int a2, .int a3] mem (X0_letCross o p1 a2 a3 mem) := by
  refine con_of (by decide) (Nat.le_of_ble_eq_true rfl) ?_
  show EvR tvU G cX0_letCross 4 none RX0 2 0 [(0, .ref (gA G o)), (1, .ref (gA G p1)), (2, .int (a2)), (3, .int (a3))] [] mem _
  unfold X0_letCross
  refine ev_aload_n (q := 1) dX0_letCross_0 rfl 1 rfl rfl ?_
  refine ev_getR (q := 4) (ci := 3) (j := 5) (T := TX3) dX0_letCross_1 rfl cf_3 hp1 hj_3_5 hc_3 gf_X0_77 rfl ?_
  refine ev_iload_n (q := 5) dX0_letCross_4 rfl 2 rfl rfl ?_
  refine ev_dup2_11 (q := 6) dX0_letCross_5 rfl rfl rfl ?_
  refine ev_iald (q := 7) dX0_letCross_6 rfl (kr_3_5 hp1) (fun z1 => ?_)
  refine ev_iload_n (q := 8) dX0_letCross_7 rfl 3 rfl rfl ?_
  refine ev_isub (q := 9) dX0_letCross_8 rfl ?_
  refine ev_iast (q := 10) dX0_letCross_9 rfl (kr_3_5 hp1) (fun m2 => ?_)
  refine ev_aload_n (q := 11) dX0_letCross_10 rfl 0 rfl rfl ?_
  refine ev_iconst (q := 12) (v := 1) dX0_letCross_11 rfl li_1 ?_
  refine ev_iload_n (q := 13) dX0_letCross_12 rfl 2 rfl rfl ?_
  refine ev_iload_n (q := 14) dX0_letCross_13 rfl 3 rfl rfl ?_
  refine ev_callVU (q := 17) dX0_letCross_14 rfl ml_X0_65 mt_X0_keep cf_0 rfl ho hc_0 (con_X0_keep G _ _ _ _ ho _) rfl (Nat.le_of_ble_eq_true rfl) (Nat.le_of_ble_eq_true rfl) rfl (Nat.le_of_ble_eq_true rfl) (fun r3 m4 => ?_)
  exact ev_vret dX0_letCross_17 rfl
/-! AgingLetters$Acts.moveDay(LAgingLetters$Office;I)V -/
theorem dX0_moveDay_0 : decode cX0_moveDay 0 = .ok (.aload_n 0, 1) := by decide +kernel
theorem dX0_moveDay_1 : decode cX0_moveDay 1 = .ok (.dup, 1) := by decide +kernel
theorem dX0_moveDay_2 : decode cX0_moveDay 2 = .ok (.getfield 84, 3) := by decide +kernel
theorem dX0_moveDay_5 : decode cX0_moveDay 5 = .ok (.iload_n 1, 1) := by decide +kernel
theorem dX0_moveDay_6 : decode cX0_moveDay 6 = .ok (.iadd, 1) := by decide +kernel
theorem dX0_moveDay_7 : decode cX0_moveDay 7 = .ok (.putfield 84, 3) := by decide +kernel
theorem dX0_moveDay_10 : decode cX0_moveDay 10 = .ok (.iconst 0, 1) := by decide +kernel
theorem dX0_moveDay_11 : decode cX0_moveDay 11 = .ok (.istore_n 2, 1) := by decide +kernel
theorem dX0_moveDay_12 : decode cX0_moveDay 12 = .ok (.iload_n 2, 1) := by decide +kernel
theorem dX0_moveDay_13 : decode cX0_moveDay 13 = .ok (.aload_n 0, 1) := by decide +kernel
theorem dX0_moveDay_14 : decode cX0_moveDay 14 = .ok (.getfield 68, 3) := by decide +kernel
theorem dX0_moveDay_17 : decode cX0_moveDay 17 = .ok (.if_icmp .ge 19, 3) := by decide +kernel
theorem dX0_moveDay_20 : decode cX0_moveDay 20 = .ok (.aload_n 0, 1) := by decide +kernel
theorem dX0_moveDay_21 : decode cX0_moveDay 21 = .ok (.getfield 48, 3) := by decide +kernel
theorem dX0_moveDay_24 : decode cX0_moveDay 24 = .ok (.iload_n 2, 1) := by decide +kernel
theorem dX0_moveDay_25 : decode cX0_moveDay 25 = .ok (.dup2, 1) := by decide +kernel
theorem dX0_moveDay_26 : decode cX0_moveDay 26 = .ok (.iaload, 1) := by decide +kernel
theorem dX0_moveDay_27 : decode cX0_moveDay 27 = .ok (.iload_n 1, 1) := by decide +kernel
theorem dX0_moveDay_28 : decode cX0_moveDay 28 = .ok (.iadd, 1) := by decide +kernel
theorem dX0_moveDay_29 : decode cX0_moveDay 29 = .ok (.iastore, 1) := by decide +kernel
theorem dX0_moveDay_30 : decode cX0_moveDay 30 = .ok (.iinc 2 1, 3) := by decide +kernel
theorem dX0_moveDay_33 : decode cX0_moveDay 33 = .ok (.goto (-21), 3) := by decide +kernel
theorem dX0_moveDay_36 : decode cX0_moveDay 36 = .ok (.return_, 1) := by decide +kernel
set_option maxRecDepth 100000 in
set_option maxHeartbeats 4000000 in
theorem X0_moveDay_b12_ok (G : Gt) (p0 : Nat) (hp0 : kd p0 = 3)    : ∀ (n : Nat) (x1 : Int32) (x2 : Int32) (mem : Mem), EvR tvU G cX0_moveDay 3 none RX0 1 12 [(0, .ref (gA G p0)), (1, .int (x1)), (2, .int (x2))] [] mem (X0_moveDay_b12 p0 n x1 x2 mem) := by
  intro n
  induction n with
  | zero => intros; exact ev_none
  | succ n ih =>
    intro x1 x2 mem
    rw [X0_moveDay_b12]
    refine ev_iload_n (q := 13) dX0_moveDay_12 rfl 2 rfl rfl ?_
    refine ev_aload_n (q := 14) dX0_moveDay_13 rfl 0 rfl rfl ?_
    refine ev_getI (q := 17) (ci := 3) (j := 7) (T := TX3) dX0_moveDay_14 rfl cf_3 hp0 hj_3_7 hc_3 gf_X0_68 rfl ?_
    refine ev_icmp_ge (t := 36) (q := 20) dX0_moveDay_17 rfl rfl (fun hc2 => ?_) (fun hc2 => ?_)
    · refine ev_aload_n (q := 21) dX0_moveDay_20 rfl 0 rfl rfl ?_
      refine ev_getR (q := 24) (ci := 3) (j := 9) (T := TX3) dX0_moveDay_21 rfl cf_3 hp0 hj_3_9 hc_3 gf_X0_48 rfl ?_
      refine ev_iload_n (q := 25) dX0_moveDay_24 rfl 2 rfl rfl ?_
      refine ev_dup2_11 (q := 26) dX0_moveDay_25 rfl rfl rfl ?_
      refine ev_iald (q := 27) dX0_moveDay_26 rfl (kr_3_9 hp0) (fun z3 => ?_)
      refine ev_iload_n (q := 28) dX0_moveDay_27 rfl 1 rfl rfl ?_
      refine ev_iadd (q := 29) dX0_moveDay_28 rfl ?_
      refine ev_iast (q := 30) dX0_moveDay_29 rfl (kr_3_9 hp0) (fun m4 => ?_)
      refine ev_iinc (q := 33) (lv2 := [(2, .int _), (0, .ref _), (1, .int _)]) (v := x2 + 1) dX0_moveDay_30 2 rfl rfl (congrArg (HAdd.hAdd _) li_1) (Nat.le_of_ble_eq_true rfl) rfl ?_
      refine ev_goto (t := 12) dX0_moveDay_33 rfl ?_
      refine ev_sub (lv' := [(0, .ref _), (1, .int _), (2, .int _)]) [1, 2, 0] rfl ?_
      exact ih _ _ _
    · exact ev_vret dX0_moveDay_36 rfl
set_option maxRecDepth 100000 in
set_option maxHeartbeats 4000000 in
theorem con_X0_moveDay (G : Gt) (p0 : Nat) (a1 : Int32) (hp0 : kd p0 = 3) (mem : Mem) : Con tvU G yX0_moveDay cX0_moveDay 3 none 1 [.ref (gA G p0), .int a1] mem (X0_moveDay p0 a1 mem) := by
  refine con_of (by decide) (Nat.le_of_ble_eq_true rfl) ?_
  show EvR tvU G cX0_moveDay 3 none RX0 1 0 [(0, .ref (gA G p0)), (1, .int (a1))] [] mem _
  unfold X0_moveDay
  refine ev_aload_n (q := 1) dX0_moveDay_0 rfl 0 rfl rfl ?_
  refine ev_dup (q := 2) dX0_moveDay_1 rfl rfl ?_
  refine ev_getI (q := 5) (ci := 3) (j := 2) (T := TX3) dX0_moveDay_2 rfl cf_3 hp0 hj_3_2 hc_3 gf_X0_84 rfl ?_
  refine ev_iload_n (q := 6) dX0_moveDay_5 rfl 1 rfl rfl ?_
  refine ev_iadd (q := 7) dX0_moveDay_6 rfl ?_
  refine ev_putI (q := 10) (ci := 3) (j := 2) (T := TX3) dX0_moveDay_7 rfl cf_3 hp0 hj_3_2 hc_3 gf_X0_84 rfl rfl (tyX3_ok 2 hj_3_2) ?_
  refine ev_iconst (q := 11) (v := 0) dX0_moveDay_10 rfl li_0 ?_
  refine ev_istore_n (q := 12) (lv2 := [(2, .int _), (0, .ref _), (1, .int _)]) dX0_moveDay_11 rfl rfl (Nat.le_of_ble_eq_true rfl) rfl ?_
  refine ev_sub (lv' := [(0, .ref _), (1, .int _), (2, .int _)]) [1, 2, 0] rfl ?_
  exact X0_moveDay_b12_ok G p0 hp0   fu _ _ _
/-! AgingLetters$Acts.letDayGo(LAgingLetters$Office;)V -/
theorem dX0_letDayGo_0 : decode cX0_letDayGo 0 = .ok (.aload_n 1, 1) := by decide +kernel
theorem dX0_letDayGo_1 : decode cX0_letDayGo 1 = .ok (.iconst 1, 1) := by decide +kernel
theorem dX0_letDayGo_2 : decode cX0_letDayGo 2 = .ok (.invokestatic 80, 3) := by decide +kernel
theorem dX0_letDayGo_5 : decode cX0_letDayGo 5 = .ok (.aload_n 0, 1) := by decide +kernel
theorem dX0_letDayGo_6 : decode cX0_letDayGo 6 = .ok (.iconst 2, 1) := by decide +kernel
theorem dX0_letDayGo_7 : decode cX0_letDayGo 7 = .ok (.iconst 0, 1) := by decide +kernel
theorem dX0_letDayGo_8 : decode cX0_letDayGo 8 = .ok (.iconst 1, 1) := by decide +kernel
theorem dX0_letDayGo_9 : decode cX0_letDayGo 9 = .ok (.invokevirtual 65, 3) := by decide +kernel
theorem dX0_letDayGo_12 : decode cX0_letDayGo 12 = .ok (.return_, 1) := by decide +kernel
set_option maxRecDepth 100000 in
set_option maxHeartbeats 4000000 in
theorem con_X0_letDayGo (G : Gt) (o : Nat) (p1 : Nat) (ho : kd o = 0) (hp1 : kd p1 = 3) (mem : Mem) : Con tvU G yX0_letDayGo cX0_letDayGo 2 none 2 [.ref (gA G o), .ref (gA G p1)] mem (X0_letDayGo o p1 mem) := by
  refine con_of (by decide) (Nat.le_of_ble_eq_true rfl) ?_
  show EvR tvU G cX0_letDayGo 2 none RX0 2 0 [(0, .ref (gA G o)), (1, .ref (gA G p1))] [] mem _
  unfold X0_letDayGo
  refine ev_aload_n (q := 1) dX0_letDayGo_0 rfl 1 rfl rfl ?_
  refine ev_iconst (q := 2) (v := 1) dX0_letDayGo_1 rfl li_1 ?_
  refine ev_callSU (q := 5) dX0_letDayGo_2 rfl ml_X0_80 mt_X0_moveDay (con_X0_moveDay G _ _ hp1 _) rfl (Nat.le_of_ble_eq_true rfl) (Nat.le_of_ble_eq_true rfl) rfl (Nat.le_of_ble_eq_true rfl) (fun r1 m2 => ?_)
  refine ev_aload_n (q := 6) dX0_letDayGo_5 rfl 0 rfl rfl ?_
  refine ev_iconst (q := 7) (v := 2) dX0_letDayGo_6 rfl li_2 ?_
  refine ev_iconst (q := 8) (v := 0) dX0_letDayGo_7 rfl li_0 ?_
  refine ev_iconst (q := 9) (v := 1) dX0_letDayGo_8 rfl li_1 ?_
  refine ev_callVU (q := 12) dX0_letDayGo_9 rfl ml_X0_65 mt_X0_keep cf_0 rfl ho hc_0 (con_X0_keep G _ _ _ _ ho _) rfl (Nat.le_of_ble_eq_true rfl) (Nat.le_of_ble_eq_true rfl) rfl (Nat.le_of_ble_eq_true rfl) (fun r3 m4 => ?_)
  exact ev_vret dX0_letDayGo_12 rfl
/-! AgingLetters$Acts.takeReadingBack(LAgingLetters$Office;)V -/
theorem dX0_takeReadingBack_0 : decode cX0_takeReadingBack 0 = .ok (.aload_n 0, 1) := by decide +kernel
theorem dX0_takeReadingBack_1 : decode cX0_takeReadingBack 1 = .ok (.getfield 13, 3) := by decide +kernel
theorem dX0_takeReadingBack_4 : decode cX0_takeReadingBack 4 = .ok (.aload_n 0, 1) := by decide +kernel
theorem dX0_takeReadingBack_5 : decode cX0_takeReadingBack 5 = .ok (.getfield 31, 3) := by decide +kernel
theorem dX0_takeReadingBack_8 : decode cX0_takeReadingBack 8 = .ok (.iaload, 1) := by decide +kernel
theorem dX0_takeReadingBack_9 : decode cX0_takeReadingBack 9 = .ok (.istore_n 2, 1) := by decide +kernel
theorem dX0_takeReadingBack_10 : decode cX0_takeReadingBack 10 = .ok (.aload_n 0, 1) := by decide +kernel
theorem dX0_takeReadingBack_11 : decode cX0_takeReadingBack 11 = .ok (.getfield 16, 3) := by decide +kernel
theorem dX0_takeReadingBack_14 : decode cX0_takeReadingBack 14 = .ok (.aload_n 0, 1) := by decide +kernel
theorem dX0_takeReadingBack_15 : decode cX0_takeReadingBack 15 = .ok (.getfield 31, 3) := by decide +kernel
theorem dX0_takeReadingBack_18 : decode cX0_takeReadingBack 18 = .ok (.iaload, 1) := by decide +kernel
theorem dX0_takeReadingBack_19 : decode cX0_takeReadingBack 19 = .ok (.istore_n 3, 1) := by decide +kernel
theorem dX0_takeReadingBack_20 : decode cX0_takeReadingBack 20 = .ok (.aload_n 1, 1) := by decide +kernel
theorem dX0_takeReadingBack_21 : decode cX0_takeReadingBack 21 = .ok (.getfield 48, 3) := by decide +kernel
theorem dX0_takeReadingBack_24 : decode cX0_takeReadingBack 24 = .ok (.iload_n 2, 1) := by decide +kernel
theorem dX0_takeReadingBack_25 : decode cX0_takeReadingBack 25 = .ok (.dup2, 1) := by decide +kernel
theorem dX0_takeReadingBack_26 : decode cX0_takeReadingBack 26 = .ok (.iaload, 1) := by decide +kernel
theorem dX0_takeReadingBack_27 : decode cX0_takeReadingBack 27 = .ok (.aload_n 0, 1) := by decide +kernel
theorem dX0_takeReadingBack_28 : decode cX0_takeReadingBack 28 = .ok (.getfield 19, 3) := by decide +kernel
theorem dX0_takeReadingBack_31 : decode cX0_takeReadingBack 31 = .ok (.aload_n 0, 1) := by decide +kernel
theorem dX0_takeReadingBack_32 : decode cX0_takeReadingBack 32 = .ok (.getfield 31, 3) := by decide +kernel
theorem dX0_takeReadingBack_35 : decode cX0_takeReadingBack 35 = .ok (.iaload, 1) := by decide +kernel
theorem dX0_takeReadingBack_36 : decode cX0_takeReadingBack 36 = .ok (.isub, 1) := by decide +kernel
theorem dX0_takeReadingBack_37 : decode cX0_takeReadingBack 37 = .ok (.iastore, 1) := by decide +kernel
theorem dX0_takeReadingBack_38 : decode cX0_takeReadingBack 38 = .ok (.aload_n 1, 1) := by decide +kernel
theorem dX0_takeReadingBack_39 : decode cX0_takeReadingBack 39 = .ok (.iload_n 2, 1) := by decide +kernel
theorem dX0_takeReadingBack_40 : decode cX0_takeReadingBack 40 = .ok (.iload_n 3, 1) := by decide +kernel
theorem dX0_takeReadingBack_41 : decode cX0_takeReadingBack 41 = .ok (.aload_n 0, 1) := by decide +kernel
theorem dX0_takeReadingBack_42 : decode cX0_takeReadingBack 42 = .ok (.getfield 22, 3) := by decide +kernel
theorem dX0_takeReadingBack_45 : decode cX0_takeReadingBack 45 = .ok (.aload_n 0, 1) := by decide +kernel
theorem dX0_takeReadingBack_46 : decode cX0_takeReadingBack 46 = .ok (.getfield 31, 3) := by decide +kernel
theorem dX0_takeReadingBack_49 : decode cX0_takeReadingBack 49 = .ok (.iaload, 1) := by decide +kernel
theorem dX0_takeReadingBack_50 : decode cX0_takeReadingBack 50 = .ok (.ineg, 1) := by decide +kernel
theorem dX0_takeReadingBack_51 : decode cX0_takeReadingBack 51 = .ok (.invokevirtual 51, 3) := by decide +kernel
theorem dX0_takeReadingBack_54 : decode cX0_takeReadingBack 54 = .ok (.iconst 0, 1) := by decide +kernel
theorem dX0_takeReadingBack_55 : decode cX0_takeReadingBack 55 = .ok (.istore 4, 2) := by decide +kernel
theorem dX0_takeReadingBack_57 : decode cX0_takeReadingBack 57 = .ok (.iload 4, 2) := by decide +kernel
theorem dX0_takeReadingBack_59 : decode cX0_takeReadingBack 59 = .ok (.aload_n 1, 1) := by decide +kernel
theorem dX0_takeReadingBack_60 : decode cX0_takeReadingBack 60 = .ok (.getfield 68, 3) := by decide +kernel
theorem dX0_takeReadingBack_63 : decode cX0_takeReadingBack 63 = .ok (.if_icmp .ge 80, 3) := by decide +kernel
theorem dX0_takeReadingBack_66 : decode cX0_takeReadingBack 66 = .ok (.aload_n 0, 1) := by decide +kernel
theorem dX0_takeReadingBack_67 : decode cX0_takeReadingBack 67 = .ok (.getfield 25, 3) := by decide +kernel
theorem dX0_takeReadingBack_70 : decode cX0_takeReadingBack 70 = .ok (.aload_n 0, 1) := by decide +kernel
theorem dX0_takeReadingBack_71 : decode cX0_takeReadingBack 71 = .ok (.getfield 31, 3) := by decide +kernel
theorem dX0_takeReadingBack_74 : decode cX0_takeReadingBack 74 = .ok (.iaload, 1) := by decide +kernel
theorem dX0_takeReadingBack_75 : decode cX0_takeReadingBack 75 = .ok (.iload 4, 2) := by decide +kernel
theorem dX0_takeReadingBack_77 : decode cX0_takeReadingBack 77 = .ok (.invokestatic 71, 3) := by decide +kernel
theorem dX0_takeReadingBack_80 : decode cX0_takeReadingBack 80 = .ok (.ifCond .eq 25, 3) := by decide +kernel
theorem dX0_takeReadingBack_83 : decode cX0_takeReadingBack 83 = .ok (.aload_n 1, 1) := by decide +kernel
theorem dX0_takeReadingBack_84 : decode cX0_takeReadingBack 84 = .ok (.getfield 48, 3) := by decide +kernel
theorem dX0_takeReadingBack_87 : decode cX0_takeReadingBack 87 = .ok (.iload 4, 2) := by decide +kernel
theorem dX0_takeReadingBack_89 : decode cX0_takeReadingBack 89 = .ok (.dup2, 1) := by decide +kernel
theorem dX0_takeReadingBack_90 : decode cX0_takeReadingBack 90 = .ok (.iaload, 1) := by decide +kernel
theorem dX0_takeReadingBack_91 : decode cX0_takeReadingBack 91 = .ok (.aload_n 0, 1) := by decide +kernel
theorem dX0_takeReadingBack_92 : decode cX0_takeReadingBack 92 = .ok (.getfield 19, 3) := by decide +kernel
theorem dX0_takeReadingBack_95 : decode cX0_takeReadingBack 95 = .ok (.aload_n 0, 1) := by decide +kernel
theorem dX0_takeReadingBack_96 : decode cX0_takeReadingBack 96 = .ok (.getfield 31, 3) := by decide +kernel
theorem dX0_takeReadingBack_99 : decode cX0_takeReadingBack 99 = .ok (.iaload, 1) := by decide +kernel
theorem dX0_takeReadingBack_100 : decode cX0_takeReadingBack 100 = .ok (.invokestatic 55, 3) := by decide +kernel
theorem dX0_takeReadingBack_103 : decode cX0_takeReadingBack 103 = .ok (.isub, 1) := by decide +kernel
theorem dX0_takeReadingBack_104 : decode cX0_takeReadingBack 104 = .ok (.iastore, 1) := by decide +kernel
theorem dX0_takeReadingBack_105 : decode cX0_takeReadingBack 105 = .ok (.aload_n 0, 1) := by decide +kernel
theorem dX0_takeReadingBack_106 : decode cX0_takeReadingBack 106 = .ok (.getfield 28, 3) := by decide +kernel
theorem dX0_takeReadingBack_109 : decode cX0_takeReadingBack 109 = .ok (.aload_n 0, 1) := by decide +kernel
theorem dX0_takeReadingBack_110 : decode cX0_takeReadingBack 110 = .ok (.getfield 31, 3) := by decide +kernel
theorem dX0_takeReadingBack_113 : decode cX0_takeReadingBack 113 = .ok (.iaload, 1) := by decide +kernel
theorem dX0_takeReadingBack_114 : decode cX0_takeReadingBack 114 = .ok (.iload 4, 2) := by decide +kernel
theorem dX0_takeReadingBack_116 : decode cX0_takeReadingBack 116 = .ok (.invokestatic 71, 3) := by decide +kernel
theorem dX0_takeReadingBack_119 : decode cX0_takeReadingBack 119 = .ok (.ifCond .eq 18, 3) := by decide +kernel
theorem dX0_takeReadingBack_122 : decode cX0_takeReadingBack 122 = .ok (.aload_n 1, 1) := by decide +kernel
theorem dX0_takeReadingBack_123 : decode cX0_takeReadingBack 123 = .ok (.getfield 74, 3) := by decide +kernel
theorem dX0_takeReadingBack_126 : decode cX0_takeReadingBack 126 = .ok (.iload 4, 2) := by decide +kernel
theorem dX0_takeReadingBack_128 : decode cX0_takeReadingBack 128 = .ok (.dup2, 1) := by decide +kernel
theorem dX0_takeReadingBack_129 : decode cX0_takeReadingBack 129 = .ok (.iaload, 1) := by decide +kernel
theorem dX0_takeReadingBack_130 : decode cX0_takeReadingBack 130 = .ok (.iconst 1, 1) := by decide +kernel
theorem dX0_takeReadingBack_131 : decode cX0_takeReadingBack 131 = .ok (.iload_n 3, 1) := by decide +kernel
theorem dX0_takeReadingBack_132 : decode cX0_takeReadingBack 132 = .ok (.ishl, 1) := by decide +kernel
theorem dX0_takeReadingBack_133 : decode cX0_takeReadingBack 133 = .ok (.iconst (-1), 1) := by decide +kernel
theorem dX0_takeReadingBack_134 : decode cX0_takeReadingBack 134 = .ok (.ixor, 1) := by decide +kernel
theorem dX0_takeReadingBack_135 : decode cX0_takeReadingBack 135 = .ok (.iand, 1) := by decide +kernel
theorem dX0_takeReadingBack_136 : decode cX0_takeReadingBack 136 = .ok (.iastore, 1) := by decide +kernel
theorem dX0_takeReadingBack_137 : decode cX0_takeReadingBack 137 = .ok (.iinc 4 1, 3) := by decide +kernel
theorem dX0_takeReadingBack_140 : decode cX0_takeReadingBack 140 = .ok (.goto (-83), 3) := by decide +kernel
theorem dX0_takeReadingBack_143 : decode cX0_takeReadingBack 143 = .ok (.return_, 1) := by decide +kernel
set_option maxRecDepth 100000 in
set_option maxHeartbeats 4000000 in
theorem X0_takeReadingBack_b137_ok (G : Gt) (o : Nat) (p1 : Nat) (ho : kd o = 0) (hp1 : kd p1 = 3)   (k57 : Int32 → Int32 → Mem → Option (Unit × Mem)) (hk57 : ∀ (x3 : Int32) (x4 : Int32) (mem : Mem), EvR tvU G cX0_takeReadingBack 5 none RX0 2 57 [(0, .ref (gA G o)), (1, .ref (gA G p1)), (3, .int (x3)), (4, .int (x4))] [] mem (k57 x3 x4 mem)) (x3 : Int32) (x4 : Int32) (mem : Mem) : EvR tvU G cX0_takeReadingBack 5 none RX0 2 137 [(0, .ref (gA G o)), (1, .ref (gA G p1)), (3, .int (x3)), (4, .int (x4))] [] mem (X0_takeReadingBack_b137 o p1 k57 x3 x4 mem) := by
  unfold X0_takeReadingBack_b137
  refine ev_iinc (q := 140) (lv2 := [(4, .int _), (0, .ref _), (1, .ref _), (3, .int _)]) (v := x4 + 1) dX0_takeReadingBack_137 3 rfl rfl (congrArg (HAdd.hAdd _) li_1) (Nat.le_of_ble_eq_true rfl) rfl ?_
  refine ev_goto (t := 57) dX0_takeReadingBack_140 rfl ?_
  refine ev_sub (lv' := [(0, .ref _), (1, .ref _), (3, .int _), (4, .int _)]) [1, 2, 3, 0] rfl ?_
  exact hk57 _ _ _
set_option maxRecDepth 100000 in
set_option maxHeartbeats 4000000 in
theorem X0_takeReadingBack_b105_ok (G : Gt) (o : Nat) (p1 : Nat) (ho : kd o = 0) (hp1 : kd p1 = 3)   (k57 : Int32 → Int32 → Mem → Option (Unit × Mem)) (hk57 : ∀ (x3 : Int32) (x4 : Int32) (mem : Mem), EvR tvU G cX0_takeReadingBack 5 none RX0 2 57 [(0, .ref (gA G o)), (1, .ref (gA G p1)), (3, .int (x3)), (4, .int (x4))] [] mem (k57 x3 x4 mem)) (x3 : Int32) (x4 : Int32) (mem : Mem) : EvR tvU G cX0_takeReadingBack 5 none RX0 2 105 [(0, .ref (gA G o)), (1, .ref (gA G p1)), (3, .int (x3)), (4, .int (x4))] [] mem (X0_takeReadingBack_b105 o p1 k57 x3 x4 mem) := by
  unfold X0_takeReadingBack_b105
  refine ev_aload_n (q := 106) dX0_takeReadingBack_105 rfl 0 rfl rfl ?_
  refine ev_getR (q := 109) (ci := 0) (j := 6) (T := TX0) dX0_takeReadingBack_106 rfl cf_0 ho hj_0_6 hc_0 gf_X0_28 rfl ?_
  refine ev_aload_n (q := 110) dX0_takeReadingBack_109 rfl 0 rfl rfl ?_
  refine ev_getI (q := 113) (ci := 0) (j := 7) (T := TX0) dX0_takeReadingBack_110 rfl cf_0 ho hj_0_7 hc_0 gf_X0_31 rfl ?_
  refine ev_iald (q := 114) dX0_takeReadingBack_113 rfl (kr_0_6 ho) (fun z19 => ?_)
  refine ev_iload (q := 116) dX0_takeReadingBack_114 3 rfl rfl ?_
  refine ev_callSNI (q := 119) dX0_takeReadingBack_116 rfl ml_X0_71 mt_X6_inSet (con_X6_inSet G _ _  _) rfl (Nat.le_of_ble_eq_true rfl) (Nat.le_of_ble_eq_true rfl) rfl (Nat.le_of_ble_eq_true rfl) (fun r20 m21 => ?_)
  refine ev_if_eq (t := 137) (q := 122) dX0_takeReadingBack_119 rfl rfl (fun hc22 => ?_) (fun hc22 => ?_)
  · exact X0_takeReadingBack_b137_ok G o p1 ho hp1  k57 hk57 _ _ _
  · refine ev_aload_n (q := 123) dX0_takeReadingBack_122 rfl 1 rfl rfl ?_
    refine ev_getR (q := 126) (ci := 3) (j := 11) (T := TX3) dX0_takeReadingBack_123 rfl cf_3 hp1 hj_3_11 hc_3 gf_X0_74 rfl ?_
    refine ev_iload (q := 128) dX0_takeReadingBack_126 3 rfl rfl ?_
    refine ev_dup2_11 (q := 129) dX0_takeReadingBack_128 rfl rfl rfl ?_
    refine ev_iald (q := 130) dX0_takeReadingBack_129 rfl (kr_3_11 hp1) (fun z23 => ?_)
    refine ev_iconst (q := 131) (v := 1) dX0_takeReadingBack_130 rfl li_1 ?_
    refine ev_iload_n (q := 132) dX0_takeReadingBack_131 rfl 2 rfl rfl ?_
    refine ev_ishl (q := 133) dX0_takeReadingBack_132 rfl ?_
    refine ev_iconst (q := 134) (v := (-1)) dX0_takeReadingBack_133 rfl li_m1 ?_
    refine ev_ixor (q := 135) dX0_takeReadingBack_134 rfl ?_
    refine ev_iand (q := 136) dX0_takeReadingBack_135 rfl ?_
    refine ev_iast (q := 137) dX0_takeReadingBack_136 rfl (kr_3_11 hp1) (fun m24 => ?_)
    exact X0_takeReadingBack_b137_ok G o p1 ho hp1  k57 hk57 _ _ _
set_option maxRecDepth 100000 in
set_option maxHeartbeats 4000000 in
theorem X0_takeReadingBack_b57_ok (G : Gt) (o : Nat) (p1 : Nat) (ho : kd o = 0) (hp1 : kd p1 = 3)    : ∀ (n : Nat) (x3 : Int32) (x4 : Int32) (mem : Mem), EvR tvU G cX0_takeReadingBack 5 none RX0 2 57 [(0, .ref (gA G o)), (1, .ref (gA G p1)), (3, .int (x3)), (4, .int (x4))] [] mem (X0_takeReadingBack_b57 o p1 n x3 x4 mem) := by
  intro n
  induction n with
  | zero => intros; exact ev_none
  | succ n ih =>
    intro x3 x4 mem
    rw [X0_takeReadingBack_b57]
    refine ev_iload (q := 59) dX0_takeReadingBack_57 3 rfl rfl ?_
    refine ev_aload_n (q := 60) dX0_takeReadingBack_59 rfl 1 rfl rfl ?_
    refine ev_getI (q := 63) (ci := 3) (j := 7) (T := TX3) dX0_takeReadingBack_60 rfl cf_3 hp1 hj_3_7 hc_3 gf_X0_68 rfl ?_
    refine ev_icmp_ge (t := 143) (q := 66) dX0_takeReadingBack_63 rfl rfl (fun hc9 => ?_) (fun hc9 => ?_)
    · refine ev_aload_n (q := 67) dX0_takeReadingBack_66 rfl 0 rfl rfl ?_
      refine ev_getR (q := 70) (ci := 0) (j := 5) (T := TX0) dX0_takeReadingBack_67 rfl cf_0 ho hj_0_5 hc_0 gf_X0_25 rfl ?_
      refine ev_aload_n (q := 71) dX0_takeReadingBack_70 rfl 0 rfl rfl ?_
      refine ev_getI (q := 74) (ci := 0) (j := 7) (T := TX0) dX0_takeReadingBack_71 rfl cf_0 ho hj_0_7 hc_0 gf_X0_31 rfl ?_
      refine ev_iald (q := 75) dX0_takeReadingBack_74 rfl (kr_0_5 ho) (fun z10 => ?_)
      refine ev_iload (q := 77) dX0_takeReadingBack_75 3 rfl rfl ?_
      refine ev_callSNI (q := 80) dX0_takeReadingBack_77 rfl ml_X0_71 mt_X6_inSet (con_X6_inSet G _ _  _) rfl (Nat.le_of_ble_eq_true rfl) (Nat.le_of_ble_eq_true rfl) rfl (Nat.le_of_ble_eq_true rfl) (fun r11 m12 => ?_)
      refine ev_if_eq (t := 105) (q := 83) dX0_takeReadingBack_80 rfl rfl (fun hc13 => ?_) (fun hc13 => ?_)
      · exact X0_takeReadingBack_b105_ok G o p1 ho hp1  (X0_takeReadingBack_b57 o p1 n) ih _ _ _
      · refine ev_aload_n (q := 84) dX0_takeReadingBack_83 rfl 1 rfl rfl ?_
        refine ev_getR (q := 87) (ci := 3) (j := 9) (T := TX3) dX0_takeReadingBack_84 rfl cf_3 hp1 hj_3_9 hc_3 gf_X0_48 rfl ?_
        refine ev_iload (q := 89) dX0_takeReadingBack_87 3 rfl rfl ?_
        refine ev_dup2_11 (q := 90) dX0_takeReadingBack_89 rfl rfl rfl ?_
        refine ev_iald (q := 91) dX0_takeReadingBack_90 rfl (kr_3_9 hp1) (fun z14 => ?_)
        refine ev_aload_n (q := 92) dX0_takeReadingBack_91 rfl 0 rfl rfl ?_
        refine ev_getR (q := 95) (ci := 0) (j := 3) (T := TX0) dX0_takeReadingBack_92 rfl cf_0 ho hj_0_3 hc_0 gf_X0_19 rfl ?_
        refine ev_aload_n (q := 96) dX0_takeReadingBack_95 rfl 0 rfl rfl ?_
        refine ev_getI (q := 99) (ci := 0) (j := 7) (T := TX0) dX0_takeReadingBack_96 rfl cf_0 ho hj_0_7 hc_0 gf_X0_31 rfl ?_
        refine ev_iald (q := 100) dX0_takeReadingBack_99 rfl (kr_0_3 ho) (fun z15 => ?_)
        refine ev_callSNI (q := 103) dX0_takeReadingBack_100 rfl ml_X0_55 mt_X6_tenthUp (con_X6_tenthUp G _  _) rfl (Nat.le_of_ble_eq_true rfl) (Nat.le_of_ble_eq_true rfl) rfl (Nat.le_of_ble_eq_true rfl) (fun r16 m17 => ?_)
        refine ev_isub (q := 104) dX0_takeReadingBack_103 rfl ?_
        refine ev_iast (q := 105) dX0_takeReadingBack_104 rfl (kr_3_9 hp1) (fun m18 => ?_)
        exact X0_takeReadingBack_b105_ok G o p1 ho hp1  (X0_takeReadingBack_b57 o p1 n) ih _ _ _
    · exact ev_vret dX0_takeReadingBack_143 rfl
set_option maxRecDepth 100000 in
set_option maxHeartbeats 4000000 in
theorem con_X0_takeReadingBack (G : Gt) (o : Nat) (p1 : Nat) (ho : kd o = 0) (hp1 : kd p1 = 3) (mem : Mem) : Con tvU G yX0_takeReadingBack cX0_takeReadingBack 5 none 2 [.ref (gA G o), .ref (gA G p1)] mem (X0_takeReadingBack o p1 mem) := by
  refine con_of (by decide) (Nat.le_of_ble_eq_true rfl) ?_
  show EvR tvU G cX0_takeReadingBack 5 none RX0 2 0 [(0, .ref (gA G o)), (1, .ref (gA G p1))] [] mem _
  unfold X0_takeReadingBack
  refine ev_aload_n (q := 1) dX0_takeReadingBack_0 rfl 0 rfl rfl ?_
  refine ev_getR (q := 4) (ci := 0) (j := 1) (T := TX0) dX0_takeReadingBack_1 rfl cf_0 ho hj_0_1 hc_0 gf_X0_13 rfl ?_
  refine ev_aload_n (q := 5) dX0_takeReadingBack_4 rfl 0 rfl rfl ?_
  refine ev_getI (q := 8) (ci := 0) (j := 7) (T := TX0) dX0_takeReadingBack_5 rfl cf_0 ho hj_0_7 hc_0 gf_X0_31 rfl ?_
  refine ev_iald (q := 9) dX0_takeReadingBack_8 rfl (kr_0_1 ho) (fun z1 => ?_)
  refine ev_istore_n (q := 10) (lv2 := [(2, .int _), (0, .ref _), (1, .ref _)]) dX0_takeReadingBack_9 rfl rfl (Nat.le_of_ble_eq_true rfl) rfl ?_
  refine ev_aload_n (q := 11) dX0_takeReadingBack_10 rfl 1 rfl rfl ?_
  refine ev_getR (q := 14) (ci := 0) (j := 2) (T := TX0) dX0_takeReadingBack_11 rfl cf_0 ho hj_0_2 hc_0 gf_X0_16 rfl ?_
  refine ev_aload_n (q := 15) dX0_takeReadingBack_14 rfl 1 rfl rfl ?_
  refine ev_getI (q := 18) (ci := 0) (j := 7) (T := TX0) dX0_takeReadingBack_15 rfl cf_0 ho hj_0_7 hc_0 gf_X0_31 rfl ?_
  refine ev_iald (q := 19) dX0_takeReadingBack_18 rfl (kr_0_2 ho) (fun z2 => ?_)
  refine ev_istore_n (q := 20) (lv2 := [(3, .int _), (2, .int _), (0, .ref _), (1, .ref _)]) dX0_takeReadingBack_19 rfl rfl (Nat.le_of_ble_eq_true rfl) rfl ?_
  refine ev_aload_n (q := 21) dX0_takeReadingBack_20 rfl 3 rfl rfl ?_
  refine ev_getR (q := 24) (ci := 3) (j := 9) (T := TX3) dX0_takeReadingBack_21 rfl cf_3 hp1 hj_3_9 hc_3 gf_X0_48 rfl ?_
  refine ev_iload_n (q := 25) dX0_takeReadingBack_24 rfl 1 rfl rfl ?_
  refine ev_dup2_11 (q := 26) dX0_takeReadingBack_25 rfl rfl rfl ?_
  refine ev_iald (q := 27) dX0_takeReadingBack_26 rfl (kr_3_9 hp1) (fun z3 => ?_)
  refine ev_aload_n (q := 28) dX0_takeReadingBack_27 rfl 2 rfl rfl ?_
  refine ev_getR (q := 31) (ci := 0) (j := 3) (T := TX0) dX0_takeReadingBack_28 rfl cf_0 ho hj_0_3 hc_0 gf_X0_19 rfl ?_
  refine ev_aload_n (q := 32) dX0_takeReadingBack_31 rfl 2 rfl rfl ?_
  refine ev_getI (q := 35) (ci := 0) (j := 7) (T := TX0) dX0_takeReadingBack_32 rfl cf_0 ho hj_0_7 hc_0 gf_X0_31 rfl ?_
  refine ev_iald (q := 36) dX0_takeReadingBack_35 rfl (kr_0_3 ho) (fun z4 => ?_)
  refine ev_isub (q := 37) dX0_takeReadingBack_36 rfl ?_
  refine ev_iast (q := 38) dX0_takeReadingBack_37 rfl (kr_3_9 hp1) (fun m5 => ?_)
  refine ev_aload_n (q := 39) dX0_takeReadingBack_38 rfl 3 rfl rfl ?_
  refine ev_iload_n (q := 40) dX0_takeReadingBack_39 rfl 1 rfl rfl ?_
  refine ev_iload_n (q := 41) dX0_takeReadingBack_40 rfl 0 rfl rfl ?_
  refine ev_aload_n (q := 42) dX0_takeReadingBack_41 rfl 2 rfl rfl ?_
  refine ev_getR (q := 45) (ci := 0) (j := 4) (T := TX0) dX0_takeReadingBack_42 rfl cf_0 ho hj_0_4 hc_0 gf_X0_22 rfl ?_
  refine ev_aload_n (q := 46) dX0_takeReadingBack_45 rfl 2 rfl rfl ?_
  refine ev_getI (q := 49) (ci := 0) (j := 7) (T := TX0) dX0_takeReadingBack_46 rfl cf_0 ho hj_0_7 hc_0 gf_X0_31 rfl ?_
  refine ev_iald (q := 50) dX0_takeReadingBack_49 rfl (kr_0_4 ho) (fun z6 => ?_)
  refine ev_ineg (q := 51) dX0_takeReadingBack_50 rfl ?_
  refine ev_callVU (q := 54) dX0_takeReadingBack_51 rfl ml_X0_51 mt_X3_addTimesRead cf_3 rfl hp1 hc_3 (con_X3_addTimesRead G _ _ _ _ hp1 _) rfl (Nat.le_of_ble_eq_true rfl) (Nat.le_of_ble_eq_true rfl) rfl (Nat.le_of_ble_eq_true rfl) (fun r7 m8 => ?_)
  refine ev_iconst (q := 55) (v := 0) dX0_takeReadingBack_54 rfl li_0 ?_
  refine ev_istore (q := 57) (lv2 := [(4, .int _), (3, .int _), (2, .int _), (0, .ref _), (1, .ref _)]) dX0_takeReadingBack_55 rfl (Nat.le_of_ble_eq_true rfl) rfl ?_
  refine ev_sub (lv' := [(0, .ref _), (1, .ref _), (3, .int _), (4, .int _)]) [3, 4, 1, 0] rfl ?_
  exact X0_takeReadingBack_b57_ok G o p1 ho hp1   fu _ _ _
/-! AgingLetters$Acts.takeBack(LAgingLetters$Office;)V -/
theorem dX0_takeBack_0 : decode cX0_takeBack 0 = .ok (.aload_n 0, 1) := by decide +kernel
theorem dX0_takeBack_1 : decode cX0_takeBack 1 = .ok (.aload_n 0, 1) := by decide +kernel
theorem dX0_takeBack_2 : decode cX0_takeBack 2 = .ok (.getfield 31, 3) := by decide +kernel
theorem dX0_takeBack_5 : decode cX0_takeBack 5 = .ok (.ifCond .le 12, 3) := by decide +kernel
theorem dX0_takeBack_8 : decode cX0_takeBack 8 = .ok (.aload_n 0, 1) := by decide +kernel
theorem dX0_takeBack_9 : decode cX0_takeBack 9 = .ok (.getfield 31, 3) := by decide +kernel
theorem dX0_takeBack_12 : decode cX0_takeBack 12 = .ok (.iconst 1, 1) := by decide +kernel
theorem dX0_takeBack_13 : decode cX0_takeBack 13 = .ok (.isub, 1) := by decide +kernel
theorem dX0_takeBack_14 : decode cX0_takeBack 14 = .ok (.goto 5, 3) := by decide +kernel
theorem dX0_takeBack_17 : decode cX0_takeBack 17 = .ok (.bipush 23, 2) := by decide +kernel
theorem dX0_takeBack_19 : decode cX0_takeBack 19 = .ok (.putfield 31, 3) := by decide +kernel
theorem dX0_takeBack_22 : decode cX0_takeBack 22 = .ok (.aload_n 0, 1) := by decide +kernel
theorem dX0_takeBack_23 : decode cX0_takeBack 23 = .ok (.dup, 1) := by decide +kernel
theorem dX0_takeBack_24 : decode cX0_takeBack 24 = .ok (.getfield 35, 3) := by decide +kernel
theorem dX0_takeBack_27 : decode cX0_takeBack 27 = .ok (.iconst 1, 1) := by decide +kernel
theorem dX0_takeBack_28 : decode cX0_takeBack 28 = .ok (.isub, 1) := by decide +kernel
theorem dX0_takeBack_29 : decode cX0_takeBack 29 = .ok (.putfield 35, 3) := by decide +kernel
theorem dX0_takeBack_32 : decode cX0_takeBack 32 = .ok (.aload_n 0, 1) := by decide +kernel
theorem dX0_takeBack_33 : decode cX0_takeBack 33 = .ok (.getfield 9, 3) := by decide +kernel
theorem dX0_takeBack_36 : decode cX0_takeBack 36 = .ok (.aload_n 0, 1) := by decide +kernel
theorem dX0_takeBack_37 : decode cX0_takeBack 37 = .ok (.getfield 31, 3) := by decide +kernel
theorem dX0_takeBack_40 : decode cX0_takeBack 40 = .ok (.iaload, 1) := by decide +kernel
theorem dX0_takeBack_41 : decode cX0_takeBack 41 = .ok (.ifCond .ne 8, 3) := by decide +kernel
theorem dX0_takeBack_44 : decode cX0_takeBack 44 = .ok (.aload_n 0, 1) := by decide +kernel
theorem dX0_takeBack_45 : decode cX0_takeBack 45 = .ok (.aload_n 1, 1) := by decide +kernel
theorem dX0_takeBack_46 : decode cX0_takeBack 46 = .ok (.invokevirtual 87, 3) := by decide +kernel
theorem dX0_takeBack_49 : decode cX0_takeBack 49 = .ok (.aload_n 0, 1) := by decide +kernel
theorem dX0_takeBack_50 : decode cX0_takeBack 50 = .ok (.getfield 9, 3) := by decide +kernel
theorem dX0_takeBack_53 : decode cX0_takeBack 53 = .ok (.aload_n 0, 1) := by decide +kernel
theorem dX0_takeBack_54 : decode cX0_takeBack 54 = .ok (.getfield 31, 3) := by decide +kernel
theorem dX0_takeBack_57 : decode cX0_takeBack 57 = .ok (.iaload, 1) := by decide +kernel
theorem dX0_takeBack_58 : decode cX0_takeBack 58 = .ok (.iconst 1, 1) := by decide +kernel
theorem dX0_takeBack_59 : decode cX0_takeBack 59 = .ok (.if_icmp .ne 29, 3) := by decide +kernel
theorem dX0_takeBack_62 : decode cX0_takeBack 62 = .ok (.aload_n 1, 1) := by decide +kernel
theorem dX0_takeBack_63 : decode cX0_takeBack 63 = .ok (.getfield 77, 3) := by decide +kernel
theorem dX0_takeBack_66 : decode cX0_takeBack 66 = .ok (.aload_n 0, 1) := by decide +kernel
theorem dX0_takeBack_67 : decode cX0_takeBack 67 = .ok (.getfield 16, 3) := by decide +kernel
theorem dX0_takeBack_70 : decode cX0_takeBack 70 = .ok (.aload_n 0, 1) := by decide +kernel
theorem dX0_takeBack_71 : decode cX0_takeBack 71 = .ok (.getfield 31, 3) := by decide +kernel
theorem dX0_takeBack_74 : decode cX0_takeBack 74 = .ok (.iaload, 1) := by decide +kernel
theorem dX0_takeBack_75 : decode cX0_takeBack 75 = .ok (.dup2, 1) := by decide +kernel
theorem dX0_takeBack_76 : decode cX0_takeBack 76 = .ok (.iaload, 1) := by decide +kernel
theorem dX0_takeBack_77 : decode cX0_takeBack 77 = .ok (.aload_n 0, 1) := by decide +kernel
theorem dX0_takeBack_78 : decode cX0_takeBack 78 = .ok (.getfield 19, 3) := by decide +kernel
theorem dX0_takeBack_81 : decode cX0_takeBack 81 = .ok (.aload_n 0, 1) := by decide +kernel
theorem dX0_takeBack_82 : decode cX0_takeBack 82 = .ok (.getfield 31, 3) := by decide +kernel
theorem dX0_takeBack_85 : decode cX0_takeBack 85 = .ok (.iaload, 1) := by decide +kernel
theorem dX0_takeBack_86 : decode cX0_takeBack 86 = .ok (.iadd, 1) := by decide +kernel
theorem dX0_takeBack_87 : decode cX0_takeBack 87 = .ok (.iastore, 1) := by decide +kernel
theorem dX0_takeBack_88 : decode cX0_takeBack 88 = .ok (.aload_n 0, 1) := by decide +kernel
theorem dX0_takeBack_89 : decode cX0_takeBack 89 = .ok (.getfield 9, 3) := by decide +kernel
theorem dX0_takeBack_92 : decode cX0_takeBack 92 = .ok (.aload_n 0, 1) := by decide +kernel
theorem dX0_takeBack_93 : decode cX0_takeBack 93 = .ok (.getfield 31, 3) := by decide +kernel
theorem dX0_takeBack_96 : decode cX0_takeBack 96 = .ok (.iaload, 1) := by decide +kernel
theorem dX0_takeBack_97 : decode cX0_takeBack 97 = .ok (.iconst 2, 1) := by decide +kernel
theorem dX0_takeBack_98 : decode cX0_takeBack 98 = .ok (.if_icmp .ne 8, 3) := by decide +kernel
theorem dX0_takeBack_101 : decode cX0_takeBack 101 = .ok (.aload_n 1, 1) := by decide +kernel
theorem dX0_takeBack_102 : decode cX0_takeBack 102 = .ok (.iconst (-1), 1) := by decide +kernel
theorem dX0_takeBack_103 : decode cX0_takeBack 103 = .ok (.invokestatic 80, 3) := by decide +kernel
theorem dX0_takeBack_106 : decode cX0_takeBack 106 = .ok (.return_, 1) := by decide +kernel
set_option maxRecDepth 100000 in
set_option maxHeartbeats 4000000 in
theorem X0_takeBack_b88_ok (G : Gt) (o : Nat) (p1 : Nat) (ho : kd o = 0) (hp1 : kd p1 = 3)     (mem : Mem) : EvR tvU G cX0_takeBack 2 none RX0 3 88 [(0, .ref (gA G o)), (1, .ref (gA G p1))] [] mem (X0_takeBack_b88 o p1  mem) := by
  unfold X0_takeBack_b88
  refine ev_aload_n (q := 89) dX0_takeBack_88 rfl 0 rfl rfl ?_
  refine ev_getR (q := 92) (ci := 0) (j := 0) (T := TX0) dX0_takeBack_89 rfl cf_0 ho hj_0_0 hc_0 gf_X0_9 rfl ?_
  refine ev_aload_n (q := 93) dX0_takeBack_92 rfl 0 rfl rfl ?_
  refine ev_getI (q := 96) (ci := 0) (j := 7) (T := TX0) dX0_takeBack_93 rfl cf_0 ho hj_0_7 hc_0 gf_X0_31 rfl ?_
  refine ev_iald (q := 97) dX0_takeBack_96 rfl (kr_0_0 ho) (fun z14 => ?_)
  refine ev_iconst (q := 98) (v := 2) dX0_takeBack_97 rfl li_2 ?_
  refine ev_icmp_ne (t := 106) (q := 101) dX0_takeBack_98 rfl rfl (fun hc15 => ?_) (fun hc15 => ?_)
  · refine ev_aload_n (q := 102) dX0_takeBack_101 rfl 1 rfl rfl ?_
    refine ev_iconst (q := 103) (v := (-1)) dX0_takeBack_102 rfl li_m1 ?_
    refine ev_callSU (q := 106) dX0_takeBack_103 rfl ml_X0_80 mt_X0_moveDay (con_X0_moveDay G _ _ hp1 _) rfl (Nat.le_of_ble_eq_true rfl) (Nat.le_of_ble_eq_true rfl) rfl (Nat.le_of_ble_eq_true rfl) (fun r16 m17 => ?_)
    exact ev_vret dX0_takeBack_106 rfl
  · exact ev_vret dX0_takeBack_106 rfl
set_option maxRecDepth 100000 in
set_option maxHeartbeats 4000000 in
theorem X0_takeBack_b49_ok (G : Gt) (o : Nat) (p1 : Nat) (ho : kd o = 0) (hp1 : kd p1 = 3)     (mem : Mem) : EvR tvU G cX0_takeBack 2 none RX0 3 49 [(0, .ref (gA G o)), (1, .ref (gA G p1))] [] mem (X0_takeBack_b49 o p1  mem) := by
  unfold X0_takeBack_b49
  refine ev_aload_n (q := 50) dX0_takeBack_49 rfl 0 rfl rfl ?_
  refine ev_getR (q := 53) (ci := 0) (j := 0) (T := TX0) dX0_takeBack_50 rfl cf_0 ho hj_0_0 hc_0 gf_X0_9 rfl ?_
  refine ev_aload_n (q := 54) dX0_takeBack_53 rfl 0 rfl rfl ?_
  refine ev_getI (q := 57) (ci := 0) (j := 7) (T := TX0) dX0_takeBack_54 rfl cf_0 ho hj_0_7 hc_0 gf_X0_31 rfl ?_
  refine ev_iald (q := 58) dX0_takeBack_57 rfl (kr_0_0 ho) (fun z8 => ?_)
  refine ev_iconst (q := 59) (v := 1) dX0_takeBack_58 rfl li_1 ?_
  refine ev_icmp_ne (t := 88) (q := 62) dX0_takeBack_59 rfl rfl (fun hc9 => ?_) (fun hc9 => ?_)
  · refine ev_aload_n (q := 63) dX0_takeBack_62 rfl 1 rfl rfl ?_
    refine ev_getR (q := 66) (ci := 3) (j := 5) (T := TX3) dX0_takeBack_63 rfl cf_3 hp1 hj_3_5 hc_3 gf_X0_77 rfl ?_
    refine ev_aload_n (q := 67) dX0_takeBack_66 rfl 0 rfl rfl ?_
    refine ev_getR (q := 70) (ci := 0) (j := 2) (T := TX0) dX0_takeBack_67 rfl cf_0 ho hj_0_2 hc_0 gf_X0_16 rfl ?_
    refine ev_aload_n (q := 71) dX0_takeBack_70 rfl 0 rfl rfl ?_
    refine ev_getI (q := 74) (ci := 0) (j := 7) (T := TX0) dX0_takeBack_71 rfl cf_0 ho hj_0_7 hc_0 gf_X0_31 rfl ?_
    refine ev_iald (q := 75) dX0_takeBack_74 rfl (kr_0_2 ho) (fun z10 => ?_)
    refine ev_dup2_11 (q := 76) dX0_takeBack_75 rfl rfl rfl ?_
    refine ev_iald (q := 77) dX0_takeBack_76 rfl (kr_3_5 hp1) (fun z11 => ?_)
    refine ev_aload_n (q := 78) dX0_takeBack_77 rfl 0 rfl rfl ?_
    refine ev_getR (q := 81) (ci := 0) (j := 3) (T := TX0) dX0_takeBack_78 rfl cf_0 ho hj_0_3 hc_0 gf_X0_19 rfl ?_
    refine ev_aload_n (q := 82) dX0_takeBack_81 rfl 0 rfl rfl ?_
    refine ev_getI (q := 85) (ci := 0) (j := 7) (T := TX0) dX0_takeBack_82 rfl cf_0 ho hj_0_7 hc_0 gf_X0_31 rfl ?_
    refine ev_iald (q := 86) dX0_takeBack_85 rfl (kr_0_3 ho) (fun z12 => ?_)
    refine ev_iadd (q := 87) dX0_takeBack_86 rfl ?_
    refine ev_iast (q := 88) dX0_takeBack_87 rfl (kr_3_5 hp1) (fun m13 => ?_)
    exact X0_takeBack_b88_ok G o p1 ho hp1   _
  · exact X0_takeBack_b88_ok G o p1 ho hp1   _
set_option maxRecDepth 100000 in
set_option maxHeartbeats 4000000 in
theorem X0_takeBack_b19_ok (G : Gt) (o : Nat) (p1 : Nat) (ho : kd o = 0) (hp1 : kd p1 = 3)    (s1 : Int32) (mem : Mem) : EvR tvU G cX0_takeBack 2 none RX0 3 19 [(0, .ref (gA G o)), (1, .ref (gA G p1))] [.int (s1), .ref (gA G o)] mem (X0_takeBack_b19 o p1 s1 mem) := by
  unfold X0_takeBack_b19
  refine ev_putI (q := 22) (ci := 0) (j := 7) (T := TX0) dX0_takeBack_19 rfl cf_0 ho hj_0_7 hc_0 gf_X0_31 rfl rfl (tyX0_ok 7 hj_0_7) ?_
  refine ev_aload_n (q := 23) dX0_takeBack_22 rfl 0 rfl rfl ?_
  refine ev_dup (q := 24) dX0_takeBack_23 rfl rfl ?_
  refine ev_getI (q := 27) (ci := 0) (j := 8) (T := TX0) dX0_takeBack_24 rfl cf_0 ho hj_0_8 hc_0 gf_X0_35 rfl ?_
  refine ev_iconst (q := 28) (v := 1) dX0_takeBack_27 rfl li_1 ?_
  refine ev_isub (q := 29) dX0_takeBack_28 rfl ?_
  refine ev_putI (q := 32) (ci := 0) (j := 8) (T := TX0) dX0_takeBack_29 rfl cf_0 ho hj_0_8 hc_0 gf_X0_35 rfl rfl (tyX0_ok 8 hj_0_8) ?_
  refine ev_aload_n (q := 33) dX0_takeBack_32 rfl 0 rfl rfl ?_
  refine ev_getR (q := 36) (ci := 0) (j := 0) (T := TX0) dX0_takeBack_33 rfl cf_0 ho hj_0_0 hc_0 gf_X0_9 rfl ?_
  refine ev_aload_n (q := 37) dX0_takeBack_36 rfl 0 rfl rfl ?_
  refine ev_getI (q := 40) (ci := 0) (j := 7) (T := TX0) dX0_takeBack_37 rfl cf_0 ho hj_0_7 hc_0 gf_X0_31 rfl ?_
  refine ev_iald (q := 41) dX0_takeBack_40 rfl (kr_0_0 ho) (fun z4 => ?_)
  refine ev_if_ne (t := 49) (q := 44) dX0_takeBack_41 rfl rfl (fun hc5 => ?_) (fun hc5 => ?_)
  · refine ev_aload_n (q := 45) dX0_takeBack_44 rfl 0 rfl rfl ?_
    refine ev_aload_n (q := 46) dX0_takeBack_45 rfl 1 rfl rfl ?_
    refine ev_callVU (q := 49) dX0_takeBack_46 rfl ml_X0_87 mt_X0_takeReadingBack cf_0 rfl ho hc_0 (con_X0_takeReadingBack G _ _ ho hp1 _) rfl (Nat.le_of_ble_eq_true rfl) (Nat.le_of_ble_eq_true rfl) rfl (Nat.le_of_ble_eq_true rfl) (fun r6 m7 => ?_)
    exact X0_takeBack_b49_ok G o p1 ho hp1   _
  · exact X0_takeBack_b49_ok G o p1 ho hp1   _
set_option maxRecDepth 100000 in
set_option maxHeartbeats 4000000 in
theorem con_X0_takeBack (G : Gt) (o : Nat) (p1 : Nat) (ho : kd o = 0) (hp1 : kd p1 = 3) (mem : Mem) : Con tvU G yX0_takeBack cX0_takeBack 2 none 3 [.ref (gA G o), .ref (gA G p1)] mem (X0_takeBack o p1 mem) := by
  refine con_of (by decide) (Nat.le_of_ble_eq_true rfl) ?_
  show EvR tvU G cX0_takeBack 2 none RX0 3 0 [(0, .ref (gA G o)), (1, .ref (gA G p1))] [] mem _
  unfold X0_takeBack
  refine ev_aload_n (q := 1) dX0_takeBack_0 rfl 0 rfl rfl ?_
  refine ev_aload_n (q := 2) dX0_takeBack_1 rfl 0 rfl rfl ?_
  refine ev_getI (q := 5) (ci := 0) (j := 7) (T := TX0) dX0_takeBack_2 rfl cf_0 ho hj_0_7 hc_0 gf_X0_31 rfl ?_
  refine ev_if_le (t := 17) (q := 8) dX0_takeBack_5 rfl rfl (fun hc1 => ?_) (fun hc1 => ?_)
  · refine ev_aload_n (q := 9) dX0_takeBack_8 rfl 0 rfl rfl ?_
    refine ev_getI (q := 12) (ci := 0) (j := 7) (T := TX0) dX0_takeBack_9 rfl cf_0 ho hj_0_7 hc_0 gf_X0_31 rfl ?_
    refine ev_iconst (q := 13) (v := 1) dX0_takeBack_12 rfl li_1 ?_
    refine ev_isub (q := 14) dX0_takeBack_13 rfl ?_
    refine ev_goto (t := 19) dX0_takeBack_14 rfl ?_
    exact X0_takeBack_b19_ok G o p1 ho hp1   _ _
  · refine ev_bipush (q := 19) (v := 23) dX0_takeBack_17 rfl lb_23 ?_
    exact X0_takeBack_b19_ok G o p1 ho hp1   _ _
/-! AgingLetters$Asks.bodyFor(LAgingLetters$Office;II)I -/
theorem dX1_bodyFor_0 : decode cX1_bodyFor 0 = .ok (.aload_n 0, 1) := by decide +kernel
theorem dX1_bodyFor_1 : decode cX1_bodyFor 1 = .ok (.getfield 25, 3) := by decide +kernel
theorem dX1_bodyFor_4 : decode cX1_bodyFor 4 = .ok (.iload_n 1, 1) := by decide +kernel
theorem dX1_bodyFor_5 : decode cX1_bodyFor 5 = .ok (.iaload, 1) := by decide +kernel
theorem dX1_bodyFor_6 : decode cX1_bodyFor 6 = .ok (.istore_n 3, 1) := by decide +kernel
theorem dX1_bodyFor_7 : decode cX1_bodyFor 7 = .ok (.iload_n 2, 1) := by decide +kernel
theorem dX1_bodyFor_8 : decode cX1_bodyFor 8 = .ok (.ifCond .ne 11, 3) := by decide +kernel
theorem dX1_bodyFor_11 : decode cX1_bodyFor 11 = .ok (.getstatic 30, 3) := by decide +kernel
theorem dX1_bodyFor_14 : decode cX1_bodyFor 14 = .ok (.iload_n 3, 1) := by decide +kernel
theorem dX1_bodyFor_15 : decode cX1_bodyFor 15 = .ok (.iaload, 1) := by decide +kernel
theorem dX1_bodyFor_16 : decode cX1_bodyFor 16 = .ok (.goto 8, 3) := by decide +kernel
theorem dX1_bodyFor_19 : decode cX1_bodyFor 19 = .ok (.getstatic 33, 3) := by decide +kernel
theorem dX1_bodyFor_22 : decode cX1_bodyFor 22 = .ok (.iload_n 3, 1) := by decide +kernel
theorem dX1_bodyFor_23 : decode cX1_bodyFor 23 = .ok (.iaload, 1) := by decide +kernel
theorem dX1_bodyFor_24 : decode cX1_bodyFor 24 = .ok (.ireturn, 1) := by decide +kernel
set_option maxRecDepth 100000 in
set_option maxHeartbeats 4000000 in
theorem con_X1_bodyFor (G : Gt) (p0 : Nat) (a1 : Int32) (a2 : Int32) (hp0 : kd p0 = 3) (mem : Mem) : Con tvI G yX1_bodyFor cX1_bodyFor 4 (some .int) 1 [.ref (gA G p0), .int a1, .int a2] mem (X1_bodyFor p0 a1 a2 mem) := by
  refine con_of (by decide) (Nat.le_of_ble_eq_true rfl) ?_
  show EvR tvI G cX1_bodyFor 4 (some .int) RX1 1 0 [(0, .ref (gA G p0)), (1, .int (a1)), (2, .int (a2))] [] mem _
  unfold X1_bodyFor
  refine ev_aload_n (q := 1) dX1_bodyFor_0 rfl 0 rfl rfl ?_
  refine ev_getR (q := 4) (ci := 3) (j := 4) (T := TX3) dX1_bodyFor_1 rfl cf_3 hp0 hj_3_4 hc_3 gf_X1_25 rfl ?_
  refine ev_iload_n (q := 5) dX1_bodyFor_4 rfl 1 rfl rfl ?_
  refine ev_iald (q := 6) dX1_bodyFor_5 rfl (kr_3_4 hp0) (fun z1 => ?_)
  refine ev_istore_n (q := 7) (lv2 := [(3, .int _), (0, .ref _), (1, .int _), (2, .int _)]) dX1_bodyFor_6 rfl rfl (Nat.le_of_ble_eq_true rfl) rfl ?_
  refine ev_iload_n (q := 8) dX1_bodyFor_7 rfl 3 rfl rfl ?_
  refine ev_if_ne (t := 19) (q := 11) dX1_bodyFor_8 rfl rfl (fun hc2 => ?_) (fun hc2 => ?_)
  · refine ev_gets (q := 14) dX1_bodyFor_11 rfl gs_X1_30 hZS ?_
    refine ev_iload_n (q := 15) dX1_bodyFor_14 rfl 0 rfl rfl ?_
    refine ev_tld (q := 16) dX1_bodyFor_15 rfl hTS (fun z4 => ?_)
    refine ev_goto (t := 24) dX1_bodyFor_16 rfl ?_
    exact ev_iret dX1_bodyFor_24 rfl
  · refine ev_gets (q := 22) dX1_bodyFor_19 rfl gs_X1_33 hZM ?_
    refine ev_iload_n (q := 23) dX1_bodyFor_22 rfl 0 rfl rfl ?_
    refine ev_tld (q := 24) dX1_bodyFor_23 rfl hTM (fun z3 => ?_)
    exact ev_iret dX1_bodyFor_24 rfl
/-! AgingLetters$Asks.leaveNumber(I)V -/
theorem dX1_leaveNumber_0 : decode cX1_leaveNumber 0 = .ok (.aload_n 0, 1) := by decide +kernel
theorem dX1_leaveNumber_1 : decode cX1_leaveNumber 1 = .ok (.getfield 13, 3) := by decide +kernel
theorem dX1_leaveNumber_4 : decode cX1_leaveNumber 4 = .ok (.bipush 16, 2) := by decide +kernel
theorem dX1_leaveNumber_6 : decode cX1_leaveNumber 6 = .ok (.if_icmp .lt 4, 3) := by decide +kernel
theorem dX1_leaveNumber_9 : decode cX1_leaveNumber 9 = .ok (.return_, 1) := by decide +kernel
theorem dX1_leaveNumber_10 : decode cX1_leaveNumber 10 = .ok (.aload_n 0, 1) := by decide +kernel
theorem dX1_leaveNumber_11 : decode cX1_leaveNumber 11 = .ok (.getfield 9, 3) := by decide +kernel
theorem dX1_leaveNumber_14 : decode cX1_leaveNumber 14 = .ok (.aload_n 0, 1) := by decide +kernel
theorem dX1_leaveNumber_15 : decode cX1_leaveNumber 15 = .ok (.getfield 13, 3) := by decide +kernel
theorem dX1_leaveNumber_18 : decode cX1_leaveNumber 18 = .ok (.iload_n 1, 1) := by decide +kernel
theorem dX1_leaveNumber_19 : decode cX1_leaveNumber 19 = .ok (.iastore, 1) := by decide +kernel
theorem dX1_leaveNumber_20 : decode cX1_leaveNumber 20 = .ok (.aload_n 0, 1) := by decide +kernel
theorem dX1_leaveNumber_21 : decode cX1_leaveNumber 21 = .ok (.dup, 1) := by decide +kernel
theorem dX1_leaveNumber_22 : decode cX1_leaveNumber 22 = .ok (.getfield 13, 3) := by decide +kernel
theorem dX1_leaveNumber_25 : decode cX1_leaveNumber 25 = .ok (.iconst 1, 1) := by decide +kernel
theorem dX1_leaveNumber_26 : decode cX1_leaveNumber 26 = .ok (.iadd, 1) := by decide +kernel
theorem dX1_leaveNumber_27 : decode cX1_leaveNumber 27 = .ok (.putfield 13, 3) := by decide +kernel
theorem dX1_leaveNumber_30 : decode cX1_leaveNumber 30 = .ok (.return_, 1) := by decide +kernel
set_option maxRecDepth 100000 in
set_option maxHeartbeats 4000000 in
theorem con_X1_leaveNumber (G : Gt) (o : Nat) (a1 : Int32) (ho : kd o = 1) (mem : Mem) : Con tvU G yX1_leaveNumber cX1_leaveNumber 2 none 1 [.ref (gA G o), .int a1] mem (X1_leaveNumber o a1 mem) := by
  refine con_of (by decide) (Nat.le_of_ble_eq_true rfl) ?_
  show EvR tvU G cX1_leaveNumber 2 none RX1 1 0 [(0, .ref (gA G o)), (1, .int (a1))] [] mem _
  unfold X1_leaveNumber
  refine ev_aload_n (q := 1) dX1_leaveNumber_0 rfl 0 rfl rfl ?_
  refine ev_getI (q := 4) (ci := 1) (j := 1) (T := TX1) dX1_leaveNumber_1 rfl cf_1 ho hj_1_1 hc_1 gf_X1_13 rfl ?_
  refine ev_bipush (q := 6) (v := 16) dX1_leaveNumber_4 rfl lb_16 ?_
  refine ev_icmp_lt (t := 10) (q := 9) dX1_leaveNumber_6 rfl rfl (fun hc1 => ?_) (fun hc1 => ?_)
  · refine ev_aload_n (q := 11) dX1_leaveNumber_10 rfl 0 rfl rfl ?_
    refine ev_getR (q := 14) (ci := 1) (j := 0) (T := TX1) dX1_leaveNumber_11 rfl cf_1 ho hj_1_0 hc_1 gf_X1_9 rfl ?_
    refine ev_aload_n (q := 15) dX1_leaveNumber_14 rfl 0 rfl rfl ?_
    refine ev_getI (q := 18) (ci := 1) (j := 1) (T := TX1) dX1_leaveNumber_15 rfl cf_1 ho hj_1_1 hc_1 gf_X1_13 rfl ?_
    refine ev_iload_n (q := 19) dX1_leaveNumber_18 rfl 1 rfl rfl ?_
    refine ev_iast (q := 20) dX1_leaveNumber_19 rfl (kr_1_0 ho) (fun m2 => ?_)
    refine ev_aload_n (q := 21) dX1_leaveNumber_20 rfl 0 rfl rfl ?_
    refine ev_dup (q := 22) dX1_leaveNumber_21 rfl rfl ?_
    refine ev_getI (q := 25) (ci := 1) (j := 1) (T := TX1) dX1_leaveNumber_22 rfl cf_1 ho hj_1_1 hc_1 gf_X1_13 rfl ?_
    refine ev_iconst (q := 26) (v := 1) dX1_leaveNumber_25 rfl li_1 ?_
    refine ev_iadd (q := 27) dX1_leaveNumber_26 rfl ?_
    refine ev_putI (q := 30) (ci := 1) (j := 1) (T := TX1) dX1_leaveNumber_27 rfl cf_1 ho hj_1_1 hc_1 gf_X1_13 rfl rfl (tyX1_ok 1 hj_1_1) ?_
    exact ev_vret dX1_leaveNumber_30 rfl
  · exact ev_vret dX1_leaveNumber_9 rfl
/-! AgingLetters$Office.timesReadByAll(I)I -/
theorem dX3_timesReadByAll_0 : decode cX3_timesReadByAll 0 = .ok (.iconst 0, 1) := by decide +kernel
theorem dX3_timesReadByAll_1 : decode cX3_timesReadByAll 1 = .ok (.istore_n 2, 1) := by decide +kernel
theorem dX3_timesReadByAll_2 : decode cX3_timesReadByAll 2 = .ok (.iconst 0, 1) := by decide +kernel
theorem dX3_timesReadByAll_3 : decode cX3_timesReadByAll 3 = .ok (.istore_n 3, 1) := by decide +kernel
theorem dX3_timesReadByAll_4 : decode cX3_timesReadByAll 4 = .ok (.iload_n 3, 1) := by decide +kernel
theorem dX3_timesReadByAll_5 : decode cX3_timesReadByAll 5 = .ok (.aload_n 0, 1) := by decide +kernel
theorem dX3_timesReadByAll_6 : decode cX3_timesReadByAll 6 = .ok (.getfield 50, 3) := by decide +kernel
theorem dX3_timesReadByAll_9 : decode cX3_timesReadByAll 9 = .ok (.if_icmp .ge 23, 3) := by decide +kernel
theorem dX3_timesReadByAll_12 : decode cX3_timesReadByAll 12 = .ok (.iload_n 2, 1) := by decide +kernel
theorem dX3_timesReadByAll_13 : decode cX3_timesReadByAll 13 = .ok (.aload_n 0, 1) := by decide +kernel
theorem dX3_timesReadByAll_14 : decode cX3_timesReadByAll 14 = .ok (.getfield 33, 3) := by decide +kernel
theorem dX3_timesReadByAll_17 : decode cX3_timesReadByAll 17 = .ok (.iload_n 3, 1) := by decide +kernel
theorem dX3_timesReadByAll_18 : decode cX3_timesReadByAll 18 = .ok (.bipush 6, 2) := by decide +kernel
theorem dX3_timesReadByAll_20 : decode cX3_timesReadByAll 20 = .ok (.imul, 1) := by decide +kernel
theorem dX3_timesReadByAll_21 : decode cX3_timesReadByAll 21 = .ok (.iload_n 1, 1) := by decide +kernel
theorem dX3_timesReadByAll_22 : decode cX3_timesReadByAll 22 = .ok (.iadd, 1) := by decide +kernel
theorem dX3_timesReadByAll_23 : decode cX3_timesReadByAll 23 = .ok (.iaload, 1) := by decide +kernel
theorem dX3_timesReadByAll_24 : decode cX3_timesReadByAll 24 = .ok (.iadd, 1) := by decide +kernel
theorem dX3_timesReadByAll_25 : decode cX3_timesReadByAll 25 = .ok (.istore_n 2, 1) := by decide +kernel
theorem dX3_timesReadByAll_26 : decode cX3_timesReadByAll 26 = .ok (.iinc 3 1, 3) := by decide +kernel
theorem dX3_timesReadByAll_29 : decode cX3_timesReadByAll 29 = .ok (.goto (-25), 3) := by decide +kernel
theorem dX3_timesReadByAll_32 : decode cX3_timesReadByAll 32 = .ok (.iload_n 2, 1) := by decide +kernel
theorem dX3_timesReadByAll_33 : decode cX3_timesReadByAll 33 = .ok (.ireturn, 1) := by decide +kernel
set_option maxRecDepth 100000 in
set_option maxHeartbeats 4000000 in
theorem X3_timesReadByAll_b4_ok (G : Gt) (o : Nat) (ho : kd o = 3)    : ∀ (n : Nat) (x1 : Int32) (x2 : Int32) (x3 : Int32) (mem : Mem), EvR tvI G cX3_timesReadByAll 4 (some .int) RX3 1 4 [(0, .ref (gA G o)), (1, .int (x1)), (2, .int (x2)), (3, .int (x3))] [] mem (X3_timesReadByAll_b4 o n x1 x2 x3 mem) := by
  intro n
  induction n with
  | zero => intros; exact ev_none
  | succ n ih =>
    intro x1 x2 x3 mem
    rw [X3_timesReadByAll_b4]
    refine ev_iload_n (q := 5) dX3_timesReadByAll_4 rfl 3 rfl rfl ?_
    refine ev_aload_n (q := 6) dX3_timesReadByAll_5 rfl 0 rfl rfl ?_
    refine ev_getI (q := 9) (ci := 3) (j := 7) (T := TX3) dX3_timesReadByAll_6 rfl cf_3 ho hj_3_7 hc_3 gf_X3_50 rfl ?_
    refine ev_icmp_ge (t := 32) (q := 12) dX3_timesReadByAll_9 rfl rfl (fun hc1 => ?_) (fun hc1 => ?_)
    · refine ev_iload_n (q := 13) dX3_timesReadByAll_12 rfl 2 rfl rfl ?_
      refine ev_aload_n (q := 14) dX3_timesReadByAll_13 rfl 0 rfl rfl ?_
      refine ev_getR (q := 17) (ci := 3) (j := 12) (T := TX3) dX3_timesReadByAll_14 rfl cf_3 ho hj_3_12 hc_3 gf_X3_33 rfl ?_
      refine ev_iload_n (q := 18) dX3_timesReadByAll_17 rfl 3 rfl rfl ?_
      refine ev_bipush (q := 20) (v := 6) dX3_timesReadByAll_18 rfl lb_6 ?_
      refine ev_imul (q := 21) dX3_timesReadByAll_20 rfl ?_
      refine ev_iload_n (q := 22) dX3_timesReadByAll_21 rfl 1 rfl rfl ?_
      refine ev_iadd (q := 23) dX3_timesReadByAll_22 rfl ?_
      refine ev_iald (q := 24) dX3_timesReadByAll_23 rfl (kr_3_12 ho) (fun z2 => ?_)
      refine ev_iadd (q := 25) dX3_timesReadByAll_24 rfl ?_
      refine ev_istore_n (q := 26) (lv2 := [(2, .int _), (0, .ref _), (1, .int _), (3, .int _)]) dX3_timesReadByAll_25 rfl rfl (Nat.le_of_ble_eq_true rfl) rfl ?_
      refine ev_iinc (q := 29) (lv2 := [(3, .int _), (2, .int _), (0, .ref _), (1, .int _)]) (v := x3 + 1) dX3_timesReadByAll_26 3 rfl rfl (congrArg (HAdd.hAdd _) li_1) (Nat.le_of_ble_eq_true rfl) rfl ?_
      refine ev_goto (t := 4) dX3_timesReadByAll_29 rfl ?_
      refine ev_sub (lv' := [(0, .ref _), (1, .int _), (2, .int _), (3, .int _)]) [2, 3, 1, 0] rfl ?_
      exact ih _ _ _ _
    · refine ev_iload_n (q := 33) dX3_timesReadByAll_32 rfl 2 rfl rfl ?_
      exact ev_iret dX3_timesReadByAll_33 rfl
set_option maxRecDepth 100000 in
set_option maxHeartbeats 4000000 in
theorem con_X3_timesReadByAll (G : Gt) (o : Nat) (a1 : Int32) (ho : kd o = 3) (mem : Mem) : Con tvI G yX3_timesReadByAll cX3_timesReadByAll 4 (some .int) 1 [.ref (gA G o), .int a1] mem (X3_timesReadByAll o a1 mem) := by
  refine con_of (by decide) (Nat.le_of_ble_eq_true rfl) ?_
  show EvR tvI G cX3_timesReadByAll 4 (some .int) RX3 1 0 [(0, .ref (gA G o)), (1, .int (a1))] [] mem _
  unfold X3_timesReadByAll
  refine ev_iconst (q := 1) (v := 0) dX3_timesReadByAll_0 rfl li_0 ?_
  refine ev_istore_n (q := 2) (lv2 := [(2, .int _), (0, .ref _), (1, .int _)]) dX3_timesReadByAll_1 rfl rfl (Nat.le_of_ble_eq_true rfl) rfl ?_
  refine ev_iconst (q := 3) (v := 0) dX3_timesReadByAll_2 rfl li_0 ?_
  refine ev_istore_n (q := 4) (lv2 := [(3, .int _), (2, .int _), (0, .ref _), (1, .int _)]) dX3_timesReadByAll_3 rfl rfl (Nat.le_of_ble_eq_true rfl) rfl ?_
  refine ev_sub (lv' := [(0, .ref _), (1, .int _), (2, .int _), (3, .int _)]) [2, 3, 1, 0] rfl ?_
  exact X3_timesReadByAll_b4_ok G o ho   fu _ _ _ _
/-! AgingLetters$Asks.begin(LAgingLetters$Asks;ILAgingLetters$Office;II)I -/
theorem dX1_begin_0 : decode cX1_begin 0 = .ok (.iload 4, 2) := by decide +kernel
theorem dX1_begin_2 : decode cX1_begin 2 = .ok (.bipush 8, 2) := by decide +kernel
theorem dX1_begin_4 : decode cX1_begin 4 = .ok (.if_icmp .le 5, 3) := by decide +kernel
theorem dX1_begin_7 : decode cX1_begin 7 = .ok (.iconst 0, 1) := by decide +kernel
theorem dX1_begin_8 : decode cX1_begin 8 = .ok (.ireturn, 1) := by decide +kernel
theorem dX1_begin_9 : decode cX1_begin 9 = .ok (.aload_n 0, 1) := by decide +kernel
theorem dX1_begin_10 : decode cX1_begin 10 = .ok (.iload_n 1, 1) := by decide +kernel
theorem dX1_begin_11 : decode cX1_begin 11 = .ok (.invokevirtual 36, 3) := by decide +kernel
theorem dX1_begin_14 : decode cX1_begin 14 = .ok (.iload 4, 2) := by decide +kernel
theorem dX1_begin_16 : decode cX1_begin 16 = .ok (.iconst 1, 1) := by decide +kernel
theorem dX1_begin_17 : decode cX1_begin 17 = .ok (.iadd, 1) := by decide +kernel
theorem dX1_begin_18 : decode cX1_begin 18 = .ok (.istore 5, 2) := by decide +kernel
theorem dX1_begin_20 : decode cX1_begin 20 = .ok (.iload_n 1, 1) := by decide +kernel
theorem dX1_begin_21 : decode cX1_begin 21 = .ok (.tableswitch 220 10 24 #[75, 82, 108, 120, 134, 220, 220, 220, 220, 220, 147, 149, 166, 181, 207], 75) := by decide +kernel
theorem dX1_begin_96 : decode cX1_begin 96 = .ok (.aload_n 2, 1) := by decide +kernel
theorem dX1_begin_97 : decode cX1_begin 97 = .ok (.getfield 40, 3) := by decide +kernel
theorem dX1_begin_100 : decode cX1_begin 100 = .ok (.iload_n 3, 1) := by decide +kernel
theorem dX1_begin_101 : decode cX1_begin 101 = .ok (.iaload, 1) := by decide +kernel
theorem dX1_begin_102 : decode cX1_begin 102 = .ok (.ireturn, 1) := by decide +kernel
theorem dX1_begin_103 : decode cX1_begin 103 = .ok (.aload_n 0, 1) := by decide +kernel
theorem dX1_begin_104 : decode cX1_begin 104 = .ok (.bipush 10, 2) := by decide +kernel
theorem dX1_begin_106 : decode cX1_begin 106 = .ok (.aload_n 2, 1) := by decide +kernel
theorem dX1_begin_107 : decode cX1_begin 107 = .ok (.iload_n 3, 1) := by decide +kernel
theorem dX1_begin_108 : decode cX1_begin 108 = .ok (.iload 5, 2) := by decide +kernel
theorem dX1_begin_110 : decode cX1_begin 110 = .ok (.invokestatic 21, 3) := by decide +kernel
theorem dX1_begin_113 : decode cX1_begin 113 = .ok (.aload_n 0, 1) := by decide +kernel
theorem dX1_begin_114 : decode cX1_begin 114 = .ok (.aload_n 2, 1) := by decide +kernel
theorem dX1_begin_115 : decode cX1_begin 115 = .ok (.iload_n 3, 1) := by decide +kernel
theorem dX1_begin_116 : decode cX1_begin 116 = .ok (.iconst 1, 1) := by decide +kernel
theorem dX1_begin_117 : decode cX1_begin 117 = .ok (.invokestatic 17, 3) := by decide +kernel
theorem dX1_begin_120 : decode cX1_begin 120 = .ok (.aload_n 2, 1) := by decide +kernel
theorem dX1_begin_121 : decode cX1_begin 121 = .ok (.iload_n 3, 1) := by decide +kernel
theorem dX1_begin_122 : decode cX1_begin 122 = .ok (.iload 5, 2) := by decide +kernel
theorem dX1_begin_124 : decode cX1_begin 124 = .ok (.invokestatic 21, 3) := by decide +kernel
theorem dX1_begin_127 : decode cX1_begin 127 = .ok (.iadd, 1) := by decide +kernel
theorem dX1_begin_128 : decode cX1_begin 128 = .ok (.ireturn, 1) := by decide +kernel
theorem dX1_begin_129 : decode cX1_begin 129 = .ok (.aload_n 0, 1) := by decide +kernel
theorem dX1_begin_130 : decode cX1_begin 130 = .ok (.bipush 11, 2) := by decide +kernel
theorem dX1_begin_132 : decode cX1_begin 132 = .ok (.aload_n 2, 1) := by decide +kernel
theorem dX1_begin_133 : decode cX1_begin 133 = .ok (.iload_n 3, 1) := by decide +kernel
theorem dX1_begin_134 : decode cX1_begin 134 = .ok (.iload 5, 2) := by decide +kernel
theorem dX1_begin_136 : decode cX1_begin 136 = .ok (.invokestatic 21, 3) := by decide +kernel
theorem dX1_begin_139 : decode cX1_begin 139 = .ok (.ineg, 1) := by decide +kernel
theorem dX1_begin_140 : decode cX1_begin 140 = .ok (.ireturn, 1) := by decide +kernel
theorem dX1_begin_141 : decode cX1_begin 141 = .ok (.aload_n 0, 1) := by decide +kernel
theorem dX1_begin_142 : decode cX1_begin 142 = .ok (.bipush 10, 2) := by decide +kernel
theorem dX1_begin_144 : decode cX1_begin 144 = .ok (.aload_n 2, 1) := by decide +kernel
theorem dX1_begin_145 : decode cX1_begin 145 = .ok (.iload_n 3, 1) := by decide +kernel
theorem dX1_begin_146 : decode cX1_begin 146 = .ok (.iload 5, 2) := by decide +kernel
theorem dX1_begin_148 : decode cX1_begin 148 = .ok (.invokestatic 21, 3) := by decide +kernel
theorem dX1_begin_151 : decode cX1_begin 151 = .ok (.bipush 100, 2) := by decide +kernel
theorem dX1_begin_153 : decode cX1_begin 153 = .ok (.isub, 1) := by decide +kernel
theorem dX1_begin_154 : decode cX1_begin 154 = .ok (.ireturn, 1) := by decide +kernel
theorem dX1_begin_155 : decode cX1_begin 155 = .ok (.iconst 2, 1) := by decide +kernel
theorem dX1_begin_156 : decode cX1_begin 156 = .ok (.aload_n 0, 1) := by decide +kernel
theorem dX1_begin_157 : decode cX1_begin 157 = .ok (.bipush 13, 2) := by decide +kernel
theorem dX1_begin_159 : decode cX1_begin 159 = .ok (.aload_n 2, 1) := by decide +kernel
theorem dX1_begin_160 : decode cX1_begin 160 = .ok (.iload_n 3, 1) := by decide +kernel
theorem dX1_begin_161 : decode cX1_begin 161 = .ok (.iload 5, 2) := by decide +kernel
theorem dX1_begin_163 : decode cX1_begin 163 = .ok (.invokestatic 21, 3) := by decide +kernel
theorem dX1_begin_166 : decode cX1_begin 166 = .ok (.imul, 1) := by decide +kernel
theorem dX1_begin_167 : decode cX1_begin 167 = .ok (.ireturn, 1) := by decide +kernel
theorem dX1_begin_168 : decode cX1_begin 168 = .ok (.iload_n 3, 1) := by decide +kernel
theorem dX1_begin_169 : decode cX1_begin 169 = .ok (.ireturn, 1) := by decide +kernel
theorem dX1_begin_170 : decode cX1_begin 170 = .ok (.aload_n 0, 1) := by decide +kernel
theorem dX1_begin_171 : decode cX1_begin 171 = .ok (.bipush 20, 2) := by decide +kernel
theorem dX1_begin_173 : decode cX1_begin 173 = .ok (.aload_n 2, 1) := by decide +kernel
theorem dX1_begin_174 : decode cX1_begin 174 = .ok (.iload_n 3, 1) := by decide +kernel
theorem dX1_begin_175 : decode cX1_begin 175 = .ok (.iload 5, 2) := by decide +kernel
theorem dX1_begin_177 : decode cX1_begin 177 = .ok (.invokestatic 21, 3) := by decide +kernel
theorem dX1_begin_180 : decode cX1_begin 180 = .ok (.aload_n 2, 1) := by decide +kernel
theorem dX1_begin_181 : decode cX1_begin 181 = .ok (.iload_n 3, 1) := by decide +kernel
theorem dX1_begin_182 : decode cX1_begin 182 = .ok (.invokevirtual 43, 3) := by decide +kernel
theorem dX1_begin_185 : decode cX1_begin 185 = .ok (.iadd, 1) := by decide +kernel
theorem dX1_begin_186 : decode cX1_begin 186 = .ok (.ireturn, 1) := by decide +kernel
theorem dX1_begin_187 : decode cX1_begin 187 = .ok (.aload_n 0, 1) := by decide +kernel
theorem dX1_begin_188 : decode cX1_begin 188 = .ok (.bipush 21, 2) := by decide +kernel
theorem dX1_begin_190 : decode cX1_begin 190 = .ok (.aload_n 2, 1) := by decide +kernel
theorem dX1_begin_191 : decode cX1_begin 191 = .ok (.iload_n 3, 1) := by decide +kernel
theorem dX1_begin_192 : decode cX1_begin 192 = .ok (.iload 5, 2) := by decide +kernel
theorem dX1_begin_194 : decode cX1_begin 194 = .ok (.invokestatic 21, 3) := by decide +kernel
theorem dX1_begin_197 : decode cX1_begin 197 = .ok (.sipush 1000, 3) := by decide +kernel
theorem dX1_begin_200 : decode cX1_begin 200 = .ok (.isub, 1) := by decide +kernel
theorem dX1_begin_201 : decode cX1_begin 201 = .ok (.ireturn, 1) := by decide +kernel
theorem dX1_begin_202 : decode cX1_begin 202 = .ok (.aload_n 0, 1) := by decide +kernel
theorem dX1_begin_203 : decode cX1_begin 203 = .ok (.bipush 20, 2) := by decide +kernel
theorem dX1_begin_205 : decode cX1_begin 205 = .ok (.aload_n 2, 1) := by decide +kernel
theorem dX1_begin_206 : decode cX1_begin 206 = .ok (.iload_n 3, 1) := by decide +kernel
theorem dX1_begin_207 : decode cX1_begin 207 = .ok (.iload 5, 2) := by decide +kernel
theorem dX1_begin_209 : decode cX1_begin 209 = .ok (.invokestatic 21, 3) := by decide +kernel
theorem dX1_begin_212 : decode cX1_begin 212 = .ok (.aload_n 0, 1) := by decide +kernel
theorem dX1_begin_213 : decode cX1_begin 213 = .ok (.aload_n 2, 1) := by decide +kernel
theorem dX1_begin_214 : decode cX1_begin 214 = .ok (.iload_n 3, 1) := by decide +kernel
theorem dX1_begin_215 : decode cX1_begin 215 = .ok (.iconst 0, 1) := by decide +kernel
theorem dX1_begin_216 : decode cX1_begin 216 = .ok (.invokestatic 17, 3) := by decide +kernel
theorem dX1_begin_219 : decode cX1_begin 219 = .ok (.aload_n 2, 1) := by decide +kernel
theorem dX1_begin_220 : decode cX1_begin 220 = .ok (.iload_n 3, 1) := by decide +kernel
theorem dX1_begin_221 : decode cX1_begin 221 = .ok (.iload 5, 2) := by decide +kernel
theorem dX1_begin_223 : decode cX1_begin 223 = .ok (.invokestatic 21, 3) := by decide +kernel
theorem dX1_begin_226 : decode cX1_begin 226 = .ok (.isub, 1) := by decide +kernel
theorem dX1_begin_227 : decode cX1_begin 227 = .ok (.ireturn, 1) := by decide +kernel
theorem dX1_begin_228 : decode cX1_begin 228 = .ok (.iconst 2, 1) := by decide +kernel
theorem dX1_begin_229 : decode cX1_begin 229 = .ok (.aload_n 0, 1) := by decide +kernel
theorem dX1_begin_230 : decode cX1_begin 230 = .ok (.bipush 21, 2) := by decide +kernel
theorem dX1_begin_232 : decode cX1_begin 232 = .ok (.aload_n 2, 1) := by decide +kernel
theorem dX1_begin_233 : decode cX1_begin 233 = .ok (.iload_n 3, 1) := by decide +kernel
theorem dX1_begin_234 : decode cX1_begin 234 = .ok (.iload 5, 2) := by decide +kernel
theorem dX1_begin_236 : decode cX1_begin 236 = .ok (.invokestatic 21, 3) := by decide +kernel
theorem dX1_begin_239 : decode cX1_begin 239 = .ok (.imul, 1) := by decide +kernel
theorem dX1_begin_240 : decode cX1_begin 240 = .ok (.ireturn, 1) := by decide +kernel
theorem dX1_begin_241 : decode cX1_begin 241 = .ok (.iconst 0, 1) := by decide +kernel
theorem dX1_begin_242 : decode cX1_begin 242 = .ok (.ireturn, 1) := by decide +kernel
set_option maxRecDepth 100000 in
set_option maxHeartbeats 4000000 in
theorem con_X1_begin_e (G : Gt) (p0 : Nat) (p2 : Nat) (hp0 : kd p0 = 1) (hp2 : kd p2 = 3) (frec : Nat → Int32 → Nat → Int32 → Int32 → Mem → Option (Int32 × Mem)) (d : Nat) (hd0 : 2 ≤ d) (hrec : ∀ (p0 : Nat) (a1 : Int32) (p2 : Nat) (a3 : Int32) (a4 : Int32) (_ : kd p0 = 1) (_ : kd p2 = 3) (mem : Mem), Con tvI G yX1_begin cX1_begin 6 (some .int) (d - 1) [.ref (gA G p0), .int a1, .ref (gA G p2), .int a3, .int a4] mem (frec p0 a1 p2 a3 a4 mem)) (a1 : Int32) (a3 : Int32) (a4 : Int32) (mem : Mem) : EvR tvI G cX1_begin 6 (some .int) RX1 d 0 [(0, .ref (gA G p0)), (1, .int (a1)), (2, .ref (gA G p2)), (3, .int (a3)), (4, .int (a4))] [] mem (X1_begin_e p0 p2 frec a1 a3 a4 mem) := by
  unfold X1_begin_e
  refine ev_iload (q := 2) dX1_begin_0 4 rfl rfl ?_
  refine ev_bipush (q := 4) (v := 8) dX1_begin_2 rfl lb_8 ?_
  refine ev_icmp_le (t := 9) (q := 7) dX1_begin_4 rfl rfl (fun hc1 => ?_) (fun hc1 => ?_)
  · refine ev_iconst (q := 8) (v := 0) dX1_begin_7 rfl li_0 ?_
    exact ev_iret dX1_begin_8 rfl
  · refine ev_aload_n (q := 10) dX1_begin_9 rfl 0 rfl rfl ?_
    refine ev_iload_n (q := 11) dX1_begin_10 rfl 1 rfl rfl ?_
    refine ev_callVU (q := 14) dX1_begin_11 rfl ml_X1_36 mt_X1_leaveNumber cf_1 rfl hp0 hc_1 (con_X1_leaveNumber G _ _ hp0 _) rfl (by omega) (Nat.le_of_ble_eq_true rfl) rfl (Nat.le_of_ble_eq_true rfl) (fun r2 m3 => ?_)
    refine ev_iload (q := 16) dX1_begin_14 4 rfl rfl ?_
    refine ev_iconst (q := 17) (v := 1) dX1_begin_16 rfl li_1 ?_
    refine ev_iadd (q := 18) dX1_begin_17 rfl ?_
    refine ev_istore (q := 20) (lv2 := [(5, .int _), (0, .ref _), (1, .int _), (2, .ref _), (3, .int _), (4, .int _)]) dX1_begin_18 rfl (Nat.le_of_ble_eq_true rfl) rfl ?_
    refine ev_iload_n (q := 21) dX1_begin_20 rfl 2 rfl rfl ?_
    refine ev_ite (fun hc4 => ?_) (fun hc4 => ?_)
    · subst hc4
      refine ev_tsIn (t := 96) (off := 75) dX1_begin_21 (by decide) (by decide) (by decide) rfl ?_
      refine ev_aload_n (q := 97) dX1_begin_96 rfl 3 rfl rfl ?_
      refine ev_getR (q := 100) (ci := 3) (j := 5) (T := TX3) dX1_begin_97 rfl cf_3 hp2 hj_3_5 hc_3 gf_X1_40 rfl ?_
      refine ev_iload_n (q := 101) dX1_begin_100 rfl 4 rfl rfl ?_
      refine ev_iald (q := 102) dX1_begin_101 rfl (kr_3_5 hp2) (fun z5 => ?_)
      exact ev_iret dX1_begin_102 rfl
    refine ev_ite (fun hc6 => ?_) (fun hc6 => ?_)
    · subst hc6
      refine ev_tsIn (t := 103) (off := 82) dX1_begin_21 (by decide) (by decide) (by decide) rfl ?_
      refine ev_aload_n (q := 104) dX1_begin_103 rfl 1 rfl rfl ?_
      refine ev_bipush (q := 106) (v := 10) dX1_begin_104 rfl lb_10 ?_
      refine ev_aload_n (q := 107) dX1_begin_106 rfl 3 rfl rfl ?_
      refine ev_iload_n (q := 108) dX1_begin_107 rfl 4 rfl rfl ?_
      refine ev_iload (q := 110) dX1_begin_108 0 rfl rfl ?_
      refine ev_callSI (q := 113) dX1_begin_110 rfl ml_X1_21 mt_X1_begin (hrec _ _ _ _ _ hp0 hp2 _) rfl (by omega) (Nat.le_of_ble_eq_true rfl) rfl (Nat.le_of_ble_eq_true rfl) (fun r7 m8 => ?_)
      refine ev_aload_n (q := 114) dX1_begin_113 rfl 1 rfl rfl ?_
      refine ev_aload_n (q := 115) dX1_begin_114 rfl 3 rfl rfl ?_
      refine ev_iload_n (q := 116) dX1_begin_115 rfl 4 rfl rfl ?_
      refine ev_iconst (q := 117) (v := 1) dX1_begin_116 rfl li_1 ?_
      refine ev_callSI (q := 120) dX1_begin_117 rfl ml_X1_17 mt_X1_bodyFor (con_X1_bodyFor G _ _ _ hp2 _) rfl (by omega) (Nat.le_of_ble_eq_true rfl) rfl (Nat.le_of_ble_eq_true rfl) (fun r9 m10 => ?_)
      refine ev_aload_n (q := 121) dX1_begin_120 rfl 3 rfl rfl ?_
      refine ev_iload_n (q := 122) dX1_begin_121 rfl 4 rfl rfl ?_
      refine ev_iload (q := 124) dX1_begin_122 0 rfl rfl ?_
      refine ev_callSI (q := 127) dX1_begin_124 rfl ml_X1_21 mt_X1_begin (hrec _ _ _ _ _ hp0 hp2 _) rfl (by omega) (Nat.le_of_ble_eq_true rfl) rfl (Nat.le_of_ble_eq_true rfl) (fun r11 m12 => ?_)
      refine ev_iadd (q := 128) dX1_begin_127 rfl ?_
      exact ev_iret dX1_begin_128 rfl
    refine ev_ite (fun hc13 => ?_) (fun hc13 => ?_)
    · subst hc13
      refine ev_tsIn (t := 129) (off := 108) dX1_begin_21 (by decide) (by decide) (by decide) rfl ?_
      refine ev_aload_n (q := 130) dX1_begin_129 rfl 1 rfl rfl ?_
      refine ev_bipush (q := 132) (v := 11) dX1_begin_130 rfl lb_11 ?_
      refine ev_aload_n (q := 133) dX1_begin_132 rfl 3 rfl rfl ?_
      refine ev_iload_n (q := 134) dX1_begin_133 rfl 4 rfl rfl ?_
      refine ev_iload (q := 136) dX1_begin_134 0 rfl rfl ?_
      refine ev_callSI (q := 139) dX1_begin_136 rfl ml_X1_21 mt_X1_begin (hrec _ _ _ _ _ hp0 hp2 _) rfl (by omega) (Nat.le_of_ble_eq_true rfl) rfl (Nat.le_of_ble_eq_true rfl) (fun r14 m15 => ?_)
      refine ev_ineg (q := 140) dX1_begin_139 rfl ?_
      exact ev_iret dX1_begin_140 rfl
    refine ev_ite (fun hc16 => ?_) (fun hc16 => ?_)
    · subst hc16
      refine ev_tsIn (t := 141) (off := 120) dX1_begin_21 (by decide) (by decide) (by decide) rfl ?_
      refine ev_aload_n (q := 142) dX1_begin_141 rfl 1 rfl rfl ?_
      refine ev_bipush (q := 144) (v := 10) dX1_begin_142 rfl lb_10 ?_
      refine ev_aload_n (q := 145) dX1_begin_144 rfl 3 rfl rfl ?_
      refine ev_iload_n (q := 146) dX1_begin_145 rfl 4 rfl rfl ?_
      refine ev_iload (q := 148) dX1_begin_146 0 rfl rfl ?_
      refine ev_callSI (q := 151) dX1_begin_148 rfl ml_X1_21 mt_X1_begin (hrec _ _ _ _ _ hp0 hp2 _) rfl (by omega) (Nat.le_of_ble_eq_true rfl) rfl (Nat.le_of_ble_eq_true rfl) (fun r17 m18 => ?_)
      refine ev_bipush (q := 153) (v := 100) dX1_begin_151 rfl lb_100 ?_
      refine ev_isub (q := 154) dX1_begin_153 rfl ?_
      exact ev_iret dX1_begin_154 rfl
    refine ev_ite (fun hc19 => ?_) (fun hc19 => ?_)
    · subst hc19
      refine ev_tsIn (t := 155) (off := 134) dX1_begin_21 (by decide) (by decide) (by decide) rfl ?_
      refine ev_iconst (q := 156) (v := 2) dX1_begin_155 rfl li_2 ?_
      refine ev_aload_n (q := 157) dX1_begin_156 rfl 1 rfl rfl ?_
      refine ev_bipush (q := 159) (v := 13) dX1_begin_157 rfl lb_13 ?_
      refine ev_aload_n (q := 160) dX1_begin_159 rfl 3 rfl rfl ?_
      refine ev_iload_n (q := 161) dX1_begin_160 rfl 4 rfl rfl ?_
      refine ev_iload (q := 163) dX1_begin_161 0 rfl rfl ?_
      refine ev_callSI (q := 166) dX1_begin_163 rfl ml_X1_21 mt_X1_begin (hrec _ _ _ _ _ hp0 hp2 _) rfl (by omega) (Nat.le_of_ble_eq_true rfl) rfl (Nat.le_of_ble_eq_true rfl) (fun r20 m21 => ?_)
      refine ev_imul (q := 167) dX1_begin_166 rfl ?_
      exact ev_iret dX1_begin_167 rfl
    refine ev_ite (fun hc22 => ?_) (fun hc22 => ?_)
    · subst hc22
      refine ev_tsIn (t := 241) (off := 220) dX1_begin_21 (by decide) (by decide) (by decide) rfl ?_
      refine ev_iconst (q := 242) (v := 0) dX1_begin_241 rfl li_0 ?_
      exact ev_iret dX1_begin_242 rfl
    refine ev_ite (fun hc23 => ?_) (fun hc23 => ?_)
    · subst hc23
      refine ev_tsIn (t := 241) (off := 220) dX1_begin_21 (by decide) (by decide) (by decide) rfl ?_
      refine ev_iconst (q := 242) (v := 0) dX1_begin_241 rfl li_0 ?_
      exact ev_iret dX1_begin_242 rfl
    refine ev_ite (fun hc24 => ?_) (fun hc24 => ?_)
    · subst hc24
      refine ev_tsIn (t := 241) (off := 220) dX1_begin_21 (by decide) (by decide) (by decide) rfl ?_
      refine ev_iconst (q := 242) (v := 0) dX1_begin_241 rfl li_0 ?_
      exact ev_iret dX1_begin_242 rfl
    refine ev_ite (fun hc25 => ?_) (fun hc25 => ?_)
    · subst hc25
      refine ev_tsIn (t := 241) (off := 220) dX1_begin_21 (by decide) (by decide) (by decide) rfl ?_
      refine ev_iconst (q := 242) (v := 0) dX1_begin_241 rfl li_0 ?_
      exact ev_iret dX1_begin_242 rfl
    refine ev_ite (fun hc26 => ?_) (fun hc26 => ?_)
    · subst hc26
      refine ev_tsIn (t := 241) (off := 220) dX1_begin_21 (by decide) (by decide) (by decide) rfl ?_
      refine ev_iconst (q := 242) (v := 0) dX1_begin_241 rfl li_0 ?_
      exact ev_iret dX1_begin_242 rfl
    refine ev_ite (fun hc27 => ?_) (fun hc27 => ?_)
    · subst hc27
      refine ev_tsIn (t := 168) (off := 147) dX1_begin_21 (by decide) (by decide) (by decide) rfl ?_
      refine ev_iload_n (q := 169) dX1_begin_168 rfl 4 rfl rfl ?_
      exact ev_iret dX1_begin_169 rfl
    refine ev_ite (fun hc28 => ?_) (fun hc28 => ?_)
    · subst hc28
      refine ev_tsIn (t := 170) (off := 149) dX1_begin_21 (by decide) (by decide) (by decide) rfl ?_
      refine ev_aload_n (q := 171) dX1_begin_170 rfl 1 rfl rfl ?_
      refine ev_bipush (q := 173) (v := 20) dX1_begin_171 rfl lb_20 ?_
      refine ev_aload_n (q := 174) dX1_begin_173 rfl 3 rfl rfl ?_
      refine ev_iload_n (q := 175) dX1_begin_174 rfl 4 rfl rfl ?_
      refine ev_iload (q := 177) dX1_begin_175 0 rfl rfl ?_
      refine ev_callSI (q := 180) dX1_begin_177 rfl ml_X1_21 mt_X1_begin (hrec _ _ _ _ _ hp0 hp2 _) rfl (by omega) (Nat.le_of_ble_eq_true rfl) rfl (Nat.le_of_ble_eq_true rfl) (fun r29 m30 => ?_)
      refine ev_aload_n (q := 181) dX1_begin_180 rfl 3 rfl rfl ?_
      refine ev_iload_n (q := 182) dX1_begin_181 rfl 4 rfl rfl ?_
      refine ev_callVI (q := 185) dX1_begin_182 rfl ml_X1_43 mt_X3_timesReadByAll cf_3 rfl hp2 hc_3 (con_X3_timesReadByAll G _ _ hp2 _) rfl (by omega) (Nat.le_of_ble_eq_true rfl) rfl (Nat.le_of_ble_eq_true rfl) (fun r31 m32 => ?_)
      refine ev_iadd (q := 186) dX1_begin_185 rfl ?_
      exact ev_iret dX1_begin_186 rfl
    refine ev_ite (fun hc33 => ?_) (fun hc33 => ?_)
    · subst hc33
      refine ev_tsIn (t := 187) (off := 166) dX1_begin_21 (by decide) (by decide) (by decide) rfl ?_
      refine ev_aload_n (q := 188) dX1_begin_187 rfl 1 rfl rfl ?_
      refine ev_bipush (q := 190) (v := 21) dX1_begin_188 rfl lb_21 ?_
      refine ev_aload_n (q := 191) dX1_begin_190 rfl 3 rfl rfl ?_
      refine ev_iload_n (q := 192) dX1_begin_191 rfl 4 rfl rfl ?_
      refine ev_iload (q := 194) dX1_begin_192 0 rfl rfl ?_
      refine ev_callSI (q := 197) dX1_begin_194 rfl ml_X1_21 mt_X1_begin (hrec _ _ _ _ _ hp0 hp2 _) rfl (by omega) (Nat.le_of_ble_eq_true rfl) rfl (Nat.le_of_ble_eq_true rfl) (fun r34 m35 => ?_)
      refine ev_sipush (q := 200) (v := 1000) dX1_begin_197 rfl ls_1000 ?_
      refine ev_isub (q := 201) dX1_begin_200 rfl ?_
      exact ev_iret dX1_begin_201 rfl
    refine ev_ite (fun hc36 => ?_) (fun hc36 => ?_)
    · subst hc36
      refine ev_tsIn (t := 202) (off := 181) dX1_begin_21 (by decide) (by decide) (by decide) rfl ?_
      refine ev_aload_n (q := 203) dX1_begin_202 rfl 1 rfl rfl ?_
      refine ev_bipush (q := 205) (v := 20) dX1_begin_203 rfl lb_20 ?_
      refine ev_aload_n (q := 206) dX1_begin_205 rfl 3 rfl rfl ?_
      refine ev_iload_n (q := 207) dX1_begin_206 rfl 4 rfl rfl ?_
      refine ev_iload (q := 209) dX1_begin_207 0 rfl rfl ?_
      refine ev_callSI (q := 212) dX1_begin_209 rfl ml_X1_21 mt_X1_begin (hrec _ _ _ _ _ hp0 hp2 _) rfl (by omega) (Nat.le_of_ble_eq_true rfl) rfl (Nat.le_of_ble_eq_true rfl) (fun r37 m38 => ?_)
      refine ev_aload_n (q := 213) dX1_begin_212 rfl 1 rfl rfl ?_
      refine ev_aload_n (q := 214) dX1_begin_213 rfl 3 rfl rfl ?_
      refine ev_iload_n (q := 215) dX1_begin_214 rfl 4 rfl rfl ?_
      refine ev_iconst (q := 216) (v := 0) dX1_begin_215 rfl li_0 ?_
      refine ev_callSI (q := 219) dX1_begin_216 rfl ml_X1_17 mt_X1_bodyFor (con_X1_bodyFor G _ _ _ hp2 _) rfl (by omega) (Nat.le_of_ble_eq_true rfl) rfl (Nat.le_of_ble_eq_true rfl) (fun r39 m40 => ?_)
      refine ev_aload_n (q := 220) dX1_begin_219 rfl 3 rfl rfl ?_
      refine ev_iload_n (q := 221) dX1_begin_220 rfl 4 rfl rfl ?_
      refine ev_iload (q := 223) dX1_begin_221 0 rfl rfl ?_
      refine ev_callSI (q := 226) dX1_begin_223 rfl ml_X1_21 mt_X1_begin (hrec _ _ _ _ _ hp0 hp2 _) rfl (by omega) (Nat.le_of_ble_eq_true rfl) rfl (Nat.le_of_ble_eq_true rfl) (fun r41 m42 => ?_)
      refine ev_isub (q := 227) dX1_begin_226 rfl ?_
      exact ev_iret dX1_begin_227 rfl
    refine ev_ite (fun hc43 => ?_) (fun hc43 => ?_)
    · subst hc43
      refine ev_tsIn (t := 228) (off := 207) dX1_begin_21 (by decide) (by decide) (by decide) rfl ?_
      refine ev_iconst (q := 229) (v := 2) dX1_begin_228 rfl li_2 ?_
      refine ev_aload_n (q := 230) dX1_begin_229 rfl 1 rfl rfl ?_
      refine ev_bipush (q := 232) (v := 21) dX1_begin_230 rfl lb_21 ?_
      refine ev_aload_n (q := 233) dX1_begin_232 rfl 3 rfl rfl ?_
      refine ev_iload_n (q := 234) dX1_begin_233 rfl 4 rfl rfl ?_
      refine ev_iload (q := 236) dX1_begin_234 0 rfl rfl ?_
      refine ev_callSI (q := 239) dX1_begin_236 rfl ml_X1_21 mt_X1_begin (hrec _ _ _ _ _ hp0 hp2 _) rfl (by omega) (Nat.le_of_ble_eq_true rfl) rfl (Nat.le_of_ble_eq_true rfl) (fun r44 m45 => ?_)
      refine ev_imul (q := 240) dX1_begin_239 rfl ?_
      exact ev_iret dX1_begin_240 rfl
    refine ev_tsOut (t := 241) dX1_begin_21 (by have g0 := lv_neT hc4 (a := 10) (by decide); have g1 := lv_neT hc6 (a := 11) (by decide); have g2 := lv_neT hc13 (a := 12) (by decide); have g3 := lv_neT hc16 (a := 13) (by decide); have g4 := lv_neT hc19 (a := 14) (by decide); have g5 := lv_neT hc22 (a := 15) (by decide); have g6 := lv_neT hc23 (a := 16) (by decide); have g7 := lv_neT hc24 (a := 17) (by decide); have g8 := lv_neT hc25 (a := 18) (by decide); have g9 := lv_neT hc26 (a := 19) (by decide); have g10 := lv_neT hc27 (a := 20) (by decide); have g11 := lv_neT hc28 (a := 21) (by decide); have g12 := lv_neT hc33 (a := 22) (by decide); have g13 := lv_neT hc36 (a := 23) (by decide); have g14 := lv_neT hc43 (a := 24) (by decide); omega) rfl ?_
    refine ev_iconst (q := 242) (v := 0) dX1_begin_241 rfl li_0 ?_
    exact ev_iret dX1_begin_242 rfl
set_option maxRecDepth 100000 in
set_option maxHeartbeats 4000000 in
theorem con_X1_begin (G : Gt) : ∀ (n : Nat) (p0 : Nat) (a1 : Int32) (p2 : Nat) (a3 : Int32) (a4 : Int32) (hp0 : kd p0 = 1) (hp2 : kd p2 = 3) (mem : Mem), Con tvI G yX1_begin cX1_begin 6 (some .int) (2 + n) [.ref (gA G p0), .int a1, .ref (gA G p2), .int a3, .int a4] mem (X1_begin n p0 a1 p2 a3 a4 mem) := by
  intro n
  induction n with
  | zero => intros; intro r m1 h; cases h
  | succ n ih =>
    intro p0 a1 p2 a3 a4 hp0 hp2 mem
    refine con_of (by decide) (Nat.le_of_ble_eq_true rfl) ?_
    exact con_X1_begin_e G p0 p2 hp0 hp2 (X1_begin n) (2 + n + 1) (by omega) ih a1 a3 a4 mem
/-! AgingLetters$Asks.answer(LAgingLetters$Office;II)I -/
theorem dX1_answer_0 : decode cX1_answer 0 = .ok (.aload_n 0, 1) := by decide +kernel
theorem dX1_answer_1 : decode cX1_answer 1 = .ok (.iconst 0, 1) := by decide +kernel
theorem dX1_answer_2 : decode cX1_answer 2 = .ok (.putfield 13, 3) := by decide +kernel
theorem dX1_answer_5 : decode cX1_answer 5 = .ok (.aload_n 0, 1) := by decide +kernel
theorem dX1_answer_6 : decode cX1_answer 6 = .ok (.aload_n 1, 1) := by decide +kernel
theorem dX1_answer_7 : decode cX1_answer 7 = .ok (.iload_n 2, 1) := by decide +kernel
theorem dX1_answer_8 : decode cX1_answer 8 = .ok (.iload_n 3, 1) := by decide +kernel
theorem dX1_answer_9 : decode cX1_answer 9 = .ok (.invokestatic 17, 3) := by decide +kernel
theorem dX1_answer_12 : decode cX1_answer 12 = .ok (.aload_n 1, 1) := by decide +kernel
theorem dX1_answer_13 : decode cX1_answer 13 = .ok (.iload_n 2, 1) := by decide +kernel
theorem dX1_answer_14 : decode cX1_answer 14 = .ok (.iconst 0, 1) := by decide +kernel
theorem dX1_answer_15 : decode cX1_answer 15 = .ok (.invokestatic 21, 3) := by decide +kernel
theorem dX1_answer_18 : decode cX1_answer 18 = .ok (.ireturn, 1) := by decide +kernel
set_option maxRecDepth 100000 in
set_option maxHeartbeats 4000000 in
theorem con_X1_answer (G : Gt) (o : Nat) (p1 : Nat) (a2 : Int32) (a3 : Int32) (ho : kd o = 1) (hp1 : kd p1 = 3) (mem : Mem) : Con tvI G yX1_answer cX1_answer 4 (some .int) 15 [.ref (gA G o), .ref (gA G p1), .int a2, .int a3] mem (X1_answer o p1 a2 a3 mem) := by
  refine con_of (by decide) (Nat.le_of_ble_eq_true rfl) ?_
  show EvR tvI G cX1_answer 4 (some .int) RX1 15 0 [(0, .ref (gA G o)), (1, .ref (gA G p1)), (2, .int (a2)), (3, .int (a3))] [] mem _
  unfold X1_answer
  refine ev_aload_n (q := 1) dX1_answer_0 rfl 0 rfl rfl ?_
  refine ev_iconst (q := 2) (v := 0) dX1_answer_1 rfl li_0 ?_
  refine ev_putI (q := 5) (ci := 1) (j := 1) (T := TX1) dX1_answer_2 rfl cf_1 ho hj_1_1 hc_1 gf_X1_13 rfl rfl (tyX1_ok 1 hj_1_1) ?_
  refine ev_aload_n (q := 6) dX1_answer_5 rfl 0 rfl rfl ?_
  refine ev_aload_n (q := 7) dX1_answer_6 rfl 1 rfl rfl ?_
  refine ev_iload_n (q := 8) dX1_answer_7 rfl 2 rfl rfl ?_
  refine ev_iload_n (q := 9) dX1_answer_8 rfl 3 rfl rfl ?_
  refine ev_callSI (q := 12) dX1_answer_9 rfl ml_X1_17 mt_X1_bodyFor (con_X1_bodyFor G _ _ _ hp1 _) rfl (Nat.le_of_ble_eq_true rfl) (Nat.le_of_ble_eq_true rfl) rfl (Nat.le_of_ble_eq_true rfl) (fun r2 m3 => ?_)
  refine ev_aload_n (q := 13) dX1_answer_12 rfl 1 rfl rfl ?_
  refine ev_iload_n (q := 14) dX1_answer_13 rfl 2 rfl rfl ?_
  refine ev_iconst (q := 15) (v := 0) dX1_answer_14 rfl li_0 ?_
  refine ev_callSI (q := 18) dX1_answer_15 rfl ml_X1_21 mt_X1_begin (con_X1_begin G 12 _ _ _ _ _ ho hp1 _) rfl (Nat.le_of_ble_eq_true rfl) (Nat.le_of_ble_eq_true rfl) rfl (Nat.le_of_ble_eq_true rfl) (fun r4 m5 => ?_)
  exact ev_iret dX1_answer_18 rfl
/-! AgingLetters$Office.isAlive(I)Z -/
theorem dX3_isAlive_0 : decode cX3_isAlive 0 = .ok (.aload_n 0, 1) := by decide +kernel
theorem dX3_isAlive_1 : decode cX3_isAlive 1 = .ok (.getfield 24, 3) := by decide +kernel
theorem dX3_isAlive_4 : decode cX3_isAlive 4 = .ok (.iload_n 1, 1) := by decide +kernel
theorem dX3_isAlive_5 : decode cX3_isAlive 5 = .ok (.iaload, 1) := by decide +kernel
theorem dX3_isAlive_6 : decode cX3_isAlive 6 = .ok (.aload_n 0, 1) := by decide +kernel
theorem dX3_isAlive_7 : decode cX3_isAlive 7 = .ok (.getfield 27, 3) := by decide +kernel
theorem dX3_isAlive_10 : decode cX3_isAlive 10 = .ok (.iload_n 1, 1) := by decide +kernel
theorem dX3_isAlive_11 : decode cX3_isAlive 11 = .ok (.iaload, 1) := by decide +kernel
theorem dX3_isAlive_12 : decode cX3_isAlive 12 = .ok (.if_icmp .ge 7, 3) := by decide +kernel
theorem dX3_isAlive_15 : decode cX3_isAlive 15 = .ok (.iconst 1, 1) := by decide +kernel
theorem dX3_isAlive_16 : decode cX3_isAlive 16 = .ok (.goto 4, 3) := by decide +kernel
theorem dX3_isAlive_19 : decode cX3_isAlive 19 = .ok (.iconst 0, 1) := by decide +kernel
theorem dX3_isAlive_20 : decode cX3_isAlive 20 = .ok (.ireturn, 1) := by decide +kernel
set_option maxRecDepth 100000 in
set_option maxHeartbeats 4000000 in
theorem con_X3_isAlive (G : Gt) (o : Nat) (a1 : Int32) (ho : kd o = 3) (mem : Mem) : Con tvI G yX3_isAlive cX3_isAlive 2 (some .boolean) 1 [.ref (gA G o), .int a1] mem (X3_isAlive o a1 mem) := by
  refine con_of (by decide) (Nat.le_of_ble_eq_true rfl) ?_
  show EvR tvI G cX3_isAlive 2 (some .boolean) RX3 1 0 [(0, .ref (gA G o)), (1, .int (a1))] [] mem _
  unfold X3_isAlive
  refine ev_aload_n (q := 1) dX3_isAlive_0 rfl 0 rfl rfl ?_
  refine ev_getR (q := 4) (ci := 3) (j := 9) (T := TX3) dX3_isAlive_1 rfl cf_3 ho hj_3_9 hc_3 gf_X3_24 rfl ?_
  refine ev_iload_n (q := 5) dX3_isAlive_4 rfl 1 rfl rfl ?_
  refine ev_iald (q := 6) dX3_isAlive_5 rfl (kr_3_9 ho) (fun z1 => ?_)
  refine ev_aload_n (q := 7) dX3_isAlive_6 rfl 0 rfl rfl ?_
  refine ev_getR (q := 10) (ci := 3) (j := 10) (T := TX3) dX3_isAlive_7 rfl cf_3 ho hj_3_10 hc_3 gf_X3_27 rfl ?_
  refine ev_iload_n (q := 11) dX3_isAlive_10 rfl 1 rfl rfl ?_
  refine ev_iald (q := 12) dX3_isAlive_11 rfl (kr_3_10 ho) (fun z2 => ?_)
  refine ev_icmp_ge (t := 19) (q := 15) dX3_isAlive_12 rfl rfl (fun hc3 => ?_) (fun hc3 => ?_)
  · refine ev_iconst (q := 16) (v := 1) dX3_isAlive_15 rfl li_1 ?_
    refine ev_goto (t := 20) dX3_isAlive_16 rfl ?_
    exact ev_zret dX3_isAlive_20 rfl
  · refine ev_iconst (q := 20) (v := 0) dX3_isAlive_19 rfl li_0 ?_
    exact ev_zret dX3_isAlive_20 rfl
/-! AgingLetters$Office.isFit(I)Z -/
theorem dX3_isFit_0 : decode cX3_isFit 0 = .ok (.aload_n 0, 1) := by decide +kernel
theorem dX3_isFit_1 : decode cX3_isFit 1 = .ok (.iload_n 1, 1) := by decide +kernel
theorem dX3_isFit_2 : decode cX3_isFit 2 = .ok (.invokevirtual 65, 3) := by decide +kernel
theorem dX3_isFit_5 : decode cX3_isFit 5 = .ok (.ifCond .eq 20, 3) := by decide +kernel
theorem dX3_isFit_8 : decode cX3_isFit 8 = .ok (.aload_n 0, 1) := by decide +kernel
theorem dX3_isFit_9 : decode cX3_isFit 9 = .ok (.getfield 24, 3) := by decide +kernel
theorem dX3_isFit_12 : decode cX3_isFit 12 = .ok (.iload_n 1, 1) := by decide +kernel
theorem dX3_isFit_13 : decode cX3_isFit 13 = .ok (.iaload, 1) := by decide +kernel
theorem dX3_isFit_14 : decode cX3_isFit 14 = .ok (.aload_n 0, 1) := by decide +kernel
theorem dX3_isFit_15 : decode cX3_isFit 15 = .ok (.getfield 40, 3) := by decide +kernel
theorem dX3_isFit_18 : decode cX3_isFit 18 = .ok (.if_icmp .ge 7, 3) := by decide +kernel
theorem dX3_isFit_21 : decode cX3_isFit 21 = .ok (.iconst 1, 1) := by decide +kernel
theorem dX3_isFit_22 : decode cX3_isFit 22 = .ok (.goto 4, 3) := by decide +kernel
theorem dX3_isFit_25 : decode cX3_isFit 25 = .ok (.iconst 0, 1) := by decide +kernel
theorem dX3_isFit_26 : decode cX3_isFit 26 = .ok (.ireturn, 1) := by decide +kernel
set_option maxRecDepth 100000 in
set_option maxHeartbeats 4000000 in
theorem con_X3_isFit (G : Gt) (o : Nat) (a1 : Int32) (ho : kd o = 3) (mem : Mem) : Con tvI G yX3_isFit cX3_isFit 2 (some .boolean) 2 [.ref (gA G o), .int a1] mem (X3_isFit o a1 mem) := by
  refine con_of (by decide) (Nat.le_of_ble_eq_true rfl) ?_
  show EvR tvI G cX3_isFit 2 (some .boolean) RX3 2 0 [(0, .ref (gA G o)), (1, .int (a1))] [] mem _
  unfold X3_isFit
  refine ev_aload_n (q := 1) dX3_isFit_0 rfl 0 rfl rfl ?_
  refine ev_iload_n (q := 2) dX3_isFit_1 rfl 1 rfl rfl ?_
  refine ev_callVI (q := 5) dX3_isFit_2 rfl ml_X3_65 mt_X3_isAlive cf_3 rfl ho hc_3 (con_X3_isAlive G _ _ ho _) rfl (Nat.le_of_ble_eq_true rfl) (Nat.le_of_ble_eq_true rfl) rfl (Nat.le_of_ble_eq_true rfl) (fun r1 m2 => ?_)
  refine ev_if_eq (t := 25) (q := 8) dX3_isFit_5 rfl rfl (fun hc3 => ?_) (fun hc3 => ?_)
  · refine ev_iconst (q := 26) (v := 0) dX3_isFit_25 rfl li_0 ?_
    exact ev_zret dX3_isFit_26 rfl
  · refine ev_aload_n (q := 9) dX3_isFit_8 rfl 0 rfl rfl ?_
    refine ev_getR (q := 12) (ci := 3) (j := 9) (T := TX3) dX3_isFit_9 rfl cf_3 ho hj_3_9 hc_3 gf_X3_24 rfl ?_
    refine ev_iload_n (q := 13) dX3_isFit_12 rfl 1 rfl rfl ?_
    refine ev_iald (q := 14) dX3_isFit_13 rfl (kr_3_9 ho) (fun z4 => ?_)
    refine ev_aload_n (q := 15) dX3_isFit_14 rfl 0 rfl rfl ?_
    refine ev_getI (q := 18) (ci := 3) (j := 1) (T := TX3) dX3_isFit_15 rfl cf_3 ho hj_3_1 hc_3 gf_X3_40 rfl ?_
    refine ev_icmp_ge (t := 25) (q := 21) dX3_isFit_18 rfl rfl (fun hc5 => ?_) (fun hc5 => ?_)
    · refine ev_iconst (q := 22) (v := 1) dX3_isFit_21 rfl li_1 ?_
      refine ev_goto (t := 26) dX3_isFit_22 rfl ?_
      exact ev_zret dX3_isFit_26 rfl
    · refine ev_iconst (q := 26) (v := 0) dX3_isFit_25 rfl li_0 ?_
      exact ev_zret dX3_isFit_26 rfl
/-! AgingLetters$Foretold.bestReader(LAgingLetters$Office;I)I -/
theorem dX2_bestReader_0 : decode cX2_bestReader 0 = .ok (.ldc 21, 2) := by decide +kernel
theorem dX2_bestReader_2 : decode cX2_bestReader 2 = .ok (.istore_n 3, 1) := by decide +kernel
theorem dX2_bestReader_3 : decode cX2_bestReader 3 = .ok (.iconst 0, 1) := by decide +kernel
theorem dX2_bestReader_4 : decode cX2_bestReader 4 = .ok (.istore 4, 2) := by decide +kernel
theorem dX2_bestReader_6 : decode cX2_bestReader 6 = .ok (.iconst 0, 1) := by decide +kernel
theorem dX2_bestReader_7 : decode cX2_bestReader 7 = .ok (.istore 5, 2) := by decide +kernel
theorem dX2_bestReader_9 : decode cX2_bestReader 9 = .ok (.iload 5, 2) := by decide +kernel
theorem dX2_bestReader_11 : decode cX2_bestReader 11 = .ok (.aload_n 1, 1) := by decide +kernel
theorem dX2_bestReader_12 : decode cX2_bestReader 12 = .ok (.getfield 22, 3) := by decide +kernel
theorem dX2_bestReader_15 : decode cX2_bestReader 15 = .ok (.if_icmp .ge 57, 3) := by decide +kernel
theorem dX2_bestReader_18 : decode cX2_bestReader 18 = .ok (.aload_n 1, 1) := by decide +kernel
theorem dX2_bestReader_19 : decode cX2_bestReader 19 = .ok (.getfield 28, 3) := by decide +kernel
theorem dX2_bestReader_22 : decode cX2_bestReader 22 = .ok (.iload 5, 2) := by decide +kernel
theorem dX2_bestReader_24 : decode cX2_bestReader 24 = .ok (.iaload, 1) := by decide +kernel
theorem dX2_bestReader_25 : decode cX2_bestReader 25 = .ok (.aload_n 1, 1) := by decide +kernel
theorem dX2_bestReader_26 : decode cX2_bestReader 26 = .ok (.getfield 31, 3) := by decide +kernel
theorem dX2_bestReader_29 : decode cX2_bestReader 29 = .ok (.iload 5, 2) := by decide +kernel
theorem dX2_bestReader_31 : decode cX2_bestReader 31 = .ok (.iaload, 1) := by decide +kernel
theorem dX2_bestReader_32 : decode cX2_bestReader 32 = .ok (.isub, 1) := by decide +kernel
theorem dX2_bestReader_33 : decode cX2_bestReader 33 = .ok (.aload_n 1, 1) := by decide +kernel
theorem dX2_bestReader_34 : decode cX2_bestReader 34 = .ok (.iload 5, 2) := by decide +kernel
theorem dX2_bestReader_36 : decode cX2_bestReader 36 = .ok (.iload_n 2, 1) := by decide +kernel
theorem dX2_bestReader_37 : decode cX2_bestReader 37 = .ok (.invokevirtual 34, 3) := by decide +kernel
theorem dX2_bestReader_40 : decode cX2_bestReader 40 = .ok (.isub, 1) := by decide +kernel
theorem dX2_bestReader_41 : decode cX2_bestReader 41 = .ok (.istore 6, 2) := by decide +kernel
theorem dX2_bestReader_43 : decode cX2_bestReader 43 = .ok (.aload_n 1, 1) := by decide +kernel
theorem dX2_bestReader_44 : decode cX2_bestReader 44 = .ok (.iload 5, 2) := by decide +kernel
theorem dX2_bestReader_46 : decode cX2_bestReader 46 = .ok (.invokevirtual 38, 3) := by decide +kernel
theorem dX2_bestReader_49 : decode cX2_bestReader 49 = .ok (.ifCond .eq 17, 3) := by decide +kernel
theorem dX2_bestReader_52 : decode cX2_bestReader 52 = .ok (.iload 6, 2) := by decide +kernel
theorem dX2_bestReader_54 : decode cX2_bestReader 54 = .ok (.iload 4, 2) := by decide +kernel
theorem dX2_bestReader_56 : decode cX2_bestReader 56 = .ok (.if_icmp .le 10, 3) := by decide +kernel
theorem dX2_bestReader_59 : decode cX2_bestReader 59 = .ok (.iload 5, 2) := by decide +kernel
theorem dX2_bestReader_61 : decode cX2_bestReader 61 = .ok (.istore_n 3, 1) := by decide +kernel
theorem dX2_bestReader_62 : decode cX2_bestReader 62 = .ok (.iload 6, 2) := by decide +kernel
theorem dX2_bestReader_64 : decode cX2_bestReader 64 = .ok (.istore 4, 2) := by decide +kernel
theorem dX2_bestReader_66 : decode cX2_bestReader 66 = .ok (.iinc 5 1, 3) := by decide +kernel
theorem dX2_bestReader_69 : decode cX2_bestReader 69 = .ok (.goto (-60), 3) := by decide +kernel
theorem dX2_bestReader_72 : decode cX2_bestReader 72 = .ok (.iload_n 3, 1) := by decide +kernel
theorem dX2_bestReader_73 : decode cX2_bestReader 73 = .ok (.ireturn, 1) := by decide +kernel
set_option maxRecDepth 100000 in
set_option maxHeartbeats 4000000 in
theorem X2_bestReader_b66_ok (G : Gt) (o : Nat) (p1 : Nat) (ho : kd o = 2) (hp1 : kd p1 = 3)   (k9 : Int32 → Int32 → Int32 → Int32 → Mem → Option (Int32 × Mem)) (hk9 : ∀ (x2 : Int32) (x3 : Int32) (x4 : Int32) (x5 : Int32) (mem : Mem), EvR tvI G cX2_bestReader 7 (some .int) RX2 5 9 [(1, .ref (gA G p1)), (2, .int (x2)), (3, .int (x3)), (4, .int (x4)), (5, .int (x5))] [] mem (k9 x2 x3 x4 x5 mem)) (x2 : Int32) (x3 : Int32) (x4 : Int32) (x5 : Int32) (mem : Mem) : EvR tvI G cX2_bestReader 7 (some .int) RX2 5 66 [(1, .ref (gA G p1)), (2, .int (x2)), (3, .int (x3)), (4, .int (x4)), (5, .int (x5))] [] mem (X2_bestReader_b66 o p1 k9 x2 x3 x4 x5 mem) := by
  unfold X2_bestReader_b66
  refine ev_iinc (q := 69) (lv2 := [(5, .int _), (1, .ref _), (2, .int _), (3, .int _), (4, .int _)]) (v := x5 + 1) dX2_bestReader_66 4 rfl rfl (congrArg (HAdd.hAdd _) li_1) (Nat.le_of_ble_eq_true rfl) rfl ?_
  refine ev_goto (t := 9) dX2_bestReader_69 rfl ?_
  refine ev_sub (lv' := [(1, .ref _), (2, .int _), (3, .int _), (4, .int _), (5, .int _)]) [1, 2, 3, 4, 0] rfl ?_
  exact hk9 _ _ _ _ _
set_option maxRecDepth 100000 in
set_option maxHeartbeats 4000000 in
theorem X2_bestReader_b9_ok (G : Gt) (o : Nat) (p1 : Nat) (ho : kd o = 2) (hp1 : kd p1 = 3)    : ∀ (n : Nat) (x2 : Int32) (x3 : Int32) (x4 : Int32) (x5 : Int32) (mem : Mem), EvR tvI G cX2_bestReader 7 (some .int) RX2 5 9 [(1, .ref (gA G p1)), (2, .int (x2)), (3, .int (x3)), (4, .int (x4)), (5, .int (x5))] [] mem (X2_bestReader_b9 o p1 n x2 x3 x4 x5 mem) := by
  intro n
  induction n with
  | zero => intros; exact ev_none
  | succ n ih =>
    intro x2 x3 x4 x5 mem
    rw [X2_bestReader_b9]
    refine ev_iload (q := 11) dX2_bestReader_9 4 rfl rfl ?_
    refine ev_aload_n (q := 12) dX2_bestReader_11 rfl 0 rfl rfl ?_
    refine ev_getI (q := 15) (ci := 3) (j := 7) (T := TX3) dX2_bestReader_12 rfl cf_3 hp1 hj_3_7 hc_3 gf_X2_22 rfl ?_
    refine ev_icmp_ge (t := 72) (q := 18) dX2_bestReader_15 rfl rfl (fun hc1 => ?_) (fun hc1 => ?_)
    · refine ev_aload_n (q := 19) dX2_bestReader_18 rfl 0 rfl rfl ?_
      refine ev_getR (q := 22) (ci := 3) (j := 10) (T := TX3) dX2_bestReader_19 rfl cf_3 hp1 hj_3_10 hc_3 gf_X2_28 rfl ?_
      refine ev_iload (q := 24) dX2_bestReader_22 4 rfl rfl ?_
      refine ev_iald (q := 25) dX2_bestReader_24 rfl (kr_3_10 hp1) (fun z2 => ?_)
      refine ev_aload_n (q := 26) dX2_bestReader_25 rfl 0 rfl rfl ?_
      refine ev_getR (q := 29) (ci := 3) (j := 9) (T := TX3) dX2_bestReader_26 rfl cf_3 hp1 hj_3_9 hc_3 gf_X2_31 rfl ?_
      refine ev_iload (q := 31) dX2_bestReader_29 4 rfl rfl ?_
      refine ev_iald (q := 32) dX2_bestReader_31 rfl (kr_3_9 hp1) (fun z3 => ?_)
      refine ev_isub (q := 33) dX2_bestReader_32 rfl ?_
      refine ev_aload_n (q := 34) dX2_bestReader_33 rfl 0 rfl rfl ?_
      refine ev_iload (q := 36) dX2_bestReader_34 4 rfl rfl ?_
      refine ev_iload_n (q := 37) dX2_bestReader_36 rfl 1 rfl rfl ?_
      refine ev_callVI (q := 40) dX2_bestReader_37 rfl ml_X2_34 mt_X3_costFor cf_3 rfl hp1 hc_3 (con_X3_costFor G _ _ _ hp1 _) rfl (Nat.le_of_ble_eq_true rfl) (Nat.le_of_ble_eq_true rfl) rfl (Nat.le_of_ble_eq_true rfl) (fun r4 m5 => ?_)
      refine ev_isub (q := 41) dX2_bestReader_40 rfl ?_
      refine ev_istore (q := 43) (lv2 := [(6, .int _), (1, .ref _), (2, .int _), (3, .int _), (4, .int _), (5, .int _)]) dX2_bestReader_41 rfl (Nat.le_of_ble_eq_true rfl) rfl ?_
      refine ev_aload_n (q := 44) dX2_bestReader_43 rfl 1 rfl rfl ?_
      refine ev_iload (q := 46) dX2_bestReader_44 5 rfl rfl ?_
      refine ev_callVI (q := 49) dX2_bestReader_46 rfl ml_X2_38 mt_X3_isFit cf_3 rfl hp1 hc_3 (con_X3_isFit G _ _ hp1 _) rfl (Nat.le_of_ble_eq_true rfl) (Nat.le_of_ble_eq_true rfl) rfl (Nat.le_of_ble_eq_true rfl) (fun r6 m7 => ?_)
      refine ev_if_eq (t := 66) (q := 52) dX2_bestReader_49 rfl rfl (fun hc8 => ?_) (fun hc8 => ?_)
      · refine ev_sub (lv' := [(1, .ref _), (2, .int _), (3, .int _), (4, .int _), (5, .int _)]) [1, 2, 3, 4, 5] rfl ?_
        exact X2_bestReader_b66_ok G o p1 ho hp1  (X2_bestReader_b9 o p1 n) ih _ _ _ _ _
      · refine ev_iload (q := 54) dX2_bestReader_52 0 rfl rfl ?_
        refine ev_iload (q := 56) dX2_bestReader_54 4 rfl rfl ?_
        refine ev_icmp_le (t := 66) (q := 59) dX2_bestReader_56 rfl rfl (fun hc9 => ?_) (fun hc9 => ?_)
        · refine ev_iload (q := 61) dX2_bestReader_59 5 rfl rfl ?_
          refine ev_istore_n (q := 62) (lv2 := [(3, .int _), (6, .int _), (1, .ref _), (2, .int _), (4, .int _), (5, .int _)]) dX2_bestReader_61 rfl rfl (Nat.le_of_ble_eq_true rfl) rfl ?_
          refine ev_iload (q := 64) dX2_bestReader_62 1 rfl rfl ?_
          refine ev_istore (q := 66) (lv2 := [(4, .int _), (3, .int _), (6, .int _), (1, .ref _), (2, .int _), (5, .int _)]) dX2_bestReader_64 rfl (Nat.le_of_ble_eq_true rfl) rfl ?_
          refine ev_sub (lv' := [(1, .ref _), (2, .int _), (3, .int _), (4, .int _), (5, .int _)]) [3, 4, 1, 0, 5] rfl ?_
          exact X2_bestReader_b66_ok G o p1 ho hp1  (X2_bestReader_b9 o p1 n) ih _ _ _ _ _
        · refine ev_sub (lv' := [(1, .ref _), (2, .int _), (3, .int _), (4, .int _), (5, .int _)]) [1, 2, 3, 4, 5] rfl ?_
          exact X2_bestReader_b66_ok G o p1 ho hp1  (X2_bestReader_b9 o p1 n) ih _ _ _ _ _
    · refine ev_iload_n (q := 73) dX2_bestReader_72 rfl 2 rfl rfl ?_
      exact ev_iret dX2_bestReader_73 rfl
set_option maxRecDepth 100000 in
set_option maxHeartbeats 4000000 in
theorem con_X2_bestReader (G : Gt) (o : Nat) (p1 : Nat) (a2 : Int32) (ho : kd o = 2) (hp1 : kd p1 = 3) (mem : Mem) : Con tvI G yX2_bestReader cX2_bestReader 7 (some .int) 5 [.ref (gA G o), .ref (gA G p1), .int a2] mem (X2_bestReader o p1 a2 mem) := by
  refine con_of (by decide) (Nat.le_of_ble_eq_true rfl) ?_
  show EvR tvI G cX2_bestReader 7 (some .int) RX2 5 0 [(0, .ref (gA G o)), (1, .ref (gA G p1)), (2, .int (a2))] [] mem _
  unfold X2_bestReader
  refine ev_ldc (q := 2) (v := (-1000000)) dX2_bestReader_0 rfl kc_X2_21 ?_
  refine ev_istore_n (q := 3) (lv2 := [(3, .int _), (0, .ref _), (1, .ref _), (2, .int _)]) dX2_bestReader_2 rfl rfl (Nat.le_of_ble_eq_true rfl) rfl ?_
  refine ev_iconst (q := 4) (v := 0) dX2_bestReader_3 rfl li_0 ?_
  refine ev_istore (q := 6) (lv2 := [(4, .int _), (3, .int _), (0, .ref _), (1, .ref _), (2, .int _)]) dX2_bestReader_4 rfl (Nat.le_of_ble_eq_true rfl) rfl ?_
  refine ev_iconst (q := 7) (v := 0) dX2_bestReader_6 rfl li_0 ?_
  refine ev_istore (q := 9) (lv2 := [(5, .int _), (4, .int _), (3, .int _), (0, .ref _), (1, .ref _), (2, .int _)]) dX2_bestReader_7 rfl (Nat.le_of_ble_eq_true rfl) rfl ?_
  refine ev_sub (lv' := [(1, .ref _), (2, .int _), (3, .int _), (4, .int _), (5, .int _)]) [4, 5, 2, 1, 0] rfl ?_
  exact X2_bestReader_b9_ok G o p1 ho hp1   fu _ _ _ _ _
