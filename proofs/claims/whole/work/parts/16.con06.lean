/-! AgingLettersModel.cross(II)I -/
theorem dX7_cross_0 : decode cX7_cross 0 = .ok (.aload_n 0, 1) := by decide +kernel
theorem dX7_cross_1 : decode cX7_cross 1 = .ok (.iload_n 1, 1) := by decide +kernel
theorem dX7_cross_2 : decode cX7_cross 2 = .ok (.invokevirtual 183, 3) := by decide +kernel
theorem dX7_cross_5 : decode cX7_cross 5 = .ok (.ifCond .eq 15, 3) := by decide +kernel
theorem dX7_cross_8 : decode cX7_cross 8 = .ok (.iload_n 2, 1) := by decide +kernel
theorem dX7_cross_9 : decode cX7_cross 9 = .ok (.i2l, 1) := by decide +kernel
theorem dX7_cross_10 : decode cX7_cross 10 = .ok (.lconst 1, 1) := by decide +kernel
theorem dX7_cross_11 : decode cX7_cross 11 = .ok (.ldc2_w 206, 3) := by decide +kernel
theorem dX7_cross_14 : decode cX7_cross 14 = .ok (.invokestatic 63, 3) := by decide +kernel
theorem dX7_cross_17 : decode cX7_cross 17 = .ok (.ifCond .ne 6, 3) := by decide +kernel
theorem dX7_cross_20 : decode cX7_cross 20 = .ok (.ldc 73, 2) := by decide +kernel
theorem dX7_cross_22 : decode cX7_cross 22 = .ok (.ireturn, 1) := by decide +kernel
theorem dX7_cross_23 : decode cX7_cross 23 = .ok (.aload_n 0, 1) := by decide +kernel
theorem dX7_cross_24 : decode cX7_cross 24 = .ok (.getfield 22, 3) := by decide +kernel
theorem dX7_cross_27 : decode cX7_cross 27 = .ok (.bipush 11, 2) := by decide +kernel
theorem dX7_cross_29 : decode cX7_cross 29 = .ok (.iload_n 1, 1) := by decide +kernel
theorem dX7_cross_30 : decode cX7_cross 30 = .ok (.iadd, 1) := by decide +kernel
theorem dX7_cross_31 : decode cX7_cross 31 = .ok (.iaload, 1) := by decide +kernel
theorem dX7_cross_32 : decode cX7_cross 32 = .ok (.iload_n 2, 1) := by decide +kernel
theorem dX7_cross_33 : decode cX7_cross 33 = .ok (.if_icmp .gt 6, 3) := by decide +kernel
theorem dX7_cross_36 : decode cX7_cross 36 = .ok (.ldc 189, 2) := by decide +kernel
theorem dX7_cross_38 : decode cX7_cross 38 = .ok (.ireturn, 1) := by decide +kernel
theorem dX7_cross_39 : decode cX7_cross 39 = .ok (.aload_n 0, 1) := by decide +kernel
theorem dX7_cross_40 : decode cX7_cross 40 = .ok (.invokevirtual 190, 3) := by decide +kernel
theorem dX7_cross_43 : decode cX7_cross 43 = .ok (.aload_n 0, 1) := by decide +kernel
theorem dX7_cross_44 : decode cX7_cross 44 = .ok (.getfield 22, 3) := by decide +kernel
theorem dX7_cross_47 : decode cX7_cross 47 = .ok (.bipush 11, 2) := by decide +kernel
theorem dX7_cross_49 : decode cX7_cross 49 = .ok (.iload_n 1, 1) := by decide +kernel
theorem dX7_cross_50 : decode cX7_cross 50 = .ok (.iadd, 1) := by decide +kernel
theorem dX7_cross_51 : decode cX7_cross 51 = .ok (.dup2, 1) := by decide +kernel
theorem dX7_cross_52 : decode cX7_cross 52 = .ok (.iaload, 1) := by decide +kernel
theorem dX7_cross_53 : decode cX7_cross 53 = .ok (.iload_n 2, 1) := by decide +kernel
theorem dX7_cross_54 : decode cX7_cross 54 = .ok (.isub, 1) := by decide +kernel
theorem dX7_cross_55 : decode cX7_cross 55 = .ok (.iastore, 1) := by decide +kernel
theorem dX7_cross_56 : decode cX7_cross 56 = .ok (.aload_n 0, 1) := by decide +kernel
theorem dX7_cross_57 : decode cX7_cross 57 = .ok (.getfield 22, 3) := by decide +kernel
theorem dX7_cross_60 : decode cX7_cross 60 = .ok (.bipush 11, 2) := by decide +kernel
theorem dX7_cross_62 : decode cX7_cross 62 = .ok (.iload_n 1, 1) := by decide +kernel
theorem dX7_cross_63 : decode cX7_cross 63 = .ok (.iadd, 1) := by decide +kernel
theorem dX7_cross_64 : decode cX7_cross 64 = .ok (.iaload, 1) := by decide +kernel
theorem dX7_cross_65 : decode cX7_cross 65 = .ok (.ireturn, 1) := by decide +kernel
set_option maxRecDepth 100000 in
set_option maxHeartbeats 4000000 in
theorem con_X7_cross (G : Gt) (o : Nat) (a1 : Int32) (a2 : Int32) (ho : kd o = 7) (mem : Mem) : Con tvI G yX7_cross cX7_cross 3 (some .int) 3 [.ref (gA G o), .int a1, .int a2] mem (X7_cross o a1 a2 mem) := by
  refine con_of (by decide) (Nat.le_of_ble_eq_true rfl) ?_
  show EvR tvI G cX7_cross 3 (some .int) RX7 3 0 [(0, .ref (gA G o)), (1, .int (a1)), (2, .int (a2))] [] mem _
  unfold X7_cross
  refine ev_aload_n (q := 1) dX7_cross_0 rfl 0 rfl rfl ?_
  refine ev_iload_n (q := 2) dX7_cross_1 rfl 1 rfl rfl ?_
  refine ev_callVI (q := 5) dX7_cross_2 rfl ml_X7_183 mt_X7_isLetter cf_7 rfl ho hc_7 (con_X7_isLetter G _ _ ho _) rfl (Nat.le_of_ble_eq_true rfl) (Nat.le_of_ble_eq_true rfl) rfl (Nat.le_of_ble_eq_true rfl) (fun r1 m2 => ?_)
  refine ev_if_eq (t := 20) (q := 8) dX7_cross_5 rfl rfl (fun hc3 => ?_) (fun hc3 => ?_)
  · refine ev_ldc (q := 22) (v := (-1000001)) dX7_cross_20 rfl kc_X7_73 ?_
    exact ev_iret dX7_cross_22 rfl
  · refine ev_iload_n (q := 9) dX7_cross_8 rfl 2 rfl rfl ?_
    refine ev_i2l (q := 10) dX7_cross_9 rfl ?_
    refine ev_lconst (q := 11) (v := 1) dX7_cross_10 rfl ll_1 ?_
    refine ev_ldc2 (q := 14) (v := 39) dX7_cross_11 rfl kc_X7_206 ?_
    refine ev_callSI (q := 17) dX7_cross_14 rfl ml_X7_63 mt_X7_in (con_X7_in G _ _ _  _) rfl (Nat.le_of_ble_eq_true rfl) (Nat.le_of_ble_eq_true rfl) rfl (Nat.le_of_ble_eq_true rfl) (fun r4 m5 => ?_)
    refine ev_if_ne (t := 23) (q := 20) dX7_cross_17 rfl rfl (fun hc6 => ?_) (fun hc6 => ?_)
    · refine ev_ldc (q := 22) (v := (-1000001)) dX7_cross_20 rfl kc_X7_73 ?_
      exact ev_iret dX7_cross_22 rfl
    · refine ev_aload_n (q := 24) dX7_cross_23 rfl 0 rfl rfl ?_
      refine ev_getR (q := 27) (ci := 7) (j := 5) (T := TX7) dX7_cross_24 rfl cf_7 ho hj_7_5 hc_7 gf_X7_22 rfl ?_
      refine ev_bipush (q := 29) (v := 11) dX7_cross_27 rfl lb_11 ?_
      refine ev_iload_n (q := 30) dX7_cross_29 rfl 1 rfl rfl ?_
      refine ev_iadd (q := 31) dX7_cross_30 rfl ?_
      refine ev_iald (q := 32) dX7_cross_31 rfl (kr_7_5 ho) (fun z7 => ?_)
      refine ev_iload_n (q := 33) dX7_cross_32 rfl 2 rfl rfl ?_
      refine ev_icmp_gt (t := 39) (q := 36) dX7_cross_33 rfl rfl (fun hc8 => ?_) (fun hc8 => ?_)
      · refine ev_aload_n (q := 40) dX7_cross_39 rfl 0 rfl rfl ?_
        refine ev_callVU (q := 43) dX7_cross_40 rfl ml_X7_190 mt_X7_remember cf_7 rfl ho hc_7 (con_X7_remember G _ ho _) rfl (Nat.le_of_ble_eq_true rfl) (Nat.le_of_ble_eq_true rfl) rfl (Nat.le_of_ble_eq_true rfl) (fun r9 m10 => ?_)
        refine ev_aload_n (q := 44) dX7_cross_43 rfl 0 rfl rfl ?_
        refine ev_getR (q := 47) (ci := 7) (j := 5) (T := TX7) dX7_cross_44 rfl cf_7 ho hj_7_5 hc_7 gf_X7_22 rfl ?_
        refine ev_bipush (q := 49) (v := 11) dX7_cross_47 rfl lb_11 ?_
        refine ev_iload_n (q := 50) dX7_cross_49 rfl 1 rfl rfl ?_
        refine ev_iadd (q := 51) dX7_cross_50 rfl ?_
        refine ev_dup2_11 (q := 52) dX7_cross_51 rfl rfl rfl ?_
        refine ev_iald (q := 53) dX7_cross_52 rfl (kr_7_5 ho) (fun z11 => ?_)
        refine ev_iload_n (q := 54) dX7_cross_53 rfl 2 rfl rfl ?_
        refine ev_isub (q := 55) dX7_cross_54 rfl ?_
        refine ev_iast (q := 56) dX7_cross_55 rfl (kr_7_5 ho) (fun m12 => ?_)
        refine ev_aload_n (q := 57) dX7_cross_56 rfl 0 rfl rfl ?_
        refine ev_getR (q := 60) (ci := 7) (j := 5) (T := TX7) dX7_cross_57 rfl cf_7 ho hj_7_5 hc_7 gf_X7_22 rfl ?_
        refine ev_bipush (q := 62) (v := 11) dX7_cross_60 rfl lb_11 ?_
        refine ev_iload_n (q := 63) dX7_cross_62 rfl 1 rfl rfl ?_
        refine ev_iadd (q := 64) dX7_cross_63 rfl ?_
        refine ev_iald (q := 65) dX7_cross_64 rfl (kr_7_5 ho) (fun z13 => ?_)
        exact ev_iret dX7_cross_65 rfl
      · refine ev_ldc (q := 38) (v := (-1000002)) dX7_cross_36 rfl kc_X7_189 ?_
        exact ev_iret dX7_cross_38 rfl
/-! AgingLettersModel.day()I -/
theorem dX7_day_0 : decode cX7_day 0 = .ok (.aload_n 0, 1) := by decide +kernel
theorem dX7_day_1 : decode cX7_day 1 = .ok (.getfield 22, 3) := by decide +kernel
theorem dX7_day_4 : decode cX7_day 4 = .ok (.iconst 0, 1) := by decide +kernel
theorem dX7_day_5 : decode cX7_day 5 = .ok (.iaload, 1) := by decide +kernel
theorem dX7_day_6 : decode cX7_day 6 = .ok (.ifCond .ne 6, 3) := by decide +kernel
theorem dX7_day_9 : decode cX7_day 9 = .ok (.ldc 189, 2) := by decide +kernel
theorem dX7_day_11 : decode cX7_day 11 = .ok (.ireturn, 1) := by decide +kernel
theorem dX7_day_12 : decode cX7_day 12 = .ok (.aload_n 0, 1) := by decide +kernel
theorem dX7_day_13 : decode cX7_day 13 = .ok (.getfield 22, 3) := by decide +kernel
theorem dX7_day_16 : decode cX7_day 16 = .ok (.iconst 4, 1) := by decide +kernel
theorem dX7_day_17 : decode cX7_day 17 = .ok (.iaload, 1) := by decide +kernel
theorem dX7_day_18 : decode cX7_day 18 = .ok (.sipush 999, 3) := by decide +kernel
theorem dX7_day_21 : decode cX7_day 21 = .ok (.if_icmp .ne 6, 3) := by decide +kernel
theorem dX7_day_24 : decode cX7_day 24 = .ok (.ldc 122, 2) := by decide +kernel
theorem dX7_day_26 : decode cX7_day 26 = .ok (.ireturn, 1) := by decide +kernel
theorem dX7_day_27 : decode cX7_day 27 = .ok (.aload_n 0, 1) := by decide +kernel
theorem dX7_day_28 : decode cX7_day 28 = .ok (.invokevirtual 190, 3) := by decide +kernel
theorem dX7_day_31 : decode cX7_day 31 = .ok (.aload_n 0, 1) := by decide +kernel
theorem dX7_day_32 : decode cX7_day 32 = .ok (.getfield 22, 3) := by decide +kernel
theorem dX7_day_35 : decode cX7_day 35 = .ok (.iconst 4, 1) := by decide +kernel
theorem dX7_day_36 : decode cX7_day 36 = .ok (.dup2, 1) := by decide +kernel
theorem dX7_day_37 : decode cX7_day 37 = .ok (.iaload, 1) := by decide +kernel
theorem dX7_day_38 : decode cX7_day 38 = .ok (.iconst 1, 1) := by decide +kernel
theorem dX7_day_39 : decode cX7_day 39 = .ok (.iadd, 1) := by decide +kernel
theorem dX7_day_40 : decode cX7_day 40 = .ok (.iastore, 1) := by decide +kernel
theorem dX7_day_41 : decode cX7_day 41 = .ok (.iconst 0, 1) := by decide +kernel
theorem dX7_day_42 : decode cX7_day 42 = .ok (.istore_n 1, 1) := by decide +kernel
theorem dX7_day_43 : decode cX7_day 43 = .ok (.iload_n 1, 1) := by decide +kernel
theorem dX7_day_44 : decode cX7_day 44 = .ok (.aload_n 0, 1) := by decide +kernel
theorem dX7_day_45 : decode cX7_day 45 = .ok (.invokevirtual 89, 3) := by decide +kernel
theorem dX7_day_48 : decode cX7_day 48 = .ok (.if_icmp .ge 22, 3) := by decide +kernel
theorem dX7_day_51 : decode cX7_day 51 = .ok (.aload_n 0, 1) := by decide +kernel
theorem dX7_day_52 : decode cX7_day 52 = .ok (.getfield 22, 3) := by decide +kernel
theorem dX7_day_55 : decode cX7_day 55 = .ok (.bipush 31, 2) := by decide +kernel
theorem dX7_day_57 : decode cX7_day 57 = .ok (.iload_n 1, 1) := by decide +kernel
theorem dX7_day_58 : decode cX7_day 58 = .ok (.iadd, 1) := by decide +kernel
theorem dX7_day_59 : decode cX7_day 59 = .ok (.dup2, 1) := by decide +kernel
theorem dX7_day_60 : decode cX7_day 60 = .ok (.iaload, 1) := by decide +kernel
theorem dX7_day_61 : decode cX7_day 61 = .ok (.iconst 1, 1) := by decide +kernel
theorem dX7_day_62 : decode cX7_day 62 = .ok (.iadd, 1) := by decide +kernel
theorem dX7_day_63 : decode cX7_day 63 = .ok (.iastore, 1) := by decide +kernel
theorem dX7_day_64 : decode cX7_day 64 = .ok (.iinc 1 1, 3) := by decide +kernel
theorem dX7_day_67 : decode cX7_day 67 = .ok (.goto (-24), 3) := by decide +kernel
theorem dX7_day_70 : decode cX7_day 70 = .ok (.aload_n 0, 1) := by decide +kernel
theorem dX7_day_71 : decode cX7_day 71 = .ok (.getfield 22, 3) := by decide +kernel
theorem dX7_day_74 : decode cX7_day 74 = .ok (.iconst 4, 1) := by decide +kernel
theorem dX7_day_75 : decode cX7_day 75 = .ok (.iaload, 1) := by decide +kernel
theorem dX7_day_76 : decode cX7_day 76 = .ok (.ireturn, 1) := by decide +kernel
set_option maxRecDepth 100000 in
set_option maxHeartbeats 4000000 in
theorem X7_day_b43_ok (G : Gt) (o : Nat) (ho : kd o = 7)    : ∀ (n : Nat) (x1 : Int32) (mem : Mem), EvR tvI G cX7_day 2 (some .int) RX7 3 43 [(0, .ref (gA G o)), (1, .int (x1))] [] mem (X7_day_b43 o n x1 mem) := by
  intro n
  induction n with
  | zero => intros; exact ev_none
  | succ n ih =>
    intro x1 mem
    rw [X7_day_b43]
    refine ev_iload_n (q := 44) dX7_day_43 rfl 1 rfl rfl ?_
    refine ev_aload_n (q := 45) dX7_day_44 rfl 0 rfl rfl ?_
    refine ev_callVI (q := 48) dX7_day_45 rfl ml_X7_89 mt_X7_readers cf_7 rfl ho hc_7 (con_X7_readers G _ ho _) rfl (Nat.le_of_ble_eq_true rfl) (Nat.le_of_ble_eq_true rfl) rfl (Nat.le_of_ble_eq_true rfl) (fun r9 m10 => ?_)
    refine ev_icmp_ge (t := 70) (q := 51) dX7_day_48 rfl rfl (fun hc11 => ?_) (fun hc11 => ?_)
    · refine ev_aload_n (q := 52) dX7_day_51 rfl 0 rfl rfl ?_
      refine ev_getR (q := 55) (ci := 7) (j := 5) (T := TX7) dX7_day_52 rfl cf_7 ho hj_7_5 hc_7 gf_X7_22 rfl ?_
      refine ev_bipush (q := 57) (v := 31) dX7_day_55 rfl lb_31 ?_
      refine ev_iload_n (q := 58) dX7_day_57 rfl 1 rfl rfl ?_
      refine ev_iadd (q := 59) dX7_day_58 rfl ?_
      refine ev_dup2_11 (q := 60) dX7_day_59 rfl rfl rfl ?_
      refine ev_iald (q := 61) dX7_day_60 rfl (kr_7_5 ho) (fun z13 => ?_)
      refine ev_iconst (q := 62) (v := 1) dX7_day_61 rfl li_1 ?_
      refine ev_iadd (q := 63) dX7_day_62 rfl ?_
      refine ev_iast (q := 64) dX7_day_63 rfl (kr_7_5 ho) (fun m14 => ?_)
      refine ev_iinc (q := 67) (lv2 := [(1, .int _), (0, .ref _)]) (v := x1 + 1) dX7_day_64 1 rfl rfl (congrArg (HAdd.hAdd _) li_1) (Nat.le_of_ble_eq_true rfl) rfl ?_
      refine ev_goto (t := 43) dX7_day_67 rfl ?_
      refine ev_sub (lv' := [(0, .ref _), (1, .int _)]) [1, 0] rfl ?_
      exact ih _ _
    · refine ev_aload_n (q := 71) dX7_day_70 rfl 0 rfl rfl ?_
      refine ev_getR (q := 74) (ci := 7) (j := 5) (T := TX7) dX7_day_71 rfl cf_7 ho hj_7_5 hc_7 gf_X7_22 rfl ?_
      refine ev_iconst (q := 75) (v := 4) dX7_day_74 rfl li_4 ?_
      refine ev_iald (q := 76) dX7_day_75 rfl (kr_7_5 ho) (fun z12 => ?_)
      exact ev_iret dX7_day_76 rfl
set_option maxRecDepth 100000 in
set_option maxHeartbeats 4000000 in
theorem con_X7_day (G : Gt) (o : Nat) (ho : kd o = 7) (mem : Mem) : Con tvI G yX7_day cX7_day 2 (some .int) 3 [.ref (gA G o)] mem (X7_day o mem) := by
  refine con_of (by decide) (Nat.le_of_ble_eq_true rfl) ?_
  show EvR tvI G cX7_day 2 (some .int) RX7 3 0 [(0, .ref (gA G o))] [] mem _
  unfold X7_day
  refine ev_aload_n (q := 1) dX7_day_0 rfl 0 rfl rfl ?_
  refine ev_getR (q := 4) (ci := 7) (j := 5) (T := TX7) dX7_day_1 rfl cf_7 ho hj_7_5 hc_7 gf_X7_22 rfl ?_
  refine ev_iconst (q := 5) (v := 0) dX7_day_4 rfl li_0 ?_
  refine ev_iald (q := 6) dX7_day_5 rfl (kr_7_5 ho) (fun z1 => ?_)
  refine ev_if_ne (t := 12) (q := 9) dX7_day_6 rfl rfl (fun hc2 => ?_) (fun hc2 => ?_)
  · refine ev_ldc (q := 11) (v := (-1000002)) dX7_day_9 rfl kc_X7_189 ?_
    exact ev_iret dX7_day_11 rfl
  · refine ev_aload_n (q := 13) dX7_day_12 rfl 0 rfl rfl ?_
    refine ev_getR (q := 16) (ci := 7) (j := 5) (T := TX7) dX7_day_13 rfl cf_7 ho hj_7_5 hc_7 gf_X7_22 rfl ?_
    refine ev_iconst (q := 17) (v := 4) dX7_day_16 rfl li_4 ?_
    refine ev_iald (q := 18) dX7_day_17 rfl (kr_7_5 ho) (fun z3 => ?_)
    refine ev_sipush (q := 21) (v := 999) dX7_day_18 rfl ls_999 ?_
    refine ev_icmp_ne (t := 27) (q := 24) dX7_day_21 rfl rfl (fun hc4 => ?_) (fun hc4 => ?_)
    · refine ev_ldc (q := 26) (v := (-1000003)) dX7_day_24 rfl kc_X7_122 ?_
      exact ev_iret dX7_day_26 rfl
    · refine ev_aload_n (q := 28) dX7_day_27 rfl 0 rfl rfl ?_
      refine ev_callVU (q := 31) dX7_day_28 rfl ml_X7_190 mt_X7_remember cf_7 rfl ho hc_7 (con_X7_remember G _ ho _) rfl (Nat.le_of_ble_eq_true rfl) (Nat.le_of_ble_eq_true rfl) rfl (Nat.le_of_ble_eq_true rfl) (fun r5 m6 => ?_)
      refine ev_aload_n (q := 32) dX7_day_31 rfl 0 rfl rfl ?_
      refine ev_getR (q := 35) (ci := 7) (j := 5) (T := TX7) dX7_day_32 rfl cf_7 ho hj_7_5 hc_7 gf_X7_22 rfl ?_
      refine ev_iconst (q := 36) (v := 4) dX7_day_35 rfl li_4 ?_
      refine ev_dup2_11 (q := 37) dX7_day_36 rfl rfl rfl ?_
      refine ev_iald (q := 38) dX7_day_37 rfl (kr_7_5 ho) (fun z7 => ?_)
      refine ev_iconst (q := 39) (v := 1) dX7_day_38 rfl li_1 ?_
      refine ev_iadd (q := 40) dX7_day_39 rfl ?_
      refine ev_iast (q := 41) dX7_day_40 rfl (kr_7_5 ho) (fun m8 => ?_)
      refine ev_iconst (q := 42) (v := 0) dX7_day_41 rfl li_0 ?_
      refine ev_istore_n (q := 43) (lv2 := [(1, .int _), (0, .ref _)]) dX7_day_42 rfl rfl (Nat.le_of_ble_eq_true rfl) rfl ?_
      refine ev_sub (lv' := [(0, .ref _), (1, .int _)]) [1, 0] rfl ?_
      exact X7_day_b43_ok G o ho   fu _ _
/-! AgingLettersModel.undo()I -/
theorem dX7_undo_0 : decode cX7_undo 0 = .ok (.aload_n 0, 1) := by decide +kernel
theorem dX7_undo_1 : decode cX7_undo 1 = .ok (.getfield 173, 3) := by decide +kernel
theorem dX7_undo_4 : decode cX7_undo 4 = .ok (.ifCond .ne 6, 3) := by decide +kernel
theorem dX7_undo_7 : decode cX7_undo 7 = .ok (.ldc 189, 2) := by decide +kernel
theorem dX7_undo_9 : decode cX7_undo 9 = .ok (.ireturn, 1) := by decide +kernel
theorem dX7_undo_10 : decode cX7_undo 10 = .ok (.aload_n 0, 1) := by decide +kernel
theorem dX7_undo_11 : decode cX7_undo 11 = .ok (.dup, 1) := by decide +kernel
theorem dX7_undo_12 : decode cX7_undo 12 = .ok (.getfield 173, 3) := by decide +kernel
theorem dX7_undo_15 : decode cX7_undo 15 = .ok (.iconst 1, 1) := by decide +kernel
theorem dX7_undo_16 : decode cX7_undo 16 = .ok (.isub, 1) := by decide +kernel
theorem dX7_undo_17 : decode cX7_undo 17 = .ok (.putfield 173, 3) := by decide +kernel
theorem dX7_undo_20 : decode cX7_undo 20 = .ok (.aload_n 0, 1) := by decide +kernel
theorem dX7_undo_21 : decode cX7_undo 21 = .ok (.aload_n 0, 1) := by decide +kernel
theorem dX7_undo_22 : decode cX7_undo 22 = .ok (.getfield 31, 3) := by decide +kernel
theorem dX7_undo_25 : decode cX7_undo 25 = .ok (.bipush 63, 2) := by decide +kernel
theorem dX7_undo_27 : decode cX7_undo 27 = .ok (.aload_n 0, 1) := by decide +kernel
theorem dX7_undo_28 : decode cX7_undo 28 = .ok (.getfield 173, 3) := by decide +kernel
theorem dX7_undo_31 : decode cX7_undo 31 = .ok (.imul, 1) := by decide +kernel
theorem dX7_undo_32 : decode cX7_undo 32 = .ok (.invokevirtual 208, 3) := by decide +kernel
theorem dX7_undo_35 : decode cX7_undo 35 = .ok (.aload_n 0, 1) := by decide +kernel
theorem dX7_undo_36 : decode cX7_undo 36 = .ok (.getfield 173, 3) := by decide +kernel
theorem dX7_undo_39 : decode cX7_undo 39 = .ok (.ireturn, 1) := by decide +kernel
set_option maxRecDepth 100000 in
set_option maxHeartbeats 4000000 in
theorem con_X7_undo (G : Gt) (o : Nat) (ho : kd o = 7) (mem : Mem) : Con tvI G yX7_undo cX7_undo 1 (some .int) 2 [.ref (gA G o)] mem (X7_undo o mem) := by
  refine con_of (by decide) (Nat.le_of_ble_eq_true rfl) ?_
  show EvR tvI G cX7_undo 1 (some .int) RX7 2 0 [(0, .ref (gA G o))] [] mem _
  unfold X7_undo
  refine ev_aload_n (q := 1) dX7_undo_0 rfl 0 rfl rfl ?_
  refine ev_getI (q := 4) (ci := 7) (j := 13) (T := TX7) dX7_undo_1 rfl cf_7 ho hj_7_13 hc_7 gf_X7_173 rfl ?_
  refine ev_if_ne (t := 10) (q := 7) dX7_undo_4 rfl rfl (fun hc1 => ?_) (fun hc1 => ?_)
  · refine ev_ldc (q := 9) (v := (-1000002)) dX7_undo_7 rfl kc_X7_189 ?_
    exact ev_iret dX7_undo_9 rfl
  · refine ev_aload_n (q := 11) dX7_undo_10 rfl 0 rfl rfl ?_
    refine ev_dup (q := 12) dX7_undo_11 rfl rfl ?_
    refine ev_getI (q := 15) (ci := 7) (j := 13) (T := TX7) dX7_undo_12 rfl cf_7 ho hj_7_13 hc_7 gf_X7_173 rfl ?_
    refine ev_iconst (q := 16) (v := 1) dX7_undo_15 rfl li_1 ?_
    refine ev_isub (q := 17) dX7_undo_16 rfl ?_
    refine ev_putI (q := 20) (ci := 7) (j := 13) (T := TX7) dX7_undo_17 rfl cf_7 ho hj_7_13 hc_7 gf_X7_173 rfl rfl (tyX7_ok 13 hj_7_13) ?_
    refine ev_aload_n (q := 21) dX7_undo_20 rfl 0 rfl rfl ?_
    refine ev_aload_n (q := 22) dX7_undo_21 rfl 0 rfl rfl ?_
    refine ev_getR (q := 25) (ci := 7) (j := 14) (T := TX7) dX7_undo_22 rfl cf_7 ho hj_7_14 hc_7 gf_X7_31 rfl ?_
    refine ev_bipush (q := 27) (v := 63) dX7_undo_25 rfl lb_63 ?_
    refine ev_aload_n (q := 28) dX7_undo_27 rfl 0 rfl rfl ?_
    refine ev_getI (q := 31) (ci := 7) (j := 13) (T := TX7) dX7_undo_28 rfl cf_7 ho hj_7_13 hc_7 gf_X7_173 rfl ?_
    refine ev_imul (q := 32) dX7_undo_31 rfl ?_
    refine ev_callVU (q := 35) dX7_undo_32 rfl ml_X7_208 mt_X7_takeFrom cf_7 rfl ho hc_7 (con_X7_takeFrom G _ _ _ ho (kr_7_14 ho) _) rfl (Nat.le_of_ble_eq_true rfl) (Nat.le_of_ble_eq_true rfl) rfl (Nat.le_of_ble_eq_true rfl) (fun r3 m4 => ?_)
    refine ev_aload_n (q := 36) dX7_undo_35 rfl 0 rfl rfl ?_
    refine ev_getI (q := 39) (ci := 7) (j := 13) (T := TX7) dX7_undo_36 rfl cf_7 ho hj_7_13 hc_7 gf_X7_173 rfl ?_
    exact ev_iret dX7_undo_39 rfl
/-! AgingLettersModel.hasRead(I)I -/
theorem dX7_hasRead_0 : decode cX7_hasRead 0 = .ok (.iconst 0, 1) := by decide +kernel
theorem dX7_hasRead_1 : decode cX7_hasRead 1 = .ok (.istore_n 2, 1) := by decide +kernel
theorem dX7_hasRead_2 : decode cX7_hasRead 2 = .ok (.iconst 0, 1) := by decide +kernel
theorem dX7_hasRead_3 : decode cX7_hasRead 3 = .ok (.istore_n 3, 1) := by decide +kernel
theorem dX7_hasRead_4 : decode cX7_hasRead 4 = .ok (.iload_n 3, 1) := by decide +kernel
theorem dX7_hasRead_5 : decode cX7_hasRead 5 = .ok (.aload_n 0, 1) := by decide +kernel
theorem dX7_hasRead_6 : decode cX7_hasRead 6 = .ok (.invokevirtual 85, 3) := by decide +kernel
theorem dX7_hasRead_9 : decode cX7_hasRead 9 = .ok (.if_icmp .ge 28, 3) := by decide +kernel
theorem dX7_hasRead_12 : decode cX7_hasRead 12 = .ok (.iload_n 2, 1) := by decide +kernel
theorem dX7_hasRead_13 : decode cX7_hasRead 13 = .ok (.aload_n 0, 1) := by decide +kernel
theorem dX7_hasRead_14 : decode cX7_hasRead 14 = .ok (.iload_n 3, 1) := by decide +kernel
theorem dX7_hasRead_15 : decode cX7_hasRead 15 = .ok (.iload_n 1, 1) := by decide +kernel
theorem dX7_hasRead_16 : decode cX7_hasRead 16 = .ok (.invokevirtual 101, 3) := by decide +kernel
theorem dX7_hasRead_19 : decode cX7_hasRead 19 = .ok (.ifCond .le 9, 3) := by decide +kernel
theorem dX7_hasRead_22 : decode cX7_hasRead 22 = .ok (.iconst 1, 1) := by decide +kernel
theorem dX7_hasRead_23 : decode cX7_hasRead 23 = .ok (.iload_n 3, 1) := by decide +kernel
theorem dX7_hasRead_24 : decode cX7_hasRead 24 = .ok (.ishl, 1) := by decide +kernel
theorem dX7_hasRead_25 : decode cX7_hasRead 25 = .ok (.goto 4, 3) := by decide +kernel
theorem dX7_hasRead_28 : decode cX7_hasRead 28 = .ok (.iconst 0, 1) := by decide +kernel
theorem dX7_hasRead_29 : decode cX7_hasRead 29 = .ok (.ior, 1) := by decide +kernel
theorem dX7_hasRead_30 : decode cX7_hasRead 30 = .ok (.istore_n 2, 1) := by decide +kernel
theorem dX7_hasRead_31 : decode cX7_hasRead 31 = .ok (.iinc 3 1, 3) := by decide +kernel
theorem dX7_hasRead_34 : decode cX7_hasRead 34 = .ok (.goto (-30), 3) := by decide +kernel
theorem dX7_hasRead_37 : decode cX7_hasRead 37 = .ok (.iload_n 2, 1) := by decide +kernel
theorem dX7_hasRead_38 : decode cX7_hasRead 38 = .ok (.ireturn, 1) := by decide +kernel
set_option maxRecDepth 100000 in
set_option maxHeartbeats 4000000 in
theorem X7_hasRead_b29_ok (G : Gt) (o : Nat) (ho : kd o = 7)   (k4 : Int32 → Int32 → Int32 → Mem → Option (Int32 × Mem)) (hk4 : ∀ (x1 : Int32) (x2 : Int32) (x3 : Int32) (mem : Mem), EvR tvI G cX7_hasRead 4 (some .int) RX7 2 4 [(0, .ref (gA G o)), (1, .int (x1)), (2, .int (x2)), (3, .int (x3))] [] mem (k4 x1 x2 x3 mem)) (x1 : Int32) (x3 : Int32) (s0 : Int32) (s1 : Int32) (mem : Mem) : EvR tvI G cX7_hasRead 4 (some .int) RX7 2 29 [(0, .ref (gA G o)), (1, .int (x1)), (3, .int (x3))] [.int (s1), .int (s0)] mem (X7_hasRead_b29 o k4 x1 x3 s0 s1 mem) := by
  unfold X7_hasRead_b29
  refine ev_ior (q := 30) dX7_hasRead_29 rfl ?_
  refine ev_istore_n (q := 31) (lv2 := [(2, .int _), (0, .ref _), (1, .int _), (3, .int _)]) dX7_hasRead_30 rfl rfl (Nat.le_of_ble_eq_true rfl) rfl ?_
  refine ev_iinc (q := 34) (lv2 := [(3, .int _), (2, .int _), (0, .ref _), (1, .int _)]) (v := x3 + 1) dX7_hasRead_31 3 rfl rfl (congrArg (HAdd.hAdd _) li_1) (Nat.le_of_ble_eq_true rfl) rfl ?_
  refine ev_goto (t := 4) dX7_hasRead_34 rfl ?_
  refine ev_sub (lv' := [(0, .ref _), (1, .int _), (2, .int _), (3, .int _)]) [2, 3, 1, 0] rfl ?_
  exact hk4 _ _ _ _
set_option maxRecDepth 100000 in
set_option maxHeartbeats 4000000 in
theorem X7_hasRead_b4_ok (G : Gt) (o : Nat) (ho : kd o = 7)    : ∀ (n : Nat) (x1 : Int32) (x2 : Int32) (x3 : Int32) (mem : Mem), EvR tvI G cX7_hasRead 4 (some .int) RX7 2 4 [(0, .ref (gA G o)), (1, .int (x1)), (2, .int (x2)), (3, .int (x3))] [] mem (X7_hasRead_b4 o n x1 x2 x3 mem) := by
  intro n
  induction n with
  | zero => intros; exact ev_none
  | succ n ih =>
    intro x1 x2 x3 mem
    rw [X7_hasRead_b4]
    refine ev_iload_n (q := 5) dX7_hasRead_4 rfl 3 rfl rfl ?_
    refine ev_aload_n (q := 6) dX7_hasRead_5 rfl 0 rfl rfl ?_
    refine ev_callVI (q := 9) dX7_hasRead_6 rfl ml_X7_85 mt_X7_letters cf_7 rfl ho hc_7 (con_X7_letters G _ ho _) rfl (Nat.le_of_ble_eq_true rfl) (Nat.le_of_ble_eq_true rfl) rfl (Nat.le_of_ble_eq_true rfl) (fun r1 m2 => ?_)
    refine ev_icmp_ge (t := 37) (q := 12) dX7_hasRead_9 rfl rfl (fun hc3 => ?_) (fun hc3 => ?_)
    · refine ev_iload_n (q := 13) dX7_hasRead_12 rfl 2 rfl rfl ?_
      refine ev_aload_n (q := 14) dX7_hasRead_13 rfl 0 rfl rfl ?_
      refine ev_iload_n (q := 15) dX7_hasRead_14 rfl 3 rfl rfl ?_
      refine ev_iload_n (q := 16) dX7_hasRead_15 rfl 1 rfl rfl ?_
      refine ev_callVI (q := 19) dX7_hasRead_16 rfl ml_X7_101 mt_X7_readBy cf_7 rfl ho hc_7 (con_X7_readBy G _ _ _ ho _) rfl (Nat.le_of_ble_eq_true rfl) (Nat.le_of_ble_eq_true rfl) rfl (Nat.le_of_ble_eq_true rfl) (fun r4 m5 => ?_)
      refine ev_if_le (t := 28) (q := 22) dX7_hasRead_19 rfl rfl (fun hc6 => ?_) (fun hc6 => ?_)
      · refine ev_iconst (q := 23) (v := 1) dX7_hasRead_22 rfl li_1 ?_
        refine ev_iload_n (q := 24) dX7_hasRead_23 rfl 3 rfl rfl ?_
        refine ev_ishl (q := 25) dX7_hasRead_24 rfl ?_
        refine ev_goto (t := 29) dX7_hasRead_25 rfl ?_
        refine ev_sub (lv' := [(0, .ref _), (1, .int _), (3, .int _)]) [0, 1, 3] rfl ?_
        exact X7_hasRead_b29_ok G o ho  (X7_hasRead_b4 o n) ih _ _ _ _ _
      · refine ev_iconst (q := 29) (v := 0) dX7_hasRead_28 rfl li_0 ?_
        refine ev_sub (lv' := [(0, .ref _), (1, .int _), (3, .int _)]) [0, 1, 3] rfl ?_
        exact X7_hasRead_b29_ok G o ho  (X7_hasRead_b4 o n) ih _ _ _ _ _
    · refine ev_iload_n (q := 38) dX7_hasRead_37 rfl 2 rfl rfl ?_
      exact ev_iret dX7_hasRead_38 rfl
set_option maxRecDepth 100000 in
set_option maxHeartbeats 4000000 in
theorem con_X7_hasRead (G : Gt) (o : Nat) (a1 : Int32) (ho : kd o = 7) (mem : Mem) : Con tvI G yX7_hasRead cX7_hasRead 4 (some .int) 2 [.ref (gA G o), .int a1] mem (X7_hasRead o a1 mem) := by
  refine con_of (by decide) (Nat.le_of_ble_eq_true rfl) ?_
  show EvR tvI G cX7_hasRead 4 (some .int) RX7 2 0 [(0, .ref (gA G o)), (1, .int (a1))] [] mem _
  unfold X7_hasRead
  refine ev_iconst (q := 1) (v := 0) dX7_hasRead_0 rfl li_0 ?_
  refine ev_istore_n (q := 2) (lv2 := [(2, .int _), (0, .ref _), (1, .int _)]) dX7_hasRead_1 rfl rfl (Nat.le_of_ble_eq_true rfl) rfl ?_
  refine ev_iconst (q := 3) (v := 0) dX7_hasRead_2 rfl li_0 ?_
  refine ev_istore_n (q := 4) (lv2 := [(3, .int _), (2, .int _), (0, .ref _), (1, .int _)]) dX7_hasRead_3 rfl rfl (Nat.le_of_ble_eq_true rfl) rfl ?_
  refine ev_sub (lv' := [(0, .ref _), (1, .int _), (2, .int _), (3, .int _)]) [2, 3, 1, 0] rfl ?_
  exact X7_hasRead_b4_ok G o ho   fu _ _ _ _
/-! AgingLettersModel.reader(II)I -/
theorem dX7_reader_0 : decode cX7_reader 0 = .ok (.aload_n 0, 1) := by decide +kernel
theorem dX7_reader_1 : decode cX7_reader 1 = .ok (.iload_n 1, 1) := by decide +kernel
theorem dX7_reader_2 : decode cX7_reader 2 = .ok (.invokevirtual 180, 3) := by decide +kernel
theorem dX7_reader_5 : decode cX7_reader 5 = .ok (.ifCond .ne 6, 3) := by decide +kernel
theorem dX7_reader_8 : decode cX7_reader 8 = .ok (.ldc 73, 2) := by decide +kernel
theorem dX7_reader_10 : decode cX7_reader 10 = .ok (.ireturn, 1) := by decide +kernel
theorem dX7_reader_11 : decode cX7_reader 11 = .ok (.iload_n 2, 1) := by decide +kernel
theorem dX7_reader_12 : decode cX7_reader 12 = .ok (.tableswitch 96 0 5 #[40, 46, 52, 66, 80, 86], 40) := by decide +kernel
theorem dX7_reader_52 : decode cX7_reader 52 = .ok (.aload_n 0, 1) := by decide +kernel
theorem dX7_reader_53 : decode cX7_reader 53 = .ok (.iload_n 1, 1) := by decide +kernel
theorem dX7_reader_54 : decode cX7_reader 54 = .ok (.invokevirtual 92, 3) := by decide +kernel
theorem dX7_reader_57 : decode cX7_reader 57 = .ok (.ireturn, 1) := by decide +kernel
theorem dX7_reader_58 : decode cX7_reader 58 = .ok (.aload_n 0, 1) := by decide +kernel
theorem dX7_reader_59 : decode cX7_reader 59 = .ok (.iload_n 1, 1) := by decide +kernel
theorem dX7_reader_60 : decode cX7_reader 60 = .ok (.invokevirtual 95, 3) := by decide +kernel
theorem dX7_reader_63 : decode cX7_reader 63 = .ok (.ireturn, 1) := by decide +kernel
theorem dX7_reader_64 : decode cX7_reader 64 = .ok (.aload_n 0, 1) := by decide +kernel
theorem dX7_reader_65 : decode cX7_reader 65 = .ok (.iload_n 1, 1) := by decide +kernel
theorem dX7_reader_66 : decode cX7_reader 66 = .ok (.invokevirtual 98, 3) := by decide +kernel
theorem dX7_reader_69 : decode cX7_reader 69 = .ok (.ifCond .eq 7, 3) := by decide +kernel
theorem dX7_reader_72 : decode cX7_reader 72 = .ok (.iconst 1, 1) := by decide +kernel
theorem dX7_reader_73 : decode cX7_reader 73 = .ok (.goto 4, 3) := by decide +kernel
theorem dX7_reader_76 : decode cX7_reader 76 = .ok (.iconst 0, 1) := by decide +kernel
theorem dX7_reader_77 : decode cX7_reader 77 = .ok (.ireturn, 1) := by decide +kernel
theorem dX7_reader_78 : decode cX7_reader 78 = .ok (.aload_n 0, 1) := by decide +kernel
theorem dX7_reader_79 : decode cX7_reader 79 = .ok (.iload_n 1, 1) := by decide +kernel
theorem dX7_reader_80 : decode cX7_reader 80 = .ok (.invokevirtual 186, 3) := by decide +kernel
theorem dX7_reader_83 : decode cX7_reader 83 = .ok (.ifCond .eq 7, 3) := by decide +kernel
theorem dX7_reader_86 : decode cX7_reader 86 = .ok (.iconst 1, 1) := by decide +kernel
theorem dX7_reader_87 : decode cX7_reader 87 = .ok (.goto 4, 3) := by decide +kernel
theorem dX7_reader_90 : decode cX7_reader 90 = .ok (.iconst 0, 1) := by decide +kernel
theorem dX7_reader_91 : decode cX7_reader 91 = .ok (.ireturn, 1) := by decide +kernel
theorem dX7_reader_92 : decode cX7_reader 92 = .ok (.aload_n 0, 1) := by decide +kernel
theorem dX7_reader_93 : decode cX7_reader 93 = .ok (.iload_n 1, 1) := by decide +kernel
theorem dX7_reader_94 : decode cX7_reader 94 = .ok (.invokevirtual 211, 3) := by decide +kernel
theorem dX7_reader_97 : decode cX7_reader 97 = .ok (.ireturn, 1) := by decide +kernel
theorem dX7_reader_98 : decode cX7_reader 98 = .ok (.aload_n 0, 1) := by decide +kernel
theorem dX7_reader_99 : decode cX7_reader 99 = .ok (.getfield 22, 3) := by decide +kernel
theorem dX7_reader_102 : decode cX7_reader 102 = .ok (.bipush 35, 2) := by decide +kernel
theorem dX7_reader_104 : decode cX7_reader 104 = .ok (.iload_n 1, 1) := by decide +kernel
theorem dX7_reader_105 : decode cX7_reader 105 = .ok (.iadd, 1) := by decide +kernel
theorem dX7_reader_106 : decode cX7_reader 106 = .ok (.iaload, 1) := by decide +kernel
theorem dX7_reader_107 : decode cX7_reader 107 = .ok (.ireturn, 1) := by decide +kernel
theorem dX7_reader_108 : decode cX7_reader 108 = .ok (.ldc 73, 2) := by decide +kernel
theorem dX7_reader_110 : decode cX7_reader 110 = .ok (.ireturn, 1) := by decide +kernel
set_option maxRecDepth 100000 in
set_option maxHeartbeats 4000000 in
theorem con_X7_reader (G : Gt) (o : Nat) (a1 : Int32) (a2 : Int32) (ho : kd o = 7) (mem : Mem) : Con tvI G yX7_reader cX7_reader 3 (some .int) 4 [.ref (gA G o), .int a1, .int a2] mem (X7_reader o a1 a2 mem) := by
  refine con_of (by decide) (Nat.le_of_ble_eq_true rfl) ?_
  show EvR tvI G cX7_reader 3 (some .int) RX7 4 0 [(0, .ref (gA G o)), (1, .int (a1)), (2, .int (a2))] [] mem _
  unfold X7_reader
  refine ev_aload_n (q := 1) dX7_reader_0 rfl 0 rfl rfl ?_
  refine ev_iload_n (q := 2) dX7_reader_1 rfl 1 rfl rfl ?_
  refine ev_callVI (q := 5) dX7_reader_2 rfl ml_X7_180 mt_X7_isReader cf_7 rfl ho hc_7 (con_X7_isReader G _ _ ho _) rfl (Nat.le_of_ble_eq_true rfl) (Nat.le_of_ble_eq_true rfl) rfl (Nat.le_of_ble_eq_true rfl) (fun r1 m2 => ?_)
  refine ev_if_ne (t := 11) (q := 8) dX7_reader_5 rfl rfl (fun hc3 => ?_) (fun hc3 => ?_)
  · refine ev_ldc (q := 10) (v := (-1000001)) dX7_reader_8 rfl kc_X7_73 ?_
    exact ev_iret dX7_reader_10 rfl
  · refine ev_iload_n (q := 12) dX7_reader_11 rfl 2 rfl rfl ?_
    refine ev_ite (fun hc4 => ?_) (fun hc4 => ?_)
    · subst hc4
      refine ev_tsIn (t := 52) (off := 40) dX7_reader_12 (by decide) (by decide) (by decide) rfl ?_
      refine ev_aload_n (q := 53) dX7_reader_52 rfl 0 rfl rfl ?_
      refine ev_iload_n (q := 54) dX7_reader_53 rfl 1 rfl rfl ?_
      refine ev_callVI (q := 57) dX7_reader_54 rfl ml_X7_92 mt_X7_age cf_7 rfl ho hc_7 (con_X7_age G _ _ ho _) rfl (Nat.le_of_ble_eq_true rfl) (Nat.le_of_ble_eq_true rfl) rfl (Nat.le_of_ble_eq_true rfl) (fun r5 m6 => ?_)
      exact ev_iret dX7_reader_57 rfl
    refine ev_ite (fun hc7 => ?_) (fun hc7 => ?_)
    · subst hc7
      refine ev_tsIn (t := 58) (off := 46) dX7_reader_12 (by decide) (by decide) (by decide) rfl ?_
      refine ev_aload_n (q := 59) dX7_reader_58 rfl 0 rfl rfl ?_
      refine ev_iload_n (q := 60) dX7_reader_59 rfl 1 rfl rfl ?_
      refine ev_callVI (q := 63) dX7_reader_60 rfl ml_X7_95 mt_X7_span cf_7 rfl ho hc_7 (con_X7_span G _ _ ho _) rfl (Nat.le_of_ble_eq_true rfl) (Nat.le_of_ble_eq_true rfl) rfl (Nat.le_of_ble_eq_true rfl) (fun r8 m9 => ?_)
      exact ev_iret dX7_reader_63 rfl
    refine ev_ite (fun hc10 => ?_) (fun hc10 => ?_)
    · subst hc10
      refine ev_tsIn (t := 64) (off := 52) dX7_reader_12 (by decide) (by decide) (by decide) rfl ?_
      refine ev_aload_n (q := 65) dX7_reader_64 rfl 0 rfl rfl ?_
      refine ev_iload_n (q := 66) dX7_reader_65 rfl 1 rfl rfl ?_
      refine ev_callVI (q := 69) dX7_reader_66 rfl ml_X7_98 mt_X7_isAlive cf_7 rfl ho hc_7 (con_X7_isAlive G _ _ ho _) rfl (Nat.le_of_ble_eq_true rfl) (Nat.le_of_ble_eq_true rfl) rfl (Nat.le_of_ble_eq_true rfl) (fun r11 m12 => ?_)
      refine ev_if_eq (t := 76) (q := 72) dX7_reader_69 rfl rfl (fun hc13 => ?_) (fun hc13 => ?_)
      · refine ev_iconst (q := 77) (v := 0) dX7_reader_76 rfl li_0 ?_
        exact ev_iret dX7_reader_77 rfl
      · refine ev_iconst (q := 73) (v := 1) dX7_reader_72 rfl li_1 ?_
        refine ev_goto (t := 77) dX7_reader_73 rfl ?_
        exact ev_iret dX7_reader_77 rfl
    refine ev_ite (fun hc14 => ?_) (fun hc14 => ?_)
    · subst hc14
      refine ev_tsIn (t := 78) (off := 66) dX7_reader_12 (by decide) (by decide) (by decide) rfl ?_
      refine ev_aload_n (q := 79) dX7_reader_78 rfl 0 rfl rfl ?_
      refine ev_iload_n (q := 80) dX7_reader_79 rfl 1 rfl rfl ?_
      refine ev_callVI (q := 83) dX7_reader_80 rfl ml_X7_186 mt_X7_isFit cf_7 rfl ho hc_7 (con_X7_isFit G _ _ ho _) rfl (Nat.le_of_ble_eq_true rfl) (Nat.le_of_ble_eq_true rfl) rfl (Nat.le_of_ble_eq_true rfl) (fun r15 m16 => ?_)
      refine ev_if_eq (t := 90) (q := 86) dX7_reader_83 rfl rfl (fun hc17 => ?_) (fun hc17 => ?_)
      · refine ev_iconst (q := 91) (v := 0) dX7_reader_90 rfl li_0 ?_
        exact ev_iret dX7_reader_91 rfl
      · refine ev_iconst (q := 87) (v := 1) dX7_reader_86 rfl li_1 ?_
        refine ev_goto (t := 91) dX7_reader_87 rfl ?_
        exact ev_iret dX7_reader_91 rfl
    refine ev_ite (fun hc18 => ?_) (fun hc18 => ?_)
    · subst hc18
      refine ev_tsIn (t := 92) (off := 80) dX7_reader_12 (by decide) (by decide) (by decide) rfl ?_
      refine ev_aload_n (q := 93) dX7_reader_92 rfl 0 rfl rfl ?_
      refine ev_iload_n (q := 94) dX7_reader_93 rfl 1 rfl rfl ?_
      refine ev_callVI (q := 97) dX7_reader_94 rfl ml_X7_211 mt_X7_hasRead cf_7 rfl ho hc_7 (con_X7_hasRead G _ _ ho _) rfl (Nat.le_of_ble_eq_true rfl) (Nat.le_of_ble_eq_true rfl) rfl (Nat.le_of_ble_eq_true rfl) (fun r19 m20 => ?_)
      exact ev_iret dX7_reader_97 rfl
    refine ev_ite (fun hc21 => ?_) (fun hc21 => ?_)
    · subst hc21
      refine ev_tsIn (t := 98) (off := 86) dX7_reader_12 (by decide) (by decide) (by decide) rfl ?_
      refine ev_aload_n (q := 99) dX7_reader_98 rfl 0 rfl rfl ?_
      refine ev_getR (q := 102) (ci := 7) (j := 5) (T := TX7) dX7_reader_99 rfl cf_7 ho hj_7_5 hc_7 gf_X7_22 rfl ?_
      refine ev_bipush (q := 104) (v := 35) dX7_reader_102 rfl lb_35 ?_
      refine ev_iload_n (q := 105) dX7_reader_104 rfl 1 rfl rfl ?_
      refine ev_iadd (q := 106) dX7_reader_105 rfl ?_
      refine ev_iald (q := 107) dX7_reader_106 rfl (kr_7_5 ho) (fun z22 => ?_)
      exact ev_iret dX7_reader_107 rfl
    refine ev_tsOut (t := 108) dX7_reader_12 (by have g0 := lv_neT hc4 (a := 0) (by decide); have g1 := lv_neT hc7 (a := 1) (by decide); have g2 := lv_neT hc10 (a := 2) (by decide); have g3 := lv_neT hc14 (a := 3) (by decide); have g4 := lv_neT hc18 (a := 4) (by decide); have g5 := lv_neT hc21 (a := 5) (by decide); omega) rfl ?_
    refine ev_ldc (q := 110) (v := (-1000001)) dX7_reader_108 rfl kc_X7_73 ?_
    exact ev_iret dX7_reader_110 rfl
/-! AgingLettersModel.whoRead(I)I -/
theorem dX7_whoRead_0 : decode cX7_whoRead 0 = .ok (.iconst 0, 1) := by decide +kernel
theorem dX7_whoRead_1 : decode cX7_whoRead 1 = .ok (.istore_n 2, 1) := by decide +kernel
theorem dX7_whoRead_2 : decode cX7_whoRead 2 = .ok (.iconst 0, 1) := by decide +kernel
theorem dX7_whoRead_3 : decode cX7_whoRead 3 = .ok (.istore_n 3, 1) := by decide +kernel
theorem dX7_whoRead_4 : decode cX7_whoRead 4 = .ok (.iload_n 3, 1) := by decide +kernel
theorem dX7_whoRead_5 : decode cX7_whoRead 5 = .ok (.aload_n 0, 1) := by decide +kernel
theorem dX7_whoRead_6 : decode cX7_whoRead 6 = .ok (.invokevirtual 89, 3) := by decide +kernel
theorem dX7_whoRead_9 : decode cX7_whoRead 9 = .ok (.if_icmp .ge 28, 3) := by decide +kernel
theorem dX7_whoRead_12 : decode cX7_whoRead 12 = .ok (.iload_n 2, 1) := by decide +kernel
theorem dX7_whoRead_13 : decode cX7_whoRead 13 = .ok (.aload_n 0, 1) := by decide +kernel
theorem dX7_whoRead_14 : decode cX7_whoRead 14 = .ok (.iload_n 1, 1) := by decide +kernel
theorem dX7_whoRead_15 : decode cX7_whoRead 15 = .ok (.iload_n 3, 1) := by decide +kernel
theorem dX7_whoRead_16 : decode cX7_whoRead 16 = .ok (.invokevirtual 101, 3) := by decide +kernel
theorem dX7_whoRead_19 : decode cX7_whoRead 19 = .ok (.ifCond .le 9, 3) := by decide +kernel
theorem dX7_whoRead_22 : decode cX7_whoRead 22 = .ok (.iconst 1, 1) := by decide +kernel
theorem dX7_whoRead_23 : decode cX7_whoRead 23 = .ok (.iload_n 3, 1) := by decide +kernel
theorem dX7_whoRead_24 : decode cX7_whoRead 24 = .ok (.ishl, 1) := by decide +kernel
theorem dX7_whoRead_25 : decode cX7_whoRead 25 = .ok (.goto 4, 3) := by decide +kernel
theorem dX7_whoRead_28 : decode cX7_whoRead 28 = .ok (.iconst 0, 1) := by decide +kernel
theorem dX7_whoRead_29 : decode cX7_whoRead 29 = .ok (.ior, 1) := by decide +kernel
theorem dX7_whoRead_30 : decode cX7_whoRead 30 = .ok (.istore_n 2, 1) := by decide +kernel
theorem dX7_whoRead_31 : decode cX7_whoRead 31 = .ok (.iinc 3 1, 3) := by decide +kernel
theorem dX7_whoRead_34 : decode cX7_whoRead 34 = .ok (.goto (-30), 3) := by decide +kernel
theorem dX7_whoRead_37 : decode cX7_whoRead 37 = .ok (.iload_n 2, 1) := by decide +kernel
theorem dX7_whoRead_38 : decode cX7_whoRead 38 = .ok (.ireturn, 1) := by decide +kernel
set_option maxRecDepth 100000 in
set_option maxHeartbeats 4000000 in
theorem X7_whoRead_b29_ok (G : Gt) (o : Nat) (ho : kd o = 7)   (k4 : Int32 → Int32 → Int32 → Mem → Option (Int32 × Mem)) (hk4 : ∀ (x1 : Int32) (x2 : Int32) (x3 : Int32) (mem : Mem), EvR tvI G cX7_whoRead 4 (some .int) RX7 2 4 [(0, .ref (gA G o)), (1, .int (x1)), (2, .int (x2)), (3, .int (x3))] [] mem (k4 x1 x2 x3 mem)) (x1 : Int32) (x3 : Int32) (s0 : Int32) (s1 : Int32) (mem : Mem) : EvR tvI G cX7_whoRead 4 (some .int) RX7 2 29 [(0, .ref (gA G o)), (1, .int (x1)), (3, .int (x3))] [.int (s1), .int (s0)] mem (X7_whoRead_b29 o k4 x1 x3 s0 s1 mem) := by
  unfold X7_whoRead_b29
  refine ev_ior (q := 30) dX7_whoRead_29 rfl ?_
  refine ev_istore_n (q := 31) (lv2 := [(2, .int _), (0, .ref _), (1, .int _), (3, .int _)]) dX7_whoRead_30 rfl rfl (Nat.le_of_ble_eq_true rfl) rfl ?_
  refine ev_iinc (q := 34) (lv2 := [(3, .int _), (2, .int _), (0, .ref _), (1, .int _)]) (v := x3 + 1) dX7_whoRead_31 3 rfl rfl (congrArg (HAdd.hAdd _) li_1) (Nat.le_of_ble_eq_true rfl) rfl ?_
  refine ev_goto (t := 4) dX7_whoRead_34 rfl ?_
  refine ev_sub (lv' := [(0, .ref _), (1, .int _), (2, .int _), (3, .int _)]) [2, 3, 1, 0] rfl ?_
  exact hk4 _ _ _ _
set_option maxRecDepth 100000 in
set_option maxHeartbeats 4000000 in
theorem X7_whoRead_b4_ok (G : Gt) (o : Nat) (ho : kd o = 7)    : ∀ (n : Nat) (x1 : Int32) (x2 : Int32) (x3 : Int32) (mem : Mem), EvR tvI G cX7_whoRead 4 (some .int) RX7 2 4 [(0, .ref (gA G o)), (1, .int (x1)), (2, .int (x2)), (3, .int (x3))] [] mem (X7_whoRead_b4 o n x1 x2 x3 mem) := by
  intro n
  induction n with
  | zero => intros; exact ev_none
  | succ n ih =>
    intro x1 x2 x3 mem
    rw [X7_whoRead_b4]
    refine ev_iload_n (q := 5) dX7_whoRead_4 rfl 3 rfl rfl ?_
    refine ev_aload_n (q := 6) dX7_whoRead_5 rfl 0 rfl rfl ?_
    refine ev_callVI (q := 9) dX7_whoRead_6 rfl ml_X7_89 mt_X7_readers cf_7 rfl ho hc_7 (con_X7_readers G _ ho _) rfl (Nat.le_of_ble_eq_true rfl) (Nat.le_of_ble_eq_true rfl) rfl (Nat.le_of_ble_eq_true rfl) (fun r1 m2 => ?_)
    refine ev_icmp_ge (t := 37) (q := 12) dX7_whoRead_9 rfl rfl (fun hc3 => ?_) (fun hc3 => ?_)
    · refine ev_iload_n (q := 13) dX7_whoRead_12 rfl 2 rfl rfl ?_
      refine ev_aload_n (q := 14) dX7_whoRead_13 rfl 0 rfl rfl ?_
      refine ev_iload_n (q := 15) dX7_whoRead_14 rfl 1 rfl rfl ?_
      refine ev_iload_n (q := 16) dX7_whoRead_15 rfl 3 rfl rfl ?_
      refine ev_callVI (q := 19) dX7_whoRead_16 rfl ml_X7_101 mt_X7_readBy cf_7 rfl ho hc_7 (con_X7_readBy G _ _ _ ho _) rfl (Nat.le_of_ble_eq_true rfl) (Nat.le_of_ble_eq_true rfl) rfl (Nat.le_of_ble_eq_true rfl) (fun r4 m5 => ?_)
      refine ev_if_le (t := 28) (q := 22) dX7_whoRead_19 rfl rfl (fun hc6 => ?_) (fun hc6 => ?_)
      · refine ev_iconst (q := 23) (v := 1) dX7_whoRead_22 rfl li_1 ?_
        refine ev_iload_n (q := 24) dX7_whoRead_23 rfl 3 rfl rfl ?_
        refine ev_ishl (q := 25) dX7_whoRead_24 rfl ?_
        refine ev_goto (t := 29) dX7_whoRead_25 rfl ?_
        refine ev_sub (lv' := [(0, .ref _), (1, .int _), (3, .int _)]) [0, 1, 3] rfl ?_
        exact X7_whoRead_b29_ok G o ho  (X7_whoRead_b4 o n) ih _ _ _ _ _
      · refine ev_iconst (q := 29) (v := 0) dX7_whoRead_28 rfl li_0 ?_
        refine ev_sub (lv' := [(0, .ref _), (1, .int _), (3, .int _)]) [0, 1, 3] rfl ?_
        exact X7_whoRead_b29_ok G o ho  (X7_whoRead_b4 o n) ih _ _ _ _ _
    · refine ev_iload_n (q := 38) dX7_whoRead_37 rfl 2 rfl rfl ?_
      exact ev_iret dX7_whoRead_38 rfl
set_option maxRecDepth 100000 in
set_option maxHeartbeats 4000000 in
theorem con_X7_whoRead (G : Gt) (o : Nat) (a1 : Int32) (ho : kd o = 7) (mem : Mem) : Con tvI G yX7_whoRead cX7_whoRead 4 (some .int) 2 [.ref (gA G o), .int a1] mem (X7_whoRead o a1 mem) := by
  refine con_of (by decide) (Nat.le_of_ble_eq_true rfl) ?_
  show EvR tvI G cX7_whoRead 4 (some .int) RX7 2 0 [(0, .ref (gA G o)), (1, .int (a1))] [] mem _
  unfold X7_whoRead
  refine ev_iconst (q := 1) (v := 0) dX7_whoRead_0 rfl li_0 ?_
  refine ev_istore_n (q := 2) (lv2 := [(2, .int _), (0, .ref _), (1, .int _)]) dX7_whoRead_1 rfl rfl (Nat.le_of_ble_eq_true rfl) rfl ?_
  refine ev_iconst (q := 3) (v := 0) dX7_whoRead_2 rfl li_0 ?_
  refine ev_istore_n (q := 4) (lv2 := [(3, .int _), (2, .int _), (0, .ref _), (1, .int _)]) dX7_whoRead_3 rfl rfl (Nat.le_of_ble_eq_true rfl) rfl ?_
  refine ev_sub (lv' := [(0, .ref _), (1, .int _), (2, .int _), (3, .int _)]) [2, 3, 1, 0] rfl ?_
  exact X7_whoRead_b4_ok G o ho   fu _ _ _ _
/-! AgingLettersModel.letter(II)I -/
theorem dX7_letter_0 : decode cX7_letter 0 = .ok (.aload_n 0, 1) := by decide +kernel
theorem dX7_letter_1 : decode cX7_letter 1 = .ok (.iload_n 1, 1) := by decide +kernel
theorem dX7_letter_2 : decode cX7_letter 2 = .ok (.invokevirtual 183, 3) := by decide +kernel
theorem dX7_letter_5 : decode cX7_letter 5 = .ok (.ifCond .eq 15, 3) := by decide +kernel
theorem dX7_letter_8 : decode cX7_letter 8 = .ok (.iload_n 2, 1) := by decide +kernel
theorem dX7_letter_9 : decode cX7_letter 9 = .ok (.i2l, 1) := by decide +kernel
theorem dX7_letter_10 : decode cX7_letter 10 = .ok (.lconst 0, 1) := by decide +kernel
theorem dX7_letter_11 : decode cX7_letter 11 = .ok (.ldc2_w 214, 3) := by decide +kernel
theorem dX7_letter_14 : decode cX7_letter 14 = .ok (.invokestatic 63, 3) := by decide +kernel
theorem dX7_letter_17 : decode cX7_letter 17 = .ok (.ifCond .ne 6, 3) := by decide +kernel
theorem dX7_letter_20 : decode cX7_letter 20 = .ok (.ldc 73, 2) := by decide +kernel
theorem dX7_letter_22 : decode cX7_letter 22 = .ok (.ireturn, 1) := by decide +kernel
theorem dX7_letter_23 : decode cX7_letter 23 = .ok (.iload_n 2, 1) := by decide +kernel
theorem dX7_letter_24 : decode cX7_letter 24 = .ok (.ifCond .ne 15, 3) := by decide +kernel
theorem dX7_letter_27 : decode cX7_letter 27 = .ok (.aload_n 0, 1) := by decide +kernel
theorem dX7_letter_28 : decode cX7_letter 28 = .ok (.getfield 22, 3) := by decide +kernel
theorem dX7_letter_31 : decode cX7_letter 31 = .ok (.bipush 11, 2) := by decide +kernel
theorem dX7_letter_33 : decode cX7_letter 33 = .ok (.iload_n 1, 1) := by decide +kernel
theorem dX7_letter_34 : decode cX7_letter 34 = .ok (.iadd, 1) := by decide +kernel
theorem dX7_letter_35 : decode cX7_letter 35 = .ok (.iaload, 1) := by decide +kernel
theorem dX7_letter_36 : decode cX7_letter 36 = .ok (.goto 38, 3) := by decide +kernel
theorem dX7_letter_39 : decode cX7_letter 39 = .ok (.iload_n 2, 1) := by decide +kernel
theorem dX7_letter_40 : decode cX7_letter 40 = .ok (.iconst 1, 1) := by decide +kernel
theorem dX7_letter_41 : decode cX7_letter 41 = .ok (.if_icmp .ne 15, 3) := by decide +kernel
theorem dX7_letter_44 : decode cX7_letter 44 = .ok (.aload_n 0, 1) := by decide +kernel
theorem dX7_letter_45 : decode cX7_letter 45 = .ok (.getfield 22, 3) := by decide +kernel
theorem dX7_letter_48 : decode cX7_letter 48 = .ok (.bipush 17, 2) := by decide +kernel
theorem dX7_letter_50 : decode cX7_letter 50 = .ok (.iload_n 1, 1) := by decide +kernel
theorem dX7_letter_51 : decode cX7_letter 51 = .ok (.iadd, 1) := by decide +kernel
theorem dX7_letter_52 : decode cX7_letter 52 = .ok (.iaload, 1) := by decide +kernel
theorem dX7_letter_53 : decode cX7_letter 53 = .ok (.goto 21, 3) := by decide +kernel
theorem dX7_letter_56 : decode cX7_letter 56 = .ok (.iload_n 2, 1) := by decide +kernel
theorem dX7_letter_57 : decode cX7_letter 57 = .ok (.iconst 2, 1) := by decide +kernel
theorem dX7_letter_58 : decode cX7_letter 58 = .ok (.if_icmp .ne 11, 3) := by decide +kernel
theorem dX7_letter_61 : decode cX7_letter 61 = .ok (.aload_n 0, 1) := by decide +kernel
theorem dX7_letter_62 : decode cX7_letter 62 = .ok (.iload_n 1, 1) := by decide +kernel
theorem dX7_letter_63 : decode cX7_letter 63 = .ok (.invokevirtual 216, 3) := by decide +kernel
theorem dX7_letter_66 : decode cX7_letter 66 = .ok (.goto 8, 3) := by decide +kernel
theorem dX7_letter_69 : decode cX7_letter 69 = .ok (.aload_n 0, 1) := by decide +kernel
theorem dX7_letter_70 : decode cX7_letter 70 = .ok (.iload_n 1, 1) := by decide +kernel
theorem dX7_letter_71 : decode cX7_letter 71 = .ok (.invokevirtual 219, 3) := by decide +kernel
theorem dX7_letter_74 : decode cX7_letter 74 = .ok (.ireturn, 1) := by decide +kernel
set_option maxRecDepth 100000 in
set_option maxHeartbeats 4000000 in
theorem con_X7_letter (G : Gt) (o : Nat) (a1 : Int32) (a2 : Int32) (ho : kd o = 7) (mem : Mem) : Con tvI G yX7_letter cX7_letter 3 (some .int) 3 [.ref (gA G o), .int a1, .int a2] mem (X7_letter o a1 a2 mem) := by
  refine con_of (by decide) (Nat.le_of_ble_eq_true rfl) ?_
  show EvR tvI G cX7_letter 3 (some .int) RX7 3 0 [(0, .ref (gA G o)), (1, .int (a1)), (2, .int (a2))] [] mem _
  unfold X7_letter
  refine ev_aload_n (q := 1) dX7_letter_0 rfl 0 rfl rfl ?_
  refine ev_iload_n (q := 2) dX7_letter_1 rfl 1 rfl rfl ?_
  refine ev_callVI (q := 5) dX7_letter_2 rfl ml_X7_183 mt_X7_isLetter cf_7 rfl ho hc_7 (con_X7_isLetter G _ _ ho _) rfl (Nat.le_of_ble_eq_true rfl) (Nat.le_of_ble_eq_true rfl) rfl (Nat.le_of_ble_eq_true rfl) (fun r1 m2 => ?_)
  refine ev_if_eq (t := 20) (q := 8) dX7_letter_5 rfl rfl (fun hc3 => ?_) (fun hc3 => ?_)
  · refine ev_ldc (q := 22) (v := (-1000001)) dX7_letter_20 rfl kc_X7_73 ?_
    exact ev_iret dX7_letter_22 rfl
  · refine ev_iload_n (q := 9) dX7_letter_8 rfl 2 rfl rfl ?_
    refine ev_i2l (q := 10) dX7_letter_9 rfl ?_
    refine ev_lconst (q := 11) (v := 0) dX7_letter_10 rfl ll_0 ?_
    refine ev_ldc2 (q := 14) (v := 3) dX7_letter_11 rfl kc_X7_214 ?_
    refine ev_callSI (q := 17) dX7_letter_14 rfl ml_X7_63 mt_X7_in (con_X7_in G _ _ _  _) rfl (Nat.le_of_ble_eq_true rfl) (Nat.le_of_ble_eq_true rfl) rfl (Nat.le_of_ble_eq_true rfl) (fun r4 m5 => ?_)
    refine ev_if_ne (t := 23) (q := 20) dX7_letter_17 rfl rfl (fun hc6 => ?_) (fun hc6 => ?_)
    · refine ev_ldc (q := 22) (v := (-1000001)) dX7_letter_20 rfl kc_X7_73 ?_
      exact ev_iret dX7_letter_22 rfl
    · refine ev_iload_n (q := 24) dX7_letter_23 rfl 2 rfl rfl ?_
      refine ev_if_ne (t := 39) (q := 27) dX7_letter_24 rfl rfl (fun hc7 => ?_) (fun hc7 => ?_)
      · refine ev_aload_n (q := 28) dX7_letter_27 rfl 0 rfl rfl ?_
        refine ev_getR (q := 31) (ci := 7) (j := 5) (T := TX7) dX7_letter_28 rfl cf_7 ho hj_7_5 hc_7 gf_X7_22 rfl ?_
        refine ev_bipush (q := 33) (v := 11) dX7_letter_31 rfl lb_11 ?_
        refine ev_iload_n (q := 34) dX7_letter_33 rfl 1 rfl rfl ?_
        refine ev_iadd (q := 35) dX7_letter_34 rfl ?_
        refine ev_iald (q := 36) dX7_letter_35 rfl (kr_7_5 ho) (fun z15 => ?_)
        refine ev_goto (t := 74) dX7_letter_36 rfl ?_
        exact ev_iret dX7_letter_74 rfl
      · refine ev_iload_n (q := 40) dX7_letter_39 rfl 2 rfl rfl ?_
        refine ev_iconst (q := 41) (v := 1) dX7_letter_40 rfl li_1 ?_
        refine ev_icmp_ne (t := 56) (q := 44) dX7_letter_41 rfl rfl (fun hc8 => ?_) (fun hc8 => ?_)
        · refine ev_aload_n (q := 45) dX7_letter_44 rfl 0 rfl rfl ?_
          refine ev_getR (q := 48) (ci := 7) (j := 5) (T := TX7) dX7_letter_45 rfl cf_7 ho hj_7_5 hc_7 gf_X7_22 rfl ?_
          refine ev_bipush (q := 50) (v := 17) dX7_letter_48 rfl lb_17 ?_
          refine ev_iload_n (q := 51) dX7_letter_50 rfl 1 rfl rfl ?_
          refine ev_iadd (q := 52) dX7_letter_51 rfl ?_
          refine ev_iald (q := 53) dX7_letter_52 rfl (kr_7_5 ho) (fun z14 => ?_)
          refine ev_goto (t := 74) dX7_letter_53 rfl ?_
          exact ev_iret dX7_letter_74 rfl
        · refine ev_iload_n (q := 57) dX7_letter_56 rfl 2 rfl rfl ?_
          refine ev_iconst (q := 58) (v := 2) dX7_letter_57 rfl li_2 ?_
          refine ev_icmp_ne (t := 69) (q := 61) dX7_letter_58 rfl rfl (fun hc9 => ?_) (fun hc9 => ?_)
          · refine ev_aload_n (q := 62) dX7_letter_61 rfl 0 rfl rfl ?_
            refine ev_iload_n (q := 63) dX7_letter_62 rfl 1 rfl rfl ?_
            refine ev_callVI (q := 66) dX7_letter_63 rfl ml_X7_216 mt_X7_readOf cf_7 rfl ho hc_7 (con_X7_readOf G _ _ ho _) rfl (Nat.le_of_ble_eq_true rfl) (Nat.le_of_ble_eq_true rfl) rfl (Nat.le_of_ble_eq_true rfl) (fun r12 m13 => ?_)
            refine ev_goto (t := 74) dX7_letter_66 rfl ?_
            exact ev_iret dX7_letter_74 rfl
          · refine ev_aload_n (q := 70) dX7_letter_69 rfl 0 rfl rfl ?_
            refine ev_iload_n (q := 71) dX7_letter_70 rfl 1 rfl rfl ?_
            refine ev_callVI (q := 74) dX7_letter_71 rfl ml_X7_219 mt_X7_whoRead cf_7 rfl ho hc_7 (con_X7_whoRead G _ _ ho _) rfl (Nat.le_of_ble_eq_true rfl) (Nat.le_of_ble_eq_true rfl) rfl (Nat.le_of_ble_eq_true rfl) (fun r10 m11 => ?_)
            exact ev_iret dX7_letter_74 rfl
/-! AgingLettersModel.costs(II)I -/
theorem dX7_costs_0 : decode cX7_costs 0 = .ok (.aload_n 0, 1) := by decide +kernel
theorem dX7_costs_1 : decode cX7_costs 1 = .ok (.iload_n 1, 1) := by decide +kernel
theorem dX7_costs_2 : decode cX7_costs 2 = .ok (.invokevirtual 180, 3) := by decide +kernel
theorem dX7_costs_5 : decode cX7_costs 5 = .ok (.ifCond .eq 20, 3) := by decide +kernel
theorem dX7_costs_8 : decode cX7_costs 8 = .ok (.aload_n 0, 1) := by decide +kernel
theorem dX7_costs_9 : decode cX7_costs 9 = .ok (.iload_n 2, 1) := by decide +kernel
theorem dX7_costs_10 : decode cX7_costs 10 = .ok (.invokevirtual 183, 3) := by decide +kernel
theorem dX7_costs_13 : decode cX7_costs 13 = .ok (.ifCond .eq 12, 3) := by decide +kernel
theorem dX7_costs_16 : decode cX7_costs 16 = .ok (.aload_n 0, 1) := by decide +kernel
theorem dX7_costs_17 : decode cX7_costs 17 = .ok (.iload_n 1, 1) := by decide +kernel
theorem dX7_costs_18 : decode cX7_costs 18 = .ok (.iload_n 2, 1) := by decide +kernel
theorem dX7_costs_19 : decode cX7_costs 19 = .ok (.invokevirtual 193, 3) := by decide +kernel
theorem dX7_costs_22 : decode cX7_costs 22 = .ok (.goto 5, 3) := by decide +kernel
theorem dX7_costs_25 : decode cX7_costs 25 = .ok (.ldc 73, 2) := by decide +kernel
theorem dX7_costs_27 : decode cX7_costs 27 = .ok (.ireturn, 1) := by decide +kernel
set_option maxRecDepth 100000 in
set_option maxHeartbeats 4000000 in
theorem con_X7_costs (G : Gt) (o : Nat) (a1 : Int32) (a2 : Int32) (ho : kd o = 7) (mem : Mem) : Con tvI G yX7_costs cX7_costs 3 (some .int) 5 [.ref (gA G o), .int a1, .int a2] mem (X7_costs o a1 a2 mem) := by
  refine con_of (by decide) (Nat.le_of_ble_eq_true rfl) ?_
  show EvR tvI G cX7_costs 3 (some .int) RX7 5 0 [(0, .ref (gA G o)), (1, .int (a1)), (2, .int (a2))] [] mem _
  unfold X7_costs
  refine ev_aload_n (q := 1) dX7_costs_0 rfl 0 rfl rfl ?_
  refine ev_iload_n (q := 2) dX7_costs_1 rfl 1 rfl rfl ?_
  refine ev_callVI (q := 5) dX7_costs_2 rfl ml_X7_180 mt_X7_isReader cf_7 rfl ho hc_7 (con_X7_isReader G _ _ ho _) rfl (Nat.le_of_ble_eq_true rfl) (Nat.le_of_ble_eq_true rfl) rfl (Nat.le_of_ble_eq_true rfl) (fun r1 m2 => ?_)
  refine ev_if_eq (t := 25) (q := 8) dX7_costs_5 rfl rfl (fun hc3 => ?_) (fun hc3 => ?_)
  · refine ev_ldc (q := 27) (v := (-1000001)) dX7_costs_25 rfl kc_X7_73 ?_
    exact ev_iret dX7_costs_27 rfl
  · refine ev_aload_n (q := 9) dX7_costs_8 rfl 0 rfl rfl ?_
    refine ev_iload_n (q := 10) dX7_costs_9 rfl 2 rfl rfl ?_
    refine ev_callVI (q := 13) dX7_costs_10 rfl ml_X7_183 mt_X7_isLetter cf_7 rfl ho hc_7 (con_X7_isLetter G _ _ ho _) rfl (Nat.le_of_ble_eq_true rfl) (Nat.le_of_ble_eq_true rfl) rfl (Nat.le_of_ble_eq_true rfl) (fun r4 m5 => ?_)
    refine ev_if_eq (t := 25) (q := 16) dX7_costs_13 rfl rfl (fun hc6 => ?_) (fun hc6 => ?_)
    · refine ev_ldc (q := 27) (v := (-1000001)) dX7_costs_25 rfl kc_X7_73 ?_
      exact ev_iret dX7_costs_27 rfl
    · refine ev_aload_n (q := 17) dX7_costs_16 rfl 0 rfl rfl ?_
      refine ev_iload_n (q := 18) dX7_costs_17 rfl 1 rfl rfl ?_
      refine ev_iload_n (q := 19) dX7_costs_18 rfl 2 rfl rfl ?_
      refine ev_callVI (q := 22) dX7_costs_19 rfl ml_X7_193 mt_X7_cost cf_7 rfl ho hc_7 (con_X7_cost G _ _ _ ho _) rfl (Nat.le_of_ble_eq_true rfl) (Nat.le_of_ble_eq_true rfl) rfl (Nat.le_of_ble_eq_true rfl) (fun r7 m8 => ?_)
      refine ev_goto (t := 27) dX7_costs_22 rfl ?_
      exact ev_iret dX7_costs_27 rfl
/-! AgingLettersModel.best(I)I -/
theorem dX7_best_0 : decode cX7_best 0 = .ok (.aload_n 0, 1) := by decide +kernel
theorem dX7_best_1 : decode cX7_best 1 = .ok (.iload_n 1, 1) := by decide +kernel
theorem dX7_best_2 : decode cX7_best 2 = .ok (.invokevirtual 183, 3) := by decide +kernel
theorem dX7_best_5 : decode cX7_best 5 = .ok (.ifCond .ne 6, 3) := by decide +kernel
theorem dX7_best_8 : decode cX7_best 8 = .ok (.ldc 73, 2) := by decide +kernel
theorem dX7_best_10 : decode cX7_best 10 = .ok (.ireturn, 1) := by decide +kernel
theorem dX7_best_11 : decode cX7_best 11 = .ok (.ldc 222, 2) := by decide +kernel
theorem dX7_best_13 : decode cX7_best 13 = .ok (.istore_n 2, 1) := by decide +kernel
theorem dX7_best_14 : decode cX7_best 14 = .ok (.iconst 0, 1) := by decide +kernel
theorem dX7_best_15 : decode cX7_best 15 = .ok (.istore_n 3, 1) := by decide +kernel
theorem dX7_best_16 : decode cX7_best 16 = .ok (.iconst 0, 1) := by decide +kernel
theorem dX7_best_17 : decode cX7_best 17 = .ok (.istore 4, 2) := by decide +kernel
theorem dX7_best_19 : decode cX7_best 19 = .ok (.iload 4, 2) := by decide +kernel
theorem dX7_best_21 : decode cX7_best 21 = .ok (.aload_n 0, 1) := by decide +kernel
theorem dX7_best_22 : decode cX7_best 22 = .ok (.invokevirtual 89, 3) := by decide +kernel
theorem dX7_best_25 : decode cX7_best 25 = .ok (.if_icmp .ge 78, 3) := by decide +kernel
theorem dX7_best_28 : decode cX7_best 28 = .ok (.aload_n 0, 1) := by decide +kernel
theorem dX7_best_29 : decode cX7_best 29 = .ok (.iload 4, 2) := by decide +kernel
theorem dX7_best_31 : decode cX7_best 31 = .ok (.invokevirtual 95, 3) := by decide +kernel
theorem dX7_best_34 : decode cX7_best 34 = .ok (.aload_n 0, 1) := by decide +kernel
theorem dX7_best_35 : decode cX7_best 35 = .ok (.iload 4, 2) := by decide +kernel
theorem dX7_best_37 : decode cX7_best 37 = .ok (.invokevirtual 92, 3) := by decide +kernel
theorem dX7_best_40 : decode cX7_best 40 = .ok (.isub, 1) := by decide +kernel
theorem dX7_best_41 : decode cX7_best 41 = .ok (.aload_n 0, 1) := by decide +kernel
theorem dX7_best_42 : decode cX7_best 42 = .ok (.iload 4, 2) := by decide +kernel
theorem dX7_best_44 : decode cX7_best 44 = .ok (.iload_n 1, 1) := by decide +kernel
theorem dX7_best_45 : decode cX7_best 45 = .ok (.invokevirtual 193, 3) := by decide +kernel
theorem dX7_best_48 : decode cX7_best 48 = .ok (.isub, 1) := by decide +kernel
theorem dX7_best_49 : decode cX7_best 49 = .ok (.istore 5, 2) := by decide +kernel
theorem dX7_best_51 : decode cX7_best 51 = .ok (.aload_n 0, 1) := by decide +kernel
theorem dX7_best_52 : decode cX7_best 52 = .ok (.iload 4, 2) := by decide +kernel
theorem dX7_best_54 : decode cX7_best 54 = .ok (.invokevirtual 186, 3) := by decide +kernel
theorem dX7_best_57 : decode cX7_best 57 = .ok (.ifCond .eq 13, 3) := by decide +kernel
theorem dX7_best_60 : decode cX7_best 60 = .ok (.iload 5, 2) := by decide +kernel
theorem dX7_best_62 : decode cX7_best 62 = .ok (.iload_n 3, 1) := by decide +kernel
theorem dX7_best_63 : decode cX7_best 63 = .ok (.if_icmp .le 7, 3) := by decide +kernel
theorem dX7_best_66 : decode cX7_best 66 = .ok (.iconst 1, 1) := by decide +kernel
theorem dX7_best_67 : decode cX7_best 67 = .ok (.goto 4, 3) := by decide +kernel
theorem dX7_best_70 : decode cX7_best 70 = .ok (.iconst 0, 1) := by decide +kernel
theorem dX7_best_71 : decode cX7_best 71 = .ok (.istore 6, 2) := by decide +kernel
theorem dX7_best_73 : decode cX7_best 73 = .ok (.iload 6, 2) := by decide +kernel
theorem dX7_best_75 : decode cX7_best 75 = .ok (.ifCond .eq 8, 3) := by decide +kernel
theorem dX7_best_78 : decode cX7_best 78 = .ok (.iload 4, 2) := by decide +kernel
theorem dX7_best_80 : decode cX7_best 80 = .ok (.goto 4, 3) := by decide +kernel
theorem dX7_best_83 : decode cX7_best 83 = .ok (.iload_n 2, 1) := by decide +kernel
theorem dX7_best_84 : decode cX7_best 84 = .ok (.istore_n 2, 1) := by decide +kernel
theorem dX7_best_85 : decode cX7_best 85 = .ok (.iload 6, 2) := by decide +kernel
theorem dX7_best_87 : decode cX7_best 87 = .ok (.ifCond .eq 8, 3) := by decide +kernel
theorem dX7_best_90 : decode cX7_best 90 = .ok (.iload 5, 2) := by decide +kernel
theorem dX7_best_92 : decode cX7_best 92 = .ok (.goto 4, 3) := by decide +kernel
theorem dX7_best_95 : decode cX7_best 95 = .ok (.iload_n 3, 1) := by decide +kernel
theorem dX7_best_96 : decode cX7_best 96 = .ok (.istore_n 3, 1) := by decide +kernel
theorem dX7_best_97 : decode cX7_best 97 = .ok (.iinc 4 1, 3) := by decide +kernel
theorem dX7_best_100 : decode cX7_best 100 = .ok (.goto (-81), 3) := by decide +kernel
theorem dX7_best_103 : decode cX7_best 103 = .ok (.iload_n 2, 1) := by decide +kernel
theorem dX7_best_104 : decode cX7_best 104 = .ok (.ireturn, 1) := by decide +kernel
set_option maxRecDepth 100000 in
set_option maxHeartbeats 4000000 in
theorem X7_best_b96_ok (G : Gt) (o : Nat) (ho : kd o = 7)   (k19 : Int32 → Int32 → Int32 → Int32 → Mem → Option (Int32 × Mem)) (hk19 : ∀ (x1 : Int32) (x2 : Int32) (x3 : Int32) (x4 : Int32) (mem : Mem), EvR tvI G cX7_best 7 (some .int) RX7 5 19 [(0, .ref (gA G o)), (1, .int (x1)), (2, .int (x2)), (3, .int (x3)), (4, .int (x4))] [] mem (k19 x1 x2 x3 x4 mem)) (x1 : Int32) (x2 : Int32) (x4 : Int32) (s0 : Int32) (mem : Mem) : EvR tvI G cX7_best 7 (some .int) RX7 5 96 [(0, .ref (gA G o)), (1, .int (x1)), (2, .int (x2)), (4, .int (x4))] [.int (s0)] mem (X7_best_b96 o k19 x1 x2 x4 s0 mem) := by
  unfold X7_best_b96
  refine ev_istore_n (q := 97) (lv2 := [(3, .int _), (0, .ref _), (1, .int _), (2, .int _), (4, .int _)]) dX7_best_96 rfl rfl (Nat.le_of_ble_eq_true rfl) rfl ?_
  refine ev_iinc (q := 100) (lv2 := [(4, .int _), (3, .int _), (0, .ref _), (1, .int _), (2, .int _)]) (v := x4 + 1) dX7_best_97 4 rfl rfl (congrArg (HAdd.hAdd _) li_1) (Nat.le_of_ble_eq_true rfl) rfl ?_
  refine ev_goto (t := 19) dX7_best_100 rfl ?_
  refine ev_sub (lv' := [(0, .ref _), (1, .int _), (2, .int _), (3, .int _), (4, .int _)]) [2, 3, 4, 1, 0] rfl ?_
  exact hk19 _ _ _ _ _
set_option maxRecDepth 100000 in
set_option maxHeartbeats 4000000 in
theorem X7_best_b84_ok (G : Gt) (o : Nat) (ho : kd o = 7)   (k19 : Int32 → Int32 → Int32 → Int32 → Mem → Option (Int32 × Mem)) (hk19 : ∀ (x1 : Int32) (x2 : Int32) (x3 : Int32) (x4 : Int32) (mem : Mem), EvR tvI G cX7_best 7 (some .int) RX7 5 19 [(0, .ref (gA G o)), (1, .int (x1)), (2, .int (x2)), (3, .int (x3)), (4, .int (x4))] [] mem (k19 x1 x2 x3 x4 mem)) (x1 : Int32) (x3 : Int32) (x4 : Int32) (x5 : Int32) (x6 : Int32) (s0 : Int32) (mem : Mem) : EvR tvI G cX7_best 7 (some .int) RX7 5 84 [(0, .ref (gA G o)), (1, .int (x1)), (3, .int (x3)), (4, .int (x4)), (5, .int (x5)), (6, .int (x6))] [.int (s0)] mem (X7_best_b84 o k19 x1 x3 x4 x5 x6 s0 mem) := by
  unfold X7_best_b84
  refine ev_istore_n (q := 85) (lv2 := [(2, .int _), (0, .ref _), (1, .int _), (3, .int _), (4, .int _), (5, .int _), (6, .int _)]) dX7_best_84 rfl rfl (Nat.le_of_ble_eq_true rfl) rfl ?_
  refine ev_iload (q := 87) dX7_best_85 6 rfl rfl ?_
  refine ev_if_eq (t := 95) (q := 90) dX7_best_87 rfl rfl (fun hc18 => ?_) (fun hc18 => ?_)
  · refine ev_iload_n (q := 96) dX7_best_95 rfl 3 rfl rfl ?_
    refine ev_sub (lv' := [(0, .ref _), (1, .int _), (2, .int _), (4, .int _)]) [1, 2, 0, 4] rfl ?_
    exact X7_best_b96_ok G o ho  k19 hk19 _ _ _ _ _
  · refine ev_iload (q := 92) dX7_best_90 5 rfl rfl ?_
    refine ev_goto (t := 96) dX7_best_92 rfl ?_
    refine ev_sub (lv' := [(0, .ref _), (1, .int _), (2, .int _), (4, .int _)]) [1, 2, 0, 4] rfl ?_
    exact X7_best_b96_ok G o ho  k19 hk19 _ _ _ _ _
set_option maxRecDepth 100000 in
set_option maxHeartbeats 4000000 in
theorem X7_best_b71_ok (G : Gt) (o : Nat) (ho : kd o = 7)   (k19 : Int32 → Int32 → Int32 → Int32 → Mem → Option (Int32 × Mem)) (hk19 : ∀ (x1 : Int32) (x2 : Int32) (x3 : Int32) (x4 : Int32) (mem : Mem), EvR tvI G cX7_best 7 (some .int) RX7 5 19 [(0, .ref (gA G o)), (1, .int (x1)), (2, .int (x2)), (3, .int (x3)), (4, .int (x4))] [] mem (k19 x1 x2 x3 x4 mem)) (x1 : Int32) (x2 : Int32) (x3 : Int32) (x4 : Int32) (x5 : Int32) (s0 : Int32) (mem : Mem) : EvR tvI G cX7_best 7 (some .int) RX7 5 71 [(0, .ref (gA G o)), (1, .int (x1)), (2, .int (x2)), (3, .int (x3)), (4, .int (x4)), (5, .int (x5))] [.int (s0)] mem (X7_best_b71 o k19 x1 x2 x3 x4 x5 s0 mem) := by
  unfold X7_best_b71
  refine ev_istore (q := 73) (lv2 := [(6, .int _), (0, .ref _), (1, .int _), (2, .int _), (3, .int _), (4, .int _), (5, .int _)]) dX7_best_71 rfl (Nat.le_of_ble_eq_true rfl) rfl ?_
  refine ev_iload (q := 75) dX7_best_73 0 rfl rfl ?_
  refine ev_if_eq (t := 83) (q := 78) dX7_best_75 rfl rfl (fun hc17 => ?_) (fun hc17 => ?_)
  · refine ev_iload_n (q := 84) dX7_best_83 rfl 3 rfl rfl ?_
    refine ev_sub (lv' := [(0, .ref _), (1, .int _), (3, .int _), (4, .int _), (5, .int _), (6, .int _)]) [1, 2, 4, 5, 6, 0] rfl ?_
    exact X7_best_b84_ok G o ho  k19 hk19 _ _ _ _ _ _ _
  · refine ev_iload (q := 80) dX7_best_78 5 rfl rfl ?_
    refine ev_goto (t := 84) dX7_best_80 rfl ?_
    refine ev_sub (lv' := [(0, .ref _), (1, .int _), (3, .int _), (4, .int _), (5, .int _), (6, .int _)]) [1, 2, 4, 5, 6, 0] rfl ?_
    exact X7_best_b84_ok G o ho  k19 hk19 _ _ _ _ _ _ _
set_option maxRecDepth 100000 in
set_option maxHeartbeats 4000000 in
theorem X7_best_b70_ok (G : Gt) (o : Nat) (ho : kd o = 7)   (k19 : Int32 → Int32 → Int32 → Int32 → Mem → Option (Int32 × Mem)) (hk19 : ∀ (x1 : Int32) (x2 : Int32) (x3 : Int32) (x4 : Int32) (mem : Mem), EvR tvI G cX7_best 7 (some .int) RX7 5 19 [(0, .ref (gA G o)), (1, .int (x1)), (2, .int (x2)), (3, .int (x3)), (4, .int (x4))] [] mem (k19 x1 x2 x3 x4 mem)) (x1 : Int32) (x2 : Int32) (x3 : Int32) (x4 : Int32) (x5 : Int32) (mem : Mem) : EvR tvI G cX7_best 7 (some .int) RX7 5 70 [(0, .ref (gA G o)), (1, .int (x1)), (2, .int (x2)), (3, .int (x3)), (4, .int (x4)), (5, .int (x5))] [] mem (X7_best_b70 o k19 x1 x2 x3 x4 x5 mem) := by
  unfold X7_best_b70
  refine ev_iconst (q := 71) (v := 0) dX7_best_70 rfl li_0 ?_
  exact X7_best_b71_ok G o ho  k19 hk19 _ _ _ _ _ _ _
set_option maxRecDepth 100000 in
set_option maxHeartbeats 4000000 in
theorem X7_best_b19_ok (G : Gt) (o : Nat) (ho : kd o = 7)    : ∀ (n : Nat) (x1 : Int32) (x2 : Int32) (x3 : Int32) (x4 : Int32) (mem : Mem), EvR tvI G cX7_best 7 (some .int) RX7 5 19 [(0, .ref (gA G o)), (1, .int (x1)), (2, .int (x2)), (3, .int (x3)), (4, .int (x4))] [] mem (X7_best_b19 o n x1 x2 x3 x4 mem) := by
  intro n
  induction n with
  | zero => intros; exact ev_none
  | succ n ih =>
    intro x1 x2 x3 x4 mem
    rw [X7_best_b19]
    refine ev_iload (q := 21) dX7_best_19 4 rfl rfl ?_
    refine ev_aload_n (q := 22) dX7_best_21 rfl 0 rfl rfl ?_
    refine ev_callVI (q := 25) dX7_best_22 rfl ml_X7_89 mt_X7_readers cf_7 rfl ho hc_7 (con_X7_readers G _ ho _) rfl (Nat.le_of_ble_eq_true rfl) (Nat.le_of_ble_eq_true rfl) rfl (Nat.le_of_ble_eq_true rfl) (fun r4 m5 => ?_)
    refine ev_icmp_ge (t := 103) (q := 28) dX7_best_25 rfl rfl (fun hc6 => ?_) (fun hc6 => ?_)
    · refine ev_aload_n (q := 29) dX7_best_28 rfl 0 rfl rfl ?_
      refine ev_iload (q := 31) dX7_best_29 4 rfl rfl ?_
      refine ev_callVI (q := 34) dX7_best_31 rfl ml_X7_95 mt_X7_span cf_7 rfl ho hc_7 (con_X7_span G _ _ ho _) rfl (Nat.le_of_ble_eq_true rfl) (Nat.le_of_ble_eq_true rfl) rfl (Nat.le_of_ble_eq_true rfl) (fun r7 m8 => ?_)
      refine ev_aload_n (q := 35) dX7_best_34 rfl 0 rfl rfl ?_
      refine ev_iload (q := 37) dX7_best_35 4 rfl rfl ?_
      refine ev_callVI (q := 40) dX7_best_37 rfl ml_X7_92 mt_X7_age cf_7 rfl ho hc_7 (con_X7_age G _ _ ho _) rfl (Nat.le_of_ble_eq_true rfl) (Nat.le_of_ble_eq_true rfl) rfl (Nat.le_of_ble_eq_true rfl) (fun r9 m10 => ?_)
      refine ev_isub (q := 41) dX7_best_40 rfl ?_
      refine ev_aload_n (q := 42) dX7_best_41 rfl 0 rfl rfl ?_
      refine ev_iload (q := 44) dX7_best_42 4 rfl rfl ?_
      refine ev_iload_n (q := 45) dX7_best_44 rfl 1 rfl rfl ?_
      refine ev_callVI (q := 48) dX7_best_45 rfl ml_X7_193 mt_X7_cost cf_7 rfl ho hc_7 (con_X7_cost G _ _ _ ho _) rfl (Nat.le_of_ble_eq_true rfl) (Nat.le_of_ble_eq_true rfl) rfl (Nat.le_of_ble_eq_true rfl) (fun r11 m12 => ?_)
      refine ev_isub (q := 49) dX7_best_48 rfl ?_
      refine ev_istore (q := 51) (lv2 := [(5, .int _), (0, .ref _), (1, .int _), (2, .int _), (3, .int _), (4, .int _)]) dX7_best_49 rfl (Nat.le_of_ble_eq_true rfl) rfl ?_
      refine ev_aload_n (q := 52) dX7_best_51 rfl 1 rfl rfl ?_
      refine ev_iload (q := 54) dX7_best_52 5 rfl rfl ?_
      refine ev_callVI (q := 57) dX7_best_54 rfl ml_X7_186 mt_X7_isFit cf_7 rfl ho hc_7 (con_X7_isFit G _ _ ho _) rfl (Nat.le_of_ble_eq_true rfl) (Nat.le_of_ble_eq_true rfl) rfl (Nat.le_of_ble_eq_true rfl) (fun r13 m14 => ?_)
      refine ev_if_eq (t := 70) (q := 60) dX7_best_57 rfl rfl (fun hc15 => ?_) (fun hc15 => ?_)
      · refine ev_sub (lv' := [(0, .ref _), (1, .int _), (2, .int _), (3, .int _), (4, .int _), (5, .int _)]) [1, 2, 3, 4, 5, 0] rfl ?_
        exact X7_best_b70_ok G o ho  (X7_best_b19 o n) ih _ _ _ _ _ _
      · refine ev_iload (q := 62) dX7_best_60 0 rfl rfl ?_
        refine ev_iload_n (q := 63) dX7_best_62 rfl 4 rfl rfl ?_
        refine ev_icmp_le (t := 70) (q := 66) dX7_best_63 rfl rfl (fun hc16 => ?_) (fun hc16 => ?_)
        · refine ev_iconst (q := 67) (v := 1) dX7_best_66 rfl li_1 ?_
          refine ev_goto (t := 71) dX7_best_67 rfl ?_
          refine ev_sub (lv' := [(0, .ref _), (1, .int _), (2, .int _), (3, .int _), (4, .int _), (5, .int _)]) [1, 2, 3, 4, 5, 0] rfl ?_
          exact X7_best_b71_ok G o ho  (X7_best_b19 o n) ih _ _ _ _ _ _ _
        · refine ev_sub (lv' := [(0, .ref _), (1, .int _), (2, .int _), (3, .int _), (4, .int _), (5, .int _)]) [1, 2, 3, 4, 5, 0] rfl ?_
          exact X7_best_b70_ok G o ho  (X7_best_b19 o n) ih _ _ _ _ _ _
    · refine ev_iload_n (q := 104) dX7_best_103 rfl 2 rfl rfl ?_
      exact ev_iret dX7_best_104 rfl
set_option maxRecDepth 100000 in
set_option maxHeartbeats 4000000 in
theorem con_X7_best (G : Gt) (o : Nat) (a1 : Int32) (ho : kd o = 7) (mem : Mem) : Con tvI G yX7_best cX7_best 7 (some .int) 5 [.ref (gA G o), .int a1] mem (X7_best o a1 mem) := by
  refine con_of (by decide) (Nat.le_of_ble_eq_true rfl) ?_
  show EvR tvI G cX7_best 7 (some .int) RX7 5 0 [(0, .ref (gA G o)), (1, .int (a1))] [] mem _
  unfold X7_best
  refine ev_aload_n (q := 1) dX7_best_0 rfl 0 rfl rfl ?_
  refine ev_iload_n (q := 2) dX7_best_1 rfl 1 rfl rfl ?_
  refine ev_callVI (q := 5) dX7_best_2 rfl ml_X7_183 mt_X7_isLetter cf_7 rfl ho hc_7 (con_X7_isLetter G _ _ ho _) rfl (Nat.le_of_ble_eq_true rfl) (Nat.le_of_ble_eq_true rfl) rfl (Nat.le_of_ble_eq_true rfl) (fun r1 m2 => ?_)
  refine ev_if_ne (t := 11) (q := 8) dX7_best_5 rfl rfl (fun hc3 => ?_) (fun hc3 => ?_)
  · refine ev_ldc (q := 10) (v := (-1000001)) dX7_best_8 rfl kc_X7_73 ?_
    exact ev_iret dX7_best_10 rfl
  · refine ev_ldc (q := 13) (v := (-1000000)) dX7_best_11 rfl kc_X7_222 ?_
    refine ev_istore_n (q := 14) (lv2 := [(2, .int _), (0, .ref _), (1, .int _)]) dX7_best_13 rfl rfl (Nat.le_of_ble_eq_true rfl) rfl ?_
    refine ev_iconst (q := 15) (v := 0) dX7_best_14 rfl li_0 ?_
    refine ev_istore_n (q := 16) (lv2 := [(3, .int _), (2, .int _), (0, .ref _), (1, .int _)]) dX7_best_15 rfl rfl (Nat.le_of_ble_eq_true rfl) rfl ?_
    refine ev_iconst (q := 17) (v := 0) dX7_best_16 rfl li_0 ?_
    refine ev_istore (q := 19) (lv2 := [(4, .int _), (3, .int _), (2, .int _), (0, .ref _), (1, .int _)]) dX7_best_17 rfl (Nat.le_of_ble_eq_true rfl) rfl ?_
    refine ev_sub (lv' := [(0, .ref _), (1, .int _), (2, .int _), (3, .int _), (4, .int _)]) [3, 4, 2, 1, 0] rfl ?_
    exact X7_best_b19_ok G o ho   fu _ _ _ _ _
/-! AgingLettersModel.unread()I -/
theorem dX7_unread_0 : decode cX7_unread 0 = .ok (.iconst 0, 1) := by decide +kernel
theorem dX7_unread_1 : decode cX7_unread 1 = .ok (.istore_n 1, 1) := by decide +kernel
theorem dX7_unread_2 : decode cX7_unread 2 = .ok (.iconst 0, 1) := by decide +kernel
theorem dX7_unread_3 : decode cX7_unread 3 = .ok (.istore_n 2, 1) := by decide +kernel
theorem dX7_unread_4 : decode cX7_unread 4 = .ok (.iload_n 2, 1) := by decide +kernel
theorem dX7_unread_5 : decode cX7_unread 5 = .ok (.aload_n 0, 1) := by decide +kernel
theorem dX7_unread_6 : decode cX7_unread 6 = .ok (.invokevirtual 85, 3) := by decide +kernel
theorem dX7_unread_9 : decode cX7_unread 9 = .ok (.if_icmp .ge 27, 3) := by decide +kernel
theorem dX7_unread_12 : decode cX7_unread 12 = .ok (.iload_n 1, 1) := by decide +kernel
theorem dX7_unread_13 : decode cX7_unread 13 = .ok (.aload_n 0, 1) := by decide +kernel
theorem dX7_unread_14 : decode cX7_unread 14 = .ok (.iload_n 2, 1) := by decide +kernel
theorem dX7_unread_15 : decode cX7_unread 15 = .ok (.invokevirtual 216, 3) := by decide +kernel
theorem dX7_unread_18 : decode cX7_unread 18 = .ok (.ifCond .ne 9, 3) := by decide +kernel
theorem dX7_unread_21 : decode cX7_unread 21 = .ok (.iconst 1, 1) := by decide +kernel
theorem dX7_unread_22 : decode cX7_unread 22 = .ok (.iload_n 2, 1) := by decide +kernel
theorem dX7_unread_23 : decode cX7_unread 23 = .ok (.ishl, 1) := by decide +kernel
theorem dX7_unread_24 : decode cX7_unread 24 = .ok (.goto 4, 3) := by decide +kernel
theorem dX7_unread_27 : decode cX7_unread 27 = .ok (.iconst 0, 1) := by decide +kernel
theorem dX7_unread_28 : decode cX7_unread 28 = .ok (.ior, 1) := by decide +kernel
theorem dX7_unread_29 : decode cX7_unread 29 = .ok (.istore_n 1, 1) := by decide +kernel
theorem dX7_unread_30 : decode cX7_unread 30 = .ok (.iinc 2 1, 3) := by decide +kernel
theorem dX7_unread_33 : decode cX7_unread 33 = .ok (.goto (-29), 3) := by decide +kernel
theorem dX7_unread_36 : decode cX7_unread 36 = .ok (.iload_n 1, 1) := by decide +kernel
theorem dX7_unread_37 : decode cX7_unread 37 = .ok (.ireturn, 1) := by decide +kernel
set_option maxRecDepth 100000 in
set_option maxHeartbeats 4000000 in
theorem X7_unread_b28_ok (G : Gt) (o : Nat) (ho : kd o = 7)   (k4 : Int32 → Int32 → Mem → Option (Int32 × Mem)) (hk4 : ∀ (x1 : Int32) (x2 : Int32) (mem : Mem), EvR tvI G cX7_unread 3 (some .int) RX7 3 4 [(0, .ref (gA G o)), (1, .int (x1)), (2, .int (x2))] [] mem (k4 x1 x2 mem)) (x2 : Int32) (s0 : Int32) (s1 : Int32) (mem : Mem) : EvR tvI G cX7_unread 3 (some .int) RX7 3 28 [(0, .ref (gA G o)), (2, .int (x2))] [.int (s1), .int (s0)] mem (X7_unread_b28 o k4 x2 s0 s1 mem) := by
  unfold X7_unread_b28
  refine ev_ior (q := 29) dX7_unread_28 rfl ?_
  refine ev_istore_n (q := 30) (lv2 := [(1, .int _), (0, .ref _), (2, .int _)]) dX7_unread_29 rfl rfl (Nat.le_of_ble_eq_true rfl) rfl ?_
  refine ev_iinc (q := 33) (lv2 := [(2, .int _), (1, .int _), (0, .ref _)]) (v := x2 + 1) dX7_unread_30 2 rfl rfl (congrArg (HAdd.hAdd _) li_1) (Nat.le_of_ble_eq_true rfl) rfl ?_
  refine ev_goto (t := 4) dX7_unread_33 rfl ?_
  refine ev_sub (lv' := [(0, .ref _), (1, .int _), (2, .int _)]) [2, 1, 0] rfl ?_
  exact hk4 _ _ _
set_option maxRecDepth 100000 in
set_option maxHeartbeats 4000000 in
theorem X7_unread_b4_ok (G : Gt) (o : Nat) (ho : kd o = 7)    : ∀ (n : Nat) (x1 : Int32) (x2 : Int32) (mem : Mem), EvR tvI G cX7_unread 3 (some .int) RX7 3 4 [(0, .ref (gA G o)), (1, .int (x1)), (2, .int (x2))] [] mem (X7_unread_b4 o n x1 x2 mem) := by
  intro n
  induction n with
  | zero => intros; exact ev_none
  | succ n ih =>
    intro x1 x2 mem
    rw [X7_unread_b4]
    refine ev_iload_n (q := 5) dX7_unread_4 rfl 2 rfl rfl ?_
    refine ev_aload_n (q := 6) dX7_unread_5 rfl 0 rfl rfl ?_
    refine ev_callVI (q := 9) dX7_unread_6 rfl ml_X7_85 mt_X7_letters cf_7 rfl ho hc_7 (con_X7_letters G _ ho _) rfl (Nat.le_of_ble_eq_true rfl) (Nat.le_of_ble_eq_true rfl) rfl (Nat.le_of_ble_eq_true rfl) (fun r1 m2 => ?_)
    refine ev_icmp_ge (t := 36) (q := 12) dX7_unread_9 rfl rfl (fun hc3 => ?_) (fun hc3 => ?_)
    · refine ev_iload_n (q := 13) dX7_unread_12 rfl 1 rfl rfl ?_
      refine ev_aload_n (q := 14) dX7_unread_13 rfl 0 rfl rfl ?_
      refine ev_iload_n (q := 15) dX7_unread_14 rfl 2 rfl rfl ?_
      refine ev_callVI (q := 18) dX7_unread_15 rfl ml_X7_216 mt_X7_readOf cf_7 rfl ho hc_7 (con_X7_readOf G _ _ ho _) rfl (Nat.le_of_ble_eq_true rfl) (Nat.le_of_ble_eq_true rfl) rfl (Nat.le_of_ble_eq_true rfl) (fun r4 m5 => ?_)
      refine ev_if_ne (t := 27) (q := 21) dX7_unread_18 rfl rfl (fun hc6 => ?_) (fun hc6 => ?_)
      · refine ev_iconst (q := 22) (v := 1) dX7_unread_21 rfl li_1 ?_
        refine ev_iload_n (q := 23) dX7_unread_22 rfl 2 rfl rfl ?_
        refine ev_ishl (q := 24) dX7_unread_23 rfl ?_
        refine ev_goto (t := 28) dX7_unread_24 rfl ?_
        refine ev_sub (lv' := [(0, .ref _), (2, .int _)]) [0, 2] rfl ?_
        exact X7_unread_b28_ok G o ho  (X7_unread_b4 o n) ih _ _ _ _
      · refine ev_iconst (q := 28) (v := 0) dX7_unread_27 rfl li_0 ?_
        refine ev_sub (lv' := [(0, .ref _), (2, .int _)]) [0, 2] rfl ?_
        exact X7_unread_b28_ok G o ho  (X7_unread_b4 o n) ih _ _ _ _
    · refine ev_iload_n (q := 37) dX7_unread_36 rfl 1 rfl rfl ?_
      exact ev_iret dX7_unread_37 rfl
set_option maxRecDepth 100000 in
set_option maxHeartbeats 4000000 in
theorem con_X7_unread (G : Gt) (o : Nat) (ho : kd o = 7) (mem : Mem) : Con tvI G yX7_unread cX7_unread 3 (some .int) 3 [.ref (gA G o)] mem (X7_unread o mem) := by
  refine con_of (by decide) (Nat.le_of_ble_eq_true rfl) ?_
  show EvR tvI G cX7_unread 3 (some .int) RX7 3 0 [(0, .ref (gA G o))] [] mem _
  unfold X7_unread
  refine ev_iconst (q := 1) (v := 0) dX7_unread_0 rfl li_0 ?_
  refine ev_istore_n (q := 2) (lv2 := [(1, .int _), (0, .ref _)]) dX7_unread_1 rfl rfl (Nat.le_of_ble_eq_true rfl) rfl ?_
  refine ev_iconst (q := 3) (v := 0) dX7_unread_2 rfl li_0 ?_
  refine ev_istore_n (q := 4) (lv2 := [(2, .int _), (1, .int _), (0, .ref _)]) dX7_unread_3 rfl rfl (Nat.le_of_ble_eq_true rfl) rfl ?_
  refine ev_sub (lv' := [(0, .ref _), (1, .int _), (2, .int _)]) [2, 1, 0] rfl ?_
  exact X7_unread_b4_ok G o ho   fu _ _ _
/-! AgingLettersModel.spentBy(I)I -/
theorem dX7_spentBy_0 : decode cX7_spentBy 0 = .ok (.aload_n 0, 1) := by decide +kernel
theorem dX7_spentBy_1 : decode cX7_spentBy 1 = .ok (.invokevirtual 223, 3) := by decide +kernel
theorem dX7_spentBy_4 : decode cX7_spentBy 4 = .ok (.istore_n 2, 1) := by decide +kernel
theorem dX7_spentBy_5 : decode cX7_spentBy 5 = .ok (.iload_n 1, 1) := by decide +kernel
theorem dX7_spentBy_6 : decode cX7_spentBy 6 = .ok (.istore_n 3, 1) := by decide +kernel
theorem dX7_spentBy_7 : decode cX7_spentBy 7 = .ok (.iconst 0, 1) := by decide +kernel
theorem dX7_spentBy_8 : decode cX7_spentBy 8 = .ok (.istore 4, 2) := by decide +kernel
theorem dX7_spentBy_10 : decode cX7_spentBy 10 = .ok (.aload_n 0, 1) := by decide +kernel
theorem dX7_spentBy_11 : decode cX7_spentBy 11 = .ok (.invokevirtual 85, 3) := by decide +kernel
theorem dX7_spentBy_14 : decode cX7_spentBy 14 = .ok (.iconst 1, 1) := by decide +kernel
theorem dX7_spentBy_15 : decode cX7_spentBy 15 = .ok (.isub, 1) := by decide +kernel
theorem dX7_spentBy_16 : decode cX7_spentBy 16 = .ok (.istore 5, 2) := by decide +kernel
theorem dX7_spentBy_18 : decode cX7_spentBy 18 = .ok (.iload 5, 2) := by decide +kernel
theorem dX7_spentBy_20 : decode cX7_spentBy 20 = .ok (.ifCond .lt 56, 3) := by decide +kernel
theorem dX7_spentBy_23 : decode cX7_spentBy 23 = .ok (.aload_n 0, 1) := by decide +kernel
theorem dX7_spentBy_24 : decode cX7_spentBy 24 = .ok (.getfield 34, 3) := by decide +kernel
theorem dX7_spentBy_27 : decode cX7_spentBy 27 = .ok (.iload 5, 2) := by decide +kernel
theorem dX7_spentBy_29 : decode cX7_spentBy 29 = .ok (.iload_n 2, 1) := by decide +kernel
theorem dX7_spentBy_30 : decode cX7_spentBy 30 = .ok (.iload 5, 2) := by decide +kernel
theorem dX7_spentBy_32 : decode cX7_spentBy 32 = .ok (.invokestatic 200, 3) := by decide +kernel
theorem dX7_spentBy_35 : decode cX7_spentBy 35 = .ok (.ifCond .eq 12, 3) := by decide +kernel
theorem dX7_spentBy_38 : decode cX7_spentBy 38 = .ok (.iload_n 3, 1) := by decide +kernel
theorem dX7_spentBy_39 : decode cX7_spentBy 39 = .ok (.aload_n 0, 1) := by decide +kernel
theorem dX7_spentBy_40 : decode cX7_spentBy 40 = .ok (.invokevirtual 89, 3) := by decide +kernel
theorem dX7_spentBy_43 : decode cX7_spentBy 43 = .ok (.irem, 1) := by decide +kernel
theorem dX7_spentBy_44 : decode cX7_spentBy 44 = .ok (.goto 5, 3) := by decide +kernel
theorem dX7_spentBy_47 : decode cX7_spentBy 47 = .ok (.ldc 222, 2) := by decide +kernel
theorem dX7_spentBy_49 : decode cX7_spentBy 49 = .ok (.iastore, 1) := by decide +kernel
theorem dX7_spentBy_50 : decode cX7_spentBy 50 = .ok (.iload_n 2, 1) := by decide +kernel
theorem dX7_spentBy_51 : decode cX7_spentBy 51 = .ok (.iload 5, 2) := by decide +kernel
theorem dX7_spentBy_53 : decode cX7_spentBy 53 = .ok (.invokestatic 200, 3) := by decide +kernel
theorem dX7_spentBy_56 : decode cX7_spentBy 56 = .ok (.ifCond .eq 12, 3) := by decide +kernel
theorem dX7_spentBy_59 : decode cX7_spentBy 59 = .ok (.iload_n 3, 1) := by decide +kernel
theorem dX7_spentBy_60 : decode cX7_spentBy 60 = .ok (.aload_n 0, 1) := by decide +kernel
theorem dX7_spentBy_61 : decode cX7_spentBy 61 = .ok (.invokevirtual 89, 3) := by decide +kernel
theorem dX7_spentBy_64 : decode cX7_spentBy 64 = .ok (.idiv, 1) := by decide +kernel
theorem dX7_spentBy_65 : decode cX7_spentBy 65 = .ok (.goto 4, 3) := by decide +kernel
theorem dX7_spentBy_68 : decode cX7_spentBy 68 = .ok (.iload_n 3, 1) := by decide +kernel
theorem dX7_spentBy_69 : decode cX7_spentBy 69 = .ok (.istore_n 3, 1) := by decide +kernel
theorem dX7_spentBy_70 : decode cX7_spentBy 70 = .ok (.iinc 5 (-1), 3) := by decide +kernel
theorem dX7_spentBy_73 : decode cX7_spentBy 73 = .ok (.goto (-55), 3) := by decide +kernel
theorem dX7_spentBy_76 : decode cX7_spentBy 76 = .ok (.iconst 0, 1) := by decide +kernel
theorem dX7_spentBy_77 : decode cX7_spentBy 77 = .ok (.istore 5, 2) := by decide +kernel
theorem dX7_spentBy_79 : decode cX7_spentBy 79 = .ok (.iload 5, 2) := by decide +kernel
theorem dX7_spentBy_81 : decode cX7_spentBy 81 = .ok (.aload_n 0, 1) := by decide +kernel
theorem dX7_spentBy_82 : decode cX7_spentBy 82 = .ok (.invokevirtual 89, 3) := by decide +kernel
theorem dX7_spentBy_85 : decode cX7_spentBy 85 = .ok (.if_icmp .ge 29, 3) := by decide +kernel
theorem dX7_spentBy_88 : decode cX7_spentBy 88 = .ok (.aload_n 0, 1) := by decide +kernel
theorem dX7_spentBy_89 : decode cX7_spentBy 89 = .ok (.getfield 37, 3) := by decide +kernel
theorem dX7_spentBy_92 : decode cX7_spentBy 92 = .ok (.iload 5, 2) := by decide +kernel
theorem dX7_spentBy_94 : decode cX7_spentBy 94 = .ok (.aload_n 0, 1) := by decide +kernel
theorem dX7_spentBy_95 : decode cX7_spentBy 95 = .ok (.iload 5, 2) := by decide +kernel
theorem dX7_spentBy_97 : decode cX7_spentBy 97 = .ok (.invokevirtual 95, 3) := by decide +kernel
theorem dX7_spentBy_100 : decode cX7_spentBy 100 = .ok (.aload_n 0, 1) := by decide +kernel
theorem dX7_spentBy_101 : decode cX7_spentBy 101 = .ok (.iload 5, 2) := by decide +kernel
theorem dX7_spentBy_103 : decode cX7_spentBy 103 = .ok (.invokevirtual 92, 3) := by decide +kernel
theorem dX7_spentBy_106 : decode cX7_spentBy 106 = .ok (.isub, 1) := by decide +kernel
theorem dX7_spentBy_107 : decode cX7_spentBy 107 = .ok (.iastore, 1) := by decide +kernel
theorem dX7_spentBy_108 : decode cX7_spentBy 108 = .ok (.iinc 5 1, 3) := by decide +kernel
theorem dX7_spentBy_111 : decode cX7_spentBy 111 = .ok (.goto (-32), 3) := by decide +kernel
theorem dX7_spentBy_114 : decode cX7_spentBy 114 = .ok (.iconst 1, 1) := by decide +kernel
theorem dX7_spentBy_115 : decode cX7_spentBy 115 = .ok (.istore 5, 2) := by decide +kernel
theorem dX7_spentBy_117 : decode cX7_spentBy 117 = .ok (.iconst 0, 1) := by decide +kernel
theorem dX7_spentBy_118 : decode cX7_spentBy 118 = .ok (.istore 6, 2) := by decide +kernel
theorem dX7_spentBy_120 : decode cX7_spentBy 120 = .ok (.iload 6, 2) := by decide +kernel
theorem dX7_spentBy_122 : decode cX7_spentBy 122 = .ok (.aload_n 0, 1) := by decide +kernel
theorem dX7_spentBy_123 : decode cX7_spentBy 123 = .ok (.invokevirtual 85, 3) := by decide +kernel
theorem dX7_spentBy_126 : decode cX7_spentBy 126 = .ok (.if_icmp .ge 79, 3) := by decide +kernel
theorem dX7_spentBy_129 : decode cX7_spentBy 129 = .ok (.iload_n 2, 1) := by decide +kernel
theorem dX7_spentBy_130 : decode cX7_spentBy 130 = .ok (.iload 6, 2) := by decide +kernel
theorem dX7_spentBy_132 : decode cX7_spentBy 132 = .ok (.invokestatic 200, 3) := by decide +kernel
theorem dX7_spentBy_135 : decode cX7_spentBy 135 = .ok (.ifCond .eq 64, 3) := by decide +kernel
theorem dX7_spentBy_138 : decode cX7_spentBy 138 = .ok (.aload_n 0, 1) := by decide +kernel
theorem dX7_spentBy_139 : decode cX7_spentBy 139 = .ok (.getfield 34, 3) := by decide +kernel
theorem dX7_spentBy_142 : decode cX7_spentBy 142 = .ok (.iload 6, 2) := by decide +kernel
theorem dX7_spentBy_144 : decode cX7_spentBy 144 = .ok (.iaload, 1) := by decide +kernel
theorem dX7_spentBy_145 : decode cX7_spentBy 145 = .ok (.istore 7, 2) := by decide +kernel
theorem dX7_spentBy_147 : decode cX7_spentBy 147 = .ok (.aload_n 0, 1) := by decide +kernel
theorem dX7_spentBy_148 : decode cX7_spentBy 148 = .ok (.getfield 37, 3) := by decide +kernel
theorem dX7_spentBy_151 : decode cX7_spentBy 151 = .ok (.iload 7, 2) := by decide +kernel
theorem dX7_spentBy_153 : decode cX7_spentBy 153 = .ok (.dup2, 1) := by decide +kernel
theorem dX7_spentBy_154 : decode cX7_spentBy 154 = .ok (.iaload, 1) := by decide +kernel
theorem dX7_spentBy_155 : decode cX7_spentBy 155 = .ok (.aload_n 0, 1) := by decide +kernel
theorem dX7_spentBy_156 : decode cX7_spentBy 156 = .ok (.iload 7, 2) := by decide +kernel
theorem dX7_spentBy_158 : decode cX7_spentBy 158 = .ok (.iload 6, 2) := by decide +kernel
theorem dX7_spentBy_160 : decode cX7_spentBy 160 = .ok (.invokevirtual 193, 3) := by decide +kernel
theorem dX7_spentBy_163 : decode cX7_spentBy 163 = .ok (.isub, 1) := by decide +kernel
theorem dX7_spentBy_164 : decode cX7_spentBy 164 = .ok (.iastore, 1) := by decide +kernel
theorem dX7_spentBy_165 : decode cX7_spentBy 165 = .ok (.iload 4, 2) := by decide +kernel
theorem dX7_spentBy_167 : decode cX7_spentBy 167 = .ok (.aload_n 0, 1) := by decide +kernel
theorem dX7_spentBy_168 : decode cX7_spentBy 168 = .ok (.iload 7, 2) := by decide +kernel
theorem dX7_spentBy_170 : decode cX7_spentBy 170 = .ok (.iload 6, 2) := by decide +kernel
theorem dX7_spentBy_172 : decode cX7_spentBy 172 = .ok (.invokevirtual 193, 3) := by decide +kernel
theorem dX7_spentBy_175 : decode cX7_spentBy 175 = .ok (.iadd, 1) := by decide +kernel
theorem dX7_spentBy_176 : decode cX7_spentBy 176 = .ok (.istore 4, 2) := by decide +kernel
theorem dX7_spentBy_178 : decode cX7_spentBy 178 = .ok (.iload 5, 2) := by decide +kernel
theorem dX7_spentBy_180 : decode cX7_spentBy 180 = .ok (.ifCond .eq 16, 3) := by decide +kernel
theorem dX7_spentBy_183 : decode cX7_spentBy 183 = .ok (.aload_n 0, 1) := by decide +kernel
theorem dX7_spentBy_184 : decode cX7_spentBy 184 = .ok (.iload 7, 2) := by decide +kernel
theorem dX7_spentBy_186 : decode cX7_spentBy 186 = .ok (.invokevirtual 186, 3) := by decide +kernel
theorem dX7_spentBy_189 : decode cX7_spentBy 189 = .ok (.ifCond .eq 7, 3) := by decide +kernel
theorem dX7_spentBy_192 : decode cX7_spentBy 192 = .ok (.iconst 1, 1) := by decide +kernel
theorem dX7_spentBy_193 : decode cX7_spentBy 193 = .ok (.goto 4, 3) := by decide +kernel
theorem dX7_spentBy_196 : decode cX7_spentBy 196 = .ok (.iconst 0, 1) := by decide +kernel
theorem dX7_spentBy_197 : decode cX7_spentBy 197 = .ok (.istore 5, 2) := by decide +kernel
theorem dX7_spentBy_199 : decode cX7_spentBy 199 = .ok (.iinc 6 1, 3) := by decide +kernel
theorem dX7_spentBy_202 : decode cX7_spentBy 202 = .ok (.goto (-82), 3) := by decide +kernel
theorem dX7_spentBy_205 : decode cX7_spentBy 205 = .ok (.iconst 0, 1) := by decide +kernel
theorem dX7_spentBy_206 : decode cX7_spentBy 206 = .ok (.istore 6, 2) := by decide +kernel
theorem dX7_spentBy_208 : decode cX7_spentBy 208 = .ok (.iload 6, 2) := by decide +kernel
theorem dX7_spentBy_210 : decode cX7_spentBy 210 = .ok (.aload_n 0, 1) := by decide +kernel
theorem dX7_spentBy_211 : decode cX7_spentBy 211 = .ok (.invokevirtual 89, 3) := by decide +kernel
theorem dX7_spentBy_214 : decode cX7_spentBy 214 = .ok (.if_icmp .ge 40, 3) := by decide +kernel
theorem dX7_spentBy_217 : decode cX7_spentBy 217 = .ok (.iload 5, 2) := by decide +kernel
theorem dX7_spentBy_219 : decode cX7_spentBy 219 = .ok (.ifCond .eq 26, 3) := by decide +kernel
theorem dX7_spentBy_222 : decode cX7_spentBy 222 = .ok (.aload_n 0, 1) := by decide +kernel
theorem dX7_spentBy_223 : decode cX7_spentBy 223 = .ok (.getfield 37, 3) := by decide +kernel
theorem dX7_spentBy_226 : decode cX7_spentBy 226 = .ok (.iload 6, 2) := by decide +kernel
theorem dX7_spentBy_228 : decode cX7_spentBy 228 = .ok (.iaload, 1) := by decide +kernel
theorem dX7_spentBy_229 : decode cX7_spentBy 229 = .ok (.ifCond .gt 12, 3) := by decide +kernel
theorem dX7_spentBy_232 : decode cX7_spentBy 232 = .ok (.aload_n 0, 1) := by decide +kernel
theorem dX7_spentBy_233 : decode cX7_spentBy 233 = .ok (.iload 6, 2) := by decide +kernel
theorem dX7_spentBy_235 : decode cX7_spentBy 235 = .ok (.invokevirtual 186, 3) := by decide +kernel
theorem dX7_spentBy_238 : decode cX7_spentBy 238 = .ok (.ifCond .ne 7, 3) := by decide +kernel
theorem dX7_spentBy_241 : decode cX7_spentBy 241 = .ok (.iconst 1, 1) := by decide +kernel
theorem dX7_spentBy_242 : decode cX7_spentBy 242 = .ok (.goto 4, 3) := by decide +kernel
theorem dX7_spentBy_245 : decode cX7_spentBy 245 = .ok (.iconst 0, 1) := by decide +kernel
theorem dX7_spentBy_246 : decode cX7_spentBy 246 = .ok (.istore 5, 2) := by decide +kernel
theorem dX7_spentBy_248 : decode cX7_spentBy 248 = .ok (.iinc 6 1, 3) := by decide +kernel
theorem dX7_spentBy_251 : decode cX7_spentBy 251 = .ok (.goto (-43), 3) := by decide +kernel
theorem dX7_spentBy_254 : decode cX7_spentBy 254 = .ok (.iload 5, 2) := by decide +kernel
theorem dX7_spentBy_256 : decode cX7_spentBy 256 = .ok (.ifCond .eq 8, 3) := by decide +kernel
theorem dX7_spentBy_259 : decode cX7_spentBy 259 = .ok (.iload 4, 2) := by decide +kernel
theorem dX7_spentBy_261 : decode cX7_spentBy 261 = .ok (.goto 5, 3) := by decide +kernel
theorem dX7_spentBy_264 : decode cX7_spentBy 264 = .ok (.ldc 226, 2) := by decide +kernel
theorem dX7_spentBy_266 : decode cX7_spentBy 266 = .ok (.ireturn, 1) := by decide +kernel
set_option maxRecDepth 100000 in
set_option maxHeartbeats 4000000 in
theorem X7_spentBy_b246_ok (G : Gt) (o : Nat) (ho : kd o = 7)   (k208 : Int32 → Int32 → Int32 → Mem → Option (Int32 × Mem)) (hk208 : ∀ (x4 : Int32) (x5 : Int32) (x6 : Int32) (mem : Mem), EvR tvI G cX7_spentBy 8 (some .int) RX7 5 208 [(0, .ref (gA G o)), (4, .int (x4)), (5, .int (x5)), (6, .int (x6))] [] mem (k208 x4 x5 x6 mem)) (x4 : Int32) (x6 : Int32) (s0 : Int32) (mem : Mem) : EvR tvI G cX7_spentBy 8 (some .int) RX7 5 246 [(0, .ref (gA G o)), (4, .int (x4)), (6, .int (x6))] [.int (s0)] mem (X7_spentBy_b246 o k208 x4 x6 s0 mem) := by
  unfold X7_spentBy_b246
  refine ev_istore (q := 248) (lv2 := [(5, .int _), (0, .ref _), (4, .int _), (6, .int _)]) dX7_spentBy_246 rfl (Nat.le_of_ble_eq_true rfl) rfl ?_
  refine ev_iinc (q := 251) (lv2 := [(6, .int _), (5, .int _), (0, .ref _), (4, .int _)]) (v := x6 + 1) dX7_spentBy_248 3 rfl rfl (congrArg (HAdd.hAdd _) li_1) (Nat.le_of_ble_eq_true rfl) rfl ?_
  refine ev_goto (t := 208) dX7_spentBy_251 rfl ?_
  refine ev_sub (lv' := [(0, .ref _), (4, .int _), (5, .int _), (6, .int _)]) [2, 3, 1, 0] rfl ?_
  exact hk208 _ _ _ _
set_option maxRecDepth 100000 in
set_option maxHeartbeats 4000000 in
theorem X7_spentBy_b245_ok (G : Gt) (o : Nat) (ho : kd o = 7)   (k208 : Int32 → Int32 → Int32 → Mem → Option (Int32 × Mem)) (hk208 : ∀ (x4 : Int32) (x5 : Int32) (x6 : Int32) (mem : Mem), EvR tvI G cX7_spentBy 8 (some .int) RX7 5 208 [(0, .ref (gA G o)), (4, .int (x4)), (5, .int (x5)), (6, .int (x6))] [] mem (k208 x4 x5 x6 mem)) (x4 : Int32) (x6 : Int32) (mem : Mem) : EvR tvI G cX7_spentBy 8 (some .int) RX7 5 245 [(0, .ref (gA G o)), (4, .int (x4)), (6, .int (x6))] [] mem (X7_spentBy_b245 o k208 x4 x6 mem) := by
  unfold X7_spentBy_b245
  refine ev_iconst (q := 246) (v := 0) dX7_spentBy_245 rfl li_0 ?_
  exact X7_spentBy_b246_ok G o ho  k208 hk208 _ _ _ _
set_option maxRecDepth 100000 in
set_option maxHeartbeats 4000000 in
theorem X7_spentBy_b241_ok (G : Gt) (o : Nat) (ho : kd o = 7)   (k208 : Int32 → Int32 → Int32 → Mem → Option (Int32 × Mem)) (hk208 : ∀ (x4 : Int32) (x5 : Int32) (x6 : Int32) (mem : Mem), EvR tvI G cX7_spentBy 8 (some .int) RX7 5 208 [(0, .ref (gA G o)), (4, .int (x4)), (5, .int (x5)), (6, .int (x6))] [] mem (k208 x4 x5 x6 mem)) (x4 : Int32) (x6 : Int32) (mem : Mem) : EvR tvI G cX7_spentBy 8 (some .int) RX7 5 241 [(0, .ref (gA G o)), (4, .int (x4)), (6, .int (x6))] [] mem (X7_spentBy_b241 o k208 x4 x6 mem) := by
  unfold X7_spentBy_b241
  refine ev_iconst (q := 242) (v := 1) dX7_spentBy_241 rfl li_1 ?_
  refine ev_goto (t := 246) dX7_spentBy_242 rfl ?_
  exact X7_spentBy_b246_ok G o ho  k208 hk208 _ _ _ _
set_option maxRecDepth 100000 in
set_option maxHeartbeats 4000000 in
theorem X7_spentBy_b208_ok (G : Gt) (o : Nat) (ho : kd o = 7)    : ∀ (n : Nat) (x4 : Int32) (x5 : Int32) (x6 : Int32) (mem : Mem), EvR tvI G cX7_spentBy 8 (some .int) RX7 5 208 [(0, .ref (gA G o)), (4, .int (x4)), (5, .int (x5)), (6, .int (x6))] [] mem (X7_spentBy_b208 o n x4 x5 x6 mem) := by
  intro n
  induction n with
  | zero => intros; exact ev_none
  | succ n ih =>
    intro x4 x5 x6 mem
    rw [X7_spentBy_b208]
    refine ev_iload (q := 210) dX7_spentBy_208 3 rfl rfl ?_
    refine ev_aload_n (q := 211) dX7_spentBy_210 rfl 0 rfl rfl ?_
    refine ev_callVI (q := 214) dX7_spentBy_211 rfl ml_X7_89 mt_X7_readers cf_7 rfl ho hc_7 (con_X7_readers G _ ho _) rfl (Nat.le_of_ble_eq_true rfl) (Nat.le_of_ble_eq_true rfl) rfl (Nat.le_of_ble_eq_true rfl) (fun r42 m43 => ?_)
    refine ev_icmp_ge (t := 254) (q := 217) dX7_spentBy_214 rfl rfl (fun hc44 => ?_) (fun hc44 => ?_)
    · refine ev_iload (q := 219) dX7_spentBy_217 2 rfl rfl ?_
      refine ev_if_eq (t := 245) (q := 222) dX7_spentBy_219 rfl rfl (fun hc46 => ?_) (fun hc46 => ?_)
      · refine ev_sub (lv' := [(0, .ref _), (4, .int _), (6, .int _)]) [0, 1, 3] rfl ?_
        exact X7_spentBy_b245_ok G o ho  (X7_spentBy_b208 o n) ih _ _ _
      · refine ev_aload_n (q := 223) dX7_spentBy_222 rfl 0 rfl rfl ?_
        refine ev_getR (q := 226) (ci := 7) (j := 16) (T := TX7) dX7_spentBy_223 rfl cf_7 ho hj_7_16 hc_7 gf_X7_37 rfl ?_
        refine ev_iload (q := 228) dX7_spentBy_226 3 rfl rfl ?_
        refine ev_iald (q := 229) dX7_spentBy_228 rfl (kr_7_16 ho) (fun z47 => ?_)
        refine ev_if_gt (t := 241) (q := 232) dX7_spentBy_229 rfl rfl (fun hc48 => ?_) (fun hc48 => ?_)
        · refine ev_sub (lv' := [(0, .ref _), (4, .int _), (6, .int _)]) [0, 1, 3] rfl ?_
          exact X7_spentBy_b241_ok G o ho  (X7_spentBy_b208 o n) ih _ _ _
        · refine ev_aload_n (q := 233) dX7_spentBy_232 rfl 0 rfl rfl ?_
          refine ev_iload (q := 235) dX7_spentBy_233 3 rfl rfl ?_
          refine ev_callVI (q := 238) dX7_spentBy_235 rfl ml_X7_186 mt_X7_isFit cf_7 rfl ho hc_7 (con_X7_isFit G _ _ ho _) rfl (Nat.le_of_ble_eq_true rfl) (Nat.le_of_ble_eq_true rfl) rfl (Nat.le_of_ble_eq_true rfl) (fun r49 m50 => ?_)
          refine ev_if_ne (t := 245) (q := 241) dX7_spentBy_238 rfl rfl (fun hc51 => ?_) (fun hc51 => ?_)
          · refine ev_sub (lv' := [(0, .ref _), (4, .int _), (6, .int _)]) [0, 1, 3] rfl ?_
            exact X7_spentBy_b241_ok G o ho  (X7_spentBy_b208 o n) ih _ _ _
          · refine ev_sub (lv' := [(0, .ref _), (4, .int _), (6, .int _)]) [0, 1, 3] rfl ?_
            exact X7_spentBy_b245_ok G o ho  (X7_spentBy_b208 o n) ih _ _ _
    · refine ev_iload (q := 256) dX7_spentBy_254 2 rfl rfl ?_
      refine ev_if_eq (t := 264) (q := 259) dX7_spentBy_256 rfl rfl (fun hc45 => ?_) (fun hc45 => ?_)
      · refine ev_ldc (q := 266) (v := 1000000) dX7_spentBy_264 rfl kc_X7_226 ?_
        exact ev_iret dX7_spentBy_266 rfl
      · refine ev_iload (q := 261) dX7_spentBy_259 1 rfl rfl ?_
        refine ev_goto (t := 266) dX7_spentBy_261 rfl ?_
        exact ev_iret dX7_spentBy_266 rfl
set_option maxRecDepth 100000 in
set_option maxHeartbeats 4000000 in
theorem X7_spentBy_b199_ok (G : Gt) (o : Nat) (ho : kd o = 7)   (k120 : Int32 → Int32 → Int32 → Int32 → Mem → Option (Int32 × Mem)) (hk120 : ∀ (x2 : Int32) (x4 : Int32) (x5 : Int32) (x6 : Int32) (mem : Mem), EvR tvI G cX7_spentBy 8 (some .int) RX7 5 120 [(0, .ref (gA G o)), (2, .int (x2)), (4, .int (x4)), (5, .int (x5)), (6, .int (x6))] [] mem (k120 x2 x4 x5 x6 mem)) (x2 : Int32) (x4 : Int32) (x5 : Int32) (x6 : Int32) (mem : Mem) : EvR tvI G cX7_spentBy 8 (some .int) RX7 5 199 [(0, .ref (gA G o)), (2, .int (x2)), (4, .int (x4)), (5, .int (x5)), (6, .int (x6))] [] mem (X7_spentBy_b199 o k120 x2 x4 x5 x6 mem) := by
  unfold X7_spentBy_b199
  refine ev_iinc (q := 202) (lv2 := [(6, .int _), (0, .ref _), (2, .int _), (4, .int _), (5, .int _)]) (v := x6 + 1) dX7_spentBy_199 4 rfl rfl (congrArg (HAdd.hAdd _) li_1) (Nat.le_of_ble_eq_true rfl) rfl ?_
  refine ev_goto (t := 120) dX7_spentBy_202 rfl ?_
  refine ev_sub (lv' := [(0, .ref _), (2, .int _), (4, .int _), (5, .int _), (6, .int _)]) [1, 2, 3, 4, 0] rfl ?_
  exact hk120 _ _ _ _ _
set_option maxRecDepth 100000 in
set_option maxHeartbeats 4000000 in
theorem X7_spentBy_b197_ok (G : Gt) (o : Nat) (ho : kd o = 7)   (k120 : Int32 → Int32 → Int32 → Int32 → Mem → Option (Int32 × Mem)) (hk120 : ∀ (x2 : Int32) (x4 : Int32) (x5 : Int32) (x6 : Int32) (mem : Mem), EvR tvI G cX7_spentBy 8 (some .int) RX7 5 120 [(0, .ref (gA G o)), (2, .int (x2)), (4, .int (x4)), (5, .int (x5)), (6, .int (x6))] [] mem (k120 x2 x4 x5 x6 mem)) (x2 : Int32) (x4 : Int32) (x6 : Int32) (s0 : Int32) (mem : Mem) : EvR tvI G cX7_spentBy 8 (some .int) RX7 5 197 [(0, .ref (gA G o)), (2, .int (x2)), (4, .int (x4)), (6, .int (x6))] [.int (s0)] mem (X7_spentBy_b197 o k120 x2 x4 x6 s0 mem) := by
  unfold X7_spentBy_b197
  refine ev_istore (q := 199) (lv2 := [(5, .int _), (0, .ref _), (2, .int _), (4, .int _), (6, .int _)]) dX7_spentBy_197 rfl (Nat.le_of_ble_eq_true rfl) rfl ?_
  refine ev_sub (lv' := [(0, .ref _), (2, .int _), (4, .int _), (5, .int _), (6, .int _)]) [1, 2, 3, 0, 4] rfl ?_
  exact X7_spentBy_b199_ok G o ho  k120 hk120 _ _ _ _ _
set_option maxRecDepth 100000 in
set_option maxHeartbeats 4000000 in
theorem X7_spentBy_b196_ok (G : Gt) (o : Nat) (ho : kd o = 7)   (k120 : Int32 → Int32 → Int32 → Int32 → Mem → Option (Int32 × Mem)) (hk120 : ∀ (x2 : Int32) (x4 : Int32) (x5 : Int32) (x6 : Int32) (mem : Mem), EvR tvI G cX7_spentBy 8 (some .int) RX7 5 120 [(0, .ref (gA G o)), (2, .int (x2)), (4, .int (x4)), (5, .int (x5)), (6, .int (x6))] [] mem (k120 x2 x4 x5 x6 mem)) (x2 : Int32) (x4 : Int32) (x6 : Int32) (mem : Mem) : EvR tvI G cX7_spentBy 8 (some .int) RX7 5 196 [(0, .ref (gA G o)), (2, .int (x2)), (4, .int (x4)), (6, .int (x6))] [] mem (X7_spentBy_b196 o k120 x2 x4 x6 mem) := by
  unfold X7_spentBy_b196
  refine ev_iconst (q := 197) (v := 0) dX7_spentBy_196 rfl li_0 ?_
  exact X7_spentBy_b197_ok G o ho  k120 hk120 _ _ _ _ _
set_option maxRecDepth 100000 in
set_option maxHeartbeats 4000000 in
theorem X7_spentBy_b120_ok (G : Gt) (o : Nat) (ho : kd o = 7)    : ∀ (n : Nat) (x2 : Int32) (x4 : Int32) (x5 : Int32) (x6 : Int32) (mem : Mem), EvR tvI G cX7_spentBy 8 (some .int) RX7 5 120 [(0, .ref (gA G o)), (2, .int (x2)), (4, .int (x4)), (5, .int (x5)), (6, .int (x6))] [] mem (X7_spentBy_b120 o n x2 x4 x5 x6 mem) := by
  intro n
  induction n with
  | zero => intros; exact ev_none
  | succ n ih =>
    intro x2 x4 x5 x6 mem
    rw [X7_spentBy_b120]
    refine ev_iload (q := 122) dX7_spentBy_120 4 rfl rfl ?_
    refine ev_aload_n (q := 123) dX7_spentBy_122 rfl 0 rfl rfl ?_
    refine ev_callVI (q := 126) dX7_spentBy_123 rfl ml_X7_85 mt_X7_letters cf_7 rfl ho hc_7 (con_X7_letters G _ ho _) rfl (Nat.le_of_ble_eq_true rfl) (Nat.le_of_ble_eq_true rfl) rfl (Nat.le_of_ble_eq_true rfl) (fun r25 m26 => ?_)
    refine ev_icmp_ge (t := 205) (q := 129) dX7_spentBy_126 rfl rfl (fun hc27 => ?_) (fun hc27 => ?_)
    · refine ev_iload_n (q := 130) dX7_spentBy_129 rfl 1 rfl rfl ?_
      refine ev_iload (q := 132) dX7_spentBy_130 4 rfl rfl ?_
      refine ev_callSI (q := 135) dX7_spentBy_132 rfl ml_X7_200 mt_X7_has (con_X7_has G _ _  _) rfl (Nat.le_of_ble_eq_true rfl) (Nat.le_of_ble_eq_true rfl) rfl (Nat.le_of_ble_eq_true rfl) (fun r28 m29 => ?_)
      refine ev_if_eq (t := 199) (q := 138) dX7_spentBy_135 rfl rfl (fun hc30 => ?_) (fun hc30 => ?_)
      · exact X7_spentBy_b199_ok G o ho  (X7_spentBy_b120 o n) ih _ _ _ _ _
      · refine ev_aload_n (q := 139) dX7_spentBy_138 rfl 0 rfl rfl ?_
        refine ev_getR (q := 142) (ci := 7) (j := 15) (T := TX7) dX7_spentBy_139 rfl cf_7 ho hj_7_15 hc_7 gf_X7_34 rfl ?_
        refine ev_iload (q := 144) dX7_spentBy_142 4 rfl rfl ?_
        refine ev_iald (q := 145) dX7_spentBy_144 rfl (kr_7_15 ho) (fun z31 => ?_)
        refine ev_istore (q := 147) (lv2 := [(7, .int _), (0, .ref _), (2, .int _), (4, .int _), (5, .int _), (6, .int _)]) dX7_spentBy_145 rfl (Nat.le_of_ble_eq_true rfl) rfl ?_
        refine ev_aload_n (q := 148) dX7_spentBy_147 rfl 1 rfl rfl ?_
        refine ev_getR (q := 151) (ci := 7) (j := 16) (T := TX7) dX7_spentBy_148 rfl cf_7 ho hj_7_16 hc_7 gf_X7_37 rfl ?_
        refine ev_iload (q := 153) dX7_spentBy_151 0 rfl rfl ?_
        refine ev_dup2_11 (q := 154) dX7_spentBy_153 rfl rfl rfl ?_
        refine ev_iald (q := 155) dX7_spentBy_154 rfl (kr_7_16 ho) (fun z32 => ?_)
        refine ev_aload_n (q := 156) dX7_spentBy_155 rfl 1 rfl rfl ?_
        refine ev_iload (q := 158) dX7_spentBy_156 0 rfl rfl ?_
        refine ev_iload (q := 160) dX7_spentBy_158 5 rfl rfl ?_
        refine ev_callVI (q := 163) dX7_spentBy_160 rfl ml_X7_193 mt_X7_cost cf_7 rfl ho hc_7 (con_X7_cost G _ _ _ ho _) rfl (Nat.le_of_ble_eq_true rfl) (Nat.le_of_ble_eq_true rfl) rfl (Nat.le_of_ble_eq_true rfl) (fun r33 m34 => ?_)
        refine ev_isub (q := 164) dX7_spentBy_163 rfl ?_
        refine ev_iast (q := 165) dX7_spentBy_164 rfl (kr_7_16 ho) (fun m35 => ?_)
        refine ev_iload (q := 167) dX7_spentBy_165 3 rfl rfl ?_
        refine ev_aload_n (q := 168) dX7_spentBy_167 rfl 1 rfl rfl ?_
        refine ev_iload (q := 170) dX7_spentBy_168 0 rfl rfl ?_
        refine ev_iload (q := 172) dX7_spentBy_170 5 rfl rfl ?_
        refine ev_callVI (q := 175) dX7_spentBy_172 rfl ml_X7_193 mt_X7_cost cf_7 rfl ho hc_7 (con_X7_cost G _ _ _ ho _) rfl (Nat.le_of_ble_eq_true rfl) (Nat.le_of_ble_eq_true rfl) rfl (Nat.le_of_ble_eq_true rfl) (fun r36 m37 => ?_)
        refine ev_iadd (q := 176) dX7_spentBy_175 rfl ?_
        refine ev_istore (q := 178) (lv2 := [(4, .int _), (7, .int _), (0, .ref _), (2, .int _), (5, .int _), (6, .int _)]) dX7_spentBy_176 rfl (Nat.le_of_ble_eq_true rfl) rfl ?_
        refine ev_iload (q := 180) dX7_spentBy_178 4 rfl rfl ?_
        refine ev_if_eq (t := 196) (q := 183) dX7_spentBy_180 rfl rfl (fun hc38 => ?_) (fun hc38 => ?_)
        · refine ev_sub (lv' := [(0, .ref _), (2, .int _), (4, .int _), (6, .int _)]) [2, 3, 0, 5] rfl ?_
          exact X7_spentBy_b196_ok G o ho  (X7_spentBy_b120 o n) ih _ _ _ _
        · refine ev_aload_n (q := 184) dX7_spentBy_183 rfl 2 rfl rfl ?_
          refine ev_iload (q := 186) dX7_spentBy_184 1 rfl rfl ?_
          refine ev_callVI (q := 189) dX7_spentBy_186 rfl ml_X7_186 mt_X7_isFit cf_7 rfl ho hc_7 (con_X7_isFit G _ _ ho _) rfl (Nat.le_of_ble_eq_true rfl) (Nat.le_of_ble_eq_true rfl) rfl (Nat.le_of_ble_eq_true rfl) (fun r39 m40 => ?_)
          refine ev_if_eq (t := 196) (q := 192) dX7_spentBy_189 rfl rfl (fun hc41 => ?_) (fun hc41 => ?_)
          · refine ev_sub (lv' := [(0, .ref _), (2, .int _), (4, .int _), (6, .int _)]) [2, 3, 0, 5] rfl ?_
            exact X7_spentBy_b196_ok G o ho  (X7_spentBy_b120 o n) ih _ _ _ _
          · refine ev_iconst (q := 193) (v := 1) dX7_spentBy_192 rfl li_1 ?_
            refine ev_goto (t := 197) dX7_spentBy_193 rfl ?_
            refine ev_sub (lv' := [(0, .ref _), (2, .int _), (4, .int _), (6, .int _)]) [2, 3, 0, 5] rfl ?_
            exact X7_spentBy_b197_ok G o ho  (X7_spentBy_b120 o n) ih _ _ _ _ _
    · refine ev_iconst (q := 206) (v := 0) dX7_spentBy_205 rfl li_0 ?_
      refine ev_istore (q := 208) (lv2 := [(6, .int _), (0, .ref _), (2, .int _), (4, .int _), (5, .int _)]) dX7_spentBy_206 rfl (Nat.le_of_ble_eq_true rfl) rfl ?_
      refine ev_sub (lv' := [(0, .ref _), (4, .int _), (5, .int _), (6, .int _)]) [1, 3, 4, 0] rfl ?_
      exact X7_spentBy_b208_ok G o ho   fu _ _ _ _
set_option maxRecDepth 100000 in
set_option maxHeartbeats 4000000 in
theorem X7_spentBy_b79_ok (G : Gt) (o : Nat) (ho : kd o = 7)    : ∀ (n : Nat) (x2 : Int32) (x4 : Int32) (x5 : Int32) (mem : Mem), EvR tvI G cX7_spentBy 8 (some .int) RX7 5 79 [(0, .ref (gA G o)), (2, .int (x2)), (4, .int (x4)), (5, .int (x5))] [] mem (X7_spentBy_b79 o n x2 x4 x5 mem) := by
  intro n
  induction n with
  | zero => intros; exact ev_none
  | succ n ih =>
    intro x2 x4 x5 mem
    rw [X7_spentBy_b79]
    refine ev_iload (q := 81) dX7_spentBy_79 3 rfl rfl ?_
    refine ev_aload_n (q := 82) dX7_spentBy_81 rfl 0 rfl rfl ?_
    refine ev_callVI (q := 85) dX7_spentBy_82 rfl ml_X7_89 mt_X7_readers cf_7 rfl ho hc_7 (con_X7_readers G _ ho _) rfl (Nat.le_of_ble_eq_true rfl) (Nat.le_of_ble_eq_true rfl) rfl (Nat.le_of_ble_eq_true rfl) (fun r11 m12 => ?_)
    refine ev_icmp_ge (t := 114) (q := 88) dX7_spentBy_85 rfl rfl (fun hc13 => ?_) (fun hc13 => ?_)
    · refine ev_aload_n (q := 89) dX7_spentBy_88 rfl 0 rfl rfl ?_
      refine ev_getR (q := 92) (ci := 7) (j := 16) (T := TX7) dX7_spentBy_89 rfl cf_7 ho hj_7_16 hc_7 gf_X7_37 rfl ?_
      refine ev_iload (q := 94) dX7_spentBy_92 3 rfl rfl ?_
      refine ev_aload_n (q := 95) dX7_spentBy_94 rfl 0 rfl rfl ?_
      refine ev_iload (q := 97) dX7_spentBy_95 3 rfl rfl ?_
      refine ev_callVI (q := 100) dX7_spentBy_97 rfl ml_X7_95 mt_X7_span cf_7 rfl ho hc_7 (con_X7_span G _ _ ho _) rfl (Nat.le_of_ble_eq_true rfl) (Nat.le_of_ble_eq_true rfl) rfl (Nat.le_of_ble_eq_true rfl) (fun r14 m15 => ?_)
      refine ev_aload_n (q := 101) dX7_spentBy_100 rfl 0 rfl rfl ?_
      refine ev_iload (q := 103) dX7_spentBy_101 3 rfl rfl ?_
      refine ev_callVI (q := 106) dX7_spentBy_103 rfl ml_X7_92 mt_X7_age cf_7 rfl ho hc_7 (con_X7_age G _ _ ho _) rfl (Nat.le_of_ble_eq_true rfl) (Nat.le_of_ble_eq_true rfl) rfl (Nat.le_of_ble_eq_true rfl) (fun r16 m17 => ?_)
      refine ev_isub (q := 107) dX7_spentBy_106 rfl ?_
      refine ev_iast (q := 108) dX7_spentBy_107 rfl (kr_7_16 ho) (fun m18 => ?_)
      refine ev_iinc (q := 111) (lv2 := [(5, .int _), (0, .ref _), (2, .int _), (4, .int _)]) (v := x5 + 1) dX7_spentBy_108 3 rfl rfl (congrArg (HAdd.hAdd _) li_1) (Nat.le_of_ble_eq_true rfl) rfl ?_
      refine ev_goto (t := 79) dX7_spentBy_111 rfl ?_
      refine ev_sub (lv' := [(0, .ref _), (2, .int _), (4, .int _), (5, .int _)]) [1, 2, 3, 0] rfl ?_
      exact ih _ _ _ _
    · refine ev_iconst (q := 115) (v := 1) dX7_spentBy_114 rfl li_1 ?_
      refine ev_istore (q := 117) (lv2 := [(5, .int _), (0, .ref _), (2, .int _), (4, .int _)]) dX7_spentBy_115 rfl (Nat.le_of_ble_eq_true rfl) rfl ?_
      refine ev_iconst (q := 118) (v := 0) dX7_spentBy_117 rfl li_0 ?_
      refine ev_istore (q := 120) (lv2 := [(6, .int _), (5, .int _), (0, .ref _), (2, .int _), (4, .int _)]) dX7_spentBy_118 rfl (Nat.le_of_ble_eq_true rfl) rfl ?_
      refine ev_sub (lv' := [(0, .ref _), (2, .int _), (4, .int _), (5, .int _), (6, .int _)]) [2, 3, 4, 1, 0] rfl ?_
      exact X7_spentBy_b120_ok G o ho   fu _ _ _ _ _
set_option maxRecDepth 100000 in
set_option maxHeartbeats 4000000 in
theorem X7_spentBy_b69_ok (G : Gt) (o : Nat) (ho : kd o = 7)   (k18 : Int32 → Int32 → Int32 → Int32 → Mem → Option (Int32 × Mem)) (hk18 : ∀ (x2 : Int32) (x3 : Int32) (x4 : Int32) (x5 : Int32) (mem : Mem), EvR tvI G cX7_spentBy 8 (some .int) RX7 5 18 [(0, .ref (gA G o)), (2, .int (x2)), (3, .int (x3)), (4, .int (x4)), (5, .int (x5))] [] mem (k18 x2 x3 x4 x5 mem)) (x2 : Int32) (x4 : Int32) (x5 : Int32) (s0 : Int32) (mem : Mem) : EvR tvI G cX7_spentBy 8 (some .int) RX7 5 69 [(0, .ref (gA G o)), (2, .int (x2)), (4, .int (x4)), (5, .int (x5))] [.int (s0)] mem (X7_spentBy_b69 o k18 x2 x4 x5 s0 mem) := by
  unfold X7_spentBy_b69
  refine ev_istore_n (q := 70) (lv2 := [(3, .int _), (0, .ref _), (2, .int _), (4, .int _), (5, .int _)]) dX7_spentBy_69 rfl rfl (Nat.le_of_ble_eq_true rfl) rfl ?_
  refine ev_iinc (q := 73) (lv2 := [(5, .int _), (3, .int _), (0, .ref _), (2, .int _), (4, .int _)]) (v := x5 + (-1)) dX7_spentBy_70 4 rfl rfl (congrArg (HAdd.hAdd _) li_m1) (Nat.le_of_ble_eq_true rfl) rfl ?_
  refine ev_goto (t := 18) dX7_spentBy_73 rfl ?_
  refine ev_sub (lv' := [(0, .ref _), (2, .int _), (3, .int _), (4, .int _), (5, .int _)]) [2, 3, 1, 4, 0] rfl ?_
  exact hk18 _ _ _ _ _
set_option maxRecDepth 100000 in
set_option maxHeartbeats 4000000 in
theorem X7_spentBy_b49_ok (G : Gt) (o : Nat) (ho : kd o = 7)   (k18 : Int32 → Int32 → Int32 → Int32 → Mem → Option (Int32 × Mem)) (hk18 : ∀ (x2 : Int32) (x3 : Int32) (x4 : Int32) (x5 : Int32) (mem : Mem), EvR tvI G cX7_spentBy 8 (some .int) RX7 5 18 [(0, .ref (gA G o)), (2, .int (x2)), (3, .int (x3)), (4, .int (x4)), (5, .int (x5))] [] mem (k18 x2 x3 x4 x5 mem)) (x2 : Int32) (x3 : Int32) (x4 : Int32) (x5 : Int32) (s1 : Int32) (s2 : Int32) (mem : Mem) : EvR tvI G cX7_spentBy 8 (some .int) RX7 5 49 [(0, .ref (gA G o)), (2, .int (x2)), (3, .int (x3)), (4, .int (x4)), (5, .int (x5))] [.int (s2), .int (s1), .ref (gA G (rf o 15))] mem (X7_spentBy_b49 o k18 x2 x3 x4 x5 s1 s2 mem) := by
  unfold X7_spentBy_b49
  refine ev_iast (q := 50) dX7_spentBy_49 rfl (kr_7_15 ho) (fun m19 => ?_)
  refine ev_iload_n (q := 51) dX7_spentBy_50 rfl 1 rfl rfl ?_
  refine ev_iload (q := 53) dX7_spentBy_51 4 rfl rfl ?_
  refine ev_callSI (q := 56) dX7_spentBy_53 rfl ml_X7_200 mt_X7_has (con_X7_has G _ _  _) rfl (Nat.le_of_ble_eq_true rfl) (Nat.le_of_ble_eq_true rfl) rfl (Nat.le_of_ble_eq_true rfl) (fun r20 m21 => ?_)
  refine ev_if_eq (t := 68) (q := 59) dX7_spentBy_56 rfl rfl (fun hc22 => ?_) (fun hc22 => ?_)
  · refine ev_iload_n (q := 69) dX7_spentBy_68 rfl 2 rfl rfl ?_
    refine ev_sub (lv' := [(0, .ref _), (2, .int _), (4, .int _), (5, .int _)]) [0, 1, 3, 4] rfl ?_
    exact X7_spentBy_b69_ok G o ho  k18 hk18 _ _ _ _ _
  · refine ev_iload_n (q := 60) dX7_spentBy_59 rfl 2 rfl rfl ?_
    refine ev_aload_n (q := 61) dX7_spentBy_60 rfl 0 rfl rfl ?_
    refine ev_callVI (q := 64) dX7_spentBy_61 rfl ml_X7_89 mt_X7_readers cf_7 rfl ho hc_7 (con_X7_readers G _ ho _) rfl (Nat.le_of_ble_eq_true rfl) (Nat.le_of_ble_eq_true rfl) rfl (Nat.le_of_ble_eq_true rfl) (fun r23 m24 => ?_)
    refine ev_idiv (q := 65) dX7_spentBy_64 rfl ?_
    refine ev_goto (t := 69) dX7_spentBy_65 rfl ?_
    refine ev_sub (lv' := [(0, .ref _), (2, .int _), (4, .int _), (5, .int _)]) [0, 1, 3, 4] rfl ?_
    exact X7_spentBy_b69_ok G o ho  k18 hk18 _ _ _ _ _
set_option maxRecDepth 100000 in
set_option maxHeartbeats 4000000 in
theorem X7_spentBy_b18_ok (G : Gt) (o : Nat) (ho : kd o = 7)    : ∀ (n : Nat) (x2 : Int32) (x3 : Int32) (x4 : Int32) (x5 : Int32) (mem : Mem), EvR tvI G cX7_spentBy 8 (some .int) RX7 5 18 [(0, .ref (gA G o)), (2, .int (x2)), (3, .int (x3)), (4, .int (x4)), (5, .int (x5))] [] mem (X7_spentBy_b18 o n x2 x3 x4 x5 mem) := by
  intro n
  induction n with
  | zero => intros; exact ev_none
  | succ n ih =>
    intro x2 x3 x4 x5 mem
    rw [X7_spentBy_b18]
    refine ev_iload (q := 20) dX7_spentBy_18 4 rfl rfl ?_
    refine ev_if_lt (t := 76) (q := 23) dX7_spentBy_20 rfl rfl (fun hc5 => ?_) (fun hc5 => ?_)
    · refine ev_iconst (q := 77) (v := 0) dX7_spentBy_76 rfl li_0 ?_
      refine ev_istore (q := 79) (lv2 := [(5, .int _), (0, .ref _), (2, .int _), (3, .int _), (4, .int _)]) dX7_spentBy_77 rfl (Nat.le_of_ble_eq_true rfl) rfl ?_
      refine ev_sub (lv' := [(0, .ref _), (2, .int _), (4, .int _), (5, .int _)]) [1, 2, 4, 0] rfl ?_
      exact X7_spentBy_b79_ok G o ho   fu _ _ _ _
    · refine ev_aload_n (q := 24) dX7_spentBy_23 rfl 0 rfl rfl ?_
      refine ev_getR (q := 27) (ci := 7) (j := 15) (T := TX7) dX7_spentBy_24 rfl cf_7 ho hj_7_15 hc_7 gf_X7_34 rfl ?_
      refine ev_iload (q := 29) dX7_spentBy_27 4 rfl rfl ?_
      refine ev_iload_n (q := 30) dX7_spentBy_29 rfl 1 rfl rfl ?_
      refine ev_iload (q := 32) dX7_spentBy_30 4 rfl rfl ?_
      refine ev_callSI (q := 35) dX7_spentBy_32 rfl ml_X7_200 mt_X7_has (con_X7_has G _ _  _) rfl (Nat.le_of_ble_eq_true rfl) (Nat.le_of_ble_eq_true rfl) rfl (Nat.le_of_ble_eq_true rfl) (fun r6 m7 => ?_)
      refine ev_if_eq (t := 47) (q := 38) dX7_spentBy_35 rfl rfl (fun hc8 => ?_) (fun hc8 => ?_)
      · refine ev_ldc (q := 49) (v := (-1000000)) dX7_spentBy_47 rfl kc_X7_222 ?_
        exact X7_spentBy_b49_ok G o ho  (X7_spentBy_b18 o n) ih _ _ _ _ _ _ _
      · refine ev_iload_n (q := 39) dX7_spentBy_38 rfl 2 rfl rfl ?_
        refine ev_aload_n (q := 40) dX7_spentBy_39 rfl 0 rfl rfl ?_
        refine ev_callVI (q := 43) dX7_spentBy_40 rfl ml_X7_89 mt_X7_readers cf_7 rfl ho hc_7 (con_X7_readers G _ ho _) rfl (Nat.le_of_ble_eq_true rfl) (Nat.le_of_ble_eq_true rfl) rfl (Nat.le_of_ble_eq_true rfl) (fun r9 m10 => ?_)
        refine ev_irem (q := 44) dX7_spentBy_43 rfl ?_
        refine ev_goto (t := 49) dX7_spentBy_44 rfl ?_
        exact X7_spentBy_b49_ok G o ho  (X7_spentBy_b18 o n) ih _ _ _ _ _ _ _
set_option maxRecDepth 100000 in
set_option maxHeartbeats 4000000 in
theorem con_X7_spentBy (G : Gt) (o : Nat) (a1 : Int32) (ho : kd o = 7) (mem : Mem) : Con tvI G yX7_spentBy cX7_spentBy 8 (some .int) 5 [.ref (gA G o), .int a1] mem (X7_spentBy o a1 mem) := by
  refine con_of (by decide) (Nat.le_of_ble_eq_true rfl) ?_
  show EvR tvI G cX7_spentBy 8 (some .int) RX7 5 0 [(0, .ref (gA G o)), (1, .int (a1))] [] mem _
  unfold X7_spentBy
  refine ev_aload_n (q := 1) dX7_spentBy_0 rfl 0 rfl rfl ?_
  refine ev_callVI (q := 4) dX7_spentBy_1 rfl ml_X7_223 mt_X7_unread cf_7 rfl ho hc_7 (con_X7_unread G _ ho _) rfl (Nat.le_of_ble_eq_true rfl) (Nat.le_of_ble_eq_true rfl) rfl (Nat.le_of_ble_eq_true rfl) (fun r1 m2 => ?_)
  refine ev_istore_n (q := 5) (lv2 := [(2, .int _), (0, .ref _), (1, .int _)]) dX7_spentBy_4 rfl rfl (Nat.le_of_ble_eq_true rfl) rfl ?_
  refine ev_iload_n (q := 6) dX7_spentBy_5 rfl 2 rfl rfl ?_
  refine ev_istore_n (q := 7) (lv2 := [(3, .int _), (2, .int _), (0, .ref _), (1, .int _)]) dX7_spentBy_6 rfl rfl (Nat.le_of_ble_eq_true rfl) rfl ?_
  refine ev_iconst (q := 8) (v := 0) dX7_spentBy_7 rfl li_0 ?_
  refine ev_istore (q := 10) (lv2 := [(4, .int _), (3, .int _), (2, .int _), (0, .ref _), (1, .int _)]) dX7_spentBy_8 rfl (Nat.le_of_ble_eq_true rfl) rfl ?_
  refine ev_aload_n (q := 11) dX7_spentBy_10 rfl 3 rfl rfl ?_
  refine ev_callVI (q := 14) dX7_spentBy_11 rfl ml_X7_85 mt_X7_letters cf_7 rfl ho hc_7 (con_X7_letters G _ ho _) rfl (Nat.le_of_ble_eq_true rfl) (Nat.le_of_ble_eq_true rfl) rfl (Nat.le_of_ble_eq_true rfl) (fun r3 m4 => ?_)
  refine ev_iconst (q := 15) (v := 1) dX7_spentBy_14 rfl li_1 ?_
  refine ev_isub (q := 16) dX7_spentBy_15 rfl ?_
  refine ev_istore (q := 18) (lv2 := [(5, .int _), (4, .int _), (3, .int _), (2, .int _), (0, .ref _), (1, .int _)]) dX7_spentBy_16 rfl (Nat.le_of_ble_eq_true rfl) rfl ?_
  refine ev_sub (lv' := [(0, .ref _), (2, .int _), (3, .int _), (4, .int _), (5, .int _)]) [4, 3, 2, 1, 0] rfl ?_
  exact X7_spentBy_b18_ok G o ho   fu _ _ _ _ _
/-! AgingLettersModel.bits(I)I -/
theorem dX7_bits_0 : decode cX7_bits 0 = .ok (.iconst 0, 1) := by decide +kernel
theorem dX7_bits_1 : decode cX7_bits 1 = .ok (.istore_n 1, 1) := by decide +kernel
theorem dX7_bits_2 : decode cX7_bits 2 = .ok (.iconst 0, 1) := by decide +kernel
theorem dX7_bits_3 : decode cX7_bits 3 = .ok (.istore_n 2, 1) := by decide +kernel
theorem dX7_bits_4 : decode cX7_bits 4 = .ok (.iload_n 2, 1) := by decide +kernel
theorem dX7_bits_5 : decode cX7_bits 5 = .ok (.bipush 8, 2) := by decide +kernel
theorem dX7_bits_7 : decode cX7_bits 7 = .ok (.if_icmp .ge 17, 3) := by decide +kernel
theorem dX7_bits_10 : decode cX7_bits 10 = .ok (.iload_n 1, 1) := by decide +kernel
theorem dX7_bits_11 : decode cX7_bits 11 = .ok (.iload_n 0, 1) := by decide +kernel
theorem dX7_bits_12 : decode cX7_bits 12 = .ok (.iload_n 2, 1) := by decide +kernel
theorem dX7_bits_13 : decode cX7_bits 13 = .ok (.ishr, 1) := by decide +kernel
theorem dX7_bits_14 : decode cX7_bits 14 = .ok (.iconst 1, 1) := by decide +kernel
theorem dX7_bits_15 : decode cX7_bits 15 = .ok (.iand, 1) := by decide +kernel
theorem dX7_bits_16 : decode cX7_bits 16 = .ok (.iadd, 1) := by decide +kernel
theorem dX7_bits_17 : decode cX7_bits 17 = .ok (.istore_n 1, 1) := by decide +kernel
theorem dX7_bits_18 : decode cX7_bits 18 = .ok (.iinc 2 1, 3) := by decide +kernel
theorem dX7_bits_21 : decode cX7_bits 21 = .ok (.goto (-17), 3) := by decide +kernel
theorem dX7_bits_24 : decode cX7_bits 24 = .ok (.iload_n 1, 1) := by decide +kernel
theorem dX7_bits_25 : decode cX7_bits 25 = .ok (.ireturn, 1) := by decide +kernel
set_option maxRecDepth 100000 in
set_option maxHeartbeats 4000000 in
theorem X7_bits_b4_ok (G : Gt)      : ∀ (n : Nat) (x0 : Int32) (x1 : Int32) (x2 : Int32) (mem : Mem), EvR tvI G cX7_bits 3 (some .int) RX7 1 4 [(0, .int (x0)), (1, .int (x1)), (2, .int (x2))] [] mem (X7_bits_b4 n x0 x1 x2 mem) := by
  intro n
  induction n with
  | zero => intros; exact ev_none
  | succ n ih =>
    intro x0 x1 x2 mem
    rw [X7_bits_b4]
    refine ev_iload_n (q := 5) dX7_bits_4 rfl 2 rfl rfl ?_
    refine ev_bipush (q := 7) (v := 8) dX7_bits_5 rfl lb_8 ?_
    refine ev_icmp_ge (t := 24) (q := 10) dX7_bits_7 rfl rfl (fun hc1 => ?_) (fun hc1 => ?_)
    · refine ev_iload_n (q := 11) dX7_bits_10 rfl 1 rfl rfl ?_
      refine ev_iload_n (q := 12) dX7_bits_11 rfl 0 rfl rfl ?_
      refine ev_iload_n (q := 13) dX7_bits_12 rfl 2 rfl rfl ?_
      refine ev_ishr (q := 14) dX7_bits_13 rfl ?_
      refine ev_iconst (q := 15) (v := 1) dX7_bits_14 rfl li_1 ?_
      refine ev_iand (q := 16) dX7_bits_15 rfl ?_
      refine ev_iadd (q := 17) dX7_bits_16 rfl ?_
      refine ev_istore_n (q := 18) (lv2 := [(1, .int _), (0, .int _), (2, .int _)]) dX7_bits_17 rfl rfl (Nat.le_of_ble_eq_true rfl) rfl ?_
      refine ev_iinc (q := 21) (lv2 := [(2, .int _), (1, .int _), (0, .int _)]) (v := x2 + 1) dX7_bits_18 2 rfl rfl (congrArg (HAdd.hAdd _) li_1) (Nat.le_of_ble_eq_true rfl) rfl ?_
      refine ev_goto (t := 4) dX7_bits_21 rfl ?_
      refine ev_sub (lv' := [(0, .int _), (1, .int _), (2, .int _)]) [2, 1, 0] rfl ?_
      exact ih _ _ _ _
    · refine ev_iload_n (q := 25) dX7_bits_24 rfl 1 rfl rfl ?_
      exact ev_iret dX7_bits_25 rfl
set_option maxRecDepth 100000 in
set_option maxHeartbeats 4000000 in
theorem con_X7_bits (G : Gt) (a0 : Int32)  (mem : Mem) : Con tvI G yX7_bits cX7_bits 3 (some .int) 1 [.int a0] mem (X7_bits a0 mem) := by
  refine con_of (by decide) (Nat.le_of_ble_eq_true rfl) ?_
  show EvR tvI G cX7_bits 3 (some .int) RX7 1 0 [(0, .int (a0))] [] mem _
  unfold X7_bits
  refine ev_iconst (q := 1) (v := 0) dX7_bits_0 rfl li_0 ?_
  refine ev_istore_n (q := 2) (lv2 := [(1, .int _), (0, .int _)]) dX7_bits_1 rfl rfl (Nat.le_of_ble_eq_true rfl) rfl ?_
  refine ev_iconst (q := 3) (v := 0) dX7_bits_2 rfl li_0 ?_
  refine ev_istore_n (q := 4) (lv2 := [(2, .int _), (1, .int _), (0, .int _)]) dX7_bits_3 rfl rfl (Nat.le_of_ble_eq_true rfl) rfl ?_
  refine ev_sub (lv' := [(0, .int _), (1, .int _), (2, .int _)]) [2, 1, 0] rfl ?_
  exact X7_bits_b4_ok G     fu _ _ _ _
/-! AgingLettersModel.allRead(I)I -/
theorem dX7_allRead_0 : decode cX7_allRead 0 = .ok (.aload_n 0, 1) := by decide +kernel
theorem dX7_allRead_1 : decode cX7_allRead 1 = .ok (.getfield 22, 3) := by decide +kernel
theorem dX7_allRead_4 : decode cX7_allRead 4 = .ok (.iconst 0, 1) := by decide +kernel
theorem dX7_allRead_5 : decode cX7_allRead 5 = .ok (.iaload, 1) := by decide +kernel
theorem dX7_allRead_6 : decode cX7_allRead 6 = .ok (.ifCond .ne 6, 3) := by decide +kernel
theorem dX7_allRead_9 : decode cX7_allRead 9 = .ok (.ldc 189, 2) := by decide +kernel
theorem dX7_allRead_11 : decode cX7_allRead 11 = .ok (.ireturn, 1) := by decide +kernel
theorem dX7_allRead_12 : decode cX7_allRead 12 = .ok (.iload_n 1, 1) := by decide +kernel
theorem dX7_allRead_13 : decode cX7_allRead 13 = .ok (.iconst (-1), 1) := by decide +kernel
theorem dX7_allRead_14 : decode cX7_allRead 14 = .ok (.if_icmp .eq 14, 3) := by decide +kernel
theorem dX7_allRead_17 : decode cX7_allRead 17 = .ok (.aload_n 0, 1) := by decide +kernel
theorem dX7_allRead_18 : decode cX7_allRead 18 = .ok (.iload_n 1, 1) := by decide +kernel
theorem dX7_allRead_19 : decode cX7_allRead 19 = .ok (.invokevirtual 183, 3) := by decide +kernel
theorem dX7_allRead_22 : decode cX7_allRead 22 = .ok (.ifCond .ne 6, 3) := by decide +kernel
theorem dX7_allRead_25 : decode cX7_allRead 25 = .ok (.ldc 73, 2) := by decide +kernel
theorem dX7_allRead_27 : decode cX7_allRead 27 = .ok (.ireturn, 1) := by decide +kernel
theorem dX7_allRead_28 : decode cX7_allRead 28 = .ok (.iconst 1, 1) := by decide +kernel
theorem dX7_allRead_29 : decode cX7_allRead 29 = .ok (.istore_n 2, 1) := by decide +kernel
theorem dX7_allRead_30 : decode cX7_allRead 30 = .ok (.aload_n 0, 1) := by decide +kernel
theorem dX7_allRead_31 : decode cX7_allRead 31 = .ok (.invokevirtual 223, 3) := by decide +kernel
theorem dX7_allRead_34 : decode cX7_allRead 34 = .ok (.invokestatic 227, 3) := by decide +kernel
theorem dX7_allRead_37 : decode cX7_allRead 37 = .ok (.istore_n 3, 1) := by decide +kernel
theorem dX7_allRead_38 : decode cX7_allRead 38 = .ok (.iload_n 3, 1) := by decide +kernel
theorem dX7_allRead_39 : decode cX7_allRead 39 = .ok (.ifCond .le 16, 3) := by decide +kernel
theorem dX7_allRead_42 : decode cX7_allRead 42 = .ok (.iload_n 2, 1) := by decide +kernel
theorem dX7_allRead_43 : decode cX7_allRead 43 = .ok (.aload_n 0, 1) := by decide +kernel
theorem dX7_allRead_44 : decode cX7_allRead 44 = .ok (.invokevirtual 89, 3) := by decide +kernel
theorem dX7_allRead_47 : decode cX7_allRead 47 = .ok (.imul, 1) := by decide +kernel
theorem dX7_allRead_48 : decode cX7_allRead 48 = .ok (.istore_n 2, 1) := by decide +kernel
theorem dX7_allRead_49 : decode cX7_allRead 49 = .ok (.iinc 3 (-1), 3) := by decide +kernel
theorem dX7_allRead_52 : decode cX7_allRead 52 = .ok (.goto (-14), 3) := by decide +kernel
theorem dX7_allRead_55 : decode cX7_allRead 55 = .ok (.ldc 222, 2) := by decide +kernel
theorem dX7_allRead_57 : decode cX7_allRead 57 = .ok (.istore_n 3, 1) := by decide +kernel
theorem dX7_allRead_58 : decode cX7_allRead 58 = .ok (.ldc 226, 2) := by decide +kernel
theorem dX7_allRead_60 : decode cX7_allRead 60 = .ok (.istore 4, 2) := by decide +kernel
theorem dX7_allRead_62 : decode cX7_allRead 62 = .ok (.iconst 0, 1) := by decide +kernel
theorem dX7_allRead_63 : decode cX7_allRead 63 = .ok (.istore 5, 2) := by decide +kernel
theorem dX7_allRead_65 : decode cX7_allRead 65 = .ok (.iload 5, 2) := by decide +kernel
theorem dX7_allRead_67 : decode cX7_allRead 67 = .ok (.iload_n 2, 1) := by decide +kernel
theorem dX7_allRead_68 : decode cX7_allRead 68 = .ok (.if_icmp .ge 47, 3) := by decide +kernel
theorem dX7_allRead_71 : decode cX7_allRead 71 = .ok (.aload_n 0, 1) := by decide +kernel
theorem dX7_allRead_72 : decode cX7_allRead 72 = .ok (.iload 5, 2) := by decide +kernel
theorem dX7_allRead_74 : decode cX7_allRead 74 = .ok (.invokevirtual 230, 3) := by decide +kernel
theorem dX7_allRead_77 : decode cX7_allRead 77 = .ok (.istore 6, 2) := by decide +kernel
theorem dX7_allRead_79 : decode cX7_allRead 79 = .ok (.iload 6, 2) := by decide +kernel
theorem dX7_allRead_81 : decode cX7_allRead 81 = .ok (.iload 4, 2) := by decide +kernel
theorem dX7_allRead_83 : decode cX7_allRead 83 = .ok (.if_icmp .ge 8, 3) := by decide +kernel
theorem dX7_allRead_86 : decode cX7_allRead 86 = .ok (.iload 5, 2) := by decide +kernel
theorem dX7_allRead_88 : decode cX7_allRead 88 = .ok (.goto 4, 3) := by decide +kernel
theorem dX7_allRead_91 : decode cX7_allRead 91 = .ok (.iload_n 3, 1) := by decide +kernel
theorem dX7_allRead_92 : decode cX7_allRead 92 = .ok (.istore_n 3, 1) := by decide +kernel
theorem dX7_allRead_93 : decode cX7_allRead 93 = .ok (.iload 6, 2) := by decide +kernel
theorem dX7_allRead_95 : decode cX7_allRead 95 = .ok (.iload 4, 2) := by decide +kernel
theorem dX7_allRead_97 : decode cX7_allRead 97 = .ok (.if_icmp .ge 8, 3) := by decide +kernel
theorem dX7_allRead_100 : decode cX7_allRead 100 = .ok (.iload 6, 2) := by decide +kernel
theorem dX7_allRead_102 : decode cX7_allRead 102 = .ok (.goto 5, 3) := by decide +kernel
theorem dX7_allRead_105 : decode cX7_allRead 105 = .ok (.iload 4, 2) := by decide +kernel
theorem dX7_allRead_107 : decode cX7_allRead 107 = .ok (.istore 4, 2) := by decide +kernel
theorem dX7_allRead_109 : decode cX7_allRead 109 = .ok (.iinc 5 1, 3) := by decide +kernel
theorem dX7_allRead_112 : decode cX7_allRead 112 = .ok (.goto (-47), 3) := by decide +kernel
theorem dX7_allRead_115 : decode cX7_allRead 115 = .ok (.iload 4, 2) := by decide +kernel
theorem dX7_allRead_117 : decode cX7_allRead 117 = .ok (.ldc 226, 2) := by decide +kernel
theorem dX7_allRead_119 : decode cX7_allRead 119 = .ok (.if_icmp .eq 8, 3) := by decide +kernel
theorem dX7_allRead_122 : decode cX7_allRead 122 = .ok (.iload_n 1, 1) := by decide +kernel
theorem dX7_allRead_123 : decode cX7_allRead 123 = .ok (.iconst (-1), 1) := by decide +kernel
theorem dX7_allRead_124 : decode cX7_allRead 124 = .ok (.if_icmp .ne 18, 3) := by decide +kernel
theorem dX7_allRead_127 : decode cX7_allRead 127 = .ok (.iload 4, 2) := by decide +kernel
theorem dX7_allRead_129 : decode cX7_allRead 129 = .ok (.ldc 226, 2) := by decide +kernel
theorem dX7_allRead_131 : decode cX7_allRead 131 = .ok (.if_icmp .ne 8, 3) := by decide +kernel
theorem dX7_allRead_134 : decode cX7_allRead 134 = .ok (.ldc 222, 2) := by decide +kernel
theorem dX7_allRead_136 : decode cX7_allRead 136 = .ok (.goto 5, 3) := by decide +kernel
theorem dX7_allRead_139 : decode cX7_allRead 139 = .ok (.iload 4, 2) := by decide +kernel
theorem dX7_allRead_141 : decode cX7_allRead 141 = .ok (.ireturn, 1) := by decide +kernel
theorem dX7_allRead_142 : decode cX7_allRead 142 = .ok (.aload_n 0, 1) := by decide +kernel
theorem dX7_allRead_143 : decode cX7_allRead 143 = .ok (.iload_n 3, 1) := by decide +kernel
theorem dX7_allRead_144 : decode cX7_allRead 144 = .ok (.invokevirtual 230, 3) := by decide +kernel
theorem dX7_allRead_147 : decode cX7_allRead 147 = .ok (.istore 5, 2) := by decide +kernel
theorem dX7_allRead_149 : decode cX7_allRead 149 = .ok (.aload_n 0, 1) := by decide +kernel
theorem dX7_allRead_150 : decode cX7_allRead 150 = .ok (.getfield 34, 3) := by decide +kernel
theorem dX7_allRead_153 : decode cX7_allRead 153 = .ok (.iload_n 1, 1) := by decide +kernel
theorem dX7_allRead_154 : decode cX7_allRead 154 = .ok (.iaload, 1) := by decide +kernel
theorem dX7_allRead_155 : decode cX7_allRead 155 = .ok (.ireturn, 1) := by decide +kernel
set_option maxRecDepth 100000 in
set_option maxHeartbeats 4000000 in
theorem X7_allRead_b127_ok (G : Gt) (o : Nat) (ho : kd o = 7)    (x4 : Int32) (mem : Mem) : EvR tvI G cX7_allRead 7 (some .int) RX7 6 127 [(4, .int (x4))] [] mem (X7_allRead_b127 o x4 mem) := by
  unfold X7_allRead_b127
  refine ev_iload (q := 129) dX7_allRead_127 0 rfl rfl ?_
  refine ev_ldc (q := 131) (v := 1000000) dX7_allRead_129 rfl kc_X7_226 ?_
  refine ev_icmp_ne (t := 139) (q := 134) dX7_allRead_131 rfl rfl (fun hc23 => ?_) (fun hc23 => ?_)
  · refine ev_ldc (q := 136) (v := (-1000000)) dX7_allRead_134 rfl kc_X7_222 ?_
    refine ev_goto (t := 141) dX7_allRead_136 rfl ?_
    exact ev_iret dX7_allRead_141 rfl
  · refine ev_iload (q := 141) dX7_allRead_139 0 rfl rfl ?_
    exact ev_iret dX7_allRead_141 rfl
set_option maxRecDepth 100000 in
set_option maxHeartbeats 4000000 in
theorem X7_allRead_b107_ok (G : Gt) (o : Nat) (ho : kd o = 7)   (k65 : Int32 → Int32 → Int32 → Int32 → Int32 → Mem → Option (Int32 × Mem)) (hk65 : ∀ (x1 : Int32) (x2 : Int32) (x3 : Int32) (x4 : Int32) (x5 : Int32) (mem : Mem), EvR tvI G cX7_allRead 7 (some .int) RX7 6 65 [(0, .ref (gA G o)), (1, .int (x1)), (2, .int (x2)), (3, .int (x3)), (4, .int (x4)), (5, .int (x5))] [] mem (k65 x1 x2 x3 x4 x5 mem)) (x1 : Int32) (x2 : Int32) (x3 : Int32) (x5 : Int32) (s0 : Int32) (mem : Mem) : EvR tvI G cX7_allRead 7 (some .int) RX7 6 107 [(0, .ref (gA G o)), (1, .int (x1)), (2, .int (x2)), (3, .int (x3)), (5, .int (x5))] [.int (s0)] mem (X7_allRead_b107 o k65 x1 x2 x3 x5 s0 mem) := by
  unfold X7_allRead_b107
  refine ev_istore (q := 109) (lv2 := [(4, .int _), (0, .ref _), (1, .int _), (2, .int _), (3, .int _), (5, .int _)]) dX7_allRead_107 rfl (Nat.le_of_ble_eq_true rfl) rfl ?_
  refine ev_iinc (q := 112) (lv2 := [(5, .int _), (4, .int _), (0, .ref _), (1, .int _), (2, .int _), (3, .int _)]) (v := x5 + 1) dX7_allRead_109 5 rfl rfl (congrArg (HAdd.hAdd _) li_1) (Nat.le_of_ble_eq_true rfl) rfl ?_
  refine ev_goto (t := 65) dX7_allRead_112 rfl ?_
  refine ev_sub (lv' := [(0, .ref _), (1, .int _), (2, .int _), (3, .int _), (4, .int _), (5, .int _)]) [2, 3, 4, 5, 1, 0] rfl ?_
  exact hk65 _ _ _ _ _ _
set_option maxRecDepth 100000 in
set_option maxHeartbeats 4000000 in
theorem X7_allRead_b92_ok (G : Gt) (o : Nat) (ho : kd o = 7)   (k65 : Int32 → Int32 → Int32 → Int32 → Int32 → Mem → Option (Int32 × Mem)) (hk65 : ∀ (x1 : Int32) (x2 : Int32) (x3 : Int32) (x4 : Int32) (x5 : Int32) (mem : Mem), EvR tvI G cX7_allRead 7 (some .int) RX7 6 65 [(0, .ref (gA G o)), (1, .int (x1)), (2, .int (x2)), (3, .int (x3)), (4, .int (x4)), (5, .int (x5))] [] mem (k65 x1 x2 x3 x4 x5 mem)) (x1 : Int32) (x2 : Int32) (x4 : Int32) (x5 : Int32) (x6 : Int32) (s0 : Int32) (mem : Mem) : EvR tvI G cX7_allRead 7 (some .int) RX7 6 92 [(0, .ref (gA G o)), (1, .int (x1)), (2, .int (x2)), (4, .int (x4)), (5, .int (x5)), (6, .int (x6))] [.int (s0)] mem (X7_allRead_b92 o k65 x1 x2 x4 x5 x6 s0 mem) := by
  unfold X7_allRead_b92
  refine ev_istore_n (q := 93) (lv2 := [(3, .int _), (0, .ref _), (1, .int _), (2, .int _), (4, .int _), (5, .int _), (6, .int _)]) dX7_allRead_92 rfl rfl (Nat.le_of_ble_eq_true rfl) rfl ?_
  refine ev_iload (q := 95) dX7_allRead_93 6 rfl rfl ?_
  refine ev_iload (q := 97) dX7_allRead_95 4 rfl rfl ?_
  refine ev_icmp_ge (t := 105) (q := 100) dX7_allRead_97 rfl rfl (fun hc24 => ?_) (fun hc24 => ?_)
  · refine ev_iload (q := 102) dX7_allRead_100 6 rfl rfl ?_
    refine ev_goto (t := 107) dX7_allRead_102 rfl ?_
    refine ev_sub (lv' := [(0, .ref _), (1, .int _), (2, .int _), (3, .int _), (5, .int _)]) [1, 2, 3, 0, 5] rfl ?_
    exact X7_allRead_b107_ok G o ho  k65 hk65 _ _ _ _ _ _
  · refine ev_iload (q := 107) dX7_allRead_105 4 rfl rfl ?_
    refine ev_sub (lv' := [(0, .ref _), (1, .int _), (2, .int _), (3, .int _), (5, .int _)]) [1, 2, 3, 0, 5] rfl ?_
    exact X7_allRead_b107_ok G o ho  k65 hk65 _ _ _ _ _ _
set_option maxRecDepth 100000 in
set_option maxHeartbeats 4000000 in
theorem X7_allRead_b65_ok (G : Gt) (o : Nat) (ho : kd o = 7)    : ∀ (n : Nat) (x1 : Int32) (x2 : Int32) (x3 : Int32) (x4 : Int32) (x5 : Int32) (mem : Mem), EvR tvI G cX7_allRead 7 (some .int) RX7 6 65 [(0, .ref (gA G o)), (1, .int (x1)), (2, .int (x2)), (3, .int (x3)), (4, .int (x4)), (5, .int (x5))] [] mem (X7_allRead_b65 o n x1 x2 x3 x4 x5 mem) := by
  intro n
  induction n with
  | zero => intros; exact ev_none
  | succ n ih =>
    intro x1 x2 x3 x4 x5 mem
    rw [X7_allRead_b65]
    refine ev_iload (q := 67) dX7_allRead_65 5 rfl rfl ?_
    refine ev_iload_n (q := 68) dX7_allRead_67 rfl 2 rfl rfl ?_
    refine ev_icmp_ge (t := 115) (q := 71) dX7_allRead_68 rfl rfl (fun hc14 => ?_) (fun hc14 => ?_)
    · refine ev_aload_n (q := 72) dX7_allRead_71 rfl 0 rfl rfl ?_
      refine ev_iload (q := 74) dX7_allRead_72 5 rfl rfl ?_
      refine ev_callVI (q := 77) dX7_allRead_74 rfl ml_X7_230 mt_X7_spentBy cf_7 rfl ho hc_7 (con_X7_spentBy G _ _ ho _) rfl (Nat.le_of_ble_eq_true rfl) (Nat.le_of_ble_eq_true rfl) rfl (Nat.le_of_ble_eq_true rfl) (fun r20 m21 => ?_)
      refine ev_istore (q := 79) (lv2 := [(6, .int _), (0, .ref _), (1, .int _), (2, .int _), (3, .int _), (4, .int _), (5, .int _)]) dX7_allRead_77 rfl (Nat.le_of_ble_eq_true rfl) rfl ?_
      refine ev_iload (q := 81) dX7_allRead_79 0 rfl rfl ?_
      refine ev_iload (q := 83) dX7_allRead_81 5 rfl rfl ?_
      refine ev_icmp_ge (t := 91) (q := 86) dX7_allRead_83 rfl rfl (fun hc22 => ?_) (fun hc22 => ?_)
      · refine ev_iload (q := 88) dX7_allRead_86 6 rfl rfl ?_
        refine ev_goto (t := 92) dX7_allRead_88 rfl ?_
        refine ev_sub (lv' := [(0, .ref _), (1, .int _), (2, .int _), (4, .int _), (5, .int _), (6, .int _)]) [1, 2, 3, 5, 6, 0] rfl ?_
        exact X7_allRead_b92_ok G o ho  (X7_allRead_b65 o n) ih _ _ _ _ _ _ _
      · refine ev_iload_n (q := 92) dX7_allRead_91 rfl 4 rfl rfl ?_
        refine ev_sub (lv' := [(0, .ref _), (1, .int _), (2, .int _), (4, .int _), (5, .int _), (6, .int _)]) [1, 2, 3, 5, 6, 0] rfl ?_
        exact X7_allRead_b92_ok G o ho  (X7_allRead_b65 o n) ih _ _ _ _ _ _ _
    · refine ev_iload (q := 117) dX7_allRead_115 4 rfl rfl ?_
      refine ev_ldc (q := 119) (v := 1000000) dX7_allRead_117 rfl kc_X7_226 ?_
      refine ev_icmp_eq (t := 127) (q := 122) dX7_allRead_119 rfl rfl (fun hc15 => ?_) (fun hc15 => ?_)
      · refine ev_sub (lv' := [(4, .int _)]) [4] rfl ?_
        exact X7_allRead_b127_ok G o ho   _ _
      · refine ev_iload_n (q := 123) dX7_allRead_122 rfl 1 rfl rfl ?_
        refine ev_iconst (q := 124) (v := (-1)) dX7_allRead_123 rfl li_m1 ?_
        refine ev_icmp_ne (t := 142) (q := 127) dX7_allRead_124 rfl rfl (fun hc16 => ?_) (fun hc16 => ?_)
        · refine ev_sub (lv' := [(4, .int _)]) [4] rfl ?_
          exact X7_allRead_b127_ok G o ho   _ _
        · refine ev_aload_n (q := 143) dX7_allRead_142 rfl 0 rfl rfl ?_
          refine ev_iload_n (q := 144) dX7_allRead_143 rfl 3 rfl rfl ?_
          refine ev_callVI (q := 147) dX7_allRead_144 rfl ml_X7_230 mt_X7_spentBy cf_7 rfl ho hc_7 (con_X7_spentBy G _ _ ho _) rfl (Nat.le_of_ble_eq_true rfl) (Nat.le_of_ble_eq_true rfl) rfl (Nat.le_of_ble_eq_true rfl) (fun r17 m18 => ?_)
          refine ev_istore (q := 149) (lv2 := [(5, .int _), (0, .ref _), (1, .int _), (2, .int _), (3, .int _), (4, .int _)]) dX7_allRead_147 rfl (Nat.le_of_ble_eq_true rfl) rfl ?_
          refine ev_aload_n (q := 150) dX7_allRead_149 rfl 1 rfl rfl ?_
          refine ev_getR (q := 153) (ci := 7) (j := 15) (T := TX7) dX7_allRead_150 rfl cf_7 ho hj_7_15 hc_7 gf_X7_34 rfl ?_
          refine ev_iload_n (q := 154) dX7_allRead_153 rfl 2 rfl rfl ?_
          refine ev_iald (q := 155) dX7_allRead_154 rfl (kr_7_15 ho) (fun z19 => ?_)
          exact ev_iret dX7_allRead_155 rfl
set_option maxRecDepth 100000 in
set_option maxHeartbeats 4000000 in
theorem X7_allRead_b38_ok (G : Gt) (o : Nat) (ho : kd o = 7)    : ∀ (n : Nat) (x1 : Int32) (x2 : Int32) (x3 : Int32) (mem : Mem), EvR tvI G cX7_allRead 7 (some .int) RX7 6 38 [(0, .ref (gA G o)), (1, .int (x1)), (2, .int (x2)), (3, .int (x3))] [] mem (X7_allRead_b38 o n x1 x2 x3 mem) := by
  intro n
  induction n with
  | zero => intros; exact ev_none
  | succ n ih =>
    intro x1 x2 x3 mem
    rw [X7_allRead_b38]
    refine ev_iload_n (q := 39) dX7_allRead_38 rfl 3 rfl rfl ?_
    refine ev_if_le (t := 55) (q := 42) dX7_allRead_39 rfl rfl (fun hc11 => ?_) (fun hc11 => ?_)
    · refine ev_iload_n (q := 43) dX7_allRead_42 rfl 2 rfl rfl ?_
      refine ev_aload_n (q := 44) dX7_allRead_43 rfl 0 rfl rfl ?_
      refine ev_callVI (q := 47) dX7_allRead_44 rfl ml_X7_89 mt_X7_readers cf_7 rfl ho hc_7 (con_X7_readers G _ ho _) rfl (Nat.le_of_ble_eq_true rfl) (Nat.le_of_ble_eq_true rfl) rfl (Nat.le_of_ble_eq_true rfl) (fun r12 m13 => ?_)
      refine ev_imul (q := 48) dX7_allRead_47 rfl ?_
      refine ev_istore_n (q := 49) (lv2 := [(2, .int _), (0, .ref _), (1, .int _), (3, .int _)]) dX7_allRead_48 rfl rfl (Nat.le_of_ble_eq_true rfl) rfl ?_
      refine ev_iinc (q := 52) (lv2 := [(3, .int _), (2, .int _), (0, .ref _), (1, .int _)]) (v := x3 + (-1)) dX7_allRead_49 3 rfl rfl (congrArg (HAdd.hAdd _) li_m1) (Nat.le_of_ble_eq_true rfl) rfl ?_
      refine ev_goto (t := 38) dX7_allRead_52 rfl ?_
      refine ev_sub (lv' := [(0, .ref _), (1, .int _), (2, .int _), (3, .int _)]) [2, 3, 1, 0] rfl ?_
      exact ih _ _ _ _
    · refine ev_ldc (q := 57) (v := (-1000000)) dX7_allRead_55 rfl kc_X7_222 ?_
      refine ev_istore_n (q := 58) (lv2 := [(3, .int _), (0, .ref _), (1, .int _), (2, .int _)]) dX7_allRead_57 rfl rfl (Nat.le_of_ble_eq_true rfl) rfl ?_
      refine ev_ldc (q := 60) (v := 1000000) dX7_allRead_58 rfl kc_X7_226 ?_
      refine ev_istore (q := 62) (lv2 := [(4, .int _), (3, .int _), (0, .ref _), (1, .int _), (2, .int _)]) dX7_allRead_60 rfl (Nat.le_of_ble_eq_true rfl) rfl ?_
      refine ev_iconst (q := 63) (v := 0) dX7_allRead_62 rfl li_0 ?_
      refine ev_istore (q := 65) (lv2 := [(5, .int _), (4, .int _), (3, .int _), (0, .ref _), (1, .int _), (2, .int _)]) dX7_allRead_63 rfl (Nat.le_of_ble_eq_true rfl) rfl ?_
      refine ev_sub (lv' := [(0, .ref _), (1, .int _), (2, .int _), (3, .int _), (4, .int _), (5, .int _)]) [3, 4, 5, 2, 1, 0] rfl ?_
      exact X7_allRead_b65_ok G o ho   fu _ _ _ _ _ _
set_option maxRecDepth 100000 in
set_option maxHeartbeats 4000000 in
theorem X7_allRead_b28_ok (G : Gt) (o : Nat) (ho : kd o = 7)    (x1 : Int32) (mem : Mem) : EvR tvI G cX7_allRead 7 (some .int) RX7 6 28 [(0, .ref (gA G o)), (1, .int (x1))] [] mem (X7_allRead_b28 o x1 mem) := by
  unfold X7_allRead_b28
  refine ev_iconst (q := 29) (v := 1) dX7_allRead_28 rfl li_1 ?_
  refine ev_istore_n (q := 30) (lv2 := [(2, .int _), (0, .ref _), (1, .int _)]) dX7_allRead_29 rfl rfl (Nat.le_of_ble_eq_true rfl) rfl ?_
  refine ev_aload_n (q := 31) dX7_allRead_30 rfl 1 rfl rfl ?_
  refine ev_callVI (q := 34) dX7_allRead_31 rfl ml_X7_223 mt_X7_unread cf_7 rfl ho hc_7 (con_X7_unread G _ ho _) rfl (Nat.le_of_ble_eq_true rfl) (Nat.le_of_ble_eq_true rfl) rfl (Nat.le_of_ble_eq_true rfl) (fun r7 m8 => ?_)
  refine ev_callSI (q := 37) dX7_allRead_34 rfl ml_X7_227 mt_X7_bits (con_X7_bits G _  _) rfl (Nat.le_of_ble_eq_true rfl) (Nat.le_of_ble_eq_true rfl) rfl (Nat.le_of_ble_eq_true rfl) (fun r9 m10 => ?_)
  refine ev_istore_n (q := 38) (lv2 := [(3, .int _), (2, .int _), (0, .ref _), (1, .int _)]) dX7_allRead_37 rfl rfl (Nat.le_of_ble_eq_true rfl) rfl ?_
  refine ev_sub (lv' := [(0, .ref _), (1, .int _), (2, .int _), (3, .int _)]) [2, 3, 1, 0] rfl ?_
  exact X7_allRead_b38_ok G o ho   fu _ _ _ _
set_option maxRecDepth 100000 in
set_option maxHeartbeats 4000000 in
theorem con_X7_allRead (G : Gt) (o : Nat) (a1 : Int32) (ho : kd o = 7) (mem : Mem) : Con tvI G yX7_allRead cX7_allRead 7 (some .int) 6 [.ref (gA G o), .int a1] mem (X7_allRead o a1 mem) := by
  refine con_of (by decide) (Nat.le_of_ble_eq_true rfl) ?_
  show EvR tvI G cX7_allRead 7 (some .int) RX7 6 0 [(0, .ref (gA G o)), (1, .int (a1))] [] mem _
  unfold X7_allRead
  refine ev_aload_n (q := 1) dX7_allRead_0 rfl 0 rfl rfl ?_
  refine ev_getR (q := 4) (ci := 7) (j := 5) (T := TX7) dX7_allRead_1 rfl cf_7 ho hj_7_5 hc_7 gf_X7_22 rfl ?_
  refine ev_iconst (q := 5) (v := 0) dX7_allRead_4 rfl li_0 ?_
  refine ev_iald (q := 6) dX7_allRead_5 rfl (kr_7_5 ho) (fun z1 => ?_)
  refine ev_if_ne (t := 12) (q := 9) dX7_allRead_6 rfl rfl (fun hc2 => ?_) (fun hc2 => ?_)
  · refine ev_ldc (q := 11) (v := (-1000002)) dX7_allRead_9 rfl kc_X7_189 ?_
    exact ev_iret dX7_allRead_11 rfl
  · refine ev_iload_n (q := 13) dX7_allRead_12 rfl 1 rfl rfl ?_
    refine ev_iconst (q := 14) (v := (-1)) dX7_allRead_13 rfl li_m1 ?_
    refine ev_icmp_eq (t := 28) (q := 17) dX7_allRead_14 rfl rfl (fun hc3 => ?_) (fun hc3 => ?_)
    · exact X7_allRead_b28_ok G o ho   _ _
    · refine ev_aload_n (q := 18) dX7_allRead_17 rfl 0 rfl rfl ?_
      refine ev_iload_n (q := 19) dX7_allRead_18 rfl 1 rfl rfl ?_
      refine ev_callVI (q := 22) dX7_allRead_19 rfl ml_X7_183 mt_X7_isLetter cf_7 rfl ho hc_7 (con_X7_isLetter G _ _ ho _) rfl (Nat.le_of_ble_eq_true rfl) (Nat.le_of_ble_eq_true rfl) rfl (Nat.le_of_ble_eq_true rfl) (fun r4 m5 => ?_)
      refine ev_if_ne (t := 28) (q := 25) dX7_allRead_22 rfl rfl (fun hc6 => ?_) (fun hc6 => ?_)
      · refine ev_ldc (q := 27) (v := (-1000001)) dX7_allRead_25 rfl kc_X7_73 ?_
        exact ev_iret dX7_allRead_27 rfl
      · exact X7_allRead_b28_ok G o ho   _ _
/-! AgingLettersModel.aloudBy(II)I -/
theorem dX7_aloudBy_0 : decode cX7_aloudBy 0 = .ok (.aload_n 0, 1) := by decide +kernel
theorem dX7_aloudBy_1 : decode cX7_aloudBy 1 = .ok (.invokevirtual 203, 3) := by decide +kernel
theorem dX7_aloudBy_4 : decode cX7_aloudBy 4 = .ok (.iconst 1, 1) := by decide +kernel
theorem dX7_aloudBy_5 : decode cX7_aloudBy 5 = .ok (.iload_n 1, 1) := by decide +kernel
theorem dX7_aloudBy_6 : decode cX7_aloudBy 6 = .ok (.ishl, 1) := by decide +kernel
theorem dX7_aloudBy_7 : decode cX7_aloudBy 7 = .ok (.iconst (-1), 1) := by decide +kernel
theorem dX7_aloudBy_8 : decode cX7_aloudBy 8 = .ok (.ixor, 1) := by decide +kernel
theorem dX7_aloudBy_9 : decode cX7_aloudBy 9 = .ok (.iand, 1) := by decide +kernel
theorem dX7_aloudBy_10 : decode cX7_aloudBy 10 = .ok (.invokestatic 227, 3) := by decide +kernel
theorem dX7_aloudBy_13 : decode cX7_aloudBy 13 = .ok (.istore_n 3, 1) := by decide +kernel
theorem dX7_aloudBy_14 : decode cX7_aloudBy 14 = .ok (.aload_n 0, 1) := by decide +kernel
theorem dX7_aloudBy_15 : decode cX7_aloudBy 15 = .ok (.iload_n 1, 1) := by decide +kernel
theorem dX7_aloudBy_16 : decode cX7_aloudBy 16 = .ok (.iload_n 2, 1) := by decide +kernel
theorem dX7_aloudBy_17 : decode cX7_aloudBy 17 = .ok (.invokevirtual 193, 3) := by decide +kernel
theorem dX7_aloudBy_20 : decode cX7_aloudBy 20 = .ok (.iload_n 3, 1) := by decide +kernel
theorem dX7_aloudBy_21 : decode cX7_aloudBy 21 = .ok (.aload_n 0, 1) := by decide +kernel
theorem dX7_aloudBy_22 : decode cX7_aloudBy 22 = .ok (.iload_n 1, 1) := by decide +kernel
theorem dX7_aloudBy_23 : decode cX7_aloudBy 23 = .ok (.iload_n 2, 1) := by decide +kernel
theorem dX7_aloudBy_24 : decode cX7_aloudBy 24 = .ok (.invokevirtual 193, 3) := by decide +kernel
theorem dX7_aloudBy_27 : decode cX7_aloudBy 27 = .ok (.bipush 10, 2) := by decide +kernel
theorem dX7_aloudBy_29 : decode cX7_aloudBy 29 = .ok (.invokestatic 104, 3) := by decide +kernel
theorem dX7_aloudBy_32 : decode cX7_aloudBy 32 = .ok (.imul, 1) := by decide +kernel
theorem dX7_aloudBy_33 : decode cX7_aloudBy 33 = .ok (.iadd, 1) := by decide +kernel
theorem dX7_aloudBy_34 : decode cX7_aloudBy 34 = .ok (.ireturn, 1) := by decide +kernel
set_option maxRecDepth 100000 in
set_option maxHeartbeats 4000000 in
theorem con_X7_aloudBy (G : Gt) (o : Nat) (a1 : Int32) (a2 : Int32) (ho : kd o = 7) (mem : Mem) : Con tvI G yX7_aloudBy cX7_aloudBy 4 (some .int) 5 [.ref (gA G o), .int a1, .int a2] mem (X7_aloudBy o a1 a2 mem) := by
  refine con_of (by decide) (Nat.le_of_ble_eq_true rfl) ?_
  show EvR tvI G cX7_aloudBy 4 (some .int) RX7 5 0 [(0, .ref (gA G o)), (1, .int (a1)), (2, .int (a2))] [] mem _
  unfold X7_aloudBy
  refine ev_aload_n (q := 1) dX7_aloudBy_0 rfl 0 rfl rfl ?_
  refine ev_callVI (q := 4) dX7_aloudBy_1 rfl ml_X7_203 mt_X7_alive cf_7 rfl ho hc_7 (con_X7_alive G _ ho _) rfl (Nat.le_of_ble_eq_true rfl) (Nat.le_of_ble_eq_true rfl) rfl (Nat.le_of_ble_eq_true rfl) (fun r1 m2 => ?_)
  refine ev_iconst (q := 5) (v := 1) dX7_aloudBy_4 rfl li_1 ?_
  refine ev_iload_n (q := 6) dX7_aloudBy_5 rfl 1 rfl rfl ?_
  refine ev_ishl (q := 7) dX7_aloudBy_6 rfl ?_
  refine ev_iconst (q := 8) (v := (-1)) dX7_aloudBy_7 rfl li_m1 ?_
  refine ev_ixor (q := 9) dX7_aloudBy_8 rfl ?_
  refine ev_iand (q := 10) dX7_aloudBy_9 rfl ?_
  refine ev_callSI (q := 13) dX7_aloudBy_10 rfl ml_X7_227 mt_X7_bits (con_X7_bits G _  _) rfl (Nat.le_of_ble_eq_true rfl) (Nat.le_of_ble_eq_true rfl) rfl (Nat.le_of_ble_eq_true rfl) (fun r3 m4 => ?_)
  refine ev_istore_n (q := 14) (lv2 := [(3, .int _), (0, .ref _), (1, .int _), (2, .int _)]) dX7_aloudBy_13 rfl rfl (Nat.le_of_ble_eq_true rfl) rfl ?_
  refine ev_aload_n (q := 15) dX7_aloudBy_14 rfl 1 rfl rfl ?_
  refine ev_iload_n (q := 16) dX7_aloudBy_15 rfl 2 rfl rfl ?_
  refine ev_iload_n (q := 17) dX7_aloudBy_16 rfl 3 rfl rfl ?_
  refine ev_callVI (q := 20) dX7_aloudBy_17 rfl ml_X7_193 mt_X7_cost cf_7 rfl ho hc_7 (con_X7_cost G _ _ _ ho _) rfl (Nat.le_of_ble_eq_true rfl) (Nat.le_of_ble_eq_true rfl) rfl (Nat.le_of_ble_eq_true rfl) (fun r5 m6 => ?_)
  refine ev_iload_n (q := 21) dX7_aloudBy_20 rfl 0 rfl rfl ?_
  refine ev_aload_n (q := 22) dX7_aloudBy_21 rfl 1 rfl rfl ?_
  refine ev_iload_n (q := 23) dX7_aloudBy_22 rfl 2 rfl rfl ?_
  refine ev_iload_n (q := 24) dX7_aloudBy_23 rfl 3 rfl rfl ?_
  refine ev_callVI (q := 27) dX7_aloudBy_24 rfl ml_X7_193 mt_X7_cost cf_7 rfl ho hc_7 (con_X7_cost G _ _ _ ho _) rfl (Nat.le_of_ble_eq_true rfl) (Nat.le_of_ble_eq_true rfl) rfl (Nat.le_of_ble_eq_true rfl) (fun r7 m8 => ?_)
  refine ev_bipush (q := 29) (v := 10) dX7_aloudBy_27 rfl lb_10 ?_
  refine ev_callSI (q := 32) dX7_aloudBy_29 rfl ml_X7_104 mt_X7_upwards (con_X7_upwards G _ _  _) rfl (Nat.le_of_ble_eq_true rfl) (Nat.le_of_ble_eq_true rfl) rfl (Nat.le_of_ble_eq_true rfl) (fun r9 m10 => ?_)
  refine ev_imul (q := 33) dX7_aloudBy_32 rfl ?_
  refine ev_iadd (q := 34) dX7_aloudBy_33 rfl ?_
  exact ev_iret dX7_aloudBy_34 rfl
/-! AgingLettersModel.bestAloud(II)I -/
theorem dX7_bestAloud_0 : decode cX7_bestAloud 0 = .ok (.aload_n 0, 1) := by decide +kernel
theorem dX7_bestAloud_1 : decode cX7_bestAloud 1 = .ok (.iload_n 1, 1) := by decide +kernel
theorem dX7_bestAloud_2 : decode cX7_bestAloud 2 = .ok (.invokevirtual 183, 3) := by decide +kernel
theorem dX7_bestAloud_5 : decode cX7_bestAloud 5 = .ok (.ifCond .eq 13, 3) := by decide +kernel
theorem dX7_bestAloud_8 : decode cX7_bestAloud 8 = .ok (.iload_n 2, 1) := by decide +kernel
theorem dX7_bestAloud_9 : decode cX7_bestAloud 9 = .ok (.i2l, 1) := by decide +kernel
theorem dX7_bestAloud_10 : decode cX7_bestAloud 10 = .ok (.lconst 0, 1) := by decide +kernel
theorem dX7_bestAloud_11 : decode cX7_bestAloud 11 = .ok (.lconst 1, 1) := by decide +kernel
theorem dX7_bestAloud_12 : decode cX7_bestAloud 12 = .ok (.invokestatic 63, 3) := by decide +kernel
theorem dX7_bestAloud_15 : decode cX7_bestAloud 15 = .ok (.ifCond .ne 6, 3) := by decide +kernel
theorem dX7_bestAloud_18 : decode cX7_bestAloud 18 = .ok (.ldc 73, 2) := by decide +kernel
theorem dX7_bestAloud_20 : decode cX7_bestAloud 20 = .ok (.ireturn, 1) := by decide +kernel
theorem dX7_bestAloud_21 : decode cX7_bestAloud 21 = .ok (.ldc 222, 2) := by decide +kernel
theorem dX7_bestAloud_23 : decode cX7_bestAloud 23 = .ok (.istore_n 3, 1) := by decide +kernel
theorem dX7_bestAloud_24 : decode cX7_bestAloud 24 = .ok (.ldc 226, 2) := by decide +kernel
theorem dX7_bestAloud_26 : decode cX7_bestAloud 26 = .ok (.istore 4, 2) := by decide +kernel
theorem dX7_bestAloud_28 : decode cX7_bestAloud 28 = .ok (.iconst 0, 1) := by decide +kernel
theorem dX7_bestAloud_29 : decode cX7_bestAloud 29 = .ok (.istore 5, 2) := by decide +kernel
theorem dX7_bestAloud_31 : decode cX7_bestAloud 31 = .ok (.iload 5, 2) := by decide +kernel
theorem dX7_bestAloud_33 : decode cX7_bestAloud 33 = .ok (.aload_n 0, 1) := by decide +kernel
theorem dX7_bestAloud_34 : decode cX7_bestAloud 34 = .ok (.invokevirtual 89, 3) := by decide +kernel
theorem dX7_bestAloud_37 : decode cX7_bestAloud 37 = .ok (.if_icmp .ge 91, 3) := by decide +kernel
theorem dX7_bestAloud_40 : decode cX7_bestAloud 40 = .ok (.aload_n 0, 1) := by decide +kernel
theorem dX7_bestAloud_41 : decode cX7_bestAloud 41 = .ok (.iload 5, 2) := by decide +kernel
theorem dX7_bestAloud_43 : decode cX7_bestAloud 43 = .ok (.invokevirtual 186, 3) := by decide +kernel
theorem dX7_bestAloud_46 : decode cX7_bestAloud 46 = .ok (.ifCond .eq 42, 3) := by decide +kernel
theorem dX7_bestAloud_49 : decode cX7_bestAloud 49 = .ok (.aload_n 0, 1) := by decide +kernel
theorem dX7_bestAloud_50 : decode cX7_bestAloud 50 = .ok (.iload 5, 2) := by decide +kernel
theorem dX7_bestAloud_52 : decode cX7_bestAloud 52 = .ok (.invokevirtual 92, 3) := by decide +kernel
theorem dX7_bestAloud_55 : decode cX7_bestAloud 55 = .ok (.aload_n 0, 1) := by decide +kernel
theorem dX7_bestAloud_56 : decode cX7_bestAloud 56 = .ok (.iload 5, 2) := by decide +kernel
theorem dX7_bestAloud_58 : decode cX7_bestAloud 58 = .ok (.iload_n 1, 1) := by decide +kernel
theorem dX7_bestAloud_59 : decode cX7_bestAloud 59 = .ok (.invokevirtual 193, 3) := by decide +kernel
theorem dX7_bestAloud_62 : decode cX7_bestAloud 62 = .ok (.iadd, 1) := by decide +kernel
theorem dX7_bestAloud_63 : decode cX7_bestAloud 63 = .ok (.aload_n 0, 1) := by decide +kernel
theorem dX7_bestAloud_64 : decode cX7_bestAloud 64 = .ok (.iload 5, 2) := by decide +kernel
theorem dX7_bestAloud_66 : decode cX7_bestAloud 66 = .ok (.invokevirtual 95, 3) := by decide +kernel
theorem dX7_bestAloud_69 : decode cX7_bestAloud 69 = .ok (.if_icmp .ge 19, 3) := by decide +kernel
theorem dX7_bestAloud_72 : decode cX7_bestAloud 72 = .ok (.aload_n 0, 1) := by decide +kernel
theorem dX7_bestAloud_73 : decode cX7_bestAloud 73 = .ok (.iload 5, 2) := by decide +kernel
theorem dX7_bestAloud_75 : decode cX7_bestAloud 75 = .ok (.iload_n 1, 1) := by decide +kernel
theorem dX7_bestAloud_76 : decode cX7_bestAloud 76 = .ok (.invokevirtual 233, 3) := by decide +kernel
theorem dX7_bestAloud_79 : decode cX7_bestAloud 79 = .ok (.iload 4, 2) := by decide +kernel
theorem dX7_bestAloud_81 : decode cX7_bestAloud 81 = .ok (.if_icmp .ge 7, 3) := by decide +kernel
theorem dX7_bestAloud_84 : decode cX7_bestAloud 84 = .ok (.iconst 1, 1) := by decide +kernel
theorem dX7_bestAloud_85 : decode cX7_bestAloud 85 = .ok (.goto 4, 3) := by decide +kernel
theorem dX7_bestAloud_88 : decode cX7_bestAloud 88 = .ok (.iconst 0, 1) := by decide +kernel
theorem dX7_bestAloud_89 : decode cX7_bestAloud 89 = .ok (.istore 6, 2) := by decide +kernel
theorem dX7_bestAloud_91 : decode cX7_bestAloud 91 = .ok (.iload 6, 2) := by decide +kernel
theorem dX7_bestAloud_93 : decode cX7_bestAloud 93 = .ok (.ifCond .eq 8, 3) := by decide +kernel
theorem dX7_bestAloud_96 : decode cX7_bestAloud 96 = .ok (.iload 5, 2) := by decide +kernel
theorem dX7_bestAloud_98 : decode cX7_bestAloud 98 = .ok (.goto 4, 3) := by decide +kernel
theorem dX7_bestAloud_101 : decode cX7_bestAloud 101 = .ok (.iload_n 3, 1) := by decide +kernel
theorem dX7_bestAloud_102 : decode cX7_bestAloud 102 = .ok (.istore_n 3, 1) := by decide +kernel
theorem dX7_bestAloud_103 : decode cX7_bestAloud 103 = .ok (.iload 6, 2) := by decide +kernel
theorem dX7_bestAloud_105 : decode cX7_bestAloud 105 = .ok (.ifCond .eq 13, 3) := by decide +kernel
theorem dX7_bestAloud_108 : decode cX7_bestAloud 108 = .ok (.aload_n 0, 1) := by decide +kernel
theorem dX7_bestAloud_109 : decode cX7_bestAloud 109 = .ok (.iload 5, 2) := by decide +kernel
theorem dX7_bestAloud_111 : decode cX7_bestAloud 111 = .ok (.iload_n 1, 1) := by decide +kernel
theorem dX7_bestAloud_112 : decode cX7_bestAloud 112 = .ok (.invokevirtual 233, 3) := by decide +kernel
theorem dX7_bestAloud_115 : decode cX7_bestAloud 115 = .ok (.goto 5, 3) := by decide +kernel
theorem dX7_bestAloud_118 : decode cX7_bestAloud 118 = .ok (.iload 4, 2) := by decide +kernel
theorem dX7_bestAloud_120 : decode cX7_bestAloud 120 = .ok (.istore 4, 2) := by decide +kernel
theorem dX7_bestAloud_122 : decode cX7_bestAloud 122 = .ok (.iinc 5 1, 3) := by decide +kernel
theorem dX7_bestAloud_125 : decode cX7_bestAloud 125 = .ok (.goto (-94), 3) := by decide +kernel
theorem dX7_bestAloud_128 : decode cX7_bestAloud 128 = .ok (.iload_n 3, 1) := by decide +kernel
theorem dX7_bestAloud_129 : decode cX7_bestAloud 129 = .ok (.ldc 222, 2) := by decide +kernel
theorem dX7_bestAloud_131 : decode cX7_bestAloud 131 = .ok (.if_icmp .eq 7, 3) := by decide +kernel
theorem dX7_bestAloud_134 : decode cX7_bestAloud 134 = .ok (.iload_n 2, 1) := by decide +kernel
theorem dX7_bestAloud_135 : decode cX7_bestAloud 135 = .ok (.ifCond .ne 7, 3) := by decide +kernel
theorem dX7_bestAloud_138 : decode cX7_bestAloud 138 = .ok (.iload_n 3, 1) := by decide +kernel
theorem dX7_bestAloud_139 : decode cX7_bestAloud 139 = .ok (.goto 5, 3) := by decide +kernel
theorem dX7_bestAloud_142 : decode cX7_bestAloud 142 = .ok (.iload 4, 2) := by decide +kernel
theorem dX7_bestAloud_144 : decode cX7_bestAloud 144 = .ok (.ireturn, 1) := by decide +kernel
set_option maxRecDepth 100000 in
set_option maxHeartbeats 4000000 in
theorem X7_bestAloud_b138_ok (G : Gt) (o : Nat) (ho : kd o = 7)    (x3 : Int32) (mem : Mem) : EvR tvI G cX7_bestAloud 7 (some .int) RX7 6 138 [(3, .int (x3))] [] mem (X7_bestAloud_b138 o x3 mem) := by
  unfold X7_bestAloud_b138
  refine ev_iload_n (q := 139) dX7_bestAloud_138 rfl 0 rfl rfl ?_
  refine ev_goto (t := 144) dX7_bestAloud_139 rfl ?_
  exact ev_iret dX7_bestAloud_144 rfl
set_option maxRecDepth 100000 in
set_option maxHeartbeats 4000000 in
theorem X7_bestAloud_b120_ok (G : Gt) (o : Nat) (ho : kd o = 7)   (k31 : Int32 → Int32 → Int32 → Int32 → Int32 → Mem → Option (Int32 × Mem)) (hk31 : ∀ (x1 : Int32) (x2 : Int32) (x3 : Int32) (x4 : Int32) (x5 : Int32) (mem : Mem), EvR tvI G cX7_bestAloud 7 (some .int) RX7 6 31 [(0, .ref (gA G o)), (1, .int (x1)), (2, .int (x2)), (3, .int (x3)), (4, .int (x4)), (5, .int (x5))] [] mem (k31 x1 x2 x3 x4 x5 mem)) (x1 : Int32) (x2 : Int32) (x3 : Int32) (x5 : Int32) (s0 : Int32) (mem : Mem) : EvR tvI G cX7_bestAloud 7 (some .int) RX7 6 120 [(0, .ref (gA G o)), (1, .int (x1)), (2, .int (x2)), (3, .int (x3)), (5, .int (x5))] [.int (s0)] mem (X7_bestAloud_b120 o k31 x1 x2 x3 x5 s0 mem) := by
  unfold X7_bestAloud_b120
  refine ev_istore (q := 122) (lv2 := [(4, .int _), (0, .ref _), (1, .int _), (2, .int _), (3, .int _), (5, .int _)]) dX7_bestAloud_120 rfl (Nat.le_of_ble_eq_true rfl) rfl ?_
  refine ev_iinc (q := 125) (lv2 := [(5, .int _), (4, .int _), (0, .ref _), (1, .int _), (2, .int _), (3, .int _)]) (v := x5 + 1) dX7_bestAloud_122 5 rfl rfl (congrArg (HAdd.hAdd _) li_1) (Nat.le_of_ble_eq_true rfl) rfl ?_
  refine ev_goto (t := 31) dX7_bestAloud_125 rfl ?_
  refine ev_sub (lv' := [(0, .ref _), (1, .int _), (2, .int _), (3, .int _), (4, .int _), (5, .int _)]) [2, 3, 4, 5, 1, 0] rfl ?_
  exact hk31 _ _ _ _ _ _
set_option maxRecDepth 100000 in
set_option maxHeartbeats 4000000 in
theorem X7_bestAloud_b102_ok (G : Gt) (o : Nat) (ho : kd o = 7)   (k31 : Int32 → Int32 → Int32 → Int32 → Int32 → Mem → Option (Int32 × Mem)) (hk31 : ∀ (x1 : Int32) (x2 : Int32) (x3 : Int32) (x4 : Int32) (x5 : Int32) (mem : Mem), EvR tvI G cX7_bestAloud 7 (some .int) RX7 6 31 [(0, .ref (gA G o)), (1, .int (x1)), (2, .int (x2)), (3, .int (x3)), (4, .int (x4)), (5, .int (x5))] [] mem (k31 x1 x2 x3 x4 x5 mem)) (x1 : Int32) (x2 : Int32) (x4 : Int32) (x5 : Int32) (x6 : Int32) (s0 : Int32) (mem : Mem) : EvR tvI G cX7_bestAloud 7 (some .int) RX7 6 102 [(0, .ref (gA G o)), (1, .int (x1)), (2, .int (x2)), (4, .int (x4)), (5, .int (x5)), (6, .int (x6))] [.int (s0)] mem (X7_bestAloud_b102 o k31 x1 x2 x4 x5 x6 s0 mem) := by
  unfold X7_bestAloud_b102
  refine ev_istore_n (q := 103) (lv2 := [(3, .int _), (0, .ref _), (1, .int _), (2, .int _), (4, .int _), (5, .int _), (6, .int _)]) dX7_bestAloud_102 rfl rfl (Nat.le_of_ble_eq_true rfl) rfl ?_
  refine ev_iload (q := 105) dX7_bestAloud_103 6 rfl rfl ?_
  refine ev_if_eq (t := 118) (q := 108) dX7_bestAloud_105 rfl rfl (fun hc26 => ?_) (fun hc26 => ?_)
  · refine ev_iload (q := 120) dX7_bestAloud_118 4 rfl rfl ?_
    refine ev_sub (lv' := [(0, .ref _), (1, .int _), (2, .int _), (3, .int _), (5, .int _)]) [1, 2, 3, 0, 5] rfl ?_
    exact X7_bestAloud_b120_ok G o ho  k31 hk31 _ _ _ _ _ _
  · refine ev_aload_n (q := 109) dX7_bestAloud_108 rfl 1 rfl rfl ?_
    refine ev_iload (q := 111) dX7_bestAloud_109 5 rfl rfl ?_
    refine ev_iload_n (q := 112) dX7_bestAloud_111 rfl 2 rfl rfl ?_
    refine ev_callVI (q := 115) dX7_bestAloud_112 rfl ml_X7_233 mt_X7_aloudBy cf_7 rfl ho hc_7 (con_X7_aloudBy G _ _ _ ho _) rfl (Nat.le_of_ble_eq_true rfl) (Nat.le_of_ble_eq_true rfl) rfl (Nat.le_of_ble_eq_true rfl) (fun r27 m28 => ?_)
    refine ev_goto (t := 120) dX7_bestAloud_115 rfl ?_
    refine ev_sub (lv' := [(0, .ref _), (1, .int _), (2, .int _), (3, .int _), (5, .int _)]) [1, 2, 3, 0, 5] rfl ?_
    exact X7_bestAloud_b120_ok G o ho  k31 hk31 _ _ _ _ _ _
set_option maxRecDepth 100000 in
set_option maxHeartbeats 4000000 in
theorem X7_bestAloud_b89_ok (G : Gt) (o : Nat) (ho : kd o = 7)   (k31 : Int32 → Int32 → Int32 → Int32 → Int32 → Mem → Option (Int32 × Mem)) (hk31 : ∀ (x1 : Int32) (x2 : Int32) (x3 : Int32) (x4 : Int32) (x5 : Int32) (mem : Mem), EvR tvI G cX7_bestAloud 7 (some .int) RX7 6 31 [(0, .ref (gA G o)), (1, .int (x1)), (2, .int (x2)), (3, .int (x3)), (4, .int (x4)), (5, .int (x5))] [] mem (k31 x1 x2 x3 x4 x5 mem)) (x1 : Int32) (x2 : Int32) (x3 : Int32) (x4 : Int32) (x5 : Int32) (s0 : Int32) (mem : Mem) : EvR tvI G cX7_bestAloud 7 (some .int) RX7 6 89 [(0, .ref (gA G o)), (1, .int (x1)), (2, .int (x2)), (3, .int (x3)), (4, .int (x4)), (5, .int (x5))] [.int (s0)] mem (X7_bestAloud_b89 o k31 x1 x2 x3 x4 x5 s0 mem) := by
  unfold X7_bestAloud_b89
  refine ev_istore (q := 91) (lv2 := [(6, .int _), (0, .ref _), (1, .int _), (2, .int _), (3, .int _), (4, .int _), (5, .int _)]) dX7_bestAloud_89 rfl (Nat.le_of_ble_eq_true rfl) rfl ?_
  refine ev_iload (q := 93) dX7_bestAloud_91 0 rfl rfl ?_
  refine ev_if_eq (t := 101) (q := 96) dX7_bestAloud_93 rfl rfl (fun hc25 => ?_) (fun hc25 => ?_)
  · refine ev_iload_n (q := 102) dX7_bestAloud_101 rfl 4 rfl rfl ?_
    refine ev_sub (lv' := [(0, .ref _), (1, .int _), (2, .int _), (4, .int _), (5, .int _), (6, .int _)]) [1, 2, 3, 5, 6, 0] rfl ?_
    exact X7_bestAloud_b102_ok G o ho  k31 hk31 _ _ _ _ _ _ _
  · refine ev_iload (q := 98) dX7_bestAloud_96 6 rfl rfl ?_
    refine ev_goto (t := 102) dX7_bestAloud_98 rfl ?_
    refine ev_sub (lv' := [(0, .ref _), (1, .int _), (2, .int _), (4, .int _), (5, .int _), (6, .int _)]) [1, 2, 3, 5, 6, 0] rfl ?_
    exact X7_bestAloud_b102_ok G o ho  k31 hk31 _ _ _ _ _ _ _
set_option maxRecDepth 100000 in
set_option maxHeartbeats 4000000 in
theorem X7_bestAloud_b88_ok (G : Gt) (o : Nat) (ho : kd o = 7)   (k31 : Int32 → Int32 → Int32 → Int32 → Int32 → Mem → Option (Int32 × Mem)) (hk31 : ∀ (x1 : Int32) (x2 : Int32) (x3 : Int32) (x4 : Int32) (x5 : Int32) (mem : Mem), EvR tvI G cX7_bestAloud 7 (some .int) RX7 6 31 [(0, .ref (gA G o)), (1, .int (x1)), (2, .int (x2)), (3, .int (x3)), (4, .int (x4)), (5, .int (x5))] [] mem (k31 x1 x2 x3 x4 x5 mem)) (x1 : Int32) (x2 : Int32) (x3 : Int32) (x4 : Int32) (x5 : Int32) (mem : Mem) : EvR tvI G cX7_bestAloud 7 (some .int) RX7 6 88 [(0, .ref (gA G o)), (1, .int (x1)), (2, .int (x2)), (3, .int (x3)), (4, .int (x4)), (5, .int (x5))] [] mem (X7_bestAloud_b88 o k31 x1 x2 x3 x4 x5 mem) := by
  unfold X7_bestAloud_b88
  refine ev_iconst (q := 89) (v := 0) dX7_bestAloud_88 rfl li_0 ?_
  exact X7_bestAloud_b89_ok G o ho  k31 hk31 _ _ _ _ _ _ _
set_option maxRecDepth 100000 in
set_option maxHeartbeats 4000000 in
theorem X7_bestAloud_b31_ok (G : Gt) (o : Nat) (ho : kd o = 7)    : ∀ (n : Nat) (x1 : Int32) (x2 : Int32) (x3 : Int32) (x4 : Int32) (x5 : Int32) (mem : Mem), EvR tvI G cX7_bestAloud 7 (some .int) RX7 6 31 [(0, .ref (gA G o)), (1, .int (x1)), (2, .int (x2)), (3, .int (x3)), (4, .int (x4)), (5, .int (x5))] [] mem (X7_bestAloud_b31 o n x1 x2 x3 x4 x5 mem) := by
  intro n
  induction n with
  | zero => intros; exact ev_none
  | succ n ih =>
    intro x1 x2 x3 x4 x5 mem
    rw [X7_bestAloud_b31]
    refine ev_iload (q := 33) dX7_bestAloud_31 5 rfl rfl ?_
    refine ev_aload_n (q := 34) dX7_bestAloud_33 rfl 0 rfl rfl ?_
    refine ev_callVI (q := 37) dX7_bestAloud_34 rfl ml_X7_89 mt_X7_readers cf_7 rfl ho hc_7 (con_X7_readers G _ ho _) rfl (Nat.le_of_ble_eq_true rfl) (Nat.le_of_ble_eq_true rfl) rfl (Nat.le_of_ble_eq_true rfl) (fun r7 m8 => ?_)
    refine ev_icmp_ge (t := 128) (q := 40) dX7_bestAloud_37 rfl rfl (fun hc9 => ?_) (fun hc9 => ?_)
    · refine ev_aload_n (q := 41) dX7_bestAloud_40 rfl 0 rfl rfl ?_
      refine ev_iload (q := 43) dX7_bestAloud_41 5 rfl rfl ?_
      refine ev_callVI (q := 46) dX7_bestAloud_43 rfl ml_X7_186 mt_X7_isFit cf_7 rfl ho hc_7 (con_X7_isFit G _ _ ho _) rfl (Nat.le_of_ble_eq_true rfl) (Nat.le_of_ble_eq_true rfl) rfl (Nat.le_of_ble_eq_true rfl) (fun r12 m13 => ?_)
      refine ev_if_eq (t := 88) (q := 49) dX7_bestAloud_46 rfl rfl (fun hc14 => ?_) (fun hc14 => ?_)
      · exact X7_bestAloud_b88_ok G o ho  (X7_bestAloud_b31 o n) ih _ _ _ _ _ _
      · refine ev_aload_n (q := 50) dX7_bestAloud_49 rfl 0 rfl rfl ?_
        refine ev_iload (q := 52) dX7_bestAloud_50 5 rfl rfl ?_
        refine ev_callVI (q := 55) dX7_bestAloud_52 rfl ml_X7_92 mt_X7_age cf_7 rfl ho hc_7 (con_X7_age G _ _ ho _) rfl (Nat.le_of_ble_eq_true rfl) (Nat.le_of_ble_eq_true rfl) rfl (Nat.le_of_ble_eq_true rfl) (fun r15 m16 => ?_)
        refine ev_aload_n (q := 56) dX7_bestAloud_55 rfl 0 rfl rfl ?_
        refine ev_iload (q := 58) dX7_bestAloud_56 5 rfl rfl ?_
        refine ev_iload_n (q := 59) dX7_bestAloud_58 rfl 1 rfl rfl ?_
        refine ev_callVI (q := 62) dX7_bestAloud_59 rfl ml_X7_193 mt_X7_cost cf_7 rfl ho hc_7 (con_X7_cost G _ _ _ ho _) rfl (Nat.le_of_ble_eq_true rfl) (Nat.le_of_ble_eq_true rfl) rfl (Nat.le_of_ble_eq_true rfl) (fun r17 m18 => ?_)
        refine ev_iadd (q := 63) dX7_bestAloud_62 rfl ?_
        refine ev_aload_n (q := 64) dX7_bestAloud_63 rfl 0 rfl rfl ?_
        refine ev_iload (q := 66) dX7_bestAloud_64 5 rfl rfl ?_
        refine ev_callVI (q := 69) dX7_bestAloud_66 rfl ml_X7_95 mt_X7_span cf_7 rfl ho hc_7 (con_X7_span G _ _ ho _) rfl (Nat.le_of_ble_eq_true rfl) (Nat.le_of_ble_eq_true rfl) rfl (Nat.le_of_ble_eq_true rfl) (fun r19 m20 => ?_)
        refine ev_icmp_ge (t := 88) (q := 72) dX7_bestAloud_69 rfl rfl (fun hc21 => ?_) (fun hc21 => ?_)
        · refine ev_aload_n (q := 73) dX7_bestAloud_72 rfl 0 rfl rfl ?_
          refine ev_iload (q := 75) dX7_bestAloud_73 5 rfl rfl ?_
          refine ev_iload_n (q := 76) dX7_bestAloud_75 rfl 1 rfl rfl ?_
          refine ev_callVI (q := 79) dX7_bestAloud_76 rfl ml_X7_233 mt_X7_aloudBy cf_7 rfl ho hc_7 (con_X7_aloudBy G _ _ _ ho _) rfl (Nat.le_of_ble_eq_true rfl) (Nat.le_of_ble_eq_true rfl) rfl (Nat.le_of_ble_eq_true rfl) (fun r22 m23 => ?_)
          refine ev_iload (q := 81) dX7_bestAloud_79 4 rfl rfl ?_
          refine ev_icmp_ge (t := 88) (q := 84) dX7_bestAloud_81 rfl rfl (fun hc24 => ?_) (fun hc24 => ?_)
          · refine ev_iconst (q := 85) (v := 1) dX7_bestAloud_84 rfl li_1 ?_
            refine ev_goto (t := 89) dX7_bestAloud_85 rfl ?_
            exact X7_bestAloud_b89_ok G o ho  (X7_bestAloud_b31 o n) ih _ _ _ _ _ _ _
          · exact X7_bestAloud_b88_ok G o ho  (X7_bestAloud_b31 o n) ih _ _ _ _ _ _
        · exact X7_bestAloud_b88_ok G o ho  (X7_bestAloud_b31 o n) ih _ _ _ _ _ _
    · refine ev_iload_n (q := 129) dX7_bestAloud_128 rfl 3 rfl rfl ?_
      refine ev_ldc (q := 131) (v := (-1000000)) dX7_bestAloud_129 rfl kc_X7_222 ?_
      refine ev_icmp_eq (t := 138) (q := 134) dX7_bestAloud_131 rfl rfl (fun hc10 => ?_) (fun hc10 => ?_)
      · refine ev_sub (lv' := [(3, .int _)]) [3] rfl ?_
        exact X7_bestAloud_b138_ok G o ho   _ _
      · refine ev_iload_n (q := 135) dX7_bestAloud_134 rfl 2 rfl rfl ?_
        refine ev_if_ne (t := 142) (q := 138) dX7_bestAloud_135 rfl rfl (fun hc11 => ?_) (fun hc11 => ?_)
        · refine ev_sub (lv' := [(3, .int _)]) [3] rfl ?_
          exact X7_bestAloud_b138_ok G o ho   _ _
        · refine ev_iload (q := 144) dX7_bestAloud_142 4 rfl rfl ?_
          exact ev_iret dX7_bestAloud_144 rfl
set_option maxRecDepth 100000 in
set_option maxHeartbeats 4000000 in
theorem con_X7_bestAloud (G : Gt) (o : Nat) (a1 : Int32) (a2 : Int32) (ho : kd o = 7) (mem : Mem) : Con tvI G yX7_bestAloud cX7_bestAloud 7 (some .int) 6 [.ref (gA G o), .int a1, .int a2] mem (X7_bestAloud o a1 a2 mem) := by
  refine con_of (by decide) (Nat.le_of_ble_eq_true rfl) ?_
  show EvR tvI G cX7_bestAloud 7 (some .int) RX7 6 0 [(0, .ref (gA G o)), (1, .int (a1)), (2, .int (a2))] [] mem _
  unfold X7_bestAloud
  refine ev_aload_n (q := 1) dX7_bestAloud_0 rfl 0 rfl rfl ?_
  refine ev_iload_n (q := 2) dX7_bestAloud_1 rfl 1 rfl rfl ?_
  refine ev_callVI (q := 5) dX7_bestAloud_2 rfl ml_X7_183 mt_X7_isLetter cf_7 rfl ho hc_7 (con_X7_isLetter G _ _ ho _) rfl (Nat.le_of_ble_eq_true rfl) (Nat.le_of_ble_eq_true rfl) rfl (Nat.le_of_ble_eq_true rfl) (fun r1 m2 => ?_)
  refine ev_if_eq (t := 18) (q := 8) dX7_bestAloud_5 rfl rfl (fun hc3 => ?_) (fun hc3 => ?_)
  · refine ev_ldc (q := 20) (v := (-1000001)) dX7_bestAloud_18 rfl kc_X7_73 ?_
    exact ev_iret dX7_bestAloud_20 rfl
  · refine ev_iload_n (q := 9) dX7_bestAloud_8 rfl 2 rfl rfl ?_
    refine ev_i2l (q := 10) dX7_bestAloud_9 rfl ?_
    refine ev_lconst (q := 11) (v := 0) dX7_bestAloud_10 rfl ll_0 ?_
    refine ev_lconst (q := 12) (v := 1) dX7_bestAloud_11 rfl ll_1 ?_
    refine ev_callSI (q := 15) dX7_bestAloud_12 rfl ml_X7_63 mt_X7_in (con_X7_in G _ _ _  _) rfl (Nat.le_of_ble_eq_true rfl) (Nat.le_of_ble_eq_true rfl) rfl (Nat.le_of_ble_eq_true rfl) (fun r4 m5 => ?_)
    refine ev_if_ne (t := 21) (q := 18) dX7_bestAloud_15 rfl rfl (fun hc6 => ?_) (fun hc6 => ?_)
    · refine ev_ldc (q := 20) (v := (-1000001)) dX7_bestAloud_18 rfl kc_X7_73 ?_
      exact ev_iret dX7_bestAloud_20 rfl
    · refine ev_ldc (q := 23) (v := (-1000000)) dX7_bestAloud_21 rfl kc_X7_222 ?_
      refine ev_istore_n (q := 24) (lv2 := [(3, .int _), (0, .ref _), (1, .int _), (2, .int _)]) dX7_bestAloud_23 rfl rfl (Nat.le_of_ble_eq_true rfl) rfl ?_
      refine ev_ldc (q := 26) (v := 1000000) dX7_bestAloud_24 rfl kc_X7_226 ?_
      refine ev_istore (q := 28) (lv2 := [(4, .int _), (3, .int _), (0, .ref _), (1, .int _), (2, .int _)]) dX7_bestAloud_26 rfl (Nat.le_of_ble_eq_true rfl) rfl ?_
      refine ev_iconst (q := 29) (v := 0) dX7_bestAloud_28 rfl li_0 ?_
      refine ev_istore (q := 31) (lv2 := [(5, .int _), (4, .int _), (3, .int _), (0, .ref _), (1, .int _), (2, .int _)]) dX7_bestAloud_29 rfl (Nat.le_of_ble_eq_true rfl) rfl ?_
      refine ev_sub (lv' := [(0, .ref _), (1, .int _), (2, .int _), (3, .int _), (4, .int _), (5, .int _)]) [3, 4, 5, 2, 1, 0] rfl ?_
      exact X7_bestAloud_b31_ok G o ho   fu _ _ _ _ _ _
/-! AgingLettersModel.kills(I)I -/
theorem dX7_kills_0 : decode cX7_kills 0 = .ok (.aload_n 0, 1) := by decide +kernel
theorem dX7_kills_1 : decode cX7_kills 1 = .ok (.iload_n 1, 1) := by decide +kernel
theorem dX7_kills_2 : decode cX7_kills 2 = .ok (.invokevirtual 180, 3) := by decide +kernel
theorem dX7_kills_5 : decode cX7_kills 5 = .ok (.ifCond .ne 6, 3) := by decide +kernel
theorem dX7_kills_8 : decode cX7_kills 8 = .ok (.ldc 73, 2) := by decide +kernel
theorem dX7_kills_10 : decode cX7_kills 10 = .ok (.ireturn, 1) := by decide +kernel
theorem dX7_kills_11 : decode cX7_kills 11 = .ok (.aload_n 0, 1) := by decide +kernel
theorem dX7_kills_12 : decode cX7_kills 12 = .ok (.iload_n 1, 1) := by decide +kernel
theorem dX7_kills_13 : decode cX7_kills 13 = .ok (.invokevirtual 98, 3) := by decide +kernel
theorem dX7_kills_16 : decode cX7_kills 16 = .ok (.ifCond .ne 6, 3) := by decide +kernel
theorem dX7_kills_19 : decode cX7_kills 19 = .ok (.ldc 189, 2) := by decide +kernel
theorem dX7_kills_21 : decode cX7_kills 21 = .ok (.ireturn, 1) := by decide +kernel
theorem dX7_kills_22 : decode cX7_kills 22 = .ok (.ldc 222, 2) := by decide +kernel
theorem dX7_kills_24 : decode cX7_kills 24 = .ok (.istore_n 2, 1) := by decide +kernel
theorem dX7_kills_25 : decode cX7_kills 25 = .ok (.ldc 226, 2) := by decide +kernel
theorem dX7_kills_27 : decode cX7_kills 27 = .ok (.istore_n 3, 1) := by decide +kernel
theorem dX7_kills_28 : decode cX7_kills 28 = .ok (.iconst 0, 1) := by decide +kernel
theorem dX7_kills_29 : decode cX7_kills 29 = .ok (.istore 4, 2) := by decide +kernel
theorem dX7_kills_31 : decode cX7_kills 31 = .ok (.iload 4, 2) := by decide +kernel
theorem dX7_kills_33 : decode cX7_kills 33 = .ok (.aload_n 0, 1) := by decide +kernel
theorem dX7_kills_34 : decode cX7_kills 34 = .ok (.invokevirtual 85, 3) := by decide +kernel
theorem dX7_kills_37 : decode cX7_kills 37 = .ok (.if_icmp .ge 83, 3) := by decide +kernel
theorem dX7_kills_40 : decode cX7_kills 40 = .ok (.aload_n 0, 1) := by decide +kernel
theorem dX7_kills_41 : decode cX7_kills 41 = .ok (.iload_n 1, 1) := by decide +kernel
theorem dX7_kills_42 : decode cX7_kills 42 = .ok (.invokevirtual 92, 3) := by decide +kernel
theorem dX7_kills_45 : decode cX7_kills 45 = .ok (.aload_n 0, 1) := by decide +kernel
theorem dX7_kills_46 : decode cX7_kills 46 = .ok (.iload_n 1, 1) := by decide +kernel
theorem dX7_kills_47 : decode cX7_kills 47 = .ok (.iload 4, 2) := by decide +kernel
theorem dX7_kills_49 : decode cX7_kills 49 = .ok (.invokevirtual 193, 3) := by decide +kernel
theorem dX7_kills_52 : decode cX7_kills 52 = .ok (.iadd, 1) := by decide +kernel
theorem dX7_kills_53 : decode cX7_kills 53 = .ok (.aload_n 0, 1) := by decide +kernel
theorem dX7_kills_54 : decode cX7_kills 54 = .ok (.iload_n 1, 1) := by decide +kernel
theorem dX7_kills_55 : decode cX7_kills 55 = .ok (.invokevirtual 95, 3) := by decide +kernel
theorem dX7_kills_58 : decode cX7_kills 58 = .ok (.if_icmp .lt 21, 3) := by decide +kernel
theorem dX7_kills_61 : decode cX7_kills 61 = .ok (.aload_n 0, 1) := by decide +kernel
theorem dX7_kills_62 : decode cX7_kills 62 = .ok (.getfield 22, 3) := by decide +kernel
theorem dX7_kills_65 : decode cX7_kills 65 = .ok (.bipush 11, 2) := by decide +kernel
theorem dX7_kills_67 : decode cX7_kills 67 = .ok (.iload 4, 2) := by decide +kernel
theorem dX7_kills_69 : decode cX7_kills 69 = .ok (.iadd, 1) := by decide +kernel
theorem dX7_kills_70 : decode cX7_kills 70 = .ok (.iaload, 1) := by decide +kernel
theorem dX7_kills_71 : decode cX7_kills 71 = .ok (.iload_n 3, 1) := by decide +kernel
theorem dX7_kills_72 : decode cX7_kills 72 = .ok (.if_icmp .ge 7, 3) := by decide +kernel
theorem dX7_kills_75 : decode cX7_kills 75 = .ok (.iconst 1, 1) := by decide +kernel
theorem dX7_kills_76 : decode cX7_kills 76 = .ok (.goto 4, 3) := by decide +kernel
theorem dX7_kills_79 : decode cX7_kills 79 = .ok (.iconst 0, 1) := by decide +kernel
theorem dX7_kills_80 : decode cX7_kills 80 = .ok (.istore 5, 2) := by decide +kernel
theorem dX7_kills_82 : decode cX7_kills 82 = .ok (.iload 5, 2) := by decide +kernel
theorem dX7_kills_84 : decode cX7_kills 84 = .ok (.ifCond .eq 8, 3) := by decide +kernel
theorem dX7_kills_87 : decode cX7_kills 87 = .ok (.iload 4, 2) := by decide +kernel
theorem dX7_kills_89 : decode cX7_kills 89 = .ok (.goto 4, 3) := by decide +kernel
theorem dX7_kills_92 : decode cX7_kills 92 = .ok (.iload_n 2, 1) := by decide +kernel
theorem dX7_kills_93 : decode cX7_kills 93 = .ok (.istore_n 2, 1) := by decide +kernel
theorem dX7_kills_94 : decode cX7_kills 94 = .ok (.iload 5, 2) := by decide +kernel
theorem dX7_kills_96 : decode cX7_kills 96 = .ok (.ifCond .eq 16, 3) := by decide +kernel
theorem dX7_kills_99 : decode cX7_kills 99 = .ok (.aload_n 0, 1) := by decide +kernel
theorem dX7_kills_100 : decode cX7_kills 100 = .ok (.getfield 22, 3) := by decide +kernel
theorem dX7_kills_103 : decode cX7_kills 103 = .ok (.bipush 11, 2) := by decide +kernel
theorem dX7_kills_105 : decode cX7_kills 105 = .ok (.iload 4, 2) := by decide +kernel
theorem dX7_kills_107 : decode cX7_kills 107 = .ok (.iadd, 1) := by decide +kernel
theorem dX7_kills_108 : decode cX7_kills 108 = .ok (.iaload, 1) := by decide +kernel
theorem dX7_kills_109 : decode cX7_kills 109 = .ok (.goto 4, 3) := by decide +kernel
theorem dX7_kills_112 : decode cX7_kills 112 = .ok (.iload_n 3, 1) := by decide +kernel
theorem dX7_kills_113 : decode cX7_kills 113 = .ok (.istore_n 3, 1) := by decide +kernel
theorem dX7_kills_114 : decode cX7_kills 114 = .ok (.iinc 4 1, 3) := by decide +kernel
theorem dX7_kills_117 : decode cX7_kills 117 = .ok (.goto (-86), 3) := by decide +kernel
theorem dX7_kills_120 : decode cX7_kills 120 = .ok (.iload_n 2, 1) := by decide +kernel
theorem dX7_kills_121 : decode cX7_kills 121 = .ok (.ireturn, 1) := by decide +kernel
set_option maxRecDepth 100000 in
set_option maxHeartbeats 4000000 in
theorem X7_kills_b113_ok (G : Gt) (o : Nat) (ho : kd o = 7)   (k31 : Int32 → Int32 → Int32 → Int32 → Mem → Option (Int32 × Mem)) (hk31 : ∀ (x1 : Int32) (x2 : Int32) (x3 : Int32) (x4 : Int32) (mem : Mem), EvR tvI G cX7_kills 6 (some .int) RX7 5 31 [(0, .ref (gA G o)), (1, .int (x1)), (2, .int (x2)), (3, .int (x3)), (4, .int (x4))] [] mem (k31 x1 x2 x3 x4 mem)) (x1 : Int32) (x2 : Int32) (x4 : Int32) (s0 : Int32) (mem : Mem) : EvR tvI G cX7_kills 6 (some .int) RX7 5 113 [(0, .ref (gA G o)), (1, .int (x1)), (2, .int (x2)), (4, .int (x4))] [.int (s0)] mem (X7_kills_b113 o k31 x1 x2 x4 s0 mem) := by
  unfold X7_kills_b113
  refine ev_istore_n (q := 114) (lv2 := [(3, .int _), (0, .ref _), (1, .int _), (2, .int _), (4, .int _)]) dX7_kills_113 rfl rfl (Nat.le_of_ble_eq_true rfl) rfl ?_
  refine ev_iinc (q := 117) (lv2 := [(4, .int _), (3, .int _), (0, .ref _), (1, .int _), (2, .int _)]) (v := x4 + 1) dX7_kills_114 4 rfl rfl (congrArg (HAdd.hAdd _) li_1) (Nat.le_of_ble_eq_true rfl) rfl ?_
  refine ev_goto (t := 31) dX7_kills_117 rfl ?_
  refine ev_sub (lv' := [(0, .ref _), (1, .int _), (2, .int _), (3, .int _), (4, .int _)]) [2, 3, 4, 1, 0] rfl ?_
  exact hk31 _ _ _ _ _
set_option maxRecDepth 100000 in
set_option maxHeartbeats 4000000 in
theorem X7_kills_b93_ok (G : Gt) (o : Nat) (ho : kd o = 7)   (k31 : Int32 → Int32 → Int32 → Int32 → Mem → Option (Int32 × Mem)) (hk31 : ∀ (x1 : Int32) (x2 : Int32) (x3 : Int32) (x4 : Int32) (mem : Mem), EvR tvI G cX7_kills 6 (some .int) RX7 5 31 [(0, .ref (gA G o)), (1, .int (x1)), (2, .int (x2)), (3, .int (x3)), (4, .int (x4))] [] mem (k31 x1 x2 x3 x4 mem)) (x1 : Int32) (x3 : Int32) (x4 : Int32) (x5 : Int32) (s0 : Int32) (mem : Mem) : EvR tvI G cX7_kills 6 (some .int) RX7 5 93 [(0, .ref (gA G o)), (1, .int (x1)), (3, .int (x3)), (4, .int (x4)), (5, .int (x5))] [.int (s0)] mem (X7_kills_b93 o k31 x1 x3 x4 x5 s0 mem) := by
  unfold X7_kills_b93
  refine ev_istore_n (q := 94) (lv2 := [(2, .int _), (0, .ref _), (1, .int _), (3, .int _), (4, .int _), (5, .int _)]) dX7_kills_93 rfl rfl (Nat.le_of_ble_eq_true rfl) rfl ?_
  refine ev_iload (q := 96) dX7_kills_94 5 rfl rfl ?_
  refine ev_if_eq (t := 112) (q := 99) dX7_kills_96 rfl rfl (fun hc20 => ?_) (fun hc20 => ?_)
  · refine ev_iload_n (q := 113) dX7_kills_112 rfl 3 rfl rfl ?_
    refine ev_sub (lv' := [(0, .ref _), (1, .int _), (2, .int _), (4, .int _)]) [1, 2, 0, 4] rfl ?_
    exact X7_kills_b113_ok G o ho  k31 hk31 _ _ _ _ _
  · refine ev_aload_n (q := 100) dX7_kills_99 rfl 1 rfl rfl ?_
    refine ev_getR (q := 103) (ci := 7) (j := 5) (T := TX7) dX7_kills_100 rfl cf_7 ho hj_7_5 hc_7 gf_X7_22 rfl ?_
    refine ev_bipush (q := 105) (v := 11) dX7_kills_103 rfl lb_11 ?_
    refine ev_iload (q := 107) dX7_kills_105 4 rfl rfl ?_
    refine ev_iadd (q := 108) dX7_kills_107 rfl ?_
    refine ev_iald (q := 109) dX7_kills_108 rfl (kr_7_5 ho) (fun z21 => ?_)
    refine ev_goto (t := 113) dX7_kills_109 rfl ?_
    refine ev_sub (lv' := [(0, .ref _), (1, .int _), (2, .int _), (4, .int _)]) [1, 2, 0, 4] rfl ?_
    exact X7_kills_b113_ok G o ho  k31 hk31 _ _ _ _ _
set_option maxRecDepth 100000 in
set_option maxHeartbeats 4000000 in
theorem X7_kills_b80_ok (G : Gt) (o : Nat) (ho : kd o = 7)   (k31 : Int32 → Int32 → Int32 → Int32 → Mem → Option (Int32 × Mem)) (hk31 : ∀ (x1 : Int32) (x2 : Int32) (x3 : Int32) (x4 : Int32) (mem : Mem), EvR tvI G cX7_kills 6 (some .int) RX7 5 31 [(0, .ref (gA G o)), (1, .int (x1)), (2, .int (x2)), (3, .int (x3)), (4, .int (x4))] [] mem (k31 x1 x2 x3 x4 mem)) (x1 : Int32) (x2 : Int32) (x3 : Int32) (x4 : Int32) (s0 : Int32) (mem : Mem) : EvR tvI G cX7_kills 6 (some .int) RX7 5 80 [(0, .ref (gA G o)), (1, .int (x1)), (2, .int (x2)), (3, .int (x3)), (4, .int (x4))] [.int (s0)] mem (X7_kills_b80 o k31 x1 x2 x3 x4 s0 mem) := by
  unfold X7_kills_b80
  refine ev_istore (q := 82) (lv2 := [(5, .int _), (0, .ref _), (1, .int _), (2, .int _), (3, .int _), (4, .int _)]) dX7_kills_80 rfl (Nat.le_of_ble_eq_true rfl) rfl ?_
  refine ev_iload (q := 84) dX7_kills_82 0 rfl rfl ?_
  refine ev_if_eq (t := 92) (q := 87) dX7_kills_84 rfl rfl (fun hc19 => ?_) (fun hc19 => ?_)
  · refine ev_iload_n (q := 93) dX7_kills_92 rfl 3 rfl rfl ?_
    refine ev_sub (lv' := [(0, .ref _), (1, .int _), (3, .int _), (4, .int _), (5, .int _)]) [1, 2, 4, 5, 0] rfl ?_
    exact X7_kills_b93_ok G o ho  k31 hk31 _ _ _ _ _ _
  · refine ev_iload (q := 89) dX7_kills_87 5 rfl rfl ?_
    refine ev_goto (t := 93) dX7_kills_89 rfl ?_
    refine ev_sub (lv' := [(0, .ref _), (1, .int _), (3, .int _), (4, .int _), (5, .int _)]) [1, 2, 4, 5, 0] rfl ?_
    exact X7_kills_b93_ok G o ho  k31 hk31 _ _ _ _ _ _
set_option maxRecDepth 100000 in
set_option maxHeartbeats 4000000 in
theorem X7_kills_b79_ok (G : Gt) (o : Nat) (ho : kd o = 7)   (k31 : Int32 → Int32 → Int32 → Int32 → Mem → Option (Int32 × Mem)) (hk31 : ∀ (x1 : Int32) (x2 : Int32) (x3 : Int32) (x4 : Int32) (mem : Mem), EvR tvI G cX7_kills 6 (some .int) RX7 5 31 [(0, .ref (gA G o)), (1, .int (x1)), (2, .int (x2)), (3, .int (x3)), (4, .int (x4))] [] mem (k31 x1 x2 x3 x4 mem)) (x1 : Int32) (x2 : Int32) (x3 : Int32) (x4 : Int32) (mem : Mem) : EvR tvI G cX7_kills 6 (some .int) RX7 5 79 [(0, .ref (gA G o)), (1, .int (x1)), (2, .int (x2)), (3, .int (x3)), (4, .int (x4))] [] mem (X7_kills_b79 o k31 x1 x2 x3 x4 mem) := by
  unfold X7_kills_b79
  refine ev_iconst (q := 80) (v := 0) dX7_kills_79 rfl li_0 ?_
  exact X7_kills_b80_ok G o ho  k31 hk31 _ _ _ _ _ _
set_option maxRecDepth 100000 in
set_option maxHeartbeats 4000000 in
theorem X7_kills_b31_ok (G : Gt) (o : Nat) (ho : kd o = 7)    : ∀ (n : Nat) (x1 : Int32) (x2 : Int32) (x3 : Int32) (x4 : Int32) (mem : Mem), EvR tvI G cX7_kills 6 (some .int) RX7 5 31 [(0, .ref (gA G o)), (1, .int (x1)), (2, .int (x2)), (3, .int (x3)), (4, .int (x4))] [] mem (X7_kills_b31 o n x1 x2 x3 x4 mem) := by
  intro n
  induction n with
  | zero => intros; exact ev_none
  | succ n ih =>
    intro x1 x2 x3 x4 mem
    rw [X7_kills_b31]
    refine ev_iload (q := 33) dX7_kills_31 4 rfl rfl ?_
    refine ev_aload_n (q := 34) dX7_kills_33 rfl 0 rfl rfl ?_
    refine ev_callVI (q := 37) dX7_kills_34 rfl ml_X7_85 mt_X7_letters cf_7 rfl ho hc_7 (con_X7_letters G _ ho _) rfl (Nat.le_of_ble_eq_true rfl) (Nat.le_of_ble_eq_true rfl) rfl (Nat.le_of_ble_eq_true rfl) (fun r7 m8 => ?_)
    refine ev_icmp_ge (t := 120) (q := 40) dX7_kills_37 rfl rfl (fun hc9 => ?_) (fun hc9 => ?_)
    · refine ev_aload_n (q := 41) dX7_kills_40 rfl 0 rfl rfl ?_
      refine ev_iload_n (q := 42) dX7_kills_41 rfl 1 rfl rfl ?_
      refine ev_callVI (q := 45) dX7_kills_42 rfl ml_X7_92 mt_X7_age cf_7 rfl ho hc_7 (con_X7_age G _ _ ho _) rfl (Nat.le_of_ble_eq_true rfl) (Nat.le_of_ble_eq_true rfl) rfl (Nat.le_of_ble_eq_true rfl) (fun r10 m11 => ?_)
      refine ev_aload_n (q := 46) dX7_kills_45 rfl 0 rfl rfl ?_
      refine ev_iload_n (q := 47) dX7_kills_46 rfl 1 rfl rfl ?_
      refine ev_iload (q := 49) dX7_kills_47 4 rfl rfl ?_
      refine ev_callVI (q := 52) dX7_kills_49 rfl ml_X7_193 mt_X7_cost cf_7 rfl ho hc_7 (con_X7_cost G _ _ _ ho _) rfl (Nat.le_of_ble_eq_true rfl) (Nat.le_of_ble_eq_true rfl) rfl (Nat.le_of_ble_eq_true rfl) (fun r12 m13 => ?_)
      refine ev_iadd (q := 53) dX7_kills_52 rfl ?_
      refine ev_aload_n (q := 54) dX7_kills_53 rfl 0 rfl rfl ?_
      refine ev_iload_n (q := 55) dX7_kills_54 rfl 1 rfl rfl ?_
      refine ev_callVI (q := 58) dX7_kills_55 rfl ml_X7_95 mt_X7_span cf_7 rfl ho hc_7 (con_X7_span G _ _ ho _) rfl (Nat.le_of_ble_eq_true rfl) (Nat.le_of_ble_eq_true rfl) rfl (Nat.le_of_ble_eq_true rfl) (fun r14 m15 => ?_)
      refine ev_icmp_lt (t := 79) (q := 61) dX7_kills_58 rfl rfl (fun hc16 => ?_) (fun hc16 => ?_)
      · exact X7_kills_b79_ok G o ho  (X7_kills_b31 o n) ih _ _ _ _ _
      · refine ev_aload_n (q := 62) dX7_kills_61 rfl 0 rfl rfl ?_
        refine ev_getR (q := 65) (ci := 7) (j := 5) (T := TX7) dX7_kills_62 rfl cf_7 ho hj_7_5 hc_7 gf_X7_22 rfl ?_
        refine ev_bipush (q := 67) (v := 11) dX7_kills_65 rfl lb_11 ?_
        refine ev_iload (q := 69) dX7_kills_67 4 rfl rfl ?_
        refine ev_iadd (q := 70) dX7_kills_69 rfl ?_
        refine ev_iald (q := 71) dX7_kills_70 rfl (kr_7_5 ho) (fun z17 => ?_)
        refine ev_iload_n (q := 72) dX7_kills_71 rfl 3 rfl rfl ?_
        refine ev_icmp_ge (t := 79) (q := 75) dX7_kills_72 rfl rfl (fun hc18 => ?_) (fun hc18 => ?_)
        · refine ev_iconst (q := 76) (v := 1) dX7_kills_75 rfl li_1 ?_
          refine ev_goto (t := 80) dX7_kills_76 rfl ?_
          exact X7_kills_b80_ok G o ho  (X7_kills_b31 o n) ih _ _ _ _ _ _
        · exact X7_kills_b79_ok G o ho  (X7_kills_b31 o n) ih _ _ _ _ _
    · refine ev_iload_n (q := 121) dX7_kills_120 rfl 2 rfl rfl ?_
      exact ev_iret dX7_kills_121 rfl
set_option maxRecDepth 100000 in
set_option maxHeartbeats 4000000 in
theorem con_X7_kills (G : Gt) (o : Nat) (a1 : Int32) (ho : kd o = 7) (mem : Mem) : Con tvI G yX7_kills cX7_kills 6 (some .int) 5 [.ref (gA G o), .int a1] mem (X7_kills o a1 mem) := by
  refine con_of (by decide) (Nat.le_of_ble_eq_true rfl) ?_
  show EvR tvI G cX7_kills 6 (some .int) RX7 5 0 [(0, .ref (gA G o)), (1, .int (a1))] [] mem _
  unfold X7_kills
  refine ev_aload_n (q := 1) dX7_kills_0 rfl 0 rfl rfl ?_
  refine ev_iload_n (q := 2) dX7_kills_1 rfl 1 rfl rfl ?_
  refine ev_callVI (q := 5) dX7_kills_2 rfl ml_X7_180 mt_X7_isReader cf_7 rfl ho hc_7 (con_X7_isReader G _ _ ho _) rfl (Nat.le_of_ble_eq_true rfl) (Nat.le_of_ble_eq_true rfl) rfl (Nat.le_of_ble_eq_true rfl) (fun r1 m2 => ?_)
  refine ev_if_ne (t := 11) (q := 8) dX7_kills_5 rfl rfl (fun hc3 => ?_) (fun hc3 => ?_)
  · refine ev_ldc (q := 10) (v := (-1000001)) dX7_kills_8 rfl kc_X7_73 ?_
    exact ev_iret dX7_kills_10 rfl
  · refine ev_aload_n (q := 12) dX7_kills_11 rfl 0 rfl rfl ?_
    refine ev_iload_n (q := 13) dX7_kills_12 rfl 1 rfl rfl ?_
    refine ev_callVI (q := 16) dX7_kills_13 rfl ml_X7_98 mt_X7_isAlive cf_7 rfl ho hc_7 (con_X7_isAlive G _ _ ho _) rfl (Nat.le_of_ble_eq_true rfl) (Nat.le_of_ble_eq_true rfl) rfl (Nat.le_of_ble_eq_true rfl) (fun r4 m5 => ?_)
    refine ev_if_ne (t := 22) (q := 19) dX7_kills_16 rfl rfl (fun hc6 => ?_) (fun hc6 => ?_)
    · refine ev_ldc (q := 21) (v := (-1000002)) dX7_kills_19 rfl kc_X7_189 ?_
      exact ev_iret dX7_kills_21 rfl
    · refine ev_ldc (q := 24) (v := (-1000000)) dX7_kills_22 rfl kc_X7_222 ?_
      refine ev_istore_n (q := 25) (lv2 := [(2, .int _), (0, .ref _), (1, .int _)]) dX7_kills_24 rfl rfl (Nat.le_of_ble_eq_true rfl) rfl ?_
      refine ev_ldc (q := 27) (v := 1000000) dX7_kills_25 rfl kc_X7_226 ?_
      refine ev_istore_n (q := 28) (lv2 := [(3, .int _), (2, .int _), (0, .ref _), (1, .int _)]) dX7_kills_27 rfl rfl (Nat.le_of_ble_eq_true rfl) rfl ?_
      refine ev_iconst (q := 29) (v := 0) dX7_kills_28 rfl li_0 ?_
      refine ev_istore (q := 31) (lv2 := [(4, .int _), (3, .int _), (2, .int _), (0, .ref _), (1, .int _)]) dX7_kills_29 rfl (Nat.le_of_ble_eq_true rfl) rfl ?_
      refine ev_sub (lv' := [(0, .ref _), (1, .int _), (2, .int _), (3, .int _), (4, .int _)]) [3, 4, 2, 1, 0] rfl ?_
      exact X7_kills_b31_ok G o ho   fu _ _ _ _ _
