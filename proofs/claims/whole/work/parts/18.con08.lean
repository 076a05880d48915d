/-! AgingLettersModel.restore(I)I -/
theorem dX7_restore_0 : decode cX7_restore 0 = .ok (.iload_n 1, 1) := by decide +kernel
theorem dX7_restore_1 : decode cX7_restore 1 = .ok (.i2l, 1) := by decide +kernel
theorem dX7_restore_2 : decode cX7_restore 2 = .ok (.lconst 0, 1) := by decide +kernel
theorem dX7_restore_3 : decode cX7_restore 3 = .ok (.lconst 1, 1) := by decide +kernel
theorem dX7_restore_4 : decode cX7_restore 4 = .ok (.invokestatic 63, 3) := by decide +kernel
theorem dX7_restore_7 : decode cX7_restore 7 = .ok (.ifCond .ne 6, 3) := by decide +kernel
theorem dX7_restore_10 : decode cX7_restore 10 = .ok (.ldc 73, 2) := by decide +kernel
theorem dX7_restore_12 : decode cX7_restore 12 = .ok (.ireturn, 1) := by decide +kernel
theorem dX7_restore_13 : decode cX7_restore 13 = .ok (.aload_n 0, 1) := by decide +kernel
theorem dX7_restore_14 : decode cX7_restore 14 = .ok (.getfield 49, 3) := by decide +kernel
theorem dX7_restore_17 : decode cX7_restore 17 = .ok (.iload_n 1, 1) := by decide +kernel
theorem dX7_restore_18 : decode cX7_restore 18 = .ok (.baload, 1) := by decide +kernel
theorem dX7_restore_19 : decode cX7_restore 19 = .ok (.ifCond .ne 6, 3) := by decide +kernel
theorem dX7_restore_22 : decode cX7_restore 22 = .ok (.ldc 189, 2) := by decide +kernel
theorem dX7_restore_24 : decode cX7_restore 24 = .ok (.ireturn, 1) := by decide +kernel
theorem dX7_restore_25 : decode cX7_restore 25 = .ok (.aload_n 0, 1) := by decide +kernel
theorem dX7_restore_26 : decode cX7_restore 26 = .ok (.aload_n 0, 1) := by decide +kernel
theorem dX7_restore_27 : decode cX7_restore 27 = .ok (.getfield 46, 3) := by decide +kernel
theorem dX7_restore_30 : decode cX7_restore 30 = .ok (.bipush 63, 2) := by decide +kernel
theorem dX7_restore_32 : decode cX7_restore 32 = .ok (.iload_n 1, 1) := by decide +kernel
theorem dX7_restore_33 : decode cX7_restore 33 = .ok (.imul, 1) := by decide +kernel
theorem dX7_restore_34 : decode cX7_restore 34 = .ok (.invokevirtual 208, 3) := by decide +kernel
theorem dX7_restore_37 : decode cX7_restore 37 = .ok (.aload_n 0, 1) := by decide +kernel
theorem dX7_restore_38 : decode cX7_restore 38 = .ok (.iconst 0, 1) := by decide +kernel
theorem dX7_restore_39 : decode cX7_restore 39 = .ok (.putfield 173, 3) := by decide +kernel
theorem dX7_restore_42 : decode cX7_restore 42 = .ok (.iconst 1, 1) := by decide +kernel
theorem dX7_restore_43 : decode cX7_restore 43 = .ok (.ireturn, 1) := by decide +kernel
set_option maxRecDepth 100000 in
set_option maxHeartbeats 4000000 in
theorem con_X7_restore (G : Gt) (o : Nat) (a1 : Int32) (ho : kd o = 7) (mem : Mem) : Con tvI G yX7_restore cX7_restore 2 (some .int) 2 [.ref (gA G o), .int a1] mem (X7_restore o a1 mem) := by
  refine con_of (by decide) (Nat.le_of_ble_eq_true rfl) ?_
  show EvR tvI G cX7_restore 2 (some .int) RX7 2 0 [(0, .ref (gA G o)), (1, .int (a1))] [] mem _
  unfold X7_restore
  refine ev_iload_n (q := 1) dX7_restore_0 rfl 1 rfl rfl ?_
  refine ev_i2l (q := 2) dX7_restore_1 rfl ?_
  refine ev_lconst (q := 3) (v := 0) dX7_restore_2 rfl ll_0 ?_
  refine ev_lconst (q := 4) (v := 1) dX7_restore_3 rfl ll_1 ?_
  refine ev_callSI (q := 7) dX7_restore_4 rfl ml_X7_63 mt_X7_in (con_X7_in G _ _ _  _) rfl (Nat.le_of_ble_eq_true rfl) (Nat.le_of_ble_eq_true rfl) rfl (Nat.le_of_ble_eq_true rfl) (fun r1 m2 => ?_)
  refine ev_if_ne (t := 13) (q := 10) dX7_restore_7 rfl rfl (fun hc3 => ?_) (fun hc3 => ?_)
  · refine ev_ldc (q := 12) (v := (-1000001)) dX7_restore_10 rfl kc_X7_73 ?_
    exact ev_iret dX7_restore_12 rfl
  · refine ev_aload_n (q := 14) dX7_restore_13 rfl 0 rfl rfl ?_
    refine ev_getR (q := 17) (ci := 7) (j := 20) (T := TX7) dX7_restore_14 rfl cf_7 ho hj_7_20 hc_7 gf_X7_49 rfl ?_
    refine ev_iload_n (q := 18) dX7_restore_17 rfl 1 rfl rfl ?_
    refine ev_zald (q := 19) dX7_restore_18 rfl (kr_7_20 ho) (fun z4 => ?_)
    refine ev_if_ne (t := 25) (q := 22) dX7_restore_19 rfl rfl (fun hc5 => ?_) (fun hc5 => ?_)
    · refine ev_ldc (q := 24) (v := (-1000002)) dX7_restore_22 rfl kc_X7_189 ?_
      exact ev_iret dX7_restore_24 rfl
    · refine ev_aload_n (q := 26) dX7_restore_25 rfl 0 rfl rfl ?_
      refine ev_aload_n (q := 27) dX7_restore_26 rfl 0 rfl rfl ?_
      refine ev_getR (q := 30) (ci := 7) (j := 19) (T := TX7) dX7_restore_27 rfl cf_7 ho hj_7_19 hc_7 gf_X7_46 rfl ?_
      refine ev_bipush (q := 32) (v := 63) dX7_restore_30 rfl lb_63 ?_
      refine ev_iload_n (q := 33) dX7_restore_32 rfl 1 rfl rfl ?_
      refine ev_imul (q := 34) dX7_restore_33 rfl ?_
      refine ev_callVU (q := 37) dX7_restore_34 rfl ml_X7_208 mt_X7_takeFrom cf_7 rfl ho hc_7 (con_X7_takeFrom G _ _ _ ho (kr_7_19 ho) _) rfl (Nat.le_of_ble_eq_true rfl) (Nat.le_of_ble_eq_true rfl) rfl (Nat.le_of_ble_eq_true rfl) (fun r6 m7 => ?_)
      refine ev_aload_n (q := 38) dX7_restore_37 rfl 0 rfl rfl ?_
      refine ev_iconst (q := 39) (v := 0) dX7_restore_38 rfl li_0 ?_
      refine ev_putI (q := 42) (ci := 7) (j := 13) (T := TX7) dX7_restore_39 rfl cf_7 ho hj_7_13 hc_7 gf_X7_173 rfl rfl (tyX7_ok 13 hj_7_13) ?_
      refine ev_iconst (q := 43) (v := 1) dX7_restore_42 rfl li_1 ?_
      exact ev_iret dX7_restore_43 rfl
/-! AgingLettersModel.kind(I)I -/
theorem dX7_kind_0 : decode cX7_kind 0 = .ok (.aload_n 0, 1) := by decide +kernel
theorem dX7_kind_1 : decode cX7_kind 1 = .ok (.iload_n 1, 1) := by decide +kernel
theorem dX7_kind_2 : decode cX7_kind 2 = .ok (.invokevirtual 183, 3) := by decide +kernel
theorem dX7_kind_5 : decode cX7_kind 5 = .ok (.ifCond .eq 11, 3) := by decide +kernel
theorem dX7_kind_8 : decode cX7_kind 8 = .ok (.aload_n 0, 1) := by decide +kernel
theorem dX7_kind_9 : decode cX7_kind 9 = .ok (.iload_n 1, 1) := by decide +kernel
theorem dX7_kind_10 : decode cX7_kind 10 = .ok (.invokevirtual 107, 3) := by decide +kernel
theorem dX7_kind_13 : decode cX7_kind 13 = .ok (.goto 5, 3) := by decide +kernel
theorem dX7_kind_16 : decode cX7_kind 16 = .ok (.ldc 73, 2) := by decide +kernel
theorem dX7_kind_18 : decode cX7_kind 18 = .ok (.ireturn, 1) := by decide +kernel
set_option maxRecDepth 100000 in
set_option maxHeartbeats 4000000 in
theorem con_X7_kind (G : Gt) (o : Nat) (a1 : Int32) (ho : kd o = 7) (mem : Mem) : Con tvI G yX7_kind cX7_kind 2 (some .int) 3 [.ref (gA G o), .int a1] mem (X7_kind o a1 mem) := by
  refine con_of (by decide) (Nat.le_of_ble_eq_true rfl) ?_
  show EvR tvI G cX7_kind 2 (some .int) RX7 3 0 [(0, .ref (gA G o)), (1, .int (a1))] [] mem _
  unfold X7_kind
  refine ev_aload_n (q := 1) dX7_kind_0 rfl 0 rfl rfl ?_
  refine ev_iload_n (q := 2) dX7_kind_1 rfl 1 rfl rfl ?_
  refine ev_callVI (q := 5) dX7_kind_2 rfl ml_X7_183 mt_X7_isLetter cf_7 rfl ho hc_7 (con_X7_isLetter G _ _ ho _) rfl (Nat.le_of_ble_eq_true rfl) (Nat.le_of_ble_eq_true rfl) rfl (Nat.le_of_ble_eq_true rfl) (fun r1 m2 => ?_)
  refine ev_if_eq (t := 16) (q := 8) dX7_kind_5 rfl rfl (fun hc3 => ?_) (fun hc3 => ?_)
  · refine ev_ldc (q := 18) (v := (-1000001)) dX7_kind_16 rfl kc_X7_73 ?_
    exact ev_iret dX7_kind_18 rfl
  · refine ev_aload_n (q := 9) dX7_kind_8 rfl 0 rfl rfl ?_
    refine ev_iload_n (q := 10) dX7_kind_9 rfl 1 rfl rfl ?_
    refine ev_callVI (q := 13) dX7_kind_10 rfl ml_X7_107 mt_X7_sort cf_7 rfl ho hc_7 (con_X7_sort G _ _ ho _) rfl (Nat.le_of_ble_eq_true rfl) (Nat.le_of_ble_eq_true rfl) rfl (Nat.le_of_ble_eq_true rfl) (fun r4 m5 => ?_)
    refine ev_goto (t := 18) dX7_kind_13 rfl ?_
    exact ev_iret dX7_kind_18 rfl
/-! AgingLettersModel.isOf(II)Z -/
theorem dX7_isOf_0 : decode cX7_isOf 0 = .ok (.aload_n 0, 1) := by decide +kernel
theorem dX7_isOf_1 : decode cX7_isOf 1 = .ok (.iload_n 1, 1) := by decide +kernel
theorem dX7_isOf_2 : decode cX7_isOf 2 = .ok (.invokevirtual 107, 3) := by decide +kernel
theorem dX7_isOf_5 : decode cX7_isOf 5 = .ok (.istore_n 3, 1) := by decide +kernel
theorem dX7_isOf_6 : decode cX7_isOf 6 = .ok (.iload_n 2, 1) := by decide +kernel
theorem dX7_isOf_7 : decode cX7_isOf 7 = .ok (.ifCond .eq 28, 3) := by decide +kernel
theorem dX7_isOf_10 : decode cX7_isOf 10 = .ok (.iload_n 3, 1) := by decide +kernel
theorem dX7_isOf_11 : decode cX7_isOf 11 = .ok (.iload_n 2, 1) := by decide +kernel
theorem dX7_isOf_12 : decode cX7_isOf 12 = .ok (.if_icmp .eq 23, 3) := by decide +kernel
theorem dX7_isOf_15 : decode cX7_isOf 15 = .ok (.iload_n 2, 1) := by decide +kernel
theorem dX7_isOf_16 : decode cX7_isOf 16 = .ok (.iconst 1, 1) := by decide +kernel
theorem dX7_isOf_17 : decode cX7_isOf 17 = .ok (.if_icmp .ne 8, 3) := by decide +kernel
theorem dX7_isOf_20 : decode cX7_isOf 20 = .ok (.iload_n 3, 1) := by decide +kernel
theorem dX7_isOf_21 : decode cX7_isOf 21 = .ok (.iconst 3, 1) := by decide +kernel
theorem dX7_isOf_22 : decode cX7_isOf 22 = .ok (.if_icmp .le 13, 3) := by decide +kernel
theorem dX7_isOf_25 : decode cX7_isOf 25 = .ok (.iload_n 2, 1) := by decide +kernel
theorem dX7_isOf_26 : decode cX7_isOf 26 = .ok (.iconst 4, 1) := by decide +kernel
theorem dX7_isOf_27 : decode cX7_isOf 27 = .ok (.if_icmp .ne 12, 3) := by decide +kernel
theorem dX7_isOf_30 : decode cX7_isOf 30 = .ok (.iload_n 3, 1) := by decide +kernel
theorem dX7_isOf_31 : decode cX7_isOf 31 = .ok (.iconst 5, 1) := by decide +kernel
theorem dX7_isOf_32 : decode cX7_isOf 32 = .ok (.if_icmp .ne 7, 3) := by decide +kernel
theorem dX7_isOf_35 : decode cX7_isOf 35 = .ok (.iconst 1, 1) := by decide +kernel
theorem dX7_isOf_36 : decode cX7_isOf 36 = .ok (.goto 4, 3) := by decide +kernel
theorem dX7_isOf_39 : decode cX7_isOf 39 = .ok (.iconst 0, 1) := by decide +kernel
theorem dX7_isOf_40 : decode cX7_isOf 40 = .ok (.ireturn, 1) := by decide +kernel
set_option maxRecDepth 100000 in
set_option maxHeartbeats 4000000 in
theorem X7_isOf_b35_ok (G : Gt) (o : Nat) (ho : kd o = 7)     (mem : Mem) : EvR tvI G cX7_isOf 4 (some .boolean) RX7 2 35 [] [] mem (X7_isOf_b35 o  mem) := by
  unfold X7_isOf_b35
  refine ev_iconst (q := 36) (v := 1) dX7_isOf_35 rfl li_1 ?_
  refine ev_goto (t := 40) dX7_isOf_36 rfl ?_
  exact ev_zret dX7_isOf_40 rfl
set_option maxRecDepth 100000 in
set_option maxHeartbeats 4000000 in
theorem X7_isOf_b25_ok (G : Gt) (o : Nat) (ho : kd o = 7)    (x2 : Int32) (x3 : Int32) (mem : Mem) : EvR tvI G cX7_isOf 4 (some .boolean) RX7 2 25 [(2, .int (x2)), (3, .int (x3))] [] mem (X7_isOf_b25 o x2 x3 mem) := by
  unfold X7_isOf_b25
  refine ev_iload_n (q := 26) dX7_isOf_25 rfl 0 rfl rfl ?_
  refine ev_iconst (q := 27) (v := 4) dX7_isOf_26 rfl li_4 ?_
  refine ev_icmp_ne (t := 39) (q := 30) dX7_isOf_27 rfl rfl (fun hc7 => ?_) (fun hc7 => ?_)
  · refine ev_iload_n (q := 31) dX7_isOf_30 rfl 1 rfl rfl ?_
    refine ev_iconst (q := 32) (v := 5) dX7_isOf_31 rfl li_5 ?_
    refine ev_icmp_ne (t := 39) (q := 35) dX7_isOf_32 rfl rfl (fun hc8 => ?_) (fun hc8 => ?_)
    · refine ev_sub (lv' := []) [] rfl ?_
      exact X7_isOf_b35_ok G o ho   _
    · refine ev_iconst (q := 40) (v := 0) dX7_isOf_39 rfl li_0 ?_
      exact ev_zret dX7_isOf_40 rfl
  · refine ev_iconst (q := 40) (v := 0) dX7_isOf_39 rfl li_0 ?_
    exact ev_zret dX7_isOf_40 rfl
set_option maxRecDepth 100000 in
set_option maxHeartbeats 4000000 in
theorem con_X7_isOf (G : Gt) (o : Nat) (a1 : Int32) (a2 : Int32) (ho : kd o = 7) (mem : Mem) : Con tvI G yX7_isOf cX7_isOf 4 (some .boolean) 2 [.ref (gA G o), .int a1, .int a2] mem (X7_isOf o a1 a2 mem) := by
  refine con_of (by decide) (Nat.le_of_ble_eq_true rfl) ?_
  show EvR tvI G cX7_isOf 4 (some .boolean) RX7 2 0 [(0, .ref (gA G o)), (1, .int (a1)), (2, .int (a2))] [] mem _
  unfold X7_isOf
  refine ev_aload_n (q := 1) dX7_isOf_0 rfl 0 rfl rfl ?_
  refine ev_iload_n (q := 2) dX7_isOf_1 rfl 1 rfl rfl ?_
  refine ev_callVI (q := 5) dX7_isOf_2 rfl ml_X7_107 mt_X7_sort cf_7 rfl ho hc_7 (con_X7_sort G _ _ ho _) rfl (Nat.le_of_ble_eq_true rfl) (Nat.le_of_ble_eq_true rfl) rfl (Nat.le_of_ble_eq_true rfl) (fun r1 m2 => ?_)
  refine ev_istore_n (q := 6) (lv2 := [(3, .int _), (0, .ref _), (1, .int _), (2, .int _)]) dX7_isOf_5 rfl rfl (Nat.le_of_ble_eq_true rfl) rfl ?_
  refine ev_iload_n (q := 7) dX7_isOf_6 rfl 3 rfl rfl ?_
  refine ev_if_eq (t := 35) (q := 10) dX7_isOf_7 rfl rfl (fun hc3 => ?_) (fun hc3 => ?_)
  · refine ev_sub (lv' := []) [] rfl ?_
    exact X7_isOf_b35_ok G o ho   _
  · refine ev_iload_n (q := 11) dX7_isOf_10 rfl 0 rfl rfl ?_
    refine ev_iload_n (q := 12) dX7_isOf_11 rfl 3 rfl rfl ?_
    refine ev_icmp_eq (t := 35) (q := 15) dX7_isOf_12 rfl rfl (fun hc4 => ?_) (fun hc4 => ?_)
    · refine ev_sub (lv' := []) [] rfl ?_
      exact X7_isOf_b35_ok G o ho   _
    · refine ev_iload_n (q := 16) dX7_isOf_15 rfl 3 rfl rfl ?_
      refine ev_iconst (q := 17) (v := 1) dX7_isOf_16 rfl li_1 ?_
      refine ev_icmp_ne (t := 25) (q := 20) dX7_isOf_17 rfl rfl (fun hc5 => ?_) (fun hc5 => ?_)
      · refine ev_iload_n (q := 21) dX7_isOf_20 rfl 0 rfl rfl ?_
        refine ev_iconst (q := 22) (v := 3) dX7_isOf_21 rfl li_3 ?_
        refine ev_icmp_le (t := 35) (q := 25) dX7_isOf_22 rfl rfl (fun hc6 => ?_) (fun hc6 => ?_)
        · refine ev_sub (lv' := [(2, .int _), (3, .int _)]) [3, 0] rfl ?_
          exact X7_isOf_b25_ok G o ho   _ _ _
        · refine ev_sub (lv' := []) [] rfl ?_
          exact X7_isOf_b35_ok G o ho   _
      · refine ev_sub (lv' := [(2, .int _), (3, .int _)]) [3, 0] rfl ?_
        exact X7_isOf_b25_ok G o ho   _ _ _
/-! AgingLettersModel.as(II)I -/
theorem dX7_as_0 : decode cX7_as 0 = .ok (.aload_n 0, 1) := by decide +kernel
theorem dX7_as_1 : decode cX7_as 1 = .ok (.iload_n 1, 1) := by decide +kernel
theorem dX7_as_2 : decode cX7_as 2 = .ok (.invokevirtual 183, 3) := by decide +kernel
theorem dX7_as_5 : decode cX7_as 5 = .ok (.ifCond .eq 15, 3) := by decide +kernel
theorem dX7_as_8 : decode cX7_as 8 = .ok (.iload_n 2, 1) := by decide +kernel
theorem dX7_as_9 : decode cX7_as 9 = .ok (.i2l, 1) := by decide +kernel
theorem dX7_as_10 : decode cX7_as 10 = .ok (.lconst 0, 1) := by decide +kernel
theorem dX7_as_11 : decode cX7_as 11 = .ok (.ldc2_w 254, 3) := by decide +kernel
theorem dX7_as_14 : decode cX7_as 14 = .ok (.invokestatic 63, 3) := by decide +kernel
theorem dX7_as_17 : decode cX7_as 17 = .ok (.ifCond .ne 6, 3) := by decide +kernel
theorem dX7_as_20 : decode cX7_as 20 = .ok (.ldc 73, 2) := by decide +kernel
theorem dX7_as_22 : decode cX7_as 22 = .ok (.ireturn, 1) := by decide +kernel
theorem dX7_as_23 : decode cX7_as 23 = .ok (.aload_n 0, 1) := by decide +kernel
theorem dX7_as_24 : decode cX7_as 24 = .ok (.iload_n 1, 1) := by decide +kernel
theorem dX7_as_25 : decode cX7_as 25 = .ok (.iload_n 2, 1) := by decide +kernel
theorem dX7_as_26 : decode cX7_as 26 = .ok (.invokevirtual 256, 3) := by decide +kernel
theorem dX7_as_29 : decode cX7_as 29 = .ok (.ifCond .eq 11, 3) := by decide +kernel
theorem dX7_as_32 : decode cX7_as 32 = .ok (.aload_n 0, 1) := by decide +kernel
theorem dX7_as_33 : decode cX7_as 33 = .ok (.iload_n 1, 1) := by decide +kernel
theorem dX7_as_34 : decode cX7_as 34 = .ok (.invokevirtual 78, 3) := by decide +kernel
theorem dX7_as_37 : decode cX7_as 37 = .ok (.goto 8, 3) := by decide +kernel
theorem dX7_as_40 : decode cX7_as 40 = .ok (.aload_n 0, 1) := by decide +kernel
theorem dX7_as_41 : decode cX7_as 41 = .ok (.iconst 3, 1) := by decide +kernel
theorem dX7_as_42 : decode cX7_as 42 = .ok (.invokevirtual 74, 3) := by decide +kernel
theorem dX7_as_45 : decode cX7_as 45 = .ok (.ireturn, 1) := by decide +kernel
set_option maxRecDepth 100000 in
set_option maxHeartbeats 4000000 in
theorem con_X7_as (G : Gt) (o : Nat) (a1 : Int32) (a2 : Int32) (ho : kd o = 7) (mem : Mem) : Con tvI G yX7_as cX7_as 3 (some .int) 3 [.ref (gA G o), .int a1, .int a2] mem (X7_as o a1 a2 mem) := by
  refine con_of (by decide) (Nat.le_of_ble_eq_true rfl) ?_
  show EvR tvI G cX7_as 3 (some .int) RX7 3 0 [(0, .ref (gA G o)), (1, .int (a1)), (2, .int (a2))] [] mem _
  unfold X7_as
  refine ev_aload_n (q := 1) dX7_as_0 rfl 0 rfl rfl ?_
  refine ev_iload_n (q := 2) dX7_as_1 rfl 1 rfl rfl ?_
  refine ev_callVI (q := 5) dX7_as_2 rfl ml_X7_183 mt_X7_isLetter cf_7 rfl ho hc_7 (con_X7_isLetter G _ _ ho _) rfl (Nat.le_of_ble_eq_true rfl) (Nat.le_of_ble_eq_true rfl) rfl (Nat.le_of_ble_eq_true rfl) (fun r1 m2 => ?_)
  refine ev_if_eq (t := 20) (q := 8) dX7_as_5 rfl rfl (fun hc3 => ?_) (fun hc3 => ?_)
  · refine ev_ldc (q := 22) (v := (-1000001)) dX7_as_20 rfl kc_X7_73 ?_
    exact ev_iret dX7_as_22 rfl
  · refine ev_iload_n (q := 9) dX7_as_8 rfl 2 rfl rfl ?_
    refine ev_i2l (q := 10) dX7_as_9 rfl ?_
    refine ev_lconst (q := 11) (v := 0) dX7_as_10 rfl ll_0 ?_
    refine ev_ldc2 (q := 14) (v := 5) dX7_as_11 rfl kc_X7_254 ?_
    refine ev_callSI (q := 17) dX7_as_14 rfl ml_X7_63 mt_X7_in (con_X7_in G _ _ _  _) rfl (Nat.le_of_ble_eq_true rfl) (Nat.le_of_ble_eq_true rfl) rfl (Nat.le_of_ble_eq_true rfl) (fun r4 m5 => ?_)
    refine ev_if_ne (t := 23) (q := 20) dX7_as_17 rfl rfl (fun hc6 => ?_) (fun hc6 => ?_)
    · refine ev_ldc (q := 22) (v := (-1000001)) dX7_as_20 rfl kc_X7_73 ?_
      exact ev_iret dX7_as_22 rfl
    · refine ev_aload_n (q := 24) dX7_as_23 rfl 0 rfl rfl ?_
      refine ev_iload_n (q := 25) dX7_as_24 rfl 1 rfl rfl ?_
      refine ev_iload_n (q := 26) dX7_as_25 rfl 2 rfl rfl ?_
      refine ev_callVI (q := 29) dX7_as_26 rfl ml_X7_256 mt_X7_isOf cf_7 rfl ho hc_7 (con_X7_isOf G _ _ _ ho _) rfl (Nat.le_of_ble_eq_true rfl) (Nat.le_of_ble_eq_true rfl) rfl (Nat.le_of_ble_eq_true rfl) (fun r7 m8 => ?_)
      refine ev_if_eq (t := 40) (q := 32) dX7_as_29 rfl rfl (fun hc9 => ?_) (fun hc9 => ?_)
      · refine ev_aload_n (q := 41) dX7_as_40 rfl 0 rfl rfl ?_
        refine ev_iconst (q := 42) (v := 3) dX7_as_41 rfl li_3 ?_
        refine ev_callVI (q := 45) dX7_as_42 rfl ml_X7_74 mt_X7_finds cf_7 rfl ho hc_7 (con_X7_finds G _ _ ho _) rfl (Nat.le_of_ble_eq_true rfl) (Nat.le_of_ble_eq_true rfl) rfl (Nat.le_of_ble_eq_true rfl) (fun r10 m11 => ?_)
        exact ev_iret dX7_as_45 rfl
      · refine ev_aload_n (q := 33) dX7_as_32 rfl 0 rfl rfl ?_
        refine ev_iload_n (q := 34) dX7_as_33 rfl 1 rfl rfl ?_
        refine ev_callVI (q := 37) dX7_as_34 rfl ml_X7_78 mt_X7_tells cf_7 rfl ho hc_7 (con_X7_tells G _ _ ho _) rfl (Nat.le_of_ble_eq_true rfl) (Nat.le_of_ble_eq_true rfl) rfl (Nat.le_of_ble_eq_true rfl) (fun r12 m13 => ?_)
        refine ev_goto (t := 45) dX7_as_37 rfl ?_
        exact ev_iret dX7_as_45 rfl
/-! AgingLettersModel.leave(I)V -/
theorem dX7_leave_0 : decode cX7_leave 0 = .ok (.aload_n 0, 1) := by decide +kernel
theorem dX7_leave_1 : decode cX7_leave 1 = .ok (.getfield 259, 3) := by decide +kernel
theorem dX7_leave_4 : decode cX7_leave 4 = .ok (.bipush 16, 2) := by decide +kernel
theorem dX7_leave_6 : decode cX7_leave 6 = .ok (.if_icmp .ge 23, 3) := by decide +kernel
theorem dX7_leave_9 : decode cX7_leave 9 = .ok (.aload_n 0, 1) := by decide +kernel
theorem dX7_leave_10 : decode cX7_leave 10 = .ok (.getfield 53, 3) := by decide +kernel
theorem dX7_leave_13 : decode cX7_leave 13 = .ok (.aload_n 0, 1) := by decide +kernel
theorem dX7_leave_14 : decode cX7_leave 14 = .ok (.getfield 259, 3) := by decide +kernel
theorem dX7_leave_17 : decode cX7_leave 17 = .ok (.iload_n 1, 1) := by decide +kernel
theorem dX7_leave_18 : decode cX7_leave 18 = .ok (.iastore, 1) := by decide +kernel
theorem dX7_leave_19 : decode cX7_leave 19 = .ok (.aload_n 0, 1) := by decide +kernel
theorem dX7_leave_20 : decode cX7_leave 20 = .ok (.dup, 1) := by decide +kernel
theorem dX7_leave_21 : decode cX7_leave 21 = .ok (.getfield 259, 3) := by decide +kernel
theorem dX7_leave_24 : decode cX7_leave 24 = .ok (.iconst 1, 1) := by decide +kernel
theorem dX7_leave_25 : decode cX7_leave 25 = .ok (.iadd, 1) := by decide +kernel
theorem dX7_leave_26 : decode cX7_leave 26 = .ok (.putfield 259, 3) := by decide +kernel
theorem dX7_leave_29 : decode cX7_leave 29 = .ok (.return_, 1) := by decide +kernel
set_option maxRecDepth 100000 in
set_option maxHeartbeats 4000000 in
theorem con_X7_leave (G : Gt) (o : Nat) (a1 : Int32) (ho : kd o = 7) (mem : Mem) : Con tvU G yX7_leave cX7_leave 2 none 1 [.ref (gA G o), .int a1] mem (X7_leave o a1 mem) := by
  refine con_of (by decide) (Nat.le_of_ble_eq_true rfl) ?_
  show EvR tvU G cX7_leave 2 none RX7 1 0 [(0, .ref (gA G o)), (1, .int (a1))] [] mem _
  unfold X7_leave
  refine ev_aload_n (q := 1) dX7_leave_0 rfl 0 rfl rfl ?_
  refine ev_getI (q := 4) (ci := 7) (j := 22) (T := TX7) dX7_leave_1 rfl cf_7 ho hj_7_22 hc_7 gf_X7_259 rfl ?_
  refine ev_bipush (q := 6) (v := 16) dX7_leave_4 rfl lb_16 ?_
  refine ev_icmp_ge (t := 29) (q := 9) dX7_leave_6 rfl rfl (fun hc1 => ?_) (fun hc1 => ?_)
  · refine ev_aload_n (q := 10) dX7_leave_9 rfl 0 rfl rfl ?_
    refine ev_getR (q := 13) (ci := 7) (j := 21) (T := TX7) dX7_leave_10 rfl cf_7 ho hj_7_21 hc_7 gf_X7_53 rfl ?_
    refine ev_aload_n (q := 14) dX7_leave_13 rfl 0 rfl rfl ?_
    refine ev_getI (q := 17) (ci := 7) (j := 22) (T := TX7) dX7_leave_14 rfl cf_7 ho hj_7_22 hc_7 gf_X7_259 rfl ?_
    refine ev_iload_n (q := 18) dX7_leave_17 rfl 1 rfl rfl ?_
    refine ev_iast (q := 19) dX7_leave_18 rfl (kr_7_21 ho) (fun m2 => ?_)
    refine ev_aload_n (q := 20) dX7_leave_19 rfl 0 rfl rfl ?_
    refine ev_dup (q := 21) dX7_leave_20 rfl rfl ?_
    refine ev_getI (q := 24) (ci := 7) (j := 22) (T := TX7) dX7_leave_21 rfl cf_7 ho hj_7_22 hc_7 gf_X7_259 rfl ?_
    refine ev_iconst (q := 25) (v := 1) dX7_leave_24 rfl li_1 ?_
    refine ev_iadd (q := 26) dX7_leave_25 rfl ?_
    refine ev_putI (q := 29) (ci := 7) (j := 22) (T := TX7) dX7_leave_26 rfl cf_7 ho hj_7_22 hc_7 gf_X7_259 rfl rfl (tyX7_ok 22 hj_7_22) ?_
    exact ev_vret dX7_leave_29 rfl
  · exact ev_vret dX7_leave_29 rfl
/-! AgingLettersModel.sizeLent(I)I -/
theorem dX7_sizeLent_0 : decode cX7_sizeLent 0 = .ok (.aload_n 0, 1) := by decide +kernel
theorem dX7_sizeLent_1 : decode cX7_sizeLent 1 = .ok (.bipush 10, 2) := by decide +kernel
theorem dX7_sizeLent_3 : decode cX7_sizeLent 3 = .ok (.invokevirtual 262, 3) := by decide +kernel
theorem dX7_sizeLent_6 : decode cX7_sizeLent 6 = .ok (.aload_n 0, 1) := by decide +kernel
theorem dX7_sizeLent_7 : decode cX7_sizeLent 7 = .ok (.getfield 22, 3) := by decide +kernel
theorem dX7_sizeLent_10 : decode cX7_sizeLent 10 = .ok (.bipush 11, 2) := by decide +kernel
theorem dX7_sizeLent_12 : decode cX7_sizeLent 12 = .ok (.iload_n 1, 1) := by decide +kernel
theorem dX7_sizeLent_13 : decode cX7_sizeLent 13 = .ok (.iadd, 1) := by decide +kernel
theorem dX7_sizeLent_14 : decode cX7_sizeLent 14 = .ok (.iaload, 1) := by decide +kernel
theorem dX7_sizeLent_15 : decode cX7_sizeLent 15 = .ok (.ireturn, 1) := by decide +kernel
set_option maxRecDepth 100000 in
set_option maxHeartbeats 4000000 in
theorem con_X7_sizeLent (G : Gt) (o : Nat) (a1 : Int32) (ho : kd o = 7) (mem : Mem) : Con tvI G yX7_sizeLent cX7_sizeLent 2 (some .int) 2 [.ref (gA G o), .int a1] mem (X7_sizeLent o a1 mem) := by
  refine con_of (by decide) (Nat.le_of_ble_eq_true rfl) ?_
  show EvR tvI G cX7_sizeLent 2 (some .int) RX7 2 0 [(0, .ref (gA G o)), (1, .int (a1))] [] mem _
  unfold X7_sizeLent
  refine ev_aload_n (q := 1) dX7_sizeLent_0 rfl 0 rfl rfl ?_
  refine ev_bipush (q := 3) (v := 10) dX7_sizeLent_1 rfl lb_10 ?_
  refine ev_callVU (q := 6) dX7_sizeLent_3 rfl ml_X7_262 mt_X7_leave cf_7 rfl ho hc_7 (con_X7_leave G _ _ ho _) rfl (Nat.le_of_ble_eq_true rfl) (Nat.le_of_ble_eq_true rfl) rfl (Nat.le_of_ble_eq_true rfl) (fun r1 m2 => ?_)
  refine ev_aload_n (q := 7) dX7_sizeLent_6 rfl 0 rfl rfl ?_
  refine ev_getR (q := 10) (ci := 7) (j := 5) (T := TX7) dX7_sizeLent_7 rfl cf_7 ho hj_7_5 hc_7 gf_X7_22 rfl ?_
  refine ev_bipush (q := 12) (v := 11) dX7_sizeLent_10 rfl lb_11 ?_
  refine ev_iload_n (q := 13) dX7_sizeLent_12 rfl 1 rfl rfl ?_
  refine ev_iadd (q := 14) dX7_sizeLent_13 rfl ?_
  refine ev_iald (q := 15) dX7_sizeLent_14 rfl (kr_7_5 ho) (fun z3 => ?_)
  exact ev_iret dX7_sizeLent_15 rfl
/-! AgingLettersModel.markLent(I)I -/
theorem dX7_markLent_0 : decode cX7_markLent 0 = .ok (.aload_n 0, 1) := by decide +kernel
theorem dX7_markLent_1 : decode cX7_markLent 1 = .ok (.bipush 20, 2) := by decide +kernel
theorem dX7_markLent_3 : decode cX7_markLent 3 = .ok (.invokevirtual 262, 3) := by decide +kernel
theorem dX7_markLent_6 : decode cX7_markLent 6 = .ok (.iload_n 1, 1) := by decide +kernel
theorem dX7_markLent_7 : decode cX7_markLent 7 = .ok (.ireturn, 1) := by decide +kernel
set_option maxRecDepth 100000 in
set_option maxHeartbeats 4000000 in
theorem con_X7_markLent (G : Gt) (o : Nat) (a1 : Int32) (ho : kd o = 7) (mem : Mem) : Con tvI G yX7_markLent cX7_markLent 2 (some .int) 2 [.ref (gA G o), .int a1] mem (X7_markLent o a1 mem) := by
  refine con_of (by decide) (Nat.le_of_ble_eq_true rfl) ?_
  show EvR tvI G cX7_markLent 2 (some .int) RX7 2 0 [(0, .ref (gA G o)), (1, .int (a1))] [] mem _
  unfold X7_markLent
  refine ev_aload_n (q := 1) dX7_markLent_0 rfl 0 rfl rfl ?_
  refine ev_bipush (q := 3) (v := 20) dX7_markLent_1 rfl lb_20 ?_
  refine ev_callVU (q := 6) dX7_markLent_3 rfl ml_X7_262 mt_X7_leave cf_7 rfl ho hc_7 (con_X7_leave G _ _ ho _) rfl (Nat.le_of_ble_eq_true rfl) (Nat.le_of_ble_eq_true rfl) rfl (Nat.le_of_ble_eq_true rfl) (fun r1 m2 => ?_)
  refine ev_iload_n (q := 7) dX7_markLent_6 rfl 1 rfl rfl ?_
  exact ev_iret dX7_markLent_7 rfl
/-! AgingLettersModel.markOfProse(I)I -/
theorem dX7_markOfProse_0 : decode cX7_markOfProse 0 = .ok (.aload_n 0, 1) := by decide +kernel
theorem dX7_markOfProse_1 : decode cX7_markOfProse 1 = .ok (.bipush 21, 2) := by decide +kernel
theorem dX7_markOfProse_3 : decode cX7_markOfProse 3 = .ok (.invokevirtual 262, 3) := by decide +kernel
theorem dX7_markOfProse_6 : decode cX7_markOfProse 6 = .ok (.aload_n 0, 1) := by decide +kernel
theorem dX7_markOfProse_7 : decode cX7_markOfProse 7 = .ok (.iload_n 1, 1) := by decide +kernel
theorem dX7_markOfProse_8 : decode cX7_markOfProse 8 = .ok (.invokevirtual 265, 3) := by decide +kernel
theorem dX7_markOfProse_11 : decode cX7_markOfProse 11 = .ok (.aload_n 0, 1) := by decide +kernel
theorem dX7_markOfProse_12 : decode cX7_markOfProse 12 = .ok (.iload_n 1, 1) := by decide +kernel
theorem dX7_markOfProse_13 : decode cX7_markOfProse 13 = .ok (.invokevirtual 216, 3) := by decide +kernel
theorem dX7_markOfProse_16 : decode cX7_markOfProse 16 = .ok (.iadd, 1) := by decide +kernel
theorem dX7_markOfProse_17 : decode cX7_markOfProse 17 = .ok (.ireturn, 1) := by decide +kernel
set_option maxRecDepth 100000 in
set_option maxHeartbeats 4000000 in
theorem con_X7_markOfProse (G : Gt) (o : Nat) (a1 : Int32) (ho : kd o = 7) (mem : Mem) : Con tvI G yX7_markOfProse cX7_markOfProse 2 (some .int) 3 [.ref (gA G o), .int a1] mem (X7_markOfProse o a1 mem) := by
  refine con_of (by decide) (Nat.le_of_ble_eq_true rfl) ?_
  show EvR tvI G cX7_markOfProse 2 (some .int) RX7 3 0 [(0, .ref (gA G o)), (1, .int (a1))] [] mem _
  unfold X7_markOfProse
  refine ev_aload_n (q := 1) dX7_markOfProse_0 rfl 0 rfl rfl ?_
  refine ev_bipush (q := 3) (v := 21) dX7_markOfProse_1 rfl lb_21 ?_
  refine ev_callVU (q := 6) dX7_markOfProse_3 rfl ml_X7_262 mt_X7_leave cf_7 rfl ho hc_7 (con_X7_leave G _ _ ho _) rfl (Nat.le_of_ble_eq_true rfl) (Nat.le_of_ble_eq_true rfl) rfl (Nat.le_of_ble_eq_true rfl) (fun r1 m2 => ?_)
  refine ev_aload_n (q := 7) dX7_markOfProse_6 rfl 0 rfl rfl ?_
  refine ev_iload_n (q := 8) dX7_markOfProse_7 rfl 1 rfl rfl ?_
  refine ev_callVI (q := 11) dX7_markOfProse_8 rfl ml_X7_265 mt_X7_markLent cf_7 rfl ho hc_7 (con_X7_markLent G _ _ ho _) rfl (Nat.le_of_ble_eq_true rfl) (Nat.le_of_ble_eq_true rfl) rfl (Nat.le_of_ble_eq_true rfl) (fun r3 m4 => ?_)
  refine ev_aload_n (q := 12) dX7_markOfProse_11 rfl 0 rfl rfl ?_
  refine ev_iload_n (q := 13) dX7_markOfProse_12 rfl 1 rfl rfl ?_
  refine ev_callVI (q := 16) dX7_markOfProse_13 rfl ml_X7_216 mt_X7_readOf cf_7 rfl ho hc_7 (con_X7_readOf G _ _ ho _) rfl (Nat.le_of_ble_eq_true rfl) (Nat.le_of_ble_eq_true rfl) rfl (Nat.le_of_ble_eq_true rfl) (fun r5 m6 => ?_)
  refine ev_iadd (q := 17) dX7_markOfProse_16 rfl ?_
  exact ev_iret dX7_markOfProse_17 rfl
/-! AgingLettersModel.sizeOfFigures(I)I -/
theorem dX7_sizeOfFigures_0 : decode cX7_sizeOfFigures 0 = .ok (.aload_n 0, 1) := by decide +kernel
theorem dX7_sizeOfFigures_1 : decode cX7_sizeOfFigures 1 = .ok (.bipush 13, 2) := by decide +kernel
theorem dX7_sizeOfFigures_3 : decode cX7_sizeOfFigures 3 = .ok (.invokevirtual 262, 3) := by decide +kernel
theorem dX7_sizeOfFigures_6 : decode cX7_sizeOfFigures 6 = .ok (.aload_n 0, 1) := by decide +kernel
theorem dX7_sizeOfFigures_7 : decode cX7_sizeOfFigures 7 = .ok (.iload_n 1, 1) := by decide +kernel
theorem dX7_sizeOfFigures_8 : decode cX7_sizeOfFigures 8 = .ok (.invokevirtual 268, 3) := by decide +kernel
theorem dX7_sizeOfFigures_11 : decode cX7_sizeOfFigures 11 = .ok (.bipush 100, 2) := by decide +kernel
theorem dX7_sizeOfFigures_13 : decode cX7_sizeOfFigures 13 = .ok (.isub, 1) := by decide +kernel
theorem dX7_sizeOfFigures_14 : decode cX7_sizeOfFigures 14 = .ok (.ireturn, 1) := by decide +kernel
set_option maxRecDepth 100000 in
set_option maxHeartbeats 4000000 in
theorem con_X7_sizeOfFigures (G : Gt) (o : Nat) (a1 : Int32) (ho : kd o = 7) (mem : Mem) : Con tvI G yX7_sizeOfFigures cX7_sizeOfFigures 2 (some .int) 3 [.ref (gA G o), .int a1] mem (X7_sizeOfFigures o a1 mem) := by
  refine con_of (by decide) (Nat.le_of_ble_eq_true rfl) ?_
  show EvR tvI G cX7_sizeOfFigures 2 (some .int) RX7 3 0 [(0, .ref (gA G o)), (1, .int (a1))] [] mem _
  unfold X7_sizeOfFigures
  refine ev_aload_n (q := 1) dX7_sizeOfFigures_0 rfl 0 rfl rfl ?_
  refine ev_bipush (q := 3) (v := 13) dX7_sizeOfFigures_1 rfl lb_13 ?_
  refine ev_callVU (q := 6) dX7_sizeOfFigures_3 rfl ml_X7_262 mt_X7_leave cf_7 rfl ho hc_7 (con_X7_leave G _ _ ho _) rfl (Nat.le_of_ble_eq_true rfl) (Nat.le_of_ble_eq_true rfl) rfl (Nat.le_of_ble_eq_true rfl) (fun r1 m2 => ?_)
  refine ev_aload_n (q := 7) dX7_sizeOfFigures_6 rfl 0 rfl rfl ?_
  refine ev_iload_n (q := 8) dX7_sizeOfFigures_7 rfl 1 rfl rfl ?_
  refine ev_callVI (q := 11) dX7_sizeOfFigures_8 rfl ml_X7_268 mt_X7_sizeLent cf_7 rfl ho hc_7 (con_X7_sizeLent G _ _ ho _) rfl (Nat.le_of_ble_eq_true rfl) (Nat.le_of_ble_eq_true rfl) rfl (Nat.le_of_ble_eq_true rfl) (fun r3 m4 => ?_)
  refine ev_bipush (q := 13) (v := 100) dX7_sizeOfFigures_11 rfl lb_100 ?_
  refine ev_isub (q := 14) dX7_sizeOfFigures_13 rfl ?_
  exact ev_iret dX7_sizeOfFigures_14 rfl
/-! AgingLettersModel.sizeOfSums(I)I -/
theorem dX7_sizeOfSums_0 : decode cX7_sizeOfSums 0 = .ok (.aload_n 0, 1) := by decide +kernel
theorem dX7_sizeOfSums_1 : decode cX7_sizeOfSums 1 = .ok (.iload_n 1, 1) := by decide +kernel
theorem dX7_sizeOfSums_2 : decode cX7_sizeOfSums 2 = .ok (.invokevirtual 107, 3) := by decide +kernel
theorem dX7_sizeOfSums_5 : decode cX7_sizeOfSums 5 = .ok (.iconst 5, 1) := by decide +kernel
theorem dX7_sizeOfSums_6 : decode cX7_sizeOfSums 6 = .ok (.if_icmp .ne 17, 3) := by decide +kernel
theorem dX7_sizeOfSums_9 : decode cX7_sizeOfSums 9 = .ok (.aload_n 0, 1) := by decide +kernel
theorem dX7_sizeOfSums_10 : decode cX7_sizeOfSums 10 = .ok (.bipush 14, 2) := by decide +kernel
theorem dX7_sizeOfSums_12 : decode cX7_sizeOfSums 12 = .ok (.invokevirtual 262, 3) := by decide +kernel
theorem dX7_sizeOfSums_15 : decode cX7_sizeOfSums 15 = .ok (.iconst 2, 1) := by decide +kernel
theorem dX7_sizeOfSums_16 : decode cX7_sizeOfSums 16 = .ok (.aload_n 0, 1) := by decide +kernel
theorem dX7_sizeOfSums_17 : decode cX7_sizeOfSums 17 = .ok (.iload_n 1, 1) := by decide +kernel
theorem dX7_sizeOfSums_18 : decode cX7_sizeOfSums 18 = .ok (.invokevirtual 271, 3) := by decide +kernel
theorem dX7_sizeOfSums_21 : decode cX7_sizeOfSums 21 = .ok (.imul, 1) := by decide +kernel
theorem dX7_sizeOfSums_22 : decode cX7_sizeOfSums 22 = .ok (.ireturn, 1) := by decide +kernel
theorem dX7_sizeOfSums_23 : decode cX7_sizeOfSums 23 = .ok (.aload_n 0, 1) := by decide +kernel
theorem dX7_sizeOfSums_24 : decode cX7_sizeOfSums 24 = .ok (.iload_n 1, 1) := by decide +kernel
theorem dX7_sizeOfSums_25 : decode cX7_sizeOfSums 25 = .ok (.invokevirtual 271, 3) := by decide +kernel
theorem dX7_sizeOfSums_28 : decode cX7_sizeOfSums 28 = .ok (.ireturn, 1) := by decide +kernel
set_option maxRecDepth 100000 in
set_option maxHeartbeats 4000000 in
theorem con_X7_sizeOfSums (G : Gt) (o : Nat) (a1 : Int32) (ho : kd o = 7) (mem : Mem) : Con tvI G yX7_sizeOfSums cX7_sizeOfSums 2 (some .int) 4 [.ref (gA G o), .int a1] mem (X7_sizeOfSums o a1 mem) := by
  refine con_of (by decide) (Nat.le_of_ble_eq_true rfl) ?_
  show EvR tvI G cX7_sizeOfSums 2 (some .int) RX7 4 0 [(0, .ref (gA G o)), (1, .int (a1))] [] mem _
  unfold X7_sizeOfSums
  refine ev_aload_n (q := 1) dX7_sizeOfSums_0 rfl 0 rfl rfl ?_
  refine ev_iload_n (q := 2) dX7_sizeOfSums_1 rfl 1 rfl rfl ?_
  refine ev_callVI (q := 5) dX7_sizeOfSums_2 rfl ml_X7_107 mt_X7_sort cf_7 rfl ho hc_7 (con_X7_sort G _ _ ho _) rfl (Nat.le_of_ble_eq_true rfl) (Nat.le_of_ble_eq_true rfl) rfl (Nat.le_of_ble_eq_true rfl) (fun r1 m2 => ?_)
  refine ev_iconst (q := 6) (v := 5) dX7_sizeOfSums_5 rfl li_5 ?_
  refine ev_icmp_ne (t := 23) (q := 9) dX7_sizeOfSums_6 rfl rfl (fun hc3 => ?_) (fun hc3 => ?_)
  · refine ev_aload_n (q := 10) dX7_sizeOfSums_9 rfl 0 rfl rfl ?_
    refine ev_bipush (q := 12) (v := 14) dX7_sizeOfSums_10 rfl lb_14 ?_
    refine ev_callVU (q := 15) dX7_sizeOfSums_12 rfl ml_X7_262 mt_X7_leave cf_7 rfl ho hc_7 (con_X7_leave G _ _ ho _) rfl (Nat.le_of_ble_eq_true rfl) (Nat.le_of_ble_eq_true rfl) rfl (Nat.le_of_ble_eq_true rfl) (fun r6 m7 => ?_)
    refine ev_iconst (q := 16) (v := 2) dX7_sizeOfSums_15 rfl li_2 ?_
    refine ev_aload_n (q := 17) dX7_sizeOfSums_16 rfl 0 rfl rfl ?_
    refine ev_iload_n (q := 18) dX7_sizeOfSums_17 rfl 1 rfl rfl ?_
    refine ev_callVI (q := 21) dX7_sizeOfSums_18 rfl ml_X7_271 mt_X7_sizeOfFigures cf_7 rfl ho hc_7 (con_X7_sizeOfFigures G _ _ ho _) rfl (Nat.le_of_ble_eq_true rfl) (Nat.le_of_ble_eq_true rfl) rfl (Nat.le_of_ble_eq_true rfl) (fun r8 m9 => ?_)
    refine ev_imul (q := 22) dX7_sizeOfSums_21 rfl ?_
    exact ev_iret dX7_sizeOfSums_22 rfl
  · refine ev_aload_n (q := 24) dX7_sizeOfSums_23 rfl 0 rfl rfl ?_
    refine ev_iload_n (q := 25) dX7_sizeOfSums_24 rfl 1 rfl rfl ?_
    refine ev_callVI (q := 28) dX7_sizeOfSums_25 rfl ml_X7_271 mt_X7_sizeOfFigures cf_7 rfl ho hc_7 (con_X7_sizeOfFigures G _ _ ho _) rfl (Nat.le_of_ble_eq_true rfl) (Nat.le_of_ble_eq_true rfl) rfl (Nat.le_of_ble_eq_true rfl) (fun r4 m5 => ?_)
    exact ev_iret dX7_sizeOfSums_28 rfl
/-! AgingLettersModel.markOf(I)I -/
theorem dX7_markOf_0 : decode cX7_markOf 0 = .ok (.aload_n 0, 1) := by decide +kernel
theorem dX7_markOf_1 : decode cX7_markOf 1 = .ok (.iload_n 1, 1) := by decide +kernel
theorem dX7_markOf_2 : decode cX7_markOf 2 = .ok (.invokevirtual 107, 3) := by decide +kernel
theorem dX7_markOf_5 : decode cX7_markOf 5 = .ok (.iconst 4, 1) := by decide +kernel
theorem dX7_markOf_6 : decode cX7_markOf 6 = .ok (.if_icmp .lt 23, 3) := by decide +kernel
theorem dX7_markOf_9 : decode cX7_markOf 9 = .ok (.aload_n 0, 1) := by decide +kernel
theorem dX7_markOf_10 : decode cX7_markOf 10 = .ok (.bipush 23, 2) := by decide +kernel
theorem dX7_markOf_12 : decode cX7_markOf 12 = .ok (.invokevirtual 262, 3) := by decide +kernel
theorem dX7_markOf_15 : decode cX7_markOf 15 = .ok (.aload_n 0, 1) := by decide +kernel
theorem dX7_markOf_16 : decode cX7_markOf 16 = .ok (.iload_n 1, 1) := by decide +kernel
theorem dX7_markOf_17 : decode cX7_markOf 17 = .ok (.invokevirtual 265, 3) := by decide +kernel
theorem dX7_markOf_20 : decode cX7_markOf 20 = .ok (.istore_n 2, 1) := by decide +kernel
theorem dX7_markOf_21 : decode cX7_markOf 21 = .ok (.iload_n 2, 1) := by decide +kernel
theorem dX7_markOf_22 : decode cX7_markOf 22 = .ok (.aload_n 0, 1) := by decide +kernel
theorem dX7_markOf_23 : decode cX7_markOf 23 = .ok (.iload_n 1, 1) := by decide +kernel
theorem dX7_markOf_24 : decode cX7_markOf 24 = .ok (.invokevirtual 274, 3) := by decide +kernel
theorem dX7_markOf_27 : decode cX7_markOf 27 = .ok (.isub, 1) := by decide +kernel
theorem dX7_markOf_28 : decode cX7_markOf 28 = .ok (.ireturn, 1) := by decide +kernel
theorem dX7_markOf_29 : decode cX7_markOf 29 = .ok (.aload_n 0, 1) := by decide +kernel
theorem dX7_markOf_30 : decode cX7_markOf 30 = .ok (.iload_n 1, 1) := by decide +kernel
theorem dX7_markOf_31 : decode cX7_markOf 31 = .ok (.invokevirtual 107, 3) := by decide +kernel
theorem dX7_markOf_34 : decode cX7_markOf 34 = .ok (.iconst 3, 1) := by decide +kernel
theorem dX7_markOf_35 : decode cX7_markOf 35 = .ok (.if_icmp .ne 19, 3) := by decide +kernel
theorem dX7_markOf_38 : decode cX7_markOf 38 = .ok (.aload_n 0, 1) := by decide +kernel
theorem dX7_markOf_39 : decode cX7_markOf 39 = .ok (.bipush 22, 2) := by decide +kernel
theorem dX7_markOf_41 : decode cX7_markOf 41 = .ok (.invokevirtual 262, 3) := by decide +kernel
theorem dX7_markOf_44 : decode cX7_markOf 44 = .ok (.aload_n 0, 1) := by decide +kernel
theorem dX7_markOf_45 : decode cX7_markOf 45 = .ok (.iload_n 1, 1) := by decide +kernel
theorem dX7_markOf_46 : decode cX7_markOf 46 = .ok (.invokevirtual 277, 3) := by decide +kernel
theorem dX7_markOf_49 : decode cX7_markOf 49 = .ok (.sipush 1000, 3) := by decide +kernel
theorem dX7_markOf_52 : decode cX7_markOf 52 = .ok (.isub, 1) := by decide +kernel
theorem dX7_markOf_53 : decode cX7_markOf 53 = .ok (.ireturn, 1) := by decide +kernel
theorem dX7_markOf_54 : decode cX7_markOf 54 = .ok (.aload_n 0, 1) := by decide +kernel
theorem dX7_markOf_55 : decode cX7_markOf 55 = .ok (.iload_n 1, 1) := by decide +kernel
theorem dX7_markOf_56 : decode cX7_markOf 56 = .ok (.invokevirtual 107, 3) := by decide +kernel
theorem dX7_markOf_59 : decode cX7_markOf 59 = .ok (.iconst 2, 1) := by decide +kernel
theorem dX7_markOf_60 : decode cX7_markOf 60 = .ok (.if_icmp .ne 17, 3) := by decide +kernel
theorem dX7_markOf_63 : decode cX7_markOf 63 = .ok (.aload_n 0, 1) := by decide +kernel
theorem dX7_markOf_64 : decode cX7_markOf 64 = .ok (.bipush 24, 2) := by decide +kernel
theorem dX7_markOf_66 : decode cX7_markOf 66 = .ok (.invokevirtual 262, 3) := by decide +kernel
theorem dX7_markOf_69 : decode cX7_markOf 69 = .ok (.iconst 2, 1) := by decide +kernel
theorem dX7_markOf_70 : decode cX7_markOf 70 = .ok (.aload_n 0, 1) := by decide +kernel
theorem dX7_markOf_71 : decode cX7_markOf 71 = .ok (.iload_n 1, 1) := by decide +kernel
theorem dX7_markOf_72 : decode cX7_markOf 72 = .ok (.invokevirtual 277, 3) := by decide +kernel
theorem dX7_markOf_75 : decode cX7_markOf 75 = .ok (.imul, 1) := by decide +kernel
theorem dX7_markOf_76 : decode cX7_markOf 76 = .ok (.ireturn, 1) := by decide +kernel
theorem dX7_markOf_77 : decode cX7_markOf 77 = .ok (.aload_n 0, 1) := by decide +kernel
theorem dX7_markOf_78 : decode cX7_markOf 78 = .ok (.iload_n 1, 1) := by decide +kernel
theorem dX7_markOf_79 : decode cX7_markOf 79 = .ok (.invokevirtual 277, 3) := by decide +kernel
theorem dX7_markOf_82 : decode cX7_markOf 82 = .ok (.ireturn, 1) := by decide +kernel
set_option maxRecDepth 100000 in
set_option maxHeartbeats 4000000 in
theorem con_X7_markOf (G : Gt) (o : Nat) (a1 : Int32) (ho : kd o = 7) (mem : Mem) : Con tvI G yX7_markOf cX7_markOf 3 (some .int) 5 [.ref (gA G o), .int a1] mem (X7_markOf o a1 mem) := by
  refine con_of (by decide) (Nat.le_of_ble_eq_true rfl) ?_
  show EvR tvI G cX7_markOf 3 (some .int) RX7 5 0 [(0, .ref (gA G o)), (1, .int (a1))] [] mem _
  unfold X7_markOf
  refine ev_aload_n (q := 1) dX7_markOf_0 rfl 0 rfl rfl ?_
  refine ev_iload_n (q := 2) dX7_markOf_1 rfl 1 rfl rfl ?_
  refine ev_callVI (q := 5) dX7_markOf_2 rfl ml_X7_107 mt_X7_sort cf_7 rfl ho hc_7 (con_X7_sort G _ _ ho _) rfl (Nat.le_of_ble_eq_true rfl) (Nat.le_of_ble_eq_true rfl) rfl (Nat.le_of_ble_eq_true rfl) (fun r1 m2 => ?_)
  refine ev_iconst (q := 6) (v := 4) dX7_markOf_5 rfl li_4 ?_
  refine ev_icmp_lt (t := 29) (q := 9) dX7_markOf_6 rfl rfl (fun hc3 => ?_) (fun hc3 => ?_)
  · refine ev_aload_n (q := 30) dX7_markOf_29 rfl 0 rfl rfl ?_
    refine ev_iload_n (q := 31) dX7_markOf_30 rfl 1 rfl rfl ?_
    refine ev_callVI (q := 34) dX7_markOf_31 rfl ml_X7_107 mt_X7_sort cf_7 rfl ho hc_7 (con_X7_sort G _ _ ho _) rfl (Nat.le_of_ble_eq_true rfl) (Nat.le_of_ble_eq_true rfl) rfl (Nat.le_of_ble_eq_true rfl) (fun r4 m5 => ?_)
    refine ev_iconst (q := 35) (v := 3) dX7_markOf_34 rfl li_3 ?_
    refine ev_icmp_ne (t := 54) (q := 38) dX7_markOf_35 rfl rfl (fun hc6 => ?_) (fun hc6 => ?_)
    · refine ev_aload_n (q := 39) dX7_markOf_38 rfl 0 rfl rfl ?_
      refine ev_bipush (q := 41) (v := 22) dX7_markOf_39 rfl lb_22 ?_
      refine ev_callVU (q := 44) dX7_markOf_41 rfl ml_X7_262 mt_X7_leave cf_7 rfl ho hc_7 (con_X7_leave G _ _ ho _) rfl (Nat.le_of_ble_eq_true rfl) (Nat.le_of_ble_eq_true rfl) rfl (Nat.le_of_ble_eq_true rfl) (fun r16 m17 => ?_)
      refine ev_aload_n (q := 45) dX7_markOf_44 rfl 0 rfl rfl ?_
      refine ev_iload_n (q := 46) dX7_markOf_45 rfl 1 rfl rfl ?_
      refine ev_callVI (q := 49) dX7_markOf_46 rfl ml_X7_277 mt_X7_markOfProse cf_7 rfl ho hc_7 (con_X7_markOfProse G _ _ ho _) rfl (Nat.le_of_ble_eq_true rfl) (Nat.le_of_ble_eq_true rfl) rfl (Nat.le_of_ble_eq_true rfl) (fun r18 m19 => ?_)
      refine ev_sipush (q := 52) (v := 1000) dX7_markOf_49 rfl ls_1000 ?_
      refine ev_isub (q := 53) dX7_markOf_52 rfl ?_
      exact ev_iret dX7_markOf_53 rfl
    · refine ev_aload_n (q := 55) dX7_markOf_54 rfl 0 rfl rfl ?_
      refine ev_iload_n (q := 56) dX7_markOf_55 rfl 1 rfl rfl ?_
      refine ev_callVI (q := 59) dX7_markOf_56 rfl ml_X7_107 mt_X7_sort cf_7 rfl ho hc_7 (con_X7_sort G _ _ ho _) rfl (Nat.le_of_ble_eq_true rfl) (Nat.le_of_ble_eq_true rfl) rfl (Nat.le_of_ble_eq_true rfl) (fun r7 m8 => ?_)
      refine ev_iconst (q := 60) (v := 2) dX7_markOf_59 rfl li_2 ?_
      refine ev_icmp_ne (t := 77) (q := 63) dX7_markOf_60 rfl rfl (fun hc9 => ?_) (fun hc9 => ?_)
      · refine ev_aload_n (q := 64) dX7_markOf_63 rfl 0 rfl rfl ?_
        refine ev_bipush (q := 66) (v := 24) dX7_markOf_64 rfl lb_24 ?_
        refine ev_callVU (q := 69) dX7_markOf_66 rfl ml_X7_262 mt_X7_leave cf_7 rfl ho hc_7 (con_X7_leave G _ _ ho _) rfl (Nat.le_of_ble_eq_true rfl) (Nat.le_of_ble_eq_true rfl) rfl (Nat.le_of_ble_eq_true rfl) (fun r12 m13 => ?_)
        refine ev_iconst (q := 70) (v := 2) dX7_markOf_69 rfl li_2 ?_
        refine ev_aload_n (q := 71) dX7_markOf_70 rfl 0 rfl rfl ?_
        refine ev_iload_n (q := 72) dX7_markOf_71 rfl 1 rfl rfl ?_
        refine ev_callVI (q := 75) dX7_markOf_72 rfl ml_X7_277 mt_X7_markOfProse cf_7 rfl ho hc_7 (con_X7_markOfProse G _ _ ho _) rfl (Nat.le_of_ble_eq_true rfl) (Nat.le_of_ble_eq_true rfl) rfl (Nat.le_of_ble_eq_true rfl) (fun r14 m15 => ?_)
        refine ev_imul (q := 76) dX7_markOf_75 rfl ?_
        exact ev_iret dX7_markOf_76 rfl
      · refine ev_aload_n (q := 78) dX7_markOf_77 rfl 0 rfl rfl ?_
        refine ev_iload_n (q := 79) dX7_markOf_78 rfl 1 rfl rfl ?_
        refine ev_callVI (q := 82) dX7_markOf_79 rfl ml_X7_277 mt_X7_markOfProse cf_7 rfl ho hc_7 (con_X7_markOfProse G _ _ ho _) rfl (Nat.le_of_ble_eq_true rfl) (Nat.le_of_ble_eq_true rfl) rfl (Nat.le_of_ble_eq_true rfl) (fun r10 m11 => ?_)
        exact ev_iret dX7_markOf_82 rfl
  · refine ev_aload_n (q := 10) dX7_markOf_9 rfl 0 rfl rfl ?_
    refine ev_bipush (q := 12) (v := 23) dX7_markOf_10 rfl lb_23 ?_
    refine ev_callVU (q := 15) dX7_markOf_12 rfl ml_X7_262 mt_X7_leave cf_7 rfl ho hc_7 (con_X7_leave G _ _ ho _) rfl (Nat.le_of_ble_eq_true rfl) (Nat.le_of_ble_eq_true rfl) rfl (Nat.le_of_ble_eq_true rfl) (fun r20 m21 => ?_)
    refine ev_aload_n (q := 16) dX7_markOf_15 rfl 0 rfl rfl ?_
    refine ev_iload_n (q := 17) dX7_markOf_16 rfl 1 rfl rfl ?_
    refine ev_callVI (q := 20) dX7_markOf_17 rfl ml_X7_265 mt_X7_markLent cf_7 rfl ho hc_7 (con_X7_markLent G _ _ ho _) rfl (Nat.le_of_ble_eq_true rfl) (Nat.le_of_ble_eq_true rfl) rfl (Nat.le_of_ble_eq_true rfl) (fun r22 m23 => ?_)
    refine ev_istore_n (q := 21) (lv2 := [(2, .int _), (0, .ref _), (1, .int _)]) dX7_markOf_20 rfl rfl (Nat.le_of_ble_eq_true rfl) rfl ?_
    refine ev_iload_n (q := 22) dX7_markOf_21 rfl 0 rfl rfl ?_
    refine ev_aload_n (q := 23) dX7_markOf_22 rfl 1 rfl rfl ?_
    refine ev_iload_n (q := 24) dX7_markOf_23 rfl 2 rfl rfl ?_
    refine ev_callVI (q := 27) dX7_markOf_24 rfl ml_X7_274 mt_X7_sizeOfSums cf_7 rfl ho hc_7 (con_X7_sizeOfSums G _ _ ho _) rfl (Nat.le_of_ble_eq_true rfl) (Nat.le_of_ble_eq_true rfl) rfl (Nat.le_of_ble_eq_true rfl) (fun r24 m25 => ?_)
    refine ev_isub (q := 28) dX7_markOf_27 rfl ?_
    exact ev_iret dX7_markOf_28 rfl
/-! AgingLettersModel.sizeOfProse(I)I -/
theorem dX7_sizeOfProse_0 : decode cX7_sizeOfProse 0 = .ok (.aload_n 0, 1) := by decide +kernel
theorem dX7_sizeOfProse_1 : decode cX7_sizeOfProse 1 = .ok (.bipush 11, 2) := by decide +kernel
theorem dX7_sizeOfProse_3 : decode cX7_sizeOfProse 3 = .ok (.invokevirtual 262, 3) := by decide +kernel
theorem dX7_sizeOfProse_6 : decode cX7_sizeOfProse 6 = .ok (.aload_n 0, 1) := by decide +kernel
theorem dX7_sizeOfProse_7 : decode cX7_sizeOfProse 7 = .ok (.iload_n 1, 1) := by decide +kernel
theorem dX7_sizeOfProse_8 : decode cX7_sizeOfProse 8 = .ok (.invokevirtual 268, 3) := by decide +kernel
theorem dX7_sizeOfProse_11 : decode cX7_sizeOfProse 11 = .ok (.istore_n 2, 1) := by decide +kernel
theorem dX7_sizeOfProse_12 : decode cX7_sizeOfProse 12 = .ok (.iload_n 2, 1) := by decide +kernel
theorem dX7_sizeOfProse_13 : decode cX7_sizeOfProse 13 = .ok (.aload_n 0, 1) := by decide +kernel
theorem dX7_sizeOfProse_14 : decode cX7_sizeOfProse 14 = .ok (.iload_n 1, 1) := by decide +kernel
theorem dX7_sizeOfProse_15 : decode cX7_sizeOfProse 15 = .ok (.invokevirtual 280, 3) := by decide +kernel
theorem dX7_sizeOfProse_18 : decode cX7_sizeOfProse 18 = .ok (.iadd, 1) := by decide +kernel
theorem dX7_sizeOfProse_19 : decode cX7_sizeOfProse 19 = .ok (.ireturn, 1) := by decide +kernel
set_option maxRecDepth 100000 in
set_option maxHeartbeats 4000000 in
theorem con_X7_sizeOfProse (G : Gt) (o : Nat) (a1 : Int32) (ho : kd o = 7) (mem : Mem) : Con tvI G yX7_sizeOfProse cX7_sizeOfProse 3 (some .int) 6 [.ref (gA G o), .int a1] mem (X7_sizeOfProse o a1 mem) := by
  refine con_of (by decide) (Nat.le_of_ble_eq_true rfl) ?_
  show EvR tvI G cX7_sizeOfProse 3 (some .int) RX7 6 0 [(0, .ref (gA G o)), (1, .int (a1))] [] mem _
  unfold X7_sizeOfProse
  refine ev_aload_n (q := 1) dX7_sizeOfProse_0 rfl 0 rfl rfl ?_
  refine ev_bipush (q := 3) (v := 11) dX7_sizeOfProse_1 rfl lb_11 ?_
  refine ev_callVU (q := 6) dX7_sizeOfProse_3 rfl ml_X7_262 mt_X7_leave cf_7 rfl ho hc_7 (con_X7_leave G _ _ ho _) rfl (Nat.le_of_ble_eq_true rfl) (Nat.le_of_ble_eq_true rfl) rfl (Nat.le_of_ble_eq_true rfl) (fun r1 m2 => ?_)
  refine ev_aload_n (q := 7) dX7_sizeOfProse_6 rfl 0 rfl rfl ?_
  refine ev_iload_n (q := 8) dX7_sizeOfProse_7 rfl 1 rfl rfl ?_
  refine ev_callVI (q := 11) dX7_sizeOfProse_8 rfl ml_X7_268 mt_X7_sizeLent cf_7 rfl ho hc_7 (con_X7_sizeLent G _ _ ho _) rfl (Nat.le_of_ble_eq_true rfl) (Nat.le_of_ble_eq_true rfl) rfl (Nat.le_of_ble_eq_true rfl) (fun r3 m4 => ?_)
  refine ev_istore_n (q := 12) (lv2 := [(2, .int _), (0, .ref _), (1, .int _)]) dX7_sizeOfProse_11 rfl rfl (Nat.le_of_ble_eq_true rfl) rfl ?_
  refine ev_iload_n (q := 13) dX7_sizeOfProse_12 rfl 0 rfl rfl ?_
  refine ev_aload_n (q := 14) dX7_sizeOfProse_13 rfl 1 rfl rfl ?_
  refine ev_iload_n (q := 15) dX7_sizeOfProse_14 rfl 2 rfl rfl ?_
  refine ev_callVI (q := 18) dX7_sizeOfProse_15 rfl ml_X7_280 mt_X7_markOf cf_7 rfl ho hc_7 (con_X7_markOf G _ _ ho _) rfl (Nat.le_of_ble_eq_true rfl) (Nat.le_of_ble_eq_true rfl) rfl (Nat.le_of_ble_eq_true rfl) (fun r5 m6 => ?_)
  refine ev_iadd (q := 19) dX7_sizeOfProse_18 rfl ?_
  exact ev_iret dX7_sizeOfProse_19 rfl
/-! AgingLettersModel.sizeOf(I)I -/
theorem dX7_sizeOf_0 : decode cX7_sizeOf 0 = .ok (.aload_n 0, 1) := by decide +kernel
theorem dX7_sizeOf_1 : decode cX7_sizeOf 1 = .ok (.iload_n 1, 1) := by decide +kernel
theorem dX7_sizeOf_2 : decode cX7_sizeOf 2 = .ok (.invokevirtual 107, 3) := by decide +kernel
theorem dX7_sizeOf_5 : decode cX7_sizeOf 5 = .ok (.iconst 4, 1) := by decide +kernel
theorem dX7_sizeOf_6 : decode cX7_sizeOf 6 = .ok (.if_icmp .lt 9, 3) := by decide +kernel
theorem dX7_sizeOf_9 : decode cX7_sizeOf 9 = .ok (.aload_n 0, 1) := by decide +kernel
theorem dX7_sizeOf_10 : decode cX7_sizeOf 10 = .ok (.iload_n 1, 1) := by decide +kernel
theorem dX7_sizeOf_11 : decode cX7_sizeOf 11 = .ok (.invokevirtual 274, 3) := by decide +kernel
theorem dX7_sizeOf_14 : decode cX7_sizeOf 14 = .ok (.ireturn, 1) := by decide +kernel
theorem dX7_sizeOf_15 : decode cX7_sizeOf 15 = .ok (.aload_n 0, 1) := by decide +kernel
theorem dX7_sizeOf_16 : decode cX7_sizeOf 16 = .ok (.iload_n 1, 1) := by decide +kernel
theorem dX7_sizeOf_17 : decode cX7_sizeOf 17 = .ok (.invokevirtual 107, 3) := by decide +kernel
theorem dX7_sizeOf_20 : decode cX7_sizeOf 20 = .ok (.iconst 2, 1) := by decide +kernel
theorem dX7_sizeOf_21 : decode cX7_sizeOf 21 = .ok (.if_icmp .ne 16, 3) := by decide +kernel
theorem dX7_sizeOf_24 : decode cX7_sizeOf 24 = .ok (.aload_n 0, 1) := by decide +kernel
theorem dX7_sizeOf_25 : decode cX7_sizeOf 25 = .ok (.bipush 12, 2) := by decide +kernel
theorem dX7_sizeOf_27 : decode cX7_sizeOf 27 = .ok (.invokevirtual 262, 3) := by decide +kernel
theorem dX7_sizeOf_30 : decode cX7_sizeOf 30 = .ok (.aload_n 0, 1) := by decide +kernel
theorem dX7_sizeOf_31 : decode cX7_sizeOf 31 = .ok (.iload_n 1, 1) := by decide +kernel
theorem dX7_sizeOf_32 : decode cX7_sizeOf 32 = .ok (.invokevirtual 283, 3) := by decide +kernel
theorem dX7_sizeOf_35 : decode cX7_sizeOf 35 = .ok (.ineg, 1) := by decide +kernel
theorem dX7_sizeOf_36 : decode cX7_sizeOf 36 = .ok (.ireturn, 1) := by decide +kernel
theorem dX7_sizeOf_37 : decode cX7_sizeOf 37 = .ok (.aload_n 0, 1) := by decide +kernel
theorem dX7_sizeOf_38 : decode cX7_sizeOf 38 = .ok (.iload_n 1, 1) := by decide +kernel
theorem dX7_sizeOf_39 : decode cX7_sizeOf 39 = .ok (.invokevirtual 283, 3) := by decide +kernel
theorem dX7_sizeOf_42 : decode cX7_sizeOf 42 = .ok (.ireturn, 1) := by decide +kernel
set_option maxRecDepth 100000 in
set_option maxHeartbeats 4000000 in
theorem con_X7_sizeOf (G : Gt) (o : Nat) (a1 : Int32) (ho : kd o = 7) (mem : Mem) : Con tvI G yX7_sizeOf cX7_sizeOf 2 (some .int) 7 [.ref (gA G o), .int a1] mem (X7_sizeOf o a1 mem) := by
  refine con_of (by decide) (Nat.le_of_ble_eq_true rfl) ?_
  show EvR tvI G cX7_sizeOf 2 (some .int) RX7 7 0 [(0, .ref (gA G o)), (1, .int (a1))] [] mem _
  unfold X7_sizeOf
  refine ev_aload_n (q := 1) dX7_sizeOf_0 rfl 0 rfl rfl ?_
  refine ev_iload_n (q := 2) dX7_sizeOf_1 rfl 1 rfl rfl ?_
  refine ev_callVI (q := 5) dX7_sizeOf_2 rfl ml_X7_107 mt_X7_sort cf_7 rfl ho hc_7 (con_X7_sort G _ _ ho _) rfl (Nat.le_of_ble_eq_true rfl) (Nat.le_of_ble_eq_true rfl) rfl (Nat.le_of_ble_eq_true rfl) (fun r1 m2 => ?_)
  refine ev_iconst (q := 6) (v := 4) dX7_sizeOf_5 rfl li_4 ?_
  refine ev_icmp_lt (t := 15) (q := 9) dX7_sizeOf_6 rfl rfl (fun hc3 => ?_) (fun hc3 => ?_)
  · refine ev_aload_n (q := 16) dX7_sizeOf_15 rfl 0 rfl rfl ?_
    refine ev_iload_n (q := 17) dX7_sizeOf_16 rfl 1 rfl rfl ?_
    refine ev_callVI (q := 20) dX7_sizeOf_17 rfl ml_X7_107 mt_X7_sort cf_7 rfl ho hc_7 (con_X7_sort G _ _ ho _) rfl (Nat.le_of_ble_eq_true rfl) (Nat.le_of_ble_eq_true rfl) rfl (Nat.le_of_ble_eq_true rfl) (fun r4 m5 => ?_)
    refine ev_iconst (q := 21) (v := 2) dX7_sizeOf_20 rfl li_2 ?_
    refine ev_icmp_ne (t := 37) (q := 24) dX7_sizeOf_21 rfl rfl (fun hc6 => ?_) (fun hc6 => ?_)
    · refine ev_aload_n (q := 25) dX7_sizeOf_24 rfl 0 rfl rfl ?_
      refine ev_bipush (q := 27) (v := 12) dX7_sizeOf_25 rfl lb_12 ?_
      refine ev_callVU (q := 30) dX7_sizeOf_27 rfl ml_X7_262 mt_X7_leave cf_7 rfl ho hc_7 (con_X7_leave G _ _ ho _) rfl (Nat.le_of_ble_eq_true rfl) (Nat.le_of_ble_eq_true rfl) rfl (Nat.le_of_ble_eq_true rfl) (fun r9 m10 => ?_)
      refine ev_aload_n (q := 31) dX7_sizeOf_30 rfl 0 rfl rfl ?_
      refine ev_iload_n (q := 32) dX7_sizeOf_31 rfl 1 rfl rfl ?_
      refine ev_callVI (q := 35) dX7_sizeOf_32 rfl ml_X7_283 mt_X7_sizeOfProse cf_7 rfl ho hc_7 (con_X7_sizeOfProse G _ _ ho _) rfl (Nat.le_of_ble_eq_true rfl) (Nat.le_of_ble_eq_true rfl) rfl (Nat.le_of_ble_eq_true rfl) (fun r11 m12 => ?_)
      refine ev_ineg (q := 36) dX7_sizeOf_35 rfl ?_
      exact ev_iret dX7_sizeOf_36 rfl
    · refine ev_aload_n (q := 38) dX7_sizeOf_37 rfl 0 rfl rfl ?_
      refine ev_iload_n (q := 39) dX7_sizeOf_38 rfl 1 rfl rfl ?_
      refine ev_callVI (q := 42) dX7_sizeOf_39 rfl ml_X7_283 mt_X7_sizeOfProse cf_7 rfl ho hc_7 (con_X7_sizeOfProse G _ _ ho _) rfl (Nat.le_of_ble_eq_true rfl) (Nat.le_of_ble_eq_true rfl) rfl (Nat.le_of_ble_eq_true rfl) (fun r7 m8 => ?_)
      exact ev_iret dX7_sizeOf_42 rfl
  · refine ev_aload_n (q := 10) dX7_sizeOf_9 rfl 0 rfl rfl ?_
    refine ev_iload_n (q := 11) dX7_sizeOf_10 rfl 1 rfl rfl ?_
    refine ev_callVI (q := 14) dX7_sizeOf_11 rfl ml_X7_274 mt_X7_sizeOfSums cf_7 rfl ho hc_7 (con_X7_sizeOfSums G _ _ ho _) rfl (Nat.le_of_ble_eq_true rfl) (Nat.le_of_ble_eq_true rfl) rfl (Nat.le_of_ble_eq_true rfl) (fun r13 m14 => ?_)
    exact ev_iret dX7_sizeOf_14 rfl
/-! AgingLettersModel.ask(II)I -/
theorem dX7_ask_0 : decode cX7_ask 0 = .ok (.aload_n 0, 1) := by decide +kernel
theorem dX7_ask_1 : decode cX7_ask 1 = .ok (.iload_n 1, 1) := by decide +kernel
theorem dX7_ask_2 : decode cX7_ask 2 = .ok (.invokevirtual 183, 3) := by decide +kernel
theorem dX7_ask_5 : decode cX7_ask 5 = .ok (.ifCond .eq 13, 3) := by decide +kernel
theorem dX7_ask_8 : decode cX7_ask 8 = .ok (.iload_n 2, 1) := by decide +kernel
theorem dX7_ask_9 : decode cX7_ask 9 = .ok (.i2l, 1) := by decide +kernel
theorem dX7_ask_10 : decode cX7_ask 10 = .ok (.lconst 0, 1) := by decide +kernel
theorem dX7_ask_11 : decode cX7_ask 11 = .ok (.lconst 1, 1) := by decide +kernel
theorem dX7_ask_12 : decode cX7_ask 12 = .ok (.invokestatic 63, 3) := by decide +kernel
theorem dX7_ask_15 : decode cX7_ask 15 = .ok (.ifCond .ne 6, 3) := by decide +kernel
theorem dX7_ask_18 : decode cX7_ask 18 = .ok (.ldc 73, 2) := by decide +kernel
theorem dX7_ask_20 : decode cX7_ask 20 = .ok (.ireturn, 1) := by decide +kernel
theorem dX7_ask_21 : decode cX7_ask 21 = .ok (.aload_n 0, 1) := by decide +kernel
theorem dX7_ask_22 : decode cX7_ask 22 = .ok (.iconst 0, 1) := by decide +kernel
theorem dX7_ask_23 : decode cX7_ask 23 = .ok (.putfield 259, 3) := by decide +kernel
theorem dX7_ask_26 : decode cX7_ask 26 = .ok (.iload_n 2, 1) := by decide +kernel
theorem dX7_ask_27 : decode cX7_ask 27 = .ok (.ifCond .ne 11, 3) := by decide +kernel
theorem dX7_ask_30 : decode cX7_ask 30 = .ok (.aload_n 0, 1) := by decide +kernel
theorem dX7_ask_31 : decode cX7_ask 31 = .ok (.iload_n 1, 1) := by decide +kernel
theorem dX7_ask_32 : decode cX7_ask 32 = .ok (.invokevirtual 286, 3) := by decide +kernel
theorem dX7_ask_35 : decode cX7_ask 35 = .ok (.goto 8, 3) := by decide +kernel
theorem dX7_ask_38 : decode cX7_ask 38 = .ok (.aload_n 0, 1) := by decide +kernel
theorem dX7_ask_39 : decode cX7_ask 39 = .ok (.iload_n 1, 1) := by decide +kernel
theorem dX7_ask_40 : decode cX7_ask 40 = .ok (.invokevirtual 280, 3) := by decide +kernel
theorem dX7_ask_43 : decode cX7_ask 43 = .ok (.ireturn, 1) := by decide +kernel
set_option maxRecDepth 100000 in
set_option maxHeartbeats 4000000 in
theorem con_X7_ask (G : Gt) (o : Nat) (a1 : Int32) (a2 : Int32) (ho : kd o = 7) (mem : Mem) : Con tvI G yX7_ask cX7_ask 3 (some .int) 8 [.ref (gA G o), .int a1, .int a2] mem (X7_ask o a1 a2 mem) := by
  refine con_of (by decide) (Nat.le_of_ble_eq_true rfl) ?_
  show EvR tvI G cX7_ask 3 (some .int) RX7 8 0 [(0, .ref (gA G o)), (1, .int (a1)), (2, .int (a2))] [] mem _
  unfold X7_ask
  refine ev_aload_n (q := 1) dX7_ask_0 rfl 0 rfl rfl ?_
  refine ev_iload_n (q := 2) dX7_ask_1 rfl 1 rfl rfl ?_
  refine ev_callVI (q := 5) dX7_ask_2 rfl ml_X7_183 mt_X7_isLetter cf_7 rfl ho hc_7 (con_X7_isLetter G _ _ ho _) rfl (Nat.le_of_ble_eq_true rfl) (Nat.le_of_ble_eq_true rfl) rfl (Nat.le_of_ble_eq_true rfl) (fun r1 m2 => ?_)
  refine ev_if_eq (t := 18) (q := 8) dX7_ask_5 rfl rfl (fun hc3 => ?_) (fun hc3 => ?_)
  · refine ev_ldc (q := 20) (v := (-1000001)) dX7_ask_18 rfl kc_X7_73 ?_
    exact ev_iret dX7_ask_20 rfl
  · refine ev_iload_n (q := 9) dX7_ask_8 rfl 2 rfl rfl ?_
    refine ev_i2l (q := 10) dX7_ask_9 rfl ?_
    refine ev_lconst (q := 11) (v := 0) dX7_ask_10 rfl ll_0 ?_
    refine ev_lconst (q := 12) (v := 1) dX7_ask_11 rfl ll_1 ?_
    refine ev_callSI (q := 15) dX7_ask_12 rfl ml_X7_63 mt_X7_in (con_X7_in G _ _ _  _) rfl (Nat.le_of_ble_eq_true rfl) (Nat.le_of_ble_eq_true rfl) rfl (Nat.le_of_ble_eq_true rfl) (fun r4 m5 => ?_)
    refine ev_if_ne (t := 21) (q := 18) dX7_ask_15 rfl rfl (fun hc6 => ?_) (fun hc6 => ?_)
    · refine ev_ldc (q := 20) (v := (-1000001)) dX7_ask_18 rfl kc_X7_73 ?_
      exact ev_iret dX7_ask_20 rfl
    · refine ev_aload_n (q := 22) dX7_ask_21 rfl 0 rfl rfl ?_
      refine ev_iconst (q := 23) (v := 0) dX7_ask_22 rfl li_0 ?_
      refine ev_putI (q := 26) (ci := 7) (j := 22) (T := TX7) dX7_ask_23 rfl cf_7 ho hj_7_22 hc_7 gf_X7_259 rfl rfl (tyX7_ok 22 hj_7_22) ?_
      refine ev_iload_n (q := 27) dX7_ask_26 rfl 2 rfl rfl ?_
      refine ev_if_ne (t := 38) (q := 30) dX7_ask_27 rfl rfl (fun hc8 => ?_) (fun hc8 => ?_)
      · refine ev_aload_n (q := 31) dX7_ask_30 rfl 0 rfl rfl ?_
        refine ev_iload_n (q := 32) dX7_ask_31 rfl 1 rfl rfl ?_
        refine ev_callVI (q := 35) dX7_ask_32 rfl ml_X7_286 mt_X7_sizeOf cf_7 rfl ho hc_7 (con_X7_sizeOf G _ _ ho _) rfl (Nat.le_of_ble_eq_true rfl) (Nat.le_of_ble_eq_true rfl) rfl (Nat.le_of_ble_eq_true rfl) (fun r11 m12 => ?_)
        refine ev_goto (t := 43) dX7_ask_35 rfl ?_
        exact ev_iret dX7_ask_43 rfl
      · refine ev_aload_n (q := 39) dX7_ask_38 rfl 0 rfl rfl ?_
        refine ev_iload_n (q := 40) dX7_ask_39 rfl 1 rfl rfl ?_
        refine ev_callVI (q := 43) dX7_ask_40 rfl ml_X7_280 mt_X7_markOf cf_7 rfl ho hc_7 (con_X7_markOf G _ _ ho _) rfl (Nat.le_of_ble_eq_true rfl) (Nat.le_of_ble_eq_true rfl) rfl (Nat.le_of_ble_eq_true rfl) (fun r9 m10 => ?_)
        exact ev_iret dX7_ask_43 rfl
/-! AgingLettersModel.trace(I)I -/
theorem dX7_trace_0 : decode cX7_trace 0 = .ok (.iload_n 1, 1) := by decide +kernel
theorem dX7_trace_1 : decode cX7_trace 1 = .ok (.i2l, 1) := by decide +kernel
theorem dX7_trace_2 : decode cX7_trace 2 = .ok (.lconst 0, 1) := by decide +kernel
theorem dX7_trace_3 : decode cX7_trace 3 = .ok (.aload_n 0, 1) := by decide +kernel
theorem dX7_trace_4 : decode cX7_trace 4 = .ok (.getfield 259, 3) := by decide +kernel
theorem dX7_trace_7 : decode cX7_trace 7 = .ok (.iconst 1, 1) := by decide +kernel
theorem dX7_trace_8 : decode cX7_trace 8 = .ok (.isub, 1) := by decide +kernel
theorem dX7_trace_9 : decode cX7_trace 9 = .ok (.i2l, 1) := by decide +kernel
theorem dX7_trace_10 : decode cX7_trace 10 = .ok (.invokestatic 63, 3) := by decide +kernel
theorem dX7_trace_13 : decode cX7_trace 13 = .ok (.ifCond .eq 12, 3) := by decide +kernel
theorem dX7_trace_16 : decode cX7_trace 16 = .ok (.aload_n 0, 1) := by decide +kernel
theorem dX7_trace_17 : decode cX7_trace 17 = .ok (.getfield 53, 3) := by decide +kernel
theorem dX7_trace_20 : decode cX7_trace 20 = .ok (.iload_n 1, 1) := by decide +kernel
theorem dX7_trace_21 : decode cX7_trace 21 = .ok (.iaload, 1) := by decide +kernel
theorem dX7_trace_22 : decode cX7_trace 22 = .ok (.goto 5, 3) := by decide +kernel
theorem dX7_trace_25 : decode cX7_trace 25 = .ok (.ldc 222, 2) := by decide +kernel
theorem dX7_trace_27 : decode cX7_trace 27 = .ok (.ireturn, 1) := by decide +kernel
set_option maxRecDepth 100000 in
set_option maxHeartbeats 4000000 in
theorem con_X7_trace (G : Gt) (o : Nat) (a1 : Int32) (ho : kd o = 7) (mem : Mem) : Con tvI G yX7_trace cX7_trace 2 (some .int) 2 [.ref (gA G o), .int a1] mem (X7_trace o a1 mem) := by
  refine con_of (by decide) (Nat.le_of_ble_eq_true rfl) ?_
  show EvR tvI G cX7_trace 2 (some .int) RX7 2 0 [(0, .ref (gA G o)), (1, .int (a1))] [] mem _
  unfold X7_trace
  refine ev_iload_n (q := 1) dX7_trace_0 rfl 1 rfl rfl ?_
  refine ev_i2l (q := 2) dX7_trace_1 rfl ?_
  refine ev_lconst (q := 3) (v := 0) dX7_trace_2 rfl ll_0 ?_
  refine ev_aload_n (q := 4) dX7_trace_3 rfl 0 rfl rfl ?_
  refine ev_getI (q := 7) (ci := 7) (j := 22) (T := TX7) dX7_trace_4 rfl cf_7 ho hj_7_22 hc_7 gf_X7_259 rfl ?_
  refine ev_iconst (q := 8) (v := 1) dX7_trace_7 rfl li_1 ?_
  refine ev_isub (q := 9) dX7_trace_8 rfl ?_
  refine ev_i2l (q := 10) dX7_trace_9 rfl ?_
  refine ev_callSI (q := 13) dX7_trace_10 rfl ml_X7_63 mt_X7_in (con_X7_in G _ _ _  _) rfl (Nat.le_of_ble_eq_true rfl) (Nat.le_of_ble_eq_true rfl) rfl (Nat.le_of_ble_eq_true rfl) (fun r1 m2 => ?_)
  refine ev_if_eq (t := 25) (q := 16) dX7_trace_13 rfl rfl (fun hc3 => ?_) (fun hc3 => ?_)
  · refine ev_ldc (q := 27) (v := (-1000000)) dX7_trace_25 rfl kc_X7_222 ?_
    exact ev_iret dX7_trace_27 rfl
  · refine ev_aload_n (q := 17) dX7_trace_16 rfl 0 rfl rfl ?_
    refine ev_getR (q := 20) (ci := 7) (j := 21) (T := TX7) dX7_trace_17 rfl cf_7 ho hj_7_21 hc_7 gf_X7_53 rfl ?_
    refine ev_iload_n (q := 21) dX7_trace_20 rfl 1 rfl rfl ?_
    refine ev_iald (q := 22) dX7_trace_21 rfl (kr_7_21 ho) (fun z4 => ?_)
    refine ev_goto (t := 27) dX7_trace_22 rfl ?_
    exact ev_iret dX7_trace_27 rfl
/-! AgingLettersModel.fit()I -/
theorem dX7_fit_0 : decode cX7_fit 0 = .ok (.iconst 0, 1) := by decide +kernel
theorem dX7_fit_1 : decode cX7_fit 1 = .ok (.istore_n 1, 1) := by decide +kernel
theorem dX7_fit_2 : decode cX7_fit 2 = .ok (.iconst 0, 1) := by decide +kernel
theorem dX7_fit_3 : decode cX7_fit 3 = .ok (.istore_n 2, 1) := by decide +kernel
theorem dX7_fit_4 : decode cX7_fit 4 = .ok (.iload_n 2, 1) := by decide +kernel
theorem dX7_fit_5 : decode cX7_fit 5 = .ok (.aload_n 0, 1) := by decide +kernel
theorem dX7_fit_6 : decode cX7_fit 6 = .ok (.invokevirtual 89, 3) := by decide +kernel
theorem dX7_fit_9 : decode cX7_fit 9 = .ok (.if_icmp .ge 25, 3) := by decide +kernel
theorem dX7_fit_12 : decode cX7_fit 12 = .ok (.iload_n 1, 1) := by decide +kernel
theorem dX7_fit_13 : decode cX7_fit 13 = .ok (.aload_n 0, 1) := by decide +kernel
theorem dX7_fit_14 : decode cX7_fit 14 = .ok (.iload_n 2, 1) := by decide +kernel
theorem dX7_fit_15 : decode cX7_fit 15 = .ok (.invokevirtual 186, 3) := by decide +kernel
theorem dX7_fit_18 : decode cX7_fit 18 = .ok (.ifCond .eq 7, 3) := by decide +kernel
theorem dX7_fit_21 : decode cX7_fit 21 = .ok (.iconst 1, 1) := by decide +kernel
theorem dX7_fit_22 : decode cX7_fit 22 = .ok (.goto 4, 3) := by decide +kernel
theorem dX7_fit_25 : decode cX7_fit 25 = .ok (.iconst 0, 1) := by decide +kernel
theorem dX7_fit_26 : decode cX7_fit 26 = .ok (.iadd, 1) := by decide +kernel
theorem dX7_fit_27 : decode cX7_fit 27 = .ok (.istore_n 1, 1) := by decide +kernel
theorem dX7_fit_28 : decode cX7_fit 28 = .ok (.iinc 2 1, 3) := by decide +kernel
theorem dX7_fit_31 : decode cX7_fit 31 = .ok (.goto (-27), 3) := by decide +kernel
theorem dX7_fit_34 : decode cX7_fit 34 = .ok (.iload_n 1, 1) := by decide +kernel
theorem dX7_fit_35 : decode cX7_fit 35 = .ok (.ireturn, 1) := by decide +kernel
set_option maxRecDepth 100000 in
set_option maxHeartbeats 4000000 in
theorem X7_fit_b26_ok (G : Gt) (o : Nat) (ho : kd o = 7)   (k4 : Int32 → Int32 → Mem → Option (Int32 × Mem)) (hk4 : ∀ (x1 : Int32) (x2 : Int32) (mem : Mem), EvR tvI G cX7_fit 3 (some .int) RX7 4 4 [(0, .ref (gA G o)), (1, .int (x1)), (2, .int (x2))] [] mem (k4 x1 x2 mem)) (x2 : Int32) (s0 : Int32) (s1 : Int32) (mem : Mem) : EvR tvI G cX7_fit 3 (some .int) RX7 4 26 [(0, .ref (gA G o)), (2, .int (x2))] [.int (s1), .int (s0)] mem (X7_fit_b26 o k4 x2 s0 s1 mem) := by
  unfold X7_fit_b26
  refine ev_iadd (q := 27) dX7_fit_26 rfl ?_
  refine ev_istore_n (q := 28) (lv2 := [(1, .int _), (0, .ref _), (2, .int _)]) dX7_fit_27 rfl rfl (Nat.le_of_ble_eq_true rfl) rfl ?_
  refine ev_iinc (q := 31) (lv2 := [(2, .int _), (1, .int _), (0, .ref _)]) (v := x2 + 1) dX7_fit_28 2 rfl rfl (congrArg (HAdd.hAdd _) li_1) (Nat.le_of_ble_eq_true rfl) rfl ?_
  refine ev_goto (t := 4) dX7_fit_31 rfl ?_
  refine ev_sub (lv' := [(0, .ref _), (1, .int _), (2, .int _)]) [2, 1, 0] rfl ?_
  exact hk4 _ _ _
set_option maxRecDepth 100000 in
set_option maxHeartbeats 4000000 in
theorem X7_fit_b4_ok (G : Gt) (o : Nat) (ho : kd o = 7)    : ∀ (n : Nat) (x1 : Int32) (x2 : Int32) (mem : Mem), EvR tvI G cX7_fit 3 (some .int) RX7 4 4 [(0, .ref (gA G o)), (1, .int (x1)), (2, .int (x2))] [] mem (X7_fit_b4 o n x1 x2 mem) := by
  intro n
  induction n with
  | zero => intros; exact ev_none
  | succ n ih =>
    intro x1 x2 mem
    rw [X7_fit_b4]
    refine ev_iload_n (q := 5) dX7_fit_4 rfl 2 rfl rfl ?_
    refine ev_aload_n (q := 6) dX7_fit_5 rfl 0 rfl rfl ?_
    refine ev_callVI (q := 9) dX7_fit_6 rfl ml_X7_89 mt_X7_readers cf_7 rfl ho hc_7 (con_X7_readers G _ ho _) rfl (Nat.le_of_ble_eq_true rfl) (Nat.le_of_ble_eq_true rfl) rfl (Nat.le_of_ble_eq_true rfl) (fun r1 m2 => ?_)
    refine ev_icmp_ge (t := 34) (q := 12) dX7_fit_9 rfl rfl (fun hc3 => ?_) (fun hc3 => ?_)
    · refine ev_iload_n (q := 13) dX7_fit_12 rfl 1 rfl rfl ?_
      refine ev_aload_n (q := 14) dX7_fit_13 rfl 0 rfl rfl ?_
      refine ev_iload_n (q := 15) dX7_fit_14 rfl 2 rfl rfl ?_
      refine ev_callVI (q := 18) dX7_fit_15 rfl ml_X7_186 mt_X7_isFit cf_7 rfl ho hc_7 (con_X7_isFit G _ _ ho _) rfl (Nat.le_of_ble_eq_true rfl) (Nat.le_of_ble_eq_true rfl) rfl (Nat.le_of_ble_eq_true rfl) (fun r4 m5 => ?_)
      refine ev_if_eq (t := 25) (q := 21) dX7_fit_18 rfl rfl (fun hc6 => ?_) (fun hc6 => ?_)
      · refine ev_iconst (q := 26) (v := 0) dX7_fit_25 rfl li_0 ?_
        refine ev_sub (lv' := [(0, .ref _), (2, .int _)]) [0, 2] rfl ?_
        exact X7_fit_b26_ok G o ho  (X7_fit_b4 o n) ih _ _ _ _
      · refine ev_iconst (q := 22) (v := 1) dX7_fit_21 rfl li_1 ?_
        refine ev_goto (t := 26) dX7_fit_22 rfl ?_
        refine ev_sub (lv' := [(0, .ref _), (2, .int _)]) [0, 2] rfl ?_
        exact X7_fit_b26_ok G o ho  (X7_fit_b4 o n) ih _ _ _ _
    · refine ev_iload_n (q := 35) dX7_fit_34 rfl 1 rfl rfl ?_
      exact ev_iret dX7_fit_35 rfl
set_option maxRecDepth 100000 in
set_option maxHeartbeats 4000000 in
theorem con_X7_fit (G : Gt) (o : Nat) (ho : kd o = 7) (mem : Mem) : Con tvI G yX7_fit cX7_fit 3 (some .int) 4 [.ref (gA G o)] mem (X7_fit o mem) := by
  refine con_of (by decide) (Nat.le_of_ble_eq_true rfl) ?_
  show EvR tvI G cX7_fit 3 (some .int) RX7 4 0 [(0, .ref (gA G o))] [] mem _
  unfold X7_fit
  refine ev_iconst (q := 1) (v := 0) dX7_fit_0 rfl li_0 ?_
  refine ev_istore_n (q := 2) (lv2 := [(1, .int _), (0, .ref _)]) dX7_fit_1 rfl rfl (Nat.le_of_ble_eq_true rfl) rfl ?_
  refine ev_iconst (q := 3) (v := 0) dX7_fit_2 rfl li_0 ?_
  refine ev_istore_n (q := 4) (lv2 := [(2, .int _), (1, .int _), (0, .ref _)]) dX7_fit_3 rfl rfl (Nat.le_of_ble_eq_true rfl) rfl ?_
  refine ev_sub (lv' := [(0, .ref _), (1, .int _), (2, .int _)]) [2, 1, 0] rfl ?_
  exact X7_fit_b4_ok G o ho   fu _ _ _
/-! AgingLettersModel.count(I)I -/
theorem dX7_count_0 : decode cX7_count 0 = .ok (.iconst 0, 1) := by decide +kernel
theorem dX7_count_1 : decode cX7_count 1 = .ok (.istore_n 2, 1) := by decide +kernel
theorem dX7_count_2 : decode cX7_count 2 = .ok (.iconst 0, 1) := by decide +kernel
theorem dX7_count_3 : decode cX7_count 3 = .ok (.istore_n 3, 1) := by decide +kernel
theorem dX7_count_4 : decode cX7_count 4 = .ok (.iload_n 3, 1) := by decide +kernel
theorem dX7_count_5 : decode cX7_count 5 = .ok (.bipush 8, 2) := by decide +kernel
theorem dX7_count_7 : decode cX7_count 7 = .ok (.if_icmp .ge 26, 3) := by decide +kernel
theorem dX7_count_10 : decode cX7_count 10 = .ok (.iload_n 2, 1) := by decide +kernel
theorem dX7_count_11 : decode cX7_count 11 = .ok (.aload_n 0, 1) := by decide +kernel
theorem dX7_count_12 : decode cX7_count 12 = .ok (.getfield 13, 3) := by decide +kernel
theorem dX7_count_15 : decode cX7_count 15 = .ok (.iload_n 3, 1) := by decide +kernel
theorem dX7_count_16 : decode cX7_count 16 = .ok (.iaload, 1) := by decide +kernel
theorem dX7_count_17 : decode cX7_count 17 = .ok (.ifCond .ge 7, 3) := by decide +kernel
theorem dX7_count_20 : decode cX7_count 20 = .ok (.iconst 0, 1) := by decide +kernel
theorem dX7_count_21 : decode cX7_count 21 = .ok (.goto 4, 3) := by decide +kernel
theorem dX7_count_24 : decode cX7_count 24 = .ok (.iconst 1, 1) := by decide +kernel
theorem dX7_count_25 : decode cX7_count 25 = .ok (.iadd, 1) := by decide +kernel
theorem dX7_count_26 : decode cX7_count 26 = .ok (.istore_n 2, 1) := by decide +kernel
theorem dX7_count_27 : decode cX7_count 27 = .ok (.iinc 3 1, 3) := by decide +kernel
theorem dX7_count_30 : decode cX7_count 30 = .ok (.goto (-26), 3) := by decide +kernel
theorem dX7_count_33 : decode cX7_count 33 = .ok (.iload_n 1, 1) := by decide +kernel
theorem dX7_count_34 : decode cX7_count 34 = .ok (.tableswitch 100 0 8 #[50, 52, 57, 62, 69, 77, 82, 90, 95], 50) := by decide +kernel
theorem dX7_count_84 : decode cX7_count 84 = .ok (.iload_n 2, 1) := by decide +kernel
theorem dX7_count_85 : decode cX7_count 85 = .ok (.ireturn, 1) := by decide +kernel
theorem dX7_count_86 : decode cX7_count 86 = .ok (.aload_n 0, 1) := by decide +kernel
theorem dX7_count_87 : decode cX7_count 87 = .ok (.invokevirtual 85, 3) := by decide +kernel
theorem dX7_count_90 : decode cX7_count 90 = .ok (.ireturn, 1) := by decide +kernel
theorem dX7_count_91 : decode cX7_count 91 = .ok (.aload_n 0, 1) := by decide +kernel
theorem dX7_count_92 : decode cX7_count 92 = .ok (.invokevirtual 89, 3) := by decide +kernel
theorem dX7_count_95 : decode cX7_count 95 = .ok (.ireturn, 1) := by decide +kernel
theorem dX7_count_96 : decode cX7_count 96 = .ok (.aload_n 0, 1) := by decide +kernel
theorem dX7_count_97 : decode cX7_count 97 = .ok (.getfield 22, 3) := by decide +kernel
theorem dX7_count_100 : decode cX7_count 100 = .ok (.iconst 4, 1) := by decide +kernel
theorem dX7_count_101 : decode cX7_count 101 = .ok (.iaload, 1) := by decide +kernel
theorem dX7_count_102 : decode cX7_count 102 = .ok (.ireturn, 1) := by decide +kernel
theorem dX7_count_103 : decode cX7_count 103 = .ok (.aload_n 0, 1) := by decide +kernel
theorem dX7_count_104 : decode cX7_count 104 = .ok (.invokevirtual 203, 3) := by decide +kernel
theorem dX7_count_107 : decode cX7_count 107 = .ok (.invokestatic 227, 3) := by decide +kernel
theorem dX7_count_110 : decode cX7_count 110 = .ok (.ireturn, 1) := by decide +kernel
theorem dX7_count_111 : decode cX7_count 111 = .ok (.aload_n 0, 1) := by decide +kernel
theorem dX7_count_112 : decode cX7_count 112 = .ok (.invokevirtual 289, 3) := by decide +kernel
theorem dX7_count_115 : decode cX7_count 115 = .ok (.ireturn, 1) := by decide +kernel
theorem dX7_count_116 : decode cX7_count 116 = .ok (.aload_n 0, 1) := by decide +kernel
theorem dX7_count_117 : decode cX7_count 117 = .ok (.invokevirtual 223, 3) := by decide +kernel
theorem dX7_count_120 : decode cX7_count 120 = .ok (.invokestatic 227, 3) := by decide +kernel
theorem dX7_count_123 : decode cX7_count 123 = .ok (.ireturn, 1) := by decide +kernel
theorem dX7_count_124 : decode cX7_count 124 = .ok (.aload_n 0, 1) := by decide +kernel
theorem dX7_count_125 : decode cX7_count 125 = .ok (.getfield 173, 3) := by decide +kernel
theorem dX7_count_128 : decode cX7_count 128 = .ok (.ireturn, 1) := by decide +kernel
theorem dX7_count_129 : decode cX7_count 129 = .ok (.aload_n 0, 1) := by decide +kernel
theorem dX7_count_130 : decode cX7_count 130 = .ok (.getfield 119, 3) := by decide +kernel
theorem dX7_count_133 : decode cX7_count 133 = .ok (.ireturn, 1) := by decide +kernel
theorem dX7_count_134 : decode cX7_count 134 = .ok (.ldc 73, 2) := by decide +kernel
theorem dX7_count_136 : decode cX7_count 136 = .ok (.ireturn, 1) := by decide +kernel
set_option maxRecDepth 100000 in
set_option maxHeartbeats 4000000 in
theorem X7_count_b25_ok (G : Gt) (o : Nat) (ho : kd o = 7)   (k4 : Int32 → Int32 → Int32 → Mem → Option (Int32 × Mem)) (hk4 : ∀ (x1 : Int32) (x2 : Int32) (x3 : Int32) (mem : Mem), EvR tvI G cX7_count 4 (some .int) RX7 5 4 [(0, .ref (gA G o)), (1, .int (x1)), (2, .int (x2)), (3, .int (x3))] [] mem (k4 x1 x2 x3 mem)) (x1 : Int32) (x3 : Int32) (s0 : Int32) (s1 : Int32) (mem : Mem) : EvR tvI G cX7_count 4 (some .int) RX7 5 25 [(0, .ref (gA G o)), (1, .int (x1)), (3, .int (x3))] [.int (s1), .int (s0)] mem (X7_count_b25 o k4 x1 x3 s0 s1 mem) := by
  unfold X7_count_b25
  refine ev_iadd (q := 26) dX7_count_25 rfl ?_
  refine ev_istore_n (q := 27) (lv2 := [(2, .int _), (0, .ref _), (1, .int _), (3, .int _)]) dX7_count_26 rfl rfl (Nat.le_of_ble_eq_true rfl) rfl ?_
  refine ev_iinc (q := 30) (lv2 := [(3, .int _), (2, .int _), (0, .ref _), (1, .int _)]) (v := x3 + 1) dX7_count_27 3 rfl rfl (congrArg (HAdd.hAdd _) li_1) (Nat.le_of_ble_eq_true rfl) rfl ?_
  refine ev_goto (t := 4) dX7_count_30 rfl ?_
  refine ev_sub (lv' := [(0, .ref _), (1, .int _), (2, .int _), (3, .int _)]) [2, 3, 1, 0] rfl ?_
  exact hk4 _ _ _ _
set_option maxRecDepth 100000 in
set_option maxHeartbeats 4000000 in
theorem X7_count_b4_ok (G : Gt) (o : Nat) (ho : kd o = 7)    : ∀ (n : Nat) (x1 : Int32) (x2 : Int32) (x3 : Int32) (mem : Mem), EvR tvI G cX7_count 4 (some .int) RX7 5 4 [(0, .ref (gA G o)), (1, .int (x1)), (2, .int (x2)), (3, .int (x3))] [] mem (X7_count_b4 o n x1 x2 x3 mem) := by
  intro n
  induction n with
  | zero => intros; exact ev_none
  | succ n ih =>
    intro x1 x2 x3 mem
    rw [X7_count_b4]
    refine ev_iload_n (q := 5) dX7_count_4 rfl 3 rfl rfl ?_
    refine ev_bipush (q := 7) (v := 8) dX7_count_5 rfl lb_8 ?_
    refine ev_icmp_ge (t := 33) (q := 10) dX7_count_7 rfl rfl (fun hc1 => ?_) (fun hc1 => ?_)
    · refine ev_iload_n (q := 11) dX7_count_10 rfl 2 rfl rfl ?_
      refine ev_aload_n (q := 12) dX7_count_11 rfl 0 rfl rfl ?_
      refine ev_getR (q := 15) (ci := 7) (j := 1) (T := TX7) dX7_count_12 rfl cf_7 ho hj_7_1 hc_7 gf_X7_13 rfl ?_
      refine ev_iload_n (q := 16) dX7_count_15 rfl 3 rfl rfl ?_
      refine ev_iald (q := 17) dX7_count_16 rfl (kr_7_1 ho) (fun z26 => ?_)
      refine ev_if_ge (t := 24) (q := 20) dX7_count_17 rfl rfl (fun hc27 => ?_) (fun hc27 => ?_)
      · refine ev_iconst (q := 21) (v := 0) dX7_count_20 rfl li_0 ?_
        refine ev_goto (t := 25) dX7_count_21 rfl ?_
        refine ev_sub (lv' := [(0, .ref _), (1, .int _), (3, .int _)]) [0, 1, 3] rfl ?_
        exact X7_count_b25_ok G o ho  (X7_count_b4 o n) ih _ _ _ _ _
      · refine ev_iconst (q := 25) (v := 1) dX7_count_24 rfl li_1 ?_
        refine ev_sub (lv' := [(0, .ref _), (1, .int _), (3, .int _)]) [0, 1, 3] rfl ?_
        exact X7_count_b25_ok G o ho  (X7_count_b4 o n) ih _ _ _ _ _
    · refine ev_iload_n (q := 34) dX7_count_33 rfl 1 rfl rfl ?_
      refine ev_ite (fun hc2 => ?_) (fun hc2 => ?_)
      · subst hc2
        refine ev_tsIn (t := 84) (off := 50) dX7_count_34 (by decide) (by decide) (by decide) rfl ?_
        refine ev_iload_n (q := 85) dX7_count_84 rfl 2 rfl rfl ?_
        exact ev_iret dX7_count_85 rfl
      refine ev_ite (fun hc3 => ?_) (fun hc3 => ?_)
      · subst hc3
        refine ev_tsIn (t := 86) (off := 52) dX7_count_34 (by decide) (by decide) (by decide) rfl ?_
        refine ev_aload_n (q := 87) dX7_count_86 rfl 0 rfl rfl ?_
        refine ev_callVI (q := 90) dX7_count_87 rfl ml_X7_85 mt_X7_letters cf_7 rfl ho hc_7 (con_X7_letters G _ ho _) rfl (Nat.le_of_ble_eq_true rfl) (Nat.le_of_ble_eq_true rfl) rfl (Nat.le_of_ble_eq_true rfl) (fun r4 m5 => ?_)
        exact ev_iret dX7_count_90 rfl
      refine ev_ite (fun hc6 => ?_) (fun hc6 => ?_)
      · subst hc6
        refine ev_tsIn (t := 91) (off := 57) dX7_count_34 (by decide) (by decide) (by decide) rfl ?_
        refine ev_aload_n (q := 92) dX7_count_91 rfl 0 rfl rfl ?_
        refine ev_callVI (q := 95) dX7_count_92 rfl ml_X7_89 mt_X7_readers cf_7 rfl ho hc_7 (con_X7_readers G _ ho _) rfl (Nat.le_of_ble_eq_true rfl) (Nat.le_of_ble_eq_true rfl) rfl (Nat.le_of_ble_eq_true rfl) (fun r7 m8 => ?_)
        exact ev_iret dX7_count_95 rfl
      refine ev_ite (fun hc9 => ?_) (fun hc9 => ?_)
      · subst hc9
        refine ev_tsIn (t := 96) (off := 62) dX7_count_34 (by decide) (by decide) (by decide) rfl ?_
        refine ev_aload_n (q := 97) dX7_count_96 rfl 0 rfl rfl ?_
        refine ev_getR (q := 100) (ci := 7) (j := 5) (T := TX7) dX7_count_97 rfl cf_7 ho hj_7_5 hc_7 gf_X7_22 rfl ?_
        refine ev_iconst (q := 101) (v := 4) dX7_count_100 rfl li_4 ?_
        refine ev_iald (q := 102) dX7_count_101 rfl (kr_7_5 ho) (fun z10 => ?_)
        exact ev_iret dX7_count_102 rfl
      refine ev_ite (fun hc11 => ?_) (fun hc11 => ?_)
      · subst hc11
        refine ev_tsIn (t := 103) (off := 69) dX7_count_34 (by decide) (by decide) (by decide) rfl ?_
        refine ev_aload_n (q := 104) dX7_count_103 rfl 0 rfl rfl ?_
        refine ev_callVI (q := 107) dX7_count_104 rfl ml_X7_203 mt_X7_alive cf_7 rfl ho hc_7 (con_X7_alive G _ ho _) rfl (Nat.le_of_ble_eq_true rfl) (Nat.le_of_ble_eq_true rfl) rfl (Nat.le_of_ble_eq_true rfl) (fun r12 m13 => ?_)
        refine ev_callSI (q := 110) dX7_count_107 rfl ml_X7_227 mt_X7_bits (con_X7_bits G _  _) rfl (Nat.le_of_ble_eq_true rfl) (Nat.le_of_ble_eq_true rfl) rfl (Nat.le_of_ble_eq_true rfl) (fun r14 m15 => ?_)
        exact ev_iret dX7_count_110 rfl
      refine ev_ite (fun hc16 => ?_) (fun hc16 => ?_)
      · subst hc16
        refine ev_tsIn (t := 111) (off := 77) dX7_count_34 (by decide) (by decide) (by decide) rfl ?_
        refine ev_aload_n (q := 112) dX7_count_111 rfl 0 rfl rfl ?_
        refine ev_callVI (q := 115) dX7_count_112 rfl ml_X7_289 mt_X7_fit cf_7 rfl ho hc_7 (con_X7_fit G _ ho _) rfl (Nat.le_of_ble_eq_true rfl) (Nat.le_of_ble_eq_true rfl) rfl (Nat.le_of_ble_eq_true rfl) (fun r17 m18 => ?_)
        exact ev_iret dX7_count_115 rfl
      refine ev_ite (fun hc19 => ?_) (fun hc19 => ?_)
      · subst hc19
        refine ev_tsIn (t := 116) (off := 82) dX7_count_34 (by decide) (by decide) (by decide) rfl ?_
        refine ev_aload_n (q := 117) dX7_count_116 rfl 0 rfl rfl ?_
        refine ev_callVI (q := 120) dX7_count_117 rfl ml_X7_223 mt_X7_unread cf_7 rfl ho hc_7 (con_X7_unread G _ ho _) rfl (Nat.le_of_ble_eq_true rfl) (Nat.le_of_ble_eq_true rfl) rfl (Nat.le_of_ble_eq_true rfl) (fun r20 m21 => ?_)
        refine ev_callSI (q := 123) dX7_count_120 rfl ml_X7_227 mt_X7_bits (con_X7_bits G _  _) rfl (Nat.le_of_ble_eq_true rfl) (Nat.le_of_ble_eq_true rfl) rfl (Nat.le_of_ble_eq_true rfl) (fun r22 m23 => ?_)
        exact ev_iret dX7_count_123 rfl
      refine ev_ite (fun hc24 => ?_) (fun hc24 => ?_)
      · subst hc24
        refine ev_tsIn (t := 124) (off := 90) dX7_count_34 (by decide) (by decide) (by decide) rfl ?_
        refine ev_aload_n (q := 125) dX7_count_124 rfl 0 rfl rfl ?_
        refine ev_getI (q := 128) (ci := 7) (j := 13) (T := TX7) dX7_count_125 rfl cf_7 ho hj_7_13 hc_7 gf_X7_173 rfl ?_
        exact ev_iret dX7_count_128 rfl
      refine ev_ite (fun hc25 => ?_) (fun hc25 => ?_)
      · subst hc25
        refine ev_tsIn (t := 129) (off := 95) dX7_count_34 (by decide) (by decide) (by decide) rfl ?_
        refine ev_aload_n (q := 130) dX7_count_129 rfl 0 rfl rfl ?_
        refine ev_getI (q := 133) (ci := 7) (j := 7) (T := TX7) dX7_count_130 rfl cf_7 ho hj_7_7 hc_7 gf_X7_119 rfl ?_
        exact ev_iret dX7_count_133 rfl
      refine ev_tsOut (t := 134) dX7_count_34 (by have g0 := lv_neT hc2 (a := 0) (by decide); have g1 := lv_neT hc3 (a := 1) (by decide); have g2 := lv_neT hc6 (a := 2) (by decide); have g3 := lv_neT hc9 (a := 3) (by decide); have g4 := lv_neT hc11 (a := 4) (by decide); have g5 := lv_neT hc16 (a := 5) (by decide); have g6 := lv_neT hc19 (a := 6) (by decide); have g7 := lv_neT hc24 (a := 7) (by decide); have g8 := lv_neT hc25 (a := 8) (by decide); omega) rfl ?_
      refine ev_ldc (q := 136) (v := (-1000001)) dX7_count_134 rfl kc_X7_73 ?_
      exact ev_iret dX7_count_136 rfl
set_option maxRecDepth 100000 in
set_option maxHeartbeats 4000000 in
theorem con_X7_count (G : Gt) (o : Nat) (a1 : Int32) (ho : kd o = 7) (mem : Mem) : Con tvI G yX7_count cX7_count 4 (some .int) 5 [.ref (gA G o), .int a1] mem (X7_count o a1 mem) := by
  refine con_of (by decide) (Nat.le_of_ble_eq_true rfl) ?_
  show EvR tvI G cX7_count 4 (some .int) RX7 5 0 [(0, .ref (gA G o)), (1, .int (a1))] [] mem _
  unfold X7_count
  refine ev_iconst (q := 1) (v := 0) dX7_count_0 rfl li_0 ?_
  refine ev_istore_n (q := 2) (lv2 := [(2, .int _), (0, .ref _), (1, .int _)]) dX7_count_1 rfl rfl (Nat.le_of_ble_eq_true rfl) rfl ?_
  refine ev_iconst (q := 3) (v := 0) dX7_count_2 rfl li_0 ?_
  refine ev_istore_n (q := 4) (lv2 := [(3, .int _), (2, .int _), (0, .ref _), (1, .int _)]) dX7_count_3 rfl rfl (Nat.le_of_ble_eq_true rfl) rfl ?_
  refine ev_sub (lv' := [(0, .ref _), (1, .int _), (2, .int _), (3, .int _)]) [2, 3, 1, 0] rfl ?_
  exact X7_count_b4_ok G o ho   fu _ _ _ _
