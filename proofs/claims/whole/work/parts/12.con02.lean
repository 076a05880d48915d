/-! AgingLetters$Office.addLetter(III)V -/
theorem dX3_addLetter_0 : decode cX3_addLetter 0 = .ok (.aload_n 0, 1) := by decide +kernel
theorem dX3_addLetter_1 : decode cX3_addLetter 1 = .ok (.getfield 9, 3) := by decide +kernel
theorem dX3_addLetter_4 : decode cX3_addLetter 4 = .ok (.aload_n 0, 1) := by decide +kernel
theorem dX3_addLetter_5 : decode cX3_addLetter 5 = .ok (.getfield 47, 3) := by decide +kernel
theorem dX3_addLetter_8 : decode cX3_addLetter 8 = .ok (.iload_n 1, 1) := by decide +kernel
theorem dX3_addLetter_9 : decode cX3_addLetter 9 = .ok (.iastore, 1) := by decide +kernel
theorem dX3_addLetter_10 : decode cX3_addLetter 10 = .ok (.aload_n 0, 1) := by decide +kernel
theorem dX3_addLetter_11 : decode cX3_addLetter 11 = .ok (.getfield 15, 3) := by decide +kernel
theorem dX3_addLetter_14 : decode cX3_addLetter 14 = .ok (.aload_n 0, 1) := by decide +kernel
theorem dX3_addLetter_15 : decode cX3_addLetter 15 = .ok (.getfield 47, 3) := by decide +kernel
theorem dX3_addLetter_18 : decode cX3_addLetter 18 = .ok (.iload_n 2, 1) := by decide +kernel
theorem dX3_addLetter_19 : decode cX3_addLetter 19 = .ok (.iastore, 1) := by decide +kernel
theorem dX3_addLetter_20 : decode cX3_addLetter 20 = .ok (.aload_n 0, 1) := by decide +kernel
theorem dX3_addLetter_21 : decode cX3_addLetter 21 = .ok (.getfield 18, 3) := by decide +kernel
theorem dX3_addLetter_24 : decode cX3_addLetter 24 = .ok (.aload_n 0, 1) := by decide +kernel
theorem dX3_addLetter_25 : decode cX3_addLetter 25 = .ok (.getfield 47, 3) := by decide +kernel
theorem dX3_addLetter_28 : decode cX3_addLetter 28 = .ok (.iload_n 3, 1) := by decide +kernel
theorem dX3_addLetter_29 : decode cX3_addLetter 29 = .ok (.iastore, 1) := by decide +kernel
theorem dX3_addLetter_30 : decode cX3_addLetter 30 = .ok (.aload_n 0, 1) := by decide +kernel
theorem dX3_addLetter_31 : decode cX3_addLetter 31 = .ok (.dup, 1) := by decide +kernel
theorem dX3_addLetter_32 : decode cX3_addLetter 32 = .ok (.getfield 47, 3) := by decide +kernel
theorem dX3_addLetter_35 : decode cX3_addLetter 35 = .ok (.iconst 1, 1) := by decide +kernel
theorem dX3_addLetter_36 : decode cX3_addLetter 36 = .ok (.iadd, 1) := by decide +kernel
theorem dX3_addLetter_37 : decode cX3_addLetter 37 = .ok (.putfield 47, 3) := by decide +kernel
theorem dX3_addLetter_40 : decode cX3_addLetter 40 = .ok (.return_, 1) := by decide +kernel
set_option maxRecDepth 100000 in
set_option maxHeartbeats 4000000 in
theorem con_X3_addLetter (G : Gt) (o : Nat) (a1 : Int32) (a2 : Int32) (a3 : Int32) (ho : kd o = 3) (mem : Mem) : Con tvU G yX3_addLetter cX3_addLetter 4 none 1 [.ref (gA G o), .int a1, .int a2, .int a3] mem (X3_addLetter o a1 a2 a3 mem) := by
  refine con_of (by decide) (Nat.le_of_ble_eq_true rfl) ?_
  show EvR tvU G cX3_addLetter 4 none RX3 1 0 [(0, .ref (gA G o)), (1, .int (a1)), (2, .int (a2)), (3, .int (a3))] [] mem _
  unfold X3_addLetter
  refine ev_aload_n (q := 1) dX3_addLetter_0 rfl 0 rfl rfl ?_
  refine ev_getR (q := 4) (ci := 3) (j := 4) (T := TX3) dX3_addLetter_1 rfl cf_3 ho hj_3_4 hc_3 gf_X3_9 rfl ?_
  refine ev_aload_n (q := 5) dX3_addLetter_4 rfl 0 rfl rfl ?_
  refine ev_getI (q := 8) (ci := 3) (j := 3) (T := TX3) dX3_addLetter_5 rfl cf_3 ho hj_3_3 hc_3 gf_X3_47 rfl ?_
  refine ev_iload_n (q := 9) dX3_addLetter_8 rfl 1 rfl rfl ?_
  refine ev_iast (q := 10) dX3_addLetter_9 rfl (kr_3_4 ho) (fun m1 => ?_)
  refine ev_aload_n (q := 11) dX3_addLetter_10 rfl 0 rfl rfl ?_
  refine ev_getR (q := 14) (ci := 3) (j := 5) (T := TX3) dX3_addLetter_11 rfl cf_3 ho hj_3_5 hc_3 gf_X3_15 rfl ?_
  refine ev_aload_n (q := 15) dX3_addLetter_14 rfl 0 rfl rfl ?_
  refine ev_getI (q := 18) (ci := 3) (j := 3) (T := TX3) dX3_addLetter_15 rfl cf_3 ho hj_3_3 hc_3 gf_X3_47 rfl ?_
  refine ev_iload_n (q := 19) dX3_addLetter_18 rfl 2 rfl rfl ?_
  refine ev_iast (q := 20) dX3_addLetter_19 rfl (kr_3_5 ho) (fun m2 => ?_)
  refine ev_aload_n (q := 21) dX3_addLetter_20 rfl 0 rfl rfl ?_
  refine ev_getR (q := 24) (ci := 3) (j := 6) (T := TX3) dX3_addLetter_21 rfl cf_3 ho hj_3_6 hc_3 gf_X3_18 rfl ?_
  refine ev_aload_n (q := 25) dX3_addLetter_24 rfl 0 rfl rfl ?_
  refine ev_getI (q := 28) (ci := 3) (j := 3) (T := TX3) dX3_addLetter_25 rfl cf_3 ho hj_3_3 hc_3 gf_X3_47 rfl ?_
  refine ev_iload_n (q := 29) dX3_addLetter_28 rfl 3 rfl rfl ?_
  refine ev_iast (q := 30) dX3_addLetter_29 rfl (kr_3_6 ho) (fun m3 => ?_)
  refine ev_aload_n (q := 31) dX3_addLetter_30 rfl 0 rfl rfl ?_
  refine ev_dup (q := 32) dX3_addLetter_31 rfl rfl ?_
  refine ev_getI (q := 35) (ci := 3) (j := 3) (T := TX3) dX3_addLetter_32 rfl cf_3 ho hj_3_3 hc_3 gf_X3_47 rfl ?_
  refine ev_iconst (q := 36) (v := 1) dX3_addLetter_35 rfl li_1 ?_
  refine ev_iadd (q := 37) dX3_addLetter_36 rfl ?_
  refine ev_putI (q := 40) (ci := 3) (j := 3) (T := TX3) dX3_addLetter_37 rfl cf_3 ho hj_3_3 hc_3 gf_X3_47 rfl rfl (tyX3_ok 3 hj_3_3) ?_
  exact ev_vret dX3_addLetter_40 rfl
/-! AgingLetters$Office.addReader(II)V -/
theorem dX3_addReader_0 : decode cX3_addReader 0 = .ok (.aload_n 0, 1) := by decide +kernel
theorem dX3_addReader_1 : decode cX3_addReader 1 = .ok (.getfield 21, 3) := by decide +kernel
theorem dX3_addReader_4 : decode cX3_addReader 4 = .ok (.aload_n 0, 1) := by decide +kernel
theorem dX3_addReader_5 : decode cX3_addReader 5 = .ok (.getfield 50, 3) := by decide +kernel
theorem dX3_addReader_8 : decode cX3_addReader 8 = .ok (.iload_n 1, 1) := by decide +kernel
theorem dX3_addReader_9 : decode cX3_addReader 9 = .ok (.iastore, 1) := by decide +kernel
theorem dX3_addReader_10 : decode cX3_addReader 10 = .ok (.aload_n 0, 1) := by decide +kernel
theorem dX3_addReader_11 : decode cX3_addReader 11 = .ok (.getfield 24, 3) := by decide +kernel
theorem dX3_addReader_14 : decode cX3_addReader 14 = .ok (.aload_n 0, 1) := by decide +kernel
theorem dX3_addReader_15 : decode cX3_addReader 15 = .ok (.getfield 50, 3) := by decide +kernel
theorem dX3_addReader_18 : decode cX3_addReader 18 = .ok (.iload_n 1, 1) := by decide +kernel
theorem dX3_addReader_19 : decode cX3_addReader 19 = .ok (.iastore, 1) := by decide +kernel
theorem dX3_addReader_20 : decode cX3_addReader 20 = .ok (.aload_n 0, 1) := by decide +kernel
theorem dX3_addReader_21 : decode cX3_addReader 21 = .ok (.getfield 27, 3) := by decide +kernel
theorem dX3_addReader_24 : decode cX3_addReader 24 = .ok (.aload_n 0, 1) := by decide +kernel
theorem dX3_addReader_25 : decode cX3_addReader 25 = .ok (.getfield 50, 3) := by decide +kernel
theorem dX3_addReader_28 : decode cX3_addReader 28 = .ok (.iload_n 2, 1) := by decide +kernel
theorem dX3_addReader_29 : decode cX3_addReader 29 = .ok (.iastore, 1) := by decide +kernel
theorem dX3_addReader_30 : decode cX3_addReader 30 = .ok (.aload_n 0, 1) := by decide +kernel
theorem dX3_addReader_31 : decode cX3_addReader 31 = .ok (.dup, 1) := by decide +kernel
theorem dX3_addReader_32 : decode cX3_addReader 32 = .ok (.getfield 50, 3) := by decide +kernel
theorem dX3_addReader_35 : decode cX3_addReader 35 = .ok (.iconst 1, 1) := by decide +kernel
theorem dX3_addReader_36 : decode cX3_addReader 36 = .ok (.iadd, 1) := by decide +kernel
theorem dX3_addReader_37 : decode cX3_addReader 37 = .ok (.putfield 50, 3) := by decide +kernel
theorem dX3_addReader_40 : decode cX3_addReader 40 = .ok (.return_, 1) := by decide +kernel
set_option maxRecDepth 100000 in
set_option maxHeartbeats 4000000 in
theorem con_X3_addReader (G : Gt) (o : Nat) (a1 : Int32) (a2 : Int32) (ho : kd o = 3) (mem : Mem) : Con tvU G yX3_addReader cX3_addReader 3 none 1 [.ref (gA G o), .int a1, .int a2] mem (X3_addReader o a1 a2 mem) := by
  refine con_of (by decide) (Nat.le_of_ble_eq_true rfl) ?_
  show EvR tvU G cX3_addReader 3 none RX3 1 0 [(0, .ref (gA G o)), (1, .int (a1)), (2, .int (a2))] [] mem _
  unfold X3_addReader
  refine ev_aload_n (q := 1) dX3_addReader_0 rfl 0 rfl rfl ?_
  refine ev_getR (q := 4) (ci := 3) (j := 8) (T := TX3) dX3_addReader_1 rfl cf_3 ho hj_3_8 hc_3 gf_X3_21 rfl ?_
  refine ev_aload_n (q := 5) dX3_addReader_4 rfl 0 rfl rfl ?_
  refine ev_getI (q := 8) (ci := 3) (j := 7) (T := TX3) dX3_addReader_5 rfl cf_3 ho hj_3_7 hc_3 gf_X3_50 rfl ?_
  refine ev_iload_n (q := 9) dX3_addReader_8 rfl 1 rfl rfl ?_
  refine ev_iast (q := 10) dX3_addReader_9 rfl (kr_3_8 ho) (fun m1 => ?_)
  refine ev_aload_n (q := 11) dX3_addReader_10 rfl 0 rfl rfl ?_
  refine ev_getR (q := 14) (ci := 3) (j := 9) (T := TX3) dX3_addReader_11 rfl cf_3 ho hj_3_9 hc_3 gf_X3_24 rfl ?_
  refine ev_aload_n (q := 15) dX3_addReader_14 rfl 0 rfl rfl ?_
  refine ev_getI (q := 18) (ci := 3) (j := 7) (T := TX3) dX3_addReader_15 rfl cf_3 ho hj_3_7 hc_3 gf_X3_50 rfl ?_
  refine ev_iload_n (q := 19) dX3_addReader_18 rfl 1 rfl rfl ?_
  refine ev_iast (q := 20) dX3_addReader_19 rfl (kr_3_9 ho) (fun m2 => ?_)
  refine ev_aload_n (q := 21) dX3_addReader_20 rfl 0 rfl rfl ?_
  refine ev_getR (q := 24) (ci := 3) (j := 10) (T := TX3) dX3_addReader_21 rfl cf_3 ho hj_3_10 hc_3 gf_X3_27 rfl ?_
  refine ev_aload_n (q := 25) dX3_addReader_24 rfl 0 rfl rfl ?_
  refine ev_getI (q := 28) (ci := 3) (j := 7) (T := TX3) dX3_addReader_25 rfl cf_3 ho hj_3_7 hc_3 gf_X3_50 rfl ?_
  refine ev_iload_n (q := 29) dX3_addReader_28 rfl 2 rfl rfl ?_
  refine ev_iast (q := 30) dX3_addReader_29 rfl (kr_3_10 ho) (fun m3 => ?_)
  refine ev_aload_n (q := 31) dX3_addReader_30 rfl 0 rfl rfl ?_
  refine ev_dup (q := 32) dX3_addReader_31 rfl rfl ?_
  refine ev_getI (q := 35) (ci := 3) (j := 7) (T := TX3) dX3_addReader_32 rfl cf_3 ho hj_3_7 hc_3 gf_X3_50 rfl ?_
  refine ev_iconst (q := 36) (v := 1) dX3_addReader_35 rfl li_1 ?_
  refine ev_iadd (q := 37) dX3_addReader_36 rfl ?_
  refine ev_putI (q := 40) (ci := 3) (j := 7) (T := TX3) dX3_addReader_37 rfl cf_3 ho hj_3_7 hc_3 gf_X3_50 rfl rfl (tyX3_ok 7 hj_3_7) ?_
  exact ev_vret dX3_addReader_40 rfl
/-! AgingLetters$Office.hasLetter(I)Z -/
theorem dX3_hasLetter_0 : decode cX3_hasLetter 0 = .ok (.iload_n 1, 1) := by decide +kernel
theorem dX3_hasLetter_1 : decode cX3_hasLetter 1 = .ok (.ifCond .lt 15, 3) := by decide +kernel
theorem dX3_hasLetter_4 : decode cX3_hasLetter 4 = .ok (.iload_n 1, 1) := by decide +kernel
theorem dX3_hasLetter_5 : decode cX3_hasLetter 5 = .ok (.aload_n 0, 1) := by decide +kernel
theorem dX3_hasLetter_6 : decode cX3_hasLetter 6 = .ok (.getfield 47, 3) := by decide +kernel
theorem dX3_hasLetter_9 : decode cX3_hasLetter 9 = .ok (.if_icmp .ge 7, 3) := by decide +kernel
theorem dX3_hasLetter_12 : decode cX3_hasLetter 12 = .ok (.iconst 1, 1) := by decide +kernel
theorem dX3_hasLetter_13 : decode cX3_hasLetter 13 = .ok (.goto 4, 3) := by decide +kernel
theorem dX3_hasLetter_16 : decode cX3_hasLetter 16 = .ok (.iconst 0, 1) := by decide +kernel
theorem dX3_hasLetter_17 : decode cX3_hasLetter 17 = .ok (.ireturn, 1) := by decide +kernel
set_option maxRecDepth 100000 in
set_option maxHeartbeats 4000000 in
theorem con_X3_hasLetter (G : Gt) (o : Nat) (a1 : Int32) (ho : kd o = 3) (mem : Mem) : Con tvI G yX3_hasLetter cX3_hasLetter 2 (some .boolean) 1 [.ref (gA G o), .int a1] mem (X3_hasLetter o a1 mem) := by
  refine con_of (by decide) (Nat.le_of_ble_eq_true rfl) ?_
  show EvR tvI G cX3_hasLetter 2 (some .boolean) RX3 1 0 [(0, .ref (gA G o)), (1, .int (a1))] [] mem _
  unfold X3_hasLetter
  refine ev_iload_n (q := 1) dX3_hasLetter_0 rfl 1 rfl rfl ?_
  refine ev_if_lt (t := 16) (q := 4) dX3_hasLetter_1 rfl rfl (fun hc1 => ?_) (fun hc1 => ?_)
  · refine ev_iconst (q := 17) (v := 0) dX3_hasLetter_16 rfl li_0 ?_
    exact ev_zret dX3_hasLetter_17 rfl
  · refine ev_iload_n (q := 5) dX3_hasLetter_4 rfl 1 rfl rfl ?_
    refine ev_aload_n (q := 6) dX3_hasLetter_5 rfl 0 rfl rfl ?_
    refine ev_getI (q := 9) (ci := 3) (j := 3) (T := TX3) dX3_hasLetter_6 rfl cf_3 ho hj_3_3 hc_3 gf_X3_47 rfl ?_
    refine ev_icmp_ge (t := 16) (q := 12) dX3_hasLetter_9 rfl rfl (fun hc2 => ?_) (fun hc2 => ?_)
    · refine ev_iconst (q := 13) (v := 1) dX3_hasLetter_12 rfl li_1 ?_
      refine ev_goto (t := 17) dX3_hasLetter_13 rfl ?_
      exact ev_zret dX3_hasLetter_17 rfl
    · refine ev_iconst (q := 17) (v := 0) dX3_hasLetter_16 rfl li_0 ?_
      exact ev_zret dX3_hasLetter_17 rfl
/-! AgingLetters$Office.hasReader(I)Z -/
theorem dX3_hasReader_0 : decode cX3_hasReader 0 = .ok (.iload_n 1, 1) := by decide +kernel
theorem dX3_hasReader_1 : decode cX3_hasReader 1 = .ok (.ifCond .lt 15, 3) := by decide +kernel
theorem dX3_hasReader_4 : decode cX3_hasReader 4 = .ok (.iload_n 1, 1) := by decide +kernel
theorem dX3_hasReader_5 : decode cX3_hasReader 5 = .ok (.aload_n 0, 1) := by decide +kernel
theorem dX3_hasReader_6 : decode cX3_hasReader 6 = .ok (.getfield 50, 3) := by decide +kernel
theorem dX3_hasReader_9 : decode cX3_hasReader 9 = .ok (.if_icmp .ge 7, 3) := by decide +kernel
theorem dX3_hasReader_12 : decode cX3_hasReader 12 = .ok (.iconst 1, 1) := by decide +kernel
theorem dX3_hasReader_13 : decode cX3_hasReader 13 = .ok (.goto 4, 3) := by decide +kernel
theorem dX3_hasReader_16 : decode cX3_hasReader 16 = .ok (.iconst 0, 1) := by decide +kernel
theorem dX3_hasReader_17 : decode cX3_hasReader 17 = .ok (.ireturn, 1) := by decide +kernel
set_option maxRecDepth 100000 in
set_option maxHeartbeats 4000000 in
theorem con_X3_hasReader (G : Gt) (o : Nat) (a1 : Int32) (ho : kd o = 3) (mem : Mem) : Con tvI G yX3_hasReader cX3_hasReader 2 (some .boolean) 1 [.ref (gA G o), .int a1] mem (X3_hasReader o a1 mem) := by
  refine con_of (by decide) (Nat.le_of_ble_eq_true rfl) ?_
  show EvR tvI G cX3_hasReader 2 (some .boolean) RX3 1 0 [(0, .ref (gA G o)), (1, .int (a1))] [] mem _
  unfold X3_hasReader
  refine ev_iload_n (q := 1) dX3_hasReader_0 rfl 1 rfl rfl ?_
  refine ev_if_lt (t := 16) (q := 4) dX3_hasReader_1 rfl rfl (fun hc1 => ?_) (fun hc1 => ?_)
  · refine ev_iconst (q := 17) (v := 0) dX3_hasReader_16 rfl li_0 ?_
    exact ev_zret dX3_hasReader_17 rfl
  · refine ev_iload_n (q := 5) dX3_hasReader_4 rfl 1 rfl rfl ?_
    refine ev_aload_n (q := 6) dX3_hasReader_5 rfl 0 rfl rfl ?_
    refine ev_getI (q := 9) (ci := 3) (j := 7) (T := TX3) dX3_hasReader_6 rfl cf_3 ho hj_3_7 hc_3 gf_X3_50 rfl ?_
    refine ev_icmp_ge (t := 16) (q := 12) dX3_hasReader_9 rfl rfl (fun hc2 => ?_) (fun hc2 => ?_)
    · refine ev_iconst (q := 13) (v := 1) dX3_hasReader_12 rfl li_1 ?_
      refine ev_goto (t := 17) dX3_hasReader_13 rfl ?_
      exact ev_zret dX3_hasReader_17 rfl
    · refine ev_iconst (q := 17) (v := 0) dX3_hasReader_16 rfl li_0 ?_
      exact ev_zret dX3_hasReader_17 rfl
/-! AgingLetters$Office.hasReaders(I)Z -/
theorem dX3_hasReaders_0 : decode cX3_hasReaders 0 = .ok (.iload_n 1, 1) := by decide +kernel
theorem dX3_hasReaders_1 : decode cX3_hasReaders 1 = .ok (.ifCond .lt 17, 3) := by decide +kernel
theorem dX3_hasReaders_4 : decode cX3_hasReaders 4 = .ok (.iload_n 1, 1) := by decide +kernel
theorem dX3_hasReaders_5 : decode cX3_hasReaders 5 = .ok (.iconst 1, 1) := by decide +kernel
theorem dX3_hasReaders_6 : decode cX3_hasReaders 6 = .ok (.aload_n 0, 1) := by decide +kernel
theorem dX3_hasReaders_7 : decode cX3_hasReaders 7 = .ok (.getfield 50, 3) := by decide +kernel
theorem dX3_hasReaders_10 : decode cX3_hasReaders 10 = .ok (.ishl, 1) := by decide +kernel
theorem dX3_hasReaders_11 : decode cX3_hasReaders 11 = .ok (.if_icmp .ge 7, 3) := by decide +kernel
theorem dX3_hasReaders_14 : decode cX3_hasReaders 14 = .ok (.iconst 1, 1) := by decide +kernel
theorem dX3_hasReaders_15 : decode cX3_hasReaders 15 = .ok (.goto 4, 3) := by decide +kernel
theorem dX3_hasReaders_18 : decode cX3_hasReaders 18 = .ok (.iconst 0, 1) := by decide +kernel
theorem dX3_hasReaders_19 : decode cX3_hasReaders 19 = .ok (.ireturn, 1) := by decide +kernel
set_option maxRecDepth 100000 in
set_option maxHeartbeats 4000000 in
theorem con_X3_hasReaders (G : Gt) (o : Nat) (a1 : Int32) (ho : kd o = 3) (mem : Mem) : Con tvI G yX3_hasReaders cX3_hasReaders 2 (some .boolean) 1 [.ref (gA G o), .int a1] mem (X3_hasReaders o a1 mem) := by
  refine con_of (by decide) (Nat.le_of_ble_eq_true rfl) ?_
  show EvR tvI G cX3_hasReaders 2 (some .boolean) RX3 1 0 [(0, .ref (gA G o)), (1, .int (a1))] [] mem _
  unfold X3_hasReaders
  refine ev_iload_n (q := 1) dX3_hasReaders_0 rfl 1 rfl rfl ?_
  refine ev_if_lt (t := 18) (q := 4) dX3_hasReaders_1 rfl rfl (fun hc1 => ?_) (fun hc1 => ?_)
  · refine ev_iconst (q := 19) (v := 0) dX3_hasReaders_18 rfl li_0 ?_
    exact ev_zret dX3_hasReaders_19 rfl
  · refine ev_iload_n (q := 5) dX3_hasReaders_4 rfl 1 rfl rfl ?_
    refine ev_iconst (q := 6) (v := 1) dX3_hasReaders_5 rfl li_1 ?_
    refine ev_aload_n (q := 7) dX3_hasReaders_6 rfl 0 rfl rfl ?_
    refine ev_getI (q := 10) (ci := 3) (j := 7) (T := TX3) dX3_hasReaders_7 rfl cf_3 ho hj_3_7 hc_3 gf_X3_50 rfl ?_
    refine ev_ishl (q := 11) dX3_hasReaders_10 rfl ?_
    refine ev_icmp_ge (t := 18) (q := 14) dX3_hasReaders_11 rfl rfl (fun hc2 => ?_) (fun hc2 => ?_)
    · refine ev_iconst (q := 15) (v := 1) dX3_hasReaders_14 rfl li_1 ?_
      refine ev_goto (t := 19) dX3_hasReaders_15 rfl ?_
      exact ev_zret dX3_hasReaders_19 rfl
    · refine ev_iconst (q := 19) (v := 0) dX3_hasReaders_18 rfl li_0 ?_
      exact ev_zret dX3_hasReaders_19 rfl
/-! AgingLetters$Office.areAlive(I)Z -/
theorem dX3_areAlive_0 : decode cX3_areAlive 0 = .ok (.iconst 0, 1) := by decide +kernel
theorem dX3_areAlive_1 : decode cX3_areAlive 1 = .ok (.istore_n 2, 1) := by decide +kernel
theorem dX3_areAlive_2 : decode cX3_areAlive 2 = .ok (.iload_n 2, 1) := by decide +kernel
theorem dX3_areAlive_3 : decode cX3_areAlive 3 = .ok (.aload_n 0, 1) := by decide +kernel
theorem dX3_areAlive_4 : decode cX3_areAlive 4 = .ok (.getfield 50, 3) := by decide +kernel
theorem dX3_areAlive_7 : decode cX3_areAlive 7 = .ok (.if_icmp .ge 27, 3) := by decide +kernel
theorem dX3_areAlive_10 : decode cX3_areAlive 10 = .ok (.iload_n 1, 1) := by decide +kernel
theorem dX3_areAlive_11 : decode cX3_areAlive 11 = .ok (.iload_n 2, 1) := by decide +kernel
theorem dX3_areAlive_12 : decode cX3_areAlive 12 = .ok (.invokestatic 69, 3) := by decide +kernel
theorem dX3_areAlive_15 : decode cX3_areAlive 15 = .ok (.ifCond .eq 13, 3) := by decide +kernel
theorem dX3_areAlive_18 : decode cX3_areAlive 18 = .ok (.aload_n 0, 1) := by decide +kernel
theorem dX3_areAlive_19 : decode cX3_areAlive 19 = .ok (.iload_n 2, 1) := by decide +kernel
theorem dX3_areAlive_20 : decode cX3_areAlive 20 = .ok (.invokevirtual 65, 3) := by decide +kernel
theorem dX3_areAlive_23 : decode cX3_areAlive 23 = .ok (.ifCond .ne 5, 3) := by decide +kernel
theorem dX3_areAlive_26 : decode cX3_areAlive 26 = .ok (.iconst 0, 1) := by decide +kernel
theorem dX3_areAlive_27 : decode cX3_areAlive 27 = .ok (.ireturn, 1) := by decide +kernel
theorem dX3_areAlive_28 : decode cX3_areAlive 28 = .ok (.iinc 2 1, 3) := by decide +kernel
theorem dX3_areAlive_31 : decode cX3_areAlive 31 = .ok (.goto (-29), 3) := by decide +kernel
theorem dX3_areAlive_34 : decode cX3_areAlive 34 = .ok (.iconst 1, 1) := by decide +kernel
theorem dX3_areAlive_35 : decode cX3_areAlive 35 = .ok (.ireturn, 1) := by decide +kernel
set_option maxRecDepth 100000 in
set_option maxHeartbeats 4000000 in
theorem X3_areAlive_b28_ok (G : Gt) (o : Nat) (ho : kd o = 3)   (k2 : Int32 → Int32 → Mem → Option (Int32 × Mem)) (hk2 : ∀ (x1 : Int32) (x2 : Int32) (mem : Mem), EvR tvI G cX3_areAlive 3 (some .boolean) RX3 2 2 [(0, .ref (gA G o)), (1, .int (x1)), (2, .int (x2))] [] mem (k2 x1 x2 mem)) (x1 : Int32) (x2 : Int32) (mem : Mem) : EvR tvI G cX3_areAlive 3 (some .boolean) RX3 2 28 [(0, .ref (gA G o)), (1, .int (x1)), (2, .int (x2))] [] mem (X3_areAlive_b28 o k2 x1 x2 mem) := by
  unfold X3_areAlive_b28
  refine ev_iinc (q := 31) (lv2 := [(2, .int _), (0, .ref _), (1, .int _)]) (v := x2 + 1) dX3_areAlive_28 2 rfl rfl (congrArg (HAdd.hAdd _) li_1) (Nat.le_of_ble_eq_true rfl) rfl ?_
  refine ev_goto (t := 2) dX3_areAlive_31 rfl ?_
  refine ev_sub (lv' := [(0, .ref _), (1, .int _), (2, .int _)]) [1, 2, 0] rfl ?_
  exact hk2 _ _ _
set_option maxRecDepth 100000 in
set_option maxHeartbeats 4000000 in
theorem X3_areAlive_b2_ok (G : Gt) (o : Nat) (ho : kd o = 3)    : ∀ (n : Nat) (x1 : Int32) (x2 : Int32) (mem : Mem), EvR tvI G cX3_areAlive 3 (some .boolean) RX3 2 2 [(0, .ref (gA G o)), (1, .int (x1)), (2, .int (x2))] [] mem (X3_areAlive_b2 o n x1 x2 mem) := by
  intro n
  induction n with
  | zero => intros; exact ev_none
  | succ n ih =>
    intro x1 x2 mem
    rw [X3_areAlive_b2]
    refine ev_iload_n (q := 3) dX3_areAlive_2 rfl 2 rfl rfl ?_
    refine ev_aload_n (q := 4) dX3_areAlive_3 rfl 0 rfl rfl ?_
    refine ev_getI (q := 7) (ci := 3) (j := 7) (T := TX3) dX3_areAlive_4 rfl cf_3 ho hj_3_7 hc_3 gf_X3_50 rfl ?_
    refine ev_icmp_ge (t := 34) (q := 10) dX3_areAlive_7 rfl rfl (fun hc1 => ?_) (fun hc1 => ?_)
    · refine ev_iload_n (q := 11) dX3_areAlive_10 rfl 1 rfl rfl ?_
      refine ev_iload_n (q := 12) dX3_areAlive_11 rfl 2 rfl rfl ?_
      refine ev_callSNI (q := 15) dX3_areAlive_12 rfl ml_X3_69 mt_X6_inSet (con_X6_inSet G _ _  _) rfl (Nat.le_of_ble_eq_true rfl) (Nat.le_of_ble_eq_true rfl) rfl (Nat.le_of_ble_eq_true rfl) (fun r2 m3 => ?_)
      refine ev_if_eq (t := 28) (q := 18) dX3_areAlive_15 rfl rfl (fun hc4 => ?_) (fun hc4 => ?_)
      · exact X3_areAlive_b28_ok G o ho  (X3_areAlive_b2 o n) ih _ _ _
      · refine ev_aload_n (q := 19) dX3_areAlive_18 rfl 0 rfl rfl ?_
        refine ev_iload_n (q := 20) dX3_areAlive_19 rfl 2 rfl rfl ?_
        refine ev_callVI (q := 23) dX3_areAlive_20 rfl ml_X3_65 mt_X3_isAlive cf_3 rfl ho hc_3 (con_X3_isAlive G _ _ ho _) rfl (Nat.le_of_ble_eq_true rfl) (Nat.le_of_ble_eq_true rfl) rfl (Nat.le_of_ble_eq_true rfl) (fun r5 m6 => ?_)
        refine ev_if_ne (t := 28) (q := 26) dX3_areAlive_23 rfl rfl (fun hc7 => ?_) (fun hc7 => ?_)
        · refine ev_iconst (q := 27) (v := 0) dX3_areAlive_26 rfl li_0 ?_
          exact ev_zret dX3_areAlive_27 rfl
        · exact X3_areAlive_b28_ok G o ho  (X3_areAlive_b2 o n) ih _ _ _
    · refine ev_iconst (q := 35) (v := 1) dX3_areAlive_34 rfl li_1 ?_
      exact ev_zret dX3_areAlive_35 rfl
set_option maxRecDepth 100000 in
set_option maxHeartbeats 4000000 in
theorem con_X3_areAlive (G : Gt) (o : Nat) (a1 : Int32) (ho : kd o = 3) (mem : Mem) : Con tvI G yX3_areAlive cX3_areAlive 3 (some .boolean) 2 [.ref (gA G o), .int a1] mem (X3_areAlive o a1 mem) := by
  refine con_of (by decide) (Nat.le_of_ble_eq_true rfl) ?_
  show EvR tvI G cX3_areAlive 3 (some .boolean) RX3 2 0 [(0, .ref (gA G o)), (1, .int (a1))] [] mem _
  unfold X3_areAlive
  refine ev_iconst (q := 1) (v := 0) dX3_areAlive_0 rfl li_0 ?_
  refine ev_istore_n (q := 2) (lv2 := [(2, .int _), (0, .ref _), (1, .int _)]) dX3_areAlive_1 rfl rfl (Nat.le_of_ble_eq_true rfl) rfl ?_
  refine ev_sub (lv' := [(0, .ref _), (1, .int _), (2, .int _)]) [1, 2, 0] rfl ?_
  exact X3_areAlive_b2_ok G o ho   fu _ _ _
/-! AgingLetters$Office.howManyFit()I -/
theorem dX3_howManyFit_0 : decode cX3_howManyFit 0 = .ok (.iconst 0, 1) := by decide +kernel
theorem dX3_howManyFit_1 : decode cX3_howManyFit 1 = .ok (.istore_n 1, 1) := by decide +kernel
theorem dX3_howManyFit_2 : decode cX3_howManyFit 2 = .ok (.iconst 0, 1) := by decide +kernel
theorem dX3_howManyFit_3 : decode cX3_howManyFit 3 = .ok (.istore_n 2, 1) := by decide +kernel
theorem dX3_howManyFit_4 : decode cX3_howManyFit 4 = .ok (.iload_n 2, 1) := by decide +kernel
theorem dX3_howManyFit_5 : decode cX3_howManyFit 5 = .ok (.aload_n 0, 1) := by decide +kernel
theorem dX3_howManyFit_6 : decode cX3_howManyFit 6 = .ok (.getfield 50, 3) := by decide +kernel
theorem dX3_howManyFit_9 : decode cX3_howManyFit 9 = .ok (.if_icmp .ge 20, 3) := by decide +kernel
theorem dX3_howManyFit_12 : decode cX3_howManyFit 12 = .ok (.aload_n 0, 1) := by decide +kernel
theorem dX3_howManyFit_13 : decode cX3_howManyFit 13 = .ok (.iload_n 2, 1) := by decide +kernel
theorem dX3_howManyFit_14 : decode cX3_howManyFit 14 = .ok (.invokevirtual 73, 3) := by decide +kernel
theorem dX3_howManyFit_17 : decode cX3_howManyFit 17 = .ok (.ifCond .eq 6, 3) := by decide +kernel
theorem dX3_howManyFit_20 : decode cX3_howManyFit 20 = .ok (.iinc 1 1, 3) := by decide +kernel
theorem dX3_howManyFit_23 : decode cX3_howManyFit 23 = .ok (.iinc 2 1, 3) := by decide +kernel
theorem dX3_howManyFit_26 : decode cX3_howManyFit 26 = .ok (.goto (-22), 3) := by decide +kernel
theorem dX3_howManyFit_29 : decode cX3_howManyFit 29 = .ok (.iload_n 1, 1) := by decide +kernel
theorem dX3_howManyFit_30 : decode cX3_howManyFit 30 = .ok (.ireturn, 1) := by decide +kernel
set_option maxRecDepth 100000 in
set_option maxHeartbeats 4000000 in
theorem X3_howManyFit_b23_ok (G : Gt) (o : Nat) (ho : kd o = 3)   (k4 : Int32 → Int32 → Mem → Option (Int32 × Mem)) (hk4 : ∀ (x1 : Int32) (x2 : Int32) (mem : Mem), EvR tvI G cX3_howManyFit 3 (some .int) RX3 3 4 [(0, .ref (gA G o)), (1, .int (x1)), (2, .int (x2))] [] mem (k4 x1 x2 mem)) (x1 : Int32) (x2 : Int32) (mem : Mem) : EvR tvI G cX3_howManyFit 3 (some .int) RX3 3 23 [(0, .ref (gA G o)), (1, .int (x1)), (2, .int (x2))] [] mem (X3_howManyFit_b23 o k4 x1 x2 mem) := by
  unfold X3_howManyFit_b23
  refine ev_iinc (q := 26) (lv2 := [(2, .int _), (0, .ref _), (1, .int _)]) (v := x2 + 1) dX3_howManyFit_23 2 rfl rfl (congrArg (HAdd.hAdd _) li_1) (Nat.le_of_ble_eq_true rfl) rfl ?_
  refine ev_goto (t := 4) dX3_howManyFit_26 rfl ?_
  refine ev_sub (lv' := [(0, .ref _), (1, .int _), (2, .int _)]) [1, 2, 0] rfl ?_
  exact hk4 _ _ _
set_option maxRecDepth 100000 in
set_option maxHeartbeats 4000000 in
theorem X3_howManyFit_b4_ok (G : Gt) (o : Nat) (ho : kd o = 3)    : ∀ (n : Nat) (x1 : Int32) (x2 : Int32) (mem : Mem), EvR tvI G cX3_howManyFit 3 (some .int) RX3 3 4 [(0, .ref (gA G o)), (1, .int (x1)), (2, .int (x2))] [] mem (X3_howManyFit_b4 o n x1 x2 mem) := by
  intro n
  induction n with
  | zero => intros; exact ev_none
  | succ n ih =>
    intro x1 x2 mem
    rw [X3_howManyFit_b4]
    refine ev_iload_n (q := 5) dX3_howManyFit_4 rfl 2 rfl rfl ?_
    refine ev_aload_n (q := 6) dX3_howManyFit_5 rfl 0 rfl rfl ?_
    refine ev_getI (q := 9) (ci := 3) (j := 7) (T := TX3) dX3_howManyFit_6 rfl cf_3 ho hj_3_7 hc_3 gf_X3_50 rfl ?_
    refine ev_icmp_ge (t := 29) (q := 12) dX3_howManyFit_9 rfl rfl (fun hc1 => ?_) (fun hc1 => ?_)
    · refine ev_aload_n (q := 13) dX3_howManyFit_12 rfl 0 rfl rfl ?_
      refine ev_iload_n (q := 14) dX3_howManyFit_13 rfl 2 rfl rfl ?_
      refine ev_callVI (q := 17) dX3_howManyFit_14 rfl ml_X3_73 mt_X3_isFit cf_3 rfl ho hc_3 (con_X3_isFit G _ _ ho _) rfl (Nat.le_of_ble_eq_true rfl) (Nat.le_of_ble_eq_true rfl) rfl (Nat.le_of_ble_eq_true rfl) (fun r2 m3 => ?_)
      refine ev_if_eq (t := 23) (q := 20) dX3_howManyFit_17 rfl rfl (fun hc4 => ?_) (fun hc4 => ?_)
      · exact X3_howManyFit_b23_ok G o ho  (X3_howManyFit_b4 o n) ih _ _ _
      · refine ev_iinc (q := 23) (lv2 := [(1, .int _), (0, .ref _), (2, .int _)]) (v := x1 + 1) dX3_howManyFit_20 1 rfl rfl (congrArg (HAdd.hAdd _) li_1) (Nat.le_of_ble_eq_true rfl) rfl ?_
        refine ev_sub (lv' := [(0, .ref _), (1, .int _), (2, .int _)]) [1, 0, 2] rfl ?_
        exact X3_howManyFit_b23_ok G o ho  (X3_howManyFit_b4 o n) ih _ _ _
    · refine ev_iload_n (q := 30) dX3_howManyFit_29 rfl 1 rfl rfl ?_
      exact ev_iret dX3_howManyFit_30 rfl
set_option maxRecDepth 100000 in
set_option maxHeartbeats 4000000 in
theorem con_X3_howManyFit (G : Gt) (o : Nat) (ho : kd o = 3) (mem : Mem) : Con tvI G yX3_howManyFit cX3_howManyFit 3 (some .int) 3 [.ref (gA G o)] mem (X3_howManyFit o mem) := by
  refine con_of (by decide) (Nat.le_of_ble_eq_true rfl) ?_
  show EvR tvI G cX3_howManyFit 3 (some .int) RX3 3 0 [(0, .ref (gA G o))] [] mem _
  unfold X3_howManyFit
  refine ev_iconst (q := 1) (v := 0) dX3_howManyFit_0 rfl li_0 ?_
  refine ev_istore_n (q := 2) (lv2 := [(1, .int _), (0, .ref _)]) dX3_howManyFit_1 rfl rfl (Nat.le_of_ble_eq_true rfl) rfl ?_
  refine ev_iconst (q := 3) (v := 0) dX3_howManyFit_2 rfl li_0 ?_
  refine ev_istore_n (q := 4) (lv2 := [(2, .int _), (1, .int _), (0, .ref _)]) dX3_howManyFit_3 rfl rfl (Nat.le_of_ble_eq_true rfl) rfl ?_
  refine ev_sub (lv' := [(0, .ref _), (1, .int _), (2, .int _)]) [2, 1, 0] rfl ?_
  exact X3_howManyFit_b4_ok G o ho   fu _ _ _
/-! AgingLetters$Office.lettersReadBy(I)I -/
theorem dX3_lettersReadBy_0 : decode cX3_lettersReadBy 0 = .ok (.iconst 0, 1) := by decide +kernel
theorem dX3_lettersReadBy_1 : decode cX3_lettersReadBy 1 = .ok (.istore_n 2, 1) := by decide +kernel
theorem dX3_lettersReadBy_2 : decode cX3_lettersReadBy 2 = .ok (.iconst 0, 1) := by decide +kernel
theorem dX3_lettersReadBy_3 : decode cX3_lettersReadBy 3 = .ok (.istore_n 3, 1) := by decide +kernel
theorem dX3_lettersReadBy_4 : decode cX3_lettersReadBy 4 = .ok (.iload_n 3, 1) := by decide +kernel
theorem dX3_lettersReadBy_5 : decode cX3_lettersReadBy 5 = .ok (.aload_n 0, 1) := by decide +kernel
theorem dX3_lettersReadBy_6 : decode cX3_lettersReadBy 6 = .ok (.getfield 47, 3) := by decide +kernel
theorem dX3_lettersReadBy_9 : decode cX3_lettersReadBy 9 = .ok (.if_icmp .ge 24, 3) := by decide +kernel
theorem dX3_lettersReadBy_12 : decode cX3_lettersReadBy 12 = .ok (.aload_n 0, 1) := by decide +kernel
theorem dX3_lettersReadBy_13 : decode cX3_lettersReadBy 13 = .ok (.iload_n 1, 1) := by decide +kernel
theorem dX3_lettersReadBy_14 : decode cX3_lettersReadBy 14 = .ok (.iload_n 3, 1) := by decide +kernel
theorem dX3_lettersReadBy_15 : decode cX3_lettersReadBy 15 = .ok (.invokevirtual 76, 3) := by decide +kernel
theorem dX3_lettersReadBy_18 : decode cX3_lettersReadBy 18 = .ok (.ifCond .eq 9, 3) := by decide +kernel
theorem dX3_lettersReadBy_21 : decode cX3_lettersReadBy 21 = .ok (.iload_n 2, 1) := by decide +kernel
theorem dX3_lettersReadBy_22 : decode cX3_lettersReadBy 22 = .ok (.iconst 1, 1) := by decide +kernel
theorem dX3_lettersReadBy_23 : decode cX3_lettersReadBy 23 = .ok (.iload_n 3, 1) := by decide +kernel
theorem dX3_lettersReadBy_24 : decode cX3_lettersReadBy 24 = .ok (.ishl, 1) := by decide +kernel
theorem dX3_lettersReadBy_25 : decode cX3_lettersReadBy 25 = .ok (.ior, 1) := by decide +kernel
theorem dX3_lettersReadBy_26 : decode cX3_lettersReadBy 26 = .ok (.istore_n 2, 1) := by decide +kernel
theorem dX3_lettersReadBy_27 : decode cX3_lettersReadBy 27 = .ok (.iinc 3 1, 3) := by decide +kernel
theorem dX3_lettersReadBy_30 : decode cX3_lettersReadBy 30 = .ok (.goto (-26), 3) := by decide +kernel
theorem dX3_lettersReadBy_33 : decode cX3_lettersReadBy 33 = .ok (.iload_n 2, 1) := by decide +kernel
theorem dX3_lettersReadBy_34 : decode cX3_lettersReadBy 34 = .ok (.ireturn, 1) := by decide +kernel
set_option maxRecDepth 100000 in
set_option maxHeartbeats 4000000 in
theorem X3_lettersReadBy_b27_ok (G : Gt) (o : Nat) (ho : kd o = 3)   (k4 : Int32 → Int32 → Int32 → Mem → Option (Int32 × Mem)) (hk4 : ∀ (x1 : Int32) (x2 : Int32) (x3 : Int32) (mem : Mem), EvR tvI G cX3_lettersReadBy 4 (some .int) RX3 2 4 [(0, .ref (gA G o)), (1, .int (x1)), (2, .int (x2)), (3, .int (x3))] [] mem (k4 x1 x2 x3 mem)) (x1 : Int32) (x2 : Int32) (x3 : Int32) (mem : Mem) : EvR tvI G cX3_lettersReadBy 4 (some .int) RX3 2 27 [(0, .ref (gA G o)), (1, .int (x1)), (2, .int (x2)), (3, .int (x3))] [] mem (X3_lettersReadBy_b27 o k4 x1 x2 x3 mem) := by
  unfold X3_lettersReadBy_b27
  refine ev_iinc (q := 30) (lv2 := [(3, .int _), (0, .ref _), (1, .int _), (2, .int _)]) (v := x3 + 1) dX3_lettersReadBy_27 3 rfl rfl (congrArg (HAdd.hAdd _) li_1) (Nat.le_of_ble_eq_true rfl) rfl ?_
  refine ev_goto (t := 4) dX3_lettersReadBy_30 rfl ?_
  refine ev_sub (lv' := [(0, .ref _), (1, .int _), (2, .int _), (3, .int _)]) [1, 2, 3, 0] rfl ?_
  exact hk4 _ _ _ _
set_option maxRecDepth 100000 in
set_option maxHeartbeats 4000000 in
theorem X3_lettersReadBy_b4_ok (G : Gt) (o : Nat) (ho : kd o = 3)    : ∀ (n : Nat) (x1 : Int32) (x2 : Int32) (x3 : Int32) (mem : Mem), EvR tvI G cX3_lettersReadBy 4 (some .int) RX3 2 4 [(0, .ref (gA G o)), (1, .int (x1)), (2, .int (x2)), (3, .int (x3))] [] mem (X3_lettersReadBy_b4 o n x1 x2 x3 mem) := by
  intro n
  induction n with
  | zero => intros; exact ev_none
  | succ n ih =>
    intro x1 x2 x3 mem
    rw [X3_lettersReadBy_b4]
    refine ev_iload_n (q := 5) dX3_lettersReadBy_4 rfl 3 rfl rfl ?_
    refine ev_aload_n (q := 6) dX3_lettersReadBy_5 rfl 0 rfl rfl ?_
    refine ev_getI (q := 9) (ci := 3) (j := 3) (T := TX3) dX3_lettersReadBy_6 rfl cf_3 ho hj_3_3 hc_3 gf_X3_47 rfl ?_
    refine ev_icmp_ge (t := 33) (q := 12) dX3_lettersReadBy_9 rfl rfl (fun hc1 => ?_) (fun hc1 => ?_)
    · refine ev_aload_n (q := 13) dX3_lettersReadBy_12 rfl 0 rfl rfl ?_
      refine ev_iload_n (q := 14) dX3_lettersReadBy_13 rfl 1 rfl rfl ?_
      refine ev_iload_n (q := 15) dX3_lettersReadBy_14 rfl 3 rfl rfl ?_
      refine ev_callVI (q := 18) dX3_lettersReadBy_15 rfl ml_X3_76 mt_X3_hasRead cf_3 rfl ho hc_3 (con_X3_hasRead G _ _ _ ho _) rfl (Nat.le_of_ble_eq_true rfl) (Nat.le_of_ble_eq_true rfl) rfl (Nat.le_of_ble_eq_true rfl) (fun r2 m3 => ?_)
      refine ev_if_eq (t := 27) (q := 21) dX3_lettersReadBy_18 rfl rfl (fun hc4 => ?_) (fun hc4 => ?_)
      · exact X3_lettersReadBy_b27_ok G o ho  (X3_lettersReadBy_b4 o n) ih _ _ _ _
      · refine ev_iload_n (q := 22) dX3_lettersReadBy_21 rfl 2 rfl rfl ?_
        refine ev_iconst (q := 23) (v := 1) dX3_lettersReadBy_22 rfl li_1 ?_
        refine ev_iload_n (q := 24) dX3_lettersReadBy_23 rfl 3 rfl rfl ?_
        refine ev_ishl (q := 25) dX3_lettersReadBy_24 rfl ?_
        refine ev_ior (q := 26) dX3_lettersReadBy_25 rfl ?_
        refine ev_istore_n (q := 27) (lv2 := [(2, .int _), (0, .ref _), (1, .int _), (3, .int _)]) dX3_lettersReadBy_26 rfl rfl (Nat.le_of_ble_eq_true rfl) rfl ?_
        refine ev_sub (lv' := [(0, .ref _), (1, .int _), (2, .int _), (3, .int _)]) [1, 2, 0, 3] rfl ?_
        exact X3_lettersReadBy_b27_ok G o ho  (X3_lettersReadBy_b4 o n) ih _ _ _ _
    · refine ev_iload_n (q := 34) dX3_lettersReadBy_33 rfl 2 rfl rfl ?_
      exact ev_iret dX3_lettersReadBy_34 rfl
set_option maxRecDepth 100000 in
set_option maxHeartbeats 4000000 in
theorem con_X3_lettersReadBy (G : Gt) (o : Nat) (a1 : Int32) (ho : kd o = 3) (mem : Mem) : Con tvI G yX3_lettersReadBy cX3_lettersReadBy 4 (some .int) 2 [.ref (gA G o), .int a1] mem (X3_lettersReadBy o a1 mem) := by
  refine con_of (by decide) (Nat.le_of_ble_eq_true rfl) ?_
  show EvR tvI G cX3_lettersReadBy 4 (some .int) RX3 2 0 [(0, .ref (gA G o)), (1, .int (a1))] [] mem _
  unfold X3_lettersReadBy
  refine ev_iconst (q := 1) (v := 0) dX3_lettersReadBy_0 rfl li_0 ?_
  refine ev_istore_n (q := 2) (lv2 := [(2, .int _), (0, .ref _), (1, .int _)]) dX3_lettersReadBy_1 rfl rfl (Nat.le_of_ble_eq_true rfl) rfl ?_
  refine ev_iconst (q := 3) (v := 0) dX3_lettersReadBy_2 rfl li_0 ?_
  refine ev_istore_n (q := 4) (lv2 := [(3, .int _), (2, .int _), (0, .ref _), (1, .int _)]) dX3_lettersReadBy_3 rfl rfl (Nat.le_of_ble_eq_true rfl) rfl ?_
  refine ev_sub (lv' := [(0, .ref _), (1, .int _), (2, .int _), (3, .int _)]) [2, 3, 1, 0] rfl ?_
  exact X3_lettersReadBy_b4_ok G o ho   fu _ _ _ _
/-! AgingLetters$Rows.isRow(I)Z -/
theorem dX4_isRow_0 : decode cX4_isRow 0 = .ok (.iload_n 1, 1) := by decide +kernel
theorem dX4_isRow_1 : decode cX4_isRow 1 = .ok (.ifCond .lt 13, 3) := by decide +kernel
theorem dX4_isRow_4 : decode cX4_isRow 4 = .ok (.iload_n 1, 1) := by decide +kernel
theorem dX4_isRow_5 : decode cX4_isRow 5 = .ok (.bipush 8, 2) := by decide +kernel
theorem dX4_isRow_7 : decode cX4_isRow 7 = .ok (.if_icmp .ge 7, 3) := by decide +kernel
theorem dX4_isRow_10 : decode cX4_isRow 10 = .ok (.iconst 1, 1) := by decide +kernel
theorem dX4_isRow_11 : decode cX4_isRow 11 = .ok (.goto 4, 3) := by decide +kernel
theorem dX4_isRow_14 : decode cX4_isRow 14 = .ok (.iconst 0, 1) := by decide +kernel
theorem dX4_isRow_15 : decode cX4_isRow 15 = .ok (.ireturn, 1) := by decide +kernel
set_option maxRecDepth 100000 in
set_option maxHeartbeats 4000000 in
theorem con_X4_isRow (G : Gt) (o : Nat) (a1 : Int32) (ho : kd o = 4) (mem : Mem) : Con tvI G yX4_isRow cX4_isRow 2 (some .boolean) 1 [.ref (gA G o), .int a1] mem (X4_isRow o a1 mem) := by
  refine con_of (by decide) (Nat.le_of_ble_eq_true rfl) ?_
  show EvR tvI G cX4_isRow 2 (some .boolean) RX4 1 0 [(0, .ref (gA G o)), (1, .int (a1))] [] mem _
  unfold X4_isRow
  refine ev_iload_n (q := 1) dX4_isRow_0 rfl 1 rfl rfl ?_
  refine ev_if_lt (t := 14) (q := 4) dX4_isRow_1 rfl rfl (fun hc1 => ?_) (fun hc1 => ?_)
  · refine ev_iconst (q := 15) (v := 0) dX4_isRow_14 rfl li_0 ?_
    exact ev_zret dX4_isRow_15 rfl
  · refine ev_iload_n (q := 5) dX4_isRow_4 rfl 1 rfl rfl ?_
    refine ev_bipush (q := 7) (v := 8) dX4_isRow_5 rfl lb_8 ?_
    refine ev_icmp_ge (t := 14) (q := 10) dX4_isRow_7 rfl rfl (fun hc2 => ?_) (fun hc2 => ?_)
    · refine ev_iconst (q := 11) (v := 1) dX4_isRow_10 rfl li_1 ?_
      refine ev_goto (t := 15) dX4_isRow_11 rfl ?_
      exact ev_zret dX4_isRow_15 rfl
    · refine ev_iconst (q := 15) (v := 0) dX4_isRow_14 rfl li_0 ?_
      exact ev_zret dX4_isRow_15 rfl
/-! AgingLetters$Rows.isLane(I)Z -/
theorem dX4_isLane_0 : decode cX4_isLane 0 = .ok (.iload_n 1, 1) := by decide +kernel
theorem dX4_isLane_1 : decode cX4_isLane 1 = .ok (.ifCond .lt 12, 3) := by decide +kernel
theorem dX4_isLane_4 : decode cX4_isLane 4 = .ok (.iload_n 1, 1) := by decide +kernel
theorem dX4_isLane_5 : decode cX4_isLane 5 = .ok (.iconst 2, 1) := by decide +kernel
theorem dX4_isLane_6 : decode cX4_isLane 6 = .ok (.if_icmp .gt 7, 3) := by decide +kernel
theorem dX4_isLane_9 : decode cX4_isLane 9 = .ok (.iconst 1, 1) := by decide +kernel
theorem dX4_isLane_10 : decode cX4_isLane 10 = .ok (.goto 4, 3) := by decide +kernel
theorem dX4_isLane_13 : decode cX4_isLane 13 = .ok (.iconst 0, 1) := by decide +kernel
theorem dX4_isLane_14 : decode cX4_isLane 14 = .ok (.ireturn, 1) := by decide +kernel
set_option maxRecDepth 100000 in
set_option maxHeartbeats 4000000 in
theorem con_X4_isLane (G : Gt) (o : Nat) (a1 : Int32) (ho : kd o = 4) (mem : Mem) : Con tvI G yX4_isLane cX4_isLane 2 (some .boolean) 1 [.ref (gA G o), .int a1] mem (X4_isLane o a1 mem) := by
  refine con_of (by decide) (Nat.le_of_ble_eq_true rfl) ?_
  show EvR tvI G cX4_isLane 2 (some .boolean) RX4 1 0 [(0, .ref (gA G o)), (1, .int (a1))] [] mem _
  unfold X4_isLane
  refine ev_iload_n (q := 1) dX4_isLane_0 rfl 1 rfl rfl ?_
  refine ev_if_lt (t := 13) (q := 4) dX4_isLane_1 rfl rfl (fun hc1 => ?_) (fun hc1 => ?_)
  · refine ev_iconst (q := 14) (v := 0) dX4_isLane_13 rfl li_0 ?_
    exact ev_zret dX4_isLane_14 rfl
  · refine ev_iload_n (q := 5) dX4_isLane_4 rfl 1 rfl rfl ?_
    refine ev_iconst (q := 6) (v := 2) dX4_isLane_5 rfl li_2 ?_
    refine ev_icmp_gt (t := 13) (q := 9) dX4_isLane_6 rfl rfl (fun hc2 => ?_) (fun hc2 => ?_)
    · refine ev_iconst (q := 14) (v := 0) dX4_isLane_13 rfl li_0 ?_
      exact ev_zret dX4_isLane_14 rfl
    · refine ev_iconst (q := 10) (v := 1) dX4_isLane_9 rfl li_1 ?_
      refine ev_goto (t := 14) dX4_isLane_10 rfl ?_
      exact ev_zret dX4_isLane_14 rfl
/-! AgingLetters$Rows.isMissing(I)Z -/
theorem dX4_isMissing_0 : decode cX4_isMissing 0 = .ok (.aload_n 0, 1) := by decide +kernel
theorem dX4_isMissing_1 : decode cX4_isMissing 1 = .ok (.getfield 9, 3) := by decide +kernel
theorem dX4_isMissing_4 : decode cX4_isMissing 4 = .ok (.iload_n 1, 1) := by decide +kernel
theorem dX4_isMissing_5 : decode cX4_isMissing 5 = .ok (.iaload, 1) := by decide +kernel
theorem dX4_isMissing_6 : decode cX4_isMissing 6 = .ok (.iconst (-1), 1) := by decide +kernel
theorem dX4_isMissing_7 : decode cX4_isMissing 7 = .ok (.if_icmp .ne 7, 3) := by decide +kernel
theorem dX4_isMissing_10 : decode cX4_isMissing 10 = .ok (.iconst 1, 1) := by decide +kernel
theorem dX4_isMissing_11 : decode cX4_isMissing 11 = .ok (.goto 4, 3) := by decide +kernel
theorem dX4_isMissing_14 : decode cX4_isMissing 14 = .ok (.iconst 0, 1) := by decide +kernel
theorem dX4_isMissing_15 : decode cX4_isMissing 15 = .ok (.ireturn, 1) := by decide +kernel
set_option maxRecDepth 100000 in
set_option maxHeartbeats 4000000 in
theorem con_X4_isMissing (G : Gt) (o : Nat) (a1 : Int32) (ho : kd o = 4) (mem : Mem) : Con tvI G yX4_isMissing cX4_isMissing 2 (some .boolean) 1 [.ref (gA G o), .int a1] mem (X4_isMissing o a1 mem) := by
  refine con_of (by decide) (Nat.le_of_ble_eq_true rfl) ?_
  show EvR tvI G cX4_isMissing 2 (some .boolean) RX4 1 0 [(0, .ref (gA G o)), (1, .int (a1))] [] mem _
  unfold X4_isMissing
  refine ev_aload_n (q := 1) dX4_isMissing_0 rfl 0 rfl rfl ?_
  refine ev_getR (q := 4) (ci := 4) (j := 0) (T := TX4) dX4_isMissing_1 rfl cf_4 ho hj_4_0 hc_4 gf_X4_9 rfl ?_
  refine ev_iload_n (q := 5) dX4_isMissing_4 rfl 1 rfl rfl ?_
  refine ev_iald (q := 6) dX4_isMissing_5 rfl (kr_4_0 ho) (fun z1 => ?_)
  refine ev_iconst (q := 7) (v := (-1)) dX4_isMissing_6 rfl li_m1 ?_
  refine ev_icmp_ne (t := 14) (q := 10) dX4_isMissing_7 rfl rfl (fun hc2 => ?_) (fun hc2 => ?_)
  · refine ev_iconst (q := 11) (v := 1) dX4_isMissing_10 rfl li_1 ?_
    refine ev_goto (t := 15) dX4_isMissing_11 rfl ?_
    exact ev_zret dX4_isMissing_15 rfl
  · refine ev_iconst (q := 15) (v := 0) dX4_isMissing_14 rfl li_0 ?_
    exact ev_zret dX4_isMissing_15 rfl
/-! AgingLetters$Rows.haveOneLane(II)Z -/
theorem dX4_haveOneLane_0 : decode cX4_haveOneLane 0 = .ok (.aload_n 0, 1) := by decide +kernel
theorem dX4_haveOneLane_1 : decode cX4_haveOneLane 1 = .ok (.getfield 9, 3) := by decide +kernel
theorem dX4_haveOneLane_4 : decode cX4_haveOneLane 4 = .ok (.iload_n 1, 1) := by decide +kernel
theorem dX4_haveOneLane_5 : decode cX4_haveOneLane 5 = .ok (.iaload, 1) := by decide +kernel
theorem dX4_haveOneLane_6 : decode cX4_haveOneLane 6 = .ok (.aload_n 0, 1) := by decide +kernel
theorem dX4_haveOneLane_7 : decode cX4_haveOneLane 7 = .ok (.getfield 9, 3) := by decide +kernel
theorem dX4_haveOneLane_10 : decode cX4_haveOneLane 10 = .ok (.iload_n 2, 1) := by decide +kernel
theorem dX4_haveOneLane_11 : decode cX4_haveOneLane 11 = .ok (.iaload, 1) := by decide +kernel
theorem dX4_haveOneLane_12 : decode cX4_haveOneLane 12 = .ok (.if_icmp .ne 7, 3) := by decide +kernel
theorem dX4_haveOneLane_15 : decode cX4_haveOneLane 15 = .ok (.iconst 1, 1) := by decide +kernel
theorem dX4_haveOneLane_16 : decode cX4_haveOneLane 16 = .ok (.goto 4, 3) := by decide +kernel
theorem dX4_haveOneLane_19 : decode cX4_haveOneLane 19 = .ok (.iconst 0, 1) := by decide +kernel
theorem dX4_haveOneLane_20 : decode cX4_haveOneLane 20 = .ok (.ireturn, 1) := by decide +kernel
set_option maxRecDepth 100000 in
set_option maxHeartbeats 4000000 in
theorem con_X4_haveOneLane (G : Gt) (o : Nat) (a1 : Int32) (a2 : Int32) (ho : kd o = 4) (mem : Mem) : Con tvI G yX4_haveOneLane cX4_haveOneLane 3 (some .boolean) 1 [.ref (gA G o), .int a1, .int a2] mem (X4_haveOneLane o a1 a2 mem) := by
  refine con_of (by decide) (Nat.le_of_ble_eq_true rfl) ?_
  show EvR tvI G cX4_haveOneLane 3 (some .boolean) RX4 1 0 [(0, .ref (gA G o)), (1, .int (a1)), (2, .int (a2))] [] mem _
  unfold X4_haveOneLane
  refine ev_aload_n (q := 1) dX4_haveOneLane_0 rfl 0 rfl rfl ?_
  refine ev_getR (q := 4) (ci := 4) (j := 0) (T := TX4) dX4_haveOneLane_1 rfl cf_4 ho hj_4_0 hc_4 gf_X4_9 rfl ?_
  refine ev_iload_n (q := 5) dX4_haveOneLane_4 rfl 1 rfl rfl ?_
  refine ev_iald (q := 6) dX4_haveOneLane_5 rfl (kr_4_0 ho) (fun z1 => ?_)
  refine ev_aload_n (q := 7) dX4_haveOneLane_6 rfl 0 rfl rfl ?_
  refine ev_getR (q := 10) (ci := 4) (j := 0) (T := TX4) dX4_haveOneLane_7 rfl cf_4 ho hj_4_0 hc_4 gf_X4_9 rfl ?_
  refine ev_iload_n (q := 11) dX4_haveOneLane_10 rfl 2 rfl rfl ?_
  refine ev_iald (q := 12) dX4_haveOneLane_11 rfl (kr_4_0 ho) (fun z2 => ?_)
  refine ev_icmp_ne (t := 19) (q := 15) dX4_haveOneLane_12 rfl rfl (fun hc3 => ?_) (fun hc3 => ?_)
  · refine ev_iconst (q := 16) (v := 1) dX4_haveOneLane_15 rfl li_1 ?_
    refine ev_goto (t := 20) dX4_haveOneLane_16 rfl ?_
    exact ev_zret dX4_haveOneLane_20 rfl
  · refine ev_iconst (q := 20) (v := 0) dX4_haveOneLane_19 rfl li_0 ?_
    exact ev_zret dX4_haveOneLane_20 rfl
/-! AgingLetters$Rows.hasPlaces(III)Z -/
theorem dX4_hasPlaces_0 : decode cX4_hasPlaces 0 = .ok (.iload_n 2, 1) := by decide +kernel
theorem dX4_hasPlaces_1 : decode cX4_hasPlaces 1 = .ok (.ifCond .lt 33, 3) := by decide +kernel
theorem dX4_hasPlaces_4 : decode cX4_hasPlaces 4 = .ok (.iload_n 3, 1) := by decide +kernel
theorem dX4_hasPlaces_5 : decode cX4_hasPlaces 5 = .ok (.ifCond .lt 29, 3) := by decide +kernel
theorem dX4_hasPlaces_8 : decode cX4_hasPlaces 8 = .ok (.iload_n 2, 1) := by decide +kernel
theorem dX4_hasPlaces_9 : decode cX4_hasPlaces 9 = .ok (.aload_n 0, 1) := by decide +kernel
theorem dX4_hasPlaces_10 : decode cX4_hasPlaces 10 = .ok (.getfield 13, 3) := by decide +kernel
theorem dX4_hasPlaces_13 : decode cX4_hasPlaces 13 = .ok (.iload_n 1, 1) := by decide +kernel
theorem dX4_hasPlaces_14 : decode cX4_hasPlaces 14 = .ok (.iaload, 1) := by decide +kernel
theorem dX4_hasPlaces_15 : decode cX4_hasPlaces 15 = .ok (.if_icmp .gt 19, 3) := by decide +kernel
theorem dX4_hasPlaces_18 : decode cX4_hasPlaces 18 = .ok (.iload_n 3, 1) := by decide +kernel
theorem dX4_hasPlaces_19 : decode cX4_hasPlaces 19 = .ok (.aload_n 0, 1) := by decide +kernel
theorem dX4_hasPlaces_20 : decode cX4_hasPlaces 20 = .ok (.getfield 13, 3) := by decide +kernel
theorem dX4_hasPlaces_23 : decode cX4_hasPlaces 23 = .ok (.iload_n 1, 1) := by decide +kernel
theorem dX4_hasPlaces_24 : decode cX4_hasPlaces 24 = .ok (.iaload, 1) := by decide +kernel
theorem dX4_hasPlaces_25 : decode cX4_hasPlaces 25 = .ok (.iload_n 2, 1) := by decide +kernel
theorem dX4_hasPlaces_26 : decode cX4_hasPlaces 26 = .ok (.isub, 1) := by decide +kernel
theorem dX4_hasPlaces_27 : decode cX4_hasPlaces 27 = .ok (.if_icmp .gt 7, 3) := by decide +kernel
theorem dX4_hasPlaces_30 : decode cX4_hasPlaces 30 = .ok (.iconst 1, 1) := by decide +kernel
theorem dX4_hasPlaces_31 : decode cX4_hasPlaces 31 = .ok (.goto 4, 3) := by decide +kernel
theorem dX4_hasPlaces_34 : decode cX4_hasPlaces 34 = .ok (.iconst 0, 1) := by decide +kernel
theorem dX4_hasPlaces_35 : decode cX4_hasPlaces 35 = .ok (.ireturn, 1) := by decide +kernel
set_option maxRecDepth 100000 in
set_option maxHeartbeats 4000000 in
theorem con_X4_hasPlaces (G : Gt) (o : Nat) (a1 : Int32) (a2 : Int32) (a3 : Int32) (ho : kd o = 4) (mem : Mem) : Con tvI G yX4_hasPlaces cX4_hasPlaces 4 (some .boolean) 1 [.ref (gA G o), .int a1, .int a2, .int a3] mem (X4_hasPlaces o a1 a2 a3 mem) := by
  refine con_of (by decide) (Nat.le_of_ble_eq_true rfl) ?_
  show EvR tvI G cX4_hasPlaces 4 (some .boolean) RX4 1 0 [(0, .ref (gA G o)), (1, .int (a1)), (2, .int (a2)), (3, .int (a3))] [] mem _
  unfold X4_hasPlaces
  refine ev_iload_n (q := 1) dX4_hasPlaces_0 rfl 2 rfl rfl ?_
  refine ev_if_lt (t := 34) (q := 4) dX4_hasPlaces_1 rfl rfl (fun hc1 => ?_) (fun hc1 => ?_)
  · refine ev_iconst (q := 35) (v := 0) dX4_hasPlaces_34 rfl li_0 ?_
    exact ev_zret dX4_hasPlaces_35 rfl
  · refine ev_iload_n (q := 5) dX4_hasPlaces_4 rfl 3 rfl rfl ?_
    refine ev_if_lt (t := 34) (q := 8) dX4_hasPlaces_5 rfl rfl (fun hc2 => ?_) (fun hc2 => ?_)
    · refine ev_iconst (q := 35) (v := 0) dX4_hasPlaces_34 rfl li_0 ?_
      exact ev_zret dX4_hasPlaces_35 rfl
    · refine ev_iload_n (q := 9) dX4_hasPlaces_8 rfl 2 rfl rfl ?_
      refine ev_aload_n (q := 10) dX4_hasPlaces_9 rfl 0 rfl rfl ?_
      refine ev_getR (q := 13) (ci := 4) (j := 1) (T := TX4) dX4_hasPlaces_10 rfl cf_4 ho hj_4_1 hc_4 gf_X4_13 rfl ?_
      refine ev_iload_n (q := 14) dX4_hasPlaces_13 rfl 1 rfl rfl ?_
      refine ev_iald (q := 15) dX4_hasPlaces_14 rfl (kr_4_1 ho) (fun z3 => ?_)
      refine ev_icmp_gt (t := 34) (q := 18) dX4_hasPlaces_15 rfl rfl (fun hc4 => ?_) (fun hc4 => ?_)
      · refine ev_iconst (q := 35) (v := 0) dX4_hasPlaces_34 rfl li_0 ?_
        exact ev_zret dX4_hasPlaces_35 rfl
      · refine ev_iload_n (q := 19) dX4_hasPlaces_18 rfl 3 rfl rfl ?_
        refine ev_aload_n (q := 20) dX4_hasPlaces_19 rfl 0 rfl rfl ?_
        refine ev_getR (q := 23) (ci := 4) (j := 1) (T := TX4) dX4_hasPlaces_20 rfl cf_4 ho hj_4_1 hc_4 gf_X4_13 rfl ?_
        refine ev_iload_n (q := 24) dX4_hasPlaces_23 rfl 1 rfl rfl ?_
        refine ev_iald (q := 25) dX4_hasPlaces_24 rfl (kr_4_1 ho) (fun z5 => ?_)
        refine ev_iload_n (q := 26) dX4_hasPlaces_25 rfl 2 rfl rfl ?_
        refine ev_isub (q := 27) dX4_hasPlaces_26 rfl ?_
        refine ev_icmp_gt (t := 34) (q := 30) dX4_hasPlaces_27 rfl rfl (fun hc6 => ?_) (fun hc6 => ?_)
        · refine ev_iconst (q := 35) (v := 0) dX4_hasPlaces_34 rfl li_0 ?_
          exact ev_zret dX4_hasPlaces_35 rfl
        · refine ev_iconst (q := 31) (v := 1) dX4_hasPlaces_30 rfl li_1 ?_
          refine ev_goto (t := 35) dX4_hasPlaces_31 rfl ?_
          exact ev_zret dX4_hasPlaces_35 rfl
/-! AgingLetters$Rows.make(III)V -/
theorem dX4_make_0 : decode cX4_make 0 = .ok (.aload_n 0, 1) := by decide +kernel
theorem dX4_make_1 : decode cX4_make 1 = .ok (.getfield 9, 3) := by decide +kernel
theorem dX4_make_4 : decode cX4_make 4 = .ok (.iload_n 1, 1) := by decide +kernel
theorem dX4_make_5 : decode cX4_make 5 = .ok (.iload_n 2, 1) := by decide +kernel
theorem dX4_make_6 : decode cX4_make 6 = .ok (.iastore, 1) := by decide +kernel
theorem dX4_make_7 : decode cX4_make 7 = .ok (.aload_n 0, 1) := by decide +kernel
theorem dX4_make_8 : decode cX4_make 8 = .ok (.getfield 13, 3) := by decide +kernel
theorem dX4_make_11 : decode cX4_make 11 = .ok (.iload_n 1, 1) := by decide +kernel
theorem dX4_make_12 : decode cX4_make 12 = .ok (.iload_n 3, 1) := by decide +kernel
theorem dX4_make_13 : decode cX4_make 13 = .ok (.iastore, 1) := by decide +kernel
theorem dX4_make_14 : decode cX4_make 14 = .ok (.iconst 0, 1) := by decide +kernel
theorem dX4_make_15 : decode cX4_make 15 = .ok (.istore 4, 2) := by decide +kernel
theorem dX4_make_17 : decode cX4_make 17 = .ok (.iload 4, 2) := by decide +kernel
theorem dX4_make_19 : decode cX4_make 19 = .ok (.iload_n 3, 1) := by decide +kernel
theorem dX4_make_20 : decode cX4_make 20 = .ok (.if_icmp .ge 22, 3) := by decide +kernel
theorem dX4_make_23 : decode cX4_make 23 = .ok (.aload_n 0, 1) := by decide +kernel
theorem dX4_make_24 : decode cX4_make 24 = .ok (.getfield 16, 3) := by decide +kernel
theorem dX4_make_27 : decode cX4_make 27 = .ok (.iload_n 1, 1) := by decide +kernel
theorem dX4_make_28 : decode cX4_make 28 = .ok (.bipush 40, 2) := by decide +kernel
theorem dX4_make_30 : decode cX4_make 30 = .ok (.imul, 1) := by decide +kernel
theorem dX4_make_31 : decode cX4_make 31 = .ok (.iload 4, 2) := by decide +kernel
theorem dX4_make_33 : decode cX4_make 33 = .ok (.iadd, 1) := by decide +kernel
theorem dX4_make_34 : decode cX4_make 34 = .ok (.iconst 0, 1) := by decide +kernel
theorem dX4_make_35 : decode cX4_make 35 = .ok (.iastore, 1) := by decide +kernel
theorem dX4_make_36 : decode cX4_make 36 = .ok (.iinc 4 1, 3) := by decide +kernel
theorem dX4_make_39 : decode cX4_make 39 = .ok (.goto (-22), 3) := by decide +kernel
theorem dX4_make_42 : decode cX4_make 42 = .ok (.return_, 1) := by decide +kernel
set_option maxRecDepth 100000 in
set_option maxHeartbeats 4000000 in
theorem X4_make_b17_ok (G : Gt) (o : Nat) (ho : kd o = 4)    : ∀ (n : Nat) (x1 : Int32) (x3 : Int32) (x4 : Int32) (mem : Mem), EvR tvU G cX4_make 5 none RX4 1 17 [(0, .ref (gA G o)), (1, .int (x1)), (3, .int (x3)), (4, .int (x4))] [] mem (X4_make_b17 o n x1 x3 x4 mem) := by
  intro n
  induction n with
  | zero => intros; exact ev_none
  | succ n ih =>
    intro x1 x3 x4 mem
    rw [X4_make_b17]
    refine ev_iload (q := 19) dX4_make_17 3 rfl rfl ?_
    refine ev_iload_n (q := 20) dX4_make_19 rfl 2 rfl rfl ?_
    refine ev_icmp_ge (t := 42) (q := 23) dX4_make_20 rfl rfl (fun hc3 => ?_) (fun hc3 => ?_)
    · refine ev_aload_n (q := 24) dX4_make_23 rfl 0 rfl rfl ?_
      refine ev_getR (q := 27) (ci := 4) (j := 2) (T := TX4) dX4_make_24 rfl cf_4 ho hj_4_2 hc_4 gf_X4_16 rfl ?_
      refine ev_iload_n (q := 28) dX4_make_27 rfl 1 rfl rfl ?_
      refine ev_bipush (q := 30) (v := 40) dX4_make_28 rfl lb_40 ?_
      refine ev_imul (q := 31) dX4_make_30 rfl ?_
      refine ev_iload (q := 33) dX4_make_31 3 rfl rfl ?_
      refine ev_iadd (q := 34) dX4_make_33 rfl ?_
      refine ev_iconst (q := 35) (v := 0) dX4_make_34 rfl li_0 ?_
      refine ev_iast (q := 36) dX4_make_35 rfl (kr_4_2 ho) (fun m4 => ?_)
      refine ev_iinc (q := 39) (lv2 := [(4, .int _), (0, .ref _), (1, .int _), (3, .int _)]) (v := x4 + 1) dX4_make_36 3 rfl rfl (congrArg (HAdd.hAdd _) li_1) (Nat.le_of_ble_eq_true rfl) rfl ?_
      refine ev_goto (t := 17) dX4_make_39 rfl ?_
      refine ev_sub (lv' := [(0, .ref _), (1, .int _), (3, .int _), (4, .int _)]) [1, 2, 3, 0] rfl ?_
      exact ih _ _ _ _
    · exact ev_vret dX4_make_42 rfl
set_option maxRecDepth 100000 in
set_option maxHeartbeats 4000000 in
theorem con_X4_make (G : Gt) (o : Nat) (a1 : Int32) (a2 : Int32) (a3 : Int32) (ho : kd o = 4) (mem : Mem) : Con tvU G yX4_make cX4_make 5 none 1 [.ref (gA G o), .int a1, .int a2, .int a3] mem (X4_make o a1 a2 a3 mem) := by
  refine con_of (by decide) (Nat.le_of_ble_eq_true rfl) ?_
  show EvR tvU G cX4_make 5 none RX4 1 0 [(0, .ref (gA G o)), (1, .int (a1)), (2, .int (a2)), (3, .int (a3))] [] mem _
  unfold X4_make
  refine ev_aload_n (q := 1) dX4_make_0 rfl 0 rfl rfl ?_
  refine ev_getR (q := 4) (ci := 4) (j := 0) (T := TX4) dX4_make_1 rfl cf_4 ho hj_4_0 hc_4 gf_X4_9 rfl ?_
  refine ev_iload_n (q := 5) dX4_make_4 rfl 1 rfl rfl ?_
  refine ev_iload_n (q := 6) dX4_make_5 rfl 2 rfl rfl ?_
  refine ev_iast (q := 7) dX4_make_6 rfl (kr_4_0 ho) (fun m1 => ?_)
  refine ev_aload_n (q := 8) dX4_make_7 rfl 0 rfl rfl ?_
  refine ev_getR (q := 11) (ci := 4) (j := 1) (T := TX4) dX4_make_8 rfl cf_4 ho hj_4_1 hc_4 gf_X4_13 rfl ?_
  refine ev_iload_n (q := 12) dX4_make_11 rfl 1 rfl rfl ?_
  refine ev_iload_n (q := 13) dX4_make_12 rfl 3 rfl rfl ?_
  refine ev_iast (q := 14) dX4_make_13 rfl (kr_4_1 ho) (fun m2 => ?_)
  refine ev_iconst (q := 15) (v := 0) dX4_make_14 rfl li_0 ?_
  refine ev_istore (q := 17) (lv2 := [(4, .int _), (0, .ref _), (1, .int _), (2, .int _), (3, .int _)]) dX4_make_15 rfl (Nat.le_of_ble_eq_true rfl) rfl ?_
  refine ev_sub (lv' := [(0, .ref _), (1, .int _), (3, .int _), (4, .int _)]) [1, 2, 4, 0] rfl ?_
  exact X4_make_b17_ok G o ho   fu _ _ _ _
/-! AgingLetters$Rows.put(III)I -/
theorem dX4_put_0 : decode cX4_put 0 = .ok (.iload_n 3, 1) := by decide +kernel
theorem dX4_put_1 : decode cX4_put 1 = .ok (.istore 4, 2) := by decide +kernel
theorem dX4_put_3 : decode cX4_put 3 = .ok (.aload_n 0, 1) := by decide +kernel
theorem dX4_put_4 : decode cX4_put 4 = .ok (.getfield 9, 3) := by decide +kernel
theorem dX4_put_7 : decode cX4_put 7 = .ok (.iload_n 1, 1) := by decide +kernel
theorem dX4_put_8 : decode cX4_put 8 = .ok (.iaload, 1) := by decide +kernel
theorem dX4_put_9 : decode cX4_put 9 = .ok (.ifCond .ne 7, 3) := by decide +kernel
theorem dX4_put_12 : decode cX4_put 12 = .ok (.iload_n 3, 1) := by decide +kernel
theorem dX4_put_13 : decode cX4_put 13 = .ok (.i2b, 1) := by decide +kernel
theorem dX4_put_14 : decode cX4_put 14 = .ok (.istore 4, 2) := by decide +kernel
theorem dX4_put_16 : decode cX4_put 16 = .ok (.aload_n 0, 1) := by decide +kernel
theorem dX4_put_17 : decode cX4_put 17 = .ok (.getfield 9, 3) := by decide +kernel
theorem dX4_put_20 : decode cX4_put 20 = .ok (.iload_n 1, 1) := by decide +kernel
theorem dX4_put_21 : decode cX4_put 21 = .ok (.iaload, 1) := by decide +kernel
theorem dX4_put_22 : decode cX4_put 22 = .ok (.iconst 1, 1) := by decide +kernel
theorem dX4_put_23 : decode cX4_put 23 = .ok (.if_icmp .ne 7, 3) := by decide +kernel
theorem dX4_put_26 : decode cX4_put 26 = .ok (.iload_n 3, 1) := by decide +kernel
theorem dX4_put_27 : decode cX4_put 27 = .ok (.i2s, 1) := by decide +kernel
theorem dX4_put_28 : decode cX4_put 28 = .ok (.istore 4, 2) := by decide +kernel
theorem dX4_put_30 : decode cX4_put 30 = .ok (.aload_n 0, 1) := by decide +kernel
theorem dX4_put_31 : decode cX4_put 31 = .ok (.getfield 16, 3) := by decide +kernel
theorem dX4_put_34 : decode cX4_put 34 = .ok (.iload_n 1, 1) := by decide +kernel
theorem dX4_put_35 : decode cX4_put 35 = .ok (.bipush 40, 2) := by decide +kernel
theorem dX4_put_37 : decode cX4_put 37 = .ok (.imul, 1) := by decide +kernel
theorem dX4_put_38 : decode cX4_put 38 = .ok (.iload_n 2, 1) := by decide +kernel
theorem dX4_put_39 : decode cX4_put 39 = .ok (.iadd, 1) := by decide +kernel
theorem dX4_put_40 : decode cX4_put 40 = .ok (.iload 4, 2) := by decide +kernel
theorem dX4_put_42 : decode cX4_put 42 = .ok (.iastore, 1) := by decide +kernel
theorem dX4_put_43 : decode cX4_put 43 = .ok (.iload 4, 2) := by decide +kernel
theorem dX4_put_45 : decode cX4_put 45 = .ok (.ireturn, 1) := by decide +kernel
set_option maxRecDepth 100000 in
set_option maxHeartbeats 4000000 in
theorem X4_put_b30_ok (G : Gt) (o : Nat) (ho : kd o = 4)    (x1 : Int32) (x2 : Int32) (x4 : Int32) (mem : Mem) : EvR tvI G cX4_put 5 (some .int) RX4 1 30 [(0, .ref (gA G o)), (1, .int (x1)), (2, .int (x2)), (4, .int (x4))] [] mem (X4_put_b30 o x1 x2 x4 mem) := by
  unfold X4_put_b30
  refine ev_aload_n (q := 31) dX4_put_30 rfl 0 rfl rfl ?_
  refine ev_getR (q := 34) (ci := 4) (j := 2) (T := TX4) dX4_put_31 rfl cf_4 ho hj_4_2 hc_4 gf_X4_16 rfl ?_
  refine ev_iload_n (q := 35) dX4_put_34 rfl 1 rfl rfl ?_
  refine ev_bipush (q := 37) (v := 40) dX4_put_35 rfl lb_40 ?_
  refine ev_imul (q := 38) dX4_put_37 rfl ?_
  refine ev_iload_n (q := 39) dX4_put_38 rfl 2 rfl rfl ?_
  refine ev_iadd (q := 40) dX4_put_39 rfl ?_
  refine ev_iload (q := 42) dX4_put_40 3 rfl rfl ?_
  refine ev_iast (q := 43) dX4_put_42 rfl (kr_4_2 ho) (fun m5 => ?_)
  refine ev_iload (q := 45) dX4_put_43 3 rfl rfl ?_
  exact ev_iret dX4_put_45 rfl
set_option maxRecDepth 100000 in
set_option maxHeartbeats 4000000 in
theorem X4_put_b16_ok (G : Gt) (o : Nat) (ho : kd o = 4)    (x1 : Int32) (x2 : Int32) (x3 : Int32) (x4 : Int32) (mem : Mem) : EvR tvI G cX4_put 5 (some .int) RX4 1 16 [(0, .ref (gA G o)), (1, .int (x1)), (2, .int (x2)), (3, .int (x3)), (4, .int (x4))] [] mem (X4_put_b16 o x1 x2 x3 x4 mem) := by
  unfold X4_put_b16
  refine ev_aload_n (q := 17) dX4_put_16 rfl 0 rfl rfl ?_
  refine ev_getR (q := 20) (ci := 4) (j := 0) (T := TX4) dX4_put_17 rfl cf_4 ho hj_4_0 hc_4 gf_X4_9 rfl ?_
  refine ev_iload_n (q := 21) dX4_put_20 rfl 1 rfl rfl ?_
  refine ev_iald (q := 22) dX4_put_21 rfl (kr_4_0 ho) (fun z3 => ?_)
  refine ev_iconst (q := 23) (v := 1) dX4_put_22 rfl li_1 ?_
  refine ev_icmp_ne (t := 30) (q := 26) dX4_put_23 rfl rfl (fun hc4 => ?_) (fun hc4 => ?_)
  · refine ev_iload_n (q := 27) dX4_put_26 rfl 3 rfl rfl ?_
    refine ev_i2s (q := 28) dX4_put_27 rfl ?_
    refine ev_istore (q := 30) (lv2 := [(4, .int _), (0, .ref _), (1, .int _), (2, .int _), (3, .int _)]) dX4_put_28 rfl (Nat.le_of_ble_eq_true rfl) rfl ?_
    refine ev_sub (lv' := [(0, .ref _), (1, .int _), (2, .int _), (4, .int _)]) [1, 2, 3, 0] rfl ?_
    exact X4_put_b30_ok G o ho   _ _ _ _
  · refine ev_sub (lv' := [(0, .ref _), (1, .int _), (2, .int _), (4, .int _)]) [0, 1, 2, 4] rfl ?_
    exact X4_put_b30_ok G o ho   _ _ _ _
set_option maxRecDepth 100000 in
set_option maxHeartbeats 4000000 in
theorem con_X4_put (G : Gt) (o : Nat) (a1 : Int32) (a2 : Int32) (a3 : Int32) (ho : kd o = 4) (mem : Mem) : Con tvI G yX4_put cX4_put 5 (some .int) 1 [.ref (gA G o), .int a1, .int a2, .int a3] mem (X4_put o a1 a2 a3 mem) := by
  refine con_of (by decide) (Nat.le_of_ble_eq_true rfl) ?_
  show EvR tvI G cX4_put 5 (some .int) RX4 1 0 [(0, .ref (gA G o)), (1, .int (a1)), (2, .int (a2)), (3, .int (a3))] [] mem _
  unfold X4_put
  refine ev_iload_n (q := 1) dX4_put_0 rfl 3 rfl rfl ?_
  refine ev_istore (q := 3) (lv2 := [(4, .int _), (0, .ref _), (1, .int _), (2, .int _), (3, .int _)]) dX4_put_1 rfl (Nat.le_of_ble_eq_true rfl) rfl ?_
  refine ev_aload_n (q := 4) dX4_put_3 rfl 1 rfl rfl ?_
  refine ev_getR (q := 7) (ci := 4) (j := 0) (T := TX4) dX4_put_4 rfl cf_4 ho hj_4_0 hc_4 gf_X4_9 rfl ?_
  refine ev_iload_n (q := 8) dX4_put_7 rfl 2 rfl rfl ?_
  refine ev_iald (q := 9) dX4_put_8 rfl (kr_4_0 ho) (fun z1 => ?_)
  refine ev_if_ne (t := 16) (q := 12) dX4_put_9 rfl rfl (fun hc2 => ?_) (fun hc2 => ?_)
  · refine ev_iload_n (q := 13) dX4_put_12 rfl 4 rfl rfl ?_
    refine ev_i2b (q := 14) dX4_put_13 rfl ?_
    refine ev_istore (q := 16) (lv2 := [(4, .int _), (0, .ref _), (1, .int _), (2, .int _), (3, .int _)]) dX4_put_14 rfl (Nat.le_of_ble_eq_true rfl) rfl ?_
    refine ev_sub (lv' := [(0, .ref _), (1, .int _), (2, .int _), (3, .int _), (4, .int _)]) [1, 2, 3, 4, 0] rfl ?_
    exact X4_put_b16_ok G o ho   _ _ _ _ _
  · refine ev_sub (lv' := [(0, .ref _), (1, .int _), (2, .int _), (3, .int _), (4, .int _)]) [1, 2, 3, 4, 0] rfl ?_
    exact X4_put_b16_ok G o ho   _ _ _ _ _
/-! AgingLetters$Rows.item(II)I -/
theorem dX4_item_0 : decode cX4_item 0 = .ok (.aload_n 0, 1) := by decide +kernel
theorem dX4_item_1 : decode cX4_item 1 = .ok (.getfield 16, 3) := by decide +kernel
theorem dX4_item_4 : decode cX4_item 4 = .ok (.iload_n 1, 1) := by decide +kernel
theorem dX4_item_5 : decode cX4_item 5 = .ok (.bipush 40, 2) := by decide +kernel
theorem dX4_item_7 : decode cX4_item 7 = .ok (.imul, 1) := by decide +kernel
theorem dX4_item_8 : decode cX4_item 8 = .ok (.iload_n 2, 1) := by decide +kernel
theorem dX4_item_9 : decode cX4_item 9 = .ok (.iadd, 1) := by decide +kernel
theorem dX4_item_10 : decode cX4_item 10 = .ok (.iaload, 1) := by decide +kernel
theorem dX4_item_11 : decode cX4_item 11 = .ok (.ireturn, 1) := by decide +kernel
set_option maxRecDepth 100000 in
set_option maxHeartbeats 4000000 in
theorem con_X4_item (G : Gt) (o : Nat) (a1 : Int32) (a2 : Int32) (ho : kd o = 4) (mem : Mem) : Con tvI G yX4_item cX4_item 3 (some .int) 1 [.ref (gA G o), .int a1, .int a2] mem (X4_item o a1 a2 mem) := by
  refine con_of (by decide) (Nat.le_of_ble_eq_true rfl) ?_
  show EvR tvI G cX4_item 3 (some .int) RX4 1 0 [(0, .ref (gA G o)), (1, .int (a1)), (2, .int (a2))] [] mem _
  unfold X4_item
  refine ev_aload_n (q := 1) dX4_item_0 rfl 0 rfl rfl ?_
  refine ev_getR (q := 4) (ci := 4) (j := 2) (T := TX4) dX4_item_1 rfl cf_4 ho hj_4_2 hc_4 gf_X4_16 rfl ?_
  refine ev_iload_n (q := 5) dX4_item_4 rfl 1 rfl rfl ?_
  refine ev_bipush (q := 7) (v := 40) dX4_item_5 rfl lb_40 ?_
  refine ev_imul (q := 8) dX4_item_7 rfl ?_
  refine ev_iload_n (q := 9) dX4_item_8 rfl 2 rfl rfl ?_
  refine ev_iadd (q := 10) dX4_item_9 rfl ?_
  refine ev_iald (q := 11) dX4_item_10 rfl (kr_4_2 ho) (fun z1 => ?_)
  exact ev_iret dX4_item_11 rfl
/-! AgingLetters$Rows.move(IIIII)V -/
theorem dX4_move_0 : decode cX4_move 0 = .ok (.aload_n 0, 1) := by decide +kernel
theorem dX4_move_1 : decode cX4_move 1 = .ok (.getfield 16, 3) := by decide +kernel
theorem dX4_move_4 : decode cX4_move 4 = .ok (.iload_n 1, 1) := by decide +kernel
theorem dX4_move_5 : decode cX4_move 5 = .ok (.bipush 40, 2) := by decide +kernel
theorem dX4_move_7 : decode cX4_move 7 = .ok (.imul, 1) := by decide +kernel
theorem dX4_move_8 : decode cX4_move 8 = .ok (.iload_n 2, 1) := by decide +kernel
theorem dX4_move_9 : decode cX4_move 9 = .ok (.iadd, 1) := by decide +kernel
theorem dX4_move_10 : decode cX4_move 10 = .ok (.aload_n 0, 1) := by decide +kernel
theorem dX4_move_11 : decode cX4_move 11 = .ok (.getfield 16, 3) := by decide +kernel
theorem dX4_move_14 : decode cX4_move 14 = .ok (.iload_n 3, 1) := by decide +kernel
theorem dX4_move_15 : decode cX4_move 15 = .ok (.bipush 40, 2) := by decide +kernel
theorem dX4_move_17 : decode cX4_move 17 = .ok (.imul, 1) := by decide +kernel
theorem dX4_move_18 : decode cX4_move 18 = .ok (.iload 4, 2) := by decide +kernel
theorem dX4_move_20 : decode cX4_move 20 = .ok (.iadd, 1) := by decide +kernel
theorem dX4_move_21 : decode cX4_move 21 = .ok (.iload 5, 2) := by decide +kernel
theorem dX4_move_23 : decode cX4_move 23 = .ok (.invokestatic 25, 3) := by decide +kernel
theorem dX4_move_26 : decode cX4_move 26 = .ok (.return_, 1) := by decide +kernel
set_option maxRecDepth 100000 in
set_option maxHeartbeats 4000000 in
theorem con_X4_move (G : Gt) (o : Nat) (a1 : Int32) (a2 : Int32) (a3 : Int32) (a4 : Int32) (a5 : Int32) (ho : kd o = 4) (mem : Mem) : Con tvU G yX4_move cX4_move 6 none 2 [.ref (gA G o), .int a1, .int a2, .int a3, .int a4, .int a5] mem (X4_move o a1 a2 a3 a4 a5 mem) := by
  refine con_of (by decide) (Nat.le_of_ble_eq_true rfl) ?_
  show EvR tvU G cX4_move 6 none RX4 2 0 [(0, .ref (gA G o)), (1, .int (a1)), (2, .int (a2)), (3, .int (a3)), (4, .int (a4)), (5, .int (a5))] [] mem _
  unfold X4_move
  refine ev_aload_n (q := 1) dX4_move_0 rfl 0 rfl rfl ?_
  refine ev_getR (q := 4) (ci := 4) (j := 2) (T := TX4) dX4_move_1 rfl cf_4 ho hj_4_2 hc_4 gf_X4_16 rfl ?_
  refine ev_iload_n (q := 5) dX4_move_4 rfl 1 rfl rfl ?_
  refine ev_bipush (q := 7) (v := 40) dX4_move_5 rfl lb_40 ?_
  refine ev_imul (q := 8) dX4_move_7 rfl ?_
  refine ev_iload_n (q := 9) dX4_move_8 rfl 2 rfl rfl ?_
  refine ev_iadd (q := 10) dX4_move_9 rfl ?_
  refine ev_aload_n (q := 11) dX4_move_10 rfl 0 rfl rfl ?_
  refine ev_getR (q := 14) (ci := 4) (j := 2) (T := TX4) dX4_move_11 rfl cf_4 ho hj_4_2 hc_4 gf_X4_16 rfl ?_
  refine ev_iload_n (q := 15) dX4_move_14 rfl 3 rfl rfl ?_
  refine ev_bipush (q := 17) (v := 40) dX4_move_15 rfl lb_40 ?_
  refine ev_imul (q := 18) dX4_move_17 rfl ?_
  refine ev_iload (q := 20) dX4_move_18 4 rfl rfl ?_
  refine ev_iadd (q := 21) dX4_move_20 rfl ?_
  refine ev_iload (q := 23) dX4_move_21 5 rfl rfl ?_
  refine ev_copy (q := 26) dX4_move_23 rfl ml_X4_25 ac_n ac_s ac_i (kr_4_2 ho) (kr_4_2 ho) (Nat.le_of_ble_eq_true rfl) (Nat.le_of_ble_eq_true rfl) (fun m1 => ?_)
  exact ev_vret dX4_move_26 rfl
/-! AgingLetters$Rows.remove(I)I -/
theorem dX4_remove_0 : decode cX4_remove 0 = .ok (.aload_n 0, 1) := by decide +kernel
theorem dX4_remove_1 : decode cX4_remove 1 = .ok (.getfield 9, 3) := by decide +kernel
theorem dX4_remove_4 : decode cX4_remove 4 = .ok (.iload_n 1, 1) := by decide +kernel
theorem dX4_remove_5 : decode cX4_remove 5 = .ok (.iconst (-1), 1) := by decide +kernel
theorem dX4_remove_6 : decode cX4_remove 6 = .ok (.iastore, 1) := by decide +kernel
theorem dX4_remove_7 : decode cX4_remove 7 = .ok (.aload_n 0, 1) := by decide +kernel
theorem dX4_remove_8 : decode cX4_remove 8 = .ok (.getfield 13, 3) := by decide +kernel
theorem dX4_remove_11 : decode cX4_remove 11 = .ok (.iload_n 1, 1) := by decide +kernel
theorem dX4_remove_12 : decode cX4_remove 12 = .ok (.iaload, 1) := by decide +kernel
theorem dX4_remove_13 : decode cX4_remove 13 = .ok (.ireturn, 1) := by decide +kernel
set_option maxRecDepth 100000 in
set_option maxHeartbeats 4000000 in
theorem con_X4_remove (G : Gt) (o : Nat) (a1 : Int32) (ho : kd o = 4) (mem : Mem) : Con tvI G yX4_remove cX4_remove 2 (some .int) 1 [.ref (gA G o), .int a1] mem (X4_remove o a1 mem) := by
  refine con_of (by decide) (Nat.le_of_ble_eq_true rfl) ?_
  show EvR tvI G cX4_remove 2 (some .int) RX4 1 0 [(0, .ref (gA G o)), (1, .int (a1))] [] mem _
  unfold X4_remove
  refine ev_aload_n (q := 1) dX4_remove_0 rfl 0 rfl rfl ?_
  refine ev_getR (q := 4) (ci := 4) (j := 0) (T := TX4) dX4_remove_1 rfl cf_4 ho hj_4_0 hc_4 gf_X4_9 rfl ?_
  refine ev_iload_n (q := 5) dX4_remove_4 rfl 1 rfl rfl ?_
  refine ev_iconst (q := 6) (v := (-1)) dX4_remove_5 rfl li_m1 ?_
  refine ev_iast (q := 7) dX4_remove_6 rfl (kr_4_0 ho) (fun m1 => ?_)
  refine ev_aload_n (q := 8) dX4_remove_7 rfl 0 rfl rfl ?_
  refine ev_getR (q := 11) (ci := 4) (j := 1) (T := TX4) dX4_remove_8 rfl cf_4 ho hj_4_1 hc_4 gf_X4_13 rfl ?_
  refine ev_iload_n (q := 12) dX4_remove_11 rfl 1 rfl rfl ?_
  refine ev_iald (q := 13) dX4_remove_12 rfl (kr_4_1 ho) (fun z2 => ?_)
  exact ev_iret dX4_remove_13 rfl
/-! AgingLetters$Rows.present()I -/
theorem dX4_present_0 : decode cX4_present 0 = .ok (.iconst 0, 1) := by decide +kernel
theorem dX4_present_1 : decode cX4_present 1 = .ok (.istore_n 1, 1) := by decide +kernel
theorem dX4_present_2 : decode cX4_present 2 = .ok (.iconst 0, 1) := by decide +kernel
theorem dX4_present_3 : decode cX4_present 3 = .ok (.istore_n 2, 1) := by decide +kernel
theorem dX4_present_4 : decode cX4_present 4 = .ok (.iload_n 2, 1) := by decide +kernel
theorem dX4_present_5 : decode cX4_present 5 = .ok (.bipush 8, 2) := by decide +kernel
theorem dX4_present_7 : decode cX4_present 7 = .ok (.if_icmp .ge 20, 3) := by decide +kernel
theorem dX4_present_10 : decode cX4_present 10 = .ok (.aload_n 0, 1) := by decide +kernel
theorem dX4_present_11 : decode cX4_present 11 = .ok (.iload_n 2, 1) := by decide +kernel
theorem dX4_present_12 : decode cX4_present 12 = .ok (.invokevirtual 31, 3) := by decide +kernel
theorem dX4_present_15 : decode cX4_present 15 = .ok (.ifCond .ne 6, 3) := by decide +kernel
theorem dX4_present_18 : decode cX4_present 18 = .ok (.iinc 1 1, 3) := by decide +kernel
theorem dX4_present_21 : decode cX4_present 21 = .ok (.iinc 2 1, 3) := by decide +kernel
theorem dX4_present_24 : decode cX4_present 24 = .ok (.goto (-20), 3) := by decide +kernel
theorem dX4_present_27 : decode cX4_present 27 = .ok (.iload_n 1, 1) := by decide +kernel
theorem dX4_present_28 : decode cX4_present 28 = .ok (.ireturn, 1) := by decide +kernel
set_option maxRecDepth 100000 in
set_option maxHeartbeats 4000000 in
theorem X4_present_b21_ok (G : Gt) (o : Nat) (ho : kd o = 4)   (k4 : Int32 → Int32 → Mem → Option (Int32 × Mem)) (hk4 : ∀ (x1 : Int32) (x2 : Int32) (mem : Mem), EvR tvI G cX4_present 3 (some .int) RX4 2 4 [(0, .ref (gA G o)), (1, .int (x1)), (2, .int (x2))] [] mem (k4 x1 x2 mem)) (x1 : Int32) (x2 : Int32) (mem : Mem) : EvR tvI G cX4_present 3 (some .int) RX4 2 21 [(0, .ref (gA G o)), (1, .int (x1)), (2, .int (x2))] [] mem (X4_present_b21 o k4 x1 x2 mem) := by
  unfold X4_present_b21
  refine ev_iinc (q := 24) (lv2 := [(2, .int _), (0, .ref _), (1, .int _)]) (v := x2 + 1) dX4_present_21 2 rfl rfl (congrArg (HAdd.hAdd _) li_1) (Nat.le_of_ble_eq_true rfl) rfl ?_
  refine ev_goto (t := 4) dX4_present_24 rfl ?_
  refine ev_sub (lv' := [(0, .ref _), (1, .int _), (2, .int _)]) [1, 2, 0] rfl ?_
  exact hk4 _ _ _
set_option maxRecDepth 100000 in
set_option maxHeartbeats 4000000 in
theorem X4_present_b4_ok (G : Gt) (o : Nat) (ho : kd o = 4)    : ∀ (n : Nat) (x1 : Int32) (x2 : Int32) (mem : Mem), EvR tvI G cX4_present 3 (some .int) RX4 2 4 [(0, .ref (gA G o)), (1, .int (x1)), (2, .int (x2))] [] mem (X4_present_b4 o n x1 x2 mem) := by
  intro n
  induction n with
  | zero => intros; exact ev_none
  | succ n ih =>
    intro x1 x2 mem
    rw [X4_present_b4]
    refine ev_iload_n (q := 5) dX4_present_4 rfl 2 rfl rfl ?_
    refine ev_bipush (q := 7) (v := 8) dX4_present_5 rfl lb_8 ?_
    refine ev_icmp_ge (t := 27) (q := 10) dX4_present_7 rfl rfl (fun hc1 => ?_) (fun hc1 => ?_)
    · refine ev_aload_n (q := 11) dX4_present_10 rfl 0 rfl rfl ?_
      refine ev_iload_n (q := 12) dX4_present_11 rfl 2 rfl rfl ?_
      refine ev_callVI (q := 15) dX4_present_12 rfl ml_X4_31 mt_X4_isMissing cf_4 rfl ho hc_4 (con_X4_isMissing G _ _ ho _) rfl (Nat.le_of_ble_eq_true rfl) (Nat.le_of_ble_eq_true rfl) rfl (Nat.le_of_ble_eq_true rfl) (fun r2 m3 => ?_)
      refine ev_if_ne (t := 21) (q := 18) dX4_present_15 rfl rfl (fun hc4 => ?_) (fun hc4 => ?_)
      · refine ev_iinc (q := 21) (lv2 := [(1, .int _), (0, .ref _), (2, .int _)]) (v := x1 + 1) dX4_present_18 1 rfl rfl (congrArg (HAdd.hAdd _) li_1) (Nat.le_of_ble_eq_true rfl) rfl ?_
        refine ev_sub (lv' := [(0, .ref _), (1, .int _), (2, .int _)]) [1, 0, 2] rfl ?_
        exact X4_present_b21_ok G o ho  (X4_present_b4 o n) ih _ _ _
      · exact X4_present_b21_ok G o ho  (X4_present_b4 o n) ih _ _ _
    · refine ev_iload_n (q := 28) dX4_present_27 rfl 1 rfl rfl ?_
      exact ev_iret dX4_present_28 rfl
set_option maxRecDepth 100000 in
set_option maxHeartbeats 4000000 in
theorem con_X4_present (G : Gt) (o : Nat) (ho : kd o = 4) (mem : Mem) : Con tvI G yX4_present cX4_present 3 (some .int) 2 [.ref (gA G o)] mem (X4_present o mem) := by
  refine con_of (by decide) (Nat.le_of_ble_eq_true rfl) ?_
  show EvR tvI G cX4_present 3 (some .int) RX4 2 0 [(0, .ref (gA G o))] [] mem _
  unfold X4_present
  refine ev_iconst (q := 1) (v := 0) dX4_present_0 rfl li_0 ?_
  refine ev_istore_n (q := 2) (lv2 := [(1, .int _), (0, .ref _)]) dX4_present_1 rfl rfl (Nat.le_of_ble_eq_true rfl) rfl ?_
  refine ev_iconst (q := 3) (v := 0) dX4_present_2 rfl li_0 ?_
  refine ev_istore_n (q := 4) (lv2 := [(2, .int _), (1, .int _), (0, .ref _)]) dX4_present_3 rfl rfl (Nat.le_of_ble_eq_true rfl) rfl ?_
  refine ev_sub (lv' := [(0, .ref _), (1, .int _), (2, .int _)]) [2, 1, 0] rfl ?_
  exact X4_present_b4_ok G o ho   fu _ _ _
/-! AgingLetters$Tape.isFull()Z -/
theorem dX5_isFull_0 : decode cX5_isFull 0 = .ok (.aload_n 0, 1) := by decide +kernel
theorem dX5_isFull_1 : decode cX5_isFull 1 = .ok (.getfield 15, 3) := by decide +kernel
theorem dX5_isFull_4 : decode cX5_isFull 4 = .ok (.bipush 120, 2) := by decide +kernel
theorem dX5_isFull_6 : decode cX5_isFull 6 = .ok (.if_icmp .lt 7, 3) := by decide +kernel
theorem dX5_isFull_9 : decode cX5_isFull 9 = .ok (.iconst 1, 1) := by decide +kernel
theorem dX5_isFull_10 : decode cX5_isFull 10 = .ok (.goto 4, 3) := by decide +kernel
theorem dX5_isFull_13 : decode cX5_isFull 13 = .ok (.iconst 0, 1) := by decide +kernel
theorem dX5_isFull_14 : decode cX5_isFull 14 = .ok (.ireturn, 1) := by decide +kernel
set_option maxRecDepth 100000 in
set_option maxHeartbeats 4000000 in
theorem con_X5_isFull (G : Gt) (o : Nat) (ho : kd o = 5) (mem : Mem) : Con tvI G yX5_isFull cX5_isFull 1 (some .boolean) 1 [.ref (gA G o)] mem (X5_isFull o mem) := by
  refine con_of (by decide) (Nat.le_of_ble_eq_true rfl) ?_
  show EvR tvI G cX5_isFull 1 (some .boolean) RX5 1 0 [(0, .ref (gA G o))] [] mem _
  unfold X5_isFull
  refine ev_aload_n (q := 1) dX5_isFull_0 rfl 0 rfl rfl ?_
  refine ev_getI (q := 4) (ci := 5) (j := 1) (T := TX5) dX5_isFull_1 rfl cf_5 ho hj_5_1 hc_5 gf_X5_15 rfl ?_
  refine ev_bipush (q := 6) (v := 120) dX5_isFull_4 rfl lb_120 ?_
  refine ev_icmp_lt (t := 13) (q := 9) dX5_isFull_6 rfl rfl (fun hc1 => ?_) (fun hc1 => ?_)
  · refine ev_iconst (q := 14) (v := 0) dX5_isFull_13 rfl li_0 ?_
    exact ev_zret dX5_isFull_14 rfl
  · refine ev_iconst (q := 10) (v := 1) dX5_isFull_9 rfl li_1 ?_
    refine ev_goto (t := 14) dX5_isFull_10 rfl ?_
    exact ev_zret dX5_isFull_14 rfl
/-! AgingLetters$Tape.append(I)I -/
theorem dX5_append_0 : decode cX5_append 0 = .ok (.aload_n 0, 1) := by decide +kernel
theorem dX5_append_1 : decode cX5_append 1 = .ok (.getfield 11, 3) := by decide +kernel
theorem dX5_append_4 : decode cX5_append 4 = .ok (.aload_n 0, 1) := by decide +kernel
theorem dX5_append_5 : decode cX5_append 5 = .ok (.getfield 15, 3) := by decide +kernel
theorem dX5_append_8 : decode cX5_append 8 = .ok (.iload_n 1, 1) := by decide +kernel
theorem dX5_append_9 : decode cX5_append 9 = .ok (.iastore, 1) := by decide +kernel
theorem dX5_append_10 : decode cX5_append 10 = .ok (.aload_n 0, 1) := by decide +kernel
theorem dX5_append_11 : decode cX5_append 11 = .ok (.dup, 1) := by decide +kernel
theorem dX5_append_12 : decode cX5_append 12 = .ok (.getfield 15, 3) := by decide +kernel
theorem dX5_append_15 : decode cX5_append 15 = .ok (.iconst 1, 1) := by decide +kernel
theorem dX5_append_16 : decode cX5_append 16 = .ok (.iadd, 1) := by decide +kernel
theorem dX5_append_17 : decode cX5_append 17 = .ok (.putfield 15, 3) := by decide +kernel
theorem dX5_append_20 : decode cX5_append 20 = .ok (.aload_n 0, 1) := by decide +kernel
theorem dX5_append_21 : decode cX5_append 21 = .ok (.getfield 15, 3) := by decide +kernel
theorem dX5_append_24 : decode cX5_append 24 = .ok (.ireturn, 1) := by decide +kernel
set_option maxRecDepth 100000 in
set_option maxHeartbeats 4000000 in
theorem con_X5_append (G : Gt) (o : Nat) (a1 : Int32) (ho : kd o = 5) (mem : Mem) : Con tvI G yX5_append cX5_append 2 (some .int) 1 [.ref (gA G o), .int a1] mem (X5_append o a1 mem) := by
  refine con_of (by decide) (Nat.le_of_ble_eq_true rfl) ?_
  show EvR tvI G cX5_append 2 (some .int) RX5 1 0 [(0, .ref (gA G o)), (1, .int (a1))] [] mem _
  unfold X5_append
  refine ev_aload_n (q := 1) dX5_append_0 rfl 0 rfl rfl ?_
  refine ev_getR (q := 4) (ci := 5) (j := 0) (T := TX5) dX5_append_1 rfl cf_5 ho hj_5_0 hc_5 gf_X5_11 rfl ?_
  refine ev_aload_n (q := 5) dX5_append_4 rfl 0 rfl rfl ?_
  refine ev_getI (q := 8) (ci := 5) (j := 1) (T := TX5) dX5_append_5 rfl cf_5 ho hj_5_1 hc_5 gf_X5_15 rfl ?_
  refine ev_iload_n (q := 9) dX5_append_8 rfl 1 rfl rfl ?_
  refine ev_iast (q := 10) dX5_append_9 rfl (kr_5_0 ho) (fun m1 => ?_)
  refine ev_aload_n (q := 11) dX5_append_10 rfl 0 rfl rfl ?_
  refine ev_dup (q := 12) dX5_append_11 rfl rfl ?_
  refine ev_getI (q := 15) (ci := 5) (j := 1) (T := TX5) dX5_append_12 rfl cf_5 ho hj_5_1 hc_5 gf_X5_15 rfl ?_
  refine ev_iconst (q := 16) (v := 1) dX5_append_15 rfl li_1 ?_
  refine ev_iadd (q := 17) dX5_append_16 rfl ?_
  refine ev_putI (q := 20) (ci := 5) (j := 1) (T := TX5) dX5_append_17 rfl cf_5 ho hj_5_1 hc_5 gf_X5_15 rfl rfl (tyX5_ok 1 hj_5_1) ?_
  refine ev_aload_n (q := 21) dX5_append_20 rfl 0 rfl rfl ?_
  refine ev_getI (q := 24) (ci := 5) (j := 1) (T := TX5) dX5_append_21 rfl cf_5 ho hj_5_1 hc_5 gf_X5_15 rfl ?_
  exact ev_iret dX5_append_24 rfl
/-! AgingLetters$Tape.empty()V -/
theorem dX5_empty_0 : decode cX5_empty 0 = .ok (.aload_n 0, 1) := by decide +kernel
theorem dX5_empty_1 : decode cX5_empty 1 = .ok (.iconst 0, 1) := by decide +kernel
theorem dX5_empty_2 : decode cX5_empty 2 = .ok (.putfield 15, 3) := by decide +kernel
theorem dX5_empty_5 : decode cX5_empty 5 = .ok (.return_, 1) := by decide +kernel
set_option maxRecDepth 100000 in
set_option maxHeartbeats 4000000 in
theorem con_X5_empty (G : Gt) (o : Nat) (ho : kd o = 5) (mem : Mem) : Con tvU G yX5_empty cX5_empty 1 none 1 [.ref (gA G o)] mem (X5_empty o mem) := by
  refine con_of (by decide) (Nat.le_of_ble_eq_true rfl) ?_
  show EvR tvU G cX5_empty 1 none RX5 1 0 [(0, .ref (gA G o))] [] mem _
  unfold X5_empty
  refine ev_aload_n (q := 1) dX5_empty_0 rfl 0 rfl rfl ?_
  refine ev_iconst (q := 2) (v := 0) dX5_empty_1 rfl li_0 ?_
  refine ev_putI (q := 5) (ci := 5) (j := 1) (T := TX5) dX5_empty_2 rfl cf_5 ho hj_5_1 hc_5 gf_X5_15 rfl rfl (tyX5_ok 1 hj_5_1) ?_
  exact ev_vret dX5_empty_5 rfl
/-! AgingLetters$Tape.takeSign(I)I -/
theorem dX5_takeSign_0 : decode cX5_takeSign 0 = .ok (.aload_n 0, 1) := by decide +kernel
theorem dX5_takeSign_1 : decode cX5_takeSign 1 = .ok (.getfield 24, 3) := by decide +kernel
theorem dX5_takeSign_4 : decode cX5_takeSign 4 = .ok (.aload_n 0, 1) := by decide +kernel
theorem dX5_takeSign_5 : decode cX5_takeSign 5 = .ok (.getfield 15, 3) := by decide +kernel
theorem dX5_takeSign_8 : decode cX5_takeSign 8 = .ok (.if_icmp .ge 16, 3) := by decide +kernel
theorem dX5_takeSign_11 : decode cX5_takeSign 11 = .ok (.aload_n 0, 1) := by decide +kernel
theorem dX5_takeSign_12 : decode cX5_takeSign 12 = .ok (.getfield 11, 3) := by decide +kernel
theorem dX5_takeSign_15 : decode cX5_takeSign 15 = .ok (.aload_n 0, 1) := by decide +kernel
theorem dX5_takeSign_16 : decode cX5_takeSign 16 = .ok (.getfield 24, 3) := by decide +kernel
theorem dX5_takeSign_19 : decode cX5_takeSign 19 = .ok (.iaload, 1) := by decide +kernel
theorem dX5_takeSign_20 : decode cX5_takeSign 20 = .ok (.iload_n 1, 1) := by decide +kernel
theorem dX5_takeSign_21 : decode cX5_takeSign 21 = .ok (.if_icmp .eq 5, 3) := by decide +kernel
theorem dX5_takeSign_24 : decode cX5_takeSign 24 = .ok (.iconst 1, 1) := by decide +kernel
theorem dX5_takeSign_25 : decode cX5_takeSign 25 = .ok (.ireturn, 1) := by decide +kernel
theorem dX5_takeSign_26 : decode cX5_takeSign 26 = .ok (.aload_n 0, 1) := by decide +kernel
theorem dX5_takeSign_27 : decode cX5_takeSign 27 = .ok (.dup, 1) := by decide +kernel
theorem dX5_takeSign_28 : decode cX5_takeSign 28 = .ok (.getfield 24, 3) := by decide +kernel
theorem dX5_takeSign_31 : decode cX5_takeSign 31 = .ok (.iconst 1, 1) := by decide +kernel
theorem dX5_takeSign_32 : decode cX5_takeSign 32 = .ok (.iadd, 1) := by decide +kernel
theorem dX5_takeSign_33 : decode cX5_takeSign 33 = .ok (.putfield 24, 3) := by decide +kernel
theorem dX5_takeSign_36 : decode cX5_takeSign 36 = .ok (.iconst 0, 1) := by decide +kernel
theorem dX5_takeSign_37 : decode cX5_takeSign 37 = .ok (.ireturn, 1) := by decide +kernel
set_option maxRecDepth 100000 in
set_option maxHeartbeats 4000000 in
theorem con_X5_takeSign (G : Gt) (o : Nat) (a1 : Int32) (ho : kd o = 5) (mem : Mem) : Con tvI G yX5_takeSign cX5_takeSign 2 (some .int) 1 [.ref (gA G o), .int a1] mem (X5_takeSign o a1 mem) := by
  refine con_of (by decide) (Nat.le_of_ble_eq_true rfl) ?_
  show EvR tvI G cX5_takeSign 2 (some .int) RX5 1 0 [(0, .ref (gA G o)), (1, .int (a1))] [] mem _
  unfold X5_takeSign
  refine ev_aload_n (q := 1) dX5_takeSign_0 rfl 0 rfl rfl ?_
  refine ev_getI (q := 4) (ci := 5) (j := 2) (T := TX5) dX5_takeSign_1 rfl cf_5 ho hj_5_2 hc_5 gf_X5_24 rfl ?_
  refine ev_aload_n (q := 5) dX5_takeSign_4 rfl 0 rfl rfl ?_
  refine ev_getI (q := 8) (ci := 5) (j := 1) (T := TX5) dX5_takeSign_5 rfl cf_5 ho hj_5_1 hc_5 gf_X5_15 rfl ?_
  refine ev_icmp_ge (t := 24) (q := 11) dX5_takeSign_8 rfl rfl (fun hc1 => ?_) (fun hc1 => ?_)
  · refine ev_aload_n (q := 12) dX5_takeSign_11 rfl 0 rfl rfl ?_
    refine ev_getR (q := 15) (ci := 5) (j := 0) (T := TX5) dX5_takeSign_12 rfl cf_5 ho hj_5_0 hc_5 gf_X5_11 rfl ?_
    refine ev_aload_n (q := 16) dX5_takeSign_15 rfl 0 rfl rfl ?_
    refine ev_getI (q := 19) (ci := 5) (j := 2) (T := TX5) dX5_takeSign_16 rfl cf_5 ho hj_5_2 hc_5 gf_X5_24 rfl ?_
    refine ev_iald (q := 20) dX5_takeSign_19 rfl (kr_5_0 ho) (fun z2 => ?_)
    refine ev_iload_n (q := 21) dX5_takeSign_20 rfl 1 rfl rfl ?_
    refine ev_icmp_eq (t := 26) (q := 24) dX5_takeSign_21 rfl rfl (fun hc3 => ?_) (fun hc3 => ?_)
    · refine ev_aload_n (q := 27) dX5_takeSign_26 rfl 0 rfl rfl ?_
      refine ev_dup (q := 28) dX5_takeSign_27 rfl rfl ?_
      refine ev_getI (q := 31) (ci := 5) (j := 2) (T := TX5) dX5_takeSign_28 rfl cf_5 ho hj_5_2 hc_5 gf_X5_24 rfl ?_
      refine ev_iconst (q := 32) (v := 1) dX5_takeSign_31 rfl li_1 ?_
      refine ev_iadd (q := 33) dX5_takeSign_32 rfl ?_
      refine ev_putI (q := 36) (ci := 5) (j := 2) (T := TX5) dX5_takeSign_33 rfl cf_5 ho hj_5_2 hc_5 gf_X5_24 rfl rfl (tyX5_ok 2 hj_5_2) ?_
      refine ev_iconst (q := 37) (v := 0) dX5_takeSign_36 rfl li_0 ?_
      exact ev_iret dX5_takeSign_37 rfl
    · refine ev_iconst (q := 25) (v := 1) dX5_takeSign_24 rfl li_1 ?_
      exact ev_iret dX5_takeSign_25 rfl
  · refine ev_iconst (q := 25) (v := 1) dX5_takeSign_24 rfl li_1 ?_
    exact ev_iret dX5_takeSign_25 rfl
/-! AgingLetters$Tape.isFigure(I)Z -/
theorem dX5_isFigure_0 : decode cX5_isFigure 0 = .ok (.iload_n 0, 1) := by decide +kernel
theorem dX5_isFigure_1 : decode cX5_isFigure 1 = .ok (.bipush 48, 2) := by decide +kernel
theorem dX5_isFigure_3 : decode cX5_isFigure 3 = .ok (.if_icmp .lt 13, 3) := by decide +kernel
theorem dX5_isFigure_6 : decode cX5_isFigure 6 = .ok (.iload_n 0, 1) := by decide +kernel
theorem dX5_isFigure_7 : decode cX5_isFigure 7 = .ok (.bipush 57, 2) := by decide +kernel
theorem dX5_isFigure_9 : decode cX5_isFigure 9 = .ok (.if_icmp .gt 7, 3) := by decide +kernel
theorem dX5_isFigure_12 : decode cX5_isFigure 12 = .ok (.iconst 1, 1) := by decide +kernel
theorem dX5_isFigure_13 : decode cX5_isFigure 13 = .ok (.goto 4, 3) := by decide +kernel
theorem dX5_isFigure_16 : decode cX5_isFigure 16 = .ok (.iconst 0, 1) := by decide +kernel
theorem dX5_isFigure_17 : decode cX5_isFigure 17 = .ok (.ireturn, 1) := by decide +kernel
set_option maxRecDepth 100000 in
set_option maxHeartbeats 4000000 in
theorem con_X5_isFigure (G : Gt) (a0 : Int32)  (mem : Mem) : Con tvI G yX5_isFigure cX5_isFigure 1 (some .boolean) 1 [.int a0] mem (X5_isFigure a0 mem) := by
  refine con_of (by decide) (Nat.le_of_ble_eq_true rfl) ?_
  show EvR tvI G cX5_isFigure 1 (some .boolean) RX5 1 0 [(0, .int (a0))] [] mem _
  unfold X5_isFigure
  refine ev_iload_n (q := 1) dX5_isFigure_0 rfl 0 rfl rfl ?_
  refine ev_bipush (q := 3) (v := 48) dX5_isFigure_1 rfl lb_48 ?_
  refine ev_icmp_lt (t := 16) (q := 6) dX5_isFigure_3 rfl rfl (fun hc1 => ?_) (fun hc1 => ?_)
  · refine ev_iconst (q := 17) (v := 0) dX5_isFigure_16 rfl li_0 ?_
    exact ev_zret dX5_isFigure_17 rfl
  · refine ev_iload_n (q := 7) dX5_isFigure_6 rfl 0 rfl rfl ?_
    refine ev_bipush (q := 9) (v := 57) dX5_isFigure_7 rfl lb_57 ?_
    refine ev_icmp_gt (t := 16) (q := 12) dX5_isFigure_9 rfl rfl (fun hc2 => ?_) (fun hc2 => ?_)
    · refine ev_iconst (q := 17) (v := 0) dX5_isFigure_16 rfl li_0 ?_
      exact ev_zret dX5_isFigure_17 rfl
    · refine ev_iconst (q := 13) (v := 1) dX5_isFigure_12 rfl li_1 ?_
      refine ev_goto (t := 17) dX5_isFigure_13 rfl ?_
      exact ev_zret dX5_isFigure_17 rfl
/-! AgingLetters$Tape.takeNumber(II)I -/
theorem dX5_takeNumber_0 : decode cX5_takeNumber 0 = .ok (.aload_n 0, 1) := by decide +kernel
theorem dX5_takeNumber_1 : decode cX5_takeNumber 1 = .ok (.iconst 0, 1) := by decide +kernel
theorem dX5_takeNumber_2 : decode cX5_takeNumber 2 = .ok (.putfield 49, 3) := by decide +kernel
theorem dX5_takeNumber_5 : decode cX5_takeNumber 5 = .ok (.iconst 0, 1) := by decide +kernel
theorem dX5_takeNumber_6 : decode cX5_takeNumber 6 = .ok (.istore_n 3, 1) := by decide +kernel
theorem dX5_takeNumber_7 : decode cX5_takeNumber 7 = .ok (.aload_n 0, 1) := by decide +kernel
theorem dX5_takeNumber_8 : decode cX5_takeNumber 8 = .ok (.getfield 24, 3) := by decide +kernel
theorem dX5_takeNumber_11 : decode cX5_takeNumber 11 = .ok (.istore 4, 2) := by decide +kernel
theorem dX5_takeNumber_13 : decode cX5_takeNumber 13 = .ok (.iload 4, 2) := by decide +kernel
theorem dX5_takeNumber_15 : decode cX5_takeNumber 15 = .ok (.aload_n 0, 1) := by decide +kernel
theorem dX5_takeNumber_16 : decode cX5_takeNumber 16 = .ok (.getfield 15, 3) := by decide +kernel
theorem dX5_takeNumber_19 : decode cX5_takeNumber 19 = .ok (.if_icmp .ge 52, 3) := by decide +kernel
theorem dX5_takeNumber_22 : decode cX5_takeNumber 22 = .ok (.aload_n 0, 1) := by decide +kernel
theorem dX5_takeNumber_23 : decode cX5_takeNumber 23 = .ok (.getfield 11, 3) := by decide +kernel
theorem dX5_takeNumber_26 : decode cX5_takeNumber 26 = .ok (.iload 4, 2) := by decide +kernel
theorem dX5_takeNumber_28 : decode cX5_takeNumber 28 = .ok (.iaload, 1) := by decide +kernel
theorem dX5_takeNumber_29 : decode cX5_takeNumber 29 = .ok (.invokestatic 73, 3) := by decide +kernel
theorem dX5_takeNumber_32 : decode cX5_takeNumber 32 = .ok (.ifCond .eq 39, 3) := by decide +kernel
theorem dX5_takeNumber_35 : decode cX5_takeNumber 35 = .ok (.iload_n 3, 1) := by decide +kernel
theorem dX5_takeNumber_36 : decode cX5_takeNumber 36 = .ok (.iconst 3, 1) := by decide +kernel
theorem dX5_takeNumber_37 : decode cX5_takeNumber 37 = .ok (.if_icmp .gt 34, 3) := by decide +kernel
theorem dX5_takeNumber_40 : decode cX5_takeNumber 40 = .ok (.aload_n 0, 1) := by decide +kernel
theorem dX5_takeNumber_41 : decode cX5_takeNumber 41 = .ok (.aload_n 0, 1) := by decide +kernel
theorem dX5_takeNumber_42 : decode cX5_takeNumber 42 = .ok (.getfield 49, 3) := by decide +kernel
theorem dX5_takeNumber_45 : decode cX5_takeNumber 45 = .ok (.bipush 10, 2) := by decide +kernel
theorem dX5_takeNumber_47 : decode cX5_takeNumber 47 = .ok (.imul, 1) := by decide +kernel
theorem dX5_takeNumber_48 : decode cX5_takeNumber 48 = .ok (.aload_n 0, 1) := by decide +kernel
theorem dX5_takeNumber_49 : decode cX5_takeNumber 49 = .ok (.getfield 11, 3) := by decide +kernel
theorem dX5_takeNumber_52 : decode cX5_takeNumber 52 = .ok (.iload 4, 2) := by decide +kernel
theorem dX5_takeNumber_54 : decode cX5_takeNumber 54 = .ok (.iaload, 1) := by decide +kernel
theorem dX5_takeNumber_55 : decode cX5_takeNumber 55 = .ok (.iadd, 1) := by decide +kernel
theorem dX5_takeNumber_56 : decode cX5_takeNumber 56 = .ok (.bipush 48, 2) := by decide +kernel
theorem dX5_takeNumber_58 : decode cX5_takeNumber 58 = .ok (.isub, 1) := by decide +kernel
theorem dX5_takeNumber_59 : decode cX5_takeNumber 59 = .ok (.putfield 49, 3) := by decide +kernel
theorem dX5_takeNumber_62 : decode cX5_takeNumber 62 = .ok (.iinc 3 1, 3) := by decide +kernel
theorem dX5_takeNumber_65 : decode cX5_takeNumber 65 = .ok (.iinc 4 1, 3) := by decide +kernel
theorem dX5_takeNumber_68 : decode cX5_takeNumber 68 = .ok (.goto (-55), 3) := by decide +kernel
theorem dX5_takeNumber_71 : decode cX5_takeNumber 71 = .ok (.iload_n 3, 1) := by decide +kernel
theorem dX5_takeNumber_72 : decode cX5_takeNumber 72 = .ok (.ifCond .eq 8, 3) := by decide +kernel
theorem dX5_takeNumber_75 : decode cX5_takeNumber 75 = .ok (.iload_n 3, 1) := by decide +kernel
theorem dX5_takeNumber_76 : decode cX5_takeNumber 76 = .ok (.iconst 3, 1) := by decide +kernel
theorem dX5_takeNumber_77 : decode cX5_takeNumber 77 = .ok (.if_icmp .le 5, 3) := by decide +kernel
theorem dX5_takeNumber_80 : decode cX5_takeNumber 80 = .ok (.iconst 1, 1) := by decide +kernel
theorem dX5_takeNumber_81 : decode cX5_takeNumber 81 = .ok (.ireturn, 1) := by decide +kernel
theorem dX5_takeNumber_82 : decode cX5_takeNumber 82 = .ok (.aload_n 0, 1) := by decide +kernel
theorem dX5_takeNumber_83 : decode cX5_takeNumber 83 = .ok (.getfield 49, 3) := by decide +kernel
theorem dX5_takeNumber_86 : decode cX5_takeNumber 86 = .ok (.iload_n 1, 1) := by decide +kernel
theorem dX5_takeNumber_87 : decode cX5_takeNumber 87 = .ok (.if_icmp .lt 11, 3) := by decide +kernel
theorem dX5_takeNumber_90 : decode cX5_takeNumber 90 = .ok (.aload_n 0, 1) := by decide +kernel
theorem dX5_takeNumber_91 : decode cX5_takeNumber 91 = .ok (.getfield 49, 3) := by decide +kernel
theorem dX5_takeNumber_94 : decode cX5_takeNumber 94 = .ok (.iload_n 2, 1) := by decide +kernel
theorem dX5_takeNumber_95 : decode cX5_takeNumber 95 = .ok (.if_icmp .le 5, 3) := by decide +kernel
theorem dX5_takeNumber_98 : decode cX5_takeNumber 98 = .ok (.iconst 2, 1) := by decide +kernel
theorem dX5_takeNumber_99 : decode cX5_takeNumber 99 = .ok (.ireturn, 1) := by decide +kernel
theorem dX5_takeNumber_100 : decode cX5_takeNumber 100 = .ok (.aload_n 0, 1) := by decide +kernel
theorem dX5_takeNumber_101 : decode cX5_takeNumber 101 = .ok (.dup, 1) := by decide +kernel
theorem dX5_takeNumber_102 : decode cX5_takeNumber 102 = .ok (.getfield 24, 3) := by decide +kernel
theorem dX5_takeNumber_105 : decode cX5_takeNumber 105 = .ok (.iload_n 3, 1) := by decide +kernel
theorem dX5_takeNumber_106 : decode cX5_takeNumber 106 = .ok (.iadd, 1) := by decide +kernel
theorem dX5_takeNumber_107 : decode cX5_takeNumber 107 = .ok (.putfield 24, 3) := by decide +kernel
theorem dX5_takeNumber_110 : decode cX5_takeNumber 110 = .ok (.iconst 0, 1) := by decide +kernel
theorem dX5_takeNumber_111 : decode cX5_takeNumber 111 = .ok (.ireturn, 1) := by decide +kernel
set_option maxRecDepth 100000 in
set_option maxHeartbeats 4000000 in
theorem X5_takeNumber_b71_ok (G : Gt) (o : Nat) (ho : kd o = 5)    (x1 : Int32) (x2 : Int32) (x3 : Int32) (mem : Mem) : EvR tvI G cX5_takeNumber 5 (some .int) RX5 2 71 [(0, .ref (gA G o)), (1, .int (x1)), (2, .int (x2)), (3, .int (x3))] [] mem (X5_takeNumber_b71 o x1 x2 x3 mem) := by
  unfold X5_takeNumber_b71
  refine ev_iload_n (q := 72) dX5_takeNumber_71 rfl 3 rfl rfl ?_
  refine ev_if_eq (t := 80) (q := 75) dX5_takeNumber_72 rfl rfl (fun hc10 => ?_) (fun hc10 => ?_)
  · refine ev_iconst (q := 81) (v := 1) dX5_takeNumber_80 rfl li_1 ?_
    exact ev_iret dX5_takeNumber_81 rfl
  · refine ev_iload_n (q := 76) dX5_takeNumber_75 rfl 3 rfl rfl ?_
    refine ev_iconst (q := 77) (v := 3) dX5_takeNumber_76 rfl li_3 ?_
    refine ev_icmp_le (t := 82) (q := 80) dX5_takeNumber_77 rfl rfl (fun hc11 => ?_) (fun hc11 => ?_)
    · refine ev_iconst (q := 81) (v := 1) dX5_takeNumber_80 rfl li_1 ?_
      exact ev_iret dX5_takeNumber_81 rfl
    · refine ev_aload_n (q := 83) dX5_takeNumber_82 rfl 0 rfl rfl ?_
      refine ev_getI (q := 86) (ci := 5) (j := 3) (T := TX5) dX5_takeNumber_83 rfl cf_5 ho hj_5_3 hc_5 gf_X5_49 rfl ?_
      refine ev_iload_n (q := 87) dX5_takeNumber_86 rfl 1 rfl rfl ?_
      refine ev_icmp_lt (t := 98) (q := 90) dX5_takeNumber_87 rfl rfl (fun hc12 => ?_) (fun hc12 => ?_)
      · refine ev_iconst (q := 99) (v := 2) dX5_takeNumber_98 rfl li_2 ?_
        exact ev_iret dX5_takeNumber_99 rfl
      · refine ev_aload_n (q := 91) dX5_takeNumber_90 rfl 0 rfl rfl ?_
        refine ev_getI (q := 94) (ci := 5) (j := 3) (T := TX5) dX5_takeNumber_91 rfl cf_5 ho hj_5_3 hc_5 gf_X5_49 rfl ?_
        refine ev_iload_n (q := 95) dX5_takeNumber_94 rfl 2 rfl rfl ?_
        refine ev_icmp_le (t := 100) (q := 98) dX5_takeNumber_95 rfl rfl (fun hc13 => ?_) (fun hc13 => ?_)
        · refine ev_iconst (q := 99) (v := 2) dX5_takeNumber_98 rfl li_2 ?_
          exact ev_iret dX5_takeNumber_99 rfl
        · refine ev_aload_n (q := 101) dX5_takeNumber_100 rfl 0 rfl rfl ?_
          refine ev_dup (q := 102) dX5_takeNumber_101 rfl rfl ?_
          refine ev_getI (q := 105) (ci := 5) (j := 2) (T := TX5) dX5_takeNumber_102 rfl cf_5 ho hj_5_2 hc_5 gf_X5_24 rfl ?_
          refine ev_iload_n (q := 106) dX5_takeNumber_105 rfl 3 rfl rfl ?_
          refine ev_iadd (q := 107) dX5_takeNumber_106 rfl ?_
          refine ev_putI (q := 110) (ci := 5) (j := 2) (T := TX5) dX5_takeNumber_107 rfl cf_5 ho hj_5_2 hc_5 gf_X5_24 rfl rfl (tyX5_ok 2 hj_5_2) ?_
          refine ev_iconst (q := 111) (v := 0) dX5_takeNumber_110 rfl li_0 ?_
          exact ev_iret dX5_takeNumber_111 rfl
set_option maxRecDepth 100000 in
set_option maxHeartbeats 4000000 in
theorem X5_takeNumber_b13_ok (G : Gt) (o : Nat) (ho : kd o = 5)    : ∀ (n : Nat) (x1 : Int32) (x2 : Int32) (x3 : Int32) (x4 : Int32) (mem : Mem), EvR tvI G cX5_takeNumber 5 (some .int) RX5 2 13 [(0, .ref (gA G o)), (1, .int (x1)), (2, .int (x2)), (3, .int (x3)), (4, .int (x4))] [] mem (X5_takeNumber_b13 o n x1 x2 x3 x4 mem) := by
  intro n
  induction n with
  | zero => intros; exact ev_none
  | succ n ih =>
    intro x1 x2 x3 x4 mem
    rw [X5_takeNumber_b13]
    refine ev_iload (q := 15) dX5_takeNumber_13 4 rfl rfl ?_
    refine ev_aload_n (q := 16) dX5_takeNumber_15 rfl 0 rfl rfl ?_
    refine ev_getI (q := 19) (ci := 5) (j := 1) (T := TX5) dX5_takeNumber_16 rfl cf_5 ho hj_5_1 hc_5 gf_X5_15 rfl ?_
    refine ev_icmp_ge (t := 71) (q := 22) dX5_takeNumber_19 rfl rfl (fun hc2 => ?_) (fun hc2 => ?_)
    · refine ev_aload_n (q := 23) dX5_takeNumber_22 rfl 0 rfl rfl ?_
      refine ev_getR (q := 26) (ci := 5) (j := 0) (T := TX5) dX5_takeNumber_23 rfl cf_5 ho hj_5_0 hc_5 gf_X5_11 rfl ?_
      refine ev_iload (q := 28) dX5_takeNumber_26 4 rfl rfl ?_
      refine ev_iald (q := 29) dX5_takeNumber_28 rfl (kr_5_0 ho) (fun z3 => ?_)
      refine ev_callSI (q := 32) dX5_takeNumber_29 rfl ml_X5_73 mt_X5_isFigure (con_X5_isFigure G _  _) rfl (Nat.le_of_ble_eq_true rfl) (Nat.le_of_ble_eq_true rfl) rfl (Nat.le_of_ble_eq_true rfl) (fun r4 m5 => ?_)
      refine ev_if_eq (t := 71) (q := 35) dX5_takeNumber_32 rfl rfl (fun hc6 => ?_) (fun hc6 => ?_)
      · refine ev_sub (lv' := [(0, .ref _), (1, .int _), (2, .int _), (3, .int _)]) [0, 1, 2, 3] rfl ?_
        exact X5_takeNumber_b71_ok G o ho   _ _ _ _
      · refine ev_iload_n (q := 36) dX5_takeNumber_35 rfl 3 rfl rfl ?_
        refine ev_iconst (q := 37) (v := 3) dX5_takeNumber_36 rfl li_3 ?_
        refine ev_icmp_gt (t := 71) (q := 40) dX5_takeNumber_37 rfl rfl (fun hc7 => ?_) (fun hc7 => ?_)
        · refine ev_sub (lv' := [(0, .ref _), (1, .int _), (2, .int _), (3, .int _)]) [0, 1, 2, 3] rfl ?_
          exact X5_takeNumber_b71_ok G o ho   _ _ _ _
        · refine ev_aload_n (q := 41) dX5_takeNumber_40 rfl 0 rfl rfl ?_
          refine ev_aload_n (q := 42) dX5_takeNumber_41 rfl 0 rfl rfl ?_
          refine ev_getI (q := 45) (ci := 5) (j := 3) (T := TX5) dX5_takeNumber_42 rfl cf_5 ho hj_5_3 hc_5 gf_X5_49 rfl ?_
          refine ev_bipush (q := 47) (v := 10) dX5_takeNumber_45 rfl lb_10 ?_
          refine ev_imul (q := 48) dX5_takeNumber_47 rfl ?_
          refine ev_aload_n (q := 49) dX5_takeNumber_48 rfl 0 rfl rfl ?_
          refine ev_getR (q := 52) (ci := 5) (j := 0) (T := TX5) dX5_takeNumber_49 rfl cf_5 ho hj_5_0 hc_5 gf_X5_11 rfl ?_
          refine ev_iload (q := 54) dX5_takeNumber_52 4 rfl rfl ?_
          refine ev_iald (q := 55) dX5_takeNumber_54 rfl (kr_5_0 ho) (fun z8 => ?_)
          refine ev_iadd (q := 56) dX5_takeNumber_55 rfl ?_
          refine ev_bipush (q := 58) (v := 48) dX5_takeNumber_56 rfl lb_48 ?_
          refine ev_isub (q := 59) dX5_takeNumber_58 rfl ?_
          refine ev_putI (q := 62) (ci := 5) (j := 3) (T := TX5) dX5_takeNumber_59 rfl cf_5 ho hj_5_3 hc_5 gf_X5_49 rfl rfl (tyX5_ok 3 hj_5_3) ?_
          refine ev_iinc (q := 65) (lv2 := [(3, .int _), (0, .ref _), (1, .int _), (2, .int _), (4, .int _)]) (v := x3 + 1) dX5_takeNumber_62 3 rfl rfl (congrArg (HAdd.hAdd _) li_1) (Nat.le_of_ble_eq_true rfl) rfl ?_
          refine ev_iinc (q := 68) (lv2 := [(4, .int _), (3, .int _), (0, .ref _), (1, .int _), (2, .int _)]) (v := x4 + 1) dX5_takeNumber_65 4 rfl rfl (congrArg (HAdd.hAdd _) li_1) (Nat.le_of_ble_eq_true rfl) rfl ?_
          refine ev_goto (t := 13) dX5_takeNumber_68 rfl ?_
          refine ev_sub (lv' := [(0, .ref _), (1, .int _), (2, .int _), (3, .int _), (4, .int _)]) [2, 3, 4, 1, 0] rfl ?_
          exact ih _ _ _ _ _
    · refine ev_sub (lv' := [(0, .ref _), (1, .int _), (2, .int _), (3, .int _)]) [0, 1, 2, 3] rfl ?_
      exact X5_takeNumber_b71_ok G o ho   _ _ _ _
set_option maxRecDepth 100000 in
set_option maxHeartbeats 4000000 in
theorem con_X5_takeNumber (G : Gt) (o : Nat) (a1 : Int32) (a2 : Int32) (ho : kd o = 5) (mem : Mem) : Con tvI G yX5_takeNumber cX5_takeNumber 5 (some .int) 2 [.ref (gA G o), .int a1, .int a2] mem (X5_takeNumber o a1 a2 mem) := by
  refine con_of (by decide) (Nat.le_of_ble_eq_true rfl) ?_
  show EvR tvI G cX5_takeNumber 5 (some .int) RX5 2 0 [(0, .ref (gA G o)), (1, .int (a1)), (2, .int (a2))] [] mem _
  unfold X5_takeNumber
  refine ev_aload_n (q := 1) dX5_takeNumber_0 rfl 0 rfl rfl ?_
  refine ev_iconst (q := 2) (v := 0) dX5_takeNumber_1 rfl li_0 ?_
  refine ev_putI (q := 5) (ci := 5) (j := 3) (T := TX5) dX5_takeNumber_2 rfl cf_5 ho hj_5_3 hc_5 gf_X5_49 rfl rfl (tyX5_ok 3 hj_5_3) ?_
  refine ev_iconst (q := 6) (v := 0) dX5_takeNumber_5 rfl li_0 ?_
  refine ev_istore_n (q := 7) (lv2 := [(3, .int _), (0, .ref _), (1, .int _), (2, .int _)]) dX5_takeNumber_6 rfl rfl (Nat.le_of_ble_eq_true rfl) rfl ?_
  refine ev_aload_n (q := 8) dX5_takeNumber_7 rfl 1 rfl rfl ?_
  refine ev_getI (q := 11) (ci := 5) (j := 2) (T := TX5) dX5_takeNumber_8 rfl cf_5 ho hj_5_2 hc_5 gf_X5_24 rfl ?_
  refine ev_istore (q := 13) (lv2 := [(4, .int _), (3, .int _), (0, .ref _), (1, .int _), (2, .int _)]) dX5_takeNumber_11 rfl (Nat.le_of_ble_eq_true rfl) rfl ?_
  refine ev_sub (lv' := [(0, .ref _), (1, .int _), (2, .int _), (3, .int _), (4, .int _)]) [2, 3, 4, 1, 0] rfl ?_
  exact X5_takeNumber_b13_ok G o ho   fu _ _ _ _ _
/-! AgingLetters$Tape.readLaw(LAgingLetters$Office;)I -/
theorem dX5_readLaw_0 : decode cX5_readLaw 0 = .ok (.aload_n 0, 1) := by decide +kernel
theorem dX5_readLaw_1 : decode cX5_readLaw 1 = .ok (.bipush 111, 2) := by decide +kernel
theorem dX5_readLaw_3 : decode cX5_readLaw 3 = .ok (.invokevirtual 41, 3) := by decide +kernel
theorem dX5_readLaw_6 : decode cX5_readLaw 6 = .ok (.istore_n 2, 1) := by decide +kernel
theorem dX5_readLaw_7 : decode cX5_readLaw 7 = .ok (.iload_n 2, 1) := by decide +kernel
theorem dX5_readLaw_8 : decode cX5_readLaw 8 = .ok (.ifCond .ne 12, 3) := by decide +kernel
theorem dX5_readLaw_11 : decode cX5_readLaw 11 = .ok (.aload_n 0, 1) := by decide +kernel
theorem dX5_readLaw_12 : decode cX5_readLaw 12 = .ok (.iconst 1, 1) := by decide +kernel
theorem dX5_readLaw_13 : decode cX5_readLaw 13 = .ok (.sipush 999, 3) := by decide +kernel
theorem dX5_readLaw_16 : decode cX5_readLaw 16 = .ok (.invokevirtual 45, 3) := by decide +kernel
theorem dX5_readLaw_19 : decode cX5_readLaw 19 = .ok (.istore_n 2, 1) := by decide +kernel
theorem dX5_readLaw_20 : decode cX5_readLaw 20 = .ok (.aload_n 1, 1) := by decide +kernel
theorem dX5_readLaw_21 : decode cX5_readLaw 21 = .ok (.aload_n 0, 1) := by decide +kernel
theorem dX5_readLaw_22 : decode cX5_readLaw 22 = .ok (.getfield 49, 3) := by decide +kernel
theorem dX5_readLaw_25 : decode cX5_readLaw 25 = .ok (.putfield 52, 3) := by decide +kernel
theorem dX5_readLaw_28 : decode cX5_readLaw 28 = .ok (.iload_n 2, 1) := by decide +kernel
theorem dX5_readLaw_29 : decode cX5_readLaw 29 = .ok (.ifCond .ne 10, 3) := by decide +kernel
theorem dX5_readLaw_32 : decode cX5_readLaw 32 = .ok (.aload_n 0, 1) := by decide +kernel
theorem dX5_readLaw_33 : decode cX5_readLaw 33 = .ok (.bipush 59, 2) := by decide +kernel
theorem dX5_readLaw_35 : decode cX5_readLaw 35 = .ok (.invokevirtual 41, 3) := by decide +kernel
theorem dX5_readLaw_38 : decode cX5_readLaw 38 = .ok (.istore_n 2, 1) := by decide +kernel
theorem dX5_readLaw_39 : decode cX5_readLaw 39 = .ok (.iload_n 2, 1) := by decide +kernel
theorem dX5_readLaw_40 : decode cX5_readLaw 40 = .ok (.ireturn, 1) := by decide +kernel
set_option maxRecDepth 100000 in
set_option maxHeartbeats 4000000 in
theorem X5_readLaw_b20_ok (G : Gt) (o : Nat) (p1 : Nat) (ho : kd o = 5) (hp1 : kd p1 = 3)    (x2 : Int32) (mem : Mem) : EvR tvI G cX5_readLaw 3 (some .int) RX5 3 20 [(0, .ref (gA G o)), (1, .ref (gA G p1)), (2, .int (x2))] [] mem (X5_readLaw_b20 o p1 x2 mem) := by
  unfold X5_readLaw_b20
  refine ev_aload_n (q := 21) dX5_readLaw_20 rfl 1 rfl rfl ?_
  refine ev_aload_n (q := 22) dX5_readLaw_21 rfl 0 rfl rfl ?_
  refine ev_getI (q := 25) (ci := 5) (j := 3) (T := TX5) dX5_readLaw_22 rfl cf_5 ho hj_5_3 hc_5 gf_X5_49 rfl ?_
  refine ev_putI (q := 28) (ci := 3) (j := 1) (T := TX3) dX5_readLaw_25 rfl cf_3 hp1 hj_3_1 hc_3 gf_X5_52 rfl rfl (tyX3_ok 1 hj_3_1) ?_
  refine ev_iload_n (q := 29) dX5_readLaw_28 rfl 2 rfl rfl ?_
  refine ev_if_ne (t := 39) (q := 32) dX5_readLaw_29 rfl rfl (fun hc7 => ?_) (fun hc7 => ?_)
  · refine ev_aload_n (q := 33) dX5_readLaw_32 rfl 0 rfl rfl ?_
    refine ev_bipush (q := 35) (v := 59) dX5_readLaw_33 rfl lb_59 ?_
    refine ev_callVI (q := 38) dX5_readLaw_35 rfl ml_X5_41 mt_X5_takeSign cf_5 rfl ho hc_5 (con_X5_takeSign G _ _ ho _) rfl (Nat.le_of_ble_eq_true rfl) (Nat.le_of_ble_eq_true rfl) rfl (Nat.le_of_ble_eq_true rfl) (fun r8 m9 => ?_)
    refine ev_istore_n (q := 39) (lv2 := [(2, .int _), (0, .ref _), (1, .ref _)]) dX5_readLaw_38 rfl rfl (Nat.le_of_ble_eq_true rfl) rfl ?_
    refine ev_iload_n (q := 40) dX5_readLaw_39 rfl 0 rfl rfl ?_
    exact ev_iret dX5_readLaw_40 rfl
  · refine ev_iload_n (q := 40) dX5_readLaw_39 rfl 2 rfl rfl ?_
    exact ev_iret dX5_readLaw_40 rfl
set_option maxRecDepth 100000 in
set_option maxHeartbeats 4000000 in
theorem con_X5_readLaw (G : Gt) (o : Nat) (p1 : Nat) (ho : kd o = 5) (hp1 : kd p1 = 3) (mem : Mem) : Con tvI G yX5_readLaw cX5_readLaw 3 (some .int) 3 [.ref (gA G o), .ref (gA G p1)] mem (X5_readLaw o p1 mem) := by
  refine con_of (by decide) (Nat.le_of_ble_eq_true rfl) ?_
  show EvR tvI G cX5_readLaw 3 (some .int) RX5 3 0 [(0, .ref (gA G o)), (1, .ref (gA G p1))] [] mem _
  unfold X5_readLaw
  refine ev_aload_n (q := 1) dX5_readLaw_0 rfl 0 rfl rfl ?_
  refine ev_bipush (q := 3) (v := 111) dX5_readLaw_1 rfl lb_111 ?_
  refine ev_callVI (q := 6) dX5_readLaw_3 rfl ml_X5_41 mt_X5_takeSign cf_5 rfl ho hc_5 (con_X5_takeSign G _ _ ho _) rfl (Nat.le_of_ble_eq_true rfl) (Nat.le_of_ble_eq_true rfl) rfl (Nat.le_of_ble_eq_true rfl) (fun r1 m2 => ?_)
  refine ev_istore_n (q := 7) (lv2 := [(2, .int _), (0, .ref _), (1, .ref _)]) dX5_readLaw_6 rfl rfl (Nat.le_of_ble_eq_true rfl) rfl ?_
  refine ev_iload_n (q := 8) dX5_readLaw_7 rfl 0 rfl rfl ?_
  refine ev_if_ne (t := 20) (q := 11) dX5_readLaw_8 rfl rfl (fun hc3 => ?_) (fun hc3 => ?_)
  · refine ev_aload_n (q := 12) dX5_readLaw_11 rfl 1 rfl rfl ?_
    refine ev_iconst (q := 13) (v := 1) dX5_readLaw_12 rfl li_1 ?_
    refine ev_sipush (q := 16) (v := 999) dX5_readLaw_13 rfl ls_999 ?_
    refine ev_callVI (q := 19) dX5_readLaw_16 rfl ml_X5_45 mt_X5_takeNumber cf_5 rfl ho hc_5 (con_X5_takeNumber G _ _ _ ho _) rfl (Nat.le_of_ble_eq_true rfl) (Nat.le_of_ble_eq_true rfl) rfl (Nat.le_of_ble_eq_true rfl) (fun r4 m5 => ?_)
    refine ev_istore_n (q := 20) (lv2 := [(2, .int _), (0, .ref _), (1, .ref _)]) dX5_readLaw_19 rfl rfl (Nat.le_of_ble_eq_true rfl) rfl ?_
    refine ev_sub (lv' := [(0, .ref _), (1, .ref _), (2, .int _)]) [1, 2, 0] rfl ?_
    exact X5_readLaw_b20_ok G o p1 ho hp1   _ _
  · refine ev_sub (lv' := [(0, .ref _), (1, .ref _), (2, .int _)]) [1, 2, 0] rfl ?_
    exact X5_readLaw_b20_ok G o p1 ho hp1   _ _
/-! AgingLetters$Tape.readReader(LAgingLetters$Office;)I -/
theorem dX5_readReader_0 : decode cX5_readReader 0 = .ok (.aload_n 1, 1) := by decide +kernel
theorem dX5_readReader_1 : decode cX5_readReader 1 = .ok (.getfield 59, 3) := by decide +kernel
theorem dX5_readReader_4 : decode cX5_readReader 4 = .ok (.iconst 4, 1) := by decide +kernel
theorem dX5_readReader_5 : decode cX5_readReader 5 = .ok (.if_icmp .lt 5, 3) := by decide +kernel
theorem dX5_readReader_8 : decode cX5_readReader 8 = .ok (.iconst 3, 1) := by decide +kernel
theorem dX5_readReader_9 : decode cX5_readReader 9 = .ok (.ireturn, 1) := by decide +kernel
theorem dX5_readReader_10 : decode cX5_readReader 10 = .ok (.aload_n 0, 1) := by decide +kernel
theorem dX5_readReader_11 : decode cX5_readReader 11 = .ok (.dup, 1) := by decide +kernel
theorem dX5_readReader_12 : decode cX5_readReader 12 = .ok (.getfield 24, 3) := by decide +kernel
theorem dX5_readReader_15 : decode cX5_readReader 15 = .ok (.iconst 1, 1) := by decide +kernel
theorem dX5_readReader_16 : decode cX5_readReader 16 = .ok (.iadd, 1) := by decide +kernel
theorem dX5_readReader_17 : decode cX5_readReader 17 = .ok (.putfield 24, 3) := by decide +kernel
theorem dX5_readReader_20 : decode cX5_readReader 20 = .ok (.aload_n 0, 1) := by decide +kernel
theorem dX5_readReader_21 : decode cX5_readReader 21 = .ok (.iconst 0, 1) := by decide +kernel
theorem dX5_readReader_22 : decode cX5_readReader 22 = .ok (.bipush 99, 2) := by decide +kernel
theorem dX5_readReader_24 : decode cX5_readReader 24 = .ok (.invokevirtual 45, 3) := by decide +kernel
theorem dX5_readReader_27 : decode cX5_readReader 27 = .ok (.istore_n 2, 1) := by decide +kernel
theorem dX5_readReader_28 : decode cX5_readReader 28 = .ok (.aload_n 0, 1) := by decide +kernel
theorem dX5_readReader_29 : decode cX5_readReader 29 = .ok (.getfield 49, 3) := by decide +kernel
theorem dX5_readReader_32 : decode cX5_readReader 32 = .ok (.istore_n 3, 1) := by decide +kernel
theorem dX5_readReader_33 : decode cX5_readReader 33 = .ok (.iload_n 2, 1) := by decide +kernel
theorem dX5_readReader_34 : decode cX5_readReader 34 = .ok (.ifCond .ne 10, 3) := by decide +kernel
theorem dX5_readReader_37 : decode cX5_readReader 37 = .ok (.aload_n 0, 1) := by decide +kernel
theorem dX5_readReader_38 : decode cX5_readReader 38 = .ok (.bipush 44, 2) := by decide +kernel
theorem dX5_readReader_40 : decode cX5_readReader 40 = .ok (.invokevirtual 41, 3) := by decide +kernel
theorem dX5_readReader_43 : decode cX5_readReader 43 = .ok (.istore_n 2, 1) := by decide +kernel
theorem dX5_readReader_44 : decode cX5_readReader 44 = .ok (.iload_n 2, 1) := by decide +kernel
theorem dX5_readReader_45 : decode cX5_readReader 45 = .ok (.ifCond .ne 14, 3) := by decide +kernel
theorem dX5_readReader_48 : decode cX5_readReader 48 = .ok (.aload_n 0, 1) := by decide +kernel
theorem dX5_readReader_49 : decode cX5_readReader 49 = .ok (.iload_n 3, 1) := by decide +kernel
theorem dX5_readReader_50 : decode cX5_readReader 50 = .ok (.iconst 1, 1) := by decide +kernel
theorem dX5_readReader_51 : decode cX5_readReader 51 = .ok (.iadd, 1) := by decide +kernel
theorem dX5_readReader_52 : decode cX5_readReader 52 = .ok (.sipush 999, 3) := by decide +kernel
theorem dX5_readReader_55 : decode cX5_readReader 55 = .ok (.invokevirtual 45, 3) := by decide +kernel
theorem dX5_readReader_58 : decode cX5_readReader 58 = .ok (.istore_n 2, 1) := by decide +kernel
theorem dX5_readReader_59 : decode cX5_readReader 59 = .ok (.aload_n 0, 1) := by decide +kernel
theorem dX5_readReader_60 : decode cX5_readReader 60 = .ok (.getfield 49, 3) := by decide +kernel
theorem dX5_readReader_63 : decode cX5_readReader 63 = .ok (.istore 4, 2) := by decide +kernel
theorem dX5_readReader_65 : decode cX5_readReader 65 = .ok (.iload_n 2, 1) := by decide +kernel
theorem dX5_readReader_66 : decode cX5_readReader 66 = .ok (.ifCond .ne 10, 3) := by decide +kernel
theorem dX5_readReader_69 : decode cX5_readReader 69 = .ok (.aload_n 0, 1) := by decide +kernel
theorem dX5_readReader_70 : decode cX5_readReader 70 = .ok (.bipush 59, 2) := by decide +kernel
theorem dX5_readReader_72 : decode cX5_readReader 72 = .ok (.invokevirtual 41, 3) := by decide +kernel
theorem dX5_readReader_75 : decode cX5_readReader 75 = .ok (.istore_n 2, 1) := by decide +kernel
theorem dX5_readReader_76 : decode cX5_readReader 76 = .ok (.iload_n 2, 1) := by decide +kernel
theorem dX5_readReader_77 : decode cX5_readReader 77 = .ok (.ifCond .ne 10, 3) := by decide +kernel
theorem dX5_readReader_80 : decode cX5_readReader 80 = .ok (.aload_n 1, 1) := by decide +kernel
theorem dX5_readReader_81 : decode cX5_readReader 81 = .ok (.iload_n 3, 1) := by decide +kernel
theorem dX5_readReader_82 : decode cX5_readReader 82 = .ok (.iload 4, 2) := by decide +kernel
theorem dX5_readReader_84 : decode cX5_readReader 84 = .ok (.invokevirtual 69, 3) := by decide +kernel
theorem dX5_readReader_87 : decode cX5_readReader 87 = .ok (.iload_n 2, 1) := by decide +kernel
theorem dX5_readReader_88 : decode cX5_readReader 88 = .ok (.ireturn, 1) := by decide +kernel
set_option maxRecDepth 100000 in
set_option maxHeartbeats 4000000 in
theorem X5_readReader_b76_ok (G : Gt) (o : Nat) (p1 : Nat) (ho : kd o = 5) (hp1 : kd p1 = 3)    (x2 : Int32) (x3 : Int32) (x4 : Int32) (mem : Mem) : EvR tvI G cX5_readReader 5 (some .int) RX5 3 76 [(1, .ref (gA G p1)), (2, .int (x2)), (3, .int (x3)), (4, .int (x4))] [] mem (X5_readReader_b76 o p1 x2 x3 x4 mem) := by
  unfold X5_readReader_b76
  refine ev_iload_n (q := 77) dX5_readReader_76 rfl 1 rfl rfl ?_
  refine ev_if_ne (t := 87) (q := 80) dX5_readReader_77 rfl rfl (fun hc14 => ?_) (fun hc14 => ?_)
  · refine ev_aload_n (q := 81) dX5_readReader_80 rfl 0 rfl rfl ?_
    refine ev_iload_n (q := 82) dX5_readReader_81 rfl 2 rfl rfl ?_
    refine ev_iload (q := 84) dX5_readReader_82 3 rfl rfl ?_
    refine ev_callVU (q := 87) dX5_readReader_84 rfl ml_X5_69 mt_X3_addReader cf_3 rfl hp1 hc_3 (con_X3_addReader G _ _ _ hp1 _) rfl (Nat.le_of_ble_eq_true rfl) (Nat.le_of_ble_eq_true rfl) rfl (Nat.le_of_ble_eq_true rfl) (fun r15 m16 => ?_)
    refine ev_iload_n (q := 88) dX5_readReader_87 rfl 1 rfl rfl ?_
    exact ev_iret dX5_readReader_88 rfl
  · refine ev_iload_n (q := 88) dX5_readReader_87 rfl 1 rfl rfl ?_
    exact ev_iret dX5_readReader_88 rfl
set_option maxRecDepth 100000 in
set_option maxHeartbeats 4000000 in
theorem X5_readReader_b59_ok (G : Gt) (o : Nat) (p1 : Nat) (ho : kd o = 5) (hp1 : kd p1 = 3)    (x2 : Int32) (x3 : Int32) (mem : Mem) : EvR tvI G cX5_readReader 5 (some .int) RX5 3 59 [(0, .ref (gA G o)), (1, .ref (gA G p1)), (2, .int (x2)), (3, .int (x3))] [] mem (X5_readReader_b59 o p1 x2 x3 mem) := by
  unfold X5_readReader_b59
  refine ev_aload_n (q := 60) dX5_readReader_59 rfl 0 rfl rfl ?_
  refine ev_getI (q := 63) (ci := 5) (j := 3) (T := TX5) dX5_readReader_60 rfl cf_5 ho hj_5_3 hc_5 gf_X5_49 rfl ?_
  refine ev_istore (q := 65) (lv2 := [(4, .int _), (0, .ref _), (1, .ref _), (2, .int _), (3, .int _)]) dX5_readReader_63 rfl (Nat.le_of_ble_eq_true rfl) rfl ?_
  refine ev_iload_n (q := 66) dX5_readReader_65 rfl 3 rfl rfl ?_
  refine ev_if_ne (t := 76) (q := 69) dX5_readReader_66 rfl rfl (fun hc11 => ?_) (fun hc11 => ?_)
  · refine ev_aload_n (q := 70) dX5_readReader_69 rfl 1 rfl rfl ?_
    refine ev_bipush (q := 72) (v := 59) dX5_readReader_70 rfl lb_59 ?_
    refine ev_callVI (q := 75) dX5_readReader_72 rfl ml_X5_41 mt_X5_takeSign cf_5 rfl ho hc_5 (con_X5_takeSign G _ _ ho _) rfl (Nat.le_of_ble_eq_true rfl) (Nat.le_of_ble_eq_true rfl) rfl (Nat.le_of_ble_eq_true rfl) (fun r12 m13 => ?_)
    refine ev_istore_n (q := 76) (lv2 := [(2, .int _), (4, .int _), (0, .ref _), (1, .ref _), (3, .int _)]) dX5_readReader_75 rfl rfl (Nat.le_of_ble_eq_true rfl) rfl ?_
    refine ev_sub (lv' := [(1, .ref _), (2, .int _), (3, .int _), (4, .int _)]) [3, 0, 4, 1] rfl ?_
    exact X5_readReader_b76_ok G o p1 ho hp1   _ _ _ _
  · refine ev_sub (lv' := [(1, .ref _), (2, .int _), (3, .int _), (4, .int _)]) [2, 3, 4, 0] rfl ?_
    exact X5_readReader_b76_ok G o p1 ho hp1   _ _ _ _
set_option maxRecDepth 100000 in
set_option maxHeartbeats 4000000 in
theorem X5_readReader_b44_ok (G : Gt) (o : Nat) (p1 : Nat) (ho : kd o = 5) (hp1 : kd p1 = 3)    (x2 : Int32) (x3 : Int32) (mem : Mem) : EvR tvI G cX5_readReader 5 (some .int) RX5 3 44 [(0, .ref (gA G o)), (1, .ref (gA G p1)), (2, .int (x2)), (3, .int (x3))] [] mem (X5_readReader_b44 o p1 x2 x3 mem) := by
  unfold X5_readReader_b44
  refine ev_iload_n (q := 45) dX5_readReader_44 rfl 2 rfl rfl ?_
  refine ev_if_ne (t := 59) (q := 48) dX5_readReader_45 rfl rfl (fun hc8 => ?_) (fun hc8 => ?_)
  · refine ev_aload_n (q := 49) dX5_readReader_48 rfl 0 rfl rfl ?_
    refine ev_iload_n (q := 50) dX5_readReader_49 rfl 3 rfl rfl ?_
    refine ev_iconst (q := 51) (v := 1) dX5_readReader_50 rfl li_1 ?_
    refine ev_iadd (q := 52) dX5_readReader_51 rfl ?_
    refine ev_sipush (q := 55) (v := 999) dX5_readReader_52 rfl ls_999 ?_
    refine ev_callVI (q := 58) dX5_readReader_55 rfl ml_X5_45 mt_X5_takeNumber cf_5 rfl ho hc_5 (con_X5_takeNumber G _ _ _ ho _) rfl (Nat.le_of_ble_eq_true rfl) (Nat.le_of_ble_eq_true rfl) rfl (Nat.le_of_ble_eq_true rfl) (fun r9 m10 => ?_)
    refine ev_istore_n (q := 59) (lv2 := [(2, .int _), (0, .ref _), (1, .ref _), (3, .int _)]) dX5_readReader_58 rfl rfl (Nat.le_of_ble_eq_true rfl) rfl ?_
    refine ev_sub (lv' := [(0, .ref _), (1, .ref _), (2, .int _), (3, .int _)]) [1, 2, 0, 3] rfl ?_
    exact X5_readReader_b59_ok G o p1 ho hp1   _ _ _
  · exact X5_readReader_b59_ok G o p1 ho hp1   _ _ _
set_option maxRecDepth 100000 in
set_option maxHeartbeats 4000000 in
theorem con_X5_readReader (G : Gt) (o : Nat) (p1 : Nat) (ho : kd o = 5) (hp1 : kd p1 = 3) (mem : Mem) : Con tvI G yX5_readReader cX5_readReader 5 (some .int) 3 [.ref (gA G o), .ref (gA G p1)] mem (X5_readReader o p1 mem) := by
  refine con_of (by decide) (Nat.le_of_ble_eq_true rfl) ?_
  show EvR tvI G cX5_readReader 5 (some .int) RX5 3 0 [(0, .ref (gA G o)), (1, .ref (gA G p1))] [] mem _
  unfold X5_readReader
  refine ev_aload_n (q := 1) dX5_readReader_0 rfl 1 rfl rfl ?_
  refine ev_getI (q := 4) (ci := 3) (j := 7) (T := TX3) dX5_readReader_1 rfl cf_3 hp1 hj_3_7 hc_3 gf_X5_59 rfl ?_
  refine ev_iconst (q := 5) (v := 4) dX5_readReader_4 rfl li_4 ?_
  refine ev_icmp_lt (t := 10) (q := 8) dX5_readReader_5 rfl rfl (fun hc1 => ?_) (fun hc1 => ?_)
  · refine ev_aload_n (q := 11) dX5_readReader_10 rfl 0 rfl rfl ?_
    refine ev_dup (q := 12) dX5_readReader_11 rfl rfl ?_
    refine ev_getI (q := 15) (ci := 5) (j := 2) (T := TX5) dX5_readReader_12 rfl cf_5 ho hj_5_2 hc_5 gf_X5_24 rfl ?_
    refine ev_iconst (q := 16) (v := 1) dX5_readReader_15 rfl li_1 ?_
    refine ev_iadd (q := 17) dX5_readReader_16 rfl ?_
    refine ev_putI (q := 20) (ci := 5) (j := 2) (T := TX5) dX5_readReader_17 rfl cf_5 ho hj_5_2 hc_5 gf_X5_24 rfl rfl (tyX5_ok 2 hj_5_2) ?_
    refine ev_aload_n (q := 21) dX5_readReader_20 rfl 0 rfl rfl ?_
    refine ev_iconst (q := 22) (v := 0) dX5_readReader_21 rfl li_0 ?_
    refine ev_bipush (q := 24) (v := 99) dX5_readReader_22 rfl lb_99 ?_
    refine ev_callVI (q := 27) dX5_readReader_24 rfl ml_X5_45 mt_X5_takeNumber cf_5 rfl ho hc_5 (con_X5_takeNumber G _ _ _ ho _) rfl (Nat.le_of_ble_eq_true rfl) (Nat.le_of_ble_eq_true rfl) rfl (Nat.le_of_ble_eq_true rfl) (fun r3 m4 => ?_)
    refine ev_istore_n (q := 28) (lv2 := [(2, .int _), (0, .ref _), (1, .ref _)]) dX5_readReader_27 rfl rfl (Nat.le_of_ble_eq_true rfl) rfl ?_
    refine ev_aload_n (q := 29) dX5_readReader_28 rfl 1 rfl rfl ?_
    refine ev_getI (q := 32) (ci := 5) (j := 3) (T := TX5) dX5_readReader_29 rfl cf_5 ho hj_5_3 hc_5 gf_X5_49 rfl ?_
    refine ev_istore_n (q := 33) (lv2 := [(3, .int _), (2, .int _), (0, .ref _), (1, .ref _)]) dX5_readReader_32 rfl rfl (Nat.le_of_ble_eq_true rfl) rfl ?_
    refine ev_iload_n (q := 34) dX5_readReader_33 rfl 1 rfl rfl ?_
    refine ev_if_ne (t := 44) (q := 37) dX5_readReader_34 rfl rfl (fun hc5 => ?_) (fun hc5 => ?_)
    · refine ev_aload_n (q := 38) dX5_readReader_37 rfl 2 rfl rfl ?_
      refine ev_bipush (q := 40) (v := 44) dX5_readReader_38 rfl lb_44 ?_
      refine ev_callVI (q := 43) dX5_readReader_40 rfl ml_X5_41 mt_X5_takeSign cf_5 rfl ho hc_5 (con_X5_takeSign G _ _ ho _) rfl (Nat.le_of_ble_eq_true rfl) (Nat.le_of_ble_eq_true rfl) rfl (Nat.le_of_ble_eq_true rfl) (fun r6 m7 => ?_)
      refine ev_istore_n (q := 44) (lv2 := [(2, .int _), (3, .int _), (0, .ref _), (1, .ref _)]) dX5_readReader_43 rfl rfl (Nat.le_of_ble_eq_true rfl) rfl ?_
      refine ev_sub (lv' := [(0, .ref _), (1, .ref _), (2, .int _), (3, .int _)]) [2, 3, 0, 1] rfl ?_
      exact X5_readReader_b44_ok G o p1 ho hp1   _ _ _
    · refine ev_sub (lv' := [(0, .ref _), (1, .ref _), (2, .int _), (3, .int _)]) [2, 3, 1, 0] rfl ?_
      exact X5_readReader_b44_ok G o p1 ho hp1   _ _ _
  · refine ev_iconst (q := 9) (v := 3) dX5_readReader_8 rfl li_3 ?_
    exact ev_iret dX5_readReader_9 rfl
/-! AgingLetters$Tape.kindAtPlace()I -/
theorem dX5_kindAtPlace_0 : decode cX5_kindAtPlace 0 = .ok (.aload_n 0, 1) := by decide +kernel
theorem dX5_kindAtPlace_1 : decode cX5_kindAtPlace 1 = .ok (.getfield 11, 3) := by decide +kernel
theorem dX5_kindAtPlace_4 : decode cX5_kindAtPlace 4 = .ok (.aload_n 0, 1) := by decide +kernel
theorem dX5_kindAtPlace_5 : decode cX5_kindAtPlace 5 = .ok (.getfield 24, 3) := by decide +kernel
theorem dX5_kindAtPlace_8 : decode cX5_kindAtPlace 8 = .ok (.iaload, 1) := by decide +kernel
theorem dX5_kindAtPlace_9 : decode cX5_kindAtPlace 9 = .ok (.lookupswitch 61 #[(102, 57), (108, 55), (112, 51), (115, 59), (118, 53)], 51) := by decide +kernel
theorem dX5_kindAtPlace_60 : decode cX5_kindAtPlace 60 = .ok (.iconst 1, 1) := by decide +kernel
theorem dX5_kindAtPlace_61 : decode cX5_kindAtPlace 61 = .ok (.ireturn, 1) := by decide +kernel
theorem dX5_kindAtPlace_62 : decode cX5_kindAtPlace 62 = .ok (.iconst 2, 1) := by decide +kernel
theorem dX5_kindAtPlace_63 : decode cX5_kindAtPlace 63 = .ok (.ireturn, 1) := by decide +kernel
theorem dX5_kindAtPlace_64 : decode cX5_kindAtPlace 64 = .ok (.iconst 3, 1) := by decide +kernel
theorem dX5_kindAtPlace_65 : decode cX5_kindAtPlace 65 = .ok (.ireturn, 1) := by decide +kernel
theorem dX5_kindAtPlace_66 : decode cX5_kindAtPlace 66 = .ok (.iconst 4, 1) := by decide +kernel
theorem dX5_kindAtPlace_67 : decode cX5_kindAtPlace 67 = .ok (.ireturn, 1) := by decide +kernel
theorem dX5_kindAtPlace_68 : decode cX5_kindAtPlace 68 = .ok (.iconst 5, 1) := by decide +kernel
theorem dX5_kindAtPlace_69 : decode cX5_kindAtPlace 69 = .ok (.ireturn, 1) := by decide +kernel
theorem dX5_kindAtPlace_70 : decode cX5_kindAtPlace 70 = .ok (.iconst 0, 1) := by decide +kernel
theorem dX5_kindAtPlace_71 : decode cX5_kindAtPlace 71 = .ok (.ireturn, 1) := by decide +kernel
set_option maxRecDepth 100000 in
set_option maxHeartbeats 4000000 in
theorem con_X5_kindAtPlace (G : Gt) (o : Nat) (ho : kd o = 5) (mem : Mem) : Con tvI G yX5_kindAtPlace cX5_kindAtPlace 1 (some .int) 1 [.ref (gA G o)] mem (X5_kindAtPlace o mem) := by
  refine con_of (by decide) (Nat.le_of_ble_eq_true rfl) ?_
  show EvR tvI G cX5_kindAtPlace 1 (some .int) RX5 1 0 [(0, .ref (gA G o))] [] mem _
  unfold X5_kindAtPlace
  refine ev_aload_n (q := 1) dX5_kindAtPlace_0 rfl 0 rfl rfl ?_
  refine ev_getR (q := 4) (ci := 5) (j := 0) (T := TX5) dX5_kindAtPlace_1 rfl cf_5 ho hj_5_0 hc_5 gf_X5_11 rfl ?_
  refine ev_aload_n (q := 5) dX5_kindAtPlace_4 rfl 0 rfl rfl ?_
  refine ev_getI (q := 8) (ci := 5) (j := 2) (T := TX5) dX5_kindAtPlace_5 rfl cf_5 ho hj_5_2 hc_5 gf_X5_24 rfl ?_
  refine ev_iald (q := 9) dX5_kindAtPlace_8 rfl (kr_5_0 ho) (fun z1 => ?_)
  refine ev_ite (fun hc2 => ?_) (fun hc2 => ?_)
  · subst hc2
    refine ev_look (t := 66) (off := 57) dX5_kindAtPlace_9 (by decide) (by decide) rfl ?_
    refine ev_iconst (q := 67) (v := 4) dX5_kindAtPlace_66 rfl li_4 ?_
    exact ev_iret dX5_kindAtPlace_67 rfl
  refine ev_ite (fun hc3 => ?_) (fun hc3 => ?_)
  · subst hc3
    refine ev_look (t := 64) (off := 55) dX5_kindAtPlace_9 (by decide) (by decide) rfl ?_
    refine ev_iconst (q := 65) (v := 3) dX5_kindAtPlace_64 rfl li_3 ?_
    exact ev_iret dX5_kindAtPlace_65 rfl
  refine ev_ite (fun hc4 => ?_) (fun hc4 => ?_)
  · subst hc4
    refine ev_look (t := 60) (off := 51) dX5_kindAtPlace_9 (by decide) (by decide) rfl ?_
    refine ev_iconst (q := 61) (v := 1) dX5_kindAtPlace_60 rfl li_1 ?_
    exact ev_iret dX5_kindAtPlace_61 rfl
  refine ev_ite (fun hc5 => ?_) (fun hc5 => ?_)
  · subst hc5
    refine ev_look (t := 68) (off := 59) dX5_kindAtPlace_9 (by decide) (by decide) rfl ?_
    refine ev_iconst (q := 69) (v := 5) dX5_kindAtPlace_68 rfl li_5 ?_
    exact ev_iret dX5_kindAtPlace_69 rfl
  refine ev_ite (fun hc6 => ?_) (fun hc6 => ?_)
  · subst hc6
    refine ev_look (t := 62) (off := 53) dX5_kindAtPlace_9 (by decide) (by decide) rfl ?_
    refine ev_iconst (q := 63) (v := 2) dX5_kindAtPlace_62 rfl li_2 ?_
    exact ev_iret dX5_kindAtPlace_63 rfl
  refine ev_look (t := 70) (off := 61) dX5_kindAtPlace_9 (by decide) (by show Op.lookupswitch.offset _ _ _ = _; rw [lv_osw hc2 (by decide)]; rw [lv_osw hc3 (by decide)]; rw [lv_osw hc4 (by decide)]; rw [lv_osw hc5 (by decide)]; rw [lv_osw hc6 (by decide)]; rfl) rfl ?_
  refine ev_iconst (q := 71) (v := 0) dX5_kindAtPlace_70 rfl li_0 ?_
  exact ev_iret dX5_kindAtPlace_71 rfl
/-! AgingLetters$Tape.readLetter(LAgingLetters$Office;)I -/
theorem dX5_readLetter_0 : decode cX5_readLetter 0 = .ok (.aload_n 0, 1) := by decide +kernel
theorem dX5_readLetter_1 : decode cX5_readLetter 1 = .ok (.invokevirtual 55, 3) := by decide +kernel
theorem dX5_readLetter_4 : decode cX5_readLetter 4 = .ok (.istore_n 2, 1) := by decide +kernel
theorem dX5_readLetter_5 : decode cX5_readLetter 5 = .ok (.iload_n 2, 1) := by decide +kernel
theorem dX5_readLetter_6 : decode cX5_readLetter 6 = .ok (.ifCond .eq 10, 3) := by decide +kernel
theorem dX5_readLetter_9 : decode cX5_readLetter 9 = .ok (.aload_n 1, 1) := by decide +kernel
theorem dX5_readLetter_10 : decode cX5_readLetter 10 = .ok (.getfield 59, 3) := by decide +kernel
theorem dX5_readLetter_13 : decode cX5_readLetter 13 = .ok (.ifCond .le 5, 3) := by decide +kernel
theorem dX5_readLetter_16 : decode cX5_readLetter 16 = .ok (.iconst 1, 1) := by decide +kernel
theorem dX5_readLetter_17 : decode cX5_readLetter 17 = .ok (.ireturn, 1) := by decide +kernel
theorem dX5_readLetter_18 : decode cX5_readLetter 18 = .ok (.aload_n 1, 1) := by decide +kernel
theorem dX5_readLetter_19 : decode cX5_readLetter 19 = .ok (.getfield 62, 3) := by decide +kernel
theorem dX5_readLetter_22 : decode cX5_readLetter 22 = .ok (.bipush 6, 2) := by decide +kernel
theorem dX5_readLetter_24 : decode cX5_readLetter 24 = .ok (.if_icmp .lt 5, 3) := by decide +kernel
theorem dX5_readLetter_27 : decode cX5_readLetter 27 = .ok (.iconst 3, 1) := by decide +kernel
theorem dX5_readLetter_28 : decode cX5_readLetter 28 = .ok (.ireturn, 1) := by decide +kernel
theorem dX5_readLetter_29 : decode cX5_readLetter 29 = .ok (.aload_n 0, 1) := by decide +kernel
theorem dX5_readLetter_30 : decode cX5_readLetter 30 = .ok (.dup, 1) := by decide +kernel
theorem dX5_readLetter_31 : decode cX5_readLetter 31 = .ok (.getfield 24, 3) := by decide +kernel
theorem dX5_readLetter_34 : decode cX5_readLetter 34 = .ok (.iconst 1, 1) := by decide +kernel
theorem dX5_readLetter_35 : decode cX5_readLetter 35 = .ok (.iadd, 1) := by decide +kernel
theorem dX5_readLetter_36 : decode cX5_readLetter 36 = .ok (.putfield 24, 3) := by decide +kernel
theorem dX5_readLetter_39 : decode cX5_readLetter 39 = .ok (.aload_n 0, 1) := by decide +kernel
theorem dX5_readLetter_40 : decode cX5_readLetter 40 = .ok (.iconst 1, 1) := by decide +kernel
theorem dX5_readLetter_41 : decode cX5_readLetter 41 = .ok (.bipush 40, 2) := by decide +kernel
theorem dX5_readLetter_43 : decode cX5_readLetter 43 = .ok (.invokevirtual 45, 3) := by decide +kernel
theorem dX5_readLetter_46 : decode cX5_readLetter 46 = .ok (.istore_n 3, 1) := by decide +kernel
theorem dX5_readLetter_47 : decode cX5_readLetter 47 = .ok (.aload_n 0, 1) := by decide +kernel
theorem dX5_readLetter_48 : decode cX5_readLetter 48 = .ok (.getfield 49, 3) := by decide +kernel
theorem dX5_readLetter_51 : decode cX5_readLetter 51 = .ok (.istore 4, 2) := by decide +kernel
theorem dX5_readLetter_53 : decode cX5_readLetter 53 = .ok (.iload_n 3, 1) := by decide +kernel
theorem dX5_readLetter_54 : decode cX5_readLetter 54 = .ok (.ifCond .ne 10, 3) := by decide +kernel
theorem dX5_readLetter_57 : decode cX5_readLetter 57 = .ok (.aload_n 0, 1) := by decide +kernel
theorem dX5_readLetter_58 : decode cX5_readLetter 58 = .ok (.bipush 44, 2) := by decide +kernel
theorem dX5_readLetter_60 : decode cX5_readLetter 60 = .ok (.invokevirtual 41, 3) := by decide +kernel
theorem dX5_readLetter_63 : decode cX5_readLetter 63 = .ok (.istore_n 3, 1) := by decide +kernel
theorem dX5_readLetter_64 : decode cX5_readLetter 64 = .ok (.iload_n 3, 1) := by decide +kernel
theorem dX5_readLetter_65 : decode cX5_readLetter 65 = .ok (.ifCond .ne 11, 3) := by decide +kernel
theorem dX5_readLetter_68 : decode cX5_readLetter 68 = .ok (.aload_n 0, 1) := by decide +kernel
theorem dX5_readLetter_69 : decode cX5_readLetter 69 = .ok (.iconst 1, 1) := by decide +kernel
theorem dX5_readLetter_70 : decode cX5_readLetter 70 = .ok (.bipush 99, 2) := by decide +kernel
theorem dX5_readLetter_72 : decode cX5_readLetter 72 = .ok (.invokevirtual 45, 3) := by decide +kernel
theorem dX5_readLetter_75 : decode cX5_readLetter 75 = .ok (.istore_n 3, 1) := by decide +kernel
theorem dX5_readLetter_76 : decode cX5_readLetter 76 = .ok (.aload_n 0, 1) := by decide +kernel
theorem dX5_readLetter_77 : decode cX5_readLetter 77 = .ok (.getfield 49, 3) := by decide +kernel
theorem dX5_readLetter_80 : decode cX5_readLetter 80 = .ok (.istore 5, 2) := by decide +kernel
theorem dX5_readLetter_82 : decode cX5_readLetter 82 = .ok (.iload_n 3, 1) := by decide +kernel
theorem dX5_readLetter_83 : decode cX5_readLetter 83 = .ok (.ifCond .ne 10, 3) := by decide +kernel
theorem dX5_readLetter_86 : decode cX5_readLetter 86 = .ok (.aload_n 0, 1) := by decide +kernel
theorem dX5_readLetter_87 : decode cX5_readLetter 87 = .ok (.bipush 59, 2) := by decide +kernel
theorem dX5_readLetter_89 : decode cX5_readLetter 89 = .ok (.invokevirtual 41, 3) := by decide +kernel
theorem dX5_readLetter_92 : decode cX5_readLetter 92 = .ok (.istore_n 3, 1) := by decide +kernel
theorem dX5_readLetter_93 : decode cX5_readLetter 93 = .ok (.iload_n 3, 1) := by decide +kernel
theorem dX5_readLetter_94 : decode cX5_readLetter 94 = .ok (.ifCond .ne 12, 3) := by decide +kernel
theorem dX5_readLetter_97 : decode cX5_readLetter 97 = .ok (.aload_n 1, 1) := by decide +kernel
theorem dX5_readLetter_98 : decode cX5_readLetter 98 = .ok (.iload_n 2, 1) := by decide +kernel
theorem dX5_readLetter_99 : decode cX5_readLetter 99 = .ok (.iload 4, 2) := by decide +kernel
theorem dX5_readLetter_101 : decode cX5_readLetter 101 = .ok (.iload 5, 2) := by decide +kernel
theorem dX5_readLetter_103 : decode cX5_readLetter 103 = .ok (.invokevirtual 65, 3) := by decide +kernel
theorem dX5_readLetter_106 : decode cX5_readLetter 106 = .ok (.iload_n 3, 1) := by decide +kernel
theorem dX5_readLetter_107 : decode cX5_readLetter 107 = .ok (.ireturn, 1) := by decide +kernel
set_option maxRecDepth 100000 in
set_option maxHeartbeats 4000000 in
theorem X5_readLetter_b93_ok (G : Gt) (o : Nat) (p1 : Nat) (ho : kd o = 5) (hp1 : kd p1 = 3)    (x2 : Int32) (x3 : Int32) (x4 : Int32) (x5 : Int32) (mem : Mem) : EvR tvI G cX5_readLetter 6 (some .int) RX5 3 93 [(1, .ref (gA G p1)), (2, .int (x2)), (3, .int (x3)), (4, .int (x4)), (5, .int (x5))] [] mem (X5_readLetter_b93 o p1 x2 x3 x4 x5 mem) := by
  unfold X5_readLetter_b93
  refine ev_iload_n (q := 94) dX5_readLetter_93 rfl 2 rfl rfl ?_
  refine ev_if_ne (t := 106) (q := 97) dX5_readLetter_94 rfl rfl (fun hc18 => ?_) (fun hc18 => ?_)
  · refine ev_aload_n (q := 98) dX5_readLetter_97 rfl 0 rfl rfl ?_
    refine ev_iload_n (q := 99) dX5_readLetter_98 rfl 1 rfl rfl ?_
    refine ev_iload (q := 101) dX5_readLetter_99 3 rfl rfl ?_
    refine ev_iload (q := 103) dX5_readLetter_101 4 rfl rfl ?_
    refine ev_callVU (q := 106) dX5_readLetter_103 rfl ml_X5_65 mt_X3_addLetter cf_3 rfl hp1 hc_3 (con_X3_addLetter G _ _ _ _ hp1 _) rfl (Nat.le_of_ble_eq_true rfl) (Nat.le_of_ble_eq_true rfl) rfl (Nat.le_of_ble_eq_true rfl) (fun r19 m20 => ?_)
    refine ev_iload_n (q := 107) dX5_readLetter_106 rfl 2 rfl rfl ?_
    exact ev_iret dX5_readLetter_107 rfl
  · refine ev_iload_n (q := 107) dX5_readLetter_106 rfl 2 rfl rfl ?_
    exact ev_iret dX5_readLetter_107 rfl
set_option maxRecDepth 100000 in
set_option maxHeartbeats 4000000 in
theorem X5_readLetter_b76_ok (G : Gt) (o : Nat) (p1 : Nat) (ho : kd o = 5) (hp1 : kd p1 = 3)    (x2 : Int32) (x3 : Int32) (x4 : Int32) (mem : Mem) : EvR tvI G cX5_readLetter 6 (some .int) RX5 3 76 [(0, .ref (gA G o)), (1, .ref (gA G p1)), (2, .int (x2)), (3, .int (x3)), (4, .int (x4))] [] mem (X5_readLetter_b76 o p1 x2 x3 x4 mem) := by
  unfold X5_readLetter_b76
  refine ev_aload_n (q := 77) dX5_readLetter_76 rfl 0 rfl rfl ?_
  refine ev_getI (q := 80) (ci := 5) (j := 3) (T := TX5) dX5_readLetter_77 rfl cf_5 ho hj_5_3 hc_5 gf_X5_49 rfl ?_
  refine ev_istore (q := 82) (lv2 := [(5, .int _), (0, .ref _), (1, .ref _), (2, .int _), (3, .int _), (4, .int _)]) dX5_readLetter_80 rfl (Nat.le_of_ble_eq_true rfl) rfl ?_
  refine ev_iload_n (q := 83) dX5_readLetter_82 rfl 4 rfl rfl ?_
  refine ev_if_ne (t := 93) (q := 86) dX5_readLetter_83 rfl rfl (fun hc15 => ?_) (fun hc15 => ?_)
  · refine ev_aload_n (q := 87) dX5_readLetter_86 rfl 1 rfl rfl ?_
    refine ev_bipush (q := 89) (v := 59) dX5_readLetter_87 rfl lb_59 ?_
    refine ev_callVI (q := 92) dX5_readLetter_89 rfl ml_X5_41 mt_X5_takeSign cf_5 rfl ho hc_5 (con_X5_takeSign G _ _ ho _) rfl (Nat.le_of_ble_eq_true rfl) (Nat.le_of_ble_eq_true rfl) rfl (Nat.le_of_ble_eq_true rfl) (fun r16 m17 => ?_)
    refine ev_istore_n (q := 93) (lv2 := [(3, .int _), (5, .int _), (0, .ref _), (1, .ref _), (2, .int _), (4, .int _)]) dX5_readLetter_92 rfl rfl (Nat.le_of_ble_eq_true rfl) rfl ?_
    refine ev_sub (lv' := [(1, .ref _), (2, .int _), (3, .int _), (4, .int _), (5, .int _)]) [3, 4, 0, 5, 1] rfl ?_
    exact X5_readLetter_b93_ok G o p1 ho hp1   _ _ _ _ _
  · refine ev_sub (lv' := [(1, .ref _), (2, .int _), (3, .int _), (4, .int _), (5, .int _)]) [2, 3, 4, 5, 0] rfl ?_
    exact X5_readLetter_b93_ok G o p1 ho hp1   _ _ _ _ _
set_option maxRecDepth 100000 in
set_option maxHeartbeats 4000000 in
theorem X5_readLetter_b64_ok (G : Gt) (o : Nat) (p1 : Nat) (ho : kd o = 5) (hp1 : kd p1 = 3)    (x2 : Int32) (x3 : Int32) (x4 : Int32) (mem : Mem) : EvR tvI G cX5_readLetter 6 (some .int) RX5 3 64 [(0, .ref (gA G o)), (1, .ref (gA G p1)), (2, .int (x2)), (3, .int (x3)), (4, .int (x4))] [] mem (X5_readLetter_b64 o p1 x2 x3 x4 mem) := by
  unfold X5_readLetter_b64
  refine ev_iload_n (q := 65) dX5_readLetter_64 rfl 3 rfl rfl ?_
  refine ev_if_ne (t := 76) (q := 68) dX5_readLetter_65 rfl rfl (fun hc12 => ?_) (fun hc12 => ?_)
  · refine ev_aload_n (q := 69) dX5_readLetter_68 rfl 0 rfl rfl ?_
    refine ev_iconst (q := 70) (v := 1) dX5_readLetter_69 rfl li_1 ?_
    refine ev_bipush (q := 72) (v := 99) dX5_readLetter_70 rfl lb_99 ?_
    refine ev_callVI (q := 75) dX5_readLetter_72 rfl ml_X5_45 mt_X5_takeNumber cf_5 rfl ho hc_5 (con_X5_takeNumber G _ _ _ ho _) rfl (Nat.le_of_ble_eq_true rfl) (Nat.le_of_ble_eq_true rfl) rfl (Nat.le_of_ble_eq_true rfl) (fun r13 m14 => ?_)
    refine ev_istore_n (q := 76) (lv2 := [(3, .int _), (0, .ref _), (1, .ref _), (2, .int _), (4, .int _)]) dX5_readLetter_75 rfl rfl (Nat.le_of_ble_eq_true rfl) rfl ?_
    refine ev_sub (lv' := [(0, .ref _), (1, .ref _), (2, .int _), (3, .int _), (4, .int _)]) [1, 2, 3, 0, 4] rfl ?_
    exact X5_readLetter_b76_ok G o p1 ho hp1   _ _ _ _
  · exact X5_readLetter_b76_ok G o p1 ho hp1   _ _ _ _
set_option maxRecDepth 100000 in
set_option maxHeartbeats 4000000 in
theorem con_X5_readLetter (G : Gt) (o : Nat) (p1 : Nat) (ho : kd o = 5) (hp1 : kd p1 = 3) (mem : Mem) : Con tvI G yX5_readLetter cX5_readLetter 6 (some .int) 3 [.ref (gA G o), .ref (gA G p1)] mem (X5_readLetter o p1 mem) := by
  refine con_of (by decide) (Nat.le_of_ble_eq_true rfl) ?_
  show EvR tvI G cX5_readLetter 6 (some .int) RX5 3 0 [(0, .ref (gA G o)), (1, .ref (gA G p1))] [] mem _
  unfold X5_readLetter
  refine ev_aload_n (q := 1) dX5_readLetter_0 rfl 0 rfl rfl ?_
  refine ev_callVI (q := 4) dX5_readLetter_1 rfl ml_X5_55 mt_X5_kindAtPlace cf_5 rfl ho hc_5 (con_X5_kindAtPlace G _ ho _) rfl (Nat.le_of_ble_eq_true rfl) (Nat.le_of_ble_eq_true rfl) rfl (Nat.le_of_ble_eq_true rfl) (fun r1 m2 => ?_)
  refine ev_istore_n (q := 5) (lv2 := [(2, .int _), (0, .ref _), (1, .ref _)]) dX5_readLetter_4 rfl rfl (Nat.le_of_ble_eq_true rfl) rfl ?_
  refine ev_iload_n (q := 6) dX5_readLetter_5 rfl 0 rfl rfl ?_
  refine ev_if_eq (t := 16) (q := 9) dX5_readLetter_6 rfl rfl (fun hc3 => ?_) (fun hc3 => ?_)
  · refine ev_iconst (q := 17) (v := 1) dX5_readLetter_16 rfl li_1 ?_
    exact ev_iret dX5_readLetter_17 rfl
  · refine ev_aload_n (q := 10) dX5_readLetter_9 rfl 2 rfl rfl ?_
    refine ev_getI (q := 13) (ci := 3) (j := 7) (T := TX3) dX5_readLetter_10 rfl cf_3 hp1 hj_3_7 hc_3 gf_X5_59 rfl ?_
    refine ev_if_le (t := 18) (q := 16) dX5_readLetter_13 rfl rfl (fun hc4 => ?_) (fun hc4 => ?_)
    · refine ev_iconst (q := 17) (v := 1) dX5_readLetter_16 rfl li_1 ?_
      exact ev_iret dX5_readLetter_17 rfl
    · refine ev_aload_n (q := 19) dX5_readLetter_18 rfl 2 rfl rfl ?_
      refine ev_getI (q := 22) (ci := 3) (j := 3) (T := TX3) dX5_readLetter_19 rfl cf_3 hp1 hj_3_3 hc_3 gf_X5_62 rfl ?_
      refine ev_bipush (q := 24) (v := 6) dX5_readLetter_22 rfl lb_6 ?_
      refine ev_icmp_lt (t := 29) (q := 27) dX5_readLetter_24 rfl rfl (fun hc5 => ?_) (fun hc5 => ?_)
      · refine ev_aload_n (q := 30) dX5_readLetter_29 rfl 1 rfl rfl ?_
        refine ev_dup (q := 31) dX5_readLetter_30 rfl rfl ?_
        refine ev_getI (q := 34) (ci := 5) (j := 2) (T := TX5) dX5_readLetter_31 rfl cf_5 ho hj_5_2 hc_5 gf_X5_24 rfl ?_
        refine ev_iconst (q := 35) (v := 1) dX5_readLetter_34 rfl li_1 ?_
        refine ev_iadd (q := 36) dX5_readLetter_35 rfl ?_
        refine ev_putI (q := 39) (ci := 5) (j := 2) (T := TX5) dX5_readLetter_36 rfl cf_5 ho hj_5_2 hc_5 gf_X5_24 rfl rfl (tyX5_ok 2 hj_5_2) ?_
        refine ev_aload_n (q := 40) dX5_readLetter_39 rfl 1 rfl rfl ?_
        refine ev_iconst (q := 41) (v := 1) dX5_readLetter_40 rfl li_1 ?_
        refine ev_bipush (q := 43) (v := 40) dX5_readLetter_41 rfl lb_40 ?_
        refine ev_callVI (q := 46) dX5_readLetter_43 rfl ml_X5_45 mt_X5_takeNumber cf_5 rfl ho hc_5 (con_X5_takeNumber G _ _ _ ho _) rfl (Nat.le_of_ble_eq_true rfl) (Nat.le_of_ble_eq_true rfl) rfl (Nat.le_of_ble_eq_true rfl) (fun r7 m8 => ?_)
        refine ev_istore_n (q := 47) (lv2 := [(3, .int _), (2, .int _), (0, .ref _), (1, .ref _)]) dX5_readLetter_46 rfl rfl (Nat.le_of_ble_eq_true rfl) rfl ?_
        refine ev_aload_n (q := 48) dX5_readLetter_47 rfl 2 rfl rfl ?_
        refine ev_getI (q := 51) (ci := 5) (j := 3) (T := TX5) dX5_readLetter_48 rfl cf_5 ho hj_5_3 hc_5 gf_X5_49 rfl ?_
        refine ev_istore (q := 53) (lv2 := [(4, .int _), (3, .int _), (2, .int _), (0, .ref _), (1, .ref _)]) dX5_readLetter_51 rfl (Nat.le_of_ble_eq_true rfl) rfl ?_
        refine ev_iload_n (q := 54) dX5_readLetter_53 rfl 1 rfl rfl ?_
        refine ev_if_ne (t := 64) (q := 57) dX5_readLetter_54 rfl rfl (fun hc9 => ?_) (fun hc9 => ?_)
        · refine ev_aload_n (q := 58) dX5_readLetter_57 rfl 3 rfl rfl ?_
          refine ev_bipush (q := 60) (v := 44) dX5_readLetter_58 rfl lb_44 ?_
          refine ev_callVI (q := 63) dX5_readLetter_60 rfl ml_X5_41 mt_X5_takeSign cf_5 rfl ho hc_5 (con_X5_takeSign G _ _ ho _) rfl (Nat.le_of_ble_eq_true rfl) (Nat.le_of_ble_eq_true rfl) rfl (Nat.le_of_ble_eq_true rfl) (fun r10 m11 => ?_)
          refine ev_istore_n (q := 64) (lv2 := [(3, .int _), (4, .int _), (2, .int _), (0, .ref _), (1, .ref _)]) dX5_readLetter_63 rfl rfl (Nat.le_of_ble_eq_true rfl) rfl ?_
          refine ev_sub (lv' := [(0, .ref _), (1, .ref _), (2, .int _), (3, .int _), (4, .int _)]) [3, 4, 2, 0, 1] rfl ?_
          exact X5_readLetter_b64_ok G o p1 ho hp1   _ _ _ _
        · refine ev_sub (lv' := [(0, .ref _), (1, .ref _), (2, .int _), (3, .int _), (4, .int _)]) [3, 4, 2, 1, 0] rfl ?_
          exact X5_readLetter_b64_ok G o p1 ho hp1   _ _ _ _
      · refine ev_iconst (q := 28) (v := 3) dX5_readLetter_27 rfl li_3 ?_
        exact ev_iret dX5_readLetter_28 rfl
/-! AgingLetters$Tape.readInto(LAgingLetters$Office;)I -/
theorem dX5_readInto_0 : decode cX5_readInto 0 = .ok (.aload_n 1, 1) := by decide +kernel
theorem dX5_readInto_1 : decode cX5_readInto 1 = .ok (.invokevirtual 19, 3) := by decide +kernel
theorem dX5_readInto_4 : decode cX5_readInto 4 = .ok (.aload_n 0, 1) := by decide +kernel
theorem dX5_readInto_5 : decode cX5_readInto 5 = .ok (.iconst 0, 1) := by decide +kernel
theorem dX5_readInto_6 : decode cX5_readInto 6 = .ok (.putfield 24, 3) := by decide +kernel
theorem dX5_readInto_9 : decode cX5_readInto 9 = .ok (.aload_n 0, 1) := by decide +kernel
theorem dX5_readInto_10 : decode cX5_readInto 10 = .ok (.aload_n 1, 1) := by decide +kernel
theorem dX5_readInto_11 : decode cX5_readInto 11 = .ok (.invokevirtual 27, 3) := by decide +kernel
theorem dX5_readInto_14 : decode cX5_readInto 14 = .ok (.istore_n 2, 1) := by decide +kernel
theorem dX5_readInto_15 : decode cX5_readInto 15 = .ok (.iconst 0, 1) := by decide +kernel
theorem dX5_readInto_16 : decode cX5_readInto 16 = .ok (.istore_n 3, 1) := by decide +kernel
theorem dX5_readInto_17 : decode cX5_readInto 17 = .ok (.iload_n 3, 1) := by decide +kernel
theorem dX5_readInto_18 : decode cX5_readInto 18 = .ok (.bipush 120, 2) := by decide +kernel
theorem dX5_readInto_20 : decode cX5_readInto 20 = .ok (.if_icmp .ge 52, 3) := by decide +kernel
theorem dX5_readInto_23 : decode cX5_readInto 23 = .ok (.iload_n 2, 1) := by decide +kernel
theorem dX5_readInto_24 : decode cX5_readInto 24 = .ok (.ifCond .ne 48, 3) := by decide +kernel
theorem dX5_readInto_27 : decode cX5_readInto 27 = .ok (.aload_n 0, 1) := by decide +kernel
theorem dX5_readInto_28 : decode cX5_readInto 28 = .ok (.getfield 24, 3) := by decide +kernel
theorem dX5_readInto_31 : decode cX5_readInto 31 = .ok (.aload_n 0, 1) := by decide +kernel
theorem dX5_readInto_32 : decode cX5_readInto 32 = .ok (.getfield 15, 3) := by decide +kernel
theorem dX5_readInto_35 : decode cX5_readInto 35 = .ok (.if_icmp .ge 37, 3) := by decide +kernel
theorem dX5_readInto_38 : decode cX5_readInto 38 = .ok (.aload_n 0, 1) := by decide +kernel
theorem dX5_readInto_39 : decode cX5_readInto 39 = .ok (.getfield 11, 3) := by decide +kernel
theorem dX5_readInto_42 : decode cX5_readInto 42 = .ok (.aload_n 0, 1) := by decide +kernel
theorem dX5_readInto_43 : decode cX5_readInto 43 = .ok (.getfield 24, 3) := by decide +kernel
theorem dX5_readInto_46 : decode cX5_readInto 46 = .ok (.iaload, 1) := by decide +kernel
theorem dX5_readInto_47 : decode cX5_readInto 47 = .ok (.bipush 114, 2) := by decide +kernel
theorem dX5_readInto_49 : decode cX5_readInto 49 = .ok (.if_icmp .ne 11, 3) := by decide +kernel
theorem dX5_readInto_52 : decode cX5_readInto 52 = .ok (.aload_n 0, 1) := by decide +kernel
theorem dX5_readInto_53 : decode cX5_readInto 53 = .ok (.aload_n 1, 1) := by decide +kernel
theorem dX5_readInto_54 : decode cX5_readInto 54 = .ok (.invokevirtual 31, 3) := by decide +kernel
theorem dX5_readInto_57 : decode cX5_readInto 57 = .ok (.goto 8, 3) := by decide +kernel
theorem dX5_readInto_60 : decode cX5_readInto 60 = .ok (.aload_n 0, 1) := by decide +kernel
theorem dX5_readInto_61 : decode cX5_readInto 61 = .ok (.aload_n 1, 1) := by decide +kernel
theorem dX5_readInto_62 : decode cX5_readInto 62 = .ok (.invokevirtual 34, 3) := by decide +kernel
theorem dX5_readInto_65 : decode cX5_readInto 65 = .ok (.istore_n 2, 1) := by decide +kernel
theorem dX5_readInto_66 : decode cX5_readInto 66 = .ok (.iinc 3 1, 3) := by decide +kernel
theorem dX5_readInto_69 : decode cX5_readInto 69 = .ok (.goto (-52), 3) := by decide +kernel
theorem dX5_readInto_72 : decode cX5_readInto 72 = .ok (.aload_n 1, 1) := by decide +kernel
theorem dX5_readInto_73 : decode cX5_readInto 73 = .ok (.iload_n 2, 1) := by decide +kernel
theorem dX5_readInto_74 : decode cX5_readInto 74 = .ok (.ifCond .ne 7, 3) := by decide +kernel
theorem dX5_readInto_77 : decode cX5_readInto 77 = .ok (.iconst 1, 1) := by decide +kernel
theorem dX5_readInto_78 : decode cX5_readInto 78 = .ok (.goto 4, 3) := by decide +kernel
theorem dX5_readInto_81 : decode cX5_readInto 81 = .ok (.iconst 0, 1) := by decide +kernel
theorem dX5_readInto_82 : decode cX5_readInto 82 = .ok (.putfield 37, 3) := by decide +kernel
theorem dX5_readInto_85 : decode cX5_readInto 85 = .ok (.iload_n 2, 1) := by decide +kernel
theorem dX5_readInto_86 : decode cX5_readInto 86 = .ok (.ireturn, 1) := by decide +kernel
set_option maxRecDepth 100000 in
set_option maxHeartbeats 4000000 in
theorem X5_readInto_b72_ok (G : Gt) (o : Nat) (p1 : Nat) (ho : kd o = 5) (hp1 : kd p1 = 3)    (x2 : Int32) (mem : Mem) : EvR tvI G cX5_readInto 4 (some .int) RX5 4 72 [(1, .ref (gA G p1)), (2, .int (x2))] [] mem (X5_readInto_b72 o p1 x2 mem) := by
  unfold X5_readInto_b72
  refine ev_aload_n (q := 73) dX5_readInto_72 rfl 0 rfl rfl ?_
  refine ev_iload_n (q := 74) dX5_readInto_73 rfl 1 rfl rfl ?_
  refine ev_if_ne (t := 81) (q := 77) dX5_readInto_74 rfl rfl (fun hc15 => ?_) (fun hc15 => ?_)
  · refine ev_iconst (q := 78) (v := 1) dX5_readInto_77 rfl li_1 ?_
    refine ev_goto (t := 82) dX5_readInto_78 rfl ?_
    refine ev_putZ (q := 85) (ci := 3) (j := 0) (T := TX3) dX5_readInto_82 rfl cf_3 hp1 hj_3_0 hc_3 gf_X5_37 rfl rfl (tyX3_ok 0 hj_3_0) ?_
    refine ev_iload_n (q := 86) dX5_readInto_85 rfl 1 rfl rfl ?_
    exact ev_iret dX5_readInto_86 rfl
  · refine ev_iconst (q := 82) (v := 0) dX5_readInto_81 rfl li_0 ?_
    refine ev_putZ (q := 85) (ci := 3) (j := 0) (T := TX3) dX5_readInto_82 rfl cf_3 hp1 hj_3_0 hc_3 gf_X5_37 rfl rfl (tyX3_ok 0 hj_3_0) ?_
    refine ev_iload_n (q := 86) dX5_readInto_85 rfl 1 rfl rfl ?_
    exact ev_iret dX5_readInto_86 rfl
set_option maxRecDepth 100000 in
set_option maxHeartbeats 4000000 in
theorem X5_readInto_b65_ok (G : Gt) (o : Nat) (p1 : Nat) (ho : kd o = 5) (hp1 : kd p1 = 3)   (k17 : Int32 → Int32 → Mem → Option (Int32 × Mem)) (hk17 : ∀ (x2 : Int32) (x3 : Int32) (mem : Mem), EvR tvI G cX5_readInto 4 (some .int) RX5 4 17 [(0, .ref (gA G o)), (1, .ref (gA G p1)), (2, .int (x2)), (3, .int (x3))] [] mem (k17 x2 x3 mem)) (x3 : Int32) (s0 : Int32) (mem : Mem) : EvR tvI G cX5_readInto 4 (some .int) RX5 4 65 [(0, .ref (gA G o)), (1, .ref (gA G p1)), (3, .int (x3))] [.int (s0)] mem (X5_readInto_b65 o p1 k17 x3 s0 mem) := by
  unfold X5_readInto_b65
  refine ev_istore_n (q := 66) (lv2 := [(2, .int _), (0, .ref _), (1, .ref _), (3, .int _)]) dX5_readInto_65 rfl rfl (Nat.le_of_ble_eq_true rfl) rfl ?_
  refine ev_iinc (q := 69) (lv2 := [(3, .int _), (2, .int _), (0, .ref _), (1, .ref _)]) (v := x3 + 1) dX5_readInto_66 3 rfl rfl (congrArg (HAdd.hAdd _) li_1) (Nat.le_of_ble_eq_true rfl) rfl ?_
  refine ev_goto (t := 17) dX5_readInto_69 rfl ?_
  refine ev_sub (lv' := [(0, .ref _), (1, .ref _), (2, .int _), (3, .int _)]) [2, 3, 1, 0] rfl ?_
  exact hk17 _ _ _
set_option maxRecDepth 100000 in
set_option maxHeartbeats 4000000 in
theorem X5_readInto_b17_ok (G : Gt) (o : Nat) (p1 : Nat) (ho : kd o = 5) (hp1 : kd p1 = 3)    : ∀ (n : Nat) (x2 : Int32) (x3 : Int32) (mem : Mem), EvR tvI G cX5_readInto 4 (some .int) RX5 4 17 [(0, .ref (gA G o)), (1, .ref (gA G p1)), (2, .int (x2)), (3, .int (x3))] [] mem (X5_readInto_b17 o p1 n x2 x3 mem) := by
  intro n
  induction n with
  | zero => intros; exact ev_none
  | succ n ih =>
    intro x2 x3 mem
    rw [X5_readInto_b17]
    refine ev_iload_n (q := 18) dX5_readInto_17 rfl 3 rfl rfl ?_
    refine ev_bipush (q := 20) (v := 120) dX5_readInto_18 rfl lb_120 ?_
    refine ev_icmp_ge (t := 72) (q := 23) dX5_readInto_20 rfl rfl (fun hc6 => ?_) (fun hc6 => ?_)
    · refine ev_iload_n (q := 24) dX5_readInto_23 rfl 2 rfl rfl ?_
      refine ev_if_ne (t := 72) (q := 27) dX5_readInto_24 rfl rfl (fun hc7 => ?_) (fun hc7 => ?_)
      · refine ev_aload_n (q := 28) dX5_readInto_27 rfl 0 rfl rfl ?_
        refine ev_getI (q := 31) (ci := 5) (j := 2) (T := TX5) dX5_readInto_28 rfl cf_5 ho hj_5_2 hc_5 gf_X5_24 rfl ?_
        refine ev_aload_n (q := 32) dX5_readInto_31 rfl 0 rfl rfl ?_
        refine ev_getI (q := 35) (ci := 5) (j := 1) (T := TX5) dX5_readInto_32 rfl cf_5 ho hj_5_1 hc_5 gf_X5_15 rfl ?_
        refine ev_icmp_ge (t := 72) (q := 38) dX5_readInto_35 rfl rfl (fun hc8 => ?_) (fun hc8 => ?_)
        · refine ev_aload_n (q := 39) dX5_readInto_38 rfl 0 rfl rfl ?_
          refine ev_getR (q := 42) (ci := 5) (j := 0) (T := TX5) dX5_readInto_39 rfl cf_5 ho hj_5_0 hc_5 gf_X5_11 rfl ?_
          refine ev_aload_n (q := 43) dX5_readInto_42 rfl 0 rfl rfl ?_
          refine ev_getI (q := 46) (ci := 5) (j := 2) (T := TX5) dX5_readInto_43 rfl cf_5 ho hj_5_2 hc_5 gf_X5_24 rfl ?_
          refine ev_iald (q := 47) dX5_readInto_46 rfl (kr_5_0 ho) (fun z9 => ?_)
          refine ev_bipush (q := 49) (v := 114) dX5_readInto_47 rfl lb_114 ?_
          refine ev_icmp_ne (t := 60) (q := 52) dX5_readInto_49 rfl rfl (fun hc10 => ?_) (fun hc10 => ?_)
          · refine ev_aload_n (q := 53) dX5_readInto_52 rfl 0 rfl rfl ?_
            refine ev_aload_n (q := 54) dX5_readInto_53 rfl 1 rfl rfl ?_
            refine ev_callVI (q := 57) dX5_readInto_54 rfl ml_X5_31 mt_X5_readReader cf_5 rfl ho hc_5 (con_X5_readReader G _ _ ho hp1 _) rfl (Nat.le_of_ble_eq_true rfl) (Nat.le_of_ble_eq_true rfl) rfl (Nat.le_of_ble_eq_true rfl) (fun r13 m14 => ?_)
            refine ev_goto (t := 65) dX5_readInto_57 rfl ?_
            refine ev_sub (lv' := [(0, .ref _), (1, .ref _), (3, .int _)]) [0, 1, 3] rfl ?_
            exact X5_readInto_b65_ok G o p1 ho hp1  (X5_readInto_b17 o p1 n) ih _ _ _
          · refine ev_aload_n (q := 61) dX5_readInto_60 rfl 0 rfl rfl ?_
            refine ev_aload_n (q := 62) dX5_readInto_61 rfl 1 rfl rfl ?_
            refine ev_callVI (q := 65) dX5_readInto_62 rfl ml_X5_34 mt_X5_readLetter cf_5 rfl ho hc_5 (con_X5_readLetter G _ _ ho hp1 _) rfl (Nat.le_of_ble_eq_true rfl) (Nat.le_of_ble_eq_true rfl) rfl (Nat.le_of_ble_eq_true rfl) (fun r11 m12 => ?_)
            refine ev_sub (lv' := [(0, .ref _), (1, .ref _), (3, .int _)]) [0, 1, 3] rfl ?_
            exact X5_readInto_b65_ok G o p1 ho hp1  (X5_readInto_b17 o p1 n) ih _ _ _
        · refine ev_sub (lv' := [(1, .ref _), (2, .int _)]) [1, 2] rfl ?_
          exact X5_readInto_b72_ok G o p1 ho hp1   _ _
      · refine ev_sub (lv' := [(1, .ref _), (2, .int _)]) [1, 2] rfl ?_
        exact X5_readInto_b72_ok G o p1 ho hp1   _ _
    · refine ev_sub (lv' := [(1, .ref _), (2, .int _)]) [1, 2] rfl ?_
      exact X5_readInto_b72_ok G o p1 ho hp1   _ _
set_option maxRecDepth 100000 in
set_option maxHeartbeats 4000000 in
theorem con_X5_readInto (G : Gt) (o : Nat) (p1 : Nat) (ho : kd o = 5) (hp1 : kd p1 = 3) (mem : Mem) : Con tvI G yX5_readInto cX5_readInto 4 (some .int) 4 [.ref (gA G o), .ref (gA G p1)] mem (X5_readInto o p1 mem) := by
  refine con_of (by decide) (Nat.le_of_ble_eq_true rfl) ?_
  show EvR tvI G cX5_readInto 4 (some .int) RX5 4 0 [(0, .ref (gA G o)), (1, .ref (gA G p1))] [] mem _
  unfold X5_readInto
  refine ev_aload_n (q := 1) dX5_readInto_0 rfl 1 rfl rfl ?_
  refine ev_callVU (q := 4) dX5_readInto_1 rfl ml_X5_19 mt_X3_clear cf_3 rfl hp1 hc_3 (con_X3_clear G _ hp1 _) rfl (Nat.le_of_ble_eq_true rfl) (Nat.le_of_ble_eq_true rfl) rfl (Nat.le_of_ble_eq_true rfl) (fun r1 m2 => ?_)
  refine ev_aload_n (q := 5) dX5_readInto_4 rfl 0 rfl rfl ?_
  refine ev_iconst (q := 6) (v := 0) dX5_readInto_5 rfl li_0 ?_
  refine ev_putI (q := 9) (ci := 5) (j := 2) (T := TX5) dX5_readInto_6 rfl cf_5 ho hj_5_2 hc_5 gf_X5_24 rfl rfl (tyX5_ok 2 hj_5_2) ?_
  refine ev_aload_n (q := 10) dX5_readInto_9 rfl 0 rfl rfl ?_
  refine ev_aload_n (q := 11) dX5_readInto_10 rfl 1 rfl rfl ?_
  refine ev_callVI (q := 14) dX5_readInto_11 rfl ml_X5_27 mt_X5_readLaw cf_5 rfl ho hc_5 (con_X5_readLaw G _ _ ho hp1 _) rfl (Nat.le_of_ble_eq_true rfl) (Nat.le_of_ble_eq_true rfl) rfl (Nat.le_of_ble_eq_true rfl) (fun r4 m5 => ?_)
  refine ev_istore_n (q := 15) (lv2 := [(2, .int _), (0, .ref _), (1, .ref _)]) dX5_readInto_14 rfl rfl (Nat.le_of_ble_eq_true rfl) rfl ?_
  refine ev_iconst (q := 16) (v := 0) dX5_readInto_15 rfl li_0 ?_
  refine ev_istore_n (q := 17) (lv2 := [(3, .int _), (2, .int _), (0, .ref _), (1, .ref _)]) dX5_readInto_16 rfl rfl (Nat.le_of_ble_eq_true rfl) rfl ?_
  refine ev_sub (lv' := [(0, .ref _), (1, .ref _), (2, .int _), (3, .int _)]) [2, 3, 1, 0] rfl ?_
  exact X5_readInto_b17_ok G o p1 ho hp1   fu _ _ _
/-! AgingLetters.found(I)I -/
theorem dX6_found_0 : decode cX6_found 0 = .ok (.aload_n 0, 1) := by decide +kernel
theorem dX6_found_1 : decode cX6_found 1 = .ok (.iload_n 1, 1) := by decide +kernel
theorem dX6_found_2 : decode cX6_found 2 = .ok (.putfield 319, 3) := by decide +kernel
theorem dX6_found_5 : decode cX6_found 5 = .ok (.ldc_w 322, 3) := by decide +kernel
theorem dX6_found_8 : decode cX6_found 8 = .ok (.iload_n 1, 1) := by decide +kernel
theorem dX6_found_9 : decode cX6_found 9 = .ok (.isub, 1) := by decide +kernel
theorem dX6_found_10 : decode cX6_found 10 = .ok (.ireturn, 1) := by decide +kernel
set_option maxRecDepth 100000 in
set_option maxHeartbeats 4000000 in
theorem con_X6_found (G : Gt) (o : Nat) (a1 : Int32) (ho : kd o = 6) (mem : Mem) : Con tvI G yX6_found cX6_found 2 (some .int) 1 [.ref (gA G o), .int a1] mem (X6_found o a1 mem) := by
  refine con_of (by decide) (Nat.le_of_ble_eq_true rfl) ?_
  show EvR tvI G cX6_found 2 (some .int) RX6 1 0 [(0, .ref (gA G o)), (1, .int (a1))] [] mem _
  unfold X6_found
  refine ev_aload_n (q := 1) dX6_found_0 rfl 0 rfl rfl ?_
  refine ev_iload_n (q := 2) dX6_found_1 rfl 1 rfl rfl ?_
  refine ev_putI (q := 5) (ci := 6) (j := 10) (T := TX6) dX6_found_2 rfl cf_6 ho hj_6_10 hc_6 gf_X6_319 rfl rfl (tyX6_ok 10 hj_6_10) ?_
  refine ev_ldcw (q := 8) (v := (-1000010)) dX6_found_5 rfl kc_X6_322 ?_
  refine ev_iload_n (q := 9) dX6_found_8 rfl 1 rfl rfl ?_
  refine ev_isub (q := 10) dX6_found_9 rfl ?_
  exact ev_iret dX6_found_10 rfl
/-! AgingLetters.foundNothing(I)I -/
theorem dX6_foundNothing_0 : decode cX6_foundNothing 0 = .ok (.aload_n 0, 1) := by decide +kernel
theorem dX6_foundNothing_1 : decode cX6_foundNothing 1 = .ok (.iconst 0, 1) := by decide +kernel
theorem dX6_foundNothing_2 : decode cX6_foundNothing 2 = .ok (.putfield 319, 3) := by decide +kernel
theorem dX6_foundNothing_5 : decode cX6_foundNothing 5 = .ok (.iload_n 1, 1) := by decide +kernel
theorem dX6_foundNothing_6 : decode cX6_foundNothing 6 = .ok (.ireturn, 1) := by decide +kernel
set_option maxRecDepth 100000 in
set_option maxHeartbeats 4000000 in
theorem con_X6_foundNothing (G : Gt) (o : Nat) (a1 : Int32) (ho : kd o = 6) (mem : Mem) : Con tvI G yX6_foundNothing cX6_foundNothing 2 (some .int) 1 [.ref (gA G o), .int a1] mem (X6_foundNothing o a1 mem) := by
  refine con_of (by decide) (Nat.le_of_ble_eq_true rfl) ?_
  show EvR tvI G cX6_foundNothing 2 (some .int) RX6 1 0 [(0, .ref (gA G o)), (1, .int (a1))] [] mem _
  unfold X6_foundNothing
  refine ev_aload_n (q := 1) dX6_foundNothing_0 rfl 0 rfl rfl ?_
  refine ev_iconst (q := 2) (v := 0) dX6_foundNothing_1 rfl li_0 ?_
  refine ev_putI (q := 5) (ci := 6) (j := 10) (T := TX6) dX6_foundNothing_2 rfl cf_6 ho hj_6_10 hc_6 gf_X6_319 rfl rfl (tyX6_ok 10 hj_6_10) ?_
  refine ev_iload_n (q := 6) dX6_foundNothing_5 rfl 1 rfl rfl ?_
  exact ev_iret dX6_foundNothing_6 rfl
/-! AgingLetters.row(III)I -/
theorem dX6_row_0 : decode cX6_row 0 = .ok (.aload_n 0, 1) := by decide +kernel
theorem dX6_row_1 : decode cX6_row 1 = .ok (.getfield 10, 3) := by decide +kernel
theorem dX6_row_4 : decode cX6_row 4 = .ok (.iload_n 1, 1) := by decide +kernel
theorem dX6_row_5 : decode cX6_row 5 = .ok (.invokevirtual 60, 3) := by decide +kernel
theorem dX6_row_8 : decode cX6_row 8 = .ok (.ifCond .eq 20, 3) := by decide +kernel
theorem dX6_row_11 : decode cX6_row 11 = .ok (.aload_n 0, 1) := by decide +kernel
theorem dX6_row_12 : decode cX6_row 12 = .ok (.getfield 10, 3) := by decide +kernel
theorem dX6_row_15 : decode cX6_row 15 = .ok (.iload_n 2, 1) := by decide +kernel
theorem dX6_row_16 : decode cX6_row 16 = .ok (.invokevirtual 64, 3) := by decide +kernel
theorem dX6_row_19 : decode cX6_row 19 = .ok (.ifCond .eq 9, 3) := by decide +kernel
theorem dX6_row_22 : decode cX6_row 22 = .ok (.iload_n 3, 1) := by decide +kernel
theorem dX6_row_23 : decode cX6_row 23 = .ok (.bipush 40, 2) := by decide +kernel
theorem dX6_row_25 : decode cX6_row 25 = .ok (.if_icmp .le 6, 3) := by decide +kernel
theorem dX6_row_28 : decode cX6_row 28 = .ok (.ldc 67, 2) := by decide +kernel
theorem dX6_row_30 : decode cX6_row 30 = .ok (.ireturn, 1) := by decide +kernel
theorem dX6_row_31 : decode cX6_row 31 = .ok (.iload_n 3, 1) := by decide +kernel
theorem dX6_row_32 : decode cX6_row 32 = .ok (.ifCond .ge 9, 3) := by decide +kernel
theorem dX6_row_35 : decode cX6_row 35 = .ok (.aload_n 0, 1) := by decide +kernel
theorem dX6_row_36 : decode cX6_row 36 = .ok (.iconst 4, 1) := by decide +kernel
theorem dX6_row_37 : decode cX6_row 37 = .ok (.invokevirtual 68, 3) := by decide +kernel
theorem dX6_row_40 : decode cX6_row 40 = .ok (.ireturn, 1) := by decide +kernel
theorem dX6_row_41 : decode cX6_row 41 = .ok (.aload_n 0, 1) := by decide +kernel
theorem dX6_row_42 : decode cX6_row 42 = .ok (.getfield 10, 3) := by decide +kernel
theorem dX6_row_45 : decode cX6_row 45 = .ok (.iload_n 1, 1) := by decide +kernel
theorem dX6_row_46 : decode cX6_row 46 = .ok (.iload_n 2, 1) := by decide +kernel
theorem dX6_row_47 : decode cX6_row 47 = .ok (.iload_n 3, 1) := by decide +kernel
theorem dX6_row_48 : decode cX6_row 48 = .ok (.invokevirtual 72, 3) := by decide +kernel
theorem dX6_row_51 : decode cX6_row 51 = .ok (.aload_n 0, 1) := by decide +kernel
theorem dX6_row_52 : decode cX6_row 52 = .ok (.iload_n 3, 1) := by decide +kernel
theorem dX6_row_53 : decode cX6_row 53 = .ok (.invokevirtual 76, 3) := by decide +kernel
theorem dX6_row_56 : decode cX6_row 56 = .ok (.ireturn, 1) := by decide +kernel
set_option maxRecDepth 100000 in
set_option maxHeartbeats 4000000 in
theorem con_X6_row (G : Gt) (o : Nat) (a1 : Int32) (a2 : Int32) (a3 : Int32) (ho : kd o = 6) (mem : Mem) : Con tvI G yX6_row cX6_row 4 (some .int) 2 [.ref (gA G o), .int a1, .int a2, .int a3] mem (X6_row o a1 a2 a3 mem) := by
  refine con_of (by decide) (Nat.le_of_ble_eq_true rfl) ?_
  show EvR tvI G cX6_row 4 (some .int) RX6 2 0 [(0, .ref (gA G o)), (1, .int (a1)), (2, .int (a2)), (3, .int (a3))] [] mem _
  unfold X6_row
  refine ev_aload_n (q := 1) dX6_row_0 rfl 0 rfl rfl ?_
  refine ev_getR (q := 4) (ci := 6) (j := 0) (T := TX6) dX6_row_1 rfl cf_6 ho hj_6_0 hc_6 gf_X6_10 rfl ?_
  refine ev_iload_n (q := 5) dX6_row_4 rfl 1 rfl rfl ?_
  refine ev_callVI (q := 8) dX6_row_5 rfl ml_X6_60 mt_X4_isRow cf_4 rfl (kr_6_0 ho) hc_4 (con_X4_isRow G _ _ (kr_6_0 ho) _) rfl (Nat.le_of_ble_eq_true rfl) (Nat.le_of_ble_eq_true rfl) rfl (Nat.le_of_ble_eq_true rfl) (fun r1 m2 => ?_)
  refine ev_if_eq (t := 28) (q := 11) dX6_row_8 rfl rfl (fun hc3 => ?_) (fun hc3 => ?_)
  · refine ev_ldc (q := 30) (v := (-1000001)) dX6_row_28 rfl kc_X6_67 ?_
    exact ev_iret dX6_row_30 rfl
  · refine ev_aload_n (q := 12) dX6_row_11 rfl 0 rfl rfl ?_
    refine ev_getR (q := 15) (ci := 6) (j := 0) (T := TX6) dX6_row_12 rfl cf_6 ho hj_6_0 hc_6 gf_X6_10 rfl ?_
    refine ev_iload_n (q := 16) dX6_row_15 rfl 2 rfl rfl ?_
    refine ev_callVI (q := 19) dX6_row_16 rfl ml_X6_64 mt_X4_isLane cf_4 rfl (kr_6_0 ho) hc_4 (con_X4_isLane G _ _ (kr_6_0 ho) _) rfl (Nat.le_of_ble_eq_true rfl) (Nat.le_of_ble_eq_true rfl) rfl (Nat.le_of_ble_eq_true rfl) (fun r4 m5 => ?_)
    refine ev_if_eq (t := 28) (q := 22) dX6_row_19 rfl rfl (fun hc6 => ?_) (fun hc6 => ?_)
    · refine ev_ldc (q := 30) (v := (-1000001)) dX6_row_28 rfl kc_X6_67 ?_
      exact ev_iret dX6_row_30 rfl
    · refine ev_iload_n (q := 23) dX6_row_22 rfl 3 rfl rfl ?_
      refine ev_bipush (q := 25) (v := 40) dX6_row_23 rfl lb_40 ?_
      refine ev_icmp_le (t := 31) (q := 28) dX6_row_25 rfl rfl (fun hc7 => ?_) (fun hc7 => ?_)
      · refine ev_ldc (q := 30) (v := (-1000001)) dX6_row_28 rfl kc_X6_67 ?_
        exact ev_iret dX6_row_30 rfl
      · refine ev_iload_n (q := 32) dX6_row_31 rfl 3 rfl rfl ?_
        refine ev_if_ge (t := 41) (q := 35) dX6_row_32 rfl rfl (fun hc8 => ?_) (fun hc8 => ?_)
        · refine ev_aload_n (q := 36) dX6_row_35 rfl 0 rfl rfl ?_
          refine ev_iconst (q := 37) (v := 4) dX6_row_36 rfl li_4 ?_
          refine ev_callVI (q := 40) dX6_row_37 rfl ml_X6_68 mt_X6_found cf_6 rfl ho hc_6 (con_X6_found G _ _ ho _) rfl (Nat.le_of_ble_eq_true rfl) (Nat.le_of_ble_eq_true rfl) rfl (Nat.le_of_ble_eq_true rfl) (fun r13 m14 => ?_)
          exact ev_iret dX6_row_40 rfl
        · refine ev_aload_n (q := 42) dX6_row_41 rfl 0 rfl rfl ?_
          refine ev_getR (q := 45) (ci := 6) (j := 0) (T := TX6) dX6_row_42 rfl cf_6 ho hj_6_0 hc_6 gf_X6_10 rfl ?_
          refine ev_iload_n (q := 46) dX6_row_45 rfl 1 rfl rfl ?_
          refine ev_iload_n (q := 47) dX6_row_46 rfl 2 rfl rfl ?_
          refine ev_iload_n (q := 48) dX6_row_47 rfl 3 rfl rfl ?_
          refine ev_callVU (q := 51) dX6_row_48 rfl ml_X6_72 mt_X4_make cf_4 rfl (kr_6_0 ho) hc_4 (con_X4_make G _ _ _ _ (kr_6_0 ho) _) rfl (Nat.le_of_ble_eq_true rfl) (Nat.le_of_ble_eq_true rfl) rfl (Nat.le_of_ble_eq_true rfl) (fun r9 m10 => ?_)
          refine ev_aload_n (q := 52) dX6_row_51 rfl 0 rfl rfl ?_
          refine ev_iload_n (q := 53) dX6_row_52 rfl 3 rfl rfl ?_
          refine ev_callVI (q := 56) dX6_row_53 rfl ml_X6_76 mt_X6_foundNothing cf_6 rfl ho hc_6 (con_X6_foundNothing G _ _ ho _) rfl (Nat.le_of_ble_eq_true rfl) (Nat.le_of_ble_eq_true rfl) rfl (Nat.le_of_ble_eq_true rfl) (fun r11 m12 => ?_)
          exact ev_iret dX6_row_56 rfl
/-! AgingLetters.set(III)I -/
theorem dX6_set_0 : decode cX6_set 0 = .ok (.aload_n 0, 1) := by decide +kernel
theorem dX6_set_1 : decode cX6_set 1 = .ok (.getfield 10, 3) := by decide +kernel
theorem dX6_set_4 : decode cX6_set 4 = .ok (.iload_n 1, 1) := by decide +kernel
theorem dX6_set_5 : decode cX6_set 5 = .ok (.invokevirtual 60, 3) := by decide +kernel
theorem dX6_set_8 : decode cX6_set 8 = .ok (.ifCond .ne 6, 3) := by decide +kernel
theorem dX6_set_11 : decode cX6_set 11 = .ok (.ldc 67, 2) := by decide +kernel
theorem dX6_set_13 : decode cX6_set 13 = .ok (.ireturn, 1) := by decide +kernel
theorem dX6_set_14 : decode cX6_set 14 = .ok (.aload_n 0, 1) := by decide +kernel
theorem dX6_set_15 : decode cX6_set 15 = .ok (.getfield 10, 3) := by decide +kernel
theorem dX6_set_18 : decode cX6_set 18 = .ok (.iload_n 1, 1) := by decide +kernel
theorem dX6_set_19 : decode cX6_set 19 = .ok (.invokevirtual 79, 3) := by decide +kernel
theorem dX6_set_22 : decode cX6_set 22 = .ok (.ifCond .eq 9, 3) := by decide +kernel
theorem dX6_set_25 : decode cX6_set 25 = .ok (.aload_n 0, 1) := by decide +kernel
theorem dX6_set_26 : decode cX6_set 26 = .ok (.iconst 1, 1) := by decide +kernel
theorem dX6_set_27 : decode cX6_set 27 = .ok (.invokevirtual 68, 3) := by decide +kernel
theorem dX6_set_30 : decode cX6_set 30 = .ok (.ireturn, 1) := by decide +kernel
theorem dX6_set_31 : decode cX6_set 31 = .ok (.aload_n 0, 1) := by decide +kernel
theorem dX6_set_32 : decode cX6_set 32 = .ok (.getfield 10, 3) := by decide +kernel
theorem dX6_set_35 : decode cX6_set 35 = .ok (.iload_n 1, 1) := by decide +kernel
theorem dX6_set_36 : decode cX6_set 36 = .ok (.iload_n 2, 1) := by decide +kernel
theorem dX6_set_37 : decode cX6_set 37 = .ok (.iconst 1, 1) := by decide +kernel
theorem dX6_set_38 : decode cX6_set 38 = .ok (.invokevirtual 82, 3) := by decide +kernel
theorem dX6_set_41 : decode cX6_set 41 = .ok (.ifCond .ne 9, 3) := by decide +kernel
theorem dX6_set_44 : decode cX6_set 44 = .ok (.aload_n 0, 1) := by decide +kernel
theorem dX6_set_45 : decode cX6_set 45 = .ok (.iconst 2, 1) := by decide +kernel
theorem dX6_set_46 : decode cX6_set 46 = .ok (.invokevirtual 68, 3) := by decide +kernel
theorem dX6_set_49 : decode cX6_set 49 = .ok (.ireturn, 1) := by decide +kernel
theorem dX6_set_50 : decode cX6_set 50 = .ok (.aload_n 0, 1) := by decide +kernel
theorem dX6_set_51 : decode cX6_set 51 = .ok (.aload_n 0, 1) := by decide +kernel
theorem dX6_set_52 : decode cX6_set 52 = .ok (.getfield 10, 3) := by decide +kernel
theorem dX6_set_55 : decode cX6_set 55 = .ok (.iload_n 1, 1) := by decide +kernel
theorem dX6_set_56 : decode cX6_set 56 = .ok (.iload_n 2, 1) := by decide +kernel
theorem dX6_set_57 : decode cX6_set 57 = .ok (.iload_n 3, 1) := by decide +kernel
theorem dX6_set_58 : decode cX6_set 58 = .ok (.invokevirtual 86, 3) := by decide +kernel
theorem dX6_set_61 : decode cX6_set 61 = .ok (.invokevirtual 76, 3) := by decide +kernel
theorem dX6_set_64 : decode cX6_set 64 = .ok (.ireturn, 1) := by decide +kernel
set_option maxRecDepth 100000 in
set_option maxHeartbeats 4000000 in
theorem con_X6_set (G : Gt) (o : Nat) (a1 : Int32) (a2 : Int32) (a3 : Int32) (ho : kd o = 6) (mem : Mem) : Con tvI G yX6_set cX6_set 4 (some .int) 2 [.ref (gA G o), .int a1, .int a2, .int a3] mem (X6_set o a1 a2 a3 mem) := by
  refine con_of (by decide) (Nat.le_of_ble_eq_true rfl) ?_
  show EvR tvI G cX6_set 4 (some .int) RX6 2 0 [(0, .ref (gA G o)), (1, .int (a1)), (2, .int (a2)), (3, .int (a3))] [] mem _
  unfold X6_set
  refine ev_aload_n (q := 1) dX6_set_0 rfl 0 rfl rfl ?_
  refine ev_getR (q := 4) (ci := 6) (j := 0) (T := TX6) dX6_set_1 rfl cf_6 ho hj_6_0 hc_6 gf_X6_10 rfl ?_
  refine ev_iload_n (q := 5) dX6_set_4 rfl 1 rfl rfl ?_
  refine ev_callVI (q := 8) dX6_set_5 rfl ml_X6_60 mt_X4_isRow cf_4 rfl (kr_6_0 ho) hc_4 (con_X4_isRow G _ _ (kr_6_0 ho) _) rfl (Nat.le_of_ble_eq_true rfl) (Nat.le_of_ble_eq_true rfl) rfl (Nat.le_of_ble_eq_true rfl) (fun r1 m2 => ?_)
  refine ev_if_ne (t := 14) (q := 11) dX6_set_8 rfl rfl (fun hc3 => ?_) (fun hc3 => ?_)
  · refine ev_ldc (q := 13) (v := (-1000001)) dX6_set_11 rfl kc_X6_67 ?_
    exact ev_iret dX6_set_13 rfl
  · refine ev_aload_n (q := 15) dX6_set_14 rfl 0 rfl rfl ?_
    refine ev_getR (q := 18) (ci := 6) (j := 0) (T := TX6) dX6_set_15 rfl cf_6 ho hj_6_0 hc_6 gf_X6_10 rfl ?_
    refine ev_iload_n (q := 19) dX6_set_18 rfl 1 rfl rfl ?_
    refine ev_callVI (q := 22) dX6_set_19 rfl ml_X6_79 mt_X4_isMissing cf_4 rfl (kr_6_0 ho) hc_4 (con_X4_isMissing G _ _ (kr_6_0 ho) _) rfl (Nat.le_of_ble_eq_true rfl) (Nat.le_of_ble_eq_true rfl) rfl (Nat.le_of_ble_eq_true rfl) (fun r4 m5 => ?_)
    refine ev_if_eq (t := 31) (q := 25) dX6_set_22 rfl rfl (fun hc6 => ?_) (fun hc6 => ?_)
    · refine ev_aload_n (q := 32) dX6_set_31 rfl 0 rfl rfl ?_
      refine ev_getR (q := 35) (ci := 6) (j := 0) (T := TX6) dX6_set_32 rfl cf_6 ho hj_6_0 hc_6 gf_X6_10 rfl ?_
      refine ev_iload_n (q := 36) dX6_set_35 rfl 1 rfl rfl ?_
      refine ev_iload_n (q := 37) dX6_set_36 rfl 2 rfl rfl ?_
      refine ev_iconst (q := 38) (v := 1) dX6_set_37 rfl li_1 ?_
      refine ev_callVI (q := 41) dX6_set_38 rfl ml_X6_82 mt_X4_hasPlaces cf_4 rfl (kr_6_0 ho) hc_4 (con_X4_hasPlaces G _ _ _ _ (kr_6_0 ho) _) rfl (Nat.le_of_ble_eq_true rfl) (Nat.le_of_ble_eq_true rfl) rfl (Nat.le_of_ble_eq_true rfl) (fun r7 m8 => ?_)
      refine ev_if_ne (t := 50) (q := 44) dX6_set_41 rfl rfl (fun hc9 => ?_) (fun hc9 => ?_)
      · refine ev_aload_n (q := 45) dX6_set_44 rfl 0 rfl rfl ?_
        refine ev_iconst (q := 46) (v := 2) dX6_set_45 rfl li_2 ?_
        refine ev_callVI (q := 49) dX6_set_46 rfl ml_X6_68 mt_X6_found cf_6 rfl ho hc_6 (con_X6_found G _ _ ho _) rfl (Nat.le_of_ble_eq_true rfl) (Nat.le_of_ble_eq_true rfl) rfl (Nat.le_of_ble_eq_true rfl) (fun r14 m15 => ?_)
        exact ev_iret dX6_set_49 rfl
      · refine ev_aload_n (q := 51) dX6_set_50 rfl 0 rfl rfl ?_
        refine ev_aload_n (q := 52) dX6_set_51 rfl 0 rfl rfl ?_
        refine ev_getR (q := 55) (ci := 6) (j := 0) (T := TX6) dX6_set_52 rfl cf_6 ho hj_6_0 hc_6 gf_X6_10 rfl ?_
        refine ev_iload_n (q := 56) dX6_set_55 rfl 1 rfl rfl ?_
        refine ev_iload_n (q := 57) dX6_set_56 rfl 2 rfl rfl ?_
        refine ev_iload_n (q := 58) dX6_set_57 rfl 3 rfl rfl ?_
        refine ev_callVI (q := 61) dX6_set_58 rfl ml_X6_86 mt_X4_put cf_4 rfl (kr_6_0 ho) hc_4 (con_X4_put G _ _ _ _ (kr_6_0 ho) _) rfl (Nat.le_of_ble_eq_true rfl) (Nat.le_of_ble_eq_true rfl) rfl (Nat.le_of_ble_eq_true rfl) (fun r10 m11 => ?_)
        refine ev_callVI (q := 64) dX6_set_61 rfl ml_X6_76 mt_X6_foundNothing cf_6 rfl ho hc_6 (con_X6_foundNothing G _ _ ho _) rfl (Nat.le_of_ble_eq_true rfl) (Nat.le_of_ble_eq_true rfl) rfl (Nat.le_of_ble_eq_true rfl) (fun r12 m13 => ?_)
        exact ev_iret dX6_set_64 rfl
    · refine ev_aload_n (q := 26) dX6_set_25 rfl 0 rfl rfl ?_
      refine ev_iconst (q := 27) (v := 1) dX6_set_26 rfl li_1 ?_
      refine ev_callVI (q := 30) dX6_set_27 rfl ml_X6_68 mt_X6_found cf_6 rfl ho hc_6 (con_X6_found G _ _ ho _) rfl (Nat.le_of_ble_eq_true rfl) (Nat.le_of_ble_eq_true rfl) rfl (Nat.le_of_ble_eq_true rfl) (fun r16 m17 => ?_)
      exact ev_iret dX6_set_30 rfl
