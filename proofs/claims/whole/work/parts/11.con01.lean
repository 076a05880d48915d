/-! AgingLetters$Office.howManyAlive()I -/
theorem dX3_howManyAlive_0 : decode cX3_howManyAlive 0 = .ok (.iconst 0, 1) := by decide +kernel
theorem dX3_howManyAlive_1 : decode cX3_howManyAlive 1 = .ok (.istore_n 1, 1) := by decide +kernel
theorem dX3_howManyAlive_2 : decode cX3_howManyAlive 2 = .ok (.iconst 0, 1) := by decide +kernel
theorem dX3_howManyAlive_3 : decode cX3_howManyAlive 3 = .ok (.istore_n 2, 1) := by decide +kernel
theorem dX3_howManyAlive_4 : decode cX3_howManyAlive 4 = .ok (.iload_n 2, 1) := by decide +kernel
theorem dX3_howManyAlive_5 : decode cX3_howManyAlive 5 = .ok (.aload_n 0, 1) := by decide +kernel
theorem dX3_howManyAlive_6 : decode cX3_howManyAlive 6 = .ok (.getfield 50, 3) := by decide +kernel
theorem dX3_howManyAlive_9 : decode cX3_howManyAlive 9 = .ok (.if_icmp .ge 20, 3) := by decide +kernel
theorem dX3_howManyAlive_12 : decode cX3_howManyAlive 12 = .ok (.aload_n 0, 1) := by decide +kernel
theorem dX3_howManyAlive_13 : decode cX3_howManyAlive 13 = .ok (.iload_n 2, 1) := by decide +kernel
theorem dX3_howManyAlive_14 : decode cX3_howManyAlive 14 = .ok (.invokevirtual 65, 3) := by decide +kernel
theorem dX3_howManyAlive_17 : decode cX3_howManyAlive 17 = .ok (.ifCond .eq 6, 3) := by decide +kernel
theorem dX3_howManyAlive_20 : decode cX3_howManyAlive 20 = .ok (.iinc 1 1, 3) := by decide +kernel
theorem dX3_howManyAlive_23 : decode cX3_howManyAlive 23 = .ok (.iinc 2 1, 3) := by decide +kernel
theorem dX3_howManyAlive_26 : decode cX3_howManyAlive 26 = .ok (.goto (-22), 3) := by decide +kernel
theorem dX3_howManyAlive_29 : decode cX3_howManyAlive 29 = .ok (.iload_n 1, 1) := by decide +kernel
theorem dX3_howManyAlive_30 : decode cX3_howManyAlive 30 = .ok (.ireturn, 1) := by decide +kernel
set_option maxRecDepth 100000 in
set_option maxHeartbeats 4000000 in
theorem X3_howManyAlive_b23_ok (G : Gt) (o : Nat) (ho : kd o = 3)   (k4 : Int32 → Int32 → Mem → Option (Int32 × Mem)) (hk4 : ∀ (x1 : Int32) (x2 : Int32) (mem : Mem), EvR tvI G cX3_howManyAlive 3 (some .int) RX3 2 4 [(0, .ref (gA G o)), (1, .int (x1)), (2, .int (x2))] [] mem (k4 x1 x2 mem)) (x1 : Int32) (x2 : Int32) (mem : Mem) : EvR tvI G cX3_howManyAlive 3 (some .int) RX3 2 23 [(0, .ref (gA G o)), (1, .int (x1)), (2, .int (x2))] [] mem (X3_howManyAlive_b23 o k4 x1 x2 mem) := by
  unfold X3_howManyAlive_b23
  refine ev_iinc (q := 26) (lv2 := [(2, .int _), (0, .ref _), (1, .int _)]) (v := x2 + 1) dX3_howManyAlive_23 2 rfl rfl (congrArg (HAdd.hAdd _) li_1) (Nat.le_of_ble_eq_true rfl) rfl ?_
  refine ev_goto (t := 4) dX3_howManyAlive_26 rfl ?_
  refine ev_sub (lv' := [(0, .ref _), (1, .int _), (2, .int _)]) [1, 2, 0] rfl ?_
  exact hk4 _ _ _
set_option maxRecDepth 100000 in
set_option maxHeartbeats 4000000 in
theorem X3_howManyAlive_b4_ok (G : Gt) (o : Nat) (ho : kd o = 3)    : ∀ (n : Nat) (x1 : Int32) (x2 : Int32) (mem : Mem), EvR tvI G cX3_howManyAlive 3 (some .int) RX3 2 4 [(0, .ref (gA G o)), (1, .int (x1)), (2, .int (x2))] [] mem (X3_howManyAlive_b4 o n x1 x2 mem) := by
  intro n
  induction n with
  | zero => intros; exact ev_none
  | succ n ih =>
    intro x1 x2 mem
    rw [X3_howManyAlive_b4]
    refine ev_iload_n (q := 5) dX3_howManyAlive_4 rfl 2 rfl rfl ?_
    refine ev_aload_n (q := 6) dX3_howManyAlive_5 rfl 0 rfl rfl ?_
    refine ev_getI (q := 9) (ci := 3) (j := 7) (T := TX3) dX3_howManyAlive_6 rfl cf_3 ho hj_3_7 hc_3 gf_X3_50 rfl ?_
    refine ev_icmp_ge (t := 29) (q := 12) dX3_howManyAlive_9 rfl rfl (fun hc1 => ?_) (fun hc1 => ?_)
    · refine ev_aload_n (q := 13) dX3_howManyAlive_12 rfl 0 rfl rfl ?_
      refine ev_iload_n (q := 14) dX3_howManyAlive_13 rfl 2 rfl rfl ?_
      refine ev_callVI (q := 17) dX3_howManyAlive_14 rfl ml_X3_65 mt_X3_isAlive cf_3 rfl ho hc_3 (con_X3_isAlive G _ _ ho _) rfl (Nat.le_of_ble_eq_true rfl) (Nat.le_of_ble_eq_true rfl) rfl (Nat.le_of_ble_eq_true rfl) (fun r2 m3 => ?_)
      refine ev_if_eq (t := 23) (q := 20) dX3_howManyAlive_17 rfl rfl (fun hc4 => ?_) (fun hc4 => ?_)
      · exact X3_howManyAlive_b23_ok G o ho  (X3_howManyAlive_b4 o n) ih _ _ _
      · refine ev_iinc (q := 23) (lv2 := [(1, .int _), (0, .ref _), (2, .int _)]) (v := x1 + 1) dX3_howManyAlive_20 1 rfl rfl (congrArg (HAdd.hAdd _) li_1) (Nat.le_of_ble_eq_true rfl) rfl ?_
        refine ev_sub (lv' := [(0, .ref _), (1, .int _), (2, .int _)]) [1, 0, 2] rfl ?_
        exact X3_howManyAlive_b23_ok G o ho  (X3_howManyAlive_b4 o n) ih _ _ _
    · refine ev_iload_n (q := 30) dX3_howManyAlive_29 rfl 1 rfl rfl ?_
      exact ev_iret dX3_howManyAlive_30 rfl
set_option maxRecDepth 100000 in
set_option maxHeartbeats 4000000 in
theorem con_X3_howManyAlive (G : Gt) (o : Nat) (ho : kd o = 3) (mem : Mem) : Con tvI G yX3_howManyAlive cX3_howManyAlive 3 (some .int) 2 [.ref (gA G o)] mem (X3_howManyAlive o mem) := by
  refine con_of (by decide) (Nat.le_of_ble_eq_true rfl) ?_
  show EvR tvI G cX3_howManyAlive 3 (some .int) RX3 2 0 [(0, .ref (gA G o))] [] mem _
  unfold X3_howManyAlive
  refine ev_iconst (q := 1) (v := 0) dX3_howManyAlive_0 rfl li_0 ?_
  refine ev_istore_n (q := 2) (lv2 := [(1, .int _), (0, .ref _)]) dX3_howManyAlive_1 rfl rfl (Nat.le_of_ble_eq_true rfl) rfl ?_
  refine ev_iconst (q := 3) (v := 0) dX3_howManyAlive_2 rfl li_0 ?_
  refine ev_istore_n (q := 4) (lv2 := [(2, .int _), (1, .int _), (0, .ref _)]) dX3_howManyAlive_3 rfl rfl (Nat.le_of_ble_eq_true rfl) rfl ?_
  refine ev_sub (lv' := [(0, .ref _), (1, .int _), (2, .int _)]) [2, 1, 0] rfl ?_
  exact X3_howManyAlive_b4_ok G o ho   fu _ _ _
/-! AgingLetters$Foretold.spentAloud(LAgingLetters$Office;II)I -/
theorem dX2_spentAloud_0 : decode cX2_spentAloud 0 = .ok (.aload_n 1, 1) := by decide +kernel
theorem dX2_spentAloud_1 : decode cX2_spentAloud 1 = .ok (.iload_n 2, 1) := by decide +kernel
theorem dX2_spentAloud_2 : decode cX2_spentAloud 2 = .ok (.iload_n 3, 1) := by decide +kernel
theorem dX2_spentAloud_3 : decode cX2_spentAloud 3 = .ok (.invokevirtual 34, 3) := by decide +kernel
theorem dX2_spentAloud_6 : decode cX2_spentAloud 6 = .ok (.istore 4, 2) := by decide +kernel
theorem dX2_spentAloud_8 : decode cX2_spentAloud 8 = .ok (.iload 4, 2) := by decide +kernel
theorem dX2_spentAloud_10 : decode cX2_spentAloud 10 = .ok (.aload_n 1, 1) := by decide +kernel
theorem dX2_spentAloud_11 : decode cX2_spentAloud 11 = .ok (.invokevirtual 50, 3) := by decide +kernel
theorem dX2_spentAloud_14 : decode cX2_spentAloud 14 = .ok (.iconst 1, 1) := by decide +kernel
theorem dX2_spentAloud_15 : decode cX2_spentAloud 15 = .ok (.isub, 1) := by decide +kernel
theorem dX2_spentAloud_16 : decode cX2_spentAloud 16 = .ok (.iload 4, 2) := by decide +kernel
theorem dX2_spentAloud_18 : decode cX2_spentAloud 18 = .ok (.invokestatic 54, 3) := by decide +kernel
theorem dX2_spentAloud_21 : decode cX2_spentAloud 21 = .ok (.imul, 1) := by decide +kernel
theorem dX2_spentAloud_22 : decode cX2_spentAloud 22 = .ok (.iadd, 1) := by decide +kernel
theorem dX2_spentAloud_23 : decode cX2_spentAloud 23 = .ok (.ireturn, 1) := by decide +kernel
set_option maxRecDepth 100000 in
set_option maxHeartbeats 4000000 in
theorem con_X2_spentAloud (G : Gt) (o : Nat) (p1 : Nat) (a2 : Int32) (a3 : Int32) (ho : kd o = 2) (hp1 : kd p1 = 3) (mem : Mem) : Con tvI G yX2_spentAloud cX2_spentAloud 5 (some .int) 5 [.ref (gA G o), .ref (gA G p1), .int a2, .int a3] mem (X2_spentAloud o p1 a2 a3 mem) := by
  refine con_of (by decide) (Nat.le_of_ble_eq_true rfl) ?_
  show EvR tvI G cX2_spentAloud 5 (some .int) RX2 5 0 [(0, .ref (gA G o)), (1, .ref (gA G p1)), (2, .int (a2)), (3, .int (a3))] [] mem _
  unfold X2_spentAloud
  refine ev_aload_n (q := 1) dX2_spentAloud_0 rfl 1 rfl rfl ?_
  refine ev_iload_n (q := 2) dX2_spentAloud_1 rfl 2 rfl rfl ?_
  refine ev_iload_n (q := 3) dX2_spentAloud_2 rfl 3 rfl rfl ?_
  refine ev_callVI (q := 6) dX2_spentAloud_3 rfl ml_X2_34 mt_X3_costFor cf_3 rfl hp1 hc_3 (con_X3_costFor G _ _ _ hp1 _) rfl (Nat.le_of_ble_eq_true rfl) (Nat.le_of_ble_eq_true rfl) rfl (Nat.le_of_ble_eq_true rfl) (fun r1 m2 => ?_)
  refine ev_istore (q := 8) (lv2 := [(4, .int _), (0, .ref _), (1, .ref _), (2, .int _), (3, .int _)]) dX2_spentAloud_6 rfl (Nat.le_of_ble_eq_true rfl) rfl ?_
  refine ev_iload (q := 10) dX2_spentAloud_8 0 rfl rfl ?_
  refine ev_aload_n (q := 11) dX2_spentAloud_10 rfl 2 rfl rfl ?_
  refine ev_callVI (q := 14) dX2_spentAloud_11 rfl ml_X2_50 mt_X3_howManyAlive cf_3 rfl hp1 hc_3 (con_X3_howManyAlive G _ hp1 _) rfl (Nat.le_of_ble_eq_true rfl) (Nat.le_of_ble_eq_true rfl) rfl (Nat.le_of_ble_eq_true rfl) (fun r3 m4 => ?_)
  refine ev_iconst (q := 15) (v := 1) dX2_spentAloud_14 rfl li_1 ?_
  refine ev_isub (q := 16) dX2_spentAloud_15 rfl ?_
  refine ev_iload (q := 18) dX2_spentAloud_16 0 rfl rfl ?_
  refine ev_callSNI (q := 21) dX2_spentAloud_18 rfl ml_X2_54 mt_X6_tenthUp (con_X6_tenthUp G _  _) rfl (Nat.le_of_ble_eq_true rfl) (Nat.le_of_ble_eq_true rfl) rfl (Nat.le_of_ble_eq_true rfl) (fun r5 m6 => ?_)
  refine ev_imul (q := 22) dX2_spentAloud_21 rfl ?_
  refine ev_iadd (q := 23) dX2_spentAloud_22 rfl ?_
  exact ev_iret dX2_spentAloud_23 rfl
/-! AgingLetters$Foretold.bestReaderAloud(LAgingLetters$Office;I)I -/
theorem dX2_bestReaderAloud_0 : decode cX2_bestReaderAloud 0 = .ok (.ldc 21, 2) := by decide +kernel
theorem dX2_bestReaderAloud_2 : decode cX2_bestReaderAloud 2 = .ok (.istore_n 3, 1) := by decide +kernel
theorem dX2_bestReaderAloud_3 : decode cX2_bestReaderAloud 3 = .ok (.iconst 0, 1) := by decide +kernel
theorem dX2_bestReaderAloud_4 : decode cX2_bestReaderAloud 4 = .ok (.istore 4, 2) := by decide +kernel
theorem dX2_bestReaderAloud_6 : decode cX2_bestReaderAloud 6 = .ok (.iconst 0, 1) := by decide +kernel
theorem dX2_bestReaderAloud_7 : decode cX2_bestReaderAloud 7 = .ok (.istore 5, 2) := by decide +kernel
theorem dX2_bestReaderAloud_9 : decode cX2_bestReaderAloud 9 = .ok (.iload 5, 2) := by decide +kernel
theorem dX2_bestReaderAloud_11 : decode cX2_bestReaderAloud 11 = .ok (.aload_n 1, 1) := by decide +kernel
theorem dX2_bestReaderAloud_12 : decode cX2_bestReaderAloud 12 = .ok (.getfield 22, 3) := by decide +kernel
theorem dX2_bestReaderAloud_15 : decode cX2_bestReaderAloud 15 = .ok (.if_icmp .ge 70, 3) := by decide +kernel
theorem dX2_bestReaderAloud_18 : decode cX2_bestReaderAloud 18 = .ok (.aload_n 1, 1) := by decide +kernel
theorem dX2_bestReaderAloud_19 : decode cX2_bestReaderAloud 19 = .ok (.iload 5, 2) := by decide +kernel
theorem dX2_bestReaderAloud_21 : decode cX2_bestReaderAloud 21 = .ok (.invokevirtual 38, 3) := by decide +kernel
theorem dX2_bestReaderAloud_24 : decode cX2_bestReaderAloud 24 = .ok (.ifCond .ne 6, 3) := by decide +kernel
theorem dX2_bestReaderAloud_27 : decode cX2_bestReaderAloud 27 = .ok (.goto 52, 3) := by decide +kernel
theorem dX2_bestReaderAloud_30 : decode cX2_bestReaderAloud 30 = .ok (.aload_n 1, 1) := by decide +kernel
theorem dX2_bestReaderAloud_31 : decode cX2_bestReaderAloud 31 = .ok (.iload 5, 2) := by decide +kernel
theorem dX2_bestReaderAloud_33 : decode cX2_bestReaderAloud 33 = .ok (.aload_n 1, 1) := by decide +kernel
theorem dX2_bestReaderAloud_34 : decode cX2_bestReaderAloud 34 = .ok (.iload 5, 2) := by decide +kernel
theorem dX2_bestReaderAloud_36 : decode cX2_bestReaderAloud 36 = .ok (.iload_n 2, 1) := by decide +kernel
theorem dX2_bestReaderAloud_37 : decode cX2_bestReaderAloud 37 = .ok (.invokevirtual 34, 3) := by decide +kernel
theorem dX2_bestReaderAloud_40 : decode cX2_bestReaderAloud 40 = .ok (.invokevirtual 42, 3) := by decide +kernel
theorem dX2_bestReaderAloud_43 : decode cX2_bestReaderAloud 43 = .ok (.ifCond .ne 6, 3) := by decide +kernel
theorem dX2_bestReaderAloud_46 : decode cX2_bestReaderAloud 46 = .ok (.goto 33, 3) := by decide +kernel
theorem dX2_bestReaderAloud_49 : decode cX2_bestReaderAloud 49 = .ok (.aload_n 0, 1) := by decide +kernel
theorem dX2_bestReaderAloud_50 : decode cX2_bestReaderAloud 50 = .ok (.aload_n 1, 1) := by decide +kernel
theorem dX2_bestReaderAloud_51 : decode cX2_bestReaderAloud 51 = .ok (.iload 5, 2) := by decide +kernel
theorem dX2_bestReaderAloud_53 : decode cX2_bestReaderAloud 53 = .ok (.iload_n 2, 1) := by decide +kernel
theorem dX2_bestReaderAloud_54 : decode cX2_bestReaderAloud 54 = .ok (.invokevirtual 46, 3) := by decide +kernel
theorem dX2_bestReaderAloud_57 : decode cX2_bestReaderAloud 57 = .ok (.istore 6, 2) := by decide +kernel
theorem dX2_bestReaderAloud_59 : decode cX2_bestReaderAloud 59 = .ok (.iload_n 3, 1) := by decide +kernel
theorem dX2_bestReaderAloud_60 : decode cX2_bestReaderAloud 60 = .ok (.ldc 21, 2) := by decide +kernel
theorem dX2_bestReaderAloud_62 : decode cX2_bestReaderAloud 62 = .ok (.if_icmp .eq 10, 3) := by decide +kernel
theorem dX2_bestReaderAloud_65 : decode cX2_bestReaderAloud 65 = .ok (.iload 6, 2) := by decide +kernel
theorem dX2_bestReaderAloud_67 : decode cX2_bestReaderAloud 67 = .ok (.iload 4, 2) := by decide +kernel
theorem dX2_bestReaderAloud_69 : decode cX2_bestReaderAloud 69 = .ok (.if_icmp .ge 10, 3) := by decide +kernel
theorem dX2_bestReaderAloud_72 : decode cX2_bestReaderAloud 72 = .ok (.iload 5, 2) := by decide +kernel
theorem dX2_bestReaderAloud_74 : decode cX2_bestReaderAloud 74 = .ok (.istore_n 3, 1) := by decide +kernel
theorem dX2_bestReaderAloud_75 : decode cX2_bestReaderAloud 75 = .ok (.iload 6, 2) := by decide +kernel
theorem dX2_bestReaderAloud_77 : decode cX2_bestReaderAloud 77 = .ok (.istore 4, 2) := by decide +kernel
theorem dX2_bestReaderAloud_79 : decode cX2_bestReaderAloud 79 = .ok (.iinc 5 1, 3) := by decide +kernel
theorem dX2_bestReaderAloud_82 : decode cX2_bestReaderAloud 82 = .ok (.goto (-73), 3) := by decide +kernel
theorem dX2_bestReaderAloud_85 : decode cX2_bestReaderAloud 85 = .ok (.iload_n 3, 1) := by decide +kernel
theorem dX2_bestReaderAloud_86 : decode cX2_bestReaderAloud 86 = .ok (.ireturn, 1) := by decide +kernel
set_option maxRecDepth 100000 in
set_option maxHeartbeats 4000000 in
theorem X2_bestReaderAloud_b79_ok (G : Gt) (o : Nat) (p1 : Nat) (ho : kd o = 2) (hp1 : kd p1 = 3)   (k9 : Int32 → Int32 → Int32 → Int32 → Mem → Option (Int32 × Mem)) (hk9 : ∀ (x2 : Int32) (x3 : Int32) (x4 : Int32) (x5 : Int32) (mem : Mem), EvR tvI G cX2_bestReaderAloud 7 (some .int) RX2 6 9 [(0, .ref (gA G o)), (1, .ref (gA G p1)), (2, .int (x2)), (3, .int (x3)), (4, .int (x4)), (5, .int (x5))] [] mem (k9 x2 x3 x4 x5 mem)) (x2 : Int32) (x3 : Int32) (x4 : Int32) (x5 : Int32) (mem : Mem) : EvR tvI G cX2_bestReaderAloud 7 (some .int) RX2 6 79 [(0, .ref (gA G o)), (1, .ref (gA G p1)), (2, .int (x2)), (3, .int (x3)), (4, .int (x4)), (5, .int (x5))] [] mem (X2_bestReaderAloud_b79 o p1 k9 x2 x3 x4 x5 mem) := by
  unfold X2_bestReaderAloud_b79
  refine ev_iinc (q := 82) (lv2 := [(5, .int _), (0, .ref _), (1, .ref _), (2, .int _), (3, .int _), (4, .int _)]) (v := x5 + 1) dX2_bestReaderAloud_79 5 rfl rfl (congrArg (HAdd.hAdd _) li_1) (Nat.le_of_ble_eq_true rfl) rfl ?_
  refine ev_goto (t := 9) dX2_bestReaderAloud_82 rfl ?_
  refine ev_sub (lv' := [(0, .ref _), (1, .ref _), (2, .int _), (3, .int _), (4, .int _), (5, .int _)]) [1, 2, 3, 4, 5, 0] rfl ?_
  exact hk9 _ _ _ _ _
set_option maxRecDepth 100000 in
set_option maxHeartbeats 4000000 in
theorem X2_bestReaderAloud_b72_ok (G : Gt) (o : Nat) (p1 : Nat) (ho : kd o = 2) (hp1 : kd p1 = 3)   (k9 : Int32 → Int32 → Int32 → Int32 → Mem → Option (Int32 × Mem)) (hk9 : ∀ (x2 : Int32) (x3 : Int32) (x4 : Int32) (x5 : Int32) (mem : Mem), EvR tvI G cX2_bestReaderAloud 7 (some .int) RX2 6 9 [(0, .ref (gA G o)), (1, .ref (gA G p1)), (2, .int (x2)), (3, .int (x3)), (4, .int (x4)), (5, .int (x5))] [] mem (k9 x2 x3 x4 x5 mem)) (x2 : Int32) (x5 : Int32) (x6 : Int32) (mem : Mem) : EvR tvI G cX2_bestReaderAloud 7 (some .int) RX2 6 72 [(0, .ref (gA G o)), (1, .ref (gA G p1)), (2, .int (x2)), (5, .int (x5)), (6, .int (x6))] [] mem (X2_bestReaderAloud_b72 o p1 k9 x2 x5 x6 mem) := by
  unfold X2_bestReaderAloud_b72
  refine ev_iload (q := 74) dX2_bestReaderAloud_72 3 rfl rfl ?_
  refine ev_istore_n (q := 75) (lv2 := [(3, .int _), (0, .ref _), (1, .ref _), (2, .int _), (5, .int _), (6, .int _)]) dX2_bestReaderAloud_74 rfl rfl (Nat.le_of_ble_eq_true rfl) rfl ?_
  refine ev_iload (q := 77) dX2_bestReaderAloud_75 5 rfl rfl ?_
  refine ev_istore (q := 79) (lv2 := [(4, .int _), (3, .int _), (0, .ref _), (1, .ref _), (2, .int _), (5, .int _), (6, .int _)]) dX2_bestReaderAloud_77 rfl (Nat.le_of_ble_eq_true rfl) rfl ?_
  refine ev_sub (lv' := [(0, .ref _), (1, .ref _), (2, .int _), (3, .int _), (4, .int _), (5, .int _)]) [2, 3, 4, 1, 0, 5] rfl ?_
  exact X2_bestReaderAloud_b79_ok G o p1 ho hp1  k9 hk9 _ _ _ _ _
set_option maxRecDepth 100000 in
set_option maxHeartbeats 4000000 in
theorem X2_bestReaderAloud_b9_ok (G : Gt) (o : Nat) (p1 : Nat) (ho : kd o = 2) (hp1 : kd p1 = 3)    : ∀ (n : Nat) (x2 : Int32) (x3 : Int32) (x4 : Int32) (x5 : Int32) (mem : Mem), EvR tvI G cX2_bestReaderAloud 7 (some .int) RX2 6 9 [(0, .ref (gA G o)), (1, .ref (gA G p1)), (2, .int (x2)), (3, .int (x3)), (4, .int (x4)), (5, .int (x5))] [] mem (X2_bestReaderAloud_b9 o p1 n x2 x3 x4 x5 mem) := by
  intro n
  induction n with
  | zero => intros; exact ev_none
  | succ n ih =>
    intro x2 x3 x4 x5 mem
    rw [X2_bestReaderAloud_b9]
    refine ev_iload (q := 11) dX2_bestReaderAloud_9 5 rfl rfl ?_
    refine ev_aload_n (q := 12) dX2_bestReaderAloud_11 rfl 1 rfl rfl ?_
    refine ev_getI (q := 15) (ci := 3) (j := 7) (T := TX3) dX2_bestReaderAloud_12 rfl cf_3 hp1 hj_3_7 hc_3 gf_X2_22 rfl ?_
    refine ev_icmp_ge (t := 85) (q := 18) dX2_bestReaderAloud_15 rfl rfl (fun hc1 => ?_) (fun hc1 => ?_)
    · refine ev_aload_n (q := 19) dX2_bestReaderAloud_18 rfl 1 rfl rfl ?_
      refine ev_iload (q := 21) dX2_bestReaderAloud_19 5 rfl rfl ?_
      refine ev_callVI (q := 24) dX2_bestReaderAloud_21 rfl ml_X2_38 mt_X3_isFit cf_3 rfl hp1 hc_3 (con_X3_isFit G _ _ hp1 _) rfl (Nat.le_of_ble_eq_true rfl) (Nat.le_of_ble_eq_true rfl) rfl (Nat.le_of_ble_eq_true rfl) (fun r2 m3 => ?_)
      refine ev_if_ne (t := 30) (q := 27) dX2_bestReaderAloud_24 rfl rfl (fun hc4 => ?_) (fun hc4 => ?_)
      · refine ev_goto (t := 79) dX2_bestReaderAloud_27 rfl ?_
        exact X2_bestReaderAloud_b79_ok G o p1 ho hp1  (X2_bestReaderAloud_b9 o p1 n) ih _ _ _ _ _
      · refine ev_aload_n (q := 31) dX2_bestReaderAloud_30 rfl 1 rfl rfl ?_
        refine ev_iload (q := 33) dX2_bestReaderAloud_31 5 rfl rfl ?_
        refine ev_aload_n (q := 34) dX2_bestReaderAloud_33 rfl 1 rfl rfl ?_
        refine ev_iload (q := 36) dX2_bestReaderAloud_34 5 rfl rfl ?_
        refine ev_iload_n (q := 37) dX2_bestReaderAloud_36 rfl 2 rfl rfl ?_
        refine ev_callVI (q := 40) dX2_bestReaderAloud_37 rfl ml_X2_34 mt_X3_costFor cf_3 rfl hp1 hc_3 (con_X3_costFor G _ _ _ hp1 _) rfl (Nat.le_of_ble_eq_true rfl) (Nat.le_of_ble_eq_true rfl) rfl (Nat.le_of_ble_eq_true rfl) (fun r5 m6 => ?_)
        refine ev_callVI (q := 43) dX2_bestReaderAloud_40 rfl ml_X2_42 mt_X3_survives cf_3 rfl hp1 hc_3 (con_X3_survives G _ _ _ hp1 _) rfl (Nat.le_of_ble_eq_true rfl) (Nat.le_of_ble_eq_true rfl) rfl (Nat.le_of_ble_eq_true rfl) (fun r7 m8 => ?_)
        refine ev_if_ne (t := 49) (q := 46) dX2_bestReaderAloud_43 rfl rfl (fun hc9 => ?_) (fun hc9 => ?_)
        · refine ev_goto (t := 79) dX2_bestReaderAloud_46 rfl ?_
          exact X2_bestReaderAloud_b79_ok G o p1 ho hp1  (X2_bestReaderAloud_b9 o p1 n) ih _ _ _ _ _
        · refine ev_aload_n (q := 50) dX2_bestReaderAloud_49 rfl 0 rfl rfl ?_
          refine ev_aload_n (q := 51) dX2_bestReaderAloud_50 rfl 1 rfl rfl ?_
          refine ev_iload (q := 53) dX2_bestReaderAloud_51 5 rfl rfl ?_
          refine ev_iload_n (q := 54) dX2_bestReaderAloud_53 rfl 2 rfl rfl ?_
          refine ev_callVI (q := 57) dX2_bestReaderAloud_54 rfl ml_X2_46 mt_X2_spentAloud cf_2 rfl ho hc_2 (con_X2_spentAloud G _ _ _ _ ho hp1 _) rfl (Nat.le_of_ble_eq_true rfl) (Nat.le_of_ble_eq_true rfl) rfl (Nat.le_of_ble_eq_true rfl) (fun r10 m11 => ?_)
          refine ev_istore (q := 59) (lv2 := [(6, .int _), (0, .ref _), (1, .ref _), (2, .int _), (3, .int _), (4, .int _), (5, .int _)]) dX2_bestReaderAloud_57 rfl (Nat.le_of_ble_eq_true rfl) rfl ?_
          refine ev_iload_n (q := 60) dX2_bestReaderAloud_59 rfl 4 rfl rfl ?_
          refine ev_ldc (q := 62) (v := (-1000000)) dX2_bestReaderAloud_60 rfl kc_X2_21 ?_
          refine ev_icmp_eq (t := 72) (q := 65) dX2_bestReaderAloud_62 rfl rfl (fun hc12 => ?_) (fun hc12 => ?_)
          · refine ev_sub (lv' := [(0, .ref _), (1, .ref _), (2, .int _), (5, .int _), (6, .int _)]) [1, 2, 3, 6, 0] rfl ?_
            exact X2_bestReaderAloud_b72_ok G o p1 ho hp1  (X2_bestReaderAloud_b9 o p1 n) ih _ _ _ _
          · refine ev_iload (q := 67) dX2_bestReaderAloud_65 0 rfl rfl ?_
            refine ev_iload (q := 69) dX2_bestReaderAloud_67 5 rfl rfl ?_
            refine ev_icmp_ge (t := 79) (q := 72) dX2_bestReaderAloud_69 rfl rfl (fun hc13 => ?_) (fun hc13 => ?_)
            · refine ev_sub (lv' := [(0, .ref _), (1, .ref _), (2, .int _), (5, .int _), (6, .int _)]) [1, 2, 3, 6, 0] rfl ?_
              exact X2_bestReaderAloud_b72_ok G o p1 ho hp1  (X2_bestReaderAloud_b9 o p1 n) ih _ _ _ _
            · refine ev_sub (lv' := [(0, .ref _), (1, .ref _), (2, .int _), (3, .int _), (4, .int _), (5, .int _)]) [1, 2, 3, 4, 5, 6] rfl ?_
              exact X2_bestReaderAloud_b79_ok G o p1 ho hp1  (X2_bestReaderAloud_b9 o p1 n) ih _ _ _ _ _
    · refine ev_iload_n (q := 86) dX2_bestReaderAloud_85 rfl 3 rfl rfl ?_
      exact ev_iret dX2_bestReaderAloud_86 rfl
set_option maxRecDepth 100000 in
set_option maxHeartbeats 4000000 in
theorem con_X2_bestReaderAloud (G : Gt) (o : Nat) (p1 : Nat) (a2 : Int32) (ho : kd o = 2) (hp1 : kd p1 = 3) (mem : Mem) : Con tvI G yX2_bestReaderAloud cX2_bestReaderAloud 7 (some .int) 6 [.ref (gA G o), .ref (gA G p1), .int a2] mem (X2_bestReaderAloud o p1 a2 mem) := by
  refine con_of (by decide) (Nat.le_of_ble_eq_true rfl) ?_
  show EvR tvI G cX2_bestReaderAloud 7 (some .int) RX2 6 0 [(0, .ref (gA G o)), (1, .ref (gA G p1)), (2, .int (a2))] [] mem _
  unfold X2_bestReaderAloud
  refine ev_ldc (q := 2) (v := (-1000000)) dX2_bestReaderAloud_0 rfl kc_X2_21 ?_
  refine ev_istore_n (q := 3) (lv2 := [(3, .int _), (0, .ref _), (1, .ref _), (2, .int _)]) dX2_bestReaderAloud_2 rfl rfl (Nat.le_of_ble_eq_true rfl) rfl ?_
  refine ev_iconst (q := 4) (v := 0) dX2_bestReaderAloud_3 rfl li_0 ?_
  refine ev_istore (q := 6) (lv2 := [(4, .int _), (3, .int _), (0, .ref _), (1, .ref _), (2, .int _)]) dX2_bestReaderAloud_4 rfl (Nat.le_of_ble_eq_true rfl) rfl ?_
  refine ev_iconst (q := 7) (v := 0) dX2_bestReaderAloud_6 rfl li_0 ?_
  refine ev_istore (q := 9) (lv2 := [(5, .int _), (4, .int _), (3, .int _), (0, .ref _), (1, .ref _), (2, .int _)]) dX2_bestReaderAloud_7 rfl (Nat.le_of_ble_eq_true rfl) rfl ?_
  refine ev_sub (lv' := [(0, .ref _), (1, .ref _), (2, .int _), (3, .int _), (4, .int _), (5, .int _)]) [3, 4, 5, 2, 1, 0] rfl ?_
  exact X2_bestReaderAloud_b9_ok G o p1 ho hp1   fu _ _ _ _ _
/-! java/util/Arrays.fill([II)V -/
theorem dJ7_fill_53178_0 : decode cJ7_fill_53178 0 = .ok (.iconst 0, 1) := by decide +kernel
theorem dJ7_fill_53178_1 : decode cJ7_fill_53178 1 = .ok (.istore_n 2, 1) := by decide +kernel
theorem dJ7_fill_53178_2 : decode cJ7_fill_53178 2 = .ok (.aload_n 0, 1) := by decide +kernel
theorem dJ7_fill_53178_3 : decode cJ7_fill_53178 3 = .ok (.arraylength, 1) := by decide +kernel
theorem dJ7_fill_53178_4 : decode cJ7_fill_53178 4 = .ok (.istore_n 3, 1) := by decide +kernel
theorem dJ7_fill_53178_5 : decode cJ7_fill_53178 5 = .ok (.iload_n 2, 1) := by decide +kernel
theorem dJ7_fill_53178_6 : decode cJ7_fill_53178 6 = .ok (.iload_n 3, 1) := by decide +kernel
theorem dJ7_fill_53178_7 : decode cJ7_fill_53178 7 = .ok (.if_icmp .ge 13, 3) := by decide +kernel
theorem dJ7_fill_53178_10 : decode cJ7_fill_53178 10 = .ok (.aload_n 0, 1) := by decide +kernel
theorem dJ7_fill_53178_11 : decode cJ7_fill_53178 11 = .ok (.iload_n 2, 1) := by decide +kernel
theorem dJ7_fill_53178_12 : decode cJ7_fill_53178 12 = .ok (.iload_n 1, 1) := by decide +kernel
theorem dJ7_fill_53178_13 : decode cJ7_fill_53178 13 = .ok (.iastore, 1) := by decide +kernel
theorem dJ7_fill_53178_14 : decode cJ7_fill_53178 14 = .ok (.iinc 2 1, 3) := by decide +kernel
theorem dJ7_fill_53178_17 : decode cJ7_fill_53178 17 = .ok (.goto (-12), 3) := by decide +kernel
theorem dJ7_fill_53178_20 : decode cJ7_fill_53178 20 = .ok (.return_, 1) := by decide +kernel
set_option maxRecDepth 100000 in
set_option maxHeartbeats 4000000 in
theorem J7_fill_53178_b5_ok (G : Gt) (p0 : Nat) (hp0 : kd p0 = 100)    : ∀ (n : Nat) (x1 : Int32) (x2 : Int32) (x3 : Int32) (mem : Mem), EvR tvU G cJ7_fill_53178 4 none RJ7 1 5 [(0, .ref (gA G p0)), (1, .int (x1)), (2, .int (x2)), (3, .int (x3))] [] mem (J7_fill_53178_b5 p0 n x1 x2 x3 mem) := by
  intro n
  induction n with
  | zero => intros; exact ev_none
  | succ n ih =>
    intro x1 x2 x3 mem
    rw [J7_fill_53178_b5]
    refine ev_iload_n (q := 6) dJ7_fill_53178_5 rfl 2 rfl rfl ?_
    refine ev_iload_n (q := 7) dJ7_fill_53178_6 rfl 3 rfl rfl ?_
    refine ev_icmp_ge (t := 20) (q := 10) dJ7_fill_53178_7 rfl rfl (fun hc1 => ?_) (fun hc1 => ?_)
    · refine ev_aload_n (q := 11) dJ7_fill_53178_10 rfl 0 rfl rfl ?_
      refine ev_iload_n (q := 12) dJ7_fill_53178_11 rfl 2 rfl rfl ?_
      refine ev_iload_n (q := 13) dJ7_fill_53178_12 rfl 1 rfl rfl ?_
      refine ev_iast (q := 14) dJ7_fill_53178_13 rfl hp0 (fun m2 => ?_)
      refine ev_iinc (q := 17) (lv2 := [(2, .int _), (0, .ref _), (1, .int _), (3, .int _)]) (v := x2 + 1) dJ7_fill_53178_14 2 rfl rfl (congrArg (HAdd.hAdd _) li_1) (Nat.le_of_ble_eq_true rfl) rfl ?_
      refine ev_goto (t := 5) dJ7_fill_53178_17 rfl ?_
      refine ev_sub (lv' := [(0, .ref _), (1, .int _), (2, .int _), (3, .int _)]) [1, 2, 0, 3] rfl ?_
      exact ih _ _ _ _
    · exact ev_vret dJ7_fill_53178_20 rfl
set_option maxRecDepth 100000 in
set_option maxHeartbeats 4000000 in
theorem con_J7_fill_53178 (G : Gt) (p0 : Nat) (a1 : Int32) (hp0 : kd p0 = 100) (mem : Mem) : Con tvU G yJ7_fill_53178 cJ7_fill_53178 4 none 1 [.ref (gA G p0), .int a1] mem (J7_fill_53178 p0 a1 mem) := by
  refine con_of (by decide) (Nat.le_of_ble_eq_true rfl) ?_
  show EvR tvU G cJ7_fill_53178 4 none RJ7 1 0 [(0, .ref (gA G p0)), (1, .int (a1))] [] mem _
  unfold J7_fill_53178
  refine ev_iconst (q := 1) (v := 0) dJ7_fill_53178_0 rfl li_0 ?_
  refine ev_istore_n (q := 2) (lv2 := [(2, .int _), (0, .ref _), (1, .int _)]) dJ7_fill_53178_1 rfl rfl (Nat.le_of_ble_eq_true rfl) rfl ?_
  refine ev_aload_n (q := 3) dJ7_fill_53178_2 rfl 1 rfl rfl ?_
  refine ev_alen (q := 4) dJ7_fill_53178_3 rfl hp0 ?_
  refine ev_istore_n (q := 5) (lv2 := [(3, .int _), (2, .int _), (0, .ref _), (1, .int _)]) dJ7_fill_53178_4 rfl rfl (Nat.le_of_ble_eq_true rfl) rfl ?_
  refine ev_sub (lv' := [(0, .ref _), (1, .int _), (2, .int _), (3, .int _)]) [2, 3, 1, 0] rfl ?_
  exact J7_fill_53178_b5_ok G p0 hp0   fu _ _ _ _
/-! AgingLetters$Office.readersOf(I)I -/
theorem dX3_readersOf_0 : decode cX3_readersOf 0 = .ok (.iconst 0, 1) := by decide +kernel
theorem dX3_readersOf_1 : decode cX3_readersOf 1 = .ok (.istore_n 2, 1) := by decide +kernel
theorem dX3_readersOf_2 : decode cX3_readersOf 2 = .ok (.iconst 0, 1) := by decide +kernel
theorem dX3_readersOf_3 : decode cX3_readersOf 3 = .ok (.istore_n 3, 1) := by decide +kernel
theorem dX3_readersOf_4 : decode cX3_readersOf 4 = .ok (.iload_n 3, 1) := by decide +kernel
theorem dX3_readersOf_5 : decode cX3_readersOf 5 = .ok (.aload_n 0, 1) := by decide +kernel
theorem dX3_readersOf_6 : decode cX3_readersOf 6 = .ok (.getfield 50, 3) := by decide +kernel
theorem dX3_readersOf_9 : decode cX3_readersOf 9 = .ok (.if_icmp .ge 24, 3) := by decide +kernel
theorem dX3_readersOf_12 : decode cX3_readersOf 12 = .ok (.aload_n 0, 1) := by decide +kernel
theorem dX3_readersOf_13 : decode cX3_readersOf 13 = .ok (.iload_n 3, 1) := by decide +kernel
theorem dX3_readersOf_14 : decode cX3_readersOf 14 = .ok (.iload_n 1, 1) := by decide +kernel
theorem dX3_readersOf_15 : decode cX3_readersOf 15 = .ok (.invokevirtual 76, 3) := by decide +kernel
theorem dX3_readersOf_18 : decode cX3_readersOf 18 = .ok (.ifCond .eq 9, 3) := by decide +kernel
theorem dX3_readersOf_21 : decode cX3_readersOf 21 = .ok (.iload_n 2, 1) := by decide +kernel
theorem dX3_readersOf_22 : decode cX3_readersOf 22 = .ok (.iconst 1, 1) := by decide +kernel
theorem dX3_readersOf_23 : decode cX3_readersOf 23 = .ok (.iload_n 3, 1) := by decide +kernel
theorem dX3_readersOf_24 : decode cX3_readersOf 24 = .ok (.ishl, 1) := by decide +kernel
theorem dX3_readersOf_25 : decode cX3_readersOf 25 = .ok (.ior, 1) := by decide +kernel
theorem dX3_readersOf_26 : decode cX3_readersOf 26 = .ok (.istore_n 2, 1) := by decide +kernel
theorem dX3_readersOf_27 : decode cX3_readersOf 27 = .ok (.iinc 3 1, 3) := by decide +kernel
theorem dX3_readersOf_30 : decode cX3_readersOf 30 = .ok (.goto (-26), 3) := by decide +kernel
theorem dX3_readersOf_33 : decode cX3_readersOf 33 = .ok (.iload_n 2, 1) := by decide +kernel
theorem dX3_readersOf_34 : decode cX3_readersOf 34 = .ok (.ireturn, 1) := by decide +kernel
set_option maxRecDepth 100000 in
set_option maxHeartbeats 4000000 in
theorem X3_readersOf_b27_ok (G : Gt) (o : Nat) (ho : kd o = 3)   (k4 : Int32 → Int32 → Int32 → Mem → Option (Int32 × Mem)) (hk4 : ∀ (x1 : Int32) (x2 : Int32) (x3 : Int32) (mem : Mem), EvR tvI G cX3_readersOf 4 (some .int) RX3 2 4 [(0, .ref (gA G o)), (1, .int (x1)), (2, .int (x2)), (3, .int (x3))] [] mem (k4 x1 x2 x3 mem)) (x1 : Int32) (x2 : Int32) (x3 : Int32) (mem : Mem) : EvR tvI G cX3_readersOf 4 (some .int) RX3 2 27 [(0, .ref (gA G o)), (1, .int (x1)), (2, .int (x2)), (3, .int (x3))] [] mem (X3_readersOf_b27 o k4 x1 x2 x3 mem) := by
  unfold X3_readersOf_b27
  refine ev_iinc (q := 30) (lv2 := [(3, .int _), (0, .ref _), (1, .int _), (2, .int _)]) (v := x3 + 1) dX3_readersOf_27 3 rfl rfl (congrArg (HAdd.hAdd _) li_1) (Nat.le_of_ble_eq_true rfl) rfl ?_
  refine ev_goto (t := 4) dX3_readersOf_30 rfl ?_
  refine ev_sub (lv' := [(0, .ref _), (1, .int _), (2, .int _), (3, .int _)]) [1, 2, 3, 0] rfl ?_
  exact hk4 _ _ _ _
set_option maxRecDepth 100000 in
set_option maxHeartbeats 4000000 in
theorem X3_readersOf_b4_ok (G : Gt) (o : Nat) (ho : kd o = 3)    : ∀ (n : Nat) (x1 : Int32) (x2 : Int32) (x3 : Int32) (mem : Mem), EvR tvI G cX3_readersOf 4 (some .int) RX3 2 4 [(0, .ref (gA G o)), (1, .int (x1)), (2, .int (x2)), (3, .int (x3))] [] mem (X3_readersOf_b4 o n x1 x2 x3 mem) := by
  intro n
  induction n with
  | zero => intros; exact ev_none
  | succ n ih =>
    intro x1 x2 x3 mem
    rw [X3_readersOf_b4]
    refine ev_iload_n (q := 5) dX3_readersOf_4 rfl 3 rfl rfl ?_
    refine ev_aload_n (q := 6) dX3_readersOf_5 rfl 0 rfl rfl ?_
    refine ev_getI (q := 9) (ci := 3) (j := 7) (T := TX3) dX3_readersOf_6 rfl cf_3 ho hj_3_7 hc_3 gf_X3_50 rfl ?_
    refine ev_icmp_ge (t := 33) (q := 12) dX3_readersOf_9 rfl rfl (fun hc1 => ?_) (fun hc1 => ?_)
    · refine ev_aload_n (q := 13) dX3_readersOf_12 rfl 0 rfl rfl ?_
      refine ev_iload_n (q := 14) dX3_readersOf_13 rfl 3 rfl rfl ?_
      refine ev_iload_n (q := 15) dX3_readersOf_14 rfl 1 rfl rfl ?_
      refine ev_callVI (q := 18) dX3_readersOf_15 rfl ml_X3_76 mt_X3_hasRead cf_3 rfl ho hc_3 (con_X3_hasRead G _ _ _ ho _) rfl (Nat.le_of_ble_eq_true rfl) (Nat.le_of_ble_eq_true rfl) rfl (Nat.le_of_ble_eq_true rfl) (fun r2 m3 => ?_)
      refine ev_if_eq (t := 27) (q := 21) dX3_readersOf_18 rfl rfl (fun hc4 => ?_) (fun hc4 => ?_)
      · exact X3_readersOf_b27_ok G o ho  (X3_readersOf_b4 o n) ih _ _ _ _
      · refine ev_iload_n (q := 22) dX3_readersOf_21 rfl 2 rfl rfl ?_
        refine ev_iconst (q := 23) (v := 1) dX3_readersOf_22 rfl li_1 ?_
        refine ev_iload_n (q := 24) dX3_readersOf_23 rfl 3 rfl rfl ?_
        refine ev_ishl (q := 25) dX3_readersOf_24 rfl ?_
        refine ev_ior (q := 26) dX3_readersOf_25 rfl ?_
        refine ev_istore_n (q := 27) (lv2 := [(2, .int _), (0, .ref _), (1, .int _), (3, .int _)]) dX3_readersOf_26 rfl rfl (Nat.le_of_ble_eq_true rfl) rfl ?_
        refine ev_sub (lv' := [(0, .ref _), (1, .int _), (2, .int _), (3, .int _)]) [1, 2, 0, 3] rfl ?_
        exact X3_readersOf_b27_ok G o ho  (X3_readersOf_b4 o n) ih _ _ _ _
    · refine ev_iload_n (q := 34) dX3_readersOf_33 rfl 2 rfl rfl ?_
      exact ev_iret dX3_readersOf_34 rfl
set_option maxRecDepth 100000 in
set_option maxHeartbeats 4000000 in
theorem con_X3_readersOf (G : Gt) (o : Nat) (a1 : Int32) (ho : kd o = 3) (mem : Mem) : Con tvI G yX3_readersOf cX3_readersOf 4 (some .int) 2 [.ref (gA G o), .int a1] mem (X3_readersOf o a1 mem) := by
  refine con_of (by decide) (Nat.le_of_ble_eq_true rfl) ?_
  show EvR tvI G cX3_readersOf 4 (some .int) RX3 2 0 [(0, .ref (gA G o)), (1, .int (a1))] [] mem _
  unfold X3_readersOf
  refine ev_iconst (q := 1) (v := 0) dX3_readersOf_0 rfl li_0 ?_
  refine ev_istore_n (q := 2) (lv2 := [(2, .int _), (0, .ref _), (1, .int _)]) dX3_readersOf_1 rfl rfl (Nat.le_of_ble_eq_true rfl) rfl ?_
  refine ev_iconst (q := 3) (v := 0) dX3_readersOf_2 rfl li_0 ?_
  refine ev_istore_n (q := 4) (lv2 := [(3, .int _), (2, .int _), (0, .ref _), (1, .int _)]) dX3_readersOf_3 rfl rfl (Nat.le_of_ble_eq_true rfl) rfl ?_
  refine ev_sub (lv' := [(0, .ref _), (1, .int _), (2, .int _), (3, .int _)]) [2, 3, 1, 0] rfl ?_
  exact X3_readersOf_b4_ok G o ho   fu _ _ _ _
/-! AgingLetters$Office.firstCost(I)I -/
theorem dX3_firstCost_0 : decode cX3_firstCost 0 = .ok (.aload_n 0, 1) := by decide +kernel
theorem dX3_firstCost_1 : decode cX3_firstCost 1 = .ok (.getfield 9, 3) := by decide +kernel
theorem dX3_firstCost_4 : decode cX3_firstCost 4 = .ok (.iload_n 1, 1) := by decide +kernel
theorem dX3_firstCost_5 : decode cX3_firstCost 5 = .ok (.iaload, 1) := by decide +kernel
theorem dX3_firstCost_6 : decode cX3_firstCost 6 = .ok (.aload_n 0, 1) := by decide +kernel
theorem dX3_firstCost_7 : decode cX3_firstCost 7 = .ok (.getfield 15, 3) := by decide +kernel
theorem dX3_firstCost_10 : decode cX3_firstCost 10 = .ok (.iload_n 1, 1) := by decide +kernel
theorem dX3_firstCost_11 : decode cX3_firstCost 11 = .ok (.iaload, 1) := by decide +kernel
theorem dX3_firstCost_12 : decode cX3_firstCost 12 = .ok (.invokestatic 90, 3) := by decide +kernel
theorem dX3_firstCost_15 : decode cX3_firstCost 15 = .ok (.ireturn, 1) := by decide +kernel
set_option maxRecDepth 100000 in
set_option maxHeartbeats 4000000 in
theorem con_X3_firstCost (G : Gt) (o : Nat) (a1 : Int32) (ho : kd o = 3) (mem : Mem) : Con tvI G yX3_firstCost cX3_firstCost 2 (some .int) 3 [.ref (gA G o), .int a1] mem (X3_firstCost o a1 mem) := by
  refine con_of (by decide) (Nat.le_of_ble_eq_true rfl) ?_
  show EvR tvI G cX3_firstCost 2 (some .int) RX3 3 0 [(0, .ref (gA G o)), (1, .int (a1))] [] mem _
  unfold X3_firstCost
  refine ev_aload_n (q := 1) dX3_firstCost_0 rfl 0 rfl rfl ?_
  refine ev_getR (q := 4) (ci := 3) (j := 4) (T := TX3) dX3_firstCost_1 rfl cf_3 ho hj_3_4 hc_3 gf_X3_9 rfl ?_
  refine ev_iload_n (q := 5) dX3_firstCost_4 rfl 1 rfl rfl ?_
  refine ev_iald (q := 6) dX3_firstCost_5 rfl (kr_3_4 ho) (fun z1 => ?_)
  refine ev_aload_n (q := 7) dX3_firstCost_6 rfl 0 rfl rfl ?_
  refine ev_getR (q := 10) (ci := 3) (j := 5) (T := TX3) dX3_firstCost_7 rfl cf_3 ho hj_3_5 hc_3 gf_X3_15 rfl ?_
  refine ev_iload_n (q := 11) dX3_firstCost_10 rfl 1 rfl rfl ?_
  refine ev_iald (q := 12) dX3_firstCost_11 rfl (kr_3_5 ho) (fun z2 => ?_)
  refine ev_callSI (q := 15) dX3_firstCost_12 rfl ml_X3_90 mt_X3_costOfPages (con_X3_costOfPages G _ _  _) rfl (Nat.le_of_ble_eq_true rfl) (Nat.le_of_ble_eq_true rfl) rfl (Nat.le_of_ble_eq_true rfl) (fun r3 m4 => ?_)
  exact ev_iret dX3_firstCost_15 rfl
/-! AgingLetters$Foretold.handsOut(LAgingLetters$Office;I[I[I)Z -/
theorem dX2_handsOut_0 : decode cX2_handsOut 0 = .ok (.iload_n 1, 1) := by decide +kernel
theorem dX2_handsOut_1 : decode cX2_handsOut 1 = .ok (.aload_n 0, 1) := by decide +kernel
theorem dX2_handsOut_2 : decode cX2_handsOut 2 = .ok (.getfield 68, 3) := by decide +kernel
theorem dX2_handsOut_5 : decode cX2_handsOut 5 = .ok (.if_icmp .lt 5, 3) := by decide +kernel
theorem dX2_handsOut_8 : decode cX2_handsOut 8 = .ok (.iconst 1, 1) := by decide +kernel
theorem dX2_handsOut_9 : decode cX2_handsOut 9 = .ok (.ireturn, 1) := by decide +kernel
theorem dX2_handsOut_10 : decode cX2_handsOut 10 = .ok (.aload_n 0, 1) := by decide +kernel
theorem dX2_handsOut_11 : decode cX2_handsOut 11 = .ok (.iload_n 1, 1) := by decide +kernel
theorem dX2_handsOut_12 : decode cX2_handsOut 12 = .ok (.invokevirtual 71, 3) := by decide +kernel
theorem dX2_handsOut_15 : decode cX2_handsOut 15 = .ok (.ifCond .eq 13, 3) := by decide +kernel
theorem dX2_handsOut_18 : decode cX2_handsOut 18 = .ok (.aload_n 0, 1) := by decide +kernel
theorem dX2_handsOut_19 : decode cX2_handsOut 19 = .ok (.iload_n 1, 1) := by decide +kernel
theorem dX2_handsOut_20 : decode cX2_handsOut 20 = .ok (.iconst 1, 1) := by decide +kernel
theorem dX2_handsOut_21 : decode cX2_handsOut 21 = .ok (.iadd, 1) := by decide +kernel
theorem dX2_handsOut_22 : decode cX2_handsOut 22 = .ok (.aload_n 2, 1) := by decide +kernel
theorem dX2_handsOut_23 : decode cX2_handsOut 23 = .ok (.aload_n 3, 1) := by decide +kernel
theorem dX2_handsOut_24 : decode cX2_handsOut 24 = .ok (.invokestatic 64, 3) := by decide +kernel
theorem dX2_handsOut_27 : decode cX2_handsOut 27 = .ok (.ireturn, 1) := by decide +kernel
theorem dX2_handsOut_28 : decode cX2_handsOut 28 = .ok (.aload_n 0, 1) := by decide +kernel
theorem dX2_handsOut_29 : decode cX2_handsOut 29 = .ok (.iload_n 1, 1) := by decide +kernel
theorem dX2_handsOut_30 : decode cX2_handsOut 30 = .ok (.invokevirtual 74, 3) := by decide +kernel
theorem dX2_handsOut_33 : decode cX2_handsOut 33 = .ok (.istore 4, 2) := by decide +kernel
theorem dX2_handsOut_35 : decode cX2_handsOut 35 = .ok (.iconst 0, 1) := by decide +kernel
theorem dX2_handsOut_36 : decode cX2_handsOut 36 = .ok (.istore 5, 2) := by decide +kernel
theorem dX2_handsOut_38 : decode cX2_handsOut 38 = .ok (.iload 5, 2) := by decide +kernel
theorem dX2_handsOut_40 : decode cX2_handsOut 40 = .ok (.aload_n 0, 1) := by decide +kernel
theorem dX2_handsOut_41 : decode cX2_handsOut 41 = .ok (.getfield 22, 3) := by decide +kernel
theorem dX2_handsOut_44 : decode cX2_handsOut 44 = .ok (.if_icmp .ge 74, 3) := by decide +kernel
theorem dX2_handsOut_47 : decode cX2_handsOut 47 = .ok (.aload_n 0, 1) := by decide +kernel
theorem dX2_handsOut_48 : decode cX2_handsOut 48 = .ok (.iload 5, 2) := by decide +kernel
theorem dX2_handsOut_50 : decode cX2_handsOut 50 = .ok (.invokevirtual 38, 3) := by decide +kernel
theorem dX2_handsOut_53 : decode cX2_handsOut 53 = .ok (.ifCond .eq 59, 3) := by decide +kernel
theorem dX2_handsOut_56 : decode cX2_handsOut 56 = .ok (.aload_n 0, 1) := by decide +kernel
theorem dX2_handsOut_57 : decode cX2_handsOut 57 = .ok (.iload 5, 2) := by decide +kernel
theorem dX2_handsOut_59 : decode cX2_handsOut 59 = .ok (.aload_n 2, 1) := by decide +kernel
theorem dX2_handsOut_60 : decode cX2_handsOut 60 = .ok (.iload 5, 2) := by decide +kernel
theorem dX2_handsOut_62 : decode cX2_handsOut 62 = .ok (.iaload, 1) := by decide +kernel
theorem dX2_handsOut_63 : decode cX2_handsOut 63 = .ok (.iload 4, 2) := by decide +kernel
theorem dX2_handsOut_65 : decode cX2_handsOut 65 = .ok (.iadd, 1) := by decide +kernel
theorem dX2_handsOut_66 : decode cX2_handsOut 66 = .ok (.invokevirtual 42, 3) := by decide +kernel
theorem dX2_handsOut_69 : decode cX2_handsOut 69 = .ok (.ifCond .ne 6, 3) := by decide +kernel
theorem dX2_handsOut_72 : decode cX2_handsOut 72 = .ok (.goto 40, 3) := by decide +kernel
theorem dX2_handsOut_75 : decode cX2_handsOut 75 = .ok (.aload_n 2, 1) := by decide +kernel
theorem dX2_handsOut_76 : decode cX2_handsOut 76 = .ok (.iload 5, 2) := by decide +kernel
theorem dX2_handsOut_78 : decode cX2_handsOut 78 = .ok (.dup2, 1) := by decide +kernel
theorem dX2_handsOut_79 : decode cX2_handsOut 79 = .ok (.iaload, 1) := by decide +kernel
theorem dX2_handsOut_80 : decode cX2_handsOut 80 = .ok (.iload 4, 2) := by decide +kernel
theorem dX2_handsOut_82 : decode cX2_handsOut 82 = .ok (.iadd, 1) := by decide +kernel
theorem dX2_handsOut_83 : decode cX2_handsOut 83 = .ok (.iastore, 1) := by decide +kernel
theorem dX2_handsOut_84 : decode cX2_handsOut 84 = .ok (.aload_n 3, 1) := by decide +kernel
theorem dX2_handsOut_85 : decode cX2_handsOut 85 = .ok (.iload_n 1, 1) := by decide +kernel
theorem dX2_handsOut_86 : decode cX2_handsOut 86 = .ok (.iload 5, 2) := by decide +kernel
theorem dX2_handsOut_88 : decode cX2_handsOut 88 = .ok (.iastore, 1) := by decide +kernel
theorem dX2_handsOut_89 : decode cX2_handsOut 89 = .ok (.aload_n 0, 1) := by decide +kernel
theorem dX2_handsOut_90 : decode cX2_handsOut 90 = .ok (.iload_n 1, 1) := by decide +kernel
theorem dX2_handsOut_91 : decode cX2_handsOut 91 = .ok (.iconst 1, 1) := by decide +kernel
theorem dX2_handsOut_92 : decode cX2_handsOut 92 = .ok (.iadd, 1) := by decide +kernel
theorem dX2_handsOut_93 : decode cX2_handsOut 93 = .ok (.aload_n 2, 1) := by decide +kernel
theorem dX2_handsOut_94 : decode cX2_handsOut 94 = .ok (.aload_n 3, 1) := by decide +kernel
theorem dX2_handsOut_95 : decode cX2_handsOut 95 = .ok (.invokestatic 64, 3) := by decide +kernel
theorem dX2_handsOut_98 : decode cX2_handsOut 98 = .ok (.ifCond .eq 5, 3) := by decide +kernel
theorem dX2_handsOut_101 : decode cX2_handsOut 101 = .ok (.iconst 1, 1) := by decide +kernel
theorem dX2_handsOut_102 : decode cX2_handsOut 102 = .ok (.ireturn, 1) := by decide +kernel
theorem dX2_handsOut_103 : decode cX2_handsOut 103 = .ok (.aload_n 2, 1) := by decide +kernel
theorem dX2_handsOut_104 : decode cX2_handsOut 104 = .ok (.iload 5, 2) := by decide +kernel
theorem dX2_handsOut_106 : decode cX2_handsOut 106 = .ok (.dup2, 1) := by decide +kernel
theorem dX2_handsOut_107 : decode cX2_handsOut 107 = .ok (.iaload, 1) := by decide +kernel
theorem dX2_handsOut_108 : decode cX2_handsOut 108 = .ok (.iload 4, 2) := by decide +kernel
theorem dX2_handsOut_110 : decode cX2_handsOut 110 = .ok (.isub, 1) := by decide +kernel
theorem dX2_handsOut_111 : decode cX2_handsOut 111 = .ok (.iastore, 1) := by decide +kernel
theorem dX2_handsOut_112 : decode cX2_handsOut 112 = .ok (.iinc 5 1, 3) := by decide +kernel
theorem dX2_handsOut_115 : decode cX2_handsOut 115 = .ok (.goto (-77), 3) := by decide +kernel
theorem dX2_handsOut_118 : decode cX2_handsOut 118 = .ok (.iconst 0, 1) := by decide +kernel
theorem dX2_handsOut_119 : decode cX2_handsOut 119 = .ok (.ireturn, 1) := by decide +kernel
set_option maxRecDepth 100000 in
set_option maxHeartbeats 4000000 in
theorem X2_handsOut_b112_ok (G : Gt) (p0 : Nat) (p2 : Nat) (p3 : Nat) (hp0 : kd p0 = 3) (hp2 : kd p2 = 100) (hp3 : kd p3 = 100) (frec : Nat → Int32 → Nat → Nat → Mem → Option (Int32 × Mem)) (d : Nat) (hd0 : 4 ≤ d) (hrec : ∀ (p0 : Nat) (a1 : Int32) (p2 : Nat) (p3 : Nat) (_ : kd p0 = 3) (_ : kd p2 = 100) (_ : kd p3 = 100) (mem : Mem), Con tvI G yX2_handsOut cX2_handsOut 6 (some .boolean) (d - 1) [.ref (gA G p0), .int a1, .ref (gA G p2), .ref (gA G p3)] mem (frec p0 a1 p2 p3 mem)) (k38 : Int32 → Int32 → Int32 → Mem → Option (Int32 × Mem)) (hk38 : ∀ (x1 : Int32) (x4 : Int32) (x5 : Int32) (mem : Mem), EvR tvI G cX2_handsOut 6 (some .boolean) RX2 d 38 [(0, .ref (gA G p0)), (1, .int (x1)), (2, .ref (gA G p2)), (3, .ref (gA G p3)), (4, .int (x4)), (5, .int (x5))] [] mem (k38 x1 x4 x5 mem)) (x1 : Int32) (x4 : Int32) (x5 : Int32) (mem : Mem) : EvR tvI G cX2_handsOut 6 (some .boolean) RX2 d 112 [(0, .ref (gA G p0)), (1, .int (x1)), (2, .ref (gA G p2)), (3, .ref (gA G p3)), (4, .int (x4)), (5, .int (x5))] [] mem (X2_handsOut_b112 p0 p2 p3 frec k38 x1 x4 x5 mem) := by
  unfold X2_handsOut_b112
  refine ev_iinc (q := 115) (lv2 := [(5, .int _), (0, .ref _), (1, .int _), (2, .ref _), (3, .ref _), (4, .int _)]) (v := x5 + 1) dX2_handsOut_112 5 rfl rfl (congrArg (HAdd.hAdd _) li_1) (Nat.le_of_ble_eq_true rfl) rfl ?_
  refine ev_goto (t := 38) dX2_handsOut_115 rfl ?_
  refine ev_sub (lv' := [(0, .ref _), (1, .int _), (2, .ref _), (3, .ref _), (4, .int _), (5, .int _)]) [1, 2, 3, 4, 5, 0] rfl ?_
  exact hk38 _ _ _ _
set_option maxRecDepth 100000 in
set_option maxHeartbeats 4000000 in
theorem X2_handsOut_b38_ok (G : Gt) (p0 : Nat) (p2 : Nat) (p3 : Nat) (hp0 : kd p0 = 3) (hp2 : kd p2 = 100) (hp3 : kd p3 = 100) (frec : Nat → Int32 → Nat → Nat → Mem → Option (Int32 × Mem)) (d : Nat) (hd0 : 4 ≤ d) (hrec : ∀ (p0 : Nat) (a1 : Int32) (p2 : Nat) (p3 : Nat) (_ : kd p0 = 3) (_ : kd p2 = 100) (_ : kd p3 = 100) (mem : Mem), Con tvI G yX2_handsOut cX2_handsOut 6 (some .boolean) (d - 1) [.ref (gA G p0), .int a1, .ref (gA G p2), .ref (gA G p3)] mem (frec p0 a1 p2 p3 mem))  : ∀ (n : Nat) (x1 : Int32) (x4 : Int32) (x5 : Int32) (mem : Mem), EvR tvI G cX2_handsOut 6 (some .boolean) RX2 d 38 [(0, .ref (gA G p0)), (1, .int (x1)), (2, .ref (gA G p2)), (3, .ref (gA G p3)), (4, .int (x4)), (5, .int (x5))] [] mem (X2_handsOut_b38 p0 p2 p3 frec n x1 x4 x5 mem) := by
  intro n
  induction n with
  | zero => intros; exact ev_none
  | succ n ih =>
    intro x1 x4 x5 mem
    rw [X2_handsOut_b38]
    refine ev_iload (q := 40) dX2_handsOut_38 5 rfl rfl ?_
    refine ev_aload_n (q := 41) dX2_handsOut_40 rfl 0 rfl rfl ?_
    refine ev_getI (q := 44) (ci := 3) (j := 7) (T := TX3) dX2_handsOut_41 rfl cf_3 hp0 hj_3_7 hc_3 gf_X2_22 rfl ?_
    refine ev_icmp_ge (t := 118) (q := 47) dX2_handsOut_44 rfl rfl (fun hc9 => ?_) (fun hc9 => ?_)
    · refine ev_aload_n (q := 48) dX2_handsOut_47 rfl 0 rfl rfl ?_
      refine ev_iload (q := 50) dX2_handsOut_48 5 rfl rfl ?_
      refine ev_callVI (q := 53) dX2_handsOut_50 rfl ml_X2_38 mt_X3_isFit cf_3 rfl hp0 hc_3 (con_X3_isFit G _ _ hp0 _) rfl (by omega) (Nat.le_of_ble_eq_true rfl) rfl (Nat.le_of_ble_eq_true rfl) (fun r10 m11 => ?_)
      refine ev_if_eq (t := 112) (q := 56) dX2_handsOut_53 rfl rfl (fun hc12 => ?_) (fun hc12 => ?_)
      · exact X2_handsOut_b112_ok G p0 p2 p3 hp0 hp2 hp3 frec d hd0 hrec (X2_handsOut_b38 p0 p2 p3 frec n) ih _ _ _ _
      · refine ev_aload_n (q := 57) dX2_handsOut_56 rfl 0 rfl rfl ?_
        refine ev_iload (q := 59) dX2_handsOut_57 5 rfl rfl ?_
        refine ev_aload_n (q := 60) dX2_handsOut_59 rfl 2 rfl rfl ?_
        refine ev_iload (q := 62) dX2_handsOut_60 5 rfl rfl ?_
        refine ev_iald (q := 63) dX2_handsOut_62 rfl hp2 (fun z13 => ?_)
        refine ev_iload (q := 65) dX2_handsOut_63 4 rfl rfl ?_
        refine ev_iadd (q := 66) dX2_handsOut_65 rfl ?_
        refine ev_callVI (q := 69) dX2_handsOut_66 rfl ml_X2_42 mt_X3_survives cf_3 rfl hp0 hc_3 (con_X3_survives G _ _ _ hp0 _) rfl (by omega) (Nat.le_of_ble_eq_true rfl) rfl (Nat.le_of_ble_eq_true rfl) (fun r14 m15 => ?_)
        refine ev_if_ne (t := 75) (q := 72) dX2_handsOut_69 rfl rfl (fun hc16 => ?_) (fun hc16 => ?_)
        · refine ev_goto (t := 112) dX2_handsOut_72 rfl ?_
          exact X2_handsOut_b112_ok G p0 p2 p3 hp0 hp2 hp3 frec d hd0 hrec (X2_handsOut_b38 p0 p2 p3 frec n) ih _ _ _ _
        · refine ev_aload_n (q := 76) dX2_handsOut_75 rfl 2 rfl rfl ?_
          refine ev_iload (q := 78) dX2_handsOut_76 5 rfl rfl ?_
          refine ev_dup2_11 (q := 79) dX2_handsOut_78 rfl rfl rfl ?_
          refine ev_iald (q := 80) dX2_handsOut_79 rfl hp2 (fun z17 => ?_)
          refine ev_iload (q := 82) dX2_handsOut_80 4 rfl rfl ?_
          refine ev_iadd (q := 83) dX2_handsOut_82 rfl ?_
          refine ev_iast (q := 84) dX2_handsOut_83 rfl hp2 (fun m18 => ?_)
          refine ev_aload_n (q := 85) dX2_handsOut_84 rfl 3 rfl rfl ?_
          refine ev_iload_n (q := 86) dX2_handsOut_85 rfl 1 rfl rfl ?_
          refine ev_iload (q := 88) dX2_handsOut_86 5 rfl rfl ?_
          refine ev_iast (q := 89) dX2_handsOut_88 rfl hp3 (fun m19 => ?_)
          refine ev_aload_n (q := 90) dX2_handsOut_89 rfl 0 rfl rfl ?_
          refine ev_iload_n (q := 91) dX2_handsOut_90 rfl 1 rfl rfl ?_
          refine ev_iconst (q := 92) (v := 1) dX2_handsOut_91 rfl li_1 ?_
          refine ev_iadd (q := 93) dX2_handsOut_92 rfl ?_
          refine ev_aload_n (q := 94) dX2_handsOut_93 rfl 2 rfl rfl ?_
          refine ev_aload_n (q := 95) dX2_handsOut_94 rfl 3 rfl rfl ?_
          refine ev_callSI (q := 98) dX2_handsOut_95 rfl ml_X2_64 mt_X2_handsOut (hrec _ _ _ _ hp0 hp2 hp3 _) rfl (by omega) (Nat.le_of_ble_eq_true rfl) rfl (Nat.le_of_ble_eq_true rfl) (fun r20 m21 => ?_)
          refine ev_if_eq (t := 103) (q := 101) dX2_handsOut_98 rfl rfl (fun hc22 => ?_) (fun hc22 => ?_)
          · refine ev_aload_n (q := 104) dX2_handsOut_103 rfl 2 rfl rfl ?_
            refine ev_iload (q := 106) dX2_handsOut_104 5 rfl rfl ?_
            refine ev_dup2_11 (q := 107) dX2_handsOut_106 rfl rfl rfl ?_
            refine ev_iald (q := 108) dX2_handsOut_107 rfl hp2 (fun z23 => ?_)
            refine ev_iload (q := 110) dX2_handsOut_108 4 rfl rfl ?_
            refine ev_isub (q := 111) dX2_handsOut_110 rfl ?_
            refine ev_iast (q := 112) dX2_handsOut_111 rfl hp2 (fun m24 => ?_)
            exact X2_handsOut_b112_ok G p0 p2 p3 hp0 hp2 hp3 frec d hd0 hrec (X2_handsOut_b38 p0 p2 p3 frec n) ih _ _ _ _
          · refine ev_iconst (q := 102) (v := 1) dX2_handsOut_101 rfl li_1 ?_
            exact ev_zret dX2_handsOut_102 rfl
    · refine ev_iconst (q := 119) (v := 0) dX2_handsOut_118 rfl li_0 ?_
      exact ev_zret dX2_handsOut_119 rfl
set_option maxRecDepth 100000 in
set_option maxHeartbeats 4000000 in
theorem con_X2_handsOut_e (G : Gt) (p0 : Nat) (p2 : Nat) (p3 : Nat) (hp0 : kd p0 = 3) (hp2 : kd p2 = 100) (hp3 : kd p3 = 100) (frec : Nat → Int32 → Nat → Nat → Mem → Option (Int32 × Mem)) (d : Nat) (hd0 : 4 ≤ d) (hrec : ∀ (p0 : Nat) (a1 : Int32) (p2 : Nat) (p3 : Nat) (_ : kd p0 = 3) (_ : kd p2 = 100) (_ : kd p3 = 100) (mem : Mem), Con tvI G yX2_handsOut cX2_handsOut 6 (some .boolean) (d - 1) [.ref (gA G p0), .int a1, .ref (gA G p2), .ref (gA G p3)] mem (frec p0 a1 p2 p3 mem)) (a1 : Int32) (mem : Mem) : EvR tvI G cX2_handsOut 6 (some .boolean) RX2 d 0 [(0, .ref (gA G p0)), (1, .int (a1)), (2, .ref (gA G p2)), (3, .ref (gA G p3))] [] mem (X2_handsOut_e p0 p2 p3 frec a1 mem) := by
  unfold X2_handsOut_e
  refine ev_iload_n (q := 1) dX2_handsOut_0 rfl 1 rfl rfl ?_
  refine ev_aload_n (q := 2) dX2_handsOut_1 rfl 0 rfl rfl ?_
  refine ev_getI (q := 5) (ci := 3) (j := 3) (T := TX3) dX2_handsOut_2 rfl cf_3 hp0 hj_3_3 hc_3 gf_X2_68 rfl ?_
  refine ev_icmp_lt (t := 10) (q := 8) dX2_handsOut_5 rfl rfl (fun hc1 => ?_) (fun hc1 => ?_)
  · refine ev_aload_n (q := 11) dX2_handsOut_10 rfl 0 rfl rfl ?_
    refine ev_iload_n (q := 12) dX2_handsOut_11 rfl 1 rfl rfl ?_
    refine ev_callVI (q := 15) dX2_handsOut_12 rfl ml_X2_71 mt_X3_readersOf cf_3 rfl hp0 hc_3 (con_X3_readersOf G _ _ hp0 _) rfl (by omega) (Nat.le_of_ble_eq_true rfl) rfl (Nat.le_of_ble_eq_true rfl) (fun r2 m3 => ?_)
    refine ev_if_eq (t := 28) (q := 18) dX2_handsOut_15 rfl rfl (fun hc4 => ?_) (fun hc4 => ?_)
    · refine ev_aload_n (q := 29) dX2_handsOut_28 rfl 0 rfl rfl ?_
      refine ev_iload_n (q := 30) dX2_handsOut_29 rfl 1 rfl rfl ?_
      refine ev_callVI (q := 33) dX2_handsOut_30 rfl ml_X2_74 mt_X3_firstCost cf_3 rfl hp0 hc_3 (con_X3_firstCost G _ _ hp0 _) rfl (by omega) (Nat.le_of_ble_eq_true rfl) rfl (Nat.le_of_ble_eq_true rfl) (fun r5 m6 => ?_)
      refine ev_istore (q := 35) (lv2 := [(4, .int _), (0, .ref _), (1, .int _), (2, .ref _), (3, .ref _)]) dX2_handsOut_33 rfl (Nat.le_of_ble_eq_true rfl) rfl ?_
      refine ev_iconst (q := 36) (v := 0) dX2_handsOut_35 rfl li_0 ?_
      refine ev_istore (q := 38) (lv2 := [(5, .int _), (4, .int _), (0, .ref _), (1, .int _), (2, .ref _), (3, .ref _)]) dX2_handsOut_36 rfl (Nat.le_of_ble_eq_true rfl) rfl ?_
      refine ev_sub (lv' := [(0, .ref _), (1, .int _), (2, .ref _), (3, .ref _), (4, .int _), (5, .int _)]) [2, 3, 4, 5, 1, 0] rfl ?_
      exact X2_handsOut_b38_ok G p0 p2 p3 hp0 hp2 hp3 frec d hd0 hrec  fu _ _ _ _
    · refine ev_aload_n (q := 19) dX2_handsOut_18 rfl 0 rfl rfl ?_
      refine ev_iload_n (q := 20) dX2_handsOut_19 rfl 1 rfl rfl ?_
      refine ev_iconst (q := 21) (v := 1) dX2_handsOut_20 rfl li_1 ?_
      refine ev_iadd (q := 22) dX2_handsOut_21 rfl ?_
      refine ev_aload_n (q := 23) dX2_handsOut_22 rfl 2 rfl rfl ?_
      refine ev_aload_n (q := 24) dX2_handsOut_23 rfl 3 rfl rfl ?_
      refine ev_callSI (q := 27) dX2_handsOut_24 rfl ml_X2_64 mt_X2_handsOut (hrec _ _ _ _ hp0 hp2 hp3 _) rfl (by omega) (Nat.le_of_ble_eq_true rfl) rfl (Nat.le_of_ble_eq_true rfl) (fun r7 m8 => ?_)
      exact ev_zret dX2_handsOut_27 rfl
  · refine ev_iconst (q := 9) (v := 1) dX2_handsOut_8 rfl li_1 ?_
    exact ev_zret dX2_handsOut_9 rfl
set_option maxRecDepth 100000 in
set_option maxHeartbeats 4000000 in
theorem con_X2_handsOut (G : Gt) : ∀ (n : Nat) (p0 : Nat) (a1 : Int32) (p2 : Nat) (p3 : Nat) (hp0 : kd p0 = 3) (hp2 : kd p2 = 100) (hp3 : kd p3 = 100) (mem : Mem), Con tvI G yX2_handsOut cX2_handsOut 6 (some .boolean) (4 + n) [.ref (gA G p0), .int a1, .ref (gA G p2), .ref (gA G p3)] mem (X2_handsOut n p0 a1 p2 p3 mem) := by
  intro n
  induction n with
  | zero => intros; intro r m1 h; cases h
  | succ n ih =>
    intro p0 a1 p2 p3 hp0 hp2 hp3 mem
    refine con_of (by decide) (Nat.le_of_ble_eq_true rfl) ?_
    exact con_X2_handsOut_e G p0 p2 p3 hp0 hp2 hp3 (X2_handsOut n) (4 + n + 1) (by omega) ih a1 mem
/-! AgingLetters$Foretold.handsOutAll(LAgingLetters$Office;)Z -/
theorem dX2_handsOutAll_0 : decode cX2_handsOutAll 0 = .ok (.aload_n 0, 1) := by decide +kernel
theorem dX2_handsOutAll_1 : decode cX2_handsOutAll 1 = .ok (.getfield 9, 3) := by decide +kernel
theorem dX2_handsOutAll_4 : decode cX2_handsOutAll 4 = .ok (.iconst 0, 1) := by decide +kernel
theorem dX2_handsOutAll_5 : decode cX2_handsOutAll 5 = .ok (.invokestatic 58, 3) := by decide +kernel
theorem dX2_handsOutAll_8 : decode cX2_handsOutAll 8 = .ok (.aload_n 0, 1) := by decide +kernel
theorem dX2_handsOutAll_9 : decode cX2_handsOutAll 9 = .ok (.getfield 15, 3) := by decide +kernel
theorem dX2_handsOutAll_12 : decode cX2_handsOutAll 12 = .ok (.ldc 21, 2) := by decide +kernel
theorem dX2_handsOutAll_14 : decode cX2_handsOutAll 14 = .ok (.invokestatic 58, 3) := by decide +kernel
theorem dX2_handsOutAll_17 : decode cX2_handsOutAll 17 = .ok (.aload_n 1, 1) := by decide +kernel
theorem dX2_handsOutAll_18 : decode cX2_handsOutAll 18 = .ok (.iconst 0, 1) := by decide +kernel
theorem dX2_handsOutAll_19 : decode cX2_handsOutAll 19 = .ok (.aload_n 0, 1) := by decide +kernel
theorem dX2_handsOutAll_20 : decode cX2_handsOutAll 20 = .ok (.getfield 9, 3) := by decide +kernel
theorem dX2_handsOutAll_23 : decode cX2_handsOutAll 23 = .ok (.aload_n 0, 1) := by decide +kernel
theorem dX2_handsOutAll_24 : decode cX2_handsOutAll 24 = .ok (.getfield 15, 3) := by decide +kernel
theorem dX2_handsOutAll_27 : decode cX2_handsOutAll 27 = .ok (.invokestatic 64, 3) := by decide +kernel
theorem dX2_handsOutAll_30 : decode cX2_handsOutAll 30 = .ok (.ireturn, 1) := by decide +kernel
set_option maxRecDepth 100000 in
set_option maxHeartbeats 4000000 in
theorem con_X2_handsOutAll (G : Gt) (o : Nat) (p1 : Nat) (ho : kd o = 2) (hp1 : kd p1 = 3) (mem : Mem) : Con tvI G yX2_handsOutAll cX2_handsOutAll 2 (some .boolean) 17 [.ref (gA G o), .ref (gA G p1)] mem (X2_handsOutAll o p1 mem) := by
  refine con_of (by decide) (Nat.le_of_ble_eq_true rfl) ?_
  show EvR tvI G cX2_handsOutAll 2 (some .boolean) RX2 17 0 [(0, .ref (gA G o)), (1, .ref (gA G p1))] [] mem _
  unfold X2_handsOutAll
  refine ev_aload_n (q := 1) dX2_handsOutAll_0 rfl 0 rfl rfl ?_
  refine ev_getR (q := 4) (ci := 2) (j := 0) (T := TX2) dX2_handsOutAll_1 rfl cf_2 ho hj_2_0 hc_2 gf_X2_9 rfl ?_
  refine ev_iconst (q := 5) (v := 0) dX2_handsOutAll_4 rfl li_0 ?_
  refine ev_callSU (q := 8) dX2_handsOutAll_5 rfl ml_X2_58 mt_J7_fill_53178 (con_J7_fill_53178 G _ _ (kr_2_0 ho) _) rfl (Nat.le_of_ble_eq_true rfl) (Nat.le_of_ble_eq_true rfl) rfl (Nat.le_of_ble_eq_true rfl) (fun r1 m2 => ?_)
  refine ev_aload_n (q := 9) dX2_handsOutAll_8 rfl 0 rfl rfl ?_
  refine ev_getR (q := 12) (ci := 2) (j := 1) (T := TX2) dX2_handsOutAll_9 rfl cf_2 ho hj_2_1 hc_2 gf_X2_15 rfl ?_
  refine ev_ldc (q := 14) (v := (-1000000)) dX2_handsOutAll_12 rfl kc_X2_21 ?_
  refine ev_callSU (q := 17) dX2_handsOutAll_14 rfl ml_X2_58 mt_J7_fill_53178 (con_J7_fill_53178 G _ _ (kr_2_1 ho) _) rfl (Nat.le_of_ble_eq_true rfl) (Nat.le_of_ble_eq_true rfl) rfl (Nat.le_of_ble_eq_true rfl) (fun r3 m4 => ?_)
  refine ev_aload_n (q := 18) dX2_handsOutAll_17 rfl 1 rfl rfl ?_
  refine ev_iconst (q := 19) (v := 0) dX2_handsOutAll_18 rfl li_0 ?_
  refine ev_aload_n (q := 20) dX2_handsOutAll_19 rfl 0 rfl rfl ?_
  refine ev_getR (q := 23) (ci := 2) (j := 0) (T := TX2) dX2_handsOutAll_20 rfl cf_2 ho hj_2_0 hc_2 gf_X2_9 rfl ?_
  refine ev_aload_n (q := 24) dX2_handsOutAll_23 rfl 0 rfl rfl ?_
  refine ev_getR (q := 27) (ci := 2) (j := 1) (T := TX2) dX2_handsOutAll_24 rfl cf_2 ho hj_2_1 hc_2 gf_X2_15 rfl ?_
  refine ev_callSI (q := 30) dX2_handsOutAll_27 rfl ml_X2_64 mt_X2_handsOut (con_X2_handsOut G 12 _ _ _ _ hp1 (kr_2_0 ho) (kr_2_1 ho) _) rfl (Nat.le_of_ble_eq_true rfl) (Nat.le_of_ble_eq_true rfl) rfl (Nat.le_of_ble_eq_true rfl) (fun r5 m6 => ?_)
  exact ev_zret dX2_handsOutAll_30 rfl
/-! AgingLetters$Foretold.shortestDeadly(LAgingLetters$Office;I)I -/
theorem dX2_shortestDeadly_0 : decode cX2_shortestDeadly 0 = .ok (.ldc 21, 2) := by decide +kernel
theorem dX2_shortestDeadly_2 : decode cX2_shortestDeadly 2 = .ok (.istore_n 3, 1) := by decide +kernel
theorem dX2_shortestDeadly_3 : decode cX2_shortestDeadly 3 = .ok (.iconst 0, 1) := by decide +kernel
theorem dX2_shortestDeadly_4 : decode cX2_shortestDeadly 4 = .ok (.istore 4, 2) := by decide +kernel
theorem dX2_shortestDeadly_6 : decode cX2_shortestDeadly 6 = .ok (.iconst 0, 1) := by decide +kernel
theorem dX2_shortestDeadly_7 : decode cX2_shortestDeadly 7 = .ok (.istore 5, 2) := by decide +kernel
theorem dX2_shortestDeadly_9 : decode cX2_shortestDeadly 9 = .ok (.iload 5, 2) := by decide +kernel
theorem dX2_shortestDeadly_11 : decode cX2_shortestDeadly 11 = .ok (.aload_n 1, 1) := by decide +kernel
theorem dX2_shortestDeadly_12 : decode cX2_shortestDeadly 12 = .ok (.getfield 68, 3) := by decide +kernel
theorem dX2_shortestDeadly_15 : decode cX2_shortestDeadly 15 = .ok (.if_icmp .ge 57, 3) := by decide +kernel
theorem dX2_shortestDeadly_18 : decode cX2_shortestDeadly 18 = .ok (.aload_n 1, 1) := by decide +kernel
theorem dX2_shortestDeadly_19 : decode cX2_shortestDeadly 19 = .ok (.iload_n 2, 1) := by decide +kernel
theorem dX2_shortestDeadly_20 : decode cX2_shortestDeadly 20 = .ok (.aload_n 1, 1) := by decide +kernel
theorem dX2_shortestDeadly_21 : decode cX2_shortestDeadly 21 = .ok (.iload_n 2, 1) := by decide +kernel
theorem dX2_shortestDeadly_22 : decode cX2_shortestDeadly 22 = .ok (.iload 5, 2) := by decide +kernel
theorem dX2_shortestDeadly_24 : decode cX2_shortestDeadly 24 = .ok (.invokevirtual 34, 3) := by decide +kernel
theorem dX2_shortestDeadly_27 : decode cX2_shortestDeadly 27 = .ok (.invokevirtual 42, 3) := by decide +kernel
theorem dX2_shortestDeadly_30 : decode cX2_shortestDeadly 30 = .ok (.ifCond .eq 6, 3) := by decide +kernel
theorem dX2_shortestDeadly_33 : decode cX2_shortestDeadly 33 = .ok (.goto 33, 3) := by decide +kernel
theorem dX2_shortestDeadly_36 : decode cX2_shortestDeadly 36 = .ok (.iload_n 3, 1) := by decide +kernel
theorem dX2_shortestDeadly_37 : decode cX2_shortestDeadly 37 = .ok (.ldc 21, 2) := by decide +kernel
theorem dX2_shortestDeadly_39 : decode cX2_shortestDeadly 39 = .ok (.if_icmp .eq 15, 3) := by decide +kernel
theorem dX2_shortestDeadly_42 : decode cX2_shortestDeadly 42 = .ok (.aload_n 1, 1) := by decide +kernel
theorem dX2_shortestDeadly_43 : decode cX2_shortestDeadly 43 = .ok (.getfield 77, 3) := by decide +kernel
theorem dX2_shortestDeadly_46 : decode cX2_shortestDeadly 46 = .ok (.iload 5, 2) := by decide +kernel
theorem dX2_shortestDeadly_48 : decode cX2_shortestDeadly 48 = .ok (.iaload, 1) := by decide +kernel
theorem dX2_shortestDeadly_49 : decode cX2_shortestDeadly 49 = .ok (.iload 4, 2) := by decide +kernel
theorem dX2_shortestDeadly_51 : decode cX2_shortestDeadly 51 = .ok (.if_icmp .ge 15, 3) := by decide +kernel
theorem dX2_shortestDeadly_54 : decode cX2_shortestDeadly 54 = .ok (.iload 5, 2) := by decide +kernel
theorem dX2_shortestDeadly_56 : decode cX2_shortestDeadly 56 = .ok (.istore_n 3, 1) := by decide +kernel
theorem dX2_shortestDeadly_57 : decode cX2_shortestDeadly 57 = .ok (.aload_n 1, 1) := by decide +kernel
theorem dX2_shortestDeadly_58 : decode cX2_shortestDeadly 58 = .ok (.getfield 77, 3) := by decide +kernel
theorem dX2_shortestDeadly_61 : decode cX2_shortestDeadly 61 = .ok (.iload 5, 2) := by decide +kernel
theorem dX2_shortestDeadly_63 : decode cX2_shortestDeadly 63 = .ok (.iaload, 1) := by decide +kernel
theorem dX2_shortestDeadly_64 : decode cX2_shortestDeadly 64 = .ok (.istore 4, 2) := by decide +kernel
theorem dX2_shortestDeadly_66 : decode cX2_shortestDeadly 66 = .ok (.iinc 5 1, 3) := by decide +kernel
theorem dX2_shortestDeadly_69 : decode cX2_shortestDeadly 69 = .ok (.goto (-60), 3) := by decide +kernel
theorem dX2_shortestDeadly_72 : decode cX2_shortestDeadly 72 = .ok (.iload_n 3, 1) := by decide +kernel
theorem dX2_shortestDeadly_73 : decode cX2_shortestDeadly 73 = .ok (.ireturn, 1) := by decide +kernel
set_option maxRecDepth 100000 in
set_option maxHeartbeats 4000000 in
theorem X2_shortestDeadly_b66_ok (G : Gt) (o : Nat) (p1 : Nat) (ho : kd o = 2) (hp1 : kd p1 = 3)   (k9 : Int32 → Int32 → Int32 → Int32 → Mem → Option (Int32 × Mem)) (hk9 : ∀ (x2 : Int32) (x3 : Int32) (x4 : Int32) (x5 : Int32) (mem : Mem), EvR tvI G cX2_shortestDeadly 6 (some .int) RX2 5 9 [(1, .ref (gA G p1)), (2, .int (x2)), (3, .int (x3)), (4, .int (x4)), (5, .int (x5))] [] mem (k9 x2 x3 x4 x5 mem)) (x2 : Int32) (x3 : Int32) (x4 : Int32) (x5 : Int32) (mem : Mem) : EvR tvI G cX2_shortestDeadly 6 (some .int) RX2 5 66 [(1, .ref (gA G p1)), (2, .int (x2)), (3, .int (x3)), (4, .int (x4)), (5, .int (x5))] [] mem (X2_shortestDeadly_b66 o p1 k9 x2 x3 x4 x5 mem) := by
  unfold X2_shortestDeadly_b66
  refine ev_iinc (q := 69) (lv2 := [(5, .int _), (1, .ref _), (2, .int _), (3, .int _), (4, .int _)]) (v := x5 + 1) dX2_shortestDeadly_66 4 rfl rfl (congrArg (HAdd.hAdd _) li_1) (Nat.le_of_ble_eq_true rfl) rfl ?_
  refine ev_goto (t := 9) dX2_shortestDeadly_69 rfl ?_
  refine ev_sub (lv' := [(1, .ref _), (2, .int _), (3, .int _), (4, .int _), (5, .int _)]) [1, 2, 3, 4, 0] rfl ?_
  exact hk9 _ _ _ _ _
set_option maxRecDepth 100000 in
set_option maxHeartbeats 4000000 in
theorem X2_shortestDeadly_b54_ok (G : Gt) (o : Nat) (p1 : Nat) (ho : kd o = 2) (hp1 : kd p1 = 3)   (k9 : Int32 → Int32 → Int32 → Int32 → Mem → Option (Int32 × Mem)) (hk9 : ∀ (x2 : Int32) (x3 : Int32) (x4 : Int32) (x5 : Int32) (mem : Mem), EvR tvI G cX2_shortestDeadly 6 (some .int) RX2 5 9 [(1, .ref (gA G p1)), (2, .int (x2)), (3, .int (x3)), (4, .int (x4)), (5, .int (x5))] [] mem (k9 x2 x3 x4 x5 mem)) (x2 : Int32) (x5 : Int32) (mem : Mem) : EvR tvI G cX2_shortestDeadly 6 (some .int) RX2 5 54 [(1, .ref (gA G p1)), (2, .int (x2)), (5, .int (x5))] [] mem (X2_shortestDeadly_b54 o p1 k9 x2 x5 mem) := by
  unfold X2_shortestDeadly_b54
  refine ev_iload (q := 56) dX2_shortestDeadly_54 2 rfl rfl ?_
  refine ev_istore_n (q := 57) (lv2 := [(3, .int _), (1, .ref _), (2, .int _), (5, .int _)]) dX2_shortestDeadly_56 rfl rfl (Nat.le_of_ble_eq_true rfl) rfl ?_
  refine ev_aload_n (q := 58) dX2_shortestDeadly_57 rfl 1 rfl rfl ?_
  refine ev_getR (q := 61) (ci := 3) (j := 5) (T := TX3) dX2_shortestDeadly_58 rfl cf_3 hp1 hj_3_5 hc_3 gf_X2_77 rfl ?_
  refine ev_iload (q := 63) dX2_shortestDeadly_61 3 rfl rfl ?_
  refine ev_iald (q := 64) dX2_shortestDeadly_63 rfl (kr_3_5 hp1) (fun z10 => ?_)
  refine ev_istore (q := 66) (lv2 := [(4, .int _), (3, .int _), (1, .ref _), (2, .int _), (5, .int _)]) dX2_shortestDeadly_64 rfl (Nat.le_of_ble_eq_true rfl) rfl ?_
  refine ev_sub (lv' := [(1, .ref _), (2, .int _), (3, .int _), (4, .int _), (5, .int _)]) [2, 3, 1, 0, 4] rfl ?_
  exact X2_shortestDeadly_b66_ok G o p1 ho hp1  k9 hk9 _ _ _ _ _
set_option maxRecDepth 100000 in
set_option maxHeartbeats 4000000 in
theorem X2_shortestDeadly_b9_ok (G : Gt) (o : Nat) (p1 : Nat) (ho : kd o = 2) (hp1 : kd p1 = 3)    : ∀ (n : Nat) (x2 : Int32) (x3 : Int32) (x4 : Int32) (x5 : Int32) (mem : Mem), EvR tvI G cX2_shortestDeadly 6 (some .int) RX2 5 9 [(1, .ref (gA G p1)), (2, .int (x2)), (3, .int (x3)), (4, .int (x4)), (5, .int (x5))] [] mem (X2_shortestDeadly_b9 o p1 n x2 x3 x4 x5 mem) := by
  intro n
  induction n with
  | zero => intros; exact ev_none
  | succ n ih =>
    intro x2 x3 x4 x5 mem
    rw [X2_shortestDeadly_b9]
    refine ev_iload (q := 11) dX2_shortestDeadly_9 4 rfl rfl ?_
    refine ev_aload_n (q := 12) dX2_shortestDeadly_11 rfl 0 rfl rfl ?_
    refine ev_getI (q := 15) (ci := 3) (j := 3) (T := TX3) dX2_shortestDeadly_12 rfl cf_3 hp1 hj_3_3 hc_3 gf_X2_68 rfl ?_
    refine ev_icmp_ge (t := 72) (q := 18) dX2_shortestDeadly_15 rfl rfl (fun hc1 => ?_) (fun hc1 => ?_)
    · refine ev_aload_n (q := 19) dX2_shortestDeadly_18 rfl 0 rfl rfl ?_
      refine ev_iload_n (q := 20) dX2_shortestDeadly_19 rfl 1 rfl rfl ?_
      refine ev_aload_n (q := 21) dX2_shortestDeadly_20 rfl 0 rfl rfl ?_
      refine ev_iload_n (q := 22) dX2_shortestDeadly_21 rfl 1 rfl rfl ?_
      refine ev_iload (q := 24) dX2_shortestDeadly_22 4 rfl rfl ?_
      refine ev_callVI (q := 27) dX2_shortestDeadly_24 rfl ml_X2_34 mt_X3_costFor cf_3 rfl hp1 hc_3 (con_X3_costFor G _ _ _ hp1 _) rfl (Nat.le_of_ble_eq_true rfl) (Nat.le_of_ble_eq_true rfl) rfl (Nat.le_of_ble_eq_true rfl) (fun r2 m3 => ?_)
      refine ev_callVI (q := 30) dX2_shortestDeadly_27 rfl ml_X2_42 mt_X3_survives cf_3 rfl hp1 hc_3 (con_X3_survives G _ _ _ hp1 _) rfl (Nat.le_of_ble_eq_true rfl) (Nat.le_of_ble_eq_true rfl) rfl (Nat.le_of_ble_eq_true rfl) (fun r4 m5 => ?_)
      refine ev_if_eq (t := 36) (q := 33) dX2_shortestDeadly_30 rfl rfl (fun hc6 => ?_) (fun hc6 => ?_)
      · refine ev_iload_n (q := 37) dX2_shortestDeadly_36 rfl 2 rfl rfl ?_
        refine ev_ldc (q := 39) (v := (-1000000)) dX2_shortestDeadly_37 rfl kc_X2_21 ?_
        refine ev_icmp_eq (t := 54) (q := 42) dX2_shortestDeadly_39 rfl rfl (fun hc7 => ?_) (fun hc7 => ?_)
        · refine ev_sub (lv' := [(1, .ref _), (2, .int _), (5, .int _)]) [0, 1, 4] rfl ?_
          exact X2_shortestDeadly_b54_ok G o p1 ho hp1  (X2_shortestDeadly_b9 o p1 n) ih _ _ _
        · refine ev_aload_n (q := 43) dX2_shortestDeadly_42 rfl 0 rfl rfl ?_
          refine ev_getR (q := 46) (ci := 3) (j := 5) (T := TX3) dX2_shortestDeadly_43 rfl cf_3 hp1 hj_3_5 hc_3 gf_X2_77 rfl ?_
          refine ev_iload (q := 48) dX2_shortestDeadly_46 4 rfl rfl ?_
          refine ev_iald (q := 49) dX2_shortestDeadly_48 rfl (kr_3_5 hp1) (fun z8 => ?_)
          refine ev_iload (q := 51) dX2_shortestDeadly_49 3 rfl rfl ?_
          refine ev_icmp_ge (t := 66) (q := 54) dX2_shortestDeadly_51 rfl rfl (fun hc9 => ?_) (fun hc9 => ?_)
          · refine ev_sub (lv' := [(1, .ref _), (2, .int _), (5, .int _)]) [0, 1, 4] rfl ?_
            exact X2_shortestDeadly_b54_ok G o p1 ho hp1  (X2_shortestDeadly_b9 o p1 n) ih _ _ _
          · exact X2_shortestDeadly_b66_ok G o p1 ho hp1  (X2_shortestDeadly_b9 o p1 n) ih _ _ _ _ _
      · refine ev_goto (t := 66) dX2_shortestDeadly_33 rfl ?_
        exact X2_shortestDeadly_b66_ok G o p1 ho hp1  (X2_shortestDeadly_b9 o p1 n) ih _ _ _ _ _
    · refine ev_iload_n (q := 73) dX2_shortestDeadly_72 rfl 2 rfl rfl ?_
      exact ev_iret dX2_shortestDeadly_73 rfl
set_option maxRecDepth 100000 in
set_option maxHeartbeats 4000000 in
theorem con_X2_shortestDeadly (G : Gt) (o : Nat) (p1 : Nat) (a2 : Int32) (ho : kd o = 2) (hp1 : kd p1 = 3) (mem : Mem) : Con tvI G yX2_shortestDeadly cX2_shortestDeadly 6 (some .int) 5 [.ref (gA G o), .ref (gA G p1), .int a2] mem (X2_shortestDeadly o p1 a2 mem) := by
  refine con_of (by decide) (Nat.le_of_ble_eq_true rfl) ?_
  show EvR tvI G cX2_shortestDeadly 6 (some .int) RX2 5 0 [(0, .ref (gA G o)), (1, .ref (gA G p1)), (2, .int (a2))] [] mem _
  unfold X2_shortestDeadly
  refine ev_ldc (q := 2) (v := (-1000000)) dX2_shortestDeadly_0 rfl kc_X2_21 ?_
  refine ev_istore_n (q := 3) (lv2 := [(3, .int _), (0, .ref _), (1, .ref _), (2, .int _)]) dX2_shortestDeadly_2 rfl rfl (Nat.le_of_ble_eq_true rfl) rfl ?_
  refine ev_iconst (q := 4) (v := 0) dX2_shortestDeadly_3 rfl li_0 ?_
  refine ev_istore (q := 6) (lv2 := [(4, .int _), (3, .int _), (0, .ref _), (1, .ref _), (2, .int _)]) dX2_shortestDeadly_4 rfl (Nat.le_of_ble_eq_true rfl) rfl ?_
  refine ev_iconst (q := 7) (v := 0) dX2_shortestDeadly_6 rfl li_0 ?_
  refine ev_istore (q := 9) (lv2 := [(5, .int _), (4, .int _), (3, .int _), (0, .ref _), (1, .ref _), (2, .int _)]) dX2_shortestDeadly_7 rfl (Nat.le_of_ble_eq_true rfl) rfl ?_
  refine ev_sub (lv' := [(1, .ref _), (2, .int _), (3, .int _), (4, .int _), (5, .int _)]) [4, 5, 2, 1, 0] rfl ?_
  exact X2_shortestDeadly_b9_ok G o p1 ho hp1   fu _ _ _ _ _
/-! java/lang/Integer.bitCount(I)I -/
theorem dJ6_bitCount_0f7a4_0 : decode cJ6_bitCount_0f7a4 0 = .ok (.iload_n 0, 1) := by decide +kernel
theorem dJ6_bitCount_0f7a4_1 : decode cJ6_bitCount_0f7a4 1 = .ok (.iload_n 0, 1) := by decide +kernel
theorem dJ6_bitCount_0f7a4_2 : decode cJ6_bitCount_0f7a4 2 = .ok (.iconst 1, 1) := by decide +kernel
theorem dJ6_bitCount_0f7a4_3 : decode cJ6_bitCount_0f7a4 3 = .ok (.iushr, 1) := by decide +kernel
theorem dJ6_bitCount_0f7a4_4 : decode cJ6_bitCount_0f7a4 4 = .ok (.ldc_w 265, 3) := by decide +kernel
theorem dJ6_bitCount_0f7a4_7 : decode cJ6_bitCount_0f7a4 7 = .ok (.iand, 1) := by decide +kernel
theorem dJ6_bitCount_0f7a4_8 : decode cJ6_bitCount_0f7a4 8 = .ok (.isub, 1) := by decide +kernel
theorem dJ6_bitCount_0f7a4_9 : decode cJ6_bitCount_0f7a4 9 = .ok (.istore_n 0, 1) := by decide +kernel
theorem dJ6_bitCount_0f7a4_10 : decode cJ6_bitCount_0f7a4 10 = .ok (.iload_n 0, 1) := by decide +kernel
theorem dJ6_bitCount_0f7a4_11 : decode cJ6_bitCount_0f7a4 11 = .ok (.ldc_w 266, 3) := by decide +kernel
theorem dJ6_bitCount_0f7a4_14 : decode cJ6_bitCount_0f7a4 14 = .ok (.iand, 1) := by decide +kernel
theorem dJ6_bitCount_0f7a4_15 : decode cJ6_bitCount_0f7a4 15 = .ok (.iload_n 0, 1) := by decide +kernel
theorem dJ6_bitCount_0f7a4_16 : decode cJ6_bitCount_0f7a4 16 = .ok (.iconst 2, 1) := by decide +kernel
theorem dJ6_bitCount_0f7a4_17 : decode cJ6_bitCount_0f7a4 17 = .ok (.iushr, 1) := by decide +kernel
theorem dJ6_bitCount_0f7a4_18 : decode cJ6_bitCount_0f7a4 18 = .ok (.ldc_w 266, 3) := by decide +kernel
theorem dJ6_bitCount_0f7a4_21 : decode cJ6_bitCount_0f7a4 21 = .ok (.iand, 1) := by decide +kernel
theorem dJ6_bitCount_0f7a4_22 : decode cJ6_bitCount_0f7a4 22 = .ok (.iadd, 1) := by decide +kernel
theorem dJ6_bitCount_0f7a4_23 : decode cJ6_bitCount_0f7a4 23 = .ok (.istore_n 0, 1) := by decide +kernel
theorem dJ6_bitCount_0f7a4_24 : decode cJ6_bitCount_0f7a4 24 = .ok (.iload_n 0, 1) := by decide +kernel
theorem dJ6_bitCount_0f7a4_25 : decode cJ6_bitCount_0f7a4 25 = .ok (.iload_n 0, 1) := by decide +kernel
theorem dJ6_bitCount_0f7a4_26 : decode cJ6_bitCount_0f7a4 26 = .ok (.iconst 4, 1) := by decide +kernel
theorem dJ6_bitCount_0f7a4_27 : decode cJ6_bitCount_0f7a4 27 = .ok (.iushr, 1) := by decide +kernel
theorem dJ6_bitCount_0f7a4_28 : decode cJ6_bitCount_0f7a4 28 = .ok (.iadd, 1) := by decide +kernel
theorem dJ6_bitCount_0f7a4_29 : decode cJ6_bitCount_0f7a4 29 = .ok (.ldc_w 267, 3) := by decide +kernel
theorem dJ6_bitCount_0f7a4_32 : decode cJ6_bitCount_0f7a4 32 = .ok (.iand, 1) := by decide +kernel
theorem dJ6_bitCount_0f7a4_33 : decode cJ6_bitCount_0f7a4 33 = .ok (.istore_n 0, 1) := by decide +kernel
theorem dJ6_bitCount_0f7a4_34 : decode cJ6_bitCount_0f7a4 34 = .ok (.iload_n 0, 1) := by decide +kernel
theorem dJ6_bitCount_0f7a4_35 : decode cJ6_bitCount_0f7a4 35 = .ok (.iload_n 0, 1) := by decide +kernel
theorem dJ6_bitCount_0f7a4_36 : decode cJ6_bitCount_0f7a4 36 = .ok (.bipush 8, 2) := by decide +kernel
theorem dJ6_bitCount_0f7a4_38 : decode cJ6_bitCount_0f7a4 38 = .ok (.iushr, 1) := by decide +kernel
theorem dJ6_bitCount_0f7a4_39 : decode cJ6_bitCount_0f7a4 39 = .ok (.iadd, 1) := by decide +kernel
theorem dJ6_bitCount_0f7a4_40 : decode cJ6_bitCount_0f7a4 40 = .ok (.istore_n 0, 1) := by decide +kernel
theorem dJ6_bitCount_0f7a4_41 : decode cJ6_bitCount_0f7a4 41 = .ok (.iload_n 0, 1) := by decide +kernel
theorem dJ6_bitCount_0f7a4_42 : decode cJ6_bitCount_0f7a4 42 = .ok (.iload_n 0, 1) := by decide +kernel
theorem dJ6_bitCount_0f7a4_43 : decode cJ6_bitCount_0f7a4 43 = .ok (.bipush 16, 2) := by decide +kernel
theorem dJ6_bitCount_0f7a4_45 : decode cJ6_bitCount_0f7a4 45 = .ok (.iushr, 1) := by decide +kernel
theorem dJ6_bitCount_0f7a4_46 : decode cJ6_bitCount_0f7a4 46 = .ok (.iadd, 1) := by decide +kernel
theorem dJ6_bitCount_0f7a4_47 : decode cJ6_bitCount_0f7a4 47 = .ok (.istore_n 0, 1) := by decide +kernel
theorem dJ6_bitCount_0f7a4_48 : decode cJ6_bitCount_0f7a4 48 = .ok (.iload_n 0, 1) := by decide +kernel
theorem dJ6_bitCount_0f7a4_49 : decode cJ6_bitCount_0f7a4 49 = .ok (.bipush 63, 2) := by decide +kernel
theorem dJ6_bitCount_0f7a4_51 : decode cJ6_bitCount_0f7a4 51 = .ok (.iand, 1) := by decide +kernel
theorem dJ6_bitCount_0f7a4_52 : decode cJ6_bitCount_0f7a4 52 = .ok (.ireturn, 1) := by decide +kernel
set_option maxRecDepth 100000 in
set_option maxHeartbeats 4000000 in
theorem con_J6_bitCount_0f7a4 (G : Gt) (a0 : Int32)  (mem : Mem) : Con tvI G yJ6_bitCount_0f7a4 cJ6_bitCount_0f7a4 1 (some .int) 1 [.int a0] mem (J6_bitCount_0f7a4 a0 mem) := by
  refine con_of (by decide) (Nat.le_of_ble_eq_true rfl) ?_
  show EvR tvI G cJ6_bitCount_0f7a4 1 (some .int) RJ6 1 0 [(0, .int (a0))] [] mem _
  unfold J6_bitCount_0f7a4
  refine ev_iload_n (q := 1) dJ6_bitCount_0f7a4_0 rfl 0 rfl rfl ?_
  refine ev_iload_n (q := 2) dJ6_bitCount_0f7a4_1 rfl 0 rfl rfl ?_
  refine ev_iconst (q := 3) (v := 1) dJ6_bitCount_0f7a4_2 rfl li_1 ?_
  refine ev_iushr (q := 4) dJ6_bitCount_0f7a4_3 rfl rfl ?_
  refine ev_ldcw (q := 7) (v := 1431655765) dJ6_bitCount_0f7a4_4 rfl kc_J6_265 ?_
  refine ev_iand (q := 8) dJ6_bitCount_0f7a4_7 rfl ?_
  refine ev_isub (q := 9) dJ6_bitCount_0f7a4_8 rfl ?_
  refine ev_istore_n (q := 10) (lv2 := [(0, .int _)]) dJ6_bitCount_0f7a4_9 rfl rfl (Nat.le_of_ble_eq_true rfl) rfl ?_
  refine ev_iload_n (q := 11) dJ6_bitCount_0f7a4_10 rfl 0 rfl rfl ?_
  refine ev_ldcw (q := 14) (v := 858993459) dJ6_bitCount_0f7a4_11 rfl kc_J6_266 ?_
  refine ev_iand (q := 15) dJ6_bitCount_0f7a4_14 rfl ?_
  refine ev_iload_n (q := 16) dJ6_bitCount_0f7a4_15 rfl 0 rfl rfl ?_
  refine ev_iconst (q := 17) (v := 2) dJ6_bitCount_0f7a4_16 rfl li_2 ?_
  refine ev_iushr (q := 18) dJ6_bitCount_0f7a4_17 rfl rfl ?_
  refine ev_ldcw (q := 21) (v := 858993459) dJ6_bitCount_0f7a4_18 rfl kc_J6_266 ?_
  refine ev_iand (q := 22) dJ6_bitCount_0f7a4_21 rfl ?_
  refine ev_iadd (q := 23) dJ6_bitCount_0f7a4_22 rfl ?_
  refine ev_istore_n (q := 24) (lv2 := [(0, .int _)]) dJ6_bitCount_0f7a4_23 rfl rfl (Nat.le_of_ble_eq_true rfl) rfl ?_
  refine ev_iload_n (q := 25) dJ6_bitCount_0f7a4_24 rfl 0 rfl rfl ?_
  refine ev_iload_n (q := 26) dJ6_bitCount_0f7a4_25 rfl 0 rfl rfl ?_
  refine ev_iconst (q := 27) (v := 4) dJ6_bitCount_0f7a4_26 rfl li_4 ?_
  refine ev_iushr (q := 28) dJ6_bitCount_0f7a4_27 rfl rfl ?_
  refine ev_iadd (q := 29) dJ6_bitCount_0f7a4_28 rfl ?_
  refine ev_ldcw (q := 32) (v := 252645135) dJ6_bitCount_0f7a4_29 rfl kc_J6_267 ?_
  refine ev_iand (q := 33) dJ6_bitCount_0f7a4_32 rfl ?_
  refine ev_istore_n (q := 34) (lv2 := [(0, .int _)]) dJ6_bitCount_0f7a4_33 rfl rfl (Nat.le_of_ble_eq_true rfl) rfl ?_
  refine ev_iload_n (q := 35) dJ6_bitCount_0f7a4_34 rfl 0 rfl rfl ?_
  refine ev_iload_n (q := 36) dJ6_bitCount_0f7a4_35 rfl 0 rfl rfl ?_
  refine ev_bipush (q := 38) (v := 8) dJ6_bitCount_0f7a4_36 rfl lb_8 ?_
  refine ev_iushr (q := 39) dJ6_bitCount_0f7a4_38 rfl rfl ?_
  refine ev_iadd (q := 40) dJ6_bitCount_0f7a4_39 rfl ?_
  refine ev_istore_n (q := 41) (lv2 := [(0, .int _)]) dJ6_bitCount_0f7a4_40 rfl rfl (Nat.le_of_ble_eq_true rfl) rfl ?_
  refine ev_iload_n (q := 42) dJ6_bitCount_0f7a4_41 rfl 0 rfl rfl ?_
  refine ev_iload_n (q := 43) dJ6_bitCount_0f7a4_42 rfl 0 rfl rfl ?_
  refine ev_bipush (q := 45) (v := 16) dJ6_bitCount_0f7a4_43 rfl lb_16 ?_
  refine ev_iushr (q := 46) dJ6_bitCount_0f7a4_45 rfl rfl ?_
  refine ev_iadd (q := 47) dJ6_bitCount_0f7a4_46 rfl ?_
  refine ev_istore_n (q := 48) (lv2 := [(0, .int _)]) dJ6_bitCount_0f7a4_47 rfl rfl (Nat.le_of_ble_eq_true rfl) rfl ?_
  refine ev_iload_n (q := 49) dJ6_bitCount_0f7a4_48 rfl 0 rfl rfl ?_
  refine ev_bipush (q := 51) (v := 63) dJ6_bitCount_0f7a4_49 rfl lb_63 ?_
  refine ev_iand (q := 52) dJ6_bitCount_0f7a4_51 rfl ?_
  exact ev_iret dJ6_bitCount_0f7a4_52 rfl
/-! AgingLetters$Office.costOfAll(II)I -/
theorem dX3_costOfAll_0 : decode cX3_costOfAll 0 = .ok (.iconst 0, 1) := by decide +kernel
theorem dX3_costOfAll_1 : decode cX3_costOfAll 1 = .ok (.istore_n 3, 1) := by decide +kernel
theorem dX3_costOfAll_2 : decode cX3_costOfAll 2 = .ok (.iconst 0, 1) := by decide +kernel
theorem dX3_costOfAll_3 : decode cX3_costOfAll 3 = .ok (.istore 4, 2) := by decide +kernel
theorem dX3_costOfAll_5 : decode cX3_costOfAll 5 = .ok (.iload 4, 2) := by decide +kernel
theorem dX3_costOfAll_7 : decode cX3_costOfAll 7 = .ok (.aload_n 0, 1) := by decide +kernel
theorem dX3_costOfAll_8 : decode cX3_costOfAll 8 = .ok (.getfield 47, 3) := by decide +kernel
theorem dX3_costOfAll_11 : decode cX3_costOfAll 11 = .ok (.if_icmp .ge 28, 3) := by decide +kernel
theorem dX3_costOfAll_14 : decode cX3_costOfAll 14 = .ok (.iload_n 2, 1) := by decide +kernel
theorem dX3_costOfAll_15 : decode cX3_costOfAll 15 = .ok (.iload 4, 2) := by decide +kernel
theorem dX3_costOfAll_17 : decode cX3_costOfAll 17 = .ok (.invokestatic 69, 3) := by decide +kernel
theorem dX3_costOfAll_20 : decode cX3_costOfAll 20 = .ok (.ifCond .eq 13, 3) := by decide +kernel
theorem dX3_costOfAll_23 : decode cX3_costOfAll 23 = .ok (.iload_n 3, 1) := by decide +kernel
theorem dX3_costOfAll_24 : decode cX3_costOfAll 24 = .ok (.aload_n 0, 1) := by decide +kernel
theorem dX3_costOfAll_25 : decode cX3_costOfAll 25 = .ok (.iload_n 1, 1) := by decide +kernel
theorem dX3_costOfAll_26 : decode cX3_costOfAll 26 = .ok (.iload 4, 2) := by decide +kernel
theorem dX3_costOfAll_28 : decode cX3_costOfAll 28 = .ok (.invokevirtual 100, 3) := by decide +kernel
theorem dX3_costOfAll_31 : decode cX3_costOfAll 31 = .ok (.iadd, 1) := by decide +kernel
theorem dX3_costOfAll_32 : decode cX3_costOfAll 32 = .ok (.istore_n 3, 1) := by decide +kernel
theorem dX3_costOfAll_33 : decode cX3_costOfAll 33 = .ok (.iinc 4 1, 3) := by decide +kernel
theorem dX3_costOfAll_36 : decode cX3_costOfAll 36 = .ok (.goto (-31), 3) := by decide +kernel
theorem dX3_costOfAll_39 : decode cX3_costOfAll 39 = .ok (.iload_n 3, 1) := by decide +kernel
theorem dX3_costOfAll_40 : decode cX3_costOfAll 40 = .ok (.ireturn, 1) := by decide +kernel
set_option maxRecDepth 100000 in
set_option maxHeartbeats 4000000 in
theorem X3_costOfAll_b33_ok (G : Gt) (o : Nat) (ho : kd o = 3)   (k5 : Int32 → Int32 → Int32 → Int32 → Mem → Option (Int32 × Mem)) (hk5 : ∀ (x1 : Int32) (x2 : Int32) (x3 : Int32) (x4 : Int32) (mem : Mem), EvR tvI G cX3_costOfAll 5 (some .int) RX3 5 5 [(0, .ref (gA G o)), (1, .int (x1)), (2, .int (x2)), (3, .int (x3)), (4, .int (x4))] [] mem (k5 x1 x2 x3 x4 mem)) (x1 : Int32) (x2 : Int32) (x3 : Int32) (x4 : Int32) (mem : Mem) : EvR tvI G cX3_costOfAll 5 (some .int) RX3 5 33 [(0, .ref (gA G o)), (1, .int (x1)), (2, .int (x2)), (3, .int (x3)), (4, .int (x4))] [] mem (X3_costOfAll_b33 o k5 x1 x2 x3 x4 mem) := by
  unfold X3_costOfAll_b33
  refine ev_iinc (q := 36) (lv2 := [(4, .int _), (0, .ref _), (1, .int _), (2, .int _), (3, .int _)]) (v := x4 + 1) dX3_costOfAll_33 4 rfl rfl (congrArg (HAdd.hAdd _) li_1) (Nat.le_of_ble_eq_true rfl) rfl ?_
  refine ev_goto (t := 5) dX3_costOfAll_36 rfl ?_
  refine ev_sub (lv' := [(0, .ref _), (1, .int _), (2, .int _), (3, .int _), (4, .int _)]) [1, 2, 3, 4, 0] rfl ?_
  exact hk5 _ _ _ _ _
set_option maxRecDepth 100000 in
set_option maxHeartbeats 4000000 in
theorem X3_costOfAll_b5_ok (G : Gt) (o : Nat) (ho : kd o = 3)    : ∀ (n : Nat) (x1 : Int32) (x2 : Int32) (x3 : Int32) (x4 : Int32) (mem : Mem), EvR tvI G cX3_costOfAll 5 (some .int) RX3 5 5 [(0, .ref (gA G o)), (1, .int (x1)), (2, .int (x2)), (3, .int (x3)), (4, .int (x4))] [] mem (X3_costOfAll_b5 o n x1 x2 x3 x4 mem) := by
  intro n
  induction n with
  | zero => intros; exact ev_none
  | succ n ih =>
    intro x1 x2 x3 x4 mem
    rw [X3_costOfAll_b5]
    refine ev_iload (q := 7) dX3_costOfAll_5 4 rfl rfl ?_
    refine ev_aload_n (q := 8) dX3_costOfAll_7 rfl 0 rfl rfl ?_
    refine ev_getI (q := 11) (ci := 3) (j := 3) (T := TX3) dX3_costOfAll_8 rfl cf_3 ho hj_3_3 hc_3 gf_X3_47 rfl ?_
    refine ev_icmp_ge (t := 39) (q := 14) dX3_costOfAll_11 rfl rfl (fun hc1 => ?_) (fun hc1 => ?_)
    · refine ev_iload_n (q := 15) dX3_costOfAll_14 rfl 2 rfl rfl ?_
      refine ev_iload (q := 17) dX3_costOfAll_15 4 rfl rfl ?_
      refine ev_callSNI (q := 20) dX3_costOfAll_17 rfl ml_X3_69 mt_X6_inSet (con_X6_inSet G _ _  _) rfl (Nat.le_of_ble_eq_true rfl) (Nat.le_of_ble_eq_true rfl) rfl (Nat.le_of_ble_eq_true rfl) (fun r2 m3 => ?_)
      refine ev_if_eq (t := 33) (q := 23) dX3_costOfAll_20 rfl rfl (fun hc4 => ?_) (fun hc4 => ?_)
      · exact X3_costOfAll_b33_ok G o ho  (X3_costOfAll_b5 o n) ih _ _ _ _ _
      · refine ev_iload_n (q := 24) dX3_costOfAll_23 rfl 3 rfl rfl ?_
        refine ev_aload_n (q := 25) dX3_costOfAll_24 rfl 0 rfl rfl ?_
        refine ev_iload_n (q := 26) dX3_costOfAll_25 rfl 1 rfl rfl ?_
        refine ev_iload (q := 28) dX3_costOfAll_26 4 rfl rfl ?_
        refine ev_callVI (q := 31) dX3_costOfAll_28 rfl ml_X3_100 mt_X3_costFor cf_3 rfl ho hc_3 (con_X3_costFor G _ _ _ ho _) rfl (Nat.le_of_ble_eq_true rfl) (Nat.le_of_ble_eq_true rfl) rfl (Nat.le_of_ble_eq_true rfl) (fun r5 m6 => ?_)
        refine ev_iadd (q := 32) dX3_costOfAll_31 rfl ?_
        refine ev_istore_n (q := 33) (lv2 := [(3, .int _), (0, .ref _), (1, .int _), (2, .int _), (4, .int _)]) dX3_costOfAll_32 rfl rfl (Nat.le_of_ble_eq_true rfl) rfl ?_
        refine ev_sub (lv' := [(0, .ref _), (1, .int _), (2, .int _), (3, .int _), (4, .int _)]) [1, 2, 3, 0, 4] rfl ?_
        exact X3_costOfAll_b33_ok G o ho  (X3_costOfAll_b5 o n) ih _ _ _ _ _
    · refine ev_iload_n (q := 40) dX3_costOfAll_39 rfl 3 rfl rfl ?_
      exact ev_iret dX3_costOfAll_40 rfl
set_option maxRecDepth 100000 in
set_option maxHeartbeats 4000000 in
theorem con_X3_costOfAll (G : Gt) (o : Nat) (a1 : Int32) (a2 : Int32) (ho : kd o = 3) (mem : Mem) : Con tvI G yX3_costOfAll cX3_costOfAll 5 (some .int) 5 [.ref (gA G o), .int a1, .int a2] mem (X3_costOfAll o a1 a2 mem) := by
  refine con_of (by decide) (Nat.le_of_ble_eq_true rfl) ?_
  show EvR tvI G cX3_costOfAll 5 (some .int) RX3 5 0 [(0, .ref (gA G o)), (1, .int (a1)), (2, .int (a2))] [] mem _
  unfold X3_costOfAll
  refine ev_iconst (q := 1) (v := 0) dX3_costOfAll_0 rfl li_0 ?_
  refine ev_istore_n (q := 2) (lv2 := [(3, .int _), (0, .ref _), (1, .int _), (2, .int _)]) dX3_costOfAll_1 rfl rfl (Nat.le_of_ble_eq_true rfl) rfl ?_
  refine ev_iconst (q := 3) (v := 0) dX3_costOfAll_2 rfl li_0 ?_
  refine ev_istore (q := 5) (lv2 := [(4, .int _), (3, .int _), (0, .ref _), (1, .int _), (2, .int _)]) dX3_costOfAll_3 rfl (Nat.le_of_ble_eq_true rfl) rfl ?_
  refine ev_sub (lv' := [(0, .ref _), (1, .int _), (2, .int _), (3, .int _), (4, .int _)]) [2, 3, 4, 1, 0] rfl ?_
  exact X3_costOfAll_b5_ok G o ho   fu _ _ _ _ _
/-! AgingLetters$Foretold.smallestDeadlySet(LAgingLetters$Office;I)I -/
theorem dX2_smallestDeadlySet_0 : decode cX2_smallestDeadlySet 0 = .ok (.ldc 21, 2) := by decide +kernel
theorem dX2_smallestDeadlySet_2 : decode cX2_smallestDeadlySet 2 = .ok (.istore_n 3, 1) := by decide +kernel
theorem dX2_smallestDeadlySet_3 : decode cX2_smallestDeadlySet 3 = .ok (.bipush 7, 2) := by decide +kernel
theorem dX2_smallestDeadlySet_5 : decode cX2_smallestDeadlySet 5 = .ok (.istore 4, 2) := by decide +kernel
theorem dX2_smallestDeadlySet_7 : decode cX2_smallestDeadlySet 7 = .ok (.iconst 0, 1) := by decide +kernel
theorem dX2_smallestDeadlySet_8 : decode cX2_smallestDeadlySet 8 = .ok (.istore 5, 2) := by decide +kernel
theorem dX2_smallestDeadlySet_10 : decode cX2_smallestDeadlySet 10 = .ok (.iload 5, 2) := by decide +kernel
theorem dX2_smallestDeadlySet_12 : decode cX2_smallestDeadlySet 12 = .ok (.iconst 1, 1) := by decide +kernel
theorem dX2_smallestDeadlySet_13 : decode cX2_smallestDeadlySet 13 = .ok (.aload_n 1, 1) := by decide +kernel
theorem dX2_smallestDeadlySet_14 : decode cX2_smallestDeadlySet 14 = .ok (.getfield 68, 3) := by decide +kernel
theorem dX2_smallestDeadlySet_17 : decode cX2_smallestDeadlySet 17 = .ok (.ishl, 1) := by decide +kernel
theorem dX2_smallestDeadlySet_18 : decode cX2_smallestDeadlySet 18 = .ok (.if_icmp .ge 50, 3) := by decide +kernel
theorem dX2_smallestDeadlySet_21 : decode cX2_smallestDeadlySet 21 = .ok (.iload 5, 2) := by decide +kernel
theorem dX2_smallestDeadlySet_23 : decode cX2_smallestDeadlySet 23 = .ok (.invokestatic 80, 3) := by decide +kernel
theorem dX2_smallestDeadlySet_26 : decode cX2_smallestDeadlySet 26 = .ok (.iload 4, 2) := by decide +kernel
theorem dX2_smallestDeadlySet_28 : decode cX2_smallestDeadlySet 28 = .ok (.if_icmp .lt 6, 3) := by decide +kernel
theorem dX2_smallestDeadlySet_31 : decode cX2_smallestDeadlySet 31 = .ok (.goto 31, 3) := by decide +kernel
theorem dX2_smallestDeadlySet_34 : decode cX2_smallestDeadlySet 34 = .ok (.aload_n 1, 1) := by decide +kernel
theorem dX2_smallestDeadlySet_35 : decode cX2_smallestDeadlySet 35 = .ok (.iload_n 2, 1) := by decide +kernel
theorem dX2_smallestDeadlySet_36 : decode cX2_smallestDeadlySet 36 = .ok (.aload_n 1, 1) := by decide +kernel
theorem dX2_smallestDeadlySet_37 : decode cX2_smallestDeadlySet 37 = .ok (.iload_n 2, 1) := by decide +kernel
theorem dX2_smallestDeadlySet_38 : decode cX2_smallestDeadlySet 38 = .ok (.iload 5, 2) := by decide +kernel
theorem dX2_smallestDeadlySet_40 : decode cX2_smallestDeadlySet 40 = .ok (.invokevirtual 85, 3) := by decide +kernel
theorem dX2_smallestDeadlySet_43 : decode cX2_smallestDeadlySet 43 = .ok (.invokevirtual 42, 3) := by decide +kernel
theorem dX2_smallestDeadlySet_46 : decode cX2_smallestDeadlySet 46 = .ok (.ifCond .eq 6, 3) := by decide +kernel
theorem dX2_smallestDeadlySet_49 : decode cX2_smallestDeadlySet 49 = .ok (.goto 13, 3) := by decide +kernel
theorem dX2_smallestDeadlySet_52 : decode cX2_smallestDeadlySet 52 = .ok (.iload 5, 2) := by decide +kernel
theorem dX2_smallestDeadlySet_54 : decode cX2_smallestDeadlySet 54 = .ok (.istore_n 3, 1) := by decide +kernel
theorem dX2_smallestDeadlySet_55 : decode cX2_smallestDeadlySet 55 = .ok (.iload 5, 2) := by decide +kernel
theorem dX2_smallestDeadlySet_57 : decode cX2_smallestDeadlySet 57 = .ok (.invokestatic 80, 3) := by decide +kernel
theorem dX2_smallestDeadlySet_60 : decode cX2_smallestDeadlySet 60 = .ok (.istore 4, 2) := by decide +kernel
theorem dX2_smallestDeadlySet_62 : decode cX2_smallestDeadlySet 62 = .ok (.iinc 5 1, 3) := by decide +kernel
theorem dX2_smallestDeadlySet_65 : decode cX2_smallestDeadlySet 65 = .ok (.goto (-55), 3) := by decide +kernel
theorem dX2_smallestDeadlySet_68 : decode cX2_smallestDeadlySet 68 = .ok (.iload_n 3, 1) := by decide +kernel
theorem dX2_smallestDeadlySet_69 : decode cX2_smallestDeadlySet 69 = .ok (.ireturn, 1) := by decide +kernel
set_option maxRecDepth 100000 in
set_option maxHeartbeats 4000000 in
theorem X2_smallestDeadlySet_b62_ok (G : Gt) (o : Nat) (p1 : Nat) (ho : kd o = 2) (hp1 : kd p1 = 3)   (k10 : Int32 → Int32 → Int32 → Int32 → Mem → Option (Int32 × Mem)) (hk10 : ∀ (x2 : Int32) (x3 : Int32) (x4 : Int32) (x5 : Int32) (mem : Mem), EvR tvI G cX2_smallestDeadlySet 6 (some .int) RX2 6 10 [(1, .ref (gA G p1)), (2, .int (x2)), (3, .int (x3)), (4, .int (x4)), (5, .int (x5))] [] mem (k10 x2 x3 x4 x5 mem)) (x2 : Int32) (x3 : Int32) (x4 : Int32) (x5 : Int32) (mem : Mem) : EvR tvI G cX2_smallestDeadlySet 6 (some .int) RX2 6 62 [(1, .ref (gA G p1)), (2, .int (x2)), (3, .int (x3)), (4, .int (x4)), (5, .int (x5))] [] mem (X2_smallestDeadlySet_b62 o p1 k10 x2 x3 x4 x5 mem) := by
  unfold X2_smallestDeadlySet_b62
  refine ev_iinc (q := 65) (lv2 := [(5, .int _), (1, .ref _), (2, .int _), (3, .int _), (4, .int _)]) (v := x5 + 1) dX2_smallestDeadlySet_62 4 rfl rfl (congrArg (HAdd.hAdd _) li_1) (Nat.le_of_ble_eq_true rfl) rfl ?_
  refine ev_goto (t := 10) dX2_smallestDeadlySet_65 rfl ?_
  refine ev_sub (lv' := [(1, .ref _), (2, .int _), (3, .int _), (4, .int _), (5, .int _)]) [1, 2, 3, 4, 0] rfl ?_
  exact hk10 _ _ _ _ _
set_option maxRecDepth 100000 in
set_option maxHeartbeats 4000000 in
theorem X2_smallestDeadlySet_b10_ok (G : Gt) (o : Nat) (p1 : Nat) (ho : kd o = 2) (hp1 : kd p1 = 3)    : ∀ (n : Nat) (x2 : Int32) (x3 : Int32) (x4 : Int32) (x5 : Int32) (mem : Mem), EvR tvI G cX2_smallestDeadlySet 6 (some .int) RX2 6 10 [(1, .ref (gA G p1)), (2, .int (x2)), (3, .int (x3)), (4, .int (x4)), (5, .int (x5))] [] mem (X2_smallestDeadlySet_b10 o p1 n x2 x3 x4 x5 mem) := by
  intro n
  induction n with
  | zero => intros; exact ev_none
  | succ n ih =>
    intro x2 x3 x4 x5 mem
    rw [X2_smallestDeadlySet_b10]
    refine ev_iload (q := 12) dX2_smallestDeadlySet_10 4 rfl rfl ?_
    refine ev_iconst (q := 13) (v := 1) dX2_smallestDeadlySet_12 rfl li_1 ?_
    refine ev_aload_n (q := 14) dX2_smallestDeadlySet_13 rfl 0 rfl rfl ?_
    refine ev_getI (q := 17) (ci := 3) (j := 3) (T := TX3) dX2_smallestDeadlySet_14 rfl cf_3 hp1 hj_3_3 hc_3 gf_X2_68 rfl ?_
    refine ev_ishl (q := 18) dX2_smallestDeadlySet_17 rfl ?_
    refine ev_icmp_ge (t := 68) (q := 21) dX2_smallestDeadlySet_18 rfl rfl (fun hc1 => ?_) (fun hc1 => ?_)
    · refine ev_iload (q := 23) dX2_smallestDeadlySet_21 4 rfl rfl ?_
      refine ev_callSI (q := 26) dX2_smallestDeadlySet_23 rfl ml_X2_80 mt_J6_bitCount_0f7a4 (con_J6_bitCount_0f7a4 G _  _) rfl (Nat.le_of_ble_eq_true rfl) (Nat.le_of_ble_eq_true rfl) rfl (Nat.le_of_ble_eq_true rfl) (fun r2 m3 => ?_)
      refine ev_iload (q := 28) dX2_smallestDeadlySet_26 3 rfl rfl ?_
      refine ev_icmp_lt (t := 34) (q := 31) dX2_smallestDeadlySet_28 rfl rfl (fun hc4 => ?_) (fun hc4 => ?_)
      · refine ev_aload_n (q := 35) dX2_smallestDeadlySet_34 rfl 0 rfl rfl ?_
        refine ev_iload_n (q := 36) dX2_smallestDeadlySet_35 rfl 1 rfl rfl ?_
        refine ev_aload_n (q := 37) dX2_smallestDeadlySet_36 rfl 0 rfl rfl ?_
        refine ev_iload_n (q := 38) dX2_smallestDeadlySet_37 rfl 1 rfl rfl ?_
        refine ev_iload (q := 40) dX2_smallestDeadlySet_38 4 rfl rfl ?_
        refine ev_callVI (q := 43) dX2_smallestDeadlySet_40 rfl ml_X2_85 mt_X3_costOfAll cf_3 rfl hp1 hc_3 (con_X3_costOfAll G _ _ _ hp1 _) rfl (Nat.le_of_ble_eq_true rfl) (Nat.le_of_ble_eq_true rfl) rfl (Nat.le_of_ble_eq_true rfl) (fun r5 m6 => ?_)
        refine ev_callVI (q := 46) dX2_smallestDeadlySet_43 rfl ml_X2_42 mt_X3_survives cf_3 rfl hp1 hc_3 (con_X3_survives G _ _ _ hp1 _) rfl (Nat.le_of_ble_eq_true rfl) (Nat.le_of_ble_eq_true rfl) rfl (Nat.le_of_ble_eq_true rfl) (fun r7 m8 => ?_)
        refine ev_if_eq (t := 52) (q := 49) dX2_smallestDeadlySet_46 rfl rfl (fun hc9 => ?_) (fun hc9 => ?_)
        · refine ev_iload (q := 54) dX2_smallestDeadlySet_52 4 rfl rfl ?_
          refine ev_istore_n (q := 55) (lv2 := [(3, .int _), (1, .ref _), (2, .int _), (4, .int _), (5, .int _)]) dX2_smallestDeadlySet_54 rfl rfl (Nat.le_of_ble_eq_true rfl) rfl ?_
          refine ev_iload (q := 57) dX2_smallestDeadlySet_55 4 rfl rfl ?_
          refine ev_callSI (q := 60) dX2_smallestDeadlySet_57 rfl ml_X2_80 mt_J6_bitCount_0f7a4 (con_J6_bitCount_0f7a4 G _  _) rfl (Nat.le_of_ble_eq_true rfl) (Nat.le_of_ble_eq_true rfl) rfl (Nat.le_of_ble_eq_true rfl) (fun r10 m11 => ?_)
          refine ev_istore (q := 62) (lv2 := [(4, .int _), (3, .int _), (1, .ref _), (2, .int _), (5, .int _)]) dX2_smallestDeadlySet_60 rfl (Nat.le_of_ble_eq_true rfl) rfl ?_
          refine ev_sub (lv' := [(1, .ref _), (2, .int _), (3, .int _), (4, .int _), (5, .int _)]) [2, 3, 1, 0, 4] rfl ?_
          exact X2_smallestDeadlySet_b62_ok G o p1 ho hp1  (X2_smallestDeadlySet_b10 o p1 n) ih _ _ _ _ _
        · refine ev_goto (t := 62) dX2_smallestDeadlySet_49 rfl ?_
          exact X2_smallestDeadlySet_b62_ok G o p1 ho hp1  (X2_smallestDeadlySet_b10 o p1 n) ih _ _ _ _ _
      · refine ev_goto (t := 62) dX2_smallestDeadlySet_31 rfl ?_
        exact X2_smallestDeadlySet_b62_ok G o p1 ho hp1  (X2_smallestDeadlySet_b10 o p1 n) ih _ _ _ _ _
    · refine ev_iload_n (q := 69) dX2_smallestDeadlySet_68 rfl 2 rfl rfl ?_
      exact ev_iret dX2_smallestDeadlySet_69 rfl
set_option maxRecDepth 100000 in
set_option maxHeartbeats 4000000 in
theorem con_X2_smallestDeadlySet (G : Gt) (o : Nat) (p1 : Nat) (a2 : Int32) (ho : kd o = 2) (hp1 : kd p1 = 3) (mem : Mem) : Con tvI G yX2_smallestDeadlySet cX2_smallestDeadlySet 6 (some .int) 6 [.ref (gA G o), .ref (gA G p1), .int a2] mem (X2_smallestDeadlySet o p1 a2 mem) := by
  refine con_of (by decide) (Nat.le_of_ble_eq_true rfl) ?_
  show EvR tvI G cX2_smallestDeadlySet 6 (some .int) RX2 6 0 [(0, .ref (gA G o)), (1, .ref (gA G p1)), (2, .int (a2))] [] mem _
  unfold X2_smallestDeadlySet
  refine ev_ldc (q := 2) (v := (-1000000)) dX2_smallestDeadlySet_0 rfl kc_X2_21 ?_
  refine ev_istore_n (q := 3) (lv2 := [(3, .int _), (0, .ref _), (1, .ref _), (2, .int _)]) dX2_smallestDeadlySet_2 rfl rfl (Nat.le_of_ble_eq_true rfl) rfl ?_
  refine ev_bipush (q := 5) (v := 7) dX2_smallestDeadlySet_3 rfl lb_7 ?_
  refine ev_istore (q := 7) (lv2 := [(4, .int _), (3, .int _), (0, .ref _), (1, .ref _), (2, .int _)]) dX2_smallestDeadlySet_5 rfl (Nat.le_of_ble_eq_true rfl) rfl ?_
  refine ev_iconst (q := 8) (v := 0) dX2_smallestDeadlySet_7 rfl li_0 ?_
  refine ev_istore (q := 10) (lv2 := [(5, .int _), (4, .int _), (3, .int _), (0, .ref _), (1, .ref _), (2, .int _)]) dX2_smallestDeadlySet_8 rfl (Nat.le_of_ble_eq_true rfl) rfl ?_
  refine ev_sub (lv' := [(1, .ref _), (2, .int _), (3, .int _), (4, .int _), (5, .int _)]) [4, 5, 2, 1, 0] rfl ?_
  exact X2_smallestDeadlySet_b10_ok G o p1 ho hp1   fu _ _ _ _ _
/-! AgingLetters$Foretold.fewestToCross(LAgingLetters$Office;II)I -/
theorem dX2_fewestToCross_0 : decode cX2_fewestToCross 0 = .ok (.iconst 0, 1) := by decide +kernel
theorem dX2_fewestToCross_1 : decode cX2_fewestToCross 1 = .ok (.istore 4, 2) := by decide +kernel
theorem dX2_fewestToCross_3 : decode cX2_fewestToCross 3 = .ok (.iload 4, 2) := by decide +kernel
theorem dX2_fewestToCross_5 : decode cX2_fewestToCross 5 = .ok (.aload_n 1, 1) := by decide +kernel
theorem dX2_fewestToCross_6 : decode cX2_fewestToCross 6 = .ok (.getfield 77, 3) := by decide +kernel
theorem dX2_fewestToCross_9 : decode cX2_fewestToCross 9 = .ok (.iload_n 3, 1) := by decide +kernel
theorem dX2_fewestToCross_10 : decode cX2_fewestToCross 10 = .ok (.iaload, 1) := by decide +kernel
theorem dX2_fewestToCross_11 : decode cX2_fewestToCross 11 = .ok (.if_icmp .ge 39, 3) := by decide +kernel
theorem dX2_fewestToCross_14 : decode cX2_fewestToCross 14 = .ok (.aload_n 1, 1) := by decide +kernel
theorem dX2_fewestToCross_15 : decode cX2_fewestToCross 15 = .ok (.iload_n 2, 1) := by decide +kernel
theorem dX2_fewestToCross_16 : decode cX2_fewestToCross 16 = .ok (.iload_n 3, 1) := by decide +kernel
theorem dX2_fewestToCross_17 : decode cX2_fewestToCross 17 = .ok (.aload_n 1, 1) := by decide +kernel
theorem dX2_fewestToCross_18 : decode cX2_fewestToCross 18 = .ok (.getfield 77, 3) := by decide +kernel
theorem dX2_fewestToCross_21 : decode cX2_fewestToCross 21 = .ok (.iload_n 3, 1) := by decide +kernel
theorem dX2_fewestToCross_22 : decode cX2_fewestToCross 22 = .ok (.iaload, 1) := by decide +kernel
theorem dX2_fewestToCross_23 : decode cX2_fewestToCross 23 = .ok (.iload 4, 2) := by decide +kernel
theorem dX2_fewestToCross_25 : decode cX2_fewestToCross 25 = .ok (.isub, 1) := by decide +kernel
theorem dX2_fewestToCross_26 : decode cX2_fewestToCross 26 = .ok (.invokevirtual 88, 3) := by decide +kernel
theorem dX2_fewestToCross_29 : decode cX2_fewestToCross 29 = .ok (.istore 5, 2) := by decide +kernel
theorem dX2_fewestToCross_31 : decode cX2_fewestToCross 31 = .ok (.aload_n 1, 1) := by decide +kernel
theorem dX2_fewestToCross_32 : decode cX2_fewestToCross 32 = .ok (.iload_n 2, 1) := by decide +kernel
theorem dX2_fewestToCross_33 : decode cX2_fewestToCross 33 = .ok (.iload 5, 2) := by decide +kernel
theorem dX2_fewestToCross_35 : decode cX2_fewestToCross 35 = .ok (.invokevirtual 42, 3) := by decide +kernel
theorem dX2_fewestToCross_38 : decode cX2_fewestToCross 38 = .ok (.ifCond .eq 6, 3) := by decide +kernel
theorem dX2_fewestToCross_41 : decode cX2_fewestToCross 41 = .ok (.iload 4, 2) := by decide +kernel
theorem dX2_fewestToCross_43 : decode cX2_fewestToCross 43 = .ok (.ireturn, 1) := by decide +kernel
theorem dX2_fewestToCross_44 : decode cX2_fewestToCross 44 = .ok (.iinc 4 1, 3) := by decide +kernel
theorem dX2_fewestToCross_47 : decode cX2_fewestToCross 47 = .ok (.goto (-44), 3) := by decide +kernel
theorem dX2_fewestToCross_50 : decode cX2_fewestToCross 50 = .ok (.ldc 21, 2) := by decide +kernel
theorem dX2_fewestToCross_52 : decode cX2_fewestToCross 52 = .ok (.ireturn, 1) := by decide +kernel
set_option maxRecDepth 100000 in
set_option maxHeartbeats 4000000 in
theorem X2_fewestToCross_b3_ok (G : Gt) (o : Nat) (p1 : Nat) (ho : kd o = 2) (hp1 : kd p1 = 3)    : ∀ (n : Nat) (x2 : Int32) (x3 : Int32) (x4 : Int32) (mem : Mem), EvR tvI G cX2_fewestToCross 6 (some .int) RX2 4 3 [(1, .ref (gA G p1)), (2, .int (x2)), (3, .int (x3)), (4, .int (x4))] [] mem (X2_fewestToCross_b3 o p1 n x2 x3 x4 mem) := by
  intro n
  induction n with
  | zero => intros; exact ev_none
  | succ n ih =>
    intro x2 x3 x4 mem
    rw [X2_fewestToCross_b3]
    refine ev_iload (q := 5) dX2_fewestToCross_3 3 rfl rfl ?_
    refine ev_aload_n (q := 6) dX2_fewestToCross_5 rfl 0 rfl rfl ?_
    refine ev_getR (q := 9) (ci := 3) (j := 5) (T := TX3) dX2_fewestToCross_6 rfl cf_3 hp1 hj_3_5 hc_3 gf_X2_77 rfl ?_
    refine ev_iload_n (q := 10) dX2_fewestToCross_9 rfl 2 rfl rfl ?_
    refine ev_iald (q := 11) dX2_fewestToCross_10 rfl (kr_3_5 hp1) (fun z1 => ?_)
    refine ev_icmp_ge (t := 50) (q := 14) dX2_fewestToCross_11 rfl rfl (fun hc2 => ?_) (fun hc2 => ?_)
    · refine ev_aload_n (q := 15) dX2_fewestToCross_14 rfl 0 rfl rfl ?_
      refine ev_iload_n (q := 16) dX2_fewestToCross_15 rfl 1 rfl rfl ?_
      refine ev_iload_n (q := 17) dX2_fewestToCross_16 rfl 2 rfl rfl ?_
      refine ev_aload_n (q := 18) dX2_fewestToCross_17 rfl 0 rfl rfl ?_
      refine ev_getR (q := 21) (ci := 3) (j := 5) (T := TX3) dX2_fewestToCross_18 rfl cf_3 hp1 hj_3_5 hc_3 gf_X2_77 rfl ?_
      refine ev_iload_n (q := 22) dX2_fewestToCross_21 rfl 2 rfl rfl ?_
      refine ev_iald (q := 23) dX2_fewestToCross_22 rfl (kr_3_5 hp1) (fun z3 => ?_)
      refine ev_iload (q := 25) dX2_fewestToCross_23 3 rfl rfl ?_
      refine ev_isub (q := 26) dX2_fewestToCross_25 rfl ?_
      refine ev_callVI (q := 29) dX2_fewestToCross_26 rfl ml_X2_88 mt_X3_costFor_ cf_3 rfl hp1 hc_3 (con_X3_costFor_ G _ _ _ _ hp1 _) rfl (Nat.le_of_ble_eq_true rfl) (Nat.le_of_ble_eq_true rfl) rfl (Nat.le_of_ble_eq_true rfl) (fun r4 m5 => ?_)
      refine ev_istore (q := 31) (lv2 := [(5, .int _), (1, .ref _), (2, .int _), (3, .int _), (4, .int _)]) dX2_fewestToCross_29 rfl (Nat.le_of_ble_eq_true rfl) rfl ?_
      refine ev_aload_n (q := 32) dX2_fewestToCross_31 rfl 1 rfl rfl ?_
      refine ev_iload_n (q := 33) dX2_fewestToCross_32 rfl 2 rfl rfl ?_
      refine ev_iload (q := 35) dX2_fewestToCross_33 0 rfl rfl ?_
      refine ev_callVI (q := 38) dX2_fewestToCross_35 rfl ml_X2_42 mt_X3_survives cf_3 rfl hp1 hc_3 (con_X3_survives G _ _ _ hp1 _) rfl (Nat.le_of_ble_eq_true rfl) (Nat.le_of_ble_eq_true rfl) rfl (Nat.le_of_ble_eq_true rfl) (fun r6 m7 => ?_)
      refine ev_if_eq (t := 44) (q := 41) dX2_fewestToCross_38 rfl rfl (fun hc8 => ?_) (fun hc8 => ?_)
      · refine ev_iinc (q := 47) (lv2 := [(4, .int _), (5, .int _), (1, .ref _), (2, .int _), (3, .int _)]) (v := x4 + 1) dX2_fewestToCross_44 4 rfl rfl (congrArg (HAdd.hAdd _) li_1) (Nat.le_of_ble_eq_true rfl) rfl ?_
        refine ev_goto (t := 3) dX2_fewestToCross_47 rfl ?_
        refine ev_sub (lv' := [(1, .ref _), (2, .int _), (3, .int _), (4, .int _)]) [2, 3, 4, 0] rfl ?_
        exact ih _ _ _ _
      · refine ev_iload (q := 43) dX2_fewestToCross_41 4 rfl rfl ?_
        exact ev_iret dX2_fewestToCross_43 rfl
    · refine ev_ldc (q := 52) (v := (-1000000)) dX2_fewestToCross_50 rfl kc_X2_21 ?_
      exact ev_iret dX2_fewestToCross_52 rfl
set_option maxRecDepth 100000 in
set_option maxHeartbeats 4000000 in
theorem con_X2_fewestToCross (G : Gt) (o : Nat) (p1 : Nat) (a2 : Int32) (a3 : Int32) (ho : kd o = 2) (hp1 : kd p1 = 3) (mem : Mem) : Con tvI G yX2_fewestToCross cX2_fewestToCross 6 (some .int) 4 [.ref (gA G o), .ref (gA G p1), .int a2, .int a3] mem (X2_fewestToCross o p1 a2 a3 mem) := by
  refine con_of (by decide) (Nat.le_of_ble_eq_true rfl) ?_
  show EvR tvI G cX2_fewestToCross 6 (some .int) RX2 4 0 [(0, .ref (gA G o)), (1, .ref (gA G p1)), (2, .int (a2)), (3, .int (a3))] [] mem _
  unfold X2_fewestToCross
  refine ev_iconst (q := 1) (v := 0) dX2_fewestToCross_0 rfl li_0 ?_
  refine ev_istore (q := 3) (lv2 := [(4, .int _), (0, .ref _), (1, .ref _), (2, .int _), (3, .int _)]) dX2_fewestToCross_1 rfl (Nat.le_of_ble_eq_true rfl) rfl ?_
  refine ev_sub (lv' := [(1, .ref _), (2, .int _), (3, .int _), (4, .int _)]) [2, 3, 4, 0] rfl ?_
  exact X2_fewestToCross_b3_ok G o p1 ho hp1   fu _ _ _ _
/-! AgingLetters$Office.firstCostOf(I)I -/
theorem dX3_firstCostOf_0 : decode cX3_firstCostOf 0 = .ok (.iconst 0, 1) := by decide +kernel
theorem dX3_firstCostOf_1 : decode cX3_firstCostOf 1 = .ok (.istore_n 2, 1) := by decide +kernel
theorem dX3_firstCostOf_2 : decode cX3_firstCostOf 2 = .ok (.iconst 0, 1) := by decide +kernel
theorem dX3_firstCostOf_3 : decode cX3_firstCostOf 3 = .ok (.istore_n 3, 1) := by decide +kernel
theorem dX3_firstCostOf_4 : decode cX3_firstCostOf 4 = .ok (.iload_n 3, 1) := by decide +kernel
theorem dX3_firstCostOf_5 : decode cX3_firstCostOf 5 = .ok (.aload_n 0, 1) := by decide +kernel
theorem dX3_firstCostOf_6 : decode cX3_firstCostOf 6 = .ok (.getfield 47, 3) := by decide +kernel
theorem dX3_firstCostOf_9 : decode cX3_firstCostOf 9 = .ok (.if_icmp .ge 25, 3) := by decide +kernel
theorem dX3_firstCostOf_12 : decode cX3_firstCostOf 12 = .ok (.iload_n 1, 1) := by decide +kernel
theorem dX3_firstCostOf_13 : decode cX3_firstCostOf 13 = .ok (.iload_n 3, 1) := by decide +kernel
theorem dX3_firstCostOf_14 : decode cX3_firstCostOf 14 = .ok (.invokestatic 69, 3) := by decide +kernel
theorem dX3_firstCostOf_17 : decode cX3_firstCostOf 17 = .ok (.ifCond .eq 11, 3) := by decide +kernel
theorem dX3_firstCostOf_20 : decode cX3_firstCostOf 20 = .ok (.iload_n 2, 1) := by decide +kernel
theorem dX3_firstCostOf_21 : decode cX3_firstCostOf 21 = .ok (.aload_n 0, 1) := by decide +kernel
theorem dX3_firstCostOf_22 : decode cX3_firstCostOf 22 = .ok (.iload_n 3, 1) := by decide +kernel
theorem dX3_firstCostOf_23 : decode cX3_firstCostOf 23 = .ok (.invokevirtual 97, 3) := by decide +kernel
theorem dX3_firstCostOf_26 : decode cX3_firstCostOf 26 = .ok (.iadd, 1) := by decide +kernel
theorem dX3_firstCostOf_27 : decode cX3_firstCostOf 27 = .ok (.istore_n 2, 1) := by decide +kernel
theorem dX3_firstCostOf_28 : decode cX3_firstCostOf 28 = .ok (.iinc 3 1, 3) := by decide +kernel
theorem dX3_firstCostOf_31 : decode cX3_firstCostOf 31 = .ok (.goto (-27), 3) := by decide +kernel
theorem dX3_firstCostOf_34 : decode cX3_firstCostOf 34 = .ok (.iload_n 2, 1) := by decide +kernel
theorem dX3_firstCostOf_35 : decode cX3_firstCostOf 35 = .ok (.ireturn, 1) := by decide +kernel
set_option maxRecDepth 100000 in
set_option maxHeartbeats 4000000 in
theorem X3_firstCostOf_b28_ok (G : Gt) (o : Nat) (ho : kd o = 3)   (k4 : Int32 → Int32 → Int32 → Mem → Option (Int32 × Mem)) (hk4 : ∀ (x1 : Int32) (x2 : Int32) (x3 : Int32) (mem : Mem), EvR tvI G cX3_firstCostOf 4 (some .int) RX3 4 4 [(0, .ref (gA G o)), (1, .int (x1)), (2, .int (x2)), (3, .int (x3))] [] mem (k4 x1 x2 x3 mem)) (x1 : Int32) (x2 : Int32) (x3 : Int32) (mem : Mem) : EvR tvI G cX3_firstCostOf 4 (some .int) RX3 4 28 [(0, .ref (gA G o)), (1, .int (x1)), (2, .int (x2)), (3, .int (x3))] [] mem (X3_firstCostOf_b28 o k4 x1 x2 x3 mem) := by
  unfold X3_firstCostOf_b28
  refine ev_iinc (q := 31) (lv2 := [(3, .int _), (0, .ref _), (1, .int _), (2, .int _)]) (v := x3 + 1) dX3_firstCostOf_28 3 rfl rfl (congrArg (HAdd.hAdd _) li_1) (Nat.le_of_ble_eq_true rfl) rfl ?_
  refine ev_goto (t := 4) dX3_firstCostOf_31 rfl ?_
  refine ev_sub (lv' := [(0, .ref _), (1, .int _), (2, .int _), (3, .int _)]) [1, 2, 3, 0] rfl ?_
  exact hk4 _ _ _ _
set_option maxRecDepth 100000 in
set_option maxHeartbeats 4000000 in
theorem X3_firstCostOf_b4_ok (G : Gt) (o : Nat) (ho : kd o = 3)    : ∀ (n : Nat) (x1 : Int32) (x2 : Int32) (x3 : Int32) (mem : Mem), EvR tvI G cX3_firstCostOf 4 (some .int) RX3 4 4 [(0, .ref (gA G o)), (1, .int (x1)), (2, .int (x2)), (3, .int (x3))] [] mem (X3_firstCostOf_b4 o n x1 x2 x3 mem) := by
  intro n
  induction n with
  | zero => intros; exact ev_none
  | succ n ih =>
    intro x1 x2 x3 mem
    rw [X3_firstCostOf_b4]
    refine ev_iload_n (q := 5) dX3_firstCostOf_4 rfl 3 rfl rfl ?_
    refine ev_aload_n (q := 6) dX3_firstCostOf_5 rfl 0 rfl rfl ?_
    refine ev_getI (q := 9) (ci := 3) (j := 3) (T := TX3) dX3_firstCostOf_6 rfl cf_3 ho hj_3_3 hc_3 gf_X3_47 rfl ?_
    refine ev_icmp_ge (t := 34) (q := 12) dX3_firstCostOf_9 rfl rfl (fun hc1 => ?_) (fun hc1 => ?_)
    · refine ev_iload_n (q := 13) dX3_firstCostOf_12 rfl 1 rfl rfl ?_
      refine ev_iload_n (q := 14) dX3_firstCostOf_13 rfl 3 rfl rfl ?_
      refine ev_callSNI (q := 17) dX3_firstCostOf_14 rfl ml_X3_69 mt_X6_inSet (con_X6_inSet G _ _  _) rfl (Nat.le_of_ble_eq_true rfl) (Nat.le_of_ble_eq_true rfl) rfl (Nat.le_of_ble_eq_true rfl) (fun r2 m3 => ?_)
      refine ev_if_eq (t := 28) (q := 20) dX3_firstCostOf_17 rfl rfl (fun hc4 => ?_) (fun hc4 => ?_)
      · exact X3_firstCostOf_b28_ok G o ho  (X3_firstCostOf_b4 o n) ih _ _ _ _
      · refine ev_iload_n (q := 21) dX3_firstCostOf_20 rfl 2 rfl rfl ?_
        refine ev_aload_n (q := 22) dX3_firstCostOf_21 rfl 0 rfl rfl ?_
        refine ev_iload_n (q := 23) dX3_firstCostOf_22 rfl 3 rfl rfl ?_
        refine ev_callVI (q := 26) dX3_firstCostOf_23 rfl ml_X3_97 mt_X3_firstCost cf_3 rfl ho hc_3 (con_X3_firstCost G _ _ ho _) rfl (Nat.le_of_ble_eq_true rfl) (Nat.le_of_ble_eq_true rfl) rfl (Nat.le_of_ble_eq_true rfl) (fun r5 m6 => ?_)
        refine ev_iadd (q := 27) dX3_firstCostOf_26 rfl ?_
        refine ev_istore_n (q := 28) (lv2 := [(2, .int _), (0, .ref _), (1, .int _), (3, .int _)]) dX3_firstCostOf_27 rfl rfl (Nat.le_of_ble_eq_true rfl) rfl ?_
        refine ev_sub (lv' := [(0, .ref _), (1, .int _), (2, .int _), (3, .int _)]) [1, 2, 0, 3] rfl ?_
        exact X3_firstCostOf_b28_ok G o ho  (X3_firstCostOf_b4 o n) ih _ _ _ _
    · refine ev_iload_n (q := 35) dX3_firstCostOf_34 rfl 2 rfl rfl ?_
      exact ev_iret dX3_firstCostOf_35 rfl
set_option maxRecDepth 100000 in
set_option maxHeartbeats 4000000 in
theorem con_X3_firstCostOf (G : Gt) (o : Nat) (a1 : Int32) (ho : kd o = 3) (mem : Mem) : Con tvI G yX3_firstCostOf cX3_firstCostOf 4 (some .int) 4 [.ref (gA G o), .int a1] mem (X3_firstCostOf o a1 mem) := by
  refine con_of (by decide) (Nat.le_of_ble_eq_true rfl) ?_
  show EvR tvI G cX3_firstCostOf 4 (some .int) RX3 4 0 [(0, .ref (gA G o)), (1, .int (a1))] [] mem _
  unfold X3_firstCostOf
  refine ev_iconst (q := 1) (v := 0) dX3_firstCostOf_0 rfl li_0 ?_
  refine ev_istore_n (q := 2) (lv2 := [(2, .int _), (0, .ref _), (1, .int _)]) dX3_firstCostOf_1 rfl rfl (Nat.le_of_ble_eq_true rfl) rfl ?_
  refine ev_iconst (q := 3) (v := 0) dX3_firstCostOf_2 rfl li_0 ?_
  refine ev_istore_n (q := 4) (lv2 := [(3, .int _), (2, .int _), (0, .ref _), (1, .int _)]) dX3_firstCostOf_3 rfl rfl (Nat.le_of_ble_eq_true rfl) rfl ?_
  refine ev_sub (lv' := [(0, .ref _), (1, .int _), (2, .int _), (3, .int _)]) [2, 3, 1, 0] rfl ?_
  exact X3_firstCostOf_b4_ok G o ho   fu _ _ _ _
/-! AgingLetters$Foretold.setsThatCost(LAgingLetters$Office;I)I -/
theorem dX2_setsThatCost_0 : decode cX2_setsThatCost 0 = .ok (.iconst 0, 1) := by decide +kernel
theorem dX2_setsThatCost_1 : decode cX2_setsThatCost 1 = .ok (.istore_n 3, 1) := by decide +kernel
theorem dX2_setsThatCost_2 : decode cX2_setsThatCost 2 = .ok (.iconst 0, 1) := by decide +kernel
theorem dX2_setsThatCost_3 : decode cX2_setsThatCost 3 = .ok (.istore 4, 2) := by decide +kernel
theorem dX2_setsThatCost_5 : decode cX2_setsThatCost 5 = .ok (.iload 4, 2) := by decide +kernel
theorem dX2_setsThatCost_7 : decode cX2_setsThatCost 7 = .ok (.iconst 1, 1) := by decide +kernel
theorem dX2_setsThatCost_8 : decode cX2_setsThatCost 8 = .ok (.aload_n 1, 1) := by decide +kernel
theorem dX2_setsThatCost_9 : decode cX2_setsThatCost 9 = .ok (.getfield 68, 3) := by decide +kernel
theorem dX2_setsThatCost_12 : decode cX2_setsThatCost 12 = .ok (.ishl, 1) := by decide +kernel
theorem dX2_setsThatCost_13 : decode cX2_setsThatCost 13 = .ok (.if_icmp .ge 22, 3) := by decide +kernel
theorem dX2_setsThatCost_16 : decode cX2_setsThatCost 16 = .ok (.aload_n 1, 1) := by decide +kernel
theorem dX2_setsThatCost_17 : decode cX2_setsThatCost 17 = .ok (.iload 4, 2) := by decide +kernel
theorem dX2_setsThatCost_19 : decode cX2_setsThatCost 19 = .ok (.invokevirtual 91, 3) := by decide +kernel
theorem dX2_setsThatCost_22 : decode cX2_setsThatCost 22 = .ok (.iload_n 2, 1) := by decide +kernel
theorem dX2_setsThatCost_23 : decode cX2_setsThatCost 23 = .ok (.if_icmp .ne 6, 3) := by decide +kernel
theorem dX2_setsThatCost_26 : decode cX2_setsThatCost 26 = .ok (.iinc 3 1, 3) := by decide +kernel
theorem dX2_setsThatCost_29 : decode cX2_setsThatCost 29 = .ok (.iinc 4 1, 3) := by decide +kernel
theorem dX2_setsThatCost_32 : decode cX2_setsThatCost 32 = .ok (.goto (-27), 3) := by decide +kernel
theorem dX2_setsThatCost_35 : decode cX2_setsThatCost 35 = .ok (.iload_n 3, 1) := by decide +kernel
theorem dX2_setsThatCost_36 : decode cX2_setsThatCost 36 = .ok (.ireturn, 1) := by decide +kernel
set_option maxRecDepth 100000 in
set_option maxHeartbeats 4000000 in
theorem X2_setsThatCost_b29_ok (G : Gt) (o : Nat) (p1 : Nat) (ho : kd o = 2) (hp1 : kd p1 = 3)   (k5 : Int32 → Int32 → Int32 → Mem → Option (Int32 × Mem)) (hk5 : ∀ (x2 : Int32) (x3 : Int32) (x4 : Int32) (mem : Mem), EvR tvI G cX2_setsThatCost 5 (some .int) RX2 5 5 [(1, .ref (gA G p1)), (2, .int (x2)), (3, .int (x3)), (4, .int (x4))] [] mem (k5 x2 x3 x4 mem)) (x2 : Int32) (x3 : Int32) (x4 : Int32) (mem : Mem) : EvR tvI G cX2_setsThatCost 5 (some .int) RX2 5 29 [(1, .ref (gA G p1)), (2, .int (x2)), (3, .int (x3)), (4, .int (x4))] [] mem (X2_setsThatCost_b29 o p1 k5 x2 x3 x4 mem) := by
  unfold X2_setsThatCost_b29
  refine ev_iinc (q := 32) (lv2 := [(4, .int _), (1, .ref _), (2, .int _), (3, .int _)]) (v := x4 + 1) dX2_setsThatCost_29 3 rfl rfl (congrArg (HAdd.hAdd _) li_1) (Nat.le_of_ble_eq_true rfl) rfl ?_
  refine ev_goto (t := 5) dX2_setsThatCost_32 rfl ?_
  refine ev_sub (lv' := [(1, .ref _), (2, .int _), (3, .int _), (4, .int _)]) [1, 2, 3, 0] rfl ?_
  exact hk5 _ _ _ _
set_option maxRecDepth 100000 in
set_option maxHeartbeats 4000000 in
theorem X2_setsThatCost_b5_ok (G : Gt) (o : Nat) (p1 : Nat) (ho : kd o = 2) (hp1 : kd p1 = 3)    : ∀ (n : Nat) (x2 : Int32) (x3 : Int32) (x4 : Int32) (mem : Mem), EvR tvI G cX2_setsThatCost 5 (some .int) RX2 5 5 [(1, .ref (gA G p1)), (2, .int (x2)), (3, .int (x3)), (4, .int (x4))] [] mem (X2_setsThatCost_b5 o p1 n x2 x3 x4 mem) := by
  intro n
  induction n with
  | zero => intros; exact ev_none
  | succ n ih =>
    intro x2 x3 x4 mem
    rw [X2_setsThatCost_b5]
    refine ev_iload (q := 7) dX2_setsThatCost_5 3 rfl rfl ?_
    refine ev_iconst (q := 8) (v := 1) dX2_setsThatCost_7 rfl li_1 ?_
    refine ev_aload_n (q := 9) dX2_setsThatCost_8 rfl 0 rfl rfl ?_
    refine ev_getI (q := 12) (ci := 3) (j := 3) (T := TX3) dX2_setsThatCost_9 rfl cf_3 hp1 hj_3_3 hc_3 gf_X2_68 rfl ?_
    refine ev_ishl (q := 13) dX2_setsThatCost_12 rfl ?_
    refine ev_icmp_ge (t := 35) (q := 16) dX2_setsThatCost_13 rfl rfl (fun hc1 => ?_) (fun hc1 => ?_)
    · refine ev_aload_n (q := 17) dX2_setsThatCost_16 rfl 0 rfl rfl ?_
      refine ev_iload (q := 19) dX2_setsThatCost_17 3 rfl rfl ?_
      refine ev_callVI (q := 22) dX2_setsThatCost_19 rfl ml_X2_91 mt_X3_firstCostOf cf_3 rfl hp1 hc_3 (con_X3_firstCostOf G _ _ hp1 _) rfl (Nat.le_of_ble_eq_true rfl) (Nat.le_of_ble_eq_true rfl) rfl (Nat.le_of_ble_eq_true rfl) (fun r2 m3 => ?_)
      refine ev_iload_n (q := 23) dX2_setsThatCost_22 rfl 1 rfl rfl ?_
      refine ev_icmp_ne (t := 29) (q := 26) dX2_setsThatCost_23 rfl rfl (fun hc4 => ?_) (fun hc4 => ?_)
      · refine ev_iinc (q := 29) (lv2 := [(3, .int _), (1, .ref _), (2, .int _), (4, .int _)]) (v := x3 + 1) dX2_setsThatCost_26 2 rfl rfl (congrArg (HAdd.hAdd _) li_1) (Nat.le_of_ble_eq_true rfl) rfl ?_
        refine ev_sub (lv' := [(1, .ref _), (2, .int _), (3, .int _), (4, .int _)]) [1, 2, 0, 3] rfl ?_
        exact X2_setsThatCost_b29_ok G o p1 ho hp1  (X2_setsThatCost_b5 o p1 n) ih _ _ _ _
      · exact X2_setsThatCost_b29_ok G o p1 ho hp1  (X2_setsThatCost_b5 o p1 n) ih _ _ _ _
    · refine ev_iload_n (q := 36) dX2_setsThatCost_35 rfl 2 rfl rfl ?_
      exact ev_iret dX2_setsThatCost_36 rfl
set_option maxRecDepth 100000 in
set_option maxHeartbeats 4000000 in
theorem con_X2_setsThatCost (G : Gt) (o : Nat) (p1 : Nat) (a2 : Int32) (ho : kd o = 2) (hp1 : kd p1 = 3) (mem : Mem) : Con tvI G yX2_setsThatCost cX2_setsThatCost 5 (some .int) 5 [.ref (gA G o), .ref (gA G p1), .int a2] mem (X2_setsThatCost o p1 a2 mem) := by
  refine con_of (by decide) (Nat.le_of_ble_eq_true rfl) ?_
  show EvR tvI G cX2_setsThatCost 5 (some .int) RX2 5 0 [(0, .ref (gA G o)), (1, .ref (gA G p1)), (2, .int (a2))] [] mem _
  unfold X2_setsThatCost
  refine ev_iconst (q := 1) (v := 0) dX2_setsThatCost_0 rfl li_0 ?_
  refine ev_istore_n (q := 2) (lv2 := [(3, .int _), (0, .ref _), (1, .ref _), (2, .int _)]) dX2_setsThatCost_1 rfl rfl (Nat.le_of_ble_eq_true rfl) rfl ?_
  refine ev_iconst (q := 3) (v := 0) dX2_setsThatCost_2 rfl li_0 ?_
  refine ev_istore (q := 5) (lv2 := [(4, .int _), (3, .int _), (0, .ref _), (1, .ref _), (2, .int _)]) dX2_setsThatCost_3 rfl (Nat.le_of_ble_eq_true rfl) rfl ?_
  refine ev_sub (lv' := [(1, .ref _), (2, .int _), (3, .int _), (4, .int _)]) [3, 4, 1, 0] rfl ?_
  exact X2_setsThatCost_b5_ok G o p1 ho hp1   fu _ _ _ _
/-! AgingLetters$Foretold.leastSetThatCosts(LAgingLetters$Office;I)I -/
theorem dX2_leastSetThatCosts_0 : decode cX2_leastSetThatCosts 0 = .ok (.iconst 0, 1) := by decide +kernel
theorem dX2_leastSetThatCosts_1 : decode cX2_leastSetThatCosts 1 = .ok (.istore_n 3, 1) := by decide +kernel
theorem dX2_leastSetThatCosts_2 : decode cX2_leastSetThatCosts 2 = .ok (.iload_n 3, 1) := by decide +kernel
theorem dX2_leastSetThatCosts_3 : decode cX2_leastSetThatCosts 3 = .ok (.iconst 1, 1) := by decide +kernel
theorem dX2_leastSetThatCosts_4 : decode cX2_leastSetThatCosts 4 = .ok (.aload_n 1, 1) := by decide +kernel
theorem dX2_leastSetThatCosts_5 : decode cX2_leastSetThatCosts 5 = .ok (.getfield 68, 3) := by decide +kernel
theorem dX2_leastSetThatCosts_8 : decode cX2_leastSetThatCosts 8 = .ok (.ishl, 1) := by decide +kernel
theorem dX2_leastSetThatCosts_9 : decode cX2_leastSetThatCosts 9 = .ok (.if_icmp .ge 20, 3) := by decide +kernel
theorem dX2_leastSetThatCosts_12 : decode cX2_leastSetThatCosts 12 = .ok (.aload_n 1, 1) := by decide +kernel
theorem dX2_leastSetThatCosts_13 : decode cX2_leastSetThatCosts 13 = .ok (.iload_n 3, 1) := by decide +kernel
theorem dX2_leastSetThatCosts_14 : decode cX2_leastSetThatCosts 14 = .ok (.invokevirtual 91, 3) := by decide +kernel
theorem dX2_leastSetThatCosts_17 : decode cX2_leastSetThatCosts 17 = .ok (.iload_n 2, 1) := by decide +kernel
theorem dX2_leastSetThatCosts_18 : decode cX2_leastSetThatCosts 18 = .ok (.if_icmp .ne 5, 3) := by decide +kernel
theorem dX2_leastSetThatCosts_21 : decode cX2_leastSetThatCosts 21 = .ok (.iload_n 3, 1) := by decide +kernel
theorem dX2_leastSetThatCosts_22 : decode cX2_leastSetThatCosts 22 = .ok (.ireturn, 1) := by decide +kernel
theorem dX2_leastSetThatCosts_23 : decode cX2_leastSetThatCosts 23 = .ok (.iinc 3 1, 3) := by decide +kernel
theorem dX2_leastSetThatCosts_26 : decode cX2_leastSetThatCosts 26 = .ok (.goto (-24), 3) := by decide +kernel
theorem dX2_leastSetThatCosts_29 : decode cX2_leastSetThatCosts 29 = .ok (.ldc 21, 2) := by decide +kernel
theorem dX2_leastSetThatCosts_31 : decode cX2_leastSetThatCosts 31 = .ok (.ireturn, 1) := by decide +kernel
set_option maxRecDepth 100000 in
set_option maxHeartbeats 4000000 in
theorem X2_leastSetThatCosts_b2_ok (G : Gt) (o : Nat) (p1 : Nat) (ho : kd o = 2) (hp1 : kd p1 = 3)    : ∀ (n : Nat) (x2 : Int32) (x3 : Int32) (mem : Mem), EvR tvI G cX2_leastSetThatCosts 4 (some .int) RX2 5 2 [(1, .ref (gA G p1)), (2, .int (x2)), (3, .int (x3))] [] mem (X2_leastSetThatCosts_b2 o p1 n x2 x3 mem) := by
  intro n
  induction n with
  | zero => intros; exact ev_none
  | succ n ih =>
    intro x2 x3 mem
    rw [X2_leastSetThatCosts_b2]
    refine ev_iload_n (q := 3) dX2_leastSetThatCosts_2 rfl 2 rfl rfl ?_
    refine ev_iconst (q := 4) (v := 1) dX2_leastSetThatCosts_3 rfl li_1 ?_
    refine ev_aload_n (q := 5) dX2_leastSetThatCosts_4 rfl 0 rfl rfl ?_
    refine ev_getI (q := 8) (ci := 3) (j := 3) (T := TX3) dX2_leastSetThatCosts_5 rfl cf_3 hp1 hj_3_3 hc_3 gf_X2_68 rfl ?_
    refine ev_ishl (q := 9) dX2_leastSetThatCosts_8 rfl ?_
    refine ev_icmp_ge (t := 29) (q := 12) dX2_leastSetThatCosts_9 rfl rfl (fun hc1 => ?_) (fun hc1 => ?_)
    · refine ev_aload_n (q := 13) dX2_leastSetThatCosts_12 rfl 0 rfl rfl ?_
      refine ev_iload_n (q := 14) dX2_leastSetThatCosts_13 rfl 2 rfl rfl ?_
      refine ev_callVI (q := 17) dX2_leastSetThatCosts_14 rfl ml_X2_91 mt_X3_firstCostOf cf_3 rfl hp1 hc_3 (con_X3_firstCostOf G _ _ hp1 _) rfl (Nat.le_of_ble_eq_true rfl) (Nat.le_of_ble_eq_true rfl) rfl (Nat.le_of_ble_eq_true rfl) (fun r2 m3 => ?_)
      refine ev_iload_n (q := 18) dX2_leastSetThatCosts_17 rfl 1 rfl rfl ?_
      refine ev_icmp_ne (t := 23) (q := 21) dX2_leastSetThatCosts_18 rfl rfl (fun hc4 => ?_) (fun hc4 => ?_)
      · refine ev_iload_n (q := 22) dX2_leastSetThatCosts_21 rfl 2 rfl rfl ?_
        exact ev_iret dX2_leastSetThatCosts_22 rfl
      · refine ev_iinc (q := 26) (lv2 := [(3, .int _), (1, .ref _), (2, .int _)]) (v := x3 + 1) dX2_leastSetThatCosts_23 2 rfl rfl (congrArg (HAdd.hAdd _) li_1) (Nat.le_of_ble_eq_true rfl) rfl ?_
        refine ev_goto (t := 2) dX2_leastSetThatCosts_26 rfl ?_
        refine ev_sub (lv' := [(1, .ref _), (2, .int _), (3, .int _)]) [1, 2, 0] rfl ?_
        exact ih _ _ _
    · refine ev_ldc (q := 31) (v := (-1000000)) dX2_leastSetThatCosts_29 rfl kc_X2_21 ?_
      exact ev_iret dX2_leastSetThatCosts_31 rfl
set_option maxRecDepth 100000 in
set_option maxHeartbeats 4000000 in
theorem con_X2_leastSetThatCosts (G : Gt) (o : Nat) (p1 : Nat) (a2 : Int32) (ho : kd o = 2) (hp1 : kd p1 = 3) (mem : Mem) : Con tvI G yX2_leastSetThatCosts cX2_leastSetThatCosts 4 (some .int) 5 [.ref (gA G o), .ref (gA G p1), .int a2] mem (X2_leastSetThatCosts o p1 a2 mem) := by
  refine con_of (by decide) (Nat.le_of_ble_eq_true rfl) ?_
  show EvR tvI G cX2_leastSetThatCosts 4 (some .int) RX2 5 0 [(0, .ref (gA G o)), (1, .ref (gA G p1)), (2, .int (a2))] [] mem _
  unfold X2_leastSetThatCosts
  refine ev_iconst (q := 1) (v := 0) dX2_leastSetThatCosts_0 rfl li_0 ?_
  refine ev_istore_n (q := 2) (lv2 := [(3, .int _), (0, .ref _), (1, .ref _), (2, .int _)]) dX2_leastSetThatCosts_1 rfl rfl (Nat.le_of_ble_eq_true rfl) rfl ?_
  refine ev_sub (lv' := [(1, .ref _), (2, .int _), (3, .int _)]) [2, 3, 0] rfl ?_
  exact X2_leastSetThatCosts_b2_ok G o p1 ho hp1   fu _ _ _
/-! AgingLetters$Foretold.noReadingYet()V -/
theorem dX2_noReadingYet_0 : decode cX2_noReadingYet 0 = .ok (.aload_n 0, 1) := by decide +kernel
theorem dX2_noReadingYet_1 : decode cX2_noReadingYet 1 = .ok (.getfield 18, 3) := by decide +kernel
theorem dX2_noReadingYet_4 : decode cX2_noReadingYet 4 = .ok (.iconst 0, 1) := by decide +kernel
theorem dX2_noReadingYet_5 : decode cX2_noReadingYet 5 = .ok (.invokestatic 58, 3) := by decide +kernel
theorem dX2_noReadingYet_8 : decode cX2_noReadingYet 8 = .ok (.aload_n 0, 1) := by decide +kernel
theorem dX2_noReadingYet_9 : decode cX2_noReadingYet 9 = .ok (.getfield 18, 3) := by decide +kernel
theorem dX2_noReadingYet_12 : decode cX2_noReadingYet 12 = .ok (.iconst 0, 1) := by decide +kernel
theorem dX2_noReadingYet_13 : decode cX2_noReadingYet 13 = .ok (.iconst 1, 1) := by decide +kernel
theorem dX2_noReadingYet_14 : decode cX2_noReadingYet 14 = .ok (.iastore, 1) := by decide +kernel
theorem dX2_noReadingYet_15 : decode cX2_noReadingYet 15 = .ok (.return_, 1) := by decide +kernel
set_option maxRecDepth 100000 in
set_option maxHeartbeats 4000000 in
theorem con_X2_noReadingYet (G : Gt) (o : Nat) (ho : kd o = 2) (mem : Mem) : Con tvU G yX2_noReadingYet cX2_noReadingYet 1 none 2 [.ref (gA G o)] mem (X2_noReadingYet o mem) := by
  refine con_of (by decide) (Nat.le_of_ble_eq_true rfl) ?_
  show EvR tvU G cX2_noReadingYet 1 none RX2 2 0 [(0, .ref (gA G o))] [] mem _
  unfold X2_noReadingYet
  refine ev_aload_n (q := 1) dX2_noReadingYet_0 rfl 0 rfl rfl ?_
  refine ev_getR (q := 4) (ci := 2) (j := 2) (T := TX2) dX2_noReadingYet_1 rfl cf_2 ho hj_2_2 hc_2 gf_X2_18 rfl ?_
  refine ev_iconst (q := 5) (v := 0) dX2_noReadingYet_4 rfl li_0 ?_
  refine ev_callSU (q := 8) dX2_noReadingYet_5 rfl ml_X2_58 mt_J7_fill_53178 (con_J7_fill_53178 G _ _ (kr_2_2 ho) _) rfl (Nat.le_of_ble_eq_true rfl) (Nat.le_of_ble_eq_true rfl) rfl (Nat.le_of_ble_eq_true rfl) (fun r1 m2 => ?_)
  refine ev_aload_n (q := 9) dX2_noReadingYet_8 rfl 0 rfl rfl ?_
  refine ev_getR (q := 12) (ci := 2) (j := 2) (T := TX2) dX2_noReadingYet_9 rfl cf_2 ho hj_2_2 hc_2 gf_X2_18 rfl ?_
  refine ev_iconst (q := 13) (v := 0) dX2_noReadingYet_12 rfl li_0 ?_
  refine ev_iconst (q := 14) (v := 1) dX2_noReadingYet_13 rfl li_1 ?_
  refine ev_iast (q := 15) dX2_noReadingYet_14 rfl (kr_2_2 ho) (fun m3 => ?_)
  exact ev_vret dX2_noReadingYet_15 rfl
/-! AgingLetters$Foretold.tellAge(LAgingLetters$Office;II)V -/
theorem dX2_tellAge_0 : decode cX2_tellAge 0 = .ok (.bipush 63, 2) := by decide +kernel
theorem dX2_tellAge_2 : decode cX2_tellAge 2 = .ok (.istore 4, 2) := by decide +kernel
theorem dX2_tellAge_4 : decode cX2_tellAge 4 = .ok (.iload 4, 2) := by decide +kernel
theorem dX2_tellAge_6 : decode cX2_tellAge 6 = .ok (.ifCond .lt 96, 3) := by decide +kernel
theorem dX2_tellAge_9 : decode cX2_tellAge 9 = .ok (.iload_n 2, 1) := by decide +kernel
theorem dX2_tellAge_10 : decode cX2_tellAge 10 = .ok (.iload_n 3, 1) := by decide +kernel
theorem dX2_tellAge_11 : decode cX2_tellAge 11 = .ok (.if_icmp .ne 13, 3) := by decide +kernel
theorem dX2_tellAge_14 : decode cX2_tellAge 14 = .ok (.aload_n 0, 1) := by decide +kernel
theorem dX2_tellAge_15 : decode cX2_tellAge 15 = .ok (.getfield 18, 3) := by decide +kernel
theorem dX2_tellAge_18 : decode cX2_tellAge 18 = .ok (.iload 4, 2) := by decide +kernel
theorem dX2_tellAge_20 : decode cX2_tellAge 20 = .ok (.iaload, 1) := by decide +kernel
theorem dX2_tellAge_21 : decode cX2_tellAge 21 = .ok (.goto 4, 3) := by decide +kernel
theorem dX2_tellAge_24 : decode cX2_tellAge 24 = .ok (.iconst 0, 1) := by decide +kernel
theorem dX2_tellAge_25 : decode cX2_tellAge 25 = .ok (.istore 5, 2) := by decide +kernel
theorem dX2_tellAge_27 : decode cX2_tellAge 27 = .ok (.iconst 0, 1) := by decide +kernel
theorem dX2_tellAge_28 : decode cX2_tellAge 28 = .ok (.istore 6, 2) := by decide +kernel
theorem dX2_tellAge_30 : decode cX2_tellAge 30 = .ok (.iload 6, 2) := by decide +kernel
theorem dX2_tellAge_32 : decode cX2_tellAge 32 = .ok (.aload_n 1, 1) := by decide +kernel
theorem dX2_tellAge_33 : decode cX2_tellAge 33 = .ok (.getfield 68, 3) := by decide +kernel
theorem dX2_tellAge_36 : decode cX2_tellAge 36 = .ok (.if_icmp .ge 51, 3) := by decide +kernel
theorem dX2_tellAge_39 : decode cX2_tellAge 39 = .ok (.iload 4, 2) := by decide +kernel
theorem dX2_tellAge_41 : decode cX2_tellAge 41 = .ok (.iload 6, 2) := by decide +kernel
theorem dX2_tellAge_43 : decode cX2_tellAge 43 = .ok (.invokestatic 94, 3) := by decide +kernel
theorem dX2_tellAge_46 : decode cX2_tellAge 46 = .ok (.ifCond .ne 6, 3) := by decide +kernel
theorem dX2_tellAge_49 : decode cX2_tellAge 49 = .ok (.goto 32, 3) := by decide +kernel
theorem dX2_tellAge_52 : decode cX2_tellAge 52 = .ok (.iload_n 2, 1) := by decide +kernel
theorem dX2_tellAge_53 : decode cX2_tellAge 53 = .ok (.aload_n 1, 1) := by decide +kernel
theorem dX2_tellAge_54 : decode cX2_tellAge 54 = .ok (.iload 6, 2) := by decide +kernel
theorem dX2_tellAge_56 : decode cX2_tellAge 56 = .ok (.invokevirtual 74, 3) := by decide +kernel
theorem dX2_tellAge_59 : decode cX2_tellAge 59 = .ok (.iadd, 1) := by decide +kernel
theorem dX2_tellAge_60 : decode cX2_tellAge 60 = .ok (.iload_n 3, 1) := by decide +kernel
theorem dX2_tellAge_61 : decode cX2_tellAge 61 = .ok (.if_icmp .ne 20, 3) := by decide +kernel
theorem dX2_tellAge_64 : decode cX2_tellAge 64 = .ok (.iload 5, 2) := by decide +kernel
theorem dX2_tellAge_66 : decode cX2_tellAge 66 = .ok (.aload_n 0, 1) := by decide +kernel
theorem dX2_tellAge_67 : decode cX2_tellAge 67 = .ok (.getfield 18, 3) := by decide +kernel
theorem dX2_tellAge_70 : decode cX2_tellAge 70 = .ok (.iload 4, 2) := by decide +kernel
theorem dX2_tellAge_72 : decode cX2_tellAge 72 = .ok (.iconst 1, 1) := by decide +kernel
theorem dX2_tellAge_73 : decode cX2_tellAge 73 = .ok (.iload 6, 2) := by decide +kernel
theorem dX2_tellAge_75 : decode cX2_tellAge 75 = .ok (.ishl, 1) := by decide +kernel
theorem dX2_tellAge_76 : decode cX2_tellAge 76 = .ok (.isub, 1) := by decide +kernel
theorem dX2_tellAge_77 : decode cX2_tellAge 77 = .ok (.iaload, 1) := by decide +kernel
theorem dX2_tellAge_78 : decode cX2_tellAge 78 = .ok (.iadd, 1) := by decide +kernel
theorem dX2_tellAge_79 : decode cX2_tellAge 79 = .ok (.istore 5, 2) := by decide +kernel
theorem dX2_tellAge_81 : decode cX2_tellAge 81 = .ok (.iinc 6 1, 3) := by decide +kernel
theorem dX2_tellAge_84 : decode cX2_tellAge 84 = .ok (.goto (-54), 3) := by decide +kernel
theorem dX2_tellAge_87 : decode cX2_tellAge 87 = .ok (.aload_n 0, 1) := by decide +kernel
theorem dX2_tellAge_88 : decode cX2_tellAge 88 = .ok (.getfield 18, 3) := by decide +kernel
theorem dX2_tellAge_91 : decode cX2_tellAge 91 = .ok (.iload 4, 2) := by decide +kernel
theorem dX2_tellAge_93 : decode cX2_tellAge 93 = .ok (.iload 5, 2) := by decide +kernel
theorem dX2_tellAge_95 : decode cX2_tellAge 95 = .ok (.iastore, 1) := by decide +kernel
theorem dX2_tellAge_96 : decode cX2_tellAge 96 = .ok (.iinc 4 (-1), 3) := by decide +kernel
theorem dX2_tellAge_99 : decode cX2_tellAge 99 = .ok (.goto (-95), 3) := by decide +kernel
theorem dX2_tellAge_102 : decode cX2_tellAge 102 = .ok (.return_, 1) := by decide +kernel
set_option maxRecDepth 100000 in
set_option maxHeartbeats 4000000 in
theorem X2_tellAge_b81_ok (G : Gt) (o : Nat) (p1 : Nat) (ho : kd o = 2) (hp1 : kd p1 = 3)   (k4 : Int32 → Int32 → Int32 → Mem → Option (Unit × Mem)) (hk4 : ∀ (x2 : Int32) (x3 : Int32) (x4 : Int32) (mem : Mem), EvR tvU G cX2_tellAge 7 none RX2 4 4 [(0, .ref (gA G o)), (1, .ref (gA G p1)), (2, .int (x2)), (3, .int (x3)), (4, .int (x4))] [] mem (k4 x2 x3 x4 mem)) (k30 : Int32 → Int32 → Int32 → Int32 → Int32 → Mem → Option (Unit × Mem)) (hk30 : ∀ (x2 : Int32) (x3 : Int32) (x4 : Int32) (x5 : Int32) (x6 : Int32) (mem : Mem), EvR tvU G cX2_tellAge 7 none RX2 4 30 [(0, .ref (gA G o)), (1, .ref (gA G p1)), (2, .int (x2)), (3, .int (x3)), (4, .int (x4)), (5, .int (x5)), (6, .int (x6))] [] mem (k30 x2 x3 x4 x5 x6 mem)) (x2 : Int32) (x3 : Int32) (x4 : Int32) (x5 : Int32) (x6 : Int32) (mem : Mem) : EvR tvU G cX2_tellAge 7 none RX2 4 81 [(0, .ref (gA G o)), (1, .ref (gA G p1)), (2, .int (x2)), (3, .int (x3)), (4, .int (x4)), (5, .int (x5)), (6, .int (x6))] [] mem (X2_tellAge_b81 o p1 k4 k30 x2 x3 x4 x5 x6 mem) := by
  unfold X2_tellAge_b81
  refine ev_iinc (q := 84) (lv2 := [(6, .int _), (0, .ref _), (1, .ref _), (2, .int _), (3, .int _), (4, .int _), (5, .int _)]) (v := x6 + 1) dX2_tellAge_81 6 rfl rfl (congrArg (HAdd.hAdd _) li_1) (Nat.le_of_ble_eq_true rfl) rfl ?_
  refine ev_goto (t := 30) dX2_tellAge_84 rfl ?_
  refine ev_sub (lv' := [(0, .ref _), (1, .ref _), (2, .int _), (3, .int _), (4, .int _), (5, .int _), (6, .int _)]) [1, 2, 3, 4, 5, 6, 0] rfl ?_
  exact hk30 _ _ _ _ _ _
set_option maxRecDepth 100000 in
set_option maxHeartbeats 4000000 in
theorem X2_tellAge_b30_ok (G : Gt) (o : Nat) (p1 : Nat) (ho : kd o = 2) (hp1 : kd p1 = 3)   (k4 : Int32 → Int32 → Int32 → Mem → Option (Unit × Mem)) (hk4 : ∀ (x2 : Int32) (x3 : Int32) (x4 : Int32) (mem : Mem), EvR tvU G cX2_tellAge 7 none RX2 4 4 [(0, .ref (gA G o)), (1, .ref (gA G p1)), (2, .int (x2)), (3, .int (x3)), (4, .int (x4))] [] mem (k4 x2 x3 x4 mem)) : ∀ (n : Nat) (x2 : Int32) (x3 : Int32) (x4 : Int32) (x5 : Int32) (x6 : Int32) (mem : Mem), EvR tvU G cX2_tellAge 7 none RX2 4 30 [(0, .ref (gA G o)), (1, .ref (gA G p1)), (2, .int (x2)), (3, .int (x3)), (4, .int (x4)), (5, .int (x5)), (6, .int (x6))] [] mem (X2_tellAge_b30 o p1 k4 n x2 x3 x4 x5 x6 mem) := by
  intro n
  induction n with
  | zero => intros; exact ev_none
  | succ n ih =>
    intro x2 x3 x4 x5 x6 mem
    rw [X2_tellAge_b30]
    refine ev_iload (q := 32) dX2_tellAge_30 6 rfl rfl ?_
    refine ev_aload_n (q := 33) dX2_tellAge_32 rfl 1 rfl rfl ?_
    refine ev_getI (q := 36) (ci := 3) (j := 3) (T := TX3) dX2_tellAge_33 rfl cf_3 hp1 hj_3_3 hc_3 gf_X2_68 rfl ?_
    refine ev_icmp_ge (t := 87) (q := 39) dX2_tellAge_36 rfl rfl (fun hc4 => ?_) (fun hc4 => ?_)
    · refine ev_iload (q := 41) dX2_tellAge_39 4 rfl rfl ?_
      refine ev_iload (q := 43) dX2_tellAge_41 6 rfl rfl ?_
      refine ev_callSNI (q := 46) dX2_tellAge_43 rfl ml_X2_94 mt_X6_inSet (con_X6_inSet G _ _  _) rfl (Nat.le_of_ble_eq_true rfl) (Nat.le_of_ble_eq_true rfl) rfl (Nat.le_of_ble_eq_true rfl) (fun r6 m7 => ?_)
      refine ev_if_ne (t := 52) (q := 49) dX2_tellAge_46 rfl rfl (fun hc8 => ?_) (fun hc8 => ?_)
      · refine ev_goto (t := 81) dX2_tellAge_49 rfl ?_
        exact X2_tellAge_b81_ok G o p1 ho hp1  k4 hk4 (X2_tellAge_b30 o p1 k4 n) ih _ _ _ _ _ _
      · refine ev_iload_n (q := 53) dX2_tellAge_52 rfl 2 rfl rfl ?_
        refine ev_aload_n (q := 54) dX2_tellAge_53 rfl 1 rfl rfl ?_
        refine ev_iload (q := 56) dX2_tellAge_54 6 rfl rfl ?_
        refine ev_callVI (q := 59) dX2_tellAge_56 rfl ml_X2_74 mt_X3_firstCost cf_3 rfl hp1 hc_3 (con_X3_firstCost G _ _ hp1 _) rfl (Nat.le_of_ble_eq_true rfl) (Nat.le_of_ble_eq_true rfl) rfl (Nat.le_of_ble_eq_true rfl) (fun r9 m10 => ?_)
        refine ev_iadd (q := 60) dX2_tellAge_59 rfl ?_
        refine ev_iload_n (q := 61) dX2_tellAge_60 rfl 3 rfl rfl ?_
        refine ev_icmp_ne (t := 81) (q := 64) dX2_tellAge_61 rfl rfl (fun hc11 => ?_) (fun hc11 => ?_)
        · refine ev_iload (q := 66) dX2_tellAge_64 5 rfl rfl ?_
          refine ev_aload_n (q := 67) dX2_tellAge_66 rfl 0 rfl rfl ?_
          refine ev_getR (q := 70) (ci := 2) (j := 2) (T := TX2) dX2_tellAge_67 rfl cf_2 ho hj_2_2 hc_2 gf_X2_18 rfl ?_
          refine ev_iload (q := 72) dX2_tellAge_70 4 rfl rfl ?_
          refine ev_iconst (q := 73) (v := 1) dX2_tellAge_72 rfl li_1 ?_
          refine ev_iload (q := 75) dX2_tellAge_73 6 rfl rfl ?_
          refine ev_ishl (q := 76) dX2_tellAge_75 rfl ?_
          refine ev_isub (q := 77) dX2_tellAge_76 rfl ?_
          refine ev_iald (q := 78) dX2_tellAge_77 rfl (kr_2_2 ho) (fun z12 => ?_)
          refine ev_iadd (q := 79) dX2_tellAge_78 rfl ?_
          refine ev_istore (q := 81) (lv2 := [(5, .int _), (0, .ref _), (1, .ref _), (2, .int _), (3, .int _), (4, .int _), (6, .int _)]) dX2_tellAge_79 rfl (Nat.le_of_ble_eq_true rfl) rfl ?_
          refine ev_sub (lv' := [(0, .ref _), (1, .ref _), (2, .int _), (3, .int _), (4, .int _), (5, .int _), (6, .int _)]) [1, 2, 3, 4, 5, 0, 6] rfl ?_
          exact X2_tellAge_b81_ok G o p1 ho hp1  k4 hk4 (X2_tellAge_b30 o p1 k4 n) ih _ _ _ _ _ _
        · exact X2_tellAge_b81_ok G o p1 ho hp1  k4 hk4 (X2_tellAge_b30 o p1 k4 n) ih _ _ _ _ _ _
    · refine ev_aload_n (q := 88) dX2_tellAge_87 rfl 0 rfl rfl ?_
      refine ev_getR (q := 91) (ci := 2) (j := 2) (T := TX2) dX2_tellAge_88 rfl cf_2 ho hj_2_2 hc_2 gf_X2_18 rfl ?_
      refine ev_iload (q := 93) dX2_tellAge_91 4 rfl rfl ?_
      refine ev_iload (q := 95) dX2_tellAge_93 5 rfl rfl ?_
      refine ev_iast (q := 96) dX2_tellAge_95 rfl (kr_2_2 ho) (fun m5 => ?_)
      refine ev_iinc (q := 99) (lv2 := [(4, .int _), (0, .ref _), (1, .ref _), (2, .int _), (3, .int _), (5, .int _), (6, .int _)]) (v := x4 + (-1)) dX2_tellAge_96 4 rfl rfl (congrArg (HAdd.hAdd _) li_m1) (Nat.le_of_ble_eq_true rfl) rfl ?_
      refine ev_goto (t := 4) dX2_tellAge_99 rfl ?_
      refine ev_sub (lv' := [(0, .ref _), (1, .ref _), (2, .int _), (3, .int _), (4, .int _)]) [1, 2, 3, 4, 0] rfl ?_
      exact hk4 _ _ _ _
set_option maxRecDepth 100000 in
set_option maxHeartbeats 4000000 in
theorem X2_tellAge_b25_ok (G : Gt) (o : Nat) (p1 : Nat) (ho : kd o = 2) (hp1 : kd p1 = 3)   (k4 : Int32 → Int32 → Int32 → Mem → Option (Unit × Mem)) (hk4 : ∀ (x2 : Int32) (x3 : Int32) (x4 : Int32) (mem : Mem), EvR tvU G cX2_tellAge 7 none RX2 4 4 [(0, .ref (gA G o)), (1, .ref (gA G p1)), (2, .int (x2)), (3, .int (x3)), (4, .int (x4))] [] mem (k4 x2 x3 x4 mem)) (x2 : Int32) (x3 : Int32) (x4 : Int32) (s0 : Int32) (mem : Mem) : EvR tvU G cX2_tellAge 7 none RX2 4 25 [(0, .ref (gA G o)), (1, .ref (gA G p1)), (2, .int (x2)), (3, .int (x3)), (4, .int (x4))] [.int (s0)] mem (X2_tellAge_b25 o p1 k4 x2 x3 x4 s0 mem) := by
  unfold X2_tellAge_b25
  refine ev_istore (q := 27) (lv2 := [(5, .int _), (0, .ref _), (1, .ref _), (2, .int _), (3, .int _), (4, .int _)]) dX2_tellAge_25 rfl (Nat.le_of_ble_eq_true rfl) rfl ?_
  refine ev_iconst (q := 28) (v := 0) dX2_tellAge_27 rfl li_0 ?_
  refine ev_istore (q := 30) (lv2 := [(6, .int _), (5, .int _), (0, .ref _), (1, .ref _), (2, .int _), (3, .int _), (4, .int _)]) dX2_tellAge_28 rfl (Nat.le_of_ble_eq_true rfl) rfl ?_
  refine ev_sub (lv' := [(0, .ref _), (1, .ref _), (2, .int _), (3, .int _), (4, .int _), (5, .int _), (6, .int _)]) [2, 3, 4, 5, 6, 1, 0] rfl ?_
  exact X2_tellAge_b30_ok G o p1 ho hp1  k4 hk4 fu _ _ _ _ _ _
set_option maxRecDepth 100000 in
set_option maxHeartbeats 4000000 in
theorem X2_tellAge_b4_ok (G : Gt) (o : Nat) (p1 : Nat) (ho : kd o = 2) (hp1 : kd p1 = 3)    : ∀ (n : Nat) (x2 : Int32) (x3 : Int32) (x4 : Int32) (mem : Mem), EvR tvU G cX2_tellAge 7 none RX2 4 4 [(0, .ref (gA G o)), (1, .ref (gA G p1)), (2, .int (x2)), (3, .int (x3)), (4, .int (x4))] [] mem (X2_tellAge_b4 o p1 n x2 x3 x4 mem) := by
  intro n
  induction n with
  | zero => intros; exact ev_none
  | succ n ih =>
    intro x2 x3 x4 mem
    rw [X2_tellAge_b4]
    refine ev_iload (q := 6) dX2_tellAge_4 4 rfl rfl ?_
    refine ev_if_lt (t := 102) (q := 9) dX2_tellAge_6 rfl rfl (fun hc1 => ?_) (fun hc1 => ?_)
    · exact ev_vret dX2_tellAge_102 rfl
    · refine ev_iload_n (q := 10) dX2_tellAge_9 rfl 2 rfl rfl ?_
      refine ev_iload_n (q := 11) dX2_tellAge_10 rfl 3 rfl rfl ?_
      refine ev_icmp_ne (t := 24) (q := 14) dX2_tellAge_11 rfl rfl (fun hc2 => ?_) (fun hc2 => ?_)
      · refine ev_aload_n (q := 15) dX2_tellAge_14 rfl 0 rfl rfl ?_
        refine ev_getR (q := 18) (ci := 2) (j := 2) (T := TX2) dX2_tellAge_15 rfl cf_2 ho hj_2_2 hc_2 gf_X2_18 rfl ?_
        refine ev_iload (q := 20) dX2_tellAge_18 4 rfl rfl ?_
        refine ev_iald (q := 21) dX2_tellAge_20 rfl (kr_2_2 ho) (fun z3 => ?_)
        refine ev_goto (t := 25) dX2_tellAge_21 rfl ?_
        exact X2_tellAge_b25_ok G o p1 ho hp1  (X2_tellAge_b4 o p1 n) ih _ _ _ _ _
      · refine ev_iconst (q := 25) (v := 0) dX2_tellAge_24 rfl li_0 ?_
        exact X2_tellAge_b25_ok G o p1 ho hp1  (X2_tellAge_b4 o p1 n) ih _ _ _ _ _
set_option maxRecDepth 100000 in
set_option maxHeartbeats 4000000 in
theorem con_X2_tellAge (G : Gt) (o : Nat) (p1 : Nat) (a2 : Int32) (a3 : Int32) (ho : kd o = 2) (hp1 : kd p1 = 3) (mem : Mem) : Con tvU G yX2_tellAge cX2_tellAge 7 none 4 [.ref (gA G o), .ref (gA G p1), .int a2, .int a3] mem (X2_tellAge o p1 a2 a3 mem) := by
  refine con_of (by decide) (Nat.le_of_ble_eq_true rfl) ?_
  show EvR tvU G cX2_tellAge 7 none RX2 4 0 [(0, .ref (gA G o)), (1, .ref (gA G p1)), (2, .int (a2)), (3, .int (a3))] [] mem _
  unfold X2_tellAge
  refine ev_bipush (q := 2) (v := 63) dX2_tellAge_0 rfl lb_63 ?_
  refine ev_istore (q := 4) (lv2 := [(4, .int _), (0, .ref _), (1, .ref _), (2, .int _), (3, .int _)]) dX2_tellAge_2 rfl (Nat.le_of_ble_eq_true rfl) rfl ?_
  refine ev_sub (lv' := [(0, .ref _), (1, .ref _), (2, .int _), (3, .int _), (4, .int _)]) [1, 2, 3, 4, 0] rfl ?_
  exact X2_tellAge_b4_ok G o p1 ho hp1   fu _ _ _ _
/-! AgingLetters$Foretold.waysToRead()I -/
theorem dX2_waysToRead_0 : decode cX2_waysToRead 0 = .ok (.iconst 0, 1) := by decide +kernel
theorem dX2_waysToRead_1 : decode cX2_waysToRead 1 = .ok (.istore_n 1, 1) := by decide +kernel
theorem dX2_waysToRead_2 : decode cX2_waysToRead 2 = .ok (.iconst 0, 1) := by decide +kernel
theorem dX2_waysToRead_3 : decode cX2_waysToRead 3 = .ok (.istore_n 2, 1) := by decide +kernel
theorem dX2_waysToRead_4 : decode cX2_waysToRead 4 = .ok (.iload_n 2, 1) := by decide +kernel
theorem dX2_waysToRead_5 : decode cX2_waysToRead 5 = .ok (.bipush 64, 2) := by decide +kernel
theorem dX2_waysToRead_7 : decode cX2_waysToRead 7 = .ok (.if_icmp .ge 18, 3) := by decide +kernel
theorem dX2_waysToRead_10 : decode cX2_waysToRead 10 = .ok (.iload_n 1, 1) := by decide +kernel
theorem dX2_waysToRead_11 : decode cX2_waysToRead 11 = .ok (.aload_n 0, 1) := by decide +kernel
theorem dX2_waysToRead_12 : decode cX2_waysToRead 12 = .ok (.getfield 18, 3) := by decide +kernel
theorem dX2_waysToRead_15 : decode cX2_waysToRead 15 = .ok (.iload_n 2, 1) := by decide +kernel
theorem dX2_waysToRead_16 : decode cX2_waysToRead 16 = .ok (.iaload, 1) := by decide +kernel
theorem dX2_waysToRead_17 : decode cX2_waysToRead 17 = .ok (.iadd, 1) := by decide +kernel
theorem dX2_waysToRead_18 : decode cX2_waysToRead 18 = .ok (.istore_n 1, 1) := by decide +kernel
theorem dX2_waysToRead_19 : decode cX2_waysToRead 19 = .ok (.iinc 2 1, 3) := by decide +kernel
theorem dX2_waysToRead_22 : decode cX2_waysToRead 22 = .ok (.goto (-18), 3) := by decide +kernel
theorem dX2_waysToRead_25 : decode cX2_waysToRead 25 = .ok (.iload_n 1, 1) := by decide +kernel
theorem dX2_waysToRead_26 : decode cX2_waysToRead 26 = .ok (.ireturn, 1) := by decide +kernel
set_option maxRecDepth 100000 in
set_option maxHeartbeats 4000000 in
theorem X2_waysToRead_b4_ok (G : Gt) (o : Nat) (ho : kd o = 2)    : ∀ (n : Nat) (x1 : Int32) (x2 : Int32) (mem : Mem), EvR tvI G cX2_waysToRead 3 (some .int) RX2 1 4 [(0, .ref (gA G o)), (1, .int (x1)), (2, .int (x2))] [] mem (X2_waysToRead_b4 o n x1 x2 mem) := by
  intro n
  induction n with
  | zero => intros; exact ev_none
  | succ n ih =>
    intro x1 x2 mem
    rw [X2_waysToRead_b4]
    refine ev_iload_n (q := 5) dX2_waysToRead_4 rfl 2 rfl rfl ?_
    refine ev_bipush (q := 7) (v := 64) dX2_waysToRead_5 rfl lb_64 ?_
    refine ev_icmp_ge (t := 25) (q := 10) dX2_waysToRead_7 rfl rfl (fun hc1 => ?_) (fun hc1 => ?_)
    · refine ev_iload_n (q := 11) dX2_waysToRead_10 rfl 1 rfl rfl ?_
      refine ev_aload_n (q := 12) dX2_waysToRead_11 rfl 0 rfl rfl ?_
      refine ev_getR (q := 15) (ci := 2) (j := 2) (T := TX2) dX2_waysToRead_12 rfl cf_2 ho hj_2_2 hc_2 gf_X2_18 rfl ?_
      refine ev_iload_n (q := 16) dX2_waysToRead_15 rfl 2 rfl rfl ?_
      refine ev_iald (q := 17) dX2_waysToRead_16 rfl (kr_2_2 ho) (fun z2 => ?_)
      refine ev_iadd (q := 18) dX2_waysToRead_17 rfl ?_
      refine ev_istore_n (q := 19) (lv2 := [(1, .int _), (0, .ref _), (2, .int _)]) dX2_waysToRead_18 rfl rfl (Nat.le_of_ble_eq_true rfl) rfl ?_
      refine ev_iinc (q := 22) (lv2 := [(2, .int _), (1, .int _), (0, .ref _)]) (v := x2 + 1) dX2_waysToRead_19 2 rfl rfl (congrArg (HAdd.hAdd _) li_1) (Nat.le_of_ble_eq_true rfl) rfl ?_
      refine ev_goto (t := 4) dX2_waysToRead_22 rfl ?_
      refine ev_sub (lv' := [(0, .ref _), (1, .int _), (2, .int _)]) [2, 1, 0] rfl ?_
      exact ih _ _ _
    · refine ev_iload_n (q := 26) dX2_waysToRead_25 rfl 1 rfl rfl ?_
      exact ev_iret dX2_waysToRead_26 rfl
set_option maxRecDepth 100000 in
set_option maxHeartbeats 4000000 in
theorem con_X2_waysToRead (G : Gt) (o : Nat) (ho : kd o = 2) (mem : Mem) : Con tvI G yX2_waysToRead cX2_waysToRead 3 (some .int) 1 [.ref (gA G o)] mem (X2_waysToRead o mem) := by
  refine con_of (by decide) (Nat.le_of_ble_eq_true rfl) ?_
  show EvR tvI G cX2_waysToRead 3 (some .int) RX2 1 0 [(0, .ref (gA G o))] [] mem _
  unfold X2_waysToRead
  refine ev_iconst (q := 1) (v := 0) dX2_waysToRead_0 rfl li_0 ?_
  refine ev_istore_n (q := 2) (lv2 := [(1, .int _), (0, .ref _)]) dX2_waysToRead_1 rfl rfl (Nat.le_of_ble_eq_true rfl) rfl ?_
  refine ev_iconst (q := 3) (v := 0) dX2_waysToRead_2 rfl li_0 ?_
  refine ev_istore_n (q := 4) (lv2 := [(2, .int _), (1, .int _), (0, .ref _)]) dX2_waysToRead_3 rfl rfl (Nat.le_of_ble_eq_true rfl) rfl ?_
  refine ev_sub (lv' := [(0, .ref _), (1, .int _), (2, .int _)]) [2, 1, 0] rfl ?_
  exact X2_waysToRead_b4_ok G o ho   fu _ _ _
/-! AgingLetters$Office.unreadDueAhead(I)I -/
theorem dX3_unreadDueAhead_0 : decode cX3_unreadDueAhead 0 = .ok (.iconst 0, 1) := by decide +kernel
theorem dX3_unreadDueAhead_1 : decode cX3_unreadDueAhead 1 = .ok (.istore_n 2, 1) := by decide +kernel
theorem dX3_unreadDueAhead_2 : decode cX3_unreadDueAhead 2 = .ok (.iconst 0, 1) := by decide +kernel
theorem dX3_unreadDueAhead_3 : decode cX3_unreadDueAhead 3 = .ok (.istore_n 3, 1) := by decide +kernel
theorem dX3_unreadDueAhead_4 : decode cX3_unreadDueAhead 4 = .ok (.iload_n 3, 1) := by decide +kernel
theorem dX3_unreadDueAhead_5 : decode cX3_unreadDueAhead 5 = .ok (.aload_n 0, 1) := by decide +kernel
theorem dX3_unreadDueAhead_6 : decode cX3_unreadDueAhead 6 = .ok (.getfield 47, 3) := by decide +kernel
theorem dX3_unreadDueAhead_9 : decode cX3_unreadDueAhead 9 = .ok (.if_icmp .ge 33, 3) := by decide +kernel
theorem dX3_unreadDueAhead_12 : decode cX3_unreadDueAhead 12 = .ok (.aload_n 0, 1) := by decide +kernel
theorem dX3_unreadDueAhead_13 : decode cX3_unreadDueAhead 13 = .ok (.iload_n 3, 1) := by decide +kernel
theorem dX3_unreadDueAhead_14 : decode cX3_unreadDueAhead 14 = .ok (.invokevirtual 83, 3) := by decide +kernel
theorem dX3_unreadDueAhead_17 : decode cX3_unreadDueAhead 17 = .ok (.ifCond .ne 19, 3) := by decide +kernel
theorem dX3_unreadDueAhead_20 : decode cX3_unreadDueAhead 20 = .ok (.aload_n 0, 1) := by decide +kernel
theorem dX3_unreadDueAhead_21 : decode cX3_unreadDueAhead 21 = .ok (.getfield 18, 3) := by decide +kernel
theorem dX3_unreadDueAhead_24 : decode cX3_unreadDueAhead 24 = .ok (.iload_n 3, 1) := by decide +kernel
theorem dX3_unreadDueAhead_25 : decode cX3_unreadDueAhead 25 = .ok (.iaload, 1) := by decide +kernel
theorem dX3_unreadDueAhead_26 : decode cX3_unreadDueAhead 26 = .ok (.iload_n 1, 1) := by decide +kernel
theorem dX3_unreadDueAhead_27 : decode cX3_unreadDueAhead 27 = .ok (.if_icmp .ge 9, 3) := by decide +kernel
theorem dX3_unreadDueAhead_30 : decode cX3_unreadDueAhead 30 = .ok (.iload_n 2, 1) := by decide +kernel
theorem dX3_unreadDueAhead_31 : decode cX3_unreadDueAhead 31 = .ok (.iconst 1, 1) := by decide +kernel
theorem dX3_unreadDueAhead_32 : decode cX3_unreadDueAhead 32 = .ok (.iload_n 3, 1) := by decide +kernel
theorem dX3_unreadDueAhead_33 : decode cX3_unreadDueAhead 33 = .ok (.ishl, 1) := by decide +kernel
theorem dX3_unreadDueAhead_34 : decode cX3_unreadDueAhead 34 = .ok (.ior, 1) := by decide +kernel
theorem dX3_unreadDueAhead_35 : decode cX3_unreadDueAhead 35 = .ok (.istore_n 2, 1) := by decide +kernel
theorem dX3_unreadDueAhead_36 : decode cX3_unreadDueAhead 36 = .ok (.iinc 3 1, 3) := by decide +kernel
theorem dX3_unreadDueAhead_39 : decode cX3_unreadDueAhead 39 = .ok (.goto (-35), 3) := by decide +kernel
theorem dX3_unreadDueAhead_42 : decode cX3_unreadDueAhead 42 = .ok (.iload_n 2, 1) := by decide +kernel
theorem dX3_unreadDueAhead_43 : decode cX3_unreadDueAhead 43 = .ok (.ireturn, 1) := by decide +kernel
set_option maxRecDepth 100000 in
set_option maxHeartbeats 4000000 in
theorem X3_unreadDueAhead_b36_ok (G : Gt) (o : Nat) (ho : kd o = 3)   (k4 : Int32 → Int32 → Int32 → Mem → Option (Int32 × Mem)) (hk4 : ∀ (x1 : Int32) (x2 : Int32) (x3 : Int32) (mem : Mem), EvR tvI G cX3_unreadDueAhead 4 (some .int) RX3 3 4 [(0, .ref (gA G o)), (1, .int (x1)), (2, .int (x2)), (3, .int (x3))] [] mem (k4 x1 x2 x3 mem)) (x1 : Int32) (x2 : Int32) (x3 : Int32) (mem : Mem) : EvR tvI G cX3_unreadDueAhead 4 (some .int) RX3 3 36 [(0, .ref (gA G o)), (1, .int (x1)), (2, .int (x2)), (3, .int (x3))] [] mem (X3_unreadDueAhead_b36 o k4 x1 x2 x3 mem) := by
  unfold X3_unreadDueAhead_b36
  refine ev_iinc (q := 39) (lv2 := [(3, .int _), (0, .ref _), (1, .int _), (2, .int _)]) (v := x3 + 1) dX3_unreadDueAhead_36 3 rfl rfl (congrArg (HAdd.hAdd _) li_1) (Nat.le_of_ble_eq_true rfl) rfl ?_
  refine ev_goto (t := 4) dX3_unreadDueAhead_39 rfl ?_
  refine ev_sub (lv' := [(0, .ref _), (1, .int _), (2, .int _), (3, .int _)]) [1, 2, 3, 0] rfl ?_
  exact hk4 _ _ _ _
set_option maxRecDepth 100000 in
set_option maxHeartbeats 4000000 in
theorem X3_unreadDueAhead_b4_ok (G : Gt) (o : Nat) (ho : kd o = 3)    : ∀ (n : Nat) (x1 : Int32) (x2 : Int32) (x3 : Int32) (mem : Mem), EvR tvI G cX3_unreadDueAhead 4 (some .int) RX3 3 4 [(0, .ref (gA G o)), (1, .int (x1)), (2, .int (x2)), (3, .int (x3))] [] mem (X3_unreadDueAhead_b4 o n x1 x2 x3 mem) := by
  intro n
  induction n with
  | zero => intros; exact ev_none
  | succ n ih =>
    intro x1 x2 x3 mem
    rw [X3_unreadDueAhead_b4]
    refine ev_iload_n (q := 5) dX3_unreadDueAhead_4 rfl 3 rfl rfl ?_
    refine ev_aload_n (q := 6) dX3_unreadDueAhead_5 rfl 0 rfl rfl ?_
    refine ev_getI (q := 9) (ci := 3) (j := 3) (T := TX3) dX3_unreadDueAhead_6 rfl cf_3 ho hj_3_3 hc_3 gf_X3_47 rfl ?_
    refine ev_icmp_ge (t := 42) (q := 12) dX3_unreadDueAhead_9 rfl rfl (fun hc1 => ?_) (fun hc1 => ?_)
    · refine ev_aload_n (q := 13) dX3_unreadDueAhead_12 rfl 0 rfl rfl ?_
      refine ev_iload_n (q := 14) dX3_unreadDueAhead_13 rfl 3 rfl rfl ?_
      refine ev_callVI (q := 17) dX3_unreadDueAhead_14 rfl ml_X3_83 mt_X3_readersOf cf_3 rfl ho hc_3 (con_X3_readersOf G _ _ ho _) rfl (Nat.le_of_ble_eq_true rfl) (Nat.le_of_ble_eq_true rfl) rfl (Nat.le_of_ble_eq_true rfl) (fun r2 m3 => ?_)
      refine ev_if_ne (t := 36) (q := 20) dX3_unreadDueAhead_17 rfl rfl (fun hc4 => ?_) (fun hc4 => ?_)
      · refine ev_aload_n (q := 21) dX3_unreadDueAhead_20 rfl 0 rfl rfl ?_
        refine ev_getR (q := 24) (ci := 3) (j := 6) (T := TX3) dX3_unreadDueAhead_21 rfl cf_3 ho hj_3_6 hc_3 gf_X3_18 rfl ?_
        refine ev_iload_n (q := 25) dX3_unreadDueAhead_24 rfl 3 rfl rfl ?_
        refine ev_iald (q := 26) dX3_unreadDueAhead_25 rfl (kr_3_6 ho) (fun z5 => ?_)
        refine ev_iload_n (q := 27) dX3_unreadDueAhead_26 rfl 1 rfl rfl ?_
        refine ev_icmp_ge (t := 36) (q := 30) dX3_unreadDueAhead_27 rfl rfl (fun hc6 => ?_) (fun hc6 => ?_)
        · refine ev_iload_n (q := 31) dX3_unreadDueAhead_30 rfl 2 rfl rfl ?_
          refine ev_iconst (q := 32) (v := 1) dX3_unreadDueAhead_31 rfl li_1 ?_
          refine ev_iload_n (q := 33) dX3_unreadDueAhead_32 rfl 3 rfl rfl ?_
          refine ev_ishl (q := 34) dX3_unreadDueAhead_33 rfl ?_
          refine ev_ior (q := 35) dX3_unreadDueAhead_34 rfl ?_
          refine ev_istore_n (q := 36) (lv2 := [(2, .int _), (0, .ref _), (1, .int _), (3, .int _)]) dX3_unreadDueAhead_35 rfl rfl (Nat.le_of_ble_eq_true rfl) rfl ?_
          refine ev_sub (lv' := [(0, .ref _), (1, .int _), (2, .int _), (3, .int _)]) [1, 2, 0, 3] rfl ?_
          exact X3_unreadDueAhead_b36_ok G o ho  (X3_unreadDueAhead_b4 o n) ih _ _ _ _
        · exact X3_unreadDueAhead_b36_ok G o ho  (X3_unreadDueAhead_b4 o n) ih _ _ _ _
      · exact X3_unreadDueAhead_b36_ok G o ho  (X3_unreadDueAhead_b4 o n) ih _ _ _ _
    · refine ev_iload_n (q := 43) dX3_unreadDueAhead_42 rfl 2 rfl rfl ?_
      exact ev_iret dX3_unreadDueAhead_43 rfl
set_option maxRecDepth 100000 in
set_option maxHeartbeats 4000000 in
theorem con_X3_unreadDueAhead (G : Gt) (o : Nat) (a1 : Int32) (ho : kd o = 3) (mem : Mem) : Con tvI G yX3_unreadDueAhead cX3_unreadDueAhead 4 (some .int) 3 [.ref (gA G o), .int a1] mem (X3_unreadDueAhead o a1 mem) := by
  refine con_of (by decide) (Nat.le_of_ble_eq_true rfl) ?_
  show EvR tvI G cX3_unreadDueAhead 4 (some .int) RX3 3 0 [(0, .ref (gA G o)), (1, .int (a1))] [] mem _
  unfold X3_unreadDueAhead
  refine ev_iconst (q := 1) (v := 0) dX3_unreadDueAhead_0 rfl li_0 ?_
  refine ev_istore_n (q := 2) (lv2 := [(2, .int _), (0, .ref _), (1, .int _)]) dX3_unreadDueAhead_1 rfl rfl (Nat.le_of_ble_eq_true rfl) rfl ?_
  refine ev_iconst (q := 3) (v := 0) dX3_unreadDueAhead_2 rfl li_0 ?_
  refine ev_istore_n (q := 4) (lv2 := [(3, .int _), (2, .int _), (0, .ref _), (1, .int _)]) dX3_unreadDueAhead_3 rfl rfl (Nat.le_of_ble_eq_true rfl) rfl ?_
  refine ev_sub (lv' := [(0, .ref _), (1, .int _), (2, .int _), (3, .int _)]) [2, 3, 1, 0] rfl ?_
  exact X3_unreadDueAhead_b4_ok G o ho   fu _ _ _ _
/-! AgingLetters$Office.unreadLetters()I -/
theorem dX3_unreadLetters_0 : decode cX3_unreadLetters 0 = .ok (.aload_n 0, 1) := by decide +kernel
theorem dX3_unreadLetters_1 : decode cX3_unreadLetters 1 = .ok (.bipush 100, 2) := by decide +kernel
theorem dX3_unreadLetters_3 : decode cX3_unreadLetters 3 = .ok (.invokevirtual 79, 3) := by decide +kernel
theorem dX3_unreadLetters_6 : decode cX3_unreadLetters 6 = .ok (.ireturn, 1) := by decide +kernel
set_option maxRecDepth 100000 in
set_option maxHeartbeats 4000000 in
theorem con_X3_unreadLetters (G : Gt) (o : Nat) (ho : kd o = 3) (mem : Mem) : Con tvI G yX3_unreadLetters cX3_unreadLetters 1 (some .int) 4 [.ref (gA G o)] mem (X3_unreadLetters o mem) := by
  refine con_of (by decide) (Nat.le_of_ble_eq_true rfl) ?_
  show EvR tvI G cX3_unreadLetters 1 (some .int) RX3 4 0 [(0, .ref (gA G o))] [] mem _
  unfold X3_unreadLetters
  refine ev_aload_n (q := 1) dX3_unreadLetters_0 rfl 0 rfl rfl ?_
  refine ev_bipush (q := 3) (v := 100) dX3_unreadLetters_1 rfl lb_100 ?_
  refine ev_callVI (q := 6) dX3_unreadLetters_3 rfl ml_X3_79 mt_X3_unreadDueAhead cf_3 rfl ho hc_3 (con_X3_unreadDueAhead G _ _ ho _) rfl (Nat.le_of_ble_eq_true rfl) (Nat.le_of_ble_eq_true rfl) rfl (Nat.le_of_ble_eq_true rfl) (fun r1 m2 => ?_)
  exact ev_iret dX3_unreadLetters_6 rfl
/-! AgingLetters$Foretold.power(II)I -/
theorem dX2_power_0 : decode cX2_power 0 = .ok (.iconst 1, 1) := by decide +kernel
theorem dX2_power_1 : decode cX2_power 1 = .ok (.istore_n 3, 1) := by decide +kernel
theorem dX2_power_2 : decode cX2_power 2 = .ok (.iconst 0, 1) := by decide +kernel
theorem dX2_power_3 : decode cX2_power 3 = .ok (.istore 4, 2) := by decide +kernel
theorem dX2_power_5 : decode cX2_power 5 = .ok (.iload 4, 2) := by decide +kernel
theorem dX2_power_7 : decode cX2_power 7 = .ok (.iload_n 2, 1) := by decide +kernel
theorem dX2_power_8 : decode cX2_power 8 = .ok (.if_icmp .ge 13, 3) := by decide +kernel
theorem dX2_power_11 : decode cX2_power 11 = .ok (.iload_n 3, 1) := by decide +kernel
theorem dX2_power_12 : decode cX2_power 12 = .ok (.iload_n 1, 1) := by decide +kernel
theorem dX2_power_13 : decode cX2_power 13 = .ok (.imul, 1) := by decide +kernel
theorem dX2_power_14 : decode cX2_power 14 = .ok (.istore_n 3, 1) := by decide +kernel
theorem dX2_power_15 : decode cX2_power 15 = .ok (.iinc 4 1, 3) := by decide +kernel
theorem dX2_power_18 : decode cX2_power 18 = .ok (.goto (-13), 3) := by decide +kernel
theorem dX2_power_21 : decode cX2_power 21 = .ok (.iload_n 3, 1) := by decide +kernel
theorem dX2_power_22 : decode cX2_power 22 = .ok (.ireturn, 1) := by decide +kernel
set_option maxRecDepth 100000 in
set_option maxHeartbeats 4000000 in
theorem X2_power_b5_ok (G : Gt) (o : Nat) (ho : kd o = 2)    : ∀ (n : Nat) (x1 : Int32) (x2 : Int32) (x3 : Int32) (x4 : Int32) (mem : Mem), EvR tvI G cX2_power 5 (some .int) RX2 1 5 [(1, .int (x1)), (2, .int (x2)), (3, .int (x3)), (4, .int (x4))] [] mem (X2_power_b5 o n x1 x2 x3 x4 mem) := by
  intro n
  induction n with
  | zero => intros; exact ev_none
  | succ n ih =>
    intro x1 x2 x3 x4 mem
    rw [X2_power_b5]
    refine ev_iload (q := 7) dX2_power_5 3 rfl rfl ?_
    refine ev_iload_n (q := 8) dX2_power_7 rfl 1 rfl rfl ?_
    refine ev_icmp_ge (t := 21) (q := 11) dX2_power_8 rfl rfl (fun hc1 => ?_) (fun hc1 => ?_)
    · refine ev_iload_n (q := 12) dX2_power_11 rfl 2 rfl rfl ?_
      refine ev_iload_n (q := 13) dX2_power_12 rfl 0 rfl rfl ?_
      refine ev_imul (q := 14) dX2_power_13 rfl ?_
      refine ev_istore_n (q := 15) (lv2 := [(3, .int _), (1, .int _), (2, .int _), (4, .int _)]) dX2_power_14 rfl rfl (Nat.le_of_ble_eq_true rfl) rfl ?_
      refine ev_iinc (q := 18) (lv2 := [(4, .int _), (3, .int _), (1, .int _), (2, .int _)]) (v := x4 + 1) dX2_power_15 3 rfl rfl (congrArg (HAdd.hAdd _) li_1) (Nat.le_of_ble_eq_true rfl) rfl ?_
      refine ev_goto (t := 5) dX2_power_18 rfl ?_
      refine ev_sub (lv' := [(1, .int _), (2, .int _), (3, .int _), (4, .int _)]) [2, 3, 1, 0] rfl ?_
      exact ih _ _ _ _ _
    · refine ev_iload_n (q := 22) dX2_power_21 rfl 2 rfl rfl ?_
      exact ev_iret dX2_power_22 rfl
set_option maxRecDepth 100000 in
set_option maxHeartbeats 4000000 in
theorem con_X2_power (G : Gt) (o : Nat) (a1 : Int32) (a2 : Int32) (ho : kd o = 2) (mem : Mem) : Con tvI G yX2_power cX2_power 5 (some .int) 1 [.ref (gA G o), .int a1, .int a2] mem (X2_power o a1 a2 mem) := by
  refine con_of (by decide) (Nat.le_of_ble_eq_true rfl) ?_
  show EvR tvI G cX2_power 5 (some .int) RX2 1 0 [(0, .ref (gA G o)), (1, .int (a1)), (2, .int (a2))] [] mem _
  unfold X2_power
  refine ev_iconst (q := 1) (v := 1) dX2_power_0 rfl li_1 ?_
  refine ev_istore_n (q := 2) (lv2 := [(3, .int _), (0, .ref _), (1, .int _), (2, .int _)]) dX2_power_1 rfl rfl (Nat.le_of_ble_eq_true rfl) rfl ?_
  refine ev_iconst (q := 3) (v := 0) dX2_power_2 rfl li_0 ?_
  refine ev_istore (q := 5) (lv2 := [(4, .int _), (3, .int _), (0, .ref _), (1, .int _), (2, .int _)]) dX2_power_3 rfl (Nat.le_of_ble_eq_true rfl) rfl ?_
  refine ev_sub (lv' := [(1, .int _), (2, .int _), (3, .int _), (4, .int _)]) [3, 4, 1, 0] rfl ?_
  exact X2_power_b5_ok G o ho   fu _ _ _ _ _
/-! AgingLetters$Foretold.weightOfSurviving(LAgingLetters$Office;II)I -/
theorem dX2_weightOfSurviving_0 : decode cX2_weightOfSurviving 0 = .ok (.aload_n 1, 1) := by decide +kernel
theorem dX2_weightOfSurviving_1 : decode cX2_weightOfSurviving 1 = .ok (.invokevirtual 97, 3) := by decide +kernel
theorem dX2_weightOfSurviving_4 : decode cX2_weightOfSurviving 4 = .ok (.istore 4, 2) := by decide +kernel
theorem dX2_weightOfSurviving_6 : decode cX2_weightOfSurviving 6 = .ok (.iconst 0, 1) := by decide +kernel
theorem dX2_weightOfSurviving_7 : decode cX2_weightOfSurviving 7 = .ok (.istore 5, 2) := by decide +kernel
theorem dX2_weightOfSurviving_9 : decode cX2_weightOfSurviving 9 = .ok (.iconst 0, 1) := by decide +kernel
theorem dX2_weightOfSurviving_10 : decode cX2_weightOfSurviving 10 = .ok (.istore 6, 2) := by decide +kernel
theorem dX2_weightOfSurviving_12 : decode cX2_weightOfSurviving 12 = .ok (.iload 6, 2) := by decide +kernel
theorem dX2_weightOfSurviving_14 : decode cX2_weightOfSurviving 14 = .ok (.iconst 1, 1) := by decide +kernel
theorem dX2_weightOfSurviving_15 : decode cX2_weightOfSurviving 15 = .ok (.aload_n 1, 1) := by decide +kernel
theorem dX2_weightOfSurviving_16 : decode cX2_weightOfSurviving 16 = .ok (.getfield 68, 3) := by decide +kernel
theorem dX2_weightOfSurviving_19 : decode cX2_weightOfSurviving 19 = .ok (.ishl, 1) := by decide +kernel
theorem dX2_weightOfSurviving_20 : decode cX2_weightOfSurviving 20 = .ok (.if_icmp .ge 72, 3) := by decide +kernel
theorem dX2_weightOfSurviving_23 : decode cX2_weightOfSurviving 23 = .ok (.iload 6, 2) := by decide +kernel
theorem dX2_weightOfSurviving_25 : decode cX2_weightOfSurviving 25 = .ok (.iload 4, 2) := by decide +kernel
theorem dX2_weightOfSurviving_27 : decode cX2_weightOfSurviving 27 = .ok (.iconst (-1), 1) := by decide +kernel
theorem dX2_weightOfSurviving_28 : decode cX2_weightOfSurviving 28 = .ok (.ixor, 1) := by decide +kernel
theorem dX2_weightOfSurviving_29 : decode cX2_weightOfSurviving 29 = .ok (.iand, 1) := by decide +kernel
theorem dX2_weightOfSurviving_30 : decode cX2_weightOfSurviving 30 = .ok (.ifCond .eq 6, 3) := by decide +kernel
theorem dX2_weightOfSurviving_33 : decode cX2_weightOfSurviving 33 = .ok (.goto 53, 3) := by decide +kernel
theorem dX2_weightOfSurviving_36 : decode cX2_weightOfSurviving 36 = .ok (.aload_n 1, 1) := by decide +kernel
theorem dX2_weightOfSurviving_37 : decode cX2_weightOfSurviving 37 = .ok (.iload_n 2, 1) := by decide +kernel
theorem dX2_weightOfSurviving_38 : decode cX2_weightOfSurviving 38 = .ok (.aload_n 1, 1) := by decide +kernel
theorem dX2_weightOfSurviving_39 : decode cX2_weightOfSurviving 39 = .ok (.iload_n 2, 1) := by decide +kernel
theorem dX2_weightOfSurviving_40 : decode cX2_weightOfSurviving 40 = .ok (.iload 6, 2) := by decide +kernel
theorem dX2_weightOfSurviving_42 : decode cX2_weightOfSurviving 42 = .ok (.invokevirtual 85, 3) := by decide +kernel
theorem dX2_weightOfSurviving_45 : decode cX2_weightOfSurviving 45 = .ok (.invokevirtual 42, 3) := by decide +kernel
theorem dX2_weightOfSurviving_48 : decode cX2_weightOfSurviving 48 = .ok (.ifCond .ne 6, 3) := by decide +kernel
theorem dX2_weightOfSurviving_51 : decode cX2_weightOfSurviving 51 = .ok (.goto 35, 3) := by decide +kernel
theorem dX2_weightOfSurviving_54 : decode cX2_weightOfSurviving 54 = .ok (.iload 5, 2) := by decide +kernel
theorem dX2_weightOfSurviving_56 : decode cX2_weightOfSurviving 56 = .ok (.aload_n 0, 1) := by decide +kernel
theorem dX2_weightOfSurviving_57 : decode cX2_weightOfSurviving 57 = .ok (.bipush 10, 2) := by decide +kernel
theorem dX2_weightOfSurviving_59 : decode cX2_weightOfSurviving 59 = .ok (.iload_n 3, 1) := by decide +kernel
theorem dX2_weightOfSurviving_60 : decode cX2_weightOfSurviving 60 = .ok (.isub, 1) := by decide +kernel
theorem dX2_weightOfSurviving_61 : decode cX2_weightOfSurviving 61 = .ok (.iload 6, 2) := by decide +kernel
theorem dX2_weightOfSurviving_63 : decode cX2_weightOfSurviving 63 = .ok (.invokestatic 80, 3) := by decide +kernel
theorem dX2_weightOfSurviving_66 : decode cX2_weightOfSurviving 66 = .ok (.invokevirtual 100, 3) := by decide +kernel
theorem dX2_weightOfSurviving_69 : decode cX2_weightOfSurviving 69 = .ok (.aload_n 0, 1) := by decide +kernel
theorem dX2_weightOfSurviving_70 : decode cX2_weightOfSurviving 70 = .ok (.iload_n 3, 1) := by decide +kernel
theorem dX2_weightOfSurviving_71 : decode cX2_weightOfSurviving 71 = .ok (.iload 4, 2) := by decide +kernel
theorem dX2_weightOfSurviving_73 : decode cX2_weightOfSurviving 73 = .ok (.iload 6, 2) := by decide +kernel
theorem dX2_weightOfSurviving_75 : decode cX2_weightOfSurviving 75 = .ok (.isub, 1) := by decide +kernel
theorem dX2_weightOfSurviving_76 : decode cX2_weightOfSurviving 76 = .ok (.invokestatic 80, 3) := by decide +kernel
theorem dX2_weightOfSurviving_79 : decode cX2_weightOfSurviving 79 = .ok (.invokevirtual 100, 3) := by decide +kernel
theorem dX2_weightOfSurviving_82 : decode cX2_weightOfSurviving 82 = .ok (.imul, 1) := by decide +kernel
theorem dX2_weightOfSurviving_83 : decode cX2_weightOfSurviving 83 = .ok (.iadd, 1) := by decide +kernel
theorem dX2_weightOfSurviving_84 : decode cX2_weightOfSurviving 84 = .ok (.istore 5, 2) := by decide +kernel
theorem dX2_weightOfSurviving_86 : decode cX2_weightOfSurviving 86 = .ok (.iinc 6 1, 3) := by decide +kernel
theorem dX2_weightOfSurviving_89 : decode cX2_weightOfSurviving 89 = .ok (.goto (-77), 3) := by decide +kernel
theorem dX2_weightOfSurviving_92 : decode cX2_weightOfSurviving 92 = .ok (.iload 5, 2) := by decide +kernel
theorem dX2_weightOfSurviving_94 : decode cX2_weightOfSurviving 94 = .ok (.ireturn, 1) := by decide +kernel
set_option maxRecDepth 100000 in
set_option maxHeartbeats 4000000 in
theorem X2_weightOfSurviving_b86_ok (G : Gt) (o : Nat) (p1 : Nat) (ho : kd o = 2) (hp1 : kd p1 = 3)   (k12 : Int32 → Int32 → Int32 → Int32 → Int32 → Mem → Option (Int32 × Mem)) (hk12 : ∀ (x2 : Int32) (x3 : Int32) (x4 : Int32) (x5 : Int32) (x6 : Int32) (mem : Mem), EvR tvI G cX2_weightOfSurviving 7 (some .int) RX2 6 12 [(0, .ref (gA G o)), (1, .ref (gA G p1)), (2, .int (x2)), (3, .int (x3)), (4, .int (x4)), (5, .int (x5)), (6, .int (x6))] [] mem (k12 x2 x3 x4 x5 x6 mem)) (x2 : Int32) (x3 : Int32) (x4 : Int32) (x5 : Int32) (x6 : Int32) (mem : Mem) : EvR tvI G cX2_weightOfSurviving 7 (some .int) RX2 6 86 [(0, .ref (gA G o)), (1, .ref (gA G p1)), (2, .int (x2)), (3, .int (x3)), (4, .int (x4)), (5, .int (x5)), (6, .int (x6))] [] mem (X2_weightOfSurviving_b86 o p1 k12 x2 x3 x4 x5 x6 mem) := by
  unfold X2_weightOfSurviving_b86
  refine ev_iinc (q := 89) (lv2 := [(6, .int _), (0, .ref _), (1, .ref _), (2, .int _), (3, .int _), (4, .int _), (5, .int _)]) (v := x6 + 1) dX2_weightOfSurviving_86 6 rfl rfl (congrArg (HAdd.hAdd _) li_1) (Nat.le_of_ble_eq_true rfl) rfl ?_
  refine ev_goto (t := 12) dX2_weightOfSurviving_89 rfl ?_
  refine ev_sub (lv' := [(0, .ref _), (1, .ref _), (2, .int _), (3, .int _), (4, .int _), (5, .int _), (6, .int _)]) [1, 2, 3, 4, 5, 6, 0] rfl ?_
  exact hk12 _ _ _ _ _ _
set_option maxRecDepth 100000 in
set_option maxHeartbeats 4000000 in
theorem X2_weightOfSurviving_b12_ok (G : Gt) (o : Nat) (p1 : Nat) (ho : kd o = 2) (hp1 : kd p1 = 3)    : ∀ (n : Nat) (x2 : Int32) (x3 : Int32) (x4 : Int32) (x5 : Int32) (x6 : Int32) (mem : Mem), EvR tvI G cX2_weightOfSurviving 7 (some .int) RX2 6 12 [(0, .ref (gA G o)), (1, .ref (gA G p1)), (2, .int (x2)), (3, .int (x3)), (4, .int (x4)), (5, .int (x5)), (6, .int (x6))] [] mem (X2_weightOfSurviving_b12 o p1 n x2 x3 x4 x5 x6 mem) := by
  intro n
  induction n with
  | zero => intros; exact ev_none
  | succ n ih =>
    intro x2 x3 x4 x5 x6 mem
    rw [X2_weightOfSurviving_b12]
    refine ev_iload (q := 14) dX2_weightOfSurviving_12 6 rfl rfl ?_
    refine ev_iconst (q := 15) (v := 1) dX2_weightOfSurviving_14 rfl li_1 ?_
    refine ev_aload_n (q := 16) dX2_weightOfSurviving_15 rfl 1 rfl rfl ?_
    refine ev_getI (q := 19) (ci := 3) (j := 3) (T := TX3) dX2_weightOfSurviving_16 rfl cf_3 hp1 hj_3_3 hc_3 gf_X2_68 rfl ?_
    refine ev_ishl (q := 20) dX2_weightOfSurviving_19 rfl ?_
    refine ev_icmp_ge (t := 92) (q := 23) dX2_weightOfSurviving_20 rfl rfl (fun hc3 => ?_) (fun hc3 => ?_)
    · refine ev_iload (q := 25) dX2_weightOfSurviving_23 6 rfl rfl ?_
      refine ev_iload (q := 27) dX2_weightOfSurviving_25 4 rfl rfl ?_
      refine ev_iconst (q := 28) (v := (-1)) dX2_weightOfSurviving_27 rfl li_m1 ?_
      refine ev_ixor (q := 29) dX2_weightOfSurviving_28 rfl ?_
      refine ev_iand (q := 30) dX2_weightOfSurviving_29 rfl ?_
      refine ev_if_eq (t := 36) (q := 33) dX2_weightOfSurviving_30 rfl rfl (fun hc4 => ?_) (fun hc4 => ?_)
      · refine ev_aload_n (q := 37) dX2_weightOfSurviving_36 rfl 1 rfl rfl ?_
        refine ev_iload_n (q := 38) dX2_weightOfSurviving_37 rfl 2 rfl rfl ?_
        refine ev_aload_n (q := 39) dX2_weightOfSurviving_38 rfl 1 rfl rfl ?_
        refine ev_iload_n (q := 40) dX2_weightOfSurviving_39 rfl 2 rfl rfl ?_
        refine ev_iload (q := 42) dX2_weightOfSurviving_40 6 rfl rfl ?_
        refine ev_callVI (q := 45) dX2_weightOfSurviving_42 rfl ml_X2_85 mt_X3_costOfAll cf_3 rfl hp1 hc_3 (con_X3_costOfAll G _ _ _ hp1 _) rfl (Nat.le_of_ble_eq_true rfl) (Nat.le_of_ble_eq_true rfl) rfl (Nat.le_of_ble_eq_true rfl) (fun r5 m6 => ?_)
        refine ev_callVI (q := 48) dX2_weightOfSurviving_45 rfl ml_X2_42 mt_X3_survives cf_3 rfl hp1 hc_3 (con_X3_survives G _ _ _ hp1 _) rfl (Nat.le_of_ble_eq_true rfl) (Nat.le_of_ble_eq_true rfl) rfl (Nat.le_of_ble_eq_true rfl) (fun r7 m8 => ?_)
        refine ev_if_ne (t := 54) (q := 51) dX2_weightOfSurviving_48 rfl rfl (fun hc9 => ?_) (fun hc9 => ?_)
        · refine ev_goto (t := 86) dX2_weightOfSurviving_51 rfl ?_
          exact X2_weightOfSurviving_b86_ok G o p1 ho hp1  (X2_weightOfSurviving_b12 o p1 n) ih _ _ _ _ _ _
        · refine ev_iload (q := 56) dX2_weightOfSurviving_54 5 rfl rfl ?_
          refine ev_aload_n (q := 57) dX2_weightOfSurviving_56 rfl 0 rfl rfl ?_
          refine ev_bipush (q := 59) (v := 10) dX2_weightOfSurviving_57 rfl lb_10 ?_
          refine ev_iload_n (q := 60) dX2_weightOfSurviving_59 rfl 3 rfl rfl ?_
          refine ev_isub (q := 61) dX2_weightOfSurviving_60 rfl ?_
          refine ev_iload (q := 63) dX2_weightOfSurviving_61 6 rfl rfl ?_
          refine ev_callSI (q := 66) dX2_weightOfSurviving_63 rfl ml_X2_80 mt_J6_bitCount_0f7a4 (con_J6_bitCount_0f7a4 G _  _) rfl (Nat.le_of_ble_eq_true rfl) (Nat.le_of_ble_eq_true rfl) rfl (Nat.le_of_ble_eq_true rfl) (fun r10 m11 => ?_)
          refine ev_callVI (q := 69) dX2_weightOfSurviving_66 rfl ml_X2_100 mt_X2_power cf_2 rfl ho hc_2 (con_X2_power G _ _ _ ho _) rfl (Nat.le_of_ble_eq_true rfl) (Nat.le_of_ble_eq_true rfl) rfl (Nat.le_of_ble_eq_true rfl) (fun r12 m13 => ?_)
          refine ev_aload_n (q := 70) dX2_weightOfSurviving_69 rfl 0 rfl rfl ?_
          refine ev_iload_n (q := 71) dX2_weightOfSurviving_70 rfl 3 rfl rfl ?_
          refine ev_iload (q := 73) dX2_weightOfSurviving_71 4 rfl rfl ?_
          refine ev_iload (q := 75) dX2_weightOfSurviving_73 6 rfl rfl ?_
          refine ev_isub (q := 76) dX2_weightOfSurviving_75 rfl ?_
          refine ev_callSI (q := 79) dX2_weightOfSurviving_76 rfl ml_X2_80 mt_J6_bitCount_0f7a4 (con_J6_bitCount_0f7a4 G _  _) rfl (Nat.le_of_ble_eq_true rfl) (Nat.le_of_ble_eq_true rfl) rfl (Nat.le_of_ble_eq_true rfl) (fun r14 m15 => ?_)
          refine ev_callVI (q := 82) dX2_weightOfSurviving_79 rfl ml_X2_100 mt_X2_power cf_2 rfl ho hc_2 (con_X2_power G _ _ _ ho _) rfl (Nat.le_of_ble_eq_true rfl) (Nat.le_of_ble_eq_true rfl) rfl (Nat.le_of_ble_eq_true rfl) (fun r16 m17 => ?_)
          refine ev_imul (q := 83) dX2_weightOfSurviving_82 rfl ?_
          refine ev_iadd (q := 84) dX2_weightOfSurviving_83 rfl ?_
          refine ev_istore (q := 86) (lv2 := [(5, .int _), (0, .ref _), (1, .ref _), (2, .int _), (3, .int _), (4, .int _), (6, .int _)]) dX2_weightOfSurviving_84 rfl (Nat.le_of_ble_eq_true rfl) rfl ?_
          refine ev_sub (lv' := [(0, .ref _), (1, .ref _), (2, .int _), (3, .int _), (4, .int _), (5, .int _), (6, .int _)]) [1, 2, 3, 4, 5, 0, 6] rfl ?_
          exact X2_weightOfSurviving_b86_ok G o p1 ho hp1  (X2_weightOfSurviving_b12 o p1 n) ih _ _ _ _ _ _
      · refine ev_goto (t := 86) dX2_weightOfSurviving_33 rfl ?_
        exact X2_weightOfSurviving_b86_ok G o p1 ho hp1  (X2_weightOfSurviving_b12 o p1 n) ih _ _ _ _ _ _
    · refine ev_iload (q := 94) dX2_weightOfSurviving_92 5 rfl rfl ?_
      exact ev_iret dX2_weightOfSurviving_94 rfl
set_option maxRecDepth 100000 in
set_option maxHeartbeats 4000000 in
theorem con_X2_weightOfSurviving (G : Gt) (o : Nat) (p1 : Nat) (a2 : Int32) (a3 : Int32) (ho : kd o = 2) (hp1 : kd p1 = 3) (mem : Mem) : Con tvI G yX2_weightOfSurviving cX2_weightOfSurviving 7 (some .int) 6 [.ref (gA G o), .ref (gA G p1), .int a2, .int a3] mem (X2_weightOfSurviving o p1 a2 a3 mem) := by
  refine con_of (by decide) (Nat.le_of_ble_eq_true rfl) ?_
  show EvR tvI G cX2_weightOfSurviving 7 (some .int) RX2 6 0 [(0, .ref (gA G o)), (1, .ref (gA G p1)), (2, .int (a2)), (3, .int (a3))] [] mem _
  unfold X2_weightOfSurviving
  refine ev_aload_n (q := 1) dX2_weightOfSurviving_0 rfl 1 rfl rfl ?_
  refine ev_callVI (q := 4) dX2_weightOfSurviving_1 rfl ml_X2_97 mt_X3_unreadLetters cf_3 rfl hp1 hc_3 (con_X3_unreadLetters G _ hp1 _) rfl (Nat.le_of_ble_eq_true rfl) (Nat.le_of_ble_eq_true rfl) rfl (Nat.le_of_ble_eq_true rfl) (fun r1 m2 => ?_)
  refine ev_istore (q := 6) (lv2 := [(4, .int _), (0, .ref _), (1, .ref _), (2, .int _), (3, .int _)]) dX2_weightOfSurviving_4 rfl (Nat.le_of_ble_eq_true rfl) rfl ?_
  refine ev_iconst (q := 7) (v := 0) dX2_weightOfSurviving_6 rfl li_0 ?_
  refine ev_istore (q := 9) (lv2 := [(5, .int _), (4, .int _), (0, .ref _), (1, .ref _), (2, .int _), (3, .int _)]) dX2_weightOfSurviving_7 rfl (Nat.le_of_ble_eq_true rfl) rfl ?_
  refine ev_iconst (q := 10) (v := 0) dX2_weightOfSurviving_9 rfl li_0 ?_
  refine ev_istore (q := 12) (lv2 := [(6, .int _), (5, .int _), (4, .int _), (0, .ref _), (1, .ref _), (2, .int _), (3, .int _)]) dX2_weightOfSurviving_10 rfl (Nat.le_of_ble_eq_true rfl) rfl ?_
  refine ev_sub (lv' := [(0, .ref _), (1, .ref _), (2, .int _), (3, .int _), (4, .int _), (5, .int _), (6, .int _)]) [3, 4, 5, 6, 2, 1, 0] rfl ?_
  exact X2_weightOfSurviving_b12_ok G o p1 ho hp1   fu _ _ _ _ _ _
/-! AgingLetters$Foretold.commonDivisor(II)I -/
theorem dX2_commonDivisor_0 : decode cX2_commonDivisor 0 = .ok (.iload_n 2, 1) := by decide +kernel
theorem dX2_commonDivisor_1 : decode cX2_commonDivisor 1 = .ok (.istore_n 3, 1) := by decide +kernel
theorem dX2_commonDivisor_2 : decode cX2_commonDivisor 2 = .ok (.iload_n 1, 1) := by decide +kernel
theorem dX2_commonDivisor_3 : decode cX2_commonDivisor 3 = .ok (.istore 4, 2) := by decide +kernel
theorem dX2_commonDivisor_5 : decode cX2_commonDivisor 5 = .ok (.iconst 0, 1) := by decide +kernel
theorem dX2_commonDivisor_6 : decode cX2_commonDivisor 6 = .ok (.istore 5, 2) := by decide +kernel
theorem dX2_commonDivisor_8 : decode cX2_commonDivisor 8 = .ok (.iload 5, 2) := by decide +kernel
theorem dX2_commonDivisor_10 : decode cX2_commonDivisor 10 = .ok (.bipush 64, 2) := by decide +kernel
theorem dX2_commonDivisor_12 : decode cX2_commonDivisor 12 = .ok (.if_icmp .ge 27, 3) := by decide +kernel
theorem dX2_commonDivisor_15 : decode cX2_commonDivisor 15 = .ok (.iload 4, 2) := by decide +kernel
theorem dX2_commonDivisor_17 : decode cX2_commonDivisor 17 = .ok (.ifCond .le 22, 3) := by decide +kernel
theorem dX2_commonDivisor_20 : decode cX2_commonDivisor 20 = .ok (.iload_n 3, 1) := by decide +kernel
theorem dX2_commonDivisor_21 : decode cX2_commonDivisor 21 = .ok (.iload 4, 2) := by decide +kernel
theorem dX2_commonDivisor_23 : decode cX2_commonDivisor 23 = .ok (.irem, 1) := by decide +kernel
theorem dX2_commonDivisor_24 : decode cX2_commonDivisor 24 = .ok (.istore 6, 2) := by decide +kernel
theorem dX2_commonDivisor_26 : decode cX2_commonDivisor 26 = .ok (.iload 4, 2) := by decide +kernel
theorem dX2_commonDivisor_28 : decode cX2_commonDivisor 28 = .ok (.istore_n 3, 1) := by decide +kernel
theorem dX2_commonDivisor_29 : decode cX2_commonDivisor 29 = .ok (.iload 6, 2) := by decide +kernel
theorem dX2_commonDivisor_31 : decode cX2_commonDivisor 31 = .ok (.istore 4, 2) := by decide +kernel
theorem dX2_commonDivisor_33 : decode cX2_commonDivisor 33 = .ok (.iinc 5 1, 3) := by decide +kernel
theorem dX2_commonDivisor_36 : decode cX2_commonDivisor 36 = .ok (.goto (-28), 3) := by decide +kernel
theorem dX2_commonDivisor_39 : decode cX2_commonDivisor 39 = .ok (.iload_n 3, 1) := by decide +kernel
theorem dX2_commonDivisor_40 : decode cX2_commonDivisor 40 = .ok (.ireturn, 1) := by decide +kernel
set_option maxRecDepth 100000 in
set_option maxHeartbeats 4000000 in
theorem X2_commonDivisor_b8_ok (G : Gt) (o : Nat) (ho : kd o = 2)    : ∀ (n : Nat) (x3 : Int32) (x4 : Int32) (x5 : Int32) (mem : Mem), EvR tvI G cX2_commonDivisor 7 (some .int) RX2 1 8 [(3, .int (x3)), (4, .int (x4)), (5, .int (x5))] [] mem (X2_commonDivisor_b8 o n x3 x4 x5 mem) := by
  intro n
  induction n with
  | zero => intros; exact ev_none
  | succ n ih =>
    intro x3 x4 x5 mem
    rw [X2_commonDivisor_b8]
    refine ev_iload (q := 10) dX2_commonDivisor_8 2 rfl rfl ?_
    refine ev_bipush (q := 12) (v := 64) dX2_commonDivisor_10 rfl lb_64 ?_
    refine ev_icmp_ge (t := 39) (q := 15) dX2_commonDivisor_12 rfl rfl (fun hc1 => ?_) (fun hc1 => ?_)
    · refine ev_iload (q := 17) dX2_commonDivisor_15 1 rfl rfl ?_
      refine ev_if_le (t := 39) (q := 20) dX2_commonDivisor_17 rfl rfl (fun hc2 => ?_) (fun hc2 => ?_)
      · refine ev_iload_n (q := 21) dX2_commonDivisor_20 rfl 0 rfl rfl ?_
        refine ev_iload (q := 23) dX2_commonDivisor_21 1 rfl rfl ?_
        refine ev_irem (q := 24) dX2_commonDivisor_23 rfl ?_
        refine ev_istore (q := 26) (lv2 := [(6, .int _), (3, .int _), (4, .int _), (5, .int _)]) dX2_commonDivisor_24 rfl (Nat.le_of_ble_eq_true rfl) rfl ?_
        refine ev_iload (q := 28) dX2_commonDivisor_26 2 rfl rfl ?_
        refine ev_istore_n (q := 29) (lv2 := [(3, .int _), (6, .int _), (4, .int _), (5, .int _)]) dX2_commonDivisor_28 rfl rfl (Nat.le_of_ble_eq_true rfl) rfl ?_
        refine ev_iload (q := 31) dX2_commonDivisor_29 1 rfl rfl ?_
        refine ev_istore (q := 33) (lv2 := [(4, .int _), (3, .int _), (6, .int _), (5, .int _)]) dX2_commonDivisor_31 rfl (Nat.le_of_ble_eq_true rfl) rfl ?_
        refine ev_iinc (q := 36) (lv2 := [(5, .int _), (4, .int _), (3, .int _), (6, .int _)]) (v := x5 + 1) dX2_commonDivisor_33 3 rfl rfl (congrArg (HAdd.hAdd _) li_1) (Nat.le_of_ble_eq_true rfl) rfl ?_
        refine ev_goto (t := 8) dX2_commonDivisor_36 rfl ?_
        refine ev_sub (lv' := [(3, .int _), (4, .int _), (5, .int _)]) [2, 1, 0] rfl ?_
        exact ih _ _ _ _
      · refine ev_iload_n (q := 40) dX2_commonDivisor_39 rfl 0 rfl rfl ?_
        exact ev_iret dX2_commonDivisor_40 rfl
    · refine ev_iload_n (q := 40) dX2_commonDivisor_39 rfl 0 rfl rfl ?_
      exact ev_iret dX2_commonDivisor_40 rfl
set_option maxRecDepth 100000 in
set_option maxHeartbeats 4000000 in
theorem con_X2_commonDivisor (G : Gt) (o : Nat) (a1 : Int32) (a2 : Int32) (ho : kd o = 2) (mem : Mem) : Con tvI G yX2_commonDivisor cX2_commonDivisor 7 (some .int) 1 [.ref (gA G o), .int a1, .int a2] mem (X2_commonDivisor o a1 a2 mem) := by
  refine con_of (by decide) (Nat.le_of_ble_eq_true rfl) ?_
  show EvR tvI G cX2_commonDivisor 7 (some .int) RX2 1 0 [(0, .ref (gA G o)), (1, .int (a1)), (2, .int (a2))] [] mem _
  unfold X2_commonDivisor
  refine ev_iload_n (q := 1) dX2_commonDivisor_0 rfl 2 rfl rfl ?_
  refine ev_istore_n (q := 2) (lv2 := [(3, .int _), (0, .ref _), (1, .int _), (2, .int _)]) dX2_commonDivisor_1 rfl rfl (Nat.le_of_ble_eq_true rfl) rfl ?_
  refine ev_iload_n (q := 3) dX2_commonDivisor_2 rfl 2 rfl rfl ?_
  refine ev_istore (q := 5) (lv2 := [(4, .int _), (3, .int _), (0, .ref _), (1, .int _), (2, .int _)]) dX2_commonDivisor_3 rfl (Nat.le_of_ble_eq_true rfl) rfl ?_
  refine ev_iconst (q := 6) (v := 0) dX2_commonDivisor_5 rfl li_0 ?_
  refine ev_istore (q := 8) (lv2 := [(5, .int _), (4, .int _), (3, .int _), (0, .ref _), (1, .int _), (2, .int _)]) dX2_commonDivisor_6 rfl (Nat.le_of_ble_eq_true rfl) rfl ?_
  refine ev_sub (lv' := [(3, .int _), (4, .int _), (5, .int _)]) [2, 1, 0] rfl ?_
  exact X2_commonDivisor_b8_ok G o ho   fu _ _ _ _
/-! AgingLetters$Office.clear()V -/
theorem dX3_clear_0 : decode cX3_clear 0 = .ok (.aload_n 0, 1) := by decide +kernel
theorem dX3_clear_1 : decode cX3_clear 1 = .ok (.iconst 0, 1) := by decide +kernel
theorem dX3_clear_2 : decode cX3_clear 2 = .ok (.putfield 36, 3) := by decide +kernel
theorem dX3_clear_5 : decode cX3_clear 5 = .ok (.aload_n 0, 1) := by decide +kernel
theorem dX3_clear_6 : decode cX3_clear 6 = .ok (.iconst 0, 1) := by decide +kernel
theorem dX3_clear_7 : decode cX3_clear 7 = .ok (.putfield 40, 3) := by decide +kernel
theorem dX3_clear_10 : decode cX3_clear 10 = .ok (.aload_n 0, 1) := by decide +kernel
theorem dX3_clear_11 : decode cX3_clear 11 = .ok (.iconst 0, 1) := by decide +kernel
theorem dX3_clear_12 : decode cX3_clear 12 = .ok (.putfield 44, 3) := by decide +kernel
theorem dX3_clear_15 : decode cX3_clear 15 = .ok (.aload_n 0, 1) := by decide +kernel
theorem dX3_clear_16 : decode cX3_clear 16 = .ok (.iconst 0, 1) := by decide +kernel
theorem dX3_clear_17 : decode cX3_clear 17 = .ok (.putfield 47, 3) := by decide +kernel
theorem dX3_clear_20 : decode cX3_clear 20 = .ok (.aload_n 0, 1) := by decide +kernel
theorem dX3_clear_21 : decode cX3_clear 21 = .ok (.iconst 0, 1) := by decide +kernel
theorem dX3_clear_22 : decode cX3_clear 22 = .ok (.putfield 50, 3) := by decide +kernel
theorem dX3_clear_25 : decode cX3_clear 25 = .ok (.aload_n 0, 1) := by decide +kernel
theorem dX3_clear_26 : decode cX3_clear 26 = .ok (.getfield 30, 3) := by decide +kernel
theorem dX3_clear_29 : decode cX3_clear 29 = .ok (.iconst 0, 1) := by decide +kernel
theorem dX3_clear_30 : decode cX3_clear 30 = .ok (.invokestatic 53, 3) := by decide +kernel
theorem dX3_clear_33 : decode cX3_clear 33 = .ok (.aload_n 0, 1) := by decide +kernel
theorem dX3_clear_34 : decode cX3_clear 34 = .ok (.getfield 33, 3) := by decide +kernel
theorem dX3_clear_37 : decode cX3_clear 37 = .ok (.iconst 0, 1) := by decide +kernel
theorem dX3_clear_38 : decode cX3_clear 38 = .ok (.invokestatic 53, 3) := by decide +kernel
theorem dX3_clear_41 : decode cX3_clear 41 = .ok (.return_, 1) := by decide +kernel
set_option maxRecDepth 100000 in
set_option maxHeartbeats 4000000 in
theorem con_X3_clear (G : Gt) (o : Nat) (ho : kd o = 3) (mem : Mem) : Con tvU G yX3_clear cX3_clear 1 none 2 [.ref (gA G o)] mem (X3_clear o mem) := by
  refine con_of (by decide) (Nat.le_of_ble_eq_true rfl) ?_
  show EvR tvU G cX3_clear 1 none RX3 2 0 [(0, .ref (gA G o))] [] mem _
  unfold X3_clear
  refine ev_aload_n (q := 1) dX3_clear_0 rfl 0 rfl rfl ?_
  refine ev_iconst (q := 2) (v := 0) dX3_clear_1 rfl li_0 ?_
  refine ev_putZ (q := 5) (ci := 3) (j := 0) (T := TX3) dX3_clear_2 rfl cf_3 ho hj_3_0 hc_3 gf_X3_36 rfl rfl (tyX3_ok 0 hj_3_0) ?_
  refine ev_aload_n (q := 6) dX3_clear_5 rfl 0 rfl rfl ?_
  refine ev_iconst (q := 7) (v := 0) dX3_clear_6 rfl li_0 ?_
  refine ev_putI (q := 10) (ci := 3) (j := 1) (T := TX3) dX3_clear_7 rfl cf_3 ho hj_3_1 hc_3 gf_X3_40 rfl rfl (tyX3_ok 1 hj_3_1) ?_
  refine ev_aload_n (q := 11) dX3_clear_10 rfl 0 rfl rfl ?_
  refine ev_iconst (q := 12) (v := 0) dX3_clear_11 rfl li_0 ?_
  refine ev_putI (q := 15) (ci := 3) (j := 2) (T := TX3) dX3_clear_12 rfl cf_3 ho hj_3_2 hc_3 gf_X3_44 rfl rfl (tyX3_ok 2 hj_3_2) ?_
  refine ev_aload_n (q := 16) dX3_clear_15 rfl 0 rfl rfl ?_
  refine ev_iconst (q := 17) (v := 0) dX3_clear_16 rfl li_0 ?_
  refine ev_putI (q := 20) (ci := 3) (j := 3) (T := TX3) dX3_clear_17 rfl cf_3 ho hj_3_3 hc_3 gf_X3_47 rfl rfl (tyX3_ok 3 hj_3_3) ?_
  refine ev_aload_n (q := 21) dX3_clear_20 rfl 0 rfl rfl ?_
  refine ev_iconst (q := 22) (v := 0) dX3_clear_21 rfl li_0 ?_
  refine ev_putI (q := 25) (ci := 3) (j := 7) (T := TX3) dX3_clear_22 rfl cf_3 ho hj_3_7 hc_3 gf_X3_50 rfl rfl (tyX3_ok 7 hj_3_7) ?_
  refine ev_aload_n (q := 26) dX3_clear_25 rfl 0 rfl rfl ?_
  refine ev_getR (q := 29) (ci := 3) (j := 11) (T := TX3) dX3_clear_26 rfl cf_3 ho hj_3_11 hc_3 gf_X3_30 rfl ?_
  refine ev_iconst (q := 30) (v := 0) dX3_clear_29 rfl li_0 ?_
  refine ev_callSU (q := 33) dX3_clear_30 rfl ml_X3_53 mt_J7_fill_53178 (con_J7_fill_53178 G _ _ (kr_3_11 ho) _) rfl (Nat.le_of_ble_eq_true rfl) (Nat.le_of_ble_eq_true rfl) rfl (Nat.le_of_ble_eq_true rfl) (fun r6 m7 => ?_)
  refine ev_aload_n (q := 34) dX3_clear_33 rfl 0 rfl rfl ?_
  refine ev_getR (q := 37) (ci := 3) (j := 12) (T := TX3) dX3_clear_34 rfl cf_3 ho hj_3_12 hc_3 gf_X3_33 rfl ?_
  refine ev_iconst (q := 38) (v := 0) dX3_clear_37 rfl li_0 ?_
  refine ev_callSU (q := 41) dX3_clear_38 rfl ml_X3_53 mt_J7_fill_53178 (con_J7_fill_53178 G _ _ (kr_3_12 ho) _) rfl (Nat.le_of_ble_eq_true rfl) (Nat.le_of_ble_eq_true rfl) rfl (Nat.le_of_ble_eq_true rfl) (fun r8 m9 => ?_)
  exact ev_vret dX3_clear_41 rfl
/-! AgingLetters$Office.becomes(LAgingLetters$Office;)V -/
theorem dX3_becomes_0 : decode cX3_becomes 0 = .ok (.aload_n 0, 1) := by decide +kernel
theorem dX3_becomes_1 : decode cX3_becomes 1 = .ok (.aload_n 1, 1) := by decide +kernel
theorem dX3_becomes_2 : decode cX3_becomes 2 = .ok (.getfield 36, 3) := by decide +kernel
theorem dX3_becomes_5 : decode cX3_becomes 5 = .ok (.putfield 36, 3) := by decide +kernel
theorem dX3_becomes_8 : decode cX3_becomes 8 = .ok (.aload_n 0, 1) := by decide +kernel
theorem dX3_becomes_9 : decode cX3_becomes 9 = .ok (.aload_n 1, 1) := by decide +kernel
theorem dX3_becomes_10 : decode cX3_becomes 10 = .ok (.getfield 40, 3) := by decide +kernel
theorem dX3_becomes_13 : decode cX3_becomes 13 = .ok (.putfield 40, 3) := by decide +kernel
theorem dX3_becomes_16 : decode cX3_becomes 16 = .ok (.aload_n 0, 1) := by decide +kernel
theorem dX3_becomes_17 : decode cX3_becomes 17 = .ok (.aload_n 1, 1) := by decide +kernel
theorem dX3_becomes_18 : decode cX3_becomes 18 = .ok (.getfield 44, 3) := by decide +kernel
theorem dX3_becomes_21 : decode cX3_becomes 21 = .ok (.putfield 44, 3) := by decide +kernel
theorem dX3_becomes_24 : decode cX3_becomes 24 = .ok (.aload_n 0, 1) := by decide +kernel
theorem dX3_becomes_25 : decode cX3_becomes 25 = .ok (.aload_n 1, 1) := by decide +kernel
theorem dX3_becomes_26 : decode cX3_becomes 26 = .ok (.getfield 47, 3) := by decide +kernel
theorem dX3_becomes_29 : decode cX3_becomes 29 = .ok (.putfield 47, 3) := by decide +kernel
theorem dX3_becomes_32 : decode cX3_becomes 32 = .ok (.aload_n 1, 1) := by decide +kernel
theorem dX3_becomes_33 : decode cX3_becomes 33 = .ok (.getfield 9, 3) := by decide +kernel
theorem dX3_becomes_36 : decode cX3_becomes 36 = .ok (.iconst 0, 1) := by decide +kernel
theorem dX3_becomes_37 : decode cX3_becomes 37 = .ok (.aload_n 0, 1) := by decide +kernel
theorem dX3_becomes_38 : decode cX3_becomes 38 = .ok (.getfield 9, 3) := by decide +kernel
theorem dX3_becomes_41 : decode cX3_becomes 41 = .ok (.iconst 0, 1) := by decide +kernel
theorem dX3_becomes_42 : decode cX3_becomes 42 = .ok (.bipush 6, 2) := by decide +kernel
theorem dX3_becomes_44 : decode cX3_becomes 44 = .ok (.invokestatic 59, 3) := by decide +kernel
theorem dX3_becomes_47 : decode cX3_becomes 47 = .ok (.aload_n 1, 1) := by decide +kernel
theorem dX3_becomes_48 : decode cX3_becomes 48 = .ok (.getfield 15, 3) := by decide +kernel
theorem dX3_becomes_51 : decode cX3_becomes 51 = .ok (.iconst 0, 1) := by decide +kernel
theorem dX3_becomes_52 : decode cX3_becomes 52 = .ok (.aload_n 0, 1) := by decide +kernel
theorem dX3_becomes_53 : decode cX3_becomes 53 = .ok (.getfield 15, 3) := by decide +kernel
theorem dX3_becomes_56 : decode cX3_becomes 56 = .ok (.iconst 0, 1) := by decide +kernel
theorem dX3_becomes_57 : decode cX3_becomes 57 = .ok (.bipush 6, 2) := by decide +kernel
theorem dX3_becomes_59 : decode cX3_becomes 59 = .ok (.invokestatic 59, 3) := by decide +kernel
theorem dX3_becomes_62 : decode cX3_becomes 62 = .ok (.aload_n 1, 1) := by decide +kernel
theorem dX3_becomes_63 : decode cX3_becomes 63 = .ok (.getfield 18, 3) := by decide +kernel
theorem dX3_becomes_66 : decode cX3_becomes 66 = .ok (.iconst 0, 1) := by decide +kernel
theorem dX3_becomes_67 : decode cX3_becomes 67 = .ok (.aload_n 0, 1) := by decide +kernel
theorem dX3_becomes_68 : decode cX3_becomes 68 = .ok (.getfield 18, 3) := by decide +kernel
theorem dX3_becomes_71 : decode cX3_becomes 71 = .ok (.iconst 0, 1) := by decide +kernel
theorem dX3_becomes_72 : decode cX3_becomes 72 = .ok (.bipush 6, 2) := by decide +kernel
theorem dX3_becomes_74 : decode cX3_becomes 74 = .ok (.invokestatic 59, 3) := by decide +kernel
theorem dX3_becomes_77 : decode cX3_becomes 77 = .ok (.aload_n 0, 1) := by decide +kernel
theorem dX3_becomes_78 : decode cX3_becomes 78 = .ok (.aload_n 1, 1) := by decide +kernel
theorem dX3_becomes_79 : decode cX3_becomes 79 = .ok (.getfield 50, 3) := by decide +kernel
theorem dX3_becomes_82 : decode cX3_becomes 82 = .ok (.putfield 50, 3) := by decide +kernel
theorem dX3_becomes_85 : decode cX3_becomes 85 = .ok (.aload_n 1, 1) := by decide +kernel
theorem dX3_becomes_86 : decode cX3_becomes 86 = .ok (.getfield 21, 3) := by decide +kernel
theorem dX3_becomes_89 : decode cX3_becomes 89 = .ok (.iconst 0, 1) := by decide +kernel
theorem dX3_becomes_90 : decode cX3_becomes 90 = .ok (.aload_n 0, 1) := by decide +kernel
theorem dX3_becomes_91 : decode cX3_becomes 91 = .ok (.getfield 21, 3) := by decide +kernel
theorem dX3_becomes_94 : decode cX3_becomes 94 = .ok (.iconst 0, 1) := by decide +kernel
theorem dX3_becomes_95 : decode cX3_becomes 95 = .ok (.iconst 4, 1) := by decide +kernel
theorem dX3_becomes_96 : decode cX3_becomes 96 = .ok (.invokestatic 59, 3) := by decide +kernel
theorem dX3_becomes_99 : decode cX3_becomes 99 = .ok (.aload_n 1, 1) := by decide +kernel
theorem dX3_becomes_100 : decode cX3_becomes 100 = .ok (.getfield 24, 3) := by decide +kernel
theorem dX3_becomes_103 : decode cX3_becomes 103 = .ok (.iconst 0, 1) := by decide +kernel
theorem dX3_becomes_104 : decode cX3_becomes 104 = .ok (.aload_n 0, 1) := by decide +kernel
theorem dX3_becomes_105 : decode cX3_becomes 105 = .ok (.getfield 24, 3) := by decide +kernel
theorem dX3_becomes_108 : decode cX3_becomes 108 = .ok (.iconst 0, 1) := by decide +kernel
theorem dX3_becomes_109 : decode cX3_becomes 109 = .ok (.iconst 4, 1) := by decide +kernel
theorem dX3_becomes_110 : decode cX3_becomes 110 = .ok (.invokestatic 59, 3) := by decide +kernel
theorem dX3_becomes_113 : decode cX3_becomes 113 = .ok (.aload_n 1, 1) := by decide +kernel
theorem dX3_becomes_114 : decode cX3_becomes 114 = .ok (.getfield 27, 3) := by decide +kernel
theorem dX3_becomes_117 : decode cX3_becomes 117 = .ok (.iconst 0, 1) := by decide +kernel
theorem dX3_becomes_118 : decode cX3_becomes 118 = .ok (.aload_n 0, 1) := by decide +kernel
theorem dX3_becomes_119 : decode cX3_becomes 119 = .ok (.getfield 27, 3) := by decide +kernel
theorem dX3_becomes_122 : decode cX3_becomes 122 = .ok (.iconst 0, 1) := by decide +kernel
theorem dX3_becomes_123 : decode cX3_becomes 123 = .ok (.iconst 4, 1) := by decide +kernel
theorem dX3_becomes_124 : decode cX3_becomes 124 = .ok (.invokestatic 59, 3) := by decide +kernel
theorem dX3_becomes_127 : decode cX3_becomes 127 = .ok (.aload_n 1, 1) := by decide +kernel
theorem dX3_becomes_128 : decode cX3_becomes 128 = .ok (.getfield 30, 3) := by decide +kernel
theorem dX3_becomes_131 : decode cX3_becomes 131 = .ok (.iconst 0, 1) := by decide +kernel
theorem dX3_becomes_132 : decode cX3_becomes 132 = .ok (.aload_n 0, 1) := by decide +kernel
theorem dX3_becomes_133 : decode cX3_becomes 133 = .ok (.getfield 30, 3) := by decide +kernel
theorem dX3_becomes_136 : decode cX3_becomes 136 = .ok (.iconst 0, 1) := by decide +kernel
theorem dX3_becomes_137 : decode cX3_becomes 137 = .ok (.iconst 4, 1) := by decide +kernel
theorem dX3_becomes_138 : decode cX3_becomes 138 = .ok (.invokestatic 59, 3) := by decide +kernel
theorem dX3_becomes_141 : decode cX3_becomes 141 = .ok (.aload_n 1, 1) := by decide +kernel
theorem dX3_becomes_142 : decode cX3_becomes 142 = .ok (.getfield 33, 3) := by decide +kernel
theorem dX3_becomes_145 : decode cX3_becomes 145 = .ok (.iconst 0, 1) := by decide +kernel
theorem dX3_becomes_146 : decode cX3_becomes 146 = .ok (.aload_n 0, 1) := by decide +kernel
theorem dX3_becomes_147 : decode cX3_becomes 147 = .ok (.getfield 33, 3) := by decide +kernel
theorem dX3_becomes_150 : decode cX3_becomes 150 = .ok (.iconst 0, 1) := by decide +kernel
theorem dX3_becomes_151 : decode cX3_becomes 151 = .ok (.bipush 24, 2) := by decide +kernel
theorem dX3_becomes_153 : decode cX3_becomes 153 = .ok (.invokestatic 59, 3) := by decide +kernel
theorem dX3_becomes_156 : decode cX3_becomes 156 = .ok (.return_, 1) := by decide +kernel
set_option maxRecDepth 100000 in
set_option maxHeartbeats 4000000 in
theorem con_X3_becomes (G : Gt) (o : Nat) (p1 : Nat) (ho : kd o = 3) (hp1 : kd p1 = 3) (mem : Mem) : Con tvU G yX3_becomes cX3_becomes 2 none 2 [.ref (gA G o), .ref (gA G p1)] mem (X3_becomes o p1 mem) := by
  refine con_of (by decide) (Nat.le_of_ble_eq_true rfl) ?_
  show EvR tvU G cX3_becomes 2 none RX3 2 0 [(0, .ref (gA G o)), (1, .ref (gA G p1))] [] mem _
  unfold X3_becomes
  refine ev_aload_n (q := 1) dX3_becomes_0 rfl 0 rfl rfl ?_
  refine ev_aload_n (q := 2) dX3_becomes_1 rfl 1 rfl rfl ?_
  refine ev_getI (q := 5) (ci := 3) (j := 0) (T := TX3) dX3_becomes_2 rfl cf_3 hp1 hj_3_0 hc_3 gf_X3_36 rfl ?_
  refine ev_putZ (q := 8) (ci := 3) (j := 0) (T := TX3) dX3_becomes_5 rfl cf_3 ho hj_3_0 hc_3 gf_X3_36 rfl rfl (tyX3_ok 0 hj_3_0) ?_
  refine ev_aload_n (q := 9) dX3_becomes_8 rfl 0 rfl rfl ?_
  refine ev_aload_n (q := 10) dX3_becomes_9 rfl 1 rfl rfl ?_
  refine ev_getI (q := 13) (ci := 3) (j := 1) (T := TX3) dX3_becomes_10 rfl cf_3 hp1 hj_3_1 hc_3 gf_X3_40 rfl ?_
  refine ev_putI (q := 16) (ci := 3) (j := 1) (T := TX3) dX3_becomes_13 rfl cf_3 ho hj_3_1 hc_3 gf_X3_40 rfl rfl (tyX3_ok 1 hj_3_1) ?_
  refine ev_aload_n (q := 17) dX3_becomes_16 rfl 0 rfl rfl ?_
  refine ev_aload_n (q := 18) dX3_becomes_17 rfl 1 rfl rfl ?_
  refine ev_getI (q := 21) (ci := 3) (j := 2) (T := TX3) dX3_becomes_18 rfl cf_3 hp1 hj_3_2 hc_3 gf_X3_44 rfl ?_
  refine ev_putI (q := 24) (ci := 3) (j := 2) (T := TX3) dX3_becomes_21 rfl cf_3 ho hj_3_2 hc_3 gf_X3_44 rfl rfl (tyX3_ok 2 hj_3_2) ?_
  refine ev_aload_n (q := 25) dX3_becomes_24 rfl 0 rfl rfl ?_
  refine ev_aload_n (q := 26) dX3_becomes_25 rfl 1 rfl rfl ?_
  refine ev_getI (q := 29) (ci := 3) (j := 3) (T := TX3) dX3_becomes_26 rfl cf_3 hp1 hj_3_3 hc_3 gf_X3_47 rfl ?_
  refine ev_putI (q := 32) (ci := 3) (j := 3) (T := TX3) dX3_becomes_29 rfl cf_3 ho hj_3_3 hc_3 gf_X3_47 rfl rfl (tyX3_ok 3 hj_3_3) ?_
  refine ev_aload_n (q := 33) dX3_becomes_32 rfl 1 rfl rfl ?_
  refine ev_getR (q := 36) (ci := 3) (j := 4) (T := TX3) dX3_becomes_33 rfl cf_3 hp1 hj_3_4 hc_3 gf_X3_9 rfl ?_
  refine ev_iconst (q := 37) (v := 0) dX3_becomes_36 rfl li_0 ?_
  refine ev_aload_n (q := 38) dX3_becomes_37 rfl 0 rfl rfl ?_
  refine ev_getR (q := 41) (ci := 3) (j := 4) (T := TX3) dX3_becomes_38 rfl cf_3 ho hj_3_4 hc_3 gf_X3_9 rfl ?_
  refine ev_iconst (q := 42) (v := 0) dX3_becomes_41 rfl li_0 ?_
  refine ev_bipush (q := 44) (v := 6) dX3_becomes_42 rfl lb_6 ?_
  refine ev_copy (q := 47) dX3_becomes_44 rfl ml_X3_59 ac_n ac_s ac_i (kr_3_4 hp1) (kr_3_4 ho) (Nat.le_of_ble_eq_true rfl) (Nat.le_of_ble_eq_true rfl) (fun m5 => ?_)
  refine ev_aload_n (q := 48) dX3_becomes_47 rfl 1 rfl rfl ?_
  refine ev_getR (q := 51) (ci := 3) (j := 5) (T := TX3) dX3_becomes_48 rfl cf_3 hp1 hj_3_5 hc_3 gf_X3_15 rfl ?_
  refine ev_iconst (q := 52) (v := 0) dX3_becomes_51 rfl li_0 ?_
  refine ev_aload_n (q := 53) dX3_becomes_52 rfl 0 rfl rfl ?_
  refine ev_getR (q := 56) (ci := 3) (j := 5) (T := TX3) dX3_becomes_53 rfl cf_3 ho hj_3_5 hc_3 gf_X3_15 rfl ?_
  refine ev_iconst (q := 57) (v := 0) dX3_becomes_56 rfl li_0 ?_
  refine ev_bipush (q := 59) (v := 6) dX3_becomes_57 rfl lb_6 ?_
  refine ev_copy (q := 62) dX3_becomes_59 rfl ml_X3_59 ac_n ac_s ac_i (kr_3_5 hp1) (kr_3_5 ho) (Nat.le_of_ble_eq_true rfl) (Nat.le_of_ble_eq_true rfl) (fun m6 => ?_)
  refine ev_aload_n (q := 63) dX3_becomes_62 rfl 1 rfl rfl ?_
  refine ev_getR (q := 66) (ci := 3) (j := 6) (T := TX3) dX3_becomes_63 rfl cf_3 hp1 hj_3_6 hc_3 gf_X3_18 rfl ?_
  refine ev_iconst (q := 67) (v := 0) dX3_becomes_66 rfl li_0 ?_
  refine ev_aload_n (q := 68) dX3_becomes_67 rfl 0 rfl rfl ?_
  refine ev_getR (q := 71) (ci := 3) (j := 6) (T := TX3) dX3_becomes_68 rfl cf_3 ho hj_3_6 hc_3 gf_X3_18 rfl ?_
  refine ev_iconst (q := 72) (v := 0) dX3_becomes_71 rfl li_0 ?_
  refine ev_bipush (q := 74) (v := 6) dX3_becomes_72 rfl lb_6 ?_
  refine ev_copy (q := 77) dX3_becomes_74 rfl ml_X3_59 ac_n ac_s ac_i (kr_3_6 hp1) (kr_3_6 ho) (Nat.le_of_ble_eq_true rfl) (Nat.le_of_ble_eq_true rfl) (fun m7 => ?_)
  refine ev_aload_n (q := 78) dX3_becomes_77 rfl 0 rfl rfl ?_
  refine ev_aload_n (q := 79) dX3_becomes_78 rfl 1 rfl rfl ?_
  refine ev_getI (q := 82) (ci := 3) (j := 7) (T := TX3) dX3_becomes_79 rfl cf_3 hp1 hj_3_7 hc_3 gf_X3_50 rfl ?_
  refine ev_putI (q := 85) (ci := 3) (j := 7) (T := TX3) dX3_becomes_82 rfl cf_3 ho hj_3_7 hc_3 gf_X3_50 rfl rfl (tyX3_ok 7 hj_3_7) ?_
  refine ev_aload_n (q := 86) dX3_becomes_85 rfl 1 rfl rfl ?_
  refine ev_getR (q := 89) (ci := 3) (j := 8) (T := TX3) dX3_becomes_86 rfl cf_3 hp1 hj_3_8 hc_3 gf_X3_21 rfl ?_
  refine ev_iconst (q := 90) (v := 0) dX3_becomes_89 rfl li_0 ?_
  refine ev_aload_n (q := 91) dX3_becomes_90 rfl 0 rfl rfl ?_
  refine ev_getR (q := 94) (ci := 3) (j := 8) (T := TX3) dX3_becomes_91 rfl cf_3 ho hj_3_8 hc_3 gf_X3_21 rfl ?_
  refine ev_iconst (q := 95) (v := 0) dX3_becomes_94 rfl li_0 ?_
  refine ev_iconst (q := 96) (v := 4) dX3_becomes_95 rfl li_4 ?_
  refine ev_copy (q := 99) dX3_becomes_96 rfl ml_X3_59 ac_n ac_s ac_i (kr_3_8 hp1) (kr_3_8 ho) (Nat.le_of_ble_eq_true rfl) (Nat.le_of_ble_eq_true rfl) (fun m9 => ?_)
  refine ev_aload_n (q := 100) dX3_becomes_99 rfl 1 rfl rfl ?_
  refine ev_getR (q := 103) (ci := 3) (j := 9) (T := TX3) dX3_becomes_100 rfl cf_3 hp1 hj_3_9 hc_3 gf_X3_24 rfl ?_
  refine ev_iconst (q := 104) (v := 0) dX3_becomes_103 rfl li_0 ?_
  refine ev_aload_n (q := 105) dX3_becomes_104 rfl 0 rfl rfl ?_
  refine ev_getR (q := 108) (ci := 3) (j := 9) (T := TX3) dX3_becomes_105 rfl cf_3 ho hj_3_9 hc_3 gf_X3_24 rfl ?_
  refine ev_iconst (q := 109) (v := 0) dX3_becomes_108 rfl li_0 ?_
  refine ev_iconst (q := 110) (v := 4) dX3_becomes_109 rfl li_4 ?_
  refine ev_copy (q := 113) dX3_becomes_110 rfl ml_X3_59 ac_n ac_s ac_i (kr_3_9 hp1) (kr_3_9 ho) (Nat.le_of_ble_eq_true rfl) (Nat.le_of_ble_eq_true rfl) (fun m10 => ?_)
  refine ev_aload_n (q := 114) dX3_becomes_113 rfl 1 rfl rfl ?_
  refine ev_getR (q := 117) (ci := 3) (j := 10) (T := TX3) dX3_becomes_114 rfl cf_3 hp1 hj_3_10 hc_3 gf_X3_27 rfl ?_
  refine ev_iconst (q := 118) (v := 0) dX3_becomes_117 rfl li_0 ?_
  refine ev_aload_n (q := 119) dX3_becomes_118 rfl 0 rfl rfl ?_
  refine ev_getR (q := 122) (ci := 3) (j := 10) (T := TX3) dX3_becomes_119 rfl cf_3 ho hj_3_10 hc_3 gf_X3_27 rfl ?_
  refine ev_iconst (q := 123) (v := 0) dX3_becomes_122 rfl li_0 ?_
  refine ev_iconst (q := 124) (v := 4) dX3_becomes_123 rfl li_4 ?_
  refine ev_copy (q := 127) dX3_becomes_124 rfl ml_X3_59 ac_n ac_s ac_i (kr_3_10 hp1) (kr_3_10 ho) (Nat.le_of_ble_eq_true rfl) (Nat.le_of_ble_eq_true rfl) (fun m11 => ?_)
  refine ev_aload_n (q := 128) dX3_becomes_127 rfl 1 rfl rfl ?_
  refine ev_getR (q := 131) (ci := 3) (j := 11) (T := TX3) dX3_becomes_128 rfl cf_3 hp1 hj_3_11 hc_3 gf_X3_30 rfl ?_
  refine ev_iconst (q := 132) (v := 0) dX3_becomes_131 rfl li_0 ?_
  refine ev_aload_n (q := 133) dX3_becomes_132 rfl 0 rfl rfl ?_
  refine ev_getR (q := 136) (ci := 3) (j := 11) (T := TX3) dX3_becomes_133 rfl cf_3 ho hj_3_11 hc_3 gf_X3_30 rfl ?_
  refine ev_iconst (q := 137) (v := 0) dX3_becomes_136 rfl li_0 ?_
  refine ev_iconst (q := 138) (v := 4) dX3_becomes_137 rfl li_4 ?_
  refine ev_copy (q := 141) dX3_becomes_138 rfl ml_X3_59 ac_n ac_s ac_i (kr_3_11 hp1) (kr_3_11 ho) (Nat.le_of_ble_eq_true rfl) (Nat.le_of_ble_eq_true rfl) (fun m12 => ?_)
  refine ev_aload_n (q := 142) dX3_becomes_141 rfl 1 rfl rfl ?_
  refine ev_getR (q := 145) (ci := 3) (j := 12) (T := TX3) dX3_becomes_142 rfl cf_3 hp1 hj_3_12 hc_3 gf_X3_33 rfl ?_
  refine ev_iconst (q := 146) (v := 0) dX3_becomes_145 rfl li_0 ?_
  refine ev_aload_n (q := 147) dX3_becomes_146 rfl 0 rfl rfl ?_
  refine ev_getR (q := 150) (ci := 3) (j := 12) (T := TX3) dX3_becomes_147 rfl cf_3 ho hj_3_12 hc_3 gf_X3_33 rfl ?_
  refine ev_iconst (q := 151) (v := 0) dX3_becomes_150 rfl li_0 ?_
  refine ev_bipush (q := 153) (v := 24) dX3_becomes_151 rfl lb_24 ?_
  refine ev_copy (q := 156) dX3_becomes_153 rfl ml_X3_59 ac_n ac_s ac_i (kr_3_12 hp1) (kr_3_12 ho) (Nat.le_of_ble_eq_true rfl) (Nat.le_of_ble_eq_true rfl) (fun m13 => ?_)
  exact ev_vret dX3_becomes_156 rfl
