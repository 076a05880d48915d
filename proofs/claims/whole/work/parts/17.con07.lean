/-! AgingLettersModel.costAll(II)I -/
theorem dX7_costAll_0 : decode cX7_costAll 0 = .ok (.iconst 0, 1) := by decide +kernel
theorem dX7_costAll_1 : decode cX7_costAll 1 = .ok (.istore_n 3, 1) := by decide +kernel
theorem dX7_costAll_2 : decode cX7_costAll 2 = .ok (.iconst 0, 1) := by decide +kernel
theorem dX7_costAll_3 : decode cX7_costAll 3 = .ok (.istore 4, 2) := by decide +kernel
theorem dX7_costAll_5 : decode cX7_costAll 5 = .ok (.iload 4, 2) := by decide +kernel
theorem dX7_costAll_7 : decode cX7_costAll 7 = .ok (.aload_n 0, 1) := by decide +kernel
theorem dX7_costAll_8 : decode cX7_costAll 8 = .ok (.invokevirtual 85, 3) := by decide +kernel
theorem dX7_costAll_11 : decode cX7_costAll 11 = .ok (.if_icmp .ge 32, 3) := by decide +kernel
theorem dX7_costAll_14 : decode cX7_costAll 14 = .ok (.iload_n 3, 1) := by decide +kernel
theorem dX7_costAll_15 : decode cX7_costAll 15 = .ok (.iload_n 2, 1) := by decide +kernel
theorem dX7_costAll_16 : decode cX7_costAll 16 = .ok (.iload 4, 2) := by decide +kernel
theorem dX7_costAll_18 : decode cX7_costAll 18 = .ok (.invokestatic 200, 3) := by decide +kernel
theorem dX7_costAll_21 : decode cX7_costAll 21 = .ok (.ifCond .eq 13, 3) := by decide +kernel
theorem dX7_costAll_24 : decode cX7_costAll 24 = .ok (.aload_n 0, 1) := by decide +kernel
theorem dX7_costAll_25 : decode cX7_costAll 25 = .ok (.iload_n 1, 1) := by decide +kernel
theorem dX7_costAll_26 : decode cX7_costAll 26 = .ok (.iload 4, 2) := by decide +kernel
theorem dX7_costAll_28 : decode cX7_costAll 28 = .ok (.invokevirtual 193, 3) := by decide +kernel
theorem dX7_costAll_31 : decode cX7_costAll 31 = .ok (.goto 4, 3) := by decide +kernel
theorem dX7_costAll_34 : decode cX7_costAll 34 = .ok (.iconst 0, 1) := by decide +kernel
theorem dX7_costAll_35 : decode cX7_costAll 35 = .ok (.iadd, 1) := by decide +kernel
theorem dX7_costAll_36 : decode cX7_costAll 36 = .ok (.istore_n 3, 1) := by decide +kernel
theorem dX7_costAll_37 : decode cX7_costAll 37 = .ok (.iinc 4 1, 3) := by decide +kernel
theorem dX7_costAll_40 : decode cX7_costAll 40 = .ok (.goto (-35), 3) := by decide +kernel
theorem dX7_costAll_43 : decode cX7_costAll 43 = .ok (.iload_n 3, 1) := by decide +kernel
theorem dX7_costAll_44 : decode cX7_costAll 44 = .ok (.ireturn, 1) := by decide +kernel
set_option maxRecDepth 100000 in
set_option maxHeartbeats 4000000 in
theorem X7_costAll_b35_ok (G : Gt) (o : Nat) (ho : kd o = 7)   (k5 : Int32 → Int32 → Int32 → Int32 → Mem → Option (Int32 × Mem)) (hk5 : ∀ (x1 : Int32) (x2 : Int32) (x3 : Int32) (x4 : Int32) (mem : Mem), EvR tvI G cX7_costAll 5 (some .int) RX7 5 5 [(0, .ref (gA G o)), (1, .int (x1)), (2, .int (x2)), (3, .int (x3)), (4, .int (x4))] [] mem (k5 x1 x2 x3 x4 mem)) (x1 : Int32) (x2 : Int32) (x4 : Int32) (s0 : Int32) (s1 : Int32) (mem : Mem) : EvR tvI G cX7_costAll 5 (some .int) RX7 5 35 [(0, .ref (gA G o)), (1, .int (x1)), (2, .int (x2)), (4, .int (x4))] [.int (s1), .int (s0)] mem (X7_costAll_b35 o k5 x1 x2 x4 s0 s1 mem) := by
  unfold X7_costAll_b35
  refine ev_iadd (q := 36) dX7_costAll_35 rfl ?_
  refine ev_istore_n (q := 37) (lv2 := [(3, .int _), (0, .ref _), (1, .int _), (2, .int _), (4, .int _)]) dX7_costAll_36 rfl rfl (Nat.le_of_ble_eq_true rfl) rfl ?_
  refine ev_iinc (q := 40) (lv2 := [(4, .int _), (3, .int _), (0, .ref _), (1, .int _), (2, .int _)]) (v := x4 + 1) dX7_costAll_37 4 rfl rfl (congrArg (HAdd.hAdd _) li_1) (Nat.le_of_ble_eq_true rfl) rfl ?_
  refine ev_goto (t := 5) dX7_costAll_40 rfl ?_
  refine ev_sub (lv' := [(0, .ref _), (1, .int _), (2, .int _), (3, .int _), (4, .int _)]) [2, 3, 4, 1, 0] rfl ?_
  exact hk5 _ _ _ _ _
set_option maxRecDepth 100000 in
set_option maxHeartbeats 4000000 in
theorem X7_costAll_b5_ok (G : Gt) (o : Nat) (ho : kd o = 7)    : ∀ (n : Nat) (x1 : Int32) (x2 : Int32) (x3 : Int32) (x4 : Int32) (mem : Mem), EvR tvI G cX7_costAll 5 (some .int) RX7 5 5 [(0, .ref (gA G o)), (1, .int (x1)), (2, .int (x2)), (3, .int (x3)), (4, .int (x4))] [] mem (X7_costAll_b5 o n x1 x2 x3 x4 mem) := by
  intro n
  induction n with
  | zero => intros; exact ev_none
  | succ n ih =>
    intro x1 x2 x3 x4 mem
    rw [X7_costAll_b5]
    refine ev_iload (q := 7) dX7_costAll_5 4 rfl rfl ?_
    refine ev_aload_n (q := 8) dX7_costAll_7 rfl 0 rfl rfl ?_
    refine ev_callVI (q := 11) dX7_costAll_8 rfl ml_X7_85 mt_X7_letters cf_7 rfl ho hc_7 (con_X7_letters G _ ho _) rfl (Nat.le_of_ble_eq_true rfl) (Nat.le_of_ble_eq_true rfl) rfl (Nat.le_of_ble_eq_true rfl) (fun r1 m2 => ?_)
    refine ev_icmp_ge (t := 43) (q := 14) dX7_costAll_11 rfl rfl (fun hc3 => ?_) (fun hc3 => ?_)
    · refine ev_iload_n (q := 15) dX7_costAll_14 rfl 3 rfl rfl ?_
      refine ev_iload_n (q := 16) dX7_costAll_15 rfl 2 rfl rfl ?_
      refine ev_iload (q := 18) dX7_costAll_16 4 rfl rfl ?_
      refine ev_callSI (q := 21) dX7_costAll_18 rfl ml_X7_200 mt_X7_has (con_X7_has G _ _  _) rfl (Nat.le_of_ble_eq_true rfl) (Nat.le_of_ble_eq_true rfl) rfl (Nat.le_of_ble_eq_true rfl) (fun r4 m5 => ?_)
      refine ev_if_eq (t := 34) (q := 24) dX7_costAll_21 rfl rfl (fun hc6 => ?_) (fun hc6 => ?_)
      · refine ev_iconst (q := 35) (v := 0) dX7_costAll_34 rfl li_0 ?_
        refine ev_sub (lv' := [(0, .ref _), (1, .int _), (2, .int _), (4, .int _)]) [0, 1, 2, 4] rfl ?_
        exact X7_costAll_b35_ok G o ho  (X7_costAll_b5 o n) ih _ _ _ _ _ _
      · refine ev_aload_n (q := 25) dX7_costAll_24 rfl 0 rfl rfl ?_
        refine ev_iload_n (q := 26) dX7_costAll_25 rfl 1 rfl rfl ?_
        refine ev_iload (q := 28) dX7_costAll_26 4 rfl rfl ?_
        refine ev_callVI (q := 31) dX7_costAll_28 rfl ml_X7_193 mt_X7_cost cf_7 rfl ho hc_7 (con_X7_cost G _ _ _ ho _) rfl (Nat.le_of_ble_eq_true rfl) (Nat.le_of_ble_eq_true rfl) rfl (Nat.le_of_ble_eq_true rfl) (fun r7 m8 => ?_)
        refine ev_goto (t := 35) dX7_costAll_31 rfl ?_
        refine ev_sub (lv' := [(0, .ref _), (1, .int _), (2, .int _), (4, .int _)]) [0, 1, 2, 4] rfl ?_
        exact X7_costAll_b35_ok G o ho  (X7_costAll_b5 o n) ih _ _ _ _ _ _
    · refine ev_iload_n (q := 44) dX7_costAll_43 rfl 3 rfl rfl ?_
      exact ev_iret dX7_costAll_44 rfl
set_option maxRecDepth 100000 in
set_option maxHeartbeats 4000000 in
theorem con_X7_costAll (G : Gt) (o : Nat) (a1 : Int32) (a2 : Int32) (ho : kd o = 7) (mem : Mem) : Con tvI G yX7_costAll cX7_costAll 5 (some .int) 5 [.ref (gA G o), .int a1, .int a2] mem (X7_costAll o a1 a2 mem) := by
  refine con_of (by decide) (Nat.le_of_ble_eq_true rfl) ?_
  show EvR tvI G cX7_costAll 5 (some .int) RX7 5 0 [(0, .ref (gA G o)), (1, .int (a1)), (2, .int (a2))] [] mem _
  unfold X7_costAll
  refine ev_iconst (q := 1) (v := 0) dX7_costAll_0 rfl li_0 ?_
  refine ev_istore_n (q := 2) (lv2 := [(3, .int _), (0, .ref _), (1, .int _), (2, .int _)]) dX7_costAll_1 rfl rfl (Nat.le_of_ble_eq_true rfl) rfl ?_
  refine ev_iconst (q := 3) (v := 0) dX7_costAll_2 rfl li_0 ?_
  refine ev_istore (q := 5) (lv2 := [(4, .int _), (3, .int _), (0, .ref _), (1, .int _), (2, .int _)]) dX7_costAll_3 rfl (Nat.le_of_ble_eq_true rfl) rfl ?_
  refine ev_sub (lv' := [(0, .ref _), (1, .int _), (2, .int _), (3, .int _), (4, .int _)]) [2, 3, 4, 1, 0] rfl ?_
  exact X7_costAll_b5_ok G o ho   fu _ _ _ _ _
/-! AgingLettersModel.post(II)I -/
theorem dX7_post_0 : decode cX7_post 0 = .ok (.aload_n 0, 1) := by decide +kernel
theorem dX7_post_1 : decode cX7_post 1 = .ok (.iload_n 1, 1) := by decide +kernel
theorem dX7_post_2 : decode cX7_post 2 = .ok (.invokevirtual 180, 3) := by decide +kernel
theorem dX7_post_5 : decode cX7_post 5 = .ok (.ifCond .eq 13, 3) := by decide +kernel
theorem dX7_post_8 : decode cX7_post 8 = .ok (.iload_n 2, 1) := by decide +kernel
theorem dX7_post_9 : decode cX7_post 9 = .ok (.i2l, 1) := by decide +kernel
theorem dX7_post_10 : decode cX7_post 10 = .ok (.lconst 0, 1) := by decide +kernel
theorem dX7_post_11 : decode cX7_post 11 = .ok (.lconst 1, 1) := by decide +kernel
theorem dX7_post_12 : decode cX7_post 12 = .ok (.invokestatic 63, 3) := by decide +kernel
theorem dX7_post_15 : decode cX7_post 15 = .ok (.ifCond .ne 6, 3) := by decide +kernel
theorem dX7_post_18 : decode cX7_post 18 = .ok (.ldc 73, 2) := by decide +kernel
theorem dX7_post_20 : decode cX7_post 20 = .ok (.ireturn, 1) := by decide +kernel
theorem dX7_post_21 : decode cX7_post 21 = .ok (.aload_n 0, 1) := by decide +kernel
theorem dX7_post_22 : decode cX7_post 22 = .ok (.iload_n 1, 1) := by decide +kernel
theorem dX7_post_23 : decode cX7_post 23 = .ok (.invokevirtual 98, 3) := by decide +kernel
theorem dX7_post_26 : decode cX7_post 26 = .ok (.ifCond .ne 6, 3) := by decide +kernel
theorem dX7_post_29 : decode cX7_post 29 = .ok (.ldc 189, 2) := by decide +kernel
theorem dX7_post_31 : decode cX7_post 31 = .ok (.ireturn, 1) := by decide +kernel
theorem dX7_post_32 : decode cX7_post 32 = .ok (.ldc 222, 2) := by decide +kernel
theorem dX7_post_34 : decode cX7_post 34 = .ok (.istore_n 3, 1) := by decide +kernel
theorem dX7_post_35 : decode cX7_post 35 = .ok (.iconst 0, 1) := by decide +kernel
theorem dX7_post_36 : decode cX7_post 36 = .ok (.istore 4, 2) := by decide +kernel
theorem dX7_post_38 : decode cX7_post 38 = .ok (.iload 4, 2) := by decide +kernel
theorem dX7_post_40 : decode cX7_post 40 = .ok (.iconst 1, 1) := by decide +kernel
theorem dX7_post_41 : decode cX7_post 41 = .ok (.aload_n 0, 1) := by decide +kernel
theorem dX7_post_42 : decode cX7_post 42 = .ok (.invokevirtual 85, 3) := by decide +kernel
theorem dX7_post_45 : decode cX7_post 45 = .ok (.ishl, 1) := by decide +kernel
theorem dX7_post_46 : decode cX7_post 46 = .ok (.if_icmp .ge 67, 3) := by decide +kernel
theorem dX7_post_49 : decode cX7_post 49 = .ok (.iload_n 3, 1) := by decide +kernel
theorem dX7_post_50 : decode cX7_post 50 = .ok (.ldc 222, 2) := by decide +kernel
theorem dX7_post_52 : decode cX7_post 52 = .ok (.if_icmp .eq 15, 3) := by decide +kernel
theorem dX7_post_55 : decode cX7_post 55 = .ok (.iload 4, 2) := by decide +kernel
theorem dX7_post_57 : decode cX7_post 57 = .ok (.invokestatic 227, 3) := by decide +kernel
theorem dX7_post_60 : decode cX7_post 60 = .ok (.iload_n 3, 1) := by decide +kernel
theorem dX7_post_61 : decode cX7_post 61 = .ok (.invokestatic 227, 3) := by decide +kernel
theorem dX7_post_64 : decode cX7_post 64 = .ok (.if_icmp .ge 7, 3) := by decide +kernel
theorem dX7_post_67 : decode cX7_post 67 = .ok (.iconst 1, 1) := by decide +kernel
theorem dX7_post_68 : decode cX7_post 68 = .ok (.goto 4, 3) := by decide +kernel
theorem dX7_post_71 : decode cX7_post 71 = .ok (.iconst 0, 1) := by decide +kernel
theorem dX7_post_72 : decode cX7_post 72 = .ok (.istore 5, 2) := by decide +kernel
theorem dX7_post_74 : decode cX7_post 74 = .ok (.iload 5, 2) := by decide +kernel
theorem dX7_post_76 : decode cX7_post 76 = .ok (.ifCond .eq 29, 3) := by decide +kernel
theorem dX7_post_79 : decode cX7_post 79 = .ok (.aload_n 0, 1) := by decide +kernel
theorem dX7_post_80 : decode cX7_post 80 = .ok (.iload_n 1, 1) := by decide +kernel
theorem dX7_post_81 : decode cX7_post 81 = .ok (.invokevirtual 92, 3) := by decide +kernel
theorem dX7_post_84 : decode cX7_post 84 = .ok (.aload_n 0, 1) := by decide +kernel
theorem dX7_post_85 : decode cX7_post 85 = .ok (.iload_n 1, 1) := by decide +kernel
theorem dX7_post_86 : decode cX7_post 86 = .ok (.iload 4, 2) := by decide +kernel
theorem dX7_post_88 : decode cX7_post 88 = .ok (.invokevirtual 236, 3) := by decide +kernel
theorem dX7_post_91 : decode cX7_post 91 = .ok (.iadd, 1) := by decide +kernel
theorem dX7_post_92 : decode cX7_post 92 = .ok (.aload_n 0, 1) := by decide +kernel
theorem dX7_post_93 : decode cX7_post 93 = .ok (.iload_n 1, 1) := by decide +kernel
theorem dX7_post_94 : decode cX7_post 94 = .ok (.invokevirtual 95, 3) := by decide +kernel
theorem dX7_post_97 : decode cX7_post 97 = .ok (.if_icmp .lt 8, 3) := by decide +kernel
theorem dX7_post_100 : decode cX7_post 100 = .ok (.iload 4, 2) := by decide +kernel
theorem dX7_post_102 : decode cX7_post 102 = .ok (.goto 4, 3) := by decide +kernel
theorem dX7_post_105 : decode cX7_post 105 = .ok (.iload_n 3, 1) := by decide +kernel
theorem dX7_post_106 : decode cX7_post 106 = .ok (.istore_n 3, 1) := by decide +kernel
theorem dX7_post_107 : decode cX7_post 107 = .ok (.iinc 4 1, 3) := by decide +kernel
theorem dX7_post_110 : decode cX7_post 110 = .ok (.goto (-72), 3) := by decide +kernel
theorem dX7_post_113 : decode cX7_post 113 = .ok (.iload_n 3, 1) := by decide +kernel
theorem dX7_post_114 : decode cX7_post 114 = .ok (.ldc 222, 2) := by decide +kernel
theorem dX7_post_116 : decode cX7_post 116 = .ok (.if_icmp .eq 8, 3) := by decide +kernel
theorem dX7_post_119 : decode cX7_post 119 = .ok (.iload_n 2, 1) := by decide +kernel
theorem dX7_post_120 : decode cX7_post 120 = .ok (.iconst 1, 1) := by decide +kernel
theorem dX7_post_121 : decode cX7_post 121 = .ok (.if_icmp .ne 7, 3) := by decide +kernel
theorem dX7_post_124 : decode cX7_post 124 = .ok (.iload_n 3, 1) := by decide +kernel
theorem dX7_post_125 : decode cX7_post 125 = .ok (.goto 7, 3) := by decide +kernel
theorem dX7_post_128 : decode cX7_post 128 = .ok (.iload_n 3, 1) := by decide +kernel
theorem dX7_post_129 : decode cX7_post 129 = .ok (.invokestatic 227, 3) := by decide +kernel
theorem dX7_post_132 : decode cX7_post 132 = .ok (.ireturn, 1) := by decide +kernel
set_option maxRecDepth 100000 in
set_option maxHeartbeats 4000000 in
theorem X7_post_b124_ok (G : Gt) (o : Nat) (ho : kd o = 7)    (x3 : Int32) (mem : Mem) : EvR tvI G cX7_post 6 (some .int) RX7 6 124 [(3, .int (x3))] [] mem (X7_post_b124 o x3 mem) := by
  unfold X7_post_b124
  refine ev_iload_n (q := 125) dX7_post_124 rfl 0 rfl rfl ?_
  refine ev_goto (t := 132) dX7_post_125 rfl ?_
  exact ev_iret dX7_post_132 rfl
set_option maxRecDepth 100000 in
set_option maxHeartbeats 4000000 in
theorem X7_post_b106_ok (G : Gt) (o : Nat) (ho : kd o = 7)   (k38 : Int32 → Int32 → Int32 → Int32 → Mem → Option (Int32 × Mem)) (hk38 : ∀ (x1 : Int32) (x2 : Int32) (x3 : Int32) (x4 : Int32) (mem : Mem), EvR tvI G cX7_post 6 (some .int) RX7 6 38 [(0, .ref (gA G o)), (1, .int (x1)), (2, .int (x2)), (3, .int (x3)), (4, .int (x4))] [] mem (k38 x1 x2 x3 x4 mem)) (x1 : Int32) (x2 : Int32) (x4 : Int32) (s0 : Int32) (mem : Mem) : EvR tvI G cX7_post 6 (some .int) RX7 6 106 [(0, .ref (gA G o)), (1, .int (x1)), (2, .int (x2)), (4, .int (x4))] [.int (s0)] mem (X7_post_b106 o k38 x1 x2 x4 s0 mem) := by
  unfold X7_post_b106
  refine ev_istore_n (q := 107) (lv2 := [(3, .int _), (0, .ref _), (1, .int _), (2, .int _), (4, .int _)]) dX7_post_106 rfl rfl (Nat.le_of_ble_eq_true rfl) rfl ?_
  refine ev_iinc (q := 110) (lv2 := [(4, .int _), (3, .int _), (0, .ref _), (1, .int _), (2, .int _)]) (v := x4 + 1) dX7_post_107 4 rfl rfl (congrArg (HAdd.hAdd _) li_1) (Nat.le_of_ble_eq_true rfl) rfl ?_
  refine ev_goto (t := 38) dX7_post_110 rfl ?_
  refine ev_sub (lv' := [(0, .ref _), (1, .int _), (2, .int _), (3, .int _), (4, .int _)]) [2, 3, 4, 1, 0] rfl ?_
  exact hk38 _ _ _ _ _
set_option maxRecDepth 100000 in
set_option maxHeartbeats 4000000 in
theorem X7_post_b105_ok (G : Gt) (o : Nat) (ho : kd o = 7)   (k38 : Int32 → Int32 → Int32 → Int32 → Mem → Option (Int32 × Mem)) (hk38 : ∀ (x1 : Int32) (x2 : Int32) (x3 : Int32) (x4 : Int32) (mem : Mem), EvR tvI G cX7_post 6 (some .int) RX7 6 38 [(0, .ref (gA G o)), (1, .int (x1)), (2, .int (x2)), (3, .int (x3)), (4, .int (x4))] [] mem (k38 x1 x2 x3 x4 mem)) (x1 : Int32) (x2 : Int32) (x3 : Int32) (x4 : Int32) (mem : Mem) : EvR tvI G cX7_post 6 (some .int) RX7 6 105 [(0, .ref (gA G o)), (1, .int (x1)), (2, .int (x2)), (3, .int (x3)), (4, .int (x4))] [] mem (X7_post_b105 o k38 x1 x2 x3 x4 mem) := by
  unfold X7_post_b105
  refine ev_iload_n (q := 106) dX7_post_105 rfl 3 rfl rfl ?_
  refine ev_sub (lv' := [(0, .ref _), (1, .int _), (2, .int _), (4, .int _)]) [0, 1, 2, 4] rfl ?_
  exact X7_post_b106_ok G o ho  k38 hk38 _ _ _ _ _
set_option maxRecDepth 100000 in
set_option maxHeartbeats 4000000 in
theorem X7_post_b72_ok (G : Gt) (o : Nat) (ho : kd o = 7)   (k38 : Int32 → Int32 → Int32 → Int32 → Mem → Option (Int32 × Mem)) (hk38 : ∀ (x1 : Int32) (x2 : Int32) (x3 : Int32) (x4 : Int32) (mem : Mem), EvR tvI G cX7_post 6 (some .int) RX7 6 38 [(0, .ref (gA G o)), (1, .int (x1)), (2, .int (x2)), (3, .int (x3)), (4, .int (x4))] [] mem (k38 x1 x2 x3 x4 mem)) (x1 : Int32) (x2 : Int32) (x3 : Int32) (x4 : Int32) (s0 : Int32) (mem : Mem) : EvR tvI G cX7_post 6 (some .int) RX7 6 72 [(0, .ref (gA G o)), (1, .int (x1)), (2, .int (x2)), (3, .int (x3)), (4, .int (x4))] [.int (s0)] mem (X7_post_b72 o k38 x1 x2 x3 x4 s0 mem) := by
  unfold X7_post_b72
  refine ev_istore (q := 74) (lv2 := [(5, .int _), (0, .ref _), (1, .int _), (2, .int _), (3, .int _), (4, .int _)]) dX7_post_72 rfl (Nat.le_of_ble_eq_true rfl) rfl ?_
  refine ev_iload (q := 76) dX7_post_74 0 rfl rfl ?_
  refine ev_if_eq (t := 105) (q := 79) dX7_post_76 rfl rfl (fun hc23 => ?_) (fun hc23 => ?_)
  · refine ev_sub (lv' := [(0, .ref _), (1, .int _), (2, .int _), (3, .int _), (4, .int _)]) [1, 2, 3, 4, 5] rfl ?_
    exact X7_post_b105_ok G o ho  k38 hk38 _ _ _ _ _
  · refine ev_aload_n (q := 80) dX7_post_79 rfl 1 rfl rfl ?_
    refine ev_iload_n (q := 81) dX7_post_80 rfl 2 rfl rfl ?_
    refine ev_callVI (q := 84) dX7_post_81 rfl ml_X7_92 mt_X7_age cf_7 rfl ho hc_7 (con_X7_age G _ _ ho _) rfl (Nat.le_of_ble_eq_true rfl) (Nat.le_of_ble_eq_true rfl) rfl (Nat.le_of_ble_eq_true rfl) (fun r24 m25 => ?_)
    refine ev_aload_n (q := 85) dX7_post_84 rfl 1 rfl rfl ?_
    refine ev_iload_n (q := 86) dX7_post_85 rfl 2 rfl rfl ?_
    refine ev_iload (q := 88) dX7_post_86 5 rfl rfl ?_
    refine ev_callVI (q := 91) dX7_post_88 rfl ml_X7_236 mt_X7_costAll cf_7 rfl ho hc_7 (con_X7_costAll G _ _ _ ho _) rfl (Nat.le_of_ble_eq_true rfl) (Nat.le_of_ble_eq_true rfl) rfl (Nat.le_of_ble_eq_true rfl) (fun r26 m27 => ?_)
    refine ev_iadd (q := 92) dX7_post_91 rfl ?_
    refine ev_aload_n (q := 93) dX7_post_92 rfl 1 rfl rfl ?_
    refine ev_iload_n (q := 94) dX7_post_93 rfl 2 rfl rfl ?_
    refine ev_callVI (q := 97) dX7_post_94 rfl ml_X7_95 mt_X7_span cf_7 rfl ho hc_7 (con_X7_span G _ _ ho _) rfl (Nat.le_of_ble_eq_true rfl) (Nat.le_of_ble_eq_true rfl) rfl (Nat.le_of_ble_eq_true rfl) (fun r28 m29 => ?_)
    refine ev_icmp_lt (t := 105) (q := 100) dX7_post_97 rfl rfl (fun hc30 => ?_) (fun hc30 => ?_)
    · refine ev_sub (lv' := [(0, .ref _), (1, .int _), (2, .int _), (3, .int _), (4, .int _)]) [1, 2, 3, 4, 5] rfl ?_
      exact X7_post_b105_ok G o ho  k38 hk38 _ _ _ _ _
    · refine ev_iload (q := 102) dX7_post_100 5 rfl rfl ?_
      refine ev_goto (t := 106) dX7_post_102 rfl ?_
      refine ev_sub (lv' := [(0, .ref _), (1, .int _), (2, .int _), (4, .int _)]) [1, 2, 3, 5] rfl ?_
      exact X7_post_b106_ok G o ho  k38 hk38 _ _ _ _ _
set_option maxRecDepth 100000 in
set_option maxHeartbeats 4000000 in
theorem X7_post_b67_ok (G : Gt) (o : Nat) (ho : kd o = 7)   (k38 : Int32 → Int32 → Int32 → Int32 → Mem → Option (Int32 × Mem)) (hk38 : ∀ (x1 : Int32) (x2 : Int32) (x3 : Int32) (x4 : Int32) (mem : Mem), EvR tvI G cX7_post 6 (some .int) RX7 6 38 [(0, .ref (gA G o)), (1, .int (x1)), (2, .int (x2)), (3, .int (x3)), (4, .int (x4))] [] mem (k38 x1 x2 x3 x4 mem)) (x1 : Int32) (x2 : Int32) (x3 : Int32) (x4 : Int32) (mem : Mem) : EvR tvI G cX7_post 6 (some .int) RX7 6 67 [(0, .ref (gA G o)), (1, .int (x1)), (2, .int (x2)), (3, .int (x3)), (4, .int (x4))] [] mem (X7_post_b67 o k38 x1 x2 x3 x4 mem) := by
  unfold X7_post_b67
  refine ev_iconst (q := 68) (v := 1) dX7_post_67 rfl li_1 ?_
  refine ev_goto (t := 72) dX7_post_68 rfl ?_
  exact X7_post_b72_ok G o ho  k38 hk38 _ _ _ _ _ _
set_option maxRecDepth 100000 in
set_option maxHeartbeats 4000000 in
theorem X7_post_b38_ok (G : Gt) (o : Nat) (ho : kd o = 7)    : ∀ (n : Nat) (x1 : Int32) (x2 : Int32) (x3 : Int32) (x4 : Int32) (mem : Mem), EvR tvI G cX7_post 6 (some .int) RX7 6 38 [(0, .ref (gA G o)), (1, .int (x1)), (2, .int (x2)), (3, .int (x3)), (4, .int (x4))] [] mem (X7_post_b38 o n x1 x2 x3 x4 mem) := by
  intro n
  induction n with
  | zero => intros; exact ev_none
  | succ n ih =>
    intro x1 x2 x3 x4 mem
    rw [X7_post_b38]
    refine ev_iload (q := 40) dX7_post_38 4 rfl rfl ?_
    refine ev_iconst (q := 41) (v := 1) dX7_post_40 rfl li_1 ?_
    refine ev_aload_n (q := 42) dX7_post_41 rfl 0 rfl rfl ?_
    refine ev_callVI (q := 45) dX7_post_42 rfl ml_X7_85 mt_X7_letters cf_7 rfl ho hc_7 (con_X7_letters G _ ho _) rfl (Nat.le_of_ble_eq_true rfl) (Nat.le_of_ble_eq_true rfl) rfl (Nat.le_of_ble_eq_true rfl) (fun r10 m11 => ?_)
    refine ev_ishl (q := 46) dX7_post_45 rfl ?_
    refine ev_icmp_ge (t := 113) (q := 49) dX7_post_46 rfl rfl (fun hc12 => ?_) (fun hc12 => ?_)
    · refine ev_iload_n (q := 50) dX7_post_49 rfl 3 rfl rfl ?_
      refine ev_ldc (q := 52) (v := (-1000000)) dX7_post_50 rfl kc_X7_222 ?_
      refine ev_icmp_eq (t := 67) (q := 55) dX7_post_52 rfl rfl (fun hc17 => ?_) (fun hc17 => ?_)
      · exact X7_post_b67_ok G o ho  (X7_post_b38 o n) ih _ _ _ _ _
      · refine ev_iload (q := 57) dX7_post_55 4 rfl rfl ?_
        refine ev_callSI (q := 60) dX7_post_57 rfl ml_X7_227 mt_X7_bits (con_X7_bits G _  _) rfl (Nat.le_of_ble_eq_true rfl) (Nat.le_of_ble_eq_true rfl) rfl (Nat.le_of_ble_eq_true rfl) (fun r18 m19 => ?_)
        refine ev_iload_n (q := 61) dX7_post_60 rfl 3 rfl rfl ?_
        refine ev_callSI (q := 64) dX7_post_61 rfl ml_X7_227 mt_X7_bits (con_X7_bits G _  _) rfl (Nat.le_of_ble_eq_true rfl) (Nat.le_of_ble_eq_true rfl) rfl (Nat.le_of_ble_eq_true rfl) (fun r20 m21 => ?_)
        refine ev_icmp_ge (t := 71) (q := 67) dX7_post_64 rfl rfl (fun hc22 => ?_) (fun hc22 => ?_)
        · exact X7_post_b67_ok G o ho  (X7_post_b38 o n) ih _ _ _ _ _
        · refine ev_iconst (q := 72) (v := 0) dX7_post_71 rfl li_0 ?_
          exact X7_post_b72_ok G o ho  (X7_post_b38 o n) ih _ _ _ _ _ _
    · refine ev_iload_n (q := 114) dX7_post_113 rfl 3 rfl rfl ?_
      refine ev_ldc (q := 116) (v := (-1000000)) dX7_post_114 rfl kc_X7_222 ?_
      refine ev_icmp_eq (t := 124) (q := 119) dX7_post_116 rfl rfl (fun hc13 => ?_) (fun hc13 => ?_)
      · refine ev_sub (lv' := [(3, .int _)]) [3] rfl ?_
        exact X7_post_b124_ok G o ho   _ _
      · refine ev_iload_n (q := 120) dX7_post_119 rfl 2 rfl rfl ?_
        refine ev_iconst (q := 121) (v := 1) dX7_post_120 rfl li_1 ?_
        refine ev_icmp_ne (t := 128) (q := 124) dX7_post_121 rfl rfl (fun hc14 => ?_) (fun hc14 => ?_)
        · refine ev_sub (lv' := [(3, .int _)]) [3] rfl ?_
          exact X7_post_b124_ok G o ho   _ _
        · refine ev_iload_n (q := 129) dX7_post_128 rfl 3 rfl rfl ?_
          refine ev_callSI (q := 132) dX7_post_129 rfl ml_X7_227 mt_X7_bits (con_X7_bits G _  _) rfl (Nat.le_of_ble_eq_true rfl) (Nat.le_of_ble_eq_true rfl) rfl (Nat.le_of_ble_eq_true rfl) (fun r15 m16 => ?_)
          exact ev_iret dX7_post_132 rfl
set_option maxRecDepth 100000 in
set_option maxHeartbeats 4000000 in
theorem con_X7_post (G : Gt) (o : Nat) (a1 : Int32) (a2 : Int32) (ho : kd o = 7) (mem : Mem) : Con tvI G yX7_post cX7_post 6 (some .int) 6 [.ref (gA G o), .int a1, .int a2] mem (X7_post o a1 a2 mem) := by
  refine con_of (by decide) (Nat.le_of_ble_eq_true rfl) ?_
  show EvR tvI G cX7_post 6 (some .int) RX7 6 0 [(0, .ref (gA G o)), (1, .int (a1)), (2, .int (a2))] [] mem _
  unfold X7_post
  refine ev_aload_n (q := 1) dX7_post_0 rfl 0 rfl rfl ?_
  refine ev_iload_n (q := 2) dX7_post_1 rfl 1 rfl rfl ?_
  refine ev_callVI (q := 5) dX7_post_2 rfl ml_X7_180 mt_X7_isReader cf_7 rfl ho hc_7 (con_X7_isReader G _ _ ho _) rfl (Nat.le_of_ble_eq_true rfl) (Nat.le_of_ble_eq_true rfl) rfl (Nat.le_of_ble_eq_true rfl) (fun r1 m2 => ?_)
  refine ev_if_eq (t := 18) (q := 8) dX7_post_5 rfl rfl (fun hc3 => ?_) (fun hc3 => ?_)
  · refine ev_ldc (q := 20) (v := (-1000001)) dX7_post_18 rfl kc_X7_73 ?_
    exact ev_iret dX7_post_20 rfl
  · refine ev_iload_n (q := 9) dX7_post_8 rfl 2 rfl rfl ?_
    refine ev_i2l (q := 10) dX7_post_9 rfl ?_
    refine ev_lconst (q := 11) (v := 0) dX7_post_10 rfl ll_0 ?_
    refine ev_lconst (q := 12) (v := 1) dX7_post_11 rfl ll_1 ?_
    refine ev_callSI (q := 15) dX7_post_12 rfl ml_X7_63 mt_X7_in (con_X7_in G _ _ _  _) rfl (Nat.le_of_ble_eq_true rfl) (Nat.le_of_ble_eq_true rfl) rfl (Nat.le_of_ble_eq_true rfl) (fun r4 m5 => ?_)
    refine ev_if_ne (t := 21) (q := 18) dX7_post_15 rfl rfl (fun hc6 => ?_) (fun hc6 => ?_)
    · refine ev_ldc (q := 20) (v := (-1000001)) dX7_post_18 rfl kc_X7_73 ?_
      exact ev_iret dX7_post_20 rfl
    · refine ev_aload_n (q := 22) dX7_post_21 rfl 0 rfl rfl ?_
      refine ev_iload_n (q := 23) dX7_post_22 rfl 1 rfl rfl ?_
      refine ev_callVI (q := 26) dX7_post_23 rfl ml_X7_98 mt_X7_isAlive cf_7 rfl ho hc_7 (con_X7_isAlive G _ _ ho _) rfl (Nat.le_of_ble_eq_true rfl) (Nat.le_of_ble_eq_true rfl) rfl (Nat.le_of_ble_eq_true rfl) (fun r7 m8 => ?_)
      refine ev_if_ne (t := 32) (q := 29) dX7_post_26 rfl rfl (fun hc9 => ?_) (fun hc9 => ?_)
      · refine ev_ldc (q := 31) (v := (-1000002)) dX7_post_29 rfl kc_X7_189 ?_
        exact ev_iret dX7_post_31 rfl
      · refine ev_ldc (q := 34) (v := (-1000000)) dX7_post_32 rfl kc_X7_222 ?_
        refine ev_istore_n (q := 35) (lv2 := [(3, .int _), (0, .ref _), (1, .int _), (2, .int _)]) dX7_post_34 rfl rfl (Nat.le_of_ble_eq_true rfl) rfl ?_
        refine ev_iconst (q := 36) (v := 0) dX7_post_35 rfl li_0 ?_
        refine ev_istore (q := 38) (lv2 := [(4, .int _), (3, .int _), (0, .ref _), (1, .int _), (2, .int _)]) dX7_post_36 rfl (Nat.le_of_ble_eq_true rfl) rfl ?_
        refine ev_sub (lv' := [(0, .ref _), (1, .int _), (2, .int _), (3, .int _), (4, .int _)]) [2, 3, 4, 1, 0] rfl ?_
        exact X7_post_b38_ok G o ho   fu _ _ _ _ _
/-! AgingLettersModel.crossOut(II)I -/
theorem dX7_crossOut_0 : decode cX7_crossOut 0 = .ok (.aload_n 0, 1) := by decide +kernel
theorem dX7_crossOut_1 : decode cX7_crossOut 1 = .ok (.iload_n 1, 1) := by decide +kernel
theorem dX7_crossOut_2 : decode cX7_crossOut 2 = .ok (.invokevirtual 180, 3) := by decide +kernel
theorem dX7_crossOut_5 : decode cX7_crossOut 5 = .ok (.ifCond .eq 11, 3) := by decide +kernel
theorem dX7_crossOut_8 : decode cX7_crossOut 8 = .ok (.aload_n 0, 1) := by decide +kernel
theorem dX7_crossOut_9 : decode cX7_crossOut 9 = .ok (.iload_n 2, 1) := by decide +kernel
theorem dX7_crossOut_10 : decode cX7_crossOut 10 = .ok (.invokevirtual 183, 3) := by decide +kernel
theorem dX7_crossOut_13 : decode cX7_crossOut 13 = .ok (.ifCond .ne 6, 3) := by decide +kernel
theorem dX7_crossOut_16 : decode cX7_crossOut 16 = .ok (.ldc 73, 2) := by decide +kernel
theorem dX7_crossOut_18 : decode cX7_crossOut 18 = .ok (.ireturn, 1) := by decide +kernel
theorem dX7_crossOut_19 : decode cX7_crossOut 19 = .ok (.aload_n 0, 1) := by decide +kernel
theorem dX7_crossOut_20 : decode cX7_crossOut 20 = .ok (.iload_n 1, 1) := by decide +kernel
theorem dX7_crossOut_21 : decode cX7_crossOut 21 = .ok (.invokevirtual 98, 3) := by decide +kernel
theorem dX7_crossOut_24 : decode cX7_crossOut 24 = .ok (.ifCond .ne 6, 3) := by decide +kernel
theorem dX7_crossOut_27 : decode cX7_crossOut 27 = .ok (.ldc 189, 2) := by decide +kernel
theorem dX7_crossOut_29 : decode cX7_crossOut 29 = .ok (.ireturn, 1) := by decide +kernel
theorem dX7_crossOut_30 : decode cX7_crossOut 30 = .ok (.iconst 0, 1) := by decide +kernel
theorem dX7_crossOut_31 : decode cX7_crossOut 31 = .ok (.istore_n 3, 1) := by decide +kernel
theorem dX7_crossOut_32 : decode cX7_crossOut 32 = .ok (.iload_n 3, 1) := by decide +kernel
theorem dX7_crossOut_33 : decode cX7_crossOut 33 = .ok (.aload_n 0, 1) := by decide +kernel
theorem dX7_crossOut_34 : decode cX7_crossOut 34 = .ok (.getfield 22, 3) := by decide +kernel
theorem dX7_crossOut_37 : decode cX7_crossOut 37 = .ok (.bipush 11, 2) := by decide +kernel
theorem dX7_crossOut_39 : decode cX7_crossOut 39 = .ok (.iload_n 2, 1) := by decide +kernel
theorem dX7_crossOut_40 : decode cX7_crossOut 40 = .ok (.iadd, 1) := by decide +kernel
theorem dX7_crossOut_41 : decode cX7_crossOut 41 = .ok (.iaload, 1) := by decide +kernel
theorem dX7_crossOut_42 : decode cX7_crossOut 42 = .ok (.if_icmp .ge 42, 3) := by decide +kernel
theorem dX7_crossOut_45 : decode cX7_crossOut 45 = .ok (.aload_n 0, 1) := by decide +kernel
theorem dX7_crossOut_46 : decode cX7_crossOut 46 = .ok (.iload_n 1, 1) := by decide +kernel
theorem dX7_crossOut_47 : decode cX7_crossOut 47 = .ok (.invokevirtual 92, 3) := by decide +kernel
theorem dX7_crossOut_50 : decode cX7_crossOut 50 = .ok (.aload_n 0, 1) := by decide +kernel
theorem dX7_crossOut_51 : decode cX7_crossOut 51 = .ok (.iload_n 1, 1) := by decide +kernel
theorem dX7_crossOut_52 : decode cX7_crossOut 52 = .ok (.iload_n 2, 1) := by decide +kernel
theorem dX7_crossOut_53 : decode cX7_crossOut 53 = .ok (.aload_n 0, 1) := by decide +kernel
theorem dX7_crossOut_54 : decode cX7_crossOut 54 = .ok (.getfield 22, 3) := by decide +kernel
theorem dX7_crossOut_57 : decode cX7_crossOut 57 = .ok (.bipush 11, 2) := by decide +kernel
theorem dX7_crossOut_59 : decode cX7_crossOut 59 = .ok (.iload_n 2, 1) := by decide +kernel
theorem dX7_crossOut_60 : decode cX7_crossOut 60 = .ok (.iadd, 1) := by decide +kernel
theorem dX7_crossOut_61 : decode cX7_crossOut 61 = .ok (.iaload, 1) := by decide +kernel
theorem dX7_crossOut_62 : decode cX7_crossOut 62 = .ok (.iload_n 3, 1) := by decide +kernel
theorem dX7_crossOut_63 : decode cX7_crossOut 63 = .ok (.isub, 1) := by decide +kernel
theorem dX7_crossOut_64 : decode cX7_crossOut 64 = .ok (.invokevirtual 113, 3) := by decide +kernel
theorem dX7_crossOut_67 : decode cX7_crossOut 67 = .ok (.iadd, 1) := by decide +kernel
theorem dX7_crossOut_68 : decode cX7_crossOut 68 = .ok (.aload_n 0, 1) := by decide +kernel
theorem dX7_crossOut_69 : decode cX7_crossOut 69 = .ok (.iload_n 1, 1) := by decide +kernel
theorem dX7_crossOut_70 : decode cX7_crossOut 70 = .ok (.invokevirtual 95, 3) := by decide +kernel
theorem dX7_crossOut_73 : decode cX7_crossOut 73 = .ok (.if_icmp .ge 5, 3) := by decide +kernel
theorem dX7_crossOut_76 : decode cX7_crossOut 76 = .ok (.iload_n 3, 1) := by decide +kernel
theorem dX7_crossOut_77 : decode cX7_crossOut 77 = .ok (.ireturn, 1) := by decide +kernel
theorem dX7_crossOut_78 : decode cX7_crossOut 78 = .ok (.iinc 3 1, 3) := by decide +kernel
theorem dX7_crossOut_81 : decode cX7_crossOut 81 = .ok (.goto (-49), 3) := by decide +kernel
theorem dX7_crossOut_84 : decode cX7_crossOut 84 = .ok (.ldc 222, 2) := by decide +kernel
theorem dX7_crossOut_86 : decode cX7_crossOut 86 = .ok (.ireturn, 1) := by decide +kernel
set_option maxRecDepth 100000 in
set_option maxHeartbeats 4000000 in
theorem X7_crossOut_b32_ok (G : Gt) (o : Nat) (ho : kd o = 7)    : ∀ (n : Nat) (x1 : Int32) (x2 : Int32) (x3 : Int32) (mem : Mem), EvR tvI G cX7_crossOut 4 (some .int) RX7 4 32 [(0, .ref (gA G o)), (1, .int (x1)), (2, .int (x2)), (3, .int (x3))] [] mem (X7_crossOut_b32 o n x1 x2 x3 mem) := by
  intro n
  induction n with
  | zero => intros; exact ev_none
  | succ n ih =>
    intro x1 x2 x3 mem
    rw [X7_crossOut_b32]
    refine ev_iload_n (q := 33) dX7_crossOut_32 rfl 3 rfl rfl ?_
    refine ev_aload_n (q := 34) dX7_crossOut_33 rfl 0 rfl rfl ?_
    refine ev_getR (q := 37) (ci := 7) (j := 5) (T := TX7) dX7_crossOut_34 rfl cf_7 ho hj_7_5 hc_7 gf_X7_22 rfl ?_
    refine ev_bipush (q := 39) (v := 11) dX7_crossOut_37 rfl lb_11 ?_
    refine ev_iload_n (q := 40) dX7_crossOut_39 rfl 2 rfl rfl ?_
    refine ev_iadd (q := 41) dX7_crossOut_40 rfl ?_
    refine ev_iald (q := 42) dX7_crossOut_41 rfl (kr_7_5 ho) (fun z10 => ?_)
    refine ev_icmp_ge (t := 84) (q := 45) dX7_crossOut_42 rfl rfl (fun hc11 => ?_) (fun hc11 => ?_)
    · refine ev_aload_n (q := 46) dX7_crossOut_45 rfl 0 rfl rfl ?_
      refine ev_iload_n (q := 47) dX7_crossOut_46 rfl 1 rfl rfl ?_
      refine ev_callVI (q := 50) dX7_crossOut_47 rfl ml_X7_92 mt_X7_age cf_7 rfl ho hc_7 (con_X7_age G _ _ ho _) rfl (Nat.le_of_ble_eq_true rfl) (Nat.le_of_ble_eq_true rfl) rfl (Nat.le_of_ble_eq_true rfl) (fun r12 m13 => ?_)
      refine ev_aload_n (q := 51) dX7_crossOut_50 rfl 0 rfl rfl ?_
      refine ev_iload_n (q := 52) dX7_crossOut_51 rfl 1 rfl rfl ?_
      refine ev_iload_n (q := 53) dX7_crossOut_52 rfl 2 rfl rfl ?_
      refine ev_aload_n (q := 54) dX7_crossOut_53 rfl 0 rfl rfl ?_
      refine ev_getR (q := 57) (ci := 7) (j := 5) (T := TX7) dX7_crossOut_54 rfl cf_7 ho hj_7_5 hc_7 gf_X7_22 rfl ?_
      refine ev_bipush (q := 59) (v := 11) dX7_crossOut_57 rfl lb_11 ?_
      refine ev_iload_n (q := 60) dX7_crossOut_59 rfl 2 rfl rfl ?_
      refine ev_iadd (q := 61) dX7_crossOut_60 rfl ?_
      refine ev_iald (q := 62) dX7_crossOut_61 rfl (kr_7_5 ho) (fun z14 => ?_)
      refine ev_iload_n (q := 63) dX7_crossOut_62 rfl 3 rfl rfl ?_
      refine ev_isub (q := 64) dX7_crossOut_63 rfl ?_
      refine ev_callVI (q := 67) dX7_crossOut_64 rfl ml_X7_113 mt_X7_costBy cf_7 rfl ho hc_7 (con_X7_costBy G _ _ _ _ ho _) rfl (Nat.le_of_ble_eq_true rfl) (Nat.le_of_ble_eq_true rfl) rfl (Nat.le_of_ble_eq_true rfl) (fun r15 m16 => ?_)
      refine ev_iadd (q := 68) dX7_crossOut_67 rfl ?_
      refine ev_aload_n (q := 69) dX7_crossOut_68 rfl 0 rfl rfl ?_
      refine ev_iload_n (q := 70) dX7_crossOut_69 rfl 1 rfl rfl ?_
      refine ev_callVI (q := 73) dX7_crossOut_70 rfl ml_X7_95 mt_X7_span cf_7 rfl ho hc_7 (con_X7_span G _ _ ho _) rfl (Nat.le_of_ble_eq_true rfl) (Nat.le_of_ble_eq_true rfl) rfl (Nat.le_of_ble_eq_true rfl) (fun r17 m18 => ?_)
      refine ev_icmp_ge (t := 78) (q := 76) dX7_crossOut_73 rfl rfl (fun hc19 => ?_) (fun hc19 => ?_)
      · refine ev_iload_n (q := 77) dX7_crossOut_76 rfl 3 rfl rfl ?_
        exact ev_iret dX7_crossOut_77 rfl
      · refine ev_iinc (q := 81) (lv2 := [(3, .int _), (0, .ref _), (1, .int _), (2, .int _)]) (v := x3 + 1) dX7_crossOut_78 3 rfl rfl (congrArg (HAdd.hAdd _) li_1) (Nat.le_of_ble_eq_true rfl) rfl ?_
        refine ev_goto (t := 32) dX7_crossOut_81 rfl ?_
        refine ev_sub (lv' := [(0, .ref _), (1, .int _), (2, .int _), (3, .int _)]) [1, 2, 3, 0] rfl ?_
        exact ih _ _ _ _
    · refine ev_ldc (q := 86) (v := (-1000000)) dX7_crossOut_84 rfl kc_X7_222 ?_
      exact ev_iret dX7_crossOut_86 rfl
set_option maxRecDepth 100000 in
set_option maxHeartbeats 4000000 in
theorem con_X7_crossOut (G : Gt) (o : Nat) (a1 : Int32) (a2 : Int32) (ho : kd o = 7) (mem : Mem) : Con tvI G yX7_crossOut cX7_crossOut 4 (some .int) 4 [.ref (gA G o), .int a1, .int a2] mem (X7_crossOut o a1 a2 mem) := by
  refine con_of (by decide) (Nat.le_of_ble_eq_true rfl) ?_
  show EvR tvI G cX7_crossOut 4 (some .int) RX7 4 0 [(0, .ref (gA G o)), (1, .int (a1)), (2, .int (a2))] [] mem _
  unfold X7_crossOut
  refine ev_aload_n (q := 1) dX7_crossOut_0 rfl 0 rfl rfl ?_
  refine ev_iload_n (q := 2) dX7_crossOut_1 rfl 1 rfl rfl ?_
  refine ev_callVI (q := 5) dX7_crossOut_2 rfl ml_X7_180 mt_X7_isReader cf_7 rfl ho hc_7 (con_X7_isReader G _ _ ho _) rfl (Nat.le_of_ble_eq_true rfl) (Nat.le_of_ble_eq_true rfl) rfl (Nat.le_of_ble_eq_true rfl) (fun r1 m2 => ?_)
  refine ev_if_eq (t := 16) (q := 8) dX7_crossOut_5 rfl rfl (fun hc3 => ?_) (fun hc3 => ?_)
  · refine ev_ldc (q := 18) (v := (-1000001)) dX7_crossOut_16 rfl kc_X7_73 ?_
    exact ev_iret dX7_crossOut_18 rfl
  · refine ev_aload_n (q := 9) dX7_crossOut_8 rfl 0 rfl rfl ?_
    refine ev_iload_n (q := 10) dX7_crossOut_9 rfl 2 rfl rfl ?_
    refine ev_callVI (q := 13) dX7_crossOut_10 rfl ml_X7_183 mt_X7_isLetter cf_7 rfl ho hc_7 (con_X7_isLetter G _ _ ho _) rfl (Nat.le_of_ble_eq_true rfl) (Nat.le_of_ble_eq_true rfl) rfl (Nat.le_of_ble_eq_true rfl) (fun r4 m5 => ?_)
    refine ev_if_ne (t := 19) (q := 16) dX7_crossOut_13 rfl rfl (fun hc6 => ?_) (fun hc6 => ?_)
    · refine ev_ldc (q := 18) (v := (-1000001)) dX7_crossOut_16 rfl kc_X7_73 ?_
      exact ev_iret dX7_crossOut_18 rfl
    · refine ev_aload_n (q := 20) dX7_crossOut_19 rfl 0 rfl rfl ?_
      refine ev_iload_n (q := 21) dX7_crossOut_20 rfl 1 rfl rfl ?_
      refine ev_callVI (q := 24) dX7_crossOut_21 rfl ml_X7_98 mt_X7_isAlive cf_7 rfl ho hc_7 (con_X7_isAlive G _ _ ho _) rfl (Nat.le_of_ble_eq_true rfl) (Nat.le_of_ble_eq_true rfl) rfl (Nat.le_of_ble_eq_true rfl) (fun r7 m8 => ?_)
      refine ev_if_ne (t := 30) (q := 27) dX7_crossOut_24 rfl rfl (fun hc9 => ?_) (fun hc9 => ?_)
      · refine ev_ldc (q := 29) (v := (-1000002)) dX7_crossOut_27 rfl kc_X7_189 ?_
        exact ev_iret dX7_crossOut_29 rfl
      · refine ev_iconst (q := 31) (v := 0) dX7_crossOut_30 rfl li_0 ?_
        refine ev_istore_n (q := 32) (lv2 := [(3, .int _), (0, .ref _), (1, .int _), (2, .int _)]) dX7_crossOut_31 rfl rfl (Nat.le_of_ble_eq_true rfl) rfl ?_
        refine ev_sub (lv' := [(0, .ref _), (1, .int _), (2, .int _), (3, .int _)]) [1, 2, 3, 0] rfl ?_
        exact X7_crossOut_b32_ok G o ho   fu _ _ _ _
/-! AgingLettersModel.dies(I)I -/
theorem dX7_dies_0 : decode cX7_dies 0 = .ok (.aload_n 0, 1) := by decide +kernel
theorem dX7_dies_1 : decode cX7_dies 1 = .ok (.iload_n 1, 1) := by decide +kernel
theorem dX7_dies_2 : decode cX7_dies 2 = .ok (.invokevirtual 180, 3) := by decide +kernel
theorem dX7_dies_5 : decode cX7_dies 5 = .ok (.ifCond .ne 6, 3) := by decide +kernel
theorem dX7_dies_8 : decode cX7_dies 8 = .ok (.ldc 73, 2) := by decide +kernel
theorem dX7_dies_10 : decode cX7_dies 10 = .ok (.ireturn, 1) := by decide +kernel
theorem dX7_dies_11 : decode cX7_dies 11 = .ok (.aload_n 0, 1) := by decide +kernel
theorem dX7_dies_12 : decode cX7_dies 12 = .ok (.iload_n 1, 1) := by decide +kernel
theorem dX7_dies_13 : decode cX7_dies 13 = .ok (.invokevirtual 98, 3) := by decide +kernel
theorem dX7_dies_16 : decode cX7_dies 16 = .ok (.ifCond .eq 24, 3) := by decide +kernel
theorem dX7_dies_19 : decode cX7_dies 19 = .ok (.aload_n 0, 1) := by decide +kernel
theorem dX7_dies_20 : decode cX7_dies 20 = .ok (.getfield 22, 3) := by decide +kernel
theorem dX7_dies_23 : decode cX7_dies 23 = .ok (.iconst 4, 1) := by decide +kernel
theorem dX7_dies_24 : decode cX7_dies 24 = .ok (.iaload, 1) := by decide +kernel
theorem dX7_dies_25 : decode cX7_dies 25 = .ok (.aload_n 0, 1) := by decide +kernel
theorem dX7_dies_26 : decode cX7_dies 26 = .ok (.iload_n 1, 1) := by decide +kernel
theorem dX7_dies_27 : decode cX7_dies 27 = .ok (.invokevirtual 95, 3) := by decide +kernel
theorem dX7_dies_30 : decode cX7_dies 30 = .ok (.iadd, 1) := by decide +kernel
theorem dX7_dies_31 : decode cX7_dies 31 = .ok (.aload_n 0, 1) := by decide +kernel
theorem dX7_dies_32 : decode cX7_dies 32 = .ok (.iload_n 1, 1) := by decide +kernel
theorem dX7_dies_33 : decode cX7_dies 33 = .ok (.invokevirtual 92, 3) := by decide +kernel
theorem dX7_dies_36 : decode cX7_dies 36 = .ok (.isub, 1) := by decide +kernel
theorem dX7_dies_37 : decode cX7_dies 37 = .ok (.goto 5, 3) := by decide +kernel
theorem dX7_dies_40 : decode cX7_dies 40 = .ok (.ldc 222, 2) := by decide +kernel
theorem dX7_dies_42 : decode cX7_dies 42 = .ok (.ireturn, 1) := by decide +kernel
set_option maxRecDepth 100000 in
set_option maxHeartbeats 4000000 in
theorem con_X7_dies (G : Gt) (o : Nat) (a1 : Int32) (ho : kd o = 7) (mem : Mem) : Con tvI G yX7_dies cX7_dies 2 (some .int) 3 [.ref (gA G o), .int a1] mem (X7_dies o a1 mem) := by
  refine con_of (by decide) (Nat.le_of_ble_eq_true rfl) ?_
  show EvR tvI G cX7_dies 2 (some .int) RX7 3 0 [(0, .ref (gA G o)), (1, .int (a1))] [] mem _
  unfold X7_dies
  refine ev_aload_n (q := 1) dX7_dies_0 rfl 0 rfl rfl ?_
  refine ev_iload_n (q := 2) dX7_dies_1 rfl 1 rfl rfl ?_
  refine ev_callVI (q := 5) dX7_dies_2 rfl ml_X7_180 mt_X7_isReader cf_7 rfl ho hc_7 (con_X7_isReader G _ _ ho _) rfl (Nat.le_of_ble_eq_true rfl) (Nat.le_of_ble_eq_true rfl) rfl (Nat.le_of_ble_eq_true rfl) (fun r1 m2 => ?_)
  refine ev_if_ne (t := 11) (q := 8) dX7_dies_5 rfl rfl (fun hc3 => ?_) (fun hc3 => ?_)
  · refine ev_ldc (q := 10) (v := (-1000001)) dX7_dies_8 rfl kc_X7_73 ?_
    exact ev_iret dX7_dies_10 rfl
  · refine ev_aload_n (q := 12) dX7_dies_11 rfl 0 rfl rfl ?_
    refine ev_iload_n (q := 13) dX7_dies_12 rfl 1 rfl rfl ?_
    refine ev_callVI (q := 16) dX7_dies_13 rfl ml_X7_98 mt_X7_isAlive cf_7 rfl ho hc_7 (con_X7_isAlive G _ _ ho _) rfl (Nat.le_of_ble_eq_true rfl) (Nat.le_of_ble_eq_true rfl) rfl (Nat.le_of_ble_eq_true rfl) (fun r4 m5 => ?_)
    refine ev_if_eq (t := 40) (q := 19) dX7_dies_16 rfl rfl (fun hc6 => ?_) (fun hc6 => ?_)
    · refine ev_ldc (q := 42) (v := (-1000000)) dX7_dies_40 rfl kc_X7_222 ?_
      exact ev_iret dX7_dies_42 rfl
    · refine ev_aload_n (q := 20) dX7_dies_19 rfl 0 rfl rfl ?_
      refine ev_getR (q := 23) (ci := 7) (j := 5) (T := TX7) dX7_dies_20 rfl cf_7 ho hj_7_5 hc_7 gf_X7_22 rfl ?_
      refine ev_iconst (q := 24) (v := 4) dX7_dies_23 rfl li_4 ?_
      refine ev_iald (q := 25) dX7_dies_24 rfl (kr_7_5 ho) (fun z7 => ?_)
      refine ev_aload_n (q := 26) dX7_dies_25 rfl 0 rfl rfl ?_
      refine ev_iload_n (q := 27) dX7_dies_26 rfl 1 rfl rfl ?_
      refine ev_callVI (q := 30) dX7_dies_27 rfl ml_X7_95 mt_X7_span cf_7 rfl ho hc_7 (con_X7_span G _ _ ho _) rfl (Nat.le_of_ble_eq_true rfl) (Nat.le_of_ble_eq_true rfl) rfl (Nat.le_of_ble_eq_true rfl) (fun r8 m9 => ?_)
      refine ev_iadd (q := 31) dX7_dies_30 rfl ?_
      refine ev_aload_n (q := 32) dX7_dies_31 rfl 0 rfl rfl ?_
      refine ev_iload_n (q := 33) dX7_dies_32 rfl 1 rfl rfl ?_
      refine ev_callVI (q := 36) dX7_dies_33 rfl ml_X7_92 mt_X7_age cf_7 rfl ho hc_7 (con_X7_age G _ _ ho _) rfl (Nat.le_of_ble_eq_true rfl) (Nat.le_of_ble_eq_true rfl) rfl (Nat.le_of_ble_eq_true rfl) (fun r10 m11 => ?_)
      refine ev_isub (q := 37) dX7_dies_36 rfl ?_
      refine ev_goto (t := 42) dX7_dies_37 rfl ?_
      exact ev_iret dX7_dies_42 rfl
/-! AgingLettersModel.late(I)I -/
theorem dX7_late_0 : decode cX7_late 0 = .ok (.aload_n 0, 1) := by decide +kernel
theorem dX7_late_1 : decode cX7_late 1 = .ok (.getfield 22, 3) := by decide +kernel
theorem dX7_late_4 : decode cX7_late 4 = .ok (.iconst 0, 1) := by decide +kernel
theorem dX7_late_5 : decode cX7_late 5 = .ok (.iaload, 1) := by decide +kernel
theorem dX7_late_6 : decode cX7_late 6 = .ok (.ifCond .ne 6, 3) := by decide +kernel
theorem dX7_late_9 : decode cX7_late 9 = .ok (.ldc 189, 2) := by decide +kernel
theorem dX7_late_11 : decode cX7_late 11 = .ok (.ireturn, 1) := by decide +kernel
theorem dX7_late_12 : decode cX7_late 12 = .ok (.iload_n 1, 1) := by decide +kernel
theorem dX7_late_13 : decode cX7_late 13 = .ok (.i2l, 1) := by decide +kernel
theorem dX7_late_14 : decode cX7_late 14 = .ok (.lconst 0, 1) := by decide +kernel
theorem dX7_late_15 : decode cX7_late 15 = .ok (.ldc2_w 239, 3) := by decide +kernel
theorem dX7_late_18 : decode cX7_late 18 = .ok (.invokestatic 63, 3) := by decide +kernel
theorem dX7_late_21 : decode cX7_late 21 = .ok (.ifCond .ne 6, 3) := by decide +kernel
theorem dX7_late_24 : decode cX7_late 24 = .ok (.ldc 73, 2) := by decide +kernel
theorem dX7_late_26 : decode cX7_late 26 = .ok (.ireturn, 1) := by decide +kernel
theorem dX7_late_27 : decode cX7_late 27 = .ok (.iconst 0, 1) := by decide +kernel
theorem dX7_late_28 : decode cX7_late 28 = .ok (.istore_n 2, 1) := by decide +kernel
theorem dX7_late_29 : decode cX7_late 29 = .ok (.iconst 0, 1) := by decide +kernel
theorem dX7_late_30 : decode cX7_late 30 = .ok (.istore_n 3, 1) := by decide +kernel
theorem dX7_late_31 : decode cX7_late 31 = .ok (.iload_n 3, 1) := by decide +kernel
theorem dX7_late_32 : decode cX7_late 32 = .ok (.aload_n 0, 1) := by decide +kernel
theorem dX7_late_33 : decode cX7_late 33 = .ok (.invokevirtual 85, 3) := by decide +kernel
theorem dX7_late_36 : decode cX7_late 36 = .ok (.if_icmp .ge 39, 3) := by decide +kernel
theorem dX7_late_39 : decode cX7_late 39 = .ok (.iload_n 2, 1) := by decide +kernel
theorem dX7_late_40 : decode cX7_late 40 = .ok (.aload_n 0, 1) := by decide +kernel
theorem dX7_late_41 : decode cX7_late 41 = .ok (.getfield 22, 3) := by decide +kernel
theorem dX7_late_44 : decode cX7_late 44 = .ok (.bipush 17, 2) := by decide +kernel
theorem dX7_late_46 : decode cX7_late 46 = .ok (.iload_n 3, 1) := by decide +kernel
theorem dX7_late_47 : decode cX7_late 47 = .ok (.iadd, 1) := by decide +kernel
theorem dX7_late_48 : decode cX7_late 48 = .ok (.iaload, 1) := by decide +kernel
theorem dX7_late_49 : decode cX7_late 49 = .ok (.aload_n 0, 1) := by decide +kernel
theorem dX7_late_50 : decode cX7_late 50 = .ok (.getfield 22, 3) := by decide +kernel
theorem dX7_late_53 : decode cX7_late 53 = .ok (.iconst 4, 1) := by decide +kernel
theorem dX7_late_54 : decode cX7_late 54 = .ok (.iaload, 1) := by decide +kernel
theorem dX7_late_55 : decode cX7_late 55 = .ok (.iload_n 1, 1) := by decide +kernel
theorem dX7_late_56 : decode cX7_late 56 = .ok (.iadd, 1) := by decide +kernel
theorem dX7_late_57 : decode cX7_late 57 = .ok (.if_icmp .ge 9, 3) := by decide +kernel
theorem dX7_late_60 : decode cX7_late 60 = .ok (.iconst 1, 1) := by decide +kernel
theorem dX7_late_61 : decode cX7_late 61 = .ok (.iload_n 3, 1) := by decide +kernel
theorem dX7_late_62 : decode cX7_late 62 = .ok (.ishl, 1) := by decide +kernel
theorem dX7_late_63 : decode cX7_late 63 = .ok (.goto 4, 3) := by decide +kernel
theorem dX7_late_66 : decode cX7_late 66 = .ok (.iconst 0, 1) := by decide +kernel
theorem dX7_late_67 : decode cX7_late 67 = .ok (.ior, 1) := by decide +kernel
theorem dX7_late_68 : decode cX7_late 68 = .ok (.istore_n 2, 1) := by decide +kernel
theorem dX7_late_69 : decode cX7_late 69 = .ok (.iinc 3 1, 3) := by decide +kernel
theorem dX7_late_72 : decode cX7_late 72 = .ok (.goto (-41), 3) := by decide +kernel
theorem dX7_late_75 : decode cX7_late 75 = .ok (.iload_n 2, 1) := by decide +kernel
theorem dX7_late_76 : decode cX7_late 76 = .ok (.aload_n 0, 1) := by decide +kernel
theorem dX7_late_77 : decode cX7_late 77 = .ok (.invokevirtual 223, 3) := by decide +kernel
theorem dX7_late_80 : decode cX7_late 80 = .ok (.iand, 1) := by decide +kernel
theorem dX7_late_81 : decode cX7_late 81 = .ok (.ireturn, 1) := by decide +kernel
set_option maxRecDepth 100000 in
set_option maxHeartbeats 4000000 in
theorem X7_late_b67_ok (G : Gt) (o : Nat) (ho : kd o = 7)   (k31 : Int32 → Int32 → Int32 → Mem → Option (Int32 × Mem)) (hk31 : ∀ (x1 : Int32) (x2 : Int32) (x3 : Int32) (mem : Mem), EvR tvI G cX7_late 4 (some .int) RX7 4 31 [(0, .ref (gA G o)), (1, .int (x1)), (2, .int (x2)), (3, .int (x3))] [] mem (k31 x1 x2 x3 mem)) (x1 : Int32) (x3 : Int32) (s0 : Int32) (s1 : Int32) (mem : Mem) : EvR tvI G cX7_late 4 (some .int) RX7 4 67 [(0, .ref (gA G o)), (1, .int (x1)), (3, .int (x3))] [.int (s1), .int (s0)] mem (X7_late_b67 o k31 x1 x3 s0 s1 mem) := by
  unfold X7_late_b67
  refine ev_ior (q := 68) dX7_late_67 rfl ?_
  refine ev_istore_n (q := 69) (lv2 := [(2, .int _), (0, .ref _), (1, .int _), (3, .int _)]) dX7_late_68 rfl rfl (Nat.le_of_ble_eq_true rfl) rfl ?_
  refine ev_iinc (q := 72) (lv2 := [(3, .int _), (2, .int _), (0, .ref _), (1, .int _)]) (v := x3 + 1) dX7_late_69 3 rfl rfl (congrArg (HAdd.hAdd _) li_1) (Nat.le_of_ble_eq_true rfl) rfl ?_
  refine ev_goto (t := 31) dX7_late_72 rfl ?_
  refine ev_sub (lv' := [(0, .ref _), (1, .int _), (2, .int _), (3, .int _)]) [2, 3, 1, 0] rfl ?_
  exact hk31 _ _ _ _
set_option maxRecDepth 100000 in
set_option maxHeartbeats 4000000 in
theorem X7_late_b31_ok (G : Gt) (o : Nat) (ho : kd o = 7)    : ∀ (n : Nat) (x1 : Int32) (x2 : Int32) (x3 : Int32) (mem : Mem), EvR tvI G cX7_late 4 (some .int) RX7 4 31 [(0, .ref (gA G o)), (1, .int (x1)), (2, .int (x2)), (3, .int (x3))] [] mem (X7_late_b31 o n x1 x2 x3 mem) := by
  intro n
  induction n with
  | zero => intros; exact ev_none
  | succ n ih =>
    intro x1 x2 x3 mem
    rw [X7_late_b31]
    refine ev_iload_n (q := 32) dX7_late_31 rfl 3 rfl rfl ?_
    refine ev_aload_n (q := 33) dX7_late_32 rfl 0 rfl rfl ?_
    refine ev_callVI (q := 36) dX7_late_33 rfl ml_X7_85 mt_X7_letters cf_7 rfl ho hc_7 (con_X7_letters G _ ho _) rfl (Nat.le_of_ble_eq_true rfl) (Nat.le_of_ble_eq_true rfl) rfl (Nat.le_of_ble_eq_true rfl) (fun r6 m7 => ?_)
    refine ev_icmp_ge (t := 75) (q := 39) dX7_late_36 rfl rfl (fun hc8 => ?_) (fun hc8 => ?_)
    · refine ev_iload_n (q := 40) dX7_late_39 rfl 2 rfl rfl ?_
      refine ev_aload_n (q := 41) dX7_late_40 rfl 0 rfl rfl ?_
      refine ev_getR (q := 44) (ci := 7) (j := 5) (T := TX7) dX7_late_41 rfl cf_7 ho hj_7_5 hc_7 gf_X7_22 rfl ?_
      refine ev_bipush (q := 46) (v := 17) dX7_late_44 rfl lb_17 ?_
      refine ev_iload_n (q := 47) dX7_late_46 rfl 3 rfl rfl ?_
      refine ev_iadd (q := 48) dX7_late_47 rfl ?_
      refine ev_iald (q := 49) dX7_late_48 rfl (kr_7_5 ho) (fun z11 => ?_)
      refine ev_aload_n (q := 50) dX7_late_49 rfl 0 rfl rfl ?_
      refine ev_getR (q := 53) (ci := 7) (j := 5) (T := TX7) dX7_late_50 rfl cf_7 ho hj_7_5 hc_7 gf_X7_22 rfl ?_
      refine ev_iconst (q := 54) (v := 4) dX7_late_53 rfl li_4 ?_
      refine ev_iald (q := 55) dX7_late_54 rfl (kr_7_5 ho) (fun z12 => ?_)
      refine ev_iload_n (q := 56) dX7_late_55 rfl 1 rfl rfl ?_
      refine ev_iadd (q := 57) dX7_late_56 rfl ?_
      refine ev_icmp_ge (t := 66) (q := 60) dX7_late_57 rfl rfl (fun hc13 => ?_) (fun hc13 => ?_)
      · refine ev_iconst (q := 61) (v := 1) dX7_late_60 rfl li_1 ?_
        refine ev_iload_n (q := 62) dX7_late_61 rfl 3 rfl rfl ?_
        refine ev_ishl (q := 63) dX7_late_62 rfl ?_
        refine ev_goto (t := 67) dX7_late_63 rfl ?_
        refine ev_sub (lv' := [(0, .ref _), (1, .int _), (3, .int _)]) [0, 1, 3] rfl ?_
        exact X7_late_b67_ok G o ho  (X7_late_b31 o n) ih _ _ _ _ _
      · refine ev_iconst (q := 67) (v := 0) dX7_late_66 rfl li_0 ?_
        refine ev_sub (lv' := [(0, .ref _), (1, .int _), (3, .int _)]) [0, 1, 3] rfl ?_
        exact X7_late_b67_ok G o ho  (X7_late_b31 o n) ih _ _ _ _ _
    · refine ev_iload_n (q := 76) dX7_late_75 rfl 2 rfl rfl ?_
      refine ev_aload_n (q := 77) dX7_late_76 rfl 0 rfl rfl ?_
      refine ev_callVI (q := 80) dX7_late_77 rfl ml_X7_223 mt_X7_unread cf_7 rfl ho hc_7 (con_X7_unread G _ ho _) rfl (Nat.le_of_ble_eq_true rfl) (Nat.le_of_ble_eq_true rfl) rfl (Nat.le_of_ble_eq_true rfl) (fun r9 m10 => ?_)
      refine ev_iand (q := 81) dX7_late_80 rfl ?_
      exact ev_iret dX7_late_81 rfl
set_option maxRecDepth 100000 in
set_option maxHeartbeats 4000000 in
theorem con_X7_late (G : Gt) (o : Nat) (a1 : Int32) (ho : kd o = 7) (mem : Mem) : Con tvI G yX7_late cX7_late 4 (some .int) 4 [.ref (gA G o), .int a1] mem (X7_late o a1 mem) := by
  refine con_of (by decide) (Nat.le_of_ble_eq_true rfl) ?_
  show EvR tvI G cX7_late 4 (some .int) RX7 4 0 [(0, .ref (gA G o)), (1, .int (a1))] [] mem _
  unfold X7_late
  refine ev_aload_n (q := 1) dX7_late_0 rfl 0 rfl rfl ?_
  refine ev_getR (q := 4) (ci := 7) (j := 5) (T := TX7) dX7_late_1 rfl cf_7 ho hj_7_5 hc_7 gf_X7_22 rfl ?_
  refine ev_iconst (q := 5) (v := 0) dX7_late_4 rfl li_0 ?_
  refine ev_iald (q := 6) dX7_late_5 rfl (kr_7_5 ho) (fun z1 => ?_)
  refine ev_if_ne (t := 12) (q := 9) dX7_late_6 rfl rfl (fun hc2 => ?_) (fun hc2 => ?_)
  · refine ev_ldc (q := 11) (v := (-1000002)) dX7_late_9 rfl kc_X7_189 ?_
    exact ev_iret dX7_late_11 rfl
  · refine ev_iload_n (q := 13) dX7_late_12 rfl 1 rfl rfl ?_
    refine ev_i2l (q := 14) dX7_late_13 rfl ?_
    refine ev_lconst (q := 15) (v := 0) dX7_late_14 rfl ll_0 ?_
    refine ev_ldc2 (q := 18) (v := 99) dX7_late_15 rfl kc_X7_239 ?_
    refine ev_callSI (q := 21) dX7_late_18 rfl ml_X7_63 mt_X7_in (con_X7_in G _ _ _  _) rfl (Nat.le_of_ble_eq_true rfl) (Nat.le_of_ble_eq_true rfl) rfl (Nat.le_of_ble_eq_true rfl) (fun r3 m4 => ?_)
    refine ev_if_ne (t := 27) (q := 24) dX7_late_21 rfl rfl (fun hc5 => ?_) (fun hc5 => ?_)
    · refine ev_ldc (q := 26) (v := (-1000001)) dX7_late_24 rfl kc_X7_73 ?_
      exact ev_iret dX7_late_26 rfl
    · refine ev_iconst (q := 28) (v := 0) dX7_late_27 rfl li_0 ?_
      refine ev_istore_n (q := 29) (lv2 := [(2, .int _), (0, .ref _), (1, .int _)]) dX7_late_28 rfl rfl (Nat.le_of_ble_eq_true rfl) rfl ?_
      refine ev_iconst (q := 30) (v := 0) dX7_late_29 rfl li_0 ?_
      refine ev_istore_n (q := 31) (lv2 := [(3, .int _), (2, .int _), (0, .ref _), (1, .int _)]) dX7_late_30 rfl rfl (Nat.le_of_ble_eq_true rfl) rfl ?_
      refine ev_sub (lv' := [(0, .ref _), (1, .int _), (2, .int _), (3, .int _)]) [2, 3, 1, 0] rfl ?_
      exact X7_late_b31_ok G o ho   fu _ _ _ _
/-! AgingLettersModel.firstAll(I)I -/
theorem dX7_firstAll_0 : decode cX7_firstAll 0 = .ok (.iconst 0, 1) := by decide +kernel
theorem dX7_firstAll_1 : decode cX7_firstAll 1 = .ok (.istore_n 2, 1) := by decide +kernel
theorem dX7_firstAll_2 : decode cX7_firstAll 2 = .ok (.iconst 0, 1) := by decide +kernel
theorem dX7_firstAll_3 : decode cX7_firstAll 3 = .ok (.istore_n 3, 1) := by decide +kernel
theorem dX7_firstAll_4 : decode cX7_firstAll 4 = .ok (.iload_n 3, 1) := by decide +kernel
theorem dX7_firstAll_5 : decode cX7_firstAll 5 = .ok (.aload_n 0, 1) := by decide +kernel
theorem dX7_firstAll_6 : decode cX7_firstAll 6 = .ok (.invokevirtual 85, 3) := by decide +kernel
theorem dX7_firstAll_9 : decode cX7_firstAll 9 = .ok (.if_icmp .ge 41, 3) := by decide +kernel
theorem dX7_firstAll_12 : decode cX7_firstAll 12 = .ok (.iload_n 2, 1) := by decide +kernel
theorem dX7_firstAll_13 : decode cX7_firstAll 13 = .ok (.iload_n 1, 1) := by decide +kernel
theorem dX7_firstAll_14 : decode cX7_firstAll 14 = .ok (.iload_n 3, 1) := by decide +kernel
theorem dX7_firstAll_15 : decode cX7_firstAll 15 = .ok (.invokestatic 200, 3) := by decide +kernel
theorem dX7_firstAll_18 : decode cX7_firstAll 18 = .ok (.ifCond .eq 23, 3) := by decide +kernel
theorem dX7_firstAll_21 : decode cX7_firstAll 21 = .ok (.aload_n 0, 1) := by decide +kernel
theorem dX7_firstAll_22 : decode cX7_firstAll 22 = .ok (.iload_n 3, 1) := by decide +kernel
theorem dX7_firstAll_23 : decode cX7_firstAll 23 = .ok (.invokevirtual 107, 3) := by decide +kernel
theorem dX7_firstAll_26 : decode cX7_firstAll 26 = .ok (.aload_n 0, 1) := by decide +kernel
theorem dX7_firstAll_27 : decode cX7_firstAll 27 = .ok (.getfield 22, 3) := by decide +kernel
theorem dX7_firstAll_30 : decode cX7_firstAll 30 = .ok (.bipush 11, 2) := by decide +kernel
theorem dX7_firstAll_32 : decode cX7_firstAll 32 = .ok (.iload_n 3, 1) := by decide +kernel
theorem dX7_firstAll_33 : decode cX7_firstAll 33 = .ok (.iadd, 1) := by decide +kernel
theorem dX7_firstAll_34 : decode cX7_firstAll 34 = .ok (.iaload, 1) := by decide +kernel
theorem dX7_firstAll_35 : decode cX7_firstAll 35 = .ok (.invokestatic 110, 3) := by decide +kernel
theorem dX7_firstAll_38 : decode cX7_firstAll 38 = .ok (.goto 4, 3) := by decide +kernel
theorem dX7_firstAll_41 : decode cX7_firstAll 41 = .ok (.iconst 0, 1) := by decide +kernel
theorem dX7_firstAll_42 : decode cX7_firstAll 42 = .ok (.iadd, 1) := by decide +kernel
theorem dX7_firstAll_43 : decode cX7_firstAll 43 = .ok (.istore_n 2, 1) := by decide +kernel
theorem dX7_firstAll_44 : decode cX7_firstAll 44 = .ok (.iinc 3 1, 3) := by decide +kernel
theorem dX7_firstAll_47 : decode cX7_firstAll 47 = .ok (.goto (-43), 3) := by decide +kernel
theorem dX7_firstAll_50 : decode cX7_firstAll 50 = .ok (.iload_n 2, 1) := by decide +kernel
theorem dX7_firstAll_51 : decode cX7_firstAll 51 = .ok (.ireturn, 1) := by decide +kernel
set_option maxRecDepth 100000 in
set_option maxHeartbeats 4000000 in
theorem X7_firstAll_b42_ok (G : Gt) (o : Nat) (ho : kd o = 7)   (k4 : Int32 → Int32 → Int32 → Mem → Option (Int32 × Mem)) (hk4 : ∀ (x1 : Int32) (x2 : Int32) (x3 : Int32) (mem : Mem), EvR tvI G cX7_firstAll 4 (some .int) RX7 3 4 [(0, .ref (gA G o)), (1, .int (x1)), (2, .int (x2)), (3, .int (x3))] [] mem (k4 x1 x2 x3 mem)) (x1 : Int32) (x3 : Int32) (s0 : Int32) (s1 : Int32) (mem : Mem) : EvR tvI G cX7_firstAll 4 (some .int) RX7 3 42 [(0, .ref (gA G o)), (1, .int (x1)), (3, .int (x3))] [.int (s1), .int (s0)] mem (X7_firstAll_b42 o k4 x1 x3 s0 s1 mem) := by
  unfold X7_firstAll_b42
  refine ev_iadd (q := 43) dX7_firstAll_42 rfl ?_
  refine ev_istore_n (q := 44) (lv2 := [(2, .int _), (0, .ref _), (1, .int _), (3, .int _)]) dX7_firstAll_43 rfl rfl (Nat.le_of_ble_eq_true rfl) rfl ?_
  refine ev_iinc (q := 47) (lv2 := [(3, .int _), (2, .int _), (0, .ref _), (1, .int _)]) (v := x3 + 1) dX7_firstAll_44 3 rfl rfl (congrArg (HAdd.hAdd _) li_1) (Nat.le_of_ble_eq_true rfl) rfl ?_
  refine ev_goto (t := 4) dX7_firstAll_47 rfl ?_
  refine ev_sub (lv' := [(0, .ref _), (1, .int _), (2, .int _), (3, .int _)]) [2, 3, 1, 0] rfl ?_
  exact hk4 _ _ _ _
set_option maxRecDepth 100000 in
set_option maxHeartbeats 4000000 in
theorem X7_firstAll_b4_ok (G : Gt) (o : Nat) (ho : kd o = 7)    : ∀ (n : Nat) (x1 : Int32) (x2 : Int32) (x3 : Int32) (mem : Mem), EvR tvI G cX7_firstAll 4 (some .int) RX7 3 4 [(0, .ref (gA G o)), (1, .int (x1)), (2, .int (x2)), (3, .int (x3))] [] mem (X7_firstAll_b4 o n x1 x2 x3 mem) := by
  intro n
  induction n with
  | zero => intros; exact ev_none
  | succ n ih =>
    intro x1 x2 x3 mem
    rw [X7_firstAll_b4]
    refine ev_iload_n (q := 5) dX7_firstAll_4 rfl 3 rfl rfl ?_
    refine ev_aload_n (q := 6) dX7_firstAll_5 rfl 0 rfl rfl ?_
    refine ev_callVI (q := 9) dX7_firstAll_6 rfl ml_X7_85 mt_X7_letters cf_7 rfl ho hc_7 (con_X7_letters G _ ho _) rfl (Nat.le_of_ble_eq_true rfl) (Nat.le_of_ble_eq_true rfl) rfl (Nat.le_of_ble_eq_true rfl) (fun r1 m2 => ?_)
    refine ev_icmp_ge (t := 50) (q := 12) dX7_firstAll_9 rfl rfl (fun hc3 => ?_) (fun hc3 => ?_)
    · refine ev_iload_n (q := 13) dX7_firstAll_12 rfl 2 rfl rfl ?_
      refine ev_iload_n (q := 14) dX7_firstAll_13 rfl 1 rfl rfl ?_
      refine ev_iload_n (q := 15) dX7_firstAll_14 rfl 3 rfl rfl ?_
      refine ev_callSI (q := 18) dX7_firstAll_15 rfl ml_X7_200 mt_X7_has (con_X7_has G _ _  _) rfl (Nat.le_of_ble_eq_true rfl) (Nat.le_of_ble_eq_true rfl) rfl (Nat.le_of_ble_eq_true rfl) (fun r4 m5 => ?_)
      refine ev_if_eq (t := 41) (q := 21) dX7_firstAll_18 rfl rfl (fun hc6 => ?_) (fun hc6 => ?_)
      · refine ev_iconst (q := 42) (v := 0) dX7_firstAll_41 rfl li_0 ?_
        refine ev_sub (lv' := [(0, .ref _), (1, .int _), (3, .int _)]) [0, 1, 3] rfl ?_
        exact X7_firstAll_b42_ok G o ho  (X7_firstAll_b4 o n) ih _ _ _ _ _
      · refine ev_aload_n (q := 22) dX7_firstAll_21 rfl 0 rfl rfl ?_
        refine ev_iload_n (q := 23) dX7_firstAll_22 rfl 3 rfl rfl ?_
        refine ev_callVI (q := 26) dX7_firstAll_23 rfl ml_X7_107 mt_X7_sort cf_7 rfl ho hc_7 (con_X7_sort G _ _ ho _) rfl (Nat.le_of_ble_eq_true rfl) (Nat.le_of_ble_eq_true rfl) rfl (Nat.le_of_ble_eq_true rfl) (fun r7 m8 => ?_)
        refine ev_aload_n (q := 27) dX7_firstAll_26 rfl 0 rfl rfl ?_
        refine ev_getR (q := 30) (ci := 7) (j := 5) (T := TX7) dX7_firstAll_27 rfl cf_7 ho hj_7_5 hc_7 gf_X7_22 rfl ?_
        refine ev_bipush (q := 32) (v := 11) dX7_firstAll_30 rfl lb_11 ?_
        refine ev_iload_n (q := 33) dX7_firstAll_32 rfl 3 rfl rfl ?_
        refine ev_iadd (q := 34) dX7_firstAll_33 rfl ?_
        refine ev_iald (q := 35) dX7_firstAll_34 rfl (kr_7_5 ho) (fun z9 => ?_)
        refine ev_callSI (q := 38) dX7_firstAll_35 rfl ml_X7_110 mt_X7_firstCost (con_X7_firstCost G _ _  _) rfl (Nat.le_of_ble_eq_true rfl) (Nat.le_of_ble_eq_true rfl) rfl (Nat.le_of_ble_eq_true rfl) (fun r10 m11 => ?_)
        refine ev_goto (t := 42) dX7_firstAll_38 rfl ?_
        refine ev_sub (lv' := [(0, .ref _), (1, .int _), (3, .int _)]) [0, 1, 3] rfl ?_
        exact X7_firstAll_b42_ok G o ho  (X7_firstAll_b4 o n) ih _ _ _ _ _
    · refine ev_iload_n (q := 51) dX7_firstAll_50 rfl 2 rfl rfl ?_
      exact ev_iret dX7_firstAll_51 rfl
set_option maxRecDepth 100000 in
set_option maxHeartbeats 4000000 in
theorem con_X7_firstAll (G : Gt) (o : Nat) (a1 : Int32) (ho : kd o = 7) (mem : Mem) : Con tvI G yX7_firstAll cX7_firstAll 4 (some .int) 3 [.ref (gA G o), .int a1] mem (X7_firstAll o a1 mem) := by
  refine con_of (by decide) (Nat.le_of_ble_eq_true rfl) ?_
  show EvR tvI G cX7_firstAll 4 (some .int) RX7 3 0 [(0, .ref (gA G o)), (1, .int (a1))] [] mem _
  unfold X7_firstAll
  refine ev_iconst (q := 1) (v := 0) dX7_firstAll_0 rfl li_0 ?_
  refine ev_istore_n (q := 2) (lv2 := [(2, .int _), (0, .ref _), (1, .int _)]) dX7_firstAll_1 rfl rfl (Nat.le_of_ble_eq_true rfl) rfl ?_
  refine ev_iconst (q := 3) (v := 0) dX7_firstAll_2 rfl li_0 ?_
  refine ev_istore_n (q := 4) (lv2 := [(3, .int _), (2, .int _), (0, .ref _), (1, .int _)]) dX7_firstAll_3 rfl rfl (Nat.le_of_ble_eq_true rfl) rfl ?_
  refine ev_sub (lv' := [(0, .ref _), (1, .int _), (2, .int _), (3, .int _)]) [2, 3, 1, 0] rfl ?_
  exact X7_firstAll_b4_ok G o ho   fu _ _ _ _
/-! AgingLettersModel.soOld(III)I -/
theorem dX7_soOld_0 : decode cX7_soOld 0 = .ok (.aload_n 0, 1) := by decide +kernel
theorem dX7_soOld_1 : decode cX7_soOld 1 = .ok (.iload_n 1, 1) := by decide +kernel
theorem dX7_soOld_2 : decode cX7_soOld 2 = .ok (.invokevirtual 180, 3) := by decide +kernel
theorem dX7_soOld_5 : decode cX7_soOld 5 = .ok (.ifCond .eq 25, 3) := by decide +kernel
theorem dX7_soOld_8 : decode cX7_soOld 8 = .ok (.iload_n 2, 1) := by decide +kernel
theorem dX7_soOld_9 : decode cX7_soOld 9 = .ok (.i2l, 1) := by decide +kernel
theorem dX7_soOld_10 : decode cX7_soOld 10 = .ok (.lconst 0, 1) := by decide +kernel
theorem dX7_soOld_11 : decode cX7_soOld 11 = .ok (.ldc2_w 241, 3) := by decide +kernel
theorem dX7_soOld_14 : decode cX7_soOld 14 = .ok (.invokestatic 63, 3) := by decide +kernel
theorem dX7_soOld_17 : decode cX7_soOld 17 = .ok (.ifCond .eq 13, 3) := by decide +kernel
theorem dX7_soOld_20 : decode cX7_soOld 20 = .ok (.iload_n 3, 1) := by decide +kernel
theorem dX7_soOld_21 : decode cX7_soOld 21 = .ok (.i2l, 1) := by decide +kernel
theorem dX7_soOld_22 : decode cX7_soOld 22 = .ok (.lconst 0, 1) := by decide +kernel
theorem dX7_soOld_23 : decode cX7_soOld 23 = .ok (.lconst 1, 1) := by decide +kernel
theorem dX7_soOld_24 : decode cX7_soOld 24 = .ok (.invokestatic 63, 3) := by decide +kernel
theorem dX7_soOld_27 : decode cX7_soOld 27 = .ok (.ifCond .ne 6, 3) := by decide +kernel
theorem dX7_soOld_30 : decode cX7_soOld 30 = .ok (.ldc 73, 2) := by decide +kernel
theorem dX7_soOld_32 : decode cX7_soOld 32 = .ok (.ireturn, 1) := by decide +kernel
theorem dX7_soOld_33 : decode cX7_soOld 33 = .ok (.iconst 0, 1) := by decide +kernel
theorem dX7_soOld_34 : decode cX7_soOld 34 = .ok (.istore 4, 2) := by decide +kernel
theorem dX7_soOld_36 : decode cX7_soOld 36 = .ok (.ldc 222, 2) := by decide +kernel
theorem dX7_soOld_38 : decode cX7_soOld 38 = .ok (.istore 5, 2) := by decide +kernel
theorem dX7_soOld_40 : decode cX7_soOld 40 = .ok (.iconst 0, 1) := by decide +kernel
theorem dX7_soOld_41 : decode cX7_soOld 41 = .ok (.istore 6, 2) := by decide +kernel
theorem dX7_soOld_43 : decode cX7_soOld 43 = .ok (.iload 6, 2) := by decide +kernel
theorem dX7_soOld_45 : decode cX7_soOld 45 = .ok (.iconst 1, 1) := by decide +kernel
theorem dX7_soOld_46 : decode cX7_soOld 46 = .ok (.aload_n 0, 1) := by decide +kernel
theorem dX7_soOld_47 : decode cX7_soOld 47 = .ok (.invokevirtual 85, 3) := by decide +kernel
theorem dX7_soOld_50 : decode cX7_soOld 50 = .ok (.ishl, 1) := by decide +kernel
theorem dX7_soOld_51 : decode cX7_soOld 51 = .ok (.if_icmp .ge 77, 3) := by decide +kernel
theorem dX7_soOld_54 : decode cX7_soOld 54 = .ok (.aload_n 0, 1) := by decide +kernel
theorem dX7_soOld_55 : decode cX7_soOld 55 = .ok (.getfield 22, 3) := by decide +kernel
theorem dX7_soOld_58 : decode cX7_soOld 58 = .ok (.bipush 23, 2) := by decide +kernel
theorem dX7_soOld_60 : decode cX7_soOld 60 = .ok (.iload_n 1, 1) := by decide +kernel
theorem dX7_soOld_61 : decode cX7_soOld 61 = .ok (.iadd, 1) := by decide +kernel
theorem dX7_soOld_62 : decode cX7_soOld 62 = .ok (.iaload, 1) := by decide +kernel
theorem dX7_soOld_63 : decode cX7_soOld 63 = .ok (.aload_n 0, 1) := by decide +kernel
theorem dX7_soOld_64 : decode cX7_soOld 64 = .ok (.getfield 22, 3) := by decide +kernel
theorem dX7_soOld_67 : decode cX7_soOld 67 = .ok (.iconst 4, 1) := by decide +kernel
theorem dX7_soOld_68 : decode cX7_soOld 68 = .ok (.iaload, 1) := by decide +kernel
theorem dX7_soOld_69 : decode cX7_soOld 69 = .ok (.iadd, 1) := by decide +kernel
theorem dX7_soOld_70 : decode cX7_soOld 70 = .ok (.aload_n 0, 1) := by decide +kernel
theorem dX7_soOld_71 : decode cX7_soOld 71 = .ok (.iload 6, 2) := by decide +kernel
theorem dX7_soOld_73 : decode cX7_soOld 73 = .ok (.invokevirtual 243, 3) := by decide +kernel
theorem dX7_soOld_76 : decode cX7_soOld 76 = .ok (.iadd, 1) := by decide +kernel
theorem dX7_soOld_77 : decode cX7_soOld 77 = .ok (.iload_n 2, 1) := by decide +kernel
theorem dX7_soOld_78 : decode cX7_soOld 78 = .ok (.if_icmp .ne 7, 3) := by decide +kernel
theorem dX7_soOld_81 : decode cX7_soOld 81 = .ok (.iconst 1, 1) := by decide +kernel
theorem dX7_soOld_82 : decode cX7_soOld 82 = .ok (.goto 4, 3) := by decide +kernel
theorem dX7_soOld_85 : decode cX7_soOld 85 = .ok (.iconst 0, 1) := by decide +kernel
theorem dX7_soOld_86 : decode cX7_soOld 86 = .ok (.istore 7, 2) := by decide +kernel
theorem dX7_soOld_88 : decode cX7_soOld 88 = .ok (.iload 7, 2) := by decide +kernel
theorem dX7_soOld_90 : decode cX7_soOld 90 = .ok (.ifCond .eq 13, 3) := by decide +kernel
theorem dX7_soOld_93 : decode cX7_soOld 93 = .ok (.iload 4, 2) := by decide +kernel
theorem dX7_soOld_95 : decode cX7_soOld 95 = .ok (.ifCond .ne 8, 3) := by decide +kernel
theorem dX7_soOld_98 : decode cX7_soOld 98 = .ok (.iload 6, 2) := by decide +kernel
theorem dX7_soOld_100 : decode cX7_soOld 100 = .ok (.goto 5, 3) := by decide +kernel
theorem dX7_soOld_103 : decode cX7_soOld 103 = .ok (.iload 5, 2) := by decide +kernel
theorem dX7_soOld_105 : decode cX7_soOld 105 = .ok (.istore 5, 2) := by decide +kernel
theorem dX7_soOld_107 : decode cX7_soOld 107 = .ok (.iload 4, 2) := by decide +kernel
theorem dX7_soOld_109 : decode cX7_soOld 109 = .ok (.iload 7, 2) := by decide +kernel
theorem dX7_soOld_111 : decode cX7_soOld 111 = .ok (.ifCond .eq 7, 3) := by decide +kernel
theorem dX7_soOld_114 : decode cX7_soOld 114 = .ok (.iconst 1, 1) := by decide +kernel
theorem dX7_soOld_115 : decode cX7_soOld 115 = .ok (.goto 4, 3) := by decide +kernel
theorem dX7_soOld_118 : decode cX7_soOld 118 = .ok (.iconst 0, 1) := by decide +kernel
theorem dX7_soOld_119 : decode cX7_soOld 119 = .ok (.iadd, 1) := by decide +kernel
theorem dX7_soOld_120 : decode cX7_soOld 120 = .ok (.istore 4, 2) := by decide +kernel
theorem dX7_soOld_122 : decode cX7_soOld 122 = .ok (.iinc 6 1, 3) := by decide +kernel
theorem dX7_soOld_125 : decode cX7_soOld 125 = .ok (.goto (-82), 3) := by decide +kernel
theorem dX7_soOld_128 : decode cX7_soOld 128 = .ok (.iload_n 3, 1) := by decide +kernel
theorem dX7_soOld_129 : decode cX7_soOld 129 = .ok (.ifCond .ne 8, 3) := by decide +kernel
theorem dX7_soOld_132 : decode cX7_soOld 132 = .ok (.iload 4, 2) := by decide +kernel
theorem dX7_soOld_134 : decode cX7_soOld 134 = .ok (.goto 5, 3) := by decide +kernel
theorem dX7_soOld_137 : decode cX7_soOld 137 = .ok (.iload 5, 2) := by decide +kernel
theorem dX7_soOld_139 : decode cX7_soOld 139 = .ok (.ireturn, 1) := by decide +kernel
set_option maxRecDepth 100000 in
set_option maxHeartbeats 4000000 in
theorem X7_soOld_b119_ok (G : Gt) (o : Nat) (ho : kd o = 7)   (k43 : Int32 → Int32 → Int32 → Int32 → Int32 → Int32 → Mem → Option (Int32 × Mem)) (hk43 : ∀ (x1 : Int32) (x2 : Int32) (x3 : Int32) (x4 : Int32) (x5 : Int32) (x6 : Int32) (mem : Mem), EvR tvI G cX7_soOld 8 (some .int) RX7 4 43 [(0, .ref (gA G o)), (1, .int (x1)), (2, .int (x2)), (3, .int (x3)), (4, .int (x4)), (5, .int (x5)), (6, .int (x6))] [] mem (k43 x1 x2 x3 x4 x5 x6 mem)) (x1 : Int32) (x2 : Int32) (x3 : Int32) (x5 : Int32) (x6 : Int32) (s0 : Int32) (s1 : Int32) (mem : Mem) : EvR tvI G cX7_soOld 8 (some .int) RX7 4 119 [(0, .ref (gA G o)), (1, .int (x1)), (2, .int (x2)), (3, .int (x3)), (5, .int (x5)), (6, .int (x6))] [.int (s1), .int (s0)] mem (X7_soOld_b119 o k43 x1 x2 x3 x5 x6 s0 s1 mem) := by
  unfold X7_soOld_b119
  refine ev_iadd (q := 120) dX7_soOld_119 rfl ?_
  refine ev_istore (q := 122) (lv2 := [(4, .int _), (0, .ref _), (1, .int _), (2, .int _), (3, .int _), (5, .int _), (6, .int _)]) dX7_soOld_120 rfl (Nat.le_of_ble_eq_true rfl) rfl ?_
  refine ev_iinc (q := 125) (lv2 := [(6, .int _), (4, .int _), (0, .ref _), (1, .int _), (2, .int _), (3, .int _), (5, .int _)]) (v := x6 + 1) dX7_soOld_122 6 rfl rfl (congrArg (HAdd.hAdd _) li_1) (Nat.le_of_ble_eq_true rfl) rfl ?_
  refine ev_goto (t := 43) dX7_soOld_125 rfl ?_
  refine ev_sub (lv' := [(0, .ref _), (1, .int _), (2, .int _), (3, .int _), (4, .int _), (5, .int _), (6, .int _)]) [2, 3, 4, 5, 1, 6, 0] rfl ?_
  exact hk43 _ _ _ _ _ _ _
set_option maxRecDepth 100000 in
set_option maxHeartbeats 4000000 in
theorem X7_soOld_b105_ok (G : Gt) (o : Nat) (ho : kd o = 7)   (k43 : Int32 → Int32 → Int32 → Int32 → Int32 → Int32 → Mem → Option (Int32 × Mem)) (hk43 : ∀ (x1 : Int32) (x2 : Int32) (x3 : Int32) (x4 : Int32) (x5 : Int32) (x6 : Int32) (mem : Mem), EvR tvI G cX7_soOld 8 (some .int) RX7 4 43 [(0, .ref (gA G o)), (1, .int (x1)), (2, .int (x2)), (3, .int (x3)), (4, .int (x4)), (5, .int (x5)), (6, .int (x6))] [] mem (k43 x1 x2 x3 x4 x5 x6 mem)) (x1 : Int32) (x2 : Int32) (x3 : Int32) (x4 : Int32) (x6 : Int32) (x7 : Int32) (s0 : Int32) (mem : Mem) : EvR tvI G cX7_soOld 8 (some .int) RX7 4 105 [(0, .ref (gA G o)), (1, .int (x1)), (2, .int (x2)), (3, .int (x3)), (4, .int (x4)), (6, .int (x6)), (7, .int (x7))] [.int (s0)] mem (X7_soOld_b105 o k43 x1 x2 x3 x4 x6 x7 s0 mem) := by
  unfold X7_soOld_b105
  refine ev_istore (q := 107) (lv2 := [(5, .int _), (0, .ref _), (1, .int _), (2, .int _), (3, .int _), (4, .int _), (6, .int _), (7, .int _)]) dX7_soOld_105 rfl (Nat.le_of_ble_eq_true rfl) rfl ?_
  refine ev_iload (q := 109) dX7_soOld_107 5 rfl rfl ?_
  refine ev_iload (q := 111) dX7_soOld_109 7 rfl rfl ?_
  refine ev_if_eq (t := 118) (q := 114) dX7_soOld_111 rfl rfl (fun hc21 => ?_) (fun hc21 => ?_)
  · refine ev_iconst (q := 119) (v := 0) dX7_soOld_118 rfl li_0 ?_
    refine ev_sub (lv' := [(0, .ref _), (1, .int _), (2, .int _), (3, .int _), (5, .int _), (6, .int _)]) [1, 2, 3, 4, 0, 6] rfl ?_
    exact X7_soOld_b119_ok G o ho  k43 hk43 _ _ _ _ _ _ _ _
  · refine ev_iconst (q := 115) (v := 1) dX7_soOld_114 rfl li_1 ?_
    refine ev_goto (t := 119) dX7_soOld_115 rfl ?_
    refine ev_sub (lv' := [(0, .ref _), (1, .int _), (2, .int _), (3, .int _), (5, .int _), (6, .int _)]) [1, 2, 3, 4, 0, 6] rfl ?_
    exact X7_soOld_b119_ok G o ho  k43 hk43 _ _ _ _ _ _ _ _
set_option maxRecDepth 100000 in
set_option maxHeartbeats 4000000 in
theorem X7_soOld_b103_ok (G : Gt) (o : Nat) (ho : kd o = 7)   (k43 : Int32 → Int32 → Int32 → Int32 → Int32 → Int32 → Mem → Option (Int32 × Mem)) (hk43 : ∀ (x1 : Int32) (x2 : Int32) (x3 : Int32) (x4 : Int32) (x5 : Int32) (x6 : Int32) (mem : Mem), EvR tvI G cX7_soOld 8 (some .int) RX7 4 43 [(0, .ref (gA G o)), (1, .int (x1)), (2, .int (x2)), (3, .int (x3)), (4, .int (x4)), (5, .int (x5)), (6, .int (x6))] [] mem (k43 x1 x2 x3 x4 x5 x6 mem)) (x1 : Int32) (x2 : Int32) (x3 : Int32) (x4 : Int32) (x5 : Int32) (x6 : Int32) (x7 : Int32) (mem : Mem) : EvR tvI G cX7_soOld 8 (some .int) RX7 4 103 [(0, .ref (gA G o)), (1, .int (x1)), (2, .int (x2)), (3, .int (x3)), (4, .int (x4)), (5, .int (x5)), (6, .int (x6)), (7, .int (x7))] [] mem (X7_soOld_b103 o k43 x1 x2 x3 x4 x5 x6 x7 mem) := by
  unfold X7_soOld_b103
  refine ev_iload (q := 105) dX7_soOld_103 5 rfl rfl ?_
  refine ev_sub (lv' := [(0, .ref _), (1, .int _), (2, .int _), (3, .int _), (4, .int _), (6, .int _), (7, .int _)]) [0, 1, 2, 3, 4, 6, 7] rfl ?_
  exact X7_soOld_b105_ok G o ho  k43 hk43 _ _ _ _ _ _ _ _
set_option maxRecDepth 100000 in
set_option maxHeartbeats 4000000 in
theorem X7_soOld_b86_ok (G : Gt) (o : Nat) (ho : kd o = 7)   (k43 : Int32 → Int32 → Int32 → Int32 → Int32 → Int32 → Mem → Option (Int32 × Mem)) (hk43 : ∀ (x1 : Int32) (x2 : Int32) (x3 : Int32) (x4 : Int32) (x5 : Int32) (x6 : Int32) (mem : Mem), EvR tvI G cX7_soOld 8 (some .int) RX7 4 43 [(0, .ref (gA G o)), (1, .int (x1)), (2, .int (x2)), (3, .int (x3)), (4, .int (x4)), (5, .int (x5)), (6, .int (x6))] [] mem (k43 x1 x2 x3 x4 x5 x6 mem)) (x1 : Int32) (x2 : Int32) (x3 : Int32) (x4 : Int32) (x5 : Int32) (x6 : Int32) (s0 : Int32) (mem : Mem) : EvR tvI G cX7_soOld 8 (some .int) RX7 4 86 [(0, .ref (gA G o)), (1, .int (x1)), (2, .int (x2)), (3, .int (x3)), (4, .int (x4)), (5, .int (x5)), (6, .int (x6))] [.int (s0)] mem (X7_soOld_b86 o k43 x1 x2 x3 x4 x5 x6 s0 mem) := by
  unfold X7_soOld_b86
  refine ev_istore (q := 88) (lv2 := [(7, .int _), (0, .ref _), (1, .int _), (2, .int _), (3, .int _), (4, .int _), (5, .int _), (6, .int _)]) dX7_soOld_86 rfl (Nat.le_of_ble_eq_true rfl) rfl ?_
  refine ev_iload (q := 90) dX7_soOld_88 0 rfl rfl ?_
  refine ev_if_eq (t := 103) (q := 93) dX7_soOld_90 rfl rfl (fun hc19 => ?_) (fun hc19 => ?_)
  · refine ev_sub (lv' := [(0, .ref _), (1, .int _), (2, .int _), (3, .int _), (4, .int _), (5, .int _), (6, .int _), (7, .int _)]) [1, 2, 3, 4, 5, 6, 7, 0] rfl ?_
    exact X7_soOld_b103_ok G o ho  k43 hk43 _ _ _ _ _ _ _ _
  · refine ev_iload (q := 95) dX7_soOld_93 5 rfl rfl ?_
    refine ev_if_ne (t := 103) (q := 98) dX7_soOld_95 rfl rfl (fun hc20 => ?_) (fun hc20 => ?_)
    · refine ev_iload (q := 100) dX7_soOld_98 7 rfl rfl ?_
      refine ev_goto (t := 105) dX7_soOld_100 rfl ?_
      refine ev_sub (lv' := [(0, .ref _), (1, .int _), (2, .int _), (3, .int _), (4, .int _), (6, .int _), (7, .int _)]) [1, 2, 3, 4, 5, 7, 0] rfl ?_
      exact X7_soOld_b105_ok G o ho  k43 hk43 _ _ _ _ _ _ _ _
    · refine ev_sub (lv' := [(0, .ref _), (1, .int _), (2, .int _), (3, .int _), (4, .int _), (5, .int _), (6, .int _), (7, .int _)]) [1, 2, 3, 4, 5, 6, 7, 0] rfl ?_
      exact X7_soOld_b103_ok G o ho  k43 hk43 _ _ _ _ _ _ _ _
set_option maxRecDepth 100000 in
set_option maxHeartbeats 4000000 in
theorem X7_soOld_b43_ok (G : Gt) (o : Nat) (ho : kd o = 7)    : ∀ (n : Nat) (x1 : Int32) (x2 : Int32) (x3 : Int32) (x4 : Int32) (x5 : Int32) (x6 : Int32) (mem : Mem), EvR tvI G cX7_soOld 8 (some .int) RX7 4 43 [(0, .ref (gA G o)), (1, .int (x1)), (2, .int (x2)), (3, .int (x3)), (4, .int (x4)), (5, .int (x5)), (6, .int (x6))] [] mem (X7_soOld_b43 o n x1 x2 x3 x4 x5 x6 mem) := by
  intro n
  induction n with
  | zero => intros; exact ev_none
  | succ n ih =>
    intro x1 x2 x3 x4 x5 x6 mem
    rw [X7_soOld_b43]
    refine ev_iload (q := 45) dX7_soOld_43 6 rfl rfl ?_
    refine ev_iconst (q := 46) (v := 1) dX7_soOld_45 rfl li_1 ?_
    refine ev_aload_n (q := 47) dX7_soOld_46 rfl 0 rfl rfl ?_
    refine ev_callVI (q := 50) dX7_soOld_47 rfl ml_X7_85 mt_X7_letters cf_7 rfl ho hc_7 (con_X7_letters G _ ho _) rfl (Nat.le_of_ble_eq_true rfl) (Nat.le_of_ble_eq_true rfl) rfl (Nat.le_of_ble_eq_true rfl) (fun r10 m11 => ?_)
    refine ev_ishl (q := 51) dX7_soOld_50 rfl ?_
    refine ev_icmp_ge (t := 128) (q := 54) dX7_soOld_51 rfl rfl (fun hc12 => ?_) (fun hc12 => ?_)
    · refine ev_aload_n (q := 55) dX7_soOld_54 rfl 0 rfl rfl ?_
      refine ev_getR (q := 58) (ci := 7) (j := 5) (T := TX7) dX7_soOld_55 rfl cf_7 ho hj_7_5 hc_7 gf_X7_22 rfl ?_
      refine ev_bipush (q := 60) (v := 23) dX7_soOld_58 rfl lb_23 ?_
      refine ev_iload_n (q := 61) dX7_soOld_60 rfl 1 rfl rfl ?_
      refine ev_iadd (q := 62) dX7_soOld_61 rfl ?_
      refine ev_iald (q := 63) dX7_soOld_62 rfl (kr_7_5 ho) (fun z14 => ?_)
      refine ev_aload_n (q := 64) dX7_soOld_63 rfl 0 rfl rfl ?_
      refine ev_getR (q := 67) (ci := 7) (j := 5) (T := TX7) dX7_soOld_64 rfl cf_7 ho hj_7_5 hc_7 gf_X7_22 rfl ?_
      refine ev_iconst (q := 68) (v := 4) dX7_soOld_67 rfl li_4 ?_
      refine ev_iald (q := 69) dX7_soOld_68 rfl (kr_7_5 ho) (fun z15 => ?_)
      refine ev_iadd (q := 70) dX7_soOld_69 rfl ?_
      refine ev_aload_n (q := 71) dX7_soOld_70 rfl 0 rfl rfl ?_
      refine ev_iload (q := 73) dX7_soOld_71 6 rfl rfl ?_
      refine ev_callVI (q := 76) dX7_soOld_73 rfl ml_X7_243 mt_X7_firstAll cf_7 rfl ho hc_7 (con_X7_firstAll G _ _ ho _) rfl (Nat.le_of_ble_eq_true rfl) (Nat.le_of_ble_eq_true rfl) rfl (Nat.le_of_ble_eq_true rfl) (fun r16 m17 => ?_)
      refine ev_iadd (q := 77) dX7_soOld_76 rfl ?_
      refine ev_iload_n (q := 78) dX7_soOld_77 rfl 2 rfl rfl ?_
      refine ev_icmp_ne (t := 85) (q := 81) dX7_soOld_78 rfl rfl (fun hc18 => ?_) (fun hc18 => ?_)
      · refine ev_iconst (q := 82) (v := 1) dX7_soOld_81 rfl li_1 ?_
        refine ev_goto (t := 86) dX7_soOld_82 rfl ?_
        exact X7_soOld_b86_ok G o ho  (X7_soOld_b43 o n) ih _ _ _ _ _ _ _ _
      · refine ev_iconst (q := 86) (v := 0) dX7_soOld_85 rfl li_0 ?_
        exact X7_soOld_b86_ok G o ho  (X7_soOld_b43 o n) ih _ _ _ _ _ _ _ _
    · refine ev_iload_n (q := 129) dX7_soOld_128 rfl 3 rfl rfl ?_
      refine ev_if_ne (t := 137) (q := 132) dX7_soOld_129 rfl rfl (fun hc13 => ?_) (fun hc13 => ?_)
      · refine ev_iload (q := 134) dX7_soOld_132 4 rfl rfl ?_
        refine ev_goto (t := 139) dX7_soOld_134 rfl ?_
        exact ev_iret dX7_soOld_139 rfl
      · refine ev_iload (q := 139) dX7_soOld_137 5 rfl rfl ?_
        exact ev_iret dX7_soOld_139 rfl
set_option maxRecDepth 100000 in
set_option maxHeartbeats 4000000 in
theorem con_X7_soOld (G : Gt) (o : Nat) (a1 : Int32) (a2 : Int32) (a3 : Int32) (ho : kd o = 7) (mem : Mem) : Con tvI G yX7_soOld cX7_soOld 8 (some .int) 4 [.ref (gA G o), .int a1, .int a2, .int a3] mem (X7_soOld o a1 a2 a3 mem) := by
  refine con_of (by decide) (Nat.le_of_ble_eq_true rfl) ?_
  show EvR tvI G cX7_soOld 8 (some .int) RX7 4 0 [(0, .ref (gA G o)), (1, .int (a1)), (2, .int (a2)), (3, .int (a3))] [] mem _
  unfold X7_soOld
  refine ev_aload_n (q := 1) dX7_soOld_0 rfl 0 rfl rfl ?_
  refine ev_iload_n (q := 2) dX7_soOld_1 rfl 1 rfl rfl ?_
  refine ev_callVI (q := 5) dX7_soOld_2 rfl ml_X7_180 mt_X7_isReader cf_7 rfl ho hc_7 (con_X7_isReader G _ _ ho _) rfl (Nat.le_of_ble_eq_true rfl) (Nat.le_of_ble_eq_true rfl) rfl (Nat.le_of_ble_eq_true rfl) (fun r1 m2 => ?_)
  refine ev_if_eq (t := 30) (q := 8) dX7_soOld_5 rfl rfl (fun hc3 => ?_) (fun hc3 => ?_)
  · refine ev_ldc (q := 32) (v := (-1000001)) dX7_soOld_30 rfl kc_X7_73 ?_
    exact ev_iret dX7_soOld_32 rfl
  · refine ev_iload_n (q := 9) dX7_soOld_8 rfl 2 rfl rfl ?_
    refine ev_i2l (q := 10) dX7_soOld_9 rfl ?_
    refine ev_lconst (q := 11) (v := 0) dX7_soOld_10 rfl ll_0 ?_
    refine ev_ldc2 (q := 14) (v := 999) dX7_soOld_11 rfl kc_X7_241 ?_
    refine ev_callSI (q := 17) dX7_soOld_14 rfl ml_X7_63 mt_X7_in (con_X7_in G _ _ _  _) rfl (Nat.le_of_ble_eq_true rfl) (Nat.le_of_ble_eq_true rfl) rfl (Nat.le_of_ble_eq_true rfl) (fun r4 m5 => ?_)
    refine ev_if_eq (t := 30) (q := 20) dX7_soOld_17 rfl rfl (fun hc6 => ?_) (fun hc6 => ?_)
    · refine ev_ldc (q := 32) (v := (-1000001)) dX7_soOld_30 rfl kc_X7_73 ?_
      exact ev_iret dX7_soOld_32 rfl
    · refine ev_iload_n (q := 21) dX7_soOld_20 rfl 3 rfl rfl ?_
      refine ev_i2l (q := 22) dX7_soOld_21 rfl ?_
      refine ev_lconst (q := 23) (v := 0) dX7_soOld_22 rfl ll_0 ?_
      refine ev_lconst (q := 24) (v := 1) dX7_soOld_23 rfl ll_1 ?_
      refine ev_callSI (q := 27) dX7_soOld_24 rfl ml_X7_63 mt_X7_in (con_X7_in G _ _ _  _) rfl (Nat.le_of_ble_eq_true rfl) (Nat.le_of_ble_eq_true rfl) rfl (Nat.le_of_ble_eq_true rfl) (fun r7 m8 => ?_)
      refine ev_if_ne (t := 33) (q := 30) dX7_soOld_27 rfl rfl (fun hc9 => ?_) (fun hc9 => ?_)
      · refine ev_ldc (q := 32) (v := (-1000001)) dX7_soOld_30 rfl kc_X7_73 ?_
        exact ev_iret dX7_soOld_32 rfl
      · refine ev_iconst (q := 34) (v := 0) dX7_soOld_33 rfl li_0 ?_
        refine ev_istore (q := 36) (lv2 := [(4, .int _), (0, .ref _), (1, .int _), (2, .int _), (3, .int _)]) dX7_soOld_34 rfl (Nat.le_of_ble_eq_true rfl) rfl ?_
        refine ev_ldc (q := 38) (v := (-1000000)) dX7_soOld_36 rfl kc_X7_222 ?_
        refine ev_istore (q := 40) (lv2 := [(5, .int _), (4, .int _), (0, .ref _), (1, .int _), (2, .int _), (3, .int _)]) dX7_soOld_38 rfl (Nat.le_of_ble_eq_true rfl) rfl ?_
        refine ev_iconst (q := 41) (v := 0) dX7_soOld_40 rfl li_0 ?_
        refine ev_istore (q := 43) (lv2 := [(6, .int _), (5, .int _), (4, .int _), (0, .ref _), (1, .int _), (2, .int _), (3, .int _)]) dX7_soOld_41 rfl (Nat.le_of_ble_eq_true rfl) rfl ?_
        refine ev_sub (lv' := [(0, .ref _), (1, .int _), (2, .int _), (3, .int _), (4, .int _), (5, .int _), (6, .int _)]) [3, 4, 5, 6, 2, 1, 0] rfl ?_
        exact X7_soOld_b43_ok G o ho   fu _ _ _ _ _ _ _
/-! AgingLettersModel.readOn(I)V -/
theorem dX7_readOn_0 : decode cX7_readOn 0 = .ok (.iconst 0, 1) := by decide +kernel
theorem dX7_readOn_1 : decode cX7_readOn 1 = .ok (.istore_n 2, 1) := by decide +kernel
theorem dX7_readOn_2 : decode cX7_readOn 2 = .ok (.iload_n 2, 1) := by decide +kernel
theorem dX7_readOn_3 : decode cX7_readOn 3 = .ok (.bipush 64, 2) := by decide +kernel
theorem dX7_readOn_5 : decode cX7_readOn 5 = .ok (.if_icmp .ge 29, 3) := by decide +kernel
theorem dX7_readOn_8 : decode cX7_readOn 8 = .ok (.aload_n 0, 1) := by decide +kernel
theorem dX7_readOn_9 : decode cX7_readOn 9 = .ok (.getfield 43, 3) := by decide +kernel
theorem dX7_readOn_12 : decode cX7_readOn 12 = .ok (.iload_n 2, 1) := by decide +kernel
theorem dX7_readOn_13 : decode cX7_readOn 13 = .ok (.iload_n 1, 1) := by decide +kernel
theorem dX7_readOn_14 : decode cX7_readOn 14 = .ok (.ifCond .ne 12, 3) := by decide +kernel
theorem dX7_readOn_17 : decode cX7_readOn 17 = .ok (.aload_n 0, 1) := by decide +kernel
theorem dX7_readOn_18 : decode cX7_readOn 18 = .ok (.getfield 40, 3) := by decide +kernel
theorem dX7_readOn_21 : decode cX7_readOn 21 = .ok (.iload_n 2, 1) := by decide +kernel
theorem dX7_readOn_22 : decode cX7_readOn 22 = .ok (.iaload, 1) := by decide +kernel
theorem dX7_readOn_23 : decode cX7_readOn 23 = .ok (.goto 4, 3) := by decide +kernel
theorem dX7_readOn_26 : decode cX7_readOn 26 = .ok (.iconst 0, 1) := by decide +kernel
theorem dX7_readOn_27 : decode cX7_readOn 27 = .ok (.iastore, 1) := by decide +kernel
theorem dX7_readOn_28 : decode cX7_readOn 28 = .ok (.iinc 2 1, 3) := by decide +kernel
theorem dX7_readOn_31 : decode cX7_readOn 31 = .ok (.goto (-29), 3) := by decide +kernel
theorem dX7_readOn_34 : decode cX7_readOn 34 = .ok (.iconst 0, 1) := by decide +kernel
theorem dX7_readOn_35 : decode cX7_readOn 35 = .ok (.istore_n 2, 1) := by decide +kernel
theorem dX7_readOn_36 : decode cX7_readOn 36 = .ok (.iload_n 2, 1) := by decide +kernel
theorem dX7_readOn_37 : decode cX7_readOn 37 = .ok (.bipush 64, 2) := by decide +kernel
theorem dX7_readOn_39 : decode cX7_readOn 39 = .ok (.if_icmp .ge 89, 3) := by decide +kernel
theorem dX7_readOn_42 : decode cX7_readOn 42 = .ok (.iconst 0, 1) := by decide +kernel
theorem dX7_readOn_43 : decode cX7_readOn 43 = .ok (.istore_n 3, 1) := by decide +kernel
theorem dX7_readOn_44 : decode cX7_readOn 44 = .ok (.iload_n 3, 1) := by decide +kernel
theorem dX7_readOn_45 : decode cX7_readOn 45 = .ok (.aload_n 0, 1) := by decide +kernel
theorem dX7_readOn_46 : decode cX7_readOn 46 = .ok (.invokevirtual 85, 3) := by decide +kernel
theorem dX7_readOn_49 : decode cX7_readOn 49 = .ok (.if_icmp .ge 73, 3) := by decide +kernel
theorem dX7_readOn_52 : decode cX7_readOn 52 = .ok (.iload_n 2, 1) := by decide +kernel
theorem dX7_readOn_53 : decode cX7_readOn 53 = .ok (.iload_n 3, 1) := by decide +kernel
theorem dX7_readOn_54 : decode cX7_readOn 54 = .ok (.invokestatic 200, 3) := by decide +kernel
theorem dX7_readOn_57 : decode cX7_readOn 57 = .ok (.ifCond .ne 28, 3) := by decide +kernel
theorem dX7_readOn_60 : decode cX7_readOn 60 = .ok (.aload_n 0, 1) := by decide +kernel
theorem dX7_readOn_61 : decode cX7_readOn 61 = .ok (.iload_n 3, 1) := by decide +kernel
theorem dX7_readOn_62 : decode cX7_readOn 62 = .ok (.invokevirtual 107, 3) := by decide +kernel
theorem dX7_readOn_65 : decode cX7_readOn 65 = .ok (.aload_n 0, 1) := by decide +kernel
theorem dX7_readOn_66 : decode cX7_readOn 66 = .ok (.getfield 22, 3) := by decide +kernel
theorem dX7_readOn_69 : decode cX7_readOn 69 = .ok (.bipush 11, 2) := by decide +kernel
theorem dX7_readOn_71 : decode cX7_readOn 71 = .ok (.iload_n 3, 1) := by decide +kernel
theorem dX7_readOn_72 : decode cX7_readOn 72 = .ok (.iadd, 1) := by decide +kernel
theorem dX7_readOn_73 : decode cX7_readOn 73 = .ok (.iaload, 1) := by decide +kernel
theorem dX7_readOn_74 : decode cX7_readOn 74 = .ok (.invokestatic 110, 3) := by decide +kernel
theorem dX7_readOn_77 : decode cX7_readOn 77 = .ok (.iload_n 1, 1) := by decide +kernel
theorem dX7_readOn_78 : decode cX7_readOn 78 = .ok (.if_icmp .ne 7, 3) := by decide +kernel
theorem dX7_readOn_81 : decode cX7_readOn 81 = .ok (.iconst 1, 1) := by decide +kernel
theorem dX7_readOn_82 : decode cX7_readOn 82 = .ok (.goto 4, 3) := by decide +kernel
theorem dX7_readOn_85 : decode cX7_readOn 85 = .ok (.iconst 0, 1) := by decide +kernel
theorem dX7_readOn_86 : decode cX7_readOn 86 = .ok (.istore 4, 2) := by decide +kernel
theorem dX7_readOn_88 : decode cX7_readOn 88 = .ok (.aload_n 0, 1) := by decide +kernel
theorem dX7_readOn_89 : decode cX7_readOn 89 = .ok (.getfield 43, 3) := by decide +kernel
theorem dX7_readOn_92 : decode cX7_readOn 92 = .ok (.iload_n 2, 1) := by decide +kernel
theorem dX7_readOn_93 : decode cX7_readOn 93 = .ok (.iconst 1, 1) := by decide +kernel
theorem dX7_readOn_94 : decode cX7_readOn 94 = .ok (.iload_n 3, 1) := by decide +kernel
theorem dX7_readOn_95 : decode cX7_readOn 95 = .ok (.ishl, 1) := by decide +kernel
theorem dX7_readOn_96 : decode cX7_readOn 96 = .ok (.ior, 1) := by decide +kernel
theorem dX7_readOn_97 : decode cX7_readOn 97 = .ok (.dup2, 1) := by decide +kernel
theorem dX7_readOn_98 : decode cX7_readOn 98 = .ok (.iaload, 1) := by decide +kernel
theorem dX7_readOn_99 : decode cX7_readOn 99 = .ok (.iload 4, 2) := by decide +kernel
theorem dX7_readOn_101 : decode cX7_readOn 101 = .ok (.ifCond .eq 12, 3) := by decide +kernel
theorem dX7_readOn_104 : decode cX7_readOn 104 = .ok (.aload_n 0, 1) := by decide +kernel
theorem dX7_readOn_105 : decode cX7_readOn 105 = .ok (.getfield 40, 3) := by decide +kernel
theorem dX7_readOn_108 : decode cX7_readOn 108 = .ok (.iload_n 2, 1) := by decide +kernel
theorem dX7_readOn_109 : decode cX7_readOn 109 = .ok (.iaload, 1) := by decide +kernel
theorem dX7_readOn_110 : decode cX7_readOn 110 = .ok (.goto 4, 3) := by decide +kernel
theorem dX7_readOn_113 : decode cX7_readOn 113 = .ok (.iconst 0, 1) := by decide +kernel
theorem dX7_readOn_114 : decode cX7_readOn 114 = .ok (.iadd, 1) := by decide +kernel
theorem dX7_readOn_115 : decode cX7_readOn 115 = .ok (.iastore, 1) := by decide +kernel
theorem dX7_readOn_116 : decode cX7_readOn 116 = .ok (.iinc 3 1, 3) := by decide +kernel
theorem dX7_readOn_119 : decode cX7_readOn 119 = .ok (.goto (-75), 3) := by decide +kernel
theorem dX7_readOn_122 : decode cX7_readOn 122 = .ok (.iinc 2 1, 3) := by decide +kernel
theorem dX7_readOn_125 : decode cX7_readOn 125 = .ok (.goto (-89), 3) := by decide +kernel
theorem dX7_readOn_128 : decode cX7_readOn 128 = .ok (.iconst 0, 1) := by decide +kernel
theorem dX7_readOn_129 : decode cX7_readOn 129 = .ok (.istore_n 2, 1) := by decide +kernel
theorem dX7_readOn_130 : decode cX7_readOn 130 = .ok (.iload_n 2, 1) := by decide +kernel
theorem dX7_readOn_131 : decode cX7_readOn 131 = .ok (.bipush 64, 2) := by decide +kernel
theorem dX7_readOn_133 : decode cX7_readOn 133 = .ok (.if_icmp .ge 21, 3) := by decide +kernel
theorem dX7_readOn_136 : decode cX7_readOn 136 = .ok (.aload_n 0, 1) := by decide +kernel
theorem dX7_readOn_137 : decode cX7_readOn 137 = .ok (.getfield 40, 3) := by decide +kernel
theorem dX7_readOn_140 : decode cX7_readOn 140 = .ok (.iload_n 2, 1) := by decide +kernel
theorem dX7_readOn_141 : decode cX7_readOn 141 = .ok (.aload_n 0, 1) := by decide +kernel
theorem dX7_readOn_142 : decode cX7_readOn 142 = .ok (.getfield 43, 3) := by decide +kernel
theorem dX7_readOn_145 : decode cX7_readOn 145 = .ok (.iload_n 2, 1) := by decide +kernel
theorem dX7_readOn_146 : decode cX7_readOn 146 = .ok (.iaload, 1) := by decide +kernel
theorem dX7_readOn_147 : decode cX7_readOn 147 = .ok (.iastore, 1) := by decide +kernel
theorem dX7_readOn_148 : decode cX7_readOn 148 = .ok (.iinc 2 1, 3) := by decide +kernel
theorem dX7_readOn_151 : decode cX7_readOn 151 = .ok (.goto (-21), 3) := by decide +kernel
theorem dX7_readOn_154 : decode cX7_readOn 154 = .ok (.return_, 1) := by decide +kernel
set_option maxRecDepth 100000 in
set_option maxHeartbeats 4000000 in
theorem X7_readOn_b130_ok (G : Gt) (o : Nat) (ho : kd o = 7)    : ∀ (n : Nat) (x2 : Int32) (mem : Mem), EvR tvU G cX7_readOn 5 none RX7 3 130 [(0, .ref (gA G o)), (2, .int (x2))] [] mem (X7_readOn_b130 o n x2 mem) := by
  intro n
  induction n with
  | zero => intros; exact ev_none
  | succ n ih =>
    intro x2 mem
    rw [X7_readOn_b130]
    refine ev_iload_n (q := 131) dX7_readOn_130 rfl 1 rfl rfl ?_
    refine ev_bipush (q := 133) (v := 64) dX7_readOn_131 rfl lb_64 ?_
    refine ev_icmp_ge (t := 154) (q := 136) dX7_readOn_133 rfl rfl (fun hc6 => ?_) (fun hc6 => ?_)
    · refine ev_aload_n (q := 137) dX7_readOn_136 rfl 0 rfl rfl ?_
      refine ev_getR (q := 140) (ci := 7) (j := 17) (T := TX7) dX7_readOn_137 rfl cf_7 ho hj_7_17 hc_7 gf_X7_40 rfl ?_
      refine ev_iload_n (q := 141) dX7_readOn_140 rfl 1 rfl rfl ?_
      refine ev_aload_n (q := 142) dX7_readOn_141 rfl 0 rfl rfl ?_
      refine ev_getR (q := 145) (ci := 7) (j := 18) (T := TX7) dX7_readOn_142 rfl cf_7 ho hj_7_18 hc_7 gf_X7_43 rfl ?_
      refine ev_iload_n (q := 146) dX7_readOn_145 rfl 1 rfl rfl ?_
      refine ev_iald (q := 147) dX7_readOn_146 rfl (kr_7_18 ho) (fun z7 => ?_)
      refine ev_iast (q := 148) dX7_readOn_147 rfl (kr_7_17 ho) (fun m8 => ?_)
      refine ev_iinc (q := 151) (lv2 := [(2, .int _), (0, .ref _)]) (v := x2 + 1) dX7_readOn_148 1 rfl rfl (congrArg (HAdd.hAdd _) li_1) (Nat.le_of_ble_eq_true rfl) rfl ?_
      refine ev_goto (t := 130) dX7_readOn_151 rfl ?_
      refine ev_sub (lv' := [(0, .ref _), (2, .int _)]) [1, 0] rfl ?_
      exact ih _ _
    · exact ev_vret dX7_readOn_154 rfl
set_option maxRecDepth 100000 in
set_option maxHeartbeats 4000000 in
theorem X7_readOn_b114_ok (G : Gt) (o : Nat) (ho : kd o = 7)   (k36 : Int32 → Int32 → Mem → Option (Unit × Mem)) (hk36 : ∀ (x1 : Int32) (x2 : Int32) (mem : Mem), EvR tvU G cX7_readOn 5 none RX7 3 36 [(0, .ref (gA G o)), (1, .int (x1)), (2, .int (x2))] [] mem (k36 x1 x2 mem)) (k44 : Int32 → Int32 → Int32 → Mem → Option (Unit × Mem)) (hk44 : ∀ (x1 : Int32) (x2 : Int32) (x3 : Int32) (mem : Mem), EvR tvU G cX7_readOn 5 none RX7 3 44 [(0, .ref (gA G o)), (1, .int (x1)), (2, .int (x2)), (3, .int (x3))] [] mem (k44 x1 x2 x3 mem)) (x1 : Int32) (x2 : Int32) (x3 : Int32) (s1 : Int32) (s2 : Int32) (s3 : Int32) (mem : Mem) : EvR tvU G cX7_readOn 5 none RX7 3 114 [(0, .ref (gA G o)), (1, .int (x1)), (2, .int (x2)), (3, .int (x3))] [.int (s3), .int (s2), .int (s1), .ref (gA G (rf o 18))] mem (X7_readOn_b114 o k36 k44 x1 x2 x3 s1 s2 s3 mem) := by
  unfold X7_readOn_b114
  refine ev_iadd (q := 115) dX7_readOn_114 rfl ?_
  refine ev_iast (q := 116) dX7_readOn_115 rfl (kr_7_18 ho) (fun m24 => ?_)
  refine ev_iinc (q := 119) (lv2 := [(3, .int _), (0, .ref _), (1, .int _), (2, .int _)]) (v := x3 + 1) dX7_readOn_116 3 rfl rfl (congrArg (HAdd.hAdd _) li_1) (Nat.le_of_ble_eq_true rfl) rfl ?_
  refine ev_goto (t := 44) dX7_readOn_119 rfl ?_
  refine ev_sub (lv' := [(0, .ref _), (1, .int _), (2, .int _), (3, .int _)]) [1, 2, 3, 0] rfl ?_
  exact hk44 _ _ _ _
set_option maxRecDepth 100000 in
set_option maxHeartbeats 4000000 in
theorem X7_readOn_b86_ok (G : Gt) (o : Nat) (ho : kd o = 7)   (k36 : Int32 → Int32 → Mem → Option (Unit × Mem)) (hk36 : ∀ (x1 : Int32) (x2 : Int32) (mem : Mem), EvR tvU G cX7_readOn 5 none RX7 3 36 [(0, .ref (gA G o)), (1, .int (x1)), (2, .int (x2))] [] mem (k36 x1 x2 mem)) (k44 : Int32 → Int32 → Int32 → Mem → Option (Unit × Mem)) (hk44 : ∀ (x1 : Int32) (x2 : Int32) (x3 : Int32) (mem : Mem), EvR tvU G cX7_readOn 5 none RX7 3 44 [(0, .ref (gA G o)), (1, .int (x1)), (2, .int (x2)), (3, .int (x3))] [] mem (k44 x1 x2 x3 mem)) (x1 : Int32) (x2 : Int32) (x3 : Int32) (s0 : Int32) (mem : Mem) : EvR tvU G cX7_readOn 5 none RX7 3 86 [(0, .ref (gA G o)), (1, .int (x1)), (2, .int (x2)), (3, .int (x3))] [.int (s0)] mem (X7_readOn_b86 o k36 k44 x1 x2 x3 s0 mem) := by
  unfold X7_readOn_b86
  refine ev_istore (q := 88) (lv2 := [(4, .int _), (0, .ref _), (1, .int _), (2, .int _), (3, .int _)]) dX7_readOn_86 rfl (Nat.le_of_ble_eq_true rfl) rfl ?_
  refine ev_aload_n (q := 89) dX7_readOn_88 rfl 1 rfl rfl ?_
  refine ev_getR (q := 92) (ci := 7) (j := 18) (T := TX7) dX7_readOn_89 rfl cf_7 ho hj_7_18 hc_7 gf_X7_43 rfl ?_
  refine ev_iload_n (q := 93) dX7_readOn_92 rfl 3 rfl rfl ?_
  refine ev_iconst (q := 94) (v := 1) dX7_readOn_93 rfl li_1 ?_
  refine ev_iload_n (q := 95) dX7_readOn_94 rfl 4 rfl rfl ?_
  refine ev_ishl (q := 96) dX7_readOn_95 rfl ?_
  refine ev_ior (q := 97) dX7_readOn_96 rfl ?_
  refine ev_dup2_11 (q := 98) dX7_readOn_97 rfl rfl rfl ?_
  refine ev_iald (q := 99) dX7_readOn_98 rfl (kr_7_18 ho) (fun z21 => ?_)
  refine ev_iload (q := 101) dX7_readOn_99 0 rfl rfl ?_
  refine ev_if_eq (t := 113) (q := 104) dX7_readOn_101 rfl rfl (fun hc22 => ?_) (fun hc22 => ?_)
  · refine ev_iconst (q := 114) (v := 0) dX7_readOn_113 rfl li_0 ?_
    refine ev_sub (lv' := [(0, .ref _), (1, .int _), (2, .int _), (3, .int _)]) [1, 2, 3, 4] rfl ?_
    exact X7_readOn_b114_ok G o ho  k36 hk36 k44 hk44 _ _ _ _ _ _ _
  · refine ev_aload_n (q := 105) dX7_readOn_104 rfl 1 rfl rfl ?_
    refine ev_getR (q := 108) (ci := 7) (j := 17) (T := TX7) dX7_readOn_105 rfl cf_7 ho hj_7_17 hc_7 gf_X7_40 rfl ?_
    refine ev_iload_n (q := 109) dX7_readOn_108 rfl 3 rfl rfl ?_
    refine ev_iald (q := 110) dX7_readOn_109 rfl (kr_7_17 ho) (fun z23 => ?_)
    refine ev_goto (t := 114) dX7_readOn_110 rfl ?_
    refine ev_sub (lv' := [(0, .ref _), (1, .int _), (2, .int _), (3, .int _)]) [1, 2, 3, 4] rfl ?_
    exact X7_readOn_b114_ok G o ho  k36 hk36 k44 hk44 _ _ _ _ _ _ _
set_option maxRecDepth 100000 in
set_option maxHeartbeats 4000000 in
theorem X7_readOn_b85_ok (G : Gt) (o : Nat) (ho : kd o = 7)   (k36 : Int32 → Int32 → Mem → Option (Unit × Mem)) (hk36 : ∀ (x1 : Int32) (x2 : Int32) (mem : Mem), EvR tvU G cX7_readOn 5 none RX7 3 36 [(0, .ref (gA G o)), (1, .int (x1)), (2, .int (x2))] [] mem (k36 x1 x2 mem)) (k44 : Int32 → Int32 → Int32 → Mem → Option (Unit × Mem)) (hk44 : ∀ (x1 : Int32) (x2 : Int32) (x3 : Int32) (mem : Mem), EvR tvU G cX7_readOn 5 none RX7 3 44 [(0, .ref (gA G o)), (1, .int (x1)), (2, .int (x2)), (3, .int (x3))] [] mem (k44 x1 x2 x3 mem)) (x1 : Int32) (x2 : Int32) (x3 : Int32) (mem : Mem) : EvR tvU G cX7_readOn 5 none RX7 3 85 [(0, .ref (gA G o)), (1, .int (x1)), (2, .int (x2)), (3, .int (x3))] [] mem (X7_readOn_b85 o k36 k44 x1 x2 x3 mem) := by
  unfold X7_readOn_b85
  refine ev_iconst (q := 86) (v := 0) dX7_readOn_85 rfl li_0 ?_
  exact X7_readOn_b86_ok G o ho  k36 hk36 k44 hk44 _ _ _ _ _
set_option maxRecDepth 100000 in
set_option maxHeartbeats 4000000 in
theorem X7_readOn_b44_ok (G : Gt) (o : Nat) (ho : kd o = 7)   (k36 : Int32 → Int32 → Mem → Option (Unit × Mem)) (hk36 : ∀ (x1 : Int32) (x2 : Int32) (mem : Mem), EvR tvU G cX7_readOn 5 none RX7 3 36 [(0, .ref (gA G o)), (1, .int (x1)), (2, .int (x2))] [] mem (k36 x1 x2 mem)) : ∀ (n : Nat) (x1 : Int32) (x2 : Int32) (x3 : Int32) (mem : Mem), EvR tvU G cX7_readOn 5 none RX7 3 44 [(0, .ref (gA G o)), (1, .int (x1)), (2, .int (x2)), (3, .int (x3))] [] mem (X7_readOn_b44 o k36 n x1 x2 x3 mem) := by
  intro n
  induction n with
  | zero => intros; exact ev_none
  | succ n ih =>
    intro x1 x2 x3 mem
    rw [X7_readOn_b44]
    refine ev_iload_n (q := 45) dX7_readOn_44 rfl 3 rfl rfl ?_
    refine ev_aload_n (q := 46) dX7_readOn_45 rfl 0 rfl rfl ?_
    refine ev_callVI (q := 49) dX7_readOn_46 rfl ml_X7_85 mt_X7_letters cf_7 rfl ho hc_7 (con_X7_letters G _ ho _) rfl (Nat.le_of_ble_eq_true rfl) (Nat.le_of_ble_eq_true rfl) rfl (Nat.le_of_ble_eq_true rfl) (fun r9 m10 => ?_)
    refine ev_icmp_ge (t := 122) (q := 52) dX7_readOn_49 rfl rfl (fun hc11 => ?_) (fun hc11 => ?_)
    · refine ev_iload_n (q := 53) dX7_readOn_52 rfl 2 rfl rfl ?_
      refine ev_iload_n (q := 54) dX7_readOn_53 rfl 3 rfl rfl ?_
      refine ev_callSI (q := 57) dX7_readOn_54 rfl ml_X7_200 mt_X7_has (con_X7_has G _ _  _) rfl (Nat.le_of_ble_eq_true rfl) (Nat.le_of_ble_eq_true rfl) rfl (Nat.le_of_ble_eq_true rfl) (fun r12 m13 => ?_)
      refine ev_if_ne (t := 85) (q := 60) dX7_readOn_57 rfl rfl (fun hc14 => ?_) (fun hc14 => ?_)
      · refine ev_aload_n (q := 61) dX7_readOn_60 rfl 0 rfl rfl ?_
        refine ev_iload_n (q := 62) dX7_readOn_61 rfl 3 rfl rfl ?_
        refine ev_callVI (q := 65) dX7_readOn_62 rfl ml_X7_107 mt_X7_sort cf_7 rfl ho hc_7 (con_X7_sort G _ _ ho _) rfl (Nat.le_of_ble_eq_true rfl) (Nat.le_of_ble_eq_true rfl) rfl (Nat.le_of_ble_eq_true rfl) (fun r15 m16 => ?_)
        refine ev_aload_n (q := 66) dX7_readOn_65 rfl 0 rfl rfl ?_
        refine ev_getR (q := 69) (ci := 7) (j := 5) (T := TX7) dX7_readOn_66 rfl cf_7 ho hj_7_5 hc_7 gf_X7_22 rfl ?_
        refine ev_bipush (q := 71) (v := 11) dX7_readOn_69 rfl lb_11 ?_
        refine ev_iload_n (q := 72) dX7_readOn_71 rfl 3 rfl rfl ?_
        refine ev_iadd (q := 73) dX7_readOn_72 rfl ?_
        refine ev_iald (q := 74) dX7_readOn_73 rfl (kr_7_5 ho) (fun z17 => ?_)
        refine ev_callSI (q := 77) dX7_readOn_74 rfl ml_X7_110 mt_X7_firstCost (con_X7_firstCost G _ _  _) rfl (Nat.le_of_ble_eq_true rfl) (Nat.le_of_ble_eq_true rfl) rfl (Nat.le_of_ble_eq_true rfl) (fun r18 m19 => ?_)
        refine ev_iload_n (q := 78) dX7_readOn_77 rfl 1 rfl rfl ?_
        refine ev_icmp_ne (t := 85) (q := 81) dX7_readOn_78 rfl rfl (fun hc20 => ?_) (fun hc20 => ?_)
        · refine ev_iconst (q := 82) (v := 1) dX7_readOn_81 rfl li_1 ?_
          refine ev_goto (t := 86) dX7_readOn_82 rfl ?_
          exact X7_readOn_b86_ok G o ho  k36 hk36 (X7_readOn_b44 o k36 n) ih _ _ _ _ _
        · exact X7_readOn_b85_ok G o ho  k36 hk36 (X7_readOn_b44 o k36 n) ih _ _ _ _
      · exact X7_readOn_b85_ok G o ho  k36 hk36 (X7_readOn_b44 o k36 n) ih _ _ _ _
    · refine ev_iinc (q := 125) (lv2 := [(2, .int _), (0, .ref _), (1, .int _), (3, .int _)]) (v := x2 + 1) dX7_readOn_122 2 rfl rfl (congrArg (HAdd.hAdd _) li_1) (Nat.le_of_ble_eq_true rfl) rfl ?_
      refine ev_goto (t := 36) dX7_readOn_125 rfl ?_
      refine ev_sub (lv' := [(0, .ref _), (1, .int _), (2, .int _)]) [1, 2, 0] rfl ?_
      exact hk36 _ _ _
set_option maxRecDepth 100000 in
set_option maxHeartbeats 4000000 in
theorem X7_readOn_b36_ok (G : Gt) (o : Nat) (ho : kd o = 7)    : ∀ (n : Nat) (x1 : Int32) (x2 : Int32) (mem : Mem), EvR tvU G cX7_readOn 5 none RX7 3 36 [(0, .ref (gA G o)), (1, .int (x1)), (2, .int (x2))] [] mem (X7_readOn_b36 o n x1 x2 mem) := by
  intro n
  induction n with
  | zero => intros; exact ev_none
  | succ n ih =>
    intro x1 x2 mem
    rw [X7_readOn_b36]
    refine ev_iload_n (q := 37) dX7_readOn_36 rfl 2 rfl rfl ?_
    refine ev_bipush (q := 39) (v := 64) dX7_readOn_37 rfl lb_64 ?_
    refine ev_icmp_ge (t := 128) (q := 42) dX7_readOn_39 rfl rfl (fun hc4 => ?_) (fun hc4 => ?_)
    · refine ev_iconst (q := 43) (v := 0) dX7_readOn_42 rfl li_0 ?_
      refine ev_istore_n (q := 44) (lv2 := [(3, .int _), (0, .ref _), (1, .int _), (2, .int _)]) dX7_readOn_43 rfl rfl (Nat.le_of_ble_eq_true rfl) rfl ?_
      refine ev_sub (lv' := [(0, .ref _), (1, .int _), (2, .int _), (3, .int _)]) [1, 2, 3, 0] rfl ?_
      exact X7_readOn_b44_ok G o ho  (X7_readOn_b36 o n) ih fu _ _ _ _
    · refine ev_iconst (q := 129) (v := 0) dX7_readOn_128 rfl li_0 ?_
      refine ev_istore_n (q := 130) (lv2 := [(2, .int _), (0, .ref _), (1, .int _)]) dX7_readOn_129 rfl rfl (Nat.le_of_ble_eq_true rfl) rfl ?_
      refine ev_sub (lv' := [(0, .ref _), (2, .int _)]) [1, 0] rfl ?_
      exact X7_readOn_b130_ok G o ho   fu _ _
set_option maxRecDepth 100000 in
set_option maxHeartbeats 4000000 in
theorem X7_readOn_b27_ok (G : Gt) (o : Nat) (ho : kd o = 7)   (k2 : Int32 → Int32 → Mem → Option (Unit × Mem)) (hk2 : ∀ (x1 : Int32) (x2 : Int32) (mem : Mem), EvR tvU G cX7_readOn 5 none RX7 3 2 [(0, .ref (gA G o)), (1, .int (x1)), (2, .int (x2))] [] mem (k2 x1 x2 mem)) (x1 : Int32) (x2 : Int32) (s1 : Int32) (s2 : Int32) (mem : Mem) : EvR tvU G cX7_readOn 5 none RX7 3 27 [(0, .ref (gA G o)), (1, .int (x1)), (2, .int (x2))] [.int (s2), .int (s1), .ref (gA G (rf o 18))] mem (X7_readOn_b27 o k2 x1 x2 s1 s2 mem) := by
  unfold X7_readOn_b27
  refine ev_iast (q := 28) dX7_readOn_27 rfl (kr_7_18 ho) (fun m5 => ?_)
  refine ev_iinc (q := 31) (lv2 := [(2, .int _), (0, .ref _), (1, .int _)]) (v := x2 + 1) dX7_readOn_28 2 rfl rfl (congrArg (HAdd.hAdd _) li_1) (Nat.le_of_ble_eq_true rfl) rfl ?_
  refine ev_goto (t := 2) dX7_readOn_31 rfl ?_
  refine ev_sub (lv' := [(0, .ref _), (1, .int _), (2, .int _)]) [1, 2, 0] rfl ?_
  exact hk2 _ _ _
set_option maxRecDepth 100000 in
set_option maxHeartbeats 4000000 in
theorem X7_readOn_b2_ok (G : Gt) (o : Nat) (ho : kd o = 7)    : ∀ (n : Nat) (x1 : Int32) (x2 : Int32) (mem : Mem), EvR tvU G cX7_readOn 5 none RX7 3 2 [(0, .ref (gA G o)), (1, .int (x1)), (2, .int (x2))] [] mem (X7_readOn_b2 o n x1 x2 mem) := by
  intro n
  induction n with
  | zero => intros; exact ev_none
  | succ n ih =>
    intro x1 x2 mem
    rw [X7_readOn_b2]
    refine ev_iload_n (q := 3) dX7_readOn_2 rfl 2 rfl rfl ?_
    refine ev_bipush (q := 5) (v := 64) dX7_readOn_3 rfl lb_64 ?_
    refine ev_icmp_ge (t := 34) (q := 8) dX7_readOn_5 rfl rfl (fun hc1 => ?_) (fun hc1 => ?_)
    · refine ev_aload_n (q := 9) dX7_readOn_8 rfl 0 rfl rfl ?_
      refine ev_getR (q := 12) (ci := 7) (j := 18) (T := TX7) dX7_readOn_9 rfl cf_7 ho hj_7_18 hc_7 gf_X7_43 rfl ?_
      refine ev_iload_n (q := 13) dX7_readOn_12 rfl 2 rfl rfl ?_
      refine ev_iload_n (q := 14) dX7_readOn_13 rfl 1 rfl rfl ?_
      refine ev_if_ne (t := 26) (q := 17) dX7_readOn_14 rfl rfl (fun hc2 => ?_) (fun hc2 => ?_)
      · refine ev_aload_n (q := 18) dX7_readOn_17 rfl 0 rfl rfl ?_
        refine ev_getR (q := 21) (ci := 7) (j := 17) (T := TX7) dX7_readOn_18 rfl cf_7 ho hj_7_17 hc_7 gf_X7_40 rfl ?_
        refine ev_iload_n (q := 22) dX7_readOn_21 rfl 2 rfl rfl ?_
        refine ev_iald (q := 23) dX7_readOn_22 rfl (kr_7_17 ho) (fun z3 => ?_)
        refine ev_goto (t := 27) dX7_readOn_23 rfl ?_
        exact X7_readOn_b27_ok G o ho  (X7_readOn_b2 o n) ih _ _ _ _ _
      · refine ev_iconst (q := 27) (v := 0) dX7_readOn_26 rfl li_0 ?_
        exact X7_readOn_b27_ok G o ho  (X7_readOn_b2 o n) ih _ _ _ _ _
    · refine ev_iconst (q := 35) (v := 0) dX7_readOn_34 rfl li_0 ?_
      refine ev_istore_n (q := 36) (lv2 := [(2, .int _), (0, .ref _), (1, .int _)]) dX7_readOn_35 rfl rfl (Nat.le_of_ble_eq_true rfl) rfl ?_
      refine ev_sub (lv' := [(0, .ref _), (1, .int _), (2, .int _)]) [1, 2, 0] rfl ?_
      exact X7_readOn_b36_ok G o ho   fu _ _ _
set_option maxRecDepth 100000 in
set_option maxHeartbeats 4000000 in
theorem con_X7_readOn (G : Gt) (o : Nat) (a1 : Int32) (ho : kd o = 7) (mem : Mem) : Con tvU G yX7_readOn cX7_readOn 5 none 3 [.ref (gA G o), .int a1] mem (X7_readOn o a1 mem) := by
  refine con_of (by decide) (Nat.le_of_ble_eq_true rfl) ?_
  show EvR tvU G cX7_readOn 5 none RX7 3 0 [(0, .ref (gA G o)), (1, .int (a1))] [] mem _
  unfold X7_readOn
  refine ev_iconst (q := 1) (v := 0) dX7_readOn_0 rfl li_0 ?_
  refine ev_istore_n (q := 2) (lv2 := [(2, .int _), (0, .ref _), (1, .int _)]) dX7_readOn_1 rfl rfl (Nat.le_of_ble_eq_true rfl) rfl ?_
  refine ev_sub (lv' := [(0, .ref _), (1, .int _), (2, .int _)]) [1, 2, 0] rfl ?_
  exact X7_readOn_b2_ok G o ho   fu _ _ _
/-! AgingLettersModel.ages(IIII)I -/
theorem dX7_ages_0 : decode cX7_ages 0 = .ok (.aload_n 0, 1) := by decide +kernel
theorem dX7_ages_1 : decode cX7_ages 1 = .ok (.iload_n 1, 1) := by decide +kernel
theorem dX7_ages_2 : decode cX7_ages 2 = .ok (.invokevirtual 180, 3) := by decide +kernel
theorem dX7_ages_5 : decode cX7_ages 5 = .ok (.ifCond .eq 23, 3) := by decide +kernel
theorem dX7_ages_8 : decode cX7_ages 8 = .ok (.iload_n 2, 1) := by decide +kernel
theorem dX7_ages_9 : decode cX7_ages 9 = .ok (.invokestatic 67, 3) := by decide +kernel
theorem dX7_ages_12 : decode cX7_ages 12 = .ok (.ifCond .eq 16, 3) := by decide +kernel
theorem dX7_ages_15 : decode cX7_ages 15 = .ok (.iload 4, 2) := by decide +kernel
theorem dX7_ages_17 : decode cX7_ages 17 = .ok (.i2l, 1) := by decide +kernel
theorem dX7_ages_18 : decode cX7_ages 18 = .ok (.lconst 1, 1) := by decide +kernel
theorem dX7_ages_19 : decode cX7_ages 19 = .ok (.ldc2_w 246, 3) := by decide +kernel
theorem dX7_ages_22 : decode cX7_ages 22 = .ok (.invokestatic 63, 3) := by decide +kernel
theorem dX7_ages_25 : decode cX7_ages 25 = .ok (.ifCond .ne 6, 3) := by decide +kernel
theorem dX7_ages_28 : decode cX7_ages 28 = .ok (.ldc 73, 2) := by decide +kernel
theorem dX7_ages_30 : decode cX7_ages 30 = .ok (.ireturn, 1) := by decide +kernel
theorem dX7_ages_31 : decode cX7_ages 31 = .ok (.aload_n 0, 1) := by decide +kernel
theorem dX7_ages_32 : decode cX7_ages 32 = .ok (.getfield 13, 3) := by decide +kernel
theorem dX7_ages_35 : decode cX7_ages 35 = .ok (.iload_n 2, 1) := by decide +kernel
theorem dX7_ages_36 : decode cX7_ages 36 = .ok (.iaload, 1) := by decide +kernel
theorem dX7_ages_37 : decode cX7_ages 37 = .ok (.ifCond .ge 9, 3) := by decide +kernel
theorem dX7_ages_40 : decode cX7_ages 40 = .ok (.aload_n 0, 1) := by decide +kernel
theorem dX7_ages_41 : decode cX7_ages 41 = .ok (.iconst 1, 1) := by decide +kernel
theorem dX7_ages_42 : decode cX7_ages 42 = .ok (.invokevirtual 74, 3) := by decide +kernel
theorem dX7_ages_45 : decode cX7_ages 45 = .ok (.ireturn, 1) := by decide +kernel
theorem dX7_ages_46 : decode cX7_ages 46 = .ok (.iload_n 3, 1) := by decide +kernel
theorem dX7_ages_47 : decode cX7_ages 47 = .ok (.ifCond .lt 20, 3) := by decide +kernel
theorem dX7_ages_50 : decode cX7_ages 50 = .ok (.iload_n 3, 1) := by decide +kernel
theorem dX7_ages_51 : decode cX7_ages 51 = .ok (.i2l, 1) := by decide +kernel
theorem dX7_ages_52 : decode cX7_ages 52 = .ok (.iload 4, 2) := by decide +kernel
theorem dX7_ages_54 : decode cX7_ages 54 = .ok (.i2l, 1) := by decide +kernel
theorem dX7_ages_55 : decode cX7_ages 55 = .ok (.ladd, 1) := by decide +kernel
theorem dX7_ages_56 : decode cX7_ages 56 = .ok (.aload_n 0, 1) := by decide +kernel
theorem dX7_ages_57 : decode cX7_ages 57 = .ok (.getfield 13, 3) := by decide +kernel
theorem dX7_ages_60 : decode cX7_ages 60 = .ok (.iload_n 2, 1) := by decide +kernel
theorem dX7_ages_61 : decode cX7_ages 61 = .ok (.iaload, 1) := by decide +kernel
theorem dX7_ages_62 : decode cX7_ages 62 = .ok (.i2l, 1) := by decide +kernel
theorem dX7_ages_63 : decode cX7_ages 63 = .ok (.lcmp, 1) := by decide +kernel
theorem dX7_ages_64 : decode cX7_ages 64 = .ok (.ifCond .le 9, 3) := by decide +kernel
theorem dX7_ages_67 : decode cX7_ages 67 = .ok (.aload_n 0, 1) := by decide +kernel
theorem dX7_ages_68 : decode cX7_ages 68 = .ok (.iconst 2, 1) := by decide +kernel
theorem dX7_ages_69 : decode cX7_ages 69 = .ok (.invokevirtual 74, 3) := by decide +kernel
theorem dX7_ages_72 : decode cX7_ages 72 = .ok (.ireturn, 1) := by decide +kernel
theorem dX7_ages_73 : decode cX7_ages 73 = .ok (.iconst 0, 1) := by decide +kernel
theorem dX7_ages_74 : decode cX7_ages 74 = .ok (.istore 5, 2) := by decide +kernel
theorem dX7_ages_76 : decode cX7_ages 76 = .ok (.iload 5, 2) := by decide +kernel
theorem dX7_ages_78 : decode cX7_ages 78 = .ok (.bipush 64, 2) := by decide +kernel
theorem dX7_ages_80 : decode cX7_ages 80 = .ok (.if_icmp .ge 26, 3) := by decide +kernel
theorem dX7_ages_83 : decode cX7_ages 83 = .ok (.aload_n 0, 1) := by decide +kernel
theorem dX7_ages_84 : decode cX7_ages 84 = .ok (.getfield 40, 3) := by decide +kernel
theorem dX7_ages_87 : decode cX7_ages 87 = .ok (.iload 5, 2) := by decide +kernel
theorem dX7_ages_89 : decode cX7_ages 89 = .ok (.iload 5, 2) := by decide +kernel
theorem dX7_ages_91 : decode cX7_ages 91 = .ok (.ifCond .ne 7, 3) := by decide +kernel
theorem dX7_ages_94 : decode cX7_ages 94 = .ok (.iconst 1, 1) := by decide +kernel
theorem dX7_ages_95 : decode cX7_ages 95 = .ok (.goto 4, 3) := by decide +kernel
theorem dX7_ages_98 : decode cX7_ages 98 = .ok (.iconst 0, 1) := by decide +kernel
theorem dX7_ages_99 : decode cX7_ages 99 = .ok (.iastore, 1) := by decide +kernel
theorem dX7_ages_100 : decode cX7_ages 100 = .ok (.iinc 5 1, 3) := by decide +kernel
theorem dX7_ages_103 : decode cX7_ages 103 = .ok (.goto (-27), 3) := by decide +kernel
theorem dX7_ages_106 : decode cX7_ages 106 = .ok (.aload_n 0, 1) := by decide +kernel
theorem dX7_ages_107 : decode cX7_ages 107 = .ok (.getfield 22, 3) := by decide +kernel
theorem dX7_ages_110 : decode cX7_ages 110 = .ok (.bipush 23, 2) := by decide +kernel
theorem dX7_ages_112 : decode cX7_ages 112 = .ok (.iload_n 1, 1) := by decide +kernel
theorem dX7_ages_113 : decode cX7_ages 113 = .ok (.iadd, 1) := by decide +kernel
theorem dX7_ages_114 : decode cX7_ages 114 = .ok (.iaload, 1) := by decide +kernel
theorem dX7_ages_115 : decode cX7_ages 115 = .ok (.i2l, 1) := by decide +kernel
theorem dX7_ages_116 : decode cX7_ages 116 = .ok (.lstore 5, 2) := by decide +kernel
theorem dX7_ages_118 : decode cX7_ages 118 = .ok (.iconst 0, 1) := by decide +kernel
theorem dX7_ages_119 : decode cX7_ages 119 = .ok (.istore 7, 2) := by decide +kernel
theorem dX7_ages_121 : decode cX7_ages 121 = .ok (.iload 7, 2) := by decide +kernel
theorem dX7_ages_123 : decode cX7_ages 123 = .ok (.iload 4, 2) := by decide +kernel
theorem dX7_ages_125 : decode cX7_ages 125 = .ok (.if_icmp .ge 81, 3) := by decide +kernel
theorem dX7_ages_128 : decode cX7_ages 128 = .ok (.aload_n 0, 1) := by decide +kernel
theorem dX7_ages_129 : decode cX7_ages 129 = .ok (.getfield 16, 3) := by decide +kernel
theorem dX7_ages_132 : decode cX7_ages 132 = .ok (.bipush 40, 2) := by decide +kernel
theorem dX7_ages_134 : decode cX7_ages 134 = .ok (.iload_n 2, 1) := by decide +kernel
theorem dX7_ages_135 : decode cX7_ages 135 = .ok (.imul, 1) := by decide +kernel
theorem dX7_ages_136 : decode cX7_ages 136 = .ok (.iload_n 3, 1) := by decide +kernel
theorem dX7_ages_137 : decode cX7_ages 137 = .ok (.iadd, 1) := by decide +kernel
theorem dX7_ages_138 : decode cX7_ages 138 = .ok (.iload 7, 2) := by decide +kernel
theorem dX7_ages_140 : decode cX7_ages 140 = .ok (.iadd, 1) := by decide +kernel
theorem dX7_ages_141 : decode cX7_ages 141 = .ok (.iaload, 1) := by decide +kernel
theorem dX7_ages_142 : decode cX7_ages 142 = .ok (.i2l, 1) := by decide +kernel
theorem dX7_ages_143 : decode cX7_ages 143 = .ok (.lload 5, 2) := by decide +kernel
theorem dX7_ages_145 : decode cX7_ages 145 = .ok (.lsub, 1) := by decide +kernel
theorem dX7_ages_146 : decode cX7_ages 146 = .ok (.iload 7, 2) := by decide +kernel
theorem dX7_ages_148 : decode cX7_ages 148 = .ok (.ifCond .le 7, 3) := by decide +kernel
theorem dX7_ages_151 : decode cX7_ages 151 = .ok (.iconst 1, 1) := by decide +kernel
theorem dX7_ages_152 : decode cX7_ages 152 = .ok (.goto 4, 3) := by decide +kernel
theorem dX7_ages_155 : decode cX7_ages 155 = .ok (.iconst 0, 1) := by decide +kernel
theorem dX7_ages_156 : decode cX7_ages 156 = .ok (.i2l, 1) := by decide +kernel
theorem dX7_ages_157 : decode cX7_ages 157 = .ok (.lsub, 1) := by decide +kernel
theorem dX7_ages_158 : decode cX7_ages 158 = .ok (.lstore 8, 2) := by decide +kernel
theorem dX7_ages_160 : decode cX7_ages 160 = .ok (.aload_n 0, 1) := by decide +kernel
theorem dX7_ages_161 : decode cX7_ages 161 = .ok (.lload 8, 2) := by decide +kernel
theorem dX7_ages_163 : decode cX7_ages 163 = .ok (.lconst 0, 1) := by decide +kernel
theorem dX7_ages_164 : decode cX7_ages 164 = .ok (.ldc2_w 241, 3) := by decide +kernel
theorem dX7_ages_167 : decode cX7_ages 167 = .ok (.invokestatic 63, 3) := by decide +kernel
theorem dX7_ages_170 : decode cX7_ages 170 = .ok (.ifCond .eq 9, 3) := by decide +kernel
theorem dX7_ages_173 : decode cX7_ages 173 = .ok (.lload 8, 2) := by decide +kernel
theorem dX7_ages_175 : decode cX7_ages 175 = .ok (.l2i, 1) := by decide +kernel
theorem dX7_ages_176 : decode cX7_ages 176 = .ok (.goto 4, 3) := by decide +kernel
theorem dX7_ages_179 : decode cX7_ages 179 = .ok (.iconst (-1), 1) := by decide +kernel
theorem dX7_ages_180 : decode cX7_ages 180 = .ok (.invokevirtual 248, 3) := by decide +kernel
theorem dX7_ages_183 : decode cX7_ages 183 = .ok (.aload_n 0, 1) := by decide +kernel
theorem dX7_ages_184 : decode cX7_ages 184 = .ok (.getfield 16, 3) := by decide +kernel
theorem dX7_ages_187 : decode cX7_ages 187 = .ok (.bipush 40, 2) := by decide +kernel
theorem dX7_ages_189 : decode cX7_ages 189 = .ok (.iload_n 2, 1) := by decide +kernel
theorem dX7_ages_190 : decode cX7_ages 190 = .ok (.imul, 1) := by decide +kernel
theorem dX7_ages_191 : decode cX7_ages 191 = .ok (.iload_n 3, 1) := by decide +kernel
theorem dX7_ages_192 : decode cX7_ages 192 = .ok (.iadd, 1) := by decide +kernel
theorem dX7_ages_193 : decode cX7_ages 193 = .ok (.iload 7, 2) := by decide +kernel
theorem dX7_ages_195 : decode cX7_ages 195 = .ok (.iadd, 1) := by decide +kernel
theorem dX7_ages_196 : decode cX7_ages 196 = .ok (.iaload, 1) := by decide +kernel
theorem dX7_ages_197 : decode cX7_ages 197 = .ok (.i2l, 1) := by decide +kernel
theorem dX7_ages_198 : decode cX7_ages 198 = .ok (.lstore 5, 2) := by decide +kernel
theorem dX7_ages_200 : decode cX7_ages 200 = .ok (.iinc 7 1, 3) := by decide +kernel
theorem dX7_ages_203 : decode cX7_ages 203 = .ok (.goto (-82), 3) := by decide +kernel
theorem dX7_ages_206 : decode cX7_ages 206 = .ok (.iconst 0, 1) := by decide +kernel
theorem dX7_ages_207 : decode cX7_ages 207 = .ok (.istore 7, 2) := by decide +kernel
theorem dX7_ages_209 : decode cX7_ages 209 = .ok (.iconst 0, 1) := by decide +kernel
theorem dX7_ages_210 : decode cX7_ages 210 = .ok (.istore 8, 2) := by decide +kernel
theorem dX7_ages_212 : decode cX7_ages 212 = .ok (.iload 8, 2) := by decide +kernel
theorem dX7_ages_214 : decode cX7_ages 214 = .ok (.bipush 64, 2) := by decide +kernel
theorem dX7_ages_216 : decode cX7_ages 216 = .ok (.if_icmp .ge 21, 3) := by decide +kernel
theorem dX7_ages_219 : decode cX7_ages 219 = .ok (.iload 7, 2) := by decide +kernel
theorem dX7_ages_221 : decode cX7_ages 221 = .ok (.aload_n 0, 1) := by decide +kernel
theorem dX7_ages_222 : decode cX7_ages 222 = .ok (.getfield 40, 3) := by decide +kernel
theorem dX7_ages_225 : decode cX7_ages 225 = .ok (.iload 8, 2) := by decide +kernel
theorem dX7_ages_227 : decode cX7_ages 227 = .ok (.iaload, 1) := by decide +kernel
theorem dX7_ages_228 : decode cX7_ages 228 = .ok (.iadd, 1) := by decide +kernel
theorem dX7_ages_229 : decode cX7_ages 229 = .ok (.istore 7, 2) := by decide +kernel
theorem dX7_ages_231 : decode cX7_ages 231 = .ok (.iinc 8 1, 3) := by decide +kernel
theorem dX7_ages_234 : decode cX7_ages 234 = .ok (.goto (-22), 3) := by decide +kernel
theorem dX7_ages_237 : decode cX7_ages 237 = .ok (.aload_n 0, 1) := by decide +kernel
theorem dX7_ages_238 : decode cX7_ages 238 = .ok (.iload 7, 2) := by decide +kernel
theorem dX7_ages_240 : decode cX7_ages 240 = .ok (.invokevirtual 78, 3) := by decide +kernel
theorem dX7_ages_243 : decode cX7_ages 243 = .ok (.ireturn, 1) := by decide +kernel
set_option maxRecDepth 100000 in
set_option maxHeartbeats 4000000 in
theorem X7_ages_b67_ok (G : Gt) (o : Nat) (ho : kd o = 7)     (mem : Mem) : EvR tvI G cX7_ages 10 (some .int) RX7 4 67 [(0, .ref (gA G o))] [] mem (X7_ages_b67 o  mem) := by
  unfold X7_ages_b67
  refine ev_aload_n (q := 68) dX7_ages_67 rfl 0 rfl rfl ?_
  refine ev_iconst (q := 69) (v := 2) dX7_ages_68 rfl li_2 ?_
  refine ev_callVI (q := 72) dX7_ages_69 rfl ml_X7_74 mt_X7_finds cf_7 rfl ho hc_7 (con_X7_finds G _ _ ho _) rfl (Nat.le_of_ble_eq_true rfl) (Nat.le_of_ble_eq_true rfl) rfl (Nat.le_of_ble_eq_true rfl) (fun r17 m18 => ?_)
  exact ev_iret dX7_ages_72 rfl
set_option maxRecDepth 100000 in
set_option maxHeartbeats 4000000 in
theorem X7_ages_b212_ok (G : Gt) (o : Nat) (ho : kd o = 7)    : ∀ (n : Nat) (x7 : Int32) (x8 : Int32) (mem : Mem), EvR tvI G cX7_ages 10 (some .int) RX7 4 212 [(0, .ref (gA G o)), (7, .int (x7)), (8, .int (x8))] [] mem (X7_ages_b212 o n x7 x8 mem) := by
  intro n
  induction n with
  | zero => intros; exact ev_none
  | succ n ih =>
    intro x7 x8 mem
    rw [X7_ages_b212]
    refine ev_iload (q := 214) dX7_ages_212 2 rfl rfl ?_
    refine ev_bipush (q := 216) (v := 64) dX7_ages_214 rfl lb_64 ?_
    refine ev_icmp_ge (t := 237) (q := 219) dX7_ages_216 rfl rfl (fun hc26 => ?_) (fun hc26 => ?_)
    · refine ev_iload (q := 221) dX7_ages_219 1 rfl rfl ?_
      refine ev_aload_n (q := 222) dX7_ages_221 rfl 0 rfl rfl ?_
      refine ev_getR (q := 225) (ci := 7) (j := 17) (T := TX7) dX7_ages_222 rfl cf_7 ho hj_7_17 hc_7 gf_X7_40 rfl ?_
      refine ev_iload (q := 227) dX7_ages_225 2 rfl rfl ?_
      refine ev_iald (q := 228) dX7_ages_227 rfl (kr_7_17 ho) (fun z29 => ?_)
      refine ev_iadd (q := 229) dX7_ages_228 rfl ?_
      refine ev_istore (q := 231) (lv2 := [(7, .int _), (0, .ref _), (8, .int _)]) dX7_ages_229 rfl (Nat.le_of_ble_eq_true rfl) rfl ?_
      refine ev_iinc (q := 234) (lv2 := [(8, .int _), (7, .int _), (0, .ref _)]) (v := x8 + 1) dX7_ages_231 2 rfl rfl (congrArg (HAdd.hAdd _) li_1) (Nat.le_of_ble_eq_true rfl) rfl ?_
      refine ev_goto (t := 212) dX7_ages_234 rfl ?_
      refine ev_sub (lv' := [(0, .ref _), (7, .int _), (8, .int _)]) [2, 1, 0] rfl ?_
      exact ih _ _ _
    · refine ev_aload_n (q := 238) dX7_ages_237 rfl 0 rfl rfl ?_
      refine ev_iload (q := 240) dX7_ages_238 1 rfl rfl ?_
      refine ev_callVI (q := 243) dX7_ages_240 rfl ml_X7_78 mt_X7_tells cf_7 rfl ho hc_7 (con_X7_tells G _ _ ho _) rfl (Nat.le_of_ble_eq_true rfl) (Nat.le_of_ble_eq_true rfl) rfl (Nat.le_of_ble_eq_true rfl) (fun r27 m28 => ?_)
      exact ev_iret dX7_ages_243 rfl
set_option maxRecDepth 100000 in
set_option maxHeartbeats 4000000 in
theorem X7_ages_b180_ok (G : Gt) (o : Nat) (ho : kd o = 7)   (k121 : Int32 → Int32 → Int32 → Int64 → Int32 → Mem → Option (Int32 × Mem)) (hk121 : ∀ (x2 : Int32) (x3 : Int32) (x4 : Int32) (w5 : Int64) (x7 : Int32) (mem : Mem), EvR tvI G cX7_ages 10 (some .int) RX7 4 121 [(0, .ref (gA G o)), (2, .int (x2)), (3, .int (x3)), (4, .int (x4)), (5, .long (w5)), (7, .int (x7))] [] mem (k121 x2 x3 x4 w5 x7 mem)) (x2 : Int32) (x3 : Int32) (x4 : Int32) (x7 : Int32) (s1 : Int32) (mem : Mem) : EvR tvI G cX7_ages 10 (some .int) RX7 4 180 [(0, .ref (gA G o)), (2, .int (x2)), (3, .int (x3)), (4, .int (x4)), (7, .int (x7))] [.int (s1), .ref (gA G o)] mem (X7_ages_b180 o k121 x2 x3 x4 x7 s1 mem) := by
  unfold X7_ages_b180
  refine ev_callVU (q := 183) dX7_ages_180 rfl ml_X7_248 mt_X7_readOn cf_7 rfl ho hc_7 (con_X7_readOn G _ _ ho _) rfl (Nat.le_of_ble_eq_true rfl) (Nat.le_of_ble_eq_true rfl) rfl (Nat.le_of_ble_eq_true rfl) (fun r33 m34 => ?_)
  refine ev_aload_n (q := 184) dX7_ages_183 rfl 0 rfl rfl ?_
  refine ev_getR (q := 187) (ci := 7) (j := 2) (T := TX7) dX7_ages_184 rfl cf_7 ho hj_7_2 hc_7 gf_X7_16 rfl ?_
  refine ev_bipush (q := 189) (v := 40) dX7_ages_187 rfl lb_40 ?_
  refine ev_iload_n (q := 190) dX7_ages_189 rfl 1 rfl rfl ?_
  refine ev_imul (q := 191) dX7_ages_190 rfl ?_
  refine ev_iload_n (q := 192) dX7_ages_191 rfl 2 rfl rfl ?_
  refine ev_iadd (q := 193) dX7_ages_192 rfl ?_
  refine ev_iload (q := 195) dX7_ages_193 4 rfl rfl ?_
  refine ev_iadd (q := 196) dX7_ages_195 rfl ?_
  refine ev_iald (q := 197) dX7_ages_196 rfl (kr_7_2 ho) (fun z35 => ?_)
  refine ev_i2l (q := 198) dX7_ages_197 rfl ?_
  refine ev_lstore (q := 200) (lv2 := [(5, .long _), (0, .ref _), (2, .int _), (3, .int _), (4, .int _), (7, .int _)]) dX7_ages_198 rfl (Nat.le_of_ble_eq_true rfl) rfl ?_
  refine ev_iinc (q := 203) (lv2 := [(7, .int _), (5, .long _), (0, .ref _), (2, .int _), (3, .int _), (4, .int _)]) (v := x7 + 1) dX7_ages_200 5 rfl rfl (congrArg (HAdd.hAdd _) li_1) (Nat.le_of_ble_eq_true rfl) rfl ?_
  refine ev_goto (t := 121) dX7_ages_203 rfl ?_
  refine ev_sub (lv' := [(0, .ref _), (2, .int _), (3, .int _), (4, .int _), (5, .long _), (7, .int _)]) [2, 3, 4, 5, 1, 0] rfl ?_
  exact hk121 _ _ _ _ _ _
set_option maxRecDepth 100000 in
set_option maxHeartbeats 4000000 in
theorem X7_ages_b156_ok (G : Gt) (o : Nat) (ho : kd o = 7)   (k121 : Int32 → Int32 → Int32 → Int64 → Int32 → Mem → Option (Int32 × Mem)) (hk121 : ∀ (x2 : Int32) (x3 : Int32) (x4 : Int32) (w5 : Int64) (x7 : Int32) (mem : Mem), EvR tvI G cX7_ages 10 (some .int) RX7 4 121 [(0, .ref (gA G o)), (2, .int (x2)), (3, .int (x3)), (4, .int (x4)), (5, .long (w5)), (7, .int (x7))] [] mem (k121 x2 x3 x4 w5 x7 mem)) (x2 : Int32) (x3 : Int32) (x4 : Int32) (x7 : Int32) (t0 : Int64) (s1 : Int32) (mem : Mem) : EvR tvI G cX7_ages 10 (some .int) RX7 4 156 [(0, .ref (gA G o)), (2, .int (x2)), (3, .int (x3)), (4, .int (x4)), (7, .int (x7))] [.int (s1), .long (t0)] mem (X7_ages_b156 o k121 x2 x3 x4 x7 t0 s1 mem) := by
  unfold X7_ages_b156
  refine ev_i2l (q := 157) dX7_ages_156 rfl ?_
  refine ev_lsub (q := 158) dX7_ages_157 rfl ?_
  refine ev_lstore (q := 160) (lv2 := [(8, .long _), (0, .ref _), (2, .int _), (3, .int _), (4, .int _), (7, .int _)]) dX7_ages_158 rfl (Nat.le_of_ble_eq_true rfl) rfl ?_
  refine ev_aload_n (q := 161) dX7_ages_160 rfl 1 rfl rfl ?_
  refine ev_lload (q := 163) dX7_ages_161 0 rfl rfl ?_
  refine ev_lconst (q := 164) (v := 0) dX7_ages_163 rfl ll_0 ?_
  refine ev_ldc2 (q := 167) (v := 999) dX7_ages_164 rfl kc_X7_241 ?_
  refine ev_callSI (q := 170) dX7_ages_167 rfl ml_X7_63 mt_X7_in (con_X7_in G _ _ _  _) rfl (Nat.le_of_ble_eq_true rfl) (Nat.le_of_ble_eq_true rfl) rfl (Nat.le_of_ble_eq_true rfl) (fun r30 m31 => ?_)
  refine ev_if_eq (t := 179) (q := 173) dX7_ages_170 rfl rfl (fun hc32 => ?_) (fun hc32 => ?_)
  · refine ev_iconst (q := 180) (v := (-1)) dX7_ages_179 rfl li_m1 ?_
    refine ev_sub (lv' := [(0, .ref _), (2, .int _), (3, .int _), (4, .int _), (7, .int _)]) [1, 2, 3, 4, 5] rfl ?_
    exact X7_ages_b180_ok G o ho  k121 hk121 _ _ _ _ _ _
  · refine ev_lload (q := 175) dX7_ages_173 0 rfl rfl ?_
    refine ev_l2i (q := 176) dX7_ages_175 rfl ?_
    refine ev_goto (t := 180) dX7_ages_176 rfl ?_
    refine ev_sub (lv' := [(0, .ref _), (2, .int _), (3, .int _), (4, .int _), (7, .int _)]) [1, 2, 3, 4, 5] rfl ?_
    exact X7_ages_b180_ok G o ho  k121 hk121 _ _ _ _ _ _
set_option maxRecDepth 100000 in
set_option maxHeartbeats 4000000 in
theorem X7_ages_b121_ok (G : Gt) (o : Nat) (ho : kd o = 7)    : ∀ (n : Nat) (x2 : Int32) (x3 : Int32) (x4 : Int32) (w5 : Int64) (x7 : Int32) (mem : Mem), EvR tvI G cX7_ages 10 (some .int) RX7 4 121 [(0, .ref (gA G o)), (2, .int (x2)), (3, .int (x3)), (4, .int (x4)), (5, .long (w5)), (7, .int (x7))] [] mem (X7_ages_b121 o n x2 x3 x4 w5 x7 mem) := by
  intro n
  induction n with
  | zero => intros; exact ev_none
  | succ n ih =>
    intro x2 x3 x4 w5 x7 mem
    rw [X7_ages_b121]
    refine ev_iload (q := 123) dX7_ages_121 5 rfl rfl ?_
    refine ev_iload (q := 125) dX7_ages_123 3 rfl rfl ?_
    refine ev_icmp_ge (t := 206) (q := 128) dX7_ages_125 rfl rfl (fun hc22 => ?_) (fun hc22 => ?_)
    · refine ev_aload_n (q := 129) dX7_ages_128 rfl 0 rfl rfl ?_
      refine ev_getR (q := 132) (ci := 7) (j := 2) (T := TX7) dX7_ages_129 rfl cf_7 ho hj_7_2 hc_7 gf_X7_16 rfl ?_
      refine ev_bipush (q := 134) (v := 40) dX7_ages_132 rfl lb_40 ?_
      refine ev_iload_n (q := 135) dX7_ages_134 rfl 1 rfl rfl ?_
      refine ev_imul (q := 136) dX7_ages_135 rfl ?_
      refine ev_iload_n (q := 137) dX7_ages_136 rfl 2 rfl rfl ?_
      refine ev_iadd (q := 138) dX7_ages_137 rfl ?_
      refine ev_iload (q := 140) dX7_ages_138 5 rfl rfl ?_
      refine ev_iadd (q := 141) dX7_ages_140 rfl ?_
      refine ev_iald (q := 142) dX7_ages_141 rfl (kr_7_2 ho) (fun z23 => ?_)
      refine ev_i2l (q := 143) dX7_ages_142 rfl ?_
      refine ev_lload (q := 145) dX7_ages_143 4 rfl rfl ?_
      refine ev_lsub (q := 146) dX7_ages_145 rfl ?_
      refine ev_iload (q := 148) dX7_ages_146 5 rfl rfl ?_
      refine ev_if_le (t := 155) (q := 151) dX7_ages_148 rfl rfl (fun hc24 => ?_) (fun hc24 => ?_)
      · refine ev_iconst (q := 152) (v := 1) dX7_ages_151 rfl li_1 ?_
        refine ev_goto (t := 156) dX7_ages_152 rfl ?_
        refine ev_sub (lv' := [(0, .ref _), (2, .int _), (3, .int _), (4, .int _), (7, .int _)]) [0, 1, 2, 3, 5] rfl ?_
        exact X7_ages_b156_ok G o ho  (X7_ages_b121 o n) ih _ _ _ _ _ _ _
      · refine ev_iconst (q := 156) (v := 0) dX7_ages_155 rfl li_0 ?_
        refine ev_sub (lv' := [(0, .ref _), (2, .int _), (3, .int _), (4, .int _), (7, .int _)]) [0, 1, 2, 3, 5] rfl ?_
        exact X7_ages_b156_ok G o ho  (X7_ages_b121 o n) ih _ _ _ _ _ _ _
    · refine ev_iconst (q := 207) (v := 0) dX7_ages_206 rfl li_0 ?_
      refine ev_istore (q := 209) (lv2 := [(7, .int _), (0, .ref _), (2, .int _), (3, .int _), (4, .int _), (5, .long _)]) dX7_ages_207 rfl (Nat.le_of_ble_eq_true rfl) rfl ?_
      refine ev_iconst (q := 210) (v := 0) dX7_ages_209 rfl li_0 ?_
      refine ev_istore (q := 212) (lv2 := [(8, .int _), (7, .int _), (0, .ref _), (2, .int _), (3, .int _), (4, .int _), (5, .long _)]) dX7_ages_210 rfl (Nat.le_of_ble_eq_true rfl) rfl ?_
      refine ev_sub (lv' := [(0, .ref _), (7, .int _), (8, .int _)]) [2, 1, 0] rfl ?_
      exact X7_ages_b212_ok G o ho   fu _ _ _
set_option maxRecDepth 100000 in
set_option maxHeartbeats 4000000 in
theorem X7_ages_b99_ok (G : Gt) (o : Nat) (ho : kd o = 7)   (k76 : Int32 → Int32 → Int32 → Int32 → Int32 → Mem → Option (Int32 × Mem)) (hk76 : ∀ (x1 : Int32) (x2 : Int32) (x3 : Int32) (x4 : Int32) (x5 : Int32) (mem : Mem), EvR tvI G cX7_ages 10 (some .int) RX7 4 76 [(0, .ref (gA G o)), (1, .int (x1)), (2, .int (x2)), (3, .int (x3)), (4, .int (x4)), (5, .int (x5))] [] mem (k76 x1 x2 x3 x4 x5 mem)) (x1 : Int32) (x2 : Int32) (x3 : Int32) (x4 : Int32) (x5 : Int32) (s1 : Int32) (s2 : Int32) (mem : Mem) : EvR tvI G cX7_ages 10 (some .int) RX7 4 99 [(0, .ref (gA G o)), (1, .int (x1)), (2, .int (x2)), (3, .int (x3)), (4, .int (x4)), (5, .int (x5))] [.int (s2), .int (s1), .ref (gA G (rf o 17))] mem (X7_ages_b99 o k76 x1 x2 x3 x4 x5 s1 s2 mem) := by
  unfold X7_ages_b99
  refine ev_iast (q := 100) dX7_ages_99 rfl (kr_7_17 ho) (fun m25 => ?_)
  refine ev_iinc (q := 103) (lv2 := [(5, .int _), (0, .ref _), (1, .int _), (2, .int _), (3, .int _), (4, .int _)]) (v := x5 + 1) dX7_ages_100 5 rfl rfl (congrArg (HAdd.hAdd _) li_1) (Nat.le_of_ble_eq_true rfl) rfl ?_
  refine ev_goto (t := 76) dX7_ages_103 rfl ?_
  refine ev_sub (lv' := [(0, .ref _), (1, .int _), (2, .int _), (3, .int _), (4, .int _), (5, .int _)]) [1, 2, 3, 4, 5, 0] rfl ?_
  exact hk76 _ _ _ _ _ _
set_option maxRecDepth 100000 in
set_option maxHeartbeats 4000000 in
theorem X7_ages_b76_ok (G : Gt) (o : Nat) (ho : kd o = 7)    : ∀ (n : Nat) (x1 : Int32) (x2 : Int32) (x3 : Int32) (x4 : Int32) (x5 : Int32) (mem : Mem), EvR tvI G cX7_ages 10 (some .int) RX7 4 76 [(0, .ref (gA G o)), (1, .int (x1)), (2, .int (x2)), (3, .int (x3)), (4, .int (x4)), (5, .int (x5))] [] mem (X7_ages_b76 o n x1 x2 x3 x4 x5 mem) := by
  intro n
  induction n with
  | zero => intros; exact ev_none
  | succ n ih =>
    intro x1 x2 x3 x4 x5 mem
    rw [X7_ages_b76]
    refine ev_iload (q := 78) dX7_ages_76 5 rfl rfl ?_
    refine ev_bipush (q := 80) (v := 64) dX7_ages_78 rfl lb_64 ?_
    refine ev_icmp_ge (t := 106) (q := 83) dX7_ages_80 rfl rfl (fun hc19 => ?_) (fun hc19 => ?_)
    · refine ev_aload_n (q := 84) dX7_ages_83 rfl 0 rfl rfl ?_
      refine ev_getR (q := 87) (ci := 7) (j := 17) (T := TX7) dX7_ages_84 rfl cf_7 ho hj_7_17 hc_7 gf_X7_40 rfl ?_
      refine ev_iload (q := 89) dX7_ages_87 5 rfl rfl ?_
      refine ev_iload (q := 91) dX7_ages_89 5 rfl rfl ?_
      refine ev_if_ne (t := 98) (q := 94) dX7_ages_91 rfl rfl (fun hc21 => ?_) (fun hc21 => ?_)
      · refine ev_iconst (q := 95) (v := 1) dX7_ages_94 rfl li_1 ?_
        refine ev_goto (t := 99) dX7_ages_95 rfl ?_
        exact X7_ages_b99_ok G o ho  (X7_ages_b76 o n) ih _ _ _ _ _ _ _ _
      · refine ev_iconst (q := 99) (v := 0) dX7_ages_98 rfl li_0 ?_
        exact X7_ages_b99_ok G o ho  (X7_ages_b76 o n) ih _ _ _ _ _ _ _ _
    · refine ev_aload_n (q := 107) dX7_ages_106 rfl 0 rfl rfl ?_
      refine ev_getR (q := 110) (ci := 7) (j := 5) (T := TX7) dX7_ages_107 rfl cf_7 ho hj_7_5 hc_7 gf_X7_22 rfl ?_
      refine ev_bipush (q := 112) (v := 23) dX7_ages_110 rfl lb_23 ?_
      refine ev_iload_n (q := 113) dX7_ages_112 rfl 1 rfl rfl ?_
      refine ev_iadd (q := 114) dX7_ages_113 rfl ?_
      refine ev_iald (q := 115) dX7_ages_114 rfl (kr_7_5 ho) (fun z20 => ?_)
      refine ev_i2l (q := 116) dX7_ages_115 rfl ?_
      refine ev_lstore (q := 118) (lv2 := [(5, .long _), (0, .ref _), (1, .int _), (2, .int _), (3, .int _), (4, .int _)]) dX7_ages_116 rfl (Nat.le_of_ble_eq_true rfl) rfl ?_
      refine ev_iconst (q := 119) (v := 0) dX7_ages_118 rfl li_0 ?_
      refine ev_istore (q := 121) (lv2 := [(7, .int _), (5, .long _), (0, .ref _), (1, .int _), (2, .int _), (3, .int _), (4, .int _)]) dX7_ages_119 rfl (Nat.le_of_ble_eq_true rfl) rfl ?_
      refine ev_sub (lv' := [(0, .ref _), (2, .int _), (3, .int _), (4, .int _), (5, .long _), (7, .int _)]) [2, 4, 5, 6, 1, 0] rfl ?_
      exact X7_ages_b121_ok G o ho   fu _ _ _ _ _ _
set_option maxRecDepth 100000 in
set_option maxHeartbeats 4000000 in
theorem con_X7_ages (G : Gt) (o : Nat) (a1 : Int32) (a2 : Int32) (a3 : Int32) (a4 : Int32) (ho : kd o = 7) (mem : Mem) : Con tvI G yX7_ages cX7_ages 10 (some .int) 4 [.ref (gA G o), .int a1, .int a2, .int a3, .int a4] mem (X7_ages o a1 a2 a3 a4 mem) := by
  refine con_of (by decide) (Nat.le_of_ble_eq_true rfl) ?_
  show EvR tvI G cX7_ages 10 (some .int) RX7 4 0 [(0, .ref (gA G o)), (1, .int (a1)), (2, .int (a2)), (3, .int (a3)), (4, .int (a4))] [] mem _
  unfold X7_ages
  refine ev_aload_n (q := 1) dX7_ages_0 rfl 0 rfl rfl ?_
  refine ev_iload_n (q := 2) dX7_ages_1 rfl 1 rfl rfl ?_
  refine ev_callVI (q := 5) dX7_ages_2 rfl ml_X7_180 mt_X7_isReader cf_7 rfl ho hc_7 (con_X7_isReader G _ _ ho _) rfl (Nat.le_of_ble_eq_true rfl) (Nat.le_of_ble_eq_true rfl) rfl (Nat.le_of_ble_eq_true rfl) (fun r1 m2 => ?_)
  refine ev_if_eq (t := 28) (q := 8) dX7_ages_5 rfl rfl (fun hc3 => ?_) (fun hc3 => ?_)
  · refine ev_ldc (q := 30) (v := (-1000001)) dX7_ages_28 rfl kc_X7_73 ?_
    exact ev_iret dX7_ages_30 rfl
  · refine ev_iload_n (q := 9) dX7_ages_8 rfl 2 rfl rfl ?_
    refine ev_callSI (q := 12) dX7_ages_9 rfl ml_X7_67 mt_X7_isRow (con_X7_isRow G _  _) rfl (Nat.le_of_ble_eq_true rfl) (Nat.le_of_ble_eq_true rfl) rfl (Nat.le_of_ble_eq_true rfl) (fun r4 m5 => ?_)
    refine ev_if_eq (t := 28) (q := 15) dX7_ages_12 rfl rfl (fun hc6 => ?_) (fun hc6 => ?_)
    · refine ev_ldc (q := 30) (v := (-1000001)) dX7_ages_28 rfl kc_X7_73 ?_
      exact ev_iret dX7_ages_30 rfl
    · refine ev_iload (q := 17) dX7_ages_15 4 rfl rfl ?_
      refine ev_i2l (q := 18) dX7_ages_17 rfl ?_
      refine ev_lconst (q := 19) (v := 1) dX7_ages_18 rfl ll_1 ?_
      refine ev_ldc2 (q := 22) (v := 6) dX7_ages_19 rfl kc_X7_246 ?_
      refine ev_callSI (q := 25) dX7_ages_22 rfl ml_X7_63 mt_X7_in (con_X7_in G _ _ _  _) rfl (Nat.le_of_ble_eq_true rfl) (Nat.le_of_ble_eq_true rfl) rfl (Nat.le_of_ble_eq_true rfl) (fun r7 m8 => ?_)
      refine ev_if_ne (t := 31) (q := 28) dX7_ages_25 rfl rfl (fun hc9 => ?_) (fun hc9 => ?_)
      · refine ev_ldc (q := 30) (v := (-1000001)) dX7_ages_28 rfl kc_X7_73 ?_
        exact ev_iret dX7_ages_30 rfl
      · refine ev_aload_n (q := 32) dX7_ages_31 rfl 0 rfl rfl ?_
        refine ev_getR (q := 35) (ci := 7) (j := 1) (T := TX7) dX7_ages_32 rfl cf_7 ho hj_7_1 hc_7 gf_X7_13 rfl ?_
        refine ev_iload_n (q := 36) dX7_ages_35 rfl 2 rfl rfl ?_
        refine ev_iald (q := 37) dX7_ages_36 rfl (kr_7_1 ho) (fun z10 => ?_)
        refine ev_if_ge (t := 46) (q := 40) dX7_ages_37 rfl rfl (fun hc11 => ?_) (fun hc11 => ?_)
        · refine ev_aload_n (q := 41) dX7_ages_40 rfl 0 rfl rfl ?_
          refine ev_iconst (q := 42) (v := 1) dX7_ages_41 rfl li_1 ?_
          refine ev_callVI (q := 45) dX7_ages_42 rfl ml_X7_74 mt_X7_finds cf_7 rfl ho hc_7 (con_X7_finds G _ _ ho _) rfl (Nat.le_of_ble_eq_true rfl) (Nat.le_of_ble_eq_true rfl) rfl (Nat.le_of_ble_eq_true rfl) (fun r15 m16 => ?_)
          exact ev_iret dX7_ages_45 rfl
        · refine ev_iload_n (q := 47) dX7_ages_46 rfl 3 rfl rfl ?_
          refine ev_if_lt (t := 67) (q := 50) dX7_ages_47 rfl rfl (fun hc12 => ?_) (fun hc12 => ?_)
          · refine ev_sub (lv' := [(0, .ref _)]) [0] rfl ?_
            exact X7_ages_b67_ok G o ho   _
          · refine ev_iload_n (q := 51) dX7_ages_50 rfl 3 rfl rfl ?_
            refine ev_i2l (q := 52) dX7_ages_51 rfl ?_
            refine ev_iload (q := 54) dX7_ages_52 4 rfl rfl ?_
            refine ev_i2l (q := 55) dX7_ages_54 rfl ?_
            refine ev_ladd (q := 56) dX7_ages_55 rfl ?_
            refine ev_aload_n (q := 57) dX7_ages_56 rfl 0 rfl rfl ?_
            refine ev_getR (q := 60) (ci := 7) (j := 1) (T := TX7) dX7_ages_57 rfl cf_7 ho hj_7_1 hc_7 gf_X7_13 rfl ?_
            refine ev_iload_n (q := 61) dX7_ages_60 rfl 2 rfl rfl ?_
            refine ev_iald (q := 62) dX7_ages_61 rfl (kr_7_1 ho) (fun z13 => ?_)
            refine ev_i2l (q := 63) dX7_ages_62 rfl ?_
            refine ev_lcmp (q := 64) dX7_ages_63 rfl ?_
            refine ev_if_le (t := 73) (q := 67) dX7_ages_64 rfl rfl (fun hc14 => ?_) (fun hc14 => ?_)
            · refine ev_sub (lv' := [(0, .ref _)]) [0] rfl ?_
              exact X7_ages_b67_ok G o ho   _
            · refine ev_iconst (q := 74) (v := 0) dX7_ages_73 rfl li_0 ?_
              refine ev_istore (q := 76) (lv2 := [(5, .int _), (0, .ref _), (1, .int _), (2, .int _), (3, .int _), (4, .int _)]) dX7_ages_74 rfl (Nat.le_of_ble_eq_true rfl) rfl ?_
              refine ev_sub (lv' := [(0, .ref _), (1, .int _), (2, .int _), (3, .int _), (4, .int _), (5, .int _)]) [1, 2, 3, 4, 5, 0] rfl ?_
              exact X7_ages_b76_ok G o ho   fu _ _ _ _ _ _
/-! AgingLettersModel.burnt(III)I -/
theorem dX7_burnt_0 : decode cX7_burnt 0 = .ok (.aload_n 0, 1) := by decide +kernel
theorem dX7_burnt_1 : decode cX7_burnt 1 = .ok (.iload_n 1, 1) := by decide +kernel
theorem dX7_burnt_2 : decode cX7_burnt 2 = .ok (.invokevirtual 180, 3) := by decide +kernel
theorem dX7_burnt_5 : decode cX7_burnt 5 = .ok (.ifCond .eq 25, 3) := by decide +kernel
theorem dX7_burnt_8 : decode cX7_burnt 8 = .ok (.iload_n 2, 1) := by decide +kernel
theorem dX7_burnt_9 : decode cX7_burnt 9 = .ok (.i2l, 1) := by decide +kernel
theorem dX7_burnt_10 : decode cX7_burnt 10 = .ok (.lconst 0, 1) := by decide +kernel
theorem dX7_burnt_11 : decode cX7_burnt 11 = .ok (.ldc2_w 252, 3) := by decide +kernel
theorem dX7_burnt_14 : decode cX7_burnt 14 = .ok (.invokestatic 63, 3) := by decide +kernel
theorem dX7_burnt_17 : decode cX7_burnt 17 = .ok (.ifCond .eq 13, 3) := by decide +kernel
theorem dX7_burnt_20 : decode cX7_burnt 20 = .ok (.iload_n 3, 1) := by decide +kernel
theorem dX7_burnt_21 : decode cX7_burnt 21 = .ok (.i2l, 1) := by decide +kernel
theorem dX7_burnt_22 : decode cX7_burnt 22 = .ok (.lconst 0, 1) := by decide +kernel
theorem dX7_burnt_23 : decode cX7_burnt 23 = .ok (.lconst 1, 1) := by decide +kernel
theorem dX7_burnt_24 : decode cX7_burnt 24 = .ok (.invokestatic 63, 3) := by decide +kernel
theorem dX7_burnt_27 : decode cX7_burnt 27 = .ok (.ifCond .ne 6, 3) := by decide +kernel
theorem dX7_burnt_30 : decode cX7_burnt 30 = .ok (.ldc 73, 2) := by decide +kernel
theorem dX7_burnt_32 : decode cX7_burnt 32 = .ok (.ireturn, 1) := by decide +kernel
theorem dX7_burnt_33 : decode cX7_burnt 33 = .ok (.aload_n 0, 1) := by decide +kernel
theorem dX7_burnt_34 : decode cX7_burnt 34 = .ok (.iload_n 1, 1) := by decide +kernel
theorem dX7_burnt_35 : decode cX7_burnt 35 = .ok (.invokevirtual 98, 3) := by decide +kernel
theorem dX7_burnt_38 : decode cX7_burnt 38 = .ok (.ifCond .ne 6, 3) := by decide +kernel
theorem dX7_burnt_41 : decode cX7_burnt 41 = .ok (.ldc 189, 2) := by decide +kernel
theorem dX7_burnt_43 : decode cX7_burnt 43 = .ok (.ireturn, 1) := by decide +kernel
theorem dX7_burnt_44 : decode cX7_burnt 44 = .ok (.aload_n 0, 1) := by decide +kernel
theorem dX7_burnt_45 : decode cX7_burnt 45 = .ok (.invokevirtual 223, 3) := by decide +kernel
theorem dX7_burnt_48 : decode cX7_burnt 48 = .ok (.istore 4, 2) := by decide +kernel
theorem dX7_burnt_50 : decode cX7_burnt 50 = .ok (.lconst 0, 1) := by decide +kernel
theorem dX7_burnt_51 : decode cX7_burnt 51 = .ok (.lstore 5, 2) := by decide +kernel
theorem dX7_burnt_53 : decode cX7_burnt 53 = .ok (.lconst 1, 1) := by decide +kernel
theorem dX7_burnt_54 : decode cX7_burnt 54 = .ok (.lstore 7, 2) := by decide +kernel
theorem dX7_burnt_56 : decode cX7_burnt 56 = .ok (.iconst 0, 1) := by decide +kernel
theorem dX7_burnt_57 : decode cX7_burnt 57 = .ok (.istore 9, 2) := by decide +kernel
theorem dX7_burnt_59 : decode cX7_burnt 59 = .ok (.iload 9, 2) := by decide +kernel
theorem dX7_burnt_61 : decode cX7_burnt 61 = .ok (.iconst 1, 1) := by decide +kernel
theorem dX7_burnt_62 : decode cX7_burnt 62 = .ok (.aload_n 0, 1) := by decide +kernel
theorem dX7_burnt_63 : decode cX7_burnt 63 = .ok (.invokevirtual 85, 3) := by decide +kernel
theorem dX7_burnt_66 : decode cX7_burnt 66 = .ok (.ishl, 1) := by decide +kernel
theorem dX7_burnt_67 : decode cX7_burnt 67 = .ok (.if_icmp .ge 124, 3) := by decide +kernel
theorem dX7_burnt_70 : decode cX7_burnt 70 = .ok (.lconst 1, 1) := by decide +kernel
theorem dX7_burnt_71 : decode cX7_burnt 71 = .ok (.lstore 10, 2) := by decide +kernel
theorem dX7_burnt_73 : decode cX7_burnt 73 = .ok (.iconst 0, 1) := by decide +kernel
theorem dX7_burnt_74 : decode cX7_burnt 74 = .ok (.istore 12, 2) := by decide +kernel
theorem dX7_burnt_76 : decode cX7_burnt 76 = .ok (.iload 12, 2) := by decide +kernel
theorem dX7_burnt_78 : decode cX7_burnt 78 = .ok (.aload_n 0, 1) := by decide +kernel
theorem dX7_burnt_79 : decode cX7_burnt 79 = .ok (.invokevirtual 85, 3) := by decide +kernel
theorem dX7_burnt_82 : decode cX7_burnt 82 = .ok (.if_icmp .ge 49, 3) := by decide +kernel
theorem dX7_burnt_85 : decode cX7_burnt 85 = .ok (.lload 10, 2) := by decide +kernel
theorem dX7_burnt_87 : decode cX7_burnt 87 = .ok (.iload 9, 2) := by decide +kernel
theorem dX7_burnt_89 : decode cX7_burnt 89 = .ok (.iload 12, 2) := by decide +kernel
theorem dX7_burnt_91 : decode cX7_burnt 91 = .ok (.invokestatic 200, 3) := by decide +kernel
theorem dX7_burnt_94 : decode cX7_burnt 94 = .ok (.ifCond .eq 12, 3) := by decide +kernel
theorem dX7_burnt_97 : decode cX7_burnt 97 = .ok (.ldc2_w 252, 3) := by decide +kernel
theorem dX7_burnt_100 : decode cX7_burnt 100 = .ok (.iload_n 2, 1) := by decide +kernel
theorem dX7_burnt_101 : decode cX7_burnt 101 = .ok (.i2l, 1) := by decide +kernel
theorem dX7_burnt_102 : decode cX7_burnt 102 = .ok (.lsub, 1) := by decide +kernel
theorem dX7_burnt_103 : decode cX7_burnt 103 = .ok (.goto 19, 3) := by decide +kernel
theorem dX7_burnt_106 : decode cX7_burnt 106 = .ok (.iload 4, 2) := by decide +kernel
theorem dX7_burnt_108 : decode cX7_burnt 108 = .ok (.iload 12, 2) := by decide +kernel
theorem dX7_burnt_110 : decode cX7_burnt 110 = .ok (.invokestatic 200, 3) := by decide +kernel
theorem dX7_burnt_113 : decode cX7_burnt 113 = .ok (.ifCond .eq 8, 3) := by decide +kernel
theorem dX7_burnt_116 : decode cX7_burnt 116 = .ok (.iload_n 2, 1) := by decide +kernel
theorem dX7_burnt_117 : decode cX7_burnt 117 = .ok (.i2l, 1) := by decide +kernel
theorem dX7_burnt_118 : decode cX7_burnt 118 = .ok (.goto 4, 3) := by decide +kernel
theorem dX7_burnt_121 : decode cX7_burnt 121 = .ok (.lconst 1, 1) := by decide +kernel
theorem dX7_burnt_122 : decode cX7_burnt 122 = .ok (.lmul, 1) := by decide +kernel
theorem dX7_burnt_123 : decode cX7_burnt 123 = .ok (.lstore 10, 2) := by decide +kernel
theorem dX7_burnt_125 : decode cX7_burnt 125 = .ok (.iinc 12 1, 3) := by decide +kernel
theorem dX7_burnt_128 : decode cX7_burnt 128 = .ok (.goto (-52), 3) := by decide +kernel
theorem dX7_burnt_131 : decode cX7_burnt 131 = .ok (.iload 9, 2) := by decide +kernel
theorem dX7_burnt_133 : decode cX7_burnt 133 = .ok (.iload 4, 2) := by decide +kernel
theorem dX7_burnt_135 : decode cX7_burnt 135 = .ok (.iconst (-1), 1) := by decide +kernel
theorem dX7_burnt_136 : decode cX7_burnt 136 = .ok (.ixor, 1) := by decide +kernel
theorem dX7_burnt_137 : decode cX7_burnt 137 = .ok (.iand, 1) := by decide +kernel
theorem dX7_burnt_138 : decode cX7_burnt 138 = .ok (.ifCond .ne 28, 3) := by decide +kernel
theorem dX7_burnt_141 : decode cX7_burnt 141 = .ok (.aload_n 0, 1) := by decide +kernel
theorem dX7_burnt_142 : decode cX7_burnt 142 = .ok (.iload_n 1, 1) := by decide +kernel
theorem dX7_burnt_143 : decode cX7_burnt 143 = .ok (.invokevirtual 92, 3) := by decide +kernel
theorem dX7_burnt_146 : decode cX7_burnt 146 = .ok (.aload_n 0, 1) := by decide +kernel
theorem dX7_burnt_147 : decode cX7_burnt 147 = .ok (.iload_n 1, 1) := by decide +kernel
theorem dX7_burnt_148 : decode cX7_burnt 148 = .ok (.iload 9, 2) := by decide +kernel
theorem dX7_burnt_150 : decode cX7_burnt 150 = .ok (.invokevirtual 236, 3) := by decide +kernel
theorem dX7_burnt_153 : decode cX7_burnt 153 = .ok (.iadd, 1) := by decide +kernel
theorem dX7_burnt_154 : decode cX7_burnt 154 = .ok (.aload_n 0, 1) := by decide +kernel
theorem dX7_burnt_155 : decode cX7_burnt 155 = .ok (.iload_n 1, 1) := by decide +kernel
theorem dX7_burnt_156 : decode cX7_burnt 156 = .ok (.invokevirtual 95, 3) := by decide +kernel
theorem dX7_burnt_159 : decode cX7_burnt 159 = .ok (.if_icmp .ge 7, 3) := by decide +kernel
theorem dX7_burnt_162 : decode cX7_burnt 162 = .ok (.iconst 1, 1) := by decide +kernel
theorem dX7_burnt_163 : decode cX7_burnt 163 = .ok (.goto 4, 3) := by decide +kernel
theorem dX7_burnt_166 : decode cX7_burnt 166 = .ok (.iconst 0, 1) := by decide +kernel
theorem dX7_burnt_167 : decode cX7_burnt 167 = .ok (.istore 12, 2) := by decide +kernel
theorem dX7_burnt_169 : decode cX7_burnt 169 = .ok (.lload 5, 2) := by decide +kernel
theorem dX7_burnt_171 : decode cX7_burnt 171 = .ok (.iload 12, 2) := by decide +kernel
theorem dX7_burnt_173 : decode cX7_burnt 173 = .ok (.ifCond .eq 8, 3) := by decide +kernel
theorem dX7_burnt_176 : decode cX7_burnt 176 = .ok (.lload 10, 2) := by decide +kernel
theorem dX7_burnt_178 : decode cX7_burnt 178 = .ok (.goto 4, 3) := by decide +kernel
theorem dX7_burnt_181 : decode cX7_burnt 181 = .ok (.lconst 0, 1) := by decide +kernel
theorem dX7_burnt_182 : decode cX7_burnt 182 = .ok (.ladd, 1) := by decide +kernel
theorem dX7_burnt_183 : decode cX7_burnt 183 = .ok (.lstore 5, 2) := by decide +kernel
theorem dX7_burnt_185 : decode cX7_burnt 185 = .ok (.iinc 9 1, 3) := by decide +kernel
theorem dX7_burnt_188 : decode cX7_burnt 188 = .ok (.goto (-129), 3) := by decide +kernel
theorem dX7_burnt_191 : decode cX7_burnt 191 = .ok (.iload 4, 2) := by decide +kernel
theorem dX7_burnt_193 : decode cX7_burnt 193 = .ok (.invokestatic 227, 3) := by decide +kernel
theorem dX7_burnt_196 : decode cX7_burnt 196 = .ok (.istore 9, 2) := by decide +kernel
theorem dX7_burnt_198 : decode cX7_burnt 198 = .ok (.iload 9, 2) := by decide +kernel
theorem dX7_burnt_200 : decode cX7_burnt 200 = .ok (.ifCond .le 17, 3) := by decide +kernel
theorem dX7_burnt_203 : decode cX7_burnt 203 = .ok (.lload 7, 2) := by decide +kernel
theorem dX7_burnt_205 : decode cX7_burnt 205 = .ok (.ldc2_w 252, 3) := by decide +kernel
theorem dX7_burnt_208 : decode cX7_burnt 208 = .ok (.lmul, 1) := by decide +kernel
theorem dX7_burnt_209 : decode cX7_burnt 209 = .ok (.lstore 7, 2) := by decide +kernel
theorem dX7_burnt_211 : decode cX7_burnt 211 = .ok (.iinc 9 (-1), 3) := by decide +kernel
theorem dX7_burnt_214 : decode cX7_burnt 214 = .ok (.goto (-16), 3) := by decide +kernel
theorem dX7_burnt_217 : decode cX7_burnt 217 = .ok (.lload 5, 2) := by decide +kernel
theorem dX7_burnt_219 : decode cX7_burnt 219 = .ok (.lstore 9, 2) := by decide +kernel
theorem dX7_burnt_221 : decode cX7_burnt 221 = .ok (.lload 7, 2) := by decide +kernel
theorem dX7_burnt_223 : decode cX7_burnt 223 = .ok (.lstore 11, 2) := by decide +kernel
theorem dX7_burnt_225 : decode cX7_burnt 225 = .ok (.lload 11, 2) := by decide +kernel
theorem dX7_burnt_227 : decode cX7_burnt 227 = .ok (.lconst 0, 1) := by decide +kernel
theorem dX7_burnt_228 : decode cX7_burnt 228 = .ok (.lcmp, 1) := by decide +kernel
theorem dX7_burnt_229 : decode cX7_burnt 229 = .ok (.ifCond .eq 21, 3) := by decide +kernel
theorem dX7_burnt_232 : decode cX7_burnt 232 = .ok (.lload 9, 2) := by decide +kernel
theorem dX7_burnt_234 : decode cX7_burnt 234 = .ok (.lload 11, 2) := by decide +kernel
theorem dX7_burnt_236 : decode cX7_burnt 236 = .ok (.lrem, 1) := by decide +kernel
theorem dX7_burnt_237 : decode cX7_burnt 237 = .ok (.lstore 13, 2) := by decide +kernel
theorem dX7_burnt_239 : decode cX7_burnt 239 = .ok (.lload 11, 2) := by decide +kernel
theorem dX7_burnt_241 : decode cX7_burnt 241 = .ok (.lstore 9, 2) := by decide +kernel
theorem dX7_burnt_243 : decode cX7_burnt 243 = .ok (.lload 13, 2) := by decide +kernel
theorem dX7_burnt_245 : decode cX7_burnt 245 = .ok (.lstore 11, 2) := by decide +kernel
theorem dX7_burnt_247 : decode cX7_burnt 247 = .ok (.goto (-22), 3) := by decide +kernel
theorem dX7_burnt_250 : decode cX7_burnt 250 = .ok (.iload_n 3, 1) := by decide +kernel
theorem dX7_burnt_251 : decode cX7_burnt 251 = .ok (.ifCond .ne 11, 3) := by decide +kernel
theorem dX7_burnt_254 : decode cX7_burnt 254 = .ok (.lload 5, 2) := by decide +kernel
theorem dX7_burnt_256 : decode cX7_burnt 256 = .ok (.lload 9, 2) := by decide +kernel
theorem dX7_burnt_258 : decode cX7_burnt 258 = .ok (.ldiv, 1) := by decide +kernel
theorem dX7_burnt_259 : decode cX7_burnt 259 = .ok (.goto 8, 3) := by decide +kernel
theorem dX7_burnt_262 : decode cX7_burnt 262 = .ok (.lload 7, 2) := by decide +kernel
theorem dX7_burnt_264 : decode cX7_burnt 264 = .ok (.lload 9, 2) := by decide +kernel
theorem dX7_burnt_266 : decode cX7_burnt 266 = .ok (.ldiv, 1) := by decide +kernel
theorem dX7_burnt_267 : decode cX7_burnt 267 = .ok (.l2i, 1) := by decide +kernel
theorem dX7_burnt_268 : decode cX7_burnt 268 = .ok (.ireturn, 1) := by decide +kernel
set_option maxRecDepth 100000 in
set_option maxHeartbeats 4000000 in
theorem X7_burnt_b225_ok (G : Gt) (o : Nat) (ho : kd o = 7)    : ∀ (n : Nat) (x3 : Int32) (w5 : Int64) (w7 : Int64) (w9 : Int64) (w11 : Int64) (mem : Mem), EvR tvI G cX7_burnt 15 (some .int) RX7 6 225 [(3, .int (x3)), (5, .long (w5)), (7, .long (w7)), (9, .long (w9)), (11, .long (w11))] [] mem (X7_burnt_b225 o n x3 w5 w7 w9 w11 mem) := by
  intro n
  induction n with
  | zero => intros; exact ev_none
  | succ n ih =>
    intro x3 w5 w7 w9 w11 mem
    rw [X7_burnt_b225]
    refine ev_lload (q := 227) dX7_burnt_225 4 rfl rfl ?_
    refine ev_lconst (q := 228) (v := 0) dX7_burnt_227 rfl ll_0 ?_
    refine ev_lcmp (q := 229) dX7_burnt_228 rfl ?_
    refine ev_if_eq (t := 250) (q := 232) dX7_burnt_229 rfl rfl (fun hc38 => ?_) (fun hc38 => ?_)
    · refine ev_iload_n (q := 251) dX7_burnt_250 rfl 0 rfl rfl ?_
      refine ev_if_ne (t := 262) (q := 254) dX7_burnt_251 rfl rfl (fun hc39 => ?_) (fun hc39 => ?_)
      · refine ev_lload (q := 256) dX7_burnt_254 1 rfl rfl ?_
        refine ev_lload (q := 258) dX7_burnt_256 3 rfl rfl ?_
        refine ev_ldiv (q := 259) dX7_burnt_258 rfl ?_
        refine ev_goto (t := 267) dX7_burnt_259 rfl ?_
        refine ev_l2i (q := 268) dX7_burnt_267 rfl ?_
        exact ev_iret dX7_burnt_268 rfl
      · refine ev_lload (q := 264) dX7_burnt_262 2 rfl rfl ?_
        refine ev_lload (q := 266) dX7_burnt_264 3 rfl rfl ?_
        refine ev_ldiv (q := 267) dX7_burnt_266 rfl ?_
        refine ev_l2i (q := 268) dX7_burnt_267 rfl ?_
        exact ev_iret dX7_burnt_268 rfl
    · refine ev_lload (q := 234) dX7_burnt_232 3 rfl rfl ?_
      refine ev_lload (q := 236) dX7_burnt_234 4 rfl rfl ?_
      refine ev_lrem (q := 237) dX7_burnt_236 rfl ?_
      refine ev_lstore (q := 239) (lv2 := [(13, .long _), (3, .int _), (5, .long _), (7, .long _), (9, .long _), (11, .long _)]) dX7_burnt_237 rfl (Nat.le_of_ble_eq_true rfl) rfl ?_
      refine ev_lload (q := 241) dX7_burnt_239 5 rfl rfl ?_
      refine ev_lstore (q := 243) (lv2 := [(9, .long _), (13, .long _), (3, .int _), (5, .long _), (7, .long _), (11, .long _)]) dX7_burnt_241 rfl (Nat.le_of_ble_eq_true rfl) rfl ?_
      refine ev_lload (q := 245) dX7_burnt_243 1 rfl rfl ?_
      refine ev_lstore (q := 247) (lv2 := [(11, .long _), (9, .long _), (13, .long _), (3, .int _), (5, .long _), (7, .long _)]) dX7_burnt_245 rfl (Nat.le_of_ble_eq_true rfl) rfl ?_
      refine ev_goto (t := 225) dX7_burnt_247 rfl ?_
      refine ev_sub (lv' := [(3, .int _), (5, .long _), (7, .long _), (9, .long _), (11, .long _)]) [3, 4, 5, 1, 0] rfl ?_
      exact ih _ _ _ _ _ _
set_option maxRecDepth 100000 in
set_option maxHeartbeats 4000000 in
theorem X7_burnt_b198_ok (G : Gt) (o : Nat) (ho : kd o = 7)    : ∀ (n : Nat) (x3 : Int32) (w5 : Int64) (w7 : Int64) (x9 : Int32) (mem : Mem), EvR tvI G cX7_burnt 15 (some .int) RX7 6 198 [(3, .int (x3)), (5, .long (w5)), (7, .long (w7)), (9, .int (x9))] [] mem (X7_burnt_b198 o n x3 w5 w7 x9 mem) := by
  intro n
  induction n with
  | zero => intros; exact ev_none
  | succ n ih =>
    intro x3 w5 w7 x9 mem
    rw [X7_burnt_b198]
    refine ev_iload (q := 200) dX7_burnt_198 3 rfl rfl ?_
    refine ev_if_le (t := 217) (q := 203) dX7_burnt_200 rfl rfl (fun hc20 => ?_) (fun hc20 => ?_)
    · refine ev_lload (q := 205) dX7_burnt_203 2 rfl rfl ?_
      refine ev_ldc2 (q := 208) (v := 10) dX7_burnt_205 rfl kc_X7_252 ?_
      refine ev_lmul (q := 209) dX7_burnt_208 rfl ?_
      refine ev_lstore (q := 211) (lv2 := [(7, .long _), (3, .int _), (5, .long _), (9, .int _)]) dX7_burnt_209 rfl (Nat.le_of_ble_eq_true rfl) rfl ?_
      refine ev_iinc (q := 214) (lv2 := [(9, .int _), (7, .long _), (3, .int _), (5, .long _)]) (v := x9 + (-1)) dX7_burnt_211 3 rfl rfl (congrArg (HAdd.hAdd _) li_m1) (Nat.le_of_ble_eq_true rfl) rfl ?_
      refine ev_goto (t := 198) dX7_burnt_214 rfl ?_
      refine ev_sub (lv' := [(3, .int _), (5, .long _), (7, .long _), (9, .int _)]) [2, 3, 1, 0] rfl ?_
      exact ih _ _ _ _ _
    · refine ev_lload (q := 219) dX7_burnt_217 1 rfl rfl ?_
      refine ev_lstore (q := 221) (lv2 := [(9, .long _), (3, .int _), (5, .long _), (7, .long _)]) dX7_burnt_219 rfl (Nat.le_of_ble_eq_true rfl) rfl ?_
      refine ev_lload (q := 223) dX7_burnt_221 3 rfl rfl ?_
      refine ev_lstore (q := 225) (lv2 := [(11, .long _), (9, .long _), (3, .int _), (5, .long _), (7, .long _)]) dX7_burnt_223 rfl (Nat.le_of_ble_eq_true rfl) rfl ?_
      refine ev_sub (lv' := [(3, .int _), (5, .long _), (7, .long _), (9, .long _), (11, .long _)]) [2, 3, 4, 1, 0] rfl ?_
      exact X7_burnt_b225_ok G o ho   fu _ _ _ _ _ _
set_option maxRecDepth 100000 in
set_option maxHeartbeats 4000000 in
theorem X7_burnt_b182_ok (G : Gt) (o : Nat) (ho : kd o = 7)   (k59 : Int32 → Int32 → Int32 → Int32 → Int64 → Int64 → Int32 → Mem → Option (Int32 × Mem)) (hk59 : ∀ (x1 : Int32) (x2 : Int32) (x3 : Int32) (x4 : Int32) (w5 : Int64) (w7 : Int64) (x9 : Int32) (mem : Mem), EvR tvI G cX7_burnt 15 (some .int) RX7 6 59 [(0, .ref (gA G o)), (1, .int (x1)), (2, .int (x2)), (3, .int (x3)), (4, .int (x4)), (5, .long (w5)), (7, .long (w7)), (9, .int (x9))] [] mem (k59 x1 x2 x3 x4 w5 w7 x9 mem)) (x1 : Int32) (x2 : Int32) (x3 : Int32) (x4 : Int32) (w7 : Int64) (x9 : Int32) (t0 : Int64) (t1 : Int64) (mem : Mem) : EvR tvI G cX7_burnt 15 (some .int) RX7 6 182 [(0, .ref (gA G o)), (1, .int (x1)), (2, .int (x2)), (3, .int (x3)), (4, .int (x4)), (7, .long (w7)), (9, .int (x9))] [.long (t1), .long (t0)] mem (X7_burnt_b182 o k59 x1 x2 x3 x4 w7 x9 t0 t1 mem) := by
  unfold X7_burnt_b182
  refine ev_ladd (q := 183) dX7_burnt_182 rfl ?_
  refine ev_lstore (q := 185) (lv2 := [(5, .long _), (0, .ref _), (1, .int _), (2, .int _), (3, .int _), (4, .int _), (7, .long _), (9, .int _)]) dX7_burnt_183 rfl (Nat.le_of_ble_eq_true rfl) rfl ?_
  refine ev_iinc (q := 188) (lv2 := [(9, .int _), (5, .long _), (0, .ref _), (1, .int _), (2, .int _), (3, .int _), (4, .int _), (7, .long _)]) (v := x9 + 1) dX7_burnt_185 7 rfl rfl (congrArg (HAdd.hAdd _) li_1) (Nat.le_of_ble_eq_true rfl) rfl ?_
  refine ev_goto (t := 59) dX7_burnt_188 rfl ?_
  refine ev_sub (lv' := [(0, .ref _), (1, .int _), (2, .int _), (3, .int _), (4, .int _), (5, .long _), (7, .long _), (9, .int _)]) [2, 3, 4, 5, 6, 1, 7, 0] rfl ?_
  exact hk59 _ _ _ _ _ _ _ _
set_option maxRecDepth 100000 in
set_option maxHeartbeats 4000000 in
theorem X7_burnt_b167_ok (G : Gt) (o : Nat) (ho : kd o = 7)   (k59 : Int32 → Int32 → Int32 → Int32 → Int64 → Int64 → Int32 → Mem → Option (Int32 × Mem)) (hk59 : ∀ (x1 : Int32) (x2 : Int32) (x3 : Int32) (x4 : Int32) (w5 : Int64) (w7 : Int64) (x9 : Int32) (mem : Mem), EvR tvI G cX7_burnt 15 (some .int) RX7 6 59 [(0, .ref (gA G o)), (1, .int (x1)), (2, .int (x2)), (3, .int (x3)), (4, .int (x4)), (5, .long (w5)), (7, .long (w7)), (9, .int (x9))] [] mem (k59 x1 x2 x3 x4 w5 w7 x9 mem)) (x1 : Int32) (x2 : Int32) (x3 : Int32) (x4 : Int32) (w5 : Int64) (w7 : Int64) (x9 : Int32) (w10 : Int64) (s0 : Int32) (mem : Mem) : EvR tvI G cX7_burnt 15 (some .int) RX7 6 167 [(0, .ref (gA G o)), (1, .int (x1)), (2, .int (x2)), (3, .int (x3)), (4, .int (x4)), (5, .long (w5)), (7, .long (w7)), (9, .int (x9)), (10, .long (w10))] [.int (s0)] mem (X7_burnt_b167 o k59 x1 x2 x3 x4 w5 w7 x9 w10 s0 mem) := by
  unfold X7_burnt_b167
  refine ev_istore (q := 169) (lv2 := [(12, .int _), (0, .ref _), (1, .int _), (2, .int _), (3, .int _), (4, .int _), (5, .long _), (7, .long _), (9, .int _), (10, .long _)]) dX7_burnt_167 rfl (Nat.le_of_ble_eq_true rfl) rfl ?_
  refine ev_lload (q := 171) dX7_burnt_169 6 rfl rfl ?_
  refine ev_iload (q := 173) dX7_burnt_171 0 rfl rfl ?_
  refine ev_if_eq (t := 181) (q := 176) dX7_burnt_173 rfl rfl (fun hc40 => ?_) (fun hc40 => ?_)
  · refine ev_lconst (q := 182) (v := 0) dX7_burnt_181 rfl ll_0 ?_
    refine ev_sub (lv' := [(0, .ref _), (1, .int _), (2, .int _), (3, .int _), (4, .int _), (7, .long _), (9, .int _)]) [1, 2, 3, 4, 5, 7, 8] rfl ?_
    exact X7_burnt_b182_ok G o ho  k59 hk59 _ _ _ _ _ _ _ _ _
  · refine ev_lload (q := 178) dX7_burnt_176 9 rfl rfl ?_
    refine ev_goto (t := 182) dX7_burnt_178 rfl ?_
    refine ev_sub (lv' := [(0, .ref _), (1, .int _), (2, .int _), (3, .int _), (4, .int _), (7, .long _), (9, .int _)]) [1, 2, 3, 4, 5, 7, 8] rfl ?_
    exact X7_burnt_b182_ok G o ho  k59 hk59 _ _ _ _ _ _ _ _ _
set_option maxRecDepth 100000 in
set_option maxHeartbeats 4000000 in
theorem X7_burnt_b166_ok (G : Gt) (o : Nat) (ho : kd o = 7)   (k59 : Int32 → Int32 → Int32 → Int32 → Int64 → Int64 → Int32 → Mem → Option (Int32 × Mem)) (hk59 : ∀ (x1 : Int32) (x2 : Int32) (x3 : Int32) (x4 : Int32) (w5 : Int64) (w7 : Int64) (x9 : Int32) (mem : Mem), EvR tvI G cX7_burnt 15 (some .int) RX7 6 59 [(0, .ref (gA G o)), (1, .int (x1)), (2, .int (x2)), (3, .int (x3)), (4, .int (x4)), (5, .long (w5)), (7, .long (w7)), (9, .int (x9))] [] mem (k59 x1 x2 x3 x4 w5 w7 x9 mem)) (x1 : Int32) (x2 : Int32) (x3 : Int32) (x4 : Int32) (w5 : Int64) (w7 : Int64) (x9 : Int32) (w10 : Int64) (mem : Mem) : EvR tvI G cX7_burnt 15 (some .int) RX7 6 166 [(0, .ref (gA G o)), (1, .int (x1)), (2, .int (x2)), (3, .int (x3)), (4, .int (x4)), (5, .long (w5)), (7, .long (w7)), (9, .int (x9)), (10, .long (w10))] [] mem (X7_burnt_b166 o k59 x1 x2 x3 x4 w5 w7 x9 w10 mem) := by
  unfold X7_burnt_b166
  refine ev_iconst (q := 167) (v := 0) dX7_burnt_166 rfl li_0 ?_
  exact X7_burnt_b167_ok G o ho  k59 hk59 _ _ _ _ _ _ _ _ _ _
set_option maxRecDepth 100000 in
set_option maxHeartbeats 4000000 in
theorem X7_burnt_b122_ok (G : Gt) (o : Nat) (ho : kd o = 7)   (k59 : Int32 → Int32 → Int32 → Int32 → Int64 → Int64 → Int32 → Mem → Option (Int32 × Mem)) (hk59 : ∀ (x1 : Int32) (x2 : Int32) (x3 : Int32) (x4 : Int32) (w5 : Int64) (w7 : Int64) (x9 : Int32) (mem : Mem), EvR tvI G cX7_burnt 15 (some .int) RX7 6 59 [(0, .ref (gA G o)), (1, .int (x1)), (2, .int (x2)), (3, .int (x3)), (4, .int (x4)), (5, .long (w5)), (7, .long (w7)), (9, .int (x9))] [] mem (k59 x1 x2 x3 x4 w5 w7 x9 mem)) (k76 : Int32 → Int32 → Int32 → Int32 → Int64 → Int64 → Int32 → Int64 → Int32 → Mem → Option (Int32 × Mem)) (hk76 : ∀ (x1 : Int32) (x2 : Int32) (x3 : Int32) (x4 : Int32) (w5 : Int64) (w7 : Int64) (x9 : Int32) (w10 : Int64) (x12 : Int32) (mem : Mem), EvR tvI G cX7_burnt 15 (some .int) RX7 6 76 [(0, .ref (gA G o)), (1, .int (x1)), (2, .int (x2)), (3, .int (x3)), (4, .int (x4)), (5, .long (w5)), (7, .long (w7)), (9, .int (x9)), (10, .long (w10)), (12, .int (x12))] [] mem (k76 x1 x2 x3 x4 w5 w7 x9 w10 x12 mem)) (x1 : Int32) (x2 : Int32) (x3 : Int32) (x4 : Int32) (w5 : Int64) (w7 : Int64) (x9 : Int32) (x12 : Int32) (t0 : Int64) (t1 : Int64) (mem : Mem) : EvR tvI G cX7_burnt 15 (some .int) RX7 6 122 [(0, .ref (gA G o)), (1, .int (x1)), (2, .int (x2)), (3, .int (x3)), (4, .int (x4)), (5, .long (w5)), (7, .long (w7)), (9, .int (x9)), (12, .int (x12))] [.long (t1), .long (t0)] mem (X7_burnt_b122 o k59 k76 x1 x2 x3 x4 w5 w7 x9 x12 t0 t1 mem) := by
  unfold X7_burnt_b122
  refine ev_lmul (q := 123) dX7_burnt_122 rfl ?_
  refine ev_lstore (q := 125) (lv2 := [(10, .long _), (0, .ref _), (1, .int _), (2, .int _), (3, .int _), (4, .int _), (5, .long _), (7, .long _), (9, .int _), (12, .int _)]) dX7_burnt_123 rfl (Nat.le_of_ble_eq_true rfl) rfl ?_
  refine ev_iinc (q := 128) (lv2 := [(12, .int _), (10, .long _), (0, .ref _), (1, .int _), (2, .int _), (3, .int _), (4, .int _), (5, .long _), (7, .long _), (9, .int _)]) (v := x12 + 1) dX7_burnt_125 9 rfl rfl (congrArg (HAdd.hAdd _) li_1) (Nat.le_of_ble_eq_true rfl) rfl ?_
  refine ev_goto (t := 76) dX7_burnt_128 rfl ?_
  refine ev_sub (lv' := [(0, .ref _), (1, .int _), (2, .int _), (3, .int _), (4, .int _), (5, .long _), (7, .long _), (9, .int _), (10, .long _), (12, .int _)]) [2, 3, 4, 5, 6, 7, 8, 9, 1, 0] rfl ?_
  exact hk76 _ _ _ _ _ _ _ _ _ _
set_option maxRecDepth 100000 in
set_option maxHeartbeats 4000000 in
theorem X7_burnt_b76_ok (G : Gt) (o : Nat) (ho : kd o = 7)   (k59 : Int32 → Int32 → Int32 → Int32 → Int64 → Int64 → Int32 → Mem → Option (Int32 × Mem)) (hk59 : ∀ (x1 : Int32) (x2 : Int32) (x3 : Int32) (x4 : Int32) (w5 : Int64) (w7 : Int64) (x9 : Int32) (mem : Mem), EvR tvI G cX7_burnt 15 (some .int) RX7 6 59 [(0, .ref (gA G o)), (1, .int (x1)), (2, .int (x2)), (3, .int (x3)), (4, .int (x4)), (5, .long (w5)), (7, .long (w7)), (9, .int (x9))] [] mem (k59 x1 x2 x3 x4 w5 w7 x9 mem)) : ∀ (n : Nat) (x1 : Int32) (x2 : Int32) (x3 : Int32) (x4 : Int32) (w5 : Int64) (w7 : Int64) (x9 : Int32) (w10 : Int64) (x12 : Int32) (mem : Mem), EvR tvI G cX7_burnt 15 (some .int) RX7 6 76 [(0, .ref (gA G o)), (1, .int (x1)), (2, .int (x2)), (3, .int (x3)), (4, .int (x4)), (5, .long (w5)), (7, .long (w7)), (9, .int (x9)), (10, .long (w10)), (12, .int (x12))] [] mem (X7_burnt_b76 o k59 n x1 x2 x3 x4 w5 w7 x9 w10 x12 mem) := by
  intro n
  induction n with
  | zero => intros; exact ev_none
  | succ n ih =>
    intro x1 x2 x3 x4 w5 w7 x9 w10 x12 mem
    rw [X7_burnt_b76]
    refine ev_iload (q := 78) dX7_burnt_76 9 rfl rfl ?_
    refine ev_aload_n (q := 79) dX7_burnt_78 rfl 0 rfl rfl ?_
    refine ev_callVI (q := 82) dX7_burnt_79 rfl ml_X7_85 mt_X7_letters cf_7 rfl ho hc_7 (con_X7_letters G _ ho _) rfl (Nat.le_of_ble_eq_true rfl) (Nat.le_of_ble_eq_true rfl) rfl (Nat.le_of_ble_eq_true rfl) (fun r21 m22 => ?_)
    refine ev_icmp_ge (t := 131) (q := 85) dX7_burnt_82 rfl rfl (fun hc23 => ?_) (fun hc23 => ?_)
    · refine ev_lload (q := 87) dX7_burnt_85 8 rfl rfl ?_
      refine ev_iload (q := 89) dX7_burnt_87 7 rfl rfl ?_
      refine ev_iload (q := 91) dX7_burnt_89 9 rfl rfl ?_
      refine ev_callSI (q := 94) dX7_burnt_91 rfl ml_X7_200 mt_X7_has (con_X7_has G _ _  _) rfl (Nat.le_of_ble_eq_true rfl) (Nat.le_of_ble_eq_true rfl) rfl (Nat.le_of_ble_eq_true rfl) (fun r32 m33 => ?_)
      refine ev_if_eq (t := 106) (q := 97) dX7_burnt_94 rfl rfl (fun hc34 => ?_) (fun hc34 => ?_)
      · refine ev_iload (q := 108) dX7_burnt_106 4 rfl rfl ?_
        refine ev_iload (q := 110) dX7_burnt_108 9 rfl rfl ?_
        refine ev_callSI (q := 113) dX7_burnt_110 rfl ml_X7_200 mt_X7_has (con_X7_has G _ _  _) rfl (Nat.le_of_ble_eq_true rfl) (Nat.le_of_ble_eq_true rfl) rfl (Nat.le_of_ble_eq_true rfl) (fun r35 m36 => ?_)
        refine ev_if_eq (t := 121) (q := 116) dX7_burnt_113 rfl rfl (fun hc37 => ?_) (fun hc37 => ?_)
        · refine ev_lconst (q := 122) (v := 1) dX7_burnt_121 rfl ll_1 ?_
          refine ev_sub (lv' := [(0, .ref _), (1, .int _), (2, .int _), (3, .int _), (4, .int _), (5, .long _), (7, .long _), (9, .int _), (12, .int _)]) [0, 1, 2, 3, 4, 5, 6, 7, 9] rfl ?_
          exact X7_burnt_b122_ok G o ho  k59 hk59 (X7_burnt_b76 o k59 n) ih _ _ _ _ _ _ _ _ _ _ _
        · refine ev_iload_n (q := 117) dX7_burnt_116 rfl 2 rfl rfl ?_
          refine ev_i2l (q := 118) dX7_burnt_117 rfl ?_
          refine ev_goto (t := 122) dX7_burnt_118 rfl ?_
          refine ev_sub (lv' := [(0, .ref _), (1, .int _), (2, .int _), (3, .int _), (4, .int _), (5, .long _), (7, .long _), (9, .int _), (12, .int _)]) [0, 1, 2, 3, 4, 5, 6, 7, 9] rfl ?_
          exact X7_burnt_b122_ok G o ho  k59 hk59 (X7_burnt_b76 o k59 n) ih _ _ _ _ _ _ _ _ _ _ _
      · refine ev_ldc2 (q := 100) (v := 10) dX7_burnt_97 rfl kc_X7_252 ?_
        refine ev_iload_n (q := 101) dX7_burnt_100 rfl 2 rfl rfl ?_
        refine ev_i2l (q := 102) dX7_burnt_101 rfl ?_
        refine ev_lsub (q := 103) dX7_burnt_102 rfl ?_
        refine ev_goto (t := 122) dX7_burnt_103 rfl ?_
        refine ev_sub (lv' := [(0, .ref _), (1, .int _), (2, .int _), (3, .int _), (4, .int _), (5, .long _), (7, .long _), (9, .int _), (12, .int _)]) [0, 1, 2, 3, 4, 5, 6, 7, 9] rfl ?_
        exact X7_burnt_b122_ok G o ho  k59 hk59 (X7_burnt_b76 o k59 n) ih _ _ _ _ _ _ _ _ _ _ _
    · refine ev_iload (q := 133) dX7_burnt_131 7 rfl rfl ?_
      refine ev_iload (q := 135) dX7_burnt_133 4 rfl rfl ?_
      refine ev_iconst (q := 136) (v := (-1)) dX7_burnt_135 rfl li_m1 ?_
      refine ev_ixor (q := 137) dX7_burnt_136 rfl ?_
      refine ev_iand (q := 138) dX7_burnt_137 rfl ?_
      refine ev_if_ne (t := 166) (q := 141) dX7_burnt_138 rfl rfl (fun hc24 => ?_) (fun hc24 => ?_)
      · refine ev_aload_n (q := 142) dX7_burnt_141 rfl 0 rfl rfl ?_
        refine ev_iload_n (q := 143) dX7_burnt_142 rfl 1 rfl rfl ?_
        refine ev_callVI (q := 146) dX7_burnt_143 rfl ml_X7_92 mt_X7_age cf_7 rfl ho hc_7 (con_X7_age G _ _ ho _) rfl (Nat.le_of_ble_eq_true rfl) (Nat.le_of_ble_eq_true rfl) rfl (Nat.le_of_ble_eq_true rfl) (fun r25 m26 => ?_)
        refine ev_aload_n (q := 147) dX7_burnt_146 rfl 0 rfl rfl ?_
        refine ev_iload_n (q := 148) dX7_burnt_147 rfl 1 rfl rfl ?_
        refine ev_iload (q := 150) dX7_burnt_148 7 rfl rfl ?_
        refine ev_callVI (q := 153) dX7_burnt_150 rfl ml_X7_236 mt_X7_costAll cf_7 rfl ho hc_7 (con_X7_costAll G _ _ _ ho _) rfl (Nat.le_of_ble_eq_true rfl) (Nat.le_of_ble_eq_true rfl) rfl (Nat.le_of_ble_eq_true rfl) (fun r27 m28 => ?_)
        refine ev_iadd (q := 154) dX7_burnt_153 rfl ?_
        refine ev_aload_n (q := 155) dX7_burnt_154 rfl 0 rfl rfl ?_
        refine ev_iload_n (q := 156) dX7_burnt_155 rfl 1 rfl rfl ?_
        refine ev_callVI (q := 159) dX7_burnt_156 rfl ml_X7_95 mt_X7_span cf_7 rfl ho hc_7 (con_X7_span G _ _ ho _) rfl (Nat.le_of_ble_eq_true rfl) (Nat.le_of_ble_eq_true rfl) rfl (Nat.le_of_ble_eq_true rfl) (fun r29 m30 => ?_)
        refine ev_icmp_ge (t := 166) (q := 162) dX7_burnt_159 rfl rfl (fun hc31 => ?_) (fun hc31 => ?_)
        · refine ev_iconst (q := 163) (v := 1) dX7_burnt_162 rfl li_1 ?_
          refine ev_goto (t := 167) dX7_burnt_163 rfl ?_
          refine ev_sub (lv' := [(0, .ref _), (1, .int _), (2, .int _), (3, .int _), (4, .int _), (5, .long _), (7, .long _), (9, .int _), (10, .long _)]) [0, 1, 2, 3, 4, 5, 6, 7, 8] rfl ?_
          exact X7_burnt_b167_ok G o ho  k59 hk59 _ _ _ _ _ _ _ _ _ _
        · refine ev_sub (lv' := [(0, .ref _), (1, .int _), (2, .int _), (3, .int _), (4, .int _), (5, .long _), (7, .long _), (9, .int _), (10, .long _)]) [0, 1, 2, 3, 4, 5, 6, 7, 8] rfl ?_
          exact X7_burnt_b166_ok G o ho  k59 hk59 _ _ _ _ _ _ _ _ _
      · refine ev_sub (lv' := [(0, .ref _), (1, .int _), (2, .int _), (3, .int _), (4, .int _), (5, .long _), (7, .long _), (9, .int _), (10, .long _)]) [0, 1, 2, 3, 4, 5, 6, 7, 8] rfl ?_
        exact X7_burnt_b166_ok G o ho  k59 hk59 _ _ _ _ _ _ _ _ _
set_option maxRecDepth 100000 in
set_option maxHeartbeats 4000000 in
theorem X7_burnt_b59_ok (G : Gt) (o : Nat) (ho : kd o = 7)    : ∀ (n : Nat) (x1 : Int32) (x2 : Int32) (x3 : Int32) (x4 : Int32) (w5 : Int64) (w7 : Int64) (x9 : Int32) (mem : Mem), EvR tvI G cX7_burnt 15 (some .int) RX7 6 59 [(0, .ref (gA G o)), (1, .int (x1)), (2, .int (x2)), (3, .int (x3)), (4, .int (x4)), (5, .long (w5)), (7, .long (w7)), (9, .int (x9))] [] mem (X7_burnt_b59 o n x1 x2 x3 x4 w5 w7 x9 mem) := by
  intro n
  induction n with
  | zero => intros; exact ev_none
  | succ n ih =>
    intro x1 x2 x3 x4 w5 w7 x9 mem
    rw [X7_burnt_b59]
    refine ev_iload (q := 61) dX7_burnt_59 7 rfl rfl ?_
    refine ev_iconst (q := 62) (v := 1) dX7_burnt_61 rfl li_1 ?_
    refine ev_aload_n (q := 63) dX7_burnt_62 rfl 0 rfl rfl ?_
    refine ev_callVI (q := 66) dX7_burnt_63 rfl ml_X7_85 mt_X7_letters cf_7 rfl ho hc_7 (con_X7_letters G _ ho _) rfl (Nat.le_of_ble_eq_true rfl) (Nat.le_of_ble_eq_true rfl) rfl (Nat.le_of_ble_eq_true rfl) (fun r15 m16 => ?_)
    refine ev_ishl (q := 67) dX7_burnt_66 rfl ?_
    refine ev_icmp_ge (t := 191) (q := 70) dX7_burnt_67 rfl rfl (fun hc17 => ?_) (fun hc17 => ?_)
    · refine ev_lconst (q := 71) (v := 1) dX7_burnt_70 rfl ll_1 ?_
      refine ev_lstore (q := 73) (lv2 := [(10, .long _), (0, .ref _), (1, .int _), (2, .int _), (3, .int _), (4, .int _), (5, .long _), (7, .long _), (9, .int _)]) dX7_burnt_71 rfl (Nat.le_of_ble_eq_true rfl) rfl ?_
      refine ev_iconst (q := 74) (v := 0) dX7_burnt_73 rfl li_0 ?_
      refine ev_istore (q := 76) (lv2 := [(12, .int _), (10, .long _), (0, .ref _), (1, .int _), (2, .int _), (3, .int _), (4, .int _), (5, .long _), (7, .long _), (9, .int _)]) dX7_burnt_74 rfl (Nat.le_of_ble_eq_true rfl) rfl ?_
      refine ev_sub (lv' := [(0, .ref _), (1, .int _), (2, .int _), (3, .int _), (4, .int _), (5, .long _), (7, .long _), (9, .int _), (10, .long _), (12, .int _)]) [2, 3, 4, 5, 6, 7, 8, 9, 1, 0] rfl ?_
      exact X7_burnt_b76_ok G o ho  (X7_burnt_b59 o n) ih fu _ _ _ _ _ _ _ _ _ _
    · refine ev_iload (q := 193) dX7_burnt_191 4 rfl rfl ?_
      refine ev_callSI (q := 196) dX7_burnt_193 rfl ml_X7_227 mt_X7_bits (con_X7_bits G _  _) rfl (Nat.le_of_ble_eq_true rfl) (Nat.le_of_ble_eq_true rfl) rfl (Nat.le_of_ble_eq_true rfl) (fun r18 m19 => ?_)
      refine ev_istore (q := 198) (lv2 := [(9, .int _), (0, .ref _), (1, .int _), (2, .int _), (3, .int _), (4, .int _), (5, .long _), (7, .long _)]) dX7_burnt_196 rfl (Nat.le_of_ble_eq_true rfl) rfl ?_
      refine ev_sub (lv' := [(3, .int _), (5, .long _), (7, .long _), (9, .int _)]) [4, 6, 7, 0] rfl ?_
      exact X7_burnt_b198_ok G o ho   fu _ _ _ _ _
set_option maxRecDepth 100000 in
set_option maxHeartbeats 4000000 in
theorem con_X7_burnt (G : Gt) (o : Nat) (a1 : Int32) (a2 : Int32) (a3 : Int32) (ho : kd o = 7) (mem : Mem) : Con tvI G yX7_burnt cX7_burnt 15 (some .int) 6 [.ref (gA G o), .int a1, .int a2, .int a3] mem (X7_burnt o a1 a2 a3 mem) := by
  refine con_of (by decide) (Nat.le_of_ble_eq_true rfl) ?_
  show EvR tvI G cX7_burnt 15 (some .int) RX7 6 0 [(0, .ref (gA G o)), (1, .int (a1)), (2, .int (a2)), (3, .int (a3))] [] mem _
  unfold X7_burnt
  refine ev_aload_n (q := 1) dX7_burnt_0 rfl 0 rfl rfl ?_
  refine ev_iload_n (q := 2) dX7_burnt_1 rfl 1 rfl rfl ?_
  refine ev_callVI (q := 5) dX7_burnt_2 rfl ml_X7_180 mt_X7_isReader cf_7 rfl ho hc_7 (con_X7_isReader G _ _ ho _) rfl (Nat.le_of_ble_eq_true rfl) (Nat.le_of_ble_eq_true rfl) rfl (Nat.le_of_ble_eq_true rfl) (fun r1 m2 => ?_)
  refine ev_if_eq (t := 30) (q := 8) dX7_burnt_5 rfl rfl (fun hc3 => ?_) (fun hc3 => ?_)
  · refine ev_ldc (q := 32) (v := (-1000001)) dX7_burnt_30 rfl kc_X7_73 ?_
    exact ev_iret dX7_burnt_32 rfl
  · refine ev_iload_n (q := 9) dX7_burnt_8 rfl 2 rfl rfl ?_
    refine ev_i2l (q := 10) dX7_burnt_9 rfl ?_
    refine ev_lconst (q := 11) (v := 0) dX7_burnt_10 rfl ll_0 ?_
    refine ev_ldc2 (q := 14) (v := 10) dX7_burnt_11 rfl kc_X7_252 ?_
    refine ev_callSI (q := 17) dX7_burnt_14 rfl ml_X7_63 mt_X7_in (con_X7_in G _ _ _  _) rfl (Nat.le_of_ble_eq_true rfl) (Nat.le_of_ble_eq_true rfl) rfl (Nat.le_of_ble_eq_true rfl) (fun r4 m5 => ?_)
    refine ev_if_eq (t := 30) (q := 20) dX7_burnt_17 rfl rfl (fun hc6 => ?_) (fun hc6 => ?_)
    · refine ev_ldc (q := 32) (v := (-1000001)) dX7_burnt_30 rfl kc_X7_73 ?_
      exact ev_iret dX7_burnt_32 rfl
    · refine ev_iload_n (q := 21) dX7_burnt_20 rfl 3 rfl rfl ?_
      refine ev_i2l (q := 22) dX7_burnt_21 rfl ?_
      refine ev_lconst (q := 23) (v := 0) dX7_burnt_22 rfl ll_0 ?_
      refine ev_lconst (q := 24) (v := 1) dX7_burnt_23 rfl ll_1 ?_
      refine ev_callSI (q := 27) dX7_burnt_24 rfl ml_X7_63 mt_X7_in (con_X7_in G _ _ _  _) rfl (Nat.le_of_ble_eq_true rfl) (Nat.le_of_ble_eq_true rfl) rfl (Nat.le_of_ble_eq_true rfl) (fun r7 m8 => ?_)
      refine ev_if_ne (t := 33) (q := 30) dX7_burnt_27 rfl rfl (fun hc9 => ?_) (fun hc9 => ?_)
      · refine ev_ldc (q := 32) (v := (-1000001)) dX7_burnt_30 rfl kc_X7_73 ?_
        exact ev_iret dX7_burnt_32 rfl
      · refine ev_aload_n (q := 34) dX7_burnt_33 rfl 0 rfl rfl ?_
        refine ev_iload_n (q := 35) dX7_burnt_34 rfl 1 rfl rfl ?_
        refine ev_callVI (q := 38) dX7_burnt_35 rfl ml_X7_98 mt_X7_isAlive cf_7 rfl ho hc_7 (con_X7_isAlive G _ _ ho _) rfl (Nat.le_of_ble_eq_true rfl) (Nat.le_of_ble_eq_true rfl) rfl (Nat.le_of_ble_eq_true rfl) (fun r10 m11 => ?_)
        refine ev_if_ne (t := 44) (q := 41) dX7_burnt_38 rfl rfl (fun hc12 => ?_) (fun hc12 => ?_)
        · refine ev_ldc (q := 43) (v := (-1000002)) dX7_burnt_41 rfl kc_X7_189 ?_
          exact ev_iret dX7_burnt_43 rfl
        · refine ev_aload_n (q := 45) dX7_burnt_44 rfl 0 rfl rfl ?_
          refine ev_callVI (q := 48) dX7_burnt_45 rfl ml_X7_223 mt_X7_unread cf_7 rfl ho hc_7 (con_X7_unread G _ ho _) rfl (Nat.le_of_ble_eq_true rfl) (Nat.le_of_ble_eq_true rfl) rfl (Nat.le_of_ble_eq_true rfl) (fun r13 m14 => ?_)
          refine ev_istore (q := 50) (lv2 := [(4, .int _), (0, .ref _), (1, .int _), (2, .int _), (3, .int _)]) dX7_burnt_48 rfl (Nat.le_of_ble_eq_true rfl) rfl ?_
          refine ev_lconst (q := 51) (v := 0) dX7_burnt_50 rfl ll_0 ?_
          refine ev_lstore (q := 53) (lv2 := [(5, .long _), (4, .int _), (0, .ref _), (1, .int _), (2, .int _), (3, .int _)]) dX7_burnt_51 rfl (Nat.le_of_ble_eq_true rfl) rfl ?_
          refine ev_lconst (q := 54) (v := 1) dX7_burnt_53 rfl ll_1 ?_
          refine ev_lstore (q := 56) (lv2 := [(7, .long _), (5, .long _), (4, .int _), (0, .ref _), (1, .int _), (2, .int _), (3, .int _)]) dX7_burnt_54 rfl (Nat.le_of_ble_eq_true rfl) rfl ?_
          refine ev_iconst (q := 57) (v := 0) dX7_burnt_56 rfl li_0 ?_
          refine ev_istore (q := 59) (lv2 := [(9, .int _), (7, .long _), (5, .long _), (4, .int _), (0, .ref _), (1, .int _), (2, .int _), (3, .int _)]) dX7_burnt_57 rfl (Nat.le_of_ble_eq_true rfl) rfl ?_
          refine ev_sub (lv' := [(0, .ref _), (1, .int _), (2, .int _), (3, .int _), (4, .int _), (5, .long _), (7, .long _), (9, .int _)]) [4, 5, 6, 7, 3, 2, 1, 0] rfl ?_
          exact X7_burnt_b59_ok G o ho   fu _ _ _ _ _ _ _ _
/-! AgingLettersModel.image(I)I -/
theorem dX7_image_0 : decode cX7_image 0 = .ok (.iload_n 1, 1) := by decide +kernel
theorem dX7_image_1 : decode cX7_image 1 = .ok (.i2l, 1) := by decide +kernel
theorem dX7_image_2 : decode cX7_image 2 = .ok (.lconst 0, 1) := by decide +kernel
theorem dX7_image_3 : decode cX7_image 3 = .ok (.lconst 1, 1) := by decide +kernel
theorem dX7_image_4 : decode cX7_image 4 = .ok (.invokestatic 63, 3) := by decide +kernel
theorem dX7_image_7 : decode cX7_image 7 = .ok (.ifCond .ne 6, 3) := by decide +kernel
theorem dX7_image_10 : decode cX7_image 10 = .ok (.ldc 73, 2) := by decide +kernel
theorem dX7_image_12 : decode cX7_image 12 = .ok (.ireturn, 1) := by decide +kernel
theorem dX7_image_13 : decode cX7_image 13 = .ok (.aload_n 0, 1) := by decide +kernel
theorem dX7_image_14 : decode cX7_image 14 = .ok (.getfield 22, 3) := by decide +kernel
theorem dX7_image_17 : decode cX7_image 17 = .ok (.iconst 0, 1) := by decide +kernel
theorem dX7_image_18 : decode cX7_image 18 = .ok (.iaload, 1) := by decide +kernel
theorem dX7_image_19 : decode cX7_image 19 = .ok (.ifCond .ne 6, 3) := by decide +kernel
theorem dX7_image_22 : decode cX7_image 22 = .ok (.ldc 189, 2) := by decide +kernel
theorem dX7_image_24 : decode cX7_image 24 = .ok (.ireturn, 1) := by decide +kernel
theorem dX7_image_25 : decode cX7_image 25 = .ok (.aload_n 0, 1) := by decide +kernel
theorem dX7_image_26 : decode cX7_image 26 = .ok (.aload_n 0, 1) := by decide +kernel
theorem dX7_image_27 : decode cX7_image 27 = .ok (.getfield 46, 3) := by decide +kernel
theorem dX7_image_30 : decode cX7_image 30 = .ok (.bipush 63, 2) := by decide +kernel
theorem dX7_image_32 : decode cX7_image 32 = .ok (.iload_n 1, 1) := by decide +kernel
theorem dX7_image_33 : decode cX7_image 33 = .ok (.imul, 1) := by decide +kernel
theorem dX7_image_34 : decode cX7_image 34 = .ok (.invokevirtual 176, 3) := by decide +kernel
theorem dX7_image_37 : decode cX7_image 37 = .ok (.aload_n 0, 1) := by decide +kernel
theorem dX7_image_38 : decode cX7_image 38 = .ok (.getfield 49, 3) := by decide +kernel
theorem dX7_image_41 : decode cX7_image 41 = .ok (.iload_n 1, 1) := by decide +kernel
theorem dX7_image_42 : decode cX7_image 42 = .ok (.iconst 1, 1) := by decide +kernel
theorem dX7_image_43 : decode cX7_image 43 = .ok (.bastore, 1) := by decide +kernel
theorem dX7_image_44 : decode cX7_image 44 = .ok (.iconst 1, 1) := by decide +kernel
theorem dX7_image_45 : decode cX7_image 45 = .ok (.ireturn, 1) := by decide +kernel
set_option maxRecDepth 100000 in
set_option maxHeartbeats 4000000 in
theorem con_X7_image (G : Gt) (o : Nat) (a1 : Int32) (ho : kd o = 7) (mem : Mem) : Con tvI G yX7_image cX7_image 2 (some .int) 2 [.ref (gA G o), .int a1] mem (X7_image o a1 mem) := by
  refine con_of (by decide) (Nat.le_of_ble_eq_true rfl) ?_
  show EvR tvI G cX7_image 2 (some .int) RX7 2 0 [(0, .ref (gA G o)), (1, .int (a1))] [] mem _
  unfold X7_image
  refine ev_iload_n (q := 1) dX7_image_0 rfl 1 rfl rfl ?_
  refine ev_i2l (q := 2) dX7_image_1 rfl ?_
  refine ev_lconst (q := 3) (v := 0) dX7_image_2 rfl ll_0 ?_
  refine ev_lconst (q := 4) (v := 1) dX7_image_3 rfl ll_1 ?_
  refine ev_callSI (q := 7) dX7_image_4 rfl ml_X7_63 mt_X7_in (con_X7_in G _ _ _  _) rfl (Nat.le_of_ble_eq_true rfl) (Nat.le_of_ble_eq_true rfl) rfl (Nat.le_of_ble_eq_true rfl) (fun r1 m2 => ?_)
  refine ev_if_ne (t := 13) (q := 10) dX7_image_7 rfl rfl (fun hc3 => ?_) (fun hc3 => ?_)
  · refine ev_ldc (q := 12) (v := (-1000001)) dX7_image_10 rfl kc_X7_73 ?_
    exact ev_iret dX7_image_12 rfl
  · refine ev_aload_n (q := 14) dX7_image_13 rfl 0 rfl rfl ?_
    refine ev_getR (q := 17) (ci := 7) (j := 5) (T := TX7) dX7_image_14 rfl cf_7 ho hj_7_5 hc_7 gf_X7_22 rfl ?_
    refine ev_iconst (q := 18) (v := 0) dX7_image_17 rfl li_0 ?_
    refine ev_iald (q := 19) dX7_image_18 rfl (kr_7_5 ho) (fun z4 => ?_)
    refine ev_if_ne (t := 25) (q := 22) dX7_image_19 rfl rfl (fun hc5 => ?_) (fun hc5 => ?_)
    · refine ev_ldc (q := 24) (v := (-1000002)) dX7_image_22 rfl kc_X7_189 ?_
      exact ev_iret dX7_image_24 rfl
    · refine ev_aload_n (q := 26) dX7_image_25 rfl 0 rfl rfl ?_
      refine ev_aload_n (q := 27) dX7_image_26 rfl 0 rfl rfl ?_
      refine ev_getR (q := 30) (ci := 7) (j := 19) (T := TX7) dX7_image_27 rfl cf_7 ho hj_7_19 hc_7 gf_X7_46 rfl ?_
      refine ev_bipush (q := 32) (v := 63) dX7_image_30 rfl lb_63 ?_
      refine ev_iload_n (q := 33) dX7_image_32 rfl 1 rfl rfl ?_
      refine ev_imul (q := 34) dX7_image_33 rfl ?_
      refine ev_callVU (q := 37) dX7_image_34 rfl ml_X7_176 mt_X7_putInto cf_7 rfl ho hc_7 (con_X7_putInto G _ _ _ ho (kr_7_19 ho) _) rfl (Nat.le_of_ble_eq_true rfl) (Nat.le_of_ble_eq_true rfl) rfl (Nat.le_of_ble_eq_true rfl) (fun r6 m7 => ?_)
      refine ev_aload_n (q := 38) dX7_image_37 rfl 0 rfl rfl ?_
      refine ev_getR (q := 41) (ci := 7) (j := 20) (T := TX7) dX7_image_38 rfl cf_7 ho hj_7_20 hc_7 gf_X7_49 rfl ?_
      refine ev_iload_n (q := 42) dX7_image_41 rfl 1 rfl rfl ?_
      refine ev_iconst (q := 43) (v := 1) dX7_image_42 rfl li_1 ?_
      refine ev_zast (q := 44) dX7_image_43 rfl (kr_7_20 ho) (fun m8 => ?_)
      refine ev_iconst (q := 45) (v := 1) dX7_image_44 rfl li_1 ?_
      exact ev_iret dX7_image_45 rfl
