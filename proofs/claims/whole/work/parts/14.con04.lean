/-! AgingLetters.burnt(III)I -/
theorem dX6_burnt_0 : decode cX6_burnt 0 = .ok (.aload_n 0, 1) := by decide +kernel
theorem dX6_burnt_1 : decode cX6_burnt 1 = .ok (.getfield 26, 3) := by decide +kernel
theorem dX6_burnt_4 : decode cX6_burnt 4 = .ok (.iload_n 1, 1) := by decide +kernel
theorem dX6_burnt_5 : decode cX6_burnt 5 = .ok (.invokevirtual 134, 3) := by decide +kernel
theorem dX6_burnt_8 : decode cX6_burnt 8 = .ok (.ifCond .eq 20, 3) := by decide +kernel
theorem dX6_burnt_11 : decode cX6_burnt 11 = .ok (.iload_n 2, 1) := by decide +kernel
theorem dX6_burnt_12 : decode cX6_burnt 12 = .ok (.ifCond .lt 16, 3) := by decide +kernel
theorem dX6_burnt_15 : decode cX6_burnt 15 = .ok (.iload_n 2, 1) := by decide +kernel
theorem dX6_burnt_16 : decode cX6_burnt 16 = .ok (.bipush 10, 2) := by decide +kernel
theorem dX6_burnt_18 : decode cX6_burnt 18 = .ok (.if_icmp .gt 10, 3) := by decide +kernel
theorem dX6_burnt_21 : decode cX6_burnt 21 = .ok (.iload_n 3, 1) := by decide +kernel
theorem dX6_burnt_22 : decode cX6_burnt 22 = .ok (.invokestatic 228, 3) := by decide +kernel
theorem dX6_burnt_25 : decode cX6_burnt 25 = .ok (.ifCond .ne 6, 3) := by decide +kernel
theorem dX6_burnt_28 : decode cX6_burnt 28 = .ok (.ldc 67, 2) := by decide +kernel
theorem dX6_burnt_30 : decode cX6_burnt 30 = .ok (.ireturn, 1) := by decide +kernel
theorem dX6_burnt_31 : decode cX6_burnt 31 = .ok (.aload_n 0, 1) := by decide +kernel
theorem dX6_burnt_32 : decode cX6_burnt 32 = .ok (.getfield 26, 3) := by decide +kernel
theorem dX6_burnt_35 : decode cX6_burnt 35 = .ok (.iload_n 1, 1) := by decide +kernel
theorem dX6_burnt_36 : decode cX6_burnt 36 = .ok (.invokevirtual 187, 3) := by decide +kernel
theorem dX6_burnt_39 : decode cX6_burnt 39 = .ok (.ifCond .ne 6, 3) := by decide +kernel
theorem dX6_burnt_42 : decode cX6_burnt 42 = .ok (.ldc 143, 2) := by decide +kernel
theorem dX6_burnt_44 : decode cX6_burnt 44 = .ok (.ireturn, 1) := by decide +kernel
theorem dX6_burnt_45 : decode cX6_burnt 45 = .ok (.aload_n 0, 1) := by decide +kernel
theorem dX6_burnt_46 : decode cX6_burnt 46 = .ok (.getfield 49, 3) := by decide +kernel
theorem dX6_burnt_49 : decode cX6_burnt 49 = .ok (.aload_n 0, 1) := by decide +kernel
theorem dX6_burnt_50 : decode cX6_burnt 50 = .ok (.getfield 26, 3) := by decide +kernel
theorem dX6_burnt_53 : decode cX6_burnt 53 = .ok (.iload_n 1, 1) := by decide +kernel
theorem dX6_burnt_54 : decode cX6_burnt 54 = .ok (.iload_n 2, 1) := by decide +kernel
theorem dX6_burnt_55 : decode cX6_burnt 55 = .ok (.invokevirtual 276, 3) := by decide +kernel
theorem dX6_burnt_58 : decode cX6_burnt 58 = .ok (.istore 4, 2) := by decide +kernel
theorem dX6_burnt_60 : decode cX6_burnt 60 = .ok (.aload_n 0, 1) := by decide +kernel
theorem dX6_burnt_61 : decode cX6_burnt 61 = .ok (.getfield 49, 3) := by decide +kernel
theorem dX6_burnt_64 : decode cX6_burnt 64 = .ok (.bipush 10, 2) := by decide +kernel
theorem dX6_burnt_66 : decode cX6_burnt 66 = .ok (.aload_n 0, 1) := by decide +kernel
theorem dX6_burnt_67 : decode cX6_burnt 67 = .ok (.getfield 26, 3) := by decide +kernel
theorem dX6_burnt_70 : decode cX6_burnt 70 = .ok (.invokevirtual 218, 3) := by decide +kernel
theorem dX6_burnt_73 : decode cX6_burnt 73 = .ok (.invokestatic 244, 3) := by decide +kernel
theorem dX6_burnt_76 : decode cX6_burnt 76 = .ok (.invokevirtual 279, 3) := by decide +kernel
theorem dX6_burnt_79 : decode cX6_burnt 79 = .ok (.istore 5, 2) := by decide +kernel
theorem dX6_burnt_81 : decode cX6_burnt 81 = .ok (.aload_n 0, 1) := by decide +kernel
theorem dX6_burnt_82 : decode cX6_burnt 82 = .ok (.getfield 49, 3) := by decide +kernel
theorem dX6_burnt_85 : decode cX6_burnt 85 = .ok (.iload 4, 2) := by decide +kernel
theorem dX6_burnt_87 : decode cX6_burnt 87 = .ok (.iload 5, 2) := by decide +kernel
theorem dX6_burnt_89 : decode cX6_burnt 89 = .ok (.invokevirtual 282, 3) := by decide +kernel
theorem dX6_burnt_92 : decode cX6_burnt 92 = .ok (.istore 6, 2) := by decide +kernel
theorem dX6_burnt_94 : decode cX6_burnt 94 = .ok (.iload_n 3, 1) := by decide +kernel
theorem dX6_burnt_95 : decode cX6_burnt 95 = .ok (.ifCond .ne 8, 3) := by decide +kernel
theorem dX6_burnt_98 : decode cX6_burnt 98 = .ok (.iload 4, 2) := by decide +kernel
theorem dX6_burnt_100 : decode cX6_burnt 100 = .ok (.goto 5, 3) := by decide +kernel
theorem dX6_burnt_103 : decode cX6_burnt 103 = .ok (.iload 5, 2) := by decide +kernel
theorem dX6_burnt_105 : decode cX6_burnt 105 = .ok (.istore 7, 2) := by decide +kernel
theorem dX6_burnt_107 : decode cX6_burnt 107 = .ok (.iload 6, 2) := by decide +kernel
theorem dX6_burnt_109 : decode cX6_burnt 109 = .ok (.iconst 1, 1) := by decide +kernel
theorem dX6_burnt_110 : decode cX6_burnt 110 = .ok (.if_icmp .le 11, 3) := by decide +kernel
theorem dX6_burnt_113 : decode cX6_burnt 113 = .ok (.iload 7, 2) := by decide +kernel
theorem dX6_burnt_115 : decode cX6_burnt 115 = .ok (.iload 6, 2) := by decide +kernel
theorem dX6_burnt_117 : decode cX6_burnt 117 = .ok (.idiv, 1) := by decide +kernel
theorem dX6_burnt_118 : decode cX6_burnt 118 = .ok (.goto 5, 3) := by decide +kernel
theorem dX6_burnt_121 : decode cX6_burnt 121 = .ok (.iload 7, 2) := by decide +kernel
theorem dX6_burnt_123 : decode cX6_burnt 123 = .ok (.ireturn, 1) := by decide +kernel
set_option maxRecDepth 100000 in
set_option maxHeartbeats 4000000 in
theorem X6_burnt_b105_ok (G : Gt) (o : Nat) (ho : kd o = 6)    (x6 : Int32) (s0 : Int32) (mem : Mem) : EvR tvI G cX6_burnt 8 (some .int) RX6 7 105 [(6, .int (x6))] [.int (s0)] mem (X6_burnt_b105 o x6 s0 mem) := by
  unfold X6_burnt_b105
  refine ev_istore (q := 107) (lv2 := [(7, .int _), (6, .int _)]) dX6_burnt_105 rfl (Nat.le_of_ble_eq_true rfl) rfl ?_
  refine ev_iload (q := 109) dX6_burnt_107 1 rfl rfl ?_
  refine ev_iconst (q := 110) (v := 1) dX6_burnt_109 rfl li_1 ?_
  refine ev_icmp_le (t := 121) (q := 113) dX6_burnt_110 rfl rfl (fun hc23 => ?_) (fun hc23 => ?_)
  · refine ev_iload (q := 115) dX6_burnt_113 0 rfl rfl ?_
    refine ev_iload (q := 117) dX6_burnt_115 1 rfl rfl ?_
    refine ev_idiv (q := 118) dX6_burnt_117 rfl ?_
    refine ev_goto (t := 123) dX6_burnt_118 rfl ?_
    exact ev_iret dX6_burnt_123 rfl
  · refine ev_iload (q := 123) dX6_burnt_121 0 rfl rfl ?_
    exact ev_iret dX6_burnt_123 rfl
set_option maxRecDepth 100000 in
set_option maxHeartbeats 4000000 in
theorem con_X6_burnt (G : Gt) (o : Nat) (a1 : Int32) (a2 : Int32) (a3 : Int32) (ho : kd o = 6) (mem : Mem) : Con tvI G yX6_burnt cX6_burnt 8 (some .int) 7 [.ref (gA G o), .int a1, .int a2, .int a3] mem (X6_burnt o a1 a2 a3 mem) := by
  refine con_of (by decide) (Nat.le_of_ble_eq_true rfl) ?_
  show EvR tvI G cX6_burnt 8 (some .int) RX6 7 0 [(0, .ref (gA G o)), (1, .int (a1)), (2, .int (a2)), (3, .int (a3))] [] mem _
  unfold X6_burnt
  refine ev_aload_n (q := 1) dX6_burnt_0 rfl 0 rfl rfl ?_
  refine ev_getR (q := 4) (ci := 6) (j := 2) (T := TX6) dX6_burnt_1 rfl cf_6 ho hj_6_2 hc_6 gf_X6_26 rfl ?_
  refine ev_iload_n (q := 5) dX6_burnt_4 rfl 1 rfl rfl ?_
  refine ev_callVI (q := 8) dX6_burnt_5 rfl ml_X6_134 mt_X3_hasReader cf_3 rfl (kr_6_2 ho) hc_3 (con_X3_hasReader G _ _ (kr_6_2 ho) _) rfl (Nat.le_of_ble_eq_true rfl) (Nat.le_of_ble_eq_true rfl) rfl (Nat.le_of_ble_eq_true rfl) (fun r1 m2 => ?_)
  refine ev_if_eq (t := 28) (q := 11) dX6_burnt_8 rfl rfl (fun hc3 => ?_) (fun hc3 => ?_)
  · refine ev_ldc (q := 30) (v := (-1000001)) dX6_burnt_28 rfl kc_X6_67 ?_
    exact ev_iret dX6_burnt_30 rfl
  · refine ev_iload_n (q := 12) dX6_burnt_11 rfl 2 rfl rfl ?_
    refine ev_if_lt (t := 28) (q := 15) dX6_burnt_12 rfl rfl (fun hc4 => ?_) (fun hc4 => ?_)
    · refine ev_ldc (q := 30) (v := (-1000001)) dX6_burnt_28 rfl kc_X6_67 ?_
      exact ev_iret dX6_burnt_30 rfl
    · refine ev_iload_n (q := 16) dX6_burnt_15 rfl 2 rfl rfl ?_
      refine ev_bipush (q := 18) (v := 10) dX6_burnt_16 rfl lb_10 ?_
      refine ev_icmp_gt (t := 28) (q := 21) dX6_burnt_18 rfl rfl (fun hc5 => ?_) (fun hc5 => ?_)
      · refine ev_ldc (q := 30) (v := (-1000001)) dX6_burnt_28 rfl kc_X6_67 ?_
        exact ev_iret dX6_burnt_30 rfl
      · refine ev_iload_n (q := 22) dX6_burnt_21 rfl 3 rfl rfl ?_
        refine ev_callSI (q := 25) dX6_burnt_22 rfl ml_X6_228 mt_X6_isChoice (con_X6_isChoice G _  _) rfl (Nat.le_of_ble_eq_true rfl) (Nat.le_of_ble_eq_true rfl) rfl (Nat.le_of_ble_eq_true rfl) (fun r6 m7 => ?_)
        refine ev_if_ne (t := 31) (q := 28) dX6_burnt_25 rfl rfl (fun hc8 => ?_) (fun hc8 => ?_)
        · refine ev_ldc (q := 30) (v := (-1000001)) dX6_burnt_28 rfl kc_X6_67 ?_
          exact ev_iret dX6_burnt_30 rfl
        · refine ev_aload_n (q := 32) dX6_burnt_31 rfl 0 rfl rfl ?_
          refine ev_getR (q := 35) (ci := 6) (j := 2) (T := TX6) dX6_burnt_32 rfl cf_6 ho hj_6_2 hc_6 gf_X6_26 rfl ?_
          refine ev_iload_n (q := 36) dX6_burnt_35 rfl 1 rfl rfl ?_
          refine ev_callVI (q := 39) dX6_burnt_36 rfl ml_X6_187 mt_X3_isAlive cf_3 rfl (kr_6_2 ho) hc_3 (con_X3_isAlive G _ _ (kr_6_2 ho) _) rfl (Nat.le_of_ble_eq_true rfl) (Nat.le_of_ble_eq_true rfl) rfl (Nat.le_of_ble_eq_true rfl) (fun r9 m10 => ?_)
          refine ev_if_ne (t := 45) (q := 42) dX6_burnt_39 rfl rfl (fun hc11 => ?_) (fun hc11 => ?_)
          · refine ev_ldc (q := 44) (v := (-1000002)) dX6_burnt_42 rfl kc_X6_143 ?_
            exact ev_iret dX6_burnt_44 rfl
          · refine ev_aload_n (q := 46) dX6_burnt_45 rfl 0 rfl rfl ?_
            refine ev_getR (q := 49) (ci := 6) (j := 7) (T := TX6) dX6_burnt_46 rfl cf_6 ho hj_6_7 hc_6 gf_X6_49 rfl ?_
            refine ev_aload_n (q := 50) dX6_burnt_49 rfl 0 rfl rfl ?_
            refine ev_getR (q := 53) (ci := 6) (j := 2) (T := TX6) dX6_burnt_50 rfl cf_6 ho hj_6_2 hc_6 gf_X6_26 rfl ?_
            refine ev_iload_n (q := 54) dX6_burnt_53 rfl 1 rfl rfl ?_
            refine ev_iload_n (q := 55) dX6_burnt_54 rfl 2 rfl rfl ?_
            refine ev_callVI (q := 58) dX6_burnt_55 rfl ml_X6_276 mt_X2_weightOfSurviving cf_2 rfl (kr_6_7 ho) hc_2 (con_X2_weightOfSurviving G _ _ _ _ (kr_6_7 ho) (kr_6_2 ho) _) rfl (Nat.le_of_ble_eq_true rfl) (Nat.le_of_ble_eq_true rfl) rfl (Nat.le_of_ble_eq_true rfl) (fun r12 m13 => ?_)
            refine ev_istore (q := 60) (lv2 := [(4, .int _), (0, .ref _), (1, .int _), (2, .int _), (3, .int _)]) dX6_burnt_58 rfl (Nat.le_of_ble_eq_true rfl) rfl ?_
            refine ev_aload_n (q := 61) dX6_burnt_60 rfl 1 rfl rfl ?_
            refine ev_getR (q := 64) (ci := 6) (j := 7) (T := TX6) dX6_burnt_61 rfl cf_6 ho hj_6_7 hc_6 gf_X6_49 rfl ?_
            refine ev_bipush (q := 66) (v := 10) dX6_burnt_64 rfl lb_10 ?_
            refine ev_aload_n (q := 67) dX6_burnt_66 rfl 1 rfl rfl ?_
            refine ev_getR (q := 70) (ci := 6) (j := 2) (T := TX6) dX6_burnt_67 rfl cf_6 ho hj_6_2 hc_6 gf_X6_26 rfl ?_
            refine ev_callVI (q := 73) dX6_burnt_70 rfl ml_X6_218 mt_X3_unreadLetters cf_3 rfl (kr_6_2 ho) hc_3 (con_X3_unreadLetters G _ (kr_6_2 ho) _) rfl (Nat.le_of_ble_eq_true rfl) (Nat.le_of_ble_eq_true rfl) rfl (Nat.le_of_ble_eq_true rfl) (fun r14 m15 => ?_)
            refine ev_callSI (q := 76) dX6_burnt_73 rfl ml_X6_244 mt_J6_bitCount_0f7a4 (con_J6_bitCount_0f7a4 G _  _) rfl (Nat.le_of_ble_eq_true rfl) (Nat.le_of_ble_eq_true rfl) rfl (Nat.le_of_ble_eq_true rfl) (fun r16 m17 => ?_)
            refine ev_callVI (q := 79) dX6_burnt_76 rfl ml_X6_279 mt_X2_power cf_2 rfl (kr_6_7 ho) hc_2 (con_X2_power G _ _ _ (kr_6_7 ho) _) rfl (Nat.le_of_ble_eq_true rfl) (Nat.le_of_ble_eq_true rfl) rfl (Nat.le_of_ble_eq_true rfl) (fun r18 m19 => ?_)
            refine ev_istore (q := 81) (lv2 := [(5, .int _), (4, .int _), (0, .ref _), (1, .int _), (2, .int _), (3, .int _)]) dX6_burnt_79 rfl (Nat.le_of_ble_eq_true rfl) rfl ?_
            refine ev_aload_n (q := 82) dX6_burnt_81 rfl 2 rfl rfl ?_
            refine ev_getR (q := 85) (ci := 6) (j := 7) (T := TX6) dX6_burnt_82 rfl cf_6 ho hj_6_7 hc_6 gf_X6_49 rfl ?_
            refine ev_iload (q := 87) dX6_burnt_85 1 rfl rfl ?_
            refine ev_iload (q := 89) dX6_burnt_87 0 rfl rfl ?_
            refine ev_callVI (q := 92) dX6_burnt_89 rfl ml_X6_282 mt_X2_commonDivisor cf_2 rfl (kr_6_7 ho) hc_2 (con_X2_commonDivisor G _ _ _ (kr_6_7 ho) _) rfl (Nat.le_of_ble_eq_true rfl) (Nat.le_of_ble_eq_true rfl) rfl (Nat.le_of_ble_eq_true rfl) (fun r20 m21 => ?_)
            refine ev_istore (q := 94) (lv2 := [(6, .int _), (5, .int _), (4, .int _), (0, .ref _), (1, .int _), (2, .int _), (3, .int _)]) dX6_burnt_92 rfl (Nat.le_of_ble_eq_true rfl) rfl ?_
            refine ev_iload_n (q := 95) dX6_burnt_94 rfl 6 rfl rfl ?_
            refine ev_if_ne (t := 103) (q := 98) dX6_burnt_95 rfl rfl (fun hc22 => ?_) (fun hc22 => ?_)
            · refine ev_iload (q := 100) dX6_burnt_98 2 rfl rfl ?_
              refine ev_goto (t := 105) dX6_burnt_100 rfl ?_
              refine ev_sub (lv' := [(6, .int _)]) [0] rfl ?_
              exact X6_burnt_b105_ok G o ho   _ _ _
            · refine ev_iload (q := 105) dX6_burnt_103 1 rfl rfl ?_
              refine ev_sub (lv' := [(6, .int _)]) [0] rfl ?_
              exact X6_burnt_b105_ok G o ho   _ _ _
/-! AgingLetters.imageNumbered(I)LAgingLetters$Office; -/
theorem dX6_imageNumbered_0 : decode cX6_imageNumbered 0 = .ok (.iload_n 1, 1) := by decide +kernel
theorem dX6_imageNumbered_1 : decode cX6_imageNumbered 1 = .ok (.ifCond .ne 10, 3) := by decide +kernel
theorem dX6_imageNumbered_4 : decode cX6_imageNumbered 4 = .ok (.aload_n 0, 1) := by decide +kernel
theorem dX6_imageNumbered_5 : decode cX6_imageNumbered 5 = .ok (.getfield 33, 3) := by decide +kernel
theorem dX6_imageNumbered_8 : decode cX6_imageNumbered 8 = .ok (.goto 7, 3) := by decide +kernel
theorem dX6_imageNumbered_11 : decode cX6_imageNumbered 11 = .ok (.aload_n 0, 1) := by decide +kernel
theorem dX6_imageNumbered_12 : decode cX6_imageNumbered 12 = .ok (.getfield 36, 3) := by decide +kernel
theorem dX6_imageNumbered_15 : decode cX6_imageNumbered 15 = .ok (.areturn, 1) := by decide +kernel
set_option maxRecDepth 100000 in
set_option maxHeartbeats 4000000 in
theorem con_X6_imageNumbered (G : Gt) (o : Nat) (a1 : Int32) (ho : kd o = 6) (mem : Mem) : Con (tvR G) G yX6_imageNumbered cX6_imageNumbered 2 (some (.object "AgingLetters$Office")) 1 [.ref (gA G o), .int a1] mem (X6_imageNumbered o a1 mem) := by
  refine con_of (by decide) (Nat.le_of_ble_eq_true rfl) ?_
  show EvR (tvR G) G cX6_imageNumbered 2 (some (.object "AgingLetters$Office")) RX6 1 0 [(0, .ref (gA G o)), (1, .int (a1))] [] mem _
  unfold X6_imageNumbered
  refine ev_iload_n (q := 1) dX6_imageNumbered_0 rfl 1 rfl rfl ?_
  refine ev_if_ne (t := 11) (q := 4) dX6_imageNumbered_1 rfl rfl (fun hc1 => ?_) (fun hc1 => ?_)
  · refine ev_aload_n (q := 5) dX6_imageNumbered_4 rfl 0 rfl rfl ?_
    refine ev_getR (q := 8) (ci := 6) (j := 4) (T := TX6) dX6_imageNumbered_5 rfl cf_6 ho hj_6_4 hc_6 gf_X6_33 rfl ?_
    refine ev_goto (t := 15) dX6_imageNumbered_8 rfl ?_
    exact ev_aret dX6_imageNumbered_15 rfl
  · refine ev_aload_n (q := 12) dX6_imageNumbered_11 rfl 0 rfl rfl ?_
    refine ev_getR (q := 15) (ci := 6) (j := 5) (T := TX6) dX6_imageNumbered_12 rfl cf_6 ho hj_6_5 hc_6 gf_X6_36 rfl ?_
    exact ev_aret dX6_imageNumbered_15 rfl
/-! AgingLetters.image(I)I -/
theorem dX6_image_0 : decode cX6_image 0 = .ok (.iload_n 1, 1) := by decide +kernel
theorem dX6_image_1 : decode cX6_image 1 = .ok (.invokestatic 228, 3) := by decide +kernel
theorem dX6_image_4 : decode cX6_image 4 = .ok (.ifCond .ne 6, 3) := by decide +kernel
theorem dX6_image_7 : decode cX6_image 7 = .ok (.ldc 67, 2) := by decide +kernel
theorem dX6_image_9 : decode cX6_image 9 = .ok (.ireturn, 1) := by decide +kernel
theorem dX6_image_10 : decode cX6_image 10 = .ok (.aload_n 0, 1) := by decide +kernel
theorem dX6_image_11 : decode cX6_image 11 = .ok (.getfield 26, 3) := by decide +kernel
theorem dX6_image_14 : decode cX6_image 14 = .ok (.getfield 168, 3) := by decide +kernel
theorem dX6_image_17 : decode cX6_image 17 = .ok (.ifCond .ne 6, 3) := by decide +kernel
theorem dX6_image_20 : decode cX6_image 20 = .ok (.ldc 143, 2) := by decide +kernel
theorem dX6_image_22 : decode cX6_image 22 = .ok (.ireturn, 1) := by decide +kernel
theorem dX6_image_23 : decode cX6_image 23 = .ok (.aload_n 0, 1) := by decide +kernel
theorem dX6_image_24 : decode cX6_image 24 = .ok (.iload_n 1, 1) := by decide +kernel
theorem dX6_image_25 : decode cX6_image 25 = .ok (.invokevirtual 285, 3) := by decide +kernel
theorem dX6_image_28 : decode cX6_image 28 = .ok (.aload_n 0, 1) := by decide +kernel
theorem dX6_image_29 : decode cX6_image 29 = .ok (.getfield 26, 3) := by decide +kernel
theorem dX6_image_32 : decode cX6_image 32 = .ok (.invokevirtual 124, 3) := by decide +kernel
theorem dX6_image_35 : decode cX6_image 35 = .ok (.iconst 1, 1) := by decide +kernel
theorem dX6_image_36 : decode cX6_image 36 = .ok (.ireturn, 1) := by decide +kernel
set_option maxRecDepth 100000 in
set_option maxHeartbeats 4000000 in
theorem con_X6_image (G : Gt) (o : Nat) (a1 : Int32) (ho : kd o = 6) (mem : Mem) : Con tvI G yX6_image cX6_image 2 (some .int) 3 [.ref (gA G o), .int a1] mem (X6_image o a1 mem) := by
  refine con_of (by decide) (Nat.le_of_ble_eq_true rfl) ?_
  show EvR tvI G cX6_image 2 (some .int) RX6 3 0 [(0, .ref (gA G o)), (1, .int (a1))] [] mem _
  unfold X6_image
  refine ev_iload_n (q := 1) dX6_image_0 rfl 1 rfl rfl ?_
  refine ev_callSI (q := 4) dX6_image_1 rfl ml_X6_228 mt_X6_isChoice (con_X6_isChoice G _  _) rfl (Nat.le_of_ble_eq_true rfl) (Nat.le_of_ble_eq_true rfl) rfl (Nat.le_of_ble_eq_true rfl) (fun r1 m2 => ?_)
  refine ev_if_ne (t := 10) (q := 7) dX6_image_4 rfl rfl (fun hc3 => ?_) (fun hc3 => ?_)
  · refine ev_ldc (q := 9) (v := (-1000001)) dX6_image_7 rfl kc_X6_67 ?_
    exact ev_iret dX6_image_9 rfl
  · refine ev_aload_n (q := 11) dX6_image_10 rfl 0 rfl rfl ?_
    refine ev_getR (q := 14) (ci := 6) (j := 2) (T := TX6) dX6_image_11 rfl cf_6 ho hj_6_2 hc_6 gf_X6_26 rfl ?_
    refine ev_getI (q := 17) (ci := 3) (j := 0) (T := TX3) dX6_image_14 rfl cf_3 (kr_6_2 ho) hj_3_0 hc_3 gf_X6_168 rfl ?_
    refine ev_if_ne (t := 23) (q := 20) dX6_image_17 rfl rfl (fun hc4 => ?_) (fun hc4 => ?_)
    · refine ev_ldc (q := 22) (v := (-1000002)) dX6_image_20 rfl kc_X6_143 ?_
      exact ev_iret dX6_image_22 rfl
    · refine ev_aload_n (q := 24) dX6_image_23 rfl 0 rfl rfl ?_
      refine ev_iload_n (q := 25) dX6_image_24 rfl 1 rfl rfl ?_
      refine ev_callVR (q := 28) dX6_image_25 rfl ml_X6_285 mt_X6_imageNumbered cf_6 rfl ho hc_6 (con_X6_imageNumbered G _ _ ho _) rfl (Nat.le_of_ble_eq_true rfl) (Nat.le_of_ble_eq_true rfl) rfl (Nat.le_of_ble_eq_true rfl) (fun r5 m6 => ?_)
      refine ev_chk (fun hr7 => ?_)
      refine ev_aload_n (q := 29) dX6_image_28 rfl 0 rfl rfl ?_
      refine ev_getR (q := 32) (ci := 6) (j := 2) (T := TX6) dX6_image_29 rfl cf_6 ho hj_6_2 hc_6 gf_X6_26 rfl ?_
      refine ev_callVU (q := 35) dX6_image_32 rfl ml_X6_124 mt_X3_becomes cf_3 rfl hr7 hc_3 (con_X3_becomes G _ _ hr7 (kr_6_2 ho) _) rfl (Nat.le_of_ble_eq_true rfl) (Nat.le_of_ble_eq_true rfl) rfl (Nat.le_of_ble_eq_true rfl) (fun r8 m9 => ?_)
      refine ev_iconst (q := 36) (v := 1) dX6_image_35 rfl li_1 ?_
      exact ev_iret dX6_image_36 rfl
/-! AgingLetters.restore(I)I -/
theorem dX6_restore_0 : decode cX6_restore 0 = .ok (.iload_n 1, 1) := by decide +kernel
theorem dX6_restore_1 : decode cX6_restore 1 = .ok (.invokestatic 228, 3) := by decide +kernel
theorem dX6_restore_4 : decode cX6_restore 4 = .ok (.ifCond .ne 6, 3) := by decide +kernel
theorem dX6_restore_7 : decode cX6_restore 7 = .ok (.ldc 67, 2) := by decide +kernel
theorem dX6_restore_9 : decode cX6_restore 9 = .ok (.ireturn, 1) := by decide +kernel
theorem dX6_restore_10 : decode cX6_restore 10 = .ok (.aload_n 0, 1) := by decide +kernel
theorem dX6_restore_11 : decode cX6_restore 11 = .ok (.iload_n 1, 1) := by decide +kernel
theorem dX6_restore_12 : decode cX6_restore 12 = .ok (.invokevirtual 285, 3) := by decide +kernel
theorem dX6_restore_15 : decode cX6_restore 15 = .ok (.getfield 168, 3) := by decide +kernel
theorem dX6_restore_18 : decode cX6_restore 18 = .ok (.ifCond .ne 6, 3) := by decide +kernel
theorem dX6_restore_21 : decode cX6_restore 21 = .ok (.ldc 143, 2) := by decide +kernel
theorem dX6_restore_23 : decode cX6_restore 23 = .ok (.ireturn, 1) := by decide +kernel
theorem dX6_restore_24 : decode cX6_restore 24 = .ok (.aload_n 0, 1) := by decide +kernel
theorem dX6_restore_25 : decode cX6_restore 25 = .ok (.getfield 26, 3) := by decide +kernel
theorem dX6_restore_28 : decode cX6_restore 28 = .ok (.aload_n 0, 1) := by decide +kernel
theorem dX6_restore_29 : decode cX6_restore 29 = .ok (.iload_n 1, 1) := by decide +kernel
theorem dX6_restore_30 : decode cX6_restore 30 = .ok (.invokevirtual 285, 3) := by decide +kernel
theorem dX6_restore_33 : decode cX6_restore 33 = .ok (.invokevirtual 124, 3) := by decide +kernel
theorem dX6_restore_36 : decode cX6_restore 36 = .ok (.aload_n 0, 1) := by decide +kernel
theorem dX6_restore_37 : decode cX6_restore 37 = .ok (.getfield 42, 3) := by decide +kernel
theorem dX6_restore_40 : decode cX6_restore 40 = .ok (.invokevirtual 128, 3) := by decide +kernel
theorem dX6_restore_43 : decode cX6_restore 43 = .ok (.iconst 1, 1) := by decide +kernel
theorem dX6_restore_44 : decode cX6_restore 44 = .ok (.ireturn, 1) := by decide +kernel
set_option maxRecDepth 100000 in
set_option maxHeartbeats 4000000 in
theorem con_X6_restore (G : Gt) (o : Nat) (a1 : Int32) (ho : kd o = 6) (mem : Mem) : Con tvI G yX6_restore cX6_restore 2 (some .int) 3 [.ref (gA G o), .int a1] mem (X6_restore o a1 mem) := by
  refine con_of (by decide) (Nat.le_of_ble_eq_true rfl) ?_
  show EvR tvI G cX6_restore 2 (some .int) RX6 3 0 [(0, .ref (gA G o)), (1, .int (a1))] [] mem _
  unfold X6_restore
  refine ev_iload_n (q := 1) dX6_restore_0 rfl 1 rfl rfl ?_
  refine ev_callSI (q := 4) dX6_restore_1 rfl ml_X6_228 mt_X6_isChoice (con_X6_isChoice G _  _) rfl (Nat.le_of_ble_eq_true rfl) (Nat.le_of_ble_eq_true rfl) rfl (Nat.le_of_ble_eq_true rfl) (fun r1 m2 => ?_)
  refine ev_if_ne (t := 10) (q := 7) dX6_restore_4 rfl rfl (fun hc3 => ?_) (fun hc3 => ?_)
  · refine ev_ldc (q := 9) (v := (-1000001)) dX6_restore_7 rfl kc_X6_67 ?_
    exact ev_iret dX6_restore_9 rfl
  · refine ev_aload_n (q := 11) dX6_restore_10 rfl 0 rfl rfl ?_
    refine ev_iload_n (q := 12) dX6_restore_11 rfl 1 rfl rfl ?_
    refine ev_callVR (q := 15) dX6_restore_12 rfl ml_X6_285 mt_X6_imageNumbered cf_6 rfl ho hc_6 (con_X6_imageNumbered G _ _ ho _) rfl (Nat.le_of_ble_eq_true rfl) (Nat.le_of_ble_eq_true rfl) rfl (Nat.le_of_ble_eq_true rfl) (fun r4 m5 => ?_)
    refine ev_chk (fun hr6 => ?_)
    refine ev_getI (q := 18) (ci := 3) (j := 0) (T := TX3) dX6_restore_15 rfl cf_3 hr6 hj_3_0 hc_3 gf_X6_168 rfl ?_
    refine ev_if_ne (t := 24) (q := 21) dX6_restore_18 rfl rfl (fun hc7 => ?_) (fun hc7 => ?_)
    · refine ev_ldc (q := 23) (v := (-1000002)) dX6_restore_21 rfl kc_X6_143 ?_
      exact ev_iret dX6_restore_23 rfl
    · refine ev_aload_n (q := 25) dX6_restore_24 rfl 0 rfl rfl ?_
      refine ev_getR (q := 28) (ci := 6) (j := 2) (T := TX6) dX6_restore_25 rfl cf_6 ho hj_6_2 hc_6 gf_X6_26 rfl ?_
      refine ev_aload_n (q := 29) dX6_restore_28 rfl 0 rfl rfl ?_
      refine ev_iload_n (q := 30) dX6_restore_29 rfl 1 rfl rfl ?_
      refine ev_callVR (q := 33) dX6_restore_30 rfl ml_X6_285 mt_X6_imageNumbered cf_6 rfl ho hc_6 (con_X6_imageNumbered G _ _ ho _) rfl (Nat.le_of_ble_eq_true rfl) (Nat.le_of_ble_eq_true rfl) rfl (Nat.le_of_ble_eq_true rfl) (fun r8 m9 => ?_)
      refine ev_chk (fun hr10 => ?_)
      refine ev_callVU (q := 36) dX6_restore_33 rfl ml_X6_124 mt_X3_becomes cf_3 rfl (kr_6_2 ho) hc_3 (con_X3_becomes G _ _ (kr_6_2 ho) hr10 _) rfl (Nat.le_of_ble_eq_true rfl) (Nat.le_of_ble_eq_true rfl) rfl (Nat.le_of_ble_eq_true rfl) (fun r11 m12 => ?_)
      refine ev_aload_n (q := 37) dX6_restore_36 rfl 0 rfl rfl ?_
      refine ev_getR (q := 40) (ci := 6) (j := 6) (T := TX6) dX6_restore_37 rfl cf_6 ho hj_6_6 hc_6 gf_X6_42 rfl ?_
      refine ev_callVU (q := 43) dX6_restore_40 rfl ml_X6_128 mt_X0_forgetAll cf_0 rfl (kr_6_6 ho) hc_0 (con_X0_forgetAll G _ (kr_6_6 ho) _) rfl (Nat.le_of_ble_eq_true rfl) (Nat.le_of_ble_eq_true rfl) rfl (Nat.le_of_ble_eq_true rfl) (fun r13 m14 => ?_)
      refine ev_iconst (q := 44) (v := 1) dX6_restore_43 rfl li_1 ?_
      exact ev_iret dX6_restore_44 rfl
/-! AgingLetters.kind(I)I -/
theorem dX6_kind_0 : decode cX6_kind 0 = .ok (.aload_n 0, 1) := by decide +kernel
theorem dX6_kind_1 : decode cX6_kind 1 = .ok (.getfield 26, 3) := by decide +kernel
theorem dX6_kind_4 : decode cX6_kind 4 = .ok (.iload_n 1, 1) := by decide +kernel
theorem dX6_kind_5 : decode cX6_kind 5 = .ok (.invokevirtual 137, 3) := by decide +kernel
theorem dX6_kind_8 : decode cX6_kind 8 = .ok (.ifCond .ne 6, 3) := by decide +kernel
theorem dX6_kind_11 : decode cX6_kind 11 = .ok (.ldc 67, 2) := by decide +kernel
theorem dX6_kind_13 : decode cX6_kind 13 = .ok (.ireturn, 1) := by decide +kernel
theorem dX6_kind_14 : decode cX6_kind 14 = .ok (.aload_n 0, 1) := by decide +kernel
theorem dX6_kind_15 : decode cX6_kind 15 = .ok (.getfield 26, 3) := by decide +kernel
theorem dX6_kind_18 : decode cX6_kind 18 = .ok (.getfield 289, 3) := by decide +kernel
theorem dX6_kind_21 : decode cX6_kind 21 = .ok (.iload_n 1, 1) := by decide +kernel
theorem dX6_kind_22 : decode cX6_kind 22 = .ok (.iaload, 1) := by decide +kernel
theorem dX6_kind_23 : decode cX6_kind 23 = .ok (.ireturn, 1) := by decide +kernel
set_option maxRecDepth 100000 in
set_option maxHeartbeats 4000000 in
theorem con_X6_kind (G : Gt) (o : Nat) (a1 : Int32) (ho : kd o = 6) (mem : Mem) : Con tvI G yX6_kind cX6_kind 2 (some .int) 2 [.ref (gA G o), .int a1] mem (X6_kind o a1 mem) := by
  refine con_of (by decide) (Nat.le_of_ble_eq_true rfl) ?_
  show EvR tvI G cX6_kind 2 (some .int) RX6 2 0 [(0, .ref (gA G o)), (1, .int (a1))] [] mem _
  unfold X6_kind
  refine ev_aload_n (q := 1) dX6_kind_0 rfl 0 rfl rfl ?_
  refine ev_getR (q := 4) (ci := 6) (j := 2) (T := TX6) dX6_kind_1 rfl cf_6 ho hj_6_2 hc_6 gf_X6_26 rfl ?_
  refine ev_iload_n (q := 5) dX6_kind_4 rfl 1 rfl rfl ?_
  refine ev_callVI (q := 8) dX6_kind_5 rfl ml_X6_137 mt_X3_hasLetter cf_3 rfl (kr_6_2 ho) hc_3 (con_X3_hasLetter G _ _ (kr_6_2 ho) _) rfl (Nat.le_of_ble_eq_true rfl) (Nat.le_of_ble_eq_true rfl) rfl (Nat.le_of_ble_eq_true rfl) (fun r1 m2 => ?_)
  refine ev_if_ne (t := 14) (q := 11) dX6_kind_8 rfl rfl (fun hc3 => ?_) (fun hc3 => ?_)
  · refine ev_ldc (q := 13) (v := (-1000001)) dX6_kind_11 rfl kc_X6_67 ?_
    exact ev_iret dX6_kind_13 rfl
  · refine ev_aload_n (q := 15) dX6_kind_14 rfl 0 rfl rfl ?_
    refine ev_getR (q := 18) (ci := 6) (j := 2) (T := TX6) dX6_kind_15 rfl cf_6 ho hj_6_2 hc_6 gf_X6_26 rfl ?_
    refine ev_getR (q := 21) (ci := 3) (j := 4) (T := TX3) dX6_kind_18 rfl cf_3 (kr_6_2 ho) hj_3_4 hc_3 gf_X6_289 rfl ?_
    refine ev_iload_n (q := 22) dX6_kind_21 rfl 1 rfl rfl ?_
    refine ev_iald (q := 23) dX6_kind_22 rfl (kr_3_4 (kr_6_2 ho)) (fun z4 => ?_)
    exact ev_iret dX6_kind_23 rfl
/-! AgingLetters.isKindOf(II)Z -/
theorem dX6_isKindOf_0 : decode cX6_isKindOf 0 = .ok (.iload_n 1, 1) := by decide +kernel
theorem dX6_isKindOf_1 : decode cX6_isKindOf 1 = .ok (.ifCond .eq 8, 3) := by decide +kernel
theorem dX6_isKindOf_4 : decode cX6_isKindOf 4 = .ok (.iload_n 0, 1) := by decide +kernel
theorem dX6_isKindOf_5 : decode cX6_isKindOf 5 = .ok (.iload_n 1, 1) := by decide +kernel
theorem dX6_isKindOf_6 : decode cX6_isKindOf 6 = .ok (.if_icmp .ne 5, 3) := by decide +kernel
theorem dX6_isKindOf_9 : decode cX6_isKindOf 9 = .ok (.iconst 1, 1) := by decide +kernel
theorem dX6_isKindOf_10 : decode cX6_isKindOf 10 = .ok (.ireturn, 1) := by decide +kernel
theorem dX6_isKindOf_11 : decode cX6_isKindOf 11 = .ok (.iload_n 1, 1) := by decide +kernel
theorem dX6_isKindOf_12 : decode cX6_isKindOf 12 = .ok (.iconst 1, 1) := by decide +kernel
theorem dX6_isKindOf_13 : decode cX6_isKindOf 13 = .ok (.if_icmp .ne 19, 3) := by decide +kernel
theorem dX6_isKindOf_16 : decode cX6_isKindOf 16 = .ok (.iload_n 0, 1) := by decide +kernel
theorem dX6_isKindOf_17 : decode cX6_isKindOf 17 = .ok (.iconst 2, 1) := by decide +kernel
theorem dX6_isKindOf_18 : decode cX6_isKindOf 18 = .ok (.if_icmp .eq 8, 3) := by decide +kernel
theorem dX6_isKindOf_21 : decode cX6_isKindOf 21 = .ok (.iload_n 0, 1) := by decide +kernel
theorem dX6_isKindOf_22 : decode cX6_isKindOf 22 = .ok (.iconst 3, 1) := by decide +kernel
theorem dX6_isKindOf_23 : decode cX6_isKindOf 23 = .ok (.if_icmp .ne 7, 3) := by decide +kernel
theorem dX6_isKindOf_26 : decode cX6_isKindOf 26 = .ok (.iconst 1, 1) := by decide +kernel
theorem dX6_isKindOf_27 : decode cX6_isKindOf 27 = .ok (.goto 4, 3) := by decide +kernel
theorem dX6_isKindOf_30 : decode cX6_isKindOf 30 = .ok (.iconst 0, 1) := by decide +kernel
theorem dX6_isKindOf_31 : decode cX6_isKindOf 31 = .ok (.ireturn, 1) := by decide +kernel
theorem dX6_isKindOf_32 : decode cX6_isKindOf 32 = .ok (.iload_n 1, 1) := by decide +kernel
theorem dX6_isKindOf_33 : decode cX6_isKindOf 33 = .ok (.iconst 4, 1) := by decide +kernel
theorem dX6_isKindOf_34 : decode cX6_isKindOf 34 = .ok (.if_icmp .ne 12, 3) := by decide +kernel
theorem dX6_isKindOf_37 : decode cX6_isKindOf 37 = .ok (.iload_n 0, 1) := by decide +kernel
theorem dX6_isKindOf_38 : decode cX6_isKindOf 38 = .ok (.iconst 5, 1) := by decide +kernel
theorem dX6_isKindOf_39 : decode cX6_isKindOf 39 = .ok (.if_icmp .ne 7, 3) := by decide +kernel
theorem dX6_isKindOf_42 : decode cX6_isKindOf 42 = .ok (.iconst 1, 1) := by decide +kernel
theorem dX6_isKindOf_43 : decode cX6_isKindOf 43 = .ok (.goto 4, 3) := by decide +kernel
theorem dX6_isKindOf_46 : decode cX6_isKindOf 46 = .ok (.iconst 0, 1) := by decide +kernel
theorem dX6_isKindOf_47 : decode cX6_isKindOf 47 = .ok (.ireturn, 1) := by decide +kernel
set_option maxRecDepth 100000 in
set_option maxHeartbeats 4000000 in
theorem X6_isKindOf_b26_ok (G : Gt)       (mem : Mem) : EvR tvI G cX6_isKindOf 2 (some .boolean) RX6 1 26 [] [] mem (X6_isKindOf_b26  mem) := by
  unfold X6_isKindOf_b26
  refine ev_iconst (q := 27) (v := 1) dX6_isKindOf_26 rfl li_1 ?_
  refine ev_goto (t := 31) dX6_isKindOf_27 rfl ?_
  exact ev_zret dX6_isKindOf_31 rfl
set_option maxRecDepth 100000 in
set_option maxHeartbeats 4000000 in
theorem con_X6_isKindOf (G : Gt) (a0 : Int32) (a1 : Int32)  (mem : Mem) : Con tvI G yX6_isKindOf cX6_isKindOf 2 (some .boolean) 1 [.int a0, .int a1] mem (X6_isKindOf a0 a1 mem) := by
  refine con_of (by decide) (Nat.le_of_ble_eq_true rfl) ?_
  show EvR tvI G cX6_isKindOf 2 (some .boolean) RX6 1 0 [(0, .int (a0)), (1, .int (a1))] [] mem _
  unfold X6_isKindOf
  refine ev_iload_n (q := 1) dX6_isKindOf_0 rfl 1 rfl rfl ?_
  refine ev_if_eq (t := 9) (q := 4) dX6_isKindOf_1 rfl rfl (fun hc1 => ?_) (fun hc1 => ?_)
  · refine ev_iconst (q := 10) (v := 1) dX6_isKindOf_9 rfl li_1 ?_
    exact ev_zret dX6_isKindOf_10 rfl
  · refine ev_iload_n (q := 5) dX6_isKindOf_4 rfl 0 rfl rfl ?_
    refine ev_iload_n (q := 6) dX6_isKindOf_5 rfl 1 rfl rfl ?_
    refine ev_icmp_ne (t := 11) (q := 9) dX6_isKindOf_6 rfl rfl (fun hc2 => ?_) (fun hc2 => ?_)
    · refine ev_iconst (q := 10) (v := 1) dX6_isKindOf_9 rfl li_1 ?_
      exact ev_zret dX6_isKindOf_10 rfl
    · refine ev_iload_n (q := 12) dX6_isKindOf_11 rfl 1 rfl rfl ?_
      refine ev_iconst (q := 13) (v := 1) dX6_isKindOf_12 rfl li_1 ?_
      refine ev_icmp_ne (t := 32) (q := 16) dX6_isKindOf_13 rfl rfl (fun hc3 => ?_) (fun hc3 => ?_)
      · refine ev_iload_n (q := 17) dX6_isKindOf_16 rfl 0 rfl rfl ?_
        refine ev_iconst (q := 18) (v := 2) dX6_isKindOf_17 rfl li_2 ?_
        refine ev_icmp_eq (t := 26) (q := 21) dX6_isKindOf_18 rfl rfl (fun hc6 => ?_) (fun hc6 => ?_)
        · refine ev_sub (lv' := []) [] rfl ?_
          exact X6_isKindOf_b26_ok G     _
        · refine ev_iload_n (q := 22) dX6_isKindOf_21 rfl 0 rfl rfl ?_
          refine ev_iconst (q := 23) (v := 3) dX6_isKindOf_22 rfl li_3 ?_
          refine ev_icmp_ne (t := 30) (q := 26) dX6_isKindOf_23 rfl rfl (fun hc7 => ?_) (fun hc7 => ?_)
          · refine ev_sub (lv' := []) [] rfl ?_
            exact X6_isKindOf_b26_ok G     _
          · refine ev_iconst (q := 31) (v := 0) dX6_isKindOf_30 rfl li_0 ?_
            exact ev_zret dX6_isKindOf_31 rfl
      · refine ev_iload_n (q := 33) dX6_isKindOf_32 rfl 1 rfl rfl ?_
        refine ev_iconst (q := 34) (v := 4) dX6_isKindOf_33 rfl li_4 ?_
        refine ev_icmp_ne (t := 46) (q := 37) dX6_isKindOf_34 rfl rfl (fun hc4 => ?_) (fun hc4 => ?_)
        · refine ev_iload_n (q := 38) dX6_isKindOf_37 rfl 0 rfl rfl ?_
          refine ev_iconst (q := 39) (v := 5) dX6_isKindOf_38 rfl li_5 ?_
          refine ev_icmp_ne (t := 46) (q := 42) dX6_isKindOf_39 rfl rfl (fun hc5 => ?_) (fun hc5 => ?_)
          · refine ev_iconst (q := 43) (v := 1) dX6_isKindOf_42 rfl li_1 ?_
            refine ev_goto (t := 47) dX6_isKindOf_43 rfl ?_
            exact ev_zret dX6_isKindOf_47 rfl
          · refine ev_iconst (q := 47) (v := 0) dX6_isKindOf_46 rfl li_0 ?_
            exact ev_zret dX6_isKindOf_47 rfl
        · refine ev_iconst (q := 47) (v := 0) dX6_isKindOf_46 rfl li_0 ?_
          exact ev_zret dX6_isKindOf_47 rfl
/-! AgingLetters.as(II)I -/
theorem dX6_as_0 : decode cX6_as 0 = .ok (.aload_n 0, 1) := by decide +kernel
theorem dX6_as_1 : decode cX6_as 1 = .ok (.getfield 26, 3) := by decide +kernel
theorem dX6_as_4 : decode cX6_as 4 = .ok (.iload_n 1, 1) := by decide +kernel
theorem dX6_as_5 : decode cX6_as 5 = .ok (.invokevirtual 137, 3) := by decide +kernel
theorem dX6_as_8 : decode cX6_as 8 = .ok (.ifCond .eq 12, 3) := by decide +kernel
theorem dX6_as_11 : decode cX6_as 11 = .ok (.iload_n 2, 1) := by decide +kernel
theorem dX6_as_12 : decode cX6_as 12 = .ok (.ifCond .lt 8, 3) := by decide +kernel
theorem dX6_as_15 : decode cX6_as 15 = .ok (.iload_n 2, 1) := by decide +kernel
theorem dX6_as_16 : decode cX6_as 16 = .ok (.iconst 5, 1) := by decide +kernel
theorem dX6_as_17 : decode cX6_as 17 = .ok (.if_icmp .le 6, 3) := by decide +kernel
theorem dX6_as_20 : decode cX6_as 20 = .ok (.ldc 67, 2) := by decide +kernel
theorem dX6_as_22 : decode cX6_as 22 = .ok (.ireturn, 1) := by decide +kernel
theorem dX6_as_23 : decode cX6_as 23 = .ok (.aload_n 0, 1) := by decide +kernel
theorem dX6_as_24 : decode cX6_as 24 = .ok (.getfield 26, 3) := by decide +kernel
theorem dX6_as_27 : decode cX6_as 27 = .ok (.getfield 289, 3) := by decide +kernel
theorem dX6_as_30 : decode cX6_as 30 = .ok (.iload_n 1, 1) := by decide +kernel
theorem dX6_as_31 : decode cX6_as 31 = .ok (.iaload, 1) := by decide +kernel
theorem dX6_as_32 : decode cX6_as 32 = .ok (.iload_n 2, 1) := by decide +kernel
theorem dX6_as_33 : decode cX6_as 33 = .ok (.invokestatic 292, 3) := by decide +kernel
theorem dX6_as_36 : decode cX6_as 36 = .ok (.ifCond .ne 9, 3) := by decide +kernel
theorem dX6_as_39 : decode cX6_as 39 = .ok (.aload_n 0, 1) := by decide +kernel
theorem dX6_as_40 : decode cX6_as 40 = .ok (.iconst 3, 1) := by decide +kernel
theorem dX6_as_41 : decode cX6_as 41 = .ok (.invokevirtual 68, 3) := by decide +kernel
theorem dX6_as_44 : decode cX6_as 44 = .ok (.ireturn, 1) := by decide +kernel
theorem dX6_as_45 : decode cX6_as 45 = .ok (.aload_n 0, 1) := by decide +kernel
theorem dX6_as_46 : decode cX6_as 46 = .ok (.iload_n 1, 1) := by decide +kernel
theorem dX6_as_47 : decode cX6_as 47 = .ok (.invokevirtual 76, 3) := by decide +kernel
theorem dX6_as_50 : decode cX6_as 50 = .ok (.ireturn, 1) := by decide +kernel
set_option maxRecDepth 100000 in
set_option maxHeartbeats 4000000 in
theorem con_X6_as (G : Gt) (o : Nat) (a1 : Int32) (a2 : Int32) (ho : kd o = 6) (mem : Mem) : Con tvI G yX6_as cX6_as 3 (some .int) 2 [.ref (gA G o), .int a1, .int a2] mem (X6_as o a1 a2 mem) := by
  refine con_of (by decide) (Nat.le_of_ble_eq_true rfl) ?_
  show EvR tvI G cX6_as 3 (some .int) RX6 2 0 [(0, .ref (gA G o)), (1, .int (a1)), (2, .int (a2))] [] mem _
  unfold X6_as
  refine ev_aload_n (q := 1) dX6_as_0 rfl 0 rfl rfl ?_
  refine ev_getR (q := 4) (ci := 6) (j := 2) (T := TX6) dX6_as_1 rfl cf_6 ho hj_6_2 hc_6 gf_X6_26 rfl ?_
  refine ev_iload_n (q := 5) dX6_as_4 rfl 1 rfl rfl ?_
  refine ev_callVI (q := 8) dX6_as_5 rfl ml_X6_137 mt_X3_hasLetter cf_3 rfl (kr_6_2 ho) hc_3 (con_X3_hasLetter G _ _ (kr_6_2 ho) _) rfl (Nat.le_of_ble_eq_true rfl) (Nat.le_of_ble_eq_true rfl) rfl (Nat.le_of_ble_eq_true rfl) (fun r1 m2 => ?_)
  refine ev_if_eq (t := 20) (q := 11) dX6_as_8 rfl rfl (fun hc3 => ?_) (fun hc3 => ?_)
  · refine ev_ldc (q := 22) (v := (-1000001)) dX6_as_20 rfl kc_X6_67 ?_
    exact ev_iret dX6_as_22 rfl
  · refine ev_iload_n (q := 12) dX6_as_11 rfl 2 rfl rfl ?_
    refine ev_if_lt (t := 20) (q := 15) dX6_as_12 rfl rfl (fun hc4 => ?_) (fun hc4 => ?_)
    · refine ev_ldc (q := 22) (v := (-1000001)) dX6_as_20 rfl kc_X6_67 ?_
      exact ev_iret dX6_as_22 rfl
    · refine ev_iload_n (q := 16) dX6_as_15 rfl 2 rfl rfl ?_
      refine ev_iconst (q := 17) (v := 5) dX6_as_16 rfl li_5 ?_
      refine ev_icmp_le (t := 23) (q := 20) dX6_as_17 rfl rfl (fun hc5 => ?_) (fun hc5 => ?_)
      · refine ev_ldc (q := 22) (v := (-1000001)) dX6_as_20 rfl kc_X6_67 ?_
        exact ev_iret dX6_as_22 rfl
      · refine ev_aload_n (q := 24) dX6_as_23 rfl 0 rfl rfl ?_
        refine ev_getR (q := 27) (ci := 6) (j := 2) (T := TX6) dX6_as_24 rfl cf_6 ho hj_6_2 hc_6 gf_X6_26 rfl ?_
        refine ev_getR (q := 30) (ci := 3) (j := 4) (T := TX3) dX6_as_27 rfl cf_3 (kr_6_2 ho) hj_3_4 hc_3 gf_X6_289 rfl ?_
        refine ev_iload_n (q := 31) dX6_as_30 rfl 1 rfl rfl ?_
        refine ev_iald (q := 32) dX6_as_31 rfl (kr_3_4 (kr_6_2 ho)) (fun z6 => ?_)
        refine ev_iload_n (q := 33) dX6_as_32 rfl 2 rfl rfl ?_
        refine ev_callSI (q := 36) dX6_as_33 rfl ml_X6_292 mt_X6_isKindOf (con_X6_isKindOf G _ _  _) rfl (Nat.le_of_ble_eq_true rfl) (Nat.le_of_ble_eq_true rfl) rfl (Nat.le_of_ble_eq_true rfl) (fun r7 m8 => ?_)
        refine ev_if_ne (t := 45) (q := 39) dX6_as_36 rfl rfl (fun hc9 => ?_) (fun hc9 => ?_)
        · refine ev_aload_n (q := 40) dX6_as_39 rfl 0 rfl rfl ?_
          refine ev_iconst (q := 41) (v := 3) dX6_as_40 rfl li_3 ?_
          refine ev_callVI (q := 44) dX6_as_41 rfl ml_X6_68 mt_X6_found cf_6 rfl ho hc_6 (con_X6_found G _ _ ho _) rfl (Nat.le_of_ble_eq_true rfl) (Nat.le_of_ble_eq_true rfl) rfl (Nat.le_of_ble_eq_true rfl) (fun r12 m13 => ?_)
          exact ev_iret dX6_as_44 rfl
        · refine ev_aload_n (q := 46) dX6_as_45 rfl 0 rfl rfl ?_
          refine ev_iload_n (q := 47) dX6_as_46 rfl 1 rfl rfl ?_
          refine ev_callVI (q := 50) dX6_as_47 rfl ml_X6_76 mt_X6_foundNothing cf_6 rfl ho hc_6 (con_X6_foundNothing G _ _ ho _) rfl (Nat.le_of_ble_eq_true rfl) (Nat.le_of_ble_eq_true rfl) rfl (Nat.le_of_ble_eq_true rfl) (fun r10 m11 => ?_)
          exact ev_iret dX6_as_50 rfl
/-! AgingLetters.ask(II)I -/
theorem dX6_ask_0 : decode cX6_ask 0 = .ok (.aload_n 0, 1) := by decide +kernel
theorem dX6_ask_1 : decode cX6_ask 1 = .ok (.getfield 26, 3) := by decide +kernel
theorem dX6_ask_4 : decode cX6_ask 4 = .ok (.iload_n 1, 1) := by decide +kernel
theorem dX6_ask_5 : decode cX6_ask 5 = .ok (.invokevirtual 137, 3) := by decide +kernel
theorem dX6_ask_8 : decode cX6_ask 8 = .ok (.ifCond .eq 10, 3) := by decide +kernel
theorem dX6_ask_11 : decode cX6_ask 11 = .ok (.iload_n 2, 1) := by decide +kernel
theorem dX6_ask_12 : decode cX6_ask 12 = .ok (.invokestatic 228, 3) := by decide +kernel
theorem dX6_ask_15 : decode cX6_ask 15 = .ok (.ifCond .ne 6, 3) := by decide +kernel
theorem dX6_ask_18 : decode cX6_ask 18 = .ok (.ldc 67, 2) := by decide +kernel
theorem dX6_ask_20 : decode cX6_ask 20 = .ok (.ireturn, 1) := by decide +kernel
theorem dX6_ask_21 : decode cX6_ask 21 = .ok (.aload_n 0, 1) := by decide +kernel
theorem dX6_ask_22 : decode cX6_ask 22 = .ok (.getfield 56, 3) := by decide +kernel
theorem dX6_ask_25 : decode cX6_ask 25 = .ok (.aload_n 0, 1) := by decide +kernel
theorem dX6_ask_26 : decode cX6_ask 26 = .ok (.getfield 26, 3) := by decide +kernel
theorem dX6_ask_29 : decode cX6_ask 29 = .ok (.iload_n 1, 1) := by decide +kernel
theorem dX6_ask_30 : decode cX6_ask 30 = .ok (.iload_n 2, 1) := by decide +kernel
theorem dX6_ask_31 : decode cX6_ask 31 = .ok (.invokevirtual 295, 3) := by decide +kernel
theorem dX6_ask_34 : decode cX6_ask 34 = .ok (.ireturn, 1) := by decide +kernel
set_option maxRecDepth 100000 in
set_option maxHeartbeats 4000000 in
theorem con_X6_ask (G : Gt) (o : Nat) (a1 : Int32) (a2 : Int32) (ho : kd o = 6) (mem : Mem) : Con tvI G yX6_ask cX6_ask 3 (some .int) 16 [.ref (gA G o), .int a1, .int a2] mem (X6_ask o a1 a2 mem) := by
  refine con_of (by decide) (Nat.le_of_ble_eq_true rfl) ?_
  show EvR tvI G cX6_ask 3 (some .int) RX6 16 0 [(0, .ref (gA G o)), (1, .int (a1)), (2, .int (a2))] [] mem _
  unfold X6_ask
  refine ev_aload_n (q := 1) dX6_ask_0 rfl 0 rfl rfl ?_
  refine ev_getR (q := 4) (ci := 6) (j := 2) (T := TX6) dX6_ask_1 rfl cf_6 ho hj_6_2 hc_6 gf_X6_26 rfl ?_
  refine ev_iload_n (q := 5) dX6_ask_4 rfl 1 rfl rfl ?_
  refine ev_callVI (q := 8) dX6_ask_5 rfl ml_X6_137 mt_X3_hasLetter cf_3 rfl (kr_6_2 ho) hc_3 (con_X3_hasLetter G _ _ (kr_6_2 ho) _) rfl (Nat.le_of_ble_eq_true rfl) (Nat.le_of_ble_eq_true rfl) rfl (Nat.le_of_ble_eq_true rfl) (fun r1 m2 => ?_)
  refine ev_if_eq (t := 18) (q := 11) dX6_ask_8 rfl rfl (fun hc3 => ?_) (fun hc3 => ?_)
  · refine ev_ldc (q := 20) (v := (-1000001)) dX6_ask_18 rfl kc_X6_67 ?_
    exact ev_iret dX6_ask_20 rfl
  · refine ev_iload_n (q := 12) dX6_ask_11 rfl 2 rfl rfl ?_
    refine ev_callSI (q := 15) dX6_ask_12 rfl ml_X6_228 mt_X6_isChoice (con_X6_isChoice G _  _) rfl (Nat.le_of_ble_eq_true rfl) (Nat.le_of_ble_eq_true rfl) rfl (Nat.le_of_ble_eq_true rfl) (fun r4 m5 => ?_)
    refine ev_if_ne (t := 21) (q := 18) dX6_ask_15 rfl rfl (fun hc6 => ?_) (fun hc6 => ?_)
    · refine ev_ldc (q := 20) (v := (-1000001)) dX6_ask_18 rfl kc_X6_67 ?_
      exact ev_iret dX6_ask_20 rfl
    · refine ev_aload_n (q := 22) dX6_ask_21 rfl 0 rfl rfl ?_
      refine ev_getR (q := 25) (ci := 6) (j := 8) (T := TX6) dX6_ask_22 rfl cf_6 ho hj_6_8 hc_6 gf_X6_56 rfl ?_
      refine ev_aload_n (q := 26) dX6_ask_25 rfl 0 rfl rfl ?_
      refine ev_getR (q := 29) (ci := 6) (j := 2) (T := TX6) dX6_ask_26 rfl cf_6 ho hj_6_2 hc_6 gf_X6_26 rfl ?_
      refine ev_iload_n (q := 30) dX6_ask_29 rfl 1 rfl rfl ?_
      refine ev_iload_n (q := 31) dX6_ask_30 rfl 2 rfl rfl ?_
      refine ev_callVI (q := 34) dX6_ask_31 rfl ml_X6_295 mt_X1_answer cf_1 rfl (kr_6_8 ho) hc_1 (con_X1_answer G _ _ _ _ (kr_6_8 ho) (kr_6_2 ho) _) rfl (Nat.le_of_ble_eq_true rfl) (Nat.le_of_ble_eq_true rfl) rfl (Nat.le_of_ble_eq_true rfl) (fun r7 m8 => ?_)
      exact ev_iret dX6_ask_34 rfl
/-! AgingLetters.trace(I)I -/
theorem dX6_trace_0 : decode cX6_trace 0 = .ok (.iload_n 1, 1) := by decide +kernel
theorem dX6_trace_1 : decode cX6_trace 1 = .ok (.ifCond .lt 14, 3) := by decide +kernel
theorem dX6_trace_4 : decode cX6_trace 4 = .ok (.iload_n 1, 1) := by decide +kernel
theorem dX6_trace_5 : decode cX6_trace 5 = .ok (.aload_n 0, 1) := by decide +kernel
theorem dX6_trace_6 : decode cX6_trace 6 = .ok (.getfield 56, 3) := by decide +kernel
theorem dX6_trace_9 : decode cX6_trace 9 = .ok (.getfield 298, 3) := by decide +kernel
theorem dX6_trace_12 : decode cX6_trace 12 = .ok (.if_icmp .lt 6, 3) := by decide +kernel
theorem dX6_trace_15 : decode cX6_trace 15 = .ok (.ldc 217, 2) := by decide +kernel
theorem dX6_trace_17 : decode cX6_trace 17 = .ok (.ireturn, 1) := by decide +kernel
theorem dX6_trace_18 : decode cX6_trace 18 = .ok (.aload_n 0, 1) := by decide +kernel
theorem dX6_trace_19 : decode cX6_trace 19 = .ok (.getfield 56, 3) := by decide +kernel
theorem dX6_trace_22 : decode cX6_trace 22 = .ok (.getfield 301, 3) := by decide +kernel
theorem dX6_trace_25 : decode cX6_trace 25 = .ok (.iload_n 1, 1) := by decide +kernel
theorem dX6_trace_26 : decode cX6_trace 26 = .ok (.iaload, 1) := by decide +kernel
theorem dX6_trace_27 : decode cX6_trace 27 = .ok (.ireturn, 1) := by decide +kernel
set_option maxRecDepth 100000 in
set_option maxHeartbeats 4000000 in
theorem con_X6_trace (G : Gt) (o : Nat) (a1 : Int32) (ho : kd o = 6) (mem : Mem) : Con tvI G yX6_trace cX6_trace 2 (some .int) 1 [.ref (gA G o), .int a1] mem (X6_trace o a1 mem) := by
  refine con_of (by decide) (Nat.le_of_ble_eq_true rfl) ?_
  show EvR tvI G cX6_trace 2 (some .int) RX6 1 0 [(0, .ref (gA G o)), (1, .int (a1))] [] mem _
  unfold X6_trace
  refine ev_iload_n (q := 1) dX6_trace_0 rfl 1 rfl rfl ?_
  refine ev_if_lt (t := 15) (q := 4) dX6_trace_1 rfl rfl (fun hc1 => ?_) (fun hc1 => ?_)
  · refine ev_ldc (q := 17) (v := (-1000000)) dX6_trace_15 rfl kc_X6_217 ?_
    exact ev_iret dX6_trace_17 rfl
  · refine ev_iload_n (q := 5) dX6_trace_4 rfl 1 rfl rfl ?_
    refine ev_aload_n (q := 6) dX6_trace_5 rfl 0 rfl rfl ?_
    refine ev_getR (q := 9) (ci := 6) (j := 8) (T := TX6) dX6_trace_6 rfl cf_6 ho hj_6_8 hc_6 gf_X6_56 rfl ?_
    refine ev_getI (q := 12) (ci := 1) (j := 1) (T := TX1) dX6_trace_9 rfl cf_1 (kr_6_8 ho) hj_1_1 hc_1 gf_X6_298 rfl ?_
    refine ev_icmp_lt (t := 18) (q := 15) dX6_trace_12 rfl rfl (fun hc2 => ?_) (fun hc2 => ?_)
    · refine ev_aload_n (q := 19) dX6_trace_18 rfl 0 rfl rfl ?_
      refine ev_getR (q := 22) (ci := 6) (j := 8) (T := TX6) dX6_trace_19 rfl cf_6 ho hj_6_8 hc_6 gf_X6_56 rfl ?_
      refine ev_getR (q := 25) (ci := 1) (j := 0) (T := TX1) dX6_trace_22 rfl cf_1 (kr_6_8 ho) hj_1_0 hc_1 gf_X6_301 rfl ?_
      refine ev_iload_n (q := 26) dX6_trace_25 rfl 1 rfl rfl ?_
      refine ev_iald (q := 27) dX6_trace_26 rfl (kr_1_0 (kr_6_8 ho)) (fun z3 => ?_)
      exact ev_iret dX6_trace_27 rfl
    · refine ev_ldc (q := 17) (v := (-1000000)) dX6_trace_15 rfl kc_X6_217 ?_
      exact ev_iret dX6_trace_17 rfl
/-! AgingLetters.count(I)I -/
theorem dX6_count_0 : decode cX6_count 0 = .ok (.iload_n 1, 1) := by decide +kernel
theorem dX6_count_1 : decode cX6_count 1 = .ok (.tableswitch 126 0 8 #[51, 59, 67, 75, 83, 91, 99, 110, 118], 51) := by decide +kernel
theorem dX6_count_52 : decode cX6_count 52 = .ok (.aload_n 0, 1) := by decide +kernel
theorem dX6_count_53 : decode cX6_count 53 = .ok (.getfield 10, 3) := by decide +kernel
theorem dX6_count_56 : decode cX6_count 56 = .ok (.invokevirtual 304, 3) := by decide +kernel
theorem dX6_count_59 : decode cX6_count 59 = .ok (.ireturn, 1) := by decide +kernel
theorem dX6_count_60 : decode cX6_count 60 = .ok (.aload_n 0, 1) := by decide +kernel
theorem dX6_count_61 : decode cX6_count 61 = .ok (.getfield 26, 3) := by decide +kernel
theorem dX6_count_64 : decode cX6_count 64 = .ok (.getfield 307, 3) := by decide +kernel
theorem dX6_count_67 : decode cX6_count 67 = .ok (.ireturn, 1) := by decide +kernel
theorem dX6_count_68 : decode cX6_count 68 = .ok (.aload_n 0, 1) := by decide +kernel
theorem dX6_count_69 : decode cX6_count 69 = .ok (.getfield 26, 3) := by decide +kernel
theorem dX6_count_72 : decode cX6_count 72 = .ok (.getfield 131, 3) := by decide +kernel
theorem dX6_count_75 : decode cX6_count 75 = .ok (.ireturn, 1) := by decide +kernel
theorem dX6_count_76 : decode cX6_count 76 = .ok (.aload_n 0, 1) := by decide +kernel
theorem dX6_count_77 : decode cX6_count 77 = .ok (.getfield 26, 3) := by decide +kernel
theorem dX6_count_80 : decode cX6_count 80 = .ok (.getfield 172, 3) := by decide +kernel
theorem dX6_count_83 : decode cX6_count 83 = .ok (.ireturn, 1) := by decide +kernel
theorem dX6_count_84 : decode cX6_count 84 = .ok (.aload_n 0, 1) := by decide +kernel
theorem dX6_count_85 : decode cX6_count 85 = .ok (.getfield 26, 3) := by decide +kernel
theorem dX6_count_88 : decode cX6_count 88 = .ok (.invokevirtual 310, 3) := by decide +kernel
theorem dX6_count_91 : decode cX6_count 91 = .ok (.ireturn, 1) := by decide +kernel
theorem dX6_count_92 : decode cX6_count 92 = .ok (.aload_n 0, 1) := by decide +kernel
theorem dX6_count_93 : decode cX6_count 93 = .ok (.getfield 26, 3) := by decide +kernel
theorem dX6_count_96 : decode cX6_count 96 = .ok (.invokevirtual 313, 3) := by decide +kernel
theorem dX6_count_99 : decode cX6_count 99 = .ok (.ireturn, 1) := by decide +kernel
theorem dX6_count_100 : decode cX6_count 100 = .ok (.aload_n 0, 1) := by decide +kernel
theorem dX6_count_101 : decode cX6_count 101 = .ok (.getfield 26, 3) := by decide +kernel
theorem dX6_count_104 : decode cX6_count 104 = .ok (.invokevirtual 218, 3) := by decide +kernel
theorem dX6_count_107 : decode cX6_count 107 = .ok (.invokestatic 244, 3) := by decide +kernel
theorem dX6_count_110 : decode cX6_count 110 = .ok (.ireturn, 1) := by decide +kernel
theorem dX6_count_111 : decode cX6_count 111 = .ok (.aload_n 0, 1) := by decide +kernel
theorem dX6_count_112 : decode cX6_count 112 = .ok (.getfield 42, 3) := by decide +kernel
theorem dX6_count_115 : decode cX6_count 115 = .ok (.getfield 178, 3) := by decide +kernel
theorem dX6_count_118 : decode cX6_count 118 = .ok (.ireturn, 1) := by decide +kernel
theorem dX6_count_119 : decode cX6_count 119 = .ok (.aload_n 0, 1) := by decide +kernel
theorem dX6_count_120 : decode cX6_count 120 = .ok (.getfield 19, 3) := by decide +kernel
theorem dX6_count_123 : decode cX6_count 123 = .ok (.getfield 316, 3) := by decide +kernel
theorem dX6_count_126 : decode cX6_count 126 = .ok (.ireturn, 1) := by decide +kernel
theorem dX6_count_127 : decode cX6_count 127 = .ok (.ldc 67, 2) := by decide +kernel
theorem dX6_count_129 : decode cX6_count 129 = .ok (.ireturn, 1) := by decide +kernel
set_option maxRecDepth 100000 in
set_option maxHeartbeats 4000000 in
theorem con_X6_count (G : Gt) (o : Nat) (a1 : Int32) (ho : kd o = 6) (mem : Mem) : Con tvI G yX6_count cX6_count 2 (some .int) 5 [.ref (gA G o), .int a1] mem (X6_count o a1 mem) := by
  refine con_of (by decide) (Nat.le_of_ble_eq_true rfl) ?_
  show EvR tvI G cX6_count 2 (some .int) RX6 5 0 [(0, .ref (gA G o)), (1, .int (a1))] [] mem _
  unfold X6_count
  refine ev_iload_n (q := 1) dX6_count_0 rfl 1 rfl rfl ?_
  refine ev_ite (fun hc1 => ?_) (fun hc1 => ?_)
  · subst hc1
    refine ev_tsIn (t := 52) (off := 51) dX6_count_1 (by decide) (by decide) (by decide) rfl ?_
    refine ev_aload_n (q := 53) dX6_count_52 rfl 0 rfl rfl ?_
    refine ev_getR (q := 56) (ci := 6) (j := 0) (T := TX6) dX6_count_53 rfl cf_6 ho hj_6_0 hc_6 gf_X6_10 rfl ?_
    refine ev_callVI (q := 59) dX6_count_56 rfl ml_X6_304 mt_X4_present cf_4 rfl (kr_6_0 ho) hc_4 (con_X4_present G _ (kr_6_0 ho) _) rfl (Nat.le_of_ble_eq_true rfl) (Nat.le_of_ble_eq_true rfl) rfl (Nat.le_of_ble_eq_true rfl) (fun r2 m3 => ?_)
    exact ev_iret dX6_count_59 rfl
  refine ev_ite (fun hc4 => ?_) (fun hc4 => ?_)
  · subst hc4
    refine ev_tsIn (t := 60) (off := 59) dX6_count_1 (by decide) (by decide) (by decide) rfl ?_
    refine ev_aload_n (q := 61) dX6_count_60 rfl 0 rfl rfl ?_
    refine ev_getR (q := 64) (ci := 6) (j := 2) (T := TX6) dX6_count_61 rfl cf_6 ho hj_6_2 hc_6 gf_X6_26 rfl ?_
    refine ev_getI (q := 67) (ci := 3) (j := 3) (T := TX3) dX6_count_64 rfl cf_3 (kr_6_2 ho) hj_3_3 hc_3 gf_X6_307 rfl ?_
    exact ev_iret dX6_count_67 rfl
  refine ev_ite (fun hc5 => ?_) (fun hc5 => ?_)
  · subst hc5
    refine ev_tsIn (t := 68) (off := 67) dX6_count_1 (by decide) (by decide) (by decide) rfl ?_
    refine ev_aload_n (q := 69) dX6_count_68 rfl 0 rfl rfl ?_
    refine ev_getR (q := 72) (ci := 6) (j := 2) (T := TX6) dX6_count_69 rfl cf_6 ho hj_6_2 hc_6 gf_X6_26 rfl ?_
    refine ev_getI (q := 75) (ci := 3) (j := 7) (T := TX3) dX6_count_72 rfl cf_3 (kr_6_2 ho) hj_3_7 hc_3 gf_X6_131 rfl ?_
    exact ev_iret dX6_count_75 rfl
  refine ev_ite (fun hc6 => ?_) (fun hc6 => ?_)
  · subst hc6
    refine ev_tsIn (t := 76) (off := 75) dX6_count_1 (by decide) (by decide) (by decide) rfl ?_
    refine ev_aload_n (q := 77) dX6_count_76 rfl 0 rfl rfl ?_
    refine ev_getR (q := 80) (ci := 6) (j := 2) (T := TX6) dX6_count_77 rfl cf_6 ho hj_6_2 hc_6 gf_X6_26 rfl ?_
    refine ev_getI (q := 83) (ci := 3) (j := 2) (T := TX3) dX6_count_80 rfl cf_3 (kr_6_2 ho) hj_3_2 hc_3 gf_X6_172 rfl ?_
    exact ev_iret dX6_count_83 rfl
  refine ev_ite (fun hc7 => ?_) (fun hc7 => ?_)
  · subst hc7
    refine ev_tsIn (t := 84) (off := 83) dX6_count_1 (by decide) (by decide) (by decide) rfl ?_
    refine ev_aload_n (q := 85) dX6_count_84 rfl 0 rfl rfl ?_
    refine ev_getR (q := 88) (ci := 6) (j := 2) (T := TX6) dX6_count_85 rfl cf_6 ho hj_6_2 hc_6 gf_X6_26 rfl ?_
    refine ev_callVI (q := 91) dX6_count_88 rfl ml_X6_310 mt_X3_howManyAlive cf_3 rfl (kr_6_2 ho) hc_3 (con_X3_howManyAlive G _ (kr_6_2 ho) _) rfl (Nat.le_of_ble_eq_true rfl) (Nat.le_of_ble_eq_true rfl) rfl (Nat.le_of_ble_eq_true rfl) (fun r8 m9 => ?_)
    exact ev_iret dX6_count_91 rfl
  refine ev_ite (fun hc10 => ?_) (fun hc10 => ?_)
  · subst hc10
    refine ev_tsIn (t := 92) (off := 91) dX6_count_1 (by decide) (by decide) (by decide) rfl ?_
    refine ev_aload_n (q := 93) dX6_count_92 rfl 0 rfl rfl ?_
    refine ev_getR (q := 96) (ci := 6) (j := 2) (T := TX6) dX6_count_93 rfl cf_6 ho hj_6_2 hc_6 gf_X6_26 rfl ?_
    refine ev_callVI (q := 99) dX6_count_96 rfl ml_X6_313 mt_X3_howManyFit cf_3 rfl (kr_6_2 ho) hc_3 (con_X3_howManyFit G _ (kr_6_2 ho) _) rfl (Nat.le_of_ble_eq_true rfl) (Nat.le_of_ble_eq_true rfl) rfl (Nat.le_of_ble_eq_true rfl) (fun r11 m12 => ?_)
    exact ev_iret dX6_count_99 rfl
  refine ev_ite (fun hc13 => ?_) (fun hc13 => ?_)
  · subst hc13
    refine ev_tsIn (t := 100) (off := 99) dX6_count_1 (by decide) (by decide) (by decide) rfl ?_
    refine ev_aload_n (q := 101) dX6_count_100 rfl 0 rfl rfl ?_
    refine ev_getR (q := 104) (ci := 6) (j := 2) (T := TX6) dX6_count_101 rfl cf_6 ho hj_6_2 hc_6 gf_X6_26 rfl ?_
    refine ev_callVI (q := 107) dX6_count_104 rfl ml_X6_218 mt_X3_unreadLetters cf_3 rfl (kr_6_2 ho) hc_3 (con_X3_unreadLetters G _ (kr_6_2 ho) _) rfl (Nat.le_of_ble_eq_true rfl) (Nat.le_of_ble_eq_true rfl) rfl (Nat.le_of_ble_eq_true rfl) (fun r14 m15 => ?_)
    refine ev_callSI (q := 110) dX6_count_107 rfl ml_X6_244 mt_J6_bitCount_0f7a4 (con_J6_bitCount_0f7a4 G _  _) rfl (Nat.le_of_ble_eq_true rfl) (Nat.le_of_ble_eq_true rfl) rfl (Nat.le_of_ble_eq_true rfl) (fun r16 m17 => ?_)
    exact ev_iret dX6_count_110 rfl
  refine ev_ite (fun hc18 => ?_) (fun hc18 => ?_)
  · subst hc18
    refine ev_tsIn (t := 111) (off := 110) dX6_count_1 (by decide) (by decide) (by decide) rfl ?_
    refine ev_aload_n (q := 112) dX6_count_111 rfl 0 rfl rfl ?_
    refine ev_getR (q := 115) (ci := 6) (j := 6) (T := TX6) dX6_count_112 rfl cf_6 ho hj_6_6 hc_6 gf_X6_42 rfl ?_
    refine ev_getI (q := 118) (ci := 0) (j := 8) (T := TX0) dX6_count_115 rfl cf_0 (kr_6_6 ho) hj_0_8 hc_0 gf_X6_178 rfl ?_
    exact ev_iret dX6_count_118 rfl
  refine ev_ite (fun hc19 => ?_) (fun hc19 => ?_)
  · subst hc19
    refine ev_tsIn (t := 119) (off := 118) dX6_count_1 (by decide) (by decide) (by decide) rfl ?_
    refine ev_aload_n (q := 120) dX6_count_119 rfl 0 rfl rfl ?_
    refine ev_getR (q := 123) (ci := 6) (j := 1) (T := TX6) dX6_count_120 rfl cf_6 ho hj_6_1 hc_6 gf_X6_19 rfl ?_
    refine ev_getI (q := 126) (ci := 5) (j := 1) (T := TX5) dX6_count_123 rfl cf_5 (kr_6_1 ho) hj_5_1 hc_5 gf_X6_316 rfl ?_
    exact ev_iret dX6_count_126 rfl
  refine ev_tsOut (t := 127) dX6_count_1 (by have g0 := lv_neT hc1 (a := 0) (by decide); have g1 := lv_neT hc4 (a := 1) (by decide); have g2 := lv_neT hc5 (a := 2) (by decide); have g3 := lv_neT hc6 (a := 3) (by decide); have g4 := lv_neT hc7 (a := 4) (by decide); have g5 := lv_neT hc10 (a := 5) (by decide); have g6 := lv_neT hc13 (a := 6) (by decide); have g7 := lv_neT hc18 (a := 7) (by decide); have g8 := lv_neT hc19 (a := 8) (by decide); omega) rfl ?_
  refine ev_ldc (q := 129) (v := (-1000001)) dX6_count_127 rfl kc_X6_67 ?_
  exact ev_iret dX6_count_129 rfl
/-! AgingLetters.status()I -/
theorem dX6_status_0 : decode cX6_status 0 = .ok (.aload_n 0, 1) := by decide +kernel
theorem dX6_status_1 : decode cX6_status 1 = .ok (.getfield 319, 3) := by decide +kernel
theorem dX6_status_4 : decode cX6_status 4 = .ok (.ireturn, 1) := by decide +kernel
set_option maxRecDepth 100000 in
set_option maxHeartbeats 4000000 in
theorem con_X6_status (G : Gt) (o : Nat) (ho : kd o = 6) (mem : Mem) : Con tvI G yX6_status cX6_status 1 (some .int) 1 [.ref (gA G o)] mem (X6_status o mem) := by
  refine con_of (by decide) (Nat.le_of_ble_eq_true rfl) ?_
  show EvR tvI G cX6_status 1 (some .int) RX6 1 0 [(0, .ref (gA G o))] [] mem _
  unfold X6_status
  refine ev_aload_n (q := 1) dX6_status_0 rfl 0 rfl rfl ?_
  refine ev_getI (q := 4) (ci := 6) (j := 10) (T := TX6) dX6_status_1 rfl cf_6 ho hj_6_10 hc_6 gf_X6_319 rfl ?_
  exact ev_iret dX6_status_4 rfl
/-! AgingLettersModel.in(JJJ)Z -/
theorem dX7_in_0 : decode cX7_in 0 = .ok (.lload_n 0, 1) := by decide +kernel
theorem dX7_in_1 : decode cX7_in 1 = .ok (.lload_n 2, 1) := by decide +kernel
theorem dX7_in_2 : decode cX7_in 2 = .ok (.lcmp, 1) := by decide +kernel
theorem dX7_in_3 : decode cX7_in 3 = .ok (.ifCond .lt 14, 3) := by decide +kernel
theorem dX7_in_6 : decode cX7_in 6 = .ok (.lload_n 0, 1) := by decide +kernel
theorem dX7_in_7 : decode cX7_in 7 = .ok (.lload 4, 2) := by decide +kernel
theorem dX7_in_9 : decode cX7_in 9 = .ok (.lcmp, 1) := by decide +kernel
theorem dX7_in_10 : decode cX7_in 10 = .ok (.ifCond .gt 7, 3) := by decide +kernel
theorem dX7_in_13 : decode cX7_in 13 = .ok (.iconst 1, 1) := by decide +kernel
theorem dX7_in_14 : decode cX7_in 14 = .ok (.goto 4, 3) := by decide +kernel
theorem dX7_in_17 : decode cX7_in 17 = .ok (.iconst 0, 1) := by decide +kernel
theorem dX7_in_18 : decode cX7_in 18 = .ok (.ireturn, 1) := by decide +kernel
set_option maxRecDepth 100000 in
set_option maxHeartbeats 4000000 in
theorem con_X7_in (G : Gt) (l0 : Int64) (l2 : Int64) (l4 : Int64)  (mem : Mem) : Con tvI G yX7_in cX7_in 6 (some .boolean) 1 [.long l0, .long l2, .long l4] mem (X7_in l0 l2 l4 mem) := by
  refine con_of (by decide) (Nat.le_of_ble_eq_true rfl) ?_
  show EvR tvI G cX7_in 6 (some .boolean) RX7 1 0 [(0, .long (l0)), (2, .long (l2)), (4, .long (l4))] [] mem _
  unfold X7_in
  refine ev_lload_n (q := 1) dX7_in_0 rfl 0 rfl rfl ?_
  refine ev_lload_n (q := 2) dX7_in_1 rfl 1 rfl rfl ?_
  refine ev_lcmp (q := 3) dX7_in_2 rfl ?_
  refine ev_if_lt (t := 17) (q := 6) dX7_in_3 rfl rfl (fun hc1 => ?_) (fun hc1 => ?_)
  · refine ev_iconst (q := 18) (v := 0) dX7_in_17 rfl li_0 ?_
    exact ev_zret dX7_in_18 rfl
  · refine ev_lload_n (q := 7) dX7_in_6 rfl 0 rfl rfl ?_
    refine ev_lload (q := 9) dX7_in_7 2 rfl rfl ?_
    refine ev_lcmp (q := 10) dX7_in_9 rfl ?_
    refine ev_if_gt (t := 17) (q := 13) dX7_in_10 rfl rfl (fun hc2 => ?_) (fun hc2 => ?_)
    · refine ev_iconst (q := 18) (v := 0) dX7_in_17 rfl li_0 ?_
      exact ev_zret dX7_in_18 rfl
    · refine ev_iconst (q := 14) (v := 1) dX7_in_13 rfl li_1 ?_
      refine ev_goto (t := 18) dX7_in_14 rfl ?_
      exact ev_zret dX7_in_18 rfl
/-! AgingLettersModel.has(II)Z -/
theorem dX7_has_0 : decode cX7_has 0 = .ok (.iload_n 0, 1) := by decide +kernel
theorem dX7_has_1 : decode cX7_has 1 = .ok (.iload_n 1, 1) := by decide +kernel
theorem dX7_has_2 : decode cX7_has 2 = .ok (.ishr, 1) := by decide +kernel
theorem dX7_has_3 : decode cX7_has 3 = .ok (.iconst 1, 1) := by decide +kernel
theorem dX7_has_4 : decode cX7_has 4 = .ok (.iand, 1) := by decide +kernel
theorem dX7_has_5 : decode cX7_has 5 = .ok (.iconst 1, 1) := by decide +kernel
theorem dX7_has_6 : decode cX7_has 6 = .ok (.if_icmp .ne 7, 3) := by decide +kernel
theorem dX7_has_9 : decode cX7_has 9 = .ok (.iconst 1, 1) := by decide +kernel
theorem dX7_has_10 : decode cX7_has 10 = .ok (.goto 4, 3) := by decide +kernel
theorem dX7_has_13 : decode cX7_has 13 = .ok (.iconst 0, 1) := by decide +kernel
theorem dX7_has_14 : decode cX7_has 14 = .ok (.ireturn, 1) := by decide +kernel
set_option maxRecDepth 100000 in
set_option maxHeartbeats 4000000 in
theorem con_X7_has (G : Gt) (a0 : Int32) (a1 : Int32)  (mem : Mem) : Con tvI G yX7_has cX7_has 2 (some .boolean) 1 [.int a0, .int a1] mem (X7_has a0 a1 mem) := by
  refine con_of (by decide) (Nat.le_of_ble_eq_true rfl) ?_
  show EvR tvI G cX7_has 2 (some .boolean) RX7 1 0 [(0, .int (a0)), (1, .int (a1))] [] mem _
  unfold X7_has
  refine ev_iload_n (q := 1) dX7_has_0 rfl 0 rfl rfl ?_
  refine ev_iload_n (q := 2) dX7_has_1 rfl 1 rfl rfl ?_
  refine ev_ishr (q := 3) dX7_has_2 rfl ?_
  refine ev_iconst (q := 4) (v := 1) dX7_has_3 rfl li_1 ?_
  refine ev_iand (q := 5) dX7_has_4 rfl ?_
  refine ev_iconst (q := 6) (v := 1) dX7_has_5 rfl li_1 ?_
  refine ev_icmp_ne (t := 13) (q := 9) dX7_has_6 rfl rfl (fun hc1 => ?_) (fun hc1 => ?_)
  · refine ev_iconst (q := 10) (v := 1) dX7_has_9 rfl li_1 ?_
    refine ev_goto (t := 14) dX7_has_10 rfl ?_
    exact ev_zret dX7_has_14 rfl
  · refine ev_iconst (q := 14) (v := 0) dX7_has_13 rfl li_0 ?_
    exact ev_zret dX7_has_14 rfl
/-! AgingLettersModel.finds(I)I -/
theorem dX7_finds_0 : decode cX7_finds 0 = .ok (.aload_n 0, 1) := by decide +kernel
theorem dX7_finds_1 : decode cX7_finds 1 = .ok (.iload_n 1, 1) := by decide +kernel
theorem dX7_finds_2 : decode cX7_finds 2 = .ok (.putfield 56, 3) := by decide +kernel
theorem dX7_finds_5 : decode cX7_finds 5 = .ok (.ldc 60, 2) := by decide +kernel
theorem dX7_finds_7 : decode cX7_finds 7 = .ok (.iload_n 1, 1) := by decide +kernel
theorem dX7_finds_8 : decode cX7_finds 8 = .ok (.isub, 1) := by decide +kernel
theorem dX7_finds_9 : decode cX7_finds 9 = .ok (.ireturn, 1) := by decide +kernel
set_option maxRecDepth 100000 in
set_option maxHeartbeats 4000000 in
theorem con_X7_finds (G : Gt) (o : Nat) (a1 : Int32) (ho : kd o = 7) (mem : Mem) : Con tvI G yX7_finds cX7_finds 2 (some .int) 1 [.ref (gA G o), .int a1] mem (X7_finds o a1 mem) := by
  refine con_of (by decide) (Nat.le_of_ble_eq_true rfl) ?_
  show EvR tvI G cX7_finds 2 (some .int) RX7 1 0 [(0, .ref (gA G o)), (1, .int (a1))] [] mem _
  unfold X7_finds
  refine ev_aload_n (q := 1) dX7_finds_0 rfl 0 rfl rfl ?_
  refine ev_iload_n (q := 2) dX7_finds_1 rfl 1 rfl rfl ?_
  refine ev_putI (q := 5) (ci := 7) (j := 3) (T := TX7) dX7_finds_2 rfl cf_7 ho hj_7_3 hc_7 gf_X7_56 rfl rfl (tyX7_ok 3 hj_7_3) ?_
  refine ev_ldc (q := 7) (v := (-1000010)) dX7_finds_5 rfl kc_X7_60 ?_
  refine ev_iload_n (q := 8) dX7_finds_7 rfl 1 rfl rfl ?_
  refine ev_isub (q := 9) dX7_finds_8 rfl ?_
  exact ev_iret dX7_finds_9 rfl
/-! AgingLettersModel.tells(I)I -/
theorem dX7_tells_0 : decode cX7_tells 0 = .ok (.aload_n 0, 1) := by decide +kernel
theorem dX7_tells_1 : decode cX7_tells 1 = .ok (.iconst 0, 1) := by decide +kernel
theorem dX7_tells_2 : decode cX7_tells 2 = .ok (.putfield 56, 3) := by decide +kernel
theorem dX7_tells_5 : decode cX7_tells 5 = .ok (.iload_n 1, 1) := by decide +kernel
theorem dX7_tells_6 : decode cX7_tells 6 = .ok (.ireturn, 1) := by decide +kernel
set_option maxRecDepth 100000 in
set_option maxHeartbeats 4000000 in
theorem con_X7_tells (G : Gt) (o : Nat) (a1 : Int32) (ho : kd o = 7) (mem : Mem) : Con tvI G yX7_tells cX7_tells 2 (some .int) 1 [.ref (gA G o), .int a1] mem (X7_tells o a1 mem) := by
  refine con_of (by decide) (Nat.le_of_ble_eq_true rfl) ?_
  show EvR tvI G cX7_tells 2 (some .int) RX7 1 0 [(0, .ref (gA G o)), (1, .int (a1))] [] mem _
  unfold X7_tells
  refine ev_aload_n (q := 1) dX7_tells_0 rfl 0 rfl rfl ?_
  refine ev_iconst (q := 2) (v := 0) dX7_tells_1 rfl li_0 ?_
  refine ev_putI (q := 5) (ci := 7) (j := 3) (T := TX7) dX7_tells_2 rfl cf_7 ho hj_7_3 hc_7 gf_X7_56 rfl rfl (tyX7_ok 3 hj_7_3) ?_
  refine ev_iload_n (q := 6) dX7_tells_5 rfl 1 rfl rfl ?_
  exact ev_iret dX7_tells_6 rfl
/-! AgingLettersModel.isRow(I)Z -/
theorem dX7_isRow_0 : decode cX7_isRow 0 = .ok (.iload_n 0, 1) := by decide +kernel
theorem dX7_isRow_1 : decode cX7_isRow 1 = .ok (.i2l, 1) := by decide +kernel
theorem dX7_isRow_2 : decode cX7_isRow 2 = .ok (.lconst 0, 1) := by decide +kernel
theorem dX7_isRow_3 : decode cX7_isRow 3 = .ok (.ldc2_w 61, 3) := by decide +kernel
theorem dX7_isRow_6 : decode cX7_isRow 6 = .ok (.invokestatic 63, 3) := by decide +kernel
theorem dX7_isRow_9 : decode cX7_isRow 9 = .ok (.ireturn, 1) := by decide +kernel
set_option maxRecDepth 100000 in
set_option maxHeartbeats 4000000 in
theorem con_X7_isRow (G : Gt) (a0 : Int32)  (mem : Mem) : Con tvI G yX7_isRow cX7_isRow 1 (some .boolean) 2 [.int a0] mem (X7_isRow a0 mem) := by
  refine con_of (by decide) (Nat.le_of_ble_eq_true rfl) ?_
  show EvR tvI G cX7_isRow 1 (some .boolean) RX7 2 0 [(0, .int (a0))] [] mem _
  unfold X7_isRow
  refine ev_iload_n (q := 1) dX7_isRow_0 rfl 0 rfl rfl ?_
  refine ev_i2l (q := 2) dX7_isRow_1 rfl ?_
  refine ev_lconst (q := 3) (v := 0) dX7_isRow_2 rfl ll_0 ?_
  refine ev_ldc2 (q := 6) (v := 7) dX7_isRow_3 rfl kc_X7_61 ?_
  refine ev_callSI (q := 9) dX7_isRow_6 rfl ml_X7_63 mt_X7_in (con_X7_in G _ _ _  _) rfl (Nat.le_of_ble_eq_true rfl) (Nat.le_of_ble_eq_true rfl) rfl (Nat.le_of_ble_eq_true rfl) (fun r1 m2 => ?_)
  exact ev_zret dX7_isRow_9 rfl
/-! AgingLettersModel.row(III)I -/
theorem dX7_row_0 : decode cX7_row 0 = .ok (.iload_n 1, 1) := by decide +kernel
theorem dX7_row_1 : decode cX7_row 1 = .ok (.invokestatic 67, 3) := by decide +kernel
theorem dX7_row_4 : decode cX7_row 4 = .ok (.ifCond .eq 21, 3) := by decide +kernel
theorem dX7_row_7 : decode cX7_row 7 = .ok (.iload_n 2, 1) := by decide +kernel
theorem dX7_row_8 : decode cX7_row 8 = .ok (.i2l, 1) := by decide +kernel
theorem dX7_row_9 : decode cX7_row 9 = .ok (.lconst 0, 1) := by decide +kernel
theorem dX7_row_10 : decode cX7_row 10 = .ok (.ldc2_w 71, 3) := by decide +kernel
theorem dX7_row_13 : decode cX7_row 13 = .ok (.invokestatic 63, 3) := by decide +kernel
theorem dX7_row_16 : decode cX7_row 16 = .ok (.ifCond .eq 9, 3) := by decide +kernel
theorem dX7_row_19 : decode cX7_row 19 = .ok (.iload_n 3, 1) := by decide +kernel
theorem dX7_row_20 : decode cX7_row 20 = .ok (.bipush 40, 2) := by decide +kernel
theorem dX7_row_22 : decode cX7_row 22 = .ok (.if_icmp .le 6, 3) := by decide +kernel
theorem dX7_row_25 : decode cX7_row 25 = .ok (.ldc 73, 2) := by decide +kernel
theorem dX7_row_27 : decode cX7_row 27 = .ok (.ireturn, 1) := by decide +kernel
theorem dX7_row_28 : decode cX7_row 28 = .ok (.iload_n 3, 1) := by decide +kernel
theorem dX7_row_29 : decode cX7_row 29 = .ok (.ifCond .ge 9, 3) := by decide +kernel
theorem dX7_row_32 : decode cX7_row 32 = .ok (.aload_n 0, 1) := by decide +kernel
theorem dX7_row_33 : decode cX7_row 33 = .ok (.iconst 4, 1) := by decide +kernel
theorem dX7_row_34 : decode cX7_row 34 = .ok (.invokevirtual 74, 3) := by decide +kernel
theorem dX7_row_37 : decode cX7_row 37 = .ok (.ireturn, 1) := by decide +kernel
theorem dX7_row_38 : decode cX7_row 38 = .ok (.aload_n 0, 1) := by decide +kernel
theorem dX7_row_39 : decode cX7_row 39 = .ok (.getfield 7, 3) := by decide +kernel
theorem dX7_row_42 : decode cX7_row 42 = .ok (.iload_n 1, 1) := by decide +kernel
theorem dX7_row_43 : decode cX7_row 43 = .ok (.iload_n 2, 1) := by decide +kernel
theorem dX7_row_44 : decode cX7_row 44 = .ok (.iastore, 1) := by decide +kernel
theorem dX7_row_45 : decode cX7_row 45 = .ok (.aload_n 0, 1) := by decide +kernel
theorem dX7_row_46 : decode cX7_row 46 = .ok (.getfield 13, 3) := by decide +kernel
theorem dX7_row_49 : decode cX7_row 49 = .ok (.iload_n 1, 1) := by decide +kernel
theorem dX7_row_50 : decode cX7_row 50 = .ok (.iload_n 3, 1) := by decide +kernel
theorem dX7_row_51 : decode cX7_row 51 = .ok (.iastore, 1) := by decide +kernel
theorem dX7_row_52 : decode cX7_row 52 = .ok (.iconst 0, 1) := by decide +kernel
theorem dX7_row_53 : decode cX7_row 53 = .ok (.istore 4, 2) := by decide +kernel
theorem dX7_row_55 : decode cX7_row 55 = .ok (.iload 4, 2) := by decide +kernel
theorem dX7_row_57 : decode cX7_row 57 = .ok (.bipush 40, 2) := by decide +kernel
theorem dX7_row_59 : decode cX7_row 59 = .ok (.if_icmp .ge 22, 3) := by decide +kernel
theorem dX7_row_62 : decode cX7_row 62 = .ok (.aload_n 0, 1) := by decide +kernel
theorem dX7_row_63 : decode cX7_row 63 = .ok (.getfield 16, 3) := by decide +kernel
theorem dX7_row_66 : decode cX7_row 66 = .ok (.bipush 40, 2) := by decide +kernel
theorem dX7_row_68 : decode cX7_row 68 = .ok (.iload_n 1, 1) := by decide +kernel
theorem dX7_row_69 : decode cX7_row 69 = .ok (.imul, 1) := by decide +kernel
theorem dX7_row_70 : decode cX7_row 70 = .ok (.iload 4, 2) := by decide +kernel
theorem dX7_row_72 : decode cX7_row 72 = .ok (.iadd, 1) := by decide +kernel
theorem dX7_row_73 : decode cX7_row 73 = .ok (.iconst 0, 1) := by decide +kernel
theorem dX7_row_74 : decode cX7_row 74 = .ok (.iastore, 1) := by decide +kernel
theorem dX7_row_75 : decode cX7_row 75 = .ok (.iinc 4 1, 3) := by decide +kernel
theorem dX7_row_78 : decode cX7_row 78 = .ok (.goto (-23), 3) := by decide +kernel
theorem dX7_row_81 : decode cX7_row 81 = .ok (.aload_n 0, 1) := by decide +kernel
theorem dX7_row_82 : decode cX7_row 82 = .ok (.iload_n 3, 1) := by decide +kernel
theorem dX7_row_83 : decode cX7_row 83 = .ok (.invokevirtual 78, 3) := by decide +kernel
theorem dX7_row_86 : decode cX7_row 86 = .ok (.ireturn, 1) := by decide +kernel
set_option maxRecDepth 100000 in
set_option maxHeartbeats 4000000 in
theorem X7_row_b55_ok (G : Gt) (o : Nat) (ho : kd o = 7)    : ∀ (n : Nat) (x1 : Int32) (x3 : Int32) (x4 : Int32) (mem : Mem), EvR tvI G cX7_row 5 (some .int) RX7 3 55 [(0, .ref (gA G o)), (1, .int (x1)), (3, .int (x3)), (4, .int (x4))] [] mem (X7_row_b55 o n x1 x3 x4 mem) := by
  intro n
  induction n with
  | zero => intros; exact ev_none
  | succ n ih =>
    intro x1 x3 x4 mem
    rw [X7_row_b55]
    refine ev_iload (q := 57) dX7_row_55 3 rfl rfl ?_
    refine ev_bipush (q := 59) (v := 40) dX7_row_57 rfl lb_40 ?_
    refine ev_icmp_ge (t := 81) (q := 62) dX7_row_59 rfl rfl (fun hc13 => ?_) (fun hc13 => ?_)
    · refine ev_aload_n (q := 63) dX7_row_62 rfl 0 rfl rfl ?_
      refine ev_getR (q := 66) (ci := 7) (j := 2) (T := TX7) dX7_row_63 rfl cf_7 ho hj_7_2 hc_7 gf_X7_16 rfl ?_
      refine ev_bipush (q := 68) (v := 40) dX7_row_66 rfl lb_40 ?_
      refine ev_iload_n (q := 69) dX7_row_68 rfl 1 rfl rfl ?_
      refine ev_imul (q := 70) dX7_row_69 rfl ?_
      refine ev_iload (q := 72) dX7_row_70 3 rfl rfl ?_
      refine ev_iadd (q := 73) dX7_row_72 rfl ?_
      refine ev_iconst (q := 74) (v := 0) dX7_row_73 rfl li_0 ?_
      refine ev_iast (q := 75) dX7_row_74 rfl (kr_7_2 ho) (fun m16 => ?_)
      refine ev_iinc (q := 78) (lv2 := [(4, .int _), (0, .ref _), (1, .int _), (3, .int _)]) (v := x4 + 1) dX7_row_75 3 rfl rfl (congrArg (HAdd.hAdd _) li_1) (Nat.le_of_ble_eq_true rfl) rfl ?_
      refine ev_goto (t := 55) dX7_row_78 rfl ?_
      refine ev_sub (lv' := [(0, .ref _), (1, .int _), (3, .int _), (4, .int _)]) [1, 2, 3, 0] rfl ?_
      exact ih _ _ _ _
    · refine ev_aload_n (q := 82) dX7_row_81 rfl 0 rfl rfl ?_
      refine ev_iload_n (q := 83) dX7_row_82 rfl 2 rfl rfl ?_
      refine ev_callVI (q := 86) dX7_row_83 rfl ml_X7_78 mt_X7_tells cf_7 rfl ho hc_7 (con_X7_tells G _ _ ho _) rfl (Nat.le_of_ble_eq_true rfl) (Nat.le_of_ble_eq_true rfl) rfl (Nat.le_of_ble_eq_true rfl) (fun r14 m15 => ?_)
      exact ev_iret dX7_row_86 rfl
set_option maxRecDepth 100000 in
set_option maxHeartbeats 4000000 in
theorem con_X7_row (G : Gt) (o : Nat) (a1 : Int32) (a2 : Int32) (a3 : Int32) (ho : kd o = 7) (mem : Mem) : Con tvI G yX7_row cX7_row 5 (some .int) 3 [.ref (gA G o), .int a1, .int a2, .int a3] mem (X7_row o a1 a2 a3 mem) := by
  refine con_of (by decide) (Nat.le_of_ble_eq_true rfl) ?_
  show EvR tvI G cX7_row 5 (some .int) RX7 3 0 [(0, .ref (gA G o)), (1, .int (a1)), (2, .int (a2)), (3, .int (a3))] [] mem _
  unfold X7_row
  refine ev_iload_n (q := 1) dX7_row_0 rfl 1 rfl rfl ?_
  refine ev_callSI (q := 4) dX7_row_1 rfl ml_X7_67 mt_X7_isRow (con_X7_isRow G _  _) rfl (Nat.le_of_ble_eq_true rfl) (Nat.le_of_ble_eq_true rfl) rfl (Nat.le_of_ble_eq_true rfl) (fun r1 m2 => ?_)
  refine ev_if_eq (t := 25) (q := 7) dX7_row_4 rfl rfl (fun hc3 => ?_) (fun hc3 => ?_)
  · refine ev_ldc (q := 27) (v := (-1000001)) dX7_row_25 rfl kc_X7_73 ?_
    exact ev_iret dX7_row_27 rfl
  · refine ev_iload_n (q := 8) dX7_row_7 rfl 2 rfl rfl ?_
    refine ev_i2l (q := 9) dX7_row_8 rfl ?_
    refine ev_lconst (q := 10) (v := 0) dX7_row_9 rfl ll_0 ?_
    refine ev_ldc2 (q := 13) (v := 2) dX7_row_10 rfl kc_X7_71 ?_
    refine ev_callSI (q := 16) dX7_row_13 rfl ml_X7_63 mt_X7_in (con_X7_in G _ _ _  _) rfl (Nat.le_of_ble_eq_true rfl) (Nat.le_of_ble_eq_true rfl) rfl (Nat.le_of_ble_eq_true rfl) (fun r4 m5 => ?_)
    refine ev_if_eq (t := 25) (q := 19) dX7_row_16 rfl rfl (fun hc6 => ?_) (fun hc6 => ?_)
    · refine ev_ldc (q := 27) (v := (-1000001)) dX7_row_25 rfl kc_X7_73 ?_
      exact ev_iret dX7_row_27 rfl
    · refine ev_iload_n (q := 20) dX7_row_19 rfl 3 rfl rfl ?_
      refine ev_bipush (q := 22) (v := 40) dX7_row_20 rfl lb_40 ?_
      refine ev_icmp_le (t := 28) (q := 25) dX7_row_22 rfl rfl (fun hc7 => ?_) (fun hc7 => ?_)
      · refine ev_ldc (q := 27) (v := (-1000001)) dX7_row_25 rfl kc_X7_73 ?_
        exact ev_iret dX7_row_27 rfl
      · refine ev_iload_n (q := 29) dX7_row_28 rfl 3 rfl rfl ?_
        refine ev_if_ge (t := 38) (q := 32) dX7_row_29 rfl rfl (fun hc8 => ?_) (fun hc8 => ?_)
        · refine ev_aload_n (q := 33) dX7_row_32 rfl 0 rfl rfl ?_
          refine ev_iconst (q := 34) (v := 4) dX7_row_33 rfl li_4 ?_
          refine ev_callVI (q := 37) dX7_row_34 rfl ml_X7_74 mt_X7_finds cf_7 rfl ho hc_7 (con_X7_finds G _ _ ho _) rfl (Nat.le_of_ble_eq_true rfl) (Nat.le_of_ble_eq_true rfl) rfl (Nat.le_of_ble_eq_true rfl) (fun r11 m12 => ?_)
          exact ev_iret dX7_row_37 rfl
        · refine ev_aload_n (q := 39) dX7_row_38 rfl 0 rfl rfl ?_
          refine ev_getR (q := 42) (ci := 7) (j := 0) (T := TX7) dX7_row_39 rfl cf_7 ho hj_7_0 hc_7 gf_X7_7 rfl ?_
          refine ev_iload_n (q := 43) dX7_row_42 rfl 1 rfl rfl ?_
          refine ev_iload_n (q := 44) dX7_row_43 rfl 2 rfl rfl ?_
          refine ev_iast (q := 45) dX7_row_44 rfl (kr_7_0 ho) (fun m9 => ?_)
          refine ev_aload_n (q := 46) dX7_row_45 rfl 0 rfl rfl ?_
          refine ev_getR (q := 49) (ci := 7) (j := 1) (T := TX7) dX7_row_46 rfl cf_7 ho hj_7_1 hc_7 gf_X7_13 rfl ?_
          refine ev_iload_n (q := 50) dX7_row_49 rfl 1 rfl rfl ?_
          refine ev_iload_n (q := 51) dX7_row_50 rfl 3 rfl rfl ?_
          refine ev_iast (q := 52) dX7_row_51 rfl (kr_7_1 ho) (fun m10 => ?_)
          refine ev_iconst (q := 53) (v := 0) dX7_row_52 rfl li_0 ?_
          refine ev_istore (q := 55) (lv2 := [(4, .int _), (0, .ref _), (1, .int _), (2, .int _), (3, .int _)]) dX7_row_53 rfl (Nat.le_of_ble_eq_true rfl) rfl ?_
          refine ev_sub (lv' := [(0, .ref _), (1, .int _), (3, .int _), (4, .int _)]) [1, 2, 4, 0] rfl ?_
          exact X7_row_b55_ok G o ho   fu _ _ _ _
/-! AgingLettersModel.cutTo(II)I -/
theorem dX7_cutTo_0 : decode cX7_cutTo 0 = .ok (.iload_n 0, 1) := by decide +kernel
theorem dX7_cutTo_1 : decode cX7_cutTo 1 = .ok (.ifCond .ne 13, 3) := by decide +kernel
theorem dX7_cutTo_4 : decode cX7_cutTo 4 = .ok (.iload_n 1, 1) := by decide +kernel
theorem dX7_cutTo_5 : decode cX7_cutTo 5 = .ok (.bipush 24, 2) := by decide +kernel
theorem dX7_cutTo_7 : decode cX7_cutTo 7 = .ok (.ishl, 1) := by decide +kernel
theorem dX7_cutTo_8 : decode cX7_cutTo 8 = .ok (.bipush 24, 2) := by decide +kernel
theorem dX7_cutTo_10 : decode cX7_cutTo 10 = .ok (.ishr, 1) := by decide +kernel
theorem dX7_cutTo_11 : decode cX7_cutTo 11 = .ok (.goto 19, 3) := by decide +kernel
theorem dX7_cutTo_14 : decode cX7_cutTo 14 = .ok (.iload_n 0, 1) := by decide +kernel
theorem dX7_cutTo_15 : decode cX7_cutTo 15 = .ok (.iconst 1, 1) := by decide +kernel
theorem dX7_cutTo_16 : decode cX7_cutTo 16 = .ok (.if_icmp .ne 13, 3) := by decide +kernel
theorem dX7_cutTo_19 : decode cX7_cutTo 19 = .ok (.iload_n 1, 1) := by decide +kernel
theorem dX7_cutTo_20 : decode cX7_cutTo 20 = .ok (.bipush 16, 2) := by decide +kernel
theorem dX7_cutTo_22 : decode cX7_cutTo 22 = .ok (.ishl, 1) := by decide +kernel
theorem dX7_cutTo_23 : decode cX7_cutTo 23 = .ok (.bipush 16, 2) := by decide +kernel
theorem dX7_cutTo_25 : decode cX7_cutTo 25 = .ok (.ishr, 1) := by decide +kernel
theorem dX7_cutTo_26 : decode cX7_cutTo 26 = .ok (.goto 4, 3) := by decide +kernel
theorem dX7_cutTo_29 : decode cX7_cutTo 29 = .ok (.iload_n 1, 1) := by decide +kernel
theorem dX7_cutTo_30 : decode cX7_cutTo 30 = .ok (.ireturn, 1) := by decide +kernel
set_option maxRecDepth 100000 in
set_option maxHeartbeats 4000000 in
theorem con_X7_cutTo (G : Gt) (a0 : Int32) (a1 : Int32)  (mem : Mem) : Con tvI G yX7_cutTo cX7_cutTo 2 (some .int) 1 [.int a0, .int a1] mem (X7_cutTo a0 a1 mem) := by
  refine con_of (by decide) (Nat.le_of_ble_eq_true rfl) ?_
  show EvR tvI G cX7_cutTo 2 (some .int) RX7 1 0 [(0, .int (a0)), (1, .int (a1))] [] mem _
  unfold X7_cutTo
  refine ev_iload_n (q := 1) dX7_cutTo_0 rfl 0 rfl rfl ?_
  refine ev_if_ne (t := 14) (q := 4) dX7_cutTo_1 rfl rfl (fun hc1 => ?_) (fun hc1 => ?_)
  · refine ev_iload_n (q := 5) dX7_cutTo_4 rfl 1 rfl rfl ?_
    refine ev_bipush (q := 7) (v := 24) dX7_cutTo_5 rfl lb_24 ?_
    refine ev_ishl (q := 8) dX7_cutTo_7 rfl ?_
    refine ev_bipush (q := 10) (v := 24) dX7_cutTo_8 rfl lb_24 ?_
    refine ev_ishr (q := 11) dX7_cutTo_10 rfl ?_
    refine ev_goto (t := 30) dX7_cutTo_11 rfl ?_
    exact ev_iret dX7_cutTo_30 rfl
  · refine ev_iload_n (q := 15) dX7_cutTo_14 rfl 0 rfl rfl ?_
    refine ev_iconst (q := 16) (v := 1) dX7_cutTo_15 rfl li_1 ?_
    refine ev_icmp_ne (t := 29) (q := 19) dX7_cutTo_16 rfl rfl (fun hc2 => ?_) (fun hc2 => ?_)
    · refine ev_iload_n (q := 20) dX7_cutTo_19 rfl 1 rfl rfl ?_
      refine ev_bipush (q := 22) (v := 16) dX7_cutTo_20 rfl lb_16 ?_
      refine ev_ishl (q := 23) dX7_cutTo_22 rfl ?_
      refine ev_bipush (q := 25) (v := 16) dX7_cutTo_23 rfl lb_16 ?_
      refine ev_ishr (q := 26) dX7_cutTo_25 rfl ?_
      refine ev_goto (t := 30) dX7_cutTo_26 rfl ?_
      exact ev_iret dX7_cutTo_30 rfl
    · refine ev_iload_n (q := 30) dX7_cutTo_29 rfl 1 rfl rfl ?_
      exact ev_iret dX7_cutTo_30 rfl
/-! AgingLettersModel.set(III)I -/
theorem dX7_set_0 : decode cX7_set 0 = .ok (.iload_n 1, 1) := by decide +kernel
theorem dX7_set_1 : decode cX7_set 1 = .ok (.invokestatic 67, 3) := by decide +kernel
theorem dX7_set_4 : decode cX7_set 4 = .ok (.ifCond .ne 6, 3) := by decide +kernel
theorem dX7_set_7 : decode cX7_set 7 = .ok (.ldc 73, 2) := by decide +kernel
theorem dX7_set_9 : decode cX7_set 9 = .ok (.ireturn, 1) := by decide +kernel
theorem dX7_set_10 : decode cX7_set 10 = .ok (.aload_n 0, 1) := by decide +kernel
theorem dX7_set_11 : decode cX7_set 11 = .ok (.getfield 13, 3) := by decide +kernel
theorem dX7_set_14 : decode cX7_set 14 = .ok (.iload_n 1, 1) := by decide +kernel
theorem dX7_set_15 : decode cX7_set 15 = .ok (.iaload, 1) := by decide +kernel
theorem dX7_set_16 : decode cX7_set 16 = .ok (.ifCond .ge 9, 3) := by decide +kernel
theorem dX7_set_19 : decode cX7_set 19 = .ok (.aload_n 0, 1) := by decide +kernel
theorem dX7_set_20 : decode cX7_set 20 = .ok (.iconst 1, 1) := by decide +kernel
theorem dX7_set_21 : decode cX7_set 21 = .ok (.invokevirtual 74, 3) := by decide +kernel
theorem dX7_set_24 : decode cX7_set 24 = .ok (.ireturn, 1) := by decide +kernel
theorem dX7_set_25 : decode cX7_set 25 = .ok (.iload_n 2, 1) := by decide +kernel
theorem dX7_set_26 : decode cX7_set 26 = .ok (.i2l, 1) := by decide +kernel
theorem dX7_set_27 : decode cX7_set 27 = .ok (.lconst 0, 1) := by decide +kernel
theorem dX7_set_28 : decode cX7_set 28 = .ok (.aload_n 0, 1) := by decide +kernel
theorem dX7_set_29 : decode cX7_set 29 = .ok (.getfield 13, 3) := by decide +kernel
theorem dX7_set_32 : decode cX7_set 32 = .ok (.iload_n 1, 1) := by decide +kernel
theorem dX7_set_33 : decode cX7_set 33 = .ok (.iaload, 1) := by decide +kernel
theorem dX7_set_34 : decode cX7_set 34 = .ok (.iconst 1, 1) := by decide +kernel
theorem dX7_set_35 : decode cX7_set 35 = .ok (.isub, 1) := by decide +kernel
theorem dX7_set_36 : decode cX7_set 36 = .ok (.i2l, 1) := by decide +kernel
theorem dX7_set_37 : decode cX7_set 37 = .ok (.invokestatic 63, 3) := by decide +kernel
theorem dX7_set_40 : decode cX7_set 40 = .ok (.ifCond .ne 9, 3) := by decide +kernel
theorem dX7_set_43 : decode cX7_set 43 = .ok (.aload_n 0, 1) := by decide +kernel
theorem dX7_set_44 : decode cX7_set 44 = .ok (.iconst 2, 1) := by decide +kernel
theorem dX7_set_45 : decode cX7_set 45 = .ok (.invokevirtual 74, 3) := by decide +kernel
theorem dX7_set_48 : decode cX7_set 48 = .ok (.ireturn, 1) := by decide +kernel
theorem dX7_set_49 : decode cX7_set 49 = .ok (.aload_n 0, 1) := by decide +kernel
theorem dX7_set_50 : decode cX7_set 50 = .ok (.getfield 16, 3) := by decide +kernel
theorem dX7_set_53 : decode cX7_set 53 = .ok (.bipush 40, 2) := by decide +kernel
theorem dX7_set_55 : decode cX7_set 55 = .ok (.iload_n 1, 1) := by decide +kernel
theorem dX7_set_56 : decode cX7_set 56 = .ok (.imul, 1) := by decide +kernel
theorem dX7_set_57 : decode cX7_set 57 = .ok (.iload_n 2, 1) := by decide +kernel
theorem dX7_set_58 : decode cX7_set 58 = .ok (.iadd, 1) := by decide +kernel
theorem dX7_set_59 : decode cX7_set 59 = .ok (.aload_n 0, 1) := by decide +kernel
theorem dX7_set_60 : decode cX7_set 60 = .ok (.getfield 7, 3) := by decide +kernel
theorem dX7_set_63 : decode cX7_set 63 = .ok (.iload_n 1, 1) := by decide +kernel
theorem dX7_set_64 : decode cX7_set 64 = .ok (.iaload, 1) := by decide +kernel
theorem dX7_set_65 : decode cX7_set 65 = .ok (.iload_n 3, 1) := by decide +kernel
theorem dX7_set_66 : decode cX7_set 66 = .ok (.invokestatic 81, 3) := by decide +kernel
theorem dX7_set_69 : decode cX7_set 69 = .ok (.iastore, 1) := by decide +kernel
theorem dX7_set_70 : decode cX7_set 70 = .ok (.aload_n 0, 1) := by decide +kernel
theorem dX7_set_71 : decode cX7_set 71 = .ok (.aload_n 0, 1) := by decide +kernel
theorem dX7_set_72 : decode cX7_set 72 = .ok (.getfield 16, 3) := by decide +kernel
theorem dX7_set_75 : decode cX7_set 75 = .ok (.bipush 40, 2) := by decide +kernel
theorem dX7_set_77 : decode cX7_set 77 = .ok (.iload_n 1, 1) := by decide +kernel
theorem dX7_set_78 : decode cX7_set 78 = .ok (.imul, 1) := by decide +kernel
theorem dX7_set_79 : decode cX7_set 79 = .ok (.iload_n 2, 1) := by decide +kernel
theorem dX7_set_80 : decode cX7_set 80 = .ok (.iadd, 1) := by decide +kernel
theorem dX7_set_81 : decode cX7_set 81 = .ok (.iaload, 1) := by decide +kernel
theorem dX7_set_82 : decode cX7_set 82 = .ok (.invokevirtual 78, 3) := by decide +kernel
theorem dX7_set_85 : decode cX7_set 85 = .ok (.ireturn, 1) := by decide +kernel
set_option maxRecDepth 100000 in
set_option maxHeartbeats 4000000 in
theorem con_X7_set (G : Gt) (o : Nat) (a1 : Int32) (a2 : Int32) (a3 : Int32) (ho : kd o = 7) (mem : Mem) : Con tvI G yX7_set cX7_set 4 (some .int) 3 [.ref (gA G o), .int a1, .int a2, .int a3] mem (X7_set o a1 a2 a3 mem) := by
  refine con_of (by decide) (Nat.le_of_ble_eq_true rfl) ?_
  show EvR tvI G cX7_set 4 (some .int) RX7 3 0 [(0, .ref (gA G o)), (1, .int (a1)), (2, .int (a2)), (3, .int (a3))] [] mem _
  unfold X7_set
  refine ev_iload_n (q := 1) dX7_set_0 rfl 1 rfl rfl ?_
  refine ev_callSI (q := 4) dX7_set_1 rfl ml_X7_67 mt_X7_isRow (con_X7_isRow G _  _) rfl (Nat.le_of_ble_eq_true rfl) (Nat.le_of_ble_eq_true rfl) rfl (Nat.le_of_ble_eq_true rfl) (fun r1 m2 => ?_)
  refine ev_if_ne (t := 10) (q := 7) dX7_set_4 rfl rfl (fun hc3 => ?_) (fun hc3 => ?_)
  · refine ev_ldc (q := 9) (v := (-1000001)) dX7_set_7 rfl kc_X7_73 ?_
    exact ev_iret dX7_set_9 rfl
  · refine ev_aload_n (q := 11) dX7_set_10 rfl 0 rfl rfl ?_
    refine ev_getR (q := 14) (ci := 7) (j := 1) (T := TX7) dX7_set_11 rfl cf_7 ho hj_7_1 hc_7 gf_X7_13 rfl ?_
    refine ev_iload_n (q := 15) dX7_set_14 rfl 1 rfl rfl ?_
    refine ev_iald (q := 16) dX7_set_15 rfl (kr_7_1 ho) (fun z4 => ?_)
    refine ev_if_ge (t := 25) (q := 19) dX7_set_16 rfl rfl (fun hc5 => ?_) (fun hc5 => ?_)
    · refine ev_aload_n (q := 20) dX7_set_19 rfl 0 rfl rfl ?_
      refine ev_iconst (q := 21) (v := 1) dX7_set_20 rfl li_1 ?_
      refine ev_callVI (q := 24) dX7_set_21 rfl ml_X7_74 mt_X7_finds cf_7 rfl ho hc_7 (con_X7_finds G _ _ ho _) rfl (Nat.le_of_ble_eq_true rfl) (Nat.le_of_ble_eq_true rfl) rfl (Nat.le_of_ble_eq_true rfl) (fun r19 m20 => ?_)
      exact ev_iret dX7_set_24 rfl
    · refine ev_iload_n (q := 26) dX7_set_25 rfl 2 rfl rfl ?_
      refine ev_i2l (q := 27) dX7_set_26 rfl ?_
      refine ev_lconst (q := 28) (v := 0) dX7_set_27 rfl ll_0 ?_
      refine ev_aload_n (q := 29) dX7_set_28 rfl 0 rfl rfl ?_
      refine ev_getR (q := 32) (ci := 7) (j := 1) (T := TX7) dX7_set_29 rfl cf_7 ho hj_7_1 hc_7 gf_X7_13 rfl ?_
      refine ev_iload_n (q := 33) dX7_set_32 rfl 1 rfl rfl ?_
      refine ev_iald (q := 34) dX7_set_33 rfl (kr_7_1 ho) (fun z6 => ?_)
      refine ev_iconst (q := 35) (v := 1) dX7_set_34 rfl li_1 ?_
      refine ev_isub (q := 36) dX7_set_35 rfl ?_
      refine ev_i2l (q := 37) dX7_set_36 rfl ?_
      refine ev_callSI (q := 40) dX7_set_37 rfl ml_X7_63 mt_X7_in (con_X7_in G _ _ _  _) rfl (Nat.le_of_ble_eq_true rfl) (Nat.le_of_ble_eq_true rfl) rfl (Nat.le_of_ble_eq_true rfl) (fun r7 m8 => ?_)
      refine ev_if_ne (t := 49) (q := 43) dX7_set_40 rfl rfl (fun hc9 => ?_) (fun hc9 => ?_)
      · refine ev_aload_n (q := 44) dX7_set_43 rfl 0 rfl rfl ?_
        refine ev_iconst (q := 45) (v := 2) dX7_set_44 rfl li_2 ?_
        refine ev_callVI (q := 48) dX7_set_45 rfl ml_X7_74 mt_X7_finds cf_7 rfl ho hc_7 (con_X7_finds G _ _ ho _) rfl (Nat.le_of_ble_eq_true rfl) (Nat.le_of_ble_eq_true rfl) rfl (Nat.le_of_ble_eq_true rfl) (fun r17 m18 => ?_)
        exact ev_iret dX7_set_48 rfl
      · refine ev_aload_n (q := 50) dX7_set_49 rfl 0 rfl rfl ?_
        refine ev_getR (q := 53) (ci := 7) (j := 2) (T := TX7) dX7_set_50 rfl cf_7 ho hj_7_2 hc_7 gf_X7_16 rfl ?_
        refine ev_bipush (q := 55) (v := 40) dX7_set_53 rfl lb_40 ?_
        refine ev_iload_n (q := 56) dX7_set_55 rfl 1 rfl rfl ?_
        refine ev_imul (q := 57) dX7_set_56 rfl ?_
        refine ev_iload_n (q := 58) dX7_set_57 rfl 2 rfl rfl ?_
        refine ev_iadd (q := 59) dX7_set_58 rfl ?_
        refine ev_aload_n (q := 60) dX7_set_59 rfl 0 rfl rfl ?_
        refine ev_getR (q := 63) (ci := 7) (j := 0) (T := TX7) dX7_set_60 rfl cf_7 ho hj_7_0 hc_7 gf_X7_7 rfl ?_
        refine ev_iload_n (q := 64) dX7_set_63 rfl 1 rfl rfl ?_
        refine ev_iald (q := 65) dX7_set_64 rfl (kr_7_0 ho) (fun z10 => ?_)
        refine ev_iload_n (q := 66) dX7_set_65 rfl 3 rfl rfl ?_
        refine ev_callSI (q := 69) dX7_set_66 rfl ml_X7_81 mt_X7_cutTo (con_X7_cutTo G _ _  _) rfl (Nat.le_of_ble_eq_true rfl) (Nat.le_of_ble_eq_true rfl) rfl (Nat.le_of_ble_eq_true rfl) (fun r11 m12 => ?_)
        refine ev_iast (q := 70) dX7_set_69 rfl (kr_7_2 ho) (fun m13 => ?_)
        refine ev_aload_n (q := 71) dX7_set_70 rfl 0 rfl rfl ?_
        refine ev_aload_n (q := 72) dX7_set_71 rfl 0 rfl rfl ?_
        refine ev_getR (q := 75) (ci := 7) (j := 2) (T := TX7) dX7_set_72 rfl cf_7 ho hj_7_2 hc_7 gf_X7_16 rfl ?_
        refine ev_bipush (q := 77) (v := 40) dX7_set_75 rfl lb_40 ?_
        refine ev_iload_n (q := 78) dX7_set_77 rfl 1 rfl rfl ?_
        refine ev_imul (q := 79) dX7_set_78 rfl ?_
        refine ev_iload_n (q := 80) dX7_set_79 rfl 2 rfl rfl ?_
        refine ev_iadd (q := 81) dX7_set_80 rfl ?_
        refine ev_iald (q := 82) dX7_set_81 rfl (kr_7_2 ho) (fun z14 => ?_)
        refine ev_callVI (q := 85) dX7_set_82 rfl ml_X7_78 mt_X7_tells cf_7 rfl ho hc_7 (con_X7_tells G _ _ ho _) rfl (Nat.le_of_ble_eq_true rfl) (Nat.le_of_ble_eq_true rfl) rfl (Nat.le_of_ble_eq_true rfl) (fun r15 m16 => ?_)
        exact ev_iret dX7_set_85 rfl
/-! AgingLettersModel.copy(IIIII)I -/
theorem dX7_copy_0 : decode cX7_copy 0 = .ok (.iload_n 1, 1) := by decide +kernel
theorem dX7_copy_1 : decode cX7_copy 1 = .ok (.invokestatic 67, 3) := by decide +kernel
theorem dX7_copy_4 : decode cX7_copy 4 = .ok (.ifCond .eq 10, 3) := by decide +kernel
theorem dX7_copy_7 : decode cX7_copy 7 = .ok (.iload_n 3, 1) := by decide +kernel
theorem dX7_copy_8 : decode cX7_copy 8 = .ok (.invokestatic 67, 3) := by decide +kernel
theorem dX7_copy_11 : decode cX7_copy 11 = .ok (.ifCond .ne 6, 3) := by decide +kernel
theorem dX7_copy_14 : decode cX7_copy 14 = .ok (.ldc 73, 2) := by decide +kernel
theorem dX7_copy_16 : decode cX7_copy 16 = .ok (.ireturn, 1) := by decide +kernel
theorem dX7_copy_17 : decode cX7_copy 17 = .ok (.aload_n 0, 1) := by decide +kernel
theorem dX7_copy_18 : decode cX7_copy 18 = .ok (.getfield 13, 3) := by decide +kernel
theorem dX7_copy_21 : decode cX7_copy 21 = .ok (.iload_n 1, 1) := by decide +kernel
theorem dX7_copy_22 : decode cX7_copy 22 = .ok (.iaload, 1) := by decide +kernel
theorem dX7_copy_23 : decode cX7_copy 23 = .ok (.ifCond .lt 12, 3) := by decide +kernel
theorem dX7_copy_26 : decode cX7_copy 26 = .ok (.aload_n 0, 1) := by decide +kernel
theorem dX7_copy_27 : decode cX7_copy 27 = .ok (.getfield 13, 3) := by decide +kernel
theorem dX7_copy_30 : decode cX7_copy 30 = .ok (.iload_n 3, 1) := by decide +kernel
theorem dX7_copy_31 : decode cX7_copy 31 = .ok (.iaload, 1) := by decide +kernel
theorem dX7_copy_32 : decode cX7_copy 32 = .ok (.ifCond .ge 9, 3) := by decide +kernel
theorem dX7_copy_35 : decode cX7_copy 35 = .ok (.aload_n 0, 1) := by decide +kernel
theorem dX7_copy_36 : decode cX7_copy 36 = .ok (.iconst 1, 1) := by decide +kernel
theorem dX7_copy_37 : decode cX7_copy 37 = .ok (.invokevirtual 74, 3) := by decide +kernel
theorem dX7_copy_40 : decode cX7_copy 40 = .ok (.ireturn, 1) := by decide +kernel
theorem dX7_copy_41 : decode cX7_copy 41 = .ok (.aload_n 0, 1) := by decide +kernel
theorem dX7_copy_42 : decode cX7_copy 42 = .ok (.getfield 7, 3) := by decide +kernel
theorem dX7_copy_45 : decode cX7_copy 45 = .ok (.iload_n 1, 1) := by decide +kernel
theorem dX7_copy_46 : decode cX7_copy 46 = .ok (.iaload, 1) := by decide +kernel
theorem dX7_copy_47 : decode cX7_copy 47 = .ok (.aload_n 0, 1) := by decide +kernel
theorem dX7_copy_48 : decode cX7_copy 48 = .ok (.getfield 7, 3) := by decide +kernel
theorem dX7_copy_51 : decode cX7_copy 51 = .ok (.iload_n 3, 1) := by decide +kernel
theorem dX7_copy_52 : decode cX7_copy 52 = .ok (.iaload, 1) := by decide +kernel
theorem dX7_copy_53 : decode cX7_copy 53 = .ok (.if_icmp .eq 9, 3) := by decide +kernel
theorem dX7_copy_56 : decode cX7_copy 56 = .ok (.aload_n 0, 1) := by decide +kernel
theorem dX7_copy_57 : decode cX7_copy 57 = .ok (.iconst 5, 1) := by decide +kernel
theorem dX7_copy_58 : decode cX7_copy 58 = .ok (.invokevirtual 74, 3) := by decide +kernel
theorem dX7_copy_61 : decode cX7_copy 61 = .ok (.ireturn, 1) := by decide +kernel
theorem dX7_copy_62 : decode cX7_copy 62 = .ok (.iload 5, 2) := by decide +kernel
theorem dX7_copy_64 : decode cX7_copy 64 = .ok (.ifCond .lt 47, 3) := by decide +kernel
theorem dX7_copy_67 : decode cX7_copy 67 = .ok (.iload_n 2, 1) := by decide +kernel
theorem dX7_copy_68 : decode cX7_copy 68 = .ok (.ifCond .lt 43, 3) := by decide +kernel
theorem dX7_copy_71 : decode cX7_copy 71 = .ok (.iload 4, 2) := by decide +kernel
theorem dX7_copy_73 : decode cX7_copy 73 = .ok (.ifCond .lt 38, 3) := by decide +kernel
theorem dX7_copy_76 : decode cX7_copy 76 = .ok (.iload_n 2, 1) := by decide +kernel
theorem dX7_copy_77 : decode cX7_copy 77 = .ok (.i2l, 1) := by decide +kernel
theorem dX7_copy_78 : decode cX7_copy 78 = .ok (.iload 5, 2) := by decide +kernel
theorem dX7_copy_80 : decode cX7_copy 80 = .ok (.i2l, 1) := by decide +kernel
theorem dX7_copy_81 : decode cX7_copy 81 = .ok (.ladd, 1) := by decide +kernel
theorem dX7_copy_82 : decode cX7_copy 82 = .ok (.aload_n 0, 1) := by decide +kernel
theorem dX7_copy_83 : decode cX7_copy 83 = .ok (.getfield 13, 3) := by decide +kernel
theorem dX7_copy_86 : decode cX7_copy 86 = .ok (.iload_n 1, 1) := by decide +kernel
theorem dX7_copy_87 : decode cX7_copy 87 = .ok (.iaload, 1) := by decide +kernel
theorem dX7_copy_88 : decode cX7_copy 88 = .ok (.i2l, 1) := by decide +kernel
theorem dX7_copy_89 : decode cX7_copy 89 = .ok (.lcmp, 1) := by decide +kernel
theorem dX7_copy_90 : decode cX7_copy 90 = .ok (.ifCond .gt 21, 3) := by decide +kernel
theorem dX7_copy_93 : decode cX7_copy 93 = .ok (.iload 4, 2) := by decide +kernel
theorem dX7_copy_95 : decode cX7_copy 95 = .ok (.i2l, 1) := by decide +kernel
theorem dX7_copy_96 : decode cX7_copy 96 = .ok (.iload 5, 2) := by decide +kernel
theorem dX7_copy_98 : decode cX7_copy 98 = .ok (.i2l, 1) := by decide +kernel
theorem dX7_copy_99 : decode cX7_copy 99 = .ok (.ladd, 1) := by decide +kernel
theorem dX7_copy_100 : decode cX7_copy 100 = .ok (.aload_n 0, 1) := by decide +kernel
theorem dX7_copy_101 : decode cX7_copy 101 = .ok (.getfield 13, 3) := by decide +kernel
theorem dX7_copy_104 : decode cX7_copy 104 = .ok (.iload_n 3, 1) := by decide +kernel
theorem dX7_copy_105 : decode cX7_copy 105 = .ok (.iaload, 1) := by decide +kernel
theorem dX7_copy_106 : decode cX7_copy 106 = .ok (.i2l, 1) := by decide +kernel
theorem dX7_copy_107 : decode cX7_copy 107 = .ok (.lcmp, 1) := by decide +kernel
theorem dX7_copy_108 : decode cX7_copy 108 = .ok (.ifCond .le 9, 3) := by decide +kernel
theorem dX7_copy_111 : decode cX7_copy 111 = .ok (.aload_n 0, 1) := by decide +kernel
theorem dX7_copy_112 : decode cX7_copy 112 = .ok (.iconst 2, 1) := by decide +kernel
theorem dX7_copy_113 : decode cX7_copy 113 = .ok (.invokevirtual 74, 3) := by decide +kernel
theorem dX7_copy_116 : decode cX7_copy 116 = .ok (.ireturn, 1) := by decide +kernel
theorem dX7_copy_117 : decode cX7_copy 117 = .ok (.iconst 0, 1) := by decide +kernel
theorem dX7_copy_118 : decode cX7_copy 118 = .ok (.istore 6, 2) := by decide +kernel
theorem dX7_copy_120 : decode cX7_copy 120 = .ok (.iload 6, 2) := by decide +kernel
theorem dX7_copy_122 : decode cX7_copy 122 = .ok (.iload 5, 2) := by decide +kernel
theorem dX7_copy_124 : decode cX7_copy 124 = .ok (.if_icmp .ge 30, 3) := by decide +kernel
theorem dX7_copy_127 : decode cX7_copy 127 = .ok (.aload_n 0, 1) := by decide +kernel
theorem dX7_copy_128 : decode cX7_copy 128 = .ok (.getfield 19, 3) := by decide +kernel
theorem dX7_copy_131 : decode cX7_copy 131 = .ok (.iload 6, 2) := by decide +kernel
theorem dX7_copy_133 : decode cX7_copy 133 = .ok (.aload_n 0, 1) := by decide +kernel
theorem dX7_copy_134 : decode cX7_copy 134 = .ok (.getfield 16, 3) := by decide +kernel
theorem dX7_copy_137 : decode cX7_copy 137 = .ok (.bipush 40, 2) := by decide +kernel
theorem dX7_copy_139 : decode cX7_copy 139 = .ok (.iload_n 1, 1) := by decide +kernel
theorem dX7_copy_140 : decode cX7_copy 140 = .ok (.imul, 1) := by decide +kernel
theorem dX7_copy_141 : decode cX7_copy 141 = .ok (.iload_n 2, 1) := by decide +kernel
theorem dX7_copy_142 : decode cX7_copy 142 = .ok (.iadd, 1) := by decide +kernel
theorem dX7_copy_143 : decode cX7_copy 143 = .ok (.iload 6, 2) := by decide +kernel
theorem dX7_copy_145 : decode cX7_copy 145 = .ok (.iadd, 1) := by decide +kernel
theorem dX7_copy_146 : decode cX7_copy 146 = .ok (.iaload, 1) := by decide +kernel
theorem dX7_copy_147 : decode cX7_copy 147 = .ok (.iastore, 1) := by decide +kernel
theorem dX7_copy_148 : decode cX7_copy 148 = .ok (.iinc 6 1, 3) := by decide +kernel
theorem dX7_copy_151 : decode cX7_copy 151 = .ok (.goto (-31), 3) := by decide +kernel
theorem dX7_copy_154 : decode cX7_copy 154 = .ok (.iconst 0, 1) := by decide +kernel
theorem dX7_copy_155 : decode cX7_copy 155 = .ok (.istore 6, 2) := by decide +kernel
theorem dX7_copy_157 : decode cX7_copy 157 = .ok (.iload 6, 2) := by decide +kernel
theorem dX7_copy_159 : decode cX7_copy 159 = .ok (.iload 5, 2) := by decide +kernel
theorem dX7_copy_161 : decode cX7_copy 161 = .ok (.if_icmp .ge 31, 3) := by decide +kernel
theorem dX7_copy_164 : decode cX7_copy 164 = .ok (.aload_n 0, 1) := by decide +kernel
theorem dX7_copy_165 : decode cX7_copy 165 = .ok (.getfield 16, 3) := by decide +kernel
theorem dX7_copy_168 : decode cX7_copy 168 = .ok (.bipush 40, 2) := by decide +kernel
theorem dX7_copy_170 : decode cX7_copy 170 = .ok (.iload_n 3, 1) := by decide +kernel
theorem dX7_copy_171 : decode cX7_copy 171 = .ok (.imul, 1) := by decide +kernel
theorem dX7_copy_172 : decode cX7_copy 172 = .ok (.iload 4, 2) := by decide +kernel
theorem dX7_copy_174 : decode cX7_copy 174 = .ok (.iadd, 1) := by decide +kernel
theorem dX7_copy_175 : decode cX7_copy 175 = .ok (.iload 6, 2) := by decide +kernel
theorem dX7_copy_177 : decode cX7_copy 177 = .ok (.iadd, 1) := by decide +kernel
theorem dX7_copy_178 : decode cX7_copy 178 = .ok (.aload_n 0, 1) := by decide +kernel
theorem dX7_copy_179 : decode cX7_copy 179 = .ok (.getfield 19, 3) := by decide +kernel
theorem dX7_copy_182 : decode cX7_copy 182 = .ok (.iload 6, 2) := by decide +kernel
theorem dX7_copy_184 : decode cX7_copy 184 = .ok (.iaload, 1) := by decide +kernel
theorem dX7_copy_185 : decode cX7_copy 185 = .ok (.iastore, 1) := by decide +kernel
theorem dX7_copy_186 : decode cX7_copy 186 = .ok (.iinc 6 1, 3) := by decide +kernel
theorem dX7_copy_189 : decode cX7_copy 189 = .ok (.goto (-32), 3) := by decide +kernel
theorem dX7_copy_192 : decode cX7_copy 192 = .ok (.aload_n 0, 1) := by decide +kernel
theorem dX7_copy_193 : decode cX7_copy 193 = .ok (.iload 5, 2) := by decide +kernel
theorem dX7_copy_195 : decode cX7_copy 195 = .ok (.invokevirtual 78, 3) := by decide +kernel
theorem dX7_copy_198 : decode cX7_copy 198 = .ok (.ireturn, 1) := by decide +kernel
set_option maxRecDepth 100000 in
set_option maxHeartbeats 4000000 in
theorem X7_copy_b35_ok (G : Gt) (o : Nat) (ho : kd o = 7)     (mem : Mem) : EvR tvI G cX7_copy 7 (some .int) RX7 3 35 [(0, .ref (gA G o))] [] mem (X7_copy_b35 o  mem) := by
  unfold X7_copy_b35
  refine ev_aload_n (q := 36) dX7_copy_35 rfl 0 rfl rfl ?_
  refine ev_iconst (q := 37) (v := 1) dX7_copy_36 rfl li_1 ?_
  refine ev_callVI (q := 40) dX7_copy_37 rfl ml_X7_74 mt_X7_finds cf_7 rfl ho hc_7 (con_X7_finds G _ _ ho _) rfl (Nat.le_of_ble_eq_true rfl) (Nat.le_of_ble_eq_true rfl) rfl (Nat.le_of_ble_eq_true rfl) (fun r23 m24 => ?_)
  exact ev_iret dX7_copy_40 rfl
set_option maxRecDepth 100000 in
set_option maxHeartbeats 4000000 in
theorem X7_copy_b111_ok (G : Gt) (o : Nat) (ho : kd o = 7)     (mem : Mem) : EvR tvI G cX7_copy 7 (some .int) RX7 3 111 [(0, .ref (gA G o))] [] mem (X7_copy_b111 o  mem) := by
  unfold X7_copy_b111
  refine ev_aload_n (q := 112) dX7_copy_111 rfl 0 rfl rfl ?_
  refine ev_iconst (q := 113) (v := 2) dX7_copy_112 rfl li_2 ?_
  refine ev_callVI (q := 116) dX7_copy_113 rfl ml_X7_74 mt_X7_finds cf_7 rfl ho hc_7 (con_X7_finds G _ _ ho _) rfl (Nat.le_of_ble_eq_true rfl) (Nat.le_of_ble_eq_true rfl) rfl (Nat.le_of_ble_eq_true rfl) (fun r25 m26 => ?_)
  exact ev_iret dX7_copy_116 rfl
set_option maxRecDepth 100000 in
set_option maxHeartbeats 4000000 in
theorem X7_copy_b157_ok (G : Gt) (o : Nat) (ho : kd o = 7)    : ∀ (n : Nat) (x3 : Int32) (x4 : Int32) (x5 : Int32) (x6 : Int32) (mem : Mem), EvR tvI G cX7_copy 7 (some .int) RX7 3 157 [(0, .ref (gA G o)), (3, .int (x3)), (4, .int (x4)), (5, .int (x5)), (6, .int (x6))] [] mem (X7_copy_b157 o n x3 x4 x5 x6 mem) := by
  intro n
  induction n with
  | zero => intros; exact ev_none
  | succ n ih =>
    intro x3 x4 x5 x6 mem
    rw [X7_copy_b157]
    refine ev_iload (q := 159) dX7_copy_157 4 rfl rfl ?_
    refine ev_iload (q := 161) dX7_copy_159 3 rfl rfl ?_
    refine ev_icmp_ge (t := 192) (q := 164) dX7_copy_161 rfl rfl (fun hc30 => ?_) (fun hc30 => ?_)
    · refine ev_aload_n (q := 165) dX7_copy_164 rfl 0 rfl rfl ?_
      refine ev_getR (q := 168) (ci := 7) (j := 2) (T := TX7) dX7_copy_165 rfl cf_7 ho hj_7_2 hc_7 gf_X7_16 rfl ?_
      refine ev_bipush (q := 170) (v := 40) dX7_copy_168 rfl lb_40 ?_
      refine ev_iload_n (q := 171) dX7_copy_170 rfl 1 rfl rfl ?_
      refine ev_imul (q := 172) dX7_copy_171 rfl ?_
      refine ev_iload (q := 174) dX7_copy_172 2 rfl rfl ?_
      refine ev_iadd (q := 175) dX7_copy_174 rfl ?_
      refine ev_iload (q := 177) dX7_copy_175 4 rfl rfl ?_
      refine ev_iadd (q := 178) dX7_copy_177 rfl ?_
      refine ev_aload_n (q := 179) dX7_copy_178 rfl 0 rfl rfl ?_
      refine ev_getR (q := 182) (ci := 7) (j := 4) (T := TX7) dX7_copy_179 rfl cf_7 ho hj_7_4 hc_7 gf_X7_19 rfl ?_
      refine ev_iload (q := 184) dX7_copy_182 4 rfl rfl ?_
      refine ev_iald (q := 185) dX7_copy_184 rfl (kr_7_4 ho) (fun z33 => ?_)
      refine ev_iast (q := 186) dX7_copy_185 rfl (kr_7_2 ho) (fun m34 => ?_)
      refine ev_iinc (q := 189) (lv2 := [(6, .int _), (0, .ref _), (3, .int _), (4, .int _), (5, .int _)]) (v := x6 + 1) dX7_copy_186 4 rfl rfl (congrArg (HAdd.hAdd _) li_1) (Nat.le_of_ble_eq_true rfl) rfl ?_
      refine ev_goto (t := 157) dX7_copy_189 rfl ?_
      refine ev_sub (lv' := [(0, .ref _), (3, .int _), (4, .int _), (5, .int _), (6, .int _)]) [1, 2, 3, 4, 0] rfl ?_
      exact ih _ _ _ _ _
    · refine ev_aload_n (q := 193) dX7_copy_192 rfl 0 rfl rfl ?_
      refine ev_iload (q := 195) dX7_copy_193 3 rfl rfl ?_
      refine ev_callVI (q := 198) dX7_copy_195 rfl ml_X7_78 mt_X7_tells cf_7 rfl ho hc_7 (con_X7_tells G _ _ ho _) rfl (Nat.le_of_ble_eq_true rfl) (Nat.le_of_ble_eq_true rfl) rfl (Nat.le_of_ble_eq_true rfl) (fun r31 m32 => ?_)
      exact ev_iret dX7_copy_198 rfl
set_option maxRecDepth 100000 in
set_option maxHeartbeats 4000000 in
theorem X7_copy_b120_ok (G : Gt) (o : Nat) (ho : kd o = 7)    : ∀ (n : Nat) (x1 : Int32) (x2 : Int32) (x3 : Int32) (x4 : Int32) (x5 : Int32) (x6 : Int32) (mem : Mem), EvR tvI G cX7_copy 7 (some .int) RX7 3 120 [(0, .ref (gA G o)), (1, .int (x1)), (2, .int (x2)), (3, .int (x3)), (4, .int (x4)), (5, .int (x5)), (6, .int (x6))] [] mem (X7_copy_b120 o n x1 x2 x3 x4 x5 x6 mem) := by
  intro n
  induction n with
  | zero => intros; exact ev_none
  | succ n ih =>
    intro x1 x2 x3 x4 x5 x6 mem
    rw [X7_copy_b120]
    refine ev_iload (q := 122) dX7_copy_120 6 rfl rfl ?_
    refine ev_iload (q := 124) dX7_copy_122 5 rfl rfl ?_
    refine ev_icmp_ge (t := 154) (q := 127) dX7_copy_124 rfl rfl (fun hc27 => ?_) (fun hc27 => ?_)
    · refine ev_aload_n (q := 128) dX7_copy_127 rfl 0 rfl rfl ?_
      refine ev_getR (q := 131) (ci := 7) (j := 4) (T := TX7) dX7_copy_128 rfl cf_7 ho hj_7_4 hc_7 gf_X7_19 rfl ?_
      refine ev_iload (q := 133) dX7_copy_131 6 rfl rfl ?_
      refine ev_aload_n (q := 134) dX7_copy_133 rfl 0 rfl rfl ?_
      refine ev_getR (q := 137) (ci := 7) (j := 2) (T := TX7) dX7_copy_134 rfl cf_7 ho hj_7_2 hc_7 gf_X7_16 rfl ?_
      refine ev_bipush (q := 139) (v := 40) dX7_copy_137 rfl lb_40 ?_
      refine ev_iload_n (q := 140) dX7_copy_139 rfl 1 rfl rfl ?_
      refine ev_imul (q := 141) dX7_copy_140 rfl ?_
      refine ev_iload_n (q := 142) dX7_copy_141 rfl 2 rfl rfl ?_
      refine ev_iadd (q := 143) dX7_copy_142 rfl ?_
      refine ev_iload (q := 145) dX7_copy_143 6 rfl rfl ?_
      refine ev_iadd (q := 146) dX7_copy_145 rfl ?_
      refine ev_iald (q := 147) dX7_copy_146 rfl (kr_7_2 ho) (fun z28 => ?_)
      refine ev_iast (q := 148) dX7_copy_147 rfl (kr_7_4 ho) (fun m29 => ?_)
      refine ev_iinc (q := 151) (lv2 := [(6, .int _), (0, .ref _), (1, .int _), (2, .int _), (3, .int _), (4, .int _), (5, .int _)]) (v := x6 + 1) dX7_copy_148 6 rfl rfl (congrArg (HAdd.hAdd _) li_1) (Nat.le_of_ble_eq_true rfl) rfl ?_
      refine ev_goto (t := 120) dX7_copy_151 rfl ?_
      refine ev_sub (lv' := [(0, .ref _), (1, .int _), (2, .int _), (3, .int _), (4, .int _), (5, .int _), (6, .int _)]) [1, 2, 3, 4, 5, 6, 0] rfl ?_
      exact ih _ _ _ _ _ _ _
    · refine ev_iconst (q := 155) (v := 0) dX7_copy_154 rfl li_0 ?_
      refine ev_istore (q := 157) (lv2 := [(6, .int _), (0, .ref _), (1, .int _), (2, .int _), (3, .int _), (4, .int _), (5, .int _)]) dX7_copy_155 rfl (Nat.le_of_ble_eq_true rfl) rfl ?_
      refine ev_sub (lv' := [(0, .ref _), (3, .int _), (4, .int _), (5, .int _), (6, .int _)]) [1, 4, 5, 6, 0] rfl ?_
      exact X7_copy_b157_ok G o ho   fu _ _ _ _ _
set_option maxRecDepth 100000 in
set_option maxHeartbeats 4000000 in
theorem con_X7_copy (G : Gt) (o : Nat) (a1 : Int32) (a2 : Int32) (a3 : Int32) (a4 : Int32) (a5 : Int32) (ho : kd o = 7) (mem : Mem) : Con tvI G yX7_copy cX7_copy 7 (some .int) 3 [.ref (gA G o), .int a1, .int a2, .int a3, .int a4, .int a5] mem (X7_copy o a1 a2 a3 a4 a5 mem) := by
  refine con_of (by decide) (Nat.le_of_ble_eq_true rfl) ?_
  show EvR tvI G cX7_copy 7 (some .int) RX7 3 0 [(0, .ref (gA G o)), (1, .int (a1)), (2, .int (a2)), (3, .int (a3)), (4, .int (a4)), (5, .int (a5))] [] mem _
  unfold X7_copy
  refine ev_iload_n (q := 1) dX7_copy_0 rfl 1 rfl rfl ?_
  refine ev_callSI (q := 4) dX7_copy_1 rfl ml_X7_67 mt_X7_isRow (con_X7_isRow G _  _) rfl (Nat.le_of_ble_eq_true rfl) (Nat.le_of_ble_eq_true rfl) rfl (Nat.le_of_ble_eq_true rfl) (fun r1 m2 => ?_)
  refine ev_if_eq (t := 14) (q := 7) dX7_copy_4 rfl rfl (fun hc3 => ?_) (fun hc3 => ?_)
  · refine ev_ldc (q := 16) (v := (-1000001)) dX7_copy_14 rfl kc_X7_73 ?_
    exact ev_iret dX7_copy_16 rfl
  · refine ev_iload_n (q := 8) dX7_copy_7 rfl 3 rfl rfl ?_
    refine ev_callSI (q := 11) dX7_copy_8 rfl ml_X7_67 mt_X7_isRow (con_X7_isRow G _  _) rfl (Nat.le_of_ble_eq_true rfl) (Nat.le_of_ble_eq_true rfl) rfl (Nat.le_of_ble_eq_true rfl) (fun r4 m5 => ?_)
    refine ev_if_ne (t := 17) (q := 14) dX7_copy_11 rfl rfl (fun hc6 => ?_) (fun hc6 => ?_)
    · refine ev_ldc (q := 16) (v := (-1000001)) dX7_copy_14 rfl kc_X7_73 ?_
      exact ev_iret dX7_copy_16 rfl
    · refine ev_aload_n (q := 18) dX7_copy_17 rfl 0 rfl rfl ?_
      refine ev_getR (q := 21) (ci := 7) (j := 1) (T := TX7) dX7_copy_18 rfl cf_7 ho hj_7_1 hc_7 gf_X7_13 rfl ?_
      refine ev_iload_n (q := 22) dX7_copy_21 rfl 1 rfl rfl ?_
      refine ev_iald (q := 23) dX7_copy_22 rfl (kr_7_1 ho) (fun z7 => ?_)
      refine ev_if_lt (t := 35) (q := 26) dX7_copy_23 rfl rfl (fun hc8 => ?_) (fun hc8 => ?_)
      · refine ev_sub (lv' := [(0, .ref _)]) [0] rfl ?_
        exact X7_copy_b35_ok G o ho   _
      · refine ev_aload_n (q := 27) dX7_copy_26 rfl 0 rfl rfl ?_
        refine ev_getR (q := 30) (ci := 7) (j := 1) (T := TX7) dX7_copy_27 rfl cf_7 ho hj_7_1 hc_7 gf_X7_13 rfl ?_
        refine ev_iload_n (q := 31) dX7_copy_30 rfl 3 rfl rfl ?_
        refine ev_iald (q := 32) dX7_copy_31 rfl (kr_7_1 ho) (fun z9 => ?_)
        refine ev_if_ge (t := 41) (q := 35) dX7_copy_32 rfl rfl (fun hc10 => ?_) (fun hc10 => ?_)
        · refine ev_sub (lv' := [(0, .ref _)]) [0] rfl ?_
          exact X7_copy_b35_ok G o ho   _
        · refine ev_aload_n (q := 42) dX7_copy_41 rfl 0 rfl rfl ?_
          refine ev_getR (q := 45) (ci := 7) (j := 0) (T := TX7) dX7_copy_42 rfl cf_7 ho hj_7_0 hc_7 gf_X7_7 rfl ?_
          refine ev_iload_n (q := 46) dX7_copy_45 rfl 1 rfl rfl ?_
          refine ev_iald (q := 47) dX7_copy_46 rfl (kr_7_0 ho) (fun z11 => ?_)
          refine ev_aload_n (q := 48) dX7_copy_47 rfl 0 rfl rfl ?_
          refine ev_getR (q := 51) (ci := 7) (j := 0) (T := TX7) dX7_copy_48 rfl cf_7 ho hj_7_0 hc_7 gf_X7_7 rfl ?_
          refine ev_iload_n (q := 52) dX7_copy_51 rfl 3 rfl rfl ?_
          refine ev_iald (q := 53) dX7_copy_52 rfl (kr_7_0 ho) (fun z12 => ?_)
          refine ev_icmp_eq (t := 62) (q := 56) dX7_copy_53 rfl rfl (fun hc13 => ?_) (fun hc13 => ?_)
          · refine ev_iload (q := 64) dX7_copy_62 5 rfl rfl ?_
            refine ev_if_lt (t := 111) (q := 67) dX7_copy_64 rfl rfl (fun hc14 => ?_) (fun hc14 => ?_)
            · refine ev_sub (lv' := [(0, .ref _)]) [0] rfl ?_
              exact X7_copy_b111_ok G o ho   _
            · refine ev_iload_n (q := 68) dX7_copy_67 rfl 2 rfl rfl ?_
              refine ev_if_lt (t := 111) (q := 71) dX7_copy_68 rfl rfl (fun hc15 => ?_) (fun hc15 => ?_)
              · refine ev_sub (lv' := [(0, .ref _)]) [0] rfl ?_
                exact X7_copy_b111_ok G o ho   _
              · refine ev_iload (q := 73) dX7_copy_71 4 rfl rfl ?_
                refine ev_if_lt (t := 111) (q := 76) dX7_copy_73 rfl rfl (fun hc16 => ?_) (fun hc16 => ?_)
                · refine ev_sub (lv' := [(0, .ref _)]) [0] rfl ?_
                  exact X7_copy_b111_ok G o ho   _
                · refine ev_iload_n (q := 77) dX7_copy_76 rfl 2 rfl rfl ?_
                  refine ev_i2l (q := 78) dX7_copy_77 rfl ?_
                  refine ev_iload (q := 80) dX7_copy_78 5 rfl rfl ?_
                  refine ev_i2l (q := 81) dX7_copy_80 rfl ?_
                  refine ev_ladd (q := 82) dX7_copy_81 rfl ?_
                  refine ev_aload_n (q := 83) dX7_copy_82 rfl 0 rfl rfl ?_
                  refine ev_getR (q := 86) (ci := 7) (j := 1) (T := TX7) dX7_copy_83 rfl cf_7 ho hj_7_1 hc_7 gf_X7_13 rfl ?_
                  refine ev_iload_n (q := 87) dX7_copy_86 rfl 1 rfl rfl ?_
                  refine ev_iald (q := 88) dX7_copy_87 rfl (kr_7_1 ho) (fun z17 => ?_)
                  refine ev_i2l (q := 89) dX7_copy_88 rfl ?_
                  refine ev_lcmp (q := 90) dX7_copy_89 rfl ?_
                  refine ev_if_gt (t := 111) (q := 93) dX7_copy_90 rfl rfl (fun hc18 => ?_) (fun hc18 => ?_)
                  · refine ev_sub (lv' := [(0, .ref _)]) [0] rfl ?_
                    exact X7_copy_b111_ok G o ho   _
                  · refine ev_iload (q := 95) dX7_copy_93 4 rfl rfl ?_
                    refine ev_i2l (q := 96) dX7_copy_95 rfl ?_
                    refine ev_iload (q := 98) dX7_copy_96 5 rfl rfl ?_
                    refine ev_i2l (q := 99) dX7_copy_98 rfl ?_
                    refine ev_ladd (q := 100) dX7_copy_99 rfl ?_
                    refine ev_aload_n (q := 101) dX7_copy_100 rfl 0 rfl rfl ?_
                    refine ev_getR (q := 104) (ci := 7) (j := 1) (T := TX7) dX7_copy_101 rfl cf_7 ho hj_7_1 hc_7 gf_X7_13 rfl ?_
                    refine ev_iload_n (q := 105) dX7_copy_104 rfl 3 rfl rfl ?_
                    refine ev_iald (q := 106) dX7_copy_105 rfl (kr_7_1 ho) (fun z19 => ?_)
                    refine ev_i2l (q := 107) dX7_copy_106 rfl ?_
                    refine ev_lcmp (q := 108) dX7_copy_107 rfl ?_
                    refine ev_if_le (t := 117) (q := 111) dX7_copy_108 rfl rfl (fun hc20 => ?_) (fun hc20 => ?_)
                    · refine ev_sub (lv' := [(0, .ref _)]) [0] rfl ?_
                      exact X7_copy_b111_ok G o ho   _
                    · refine ev_iconst (q := 118) (v := 0) dX7_copy_117 rfl li_0 ?_
                      refine ev_istore (q := 120) (lv2 := [(6, .int _), (0, .ref _), (1, .int _), (2, .int _), (3, .int _), (4, .int _), (5, .int _)]) dX7_copy_118 rfl (Nat.le_of_ble_eq_true rfl) rfl ?_
                      refine ev_sub (lv' := [(0, .ref _), (1, .int _), (2, .int _), (3, .int _), (4, .int _), (5, .int _), (6, .int _)]) [1, 2, 3, 4, 5, 6, 0] rfl ?_
                      exact X7_copy_b120_ok G o ho   fu _ _ _ _ _ _ _
          · refine ev_aload_n (q := 57) dX7_copy_56 rfl 0 rfl rfl ?_
            refine ev_iconst (q := 58) (v := 5) dX7_copy_57 rfl li_5 ?_
            refine ev_callVI (q := 61) dX7_copy_58 rfl ml_X7_74 mt_X7_finds cf_7 rfl ho hc_7 (con_X7_finds G _ _ ho _) rfl (Nat.le_of_ble_eq_true rfl) (Nat.le_of_ble_eq_true rfl) rfl (Nat.le_of_ble_eq_true rfl) (fun r21 m22 => ?_)
            exact ev_iret dX7_copy_61 rfl
/-! AgingLettersModel.drop(I)I -/
theorem dX7_drop_0 : decode cX7_drop 0 = .ok (.iload_n 1, 1) := by decide +kernel
theorem dX7_drop_1 : decode cX7_drop 1 = .ok (.invokestatic 67, 3) := by decide +kernel
theorem dX7_drop_4 : decode cX7_drop 4 = .ok (.ifCond .ne 6, 3) := by decide +kernel
theorem dX7_drop_7 : decode cX7_drop 7 = .ok (.ldc 73, 2) := by decide +kernel
theorem dX7_drop_9 : decode cX7_drop 9 = .ok (.ireturn, 1) := by decide +kernel
theorem dX7_drop_10 : decode cX7_drop 10 = .ok (.aload_n 0, 1) := by decide +kernel
theorem dX7_drop_11 : decode cX7_drop 11 = .ok (.getfield 13, 3) := by decide +kernel
theorem dX7_drop_14 : decode cX7_drop 14 = .ok (.iload_n 1, 1) := by decide +kernel
theorem dX7_drop_15 : decode cX7_drop 15 = .ok (.iaload, 1) := by decide +kernel
theorem dX7_drop_16 : decode cX7_drop 16 = .ok (.ifCond .ge 9, 3) := by decide +kernel
theorem dX7_drop_19 : decode cX7_drop 19 = .ok (.aload_n 0, 1) := by decide +kernel
theorem dX7_drop_20 : decode cX7_drop 20 = .ok (.iconst 1, 1) := by decide +kernel
theorem dX7_drop_21 : decode cX7_drop 21 = .ok (.invokevirtual 74, 3) := by decide +kernel
theorem dX7_drop_24 : decode cX7_drop 24 = .ok (.ireturn, 1) := by decide +kernel
theorem dX7_drop_25 : decode cX7_drop 25 = .ok (.aload_n 0, 1) := by decide +kernel
theorem dX7_drop_26 : decode cX7_drop 26 = .ok (.getfield 13, 3) := by decide +kernel
theorem dX7_drop_29 : decode cX7_drop 29 = .ok (.iload_n 1, 1) := by decide +kernel
theorem dX7_drop_30 : decode cX7_drop 30 = .ok (.iaload, 1) := by decide +kernel
theorem dX7_drop_31 : decode cX7_drop 31 = .ok (.istore_n 2, 1) := by decide +kernel
theorem dX7_drop_32 : decode cX7_drop 32 = .ok (.aload_n 0, 1) := by decide +kernel
theorem dX7_drop_33 : decode cX7_drop 33 = .ok (.getfield 13, 3) := by decide +kernel
theorem dX7_drop_36 : decode cX7_drop 36 = .ok (.iload_n 1, 1) := by decide +kernel
theorem dX7_drop_37 : decode cX7_drop 37 = .ok (.iconst (-1), 1) := by decide +kernel
theorem dX7_drop_38 : decode cX7_drop 38 = .ok (.iastore, 1) := by decide +kernel
theorem dX7_drop_39 : decode cX7_drop 39 = .ok (.aload_n 0, 1) := by decide +kernel
theorem dX7_drop_40 : decode cX7_drop 40 = .ok (.iload_n 2, 1) := by decide +kernel
theorem dX7_drop_41 : decode cX7_drop 41 = .ok (.invokevirtual 78, 3) := by decide +kernel
theorem dX7_drop_44 : decode cX7_drop 44 = .ok (.ireturn, 1) := by decide +kernel
set_option maxRecDepth 100000 in
set_option maxHeartbeats 4000000 in
theorem con_X7_drop (G : Gt) (o : Nat) (a1 : Int32) (ho : kd o = 7) (mem : Mem) : Con tvI G yX7_drop cX7_drop 3 (some .int) 3 [.ref (gA G o), .int a1] mem (X7_drop o a1 mem) := by
  refine con_of (by decide) (Nat.le_of_ble_eq_true rfl) ?_
  show EvR tvI G cX7_drop 3 (some .int) RX7 3 0 [(0, .ref (gA G o)), (1, .int (a1))] [] mem _
  unfold X7_drop
  refine ev_iload_n (q := 1) dX7_drop_0 rfl 1 rfl rfl ?_
  refine ev_callSI (q := 4) dX7_drop_1 rfl ml_X7_67 mt_X7_isRow (con_X7_isRow G _  _) rfl (Nat.le_of_ble_eq_true rfl) (Nat.le_of_ble_eq_true rfl) rfl (Nat.le_of_ble_eq_true rfl) (fun r1 m2 => ?_)
  refine ev_if_ne (t := 10) (q := 7) dX7_drop_4 rfl rfl (fun hc3 => ?_) (fun hc3 => ?_)
  · refine ev_ldc (q := 9) (v := (-1000001)) dX7_drop_7 rfl kc_X7_73 ?_
    exact ev_iret dX7_drop_9 rfl
  · refine ev_aload_n (q := 11) dX7_drop_10 rfl 0 rfl rfl ?_
    refine ev_getR (q := 14) (ci := 7) (j := 1) (T := TX7) dX7_drop_11 rfl cf_7 ho hj_7_1 hc_7 gf_X7_13 rfl ?_
    refine ev_iload_n (q := 15) dX7_drop_14 rfl 1 rfl rfl ?_
    refine ev_iald (q := 16) dX7_drop_15 rfl (kr_7_1 ho) (fun z4 => ?_)
    refine ev_if_ge (t := 25) (q := 19) dX7_drop_16 rfl rfl (fun hc5 => ?_) (fun hc5 => ?_)
    · refine ev_aload_n (q := 20) dX7_drop_19 rfl 0 rfl rfl ?_
      refine ev_iconst (q := 21) (v := 1) dX7_drop_20 rfl li_1 ?_
      refine ev_callVI (q := 24) dX7_drop_21 rfl ml_X7_74 mt_X7_finds cf_7 rfl ho hc_7 (con_X7_finds G _ _ ho _) rfl (Nat.le_of_ble_eq_true rfl) (Nat.le_of_ble_eq_true rfl) rfl (Nat.le_of_ble_eq_true rfl) (fun r10 m11 => ?_)
      exact ev_iret dX7_drop_24 rfl
    · refine ev_aload_n (q := 26) dX7_drop_25 rfl 0 rfl rfl ?_
      refine ev_getR (q := 29) (ci := 7) (j := 1) (T := TX7) dX7_drop_26 rfl cf_7 ho hj_7_1 hc_7 gf_X7_13 rfl ?_
      refine ev_iload_n (q := 30) dX7_drop_29 rfl 1 rfl rfl ?_
      refine ev_iald (q := 31) dX7_drop_30 rfl (kr_7_1 ho) (fun z6 => ?_)
      refine ev_istore_n (q := 32) (lv2 := [(2, .int _), (0, .ref _), (1, .int _)]) dX7_drop_31 rfl rfl (Nat.le_of_ble_eq_true rfl) rfl ?_
      refine ev_aload_n (q := 33) dX7_drop_32 rfl 1 rfl rfl ?_
      refine ev_getR (q := 36) (ci := 7) (j := 1) (T := TX7) dX7_drop_33 rfl cf_7 ho hj_7_1 hc_7 gf_X7_13 rfl ?_
      refine ev_iload_n (q := 37) dX7_drop_36 rfl 2 rfl rfl ?_
      refine ev_iconst (q := 38) (v := (-1)) dX7_drop_37 rfl li_m1 ?_
      refine ev_iast (q := 39) dX7_drop_38 rfl (kr_7_1 ho) (fun m7 => ?_)
      refine ev_aload_n (q := 40) dX7_drop_39 rfl 1 rfl rfl ?_
      refine ev_iload_n (q := 41) dX7_drop_40 rfl 0 rfl rfl ?_
      refine ev_callVI (q := 44) dX7_drop_41 rfl ml_X7_78 mt_X7_tells cf_7 rfl ho hc_7 (con_X7_tells G _ _ ho _) rfl (Nat.le_of_ble_eq_true rfl) (Nat.le_of_ble_eq_true rfl) rfl (Nat.le_of_ble_eq_true rfl) (fun r8 m9 => ?_)
      exact ev_iret dX7_drop_44 rfl
/-! AgingLettersModel.status()I -/
theorem dX7_status_0 : decode cX7_status 0 = .ok (.aload_n 0, 1) := by decide +kernel
theorem dX7_status_1 : decode cX7_status 1 = .ok (.getfield 56, 3) := by decide +kernel
theorem dX7_status_4 : decode cX7_status 4 = .ok (.ireturn, 1) := by decide +kernel
set_option maxRecDepth 100000 in
set_option maxHeartbeats 4000000 in
theorem con_X7_status (G : Gt) (o : Nat) (ho : kd o = 7) (mem : Mem) : Con tvI G yX7_status cX7_status 1 (some .int) 1 [.ref (gA G o)] mem (X7_status o mem) := by
  refine con_of (by decide) (Nat.le_of_ble_eq_true rfl) ?_
  show EvR tvI G cX7_status 1 (some .int) RX7 1 0 [(0, .ref (gA G o))] [] mem _
  unfold X7_status
  refine ev_aload_n (q := 1) dX7_status_0 rfl 0 rfl rfl ?_
  refine ev_getI (q := 4) (ci := 7) (j := 3) (T := TX7) dX7_status_1 rfl cf_7 ho hj_7_3 hc_7 gf_X7_56 rfl ?_
  exact ev_iret dX7_status_4 rfl
/-! AgingLettersModel.letters()I -/
theorem dX7_letters_0 : decode cX7_letters 0 = .ok (.aload_n 0, 1) := by decide +kernel
theorem dX7_letters_1 : decode cX7_letters 1 = .ok (.getfield 22, 3) := by decide +kernel
theorem dX7_letters_4 : decode cX7_letters 4 = .ok (.iconst 2, 1) := by decide +kernel
theorem dX7_letters_5 : decode cX7_letters 5 = .ok (.iaload, 1) := by decide +kernel
theorem dX7_letters_6 : decode cX7_letters 6 = .ok (.ireturn, 1) := by decide +kernel
set_option maxRecDepth 100000 in
set_option maxHeartbeats 4000000 in
theorem con_X7_letters (G : Gt) (o : Nat) (ho : kd o = 7) (mem : Mem) : Con tvI G yX7_letters cX7_letters 1 (some .int) 1 [.ref (gA G o)] mem (X7_letters o mem) := by
  refine con_of (by decide) (Nat.le_of_ble_eq_true rfl) ?_
  show EvR tvI G cX7_letters 1 (some .int) RX7 1 0 [(0, .ref (gA G o))] [] mem _
  unfold X7_letters
  refine ev_aload_n (q := 1) dX7_letters_0 rfl 0 rfl rfl ?_
  refine ev_getR (q := 4) (ci := 7) (j := 5) (T := TX7) dX7_letters_1 rfl cf_7 ho hj_7_5 hc_7 gf_X7_22 rfl ?_
  refine ev_iconst (q := 5) (v := 2) dX7_letters_4 rfl li_2 ?_
  refine ev_iald (q := 6) dX7_letters_5 rfl (kr_7_5 ho) (fun z1 => ?_)
  exact ev_iret dX7_letters_6 rfl
/-! AgingLettersModel.readers()I -/
theorem dX7_readers_0 : decode cX7_readers 0 = .ok (.aload_n 0, 1) := by decide +kernel
theorem dX7_readers_1 : decode cX7_readers 1 = .ok (.getfield 22, 3) := by decide +kernel
theorem dX7_readers_4 : decode cX7_readers 4 = .ok (.iconst 3, 1) := by decide +kernel
theorem dX7_readers_5 : decode cX7_readers 5 = .ok (.iaload, 1) := by decide +kernel
theorem dX7_readers_6 : decode cX7_readers 6 = .ok (.ireturn, 1) := by decide +kernel
set_option maxRecDepth 100000 in
set_option maxHeartbeats 4000000 in
theorem con_X7_readers (G : Gt) (o : Nat) (ho : kd o = 7) (mem : Mem) : Con tvI G yX7_readers cX7_readers 1 (some .int) 1 [.ref (gA G o)] mem (X7_readers o mem) := by
  refine con_of (by decide) (Nat.le_of_ble_eq_true rfl) ?_
  show EvR tvI G cX7_readers 1 (some .int) RX7 1 0 [(0, .ref (gA G o))] [] mem _
  unfold X7_readers
  refine ev_aload_n (q := 1) dX7_readers_0 rfl 0 rfl rfl ?_
  refine ev_getR (q := 4) (ci := 7) (j := 5) (T := TX7) dX7_readers_1 rfl cf_7 ho hj_7_5 hc_7 gf_X7_22 rfl ?_
  refine ev_iconst (q := 5) (v := 3) dX7_readers_4 rfl li_3 ?_
  refine ev_iald (q := 6) dX7_readers_5 rfl (kr_7_5 ho) (fun z1 => ?_)
  exact ev_iret dX7_readers_6 rfl
/-! AgingLettersModel.isLetter(I)Z -/
theorem dX7_isLetter_0 : decode cX7_isLetter 0 = .ok (.iload_n 1, 1) := by decide +kernel
theorem dX7_isLetter_1 : decode cX7_isLetter 1 = .ok (.i2l, 1) := by decide +kernel
theorem dX7_isLetter_2 : decode cX7_isLetter 2 = .ok (.lconst 0, 1) := by decide +kernel
theorem dX7_isLetter_3 : decode cX7_isLetter 3 = .ok (.aload_n 0, 1) := by decide +kernel
theorem dX7_isLetter_4 : decode cX7_isLetter 4 = .ok (.invokevirtual 85, 3) := by decide +kernel
theorem dX7_isLetter_7 : decode cX7_isLetter 7 = .ok (.iconst 1, 1) := by decide +kernel
theorem dX7_isLetter_8 : decode cX7_isLetter 8 = .ok (.isub, 1) := by decide +kernel
theorem dX7_isLetter_9 : decode cX7_isLetter 9 = .ok (.i2l, 1) := by decide +kernel
theorem dX7_isLetter_10 : decode cX7_isLetter 10 = .ok (.invokestatic 63, 3) := by decide +kernel
theorem dX7_isLetter_13 : decode cX7_isLetter 13 = .ok (.ireturn, 1) := by decide +kernel
set_option maxRecDepth 100000 in
set_option maxHeartbeats 4000000 in
theorem con_X7_isLetter (G : Gt) (o : Nat) (a1 : Int32) (ho : kd o = 7) (mem : Mem) : Con tvI G yX7_isLetter cX7_isLetter 2 (some .boolean) 2 [.ref (gA G o), .int a1] mem (X7_isLetter o a1 mem) := by
  refine con_of (by decide) (Nat.le_of_ble_eq_true rfl) ?_
  show EvR tvI G cX7_isLetter 2 (some .boolean) RX7 2 0 [(0, .ref (gA G o)), (1, .int (a1))] [] mem _
  unfold X7_isLetter
  refine ev_iload_n (q := 1) dX7_isLetter_0 rfl 1 rfl rfl ?_
  refine ev_i2l (q := 2) dX7_isLetter_1 rfl ?_
  refine ev_lconst (q := 3) (v := 0) dX7_isLetter_2 rfl ll_0 ?_
  refine ev_aload_n (q := 4) dX7_isLetter_3 rfl 0 rfl rfl ?_
  refine ev_callVI (q := 7) dX7_isLetter_4 rfl ml_X7_85 mt_X7_letters cf_7 rfl ho hc_7 (con_X7_letters G _ ho _) rfl (Nat.le_of_ble_eq_true rfl) (Nat.le_of_ble_eq_true rfl) rfl (Nat.le_of_ble_eq_true rfl) (fun r1 m2 => ?_)
  refine ev_iconst (q := 8) (v := 1) dX7_isLetter_7 rfl li_1 ?_
  refine ev_isub (q := 9) dX7_isLetter_8 rfl ?_
  refine ev_i2l (q := 10) dX7_isLetter_9 rfl ?_
  refine ev_callSI (q := 13) dX7_isLetter_10 rfl ml_X7_63 mt_X7_in (con_X7_in G _ _ _  _) rfl (Nat.le_of_ble_eq_true rfl) (Nat.le_of_ble_eq_true rfl) rfl (Nat.le_of_ble_eq_true rfl) (fun r3 m4 => ?_)
  exact ev_zret dX7_isLetter_13 rfl
/-! AgingLettersModel.isReader(I)Z -/
theorem dX7_isReader_0 : decode cX7_isReader 0 = .ok (.iload_n 1, 1) := by decide +kernel
theorem dX7_isReader_1 : decode cX7_isReader 1 = .ok (.i2l, 1) := by decide +kernel
theorem dX7_isReader_2 : decode cX7_isReader 2 = .ok (.lconst 0, 1) := by decide +kernel
theorem dX7_isReader_3 : decode cX7_isReader 3 = .ok (.aload_n 0, 1) := by decide +kernel
theorem dX7_isReader_4 : decode cX7_isReader 4 = .ok (.invokevirtual 89, 3) := by decide +kernel
theorem dX7_isReader_7 : decode cX7_isReader 7 = .ok (.iconst 1, 1) := by decide +kernel
theorem dX7_isReader_8 : decode cX7_isReader 8 = .ok (.isub, 1) := by decide +kernel
theorem dX7_isReader_9 : decode cX7_isReader 9 = .ok (.i2l, 1) := by decide +kernel
theorem dX7_isReader_10 : decode cX7_isReader 10 = .ok (.invokestatic 63, 3) := by decide +kernel
theorem dX7_isReader_13 : decode cX7_isReader 13 = .ok (.ireturn, 1) := by decide +kernel
set_option maxRecDepth 100000 in
set_option maxHeartbeats 4000000 in
theorem con_X7_isReader (G : Gt) (o : Nat) (a1 : Int32) (ho : kd o = 7) (mem : Mem) : Con tvI G yX7_isReader cX7_isReader 2 (some .boolean) 2 [.ref (gA G o), .int a1] mem (X7_isReader o a1 mem) := by
  refine con_of (by decide) (Nat.le_of_ble_eq_true rfl) ?_
  show EvR tvI G cX7_isReader 2 (some .boolean) RX7 2 0 [(0, .ref (gA G o)), (1, .int (a1))] [] mem _
  unfold X7_isReader
  refine ev_iload_n (q := 1) dX7_isReader_0 rfl 1 rfl rfl ?_
  refine ev_i2l (q := 2) dX7_isReader_1 rfl ?_
  refine ev_lconst (q := 3) (v := 0) dX7_isReader_2 rfl ll_0 ?_
  refine ev_aload_n (q := 4) dX7_isReader_3 rfl 0 rfl rfl ?_
  refine ev_callVI (q := 7) dX7_isReader_4 rfl ml_X7_89 mt_X7_readers cf_7 rfl ho hc_7 (con_X7_readers G _ ho _) rfl (Nat.le_of_ble_eq_true rfl) (Nat.le_of_ble_eq_true rfl) rfl (Nat.le_of_ble_eq_true rfl) (fun r1 m2 => ?_)
  refine ev_iconst (q := 8) (v := 1) dX7_isReader_7 rfl li_1 ?_
  refine ev_isub (q := 9) dX7_isReader_8 rfl ?_
  refine ev_i2l (q := 10) dX7_isReader_9 rfl ?_
  refine ev_callSI (q := 13) dX7_isReader_10 rfl ml_X7_63 mt_X7_in (con_X7_in G _ _ _  _) rfl (Nat.le_of_ble_eq_true rfl) (Nat.le_of_ble_eq_true rfl) rfl (Nat.le_of_ble_eq_true rfl) (fun r3 m4 => ?_)
  exact ev_zret dX7_isReader_13 rfl
/-! AgingLettersModel.sort(I)I -/
theorem dX7_sort_0 : decode cX7_sort 0 = .ok (.aload_n 0, 1) := by decide +kernel
theorem dX7_sort_1 : decode cX7_sort 1 = .ok (.getfield 22, 3) := by decide +kernel
theorem dX7_sort_4 : decode cX7_sort 4 = .ok (.iconst 5, 1) := by decide +kernel
theorem dX7_sort_5 : decode cX7_sort 5 = .ok (.iload_n 1, 1) := by decide +kernel
theorem dX7_sort_6 : decode cX7_sort 6 = .ok (.iadd, 1) := by decide +kernel
theorem dX7_sort_7 : decode cX7_sort 7 = .ok (.iaload, 1) := by decide +kernel
theorem dX7_sort_8 : decode cX7_sort 8 = .ok (.ireturn, 1) := by decide +kernel
set_option maxRecDepth 100000 in
set_option maxHeartbeats 4000000 in
theorem con_X7_sort (G : Gt) (o : Nat) (a1 : Int32) (ho : kd o = 7) (mem : Mem) : Con tvI G yX7_sort cX7_sort 2 (some .int) 1 [.ref (gA G o), .int a1] mem (X7_sort o a1 mem) := by
  refine con_of (by decide) (Nat.le_of_ble_eq_true rfl) ?_
  show EvR tvI G cX7_sort 2 (some .int) RX7 1 0 [(0, .ref (gA G o)), (1, .int (a1))] [] mem _
  unfold X7_sort
  refine ev_aload_n (q := 1) dX7_sort_0 rfl 0 rfl rfl ?_
  refine ev_getR (q := 4) (ci := 7) (j := 5) (T := TX7) dX7_sort_1 rfl cf_7 ho hj_7_5 hc_7 gf_X7_22 rfl ?_
  refine ev_iconst (q := 5) (v := 5) dX7_sort_4 rfl li_5 ?_
  refine ev_iload_n (q := 6) dX7_sort_5 rfl 1 rfl rfl ?_
  refine ev_iadd (q := 7) dX7_sort_6 rfl ?_
  refine ev_iald (q := 8) dX7_sort_7 rfl (kr_7_5 ho) (fun z1 => ?_)
  exact ev_iret dX7_sort_8 rfl
/-! AgingLettersModel.age(I)I -/
theorem dX7_age_0 : decode cX7_age 0 = .ok (.aload_n 0, 1) := by decide +kernel
theorem dX7_age_1 : decode cX7_age 1 = .ok (.getfield 22, 3) := by decide +kernel
theorem dX7_age_4 : decode cX7_age 4 = .ok (.bipush 31, 2) := by decide +kernel
theorem dX7_age_6 : decode cX7_age 6 = .ok (.iload_n 1, 1) := by decide +kernel
theorem dX7_age_7 : decode cX7_age 7 = .ok (.iadd, 1) := by decide +kernel
theorem dX7_age_8 : decode cX7_age 8 = .ok (.iaload, 1) := by decide +kernel
theorem dX7_age_9 : decode cX7_age 9 = .ok (.ireturn, 1) := by decide +kernel
set_option maxRecDepth 100000 in
set_option maxHeartbeats 4000000 in
theorem con_X7_age (G : Gt) (o : Nat) (a1 : Int32) (ho : kd o = 7) (mem : Mem) : Con tvI G yX7_age cX7_age 2 (some .int) 1 [.ref (gA G o), .int a1] mem (X7_age o a1 mem) := by
  refine con_of (by decide) (Nat.le_of_ble_eq_true rfl) ?_
  show EvR tvI G cX7_age 2 (some .int) RX7 1 0 [(0, .ref (gA G o)), (1, .int (a1))] [] mem _
  unfold X7_age
  refine ev_aload_n (q := 1) dX7_age_0 rfl 0 rfl rfl ?_
  refine ev_getR (q := 4) (ci := 7) (j := 5) (T := TX7) dX7_age_1 rfl cf_7 ho hj_7_5 hc_7 gf_X7_22 rfl ?_
  refine ev_bipush (q := 6) (v := 31) dX7_age_4 rfl lb_31 ?_
  refine ev_iload_n (q := 7) dX7_age_6 rfl 1 rfl rfl ?_
  refine ev_iadd (q := 8) dX7_age_7 rfl ?_
  refine ev_iald (q := 9) dX7_age_8 rfl (kr_7_5 ho) (fun z1 => ?_)
  exact ev_iret dX7_age_9 rfl
/-! AgingLettersModel.span(I)I -/
theorem dX7_span_0 : decode cX7_span 0 = .ok (.aload_n 0, 1) := by decide +kernel
theorem dX7_span_1 : decode cX7_span 1 = .ok (.getfield 22, 3) := by decide +kernel
theorem dX7_span_4 : decode cX7_span 4 = .ok (.bipush 27, 2) := by decide +kernel
theorem dX7_span_6 : decode cX7_span 6 = .ok (.iload_n 1, 1) := by decide +kernel
theorem dX7_span_7 : decode cX7_span 7 = .ok (.iadd, 1) := by decide +kernel
theorem dX7_span_8 : decode cX7_span 8 = .ok (.iaload, 1) := by decide +kernel
theorem dX7_span_9 : decode cX7_span 9 = .ok (.ireturn, 1) := by decide +kernel
set_option maxRecDepth 100000 in
set_option maxHeartbeats 4000000 in
theorem con_X7_span (G : Gt) (o : Nat) (a1 : Int32) (ho : kd o = 7) (mem : Mem) : Con tvI G yX7_span cX7_span 2 (some .int) 1 [.ref (gA G o), .int a1] mem (X7_span o a1 mem) := by
  refine con_of (by decide) (Nat.le_of_ble_eq_true rfl) ?_
  show EvR tvI G cX7_span 2 (some .int) RX7 1 0 [(0, .ref (gA G o)), (1, .int (a1))] [] mem _
  unfold X7_span
  refine ev_aload_n (q := 1) dX7_span_0 rfl 0 rfl rfl ?_
  refine ev_getR (q := 4) (ci := 7) (j := 5) (T := TX7) dX7_span_1 rfl cf_7 ho hj_7_5 hc_7 gf_X7_22 rfl ?_
  refine ev_bipush (q := 6) (v := 27) dX7_span_4 rfl lb_27 ?_
  refine ev_iload_n (q := 7) dX7_span_6 rfl 1 rfl rfl ?_
  refine ev_iadd (q := 8) dX7_span_7 rfl ?_
  refine ev_iald (q := 9) dX7_span_8 rfl (kr_7_5 ho) (fun z1 => ?_)
  exact ev_iret dX7_span_9 rfl
/-! AgingLettersModel.isAlive(I)Z -/
theorem dX7_isAlive_0 : decode cX7_isAlive 0 = .ok (.aload_n 0, 1) := by decide +kernel
theorem dX7_isAlive_1 : decode cX7_isAlive 1 = .ok (.iload_n 1, 1) := by decide +kernel
theorem dX7_isAlive_2 : decode cX7_isAlive 2 = .ok (.invokevirtual 92, 3) := by decide +kernel
theorem dX7_isAlive_5 : decode cX7_isAlive 5 = .ok (.aload_n 0, 1) := by decide +kernel
theorem dX7_isAlive_6 : decode cX7_isAlive 6 = .ok (.iload_n 1, 1) := by decide +kernel
theorem dX7_isAlive_7 : decode cX7_isAlive 7 = .ok (.invokevirtual 95, 3) := by decide +kernel
theorem dX7_isAlive_10 : decode cX7_isAlive 10 = .ok (.if_icmp .ge 7, 3) := by decide +kernel
theorem dX7_isAlive_13 : decode cX7_isAlive 13 = .ok (.iconst 1, 1) := by decide +kernel
theorem dX7_isAlive_14 : decode cX7_isAlive 14 = .ok (.goto 4, 3) := by decide +kernel
theorem dX7_isAlive_17 : decode cX7_isAlive 17 = .ok (.iconst 0, 1) := by decide +kernel
theorem dX7_isAlive_18 : decode cX7_isAlive 18 = .ok (.ireturn, 1) := by decide +kernel
set_option maxRecDepth 100000 in
set_option maxHeartbeats 4000000 in
theorem con_X7_isAlive (G : Gt) (o : Nat) (a1 : Int32) (ho : kd o = 7) (mem : Mem) : Con tvI G yX7_isAlive cX7_isAlive 2 (some .boolean) 2 [.ref (gA G o), .int a1] mem (X7_isAlive o a1 mem) := by
  refine con_of (by decide) (Nat.le_of_ble_eq_true rfl) ?_
  show EvR tvI G cX7_isAlive 2 (some .boolean) RX7 2 0 [(0, .ref (gA G o)), (1, .int (a1))] [] mem _
  unfold X7_isAlive
  refine ev_aload_n (q := 1) dX7_isAlive_0 rfl 0 rfl rfl ?_
  refine ev_iload_n (q := 2) dX7_isAlive_1 rfl 1 rfl rfl ?_
  refine ev_callVI (q := 5) dX7_isAlive_2 rfl ml_X7_92 mt_X7_age cf_7 rfl ho hc_7 (con_X7_age G _ _ ho _) rfl (Nat.le_of_ble_eq_true rfl) (Nat.le_of_ble_eq_true rfl) rfl (Nat.le_of_ble_eq_true rfl) (fun r1 m2 => ?_)
  refine ev_aload_n (q := 6) dX7_isAlive_5 rfl 0 rfl rfl ?_
  refine ev_iload_n (q := 7) dX7_isAlive_6 rfl 1 rfl rfl ?_
  refine ev_callVI (q := 10) dX7_isAlive_7 rfl ml_X7_95 mt_X7_span cf_7 rfl ho hc_7 (con_X7_span G _ _ ho _) rfl (Nat.le_of_ble_eq_true rfl) (Nat.le_of_ble_eq_true rfl) rfl (Nat.le_of_ble_eq_true rfl) (fun r3 m4 => ?_)
  refine ev_icmp_ge (t := 17) (q := 13) dX7_isAlive_10 rfl rfl (fun hc5 => ?_) (fun hc5 => ?_)
  · refine ev_iconst (q := 14) (v := 1) dX7_isAlive_13 rfl li_1 ?_
    refine ev_goto (t := 18) dX7_isAlive_14 rfl ?_
    exact ev_zret dX7_isAlive_18 rfl
  · refine ev_iconst (q := 18) (v := 0) dX7_isAlive_17 rfl li_0 ?_
    exact ev_zret dX7_isAlive_18 rfl
/-! AgingLettersModel.isFit(I)Z -/
theorem dX7_isFit_0 : decode cX7_isFit 0 = .ok (.aload_n 0, 1) := by decide +kernel
theorem dX7_isFit_1 : decode cX7_isFit 1 = .ok (.iload_n 1, 1) := by decide +kernel
theorem dX7_isFit_2 : decode cX7_isFit 2 = .ok (.invokevirtual 98, 3) := by decide +kernel
theorem dX7_isFit_5 : decode cX7_isFit 5 = .ok (.ifCond .eq 21, 3) := by decide +kernel
theorem dX7_isFit_8 : decode cX7_isFit 8 = .ok (.aload_n 0, 1) := by decide +kernel
theorem dX7_isFit_9 : decode cX7_isFit 9 = .ok (.iload_n 1, 1) := by decide +kernel
theorem dX7_isFit_10 : decode cX7_isFit 10 = .ok (.invokevirtual 92, 3) := by decide +kernel
theorem dX7_isFit_13 : decode cX7_isFit 13 = .ok (.aload_n 0, 1) := by decide +kernel
theorem dX7_isFit_14 : decode cX7_isFit 14 = .ok (.getfield 22, 3) := by decide +kernel
theorem dX7_isFit_17 : decode cX7_isFit 17 = .ok (.iconst 1, 1) := by decide +kernel
theorem dX7_isFit_18 : decode cX7_isFit 18 = .ok (.iaload, 1) := by decide +kernel
theorem dX7_isFit_19 : decode cX7_isFit 19 = .ok (.if_icmp .ge 7, 3) := by decide +kernel
theorem dX7_isFit_22 : decode cX7_isFit 22 = .ok (.iconst 1, 1) := by decide +kernel
theorem dX7_isFit_23 : decode cX7_isFit 23 = .ok (.goto 4, 3) := by decide +kernel
theorem dX7_isFit_26 : decode cX7_isFit 26 = .ok (.iconst 0, 1) := by decide +kernel
theorem dX7_isFit_27 : decode cX7_isFit 27 = .ok (.ireturn, 1) := by decide +kernel
set_option maxRecDepth 100000 in
set_option maxHeartbeats 4000000 in
theorem con_X7_isFit (G : Gt) (o : Nat) (a1 : Int32) (ho : kd o = 7) (mem : Mem) : Con tvI G yX7_isFit cX7_isFit 2 (some .boolean) 3 [.ref (gA G o), .int a1] mem (X7_isFit o a1 mem) := by
  refine con_of (by decide) (Nat.le_of_ble_eq_true rfl) ?_
  show EvR tvI G cX7_isFit 2 (some .boolean) RX7 3 0 [(0, .ref (gA G o)), (1, .int (a1))] [] mem _
  unfold X7_isFit
  refine ev_aload_n (q := 1) dX7_isFit_0 rfl 0 rfl rfl ?_
  refine ev_iload_n (q := 2) dX7_isFit_1 rfl 1 rfl rfl ?_
  refine ev_callVI (q := 5) dX7_isFit_2 rfl ml_X7_98 mt_X7_isAlive cf_7 rfl ho hc_7 (con_X7_isAlive G _ _ ho _) rfl (Nat.le_of_ble_eq_true rfl) (Nat.le_of_ble_eq_true rfl) rfl (Nat.le_of_ble_eq_true rfl) (fun r1 m2 => ?_)
  refine ev_if_eq (t := 26) (q := 8) dX7_isFit_5 rfl rfl (fun hc3 => ?_) (fun hc3 => ?_)
  · refine ev_iconst (q := 27) (v := 0) dX7_isFit_26 rfl li_0 ?_
    exact ev_zret dX7_isFit_27 rfl
  · refine ev_aload_n (q := 9) dX7_isFit_8 rfl 0 rfl rfl ?_
    refine ev_iload_n (q := 10) dX7_isFit_9 rfl 1 rfl rfl ?_
    refine ev_callVI (q := 13) dX7_isFit_10 rfl ml_X7_92 mt_X7_age cf_7 rfl ho hc_7 (con_X7_age G _ _ ho _) rfl (Nat.le_of_ble_eq_true rfl) (Nat.le_of_ble_eq_true rfl) rfl (Nat.le_of_ble_eq_true rfl) (fun r4 m5 => ?_)
    refine ev_aload_n (q := 14) dX7_isFit_13 rfl 0 rfl rfl ?_
    refine ev_getR (q := 17) (ci := 7) (j := 5) (T := TX7) dX7_isFit_14 rfl cf_7 ho hj_7_5 hc_7 gf_X7_22 rfl ?_
    refine ev_iconst (q := 18) (v := 1) dX7_isFit_17 rfl li_1 ?_
    refine ev_iald (q := 19) dX7_isFit_18 rfl (kr_7_5 ho) (fun z6 => ?_)
    refine ev_icmp_ge (t := 26) (q := 22) dX7_isFit_19 rfl rfl (fun hc7 => ?_) (fun hc7 => ?_)
    · refine ev_iconst (q := 23) (v := 1) dX7_isFit_22 rfl li_1 ?_
      refine ev_goto (t := 27) dX7_isFit_23 rfl ?_
      exact ev_zret dX7_isFit_27 rfl
    · refine ev_iconst (q := 27) (v := 0) dX7_isFit_26 rfl li_0 ?_
      exact ev_zret dX7_isFit_27 rfl
/-! AgingLettersModel.readBy(II)I -/
theorem dX7_readBy_0 : decode cX7_readBy 0 = .ok (.aload_n 0, 1) := by decide +kernel
theorem dX7_readBy_1 : decode cX7_readBy 1 = .ok (.getfield 22, 3) := by decide +kernel
theorem dX7_readBy_4 : decode cX7_readBy 4 = .ok (.bipush 39, 2) := by decide +kernel
theorem dX7_readBy_6 : decode cX7_readBy 6 = .ok (.iconst 4, 1) := by decide +kernel
theorem dX7_readBy_7 : decode cX7_readBy 7 = .ok (.iload_n 1, 1) := by decide +kernel
theorem dX7_readBy_8 : decode cX7_readBy 8 = .ok (.imul, 1) := by decide +kernel
theorem dX7_readBy_9 : decode cX7_readBy 9 = .ok (.iadd, 1) := by decide +kernel
theorem dX7_readBy_10 : decode cX7_readBy 10 = .ok (.iload_n 2, 1) := by decide +kernel
theorem dX7_readBy_11 : decode cX7_readBy 11 = .ok (.iadd, 1) := by decide +kernel
theorem dX7_readBy_12 : decode cX7_readBy 12 = .ok (.iaload, 1) := by decide +kernel
theorem dX7_readBy_13 : decode cX7_readBy 13 = .ok (.ireturn, 1) := by decide +kernel
set_option maxRecDepth 100000 in
set_option maxHeartbeats 4000000 in
theorem con_X7_readBy (G : Gt) (o : Nat) (a1 : Int32) (a2 : Int32) (ho : kd o = 7) (mem : Mem) : Con tvI G yX7_readBy cX7_readBy 3 (some .int) 1 [.ref (gA G o), .int a1, .int a2] mem (X7_readBy o a1 a2 mem) := by
  refine con_of (by decide) (Nat.le_of_ble_eq_true rfl) ?_
  show EvR tvI G cX7_readBy 3 (some .int) RX7 1 0 [(0, .ref (gA G o)), (1, .int (a1)), (2, .int (a2))] [] mem _
  unfold X7_readBy
  refine ev_aload_n (q := 1) dX7_readBy_0 rfl 0 rfl rfl ?_
  refine ev_getR (q := 4) (ci := 7) (j := 5) (T := TX7) dX7_readBy_1 rfl cf_7 ho hj_7_5 hc_7 gf_X7_22 rfl ?_
  refine ev_bipush (q := 6) (v := 39) dX7_readBy_4 rfl lb_39 ?_
  refine ev_iconst (q := 7) (v := 4) dX7_readBy_6 rfl li_4 ?_
  refine ev_iload_n (q := 8) dX7_readBy_7 rfl 1 rfl rfl ?_
  refine ev_imul (q := 9) dX7_readBy_8 rfl ?_
  refine ev_iadd (q := 10) dX7_readBy_9 rfl ?_
  refine ev_iload_n (q := 11) dX7_readBy_10 rfl 2 rfl rfl ?_
  refine ev_iadd (q := 12) dX7_readBy_11 rfl ?_
  refine ev_iald (q := 13) dX7_readBy_12 rfl (kr_7_5 ho) (fun z1 => ?_)
  exact ev_iret dX7_readBy_13 rfl
/-! AgingLettersModel.readOf(I)I -/
theorem dX7_readOf_0 : decode cX7_readOf 0 = .ok (.iconst 0, 1) := by decide +kernel
theorem dX7_readOf_1 : decode cX7_readOf 1 = .ok (.istore_n 2, 1) := by decide +kernel
theorem dX7_readOf_2 : decode cX7_readOf 2 = .ok (.iconst 0, 1) := by decide +kernel
theorem dX7_readOf_3 : decode cX7_readOf 3 = .ok (.istore_n 3, 1) := by decide +kernel
theorem dX7_readOf_4 : decode cX7_readOf 4 = .ok (.iload_n 3, 1) := by decide +kernel
theorem dX7_readOf_5 : decode cX7_readOf 5 = .ok (.aload_n 0, 1) := by decide +kernel
theorem dX7_readOf_6 : decode cX7_readOf 6 = .ok (.invokevirtual 89, 3) := by decide +kernel
theorem dX7_readOf_9 : decode cX7_readOf 9 = .ok (.if_icmp .ge 18, 3) := by decide +kernel
theorem dX7_readOf_12 : decode cX7_readOf 12 = .ok (.iload_n 2, 1) := by decide +kernel
theorem dX7_readOf_13 : decode cX7_readOf 13 = .ok (.aload_n 0, 1) := by decide +kernel
theorem dX7_readOf_14 : decode cX7_readOf 14 = .ok (.iload_n 1, 1) := by decide +kernel
theorem dX7_readOf_15 : decode cX7_readOf 15 = .ok (.iload_n 3, 1) := by decide +kernel
theorem dX7_readOf_16 : decode cX7_readOf 16 = .ok (.invokevirtual 101, 3) := by decide +kernel
theorem dX7_readOf_19 : decode cX7_readOf 19 = .ok (.iadd, 1) := by decide +kernel
theorem dX7_readOf_20 : decode cX7_readOf 20 = .ok (.istore_n 2, 1) := by decide +kernel
theorem dX7_readOf_21 : decode cX7_readOf 21 = .ok (.iinc 3 1, 3) := by decide +kernel
theorem dX7_readOf_24 : decode cX7_readOf 24 = .ok (.goto (-20), 3) := by decide +kernel
theorem dX7_readOf_27 : decode cX7_readOf 27 = .ok (.iload_n 2, 1) := by decide +kernel
theorem dX7_readOf_28 : decode cX7_readOf 28 = .ok (.ireturn, 1) := by decide +kernel
set_option maxRecDepth 100000 in
set_option maxHeartbeats 4000000 in
theorem X7_readOf_b4_ok (G : Gt) (o : Nat) (ho : kd o = 7)    : ∀ (n : Nat) (x1 : Int32) (x2 : Int32) (x3 : Int32) (mem : Mem), EvR tvI G cX7_readOf 4 (some .int) RX7 2 4 [(0, .ref (gA G o)), (1, .int (x1)), (2, .int (x2)), (3, .int (x3))] [] mem (X7_readOf_b4 o n x1 x2 x3 mem) := by
  intro n
  induction n with
  | zero => intros; exact ev_none
  | succ n ih =>
    intro x1 x2 x3 mem
    rw [X7_readOf_b4]
    refine ev_iload_n (q := 5) dX7_readOf_4 rfl 3 rfl rfl ?_
    refine ev_aload_n (q := 6) dX7_readOf_5 rfl 0 rfl rfl ?_
    refine ev_callVI (q := 9) dX7_readOf_6 rfl ml_X7_89 mt_X7_readers cf_7 rfl ho hc_7 (con_X7_readers G _ ho _) rfl (Nat.le_of_ble_eq_true rfl) (Nat.le_of_ble_eq_true rfl) rfl (Nat.le_of_ble_eq_true rfl) (fun r1 m2 => ?_)
    refine ev_icmp_ge (t := 27) (q := 12) dX7_readOf_9 rfl rfl (fun hc3 => ?_) (fun hc3 => ?_)
    · refine ev_iload_n (q := 13) dX7_readOf_12 rfl 2 rfl rfl ?_
      refine ev_aload_n (q := 14) dX7_readOf_13 rfl 0 rfl rfl ?_
      refine ev_iload_n (q := 15) dX7_readOf_14 rfl 1 rfl rfl ?_
      refine ev_iload_n (q := 16) dX7_readOf_15 rfl 3 rfl rfl ?_
      refine ev_callVI (q := 19) dX7_readOf_16 rfl ml_X7_101 mt_X7_readBy cf_7 rfl ho hc_7 (con_X7_readBy G _ _ _ ho _) rfl (Nat.le_of_ble_eq_true rfl) (Nat.le_of_ble_eq_true rfl) rfl (Nat.le_of_ble_eq_true rfl) (fun r4 m5 => ?_)
      refine ev_iadd (q := 20) dX7_readOf_19 rfl ?_
      refine ev_istore_n (q := 21) (lv2 := [(2, .int _), (0, .ref _), (1, .int _), (3, .int _)]) dX7_readOf_20 rfl rfl (Nat.le_of_ble_eq_true rfl) rfl ?_
      refine ev_iinc (q := 24) (lv2 := [(3, .int _), (2, .int _), (0, .ref _), (1, .int _)]) (v := x3 + 1) dX7_readOf_21 3 rfl rfl (congrArg (HAdd.hAdd _) li_1) (Nat.le_of_ble_eq_true rfl) rfl ?_
      refine ev_goto (t := 4) dX7_readOf_24 rfl ?_
      refine ev_sub (lv' := [(0, .ref _), (1, .int _), (2, .int _), (3, .int _)]) [2, 3, 1, 0] rfl ?_
      exact ih _ _ _ _
    · refine ev_iload_n (q := 28) dX7_readOf_27 rfl 2 rfl rfl ?_
      exact ev_iret dX7_readOf_28 rfl
set_option maxRecDepth 100000 in
set_option maxHeartbeats 4000000 in
theorem con_X7_readOf (G : Gt) (o : Nat) (a1 : Int32) (ho : kd o = 7) (mem : Mem) : Con tvI G yX7_readOf cX7_readOf 4 (some .int) 2 [.ref (gA G o), .int a1] mem (X7_readOf o a1 mem) := by
  refine con_of (by decide) (Nat.le_of_ble_eq_true rfl) ?_
  show EvR tvI G cX7_readOf 4 (some .int) RX7 2 0 [(0, .ref (gA G o)), (1, .int (a1))] [] mem _
  unfold X7_readOf
  refine ev_iconst (q := 1) (v := 0) dX7_readOf_0 rfl li_0 ?_
  refine ev_istore_n (q := 2) (lv2 := [(2, .int _), (0, .ref _), (1, .int _)]) dX7_readOf_1 rfl rfl (Nat.le_of_ble_eq_true rfl) rfl ?_
  refine ev_iconst (q := 3) (v := 0) dX7_readOf_2 rfl li_0 ?_
  refine ev_istore_n (q := 4) (lv2 := [(3, .int _), (2, .int _), (0, .ref _), (1, .int _)]) dX7_readOf_3 rfl rfl (Nat.le_of_ble_eq_true rfl) rfl ?_
  refine ev_sub (lv' := [(0, .ref _), (1, .int _), (2, .int _), (3, .int _)]) [2, 3, 1, 0] rfl ?_
  exact X7_readOf_b4_ok G o ho   fu _ _ _ _
/-! AgingLettersModel.upwards(II)I -/
theorem dX7_upwards_0 : decode cX7_upwards 0 = .ok (.iload_n 0, 1) := by decide +kernel
theorem dX7_upwards_1 : decode cX7_upwards 1 = .ok (.iload_n 1, 1) := by decide +kernel
theorem dX7_upwards_2 : decode cX7_upwards 2 = .ok (.iadd, 1) := by decide +kernel
theorem dX7_upwards_3 : decode cX7_upwards 3 = .ok (.iconst 1, 1) := by decide +kernel
theorem dX7_upwards_4 : decode cX7_upwards 4 = .ok (.isub, 1) := by decide +kernel
theorem dX7_upwards_5 : decode cX7_upwards 5 = .ok (.iload_n 1, 1) := by decide +kernel
theorem dX7_upwards_6 : decode cX7_upwards 6 = .ok (.idiv, 1) := by decide +kernel
theorem dX7_upwards_7 : decode cX7_upwards 7 = .ok (.ireturn, 1) := by decide +kernel
set_option maxRecDepth 100000 in
set_option maxHeartbeats 4000000 in
theorem con_X7_upwards (G : Gt) (a0 : Int32) (a1 : Int32)  (mem : Mem) : Con tvI G yX7_upwards cX7_upwards 2 (some .int) 1 [.int a0, .int a1] mem (X7_upwards a0 a1 mem) := by
  refine con_of (by decide) (Nat.le_of_ble_eq_true rfl) ?_
  show EvR tvI G cX7_upwards 2 (some .int) RX7 1 0 [(0, .int (a0)), (1, .int (a1))] [] mem _
  unfold X7_upwards
  refine ev_iload_n (q := 1) dX7_upwards_0 rfl 0 rfl rfl ?_
  refine ev_iload_n (q := 2) dX7_upwards_1 rfl 1 rfl rfl ?_
  refine ev_iadd (q := 3) dX7_upwards_2 rfl ?_
  refine ev_iconst (q := 4) (v := 1) dX7_upwards_3 rfl li_1 ?_
  refine ev_isub (q := 5) dX7_upwards_4 rfl ?_
  refine ev_iload_n (q := 6) dX7_upwards_5 rfl 1 rfl rfl ?_
  refine ev_idiv (q := 7) dX7_upwards_6 rfl ?_
  exact ev_iret dX7_upwards_7 rfl
/-! AgingLettersModel.firstCost(II)I -/
theorem dX7_firstCost_0 : decode cX7_firstCost 0 = .ok (.iload_n 0, 1) := by decide +kernel
theorem dX7_firstCost_1 : decode cX7_firstCost 1 = .ok (.tableswitch 45 1 4 #[31, 33, 37, 43], 31) := by decide +kernel
theorem dX7_firstCost_32 : decode cX7_firstCost 32 = .ok (.iload_n 1, 1) := by decide +kernel
theorem dX7_firstCost_33 : decode cX7_firstCost 33 = .ok (.ireturn, 1) := by decide +kernel
theorem dX7_firstCost_34 : decode cX7_firstCost 34 = .ok (.iconst 3, 1) := by decide +kernel
theorem dX7_firstCost_35 : decode cX7_firstCost 35 = .ok (.iload_n 1, 1) := by decide +kernel
theorem dX7_firstCost_36 : decode cX7_firstCost 36 = .ok (.imul, 1) := by decide +kernel
theorem dX7_firstCost_37 : decode cX7_firstCost 37 = .ok (.ireturn, 1) := by decide +kernel
theorem dX7_firstCost_38 : decode cX7_firstCost 38 = .ok (.iload_n 1, 1) := by decide +kernel
theorem dX7_firstCost_39 : decode cX7_firstCost 39 = .ok (.iconst 2, 1) := by decide +kernel
theorem dX7_firstCost_40 : decode cX7_firstCost 40 = .ok (.invokestatic 104, 3) := by decide +kernel
theorem dX7_firstCost_43 : decode cX7_firstCost 43 = .ok (.ireturn, 1) := by decide +kernel
theorem dX7_firstCost_44 : decode cX7_firstCost 44 = .ok (.iconst 0, 1) := by decide +kernel
theorem dX7_firstCost_45 : decode cX7_firstCost 45 = .ok (.ireturn, 1) := by decide +kernel
theorem dX7_firstCost_46 : decode cX7_firstCost 46 = .ok (.iload_n 1, 1) := by decide +kernel
theorem dX7_firstCost_47 : decode cX7_firstCost 47 = .ok (.bipush 10, 2) := by decide +kernel
theorem dX7_firstCost_49 : decode cX7_firstCost 49 = .ok (.invokestatic 104, 3) := by decide +kernel
theorem dX7_firstCost_52 : decode cX7_firstCost 52 = .ok (.ireturn, 1) := by decide +kernel
set_option maxRecDepth 100000 in
set_option maxHeartbeats 4000000 in
theorem con_X7_firstCost (G : Gt) (a0 : Int32) (a1 : Int32)  (mem : Mem) : Con tvI G yX7_firstCost cX7_firstCost 2 (some .int) 2 [.int a0, .int a1] mem (X7_firstCost a0 a1 mem) := by
  refine con_of (by decide) (Nat.le_of_ble_eq_true rfl) ?_
  show EvR tvI G cX7_firstCost 2 (some .int) RX7 2 0 [(0, .int (a0)), (1, .int (a1))] [] mem _
  unfold X7_firstCost
  refine ev_iload_n (q := 1) dX7_firstCost_0 rfl 0 rfl rfl ?_
  refine ev_ite (fun hc1 => ?_) (fun hc1 => ?_)
  · subst hc1
    refine ev_tsIn (t := 32) (off := 31) dX7_firstCost_1 (by decide) (by decide) (by decide) rfl ?_
    refine ev_iload_n (q := 33) dX7_firstCost_32 rfl 1 rfl rfl ?_
    exact ev_iret dX7_firstCost_33 rfl
  refine ev_ite (fun hc2 => ?_) (fun hc2 => ?_)
  · subst hc2
    refine ev_tsIn (t := 34) (off := 33) dX7_firstCost_1 (by decide) (by decide) (by decide) rfl ?_
    refine ev_iconst (q := 35) (v := 3) dX7_firstCost_34 rfl li_3 ?_
    refine ev_iload_n (q := 36) dX7_firstCost_35 rfl 1 rfl rfl ?_
    refine ev_imul (q := 37) dX7_firstCost_36 rfl ?_
    exact ev_iret dX7_firstCost_37 rfl
  refine ev_ite (fun hc3 => ?_) (fun hc3 => ?_)
  · subst hc3
    refine ev_tsIn (t := 38) (off := 37) dX7_firstCost_1 (by decide) (by decide) (by decide) rfl ?_
    refine ev_iload_n (q := 39) dX7_firstCost_38 rfl 1 rfl rfl ?_
    refine ev_iconst (q := 40) (v := 2) dX7_firstCost_39 rfl li_2 ?_
    refine ev_callSI (q := 43) dX7_firstCost_40 rfl ml_X7_104 mt_X7_upwards (con_X7_upwards G _ _  _) rfl (Nat.le_of_ble_eq_true rfl) (Nat.le_of_ble_eq_true rfl) rfl (Nat.le_of_ble_eq_true rfl) (fun r4 m5 => ?_)
    exact ev_iret dX7_firstCost_43 rfl
  refine ev_ite (fun hc6 => ?_) (fun hc6 => ?_)
  · subst hc6
    refine ev_tsIn (t := 44) (off := 43) dX7_firstCost_1 (by decide) (by decide) (by decide) rfl ?_
    refine ev_iconst (q := 45) (v := 0) dX7_firstCost_44 rfl li_0 ?_
    exact ev_iret dX7_firstCost_45 rfl
  refine ev_tsOut (t := 46) dX7_firstCost_1 (by have g0 := lv_neT hc1 (a := 1) (by decide); have g1 := lv_neT hc2 (a := 2) (by decide); have g2 := lv_neT hc3 (a := 3) (by decide); have g3 := lv_neT hc6 (a := 4) (by decide); omega) rfl ?_
  refine ev_iload_n (q := 47) dX7_firstCost_46 rfl 1 rfl rfl ?_
  refine ev_bipush (q := 49) (v := 10) dX7_firstCost_47 rfl lb_10 ?_
  refine ev_callSI (q := 52) dX7_firstCost_49 rfl ml_X7_104 mt_X7_upwards (con_X7_upwards G _ _  _) rfl (Nat.le_of_ble_eq_true rfl) (Nat.le_of_ble_eq_true rfl) rfl (Nat.le_of_ble_eq_true rfl) (fun r7 m8 => ?_)
  exact ev_iret dX7_firstCost_52 rfl
