/-! AgingLetters.copy(IIIII)I -/
theorem dX6_copy_0 : decode cX6_copy 0 = .ok (.aload_n 0, 1) := by decide +kernel
theorem dX6_copy_1 : decode cX6_copy 1 = .ok (.getfield 10, 3) := by decide +kernel
theorem dX6_copy_4 : decode cX6_copy 4 = .ok (.iload_n 1, 1) := by decide +kernel
theorem dX6_copy_5 : decode cX6_copy 5 = .ok (.invokevirtual 60, 3) := by decide +kernel
theorem dX6_copy_8 : decode cX6_copy 8 = .ok (.ifCond .eq 14, 3) := by decide +kernel
theorem dX6_copy_11 : decode cX6_copy 11 = .ok (.aload_n 0, 1) := by decide +kernel
theorem dX6_copy_12 : decode cX6_copy 12 = .ok (.getfield 10, 3) := by decide +kernel
theorem dX6_copy_15 : decode cX6_copy 15 = .ok (.iload_n 3, 1) := by decide +kernel
theorem dX6_copy_16 : decode cX6_copy 16 = .ok (.invokevirtual 60, 3) := by decide +kernel
theorem dX6_copy_19 : decode cX6_copy 19 = .ok (.ifCond .ne 6, 3) := by decide +kernel
theorem dX6_copy_22 : decode cX6_copy 22 = .ok (.ldc 67, 2) := by decide +kernel
theorem dX6_copy_24 : decode cX6_copy 24 = .ok (.ireturn, 1) := by decide +kernel
theorem dX6_copy_25 : decode cX6_copy 25 = .ok (.aload_n 0, 1) := by decide +kernel
theorem dX6_copy_26 : decode cX6_copy 26 = .ok (.getfield 10, 3) := by decide +kernel
theorem dX6_copy_29 : decode cX6_copy 29 = .ok (.iload_n 1, 1) := by decide +kernel
theorem dX6_copy_30 : decode cX6_copy 30 = .ok (.invokevirtual 79, 3) := by decide +kernel
theorem dX6_copy_33 : decode cX6_copy 33 = .ok (.ifCond .ne 14, 3) := by decide +kernel
theorem dX6_copy_36 : decode cX6_copy 36 = .ok (.aload_n 0, 1) := by decide +kernel
theorem dX6_copy_37 : decode cX6_copy 37 = .ok (.getfield 10, 3) := by decide +kernel
theorem dX6_copy_40 : decode cX6_copy 40 = .ok (.iload_n 3, 1) := by decide +kernel
theorem dX6_copy_41 : decode cX6_copy 41 = .ok (.invokevirtual 79, 3) := by decide +kernel
theorem dX6_copy_44 : decode cX6_copy 44 = .ok (.ifCond .eq 9, 3) := by decide +kernel
theorem dX6_copy_47 : decode cX6_copy 47 = .ok (.aload_n 0, 1) := by decide +kernel
theorem dX6_copy_48 : decode cX6_copy 48 = .ok (.iconst 1, 1) := by decide +kernel
theorem dX6_copy_49 : decode cX6_copy 49 = .ok (.invokevirtual 68, 3) := by decide +kernel
theorem dX6_copy_52 : decode cX6_copy 52 = .ok (.ireturn, 1) := by decide +kernel
theorem dX6_copy_53 : decode cX6_copy 53 = .ok (.aload_n 0, 1) := by decide +kernel
theorem dX6_copy_54 : decode cX6_copy 54 = .ok (.getfield 10, 3) := by decide +kernel
theorem dX6_copy_57 : decode cX6_copy 57 = .ok (.iload_n 1, 1) := by decide +kernel
theorem dX6_copy_58 : decode cX6_copy 58 = .ok (.iload_n 3, 1) := by decide +kernel
theorem dX6_copy_59 : decode cX6_copy 59 = .ok (.invokevirtual 90, 3) := by decide +kernel
theorem dX6_copy_62 : decode cX6_copy 62 = .ok (.ifCond .ne 9, 3) := by decide +kernel
theorem dX6_copy_65 : decode cX6_copy 65 = .ok (.aload_n 0, 1) := by decide +kernel
theorem dX6_copy_66 : decode cX6_copy 66 = .ok (.iconst 5, 1) := by decide +kernel
theorem dX6_copy_67 : decode cX6_copy 67 = .ok (.invokevirtual 68, 3) := by decide +kernel
theorem dX6_copy_70 : decode cX6_copy 70 = .ok (.ireturn, 1) := by decide +kernel
theorem dX6_copy_71 : decode cX6_copy 71 = .ok (.aload_n 0, 1) := by decide +kernel
theorem dX6_copy_72 : decode cX6_copy 72 = .ok (.getfield 10, 3) := by decide +kernel
theorem dX6_copy_75 : decode cX6_copy 75 = .ok (.iload_n 1, 1) := by decide +kernel
theorem dX6_copy_76 : decode cX6_copy 76 = .ok (.iload_n 2, 1) := by decide +kernel
theorem dX6_copy_77 : decode cX6_copy 77 = .ok (.iload 5, 2) := by decide +kernel
theorem dX6_copy_79 : decode cX6_copy 79 = .ok (.invokevirtual 82, 3) := by decide +kernel
theorem dX6_copy_82 : decode cX6_copy 82 = .ok (.ifCond .eq 18, 3) := by decide +kernel
theorem dX6_copy_85 : decode cX6_copy 85 = .ok (.aload_n 0, 1) := by decide +kernel
theorem dX6_copy_86 : decode cX6_copy 86 = .ok (.getfield 10, 3) := by decide +kernel
theorem dX6_copy_89 : decode cX6_copy 89 = .ok (.iload_n 3, 1) := by decide +kernel
theorem dX6_copy_90 : decode cX6_copy 90 = .ok (.iload 4, 2) := by decide +kernel
theorem dX6_copy_92 : decode cX6_copy 92 = .ok (.iload 5, 2) := by decide +kernel
theorem dX6_copy_94 : decode cX6_copy 94 = .ok (.invokevirtual 82, 3) := by decide +kernel
theorem dX6_copy_97 : decode cX6_copy 97 = .ok (.ifCond .ne 9, 3) := by decide +kernel
theorem dX6_copy_100 : decode cX6_copy 100 = .ok (.aload_n 0, 1) := by decide +kernel
theorem dX6_copy_101 : decode cX6_copy 101 = .ok (.iconst 2, 1) := by decide +kernel
theorem dX6_copy_102 : decode cX6_copy 102 = .ok (.invokevirtual 68, 3) := by decide +kernel
theorem dX6_copy_105 : decode cX6_copy 105 = .ok (.ireturn, 1) := by decide +kernel
theorem dX6_copy_106 : decode cX6_copy 106 = .ok (.aload_n 0, 1) := by decide +kernel
theorem dX6_copy_107 : decode cX6_copy 107 = .ok (.getfield 10, 3) := by decide +kernel
theorem dX6_copy_110 : decode cX6_copy 110 = .ok (.iload_n 1, 1) := by decide +kernel
theorem dX6_copy_111 : decode cX6_copy 111 = .ok (.iload_n 2, 1) := by decide +kernel
theorem dX6_copy_112 : decode cX6_copy 112 = .ok (.iload_n 3, 1) := by decide +kernel
theorem dX6_copy_113 : decode cX6_copy 113 = .ok (.iload 4, 2) := by decide +kernel
theorem dX6_copy_115 : decode cX6_copy 115 = .ok (.iload 5, 2) := by decide +kernel
theorem dX6_copy_117 : decode cX6_copy 117 = .ok (.invokevirtual 94, 3) := by decide +kernel
theorem dX6_copy_120 : decode cX6_copy 120 = .ok (.aload_n 0, 1) := by decide +kernel
theorem dX6_copy_121 : decode cX6_copy 121 = .ok (.iload 5, 2) := by decide +kernel
theorem dX6_copy_123 : decode cX6_copy 123 = .ok (.invokevirtual 76, 3) := by decide +kernel
theorem dX6_copy_126 : decode cX6_copy 126 = .ok (.ireturn, 1) := by decide +kernel
set_option maxRecDepth 100000 in
set_option maxHeartbeats 4000000 in
theorem X6_copy_b47_ok (G : Gt) (o : Nat) (ho : kd o = 6)     (mem : Mem) : EvR tvI G cX6_copy 6 (some .int) RX6 3 47 [(0, .ref (gA G o))] [] mem (X6_copy_b47 o  mem) := by
  unfold X6_copy_b47
  refine ev_aload_n (q := 48) dX6_copy_47 rfl 0 rfl rfl ?_
  refine ev_iconst (q := 49) (v := 1) dX6_copy_48 rfl li_1 ?_
  refine ev_callVI (q := 52) dX6_copy_49 rfl ml_X6_68 mt_X6_found cf_6 rfl ho hc_6 (con_X6_found G _ _ ho _) rfl (Nat.le_of_ble_eq_true rfl) (Nat.le_of_ble_eq_true rfl) rfl (Nat.le_of_ble_eq_true rfl) (fun r28 m29 => ?_)
  exact ev_iret dX6_copy_52 rfl
set_option maxRecDepth 100000 in
set_option maxHeartbeats 4000000 in
theorem X6_copy_b100_ok (G : Gt) (o : Nat) (ho : kd o = 6)     (mem : Mem) : EvR tvI G cX6_copy 6 (some .int) RX6 3 100 [(0, .ref (gA G o))] [] mem (X6_copy_b100 o  mem) := by
  unfold X6_copy_b100
  refine ev_aload_n (q := 101) dX6_copy_100 rfl 0 rfl rfl ?_
  refine ev_iconst (q := 102) (v := 2) dX6_copy_101 rfl li_2 ?_
  refine ev_callVI (q := 105) dX6_copy_102 rfl ml_X6_68 mt_X6_found cf_6 rfl ho hc_6 (con_X6_found G _ _ ho _) rfl (Nat.le_of_ble_eq_true rfl) (Nat.le_of_ble_eq_true rfl) rfl (Nat.le_of_ble_eq_true rfl) (fun r30 m31 => ?_)
  exact ev_iret dX6_copy_105 rfl
set_option maxRecDepth 100000 in
set_option maxHeartbeats 4000000 in
theorem con_X6_copy (G : Gt) (o : Nat) (a1 : Int32) (a2 : Int32) (a3 : Int32) (a4 : Int32) (a5 : Int32) (ho : kd o = 6) (mem : Mem) : Con tvI G yX6_copy cX6_copy 6 (some .int) 3 [.ref (gA G o), .int a1, .int a2, .int a3, .int a4, .int a5] mem (X6_copy o a1 a2 a3 a4 a5 mem) := by
  refine con_of (by decide) (Nat.le_of_ble_eq_true rfl) ?_
  show EvR tvI G cX6_copy 6 (some .int) RX6 3 0 [(0, .ref (gA G o)), (1, .int (a1)), (2, .int (a2)), (3, .int (a3)), (4, .int (a4)), (5, .int (a5))] [] mem _
  unfold X6_copy
  refine ev_aload_n (q := 1) dX6_copy_0 rfl 0 rfl rfl ?_
  refine ev_getR (q := 4) (ci := 6) (j := 0) (T := TX6) dX6_copy_1 rfl cf_6 ho hj_6_0 hc_6 gf_X6_10 rfl ?_
  refine ev_iload_n (q := 5) dX6_copy_4 rfl 1 rfl rfl ?_
  refine ev_callVI (q := 8) dX6_copy_5 rfl ml_X6_60 mt_X4_isRow cf_4 rfl (kr_6_0 ho) hc_4 (con_X4_isRow G _ _ (kr_6_0 ho) _) rfl (Nat.le_of_ble_eq_true rfl) (Nat.le_of_ble_eq_true rfl) rfl (Nat.le_of_ble_eq_true rfl) (fun r1 m2 => ?_)
  refine ev_if_eq (t := 22) (q := 11) dX6_copy_8 rfl rfl (fun hc3 => ?_) (fun hc3 => ?_)
  · refine ev_ldc (q := 24) (v := (-1000001)) dX6_copy_22 rfl kc_X6_67 ?_
    exact ev_iret dX6_copy_24 rfl
  · refine ev_aload_n (q := 12) dX6_copy_11 rfl 0 rfl rfl ?_
    refine ev_getR (q := 15) (ci := 6) (j := 0) (T := TX6) dX6_copy_12 rfl cf_6 ho hj_6_0 hc_6 gf_X6_10 rfl ?_
    refine ev_iload_n (q := 16) dX6_copy_15 rfl 3 rfl rfl ?_
    refine ev_callVI (q := 19) dX6_copy_16 rfl ml_X6_60 mt_X4_isRow cf_4 rfl (kr_6_0 ho) hc_4 (con_X4_isRow G _ _ (kr_6_0 ho) _) rfl (Nat.le_of_ble_eq_true rfl) (Nat.le_of_ble_eq_true rfl) rfl (Nat.le_of_ble_eq_true rfl) (fun r4 m5 => ?_)
    refine ev_if_ne (t := 25) (q := 22) dX6_copy_19 rfl rfl (fun hc6 => ?_) (fun hc6 => ?_)
    · refine ev_ldc (q := 24) (v := (-1000001)) dX6_copy_22 rfl kc_X6_67 ?_
      exact ev_iret dX6_copy_24 rfl
    · refine ev_aload_n (q := 26) dX6_copy_25 rfl 0 rfl rfl ?_
      refine ev_getR (q := 29) (ci := 6) (j := 0) (T := TX6) dX6_copy_26 rfl cf_6 ho hj_6_0 hc_6 gf_X6_10 rfl ?_
      refine ev_iload_n (q := 30) dX6_copy_29 rfl 1 rfl rfl ?_
      refine ev_callVI (q := 33) dX6_copy_30 rfl ml_X6_79 mt_X4_isMissing cf_4 rfl (kr_6_0 ho) hc_4 (con_X4_isMissing G _ _ (kr_6_0 ho) _) rfl (Nat.le_of_ble_eq_true rfl) (Nat.le_of_ble_eq_true rfl) rfl (Nat.le_of_ble_eq_true rfl) (fun r7 m8 => ?_)
      refine ev_if_ne (t := 47) (q := 36) dX6_copy_33 rfl rfl (fun hc9 => ?_) (fun hc9 => ?_)
      · refine ev_aload_n (q := 37) dX6_copy_36 rfl 0 rfl rfl ?_
        refine ev_getR (q := 40) (ci := 6) (j := 0) (T := TX6) dX6_copy_37 rfl cf_6 ho hj_6_0 hc_6 gf_X6_10 rfl ?_
        refine ev_iload_n (q := 41) dX6_copy_40 rfl 3 rfl rfl ?_
        refine ev_callVI (q := 44) dX6_copy_41 rfl ml_X6_79 mt_X4_isMissing cf_4 rfl (kr_6_0 ho) hc_4 (con_X4_isMissing G _ _ (kr_6_0 ho) _) rfl (Nat.le_of_ble_eq_true rfl) (Nat.le_of_ble_eq_true rfl) rfl (Nat.le_of_ble_eq_true rfl) (fun r10 m11 => ?_)
        refine ev_if_eq (t := 53) (q := 47) dX6_copy_44 rfl rfl (fun hc12 => ?_) (fun hc12 => ?_)
        · refine ev_aload_n (q := 54) dX6_copy_53 rfl 0 rfl rfl ?_
          refine ev_getR (q := 57) (ci := 6) (j := 0) (T := TX6) dX6_copy_54 rfl cf_6 ho hj_6_0 hc_6 gf_X6_10 rfl ?_
          refine ev_iload_n (q := 58) dX6_copy_57 rfl 1 rfl rfl ?_
          refine ev_iload_n (q := 59) dX6_copy_58 rfl 3 rfl rfl ?_
          refine ev_callVI (q := 62) dX6_copy_59 rfl ml_X6_90 mt_X4_haveOneLane cf_4 rfl (kr_6_0 ho) hc_4 (con_X4_haveOneLane G _ _ _ (kr_6_0 ho) _) rfl (Nat.le_of_ble_eq_true rfl) (Nat.le_of_ble_eq_true rfl) rfl (Nat.le_of_ble_eq_true rfl) (fun r13 m14 => ?_)
          refine ev_if_ne (t := 71) (q := 65) dX6_copy_62 rfl rfl (fun hc15 => ?_) (fun hc15 => ?_)
          · refine ev_aload_n (q := 66) dX6_copy_65 rfl 0 rfl rfl ?_
            refine ev_iconst (q := 67) (v := 5) dX6_copy_66 rfl li_5 ?_
            refine ev_callVI (q := 70) dX6_copy_67 rfl ml_X6_68 mt_X6_found cf_6 rfl ho hc_6 (con_X6_found G _ _ ho _) rfl (Nat.le_of_ble_eq_true rfl) (Nat.le_of_ble_eq_true rfl) rfl (Nat.le_of_ble_eq_true rfl) (fun r26 m27 => ?_)
            exact ev_iret dX6_copy_70 rfl
          · refine ev_aload_n (q := 72) dX6_copy_71 rfl 0 rfl rfl ?_
            refine ev_getR (q := 75) (ci := 6) (j := 0) (T := TX6) dX6_copy_72 rfl cf_6 ho hj_6_0 hc_6 gf_X6_10 rfl ?_
            refine ev_iload_n (q := 76) dX6_copy_75 rfl 1 rfl rfl ?_
            refine ev_iload_n (q := 77) dX6_copy_76 rfl 2 rfl rfl ?_
            refine ev_iload (q := 79) dX6_copy_77 5 rfl rfl ?_
            refine ev_callVI (q := 82) dX6_copy_79 rfl ml_X6_82 mt_X4_hasPlaces cf_4 rfl (kr_6_0 ho) hc_4 (con_X4_hasPlaces G _ _ _ _ (kr_6_0 ho) _) rfl (Nat.le_of_ble_eq_true rfl) (Nat.le_of_ble_eq_true rfl) rfl (Nat.le_of_ble_eq_true rfl) (fun r16 m17 => ?_)
            refine ev_if_eq (t := 100) (q := 85) dX6_copy_82 rfl rfl (fun hc18 => ?_) (fun hc18 => ?_)
            · refine ev_sub (lv' := [(0, .ref _)]) [0] rfl ?_
              exact X6_copy_b100_ok G o ho   _
            · refine ev_aload_n (q := 86) dX6_copy_85 rfl 0 rfl rfl ?_
              refine ev_getR (q := 89) (ci := 6) (j := 0) (T := TX6) dX6_copy_86 rfl cf_6 ho hj_6_0 hc_6 gf_X6_10 rfl ?_
              refine ev_iload_n (q := 90) dX6_copy_89 rfl 3 rfl rfl ?_
              refine ev_iload (q := 92) dX6_copy_90 4 rfl rfl ?_
              refine ev_iload (q := 94) dX6_copy_92 5 rfl rfl ?_
              refine ev_callVI (q := 97) dX6_copy_94 rfl ml_X6_82 mt_X4_hasPlaces cf_4 rfl (kr_6_0 ho) hc_4 (con_X4_hasPlaces G _ _ _ _ (kr_6_0 ho) _) rfl (Nat.le_of_ble_eq_true rfl) (Nat.le_of_ble_eq_true rfl) rfl (Nat.le_of_ble_eq_true rfl) (fun r19 m20 => ?_)
              refine ev_if_ne (t := 106) (q := 100) dX6_copy_97 rfl rfl (fun hc21 => ?_) (fun hc21 => ?_)
              · refine ev_sub (lv' := [(0, .ref _)]) [0] rfl ?_
                exact X6_copy_b100_ok G o ho   _
              · refine ev_aload_n (q := 107) dX6_copy_106 rfl 0 rfl rfl ?_
                refine ev_getR (q := 110) (ci := 6) (j := 0) (T := TX6) dX6_copy_107 rfl cf_6 ho hj_6_0 hc_6 gf_X6_10 rfl ?_
                refine ev_iload_n (q := 111) dX6_copy_110 rfl 1 rfl rfl ?_
                refine ev_iload_n (q := 112) dX6_copy_111 rfl 2 rfl rfl ?_
                refine ev_iload_n (q := 113) dX6_copy_112 rfl 3 rfl rfl ?_
                refine ev_iload (q := 115) dX6_copy_113 4 rfl rfl ?_
                refine ev_iload (q := 117) dX6_copy_115 5 rfl rfl ?_
                refine ev_callVU (q := 120) dX6_copy_117 rfl ml_X6_94 mt_X4_move cf_4 rfl (kr_6_0 ho) hc_4 (con_X4_move G _ _ _ _ _ _ (kr_6_0 ho) _) rfl (Nat.le_of_ble_eq_true rfl) (Nat.le_of_ble_eq_true rfl) rfl (Nat.le_of_ble_eq_true rfl) (fun r22 m23 => ?_)
                refine ev_aload_n (q := 121) dX6_copy_120 rfl 0 rfl rfl ?_
                refine ev_iload (q := 123) dX6_copy_121 5 rfl rfl ?_
                refine ev_callVI (q := 126) dX6_copy_123 rfl ml_X6_76 mt_X6_foundNothing cf_6 rfl ho hc_6 (con_X6_foundNothing G _ _ ho _) rfl (Nat.le_of_ble_eq_true rfl) (Nat.le_of_ble_eq_true rfl) rfl (Nat.le_of_ble_eq_true rfl) (fun r24 m25 => ?_)
                exact ev_iret dX6_copy_126 rfl
        · refine ev_sub (lv' := [(0, .ref _)]) [0] rfl ?_
          exact X6_copy_b47_ok G o ho   _
      · refine ev_sub (lv' := [(0, .ref _)]) [0] rfl ?_
        exact X6_copy_b47_ok G o ho   _
/-! AgingLetters.drop(I)I -/
theorem dX6_drop_0 : decode cX6_drop 0 = .ok (.aload_n 0, 1) := by decide +kernel
theorem dX6_drop_1 : decode cX6_drop 1 = .ok (.getfield 10, 3) := by decide +kernel
theorem dX6_drop_4 : decode cX6_drop 4 = .ok (.iload_n 1, 1) := by decide +kernel
theorem dX6_drop_5 : decode cX6_drop 5 = .ok (.invokevirtual 60, 3) := by decide +kernel
theorem dX6_drop_8 : decode cX6_drop 8 = .ok (.ifCond .ne 6, 3) := by decide +kernel
theorem dX6_drop_11 : decode cX6_drop 11 = .ok (.ldc 67, 2) := by decide +kernel
theorem dX6_drop_13 : decode cX6_drop 13 = .ok (.ireturn, 1) := by decide +kernel
theorem dX6_drop_14 : decode cX6_drop 14 = .ok (.aload_n 0, 1) := by decide +kernel
theorem dX6_drop_15 : decode cX6_drop 15 = .ok (.getfield 10, 3) := by decide +kernel
theorem dX6_drop_18 : decode cX6_drop 18 = .ok (.iload_n 1, 1) := by decide +kernel
theorem dX6_drop_19 : decode cX6_drop 19 = .ok (.invokevirtual 79, 3) := by decide +kernel
theorem dX6_drop_22 : decode cX6_drop 22 = .ok (.ifCond .eq 9, 3) := by decide +kernel
theorem dX6_drop_25 : decode cX6_drop 25 = .ok (.aload_n 0, 1) := by decide +kernel
theorem dX6_drop_26 : decode cX6_drop 26 = .ok (.iconst 1, 1) := by decide +kernel
theorem dX6_drop_27 : decode cX6_drop 27 = .ok (.invokevirtual 68, 3) := by decide +kernel
theorem dX6_drop_30 : decode cX6_drop 30 = .ok (.ireturn, 1) := by decide +kernel
theorem dX6_drop_31 : decode cX6_drop 31 = .ok (.aload_n 0, 1) := by decide +kernel
theorem dX6_drop_32 : decode cX6_drop 32 = .ok (.aload_n 0, 1) := by decide +kernel
theorem dX6_drop_33 : decode cX6_drop 33 = .ok (.getfield 10, 3) := by decide +kernel
theorem dX6_drop_36 : decode cX6_drop 36 = .ok (.iload_n 1, 1) := by decide +kernel
theorem dX6_drop_37 : decode cX6_drop 37 = .ok (.invokevirtual 98, 3) := by decide +kernel
theorem dX6_drop_40 : decode cX6_drop 40 = .ok (.invokevirtual 76, 3) := by decide +kernel
theorem dX6_drop_43 : decode cX6_drop 43 = .ok (.ireturn, 1) := by decide +kernel
set_option maxRecDepth 100000 in
set_option maxHeartbeats 4000000 in
theorem con_X6_drop (G : Gt) (o : Nat) (a1 : Int32) (ho : kd o = 6) (mem : Mem) : Con tvI G yX6_drop cX6_drop 2 (some .int) 2 [.ref (gA G o), .int a1] mem (X6_drop o a1 mem) := by
  refine con_of (by decide) (Nat.le_of_ble_eq_true rfl) ?_
  show EvR tvI G cX6_drop 2 (some .int) RX6 2 0 [(0, .ref (gA G o)), (1, .int (a1))] [] mem _
  unfold X6_drop
  refine ev_aload_n (q := 1) dX6_drop_0 rfl 0 rfl rfl ?_
  refine ev_getR (q := 4) (ci := 6) (j := 0) (T := TX6) dX6_drop_1 rfl cf_6 ho hj_6_0 hc_6 gf_X6_10 rfl ?_
  refine ev_iload_n (q := 5) dX6_drop_4 rfl 1 rfl rfl ?_
  refine ev_callVI (q := 8) dX6_drop_5 rfl ml_X6_60 mt_X4_isRow cf_4 rfl (kr_6_0 ho) hc_4 (con_X4_isRow G _ _ (kr_6_0 ho) _) rfl (Nat.le_of_ble_eq_true rfl) (Nat.le_of_ble_eq_true rfl) rfl (Nat.le_of_ble_eq_true rfl) (fun r1 m2 => ?_)
  refine ev_if_ne (t := 14) (q := 11) dX6_drop_8 rfl rfl (fun hc3 => ?_) (fun hc3 => ?_)
  · refine ev_ldc (q := 13) (v := (-1000001)) dX6_drop_11 rfl kc_X6_67 ?_
    exact ev_iret dX6_drop_13 rfl
  · refine ev_aload_n (q := 15) dX6_drop_14 rfl 0 rfl rfl ?_
    refine ev_getR (q := 18) (ci := 6) (j := 0) (T := TX6) dX6_drop_15 rfl cf_6 ho hj_6_0 hc_6 gf_X6_10 rfl ?_
    refine ev_iload_n (q := 19) dX6_drop_18 rfl 1 rfl rfl ?_
    refine ev_callVI (q := 22) dX6_drop_19 rfl ml_X6_79 mt_X4_isMissing cf_4 rfl (kr_6_0 ho) hc_4 (con_X4_isMissing G _ _ (kr_6_0 ho) _) rfl (Nat.le_of_ble_eq_true rfl) (Nat.le_of_ble_eq_true rfl) rfl (Nat.le_of_ble_eq_true rfl) (fun r4 m5 => ?_)
    refine ev_if_eq (t := 31) (q := 25) dX6_drop_22 rfl rfl (fun hc6 => ?_) (fun hc6 => ?_)
    · refine ev_aload_n (q := 32) dX6_drop_31 rfl 0 rfl rfl ?_
      refine ev_aload_n (q := 33) dX6_drop_32 rfl 0 rfl rfl ?_
      refine ev_getR (q := 36) (ci := 6) (j := 0) (T := TX6) dX6_drop_33 rfl cf_6 ho hj_6_0 hc_6 gf_X6_10 rfl ?_
      refine ev_iload_n (q := 37) dX6_drop_36 rfl 1 rfl rfl ?_
      refine ev_callVI (q := 40) dX6_drop_37 rfl ml_X6_98 mt_X4_remove cf_4 rfl (kr_6_0 ho) hc_4 (con_X4_remove G _ _ (kr_6_0 ho) _) rfl (Nat.le_of_ble_eq_true rfl) (Nat.le_of_ble_eq_true rfl) rfl (Nat.le_of_ble_eq_true rfl) (fun r7 m8 => ?_)
      refine ev_callVI (q := 43) dX6_drop_40 rfl ml_X6_76 mt_X6_foundNothing cf_6 rfl ho hc_6 (con_X6_foundNothing G _ _ ho _) rfl (Nat.le_of_ble_eq_true rfl) (Nat.le_of_ble_eq_true rfl) rfl (Nat.le_of_ble_eq_true rfl) (fun r9 m10 => ?_)
      exact ev_iret dX6_drop_43 rfl
    · refine ev_aload_n (q := 26) dX6_drop_25 rfl 0 rfl rfl ?_
      refine ev_iconst (q := 27) (v := 1) dX6_drop_26 rfl li_1 ?_
      refine ev_callVI (q := 30) dX6_drop_27 rfl ml_X6_68 mt_X6_found cf_6 rfl ho hc_6 (con_X6_found G _ _ ho _) rfl (Nat.le_of_ble_eq_true rfl) (Nat.le_of_ble_eq_true rfl) rfl (Nat.le_of_ble_eq_true rfl) (fun r11 m12 => ?_)
      exact ev_iret dX6_drop_30 rfl
/-! AgingLetters.feed(I)I -/
theorem dX6_feed_0 : decode cX6_feed 0 = .ok (.iload_n 1, 1) := by decide +kernel
theorem dX6_feed_1 : decode cX6_feed 1 = .ok (.ifCond .lt 10, 3) := by decide +kernel
theorem dX6_feed_4 : decode cX6_feed 4 = .ok (.iload_n 1, 1) := by decide +kernel
theorem dX6_feed_5 : decode cX6_feed 5 = .ok (.sipush 255, 3) := by decide +kernel
theorem dX6_feed_8 : decode cX6_feed 8 = .ok (.if_icmp .le 6, 3) := by decide +kernel
theorem dX6_feed_11 : decode cX6_feed 11 = .ok (.ldc 67, 2) := by decide +kernel
theorem dX6_feed_13 : decode cX6_feed 13 = .ok (.ireturn, 1) := by decide +kernel
theorem dX6_feed_14 : decode cX6_feed 14 = .ok (.aload_n 0, 1) := by decide +kernel
theorem dX6_feed_15 : decode cX6_feed 15 = .ok (.getfield 19, 3) := by decide +kernel
theorem dX6_feed_18 : decode cX6_feed 18 = .ok (.invokevirtual 101, 3) := by decide +kernel
theorem dX6_feed_21 : decode cX6_feed 21 = .ok (.ifCond .eq 6, 3) := by decide +kernel
theorem dX6_feed_24 : decode cX6_feed 24 = .ok (.ldc 105, 2) := by decide +kernel
theorem dX6_feed_26 : decode cX6_feed 26 = .ok (.ireturn, 1) := by decide +kernel
theorem dX6_feed_27 : decode cX6_feed 27 = .ok (.aload_n 0, 1) := by decide +kernel
theorem dX6_feed_28 : decode cX6_feed 28 = .ok (.getfield 19, 3) := by decide +kernel
theorem dX6_feed_31 : decode cX6_feed 31 = .ok (.iload_n 1, 1) := by decide +kernel
theorem dX6_feed_32 : decode cX6_feed 32 = .ok (.invokevirtual 106, 3) := by decide +kernel
theorem dX6_feed_35 : decode cX6_feed 35 = .ok (.ireturn, 1) := by decide +kernel
set_option maxRecDepth 100000 in
set_option maxHeartbeats 4000000 in
theorem con_X6_feed (G : Gt) (o : Nat) (a1 : Int32) (ho : kd o = 6) (mem : Mem) : Con tvI G yX6_feed cX6_feed 2 (some .int) 2 [.ref (gA G o), .int a1] mem (X6_feed o a1 mem) := by
  refine con_of (by decide) (Nat.le_of_ble_eq_true rfl) ?_
  show EvR tvI G cX6_feed 2 (some .int) RX6 2 0 [(0, .ref (gA G o)), (1, .int (a1))] [] mem _
  unfold X6_feed
  refine ev_iload_n (q := 1) dX6_feed_0 rfl 1 rfl rfl ?_
  refine ev_if_lt (t := 11) (q := 4) dX6_feed_1 rfl rfl (fun hc1 => ?_) (fun hc1 => ?_)
  · refine ev_ldc (q := 13) (v := (-1000001)) dX6_feed_11 rfl kc_X6_67 ?_
    exact ev_iret dX6_feed_13 rfl
  · refine ev_iload_n (q := 5) dX6_feed_4 rfl 1 rfl rfl ?_
    refine ev_sipush (q := 8) (v := 255) dX6_feed_5 rfl ls_255 ?_
    refine ev_icmp_le (t := 14) (q := 11) dX6_feed_8 rfl rfl (fun hc2 => ?_) (fun hc2 => ?_)
    · refine ev_ldc (q := 13) (v := (-1000001)) dX6_feed_11 rfl kc_X6_67 ?_
      exact ev_iret dX6_feed_13 rfl
    · refine ev_aload_n (q := 15) dX6_feed_14 rfl 0 rfl rfl ?_
      refine ev_getR (q := 18) (ci := 6) (j := 1) (T := TX6) dX6_feed_15 rfl cf_6 ho hj_6_1 hc_6 gf_X6_19 rfl ?_
      refine ev_callVI (q := 21) dX6_feed_18 rfl ml_X6_101 mt_X5_isFull cf_5 rfl (kr_6_1 ho) hc_5 (con_X5_isFull G _ (kr_6_1 ho) _) rfl (Nat.le_of_ble_eq_true rfl) (Nat.le_of_ble_eq_true rfl) rfl (Nat.le_of_ble_eq_true rfl) (fun r3 m4 => ?_)
      refine ev_if_eq (t := 27) (q := 24) dX6_feed_21 rfl rfl (fun hc5 => ?_) (fun hc5 => ?_)
      · refine ev_aload_n (q := 28) dX6_feed_27 rfl 0 rfl rfl ?_
        refine ev_getR (q := 31) (ci := 6) (j := 1) (T := TX6) dX6_feed_28 rfl cf_6 ho hj_6_1 hc_6 gf_X6_19 rfl ?_
        refine ev_iload_n (q := 32) dX6_feed_31 rfl 1 rfl rfl ?_
        refine ev_callVI (q := 35) dX6_feed_32 rfl ml_X6_106 mt_X5_append cf_5 rfl (kr_6_1 ho) hc_5 (con_X5_append G _ _ (kr_6_1 ho) _) rfl (Nat.le_of_ble_eq_true rfl) (Nat.le_of_ble_eq_true rfl) rfl (Nat.le_of_ble_eq_true rfl) (fun r6 m7 => ?_)
        exact ev_iret dX6_feed_35 rfl
      · refine ev_ldc (q := 26) (v := (-1000003)) dX6_feed_24 rfl kc_X6_105 ?_
        exact ev_iret dX6_feed_26 rfl
/-! AgingLetters.office()I -/
theorem dX6_office_0 : decode cX6_office 0 = .ok (.aload_n 0, 1) := by decide +kernel
theorem dX6_office_1 : decode cX6_office 1 = .ok (.getfield 19, 3) := by decide +kernel
theorem dX6_office_4 : decode cX6_office 4 = .ok (.aload_n 0, 1) := by decide +kernel
theorem dX6_office_5 : decode cX6_office 5 = .ok (.getfield 30, 3) := by decide +kernel
theorem dX6_office_8 : decode cX6_office 8 = .ok (.invokevirtual 109, 3) := by decide +kernel
theorem dX6_office_11 : decode cX6_office 11 = .ok (.istore_n 1, 1) := by decide +kernel
theorem dX6_office_12 : decode cX6_office 12 = .ok (.aload_n 0, 1) := by decide +kernel
theorem dX6_office_13 : decode cX6_office 13 = .ok (.getfield 19, 3) := by decide +kernel
theorem dX6_office_16 : decode cX6_office 16 = .ok (.invokevirtual 113, 3) := by decide +kernel
theorem dX6_office_19 : decode cX6_office 19 = .ok (.iload_n 1, 1) := by decide +kernel
theorem dX6_office_20 : decode cX6_office 20 = .ok (.ifCond .eq 19, 3) := by decide +kernel
theorem dX6_office_23 : decode cX6_office 23 = .ok (.aload_n 0, 1) := by decide +kernel
theorem dX6_office_24 : decode cX6_office 24 = .ok (.iload_n 1, 1) := by decide +kernel
theorem dX6_office_25 : decode cX6_office 25 = .ok (.putfield 116, 3) := by decide +kernel
theorem dX6_office_28 : decode cX6_office 28 = .ok (.ldc 120, 2) := by decide +kernel
theorem dX6_office_30 : decode cX6_office 30 = .ok (.aload_n 0, 1) := by decide +kernel
theorem dX6_office_31 : decode cX6_office 31 = .ok (.getfield 19, 3) := by decide +kernel
theorem dX6_office_34 : decode cX6_office 34 = .ok (.getfield 121, 3) := by decide +kernel
theorem dX6_office_37 : decode cX6_office 37 = .ok (.isub, 1) := by decide +kernel
theorem dX6_office_38 : decode cX6_office 38 = .ok (.ireturn, 1) := by decide +kernel
theorem dX6_office_39 : decode cX6_office 39 = .ok (.aload_n 0, 1) := by decide +kernel
theorem dX6_office_40 : decode cX6_office 40 = .ok (.getfield 26, 3) := by decide +kernel
theorem dX6_office_43 : decode cX6_office 43 = .ok (.aload_n 0, 1) := by decide +kernel
theorem dX6_office_44 : decode cX6_office 44 = .ok (.getfield 30, 3) := by decide +kernel
theorem dX6_office_47 : decode cX6_office 47 = .ok (.invokevirtual 124, 3) := by decide +kernel
theorem dX6_office_50 : decode cX6_office 50 = .ok (.aload_n 0, 1) := by decide +kernel
theorem dX6_office_51 : decode cX6_office 51 = .ok (.getfield 42, 3) := by decide +kernel
theorem dX6_office_54 : decode cX6_office 54 = .ok (.invokevirtual 128, 3) := by decide +kernel
theorem dX6_office_57 : decode cX6_office 57 = .ok (.aload_n 0, 1) := by decide +kernel
theorem dX6_office_58 : decode cX6_office 58 = .ok (.getfield 26, 3) := by decide +kernel
theorem dX6_office_61 : decode cX6_office 61 = .ok (.getfield 131, 3) := by decide +kernel
theorem dX6_office_64 : decode cX6_office 64 = .ok (.ireturn, 1) := by decide +kernel
set_option maxRecDepth 100000 in
set_option maxHeartbeats 4000000 in
theorem con_X6_office (G : Gt) (o : Nat) (ho : kd o = 6) (mem : Mem) : Con tvI G yX6_office cX6_office 2 (some .int) 5 [.ref (gA G o)] mem (X6_office o mem) := by
  refine con_of (by decide) (Nat.le_of_ble_eq_true rfl) ?_
  show EvR tvI G cX6_office 2 (some .int) RX6 5 0 [(0, .ref (gA G o))] [] mem _
  unfold X6_office
  refine ev_aload_n (q := 1) dX6_office_0 rfl 0 rfl rfl ?_
  refine ev_getR (q := 4) (ci := 6) (j := 1) (T := TX6) dX6_office_1 rfl cf_6 ho hj_6_1 hc_6 gf_X6_19 rfl ?_
  refine ev_aload_n (q := 5) dX6_office_4 rfl 0 rfl rfl ?_
  refine ev_getR (q := 8) (ci := 6) (j := 3) (T := TX6) dX6_office_5 rfl cf_6 ho hj_6_3 hc_6 gf_X6_30 rfl ?_
  refine ev_callVI (q := 11) dX6_office_8 rfl ml_X6_109 mt_X5_readInto cf_5 rfl (kr_6_1 ho) hc_5 (con_X5_readInto G _ _ (kr_6_1 ho) (kr_6_3 ho) _) rfl (Nat.le_of_ble_eq_true rfl) (Nat.le_of_ble_eq_true rfl) rfl (Nat.le_of_ble_eq_true rfl) (fun r1 m2 => ?_)
  refine ev_istore_n (q := 12) (lv2 := [(1, .int _), (0, .ref _)]) dX6_office_11 rfl rfl (Nat.le_of_ble_eq_true rfl) rfl ?_
  refine ev_aload_n (q := 13) dX6_office_12 rfl 1 rfl rfl ?_
  refine ev_getR (q := 16) (ci := 6) (j := 1) (T := TX6) dX6_office_13 rfl cf_6 ho hj_6_1 hc_6 gf_X6_19 rfl ?_
  refine ev_callVU (q := 19) dX6_office_16 rfl ml_X6_113 mt_X5_empty cf_5 rfl (kr_6_1 ho) hc_5 (con_X5_empty G _ (kr_6_1 ho) _) rfl (Nat.le_of_ble_eq_true rfl) (Nat.le_of_ble_eq_true rfl) rfl (Nat.le_of_ble_eq_true rfl) (fun r3 m4 => ?_)
  refine ev_iload_n (q := 20) dX6_office_19 rfl 0 rfl rfl ?_
  refine ev_if_eq (t := 39) (q := 23) dX6_office_20 rfl rfl (fun hc5 => ?_) (fun hc5 => ?_)
  · refine ev_aload_n (q := 40) dX6_office_39 rfl 1 rfl rfl ?_
    refine ev_getR (q := 43) (ci := 6) (j := 2) (T := TX6) dX6_office_40 rfl cf_6 ho hj_6_2 hc_6 gf_X6_26 rfl ?_
    refine ev_aload_n (q := 44) dX6_office_43 rfl 1 rfl rfl ?_
    refine ev_getR (q := 47) (ci := 6) (j := 3) (T := TX6) dX6_office_44 rfl cf_6 ho hj_6_3 hc_6 gf_X6_30 rfl ?_
    refine ev_callVU (q := 50) dX6_office_47 rfl ml_X6_124 mt_X3_becomes cf_3 rfl (kr_6_2 ho) hc_3 (con_X3_becomes G _ _ (kr_6_2 ho) (kr_6_3 ho) _) rfl (Nat.le_of_ble_eq_true rfl) (Nat.le_of_ble_eq_true rfl) rfl (Nat.le_of_ble_eq_true rfl) (fun r6 m7 => ?_)
    refine ev_aload_n (q := 51) dX6_office_50 rfl 1 rfl rfl ?_
    refine ev_getR (q := 54) (ci := 6) (j := 6) (T := TX6) dX6_office_51 rfl cf_6 ho hj_6_6 hc_6 gf_X6_42 rfl ?_
    refine ev_callVU (q := 57) dX6_office_54 rfl ml_X6_128 mt_X0_forgetAll cf_0 rfl (kr_6_6 ho) hc_0 (con_X0_forgetAll G _ (kr_6_6 ho) _) rfl (Nat.le_of_ble_eq_true rfl) (Nat.le_of_ble_eq_true rfl) rfl (Nat.le_of_ble_eq_true rfl) (fun r8 m9 => ?_)
    refine ev_aload_n (q := 58) dX6_office_57 rfl 1 rfl rfl ?_
    refine ev_getR (q := 61) (ci := 6) (j := 2) (T := TX6) dX6_office_58 rfl cf_6 ho hj_6_2 hc_6 gf_X6_26 rfl ?_
    refine ev_getI (q := 64) (ci := 3) (j := 7) (T := TX3) dX6_office_61 rfl cf_3 (kr_6_2 ho) hj_3_7 hc_3 gf_X6_131 rfl ?_
    exact ev_iret dX6_office_64 rfl
  · refine ev_aload_n (q := 24) dX6_office_23 rfl 1 rfl rfl ?_
    refine ev_iload_n (q := 25) dX6_office_24 rfl 0 rfl rfl ?_
    refine ev_putI (q := 28) (ci := 6) (j := 9) (T := TX6) dX6_office_25 rfl cf_6 ho hj_6_9 hc_6 gf_X6_116 rfl rfl (tyX6_ok 9 hj_6_9) ?_
    refine ev_ldc (q := 30) (v := (-1000100)) dX6_office_28 rfl kc_X6_120 ?_
    refine ev_aload_n (q := 31) dX6_office_30 rfl 1 rfl rfl ?_
    refine ev_getR (q := 34) (ci := 6) (j := 1) (T := TX6) dX6_office_31 rfl cf_6 ho hj_6_1 hc_6 gf_X6_19 rfl ?_
    refine ev_getI (q := 37) (ci := 5) (j := 2) (T := TX5) dX6_office_34 rfl cf_5 (kr_6_1 ho) hj_5_2 hc_5 gf_X6_121 rfl ?_
    refine ev_isub (q := 38) dX6_office_37 rfl ?_
    exact ev_iret dX6_office_38 rfl
/-! AgingLetters.fault()I -/
theorem dX6_fault_0 : decode cX6_fault 0 = .ok (.aload_n 0, 1) := by decide +kernel
theorem dX6_fault_1 : decode cX6_fault 1 = .ok (.getfield 116, 3) := by decide +kernel
theorem dX6_fault_4 : decode cX6_fault 4 = .ok (.ireturn, 1) := by decide +kernel
set_option maxRecDepth 100000 in
set_option maxHeartbeats 4000000 in
theorem con_X6_fault (G : Gt) (o : Nat) (ho : kd o = 6) (mem : Mem) : Con tvI G yX6_fault cX6_fault 1 (some .int) 1 [.ref (gA G o)] mem (X6_fault o mem) := by
  refine con_of (by decide) (Nat.le_of_ble_eq_true rfl) ?_
  show EvR tvI G cX6_fault 1 (some .int) RX6 1 0 [(0, .ref (gA G o))] [] mem _
  unfold X6_fault
  refine ev_aload_n (q := 1) dX6_fault_0 rfl 0 rfl rfl ?_
  refine ev_getI (q := 4) (ci := 6) (j := 9) (T := TX6) dX6_fault_1 rfl cf_6 ho hj_6_9 hc_6 gf_X6_116 rfl ?_
  exact ev_iret dX6_fault_4 rfl
/-! AgingLetters.read(II)I -/
theorem dX6_read_0 : decode cX6_read 0 = .ok (.aload_n 0, 1) := by decide +kernel
theorem dX6_read_1 : decode cX6_read 1 = .ok (.getfield 26, 3) := by decide +kernel
theorem dX6_read_4 : decode cX6_read 4 = .ok (.iload_n 1, 1) := by decide +kernel
theorem dX6_read_5 : decode cX6_read 5 = .ok (.invokevirtual 134, 3) := by decide +kernel
theorem dX6_read_8 : decode cX6_read 8 = .ok (.ifCond .eq 14, 3) := by decide +kernel
theorem dX6_read_11 : decode cX6_read 11 = .ok (.aload_n 0, 1) := by decide +kernel
theorem dX6_read_12 : decode cX6_read 12 = .ok (.getfield 26, 3) := by decide +kernel
theorem dX6_read_15 : decode cX6_read 15 = .ok (.iload_n 2, 1) := by decide +kernel
theorem dX6_read_16 : decode cX6_read 16 = .ok (.invokevirtual 137, 3) := by decide +kernel
theorem dX6_read_19 : decode cX6_read 19 = .ok (.ifCond .ne 6, 3) := by decide +kernel
theorem dX6_read_22 : decode cX6_read 22 = .ok (.ldc 67, 2) := by decide +kernel
theorem dX6_read_24 : decode cX6_read 24 = .ok (.ireturn, 1) := by decide +kernel
theorem dX6_read_25 : decode cX6_read 25 = .ok (.aload_n 0, 1) := by decide +kernel
theorem dX6_read_26 : decode cX6_read 26 = .ok (.getfield 26, 3) := by decide +kernel
theorem dX6_read_29 : decode cX6_read 29 = .ok (.iload_n 1, 1) := by decide +kernel
theorem dX6_read_30 : decode cX6_read 30 = .ok (.invokevirtual 140, 3) := by decide +kernel
theorem dX6_read_33 : decode cX6_read 33 = .ok (.ifCond .ne 6, 3) := by decide +kernel
theorem dX6_read_36 : decode cX6_read 36 = .ok (.ldc 143, 2) := by decide +kernel
theorem dX6_read_38 : decode cX6_read 38 = .ok (.ireturn, 1) := by decide +kernel
theorem dX6_read_39 : decode cX6_read 39 = .ok (.aload_n 0, 1) := by decide +kernel
theorem dX6_read_40 : decode cX6_read 40 = .ok (.getfield 42, 3) := by decide +kernel
theorem dX6_read_43 : decode cX6_read 43 = .ok (.aload_n 0, 1) := by decide +kernel
theorem dX6_read_44 : decode cX6_read 44 = .ok (.getfield 26, 3) := by decide +kernel
theorem dX6_read_47 : decode cX6_read 47 = .ok (.iload_n 1, 1) := by decide +kernel
theorem dX6_read_48 : decode cX6_read 48 = .ok (.iload_n 2, 1) := by decide +kernel
theorem dX6_read_49 : decode cX6_read 49 = .ok (.iconst 0, 1) := by decide +kernel
theorem dX6_read_50 : decode cX6_read 50 = .ok (.invokevirtual 144, 3) := by decide +kernel
theorem dX6_read_53 : decode cX6_read 53 = .ok (.aload_n 0, 1) := by decide +kernel
theorem dX6_read_54 : decode cX6_read 54 = .ok (.getfield 26, 3) := by decide +kernel
theorem dX6_read_57 : decode cX6_read 57 = .ok (.getfield 148, 3) := by decide +kernel
theorem dX6_read_60 : decode cX6_read 60 = .ok (.iload_n 1, 1) := by decide +kernel
theorem dX6_read_61 : decode cX6_read 61 = .ok (.iaload, 1) := by decide +kernel
theorem dX6_read_62 : decode cX6_read 62 = .ok (.ireturn, 1) := by decide +kernel
set_option maxRecDepth 100000 in
set_option maxHeartbeats 4000000 in
theorem con_X6_read (G : Gt) (o : Nat) (a1 : Int32) (a2 : Int32) (ho : kd o = 6) (mem : Mem) : Con tvI G yX6_read cX6_read 3 (some .int) 6 [.ref (gA G o), .int a1, .int a2] mem (X6_read o a1 a2 mem) := by
  refine con_of (by decide) (Nat.le_of_ble_eq_true rfl) ?_
  show EvR tvI G cX6_read 3 (some .int) RX6 6 0 [(0, .ref (gA G o)), (1, .int (a1)), (2, .int (a2))] [] mem _
  unfold X6_read
  refine ev_aload_n (q := 1) dX6_read_0 rfl 0 rfl rfl ?_
  refine ev_getR (q := 4) (ci := 6) (j := 2) (T := TX6) dX6_read_1 rfl cf_6 ho hj_6_2 hc_6 gf_X6_26 rfl ?_
  refine ev_iload_n (q := 5) dX6_read_4 rfl 1 rfl rfl ?_
  refine ev_callVI (q := 8) dX6_read_5 rfl ml_X6_134 mt_X3_hasReader cf_3 rfl (kr_6_2 ho) hc_3 (con_X3_hasReader G _ _ (kr_6_2 ho) _) rfl (Nat.le_of_ble_eq_true rfl) (Nat.le_of_ble_eq_true rfl) rfl (Nat.le_of_ble_eq_true rfl) (fun r1 m2 => ?_)
  refine ev_if_eq (t := 22) (q := 11) dX6_read_8 rfl rfl (fun hc3 => ?_) (fun hc3 => ?_)
  · refine ev_ldc (q := 24) (v := (-1000001)) dX6_read_22 rfl kc_X6_67 ?_
    exact ev_iret dX6_read_24 rfl
  · refine ev_aload_n (q := 12) dX6_read_11 rfl 0 rfl rfl ?_
    refine ev_getR (q := 15) (ci := 6) (j := 2) (T := TX6) dX6_read_12 rfl cf_6 ho hj_6_2 hc_6 gf_X6_26 rfl ?_
    refine ev_iload_n (q := 16) dX6_read_15 rfl 2 rfl rfl ?_
    refine ev_callVI (q := 19) dX6_read_16 rfl ml_X6_137 mt_X3_hasLetter cf_3 rfl (kr_6_2 ho) hc_3 (con_X3_hasLetter G _ _ (kr_6_2 ho) _) rfl (Nat.le_of_ble_eq_true rfl) (Nat.le_of_ble_eq_true rfl) rfl (Nat.le_of_ble_eq_true rfl) (fun r4 m5 => ?_)
    refine ev_if_ne (t := 25) (q := 22) dX6_read_19 rfl rfl (fun hc6 => ?_) (fun hc6 => ?_)
    · refine ev_ldc (q := 24) (v := (-1000001)) dX6_read_22 rfl kc_X6_67 ?_
      exact ev_iret dX6_read_24 rfl
    · refine ev_aload_n (q := 26) dX6_read_25 rfl 0 rfl rfl ?_
      refine ev_getR (q := 29) (ci := 6) (j := 2) (T := TX6) dX6_read_26 rfl cf_6 ho hj_6_2 hc_6 gf_X6_26 rfl ?_
      refine ev_iload_n (q := 30) dX6_read_29 rfl 1 rfl rfl ?_
      refine ev_callVI (q := 33) dX6_read_30 rfl ml_X6_140 mt_X3_isFit cf_3 rfl (kr_6_2 ho) hc_3 (con_X3_isFit G _ _ (kr_6_2 ho) _) rfl (Nat.le_of_ble_eq_true rfl) (Nat.le_of_ble_eq_true rfl) rfl (Nat.le_of_ble_eq_true rfl) (fun r7 m8 => ?_)
      refine ev_if_ne (t := 39) (q := 36) dX6_read_33 rfl rfl (fun hc9 => ?_) (fun hc9 => ?_)
      · refine ev_ldc (q := 38) (v := (-1000002)) dX6_read_36 rfl kc_X6_143 ?_
        exact ev_iret dX6_read_38 rfl
      · refine ev_aload_n (q := 40) dX6_read_39 rfl 0 rfl rfl ?_
        refine ev_getR (q := 43) (ci := 6) (j := 6) (T := TX6) dX6_read_40 rfl cf_6 ho hj_6_6 hc_6 gf_X6_42 rfl ?_
        refine ev_aload_n (q := 44) dX6_read_43 rfl 0 rfl rfl ?_
        refine ev_getR (q := 47) (ci := 6) (j := 2) (T := TX6) dX6_read_44 rfl cf_6 ho hj_6_2 hc_6 gf_X6_26 rfl ?_
        refine ev_iload_n (q := 48) dX6_read_47 rfl 1 rfl rfl ?_
        refine ev_iload_n (q := 49) dX6_read_48 rfl 2 rfl rfl ?_
        refine ev_iconst (q := 50) (v := 0) dX6_read_49 rfl li_0 ?_
        refine ev_callVU (q := 53) dX6_read_50 rfl ml_X6_144 mt_X0_letRead cf_0 rfl (kr_6_6 ho) hc_0 (con_X0_letRead G _ _ _ _ _ (kr_6_6 ho) (kr_6_2 ho) _) rfl (Nat.le_of_ble_eq_true rfl) (Nat.le_of_ble_eq_true rfl) rfl (Nat.le_of_ble_eq_true rfl) (fun r10 m11 => ?_)
        refine ev_aload_n (q := 54) dX6_read_53 rfl 0 rfl rfl ?_
        refine ev_getR (q := 57) (ci := 6) (j := 2) (T := TX6) dX6_read_54 rfl cf_6 ho hj_6_2 hc_6 gf_X6_26 rfl ?_
        refine ev_getR (q := 60) (ci := 3) (j := 9) (T := TX3) dX6_read_57 rfl cf_3 (kr_6_2 ho) hj_3_9 hc_3 gf_X6_148 rfl ?_
        refine ev_iload_n (q := 61) dX6_read_60 rfl 1 rfl rfl ?_
        refine ev_iald (q := 62) dX6_read_61 rfl (kr_3_9 (kr_6_2 ho)) (fun z12 => ?_)
        exact ev_iret dX6_read_62 rfl
/-! AgingLetters.aloud(III)I -/
theorem dX6_aloud_0 : decode cX6_aloud 0 = .ok (.aload_n 0, 1) := by decide +kernel
theorem dX6_aloud_1 : decode cX6_aloud 1 = .ok (.getfield 26, 3) := by decide +kernel
theorem dX6_aloud_4 : decode cX6_aloud 4 = .ok (.iload_n 1, 1) := by decide +kernel
theorem dX6_aloud_5 : decode cX6_aloud 5 = .ok (.invokevirtual 134, 3) := by decide +kernel
theorem dX6_aloud_8 : decode cX6_aloud 8 = .ok (.ifCond .eq 14, 3) := by decide +kernel
theorem dX6_aloud_11 : decode cX6_aloud 11 = .ok (.aload_n 0, 1) := by decide +kernel
theorem dX6_aloud_12 : decode cX6_aloud 12 = .ok (.getfield 26, 3) := by decide +kernel
theorem dX6_aloud_15 : decode cX6_aloud 15 = .ok (.iload_n 3, 1) := by decide +kernel
theorem dX6_aloud_16 : decode cX6_aloud 16 = .ok (.invokevirtual 137, 3) := by decide +kernel
theorem dX6_aloud_19 : decode cX6_aloud 19 = .ok (.ifCond .ne 6, 3) := by decide +kernel
theorem dX6_aloud_22 : decode cX6_aloud 22 = .ok (.ldc 67, 2) := by decide +kernel
theorem dX6_aloud_24 : decode cX6_aloud 24 = .ok (.ireturn, 1) := by decide +kernel
theorem dX6_aloud_25 : decode cX6_aloud 25 = .ok (.aload_n 0, 1) := by decide +kernel
theorem dX6_aloud_26 : decode cX6_aloud 26 = .ok (.getfield 26, 3) := by decide +kernel
theorem dX6_aloud_29 : decode cX6_aloud 29 = .ok (.iload_n 2, 1) := by decide +kernel
theorem dX6_aloud_30 : decode cX6_aloud 30 = .ok (.invokevirtual 152, 3) := by decide +kernel
theorem dX6_aloud_33 : decode cX6_aloud 33 = .ok (.ifCond .eq 11, 3) := by decide +kernel
theorem dX6_aloud_36 : decode cX6_aloud 36 = .ok (.iload_n 2, 1) := by decide +kernel
theorem dX6_aloud_37 : decode cX6_aloud 37 = .ok (.iload_n 1, 1) := by decide +kernel
theorem dX6_aloud_38 : decode cX6_aloud 38 = .ok (.invokestatic 155, 3) := by decide +kernel
theorem dX6_aloud_41 : decode cX6_aloud 41 = .ok (.ifCond .eq 6, 3) := by decide +kernel
theorem dX6_aloud_44 : decode cX6_aloud 44 = .ok (.ldc 67, 2) := by decide +kernel
theorem dX6_aloud_46 : decode cX6_aloud 46 = .ok (.ireturn, 1) := by decide +kernel
theorem dX6_aloud_47 : decode cX6_aloud 47 = .ok (.aload_n 0, 1) := by decide +kernel
theorem dX6_aloud_48 : decode cX6_aloud 48 = .ok (.getfield 26, 3) := by decide +kernel
theorem dX6_aloud_51 : decode cX6_aloud 51 = .ok (.iload_n 1, 1) := by decide +kernel
theorem dX6_aloud_52 : decode cX6_aloud 52 = .ok (.invokevirtual 140, 3) := by decide +kernel
theorem dX6_aloud_55 : decode cX6_aloud 55 = .ok (.ifCond .eq 14, 3) := by decide +kernel
theorem dX6_aloud_58 : decode cX6_aloud 58 = .ok (.aload_n 0, 1) := by decide +kernel
theorem dX6_aloud_59 : decode cX6_aloud 59 = .ok (.getfield 26, 3) := by decide +kernel
theorem dX6_aloud_62 : decode cX6_aloud 62 = .ok (.iload_n 2, 1) := by decide +kernel
theorem dX6_aloud_63 : decode cX6_aloud 63 = .ok (.invokevirtual 158, 3) := by decide +kernel
theorem dX6_aloud_66 : decode cX6_aloud 66 = .ok (.ifCond .ne 6, 3) := by decide +kernel
theorem dX6_aloud_69 : decode cX6_aloud 69 = .ok (.ldc 143, 2) := by decide +kernel
theorem dX6_aloud_71 : decode cX6_aloud 71 = .ok (.ireturn, 1) := by decide +kernel
theorem dX6_aloud_72 : decode cX6_aloud 72 = .ok (.aload_n 0, 1) := by decide +kernel
theorem dX6_aloud_73 : decode cX6_aloud 73 = .ok (.getfield 42, 3) := by decide +kernel
theorem dX6_aloud_76 : decode cX6_aloud 76 = .ok (.aload_n 0, 1) := by decide +kernel
theorem dX6_aloud_77 : decode cX6_aloud 77 = .ok (.getfield 26, 3) := by decide +kernel
theorem dX6_aloud_80 : decode cX6_aloud 80 = .ok (.iload_n 1, 1) := by decide +kernel
theorem dX6_aloud_81 : decode cX6_aloud 81 = .ok (.iload_n 3, 1) := by decide +kernel
theorem dX6_aloud_82 : decode cX6_aloud 82 = .ok (.iload_n 2, 1) := by decide +kernel
theorem dX6_aloud_83 : decode cX6_aloud 83 = .ok (.invokevirtual 144, 3) := by decide +kernel
theorem dX6_aloud_86 : decode cX6_aloud 86 = .ok (.aload_n 0, 1) := by decide +kernel
theorem dX6_aloud_87 : decode cX6_aloud 87 = .ok (.getfield 26, 3) := by decide +kernel
theorem dX6_aloud_90 : decode cX6_aloud 90 = .ok (.getfield 148, 3) := by decide +kernel
theorem dX6_aloud_93 : decode cX6_aloud 93 = .ok (.iload_n 1, 1) := by decide +kernel
theorem dX6_aloud_94 : decode cX6_aloud 94 = .ok (.iaload, 1) := by decide +kernel
theorem dX6_aloud_95 : decode cX6_aloud 95 = .ok (.ireturn, 1) := by decide +kernel
set_option maxRecDepth 100000 in
set_option maxHeartbeats 4000000 in
theorem con_X6_aloud (G : Gt) (o : Nat) (a1 : Int32) (a2 : Int32) (a3 : Int32) (ho : kd o = 6) (mem : Mem) : Con tvI G yX6_aloud cX6_aloud 4 (some .int) 6 [.ref (gA G o), .int a1, .int a2, .int a3] mem (X6_aloud o a1 a2 a3 mem) := by
  refine con_of (by decide) (Nat.le_of_ble_eq_true rfl) ?_
  show EvR tvI G cX6_aloud 4 (some .int) RX6 6 0 [(0, .ref (gA G o)), (1, .int (a1)), (2, .int (a2)), (3, .int (a3))] [] mem _
  unfold X6_aloud
  refine ev_aload_n (q := 1) dX6_aloud_0 rfl 0 rfl rfl ?_
  refine ev_getR (q := 4) (ci := 6) (j := 2) (T := TX6) dX6_aloud_1 rfl cf_6 ho hj_6_2 hc_6 gf_X6_26 rfl ?_
  refine ev_iload_n (q := 5) dX6_aloud_4 rfl 1 rfl rfl ?_
  refine ev_callVI (q := 8) dX6_aloud_5 rfl ml_X6_134 mt_X3_hasReader cf_3 rfl (kr_6_2 ho) hc_3 (con_X3_hasReader G _ _ (kr_6_2 ho) _) rfl (Nat.le_of_ble_eq_true rfl) (Nat.le_of_ble_eq_true rfl) rfl (Nat.le_of_ble_eq_true rfl) (fun r1 m2 => ?_)
  refine ev_if_eq (t := 22) (q := 11) dX6_aloud_8 rfl rfl (fun hc3 => ?_) (fun hc3 => ?_)
  · refine ev_ldc (q := 24) (v := (-1000001)) dX6_aloud_22 rfl kc_X6_67 ?_
    exact ev_iret dX6_aloud_24 rfl
  · refine ev_aload_n (q := 12) dX6_aloud_11 rfl 0 rfl rfl ?_
    refine ev_getR (q := 15) (ci := 6) (j := 2) (T := TX6) dX6_aloud_12 rfl cf_6 ho hj_6_2 hc_6 gf_X6_26 rfl ?_
    refine ev_iload_n (q := 16) dX6_aloud_15 rfl 3 rfl rfl ?_
    refine ev_callVI (q := 19) dX6_aloud_16 rfl ml_X6_137 mt_X3_hasLetter cf_3 rfl (kr_6_2 ho) hc_3 (con_X3_hasLetter G _ _ (kr_6_2 ho) _) rfl (Nat.le_of_ble_eq_true rfl) (Nat.le_of_ble_eq_true rfl) rfl (Nat.le_of_ble_eq_true rfl) (fun r4 m5 => ?_)
    refine ev_if_ne (t := 25) (q := 22) dX6_aloud_19 rfl rfl (fun hc6 => ?_) (fun hc6 => ?_)
    · refine ev_ldc (q := 24) (v := (-1000001)) dX6_aloud_22 rfl kc_X6_67 ?_
      exact ev_iret dX6_aloud_24 rfl
    · refine ev_aload_n (q := 26) dX6_aloud_25 rfl 0 rfl rfl ?_
      refine ev_getR (q := 29) (ci := 6) (j := 2) (T := TX6) dX6_aloud_26 rfl cf_6 ho hj_6_2 hc_6 gf_X6_26 rfl ?_
      refine ev_iload_n (q := 30) dX6_aloud_29 rfl 2 rfl rfl ?_
      refine ev_callVI (q := 33) dX6_aloud_30 rfl ml_X6_152 mt_X3_hasReaders cf_3 rfl (kr_6_2 ho) hc_3 (con_X3_hasReaders G _ _ (kr_6_2 ho) _) rfl (Nat.le_of_ble_eq_true rfl) (Nat.le_of_ble_eq_true rfl) rfl (Nat.le_of_ble_eq_true rfl) (fun r7 m8 => ?_)
      refine ev_if_eq (t := 44) (q := 36) dX6_aloud_33 rfl rfl (fun hc9 => ?_) (fun hc9 => ?_)
      · refine ev_ldc (q := 46) (v := (-1000001)) dX6_aloud_44 rfl kc_X6_67 ?_
        exact ev_iret dX6_aloud_46 rfl
      · refine ev_iload_n (q := 37) dX6_aloud_36 rfl 2 rfl rfl ?_
        refine ev_iload_n (q := 38) dX6_aloud_37 rfl 1 rfl rfl ?_
        refine ev_callSI (q := 41) dX6_aloud_38 rfl ml_X6_155 mt_X6_inSet (con_X6_inSet G _ _  _) rfl (Nat.le_of_ble_eq_true rfl) (Nat.le_of_ble_eq_true rfl) rfl (Nat.le_of_ble_eq_true rfl) (fun r10 m11 => ?_)
        refine ev_if_eq (t := 47) (q := 44) dX6_aloud_41 rfl rfl (fun hc12 => ?_) (fun hc12 => ?_)
        · refine ev_aload_n (q := 48) dX6_aloud_47 rfl 0 rfl rfl ?_
          refine ev_getR (q := 51) (ci := 6) (j := 2) (T := TX6) dX6_aloud_48 rfl cf_6 ho hj_6_2 hc_6 gf_X6_26 rfl ?_
          refine ev_iload_n (q := 52) dX6_aloud_51 rfl 1 rfl rfl ?_
          refine ev_callVI (q := 55) dX6_aloud_52 rfl ml_X6_140 mt_X3_isFit cf_3 rfl (kr_6_2 ho) hc_3 (con_X3_isFit G _ _ (kr_6_2 ho) _) rfl (Nat.le_of_ble_eq_true rfl) (Nat.le_of_ble_eq_true rfl) rfl (Nat.le_of_ble_eq_true rfl) (fun r13 m14 => ?_)
          refine ev_if_eq (t := 69) (q := 58) dX6_aloud_55 rfl rfl (fun hc15 => ?_) (fun hc15 => ?_)
          · refine ev_ldc (q := 71) (v := (-1000002)) dX6_aloud_69 rfl kc_X6_143 ?_
            exact ev_iret dX6_aloud_71 rfl
          · refine ev_aload_n (q := 59) dX6_aloud_58 rfl 0 rfl rfl ?_
            refine ev_getR (q := 62) (ci := 6) (j := 2) (T := TX6) dX6_aloud_59 rfl cf_6 ho hj_6_2 hc_6 gf_X6_26 rfl ?_
            refine ev_iload_n (q := 63) dX6_aloud_62 rfl 2 rfl rfl ?_
            refine ev_callVI (q := 66) dX6_aloud_63 rfl ml_X6_158 mt_X3_areAlive cf_3 rfl (kr_6_2 ho) hc_3 (con_X3_areAlive G _ _ (kr_6_2 ho) _) rfl (Nat.le_of_ble_eq_true rfl) (Nat.le_of_ble_eq_true rfl) rfl (Nat.le_of_ble_eq_true rfl) (fun r16 m17 => ?_)
            refine ev_if_ne (t := 72) (q := 69) dX6_aloud_66 rfl rfl (fun hc18 => ?_) (fun hc18 => ?_)
            · refine ev_ldc (q := 71) (v := (-1000002)) dX6_aloud_69 rfl kc_X6_143 ?_
              exact ev_iret dX6_aloud_71 rfl
            · refine ev_aload_n (q := 73) dX6_aloud_72 rfl 0 rfl rfl ?_
              refine ev_getR (q := 76) (ci := 6) (j := 6) (T := TX6) dX6_aloud_73 rfl cf_6 ho hj_6_6 hc_6 gf_X6_42 rfl ?_
              refine ev_aload_n (q := 77) dX6_aloud_76 rfl 0 rfl rfl ?_
              refine ev_getR (q := 80) (ci := 6) (j := 2) (T := TX6) dX6_aloud_77 rfl cf_6 ho hj_6_2 hc_6 gf_X6_26 rfl ?_
              refine ev_iload_n (q := 81) dX6_aloud_80 rfl 1 rfl rfl ?_
              refine ev_iload_n (q := 82) dX6_aloud_81 rfl 3 rfl rfl ?_
              refine ev_iload_n (q := 83) dX6_aloud_82 rfl 2 rfl rfl ?_
              refine ev_callVU (q := 86) dX6_aloud_83 rfl ml_X6_144 mt_X0_letRead cf_0 rfl (kr_6_6 ho) hc_0 (con_X0_letRead G _ _ _ _ _ (kr_6_6 ho) (kr_6_2 ho) _) rfl (Nat.le_of_ble_eq_true rfl) (Nat.le_of_ble_eq_true rfl) rfl (Nat.le_of_ble_eq_true rfl) (fun r19 m20 => ?_)
              refine ev_aload_n (q := 87) dX6_aloud_86 rfl 0 rfl rfl ?_
              refine ev_getR (q := 90) (ci := 6) (j := 2) (T := TX6) dX6_aloud_87 rfl cf_6 ho hj_6_2 hc_6 gf_X6_26 rfl ?_
              refine ev_getR (q := 93) (ci := 3) (j := 9) (T := TX3) dX6_aloud_90 rfl cf_3 (kr_6_2 ho) hj_3_9 hc_3 gf_X6_148 rfl ?_
              refine ev_iload_n (q := 94) dX6_aloud_93 rfl 1 rfl rfl ?_
              refine ev_iald (q := 95) dX6_aloud_94 rfl (kr_3_9 (kr_6_2 ho)) (fun z21 => ?_)
              exact ev_iret dX6_aloud_95 rfl
        · refine ev_ldc (q := 46) (v := (-1000001)) dX6_aloud_44 rfl kc_X6_67 ?_
          exact ev_iret dX6_aloud_46 rfl
/-! AgingLetters.cross(II)I -/
theorem dX6_cross_0 : decode cX6_cross 0 = .ok (.aload_n 0, 1) := by decide +kernel
theorem dX6_cross_1 : decode cX6_cross 1 = .ok (.getfield 26, 3) := by decide +kernel
theorem dX6_cross_4 : decode cX6_cross 4 = .ok (.iload_n 1, 1) := by decide +kernel
theorem dX6_cross_5 : decode cX6_cross 5 = .ok (.invokevirtual 137, 3) := by decide +kernel
theorem dX6_cross_8 : decode cX6_cross 8 = .ok (.ifCond .eq 14, 3) := by decide +kernel
theorem dX6_cross_11 : decode cX6_cross 11 = .ok (.iload_n 2, 1) := by decide +kernel
theorem dX6_cross_12 : decode cX6_cross 12 = .ok (.iconst 1, 1) := by decide +kernel
theorem dX6_cross_13 : decode cX6_cross 13 = .ok (.if_icmp .lt 9, 3) := by decide +kernel
theorem dX6_cross_16 : decode cX6_cross 16 = .ok (.iload_n 2, 1) := by decide +kernel
theorem dX6_cross_17 : decode cX6_cross 17 = .ok (.bipush 40, 2) := by decide +kernel
theorem dX6_cross_19 : decode cX6_cross 19 = .ok (.if_icmp .lt 6, 3) := by decide +kernel
theorem dX6_cross_22 : decode cX6_cross 22 = .ok (.ldc 67, 2) := by decide +kernel
theorem dX6_cross_24 : decode cX6_cross 24 = .ok (.ireturn, 1) := by decide +kernel
theorem dX6_cross_25 : decode cX6_cross 25 = .ok (.aload_n 0, 1) := by decide +kernel
theorem dX6_cross_26 : decode cX6_cross 26 = .ok (.getfield 26, 3) := by decide +kernel
theorem dX6_cross_29 : decode cX6_cross 29 = .ok (.getfield 161, 3) := by decide +kernel
theorem dX6_cross_32 : decode cX6_cross 32 = .ok (.iload_n 1, 1) := by decide +kernel
theorem dX6_cross_33 : decode cX6_cross 33 = .ok (.iaload, 1) := by decide +kernel
theorem dX6_cross_34 : decode cX6_cross 34 = .ok (.iload_n 2, 1) := by decide +kernel
theorem dX6_cross_35 : decode cX6_cross 35 = .ok (.if_icmp .gt 6, 3) := by decide +kernel
theorem dX6_cross_38 : decode cX6_cross 38 = .ok (.ldc 143, 2) := by decide +kernel
theorem dX6_cross_40 : decode cX6_cross 40 = .ok (.ireturn, 1) := by decide +kernel
theorem dX6_cross_41 : decode cX6_cross 41 = .ok (.aload_n 0, 1) := by decide +kernel
theorem dX6_cross_42 : decode cX6_cross 42 = .ok (.getfield 42, 3) := by decide +kernel
theorem dX6_cross_45 : decode cX6_cross 45 = .ok (.aload_n 0, 1) := by decide +kernel
theorem dX6_cross_46 : decode cX6_cross 46 = .ok (.getfield 26, 3) := by decide +kernel
theorem dX6_cross_49 : decode cX6_cross 49 = .ok (.iload_n 1, 1) := by decide +kernel
theorem dX6_cross_50 : decode cX6_cross 50 = .ok (.iload_n 2, 1) := by decide +kernel
theorem dX6_cross_51 : decode cX6_cross 51 = .ok (.invokevirtual 164, 3) := by decide +kernel
theorem dX6_cross_54 : decode cX6_cross 54 = .ok (.aload_n 0, 1) := by decide +kernel
theorem dX6_cross_55 : decode cX6_cross 55 = .ok (.getfield 26, 3) := by decide +kernel
theorem dX6_cross_58 : decode cX6_cross 58 = .ok (.getfield 161, 3) := by decide +kernel
theorem dX6_cross_61 : decode cX6_cross 61 = .ok (.iload_n 1, 1) := by decide +kernel
theorem dX6_cross_62 : decode cX6_cross 62 = .ok (.iaload, 1) := by decide +kernel
theorem dX6_cross_63 : decode cX6_cross 63 = .ok (.ireturn, 1) := by decide +kernel
set_option maxRecDepth 100000 in
set_option maxHeartbeats 4000000 in
theorem con_X6_cross (G : Gt) (o : Nat) (a1 : Int32) (a2 : Int32) (ho : kd o = 6) (mem : Mem) : Con tvI G yX6_cross cX6_cross 3 (some .int) 3 [.ref (gA G o), .int a1, .int a2] mem (X6_cross o a1 a2 mem) := by
  refine con_of (by decide) (Nat.le_of_ble_eq_true rfl) ?_
  show EvR tvI G cX6_cross 3 (some .int) RX6 3 0 [(0, .ref (gA G o)), (1, .int (a1)), (2, .int (a2))] [] mem _
  unfold X6_cross
  refine ev_aload_n (q := 1) dX6_cross_0 rfl 0 rfl rfl ?_
  refine ev_getR (q := 4) (ci := 6) (j := 2) (T := TX6) dX6_cross_1 rfl cf_6 ho hj_6_2 hc_6 gf_X6_26 rfl ?_
  refine ev_iload_n (q := 5) dX6_cross_4 rfl 1 rfl rfl ?_
  refine ev_callVI (q := 8) dX6_cross_5 rfl ml_X6_137 mt_X3_hasLetter cf_3 rfl (kr_6_2 ho) hc_3 (con_X3_hasLetter G _ _ (kr_6_2 ho) _) rfl (Nat.le_of_ble_eq_true rfl) (Nat.le_of_ble_eq_true rfl) rfl (Nat.le_of_ble_eq_true rfl) (fun r1 m2 => ?_)
  refine ev_if_eq (t := 22) (q := 11) dX6_cross_8 rfl rfl (fun hc3 => ?_) (fun hc3 => ?_)
  · refine ev_ldc (q := 24) (v := (-1000001)) dX6_cross_22 rfl kc_X6_67 ?_
    exact ev_iret dX6_cross_24 rfl
  · refine ev_iload_n (q := 12) dX6_cross_11 rfl 2 rfl rfl ?_
    refine ev_iconst (q := 13) (v := 1) dX6_cross_12 rfl li_1 ?_
    refine ev_icmp_lt (t := 22) (q := 16) dX6_cross_13 rfl rfl (fun hc4 => ?_) (fun hc4 => ?_)
    · refine ev_ldc (q := 24) (v := (-1000001)) dX6_cross_22 rfl kc_X6_67 ?_
      exact ev_iret dX6_cross_24 rfl
    · refine ev_iload_n (q := 17) dX6_cross_16 rfl 2 rfl rfl ?_
      refine ev_bipush (q := 19) (v := 40) dX6_cross_17 rfl lb_40 ?_
      refine ev_icmp_lt (t := 25) (q := 22) dX6_cross_19 rfl rfl (fun hc5 => ?_) (fun hc5 => ?_)
      · refine ev_aload_n (q := 26) dX6_cross_25 rfl 0 rfl rfl ?_
        refine ev_getR (q := 29) (ci := 6) (j := 2) (T := TX6) dX6_cross_26 rfl cf_6 ho hj_6_2 hc_6 gf_X6_26 rfl ?_
        refine ev_getR (q := 32) (ci := 3) (j := 5) (T := TX3) dX6_cross_29 rfl cf_3 (kr_6_2 ho) hj_3_5 hc_3 gf_X6_161 rfl ?_
        refine ev_iload_n (q := 33) dX6_cross_32 rfl 1 rfl rfl ?_
        refine ev_iald (q := 34) dX6_cross_33 rfl (kr_3_5 (kr_6_2 ho)) (fun z6 => ?_)
        refine ev_iload_n (q := 35) dX6_cross_34 rfl 2 rfl rfl ?_
        refine ev_icmp_gt (t := 41) (q := 38) dX6_cross_35 rfl rfl (fun hc7 => ?_) (fun hc7 => ?_)
        · refine ev_aload_n (q := 42) dX6_cross_41 rfl 0 rfl rfl ?_
          refine ev_getR (q := 45) (ci := 6) (j := 6) (T := TX6) dX6_cross_42 rfl cf_6 ho hj_6_6 hc_6 gf_X6_42 rfl ?_
          refine ev_aload_n (q := 46) dX6_cross_45 rfl 0 rfl rfl ?_
          refine ev_getR (q := 49) (ci := 6) (j := 2) (T := TX6) dX6_cross_46 rfl cf_6 ho hj_6_2 hc_6 gf_X6_26 rfl ?_
          refine ev_iload_n (q := 50) dX6_cross_49 rfl 1 rfl rfl ?_
          refine ev_iload_n (q := 51) dX6_cross_50 rfl 2 rfl rfl ?_
          refine ev_callVU (q := 54) dX6_cross_51 rfl ml_X6_164 mt_X0_letCross cf_0 rfl (kr_6_6 ho) hc_0 (con_X0_letCross G _ _ _ _ (kr_6_6 ho) (kr_6_2 ho) _) rfl (Nat.le_of_ble_eq_true rfl) (Nat.le_of_ble_eq_true rfl) rfl (Nat.le_of_ble_eq_true rfl) (fun r8 m9 => ?_)
          refine ev_aload_n (q := 55) dX6_cross_54 rfl 0 rfl rfl ?_
          refine ev_getR (q := 58) (ci := 6) (j := 2) (T := TX6) dX6_cross_55 rfl cf_6 ho hj_6_2 hc_6 gf_X6_26 rfl ?_
          refine ev_getR (q := 61) (ci := 3) (j := 5) (T := TX3) dX6_cross_58 rfl cf_3 (kr_6_2 ho) hj_3_5 hc_3 gf_X6_161 rfl ?_
          refine ev_iload_n (q := 62) dX6_cross_61 rfl 1 rfl rfl ?_
          refine ev_iald (q := 63) dX6_cross_62 rfl (kr_3_5 (kr_6_2 ho)) (fun z10 => ?_)
          exact ev_iret dX6_cross_63 rfl
        · refine ev_ldc (q := 40) (v := (-1000002)) dX6_cross_38 rfl kc_X6_143 ?_
          exact ev_iret dX6_cross_40 rfl
      · refine ev_ldc (q := 24) (v := (-1000001)) dX6_cross_22 rfl kc_X6_67 ?_
        exact ev_iret dX6_cross_24 rfl
/-! AgingLetters.day()I -/
theorem dX6_day_0 : decode cX6_day 0 = .ok (.aload_n 0, 1) := by decide +kernel
theorem dX6_day_1 : decode cX6_day 1 = .ok (.getfield 26, 3) := by decide +kernel
theorem dX6_day_4 : decode cX6_day 4 = .ok (.getfield 168, 3) := by decide +kernel
theorem dX6_day_7 : decode cX6_day 7 = .ok (.ifCond .ne 6, 3) := by decide +kernel
theorem dX6_day_10 : decode cX6_day 10 = .ok (.ldc 143, 2) := by decide +kernel
theorem dX6_day_12 : decode cX6_day 12 = .ok (.ireturn, 1) := by decide +kernel
theorem dX6_day_13 : decode cX6_day 13 = .ok (.aload_n 0, 1) := by decide +kernel
theorem dX6_day_14 : decode cX6_day 14 = .ok (.getfield 26, 3) := by decide +kernel
theorem dX6_day_17 : decode cX6_day 17 = .ok (.getfield 172, 3) := by decide +kernel
theorem dX6_day_20 : decode cX6_day 20 = .ok (.sipush 999, 3) := by decide +kernel
theorem dX6_day_23 : decode cX6_day 23 = .ok (.if_icmp .lt 6, 3) := by decide +kernel
theorem dX6_day_26 : decode cX6_day 26 = .ok (.ldc 105, 2) := by decide +kernel
theorem dX6_day_28 : decode cX6_day 28 = .ok (.ireturn, 1) := by decide +kernel
theorem dX6_day_29 : decode cX6_day 29 = .ok (.aload_n 0, 1) := by decide +kernel
theorem dX6_day_30 : decode cX6_day 30 = .ok (.getfield 42, 3) := by decide +kernel
theorem dX6_day_33 : decode cX6_day 33 = .ok (.aload_n 0, 1) := by decide +kernel
theorem dX6_day_34 : decode cX6_day 34 = .ok (.getfield 26, 3) := by decide +kernel
theorem dX6_day_37 : decode cX6_day 37 = .ok (.invokevirtual 175, 3) := by decide +kernel
theorem dX6_day_40 : decode cX6_day 40 = .ok (.aload_n 0, 1) := by decide +kernel
theorem dX6_day_41 : decode cX6_day 41 = .ok (.getfield 26, 3) := by decide +kernel
theorem dX6_day_44 : decode cX6_day 44 = .ok (.getfield 172, 3) := by decide +kernel
theorem dX6_day_47 : decode cX6_day 47 = .ok (.ireturn, 1) := by decide +kernel
set_option maxRecDepth 100000 in
set_option maxHeartbeats 4000000 in
theorem con_X6_day (G : Gt) (o : Nat) (ho : kd o = 6) (mem : Mem) : Con tvI G yX6_day cX6_day 1 (some .int) 3 [.ref (gA G o)] mem (X6_day o mem) := by
  refine con_of (by decide) (Nat.le_of_ble_eq_true rfl) ?_
  show EvR tvI G cX6_day 1 (some .int) RX6 3 0 [(0, .ref (gA G o))] [] mem _
  unfold X6_day
  refine ev_aload_n (q := 1) dX6_day_0 rfl 0 rfl rfl ?_
  refine ev_getR (q := 4) (ci := 6) (j := 2) (T := TX6) dX6_day_1 rfl cf_6 ho hj_6_2 hc_6 gf_X6_26 rfl ?_
  refine ev_getI (q := 7) (ci := 3) (j := 0) (T := TX3) dX6_day_4 rfl cf_3 (kr_6_2 ho) hj_3_0 hc_3 gf_X6_168 rfl ?_
  refine ev_if_ne (t := 13) (q := 10) dX6_day_7 rfl rfl (fun hc1 => ?_) (fun hc1 => ?_)
  · refine ev_ldc (q := 12) (v := (-1000002)) dX6_day_10 rfl kc_X6_143 ?_
    exact ev_iret dX6_day_12 rfl
  · refine ev_aload_n (q := 14) dX6_day_13 rfl 0 rfl rfl ?_
    refine ev_getR (q := 17) (ci := 6) (j := 2) (T := TX6) dX6_day_14 rfl cf_6 ho hj_6_2 hc_6 gf_X6_26 rfl ?_
    refine ev_getI (q := 20) (ci := 3) (j := 2) (T := TX3) dX6_day_17 rfl cf_3 (kr_6_2 ho) hj_3_2 hc_3 gf_X6_172 rfl ?_
    refine ev_sipush (q := 23) (v := 999) dX6_day_20 rfl ls_999 ?_
    refine ev_icmp_lt (t := 29) (q := 26) dX6_day_23 rfl rfl (fun hc2 => ?_) (fun hc2 => ?_)
    · refine ev_aload_n (q := 30) dX6_day_29 rfl 0 rfl rfl ?_
      refine ev_getR (q := 33) (ci := 6) (j := 6) (T := TX6) dX6_day_30 rfl cf_6 ho hj_6_6 hc_6 gf_X6_42 rfl ?_
      refine ev_aload_n (q := 34) dX6_day_33 rfl 0 rfl rfl ?_
      refine ev_getR (q := 37) (ci := 6) (j := 2) (T := TX6) dX6_day_34 rfl cf_6 ho hj_6_2 hc_6 gf_X6_26 rfl ?_
      refine ev_callVU (q := 40) dX6_day_37 rfl ml_X6_175 mt_X0_letDayGo cf_0 rfl (kr_6_6 ho) hc_0 (con_X0_letDayGo G _ _ (kr_6_6 ho) (kr_6_2 ho) _) rfl (Nat.le_of_ble_eq_true rfl) (Nat.le_of_ble_eq_true rfl) rfl (Nat.le_of_ble_eq_true rfl) (fun r3 m4 => ?_)
      refine ev_aload_n (q := 41) dX6_day_40 rfl 0 rfl rfl ?_
      refine ev_getR (q := 44) (ci := 6) (j := 2) (T := TX6) dX6_day_41 rfl cf_6 ho hj_6_2 hc_6 gf_X6_26 rfl ?_
      refine ev_getI (q := 47) (ci := 3) (j := 2) (T := TX3) dX6_day_44 rfl cf_3 (kr_6_2 ho) hj_3_2 hc_3 gf_X6_172 rfl ?_
      exact ev_iret dX6_day_47 rfl
    · refine ev_ldc (q := 28) (v := (-1000003)) dX6_day_26 rfl kc_X6_105 ?_
      exact ev_iret dX6_day_28 rfl
/-! AgingLetters.undo()I -/
theorem dX6_undo_0 : decode cX6_undo 0 = .ok (.aload_n 0, 1) := by decide +kernel
theorem dX6_undo_1 : decode cX6_undo 1 = .ok (.getfield 42, 3) := by decide +kernel
theorem dX6_undo_4 : decode cX6_undo 4 = .ok (.getfield 178, 3) := by decide +kernel
theorem dX6_undo_7 : decode cX6_undo 7 = .ok (.ifCond .ne 6, 3) := by decide +kernel
theorem dX6_undo_10 : decode cX6_undo 10 = .ok (.ldc 143, 2) := by decide +kernel
theorem dX6_undo_12 : decode cX6_undo 12 = .ok (.ireturn, 1) := by decide +kernel
theorem dX6_undo_13 : decode cX6_undo 13 = .ok (.aload_n 0, 1) := by decide +kernel
theorem dX6_undo_14 : decode cX6_undo 14 = .ok (.getfield 42, 3) := by decide +kernel
theorem dX6_undo_17 : decode cX6_undo 17 = .ok (.aload_n 0, 1) := by decide +kernel
theorem dX6_undo_18 : decode cX6_undo 18 = .ok (.getfield 26, 3) := by decide +kernel
theorem dX6_undo_21 : decode cX6_undo 21 = .ok (.invokevirtual 181, 3) := by decide +kernel
theorem dX6_undo_24 : decode cX6_undo 24 = .ok (.aload_n 0, 1) := by decide +kernel
theorem dX6_undo_25 : decode cX6_undo 25 = .ok (.getfield 42, 3) := by decide +kernel
theorem dX6_undo_28 : decode cX6_undo 28 = .ok (.getfield 178, 3) := by decide +kernel
theorem dX6_undo_31 : decode cX6_undo 31 = .ok (.ireturn, 1) := by decide +kernel
set_option maxRecDepth 100000 in
set_option maxHeartbeats 4000000 in
theorem con_X6_undo (G : Gt) (o : Nat) (ho : kd o = 6) (mem : Mem) : Con tvI G yX6_undo cX6_undo 1 (some .int) 4 [.ref (gA G o)] mem (X6_undo o mem) := by
  refine con_of (by decide) (Nat.le_of_ble_eq_true rfl) ?_
  show EvR tvI G cX6_undo 1 (some .int) RX6 4 0 [(0, .ref (gA G o))] [] mem _
  unfold X6_undo
  refine ev_aload_n (q := 1) dX6_undo_0 rfl 0 rfl rfl ?_
  refine ev_getR (q := 4) (ci := 6) (j := 6) (T := TX6) dX6_undo_1 rfl cf_6 ho hj_6_6 hc_6 gf_X6_42 rfl ?_
  refine ev_getI (q := 7) (ci := 0) (j := 8) (T := TX0) dX6_undo_4 rfl cf_0 (kr_6_6 ho) hj_0_8 hc_0 gf_X6_178 rfl ?_
  refine ev_if_ne (t := 13) (q := 10) dX6_undo_7 rfl rfl (fun hc1 => ?_) (fun hc1 => ?_)
  · refine ev_ldc (q := 12) (v := (-1000002)) dX6_undo_10 rfl kc_X6_143 ?_
    exact ev_iret dX6_undo_12 rfl
  · refine ev_aload_n (q := 14) dX6_undo_13 rfl 0 rfl rfl ?_
    refine ev_getR (q := 17) (ci := 6) (j := 6) (T := TX6) dX6_undo_14 rfl cf_6 ho hj_6_6 hc_6 gf_X6_42 rfl ?_
    refine ev_aload_n (q := 18) dX6_undo_17 rfl 0 rfl rfl ?_
    refine ev_getR (q := 21) (ci := 6) (j := 2) (T := TX6) dX6_undo_18 rfl cf_6 ho hj_6_2 hc_6 gf_X6_26 rfl ?_
    refine ev_callVU (q := 24) dX6_undo_21 rfl ml_X6_181 mt_X0_takeBack cf_0 rfl (kr_6_6 ho) hc_0 (con_X0_takeBack G _ _ (kr_6_6 ho) (kr_6_2 ho) _) rfl (Nat.le_of_ble_eq_true rfl) (Nat.le_of_ble_eq_true rfl) rfl (Nat.le_of_ble_eq_true rfl) (fun r2 m3 => ?_)
    refine ev_aload_n (q := 25) dX6_undo_24 rfl 0 rfl rfl ?_
    refine ev_getR (q := 28) (ci := 6) (j := 6) (T := TX6) dX6_undo_25 rfl cf_6 ho hj_6_6 hc_6 gf_X6_42 rfl ?_
    refine ev_getI (q := 31) (ci := 0) (j := 8) (T := TX0) dX6_undo_28 rfl cf_0 (kr_6_6 ho) hj_0_8 hc_0 gf_X6_178 rfl ?_
    exact ev_iret dX6_undo_31 rfl
/-! AgingLetters.reader(II)I -/
theorem dX6_reader_0 : decode cX6_reader 0 = .ok (.aload_n 0, 1) := by decide +kernel
theorem dX6_reader_1 : decode cX6_reader 1 = .ok (.getfield 26, 3) := by decide +kernel
theorem dX6_reader_4 : decode cX6_reader 4 = .ok (.iload_n 1, 1) := by decide +kernel
theorem dX6_reader_5 : decode cX6_reader 5 = .ok (.invokevirtual 134, 3) := by decide +kernel
theorem dX6_reader_8 : decode cX6_reader 8 = .ok (.ifCond .ne 6, 3) := by decide +kernel
theorem dX6_reader_11 : decode cX6_reader 11 = .ok (.ldc 67, 2) := by decide +kernel
theorem dX6_reader_13 : decode cX6_reader 13 = .ok (.ireturn, 1) := by decide +kernel
theorem dX6_reader_14 : decode cX6_reader 14 = .ok (.iload_n 2, 1) := by decide +kernel
theorem dX6_reader_15 : decode cX6_reader 15 = .ok (.tableswitch 110 0 5 #[37, 47, 57, 74, 91, 100], 37) := by decide +kernel
theorem dX6_reader_52 : decode cX6_reader 52 = .ok (.aload_n 0, 1) := by decide +kernel
theorem dX6_reader_53 : decode cX6_reader 53 = .ok (.getfield 26, 3) := by decide +kernel
theorem dX6_reader_56 : decode cX6_reader 56 = .ok (.getfield 148, 3) := by decide +kernel
theorem dX6_reader_59 : decode cX6_reader 59 = .ok (.iload_n 1, 1) := by decide +kernel
theorem dX6_reader_60 : decode cX6_reader 60 = .ok (.iaload, 1) := by decide +kernel
theorem dX6_reader_61 : decode cX6_reader 61 = .ok (.ireturn, 1) := by decide +kernel
theorem dX6_reader_62 : decode cX6_reader 62 = .ok (.aload_n 0, 1) := by decide +kernel
theorem dX6_reader_63 : decode cX6_reader 63 = .ok (.getfield 26, 3) := by decide +kernel
theorem dX6_reader_66 : decode cX6_reader 66 = .ok (.getfield 184, 3) := by decide +kernel
theorem dX6_reader_69 : decode cX6_reader 69 = .ok (.iload_n 1, 1) := by decide +kernel
theorem dX6_reader_70 : decode cX6_reader 70 = .ok (.iaload, 1) := by decide +kernel
theorem dX6_reader_71 : decode cX6_reader 71 = .ok (.ireturn, 1) := by decide +kernel
theorem dX6_reader_72 : decode cX6_reader 72 = .ok (.aload_n 0, 1) := by decide +kernel
theorem dX6_reader_73 : decode cX6_reader 73 = .ok (.getfield 26, 3) := by decide +kernel
theorem dX6_reader_76 : decode cX6_reader 76 = .ok (.iload_n 1, 1) := by decide +kernel
theorem dX6_reader_77 : decode cX6_reader 77 = .ok (.invokevirtual 187, 3) := by decide +kernel
theorem dX6_reader_80 : decode cX6_reader 80 = .ok (.ifCond .eq 7, 3) := by decide +kernel
theorem dX6_reader_83 : decode cX6_reader 83 = .ok (.iconst 1, 1) := by decide +kernel
theorem dX6_reader_84 : decode cX6_reader 84 = .ok (.goto 4, 3) := by decide +kernel
theorem dX6_reader_87 : decode cX6_reader 87 = .ok (.iconst 0, 1) := by decide +kernel
theorem dX6_reader_88 : decode cX6_reader 88 = .ok (.ireturn, 1) := by decide +kernel
theorem dX6_reader_89 : decode cX6_reader 89 = .ok (.aload_n 0, 1) := by decide +kernel
theorem dX6_reader_90 : decode cX6_reader 90 = .ok (.getfield 26, 3) := by decide +kernel
theorem dX6_reader_93 : decode cX6_reader 93 = .ok (.iload_n 1, 1) := by decide +kernel
theorem dX6_reader_94 : decode cX6_reader 94 = .ok (.invokevirtual 140, 3) := by decide +kernel
theorem dX6_reader_97 : decode cX6_reader 97 = .ok (.ifCond .eq 7, 3) := by decide +kernel
theorem dX6_reader_100 : decode cX6_reader 100 = .ok (.iconst 1, 1) := by decide +kernel
theorem dX6_reader_101 : decode cX6_reader 101 = .ok (.goto 4, 3) := by decide +kernel
theorem dX6_reader_104 : decode cX6_reader 104 = .ok (.iconst 0, 1) := by decide +kernel
theorem dX6_reader_105 : decode cX6_reader 105 = .ok (.ireturn, 1) := by decide +kernel
theorem dX6_reader_106 : decode cX6_reader 106 = .ok (.aload_n 0, 1) := by decide +kernel
theorem dX6_reader_107 : decode cX6_reader 107 = .ok (.getfield 26, 3) := by decide +kernel
theorem dX6_reader_110 : decode cX6_reader 110 = .ok (.iload_n 1, 1) := by decide +kernel
theorem dX6_reader_111 : decode cX6_reader 111 = .ok (.invokevirtual 190, 3) := by decide +kernel
theorem dX6_reader_114 : decode cX6_reader 114 = .ok (.ireturn, 1) := by decide +kernel
theorem dX6_reader_115 : decode cX6_reader 115 = .ok (.aload_n 0, 1) := by decide +kernel
theorem dX6_reader_116 : decode cX6_reader 116 = .ok (.getfield 26, 3) := by decide +kernel
theorem dX6_reader_119 : decode cX6_reader 119 = .ok (.getfield 193, 3) := by decide +kernel
theorem dX6_reader_122 : decode cX6_reader 122 = .ok (.iload_n 1, 1) := by decide +kernel
theorem dX6_reader_123 : decode cX6_reader 123 = .ok (.iaload, 1) := by decide +kernel
theorem dX6_reader_124 : decode cX6_reader 124 = .ok (.ireturn, 1) := by decide +kernel
theorem dX6_reader_125 : decode cX6_reader 125 = .ok (.ldc 67, 2) := by decide +kernel
theorem dX6_reader_127 : decode cX6_reader 127 = .ok (.ireturn, 1) := by decide +kernel
set_option maxRecDepth 100000 in
set_option maxHeartbeats 4000000 in
theorem con_X6_reader (G : Gt) (o : Nat) (a1 : Int32) (a2 : Int32) (ho : kd o = 6) (mem : Mem) : Con tvI G yX6_reader cX6_reader 3 (some .int) 3 [.ref (gA G o), .int a1, .int a2] mem (X6_reader o a1 a2 mem) := by
  refine con_of (by decide) (Nat.le_of_ble_eq_true rfl) ?_
  show EvR tvI G cX6_reader 3 (some .int) RX6 3 0 [(0, .ref (gA G o)), (1, .int (a1)), (2, .int (a2))] [] mem _
  unfold X6_reader
  refine ev_aload_n (q := 1) dX6_reader_0 rfl 0 rfl rfl ?_
  refine ev_getR (q := 4) (ci := 6) (j := 2) (T := TX6) dX6_reader_1 rfl cf_6 ho hj_6_2 hc_6 gf_X6_26 rfl ?_
  refine ev_iload_n (q := 5) dX6_reader_4 rfl 1 rfl rfl ?_
  refine ev_callVI (q := 8) dX6_reader_5 rfl ml_X6_134 mt_X3_hasReader cf_3 rfl (kr_6_2 ho) hc_3 (con_X3_hasReader G _ _ (kr_6_2 ho) _) rfl (Nat.le_of_ble_eq_true rfl) (Nat.le_of_ble_eq_true rfl) rfl (Nat.le_of_ble_eq_true rfl) (fun r1 m2 => ?_)
  refine ev_if_ne (t := 14) (q := 11) dX6_reader_8 rfl rfl (fun hc3 => ?_) (fun hc3 => ?_)
  · refine ev_ldc (q := 13) (v := (-1000001)) dX6_reader_11 rfl kc_X6_67 ?_
    exact ev_iret dX6_reader_13 rfl
  · refine ev_iload_n (q := 15) dX6_reader_14 rfl 2 rfl rfl ?_
    refine ev_ite (fun hc4 => ?_) (fun hc4 => ?_)
    · subst hc4
      refine ev_tsIn (t := 52) (off := 37) dX6_reader_15 (by decide) (by decide) (by decide) rfl ?_
      refine ev_aload_n (q := 53) dX6_reader_52 rfl 0 rfl rfl ?_
      refine ev_getR (q := 56) (ci := 6) (j := 2) (T := TX6) dX6_reader_53 rfl cf_6 ho hj_6_2 hc_6 gf_X6_26 rfl ?_
      refine ev_getR (q := 59) (ci := 3) (j := 9) (T := TX3) dX6_reader_56 rfl cf_3 (kr_6_2 ho) hj_3_9 hc_3 gf_X6_148 rfl ?_
      refine ev_iload_n (q := 60) dX6_reader_59 rfl 1 rfl rfl ?_
      refine ev_iald (q := 61) dX6_reader_60 rfl (kr_3_9 (kr_6_2 ho)) (fun z5 => ?_)
      exact ev_iret dX6_reader_61 rfl
    refine ev_ite (fun hc6 => ?_) (fun hc6 => ?_)
    · subst hc6
      refine ev_tsIn (t := 62) (off := 47) dX6_reader_15 (by decide) (by decide) (by decide) rfl ?_
      refine ev_aload_n (q := 63) dX6_reader_62 rfl 0 rfl rfl ?_
      refine ev_getR (q := 66) (ci := 6) (j := 2) (T := TX6) dX6_reader_63 rfl cf_6 ho hj_6_2 hc_6 gf_X6_26 rfl ?_
      refine ev_getR (q := 69) (ci := 3) (j := 10) (T := TX3) dX6_reader_66 rfl cf_3 (kr_6_2 ho) hj_3_10 hc_3 gf_X6_184 rfl ?_
      refine ev_iload_n (q := 70) dX6_reader_69 rfl 1 rfl rfl ?_
      refine ev_iald (q := 71) dX6_reader_70 rfl (kr_3_10 (kr_6_2 ho)) (fun z7 => ?_)
      exact ev_iret dX6_reader_71 rfl
    refine ev_ite (fun hc8 => ?_) (fun hc8 => ?_)
    · subst hc8
      refine ev_tsIn (t := 72) (off := 57) dX6_reader_15 (by decide) (by decide) (by decide) rfl ?_
      refine ev_aload_n (q := 73) dX6_reader_72 rfl 0 rfl rfl ?_
      refine ev_getR (q := 76) (ci := 6) (j := 2) (T := TX6) dX6_reader_73 rfl cf_6 ho hj_6_2 hc_6 gf_X6_26 rfl ?_
      refine ev_iload_n (q := 77) dX6_reader_76 rfl 1 rfl rfl ?_
      refine ev_callVI (q := 80) dX6_reader_77 rfl ml_X6_187 mt_X3_isAlive cf_3 rfl (kr_6_2 ho) hc_3 (con_X3_isAlive G _ _ (kr_6_2 ho) _) rfl (Nat.le_of_ble_eq_true rfl) (Nat.le_of_ble_eq_true rfl) rfl (Nat.le_of_ble_eq_true rfl) (fun r9 m10 => ?_)
      refine ev_if_eq (t := 87) (q := 83) dX6_reader_80 rfl rfl (fun hc11 => ?_) (fun hc11 => ?_)
      · refine ev_iconst (q := 88) (v := 0) dX6_reader_87 rfl li_0 ?_
        exact ev_iret dX6_reader_88 rfl
      · refine ev_iconst (q := 84) (v := 1) dX6_reader_83 rfl li_1 ?_
        refine ev_goto (t := 88) dX6_reader_84 rfl ?_
        exact ev_iret dX6_reader_88 rfl
    refine ev_ite (fun hc12 => ?_) (fun hc12 => ?_)
    · subst hc12
      refine ev_tsIn (t := 89) (off := 74) dX6_reader_15 (by decide) (by decide) (by decide) rfl ?_
      refine ev_aload_n (q := 90) dX6_reader_89 rfl 0 rfl rfl ?_
      refine ev_getR (q := 93) (ci := 6) (j := 2) (T := TX6) dX6_reader_90 rfl cf_6 ho hj_6_2 hc_6 gf_X6_26 rfl ?_
      refine ev_iload_n (q := 94) dX6_reader_93 rfl 1 rfl rfl ?_
      refine ev_callVI (q := 97) dX6_reader_94 rfl ml_X6_140 mt_X3_isFit cf_3 rfl (kr_6_2 ho) hc_3 (con_X3_isFit G _ _ (kr_6_2 ho) _) rfl (Nat.le_of_ble_eq_true rfl) (Nat.le_of_ble_eq_true rfl) rfl (Nat.le_of_ble_eq_true rfl) (fun r13 m14 => ?_)
      refine ev_if_eq (t := 104) (q := 100) dX6_reader_97 rfl rfl (fun hc15 => ?_) (fun hc15 => ?_)
      · refine ev_iconst (q := 105) (v := 0) dX6_reader_104 rfl li_0 ?_
        exact ev_iret dX6_reader_105 rfl
      · refine ev_iconst (q := 101) (v := 1) dX6_reader_100 rfl li_1 ?_
        refine ev_goto (t := 105) dX6_reader_101 rfl ?_
        exact ev_iret dX6_reader_105 rfl
    refine ev_ite (fun hc16 => ?_) (fun hc16 => ?_)
    · subst hc16
      refine ev_tsIn (t := 106) (off := 91) dX6_reader_15 (by decide) (by decide) (by decide) rfl ?_
      refine ev_aload_n (q := 107) dX6_reader_106 rfl 0 rfl rfl ?_
      refine ev_getR (q := 110) (ci := 6) (j := 2) (T := TX6) dX6_reader_107 rfl cf_6 ho hj_6_2 hc_6 gf_X6_26 rfl ?_
      refine ev_iload_n (q := 111) dX6_reader_110 rfl 1 rfl rfl ?_
      refine ev_callVI (q := 114) dX6_reader_111 rfl ml_X6_190 mt_X3_lettersReadBy cf_3 rfl (kr_6_2 ho) hc_3 (con_X3_lettersReadBy G _ _ (kr_6_2 ho) _) rfl (Nat.le_of_ble_eq_true rfl) (Nat.le_of_ble_eq_true rfl) rfl (Nat.le_of_ble_eq_true rfl) (fun r17 m18 => ?_)
      exact ev_iret dX6_reader_114 rfl
    refine ev_ite (fun hc19 => ?_) (fun hc19 => ?_)
    · subst hc19
      refine ev_tsIn (t := 115) (off := 100) dX6_reader_15 (by decide) (by decide) (by decide) rfl ?_
      refine ev_aload_n (q := 116) dX6_reader_115 rfl 0 rfl rfl ?_
      refine ev_getR (q := 119) (ci := 6) (j := 2) (T := TX6) dX6_reader_116 rfl cf_6 ho hj_6_2 hc_6 gf_X6_26 rfl ?_
      refine ev_getR (q := 122) (ci := 3) (j := 11) (T := TX3) dX6_reader_119 rfl cf_3 (kr_6_2 ho) hj_3_11 hc_3 gf_X6_193 rfl ?_
      refine ev_iload_n (q := 123) dX6_reader_122 rfl 1 rfl rfl ?_
      refine ev_iald (q := 124) dX6_reader_123 rfl (kr_3_11 (kr_6_2 ho)) (fun z20 => ?_)
      exact ev_iret dX6_reader_124 rfl
    refine ev_tsOut (t := 125) dX6_reader_15 (by have g0 := lv_neT hc4 (a := 0) (by decide); have g1 := lv_neT hc6 (a := 1) (by decide); have g2 := lv_neT hc8 (a := 2) (by decide); have g3 := lv_neT hc12 (a := 3) (by decide); have g4 := lv_neT hc16 (a := 4) (by decide); have g5 := lv_neT hc19 (a := 5) (by decide); omega) rfl ?_
    refine ev_ldc (q := 127) (v := (-1000001)) dX6_reader_125 rfl kc_X6_67 ?_
    exact ev_iret dX6_reader_127 rfl
/-! AgingLetters.letter(II)I -/
theorem dX6_letter_0 : decode cX6_letter 0 = .ok (.aload_n 0, 1) := by decide +kernel
theorem dX6_letter_1 : decode cX6_letter 1 = .ok (.getfield 26, 3) := by decide +kernel
theorem dX6_letter_4 : decode cX6_letter 4 = .ok (.iload_n 1, 1) := by decide +kernel
theorem dX6_letter_5 : decode cX6_letter 5 = .ok (.invokevirtual 137, 3) := by decide +kernel
theorem dX6_letter_8 : decode cX6_letter 8 = .ok (.ifCond .ne 6, 3) := by decide +kernel
theorem dX6_letter_11 : decode cX6_letter 11 = .ok (.ldc 67, 2) := by decide +kernel
theorem dX6_letter_13 : decode cX6_letter 13 = .ok (.ireturn, 1) := by decide +kernel
theorem dX6_letter_14 : decode cX6_letter 14 = .ok (.iload_n 2, 1) := by decide +kernel
theorem dX6_letter_15 : decode cX6_letter 15 = .ok (.tableswitch 67 0 3 #[29, 39, 49, 58], 29) := by decide +kernel
theorem dX6_letter_44 : decode cX6_letter 44 = .ok (.aload_n 0, 1) := by decide +kernel
theorem dX6_letter_45 : decode cX6_letter 45 = .ok (.getfield 26, 3) := by decide +kernel
theorem dX6_letter_48 : decode cX6_letter 48 = .ok (.getfield 161, 3) := by decide +kernel
theorem dX6_letter_51 : decode cX6_letter 51 = .ok (.iload_n 1, 1) := by decide +kernel
theorem dX6_letter_52 : decode cX6_letter 52 = .ok (.iaload, 1) := by decide +kernel
theorem dX6_letter_53 : decode cX6_letter 53 = .ok (.ireturn, 1) := by decide +kernel
theorem dX6_letter_54 : decode cX6_letter 54 = .ok (.aload_n 0, 1) := by decide +kernel
theorem dX6_letter_55 : decode cX6_letter 55 = .ok (.getfield 26, 3) := by decide +kernel
theorem dX6_letter_58 : decode cX6_letter 58 = .ok (.getfield 196, 3) := by decide +kernel
theorem dX6_letter_61 : decode cX6_letter 61 = .ok (.iload_n 1, 1) := by decide +kernel
theorem dX6_letter_62 : decode cX6_letter 62 = .ok (.iaload, 1) := by decide +kernel
theorem dX6_letter_63 : decode cX6_letter 63 = .ok (.ireturn, 1) := by decide +kernel
theorem dX6_letter_64 : decode cX6_letter 64 = .ok (.aload_n 0, 1) := by decide +kernel
theorem dX6_letter_65 : decode cX6_letter 65 = .ok (.getfield 26, 3) := by decide +kernel
theorem dX6_letter_68 : decode cX6_letter 68 = .ok (.iload_n 1, 1) := by decide +kernel
theorem dX6_letter_69 : decode cX6_letter 69 = .ok (.invokevirtual 199, 3) := by decide +kernel
theorem dX6_letter_72 : decode cX6_letter 72 = .ok (.ireturn, 1) := by decide +kernel
theorem dX6_letter_73 : decode cX6_letter 73 = .ok (.aload_n 0, 1) := by decide +kernel
theorem dX6_letter_74 : decode cX6_letter 74 = .ok (.getfield 26, 3) := by decide +kernel
theorem dX6_letter_77 : decode cX6_letter 77 = .ok (.iload_n 1, 1) := by decide +kernel
theorem dX6_letter_78 : decode cX6_letter 78 = .ok (.invokevirtual 202, 3) := by decide +kernel
theorem dX6_letter_81 : decode cX6_letter 81 = .ok (.ireturn, 1) := by decide +kernel
theorem dX6_letter_82 : decode cX6_letter 82 = .ok (.ldc 67, 2) := by decide +kernel
theorem dX6_letter_84 : decode cX6_letter 84 = .ok (.ireturn, 1) := by decide +kernel
set_option maxRecDepth 100000 in
set_option maxHeartbeats 4000000 in
theorem con_X6_letter (G : Gt) (o : Nat) (a1 : Int32) (a2 : Int32) (ho : kd o = 6) (mem : Mem) : Con tvI G yX6_letter cX6_letter 3 (some .int) 3 [.ref (gA G o), .int a1, .int a2] mem (X6_letter o a1 a2 mem) := by
  refine con_of (by decide) (Nat.le_of_ble_eq_true rfl) ?_
  show EvR tvI G cX6_letter 3 (some .int) RX6 3 0 [(0, .ref (gA G o)), (1, .int (a1)), (2, .int (a2))] [] mem _
  unfold X6_letter
  refine ev_aload_n (q := 1) dX6_letter_0 rfl 0 rfl rfl ?_
  refine ev_getR (q := 4) (ci := 6) (j := 2) (T := TX6) dX6_letter_1 rfl cf_6 ho hj_6_2 hc_6 gf_X6_26 rfl ?_
  refine ev_iload_n (q := 5) dX6_letter_4 rfl 1 rfl rfl ?_
  refine ev_callVI (q := 8) dX6_letter_5 rfl ml_X6_137 mt_X3_hasLetter cf_3 rfl (kr_6_2 ho) hc_3 (con_X3_hasLetter G _ _ (kr_6_2 ho) _) rfl (Nat.le_of_ble_eq_true rfl) (Nat.le_of_ble_eq_true rfl) rfl (Nat.le_of_ble_eq_true rfl) (fun r1 m2 => ?_)
  refine ev_if_ne (t := 14) (q := 11) dX6_letter_8 rfl rfl (fun hc3 => ?_) (fun hc3 => ?_)
  · refine ev_ldc (q := 13) (v := (-1000001)) dX6_letter_11 rfl kc_X6_67 ?_
    exact ev_iret dX6_letter_13 rfl
  · refine ev_iload_n (q := 15) dX6_letter_14 rfl 2 rfl rfl ?_
    refine ev_ite (fun hc4 => ?_) (fun hc4 => ?_)
    · subst hc4
      refine ev_tsIn (t := 44) (off := 29) dX6_letter_15 (by decide) (by decide) (by decide) rfl ?_
      refine ev_aload_n (q := 45) dX6_letter_44 rfl 0 rfl rfl ?_
      refine ev_getR (q := 48) (ci := 6) (j := 2) (T := TX6) dX6_letter_45 rfl cf_6 ho hj_6_2 hc_6 gf_X6_26 rfl ?_
      refine ev_getR (q := 51) (ci := 3) (j := 5) (T := TX3) dX6_letter_48 rfl cf_3 (kr_6_2 ho) hj_3_5 hc_3 gf_X6_161 rfl ?_
      refine ev_iload_n (q := 52) dX6_letter_51 rfl 1 rfl rfl ?_
      refine ev_iald (q := 53) dX6_letter_52 rfl (kr_3_5 (kr_6_2 ho)) (fun z5 => ?_)
      exact ev_iret dX6_letter_53 rfl
    refine ev_ite (fun hc6 => ?_) (fun hc6 => ?_)
    · subst hc6
      refine ev_tsIn (t := 54) (off := 39) dX6_letter_15 (by decide) (by decide) (by decide) rfl ?_
      refine ev_aload_n (q := 55) dX6_letter_54 rfl 0 rfl rfl ?_
      refine ev_getR (q := 58) (ci := 6) (j := 2) (T := TX6) dX6_letter_55 rfl cf_6 ho hj_6_2 hc_6 gf_X6_26 rfl ?_
      refine ev_getR (q := 61) (ci := 3) (j := 6) (T := TX3) dX6_letter_58 rfl cf_3 (kr_6_2 ho) hj_3_6 hc_3 gf_X6_196 rfl ?_
      refine ev_iload_n (q := 62) dX6_letter_61 rfl 1 rfl rfl ?_
      refine ev_iald (q := 63) dX6_letter_62 rfl (kr_3_6 (kr_6_2 ho)) (fun z7 => ?_)
      exact ev_iret dX6_letter_63 rfl
    refine ev_ite (fun hc8 => ?_) (fun hc8 => ?_)
    · subst hc8
      refine ev_tsIn (t := 64) (off := 49) dX6_letter_15 (by decide) (by decide) (by decide) rfl ?_
      refine ev_aload_n (q := 65) dX6_letter_64 rfl 0 rfl rfl ?_
      refine ev_getR (q := 68) (ci := 6) (j := 2) (T := TX6) dX6_letter_65 rfl cf_6 ho hj_6_2 hc_6 gf_X6_26 rfl ?_
      refine ev_iload_n (q := 69) dX6_letter_68 rfl 1 rfl rfl ?_
      refine ev_callVI (q := 72) dX6_letter_69 rfl ml_X6_199 mt_X3_timesReadByAll cf_3 rfl (kr_6_2 ho) hc_3 (con_X3_timesReadByAll G _ _ (kr_6_2 ho) _) rfl (Nat.le_of_ble_eq_true rfl) (Nat.le_of_ble_eq_true rfl) rfl (Nat.le_of_ble_eq_true rfl) (fun r9 m10 => ?_)
      exact ev_iret dX6_letter_72 rfl
    refine ev_ite (fun hc11 => ?_) (fun hc11 => ?_)
    · subst hc11
      refine ev_tsIn (t := 73) (off := 58) dX6_letter_15 (by decide) (by decide) (by decide) rfl ?_
      refine ev_aload_n (q := 74) dX6_letter_73 rfl 0 rfl rfl ?_
      refine ev_getR (q := 77) (ci := 6) (j := 2) (T := TX6) dX6_letter_74 rfl cf_6 ho hj_6_2 hc_6 gf_X6_26 rfl ?_
      refine ev_iload_n (q := 78) dX6_letter_77 rfl 1 rfl rfl ?_
      refine ev_callVI (q := 81) dX6_letter_78 rfl ml_X6_202 mt_X3_readersOf cf_3 rfl (kr_6_2 ho) hc_3 (con_X3_readersOf G _ _ (kr_6_2 ho) _) rfl (Nat.le_of_ble_eq_true rfl) (Nat.le_of_ble_eq_true rfl) rfl (Nat.le_of_ble_eq_true rfl) (fun r12 m13 => ?_)
      exact ev_iret dX6_letter_81 rfl
    refine ev_tsOut (t := 82) dX6_letter_15 (by have g0 := lv_neT hc4 (a := 0) (by decide); have g1 := lv_neT hc6 (a := 1) (by decide); have g2 := lv_neT hc8 (a := 2) (by decide); have g3 := lv_neT hc11 (a := 3) (by decide); omega) rfl ?_
    refine ev_ldc (q := 84) (v := (-1000001)) dX6_letter_82 rfl kc_X6_67 ?_
    exact ev_iret dX6_letter_84 rfl
/-! AgingLetters.costs(II)I -/
theorem dX6_costs_0 : decode cX6_costs 0 = .ok (.aload_n 0, 1) := by decide +kernel
theorem dX6_costs_1 : decode cX6_costs 1 = .ok (.getfield 26, 3) := by decide +kernel
theorem dX6_costs_4 : decode cX6_costs 4 = .ok (.iload_n 1, 1) := by decide +kernel
theorem dX6_costs_5 : decode cX6_costs 5 = .ok (.invokevirtual 134, 3) := by decide +kernel
theorem dX6_costs_8 : decode cX6_costs 8 = .ok (.ifCond .eq 14, 3) := by decide +kernel
theorem dX6_costs_11 : decode cX6_costs 11 = .ok (.aload_n 0, 1) := by decide +kernel
theorem dX6_costs_12 : decode cX6_costs 12 = .ok (.getfield 26, 3) := by decide +kernel
theorem dX6_costs_15 : decode cX6_costs 15 = .ok (.iload_n 2, 1) := by decide +kernel
theorem dX6_costs_16 : decode cX6_costs 16 = .ok (.invokevirtual 137, 3) := by decide +kernel
theorem dX6_costs_19 : decode cX6_costs 19 = .ok (.ifCond .ne 6, 3) := by decide +kernel
theorem dX6_costs_22 : decode cX6_costs 22 = .ok (.ldc 67, 2) := by decide +kernel
theorem dX6_costs_24 : decode cX6_costs 24 = .ok (.ireturn, 1) := by decide +kernel
theorem dX6_costs_25 : decode cX6_costs 25 = .ok (.aload_n 0, 1) := by decide +kernel
theorem dX6_costs_26 : decode cX6_costs 26 = .ok (.getfield 26, 3) := by decide +kernel
theorem dX6_costs_29 : decode cX6_costs 29 = .ok (.iload_n 1, 1) := by decide +kernel
theorem dX6_costs_30 : decode cX6_costs 30 = .ok (.iload_n 2, 1) := by decide +kernel
theorem dX6_costs_31 : decode cX6_costs 31 = .ok (.invokevirtual 205, 3) := by decide +kernel
theorem dX6_costs_34 : decode cX6_costs 34 = .ok (.ireturn, 1) := by decide +kernel
set_option maxRecDepth 100000 in
set_option maxHeartbeats 4000000 in
theorem con_X6_costs (G : Gt) (o : Nat) (a1 : Int32) (a2 : Int32) (ho : kd o = 6) (mem : Mem) : Con tvI G yX6_costs cX6_costs 3 (some .int) 5 [.ref (gA G o), .int a1, .int a2] mem (X6_costs o a1 a2 mem) := by
  refine con_of (by decide) (Nat.le_of_ble_eq_true rfl) ?_
  show EvR tvI G cX6_costs 3 (some .int) RX6 5 0 [(0, .ref (gA G o)), (1, .int (a1)), (2, .int (a2))] [] mem _
  unfold X6_costs
  refine ev_aload_n (q := 1) dX6_costs_0 rfl 0 rfl rfl ?_
  refine ev_getR (q := 4) (ci := 6) (j := 2) (T := TX6) dX6_costs_1 rfl cf_6 ho hj_6_2 hc_6 gf_X6_26 rfl ?_
  refine ev_iload_n (q := 5) dX6_costs_4 rfl 1 rfl rfl ?_
  refine ev_callVI (q := 8) dX6_costs_5 rfl ml_X6_134 mt_X3_hasReader cf_3 rfl (kr_6_2 ho) hc_3 (con_X3_hasReader G _ _ (kr_6_2 ho) _) rfl (Nat.le_of_ble_eq_true rfl) (Nat.le_of_ble_eq_true rfl) rfl (Nat.le_of_ble_eq_true rfl) (fun r1 m2 => ?_)
  refine ev_if_eq (t := 22) (q := 11) dX6_costs_8 rfl rfl (fun hc3 => ?_) (fun hc3 => ?_)
  · refine ev_ldc (q := 24) (v := (-1000001)) dX6_costs_22 rfl kc_X6_67 ?_
    exact ev_iret dX6_costs_24 rfl
  · refine ev_aload_n (q := 12) dX6_costs_11 rfl 0 rfl rfl ?_
    refine ev_getR (q := 15) (ci := 6) (j := 2) (T := TX6) dX6_costs_12 rfl cf_6 ho hj_6_2 hc_6 gf_X6_26 rfl ?_
    refine ev_iload_n (q := 16) dX6_costs_15 rfl 2 rfl rfl ?_
    refine ev_callVI (q := 19) dX6_costs_16 rfl ml_X6_137 mt_X3_hasLetter cf_3 rfl (kr_6_2 ho) hc_3 (con_X3_hasLetter G _ _ (kr_6_2 ho) _) rfl (Nat.le_of_ble_eq_true rfl) (Nat.le_of_ble_eq_true rfl) rfl (Nat.le_of_ble_eq_true rfl) (fun r4 m5 => ?_)
    refine ev_if_ne (t := 25) (q := 22) dX6_costs_19 rfl rfl (fun hc6 => ?_) (fun hc6 => ?_)
    · refine ev_ldc (q := 24) (v := (-1000001)) dX6_costs_22 rfl kc_X6_67 ?_
      exact ev_iret dX6_costs_24 rfl
    · refine ev_aload_n (q := 26) dX6_costs_25 rfl 0 rfl rfl ?_
      refine ev_getR (q := 29) (ci := 6) (j := 2) (T := TX6) dX6_costs_26 rfl cf_6 ho hj_6_2 hc_6 gf_X6_26 rfl ?_
      refine ev_iload_n (q := 30) dX6_costs_29 rfl 1 rfl rfl ?_
      refine ev_iload_n (q := 31) dX6_costs_30 rfl 2 rfl rfl ?_
      refine ev_callVI (q := 34) dX6_costs_31 rfl ml_X6_205 mt_X3_costFor cf_3 rfl (kr_6_2 ho) hc_3 (con_X3_costFor G _ _ _ (kr_6_2 ho) _) rfl (Nat.le_of_ble_eq_true rfl) (Nat.le_of_ble_eq_true rfl) rfl (Nat.le_of_ble_eq_true rfl) (fun r7 m8 => ?_)
      exact ev_iret dX6_costs_34 rfl
/-! AgingLetters.best(I)I -/
theorem dX6_best_0 : decode cX6_best 0 = .ok (.aload_n 0, 1) := by decide +kernel
theorem dX6_best_1 : decode cX6_best 1 = .ok (.getfield 26, 3) := by decide +kernel
theorem dX6_best_4 : decode cX6_best 4 = .ok (.iload_n 1, 1) := by decide +kernel
theorem dX6_best_5 : decode cX6_best 5 = .ok (.invokevirtual 137, 3) := by decide +kernel
theorem dX6_best_8 : decode cX6_best 8 = .ok (.ifCond .ne 6, 3) := by decide +kernel
theorem dX6_best_11 : decode cX6_best 11 = .ok (.ldc 67, 2) := by decide +kernel
theorem dX6_best_13 : decode cX6_best 13 = .ok (.ireturn, 1) := by decide +kernel
theorem dX6_best_14 : decode cX6_best 14 = .ok (.aload_n 0, 1) := by decide +kernel
theorem dX6_best_15 : decode cX6_best 15 = .ok (.getfield 49, 3) := by decide +kernel
theorem dX6_best_18 : decode cX6_best 18 = .ok (.aload_n 0, 1) := by decide +kernel
theorem dX6_best_19 : decode cX6_best 19 = .ok (.getfield 26, 3) := by decide +kernel
theorem dX6_best_22 : decode cX6_best 22 = .ok (.iload_n 1, 1) := by decide +kernel
theorem dX6_best_23 : decode cX6_best 23 = .ok (.invokevirtual 209, 3) := by decide +kernel
theorem dX6_best_26 : decode cX6_best 26 = .ok (.ireturn, 1) := by decide +kernel
set_option maxRecDepth 100000 in
set_option maxHeartbeats 4000000 in
theorem con_X6_best (G : Gt) (o : Nat) (a1 : Int32) (ho : kd o = 6) (mem : Mem) : Con tvI G yX6_best cX6_best 2 (some .int) 6 [.ref (gA G o), .int a1] mem (X6_best o a1 mem) := by
  refine con_of (by decide) (Nat.le_of_ble_eq_true rfl) ?_
  show EvR tvI G cX6_best 2 (some .int) RX6 6 0 [(0, .ref (gA G o)), (1, .int (a1))] [] mem _
  unfold X6_best
  refine ev_aload_n (q := 1) dX6_best_0 rfl 0 rfl rfl ?_
  refine ev_getR (q := 4) (ci := 6) (j := 2) (T := TX6) dX6_best_1 rfl cf_6 ho hj_6_2 hc_6 gf_X6_26 rfl ?_
  refine ev_iload_n (q := 5) dX6_best_4 rfl 1 rfl rfl ?_
  refine ev_callVI (q := 8) dX6_best_5 rfl ml_X6_137 mt_X3_hasLetter cf_3 rfl (kr_6_2 ho) hc_3 (con_X3_hasLetter G _ _ (kr_6_2 ho) _) rfl (Nat.le_of_ble_eq_true rfl) (Nat.le_of_ble_eq_true rfl) rfl (Nat.le_of_ble_eq_true rfl) (fun r1 m2 => ?_)
  refine ev_if_ne (t := 14) (q := 11) dX6_best_8 rfl rfl (fun hc3 => ?_) (fun hc3 => ?_)
  · refine ev_ldc (q := 13) (v := (-1000001)) dX6_best_11 rfl kc_X6_67 ?_
    exact ev_iret dX6_best_13 rfl
  · refine ev_aload_n (q := 15) dX6_best_14 rfl 0 rfl rfl ?_
    refine ev_getR (q := 18) (ci := 6) (j := 7) (T := TX6) dX6_best_15 rfl cf_6 ho hj_6_7 hc_6 gf_X6_49 rfl ?_
    refine ev_aload_n (q := 19) dX6_best_18 rfl 0 rfl rfl ?_
    refine ev_getR (q := 22) (ci := 6) (j := 2) (T := TX6) dX6_best_19 rfl cf_6 ho hj_6_2 hc_6 gf_X6_26 rfl ?_
    refine ev_iload_n (q := 23) dX6_best_22 rfl 1 rfl rfl ?_
    refine ev_callVI (q := 26) dX6_best_23 rfl ml_X6_209 mt_X2_bestReader cf_2 rfl (kr_6_7 ho) hc_2 (con_X2_bestReader G _ _ _ (kr_6_7 ho) (kr_6_2 ho) _) rfl (Nat.le_of_ble_eq_true rfl) (Nat.le_of_ble_eq_true rfl) rfl (Nat.le_of_ble_eq_true rfl) (fun r4 m5 => ?_)
    exact ev_iret dX6_best_26 rfl
/-! AgingLetters.allRead(I)I -/
theorem dX6_allRead_0 : decode cX6_allRead 0 = .ok (.aload_n 0, 1) := by decide +kernel
theorem dX6_allRead_1 : decode cX6_allRead 1 = .ok (.getfield 26, 3) := by decide +kernel
theorem dX6_allRead_4 : decode cX6_allRead 4 = .ok (.getfield 168, 3) := by decide +kernel
theorem dX6_allRead_7 : decode cX6_allRead 7 = .ok (.ifCond .ne 6, 3) := by decide +kernel
theorem dX6_allRead_10 : decode cX6_allRead 10 = .ok (.ldc 143, 2) := by decide +kernel
theorem dX6_allRead_12 : decode cX6_allRead 12 = .ok (.ireturn, 1) := by decide +kernel
theorem dX6_allRead_13 : decode cX6_allRead 13 = .ok (.iload_n 1, 1) := by decide +kernel
theorem dX6_allRead_14 : decode cX6_allRead 14 = .ok (.iconst (-1), 1) := by decide +kernel
theorem dX6_allRead_15 : decode cX6_allRead 15 = .ok (.if_icmp .eq 17, 3) := by decide +kernel
theorem dX6_allRead_18 : decode cX6_allRead 18 = .ok (.aload_n 0, 1) := by decide +kernel
theorem dX6_allRead_19 : decode cX6_allRead 19 = .ok (.getfield 26, 3) := by decide +kernel
theorem dX6_allRead_22 : decode cX6_allRead 22 = .ok (.iload_n 1, 1) := by decide +kernel
theorem dX6_allRead_23 : decode cX6_allRead 23 = .ok (.invokevirtual 137, 3) := by decide +kernel
theorem dX6_allRead_26 : decode cX6_allRead 26 = .ok (.ifCond .ne 6, 3) := by decide +kernel
theorem dX6_allRead_29 : decode cX6_allRead 29 = .ok (.ldc 67, 2) := by decide +kernel
theorem dX6_allRead_31 : decode cX6_allRead 31 = .ok (.ireturn, 1) := by decide +kernel
theorem dX6_allRead_32 : decode cX6_allRead 32 = .ok (.aload_n 0, 1) := by decide +kernel
theorem dX6_allRead_33 : decode cX6_allRead 33 = .ok (.getfield 49, 3) := by decide +kernel
theorem dX6_allRead_36 : decode cX6_allRead 36 = .ok (.aload_n 0, 1) := by decide +kernel
theorem dX6_allRead_37 : decode cX6_allRead 37 = .ok (.getfield 26, 3) := by decide +kernel
theorem dX6_allRead_40 : decode cX6_allRead 40 = .ok (.invokevirtual 213, 3) := by decide +kernel
theorem dX6_allRead_43 : decode cX6_allRead 43 = .ok (.ifCond .ne 6, 3) := by decide +kernel
theorem dX6_allRead_46 : decode cX6_allRead 46 = .ok (.ldc 217, 2) := by decide +kernel
theorem dX6_allRead_48 : decode cX6_allRead 48 = .ok (.ireturn, 1) := by decide +kernel
theorem dX6_allRead_49 : decode cX6_allRead 49 = .ok (.iload_n 1, 1) := by decide +kernel
theorem dX6_allRead_50 : decode cX6_allRead 50 = .ok (.iconst (-1), 1) := by decide +kernel
theorem dX6_allRead_51 : decode cX6_allRead 51 = .ok (.if_icmp .ne 20, 3) := by decide +kernel
theorem dX6_allRead_54 : decode cX6_allRead 54 = .ok (.aload_n 0, 1) := by decide +kernel
theorem dX6_allRead_55 : decode cX6_allRead 55 = .ok (.getfield 26, 3) := by decide +kernel
theorem dX6_allRead_58 : decode cX6_allRead 58 = .ok (.aload_n 0, 1) := by decide +kernel
theorem dX6_allRead_59 : decode cX6_allRead 59 = .ok (.getfield 26, 3) := by decide +kernel
theorem dX6_allRead_62 : decode cX6_allRead 62 = .ok (.invokevirtual 218, 3) := by decide +kernel
theorem dX6_allRead_65 : decode cX6_allRead 65 = .ok (.invokevirtual 222, 3) := by decide +kernel
theorem dX6_allRead_68 : decode cX6_allRead 68 = .ok (.goto 12, 3) := by decide +kernel
theorem dX6_allRead_71 : decode cX6_allRead 71 = .ok (.aload_n 0, 1) := by decide +kernel
theorem dX6_allRead_72 : decode cX6_allRead 72 = .ok (.getfield 49, 3) := by decide +kernel
theorem dX6_allRead_75 : decode cX6_allRead 75 = .ok (.getfield 225, 3) := by decide +kernel
theorem dX6_allRead_78 : decode cX6_allRead 78 = .ok (.iload_n 1, 1) := by decide +kernel
theorem dX6_allRead_79 : decode cX6_allRead 79 = .ok (.iaload, 1) := by decide +kernel
theorem dX6_allRead_80 : decode cX6_allRead 80 = .ok (.ireturn, 1) := by decide +kernel
set_option maxRecDepth 100000 in
set_option maxHeartbeats 4000000 in
theorem X6_allRead_b32_ok (G : Gt) (o : Nat) (ho : kd o = 6)    (x1 : Int32) (mem : Mem) : EvR tvI G cX6_allRead 2 (some .int) RX6 18 32 [(0, .ref (gA G o)), (1, .int (x1))] [] mem (X6_allRead_b32 o x1 mem) := by
  unfold X6_allRead_b32
  refine ev_aload_n (q := 33) dX6_allRead_32 rfl 0 rfl rfl ?_
  refine ev_getR (q := 36) (ci := 6) (j := 7) (T := TX6) dX6_allRead_33 rfl cf_6 ho hj_6_7 hc_6 gf_X6_49 rfl ?_
  refine ev_aload_n (q := 37) dX6_allRead_36 rfl 0 rfl rfl ?_
  refine ev_getR (q := 40) (ci := 6) (j := 2) (T := TX6) dX6_allRead_37 rfl cf_6 ho hj_6_2 hc_6 gf_X6_26 rfl ?_
  refine ev_callVI (q := 43) dX6_allRead_40 rfl ml_X6_213 mt_X2_handsOutAll cf_2 rfl (kr_6_7 ho) hc_2 (con_X2_handsOutAll G _ _ (kr_6_7 ho) (kr_6_2 ho) _) rfl (Nat.le_of_ble_eq_true rfl) (Nat.le_of_ble_eq_true rfl) rfl (Nat.le_of_ble_eq_true rfl) (fun r6 m7 => ?_)
  refine ev_if_ne (t := 49) (q := 46) dX6_allRead_43 rfl rfl (fun hc8 => ?_) (fun hc8 => ?_)
  · refine ev_ldc (q := 48) (v := (-1000000)) dX6_allRead_46 rfl kc_X6_217 ?_
    exact ev_iret dX6_allRead_48 rfl
  · refine ev_iload_n (q := 50) dX6_allRead_49 rfl 1 rfl rfl ?_
    refine ev_iconst (q := 51) (v := (-1)) dX6_allRead_50 rfl li_m1 ?_
    refine ev_icmp_ne (t := 71) (q := 54) dX6_allRead_51 rfl rfl (fun hc9 => ?_) (fun hc9 => ?_)
    · refine ev_aload_n (q := 55) dX6_allRead_54 rfl 0 rfl rfl ?_
      refine ev_getR (q := 58) (ci := 6) (j := 2) (T := TX6) dX6_allRead_55 rfl cf_6 ho hj_6_2 hc_6 gf_X6_26 rfl ?_
      refine ev_aload_n (q := 59) dX6_allRead_58 rfl 0 rfl rfl ?_
      refine ev_getR (q := 62) (ci := 6) (j := 2) (T := TX6) dX6_allRead_59 rfl cf_6 ho hj_6_2 hc_6 gf_X6_26 rfl ?_
      refine ev_callVI (q := 65) dX6_allRead_62 rfl ml_X6_218 mt_X3_unreadLetters cf_3 rfl (kr_6_2 ho) hc_3 (con_X3_unreadLetters G _ (kr_6_2 ho) _) rfl (Nat.le_of_ble_eq_true rfl) (Nat.le_of_ble_eq_true rfl) rfl (Nat.le_of_ble_eq_true rfl) (fun r11 m12 => ?_)
      refine ev_callVI (q := 68) dX6_allRead_65 rfl ml_X6_222 mt_X3_firstCostOf cf_3 rfl (kr_6_2 ho) hc_3 (con_X3_firstCostOf G _ _ (kr_6_2 ho) _) rfl (Nat.le_of_ble_eq_true rfl) (Nat.le_of_ble_eq_true rfl) rfl (Nat.le_of_ble_eq_true rfl) (fun r13 m14 => ?_)
      refine ev_goto (t := 80) dX6_allRead_68 rfl ?_
      exact ev_iret dX6_allRead_80 rfl
    · refine ev_aload_n (q := 72) dX6_allRead_71 rfl 0 rfl rfl ?_
      refine ev_getR (q := 75) (ci := 6) (j := 7) (T := TX6) dX6_allRead_72 rfl cf_6 ho hj_6_7 hc_6 gf_X6_49 rfl ?_
      refine ev_getR (q := 78) (ci := 2) (j := 1) (T := TX2) dX6_allRead_75 rfl cf_2 (kr_6_7 ho) hj_2_1 hc_2 gf_X6_225 rfl ?_
      refine ev_iload_n (q := 79) dX6_allRead_78 rfl 1 rfl rfl ?_
      refine ev_iald (q := 80) dX6_allRead_79 rfl (kr_2_1 (kr_6_7 ho)) (fun z10 => ?_)
      exact ev_iret dX6_allRead_80 rfl
set_option maxRecDepth 100000 in
set_option maxHeartbeats 4000000 in
theorem con_X6_allRead (G : Gt) (o : Nat) (a1 : Int32) (ho : kd o = 6) (mem : Mem) : Con tvI G yX6_allRead cX6_allRead 2 (some .int) 18 [.ref (gA G o), .int a1] mem (X6_allRead o a1 mem) := by
  refine con_of (by decide) (Nat.le_of_ble_eq_true rfl) ?_
  show EvR tvI G cX6_allRead 2 (some .int) RX6 18 0 [(0, .ref (gA G o)), (1, .int (a1))] [] mem _
  unfold X6_allRead
  refine ev_aload_n (q := 1) dX6_allRead_0 rfl 0 rfl rfl ?_
  refine ev_getR (q := 4) (ci := 6) (j := 2) (T := TX6) dX6_allRead_1 rfl cf_6 ho hj_6_2 hc_6 gf_X6_26 rfl ?_
  refine ev_getI (q := 7) (ci := 3) (j := 0) (T := TX3) dX6_allRead_4 rfl cf_3 (kr_6_2 ho) hj_3_0 hc_3 gf_X6_168 rfl ?_
  refine ev_if_ne (t := 13) (q := 10) dX6_allRead_7 rfl rfl (fun hc1 => ?_) (fun hc1 => ?_)
  · refine ev_ldc (q := 12) (v := (-1000002)) dX6_allRead_10 rfl kc_X6_143 ?_
    exact ev_iret dX6_allRead_12 rfl
  · refine ev_iload_n (q := 14) dX6_allRead_13 rfl 1 rfl rfl ?_
    refine ev_iconst (q := 15) (v := (-1)) dX6_allRead_14 rfl li_m1 ?_
    refine ev_icmp_eq (t := 32) (q := 18) dX6_allRead_15 rfl rfl (fun hc2 => ?_) (fun hc2 => ?_)
    · exact X6_allRead_b32_ok G o ho   _ _
    · refine ev_aload_n (q := 19) dX6_allRead_18 rfl 0 rfl rfl ?_
      refine ev_getR (q := 22) (ci := 6) (j := 2) (T := TX6) dX6_allRead_19 rfl cf_6 ho hj_6_2 hc_6 gf_X6_26 rfl ?_
      refine ev_iload_n (q := 23) dX6_allRead_22 rfl 1 rfl rfl ?_
      refine ev_callVI (q := 26) dX6_allRead_23 rfl ml_X6_137 mt_X3_hasLetter cf_3 rfl (kr_6_2 ho) hc_3 (con_X3_hasLetter G _ _ (kr_6_2 ho) _) rfl (Nat.le_of_ble_eq_true rfl) (Nat.le_of_ble_eq_true rfl) rfl (Nat.le_of_ble_eq_true rfl) (fun r3 m4 => ?_)
      refine ev_if_ne (t := 32) (q := 29) dX6_allRead_26 rfl rfl (fun hc5 => ?_) (fun hc5 => ?_)
      · refine ev_ldc (q := 31) (v := (-1000001)) dX6_allRead_29 rfl kc_X6_67 ?_
        exact ev_iret dX6_allRead_31 rfl
      · exact X6_allRead_b32_ok G o ho   _ _
/-! AgingLetters.isChoice(I)Z -/
theorem dX6_isChoice_0 : decode cX6_isChoice 0 = .ok (.iload_n 0, 1) := by decide +kernel
theorem dX6_isChoice_1 : decode cX6_isChoice 1 = .ok (.ifCond .eq 8, 3) := by decide +kernel
theorem dX6_isChoice_4 : decode cX6_isChoice 4 = .ok (.iload_n 0, 1) := by decide +kernel
theorem dX6_isChoice_5 : decode cX6_isChoice 5 = .ok (.iconst 1, 1) := by decide +kernel
theorem dX6_isChoice_6 : decode cX6_isChoice 6 = .ok (.if_icmp .ne 7, 3) := by decide +kernel
theorem dX6_isChoice_9 : decode cX6_isChoice 9 = .ok (.iconst 1, 1) := by decide +kernel
theorem dX6_isChoice_10 : decode cX6_isChoice 10 = .ok (.goto 4, 3) := by decide +kernel
theorem dX6_isChoice_13 : decode cX6_isChoice 13 = .ok (.iconst 0, 1) := by decide +kernel
theorem dX6_isChoice_14 : decode cX6_isChoice 14 = .ok (.ireturn, 1) := by decide +kernel
set_option maxRecDepth 100000 in
set_option maxHeartbeats 4000000 in
theorem X6_isChoice_b9_ok (G : Gt)       (mem : Mem) : EvR tvI G cX6_isChoice 1 (some .boolean) RX6 1 9 [] [] mem (X6_isChoice_b9  mem) := by
  unfold X6_isChoice_b9
  refine ev_iconst (q := 10) (v := 1) dX6_isChoice_9 rfl li_1 ?_
  refine ev_goto (t := 14) dX6_isChoice_10 rfl ?_
  exact ev_zret dX6_isChoice_14 rfl
set_option maxRecDepth 100000 in
set_option maxHeartbeats 4000000 in
theorem con_X6_isChoice (G : Gt) (a0 : Int32)  (mem : Mem) : Con tvI G yX6_isChoice cX6_isChoice 1 (some .boolean) 1 [.int a0] mem (X6_isChoice a0 mem) := by
  refine con_of (by decide) (Nat.le_of_ble_eq_true rfl) ?_
  show EvR tvI G cX6_isChoice 1 (some .boolean) RX6 1 0 [(0, .int (a0))] [] mem _
  unfold X6_isChoice
  refine ev_iload_n (q := 1) dX6_isChoice_0 rfl 0 rfl rfl ?_
  refine ev_if_eq (t := 9) (q := 4) dX6_isChoice_1 rfl rfl (fun hc1 => ?_) (fun hc1 => ?_)
  · refine ev_sub (lv' := []) [] rfl ?_
    exact X6_isChoice_b9_ok G     _
  · refine ev_iload_n (q := 5) dX6_isChoice_4 rfl 0 rfl rfl ?_
    refine ev_iconst (q := 6) (v := 1) dX6_isChoice_5 rfl li_1 ?_
    refine ev_icmp_ne (t := 13) (q := 9) dX6_isChoice_6 rfl rfl (fun hc2 => ?_) (fun hc2 => ?_)
    · refine ev_sub (lv' := []) [] rfl ?_
      exact X6_isChoice_b9_ok G     _
    · refine ev_iconst (q := 14) (v := 0) dX6_isChoice_13 rfl li_0 ?_
      exact ev_zret dX6_isChoice_14 rfl
/-! AgingLetters.bestAloud(II)I -/
theorem dX6_bestAloud_0 : decode cX6_bestAloud 0 = .ok (.aload_n 0, 1) := by decide +kernel
theorem dX6_bestAloud_1 : decode cX6_bestAloud 1 = .ok (.getfield 26, 3) := by decide +kernel
theorem dX6_bestAloud_4 : decode cX6_bestAloud 4 = .ok (.iload_n 1, 1) := by decide +kernel
theorem dX6_bestAloud_5 : decode cX6_bestAloud 5 = .ok (.invokevirtual 137, 3) := by decide +kernel
theorem dX6_bestAloud_8 : decode cX6_bestAloud 8 = .ok (.ifCond .eq 10, 3) := by decide +kernel
theorem dX6_bestAloud_11 : decode cX6_bestAloud 11 = .ok (.iload_n 2, 1) := by decide +kernel
theorem dX6_bestAloud_12 : decode cX6_bestAloud 12 = .ok (.invokestatic 228, 3) := by decide +kernel
theorem dX6_bestAloud_15 : decode cX6_bestAloud 15 = .ok (.ifCond .ne 6, 3) := by decide +kernel
theorem dX6_bestAloud_18 : decode cX6_bestAloud 18 = .ok (.ldc 67, 2) := by decide +kernel
theorem dX6_bestAloud_20 : decode cX6_bestAloud 20 = .ok (.ireturn, 1) := by decide +kernel
theorem dX6_bestAloud_21 : decode cX6_bestAloud 21 = .ok (.aload_n 0, 1) := by decide +kernel
theorem dX6_bestAloud_22 : decode cX6_bestAloud 22 = .ok (.getfield 49, 3) := by decide +kernel
theorem dX6_bestAloud_25 : decode cX6_bestAloud 25 = .ok (.aload_n 0, 1) := by decide +kernel
theorem dX6_bestAloud_26 : decode cX6_bestAloud 26 = .ok (.getfield 26, 3) := by decide +kernel
theorem dX6_bestAloud_29 : decode cX6_bestAloud 29 = .ok (.iload_n 1, 1) := by decide +kernel
theorem dX6_bestAloud_30 : decode cX6_bestAloud 30 = .ok (.invokevirtual 231, 3) := by decide +kernel
theorem dX6_bestAloud_33 : decode cX6_bestAloud 33 = .ok (.istore_n 3, 1) := by decide +kernel
theorem dX6_bestAloud_34 : decode cX6_bestAloud 34 = .ok (.iload_n 3, 1) := by decide +kernel
theorem dX6_bestAloud_35 : decode cX6_bestAloud 35 = .ok (.ldc 217, 2) := by decide +kernel
theorem dX6_bestAloud_37 : decode cX6_bestAloud 37 = .ok (.if_icmp .eq 7, 3) := by decide +kernel
theorem dX6_bestAloud_40 : decode cX6_bestAloud 40 = .ok (.iload_n 2, 1) := by decide +kernel
theorem dX6_bestAloud_41 : decode cX6_bestAloud 41 = .ok (.ifCond .ne 5, 3) := by decide +kernel
theorem dX6_bestAloud_44 : decode cX6_bestAloud 44 = .ok (.iload_n 3, 1) := by decide +kernel
theorem dX6_bestAloud_45 : decode cX6_bestAloud 45 = .ok (.ireturn, 1) := by decide +kernel
theorem dX6_bestAloud_46 : decode cX6_bestAloud 46 = .ok (.aload_n 0, 1) := by decide +kernel
theorem dX6_bestAloud_47 : decode cX6_bestAloud 47 = .ok (.getfield 49, 3) := by decide +kernel
theorem dX6_bestAloud_50 : decode cX6_bestAloud 50 = .ok (.aload_n 0, 1) := by decide +kernel
theorem dX6_bestAloud_51 : decode cX6_bestAloud 51 = .ok (.getfield 26, 3) := by decide +kernel
theorem dX6_bestAloud_54 : decode cX6_bestAloud 54 = .ok (.iload_n 3, 1) := by decide +kernel
theorem dX6_bestAloud_55 : decode cX6_bestAloud 55 = .ok (.iload_n 1, 1) := by decide +kernel
theorem dX6_bestAloud_56 : decode cX6_bestAloud 56 = .ok (.invokevirtual 234, 3) := by decide +kernel
theorem dX6_bestAloud_59 : decode cX6_bestAloud 59 = .ok (.ireturn, 1) := by decide +kernel
set_option maxRecDepth 100000 in
set_option maxHeartbeats 4000000 in
theorem con_X6_bestAloud (G : Gt) (o : Nat) (a1 : Int32) (a2 : Int32) (ho : kd o = 6) (mem : Mem) : Con tvI G yX6_bestAloud cX6_bestAloud 4 (some .int) 7 [.ref (gA G o), .int a1, .int a2] mem (X6_bestAloud o a1 a2 mem) := by
  refine con_of (by decide) (Nat.le_of_ble_eq_true rfl) ?_
  show EvR tvI G cX6_bestAloud 4 (some .int) RX6 7 0 [(0, .ref (gA G o)), (1, .int (a1)), (2, .int (a2))] [] mem _
  unfold X6_bestAloud
  refine ev_aload_n (q := 1) dX6_bestAloud_0 rfl 0 rfl rfl ?_
  refine ev_getR (q := 4) (ci := 6) (j := 2) (T := TX6) dX6_bestAloud_1 rfl cf_6 ho hj_6_2 hc_6 gf_X6_26 rfl ?_
  refine ev_iload_n (q := 5) dX6_bestAloud_4 rfl 1 rfl rfl ?_
  refine ev_callVI (q := 8) dX6_bestAloud_5 rfl ml_X6_137 mt_X3_hasLetter cf_3 rfl (kr_6_2 ho) hc_3 (con_X3_hasLetter G _ _ (kr_6_2 ho) _) rfl (Nat.le_of_ble_eq_true rfl) (Nat.le_of_ble_eq_true rfl) rfl (Nat.le_of_ble_eq_true rfl) (fun r1 m2 => ?_)
  refine ev_if_eq (t := 18) (q := 11) dX6_bestAloud_8 rfl rfl (fun hc3 => ?_) (fun hc3 => ?_)
  · refine ev_ldc (q := 20) (v := (-1000001)) dX6_bestAloud_18 rfl kc_X6_67 ?_
    exact ev_iret dX6_bestAloud_20 rfl
  · refine ev_iload_n (q := 12) dX6_bestAloud_11 rfl 2 rfl rfl ?_
    refine ev_callSI (q := 15) dX6_bestAloud_12 rfl ml_X6_228 mt_X6_isChoice (con_X6_isChoice G _  _) rfl (Nat.le_of_ble_eq_true rfl) (Nat.le_of_ble_eq_true rfl) rfl (Nat.le_of_ble_eq_true rfl) (fun r4 m5 => ?_)
    refine ev_if_ne (t := 21) (q := 18) dX6_bestAloud_15 rfl rfl (fun hc6 => ?_) (fun hc6 => ?_)
    · refine ev_ldc (q := 20) (v := (-1000001)) dX6_bestAloud_18 rfl kc_X6_67 ?_
      exact ev_iret dX6_bestAloud_20 rfl
    · refine ev_aload_n (q := 22) dX6_bestAloud_21 rfl 0 rfl rfl ?_
      refine ev_getR (q := 25) (ci := 6) (j := 7) (T := TX6) dX6_bestAloud_22 rfl cf_6 ho hj_6_7 hc_6 gf_X6_49 rfl ?_
      refine ev_aload_n (q := 26) dX6_bestAloud_25 rfl 0 rfl rfl ?_
      refine ev_getR (q := 29) (ci := 6) (j := 2) (T := TX6) dX6_bestAloud_26 rfl cf_6 ho hj_6_2 hc_6 gf_X6_26 rfl ?_
      refine ev_iload_n (q := 30) dX6_bestAloud_29 rfl 1 rfl rfl ?_
      refine ev_callVI (q := 33) dX6_bestAloud_30 rfl ml_X6_231 mt_X2_bestReaderAloud cf_2 rfl (kr_6_7 ho) hc_2 (con_X2_bestReaderAloud G _ _ _ (kr_6_7 ho) (kr_6_2 ho) _) rfl (Nat.le_of_ble_eq_true rfl) (Nat.le_of_ble_eq_true rfl) rfl (Nat.le_of_ble_eq_true rfl) (fun r7 m8 => ?_)
      refine ev_istore_n (q := 34) (lv2 := [(3, .int _), (0, .ref _), (1, .int _), (2, .int _)]) dX6_bestAloud_33 rfl rfl (Nat.le_of_ble_eq_true rfl) rfl ?_
      refine ev_iload_n (q := 35) dX6_bestAloud_34 rfl 0 rfl rfl ?_
      refine ev_ldc (q := 37) (v := (-1000000)) dX6_bestAloud_35 rfl kc_X6_217 ?_
      refine ev_icmp_eq (t := 44) (q := 40) dX6_bestAloud_37 rfl rfl (fun hc9 => ?_) (fun hc9 => ?_)
      · refine ev_iload_n (q := 45) dX6_bestAloud_44 rfl 0 rfl rfl ?_
        exact ev_iret dX6_bestAloud_45 rfl
      · refine ev_iload_n (q := 41) dX6_bestAloud_40 rfl 3 rfl rfl ?_
        refine ev_if_ne (t := 46) (q := 44) dX6_bestAloud_41 rfl rfl (fun hc10 => ?_) (fun hc10 => ?_)
        · refine ev_iload_n (q := 45) dX6_bestAloud_44 rfl 0 rfl rfl ?_
          exact ev_iret dX6_bestAloud_45 rfl
        · refine ev_aload_n (q := 47) dX6_bestAloud_46 rfl 1 rfl rfl ?_
          refine ev_getR (q := 50) (ci := 6) (j := 7) (T := TX6) dX6_bestAloud_47 rfl cf_6 ho hj_6_7 hc_6 gf_X6_49 rfl ?_
          refine ev_aload_n (q := 51) dX6_bestAloud_50 rfl 1 rfl rfl ?_
          refine ev_getR (q := 54) (ci := 6) (j := 2) (T := TX6) dX6_bestAloud_51 rfl cf_6 ho hj_6_2 hc_6 gf_X6_26 rfl ?_
          refine ev_iload_n (q := 55) dX6_bestAloud_54 rfl 0 rfl rfl ?_
          refine ev_iload_n (q := 56) dX6_bestAloud_55 rfl 2 rfl rfl ?_
          refine ev_callVI (q := 59) dX6_bestAloud_56 rfl ml_X6_234 mt_X2_spentAloud cf_2 rfl (kr_6_7 ho) hc_2 (con_X2_spentAloud G _ _ _ _ (kr_6_7 ho) (kr_6_2 ho) _) rfl (Nat.le_of_ble_eq_true rfl) (Nat.le_of_ble_eq_true rfl) rfl (Nat.le_of_ble_eq_true rfl) (fun r11 m12 => ?_)
          exact ev_iret dX6_bestAloud_59 rfl
/-! AgingLetters.kills(I)I -/
theorem dX6_kills_0 : decode cX6_kills 0 = .ok (.aload_n 0, 1) := by decide +kernel
theorem dX6_kills_1 : decode cX6_kills 1 = .ok (.getfield 26, 3) := by decide +kernel
theorem dX6_kills_4 : decode cX6_kills 4 = .ok (.iload_n 1, 1) := by decide +kernel
theorem dX6_kills_5 : decode cX6_kills 5 = .ok (.invokevirtual 134, 3) := by decide +kernel
theorem dX6_kills_8 : decode cX6_kills 8 = .ok (.ifCond .ne 6, 3) := by decide +kernel
theorem dX6_kills_11 : decode cX6_kills 11 = .ok (.ldc 67, 2) := by decide +kernel
theorem dX6_kills_13 : decode cX6_kills 13 = .ok (.ireturn, 1) := by decide +kernel
theorem dX6_kills_14 : decode cX6_kills 14 = .ok (.aload_n 0, 1) := by decide +kernel
theorem dX6_kills_15 : decode cX6_kills 15 = .ok (.getfield 26, 3) := by decide +kernel
theorem dX6_kills_18 : decode cX6_kills 18 = .ok (.iload_n 1, 1) := by decide +kernel
theorem dX6_kills_19 : decode cX6_kills 19 = .ok (.invokevirtual 187, 3) := by decide +kernel
theorem dX6_kills_22 : decode cX6_kills 22 = .ok (.ifCond .ne 6, 3) := by decide +kernel
theorem dX6_kills_25 : decode cX6_kills 25 = .ok (.ldc 143, 2) := by decide +kernel
theorem dX6_kills_27 : decode cX6_kills 27 = .ok (.ireturn, 1) := by decide +kernel
theorem dX6_kills_28 : decode cX6_kills 28 = .ok (.aload_n 0, 1) := by decide +kernel
theorem dX6_kills_29 : decode cX6_kills 29 = .ok (.getfield 49, 3) := by decide +kernel
theorem dX6_kills_32 : decode cX6_kills 32 = .ok (.aload_n 0, 1) := by decide +kernel
theorem dX6_kills_33 : decode cX6_kills 33 = .ok (.getfield 26, 3) := by decide +kernel
theorem dX6_kills_36 : decode cX6_kills 36 = .ok (.iload_n 1, 1) := by decide +kernel
theorem dX6_kills_37 : decode cX6_kills 37 = .ok (.invokevirtual 238, 3) := by decide +kernel
theorem dX6_kills_40 : decode cX6_kills 40 = .ok (.ireturn, 1) := by decide +kernel
set_option maxRecDepth 100000 in
set_option maxHeartbeats 4000000 in
theorem con_X6_kills (G : Gt) (o : Nat) (a1 : Int32) (ho : kd o = 6) (mem : Mem) : Con tvI G yX6_kills cX6_kills 2 (some .int) 6 [.ref (gA G o), .int a1] mem (X6_kills o a1 mem) := by
  refine con_of (by decide) (Nat.le_of_ble_eq_true rfl) ?_
  show EvR tvI G cX6_kills 2 (some .int) RX6 6 0 [(0, .ref (gA G o)), (1, .int (a1))] [] mem _
  unfold X6_kills
  refine ev_aload_n (q := 1) dX6_kills_0 rfl 0 rfl rfl ?_
  refine ev_getR (q := 4) (ci := 6) (j := 2) (T := TX6) dX6_kills_1 rfl cf_6 ho hj_6_2 hc_6 gf_X6_26 rfl ?_
  refine ev_iload_n (q := 5) dX6_kills_4 rfl 1 rfl rfl ?_
  refine ev_callVI (q := 8) dX6_kills_5 rfl ml_X6_134 mt_X3_hasReader cf_3 rfl (kr_6_2 ho) hc_3 (con_X3_hasReader G _ _ (kr_6_2 ho) _) rfl (Nat.le_of_ble_eq_true rfl) (Nat.le_of_ble_eq_true rfl) rfl (Nat.le_of_ble_eq_true rfl) (fun r1 m2 => ?_)
  refine ev_if_ne (t := 14) (q := 11) dX6_kills_8 rfl rfl (fun hc3 => ?_) (fun hc3 => ?_)
  · refine ev_ldc (q := 13) (v := (-1000001)) dX6_kills_11 rfl kc_X6_67 ?_
    exact ev_iret dX6_kills_13 rfl
  · refine ev_aload_n (q := 15) dX6_kills_14 rfl 0 rfl rfl ?_
    refine ev_getR (q := 18) (ci := 6) (j := 2) (T := TX6) dX6_kills_15 rfl cf_6 ho hj_6_2 hc_6 gf_X6_26 rfl ?_
    refine ev_iload_n (q := 19) dX6_kills_18 rfl 1 rfl rfl ?_
    refine ev_callVI (q := 22) dX6_kills_19 rfl ml_X6_187 mt_X3_isAlive cf_3 rfl (kr_6_2 ho) hc_3 (con_X3_isAlive G _ _ (kr_6_2 ho) _) rfl (Nat.le_of_ble_eq_true rfl) (Nat.le_of_ble_eq_true rfl) rfl (Nat.le_of_ble_eq_true rfl) (fun r4 m5 => ?_)
    refine ev_if_ne (t := 28) (q := 25) dX6_kills_22 rfl rfl (fun hc6 => ?_) (fun hc6 => ?_)
    · refine ev_ldc (q := 27) (v := (-1000002)) dX6_kills_25 rfl kc_X6_143 ?_
      exact ev_iret dX6_kills_27 rfl
    · refine ev_aload_n (q := 29) dX6_kills_28 rfl 0 rfl rfl ?_
      refine ev_getR (q := 32) (ci := 6) (j := 7) (T := TX6) dX6_kills_29 rfl cf_6 ho hj_6_7 hc_6 gf_X6_49 rfl ?_
      refine ev_aload_n (q := 33) dX6_kills_32 rfl 0 rfl rfl ?_
      refine ev_getR (q := 36) (ci := 6) (j := 2) (T := TX6) dX6_kills_33 rfl cf_6 ho hj_6_2 hc_6 gf_X6_26 rfl ?_
      refine ev_iload_n (q := 37) dX6_kills_36 rfl 1 rfl rfl ?_
      refine ev_callVI (q := 40) dX6_kills_37 rfl ml_X6_238 mt_X2_shortestDeadly cf_2 rfl (kr_6_7 ho) hc_2 (con_X2_shortestDeadly G _ _ _ (kr_6_7 ho) (kr_6_2 ho) _) rfl (Nat.le_of_ble_eq_true rfl) (Nat.le_of_ble_eq_true rfl) rfl (Nat.le_of_ble_eq_true rfl) (fun r7 m8 => ?_)
      exact ev_iret dX6_kills_40 rfl
/-! AgingLetters.post(II)I -/
theorem dX6_post_0 : decode cX6_post 0 = .ok (.aload_n 0, 1) := by decide +kernel
theorem dX6_post_1 : decode cX6_post 1 = .ok (.getfield 26, 3) := by decide +kernel
theorem dX6_post_4 : decode cX6_post 4 = .ok (.iload_n 1, 1) := by decide +kernel
theorem dX6_post_5 : decode cX6_post 5 = .ok (.invokevirtual 134, 3) := by decide +kernel
theorem dX6_post_8 : decode cX6_post 8 = .ok (.ifCond .eq 10, 3) := by decide +kernel
theorem dX6_post_11 : decode cX6_post 11 = .ok (.iload_n 2, 1) := by decide +kernel
theorem dX6_post_12 : decode cX6_post 12 = .ok (.invokestatic 228, 3) := by decide +kernel
theorem dX6_post_15 : decode cX6_post 15 = .ok (.ifCond .ne 6, 3) := by decide +kernel
theorem dX6_post_18 : decode cX6_post 18 = .ok (.ldc 67, 2) := by decide +kernel
theorem dX6_post_20 : decode cX6_post 20 = .ok (.ireturn, 1) := by decide +kernel
theorem dX6_post_21 : decode cX6_post 21 = .ok (.aload_n 0, 1) := by decide +kernel
theorem dX6_post_22 : decode cX6_post 22 = .ok (.getfield 26, 3) := by decide +kernel
theorem dX6_post_25 : decode cX6_post 25 = .ok (.iload_n 1, 1) := by decide +kernel
theorem dX6_post_26 : decode cX6_post 26 = .ok (.invokevirtual 187, 3) := by decide +kernel
theorem dX6_post_29 : decode cX6_post 29 = .ok (.ifCond .ne 6, 3) := by decide +kernel
theorem dX6_post_32 : decode cX6_post 32 = .ok (.ldc 143, 2) := by decide +kernel
theorem dX6_post_34 : decode cX6_post 34 = .ok (.ireturn, 1) := by decide +kernel
theorem dX6_post_35 : decode cX6_post 35 = .ok (.aload_n 0, 1) := by decide +kernel
theorem dX6_post_36 : decode cX6_post 36 = .ok (.getfield 49, 3) := by decide +kernel
theorem dX6_post_39 : decode cX6_post 39 = .ok (.aload_n 0, 1) := by decide +kernel
theorem dX6_post_40 : decode cX6_post 40 = .ok (.getfield 26, 3) := by decide +kernel
theorem dX6_post_43 : decode cX6_post 43 = .ok (.iload_n 1, 1) := by decide +kernel
theorem dX6_post_44 : decode cX6_post 44 = .ok (.invokevirtual 241, 3) := by decide +kernel
theorem dX6_post_47 : decode cX6_post 47 = .ok (.istore_n 3, 1) := by decide +kernel
theorem dX6_post_48 : decode cX6_post 48 = .ok (.iload_n 3, 1) := by decide +kernel
theorem dX6_post_49 : decode cX6_post 49 = .ok (.ldc 217, 2) := by decide +kernel
theorem dX6_post_51 : decode cX6_post 51 = .ok (.if_icmp .eq 8, 3) := by decide +kernel
theorem dX6_post_54 : decode cX6_post 54 = .ok (.iload_n 2, 1) := by decide +kernel
theorem dX6_post_55 : decode cX6_post 55 = .ok (.iconst 1, 1) := by decide +kernel
theorem dX6_post_56 : decode cX6_post 56 = .ok (.if_icmp .ne 5, 3) := by decide +kernel
theorem dX6_post_59 : decode cX6_post 59 = .ok (.iload_n 3, 1) := by decide +kernel
theorem dX6_post_60 : decode cX6_post 60 = .ok (.ireturn, 1) := by decide +kernel
theorem dX6_post_61 : decode cX6_post 61 = .ok (.iload_n 3, 1) := by decide +kernel
theorem dX6_post_62 : decode cX6_post 62 = .ok (.invokestatic 244, 3) := by decide +kernel
theorem dX6_post_65 : decode cX6_post 65 = .ok (.ireturn, 1) := by decide +kernel
set_option maxRecDepth 100000 in
set_option maxHeartbeats 4000000 in
theorem con_X6_post (G : Gt) (o : Nat) (a1 : Int32) (a2 : Int32) (ho : kd o = 6) (mem : Mem) : Con tvI G yX6_post cX6_post 4 (some .int) 7 [.ref (gA G o), .int a1, .int a2] mem (X6_post o a1 a2 mem) := by
  refine con_of (by decide) (Nat.le_of_ble_eq_true rfl) ?_
  show EvR tvI G cX6_post 4 (some .int) RX6 7 0 [(0, .ref (gA G o)), (1, .int (a1)), (2, .int (a2))] [] mem _
  unfold X6_post
  refine ev_aload_n (q := 1) dX6_post_0 rfl 0 rfl rfl ?_
  refine ev_getR (q := 4) (ci := 6) (j := 2) (T := TX6) dX6_post_1 rfl cf_6 ho hj_6_2 hc_6 gf_X6_26 rfl ?_
  refine ev_iload_n (q := 5) dX6_post_4 rfl 1 rfl rfl ?_
  refine ev_callVI (q := 8) dX6_post_5 rfl ml_X6_134 mt_X3_hasReader cf_3 rfl (kr_6_2 ho) hc_3 (con_X3_hasReader G _ _ (kr_6_2 ho) _) rfl (Nat.le_of_ble_eq_true rfl) (Nat.le_of_ble_eq_true rfl) rfl (Nat.le_of_ble_eq_true rfl) (fun r1 m2 => ?_)
  refine ev_if_eq (t := 18) (q := 11) dX6_post_8 rfl rfl (fun hc3 => ?_) (fun hc3 => ?_)
  · refine ev_ldc (q := 20) (v := (-1000001)) dX6_post_18 rfl kc_X6_67 ?_
    exact ev_iret dX6_post_20 rfl
  · refine ev_iload_n (q := 12) dX6_post_11 rfl 2 rfl rfl ?_
    refine ev_callSI (q := 15) dX6_post_12 rfl ml_X6_228 mt_X6_isChoice (con_X6_isChoice G _  _) rfl (Nat.le_of_ble_eq_true rfl) (Nat.le_of_ble_eq_true rfl) rfl (Nat.le_of_ble_eq_true rfl) (fun r4 m5 => ?_)
    refine ev_if_ne (t := 21) (q := 18) dX6_post_15 rfl rfl (fun hc6 => ?_) (fun hc6 => ?_)
    · refine ev_ldc (q := 20) (v := (-1000001)) dX6_post_18 rfl kc_X6_67 ?_
      exact ev_iret dX6_post_20 rfl
    · refine ev_aload_n (q := 22) dX6_post_21 rfl 0 rfl rfl ?_
      refine ev_getR (q := 25) (ci := 6) (j := 2) (T := TX6) dX6_post_22 rfl cf_6 ho hj_6_2 hc_6 gf_X6_26 rfl ?_
      refine ev_iload_n (q := 26) dX6_post_25 rfl 1 rfl rfl ?_
      refine ev_callVI (q := 29) dX6_post_26 rfl ml_X6_187 mt_X3_isAlive cf_3 rfl (kr_6_2 ho) hc_3 (con_X3_isAlive G _ _ (kr_6_2 ho) _) rfl (Nat.le_of_ble_eq_true rfl) (Nat.le_of_ble_eq_true rfl) rfl (Nat.le_of_ble_eq_true rfl) (fun r7 m8 => ?_)
      refine ev_if_ne (t := 35) (q := 32) dX6_post_29 rfl rfl (fun hc9 => ?_) (fun hc9 => ?_)
      · refine ev_ldc (q := 34) (v := (-1000002)) dX6_post_32 rfl kc_X6_143 ?_
        exact ev_iret dX6_post_34 rfl
      · refine ev_aload_n (q := 36) dX6_post_35 rfl 0 rfl rfl ?_
        refine ev_getR (q := 39) (ci := 6) (j := 7) (T := TX6) dX6_post_36 rfl cf_6 ho hj_6_7 hc_6 gf_X6_49 rfl ?_
        refine ev_aload_n (q := 40) dX6_post_39 rfl 0 rfl rfl ?_
        refine ev_getR (q := 43) (ci := 6) (j := 2) (T := TX6) dX6_post_40 rfl cf_6 ho hj_6_2 hc_6 gf_X6_26 rfl ?_
        refine ev_iload_n (q := 44) dX6_post_43 rfl 1 rfl rfl ?_
        refine ev_callVI (q := 47) dX6_post_44 rfl ml_X6_241 mt_X2_smallestDeadlySet cf_2 rfl (kr_6_7 ho) hc_2 (con_X2_smallestDeadlySet G _ _ _ (kr_6_7 ho) (kr_6_2 ho) _) rfl (Nat.le_of_ble_eq_true rfl) (Nat.le_of_ble_eq_true rfl) rfl (Nat.le_of_ble_eq_true rfl) (fun r10 m11 => ?_)
        refine ev_istore_n (q := 48) (lv2 := [(3, .int _), (0, .ref _), (1, .int _), (2, .int _)]) dX6_post_47 rfl rfl (Nat.le_of_ble_eq_true rfl) rfl ?_
        refine ev_iload_n (q := 49) dX6_post_48 rfl 0 rfl rfl ?_
        refine ev_ldc (q := 51) (v := (-1000000)) dX6_post_49 rfl kc_X6_217 ?_
        refine ev_icmp_eq (t := 59) (q := 54) dX6_post_51 rfl rfl (fun hc12 => ?_) (fun hc12 => ?_)
        · refine ev_iload_n (q := 60) dX6_post_59 rfl 0 rfl rfl ?_
          exact ev_iret dX6_post_60 rfl
        · refine ev_iload_n (q := 55) dX6_post_54 rfl 3 rfl rfl ?_
          refine ev_iconst (q := 56) (v := 1) dX6_post_55 rfl li_1 ?_
          refine ev_icmp_ne (t := 61) (q := 59) dX6_post_56 rfl rfl (fun hc13 => ?_) (fun hc13 => ?_)
          · refine ev_iload_n (q := 60) dX6_post_59 rfl 0 rfl rfl ?_
            exact ev_iret dX6_post_60 rfl
          · refine ev_iload_n (q := 62) dX6_post_61 rfl 0 rfl rfl ?_
            refine ev_callSI (q := 65) dX6_post_62 rfl ml_X6_244 mt_J6_bitCount_0f7a4 (con_J6_bitCount_0f7a4 G _  _) rfl (Nat.le_of_ble_eq_true rfl) (Nat.le_of_ble_eq_true rfl) rfl (Nat.le_of_ble_eq_true rfl) (fun r14 m15 => ?_)
            exact ev_iret dX6_post_65 rfl
/-! AgingLetters.crossOut(II)I -/
theorem dX6_crossOut_0 : decode cX6_crossOut 0 = .ok (.aload_n 0, 1) := by decide +kernel
theorem dX6_crossOut_1 : decode cX6_crossOut 1 = .ok (.getfield 26, 3) := by decide +kernel
theorem dX6_crossOut_4 : decode cX6_crossOut 4 = .ok (.iload_n 1, 1) := by decide +kernel
theorem dX6_crossOut_5 : decode cX6_crossOut 5 = .ok (.invokevirtual 134, 3) := by decide +kernel
theorem dX6_crossOut_8 : decode cX6_crossOut 8 = .ok (.ifCond .eq 14, 3) := by decide +kernel
theorem dX6_crossOut_11 : decode cX6_crossOut 11 = .ok (.aload_n 0, 1) := by decide +kernel
theorem dX6_crossOut_12 : decode cX6_crossOut 12 = .ok (.getfield 26, 3) := by decide +kernel
theorem dX6_crossOut_15 : decode cX6_crossOut 15 = .ok (.iload_n 2, 1) := by decide +kernel
theorem dX6_crossOut_16 : decode cX6_crossOut 16 = .ok (.invokevirtual 137, 3) := by decide +kernel
theorem dX6_crossOut_19 : decode cX6_crossOut 19 = .ok (.ifCond .ne 6, 3) := by decide +kernel
theorem dX6_crossOut_22 : decode cX6_crossOut 22 = .ok (.ldc 67, 2) := by decide +kernel
theorem dX6_crossOut_24 : decode cX6_crossOut 24 = .ok (.ireturn, 1) := by decide +kernel
theorem dX6_crossOut_25 : decode cX6_crossOut 25 = .ok (.aload_n 0, 1) := by decide +kernel
theorem dX6_crossOut_26 : decode cX6_crossOut 26 = .ok (.getfield 26, 3) := by decide +kernel
theorem dX6_crossOut_29 : decode cX6_crossOut 29 = .ok (.iload_n 1, 1) := by decide +kernel
theorem dX6_crossOut_30 : decode cX6_crossOut 30 = .ok (.invokevirtual 187, 3) := by decide +kernel
theorem dX6_crossOut_33 : decode cX6_crossOut 33 = .ok (.ifCond .ne 6, 3) := by decide +kernel
theorem dX6_crossOut_36 : decode cX6_crossOut 36 = .ok (.ldc 143, 2) := by decide +kernel
theorem dX6_crossOut_38 : decode cX6_crossOut 38 = .ok (.ireturn, 1) := by decide +kernel
theorem dX6_crossOut_39 : decode cX6_crossOut 39 = .ok (.aload_n 0, 1) := by decide +kernel
theorem dX6_crossOut_40 : decode cX6_crossOut 40 = .ok (.getfield 49, 3) := by decide +kernel
theorem dX6_crossOut_43 : decode cX6_crossOut 43 = .ok (.aload_n 0, 1) := by decide +kernel
theorem dX6_crossOut_44 : decode cX6_crossOut 44 = .ok (.getfield 26, 3) := by decide +kernel
theorem dX6_crossOut_47 : decode cX6_crossOut 47 = .ok (.iload_n 1, 1) := by decide +kernel
theorem dX6_crossOut_48 : decode cX6_crossOut 48 = .ok (.iload_n 2, 1) := by decide +kernel
theorem dX6_crossOut_49 : decode cX6_crossOut 49 = .ok (.invokevirtual 249, 3) := by decide +kernel
theorem dX6_crossOut_52 : decode cX6_crossOut 52 = .ok (.ireturn, 1) := by decide +kernel
set_option maxRecDepth 100000 in
set_option maxHeartbeats 4000000 in
theorem con_X6_crossOut (G : Gt) (o : Nat) (a1 : Int32) (a2 : Int32) (ho : kd o = 6) (mem : Mem) : Con tvI G yX6_crossOut cX6_crossOut 3 (some .int) 5 [.ref (gA G o), .int a1, .int a2] mem (X6_crossOut o a1 a2 mem) := by
  refine con_of (by decide) (Nat.le_of_ble_eq_true rfl) ?_
  show EvR tvI G cX6_crossOut 3 (some .int) RX6 5 0 [(0, .ref (gA G o)), (1, .int (a1)), (2, .int (a2))] [] mem _
  unfold X6_crossOut
  refine ev_aload_n (q := 1) dX6_crossOut_0 rfl 0 rfl rfl ?_
  refine ev_getR (q := 4) (ci := 6) (j := 2) (T := TX6) dX6_crossOut_1 rfl cf_6 ho hj_6_2 hc_6 gf_X6_26 rfl ?_
  refine ev_iload_n (q := 5) dX6_crossOut_4 rfl 1 rfl rfl ?_
  refine ev_callVI (q := 8) dX6_crossOut_5 rfl ml_X6_134 mt_X3_hasReader cf_3 rfl (kr_6_2 ho) hc_3 (con_X3_hasReader G _ _ (kr_6_2 ho) _) rfl (Nat.le_of_ble_eq_true rfl) (Nat.le_of_ble_eq_true rfl) rfl (Nat.le_of_ble_eq_true rfl) (fun r1 m2 => ?_)
  refine ev_if_eq (t := 22) (q := 11) dX6_crossOut_8 rfl rfl (fun hc3 => ?_) (fun hc3 => ?_)
  · refine ev_ldc (q := 24) (v := (-1000001)) dX6_crossOut_22 rfl kc_X6_67 ?_
    exact ev_iret dX6_crossOut_24 rfl
  · refine ev_aload_n (q := 12) dX6_crossOut_11 rfl 0 rfl rfl ?_
    refine ev_getR (q := 15) (ci := 6) (j := 2) (T := TX6) dX6_crossOut_12 rfl cf_6 ho hj_6_2 hc_6 gf_X6_26 rfl ?_
    refine ev_iload_n (q := 16) dX6_crossOut_15 rfl 2 rfl rfl ?_
    refine ev_callVI (q := 19) dX6_crossOut_16 rfl ml_X6_137 mt_X3_hasLetter cf_3 rfl (kr_6_2 ho) hc_3 (con_X3_hasLetter G _ _ (kr_6_2 ho) _) rfl (Nat.le_of_ble_eq_true rfl) (Nat.le_of_ble_eq_true rfl) rfl (Nat.le_of_ble_eq_true rfl) (fun r4 m5 => ?_)
    refine ev_if_ne (t := 25) (q := 22) dX6_crossOut_19 rfl rfl (fun hc6 => ?_) (fun hc6 => ?_)
    · refine ev_ldc (q := 24) (v := (-1000001)) dX6_crossOut_22 rfl kc_X6_67 ?_
      exact ev_iret dX6_crossOut_24 rfl
    · refine ev_aload_n (q := 26) dX6_crossOut_25 rfl 0 rfl rfl ?_
      refine ev_getR (q := 29) (ci := 6) (j := 2) (T := TX6) dX6_crossOut_26 rfl cf_6 ho hj_6_2 hc_6 gf_X6_26 rfl ?_
      refine ev_iload_n (q := 30) dX6_crossOut_29 rfl 1 rfl rfl ?_
      refine ev_callVI (q := 33) dX6_crossOut_30 rfl ml_X6_187 mt_X3_isAlive cf_3 rfl (kr_6_2 ho) hc_3 (con_X3_isAlive G _ _ (kr_6_2 ho) _) rfl (Nat.le_of_ble_eq_true rfl) (Nat.le_of_ble_eq_true rfl) rfl (Nat.le_of_ble_eq_true rfl) (fun r7 m8 => ?_)
      refine ev_if_ne (t := 39) (q := 36) dX6_crossOut_33 rfl rfl (fun hc9 => ?_) (fun hc9 => ?_)
      · refine ev_ldc (q := 38) (v := (-1000002)) dX6_crossOut_36 rfl kc_X6_143 ?_
        exact ev_iret dX6_crossOut_38 rfl
      · refine ev_aload_n (q := 40) dX6_crossOut_39 rfl 0 rfl rfl ?_
        refine ev_getR (q := 43) (ci := 6) (j := 7) (T := TX6) dX6_crossOut_40 rfl cf_6 ho hj_6_7 hc_6 gf_X6_49 rfl ?_
        refine ev_aload_n (q := 44) dX6_crossOut_43 rfl 0 rfl rfl ?_
        refine ev_getR (q := 47) (ci := 6) (j := 2) (T := TX6) dX6_crossOut_44 rfl cf_6 ho hj_6_2 hc_6 gf_X6_26 rfl ?_
        refine ev_iload_n (q := 48) dX6_crossOut_47 rfl 1 rfl rfl ?_
        refine ev_iload_n (q := 49) dX6_crossOut_48 rfl 2 rfl rfl ?_
        refine ev_callVI (q := 52) dX6_crossOut_49 rfl ml_X6_249 mt_X2_fewestToCross cf_2 rfl (kr_6_7 ho) hc_2 (con_X2_fewestToCross G _ _ _ _ (kr_6_7 ho) (kr_6_2 ho) _) rfl (Nat.le_of_ble_eq_true rfl) (Nat.le_of_ble_eq_true rfl) rfl (Nat.le_of_ble_eq_true rfl) (fun r10 m11 => ?_)
        exact ev_iret dX6_crossOut_52 rfl
/-! AgingLetters.dies(I)I -/
theorem dX6_dies_0 : decode cX6_dies 0 = .ok (.aload_n 0, 1) := by decide +kernel
theorem dX6_dies_1 : decode cX6_dies 1 = .ok (.getfield 26, 3) := by decide +kernel
theorem dX6_dies_4 : decode cX6_dies 4 = .ok (.iload_n 1, 1) := by decide +kernel
theorem dX6_dies_5 : decode cX6_dies 5 = .ok (.invokevirtual 134, 3) := by decide +kernel
theorem dX6_dies_8 : decode cX6_dies 8 = .ok (.ifCond .ne 6, 3) := by decide +kernel
theorem dX6_dies_11 : decode cX6_dies 11 = .ok (.ldc 67, 2) := by decide +kernel
theorem dX6_dies_13 : decode cX6_dies 13 = .ok (.ireturn, 1) := by decide +kernel
theorem dX6_dies_14 : decode cX6_dies 14 = .ok (.aload_n 0, 1) := by decide +kernel
theorem dX6_dies_15 : decode cX6_dies 15 = .ok (.getfield 26, 3) := by decide +kernel
theorem dX6_dies_18 : decode cX6_dies 18 = .ok (.iload_n 1, 1) := by decide +kernel
theorem dX6_dies_19 : decode cX6_dies 19 = .ok (.invokevirtual 187, 3) := by decide +kernel
theorem dX6_dies_22 : decode cX6_dies 22 = .ok (.ifCond .ne 6, 3) := by decide +kernel
theorem dX6_dies_25 : decode cX6_dies 25 = .ok (.ldc 217, 2) := by decide +kernel
theorem dX6_dies_27 : decode cX6_dies 27 = .ok (.ireturn, 1) := by decide +kernel
theorem dX6_dies_28 : decode cX6_dies 28 = .ok (.aload_n 0, 1) := by decide +kernel
theorem dX6_dies_29 : decode cX6_dies 29 = .ok (.getfield 26, 3) := by decide +kernel
theorem dX6_dies_32 : decode cX6_dies 32 = .ok (.getfield 172, 3) := by decide +kernel
theorem dX6_dies_35 : decode cX6_dies 35 = .ok (.aload_n 0, 1) := by decide +kernel
theorem dX6_dies_36 : decode cX6_dies 36 = .ok (.getfield 26, 3) := by decide +kernel
theorem dX6_dies_39 : decode cX6_dies 39 = .ok (.getfield 184, 3) := by decide +kernel
theorem dX6_dies_42 : decode cX6_dies 42 = .ok (.iload_n 1, 1) := by decide +kernel
theorem dX6_dies_43 : decode cX6_dies 43 = .ok (.iaload, 1) := by decide +kernel
theorem dX6_dies_44 : decode cX6_dies 44 = .ok (.iadd, 1) := by decide +kernel
theorem dX6_dies_45 : decode cX6_dies 45 = .ok (.aload_n 0, 1) := by decide +kernel
theorem dX6_dies_46 : decode cX6_dies 46 = .ok (.getfield 26, 3) := by decide +kernel
theorem dX6_dies_49 : decode cX6_dies 49 = .ok (.getfield 148, 3) := by decide +kernel
theorem dX6_dies_52 : decode cX6_dies 52 = .ok (.iload_n 1, 1) := by decide +kernel
theorem dX6_dies_53 : decode cX6_dies 53 = .ok (.iaload, 1) := by decide +kernel
theorem dX6_dies_54 : decode cX6_dies 54 = .ok (.isub, 1) := by decide +kernel
theorem dX6_dies_55 : decode cX6_dies 55 = .ok (.ireturn, 1) := by decide +kernel
set_option maxRecDepth 100000 in
set_option maxHeartbeats 4000000 in
theorem con_X6_dies (G : Gt) (o : Nat) (a1 : Int32) (ho : kd o = 6) (mem : Mem) : Con tvI G yX6_dies cX6_dies 2 (some .int) 2 [.ref (gA G o), .int a1] mem (X6_dies o a1 mem) := by
  refine con_of (by decide) (Nat.le_of_ble_eq_true rfl) ?_
  show EvR tvI G cX6_dies 2 (some .int) RX6 2 0 [(0, .ref (gA G o)), (1, .int (a1))] [] mem _
  unfold X6_dies
  refine ev_aload_n (q := 1) dX6_dies_0 rfl 0 rfl rfl ?_
  refine ev_getR (q := 4) (ci := 6) (j := 2) (T := TX6) dX6_dies_1 rfl cf_6 ho hj_6_2 hc_6 gf_X6_26 rfl ?_
  refine ev_iload_n (q := 5) dX6_dies_4 rfl 1 rfl rfl ?_
  refine ev_callVI (q := 8) dX6_dies_5 rfl ml_X6_134 mt_X3_hasReader cf_3 rfl (kr_6_2 ho) hc_3 (con_X3_hasReader G _ _ (kr_6_2 ho) _) rfl (Nat.le_of_ble_eq_true rfl) (Nat.le_of_ble_eq_true rfl) rfl (Nat.le_of_ble_eq_true rfl) (fun r1 m2 => ?_)
  refine ev_if_ne (t := 14) (q := 11) dX6_dies_8 rfl rfl (fun hc3 => ?_) (fun hc3 => ?_)
  · refine ev_ldc (q := 13) (v := (-1000001)) dX6_dies_11 rfl kc_X6_67 ?_
    exact ev_iret dX6_dies_13 rfl
  · refine ev_aload_n (q := 15) dX6_dies_14 rfl 0 rfl rfl ?_
    refine ev_getR (q := 18) (ci := 6) (j := 2) (T := TX6) dX6_dies_15 rfl cf_6 ho hj_6_2 hc_6 gf_X6_26 rfl ?_
    refine ev_iload_n (q := 19) dX6_dies_18 rfl 1 rfl rfl ?_
    refine ev_callVI (q := 22) dX6_dies_19 rfl ml_X6_187 mt_X3_isAlive cf_3 rfl (kr_6_2 ho) hc_3 (con_X3_isAlive G _ _ (kr_6_2 ho) _) rfl (Nat.le_of_ble_eq_true rfl) (Nat.le_of_ble_eq_true rfl) rfl (Nat.le_of_ble_eq_true rfl) (fun r4 m5 => ?_)
    refine ev_if_ne (t := 28) (q := 25) dX6_dies_22 rfl rfl (fun hc6 => ?_) (fun hc6 => ?_)
    · refine ev_ldc (q := 27) (v := (-1000000)) dX6_dies_25 rfl kc_X6_217 ?_
      exact ev_iret dX6_dies_27 rfl
    · refine ev_aload_n (q := 29) dX6_dies_28 rfl 0 rfl rfl ?_
      refine ev_getR (q := 32) (ci := 6) (j := 2) (T := TX6) dX6_dies_29 rfl cf_6 ho hj_6_2 hc_6 gf_X6_26 rfl ?_
      refine ev_getI (q := 35) (ci := 3) (j := 2) (T := TX3) dX6_dies_32 rfl cf_3 (kr_6_2 ho) hj_3_2 hc_3 gf_X6_172 rfl ?_
      refine ev_aload_n (q := 36) dX6_dies_35 rfl 0 rfl rfl ?_
      refine ev_getR (q := 39) (ci := 6) (j := 2) (T := TX6) dX6_dies_36 rfl cf_6 ho hj_6_2 hc_6 gf_X6_26 rfl ?_
      refine ev_getR (q := 42) (ci := 3) (j := 10) (T := TX3) dX6_dies_39 rfl cf_3 (kr_6_2 ho) hj_3_10 hc_3 gf_X6_184 rfl ?_
      refine ev_iload_n (q := 43) dX6_dies_42 rfl 1 rfl rfl ?_
      refine ev_iald (q := 44) dX6_dies_43 rfl (kr_3_10 (kr_6_2 ho)) (fun z7 => ?_)
      refine ev_iadd (q := 45) dX6_dies_44 rfl ?_
      refine ev_aload_n (q := 46) dX6_dies_45 rfl 0 rfl rfl ?_
      refine ev_getR (q := 49) (ci := 6) (j := 2) (T := TX6) dX6_dies_46 rfl cf_6 ho hj_6_2 hc_6 gf_X6_26 rfl ?_
      refine ev_getR (q := 52) (ci := 3) (j := 9) (T := TX3) dX6_dies_49 rfl cf_3 (kr_6_2 ho) hj_3_9 hc_3 gf_X6_148 rfl ?_
      refine ev_iload_n (q := 53) dX6_dies_52 rfl 1 rfl rfl ?_
      refine ev_iald (q := 54) dX6_dies_53 rfl (kr_3_9 (kr_6_2 ho)) (fun z8 => ?_)
      refine ev_isub (q := 55) dX6_dies_54 rfl ?_
      exact ev_iret dX6_dies_55 rfl
/-! AgingLetters.late(I)I -/
theorem dX6_late_0 : decode cX6_late 0 = .ok (.aload_n 0, 1) := by decide +kernel
theorem dX6_late_1 : decode cX6_late 1 = .ok (.getfield 26, 3) := by decide +kernel
theorem dX6_late_4 : decode cX6_late 4 = .ok (.getfield 168, 3) := by decide +kernel
theorem dX6_late_7 : decode cX6_late 7 = .ok (.ifCond .ne 6, 3) := by decide +kernel
theorem dX6_late_10 : decode cX6_late 10 = .ok (.ldc 143, 2) := by decide +kernel
theorem dX6_late_12 : decode cX6_late 12 = .ok (.ireturn, 1) := by decide +kernel
theorem dX6_late_13 : decode cX6_late 13 = .ok (.iload_n 1, 1) := by decide +kernel
theorem dX6_late_14 : decode cX6_late 14 = .ok (.ifCond .lt 9, 3) := by decide +kernel
theorem dX6_late_17 : decode cX6_late 17 = .ok (.iload_n 1, 1) := by decide +kernel
theorem dX6_late_18 : decode cX6_late 18 = .ok (.bipush 99, 2) := by decide +kernel
theorem dX6_late_20 : decode cX6_late 20 = .ok (.if_icmp .le 6, 3) := by decide +kernel
theorem dX6_late_23 : decode cX6_late 23 = .ok (.ldc 67, 2) := by decide +kernel
theorem dX6_late_25 : decode cX6_late 25 = .ok (.ireturn, 1) := by decide +kernel
theorem dX6_late_26 : decode cX6_late 26 = .ok (.aload_n 0, 1) := by decide +kernel
theorem dX6_late_27 : decode cX6_late 27 = .ok (.getfield 26, 3) := by decide +kernel
theorem dX6_late_30 : decode cX6_late 30 = .ok (.aload_n 0, 1) := by decide +kernel
theorem dX6_late_31 : decode cX6_late 31 = .ok (.getfield 26, 3) := by decide +kernel
theorem dX6_late_34 : decode cX6_late 34 = .ok (.getfield 172, 3) := by decide +kernel
theorem dX6_late_37 : decode cX6_late 37 = .ok (.iload_n 1, 1) := by decide +kernel
theorem dX6_late_38 : decode cX6_late 38 = .ok (.iadd, 1) := by decide +kernel
theorem dX6_late_39 : decode cX6_late 39 = .ok (.invokevirtual 252, 3) := by decide +kernel
theorem dX6_late_42 : decode cX6_late 42 = .ok (.ireturn, 1) := by decide +kernel
set_option maxRecDepth 100000 in
set_option maxHeartbeats 4000000 in
theorem con_X6_late (G : Gt) (o : Nat) (a1 : Int32) (ho : kd o = 6) (mem : Mem) : Con tvI G yX6_late cX6_late 2 (some .int) 4 [.ref (gA G o), .int a1] mem (X6_late o a1 mem) := by
  refine con_of (by decide) (Nat.le_of_ble_eq_true rfl) ?_
  show EvR tvI G cX6_late 2 (some .int) RX6 4 0 [(0, .ref (gA G o)), (1, .int (a1))] [] mem _
  unfold X6_late
  refine ev_aload_n (q := 1) dX6_late_0 rfl 0 rfl rfl ?_
  refine ev_getR (q := 4) (ci := 6) (j := 2) (T := TX6) dX6_late_1 rfl cf_6 ho hj_6_2 hc_6 gf_X6_26 rfl ?_
  refine ev_getI (q := 7) (ci := 3) (j := 0) (T := TX3) dX6_late_4 rfl cf_3 (kr_6_2 ho) hj_3_0 hc_3 gf_X6_168 rfl ?_
  refine ev_if_ne (t := 13) (q := 10) dX6_late_7 rfl rfl (fun hc1 => ?_) (fun hc1 => ?_)
  · refine ev_ldc (q := 12) (v := (-1000002)) dX6_late_10 rfl kc_X6_143 ?_
    exact ev_iret dX6_late_12 rfl
  · refine ev_iload_n (q := 14) dX6_late_13 rfl 1 rfl rfl ?_
    refine ev_if_lt (t := 23) (q := 17) dX6_late_14 rfl rfl (fun hc2 => ?_) (fun hc2 => ?_)
    · refine ev_ldc (q := 25) (v := (-1000001)) dX6_late_23 rfl kc_X6_67 ?_
      exact ev_iret dX6_late_25 rfl
    · refine ev_iload_n (q := 18) dX6_late_17 rfl 1 rfl rfl ?_
      refine ev_bipush (q := 20) (v := 99) dX6_late_18 rfl lb_99 ?_
      refine ev_icmp_le (t := 26) (q := 23) dX6_late_20 rfl rfl (fun hc3 => ?_) (fun hc3 => ?_)
      · refine ev_ldc (q := 25) (v := (-1000001)) dX6_late_23 rfl kc_X6_67 ?_
        exact ev_iret dX6_late_25 rfl
      · refine ev_aload_n (q := 27) dX6_late_26 rfl 0 rfl rfl ?_
        refine ev_getR (q := 30) (ci := 6) (j := 2) (T := TX6) dX6_late_27 rfl cf_6 ho hj_6_2 hc_6 gf_X6_26 rfl ?_
        refine ev_aload_n (q := 31) dX6_late_30 rfl 0 rfl rfl ?_
        refine ev_getR (q := 34) (ci := 6) (j := 2) (T := TX6) dX6_late_31 rfl cf_6 ho hj_6_2 hc_6 gf_X6_26 rfl ?_
        refine ev_getI (q := 37) (ci := 3) (j := 2) (T := TX3) dX6_late_34 rfl cf_3 (kr_6_2 ho) hj_3_2 hc_3 gf_X6_172 rfl ?_
        refine ev_iload_n (q := 38) dX6_late_37 rfl 1 rfl rfl ?_
        refine ev_iadd (q := 39) dX6_late_38 rfl ?_
        refine ev_callVI (q := 42) dX6_late_39 rfl ml_X6_252 mt_X3_unreadDueAhead cf_3 rfl (kr_6_2 ho) hc_3 (con_X3_unreadDueAhead G _ _ (kr_6_2 ho) _) rfl (Nat.le_of_ble_eq_true rfl) (Nat.le_of_ble_eq_true rfl) rfl (Nat.le_of_ble_eq_true rfl) (fun r4 m5 => ?_)
        exact ev_iret dX6_late_42 rfl
/-! AgingLetters.soOld(III)I -/
theorem dX6_soOld_0 : decode cX6_soOld 0 = .ok (.aload_n 0, 1) := by decide +kernel
theorem dX6_soOld_1 : decode cX6_soOld 1 = .ok (.getfield 26, 3) := by decide +kernel
theorem dX6_soOld_4 : decode cX6_soOld 4 = .ok (.iload_n 1, 1) := by decide +kernel
theorem dX6_soOld_5 : decode cX6_soOld 5 = .ok (.invokevirtual 134, 3) := by decide +kernel
theorem dX6_soOld_8 : decode cX6_soOld 8 = .ok (.ifCond .eq 21, 3) := by decide +kernel
theorem dX6_soOld_11 : decode cX6_soOld 11 = .ok (.iload_n 2, 1) := by decide +kernel
theorem dX6_soOld_12 : decode cX6_soOld 12 = .ok (.ifCond .lt 17, 3) := by decide +kernel
theorem dX6_soOld_15 : decode cX6_soOld 15 = .ok (.iload_n 2, 1) := by decide +kernel
theorem dX6_soOld_16 : decode cX6_soOld 16 = .ok (.sipush 999, 3) := by decide +kernel
theorem dX6_soOld_19 : decode cX6_soOld 19 = .ok (.if_icmp .gt 10, 3) := by decide +kernel
theorem dX6_soOld_22 : decode cX6_soOld 22 = .ok (.iload_n 3, 1) := by decide +kernel
theorem dX6_soOld_23 : decode cX6_soOld 23 = .ok (.invokestatic 228, 3) := by decide +kernel
theorem dX6_soOld_26 : decode cX6_soOld 26 = .ok (.ifCond .ne 6, 3) := by decide +kernel
theorem dX6_soOld_29 : decode cX6_soOld 29 = .ok (.ldc 67, 2) := by decide +kernel
theorem dX6_soOld_31 : decode cX6_soOld 31 = .ok (.ireturn, 1) := by decide +kernel
theorem dX6_soOld_32 : decode cX6_soOld 32 = .ok (.iload_n 2, 1) := by decide +kernel
theorem dX6_soOld_33 : decode cX6_soOld 33 = .ok (.aload_n 0, 1) := by decide +kernel
theorem dX6_soOld_34 : decode cX6_soOld 34 = .ok (.getfield 26, 3) := by decide +kernel
theorem dX6_soOld_37 : decode cX6_soOld 37 = .ok (.getfield 255, 3) := by decide +kernel
theorem dX6_soOld_40 : decode cX6_soOld 40 = .ok (.iload_n 1, 1) := by decide +kernel
theorem dX6_soOld_41 : decode cX6_soOld 41 = .ok (.iaload, 1) := by decide +kernel
theorem dX6_soOld_42 : decode cX6_soOld 42 = .ok (.isub, 1) := by decide +kernel
theorem dX6_soOld_43 : decode cX6_soOld 43 = .ok (.aload_n 0, 1) := by decide +kernel
theorem dX6_soOld_44 : decode cX6_soOld 44 = .ok (.getfield 26, 3) := by decide +kernel
theorem dX6_soOld_47 : decode cX6_soOld 47 = .ok (.getfield 172, 3) := by decide +kernel
theorem dX6_soOld_50 : decode cX6_soOld 50 = .ok (.isub, 1) := by decide +kernel
theorem dX6_soOld_51 : decode cX6_soOld 51 = .ok (.istore 4, 2) := by decide +kernel
theorem dX6_soOld_53 : decode cX6_soOld 53 = .ok (.iload_n 3, 1) := by decide +kernel
theorem dX6_soOld_54 : decode cX6_soOld 54 = .ok (.ifCond .ne 19, 3) := by decide +kernel
theorem dX6_soOld_57 : decode cX6_soOld 57 = .ok (.aload_n 0, 1) := by decide +kernel
theorem dX6_soOld_58 : decode cX6_soOld 58 = .ok (.getfield 49, 3) := by decide +kernel
theorem dX6_soOld_61 : decode cX6_soOld 61 = .ok (.aload_n 0, 1) := by decide +kernel
theorem dX6_soOld_62 : decode cX6_soOld 62 = .ok (.getfield 26, 3) := by decide +kernel
theorem dX6_soOld_65 : decode cX6_soOld 65 = .ok (.iload 4, 2) := by decide +kernel
theorem dX6_soOld_67 : decode cX6_soOld 67 = .ok (.invokevirtual 258, 3) := by decide +kernel
theorem dX6_soOld_70 : decode cX6_soOld 70 = .ok (.goto 16, 3) := by decide +kernel
theorem dX6_soOld_73 : decode cX6_soOld 73 = .ok (.aload_n 0, 1) := by decide +kernel
theorem dX6_soOld_74 : decode cX6_soOld 74 = .ok (.getfield 49, 3) := by decide +kernel
theorem dX6_soOld_77 : decode cX6_soOld 77 = .ok (.aload_n 0, 1) := by decide +kernel
theorem dX6_soOld_78 : decode cX6_soOld 78 = .ok (.getfield 26, 3) := by decide +kernel
theorem dX6_soOld_81 : decode cX6_soOld 81 = .ok (.iload 4, 2) := by decide +kernel
theorem dX6_soOld_83 : decode cX6_soOld 83 = .ok (.invokevirtual 261, 3) := by decide +kernel
theorem dX6_soOld_86 : decode cX6_soOld 86 = .ok (.ireturn, 1) := by decide +kernel
set_option maxRecDepth 100000 in
set_option maxHeartbeats 4000000 in
theorem con_X6_soOld (G : Gt) (o : Nat) (a1 : Int32) (a2 : Int32) (a3 : Int32) (ho : kd o = 6) (mem : Mem) : Con tvI G yX6_soOld cX6_soOld 5 (some .int) 6 [.ref (gA G o), .int a1, .int a2, .int a3] mem (X6_soOld o a1 a2 a3 mem) := by
  refine con_of (by decide) (Nat.le_of_ble_eq_true rfl) ?_
  show EvR tvI G cX6_soOld 5 (some .int) RX6 6 0 [(0, .ref (gA G o)), (1, .int (a1)), (2, .int (a2)), (3, .int (a3))] [] mem _
  unfold X6_soOld
  refine ev_aload_n (q := 1) dX6_soOld_0 rfl 0 rfl rfl ?_
  refine ev_getR (q := 4) (ci := 6) (j := 2) (T := TX6) dX6_soOld_1 rfl cf_6 ho hj_6_2 hc_6 gf_X6_26 rfl ?_
  refine ev_iload_n (q := 5) dX6_soOld_4 rfl 1 rfl rfl ?_
  refine ev_callVI (q := 8) dX6_soOld_5 rfl ml_X6_134 mt_X3_hasReader cf_3 rfl (kr_6_2 ho) hc_3 (con_X3_hasReader G _ _ (kr_6_2 ho) _) rfl (Nat.le_of_ble_eq_true rfl) (Nat.le_of_ble_eq_true rfl) rfl (Nat.le_of_ble_eq_true rfl) (fun r1 m2 => ?_)
  refine ev_if_eq (t := 29) (q := 11) dX6_soOld_8 rfl rfl (fun hc3 => ?_) (fun hc3 => ?_)
  · refine ev_ldc (q := 31) (v := (-1000001)) dX6_soOld_29 rfl kc_X6_67 ?_
    exact ev_iret dX6_soOld_31 rfl
  · refine ev_iload_n (q := 12) dX6_soOld_11 rfl 2 rfl rfl ?_
    refine ev_if_lt (t := 29) (q := 15) dX6_soOld_12 rfl rfl (fun hc4 => ?_) (fun hc4 => ?_)
    · refine ev_ldc (q := 31) (v := (-1000001)) dX6_soOld_29 rfl kc_X6_67 ?_
      exact ev_iret dX6_soOld_31 rfl
    · refine ev_iload_n (q := 16) dX6_soOld_15 rfl 2 rfl rfl ?_
      refine ev_sipush (q := 19) (v := 999) dX6_soOld_16 rfl ls_999 ?_
      refine ev_icmp_gt (t := 29) (q := 22) dX6_soOld_19 rfl rfl (fun hc5 => ?_) (fun hc5 => ?_)
      · refine ev_ldc (q := 31) (v := (-1000001)) dX6_soOld_29 rfl kc_X6_67 ?_
        exact ev_iret dX6_soOld_31 rfl
      · refine ev_iload_n (q := 23) dX6_soOld_22 rfl 3 rfl rfl ?_
        refine ev_callSI (q := 26) dX6_soOld_23 rfl ml_X6_228 mt_X6_isChoice (con_X6_isChoice G _  _) rfl (Nat.le_of_ble_eq_true rfl) (Nat.le_of_ble_eq_true rfl) rfl (Nat.le_of_ble_eq_true rfl) (fun r6 m7 => ?_)
        refine ev_if_ne (t := 32) (q := 29) dX6_soOld_26 rfl rfl (fun hc8 => ?_) (fun hc8 => ?_)
        · refine ev_ldc (q := 31) (v := (-1000001)) dX6_soOld_29 rfl kc_X6_67 ?_
          exact ev_iret dX6_soOld_31 rfl
        · refine ev_iload_n (q := 33) dX6_soOld_32 rfl 2 rfl rfl ?_
          refine ev_aload_n (q := 34) dX6_soOld_33 rfl 0 rfl rfl ?_
          refine ev_getR (q := 37) (ci := 6) (j := 2) (T := TX6) dX6_soOld_34 rfl cf_6 ho hj_6_2 hc_6 gf_X6_26 rfl ?_
          refine ev_getR (q := 40) (ci := 3) (j := 8) (T := TX3) dX6_soOld_37 rfl cf_3 (kr_6_2 ho) hj_3_8 hc_3 gf_X6_255 rfl ?_
          refine ev_iload_n (q := 41) dX6_soOld_40 rfl 1 rfl rfl ?_
          refine ev_iald (q := 42) dX6_soOld_41 rfl (kr_3_8 (kr_6_2 ho)) (fun z9 => ?_)
          refine ev_isub (q := 43) dX6_soOld_42 rfl ?_
          refine ev_aload_n (q := 44) dX6_soOld_43 rfl 0 rfl rfl ?_
          refine ev_getR (q := 47) (ci := 6) (j := 2) (T := TX6) dX6_soOld_44 rfl cf_6 ho hj_6_2 hc_6 gf_X6_26 rfl ?_
          refine ev_getI (q := 50) (ci := 3) (j := 2) (T := TX3) dX6_soOld_47 rfl cf_3 (kr_6_2 ho) hj_3_2 hc_3 gf_X6_172 rfl ?_
          refine ev_isub (q := 51) dX6_soOld_50 rfl ?_
          refine ev_istore (q := 53) (lv2 := [(4, .int _), (0, .ref _), (1, .int _), (2, .int _), (3, .int _)]) dX6_soOld_51 rfl (Nat.le_of_ble_eq_true rfl) rfl ?_
          refine ev_iload_n (q := 54) dX6_soOld_53 rfl 4 rfl rfl ?_
          refine ev_if_ne (t := 73) (q := 57) dX6_soOld_54 rfl rfl (fun hc10 => ?_) (fun hc10 => ?_)
          · refine ev_aload_n (q := 58) dX6_soOld_57 rfl 1 rfl rfl ?_
            refine ev_getR (q := 61) (ci := 6) (j := 7) (T := TX6) dX6_soOld_58 rfl cf_6 ho hj_6_7 hc_6 gf_X6_49 rfl ?_
            refine ev_aload_n (q := 62) dX6_soOld_61 rfl 1 rfl rfl ?_
            refine ev_getR (q := 65) (ci := 6) (j := 2) (T := TX6) dX6_soOld_62 rfl cf_6 ho hj_6_2 hc_6 gf_X6_26 rfl ?_
            refine ev_iload (q := 67) dX6_soOld_65 0 rfl rfl ?_
            refine ev_callVI (q := 70) dX6_soOld_67 rfl ml_X6_258 mt_X2_setsThatCost cf_2 rfl (kr_6_7 ho) hc_2 (con_X2_setsThatCost G _ _ _ (kr_6_7 ho) (kr_6_2 ho) _) rfl (Nat.le_of_ble_eq_true rfl) (Nat.le_of_ble_eq_true rfl) rfl (Nat.le_of_ble_eq_true rfl) (fun r13 m14 => ?_)
            refine ev_goto (t := 86) dX6_soOld_70 rfl ?_
            exact ev_iret dX6_soOld_86 rfl
          · refine ev_aload_n (q := 74) dX6_soOld_73 rfl 1 rfl rfl ?_
            refine ev_getR (q := 77) (ci := 6) (j := 7) (T := TX6) dX6_soOld_74 rfl cf_6 ho hj_6_7 hc_6 gf_X6_49 rfl ?_
            refine ev_aload_n (q := 78) dX6_soOld_77 rfl 1 rfl rfl ?_
            refine ev_getR (q := 81) (ci := 6) (j := 2) (T := TX6) dX6_soOld_78 rfl cf_6 ho hj_6_2 hc_6 gf_X6_26 rfl ?_
            refine ev_iload (q := 83) dX6_soOld_81 0 rfl rfl ?_
            refine ev_callVI (q := 86) dX6_soOld_83 rfl ml_X6_261 mt_X2_leastSetThatCosts cf_2 rfl (kr_6_7 ho) hc_2 (con_X2_leastSetThatCosts G _ _ _ (kr_6_7 ho) (kr_6_2 ho) _) rfl (Nat.le_of_ble_eq_true rfl) (Nat.le_of_ble_eq_true rfl) rfl (Nat.le_of_ble_eq_true rfl) (fun r11 m12 => ?_)
            exact ev_iret dX6_soOld_86 rfl
/-! AgingLetters.ages(IIII)I -/
theorem dX6_ages_0 : decode cX6_ages 0 = .ok (.aload_n 0, 1) := by decide +kernel
theorem dX6_ages_1 : decode cX6_ages 1 = .ok (.getfield 26, 3) := by decide +kernel
theorem dX6_ages_4 : decode cX6_ages 4 = .ok (.iload_n 1, 1) := by decide +kernel
theorem dX6_ages_5 : decode cX6_ages 5 = .ok (.invokevirtual 134, 3) := by decide +kernel
theorem dX6_ages_8 : decode cX6_ages 8 = .ok (.ifCond .eq 27, 3) := by decide +kernel
theorem dX6_ages_11 : decode cX6_ages 11 = .ok (.aload_n 0, 1) := by decide +kernel
theorem dX6_ages_12 : decode cX6_ages 12 = .ok (.getfield 10, 3) := by decide +kernel
theorem dX6_ages_15 : decode cX6_ages 15 = .ok (.iload_n 2, 1) := by decide +kernel
theorem dX6_ages_16 : decode cX6_ages 16 = .ok (.invokevirtual 60, 3) := by decide +kernel
theorem dX6_ages_19 : decode cX6_ages 19 = .ok (.ifCond .eq 16, 3) := by decide +kernel
theorem dX6_ages_22 : decode cX6_ages 22 = .ok (.iload 4, 2) := by decide +kernel
theorem dX6_ages_24 : decode cX6_ages 24 = .ok (.iconst 1, 1) := by decide +kernel
theorem dX6_ages_25 : decode cX6_ages 25 = .ok (.if_icmp .lt 10, 3) := by decide +kernel
theorem dX6_ages_28 : decode cX6_ages 28 = .ok (.iload 4, 2) := by decide +kernel
theorem dX6_ages_30 : decode cX6_ages 30 = .ok (.bipush 6, 2) := by decide +kernel
theorem dX6_ages_32 : decode cX6_ages 32 = .ok (.if_icmp .le 6, 3) := by decide +kernel
theorem dX6_ages_35 : decode cX6_ages 35 = .ok (.ldc 67, 2) := by decide +kernel
theorem dX6_ages_37 : decode cX6_ages 37 = .ok (.ireturn, 1) := by decide +kernel
theorem dX6_ages_38 : decode cX6_ages 38 = .ok (.aload_n 0, 1) := by decide +kernel
theorem dX6_ages_39 : decode cX6_ages 39 = .ok (.getfield 10, 3) := by decide +kernel
theorem dX6_ages_42 : decode cX6_ages 42 = .ok (.iload_n 2, 1) := by decide +kernel
theorem dX6_ages_43 : decode cX6_ages 43 = .ok (.invokevirtual 79, 3) := by decide +kernel
theorem dX6_ages_46 : decode cX6_ages 46 = .ok (.ifCond .eq 9, 3) := by decide +kernel
theorem dX6_ages_49 : decode cX6_ages 49 = .ok (.aload_n 0, 1) := by decide +kernel
theorem dX6_ages_50 : decode cX6_ages 50 = .ok (.iconst 1, 1) := by decide +kernel
theorem dX6_ages_51 : decode cX6_ages 51 = .ok (.invokevirtual 68, 3) := by decide +kernel
theorem dX6_ages_54 : decode cX6_ages 54 = .ok (.ireturn, 1) := by decide +kernel
theorem dX6_ages_55 : decode cX6_ages 55 = .ok (.aload_n 0, 1) := by decide +kernel
theorem dX6_ages_56 : decode cX6_ages 56 = .ok (.getfield 10, 3) := by decide +kernel
theorem dX6_ages_59 : decode cX6_ages 59 = .ok (.iload_n 2, 1) := by decide +kernel
theorem dX6_ages_60 : decode cX6_ages 60 = .ok (.iload_n 3, 1) := by decide +kernel
theorem dX6_ages_61 : decode cX6_ages 61 = .ok (.iload 4, 2) := by decide +kernel
theorem dX6_ages_63 : decode cX6_ages 63 = .ok (.invokevirtual 82, 3) := by decide +kernel
theorem dX6_ages_66 : decode cX6_ages 66 = .ok (.ifCond .ne 9, 3) := by decide +kernel
theorem dX6_ages_69 : decode cX6_ages 69 = .ok (.aload_n 0, 1) := by decide +kernel
theorem dX6_ages_70 : decode cX6_ages 70 = .ok (.iconst 2, 1) := by decide +kernel
theorem dX6_ages_71 : decode cX6_ages 71 = .ok (.invokevirtual 68, 3) := by decide +kernel
theorem dX6_ages_74 : decode cX6_ages 74 = .ok (.ireturn, 1) := by decide +kernel
theorem dX6_ages_75 : decode cX6_ages 75 = .ok (.aload_n 0, 1) := by decide +kernel
theorem dX6_ages_76 : decode cX6_ages 76 = .ok (.getfield 49, 3) := by decide +kernel
theorem dX6_ages_79 : decode cX6_ages 79 = .ok (.invokevirtual 264, 3) := by decide +kernel
theorem dX6_ages_82 : decode cX6_ages 82 = .ok (.aload_n 0, 1) := by decide +kernel
theorem dX6_ages_83 : decode cX6_ages 83 = .ok (.getfield 26, 3) := by decide +kernel
theorem dX6_ages_86 : decode cX6_ages 86 = .ok (.getfield 255, 3) := by decide +kernel
theorem dX6_ages_89 : decode cX6_ages 89 = .ok (.iload_n 1, 1) := by decide +kernel
theorem dX6_ages_90 : decode cX6_ages 90 = .ok (.iaload, 1) := by decide +kernel
theorem dX6_ages_91 : decode cX6_ages 91 = .ok (.istore 5, 2) := by decide +kernel
theorem dX6_ages_93 : decode cX6_ages 93 = .ok (.iconst 0, 1) := by decide +kernel
theorem dX6_ages_94 : decode cX6_ages 94 = .ok (.istore 6, 2) := by decide +kernel
theorem dX6_ages_96 : decode cX6_ages 96 = .ok (.iload 6, 2) := by decide +kernel
theorem dX6_ages_98 : decode cX6_ages 98 = .ok (.iload 4, 2) := by decide +kernel
theorem dX6_ages_100 : decode cX6_ages 100 = .ok (.if_icmp .ge 44, 3) := by decide +kernel
theorem dX6_ages_103 : decode cX6_ages 103 = .ok (.aload_n 0, 1) := by decide +kernel
theorem dX6_ages_104 : decode cX6_ages 104 = .ok (.getfield 10, 3) := by decide +kernel
theorem dX6_ages_107 : decode cX6_ages 107 = .ok (.iload_n 2, 1) := by decide +kernel
theorem dX6_ages_108 : decode cX6_ages 108 = .ok (.iload_n 3, 1) := by decide +kernel
theorem dX6_ages_109 : decode cX6_ages 109 = .ok (.iload 6, 2) := by decide +kernel
theorem dX6_ages_111 : decode cX6_ages 111 = .ok (.iadd, 1) := by decide +kernel
theorem dX6_ages_112 : decode cX6_ages 112 = .ok (.invokevirtual 267, 3) := by decide +kernel
theorem dX6_ages_115 : decode cX6_ages 115 = .ok (.istore 7, 2) := by decide +kernel
theorem dX6_ages_117 : decode cX6_ages 117 = .ok (.aload_n 0, 1) := by decide +kernel
theorem dX6_ages_118 : decode cX6_ages 118 = .ok (.getfield 49, 3) := by decide +kernel
theorem dX6_ages_121 : decode cX6_ages 121 = .ok (.aload_n 0, 1) := by decide +kernel
theorem dX6_ages_122 : decode cX6_ages 122 = .ok (.getfield 26, 3) := by decide +kernel
theorem dX6_ages_125 : decode cX6_ages 125 = .ok (.iload 5, 2) := by decide +kernel
theorem dX6_ages_127 : decode cX6_ages 127 = .ok (.iload 7, 2) := by decide +kernel
theorem dX6_ages_129 : decode cX6_ages 129 = .ok (.invokevirtual 270, 3) := by decide +kernel
theorem dX6_ages_132 : decode cX6_ages 132 = .ok (.iload 7, 2) := by decide +kernel
theorem dX6_ages_134 : decode cX6_ages 134 = .ok (.iconst 1, 1) := by decide +kernel
theorem dX6_ages_135 : decode cX6_ages 135 = .ok (.iadd, 1) := by decide +kernel
theorem dX6_ages_136 : decode cX6_ages 136 = .ok (.istore 5, 2) := by decide +kernel
theorem dX6_ages_138 : decode cX6_ages 138 = .ok (.iinc 6 1, 3) := by decide +kernel
theorem dX6_ages_141 : decode cX6_ages 141 = .ok (.goto (-45), 3) := by decide +kernel
theorem dX6_ages_144 : decode cX6_ages 144 = .ok (.aload_n 0, 1) := by decide +kernel
theorem dX6_ages_145 : decode cX6_ages 145 = .ok (.aload_n 0, 1) := by decide +kernel
theorem dX6_ages_146 : decode cX6_ages 146 = .ok (.getfield 49, 3) := by decide +kernel
theorem dX6_ages_149 : decode cX6_ages 149 = .ok (.invokevirtual 273, 3) := by decide +kernel
theorem dX6_ages_152 : decode cX6_ages 152 = .ok (.invokevirtual 76, 3) := by decide +kernel
theorem dX6_ages_155 : decode cX6_ages 155 = .ok (.ireturn, 1) := by decide +kernel
set_option maxRecDepth 100000 in
set_option maxHeartbeats 4000000 in
theorem X6_ages_b96_ok (G : Gt) (o : Nat) (ho : kd o = 6)    : ∀ (n : Nat) (x2 : Int32) (x3 : Int32) (x4 : Int32) (x5 : Int32) (x6 : Int32) (mem : Mem), EvR tvI G cX6_ages 8 (some .int) RX6 5 96 [(0, .ref (gA G o)), (2, .int (x2)), (3, .int (x3)), (4, .int (x4)), (5, .int (x5)), (6, .int (x6))] [] mem (X6_ages_b96 o n x2 x3 x4 x5 x6 mem) := by
  intro n
  induction n with
  | zero => intros; exact ev_none
  | succ n ih =>
    intro x2 x3 x4 x5 x6 mem
    rw [X6_ages_b96]
    refine ev_iload (q := 98) dX6_ages_96 5 rfl rfl ?_
    refine ev_iload (q := 100) dX6_ages_98 3 rfl rfl ?_
    refine ev_icmp_ge (t := 144) (q := 103) dX6_ages_100 rfl rfl (fun hc22 => ?_) (fun hc22 => ?_)
    · refine ev_aload_n (q := 104) dX6_ages_103 rfl 0 rfl rfl ?_
      refine ev_getR (q := 107) (ci := 6) (j := 0) (T := TX6) dX6_ages_104 rfl cf_6 ho hj_6_0 hc_6 gf_X6_10 rfl ?_
      refine ev_iload_n (q := 108) dX6_ages_107 rfl 1 rfl rfl ?_
      refine ev_iload_n (q := 109) dX6_ages_108 rfl 2 rfl rfl ?_
      refine ev_iload (q := 111) dX6_ages_109 5 rfl rfl ?_
      refine ev_iadd (q := 112) dX6_ages_111 rfl ?_
      refine ev_callVI (q := 115) dX6_ages_112 rfl ml_X6_267 mt_X4_item cf_4 rfl (kr_6_0 ho) hc_4 (con_X4_item G _ _ _ (kr_6_0 ho) _) rfl (Nat.le_of_ble_eq_true rfl) (Nat.le_of_ble_eq_true rfl) rfl (Nat.le_of_ble_eq_true rfl) (fun r27 m28 => ?_)
      refine ev_istore (q := 117) (lv2 := [(7, .int _), (0, .ref _), (2, .int _), (3, .int _), (4, .int _), (5, .int _), (6, .int _)]) dX6_ages_115 rfl (Nat.le_of_ble_eq_true rfl) rfl ?_
      refine ev_aload_n (q := 118) dX6_ages_117 rfl 1 rfl rfl ?_
      refine ev_getR (q := 121) (ci := 6) (j := 7) (T := TX6) dX6_ages_118 rfl cf_6 ho hj_6_7 hc_6 gf_X6_49 rfl ?_
      refine ev_aload_n (q := 122) dX6_ages_121 rfl 1 rfl rfl ?_
      refine ev_getR (q := 125) (ci := 6) (j := 2) (T := TX6) dX6_ages_122 rfl cf_6 ho hj_6_2 hc_6 gf_X6_26 rfl ?_
      refine ev_iload (q := 127) dX6_ages_125 5 rfl rfl ?_
      refine ev_iload (q := 129) dX6_ages_127 0 rfl rfl ?_
      refine ev_callVU (q := 132) dX6_ages_129 rfl ml_X6_270 mt_X2_tellAge cf_2 rfl (kr_6_7 ho) hc_2 (con_X2_tellAge G _ _ _ _ (kr_6_7 ho) (kr_6_2 ho) _) rfl (Nat.le_of_ble_eq_true rfl) (Nat.le_of_ble_eq_true rfl) rfl (Nat.le_of_ble_eq_true rfl) (fun r29 m30 => ?_)
      refine ev_iload (q := 134) dX6_ages_132 0 rfl rfl ?_
      refine ev_iconst (q := 135) (v := 1) dX6_ages_134 rfl li_1 ?_
      refine ev_iadd (q := 136) dX6_ages_135 rfl ?_
      refine ev_istore (q := 138) (lv2 := [(5, .int _), (7, .int _), (0, .ref _), (2, .int _), (3, .int _), (4, .int _), (6, .int _)]) dX6_ages_136 rfl (Nat.le_of_ble_eq_true rfl) rfl ?_
      refine ev_iinc (q := 141) (lv2 := [(6, .int _), (5, .int _), (7, .int _), (0, .ref _), (2, .int _), (3, .int _), (4, .int _)]) (v := x6 + 1) dX6_ages_138 6 rfl rfl (congrArg (HAdd.hAdd _) li_1) (Nat.le_of_ble_eq_true rfl) rfl ?_
      refine ev_goto (t := 96) dX6_ages_141 rfl ?_
      refine ev_sub (lv' := [(0, .ref _), (2, .int _), (3, .int _), (4, .int _), (5, .int _), (6, .int _)]) [3, 4, 5, 6, 1, 0] rfl ?_
      exact ih _ _ _ _ _ _
    · refine ev_aload_n (q := 145) dX6_ages_144 rfl 0 rfl rfl ?_
      refine ev_aload_n (q := 146) dX6_ages_145 rfl 0 rfl rfl ?_
      refine ev_getR (q := 149) (ci := 6) (j := 7) (T := TX6) dX6_ages_146 rfl cf_6 ho hj_6_7 hc_6 gf_X6_49 rfl ?_
      refine ev_callVI (q := 152) dX6_ages_149 rfl ml_X6_273 mt_X2_waysToRead cf_2 rfl (kr_6_7 ho) hc_2 (con_X2_waysToRead G _ (kr_6_7 ho) _) rfl (Nat.le_of_ble_eq_true rfl) (Nat.le_of_ble_eq_true rfl) rfl (Nat.le_of_ble_eq_true rfl) (fun r23 m24 => ?_)
      refine ev_callVI (q := 155) dX6_ages_152 rfl ml_X6_76 mt_X6_foundNothing cf_6 rfl ho hc_6 (con_X6_foundNothing G _ _ ho _) rfl (Nat.le_of_ble_eq_true rfl) (Nat.le_of_ble_eq_true rfl) rfl (Nat.le_of_ble_eq_true rfl) (fun r25 m26 => ?_)
      exact ev_iret dX6_ages_155 rfl
set_option maxRecDepth 100000 in
set_option maxHeartbeats 4000000 in
theorem con_X6_ages (G : Gt) (o : Nat) (a1 : Int32) (a2 : Int32) (a3 : Int32) (a4 : Int32) (ho : kd o = 6) (mem : Mem) : Con tvI G yX6_ages cX6_ages 8 (some .int) 5 [.ref (gA G o), .int a1, .int a2, .int a3, .int a4] mem (X6_ages o a1 a2 a3 a4 mem) := by
  refine con_of (by decide) (Nat.le_of_ble_eq_true rfl) ?_
  show EvR tvI G cX6_ages 8 (some .int) RX6 5 0 [(0, .ref (gA G o)), (1, .int (a1)), (2, .int (a2)), (3, .int (a3)), (4, .int (a4))] [] mem _
  unfold X6_ages
  refine ev_aload_n (q := 1) dX6_ages_0 rfl 0 rfl rfl ?_
  refine ev_getR (q := 4) (ci := 6) (j := 2) (T := TX6) dX6_ages_1 rfl cf_6 ho hj_6_2 hc_6 gf_X6_26 rfl ?_
  refine ev_iload_n (q := 5) dX6_ages_4 rfl 1 rfl rfl ?_
  refine ev_callVI (q := 8) dX6_ages_5 rfl ml_X6_134 mt_X3_hasReader cf_3 rfl (kr_6_2 ho) hc_3 (con_X3_hasReader G _ _ (kr_6_2 ho) _) rfl (Nat.le_of_ble_eq_true rfl) (Nat.le_of_ble_eq_true rfl) rfl (Nat.le_of_ble_eq_true rfl) (fun r1 m2 => ?_)
  refine ev_if_eq (t := 35) (q := 11) dX6_ages_8 rfl rfl (fun hc3 => ?_) (fun hc3 => ?_)
  · refine ev_ldc (q := 37) (v := (-1000001)) dX6_ages_35 rfl kc_X6_67 ?_
    exact ev_iret dX6_ages_37 rfl
  · refine ev_aload_n (q := 12) dX6_ages_11 rfl 0 rfl rfl ?_
    refine ev_getR (q := 15) (ci := 6) (j := 0) (T := TX6) dX6_ages_12 rfl cf_6 ho hj_6_0 hc_6 gf_X6_10 rfl ?_
    refine ev_iload_n (q := 16) dX6_ages_15 rfl 2 rfl rfl ?_
    refine ev_callVI (q := 19) dX6_ages_16 rfl ml_X6_60 mt_X4_isRow cf_4 rfl (kr_6_0 ho) hc_4 (con_X4_isRow G _ _ (kr_6_0 ho) _) rfl (Nat.le_of_ble_eq_true rfl) (Nat.le_of_ble_eq_true rfl) rfl (Nat.le_of_ble_eq_true rfl) (fun r4 m5 => ?_)
    refine ev_if_eq (t := 35) (q := 22) dX6_ages_19 rfl rfl (fun hc6 => ?_) (fun hc6 => ?_)
    · refine ev_ldc (q := 37) (v := (-1000001)) dX6_ages_35 rfl kc_X6_67 ?_
      exact ev_iret dX6_ages_37 rfl
    · refine ev_iload (q := 24) dX6_ages_22 4 rfl rfl ?_
      refine ev_iconst (q := 25) (v := 1) dX6_ages_24 rfl li_1 ?_
      refine ev_icmp_lt (t := 35) (q := 28) dX6_ages_25 rfl rfl (fun hc7 => ?_) (fun hc7 => ?_)
      · refine ev_ldc (q := 37) (v := (-1000001)) dX6_ages_35 rfl kc_X6_67 ?_
        exact ev_iret dX6_ages_37 rfl
      · refine ev_iload (q := 30) dX6_ages_28 4 rfl rfl ?_
        refine ev_bipush (q := 32) (v := 6) dX6_ages_30 rfl lb_6 ?_
        refine ev_icmp_le (t := 38) (q := 35) dX6_ages_32 rfl rfl (fun hc8 => ?_) (fun hc8 => ?_)
        · refine ev_ldc (q := 37) (v := (-1000001)) dX6_ages_35 rfl kc_X6_67 ?_
          exact ev_iret dX6_ages_37 rfl
        · refine ev_aload_n (q := 39) dX6_ages_38 rfl 0 rfl rfl ?_
          refine ev_getR (q := 42) (ci := 6) (j := 0) (T := TX6) dX6_ages_39 rfl cf_6 ho hj_6_0 hc_6 gf_X6_10 rfl ?_
          refine ev_iload_n (q := 43) dX6_ages_42 rfl 2 rfl rfl ?_
          refine ev_callVI (q := 46) dX6_ages_43 rfl ml_X6_79 mt_X4_isMissing cf_4 rfl (kr_6_0 ho) hc_4 (con_X4_isMissing G _ _ (kr_6_0 ho) _) rfl (Nat.le_of_ble_eq_true rfl) (Nat.le_of_ble_eq_true rfl) rfl (Nat.le_of_ble_eq_true rfl) (fun r9 m10 => ?_)
          refine ev_if_eq (t := 55) (q := 49) dX6_ages_46 rfl rfl (fun hc11 => ?_) (fun hc11 => ?_)
          · refine ev_aload_n (q := 56) dX6_ages_55 rfl 0 rfl rfl ?_
            refine ev_getR (q := 59) (ci := 6) (j := 0) (T := TX6) dX6_ages_56 rfl cf_6 ho hj_6_0 hc_6 gf_X6_10 rfl ?_
            refine ev_iload_n (q := 60) dX6_ages_59 rfl 2 rfl rfl ?_
            refine ev_iload_n (q := 61) dX6_ages_60 rfl 3 rfl rfl ?_
            refine ev_iload (q := 63) dX6_ages_61 4 rfl rfl ?_
            refine ev_callVI (q := 66) dX6_ages_63 rfl ml_X6_82 mt_X4_hasPlaces cf_4 rfl (kr_6_0 ho) hc_4 (con_X4_hasPlaces G _ _ _ _ (kr_6_0 ho) _) rfl (Nat.le_of_ble_eq_true rfl) (Nat.le_of_ble_eq_true rfl) rfl (Nat.le_of_ble_eq_true rfl) (fun r12 m13 => ?_)
            refine ev_if_ne (t := 75) (q := 69) dX6_ages_66 rfl rfl (fun hc14 => ?_) (fun hc14 => ?_)
            · refine ev_aload_n (q := 70) dX6_ages_69 rfl 0 rfl rfl ?_
              refine ev_iconst (q := 71) (v := 2) dX6_ages_70 rfl li_2 ?_
              refine ev_callVI (q := 74) dX6_ages_71 rfl ml_X6_68 mt_X6_found cf_6 rfl ho hc_6 (con_X6_found G _ _ ho _) rfl (Nat.le_of_ble_eq_true rfl) (Nat.le_of_ble_eq_true rfl) rfl (Nat.le_of_ble_eq_true rfl) (fun r18 m19 => ?_)
              exact ev_iret dX6_ages_74 rfl
            · refine ev_aload_n (q := 76) dX6_ages_75 rfl 0 rfl rfl ?_
              refine ev_getR (q := 79) (ci := 6) (j := 7) (T := TX6) dX6_ages_76 rfl cf_6 ho hj_6_7 hc_6 gf_X6_49 rfl ?_
              refine ev_callVU (q := 82) dX6_ages_79 rfl ml_X6_264 mt_X2_noReadingYet cf_2 rfl (kr_6_7 ho) hc_2 (con_X2_noReadingYet G _ (kr_6_7 ho) _) rfl (Nat.le_of_ble_eq_true rfl) (Nat.le_of_ble_eq_true rfl) rfl (Nat.le_of_ble_eq_true rfl) (fun r15 m16 => ?_)
              refine ev_aload_n (q := 83) dX6_ages_82 rfl 0 rfl rfl ?_
              refine ev_getR (q := 86) (ci := 6) (j := 2) (T := TX6) dX6_ages_83 rfl cf_6 ho hj_6_2 hc_6 gf_X6_26 rfl ?_
              refine ev_getR (q := 89) (ci := 3) (j := 8) (T := TX3) dX6_ages_86 rfl cf_3 (kr_6_2 ho) hj_3_8 hc_3 gf_X6_255 rfl ?_
              refine ev_iload_n (q := 90) dX6_ages_89 rfl 1 rfl rfl ?_
              refine ev_iald (q := 91) dX6_ages_90 rfl (kr_3_8 (kr_6_2 ho)) (fun z17 => ?_)
              refine ev_istore (q := 93) (lv2 := [(5, .int _), (0, .ref _), (1, .int _), (2, .int _), (3, .int _), (4, .int _)]) dX6_ages_91 rfl (Nat.le_of_ble_eq_true rfl) rfl ?_
              refine ev_iconst (q := 94) (v := 0) dX6_ages_93 rfl li_0 ?_
              refine ev_istore (q := 96) (lv2 := [(6, .int _), (5, .int _), (0, .ref _), (1, .int _), (2, .int _), (3, .int _), (4, .int _)]) dX6_ages_94 rfl (Nat.le_of_ble_eq_true rfl) rfl ?_
              refine ev_sub (lv' := [(0, .ref _), (2, .int _), (3, .int _), (4, .int _), (5, .int _), (6, .int _)]) [2, 4, 5, 6, 1, 0] rfl ?_
              exact X6_ages_b96_ok G o ho   fu _ _ _ _ _ _
          · refine ev_aload_n (q := 50) dX6_ages_49 rfl 0 rfl rfl ?_
            refine ev_iconst (q := 51) (v := 1) dX6_ages_50 rfl li_1 ?_
            refine ev_callVI (q := 54) dX6_ages_51 rfl ml_X6_68 mt_X6_found cf_6 rfl ho hc_6 (con_X6_found G _ _ ho _) rfl (Nat.le_of_ble_eq_true rfl) (Nat.le_of_ble_eq_true rfl) rfl (Nat.le_of_ble_eq_true rfl) (fun r20 m21 => ?_)
            exact ev_iret dX6_ages_54 rfl
