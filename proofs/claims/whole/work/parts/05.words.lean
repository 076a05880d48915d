/-! ===== words by their places, literals, kinds (by wip/whole/gen.py) ===== -/
def fu : Nat := 5000
theorem lb_10 : (Int8.ofInt 10).toInt32 = 10 := by decide
theorem lb_100 : (Int8.ofInt 100).toInt32 = 100 := by decide
theorem lb_102 : (Int8.ofInt 102).toInt32 = 102 := by decide
theorem lb_108 : (Int8.ofInt 108).toInt32 = 108 := by decide
theorem lb_11 : (Int8.ofInt 11).toInt32 = 11 := by decide
theorem lb_111 : (Int8.ofInt 111).toInt32 = 111 := by decide
theorem lb_112 : (Int8.ofInt 112).toInt32 = 112 := by decide
theorem lb_114 : (Int8.ofInt 114).toInt32 = 114 := by decide
theorem lb_115 : (Int8.ofInt 115).toInt32 = 115 := by decide
theorem lb_118 : (Int8.ofInt 118).toInt32 = 118 := by decide
theorem lb_12 : (Int8.ofInt 12).toInt32 = 12 := by decide
theorem lb_120 : (Int8.ofInt 120).toInt32 = 120 := by decide
theorem lb_13 : (Int8.ofInt 13).toInt32 = 13 := by decide
theorem lb_14 : (Int8.ofInt 14).toInt32 = 14 := by decide
theorem lb_16 : (Int8.ofInt 16).toInt32 = 16 := by decide
theorem lb_17 : (Int8.ofInt 17).toInt32 = 17 := by decide
theorem lb_20 : (Int8.ofInt 20).toInt32 = 20 := by decide
theorem lb_21 : (Int8.ofInt 21).toInt32 = 21 := by decide
theorem lb_22 : (Int8.ofInt 22).toInt32 = 22 := by decide
theorem lb_23 : (Int8.ofInt 23).toInt32 = 23 := by decide
theorem lb_24 : (Int8.ofInt 24).toInt32 = 24 := by decide
theorem lb_27 : (Int8.ofInt 27).toInt32 = 27 := by decide
theorem lb_31 : (Int8.ofInt 31).toInt32 = 31 := by decide
theorem lb_35 : (Int8.ofInt 35).toInt32 = 35 := by decide
theorem lb_39 : (Int8.ofInt 39).toInt32 = 39 := by decide
theorem lb_40 : (Int8.ofInt 40).toInt32 = 40 := by decide
theorem lb_44 : (Int8.ofInt 44).toInt32 = 44 := by decide
theorem lb_48 : (Int8.ofInt 48).toInt32 = 48 := by decide
theorem lb_57 : (Int8.ofInt 57).toInt32 = 57 := by decide
theorem lb_59 : (Int8.ofInt 59).toInt32 = 59 := by decide
theorem lb_6 : (Int8.ofInt 6).toInt32 = 6 := by decide
theorem lb_63 : (Int8.ofInt 63).toInt32 = 63 := by decide
theorem lb_64 : (Int8.ofInt 64).toInt32 = 64 := by decide
theorem lb_7 : (Int8.ofInt 7).toInt32 = 7 := by decide
theorem lb_8 : (Int8.ofInt 8).toInt32 = 8 := by decide
theorem lb_9 : (Int8.ofInt 9).toInt32 = 9 := by decide
theorem lb_99 : (Int8.ofInt 99).toInt32 = 99 := by decide
theorem li_0 : Int32.ofInt 0 = 0 := by decide
theorem li_1 : Int32.ofInt 1 = 1 := by decide
theorem li_2 : Int32.ofInt 2 = 2 := by decide
theorem li_3 : Int32.ofInt 3 = 3 := by decide
theorem li_4 : Int32.ofInt 4 = 4 := by decide
theorem li_5 : Int32.ofInt 5 = 5 := by decide
theorem li_m1 : Int32.ofInt (-1) = (-1) := by decide
theorem ll_0 : Int64.ofNat ((0 : Fin 2) : Nat) = 0 := by decide
theorem ll_1 : Int64.ofNat ((1 : Fin 2) : Nat) = 1 := by decide
theorem ls_1000 : (Int16.ofInt 1000).toInt32 = 1000 := by decide
theorem ls_1512 : (Int16.ofInt 1512).toInt32 = 1512 := by decide
theorem ls_255 : (Int16.ofInt 255).toInt32 = 255 := by decide
theorem ls_999 : (Int16.ofInt 999).toInt32 = 999 := by decide
theorem hc_0 : 0 < 100 := by decide
theorem hc_1 : 1 < 100 := by decide
theorem hc_2 : 2 < 100 := by decide
theorem hc_3 : 3 < 100 := by decide
theorem hc_4 : 4 < 100 := by decide
theorem hc_5 : 5 < 100 := by decide
theorem hc_6 : 6 < 100 := by decide
theorem hc_7 : 7 < 100 := by decide
theorem hj_0_0 : 0 < nf 0 := by decide
theorem hj_0_1 : 1 < nf 0 := by decide
theorem hj_0_2 : 2 < nf 0 := by decide
theorem hj_0_3 : 3 < nf 0 := by decide
theorem hj_0_4 : 4 < nf 0 := by decide
theorem hj_0_5 : 5 < nf 0 := by decide
theorem hj_0_6 : 6 < nf 0 := by decide
theorem hj_0_7 : 7 < nf 0 := by decide
theorem hj_0_8 : 8 < nf 0 := by decide
theorem hj_1_0 : 0 < nf 1 := by decide
theorem hj_1_1 : 1 < nf 1 := by decide
theorem hj_2_0 : 0 < nf 2 := by decide
theorem hj_2_1 : 1 < nf 2 := by decide
theorem hj_2_2 : 2 < nf 2 := by decide
theorem hj_3_0 : 0 < nf 3 := by decide
theorem hj_3_1 : 1 < nf 3 := by decide
theorem hj_3_2 : 2 < nf 3 := by decide
theorem hj_3_3 : 3 < nf 3 := by decide
theorem hj_3_4 : 4 < nf 3 := by decide
theorem hj_3_5 : 5 < nf 3 := by decide
theorem hj_3_6 : 6 < nf 3 := by decide
theorem hj_3_7 : 7 < nf 3 := by decide
theorem hj_3_8 : 8 < nf 3 := by decide
theorem hj_3_9 : 9 < nf 3 := by decide
theorem hj_3_10 : 10 < nf 3 := by decide
theorem hj_3_11 : 11 < nf 3 := by decide
theorem hj_3_12 : 12 < nf 3 := by decide
theorem hj_4_0 : 0 < nf 4 := by decide
theorem hj_4_1 : 1 < nf 4 := by decide
theorem hj_4_2 : 2 < nf 4 := by decide
theorem hj_5_0 : 0 < nf 5 := by decide
theorem hj_5_1 : 1 < nf 5 := by decide
theorem hj_5_2 : 2 < nf 5 := by decide
theorem hj_5_3 : 3 < nf 5 := by decide
theorem hj_6_0 : 0 < nf 6 := by decide
theorem hj_6_1 : 1 < nf 6 := by decide
theorem hj_6_2 : 2 < nf 6 := by decide
theorem hj_6_3 : 3 < nf 6 := by decide
theorem hj_6_4 : 4 < nf 6 := by decide
theorem hj_6_5 : 5 < nf 6 := by decide
theorem hj_6_6 : 6 < nf 6 := by decide
theorem hj_6_7 : 7 < nf 6 := by decide
theorem hj_6_8 : 8 < nf 6 := by decide
theorem hj_6_9 : 9 < nf 6 := by decide
theorem hj_6_10 : 10 < nf 6 := by decide
theorem hj_7_0 : 0 < nf 7 := by decide
theorem hj_7_1 : 1 < nf 7 := by decide
theorem hj_7_2 : 2 < nf 7 := by decide
theorem hj_7_3 : 3 < nf 7 := by decide
theorem hj_7_4 : 4 < nf 7 := by decide
theorem hj_7_5 : 5 < nf 7 := by decide
theorem hj_7_6 : 6 < nf 7 := by decide
theorem hj_7_7 : 7 < nf 7 := by decide
theorem hj_7_8 : 8 < nf 7 := by decide
theorem hj_7_9 : 9 < nf 7 := by decide
theorem hj_7_10 : 10 < nf 7 := by decide
theorem hj_7_11 : 11 < nf 7 := by decide
theorem hj_7_12 : 12 < nf 7 := by decide
theorem hj_7_13 : 13 < nf 7 := by decide
theorem hj_7_14 : 14 < nf 7 := by decide
theorem hj_7_15 : 15 < nf 7 := by decide
theorem hj_7_16 : 16 < nf 7 := by decide
theorem hj_7_17 : 17 < nf 7 := by decide
theorem hj_7_18 : 18 < nf 7 := by decide
theorem hj_7_19 : 19 < nf 7 := by decide
theorem hj_7_20 : 20 < nf 7 := by decide
theorem hj_7_21 : 21 < nf 7 := by decide
theorem hj_7_22 : 22 < nf 7 := by decide
theorem kr_0_0 {o : Nat} (h : kd o = 0) : kd (rf o 0) = 100 := (show ∀ o, o < NC → kd o = 0 → kd (rf o 0) = 100 by decide +kernel) o (kd_lt h (by decide)) h
theorem kr_0_1 {o : Nat} (h : kd o = 0) : kd (rf o 1) = 100 := (show ∀ o, o < NC → kd o = 0 → kd (rf o 1) = 100 by decide +kernel) o (kd_lt h (by decide)) h
theorem kr_0_2 {o : Nat} (h : kd o = 0) : kd (rf o 2) = 100 := (show ∀ o, o < NC → kd o = 0 → kd (rf o 2) = 100 by decide +kernel) o (kd_lt h (by decide)) h
theorem kr_0_3 {o : Nat} (h : kd o = 0) : kd (rf o 3) = 100 := (show ∀ o, o < NC → kd o = 0 → kd (rf o 3) = 100 by decide +kernel) o (kd_lt h (by decide)) h
theorem kr_0_4 {o : Nat} (h : kd o = 0) : kd (rf o 4) = 100 := (show ∀ o, o < NC → kd o = 0 → kd (rf o 4) = 100 by decide +kernel) o (kd_lt h (by decide)) h
theorem kr_0_5 {o : Nat} (h : kd o = 0) : kd (rf o 5) = 100 := (show ∀ o, o < NC → kd o = 0 → kd (rf o 5) = 100 by decide +kernel) o (kd_lt h (by decide)) h
theorem kr_0_6 {o : Nat} (h : kd o = 0) : kd (rf o 6) = 100 := (show ∀ o, o < NC → kd o = 0 → kd (rf o 6) = 100 by decide +kernel) o (kd_lt h (by decide)) h
theorem kr_1_0 {o : Nat} (h : kd o = 1) : kd (rf o 0) = 100 := (show ∀ o, o < NC → kd o = 1 → kd (rf o 0) = 100 by decide +kernel) o (kd_lt h (by decide)) h
theorem kr_2_0 {o : Nat} (h : kd o = 2) : kd (rf o 0) = 100 := (show ∀ o, o < NC → kd o = 2 → kd (rf o 0) = 100 by decide +kernel) o (kd_lt h (by decide)) h
theorem kr_2_1 {o : Nat} (h : kd o = 2) : kd (rf o 1) = 100 := (show ∀ o, o < NC → kd o = 2 → kd (rf o 1) = 100 by decide +kernel) o (kd_lt h (by decide)) h
theorem kr_2_2 {o : Nat} (h : kd o = 2) : kd (rf o 2) = 100 := (show ∀ o, o < NC → kd o = 2 → kd (rf o 2) = 100 by decide +kernel) o (kd_lt h (by decide)) h
theorem kr_3_4 {o : Nat} (h : kd o = 3) : kd (rf o 4) = 100 := (show ∀ o, o < NC → kd o = 3 → kd (rf o 4) = 100 by decide +kernel) o (kd_lt h (by decide)) h
theorem kr_3_5 {o : Nat} (h : kd o = 3) : kd (rf o 5) = 100 := (show ∀ o, o < NC → kd o = 3 → kd (rf o 5) = 100 by decide +kernel) o (kd_lt h (by decide)) h
theorem kr_3_6 {o : Nat} (h : kd o = 3) : kd (rf o 6) = 100 := (show ∀ o, o < NC → kd o = 3 → kd (rf o 6) = 100 by decide +kernel) o (kd_lt h (by decide)) h
theorem kr_3_8 {o : Nat} (h : kd o = 3) : kd (rf o 8) = 100 := (show ∀ o, o < NC → kd o = 3 → kd (rf o 8) = 100 by decide +kernel) o (kd_lt h (by decide)) h
theorem kr_3_9 {o : Nat} (h : kd o = 3) : kd (rf o 9) = 100 := (show ∀ o, o < NC → kd o = 3 → kd (rf o 9) = 100 by decide +kernel) o (kd_lt h (by decide)) h
theorem kr_3_10 {o : Nat} (h : kd o = 3) : kd (rf o 10) = 100 := (show ∀ o, o < NC → kd o = 3 → kd (rf o 10) = 100 by decide +kernel) o (kd_lt h (by decide)) h
theorem kr_3_11 {o : Nat} (h : kd o = 3) : kd (rf o 11) = 100 := (show ∀ o, o < NC → kd o = 3 → kd (rf o 11) = 100 by decide +kernel) o (kd_lt h (by decide)) h
theorem kr_3_12 {o : Nat} (h : kd o = 3) : kd (rf o 12) = 100 := (show ∀ o, o < NC → kd o = 3 → kd (rf o 12) = 100 by decide +kernel) o (kd_lt h (by decide)) h
theorem kr_4_0 {o : Nat} (h : kd o = 4) : kd (rf o 0) = 100 := (show ∀ o, o < NC → kd o = 4 → kd (rf o 0) = 100 by decide +kernel) o (kd_lt h (by decide)) h
theorem kr_4_1 {o : Nat} (h : kd o = 4) : kd (rf o 1) = 100 := (show ∀ o, o < NC → kd o = 4 → kd (rf o 1) = 100 by decide +kernel) o (kd_lt h (by decide)) h
theorem kr_4_2 {o : Nat} (h : kd o = 4) : kd (rf o 2) = 100 := (show ∀ o, o < NC → kd o = 4 → kd (rf o 2) = 100 by decide +kernel) o (kd_lt h (by decide)) h
theorem kr_5_0 {o : Nat} (h : kd o = 5) : kd (rf o 0) = 100 := (show ∀ o, o < NC → kd o = 5 → kd (rf o 0) = 100 by decide +kernel) o (kd_lt h (by decide)) h
theorem kr_6_0 {o : Nat} (h : kd o = 6) : kd (rf o 0) = 4 := (show ∀ o, o < NC → kd o = 6 → kd (rf o 0) = 4 by decide +kernel) o (kd_lt h (by decide)) h
theorem kr_6_1 {o : Nat} (h : kd o = 6) : kd (rf o 1) = 5 := (show ∀ o, o < NC → kd o = 6 → kd (rf o 1) = 5 by decide +kernel) o (kd_lt h (by decide)) h
theorem kr_6_2 {o : Nat} (h : kd o = 6) : kd (rf o 2) = 3 := (show ∀ o, o < NC → kd o = 6 → kd (rf o 2) = 3 by decide +kernel) o (kd_lt h (by decide)) h
theorem kr_6_3 {o : Nat} (h : kd o = 6) : kd (rf o 3) = 3 := (show ∀ o, o < NC → kd o = 6 → kd (rf o 3) = 3 by decide +kernel) o (kd_lt h (by decide)) h
theorem kr_6_4 {o : Nat} (h : kd o = 6) : kd (rf o 4) = 3 := (show ∀ o, o < NC → kd o = 6 → kd (rf o 4) = 3 by decide +kernel) o (kd_lt h (by decide)) h
theorem kr_6_5 {o : Nat} (h : kd o = 6) : kd (rf o 5) = 3 := (show ∀ o, o < NC → kd o = 6 → kd (rf o 5) = 3 by decide +kernel) o (kd_lt h (by decide)) h
theorem kr_6_6 {o : Nat} (h : kd o = 6) : kd (rf o 6) = 0 := (show ∀ o, o < NC → kd o = 6 → kd (rf o 6) = 0 by decide +kernel) o (kd_lt h (by decide)) h
theorem kr_6_7 {o : Nat} (h : kd o = 6) : kd (rf o 7) = 2 := (show ∀ o, o < NC → kd o = 6 → kd (rf o 7) = 2 by decide +kernel) o (kd_lt h (by decide)) h
theorem kr_6_8 {o : Nat} (h : kd o = 6) : kd (rf o 8) = 1 := (show ∀ o, o < NC → kd o = 6 → kd (rf o 8) = 1 by decide +kernel) o (kd_lt h (by decide)) h
theorem kr_7_0 {o : Nat} (h : kd o = 7) : kd (rf o 0) = 100 := (show ∀ o, o < NC → kd o = 7 → kd (rf o 0) = 100 by decide +kernel) o (kd_lt h (by decide)) h
theorem kr_7_1 {o : Nat} (h : kd o = 7) : kd (rf o 1) = 100 := (show ∀ o, o < NC → kd o = 7 → kd (rf o 1) = 100 by decide +kernel) o (kd_lt h (by decide)) h
theorem kr_7_2 {o : Nat} (h : kd o = 7) : kd (rf o 2) = 100 := (show ∀ o, o < NC → kd o = 7 → kd (rf o 2) = 100 by decide +kernel) o (kd_lt h (by decide)) h
theorem kr_7_4 {o : Nat} (h : kd o = 7) : kd (rf o 4) = 100 := (show ∀ o, o < NC → kd o = 7 → kd (rf o 4) = 100 by decide +kernel) o (kd_lt h (by decide)) h
theorem kr_7_5 {o : Nat} (h : kd o = 7) : kd (rf o 5) = 100 := (show ∀ o, o < NC → kd o = 7 → kd (rf o 5) = 100 by decide +kernel) o (kd_lt h (by decide)) h
theorem kr_7_6 {o : Nat} (h : kd o = 7) : kd (rf o 6) = 100 := (show ∀ o, o < NC → kd o = 7 → kd (rf o 6) = 100 by decide +kernel) o (kd_lt h (by decide)) h
theorem kr_7_12 {o : Nat} (h : kd o = 7) : kd (rf o 12) = 100 := (show ∀ o, o < NC → kd o = 7 → kd (rf o 12) = 100 by decide +kernel) o (kd_lt h (by decide)) h
theorem kr_7_14 {o : Nat} (h : kd o = 7) : kd (rf o 14) = 100 := (show ∀ o, o < NC → kd o = 7 → kd (rf o 14) = 100 by decide +kernel) o (kd_lt h (by decide)) h
theorem kr_7_15 {o : Nat} (h : kd o = 7) : kd (rf o 15) = 100 := (show ∀ o, o < NC → kd o = 7 → kd (rf o 15) = 100 by decide +kernel) o (kd_lt h (by decide)) h
theorem kr_7_16 {o : Nat} (h : kd o = 7) : kd (rf o 16) = 100 := (show ∀ o, o < NC → kd o = 7 → kd (rf o 16) = 100 by decide +kernel) o (kd_lt h (by decide)) h
theorem kr_7_17 {o : Nat} (h : kd o = 7) : kd (rf o 17) = 100 := (show ∀ o, o < NC → kd o = 7 → kd (rf o 17) = 100 by decide +kernel) o (kd_lt h (by decide)) h
theorem kr_7_18 {o : Nat} (h : kd o = 7) : kd (rf o 18) = 100 := (show ∀ o, o < NC → kd o = 7 → kd (rf o 18) = 100 by decide +kernel) o (kd_lt h (by decide)) h
theorem kr_7_19 {o : Nat} (h : kd o = 7) : kd (rf o 19) = 100 := (show ∀ o, o < NC → kd o = 7 → kd (rf o 19) = 100 by decide +kernel) o (kd_lt h (by decide)) h
theorem kr_7_20 {o : Nat} (h : kd o = 7) : kd (rf o 20) = 101 := (show ∀ o, o < NC → kd o = 7 → kd (rf o 20) = 101 by decide +kernel) o (kd_lt h (by decide)) h
theorem kr_7_21 {o : Nat} (h : kd o = 7) : kd (rf o 21) = 100 := (show ∀ o, o < NC → kd o = 7 → kd (rf o 21) = 100 by decide +kernel) o (kd_lt h (by decide)) h
theorem cw_0 : ∀ w ∈ u_ws RX0 TX0 (nf 0), w ∈ AW := by
  show ∀ w ∈ [u_lay RX0 TX0 0, u_lay RX0 TX0 1, u_lay RX0 TX0 2, u_lay RX0 TX0 3, u_lay RX0 TX0 4, u_lay RX0 TX0 5, u_lay RX0 TX0 6, u_lay RX0 TX0 7, u_lay RX0 TX0 8], w ∈ AW
  exact List.forall_mem_cons.mpr ⟨AW_t (tb_1 (i := 150) rfl) rfl, List.forall_mem_cons.mpr ⟨AW_t (tb_1 (i := 152) rfl) rfl, List.forall_mem_cons.mpr ⟨AW_t (tb_1 (i := 154) rfl) rfl, List.forall_mem_cons.mpr ⟨AW_t (tb_1 (i := 156) rfl) rfl, List.forall_mem_cons.mpr ⟨AW_t (tb_1 (i := 158) rfl) rfl, List.forall_mem_cons.mpr ⟨AW_t (tb_1 (i := 160) rfl) rfl, List.forall_mem_cons.mpr ⟨AW_t (tb_1 (i := 162) rfl) rfl, List.forall_mem_cons.mpr ⟨AW_t (tb_1 (i := 164) rfl) rfl, List.forall_mem_cons.mpr ⟨AW_t (tb_1 (i := 166) rfl) rfl, fun _ h => absurd h List.not_mem_nil⟩⟩⟩⟩⟩⟩⟩⟩⟩
theorem cf_0 : CF 0 RX0 TX0 := ⟨rfl, cw_0, ⟨tyX0, tyX0_ok⟩, nmX0⟩
theorem cw_1 : ∀ w ∈ u_ws RX1 TX1 (nf 1), w ∈ AW := by
  show ∀ w ∈ [u_lay RX1 TX1 0, u_lay RX1 TX1 1], w ∈ AW
  exact List.forall_mem_cons.mpr ⟨AW_t (tb_1 (i := 196) rfl) rfl, List.forall_mem_cons.mpr ⟨AW_t (tb_1 (i := 198) rfl) rfl, fun _ h => absurd h List.not_mem_nil⟩⟩
theorem cf_1 : CF 1 RX1 TX1 := ⟨rfl, cw_1, ⟨tyX1, tyX1_ok⟩, nmX1⟩
theorem cw_2 : ∀ w ∈ u_ws RX2 TX2 (nf 2), w ∈ AW := by
  show ∀ w ∈ [u_lay RX2 TX2 0, u_lay RX2 TX2 1, u_lay RX2 TX2 2], w ∈ AW
  exact List.forall_mem_cons.mpr ⟨AW_t (tb_1 (i := 179) rfl) rfl, List.forall_mem_cons.mpr ⟨AW_t (tb_1 (i := 181) rfl) rfl, List.forall_mem_cons.mpr ⟨AW_t (tb_1 (i := 183) rfl) rfl, fun _ h => absurd h List.not_mem_nil⟩⟩⟩
theorem cf_2 : CF 2 RX2 TX2 := ⟨rfl, cw_2, ⟨tyX2, tyX2_ok⟩, nmX2⟩
theorem cw_3 : ∀ w ∈ u_ws RX3 TX3 (nf 3), w ∈ AW := by
  show ∀ w ∈ [u_lay RX3 TX3 0, u_lay RX3 TX3 1, u_lay RX3 TX3 2, u_lay RX3 TX3 3, u_lay RX3 TX3 4, u_lay RX3 TX3 5, u_lay RX3 TX3 6, u_lay RX3 TX3 7, u_lay RX3 TX3 8, u_lay RX3 TX3 9, u_lay RX3 TX3 10, u_lay RX3 TX3 11, u_lay RX3 TX3 12], w ∈ AW
  exact List.forall_mem_cons.mpr ⟨AW_t (tb_1 (i := 107) rfl) rfl, List.forall_mem_cons.mpr ⟨AW_t (tb_1 (i := 109) rfl) rfl, List.forall_mem_cons.mpr ⟨AW_t (tb_1 (i := 111) rfl) rfl, List.forall_mem_cons.mpr ⟨AW_t (tb_1 (i := 113) rfl) rfl, List.forall_mem_cons.mpr ⟨AW_t (tb_1 (i := 115) rfl) rfl, List.forall_mem_cons.mpr ⟨AW_t (tb_1 (i := 117) rfl) rfl, List.forall_mem_cons.mpr ⟨AW_t (tb_1 (i := 119) rfl) rfl, List.forall_mem_cons.mpr ⟨AW_t (tb_1 (i := 121) rfl) rfl, List.forall_mem_cons.mpr ⟨AW_t (tb_1 (i := 123) rfl) rfl, List.forall_mem_cons.mpr ⟨AW_t (tb_1 (i := 125) rfl) rfl, List.forall_mem_cons.mpr ⟨AW_t (tb_1 (i := 127) rfl) rfl, List.forall_mem_cons.mpr ⟨AW_t (tb_1 (i := 129) rfl) rfl, List.forall_mem_cons.mpr ⟨AW_t (tb_1 (i := 131) rfl) rfl, fun _ h => absurd h List.not_mem_nil⟩⟩⟩⟩⟩⟩⟩⟩⟩⟩⟩⟩⟩
theorem cf_3 : CF 3 RX3 TX3 := ⟨rfl, cw_3, ⟨tyX3, tyX3_ok⟩, nmX3⟩
theorem cw_4 : ∀ w ∈ u_ws RX4 TX4 (nf 4), w ∈ AW := by
  show ∀ w ∈ [u_lay RX4 TX4 0, u_lay RX4 TX4 1, u_lay RX4 TX4 2], w ∈ AW
  exact List.forall_mem_cons.mpr ⟨AW_t (tb_1 (i := 32) rfl) rfl, List.forall_mem_cons.mpr ⟨AW_t (tb_1 (i := 34) rfl) rfl, List.forall_mem_cons.mpr ⟨AW_t (tb_1 (i := 36) rfl) rfl, fun _ h => absurd h List.not_mem_nil⟩⟩⟩
theorem cf_4 : CF 4 RX4 TX4 := ⟨rfl, cw_4, ⟨tyX4, tyX4_ok⟩, nmX4⟩
theorem cw_5 : ∀ w ∈ u_ws RX5 TX5 (nf 5), w ∈ AW := by
  show ∀ w ∈ [u_lay RX5 TX5 0, u_lay RX5 TX5 1, u_lay RX5 TX5 2, u_lay RX5 TX5 3], w ∈ AW
  exact List.forall_mem_cons.mpr ⟨AW_t (tb_1 (i := 52) rfl) rfl, List.forall_mem_cons.mpr ⟨AW_t (tb_1 (i := 54) rfl) rfl, List.forall_mem_cons.mpr ⟨AW_t (tb_1 (i := 56) rfl) rfl, List.forall_mem_cons.mpr ⟨AW_t (tb_1 (i := 58) rfl) rfl, fun _ h => absurd h List.not_mem_nil⟩⟩⟩⟩
theorem cf_5 : CF 5 RX5 TX5 := ⟨rfl, cw_5, ⟨tyX5, tyX5_ok⟩, nmX5⟩
theorem cw_6 : ∀ w ∈ u_ws RX6 TX6 (nf 6), w ∈ AW := by
  show ∀ w ∈ [u_lay RX6 TX6 0, u_lay RX6 TX6 1, u_lay RX6 TX6 2, u_lay RX6 TX6 3, u_lay RX6 TX6 4, u_lay RX6 TX6 5, u_lay RX6 TX6 6, u_lay RX6 TX6 7, u_lay RX6 TX6 8, u_lay RX6 TX6 9, u_lay RX6 TX6 10], w ∈ AW
  exact List.forall_mem_cons.mpr ⟨AW_t (tb_1 (i := 212) rfl) rfl, List.forall_mem_cons.mpr ⟨AW_t (tb_1 (i := 214) rfl) rfl, List.forall_mem_cons.mpr ⟨AW_t (tb_1 (i := 216) rfl) rfl, List.forall_mem_cons.mpr ⟨AW_t (tb_1 (i := 218) rfl) rfl, List.forall_mem_cons.mpr ⟨AW_t (tb_1 (i := 220) rfl) rfl, List.forall_mem_cons.mpr ⟨AW_t (tb_1 (i := 222) rfl) rfl, List.forall_mem_cons.mpr ⟨AW_t (tb_1 (i := 224) rfl) rfl, List.forall_mem_cons.mpr ⟨AW_t (tb_1 (i := 226) rfl) rfl, List.forall_mem_cons.mpr ⟨AW_t (tb_1 (i := 228) rfl) rfl, List.forall_mem_cons.mpr ⟨AW_t (tb_1 (i := 230) rfl) rfl, List.forall_mem_cons.mpr ⟨AW_t (tb_1 (i := 232) rfl) rfl, fun _ h => absurd h List.not_mem_nil⟩⟩⟩⟩⟩⟩⟩⟩⟩⟩⟩
theorem cf_6 : CF 6 RX6 TX6 := ⟨rfl, cw_6, ⟨tyX6, tyX6_ok⟩, nmX6⟩
theorem cw_7 : ∀ w ∈ u_ws RX7 TX7 (nf 7), w ∈ AW := by
  show ∀ w ∈ [u_lay RX7 TX7 0, u_lay RX7 TX7 1, u_lay RX7 TX7 2, u_lay RX7 TX7 3, u_lay RX7 TX7 4, u_lay RX7 TX7 5, u_lay RX7 TX7 6, u_lay RX7 TX7 7, u_lay RX7 TX7 8, u_lay RX7 TX7 9, u_lay RX7 TX7 10, u_lay RX7 TX7 11, u_lay RX7 TX7 12, u_lay RX7 TX7 13, u_lay RX7 TX7 14, u_lay RX7 TX7 15, u_lay RX7 TX7 16, u_lay RX7 TX7 17, u_lay RX7 TX7 18, u_lay RX7 TX7 19, u_lay RX7 TX7 20, u_lay RX7 TX7 21, u_lay RX7 TX7 22], w ∈ AW
  exact List.forall_mem_cons.mpr ⟨AW_t (tb_4 (i := 56) rfl) rfl, List.forall_mem_cons.mpr ⟨AW_t (tb_4 (i := 58) rfl) rfl, List.forall_mem_cons.mpr ⟨AW_t (tb_4 (i := 60) rfl) rfl, List.forall_mem_cons.mpr ⟨AW_t (tb_4 (i := 62) rfl) rfl, List.forall_mem_cons.mpr ⟨AW_t (tb_4 (i := 64) rfl) rfl, List.forall_mem_cons.mpr ⟨AW_t (tb_4 (i := 66) rfl) rfl, List.forall_mem_cons.mpr ⟨AW_t (tb_4 (i := 68) rfl) rfl, List.forall_mem_cons.mpr ⟨AW_t (tb_4 (i := 70) rfl) rfl, List.forall_mem_cons.mpr ⟨AW_t (tb_4 (i := 72) rfl) rfl, List.forall_mem_cons.mpr ⟨AW_t (tb_4 (i := 74) rfl) rfl, List.forall_mem_cons.mpr ⟨AW_t (tb_4 (i := 76) rfl) rfl, List.forall_mem_cons.mpr ⟨AW_t (tb_4 (i := 78) rfl) rfl, List.forall_mem_cons.mpr ⟨AW_t (tb_4 (i := 80) rfl) rfl, List.forall_mem_cons.mpr ⟨AW_t (tb_4 (i := 82) rfl) rfl, List.forall_mem_cons.mpr ⟨AW_t (tb_4 (i := 84) rfl) rfl, List.forall_mem_cons.mpr ⟨AW_t (tb_4 (i := 86) rfl) rfl, List.forall_mem_cons.mpr ⟨AW_t (tb_4 (i := 88) rfl) rfl, List.forall_mem_cons.mpr ⟨AW_t (tb_4 (i := 90) rfl) rfl, List.forall_mem_cons.mpr ⟨AW_t (tb_4 (i := 92) rfl) rfl, List.forall_mem_cons.mpr ⟨AW_t (tb_4 (i := 94) rfl) rfl, List.forall_mem_cons.mpr ⟨AW_t (tb_4 (i := 96) rfl) rfl, List.forall_mem_cons.mpr ⟨AW_t (tb_4 (i := 98) rfl) rfl, List.forall_mem_cons.mpr ⟨AW_t (tb_4 (i := 100) rfl) rfl, fun _ h => absurd h List.not_mem_nil⟩⟩⟩⟩⟩⟩⟩⟩⟩⟩⟩⟩⟩⟩⟩⟩⟩⟩⟩⟩⟩⟩⟩
theorem cf_7 : CF 7 RX7 TX7 := ⟨rfl, cw_7, ⟨tyX7, tyX7_ok⟩, nmX7⟩
theorem gf_X0_13 : FL RX0 13 (TX0 1).1 (TX0 1).2.1 (TX0 1).2.2.1 := Or.inl (AW_t (tb_1 (i := 141) rfl) rfl)
theorem gf_X0_16 : FL RX0 16 (TX0 2).1 (TX0 2).2.1 (TX0 2).2.2.1 := Or.inl (AW_t (tb_1 (i := 142) rfl) rfl)
theorem gf_X0_19 : FL RX0 19 (TX0 3).1 (TX0 3).2.1 (TX0 3).2.2.1 := Or.inl (AW_t (tb_1 (i := 143) rfl) rfl)
theorem gf_X0_22 : FL RX0 22 (TX0 4).1 (TX0 4).2.1 (TX0 4).2.2.1 := Or.inl (AW_t (tb_1 (i := 144) rfl) rfl)
theorem gf_X0_25 : FL RX0 25 (TX0 5).1 (TX0 5).2.1 (TX0 5).2.2.1 := Or.inl (AW_t (tb_1 (i := 145) rfl) rfl)
theorem gf_X0_28 : FL RX0 28 (TX0 6).1 (TX0 6).2.1 (TX0 6).2.2.1 := Or.inl (AW_t (tb_1 (i := 146) rfl) rfl)
theorem gf_X0_31 : FL RX0 31 (TX0 7).1 (TX0 7).2.1 (TX0 7).2.2.1 := Or.inl (AW_t (tb_1 (i := 147) rfl) rfl)
theorem gf_X0_35 : FL RX0 35 (TX0 8).1 (TX0 8).2.1 (TX0 8).2.2.1 := Or.inl (AW_t (tb_1 (i := 148) rfl) rfl)
theorem gf_X0_48 : FL RX0 48 (TX3 9).1 (TX3 9).2.1 (TX3 9).2.2.1 := Or.inr ⟨"AgingLetters", NW_t (tb_1 (i := 98) rfl) rfl⟩
theorem gf_X0_68 : FL RX0 68 (TX3 7).1 (TX3 7).2.1 (TX3 7).2.2.1 := Or.inr ⟨"AgingLetters", NW_t (tb_1 (i := 91) rfl) rfl⟩
theorem gf_X0_74 : FL RX0 74 (TX3 11).1 (TX3 11).2.1 (TX3 11).2.2.1 := Or.inr ⟨"AgingLetters", NW_t (tb_1 (i := 104) rfl) rfl⟩
theorem gf_X0_77 : FL RX0 77 (TX3 5).1 (TX3 5).2.1 (TX3 5).2.2.1 := Or.inr ⟨"AgingLetters", NW_t (tb_1 (i := 84) rfl) rfl⟩
theorem gf_X0_84 : FL RX0 84 (TX3 2).1 (TX3 2).2.1 (TX3 2).2.2.1 := Or.inr ⟨"AgingLetters", NW_t (tb_1 (i := 73) rfl) rfl⟩
theorem gf_X0_9 : FL RX0 9 (TX0 0).1 (TX0 0).2.1 (TX0 0).2.2.1 := Or.inl (AW_t (tb_1 (i := 140) rfl) rfl)
theorem gf_X1_13 : FL RX1 13 (TX1 1).1 (TX1 1).2.1 (TX1 1).2.2.1 := Or.inl (AW_t (tb_1 (i := 194) rfl) rfl)
theorem gf_X1_25 : FL RX1 25 (TX3 4).1 (TX3 4).2.1 (TX3 4).2.2.1 := Or.inr ⟨"AgingLetters", NW_t (tb_1 (i := 80) rfl) rfl⟩
theorem gf_X1_40 : FL RX1 40 (TX3 5).1 (TX3 5).2.1 (TX3 5).2.2.1 := Or.inr ⟨"AgingLetters", NW_t (tb_1 (i := 83) rfl) rfl⟩
theorem gf_X1_9 : FL RX1 9 (TX1 0).1 (TX1 0).2.1 (TX1 0).2.2.1 := Or.inl (AW_t (tb_1 (i := 192) rfl) rfl)
theorem gf_X2_15 : FL RX2 15 (TX2 1).1 (TX2 1).2.1 (TX2 1).2.2.1 := Or.inl (AW_t (tb_1 (i := 176) rfl) rfl)
theorem gf_X2_18 : FL RX2 18 (TX2 2).1 (TX2 2).2.1 (TX2 2).2.2.1 := Or.inl (AW_t (tb_1 (i := 178) rfl) rfl)
theorem gf_X2_22 : FL RX2 22 (TX3 7).1 (TX3 7).2.1 (TX3 7).2.2.1 := Or.inr ⟨"AgingLetters", NW_t (tb_1 (i := 89) rfl) rfl⟩
theorem gf_X2_28 : FL RX2 28 (TX3 10).1 (TX3 10).2.1 (TX3 10).2.2.1 := Or.inr ⟨"AgingLetters", NW_t (tb_1 (i := 101) rfl) rfl⟩
theorem gf_X2_31 : FL RX2 31 (TX3 9).1 (TX3 9).2.1 (TX3 9).2.2.1 := Or.inr ⟨"AgingLetters", NW_t (tb_1 (i := 97) rfl) rfl⟩
theorem gf_X2_68 : FL RX2 68 (TX3 3).1 (TX3 3).2.1 (TX3 3).2.2.1 := Or.inr ⟨"AgingLetters", NW_t (tb_1 (i := 76) rfl) rfl⟩
theorem gf_X2_77 : FL RX2 77 (TX3 5).1 (TX3 5).2.1 (TX3 5).2.2.1 := Or.inr ⟨"AgingLetters", NW_t (tb_1 (i := 85) rfl) rfl⟩
theorem gf_X2_9 : FL RX2 9 (TX2 0).1 (TX2 0).2.1 (TX2 0).2.2.1 := Or.inl (AW_t (tb_1 (i := 175) rfl) rfl)
theorem gf_X3_15 : FL RX3 15 (TX3 5).1 (TX3 5).2.1 (TX3 5).2.2.1 := Or.inl (AW_t (tb_1 (i := 82) rfl) rfl)
theorem gf_X3_18 : FL RX3 18 (TX3 6).1 (TX3 6).2.1 (TX3 6).2.2.1 := Or.inl (AW_t (tb_1 (i := 87) rfl) rfl)
theorem gf_X3_21 : FL RX3 21 (TX3 8).1 (TX3 8).2.1 (TX3 8).2.2.1 := Or.inl (AW_t (tb_1 (i := 94) rfl) rfl)
theorem gf_X3_24 : FL RX3 24 (TX3 9).1 (TX3 9).2.1 (TX3 9).2.2.1 := Or.inl (AW_t (tb_1 (i := 96) rfl) rfl)
theorem gf_X3_27 : FL RX3 27 (TX3 10).1 (TX3 10).2.1 (TX3 10).2.2.1 := Or.inl (AW_t (tb_1 (i := 100) rfl) rfl)
theorem gf_X3_30 : FL RX3 30 (TX3 11).1 (TX3 11).2.1 (TX3 11).2.2.1 := Or.inl (AW_t (tb_1 (i := 103) rfl) rfl)
theorem gf_X3_33 : FL RX3 33 (TX3 12).1 (TX3 12).2.1 (TX3 12).2.2.1 := Or.inl (AW_t (tb_1 (i := 106) rfl) rfl)
theorem gf_X3_36 : FL RX3 36 (TX3 0).1 (TX3 0).2.1 (TX3 0).2.2.1 := Or.inl (AW_t (tb_1 (i := 67) rfl) rfl)
theorem gf_X3_40 : FL RX3 40 (TX3 1).1 (TX3 1).2.1 (TX3 1).2.2.1 := Or.inl (AW_t (tb_1 (i := 70) rfl) rfl)
theorem gf_X3_44 : FL RX3 44 (TX3 2).1 (TX3 2).2.1 (TX3 2).2.2.1 := Or.inl (AW_t (tb_1 (i := 72) rfl) rfl)
theorem gf_X3_47 : FL RX3 47 (TX3 3).1 (TX3 3).2.1 (TX3 3).2.2.1 := Or.inl (AW_t (tb_1 (i := 75) rfl) rfl)
theorem gf_X3_50 : FL RX3 50 (TX3 7).1 (TX3 7).2.1 (TX3 7).2.2.1 := Or.inl (AW_t (tb_1 (i := 90) rfl) rfl)
theorem gf_X3_9 : FL RX3 9 (TX3 4).1 (TX3 4).2.1 (TX3 4).2.2.1 := Or.inl (AW_t (tb_1 (i := 79) rfl) rfl)
theorem gf_X4_13 : FL RX4 13 (TX4 1).1 (TX4 1).2.1 (TX4 1).2.2.1 := Or.inl (AW_t (tb_1 (i := 30) rfl) rfl)
theorem gf_X4_16 : FL RX4 16 (TX4 2).1 (TX4 2).2.1 (TX4 2).2.2.1 := Or.inl (AW_t (tb_1 (i := 31) rfl) rfl)
theorem gf_X4_9 : FL RX4 9 (TX4 0).1 (TX4 0).2.1 (TX4 0).2.2.1 := Or.inl (AW_t (tb_1 (i := 29) rfl) rfl)
theorem gf_X5_11 : FL RX5 11 (TX5 0).1 (TX5 0).2.1 (TX5 0).2.2.1 := Or.inl (AW_t (tb_1 (i := 46) rfl) rfl)
theorem gf_X5_15 : FL RX5 15 (TX5 1).1 (TX5 1).2.1 (TX5 1).2.2.1 := Or.inl (AW_t (tb_1 (i := 47) rfl) rfl)
theorem gf_X5_24 : FL RX5 24 (TX5 2).1 (TX5 2).2.1 (TX5 2).2.2.1 := Or.inl (AW_t (tb_1 (i := 49) rfl) rfl)
theorem gf_X5_37 : FL RX5 37 (TX3 0).1 (TX3 0).2.1 (TX3 0).2.2.1 := Or.inr ⟨"AgingLetters", NW_t (tb_1 (i := 68) rfl) rfl⟩
theorem gf_X5_49 : FL RX5 49 (TX5 3).1 (TX5 3).2.1 (TX5 3).2.2.1 := Or.inl (AW_t (tb_1 (i := 51) rfl) rfl)
theorem gf_X5_52 : FL RX5 52 (TX3 1).1 (TX3 1).2.1 (TX3 1).2.2.1 := Or.inr ⟨"AgingLetters", NW_t (tb_1 (i := 71) rfl) rfl⟩
theorem gf_X5_59 : FL RX5 59 (TX3 7).1 (TX3 7).2.1 (TX3 7).2.2.1 := Or.inr ⟨"AgingLetters", NW_t (tb_1 (i := 92) rfl) rfl⟩
theorem gf_X5_62 : FL RX5 62 (TX3 3).1 (TX3 3).2.1 (TX3 3).2.2.1 := Or.inr ⟨"AgingLetters", NW_t (tb_1 (i := 77) rfl) rfl⟩
theorem gf_X6_10 : FL RX6 10 (TX6 0).1 (TX6 0).2.1 (TX6 0).2.2.1 := Or.inl (AW_t (tb_1 (i := 201) rfl) rfl)
theorem gf_X6_116 : FL RX6 116 (TX6 9).1 (TX6 9).2.1 (TX6 9).2.2.1 := Or.inl (AW_t (tb_1 (i := 210) rfl) rfl)
theorem gf_X6_121 : FL RX6 121 (TX5 2).1 (TX5 2).2.1 (TX5 2).2.2.1 := Or.inr ⟨"AgingLetters", NW_t (tb_1 (i := 50) rfl) rfl⟩
theorem gf_X6_131 : FL RX6 131 (TX3 7).1 (TX3 7).2.1 (TX3 7).2.2.1 := Or.inr ⟨"AgingLetters", NW_t (tb_1 (i := 93) rfl) rfl⟩
theorem gf_X6_148 : FL RX6 148 (TX3 9).1 (TX3 9).2.1 (TX3 9).2.2.1 := Or.inr ⟨"AgingLetters", NW_t (tb_1 (i := 99) rfl) rfl⟩
theorem gf_X6_161 : FL RX6 161 (TX3 5).1 (TX3 5).2.1 (TX3 5).2.2.1 := Or.inr ⟨"AgingLetters", NW_t (tb_1 (i := 86) rfl) rfl⟩
theorem gf_X6_168 : FL RX6 168 (TX3 0).1 (TX3 0).2.1 (TX3 0).2.2.1 := Or.inr ⟨"AgingLetters", NW_t (tb_1 (i := 69) rfl) rfl⟩
theorem gf_X6_172 : FL RX6 172 (TX3 2).1 (TX3 2).2.1 (TX3 2).2.2.1 := Or.inr ⟨"AgingLetters", NW_t (tb_1 (i := 74) rfl) rfl⟩
theorem gf_X6_178 : FL RX6 178 (TX0 8).1 (TX0 8).2.1 (TX0 8).2.2.1 := Or.inr ⟨"AgingLetters", NW_t (tb_1 (i := 149) rfl) rfl⟩
theorem gf_X6_184 : FL RX6 184 (TX3 10).1 (TX3 10).2.1 (TX3 10).2.2.1 := Or.inr ⟨"AgingLetters", NW_t (tb_1 (i := 102) rfl) rfl⟩
theorem gf_X6_19 : FL RX6 19 (TX6 1).1 (TX6 1).2.1 (TX6 1).2.2.1 := Or.inl (AW_t (tb_1 (i := 202) rfl) rfl)
theorem gf_X6_193 : FL RX6 193 (TX3 11).1 (TX3 11).2.1 (TX3 11).2.2.1 := Or.inr ⟨"AgingLetters", NW_t (tb_1 (i := 105) rfl) rfl⟩
theorem gf_X6_196 : FL RX6 196 (TX3 6).1 (TX3 6).2.1 (TX3 6).2.2.1 := Or.inr ⟨"AgingLetters", NW_t (tb_1 (i := 88) rfl) rfl⟩
theorem gf_X6_225 : FL RX6 225 (TX2 1).1 (TX2 1).2.1 (TX2 1).2.2.1 := Or.inr ⟨"AgingLetters", NW_t (tb_1 (i := 177) rfl) rfl⟩
theorem gf_X6_255 : FL RX6 255 (TX3 8).1 (TX3 8).2.1 (TX3 8).2.2.1 := Or.inr ⟨"AgingLetters", NW_t (tb_1 (i := 95) rfl) rfl⟩
theorem gf_X6_26 : FL RX6 26 (TX6 2).1 (TX6 2).2.1 (TX6 2).2.2.1 := Or.inl (AW_t (tb_1 (i := 203) rfl) rfl)
theorem gf_X6_289 : FL RX6 289 (TX3 4).1 (TX3 4).2.1 (TX3 4).2.2.1 := Or.inr ⟨"AgingLetters", NW_t (tb_1 (i := 81) rfl) rfl⟩
theorem gf_X6_298 : FL RX6 298 (TX1 1).1 (TX1 1).2.1 (TX1 1).2.2.1 := Or.inr ⟨"AgingLetters", NW_t (tb_1 (i := 195) rfl) rfl⟩
theorem gf_X6_30 : FL RX6 30 (TX6 3).1 (TX6 3).2.1 (TX6 3).2.2.1 := Or.inl (AW_t (tb_1 (i := 204) rfl) rfl)
theorem gf_X6_301 : FL RX6 301 (TX1 0).1 (TX1 0).2.1 (TX1 0).2.2.1 := Or.inr ⟨"AgingLetters", NW_t (tb_1 (i := 193) rfl) rfl⟩
theorem gf_X6_307 : FL RX6 307 (TX3 3).1 (TX3 3).2.1 (TX3 3).2.2.1 := Or.inr ⟨"AgingLetters", NW_t (tb_1 (i := 78) rfl) rfl⟩
theorem gf_X6_316 : FL RX6 316 (TX5 1).1 (TX5 1).2.1 (TX5 1).2.2.1 := Or.inr ⟨"AgingLetters", NW_t (tb_1 (i := 48) rfl) rfl⟩
theorem gf_X6_319 : FL RX6 319 (TX6 10).1 (TX6 10).2.1 (TX6 10).2.2.1 := Or.inl (AW_t (tb_1 (i := 211) rfl) rfl)
theorem gf_X6_33 : FL RX6 33 (TX6 4).1 (TX6 4).2.1 (TX6 4).2.2.1 := Or.inl (AW_t (tb_1 (i := 205) rfl) rfl)
theorem gf_X6_36 : FL RX6 36 (TX6 5).1 (TX6 5).2.1 (TX6 5).2.2.1 := Or.inl (AW_t (tb_1 (i := 206) rfl) rfl)
theorem gf_X6_42 : FL RX6 42 (TX6 6).1 (TX6 6).2.1 (TX6 6).2.2.1 := Or.inl (AW_t (tb_1 (i := 207) rfl) rfl)
theorem gf_X6_49 : FL RX6 49 (TX6 7).1 (TX6 7).2.1 (TX6 7).2.2.1 := Or.inl (AW_t (tb_1 (i := 208) rfl) rfl)
theorem gf_X6_56 : FL RX6 56 (TX6 8).1 (TX6 8).2.1 (TX6 8).2.2.1 := Or.inl (AW_t (tb_1 (i := 209) rfl) rfl)
theorem gf_X7_119 : FL RX7 119 (TX7 7).1 (TX7 7).2.1 (TX7 7).2.2.1 := Or.inl (AW_t (tb_4 (i := 40) rfl) rfl)
theorem gf_X7_123 : FL RX7 123 (TX7 9).1 (TX7 9).2.1 (TX7 9).2.2.1 := Or.inl (AW_t (tb_4 (i := 42) rfl) rfl)
theorem gf_X7_126 : FL RX7 126 (TX7 8).1 (TX7 8).2.1 (TX7 8).2.2.1 := Or.inl (AW_t (tb_4 (i := 41) rfl) rfl)
theorem gf_X7_129 : FL RX7 129 (TX7 10).1 (TX7 10).2.1 (TX7 10).2.2.1 := Or.inl (AW_t (tb_4 (i := 43) rfl) rfl)
theorem gf_X7_13 : FL RX7 13 (TX7 1).1 (TX7 1).2.1 (TX7 1).2.2.1 := Or.inl (AW_t (tb_4 (i := 34) rfl) rfl)
theorem gf_X7_139 : FL RX7 139 (TX7 11).1 (TX7 11).2.1 (TX7 11).2.2.1 := Or.inl (AW_t (tb_4 (i := 44) rfl) rfl)
theorem gf_X7_16 : FL RX7 16 (TX7 2).1 (TX7 2).2.1 (TX7 2).2.2.1 := Or.inl (AW_t (tb_4 (i := 35) rfl) rfl)
theorem gf_X7_173 : FL RX7 173 (TX7 13).1 (TX7 13).2.1 (TX7 13).2.2.1 := Or.inl (AW_t (tb_4 (i := 46) rfl) rfl)
theorem gf_X7_19 : FL RX7 19 (TX7 4).1 (TX7 4).2.1 (TX7 4).2.2.1 := Or.inl (AW_t (tb_4 (i := 37) rfl) rfl)
theorem gf_X7_22 : FL RX7 22 (TX7 5).1 (TX7 5).2.1 (TX7 5).2.2.1 := Or.inl (AW_t (tb_4 (i := 38) rfl) rfl)
theorem gf_X7_25 : FL RX7 25 (TX7 6).1 (TX7 6).2.1 (TX7 6).2.2.1 := Or.inl (AW_t (tb_4 (i := 39) rfl) rfl)
theorem gf_X7_259 : FL RX7 259 (TX7 22).1 (TX7 22).2.1 (TX7 22).2.2.1 := Or.inl (AW_t (tb_4 (i := 55) rfl) rfl)
theorem gf_X7_28 : FL RX7 28 (TX7 12).1 (TX7 12).2.1 (TX7 12).2.2.1 := Or.inl (AW_t (tb_4 (i := 45) rfl) rfl)
theorem gf_X7_31 : FL RX7 31 (TX7 14).1 (TX7 14).2.1 (TX7 14).2.2.1 := Or.inl (AW_t (tb_4 (i := 47) rfl) rfl)
theorem gf_X7_34 : FL RX7 34 (TX7 15).1 (TX7 15).2.1 (TX7 15).2.2.1 := Or.inl (AW_t (tb_4 (i := 48) rfl) rfl)
theorem gf_X7_37 : FL RX7 37 (TX7 16).1 (TX7 16).2.1 (TX7 16).2.2.1 := Or.inl (AW_t (tb_4 (i := 49) rfl) rfl)
theorem gf_X7_40 : FL RX7 40 (TX7 17).1 (TX7 17).2.1 (TX7 17).2.2.1 := Or.inl (AW_t (tb_4 (i := 50) rfl) rfl)
theorem gf_X7_43 : FL RX7 43 (TX7 18).1 (TX7 18).2.1 (TX7 18).2.2.1 := Or.inl (AW_t (tb_4 (i := 51) rfl) rfl)
theorem gf_X7_46 : FL RX7 46 (TX7 19).1 (TX7 19).2.1 (TX7 19).2.2.1 := Or.inl (AW_t (tb_4 (i := 52) rfl) rfl)
theorem gf_X7_49 : FL RX7 49 (TX7 20).1 (TX7 20).2.1 (TX7 20).2.2.1 := Or.inl (AW_t (tb_4 (i := 53) rfl) rfl)
theorem gf_X7_53 : FL RX7 53 (TX7 21).1 (TX7 21).2.1 (TX7 21).2.2.1 := Or.inl (AW_t (tb_4 (i := 54) rfl) rfl)
theorem gf_X7_56 : FL RX7 56 (TX7 3).1 (TX7 3).2.1 (TX7 3).2.2.1 := Or.inl (AW_t (tb_4 (i := 36) rfl) rfl)
theorem gf_X7_7 : FL RX7 7 (TX7 0).1 (TX7 0).2.1 (TX7 0).2.2.1 := Or.inl (AW_t (tb_4 (i := 33) rfl) rfl)
theorem gs_X1_30 : Cond.fieldLink RX1 30 "AgingLetters$Asks" "SIZE_BODIES" "[I" ∈ AW := AW_t (tb_3 (i := 232) rfl) rfl
theorem gs_X1_33 : Cond.fieldLink RX1 33 "AgingLetters$Asks" "MARK_BODIES" "[I" ∈ AW := AW_t (tb_3 (i := 234) rfl) rfl
theorem kc_J6_265 : Cond.constant RJ6 265 1431655765 ∈ AW := AW_t (tb_3 (i := 119) rfl) rfl
theorem kc_J6_266 : Cond.constant RJ6 266 858993459 ∈ AW := AW_t (tb_3 (i := 120) rfl) rfl
theorem kc_J6_267 : Cond.constant RJ6 267 252645135 ∈ AW := AW_t (tb_3 (i := 121) rfl) rfl
theorem kc_X2_21 : Cond.constant RX2 21 (-1000000) ∈ AW := AW_t (tb_3 (i := 43) rfl) rfl
theorem kc_X6_105 : Cond.constant RX6 105 (-1000003) ∈ AW := AW_t (tb_2 (i := 68) rfl) rfl
theorem kc_X6_120 : Cond.constant RX6 120 (-1000100) ∈ AW := AW_t (tb_2 (i := 125) rfl) rfl
theorem kc_X6_143 : Cond.constant RX6 143 (-1000002) ∈ AW := AW_t (tb_2 (i := 159) rfl) rfl
theorem kc_X6_217 : Cond.constant RX6 217 (-1000000) ∈ AW := AW_t (tb_3 (i := 64) rfl) rfl
theorem kc_X6_322 : Cond.constant RX6 322 (-1000010) ∈ AW := AW_t (tb_2 (i := 12) rfl) rfl
theorem kc_X6_67 : Cond.constant RX6 67 (-1000001) ∈ AW := AW_t (tb_2 (i := 7) rfl) rfl
theorem kc_X7_117 : Cond.constantLong RX7 117 255 ∈ AW := AW_t (tb_4 (i := 149) rfl) rfl
theorem kc_X7_122 : Cond.constant RX7 122 (-1000003) ∈ AW := AW_t (tb_4 (i := 150) rfl) rfl
theorem kc_X7_142 : Cond.constantLong RX7 142 48 ∈ AW := AW_t (tb_4 (i := 179) rfl) rfl
theorem kc_X7_144 : Cond.constantLong RX7 144 57 ∈ AW := AW_t (tb_4 (i := 180) rfl) rfl
theorem kc_X7_172 : Cond.constant RX7 172 (-1000100) ∈ AW := AW_t (tb_4 (i := 196) rfl) rfl
theorem kc_X7_189 : Cond.constant RX7 189 (-1000002) ∈ AW := AW_t (tb_4 (i := 237) rfl) rfl
theorem kc_X7_206 : Cond.constantLong RX7 206 39 ∈ AW := AW_t (tb_5 (i := 47) rfl) rfl
theorem kc_X7_214 : Cond.constantLong RX7 214 3 ∈ AW := AW_t (tb_5 (i := 72) rfl) rfl
theorem kc_X7_222 : Cond.constant RX7 222 (-1000000) ∈ AW := AW_t (tb_5 (i := 89) rfl) rfl
theorem kc_X7_226 : Cond.constant RX7 226 1000000 ∈ AW := AW_t (tb_5 (i := 101) rfl) rfl
theorem kc_X7_239 : Cond.constantLong RX7 239 99 ∈ AW := AW_t (tb_5 (i := 138) rfl) rfl
theorem kc_X7_241 : Cond.constantLong RX7 241 999 ∈ AW := AW_t (tb_5 (i := 143) rfl) rfl
theorem kc_X7_246 : Cond.constantLong RX7 246 6 ∈ AW := AW_t (tb_5 (i := 152) rfl) rfl
theorem kc_X7_252 : Cond.constantLong RX7 252 10 ∈ AW := AW_t (tb_5 (i := 161) rfl) rfl
theorem kc_X7_254 : Cond.constantLong RX7 254 5 ∈ AW := AW_t (tb_5 (i := 178) rfl) rfl
theorem kc_X7_60 : Cond.constant RX7 60 (-1000010) ∈ AW := AW_t (tb_4 (i := 121) rfl) rfl
theorem kc_X7_61 : Cond.constantLong RX7 61 7 ∈ AW := AW_t (tb_4 (i := 111) rfl) rfl
theorem kc_X7_71 : Cond.constantLong RX7 71 2 ∈ AW := AW_t (tb_4 (i := 115) rfl) rfl
theorem kc_X7_73 : Cond.constant RX7 73 (-1000001) ∈ AW := AW_t (tb_4 (i := 116) rfl) rfl
theorem ml_X0_38 : Cond.methodLink RX0 38 yX3_costFor ∈ AW := AW_t (tb_2 (i := 164) rfl) rfl
theorem ml_X0_44 : Cond.methodLink RX0 44 yX3_survives ∈ AW := AW_t (tb_2 (i := 185) rfl) rfl
theorem ml_X0_51 : Cond.methodLink RX0 51 yX3_addTimesRead ∈ AW := AW_t (tb_2 (i := 189) rfl) rfl
theorem ml_X0_55 : Cond.methodLinkNest RX0 55 yX6_tenthUp "AgingLetters" ∈ NW := NW_t (tb_2 (i := 193) rfl) rfl
theorem ml_X0_61 : Cond.methodLink RX0 61 yX0_letHear ∈ AW := AW_t (tb_2 (i := 194) rfl) rfl
theorem ml_X0_65 : Cond.methodLink RX0 65 yX0_keep ∈ AW := AW_t (tb_2 (i := 200) rfl) rfl
theorem ml_X0_71 : Cond.methodLinkNest RX0 71 yX6_inSet "AgingLetters" ∈ NW := NW_t (tb_2 (i := 197) rfl) rfl
theorem ml_X0_80 : Cond.methodLink RX0 80 yX0_moveDay ∈ AW := AW_t (tb_2 (i := 234) rfl) rfl
theorem ml_X0_87 : Cond.methodLink RX0 87 yX0_takeReadingBack ∈ AW := AW_t (tb_3 (i := 5) rfl) rfl
theorem ml_X1_17 : Cond.methodLink RX1 17 yX1_bodyFor ∈ AW := AW_t (tb_3 (i := 229) rfl) rfl
theorem ml_X1_21 : Cond.methodLink RX1 21 yX1_begin ∈ AW := AW_t (tb_3 (i := 236) rfl) rfl
theorem ml_X1_36 : Cond.methodLink RX1 36 yX1_leaveNumber ∈ AW := AW_t (tb_3 (i := 239) rfl) rfl
theorem ml_X1_43 : Cond.methodLink RX1 43 yX3_timesReadByAll ∈ AW := AW_t (tb_4 (i := 3) rfl) rfl
theorem ml_X2_100 : Cond.methodLink RX2 100 yX2_power ∈ AW := AW_t (tb_3 (i := 189) rfl) rfl
theorem ml_X2_34 : Cond.methodLink RX2 34 yX3_costFor ∈ AW := AW_t (tb_3 (i := 44) rfl) rfl
theorem ml_X2_38 : Cond.methodLink RX2 38 yX3_isFit ∈ AW := AW_t (tb_3 (i := 45) rfl) rfl
theorem ml_X2_42 : Cond.methodLink RX2 42 yX3_survives ∈ AW := AW_t (tb_3 (i := 63) rfl) rfl
theorem ml_X2_46 : Cond.methodLink RX2 46 yX2_spentAloud ∈ AW := AW_t (tb_3 (i := 90) rfl) rfl
theorem ml_X2_50 : Cond.methodLink RX2 50 yX3_howManyAlive ∈ AW := AW_t (tb_3 (i := 94) rfl) rfl
theorem ml_X2_54 : Cond.methodLinkNest RX2 54 yX6_tenthUp "AgingLetters" ∈ NW := NW_t (tb_3 (i := 98) rfl) rfl
theorem ml_X2_58 : Cond.methodLink RX2 58 yJ7_fill_53178 ∈ AW := AW_t (tb_3 (i := 54) rfl) rfl
theorem ml_X2_64 : Cond.methodLink RX2 64 yX2_handsOut ∈ AW := AW_t (tb_3 (i := 55) rfl) rfl
theorem ml_X2_71 : Cond.methodLink RX2 71 yX3_readersOf ∈ AW := AW_t (tb_3 (i := 58) rfl) rfl
theorem ml_X2_74 : Cond.methodLink RX2 74 yX3_firstCost ∈ AW := AW_t (tb_3 (i := 59) rfl) rfl
theorem ml_X2_80 : Cond.methodLink RX2 80 yJ6_bitCount_0f7a4 ∈ AW := AW_t (tb_3 (i := 116) rfl) rfl
theorem ml_X2_85 : Cond.methodLink RX2 85 yX3_costOfAll ∈ AW := AW_t (tb_3 (i := 122) rfl) rfl
theorem ml_X2_88 : Cond.methodLink RX2 88 yX3_costFor_ ∈ AW := AW_t (tb_3 (i := 136) rfl) rfl
theorem ml_X2_91 : Cond.methodLink RX2 91 yX3_firstCostOf ∈ AW := AW_t (tb_3 (i := 154) rfl) rfl
theorem ml_X2_94 : Cond.methodLinkNest RX2 94 yX6_inSet "AgingLetters" ∈ NW := NW_t (tb_3 (i := 175) rfl) rfl
theorem ml_X2_97 : Cond.methodLink RX2 97 yX3_unreadLetters ∈ AW := AW_t (tb_3 (i := 188) rfl) rfl
theorem ml_X3_100 : Cond.methodLink RX3 100 yX3_costFor ∈ AW := AW_t (tb_3 (i := 126) rfl) rfl
theorem ml_X3_102 : Cond.methodLinkNest RX3 102 yX6_tenthUp "AgingLetters" ∈ NW := NW_t (tb_2 (i := 178) rfl) rfl
theorem ml_X3_53 : Cond.methodLink RX3 53 yJ7_fill_53178 ∈ AW := AW_t (tb_2 (i := 85) rfl) rfl
theorem ml_X3_59 : Cond.methodLink RX3 59 arraycopyName ∈ AW := AW_t (tb_2 (i := 130) rfl) rfl
theorem ml_X3_65 : Cond.methodLink RX3 65 yX3_isAlive ∈ AW := AW_t (tb_2 (i := 155) rfl) rfl
theorem ml_X3_69 : Cond.methodLinkNest RX3 69 yX6_inSet "AgingLetters" ∈ NW := NW_t (tb_2 (i := 217) rfl) rfl
theorem ml_X3_73 : Cond.methodLink RX3 73 yX3_isFit ∈ AW := AW_t (tb_4 (i := 22) rfl) rfl
theorem ml_X3_76 : Cond.methodLink RX3 76 yX3_hasRead ∈ AW := AW_t (tb_2 (i := 181) rfl) rfl
theorem ml_X3_79 : Cond.methodLink RX3 79 yX3_unreadDueAhead ∈ AW := AW_t (tb_3 (i := 69) rfl) rfl
theorem ml_X3_83 : Cond.methodLink RX3 83 yX3_readersOf ∈ AW := AW_t (tb_3 (i := 73) rfl) rfl
theorem ml_X3_86 : Cond.methodLink RX3 86 yX3_costFor_ ∈ AW := AW_t (tb_2 (i := 168) rfl) rfl
theorem ml_X3_90 : Cond.methodLink RX3 90 yX3_costOfPages ∈ AW := AW_t (tb_2 (i := 172) rfl) rfl
theorem ml_X3_94 : Cond.methodLinkNest RX3 94 yX6_halfUp "AgingLetters" ∈ NW := NW_t (tb_2 (i := 175) rfl) rfl
theorem ml_X3_97 : Cond.methodLink RX3 97 yX3_firstCost ∈ AW := AW_t (tb_3 (i := 78) rfl) rfl
theorem ml_X4_25 : Cond.methodLink RX4 25 arraycopyName ∈ AW := AW_t (tb_2 (i := 49) rfl) rfl
theorem ml_X4_31 : Cond.methodLink RX4 31 yX4_isMissing ∈ AW := AW_t (tb_4 (i := 16) rfl) rfl
theorem ml_X5_19 : Cond.methodLink RX5 19 yX3_clear ∈ AW := AW_t (tb_2 (i := 81) rfl) rfl
theorem ml_X5_27 : Cond.methodLink RX5 27 yX5_readLaw ∈ AW := AW_t (tb_2 (i := 86) rfl) rfl
theorem ml_X5_31 : Cond.methodLink RX5 31 yX5_readReader ∈ AW := AW_t (tb_2 (i := 101) rfl) rfl
theorem ml_X5_34 : Cond.methodLink RX5 34 yX5_readLetter ∈ AW := AW_t (tb_2 (i := 109) rfl) rfl
theorem ml_X5_41 : Cond.methodLink RX5 41 yX5_takeSign ∈ AW := AW_t (tb_2 (i := 90) rfl) rfl
theorem ml_X5_45 : Cond.methodLink RX5 45 yX5_takeNumber ∈ AW := AW_t (tb_2 (i := 94) rfl) rfl
theorem ml_X5_55 : Cond.methodLink RX5 55 yX5_kindAtPlace ∈ AW := AW_t (tb_2 (i := 113) rfl) rfl
theorem ml_X5_65 : Cond.methodLink RX5 65 yX3_addLetter ∈ AW := AW_t (tb_2 (i := 117) rfl) rfl
theorem ml_X5_69 : Cond.methodLink RX5 69 yX3_addReader ∈ AW := AW_t (tb_2 (i := 105) rfl) rfl
theorem ml_X5_73 : Cond.methodLink RX5 73 yX5_isFigure ∈ AW := AW_t (tb_2 (i := 98) rfl) rfl
theorem ml_X6_101 : Cond.methodLink RX6 101 yX5_isFull ∈ AW := AW_t (tb_2 (i := 64) rfl) rfl
theorem ml_X6_106 : Cond.methodLink RX6 106 yX5_append ∈ AW := AW_t (tb_2 (i := 69) rfl) rfl
theorem ml_X6_109 : Cond.methodLink RX6 109 yX5_readInto ∈ AW := AW_t (tb_2 (i := 77) rfl) rfl
theorem ml_X6_113 : Cond.methodLink RX6 113 yX5_empty ∈ AW := AW_t (tb_2 (i := 121) rfl) rfl
theorem ml_X6_124 : Cond.methodLink RX6 124 yX3_becomes ∈ AW := AW_t (tb_2 (i := 126) rfl) rfl
theorem ml_X6_128 : Cond.methodLink RX6 128 yX0_forgetAll ∈ AW := AW_t (tb_2 (i := 131) rfl) rfl
theorem ml_X6_134 : Cond.methodLink RX6 134 yX3_hasReader ∈ AW := AW_t (tb_2 (i := 143) rfl) rfl
theorem ml_X6_137 : Cond.methodLink RX6 137 yX3_hasLetter ∈ AW := AW_t (tb_2 (i := 147) rfl) rfl
theorem ml_X6_140 : Cond.methodLink RX6 140 yX3_isFit ∈ AW := AW_t (tb_2 (i := 151) rfl) rfl
theorem ml_X6_144 : Cond.methodLink RX6 144 yX0_letRead ∈ AW := AW_t (tb_2 (i := 160) rfl) rfl
theorem ml_X6_152 : Cond.methodLink RX6 152 yX3_hasReaders ∈ AW := AW_t (tb_2 (i := 208) rfl) rfl
theorem ml_X6_155 : Cond.methodLink RX6 155 yX6_inSet ∈ AW := AW_t (tb_2 (i := 212) rfl) rfl
theorem ml_X6_158 : Cond.methodLink RX6 158 yX3_areAlive ∈ AW := AW_t (tb_2 (i := 213) rfl) rfl
theorem ml_X6_164 : Cond.methodLink RX6 164 yX0_letCross ∈ AW := AW_t (tb_2 (i := 222) rfl) rfl
theorem ml_X6_175 : Cond.methodLink RX6 175 yX0_letDayGo ∈ AW := AW_t (tb_2 (i := 230) rfl) rfl
theorem ml_X6_181 : Cond.methodLink RX6 181 yX0_takeBack ∈ AW := AW_t (tb_3 (i := 1) rfl) rfl
theorem ml_X6_187 : Cond.methodLink RX6 187 yX3_isAlive ∈ AW := AW_t (tb_3 (i := 13) rfl) rfl
theorem ml_X6_190 : Cond.methodLink RX6 190 yX3_lettersReadBy ∈ AW := AW_t (tb_3 (i := 14) rfl) rfl
theorem ml_X6_199 : Cond.methodLink RX6 199 yX3_timesReadByAll ∈ AW := AW_t (tb_3 (i := 22) rfl) rfl
theorem ml_X6_202 : Cond.methodLink RX6 202 yX3_readersOf ∈ AW := AW_t (tb_3 (i := 26) rfl) rfl
theorem ml_X6_205 : Cond.methodLink RX6 205 yX3_costFor ∈ AW := AW_t (tb_3 (i := 34) rfl) rfl
theorem ml_X6_209 : Cond.methodLink RX6 209 yX2_bestReader ∈ AW := AW_t (tb_3 (i := 39) rfl) rfl
theorem ml_X6_213 : Cond.methodLink RX6 213 yX2_handsOutAll ∈ AW := AW_t (tb_3 (i := 50) rfl) rfl
theorem ml_X6_218 : Cond.methodLink RX6 218 yX3_unreadLetters ∈ AW := AW_t (tb_3 (i := 65) rfl) rfl
theorem ml_X6_222 : Cond.methodLink RX6 222 yX3_firstCostOf ∈ AW := AW_t (tb_3 (i := 74) rfl) rfl
theorem ml_X6_228 : Cond.methodLink RX6 228 yX6_isChoice ∈ AW := AW_t (tb_3 (i := 83) rfl) rfl
theorem ml_X6_231 : Cond.methodLink RX6 231 yX2_bestReaderAloud ∈ AW := AW_t (tb_3 (i := 86) rfl) rfl
theorem ml_X6_234 : Cond.methodLink RX6 234 yX2_spentAloud ∈ AW := AW_t (tb_3 (i := 99) rfl) rfl
theorem ml_X6_238 : Cond.methodLink RX6 238 yX2_shortestDeadly ∈ AW := AW_t (tb_3 (i := 104) rfl) rfl
theorem ml_X6_241 : Cond.methodLink RX6 241 yX2_smallestDeadlySet ∈ AW := AW_t (tb_3 (i := 112) rfl) rfl
theorem ml_X6_244 : Cond.methodLink RX6 244 yJ6_bitCount_0f7a4 ∈ AW := AW_t (tb_3 (i := 127) rfl) rfl
theorem ml_X6_249 : Cond.methodLink RX6 249 yX2_fewestToCross ∈ AW := AW_t (tb_3 (i := 132) rfl) rfl
theorem ml_X6_252 : Cond.methodLink RX6 252 yX3_unreadDueAhead ∈ AW := AW_t (tb_3 (i := 145) rfl) rfl
theorem ml_X6_258 : Cond.methodLink RX6 258 yX2_setsThatCost ∈ AW := AW_t (tb_3 (i := 150) rfl) rfl
theorem ml_X6_261 : Cond.methodLink RX6 261 yX2_leastSetThatCosts ∈ AW := AW_t (tb_3 (i := 155) rfl) rfl
theorem ml_X6_264 : Cond.methodLink RX6 264 yX2_noReadingYet ∈ AW := AW_t (tb_3 (i := 163) rfl) rfl
theorem ml_X6_267 : Cond.methodLink RX6 267 yX4_item ∈ AW := AW_t (tb_3 (i := 167) rfl) rfl
theorem ml_X6_270 : Cond.methodLink RX6 270 yX2_tellAge ∈ AW := AW_t (tb_3 (i := 171) rfl) rfl
theorem ml_X6_273 : Cond.methodLink RX6 273 yX2_waysToRead ∈ AW := AW_t (tb_3 (i := 176) rfl) rfl
theorem ml_X6_276 : Cond.methodLink RX6 276 yX2_weightOfSurviving ∈ AW := AW_t (tb_3 (i := 184) rfl) rfl
theorem ml_X6_279 : Cond.methodLink RX6 279 yX2_power ∈ AW := AW_t (tb_3 (i := 193) rfl) rfl
theorem ml_X6_282 : Cond.methodLink RX6 282 yX2_commonDivisor ∈ AW := AW_t (tb_3 (i := 194) rfl) rfl
theorem ml_X6_285 : Cond.methodLink RX6 285 yX6_imageNumbered ∈ AW := AW_t (tb_3 (i := 202) rfl) rfl
theorem ml_X6_292 : Cond.methodLink RX6 292 yX6_isKindOf ∈ AW := AW_t (tb_3 (i := 218) rfl) rfl
theorem ml_X6_295 : Cond.methodLink RX6 295 yX1_answer ∈ AW := AW_t (tb_3 (i := 225) rfl) rfl
theorem ml_X6_304 : Cond.methodLink RX6 304 yX4_present ∈ AW := AW_t (tb_4 (i := 12) rfl) rfl
theorem ml_X6_310 : Cond.methodLink RX6 310 yX3_howManyAlive ∈ AW := AW_t (tb_4 (i := 17) rfl) rfl
theorem ml_X6_313 : Cond.methodLink RX6 313 yX3_howManyFit ∈ AW := AW_t (tb_4 (i := 18) rfl) rfl
theorem ml_X6_60 : Cond.methodLink RX6 60 yX4_isRow ∈ AW := AW_t (tb_1 (i := 239) rfl) rfl
theorem ml_X6_64 : Cond.methodLink RX6 64 yX4_isLane ∈ AW := AW_t (tb_2 (i := 3) rfl) rfl
theorem ml_X6_68 : Cond.methodLink RX6 68 yX6_found ∈ AW := AW_t (tb_2 (i := 8) rfl) rfl
theorem ml_X6_72 : Cond.methodLink RX6 72 yX4_make ∈ AW := AW_t (tb_2 (i := 13) rfl) rfl
theorem ml_X6_76 : Cond.methodLink RX6 76 yX6_foundNothing ∈ AW := AW_t (tb_2 (i := 17) rfl) rfl
theorem ml_X6_79 : Cond.methodLink RX6 79 yX4_isMissing ∈ AW := AW_t (tb_2 (i := 25) rfl) rfl
theorem ml_X6_82 : Cond.methodLink RX6 82 yX4_hasPlaces ∈ AW := AW_t (tb_2 (i := 29) rfl) rfl
theorem ml_X6_86 : Cond.methodLink RX6 86 yX4_put ∈ AW := AW_t (tb_2 (i := 33) rfl) rfl
theorem ml_X6_90 : Cond.methodLink RX6 90 yX4_haveOneLane ∈ AW := AW_t (tb_2 (i := 41) rfl) rfl
theorem ml_X6_94 : Cond.methodLink RX6 94 yX4_move ∈ AW := AW_t (tb_2 (i := 45) rfl) rfl
theorem ml_X6_98 : Cond.methodLink RX6 98 yX4_remove ∈ AW := AW_t (tb_2 (i := 56) rfl) rfl
theorem ml_X7_101 : Cond.methodLink RX7 101 yX7_readBy ∈ AW := AW_t (tb_5 (i := 24) rfl) rfl
theorem ml_X7_104 : Cond.methodLink RX7 104 yX7_upwards ∈ AW := AW_t (tb_5 (i := 21) rfl) rfl
theorem ml_X7_107 : Cond.methodLink RX7 107 yX7_sort ∈ AW := AW_t (tb_5 (i := 14) rfl) rfl
theorem ml_X7_110 : Cond.methodLink RX7 110 yX7_firstCost ∈ AW := AW_t (tb_5 (i := 18) rfl) rfl
theorem ml_X7_113 : Cond.methodLink RX7 113 yX7_costBy ∈ AW := AW_t (tb_5 (i := 10) rfl) rfl
theorem ml_X7_132 : Cond.methodLink RX7 132 yX7_here ∈ AW := AW_t (tb_4 (i := 163) rfl) rfl
theorem ml_X7_135 : Cond.methodLink RX7 135 yX7_fails ∈ AW := AW_t (tb_4 (i := 167) rfl) rfl
theorem ml_X7_146 : Cond.methodLink RX7 146 yX7_takeNumber ∈ AW := AW_t (tb_4 (i := 175) rfl) rfl
theorem ml_X7_149 : Cond.methodLink RX7 149 yX7_sortOf ∈ AW := AW_t (tb_4 (i := 189) rfl) rfl
theorem ml_X7_152 : Cond.methodLink RX7 152 yX7_into ∈ AW := AW_t (tb_4 (i := 171) rfl) rfl
theorem ml_X7_156 : Cond.methodLink RX7 156 yX7_sign ∈ AW := AW_t (tb_4 (i := 159) rfl) rfl
theorem ml_X7_159 : Cond.methodLink RX7 159 yX7_takeReader ∈ AW := AW_t (tb_4 (i := 185) rfl) rfl
theorem ml_X7_163 : Cond.methodLink RX7 163 yX7_takeLetter ∈ AW := AW_t (tb_4 (i := 192) rfl) rfl
theorem ml_X7_166 : Cond.methodLink RX7 166 yX7_takeNext ∈ AW := AW_t (tb_4 (i := 181) rfl) rfl
theorem ml_X7_169 : Cond.methodLink RX7 169 yX7_takeOffice ∈ AW := AW_t (tb_4 (i := 155) rfl) rfl
theorem ml_X7_176 : Cond.methodLink RX7 176 yX7_putInto ∈ AW := AW_t (tb_5 (i := 2) rfl) rfl
theorem ml_X7_180 : Cond.methodLink RX7 180 yX7_isReader ∈ AW := AW_t (tb_4 (i := 209) rfl) rfl
theorem ml_X7_183 : Cond.methodLink RX7 183 yX7_isLetter ∈ AW := AW_t (tb_4 (i := 213) rfl) rfl
theorem ml_X7_186 : Cond.methodLink RX7 186 yX7_isFit ∈ AW := AW_t (tb_4 (i := 221) rfl) rfl
theorem ml_X7_190 : Cond.methodLink RX7 190 yX7_remember ∈ AW := AW_t (tb_4 (i := 238) rfl) rfl
theorem ml_X7_193 : Cond.methodLink RX7 193 yX7_cost ∈ AW := AW_t (tb_5 (i := 6) rfl) rfl
theorem ml_X7_196 : Cond.methodLink RX7 196 yX7_readNow ∈ AW := AW_t (tb_5 (i := 28) rfl) rfl
theorem ml_X7_200 : Cond.methodLink RX7 200 yX7_has ∈ AW := AW_t (tb_5 (i := 36) rfl) rfl
theorem ml_X7_203 : Cond.methodLink RX7 203 yX7_alive ∈ AW := AW_t (tb_5 (i := 39) rfl) rfl
theorem ml_X7_208 : Cond.methodLink RX7 208 yX7_takeFrom ∈ AW := AW_t (tb_5 (i := 56) rfl) rfl
theorem ml_X7_211 : Cond.methodLink RX7 211 yX7_hasRead ∈ AW := AW_t (tb_5 (i := 64) rfl) rfl
theorem ml_X7_216 : Cond.methodLink RX7 216 yX7_readOf ∈ AW := AW_t (tb_5 (i := 73) rfl) rfl
theorem ml_X7_219 : Cond.methodLink RX7 219 yX7_whoRead ∈ AW := AW_t (tb_5 (i := 77) rfl) rfl
theorem ml_X7_223 : Cond.methodLink RX7 223 yX7_unread ∈ AW := AW_t (tb_5 (i := 94) rfl) rfl
theorem ml_X7_227 : Cond.methodLink RX7 227 yX7_bits ∈ AW := AW_t (tb_5 (i := 98) rfl) rfl
theorem ml_X7_230 : Cond.methodLink RX7 230 yX7_spentBy ∈ AW := AW_t (tb_5 (i := 102) rfl) rfl
theorem ml_X7_233 : Cond.methodLink RX7 233 yX7_aloudBy ∈ AW := AW_t (tb_5 (i := 110) rfl) rfl
theorem ml_X7_236 : Cond.methodLink RX7 236 yX7_costAll ∈ AW := AW_t (tb_5 (i := 122) rfl) rfl
theorem ml_X7_243 : Cond.methodLink RX7 243 yX7_firstAll ∈ AW := AW_t (tb_5 (i := 144) rfl) rfl
theorem ml_X7_248 : Cond.methodLink RX7 248 yX7_readOn ∈ AW := AW_t (tb_5 (i := 153) rfl) rfl
theorem ml_X7_256 : Cond.methodLink RX7 256 yX7_isOf ∈ AW := AW_t (tb_5 (i := 179) rfl) rfl
theorem ml_X7_262 : Cond.methodLink RX7 262 yX7_leave ∈ AW := AW_t (tb_5 (i := 195) rfl) rfl
theorem ml_X7_265 : Cond.methodLink RX7 265 yX7_markLent ∈ AW := AW_t (tb_5 (i := 215) rfl) rfl
theorem ml_X7_268 : Cond.methodLink RX7 268 yX7_sizeLent ∈ AW := AW_t (tb_5 (i := 203) rfl) rfl
theorem ml_X7_271 : Cond.methodLink RX7 271 yX7_sizeOfFigures ∈ AW := AW_t (tb_5 (i := 199) rfl) rfl
theorem ml_X7_274 : Cond.methodLink RX7 274 yX7_sizeOfSums ∈ AW := AW_t (tb_5 (i := 191) rfl) rfl
theorem ml_X7_277 : Cond.methodLink RX7 277 yX7_markOfProse ∈ AW := AW_t (tb_5 (i := 219) rfl) rfl
theorem ml_X7_280 : Cond.methodLink RX7 280 yX7_markOf ∈ AW := AW_t (tb_5 (i := 211) rfl) rfl
theorem ml_X7_283 : Cond.methodLink RX7 283 yX7_sizeOfProse ∈ AW := AW_t (tb_5 (i := 207) rfl) rfl
theorem ml_X7_286 : Cond.methodLink RX7 286 yX7_sizeOf ∈ AW := AW_t (tb_5 (i := 187) rfl) rfl
theorem ml_X7_289 : Cond.methodLink RX7 289 yX7_fit ∈ AW := AW_t (tb_5 (i := 231) rfl) rfl
theorem ml_X7_63 : Cond.methodLink RX7 63 yX7_in ∈ AW := AW_t (tb_4 (i := 112) rfl) rfl
theorem ml_X7_67 : Cond.methodLink RX7 67 yX7_isRow ∈ AW := AW_t (tb_4 (i := 108) rfl) rfl
theorem ml_X7_74 : Cond.methodLink RX7 74 yX7_finds ∈ AW := AW_t (tb_4 (i := 117) rfl) rfl
theorem ml_X7_78 : Cond.methodLink RX7 78 yX7_tells ∈ AW := AW_t (tb_4 (i := 122) rfl) rfl
theorem ml_X7_81 : Cond.methodLink RX7 81 yX7_cutTo ∈ AW := AW_t (tb_4 (i := 130) rfl) rfl
theorem ml_X7_85 : Cond.methodLink RX7 85 yX7_letters ∈ AW := AW_t (tb_4 (i := 217) rfl) rfl
theorem ml_X7_89 : Cond.methodLink RX7 89 yX7_readers ∈ AW := AW_t (tb_4 (i := 197) rfl) rfl
theorem ml_X7_92 : Cond.methodLink RX7 92 yX7_age ∈ AW := AW_t (tb_4 (i := 229) rfl) rfl
theorem ml_X7_95 : Cond.methodLink RX7 95 yX7_span ∈ AW := AW_t (tb_4 (i := 233) rfl) rfl
theorem ml_X7_98 : Cond.methodLink RX7 98 yX7_isAlive ∈ AW := AW_t (tb_4 (i := 225) rfl) rfl
theorem hZS : ∀ {G : Gt} (U : State) (H : Heap), Ctx G U H → va_Z "AgingLetters$Asks" "SIZE_BODIES" "[I" (.ref (gS G)) (gF G) U H := fun _ _ h => h.2.2.2.1.1
theorem hTS : ∀ {G : Gt} (U : State) (H : Heap), Ctx G U H → va_T .int (gS G) 6 (fun j => .int (szB j)) (gF G) U H := fun _ _ h => h.2.2.2.1.2
theorem hZM : ∀ {G : Gt} (U : State) (H : Heap), Ctx G U H → va_Z "AgingLetters$Asks" "MARK_BODIES" "[I" (.ref (gM G)) (gF G) U H := fun _ _ h => h.2.2.2.2.1
theorem hTM : ∀ {G : Gt} (U : State) (H : Heap), Ctx G U H → va_T .int (gM G) 6 (fun j => .int (mkB j)) (gF G) U H := fun _ _ h => h.2.2.2.2.2
theorem ac_n : Cond.native arraycopyName ∈ AW := AW_t (tb_2 (i := 51) rfl) rfl
theorem ac_s : Cond.static arraycopyName ∈ AW := AW_t (tb_2 (i := 50) rfl) rfl
theorem ac_i : Cond.initialized "java/lang/System" ∈ AW := AW_t (tb_1 (i := 10) rfl) rfl
theorem mt_X0_forgetAll : MTV yX0_forgetAll cX0_forgetAll 1 none 0 := ⟨AW_t (tb_2 (i := 134) rfl) rfl, AW_t (tb_2 (i := 132) rfl) rfl, AW_t (tb_2 (i := 133) rfl) rfl, AW_t (tb_1 (i := 6) rfl) rfl, ⟨by decide, by decide, by decide +kernel⟩⟩
theorem mt_X6_halfUp : MTS yX6_halfUp cX6_halfUp 1 (some .int) 1 := ⟨AW_t (tb_2 (i := 177) rfl) rfl, AW_t (tb_2 (i := 176) rfl) rfl, AW_t (tb_1 (i := 1) rfl) rfl, ⟨by decide, by decide, by decide +kernel⟩⟩
theorem mt_X6_tenthUp : MTS yX6_tenthUp cX6_tenthUp 1 (some .int) 1 := ⟨AW_t (tb_2 (i := 180) rfl) rfl, AW_t (tb_2 (i := 179) rfl) rfl, AW_t (tb_1 (i := 1) rfl) rfl, ⟨by decide, by decide, by decide +kernel⟩⟩
theorem mt_X3_costOfPages : MTS yX3_costOfPages cX3_costOfPages 2 (some .int) 2 := ⟨AW_t (tb_2 (i := 174) rfl) rfl, AW_t (tb_2 (i := 173) rfl) rfl, AW_t (tb_1 (i := 5) rfl) rfl, ⟨by decide, by decide, by decide +kernel⟩⟩
theorem mt_X3_hasRead : MTV yX3_hasRead cX3_hasRead 3 (some .boolean) 2 := ⟨AW_t (tb_2 (i := 184) rfl) rfl, AW_t (tb_2 (i := 182) rfl) rfl, AW_t (tb_2 (i := 183) rfl) rfl, AW_t (tb_1 (i := 5) rfl) rfl, ⟨by decide, by decide, by decide +kernel⟩⟩
theorem mt_X3_costFor_ : MTV yX3_costFor_ cX3_costFor_ 5 (some .int) 3 := ⟨AW_t (tb_2 (i := 171) rfl) rfl, AW_t (tb_2 (i := 169) rfl) rfl, AW_t (tb_2 (i := 170) rfl) rfl, AW_t (tb_1 (i := 5) rfl) rfl, ⟨by decide, by decide, by decide +kernel⟩⟩
theorem mt_X3_costFor : MTV yX3_costFor cX3_costFor 3 (some .int) 2 := ⟨AW_t (tb_2 (i := 167) rfl) rfl, AW_t (tb_2 (i := 165) rfl) rfl, AW_t (tb_2 (i := 166) rfl) rfl, AW_t (tb_1 (i := 5) rfl) rfl, ⟨by decide, by decide, by decide +kernel⟩⟩
theorem mt_X3_survives : MTV yX3_survives cX3_survives 3 (some .boolean) 2 := ⟨AW_t (tb_2 (i := 188) rfl) rfl, AW_t (tb_2 (i := 186) rfl) rfl, AW_t (tb_2 (i := 187) rfl) rfl, AW_t (tb_1 (i := 5) rfl) rfl, ⟨by decide, by decide, by decide +kernel⟩⟩
theorem mt_X3_addTimesRead : MTV yX3_addTimesRead cX3_addTimesRead 4 none 3 := ⟨AW_t (tb_2 (i := 192) rfl) rfl, AW_t (tb_2 (i := 190) rfl) rfl, AW_t (tb_2 (i := 191) rfl) rfl, AW_t (tb_1 (i := 5) rfl) rfl, ⟨by decide, by decide, by decide +kernel⟩⟩
theorem mt_X6_inSet : MTS yX6_inSet cX6_inSet 2 (some .boolean) 2 := ⟨AW_t (tb_2 (i := 199) rfl) rfl, AW_t (tb_2 (i := 198) rfl) rfl, AW_t (tb_1 (i := 1) rfl) rfl, ⟨by decide, by decide, by decide +kernel⟩⟩
theorem mt_X0_letHear : MTS yX0_letHear cX0_letHear 6 (some .int) 4 := ⟨AW_t (tb_2 (i := 196) rfl) rfl, AW_t (tb_2 (i := 195) rfl) rfl, AW_t (tb_1 (i := 6) rfl) rfl, ⟨by decide, by decide, by decide +kernel⟩⟩
theorem mt_X0_keep : MTV yX0_keep cX0_keep 4 none 3 := ⟨AW_t (tb_2 (i := 203) rfl) rfl, AW_t (tb_2 (i := 202) rfl) rfl, AW_s (List.mem_of_getElem? (i := 8) rfl) rfl, AW_t (tb_1 (i := 6) rfl) rfl, ⟨by decide, by decide, by decide +kernel⟩⟩
theorem mt_X0_letRead : MTV yX0_letRead cX0_letRead 7 none 4 := ⟨AW_t (tb_2 (i := 163) rfl) rfl, AW_t (tb_2 (i := 161) rfl) rfl, AW_t (tb_2 (i := 162) rfl) rfl, AW_t (tb_1 (i := 6) rfl) rfl, ⟨by decide, by decide, by decide +kernel⟩⟩
theorem mt_X0_letCross : MTV yX0_letCross cX0_letCross 4 none 3 := ⟨AW_t (tb_2 (i := 225) rfl) rfl, AW_t (tb_2 (i := 223) rfl) rfl, AW_t (tb_2 (i := 224) rfl) rfl, AW_t (tb_1 (i := 6) rfl) rfl, ⟨by decide, by decide, by decide +kernel⟩⟩
theorem mt_X0_moveDay : MTS yX0_moveDay cX0_moveDay 3 none 2 := ⟨AW_t (tb_2 (i := 236) rfl) rfl, AW_t (tb_2 (i := 235) rfl) rfl, AW_t (tb_1 (i := 6) rfl) rfl, ⟨by decide, by decide, by decide +kernel⟩⟩
theorem mt_X0_letDayGo : MTV yX0_letDayGo cX0_letDayGo 2 none 1 := ⟨AW_t (tb_2 (i := 233) rfl) rfl, AW_t (tb_2 (i := 231) rfl) rfl, AW_t (tb_2 (i := 232) rfl) rfl, AW_t (tb_1 (i := 6) rfl) rfl, ⟨by decide, by decide, by decide +kernel⟩⟩
theorem mt_X0_takeReadingBack : MTV yX0_takeReadingBack cX0_takeReadingBack 5 none 1 := ⟨AW_t (tb_3 (i := 8) rfl) rfl, AW_t (tb_3 (i := 7) rfl) rfl, AW_s (List.mem_of_getElem? (i := 9) rfl) rfl, AW_t (tb_1 (i := 6) rfl) rfl, ⟨by decide, by decide, by decide +kernel⟩⟩
theorem mt_X0_takeBack : MTV yX0_takeBack cX0_takeBack 2 none 1 := ⟨AW_t (tb_3 (i := 4) rfl) rfl, AW_t (tb_3 (i := 2) rfl) rfl, AW_t (tb_3 (i := 3) rfl) rfl, AW_t (tb_1 (i := 6) rfl) rfl, ⟨by decide, by decide, by decide +kernel⟩⟩
theorem mt_X1_bodyFor : MTS yX1_bodyFor cX1_bodyFor 4 (some .int) 3 := ⟨AW_t (tb_3 (i := 231) rfl) rfl, AW_t (tb_3 (i := 230) rfl) rfl, AW_t (tb_1 (i := 8) rfl) rfl, ⟨by decide, by decide, by decide +kernel⟩⟩
theorem mt_X1_leaveNumber : MTV yX1_leaveNumber cX1_leaveNumber 2 none 1 := ⟨AW_t (tb_4 (i := 2) rfl) rfl, AW_t (tb_4 (i := 1) rfl) rfl, AW_s (List.mem_of_getElem? (i := 11) rfl) rfl, AW_t (tb_1 (i := 8) rfl) rfl, ⟨by decide, by decide, by decide +kernel⟩⟩
theorem mt_X3_timesReadByAll : MTV yX3_timesReadByAll cX3_timesReadByAll 4 (some .int) 1 := ⟨AW_t (tb_3 (i := 25) rfl) rfl, AW_t (tb_3 (i := 23) rfl) rfl, AW_t (tb_3 (i := 24) rfl) rfl, AW_t (tb_1 (i := 5) rfl) rfl, ⟨by decide, by decide, by decide +kernel⟩⟩
theorem mt_X1_begin : MTS yX1_begin cX1_begin 6 (some .int) 5 := ⟨AW_t (tb_3 (i := 238) rfl) rfl, AW_t (tb_3 (i := 237) rfl) rfl, AW_t (tb_1 (i := 8) rfl) rfl, ⟨by decide, by decide, by decide +kernel⟩⟩
theorem mt_X1_answer : MTV yX1_answer cX1_answer 4 (some .int) 3 := ⟨AW_t (tb_3 (i := 228) rfl) rfl, AW_t (tb_3 (i := 226) rfl) rfl, AW_t (tb_3 (i := 227) rfl) rfl, AW_t (tb_1 (i := 8) rfl) rfl, ⟨by decide, by decide, by decide +kernel⟩⟩
theorem mt_X3_isAlive : MTV yX3_isAlive cX3_isAlive 2 (some .boolean) 1 := ⟨AW_t (tb_2 (i := 158) rfl) rfl, AW_t (tb_2 (i := 156) rfl) rfl, AW_t (tb_2 (i := 157) rfl) rfl, AW_t (tb_1 (i := 5) rfl) rfl, ⟨by decide, by decide, by decide +kernel⟩⟩
theorem mt_X3_isFit : MTV yX3_isFit cX3_isFit 2 (some .boolean) 1 := ⟨AW_t (tb_2 (i := 154) rfl) rfl, AW_t (tb_2 (i := 152) rfl) rfl, AW_t (tb_2 (i := 153) rfl) rfl, AW_t (tb_1 (i := 5) rfl) rfl, ⟨by decide, by decide, by decide +kernel⟩⟩
theorem mt_X2_bestReader : MTV yX2_bestReader cX2_bestReader 7 (some .int) 2 := ⟨AW_t (tb_3 (i := 42) rfl) rfl, AW_t (tb_3 (i := 40) rfl) rfl, AW_t (tb_3 (i := 41) rfl) rfl, AW_t (tb_1 (i := 7) rfl) rfl, ⟨by decide, by decide, by decide +kernel⟩⟩
theorem mt_X3_howManyAlive : MTV yX3_howManyAlive cX3_howManyAlive 3 (some .int) 0 := ⟨AW_t (tb_3 (i := 97) rfl) rfl, AW_t (tb_3 (i := 95) rfl) rfl, AW_t (tb_3 (i := 96) rfl) rfl, AW_t (tb_1 (i := 5) rfl) rfl, ⟨by decide, by decide, by decide +kernel⟩⟩
theorem mt_X2_spentAloud : MTV yX2_spentAloud cX2_spentAloud 5 (some .int) 3 := ⟨AW_t (tb_3 (i := 93) rfl) rfl, AW_t (tb_3 (i := 91) rfl) rfl, AW_t (tb_3 (i := 92) rfl) rfl, AW_t (tb_1 (i := 7) rfl) rfl, ⟨by decide, by decide, by decide +kernel⟩⟩
theorem mt_X2_bestReaderAloud : MTV yX2_bestReaderAloud cX2_bestReaderAloud 7 (some .int) 2 := ⟨AW_t (tb_3 (i := 89) rfl) rfl, AW_t (tb_3 (i := 87) rfl) rfl, AW_t (tb_3 (i := 88) rfl) rfl, AW_t (tb_1 (i := 7) rfl) rfl, ⟨by decide, by decide, by decide +kernel⟩⟩
theorem mt_J7_fill_53178 : MTS yJ7_fill_53178 cJ7_fill_53178 4 none 2 := ⟨AW_t (tb_1 (i := 28) rfl) rfl, AW_t (tb_1 (i := 27) rfl) rfl, AW_t (tb_1 (i := 3) rfl) rfl, ⟨by decide, by decide, by decide +kernel⟩⟩
theorem mt_X3_readersOf : MTV yX3_readersOf cX3_readersOf 4 (some .int) 1 := ⟨AW_t (tb_3 (i := 29) rfl) rfl, AW_t (tb_3 (i := 27) rfl) rfl, AW_t (tb_3 (i := 28) rfl) rfl, AW_t (tb_1 (i := 5) rfl) rfl, ⟨by decide, by decide, by decide +kernel⟩⟩
theorem mt_X3_firstCost : MTV yX3_firstCost cX3_firstCost 2 (some .int) 1 := ⟨AW_t (tb_3 (i := 62) rfl) rfl, AW_t (tb_3 (i := 60) rfl) rfl, AW_t (tb_3 (i := 61) rfl) rfl, AW_t (tb_1 (i := 5) rfl) rfl, ⟨by decide, by decide, by decide +kernel⟩⟩
theorem mt_X2_handsOut : MTS yX2_handsOut cX2_handsOut 6 (some .boolean) 4 := ⟨AW_t (tb_3 (i := 57) rfl) rfl, AW_t (tb_3 (i := 56) rfl) rfl, AW_t (tb_1 (i := 7) rfl) rfl, ⟨by decide, by decide, by decide +kernel⟩⟩
theorem mt_X2_handsOutAll : MTV yX2_handsOutAll cX2_handsOutAll 2 (some .boolean) 1 := ⟨AW_t (tb_3 (i := 53) rfl) rfl, AW_t (tb_3 (i := 51) rfl) rfl, AW_t (tb_3 (i := 52) rfl) rfl, AW_t (tb_1 (i := 7) rfl) rfl, ⟨by decide, by decide, by decide +kernel⟩⟩
theorem mt_X2_shortestDeadly : MTV yX2_shortestDeadly cX2_shortestDeadly 6 (some .int) 2 := ⟨AW_t (tb_3 (i := 107) rfl) rfl, AW_t (tb_3 (i := 105) rfl) rfl, AW_t (tb_3 (i := 106) rfl) rfl, AW_t (tb_1 (i := 7) rfl) rfl, ⟨by decide, by decide, by decide +kernel⟩⟩
theorem mt_J6_bitCount_0f7a4 : MTS yJ6_bitCount_0f7a4 cJ6_bitCount_0f7a4 1 (some .int) 1 := ⟨AW_t (tb_3 (i := 118) rfl) rfl, AW_t (tb_3 (i := 117) rfl) rfl, AW_t (tb_1 (i := 11) rfl) rfl, ⟨by decide, by decide, by decide +kernel⟩⟩
theorem mt_X3_costOfAll : MTV yX3_costOfAll cX3_costOfAll 5 (some .int) 2 := ⟨AW_t (tb_3 (i := 125) rfl) rfl, AW_t (tb_3 (i := 123) rfl) rfl, AW_t (tb_3 (i := 124) rfl) rfl, AW_t (tb_1 (i := 5) rfl) rfl, ⟨by decide, by decide, by decide +kernel⟩⟩
theorem mt_X2_smallestDeadlySet : MTV yX2_smallestDeadlySet cX2_smallestDeadlySet 6 (some .int) 2 := ⟨AW_t (tb_3 (i := 115) rfl) rfl, AW_t (tb_3 (i := 113) rfl) rfl, AW_t (tb_3 (i := 114) rfl) rfl, AW_t (tb_1 (i := 7) rfl) rfl, ⟨by decide, by decide, by decide +kernel⟩⟩
theorem mt_X2_fewestToCross : MTV yX2_fewestToCross cX2_fewestToCross 6 (some .int) 3 := ⟨AW_t (tb_3 (i := 135) rfl) rfl, AW_t (tb_3 (i := 133) rfl) rfl, AW_t (tb_3 (i := 134) rfl) rfl, AW_t (tb_1 (i := 7) rfl) rfl, ⟨by decide, by decide, by decide +kernel⟩⟩
theorem mt_X3_firstCostOf : MTV yX3_firstCostOf cX3_firstCostOf 4 (some .int) 1 := ⟨AW_t (tb_3 (i := 77) rfl) rfl, AW_t (tb_3 (i := 75) rfl) rfl, AW_t (tb_3 (i := 76) rfl) rfl, AW_t (tb_1 (i := 5) rfl) rfl, ⟨by decide, by decide, by decide +kernel⟩⟩
theorem mt_X2_setsThatCost : MTV yX2_setsThatCost cX2_setsThatCost 5 (some .int) 2 := ⟨AW_t (tb_3 (i := 153) rfl) rfl, AW_t (tb_3 (i := 151) rfl) rfl, AW_t (tb_3 (i := 152) rfl) rfl, AW_t (tb_1 (i := 7) rfl) rfl, ⟨by decide, by decide, by decide +kernel⟩⟩
theorem mt_X2_leastSetThatCosts : MTV yX2_leastSetThatCosts cX2_leastSetThatCosts 4 (some .int) 2 := ⟨AW_t (tb_3 (i := 158) rfl) rfl, AW_t (tb_3 (i := 156) rfl) rfl, AW_t (tb_3 (i := 157) rfl) rfl, AW_t (tb_1 (i := 7) rfl) rfl, ⟨by decide, by decide, by decide +kernel⟩⟩
theorem mt_X2_noReadingYet : MTV yX2_noReadingYet cX2_noReadingYet 1 none 0 := ⟨AW_t (tb_3 (i := 166) rfl) rfl, AW_t (tb_3 (i := 164) rfl) rfl, AW_t (tb_3 (i := 165) rfl) rfl, AW_t (tb_1 (i := 7) rfl) rfl, ⟨by decide, by decide, by decide +kernel⟩⟩
theorem mt_X2_tellAge : MTV yX2_tellAge cX2_tellAge 7 none 3 := ⟨AW_t (tb_3 (i := 174) rfl) rfl, AW_t (tb_3 (i := 172) rfl) rfl, AW_t (tb_3 (i := 173) rfl) rfl, AW_t (tb_1 (i := 7) rfl) rfl, ⟨by decide, by decide, by decide +kernel⟩⟩
theorem mt_X2_waysToRead : MTV yX2_waysToRead cX2_waysToRead 3 (some .int) 0 := ⟨AW_t (tb_3 (i := 179) rfl) rfl, AW_t (tb_3 (i := 177) rfl) rfl, AW_t (tb_3 (i := 178) rfl) rfl, AW_t (tb_1 (i := 7) rfl) rfl, ⟨by decide, by decide, by decide +kernel⟩⟩
theorem mt_X3_unreadDueAhead : MTV yX3_unreadDueAhead cX3_unreadDueAhead 4 (some .int) 1 := ⟨AW_t (tb_3 (i := 72) rfl) rfl, AW_t (tb_3 (i := 70) rfl) rfl, AW_t (tb_3 (i := 71) rfl) rfl, AW_t (tb_1 (i := 5) rfl) rfl, ⟨by decide, by decide, by decide +kernel⟩⟩
theorem mt_X3_unreadLetters : MTV yX3_unreadLetters cX3_unreadLetters 1 (some .int) 0 := ⟨AW_t (tb_3 (i := 68) rfl) rfl, AW_t (tb_3 (i := 66) rfl) rfl, AW_t (tb_3 (i := 67) rfl) rfl, AW_t (tb_1 (i := 5) rfl) rfl, ⟨by decide, by decide, by decide +kernel⟩⟩
theorem mt_X2_power : MTV yX2_power cX2_power 5 (some .int) 2 := ⟨AW_t (tb_3 (i := 192) rfl) rfl, AW_t (tb_3 (i := 190) rfl) rfl, AW_t (tb_3 (i := 191) rfl) rfl, AW_t (tb_1 (i := 7) rfl) rfl, ⟨by decide, by decide, by decide +kernel⟩⟩
theorem mt_X2_weightOfSurviving : MTV yX2_weightOfSurviving cX2_weightOfSurviving 7 (some .int) 3 := ⟨AW_t (tb_3 (i := 187) rfl) rfl, AW_t (tb_3 (i := 185) rfl) rfl, AW_t (tb_3 (i := 186) rfl) rfl, AW_t (tb_1 (i := 7) rfl) rfl, ⟨by decide, by decide, by decide +kernel⟩⟩
theorem mt_X2_commonDivisor : MTV yX2_commonDivisor cX2_commonDivisor 7 (some .int) 2 := ⟨AW_t (tb_3 (i := 197) rfl) rfl, AW_t (tb_3 (i := 195) rfl) rfl, AW_t (tb_3 (i := 196) rfl) rfl, AW_t (tb_1 (i := 7) rfl) rfl, ⟨by decide, by decide, by decide +kernel⟩⟩
theorem mt_X3_clear : MTV yX3_clear cX3_clear 1 none 0 := ⟨AW_t (tb_2 (i := 84) rfl) rfl, AW_t (tb_2 (i := 82) rfl) rfl, AW_t (tb_2 (i := 83) rfl) rfl, AW_t (tb_1 (i := 5) rfl) rfl, ⟨by decide, by decide, by decide +kernel⟩⟩
theorem mt_X3_becomes : MTV yX3_becomes cX3_becomes 2 none 1 := ⟨AW_t (tb_2 (i := 129) rfl) rfl, AW_t (tb_2 (i := 127) rfl) rfl, AW_t (tb_2 (i := 128) rfl) rfl, AW_t (tb_1 (i := 5) rfl) rfl, ⟨by decide, by decide, by decide +kernel⟩⟩
theorem mt_X3_addLetter : MTV yX3_addLetter cX3_addLetter 4 none 3 := ⟨AW_t (tb_2 (i := 120) rfl) rfl, AW_t (tb_2 (i := 118) rfl) rfl, AW_t (tb_2 (i := 119) rfl) rfl, AW_t (tb_1 (i := 5) rfl) rfl, ⟨by decide, by decide, by decide +kernel⟩⟩
theorem mt_X3_addReader : MTV yX3_addReader cX3_addReader 3 none 2 := ⟨AW_t (tb_2 (i := 108) rfl) rfl, AW_t (tb_2 (i := 106) rfl) rfl, AW_t (tb_2 (i := 107) rfl) rfl, AW_t (tb_1 (i := 5) rfl) rfl, ⟨by decide, by decide, by decide +kernel⟩⟩
theorem mt_X3_hasLetter : MTV yX3_hasLetter cX3_hasLetter 2 (some .boolean) 1 := ⟨AW_t (tb_2 (i := 150) rfl) rfl, AW_t (tb_2 (i := 148) rfl) rfl, AW_t (tb_2 (i := 149) rfl) rfl, AW_t (tb_1 (i := 5) rfl) rfl, ⟨by decide, by decide, by decide +kernel⟩⟩
theorem mt_X3_hasReader : MTV yX3_hasReader cX3_hasReader 2 (some .boolean) 1 := ⟨AW_t (tb_2 (i := 146) rfl) rfl, AW_t (tb_2 (i := 144) rfl) rfl, AW_t (tb_2 (i := 145) rfl) rfl, AW_t (tb_1 (i := 5) rfl) rfl, ⟨by decide, by decide, by decide +kernel⟩⟩
theorem mt_X3_hasReaders : MTV yX3_hasReaders cX3_hasReaders 2 (some .boolean) 1 := ⟨AW_t (tb_2 (i := 211) rfl) rfl, AW_t (tb_2 (i := 209) rfl) rfl, AW_t (tb_2 (i := 210) rfl) rfl, AW_t (tb_1 (i := 5) rfl) rfl, ⟨by decide, by decide, by decide +kernel⟩⟩
theorem mt_X3_areAlive : MTV yX3_areAlive cX3_areAlive 3 (some .boolean) 1 := ⟨AW_t (tb_2 (i := 216) rfl) rfl, AW_t (tb_2 (i := 214) rfl) rfl, AW_t (tb_2 (i := 215) rfl) rfl, AW_t (tb_1 (i := 5) rfl) rfl, ⟨by decide, by decide, by decide +kernel⟩⟩
theorem mt_X3_howManyFit : MTV yX3_howManyFit cX3_howManyFit 3 (some .int) 0 := ⟨AW_t (tb_4 (i := 21) rfl) rfl, AW_t (tb_4 (i := 19) rfl) rfl, AW_t (tb_4 (i := 20) rfl) rfl, AW_t (tb_1 (i := 5) rfl) rfl, ⟨by decide, by decide, by decide +kernel⟩⟩
theorem mt_X3_lettersReadBy : MTV yX3_lettersReadBy cX3_lettersReadBy 4 (some .int) 1 := ⟨AW_t (tb_3 (i := 17) rfl) rfl, AW_t (tb_3 (i := 15) rfl) rfl, AW_t (tb_3 (i := 16) rfl) rfl, AW_t (tb_1 (i := 5) rfl) rfl, ⟨by decide, by decide, by decide +kernel⟩⟩
theorem mt_X4_isRow : MTV yX4_isRow cX4_isRow 2 (some .boolean) 1 := ⟨AW_t (tb_2 (i := 2) rfl) rfl, AW_t (tb_2 (i := 0) rfl) rfl, AW_t (tb_2 (i := 1) rfl) rfl, AW_t (tb_1 (i := 2) rfl) rfl, ⟨by decide, by decide, by decide +kernel⟩⟩
theorem mt_X4_isLane : MTV yX4_isLane cX4_isLane 2 (some .boolean) 1 := ⟨AW_t (tb_2 (i := 6) rfl) rfl, AW_t (tb_2 (i := 4) rfl) rfl, AW_t (tb_2 (i := 5) rfl) rfl, AW_t (tb_1 (i := 2) rfl) rfl, ⟨by decide, by decide, by decide +kernel⟩⟩
theorem mt_X4_isMissing : MTV yX4_isMissing cX4_isMissing 2 (some .boolean) 1 := ⟨AW_t (tb_2 (i := 28) rfl) rfl, AW_t (tb_2 (i := 26) rfl) rfl, AW_t (tb_2 (i := 27) rfl) rfl, AW_t (tb_1 (i := 2) rfl) rfl, ⟨by decide, by decide, by decide +kernel⟩⟩
theorem mt_X4_haveOneLane : MTV yX4_haveOneLane cX4_haveOneLane 3 (some .boolean) 2 := ⟨AW_t (tb_2 (i := 44) rfl) rfl, AW_t (tb_2 (i := 42) rfl) rfl, AW_t (tb_2 (i := 43) rfl) rfl, AW_t (tb_1 (i := 2) rfl) rfl, ⟨by decide, by decide, by decide +kernel⟩⟩
theorem mt_X4_hasPlaces : MTV yX4_hasPlaces cX4_hasPlaces 4 (some .boolean) 3 := ⟨AW_t (tb_2 (i := 32) rfl) rfl, AW_t (tb_2 (i := 30) rfl) rfl, AW_t (tb_2 (i := 31) rfl) rfl, AW_t (tb_1 (i := 2) rfl) rfl, ⟨by decide, by decide, by decide +kernel⟩⟩
theorem mt_X4_make : MTV yX4_make cX4_make 5 none 3 := ⟨AW_t (tb_2 (i := 16) rfl) rfl, AW_t (tb_2 (i := 14) rfl) rfl, AW_t (tb_2 (i := 15) rfl) rfl, AW_t (tb_1 (i := 2) rfl) rfl, ⟨by decide, by decide, by decide +kernel⟩⟩
theorem mt_X4_put : MTV yX4_put cX4_put 5 (some .int) 3 := ⟨AW_t (tb_2 (i := 36) rfl) rfl, AW_t (tb_2 (i := 34) rfl) rfl, AW_t (tb_2 (i := 35) rfl) rfl, AW_t (tb_1 (i := 2) rfl) rfl, ⟨by decide, by decide, by decide +kernel⟩⟩
theorem mt_X4_item : MTV yX4_item cX4_item 3 (some .int) 2 := ⟨AW_t (tb_3 (i := 170) rfl) rfl, AW_t (tb_3 (i := 168) rfl) rfl, AW_t (tb_3 (i := 169) rfl) rfl, AW_t (tb_1 (i := 2) rfl) rfl, ⟨by decide, by decide, by decide +kernel⟩⟩
theorem mt_X4_move : MTV yX4_move cX4_move 6 none 5 := ⟨AW_t (tb_2 (i := 48) rfl) rfl, AW_t (tb_2 (i := 46) rfl) rfl, AW_t (tb_2 (i := 47) rfl) rfl, AW_t (tb_1 (i := 2) rfl) rfl, ⟨by decide, by decide, by decide +kernel⟩⟩
theorem mt_X4_remove : MTV yX4_remove cX4_remove 2 (some .int) 1 := ⟨AW_t (tb_2 (i := 59) rfl) rfl, AW_t (tb_2 (i := 57) rfl) rfl, AW_t (tb_2 (i := 58) rfl) rfl, AW_t (tb_1 (i := 2) rfl) rfl, ⟨by decide, by decide, by decide +kernel⟩⟩
theorem mt_X4_present : MTV yX4_present cX4_present 3 (some .int) 0 := ⟨AW_t (tb_4 (i := 15) rfl) rfl, AW_t (tb_4 (i := 13) rfl) rfl, AW_t (tb_4 (i := 14) rfl) rfl, AW_t (tb_1 (i := 2) rfl) rfl, ⟨by decide, by decide, by decide +kernel⟩⟩
theorem mt_X5_isFull : MTV yX5_isFull cX5_isFull 1 (some .boolean) 0 := ⟨AW_t (tb_2 (i := 67) rfl) rfl, AW_t (tb_2 (i := 65) rfl) rfl, AW_t (tb_2 (i := 66) rfl) rfl, AW_t (tb_1 (i := 4) rfl) rfl, ⟨by decide, by decide, by decide +kernel⟩⟩
theorem mt_X5_append : MTV yX5_append cX5_append 2 (some .int) 1 := ⟨AW_t (tb_2 (i := 72) rfl) rfl, AW_t (tb_2 (i := 70) rfl) rfl, AW_t (tb_2 (i := 71) rfl) rfl, AW_t (tb_1 (i := 4) rfl) rfl, ⟨by decide, by decide, by decide +kernel⟩⟩
theorem mt_X5_empty : MTV yX5_empty cX5_empty 1 none 0 := ⟨AW_t (tb_2 (i := 124) rfl) rfl, AW_t (tb_2 (i := 122) rfl) rfl, AW_t (tb_2 (i := 123) rfl) rfl, AW_t (tb_1 (i := 4) rfl) rfl, ⟨by decide, by decide, by decide +kernel⟩⟩
theorem mt_X5_takeSign : MTV yX5_takeSign cX5_takeSign 2 (some .int) 1 := ⟨AW_t (tb_2 (i := 93) rfl) rfl, AW_t (tb_2 (i := 92) rfl) rfl, AW_s (List.mem_of_getElem? (i := 3) rfl) rfl, AW_t (tb_1 (i := 4) rfl) rfl, ⟨by decide, by decide, by decide +kernel⟩⟩
theorem mt_X5_isFigure : MTS yX5_isFigure cX5_isFigure 1 (some .boolean) 1 := ⟨AW_t (tb_2 (i := 100) rfl) rfl, AW_t (tb_2 (i := 99) rfl) rfl, AW_t (tb_1 (i := 4) rfl) rfl, ⟨by decide, by decide, by decide +kernel⟩⟩
theorem mt_X5_takeNumber : MTV yX5_takeNumber cX5_takeNumber 5 (some .int) 2 := ⟨AW_t (tb_2 (i := 97) rfl) rfl, AW_t (tb_2 (i := 96) rfl) rfl, AW_s (List.mem_of_getElem? (i := 4) rfl) rfl, AW_t (tb_1 (i := 4) rfl) rfl, ⟨by decide, by decide, by decide +kernel⟩⟩
theorem mt_X5_readLaw : MTV yX5_readLaw cX5_readLaw 3 (some .int) 1 := ⟨AW_t (tb_2 (i := 89) rfl) rfl, AW_t (tb_2 (i := 88) rfl) rfl, AW_s (List.mem_of_getElem? (i := 2) rfl) rfl, AW_t (tb_1 (i := 4) rfl) rfl, ⟨by decide, by decide, by decide +kernel⟩⟩
theorem mt_X5_readReader : MTV yX5_readReader cX5_readReader 5 (some .int) 1 := ⟨AW_t (tb_2 (i := 104) rfl) rfl, AW_t (tb_2 (i := 103) rfl) rfl, AW_s (List.mem_of_getElem? (i := 5) rfl) rfl, AW_t (tb_1 (i := 4) rfl) rfl, ⟨by decide, by decide, by decide +kernel⟩⟩
theorem mt_X5_kindAtPlace : MTV yX5_kindAtPlace cX5_kindAtPlace 1 (some .int) 0 := ⟨AW_t (tb_2 (i := 116) rfl) rfl, AW_t (tb_2 (i := 115) rfl) rfl, AW_s (List.mem_of_getElem? (i := 7) rfl) rfl, AW_t (tb_1 (i := 4) rfl) rfl, ⟨by decide, by decide, by decide +kernel⟩⟩
theorem mt_X5_readLetter : MTV yX5_readLetter cX5_readLetter 6 (some .int) 1 := ⟨AW_t (tb_2 (i := 112) rfl) rfl, AW_t (tb_2 (i := 111) rfl) rfl, AW_s (List.mem_of_getElem? (i := 6) rfl) rfl, AW_t (tb_1 (i := 4) rfl) rfl, ⟨by decide, by decide, by decide +kernel⟩⟩
theorem mt_X5_readInto : MTV yX5_readInto cX5_readInto 4 (some .int) 1 := ⟨AW_t (tb_2 (i := 80) rfl) rfl, AW_t (tb_2 (i := 78) rfl) rfl, AW_t (tb_2 (i := 79) rfl) rfl, AW_t (tb_1 (i := 4) rfl) rfl, ⟨by decide, by decide, by decide +kernel⟩⟩
theorem mt_X6_found : MTV yX6_found cX6_found 2 (some .int) 1 := ⟨AW_t (tb_2 (i := 11) rfl) rfl, AW_t (tb_2 (i := 10) rfl) rfl, AW_s (List.mem_of_getElem? (i := 0) rfl) rfl, AW_t (tb_1 (i := 1) rfl) rfl, ⟨by decide, by decide, by decide +kernel⟩⟩
theorem mt_X6_foundNothing : MTV yX6_foundNothing cX6_foundNothing 2 (some .int) 1 := ⟨AW_t (tb_2 (i := 20) rfl) rfl, AW_t (tb_2 (i := 19) rfl) rfl, AW_s (List.mem_of_getElem? (i := 1) rfl) rfl, AW_t (tb_1 (i := 1) rfl) rfl, ⟨by decide, by decide, by decide +kernel⟩⟩
theorem mt_X6_row : MTV yX6_row cX6_row 4 (some .int) 3 := ⟨AW_t (tb_1 (i := 238) rfl) rfl, AW_t (tb_1 (i := 236) rfl) rfl, AW_t (tb_1 (i := 237) rfl) rfl, AW_t (tb_1 (i := 1) rfl) rfl, ⟨by decide, by decide, by decide +kernel⟩⟩
theorem mt_X6_set : MTV yX6_set cX6_set 4 (some .int) 3 := ⟨AW_t (tb_2 (i := 24) rfl) rfl, AW_t (tb_2 (i := 22) rfl) rfl, AW_t (tb_2 (i := 23) rfl) rfl, AW_t (tb_1 (i := 1) rfl) rfl, ⟨by decide, by decide, by decide +kernel⟩⟩
theorem mt_X6_copy : MTV yX6_copy cX6_copy 6 (some .int) 5 := ⟨AW_t (tb_2 (i := 40) rfl) rfl, AW_t (tb_2 (i := 38) rfl) rfl, AW_t (tb_2 (i := 39) rfl) rfl, AW_t (tb_1 (i := 1) rfl) rfl, ⟨by decide, by decide, by decide +kernel⟩⟩
theorem mt_X6_drop : MTV yX6_drop cX6_drop 2 (some .int) 1 := ⟨AW_t (tb_2 (i := 55) rfl) rfl, AW_t (tb_2 (i := 53) rfl) rfl, AW_t (tb_2 (i := 54) rfl) rfl, AW_t (tb_1 (i := 1) rfl) rfl, ⟨by decide, by decide, by decide +kernel⟩⟩
theorem mt_X6_feed : MTV yX6_feed cX6_feed 2 (some .int) 1 := ⟨AW_t (tb_2 (i := 63) rfl) rfl, AW_t (tb_2 (i := 61) rfl) rfl, AW_t (tb_2 (i := 62) rfl) rfl, AW_t (tb_1 (i := 1) rfl) rfl, ⟨by decide, by decide, by decide +kernel⟩⟩
theorem mt_X6_office : MTV yX6_office cX6_office 2 (some .int) 0 := ⟨AW_t (tb_2 (i := 76) rfl) rfl, AW_t (tb_2 (i := 74) rfl) rfl, AW_t (tb_2 (i := 75) rfl) rfl, AW_t (tb_1 (i := 1) rfl) rfl, ⟨by decide, by decide, by decide +kernel⟩⟩
theorem mt_X6_fault : MTV yX6_fault cX6_fault 1 (some .int) 0 := ⟨AW_t (tb_2 (i := 138) rfl) rfl, AW_t (tb_2 (i := 136) rfl) rfl, AW_t (tb_2 (i := 137) rfl) rfl, AW_t (tb_1 (i := 1) rfl) rfl, ⟨by decide, by decide, by decide +kernel⟩⟩
theorem mt_X6_read : MTV yX6_read cX6_read 3 (some .int) 2 := ⟨AW_t (tb_2 (i := 142) rfl) rfl, AW_t (tb_2 (i := 140) rfl) rfl, AW_t (tb_2 (i := 141) rfl) rfl, AW_t (tb_1 (i := 1) rfl) rfl, ⟨by decide, by decide, by decide +kernel⟩⟩
theorem mt_X6_aloud : MTV yX6_aloud cX6_aloud 4 (some .int) 3 := ⟨AW_t (tb_2 (i := 207) rfl) rfl, AW_t (tb_2 (i := 205) rfl) rfl, AW_t (tb_2 (i := 206) rfl) rfl, AW_t (tb_1 (i := 1) rfl) rfl, ⟨by decide, by decide, by decide +kernel⟩⟩
theorem mt_X6_cross : MTV yX6_cross cX6_cross 3 (some .int) 2 := ⟨AW_t (tb_2 (i := 221) rfl) rfl, AW_t (tb_2 (i := 219) rfl) rfl, AW_t (tb_2 (i := 220) rfl) rfl, AW_t (tb_1 (i := 1) rfl) rfl, ⟨by decide, by decide, by decide +kernel⟩⟩
theorem mt_X6_day : MTV yX6_day cX6_day 1 (some .int) 0 := ⟨AW_t (tb_2 (i := 229) rfl) rfl, AW_t (tb_2 (i := 227) rfl) rfl, AW_t (tb_2 (i := 228) rfl) rfl, AW_t (tb_1 (i := 1) rfl) rfl, ⟨by decide, by decide, by decide +kernel⟩⟩
theorem mt_X6_undo : MTV yX6_undo cX6_undo 1 (some .int) 0 := ⟨AW_t (tb_3 (i := 0) rfl) rfl, AW_t (tb_2 (i := 238) rfl) rfl, AW_t (tb_2 (i := 239) rfl) rfl, AW_t (tb_1 (i := 1) rfl) rfl, ⟨by decide, by decide, by decide +kernel⟩⟩
theorem mt_X6_reader : MTV yX6_reader cX6_reader 3 (some .int) 2 := ⟨AW_t (tb_3 (i := 12) rfl) rfl, AW_t (tb_3 (i := 10) rfl) rfl, AW_t (tb_3 (i := 11) rfl) rfl, AW_t (tb_1 (i := 1) rfl) rfl, ⟨by decide, by decide, by decide +kernel⟩⟩
theorem mt_X6_letter : MTV yX6_letter cX6_letter 3 (some .int) 2 := ⟨AW_t (tb_3 (i := 21) rfl) rfl, AW_t (tb_3 (i := 19) rfl) rfl, AW_t (tb_3 (i := 20) rfl) rfl, AW_t (tb_1 (i := 1) rfl) rfl, ⟨by decide, by decide, by decide +kernel⟩⟩
theorem mt_X6_costs : MTV yX6_costs cX6_costs 3 (some .int) 2 := ⟨AW_t (tb_3 (i := 33) rfl) rfl, AW_t (tb_3 (i := 31) rfl) rfl, AW_t (tb_3 (i := 32) rfl) rfl, AW_t (tb_1 (i := 1) rfl) rfl, ⟨by decide, by decide, by decide +kernel⟩⟩
theorem mt_X6_best : MTV yX6_best cX6_best 2 (some .int) 1 := ⟨AW_t (tb_3 (i := 38) rfl) rfl, AW_t (tb_3 (i := 36) rfl) rfl, AW_t (tb_3 (i := 37) rfl) rfl, AW_t (tb_1 (i := 1) rfl) rfl, ⟨by decide, by decide, by decide +kernel⟩⟩
theorem mt_X6_allRead : MTV yX6_allRead cX6_allRead 2 (some .int) 1 := ⟨AW_t (tb_3 (i := 49) rfl) rfl, AW_t (tb_3 (i := 47) rfl) rfl, AW_t (tb_3 (i := 48) rfl) rfl, AW_t (tb_1 (i := 1) rfl) rfl, ⟨by decide, by decide, by decide +kernel⟩⟩
theorem mt_X6_isChoice : MTS yX6_isChoice cX6_isChoice 1 (some .boolean) 1 := ⟨AW_t (tb_3 (i := 85) rfl) rfl, AW_t (tb_3 (i := 84) rfl) rfl, AW_t (tb_1 (i := 1) rfl) rfl, ⟨by decide, by decide, by decide +kernel⟩⟩
theorem mt_X6_bestAloud : MTV yX6_bestAloud cX6_bestAloud 4 (some .int) 2 := ⟨AW_t (tb_3 (i := 82) rfl) rfl, AW_t (tb_3 (i := 80) rfl) rfl, AW_t (tb_3 (i := 81) rfl) rfl, AW_t (tb_1 (i := 1) rfl) rfl, ⟨by decide, by decide, by decide +kernel⟩⟩
theorem mt_X6_kills : MTV yX6_kills cX6_kills 2 (some .int) 1 := ⟨AW_t (tb_3 (i := 103) rfl) rfl, AW_t (tb_3 (i := 101) rfl) rfl, AW_t (tb_3 (i := 102) rfl) rfl, AW_t (tb_1 (i := 1) rfl) rfl, ⟨by decide, by decide, by decide +kernel⟩⟩
theorem mt_X6_post : MTV yX6_post cX6_post 4 (some .int) 2 := ⟨AW_t (tb_3 (i := 111) rfl) rfl, AW_t (tb_3 (i := 109) rfl) rfl, AW_t (tb_3 (i := 110) rfl) rfl, AW_t (tb_1 (i := 1) rfl) rfl, ⟨by decide, by decide, by decide +kernel⟩⟩
theorem mt_X6_crossOut : MTV yX6_crossOut cX6_crossOut 3 (some .int) 2 := ⟨AW_t (tb_3 (i := 131) rfl) rfl, AW_t (tb_3 (i := 129) rfl) rfl, AW_t (tb_3 (i := 130) rfl) rfl, AW_t (tb_1 (i := 1) rfl) rfl, ⟨by decide, by decide, by decide +kernel⟩⟩
theorem mt_X6_dies : MTV yX6_dies cX6_dies 2 (some .int) 1 := ⟨AW_t (tb_3 (i := 140) rfl) rfl, AW_t (tb_3 (i := 138) rfl) rfl, AW_t (tb_3 (i := 139) rfl) rfl, AW_t (tb_1 (i := 1) rfl) rfl, ⟨by decide, by decide, by decide +kernel⟩⟩
theorem mt_X6_late : MTV yX6_late cX6_late 2 (some .int) 1 := ⟨AW_t (tb_3 (i := 144) rfl) rfl, AW_t (tb_3 (i := 142) rfl) rfl, AW_t (tb_3 (i := 143) rfl) rfl, AW_t (tb_1 (i := 1) rfl) rfl, ⟨by decide, by decide, by decide +kernel⟩⟩
theorem mt_X6_soOld : MTV yX6_soOld cX6_soOld 5 (some .int) 3 := ⟨AW_t (tb_3 (i := 149) rfl) rfl, AW_t (tb_3 (i := 147) rfl) rfl, AW_t (tb_3 (i := 148) rfl) rfl, AW_t (tb_1 (i := 1) rfl) rfl, ⟨by decide, by decide, by decide +kernel⟩⟩
theorem mt_X6_ages : MTV yX6_ages cX6_ages 8 (some .int) 4 := ⟨AW_t (tb_3 (i := 162) rfl) rfl, AW_t (tb_3 (i := 160) rfl) rfl, AW_t (tb_3 (i := 161) rfl) rfl, AW_t (tb_1 (i := 1) rfl) rfl, ⟨by decide, by decide, by decide +kernel⟩⟩
theorem mt_X6_burnt : MTV yX6_burnt cX6_burnt 8 (some .int) 3 := ⟨AW_t (tb_3 (i := 183) rfl) rfl, AW_t (tb_3 (i := 181) rfl) rfl, AW_t (tb_3 (i := 182) rfl) rfl, AW_t (tb_1 (i := 1) rfl) rfl, ⟨by decide, by decide, by decide +kernel⟩⟩
theorem mt_X6_imageNumbered : MTV yX6_imageNumbered cX6_imageNumbered 2 (some (.object "AgingLetters$Office")) 1 := ⟨AW_t (tb_3 (i := 205) rfl) rfl, AW_t (tb_3 (i := 204) rfl) rfl, AW_s (List.mem_of_getElem? (i := 10) rfl) rfl, AW_t (tb_1 (i := 1) rfl) rfl, ⟨by decide, by decide, by decide +kernel⟩⟩
theorem mt_X6_image : MTV yX6_image cX6_image 2 (some .int) 1 := ⟨AW_t (tb_3 (i := 201) rfl) rfl, AW_t (tb_3 (i := 199) rfl) rfl, AW_t (tb_3 (i := 200) rfl) rfl, AW_t (tb_1 (i := 1) rfl) rfl, ⟨by decide, by decide, by decide +kernel⟩⟩
theorem mt_X6_restore : MTV yX6_restore cX6_restore 2 (some .int) 1 := ⟨AW_t (tb_3 (i := 209) rfl) rfl, AW_t (tb_3 (i := 207) rfl) rfl, AW_t (tb_3 (i := 208) rfl) rfl, AW_t (tb_1 (i := 1) rfl) rfl, ⟨by decide, by decide, by decide +kernel⟩⟩
theorem mt_X6_kind : MTV yX6_kind cX6_kind 2 (some .int) 1 := ⟨AW_t (tb_3 (i := 213) rfl) rfl, AW_t (tb_3 (i := 211) rfl) rfl, AW_t (tb_3 (i := 212) rfl) rfl, AW_t (tb_1 (i := 1) rfl) rfl, ⟨by decide, by decide, by decide +kernel⟩⟩
theorem mt_X6_isKindOf : MTS yX6_isKindOf cX6_isKindOf 2 (some .boolean) 2 := ⟨AW_t (tb_3 (i := 220) rfl) rfl, AW_t (tb_3 (i := 219) rfl) rfl, AW_t (tb_1 (i := 1) rfl) rfl, ⟨by decide, by decide, by decide +kernel⟩⟩
theorem mt_X6_as : MTV yX6_as cX6_as 3 (some .int) 2 := ⟨AW_t (tb_3 (i := 217) rfl) rfl, AW_t (tb_3 (i := 215) rfl) rfl, AW_t (tb_3 (i := 216) rfl) rfl, AW_t (tb_1 (i := 1) rfl) rfl, ⟨by decide, by decide, by decide +kernel⟩⟩
theorem mt_X6_ask : MTV yX6_ask cX6_ask 3 (some .int) 2 := ⟨AW_t (tb_3 (i := 224) rfl) rfl, AW_t (tb_3 (i := 222) rfl) rfl, AW_t (tb_3 (i := 223) rfl) rfl, AW_t (tb_1 (i := 1) rfl) rfl, ⟨by decide, by decide, by decide +kernel⟩⟩
theorem mt_X6_trace : MTV yX6_trace cX6_trace 2 (some .int) 1 := ⟨AW_t (tb_4 (i := 7) rfl) rfl, AW_t (tb_4 (i := 5) rfl) rfl, AW_t (tb_4 (i := 6) rfl) rfl, AW_t (tb_1 (i := 1) rfl) rfl, ⟨by decide, by decide, by decide +kernel⟩⟩
theorem mt_X6_count : MTV yX6_count cX6_count 2 (some .int) 1 := ⟨AW_t (tb_4 (i := 11) rfl) rfl, AW_t (tb_4 (i := 9) rfl) rfl, AW_t (tb_4 (i := 10) rfl) rfl, AW_t (tb_1 (i := 1) rfl) rfl, ⟨by decide, by decide, by decide +kernel⟩⟩
theorem mt_X6_status : MTV yX6_status cX6_status 1 (some .int) 0 := ⟨AW_t (tb_4 (i := 26) rfl) rfl, AW_t (tb_4 (i := 24) rfl) rfl, AW_t (tb_4 (i := 25) rfl) rfl, AW_t (tb_1 (i := 1) rfl) rfl, ⟨by decide, by decide, by decide +kernel⟩⟩
theorem mt_X7_in : MTS yX7_in cX7_in 6 (some .boolean) 3 := ⟨AW_t (tb_4 (i := 114) rfl) rfl, AW_t (tb_4 (i := 113) rfl) rfl, AW_t (tb_1 (i := 9) rfl) rfl, ⟨by decide, by decide, by decide +kernel⟩⟩
theorem mt_X7_has : MTS yX7_has cX7_has 2 (some .boolean) 2 := ⟨AW_t (tb_5 (i := 38) rfl) rfl, AW_t (tb_5 (i := 37) rfl) rfl, AW_t (tb_1 (i := 9) rfl) rfl, ⟨by decide, by decide, by decide +kernel⟩⟩
theorem mt_X7_finds : MTV yX7_finds cX7_finds 2 (some .int) 1 := ⟨AW_t (tb_4 (i := 120) rfl) rfl, AW_t (tb_4 (i := 119) rfl) rfl, AW_s (List.mem_of_getElem? (i := 12) rfl) rfl, AW_t (tb_1 (i := 9) rfl) rfl, ⟨by decide, by decide, by decide +kernel⟩⟩
theorem mt_X7_tells : MTV yX7_tells cX7_tells 2 (some .int) 1 := ⟨AW_t (tb_4 (i := 125) rfl) rfl, AW_t (tb_4 (i := 124) rfl) rfl, AW_s (List.mem_of_getElem? (i := 13) rfl) rfl, AW_t (tb_1 (i := 9) rfl) rfl, ⟨by decide, by decide, by decide +kernel⟩⟩
theorem mt_X7_isRow : MTS yX7_isRow cX7_isRow 1 (some .boolean) 1 := ⟨AW_t (tb_4 (i := 110) rfl) rfl, AW_t (tb_4 (i := 109) rfl) rfl, AW_t (tb_1 (i := 9) rfl) rfl, ⟨by decide, by decide, by decide +kernel⟩⟩
theorem mt_X7_row : MTV yX7_row cX7_row 5 (some .int) 3 := ⟨AW_t (tb_4 (i := 107) rfl) rfl, AW_t (tb_4 (i := 105) rfl) rfl, AW_t (tb_4 (i := 106) rfl) rfl, AW_t (tb_1 (i := 9) rfl) rfl, ⟨by decide, by decide, by decide +kernel⟩⟩
theorem mt_X7_cutTo : MTS yX7_cutTo cX7_cutTo 2 (some .int) 2 := ⟨AW_t (tb_4 (i := 132) rfl) rfl, AW_t (tb_4 (i := 131) rfl) rfl, AW_t (tb_1 (i := 9) rfl) rfl, ⟨by decide, by decide, by decide +kernel⟩⟩
theorem mt_X7_set : MTV yX7_set cX7_set 4 (some .int) 3 := ⟨AW_t (tb_4 (i := 129) rfl) rfl, AW_t (tb_4 (i := 127) rfl) rfl, AW_t (tb_4 (i := 128) rfl) rfl, AW_t (tb_1 (i := 9) rfl) rfl, ⟨by decide, by decide, by decide +kernel⟩⟩
theorem mt_X7_copy : MTV yX7_copy cX7_copy 7 (some .int) 5 := ⟨AW_t (tb_4 (i := 136) rfl) rfl, AW_t (tb_4 (i := 134) rfl) rfl, AW_t (tb_4 (i := 135) rfl) rfl, AW_t (tb_1 (i := 9) rfl) rfl, ⟨by decide, by decide, by decide +kernel⟩⟩
theorem mt_X7_drop : MTV yX7_drop cX7_drop 3 (some .int) 1 := ⟨AW_t (tb_4 (i := 140) rfl) rfl, AW_t (tb_4 (i := 138) rfl) rfl, AW_t (tb_4 (i := 139) rfl) rfl, AW_t (tb_1 (i := 9) rfl) rfl, ⟨by decide, by decide, by decide +kernel⟩⟩
theorem mt_X7_status : MTV yX7_status cX7_status 1 (some .int) 0 := ⟨AW_t (tb_4 (i := 144) rfl) rfl, AW_t (tb_4 (i := 142) rfl) rfl, AW_t (tb_4 (i := 143) rfl) rfl, AW_t (tb_1 (i := 9) rfl) rfl, ⟨by decide, by decide, by decide +kernel⟩⟩
theorem mt_X7_letters : MTV yX7_letters cX7_letters 1 (some .int) 0 := ⟨AW_t (tb_4 (i := 220) rfl) rfl, AW_t (tb_4 (i := 219) rfl) rfl, AW_s (List.mem_of_getElem? (i := 26) rfl) rfl, AW_t (tb_1 (i := 9) rfl) rfl, ⟨by decide, by decide, by decide +kernel⟩⟩
theorem mt_X7_readers : MTV yX7_readers cX7_readers 1 (some .int) 0 := ⟨AW_t (tb_4 (i := 200) rfl) rfl, AW_t (tb_4 (i := 199) rfl) rfl, AW_s (List.mem_of_getElem? (i := 23) rfl) rfl, AW_t (tb_1 (i := 9) rfl) rfl, ⟨by decide, by decide, by decide +kernel⟩⟩
theorem mt_X7_isLetter : MTV yX7_isLetter cX7_isLetter 2 (some .boolean) 1 := ⟨AW_t (tb_4 (i := 216) rfl) rfl, AW_t (tb_4 (i := 215) rfl) rfl, AW_s (List.mem_of_getElem? (i := 25) rfl) rfl, AW_t (tb_1 (i := 9) rfl) rfl, ⟨by decide, by decide, by decide +kernel⟩⟩
theorem mt_X7_isReader : MTV yX7_isReader cX7_isReader 2 (some .boolean) 1 := ⟨AW_t (tb_4 (i := 212) rfl) rfl, AW_t (tb_4 (i := 211) rfl) rfl, AW_s (List.mem_of_getElem? (i := 24) rfl) rfl, AW_t (tb_1 (i := 9) rfl) rfl, ⟨by decide, by decide, by decide +kernel⟩⟩
theorem mt_X7_sort : MTV yX7_sort cX7_sort 2 (some .int) 1 := ⟨AW_t (tb_5 (i := 17) rfl) rfl, AW_t (tb_5 (i := 16) rfl) rfl, AW_s (List.mem_of_getElem? (i := 35) rfl) rfl, AW_t (tb_1 (i := 9) rfl) rfl, ⟨by decide, by decide, by decide +kernel⟩⟩
theorem mt_X7_age : MTV yX7_age cX7_age 2 (some .int) 1 := ⟨AW_t (tb_4 (i := 232) rfl) rfl, AW_t (tb_4 (i := 231) rfl) rfl, AW_s (List.mem_of_getElem? (i := 29) rfl) rfl, AW_t (tb_1 (i := 9) rfl) rfl, ⟨by decide, by decide, by decide +kernel⟩⟩
theorem mt_X7_span : MTV yX7_span cX7_span 2 (some .int) 1 := ⟨AW_t (tb_4 (i := 236) rfl) rfl, AW_t (tb_4 (i := 235) rfl) rfl, AW_s (List.mem_of_getElem? (i := 30) rfl) rfl, AW_t (tb_1 (i := 9) rfl) rfl, ⟨by decide, by decide, by decide +kernel⟩⟩
theorem mt_X7_isAlive : MTV yX7_isAlive cX7_isAlive 2 (some .boolean) 1 := ⟨AW_t (tb_4 (i := 228) rfl) rfl, AW_t (tb_4 (i := 227) rfl) rfl, AW_s (List.mem_of_getElem? (i := 28) rfl) rfl, AW_t (tb_1 (i := 9) rfl) rfl, ⟨by decide, by decide, by decide +kernel⟩⟩
theorem mt_X7_isFit : MTV yX7_isFit cX7_isFit 2 (some .boolean) 1 := ⟨AW_t (tb_4 (i := 224) rfl) rfl, AW_t (tb_4 (i := 223) rfl) rfl, AW_s (List.mem_of_getElem? (i := 27) rfl) rfl, AW_t (tb_1 (i := 9) rfl) rfl, ⟨by decide, by decide, by decide +kernel⟩⟩
theorem mt_X7_readBy : MTV yX7_readBy cX7_readBy 3 (some .int) 2 := ⟨AW_t (tb_5 (i := 27) rfl) rfl, AW_t (tb_5 (i := 26) rfl) rfl, AW_s (List.mem_of_getElem? (i := 36) rfl) rfl, AW_t (tb_1 (i := 9) rfl) rfl, ⟨by decide, by decide, by decide +kernel⟩⟩
theorem mt_X7_readOf : MTV yX7_readOf cX7_readOf 4 (some .int) 1 := ⟨AW_t (tb_5 (i := 76) rfl) rfl, AW_t (tb_5 (i := 75) rfl) rfl, AW_s (List.mem_of_getElem? (i := 41) rfl) rfl, AW_t (tb_1 (i := 9) rfl) rfl, ⟨by decide, by decide, by decide +kernel⟩⟩
theorem mt_X7_upwards : MTS yX7_upwards cX7_upwards 2 (some .int) 2 := ⟨AW_t (tb_5 (i := 23) rfl) rfl, AW_t (tb_5 (i := 22) rfl) rfl, AW_t (tb_1 (i := 9) rfl) rfl, ⟨by decide, by decide, by decide +kernel⟩⟩
theorem mt_X7_firstCost : MTS yX7_firstCost cX7_firstCost 2 (some .int) 2 := ⟨AW_t (tb_5 (i := 20) rfl) rfl, AW_t (tb_5 (i := 19) rfl) rfl, AW_t (tb_1 (i := 9) rfl) rfl, ⟨by decide, by decide, by decide +kernel⟩⟩
theorem mt_X7_costBy : MTV yX7_costBy cX7_costBy 5 (some .int) 3 := ⟨AW_t (tb_5 (i := 13) rfl) rfl, AW_t (tb_5 (i := 12) rfl) rfl, AW_s (List.mem_of_getElem? (i := 34) rfl) rfl, AW_t (tb_1 (i := 9) rfl) rfl, ⟨by decide, by decide, by decide +kernel⟩⟩
theorem mt_X7_cost : MTV yX7_cost cX7_cost 3 (some .int) 2 := ⟨AW_t (tb_5 (i := 9) rfl) rfl, AW_t (tb_5 (i := 8) rfl) rfl, AW_s (List.mem_of_getElem? (i := 33) rfl) rfl, AW_t (tb_1 (i := 9) rfl) rfl, ⟨by decide, by decide, by decide +kernel⟩⟩
theorem mt_X7_feed : MTV yX7_feed cX7_feed 2 (some .int) 1 := ⟨AW_t (tb_4 (i := 148) rfl) rfl, AW_t (tb_4 (i := 146) rfl) rfl, AW_t (tb_4 (i := 147) rfl) rfl, AW_t (tb_1 (i := 9) rfl) rfl, ⟨by decide, by decide, by decide +kernel⟩⟩
theorem mt_X7_here : MTV yX7_here cX7_here 1 (some .int) 0 := ⟨AW_t (tb_4 (i := 166) rfl) rfl, AW_t (tb_4 (i := 165) rfl) rfl, AW_s (List.mem_of_getElem? (i := 16) rfl) rfl, AW_t (tb_1 (i := 9) rfl) rfl, ⟨by decide, by decide, by decide +kernel⟩⟩
theorem mt_X7_fails : MTV yX7_fails cX7_fails 3 (some .boolean) 2 := ⟨AW_t (tb_4 (i := 170) rfl) rfl, AW_t (tb_4 (i := 169) rfl) rfl, AW_s (List.mem_of_getElem? (i := 17) rfl) rfl, AW_t (tb_1 (i := 9) rfl) rfl, ⟨by decide, by decide, by decide +kernel⟩⟩
theorem mt_X7_sign : MTV yX7_sign cX7_sign 2 (some .boolean) 1 := ⟨AW_t (tb_4 (i := 162) rfl) rfl, AW_t (tb_4 (i := 161) rfl) rfl, AW_s (List.mem_of_getElem? (i := 15) rfl) rfl, AW_t (tb_1 (i := 9) rfl) rfl, ⟨by decide, by decide, by decide +kernel⟩⟩
theorem mt_X7_takeNumber : MTV yX7_takeNumber cX7_takeNumber 4 (some .boolean) 2 := ⟨AW_t (tb_4 (i := 178) rfl) rfl, AW_t (tb_4 (i := 177) rfl) rfl, AW_s (List.mem_of_getElem? (i := 19) rfl) rfl, AW_t (tb_1 (i := 9) rfl) rfl, ⟨by decide, by decide, by decide +kernel⟩⟩
theorem mt_X7_into : MTV yX7_into cX7_into 5 (some .boolean) 3 := ⟨AW_t (tb_4 (i := 174) rfl) rfl, AW_t (tb_4 (i := 173) rfl) rfl, AW_s (List.mem_of_getElem? (i := 18) rfl) rfl, AW_t (tb_1 (i := 9) rfl) rfl, ⟨by decide, by decide, by decide +kernel⟩⟩
theorem mt_X7_sortOf : MTS yX7_sortOf cX7_sortOf 1 (some .int) 1 := ⟨AW_t (tb_4 (i := 191) rfl) rfl, AW_t (tb_4 (i := 190) rfl) rfl, AW_t (tb_1 (i := 9) rfl) rfl, ⟨by decide, by decide, by decide +kernel⟩⟩
theorem mt_X7_takeLetter : MTV yX7_takeLetter cX7_takeLetter 2 (some .boolean) 0 := ⟨AW_t (tb_4 (i := 195) rfl) rfl, AW_t (tb_4 (i := 194) rfl) rfl, AW_s (List.mem_of_getElem? (i := 22) rfl) rfl, AW_t (tb_1 (i := 9) rfl) rfl, ⟨by decide, by decide, by decide +kernel⟩⟩
theorem mt_X7_takeReader : MTV yX7_takeReader cX7_takeReader 3 (some .boolean) 0 := ⟨AW_t (tb_4 (i := 188) rfl) rfl, AW_t (tb_4 (i := 187) rfl) rfl, AW_s (List.mem_of_getElem? (i := 21) rfl) rfl, AW_t (tb_1 (i := 9) rfl) rfl, ⟨by decide, by decide, by decide +kernel⟩⟩
theorem mt_X7_takeNext : MTV yX7_takeNext cX7_takeNext 2 (some .boolean) 0 := ⟨AW_t (tb_4 (i := 184) rfl) rfl, AW_t (tb_4 (i := 183) rfl) rfl, AW_s (List.mem_of_getElem? (i := 20) rfl) rfl, AW_t (tb_1 (i := 9) rfl) rfl, ⟨by decide, by decide, by decide +kernel⟩⟩
theorem mt_X7_takeOffice : MTV yX7_takeOffice cX7_takeOffice 2 (some .boolean) 0 := ⟨AW_t (tb_4 (i := 158) rfl) rfl, AW_t (tb_4 (i := 157) rfl) rfl, AW_s (List.mem_of_getElem? (i := 14) rfl) rfl, AW_t (tb_1 (i := 9) rfl) rfl, ⟨by decide, by decide, by decide +kernel⟩⟩
theorem mt_X7_office : MTV yX7_office cX7_office 3 (some .int) 0 := ⟨AW_t (tb_4 (i := 154) rfl) rfl, AW_t (tb_4 (i := 152) rfl) rfl, AW_t (tb_4 (i := 153) rfl) rfl, AW_t (tb_1 (i := 9) rfl) rfl, ⟨by decide, by decide, by decide +kernel⟩⟩
theorem mt_X7_fault : MTV yX7_fault cX7_fault 1 (some .int) 0 := ⟨AW_t (tb_4 (i := 204) rfl) rfl, AW_t (tb_4 (i := 202) rfl) rfl, AW_t (tb_4 (i := 203) rfl) rfl, AW_t (tb_1 (i := 9) rfl) rfl, ⟨by decide, by decide, by decide +kernel⟩⟩
theorem mt_X7_putInto : MTV yX7_putInto cX7_putInto 4 none 2 := ⟨AW_t (tb_5 (i := 5) rfl) rfl, AW_t (tb_5 (i := 4) rfl) rfl, AW_s (List.mem_of_getElem? (i := 32) rfl) rfl, AW_t (tb_1 (i := 9) rfl) rfl, ⟨by decide, by decide, by decide +kernel⟩⟩
theorem mt_X7_takeFrom : MTV yX7_takeFrom cX7_takeFrom 4 none 2 := ⟨AW_t (tb_5 (i := 59) rfl) rfl, AW_t (tb_5 (i := 58) rfl) rfl, AW_s (List.mem_of_getElem? (i := 39) rfl) rfl, AW_t (tb_1 (i := 9) rfl) rfl, ⟨by decide, by decide, by decide +kernel⟩⟩
theorem mt_X7_remember : MTV yX7_remember cX7_remember 2 none 0 := ⟨AW_t (tb_5 (i := 1) rfl) rfl, AW_t (tb_5 (i := 0) rfl) rfl, AW_s (List.mem_of_getElem? (i := 31) rfl) rfl, AW_t (tb_1 (i := 9) rfl) rfl, ⟨by decide, by decide, by decide +kernel⟩⟩
theorem mt_X7_readNow : MTV yX7_readNow cX7_readNow 4 none 3 := ⟨AW_t (tb_5 (i := 31) rfl) rfl, AW_t (tb_5 (i := 30) rfl) rfl, AW_s (List.mem_of_getElem? (i := 37) rfl) rfl, AW_t (tb_1 (i := 9) rfl) rfl, ⟨by decide, by decide, by decide +kernel⟩⟩
theorem mt_X7_read : MTV yX7_read cX7_read 3 (some .int) 2 := ⟨AW_t (tb_4 (i := 208) rfl) rfl, AW_t (tb_4 (i := 206) rfl) rfl, AW_t (tb_4 (i := 207) rfl) rfl, AW_t (tb_1 (i := 9) rfl) rfl, ⟨by decide, by decide, by decide +kernel⟩⟩
theorem mt_X7_alive : MTV yX7_alive cX7_alive 3 (some .int) 0 := ⟨AW_t (tb_5 (i := 42) rfl) rfl, AW_t (tb_5 (i := 41) rfl) rfl, AW_s (List.mem_of_getElem? (i := 38) rfl) rfl, AW_t (tb_1 (i := 9) rfl) rfl, ⟨by decide, by decide, by decide +kernel⟩⟩
theorem mt_X7_aloud : MTV yX7_aloud cX7_aloud 6 (some .int) 3 := ⟨AW_t (tb_5 (i := 35) rfl) rfl, AW_t (tb_5 (i := 33) rfl) rfl, AW_t (tb_5 (i := 34) rfl) rfl, AW_t (tb_1 (i := 9) rfl) rfl, ⟨by decide, by decide, by decide +kernel⟩⟩
theorem mt_X7_cross : MTV yX7_cross cX7_cross 3 (some .int) 2 := ⟨AW_t (tb_5 (i := 46) rfl) rfl, AW_t (tb_5 (i := 44) rfl) rfl, AW_t (tb_5 (i := 45) rfl) rfl, AW_t (tb_1 (i := 9) rfl) rfl, ⟨by decide, by decide, by decide +kernel⟩⟩
theorem mt_X7_day : MTV yX7_day cX7_day 2 (some .int) 0 := ⟨AW_t (tb_5 (i := 51) rfl) rfl, AW_t (tb_5 (i := 49) rfl) rfl, AW_t (tb_5 (i := 50) rfl) rfl, AW_t (tb_1 (i := 9) rfl) rfl, ⟨by decide, by decide, by decide +kernel⟩⟩
theorem mt_X7_undo : MTV yX7_undo cX7_undo 1 (some .int) 0 := ⟨AW_t (tb_5 (i := 55) rfl) rfl, AW_t (tb_5 (i := 53) rfl) rfl, AW_t (tb_5 (i := 54) rfl) rfl, AW_t (tb_1 (i := 9) rfl) rfl, ⟨by decide, by decide, by decide +kernel⟩⟩
theorem mt_X7_hasRead : MTV yX7_hasRead cX7_hasRead 4 (some .int) 1 := ⟨AW_t (tb_5 (i := 67) rfl) rfl, AW_t (tb_5 (i := 66) rfl) rfl, AW_s (List.mem_of_getElem? (i := 40) rfl) rfl, AW_t (tb_1 (i := 9) rfl) rfl, ⟨by decide, by decide, by decide +kernel⟩⟩
theorem mt_X7_reader : MTV yX7_reader cX7_reader 3 (some .int) 2 := ⟨AW_t (tb_5 (i := 63) rfl) rfl, AW_t (tb_5 (i := 61) rfl) rfl, AW_t (tb_5 (i := 62) rfl) rfl, AW_t (tb_1 (i := 9) rfl) rfl, ⟨by decide, by decide, by decide +kernel⟩⟩
theorem mt_X7_whoRead : MTV yX7_whoRead cX7_whoRead 4 (some .int) 1 := ⟨AW_t (tb_5 (i := 80) rfl) rfl, AW_t (tb_5 (i := 79) rfl) rfl, AW_s (List.mem_of_getElem? (i := 42) rfl) rfl, AW_t (tb_1 (i := 9) rfl) rfl, ⟨by decide, by decide, by decide +kernel⟩⟩
theorem mt_X7_letter : MTV yX7_letter cX7_letter 3 (some .int) 2 := ⟨AW_t (tb_5 (i := 71) rfl) rfl, AW_t (tb_5 (i := 69) rfl) rfl, AW_t (tb_5 (i := 70) rfl) rfl, AW_t (tb_1 (i := 9) rfl) rfl, ⟨by decide, by decide, by decide +kernel⟩⟩
theorem mt_X7_costs : MTV yX7_costs cX7_costs 3 (some .int) 2 := ⟨AW_t (tb_5 (i := 84) rfl) rfl, AW_t (tb_5 (i := 82) rfl) rfl, AW_t (tb_5 (i := 83) rfl) rfl, AW_t (tb_1 (i := 9) rfl) rfl, ⟨by decide, by decide, by decide +kernel⟩⟩
theorem mt_X7_best : MTV yX7_best cX7_best 7 (some .int) 1 := ⟨AW_t (tb_5 (i := 88) rfl) rfl, AW_t (tb_5 (i := 86) rfl) rfl, AW_t (tb_5 (i := 87) rfl) rfl, AW_t (tb_1 (i := 9) rfl) rfl, ⟨by decide, by decide, by decide +kernel⟩⟩
theorem mt_X7_unread : MTV yX7_unread cX7_unread 3 (some .int) 0 := ⟨AW_t (tb_5 (i := 97) rfl) rfl, AW_t (tb_5 (i := 96) rfl) rfl, AW_s (List.mem_of_getElem? (i := 43) rfl) rfl, AW_t (tb_1 (i := 9) rfl) rfl, ⟨by decide, by decide, by decide +kernel⟩⟩
theorem mt_X7_spentBy : MTV yX7_spentBy cX7_spentBy 8 (some .int) 1 := ⟨AW_t (tb_5 (i := 105) rfl) rfl, AW_t (tb_5 (i := 104) rfl) rfl, AW_s (List.mem_of_getElem? (i := 44) rfl) rfl, AW_t (tb_1 (i := 9) rfl) rfl, ⟨by decide, by decide, by decide +kernel⟩⟩
theorem mt_X7_bits : MTS yX7_bits cX7_bits 3 (some .int) 1 := ⟨AW_t (tb_5 (i := 100) rfl) rfl, AW_t (tb_5 (i := 99) rfl) rfl, AW_t (tb_1 (i := 9) rfl) rfl, ⟨by decide, by decide, by decide +kernel⟩⟩
theorem mt_X7_allRead : MTV yX7_allRead cX7_allRead 7 (some .int) 1 := ⟨AW_t (tb_5 (i := 93) rfl) rfl, AW_t (tb_5 (i := 91) rfl) rfl, AW_t (tb_5 (i := 92) rfl) rfl, AW_t (tb_1 (i := 9) rfl) rfl, ⟨by decide, by decide, by decide +kernel⟩⟩
theorem mt_X7_aloudBy : MTV yX7_aloudBy cX7_aloudBy 4 (some .int) 2 := ⟨AW_t (tb_5 (i := 113) rfl) rfl, AW_t (tb_5 (i := 112) rfl) rfl, AW_s (List.mem_of_getElem? (i := 45) rfl) rfl, AW_t (tb_1 (i := 9) rfl) rfl, ⟨by decide, by decide, by decide +kernel⟩⟩
theorem mt_X7_bestAloud : MTV yX7_bestAloud cX7_bestAloud 7 (some .int) 2 := ⟨AW_t (tb_5 (i := 109) rfl) rfl, AW_t (tb_5 (i := 107) rfl) rfl, AW_t (tb_5 (i := 108) rfl) rfl, AW_t (tb_1 (i := 9) rfl) rfl, ⟨by decide, by decide, by decide +kernel⟩⟩
theorem mt_X7_kills : MTV yX7_kills cX7_kills 6 (some .int) 1 := ⟨AW_t (tb_5 (i := 117) rfl) rfl, AW_t (tb_5 (i := 115) rfl) rfl, AW_t (tb_5 (i := 116) rfl) rfl, AW_t (tb_1 (i := 9) rfl) rfl, ⟨by decide, by decide, by decide +kernel⟩⟩
theorem mt_X7_costAll : MTV yX7_costAll cX7_costAll 5 (some .int) 2 := ⟨AW_t (tb_5 (i := 125) rfl) rfl, AW_t (tb_5 (i := 124) rfl) rfl, AW_s (List.mem_of_getElem? (i := 46) rfl) rfl, AW_t (tb_1 (i := 9) rfl) rfl, ⟨by decide, by decide, by decide +kernel⟩⟩
theorem mt_X7_post : MTV yX7_post cX7_post 6 (some .int) 2 := ⟨AW_t (tb_5 (i := 121) rfl) rfl, AW_t (tb_5 (i := 119) rfl) rfl, AW_t (tb_5 (i := 120) rfl) rfl, AW_t (tb_1 (i := 9) rfl) rfl, ⟨by decide, by decide, by decide +kernel⟩⟩
theorem mt_X7_crossOut : MTV yX7_crossOut cX7_crossOut 4 (some .int) 2 := ⟨AW_t (tb_5 (i := 129) rfl) rfl, AW_t (tb_5 (i := 127) rfl) rfl, AW_t (tb_5 (i := 128) rfl) rfl, AW_t (tb_1 (i := 9) rfl) rfl, ⟨by decide, by decide, by decide +kernel⟩⟩
theorem mt_X7_dies : MTV yX7_dies cX7_dies 2 (some .int) 1 := ⟨AW_t (tb_5 (i := 133) rfl) rfl, AW_t (tb_5 (i := 131) rfl) rfl, AW_t (tb_5 (i := 132) rfl) rfl, AW_t (tb_1 (i := 9) rfl) rfl, ⟨by decide, by decide, by decide +kernel⟩⟩
theorem mt_X7_late : MTV yX7_late cX7_late 4 (some .int) 1 := ⟨AW_t (tb_5 (i := 137) rfl) rfl, AW_t (tb_5 (i := 135) rfl) rfl, AW_t (tb_5 (i := 136) rfl) rfl, AW_t (tb_1 (i := 9) rfl) rfl, ⟨by decide, by decide, by decide +kernel⟩⟩
theorem mt_X7_firstAll : MTV yX7_firstAll cX7_firstAll 4 (some .int) 1 := ⟨AW_t (tb_5 (i := 147) rfl) rfl, AW_t (tb_5 (i := 146) rfl) rfl, AW_s (List.mem_of_getElem? (i := 47) rfl) rfl, AW_t (tb_1 (i := 9) rfl) rfl, ⟨by decide, by decide, by decide +kernel⟩⟩
theorem mt_X7_soOld : MTV yX7_soOld cX7_soOld 8 (some .int) 3 := ⟨AW_t (tb_5 (i := 142) rfl) rfl, AW_t (tb_5 (i := 140) rfl) rfl, AW_t (tb_5 (i := 141) rfl) rfl, AW_t (tb_1 (i := 9) rfl) rfl, ⟨by decide, by decide, by decide +kernel⟩⟩
theorem mt_X7_readOn : MTV yX7_readOn cX7_readOn 5 none 1 := ⟨AW_t (tb_5 (i := 156) rfl) rfl, AW_t (tb_5 (i := 155) rfl) rfl, AW_s (List.mem_of_getElem? (i := 48) rfl) rfl, AW_t (tb_1 (i := 9) rfl) rfl, ⟨by decide, by decide, by decide +kernel⟩⟩
theorem mt_X7_ages : MTV yX7_ages cX7_ages 10 (some .int) 4 := ⟨AW_t (tb_5 (i := 151) rfl) rfl, AW_t (tb_5 (i := 149) rfl) rfl, AW_t (tb_5 (i := 150) rfl) rfl, AW_t (tb_1 (i := 9) rfl) rfl, ⟨by decide, by decide, by decide +kernel⟩⟩
theorem mt_X7_burnt : MTV yX7_burnt cX7_burnt 15 (some .int) 3 := ⟨AW_t (tb_5 (i := 160) rfl) rfl, AW_t (tb_5 (i := 158) rfl) rfl, AW_t (tb_5 (i := 159) rfl) rfl, AW_t (tb_1 (i := 9) rfl) rfl, ⟨by decide, by decide, by decide +kernel⟩⟩
theorem mt_X7_image : MTV yX7_image cX7_image 2 (some .int) 1 := ⟨AW_t (tb_5 (i := 165) rfl) rfl, AW_t (tb_5 (i := 163) rfl) rfl, AW_t (tb_5 (i := 164) rfl) rfl, AW_t (tb_1 (i := 9) rfl) rfl, ⟨by decide, by decide, by decide +kernel⟩⟩
theorem mt_X7_restore : MTV yX7_restore cX7_restore 2 (some .int) 1 := ⟨AW_t (tb_5 (i := 169) rfl) rfl, AW_t (tb_5 (i := 167) rfl) rfl, AW_t (tb_5 (i := 168) rfl) rfl, AW_t (tb_1 (i := 9) rfl) rfl, ⟨by decide, by decide, by decide +kernel⟩⟩
theorem mt_X7_kind : MTV yX7_kind cX7_kind 2 (some .int) 1 := ⟨AW_t (tb_5 (i := 173) rfl) rfl, AW_t (tb_5 (i := 171) rfl) rfl, AW_t (tb_5 (i := 172) rfl) rfl, AW_t (tb_1 (i := 9) rfl) rfl, ⟨by decide, by decide, by decide +kernel⟩⟩
theorem mt_X7_isOf : MTV yX7_isOf cX7_isOf 4 (some .boolean) 2 := ⟨AW_t (tb_5 (i := 182) rfl) rfl, AW_t (tb_5 (i := 181) rfl) rfl, AW_s (List.mem_of_getElem? (i := 49) rfl) rfl, AW_t (tb_1 (i := 9) rfl) rfl, ⟨by decide, by decide, by decide +kernel⟩⟩
theorem mt_X7_as : MTV yX7_as cX7_as 3 (some .int) 2 := ⟨AW_t (tb_5 (i := 177) rfl) rfl, AW_t (tb_5 (i := 175) rfl) rfl, AW_t (tb_5 (i := 176) rfl) rfl, AW_t (tb_1 (i := 9) rfl) rfl, ⟨by decide, by decide, by decide +kernel⟩⟩
theorem mt_X7_leave : MTV yX7_leave cX7_leave 2 none 1 := ⟨AW_t (tb_5 (i := 198) rfl) rfl, AW_t (tb_5 (i := 197) rfl) rfl, AW_s (List.mem_of_getElem? (i := 52) rfl) rfl, AW_t (tb_1 (i := 9) rfl) rfl, ⟨by decide, by decide, by decide +kernel⟩⟩
theorem mt_X7_sizeLent : MTV yX7_sizeLent cX7_sizeLent 2 (some .int) 1 := ⟨AW_t (tb_5 (i := 206) rfl) rfl, AW_t (tb_5 (i := 205) rfl) rfl, AW_s (List.mem_of_getElem? (i := 54) rfl) rfl, AW_t (tb_1 (i := 9) rfl) rfl, ⟨by decide, by decide, by decide +kernel⟩⟩
theorem mt_X7_markLent : MTV yX7_markLent cX7_markLent 2 (some .int) 1 := ⟨AW_t (tb_5 (i := 218) rfl) rfl, AW_t (tb_5 (i := 217) rfl) rfl, AW_s (List.mem_of_getElem? (i := 57) rfl) rfl, AW_t (tb_1 (i := 9) rfl) rfl, ⟨by decide, by decide, by decide +kernel⟩⟩
theorem mt_X7_markOfProse : MTV yX7_markOfProse cX7_markOfProse 2 (some .int) 1 := ⟨AW_t (tb_5 (i := 222) rfl) rfl, AW_t (tb_5 (i := 221) rfl) rfl, AW_s (List.mem_of_getElem? (i := 58) rfl) rfl, AW_t (tb_1 (i := 9) rfl) rfl, ⟨by decide, by decide, by decide +kernel⟩⟩
theorem mt_X7_sizeOfFigures : MTV yX7_sizeOfFigures cX7_sizeOfFigures 2 (some .int) 1 := ⟨AW_t (tb_5 (i := 202) rfl) rfl, AW_t (tb_5 (i := 201) rfl) rfl, AW_s (List.mem_of_getElem? (i := 53) rfl) rfl, AW_t (tb_1 (i := 9) rfl) rfl, ⟨by decide, by decide, by decide +kernel⟩⟩
theorem mt_X7_sizeOfSums : MTV yX7_sizeOfSums cX7_sizeOfSums 2 (some .int) 1 := ⟨AW_t (tb_5 (i := 194) rfl) rfl, AW_t (tb_5 (i := 193) rfl) rfl, AW_s (List.mem_of_getElem? (i := 51) rfl) rfl, AW_t (tb_1 (i := 9) rfl) rfl, ⟨by decide, by decide, by decide +kernel⟩⟩
theorem mt_X7_markOf : MTV yX7_markOf cX7_markOf 3 (some .int) 1 := ⟨AW_t (tb_5 (i := 214) rfl) rfl, AW_t (tb_5 (i := 213) rfl) rfl, AW_s (List.mem_of_getElem? (i := 56) rfl) rfl, AW_t (tb_1 (i := 9) rfl) rfl, ⟨by decide, by decide, by decide +kernel⟩⟩
theorem mt_X7_sizeOfProse : MTV yX7_sizeOfProse cX7_sizeOfProse 3 (some .int) 1 := ⟨AW_t (tb_5 (i := 210) rfl) rfl, AW_t (tb_5 (i := 209) rfl) rfl, AW_s (List.mem_of_getElem? (i := 55) rfl) rfl, AW_t (tb_1 (i := 9) rfl) rfl, ⟨by decide, by decide, by decide +kernel⟩⟩
theorem mt_X7_sizeOf : MTV yX7_sizeOf cX7_sizeOf 2 (some .int) 1 := ⟨AW_t (tb_5 (i := 190) rfl) rfl, AW_t (tb_5 (i := 189) rfl) rfl, AW_s (List.mem_of_getElem? (i := 50) rfl) rfl, AW_t (tb_1 (i := 9) rfl) rfl, ⟨by decide, by decide, by decide +kernel⟩⟩
theorem mt_X7_ask : MTV yX7_ask cX7_ask 3 (some .int) 2 := ⟨AW_t (tb_5 (i := 186) rfl) rfl, AW_t (tb_5 (i := 184) rfl) rfl, AW_t (tb_5 (i := 185) rfl) rfl, AW_t (tb_1 (i := 9) rfl) rfl, ⟨by decide, by decide, by decide +kernel⟩⟩
theorem mt_X7_trace : MTV yX7_trace cX7_trace 2 (some .int) 1 := ⟨AW_t (tb_5 (i := 226) rfl) rfl, AW_t (tb_5 (i := 224) rfl) rfl, AW_t (tb_5 (i := 225) rfl) rfl, AW_t (tb_1 (i := 9) rfl) rfl, ⟨by decide, by decide, by decide +kernel⟩⟩
theorem mt_X7_fit : MTV yX7_fit cX7_fit 3 (some .int) 0 := ⟨AW_t (tb_5 (i := 234) rfl) rfl, AW_t (tb_5 (i := 233) rfl) rfl, AW_s (List.mem_of_getElem? (i := 59) rfl) rfl, AW_t (tb_1 (i := 9) rfl) rfl, ⟨by decide, by decide, by decide +kernel⟩⟩
theorem mt_X7_count : MTV yX7_count cX7_count 4 (some .int) 1 := ⟨AW_t (tb_5 (i := 230) rfl) rfl, AW_t (tb_5 (i := 228) rfl) rfl, AW_t (tb_5 (i := 229) rfl) rfl, AW_t (tb_1 (i := 9) rfl) rfl, ⟨by decide, by decide, by decide +kernel⟩⟩
