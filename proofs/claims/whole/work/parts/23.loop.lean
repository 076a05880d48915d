set_option maxRecDepth 100000 in
set_option maxHeartbeats 4000000 in
theorem law_loop {G : Gt} {p : Program} {e : Env} {s : State} {m : MethodId} {below : List Frame} {meth : Method} {c : Code} {b L : Nat} {xs : Nat → Int32} (C : LC G p s m meth c b L xs) (Inv : Nat → Mem → Prop) (hmono : ∀ t mem, Inv t mem → Inv (t + 1) mem) (h_row : St_row Inv) (h_set : St_set Inv) (h_copy : St_copy Inv) (h_drop : St_drop Inv) (h_feed : St_feed Inv) (h_office : St_office Inv) (h_fault : St_fault Inv) (h_read : St_read Inv) (h_aloud : St_aloud Inv) (h_cross : St_cross Inv) (h_day : St_day Inv) (h_undo : St_undo Inv) (h_reader : St_reader Inv) (h_letter : St_letter Inv) (h_costs : St_costs Inv) (h_best : St_best Inv) (h_allRead : St_allRead Inv) (h_bestAloud : St_bestAloud Inv) (h_kills : St_kills Inv) (h_post : St_post Inv) (h_crossOut : St_crossOut Inv) (h_dies : St_dies Inv) (h_late : St_late Inv) (h_soOld : St_soOld Inv) (h_ages : St_ages Inv) (h_burnt : St_burnt Inv) (h_image : St_image Inv) (h_restore : St_restore Inv) (h_kind : St_kind Inv) (h_as : St_as Inv) (h_ask : St_ask Inv) (h_trace : St_trace Inv) (h_count : St_count Inv) (h_status : St_status Inv) : ∀ (z i t : Nat) (mem : Mem), i = 6 * t → L + 6 - i < z → i ≤ L + 6 → Inv t mem → EvL G p e s m below meth c b KCL KSL 18 [(0, .ref b), (1, .ref (gA G 0)), (2, .ref (gA G 57)), (3, .int (nI i))] [] mem := by
  have hL := C.2.2.2.2.2.2.2.2.2.2.1
  intro z
  induction z with
  | zero => intro i t mem h1 h2; omega
  | succ z ih =>
    intro i t mem h1 h2 h3 hI
    refine l_iload_n C (q := 19) dL_law_18 rfl 3 rfl rfl ?_
    refine l_aload_n C (q := 20) dL_law_19 rfl 0 rfl rfl ?_
    refine l_slen C (q := 21) dL_law_20 rfl ?_
    refine l_bipush C (q := 23) (v := 6) dL_law_21 rfl (by decide) ?_
    refine l_isub C (q := 24) dL_law_23 rfl ?_
    have hx : (nI L - 6).toInt = (L : Int) - 6 := pk_sub_toInt (a := L) (b := 6) (by omega) (by omega)
    have hy : (nI i).toInt = (i : Int) := nI_toInt (by omega)
    refine l_icmp_gt C (t := 1192) (q := 27) dL_law_24 rfl rfl (fun hc => ?_) (fun hc => ?_)
    · refine l_iconst C (q := 1193) (v := 1) dL_law_1192 rfl (by decide) ?_
      exact l_ret C (Nat.le_of_ble_eq_true rfl) (Nat.le_of_ble_eq_true rfl) dL_law_1193
    · rw [Int32.lt_iff_toInt_lt, hx, hy] at hc
      have hi : i + 6 ≤ L := by omega
      have ht : t < 512 := by omega
      have back : ∀ m2, Inv (t + 1) m2 → EvL G p e s m below meth c b KCL KSL 1186 [(0, .ref b), (1, .ref (gA G 0)), (2, .ref (gA G 57)), (3, .int (nI i))] [] m2 := by
        intro m2 hI2
        refine l_iinc C (q := 1189) (lv2 := [(3, .int _), (0, .ref _), (1, .ref _), (2, .ref _)]) (v := nI (i + 6)) dL_law_1186 3 rfl rfl (ni_p i 6 (by decide)) (by decide) rfl ?_
        refine l_goto C (t := 18) dL_law_1189 rfl ?_
        refine l_sub (lv' := [(0, .ref _), (1, .ref _), (2, .ref _), (3, .int _)]) [1, 2, 3, 0] rfl ?_
        exact ih (i + 6) (t + 1) m2 (by omega) (by omega) (by omega) hI2
      refine l_aload_n C (q := 28) dL_law_27 rfl 0 rfl rfl ?_
      refine l_iload_n C (q := 29) dL_law_28 rfl 3 rfl rfl ?_
      refine l_sld C (q := 30) dL_law_29 rfl (by omega) ?_
      refine l_bipush C (q := 32) (v := 63) dL_law_30 rfl (by decide) ?_
      obtain ⟨j, hj, ej⟩ := pk_andE (xs i) (m := 63) 6 (by decide)
      refine l_iand C (q := 33) dL_law_32 rfl ej ?_
      by_cases j0 : j = 0
      · subst j0
        obtain ⟨r, m1, m2, e1, e2, hI2⟩ := h_row t mem (xs (i + 1)) (xs (i + 2)) (xs (i + 3)) ht hI
        exact l_tsIn C (off := 151) (t := 184) dL_law_33 (by decide) (by decide) (by decide) rfl (law_row C hi e1 e2 (back m2 hI2))
      by_cases j1 : j = 1
      · subst j1
        obtain ⟨r, m1, m2, e1, e2, hI2⟩ := h_set t mem (xs (i + 1)) (xs (i + 2)) (xs (i + 3)) ht hI
        exact l_tsIn C (off := 194) (t := 227) dL_law_33 (by decide) (by decide) (by decide) rfl (law_set C hi e1 e2 (back m2 hI2))
      by_cases j2 : j = 2
      · subst j2
        obtain ⟨r, m1, m2, e1, e2, hI2⟩ := h_copy t mem (xs (i + 1)) (xs (i + 2)) (xs (i + 3)) (xs (i + 4)) (xs (i + 5)) ht hI
        exact l_tsIn C (off := 237) (t := 270) dL_law_33 (by decide) (by decide) (by decide) rfl (law_copy C hi e1 e2 (back m2 hI2))
      by_cases j3 : j = 3
      · subst j3
        obtain ⟨r, m1, m2, e1, e2, hI2⟩ := h_drop t mem (xs (i + 1)) ht hI
        exact l_tsIn C (off := 300) (t := 333) dL_law_33 (by decide) (by decide) (by decide) rfl (law_drop C hi e1 e2 (back m2 hI2))
      by_cases j4 : j = 4
      · subst j4
        obtain ⟨r, m1, m2, e1, e2, hI2⟩ := h_feed t mem (xs (i + 1)) ht hI
        exact l_tsIn C (off := 323) (t := 356) dL_law_33 (by decide) (by decide) (by decide) rfl (law_feed C hi e1 e2 (back m2 hI2))
      by_cases j5 : j = 5
      · subst j5
        obtain ⟨r, m1, m2, e1, e2, hI2⟩ := h_office t mem  ht hI
        exact l_tsIn C (off := 346) (t := 379) dL_law_33 (by decide) (by decide) (by decide) rfl (law_office C hi e1 e2 (back m2 hI2))
      by_cases j6 : j = 6
      · subst j6
        obtain ⟨r, m1, m2, e1, e2, hI2⟩ := h_fault t mem  ht hI
        exact l_tsIn C (off := 359) (t := 392) dL_law_33 (by decide) (by decide) (by decide) rfl (law_fault C hi e1 e2 (back m2 hI2))
      by_cases j7 : j = 7
      · subst j7
        obtain ⟨r, m1, m2, e1, e2, hI2⟩ := h_read t mem (xs (i + 1)) (xs (i + 2)) ht hI
        exact l_tsIn C (off := 372) (t := 405) dL_law_33 (by decide) (by decide) (by decide) rfl (law_read C hi e1 e2 (back m2 hI2))
      by_cases j8 : j = 8
      · subst j8
        obtain ⟨r, m1, m2, e1, e2, hI2⟩ := h_aloud t mem (xs (i + 1)) (xs (i + 2)) (xs (i + 3)) ht hI
        exact l_tsIn C (off := 405) (t := 438) dL_law_33 (by decide) (by decide) (by decide) rfl (law_aloud C hi e1 e2 (back m2 hI2))
      by_cases j9 : j = 9
      · subst j9
        obtain ⟨r, m1, m2, e1, e2, hI2⟩ := h_cross t mem (xs (i + 1)) (xs (i + 2)) ht hI
        exact l_tsIn C (off := 448) (t := 481) dL_law_33 (by decide) (by decide) (by decide) rfl (law_cross C hi e1 e2 (back m2 hI2))
      by_cases j10 : j = 10
      · subst j10
        obtain ⟨r, m1, m2, e1, e2, hI2⟩ := h_day t mem  ht hI
        exact l_tsIn C (off := 481) (t := 514) dL_law_33 (by decide) (by decide) (by decide) rfl (law_day C hi e1 e2 (back m2 hI2))
      by_cases j11 : j = 11
      · subst j11
        obtain ⟨r, m1, m2, e1, e2, hI2⟩ := h_undo t mem  ht hI
        exact l_tsIn C (off := 494) (t := 527) dL_law_33 (by decide) (by decide) (by decide) rfl (law_undo C hi e1 e2 (back m2 hI2))
      by_cases j12 : j = 12
      · subst j12
        obtain ⟨r, m1, m2, e1, e2, hI2⟩ := h_reader t mem (xs (i + 1)) (xs (i + 2)) ht hI
        exact l_tsIn C (off := 507) (t := 540) dL_law_33 (by decide) (by decide) (by decide) rfl (law_reader C hi e1 e2 (back m2 hI2))
      by_cases j13 : j = 13
      · subst j13
        obtain ⟨r, m1, m2, e1, e2, hI2⟩ := h_letter t mem (xs (i + 1)) (xs (i + 2)) ht hI
        exact l_tsIn C (off := 540) (t := 573) dL_law_33 (by decide) (by decide) (by decide) rfl (law_letter C hi e1 e2 (back m2 hI2))
      by_cases j14 : j = 14
      · subst j14
        obtain ⟨r, m1, m2, e1, e2, hI2⟩ := h_costs t mem (xs (i + 1)) (xs (i + 2)) ht hI
        exact l_tsIn C (off := 573) (t := 606) dL_law_33 (by decide) (by decide) (by decide) rfl (law_costs C hi e1 e2 (back m2 hI2))
      by_cases j15 : j = 15
      · subst j15
        obtain ⟨r, m1, m2, e1, e2, hI2⟩ := h_best t mem (xs (i + 1)) ht hI
        exact l_tsIn C (off := 606) (t := 639) dL_law_33 (by decide) (by decide) (by decide) rfl (law_best C hi e1 e2 (back m2 hI2))
      by_cases j16 : j = 16
      · subst j16
        obtain ⟨r, m1, m2, e1, e2, hI2⟩ := h_allRead t mem (xs (i + 1)) ht hI
        exact l_tsIn C (off := 629) (t := 662) dL_law_33 (by decide) (by decide) (by decide) rfl (law_allRead C hi e1 e2 (back m2 hI2))
      by_cases j17 : j = 17
      · subst j17
        obtain ⟨r, m1, m2, e1, e2, hI2⟩ := h_bestAloud t mem (xs (i + 1)) (xs (i + 2)) ht hI
        exact l_tsIn C (off := 652) (t := 685) dL_law_33 (by decide) (by decide) (by decide) rfl (law_bestAloud C hi e1 e2 (back m2 hI2))
      by_cases j18 : j = 18
      · subst j18
        obtain ⟨r, m1, m2, e1, e2, hI2⟩ := h_kills t mem (xs (i + 1)) ht hI
        exact l_tsIn C (off := 685) (t := 718) dL_law_33 (by decide) (by decide) (by decide) rfl (law_kills C hi e1 e2 (back m2 hI2))
      by_cases j19 : j = 19
      · subst j19
        obtain ⟨r, m1, m2, e1, e2, hI2⟩ := h_post t mem (xs (i + 1)) (xs (i + 2)) ht hI
        exact l_tsIn C (off := 708) (t := 741) dL_law_33 (by decide) (by decide) (by decide) rfl (law_post C hi e1 e2 (back m2 hI2))
      by_cases j20 : j = 20
      · subst j20
        obtain ⟨r, m1, m2, e1, e2, hI2⟩ := h_crossOut t mem (xs (i + 1)) (xs (i + 2)) ht hI
        exact l_tsIn C (off := 741) (t := 774) dL_law_33 (by decide) (by decide) (by decide) rfl (law_crossOut C hi e1 e2 (back m2 hI2))
      by_cases j21 : j = 21
      · subst j21
        obtain ⟨r, m1, m2, e1, e2, hI2⟩ := h_dies t mem (xs (i + 1)) ht hI
        exact l_tsIn C (off := 774) (t := 807) dL_law_33 (by decide) (by decide) (by decide) rfl (law_dies C hi e1 e2 (back m2 hI2))
      by_cases j22 : j = 22
      · subst j22
        obtain ⟨r, m1, m2, e1, e2, hI2⟩ := h_late t mem (xs (i + 1)) ht hI
        exact l_tsIn C (off := 797) (t := 830) dL_law_33 (by decide) (by decide) (by decide) rfl (law_late C hi e1 e2 (back m2 hI2))
      by_cases j23 : j = 23
      · subst j23
        obtain ⟨r, m1, m2, e1, e2, hI2⟩ := h_soOld t mem (xs (i + 1)) (xs (i + 2)) (xs (i + 3)) ht hI
        exact l_tsIn C (off := 820) (t := 853) dL_law_33 (by decide) (by decide) (by decide) rfl (law_soOld C hi e1 e2 (back m2 hI2))
      by_cases j24 : j = 24
      · subst j24
        obtain ⟨r, m1, m2, e1, e2, hI2⟩ := h_ages t mem (xs (i + 1)) (xs (i + 2)) (xs (i + 3)) (xs (i + 4)) ht hI
        exact l_tsIn C (off := 863) (t := 896) dL_law_33 (by decide) (by decide) (by decide) rfl (law_ages C hi e1 e2 (back m2 hI2))
      by_cases j25 : j = 25
      · subst j25
        obtain ⟨r, m1, m2, e1, e2, hI2⟩ := h_burnt t mem (xs (i + 1)) (xs (i + 2)) (xs (i + 3)) ht hI
        exact l_tsIn C (off := 916) (t := 949) dL_law_33 (by decide) (by decide) (by decide) rfl (law_burnt C hi e1 e2 (back m2 hI2))
      by_cases j26 : j = 26
      · subst j26
        obtain ⟨r, m1, m2, e1, e2, hI2⟩ := h_image t mem (xs (i + 1)) ht hI
        exact l_tsIn C (off := 959) (t := 992) dL_law_33 (by decide) (by decide) (by decide) rfl (law_image C hi e1 e2 (back m2 hI2))
      by_cases j27 : j = 27
      · subst j27
        obtain ⟨r, m1, m2, e1, e2, hI2⟩ := h_restore t mem (xs (i + 1)) ht hI
        exact l_tsIn C (off := 982) (t := 1015) dL_law_33 (by decide) (by decide) (by decide) rfl (law_restore C hi e1 e2 (back m2 hI2))
      by_cases j28 : j = 28
      · subst j28
        obtain ⟨r, m1, m2, e1, e2, hI2⟩ := h_kind t mem (xs (i + 1)) ht hI
        exact l_tsIn C (off := 1005) (t := 1038) dL_law_33 (by decide) (by decide) (by decide) rfl (law_kind C hi e1 e2 (back m2 hI2))
      by_cases j29 : j = 29
      · subst j29
        obtain ⟨r, m1, m2, e1, e2, hI2⟩ := h_as t mem (xs (i + 1)) (xs (i + 2)) ht hI
        exact l_tsIn C (off := 1028) (t := 1061) dL_law_33 (by decide) (by decide) (by decide) rfl (law_as C hi e1 e2 (back m2 hI2))
      by_cases j30 : j = 30
      · subst j30
        obtain ⟨r, m1, m2, e1, e2, hI2⟩ := h_ask t mem (xs (i + 1)) (xs (i + 2)) ht hI
        exact l_tsIn C (off := 1061) (t := 1094) dL_law_33 (by decide) (by decide) (by decide) rfl (law_ask C hi e1 e2 (back m2 hI2))
      by_cases j31 : j = 31
      · subst j31
        obtain ⟨r, m1, m2, e1, e2, hI2⟩ := h_trace t mem (xs (i + 1)) ht hI
        exact l_tsIn C (off := 1094) (t := 1127) dL_law_33 (by decide) (by decide) (by decide) rfl (law_trace C hi e1 e2 (back m2 hI2))
      by_cases j32 : j = 32
      · subst j32
        obtain ⟨r, m1, m2, e1, e2, hI2⟩ := h_count t mem (xs (i + 1)) ht hI
        exact l_tsIn C (off := 1117) (t := 1150) dL_law_33 (by decide) (by decide) (by decide) rfl (law_count C hi e1 e2 (back m2 hI2))
      by_cases j33 : j = 33
      · subst j33
        obtain ⟨r, m1, m2, e1, e2, hI2⟩ := h_status t mem  ht hI
        exact l_tsIn C (off := 1140) (t := 1173) dL_law_33 (by decide) (by decide) (by decide) rfl (law_status C hi e1 e2 (back m2 hI2))
      exact l_tsOut C (t := 1186) dL_law_33 (by rw [nI_toInt (by omega)]; omega) rfl (back mem (hmono t mem hI))
