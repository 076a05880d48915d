theorem nest_of {w : Cond} {s : State} {args : Array Value} (hn : isNest w = true) (h : w.before args s = true) : va_Nw w s := by
  cases w <;> first | (exact va_Nw.of rfl h) | (cases hn)
theorem inst_0 : Cond.instantiable RX0 9 ∈ AW := AW_t (tb_1 (i := 135) rfl) rfl
theorem inst_1 : Cond.instantiable RX1 2 ∈ AW := AW_t (tb_1 (i := 187) rfl) rfl
theorem inst_2 : Cond.instantiable RX2 3 ∈ AW := AW_t (tb_1 (i := 170) rfl) rfl
theorem inst_3 : Cond.instantiable RX3 13 ∈ AW := AW_t (tb_1 (i := 62) rfl) rfl
theorem inst_4 : Cond.instantiable RX4 3 ∈ AW := AW_t (tb_1 (i := 21) rfl) rfl
theorem inst_5 : Cond.instantiable RX5 4 ∈ AW := AW_t (tb_1 (i := 41) rfl) rfl
theorem inst_6 : Cond.instantiable RX6 11 ∈ AW := AW_t (tb_1 (i := 13) rfl) rfl
theorem inst_7 : Cond.instantiable RX7 23 ∈ AW := AW_t (tb_4 (i := 28) rfl) rfl
theorem lay_S : Cond.laysStatic "AgingLetters$Asks" "SIZE_BODIES" "[I" ∈ lw_tbl := List.mem_append_right _ (tb_3 (i := 233) rfl)
theorem lay_M : Cond.laysStatic "AgingLetters$Asks" "MARK_BODIES" "[I" ∈ lw_tbl := List.mem_append_right _ (tb_3 (i := 235) rfl)
theorem ini_A : Cond.initialized "AgingLetters$Asks" ∈ lw_tbl := List.mem_append_right _ (tb_1 (i := 8) rfl)
set_option maxRecDepth 100000 in
set_option maxHeartbeats 4000000 in
theorem stat_SIZE_BODIES {s : State} {b : Addr} {A : Nat → Prop} (hts : ∀ w ∈ lw_tbl, w.before #[Value.ref b] s = true) (hgv : (Jvm.Cond.and given_1 narrow_1).before #[Value.ref b] s = true) (hA : ∀ a : Nat, a < s.heap.size → ¬ A a) : ∃ t : Nat, va_Z "AgingLetters$Asks" "SIZE_BODIES" "[I" (.ref t) A s s.heap ∧ va_T .int t 6 (fun j => .int (szB j)) A s s.heap := by
  have hs := flat_of_before _ hgv
  have harr : (Cond.arrayOf (.static "AgingLetters$Asks" "SIZE_BODIES" "[I") .int).before #[Value.ref b] s = true := hs _ (by decide +kernel)
  have hlen := va_eqt (hs (Cond.eq (.length (.static "AgingLetters$Asks" "SIZE_BODIES" "[I")) (.int 6)) (by decide +kernel))
  have h0 := va_eqt (hs (Cond.eq (.elem (.static "AgingLetters$Asks" "SIZE_BODIES" "[I") (.int 0)) (.int 10)) (by decide +kernel))
  have h1 := va_eqt (hs (Cond.eq (.elem (.static "AgingLetters$Asks" "SIZE_BODIES" "[I") (.int 1)) (.int 11)) (by decide +kernel))
  have h2 := va_eqt (hs (Cond.eq (.elem (.static "AgingLetters$Asks" "SIZE_BODIES" "[I") (.int 2)) (.int 12)) (by decide +kernel))
  have h3 := va_eqt (hs (Cond.eq (.elem (.static "AgingLetters$Asks" "SIZE_BODIES" "[I") (.int 3)) (.int 11)) (by decide +kernel))
  have h4 := va_eqt (hs (Cond.eq (.elem (.static "AgingLetters$Asks" "SIZE_BODIES" "[I") (.int 4)) (.int 13)) (by decide +kernel))
  have h5 := va_eqt (hs (Cond.eq (.elem (.static "AgingLetters$Asks" "SIZE_BODIES" "[I") (.int 5)) (.int 14)) (by decide +kernel))
  obtain ⟨t, e1, e2⟩ := va_Tof (N := 6) (f := fun j => .int (szB j)) (A := A) (by decide) harr hlen (fun j hj => by
    rcases (show j = 0 ∨ j = 1 ∨ j = 2 ∨ j = 3 ∨ j = 4 ∨ j = 5 by omega) with rfl | rfl | rfl | rfl | rfl | rfl
    · exact h0
    · exact h1
    · exact h2
    · exact h3
    · exact h4
    · exact h5) hA
  exact ⟨t, va_Zof (hts _ lay_S) (hts _ ini_A) e1 hA, e2⟩
set_option maxRecDepth 100000 in
set_option maxHeartbeats 4000000 in
theorem stat_MARK_BODIES {s : State} {b : Addr} {A : Nat → Prop} (hts : ∀ w ∈ lw_tbl, w.before #[Value.ref b] s = true) (hgv : (Jvm.Cond.and given_1 narrow_1).before #[Value.ref b] s = true) (hA : ∀ a : Nat, a < s.heap.size → ¬ A a) : ∃ t : Nat, va_Z "AgingLetters$Asks" "MARK_BODIES" "[I" (.ref t) A s s.heap ∧ va_T .int t 6 (fun j => .int (mkB j)) A s s.heap := by
  have hs := flat_of_before _ hgv
  have harr : (Cond.arrayOf (.static "AgingLetters$Asks" "MARK_BODIES" "[I") .int).before #[Value.ref b] s = true := hs _ (by decide +kernel)
  have hlen := va_eqt (hs (Cond.eq (.length (.static "AgingLetters$Asks" "MARK_BODIES" "[I")) (.int 6)) (by decide +kernel))
  have h0 := va_eqt (hs (Cond.eq (.elem (.static "AgingLetters$Asks" "MARK_BODIES" "[I") (.int 0)) (.int 20)) (by decide +kernel))
  have h1 := va_eqt (hs (Cond.eq (.elem (.static "AgingLetters$Asks" "MARK_BODIES" "[I") (.int 1)) (.int 21)) (by decide +kernel))
  have h2 := va_eqt (hs (Cond.eq (.elem (.static "AgingLetters$Asks" "MARK_BODIES" "[I") (.int 2)) (.int 24)) (by decide +kernel))
  have h3 := va_eqt (hs (Cond.eq (.elem (.static "AgingLetters$Asks" "MARK_BODIES" "[I") (.int 3)) (.int 22)) (by decide +kernel))
  have h4 := va_eqt (hs (Cond.eq (.elem (.static "AgingLetters$Asks" "MARK_BODIES" "[I") (.int 4)) (.int 23)) (by decide +kernel))
  have h5 := va_eqt (hs (Cond.eq (.elem (.static "AgingLetters$Asks" "MARK_BODIES" "[I") (.int 5)) (.int 23)) (by decide +kernel))
  obtain ⟨t, e1, e2⟩ := va_Tof (N := 6) (f := fun j => .int (mkB j)) (A := A) (by decide) harr hlen (fun j hj => by
    rcases (show j = 0 ∨ j = 1 ∨ j = 2 ∨ j = 3 ∨ j = 4 ∨ j = 5 by omega) with rfl | rfl | rfl | rfl | rfl | rfl
    · exact h0
    · exact h1
    · exact h2
    · exact h3
    · exact h4
    · exact h5) hA
  exact ⟨t, va_Zof (hts _ lay_M) (hts _ ini_A) e1 hA, e2⟩
set_option maxRecDepth 100000 in
set_option maxHeartbeats 4000000 in
theorem law_ctx (l : Launch) {s : State} {b : Addr} (hts : ∀ w ∈ lw_tbl, w.before #[Value.ref b] s = true) (hgv : (Jvm.Cond.and given_1 narrow_1).before #[Value.ref b] s = true) : ∃ G : Gt, gL G = l ∧ (∀ k, gA G k = s.heap.size + k) ∧ C0 G s ∧ Ctx G s s.heap := by
  have hAW : ∀ w ∈ AW, w.before #[Value.ref b] s = true := fun w hw => hts w (List.mem_filter.mp hw).1
  obtain ⟨c0, i0, k0⟩ := u_known (C := RX0) (T := TX0) (N := nf 0) (n := 9) hAW cw_0 (hAW _ inst_0)
  obtain ⟨c1, i1, k1⟩ := u_known (C := RX1) (T := TX1) (N := nf 1) (n := 2) hAW cw_1 (hAW _ inst_1)
  obtain ⟨c2, i2, k2⟩ := u_known (C := RX2) (T := TX2) (N := nf 2) (n := 3) hAW cw_2 (hAW _ inst_2)
  obtain ⟨c3, i3, k3⟩ := u_known (C := RX3) (T := TX3) (N := nf 3) (n := 13) hAW cw_3 (hAW _ inst_3)
  obtain ⟨c4, i4, k4⟩ := u_known (C := RX4) (T := TX4) (N := nf 4) (n := 3) hAW cw_4 (hAW _ inst_4)
  obtain ⟨c5, i5, k5⟩ := u_known (C := RX5) (T := TX5) (N := nf 5) (n := 4) hAW cw_5 (hAW _ inst_5)
  obtain ⟨c6, i6, k6⟩ := u_known (C := RX6) (T := TX6) (N := nf 6) (n := 11) hAW cw_6 (hAW _ inst_6)
  obtain ⟨c7, i7, k7⟩ := u_known (C := RX7) (T := TX7) (N := nf 7) (n := 23) hAW cw_7 (hAW _ inst_7)
  obtain ⟨cI, kI, cmI, f1, f2, f3⟩ := Cond.arrayClass_spec (hAW _ arr_i)
  obtain ⟨cZ, kZ, cmZ, g1, g2, g3⟩ := Cond.arrayClass_spec (hAW _ arr_z)
  have hA : ∀ a : Nat, a < s.heap.size → ¬ (fun q : Nat => ∃ k, k < NC ∧ q = s.heap.size + k) a := fun a ha ⟨k, _, h⟩ => by omega
  obtain ⟨tS, z1, z2⟩ := stat_SIZE_BODIES hts hgv hA
  obtain ⟨tM, z3, z4⟩ := stat_MARK_BODIES hts hgv hA
  have hK : va_K ((fun k => if k = 0 then c0 else if k = 1 then c1 else if k = 2 then c2 else if k = 3 then c3 else if k = 4 then c4 else if k = 5 then c5 else if k = 6 then c6 else c7), (fun k => if k = 0 then i0 else if k = 1 then i1 else if k = 2 then i2 else if k = 3 then i3 else if k = 4 then i4 else if k = 5 then i5 else if k = 6 then i6 else i7)) vwCl [(cI, .int), (cZ, .boolean)] s := by
    refine ⟨fun k q hq => ?_, fun k q hq => ?_⟩
    · match k, hq with
      | 0, hq => cases hq; exact k0
      | 1, hq => cases hq; exact k1
      | 2, hq => cases hq; exact k2
      | 3, hq => cases hq; exact k3
      | 4, hq => cases hq; exact k4
      | 5, hq => cases hq; exact k5
      | 6, hq => cases hq; exact k6
      | 7, hq => cases hq; exact k7
      | k + 8, hq => simp [vwCl] at hq
    · match k, hq with
      | 0, hq => cases hq; exact ⟨fun n z => ⟨fun k h => (by cases h), kI, f2, cmI, f3⟩, f1⟩
      | 1, hq => cases hq; exact ⟨fun n z => ⟨fun k h => (by cases h), kZ, g2, cmZ, g3⟩, g1⟩
      | k + 2, hq => simp at hq
  have hN : ∀ w ∈ NW, va_Nw w s := fun w hw => nest_of (List.mem_filter.mp hw).2 (hts w (List.mem_append_right _ (List.mem_filter.mp hw).1))
  exact ⟨⟨fun k => s.heap.size + k, _, cI, cZ, tS, tM, l⟩, rfl, fun k => rfl, ⟨hK, hN⟩, hK, hN, fun i j _ _ h => by simpa [gA] using h, ⟨z1, z2⟩, ⟨z3, z4⟩⟩
def mem0 : Mem := fun k j => if (k = 2 ∨ k = 59) ∧ j < 8 then (-1) else 0
theorem mem0_eq : st1 (st1 (fun _ _ => 0) 2 (fun j => if j < 8 then (-1) else (0 : Int32))) (57 + 2) (fun j => if j < 8 then (-1) else (st1 (fun _ _ => 0) 2 (fun j => if j < 8 then (-1) else (0 : Int32))) (57 + 2) j) = mem0 := by
  funext k j
  simp only [st1, mem0]
  by_cases h1 : k = 59
  · subst h1
    simp
  · by_cases h2 : k = 2
    · subst h2
      simp
    · simp [h1, h2]
set_option maxRecDepth 100000 in
set_option maxHeartbeats 4000000 in
theorem start_open (Inv : Nat → Mem → Prop) (hmono : ∀ t mem, Inv t mem → Inv (t + 1) mem) (hI0 : Inv 0 mem0) (h_row : St_row Inv) (h_set : St_set Inv) (h_copy : St_copy Inv) (h_drop : St_drop Inv) (h_feed : St_feed Inv) (h_office : St_office Inv) (h_fault : St_fault Inv) (h_read : St_read Inv) (h_aloud : St_aloud Inv) (h_cross : St_cross Inv) (h_day : St_day Inv) (h_undo : St_undo Inv) (h_reader : St_reader Inv) (h_letter : St_letter Inv) (h_costs : St_costs Inv) (h_best : St_best Inv) (h_allRead : St_allRead Inv) (h_bestAloud : St_bestAloud Inv) (h_kills : St_kills Inv) (h_post : St_post Inv) (h_crossOut : St_crossOut Inv) (h_dies : St_dies Inv) (h_late : St_late Inv) (h_soOld : St_soOld Inv) (h_ages : St_ages Inv) (h_burnt : St_burnt Inv) (h_image : St_image Inv) (h_restore : St_restore Inv) (h_kind : St_kind Inv) (h_as : St_as Inv) (h_ask : St_ask Inv) (h_trace : St_trace Inv) (h_count : St_count Inv) (h_status : St_status Inv)
    {p : Program} {e : Env} {s : State} {m : MethodId} {below : List Frame} {meth : Method} {c : Code} (l : Launch) {b L : Nat} {xs : Nat → Int32} (hL : L ≤ 3072) (C0' : lw_At p s m meth c b L xs) : W p l e room_1 s m #[Value.ref b] below meth c s.heap [] 0 0 (lw_Z below #[Value.ref b] s) (entryFrame m ([Value.ref b] : List Value).toArray 4) := by
  obtain ⟨hx, hb, hr, hml, hown, hts, hX, hbl, hlocks, hgv⟩ := id C0'
  obtain ⟨G, rfl, g1, hC, hCx⟩ := law_ctx l hts hgv
  have hAW : ∀ w ∈ AW, w.before #[Value.ref b] s = true := fun w hw => hts w (List.mem_filter.mp hw).1
  have hS : va_S (aB s.heap.size) s.heap s.heap [] := va_S.rf
  have hP : PW G s.heap.size 0 (fun _ _ => false) (fun _ _ => 0) s.heap := ⟨fun k q h => by simp [cellsN] at h, rfl, fun _ _ => rfl⟩
  have hl := lv_entry ([.ref b]) (n := 4) (Nat.le_of_ble_eq_true rfl)
  rw [lg_entry_eq]
  generalize (lg_sl ([.ref b]) ++ List.replicate (4 - (lg_sl ([.ref b])).length) Slot.unset).toArray = ls at hl ⊢
  have hl : lv_has ls 4 [(0, .ref b)] := hl
  refine w_new (base := s.heap.size) (nn := 1) (ci := 6) (K := RX6) (T := TX6) (own := RL) g1 (Nat.le_refl _) hx hb hown hAW hC dL_law_0 rfl cf_6 (by decide) (by decide) df_6 (AW_t (tb_1 (i := 12) rfl) rfl) inst_6 (AW_t (tb_1 (i := 1) rfl) rfl) rfl (Nat.le_of_ble_eq_true rfl) (Nat.le_of_ble_eq_true rfl) hP hS (fun H hP hS => ?_)
  refine lv_dup hx hb dL_law_3 rfl ?_
  refine w_callI (own := RL) (nL := 4) (lv := [(0, .ref b)]) g1 hx hb hml hown hAW hC dL_law_4 (AW_t (tb_1 (i := 14) rfl) rfl) (AW_t (tb_1 (i := 16) rfl) rfl) (AW_t (tb_1 (i := 15) rfl) rfl) (AW_t (tb_1 (i := 1) rfl) rfl) rfl ⟨by decide, by decide, by decide +kernel⟩ (conC_X6 G s.heap.size _ (fun _ _ => rfl) _) rfl (Nat.le_of_ble_eq_true rfl) (Nat.le_of_ble_eq_true rfl) rfl (Nat.le_of_ble_eq_true rfl) (Nat.le_of_ble_eq_true rfl) (Nat.le_of_ble_eq_true rfl) hP hS hl (fun n2 fl2 mem2 H locs hQ hP hS => ?_)
  obtain ⟨rfl, rfl, rfl⟩ := hQ
  refine lv_astore_n (lv' := [(1, .ref (gA G 0)), (0, .ref b)]) hx hb dL_law_7 rfl hl (by decide) rfl (fun ls hl => ?_)
  refine w_new (base := s.heap.size) (nn := 58) (ci := 7) (K := RX7) (T := TX7) (own := RL) g1 (Nat.le_refl _) hx hb hown hAW hC dL_law_8 rfl cf_7 (by decide) (by decide) df_7 (AW_t (tb_4 (i := 27) rfl) rfl) inst_7 (AW_t (tb_1 (i := 9) rfl) rfl) (by simp [flA]) (Nat.le_of_ble_eq_true rfl) (Nat.le_of_ble_eq_true rfl) hP hS (fun H hP hS => ?_)
  refine lv_dup hx hb dL_law_11 rfl ?_
  refine w_callI (own := RL) (nL := 4) (lv := [(1, .ref (gA G 0)), (0, .ref b)]) g1 hx hb hml hown hAW hC dL_law_12 (AW_t (tb_4 (i := 29) rfl) rfl) (AW_t (tb_4 (i := 31) rfl) rfl) (AW_t (tb_4 (i := 30) rfl) rfl) (AW_t (tb_1 (i := 9) rfl) rfl) rfl ⟨by decide, by decide, by decide +kernel⟩ (conC_X7 G s.heap.size 57 (by decide) _ _) rfl (Nat.le_of_ble_eq_true rfl) (Nat.le_of_ble_eq_true rfl) rfl (Nat.le_of_ble_eq_true rfl) (Nat.le_of_ble_eq_true rfl) (Nat.le_of_ble_eq_true rfl) hP hS hl (fun n2 fl2 mem2 H locs hQ hP hS => ?_)
  obtain ⟨rfl, rfl, rfl⟩ := hQ
  refine lv_astore_n (lv' := [(2, .ref (gA G 57)), (1, .ref (gA G 0)), (0, .ref b)]) hx hb dL_law_15 rfl hl (by decide) rfl (fun ls hl => ?_)
  refine lv_iconst (v := 0) hx hb dL_law_16 (by decide) ?_
  refine lv_istore_n (lv' := [(3, .int 0), (2, .ref (gA G 57)), (1, .ref (gA G 0)), (0, .ref b)]) hx hb dL_law_17 rfl hl (by decide) rfl (fun ls hl => ?_)
  have hPW := hP.1
  rw [mem0_eq] at hPW
  have hcells : cellsN G (57 + 16) (flA (flA (fun _ _ => false) 0 57) 57 (57 + 16)) mem0 = cells G mem0 := by
    unfold cellsN cells
    show (List.range NC).map _ = (List.range NC).map _
    apply List.map_congr_left
    intro k hk
    have hk := List.mem_range.mp hk
    congr 1
    have hfl : ∀ j, flA (flA (fun _ _ => false) 0 57) 57 (57 + 16) k j = true := by
      intro j
      unfold flA
      by_cases h : 57 ≤ k ∧ k < 57 + 16
      · rw [if_pos h]
      · rw [if_neg h, if_pos ⟨Nat.zero_le _, by have : NC = 73 := rfl; omega⟩]
    unfold cellF cellE
    by_cases h1 : kd k = 100
    · rw [if_pos h1, if_pos h1]
    · rw [if_neg h1, if_neg h1]
      by_cases h2 : kd k = 101
      · rw [if_pos h2, if_pos h2]
      · rw [if_neg h2, if_neg h2]
        congr 2
        apply List.map_congr_left
        intro j _
        unfold fVn fV
        rw [if_pos (hfl j)]
  rw [hcells] at hPW
  have hLC : LC G p s m meth c b L xs := ⟨hx, hb, hr, hml, hown, hAW, hX, hbl, hlocks, hCx, hL, fun k _ => by rw [g1]; omega⟩
  have K := law_loop (e := e) (below := below) hLC Inv hmono h_row h_set h_copy h_drop h_feed h_office h_fault h_read h_aloud h_cross h_day h_undo h_reader h_letter h_costs h_best h_allRead h_bestAloud h_kills h_post h_crossOut h_dies h_late h_soOld h_ages h_burnt h_image h_restore h_kind h_as h_ask h_trace h_count h_status (L + 7) 0 0 mem0 rfl (by omega) (by omega) hI0
  exact K H locs ls hPW hS (lv_sub hl [3, 2, 1, 0] rfl)

