/-! ===== PURE: undo, the end ===== -/
theorem CO.cong {mem : Mem} {o : Nat} {a b : Nat → Nat} (h : CO mem o a) (he : ∀ j, j < 63 → a j = b j) (h2 : a 2 ≤ 6) (h3 : a 3 ≤ 4) : CO mem o b := by
  obtain ⟨p1, p2, p3, p4⟩ := h
  rw [he 2 (by omega)] at p2 p4 h2
  rw [he 3 (by omega)] at p3 p4 h3
  refine ⟨?_, fun x hx => ?_, fun r hr => ?_, fun r x hr hx => ?_⟩
  · rw [← he 0 (by omega), ← he 1 (by omega), ← he 2 (by omega), ← he 3 (by omega), ← he 4 (by omega)]; exact p1
  · rw [← he (5 + x) (by omega), ← he (11 + x) (by omega), ← he (17 + x) (by omega)]; exact p2 x hx
  · rw [← he (23 + r) (by omega), ← he (27 + r) (by omega), ← he (31 + r) (by omega), ← he (35 + r) (by omega)]; exact p3 r hr
  · rw [← he (39 + 4 * x + r) (by omega)]; exact p4 r x hr hx
section AC6
variable {mem : Mem} {t : Nat}
theorem c_tb_page {a b : Nat → Nat} {c l n : Nat} (hC : CO mem 7 b) (hO : OkG t b) (hc : c < 24) (h7 : mem 43 7 = nI c) (y1 : mem 44 c = nI 1) (y2 : mem 46 c = nI l) (y3 : mem 47 c = nI n) (hl : l < b 2) (y4 : a (11 + l) = b (11 + l) + n) (ha : a (11 + l) ≤ 40) (y5 : ∀ j, j < 63 → j ≠ 11 + l → a j = b j) : ∃ m', X0_takeBack_b49 43 7 mem = some ((), m') ∧ CO m' 7 a ∧ ∀ q, ¬ (7 ≤ q ∧ q ≤ 15) → m' q = mem q := by
  have h2 := hO.1
  have h3 := (hC.2.1 l hl).2.1
  refine ⟨st2 mem 9 l (nI (a (11 + l))), ?_, ?_, fun q hq => st2_k (by omega)⟩
  · unfold X0_takeBack_b49 X0_takeBack_b88
    simp (disch := omega) only [rfs, h7, al, y1, L32, if_true, y2, y3, h3, nI_add, ← y4, as_, st2_k]
    rw [if_neg (nI_neN (by omega) (by omega) (by omega))]
  · have e := hC.pages hO hl (a (11 + l))
    have ee : ∀ j, j < 63 → crG b l (a (11 + l)) j = a j := by
      intro j hj
      unfold crG
      by_cases h : j = 11 + l
      · rw [if_pos h, h]
      · rw [if_neg h, y5 j hj h]
    exact CO.cong e ee (by rw [ee 2 (by omega), y5 2 (by omega) (by omega)]; omega) (by rw [ee 3 (by omega), y5 3 (by omega) (by omega)]; omega)
theorem c_tb_day {a b : Nat → Nat} {c : Nat} (hC : CO mem 7 b) (hO : OkG t b) (hc : c < 24) (h7 : mem 43 7 = nI c) (y1 : mem 44 c = nI 2) (y2 : ∀ r, r < b 3 → a (31 + r) + 1 = b (31 + r)) (y3 : a 4 + 1 = b 4) (y4 : ∀ j, j < 63 → j ≠ 4 → (∀ r, r < b 3 → j ≠ 31 + r) → a j = b j) : ∃ m', X0_takeBack_b49 43 7 mem = some ((), m') ∧ CO m' 7 a ∧ ∀ q, ¬ (7 ≤ q ∧ q ≤ 15) → m' q = mem q := by
  have h2 := hO.1
  have ee : ∀ j, j < 63 → j ≠ 4 → (j < 31 ∨ 35 ≤ j) → a j = b j := fun j hj h4 h => y4 j hj h4 fun r hr => by omega
  obtain ⟨m', e1, e2, e3⟩ := c_move_l (R := b 3) (by omega) (-nI 1) (b 3 + 1) 0 fu (st2 mem 7 2 (nI (a 4))) (by rw [st2_i (by omega), hC.1.2.2.2.2]) (by omega) (by omega) (fu_ge (by omega))
  have f : ∀ q, q ≠ 7 → q ≠ 12 → m' q = mem q := fun q z1 z2 => by rw [e2 q z2, st2_k z1]
  refine ⟨m', ?_, ?_, fun q hq => f q (by omega) (by omega)⟩
  · unfold X0_takeBack_b49 X0_takeBack_b88 X0_moveDay
    simp (disch := omega) only [rfs, h7, al, y1, L32, if_true, hC.1.2.2.1, nI_subm, cll_s]
    rw [if_neg (nI_neN (by omega) (by omega) (by omega)), show b 4 - 1 = a 4 by omega, e1, cll_s]
  · refine ⟨?_, fun x hx => ?_, fun r hr => ?_, fun r x hr hx => ?_⟩
    · rw [e2 7 (by omega), st2_i (by omega), st2_i (by omega), st2_s, st2_i (by omega), st2_i (by omega), ee 0 (by omega) (by omega) (by omega), ee 1 (by omega) (by omega) (by omega), ee 2 (by omega) (by omega) (by omega), ee 3 (by omega) (by omega) (by omega)]
      exact ⟨hC.1.1, hC.1.2.1, rfl, hC.1.2.2.2.1, hC.1.2.2.2.2⟩
    · rw [ee 2 (by omega) (by omega) (by omega)] at hx
      rw [f 8 (by omega) (by omega), f 9 (by omega) (by omega), f 10 (by omega) (by omega), ee _ (by omega) (by omega) (by omega), ee _ (by omega) (by omega) (by omega), ee _ (by omega) (by omega) (by omega)]
      exact hC.2.1 x hx
    · rw [ee 3 (by omega) (by omega) (by omega)] at hr
      have p := hC.2.2.1 r hr
      have p' := hO.2.2.1 r hr
      have p2 := y2 r hr
      rw [f 11 (by omega) (by omega), f 13 (by omega) (by omega), f 14 (by omega) (by omega), ee (23 + r) (by omega) (by omega) (by omega), ee (27 + r) (by omega) (by omega) (by omega), ee (35 + r) (by omega) (by omega) (by omega)]
      refine ⟨p.1, ?_, p.2.2⟩
      show m' 12 r = _
      rw [e3 r, if_pos (show 0 ≤ r ∧ r < b 3 by omega), st2_k (by omega), show mem 12 r = nI (b (31 + r)) from p.2.1, nI_subm (by omega) (by omega), show b (31 + r) - 1 = a (31 + r) by omega]
    · rw [ee 2 (by omega) (by omega) (by omega)] at hx
      rw [ee 3 (by omega) (by omega) (by omega)] at hr
      rw [f 15 (by omega) (by omega), ee _ (by omega) (by omega) (by omega)]
      exact hC.2.2.2 r x hr hx
theorem c_tb_read {a b : Nat → Nat} {c r l d tm L NL : Nat} (hC : CO mem 7 b) (hO : OkG t b) (ht : t ≤ 600) (hc : c < 24) (h7 : mem 43 7 = nI c) (y0 : mem 44 c = nI 0) (y1 : mem 45 c = nI r) (y2 : mem 46 c = nI l) (y3 : mem 47 c = nI d) (y4 : mem 48 c = nI tm) (y5 : mem 49 c = nI L) (y6 : mem 50 c = nI NL)
    (hr : r < b 3) (hl : l < b 2) (hd : d ≤ 120) (htm : tm ≤ 1) (hL : L < 16) (hNL : NL < 16) (hLr : hasB L r = false) (z1 : a (31 + r) + d = b (31 + r)) (z2 : a (39 + 4 * l + r) + tm = b (39 + 4 * l + r))
    (z3 : ∀ q, q < b 3 → hasB L q = true → a (31 + q) + (d + 9) / 10 = b (31 + q))
    (z4 : ∀ q, q < b 3 → q ≠ r → hasB L q = false → a (31 + q) = b (31 + q))
    (z5 : ∀ q, q < b 3 → hasB NL q = true → hasB (b (35 + q)) l = true ∧ a (35 + q) + 2 ^ l = b (35 + q))
    (z6 : ∀ q, q < b 3 → hasB NL q = false → a (35 + q) = b (35 + q))
    (z7 : ∀ j, j < 63 → j ≠ 39 + 4 * l + r → (∀ q, q < b 3 → j ≠ 31 + q ∧ j ≠ 35 + q) → a j = b j) : ∃ m', (cll (X0_takeReadingBack 43 7 mem) fun _ m7 => X0_takeBack_b49 43 7 m7) = some ((), m') ∧ CO m' 7 a ∧ ∀ q, ¬ (7 ≤ q ∧ q ≤ 15) → m' q = mem q := by
  have h2 := hO.1
  have ee : ∀ j, j < 63 → j ≠ 39 + 4 * l + r → (j < 31 ∨ 39 ≤ j) → a j = b j := fun j hj h4 h => z7 j hj h4 fun q hq => by omega
  have pr := hC.2.2.1 r hr
  have pr' := hO.2.2.1 r hr
  have pt := hC.2.2.2 r l hr hl
  have pt' := hO.2.2.2 r l hr hl
  obtain ⟨m', e1, e2, e3, e4⟩ := c_back_l (R := b 3) (c := c) (L := L) (d := d) (NL := NL) (l := l) (by omega) hc hL hNL hd (by omega) (fun q => if q = r then a (31 + r) else b (31 + q)) (fun q => b (35 + q)) (b 3 + 1) 0 fu (st2 (st2 mem 12 r (nI (a (31 + r)))) 15 (r * 6 + l) (nI (a (39 + 4 * l + r)))) (by rw [st2_k (by omega), st2_k (by omega), hC.1.2.2.2.2]) (by rw [st2_k (by omega), st2_k (by omega), h7]) (by rw [st2_k (by omega), st2_k (by omega), y5]) (by rw [st2_k (by omega), st2_k (by omega), y3]) (by rw [st2_k (by omega), st2_k (by omega), y6])
    (fun q _ hq => by
      have p := hC.2.2.1 q hq
      have p' := hO.2.2.1 q hq
      refine ⟨?_, ?_, ?_, p'.2.2.2.2, fun hb => ?_, fun hb => (z5 q hq hb).1⟩
      · rw [st2_k (by omega)]
        by_cases e : q = r
        · rw [e, st2_s, if_pos rfl]
        · rw [st2_i e, if_neg e]; exact p.2.1
      · rw [st2_k (by omega), st2_k (by omega)]; exact p.2.2.2
      · show (if q = r then a (31 + r) else b (31 + q)) < 3000
        split <;> omega
      · show (d + 9) / 10 ≤ (if q = r then a (31 + r) else b (31 + q))
        by_cases e : q = r
        · rw [e, hLr] at hb; cases hb
        · rw [if_neg e]
          have := z3 q hq hb
          omega) (by omega) (by omega) (fu_ge (by omega))
  have f : ∀ q, q ≠ 12 → q ≠ 14 → q ≠ 15 → m' q = mem q := fun q w1 w2 w3 => by rw [e2 q w1 w2, st2_k w3, st2_k w1]
  refine ⟨m', ?_, ?_, fun q hq => f q (by omega) (by omega) (by omega)⟩
  · unfold X0_takeReadingBack X3_addTimesRead X0_takeBack_b49 X0_takeBack_b88
    simp (disch := omega) only [rfs, h7, al, y1, y2, y3, show mem 12 r = nI (b (31 + r)) from pr.2.1, pk_sub, as_, st2_k, y4, pk_mul, nI_add, L32, show mem 15 (r * 6 + l) = nI (b (39 + 4 * l + r)) from pt, nI_subm, cll_s, show b (31 + r) - d = a (31 + r) by omega, show b (39 + 4 * l + r) - tm = a (39 + 4 * l + r) by omega, e1, f 43, f 44, y0]
    rw [if_neg (nI_neN (by omega) (by omega) (by omega)), if_neg (nI_neN (by omega) (by omega) (by omega))]
  · refine ⟨?_, fun x hx => ?_, fun q hq => ?_, fun q x hq hx => ?_⟩
    · rw [f 7 (by omega) (by omega) (by omega), ee 0 (by omega) (by omega) (by omega), ee 1 (by omega) (by omega) (by omega), ee 2 (by omega) (by omega) (by omega), ee 3 (by omega) (by omega) (by omega), ee 4 (by omega) (by omega) (by omega)]
      exact hC.1
    · rw [ee 2 (by omega) (by omega) (by omega)] at hx
      rw [f 8 (by omega) (by omega) (by omega), f 9 (by omega) (by omega) (by omega), f 10 (by omega) (by omega) (by omega), ee _ (by omega) (by omega) (by omega), ee _ (by omega) (by omega) (by omega), ee _ (by omega) (by omega) (by omega)]
      exact hC.2.1 x hx
    · rw [ee 3 (by omega) (by omega) (by omega)] at hq
      have p := hC.2.2.1 q hq
      obtain ⟨w1, w2⟩ := e3 q (Nat.zero_le q) hq
      rw [f 11 (by omega) (by omega) (by omega), f 13 (by omega) (by omega) (by omega), ee (23 + q) (by omega) (by omega) (by omega), ee (27 + q) (by omega) (by omega) (by omega)]
      refine ⟨p.1, ?_, p.2.2.1, ?_⟩
      · show m' 12 q = _
        rw [w1]
        congr 1
        by_cases hb : hasB L q = true
        · have hq2 : q ≠ r := fun e => by rw [e, hLr] at hb; cases hb
          have := z3 q hq hb
          rw [if_pos hb, if_neg hq2]
          omega
        · rw [if_neg hb]
          by_cases e : q = r
          · rw [if_pos e, e]
          · rw [if_neg e]
            exact (z4 q hq e (by simpa using hb)).symm
      · show m' 14 q = _
        rw [w2]
        congr 1
        by_cases hb : hasB NL q = true
        · have := (z5 q hq hb).2
          rw [if_pos hb]
          omega
        · rw [if_neg hb]
          exact (z6 q hq (by simpa using hb)).symm
    · rw [ee 2 (by omega) (by omega) (by omega)] at hx
      rw [ee 3 (by omega) (by omega) (by omega)] at hq
      show m' 15 (q * 6 + x) = _
      rw [e2 15 (by omega) (by omega)]
      by_cases e : q = r ∧ x = l
      · rw [e.1, e.2, st2_s]
      · rw [st2_i (show q * 6 + x ≠ r * 6 + l by omega), st2_k (by omega), ee _ (by omega) (by omega) (by omega)]
        exact hC.2.2.2 q x hq hx
end AC6
