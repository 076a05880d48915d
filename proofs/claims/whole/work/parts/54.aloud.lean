/-! ===== PURE: the call aloud ===== -/
theorem p2_16 {g : Nat → Nat} (h : g 3 ≤ 4) : 2 ^ g 3 ≤ 16 := p2_le (m := 4) h
section RD4
variable {mem : Mem} {g : Nat → Nat} {t : Nat}
theorem c_hasReaders_y (hC : CO mem 7 g) (hO : OkG t g) {L N : Nat} (hN : 2 ^ g 3 = N) (hL : L < N) : X3_hasReaders 7 (nI L) mem = some (nI 1, mem) := by
  have h2 := hO.1
  have h6 := p2_16 h2.2.2.2.2.1
  rw [hN] at h6
  unfold X3_hasReaders
  simp (disch := omega) only [hC.1.2.2.2.2, L32, shl_n, hN, nI_ltI, Nat.not_lt_zero, if_false, hL, if_true, chk_1]
theorem c_hasReaders_n (hC : CO mem 7 g) (hO : OkG t g) {a : Int32} {N : Nat} (hN : 2 ^ g 3 = N) (ha : ¬ (0 ≤ a.toInt ∧ a.toInt < N)) : X3_hasReaders 7 a mem = some (nI 0, mem) := by
  have h2 := hO.1
  have h6 := p2_16 h2.2.2.2.2.1
  rw [hN] at h6
  unfold X3_hasReaders
  simp (disch := omega) only [hC.1.2.2.2.2, L32, shl_n, hN, chk_0, Int32.lt_iff_toInt_lt, nI_toInt]
  by_cases h : a.toInt < (0 : Nat)
  · rw [if_pos h]
  · rw [if_neg h, if_neg (show ¬ a.toInt < (N : Int) by omega)]
theorem c_areAlive_y (hC : CO mem 7 g) (hO : OkG t g) {L : Nat} (hL : L < 16) (h : ∀ q, q < g 3 → hasB L q = true → aliveB g q = true) : X3_areAlive 7 (nI L) mem = some (nI 1, mem) := by
  have h2 := hO.1
  exact (c_areAlive_l hC hO hL (g 3 + 1) 0 fu (by omega) (by omega) (fu_ge (by omega))).1 (fun q _ => h q)
theorem c_areAlive_n (hC : CO mem 7 g) (hO : OkG t g) {L : Nat} (hL : L < 16) (h : ¬ ∀ q, q < g 3 → hasB L q = true → aliveB g q = true) : X3_areAlive 7 (nI L) mem = some (nI 0, mem) := by
  have h2 := hO.1
  exact (c_areAlive_l hC hO hL (g 3 + 1) 0 fu (by omega) (by omega) (fu_ge (by omega))).2 (fun h' => h fun q => h' q (Nat.zero_le q))
theorem st_aloud : St_aloud Inv := by
  intro t mem a1 a2 a3 ht hI
  obtain ⟨g, hC, hM, hO, hG, hA, hR, hT, hF, hT2⟩ := id hI
  have h2 := hO.1
  have h6 := p2_16 h2.2.2.2.2.1
  obtain ⟨N, hN⟩ : ∃ N, 2 ^ g 3 = N := ⟨_, rfl⟩
  rw [hN] at h6
  have hN1 : 1 ≤ N := by rw [← hN]; exact Nat.one_le_two_pow
  have hNz : (nI N - nI 1).toInt = (N : Int) - 1 := pk_sub_toInt (by omega) (by omega)
  unfold X6_aloud X7_aloud
  rcases rng a1 (g 3) (by omega) with ⟨r, hr, rfl⟩ | hr
  · rcases rng a2 N (by omega) with ⟨L, hL, rfl⟩ | hL
    · have hbit : ∀ q, q < 4 → g 3 ≤ q → hasB L q = false := fun q z1 z2 => bit_lt (g 3) (by omega) L (by rw [hN]; exact hL) q z1 z2
      have hin : ∀ mm : Mem, X7_in (nI L).toInt64 (lN 0) (nI N - nI 1).toInt64 mm = some (nI 1, mm) := by
        intro mm
        rw [m_in32 _ _ 0 (by omega), hNz, nI_toInt (by omega), b2_t (by omega)]
      by_cases hLr : hasB L r = true
      · refine q_step hI (r := -nI 1000001) ?_ ?_
        · rcases rng a3 (g 2) (by omega) with ⟨l, hl, rfl⟩ | hl
          · simp (disch := omega) only [rfs, c_hasReader_y hC hO hr, c_hasLetter_y hC hO hl, c_hasReaders_y hC hO hN hL, c_inSet, cll_s, L32, ite10, b2_0, hLr, if_true]
          · simp (disch := omega) only [rfs, c_hasReader_y hC hO hr, c_hasLetter_n hC hO hl, cll_s, L32, ite10, if_true]
        · simp (disch := omega) only [m_isReader_y hM hO hr, m_readers hM, cll_s, L32, L64, shl_n, hN, hin, ite10, m_has, b2_0, hLr, if_true]
      · rcases rng a3 (g 2) (by omega) with ⟨l, hl, rfl⟩ | hl
        · by_cases hf : fitB g r = true
          · by_cases hall : ∀ q, q < g 3 → hasB L q = true → aliveB g q = true
            · have hLr2 : hasB L r = false := by simpa using hLr
              obtain ⟨m1, p1, p2, hM1, m2, q1, hM2, fin⟩ := read_both hI hC hM hO hA ht hr hl (L := L) (by omega) hLr2 hf hall
              obtain ⟨m3, w1, hM3, w2⟩ := m_readNow hM2 hO (t := t) (by omega) hr hl
              have hcost : costN g r l ≤ 120 := costP_le (by have := hO.2.1 l hl; omega)
              have pr' := hO.2.2.1 r hr
              obtain ⟨m4, v1, v2, v3, v4⟩ := m_aloud_l (R := g 3) (r := r) (L := L) (l := l) (d := costN g r l) (by omega) (by omega) (by omega) (by omega) hcost (fun q => if q = r then g (31 + r) + costN g r l else g (31 + q)) (fun q => g (35 + q)) (g 3 + 1) 0 fu m3 (by rw [hM3 3 (by omega)]; exact congrArg nI ((if_neg (show ¬ 3 = 31 + r by omega)).trans (if_neg (show ¬ 3 = 39 + 4 * l + r by omega))))
                (fun q _ hq => by
                  have p' := hO.2.2.1 q hq
                  refine ⟨?_, ?_, ?_, p'.2.2.2.2⟩
                  · rw [hM3 (31 + q) (by omega)]
                    congr 1
                    by_cases e : q = r
                    · rw [e]
                      exact (if_pos rfl).trans (if_pos rfl).symm
                    · exact (if_neg (show ¬ 31 + q = 31 + r by omega)).trans ((if_neg (show ¬ 31 + q = 39 + 4 * l + r by omega)).trans (if_neg e).symm)
                  · rw [hM3 (35 + q) (by omega)]
                    exact congrArg nI ((if_neg (show ¬ 35 + q = 31 + r by omega)).trans (if_neg (show ¬ 35 + q = 39 + 4 * l + r by omega)))
                  · show (if q = r then g (31 + r) + costN g r l else g (31 + q)) < 3000
                    split <;> omega) (by omega) (by omega) (fu_ge (by omega))
              have hM4 : MO m4 (acG g r l L) := by
                intro j hj
                by_cases ha : 31 ≤ j ∧ j < 31 + g 3
                · obtain ⟨q, rfl⟩ : ∃ q, j = 31 + q := ⟨j - 31, by omega⟩
                  have hq : q < g 3 := by omega
                  rw [(v3 q (Nat.zero_le q) hq).1]
                  congr 1
                  by_cases e : q = r
                  · rw [e, hLr2, if_neg (by decide), if_pos rfl, acG_r]
                  · rw [acG_a hq (by omega) e, if_neg e]
                · by_cases hh : 35 ≤ j ∧ j < 35 + g 3
                  · obtain ⟨q, rfl⟩ : ∃ q, j = 35 + q := ⟨j - 35, by omega⟩
                    have hq : q < g 3 := by omega
                    rw [(v3 q (Nat.zero_le q) hq).2, acG_h hr hq (by omega)]
                  · rw [v4 j (fun q _ z => by omega), hM3 j hj]
                    congr 1
                    unfold acG
                    show (if j = 31 + r then g j + costN g r l else if j = 39 + 4 * l + r then g j + tmN g r l else g j) = _
                    rw [if_neg (c := 31 ≤ j ∧ j < 31 + g 3 ∧ hasB L (j - 31) = true) (fun z => ha ⟨z.1, z.2.1⟩), if_neg (c := 35 ≤ j ∧ j < 35 + g 3 ∧ hasB L (j - 35) = true) (fun z => hh ⟨z.1, z.2.1⟩)]
              have hs : sett (aliveB g) (g 3) < 16 := sett_small (aliveB g) (n := g 3) (m := 4) (by omega)
              have hsub : nI L &&& (nI (sett (aliveB g) (g 3)) ^^^ -nI 1) = nI 0 := sub_y L (by omega) _ hs fun q hq hb => by
                by_cases hq3 : q < g 3
                · rw [sett_bit _ _ _ hq3]
                  exact hall q hq3 hb
                · rw [hbit q hq (by omega)] at hb
                  cases hb
              refine ⟨nI (acG g r l L (31 + r)), m1, m4, ?_, ?_, fin m4 (fun q hq => by rw [v2 q hq, w2 q hq]) hM4⟩
              · simp (disch := omega) only [rfs, c_hasReader_y hC hO hr, c_hasLetter_y hC hO hl, c_hasReaders_y hC hO hN hL, c_inSet, c_fit hC hO hr, c_areAlive_y hC hO (L := L) (by omega) hall, cll_s, L32, ite10, b2_0, hLr, hf, if_true, if_false, Bool.false_eq_true, p1, al, p2]
              · have v1' := v1
                rw [hM4 (31 + r) (by omega)] at v1'
                simp (disch := omega) only [m_isReader_y hM1 hO hr, m_readers hM1, L64, shl_n, hN, hin, m_has, m_isLetter_y hM1 hO hl, m_fitR hM1 hO hr, m_alive hM1 hO, hsub, cll_s, L32, ite10, b2_0, hLr, hf, if_true, if_false, Bool.false_eq_true, q1, m_cost hM2 hO (t := t) (by omega) hr hl, w1, v1']
            · have hs : sett (aliveB g) (g 3) < 16 := sett_small (aliveB g) (n := g 3) (m := 4) (by omega)
              have hsub : ¬ nI L &&& (nI (sett (aliveB g) (g 3)) ^^^ -nI 1) = nI 0 := fun z => hall fun q hq hb => by
                have := sub_n L (by omega) _ hs z q (by omega) hb
                rw [sett_bit _ _ _ hq] at this
                exact this
              refine q_step hI (r := -nI 1000002) ?_ ?_
              · simp (disch := omega) only [rfs, c_hasReader_y hC hO hr, c_hasLetter_y hC hO hl, c_hasReaders_y hC hO hN hL, c_inSet, c_fit hC hO hr, c_areAlive_n hC hO (L := L) (by omega) hall, cll_s, L32, ite10, b2_0, hLr, hf, if_true, if_false, Bool.false_eq_true]
              · simp (disch := omega) only [m_isReader_y hM hO hr, m_readers hM, L64, shl_n, hN, hin, m_has, m_isLetter_y hM hO hl, m_fitR hM hO hr, m_alive hM hO, hsub, cll_s, L32, ite10, b2_0, hLr, hf, if_true, if_false, Bool.false_eq_true]
          · refine q_step hI (r := -nI 1000002) ?_ ?_
            · simp (disch := omega) only [rfs, c_hasReader_y hC hO hr, c_hasLetter_y hC hO hl, c_hasReaders_y hC hO hN hL, c_inSet, c_fit hC hO hr, cll_s, L32, ite10, b2_0, hLr, hf, if_false, Bool.false_eq_true]
            · simp (disch := omega) only [m_isReader_y hM hO hr, m_readers hM, L64, shl_n, hN, hin, m_has, m_isLetter_y hM hO hl, m_fitR hM hO hr, cll_s, L32, ite10, b2_0, hLr, hf, if_false, Bool.false_eq_true]
        · refine q_step hI (r := -nI 1000001) ?_ ?_
          · simp (disch := omega) only [rfs, c_hasReader_y hC hO hr, c_hasLetter_n hC hO hl, cll_s, L32, ite10, if_true]
          · simp (disch := omega) only [m_isReader_y hM hO hr, m_readers hM, L64, shl_n, hN, hin, m_has, m_isLetter_n hM hO hl, cll_s, L32, ite10, b2_0, hLr, if_true, if_false, Bool.false_eq_true]
    · refine q_step hI (r := -nI 1000001) ?_ ?_
      · rcases rng a3 (g 2) (by omega) with ⟨l, hl, rfl⟩ | hl
        · simp (disch := omega) only [rfs, c_hasReader_y hC hO hr, c_hasLetter_y hC hO hl, c_hasReaders_n hC hO hN hL, cll_s, L32, ite10, if_true]
        · simp (disch := omega) only [rfs, c_hasReader_y hC hO hr, c_hasLetter_n hC hO hl, cll_s, L32, ite10, if_true]
      · simp (disch := omega) only [m_isReader_y hM hO hr, m_readers hM, cll_s, L32, L64, shl_n, hN, m_in32, hNz, ite10]
        rw [b2_f (show ¬ (((0 : Nat) : Int) ≤ a2.toInt ∧ a2.toInt ≤ (N : Int) - 1) by omega), if_pos rfl]
  · refine q_step hI (r := -nI 1000001) ?_ ?_
    · simp only [rfs, c_hasReader_n hC hO hr, cll_s, L32, if_true]
    · simp only [m_isReader_n hM hO hr, cll_s, L32, if_true]
end RD4
