/-! ===== PURE: day ===== -/
section AC4
variable {mem : Mem} {g : Nat → Nat} {t : Nat}
def dyG (g : Nat → Nat) : Nat → Nat := fun j => if j = 4 then g 4 + 1 else if 31 ≤ j ∧ j < 31 + g 3 then g j + 1 else g j
theorem c_move_l {R : Nat} (hR : R ≤ 4) (d : Int32) : ∀ (k i n : Nat) (mem : Mem), mem 7 7 = nI R → i ≤ R → R - i < k → k ≤ n → ∃ m', X0_moveDay_b12 7 n d (nI i) mem = some ((), m') ∧ (∀ q, q ≠ 12 → m' q = mem q) ∧ ∀ r, m' 12 r = if i ≤ r ∧ r < R then mem 12 r + d else mem 12 r := by
  intro k
  induction k with
  | zero => intro i n mem h0 h1 h2; omega
  | succ k ih =>
    intro i n mem h0 h1 h3 h4
    obtain ⟨n, rfl, h5⟩ := succ_of h4
    rw [X0_moveDay_b12]
    by_cases hlt : i < R
    · obtain ⟨m', e1, e2, e3⟩ := ih (i + 1) n (st2 mem 12 i (mem 12 i + d)) (by rw [st2_k (by omega), h0]) (by omega) (by omega) (by omega)
      refine ⟨m', ?_, fun q hq => by rw [e2 q hq, st2_k hq], fun r => ?_⟩
      · simp (disch := omega) only [rfs, L32, h0, nI_ltI, hlt, if_true, al, as_, nI_add]
        exact e1
      · rw [e3 r, st2_at]
        by_cases h6 : r = i
        · rw [if_neg (show ¬ (i + 1 ≤ r ∧ r < R) by omega), if_pos ⟨rfl, h6⟩, if_pos (show i ≤ r ∧ r < R by omega), h6]
        · rw [if_neg (show ¬ (12 = 12 ∧ r = i) by omega)]
          by_cases h7 : i ≤ r ∧ r < R
          · rw [if_pos h7, if_pos (show i + 1 ≤ r ∧ r < R by omega)]
          · rw [if_neg h7, if_neg (show ¬ (i + 1 ≤ r ∧ r < R) by omega)]
    · refine ⟨mem, ?_, fun _ _ => rfl, fun r => by rw [if_neg (show ¬ (i ≤ r ∧ r < R) by omega)]⟩
      simp (disch := omega) only [h0, nI_ltI, hlt, if_false]
theorem m_day_l {R : Nat} (hR : R ≤ 4) : ∀ (k i n : Nat) (mem : Mem), mem 62 3 = nI R → i ≤ R → R - i < k → k ≤ n → ∃ m', X7_day_b43 57 n (nI i) mem = some (mem 62 4, m') ∧ (∀ q, q ≠ 62 → m' q = mem q) ∧ ∀ j, m' 62 j = if 31 + i ≤ j ∧ j < 31 + R then mem 62 j + nI 1 else mem 62 j := by
  intro k
  induction k with
  | zero => intro i n mem h0 h1 h2; omega
  | succ k ih =>
    intro i n mem h0 h1 h3 h4
    obtain ⟨n, rfl, h5⟩ := succ_of h4
    rw [X7_day_b43]
    unfold X7_readers
    by_cases hlt : i < R
    · obtain ⟨m', e1, e2, e3⟩ := ih (i + 1) n (st2 mem 62 (31 + i) (mem 62 (31 + i) + nI 1)) (by rw [st2_i (by omega), h0]) (by omega) (by omega) (by omega)
      refine ⟨m', ?_, fun q hq => by rw [e2 q hq, st2_k hq], fun r => ?_⟩
      · rw [st2_i (by omega)] at e1
        simp (disch := omega) only [rfs, L32, al, h0, cll_s, nI_ltI, hlt, if_true, as_, nI_add]
        exact e1
      · rw [e3 r, st2_at]
        by_cases h6 : r = 31 + i
        · rw [if_neg (show ¬ (31 + (i + 1) ≤ r ∧ r < 31 + R) by omega), if_pos ⟨rfl, h6⟩, if_pos (show 31 + i ≤ r ∧ r < 31 + R by omega), h6]
        · rw [if_neg (show ¬ (62 = 62 ∧ r = 31 + i) by omega)]
          by_cases h7 : 31 + i ≤ r ∧ r < 31 + R
          · rw [if_pos h7, if_pos (show 31 + (i + 1) ≤ r ∧ r < 31 + R by omega)]
          · rw [if_neg h7, if_neg (show ¬ (31 + (i + 1) ≤ r ∧ r < 31 + R) by omega)]
    · refine ⟨mem, ?_, fun _ _ => rfl, fun r => by rw [if_neg (show ¬ (31 + i ≤ r ∧ r < 31 + R) by omega)]⟩
      simp (disch := omega) only [rfs, L32, al, h0, cll_s, nI_ltI, hlt, if_false]
theorem dyG_o {j : Nat} (h4 : j ≠ 4) (h : ¬ (31 ≤ j ∧ j < 31 + g 3)) : dyG g j = g j := by
  unfold dyG
  rw [if_neg h4, if_neg h]
theorem dyG_a {r : Nat} (h : r < g 3) : dyG g (31 + r) = g (31 + r) + 1 := by
  unfold dyG
  rw [if_neg (show ¬ 31 + r = 4 by omega), if_pos (show 31 ≤ 31 + r ∧ 31 + r < 31 + g 3 by omega)]
theorem OkG.day (hO : OkG t g) (h4 : g 4 < 999) : OkG (t + 1) (dyG g) := by
  have h2 := hO.1
  have ee : ∀ j, j ≠ 4 → (j < 31 ∨ 35 ≤ j) → dyG g j = g j := fun j hj hj2 => dyG_o hj (by omega)
  have e4 : dyG g 4 = g 4 + 1 := if_pos rfl
  refine ⟨?_, fun x hx => ?_, fun r hr => ?_, fun r x hr hx => ?_⟩
  · rw [ee 0 (by omega) (by omega), ee 1 (by omega) (by omega), ee 2 (by omega) (by omega), ee 3 (by omega) (by omega), e4]
    omega
  · rw [ee 2 (by omega) (by omega)] at hx
    rw [ee _ (by omega) (by omega), ee _ (by omega) (by omega), ee _ (by omega) (by omega)]
    exact hO.2.1 x hx
  · rw [ee 3 (by omega) (by omega)] at hr
    have p := hO.2.2.1 r hr
    rw [ee _ (by omega) (by omega), ee _ (by omega) (by omega), ee (35 + r) (by omega) (by omega), e4, dyG_a hr]
    omega
  · rw [ee 2 (by omega) (by omega)] at hx
    rw [ee 3 (by omega) (by omega)] at hr
    rw [ee _ (by omega) (by omega)]
    exact Nat.le_succ_of_le (hO.2.2.2 r x hr hx)
theorem st_day : St_day Inv := by
  intro t mem ht hI
  obtain ⟨g, hC, hM, hO, hG, hA, hR, hT, hF, hT2⟩ := id hI
  have h2 := hO.1
  have c0 := hC.1.1
  have c2 := hC.1.2.2.1
  have c7 := hC.1.2.2.2.2
  have ee : ∀ j, j ≠ 4 → (j < 31 ∨ 35 ≤ j) → dyG g j = g j := fun j hj hj2 => dyG_o hj (by omega)
  have e4 : dyG g 4 = g 4 + 1 := if_pos rfl
  unfold X6_day X7_day
  by_cases hst : g 0 = 0
  · refine q_step hI (r := -nI 1000002) ?_ ?_
    · simp (disch := omega) only [rfs, L32, c0, nI_eq, hst, if_true]
    · simp (disch := omega) only [rfs, L32, al, hM 0, nI_eq, hst, if_true]
  · by_cases hlt : g 4 < 999
    · obtain ⟨K, nx, S, hK, hnx, k8, k13, k7, hS, h6⟩ := hA
      obtain ⟨m0, r1, r2, r3⟩ := c_move_l (R := g 3) (by omega) (nI 1) (g 3 + 1) 0 fu (st2 mem 7 2 (nI (g 4 + 1))) (by rw [st2_i (by omega), c7]) (by omega) (by omega) (fu_ge (by omega))
      have f0 : ∀ q, q ≠ 7 → q ≠ 12 → m0 q = mem q := fun q z1 z2 => by rw [r2 q z2, st2_k z1]
      obtain ⟨m1, p1, p2, p3, p4, p5, p6, p7, p8⟩ := c_keep (mem := m0) hK hnx (by rw [f0 43 (by omega) (by omega), k7]) (by rw [f0 43 (by omega) (by omega), k8]) (nI 2) (nI 0) (nI 1)
      have f1 : ∀ q, q ≠ 7 → q ≠ 12 → q ≠ 43 → q ≠ 44 → q ≠ 46 → q ≠ 47 → m1 q = mem q := fun q z0 z1 z2 z3 z4 z5 => by rw [p2 q z2 z3 z4 z5, f0 q z0 z1]
      have a7 : ∀ j, m1 7 j = st2 mem 7 2 (nI (g 4 + 1)) 7 j := fun j => by rw [p2 7 (by omega) (by omega) (by omega) (by omega), r2 7 (by omega)]
      have a12 : ∀ r, r < g 3 → m1 12 r = nI (g (31 + r) + 1) := fun r hr => by
        have p := hC.2.2.1 r hr
        have p' := hO.2.2.1 r hr
        rw [p2 12 (by omega) (by omega) (by omega) (by omega), r3 r, if_pos (show 0 ≤ r ∧ r < g 3 by omega), st2_k (by omega), show mem 12 r = nI (g (31 + r)) from p.2.1, nI_add]
      have hC1 : CO m1 7 (dyG g) := by
        refine ⟨?_, fun x hx => ?_, fun r hr => ?_, fun r x hr hx => ?_⟩
        · rw [a7, a7, a7, a7, a7, st2_i (by omega), st2_i (by omega), st2_s, st2_i (by omega), st2_i (by omega), ee 0 (by omega) (by omega), ee 1 (by omega) (by omega), ee 2 (by omega) (by omega), ee 3 (by omega) (by omega), e4]
          exact ⟨hC.1.1, hC.1.2.1, rfl, hC.1.2.2.2.1, hC.1.2.2.2.2⟩
        · rw [ee 2 (by omega) (by omega)] at hx
          rw [f1 8 (by omega) (by omega) (by omega) (by omega) (by omega) (by omega), f1 9 (by omega) (by omega) (by omega) (by omega) (by omega) (by omega), f1 10 (by omega) (by omega) (by omega) (by omega) (by omega) (by omega), ee _ (by omega) (by omega), ee _ (by omega) (by omega), ee _ (by omega) (by omega)]
          exact hC.2.1 x hx
        · rw [ee 3 (by omega) (by omega)] at hr
          have p := hC.2.2.1 r hr
          rw [f1 11 (by omega) (by omega) (by omega) (by omega) (by omega) (by omega), f1 13 (by omega) (by omega) (by omega) (by omega) (by omega) (by omega), f1 14 (by omega) (by omega) (by omega) (by omega) (by omega) (by omega), ee (23 + r) (by omega) (by omega), ee (27 + r) (by omega) (by omega), ee (35 + r) (by omega) (by omega), dyG_a hr]
          exact ⟨p.1, a12 r hr, p.2.2⟩
        · rw [ee 2 (by omega) (by omega)] at hx
          rw [ee 3 (by omega) (by omega)] at hr
          rw [f1 15 (by omega) (by omega) (by omega) (by omega) (by omega) (by omega), ee _ (by omega) (by omega)]
          exact hC.2.2.2 r x hr hx
      have hM1 : MO m1 g := hM.fr (f1 62 (by omega) (by omega) (by omega) (by omega) (by omega) (by omega))
      obtain ⟨m2, q1, q2, q3, q4, q5, q6⟩ := m_remember hM1 hK (by rw [f1 57 (by omega) (by omega) (by omega) (by omega) (by omega) (by omega), k13])
      have hM2 : MO m2 g := hM1.fr (q2 62 (by omega) (by omega))
      obtain ⟨m3, w1, w2, w3⟩ := m_day_l (R := g 3) (by omega) (g 3 + 1) 0 fu (st2 m2 62 4 (nI (g 4 + 1))) (by rw [st2_i (by omega), hM2 3 (by omega)]) (by omega) (by omega) (fu_ge (by omega))
      have hf : ∀ q, q ≠ 62 → m3 q = m2 q := fun q hq => by rw [w2 q hq, st2_k hq]
      have hM3 : MO m3 (dyG g) := by
        intro j hj
        rw [w3 j]
        by_cases e : j = 4
        · rw [e, if_neg (show ¬ (31 + 0 ≤ 4 ∧ 4 < 31 + g 3) by omega), st2_s, e4]
        · rw [st2_i e]
          by_cases h : 31 ≤ j ∧ j < 31 + g 3
          · have h5 := hO.2.2.1 (j - 31) (by omega)
            rw [show 31 + (j - 31) = j by omega] at h5
            rw [if_pos (show 31 + 0 ≤ j ∧ j < 31 + g 3 by omega), hM2 j hj, nI_add]
            unfold dyG
            rw [if_neg e, if_pos h]
          · rw [if_neg (show ¬ (31 + 0 ≤ j ∧ j < 31 + g 3) by omega), hM2 j hj, dyG_o e h]
      have hd : ¬ nI (g 4) = nI 999 := nI_neN (by omega) (by omega) (by omega)
      refine ⟨nI (g 4 + 1), m1, m3, ?_, ?_, ?_⟩
      · have e7 : m1 7 2 = nI (g 4 + 1) := by rw [a7, st2_s]
        simp (disch := omega) only [rfs, L32, c0, c2, nI_eq, hst, if_false, nI_ltI, hlt, if_true, X0_letDayGo, X0_moveDay, nI_add, r1, cll_s, p1, e7]
      · rw [st2_s] at w1
        simp (disch := omega) only [rfs, L32, al, hM1 0, hM1 4, nI_eq, hst, if_false, q1, cll_s, hM2 4, nI_add, as_, w1]
        rw [if_neg (show ¬ g 4 = 999 by omega)]
      · refine hI.act (g' := dyG g) (fun q z1 z2 z3 z4 z5 => ?_) (fun j hj => ?_) (hC1.fr fun q z1 z2 => ?_) hM3 (hO.day hlt) (ACT.mono (ACT.push hK hnx hS hO h6 ?_ ?_ ?_ (fun q c z1 z2 z3 => ?_) (fun i j z1 z2 => ?_) (fun j z => ?_) ?_))
        · rw [hf q z3, q2 q z4 z5, f1 q (by omega) (by omega) (by omega) (by omega) (by omega) (by omega)]
        · rw [hf 57 (by omega), q3 j hj, f1 57 (by omega) (by omega) (by omega) (by omega) (by omega) (by omega)]
        · rw [hf q (by omega), q2 q (by omega) (by omega)]
        · rw [hf 43 (by omega), q2 43 (by omega) (by omega), p4]
        · rw [hf 57 (by omega), q4]
        · rw [hf 43 (by omega), q2 43 (by omega) (by omega), p3]
        · rw [hf q (by omega), q2 q (by omega) (by omega), p8 q c (by omega) z3, f0 q (by omega) (by omega)]
        · rw [hf 65 (by omega), q5 i j z1 z2, f1 65 (by omega) (by omega) (by omega) (by omega) (by omega) (by omega)]
        · rw [hf 65 (by omega), q6 j z]
        · refine Or.inl ⟨?_, fun r hr => ?_, e4.symm, fun j _ hj hj2 => ?_⟩
          · rw [hf 44 (by omega), q2 44 (by omega) (by omega), p5]
          · rw [ee 3 (by omega) (by omega)] at hr
            rw [dyG_a hr]
          · rw [ee 3 (by omega) (by omega)] at hj2
            refine (dyG_o hj fun z => hj2 (j - 31) (by omega) (by omega)).symm
    · have h999 : g 4 = 999 := by omega
      refine q_step hI (r := -nI 1000003) ?_ ?_
      · simp (disch := omega) only [rfs, L32, c0, c2, nI_eq, hst, if_false, nI_ltI, hlt]
      · simp (disch := omega) only [rfs, L32, al, hM 0, hM 4, nI_eq, hst, if_false, h999, if_true]
end AC4
