/-! ===== PURE: calls that only look ===== -/
theorem st_fault : St_fault Inv := by
  intro t mem ht hI
  obtain ⟨g, hC, hM, hO, hG, hA, hR, hT, hF, hT2⟩ := id hI
  refine q_step hI (r := mem 0 9) rfl ?_
  rw [hF.1]
  rfl
theorem st_status : St_status Inv := by
  intro t mem ht hI
  obtain ⟨g, hC, hM, hO, hG, hA, hR, hT, hF, hT2⟩ := id hI
  refine q_step hI (r := mem 0 10) rfl ?_
  rw [hF.2]
  rfl
theorem st_costs : St_costs Inv := by
  intro t mem a1 a2 ht hI
  obtain ⟨g, hC, hM, hO, hG, hA, hR, hT, hF, hT2⟩ := id hI
  have h2 := hO.1
  unfold X6_costs X7_costs
  rcases rng a1 (g 3) (by omega) with ⟨r, hr, rfl⟩ | hr
  · rcases rng a2 (g 2) (by omega) with ⟨l, hl, rfl⟩ | hl
    · refine q_step hI (r := nI (costN g r l)) ?_ ?_
      · simp only [rfs, c_hasReader_y hC hO hr, c_hasLetter_y hC hO hl, c_cost hC hO (t := t) (by omega) hr hl, cll_s, L32, ite10]
      · simp only [m_isReader_y hM hO hr, m_isLetter_y hM hO hl, m_cost hM hO (t := t) (by omega) hr hl, cll_s, L32, ite10]
    · refine q_step hI (r := -nI 1000001) ?_ ?_
      · simp only [rfs, c_hasReader_y hC hO hr, c_hasLetter_n hC hO hl, cll_s, L32, ite10, if_true]
      · simp only [m_isReader_y hM hO hr, m_isLetter_n hM hO hl, cll_s, L32, ite10, if_true]
  · refine q_step hI (r := -nI 1000001) ?_ ?_
    · simp only [rfs, c_hasReader_n hC hO hr, cll_s, L32, if_true]
    · simp only [m_isReader_n hM hO hr, cll_s, L32, if_true]
def readerV (g : Nat → Nat) (r : Nat) (w : Int32) : Int32 := if w = nI 0 then nI (g (31 + r)) else if w = nI 1 then nI (g (27 + r)) else if w = nI 2 then b2 (aliveB g r = true) else if w = nI 3 then b2 (fitB g r = true) else if w = nI 4 then nI (sett (fun l => readB g l r) (g 2)) else if w = nI 5 then nI (g (35 + r)) else -nI 1000001
theorem b2_back {p : Prop} [Decidable p] {m : Mem} : (if p then some (nI 1, m) else some (nI 0, m)) = some (b2 p, m) := b2_some
theorem st_reader : St_reader Inv := by
  intro t mem a1 a2 ht hI
  obtain ⟨g, hC, hM, hO, hG, hA, hR, hT, hF, hT2⟩ := id hI
  have h2 := hO.1
  unfold X6_reader X7_reader
  rcases rng a1 (g 3) (by omega) with ⟨r, hr, rfl⟩ | hr
  · have h3 := hC.2.2.1 r hr
    refine q_step hI (r := readerV g r a2) ?_ ?_
    · simp (disch := omega) only [rfs, c_hasReader_y hC hO hr, cll_s, L32, ite10, al, h3, c_alive hC hO hr, c_fit hC hO hr, b2_0, c_lettersReadBy hC hO (t := t) (by omega) hr, b2_some, some_ite]
      rfl
    · simp (disch := omega) only [rfs, m_isReader_y hM hO hr, cll_s, L32, ite10, m_age hM (r := r), m_span hM (r := r), m_aliveR hM hO hr, m_fitR hM hO hr, b2_0, m_hasRead hM hO (t := t) (by omega) hr, nI_add, al, hM (35 + r), b2_some, some_ite]
      rfl
  · refine q_step hI (r := -nI 1000001) ?_ ?_
    · simp only [rfs, c_hasReader_n hC hO hr, cll_s, L32, if_true]
    · simp only [m_isReader_n hM hO hr, cll_s, L32, if_true]
theorem ne_out {a : Int32} {n k : Nat} (h : ¬ (0 ≤ a.toInt ∧ a.toInt < n)) (hk : k < n) (hn : n < 2 ^ 31) : ¬ a = nI k := by
  intro e
  subst e
  exact h (in_n hk hn)
theorem m_in_y {w a b : Nat} (h : a ≤ w ∧ w ≤ b) (hb : b < 2 ^ 31) (mem : Mem) : X7_in (nI w).toInt64 (lN a) (lN b) mem = some (nI 1, mem) := by
  rw [m_inc _ _ _ (by omega) hb, b2_t]
  rw [nI_toInt (by omega)]
  omega
theorem m_in_n {x : Int32} {a b : Nat} (h : ¬ ((a : Int) ≤ x.toInt ∧ x.toInt ≤ (b : Int))) (ha : a < 2 ^ 31) (hb : b < 2 ^ 31) (mem : Mem) : X7_in x.toInt64 (lN a) (lN b) mem = some (nI 0, mem) := by
  rw [m_inc _ _ _ ha hb, b2_f h]
theorem c_isChoice_y {w : Nat} (h : w < 2) (mem : Mem) : X6_isChoice (nI w) mem = some (nI 1, mem) := by
  unfold X6_isChoice X6_isChoice_b9
  rcases (show w = 0 ∨ w = 1 by omega) with rfl | rfl
  · simp only [L32, if_true, chk_1]
  · simp only [L32, if_true, chk_1, ite10]
theorem c_isChoice_n {a : Int32} (h : ¬ (0 ≤ a.toInt ∧ a.toInt < (2 : Nat))) (mem : Mem) : X6_isChoice a mem = some (nI 0, mem) := by
  unfold X6_isChoice
  simp only [L32, ne_out h (k := 0) (by decide) (by decide), ne_out h (k := 1) (by decide) (by decide), if_false, chk_0]
theorem st_letter : St_letter Inv := by
  intro t mem a1 a2 ht hI
  obtain ⟨g, hC, hM, hO, hG, hA, hR, hT, hF, hT2⟩ := id hI
  have h2 := hO.1
  unfold X6_letter X7_letter
  rcases rng a1 (g 2) (by omega) with ⟨l, hl, rfl⟩ | hl
  · have h3 := hC.2.1 l hl
    rcases rng a2 4 (by omega) with ⟨w, hw, rfl⟩ | hw
    · refine q_step hI (r := if w = 0 then nI (g (11 + l)) else if w = 1 then nI (g (17 + l)) else if w = 2 then nI (readOfN g l) else nI (someB g l)) ?_ ?_
      · rcases (show w = 0 ∨ w = 1 ∨ w = 2 ∨ w = 3 by omega) with rfl | rfl | rfl | rfl <;> simp (disch := omega) only [rfs, c_hasLetter_y hC hO hl, cll_s, L32, ite10, al, h3, c_timesRead hC hO hl, c_readersOf hC hO (t := t) (by omega) hl, nI_eq, Nat.reduceEqDiff, if_true, if_false]
        all_goals rfl
      · have h9 := m_whoRead hM hO (t := t) (by omega) hl
        rcases (show w = 0 ∨ w = 1 ∨ w = 2 ∨ w = 3 by omega) with rfl | rfl | rfl | rfl <;> simp (disch := omega) only [rfs, m_isLetter_y hM hO hl, cll_s, L32, L64, m_in_y, ite10, nI_add, al, hM (11 + l), hM (17 + l), m_readOf hM hO hl, h9, nI_eq, Nat.reduceEqDiff, if_true, if_false]
        all_goals rfl
    · refine q_step hI (r := -nI 1000001) ?_ ?_
      · simp only [rfs, c_hasLetter_y hC hO hl, cll_s, L32, ite10, ne_out hw (k := 0) (by decide) (by decide), ne_out hw (k := 1) (by decide) (by decide), ne_out hw (k := 2) (by decide) (by decide), ne_out hw (k := 3) (by decide) (by decide), if_false]
      · simp (disch := omega) only [m_isLetter_y hM hO hl, cll_s, L32, L64, m_in_n, ite10, if_true]
  · refine q_step hI (r := -nI 1000001) ?_ ?_
    · simp only [rfs, c_hasLetter_n hC hO hl, cll_s, L32, if_true]
    · simp only [m_isLetter_n hM hO hl, cll_s, L32, if_true]
theorem st_kind : St_kind Inv := by
  intro t mem a1 ht hI
  obtain ⟨g, hC, hM, hO, hG, hA, hR, hT, hF, hT2⟩ := id hI
  have h2 := hO.1
  unfold X6_kind X7_kind
  rcases rng a1 (g 2) (by omega) with ⟨l, hl, rfl⟩ | hl
  · have h3 := hC.2.1 l hl
    refine q_step hI (r := nI (g (5 + l))) ?_ ?_
    · simp (disch := omega) only [rfs, c_hasLetter_y hC hO hl, cll_s, L32, ite10, al, h3]
    · simp (disch := omega) only [m_isLetter_y hM hO hl, cll_s, L32, ite10, m_sort hM]
  · refine q_step hI (r := -nI 1000001) ?_ ?_
    · simp only [rfs, c_hasLetter_n hC hO hl, cll_s, L32, if_true]
    · simp only [m_isLetter_n hM hO hl, cll_s, L32, if_true]
theorem st_dies : St_dies Inv := by
  intro t mem a1 ht hI
  obtain ⟨g, hC, hM, hO, hG, hA, hR, hT, hF, hT2⟩ := id hI
  have h2 := hO.1
  unfold X6_dies X7_dies
  rcases rng a1 (g 3) (by omega) with ⟨r, hr, rfl⟩ | hr
  · have h3 := hC.2.2.1 r hr
    have h5 := hO.2.2.1 r hr
    refine q_step hI (r := if aliveB g r = true then nI (g 4 + g (27 + r)) - nI (g (31 + r)) else -nI 1000000) ?_ ?_
    · simp (disch := omega) only [rfs, c_hasReader_y hC hO hr, c_alive hC hO hr, cll_s, L32, ite10, b2_0, al, h3, hC.1.2.2.1, nI_add, some_ite]
    · simp (disch := omega) only [rfs, m_isReader_y hM hO hr, m_aliveR hM hO hr, cll_s, L32, ite10, b2_0, al, hM 4, m_span hM, m_age hM, nI_add, some_ite]
  · refine q_step hI (r := -nI 1000001) ?_ ?_
    · simp only [rfs, c_hasReader_n hC hO hr, cll_s, L32, if_true]
    · simp only [m_isReader_n hM hO hr, cll_s, L32, if_true]
theorem st_trace : St_trace Inv := by
  intro t mem a1 ht hI
  obtain ⟨g, hC, hM, hO, hG, hA, hR, hT, hF, hT2⟩ := id hI
  obtain ⟨n, hn, e1, e2, e3⟩ := hT2
  have e4 : (nI n - nI 1).toInt = (n : Int) - 1 := pk_sub_toInt (by omega) (by omega)
  unfold X6_trace X7_trace
  rcases rng a1 n (by omega) with ⟨i, hi, rfl⟩ | hi
  · refine q_step hI (r := mem 56 i) ?_ ?_
    · simp (disch := omega) only [rfs, L32, e1, nI_ltI, Nat.not_lt_zero, if_false, hi, if_true, al]
    · rw [e3 i hi]
      simp (disch := omega) only [rfs, L32, L64, e2, m_in32, cll_s, e4, nI_toInt, b2_0, al]
      rw [if_pos (by omega)]
  · refine q_step hI (r := -nI 1000000) ?_ ?_
    · simp (disch := omega) only [rfs, L32, e1, Int32.lt_iff_toInt_lt, nI_toInt]
      by_cases h : a1.toInt < (0 : Nat)
      · rw [if_pos h]
      · rw [if_neg h, if_neg (by omega)]
    · simp (disch := omega) only [rfs, L32, L64, e2, m_in32, cll_s, e4, b2_0]
      rw [if_neg (by omega)]
