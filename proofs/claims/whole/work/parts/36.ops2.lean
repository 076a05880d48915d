/-! ===== PURE: best, kills, crossOut, late, count ===== -/
def LF (g : Nat → Nat) (l r : Nat) : Int32 := nI (g (27 + r)) - nI (g (31 + r)) - nI (costN g r l)
def bF (g : Nat → Nat) (l : Nat) : Nat → Int32 × Int32
  | 0 => (-nI 1000000, nI 0)
  | i + 1 => if fitB g i = true ∧ (bF g l i).2 < LF g l i then (nI i, LF g l i) else bF g l i
def oI (o : Option Nat) : Int32 := match o with
  | none => -nI 1000000
  | some k => nI k
theorem nI_ne {k : Nat} (h : k < 2 ^ 31) : ¬ nI k = -nI 1000000 := by
  intro e
  have := congrArg Int32.toInt e
  rw [nI_toInt h, show (-nI 1000000).toInt = -1000000 by decide] at this
  omega
section LK
variable {mem : Mem} {g : Nat → Nat} {t : Nat}
theorem c_best_l (hC : CO mem 7 g) (hO : OkG t g) (ht : t ≤ 600) {l : Nat} (hl : l < g 2) : ∀ (k i n : Nat), i ≤ g 3 → g 3 - i < k → k ≤ n → X2_bestReader_b9 51 7 n (nI l) (bF g l i).1 (bF g l i).2 (nI i) mem = some ((bF g l (g 3)).1, mem) := by
  have h2 := hO.1
  intro k
  induction k with
  | zero => intro i n h1 h2; omega
  | succ k ih =>
    intro i n h1 h3 h4
    obtain ⟨n, rfl, h5⟩ := succ_of h4
    rw [X2_bestReader_b9]
    by_cases hlt : i < g 3
    · have e := ih (i + 1) n (by omega) (by omega) (by omega)
      have h6 := hC.2.2.1 i hlt
      simp (disch := omega) only [hC.1.2.2.2.2, nI_ltI, hlt, if_true, rfs, al, h6, c_cost hC hO ht hlt hl, cll_s, c_fit hC hO hlt, L32, b2_0, X2_bestReader_b66, nI_add]
      rw [bF] at e
      by_cases hf : fitB g i = true
      · rw [if_pos hf]
        by_cases hm : (bF g l i).2 < LF g l i
        · rw [if_pos ⟨hf, hm⟩] at e
          exact (if_pos hm).trans e
        · rw [if_neg (fun z => hm z.2)] at e
          exact (if_neg hm).trans e
      · rw [if_neg hf]
        rw [if_neg (fun z => hf z.1)] at e
        exact e
    · have hE : i = g 3 := by omega
      simp (disch := omega) only [hC.1.2.2.2.2, nI_ltI, hlt, if_false]
      rw [hE]
theorem m_best_l (hM : MO mem g) (hO : OkG t g) (ht : t ≤ 600) {l : Nat} (hl : l < g 2) : ∀ (k i n : Nat), i ≤ g 3 → g 3 - i < k → k ≤ n → X7_best_b19 57 n (nI l) (bF g l i).1 (bF g l i).2 (nI i) mem = some ((bF g l (g 3)).1, mem) := by
  have h2 := hO.1
  intro k
  induction k with
  | zero => intro i n h1 h2; omega
  | succ k ih =>
    intro i n h1 h3 h4
    obtain ⟨n, rfl, h5⟩ := succ_of h4
    rw [X7_best_b19]
    by_cases hlt : i < g 3
    · have e := ih (i + 1) n (by omega) (by omega) (by omega)
      have h7 := m_span hM (r := i) (by omega)
      have h8 := m_age hM (r := i) (by omega)
      simp (disch := omega) only [m_readers hM, nI_ltI, hlt, if_true, h7, h8, m_cost hM hO ht hlt hl, cll_s, m_fitR hM hO hlt, L32, b2_0, X7_best_b70, X7_best_b71, X7_best_b84, X7_best_b96, ite10, nI_add]
      rw [bF] at e
      by_cases hf : fitB g i = true
      · rw [if_pos hf]
        by_cases hm : (bF g l i).2 < LF g l i
        · rw [if_pos ⟨hf, hm⟩] at e
          exact (if_pos hm).trans e
        · rw [if_neg (fun z => hm z.2)] at e
          exact (if_neg hm).trans e
      · rw [if_neg hf]
        rw [if_neg (fun z => hf z.1)] at e
        exact e
    · have hE : i = g 3 := by omega
      simp (disch := omega) only [m_readers hM, cll_s, nI_ltI, hlt, if_false]
      rw [hE]
theorem st_best : St_best Inv := by
  intro t mem a1 ht hI
  obtain ⟨g, hC, hM, hO, hG, hA, hR, hT, hF, hT2⟩ := id hI
  have h2 := hO.1
  unfold X6_best X7_best
  rcases rng a1 (g 2) (by omega) with ⟨l, hl, rfl⟩ | hl
  · have e1 := c_best_l hC hO (by omega) hl (g 3 + 1) 0 fu (by omega) (by omega) (fu_ge (by omega))
    have e2 := m_best_l hM hO (by omega) hl (g 3 + 1) 0 fu (by omega) (by omega) (fu_ge (by omega))
    refine q_step hI (r := (bF g l (g 3)).1) ?_ ?_
    · unfold X2_bestReader
      simp only [rfs, c_hasLetter_y hC hO hl, cll_s, L32, ite10]
      exact (congrArg (fun z => cll z _) e1).trans rfl
    · simp only [m_isLetter_y hM hO hl, cll_s, L32, ite10]
      exact e2
  · refine q_step hI (r := -nI 1000001) ?_ ?_
    · simp only [rfs, c_hasLetter_n hC hO hl, cll_s, L32, if_true]
    · simp only [m_isLetter_n hM hO hl, cll_s, L32, if_true]
def liveB (g : Nat → Nat) (r l : Nat) : Bool := decide (g (31 + r) + costN g r l < g (27 + r))
/-- KILLS among the first i letters -/
def kF (g : Nat → Nat) (r : Nat) : Nat → Option Nat
  | 0 => none
  | i + 1 => if liveB g r i = true then kF g r i else match kF g r i with
    | none => some i
    | some b => if g (11 + i) < g (11 + b) then some i else some b
theorem kF_lt (g : Nat → Nat) (r : Nat) : ∀ i b, kF g r i = some b → b < i
  | 0, b, h => by cases h
  | i + 1, b, h => by
    have ih := kF_lt g r i
    rw [kF] at h
    split at h
    · exact Nat.lt_succ_of_lt (ih b h)
    · split at h
      · cases h; omega
      · rename_i c hc
        have := ih c hc
        split at h <;> cases h <;> omega
def kP (g : Nat → Nat) (z : Nat) (o : Option Nat) : Int32 := match o with
  | none => nI z
  | some b => nI (g (11 + b))
theorem c_surv (hC : CO mem 7 g) (hO : OkG t g) {r l : Nat} (hr : r < g 3) (hl : l < g 2) : X3_survives 7 (nI r) (nI (costN g r l)) mem = some (b2 (liveB g r l = true), mem) := by
  have h4 := hO.2.1 l hl
  have h5 : costN g r l ≤ 120 := costP_le (by omega)
  rw [c_survives hC hO hr (by omega)]
  simp only [liveB, decide_eq_true_eq]
theorem c_kills_l (hC : CO mem 7 g) (hO : OkG t g) (ht : t ≤ 600) {r : Nat} (hr : r < g 3) : ∀ (k i n : Nat), i ≤ g 2 → g 2 - i < k → k ≤ n → X2_shortestDeadly_b9 51 7 n (nI r) (oI (kF g r i)) (kP g 0 (kF g r i)) (nI i) mem = some (oI (kF g r (g 2)), mem) := by
  have h2 := hO.1
  intro k
  induction k with
  | zero => intro i n h1 h2; omega
  | succ k ih =>
    intro i n h1 h3 h4
    obtain ⟨n, rfl, h5⟩ := succ_of h4
    rw [X2_shortestDeadly_b9]
    by_cases hlt : i < g 2
    · have e := ih (i + 1) n (by omega) (by omega) (by omega)
      have h6 := hC.2.1 i hlt
      have h7 := hO.2.1 i hlt
      simp (disch := omega) only [hC.1.2.2.2.1, nI_ltI, hlt, if_true, rfs, al, h6, c_cost hC hO ht hr hlt, cll_s, c_surv hC hO hr hlt, L32, b2_0, X2_shortestDeadly_b66, X2_shortestDeadly_b54, nI_add]
      rw [kF] at e
      by_cases hf : liveB g r i = true
      · rw [if_pos hf]
        rw [if_pos hf] at e
        exact e
      · rw [if_neg hf]
        rw [if_neg hf] at e
        cases ho : kF g r i with
        | none =>
          rw [ho] at e
          rw [show oI none = -nI 1000000 from rfl, if_pos rfl]
          exact e
        | some b =>
          have hb := kF_lt g r i b ho
          have h8 := hO.2.1 b (by omega)
          rw [ho] at e
          rw [show oI (some b) = nI b from rfl, if_neg (nI_ne (by omega)), show kP g 0 (some b) = nI (g (11 + b)) from rfl]
          simp (disch := omega) only [nI_ltI]
          by_cases hp : g (11 + i) < g (11 + b)
          · rw [if_pos hp]
            simp only [hp, if_true] at e
            exact e
          · rw [if_neg hp]
            simp only [hp, if_false] at e
            exact e
    · have hE : i = g 2 := by omega
      simp (disch := omega) only [hC.1.2.2.2.1, nI_ltI, hlt, if_false]
      rw [hE]
theorem m_kills_l (hM : MO mem g) (hO : OkG t g) (ht : t ≤ 600) {r : Nat} (hr : r < g 3) : ∀ (k i n : Nat), i ≤ g 2 → g 2 - i < k → k ≤ n → X7_kills_b31 57 n (nI r) (oI (kF g r i)) (kP g 1000000 (kF g r i)) (nI i) mem = some (oI (kF g r (g 2)), mem) := by
  have h2 := hO.1
  have h9 := hO.2.2.1 r hr
  intro k
  induction k with
  | zero => intro i n h1 h2; omega
  | succ k ih =>
    intro i n h1 h3 h4
    obtain ⟨n, rfl, h5⟩ := succ_of h4
    rw [X7_kills_b31]
    by_cases hlt : i < g 2
    · have e := ih (i + 1) n (by omega) (by omega) (by omega)
      have h7 := hO.2.1 i hlt
      have h10 : costN g r i ≤ 120 := costP_le (by omega)
      have h11 := m_age hM (r := r) (by omega)
      have h12 := m_span hM (r := r) (by omega)
      simp (disch := omega) only [m_letters hM, nI_ltI, hlt, if_true, rfs, h11, h12, m_cost hM hO ht hr hlt, cll_s, L32, nI_add, al, hM (11 + i), X7_kills_b79, X7_kills_b80, X7_kills_b93, X7_kills_b113, ite10]
      rw [kF] at e
      by_cases hf : liveB g r i = true
      · have hf2 := hf
        rw [if_pos hf] at e
        simp only [liveB, decide_eq_true_eq] at hf2
        rw [if_pos hf2]
        exact e
      · have hf2 := hf
        rw [if_neg hf] at e
        simp only [liveB, decide_eq_true_eq] at hf2
        rw [if_neg hf2]
        cases ho : kF g r i with
        | none =>
          rw [ho] at e
          rw [show kP g 1000000 none = nI 1000000 from rfl]
          simp (disch := omega) only [nI_ltI]
          rw [if_pos (by omega)]
          exact e
        | some b =>
          have hb := kF_lt g r i b ho
          have h8 := hO.2.1 b (by omega)
          rw [ho] at e
          rw [show kP g 1000000 (some b) = nI (g (11 + b)) from rfl]
          simp (disch := omega) only [nI_ltI]
          by_cases hp : g (11 + i) < g (11 + b)
          · rw [if_pos hp]
            simp only [hp, if_true] at e
            exact e
          · rw [if_neg hp]
            simp only [hp, if_false] at e
            exact e
    · have hE : i = g 2 := by omega
      simp (disch := omega) only [m_letters hM, cll_s, nI_ltI, hlt, if_false]
      rw [hE]
theorem st_kills : St_kills Inv := by
  intro t mem a1 ht hI
  obtain ⟨g, hC, hM, hO, hG, hA, hR, hT, hF, hT2⟩ := id hI
  have h2 := hO.1
  unfold X6_kills X7_kills
  rcases rng a1 (g 3) (by omega) with ⟨r, hr, rfl⟩ | hr
  · have e1 := c_kills_l hC hO (by omega) hr (g 2 + 1) 0 fu (by omega) (by omega) (fu_ge (by omega))
    have e2 := m_kills_l hM hO (by omega) hr (g 2 + 1) 0 fu (by omega) (by omega) (fu_ge (by omega))
    refine q_step hI (r := if aliveB g r = true then oI (kF g r (g 2)) else -nI 1000002) ?_ ?_
    · unfold X2_shortestDeadly
      have e3 : X2_shortestDeadly_b9 51 7 fu (nI r) (-nI 1000000) (nI 0) (nI 0) mem = some (oI (kF g r (g 2)), mem) := e1
      simp only [rfs, c_hasReader_y hC hO hr, c_alive hC hO hr, cll_s, L32, ite10, b2_0, e3, some_ite]
    · have e3 : X7_kills_b31 57 fu (nI r) (-nI 1000000) (nI 1000000) (nI 0) mem = some (oI (kF g r (g 2)), mem) := e2
      simp only [m_isReader_y hM hO hr, m_aliveR hM hO hr, cll_s, L32, ite10, b2_0, e3, some_ite]
  · refine q_step hI (r := -nI 1000001) ?_ ?_
    · simp only [rfs, c_hasReader_n hC hO hr, cll_s, L32, if_true]
    · simp only [m_isReader_n hM hO hr, cll_s, L32, if_true]
/-- the fewest pages to be crossed out, from n on -/
def crF (g : Nat → Nat) (r l : Nat) : Nat → Nat → Int32
  | 0, _ => -nI 1000000
  | k + 1, n => if g (31 + r) + costP g r l (g (11 + l) - n) < g (27 + r) then nI n else crF g r l k (n + 1)
theorem c_cross_l (hC : CO mem 7 g) (hO : OkG t g) (ht : t ≤ 600) {r l : Nat} (hr : r < g 3) (hl : l < g 2) : ∀ (k i n : Nat), i ≤ g (11 + l) → g (11 + l) - i < k → k ≤ n → X2_fewestToCross_b3 51 7 n (nI r) (nI l) (nI i) mem = some (crF g r l (g (11 + l) - i) i, mem) := by
  have h2 := hO.1
  have h6 := hC.2.1 l hl
  have h7 := hO.2.1 l hl
  intro k
  induction k with
  | zero => intro i n h1 h2; omega
  | succ k ih =>
    intro i n h1 h3 h4
    obtain ⟨n, rfl, h5⟩ := succ_of h4
    rw [X2_fewestToCross_b3]
    by_cases hlt : i < g (11 + l)
    · have e := ih (i + 1) n (by omega) (by omega) (by omega)
      have h8 : costP g r l (g (11 + l) - i) ≤ 120 := costP_le (by omega)
      have h9 := c_costP hC hO ht hr hl (p := g (11 + l) - i) (by omega)
      have h10 := c_survives hC hO hr (d := costP g r l (g (11 + l) - i)) (by omega)
      simp (disch := omega) only [nI_ltI, hlt, if_true, rfs, al, h6, pk_sub, h9, cll_s, h10, L32, b2_0, nI_add]
      obtain ⟨z, hz⟩ : ∃ z, g (11 + l) - i = z + 1 := ⟨g (11 + l) - i - 1, by omega⟩
      rw [show g (11 + l) - (i + 1) = z by omega] at e
      rw [show crF g r l (g (11 + l) - i) i = crF g r l (z + 1) i by rw [hz], crF]
      by_cases hp : g (31 + r) + costP g r l (g (11 + l) - i) < g (27 + r)
      · rw [if_pos hp, if_pos hp]
      · rw [if_neg hp, if_neg hp]
        exact e
    · have hE : g (11 + l) - i = 0 := by omega
      simp (disch := omega) only [nI_ltI, hlt, if_false, rfs, al, h6, L32]
      rw [hE]
      rfl
theorem m_cross_l (hM : MO mem g) (hO : OkG t g) (ht : t ≤ 600) {r l : Nat} (hr : r < g 3) (hl : l < g 2) : ∀ (k i n : Nat), i ≤ g (11 + l) → g (11 + l) - i < k → k ≤ n → X7_crossOut_b32 57 n (nI r) (nI l) (nI i) mem = some (crF g r l (g (11 + l) - i) i, mem) := by
  have h2 := hO.1
  have h7 := hO.2.1 l hl
  have h13 := hO.2.2.1 r hr
  have h11 := m_age hM (r := r) (by omega)
  have h12 := m_span hM (r := r) (by omega)
  intro k
  induction k with
  | zero => intro i n h1 h2; omega
  | succ k ih =>
    intro i n h1 h3 h4
    obtain ⟨n, rfl, h5⟩ := succ_of h4
    rw [X7_crossOut_b32]
    by_cases hlt : i < g (11 + l)
    · have e := ih (i + 1) n (by omega) (by omega) (by omega)
      have h8 : costP g r l (g (11 + l) - i) ≤ 120 := costP_le (by omega)
      have h9 := m_costP hM hO ht hr hl (p := g (11 + l) - i) (by omega)
      simp (disch := omega) only [nI_ltI, hlt, if_true, rfs, L32, nI_add, al, hM (11 + l), pk_sub, h9, cll_s, h11, h12]
      obtain ⟨z, hz⟩ : ∃ z, g (11 + l) - i = z + 1 := ⟨g (11 + l) - i - 1, by omega⟩
      rw [show g (11 + l) - (i + 1) = z by omega] at e
      rw [show crF g r l (g (11 + l) - i) i = crF g r l (z + 1) i by rw [hz], crF]
      by_cases hp : g (31 + r) + costP g r l (g (11 + l) - i) < g (27 + r)
      · rw [if_pos hp, if_pos hp]
      · rw [if_neg hp, if_neg hp]
        exact e
    · have hE : g (11 + l) - i = 0 := by omega
      simp (disch := omega) only [nI_ltI, hlt, if_false, rfs, L32, nI_add, al, hM (11 + l)]
      rw [hE]
      rfl
theorem st_crossOut : St_crossOut Inv := by
  intro t mem a1 a2 ht hI
  obtain ⟨g, hC, hM, hO, hG, hA, hR, hT, hF, hT2⟩ := id hI
  have h2 := hO.1
  unfold X6_crossOut X7_crossOut
  rcases rng a1 (g 3) (by omega) with ⟨r, hr, rfl⟩ | hr
  · rcases rng a2 (g 2) (by omega) with ⟨l, hl, rfl⟩ | hl
    · have h7 := hO.2.1 l hl
      have e1 : X2_fewestToCross_b3 51 7 fu (nI r) (nI l) (nI 0) mem = _ := c_cross_l hC hO (by omega) hr hl (g (11 + l) + 1) 0 fu (by omega) (by omega) (fu_ge (by omega))
      have e2 : X7_crossOut_b32 57 fu (nI r) (nI l) (nI 0) mem = _ := m_cross_l hM hO (by omega) hr hl (g (11 + l) + 1) 0 fu (by omega) (by omega) (fu_ge (by omega))
      refine q_step hI (r := if aliveB g r = true then crF g r l (g (11 + l) - 0) 0 else -nI 1000002) ?_ ?_
      · unfold X2_fewestToCross
        simp only [rfs, c_hasReader_y hC hO hr, c_hasLetter_y hC hO hl, c_alive hC hO hr, cll_s, L32, ite10, b2_0, e1, some_ite]
      · simp only [m_isReader_y hM hO hr, m_isLetter_y hM hO hl, m_aliveR hM hO hr, cll_s, L32, ite10, b2_0, e2, some_ite]
    · refine q_step hI (r := -nI 1000001) ?_ ?_
      · simp only [rfs, c_hasReader_y hC hO hr, c_hasLetter_n hC hO hl, cll_s, L32, ite10, if_true]
      · simp only [m_isReader_y hM hO hr, m_isLetter_n hM hO hl, cll_s, L32, ite10, if_true]
  · refine q_step hI (r := -nI 1000001) ?_ ?_
    · simp only [rfs, c_hasReader_n hC hO hr, cll_s, L32, if_true]
    · simp only [m_isReader_n hM hO hr, cll_s, L32, if_true]
-- late
theorem sett_tb (p : Nat → Bool) (n k : Nat) : (sett p n).testBit k = (decide (k < n) && p k) := by
  by_cases h : k < n
  · have e := sett_bit p n k h
    rw [Nat.testBit_eq_decide_div_mod_eq]
    unfold hasB at e
    rw [e]
    simp [h]
  · rw [Nat.testBit_lt_two_pow (Nat.lt_of_lt_of_le (sett_lt p n) (p2_le (by omega)))]
    simp [h]
theorem sett_and (p q : Nat → Bool) (n : Nat) : sett p n &&& sett q n = sett (fun i => q i && p i) n := by
  apply Nat.eq_of_testBit_eq
  intro k
  rw [Nat.testBit_and, sett_tb, sett_tb, sett_tb]
  cases decide (k < n) <;> cases p k <;> cases q k <;> rfl
theorem m_late_l (hM : MO mem g) (hO : OkG t g) (ht : t ≤ 600) {d : Nat} (hd : d ≤ 99) : ∀ (k i n : Nat), i ≤ g 2 → g 2 - i < k → k ≤ n → X7_late_b31 57 n (nI d) (nI (sett (dueB g (g 4 + d)) i)) (nI i) mem = some (nI (sett (fun l => unB g l && dueB g (g 4 + d) l) (g 2)), mem) := by
  have h2 := hO.1
  intro k
  induction k with
  | zero => intro i n h1 h2; omega
  | succ k ih =>
    intro i n h1 h3 h4
    obtain ⟨n, rfl, h5⟩ := succ_of h4
    rw [X7_late_b31]
    by_cases hlt : i < g 2
    · have e := ih (i + 1) n (by omega) (by omega) (by omega)
      have h7 := hO.2.1 i hlt
      simp (disch := omega) only [m_letters hM, cll_s, nI_ltI, hlt, if_true, rfs, L32, nI_add, al, hM (17 + i), hM 4, X7_late_b67, shl_n, or_n, Nat.or_zero]
      by_cases hp : dueB g (g 4 + d) i = true
      · rw [if_pos (by simpa [dueB] using hp), sett_or (dueB g (g 4 + d)) i hp]
        exact e
      · rw [if_neg (by simpa [dueB] using hp)]
        rw [sett_no (dueB g (g 4 + d)) i hp] at e
        exact e
    · have hE : i = g 2 := by omega
      simp (disch := omega) only [m_letters hM, cll_s, nI_ltI, hlt, if_false, m_unread hM hO ht, and_n]
      rw [hE]
      unfold unS
      rw [sett_and]
theorem st_late : St_late Inv := by
  intro t mem a1 ht hI
  obtain ⟨g, hC, hM, hO, hG, hA, hR, hT, hF, hT2⟩ := id hI
  have h2 := hO.1
  unfold X6_late X7_late
  by_cases h0 : g 0 = 0
  · refine q_step hI (r := -nI 1000002) ?_ ?_
    · simp (disch := omega) only [rfs, hC.1.1, L32, nI_eq, h0, if_true]
    · simp (disch := omega) only [rfs, L32, al, hM 0, nI_eq, h0, if_true]
  · rcases rng a1 100 (by omega) with ⟨d, hd, rfl⟩ | hd
    · have e2 : X7_late_b31 57 fu (nI d) (nI 0) (nI 0) mem = _ := m_late_l hM hO (by omega) (d := d) (by omega) (g 2 + 1) 0 fu (by omega) (by omega) (fu_ge (by omega))
      refine q_step hI (r := nI (sett (fun l => unB g l && dueB g (g 4 + d) l) (g 2))) ?_ ?_
      · have e3 := c_unreadDue hC hO (t := t) (by omega) (d := g 4 + d) (by omega)
        simp (disch := omega) only [rfs, hC.1.1, hC.1.2.2.1, L32, nI_eq, h0, if_false, nI_ltI, nI_add, e3, cll_s]
        rw [if_neg (by omega), if_neg (by omega)]
      · simp (disch := omega) only [rfs, L32, L64, al, hM 0, nI_eq, h0, if_false, m_in_y, cll_s, ite10, Nat.one_ne_zero, e2]
    · refine q_step hI (r := -nI 1000001) ?_ ?_
      · simp (disch := omega) only [rfs, hC.1.1, L32, nI_eq, h0, if_false, Int32.lt_iff_toInt_lt, nI_toInt]
        by_cases h : a1.toInt < (0 : Nat)
        · rw [if_pos h]
        · rw [if_neg h, if_pos (by omega)]
      · simp (disch := omega) only [rfs, L32, L64, al, hM 0, nI_eq, h0, if_false, m_in_n, cll_s, if_true]
end LK
