/-! ===== PURE: costs; the loops over readers and letters, on both sides ===== -/
theorem succ_of {k n : Nat} (h : k + 1 ≤ n) : ∃ z, n = z + 1 ∧ k ≤ z := ⟨n - 1, by omega, by omega⟩
theorem fu_ge {n : Nat} (h : n ≤ 5000) : n ≤ fu := h
section CST
variable {mem : Mem} {g : Nat → Nat} {t : Nat}
theorem tl_ix {r l : Nat} : r * 6 + l = r * 6 + l := rfl
theorem c_hasRead (hC : CO mem 7 g) (hO : OkG t g) (ht : t ≤ 600) {r l : Nat} (hr : r < g 3) (hl : l < g 2) : X3_hasRead 7 (nI r) (nI l) mem = some (b2 (0 < g (39 + 4 * l + r)), mem) := by
  have h2 := hO.1
  have h3 := hC.2.2.2 r l hr hl
  have h4 := hO.2.2.2 r l hr hl
  unfold X3_hasRead
  simp (disch := omega) only [rfs, L32, pk_mul, nI_add, al, h3, nI_ltI, chk_1, chk_0, b2_some]
theorem c_costP (hC : CO mem 7 g) (hO : OkG t g) (ht : t ≤ 600) {r l p : Nat} (hr : r < g 3) (hl : l < g 2) (hp : p ≤ 40) : X3_costFor_ 7 (nI r) (nI l) (nI p) mem = some (nI (costP g r l p), mem) := by
  have h2 := hO.1
  have h3 := hC.2.1 l hl
  have h4 := hO.2.1 l hl
  have h5 := fcN_le (k := g (5 + l)) hp
  unfold X3_costFor_
  simp (disch := omega) only [rfs, al, h3, c_costOfPages, cll_s, c_hasRead hC hO ht hr hl, L32, b2_0, c_halfUp]
  unfold costP
  by_cases h : 0 < g (39 + 4 * l + r)
  · rw [if_pos h, if_pos h]
  · rw [if_neg h, if_neg h]
theorem c_cost (hC : CO mem 7 g) (hO : OkG t g) (ht : t ≤ 600) {r l : Nat} (hr : r < g 3) (hl : l < g 2) : X3_costFor 7 (nI r) (nI l) mem = some (nI (costN g r l), mem) := by
  have h2 := hO.1
  have h3 := hC.2.1 l hl
  have h4 := hO.2.1 l hl
  unfold X3_costFor
  simp (disch := omega) only [rfs, al, h3, c_costP hC hO ht hr hl, cll_s, costN]
theorem c_firstCost (hC : CO mem 7 g) (hO : OkG t g) {l : Nat} (hl : l < g 2) : X3_firstCost 7 (nI l) mem = some (nI (fcN (g (5 + l)) (g (11 + l))), mem) := by
  have h2 := hO.1
  have h3 := hC.2.1 l hl
  have h4 := hO.2.1 l hl
  unfold X3_firstCost
  simp (disch := omega) only [rfs, al, h3, c_costOfPages, cll_s]
theorem c_survives (hC : CO mem 7 g) (hO : OkG t g) {r d : Nat} (hr : r < g 3) (hd : d ≤ 100000) : X3_survives 7 (nI r) (nI d) mem = some (b2 (g (31 + r) + d < g (27 + r)), mem) := by
  have h1 := hO.2.2.1 r hr
  have h2 := hO.1
  have h3 := hC.2.2.1 r hr
  unfold X3_survives
  simp (disch := omega) only [rfs, al, h3, L32, nI_add, nI_ltI, chk_1, chk_0, b2_some]
theorem m_sort (hM : MO mem g) {l : Nat} (hl : l < 6) : X7_sort 57 (nI l) mem = some (nI (g (5 + l)), mem) := by
  unfold X7_sort
  simp (disch := omega) only [rfs, L32, nI_add, al, hM (5 + l)]
theorem m_age (hM : MO mem g) {r : Nat} (hr : r < 4) : X7_age 57 (nI r) mem = some (nI (g (31 + r)), mem) := by
  unfold X7_age
  simp (disch := omega) only [rfs, L32, nI_add, al, hM (31 + r)]
theorem m_span (hM : MO mem g) {r : Nat} (hr : r < 4) : X7_span 57 (nI r) mem = some (nI (g (27 + r)), mem) := by
  unfold X7_span
  simp (disch := omega) only [rfs, L32, nI_add, al, hM (27 + r)]
theorem m_readBy (hM : MO mem g) {l r : Nat} (hl : l < 6) (hr : r < 4) : X7_readBy 57 (nI l) (nI r) mem = some (nI (g (39 + 4 * l + r)), mem) := by
  unfold X7_readBy
  simp (disch := omega) only [rfs, L32, pk_mul, nI_add, al, hM (39 + 4 * l + r)]
theorem m_costP (hM : MO mem g) (hO : OkG t g) (ht : t ≤ 600) {r l p : Nat} (hr : r < g 3) (hl : l < g 2) (hp : p ≤ 40) : X7_costBy 57 (nI r) (nI l) (nI p) mem = some (nI (costP g r l p), mem) := by
  have h2 := hO.1
  have h4 := hO.2.1 l hl
  have h6 := hO.2.2.2 r l hr hl
  have h5 := fcN_le (k := g (5 + l)) hp
  unfold X7_costBy
  simp (disch := omega) only [m_sort hM, m_firstCost, cll_s, m_readBy hM, L32, nI_ltI, m_upwards]
  unfold costP
  by_cases h : 0 < g (39 + 4 * l + r)
  · rw [if_pos h, if_pos h]
    rfl
  · rw [if_neg h, if_neg h]
theorem m_cost (hM : MO mem g) (hO : OkG t g) (ht : t ≤ 600) {r l : Nat} (hr : r < g 3) (hl : l < g 2) : X7_cost 57 (nI r) (nI l) mem = some (nI (costN g r l), mem) := by
  have h2 := hO.1
  have h4 := hO.2.1 l hl
  unfold X7_cost
  simp (disch := omega) only [rfs, L32, nI_add, al, hM (11 + l), m_costP hM hO ht hr hl, cll_s, costN]
-- sums and sets over readers and letters: the class
def readOfN (g : Nat → Nat) (l : Nat) : Nat := sumP (fun _ => true) (fun r => g (39 + 4 * l + r)) (g 3)
theorem c_timesRead_l (hC : CO mem 7 g) (hO : OkG t g) {l : Nat} (hl : l < g 2) : ∀ (k i n : Nat), i ≤ g 3 → g 3 - i < k → k ≤ n → X3_timesReadByAll_b4 7 n (nI l) (nI (sumP (fun _ => true) (fun r => g (39 + 4 * l + r)) i)) (nI i) mem = some (nI (readOfN g l), mem) := by
  have h2 := hO.1
  intro k
  induction k with
  | zero => intro i n h1 h2; omega
  | succ k ih =>
    intro i n h1 h3 h4
    obtain ⟨n, rfl, h5⟩ := succ_of h4
    rw [X3_timesReadByAll_b4]
    by_cases hlt : i < g 3
    · have e := ih (i + 1) n (by omega) (by omega) (by omega)
      have hv := hC.2.2.2 i l hlt hl
      simp (disch := omega) only [hC.1.2.2.2.2, nI_ltI, hlt, if_true, rfs, L32, pk_mul, nI_add, al, hv]
      simpa [sumP] using e
    · have hE : i = g 3 := by omega
      simp (disch := omega) only [hC.1.2.2.2.2, nI_ltI, hlt, if_false]
      rw [hE]
      rfl
theorem c_timesRead (hC : CO mem 7 g) (hO : OkG t g) {l : Nat} (hl : l < g 2) : X3_timesReadByAll 7 (nI l) mem = some (nI (readOfN g l), mem) := by
  have h2 := hO.1
  exact c_timesRead_l hC hO hl (g 3 + 1) 0 fu (by omega) (by omega) (fu_ge (by omega))
end CST
