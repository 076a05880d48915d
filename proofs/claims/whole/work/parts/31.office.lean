/-! ===== PURE: the office as a row of 63 natural numbers; the class's office at cell o, the reference's row ===== -/
/-- the class's office o (cells o .. o + 8) holds the row g -/
def CO (mem : Mem) (o : Nat) (g : Nat → Nat) : Prop :=
  (mem o 0 = nI (g 0) ∧ mem o 1 = nI (g 1) ∧ mem o 2 = nI (g 4) ∧ mem o 3 = nI (g 2) ∧ mem o 7 = nI (g 3)) ∧
  (∀ l, l < g 2 → mem (o + 1) l = nI (g (5 + l)) ∧ mem (o + 2) l = nI (g (11 + l)) ∧ mem (o + 3) l = nI (g (17 + l))) ∧
  (∀ r, r < g 3 → mem (o + 4) r = nI (g (23 + r)) ∧ mem (o + 5) r = nI (g (31 + r)) ∧ mem (o + 6) r = nI (g (27 + r)) ∧ mem (o + 7) r = nI (g (35 + r))) ∧
  (∀ r l, r < g 3 → l < g 2 → mem (o + 8) (r * 6 + l) = nI (g (39 + 4 * l + r)))
/-- the reference's row -/
def MO (mem : Mem) (g : Nat → Nat) : Prop := ∀ j, j < 63 → mem 62 j = nI (g j)
/-- what any office's row keeps within, t calls after the start -/
def OkG (t : Nat) (g : Nat → Nat) : Prop :=
  (g 0 ≤ 1 ∧ (g 0 = 0 → g 2 = 0 ∧ g 3 = 0) ∧ g 1 ≤ 999 ∧ g 2 ≤ 6 ∧ g 3 ≤ 4 ∧ g 4 ≤ 999) ∧
  (∀ l, l < g 2 → 1 ≤ g (5 + l) ∧ g (5 + l) ≤ 5 ∧ 1 ≤ g (11 + l) ∧ g (11 + l) ≤ 40 ∧ 1 ≤ g (17 + l) ∧ g (17 + l) ≤ 99) ∧
  (∀ r, r < g 3 → g (23 + r) ≤ 99 ∧ g (23 + r) < g (27 + r) ∧ g (27 + r) ≤ 999 ∧ g (31 + r) ≤ 1118 + g 4 ∧ g (35 + r) < 64) ∧
  (∀ r l, r < g 3 → l < g 2 → g (39 + 4 * l + r) ≤ t)
/-- what a letter of a kind costs one who never read it -/
def fcN (k p : Nat) : Nat := if k = 1 then p else if k = 2 then 3 * p else if k = 3 then (p + 1) / 2 else if k = 5 then (p + 9) / 10 else 0
def costP (g : Nat → Nat) (r l p : Nat) : Nat := if 0 < g (39 + 4 * l + r) then (fcN (g (5 + l)) p + 1) / 2 else fcN (g (5 + l)) p
def costN (g : Nat → Nat) (r l : Nat) : Nat := costP g r l (g (11 + l))
theorem fcN_le {k p : Nat} (h : p ≤ 40) : fcN k p ≤ 120 := by
  unfold fcN
  repeat' split
  all_goals omega
theorem costP_le {g : Nat → Nat} {r l p : Nat} (h : p ≤ 40) : costP g r l p ≤ 120 := by
  unfold costP
  have := fcN_le (k := g (5 + l)) h
  split <;> omega
theorem nI_div {a d : Nat} (ha : a < 2 ^ 31) (h0 : 0 < d) (hd : d < 2 ^ 31) : nI a / nI d = nI (a / d) := pk_div ha h0 hd
theorem c_halfUp {a : Nat} (h : a < 2 ^ 30) (mem : Mem) : X6_halfUp (nI a) mem = some (nI ((a + 1) / 2), mem) := by
  unfold X6_halfUp
  simp (disch := omega) only [L32, nI_add, nI_div]
  exact if_pos (by decide)
theorem c_tenthUp {a : Nat} (h : a < 2 ^ 30) (mem : Mem) : X6_tenthUp (nI a) mem = some (nI ((a + 9) / 10), mem) := by
  unfold X6_tenthUp
  simp (disch := omega) only [L32, nI_add, nI_div]
  exact if_pos (by decide)
theorem m_upwards {a b : Nat} (h : a < 2 ^ 30) (h0 : 0 < b) (hb : b < 2 ^ 30) (mem : Mem) : X7_upwards (nI a) (nI b) mem = some (nI ((a + b - 1) / b), mem) := by
  unfold X7_upwards
  simp (disch := omega) only [L32, nI_add, pk_sub, nI_div]
  exact if_pos (fun e => by rw [nI_eq (by omega) (by omega)] at e; omega)
theorem c_costOfPages {k p : Nat} (hk : 1 ≤ k) (hk5 : k ≤ 5) (hp : p ≤ 40) (mem : Mem) : X3_costOfPages (nI k) (nI p) mem = some (nI (fcN k p), mem) := by
  unfold X3_costOfPages
  simp (disch := omega) only [L32, nI_eq, pk_mul, c_halfUp, c_tenthUp, cll_s]
  rcases (show k = 1 ∨ k = 2 ∨ k = 3 ∨ k = 4 ∨ k = 5 by omega) with rfl | rfl | rfl | rfl | rfl <;> simp [fcN]
theorem m_firstCost {k p : Nat} (hk : 1 ≤ k) (hk5 : k ≤ 5) (hp : p ≤ 40) (mem : Mem) : X7_firstCost (nI k) (nI p) mem = some (nI (fcN k p), mem) := by
  unfold X7_firstCost
  simp (disch := omega) only [L32, nI_eq, pk_mul, m_upwards, cll_s]
  rcases (show k = 1 ∨ k = 2 ∨ k = 3 ∨ k = 4 ∨ k = 5 by omega) with rfl | rfl | rfl | rfl | rfl <;> simp [fcN]
section OFF
variable {mem : Mem} {g : Nat → Nat} {t : Nat}
theorem c_isAlive (hC : CO mem 7 g) (hO : OkG t g) {r : Nat} (hr : r < g 3) : X3_isAlive 7 (nI r) mem = some (b2 (g (31 + r) < g (27 + r)), mem) := by
  have h1 := hO.2.2.1 r hr
  have h2 := hO.1
  have h3 := hC.2.2.1 r hr
  unfold X3_isAlive
  simp (disch := omega) only [rfs, al, h3, L32, nI_ltI, chk_1, chk_0, b2_some]
theorem m_isAlive (hM : MO mem g) (hO : OkG t g) {r : Nat} (hr : r < g 3) : X7_isAlive 57 (nI r) mem = some (b2 (g (31 + r) < g (27 + r)), mem) := by
  have h1 := hO.2.2.1 r hr
  have h2 := hO.1
  have h3 := hM (31 + r) (by omega)
  have h4 := hM (27 + r) (by omega)
  unfold X7_isAlive X7_age X7_span
  simp (disch := omega) only [rfs, L32, nI_add, al, h3, h4, cll_s, nI_ltI, chk_1, chk_0, b2_some]
end OFF
