/-! ===== PURE: sets and sums over readers and letters, on both sides (by wip/whole/mkloops.py) ===== -/
def readB (g : Nat → Nat) (l r : Nat) : Bool := decide (0 < g (39 + 4 * l + r))
def someB (g : Nat → Nat) (l : Nat) : Nat := sett (readB g l) (g 3)
def unB (g : Nat → Nat) (l : Nat) : Bool := decide (readOfN g l = 0)
def dueB (g : Nat → Nat) (d l : Nat) : Bool := decide (g (17 + l) < d)
section LPS
variable {mem : Mem} {g : Nat → Nat} {t : Nat}
theorem c_readB (hC : CO mem 7 g) (hO : OkG t g) (ht : t ≤ 600) {r l : Nat} (hr : r < g 3) (hl : l < g 2) : X3_hasRead 7 (nI r) (nI l) mem = some (b2 (readB g l r = true), mem) := by
  rw [c_hasRead hC hO ht hr hl]
  simp only [readB, decide_eq_true_eq]
theorem readOf_le (hO : OkG t g) {l : Nat} (hl : l < g 2) : readOfN g l ≤ g 3 * t := sumP_le _ _ t (g 3) (fun r hr => hO.2.2.2 r l hr hl)
theorem sumP_zero (f : Nat → Nat) : ∀ n, (sumP (fun _ => true) f n = 0 ↔ ∀ i, i < n → f i = 0)
  | 0 => by simp [sumP]
  | n + 1 => by
    have ih := sumP_zero f n
    rw [sumP, if_pos rfl]
    constructor
    · intro h i hi
      by_cases e : i = n
      · subst e; omega
      · exact ih.mp (by omega) i (by omega)
    · intro h
      have h1 := ih.mpr (fun i hi => h i (by omega))
      have h2 := h n (by omega)
      omega
theorem sett_zero (p : Nat → Bool) : ∀ n, (sett p n = 0 ↔ ∀ i, i < n → p i = false)
  | 0 => by simp [sett]
  | n + 1 => by
    have ih := sett_zero p n
    have hp := Nat.two_pow_pos n
    rw [sett]
    constructor
    · intro h i hi
      by_cases e : i = n
      · subst e
        cases h3 : p i
        · rfl
        · rw [h3, if_pos rfl] at h; omega
      · exact ih.mp (by omega) i (by omega)
    · intro h
      have h1 := ih.mpr (fun i hi => h i (by omega))
      rw [h n (by omega), if_neg (by decide)]
      omega
theorem un_some (l : Nat) : someB g l = 0 ↔ unB g l = true := by
  unfold someB unB readOfN
  rw [sett_zero, decide_eq_true_eq, sumP_zero]
  constructor
  · intro h i hi
    have := h i hi
    simp only [readB, decide_eq_false_iff_not] at this
    omega
  · intro h i hi
    have := h i hi
    simp only [readB, decide_eq_false_iff_not]
    omega

theorem c_readersOf_l (hC : CO mem 7 g) (hO : OkG t g) (ht : t ≤ 600) {l : Nat} (hl : l < g 2) : ∀ (k i n : Nat), i ≤ g 3 → g 3 - i < k → k ≤ n → X3_readersOf_b4 7 n (nI l) (nI (sett (readB g l) i)) (nI i) mem = some (nI (someB g l), mem) := by
  have h2 := hO.1
  intro k
  induction k with
  | zero => intro i n h1 h2; omega
  | succ k ih =>
    intro i n h1 h3 h4
    obtain ⟨n, rfl, h5⟩ := succ_of h4
    rw [X3_readersOf_b4]
    by_cases hlt : i < g 3
    · have e := ih (i + 1) n (by omega) (by omega) (by omega)
      simp (disch := omega) only [hC.1.2.2.2.2, nI_ltI, hlt, if_true, c_readB hC hO ht hlt hl, cll_s, L32, b2_0, X3_readersOf_b27, shl_n, or_n, nI_add]
      by_cases hp : readB g l i = true
      · rw [if_pos hp, sett_or (readB g l) i hp]
        exact e
      · rw [if_neg hp]
        rw [sett_no (readB g l) i hp] at e
        exact e
    · have hE : i = g 3 := by omega
      simp (disch := omega) only [hC.1.2.2.2.2, nI_ltI, hlt, if_false]
      rw [hE]
      rfl

theorem c_readersOf (hC : CO mem 7 g) (hO : OkG t g) (ht : t ≤ 600) {l : Nat} (hl : l < g 2) : X3_readersOf 7 (nI l) mem = some (nI (someB g l), mem) := by
  have h2 := hO.1
  exact c_readersOf_l hC hO ht hl (g 3 + 1) 0 fu (by omega) (by omega) (fu_ge (by omega))

theorem c_lettersReadBy_l (hC : CO mem 7 g) (hO : OkG t g) (ht : t ≤ 600) {r : Nat} (hr : r < g 3) : ∀ (k i n : Nat), i ≤ g 2 → g 2 - i < k → k ≤ n → X3_lettersReadBy_b4 7 n (nI r) (nI (sett (fun l => readB g l r) i)) (nI i) mem = some (nI (sett (fun l => readB g l r) (g 2)), mem) := by
  have h2 := hO.1
  intro k
  induction k with
  | zero => intro i n h1 h2; omega
  | succ k ih =>
    intro i n h1 h3 h4
    obtain ⟨n, rfl, h5⟩ := succ_of h4
    rw [X3_lettersReadBy_b4]
    by_cases hlt : i < g 2
    · have e := ih (i + 1) n (by omega) (by omega) (by omega)
      simp (disch := omega) only [hC.1.2.2.2.1, nI_ltI, hlt, if_true, c_readB hC hO ht hr hlt, cll_s, L32, b2_0, X3_lettersReadBy_b27, shl_n, or_n, nI_add]
      by_cases hp : readB g i r = true
      · rw [if_pos hp, sett_or (fun l => readB g l r) i hp]
        exact e
      · rw [if_neg hp]
        rw [sett_no (fun l => readB g l r) i hp] at e
        exact e
    · have hE : i = g 2 := by omega
      simp (disch := omega) only [hC.1.2.2.2.1, nI_ltI, hlt, if_false]
      rw [hE]

theorem c_lettersReadBy (hC : CO mem 7 g) (hO : OkG t g) (ht : t ≤ 600) {r : Nat} (hr : r < g 3) : X3_lettersReadBy 7 (nI r) mem = some (nI (sett (fun l => readB g l r) (g 2)), mem) := by
  have h2 := hO.1
  exact c_lettersReadBy_l hC hO ht hr (g 2 + 1) 0 fu (by omega) (by omega) (fu_ge (by omega))

theorem c_unreadDue_l (hC : CO mem 7 g) (hO : OkG t g) (ht : t ≤ 600) {d : Nat} (hd : d ≤ 2000) : ∀ (k i n : Nat), i ≤ g 2 → g 2 - i < k → k ≤ n → X3_unreadDueAhead_b4 7 n (nI d) (nI (sett (fun l => unB g l && dueB g d l) i)) (nI i) mem = some (nI (sett (fun l => unB g l && dueB g d l) (g 2)), mem) := by
  have h2 := hO.1
  intro k
  induction k with
  | zero => intro i n h1 h2; omega
  | succ k ih =>
    intro i n h1 h3 h4
    obtain ⟨n, rfl, h5⟩ := succ_of h4
    rw [X3_unreadDueAhead_b4]
    by_cases hlt : i < g 2
    · have e := ih (i + 1) n (by omega) (by omega) (by omega)
      have h6 := hC.2.1 i hlt
      have h7 := hO.2.1 i hlt
      have h8 : someB g i < 2 ^ 4 := sett_small _ h2.2.2.2.2.1
      simp (disch := omega) only [hC.1.2.2.2.1, nI_ltI, hlt, if_true, c_readersOf hC hO ht hlt, cll_s, L32, nI_eq, rfs, al, h6, X3_unreadDueAhead_b36, shl_n, or_n, nI_add]
      by_cases hp : (unB g i && dueB g d i) = true
      · have hp2 := hp
        rw [Bool.and_eq_true] at hp2
        rw [if_pos ((un_some i).mpr hp2.1), if_pos (by have := hp2.2; simp only [dueB, decide_eq_true_eq] at this; exact this), sett_or (fun l => unB g l && dueB g d l) i hp]
        exact e
      · rw [sett_no (fun l => unB g l && dueB g d l) i hp] at e
        by_cases hu : unB g i = true
        · rw [if_pos ((un_some i).mpr hu), if_neg (fun z => hp (by rw [hu]; simp [dueB, z]))]
          exact e
        · rw [if_neg (fun z => hu ((un_some i).mp z))]
          exact e
    · have hE : i = g 2 := by omega
      simp (disch := omega) only [hC.1.2.2.2.1, nI_ltI, hlt, if_false]
      rw [hE]

theorem c_unreadDue (hC : CO mem 7 g) (hO : OkG t g) (ht : t ≤ 600) {d : Nat} (hd : d ≤ 2000) : X3_unreadDueAhead 7 (nI d) mem = some (nI (sett (fun l => unB g l && dueB g d l) (g 2)), mem) := by
  have h2 := hO.1
  exact c_unreadDue_l hC hO ht hd (g 2 + 1) 0 fu (by omega) (by omega) (fu_ge (by omega))

def unS (g : Nat → Nat) : Nat := sett (unB g) (g 2)
theorem sett_congr {p q : Nat → Bool} : ∀ n, (∀ i, i < n → p i = q i) → sett p n = sett q n
  | 0, _ => rfl
  | n + 1, h => by rw [sett, sett, sett_congr n (fun i hi => h i (by omega)), h n (by omega)]
theorem c_unread (hC : CO mem 7 g) (hO : OkG t g) (ht : t ≤ 600) : X3_unreadLetters 7 mem = some (nI (unS g), mem) := by
  have h2 := hO.1
  unfold X3_unreadLetters
  simp only [L32, c_unreadDue hC hO ht (d := 100) (by decide), cll_s]
  rw [show sett (fun l => unB g l && dueB g 100 l) (g 2) = unS g from sett_congr _ (fun i hi => by
    have := hO.2.1 i hi
    simp only [dueB, Bool.and_eq_left_iff_imp, decide_eq_true_eq]
    intro _
    omega)]

theorem c_howManyAlive_l (hC : CO mem 7 g) (hO : OkG t g) : ∀ (k i n : Nat), i ≤ g 3 → g 3 - i < k → k ≤ n → X3_howManyAlive_b4 7 n (nI (cntP (aliveB g) i)) (nI i) mem = some (nI (cntP (aliveB g) (g 3)), mem) := by
  have h2 := hO.1
  intro k
  induction k with
  | zero => intro i n h1 h2; omega
  | succ k ih =>
    intro i n h1 h3 h4
    obtain ⟨n, rfl, h5⟩ := succ_of h4
    rw [X3_howManyAlive_b4]
    by_cases hlt : i < g 3
    · have e := ih (i + 1) n (by omega) (by omega) (by omega)
      simp (disch := omega) only [hC.1.2.2.2.2, nI_ltI, hlt, if_true, c_alive hC hO hlt, cll_s, L32, b2_0, X3_howManyAlive_b23, nI_add]
      by_cases hp : aliveB g i = true
      · rw [if_pos hp]
        rw [show cntP (aliveB g) (i + 1) = cntP (aliveB g) i + 1 by rw [cntP, if_pos hp]] at e
        exact e
      · rw [if_neg hp]
        rw [show cntP (aliveB g) (i + 1) = cntP (aliveB g) i by rw [cntP, if_neg hp, Nat.add_zero]] at e
        exact e
    · have hE : i = g 3 := by omega
      simp (disch := omega) only [hC.1.2.2.2.2, nI_ltI, hlt, if_false]
      rw [hE]

theorem c_howManyAlive (hC : CO mem 7 g) (hO : OkG t g) : X3_howManyAlive 7 mem = some (nI (cntP (aliveB g) (g 3)), mem) := by
  have h2 := hO.1
  exact c_howManyAlive_l hC hO (g 3 + 1) 0 fu (by omega) (by omega) (fu_ge (by omega))

theorem c_howManyFit_l (hC : CO mem 7 g) (hO : OkG t g) : ∀ (k i n : Nat), i ≤ g 3 → g 3 - i < k → k ≤ n → X3_howManyFit_b4 7 n (nI (cntP (fitB g) i)) (nI i) mem = some (nI (cntP (fitB g) (g 3)), mem) := by
  have h2 := hO.1
  intro k
  induction k with
  | zero => intro i n h1 h2; omega
  | succ k ih =>
    intro i n h1 h3 h4
    obtain ⟨n, rfl, h5⟩ := succ_of h4
    rw [X3_howManyFit_b4]
    by_cases hlt : i < g 3
    · have e := ih (i + 1) n (by omega) (by omega) (by omega)
      simp (disch := omega) only [hC.1.2.2.2.2, nI_ltI, hlt, if_true, c_fit hC hO hlt, cll_s, L32, b2_0, X3_howManyFit_b23, nI_add]
      by_cases hp : fitB g i = true
      · rw [if_pos hp]
        rw [show cntP (fitB g) (i + 1) = cntP (fitB g) i + 1 by rw [cntP, if_pos hp]] at e
        exact e
      · rw [if_neg hp]
        rw [show cntP (fitB g) (i + 1) = cntP (fitB g) i by rw [cntP, if_neg hp, Nat.add_zero]] at e
        exact e
    · have hE : i = g 3 := by omega
      simp (disch := omega) only [hC.1.2.2.2.2, nI_ltI, hlt, if_false]
      rw [hE]

theorem c_howManyFit (hC : CO mem 7 g) (hO : OkG t g) : X3_howManyFit 7 mem = some (nI (cntP (fitB g) (g 3)), mem) := by
  have h2 := hO.1
  exact c_howManyFit_l hC hO (g 3 + 1) 0 fu (by omega) (by omega) (fu_ge (by omega))

theorem c_firstCostOf_l (hC : CO mem 7 g) (hO : OkG t g) {s : Nat} (hs : s < 64) : ∀ (k i n : Nat), i ≤ g 2 → g 2 - i < k → k ≤ n → X3_firstCostOf_b4 7 n (nI s) (nI (sumP (hasB s) (fun l => fcN (g (5 + l)) (g (11 + l))) i)) (nI i) mem = some (nI (sumP (hasB s) (fun l => fcN (g (5 + l)) (g (11 + l))) (g 2)), mem) := by
  have h2 := hO.1
  intro k
  induction k with
  | zero => intro i n h1 h2; omega
  | succ k ih =>
    intro i n h1 h3 h4
    obtain ⟨n, rfl, h5⟩ := succ_of h4
    rw [X3_firstCostOf_b4]
    by_cases hlt : i < g 2
    · have e := ih (i + 1) n (by omega) (by omega) (by omega)
      simp (disch := omega) only [hC.1.2.2.2.1, nI_ltI, hlt, if_true, c_inSet, cll_s, L32, b2_0, c_firstCost hC hO hlt, X3_firstCostOf_b28, nI_add]
      by_cases hp : hasB s i = true
      · rw [if_pos hp]
        rw [show sumP (hasB s) (fun l => fcN (g (5 + l)) (g (11 + l))) (i + 1) = sumP (hasB s) (fun l => fcN (g (5 + l)) (g (11 + l))) i + (fun l => fcN (g (5 + l)) (g (11 + l))) i by rw [sumP, if_pos hp]] at e
        exact e
      · rw [if_neg hp]
        rw [show sumP (hasB s) (fun l => fcN (g (5 + l)) (g (11 + l))) (i + 1) = sumP (hasB s) (fun l => fcN (g (5 + l)) (g (11 + l))) i by rw [sumP, if_neg hp, Nat.add_zero]] at e
        exact e
    · have hE : i = g 2 := by omega
      simp (disch := omega) only [hC.1.2.2.2.1, nI_ltI, hlt, if_false]
      rw [hE]

theorem c_firstCostOf (hC : CO mem 7 g) (hO : OkG t g) {s : Nat} (hs : s < 64) : X3_firstCostOf 7 (nI s) mem = some (nI (sumP (hasB s) (fun l => fcN (g (5 + l)) (g (11 + l))) (g 2)), mem) := by
  have h2 := hO.1
  exact c_firstCostOf_l hC hO hs (g 2 + 1) 0 fu (by omega) (by omega) (fu_ge (by omega))

theorem c_costOfAll_l (hC : CO mem 7 g) (hO : OkG t g) (ht : t ≤ 600) {r s : Nat} (hr : r < g 3) (hs : s < 64) : ∀ (k i n : Nat), i ≤ g 2 → g 2 - i < k → k ≤ n → X3_costOfAll_b5 7 n (nI r) (nI s) (nI (sumP (hasB s) (costN g r) i)) (nI i) mem = some (nI (sumP (hasB s) (costN g r) (g 2)), mem) := by
  have h2 := hO.1
  intro k
  induction k with
  | zero => intro i n h1 h2; omega
  | succ k ih =>
    intro i n h1 h3 h4
    obtain ⟨n, rfl, h5⟩ := succ_of h4
    rw [X3_costOfAll_b5]
    by_cases hlt : i < g 2
    · have e := ih (i + 1) n (by omega) (by omega) (by omega)
      simp (disch := omega) only [hC.1.2.2.2.1, nI_ltI, hlt, if_true, c_inSet, cll_s, L32, b2_0, c_cost hC hO ht hr hlt, X3_costOfAll_b33, nI_add]
      by_cases hp : hasB s i = true
      · rw [if_pos hp]
        rw [show sumP (hasB s) (costN g r) (i + 1) = sumP (hasB s) (costN g r) i + (costN g r) i by rw [sumP, if_pos hp]] at e
        exact e
      · rw [if_neg hp]
        rw [show sumP (hasB s) (costN g r) (i + 1) = sumP (hasB s) (costN g r) i by rw [sumP, if_neg hp, Nat.add_zero]] at e
        exact e
    · have hE : i = g 2 := by omega
      simp (disch := omega) only [hC.1.2.2.2.1, nI_ltI, hlt, if_false]
      rw [hE]

theorem c_costOfAll (hC : CO mem 7 g) (hO : OkG t g) (ht : t ≤ 600) {r s : Nat} (hr : r < g 3) (hs : s < 64) : X3_costOfAll 7 (nI r) (nI s) mem = some (nI (sumP (hasB s) (costN g r) (g 2)), mem) := by
  have h2 := hO.1
  exact c_costOfAll_l hC hO ht hr hs (g 2 + 1) 0 fu (by omega) (by omega) (fu_ge (by omega))

theorem m_readOf_l (hM : MO mem g) (hO : OkG t g) {l : Nat} (hl : l < g 2) : ∀ (k i n : Nat), i ≤ g 3 → g 3 - i < k → k ≤ n → X7_readOf_b4 57 n (nI l) (nI (sumP (fun _ => true) (fun r => g (39 + 4 * l + r)) i)) (nI i) mem = some (nI (readOfN g l), mem) := by
  have h2 := hO.1
  intro k
  induction k with
  | zero => intro i n h1 h2; omega
  | succ k ih =>
    intro i n h1 h3 h4
    obtain ⟨n, rfl, h5⟩ := succ_of h4
    rw [X7_readOf_b4]
    by_cases hlt : i < g 3
    · have e := ih (i + 1) n (by omega) (by omega) (by omega)
      have h6 := m_readBy hM (l := l) (r := i) (by omega) (by omega)
      simp (disch := omega) only [m_readers hM, cll_s, nI_ltI, hlt, if_true, h6, L32, nI_add]
      simpa [sumP] using e
    · have hE : i = g 3 := by omega
      simp (disch := omega) only [m_readers hM, cll_s, nI_ltI, hlt, if_false]
      rw [hE]
      rfl

theorem m_readOf (hM : MO mem g) (hO : OkG t g) {l : Nat} (hl : l < g 2) : X7_readOf 57 (nI l) mem = some (nI (readOfN g l), mem) := by
  have h2 := hO.1
  exact m_readOf_l hM hO hl (g 3 + 1) 0 fu (by omega) (by omega) (fu_ge (by omega))

theorem m_hasRead_l (hM : MO mem g) (hO : OkG t g) (ht : t ≤ 600) {r : Nat} (hr : r < g 3) : ∀ (k i n : Nat), i ≤ g 2 → g 2 - i < k → k ≤ n → X7_hasRead_b4 57 n (nI r) (nI (sett (fun l => readB g l r) i)) (nI i) mem = some (nI (sett (fun l => readB g l r) (g 2)), mem) := by
  have h2 := hO.1
  intro k
  induction k with
  | zero => intro i n h1 h2; omega
  | succ k ih =>
    intro i n h1 h3 h4
    obtain ⟨n, rfl, h5⟩ := succ_of h4
    rw [X7_hasRead_b4]
    by_cases hlt : i < g 2
    · have e := ih (i + 1) n (by omega) (by omega) (by omega)
      have h6 := m_readBy hM (l := i) (r := r) (by omega) (by omega)
      have h7 := hO.2.2.2 r i hr hlt
      simp (disch := omega) only [m_letters hM, cll_s, nI_ltI, hlt, if_true, h6, X7_hasRead_b29, L32, shl_n, or_n, nI_add, Nat.or_zero]
      by_cases hp : readB g i r = true
      · rw [if_pos (by simpa [readB] using hp), sett_or ((fun l => readB g l r)) i hp]
        exact e
      · rw [if_neg (by simpa [readB] using hp)]
        rw [sett_no ((fun l => readB g l r)) i hp] at e
        exact e
    · have hE : i = g 2 := by omega
      simp (disch := omega) only [m_letters hM, cll_s, nI_ltI, hlt, if_false]
      rw [hE]

theorem m_hasRead (hM : MO mem g) (hO : OkG t g) (ht : t ≤ 600) {r : Nat} (hr : r < g 3) : X7_hasRead 57 (nI r) mem = some (nI (sett (fun l => readB g l r) (g 2)), mem) := by
  have h2 := hO.1
  exact m_hasRead_l hM hO ht hr (g 2 + 1) 0 fu (by omega) (by omega) (fu_ge (by omega))

theorem m_whoRead_l (hM : MO mem g) (hO : OkG t g) (ht : t ≤ 600) {l : Nat} (hl : l < g 2) : ∀ (k i n : Nat), i ≤ g 3 → g 3 - i < k → k ≤ n → X7_whoRead_b4 57 n (nI l) (nI (sett (readB g l) i)) (nI i) mem = some (nI (sett (readB g l) (g 3)), mem) := by
  have h2 := hO.1
  intro k
  induction k with
  | zero => intro i n h1 h2; omega
  | succ k ih =>
    intro i n h1 h3 h4
    obtain ⟨n, rfl, h5⟩ := succ_of h4
    rw [X7_whoRead_b4]
    by_cases hlt : i < g 3
    · have e := ih (i + 1) n (by omega) (by omega) (by omega)
      have h6 := m_readBy hM (l := l) (r := i) (by omega) (by omega)
      have h7 := hO.2.2.2 i l hlt hl
      simp (disch := omega) only [m_readers hM, cll_s, nI_ltI, hlt, if_true, h6, X7_whoRead_b29, L32, shl_n, or_n, nI_add, Nat.or_zero]
      by_cases hp : readB g l i = true
      · rw [if_pos (by simpa [readB] using hp), sett_or ((readB g l)) i hp]
        exact e
      · rw [if_neg (by simpa [readB] using hp)]
        rw [sett_no ((readB g l)) i hp] at e
        exact e
    · have hE : i = g 3 := by omega
      simp (disch := omega) only [m_readers hM, cll_s, nI_ltI, hlt, if_false]
      rw [hE]

theorem m_whoRead (hM : MO mem g) (hO : OkG t g) (ht : t ≤ 600) {l : Nat} (hl : l < g 2) : X7_whoRead 57 (nI l) mem = some (nI (sett (readB g l) (g 3)), mem) := by
  have h2 := hO.1
  exact m_whoRead_l hM hO ht hl (g 3 + 1) 0 fu (by omega) (by omega) (fu_ge (by omega))

theorem m_alive_l (hM : MO mem g) (hO : OkG t g) : ∀ (k i n : Nat), i ≤ g 3 → g 3 - i < k → k ≤ n → X7_alive_b4 57 n (nI (sett (aliveB g) i)) (nI i) mem = some (nI (sett (aliveB g) (g 3)), mem) := by
  have h2 := hO.1
  intro k
  induction k with
  | zero => intro i n h1 h2; omega
  | succ k ih =>
    intro i n h1 h3 h4
    obtain ⟨n, rfl, h5⟩ := succ_of h4
    rw [X7_alive_b4]
    by_cases hlt : i < g 3
    · have e := ih (i + 1) n (by omega) (by omega) (by omega)
      simp (disch := omega) only [m_readers hM, cll_s, nI_ltI, hlt, if_true, m_aliveR hM hO hlt, b2_0, X7_alive_b28, L32, shl_n, or_n, nI_add, Nat.or_zero]
      by_cases hp : aliveB g i = true
      · rw [if_pos hp, sett_or (aliveB g) i hp]
        exact e
      · rw [if_neg hp]
        rw [sett_no (aliveB g) i hp] at e
        exact e
    · have hE : i = g 3 := by omega
      simp (disch := omega) only [m_readers hM, cll_s, nI_ltI, hlt, if_false]
      rw [hE]

theorem m_alive (hM : MO mem g) (hO : OkG t g) : X7_alive 57 mem = some (nI (sett (aliveB g) (g 3)), mem) := by
  have h2 := hO.1
  exact m_alive_l hM hO (g 3 + 1) 0 fu (by omega) (by omega) (fu_ge (by omega))

theorem m_unread_l (hM : MO mem g) (hO : OkG t g) (ht : t ≤ 600) : ∀ (k i n : Nat), i ≤ g 2 → g 2 - i < k → k ≤ n → X7_unread_b4 57 n (nI (sett (unB g) i)) (nI i) mem = some (nI (unS g), mem) := by
  have h2 := hO.1
  intro k
  induction k with
  | zero => intro i n h1 h2; omega
  | succ k ih =>
    intro i n h1 h3 h4
    obtain ⟨n, rfl, h5⟩ := succ_of h4
    rw [X7_unread_b4]
    by_cases hlt : i < g 2
    · have e := ih (i + 1) n (by omega) (by omega) (by omega)
      have h6 := readOf_le hO hlt
      have h7 : g 3 * t ≤ 4 * 600 := Nat.mul_le_mul h2.2.2.2.2.1 ht
      simp (disch := omega) only [m_letters hM, cll_s, nI_ltI, hlt, if_true, m_readOf hM hO hlt, nI_eq, X7_unread_b28, L32, shl_n, or_n, nI_add, Nat.or_zero]
      by_cases hp : unB g i = true
      · rw [if_pos (by simpa [unB] using hp), sett_or (unB g) i hp]
        exact e
      · rw [if_neg (by simpa [unB] using hp)]
        rw [sett_no (unB g) i hp] at e
        exact e
    · have hE : i = g 2 := by omega
      simp (disch := omega) only [m_letters hM, cll_s, nI_ltI, hlt, if_false]
      rw [hE]
      rfl

theorem m_unread (hM : MO mem g) (hO : OkG t g) (ht : t ≤ 600) : X7_unread 57 mem = some (nI (unS g), mem) := by
  have h2 := hO.1
  exact m_unread_l hM hO ht (g 2 + 1) 0 fu (by omega) (by omega) (fu_ge (by omega))

theorem m_fit_l (hM : MO mem g) (hO : OkG t g) : ∀ (k i n : Nat), i ≤ g 3 → g 3 - i < k → k ≤ n → X7_fit_b4 57 n (nI (cntP (fitB g) i)) (nI i) mem = some (nI (cntP (fitB g) (g 3)), mem) := by
  have h2 := hO.1
  intro k
  induction k with
  | zero => intro i n h1 h2; omega
  | succ k ih =>
    intro i n h1 h3 h4
    obtain ⟨n, rfl, h5⟩ := succ_of h4
    rw [X7_fit_b4]
    by_cases hlt : i < g 3
    · have e := ih (i + 1) n (by omega) (by omega) (by omega)
      simp (disch := omega) only [m_readers hM, cll_s, nI_ltI, hlt, if_true, m_fitR hM hO hlt, b2_0, X7_fit_b26, L32, nI_add, Nat.add_zero]
      by_cases hp : fitB g i = true
      · rw [if_pos hp]
        rw [show cntP (fitB g) (i + 1) = cntP (fitB g) i + 1 by rw [cntP, if_pos hp]] at e
        exact e
      · rw [if_neg hp]
        rw [show cntP (fitB g) (i + 1) = cntP (fitB g) i by rw [cntP, if_neg hp, Nat.add_zero]] at e
        exact e
    · have hE : i = g 3 := by omega
      simp (disch := omega) only [m_readers hM, cll_s, nI_ltI, hlt, if_false]
      rw [hE]

theorem m_fit (hM : MO mem g) (hO : OkG t g) : X7_fit 57 mem = some (nI (cntP (fitB g) (g 3)), mem) := by
  have h2 := hO.1
  exact m_fit_l hM hO (g 3 + 1) 0 fu (by omega) (by omega) (fu_ge (by omega))

theorem m_costAll_l (hM : MO mem g) (hO : OkG t g) (ht : t ≤ 600) {r s : Nat} (hr : r < g 3) (hs : s < 64) : ∀ (k i n : Nat), i ≤ g 2 → g 2 - i < k → k ≤ n → X7_costAll_b5 57 n (nI r) (nI s) (nI (sumP (hasB s) (costN g r) i)) (nI i) mem = some (nI (sumP (hasB s) (costN g r) (g 2)), mem) := by
  have h2 := hO.1
  intro k
  induction k with
  | zero => intro i n h1 h2; omega
  | succ k ih =>
    intro i n h1 h3 h4
    obtain ⟨n, rfl, h5⟩ := succ_of h4
    rw [X7_costAll_b5]
    by_cases hlt : i < g 2
    · have e := ih (i + 1) n (by omega) (by omega) (by omega)
      simp (disch := omega) only [m_letters hM, cll_s, nI_ltI, hlt, if_true, m_has, b2_0, m_cost hM hO ht hr hlt, X7_costAll_b35, L32, nI_add, Nat.add_zero]
      by_cases hp : hasB s i = true
      · rw [if_pos hp]
        rw [show sumP (hasB s) (costN g r) (i + 1) = sumP (hasB s) (costN g r) i + (costN g r) i by rw [sumP, if_pos hp]] at e
        exact e
      · rw [if_neg hp]
        rw [show sumP (hasB s) (costN g r) (i + 1) = sumP (hasB s) (costN g r) i by rw [sumP, if_neg hp, Nat.add_zero]] at e
        exact e
    · have hE : i = g 2 := by omega
      simp (disch := omega) only [m_letters hM, cll_s, nI_ltI, hlt, if_false]
      rw [hE]

theorem m_costAll (hM : MO mem g) (hO : OkG t g) (ht : t ≤ 600) {r s : Nat} (hr : r < g 3) (hs : s < 64) : X7_costAll 57 (nI r) (nI s) mem = some (nI (sumP (hasB s) (costN g r) (g 2)), mem) := by
  have h2 := hO.1
  exact m_costAll_l hM hO ht hr hs (g 2 + 1) 0 fu (by omega) (by omega) (fu_ge (by omega))

theorem m_firstAll_l (hM : MO mem g) (hO : OkG t g) {s : Nat} (hs : s < 64) : ∀ (k i n : Nat), i ≤ g 2 → g 2 - i < k → k ≤ n → X7_firstAll_b4 57 n (nI s) (nI (sumP (hasB s) (fun l => fcN (g (5 + l)) (g (11 + l))) i)) (nI i) mem = some (nI (sumP (hasB s) (fun l => fcN (g (5 + l)) (g (11 + l))) (g 2)), mem) := by
  have h2 := hO.1
  intro k
  induction k with
  | zero => intro i n h1 h2; omega
  | succ k ih =>
    intro i n h1 h3 h4
    obtain ⟨n, rfl, h5⟩ := succ_of h4
    rw [X7_firstAll_b4]
    by_cases hlt : i < g 2
    · have e := ih (i + 1) n (by omega) (by omega) (by omega)
      have h6 := hO.2.1 i hlt
      simp (disch := omega) only [m_letters hM, cll_s, nI_ltI, hlt, if_true, m_has, b2_0, m_sort hM, rfs, L32, nI_add, al, hM (11 + i), m_firstCost, X7_firstAll_b42, Nat.add_zero]
      by_cases hp : hasB s i = true
      · rw [if_pos hp]
        rw [show sumP (hasB s) (fun l => fcN (g (5 + l)) (g (11 + l))) (i + 1) = sumP (hasB s) (fun l => fcN (g (5 + l)) (g (11 + l))) i + (fun l => fcN (g (5 + l)) (g (11 + l))) i by rw [sumP, if_pos hp]] at e
        exact e
      · rw [if_neg hp]
        rw [show sumP (hasB s) (fun l => fcN (g (5 + l)) (g (11 + l))) (i + 1) = sumP (hasB s) (fun l => fcN (g (5 + l)) (g (11 + l))) i by rw [sumP, if_neg hp, Nat.add_zero]] at e
        exact e
    · have hE : i = g 2 := by omega
      simp (disch := omega) only [m_letters hM, cll_s, nI_ltI, hlt, if_false]
      rw [hE]

theorem m_firstAll (hM : MO mem g) (hO : OkG t g) {s : Nat} (hs : s < 64) : X7_firstAll 57 (nI s) mem = some (nI (sumP (hasB s) (fun l => fcN (g (5 + l)) (g (11 + l))) (g 2)), mem) := by
  have h2 := hO.1
  exact m_firstAll_l hM hO hs (g 2 + 1) 0 fu (by omega) (by omega) (fu_ge (by omega))

theorem m_bits_l (mem : Mem) {s : Nat} (hs : s < 2 ^ 30) : ∀ (k i n : Nat), i ≤ 8 → 8 - i < k → k ≤ n → X7_bits_b4 n (nI s) (nI (cntP (hasB s) i)) (nI i) mem = some (nI (cntP (hasB s) 8), mem) := by
  intro k
  induction k with
  | zero => intro i n h1 h2; omega
  | succ k ih =>
    intro i n h1 h3 h4
    obtain ⟨n, rfl, h5⟩ := succ_of h4
    rw [X7_bits_b4]
    by_cases hlt : i < 8
    · have e := ih (i + 1) n (by omega) (by omega) (by omega)
      simp (disch := omega) only [L32, nI_ltI, hlt, if_true, bit_n, nI_add]
      have : cntP (hasB s) (i + 1) = cntP (hasB s) i + s / 2 ^ i % 2 := by
        rw [cntP]
        have h6 : s / 2 ^ i % 2 < 2 := Nat.mod_lt _ (by decide)
        by_cases h7 : s / 2 ^ i % 2 = 1
        · rw [if_pos (by simp [hasB, h7]), h7]
        · rw [if_neg (by simp [hasB, h7])]; omega
      rw [this] at e
      exact e
    · have hE : i = 8 := by omega
      simp (disch := omega) only [L32, nI_ltI, hlt, if_false]
      rw [hE]
def bits (s : Nat) : Nat := cntP (hasB s) 8
theorem m_bits (mem : Mem) {s : Nat} (hs : s < 2 ^ 30) : X7_bits (nI s) mem = some (nI (bits s), mem) := m_bits_l mem hs 9 0 fu (by omega) (by omega) (fu_ge (by omega))
def bcE (a : Int32) : Int32 := ((J6_bitCount_0f7a4 a (fun _ _ => 0)).getD (0, fun _ _ => 0)).1
theorem c_bitCount {s : Nat} (hs : s < 64) (mem : Mem) : J6_bitCount_0f7a4 (nI s) mem = some (nI (bits s), mem) := by
  have h1 : J6_bitCount_0f7a4 (nI s) mem = some (bcE (nI s), mem) := rfl
  rw [h1, (show ∀ s, s < 64 → bcE (nI s) = nI (bits s) by decide +kernel) s hs]
theorem bits_le (s : Nat) : bits s ≤ 8 := cntP_le _ _
end LPS
