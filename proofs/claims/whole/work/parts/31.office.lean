/-! ===== PURE: the office as a row of 63 natural numbers; the class's office at cell o, the reference's row ===== -/
/-- the class's office o (cells o .. o + 8) holds the row g -/
def CO (mem : Mem) (o : Nat) (g : Nat → Nat) : Prop :=
  (mem o 0 = nI (g 0) ∧ mem o 1 = nI (g 1) ∧ mem o 2 = nI (g 4) ∧ mem o 3 = nI (g 2) ∧ mem o 7 = nI (g 3)) ∧
  (∀ l, l < g 2 → mem (o + 1) l = nI (g (5 + l)) ∧ mem (o + 2) l = nI (g (11 + l)) ∧ mem (o + 3) l = nI (g (17 + l))) ∧
  (∀ r, r < g 3 → mem (o + 4) r = nI (g (23 + r)) ∧ mem (o + 5) r = nI (g (31 + r)) ∧ mem (o + 6) r = nI (g (27 + r)) ∧ mem (o + 7) r = nI (g (35 + r))) ∧
  (∀ r l, r < g 3 → l < g 2 → mem (o + 8) (r * 6 + l) = nI (g (39 + 4 * l + r)))
/-- the reference's row -/
def MO (mem : Mem) (g : Nat → Nat) : Prop := ∀ j, j < 63 → mem 62 j = nI (g j)
/-- what any office's row keeps within, t calls after the start -/
def OkG (t : Nat) (g : Nat → Nat) : Prop :=
  (g 0 ≤ 1 ∧ (g 0 = 0 → g 2 = 0 ∧ g 3 = 0) ∧ g 1 ≤ 999 ∧ g 2 ≤ 6 ∧ g 3 ≤ 4 ∧ g 4 ≤ 999) ∧
  (∀ l, l < g 2 → 1 ≤ g (5 + l) ∧ g (5 + l) ≤ 5 ∧ 1 ≤ g (11 + l) ∧ g (11 + l) ≤ 40 ∧ 1 ≤ g (17 + l) ∧ g (17 + l) ≤ 99) ∧
  (∀ r, r < g 3 → g (23 + r) ≤ 99 ∧ g (23 + r) < g (27 + r) ∧ g (27 + r) ≤ 999 ∧ g (31 + r) ≤ 1118 + g 4 ∧ g (35 + r) < 64) ∧
  (∀ r l, r < g 3 → l < g 2 → g (39 + 4 * l + r) ≤ t)
/-- what a letter of a kind costs one who never read it -/
def fcN (k p : Nat) : Nat := if k = 1 then p else if k = 2 then 3 * p else if k = 3 then (p + 1) / 2 else if k = 5 then (p + 9) / 10 else 0
def costP (g : Nat → Nat) (r l p : Nat) : Nat := if 0 < g (39 + 4 * l + r) then (fcN (g (5 + l)) p + 1) / 2 else fcN (g (5 + l)) p
def costN (g : Nat → Nat) (r l : Nat) : Nat := costP g r l (g (11 + l))
theorem fcN_le {k p : Nat} (h : p ≤ 40) : fcN k p ≤ 120 := by
  unfold fcN
  repeat' split
  all_goals omega
theorem costP_le {g : Nat → Nat} {r l p : Nat} (h : p ≤ 40) : costP g r l p ≤ 120 := by
  unfold costP
  have := fcN_le (k := g (5 + l)) h
  split <;> omega
theorem nI_div {a d : Nat} (ha : a < 2 ^ 31) (h0 : 0 < d) (hd : d < 2 ^ 31) : nI a / nI d = nI (a / d) := pk_div ha h0 hd
theorem c_halfUp {a : Nat} (h : a < 2 ^ 30) (mem : Mem) : X6_halfUp (nI a) mem = some (nI ((a + 1) / 2), mem) := by
  unfold X6_halfUp
  simp (disch := omega) only [L32, nI_add, nI_div]
  exact if_pos (by decide)
theorem c_tenthUp {a : Nat} (h : a < 2 ^ 30) (mem : Mem) : X6_tenthUp (nI a) mem = some (nI ((a + 9) / 10), mem) := by
  unfold X6_tenthUp
  simp (disch := omega) only [L32, nI_add, nI_div]
  exact if_pos (by decide)
theorem m_upwards {a b : Nat} (h : a < 2 ^ 30) (h0 : 0 < b) (hb : b < 2 ^ 30) (mem : Mem) : X7_upwards (nI a) (nI b) mem = some (nI ((a + b - 1) / b), mem) := by
  unfold X7_upwards
  simp (disch := omega) only [L32, nI_add, pk_sub, nI_div]
  exact if_pos (fun e => by rw [nI_eq (by omega) (by omega)] at e; omega)
theorem c_costOfPages {k p : Nat} (hk : 1 ≤ k) (hk5 : k ≤ 5) (hp : p ≤ 40) (mem : Mem) : X3_costOfPages (nI k) (nI p) mem = some (nI (fcN k p), mem) := by
  unfold X3_costOfPages
  simp (disch := omega) only [L32, nI_eq, pk_mul, c_halfUp, c_tenthUp, cll_s]
  rcases (show k = 1 ∨ k = 2 ∨ k = 3 ∨ k = 4 ∨ k = 5 by omega) with rfl | rfl | rfl | rfl | rfl <;> simp [fcN]
theorem m_firstCost {k p : Nat} (hk : 1 ≤ k) (hk5 : k ≤ 5) (hp : p ≤ 40) (mem : Mem) : X7_firstCost (nI k) (nI p) mem = some (nI (fcN k p), mem) := by
  unfold X7_firstCost
  simp (disch := omega) only [L32, nI_eq, pk_mul, m_upwards, cll_s]
  rcases (show k = 1 ∨ k = 2 ∨ k = 3 ∨ k = 4 ∨ k = 5 by omega) with rfl | rfl | rfl | rfl | rfl <;> simp [fcN]
section OFF
variable {mem : Mem} {g : Nat → Nat} {t : Nat}
theorem c_isAlive (hC : CO mem 7 g) (hO : OkG t g) {r : Nat} (hr : r < g 3) : X3_isAlive 7 (nI r) mem = some (b2 (g (31 + r) < g (27 + r)), mem) := by
  have h1 := hO.2.2.1 r hr
  have h2 := hO.1
  have h3 := hC.2.2.1 r hr
  unfold X3_isAlive
  simp (disch := omega) only [rfs, al, h3, L32, nI_ltI, chk_1, chk_0, b2_some]
theorem m_isAlive (hM : MO mem g) (hO : OkG t g) {r : Nat} (hr : r < g 3) : X7_isAlive 57 (nI r) mem = some (b2 (g (31 + r) < g (27 + r)), mem) := by
  have h1 := hO.2.2.1 r hr
  have h2 := hO.1
  have h3 := hM (31 + r) (by omega)
  have h4 := hM (27 + r) (by omega)
  unfold X7_isAlive X7_age X7_span
  simp (disch := omega) only [rfs, L32, nI_add, al, h3, h4, cll_s, nI_ltI, chk_1, chk_0, b2_some]
end OFF
/-! bits and sets -/
def hasB (s k : Nat) : Bool := decide (s / 2 ^ k % 2 = 1)
def sett (p : Nat → Bool) : Nat → Nat
  | 0 => 0
  | n + 1 => sett p n + if p n = true then 2 ^ n else 0
def cntP (p : Nat → Bool) : Nat → Nat
  | 0 => 0
  | n + 1 => cntP p n + if p n = true then 1 else 0
def sumP (p : Nat → Bool) (f : Nat → Nat) : Nat → Nat
  | 0 => 0
  | n + 1 => sumP p f n + if p n = true then f n else 0
theorem sett_lt (p : Nat → Bool) : ∀ n, sett p n < 2 ^ n
  | 0 => by show 0 < 2 ^ 0; exact Nat.one_pos
  | n + 1 => by
    have h := sett_lt p n
    rw [sett, Nat.pow_succ]
    split <;> omega
theorem sett_or (p : Nat → Bool) (n : Nat) (h : p n = true) : sett p n ||| 2 ^ n = sett p (n + 1) := by
  rw [sett, if_pos h, Nat.or_comm]
  have e := Nat.two_pow_add_eq_or_of_lt (sett_lt p n) 1
  rw [Nat.mul_one] at e
  rw [← e, Nat.add_comm]
theorem sett_no (p : Nat → Bool) (n : Nat) (h : ¬ p n = true) : sett p (n + 1) = sett p n := by
  rw [sett, if_neg h, Nat.add_zero]
theorem sett_small (p : Nat → Bool) {n m : Nat} (h : n ≤ m) : sett p n < 2 ^ m := Nat.lt_of_lt_of_le (sett_lt p n) (Nat.pow_le_pow_right (by decide) h)
theorem p2_le {n m : Nat} (h : n ≤ m) : 2 ^ n ≤ 2 ^ m := Nat.pow_le_pow_right (by decide) h
theorem sett_bit (p : Nat → Bool) : ∀ n k, k < n → hasB (sett p n) k = p k
  | 0, k, h => by omega
  | n + 1, k, h => by
    have hl := sett_lt p n
    by_cases hk : k = n
    · subst hk
      unfold hasB
      rw [sett]
      by_cases hp : p k = true
      · rw [if_pos hp, hp]
        have : (sett p k + 2 ^ k) / 2 ^ k = 1 := by
          rw [Nat.add_div_right _ (Nat.two_pow_pos k), Nat.div_eq_of_lt hl]
        rw [this]
        rfl
      · rw [if_neg hp, Nat.add_zero, Nat.div_eq_of_lt hl]
        cases h3 : p k
        · rfl
        · exact absurd h3 hp
    · have ih := sett_bit p n k (by omega)
      unfold hasB at ih ⊢
      rw [sett]
      by_cases hp : p n = true
      · rw [if_pos hp]
        have e : 2 ^ n = 2 ^ k * (2 * 2 ^ (n - k - 1)) := by
          rw [← Nat.pow_succ', ← Nat.pow_add]
          congr 1
          omega
        have : (sett p n + 2 ^ n) / 2 ^ k % 2 = sett p n / 2 ^ k % 2 := by
          rw [e, Nat.add_mul_div_left _ _ (Nat.two_pow_pos k), Nat.add_mul_mod_self_left]
        rw [this, ih]
      · rw [if_neg hp, Nat.add_zero, ih]
theorem cntP_le (p : Nat → Bool) : ∀ n, cntP p n ≤ n
  | 0 => Nat.le_refl 0
  | n + 1 => by
    have := cntP_le p n
    rw [cntP]
    split <;> omega
theorem sumP_le (p : Nat → Bool) (f : Nat → Nat) (c : Nat) : ∀ n, (∀ i, i < n → f i ≤ c) → sumP p f n ≤ n * c
  | 0, _ => by simp [sumP]
  | n + 1, h => by
    have h1 := sumP_le p f c n (fun i hi => h i (by omega))
    have h2 := h n (by omega)
    rw [sumP, Nat.succ_mul]
    split <;> omega
theorem sl_k : ∀ k, k < 32 → ((nI k &&& nI 31).toBitVec.smod 32).toNat = k := by decide
theorem bit_n {s k : Nat} (hs : s < 2 ^ 31) (hk : k < 31) : (nI s >>> (nI k &&& nI 31)) &&& nI 1 = nI (s / 2 ^ k % 2) := by
  rw [pk_shrN hs _ k (sl_k k (by omega)), pk_andN (Nat.lt_of_le_of_lt (Nat.div_le_self _ _) (by omega)) (m := nI 1) 1 (by decide)]
theorem shl_n {k : Nat} (hk : k < 31) : nI 1 <<< (nI k &&& nI 31) = nI (2 ^ k) := by
  rw [pk_shlN _ k (sl_k k (by omega)) (by rw [Nat.one_mul]; exact Nat.pow_lt_pow_right (by decide) (by omega)), Nat.one_mul]
theorem or_n (a b : Nat) : nI a ||| nI b = nI (a ||| b) := by
  apply Int32.toBitVec_inj.mp
  show BitVec.ofNat 32 a ||| BitVec.ofNat 32 b = BitVec.ofNat 32 (a ||| b)
  rw [BitVec.ofNat_or]
theorem and_n (a b : Nat) : nI a &&& nI b = nI (a &&& b) := by
  apply Int32.toBitVec_inj.mp
  show BitVec.ofNat 32 a &&& BitVec.ofNat 32 b = BitVec.ofNat 32 (a &&& b)
  rw [BitVec.ofNat_and]
theorem c_inSet {s k : Nat} (hs : s < 2 ^ 31) (hk : k < 31) (mem : Mem) : X6_inSet (nI s) (nI k) mem = some (b2 (hasB s k = true), mem) := by
  unfold X6_inSet
  rw [L32 31, L32 1, L32 0, bit_n hs hk]
  have h2 : s / 2 ^ k % 2 < 2 := Nat.mod_lt _ (by decide)
  simp (disch := omega) only [chk_1, chk_0, nI_eq, b2_some, hasB, decide_eq_true_eq]
theorem m_has {s k : Nat} (hs : s < 2 ^ 31) (hk : k < 31) (mem : Mem) : X7_has (nI s) (nI k) mem = some (b2 (hasB s k = true), mem) := by
  unfold X7_has
  rw [L32 31, L32 1, L32 0, bit_n hs hk]
  have h2 : s / 2 ^ k % 2 < 2 := Nat.mod_lt _ (by decide)
  simp (disch := omega) only [chk_1, chk_0, nI_eq, b2_some, hasB, decide_eq_true_eq]
/-! ranges -/
theorem rng (a : Int32) (n : Nat) (hn : n < 2 ^ 31) : (∃ l, l < n ∧ a = nI l) ∨ ¬ (0 ≤ a.toInt ∧ a.toInt < n) := by
  by_cases h : 0 ≤ a.toInt ∧ a.toInt < n
  · obtain ⟨j, h1, h2⟩ := vp_in_of (x := a) (n := n) (vp_in_iff.mpr h) hn
    exact Or.inl ⟨j, h1, h2⟩
  · exact Or.inr h
theorem m_in (x y z : Int64) (mem : Mem) : X7_in x y z mem = some (b2 (y.toInt ≤ x.toInt ∧ x.toInt ≤ z.toInt), mem) := by
  unfold X7_in
  rw [L32 1, L32 0]
  simp only [chk_1, chk_0]
  by_cases h1 : y.toInt ≤ x.toInt
  · have e1 : ¬ lg_cmp x y < nI 0 := by
      have := (lg_cmp_ge x y).mpr (Int64.le_iff_toInt_le.mpr h1)
      exact Int32.not_lt.mpr this
    rw [if_neg e1]
    by_cases h2 : x.toInt ≤ z.toInt
    · have e2 : ¬ nI 0 < lg_cmp x z := by
        have := (lg_cmp_le x z).mpr (Int64.le_iff_toInt_le.mpr h2)
        exact Int32.not_lt.mpr this
      rw [if_neg e2, b2_t ⟨h1, h2⟩]
    · have e2 : nI 0 < lg_cmp x z := by
        apply Int32.not_le.mp
        intro q
        exact h2 (Int64.le_iff_toInt_le.mp ((lg_cmp_le x z).mp q))
      rw [if_pos e2, b2_f (fun q => h2 q.2)]
  · have e1 : lg_cmp x y < nI 0 := by
      apply Int32.not_le.mp
      intro q
      exact h1 (Int64.le_iff_toInt_le.mp ((lg_cmp_ge x y).mp q))
    rw [if_pos e1, b2_f (fun q => h1 q.1)]
theorem i64i (a : Int32) : a.toInt64.toInt = a.toInt := Int32.toInt_toInt64 a
theorem m_in32 (a b : Int32) (k : Nat) (hk : k < 2 ^ 31) (mem : Mem) : X7_in a.toInt64 (lN k) b.toInt64 mem = some (b2 ((k : Int) ≤ a.toInt ∧ a.toInt ≤ b.toInt), mem) := by
  rw [m_in]
  simp only [i64i, lN_toInt hk]
theorem m_inc (a : Int32) (k j : Nat) (hk : k < 2 ^ 31) (hj : j < 2 ^ 31) (mem : Mem) : X7_in a.toInt64 (lN k) (lN j) mem = some (b2 ((k : Int) ≤ a.toInt ∧ a.toInt ≤ (j : Int)), mem) := by
  rw [m_in]
  simp only [i64i, lN_toInt hk, lN_toInt hj]
theorem L64 (n : Nat) : (OfNat.ofNat n : Int64) = lN n := by
  apply Int64.toBitVec_inj.mp
  rfl
section OFF2
variable {mem : Mem} {g : Nat → Nat} {t : Nat}
theorem c_hasLetter_y (hC : CO mem 7 g) (hO : OkG t g) {l : Nat} (hl : l < g 2) : X3_hasLetter 7 (nI l) mem = some (nI 1, mem) := by
  have h2 := hO.1
  unfold X3_hasLetter
  simp (disch := omega) only [hC.1.2.2.2.1, L32, nI_ltI, chk_1, chk_0]
  rw [if_neg (by omega), if_pos hl]
theorem c_hasReader_y (hC : CO mem 7 g) (hO : OkG t g) {l : Nat} (hl : l < g 3) : X3_hasReader 7 (nI l) mem = some (nI 1, mem) := by
  have h2 := hO.1
  unfold X3_hasReader
  simp (disch := omega) only [hC.1.2.2.2.2, L32, nI_ltI, chk_1, chk_0]
  rw [if_neg (by omega), if_pos hl]
theorem c_hasLetter_n (hC : CO mem 7 g) (hO : OkG t g) {a : Int32} (ha : ¬ (0 ≤ a.toInt ∧ a.toInt < g 2)) : X3_hasLetter 7 a mem = some (nI 0, mem) := by
  have h2 := hO.1
  unfold X3_hasLetter
  simp only [hC.1.2.2.2.1, L32, chk_1, chk_0, Int32.lt_iff_toInt_lt, nI_toInt (n := 0) (by decide), nI_toInt (n := g 2) (by omega)]
  by_cases h : a.toInt < (0 : Nat)
  · rw [if_pos h]
  · rw [if_neg h, if_neg (by omega)]
theorem c_hasReader_n (hC : CO mem 7 g) (hO : OkG t g) {a : Int32} (ha : ¬ (0 ≤ a.toInt ∧ a.toInt < g 3)) : X3_hasReader 7 a mem = some (nI 0, mem) := by
  have h2 := hO.1
  unfold X3_hasReader
  simp only [hC.1.2.2.2.2, L32, chk_1, chk_0, Int32.lt_iff_toInt_lt, nI_toInt (n := 0) (by decide), nI_toInt (n := g 3) (by omega)]
  by_cases h : a.toInt < (0 : Nat)
  · rw [if_pos h]
  · rw [if_neg h, if_neg (by omega)]
theorem m_letters (hM : MO mem g) : X7_letters 57 mem = some (nI (g 2), mem) := by
  unfold X7_letters
  simp (disch := omega) only [rfs, L32, al, hM 2]
theorem m_readers (hM : MO mem g) : X7_readers 57 mem = some (nI (g 3), mem) := by
  unfold X7_readers
  simp (disch := omega) only [rfs, L32, al, hM 3]
theorem m_isLetter (hM : MO mem g) (hO : OkG t g) (a : Int32) : X7_isLetter 57 a mem = some (b2 (0 ≤ a.toInt ∧ a.toInt < g 2), mem) := by
  have h2 := hO.1
  have e : (nI (g 2) - nI 1).toInt = (g 2 : Int) - 1 := pk_sub_toInt (by omega) (by omega)
  unfold X7_isLetter
  simp (disch := omega) only [m_letters hM, cll_s, L32, L64, m_in32, chk_b2, e]
  congr 2
  unfold b2
  congr 1
  apply propext
  omega
theorem m_isReader (hM : MO mem g) (hO : OkG t g) (a : Int32) : X7_isReader 57 a mem = some (b2 (0 ≤ a.toInt ∧ a.toInt < g 3), mem) := by
  have h2 := hO.1
  have e : (nI (g 3) - nI 1).toInt = (g 3 : Int) - 1 := pk_sub_toInt (by omega) (by omega)
  unfold X7_isReader
  simp (disch := omega) only [m_readers hM, cll_s, L32, L64, m_in32, chk_b2, e]
  congr 2
  unfold b2
  congr 1
  apply propext
  omega
theorem in_n {l n : Nat} (h : l < n) (hn : n < 2 ^ 31) : 0 ≤ (nI l).toInt ∧ (nI l).toInt < n := by
  rw [nI_toInt (by omega)]
  omega
def aliveB (g : Nat → Nat) (r : Nat) : Bool := decide (g (31 + r) < g (27 + r))
def fitB (g : Nat → Nat) (r : Nat) : Bool := decide (g (31 + r) < g (27 + r) ∧ g (31 + r) < g 1)
theorem c_alive (hC : CO mem 7 g) (hO : OkG t g) {r : Nat} (hr : r < g 3) : X3_isAlive 7 (nI r) mem = some (b2 (aliveB g r = true), mem) := by
  rw [c_isAlive hC hO hr]
  simp only [aliveB, decide_eq_true_eq]
theorem m_aliveR (hM : MO mem g) (hO : OkG t g) {r : Nat} (hr : r < g 3) : X7_isAlive 57 (nI r) mem = some (b2 (aliveB g r = true), mem) := by
  rw [m_isAlive hM hO hr]
  simp only [aliveB, decide_eq_true_eq]
theorem b2_some2 {ρ : Type} {p q : Prop} [Decidable p] [Decidable q] {m : ρ} : (if p then (if q then some (nI 1, m) else some (nI 0, m)) else some (nI 0, m)) = some (b2 (p ∧ q), m) := by
  by_cases h : p
  · by_cases h2 : q
    · rw [if_pos h, if_pos h2, b2_t ⟨h, h2⟩]
    · rw [if_pos h, if_neg h2, b2_f (fun z => h2 z.2)]
  · rw [if_neg h, b2_f (fun z => h z.1)]
theorem c_fit (hC : CO mem 7 g) (hO : OkG t g) {r : Nat} (hr : r < g 3) : X3_isFit 7 (nI r) mem = some (b2 (fitB g r = true), mem) := by
  have h1 := hO.2.2.1 r hr
  have h2 := hO.1
  have h3 := hC.2.2.1 r hr
  unfold X3_isFit
  simp (disch := omega) only [c_isAlive hC hO hr, cll_s, rfs, al, h3, hC.1.2.1, L32, b2_0, nI_ltI, chk_1, chk_0, b2_some2, fitB, decide_eq_true_eq, ite_not]
theorem m_fitR (hM : MO mem g) (hO : OkG t g) {r : Nat} (hr : r < g 3) : X7_isFit 57 (nI r) mem = some (b2 (fitB g r = true), mem) := by
  have h1 := hO.2.2.1 r hr
  have h2 := hO.1
  have h3 := hM (31 + r) (by omega)
  have h4 := hM 1 (by omega)
  unfold X7_isFit X7_age
  simp (disch := omega) only [m_isAlive hM hO hr, cll_s, rfs, al, h3, h4, L32, nI_add, b2_0, nI_ltI, chk_1, chk_0, b2_some2, fitB, decide_eq_true_eq]
end OFF2
