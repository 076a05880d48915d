/-! ===== PURE: burnt, the class's way ===== -/
def prF (s u c : Nat) (l : Nat) : Nat := if hasB s l = true then 10 - c else if hasB u l = true then c else 1
def prN (s u c : Nat) : Nat → Nat
  | 0 => 1
  | i + 1 => prN s u c i * prF s u c i
theorem prN_le {s u c : Nat} (hc : c ≤ 10) : ∀ i, prN s u c i ≤ 10 ^ i
  | 0 => Nat.le_refl 1
  | i + 1 => by
    have ih := prN_le (s := s) (u := u) hc i
    have h : prF s u c i ≤ 10 := by unfold prF; split; omega; split; omega; omega
    rw [prN, Nat.pow_succ]
    exact Nat.mul_le_mul ih h
theorem prN_pow (s u c : Nat) : ∀ i, prN s u c i = (10 - c) ^ cntP (hasB s) i * c ^ cntP (fun l => hasB u l && !hasB s l) i
  | 0 => rfl
  | i + 1 => by
    rw [prN, prN_pow s u c i, cntP, cntP]
    unfold prF
    by_cases h : hasB s i = true
    · rw [if_pos h, if_pos h, if_neg (by rw [h]; simp), Nat.pow_succ, Nat.add_zero]
      rw [Nat.mul_right_comm]
    · rw [if_neg h, if_neg h]
      by_cases h2 : hasB u i = true
      · rw [if_pos h2, if_pos (by simp [h, h2]), Nat.pow_succ, Nat.add_zero, Nat.mul_assoc]
      · rw [if_neg h2, if_neg (by simp [h2]), Nat.mul_one, Nat.add_zero, Nat.add_zero]
def sbT (R u s : Nat) : Bool := !decide (nI s &&& (nI u ^^^ -nI 1) = nI 0) || (decide (s ≤ u) && decide (cntP (hasB s) R = bits s) && decide (cntP (fun l => hasB u l && !hasB s l) R = bits (u - s)))
theorem sbT_all : ∀ R, R < 7 → ∀ u, u < 2 ^ R → ∀ s, s < 2 ^ R → sbT R u s = true := by decide +kernel
theorem sub_bits {R u s : Nat} (hR : R < 7) (hu : u < 2 ^ R) (hs : s < 2 ^ R) (h : nI s &&& (nI u ^^^ -nI 1) = nI 0) : s ≤ u ∧ cntP (hasB s) R = bits s ∧ cntP (fun l => hasB u l && !hasB s l) R = bits (u - s) := by
  have := sbT_all R hR u hu s hs
  unfold sbT at this
  simp only [h, decide_true, Bool.not_true, Bool.false_or, Bool.and_eq_true, decide_eq_true_eq] at this
  exact ⟨this.1.1, this.1.2, this.2⟩
theorem pow10 {b n : Nat} (hb : b ≤ 10) (hn : n ≤ 8) : b ^ n ≤ 100000000 := Nat.le_trans (Nat.pow_le_pow_left hb n) (Nat.le_trans (Nat.pow_le_pow_right (by decide) hn) (by decide))
section BU1
variable {mem : Mem} {g : Nat → Nat} {t : Nat}
theorem c_power_l {b N : Nat} (hb : b ≤ 10) (hN : N ≤ 8) : ∀ (k i n : Nat), i ≤ N → N - i < k → k ≤ n → X2_power_b5 51 n (nI b) (nI N) (nI (b ^ i)) (nI i) mem = some (nI (b ^ N), mem) := by
  intro k
  induction k with
  | zero => intro i n h1 h2; omega
  | succ k ih =>
    intro i n h1 h3 h4
    obtain ⟨n, rfl, h5⟩ := succ_of h4
    rw [X2_power_b5]
    by_cases hlt : i < N
    · have e := ih (i + 1) n (by omega) (by omega) (by omega)
      have h6 := pow10 (b := b) (n := i) hb (by omega)
      simp (disch := omega) only [nI_ltI, hlt, if_true, pk_mul, L32, nI_add]
      rw [← Nat.pow_succ]
      exact e
    · have hE : i = N := by omega
      simp (disch := omega) only [nI_ltI, hlt, if_false]
      rw [hE]
theorem c_power {b N : Nat} (hb : b ≤ 10) (hN : N ≤ 8) (mem : Mem) : X2_power 51 (nI b) (nI N) mem = some (nI (b ^ N), mem) := by
  unfold X2_power
  have := c_power_l (mem := mem) hb hN (N + 1) 0 fu (by omega) (by omega) (fu_ge (by omega))
  rw [Nat.pow_zero] at this
  simp only [L32]
  exact this
theorem gcd_half {x y : Nat} (hz : 0 < y) (hr : 0 < x % y) (k : Nat) (hy : y < 2 ^ (k + 1)) : y % (x % y) < 2 ^ k := by
  have h0 : 0 < y := by
    rcases Nat.eq_zero_or_pos y with h | h
    · exact absurd hz (by rw [h]; simp)
    · exact h
  have h1 := Nat.mod_lt x h0
  have h2 := Nat.mod_lt y hr
  rw [Nat.pow_succ] at hy
  by_cases h : x % y ≤ y / 2
  · omega
  · have : y % (x % y) = y - x % y := by
      rw [Nat.mod_eq_sub_mod (by omega), Nat.mod_eq_of_lt (by omega)]
    omega
theorem c_mod {x y : Nat} (hx : x < 2 ^ 30) (hy0 : 0 < y) (hy : y < 2 ^ 30) : nI x - nI x / nI y * nI y = nI (x % y) := by
  have h1 : x / y * y ≤ x := Nat.div_mul_le_self x y
  have h2 : x / y ≤ x := Nat.div_le_self x y
  rw [nI_div (by omega) hy0 (by omega), pk_mul, pk_sub (by omega)]
  congr 1
  rw [Nat.mod_eq_sub_mul_div, Nat.mul_comm]
theorem c_gcd_l : ∀ (k x y i n : Nat), x < 2 ^ 30 → y < 2 ^ 30 → y < 2 ^ k → i + 2 * k ≤ 63 → 2 * k + 2 ≤ n → X2_commonDivisor_b8 51 n (nI x) (nI y) (nI i) mem = some (nI (Nat.gcd y x), mem) := by
  intro k
  induction k with
  | zero =>
    intro x y i n hx hy30 hy hi hn
    obtain ⟨n, rfl, h5⟩ := succ_of (k := 1) (n := n) (by omega)
    have h0 : y = 0 := by omega
    rw [X2_commonDivisor_b8, h0, Nat.gcd_zero_left]
    simp (disch := omega) only [L32, nI_ltI, Nat.lt_irrefl, if_false]
    rw [if_pos (show i < 64 by omega)]
  | succ k ih =>
    intro x y i n hx hy30 hy hi hn
    obtain ⟨n, rfl, h5⟩ := succ_of (k := 2 * k + 3) (n := n) (by omega)
    rw [X2_commonDivisor_b8]
    by_cases h0 : y = 0
    · rw [h0, Nat.gcd_zero_left]
      simp (disch := omega) only [L32, nI_ltI, Nat.lt_irrefl, if_false]
      rw [if_pos (show i < 64 by omega)]
    · have hr := Nat.mod_lt x (show 0 < y by omega)
      have hne : ¬ nI y = nI 0 := nI_neN (by omega) (by omega) h0
      simp (disch := omega) only [L32, nI_ltI, c_mod, nI_add]
      rw [if_pos (show i < 64 by omega), if_pos (show 0 < y by omega), chk_t hne]
      obtain ⟨n, rfl, h6⟩ := succ_of (k := 2 * k + 2) (n := n) (by omega)
      rw [X2_commonDivisor_b8, Nat.gcd_rec y x]
      by_cases h1 : x % y = 0
      · rw [h1, Nat.gcd_zero_left]
        simp (disch := omega) only [L32, nI_ltI, Nat.lt_irrefl, if_false]
        rw [if_pos (show i + 1 < 64 by omega)]
      · have hne1 : ¬ nI (x % y) = nI 0 := nI_neN (by omega) (by omega) h1
        have hr2 := Nat.mod_lt y (show 0 < x % y by omega)
        have e := ih (x % y) (y % (x % y)) (i + 2) n (by omega) (by omega) (gcd_half (by omega) (by omega) k hy) (by omega) (by omega)
        simp (disch := omega) only [L32, nI_ltI, c_mod, nI_add]
        rw [if_pos (show i + 1 < 64 by omega), if_pos (show 0 < x % y by omega), chk_t hne1, Nat.gcd_rec (x % y) y]
        exact e
end BU1
