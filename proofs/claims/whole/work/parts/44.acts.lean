/-! ===== PURE: what is kept of the acts ===== -/
section AC1
variable {mem : Mem} {g : Nat → Nat} {t : Nat}
theorem m_put_l (k0 : Nat) (h0 : ln k0 < 2 ^ 31) (hk0 : k0 ≠ 62) {a : Nat} (ha : a + 63 ≤ ln k0) : ∀ (k i n : Nat) (mem : Mem), i ≤ 63 → 63 - i < k → k ≤ n → ∃ m', X7_putInto_b2 57 k0 n (nI a) (nI i) mem = some ((), m') ∧ (∀ q, q ≠ k0 → m' q = mem q) ∧ ∀ x, m' k0 x = if a + i ≤ x ∧ x < a + 63 then mem 62 (x - a) else mem k0 x := by
  intro k
  induction k with
  | zero => intro i n mem h1 h2; omega
  | succ k ih =>
    intro i n mem h1 h3 h4
    obtain ⟨n, rfl, h5⟩ := succ_of h4
    rw [X7_putInto_b2]
    by_cases hlt : i < 63
    · obtain ⟨m', e1, e2, e3⟩ := ih (i + 1) n (st2 mem k0 (a + i) (mem 62 i)) (by omega) (by omega) (by omega)
      refine ⟨m', ?_, fun q hq => by rw [e2 q hq, st2_k hq], fun x => ?_⟩
      · simp (disch := omega) only [rfs, L32, nI_ltI, hlt, if_true, nI_add, al]
        rw [ast_n (by omega) h0]
        exact e1
      · rw [e3 x, st2_k (q := 62) (Ne.symm hk0), st2_at]
        by_cases h6 : a + i ≤ x ∧ x < a + 63
        · rw [if_pos h6]
          by_cases h7 : x = a + i
          · rw [if_neg (by omega), if_pos ⟨rfl, h7⟩, h7, show a + i - a = i by omega]
          · rw [if_pos (by omega)]
        · rw [if_neg h6, if_neg (by omega), if_neg (by omega)]
    · refine ⟨mem, ?_, fun _ _ => rfl, fun j => by rw [if_neg (by omega)]⟩
      simp (disch := omega) only [L32, nI_ltI, hlt, if_false]
theorem m_take_l (k0 : Nat) (h0 : ln k0 < 2 ^ 31) (hk0 : k0 ≠ 62) {a : Nat} (ha : a + 63 ≤ ln k0) : ∀ (k i n : Nat) (mem : Mem), i ≤ 63 → 63 - i < k → k ≤ n → ∃ m', X7_takeFrom_b2 57 k0 n (nI a) (nI i) mem = some ((), m') ∧ (∀ q, q ≠ 62 → m' q = mem q) ∧ ∀ x, m' 62 x = if i ≤ x ∧ x < 63 then mem k0 (a + x) else mem 62 x := by
  intro k
  induction k with
  | zero => intro i n mem h1 h2; omega
  | succ k ih =>
    intro i n mem h1 h3 h4
    obtain ⟨n, rfl, h5⟩ := succ_of h4
    rw [X7_takeFrom_b2]
    by_cases hlt : i < 63
    · obtain ⟨m', e1, e2, e3⟩ := ih (i + 1) n (st2 mem 62 i (mem k0 (a + i))) (by omega) (by omega) (by omega)
      refine ⟨m', ?_, fun q hq => by rw [e2 q hq, st2_k hq], fun x => ?_⟩
      · simp (disch := omega) only [rfs, L32, nI_ltI, hlt, if_true, nI_add]
        rw [ald_n (by omega) h0]
        simp (disch := omega) only [as_]
        exact e1
      · rw [e3 x, st2_k (q := k0) hk0, st2_at]
        by_cases h6 : i ≤ x ∧ x < 63
        · rw [if_pos h6]
          by_cases h7 : x = i
          · rw [if_neg (by omega), if_pos ⟨rfl, h7⟩, h7]
          · rw [if_pos (by omega)]
        · rw [if_neg h6, if_neg (by omega), if_neg (by omega)]
    · refine ⟨mem, ?_, fun _ _ => rfl, fun j => by rw [if_neg (by omega)]⟩
      simp (disch := omega) only [L32, nI_ltI, hlt, if_false]
/-- the reference's past, moved up by one act -/
theorem m_shift_l : ∀ (k i n : Nat) (mem : Mem), 63 ≤ i → i ≤ 1512 → 1512 - i < k → k ≤ n → ∃ m', X7_remember_b12 57 n (nI i) mem = X7_remember_b50 57 (st2 m' 57 13 (m' 57 13 - nI 1)) ∧ (∀ q, q ≠ 65 → m' q = mem q) ∧ ∀ x, m' 65 x = if i ≤ x + 63 ∧ x + 63 < 1512 then mem 65 (x + 63) else mem 65 x := by
  intro k
  induction k with
  | zero => intro i n mem h0 h1 h2; omega
  | succ k ih =>
    intro i n mem h0 h1 h3 h4
    obtain ⟨n, rfl, h5⟩ := succ_of h4
    rw [X7_remember_b12]
    by_cases hlt : i < 1512
    · obtain ⟨m', e1, e2, e3⟩ := ih (i + 1) n (st2 mem 65 (i - 63) (mem 65 i)) (by omega) (by omega) (by omega) (by omega)
      refine ⟨m', ?_, fun q hq => by rw [e2 q hq, st2_k hq], fun x => ?_⟩
      · simp (disch := omega) only [rfs, L32, nI_ltI, hlt, if_true, nI_add, pk_sub, al, as_]
        exact e1
      · rw [e3 x, st2_at, st2_at]
        by_cases h6 : i ≤ x + 63 ∧ x + 63 < 1512
        · rw [if_pos h6]
          by_cases h7 : x + 63 = i
          · rw [if_neg (by omega), if_pos ⟨rfl, by omega⟩, h7]
          · rw [if_pos (by omega), if_neg (by omega)]
        · rw [if_neg h6, if_neg (by omega), if_neg (by omega)]
    · refine ⟨mem, ?_, fun _ _ => rfl, fun j => by rw [if_neg (by omega)]⟩
      simp (disch := omega) only [L32, nI_ltI, hlt, if_false]
def shF (K : Nat) : Nat := if K = 24 then 1 else 0
theorem m_remember (hM : MO mem g) {K : Nat} (hK : K ≤ 24) (h13 : mem 57 13 = nI K) : ∃ m', X7_remember 57 mem = some ((), m') ∧ (∀ q, q ≠ 65 → q ≠ 57 → m' q = mem q) ∧ (∀ j, j ≠ 13 → m' 57 j = mem 57 j) ∧ m' 57 13 = nI (K + 1 - shF K) ∧ (∀ i j, i < K - shF K → j < 63 → m' 65 (63 * i + j) = mem 65 (63 * (i + shF K) + j)) ∧ ∀ j, j < 63 → m' 65 (63 * (K - shF K) + j) = nI (g j) := by
  have key : ∀ (Z : Nat) (mm : Mem), Z ≤ 23 → mm 57 13 = nI Z → ∃ m', X7_remember_b50 57 mm = some ((), m') ∧ (∀ q, q ≠ 65 → q ≠ 57 → m' q = mm q) ∧ (∀ j, j ≠ 13 → m' 57 j = mm 57 j) ∧ m' 57 13 = nI (Z + 1) ∧ ∀ x, m' 65 x = if 63 * Z ≤ x ∧ x < 63 * Z + 63 then mm 62 (x - 63 * Z) else mm 65 x := by
    intro Z mm hZ h1
    obtain ⟨m', e1, e2, e3⟩ := m_put_l 65 (by decide) (by decide) (a := 63 * Z) (by simp only [lns]; omega) 64 0 fu mm (by omega) (by omega) (fu_ge (by omega))
    refine ⟨st2 m' 57 13 (nI (Z + 1)), ?_, fun q h3 h4 => by rw [st2_k h4, e2 q h3], fun j hj => by rw [st2_i hj, e2 57 (by omega)], st2_s, fun x => by rw [st2_k (by omega), e3 x]; rfl⟩
    unfold X7_remember_b50 X7_putInto
    simp (disch := omega) only [rfs, L32, h1, pk_mul, e1, cll_s, e2 57, nI_add]
  unfold X7_remember
  by_cases h24 : K = 24
  · subst h24
    obtain ⟨m1, p1, p2, p3⟩ := m_shift_l 1450 63 fu mem (by omega) (by omega) (by omega) (fu_ge (by omega))
    obtain ⟨m', e1, e2, e3, e4, e5⟩ := key 23 (st2 m1 57 13 (m1 57 13 - nI 1)) (by omega) (by rw [st2_s, p2 57 (by omega), h13]; exact (by decide : nI 24 - nI 1 = nI 23))
    refine ⟨m', ?_, fun q h3 h4 => by rw [e2 q h3 h4, st2_k h4, p2 q h3], fun j hj => by rw [e3 j hj, st2_i hj, p2 57 (by omega)], by rw [e4, show 24 + 1 - shF 24 = 23 + 1 by decide], fun i j hi hj => ?_, fun j hj => ?_⟩
    · rw [if_pos (h13.trans (L32 24).symm), L32 63, p1]
      exact e1
    · have hi2 : i < 23 := hi
      show m' 65 (63 * i + j) = mem 65 (63 * (i + 1) + j)
      rw [e5 (63 * i + j), if_neg (show ¬ (63 * 23 ≤ 63 * i + j ∧ 63 * i + j < 63 * 23 + 63) by omega), st2_k (show (65 : Nat) ≠ 57 by omega), p3 (63 * i + j), if_pos (show 63 ≤ 63 * i + j + 63 ∧ 63 * i + j + 63 < 1512 by omega), show 63 * i + j + 63 = 63 * (i + 1) + j by omega]
    · show m' 65 (63 * 23 + j) = nI (g j)
      rw [e5 (63 * 23 + j), if_pos (show 63 * 23 ≤ 63 * 23 + j ∧ 63 * 23 + j < 63 * 23 + 63 by omega), st2_k (show (62 : Nat) ≠ 57 by omega), p2 62 (by omega), show 63 * 23 + j - 63 * 23 = j by omega, hM j hj]
  · obtain ⟨m', e1, e2, e3, e4, e5⟩ := key K mem (by omega) h13
    have hs : shF K = 0 := if_neg h24
    refine ⟨m', ?_, e2, e3, by rw [e4, hs, Nat.sub_zero], fun i j hi hj => ?_, fun j hj => ?_⟩
    · simp (disch := omega) only [L32, h13, nI_eq, h24, if_false, e1]
    · rw [hs] at hi ⊢
      rw [e5, if_neg (by omega)]
      rfl
    · rw [hs, e5, if_pos (by omega), show 63 * (K - 0) + j - 63 * K = j by omega, hM j hj]
end AC1
