/-! ===== PURE: ages, an array filled with one number ===== -/
theorem fill_l {k N : Nat} (hN : ln k = N) (hN2 : N < 2 ^ 20) (v : Int32) : ∀ (c i n : Nat) (mem : Mem), i ≤ N → N - i < c → c ≤ n → ∃ m', J7_fill_53178_b5 k n v (nI i) (nI N) mem = some ((), m') ∧ (∀ q, q ≠ k → m' q = mem q) ∧ ∀ z, m' k z = if i ≤ z ∧ z < N then v else mem k z := by
  intro c
  induction c with
  | zero => intro i n mem h1 h2; omega
  | succ c ih =>
    intro i n mem h1 h3 h4
    obtain ⟨n, rfl, h5⟩ := succ_of h4
    rw [J7_fill_53178_b5]
    dsimp only
    have hz : (nI i < nI N) = (i < N) := by rw [nI_ltI (by omega) (by omega)]
    by_cases hlt : i < N
    · obtain ⟨m', e1, e2, e3⟩ := ih (i + 1) n (st2 mem k i v) (by omega) (by omega) (by omega)
      refine ⟨m', ?_, fun q hq => by rw [e2 q hq, st2_k hq], fun z => ?_⟩
      · rw [if_pos (hz.mpr hlt), ast_n (by omega) (by omega), show (1 : Int32) = nI 1 from rfl, nI_add]
        exact e1
      · rw [e3 z]
        by_cases h6 : i ≤ z ∧ z < N
        · rw [if_pos h6]
          by_cases h7 : z = i
          · rw [if_neg (show ¬ (i + 1 ≤ z ∧ z < N) by omega), h7, st2_s]
          · rw [if_pos (show i + 1 ≤ z ∧ z < N by omega)]
        · rw [if_neg h6, if_neg (show ¬ (i + 1 ≤ z ∧ z < N) by omega), st2_i (by omega)]
    · refine ⟨mem, ?_, fun _ _ => rfl, fun z => by rw [if_neg (by omega)]⟩
      rw [if_neg (fun z => hlt (hz.mp z))]
theorem fill_r {k N : Nat} (hN : ln k = N) (hN2 : N < 1000) (v : Int32) (mem : Mem) : ∃ m', J7_fill_53178 k v mem = some ((), m') ∧ (∀ q, q ≠ k → m' q = mem q) ∧ ∀ z, z < N → m' k z = v := by
  obtain ⟨m', e1, e2, e3⟩ := fill_l hN (by omega) v (N + 1) 0 fu mem (by omega) (by omega) (fu_ge (by omega))
  refine ⟨m', ?_, e2, fun z hz => by rw [e3 z, if_pos ⟨Nat.zero_le z, hz⟩]⟩
  unfold J7_fill_53178
  rw [hN]
  exact e1
/-! ===== PURE: ages, the told days ===== -/
def ag0 (s : Nat) : Nat := if s = 0 then 1 else 0
def agC (X : Nat → Int32) (c0 : Int32) : Nat → Int32
  | 0 => c0
  | k + 1 => X k + nI 1
def agA (g : Nat → Nat) (X : Nat → Int32) (c0 : Int32) : Nat → Nat → Nat
  | 0 => ag0
  | k + 1 => fun s => stpN g (decide (agC X c0 k = X k)) (fun l => decide (agC X c0 k + nI (fcN (g (5 + l)) (g (11 + l))) = X k)) (agA g X c0 k) s (g 2)
section AW1
variable {g : Nat → Nat} {t : Nat}
theorem c_walk_l {row i N : Nat} {X : Nat → Int32} {c0 : Int32} (hO : OkG t g) (hr : row < 8) (hi : i + N ≤ 40) : ∀ (k x n : Nat) (mem : Mem), CO mem 7 g → (∀ j, j < N → mem 4 (row * 40 + (i + j)) = X j) → (∀ z, z < 64 → mem 54 z = nI (agA g X c0 x z)) → x ≤ N → N - x < k → k ≤ n → ∃ m', X6_ages_b96 0 n (nI row) (nI i) (nI N) (agC X c0 x) (nI x) mem = some (nI (suN (agA g X c0 N) 64), st2 m' 0 10 (nI 0)) ∧ ∀ q, q ≠ 54 → m' q = mem q := by
  intro k
  induction k with
  | zero => intro x n mem _ _ _ h1 h2; omega
  | succ k ih =>
    intro x n mem hC hX hA h1 h3 h4
    obtain ⟨n, rfl, h5⟩ := succ_of h4
    rw [X6_ages_b96]
    dsimp only
    have hz : (nI x < nI N) = (x < N) := by rw [nI_ltI (by omega) (by omega)]
    by_cases hlt : x < N
    · obtain ⟨m1, p1, p2, p3⟩ := c_tell (x := agC X c0 x) (a := X x) (e0 := decide (agC X c0 x = X x)) (el := fun l => decide (agC X c0 x + nI (fcN (g (5 + l)) (g (11 + l))) = X x)) (A := agA g X c0 x) hC hO (by rw [decide_eq_true_iff]) (fun l _ => by rw [decide_eq_true_iff]) hA
      obtain ⟨m', e1, e2⟩ := ih (x + 1) n m1 (hC.fr fun q _ _ => p2 q (by omega)) (fun j hj => by rw [p2 4 (by omega)]; exact hX j hj) (fun z hz => p3 z hz) (by omega) (by omega) (by omega)
      refine ⟨m', ?_, fun q hq => by rw [e2 q hq, p2 q hq]⟩
      rw [if_pos (hz.mpr hlt)]
      unfold X4_item
      have hidx : nI row * 40 + nI (i + x) = nI (row * 40 + (i + x)) := by simp (disch := omega) only [L32, pk_mul, nI_add]
      rw [show rf (rf 0 0) 2 = 4 from rfl, show rf 0 7 = 51 from rfl, show rf 0 2 = 7 from rfl, nI_add, hidx, ald_n (by simp only [lns]; omega) (by decide), hX x hlt, cll_s, p1, cll_s, show (1 : Int32) = nI 1 from rfl, nI_add]
      exact e1
    · have hE : x = N := by omega
      refine ⟨mem, ?_, fun _ _ => rfl⟩
      have e := c_ways_l hA 65 0 fu (by omega) (by omega) (fu_ge (by omega))
      rw [if_neg (fun z => hlt (hz.mp z))]
      unfold X2_waysToRead X6_foundNothing
      rw [show rf 0 7 = 51 from rfl, show (0 : Int32) = nI 0 from rfl]
      rw [show X2_waysToRead_b4 51 fu (nI 0) (nI 0) mem = _ from e, cll_s, hE, cll_s]
end AW1
