/-! ===== PURE: ages, the sums over all sets ===== -/
def suN (A : Nat → Nat) (i : Nat) : Nat := sumP (fun _ => true) A i
theorem suN_s (A : Nat → Nat) (i : Nat) : suN A (i + 1) = suN A i + A i := rfl
section AG8
variable {A : Nat → Nat} {mem : Mem}
theorem c_ways_l (hA : ∀ z, z < 64 → mem 54 z = nI (A z)) : ∀ (k i n : Nat), i ≤ 64 → 64 - i < k → k ≤ n → X2_waysToRead_b4 51 n (nI (suN A i)) (nI i) mem = some (nI (suN A 64), mem) := by
  intro k
  induction k with
  | zero => intro i n h1 h2; omega
  | succ k ih =>
    intro i n h1 h3 h4
    obtain ⟨n, rfl, h5⟩ := succ_of h4
    rw [X2_waysToRead_b4]
    dsimp only
    have hz : (nI i < (64 : Int32)) = (i < 64) := by rw [show (64 : Int32) = nI 64 from rfl, nI_ltI (by omega) (by omega)]
    by_cases hlt : i < 64
    · have e := ih (i + 1) n (by omega) (by omega) (by omega)
      rw [suN_s] at e
      rw [if_pos (hz.mpr hlt), show rf 51 2 = 54 from rfl, ald_n (by simp only [lns]; omega) (by decide), hA i hlt, nI_add, show (1 : Int32) = nI 1 from rfl, nI_add]
      exact e
    · have hE : i = 64 := by omega
      rw [if_neg (fun z => hlt (hz.mp z)), hE]
theorem m_ways_l (hA : ∀ z, z < 64 → mem 68 z = nI (A z)) : ∀ (k i n : Nat), i ≤ 64 → 64 - i < k → k ≤ n → X7_ages_b212 57 n (nI (suN A i)) (nI i) mem = some (nI (suN A 64), st2 mem 57 3 (nI 0)) := by
  intro k
  induction k with
  | zero => intro i n h1 h2; omega
  | succ k ih =>
    intro i n h1 h3 h4
    obtain ⟨n, rfl, h5⟩ := succ_of h4
    rw [X7_ages_b212]
    dsimp only
    have hz : (nI i < (64 : Int32)) = (i < 64) := by rw [show (64 : Int32) = nI 64 from rfl, nI_ltI (by omega) (by omega)]
    by_cases hlt : i < 64
    · have e := ih (i + 1) n (by omega) (by omega) (by omega)
      rw [suN_s] at e
      rw [if_pos (hz.mpr hlt), show rf 57 17 = 68 from rfl, ald_n (by simp only [lns]; omega) (by decide), hA i hlt, nI_add, show (1 : Int32) = nI 1 from rfl, nI_add]
      exact e
    · have hE : i = 64 := by omega
      rw [if_neg (fun z => hlt (hz.mp z)), hE]
      rfl
end AG8
