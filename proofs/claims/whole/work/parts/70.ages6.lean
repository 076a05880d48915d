/-! ===== PURE: ages, the reference's day, all sets ===== -/
section AG5
variable {g : Nat → Nat} {t : Nat} {e0 : Bool} {el : Nat → Bool} {B : Nat → Nat}
theorem m_on_cp : ∀ (k i n : Nat) (mem : Mem), i ≤ 64 → 64 - i < k → k ≤ n → ∃ m', X7_readOn_b130 57 n (nI i) mem = some ((), m') ∧ (∀ q, q ≠ 68 → m' q = mem q) ∧ ∀ z, m' 68 z = if i ≤ z ∧ z < 64 then mem 69 z else mem 68 z := by
  intro k
  induction k with
  | zero => intro i n mem h1 h2; omega
  | succ k ih =>
    intro i n mem h1 h3 h4
    obtain ⟨n, rfl, h5⟩ := succ_of h4
    rw [X7_readOn_b130]
    dsimp only
    have hz : (nI i < (64 : Int32)) = (i < 64) := by rw [show (64 : Int32) = nI 64 from rfl, nI_ltI (by omega) (by omega)]
    by_cases hlt : i < 64
    · obtain ⟨m', e1, e2, e3⟩ := ih (i + 1) n (st2 mem 68 i (mem 69 i)) (by omega) (by omega) (by omega)
      refine ⟨m', ?_, fun q hq => by rw [e2 q hq, st2_k hq], fun z => ?_⟩
      · rw [if_pos (hz.mpr hlt), show rf 57 18 = 69 from rfl, show rf 57 17 = 68 from rfl, ald_n (by simp only [lns]; omega) (by decide), ast_n (by simp only [lns]; omega) (by decide), show (1 : Int32) = nI 1 from rfl, nI_add]
        exact e1
      · rw [e3 z, st2_k (show (69 : Nat) ≠ 68 by omega), st2_at]
        by_cases h6 : i ≤ z ∧ z < 64
        · rw [if_pos h6]
          by_cases h7 : z = i
          · rw [if_neg (show ¬ (i + 1 ≤ z ∧ z < 64) by omega), if_pos ⟨rfl, h7⟩, h7]
          · rw [if_pos (show i + 1 ≤ z ∧ z < 64 by omega)]
        · rw [if_neg h6, if_neg (show ¬ (i + 1 ≤ z ∧ z < 64) by omega), if_neg (by omega)]
    · refine ⟨mem, ?_, fun _ _ => rfl, fun z => by rw [if_neg (by omega)]⟩
      rw [if_neg (fun z => hlt (hz.mp z))]
end AG5
