/-! ===== PURE: ages, what is scattered so far ===== -/
def pdB (el : Nat → Bool) (s0 l0 s l : Nat) : Bool := hasB s l && el l && (decide (s - 2 ^ l < s0) || (decide (s - 2 ^ l = s0) && decide (l < l0)))
def scN (g : Nat → Nat) (e0 : Bool) (el : Nat → Bool) (B : Nat → Nat) (s0 l0 s : Nat) : Nat := (if e0 = true then B s else 0) + sumP (pdB el s0 l0 s) (fun l => B (s - 2 ^ l)) (g 2)
section AG3
variable {g : Nat → Nat} {e0 : Bool} {el : Nat → Bool} {B : Nat → Nat}
theorem pd_step {s0 l0 s l : Nat} (h : ¬ (l = l0 ∧ s - 2 ^ l = s0)) : pdB el s0 (l0 + 1) s l = pdB el s0 l0 s l := by
  unfold pdB
  by_cases e : s - 2 ^ l = s0
  · have : l ≠ l0 := fun z => h ⟨z, e⟩
    rw [show decide (l < l0 + 1) = decide (l < l0) from decide_eq_decide.mpr (by omega)]
  · rw [decide_eq_false e]
    simp
theorem sc_same {s0 l0 s : Nat} (hg : g 2 ≤ 6) (hs : s < 64) (h : hasB s0 l0 = true ∨ el l0 = false) : scN g e0 el B s0 (l0 + 1) s = scN g e0 el B s0 l0 s := by
  unfold scN
  congr 1
  refine sumP_congr _ (fun l hl => ?_) (fun _ _ _ => rfl)
  by_cases e : l = l0 ∧ s - 2 ^ l = s0
  · obtain ⟨e1, e2⟩ := e
    unfold pdB
    rcases h with h | h
    · by_cases hb : hasB s l = true
      · have := bit_sub s hs l (by omega) hb
        rw [e2, e1, h] at this
        cases this
      · have hb2 : hasB s l = false := by simpa using hb
        rw [hb2]
        rfl
    · rw [e1, h]
      simp
  · exact pd_step e
theorem sc_next {s0 s : Nat} : scN g e0 el B s0 (g 2) s = scN g e0 el B (s0 + 1) 0 s := by
  unfold scN
  congr 1
  refine sumP_congr _ (fun l hl => ?_) (fun _ _ _ => rfl)
  unfold pdB
  rw [decide_eq_true hl]
  congr 1
  by_cases e : s - 2 ^ l < s0
  · rw [decide_eq_true e, decide_eq_true (show s - 2 ^ l < s0 + 1 by omega)]; rfl
  · by_cases e2 : s - 2 ^ l = s0
    · rw [decide_eq_false e, decide_eq_true e2, decide_eq_true (show s - 2 ^ l < s0 + 1 by omega)]; rfl
    · rw [decide_eq_false e, decide_eq_false e2, decide_eq_false (show ¬ s - 2 ^ l < s0 + 1 by omega)]; simp
theorem sc_0 {s : Nat} : scN g e0 el B 0 0 s = if e0 = true then B s else 0 := by
  unfold scN
  rw [sumP_no (g 2) (fun l _ => by unfold pdB; simp), Nat.add_zero]
theorem sc_64 {s : Nat} (hs : s < 64) : scN g e0 el B 64 0 s = stpN g e0 el B s (g 2) := by
  unfold scN stpN
  congr 1
  refine sumP_congr _ (fun l hl => ?_) (fun _ _ _ => rfl)
  unfold pdB
  rw [decide_eq_true (show s - 2 ^ l < 64 from Nat.lt_of_le_of_lt (Nat.sub_le _ _) hs)]
  simp
end AG3
