/-! ===== PURE: ages, one told day on the class's side, all sets ===== -/
def cj (j : Nat) : Int32 := if j = 0 then -nI 1 else nI (j - 1)
theorem cj_s (s : Nat) (h : s < 64) : nI s + -1 = cj s := by
  unfold cj
  by_cases e : s = 0
  · rw [if_pos e, e]; decide
  · rw [if_neg e, show (-1 : Int32) = -nI 1 from rfl, nI_subm (by omega) (by omega)]
section AG2
variable {g : Nat → Nat} {t : Nat}
theorem c_tell_l {x a : Int32} {e0 : Bool} {el : Nat → Bool} {A : Nat → Nat} (hO : OkG t g) (he0 : (x = a) ↔ e0 = true) (hel : ∀ l, l < g 2 → ((x + nI (fcN (g (5 + l)) (g (11 + l))) = a) ↔ el l = true)) : ∀ (j n : Nat) (mem : Mem), CO mem 7 g → j ≤ 64 → (∀ z, z < j → mem 54 z = nI (A z)) → j + 1 ≤ n → ∃ m', X2_tellAge_b4 51 7 n x a (cj j) mem = some ((), m') ∧ (∀ q, q ≠ 54 → m' q = mem q) ∧ (∀ z, z < j → m' 54 z = nI (stpN g e0 el A z (g 2))) ∧ ∀ z, j ≤ z → m' 54 z = mem 54 z := by
  have h2 := hO.1
  intro j
  induction j with
  | zero =>
    intro n mem hC h1 hA h4
    obtain ⟨n, rfl, h5⟩ := succ_of (k := 0) h4
    refine ⟨mem, ?_, fun _ _ => rfl, fun z hz => absurd hz (Nat.not_lt_zero z), fun _ _ => rfl⟩
    rw [X2_tellAge_b4]
    dsimp only
    rw [if_pos (show cj 0 < (0 : Int32) from m1_lt0)]
  | succ j ih =>
    intro n mem hC h1 hA h4
    obtain ⟨n, rfl, h5⟩ := succ_of (k := j + 1) h4
    have hc : cj (j + 1) = nI j := if_neg (by omega)
    obtain ⟨m', e1, e2, e3, e4⟩ := ih n (st2 mem 54 j (nI (stpN g e0 el A j (g 2)))) (hC.fr fun q _ _ => st2_k (by omega)) (by omega) (fun z hz => by rw [st2_i (by omega)]; exact hA z (by omega)) h5
    refine ⟨m', ?_, fun q hq => by rw [e2 q hq, st2_k hq], fun z hz => ?_, fun z hz => by rw [e4 z (by omega), st2_i (by omega)]⟩
    · rw [X2_tellAge_b4]
      dsimp only
      rw [hc, if_neg (show ¬ nI j < (0 : Int32) from nI_lt0 (by omega))]
      have hin := c_tell_in (e0 := e0) (A := A) (s := j) hO (by omega) hel (X2_tellAge_b4 51 7 n) (g 2 + 1) 0 fu mem hC (fun z hz => hA z (by omega)) (by omega) (by omega) (fu_ge (by omega))
      rw [cj_s j (by omega)] at hin
      unfold X2_tellAge_b25
      by_cases h : x = a
      · rw [if_pos h, show rf 51 2 = 54 from rfl, ald_n (by simp only [lns]; omega) (by decide), hA j (by omega)]
        rw [show stpN g e0 el A j 0 = A j from by unfold stpN; rw [if_pos (he0.mp h)]; rfl] at hin
        exact hin.trans e1
      · rw [if_neg h]
        rw [show stpN g e0 el A j 0 = 0 from by unfold stpN; rw [if_neg (fun z => h (he0.mpr z))]; rfl] at hin
        exact hin.trans e1
    · by_cases e : z = j
      · rw [e, e4 j (Nat.le_refl j), st2_s]
      · exact e3 z (by omega)
theorem c_tell {x a : Int32} {e0 : Bool} {el : Nat → Bool} {A : Nat → Nat} {mem : Mem} (hC : CO mem 7 g) (hO : OkG t g) (he0 : (x = a) ↔ e0 = true) (hel : ∀ l, l < g 2 → ((x + nI (fcN (g (5 + l)) (g (11 + l))) = a) ↔ el l = true)) (hA : ∀ z, z < 64 → mem 54 z = nI (A z)) : ∃ m', X2_tellAge 51 7 x a mem = some ((), m') ∧ (∀ q, q ≠ 54 → m' q = mem q) ∧ ∀ z, z < 64 → m' 54 z = nI (stpN g e0 el A z (g 2)) := by
  obtain ⟨m', e1, e2, e3, _⟩ := c_tell_l hO he0 hel 64 fu mem hC (by omega) hA (fu_ge (by omega))
  refine ⟨m', ?_, e2, e3⟩
  unfold X2_tellAge
  exact e1
end AG2
