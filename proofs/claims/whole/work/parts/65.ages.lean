/-! ===== PURE: ages, one told day on the class's side ===== -/
def stpN (g : Nat → Nat) (e0 : Bool) (el : Nat → Bool) (A : Nat → Nat) (s i : Nat) : Nat := (if e0 = true then A s else 0) + sumP (fun l => hasB s l && el l) (fun l => A (s - 2 ^ l)) i
theorem bit_le : ∀ s, s < 64 → ∀ l, l < 6 → hasB s l = true → 2 ^ l ≤ s ∧ 1 ≤ 2 ^ l ∧ 2 ^ l ≤ 32 := by decide +kernel
section AG1
variable {g : Nat → Nat} {t : Nat}
theorem c_tell_in {x a : Int32} {s : Nat} {e0 : Bool} {el : Nat → Bool} {A : Nat → Nat} (hO : OkG t g) (hs : s < 64) (hel : ∀ l, l < g 2 → ((x + nI (fcN (g (5 + l)) (g (11 + l))) = a) ↔ el l = true)) (K : Int32 → Int32 → Int32 → Mem → Option (Unit × Mem)) : ∀ (k i n : Nat) (mem : Mem), CO mem 7 g → (∀ z, z ≤ s → mem 54 z = nI (A z)) → i ≤ g 2 → g 2 - i < k → k ≤ n → X2_tellAge_b30 51 7 K n x a (nI s) (nI (stpN g e0 el A s i)) (nI i) mem = K x a (nI s + -1) (st2 mem 54 s (nI (stpN g e0 el A s (g 2)))) := by
  have h2 := hO.1
  intro k
  induction k with
  | zero => intro i n mem _ _ h1 h2; omega
  | succ k ih =>
    intro i n mem hC hA h1 h3 h4
    obtain ⟨n, rfl, h5⟩ := succ_of h4
    rw [X2_tellAge_b30]
    dsimp only
    rw [hC.1.2.2.2.1]
    have hz : (nI i < nI (g 2)) = (i < g 2) := by rw [nI_ltI (by omega) (by omega)]
    by_cases hlt : i < g 2
    · have e := ih (i + 1) n mem hC hA (by omega) (by omega) (by omega)
      unfold stpN at e
      rw [sumP] at e
      rw [if_pos (hz.mpr hlt), c_inSet (by omega) (by omega), cll_s]
      by_cases hb : hasB s i = true
      · obtain ⟨b1, b2', b3⟩ := bit_le s hs i (by omega) hb
        rw [b2_t hb, if_neg (show ¬ nI 1 = (0 : Int32) from nI01), c_firstCost hC hO hlt, cll_s]
        have hsh : nI s - (1 : Int32) <<< (nI i &&& 31) = nI (s - 2 ^ i) := by
          simp (disch := omega) only [L32, shl_n, pk_sub]
        by_cases hc : el i = true
        · rw [if_pos ((hel i hlt).mpr hc), hsh, show rf 51 2 = 54 from rfl, ald_n (by simp only [lns]; omega) (by decide), hA _ (by omega)]
          unfold X2_tellAge_b81
          rw [if_pos (show (hasB s i && el i) = true by rw [hb, hc]; rfl), ← Nat.add_assoc] at e
          unfold stpN
          rw [nI_add, show (1 : Int32) = nI 1 from rfl, nI_add]
          exact e
        · rw [if_neg (fun z => hc ((hel i hlt).mp z))]
          unfold X2_tellAge_b81
          rw [if_neg (show ¬ (hasB s i && el i) = true by simp [hc]), Nat.add_zero] at e
          unfold stpN
          rw [show (1 : Int32) = nI 1 from rfl, nI_add]
          exact e
      · rw [b2_f hb, if_pos (show nI 0 = (0 : Int32) from rfl)]
        unfold X2_tellAge_b81
        rw [if_neg (show ¬ (hasB s i && el i) = true by simp [hb]), Nat.add_zero] at e
        unfold stpN
        rw [show (1 : Int32) = nI 1 from rfl, nI_add]
        exact e
    · have hE : i = g 2 := by omega
      rw [if_neg (fun z => hlt (hz.mp z)), show rf 51 2 = 54 from rfl, ast_n (by simp only [lns]; omega) (by decide), hE]
end AG1
