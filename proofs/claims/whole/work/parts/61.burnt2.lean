/-! ===== PURE: burnt, the class's weight ===== -/
def bwB (g : Nat → Nat) (r u s : Nat) : Bool := decide (nI s &&& (nI u ^^^ -nI 1) = nI 0) && decide (g (31 + r) + costA g r s < g (27 + r))
def wtN (g : Nat → Nat) (r c u i : Nat) : Nat := sumP (bwB g r u) (fun s => prN s u c (g 2)) i
section BU2
variable {mem : Mem} {g : Nat → Nat} {t : Nat}
theorem prN6 (hO : OkG t g) {s u c : Nat} (hc : c ≤ 10) : prN s u c (g 2) ≤ 1000000 := Nat.le_trans (prN_le hc (g 2)) (Nat.le_trans (Nat.pow_le_pow_right (by decide) hO.1.2.2.2.1) (by decide))
theorem wtN_le (hO : OkG t g) {r c u i : Nat} (hc : c ≤ 10) : wtN g r c u i ≤ i * 1000000 := sumP_le _ _ 1000000 i (fun s _ => prN6 hO hc)
theorem wtN_y {r c u i : Nat} (h : bwB g r u i = true) : wtN g r c u (i + 1) = wtN g r c u i + prN i u c (g 2) := by
  unfold wtN
  rw [sumP, if_pos h]
theorem wtN_n {r c u i : Nat} (h : ¬ bwB g r u i = true) : wtN g r c u (i + 1) = wtN g r c u i := by
  unfold wtN
  rw [sumP, if_neg h]
  rfl
theorem c_weight_l (hC : CO mem 7 g) (hO : OkG t g) (ht : t ≤ 600) {r c u N : Nat} (hN : 2 ^ g 2 = N) (hr : r < g 3) (hc : c ≤ 10) (hu : u < N) : ∀ (k i n : Nat), i ≤ N → N - i < k → k ≤ n → X2_weightOfSurviving_b12 51 7 n (nI r) (nI c) (nI u) (nI (wtN g r c u i)) (nI i) mem = some (nI (wtN g r c u N), mem) := by
  have h2 := hO.1
  have h6 := p2_64 h2.2.2.2.1
  rw [hN] at h6
  intro k
  induction k with
  | zero => intro i n h1 h2; omega
  | succ k ih =>
    intro i n h1 h3 h4
    obtain ⟨n, rfl, h5⟩ := succ_of h4
    rw [X2_weightOfSurviving_b12]
    dsimp only
    by_cases hlt : i < N
    · have e := ih (i + 1) n (by omega) (by omega) (by omega)
      have h7 := costA_le hO r i
      have hcA : X3_costOfAll 7 (nI r) (nI i) mem = some (nI (costA g r i), mem) := c_costOfAll hC hO ht hr (s := i) (by omega)
      have h9 := c_survives hC hO hr (d := costA g r i) (by omega)
      have hw := wtN_le hO (r := r) (u := u) (i := i) hc
      have hgo : (if nI i < (1 : Int32) <<< (mem 7 3 &&& 31) then (1 : Nat) else 0) = 1 := by
        simp (disch := omega) only [hC.1.2.2.2.1, L32, shl_n, hN, nI_ltI, hlt, if_true]
      have hgo2 : nI i < (1 : Int32) <<< (mem 7 3 &&& 31) := by
        by_cases h : nI i < (1 : Int32) <<< (mem 7 3 &&& 31)
        · exact h
        · rw [if_neg h] at hgo; cases hgo
      rw [if_pos hgo2]
      have hm1 : nI i &&& (nI u ^^^ (-1 : Int32)) = nI i &&& (nI u ^^^ -nI 1) := rfl
      rw [hm1]
      by_cases hsub : nI i &&& (nI u ^^^ -nI 1) = nI 0
      · obtain ⟨s1, s2, s3⟩ := sub_bits (R := g 2) (by omega) (by rw [hN]; exact hu) (by rw [hN]; exact hlt) hsub
        rw [if_pos (show nI i &&& (nI u ^^^ -nI 1) = (0 : Int32) from hsub), hcA, cll_s, h9, cll_s]
        by_cases hv : g (31 + r) + costA g r i < g (27 + r)
        · have hb : bwB g r u i = true := by unfold bwB; rw [decide_eq_true hsub, decide_eq_true hv]; rfl
          rw [wtN_y hb] at e
          have hp := prN_pow i u c (g 2)
          rw [s2, s3] at hp
          have hb1 := bits_le i
          have hb2 := bits_le (u - i)
          rw [b2_t hv, if_neg (show ¬ nI 1 = (0 : Int32) from nI01), c_bitCount (by omega), cll_s]
          rw [show (10 : Int32) = nI 10 from rfl, pk_sub (by omega), c_power (by omega) (by omega), cll_s, pk_sub (by omega), c_bitCount (by omega), cll_s, c_power hc (by omega), cll_s, pk_mul, ← hp]
          unfold X2_weightOfSurviving_b86
          rw [nI_add, show (1 : Int32) = nI 1 from rfl, nI_add]
          exact e
        · have hb : ¬ bwB g r u i = true := by unfold bwB; rw [decide_eq_false hv]; simp
          rw [wtN_n hb] at e
          rw [b2_f hv, if_pos (show nI 0 = (0 : Int32) from rfl)]
          unfold X2_weightOfSurviving_b86
          rw [show (1 : Int32) = nI 1 from rfl, nI_add]
          exact e
      · have hb : ¬ bwB g r u i = true := by unfold bwB; rw [decide_eq_false hsub]; simp
        rw [wtN_n hb] at e
        rw [if_neg (show ¬ nI i &&& (nI u ^^^ -nI 1) = (0 : Int32) from hsub)]
        unfold X2_weightOfSurviving_b86
        rw [show (1 : Int32) = nI 1 from rfl, nI_add]
        exact e
    · have hE : i = N := by omega
      simp (disch := omega) only [hC.1.2.2.2.1, L32, shl_n, hN, nI_ltI, hlt, if_false]
      rw [hE]
end BU2
