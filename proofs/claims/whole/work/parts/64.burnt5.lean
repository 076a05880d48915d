/-! ===== PURE: the call burnt, the end ===== -/
section BU5
variable {mem : Mem} {g : Nat → Nat} {t : Nat}
theorem c_b105 {G s : Nat} (hG : 0 < G) (hG2 : G < 2 ^ 30) (hs : s < 2 ^ 30) : X6_burnt_b105 0 (nI G) (nI s) mem = some (nI (s / G), mem) := by
  unfold X6_burnt_b105
  have hz : ((1 : Int32) < nI G) = (1 < G) := by rw [show (1 : Int32) = nI 1 from rfl, nI_ltI (by omega) (by omega)]
  by_cases h : 1 < G
  · have hne : ¬ nI G = (0 : Int32) := nI_neN (b := 0) (by omega) (by omega) (by omega)
    rw [if_pos (hz.mpr h), chk_t hne, nI_div (by omega) hG (by omega)]
  · have h1 : G = 1 := by omega
    rw [if_neg (fun z => h (hz.mp z)), h1, Nat.div_one]
theorem unS_N {N : Nat} (hN : 2 ^ g 2 = N) : unS g < N := by
  rw [← hN]
  exact sett_lt (unB g) (g 2)
theorem st_burnt : St_burnt Inv := by
  intro t mem a1 a2 a3 ht hI
  obtain ⟨g, hC, hM, hO, hG, hA, hR, hT, hF, hT2⟩ := id hI
  have h2 := hO.1
  have h6 := p2_64 h2.2.2.2.1
  obtain ⟨N, hN⟩ : ∃ N, 2 ^ g 2 = N := ⟨_, rfl⟩
  rw [hN] at h6
  have hu := unS_N (g := g) hN
  unfold X6_burnt X7_burnt
  rcases rng a1 (g 3) (by omega) with ⟨r, hr, rfl⟩ | hr
  · rcases rng a2 11 (by omega) with ⟨c, hc, rfl⟩ | hc
    · rcases rng a3 2 (by omega) with ⟨w, hw, rfl⟩ | hw
      · by_cases ha : aliveB g r = true
        · obtain ⟨W, hWd⟩ : ∃ W, W = wtN g r c (unS g) N := ⟨_, rfl⟩
          obtain ⟨B, hBd⟩ : ∃ B, B = 10 ^ bits (unS g) := ⟨_, rfl⟩
          have hWl : W ≤ N * 1000000 := by rw [hWd]; exact wtN_le hO (by omega)
          have hBl : B ≤ 100000000 := by rw [hBd]; exact pow10 (by omega) (bits_le _)
          have hB0 : 0 < B := by rw [hBd]; exact Nat.pow_pos (by omega)
          have hG0 : 0 < Nat.gcd W B := Nat.gcd_pos_of_pos_right _ hB0
          have hGl : Nat.gcd W B ≤ B := Nat.gcd_le_right _ hB0
          have e1 : X2_weightOfSurviving_b12 51 7 fu (nI r) (nI c) (nI (unS g)) (nI 0) (nI 0) mem = some (nI W, mem) := by
            rw [hWd]
            exact c_weight_l hC hO (t := t) (by omega) hN hr (by omega) hu (N + 1) 0 fu (by omega) (by omega) (fu_ge (by omega))
          have e2 : X2_commonDivisor_b8 51 fu (nI B) (nI W) (nI 0) mem = some (nI (Nat.gcd W B), mem) := c_gcd_l 26 B W 0 fu (by omega) (by omega) (by omega) (by omega) (fu_ge (by omega))
          have e3 : X7_burnt_b59 57 fu (nI r) (nI c) (nI w) (nI (unS g)) (lN 0) (lN 1) (nI 0) mem = some (buV w W B (Nat.gcd B W), mem) := by
            rw [hWd, hBd]
            exact m_burnt_l hM hO (t := t) (by omega) hN hr (by omega) hu hw (N + 1) 0 fu (by omega) (by omega) (fu_ge (by omega))
          have e4 : X2_power 51 (nI 10) (nI (bits (unS g))) mem = some (nI B, mem) := by
            rw [hBd]
            exact c_power (by omega) (bits_le _) mem
          refine q_step hI (r := buV w W B (Nat.gcd B W)) ?_ ?_
          · have hc0 : ¬ nI c < (0 : Int32) := nI_lt0 (by omega)
            have hc10 : ¬ (10 : Int32) < nI c := by
              rw [show (10 : Int32) = nI 10 from rfl, nI_ltI (by omega) (by omega)]
              omega
            have n1 : ¬ nI 1 = (0 : Int32) := nI01
            rw [show rf 0 2 = 7 from rfl, show rf 0 7 = 51 from rfl, c_hasReader_y hC hO hr, cll_s, if_neg n1, if_neg hc0, if_neg hc10, c_isChoice_y hw, cll_s, if_neg n1, c_alive hC hO hr, b2_t ha, cll_s, if_neg n1]
            unfold X2_weightOfSurviving
            rw [c_unread hC hO (t := t) (by omega), cll_s, show (0 : Int32) = nI 0 from rfl, e1, cll_s, c_unread hC hO (t := t) (by omega), cll_s, c_bitCount (unS_lt hO), cll_s, show (10 : Int32) = nI 10 from rfl, e4, cll_s]
            unfold X2_commonDivisor
            rw [show (0 : Int32) = nI 0 from rfl, e2, cll_s, Nat.gcd_comm B W]
            unfold buV
            rcases two hw with rfl | rfl
            · rw [if_pos rfl, if_pos rfl]
              exact c_b105 hG0 (by omega) (by omega)
            · rw [if_neg nI01, if_neg (by decide)]
              exact c_b105 hG0 (by omega) (by omega)
          · have n1 : ¬ nI 1 = (0 : Int32) := nI01
            rw [m_isReader_y hM hO hr, cll_s, if_neg n1, show (0 : Int64) = lN 0 from rfl, show (10 : Int64) = lN 10 from rfl, m_in_y (w := c) ⟨by omega, by omega⟩ (by omega), cll_s, if_neg n1, show (1 : Int64) = lN 1 from rfl, m_in_y (w := w) ⟨by omega, by omega⟩ (by omega), cll_s, if_neg n1, m_aliveR hM hO hr, b2_t ha, cll_s, if_neg n1, m_unread hM hO (t := t) (by omega), cll_s, show (0 : Int32) = nI 0 from rfl, e3]
        · refine q_step hI (r := -nI 1000002) ?_ ?_
          · simp (disch := omega) only [rfs, c_hasReader_y hC hO hr, c_isChoice_y hw, c_alive hC hO hr, cll_s, L32, ite10, nI_ltI, Nat.not_lt_zero, if_false, b2_0, ha, Bool.false_eq_true]
            rw [if_neg (show ¬ 10 < c by omega)]
          · simp (disch := omega) only [m_isReader_y hM hO hr, m_in_y, L32, L64, m_aliveR hM hO hr, cll_s, ite10, b2_0, ha, if_false, Bool.false_eq_true]
      · refine q_step hI (r := -nI 1000001) ?_ ?_
        · simp (disch := omega) only [rfs, c_hasReader_y hC hO hr, c_isChoice_n hw, cll_s, L32, ite10, if_true, ite_self]
        · simp (disch := omega) only [m_isReader_y hM hO hr, m_in_y, m_in_n, cll_s, L32, L64, ite10, if_true]
    · refine q_step hI (r := -nI 1000001) ?_ ?_
      · simp (disch := omega) only [rfs, c_hasReader_y hC hO hr, cll_s, L32, ite10, Int32.lt_iff_toInt_lt, nI_toInt]
        by_cases h : a2.toInt < (0 : Nat)
        · rw [if_pos h]
        · rw [if_neg h, if_pos (by omega)]
      · simp (disch := omega) only [m_isReader_y hM hO hr, m_in_n, cll_s, L32, L64, ite10, if_true]
  · refine q_step hI (r := -nI 1000001) ?_ ?_
    · simp only [rfs, c_hasReader_n hC hO hr, cll_s, L32, if_true]
    · simp only [m_isReader_n hM hO hr, cll_s, L32, if_true]
end BU5
