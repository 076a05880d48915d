/-! ===== PURE: ages, whole ===== -/
/-- only the scratch arrays and the latest finding have changed -/
theorem Inv.scr {t : Nat} {mem m' : Mem} (h : Inv t mem) (he : ∀ q, q ≠ 52 → q ≠ 53 → q ≠ 54 → q ≠ 66 → q ≠ 67 → q ≠ 68 → q ≠ 69 → q ≠ 0 → q ≠ 57 → m' q = mem q) (h0 : ∀ j, j ≠ 10 → m' 0 j = mem 0 j) (h57 : ∀ j, j ≠ 3 → m' 57 j = mem 57 j) (hs : m' 0 10 = m' 57 3) : Inv (t + 1) m' := by
  obtain ⟨g, hC, hM, hO, hG, hA, hR, hT, hF, hT2⟩ := h
  refine Inv.mono ⟨g, hC.fr fun q h1 h2 => he q ?_ ?_ ?_ ?_ ?_ ?_ ?_ ?_ ?_, hM.fr (he _ ?_ ?_ ?_ ?_ ?_ ?_ ?_ ?_ ?_), hO, hG.fr (fun q h1 h2 => he q ?_ ?_ ?_ ?_ ?_ ?_ ?_ ?_ ?_) (he _ ?_ ?_ ?_ ?_ ?_ ?_ ?_ ?_ ?_) (he _ ?_ ?_ ?_ ?_ ?_ ?_ ?_ ?_ ?_), hA.fr (fun q h1 h2 => he q ?_ ?_ ?_ ?_ ?_ ?_ ?_ ?_ ?_) (he _ ?_ ?_ ?_ ?_ ?_ ?_ ?_ ?_ ?_) (h57 _ ?_), hR.fr (he _ ?_ ?_ ?_ ?_ ?_ ?_ ?_ ?_ ?_) (he _ ?_ ?_ ?_ ?_ ?_ ?_ ?_ ?_ ?_) (he _ ?_ ?_ ?_ ?_ ?_ ?_ ?_ ?_ ?_) (he _ ?_ ?_ ?_ ?_ ?_ ?_ ?_ ?_ ?_) (he _ ?_ ?_ ?_ ?_ ?_ ?_ ?_ ?_ ?_) (he _ ?_ ?_ ?_ ?_ ?_ ?_ ?_ ?_ ?_), hT.fr (by rw [he 5 (by omega) (by omega) (by omega) (by omega) (by omega) (by omega) (by omega) (by omega) (by omega)]) (he _ ?_ ?_ ?_ ?_ ?_ ?_ ?_ ?_ ?_) (h57 _ ?_) (he _ ?_ ?_ ?_ ?_ ?_ ?_ ?_ ?_ ?_), ⟨by rw [h0 9 (by omega), h57 8 (by omega)]; exact hF.1, hs⟩, hT2.fr (by rw [he 55 (by omega) (by omega) (by omega) (by omega) (by omega) (by omega) (by omega) (by omega) (by omega)]) (he _ ?_ ?_ ?_ ?_ ?_ ?_ ?_ ?_ ?_) (h57 _ ?_) (he _ ?_ ?_ ?_ ?_ ?_ ?_ ?_ ?_ ?_)⟩
  all_goals omega
section AW3
theorem st_ages : St_ages Inv := by
  intro t mem a1 a2 a3 a4 ht hI
  obtain ⟨g, hC, hM, hO, hG, hA, hR, hT, hF, hT2⟩ := id hI
  have h2 := hO.1
  unfold X6_ages X7_ages
  rcases rng a1 (g 3) (by omega) with ⟨r, hr, rfl⟩ | hr
  · rcases rng a2 8 (by omega) with ⟨a, ha, rfl⟩ | ha
    · by_cases h4 : (1 : Nat) ≤ a4.toInt ∧ a4.toInt ≤ (6 : Nat)
      · obtain ⟨N, rfl, hN, hN31⟩ := toN a4 (by omega)
        rw [← hN] at h4
        have h4l : ¬ nI N < nI 1 := by rw [nI_ltI (by omega) (by omega)]; omega
        have h4r : ¬ nI 6 < nI N := by rw [nI_ltI (by omega) (by omega)]; omega
        have hm4 : X7_in (nI N).toInt64 1 6 mem = some (nI 1, mem) := m_in_y (a := 1) (b := 6) (by omega) (by omega) mem
        rcases row_look hR ha with ⟨hp, h9⟩ | ⟨la, sz, hla, hsz, hp, e2, e8, e3, e9, e4⟩
        · refine f_step (nI 1) hI (r := -nI 1000010 - nI 1) ?_ ?_
          · simp only [rfs, c_hasReader_y hC hO hr, c_isRow_y ha, h4l, h4r, c_missing ha, hp, cll_s, L32, ite10, b2_0, X6_found, Bool.false_eq_true, not_false_eq_true, if_true, if_false]
          · have hM' : MO (st2 mem 0 10 (nI 1)) g := hM.fr (st2_k (by omega))
            have hm4' : X7_in (nI N).toInt64 1 6 (st2 mem 0 10 (nI 1)) = some (nI 1, st2 mem 0 10 (nI 1)) := m_in_y (a := 1) (b := 6) (by omega) (by omega) _
            simp (maxSteps := 3000000) (disch := omega) only [rfs, m_isReader_y hM' hO hr, m_isRow_y ha, hm4', cll_s, L32, ite10, al59 _ ha, st2_k, h9, m1_lt0, if_true, X7_finds]
        · by_cases hin : 0 ≤ a3.toInt ∧ 0 ≤ (nI N).toInt ∧ a3.toInt + (nI N).toInt ≤ (sz : Int)
          · obtain ⟨i, rfl, hi, _⟩ := toN a3 hin.1
            have hin' := hin
            rw [← hi, ← hN] at hin'
            obtain ⟨X, hX⟩ : ∃ X : Nat → Int32, X = fun j => mem 4 (a * 40 + (i + j)) := ⟨_, rfl⟩
            obtain ⟨m1, p1, p2, p3⟩ := fill_r (k := 54) (N := 64) rfl (by omega) (nI 0) mem
            have pA : ∀ z, z < 64 → (st2 m1 54 0 (nI 1)) 54 z = nI (ag0 z) := by
              intro z hz
              by_cases e : z = 0
              · rw [e, st2_s]; rfl
              · rw [st2_i e, p3 z hz]
                unfold ag0
                rw [if_neg e]
            have kk : ∀ q, q ≠ 54 → (st2 m1 54 0 (nI 1)) q = mem q := fun q hq => by rw [st2_k hq, p2 q hq]
            obtain ⟨m2, q1, q2⟩ := c_walk_l (X := X) (c0 := nI (g (23 + r))) (N := N) hO ha (show i + N ≤ 40 by omega) (N + 1) 0 fu (st2 m1 54 0 (nI 1)) (hC.fr fun q _ _ => kk q (by omega)) (fun j _ => by rw [kk 4 (by omega), hX]) pA (by omega) (by omega) (fu_ge (by omega))
            have k2 : ∀ q, q ≠ 54 → m2 q = mem q := fun q hq => by rw [q2 q hq, kk q hq]
            have hM2 : MO (st2 m2 0 10 (nI 0)) g := hM.fr (by rw [st2_k (by omega), k2 62 (by omega)])
            obtain ⟨m3, u1, u2, u3⟩ := m_init_l (N := N) hO hr (nI a) (nI i) (nI N) 65 0 fu (st2 m2 0 10 (nI 0)) hM2 (fun z hz => by omega) (by omega) (by omega) (fu_ge (by omega))
            have h23 := (hO.2.2.1 r hr).1
            obtain ⟨m4, w1, w2⟩ := m_walk_l (X := X) (c0 := nI (g (23 + r))) (N := N) hO ha (by omega) (show i + N ≤ 40 by omega) (N + 1) 0 fu m3 (hM2.fr (u2 62 (by omega))) (fun j hj => by rw [u2 60 (by omega), st2_k (by omega), k2 60 (by omega), hX]; exact (e4 (i + j) (by omega)).symm) u3 (Or.inr ⟨g (23 + r), by omega, rfl⟩) (by omega) (by omega) (fu_ge (by omega))
            have k4 : ∀ q, q ≠ 54 → q ≠ 68 → q ≠ 69 → m4 q = (st2 m2 0 10 (nI 0)) q := fun q z1 z2 z3 => by rw [w2 q z2 z3, u2 q z2]
            refine ⟨nI (suN (agA g X (nI (g (23 + r))) N) 64), st2 m2 0 10 (nI 0), st2 m4 57 3 (nI 0), ?_, ?_, ?_⟩
            · simp (disch := omega) only [rfs, c_hasReader_y hC hO hr, c_isRow_y ha, h4l, h4r, c_missing ha, hp, cll_s, L32, ite10, b2_0, not_true_eq_false, if_false, c_hasPlaces ha e3 hsz, if_pos hin, X2_noReadingYet, p1]
              rw [ast_n (by simp only [lns]; omega) (by decide), cll_s, ald_n (by simp only [lns]; omega) (by decide), kk 11 (by omega), (hC.2.2.1 r hr).1]
              exact q1
            · have hm4' : X7_in (nI N).toInt64 1 6 (st2 m2 0 10 (nI 0)) = some (nI 1, st2 m2 0 10 (nI 0)) := m_in_y (a := 1) (b := 6) (by omega) (by omega) _
              simp (maxSteps := 3000000) (disch := omega) only [rfs, m_isReader_y hM2 hO hr, m_isRow_y ha, hm4', cll_s, L32, ite10, al59 _ ha, st2_k, k2, e9, nI_lt0, if_false, lgp, i64add, i64i, nI_toInt]
              rw [if_neg (by omega), u1]
              exact w1
            · refine hI.scr (fun q => ?_) (fun x hx => ?_) (fun x hx => ?_) ?_
              · intros; rw [st2_k (by omega), k4 q (by omega) (by omega) (by omega), st2_k (by omega), k2 q (by omega)]
              · rw [st2_k (by omega), k4 0 (by omega) (by omega) (by omega), st2_i hx, k2 0 (by omega)]
              · rw [st2_i hx, k4 57 (by omega) (by omega) (by omega), st2_k (by omega), k2 57 (by omega)]
              · rw [st2_k (by omega), k4 0 (by omega) (by omega) (by omega), st2_s, st2_s]
          · refine f_step (nI 2) hI (r := -nI 1000010 - nI 2) ?_ ?_
            · simp (disch := omega) only [rfs, c_hasReader_y hC hO hr, c_isRow_y ha, h4l, h4r, c_missing ha, hp, cll_s, L32, ite10, b2_0, not_true_eq_false, if_false, c_hasPlaces ha e3 hsz, if_neg hin, X6_found]
            · have hM' : MO (st2 mem 0 10 (nI 2)) g := hM.fr (st2_k (by omega))
              have hm4' : X7_in (nI N).toInt64 1 6 (st2 mem 0 10 (nI 2)) = some (nI 1, st2 mem 0 10 (nI 2)) := m_in_y (a := 1) (b := 6) (by omega) (by omega) _
              simp (maxSteps := 3000000) (disch := omega) only [rfs, m_isReader_y hM' hO hr, m_isRow_y ha, hm4', cll_s, L32, ite10, al59 _ ha, st2_k, e9, nI_lt0, if_false, lgp, i64add, i64i, nI_toInt, lt0 a3, X7_ages_b67, X7_finds]
              rw [nI_toInt (by omega)] at hin
              repeat' split
              all_goals first | (exfalso; omega) | rfl
      · refine q_step hI (r := -nI 1000001) ?_ ?_
        · simp (disch := omega) only [rfs, c_hasReader_y hC hO hr, c_isRow_y ha, cll_s, L32, ite10, Int32.lt_iff_toInt_lt, nI_toInt]
          by_cases h : a4.toInt < (1 : Nat)
          · rw [if_pos h]
          · rw [if_neg h, if_pos (by omega)]
        · have hm4' : X7_in a4.toInt64 1 6 mem = some (nI 0, mem) := m_in_n (a := 1) (b := 6) (by omega) (by omega) (by omega) _
          simp (disch := omega) only [m_isReader_y hM hO hr, m_isRow_y ha, hm4', cll_s, L32, ite10, if_true]
    · refine q_step hI (r := -nI 1000001) ?_ ?_
      · simp only [rfs, c_hasReader_y hC hO hr, c_isRow_n ha, cll_s, L32, ite10, if_true]
      · simp only [m_isReader_y hM hO hr, m_isRow_n ha, cll_s, L32, ite10, if_true]
  · refine q_step hI (r := -nI 1000001) ?_ ?_
    · simp only [rfs, c_hasReader_n hC hO hr, cll_s, L32, if_true]
    · simp only [m_isReader_n hM hO hr, cll_s, L32, if_true]
end AW3
