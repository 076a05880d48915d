/-! ===== PURE: cross, day ===== -/
section AC3
variable {mem : Mem} {g : Nat → Nat} {t : Nat}
def crG (g : Nat → Nat) (l v : Nat) : Nat → Nat := fun j => if j = 11 + l then v else g j
theorem CO.pages (hC : CO mem 7 g) (hO : OkG t g) {l : Nat} (hl : l < g 2) (v : Nat) : CO (st2 mem 9 l (nI v)) 7 (crG g l v) := by
  have h2 := hO.1
  have e2 : crG g l v 2 = g 2 := if_neg (by omega)
  have e3 : crG g l v 3 = g 3 := if_neg (by omega)
  have ee : ∀ j, (j < 11 ∨ 17 ≤ j) → crG g l v j = g j := fun j hj => if_neg (by omega)
  refine ⟨?_, fun x hx => ?_, fun r hr => ?_, fun r x hr hx => ?_⟩
  · rw [st2_k (by omega), ee 0 (by omega), ee 1 (by omega), ee 4 (by omega), e2, e3]
    exact hC.1
  · rw [e2] at hx
    obtain ⟨p1, p2, p3⟩ := hC.2.1 x hx
    refine ⟨?_, ?_, ?_⟩
    · rw [st2_k (by omega), ee _ (by omega)]; exact p1
    · by_cases e : x = l
      · rw [e]
        show st2 mem 9 l (nI v) 9 l = _
        rw [st2_s]
        exact congrArg nI (if_pos rfl).symm
      · show st2 mem 9 l (nI v) 9 x = _
        rw [st2_i e, show crG g l v (11 + x) = g (11 + x) from if_neg (by omega)]
        exact p2
    · rw [st2_k (by omega), ee _ (by omega)]; exact p3
  · rw [e3] at hr
    have p := hC.2.2.1 r hr
    rw [st2_k (by omega), st2_k (by omega), st2_k (by omega), st2_k (by omega), ee _ (by omega), ee _ (by omega), ee _ (by omega), ee _ (by omega)]
    exact p
  · rw [e2] at hx; rw [e3] at hr
    rw [st2_k (by omega), ee _ (by omega)]
    exact hC.2.2.2 r x hr hx
theorem MO.set1 (hM : MO mem g) (i v : Nat) : MO (st2 mem 62 i (nI v)) (fun j => if j = i then v else g j) := by
  intro j hj
  by_cases e : j = i
  · rw [e, st2_s]
    exact congrArg nI (if_pos rfl).symm
  · rw [st2_i e, hM j hj]
    exact congrArg nI (if_neg e).symm
theorem OkG.cross (hO : OkG t g) {l v : Nat} (hl : l < g 2) (hv : 1 ≤ v) (hv2 : v ≤ 40) : OkG (t + 1) (crG g l v) := by
  have h2 := hO.1
  have e2 : crG g l v 2 = g 2 := if_neg (by omega)
  have e3 : crG g l v 3 = g 3 := if_neg (by omega)
  have ee : ∀ j, (j < 11 ∨ 17 ≤ j) → crG g l v j = g j := fun j hj => if_neg (by omega)
  refine ⟨?_, fun x hx => ?_, fun r hr => ?_, fun r x hr hx => ?_⟩
  · rw [ee 0 (by omega), ee 1 (by omega), e2, e3, ee 4 (by omega)]
    exact hO.1
  · rw [e2] at hx
    have p := hO.2.1 x hx
    rw [ee (5 + x) (by omega), ee (17 + x) (by omega)]
    by_cases e : x = l
    · rw [show crG g l v (11 + x) = v from if_pos (by omega)]
      omega
    · rw [show crG g l v (11 + x) = g (11 + x) from if_neg (by omega)]
      exact p
  · rw [e3] at hr
    rw [ee _ (by omega), ee _ (by omega), ee _ (by omega), ee _ (by omega), ee _ (by omega)]
    exact hO.2.2.1 r hr
  · rw [e2] at hx; rw [e3] at hr
    rw [ee _ (by omega)]
    exact Nat.le_succ_of_le (hO.2.2.2 r x hr hx)
theorem st_cross : St_cross Inv := by
  intro t mem a1 a2 ht hI
  obtain ⟨g, hC, hM, hO, hG, hA, hR, hT, hF, hT2⟩ := id hI
  have h2 := hO.1
  unfold X6_cross X7_cross
  rcases rng a1 (g 2) (by omega) with ⟨l, hl, rfl⟩ | hl
  · have h3 := (hC.2.1 l hl).2.1
    have h4 := hO.2.1 l hl
    by_cases hn : 1 ≤ a2.toInt ∧ a2.toInt ≤ 39
    · obtain ⟨n, rfl, hn2, _⟩ := toN a2 (by omega)
      rw [← hn2] at hn
      by_cases hlt : n < g (11 + l)
      · obtain ⟨K, nx, S, hK, hnx, k8, k13, k7, hS, h6⟩ := hA
        have hC1 := hC.pages hO hl (g (11 + l) - n)
        obtain ⟨m1, p1, p2, p3, p4, p5, p6, p7, p8⟩ := c_keep (mem := st2 mem 9 l (nI (g (11 + l) - n))) hK hnx (by rw [st2_k (by omega), k7]) (by rw [st2_k (by omega), k8]) (nI 1) (nI l) (nI n)
        have f1 : ∀ q, q ≠ 9 → q ≠ 43 → q ≠ 44 → q ≠ 46 → q ≠ 47 → m1 q = mem q := fun q z1 z2 z3 z4 z5 => by rw [p2 q z2 z3 z4 z5, st2_k z1]
        have hC2 : CO m1 7 (crG g l (g (11 + l) - n)) := hC1.fr fun q _ _ => p2 q (by omega) (by omega) (by omega) (by omega)
        have hM1 : MO m1 g := hM.fr (f1 62 (by omega) (by omega) (by omega) (by omega) (by omega))
        obtain ⟨m2, q1, q2, q3, q4, q5, q6⟩ := m_remember hM1 hK (by rw [f1 57 (by omega) (by omega) (by omega) (by omega) (by omega), k13])
        have hM2 : MO m2 g := hM1.fr (q2 62 (by omega) (by omega))
        have hv : m2 62 (11 + l) = nI (g (11 + l)) := hM2 _ (by omega)
        have hc9 : m1 9 l = nI (g (11 + l) - n) := by rw [p2 9 (by omega) (by omega) (by omega) (by omega), st2_s]
        have hf : ∀ q, q ≠ 62 → st2 m2 62 (11 + l) (nI (g (11 + l) - n)) q = m2 q := fun q hq => st2_k hq
        refine ⟨nI (g (11 + l) - n), m1, st2 m2 62 (11 + l) (nI (g (11 + l) - n)), ?_, ?_, ?_⟩
        · simp (disch := omega) only [rfs, c_hasLetter_y hC hO hl, cll_s, L32, ite10, nI_ltI, al, h3, hlt, if_true, X0_letCross, as_, pk_sub, p1, hc9]
          rw [if_neg (show ¬ n < 1 by omega), if_pos (show n < 40 by omega)]
        · simp (disch := omega) only [rfs, m_isLetter_y hM1 hO hl, m_in_y, cll_s, L32, L64, ite10, nI_add, al, hM1 (11 + l), nI_ltI, hlt, if_true, q1, hv, pk_sub, as_, st2_s]
        · refine hI.act (g' := crG g l (g (11 + l) - n)) (fun q z1 z2 z3 z4 z5 => ?_) (fun j hj => ?_) (hC2.fr fun q z1 z2 => ?_) (hM2.set1 _ _) (hO.cross hl (by omega) (by omega)) (ACT.mono (ACT.push hK hnx hS hO h6 ?_ ?_ ?_ (fun q c z1 z2 z3 => ?_) (fun i j z1 z2 => ?_) (fun j z => ?_) ?_))
          · rw [hf q z3, q2 q z4 z5, f1 q (by omega) (by omega) (by omega) (by omega) (by omega)]
          · rw [hf 57 (by omega), q3 j hj, f1 57 (by omega) (by omega) (by omega) (by omega) (by omega)]
          · rw [hf q (by omega), q2 q (by omega) (by omega)]
          · rw [hf 43 (by omega), q2 43 (by omega) (by omega), p4]
          · rw [hf 57 (by omega), q4]
          · rw [hf 43 (by omega), q2 43 (by omega) (by omega), p3]
          · rw [hf q (by omega), q2 q (by omega) (by omega), p8 q c (by omega) z3, st2_k (by omega)]
          · rw [hf 65 (by omega), q5 i j z1 z2, f1 65 (by omega) (by omega) (by omega) (by omega) (by omega)]
          · rw [hf 65 (by omega), q6 j z]
          · refine Or.inr (Or.inl ⟨l, n, ?_, ?_, ?_, ?_, ?_, fun j _ hj => ?_⟩)
            · rw [hf 44 (by omega), q2 44 (by omega) (by omega), p5]
            · rw [hf 46 (by omega), q2 46 (by omega) (by omega), p6]
            · rw [hf 47 (by omega), q2 47 (by omega) (by omega), p7]
            · rw [show crG g l (g (11 + l) - n) 2 = g 2 from if_neg (by omega)]; exact hl
            · rw [show crG g l (g (11 + l) - n) (11 + l) = g (11 + l) - n from if_pos rfl]; omega
            · exact (if_neg hj).symm
      · refine q_step hI (r := -nI 1000002) ?_ ?_
        · simp (disch := omega) only [rfs, c_hasLetter_y hC hO hl, cll_s, L32, ite10, nI_ltI, al, h3, hlt, if_false]
          rw [if_neg (show ¬ n < 1 by omega), if_pos (show n < 40 by omega)]
        · simp (disch := omega) only [rfs, m_isLetter_y hM hO hl, m_in_y, cll_s, L32, L64, ite10, nI_add, al, hM (11 + l), nI_ltI, hlt, if_false]
    · refine q_step hI (r := -nI 1000001) ?_ ?_
      · simp (disch := omega) only [rfs, c_hasLetter_y hC hO hl, cll_s, L32, ite10, Int32.lt_iff_toInt_lt, nI_toInt]
        by_cases h : a2.toInt < (1 : Nat)
        · rw [if_pos h]
        · rw [if_neg h, if_neg (show ¬ a2.toInt < (40 : Nat) by omega)]
      · simp (disch := omega) only [m_isLetter_y hM hO hl, m_in_n, cll_s, L32, L64, ite10, if_true]
  · refine q_step hI (r := -nI 1000001) ?_ ?_
    · simp only [rfs, c_hasLetter_n hC hO hl, cll_s, L32, if_true]
    · simp only [m_isLetter_n hM hO hl, cll_s, L32, if_true]
end AC3
