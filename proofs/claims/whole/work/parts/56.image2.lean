/-! ===== PURE: the calls image and restore ===== -/
theorem chk_T {α : Type} {inst : Decidable True} {o : Option α} : @chk α True inst o = o := if_pos trivial
section IM2
variable {mem : Mem} {g : Nat → Nat} {t : Nat}
theorem image_fin {o k off : Nat} (hok : (o = 25 ∧ k = 0 ∧ off = 0) ∨ (o = 34 ∧ k = 1 ∧ off = 63)) (hI : Inv t mem) (hC : CO mem 7 g) (hM : MO mem g) (hO : OkG t g) (h0 : ¬ g 0 = 0) : ∃ m1 m2, X3_becomes o 7 mem = some ((), m1) ∧ m1 7 = mem 7 ∧ MO m1 g ∧ X7_putInto 57 70 (nI off) m1 = some ((), m2) ∧ Inv (t + 1) (st2 m2 71 k (nI 1)) := by
  have h2 := hO.1
  have g1 : g 0 = 1 := by omega
  have hof : OFC o := by rcases hok with ⟨rfl, _⟩ | ⟨rfl, _⟩; exact ofc25; exact ofc34
  obtain ⟨m1, p1, p2, p3⟩ := c_becomes hof ofc7 (by omega) hC ⟨h2.1, h2.2.2.2.1, h2.2.2.2.2.1⟩
  have hM1 : MO m1 g := hM.fr (p3 62 (by omega))
  obtain ⟨m2, q1, q2, q3⟩ := m_put_l 70 (by decide) (by decide) (a := off) (by simp only [lns]; omega) 64 0 fu m1 (by omega) (by omega) (fu_ge (by omega))
  refine ⟨m1, m2, p1, p3 7 (by omega), hM1, q1, ?_⟩
  have f : ∀ q, ¬ (o ≤ q ∧ q ≤ o + 8) → q ≠ 70 → q ≠ 71 → st2 m2 71 k (nI 1) q = mem q := fun q z1 z2 z3 => by rw [st2_k z3, q2 q z2, p3 q z1]
  have f70 : ∀ x, st2 m2 71 k (nI 1) 70 x = if off ≤ x ∧ x < off + 63 then mem 62 (x - off) else mem 70 x := fun x => by
    rw [st2_k (by omega), q3 x, p3 62 (by omega), p3 70 (by omega)]
    rfl
  obtain ⟨g', hC', hM', hO', hG, hA, hR, hT, hF, hT2⟩ := Inv.mono hI
  have fo : ∀ q, o ≤ q → q ≤ o + 8 → st2 m2 71 k (nI 1) q = m1 q := fun q z1 z2 => by rw [st2_k (by omega), q2 q (by omega)]
  have hnew : IMG1 (t + 1) (st2 m2 71 k (nI 1)) o k off := by
    refine Or.inr ⟨?_, st2_s, g, p2.fr fo, hO.mono, g1, fun j hj => ?_⟩
    · rw [fo o (by omega) (by omega), p2.1.1, g1]
    · rw [f70, if_pos (by omega), show off + j - off = j by omega, hM j hj]
  have hold : ∀ o' k' off', (o' + 8 < o ∨ o + 8 < o') → k' ≠ k → (off' + 63 ≤ off ∨ off + 63 ≤ off') → (o' + 8 < 70) → IMG1 (t + 1) mem o' k' off' → IMG1 (t + 1) (st2 m2 71 k (nI 1)) o' k' off' := by
    intro o' k' off' z1 z2 z3 z4 h
    have e71 : st2 m2 71 k (nI 1) 71 k' = mem 71 k' := by rw [st2_i z2, q2 71 (by omega), p3 71 (by omega)]
    rcases h with ⟨a, b⟩ | ⟨a, b, g2, c, d, e, e'⟩
    · exact Or.inl ⟨by rw [f o' (by omega) (by omega) (by omega)]; exact a, by rw [e71]; exact b⟩
    · refine Or.inr ⟨by rw [f o' (by omega) (by omega) (by omega)]; exact a, by rw [e71]; exact b, g2, c.fr fun q y1 y2 => f q (by omega) (by omega) (by omega), d, e, fun j hj => ?_⟩
      rw [f70, if_neg (by omega)]
      exact e' j hj
  have hG2 : IMG (t + 1) (st2 m2 71 k (nI 1)) := by
    rcases hok with ⟨rfl, rfl, rfl⟩ | ⟨rfl, rfl, rfl⟩
    · exact ⟨hnew, hold 34 1 63 (by omega) (by omega) (by omega) (by omega) hG.2⟩
    · exact ⟨hold 25 0 0 (by omega) (by omega) (by omega) (by omega) hG.1, hnew⟩
  refine ⟨g', hC'.fr fun q z1 z2 => f q ?_ ?_ ?_, hM'.fr (f _ ?_ ?_ ?_), hO', hG2, hA.fr (fun q z1 z2 => f q ?_ ?_ ?_) (f _ ?_ ?_ ?_) (by rw [f 57 (by omega) (by omega) (by omega)]), hR.fr (f _ ?_ ?_ ?_) (f _ ?_ ?_ ?_) (f _ ?_ ?_ ?_) (f _ ?_ ?_ ?_) (f _ ?_ ?_ ?_) (f _ ?_ ?_ ?_), hT.fr (by rw [f 5 (by omega) (by omega) (by omega)]) (f _ ?_ ?_ ?_) (by rw [f 57 (by omega) (by omega) (by omega)]) (f _ ?_ ?_ ?_), hF.fr (by rw [f 0 (by omega) (by omega) (by omega)]) (by rw [f 0 (by omega) (by omega) (by omega)]) (by rw [f 57 (by omega) (by omega) (by omega)]) (by rw [f 57 (by omega) (by omega) (by omega)]), hT2.fr (by rw [f 55 (by omega) (by omega) (by omega)]) (f _ ?_ ?_ ?_) (by rw [f 57 (by omega) (by omega) (by omega)]) (f _ ?_ ?_ ?_)⟩
  all_goals omega
theorem two {w : Nat} (h : w < 2) : w = 0 ∨ w = 1 := by omega
theorem nar1 : vp_nar .boolean (1 : Int32) = nI 1 := by decide
theorem st_image : St_image Inv := by
  intro t mem a1 ht hI
  obtain ⟨g, hC, hM, hO, hG, hA, hR, hT, hF, hT2⟩ := id hI
  have h2 := hO.1
  have c0 := hC.1.1
  unfold X6_image X7_image
  rcases rng a1 2 (by omega) with ⟨w, hw, rfl⟩ | hw
  · by_cases h0 : g 0 = 0
    · refine q_step hI (r := -nI 1000002) ?_ ?_
      · simp (disch := omega) only [rfs, c_isChoice_y hw, cll_s, L32, ite10, c0, h0, if_true]
      · simp (disch := omega) only [rfs, m_in_y, cll_s, L32, L64, ite10, al, hM 0, h0, if_true]
    · have hne : ¬ nI (g 0) = nI 0 := nI_neN (by omega) (by omega) h0
      rcases two hw with rfl | rfl
      · obtain ⟨m1, m2, p1, p2, hM1, q1, fin⟩ := image_fin (o := 25) (k := 0) (off := 0) (Or.inl ⟨rfl, rfl, rfl⟩) hI hC hM hO h0
        refine ⟨nI 1, m1, st2 m2 71 0 (nI 1), ?_, ?_, fin⟩
        · unfold X6_imageNumbered
          simp (disch := omega) only [rfs, c_isChoice_y hw, cll_s, L32, ite10, c0, hne, if_true, if_false, p1, kds, chk_T]
        · simp (disch := omega) only [rfs, m_in_y, L64, al, hM1 0, pk_mul, L32, cll_s, ite10, hne, if_false, q1, as_, Nat.mul_zero, nar1]
          rw [show vp_nar .boolean (nI 1) = nI 1 from nar1]
      · obtain ⟨m1, m2, p1, p2, hM1, q1, fin⟩ := image_fin (o := 34) (k := 1) (off := 63) (Or.inr ⟨rfl, rfl, rfl⟩) hI hC hM hO h0
        refine ⟨nI 1, m1, st2 m2 71 1 (nI 1), ?_, ?_, fin⟩
        · unfold X6_imageNumbered
          simp (disch := omega) only [rfs, c_isChoice_y hw, cll_s, L32, ite10, c0, hne, if_true, if_false, p1, kds, chk_T]
        · simp (disch := omega) only [rfs, m_in_y, L64, al, hM1 0, pk_mul, L32, cll_s, ite10, hne, if_false, q1, as_, Nat.mul_one, nar1]
          rw [show vp_nar .boolean (nI 1) = nI 1 from nar1]
  · refine q_step hI (r := -nI 1000001) ?_ ?_
    · simp (disch := omega) only [c_isChoice_n hw, cll_s, L32, if_true]
    · simp (disch := omega) only [m_in_n, cll_s, L32, L64, if_true]
/-- another office stands now, with no act kept -/
theorem Inv.anew {m' : Mem} {g' : Nat → Nat} (h : Inv t mem) (he : ∀ q, ¬ (7 ≤ q ∧ q ≤ 15) → q ≠ 43 → q ≠ 62 → q ≠ 57 → m' q = mem q) (h57 : ∀ j, j ≠ 13 → m' 57 j = mem 57 j) (hC : CO m' 7 g') (hM : MO m' g') (hO : OkG t g') (e7 : m' 43 7 = nI 0) (e8 : m' 43 8 = nI 0) (e13 : m' 57 13 = nI 0) : Inv (t + 1) m' := by
  obtain ⟨g, _, _, _, hG, _, hR, hT, hF, hT2⟩ := h
  refine Inv.mono ⟨g', hC, hM, hO, hG.fr (fun q h1 h2 => he q ?_ ?_ ?_ ?_) (he _ ?_ ?_ ?_ ?_) (he _ ?_ ?_ ?_ ?_), ⟨0, 0, fun _ => g', by omega, by omega, e8, e13, e7, rfl, fun i hi => by omega⟩, hR.fr (he _ ?_ ?_ ?_ ?_) (he _ ?_ ?_ ?_ ?_) (he _ ?_ ?_ ?_ ?_) (he _ ?_ ?_ ?_ ?_) (he _ ?_ ?_ ?_ ?_) (he _ ?_ ?_ ?_ ?_), hT.fr (by rw [he 5 (by omega) (by omega) (by omega) (by omega)]) (he _ ?_ ?_ ?_ ?_) (h57 _ ?_) (he _ ?_ ?_ ?_ ?_), hF.fr (by rw [he 0 (by omega) (by omega) (by omega) (by omega)]) (by rw [he 0 (by omega) (by omega) (by omega) (by omega)]) (h57 _ ?_) (h57 _ ?_), hT2.fr (by rw [he 55 (by omega) (by omega) (by omega) (by omega)]) (he _ ?_ ?_ ?_ ?_) (h57 _ ?_) (he _ ?_ ?_ ?_ ?_)⟩
  all_goals omega
theorem restore_fin {o k off : Nat} (hok : (o = 25 ∧ k = 0 ∧ off = 0) ∨ (o = 34 ∧ k = 1 ∧ off = 63)) (hI : Inv t mem) : (mem o 0 = nI 0 ∧ mem 71 k = nI 0) ∨ (mem o 0 = nI 1 ∧ mem 71 k = nI 1 ∧ ∃ m1 m2, X3_becomes 7 o mem = some ((), m1) ∧ m1 71 = mem 71 ∧ X7_takeFrom 57 70 (nI off) (st2 (st2 m1 43 7 (nI 0)) 43 8 (nI 0)) = some ((), m2) ∧ Inv (t + 1) (st2 m2 57 13 (nI 0))) := by
  obtain ⟨g', _, _, _, hG, _⟩ := id hI
  have hof : OFC o := by rcases hok with ⟨rfl, _⟩ | ⟨rfl, _⟩; exact ofc25; exact ofc34
  have hk : IMG1 t mem o k off := by rcases hok with ⟨rfl, rfl, rfl⟩ | ⟨rfl, rfl, rfl⟩; exact hG.1; exact hG.2
  rcases hk with h | ⟨a, b, g, hC, hO, g1, e⟩
  · exact Or.inl h
  · have h2 := hO.1
    obtain ⟨m1, p1, p2, p3⟩ := c_becomes ofc7 hof (by omega) hC ⟨h2.1, h2.2.2.2.1, h2.2.2.2.2.1⟩
    obtain ⟨m2, q1, q2, q3⟩ := m_take_l 70 (by decide) (by decide) (a := off) (by simp only [lns]; omega) 64 0 fu (st2 (st2 m1 43 7 (nI 0)) 43 8 (nI 0)) (by omega) (by omega) (fu_ge (by omega))
    refine Or.inr ⟨a, b, m1, m2, p1, p3 71 (by omega), q1, ?_⟩
    have f2 : ∀ q, q ≠ 62 → q ≠ 57 → q ≠ 43 → st2 m2 57 13 (nI 0) q = m1 q := fun q z1 z2 z3 => by rw [st2_k z2, q2 q z1, st2_k z3, st2_k z3]
    refine hI.anew (g' := g) (fun q z1 z2 z3 z4 => ?_) (fun j hj => ?_) (p2.fr fun q z1 z2 => f2 q (by omega) (by omega) (by omega)) (fun j hj => ?_) hO ?_ ?_ st2_s
    · rw [f2 q z3 z4 z2, p3 q z1]
    · rw [st2_i hj, q2 57 (by omega), st2_k (by omega), st2_k (by omega), p3 57 (by omega)]
    · rw [st2_k (by omega), q3 j, if_pos (show 0 ≤ j ∧ j < 63 by omega), st2_k (by omega), st2_k (by omega), p3 70 (by omega), e j hj]
    · rw [st2_k (by omega), q2 43 (by omega), st2_i (by omega), st2_s]
    · rw [st2_k (by omega), q2 43 (by omega), st2_s]
theorem st_restore : St_restore Inv := by
  intro t mem a1 ht hI
  unfold X6_restore X7_restore
  rcases rng a1 2 (by omega) with ⟨w, hw, rfl⟩ | hw
  · rcases two hw with rfl | rfl
    · rcases restore_fin (o := 25) (k := 0) (off := 0) (Or.inl ⟨rfl, rfl, rfl⟩) hI with ⟨e1, e2⟩ | ⟨e1, e2, m1, m2, p1, p2, q1, fin⟩
      · refine q_step hI (r := -nI 1000002) ?_ ?_
        · unfold X6_imageNumbered
          simp (disch := omega) only [rfs, c_isChoice_y hw, cll_s, L32, ite10, if_true, kds, chk_T, e1]
        · simp (disch := omega) only [rfs, m_in_y, cll_s, L32, L64, ite10, al, e2, if_true]
      · refine ⟨nI 1, st2 (st2 m1 43 7 (nI 0)) 43 8 (nI 0), st2 m2 57 13 (nI 0), ?_, ?_, fin⟩
        · unfold X6_imageNumbered X0_forgetAll
          simp (disch := omega) only [rfs, c_isChoice_y hw, cll_s, L32, ite10, if_true, kds, chk_T, e1, p1]
        · simp (disch := omega) only [rfs, m_in_y, cll_s, L32, L64, ite10, al, st2_k, p2, e2, pk_mul, Nat.mul_zero, q1]
    · rcases restore_fin (o := 34) (k := 1) (off := 63) (Or.inr ⟨rfl, rfl, rfl⟩) hI with ⟨e1, e2⟩ | ⟨e1, e2, m1, m2, p1, p2, q1, fin⟩
      · refine q_step hI (r := -nI 1000002) ?_ ?_
        · unfold X6_imageNumbered
          simp (disch := omega) only [rfs, c_isChoice_y hw, cll_s, L32, ite10, if_true, kds, chk_T, e1]
        · simp (disch := omega) only [rfs, m_in_y, cll_s, L32, L64, ite10, al, e2, if_true]
      · refine ⟨nI 1, st2 (st2 m1 43 7 (nI 0)) 43 8 (nI 0), st2 m2 57 13 (nI 0), ?_, ?_, fin⟩
        · unfold X6_imageNumbered X0_forgetAll
          simp (disch := omega) only [rfs, c_isChoice_y hw, cll_s, L32, ite10, if_true, kds, chk_T, e1, p1]
        · simp (disch := omega) only [rfs, m_in_y, cll_s, L32, L64, ite10, al, st2_k, p2, e2, pk_mul, Nat.mul_one, q1]
  · refine q_step hI (r := -nI 1000001) ?_ ?_
    · simp (disch := omega) only [c_isChoice_n hw, cll_s, L32, if_true]
    · simp (disch := omega) only [m_in_n, cll_s, L32, L64, if_true]
end IM2
