/-! ===== PURE: the call of undo ===== -/
theorem Inv.actK {t : Nat} {mem : Mem} (h : Inv t mem) : ∃ K, mem 43 8 = nI K ∧ mem 57 13 = nI K := by
  obtain ⟨g, _, _, _, _, ⟨K, nx, S, _, _, e1, e2, _⟩, _⟩ := h
  exact ⟨K, e1, e2⟩
theorem c_tb_any {mem : Mem} {t : Nat} {a b : Nat → Nat} {c : Nat} (hC : CO mem 7 b) (hO : OkG t b) (hOa : OkG t a) (ht : t ≤ 600) (hc : c < 24) (h7 : mem 43 7 = nI c) (hD : Dl mem c a b) : ∃ m', (ald mem 44 (nI c) fun z4 => if z4 = nI 0 then (cll (X0_takeReadingBack 43 7 mem) fun _ m7 => X0_takeBack_b49 43 7 m7) else X0_takeBack_b49 43 7 mem) = some ((), m') ∧ CO m' 7 a ∧ ∀ q, ¬ (7 ≤ q ∧ q ≤ 15) → m' q = mem q := by
  have h2 := hO.1
  rcases hD with ⟨y1, y2, y3, y4⟩ | ⟨l, n, y1, y2, y3, hl, y4, y5⟩ | ⟨r, l, d, tm, L, NL, y0, y1, y2, y3, y4, y5, y6, hr, hl, hd, htm, hL, hNL, hLr, z1, z2, z3, z4, z5, z6, z7⟩
  · obtain ⟨m', e1, e2⟩ := c_tb_day hC hO hc h7 y1 y2 y3 y4
    refine ⟨m', ?_, e2⟩
    simp (disch := omega) only [al, y1]
    rw [if_neg (nI_neN (by omega) (by omega) (by omega))]
    exact e1
  · have e2' : a 2 = b 2 := y5 2 (by omega) (by omega)
    have hle := (hOa.2.1 l (by rw [e2']; exact hl)).2.2.2.1
    obtain ⟨m', e1, e2⟩ := c_tb_page hC hO hc h7 y1 y2 y3 hl y4 hle y5
    refine ⟨m', ?_, e2⟩
    simp (disch := omega) only [al, y1]
    rw [if_neg (nI_neN (by omega) (by omega) (by omega))]
    exact e1
  · obtain ⟨m', e1, e2⟩ := c_tb_read hC hO ht hc h7 y0 y1 y2 y3 y4 y5 y6 hr hl hd htm hL hNL hLr z1 z2 z3 z4 z5 z6 z7
    refine ⟨m', ?_, e2⟩
    simp (disch := omega) only [al, y0, if_true]
    exact e1
theorem st_undo : St_undo Inv := by
  intro t mem ht hI
  obtain ⟨g, hC, hM, hO, hG, hA, hR, hT, hF, hT2⟩ := id hI
  obtain ⟨K, nx, S, hK, hnx, k8, k13, k7, hS, h6⟩ := hA
  unfold X6_undo X7_undo
  by_cases h0 : K = 0
  · refine q_step hI (r := -nI 1000002) ?_ ?_
    · simp (disch := omega) only [rfs, L32, k8, nI_eq, h0, if_true]
    · simp (disch := omega) only [rfs, L32, k13, nI_eq, h0, if_true]
  · obtain ⟨w1, w2, w3⟩ := h6 (K - 1) (by omega)
    rw [show K - 1 + 1 = K by omega, hS] at w3
    obtain ⟨c, hcd⟩ : ∃ c, c = (if 0 < nx then nx - 1 else 23) := ⟨_, rfl⟩
    have hc : c < 24 ∧ (nx + 24 - (K - (K - 1))) % 24 = c ∧ ∀ i, i < K - 1 → (c + 24 - (K - 1 - i)) % 24 = (nx + 24 - (K - i)) % 24 := by
      rw [hcd]
      by_cases h : 0 < nx
      · rw [if_pos h]
        refine ⟨by omega, by omega, fun i hi => by omega⟩
      · rw [if_neg h]
        refine ⟨by omega, by omega, fun i hi => by omega⟩
    obtain ⟨hc1, hc2, hc3⟩ := hc
    rw [hc2] at w3
    have f : ∀ q, q ≠ 43 → st2 (st2 mem 43 7 (nI c)) 43 8 (nI (K - 1)) q = mem q := fun q hq => by rw [st2_k hq, st2_k hq]
    obtain ⟨m1, p1, p2, p3⟩ := c_tb_any (mem := st2 (st2 mem 43 7 (nI c)) 43 8 (nI (K - 1))) (hC.fr fun q _ _ => f q (by omega)) hO w2 (by omega) hc1 (by rw [st2_i (by omega), st2_s]) (w3.fr fun q _ _ => by rw [f q (by omega)])
    have f1 : ∀ q, ¬ (7 ≤ q ∧ q ≤ 15) → q ≠ 43 → m1 q = mem q := fun q z1 z2 => by rw [p3 q z1, f q z2]
    have k8' : m1 43 8 = nI (K - 1) := by rw [p3 43 (by omega), st2_s]
    have k7' : m1 43 7 = nI c := by rw [p3 43 (by omega), st2_i (by omega), st2_s]
    have k13' : m1 57 13 = nI K := by rw [f1 57 (by omega) (by omega), k13]
    obtain ⟨m2, q1, q2, q3⟩ := m_take_l 65 (by decide) (by decide) (a := 63 * (K - 1)) (by simp only [lns]; omega) 64 0 fu (st2 m1 57 13 (nI (K - 1))) (by omega) (by omega) (fu_ge (by omega))
    have hf : ∀ q, q ≠ 62 → q ≠ 57 → m2 q = m1 q := fun q z1 z2 => by rw [q2 q z1, st2_k z2]
    have h57 : ∀ j, m2 57 j = st2 m1 57 13 (nI (K - 1)) 57 j := fun j => by rw [q2 57 (by omega)]
    refine ⟨nI (K - 1), m1, m2, ?_, ?_, ?_⟩
    · have hne : ¬ nI K = nI 0 := nI_neN (by omega) (by omega) h0
      have e19 : ∀ z, z = nI c → X0_takeBack_b19 43 7 z mem = some ((), m1) := by
        intro z hz
        unfold X0_takeBack_b19
        rw [hz]
        simp (disch := omega) only [rfs, L32, st2_i, st2_s, k8, pk_sub]
        exact p1
      have e : X0_takeBack 43 7 mem = some ((), m1) := by
        unfold X0_takeBack
        simp (disch := omega) only [k7, L32, nI_ltI]
        by_cases h : 0 < nx
        · rw [if_pos h, e19]
          rw [hcd, if_pos h]
          exact pk_sub (by omega)
        · rw [if_neg h, e19]
          rw [hcd, if_neg h]
      simp only [rfs, L32, k8, hne, if_false, e, cll_s, k8']
    · have hne : ¬ nI K = nI 0 := nI_neN (by omega) (by omega) h0
      unfold X7_takeFrom
      simp (disch := omega) only [rfs, L32, k13', hne, if_false, pk_sub, st2_s, pk_mul, q1, cll_s, h57]
    · refine hI.act (g' := S (K - 1)) (fun q z1 z2 z3 z4 z5 => ?_) (fun j hj => ?_) (p2.fr fun q z1 z2 => ?_) (fun j hj => ?_) w2.mono ⟨K - 1, c, S, by omega, hc1, ?_, ?_, ?_, rfl, fun i hi => ?_⟩
      · rw [hf q z3 z5, f1 q z1 (by omega)]
      · rw [h57, st2_i hj, f1 57 (by omega) (by omega)]
      · rw [hf q (by omega) (by omega)]
      · rw [q3 j, if_pos (show 0 ≤ j ∧ j < 63 by omega), st2_k (by omega), f1 65 (by omega) (by omega), w1 j hj]
      · rw [hf 43 (by omega) (by omega), k8']
      · rw [h57, st2_s]
      · rw [hf 43 (by omega) (by omega), k7']
      · obtain ⟨x1, x2, x3⟩ := h6 i (by omega)
        refine ⟨fun j hj => ?_, x2.mono, ?_⟩
        · rw [hf 65 (by omega) (by omega), f1 65 (by omega) (by omega)]
          exact x1 j hj
        · rw [hc3 i hi]
          exact x3.fr fun q _ _ => by rw [hf q (by omega) (by omega), f1 q (by omega) (by omega)]
