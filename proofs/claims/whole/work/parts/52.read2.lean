/-! ===== PURE: read, aloud, the class's and the reference's way ===== -/
section RD2
variable {mem : Mem} {g : Nat → Nat} {t : Nat}
theorem c_letRead (hC : CO mem 7 g) (hO : OkG t g) (ht : t ≤ 600) {r l L K nx : Nat} (hr : r < g 3) (hl : l < g 2) (hL : L < 16) (hLr : hasB L r = false) (hK : K ≤ 24) (hnx : nx < 24) (k7 : mem 43 7 = nI nx) (k8 : mem 43 8 = nI K) :
    ∃ m1, X0_letRead 43 7 (nI r) (nI l) (nI L) mem = some ((), m1) ∧ CO m1 7 (acG g r l L) ∧ (∀ q, ¬ (7 ≤ q ∧ q ≤ 15) → ¬ (43 ≤ q ∧ q ≤ 50) → m1 q = mem q) ∧ m1 43 7 = nI (nxF nx) ∧ m1 43 8 = nI (K + 1 - shF K) ∧ (∀ q c, 44 ≤ q → q ≤ 50 → c ≠ nx → m1 q c = mem q c) ∧
      m1 44 nx = nI 0 ∧ m1 45 nx = nI r ∧ m1 46 nx = nI l ∧ m1 47 nx = nI (costN g r l) ∧ m1 48 nx = nI (tmN g r l) ∧ m1 49 nx = nI L ∧ m1 50 nx = nI (sett (newB L (fun q => g (35 + q)) l) (g 3)) := by
  have h2 := hO.1
  have hcost : costN g r l ≤ 120 := costP_le (by have := hO.2.1 l hl; omega)
  have pr := hC.2.2.1 r hr
  have pr' := hO.2.2.1 r hr
  have pt : mem 15 (r * 6 + l) = nI (g (39 + 4 * l + r)) := hC.2.2.2 r l hr hl
  have pt' := hO.2.2.2 r l hr hl
  have p12 : mem 12 r = nI (g (31 + r)) := pr.2.1
  have htm : tmN g r l ≤ 1 := by unfold tmN; split <;> omega
  obtain ⟨ma, hma⟩ : ∃ ma, ma = st2 (st2 (st2 (st2 (st2 mem 12 r (nI (g (31 + r) + costN g r l))) 15 (r * 6 + l) (nI (g (39 + 4 * l + r) + tmN g r l))) 45 nx (nI r)) 48 nx (nI (tmN g r l))) 49 nx (nI L) := ⟨_, rfl⟩
  have fa : ∀ q, q ≠ 12 → q ≠ 15 → q ≠ 45 → q ≠ 48 → q ≠ 49 → ma q = mem q := fun q z1 z2 z3 z4 z5 => by rw [hma, st2_k z5, st2_k z4, st2_k z3, st2_k z2, st2_k z1]
  obtain ⟨mb, b1, b2, b3, b4⟩ := c_hear_l (R := g 3) (L := L) (d := (costN g r l + 9) / 10) (l := l) (by omega) hL (by omega) (by omega) (fun q => if q = r then g (31 + r) + costN g r l else g (31 + q)) (fun q => g (35 + q)) (g 3 + 1) 0 fu ma (by rw [fa 7 (by omega) (by omega) (by omega) (by omega) (by omega), hC.1.2.2.2.2])
    (fun q _ hq => by
      have p := hC.2.2.1 q hq
      have p' := hO.2.2.1 q hq
      refine ⟨?_, ?_, ?_, p'.2.2.2.2⟩
      · rw [hma, st2_k (by omega), st2_k (by omega), st2_k (by omega), st2_k (by omega)]
        by_cases e : q = r
        · rw [e, st2_s, if_pos rfl]
        · rw [st2_i e, if_neg e]; exact p.2.1
      · rw [fa 14 (by omega) (by omega) (by omega) (by omega) (by omega)]; exact p.2.2.2
      · show (if q = r then g (31 + r) + costN g r l else g (31 + q)) < 3000
        split <;> omega) (by omega) (by omega) (fu_ge (by omega))
  have fb : ∀ q, q ≠ 12 → q ≠ 14 → q ≠ 15 → q ≠ 45 → q ≠ 48 → q ≠ 49 → mb q = mem q := fun q z1 z0 z2 z3 z4 z5 => by rw [b2 q z1 z0, fa q z1 z2 z3 z4 z5]
  obtain ⟨m1, p1, p2, p3, p4, p5, p6, p7, p8⟩ := c_keep (mem := st2 mb 50 nx (nI (sett (newB L (fun q => g (35 + q)) l) (g 3)))) hK hnx (by rw [st2_k (by omega), fb 43 (by omega) (by omega) (by omega) (by omega) (by omega) (by omega), k7]) (by rw [st2_k (by omega), fb 43 (by omega) (by omega) (by omega) (by omega) (by omega) (by omega), k8]) (nI 0) (nI l) (nI (costN g r l))
  have f1 : ∀ q, q ≠ 43 → q ≠ 44 → q ≠ 46 → q ≠ 47 → q ≠ 50 → m1 q = mb q := fun q z1 z2 z3 z4 z5 => by rw [p2 q z1 z2 z3 z4, st2_k z5]
  refine ⟨m1, ?_, ?_, fun q z1 z2 => ?_, p3, p4, fun q c z1 z2 z3 => ?_, p5, ?_, p6, p7, ?_, ?_, ?_⟩
  · have hk7 : mb 43 7 = nI nx := by rw [fb 43 (by omega) (by omega) (by omega) (by omega) (by omega) (by omega), k7]
    have key : X0_letRead_b23 43 7 (nI r) (nI l) (nI L) (nI (costN g r l)) (nI (tmN g r l)) mem = some ((), m1) := by
      unfold X0_letRead_b23 X3_addTimesRead X0_letHear
      simp (disch := omega) only [rfs, al, p12, nI_add, as_, pk_mul, L32, st2_k, pt, cll_s, k7, c_tenthUp]
      rw [show nI (sett (newB L (fun q => g (35 + q)) l) 0) = nI 0 from rfl] at b1
      rw [← hma, b1]
      simp (disch := omega) only [cll_s, as_, p1]
    unfold X0_letRead
    simp (disch := omega) only [c_cost hC hO ht hr hl, cll_s, c_survives hC hO hr, L32, b2_0]
    unfold tmN at key
    by_cases hv : g (31 + r) + costN g r l < g (27 + r)
    · rw [if_pos hv]; rw [if_pos hv] at key; exact key
    · rw [if_neg hv]; rw [if_neg hv] at key; exact key
  · have ee : ∀ j, (j < 31 ∨ 39 ≤ j) → j ≠ 39 + 4 * l + r → acG g r l L j = g j := fun j h h' => acG_o hr (by omega) h h'
    have fo : ∀ q, 7 ≤ q → q ≤ 15 → q ≠ 12 → q ≠ 14 → q ≠ 15 → m1 q = mem q := fun q z1 z2 z3 z4 z5 => by rw [f1 q (by omega) (by omega) (by omega) (by omega) (by omega), fb q z3 z4 z5 (by omega) (by omega) (by omega)]
    refine ⟨?_, fun x hx => ?_, fun q hq => ?_, fun q x hq hx => ?_⟩
    · rw [fo 7 (by omega) (by omega) (by omega) (by omega) (by omega), ee 0 (by omega) (by omega), ee 1 (by omega) (by omega), ee 2 (by omega) (by omega), ee 3 (by omega) (by omega), ee 4 (by omega) (by omega)]
      exact hC.1
    · rw [ee 2 (by omega) (by omega)] at hx
      rw [fo 8 (by omega) (by omega) (by omega) (by omega) (by omega), fo 9 (by omega) (by omega) (by omega) (by omega) (by omega), fo 10 (by omega) (by omega) (by omega) (by omega) (by omega), ee _ (by omega) (by omega), ee _ (by omega) (by omega), ee _ (by omega) (by omega)]
      exact hC.2.1 x hx
    · rw [ee 3 (by omega) (by omega)] at hq
      have p := hC.2.2.1 q hq
      obtain ⟨w1, w2⟩ := b3 q (Nat.zero_le q) hq
      rw [fo 11 (by omega) (by omega) (by omega) (by omega) (by omega), fo 13 (by omega) (by omega) (by omega) (by omega) (by omega), ee (23 + q) (by omega) (by omega), ee (27 + q) (by omega) (by omega)]
      refine ⟨p.1, ?_, p.2.2.1, ?_⟩
      · show m1 12 q = _
        rw [f1 12 (by omega) (by omega) (by omega) (by omega) (by omega), w1]
        congr 1
        by_cases e : q = r
        · rw [e, hLr, if_neg (by decide), if_pos rfl, acG_r]
        · rw [acG_a hq (by omega) e, if_neg e]
      · show m1 14 q = _
        rw [f1 14 (by omega) (by omega) (by omega) (by omega) (by omega), w2, acG_h hr hq (by omega)]
    · rw [ee 2 (by omega) (by omega)] at hx
      rw [ee 3 (by omega) (by omega)] at hq
      show m1 15 (q * 6 + x) = _
      rw [f1 15 (by omega) (by omega) (by omega) (by omega) (by omega), b2 15 (by omega) (by omega), hma, st2_k (by omega), st2_k (by omega), st2_k (by omega)]
      by_cases e : q = r ∧ x = l
      · rw [e.1, e.2, st2_s, acG_t hr (by omega)]
      · rw [st2_i (show q * 6 + x ≠ r * 6 + l by omega), st2_k (by omega), ee _ (by omega) (by omega)]
        exact hC.2.2.2 q x hq hx
  · rw [f1 q (by omega) (by omega) (by omega) (by omega) (by omega), fb q (by omega) (by omega) (by omega) (by omega) (by omega) (by omega)]
  · rw [p8 q c (by omega) z3, st2_c z3, b2 q (by omega) (by omega), hma, st2_c z3, st2_c z3, st2_c z3, st2_k (by omega), st2_k (by omega)]
  · rw [f1 45 (by omega) (by omega) (by omega) (by omega) (by omega), b2 45 (by omega) (by omega), hma, st2_k (by omega), st2_k (by omega), st2_s]
  · rw [f1 48 (by omega) (by omega) (by omega) (by omega) (by omega), b2 48 (by omega) (by omega), hma, st2_k (by omega), st2_s]
  · rw [f1 49 (by omega) (by omega) (by omega) (by omega) (by omega), b2 49 (by omega) (by omega), hma, st2_s]
  · rw [p2 50 (by omega) (by omega) (by omega) (by omega), st2_s]
theorem Dl_read {m : Mem} {r l L nx : Nat} (hO : OkG t g) (hr : r < g 3) (hl : l < g 2) (hL : L < 16) (hLr : hasB L r = false) (y0 : m 44 nx = nI 0) (y1 : m 45 nx = nI r) (y2 : m 46 nx = nI l) (y3 : m 47 nx = nI (costN g r l)) (y4 : m 48 nx = nI (tmN g r l)) (y5 : m 49 nx = nI L) (y6 : m 50 nx = nI (sett (newB L (fun q => g (35 + q)) l) (g 3))) : Dl m nx g (acG g r l L) := by
  have h2 := hO.1
  have hcost : costN g r l ≤ 120 := costP_le (by have := hO.2.1 l hl; omega)
  have htm : tmN g r l ≤ 1 := by unfold tmN; split <;> omega
  have ee : ∀ j, (j < 31 ∨ 39 ≤ j) → j ≠ 39 + 4 * l + r → acG g r l L j = g j := fun j h h' => acG_o hr (by omega) h h'
  have e3 : acG g r l L 3 = g 3 := ee 3 (by omega) (by omega)
  refine Or.inr (Or.inr ⟨r, l, costN g r l, tmN g r l, L, sett (newB L (fun q => g (35 + q)) l) (g 3), y0, y1, y2, y3, y4, y5, y6, by rw [e3]; exact hr, by rw [ee 2 (by omega) (by omega)]; exact hl, hcost, htm, hL, sett_small (m := 4) _ (by omega), hLr, acG_r.symm, (acG_t hr (by omega)).symm, fun q hq hb => ?_, fun q hq e hb => ?_, fun q hq hb => ?_, fun q hq hb => ?_, fun j hj h1 h3 => ?_⟩)
  · rw [e3] at hq
    have e : q ≠ r := fun e => by rw [e, hLr] at hb; cases hb
    rw [acG_a hq (by omega) e, if_pos hb]
  · rw [e3] at hq
    rw [acG_a hq (by omega) e, hb, if_neg (by decide)]
  · rw [e3] at hq
    rw [sett_bit _ _ _ hq] at hb
    have p' := hO.2.2.1 q hq
    unfold newB at hb
    rw [Bool.and_eq_true] at hb
    have h9 : ¬ hasB (g (35 + q)) l = true := by simpa using hb.2
    rw [acG_h hr hq (by omega), if_pos hb.1]
    refine ⟨(or6b _ p'.2.2.2.2 l (by omega)).2, ?_⟩
    unfold orN
    rw [if_neg h9]
  · rw [e3] at hq
    rw [sett_bit _ _ _ hq] at hb
    rw [acG_h hr hq (by omega)]
    by_cases h : hasB L q = true
    · rw [if_pos h]
      unfold orN
      have h9 : hasB (g (35 + q)) l = true := by
        unfold newB at hb
        rw [h] at hb
        simpa using hb
      rw [if_pos h9]
    · rw [if_neg h]
  · unfold acG
    rw [e3] at h3
    rw [if_neg (h3 r hr).1, if_neg h1, if_neg (fun z => (h3 (j - 31) (by omega)).1 (by omega)), if_neg (fun z => (h3 (j - 35) (by omega)).2 (by omega))]
theorem m_readNow {m : Mem} (hM : MO m g) (hO : OkG t g) (ht : t ≤ 600) {r l : Nat} (hr : r < g 3) (hl : l < g 2) : ∃ m', X7_readNow 57 (nI r) (nI l) (nI (costN g r l)) m = some ((), m') ∧ MO m' (fun j => if j = 31 + r then g j + costN g r l else if j = 39 + 4 * l + r then g j + tmN g r l else g j) ∧ ∀ q, q ≠ 62 → m' q = m q := by
  have h2 := hO.1
  have hcost : costN g r l ≤ 120 := costP_le (by have := hO.2.1 l hl; omega)
  have pr' := hO.2.2.1 r hr
  have pt' := hO.2.2.2 r l hr hl
  have htm : tmN g r l ≤ 1 := by unfold tmN; split <;> omega
  have hM1 := hM.set1 (31 + r) (g (31 + r) + costN g r l)
  have hM2 := hM1.set1 (39 + 4 * l + r) (g (39 + 4 * l + r) + tmN g r l)
  refine ⟨st2 (st2 m 62 (31 + r) (nI (g (31 + r) + costN g r l))) 62 (39 + 4 * l + r) (nI (g (39 + 4 * l + r) + tmN g r l)), ?_, fun j hj => ?_, fun q hq => by rw [st2_k hq, st2_k hq]⟩
  · have h7 := m_age hM1 (r := r) (by omega)
    have h8 := m_span hM1 (r := r) (by omega)
    rw [if_pos rfl] at h7
    rw [if_neg (show ¬ 27 + r = 31 + r by omega)] at h8
    have h9 : st2 m 62 (31 + r) (nI (g (31 + r) + costN g r l)) 62 (39 + 4 * l + r) = nI (g (39 + 4 * l + r)) := by rw [st2_i (by omega), hM _ (by omega)]
    unfold X7_readNow X7_isAlive X7_readNow_b40
    simp (disch := omega) only [rfs, L32, nI_add, al, hM (31 + r), as_, pk_mul, h9, h7, h8, cll_s, nI_ltI, chk_1, chk_0]
    unfold tmN
    by_cases hv : g (31 + r) + costN g r l < g (27 + r)
    · rw [if_pos hv, if_pos hv, cll_s, ite10]
    · rw [if_neg hv, if_neg hv, cll_s, if_pos rfl]
  · have := hM2 j hj
    rw [this]
    congr 1
    show (if j = 39 + 4 * l + r then g (39 + 4 * l + r) + tmN g r l else if j = 31 + r then g (31 + r) + costN g r l else g j) = (if j = 31 + r then g j + costN g r l else if j = 39 + 4 * l + r then g j + tmN g r l else g j)
    by_cases e : j = 39 + 4 * l + r
    · rw [if_pos e, if_neg (show ¬ j = 31 + r by omega), if_pos e, e]
    · rw [if_neg e]
      by_cases e2 : j = 31 + r
      · rw [if_pos e2, if_pos e2, e2]
      · rw [if_neg e2, if_neg e2, if_neg e]
end RD2
