/-! ===== PURE: the calls read and aloud ===== -/
section RD3
variable {mem : Mem} {g : Nat → Nat} {t : Nat}
theorem MO.cong {a b : Nat → Nat} (h : MO mem a) (he : ∀ j, j < 63 → a j = b j) : MO mem b := fun j hj => by rw [h j hj, he j hj]
theorem read_both (hI : Inv t mem) (hC : CO mem 7 g) (hM : MO mem g) (hO : OkG t g) (hA : ACT t mem g) (ht : t < 512) {r l L : Nat} (hr : r < g 3) (hl : l < g 2) (hL : L < 16) (hLr : hasB L r = false) (hf : fitB g r = true) (hLa : ∀ q, q < g 3 → hasB L q = true → aliveB g q = true) :
    ∃ m1, X0_letRead 43 7 (nI r) (nI l) (nI L) mem = some ((), m1) ∧ m1 12 r = nI (acG g r l L (31 + r)) ∧ MO m1 g ∧ ∃ m2, X7_remember 57 m1 = some ((), m2) ∧ MO m2 g ∧ ∀ m3 : Mem, (∀ q, q ≠ 62 → m3 q = m2 q) → MO m3 (acG g r l L) → Inv (t + 1) m3 := by
  have h2 := hO.1
  obtain ⟨K, nx, S, hK, hnx, k8, k13, k7, hS, h6⟩ := hA
  obtain ⟨m1, p1, p2, p3, p4, p5, p6, y0, y1, y2, y3, y4, y5, y6⟩ := c_letRead hC hO (t := t) (by omega) hr hl hL hLr hK hnx k7 k8
  have hM1 : MO m1 g := hM.fr (p3 62 (by omega) (by omega))
  obtain ⟨m2, q1, q2, q3, q4, q5, q6⟩ := m_remember hM1 hK (by rw [p3 57 (by omega) (by omega), k13])
  have e3 : acG g r l L 3 = g 3 := acG_o hr (by omega) (by omega) (by omega)
  refine ⟨m1, p1, (p2.2.2.1 r (by rw [e3]; exact hr)).2.1, hM1, m2, q1, hM1.fr (q2 62 (by omega) (by omega)), fun m3 hf3 hM3 => ?_⟩
  refine hI.act (g' := acG g r l L) (fun q z1 z2 z3 z4 z5 => ?_) (fun j hj => ?_) (p2.fr fun q z1 z2 => ?_) hM3 (hO.acg hr hl hf hLa) (ACT.mono (ACT.push hK hnx hS hO h6 ?_ ?_ ?_ (fun q c z1 z2 z3 => ?_) (fun i j z1 z2 => ?_) (fun j z => ?_) (Dl_read hO hr hl hL hLr ?_ ?_ ?_ ?_ ?_ ?_ ?_)))
  · rw [hf3 q z3, q2 q z4 z5, p3 q z1 z2]
  · rw [hf3 57 (by omega), q3 j hj, p3 57 (by omega) (by omega)]
  · rw [hf3 q (by omega), q2 q (by omega) (by omega)]
  · rw [hf3 43 (by omega), q2 43 (by omega) (by omega), p5]
  · rw [hf3 57 (by omega), q4]
  · rw [hf3 43 (by omega), q2 43 (by omega) (by omega), p4]
  · rw [hf3 q (by omega), q2 q (by omega) (by omega), p6 q c z1 z2 z3]
  · rw [hf3 65 (by omega), q5 i j z1 z2, p3 65 (by omega) (by omega)]
  · rw [hf3 65 (by omega), q6 j z]
  · rw [hf3 44 (by omega), q2 44 (by omega) (by omega), y0]
  · rw [hf3 45 (by omega), q2 45 (by omega) (by omega), y1]
  · rw [hf3 46 (by omega), q2 46 (by omega) (by omega), y2]
  · rw [hf3 47 (by omega), q2 47 (by omega) (by omega), y3]
  · rw [hf3 48 (by omega), q2 48 (by omega) (by omega), y4]
  · rw [hf3 49 (by omega), q2 49 (by omega) (by omega), y5]
  · rw [hf3 50 (by omega), q2 50 (by omega) (by omega), y6]
theorem hasB0 (q : Nat) : hasB 0 q = false := by simp [hasB]
theorem st_read : St_read Inv := by
  intro t mem a1 a2 ht hI
  obtain ⟨g, hC, hM, hO, hG, hA, hR, hT, hF, hT2⟩ := id hI
  have h2 := hO.1
  unfold X6_read X7_read
  rcases rng a1 (g 3) (by omega) with ⟨r, hr, rfl⟩ | hr
  · rcases rng a2 (g 2) (by omega) with ⟨l, hl, rfl⟩ | hl
    · by_cases hf : fitB g r = true
      · obtain ⟨m1, p1, p2, hM1, m2, q1, hM2, fin⟩ := read_both hI hC hM hO hA ht hr hl (L := 0) (by omega) (hasB0 r) hf (fun q _ hb => by rw [hasB0 q] at hb; cases hb)
        obtain ⟨m3, w1, hM3, w2⟩ := m_readNow hM2 hO (t := t) (by omega) hr hl
        have hM3' : MO m3 (acG g r l 0) := hM3.cong fun j hj => by
          unfold acG
          rw [if_neg (c := 31 ≤ j ∧ j < 31 + g 3 ∧ hasB 0 (j - 31) = true) (fun z => by rw [hasB0] at z; exact absurd z.2.2 (by decide)), if_neg (c := 35 ≤ j ∧ j < 35 + g 3 ∧ hasB 0 (j - 35) = true) (fun z => by rw [hasB0] at z; exact absurd z.2.2 (by decide))]
        refine ⟨nI (acG g r l 0 (31 + r)), m1, m3, ?_, ?_, fin m3 w2 hM3'⟩
        · simp (disch := omega) only [rfs, c_hasReader_y hC hO hr, c_hasLetter_y hC hO hl, c_fit hC hO hr, cll_s, L32, ite10, b2_0, hf, if_true, p1, al, p2]
        · simp (disch := omega) only [m_isReader_y hM1 hO hr, m_isLetter_y hM1 hO hl, m_fitR hM1 hO hr, cll_s, L32, ite10, b2_0, hf, if_true, q1, m_cost hM2 hO (t := t) (by omega) hr hl, w1, m_age hM3']
      · refine q_step hI (r := -nI 1000002) ?_ ?_
        · simp only [rfs, c_hasReader_y hC hO hr, c_hasLetter_y hC hO hl, c_fit hC hO hr, cll_s, L32, ite10, b2_0, hf, if_false, Bool.false_eq_true]
        · simp only [m_isReader_y hM hO hr, m_isLetter_y hM hO hl, m_fitR hM hO hr, cll_s, L32, ite10, b2_0, hf, if_false, Bool.false_eq_true]
    · refine q_step hI (r := -nI 1000001) ?_ ?_
      · simp only [rfs, c_hasReader_y hC hO hr, c_hasLetter_n hC hO hl, cll_s, L32, ite10, if_true]
      · simp only [m_isReader_y hM hO hr, m_isLetter_n hM hO hl, cll_s, L32, ite10, if_true]
  · refine q_step hI (r := -nI 1000001) ?_ ?_
    · simp only [rfs, c_hasReader_n hC hO hr, cll_s, L32, if_true]
    · simp only [m_isReader_n hM hO hr, cll_s, L32, if_true]
theorem m_aloud_l {R r L l d : Nat} (hR : R ≤ 4) (hr : r < 4) (hL : L < 16) (hl : l < 6) (hd : d ≤ 120) (A H : Nat → Nat) : ∀ (k i n : Nat) (mem : Mem), mem 62 3 = nI R →
    (∀ q, i ≤ q → q < R → mem 62 (31 + q) = nI (A q) ∧ mem 62 (35 + q) = nI (H q) ∧ A q < 3000 ∧ H q < 64) →
    i ≤ R → R - i < k → k ≤ n → ∃ m', X7_aloud_b90 57 n (nI r) (nI L) (nI l) (nI d) (nI i) mem = some (m' 62 (31 + r), m') ∧ (∀ q, q ≠ 62 → m' q = mem q) ∧ (∀ q, i ≤ q → q < R → m' 62 (31 + q) = nI (if hasB L q = true then A q + (d + 9) / 10 else A q) ∧ m' 62 (35 + q) = nI (if hasB L q = true then orN (H q) l else H q)) ∧ ∀ j, (∀ q, i ≤ q → q < R → j ≠ 31 + q ∧ j ≠ 35 + q) → m' 62 j = mem 62 j := by
  intro k
  induction k with
  | zero => intro i n mem _ _ h1 h2; omega
  | succ k ih =>
    intro i n mem e3 hA h1 h3 h4
    obtain ⟨n, rfl, h5⟩ := succ_of h4
    rw [X7_aloud_b90]
    unfold X7_readers
    by_cases hlt : i < R
    · obtain ⟨x1, x2, x3, x4⟩ := hA i (Nat.le_refl i) hlt
      obtain ⟨v, hv⟩ : ∃ v, v = (if hasB L i = true then A i + (d + 9) / 10 else A i) := ⟨_, rfl⟩
      obtain ⟨w, hw⟩ : ∃ w, w = (if hasB L i = true then orN (H i) l else H i) := ⟨_, rfl⟩
      obtain ⟨m', e1, e2, e4, e5⟩ := ih (i + 1) n (st2 (st2 mem 62 (31 + i) (nI v)) 62 (35 + i) (nI w)) (by rw [st2_i (by omega), st2_i (by omega), e3])
        (fun q z1 z2 => by rw [st2_i (show 31 + q ≠ 35 + i by omega), st2_i (show 31 + q ≠ 31 + i by omega), st2_i (show 35 + q ≠ 35 + i by omega), st2_i (show 35 + q ≠ 31 + i by omega)]; exact hA q (by omega) z2) (by omega) (by omega) (by omega)
      refine ⟨m', ?_, fun q z1 => by rw [e2 q z1, st2_k z1, st2_k z1], fun q z1 z2 => ?_, fun j hj => ?_⟩
      · by_cases hb : hasB L i = true
        · rw [if_pos hb] at hv hw
          have ho := or6 (H i) x4 l hl
          have hu : X7_upwards (nI d) (nI 10) mem = some (nI ((d + 9) / 10), mem) := by
            rw [m_upwards (by omega) (by omega) (by omega), show d + 10 - 1 = d + 9 by omega]
          simp (disch := omega) only [rfs, e3, al, cll_s, nI_ltI, hlt, if_true, m_has, L32, b2_0, hb, X7_aloud_b144, nI_add, x1, hu, as_, st2_i, x2, shl_n, ho]
          rw [← hv, ← hw]
          exact e1
        · rw [if_neg hb] at hv hw
          have hsame : st2 (st2 mem 62 (31 + i) (nI v)) 62 (35 + i) (nI w) = mem := by
            rw [hv, hw, ← x1, st2_self, ← x2, st2_self]
          rw [hsame] at e1
          simp (disch := omega) only [rfs, e3, al, cll_s, nI_ltI, hlt, if_true, m_has, L32, b2_0, hb, Bool.false_eq_true, if_false, X7_aloud_b144, nI_add]
          exact e1
      · by_cases hq : q = i
        · rw [hq, e5 (31 + i) (fun q _ _ => by omega), e5 (35 + i) (fun q _ _ => by omega), st2_i (by omega), st2_s, st2_s, hv, hw]
          exact ⟨rfl, rfl⟩
        · exact e4 q (by omega) z2
      · have := hj i (Nat.le_refl i) hlt
        rw [e5 j (fun q z1 z2 => hj q (by omega) z2), st2_i this.2, st2_i this.1]
    · refine ⟨mem, ?_, fun _ _ => rfl, fun q z1 z2 => by omega, fun _ _ => rfl⟩
      unfold X7_age
      simp (disch := omega) only [rfs, e3, al, cll_s, nI_ltI, hlt, if_false, L32, nI_add]
theorem c_areAlive_l (hC : CO mem 7 g) (hO : OkG t g) {L : Nat} (hL : L < 16) : ∀ (k i n : Nat), i ≤ g 3 → g 3 - i < k → k ≤ n → ((∀ q, i ≤ q → q < g 3 → hasB L q = true → aliveB g q = true) → X3_areAlive_b2 7 n (nI L) (nI i) mem = some (nI 1, mem)) ∧ ((¬ ∀ q, i ≤ q → q < g 3 → hasB L q = true → aliveB g q = true) → X3_areAlive_b2 7 n (nI L) (nI i) mem = some (nI 0, mem)) := by
  have h2 := hO.1
  intro k
  induction k with
  | zero => intro i n h1 h2; omega
  | succ k ih =>
    intro i n h1 h3 h4
    obtain ⟨n, rfl, h5⟩ := succ_of h4
    rw [X3_areAlive_b2]
    by_cases hlt : i < g 3
    · obtain ⟨e1, e2⟩ := ih (i + 1) n (by omega) (by omega) (by omega)
      by_cases hb : hasB L i = true
      · by_cases ha : aliveB g i = true
        · simp (disch := omega) only [hC.1.2.2.2.2, nI_ltI, hlt, if_true, c_inSet, cll_s, L32, b2_0, hb, c_alive hC hO hlt, ha, X3_areAlive_b28, nI_add]
          refine ⟨fun h => e1 fun q z1 => h q (by omega), fun h => e2 fun h' => h fun q z1 z2 z3 => ?_⟩
          by_cases e : q = i
          · rw [e]; exact ha
          · exact h' q (by omega) z2 z3
        · simp (disch := omega) only [hC.1.2.2.2.2, nI_ltI, hlt, if_true, c_inSet, cll_s, L32, b2_0, hb, c_alive hC hO hlt, ha, Bool.false_eq_true, if_false, chk_0]
          exact ⟨fun h => absurd (h i (Nat.le_refl i) hlt hb) ha, fun _ => trivial⟩
      · simp (disch := omega) only [hC.1.2.2.2.2, nI_ltI, hlt, if_true, c_inSet, cll_s, L32, b2_0, hb, Bool.false_eq_true, if_false, X3_areAlive_b28, nI_add]
        refine ⟨fun h => e1 fun q z1 => h q (by omega), fun h => e2 fun h' => h fun q z1 z2 z3 => ?_⟩
        by_cases e : q = i
        · rw [e] at z3; exact absurd z3 hb
        · exact h' q (by omega) z2 z3
    · simp (disch := omega) only [hC.1.2.2.2.2, nI_ltI, hlt, if_false, L32, chk_1]
      exact ⟨fun _ => trivial, fun h => absurd (fun q z1 z2 => absurd z2 (by omega)) h⟩
end RD3
