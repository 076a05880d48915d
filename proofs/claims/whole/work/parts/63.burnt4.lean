/-! ===== PURE: the call burnt ===== -/
section BU4
variable {mem : Mem} {g : Nat → Nat} {t : Nat}
theorem m_prod_l (hM : MO mem g) (hO : OkG t g) (ht : t ≤ 600) {r c u w i W : Nat} (hr : r < g 3) (hc : c ≤ 10) (hu : u < 64) (hi : i < 64) (K : Int32 → Int32 → Int32 → Int32 → Int64 → Int64 → Int32 → Mem → Option (Int32 × Mem)) : ∀ (k l n : Nat), l ≤ g 2 → g 2 - l < k → k ≤ n → X7_burnt_b76 57 K n (nI r) (nI c) (nI w) (nI u) (lN W) (lN 1) (nI i) (lN (prN i u c l)) (nI l) mem = K (nI r) (nI c) (nI w) (nI u) (lN (W + if bwB g r u i = true then prN i u c (g 2) else 0)) (lN 1) (nI (i + 1)) mem := by
  have h2 := hO.1
  have h11 := m_age hM (r := r) (by omega)
  have h12 := m_span hM (r := r) (by omega)
  intro k
  induction k with
  | zero => intro l n h1 h2; omega
  | succ k ih =>
    intro l n h1 h3 h4
    obtain ⟨n, rfl, h5⟩ := succ_of h4
    rw [X7_burnt_b76]
    dsimp only
    rw [m_letters hM, cll_s]
    by_cases hlt : l < g 2
    · have e := ih (l + 1) n (by omega) (by omega) (by omega)
      rw [prN] at e
      have hz : nI l < nI (g 2) := by rw [nI_ltI (by omega) (by omega)]; exact hlt
      rw [if_pos hz, m_has (by omega) (by omega), cll_s]
      unfold prF at e
      by_cases hb : hasB i l = true
      · rw [if_pos hb] at e
        rw [b2_t hb, if_neg (show ¬ nI 1 = (0 : Int32) from nI01), n64 (by omega)]
        unfold X7_burnt_b122
        rw [show (10 : Int64) = lN 10 from rfl, lN_sub (by omega), lN_mul, show (1 : Int32) = nI 1 from rfl, nI_add]
        exact e
      · rw [if_neg hb] at e
        rw [b2_f hb, if_pos (show nI 0 = (0 : Int32) from rfl), m_has (by omega) (by omega), cll_s]
        by_cases hb2 : hasB u l = true
        · rw [if_pos hb2] at e
          rw [b2_t hb2, if_neg (show ¬ nI 1 = (0 : Int32) from nI01), n64 (by omega)]
          unfold X7_burnt_b122
          rw [lN_mul, show (1 : Int32) = nI 1 from rfl, nI_add]
          exact e
        · rw [if_neg hb2] at e
          rw [b2_f hb2, if_pos (show nI 0 = (0 : Int32) from rfl)]
          unfold X7_burnt_b122
          rw [show (1 : Int64) = lN 1 from rfl, lN_mul, show (1 : Int32) = nI 1 from rfl, nI_add]
          exact e
    · have hE : l = g 2 := by omega
      have hz : ¬ nI l < nI (g 2) := by rw [nI_ltI (by omega) (by omega)]; exact hlt
      rw [if_neg hz, hE]
      by_cases hsub : nI i &&& (nI u ^^^ -nI 1) = nI 0
      · have h7 := costA_le hO r i
        have h13 := hO.2.2.1 r hr
        have hcA : X7_costAll 57 (nI r) (nI i) mem = some (nI (costA g r i), mem) := m_costAll hM hO ht hr (s := i) hi
        have hl2 : (nI (g (31 + r)) + nI (costA g r i) < nI (g (27 + r))) = (g (31 + r) + costA g r i < g (27 + r)) := by rw [nI_add, nI_ltI (by omega) (by omega)]
        rw [if_pos (show nI i &&& (nI u ^^^ (-1 : Int32)) = 0 from hsub), h11, cll_s, hcA, cll_s, h12, cll_s]
        by_cases hv : g (31 + r) + costA g r i < g (27 + r)
        · have hb : bwB g r u i = true := by unfold bwB; rw [decide_eq_true hsub, decide_eq_true hv]; rfl
          rw [if_pos (hl2.mpr hv), if_pos hb]
          unfold X7_burnt_b167 X7_burnt_b182
          rw [if_neg (show ¬ (1 : Int32) = 0 by decide), lN_add, show (1 : Int32) = nI 1 from rfl, nI_add]
        · have hb : ¬ bwB g r u i = true := by unfold bwB; rw [decide_eq_false hv]; simp
          rw [if_neg (fun z => hv (hl2.mp z)), if_neg hb]
          unfold X7_burnt_b166 X7_burnt_b167 X7_burnt_b182
          rw [if_pos rfl, show (0 : Int64) = lN 0 from rfl, lN_add, show (1 : Int32) = nI 1 from rfl, nI_add]
      · have hb : ¬ bwB g r u i = true := by unfold bwB; rw [decide_eq_false hsub]; simp
        rw [if_neg (show ¬ nI i &&& (nI u ^^^ (-1 : Int32)) = 0 from hsub), if_neg hb]
        unfold X7_burnt_b166 X7_burnt_b167 X7_burnt_b182
        rw [if_pos rfl, show (0 : Int64) = lN 0 from rfl, lN_add, show (1 : Int32) = nI 1 from rfl, nI_add]
theorem m_burnt_l (hM : MO mem g) (hO : OkG t g) (ht : t ≤ 600) {r c u w N : Nat} (hN : 2 ^ g 2 = N) (hr : r < g 3) (hc : c ≤ 10) (hu : u < N) (hw : w < 2) : ∀ (k i n : Nat), i ≤ N → N - i < k → k ≤ n → X7_burnt_b59 57 n (nI r) (nI c) (nI w) (nI u) (lN (wtN g r c u i)) (lN 1) (nI i) mem = some (buV w (wtN g r c u N) (10 ^ bits u) (Nat.gcd (10 ^ bits u) (wtN g r c u N)), mem) := by
  have h2 := hO.1
  have h6 := p2_64 h2.2.2.2.1
  rw [hN] at h6
  intro k
  induction k with
  | zero => intro i n h1 h2; omega
  | succ k ih =>
    intro i n h1 h3 h4
    obtain ⟨n, rfl, h5⟩ := succ_of h4
    rw [X7_burnt_b59]
    dsimp only
    rw [m_letters hM, cll_s]
    have hz : (nI i < (1 : Int32) <<< (nI (g 2) &&& 31)) = (i < N) := by
      simp (disch := omega) only [L32, shl_n, hN, nI_ltI]
    by_cases hlt : i < N
    · have e := ih (i + 1) n (by omega) (by omega) (by omega)
      have e2 := m_prod_l (W := wtN g r c u i) (w := w) hM hO ht hr hc (u := u) (i := i) (by omega) (by omega) (X7_burnt_b59 57 n) (g 2 + 1) 0 fu (by omega) (by omega) (fu_ge (by omega))
      rw [if_pos (hz.mpr hlt)]
      refine e2.trans ?_
      by_cases hb : bwB g r u i = true
      · rw [if_pos hb, ← wtN_y hb]
        exact e
      · rw [if_neg hb, Nat.add_zero, ← wtN_n hb]
        exact e
    · have hE : i = N := by omega
      have hwl := wtN_le hO (r := r) (u := u) (i := N) hc
      rw [if_neg (fun z => hlt (hz.mp z)), m_bits64 (by omega), cll_s, hE]
      have := m_ten_l (mem := mem) (w := w) (W := wtN g r c u N) (Z := bits u) hw (by omega) (bits_le u) (bits u + 1) (bits u) fu (by omega) (by omega) (fu_ge (by have := bits_le u; omega))
      rw [Nat.sub_self, Nat.pow_zero] at this
      exact this
end BU4
