/-! ===== PURE: count, soOld ===== -/
theorem nI_lt0 {n : Nat} (h : n < 2 ^ 31) : ¬ nI n < nI 0 := by
  rw [nI_ltI h (by decide)]
  omega
theorem m1_lt0 : -nI 1 < nI 0 := by decide
theorem nI_nem1 {n : Nat} (h : n < 2 ^ 31) : ¬ nI n = -nI 1 := by
  intro e
  have := congrArg Int32.toInt e
  rw [nI_toInt h, show (-nI 1).toInt = -1 by decide] at this
  omega
def presB (mem : Mem) (r : Nat) : Bool := !decide (mem 2 r = -nI 1)
section LK5
variable {mem : Mem} {g : Nat → Nat} {t : Nat}
theorem c_missing {r : Nat} (hr : r < 8) : X4_isMissing 1 (nI r) mem = some (b2 (¬ presB mem r = true), mem) := by
  unfold X4_isMissing
  simp only [rfs, al, hr, L32, chk_1, chk_0]
  rw [b2_some]
  have : (mem 2 r = -nI 1) = (¬ presB mem r = true) := by
    simp [presB]
  unfold b2
  by_cases h : mem 2 r = -nI 1
  · rw [if_pos h, if_pos (this ▸ h)]
  · rw [if_neg h, if_neg (fun z => h (this ▸ z))]
theorem c_present_l : ∀ (k i n : Nat), i ≤ 8 → 8 - i < k → k ≤ n → X4_present_b4 1 n (nI (cntP (presB mem) i)) (nI i) mem = some (nI (cntP (presB mem) 8), mem) := by
  intro k
  induction k with
  | zero => intro i n h1 h2; omega
  | succ k ih =>
    intro i n h1 h3 h4
    obtain ⟨n, rfl, h5⟩ := succ_of h4
    rw [X4_present_b4]
    by_cases hlt : i < 8
    · have e := ih (i + 1) n (by omega) (by omega) (by omega)
      have h6 := cntP_le (presB mem) i
      simp (disch := omega) only [L32, nI_ltI, hlt, if_true, c_missing, cll_s, X4_present_b21, nI_add, b2_0]
      rw [cntP] at e
      by_cases hp : presB mem i = true
      · rw [if_pos hp] at e
        rw [if_neg (fun z => z hp)]
        exact e
      · rw [if_neg hp] at e
        rw [if_pos hp]
        exact e
    · have hE : i = 8 := by omega
      simp (disch := omega) only [L32, nI_ltI, hlt, if_false]
      rw [hE]
def cntV (mem : Mem) (g : Nat → Nat) (a : Int32) : Int32 := if a = nI 0 then nI (cntP (presB mem) 8) else if a = nI 1 then nI (g 2) else if a = nI 2 then nI (g 3) else if a = nI 3 then nI (g 4) else if a = nI 4 then nI (cntP (aliveB g) (g 3)) else if a = nI 5 then nI (cntP (fitB g) (g 3)) else if a = nI 6 then nI (bits (unS g)) else if a = nI 7 then mem 57 13 else if a = nI 8 then mem 57 7 else -nI 1000001
theorem unS_lt (hO : OkG t g) : unS g < 64 := sett_small _ hO.1.2.2.2.1
theorem m_count_l (hM : MO mem g) (hO : OkG t g) (ht : t ≤ 600) (hR : ROW mem) (a : Int32) : ∀ (k i n : Nat), i ≤ 8 → 8 - i < k → k ≤ n → X7_count_b4 57 n a (nI (cntP (presB mem) i)) (nI i) mem = some (cntV mem g a, mem) := by
  have h2 := hO.1
  intro k
  induction k with
  | zero => intro i n h1 h2; omega
  | succ k ih =>
    intro i n h1 h3 h4
    obtain ⟨n, rfl, h5⟩ := succ_of h4
    rw [X7_count_b4]
    by_cases hlt : i < 8
    · have e := ih (i + 1) n (by omega) (by omega) (by omega)
      have h6 := cntP_le (presB mem) i
      simp (disch := omega) only [rfs, L32, nI_ltI, hlt, if_true, al, X7_count_b25, nI_add]
      rw [cntP] at e
      rcases hR i hlt with ⟨e1, e2⟩ | ⟨la, sz, h7, h8, e1, _, _, e2, _⟩
      · have hp : ¬ presB mem i = true := by simp [presB, e1]
        rw [if_neg hp] at e
        rw [e2, if_pos m1_lt0]
        exact e
      · have hp : presB mem i = true := by simp [presB, e1, nI_nem1 (n := la) (by omega)]
        rw [if_pos hp] at e
        rw [e2, if_neg (nI_lt0 (by omega))]
        exact e
    · have hE : i = 8 := by omega
      have h9 := unS_lt hO
      have h10 : sett (aliveB g) (g 3) < 16 := sett_small _ h2.2.2.2.2.1
      simp (disch := omega) only [rfs, L32, nI_ltI, hlt, if_false, m_letters hM, m_readers hM, m_alive hM hO, m_fit hM hO, m_unread hM hO ht, al, hM 4, cll_s]
      rw [hE]
      unfold cntV
      rw [m_bits mem (s := sett (aliveB g) (g 3)) (by omega), m_bits mem (s := unS g) (by omega), cll_s, cll_s, cnt_bits _ _ (by omega)]
      simp only [some_ite]
theorem st_count : St_count Inv := by
  intro t mem a1 ht hI
  obtain ⟨g, hC, hM, hO, hG, hA, hR, hT, hF, hT2⟩ := id hI
  have h2 := hO.1
  obtain ⟨K, nx, S, hK, hnx, ek, ek2, _⟩ := hA
  obtain ⟨n, hn, et, et2, _⟩ := hT
  have h9 := unS_lt hO
  have e1 : X4_present_b4 1 fu (nI 0) (nI 0) mem = _ := c_present_l 9 0 fu (by omega) (by omega) (fu_ge (by omega))
  have e2 : X7_count_b4 57 fu a1 (nI 0) (nI 0) mem = _ := m_count_l hM hO (t := t) (by omega) hR a1 9 0 fu (by omega) (by omega) (fu_ge (by omega))
  refine q_step hI (r := cntV mem g a1) ?_ ?_
  · unfold X6_count X4_present
    simp only [rfs, L32, e1, cll_s, hC.1.2.2.2.1, hC.1.2.2.2.2, hC.1.2.2.1, c_howManyAlive hC hO, c_howManyFit hC hO, c_unread hC hO (t := t) (by omega), c_bitCount h9, ek, et]
    unfold cntV
    rw [ek2, et2]
    simp only [some_ite]
  · unfold X7_count
    simp only [L32, e2]
end LK5
