/-! ===== PURE: as, feed ===== -/
def isKV (k w : Nat) : Nat := if w = 0 ∨ k = w ∨ (w = 1 ∧ (k = 2 ∨ k = 3)) ∨ (w = 4 ∧ k = 5) then 1 else 0
theorem six {w : Nat} (h : w < 6) : w = 0 ∨ w = 1 ∨ w = 2 ∨ w = 3 ∨ w = 4 ∨ w = 5 := by omega
theorem c_isKind {k w : Nat} (hk : k < 6) (hw : w < 6) (mem : Mem) : X6_isKindOf (nI k) (nI w) mem = some (nI (isKV k w), mem) := by
  rcases six hk with rfl | rfl | rfl | rfl | rfl | rfl <;> rcases six hw with rfl | rfl | rfl | rfl | rfl | rfl <;> rfl
section AS1
variable {mem : Mem} {g : Nat → Nat} {t : Nat}
theorem m_isOf (hM : MO mem g) {l w : Nat} (hl : l < 6) (hw : w < 6) (hk : 1 ≤ g (5 + l) ∧ g (5 + l) ≤ 5) : X7_isOf 57 (nI l) (nI w) mem = some (nI (isKV (g (5 + l)) w), mem) := by
  unfold X7_isOf
  rw [m_sort hM hl, cll_s]
  generalize g (5 + l) = k at hk
  rcases (show k = 1 ∨ k = 2 ∨ k = 3 ∨ k = 4 ∨ k = 5 by omega) with rfl | rfl | rfl | rfl | rfl <;> rcases six hw with rfl | rfl | rfl | rfl | rfl | rfl <;> rfl
theorem isKV_01 (k w : Nat) : isKV k w = 0 ∨ isKV k w = 1 := by unfold isKV; split <;> omega
theorem t_step {t : Nat} {mem : Mem} {A : Option (Int32 × Mem)} {B : Mem → Option (Int32 × Mem)} {r : Int32} (h : Inv t mem) (e1 : A = some (r, st2 mem 0 10 (nI 0))) (e2 : B (st2 mem 0 10 (nI 0)) = some (r, st2 (st2 mem 0 10 (nI 0)) 57 3 (nI 0))) : ∃ (r : Int32) (m1 m2 : Mem), A = some (r, m1) ∧ B m1 = some (r, m2) ∧ Inv (t + 1) m2 := f_step (nI 0) h e1 e2
theorem MO.f10 {v : Int32} (hM : MO mem g) : MO (st2 mem 0 10 v) g := hM.fr (st2_k (by omega))
theorem st_as : St_as Inv := by
  intro t mem a1 a2 ht hI
  obtain ⟨g, hC, hM, hO, hG, hA, hR, hT, hF, hT2⟩ := id hI
  have h2 := hO.1
  unfold X6_as X7_as
  rcases rng a1 (g 2) (by omega) with ⟨l, hl, rfl⟩ | hl
  · have h3 := hC.2.1 l hl
    have h4 := hO.2.1 l hl
    rcases rng a2 6 (by omega) with ⟨w, hw, rfl⟩ | hw
    · have e1 := c_isKind (k := g (5 + l)) (w := w) (by omega) hw
      have e2 : ∀ v, X7_isOf 57 (nI l) (nI w) (st2 mem 0 10 v) = _ := fun v => m_isOf (MO.f10 (v := v) hM) (l := l) (w := w) (by omega) hw (by omega)
      rcases isKV_01 (g (5 + l)) w with hv | hv
      · refine f_step (nI 3) hI (r := -nI 1000010 - nI 3) ?_ ?_
        · simp (disch := omega) only [rfs, c_hasLetter_y hC hO hl, cll_s, L32, ite10, nI_ltI, Nat.not_lt_zero, if_false, al, h3, e1, hv, if_true, X6_found]
          rw [if_neg (by omega)]
        · simp (disch := omega) only [m_isLetter_y (hM.f10 (v := nI 3)) hO hl, m_in_y, cll_s, L32, L64, ite10, e2, hv, if_true, X7_finds]
      · refine f_step (nI 0) hI (r := nI l) ?_ ?_
        · simp (disch := omega) only [rfs, c_hasLetter_y hC hO hl, cll_s, L32, ite10, nI_ltI, Nat.not_lt_zero, if_false, al, h3, e1, hv, if_true, X6_foundNothing]
          rw [if_neg (by omega)]
        · simp (disch := omega) only [m_isLetter_y (hM.f10 (v := nI 0)) hO hl, m_in_y, cll_s, L32, L64, ite10, e2, hv, if_true, X7_tells]
    · refine q_step hI (r := -nI 1000001) ?_ ?_
      · simp (disch := omega) only [rfs, c_hasLetter_y hC hO hl, cll_s, L32, ite10, Int32.lt_iff_toInt_lt, nI_toInt]
        by_cases h : a2.toInt < (0 : Nat)
        · rw [if_pos h]
        · rw [if_neg h, if_pos (by omega)]
      · simp (disch := omega) only [m_isLetter_y hM hO hl, m_in_n, cll_s, L32, L64, ite10, if_true]
  · refine q_step hI (r := -nI 1000001) ?_ ?_
    · simp only [rfs, c_hasLetter_n hC hO hl, cll_s, L32, if_true]
    · simp only [m_isLetter_n hM hO hl, cll_s, L32, if_true]
/-- only the tape has changed -/
theorem Inv.tape {t : Nat} {mem m' : Mem} (h : Inv t mem) (he : ∀ q, q ≠ 5 → q ≠ 6 → q ≠ 63 → q ≠ 57 → m' q = mem q) (h57 : ∀ j, j ≠ 7 → m' 57 j = mem 57 j) (hT : TAP m') : Inv (t + 1) m' := by
  obtain ⟨g, hC, hM, hO, hG, hA, hR, _, hF, hT2⟩ := h
  refine Inv.mono ⟨g, hC.fr fun q h1 h2 => he q ?_ ?_ ?_ ?_, hM.fr (he _ ?_ ?_ ?_ ?_), hO, hG.fr (fun q h1 h2 => he q ?_ ?_ ?_ ?_) (he _ ?_ ?_ ?_ ?_) (he _ ?_ ?_ ?_ ?_), hA.fr (fun q h1 h2 => he q ?_ ?_ ?_ ?_) (he _ ?_ ?_ ?_ ?_) (h57 _ ?_), hR.fr (he _ ?_ ?_ ?_ ?_) (he _ ?_ ?_ ?_ ?_) (he _ ?_ ?_ ?_ ?_) (he _ ?_ ?_ ?_ ?_) (he _ ?_ ?_ ?_ ?_) (he _ ?_ ?_ ?_ ?_), hT, hF.fr (by rw [he 0 (by omega) (by omega) (by omega) (by omega)]) (by rw [he 0 (by omega) (by omega) (by omega) (by omega)]) (h57 _ ?_) (h57 _ ?_), hT2.fr (by rw [he 55 (by omega) (by omega) (by omega) (by omega)]) (he _ ?_ ?_ ?_ ?_) (h57 _ ?_) (he _ ?_ ?_ ?_ ?_)⟩
  all_goals omega
theorem st_feed : St_feed Inv := by
  intro t mem a1 ht hI
  obtain ⟨g, hC, hM, hO, hG, hA, hR, hT, hF, hT2⟩ := id hI
  obtain ⟨n, hn, e5, e57, eb⟩ := hT
  unfold X6_feed X7_feed X5_isFull X5_append
  rcases rng a1 256 (by omega) with ⟨b, hb, rfl⟩ | hb
  · by_cases hlt : n < 120
    · refine ⟨nI (n + 1), st2 (st2 mem 6 n (nI b)) 5 1 (nI (n + 1)), st2 (st2 (st2 (st2 mem 6 n (nI b)) 5 1 (nI (n + 1))) 63 n (nI b)) 57 7 (nI (n + 1)), ?_, ?_, ?_⟩
      · simp (disch := omega) only [rfs, L32, nI_ltI, Nat.not_lt_zero, if_false, e5, hlt, if_true, chk_0, chk_1, cll_s, as_, st2_k, nI_add, st2_s]
        rw [if_neg (by omega)]
      · simp (disch := omega) only [rfs, L32, L64, m_in_y, cll_s, ite10, st2_k, e57, as_, nI_add, st2_s, nI_eq]
        exact if_neg (show ¬ n = 120 by omega)
      · refine hI.tape (fun q => ?_) (fun j hj => ?_) ⟨n + 1, by omega, ?_, ?_, fun i hi => ?_⟩
        · intros; rw [st2_k (by omega), st2_k (by omega), st2_k (by omega), st2_k (by omega)]
        · rw [st2_i hj, st2_k (by omega), st2_k (by omega), st2_k (by omega)]
        · rw [st2_k (by omega), st2_k (by omega), st2_s]
        · rw [st2_s]
        · by_cases e : i = n
          · refine ⟨b, hb, ?_, ?_⟩
            · rw [e, st2_k (by omega), st2_k (by omega), st2_k (by omega), st2_s]
            · rw [e, st2_k (by omega), st2_s]
          · obtain ⟨c, h1, h3, h4⟩ := eb i (by omega)
            refine ⟨c, h1, ?_, ?_⟩
            · rw [st2_k (by omega), st2_k (by omega), st2_k (by omega), st2_i e]; exact h3
            · rw [st2_k (by omega), st2_i e, st2_k (by omega), st2_k (by omega)]; exact h4
    · have hE : n = 120 := by omega
      subst hE
      refine q_step hI (r := -nI 1000003) ?_ ?_
      · simp (disch := omega) only [rfs, L32, nI_ltI, Nat.not_lt_zero, if_false, e5, hlt, chk_1, cll_s, ite10]
        rw [if_neg (by omega)]
      · simp (disch := omega) only [rfs, L32, L64, m_in_y, cll_s, ite10, e57, if_true]
  · refine q_step hI (r := -nI 1000001) ?_ ?_
    · simp (disch := omega) only [L32, Int32.lt_iff_toInt_lt, nI_toInt]
      by_cases h : a1.toInt < (0 : Nat)
      · rw [if_pos h]
      · rw [if_neg h, if_pos (by omega)]
    · simp (disch := omega) only [m_in_n, cll_s, L32, L64, if_true]
end AS1
