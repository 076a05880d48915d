/-! ===== PURE: row, set, copy ===== -/
theorem st2_cong {m m' : Mem} {k i : Nat} {v : Int32} (h : m k = m' k) : st2 m k i v k = st2 m' k i v k := by
  funext j
  rw [st2_at, st2_at, h]
theorem cutb8 (x : BitVec 32) : (x <<< 24).sshiftRight 24 = (x.setWidth 8).signExtend 32 := by
  apply BitVec.eq_of_getLsbD_eq
  intro i hi
  rw [BitVec.getLsbD_sshiftRight, BitVec.getLsbD_signExtend, BitVec.msb_eq_getLsbD_last, BitVec.msb_eq_getLsbD_last, BitVec.getLsbD_shiftLeft, BitVec.getLsbD_shiftLeft, BitVec.getLsbD_setWidth, BitVec.getLsbD_setWidth]
  by_cases h : i < 8
  · simp [hi, h, show 24 + i < 32 by omega, show 24 + i - 24 = i by omega, show ¬ 32 ≤ i by omega, show ¬ 24 + i < 24 by omega]
  · simp [hi, h, show ¬ 24 + i < 32 by omega, show ¬ 32 ≤ i by omega]
theorem cut8 (a : Int32) : (a <<< (nI 24 &&& nI 31)) >>> (nI 24 &&& nI 31) = a.toInt8.toInt32 := by
  rw [show nI 24 &&& nI 31 = 24 by decide]
  apply Int32.toBitVec_inj.mp
  rw [Int32.toBitVec_shiftRight, Int32.toBitVec_shiftLeft, Int8.toBitVec_toInt32, Int32.toBitVec_toInt8]
  rw [show BitVec.smod (Int32.toBitVec 24) 32 = 24#32 by decide, BitVec.sshiftRight_eq', BitVec.shiftLeft_eq', show (24#32).toNat = 24 from rfl]
  rw [cutb8, BitVec.signExtend_eq_setWidth_of_le _ (by decide : 8 ≤ 32)]
theorem cutb16 (x : BitVec 32) : (x <<< 16).sshiftRight 16 = (x.setWidth 16).signExtend 32 := by
  apply BitVec.eq_of_getLsbD_eq
  intro i hi
  rw [BitVec.getLsbD_sshiftRight, BitVec.getLsbD_signExtend, BitVec.msb_eq_getLsbD_last, BitVec.msb_eq_getLsbD_last, BitVec.getLsbD_shiftLeft, BitVec.getLsbD_shiftLeft, BitVec.getLsbD_setWidth, BitVec.getLsbD_setWidth]
  by_cases h : i < 16
  · simp [hi, h, show 16 + i < 32 by omega, show 16 + i - 16 = i by omega, show ¬ 32 ≤ i by omega, show ¬ 16 + i < 16 by omega]
  · simp [hi, h, show ¬ 16 + i < 32 by omega, show ¬ 32 ≤ i by omega]
theorem cut16 (a : Int32) : (a <<< (nI 16 &&& nI 31)) >>> (nI 16 &&& nI 31) = a.toInt16.toInt32 := by
  rw [show nI 16 &&& nI 31 = 16 by decide]
  apply Int32.toBitVec_inj.mp
  rw [Int32.toBitVec_shiftRight, Int32.toBitVec_shiftLeft, Int16.toBitVec_toInt32, Int32.toBitVec_toInt16]
  rw [show BitVec.smod (Int32.toBitVec 16) 32 = 16#32 by decide, BitVec.sshiftRight_eq', BitVec.shiftLeft_eq', show (16#32).toNat = 16 from rfl]
  rw [cutb16, BitVec.signExtend_eq_setWidth_of_le _ (by decide : 16 ≤ 32)]
section RW1
variable {mem : Mem} {g : Nat → Nat} {t : Nat}
theorem c_make_l {r N : Nat} (hr : r < 8) (hN : N ≤ 40) : ∀ (k i n : Nat) (mem : Mem), i ≤ N → N - i < k → k ≤ n → ∃ m', X4_make_b17 1 n (nI r) (nI N) (nI i) mem = some ((), m') ∧ (∀ q, q ≠ 4 → m' q = mem q) ∧ ∀ j, m' 4 j = if r * 40 + i ≤ j ∧ j < r * 40 + N then nI 0 else mem 4 j := by
  intro k
  induction k with
  | zero => intro i n mem h1 h2; omega
  | succ k ih =>
    intro i n mem h1 h3 h4
    obtain ⟨n, rfl, h5⟩ := succ_of h4
    rw [X4_make_b17]
    by_cases hlt : i < N
    · obtain ⟨m', e1, e2, e3⟩ := ih (i + 1) n (st2 mem 4 (r * 40 + i) (nI 0)) (by omega) (by omega) (by omega)
      refine ⟨m', ?_, fun q hq => by rw [e2 q hq, st2_k hq], fun j => ?_⟩
      · simp (disch := omega) only [rfs, L32, nI_ltI, hlt, if_true, pk_mul, nI_add, as_]
        exact e1
      · rw [e3 j, st2_at]
        by_cases h6 : r * 40 + i ≤ j ∧ j < r * 40 + N
        · rw [if_pos h6]
          by_cases h7 : j = r * 40 + i
          · rw [if_neg (by omega), if_pos (by omega)]
          · rw [if_pos (by omega)]
        · rw [if_neg h6, if_neg (by omega), if_neg (by omega)]
    · refine ⟨mem, ?_, fun _ _ => rfl, fun j => by rw [if_neg (by omega)]⟩
      simp (disch := omega) only [nI_ltI, hlt, if_false]
theorem m_row_l {r : Nat} (hr : r < 8) (a : Int32) : ∀ (k i n : Nat) (mem : Mem), i ≤ 40 → 40 - i < k → k ≤ n → ∃ m', X7_row_b55 57 n (nI r) a (nI i) mem = some (a, m') ∧ (∀ q, q ≠ 60 → q ≠ 57 → m' q = mem q) ∧ (∀ j, m' 57 j = if j = 3 then nI 0 else mem 57 j) ∧ ∀ j, m' 60 j = if r * 40 + i ≤ j ∧ j < r * 40 + 40 then nI 0 else mem 60 j := by
  intro k
  induction k with
  | zero => intro i n mem h1 h2; omega
  | succ k ih =>
    intro i n mem h1 h3 h4
    obtain ⟨n, rfl, h5⟩ := succ_of h4
    rw [X7_row_b55]
    by_cases hlt : i < 40
    · obtain ⟨m', e1, e2, e4, e3⟩ := ih (i + 1) n (st2 mem 60 (r * 40 + i) (nI 0)) (by omega) (by omega) (by omega)
      refine ⟨m', ?_, fun q hq hq2 => by rw [e2 q hq hq2, st2_k hq], fun j => by rw [e4 j, st2_k (by omega)], fun j => ?_⟩
      · rw [show r * 40 = 40 * r by omega] at e1
        simp (disch := omega) only [rfs, L32, nI_ltI, hlt, if_true, pk_mul, nI_add, as_]
        exact e1
      · rw [e3 j, st2_at]
        by_cases h6 : r * 40 + i ≤ j ∧ j < r * 40 + 40
        · rw [if_pos h6]
          by_cases h7 : j = r * 40 + i
          · rw [if_neg (by omega), if_pos (by omega)]
          · rw [if_pos (by omega)]
        · rw [if_neg h6, if_neg (by omega), if_neg (by omega)]
    · refine ⟨st2 mem 57 3 (nI 0), ?_, fun q _ h => st2_k h, fun j => ?_, fun j => by rw [if_neg (by omega), st2_k (by omega)]⟩
      · simp (disch := omega) only [L32, nI_ltI, hlt, if_false, X7_tells, cll_s]
      · by_cases h : j = 3
        · rw [if_pos h, h, st2_s]
        · rw [if_neg h, st2_i h]
theorem st_row : St_row Inv := by
  intro t mem a1 a2 a3 ht hI
  obtain ⟨g, hC, hM, hO, hG, hA, hR, hT, hF, hT2⟩ := id hI
  unfold X6_row X7_row
  rcases rng a1 8 (by omega) with ⟨r, hr, rfl⟩ | hr
  · rcases rng a2 3 (by omega) with ⟨la, hla, rfl⟩ | hla
    · rcases rng a3 41 (by omega) with ⟨sz, hsz, rfl⟩ | hsz
      · obtain ⟨m1, p1, p2, p3⟩ := c_make_l hr (N := sz) (by omega) (sz + 1) 0 fu (st2 (st2 mem 2 r (nI la)) 3 r (nI sz)) (by omega) (by omega) (fu_ge (by omega))
        obtain ⟨m2, q1, q2, q4, q3⟩ := m_row_l hr (nI sz) 41 0 fu (st2 (st2 (st2 m1 0 10 (nI 0)) 58 r (nI la)) 59 r (nI sz)) (by omega) (by omega) (fu_ge (by omega))
        refine ⟨nI sz, st2 m1 0 10 (nI 0), m2, ?_, ?_, ?_⟩
        · simp (disch := omega) only [rfs, c_isRow_y hr, c_isLane_y (r := la), cll_s, L32, ite10, nI_ltI, Nat.not_lt_zero, if_false, X4_make, as_, p1, X6_foundNothing]
          rw [if_neg (by omega)]
        · simp (disch := omega) only [rfs, m_isRow_y hr, m_in_y, L64, cll_s, L32, ite10, nI_ltI, Nat.not_lt_zero, if_false, as_]
          rw [if_neg (by omega)]
          exact q1
        · refine hI.rows (fun q => ?_) (fun j hj => ?_) (fun j hj => ?_) ?_ (fun r' hr' => ?_)
          · intros; rw [q2 q (by omega) (by omega), st2_k (by omega), st2_k (by omega), st2_k (by omega), p2 q (by omega), st2_k (by omega), st2_k (by omega)]
          · rw [q2 0 (by omega) (by omega), st2_k (by omega), st2_k (by omega), st2_i hj, p2 0 (by omega), st2_k (by omega), st2_k (by omega)]
          · rw [q4 j, if_neg hj, st2_k (by omega), st2_k (by omega), st2_k (by omega), p2 57 (by omega), st2_k (by omega), st2_k (by omega)]
          · rw [q2 0 (by omega) (by omega), st2_k (by omega), st2_k (by omega), st2_s, q4 3, if_pos rfl]
          · have k2 : m2 2 = st2 mem 2 r (nI la) 2 := by rw [q2 2 (by omega) (by omega), st2_k (by omega), st2_k (by omega), st2_k (by omega), p2 2 (by omega), st2_k (by omega)]
            have k3 : m2 3 = st2 mem 3 r (nI sz) 3 := by
              rw [q2 3 (by omega) (by omega), st2_k (by omega), st2_k (by omega), st2_k (by omega), p2 3 (by omega)]
              exact st2_cong (st2_k (by omega))
            have k58 : m2 58 = st2 mem 58 r (nI la) 58 := by
              rw [q2 58 (by omega) (by omega), st2_k (by omega)]
              exact st2_cong (by rw [st2_k (by omega), p2 58 (by omega), st2_k (by omega), st2_k (by omega)])
            have k59 : m2 59 = st2 mem 59 r (nI sz) 59 := by
              rw [q2 59 (by omega) (by omega)]
              exact st2_cong (by rw [st2_k (by omega), st2_k (by omega), p2 59 (by omega), st2_k (by omega), st2_k (by omega)])
            have k4 : ∀ j, m2 4 j = if r * 40 ≤ j ∧ j < r * 40 + sz then nI 0 else mem 4 j := by
              intro j
              rw [q2 4 (by omega) (by omega), st2_k (by omega), st2_k (by omega), st2_k (by omega), p3 j, st2_k (by omega), st2_k (by omega)]
              rfl
            have k60 : ∀ j, m2 60 j = if r * 40 ≤ j ∧ j < r * 40 + 40 then nI 0 else mem 60 j := by
              intro j
              rw [q3 j, st2_k (by omega), st2_k (by omega), st2_k (by omega), p2 60 (by omega), st2_k (by omega), st2_k (by omega)]
              rfl
            rw [k2, k3, k58, k59]
            by_cases e : r' = r
            · subst e
              refine Or.inr ⟨la, sz, by omega, by omega, st2_s, st2_s, st2_s, st2_s, fun i hi => ?_⟩
              rw [k4, k60, if_pos (by omega), if_pos (by omega)]
            · rw [st2_i e, st2_i e, st2_i e, st2_i e]
              rcases hR r' hr' with h | ⟨la', sz', h1, h2, h3, h4, h5, h6, h7⟩
              · exact Or.inl h
              · refine Or.inr ⟨la', sz', h1, h2, h3, h4, h5, h6, fun i hi => ?_⟩
                rw [k4, k60, if_neg (by omega), if_neg (by omega)]
                exact h7 i hi
      · by_cases hneg : a3.toInt < 0
        · have hn : a3 < nI 0 := by rw [Int32.lt_iff_toInt_lt, nI_toInt (by omega)]; exact hneg
          have hn4 : ¬ nI 40 < a3 := by rw [Int32.lt_iff_toInt_lt, nI_toInt (by omega)]; omega
          refine f_step (nI 4) hI (r := -nI 1000010 - nI 4) ?_ ?_
          · simp (disch := omega) only [rfs, c_isRow_y hr, c_isLane_y (r := la), cll_s, L32, ite10, hn, hn4, if_true, if_false, X6_found]
          · simp (disch := omega) only [rfs, m_isRow_y hr, m_in_y, L64, cll_s, L32, ite10, hn, hn4, if_true, if_false, X7_finds]
        · have hn4 : nI 40 < a3 := by rw [Int32.lt_iff_toInt_lt, nI_toInt (by omega)]; omega
          refine q_step hI (r := -nI 1000001) ?_ ?_
          · simp (disch := omega) only [rfs, c_isRow_y hr, c_isLane_y (r := la), cll_s, L32, ite10, hn4, if_true]
          · simp (disch := omega) only [m_isRow_y hr, m_in_y, L64, cll_s, L32, ite10, hn4, if_true]
    · refine q_step hI (r := -nI 1000001) ?_ ?_
      · simp only [rfs, c_isRow_y hr, c_isLane_n hla, cll_s, L32, ite10, if_true]
      · simp (disch := omega) only [m_isRow_y hr, m_in_n, L64, cll_s, L32, ite10, if_true]
  · refine q_step hI (r := -nI 1000001) ?_ ?_
    · simp only [rfs, c_isRow_n hr, cll_s, L32, if_true]
    · simp only [m_isRow_n hr, cll_s, L32, if_true]
theorem cutL {la : Nat} (a : Int32) (mem : Mem) : X7_cutTo (nI la) a mem = some (if nI la = nI 0 then a.toInt8.toInt32 else if nI la = nI 1 then a.toInt16.toInt32 else a, mem) := by
  unfold X7_cutTo
  simp only [L32, cut8, cut16, some_ite]
theorem st_set : St_set Inv := by
  intro t mem a1 a2 a3 ht hI
  obtain ⟨g, hC, hM, hO, hG, hA, hR, hT, hF, hT2⟩ := id hI
  unfold X6_set X7_set
  rcases rng a1 8 (by omega) with ⟨r, hr, rfl⟩ | hr
  · rcases row_look hR hr with ⟨hp, h9⟩ | ⟨la, sz, hla, hsz, hp, e2, e8, e3, e9, e4⟩
    · refine f_step (nI 1) hI (r := -nI 1000010 - nI 1) ?_ ?_
      · simp only [rfs, c_isRow_y hr, c_missing hr, hp, cll_s, L32, ite10, b2_0, X6_found, Bool.false_eq_true, not_false_eq_true, if_true]
      · simp (disch := omega) only [rfs, m_isRow_y hr, cll_s, L32, ite10, al, st2_k, h9, m1_lt0, if_true, X7_finds]
    · have hz : (nI sz - nI 1).toInt = (sz : Int) - 1 := pk_sub_toInt (by omega) (by omega)
      rcases rng a2 sz (by omega) with ⟨i, hi, rfl⟩ | hi
      · generalize hv : (if nI la = nI 0 then a3.toInt8.toInt32 else if nI la = nI 1 then a3.toInt16.toInt32 else a3) = v
        refine ⟨v, st2 (st2 mem 4 (r * 40 + i) v) 0 10 (nI 0), st2 (st2 (st2 (st2 mem 4 (r * 40 + i) v) 0 10 (nI 0)) 60 (40 * r + i) v) 57 3 (nI 0), ?_, ?_, ?_⟩
        · have hput : X4_put 1 (nI r) (nI i) a3 mem = some (v, st2 mem 4 (r * 40 + i) v) := by
            unfold X4_put X4_put_b16 X4_put_b30
            simp (disch := omega) only [rfs, L32, al, e2, pk_mul, nI_add, as_]
            rcases (show la = 0 ∨ la = 1 ∨ la = 2 by omega) with rfl | rfl | rfl
            · rw [if_pos rfl, if_neg (by decide)]
              rw [if_pos rfl] at hv
              rw [hv]
            · rw [if_neg (by decide), if_pos rfl]
              rw [if_neg (by decide), if_pos rfl] at hv
              rw [hv]
            · rw [if_neg (by decide), if_neg (by decide)]
              rw [if_neg (by decide), if_neg (by decide)] at hv
              rw [hv]
          simp (disch := omega) only [rfs, c_isRow_y hr, c_missing hr, hp, cll_s, L32, ite10, b2_0, not_true_eq_false, if_false, c_hasPlaces hr e3 hsz, nI_toInt]
          rw [if_pos (by omega)]
          simp only [hput, cll_s, X6_foundNothing, L32]
        · simp (disch := omega) only [rfs, m_isRow_y hr, cll_s, L32, L64, ite10, al, st2_k, e9, nI_lt0, if_false, m_in32, b2_0, nI_toInt, hz]
          rw [if_pos (by omega)]
          simp (disch := omega) only [e8, cutL, cll_s, hv, pk_mul, nI_add, as_, al, st2_s, X7_tells, L32]
        · refine hI.rows (fun q => ?_) (fun j hj => ?_) (fun j hj => ?_) ?_ (fun r' hr' => ?_)
          · intros; rw [st2_k (by omega), st2_k (by omega), st2_k (by omega), st2_k (by omega)]
          · rw [st2_k (by omega), st2_k (by omega), st2_i hj, st2_k (by omega)]
          · rw [st2_i hj, st2_k (by omega), st2_k (by omega), st2_k (by omega)]
          · rw [st2_k (by omega), st2_k (by omega), st2_s, st2_s]
          · simp (disch := omega) only [st2_k]
            rcases hR r' hr' with h | ⟨la', sz', h1, h2, h3, h4, h5, h6, h7⟩
            · exact Or.inl h
            · refine Or.inr ⟨la', sz', h1, h2, h3, h4, h5, h6, fun i' hi' => ?_⟩
              rw [st2_at, st2_at, st2_k (by omega), st2_k (by omega)]
              by_cases e : r' * 40 + i' = r * 40 + i
              · rw [if_pos ⟨rfl, e⟩, if_pos ⟨rfl, by omega⟩]
              · rw [if_neg (fun z => e z.2), if_neg (fun z => e (by omega))]
                exact h7 i' hi'
      · refine f_step (nI 2) hI (r := -nI 1000010 - nI 2) ?_ ?_
        · simp (disch := omega) only [rfs, c_isRow_y hr, c_missing hr, hp, cll_s, L32, ite10, b2_0, not_true_eq_false, if_false, c_hasPlaces hr e3 hsz, nI_toInt]
          rw [if_neg (by omega)]
          rfl
        · simp (disch := omega) only [rfs, m_isRow_y hr, cll_s, L32, L64, ite10, al, st2_k, e9, nI_lt0, if_false, m_in32, b2_0, hz]
          rw [if_neg (by omega)]
          rfl
  · refine q_step hI (r := -nI 1000001) ?_ ?_
    · simp only [rfs, c_isRow_n hr, cll_s, L32, if_true]
    · simp only [m_isRow_n hr, cll_s, L32, if_true]
end RW1
