/-! ===== PURE: copy, as, feed ===== -/
theorem lgp (x y : Int64) : (nI 0 < lg_cmp x y) = (y.toInt < x.toInt) := by
  apply propext
  constructor
  · intro h
    apply Int.not_le.mp
    intro q
    exact Int32.not_lt.mpr ((lg_cmp_le x y).mpr (Int64.le_iff_toInt_le.mpr q)) h
  · intro h
    apply Int32.not_le.mp
    intro q
    have := Int64.le_iff_toInt_le.mp ((lg_cmp_le x y).mp q)
    omega
theorem i64add (a b : Int32) : (a.toInt64 + b.toInt64).toInt = a.toInt + b.toInt := by
  have h1 := a.toInt_lt
  have h2 := a.le_toInt
  have h3 := b.toInt_lt
  have h4 := b.le_toInt
  rw [Int64.toInt_add, i64i, i64i, Int.bmod_def]
  omega
theorem nI_neN {a b : Nat} (ha : a < 2 ^ 31) (hb : b < 2 ^ 31) (h : a ≠ b) : ¬ nI a = nI b := by
  intro e
  have := congrArg Int32.toInt e
  rw [nI_toInt ha, nI_toInt hb] at this
  omega
section CP1
variable {mem : Mem} {g : Nat → Nat} {t : Nat}
theorem m_cp2 {d N : Nat} (hd : d + N ≤ 320) (hN : N ≤ 40) {b j : Nat} (hbj : 40 * b + j = d) : ∀ (k i n : Nat) (mem : Mem), i ≤ N → N - i < k → k ≤ n → ∃ m', X7_copy_b157 57 n (nI b) (nI j) (nI N) (nI i) mem = some (nI N, m') ∧ (∀ q, q ≠ 60 → q ≠ 57 → m' q = mem q) ∧ (∀ j, m' 57 j = if j = 3 then nI 0 else mem 57 j) ∧ ∀ x, m' 60 x = if d + i ≤ x ∧ x < d + N then mem 61 (x - d) else mem 60 x := by
  intro k
  induction k with
  | zero => intro i n mem h1 h2; omega
  | succ k ih =>
    intro i n mem h1 h3 h4
    obtain ⟨n, rfl, h5⟩ := succ_of h4
    rw [X7_copy_b157]
    by_cases hlt : i < N
    · obtain ⟨m', e1, e2, e4, e3⟩ := ih (i + 1) n (st2 mem 60 (d + i) (mem 61 i)) (by omega) (by omega) (by omega)
      refine ⟨m', ?_, fun q hq hq2 => by rw [e2 q hq hq2, st2_k hq], fun j => by rw [e4 j, st2_k (by omega)], fun x => ?_⟩
      · simp (disch := omega) only [rfs, L32, nI_ltI, hlt, if_true, pk_mul, nI_add, al, as_, hbj]
        exact e1
      · rw [e3 x, st2_k (q := 61) (by omega), st2_at]
        by_cases h6 : d + i ≤ x ∧ x < d + N
        · rw [if_pos h6]
          by_cases h7 : x = d + i
          · rw [if_neg (by omega), if_pos (by omega), h7, show d + i - d = i by omega]
          · rw [if_pos (by omega)]
        · rw [if_neg h6, if_neg (by omega), if_neg (by omega)]
    · refine ⟨st2 mem 57 3 (nI 0), ?_, fun q _ h => st2_k h, fun j => ?_, fun j => by rw [if_neg (by omega), st2_k (by omega)]⟩
      · simp (disch := omega) only [L32, nI_ltI, hlt, if_false, X7_tells, cll_s]
      · by_cases h : j = 3
        · rw [if_pos h, h, st2_s]
        · rw [if_neg h, st2_i h]
theorem m_cp1 {s N : Nat} (hs : s + N ≤ 320) (hN : N ≤ 40) {a i0 : Nat} (hai : 40 * a + i0 = s) (y3 y4 : Int32) : ∀ (k i n : Nat) (mem : Mem), i ≤ N → N - i < k → k ≤ n → ∃ m', X7_copy_b120 57 n (nI a) (nI i0) y3 y4 (nI N) (nI i) mem = X7_copy_b157 57 fu y3 y4 (nI N) (nI 0) m' ∧ (∀ q, q ≠ 61 → m' q = mem q) ∧ ∀ x, m' 61 x = if i ≤ x ∧ x < N then mem 60 (s + x) else mem 61 x := by
  intro k
  induction k with
  | zero => intro i n mem h1 h2; omega
  | succ k ih =>
    intro i n mem h1 h3 h4
    obtain ⟨n, rfl, h5⟩ := succ_of h4
    rw [X7_copy_b120]
    by_cases hlt : i < N
    · obtain ⟨m', e1, e2, e3⟩ := ih (i + 1) n (st2 mem 61 i (mem 60 (s + i))) (by omega) (by omega) (by omega)
      refine ⟨m', ?_, fun q hq => by rw [e2 q hq, st2_k hq], fun x => ?_⟩
      · simp (disch := omega) only [rfs, L32, nI_ltI, hlt, if_true, pk_mul, nI_add, al, as_, hai]
        exact e1
      · rw [e3 x, st2_k (q := 60) (by omega), st2_at]
        by_cases h6 : i ≤ x ∧ x < N
        · rw [if_pos h6]
          by_cases h7 : x = i
          · rw [if_neg (by omega), if_pos (by omega), h7]
          · rw [if_pos (by omega)]
        · rw [if_neg h6, if_neg (by omega), if_neg (by omega)]
    · refine ⟨mem, ?_, fun _ _ => rfl, fun j => by rw [if_neg (by omega)]⟩
      simp (disch := omega) only [L32, nI_ltI, hlt, if_false]
theorem al58 {α : Type} (mem : Mem) {r : Nat} (h : r < 8) (f : Int32 → Option α) : ald mem 58 (nI r) f = f (mem 58 r) := ald_n h (by decide)
theorem al59 {α : Type} (mem : Mem) {r : Nat} (h : r < 8) (f : Int32 → Option α) : ald mem 59 (nI r) f = f (mem 59 r) := ald_n h (by decide)
theorem lt0 (a : Int32) : (a < nI 0) = (a.toInt < 0) := by
  rw [Int32.lt_iff_toInt_lt, nI_toInt (by decide)]
  rfl
theorem acp_n {α : Type} {mem : Mem} {k0 k1 s d n : Nat} {f : Mem → Option α} (hs : s + n ≤ ln k0) (hd : d + n ≤ ln k1) (h0 : ln k0 < 2 ^ 31) (h1 : ln k1 < 2 ^ 31) : acp mem k0 (nI s) k1 (nI d) (nI n) f = f (st1 mem k1 (va_cpy (mem k0) (mem k1) s d n)) := by
  have e : ∀ x : Nat, x < 2 ^ 31 → (nI x).toNatClampNeg = x := by
    intro x hx
    show (nI x).toInt.toNat = x
    rw [nI_toInt hx]
    rfl
  unfold acp
  rw [e s (by omega), e d (by omega), e n (by omega), if_pos ⟨⟨nI_lt0 (by omega), nI_lt0 (by omega), nI_lt0 (by omega)⟩, hs, hd⟩]
theorem st1_k {mem : Mem} {k q : Nat} {f : Nat → Int32} (h : q ≠ k) : st1 mem k f q = mem q := by simp [st1, h]
theorem st1_s {mem : Mem} {k : Nat} {f : Nat → Int32} : st1 mem k f k = f := by simp [st1]
theorem toN (a : Int32) (h : 0 ≤ a.toInt) : ∃ n : Nat, a = nI n ∧ (n : Int) = a.toInt ∧ n < 2 ^ 31 := by
  have h1 := a.toInt_lt
  refine ⟨a.toInt.toNat, ?_, by omega, by omega⟩
  apply Int32.toInt_inj.mp
  rw [nI_toInt (by omega)]
  omega
theorem st_copy : St_copy Inv := by
  intro t mem a1 a2 a3 a4 a5 ht hI
  obtain ⟨g, hC, hM, hO, hG, hA, hR, hT, hF, hT2⟩ := id hI
  unfold X6_copy X7_copy
  rcases rng a1 8 (by omega) with ⟨a, ha, rfl⟩ | ha
  · rcases rng a3 8 (by omega) with ⟨b, hb, rfl⟩ | hb
    · rcases row_look hR ha with ⟨hp, h9⟩ | ⟨la, sz, hla, hsz, hp, e2, e8, e3, e9, e4⟩
      · refine f_step (nI 1) hI (r := -nI 1000010 - nI 1) ?_ ?_
        · simp only [rfs, c_isRow_y ha, c_isRow_y hb, c_missing ha, hp, cll_s, L32, ite10, b2_0, X6_found, X6_copy_b47, Bool.false_eq_true, not_false_eq_true, if_true]
        · simp (maxSteps := 3000000) (disch := omega) only [rfs, m_isRow_y ha, m_isRow_y hb, cll_s, L32, ite10, al58 _ ha, al58 _ hb, al59 _ ha, al59 _ hb, st2_k, h9, m1_lt0, if_true, X7_finds, X7_copy_b35]
      · rcases row_look hR hb with ⟨hpb, h9b⟩ | ⟨lb, sb, hlb, hsb, hpb, e2b, e8b, e3b, e9b, e4b⟩
        · refine f_step (nI 1) hI (r := -nI 1000010 - nI 1) ?_ ?_
          · simp only [rfs, c_isRow_y ha, c_isRow_y hb, c_missing ha, c_missing hb, hp, hpb, cll_s, L32, ite10, b2_0, X6_found, X6_copy_b47, Bool.false_eq_true, not_true_eq_false, not_false_eq_true, if_true, if_false]
          · simp (maxSteps := 3000000) (disch := omega) only [rfs, m_isRow_y ha, m_isRow_y hb, cll_s, L32, ite10, al58 _ ha, al58 _ hb, al59 _ ha, al59 _ hb, st2_k, e9, h9b, nI_lt0, m1_lt0, if_true, if_false, X7_finds, X7_copy_b35]
        · by_cases hL : la = lb
          · have hL2 : nI la = nI lb := by rw [hL]
            by_cases hin : 0 ≤ a2.toInt ∧ 0 ≤ a5.toInt ∧ a2.toInt + a5.toInt ≤ (sz : Int)
            · by_cases hin2 : 0 ≤ a4.toInt ∧ 0 ≤ a5.toInt ∧ a4.toInt + a5.toInt ≤ (sb : Int)
              · obtain ⟨i, rfl, hi, _⟩ := toN a2 hin.1
                obtain ⟨j, rfl, hj, _⟩ := toN a4 hin2.1
                obtain ⟨n, rfl, hn, _⟩ := toN a5 hin.2.1
                rw [← hi, ← hn] at hin
                rw [← hj, ← hn] at hin2
                obtain ⟨m1, p1, p2, p3⟩ := m_cp1 (s := 40 * a + i) (N := n) (by omega) (by omega) (a := a) (i0 := i) rfl (nI b) (nI j) (n + 1) 0 fu (st2 (st1 mem 4 (va_cpy (mem 4) (mem 4) (a * 40 + i) (b * 40 + j) n)) 0 10 (nI 0)) (by omega) (by omega) (fu_ge (by omega))
                obtain ⟨m2, q1, q2, q4, q3⟩ := m_cp2 (d := 40 * b + j) (N := n) (by omega) (by omega) (b := b) (j := j) rfl (n + 1) 0 fu m1 (by omega) (by omega) (fu_ge (by omega))
                refine ⟨nI n, st2 (st1 mem 4 (va_cpy (mem 4) (mem 4) (a * 40 + i) (b * 40 + j) n)) 0 10 (nI 0), m2, ?_, ?_, ?_⟩
                · simp (disch := omega) only [rfs, c_isRow_y ha, c_isRow_y hb, c_missing ha, c_missing hb, hp, hpb, cll_s, L32, ite10, b2_0, not_true_eq_false, if_false, X4_haveOneLane, al, e2, e2b, hL2, if_true, chk_1, c_hasPlaces ha e3 hsz, c_hasPlaces hb e3b hsb, ← hi, ← hj, ← hn, hin, hin2, and_self, X4_move, pk_mul, nI_add]
                  rw [acp_n (by simp only [lns]; omega) (by simp only [lns]; omega) (by simp only [lns]; omega) (by simp only [lns]; omega)]
                  simp only [cll_s, X6_foundNothing, L32]
                · simp (maxSteps := 3000000) (disch := omega) only [rfs, m_isRow_y ha, m_isRow_y hb, cll_s, L32, ite10, al58 _ ha, al58 _ hb, al59 _ ha, al59 _ hb, st2_k, st1_k, e9, e9b, e8, e8b, hL2, if_true, nI_lt0, if_false, lgp, i64add, i64i, nI_toInt]
                  rw [if_neg (by omega), if_neg (by omega), p1]
                  exact q1
                · refine hI.rows (fun q => ?_) (fun x hx => ?_) (fun x hx => ?_) ?_ (fun r' hr' => ?_)
                  · intros; rw [q2 q (by omega) (by omega), p2 q (by omega), st2_k (by omega), st1_k (by omega)]
                  · rw [q2 0 (by omega) (by omega), p2 0 (by omega), st2_i hx, st1_k (by omega)]
                  · rw [q4 x, if_neg hx, p2 57 (by omega), st2_k (by omega), st1_k (by omega)]
                  · rw [q2 0 (by omega) (by omega), p2 0 (by omega), st2_s, q4 3, if_pos rfl]
                  · have kk : ∀ q, q ≠ 60 → q ≠ 57 → q ≠ 61 → q ≠ 0 → q ≠ 4 → m2 q = mem q := fun q z1 z2 z3 z4 z5 => by rw [q2 q z1 z2, p2 q z3, st2_k z4, st1_k z5]
                    rw [kk 2 (by omega) (by omega) (by omega) (by omega) (by omega), kk 3 (by omega) (by omega) (by omega) (by omega) (by omega), kk 58 (by omega) (by omega) (by omega) (by omega) (by omega), kk 59 (by omega) (by omega) (by omega) (by omega) (by omega)]
                    have k4 : ∀ x, m2 4 x = if b * 40 + j ≤ x ∧ x < b * 40 + j + n then mem 4 (a * 40 + i + (x - (b * 40 + j))) else mem 4 x := fun x => by rw [q2 4 (by omega) (by omega), p2 4 (by omega), st2_k (by omega), st1_s]; rfl
                    have k60 : ∀ x, m2 60 x = if b * 40 + j ≤ x ∧ x < b * 40 + j + n then mem 60 (a * 40 + i + (x - (b * 40 + j))) else mem 60 x := by
                      intro x
                      rw [q3 x, p2 60 (by omega), st2_k (by omega), st1_k (by omega)]
                      by_cases hx : b * 40 + j ≤ x ∧ x < b * 40 + j + n
                      · rw [if_pos (by omega), if_pos hx, p3, if_pos (by omega), st2_k (by omega), st1_k (by omega)]
                        congr 1
                        omega
                      · rw [if_neg (by omega), if_neg hx]
                    rcases hR r' hr' with h | ⟨la', sz', h1, h2, h3, h4, h5, h6, h7⟩
                    · exact Or.inl h
                    · refine Or.inr ⟨la', sz', h1, h2, h3, h4, h5, h6, fun i' hi' => ?_⟩
                      rw [k4, k60]
                      by_cases hx : b * 40 + j ≤ r' * 40 + i' ∧ r' * 40 + i' < b * 40 + j + n
                      · rw [if_pos hx, if_pos hx]
                        have := e4 (i + (r' * 40 + i' - (b * 40 + j))) (by omega)
                        rw [← Nat.add_assoc] at this
                        exact this
                      · rw [if_neg hx, if_neg hx]
                        exact h7 i' hi'
              · refine f_step (nI 2) hI (r := -nI 1000010 - nI 2) ?_ ?_
                · simp (disch := omega) only [rfs, c_isRow_y ha, c_isRow_y hb, c_missing ha, c_missing hb, hp, hpb, cll_s, L32, ite10, b2_0, not_true_eq_false, if_false, X4_haveOneLane, al, e2, e2b, hL2, if_true, chk_1, c_hasPlaces ha e3 hsz, c_hasPlaces hb e3b hsb, X6_copy_b100, X6_found]
                  rw [if_pos hin, if_neg hin2]
                · simp (maxSteps := 3000000) (disch := omega) only [rfs, m_isRow_y ha, m_isRow_y hb, cll_s, L32, ite10, al58 _ ha, al58 _ hb, al59 _ ha, al59 _ hb, st2_k, e9, e9b, e8, e8b, hL2, if_true, nI_lt0, if_false, lgp, i64add, i64i, nI_toInt, lt0 a2, lt0 a4, lt0 a5, X7_copy_b111, X7_finds]
                  repeat' split
                  all_goals first | rfl | (exfalso; omega)
            · refine f_step (nI 2) hI (r := -nI 1000010 - nI 2) ?_ ?_
              · simp (disch := omega) only [rfs, c_isRow_y ha, c_isRow_y hb, c_missing ha, c_missing hb, hp, hpb, cll_s, L32, ite10, b2_0, not_true_eq_false, if_false, X4_haveOneLane, al, e2, e2b, hL2, if_true, chk_1, c_hasPlaces ha e3 hsz, c_hasPlaces hb e3b hsb, X6_copy_b100, X6_found]
                rw [if_neg hin]
              · simp (maxSteps := 3000000) (disch := omega) only [rfs, m_isRow_y ha, m_isRow_y hb, cll_s, L32, ite10, al58 _ ha, al58 _ hb, al59 _ ha, al59 _ hb, st2_k, e9, e9b, e8, e8b, hL2, if_true, nI_lt0, if_false, lgp, i64add, i64i, nI_toInt, lt0 a2, lt0 a4, lt0 a5, X7_copy_b111, X7_finds]
                repeat' split
                all_goals first | rfl | (exfalso; omega)
          · have hL2 : ¬ nI la = nI lb := nI_neN (by omega) (by omega) hL
            refine f_step (nI 5) hI (r := -nI 1000010 - nI 5) ?_ ?_
            · simp only [rfs, c_isRow_y ha, c_isRow_y hb, c_missing ha, c_missing hb, hp, hpb, cll_s, L32, ite10, b2_0, X6_found, not_true_eq_false, if_false, X4_haveOneLane, al, ha, hb, e2, e2b, hL2, chk_0, if_true]
            · simp (maxSteps := 3000000) (disch := omega) only [rfs, m_isRow_y ha, m_isRow_y hb, cll_s, L32, ite10, al58 _ ha, al58 _ hb, al59 _ ha, al59 _ hb, st2_k, e9, e9b, e8, e8b, hL2, nI_lt0, if_false, X7_finds]
    · refine q_step hI (r := -nI 1000001) ?_ ?_
      · simp only [rfs, c_isRow_y ha, c_isRow_n hb, cll_s, L32, ite10, if_true]
      · simp only [m_isRow_y ha, m_isRow_n hb, cll_s, L32, ite10, if_true]
  · refine q_step hI (r := -nI 1000001) ?_ ?_
    · simp only [rfs, c_isRow_n ha, cll_s, L32, if_true]
    · simp only [m_isRow_n ha, cll_s, L32, if_true]
end CP1
