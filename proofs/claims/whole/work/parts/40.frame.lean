/-! ===== PURE: what a call leaves alone ===== -/
theorem CO.fr {mem m' : Mem} {o : Nat} {g : Nat → Nat} (h : CO mem o g) (he : ∀ q, o ≤ q → q ≤ o + 8 → m' q = mem q) : CO m' o g := by
  unfold CO at h ⊢
  rw [he o (by omega) (by omega), he (o + 1) (by omega) (by omega), he (o + 2) (by omega) (by omega), he (o + 3) (by omega) (by omega), he (o + 4) (by omega) (by omega), he (o + 5) (by omega) (by omega), he (o + 6) (by omega) (by omega), he (o + 7) (by omega) (by omega), he (o + 8) (by omega) (by omega)]
  exact h
theorem MO.fr {mem m' : Mem} {g : Nat → Nat} (h : MO mem g) (he : m' 62 = mem 62) : MO m' g := by
  unfold MO at h ⊢
  rw [he]
  exact h
theorem IMG1.fr {t : Nat} {mem m' : Mem} {o k off : Nat} (h : IMG1 t mem o k off) (he : ∀ q, o ≤ q → q ≤ o + 8 → m' q = mem q) (h70 : m' 70 = mem 70) (h71 : m' 71 = mem 71) : IMG1 t m' o k off := by
  unfold IMG1 at h ⊢
  rw [he o (by omega) (by omega), h70, h71]
  rcases h with h | ⟨h1, h2, g, h3, h4⟩
  · exact Or.inl h
  · exact Or.inr ⟨h1, h2, g, h3.fr he, h4⟩
theorem IMG.fr {t : Nat} {mem m' : Mem} (h : IMG t mem) (he : ∀ q, 25 ≤ q → q ≤ 42 → m' q = mem q) (h70 : m' 70 = mem 70) (h71 : m' 71 = mem 71) : IMG t m' :=
  ⟨h.1.fr (fun q h1 h2 => he q (by omega) (by omega)) h70 h71, h.2.fr (fun q h1 h2 => he q (by omega) (by omega)) h70 h71⟩
theorem Dl.fr {mem m' : Mem} {c : Nat} {a b : Nat → Nat} (h : Dl mem c a b) (he : ∀ q, 44 ≤ q → q ≤ 50 → m' q c = mem q c) : Dl m' c a b := by
  unfold Dl at h ⊢
  rw [he 44 (by omega) (by omega), he 45 (by omega) (by omega), he 46 (by omega) (by omega), he 47 (by omega) (by omega), he 48 (by omega) (by omega), he 49 (by omega) (by omega), he 50 (by omega) (by omega)]
  exact h
theorem ACT.fr {t : Nat} {mem m' : Mem} {g : Nat → Nat} (h : ACT t mem g) (he : ∀ q, 43 ≤ q → q ≤ 50 → m' q = mem q) (h65 : m' 65 = mem 65) (h57 : m' 57 13 = mem 57 13) : ACT t m' g := by
  obtain ⟨K, nx, S, h1, h2, h3, h4, h5, h6, h7⟩ := h
  refine ⟨K, nx, S, h1, h2, ?_, ?_, ?_, h6, fun i hi => ⟨fun j hj => ?_, (h7 i hi).2.1, (h7 i hi).2.2.fr fun q h8 h9 => ?_⟩⟩
  · rw [he 43 (by omega) (by omega)]; exact h3
  · rw [h57]; exact h4
  · rw [he 43 (by omega) (by omega)]; exact h5
  · rw [h65]; exact (h7 i hi).1 j hj
  · rw [he q (by omega) (by omega)]
theorem ROW.fr {mem m' : Mem} (h : ROW mem) (h2 : m' 2 = mem 2) (h3 : m' 3 = mem 3) (h4 : m' 4 = mem 4) (h5 : m' 58 = mem 58) (h6 : m' 59 = mem 59) (h7 : m' 60 = mem 60) : ROW m' := by
  unfold ROW at h ⊢
  rw [h2, h3, h4, h5, h6, h7]
  exact h
theorem TAP.fr {mem m' : Mem} (h : TAP mem) (h1 : m' 5 1 = mem 5 1) (h2 : m' 6 = mem 6) (h3 : m' 57 7 = mem 57 7) (h4 : m' 63 = mem 63) : TAP m' := by
  unfold TAP at h ⊢
  rw [h1, h2, h3, h4]
  exact h
theorem FST.fr {mem m' : Mem} (h : FST mem) (h1 : m' 0 9 = mem 0 9) (h2 : m' 0 10 = mem 0 10) (h3 : m' 57 8 = mem 57 8) (h4 : m' 57 3 = mem 57 3) : FST m' := by
  unfold FST at h ⊢
  rw [h1, h2, h3, h4]
  exact h
theorem TRC.fr {mem m' : Mem} (h : TRC mem) (h1 : m' 55 1 = mem 55 1) (h2 : m' 56 = mem 56) (h3 : m' 57 22 = mem 57 22) (h4 : m' 72 = mem 72) : TRC m' := by
  unfold TRC at h ⊢
  rw [h1, h2, h3, h4]
  exact h
/-- only rows and the latest finding have changed -/
theorem Inv.rows {t : Nat} {mem m' : Mem} (h : Inv t mem) (he : ∀ q, q ≠ 2 → q ≠ 3 → q ≠ 4 → q ≠ 58 → q ≠ 59 → q ≠ 60 → q ≠ 61 → q ≠ 0 → q ≠ 57 → m' q = mem q) (h0 : ∀ j, j ≠ 10 → m' 0 j = mem 0 j) (h57 : ∀ j, j ≠ 3 → m' 57 j = mem 57 j) (hs : m' 0 10 = m' 57 3) (hR : ROW m') : Inv (t + 1) m' := by
  obtain ⟨g, hC, hM, hO, hG, hA, _, hT, hF, hT2⟩ := h
  refine Inv.mono ⟨g, hC.fr fun q h1 h2 => he q ?_ ?_ ?_ ?_ ?_ ?_ ?_ ?_ ?_, hM.fr (he _ ?_ ?_ ?_ ?_ ?_ ?_ ?_ ?_ ?_), hO, hG.fr (fun q h1 h2 => he q ?_ ?_ ?_ ?_ ?_ ?_ ?_ ?_ ?_) (he _ ?_ ?_ ?_ ?_ ?_ ?_ ?_ ?_ ?_) (he _ ?_ ?_ ?_ ?_ ?_ ?_ ?_ ?_ ?_), hA.fr (fun q h1 h2 => he q ?_ ?_ ?_ ?_ ?_ ?_ ?_ ?_ ?_) (he _ ?_ ?_ ?_ ?_ ?_ ?_ ?_ ?_ ?_) (h57 _ ?_), hR, hT.fr (by rw [he 5 (by omega) (by omega) (by omega) (by omega) (by omega) (by omega) (by omega) (by omega) (by omega)]) (he _ ?_ ?_ ?_ ?_ ?_ ?_ ?_ ?_ ?_) (h57 _ ?_) (he _ ?_ ?_ ?_ ?_ ?_ ?_ ?_ ?_ ?_), ⟨by rw [h0 9 (by omega), h57 8 (by omega)]; exact hF.1, hs⟩, hT2.fr (by rw [he 55 (by omega) (by omega) (by omega) (by omega) (by omega) (by omega) (by omega) (by omega) (by omega)]) (he _ ?_ ?_ ?_ ?_ ?_ ?_ ?_ ?_ ?_) (h57 _ ?_) (he _ ?_ ?_ ?_ ?_ ?_ ?_ ?_ ?_ ?_)⟩
  all_goals omega
/-- both write the same finding, and nothing else changes -/
theorem Inv.find {t : Nat} {mem : Mem} (h : Inv t mem) (v : Int32) : Inv (t + 1) (st2 (st2 mem 0 10 v) 57 3 v) := by
  have hR : ROW mem := by obtain ⟨g, _, _, _, _, _, hR, _⟩ := h; exact hR
  refine h.rows (fun q => ?_) (fun j hj => ?_) (fun j hj => ?_) ?_ (hR.fr ?_ ?_ ?_ ?_ ?_ ?_)
  · intros; rw [st2_k (by omega), st2_k (by omega)]
  · rw [st2_k (by omega), st2_i hj]
  · rw [st2_i hj, st2_k (by omega)]
  · rw [st2_k (by omega), st2_s, st2_s]
  all_goals rw [st2_k (by omega), st2_k (by omega)]
theorem f_step {t : Nat} {mem : Mem} {A : Option (Int32 × Mem)} {B : Mem → Option (Int32 × Mem)} {r : Int32} (v : Int32) (h : Inv t mem) (e1 : A = some (r, st2 mem 0 10 v)) (e2 : B (st2 mem 0 10 v) = some (r, st2 (st2 mem 0 10 v) 57 3 v)) : ∃ (r : Int32) (m1 m2 : Mem), A = some (r, m1) ∧ B m1 = some (r, m2) ∧ Inv (t + 1) m2 := ⟨r, _, _, e1, e2, h.find v⟩
theorem c_isRow_y {r : Nat} (h : r < 8) (mem : Mem) : X4_isRow 1 (nI r) mem = some (nI 1, mem) := by
  unfold X4_isRow
  simp (disch := omega) only [L32, nI_ltI, h, chk_1, Nat.not_lt_zero, if_true, if_false]
theorem c_isRow_n {a : Int32} (h : ¬ (0 ≤ a.toInt ∧ a.toInt < (8 : Nat))) (mem : Mem) : X4_isRow 1 a mem = some (nI 0, mem) := by
  unfold X4_isRow
  simp (disch := omega) only [L32, Int32.lt_iff_toInt_lt, nI_toInt, chk_0, chk_1]
  by_cases h1 : a.toInt < (0 : Nat)
  · rw [if_pos h1]
  · rw [if_neg h1, if_neg (by omega)]
theorem m_isRow_y {r : Nat} (h : r < 8) (mem : Mem) : X7_isRow (nI r) mem = some (nI 1, mem) := by
  unfold X7_isRow
  simp (disch := omega) only [L64, m_in_y, cll_s, L32, chk_1]
theorem m_isRow_n {a : Int32} (h : ¬ (0 ≤ a.toInt ∧ a.toInt < (8 : Nat))) (mem : Mem) : X7_isRow a mem = some (nI 0, mem) := by
  unfold X7_isRow
  simp (disch := omega) only [L64, m_in_n, cll_s, L32, chk_0]
theorem c_isLane_y {r : Nat} (h : r ≤ 2) (mem : Mem) : X4_isLane 1 (nI r) mem = some (nI 1, mem) := by
  unfold X4_isLane
  simp (disch := omega) only [L32, nI_ltI, chk_1, Nat.not_lt_zero, if_false]
  rw [if_neg (by omega)]
theorem c_isLane_n {a : Int32} (h : ¬ (0 ≤ a.toInt ∧ a.toInt < (3 : Nat))) (mem : Mem) : X4_isLane 1 a mem = some (nI 0, mem) := by
  unfold X4_isLane
  simp (disch := omega) only [L32, Int32.lt_iff_toInt_lt, nI_toInt, chk_0, chk_1]
  by_cases h1 : a.toInt < (0 : Nat)
  · rw [if_pos h1]
  · rw [if_neg h1, if_pos (by omega)]
theorem c_hasPlaces {mem : Mem} {r sz : Nat} (hr : r < 8) (h3 : mem 3 r = nI sz) (hs : sz ≤ 40) (a b : Int32) : X4_hasPlaces 1 (nI r) a b mem = some (b2 (0 ≤ a.toInt ∧ 0 ≤ b.toInt ∧ a.toInt + b.toInt ≤ (sz : Int)), mem) := by
  unfold X4_hasPlaces
  simp (disch := omega) only [rfs, L32, al, h3, Int32.lt_iff_toInt_lt, nI_toInt, chk_0, chk_1]
  by_cases h1 : a.toInt < (0 : Nat)
  · rw [if_pos h1, b2_f (by omega)]
  · rw [if_neg h1]
    by_cases h2 : b.toInt < (0 : Nat)
    · rw [if_pos h2, b2_f (by omega)]
    · rw [if_neg h2]
      by_cases h4 : (sz : Int) < a.toInt
      · rw [if_pos h4, b2_f (by omega)]
      · rw [if_neg h4]
        have e : (nI sz - a).toInt = (sz : Int) - a.toInt := by
          rw [Int32.toInt_sub, nI_toInt (by omega), Int.bmod_def]
          omega
        rw [e]
        by_cases h5 : (sz : Int) - a.toInt < b.toInt
        · rw [if_pos h5, b2_f (by omega)]
        · rw [if_neg h5, b2_t (by omega)]
theorem row_look {mem : Mem} (hR : ROW mem) {r : Nat} (hr : r < 8) : (presB mem r = false ∧ mem 59 r = -nI 1) ∨ ∃ la sz, la ≤ 2 ∧ sz ≤ 40 ∧ presB mem r = true ∧ mem 2 r = nI la ∧ mem 58 r = nI la ∧ mem 3 r = nI sz ∧ mem 59 r = nI sz ∧ ∀ i, i < sz → mem 4 (r * 40 + i) = mem 60 (r * 40 + i) := by
  rcases hR r hr with ⟨h1, h2⟩ | ⟨la, sz, h1, h2, h3, h4⟩
  · exact Or.inl ⟨by simp [presB, h1], h2⟩
  · exact Or.inr ⟨la, sz, h1, h2, by simp [presB, h3, nI_nem1 (n := la) (by omega)], h3, h4⟩
theorem st_drop : St_drop Inv := by
  intro t mem a1 ht hI
  obtain ⟨g, hC, hM, hO, hG, hA, hR, hT, hF, hT2⟩ := id hI
  unfold X6_drop X7_drop
  rcases rng a1 8 (by omega) with ⟨r, hr, rfl⟩ | hr
  · rcases row_look hR hr with ⟨hp, h9⟩ | ⟨la, sz, hla, hsz, hp, e2, e8, e3, e9, e4⟩
    · refine f_step (nI 1) hI (r := -nI 1000010 - nI 1) ?_ ?_
      · simp only [rfs, c_isRow_y hr, c_missing hr, hp, cll_s, L32, ite10, b2_0, X6_found, Bool.false_eq_true, not_false_eq_true, if_true]
      · simp (disch := omega) only [rfs, m_isRow_y hr, cll_s, L32, ite10, al, st2_k, h9, m1_lt0, if_true, X7_finds]
    · refine ⟨nI sz, st2 (st2 mem 2 r (-nI 1)) 0 10 (nI 0), st2 (st2 (st2 (st2 mem 2 r (-nI 1)) 0 10 (nI 0)) 59 r (-nI 1)) 57 3 (nI 0), ?_, ?_, ?_⟩
      · simp (disch := omega) only [rfs, c_isRow_y hr, c_missing hr, hp, cll_s, L32, ite10, b2_0, X6_foundNothing, not_true_eq_false, if_false, X4_remove, as_, al, st2_k, e3, if_true]
      · simp (disch := omega) only [rfs, m_isRow_y hr, cll_s, L32, ite10, al, as_, st2_k, e9, nI_lt0, if_false, X7_tells]
      · refine hI.rows (fun q => ?_) (fun j hj => ?_) (fun j hj => ?_) ?_ (fun r' hr' => ?_)
        · intros; rw [st2_k (by omega), st2_k (by omega), st2_k (by omega), st2_k (by omega)]
        · rw [st2_k (by omega), st2_k (by omega), st2_i hj, st2_k (by omega)]
        · rw [st2_i hj, st2_k (by omega), st2_k (by omega), st2_k (by omega)]
        · rw [st2_k (by omega), st2_k (by omega), st2_s, st2_s]
        · simp (disch := omega) only [st2_k]
          by_cases e : r' = r
          · subst e
            exact Or.inl ⟨st2_s, st2_s⟩
          · rw [st2_i e, st2_i e]
            exact hR r' hr'
  · refine q_step hI (r := -nI 1000001) ?_ ?_
    · simp only [rfs, c_isRow_n hr, cll_s, L32, if_true]
    · simp only [m_isRow_n hr, cll_s, L32, if_true]
