/-! ===== PURE: office, whole ===== -/
section OF8
variable {T : Nat → Nat} {n : Nat} {t : Nat}
theorem loP_PG : ∀ (k p : Nat) (G G' : Nat → Nat), PG G → loP T n k p G = .ok G' → PG G'
  | 0, p, G, G', hP, h => by
    rw [loP] at h
    injection h with h
    rw [← h]; exact hP
  | k + 1, p, G, G', hP, h => by
    rw [loP] at h
    dsimp only at h
    by_cases hlt : p < n
    · rw [if_pos hlt] at h
      cases e : itP T n p G with
      | error e1 => rw [e] at h; cases h
      | ok x =>
        rw [e] at h
        exact loP_PG k x.1 x.2 G' (itP_ok hP hlt e).2.2 h
    · rw [if_neg hlt] at h
      injection h with h
      rw [← h]; exact hP
theorem ofP_PG {G' : Nat → Nat} (h : ofP T n = .ok G') : PG G' := by
  unfold ofP at h
  cases e : lawP T n with
  | error e1 => rw [e] at h; cases h
  | ok x =>
    rw [e] at h
    exact loP_PG (n + 1) x.1 x.2 G' (lawP_ok e).2.2 h
theorem PG_Ok {G : Nat → Nat} (h : PG G) : OkG t (stG G) := by
  obtain ⟨⟨a0, a1, a2, a3, a4, a5⟩, b, c, d⟩ := h
  have hg : ∀ j, 0 < j → stG G j = G j := fun j hj => by unfold stG; rw [if_neg (by omega)]
  have h0 : stG G 0 = 1 := rfl
  refine ⟨⟨by omega, fun z => by omega, by rw [hg 1 (by omega)]; exact a2, by rw [hg 2 (by omega)]; exact a3, by rw [hg 3 (by omega)]; exact a4, by rw [hg 4 (by omega), a5]; omega⟩, fun l hl => ?_, fun r hr => ?_, fun r l hr hl => ?_⟩
  · rw [hg 2 (by omega)] at hl
    rw [hg _ (by omega), hg _ (by omega), hg _ (by omega)]
    exact b l hl
  · rw [hg 3 (by omega)] at hr
    have := c r hr
    rw [hg _ (by omega), hg _ (by omega), hg _ (by omega), hg _ (by omega), hg _ (by omega), d (35 + r) (by omega) (by omega)]
    omega
  · rw [hg 3 (by omega)] at hr
    rw [hg 2 (by omega)] at hl
    rw [hg _ (by omega), d (39 + 4 * l + r) (by omega) (by omega)]
    omega
theorem m_zero_l : ∀ (k i m : Nat) (mem : Mem), i ≤ 63 → 63 - i < k → k ≤ m → (∀ j, j < i → mem 64 j = nI 0) → ∃ m', X7_office_b7 57 m (nI i) mem = cll (X7_takeOffice 57 m') (fun r3 m4 => if (r3 : Int32) = 0 then (some ((-1000100) - ((st2 m4 57 7 0) 57 10), (st2 m4 57 7 0))) else (X7_office_b50 57 fu 0 (st2 m4 57 7 0))) ∧ (∀ q, q ≠ 64 → m' q = mem q) ∧ MD m' (fun _ => 0) := by
  intro k
  induction k with
  | zero => intro i m mem h1 h2; omega
  | succ k ih =>
    intro i m mem h1 h3 h4 hA
    obtain ⟨m, rfl, h5⟩ := succ_of h4
    rw [X7_office_b7]
    dsimp only
    have hz : (nI i < (63 : Int32)) = (i < 63) := by rw [show (63 : Int32) = nI 63 from rfl, nI_ltI (by omega) (by omega)]
    by_cases hlt : i < 63
    · obtain ⟨m', e1, e2, e3⟩ := ih (i + 1) m (st2 mem 64 i (nI 0)) (by omega) (by omega) h5 (fun j hj => by
        by_cases e : j = i
        · rw [e, st2_s]
        · rw [st2_i e]; exact hA j (by omega))
      refine ⟨m', ?_, fun q hq => by rw [e2 q hq, st2_k hq], e3⟩
      rw [if_pos (hz.mpr hlt), show rf 57 12 = 64 from rfl, ast_n (by simp only [lns]; omega) (by decide), show nI i + (1 : Int32) = nI (i + 1) from nI_add ..]
      exact e1
    · refine ⟨mem, ?_, fun _ _ => rfl, fun j hj => hA j (by omega)⟩
      rw [if_neg (fun z => hlt (hz.mp z))]
theorem m_cpy_l {G : Nat → Nat} : ∀ (k i m : Nat) (mem : Mem), MD mem G → i ≤ 63 → 63 - i < k → k ≤ m → (∀ j, j < i → mem 62 j = nI (G j)) → ∃ m', X7_office_b50 57 m (nI i) mem = some (nI (G 3), m') ∧ (∀ q, q ≠ 62 → q ≠ 57 → m' q = mem q) ∧ MO m' (stG G) ∧ m' 57 13 = nI 0 ∧ ∀ j, j ≠ 13 → m' 57 j = mem 57 j := by
  intro k
  induction k with
  | zero => intro i m mem _ h1 h2; omega
  | succ k ih =>
    intro i m mem hD h1 h3 h4 hA
    obtain ⟨m, rfl, h5⟩ := succ_of h4
    rw [X7_office_b50]
    dsimp only
    have hz : (nI i < (63 : Int32)) = (i < 63) := by rw [show (63 : Int32) = nI 63 from rfl, nI_ltI (by omega) (by omega)]
    by_cases hlt : i < 63
    · obtain ⟨m', e1, e2, e3, e4, e5⟩ := ih (i + 1) m (st2 mem 62 i (nI (G i))) (fun j hj => by rw [st2_k (by omega)]; exact hD j hj) (by omega) (by omega) h5 (fun j hj => by
        by_cases e : j = i
        · rw [e, st2_s]
        · rw [st2_i e]; exact hA j (by omega))
      refine ⟨m', ?_, fun q z1 z2 => by rw [e2 q z1 z2, st2_k z1], e3, e4, fun j hj => by rw [e5 j hj, st2_k (by omega)]⟩
      rw [if_pos (hz.mpr hlt), show rf 57 12 = 64 from rfl, show rf 57 5 = 62 from rfl, ald_n (by simp only [lns]; omega) (by decide), hD i hlt, ast_n (by simp only [lns]; omega) (by decide), show nI i + (1 : Int32) = nI (i + 1) from nI_add ..]
      exact e1
    · have hMO : MO (st2 (st2 mem 62 0 (nI 1)) 57 13 (nI 0)) (stG G) := fun j hj => by
        rw [st2_k (by omega)]
        by_cases e : j = 0
        · rw [e, st2_s]; rfl
        · rw [st2_i e, hA j (by omega)]
          unfold stG
          rw [if_neg e]
      refine ⟨_, ?_, fun q z1 z2 => ?_, hMO, st2_s, fun j hj => ?_⟩
      · rw [if_neg (fun z => hlt (hz.mp z)), show rf 57 5 = 62 from rfl, show (0 : Int32) = nI 0 from rfl, ast_n (by simp only [lns]; omega) (by decide), show (1 : Int32) = nI 1 from rfl, m_readers hMO, cll_s]
        rfl
      · rw [st2_k z2, st2_k z1]
      · rw [st2_i hj, st2_k (by omega)]
/-- the tape has been read: it is empty, the fault is the same on both sides -/
theorem Inv.offc {mem m' : Mem} (h : Inv t mem) (he : ∀ q, q ≠ 0 → q ≠ 5 → q ≠ 57 → ¬ (7 ≤ q ∧ q ≤ 24) → q ≠ 43 → q ≠ 62 → q ≠ 64 → m' q = mem q) (h57 : ∀ j, ¬ (7 ≤ j ∧ j ≤ 11) → j ≠ 13 → m' 57 j = mem 57 j) (h0 : m' 0 10 = mem 0 10) (h51 : m' 5 1 = nI 0) (h577 : m' 57 7 = nI 0) (hF : m' 0 9 = m' 57 8) (hX : ∃ g', CO m' 7 g' ∧ MO m' g' ∧ OkG t g' ∧ ACT t m' g') : Inv (t + 1) m' := by
  obtain ⟨g, _, _, _, hG, _, hR, hT, hF0, hT2⟩ := h
  obtain ⟨g', x1, x2, x3, x4⟩ := hX
  refine Inv.mono ⟨g', x1, x2, x3, hG.fr (fun q h1 h2 => he q ?_ ?_ ?_ ?_ ?_ ?_ ?_) (he _ ?_ ?_ ?_ ?_ ?_ ?_ ?_) (he _ ?_ ?_ ?_ ?_ ?_ ?_ ?_), x4, hR.fr (he _ ?_ ?_ ?_ ?_ ?_ ?_ ?_) (he _ ?_ ?_ ?_ ?_ ?_ ?_ ?_) (he _ ?_ ?_ ?_ ?_ ?_ ?_ ?_) (he _ ?_ ?_ ?_ ?_ ?_ ?_ ?_) (he _ ?_ ?_ ?_ ?_ ?_ ?_ ?_) (he _ ?_ ?_ ?_ ?_ ?_ ?_ ?_), ⟨0, by omega, h51, h577, fun i hi => absurd hi (Nat.not_lt_zero i)⟩, ⟨hF, by rw [h0, h57 3 (by omega) (by omega)]; exact hF0.2⟩, hT2.fr (by rw [he 55 (by omega) (by omega) (by omega) (by omega) (by omega) (by omega) (by omega)]) (he _ ?_ ?_ ?_ ?_ ?_ ?_ ?_) (h57 _ ?_ ?_) (he _ ?_ ?_ ?_ ?_ ?_ ?_ ?_)⟩
  all_goals omega
theorem st_office : St_office Inv := by
  intro t mem ht hI
  obtain ⟨g, hC, hM, hO, hG, hA, hR, hT, hF, hT2⟩ := id hI
  obtain ⟨n, hn, t1, t2, t3⟩ := hT
  obtain ⟨T, hTd⟩ : ∃ T : Nat → Nat, T = fun i => (mem 6 i).toInt.toNat := ⟨_, rfl⟩
  have hTb : ∀ i, i < n → T i < 256 ∧ mem 6 i = nI (T i) ∧ mem 63 i = nI (T i) := fun i hi => by
    obtain ⟨b, b1, b2', b3⟩ := t3 i hi
    have : T i = b := by
      rw [hTd]
      show (mem 6 i).toInt.toNat = b
      rw [b2', nI_toInt (by omega)]
      rfl
    rw [this]
    exact ⟨b1, b2', b3⟩
  have hCT : CTp mem T n := ⟨hn, fun i hi => (hTb i hi).1, t1, fun i hi => (hTb i hi).2.1⟩
  have hci := c_into hCT
  -- what the reference does on a memory that differs from the first one elsewhere
  have hmi : ∀ m1 : Mem, (∀ q, q ≠ 0 → q ≠ 5 → ¬ (7 ≤ q ∧ q ≤ 24) → q ≠ 43 → m1 q = mem q) → ∃ m2, (∀ q, q ≠ 57 → q ≠ 64 → m2 q = m1 q) ∧ (∀ j, j ≠ 9 → m2 57 j = m1 57 j) ∧ X7_office 57 m1 = cll (X7_takeOffice 57 m2) (fun r3 m4 => if (r3 : Int32) = 0 then (some ((-1000100) - ((st2 m4 57 7 0) 57 10), (st2 m4 57 7 0))) else (X7_office_b50 57 fu 0 (st2 m4 57 7 0))) ∧ MI m2 (ofP T n) (X7_takeOffice 57 m2) := by
    intro m1 hm1
    obtain ⟨m2, e1, e2, e3⟩ := m_zero_l 64 0 fu (st2 m1 57 9 (nI 0)) (by omega) (by omega) (fu_ge (by omega)) (fun j hj => absurd hj (Nat.not_lt_zero j))
    have k57 : m2 57 = st2 m1 57 9 (nI 0) 57 := e2 57 (by omega)
    refine ⟨m2, fun q z1 z2 => by rw [e2 q z2, st2_k z1], fun j hj => by rw [k57, st2_i hj], e1, ?_⟩
    exact m_off ⟨hn, fun i hi => (hTb i hi).1, by rw [k57, st2_i (by omega), hm1 57 (by omega) (by omega) (by omega) (by omega)]; exact t2, fun i hi => by rw [e2 63 (by omega), st2_k (by omega), hm1 63 (by omega) (by omega) (by omega) (by omega)]; exact (hTb i hi).2.2⟩ e3 (by rw [k57, st2_s])
  unfold X6_office
  rw [show rf 0 1 = 5 from rfl, show rf 0 3 = 16 from rfl, show rf 0 2 = 7 from rfl, show rf 0 6 = 43 from rfl]
  cases e : ofP T n with
  | error e1 =>
    rw [e] at hci
    obtain ⟨m1, q1, q2, q3, q4, q5⟩ := hci
    obtain ⟨m1', hm1'⟩ : ∃ m1', m1' = st2 (st2 m1 5 1 (nI 0)) 0 9 (nI e1.1) := ⟨_, rfl⟩
    have k1 : ∀ q, q ≠ 0 → q ≠ 5 → ¬ (16 ≤ q ∧ q ≤ 24) → m1' q = mem q := fun q z1 z2 z3 => by rw [hm1', st2_k z1, st2_k z2, q2.1 q z2 z3]
    have k52 : m1' 5 2 = nI e1.2 := by rw [hm1', st2_k (by omega), st2_i (by omega)]; exact q3
    obtain ⟨m2, r1, r2, r3, r4⟩ := hmi m1' (fun q z1 z2 z3 _ => k1 q z1 z2 (by omega))
    rw [e] at r4
    obtain ⟨m3, s1, s2, s3, s4⟩ := r4
    have k3 : ∀ q, q ≠ 57 → q ≠ 64 → m3 q = m1' q := fun q z1 z2 => by rw [s2.1 q z1 z2, r1 q z1 z2]
    refine ⟨-nI 1000100 - nI e1.2, m1', st2 m3 57 7 (nI 0), ?_, ?_, ?_⟩
    · rw [q1, cll_s]
      unfold X5_empty
      rw [cll_s, if_neg (ne0 q4 q5), show (0 : Int32) = nI 0 from rfl, ← hm1', k52]
      rfl
    · rw [r3, s1, cll_s, if_pos (show nI 0 = (0 : Int32) from rfl), st2_i (show 10 ≠ 7 by omega), s4]
      rfl
    · have km : ∀ q, q ≠ 0 → q ≠ 5 → ¬ (16 ≤ q ∧ q ≤ 24) → q ≠ 57 → q ≠ 64 → st2 m3 57 7 (nI 0) q = mem q := fun q z1 z2 z3 z4 z5 => by rw [st2_k z4, k3 q z4 z5, k1 q z1 z2 z3]
      have k57 : ∀ j, ¬ (7 ≤ j ∧ j ≤ 11) → st2 m3 57 7 (nI 0) 57 j = mem 57 j := fun j hj => by rw [st2_i (by omega), s2.2 j (by omega) (by omega) (by omega) (by omega), r2 j (by omega), k1 57 (by omega) (by omega) (by omega)]
      refine hI.offc (fun q z1 z2 z3 z4 z5 z6 z7 => km q z1 z2 (by omega) z3 z7) (fun j hj _ => k57 j hj) ?_ ?_ st2_s ?_ ⟨g, hC.fr (fun q h1 h2 => km q (by omega) (by omega) (by omega) (by omega) (by omega)), hM.fr (km _ (by omega) (by omega) (by omega) (by omega) (by omega)), hO, hA.fr (fun q h1 h2 => km q (by omega) (by omega) (by omega) (by omega) (by omega)) (km _ (by omega) (by omega) (by omega) (by omega) (by omega)) (k57 _ (by omega))⟩
      · rw [st2_k (by omega), k3 0 (by omega) (by omega), hm1', st2_i (by omega), st2_k (by omega), q2.1 0 (by omega) (by omega)]
      · rw [st2_k (by omega), k3 5 (by omega) (by omega), hm1', st2_k (by omega), st2_s]
      · rw [st2_k (by omega), k3 0 (by omega) (by omega), hm1', st2_s, st2_i (by omega)]
        exact s3.symm
  | ok G' =>
    have hPG := ofP_PG e
    have hOk : OkG t (stG G') := PG_Ok hPG
    rw [e] at hci
    obtain ⟨m1, q1, q2, q3⟩ := hci
    obtain ⟨m2, b1, b2', b3⟩ := c_becomes ofc7 ofc16 (Or.inr (by omega)) (q3.fr (m' := st2 m1 5 1 (nI 0)) fun q _ _ => st2_k (by omega)) ⟨hOk.1.1, hOk.1.2.2.2.1, hOk.1.2.2.2.2.1⟩
    obtain ⟨m1', hm1'⟩ : ∃ m1', m1' = st2 (st2 m2 43 7 (nI 0)) 43 8 (nI 0) := ⟨_, rfl⟩
    have k1 : ∀ q, q ≠ 5 → ¬ (7 ≤ q ∧ q ≤ 24) → q ≠ 43 → m1' q = mem q := fun q z1 z2 z3 => by rw [hm1', st2_k z3, st2_k z3, b3 q (by omega), st2_k z1, q2.1 q z1 (by omega)]
    have hC1 : CO m1' 7 (stG G') := b2'.fr fun q _ _ => by rw [hm1', st2_k (by omega), st2_k (by omega)]
    obtain ⟨m3, r1, r2, r3, r4⟩ := hmi m1' (fun q z1 z2 z3 z4 => k1 q z2 z3 z4)
    rw [e] at r4
    obtain ⟨m4, s1, s2, s3, s4⟩ := r4
    obtain ⟨m5, u1, u2, u3, u4, u5⟩ := m_cpy_l (G := G') 64 0 fu (st2 m4 57 7 (nI 0)) (fun j hj => by rw [st2_k (by omega)]; exact s3 j hj) (by omega) (by omega) (fu_ge (by omega)) (fun j hj => absurd hj (Nat.not_lt_zero j))
    have k4 : ∀ q, q ≠ 57 → q ≠ 64 → m4 q = m1' q := fun q z1 z2 => by rw [s2.1 q z1 z2, r1 q z1 z2]
    have k5 : ∀ q, q ≠ 57 → q ≠ 64 → q ≠ 62 → m5 q = m1' q := fun q z1 z2 z3 => by rw [u2 q z3 z1, st2_k z1, k4 q z1 z2]
    refine ⟨nI (G' 3), m1', m5, ?_, ?_, ?_⟩
    · rw [q1, cll_s]
      unfold X5_empty X0_forgetAll
      rw [cll_s, if_pos (show nI 0 = (0 : Int32) from rfl), show (0 : Int32) = nI 0 from rfl, b1, cll_s, cll_s, ← hm1', hC1.1.2.2.2.2]
      rfl
    · rw [r3, s1, cll_s, if_neg (show ¬ nI 1 = (0 : Int32) from nI01)]
      exact u1
    · have k57 : ∀ j, ¬ (7 ≤ j ∧ j ≤ 11) → j ≠ 13 → m5 57 j = mem 57 j := fun j hj h13 => by rw [u5 j h13, st2_i (by omega), s2.2 j (by omega) (by omega) (by omega) (by omega), r2 j (by omega), k1 57 (by omega) (by omega) (by omega)]
      refine hI.offc (fun q z1 z2 z3 z4 z5 z6 z7 => by rw [k5 q z3 z7 z6, k1 q z2 z4 z5]) k57 ?_ ?_ ?_ ?_ ⟨stG G', hC1.fr (fun q h1 h2 => k5 q (by omega) (by omega) (by omega)), u3, hOk, ⟨0, 0, fun _ => stG G', by omega, by omega, ?_, u4, ?_, rfl, fun i hi => absurd hi (Nat.not_lt_zero i)⟩⟩
      · rw [k5 0 (by omega) (by omega) (by omega), k1 0 (by omega) (by omega) (by omega)]
      · rw [k5 5 (by omega) (by omega) (by omega), hm1', st2_k (by omega), st2_k (by omega), b3 5 (by omega), st2_s]
      · rw [u5 7 (by omega), st2_s]
      · rw [k5 0 (by omega) (by omega) (by omega), k1 0 (by omega) (by omega) (by omega), u5 8 (by omega), st2_i (by omega), s4, r2 8 (by omega), k1 57 (by omega) (by omega) (by omega)]
        exact hF.1
      · rw [k5 43 (by omega) (by omega) (by omega), hm1', st2_s]
      · rw [k5 43 (by omega) (by omega) (by omega), hm1', st2_i (by omega), st2_s]
end OF8
