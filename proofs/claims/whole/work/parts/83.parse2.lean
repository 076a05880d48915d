/-! ===== PURE: office, numbers and signs on the reference's tape ===== -/
def MTp (mem : Mem) (T : Nat → Nat) (n : Nat) : Prop := n ≤ 120 ∧ (∀ i, i < n → T i < 256) ∧ mem 57 7 = nI n ∧ ∀ i, i < n → mem 63 i = nI (T i)
/-- what a step of the reference's reading may change: its fault, place, number, and the row that it fills -/
def F7 (mem m' : Mem) : Prop := (∀ q, q ≠ 57 → q ≠ 64 → m' q = mem q) ∧ ∀ j, j ≠ 8 → j ≠ 9 → j ≠ 10 → j ≠ 11 → m' 57 j = mem 57 j
theorem F7.refl {mem : Mem} : F7 mem mem := ⟨fun _ _ _ => rfl, fun _ _ _ _ _ => rfl⟩
theorem F7.trans {a b c : Mem} (h1 : F7 a b) (h2 : F7 b c) : F7 a c := ⟨fun q z1 z2 => by rw [h2.1 q z1 z2, h1.1 q z1 z2], fun j z1 z2 z3 z4 => by rw [h2.2 j z1 z2 z3 z4, h1.2 j z1 z2 z3 z4]⟩
theorem F7.st {mem : Mem} {j : Nat} {v : Int32} (h : 8 ≤ j ∧ j ≤ 11) : F7 mem (st2 mem 57 j v) := ⟨fun q hq _ => st2_k hq, fun i z1 z2 z3 z4 => st2_i (by omega)⟩
theorem F7.st64 {mem : Mem} {j : Nat} {v : Int32} : F7 mem (st2 mem 64 j v) := ⟨fun q _ hq => st2_k hq, fun i _ _ _ _ => by rw [st2_k (by omega)]⟩
theorem MTp.fr {mem m' : Mem} {T : Nat → Nat} {n : Nat} (h : MTp mem T n) (hf : F7 mem m') : MTp m' T n := ⟨h.1, h.2.1, by rw [hf.2 7 (by omega) (by omega) (by omega) (by omega)]; exact h.2.2.1, fun i hi => by rw [hf.1 63 (by omega) (by omega)]; exact h.2.2.2 i hi⟩
section OF2
variable {T : Nat → Nat} {n : Nat}
def hrI (T : Nat → Nat) (n p : Nat) : Int32 := if p < n then nI (T p) else -nI 1
theorem m_here {mem : Mem} {p : Nat} (hT : MTp mem T n) (h9 : mem 57 9 = nI p) (hp : p ≤ n) : X7_here 57 mem = some (hrI T n p, mem) := by
  obtain ⟨hn, hb, h1, h6⟩ := hT
  unfold X7_here hrI
  rw [h9, h1]
  have hz : (nI p < nI n) = (p < n) := by rw [nI_ltI (by omega) (by omega)]
  by_cases hlt : p < n
  · rw [if_pos (hz.mpr hlt), if_pos hlt, show rf 57 6 = 63 from rfl, ald_n (by simp only [lns]; omega) (by decide), h6 p hlt]
  · rw [if_neg (fun z => hlt (hz.mp z)), if_neg hlt]
    rfl
theorem hr_eq {p s : Nat} (hb : ∀ i, i < n → T i < 256) (hs : s < 256) : (hrI T n p = nI s) ↔ (p < n ∧ T p = s) := by
  unfold hrI
  by_cases hlt : p < n
  · have := hb p hlt
    rw [if_pos hlt]
    constructor
    · intro h
      refine ⟨hlt, ?_⟩
      apply Classical.byContradiction
      intro z
      exact nI_neN (by omega) (by omega) z h
    · intro h
      rw [h.2]
  · rw [if_neg hlt]
    constructor
    · intro h
      exact absurd h.symm (m1_ne s (by omega))
    · intro h
      exact absurd h.1 hlt
theorem m_fails {mem : Mem} (a b : Int32) : X7_fails 57 a b mem = some (nI 0, st2 (st2 mem 57 8 a) 57 10 b) := by
  unfold X7_fails
  rw [chk_t (show (0 : Int32) &&& 1 = 0 from by decide)]
  rfl
theorem F7.fails {mem : Mem} {a b : Int32} : F7 mem (st2 (st2 mem 57 8 a) 57 10 b) := (F7.st (by omega)).trans (F7.st (by omega))
theorem fails_8 {mem : Mem} {a b : Int32} : st2 (st2 mem 57 8 a) 57 10 b 57 8 = a := by rw [st2_i (by omega), st2_s]
theorem m_sg_ok {mem : Mem} {p s p' : Nat} (hT : MTp mem T n) (h9 : mem 57 9 = nI p) (hp : p ≤ n) (hs : s < 256) (h : sgP T n p s = .ok p') : X7_sign 57 (nI s) mem = some (nI 1, st2 mem 57 9 (nI p')) := by
  obtain ⟨h3, h4⟩ := sgP_ok h
  unfold X7_sign
  rw [m_here hT h9 hp, cll_s, if_pos ((hr_eq hT.2.1 hs).mpr h3), chk_t (show (1 : Int32) &&& 1 = 1 from by decide), h9, show (1 : Int32) = nI 1 from rfl, nI_add, h4]
theorem m_sg_bad {mem : Mem} {p s : Nat} {e : Nat × Nat} (hT : MTp mem T n) (h9 : mem 57 9 = nI p) (hp : p ≤ n) (hs : s < 256) (h : sgP T n p s = .error e) : X7_sign 57 (nI s) mem = some (nI 0, st2 (st2 mem 57 8 (nI e.1)) 57 10 (nI e.2)) := by
  obtain ⟨h3, h4⟩ := sgP_bad h
  unfold X7_sign
  rw [m_here hT h9 hp, cll_s, if_neg (fun z => h3 ((hr_eq hT.2.1 hs).mp z)), m_fails, cll_s, chk_t (show nI 0 &&& 1 = nI 0 from by decide), h9, h4]
  rfl
theorem m_figure {mem : Mem} {p : Nat} (hb : ∀ i, i < n → T i < 256) : X7_in (hrI T n p).toInt64 48 57 mem = some (b2 (p < n ∧ 48 ≤ T p ∧ T p ≤ 57), mem) := by
  rw [show (48 : Int64) = lN 48 from rfl, show (57 : Int64) = lN 57 from rfl]
  unfold hrI
  by_cases hlt : p < n
  · have := hb p hlt
    rw [if_pos hlt]
    by_cases hf : 48 ≤ T p ∧ T p ≤ 57
    · rw [m_in_y hf (by omega), b2_t ⟨hlt, hf⟩]
    · rw [m_in_n (by rw [nI_toInt (by omega)]; omega) (by omega) (by omega), b2_f (fun z => hf z.2)]
  · rw [if_neg hlt, m_in_n (by rw [show (-nI 1).toInt = -1 from by decide]; omega) (by omega) (by omega), b2_f (fun z => hlt z.1)]
theorem m_num_l {p lo hi : Nat} (hp : p ≤ n) (hlo : lo < 100000) (hhi : hi < 100000) : ∀ (k j m : Nat) (mem : Mem) (w : Nat), MTp mem T n → mem 57 9 = nI (p + j) → mem 57 11 = nI w → w ≤ 20000 → (j ≤ 3 → w = vl T p j) → j ≤ rn T n p → rn T n p - j < k → k ≤ m → ∃ m', X7_takeNumber_b10 57 m (nI lo) (nI hi) (nI p) mem = some (nI (if numC T n p lo hi = 0 then 1 else 0), m') ∧ F7 mem m' ∧ m' 64 = mem 64 ∧ (numC T n p lo hi = 0 → m' 57 9 = nI (p + rn T n p) ∧ m' 57 11 = nI (vl T p (rn T n p)) ∧ m' 57 8 = mem 57 8) ∧ (numC T n p lo hi ≠ 0 → m' 57 8 = nI (numC T n p lo hi) ∧ m' 57 10 = nI p) := by
  intro k
  induction k with
  | zero => intro j m mem w _ _ _ _ _ h1 h2; omega
  | succ k ih =>
    intro j m mem w hT h9 h11 hw hv hj hk hm
    obtain ⟨m, rfl, hm2⟩ := succ_of hm
    obtain ⟨hn, hb, h1, h6⟩ := id hT
    have hrl := rn_le (T := T) hp
    rw [X7_takeNumber_b10]
    dsimp only
    rw [m_here hT h9 (by omega), cll_s, m_figure hb, cll_s]
    by_cases hf : p + j < n ∧ 48 ≤ T (p + j) ∧ T (p + j) ≤ 57
    · have hjr : j < rn T n p := by
        rcases Nat.lt_or_ge j (rn T n p) with e | e
        · exact e
        · have : j = rn T n p := by omega
          rw [this] at hf
          exact absurd hf (rn_end hn hp)
      rw [b2_t hf, if_neg (show ¬ nI 1 = (0 : Int32) from nI01), h11]
      unfold X7_takeNumber_b60
      have hz : ((1000 : Int32) < nI w) = (1000 < w) := by rw [show (1000 : Int32) = nI 1000 from rfl, nI_ltI (by omega) (by omega)]
      by_cases hcap : 1000 < w
      · rw [if_pos (hz.mpr hcap), show st2 mem 57 11 (nI w) 57 9 = nI (p + j) by rw [st2_i (by omega)]; exact h9, show (1 : Int32) = nI 1 from rfl, nI_add]
        obtain ⟨m', e1, e2, e2', e3, e4⟩ := ih (j + 1) m (st2 (st2 mem 57 11 (nI w)) 57 9 (nI (p + j + 1))) w (hT.fr ((F7.st (by omega)).trans (F7.st (by omega)))) st2_s (by rw [st2_i (by omega), st2_s]) hw (fun h3 => by
          have := hv (by omega)
          have := vl_3 (T := T) (n := n) (p := p) (k := j) (by omega) (by omega)
          omega) (by omega) (by omega) (by omega)
        refine ⟨m', e1, ((F7.st (by omega)).trans (F7.st (by omega))).trans e2, by rw [e2', st2_k (by omega), st2_k (by omega)], fun z => ?_, e4⟩
        obtain ⟨z1, z2, z3⟩ := e3 z
        exact ⟨z1, z2, by rw [z3, st2_i (by omega), st2_i (by omega)]⟩
      · have hhr : hrI T n (p + j) = nI (T (p + j)) := if_pos hf.1
        have hnew : (10 : Int32) * nI w + nI (T (p + j)) - 48 = nI (10 * w + (T (p + j) - 48)) := by
          rw [show (10 : Int32) = nI 10 from rfl, pk_mul, nI_add, show (48 : Int32) = nI 48 from rfl, pk_sub (by omega)]
          congr 1
          omega
        rw [if_neg (fun z => hcap (hz.mp z)), m_here hT h9 (by omega), cll_s, hhr, hnew]
        obtain ⟨w', hw'⟩ : ∃ w', w' = 10 * w + (T (p + j) - 48) := ⟨_, rfl⟩
        rw [← hw', show st2 mem 57 11 (nI w') 57 9 = nI (p + j) by rw [st2_i (by omega)]; exact h9, show (1 : Int32) = nI 1 from rfl, nI_add]
        obtain ⟨m', e1, e2, e2', e3, e4⟩ := ih (j + 1) m (st2 (st2 mem 57 11 (nI w')) 57 9 (nI (p + j + 1))) w' (hT.fr ((F7.st (by omega)).trans (F7.st (by omega)))) st2_s (by rw [st2_i (by omega), st2_s]) (by omega) (fun h3 => by
          have := hv (by omega)
          rw [vl, ← this]
          exact hw') (by omega) (by omega) (by omega)
        refine ⟨m', e1, ((F7.st (by omega)).trans (F7.st (by omega))).trans e2, by rw [e2', st2_k (by omega), st2_k (by omega)], fun z => ?_, e4⟩
        obtain ⟨z1, z2, z3⟩ := e3 z
        exact ⟨z1, z2, by rw [z3, st2_i (by omega), st2_i (by omega)]⟩
    · have hjr : j = rn T n p := by
        rcases Nat.lt_or_ge j (rn T n p) with e | e
        · exact absurd (rn_in e) hf
        · omega
      have hbad : ∀ (c : Nat), c ≠ 0 → numC T n p lo hi = c → (st2 (st2 mem 57 8 (nI c)) 57 10 (nI p)) = (st2 (st2 mem 57 8 (nI c)) 57 10 (nI p)) ∧ F7 mem (st2 (st2 mem 57 8 (nI c)) 57 10 (nI p)) ∧ (st2 (st2 mem 57 8 (nI c)) 57 10 (nI p)) 64 = mem 64 ∧ (numC T n p lo hi = 0 → (st2 (st2 mem 57 8 (nI c)) 57 10 (nI p)) 57 9 = nI (p + rn T n p) ∧ (st2 (st2 mem 57 8 (nI c)) 57 10 (nI p)) 57 11 = nI (vl T p (rn T n p)) ∧ (st2 (st2 mem 57 8 (nI c)) 57 10 (nI p)) 57 8 = mem 57 8) ∧ (numC T n p lo hi ≠ 0 → (st2 (st2 mem 57 8 (nI c)) 57 10 (nI p)) 57 8 = nI (numC T n p lo hi) ∧ (st2 (st2 mem 57 8 (nI c)) 57 10 (nI p)) 57 10 = nI p) := by
        intro c hc hC
        refine ⟨rfl, F7.fails, by rw [st2_k (by omega), st2_k (by omega)], fun z => absurd (hC.symm.trans z) hc, fun _ => ⟨by rw [fails_8, hC], st2_s⟩⟩
      rw [b2_f hf, if_pos (show nI 0 = (0 : Int32) from rfl), h9]
      unfold X7_takeNumber_b94 X7_takeNumber_b125
      by_cases e0 : j = 0
      · have hC : numC T n p lo hi = 1 := by unfold numC; rw [if_pos (by omega)]
        obtain ⟨_, b1, b2', b3, b4⟩ := hbad 1 (by omega) hC
        refine ⟨_, ?_, b1, b2', b3, b4⟩
        rw [if_pos (show nI (p + j) = nI p by rw [e0]; rfl), m_fails, cll_s, chk_t (show nI 0 &&& 1 = nI 0 from by decide), hC, if_neg (by decide)]
        rfl
      · rw [if_neg (nI_neN (by omega) (by omega) (show p + j ≠ p by omega)), pk_sub (show p ≤ p + j by omega), show p + j - p = j by omega]
        have hz3 : ((3 : Int32) < nI j) = (3 < j) := by rw [show (3 : Int32) = nI 3 from rfl, nI_ltI (by omega) (by omega)]
        by_cases e3 : 3 < j
        · have hC : numC T n p lo hi = 1 := by unfold numC; rw [if_pos (by omega)]
          obtain ⟨_, b1, b2', b3, b4⟩ := hbad 1 (by omega) hC
          refine ⟨_, ?_, b1, b2', b3, b4⟩
          rw [if_pos (hz3.mpr e3), m_fails, cll_s, chk_t (show nI 0 &&& 1 = nI 0 from by decide), hC, if_neg (by decide)]
          rfl
        · have hwv := hv (by omega)
          rw [if_neg (fun z => e3 (hz3.mp z)), h11, m_in, cll_s]
          have hin : ((nI lo).toInt64.toInt ≤ (nI w).toInt64.toInt ∧ (nI w).toInt64.toInt ≤ (nI hi).toInt64.toInt) = (lo ≤ w ∧ w ≤ hi) := by
            rw [i64i, i64i, i64i, nI_toInt (by omega), nI_toInt (by omega), nI_toInt (by omega)]
            apply propext
            omega
          by_cases e4 : lo ≤ w ∧ w ≤ hi
          · have hC : numC T n p lo hi = 0 := by unfold numC; rw [← hjr, ← hwv, if_neg (by omega), if_pos e4]
            refine ⟨mem, ?_, F7.refl, rfl, fun _ => ⟨by rw [h9, hjr], by rw [h11, hwv, hjr], rfl⟩, fun z => absurd hC z⟩
            rw [b2_t (hin.mpr e4), if_neg (show ¬ nI 1 = (0 : Int32) from nI01), chk_t (show (1 : Int32) &&& 1 = 1 from by decide), hC, if_pos rfl]
            rfl
          · have hC : numC T n p lo hi = 2 := by unfold numC; rw [← hjr, ← hwv, if_neg (by omega), if_neg e4]
            obtain ⟨_, b1, b2', b3, b4⟩ := hbad 2 (by omega) hC
            refine ⟨_, ?_, b1, b2', b3, b4⟩
            rw [b2_f (fun z => e4 (hin.mp z)), if_pos (show nI 0 = (0 : Int32) from rfl), m_fails, cll_s, if_pos (show nI 0 = (0 : Int32) from rfl), chk_t (show (0 : Int32) &&& 1 = 0 from by decide), hC, if_neg (by decide)]
            rfl
theorem m_num {mem : Mem} {p lo hi : Nat} (hT : MTp mem T n) (h9 : mem 57 9 = nI p) (hp : p ≤ n) (hlo : lo < 100000) (hhi : hi < 100000) : ∃ m', X7_takeNumber 57 (nI lo) (nI hi) mem = some (nI (if numC T n p lo hi = 0 then 1 else 0), m') ∧ F7 mem m' ∧ m' 64 = mem 64 ∧ (numC T n p lo hi = 0 → m' 57 9 = nI (p + rn T n p) ∧ m' 57 11 = nI (vl T p (rn T n p)) ∧ m' 57 8 = mem 57 8) ∧ (numC T n p lo hi ≠ 0 → m' 57 8 = nI (numC T n p lo hi) ∧ m' 57 10 = nI p) := by
  have hrl := rn_le (T := T) hp
  have hn := hT.1
  obtain ⟨m', e1, e2, e2', e3, e4⟩ := m_num_l (T := T) hp hlo hhi 200 0 fu (st2 mem 57 11 (nI 0)) 0 (hT.fr (F7.st (by omega))) (by rw [st2_i (by omega)]; exact h9) st2_s (by omega) (fun _ => rfl) (by omega) (by omega) (fu_ge (by omega))
  refine ⟨m', ?_, (F7.st (by omega)).trans e2, by rw [e2', st2_k (by omega)], fun z => ?_, e4⟩
  · unfold X7_takeNumber
    rw [h9]
    exact e1
  · obtain ⟨z1, z2, z3⟩ := e3 z
    exact ⟨z1, z2, by rw [z3, st2_i (by omega)]⟩
theorem m_into_ok {mem : Mem} {p lo hi p' v c : Nat} (hc : c < 63) (hT : MTp mem T n) (h9 : mem 57 9 = nI p) (hp : p ≤ n) (hlo : lo < 100000) (hhi : hi < 100000) (h : numP T n p lo hi = .ok (p', v)) : ∃ m', X7_into 57 (nI c) (nI lo) (nI hi) mem = some (nI 1, m') ∧ F7 mem m' ∧ m' 57 9 = nI p' ∧ m' 57 8 = mem 57 8 ∧ m' 64 c = nI v ∧ ∀ j, j ≠ c → m' 64 j = mem 64 j := by
  obtain ⟨h3, h4, h5⟩ := numP_ok h
  obtain ⟨m', q1, q2, q2', q3, _⟩ := m_num hT h9 hp hlo hhi
  obtain ⟨z1, z2, z3⟩ := q3 h3
  rw [if_pos h3] at q1
  refine ⟨st2 m' 64 c (m' 57 11), ?_, q2.trans F7.st64, by rw [st2_k (by omega), z1, h4], by rw [st2_k (by omega), z3], by rw [st2_s, z2, h5], fun j hj => by rw [st2_i hj, q2']⟩
  unfold X7_into
  rw [q1, cll_s, show rf 57 12 = 64 from rfl, ast_n (by simp only [lns]; omega) (by decide), chk_t (show nI 1 &&& 1 = nI 1 from by decide)]
theorem m_into_bad {mem : Mem} {p lo hi c : Nat} {e : Nat × Nat} (hc : c < 63) (hT : MTp mem T n) (h9 : mem 57 9 = nI p) (hp : p ≤ n) (hlo : lo < 100000) (hhi : hi < 100000) (h : numP T n p lo hi = .error e) : ∃ m', X7_into 57 (nI c) (nI lo) (nI hi) mem = some (nI 0, m') ∧ F7 mem m' ∧ m' 57 8 = nI e.1 ∧ m' 57 10 = nI e.2 := by
  obtain ⟨h3, h4⟩ := numP_bad h
  obtain ⟨m', q1, q2, q2', _, q3⟩ := m_num hT h9 hp hlo hhi
  obtain ⟨z1, z2⟩ := q3 h3
  rw [if_neg h3] at q1
  have h5 : e.1 = numC T n p lo hi := by rw [h4]
  have h6 : e.2 = p := by rw [h4]
  refine ⟨st2 m' 64 c (m' 57 11), ?_, q2.trans F7.st64, by rw [st2_k (by omega), z1, h5], by rw [st2_k (by omega), z2, h6]⟩
  unfold X7_into
  rw [q1, cll_s, show rf 57 12 = 64 from rfl, ast_n (by simp only [lns]; omega) (by decide), chk_t (show nI 0 &&& 1 = nI 0 from by decide)]
end OF2
