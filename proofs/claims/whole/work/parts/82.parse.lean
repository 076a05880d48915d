/-! ===== PURE: office, numbers and signs on the tape ===== -/
def fgB (b : Nat) : Bool := decide (48 ≤ b ∧ b ≤ 57)
def dgB (T : Nat → Nat) (n p j : Nat) : Bool := decide (p + j < n) && fgB (T (p + j))
def rnF (T : Nat → Nat) (n p : Nat) : Nat → Nat
  | 0 => 0
  | k + 1 => if rnF T n p k = k ∧ dgB T n p k = true then k + 1 else rnF T n p k
theorem rnF_le (T : Nat → Nat) (n p : Nat) : ∀ k, rnF T n p k ≤ k
  | 0 => Nat.le_refl _
  | k + 1 => by
    have := rnF_le T n p k
    rw [rnF]
    split <;> omega
theorem rnF_in (T : Nat → Nat) (n p : Nat) : ∀ k j, j < rnF T n p k → dgB T n p j = true
  | 0, j, h => by rw [rnF] at h; omega
  | k + 1, j, h => by
    rw [rnF] at h
    by_cases e : rnF T n p k = k ∧ dgB T n p k = true
    · rw [if_pos e] at h
      by_cases ej : j = k
      · rw [ej]; exact e.2
      · exact rnF_in T n p k j (by omega)
    · rw [if_neg e] at h
      exact rnF_in T n p k j h
theorem rnF_end (T : Nat → Nat) (n p : Nat) : ∀ k, rnF T n p k < k → dgB T n p (rnF T n p k) = false
  | 0, h => by omega
  | k + 1, h => by
    rw [rnF] at h ⊢
    by_cases e : rnF T n p k = k ∧ dgB T n p k = true
    · rw [if_pos e] at h; omega
    · rw [if_neg e] at h ⊢
      have h1 := rnF_le T n p k
      by_cases e2 : rnF T n p k = k
      · cases h3 : dgB T n p k
        · rw [e2]; exact h3
        · exact absurd ⟨e2, h3⟩ e
      · exact rnF_end T n p k (by omega)
def rn (T : Nat → Nat) (n p : Nat) : Nat := rnF T n p (n - p + 1)
theorem rn_in {T : Nat → Nat} {n p j : Nat} (h : j < rn T n p) : p + j < n ∧ 48 ≤ T (p + j) ∧ T (p + j) ≤ 57 := by
  have := rnF_in T n p (n - p + 1) j h
  unfold dgB fgB at this
  rw [Bool.and_eq_true, decide_eq_true_iff, decide_eq_true_iff] at this
  exact this
theorem rn_le {T : Nat → Nat} {n p : Nat} (hp : p ≤ n) : p + rn T n p ≤ n := by
  rcases Nat.eq_zero_or_pos (rn T n p) with h | h
  · omega
  · have := (rn_in (T := T) (n := n) (p := p) (j := rn T n p - 1) (by omega)).1
    omega
theorem rn_end {T : Nat → Nat} {n p : Nat} (hn : n ≤ 120) (hp : p ≤ n) : ¬ (p + rn T n p < n ∧ 48 ≤ T (p + rn T n p) ∧ T (p + rn T n p) ≤ 57) := by
  have h1 := rn_le (T := T) hp
  have := rnF_end T n p (n - p + 1) (show rn T n p < n - p + 1 by omega)
  unfold dgB fgB at this
  intro z
  rw [show rnF T n p (n - p + 1) = rn T n p from rfl, decide_eq_true z.1, decide_eq_true z.2] at this
  cases this
def vl (T : Nat → Nat) (p : Nat) : Nat → Nat
  | 0 => 0
  | k + 1 => 10 * vl T p k + (T (p + k) - 48)
theorem vl_lt {T : Nat → Nat} {n p : Nat} : ∀ k, k ≤ rn T n p → vl T p k < 10 ^ k
  | 0, _ => by show 0 < 1; omega
  | k + 1, h => by
    have h1 := vl_lt (T := T) (n := n) (p := p) k (by omega)
    have h2 := rn_in (T := T) (n := n) (p := p) (j := k) (by omega)
    rw [vl, Nat.pow_succ]
    omega
theorem vl_3 {T : Nat → Nat} {n p k : Nat} (h : k ≤ rn T n p) (h3 : k ≤ 3) : vl T p k ≤ 999 := by
  have h1 := vl_lt k h
  have h2 : 10 ^ k ≤ 10 ^ 3 := Nat.pow_le_pow_right (by decide) h3
  omega
def numC (T : Nat → Nat) (n p lo hi : Nat) : Nat := if rn T n p = 0 ∨ 3 < rn T n p then 1 else if lo ≤ vl T p (rn T n p) ∧ vl T p (rn T n p) ≤ hi then 0 else 2
def numP (T : Nat → Nat) (n p lo hi : Nat) : Except (Nat × Nat) (Nat × Nat) := if numC T n p lo hi = 0 then .ok (p + rn T n p, vl T p (rn T n p)) else .error (numC T n p lo hi, p)
def sgP (T : Nat → Nat) (n p s : Nat) : Except (Nat × Nat) Nat := if p < n ∧ T p = s then .ok (p + 1) else .error (1, p)
theorem numC_le (T : Nat → Nat) (n p lo hi : Nat) : numC T n p lo hi ≤ 2 := by
  unfold numC
  split
  · omega
  · split <;> omega
theorem numP_ok {T : Nat → Nat} {n p lo hi p' v : Nat} (h : numP T n p lo hi = .ok (p', v)) : numC T n p lo hi = 0 ∧ p' = p + rn T n p ∧ v = vl T p (rn T n p) := by
  unfold numP at h
  by_cases e : numC T n p lo hi = 0
  · rw [if_pos e] at h
    injection h with h
    injection h with h1 h2
    exact ⟨e, h1.symm, h2.symm⟩
  · rw [if_neg e] at h
    cases h
theorem numP_bad {T : Nat → Nat} {n p lo hi : Nat} {e : Nat × Nat} (h : numP T n p lo hi = .error e) : numC T n p lo hi ≠ 0 ∧ e = (numC T n p lo hi, p) := by
  unfold numP at h
  by_cases c : numC T n p lo hi = 0
  · rw [if_pos c] at h
    cases h
  · rw [if_neg c] at h
    injection h with h
    exact ⟨c, h.symm⟩
theorem numC_0 {T : Nat → Nat} {n p lo hi : Nat} (h : numC T n p lo hi = 0) : 1 ≤ rn T n p ∧ rn T n p ≤ 3 ∧ lo ≤ vl T p (rn T n p) ∧ vl T p (rn T n p) ≤ hi := by
  unfold numC at h
  by_cases e : rn T n p = 0 ∨ 3 < rn T n p
  · rw [if_pos e] at h; omega
  · rw [if_neg e] at h
    by_cases e2 : lo ≤ vl T p (rn T n p) ∧ vl T p (rn T n p) ≤ hi
    · exact ⟨by omega, by omega, e2⟩
    · rw [if_neg e2] at h; omega
theorem numP_in {T : Nat → Nat} {n p lo hi p' v : Nat} (h : numP T n p lo hi = .ok (p', v)) (hp : p ≤ n) : p < p' ∧ p' ≤ n ∧ lo ≤ v ∧ v ≤ hi := by
  obtain ⟨h1, h2, h3⟩ := numP_ok h
  have := numC_0 h1
  have := rn_le (T := T) hp
  rw [h2, h3]
  omega
theorem sgP_ok {T : Nat → Nat} {n p s p' : Nat} (h : sgP T n p s = .ok p') : (p < n ∧ T p = s) ∧ p' = p + 1 := by
  unfold sgP at h
  by_cases e : p < n ∧ T p = s
  · rw [if_pos e] at h
    injection h with h
    exact ⟨e, h.symm⟩
  · rw [if_neg e] at h
    cases h
theorem sgP_bad {T : Nat → Nat} {n p s : Nat} {e : Nat × Nat} (h : sgP T n p s = .error e) : ¬ (p < n ∧ T p = s) ∧ e = (1, p) := by
  unfold sgP at h
  by_cases c : p < n ∧ T p = s
  · rw [if_pos c] at h
    cases h
  · rw [if_neg c] at h
    injection h with h
    exact ⟨c, h.symm⟩
/-- the tape as the class holds it -/
def CTp (mem : Mem) (T : Nat → Nat) (n : Nat) : Prop := n ≤ 120 ∧ (∀ i, i < n → T i < 256) ∧ mem 5 1 = nI n ∧ ∀ i, i < n → mem 6 i = nI (T i)
def F5 (mem m' : Mem) : Prop := (∀ q, q ≠ 5 → m' q = mem q) ∧ ∀ j, j ≠ 2 → j ≠ 3 → m' 5 j = mem 5 j
theorem F5.refl {mem : Mem} : F5 mem mem := ⟨fun _ _ => rfl, fun _ _ _ => rfl⟩
theorem F5.trans {a b c : Mem} (h1 : F5 a b) (h2 : F5 b c) : F5 a c := ⟨fun q hq => by rw [h2.1 q hq, h1.1 q hq], fun j z1 z2 => by rw [h2.2 j z1 z2, h1.2 j z1 z2]⟩
theorem F5.st {mem : Mem} {j : Nat} {v : Int32} (h : j = 2 ∨ j = 3) : F5 mem (st2 mem 5 j v) := ⟨fun q hq => st2_k hq, fun i z1 z2 => st2_i (by omega)⟩
theorem CTp.fr {mem m' : Mem} {T : Nat → Nat} {n : Nat} (h : CTp mem T n) (hf : F5 mem m') : CTp m' T n := ⟨h.1, h.2.1, by rw [hf.2 1 (by omega) (by omega)]; exact h.2.2.1, fun i hi => by rw [hf.1 6 (by omega)]; exact h.2.2.2 i hi⟩
section OF1
variable {T : Nat → Nat} {n : Nat}
theorem c_sign {mem : Mem} {p s : Nat} (hT : CTp mem T n) (h2 : mem 5 2 = nI p) (hp : p ≤ n) (hs : s < 256) : X5_takeSign 5 (nI s) mem = some (if p < n ∧ T p = s then nI 0 else nI 1, if p < n ∧ T p = s then st2 mem 5 2 (nI (p + 1)) else mem) := by
  obtain ⟨hn, hb, h1, h6⟩ := hT
  unfold X5_takeSign
  rw [h2, h1]
  have hz : (nI p < nI n) = (p < n) := by rw [nI_ltI (by omega) (by omega)]
  by_cases hlt : p < n
  · have := hb p hlt
    rw [if_pos (hz.mpr hlt), show rf 5 0 = 6 from rfl, ald_n (by simp only [lns]; omega) (by decide), h6 p hlt]
    by_cases e : T p = s
    · rw [if_pos (show nI (T p) = nI s by rw [e]), if_pos ⟨hlt, e⟩, if_pos ⟨hlt, e⟩, show (1 : Int32) = nI 1 from rfl, nI_add]
      rfl
    · rw [if_neg (nI_neN (by omega) (by omega) e), if_neg (fun z => e z.2), if_neg (fun z => e z.2)]
      rfl
  · rw [if_neg (fun z => hlt (hz.mp z)), if_neg (fun z => hlt z.1), if_neg (fun z => hlt z.1)]
    rfl
theorem c_sg_ok {mem : Mem} {p s p' : Nat} (hT : CTp mem T n) (h2 : mem 5 2 = nI p) (hp : p ≤ n) (hs : s < 256) (h : sgP T n p s = .ok p') : X5_takeSign 5 (nI s) mem = some (nI 0, st2 mem 5 2 (nI p')) := by
  obtain ⟨h3, h4⟩ := sgP_ok h
  rw [c_sign hT h2 hp hs, if_pos h3, if_pos h3, h4]
theorem c_sg_bad {mem : Mem} {p s : Nat} {e : Nat × Nat} (hT : CTp mem T n) (h2 : mem 5 2 = nI p) (hp : p ≤ n) (hs : s < 256) (h : sgP T n p s = .error e) : X5_takeSign 5 (nI s) mem = some (nI e.1, mem) ∧ e.2 = p ∧ e.1 = 1 := by
  obtain ⟨h3, h4⟩ := sgP_bad h
  rw [c_sign hT h2 hp hs, if_neg h3, if_neg h3, h4]
  exact ⟨rfl, rfl, rfl⟩
theorem c_figure (mem : Mem) {b : Nat} (hb : b < 256) : X5_isFigure (nI b) mem = some (b2 (48 ≤ b ∧ b ≤ 57), mem) := by
  unfold X5_isFigure
  simp (disch := omega) only [L32, nI_ltI, chk_0, chk_1]
  by_cases h1 : b < 48
  · rw [if_pos h1, b2_f (by omega)]
  · rw [if_neg h1]
    by_cases h2 : 57 < b
    · rw [if_pos h2, b2_f (by omega)]
    · rw [if_neg h2, b2_t (by omega)]
theorem c_num_l {p lo hi : Nat} (hp : p ≤ n) (hlo : lo < 100000) (hhi : hi < 100000) : ∀ (k j m : Nat) (mem : Mem), CTp mem T n → mem 5 2 = nI p → mem 5 3 = nI (vl T p j) → j ≤ rn T n p → j ≤ 4 → 4 - j < k → k ≤ m → ∃ m', X5_takeNumber_b13 5 m (nI lo) (nI hi) (nI j) (nI (p + j)) mem = some (nI (numC T n p lo hi), m') ∧ F5 mem m' ∧ m' 5 2 = nI (if numC T n p lo hi = 0 then p + rn T n p else p) ∧ (numC T n p lo hi = 0 → m' 5 3 = nI (vl T p (rn T n p))) := by
  intro k
  induction k with
  | zero => intro j m mem _ _ _ h1 h2 h3; omega
  | succ k ih =>
    intro j m mem hT h2 h3 hj hj4 hk hm
    obtain ⟨m, rfl, hm2⟩ := succ_of hm
    obtain ⟨hn, hb, h1, h6⟩ := id hT
    have hrl := rn_le (T := T) hp
    have hend : ∀ c', (c' = rn T n p ∧ c' ≤ 3 ∨ c' = 4 ∧ 3 < rn T n p) → mem 5 3 = nI (vl T p c') → ∃ m', X5_takeNumber_b71 5 (nI lo) (nI hi) (nI c') mem = some (nI (numC T n p lo hi), m') ∧ F5 mem m' ∧ m' 5 2 = nI (if numC T n p lo hi = 0 then p + rn T n p else p) ∧ (numC T n p lo hi = 0 → m' 5 3 = nI (vl T p (rn T n p))) := by
      intro c' hc h3'
      unfold X5_takeNumber_b71
      by_cases e0 : c' = 0
      · have hC : numC T n p lo hi = 1 := by unfold numC; rw [if_pos (by omega)]
        rw [if_pos (show nI c' = (0 : Int32) by rw [e0]; rfl), hC, if_neg (by decide)]
        exact ⟨mem, rfl, F5.refl, h2, fun z => by omega⟩
      · rw [if_neg (show ¬ nI c' = (0 : Int32) from nI_neN (b := 0) (by omega) (by omega) e0)]
        have hz3 : ((3 : Int32) < nI c') = (3 < c') := by rw [show (3 : Int32) = nI 3 from rfl, nI_ltI (by omega) (by omega)]
        by_cases e3 : 3 < c'
        · have hC : numC T n p lo hi = 1 := by unfold numC; rw [if_pos (by omega)]
          rw [if_pos (hz3.mpr e3), hC, if_neg (by decide)]
          exact ⟨mem, rfl, F5.refl, h2, fun z => by omega⟩
        · have hcr : c' = rn T n p := by omega
          have hv : vl T p c' ≤ 999 := vl_3 (n := n) (by omega) (by omega)
          have hz4 : (nI (vl T p c') < nI lo) = (vl T p c' < lo) := propext (nI_ltI (a := vl T p c') (b := lo) (by omega) (by omega))
          have hz5 : (nI hi < nI (vl T p c')) = (hi < vl T p c') := propext (nI_ltI (a := hi) (b := vl T p c') (by omega) (by omega))
          rw [if_neg (fun z => e3 (hz3.mp z)), h3']
          by_cases e4 : vl T p c' < lo
          · have hC : numC T n p lo hi = 2 := by unfold numC; rw [← hcr, if_neg (by omega), if_neg (by omega)]
            rw [if_pos (hz4.mpr e4), hC, if_neg (by decide)]
            exact ⟨mem, rfl, F5.refl, h2, fun z => by omega⟩
          · rw [if_neg (fun z => e4 (hz4.mp z))]
            by_cases e5 : hi < vl T p c'
            · have hC : numC T n p lo hi = 2 := by unfold numC; rw [← hcr, if_neg (by omega), if_neg (by omega)]
              rw [if_pos (hz5.mpr e5), hC, if_neg (by decide)]
              exact ⟨mem, rfl, F5.refl, h2, fun z => by omega⟩
            · have hC : numC T n p lo hi = 0 := by unfold numC; rw [← hcr, if_neg (by omega), if_pos (by omega)]
              rw [if_neg (fun z => e5 (hz5.mp z)), hC, if_pos rfl, h2, nI_add, ← hcr]
              exact ⟨_, rfl, F5.st (by omega), st2_s, fun _ => by rw [st2_i (by omega)]; exact h3'⟩
    rw [X5_takeNumber_b13]
    dsimp only
    rw [h1]
    have hz : (nI (p + j) < nI n) = (p + j < n) := by rw [nI_ltI (by omega) (by omega)]
    by_cases hlt : p + j < n
    · have hbj := hb (p + j) hlt
      rw [if_pos (hz.mpr hlt), show rf 5 0 = 6 from rfl, ald_n (by simp only [lns]; omega) (by decide), h6 _ hlt, c_figure mem hbj, cll_s]
      by_cases hf : 48 ≤ T (p + j) ∧ T (p + j) ≤ 57
      · have hjr : j < rn T n p := by
          rcases Nat.lt_or_ge j (rn T n p) with e | e
          · exact e
          · have : j = rn T n p := by omega
            rw [this] at hlt hf
            exact absurd ⟨hlt, hf⟩ (rn_end hn hp)
        have hz3 : ((3 : Int32) < nI j) = (3 < j) := by rw [show (3 : Int32) = nI 3 from rfl, nI_ltI (by omega) (by omega)]
        rw [b2_t hf, if_neg (show ¬ nI 1 = (0 : Int32) from nI01)]
        by_cases e3 : 3 < j
        · rw [if_pos (hz3.mpr e3)]
          exact hend j (by omega) h3
        · have hnew : nI (vl T p j) * 10 + nI (T (p + j)) - 48 = nI (vl T p (j + 1)) := by
            rw [show (10 : Int32) = nI 10 from rfl, pk_mul, nI_add, show (48 : Int32) = nI 48 from rfl, pk_sub (by omega), vl]
            congr 1
            omega
          rw [if_neg (fun z => e3 (hz3.mp z)), ald_n (by simp only [lns]; omega) (by decide), h6 _ hlt, h3, hnew, show (1 : Int32) = nI 1 from rfl, nI_add, nI_add]
          obtain ⟨m', e1, e2, e3', e4⟩ := ih (j + 1) m (st2 mem 5 3 (nI (vl T p (j + 1)))) (hT.fr (F5.st (by omega))) (by rw [st2_i (by omega)]; exact h2) st2_s (by omega) (by omega) (by omega) (by omega)
          exact ⟨m', e1, (F5.st (by omega)).trans e2, e3', e4⟩
      · have hjr : j = rn T n p := by
          rcases Nat.lt_or_ge j (rn T n p) with e | e
          · exact absurd (rn_in e).2 hf
          · omega
        rw [b2_f hf, if_pos (show nI 0 = (0 : Int32) from rfl)]
        exact hend j (by omega) h3
    · have hjr : j = rn T n p := by
        rcases Nat.lt_or_ge j (rn T n p) with e | e
        · exact absurd (rn_in e).1 hlt
        · omega
      rw [if_neg (fun z => hlt (hz.mp z))]
      exact hend j (by omega) h3
theorem c_num {mem : Mem} {p lo hi : Nat} (hT : CTp mem T n) (h2 : mem 5 2 = nI p) (hp : p ≤ n) (hlo : lo < 100000) (hhi : hi < 100000) : ∃ m', X5_takeNumber 5 (nI lo) (nI hi) mem = some (nI (numC T n p lo hi), m') ∧ F5 mem m' ∧ m' 5 2 = nI (if numC T n p lo hi = 0 then p + rn T n p else p) ∧ (numC T n p lo hi = 0 → m' 5 3 = nI (vl T p (rn T n p))) := by
  have hn := hT.1
  have e2 : st2 mem 5 3 (nI 0) 5 2 = nI p := by rw [st2_i (by omega)]; exact h2
  obtain ⟨m', q1, q2, q3, q4⟩ := c_num_l (T := T) hp hlo hhi 5 0 fu (st2 mem 5 3 (nI 0)) (hT.fr (F5.st (by omega))) e2 st2_s (by omega) (by omega) (by omega) (fu_ge (by omega))
  refine ⟨m', ?_, (F5.st (by omega)).trans q2, q3, q4⟩
  unfold X5_takeNumber
  rw [show (0 : Int32) = nI 0 from rfl, e2]
  rw [Nat.add_zero p] at q1
  exact q1
theorem c_num_ok {mem : Mem} {p lo hi p' v : Nat} (hT : CTp mem T n) (h2 : mem 5 2 = nI p) (hp : p ≤ n) (hlo : lo < 100000) (hhi : hi < 100000) (h : numP T n p lo hi = .ok (p', v)) : ∃ m', X5_takeNumber 5 (nI lo) (nI hi) mem = some (nI 0, m') ∧ F5 mem m' ∧ m' 5 2 = nI p' ∧ m' 5 3 = nI v := by
  obtain ⟨h3, h4, h5⟩ := numP_ok h
  obtain ⟨m', q1, q2, q3, q4⟩ := c_num hT h2 hp hlo hhi
  rw [h3] at q1
  rw [if_pos h3] at q3
  exact ⟨m', q1, q2, by rw [h4]; exact q3, by rw [h5]; exact q4 h3⟩
theorem c_num_bad {mem : Mem} {p lo hi : Nat} {e : Nat × Nat} (hT : CTp mem T n) (h2 : mem 5 2 = nI p) (hp : p ≤ n) (hlo : lo < 100000) (hhi : hi < 100000) (h : numP T n p lo hi = .error e) : ∃ m', X5_takeNumber 5 (nI lo) (nI hi) mem = some (nI e.1, m') ∧ F5 mem m' ∧ m' 5 2 = nI e.2 ∧ 1 ≤ e.1 ∧ e.1 ≤ 3 := by
  obtain ⟨h3, h4⟩ := numP_bad h
  obtain ⟨m', q1, q2, q3, q4⟩ := c_num hT h2 hp hlo hhi
  rw [if_neg h3] at q3
  have := numC_le T n p lo hi
  have h5 : e.1 = numC T n p lo hi := by rw [h4]
  have h6 : e.2 = p := by rw [h4]
  exact ⟨m', by rw [h5]; exact q1, q2, by rw [h6]; exact q3, by omega, by omega⟩
end OF1
