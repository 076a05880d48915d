/-! ===== PURE: allRead, whole ===== -/
def arV (g : Nat → Nat) (o : Option Nat) (a : Option Nat) : Int32 := match o with
  | none => -nI 1000000
  | some c => match a with
    | none => nI (totC g)
    | some l => if unB g l = true then nI (dC g c l) else -nI 1000000
def arX : Option Nat → Int32
  | none => -nI 1
  | some l => nI l
theorem fir_lt {p : Nat → Bool} : ∀ n d, firB p n = some d → d < n
  | 0, d, h => by cases h
  | n + 1, d, h => by
    rw [firB] at h
    cases hq : firB p n with
    | some e =>
      rw [hq] at h
      have := fir_lt n e hq
      injection h with h
      omega
    | none =>
      rw [hq] at h
      have h' : (if p n = true then some n else none) = some d := h
      by_cases hk : p n = true
      · rw [if_pos hk] at h'
        injection h' with h'
        omega
      · rw [if_neg hk] at h'
        cases h'
section AR5
variable {mem : Mem} {g : Nat → Nat} {t : Nat}
theorem m1_ne' {l : Nat} (h : l < 2 ^ 31) : ¬ nI l = (-1 : Int32) := m1_ne l h
theorem tot_S (g : Nat → Nat) : sumP (hasB (unS g)) (fun l => fcN (g (5 + l)) (g (11 + l))) (g 2) = totC g := by
  unfold totC
  exact sumP_congr _ (fun l hl => sett_bit _ _ _ hl) (fun _ _ _ => rfl)
theorem c_allRead (hC : CO mem 7 g) (hO : OkG t g) (ht : t ≤ 600) {a : Option Nat} (ha : ∀ l, a = some l → l < g 2) : ∃ m', X6_allRead_b32 0 (arX a) mem = some (arV g (firB (okC g) (wC g 0)) a, m') ∧ ∀ q, q ≠ 52 → q ≠ 53 → m' q = mem q := by
  have h2 := hO.1
  obtain ⟨m1, p1, p2, p3⟩ := fill_r (k := 52) (N := 4) rfl (by omega) (nI 0) mem
  obtain ⟨m2, q1, q2, q3⟩ := fill_r (k := 53) (N := 6) rfl (by omega) (-nI 1000000) m1
  have k2 : ∀ q, q ≠ 52 → q ≠ 53 → m2 q = mem q := fun q z1 z2 => by rw [q2 q z2, p2 q z1]
  have hC2 : CO m2 7 g := hC.fr fun q _ _ => k2 q (by omega) (by omega)
  have hpre : PRE g 0 0 m2 := by
    rw [show (PRE g 0 0 m2) = (f1C g (0 * wC g 0) 0 = true ∧ (∀ r, r < g 3 → fitB g r = true → g (31 + r) + ldC g (0 * wC g 0) r 0 < g (27 + r)) ∧ ∀ r, r < g 3 → m2 52 r = nI (ldC g (0 * wC g 0) r 0)) from rfl]
    refine ⟨rfl, fun r hr hf => ?_, fun r hr => ?_⟩
    · show g (31 + r) + 0 < g (27 + r)
      unfold fitB at hf
      rw [decide_eq_true_iff] at hf
      omega
    · show m2 52 r = nI 0
      rw [q2 52 (by omega), p3 r (by omega)]
  have hh := hand_l hO ht (g 2 + 1) 0 12 0 m2 hC2 hpre (by omega) (by omega) (by omega)
  unfold X6_allRead_b32 X2_handsOutAll
  rw [show rf 0 7 = 51 from rfl, show rf 0 2 = 7 from rfl, show rf 51 0 = 52 from rfl, show rf 51 1 = 53 from rfl, show (0 : Int32) = nI 0 from rfl, p1, cll_s, show (-1000000 : Int32) = -nI 1000000 from rfl, q1, cll_s]
  rw [Nat.zero_mul] at hh
  rcases hh with ⟨m', c, e1, e2, e3, e4, e5, e6, e7⟩ | ⟨m', e1, e2, e3, e4⟩
  · have hfc : firB (okC g) (wC g 0) = some c := fir_some e4 (fun i hi => e5 i (by omega) hi) _ (by omega)
    rw [e1, cll_s, chk_t (show nI 1 &&& 1 = nI 1 from by decide), cll_s, if_neg nI01, hfc]
    have hC' : CO m' 7 g := hC2.fr fun q _ _ => e6 q (by omega) (by omega)
    refine ⟨m', ?_, fun q z1 z2 => by rw [e6 q z1 z2, k2 q z1 z2]⟩
    cases a with
    | none =>
      rw [if_pos (show arX none = (-1 : Int32) from rfl), c_unread hC' hO ht, cll_s, c_firstCostOf hC' hO (unS_lt hO), cll_s, tot_S]
      rfl
    | some l =>
      have hl := ha l rfl
      rw [show arX (some l) = nI l from rfl, if_neg (m1_ne' (by omega)), ald_n (by simp only [lns]; omega) (by decide), e7 l]
      show _ = some (if unB g l = true then nI (dC g c l) else -nI 1000000, m')
      by_cases hu : unB g l = true
      · rw [if_pos ⟨Nat.zero_le l, hl, hu⟩, if_pos hu]
      · rw [if_neg (fun z => hu z.2.2), if_neg hu, q3 l (by omega)]
  · have hfc : firB (okC g) (wC g 0) = none := fir_none _ (fun i hi => e2 i (by omega) (by omega))
    rw [e1, cll_s, chk_t (show nI 0 &&& 1 = nI 0 from by decide), cll_s, if_pos rfl, hfc]
    exact ⟨m', rfl, fun q z1 z2 => by rw [e3 q z2, k2 q z1 z2]⟩
theorem m_pow_l {mem : Mem} (hM : MO mem g) (x1 : Int32) : ∀ (j acc n : Nat), j < 100 → j + 1 ≤ n → X7_allRead_b38 57 n x1 (nI acc) (nI j) mem = X7_allRead_b65 57 fu x1 (nI (acc * g 3 ^ j)) (-nI 1000000) (nI 1000000) (nI 0) mem := by
  intro j
  induction j with
  | zero =>
    intro acc n _ h4
    obtain ⟨n, rfl, h5⟩ := succ_of (k := 0) h4
    rw [X7_allRead_b38]
    dsimp only
    rw [if_neg (show ¬ (0 : Int32) < nI 0 by decide), Nat.pow_zero, Nat.mul_one]
    rfl
  | succ j ih =>
    intro acc n h1 h4
    obtain ⟨n, rfl, h5⟩ := succ_of (k := j + 1) h4
    have e := ih (acc * g 3) n (by omega) h5
    rw [X7_allRead_b38]
    dsimp only
    rw [if_pos (show (0 : Int32) < nI (j + 1) by rw [show (0 : Int32) = nI 0 from rfl, nI_ltI (by omega) (by omega)]; omega), m_readers hM, cll_s, pk_mul, show (-1 : Int32) = -nI 1 from rfl, nI_subm (by omega) (by omega), Nat.add_sub_cancel, e, Nat.pow_succ, Nat.mul_assoc, Nat.mul_comm (g 3) (g 3 ^ j)]
theorem m_allRead {mem : Mem} (hM : MO mem g) (hO : OkG t g) (ht : t ≤ 600) {a : Option Nat} (ha : ∀ l, a = some l → l < g 2) : ∃ m', X7_allRead_b28 57 (arX a) mem = some (arV g (firB (okC g) (wC g 0)) a, m') ∧ ∀ q, q ≠ 66 → q ≠ 67 → m' q = mem q := by
  have h2 := hO.1
  have htot := tot_le hO
  have hb6 : cntP (unB g) (g 2) ≤ 6 := Nat.le_trans (cntP_le _ _) h2.2.2.2.1
  have hbits : bits (unS g) = cntP (unB g) (g 2) := cnt_bits _ _ (by omega)
  have hW : wC g 0 ≤ 4500 := by
    rw [wC_0]
    have h1 : g 3 ^ cntP (unB g) (g 2) ≤ 4 ^ cntP (unB g) (g 2) := Nat.pow_le_pow_left h2.2.2.2.2.1 _
    have h3 : 4 ^ cntP (unB g) (g 2) ≤ 4 ^ 6 := Nat.pow_le_pow_right (by decide) hb6
    have h5 : 4 ^ 6 = 4096 := by decide
    omega
  unfold X7_allRead_b28
  rw [m_unread hM hO ht, cll_s, m_bits64 (unS_lt hO), cll_s, show (1 : Int32) = nI 1 from rfl, hbits, m_pow_l hM _ _ 1 fu (by omega) (fu_ge (by omega)), Nat.one_mul, ← wC_0]
  by_cases hR : ∀ l, l < g 2 → unB g l = true → 0 < g 3
  · have hfirst := m_scan_l hO ht hW hR (arX a) (P := fun x3 x4 m o => ∃ m', o = some (arV g (firB (okC g) (wC g 0)) a, m') ∧ ∀ q, q ≠ 66 → q ≠ 67 → m' q = m q) (fun m' hM' o ho => by
      rw [ho]
      cases hf : firB (okC g) (wC g 0) with
      | none =>
        rw [show x4I g none = nI 1000000 from rfl, if_pos (show nI 1000000 = (1000000 : Int32) from rfl)]
        unfold X7_allRead_b127
        rw [if_pos (show nI 1000000 = (1000000 : Int32) from rfl)]
        exact ⟨m', rfl, fun _ _ _ => rfl⟩
      | some c =>
        have hne : ¬ nI (totC g) = (1000000 : Int32) := nI_neN (b := 1000000) (by omega) (by omega) (by omega)
        rw [show x4I g (some c) = nI (totC g) from rfl, if_neg hne]
        cases a with
        | none =>
          rw [if_pos (show arX none = (-1 : Int32) from rfl)]
          unfold X7_allRead_b127
          rw [if_neg hne]
          exact ⟨m', rfl, fun _ _ _ => rfl⟩
        | some l =>
          have hl := ha l rfl
          have hcW : c < 10000 := by
            have : c < wC g 0 := by
              exact fir_lt _ _ hf
            omega
          obtain ⟨m2, e1, e2, e3⟩ := m_spentBy hM' hO ht (c := c) hcW hR
          rw [show arX (some l) = nI l from rfl, if_neg (m1_ne' (by omega)), show x3I (some c) = nI c from rfl, e1, cll_s, show rf 57 15 = 66 from rfl, ald_n (by simp only [lns]; omega) (by decide), e3 l hl]
          exact ⟨m2, rfl, e2⟩) (fun x3 x4 m m' o h1 ⟨m3, h3, h4⟩ => ⟨m3, h3, fun q z1 z2 => by rw [h4 q z1 z2, h1 q z1 z2]⟩) (wC g 0 + 1) 0 fu mem hM (by omega) (by omega) (fu_ge (by omega))
    exact hfirst
  · have hw0 : wC g 0 = 0 := by
      rw [wC_0]
      have : ∃ l, l < g 2 ∧ unB g l = true ∧ g 3 = 0 := by
        apply Classical.byContradiction
        intro z
        exact hR fun l z1 z2 => by
          apply Classical.byContradiction
          intro z3
          exact z ⟨l, z1, z2, by omega⟩
      obtain ⟨l, z1, z2, z3⟩ := this
      have := cnt_pos (unB g) (g 2) l z1 z2
      rw [z3]
      exact Nat.zero_pow (by omega)
    rw [hw0]
    obtain ⟨n, hn, _⟩ := succ_of (show 0 + 1 ≤ fu from fu_ge (by omega))
    rw [hn, X7_allRead_b65]
    dsimp only
    rw [if_neg (show ¬ nI 0 < nI 0 by decide), if_pos (show nI 1000000 = (1000000 : Int32) from rfl)]
    unfold X7_allRead_b127
    rw [if_pos (show nI 1000000 = (1000000 : Int32) from rfl)]
    exact ⟨mem, rfl, fun _ _ _ => rfl⟩
theorem st_allRead : St_allRead Inv := by
  intro t mem a1 ht hI
  obtain ⟨g, hC, hM, hO, hG, hA, hR, hT, hF, hT2⟩ := id hI
  have h2 := hO.1
  unfold X6_allRead X7_allRead
  by_cases h0 : g 0 = 0
  · refine q_step hI (r := -nI 1000002) ?_ ?_
    · rw [show rf 0 2 = 7 from rfl, hC.1.1, h0, if_pos (show nI 0 = (0 : Int32) from rfl)]
      rfl
    · rw [show rf 57 5 = 62 from rfl, show (0 : Int32) = nI 0 from rfl, ald_n (by simp only [lns]; omega) (by decide), hM 0 (by omega), h0, if_pos rfl]
      rfl
  · have hg0 : ¬ nI (g 0) = (0 : Int32) := nI_neN (b := 0) (by omega) (by omega) h0
    have hgo : ∀ a : Option Nat, (∀ l, a = some l → l < g 2) → ∃ (r : Int32) (m1 m2 : Mem), X6_allRead_b32 0 (arX a) mem = some (r, m1) ∧ X7_allRead_b28 57 (arX a) m1 = some (r, m2) ∧ (∀ q, q ≠ 52 → q ≠ 53 → m1 q = mem q) ∧ Inv (t + 1) m2 := by
      intro a ha
      obtain ⟨m1, p1, p2⟩ := c_allRead hC hO (t := t) (by omega) ha
      obtain ⟨m2, q1, q2⟩ := m_allRead (hM.fr (p2 62 (by omega) (by omega))) hO (t := t) (by omega) ha
      refine ⟨_, m1, m2, p1, q1, p2, hI.scr (fun q => ?_) (fun j _ => ?_) (fun j _ => ?_) ?_⟩
      · intros; rw [q2 q (by omega) (by omega), p2 q (by omega) (by omega)]
      · rw [q2 0 (by omega) (by omega), p2 0 (by omega) (by omega)]
      · rw [q2 57 (by omega) (by omega), p2 57 (by omega) (by omega)]
      · rw [q2 0 (by omega) (by omega), p2 0 (by omega) (by omega), q2 57 (by omega) (by omega), p2 57 (by omega) (by omega)]
        exact hF.2
    by_cases h1 : a1 = -1
    · obtain ⟨r, m1, m2, e1, e2, e3, e4⟩ := hgo none (fun l h => by cases h)
      refine ⟨r, m1, m2, ?_, ?_, e4⟩
      · rw [show rf 0 2 = 7 from rfl, hC.1.1, if_neg hg0, if_pos h1, h1]
        exact e1
      · rw [show rf 57 5 = 62 from rfl, show (0 : Int32) = nI 0 from rfl, ald_n (by simp only [lns]; omega) (by decide), e3 62 (by omega) (by omega), hM 0 (by omega), if_neg (show ¬ nI (g 0) = nI 0 from hg0), if_pos h1, h1]
        exact e2
    · rcases rng a1 (g 2) (by omega) with ⟨l, hl, rfl⟩ | hl
      · obtain ⟨r, m1, m2, e1, e2, e3, e4⟩ := hgo (some l) (fun l' h => by injection h with h; omega)
        have hM1 : MO m1 g := hM.fr (e3 62 (by omega) (by omega))
        refine ⟨r, m1, m2, ?_, ?_, e4⟩
        · rw [show rf 0 2 = 7 from rfl, hC.1.1, if_neg hg0, if_neg h1, c_hasLetter_y hC hO hl, cll_s, if_neg (show ¬ nI 1 = (0 : Int32) from nI01)]
          exact e1
        · rw [show rf 57 5 = 62 from rfl, show (0 : Int32) = nI 0 from rfl, ald_n (by simp only [lns]; omega) (by decide), e3 62 (by omega) (by omega), hM 0 (by omega), if_neg (show ¬ nI (g 0) = nI 0 from hg0), if_neg h1, m_isLetter_y hM1 hO hl, cll_s, if_neg nI01]
          exact e2
      · refine q_step hI (r := -nI 1000001) ?_ ?_
        · rw [show rf 0 2 = 7 from rfl, hC.1.1, if_neg hg0, if_neg h1, c_hasLetter_n hC hO hl, cll_s, if_pos (show nI 0 = (0 : Int32) from rfl)]
          rfl
        · rw [show rf 57 5 = 62 from rfl, show (0 : Int32) = nI 0 from rfl, ald_n (by simp only [lns]; omega) (by decide), hM 0 (by omega), if_neg (show ¬ nI (g 0) = nI 0 from hg0), if_neg h1, m_isLetter_n hM hO hl, cll_s, if_pos rfl]
          rfl
end AR5
