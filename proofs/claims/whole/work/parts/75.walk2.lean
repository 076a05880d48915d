/-! ===== PURE: ages, the told days on the reference's side ===== -/
theorem stp_zero {g : Nat → Nat} {e0 : Bool} {el : Nat → Bool} {A : Nat → Nat} {s : Nat} (h : ∀ z, z < 64 → A z = 0) (hs : s < 64) (i : Nat) : stpN g e0 el A s i = 0 := by
  unfold stpN
  rw [sumP_zf i (fun l _ _ => h _ (Nat.lt_of_le_of_lt (Nat.sub_le _ _) hs)), h s hs]
  by_cases e : e0 = true
  · rw [if_pos e]
  · rw [if_neg e]
theorem stp_no {g : Nat → Nat} {e0 : Bool} {el : Nat → Bool} {A : Nat → Nat} {s : Nat} (h0 : e0 = false) (i : Nat) (h : ∀ l, l < i → el l = false) : stpN g e0 el A s i = 0 := by
  unfold stpN
  rw [sumP_no i (fun l hl => by rw [h l hl, Bool.and_false]), h0]
  rfl
def moI (d : Int64) : Int32 := if 0 ≤ d.toInt ∧ d.toInt ≤ 999 then d.toInt32 else -nI 1
theorem moI_in {d : Int64} {n : Nat} (h : d.toInt = n) (hn : n ≤ 999) : moI d = nI n := by
  unfold moI
  rw [if_pos (by omega)]
  apply Int32.toInt_inj.mp
  rw [Int64.toInt_toInt32, nI_toInt (by omega), h, Int.bmod_def]
  omega
theorem moI_out {d : Int64} (h : ¬ (0 ≤ d.toInt ∧ d.toInt ≤ 999)) : moI d = -nI 1 := if_neg h
theorem m1_ne (n : Nat) (h : n < 2 ^ 31) : ¬ nI n = -nI 1 := by
  intro e
  have := congrArg Int32.toInt e
  rw [nI_toInt h, show (-nI 1).toInt = -1 from by decide] at this
  omega
theorem moI_eq {d : Int64} {n : Nat} (hn : n ≤ 999) : (nI n = moI d) ↔ d.toInt = n := by
  constructor
  · intro h
    by_cases c : 0 ≤ d.toInt ∧ d.toInt ≤ 999
    · have e : moI d = nI d.toInt.toNat := moI_in (by omega) (by omega)
      rw [e] at h
      have := congrArg Int32.toInt h
      rw [nI_toInt (by omega), nI_toInt (by omega)] at this
      omega
    · rw [moI_out c] at h
      exact absurd h (m1_ne n (by omega))
  · intro h
    exact (moI_in h hn).symm
theorem i64sub2 (a b c : Int32) : ((a.toInt64 - b.toInt64) - c.toInt64).toInt = a.toInt - b.toInt - c.toInt := by
  have h1 := a.toInt_lt
  have h2 := a.le_toInt
  have h3 := b.toInt_lt
  have h4 := b.le_toInt
  have h5 := c.toInt_lt
  have h6 := c.le_toInt
  have e : (a.toInt64 - b.toInt64).toInt = a.toInt - b.toInt := by
    rw [Int64.toInt_sub, i64i, i64i, Int.bmod_def]
    omega
  rw [Int64.toInt_sub, e, i64i, Int.bmod_def]
  omega
def agW (X : Nat → Int32) (c0 : Int32) : Nat → Int32
  | 0 => c0
  | k + 1 => X k
def ag1 (k : Nat) : Int32 := if k = 0 then nI 0 else nI 1
theorem eqN {X : Int32} {n : Nat} (hn : n < 2 ^ 31) : (nI n = X) ↔ X.toInt = n := by
  constructor
  · intro h
    rw [← h, nI_toInt hn]
  · intro h
    apply Int32.toInt_inj.mp
    rw [nI_toInt hn, h]
section AW2
variable {g : Nat → Nat} {t : Nat} {X : Nat → Int32} {c0 : Int32}
def agP (g : Nat → Nat) (X : Nat → Int32) (c0 : Int32) (k : Nat) : Prop := (∀ s, s < 64 → agA g X c0 k s = 0) ∨ ∃ v, v ≤ 99 + 130 * k ∧ agC X c0 k = nI v
theorem agW_v {k v : Nat} (hv : v < 2000) (h : agC X c0 k = nI v) : (agW X c0 k).toInt + (ag1 k).toInt = v := by
  cases k with
  | zero =>
    have h' : c0 = nI v := h
    show c0.toInt + (ag1 0).toInt = v
    rw [h', nI_toInt (by omega), show (ag1 0).toInt = 0 from by decide]
    omega
  | succ k =>
    have h' : X k + nI 1 = nI v := h
    show (X k).toInt + (nI 1).toInt = v
    have := congrArg Int32.toInt h'
    rw [Int32.toInt_add, nI_toInt (show 1 < 2 ^ 31 by omega), nI_toInt (show v < 2 ^ 31 by omega), Int.bmod_def] at this
    rw [nI_toInt (by omega)]
    have h1 := (X k).toInt_lt
    have h2 := (X k).le_toInt
    omega
theorem ag_step {k : Nat} (hO : OkG t g) (hk : k < 6) (hP : agP g X c0 k) : (∀ s, s < 64 → stpN g (decide (moI ((X k).toInt64 - (agW X c0 k).toInt64 - (ag1 k).toInt64) = nI 0)) (fun l => decide (nI (fcN (g (5 + l)) (g (11 + l))) = moI ((X k).toInt64 - (agW X c0 k).toInt64 - (ag1 k).toInt64))) (agA g X c0 k) s (g 2) = agA g X c0 (k + 1) s) ∧ agP g X c0 (k + 1) := by
  rcases hP with hP | ⟨v, hv, hc⟩
  · have e : ∀ s, s < 64 → agA g X c0 (k + 1) s = 0 := fun s hs => stp_zero (g := g) hP hs _
    exact ⟨fun s hs => by rw [e s hs, stp_zero hP hs], Or.inl e⟩
  · have hd : ((X k).toInt64 - (agW X c0 k).toInt64 - (ag1 k).toInt64).toInt = (X k).toInt - v := by
      rw [i64sub2]
      have := agW_v (k := k) (by omega) hc
      omega
    have hf : ∀ l, l < g 2 → fcN (g (5 + l)) (g (11 + l)) ≤ 120 := fun l hl => fcN_le (hO.2.1 l hl).2.2.2.1
    have h0 : decide (moI ((X k).toInt64 - (agW X c0 k).toInt64 - (ag1 k).toInt64) = nI 0) = decide (agC X c0 k = X k) := by
      apply decide_eq_decide.mpr
      rw [hc, eqN (by omega), eq_comm, moI_eq (by omega), hd]
      omega
    have hl : ∀ l, l < g 2 → decide (nI (fcN (g (5 + l)) (g (11 + l))) = moI ((X k).toInt64 - (agW X c0 k).toInt64 - (ag1 k).toInt64)) = decide (agC X c0 k + nI (fcN (g (5 + l)) (g (11 + l))) = X k) := by
      intro l hl
      have := hf l hl
      apply decide_eq_decide.mpr
      rw [hc, nI_add, moI_eq (by omega), eqN (n := v + fcN (g (5 + l)) (g (11 + l))) (by omega), hd]
      omega
    constructor
    · intro s hs
      show _ = stpN g _ _ _ s (g 2)
      unfold stpN
      rw [h0]
      congr 1
      exact sumP_congr _ (fun l hl2 => congrArg (fun z => hasB s l && z) (hl l hl2)) (fun _ _ _ => rfl)
    · by_cases c0' : agC X c0 k = X k
      · refine Or.inr ⟨v + 1, by omega, ?_⟩
        show X k + nI 1 = nI (v + 1)
        rw [← c0', hc, nI_add]
      · by_cases c1 : ∃ l, l < g 2 ∧ agC X c0 k + nI (fcN (g (5 + l)) (g (11 + l))) = X k
        · obtain ⟨l, hl2, e⟩ := c1
          have := hf l hl2
          refine Or.inr ⟨v + fcN (g (5 + l)) (g (11 + l)) + 1, by omega, ?_⟩
          show X k + nI 1 = nI _
          rw [← e, hc, nI_add, nI_add]
        · refine Or.inl fun s hs => ?_
          show stpN g _ _ _ s (g 2) = 0
          exact stp_no (decide_eq_false c0') _ (fun l hl2 => decide_eq_false fun z => c1 ⟨l, hl2, z⟩)
theorem m_walk_l {row i N : Nat} (hO : OkG t g) (hr : row < 8) (hN : N ≤ 6) (hi : i + N ≤ 40) : ∀ (k x n : Nat) (mem : Mem), MO mem g → (∀ j, j < N → mem 60 (row * 40 + (i + j)) = X j) → (∀ z, z < 64 → mem 68 z = nI (agA g X c0 x z)) → agP g X c0 x → x ≤ N → N - x < k → k ≤ n → ∃ m', X7_ages_b121 57 n (nI row) (nI i) (nI N) (agW X c0 x).toInt64 (nI x) mem = some (nI (suN (agA g X c0 N) 64), st2 m' 57 3 (nI 0)) ∧ ∀ q, q ≠ 68 → q ≠ 69 → m' q = mem q := by
  have h2 := hO.1
  intro k
  induction k with
  | zero => intro x n mem _ _ _ _ h1 h2; omega
  | succ k ih =>
    intro x n mem hM hX hA hP h1 h3 h4
    obtain ⟨n, rfl, h5⟩ := succ_of h4
    rw [X7_ages_b121]
    dsimp only
    have hz : (nI x < nI N) = (x < N) := by rw [nI_ltI (by omega) (by omega)]
    by_cases hlt : x < N
    · obtain ⟨q1, q2⟩ := ag_step (t := t) hO (by omega) hP
      obtain ⟨d, hd⟩ : ∃ d, d = (X x).toInt64 - (agW X c0 x).toInt64 - (ag1 x).toInt64 := ⟨_, rfl⟩
      rw [← hd] at q1
      obtain ⟨m1, p1, p2, p3⟩ := m_on_l (x := moI d) (e0 := decide (moI d = nI 0)) (el := fun l => decide (nI (fcN (g (5 + l)) (g (11 + l))) = moI d)) (B := agA g X c0 x) hO (by rw [decide_eq_true_iff]) (fun l _ => by rw [decide_eq_true_iff]) 65 0 fu mem hM hA (fun z hz => by omega) (by omega) (by omega) (fu_ge (by omega))
      obtain ⟨m', e1, e2⟩ := ih (x + 1) n m1 (hM.fr (p2 62 (by omega) (by omega))) (fun j hj => by rw [p2 60 (by omega) (by omega)]; exact hX j hj) (fun z hz => by rw [p3 z hz, q1 z hz]) q2 (by omega) (by omega) (by omega)
      refine ⟨m', ?_, fun q h6 h7 => by rw [e2 q h6 h7, p2 q h6 h7]⟩
      have hidx : (40 : Int32) * nI row + nI i + nI x = nI (row * 40 + (i + x)) := by
        have h40 : (40 : Int32) * nI row = nI (40 * row) := by simp (disch := omega) only [L32, pk_mul]
        rw [h40, nI_add, nI_add]
        congr 1
        omega
      have hbody : ∀ (m1' : Int32), m1' = moI d → X7_ages_b180 57 (X7_ages_b121 57 n) (nI row) (nI i) (nI N) (nI x) m1' mem = some (nI (suN (agA g X c0 N) 64), st2 m' 57 3 (nI 0)) := by
        intro m1' hm
        unfold X7_ages_b180 X7_readOn
        rw [hm, show (0 : Int32) = nI 0 from rfl, p1, cll_s, show rf 57 2 = 60 from rfl, hidx, ald_n (by simp only [lns]; omega) (by decide), p2 60 (by omega) (by omega), hX x hlt, show (1 : Int32) = nI 1 from rfl, nI_add]
        exact e1
      have h156 : ∀ (s1 : Int32), s1 = ag1 x → X7_ages_b156 57 (X7_ages_b121 57 n) (nI row) (nI i) (nI N) (nI x) ((X x).toInt64 - (agW X c0 x).toInt64) s1 mem = some (nI (suN (agA g X c0 N) 64), st2 m' 57 3 (nI 0)) := by
        intro s1 hs
        unfold X7_ages_b156
        rw [hs, ← hd, m_in, cll_s]
        have hc2 : ((0 : Int64).toInt ≤ d.toInt ∧ d.toInt ≤ (999 : Int64).toInt) = (0 ≤ d.toInt ∧ d.toInt ≤ 999) := by
          rw [show (0 : Int64).toInt = 0 from by decide, show (999 : Int64).toInt = 999 from by decide]
        by_cases hc : 0 ≤ d.toInt ∧ d.toInt ≤ 999
        · rw [b2_t (hc2.mpr hc), if_neg (show ¬ nI 1 = (0 : Int32) from nI01)]
          exact hbody _ (if_pos hc).symm
        · rw [b2_f (fun z => hc (hc2.mp z)), if_pos (show nI 0 = (0 : Int32) from rfl)]
          exact hbody _ (moI_out hc).symm
      rw [if_pos (hz.mpr hlt), hidx, show rf 57 2 = 60 from rfl, ald_n (by simp only [lns]; omega) (by decide), hX x hlt]
      by_cases h0 : x = 0
      · have hx0 : ¬ (0 : Int32) < nI x := by rw [h0]; decide
        rw [if_neg hx0]
        exact h156 _ (by unfold ag1; rw [if_pos h0]; rfl)
      · have hx0 : (0 : Int32) < nI x := by
          rw [show (0 : Int32) = nI 0 from rfl, nI_ltI (by omega) (by omega)]
          omega
        rw [if_pos hx0]
        exact h156 _ (by unfold ag1; rw [if_neg h0]; rfl)
    · have hE : x = N := by omega
      refine ⟨mem, ?_, fun _ _ _ => rfl⟩
      have e := m_ways_l hA 65 0 fu (by omega) (by omega) (fu_ge (by omega))
      rw [if_neg (fun z => hlt (hz.mp z)), show (0 : Int32) = nI 0 from rfl]
      rw [show X7_ages_b212 57 fu (nI 0) (nI 0) mem = _ from e, hE]
theorem m_init_l {r N : Nat} (hO : OkG t g) (hr : r < g 3) (y2 y3 y4 : Int32) : ∀ (k i n : Nat) (mem : Mem), MO mem g → (∀ z, z < i → mem 68 z = nI (ag0 z)) → i ≤ 64 → 64 - i < k → k ≤ n → ∃ m', X7_ages_b76 57 n (nI r) y2 y3 y4 (nI i) mem = X7_ages_b121 57 fu y2 y3 y4 (nI (g (23 + r))).toInt64 (nI 0) m' ∧ (∀ q, q ≠ 68 → m' q = mem q) ∧ ∀ z, z < 64 → m' 68 z = nI (ag0 z) := by
  have h2 := hO.1
  intro k
  induction k with
  | zero => intro i n mem _ _ h1 h2; omega
  | succ k ih =>
    intro i n mem hM hA h1 h3 h4
    obtain ⟨n, rfl, h5⟩ := succ_of h4
    rw [X7_ages_b76]
    dsimp only
    have hz : (nI i < (64 : Int32)) = (i < 64) := by rw [show (64 : Int32) = nI 64 from rfl, nI_ltI (by omega) (by omega)]
    by_cases hlt : i < 64
    · obtain ⟨m', e1, e2, e3⟩ := ih (i + 1) n (st2 mem 68 i (nI (ag0 i))) (hM.fr (st2_k (by omega))) (fun z hz => by
        by_cases e : z = i
        · rw [e, st2_s]
        · rw [st2_i e]; exact hA z (by omega)) (by omega) (by omega) (by omega)
      refine ⟨m', ?_, fun q hq => by rw [e2 q hq, st2_k hq], e3⟩
      rw [if_pos (hz.mpr hlt)]
      unfold X7_ages_b99
      unfold ag0 at e1
      by_cases h0 : i = 0
      · rw [if_pos h0] at e1
        rw [if_pos (show nI i = (0 : Int32) by rw [h0]; rfl), show rf 57 17 = 68 from rfl, ast_n (by simp only [lns]; omega) (by decide), show (1 : Int32) = nI 1 from rfl, nI_add]
        exact e1
      · rw [if_neg h0] at e1
        rw [if_neg (show ¬ nI i = (0 : Int32) from nI_neN (b := 0) (by omega) (by omega) h0), show rf 57 17 = 68 from rfl, ast_n (by simp only [lns]; omega) (by decide), show (1 : Int32) = nI 1 from rfl, nI_add]
        exact e1
    · have hE : i = 64 := by omega
      refine ⟨mem, ?_, fun _ _ => rfl, fun z hz => hA z (by omega)⟩
      have := hO.1
      rw [if_neg (fun z => hlt (hz.mp z)), show rf 57 5 = 62 from rfl, show (23 : Int32) = nI 23 from rfl, nI_add, ald_n (by simp only [lns]; omega) (by decide), hM (23 + r) (by omega)]
      rfl
end AW2
