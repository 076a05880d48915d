/-! ===== PURE: soOld ===== -/
def fiF (p : Nat → Bool) : Nat → Option Nat
  | 0 => none
  | i + 1 => match fiF p i with
    | some b => some b
    | none => if p i = true then some i else none
theorem fiF_y {p : Nat → Bool} {i : Nat} (h : fiF p i = none) (hp : p i = true) : fiF p (i + 1) = some i := by rw [fiF, h]; exact if_pos hp
theorem fiF_n {p : Nat → Bool} {i : Nat} (h : fiF p i = none) (hp : ¬ p i = true) : fiF p (i + 1) = none := by rw [fiF, h]; exact if_neg hp
theorem fiF_s {p : Nat → Bool} {i b : Nat} (h : fiF p i = some b) : fiF p (i + 1) = some b := by rw [fiF, h]
theorem fiF_stay {p : Nat → Bool} {i b : Nat} (h : fiF p i = some b) : ∀ j, i ≤ j → fiF p j = some b := by
  intro j hj
  induction j with
  | zero => have : i = 0 := by omega
            rw [this] at h; exact h
  | succ j ih =>
    by_cases e : i = j + 1
    · rw [e] at h; exact h
    · exact fiF_s (ih (by omega))
theorem fiF_cnt (p : Nat → Bool) : ∀ i, (cntP p i = 0 ↔ fiF p i = none)
  | 0 => by simp [cntP, fiF]
  | i + 1 => by
    have ih := fiF_cnt p i
    rw [cntP]
    cases h : fiF p i with
    | some b =>
      rw [fiF_s h]
      have : ¬ cntP p i = 0 := fun z => by rw [ih.mp z] at h; cases h
      by_cases hp : p i = true
      · simp [hp]
      · simp [hp, this]
    | none =>
      by_cases hp : p i = true
      · rw [fiF_y h hp]; simp [hp]
      · rw [fiF_n h hp]; simp [hp, ih.mpr h]
theorem fiF_lt (p : Nat → Bool) : ∀ i b, fiF p i = some b → b < i
  | 0, b, h => by cases h
  | i + 1, b, h => by
    have ih := fiF_lt p i
    cases h' : fiF p i with
    | some c => rw [fiF_s h'] at h; cases h; have := ih _ h'; omega
    | none =>
      by_cases hp : p i = true
      · rw [fiF_y h' hp] at h; cases h; omega
      · rw [fiF_n h' hp] at h; cases h
def fcS (g : Nat → Nat) (s : Nat) : Nat := sumP (hasB s) (fun l => fcN (g (5 + l)) (g (11 + l))) (g 2)
def soB (g : Nat → Nat) (r y s : Nat) : Bool := decide (g (23 + r) + g 4 + fcS g s = y)
theorem so_eq {c y f d : Nat} (hc : c < 2 ^ 20) (hy : y < 2 ^ 20) (hf : f < 2 ^ 20) (hd : d < 2 ^ 20) : (nI c = nI y - nI f - nI d) = (f + d + c = y) := by
  have e1 : (nI y - nI f).toInt = (y : Int) - f := pk_sub_toInt (by omega) (by omega)
  have e2 : (nI y - nI f - nI d).toInt = (y : Int) - f - d := by
    rw [Int32.toInt_sub, e1, nI_toInt (by omega)]
    rw [Int.bmod_def]
    omega
  apply propext
  constructor
  · intro h
    have := congrArg Int32.toInt h
    rw [nI_toInt (by omega), e2] at this
    omega
  · intro h
    apply Int32.toInt_inj.mp
    rw [nI_toInt (by omega), e2]
    omega
section LK6
variable {mem : Mem} {g : Nat → Nat} {t : Nat}
theorem fcS_le (hO : OkG t g) (s : Nat) : fcS g s ≤ 720 := by
  have h2 := hO.1
  have h := sumP_le (hasB s) (fun l => fcN (g (5 + l)) (g (11 + l))) 120 (g 2) (fun l hl => fcN_le (by have := hO.2.1 l hl; omega))
  have h3 : g 2 * 120 ≤ 6 * 120 := Nat.mul_le_mul_right _ h2.2.2.2.1
  unfold fcS
  omega
theorem c_fcS (hC : CO mem 7 g) (hO : OkG t g) {s : Nat} (hs : s < 64) : X3_firstCostOf 7 (nI s) mem = some (nI (fcS g s), mem) := c_firstCostOf hC hO hs
theorem m_fcS (hM : MO mem g) (hO : OkG t g) {s : Nat} (hs : s < 64) : X7_firstAll 57 (nI s) mem = some (nI (fcS g s), mem) := m_firstAll hM hO hs
theorem c_sets_l (hC : CO mem 7 g) (hO : OkG t g) {r y N : Nat} (hN : 2 ^ g 2 = N) (hr : r < g 3) (hy : y ≤ 999) : ∀ (k i n : Nat), i ≤ N → N - i < k → k ≤ n → X2_setsThatCost_b5 51 7 n (nI y - nI (g (23 + r)) - nI (g 4)) (nI (cntP (soB g r y) i)) (nI i) mem = some (nI (cntP (soB g r y) N), mem) := by
  have h2 := hO.1
  have h6 := p2_64 h2.2.2.2.1
  have h8 := hO.2.2.1 r hr
  rw [hN] at h6
  intro k
  induction k with
  | zero => intro i n h1 h2; omega
  | succ k ih =>
    intro i n h1 h3 h4
    obtain ⟨n, rfl, h5⟩ := succ_of h4
    rw [X2_setsThatCost_b5]
    by_cases hlt : i < N
    · have e := ih (i + 1) n (by omega) (by omega) (by omega)
      have h7 := fcS_le hO i
      have h9 := cntP_le (soB g r y) i
      have h10 : (nI (fcS g i) = nI y - nI (g (23 + r)) - nI (g 4)) = (g (23 + r) + g 4 + fcS g i = y) := so_eq (by omega) (by omega) (by omega) (by omega)
      simp (disch := omega) only [hC.1.2.2.2.1, L32, shl_n, hN, nI_ltI, hlt, if_true, c_fcS hC hO (s := i), cll_s, X2_setsThatCost_b29, nI_add, h10]
      rw [cntP] at e
      by_cases hp : soB g r y i = true
      · rw [if_pos hp] at e
        rw [if_pos (by simpa [soB] using hp)]
        exact e
      · rw [if_neg hp] at e
        rw [if_neg (by simpa [soB] using hp)]
        exact e
    · have hE : i = N := by omega
      simp (disch := omega) only [hC.1.2.2.2.1, L32, shl_n, hN, nI_ltI, hlt, if_false]
      rw [hE]
theorem c_least_l (hC : CO mem 7 g) (hO : OkG t g) {r y N : Nat} (hN : 2 ^ g 2 = N) (hr : r < g 3) (hy : y ≤ 999) : ∀ (k i n : Nat), i ≤ N → N - i < k → k ≤ n → fiF (soB g r y) i = none → X2_leastSetThatCosts_b2 51 7 n (nI y - nI (g (23 + r)) - nI (g 4)) (nI i) mem = some (oI (fiF (soB g r y) N), mem) := by
  have h2 := hO.1
  have h6 := p2_64 h2.2.2.2.1
  have h8 := hO.2.2.1 r hr
  rw [hN] at h6
  intro k
  induction k with
  | zero => intro i n h1 h2; omega
  | succ k ih =>
    intro i n h1 h3 h4 hnone
    obtain ⟨n, rfl, h5⟩ := succ_of h4
    rw [X2_leastSetThatCosts_b2]
    by_cases hlt : i < N
    · have h7 := fcS_le hO i
      have h10 : (nI (fcS g i) = nI y - nI (g (23 + r)) - nI (g 4)) = (g (23 + r) + g 4 + fcS g i = y) := so_eq (by omega) (by omega) (by omega) (by omega)
      simp (disch := omega) only [hC.1.2.2.2.1, L32, shl_n, hN, nI_ltI, hlt, if_true, c_fcS hC hO (s := i), cll_s, nI_add, h10]
      by_cases hp : soB g r y i = true
      · rw [if_pos (by simpa [soB] using hp), fiF_stay (fiF_y hnone hp) N (by omega), oI_s]
      · rw [if_neg (by simpa [soB] using hp)]
        exact ih (i + 1) n (by omega) (by omega) (by omega) (fiF_n hnone hp)
    · have hE : i = N := by omega
      simp (disch := omega) only [hC.1.2.2.2.1, L32, shl_n, hN, nI_ltI, hlt, if_false]
      rw [← hE, hnone, oI_n]
def soW (w N : Nat) (p : Nat → Bool) : Int32 := if w = 0 then nI (cntP p N) else oI (fiF p N)
theorem m_so_l (hM : MO mem g) (hO : OkG t g) {r y w N : Nat} (hN : 2 ^ g 2 = N) (hr : r < g 3) (hy : y ≤ 999) (hw : w < 2) : ∀ (k i n : Nat), i ≤ N → N - i < k → k ≤ n → X7_soOld_b43 57 n (nI r) (nI y) (nI w) (nI (cntP (soB g r y) i)) (oI (fiF (soB g r y) i)) (nI i) mem = some (soW w N (soB g r y), mem) := by
  have h2 := hO.1
  have h6 := p2_64 h2.2.2.2.1
  have h8 := hO.2.2.1 r hr
  rw [hN] at h6
  intro k
  induction k with
  | zero => intro i n h1 h2; omega
  | succ k ih =>
    intro i n h1 h3 h4
    obtain ⟨n, rfl, h5⟩ := succ_of h4
    rw [X7_soOld_b43]
    by_cases hlt : i < N
    · have e := ih (i + 1) n (by omega) (by omega) (by omega)
      have h7 := fcS_le hO i
      have h9 := cntP_le (soB g r y) i
      have h11 := fiF_cnt (soB g r y) i
      rw [cntP] at e
      by_cases hp : soB g r y i = true
      · have hp2 : g (23 + r) + g 4 + fcS g i = y := by simpa [soB] using hp
        rw [if_pos hp] at e
        simp (disch := omega) only [rfs, m_letters hM, cll_s, L32, shl_n, hN, nI_ltI, hlt, if_true, al, hM (23 + r), hM 4, m_fcS hM hO (s := i), nI_add, nI_eq, hp2, X7_soOld_b86, X7_soOld_b103, X7_soOld_b105, X7_soOld_b119, Nat.one_ne_zero, if_false]
        by_cases h0 : cntP (soB g r y) i = 0
        · rw [if_pos h0]
          rw [fiF_y (h11.mp h0) hp, oI_s] at e
          exact e
        · rw [if_neg h0]
          cases h12 : fiF (soB g r y) i with
          | none => exact absurd (h11.mpr h12) h0
          | some b =>
            rw [fiF_s h12] at e
            exact e
      · have hp2 : ¬ g (23 + r) + g 4 + fcS g i = y := by simpa [soB] using hp
        rw [if_neg hp] at e
        simp (disch := omega) only [rfs, m_letters hM, cll_s, L32, shl_n, hN, nI_ltI, hlt, if_true, al, hM (23 + r), hM 4, m_fcS hM hO (s := i), nI_add, nI_eq, hp2, X7_soOld_b86, X7_soOld_b103, X7_soOld_b105, X7_soOld_b119, Nat.one_ne_zero, if_false, Nat.add_zero]
        cases h12 : fiF (soB g r y) i with
        | none => rw [fiF_n h12 hp] at e; exact e
        | some b => rw [fiF_s h12] at e; exact e
    · have hE : i = N := by omega
      simp (disch := omega) only [m_letters hM, cll_s, L32, shl_n, hN, nI_ltI, hlt, if_false, nI_eq]
      unfold soW
      rw [hE]
      by_cases hw0 : w = 0
      · rw [if_pos hw0, if_pos hw0]
      · rw [if_neg hw0, if_neg hw0]
theorem st_soOld : St_soOld Inv := by
  intro t mem a1 a2 a3 ht hI
  obtain ⟨g, hC, hM, hO, hG, hA, hR, hT, hF, hT2⟩ := id hI
  have h2 := hO.1
  have h6 := p2_64 h2.2.2.2.1
  obtain ⟨N, hN⟩ : ∃ N, 2 ^ g 2 = N := ⟨_, rfl⟩
  rw [hN] at h6
  unfold X6_soOld X7_soOld
  rcases rng a1 (g 3) (by omega) with ⟨r, hr, rfl⟩ | hr
  · have h3 := hC.2.2.1 r hr
    rcases rng a2 1000 (by omega) with ⟨y, hy, rfl⟩ | hy
    · rcases rng a3 2 (by omega) with ⟨w, hw, rfl⟩ | hw
      · have e1 : X2_setsThatCost_b5 51 7 fu (nI y - nI (g (23 + r)) - nI (g 4)) (nI 0) (nI 0) mem = _ := c_sets_l hC hO hN hr (by omega) (N + 1) 0 fu (by omega) (by omega) (fu_ge (by omega))
        have e2 : X2_leastSetThatCosts_b2 51 7 fu (nI y - nI (g (23 + r)) - nI (g 4)) (nI 0) mem = _ := c_least_l hC hO hN hr (by omega) (N + 1) 0 fu (by omega) (by omega) (fu_ge (by omega)) rfl
        have e3 : X7_soOld_b43 57 fu (nI r) (nI y) (nI w) (nI 0) (-nI 1000000) (nI 0) mem = _ := m_so_l hM hO hN hr (by omega) hw (N + 1) 0 fu (by omega) (by omega) (fu_ge (by omega))
        refine q_step hI (r := soW w N (soB g r y)) ?_ ?_
        · unfold X2_setsThatCost X2_leastSetThatCosts
          simp (disch := omega) only [rfs, c_hasReader_y hC hO hr, c_isChoice_y hw, cll_s, L32, ite10, al, h3, hC.1.2.2.1, nI_ltI, Nat.not_lt_zero, if_false, e1, e2, nI_eq, Nat.one_ne_zero]
          rw [if_neg (by omega)]
          unfold soW
          by_cases hw0 : w = 0
          · rw [if_pos hw0, if_pos hw0]
          · rw [if_neg hw0, if_neg hw0]
        · simp (disch := omega) only [m_isReader_y hM hO hr, m_in_y, cll_s, L32, L64, ite10, e3]
      · refine q_step hI (r := -nI 1000001) ?_ ?_
        · simp (disch := omega) only [rfs, c_hasReader_y hC hO hr, c_isChoice_n hw, cll_s, L32, ite10, if_true, ite_self]
        · simp (disch := omega) only [m_isReader_y hM hO hr, m_in_y, m_in_n, cll_s, L32, L64, ite10, if_true]
    · refine q_step hI (r := -nI 1000001) ?_ ?_
      · simp (disch := omega) only [rfs, c_hasReader_y hC hO hr, cll_s, L32, ite10, Int32.lt_iff_toInt_lt, nI_toInt]
        by_cases h : a2.toInt < (0 : Nat)
        · rw [if_pos h]
        · rw [if_neg h, if_pos (by omega)]
      · simp (disch := omega) only [m_isReader_y hM hO hr, m_in_n, cll_s, L32, L64, ite10, if_true]
  · refine q_step hI (r := -nI 1000001) ?_ ?_
    · simp only [rfs, c_hasReader_n hC hO hr, cll_s, L32, if_true]
    · simp only [m_isReader_n hM hO hr, cll_s, L32, if_true]
end LK6
