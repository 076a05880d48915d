/-! ===== PURE: bestAloud, post, soOld, count ===== -/
section LK3
variable {mem : Mem} {g : Nat → Nat} {t : Nat}
/-- what all spend when r reads l aloud to all others alive -/
def spA (g : Nat → Nat) (l r : Nat) : Nat := costN g r l + (cntP (aliveB g) (g 3) - 1) * ((costN g r l + 9) / 10)
def afB (g : Nat → Nat) (l r : Nat) : Bool := fitB g r && liveB g r l
def aF (g : Nat → Nat) (l : Nat) : Nat → Option Nat
  | 0 => none
  | i + 1 => if afB g l i = true then (match aF g l i with
    | none => some i
    | some b => if spA g l i < spA g l b then some i else some b) else aF g l i
theorem aF_lt (g : Nat → Nat) (l : Nat) : ∀ i b, aF g l i = some b → b < i ∧ afB g l b = true
  | 0, b, h => by cases h
  | i + 1, b, h => by
    have ih := aF_lt g l i
    rw [aF] at h
    split at h
    · rename_i hi
      split at h
      · cases h; exact ⟨by omega, hi⟩
      · rename_i c hc
        have := ih c hc
        split at h <;> cases h
        · exact ⟨by omega, hi⟩
        · exact ⟨by omega, this.2⟩
    · have := ih b h
      exact ⟨by omega, this.2⟩
def aP (g : Nat → Nat) (l z : Nat) (o : Option Nat) : Int32 := match o with
  | none => nI z
  | some b => nI (spA g l b)
theorem spA_le (hO : OkG t g) {l r : Nat} (hl : l < g 2) : spA g l r ≤ 200 := by
  have h2 := hO.1
  have h4 := hO.2.1 l hl
  have h5 : costN g r l ≤ 120 := costP_le (by omega)
  have h6 := cntP_le (aliveB g) (g 3)
  unfold spA
  have h7 : (cntP (aliveB g) (g 3) - 1) * ((costN g r l + 9) / 10) ≤ 3 * 12 := Nat.mul_le_mul (by omega) (by omega)
  omega
theorem cnt_pos (p : Nat → Bool) : ∀ n r, r < n → p r = true → 1 ≤ cntP p n
  | 0, r, h, _ => by omega
  | n + 1, r, h, hp => by
    rw [cntP]
    by_cases e : r = n
    · subst e
      rw [if_pos hp]
      omega
    · have := cnt_pos p n r (by omega) hp
      omega
theorem fit_alive {g : Nat → Nat} {r : Nat} (h : fitB g r = true) : aliveB g r = true := by
  simp only [fitB, aliveB, decide_eq_true_eq] at h ⊢
  exact h.1
theorem c_spA (hC : CO mem 7 g) (hO : OkG t g) (ht : t ≤ 600) {l r : Nat} (hr : r < g 3) (hl : l < g 2) (hf : aliveB g r = true) : X2_spentAloud 51 7 (nI r) (nI l) mem = some (nI (spA g l r), mem) := by
  have h2 := hO.1
  have h4 := hO.2.1 l hl
  have h5 : costN g r l ≤ 120 := costP_le (by omega)
  have h6 := cnt_pos (aliveB g) (g 3) r hr hf
  unfold X2_spentAloud
  simp (disch := omega) only [c_cost hC hO ht hr hl, cll_s, c_howManyAlive hC hO, c_tenthUp, L32, pk_sub, pk_mul, nI_add, spA]
theorem bits4 : ∀ a, a < 16 → ∀ r, r < 4 → hasB a r = true → nI a &&& (nI (2 ^ r) ^^^ -nI 1) = nI (a - 2 ^ r) ∧ bits (a - 2 ^ r) = bits a - 1 := by decide +kernel
theorem cnt_bits (p : Nat → Bool) (n : Nat) (h : n ≤ 8) : bits (sett p n) = cntP p n := by
  have key : ∀ m, m ≤ 8 → cntP (hasB (sett p n)) m = cntP p (min m n) := by
    intro m
    induction m with
    | zero => intro _; simp [cntP]
    | succ m ih =>
      intro hm
      rw [cntP, ih (by omega)]
      by_cases hmn : m < n
      · rw [sett_bit p n m hmn, show min (m + 1) n = m + 1 by omega, show min m n = m by omega, cntP]
      · have e : hasB (sett p n) m = false := by
          have := sett_tb p n m
          rw [Nat.testBit_eq_decide_div_mod_eq] at this
          unfold hasB
          rw [this]
          simp [hmn]
        rw [e, show min (m + 1) n = n by omega, show min m n = n by omega]
        simp
  unfold bits
  rw [key 8 (Nat.le_refl 8), show min 8 n = n by omega]
theorem m_spA (hM : MO mem g) (hO : OkG t g) (ht : t ≤ 600) {l r : Nat} (hr : r < g 3) (hl : l < g 2) (hf : aliveB g r = true) : X7_aloudBy 57 (nI r) (nI l) mem = some (nI (spA g l r), mem) := by
  have h2 := hO.1
  have h4 := hO.2.1 l hl
  have h5 : costN g r l ≤ 120 := costP_le (by omega)
  have h6 := cnt_pos (aliveB g) (g 3) r hr hf
  have h7 : sett (aliveB g) (g 3) < 16 := sett_small _ h2.2.2.2.2.1
  have h8 := bits4 _ h7 r (by omega) (by rw [sett_bit _ _ _ hr]; exact hf)
  have h10 := m_bits mem (s := sett (aliveB g) (g 3) - 2 ^ r) (Nat.lt_of_le_of_lt (Nat.sub_le _ _) (by omega))
  unfold X7_aloudBy
  simp (disch := omega) only [m_alive hM hO, cll_s, L32, shl_n, h8.1, h10, h8.2, m_cost hM hO ht hr hl, m_upwards, pk_mul, nI_add]
  rw [cnt_bits _ _ (by omega)]
  rfl
theorem c_ba_l (hC : CO mem 7 g) (hO : OkG t g) (ht : t ≤ 600) {l : Nat} (hl : l < g 2) : ∀ (k i n : Nat), i ≤ g 3 → g 3 - i < k → k ≤ n → X2_bestReaderAloud_b9 51 7 n (nI l) (oI (aF g l i)) (aP g l 0 (aF g l i)) (nI i) mem = some (oI (aF g l (g 3)), mem) := by
  have h2 := hO.1
  intro k
  induction k with
  | zero => intro i n h1 h2; omega
  | succ k ih =>
    intro i n h1 h3 h4
    obtain ⟨n, rfl, h5⟩ := succ_of h4
    rw [X2_bestReaderAloud_b9]
    by_cases hlt : i < g 3
    · have e := ih (i + 1) n (by omega) (by omega) (by omega)
      simp (disch := omega) only [hC.1.2.2.2.2, nI_ltI, hlt, if_true, c_fit hC hO hlt, c_cost hC hO ht hlt hl, cll_s, c_surv hC hO hlt hl, L32, b2_0, X2_bestReaderAloud_b79, X2_bestReaderAloud_b72, nI_add]
      rw [aF] at e
      by_cases hf : fitB g i = true
      · rw [if_pos hf]
        by_cases hv : liveB g i l = true
        · rw [if_pos hv]
          rw [if_pos (show afB g l i = true by unfold afB; rw [hf, hv]; rfl)] at e
          simp only [c_spA hC hO ht hlt hl (fit_alive hf), cll_s]
          have hs := spA_le hO (r := i) hl
          cases ho : aF g l i with
          | none =>
            rw [ho] at e
            rw [show oI none = -nI 1000000 from rfl, if_pos rfl]
            exact e
          | some b =>
            have hb := aF_lt g l i b ho
            have hs2 := spA_le hO (r := b) hl
            rw [ho] at e
            rw [show oI (some b) = nI b from rfl, if_neg (nI_ne (by omega)), show aP g l 0 (some b) = nI (spA g l b) from rfl]
            simp (disch := omega) only [nI_ltI]
            by_cases hp : spA g l i < spA g l b
            · rw [if_pos hp]
              simp only [hp, if_true] at e
              exact e
            · rw [if_neg hp]
              simp only [hp, if_false] at e
              exact e
        · rw [if_neg hv]
          rw [if_neg (show ¬ afB g l i = true by unfold afB; rw [hf]; simpa using hv)] at e
          exact e
      · rw [if_neg hf]
        rw [if_neg (show ¬ afB g l i = true by unfold afB; simp [hf])] at e
        exact e
    · have hE : i = g 3 := by omega
      simp (disch := omega) only [hC.1.2.2.2.2, nI_ltI, hlt, if_false]
      rw [hE]
theorem m_ba_l (hM : MO mem g) (hO : OkG t g) (ht : t ≤ 600) {l w : Nat} (hl : l < g 2) (hw : w < 2) : ∀ (k i n : Nat), i ≤ g 3 → g 3 - i < k → k ≤ n → X7_bestAloud_b31 57 n (nI l) (nI w) (oI (aF g l i)) (aP g l 1000000 (aF g l i)) (nI i) mem = some (if w = 0 then oI (aF g l (g 3)) else (match aF g l (g 3) with | none => -nI 1000000 | some b => nI (spA g l b)), mem) := by
  have h2 := hO.1
  have h4' := hO.2.1 l hl
  intro k
  induction k with
  | zero => intro i n h1 h2; omega
  | succ k ih =>
    intro i n h1 h3 h4
    obtain ⟨n, rfl, h5⟩ := succ_of h4
    rw [X7_bestAloud_b31]
    by_cases hlt : i < g 3
    · have e := ih (i + 1) n (by omega) (by omega) (by omega)
      have h9 := hO.2.2.1 i hlt
      have h5' : costN g i l ≤ 120 := costP_le (by omega)
      have h7 := m_span hM (r := i) (by omega)
      have h8 := m_age hM (r := i) (by omega)
      simp (disch := omega) only [m_readers hM, nI_ltI, hlt, if_true, m_fitR hM hO hlt, h7, h8, m_cost hM hO ht hlt hl, cll_s, L32, b2_0, nI_add, X7_bestAloud_b88, X7_bestAloud_b89, X7_bestAloud_b102, X7_bestAloud_b120, ite10]
      rw [aF] at e
      by_cases hf : fitB g i = true
      · rw [if_pos hf]
        by_cases hv : liveB g i l = true
        · have hv2 := hv
          simp only [liveB, decide_eq_true_eq] at hv2
          rw [if_pos hv2]
          rw [if_pos (show afB g l i = true by unfold afB; rw [hf, hv]; rfl)] at e
          simp only [m_spA hM hO ht hlt hl (fit_alive hf), cll_s]
          have hs := spA_le hO (r := i) hl
          cases ho : aF g l i with
          | none =>
            rw [ho] at e
            rw [show aP g l 1000000 none = nI 1000000 from rfl]
            simp (disch := omega) only [nI_ltI]
            rw [if_pos (by omega)]
            exact e
          | some b =>
            have hb := aF_lt g l i b ho
            have hs2 := spA_le hO (r := b) hl
            rw [ho] at e
            rw [show aP g l 1000000 (some b) = nI (spA g l b) from rfl]
            simp (disch := omega) only [nI_ltI]
            by_cases hp : spA g l i < spA g l b
            · rw [if_pos hp]
              simp only [hp, if_true] at e
              exact e
            · rw [if_neg hp]
              simp only [hp, if_false] at e
              exact e
        · have hv2 := hv
          simp only [liveB, decide_eq_true_eq] at hv2
          rw [if_neg hv2]
          rw [if_neg (show ¬ afB g l i = true by unfold afB; rw [hf]; simpa using hv)] at e
          exact e
      · rw [if_neg hf]
        rw [if_neg (show ¬ afB g l i = true by unfold afB; simp [hf])] at e
        exact e
    · have hE : i = g 3 := by omega
      simp (disch := omega) only [m_readers hM, cll_s, nI_ltI, hlt, if_false, L32, X7_bestAloud_b138]
      rw [hE]
      cases ho : aF g l (g 3) with
      | none =>
        rw [show oI none = -nI 1000000 from rfl, if_pos rfl]
        simp only [ite_self]
      | some b =>
        have hb := aF_lt g l _ b ho
        rw [show oI (some b) = nI b from rfl, if_neg (nI_ne (by omega)), show aP g l 1000000 (some b) = nI (spA g l b) from rfl]
        simp (disch := omega) only [nI_eq]
        by_cases hw0 : w = 0
        · rw [if_pos hw0, if_pos hw0]
        · rw [if_neg hw0, if_neg hw0]
theorem st_bestAloud : St_bestAloud Inv := by
  intro t mem a1 a2 ht hI
  obtain ⟨g, hC, hM, hO, hG, hA, hR, hT, hF, hT2⟩ := id hI
  have h2 := hO.1
  unfold X6_bestAloud X7_bestAloud
  rcases rng a1 (g 2) (by omega) with ⟨l, hl, rfl⟩ | hl
  · rcases rng a2 2 (by omega) with ⟨w, hw, rfl⟩ | hw
    · have e1 : X2_bestReaderAloud_b9 51 7 fu (nI l) (-nI 1000000) (nI 0) (nI 0) mem = _ := c_ba_l hC hO (by omega) hl (g 3 + 1) 0 fu (by omega) (by omega) (fu_ge (by omega))
      have e2 : X7_bestAloud_b31 57 fu (nI l) (nI w) (-nI 1000000) (nI 1000000) (nI 0) mem = _ := m_ba_l hM hO (by omega) hl hw (g 3 + 1) 0 fu (by omega) (by omega) (fu_ge (by omega))
      refine q_step hI (r := if w = 0 then oI (aF g l (g 3)) else (match aF g l (g 3) with | none => -nI 1000000 | some b => nI (spA g l b))) ?_ ?_
      · unfold X2_bestReaderAloud
        simp (disch := omega) only [rfs, c_hasLetter_y hC hO hl, c_isChoice_y hw, cll_s, L32, ite10, e1, nI_eq, Nat.one_ne_zero, if_false]
        cases ho : aF g l (g 3) with
        | none =>
          rw [show oI none = -nI 1000000 from rfl, if_pos rfl]
          simp only [ite_self]
        | some b =>
          have hb := aF_lt g l _ b ho
          have hfb : fitB g b = true := by
            have := hb.2
            unfold afB at this
            rw [Bool.and_eq_true] at this
            exact this.1
          rw [show oI (some b) = nI b from rfl, if_neg (nI_ne (by omega))]
          simp only [c_spA hC hO (t := t) (by omega) hb.1 hl (fit_alive hfb), cll_s]
          by_cases hw0 : w = 0
          · rw [if_pos hw0, if_pos hw0]
          · rw [if_neg hw0, if_neg hw0]
      · simp (disch := omega) only [m_isLetter_y hM hO hl, m_in_y, cll_s, L32, L64, ite10, Nat.one_ne_zero, if_false, e2]
    · refine q_step hI (r := -nI 1000001) ?_ ?_
      · simp only [rfs, c_hasLetter_y hC hO hl, c_isChoice_n hw, cll_s, L32, ite10, if_true]
      · simp (disch := omega) only [m_isLetter_y hM hO hl, m_in_n, cll_s, L32, L64, ite10, if_true]
  · refine q_step hI (r := -nI 1000001) ?_ ?_
    · simp only [rfs, c_hasLetter_n hC hO hl, cll_s, L32, if_true]
    · simp only [m_isLetter_n hM hO hl, cll_s, L32, if_true]
end LK3
/-! post -/
section LK4
variable {mem : Mem} {g : Nat → Nat} {t : Nat}
def costA (g : Nat → Nat) (r s : Nat) : Nat := sumP (hasB s) (costN g r) (g 2)
theorem costA_le (hO : OkG t g) (r s : Nat) : costA g r s ≤ 720 := by
  have h2 := hO.1
  have h := sumP_le (hasB s) (costN g r) 120 (g 2) (fun l hl => costP_le (by have := hO.2.1 l hl; omega))
  have h3 : g 2 * 120 ≤ 6 * 120 := Nat.mul_le_mul_right _ h2.2.2.2.1
  unfold costA
  omega
def deadB (g : Nat → Nat) (r s : Nat) : Bool := !decide (g (31 + r) + costA g r s < g (27 + r))
def poF (g : Nat → Nat) (r : Nat) : Nat → Option Nat
  | 0 => none
  | i + 1 => if deadB g r i = true then (match poF g r i with
    | none => some i
    | some b => if bits i < bits b then some i else some b) else poF g r i
theorem poF_lt (g : Nat → Nat) (r : Nat) : ∀ i b, poF g r i = some b → b < i
  | 0, b, h => by cases h
  | i + 1, b, h => by
    have ih := poF_lt g r i
    rw [poF] at h
    split at h
    · split at h
      · cases h; omega
      · rename_i c hc
        have := ih c hc
        split at h <;> cases h <;> omega
    · exact Nat.lt_succ_of_lt (ih b h)
def poP (o : Option Nat) : Int32 := match o with
  | none => nI 7
  | some b => nI (bits b)
theorem bits7 : ∀ s, s < 64 → bits s < 7 := by decide +kernel
theorem p2_64 {g : Nat → Nat} (h : g 2 ≤ 6) : 2 ^ g 2 ≤ 64 := p2_le (m := 6) h
theorem c_post_l (hC : CO mem 7 g) (hO : OkG t g) (ht : t ≤ 600) {r N : Nat} (hN : 2 ^ g 2 = N) (hr : r < g 3) : ∀ (k i n : Nat), i ≤ N → N - i < k → k ≤ n → X2_smallestDeadlySet_b10 51 7 n (nI r) (oI (poF g r i)) (poP (poF g r i)) (nI i) mem = some (oI (poF g r N), mem) := by
  have h2 := hO.1
  have h6 := p2_64 h2.2.2.2.1
  rw [hN] at h6
  intro k
  induction k with
  | zero => intro i n h1 h2; omega
  | succ k ih =>
    intro i n h1 h3 h4
    obtain ⟨n, rfl, h5⟩ := succ_of h4
    rw [X2_smallestDeadlySet_b10]
    by_cases hlt : i < N
    · have e := ih (i + 1) n (by omega) (by omega) (by omega)
      have h7 := costA_le hO r i
      have h8 := c_costOfAll hC hO ht hr (s := i) (by omega)
      have h9 := c_survives hC hO hr (d := costA g r i) (by omega)
      have h10 := bits7 i (by omega)
      have hc : X3_costOfAll 7 (nI r) (nI i) mem = some (nI (costA g r i), mem) := h8
      simp (disch := omega) only [hC.1.2.2.2.1, L32, shl_n, hN, nI_ltI, hlt, if_true, c_bitCount, cll_s, hc, h9, b2_0, X2_smallestDeadlySet_b62, nI_add]
      rw [poF] at e
      have hd : deadB g r i = true ↔ ¬ (g (31 + r) + costA g r i < g (27 + r)) := by simp [deadB]
      cases ho : poF g r i with
      | none =>
        rw [ho] at e
        rw [show poP none = nI 7 from rfl]
        simp (disch := omega) only [nI_ltI, h10, if_true]
        by_cases hv : g (31 + r) + costA g r i < g (27 + r)
        · rw [if_pos hv]
          rw [if_neg (fun z => (hd.mp z) hv)] at e
          exact e
        · rw [if_neg hv]
          rw [if_pos (hd.mpr hv)] at e
          exact e
      | some b =>
        have hb := poF_lt g r i b ho
        have h11 := bits7 b (by omega)
        rw [ho] at e
        rw [show poP (some b) = nI (bits b) from rfl]
        simp (disch := omega) only [nI_ltI]
        by_cases hp : bits i < bits b
        · rw [if_pos hp]
          by_cases hv : g (31 + r) + costA g r i < g (27 + r)
          · rw [if_pos hv]
            rw [if_neg (fun z => (hd.mp z) hv)] at e
            exact e
          · rw [if_neg hv]
            rw [if_pos (hd.mpr hv)] at e
            simp only [hp, if_true] at e
            exact e
        · rw [if_neg hp]
          by_cases hv : deadB g r i = true
          · rw [if_pos hv] at e
            simp only [hp, if_false] at e
            exact e
          · rw [if_neg hv] at e
            exact e
    · have hE : i = N := by omega
      simp (disch := omega) only [hC.1.2.2.2.1, L32, shl_n, hN, nI_ltI, hlt, if_false]
      rw [hE]
theorem oI_n : oI none = -nI 1000000 := rfl
theorem oI_s (b : Nat) : oI (some b) = nI b := rfl
theorem poF_no {g : Nat → Nat} {r i : Nat} (h : ¬ deadB g r i = true) : poF g r (i + 1) = poF g r i := by rw [poF, if_neg h]
theorem poF_n {g : Nat → Nat} {r i : Nat} (h : deadB g r i = true) (ho : poF g r i = none) : poF g r (i + 1) = some i := by rw [poF, if_pos h, ho]
theorem poF_s1 {g : Nat → Nat} {r i b : Nat} (h : deadB g r i = true) (ho : poF g r i = some b) (hp : bits i < bits b) : poF g r (i + 1) = some i := by rw [poF, if_pos h, ho]; exact if_pos hp
theorem poF_s2 {g : Nat → Nat} {r i b : Nat} (h : deadB g r i = true) (ho : poF g r i = some b) (hp : ¬ bits i < bits b) : poF g r (i + 1) = some b := by rw [poF, if_pos h, ho]; exact if_neg hp
def poW (w : Nat) (o : Option Nat) : Int32 := if w = 1 then oI o else (match o with | none => -nI 1000000 | some b => nI (bits b))
theorem m_bits64 {s : Nat} (hs : s < 64) (mem : Mem) : X7_bits (nI s) mem = some (nI (bits s), mem) := m_bits mem (Nat.lt_of_lt_of_le hs (Nat.le_of_ble_eq_true rfl))
theorem m_post_l (hM : MO mem g) (hO : OkG t g) (ht : t ≤ 600) {r w N : Nat} (hN : 2 ^ g 2 = N) (hr : r < g 3) (hw : w < 2) : ∀ (k i n : Nat), i ≤ N → N - i < k → k ≤ n → X7_post_b38 57 n (nI r) (nI w) (oI (poF g r i)) (nI i) mem = some (poW w (poF g r N), mem) := by
  have h2 := hO.1
  have h6 := p2_64 h2.2.2.2.1
  rw [hN] at h6
  have h13 := hO.2.2.1 r hr
  have h11 := m_age hM (r := r) (by omega)
  have h12 := m_span hM (r := r) (by omega)
  intro k
  induction k with
  | zero => intro i n h1 h2; omega
  | succ k ih =>
    intro i n h1 h3 h4
    obtain ⟨n, rfl, h5⟩ := succ_of h4
    rw [X7_post_b38]
    by_cases hlt : i < N
    · have e := ih (i + 1) n (by omega) (by omega) (by omega)
      have h7 := costA_le hO r i
      have h8 := m_costAll hM hO ht hr (s := i) (by omega)
      have h10 := bits7 i (by omega)
      have hc : X7_costAll 57 (nI r) (nI i) mem = some (nI (costA g r i), mem) := h8
      simp (disch := omega) only [m_letters hM, cll_s, L32, shl_n, hN, nI_ltI, hlt, if_true, X7_post_b67, X7_post_b72, X7_post_b105, X7_post_b106, ite10, h11, h12, hc, nI_add]
      have hb1 := m_bits64 (s := i) (by omega) mem
      have hd : deadB g r i = true ↔ ¬ (g (31 + r) + costA g r i < g (27 + r)) := by simp [deadB]
      cases ho : poF g r i with
      | none =>
        rw [oI_n, if_pos rfl]
        by_cases hv : g (31 + r) + costA g r i < g (27 + r)
        · rw [poF_no (fun z => (hd.mp z) hv), ho, oI_n] at e
          rw [if_pos hv]
          exact e
        · rw [poF_n (hd.mpr hv) ho, oI_s] at e
          rw [if_neg hv]
          exact e
      | some b =>
        have hb := poF_lt g r i b ho
        have h14 := bits7 b (by omega)
        rw [oI_s, if_neg (nI_ne (by omega))]
        rw [hb1, cll_s, m_bits64 (s := b) (by omega) mem, cll_s]
        simp (disch := omega) only [cll_s, nI_ltI, h11, h12, hc, nI_add]
        by_cases hv : g (31 + r) + costA g r i < g (27 + r)
        · rw [poF_no (fun z => (hd.mp z) hv), ho, oI_s] at e
          rw [if_pos hv]
          by_cases hp : bits i < bits b
          · rw [if_pos hp]; exact e
          · rw [if_neg hp]; exact e
        · rw [if_neg hv]
          by_cases hp : bits i < bits b
          · rw [poF_s1 (hd.mpr hv) ho hp, oI_s] at e
            rw [if_pos hp]; exact e
          · rw [poF_s2 (hd.mpr hv) ho hp, oI_s] at e
            rw [if_neg hp]; exact e
    · have hE : i = N := by omega
      simp (disch := omega) only [m_letters hM, cll_s, L32, shl_n, hN, nI_ltI, hlt, if_false, X7_post_b124]
      rw [hE]
      cases ho : poF g r N with
      | none =>
        rw [oI_n, if_pos rfl]
        unfold poW
        rw [oI_n, ite_self]
      | some b =>
        have hb := poF_lt g r _ b ho
        rw [oI_s, if_neg (nI_ne (by omega))]
        simp (disch := omega) only [m_bits64, cll_s, nI_eq]
        unfold poW
        rw [oI_s]
        by_cases hw0 : w = 1
        · rw [if_pos hw0, if_pos hw0]
        · rw [if_neg hw0, if_neg hw0]
theorem st_post : St_post Inv := by
  intro t mem a1 a2 ht hI
  obtain ⟨g, hC, hM, hO, hG, hA, hR, hT, hF, hT2⟩ := id hI
  have h2 := hO.1
  have h6 := p2_64 h2.2.2.2.1
  obtain ⟨N, hN⟩ : ∃ N, 2 ^ g 2 = N := ⟨_, rfl⟩
  rw [hN] at h6
  unfold X6_post X7_post
  rcases rng a1 (g 3) (by omega) with ⟨r, hr, rfl⟩ | hr
  · rcases rng a2 2 (by omega) with ⟨w, hw, rfl⟩ | hw
    · have e1 : X2_smallestDeadlySet_b10 51 7 fu (nI r) (-nI 1000000) (nI 7) (nI 0) mem = _ := c_post_l hC hO (by omega) hN hr (N + 1) 0 fu (by omega) (by omega) (fu_ge (by omega))
      have e2 : X7_post_b38 57 fu (nI r) (nI w) (-nI 1000000) (nI 0) mem = _ := m_post_l hM hO (by omega) hN hr hw (N + 1) 0 fu (by omega) (by omega) (fu_ge (by omega))
      refine q_step hI (r := if aliveB g r = true then poW w (poF g r N) else -nI 1000002) ?_ ?_
      · unfold X2_smallestDeadlySet
        simp (disch := omega) only [rfs, c_hasReader_y hC hO hr, c_isChoice_y hw, c_alive hC hO hr, b2_0, cll_s, L32, ite10, e1, nI_eq, Nat.one_ne_zero, if_false]
        by_cases ha : aliveB g r = true
        · rw [if_pos ha, if_pos ha]
          cases ho : poF g r N with
          | none =>
            rw [oI_n, if_pos rfl]
            unfold poW
            rw [oI_n, ite_self]
          | some b =>
            have hb := poF_lt g r _ b ho
            rw [oI_s, if_neg (nI_ne (by omega))]
            simp (disch := omega) only [c_bitCount, cll_s]
            unfold poW
            rw [oI_s]
            by_cases hw0 : w = 1
            · rw [if_pos hw0, if_pos hw0]
            · rw [if_neg hw0, if_neg hw0]
        · rw [if_neg ha, if_neg ha]
      · simp (disch := omega) only [m_isReader_y hM hO hr, m_in_y, m_aliveR hM hO hr, b2_0, cll_s, L32, L64, ite10, Nat.one_ne_zero, if_false, e2, some_ite]
    · refine q_step hI (r := -nI 1000001) ?_ ?_
      · simp only [rfs, c_hasReader_y hC hO hr, c_isChoice_n hw, cll_s, L32, ite10, if_true]
      · simp (disch := omega) only [m_isReader_y hM hO hr, m_in_n, cll_s, L32, L64, ite10, if_true]
  · refine q_step hI (r := -nI 1000001) ?_ ?_
    · simp only [rfs, c_hasReader_n hC hO hr, cll_s, L32, if_true]
    · simp only [m_isReader_n hM hO hr, cll_s, L32, if_true]
end LK4
