/-! ===== PURE: read, aloud ===== -/
def orN (a l : Nat) : Nat := if hasB a l = true then a else a + 2 ^ l
theorem or6 : ∀ a, a < 64 → ∀ l, l < 6 → nI a ||| nI (2 ^ l) = nI (orN a l) := by decide +kernel
theorem or6b : ∀ a, a < 64 → ∀ l, l < 6 → orN a l < 64 ∧ hasB (orN a l) l = true := by decide +kernel
theorem sub_y : ∀ L, L < 16 → ∀ s, s < 16 → (∀ q, q < 4 → hasB L q = true → hasB s q = true) → nI L &&& (nI s ^^^ -nI 1) = nI 0 := by decide +kernel
theorem sub_n : ∀ L, L < 16 → ∀ s, s < 16 → nI L &&& (nI s ^^^ -nI 1) = nI 0 → ∀ q, q < 4 → hasB L q = true → hasB s q = true := by decide +kernel
theorem bit_lt : ∀ R, R ≤ 4 → ∀ L, L < 2 ^ R → ∀ q, q < 4 → R ≤ q → hasB L q = false := by decide +kernel
def tmN (g : Nat → Nat) (r l : Nat) : Nat := if g (31 + r) + costN g r l < g (27 + r) then 1 else 0
def acG (g : Nat → Nat) (r l L : Nat) : Nat → Nat := fun j => if j = 31 + r then g j + costN g r l else if j = 39 + 4 * l + r then g j + tmN g r l else if 31 ≤ j ∧ j < 31 + g 3 ∧ hasB L (j - 31) = true then g j + (costN g r l + 9) / 10 else if 35 ≤ j ∧ j < 35 + g 3 ∧ hasB L (j - 35) = true then orN (g j) l else g j
section RD1
variable {mem : Mem} {g : Nat → Nat} {t : Nat}
theorem acG_o {r l L j : Nat} (hr : r < g 3) (h3 : g 3 ≤ 4) (h : j < 31 ∨ 39 ≤ j) (h' : j ≠ 39 + 4 * l + r) : acG g r l L j = g j := by
  unfold acG
  rw [if_neg (show ¬ j = 31 + r by omega), if_neg h', if_neg (by omega), if_neg (by omega)]
theorem acG_t {r l L : Nat} (hr : r < g 3) (h3 : g 3 ≤ 4) : acG g r l L (39 + 4 * l + r) = g (39 + 4 * l + r) + tmN g r l := by
  unfold acG
  rw [if_neg (show ¬ 39 + 4 * l + r = 31 + r by omega), if_pos rfl]
theorem acG_r {r l L : Nat} : acG g r l L (31 + r) = g (31 + r) + costN g r l := if_pos rfl
theorem acG_a {r l L q : Nat} (hq : q < g 3) (h3 : g 3 ≤ 4) (e : q ≠ r) : acG g r l L (31 + q) = if hasB L q = true then g (31 + q) + (costN g r l + 9) / 10 else g (31 + q) := by
  unfold acG
  rw [if_neg (show ¬ 31 + q = 31 + r by omega), if_neg (show ¬ 31 + q = 39 + 4 * l + r by omega), Nat.add_sub_cancel_left]
  by_cases h : hasB L q = true
  · rw [if_pos ⟨by omega, by omega, h⟩, if_pos h]
  · rw [if_neg (fun z => h z.2.2), if_neg (by omega), if_neg h]
theorem acG_h {r l L q : Nat} (hr : r < g 3) (hq : q < g 3) (h3 : g 3 ≤ 4) : acG g r l L (35 + q) = if hasB L q = true then orN (g (35 + q)) l else g (35 + q) := by
  unfold acG
  rw [if_neg (show ¬ 35 + q = 31 + r by omega), if_neg (show ¬ 35 + q = 39 + 4 * l + r by omega), if_neg (by omega), Nat.add_sub_cancel_left]
  by_cases h : hasB L q = true
  · rw [if_pos ⟨by omega, by omega, h⟩, if_pos h]
  · rw [if_neg (fun z => h z.2.2), if_neg h]
theorem OkG.acg (hO : OkG t g) {r l L : Nat} (hr : r < g 3) (hl : l < g 2) (hf : fitB g r = true) (hL : ∀ q, q < g 3 → hasB L q = true → aliveB g q = true) : OkG (t + 1) (acG g r l L) := by
  have h2 := hO.1
  have hc : costN g r l ≤ 120 := costP_le (by have := hO.2.1 l hl; omega)
  have ee : ∀ j, (j < 31 ∨ 39 ≤ j) → j ≠ 39 + 4 * l + r → acG g r l L j = g j := fun j h h' => acG_o hr (by omega) h h'
  refine ⟨?_, fun x hx => ?_, fun q hq => ?_, fun q x hq hx => ?_⟩
  · rw [ee 0 (by omega) (by omega), ee 1 (by omega) (by omega), ee 2 (by omega) (by omega), ee 3 (by omega) (by omega), ee 4 (by omega) (by omega)]
    exact hO.1
  · rw [ee 2 (by omega) (by omega)] at hx
    rw [ee _ (by omega) (by omega), ee _ (by omega) (by omega), ee _ (by omega) (by omega)]
    exact hO.2.1 x hx
  · rw [ee 3 (by omega) (by omega)] at hq
    have p := hO.2.2.1 q hq
    rw [ee (23 + q) (by omega) (by omega), ee (27 + q) (by omega) (by omega), ee 4 (by omega) (by omega), acG_h hr hq (by omega)]
    refine ⟨p.1, p.2.1, p.2.2.1, ?_, ?_⟩
    · by_cases e : q = r
      · rw [e, acG_r]
        rw [e] at p
        simp only [fitB, decide_eq_true_eq] at hf
        omega
      · rw [acG_a hq (by omega) e]
        by_cases hb : hasB L q = true
        · have := hL q hq hb
          simp only [aliveB, decide_eq_true_eq] at this
          rw [if_pos hb]
          omega
        · rw [if_neg hb]
          exact p.2.2.2.1
    · split
      · exact (or6b _ p.2.2.2.2 l (by omega)).1
      · exact p.2.2.2.2
  · rw [ee 2 (by omega) (by omega)] at hx
    rw [ee 3 (by omega) (by omega)] at hq
    have p := hO.2.2.2 q x hq hx
    by_cases e : 39 + 4 * x + q = 39 + 4 * l + r
    · rw [e, acG_t hr (by omega), ← e]
      have : tmN g r l ≤ 1 := by unfold tmN; split <;> omega
      omega
    · rw [ee _ (by omega) e]
      omega
def newB (L : Nat) (H : Nat → Nat) (l q : Nat) : Bool := hasB L q && !hasB (H q) l
theorem c_hear_l {R L d l : Nat} (hR : R ≤ 4) (hL : L < 16) (hd : d ≤ 120) (hl : l < 6) (A H : Nat → Nat) : ∀ (k i n : Nat) (mem : Mem), mem 7 7 = nI R →
    (∀ r, i ≤ r → r < R → mem 12 r = nI (A r) ∧ mem 14 r = nI (H r) ∧ A r < 3000 ∧ H r < 64) →
    i ≤ R → R - i < k → k ≤ n → ∃ m', X0_letHear_b6 7 n (nI l) (nI L) (nI d) (nI (sett (newB L H l) i)) (nI i) mem = some (nI (sett (newB L H l) R), m') ∧ (∀ q, q ≠ 12 → q ≠ 14 → m' q = mem q) ∧ (∀ r, i ≤ r → r < R → m' 12 r = nI (if hasB L r = true then A r + d else A r) ∧ m' 14 r = nI (if hasB L r = true then orN (H r) l else H r)) ∧ ∀ r, ¬ (i ≤ r ∧ r < R) → m' 12 r = mem 12 r ∧ m' 14 r = mem 14 r := by
  intro k
  induction k with
  | zero => intro i n mem _ _ h1 h2; omega
  | succ k ih =>
    intro i n mem e7 hA h1 h3 h4
    obtain ⟨n, rfl, h5⟩ := succ_of h4
    rw [X0_letHear_b6]
    by_cases hlt : i < R
    · obtain ⟨x1, x2, x3, x4⟩ := hA i (Nat.le_refl i) hlt
      obtain ⟨v, hv⟩ : ∃ v, v = (if hasB L i = true then A i + d else A i) := ⟨_, rfl⟩
      obtain ⟨w, hw⟩ : ∃ w, w = (if hasB L i = true then orN (H i) l else H i) := ⟨_, rfl⟩
      obtain ⟨m', e1, e2, e3, e4⟩ := ih (i + 1) n (st2 (st2 mem 14 i (nI w)) 12 i (nI v)) (by rw [st2_k (by omega), st2_k (by omega), e7])
        (fun r z1 z2 => by rw [st2_i (show r ≠ i by omega), st2_k (show (12 : Nat) ≠ 14 by omega), st2_k (show (14 : Nat) ≠ 12 by omega), st2_i (show r ≠ i by omega)]; exact hA r (by omega) z2) (by omega) (by omega) (by omega)
      have hs : sett (newB L H l) i < 16 := sett_small (newB L H l) (n := i) (m := 4) (by omega)
      refine ⟨m', ?_, fun q z1 z2 => by rw [e2 q z1 z2, st2_k z1, st2_k z2], fun r z1 z2 => ?_, fun r z => ?_⟩
      · by_cases hb : hasB L i = true
        · rw [if_pos hb] at hv hw
          have ho := or6 (H i) x4 l hl
          by_cases hh : hasB (H i) l = true
          · rw [sett_no _ _ (show ¬ newB L H l i = true by unfold newB; rw [hb, hh]; decide)] at e1
            simp (disch := omega) only [rfs, e7, nI_ltI, hlt, if_true, c_inSet, cll_s, L32, b2_0, hb, al, x2, hh, X0_letHear_b50, X0_letHear_b74, shl_n, ho, as_, st2_k, x1, nI_add]
            rw [← hv, ← hw]
            exact e1
          · rw [← sett_or _ _ (show newB L H l i = true by unfold newB; rw [hb]; simpa using hh)] at e1
            have hor : nI (sett (newB L H l) i) ||| nI (2 ^ i) = nI (sett (newB L H l) i ||| 2 ^ i) := or_n _ _
            simp (disch := omega) only [rfs, e7, nI_ltI, hlt, if_true, c_inSet, cll_s, L32, b2_0, hb, al, x2, hh, Bool.false_eq_true, if_false, X0_letHear_b50, X0_letHear_b74, shl_n, ho, hor, as_, st2_k, x1, nI_add]
            rw [← hv, ← hw]
            exact e1
        · rw [if_neg hb] at hv hw
          rw [sett_no _ _ (show ¬ newB L H l i = true by unfold newB; simp [hb])] at e1
          rw [hv, hw, ← x2, st2_self, ← x1, st2_self] at e1
          simp (disch := omega) only [e7, nI_ltI, hlt, if_true, c_inSet, cll_s, L32, b2_0, hb, Bool.false_eq_true, if_false, X0_letHear_b74, nI_add]
          exact e1
      · by_cases hr : r = i
        · obtain ⟨y1, y2⟩ := e4 r (by omega)
          rw [y1, y2, hr, st2_s, st2_k (by omega), st2_s, hv, hw]
          exact ⟨rfl, rfl⟩
        · exact e3 r (by omega) z2
      · obtain ⟨y1, y2⟩ := e4 r (by omega)
        rw [y1, y2, st2_i (show r ≠ i by omega), st2_k (show (12 : Nat) ≠ 14 by omega), st2_k (show (14 : Nat) ≠ 12 by omega), st2_i (show r ≠ i by omega)]
        exact ⟨rfl, rfl⟩
    · have hE : i = R := by omega
      refine ⟨mem, ?_, fun _ _ _ => rfl, fun r z1 z2 => by omega, fun _ _ => ⟨rfl, rfl⟩⟩
      simp (disch := omega) only [e7, nI_ltI, hlt, if_false]
      rw [hE]
end RD1
