/-! ===== PURE: undo ===== -/
theorem clr6 : ∀ a, a < 64 → ∀ l, l < 6 → hasB a l = true → nI a &&& (nI (2 ^ l) ^^^ -nI 1) = nI (a - 2 ^ l) := by decide +kernel
theorem nI_subm {a b : Nat} (hb : b ≤ a) (ha : a < 2 ^ 20) : nI a + -nI b = nI (a - b) := by
  apply Int32.toInt_inj.mp
  rw [Int32.toInt_add, Int32.toInt_neg, nI_toInt (by omega), nI_toInt (by omega), nI_toInt (by omega), Int.bmod_def, Int.bmod_def]
  omega
theorem st2_self {mem : Mem} {k i : Nat} : st2 mem k i (mem k i) = mem := by
  funext q j
  rw [st2_at]
  by_cases h : q = k ∧ j = i
  · rw [if_pos h, h.1, h.2]
  · rw [if_neg h]
section AC5
variable {mem : Mem} {g : Nat → Nat} {t : Nat}
theorem c_back_l {R c L d NL l : Nat} (hR : R ≤ 4) (hc : c < 24) (hL : L < 16) (hNL : NL < 16) (hd : d ≤ 120) (hl : l < 6) (A H : Nat → Nat) : ∀ (k i n : Nat) (mem : Mem), mem 7 7 = nI R → mem 43 7 = nI c → mem 49 c = nI L → mem 47 c = nI d → mem 50 c = nI NL →
    (∀ r, i ≤ r → r < R → mem 12 r = nI (A r) ∧ mem 14 r = nI (H r) ∧ A r < 3000 ∧ H r < 64 ∧ (hasB L r = true → (d + 9) / 10 ≤ A r) ∧ (hasB NL r = true → hasB (H r) l = true)) →
    i ≤ R → R - i < k → k ≤ n → ∃ m', X0_takeReadingBack_b57 43 7 n (nI l) (nI i) mem = some ((), m') ∧ (∀ q, q ≠ 12 → q ≠ 14 → m' q = mem q) ∧ (∀ r, i ≤ r → r < R → m' 12 r = nI (if hasB L r = true then A r - (d + 9) / 10 else A r) ∧ m' 14 r = nI (if hasB NL r = true then H r - 2 ^ l else H r)) ∧ ∀ r, ¬ (i ≤ r ∧ r < R) → m' 12 r = mem 12 r ∧ m' 14 r = mem 14 r := by
  intro k
  induction k with
  | zero => intro i n mem _ _ _ _ _ _ h1 h2; omega
  | succ k ih =>
    intro i n mem e7 ec eL ed eN hA h1 h3 h4
    obtain ⟨n, rfl, h5⟩ := succ_of h4
    rw [X0_takeReadingBack_b57]
    by_cases hlt : i < R
    · obtain ⟨x1, x2, x3, x4, x5, x6⟩ := hA i (Nat.le_refl i) hlt
      obtain ⟨v, hv⟩ : ∃ v, v = (if hasB L i = true then A i - (d + 9) / 10 else A i) := ⟨_, rfl⟩
      obtain ⟨w, hw⟩ : ∃ w, w = (if hasB NL i = true then H i - 2 ^ l else H i) := ⟨_, rfl⟩
      obtain ⟨m', e1, e2, e3, e4⟩ := ih (i + 1) n (st2 (st2 mem 12 i (nI v)) 14 i (nI w)) (by rw [st2_k (by omega), st2_k (by omega), e7]) (by rw [st2_k (by omega), st2_k (by omega), ec]) (by rw [st2_k (by omega), st2_k (by omega), eL]) (by rw [st2_k (by omega), st2_k (by omega), ed]) (by rw [st2_k (by omega), st2_k (by omega), eN])
        (fun r z1 z2 => by rw [st2_k (show (12 : Nat) ≠ 14 by omega), st2_i (show r ≠ i by omega), st2_i (show r ≠ i by omega), st2_k (show (14 : Nat) ≠ 12 by omega)]; exact hA r (by omega) z2) (by omega) (by omega) (by omega)
      have s12 : st2 mem 12 i (mem 12 i) = mem := st2_self
      have s14 : ∀ mm : Mem, st2 mm 14 i (mm 14 i) = mm := fun mm => st2_self
      refine ⟨m', ?_, fun q z1 z2 => by rw [e2 q z1 z2, st2_k z2, st2_k z1], fun r z1 z2 => ?_, fun r z => ?_⟩
      · have hNs : ∀ mm : Mem, mm 43 7 = nI c → mm 50 c = nI NL → mm 14 i = nI (H i) → X0_takeReadingBack_b105 43 7 (X0_takeReadingBack_b57 43 7 n) (nI l) (nI i) mm = X0_takeReadingBack_b57 43 7 n (nI l) (nI (i + 1)) (st2 mm 14 i (nI w)) := by
          intro mm y1 y2 y3
          unfold X0_takeReadingBack_b105 X0_takeReadingBack_b137
          by_cases hb : hasB NL i = true
          · have hx := clr6 (H i) x4 l hl (x6 hb)
            rw [if_pos hb] at hw
            simp (disch := omega) only [rfs, y1, al, y2, c_inSet, cll_s, b2_0, hb, if_true, y3, L32, shl_n, hx, as_, nI_add, hw]
          · rw [if_neg hb] at hw
            rw [hw, ← y3, s14 mm]
            simp (disch := omega) only [rfs, y1, al, y2, c_inSet, cll_s, b2_0, hb, if_false, L32, nI_add, Bool.false_eq_true]
        by_cases hb : hasB L i = true
        · rw [if_pos hb] at hv
          have hx := x5 hb
          simp (disch := omega) only [rfs, e7, nI_ltI, hlt, if_true, ec, al, eL, c_inSet, cll_s, L32, b2_0, hb, if_true, x1, ed, c_tenthUp, pk_sub, as_]
          rw [← hv, hNs (st2 mem 12 i (nI v)) (by rw [st2_k (by omega), ec]) (by rw [st2_k (by omega), eN]) (by rw [st2_k (by omega), x2])]
          exact e1
        · rw [if_neg hb] at hv
          simp (disch := omega) only [rfs, e7, nI_ltI, hlt, if_true, ec, al, eL, c_inSet, cll_s, L32, b2_0, hb, if_false, Bool.false_eq_true]
          rw [hNs mem ec eN x2]
          rw [hv, ← x1, s12] at e1
          exact e1
      · by_cases hr : r = i
        · obtain ⟨y1, y2⟩ := e4 r (by omega)
          rw [y1, y2, hr, st2_k (by omega), st2_s, st2_s, hv, hw]
          exact ⟨rfl, rfl⟩
        · exact e3 r (by omega) z2
      · obtain ⟨y1, y2⟩ := e4 r (by omega)
        rw [y1, y2, st2_k (show (12 : Nat) ≠ 14 by omega), st2_i (show r ≠ i by omega), st2_i (show r ≠ i by omega), st2_k (show (14 : Nat) ≠ 12 by omega)]
        exact ⟨rfl, rfl⟩
    · refine ⟨mem, ?_, fun _ _ _ => rfl, fun r z1 z2 => by omega, fun _ _ => ⟨rfl, rfl⟩⟩
      simp (disch := omega) only [e7, nI_ltI, hlt, if_false]
end AC5
