/-! ===== PURE: allRead, the first code that goes ===== -/
def firB (p : Nat → Bool) : Nat → Option Nat
  | 0 => none
  | n + 1 => match firB p n with
    | some c => some c
    | none => if p n = true then some n else none
theorem fir_none {p : Nat → Bool} : ∀ n, (∀ i, i < n → p i = false) → firB p n = none
  | 0, _ => rfl
  | n + 1, h => by rw [firB, fir_none n (fun i hi => h i (by omega)), h n (by omega)]; rfl
theorem fir_some {p : Nat → Bool} {c : Nat} (hc : p c = true) (hm : ∀ i, i < c → p i = false) : ∀ n, c < n → firB p n = some c
  | 0, h => by omega
  | n + 1, h => by
    rw [firB]
    by_cases e : c = n
    · subst e
      rw [fir_none c hm]
      show (if p c = true then some c else none) = some c
      rw [if_pos hc]
    · rw [fir_some hc hm n (by omega)]
def x3I : Option Nat → Int32
  | none => -nI 1000000
  | some c => nI c
def x4I (g : Nat → Nat) : Option Nat → Int32
  | none => nI 1000000
  | some _ => nI (totC g)
section AR4
variable {g : Nat → Nat} {t : Nat}
theorem tot_le (hO : OkG t g) : totC g ≤ 720 := by
  have h2 := hO.1
  have : ∀ n, n ≤ g 2 → sumP (unB g) (fcL g) n ≤ 120 * n := by
    intro n
    induction n with
    | zero => intro _; exact Nat.le_refl _
    | succ n ih =>
      intro h
      have := ih (by omega)
      have hf : fcL g n ≤ 120 := fcN_le (hO.2.1 n (by omega)).2.2.2.1
      rw [sumP]
      split <;> omega
  have := this (g 2) (Nat.le_refl _)
  unfold totC
  omega
theorem m_scan_l (hO : OkG t g) (ht : t ≤ 600) {W : Nat} (hW : W ≤ 4500) (hR : ∀ l, l < g 2 → unB g l = true → 0 < g 3) (x1 : Int32) {P : Int32 → Int32 → Mem → Option (Int32 × Mem) → Prop} (hend : ∀ m', MO m' g → ∀ o : Option (Int32 × Mem), o = (if x4I g (firB (okC g) W) = (1000000 : Int32) then X7_allRead_b127 57 (x4I g (firB (okC g) W)) m' else if x1 = -1 then X7_allRead_b127 57 (x4I g (firB (okC g) W)) m' else cll (X7_spentBy 57 (x3I (firB (okC g) W)) m') fun r17 m18 => ald m18 (rf 57 15) x1 fun z19 => some (z19, m18)) → P (x3I (firB (okC g) W)) (x4I g (firB (okC g) W)) m' o) (hfr : ∀ x3 x4 m m' o, (∀ q, q ≠ 66 → q ≠ 67 → m' q = m q) → P x3 x4 m' o → P x3 x4 m o) : ∀ (k c n : Nat) (mem : Mem), MO mem g → c ≤ W → W - c < k → k ≤ n → P (x3I (firB (okC g) W)) (x4I g (firB (okC g) W)) mem (X7_allRead_b65 57 n x1 (nI W) (x3I (firB (okC g) c)) (x4I g (firB (okC g) c)) (nI c) mem) := by
  have htot := tot_le hO
  intro k
  induction k with
  | zero => intro c n mem _ h1 h2; omega
  | succ k ih =>
    intro c n mem hM h1 h3 h4
    obtain ⟨n, rfl, h5⟩ := succ_of h4
    rw [X7_allRead_b65]
    dsimp only
    have hz : (nI c < nI W) = (c < W) := by rw [nI_ltI (by omega) (by omega)]
    by_cases hlt : c < W
    · obtain ⟨m1, p1, p2, _⟩ := m_spentBy hM hO ht (c := c) (by omega) hR
      have e := ih (c + 1) n m1 (hM.fr (p2 62 (by omega) (by omega))) (by omega) (by omega) (by omega)
      rw [if_pos (hz.mpr hlt), p1, cll_s]
      refine hfr _ _ _ _ _ p2 ?_
      unfold X7_allRead_b92 X7_allRead_b107
      rw [show (1 : Int32) = nI 1 from rfl, nI_add]
      rw [firB] at e
      have h0 : ¬ nI 1000000 < nI (totC g) := by rw [nI_ltI (by omega) (by omega)]; omega
      have h00 : ¬ nI 1000000 < nI 1000000 := by rw [nI_ltI (by omega) (by omega)]; omega
      have htt : ¬ nI (totC g) < nI (totC g) := by rw [nI_ltI (by omega) (by omega)]; omega
      have ht0 : nI (totC g) < nI 1000000 := by rw [nI_ltI (by omega) (by omega)]; omega
      cases hf : firB (okC g) c with
      | none =>
        rw [hf] at e
        by_cases hk : okC g c = true
        · rw [hk] at e
          rw [hk, if_pos rfl, show x4I g none = nI 1000000 from rfl, show x3I none = -nI 1000000 from rfl, if_pos ht0, if_pos ht0]
          exact e
        · rw [Bool.not_eq_true] at hk
          rw [hk] at e
          rw [hk, if_neg (show ¬ false = true by decide), show x4I g none = nI 1000000 from rfl, show x3I none = -nI 1000000 from rfl, if_neg h00, if_neg h00]
          exact e
      | some d =>
        rw [hf] at e
        rw [show x4I g (some d) = nI (totC g) from rfl, show x3I (some d) = nI d from rfl]
        by_cases hk : okC g c = true
        · rw [hk, if_pos rfl, if_neg htt, if_neg htt]
          exact e
        · rw [Bool.not_eq_true] at hk
          rw [hk, if_neg (show ¬ false = true by decide), if_neg h0, if_neg h0]
          exact e
    · have hE : c = W := by omega
      rw [if_neg (fun z => hlt (hz.mp z)), hE]
      exact hend mem hM _ rfl
end AR4
