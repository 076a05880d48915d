/-! ===== PURE: ages, sums ===== -/
theorem sumP_congr {p q : Nat → Bool} {f h : Nat → Nat} : ∀ n, (∀ i, i < n → p i = q i) → (∀ i, i < n → p i = true → f i = h i) → sumP p f n = sumP q h n
  | 0, _, _ => rfl
  | n + 1, h1, h2 => by
    have ih := sumP_congr n (fun i hi => h1 i (by omega)) (fun i hi => h2 i (by omega))
    rw [sumP, sumP, ih, ← h1 n (by omega)]
    by_cases e : p n = true
    · rw [if_pos e, if_pos e, h2 n (by omega) e]
    · rw [if_neg e, if_neg e]
theorem sumP_one {p q : Nat → Bool} {f : Nat → Nat} {d : Nat} (hp : p d = false) (hq : q d = true) : ∀ n, d < n → (∀ i, i < n → i ≠ d → p i = q i) → sumP q f n = sumP p f n + f d
  | 0, h, _ => by omega
  | n + 1, h, h1 => by
    rw [sumP, sumP]
    by_cases e : n = d
    · subst e
      have := sumP_congr (p := p) (q := q) (f := f) (h := f) n (fun i hi => h1 i (by omega) (by omega)) (fun _ _ _ => rfl)
      rw [this, if_pos hq, if_neg (by rw [hp]; decide)]
      omega
    · have ih := sumP_one (f := f) hp hq n (by omega) (fun i hi => h1 i (by omega))
      rw [ih, h1 n (by omega) e]
      omega
theorem sumP_no {p : Nat → Bool} {f : Nat → Nat} : ∀ n, (∀ i, i < n → p i = false) → sumP p f n = 0
  | 0, _ => rfl
  | n + 1, h => by
    rw [sumP, sumP_no n (fun i hi => h i (by omega)), if_neg (by rw [h n (by omega)]; decide)]
theorem sumP_zf {p : Nat → Bool} {f : Nat → Nat} : ∀ n, (∀ i, i < n → p i = true → f i = 0) → sumP p f n = 0
  | 0, _ => rfl
  | n + 1, h => by
    rw [sumP, sumP_zf n (fun i hi => h i (by omega))]
    by_cases e : p n = true
    · rw [if_pos e, h n (by omega) e]
    · rw [if_neg e]
theorem bit_add : ∀ s, s < 64 → ∀ l, l < 6 → hasB s l = false → nI s ||| nI (2 ^ l) = nI (s + 2 ^ l) ∧ s + 2 ^ l < 64 ∧ hasB (s + 2 ^ l) l = true := by decide +kernel
theorem bit_same : ∀ s, s < 64 → ∀ l, l < 6 → hasB s l = true → nI s ||| nI (2 ^ l) = nI s := by decide +kernel
theorem bit_sub : ∀ s, s < 64 → ∀ l, l < 6 → hasB s l = true → hasB (s - 2 ^ l) l = false := by decide +kernel
