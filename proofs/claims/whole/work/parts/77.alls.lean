/-! ===== PURE: allRead, who takes what, by codes ===== -/
def allB (p : Nat → Bool) : Nat → Bool
  | 0 => true
  | n + 1 => allB p n && p n
theorem allB_iff {p : Nat → Bool} : ∀ n, allB p n = true ↔ ∀ i, i < n → p i = true
  | 0 => by simp [allB]
  | n + 1 => by
    rw [allB, Bool.and_eq_true, allB_iff n]
    constructor
    · intro h i hi
      by_cases e : i = n
      · rw [e]; exact h.2
      · exact h.1 i (by omega)
    · intro h
      exact ⟨fun i hi => h i (by omega), h n (by omega)⟩
def fcL (g : Nat → Nat) (l : Nat) : Nat := fcN (g (5 + l)) (g (11 + l))
/-- how many codes there are for the letters from l on -/
def wC (g : Nat → Nat) (l : Nat) : Nat := g 3 ^ (cntP (unB g) (g 2) - cntP (unB g) l)
def dC (g : Nat → Nat) (c l : Nat) : Nat := c / wC g (l + 1) % g 3
def ldC (g : Nat → Nat) (c r n : Nat) : Nat := sumP (fun l => unB g l && decide (dC g c l = r)) (fcL g) n
def f1C (g : Nat → Nat) (c n : Nat) : Bool := allB (fun l => !unB g l || fitB g (dC g c l)) n
def f2C (g : Nat → Nat) (c r : Nat) : Bool := !fitB g r || decide (g (31 + r) + ldC g c r (g 2) < g (27 + r))
def okC (g : Nat → Nat) (c : Nat) : Bool := f1C g c (g 2) && allB (f2C g c) (g 3)
def totC (g : Nat → Nat) : Nat := sumP (unB g) (fcL g) (g 2)
theorem cntP_mono {p : Nat → Bool} : ∀ n m, m ≤ n → cntP p m ≤ cntP p n
  | 0, m, h => by rw [show m = 0 by omega]; exact Nat.le_refl _
  | n + 1, m, h => by
    by_cases e : m = n + 1
    · rw [e]; exact Nat.le_refl _
    · have := cntP_mono (p := p) n m (by omega)
      rw [cntP]
      omega
section AR1
variable {g : Nat → Nat}
theorem wC_N : wC g (g 2) = 1 := by unfold wC; rw [Nat.sub_self, Nat.pow_zero]
theorem wC_y {l : Nat} (hl : l < g 2) (hu : unB g l = true) : wC g l = wC g (l + 1) * g 3 := by
  unfold wC
  have h1 := cntP_mono (p := unB g) (g 2) (l + 1) (by omega)
  have h2 : cntP (unB g) (l + 1) = cntP (unB g) l + 1 := by rw [cntP, if_pos hu]
  rw [← Nat.pow_succ]
  congr 1
  omega
theorem wC_n {l : Nat} (hu : ¬ unB g l = true) : wC g l = wC g (l + 1) := by
  unfold wC
  have h2 : cntP (unB g) (l + 1) = cntP (unB g) l := by rw [cntP, if_neg hu, Nat.add_zero]
  rw [h2]
theorem wC_0 : wC g 0 = g 3 ^ cntP (unB g) (g 2) := by
  unfold wC
  rw [show cntP (unB g) 0 = 0 from rfl, Nat.sub_zero]
/-- what stands before a letter depends on the block alone -/
theorem wC_div {l l' : Nat} (hl : l ≤ g 2) (h : l' < l) (c : Nat) : c / wC g (l' + 1) = c / wC g l / g 3 ^ (cntP (unB g) l - cntP (unB g) (l' + 1)) := by
  rw [Nat.div_div_eq_div_mul]
  congr 1
  unfold wC
  rw [← Nat.pow_add]
  have h1 := cntP_mono (p := unB g) (g 2) l hl
  have h2 := cntP_mono (p := unB g) l (l' + 1) (by omega)
  congr 1
  omega
theorem dC_blk {l l' c c' : Nat} (hl : l ≤ g 2) (h : l' < l) (e : c / wC g l = c' / wC g l) : dC g c l' = dC g c' l' := by
  unfold dC
  rw [wC_div hl h, wC_div hl h, e]
theorem ldC_blk {l c c' : Nat} (hl : l ≤ g 2) (e : c / wC g l = c' / wC g l) (r : Nat) : ∀ n, n ≤ l → ldC g c r n = ldC g c' r n := by
  intro n hn
  unfold ldC
  exact sumP_congr n (fun i hi => by rw [dC_blk hl (show i < l by omega) e]) (fun _ _ _ => rfl)
theorem f1C_blk {l c c' : Nat} (hl : l ≤ g 2) (e : c / wC g l = c' / wC g l) (h : f1C g c l = true) : f1C g c' l = true := by
  unfold f1C at h ⊢
  rw [allB_iff] at h ⊢
  intro i hi
  rw [← dC_blk hl hi e]
  exact h i hi
theorem blk_div {k w c : Nat} (h1 : k * w ≤ c) (h2 : c < k * w + w) : c / w = k := by
  rw [Nat.mul_comm] at h1 h2
  exact Nat.div_eq_of_lt_le (by rw [Nat.mul_comm]; exact h1) (by rw [Nat.succ_mul, Nat.mul_comm k w]; exact h2)
theorem ld_mono {c r : Nat} : ∀ n m, m ≤ n → ldC g c r m ≤ ldC g c r n
  | 0, m, h => by rw [show m = 0 by omega]; exact Nat.le_refl _
  | n + 1, m, h => by
    by_cases e : m = n + 1
    · rw [e]; exact Nat.le_refl _
    · have := ld_mono (c := c) (r := r) n m (by omega)
      unfold ldC at this ⊢
      rw [sumP]
      omega
end AR1
