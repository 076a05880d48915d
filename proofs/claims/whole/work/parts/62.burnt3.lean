/-! ===== PURE: burnt, the reference's way ===== -/
theorem n64 {c : Nat} (h : c < 2 ^ 31) : (nI c).toInt64 = lN c := by
  apply Int64.toInt_inj.mp
  rw [i64i, nI_toInt h, lN_toInt h]
theorem lgz {a : Nat} (h : a < 2 ^ 31) : (lg_cmp (lN a) 0 = (0 : Int32)) = (a = 0) := by
  rw [show (0 : Int64) = lN 0 from rfl]
  apply propext
  constructor
  · intro e
    have h1 := (lg_cmp_le (lN a) (lN 0)).mp (by rw [e]; exact Int32.le_refl _)
    have := (lN_le h (by decide)).mp h1
    omega
  · intro e
    rw [e]
    exact Int32.le_antisymm ((lg_cmp_le (lN 0) (lN 0)).mpr ((lN_le (by decide) (by decide)).mpr (Nat.le_refl 0))) ((lg_cmp_ge (lN 0) (lN 0)).mpr ((lN_le (by decide) (by decide)).mpr (Nat.le_refl 0)))
theorem lN_divN {a b : Nat} (ha : a < 2 ^ 31) (hb : b < 2 ^ 31) : lN a / lN b = lN (a / b) := by
  apply Int64.toInt_inj.mp
  have h1 : a / b ≤ a := Nat.div_le_self a b
  rw [Int64.toInt_div, lN_toInt ha, lN_toInt hb, lN_toInt (by omega)]
  rw [show ((a : Int).tdiv (b : Int)) = ((a / b : Nat) : Int) from rfl, show (2 ^ 64 : Nat) = 18446744073709551616 from rfl]
  generalize a / b = q at h1
  rw [Int.bmod_def]
  omega
theorem lN_modN {x y : Nat} (hx : x < 2 ^ 30) (hy : y < 2 ^ 30) : lN x - lN x / lN y * lN y = lN (x % y) := by
  have h1 : x / y * y ≤ x := Nat.div_mul_le_self x y
  rw [lN_divN (by omega) (by omega), lN_mul, lN_sub h1]
  congr 1
  rw [Nat.mod_eq_sub_mul_div, Nat.mul_comm]
section BU3
variable {mem : Mem} {g : Nat → Nat} {t : Nat}
def buV (w W B G : Nat) : Int32 := if w = 0 then nI (W / G) else nI (B / G)
theorem m_gcd_l {w W B : Nat} (hw : w < 2) (hW : W < 2 ^ 30) (hB : B < 2 ^ 30) : ∀ (k x y n : Nat), x < 2 ^ 30 → y < 2 ^ 30 → y < 2 ^ k → 0 < x + y → 2 * k + 2 ≤ n → X7_burnt_b225 57 n (nI w) (lN W) (lN B) (lN x) (lN y) mem = some (buV w W B (Nat.gcd y x), mem) := by
  have stop : ∀ x, x < 2 ^ 30 → 0 < x → (if nI w = 0 then chk (¬ lN x = 0) (some ((lN W / lN x).toInt32, mem)) else chk (¬ lN x = 0) (some ((lN B / lN x).toInt32, mem))) = some (buV w W B x, mem) := by
    intro x hx h0
    have hne : ¬ lN x = 0 := fun z => by
      have := (lN_eq (a := x) (b := 0) (by omega) (by omega)).mp z
      omega
    rw [chk_t hne, chk_t hne, lN_divN (by omega) (by omega), lN_divN (by omega) (by omega), lN_i, lN_i, show (0 : Int32) = nI 0 from rfl]
    unfold buV
    rcases two hw with rfl | rfl
    · rw [if_pos rfl, if_pos rfl]
    · rw [if_neg nI01, if_neg (by decide)]
  intro k
  induction k with
  | zero =>
    intro x y n hx hy30 hy h0 hn
    obtain ⟨n, rfl, h5⟩ := succ_of (k := 1) (n := n) (by omega)
    have hy0 : y = 0 := by omega
    rw [X7_burnt_b225]
    dsimp only
    rw [if_pos ((lgz (a := y) (by omega)).mpr hy0), hy0, Nat.gcd_zero_left]
    exact stop x hx (by omega)
  | succ k ih =>
    intro x y n hx hy30 hy h0 hn
    obtain ⟨n, rfl, h5⟩ := succ_of (k := 2 * k + 3) (n := n) (by omega)
    rw [X7_burnt_b225]
    dsimp only
    by_cases hy0 : y = 0
    · rw [if_pos ((lgz (a := y) (by omega)).mpr hy0), hy0, Nat.gcd_zero_left]
      exact stop x hx (by omega)
    · have hne : ¬ lN y = 0 := fun z => hy0 ((lN_eq (a := y) (b := 0) (by omega) (by omega)).mp z)
      have hr := Nat.mod_lt x (show 0 < y by omega)
      rw [if_neg (fun z => hy0 ((lgz (a := y) (by omega)).mp z)), chk_t hne, lN_modN hx hy30]
      obtain ⟨n, rfl, h6⟩ := succ_of (k := 2 * k + 2) (n := n) (by omega)
      rw [X7_burnt_b225, Nat.gcd_rec y x]
      dsimp only
      by_cases h1 : x % y = 0
      · rw [if_pos ((lgz (a := x % y) (by omega)).mpr h1), h1, Nat.gcd_zero_left]
        exact stop y hy30 (by omega)
      · have hne1 : ¬ lN (x % y) = 0 := fun z => h1 ((lN_eq (a := x % y) (b := 0) (by omega) (by omega)).mp z)
        have hr2 := Nat.mod_lt y (show 0 < x % y by omega)
        rw [if_neg (fun z => h1 ((lgz (a := x % y) (by omega)).mp z)), chk_t hne1, lN_modN (by omega) (by omega), Nat.gcd_rec (x % y) y]
        exact ih (x % y) (y % (x % y)) n (by omega) (by omega) (gcd_half (by omega) (by omega) k hy) (by omega) (by omega)
theorem m_ten_l {w W Z : Nat} (hw : w < 2) (hW : W < 2 ^ 30) (hZ : Z ≤ 8) : ∀ (k j n : Nat), j ≤ Z → j < k → k ≤ n → X7_burnt_b198 57 n (nI w) (lN W) (lN (10 ^ (Z - j))) (nI j) mem = some (buV w W (10 ^ Z) (Nat.gcd (10 ^ Z) W), mem) := by
  have hB := pow10 (b := 10) (n := Z) (by omega) hZ
  have hB0 : 0 < 10 ^ Z := Nat.pow_pos (by omega)
  intro k
  induction k with
  | zero => intro j n h1 h2; omega
  | succ k ih =>
    intro j n h1 h3 h4
    obtain ⟨n, rfl, h5⟩ := succ_of h4
    rw [X7_burnt_b198]
    dsimp only
    have hz : ((0 : Int32) < nI j) = (0 < j) := by rw [show (0 : Int32) = nI 0 from rfl, nI_ltI (by omega) (by omega)]
    by_cases h : 0 < j
    · have e := ih (j - 1) n (by omega) (by omega) (by omega)
      rw [if_pos (hz.mpr h), show (-1 : Int32) = -nI 1 from rfl, nI_subm (by omega) (by omega), show (10 : Int64) = lN 10 from rfl, lN_mul, ← Nat.pow_succ, show (Z - j).succ = Z - (j - 1) by omega]
      exact e
    · have hj : j = 0 := by omega
      rw [if_neg (fun z => h (hz.mp z)), hj, Nat.sub_zero]
      exact m_gcd_l hw hW (by omega) 30 W (10 ^ Z) fu hW (by omega) (by omega) (by omega) (fu_ge (by omega))
end BU3
