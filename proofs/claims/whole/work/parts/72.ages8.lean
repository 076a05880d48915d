/-! ===== PURE: ages, the reference's day, whole ===== -/
section AG7
variable {g : Nat → Nat} {t : Nat} {e0 : Bool} {el : Nat → Bool} {B : Nat → Nat}
theorem m_on_l {x : Int32} (hO : OkG t g) (he0 : (x = nI 0) ↔ e0 = true) (hel : ∀ l, l < g 2 → ((nI (fcN (g (5 + l)) (g (11 + l))) = x) ↔ el l = true)) : ∀ (k i n : Nat) (mem : Mem), MO mem g → (∀ z, z < 64 → mem 68 z = nI (B z)) → (∀ z, z < i → mem 69 z = nI (if e0 = true then B z else 0)) → i ≤ 64 → 64 - i < k → k ≤ n → ∃ m', X7_readOn_b2 57 n x (nI i) mem = some ((), m') ∧ (∀ q, q ≠ 68 → q ≠ 69 → m' q = mem q) ∧ ∀ z, z < 64 → m' 68 z = nI (stpN g e0 el B z (g 2)) := by
  intro k
  induction k with
  | zero => intro i n mem _ _ _ h1 h2; omega
  | succ k ih =>
    intro i n mem hM hB hT h1 h3 h4
    obtain ⟨n, rfl, h5⟩ := succ_of h4
    rw [X7_readOn_b2]
    dsimp only
    have hz : (nI i < (64 : Int32)) = (i < 64) := by rw [show (64 : Int32) = nI 64 from rfl, nI_ltI (by omega) (by omega)]
    by_cases hlt : i < 64
    · obtain ⟨m', e1, e2, e3⟩ := ih (i + 1) n (st2 mem 69 i (nI (if e0 = true then B i else 0))) (hM.fr (st2_k (by omega))) (fun z hz => by rw [st2_k (by omega)]; exact hB z hz) (fun z hz => by
        by_cases e : z = i
        · rw [e, st2_s]
        · rw [st2_i e]; exact hT z (by omega)) (by omega) (by omega) (by omega)
      refine ⟨m', ?_, fun q h6 h7 => by rw [e2 q h6 h7, st2_k h7], e3⟩
      rw [if_pos (hz.mpr hlt)]
      unfold X7_readOn_b27
      by_cases h : x = nI 0
      · rw [if_pos (show x = (0 : Int32) from h), show rf 57 17 = 68 from rfl, show rf 57 18 = 69 from rfl, ald_n (by simp only [lns]; omega) (by decide), ast_n (by simp only [lns]; omega) (by decide), hB i hlt, show (1 : Int32) = nI 1 from rfl, nI_add]
        rw [if_pos (he0.mp h)] at e1
        exact e1
      · rw [if_neg (show ¬ x = (0 : Int32) from h), show rf 57 18 = 69 from rfl, ast_n (by simp only [lns]; omega) (by decide), show (1 : Int32) = nI 1 from rfl, nI_add]
        rw [if_neg (fun z => h (he0.mpr z))] at e1
        exact e1
    · have hE : i = 64 := by omega
      obtain ⟨m', e1, e2, e3⟩ := m_on_sets (e0 := e0) (B := B) hO hel 65 0 fu mem hM hB (fun z hz => by rw [sc_0]; exact hT z (by omega)) (by omega) (by omega) (fu_ge (by omega))
      refine ⟨m', ?_, e2, e3⟩
      rw [if_neg (fun z => hlt (hz.mp z))]
      exact e1
end AG7
