/-! ===== PURE: ages, the reference's day, from set to set ===== -/
section AG6
variable {g : Nat → Nat} {t : Nat} {e0 : Bool} {el : Nat → Bool} {B : Nat → Nat}
theorem m_on_sets {x : Int32} (hO : OkG t g) (hel : ∀ l, l < g 2 → ((nI (fcN (g (5 + l)) (g (11 + l))) = x) ↔ el l = true)) : ∀ (k s n : Nat) (mem : Mem), MO mem g → (∀ z, z < 64 → mem 68 z = nI (B z)) → (∀ z, z < 64 → mem 69 z = nI (scN g e0 el B s 0 z)) → s ≤ 64 → 64 - s < k → k ≤ n → ∃ m', X7_readOn_b36 57 n x (nI s) mem = some ((), m') ∧ (∀ q, q ≠ 68 → q ≠ 69 → m' q = mem q) ∧ ∀ z, z < 64 → m' 68 z = nI (stpN g e0 el B z (g 2)) := by
  have h2 := hO.1
  intro k
  induction k with
  | zero => intro s n mem _ _ _ h1 h2; omega
  | succ k ih =>
    intro s n mem hM hB hT h1 h3 h4
    obtain ⟨n, rfl, h5⟩ := succ_of h4
    rw [X7_readOn_b36]
    dsimp only
    have hz : (nI s < (64 : Int32)) = (s < 64) := by rw [show (64 : Int32) = nI 64 from rfl, nI_ltI (by omega) (by omega)]
    by_cases hlt : s < 64
    · obtain ⟨m1, p1, p2, p3⟩ := m_on_in (e0 := e0) (B := B) hO hlt hel (X7_readOn_b36 57 n) (g 2 + 1) 0 fu mem hM hB hT (by omega) (by omega) (fu_ge (by omega))
      obtain ⟨m', e1, e2, e3⟩ := ih (s + 1) n m1 (hM.fr (p2 62 (by omega))) (fun z hz => by rw [p2 68 (by omega)]; exact hB z hz) (fun z hz => by rw [p3 z hz, sc_next]) (by omega) (by omega) (by omega)
      refine ⟨m', ?_, fun q h6 h7 => by rw [e2 q h6 h7, p2 q h7], e3⟩
      rw [if_pos (hz.mpr hlt)]
      exact p1.trans e1
    · have hE : s = 64 := by omega
      obtain ⟨m', e1, e2, e3⟩ := m_on_cp 65 0 fu mem (by omega) (by omega) (fu_ge (by omega))
      refine ⟨m', ?_, fun q h6 _ => e2 q h6, fun z hz => ?_⟩
      · rw [if_neg (fun z => hlt (hz.mp z))]
        exact e1
      · rw [e3 z, if_pos (show 0 ≤ z ∧ z < 64 by omega), hT z hz, hE, sc_64 hz]
end AG6
