/-! ===== PURE: ages, the reference's day ===== -/
section AG4
variable {g : Nat → Nat} {t : Nat} {e0 : Bool} {el : Nat → Bool} {B : Nat → Nat}
theorem sc_add {s0 l0 s : Nat} (hg : g 2 ≤ 6) (hs0 : s0 < 64) (hs : s < 64) (hl : l0 < g 2) (hb : hasB s0 l0 = false) (he : el l0 = true) : scN g e0 el B s0 (l0 + 1) s = scN g e0 el B s0 l0 s + if s = s0 + 2 ^ l0 then B s0 else 0 := by
  obtain ⟨_, b2', b3⟩ := bit_add s0 hs0 l0 (by omega) hb
  by_cases e : s = s0 + 2 ^ l0
  · rw [if_pos e]
    unfold scN
    have h1 : s - 2 ^ l0 = s0 := by omega
    have := sumP_one (p := pdB el s0 l0 s) (q := pdB el s0 (l0 + 1) s) (f := fun l => B (s - 2 ^ l)) (d := l0) (by unfold pdB; rw [h1]; simp) (by unfold pdB; rw [h1, e, b3, he]; simp) (g 2) hl (fun i _ hi => (pd_step (fun z => hi z.1)).symm)
    rw [this, h1, Nat.add_assoc]
  · rw [if_neg e, Nat.add_zero (scN g e0 el B s0 l0 s)]
    unfold scN
    congr 1
    refine sumP_congr _ (fun l hl2 => ?_) (fun _ _ _ => rfl)
    by_cases h : l = l0 ∧ s - 2 ^ l = s0
    · unfold pdB
      by_cases hb2 : hasB s l = true
      · have := (bit_le s hs l (by omega) hb2).1
        rw [h.1] at this h
        omega
      · have hb3 : hasB s l = false := by simpa using hb2
        rw [hb3]
        rfl
    · exact pd_step h
theorem m_on_in {x : Int32} {s0 : Nat} (hO : OkG t g) (hs0 : s0 < 64) (hel : ∀ l, l < g 2 → ((nI (fcN (g (5 + l)) (g (11 + l))) = x) ↔ el l = true)) (K : Int32 → Int32 → Mem → Option (Unit × Mem)) : ∀ (k l n : Nat) (mem : Mem), MO mem g → (∀ z, z < 64 → mem 68 z = nI (B z)) → (∀ z, z < 64 → mem 69 z = nI (scN g e0 el B s0 l z)) → l ≤ g 2 → g 2 - l < k → k ≤ n → ∃ m', X7_readOn_b44 57 K n x (nI s0) (nI l) mem = K x (nI (s0 + 1)) m' ∧ (∀ q, q ≠ 69 → m' q = mem q) ∧ ∀ z, z < 64 → m' 69 z = nI (scN g e0 el B s0 (g 2) z) := by
  have h2 := hO.1
  intro k
  induction k with
  | zero => intro l n mem _ _ _ h1 h2; omega
  | succ k ih =>
    intro l n mem hM hB hT h1 h3 h4
    obtain ⟨n, rfl, h5⟩ := succ_of h4
    rw [X7_readOn_b44]
    dsimp only
    rw [m_letters hM, cll_s]
    have hz : (nI l < nI (g 2)) = (l < g 2) := by rw [nI_ltI (by omega) (by omega)]
    by_cases hlt : l < g 2
    · have hk := hO.2.1 l hlt
      rw [if_pos (hz.mpr hlt), m_has (by omega) (by omega), cll_s]
      by_cases hb : hasB s0 l = true
      · obtain ⟨m', e1, e2, e3⟩ := ih (l + 1) n mem hM hB (fun z hz => by rw [sc_same (by omega) hz (Or.inl hb)]; exact hT z hz) (by omega) (by omega) (by omega)
        refine ⟨m', ?_, e2, e3⟩
        have hor := bit_same s0 hs0 l (by omega) hb
        rw [b2_t hb, if_neg (show ¬ nI 1 = (0 : Int32) from nI01)]
        unfold X7_readOn_b85 X7_readOn_b86 X7_readOn_b114
        simp (disch := omega) only [L32, shl_n, hor, rfs, al, if_true, as_, nI_add]
        have := hT s0 hs0
        rw [this, nI_add, Nat.add_zero (scN g e0 el B s0 l s0), ← this, st2_self]
        exact e1
      · have hbf : hasB s0 l = false := by simpa using hb
        obtain ⟨hor, hlt64, hb3⟩ := bit_add s0 hs0 l (by omega) hbf
        have hsh : nI s0 ||| (1 : Int32) <<< (nI l &&& 31) = nI (s0 + 2 ^ l) := by simp (disch := omega) only [L32, shl_n, hor]
        rw [b2_f hb, if_pos (show nI 0 = (0 : Int32) from rfl), m_sort hM (by omega), cll_s, show rf 57 5 = 62 from rfl, show (11 : Int32) + nI l = nI (11 + l) from by rw [L32, nI_add], ald_n (by simp only [lns]; omega) (by decide), hM (11 + l) (by omega), m_firstCost (by omega) (by omega) (by omega), cll_s]
        by_cases hc : el l = true
        · obtain ⟨m', e1, e2, e3⟩ := ih (l + 1) n (st2 mem 69 (s0 + 2 ^ l) (nI (scN g e0 el B s0 l (s0 + 2 ^ l) + B s0))) (hM.fr (st2_k (by omega))) (fun z hz => by rw [st2_k (by omega)]; exact hB z hz) (fun z hz => by
            rw [sc_add (by omega) hs0 hz hlt hbf hc]
            by_cases e : z = s0 + 2 ^ l
            · rw [e, st2_s, if_pos rfl]
            · rw [st2_i e, if_neg e, Nat.add_zero (scN g e0 el B s0 l z)]
              exact hT z hz) (by omega) (by omega) (by omega)
          refine ⟨m', ?_, fun q hq => by rw [e2 q hq, st2_k hq], e3⟩
          rw [if_pos ((hel l hlt).mpr hc)]
          unfold X7_readOn_b86 X7_readOn_b114
          rw [hsh, show rf 57 18 = 69 from rfl, ald_n (by simp only [lns]; omega) (by decide), if_neg (show ¬ (1 : Int32) = 0 by decide), show rf 57 17 = 68 from rfl, ald_n (by simp only [lns]; omega) (by decide), hT _ hlt64, hB s0 hs0, nI_add, ast_n (by simp only [lns]; omega) (by decide), show (1 : Int32) = nI 1 from rfl, nI_add]
          exact e1
        · have hcf : el l = false := by simpa using hc
          obtain ⟨m', e1, e2, e3⟩ := ih (l + 1) n mem hM hB (fun z hz => by rw [sc_same (by omega) hz (Or.inr hcf)]; exact hT z hz) (by omega) (by omega) (by omega)
          refine ⟨m', ?_, e2, e3⟩
          rw [if_neg (fun z => hc ((hel l hlt).mp z))]
          unfold X7_readOn_b85 X7_readOn_b86 X7_readOn_b114
          rw [hsh, show rf 57 18 = 69 from rfl, ald_n (by simp only [lns]; omega) (by decide), if_pos rfl, show (0 : Int32) = nI 0 from rfl, hT _ hlt64, nI_add, Nat.add_zero (scN g e0 el B s0 l (s0 + 2 ^ l)), ← hT _ hlt64, ast_n (by simp only [lns]; omega) (by decide), st2_self, show (1 : Int32) = nI 1 from rfl, nI_add]
          exact e1
    · have hE : l = g 2 := by omega
      refine ⟨mem, ?_, fun _ _ => rfl, by rw [← hE]; exact hT⟩
      rw [if_neg (fun z => hlt (hz.mp z)), show (1 : Int32) = nI 1 from rfl, nI_add]
end AG4
