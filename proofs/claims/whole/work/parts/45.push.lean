/-! ===== PURE: one act more ===== -/
theorem st2_c {mem : Mem} {k i q c : Nat} {v : Int32} (h : c ≠ i) : st2 mem k i v q c = mem q c := by
  rw [st2_at, if_neg (fun z => h z.2)]
section AC2
variable {mem : Mem} {g : Nat → Nat} {t : Nat}
def nxF (nx : Nat) : Nat := if nx + 1 < 24 then nx + 1 else 0
theorem c_keep {K nx : Nat} (hK : K ≤ 24) (hnx : nx < 24) (h7 : mem 43 7 = nI nx) (h8 : mem 43 8 = nI K) (s l a : Int32) : ∃ m', X0_keep 43 s l a mem = some ((), m') ∧ (∀ q, q ≠ 43 → q ≠ 44 → q ≠ 46 → q ≠ 47 → m' q = mem q) ∧ m' 43 7 = nI (nxF nx) ∧ m' 43 8 = nI (K + 1 - shF K) ∧ m' 44 nx = s ∧ m' 46 nx = l ∧ m' 47 nx = a ∧ ∀ q c, q ≠ 43 → c ≠ nx → m' q c = mem q c := by
  have b52 : ∀ (mm : Mem) (z : Nat), mm 43 8 = nI K → ∃ m', X0_keep_b52 43 (nI z) mm = some ((), m') ∧ (∀ q, q ≠ 43 → m' q = mm q) ∧ m' 43 7 = nI z ∧ m' 43 8 = nI (K + 1 - shF K) := by
    intro mm z h
    unfold X0_keep_b52
    have e8 : st2 mm 43 7 (nI z) 43 8 = nI K := by rw [st2_i (by omega), h]
    rw [e8]
    by_cases hk : K < 24
    · have hs : shF K = 0 := if_neg (by omega)
      refine ⟨st2 (st2 mm 43 7 (nI z)) 43 8 (nI (K + 1)), ?_, fun q hq => by rw [st2_k hq, st2_k hq], by rw [st2_i (by omega), st2_s], by rw [st2_s, hs, Nat.sub_zero]⟩
      simp (disch := omega) only [L32, nI_ltI, hk, if_true, nI_add]
    · have hK2 : K = 24 := by omega
      have hs : shF K = 1 := if_pos hK2
      refine ⟨st2 mm 43 7 (nI z), ?_, fun q hq => st2_k hq, st2_s, by rw [e8, hs, Nat.add_sub_cancel]⟩
      simp (disch := omega) only [L32, nI_ltI, hk, if_false]
  have e : ∀ (z : Nat), st2 (st2 (st2 mem 44 nx s) 46 nx l) 47 nx a 43 z = mem 43 z := fun z => by rw [st2_k (by omega), st2_k (by omega), st2_k (by omega)]
  obtain ⟨m', e1, e2, e3, e4⟩ := b52 (st2 (st2 (st2 mem 44 nx s) 46 nx l) 47 nx a) (nxF nx) (by rw [e, h8])
  refine ⟨m', ?_, fun q h1 h2 h3 h4 => by rw [e2 q h1, st2_k h4, st2_k h3, st2_k h2], e3, e4, ?_, ?_, ?_, fun q c hq hc => ?_⟩
  · unfold X0_keep
    simp (disch := omega) only [rfs, h7, as_, st2_k]
    unfold nxF at e1
    by_cases hn : nx + 1 < 24
    · rw [if_pos hn] at e1
      simp (disch := omega) only [L32, nI_add, nI_ltI, hn, if_true, e1]
    · rw [if_neg hn] at e1
      simp (disch := omega) only [L32, nI_add, nI_ltI, hn, if_false, e1]
  · rw [e2 44 (by omega), st2_k (by omega), st2_k (by omega), st2_s]
  · rw [e2 46 (by omega), st2_k (by omega), st2_s]
  · rw [e2 47 (by omega), st2_s]
  · rw [e2 q hq, st2_c hc, st2_c hc, st2_c hc]
def pushS (K : Nat) (S : Nat → Nat → Nat) (g g' : Nat → Nat) : Nat → Nat → Nat := fun i => if i = K + 1 - shF K then g' else if i = K - shF K then g else S (i + shF K)
theorem ACT.push {g' : Nat → Nat} {m' : Mem} {K nx : Nat} {S : Nat → Nat → Nat} (hK : K ≤ 24) (hnx : nx < 24) (hS : S K = g) (hO : OkG t g)
    (h6 : ∀ i, i < K → (∀ j, j < 63 → mem 65 (63 * i + j) = nI (S i j)) ∧ OkG t (S i) ∧ Dl mem ((nx + 24 - (K - i)) % 24) (S i) (S (i + 1)))
    (q1 : m' 43 8 = nI (K + 1 - shF K)) (q2 : m' 57 13 = nI (K + 1 - shF K)) (q3 : m' 43 7 = nI (nxF nx))
    (q4 : ∀ q c, 44 ≤ q → q ≤ 50 → c ≠ nx → m' q c = mem q c)
    (q5 : ∀ i j, i < K - shF K → j < 63 → m' 65 (63 * i + j) = mem 65 (63 * (i + shF K) + j)) (q6 : ∀ j, j < 63 → m' 65 (63 * (K - shF K) + j) = nI (g j))
    (hD : Dl m' nx g g') : ACT t m' g' := by
  have hd : (K = 24 ∧ shF K = 1) ∨ (K < 24 ∧ shF K = 0) := by
    unfold shF
    by_cases h : K = 24
    · exact Or.inl ⟨h, if_pos h⟩
    · exact Or.inr ⟨by omega, if_neg h⟩
  have hn : (nx + 1 < 24 ∧ nxF nx = nx + 1) ∨ (nx = 23 ∧ nxF nx = 0) := by
    unfold nxF
    by_cases h : nx + 1 < 24
    · exact Or.inl ⟨h, if_pos h⟩
    · exact Or.inr ⟨by omega, if_neg h⟩
  refine ⟨K + 1 - shF K, nxF nx, pushS K S g g', by omega, by omega, q1, q2, q3, if_pos rfl, fun i hi => ?_⟩
  have e1 : pushS K S g g' i = if i = K - shF K then g else S (i + shF K) := if_neg (by omega)
  by_cases hi2 : i = K - shF K
  · have e2 : pushS K S g g' i = g := by rw [e1, if_pos hi2]
    have e3 : pushS K S g g' (i + 1) = g' := if_pos (by omega)
    rw [e2, e3]
    refine ⟨fun j hj => by rw [hi2]; exact q6 j hj, hO, ?_⟩
    rw [show (nxF nx + 24 - (K + 1 - shF K - i)) % 24 = nx by omega]
    exact hD
  · have e2 : pushS K S g g' i = S (i + shF K) := by rw [e1, if_neg hi2]
    have e3 : pushS K S g g' (i + 1) = S (i + shF K + 1) := by
      show (if i + 1 = K + 1 - shF K then g' else if i + 1 = K - shF K then g else S (i + 1 + shF K)) = _
      rw [if_neg (by omega)]
      by_cases h : i + 1 = K - shF K
      · rw [if_pos h, show i + shF K + 1 = K by omega, hS]
      · rw [if_neg h, show i + 1 + shF K = i + shF K + 1 by omega]
    obtain ⟨w1, w2, w3⟩ := h6 (i + shF K) (by omega)
    rw [e2, e3]
    refine ⟨fun j hj => by rw [q5 i j (by omega) hj]; exact w1 j hj, w2, ?_⟩
    rw [show (nxF nx + 24 - (K + 1 - shF K - i)) % 24 = (nx + 24 - (K - (i + shF K))) % 24 by omega]
    exact w3.fr fun q a b => q4 q _ a b (by omega)
/-- only the office that stands now and what is kept of its acts have changed -/
theorem Inv.act {t : Nat} {mem m' : Mem} {g' : Nat → Nat} (h : Inv t mem) (he : ∀ q, ¬ (7 ≤ q ∧ q ≤ 15) → ¬ (43 ≤ q ∧ q ≤ 50) → q ≠ 62 → q ≠ 65 → q ≠ 57 → m' q = mem q) (h57 : ∀ j, j ≠ 13 → m' 57 j = mem 57 j) (hC : CO m' 7 g') (hM : MO m' g') (hO : OkG (t + 1) g') (hA : ACT (t + 1) m' g') : Inv (t + 1) m' := by
  obtain ⟨g, _, _, _, hG, _, hR, hT, hF, hT2⟩ := h
  refine ⟨g', hC, hM, hO, IMG.fr ⟨hG.1.mono, hG.2.mono⟩ (fun q h1 h2 => he q ?_ ?_ ?_ ?_ ?_) (he _ ?_ ?_ ?_ ?_ ?_) (he _ ?_ ?_ ?_ ?_ ?_), hA, hR.fr (he _ ?_ ?_ ?_ ?_ ?_) (he _ ?_ ?_ ?_ ?_ ?_) (he _ ?_ ?_ ?_ ?_ ?_) (he _ ?_ ?_ ?_ ?_ ?_) (he _ ?_ ?_ ?_ ?_ ?_) (he _ ?_ ?_ ?_ ?_ ?_), hT.fr (by rw [he 5 (by omega) (by omega) (by omega) (by omega) (by omega)]) (he _ ?_ ?_ ?_ ?_ ?_) (h57 _ ?_) (he _ ?_ ?_ ?_ ?_ ?_), hF.fr (by rw [he 0 (by omega) (by omega) (by omega) (by omega) (by omega)]) (by rw [he 0 (by omega) (by omega) (by omega) (by omega) (by omega)]) (h57 _ ?_) (h57 _ ?_), hT2.fr (by rw [he 55 (by omega) (by omega) (by omega) (by omega) (by omega)]) (he _ ?_ ?_ ?_ ?_ ?_) (h57 _ ?_) (he _ ?_ ?_ ?_ ?_ ?_)⟩
  all_goals omega
end AC2
