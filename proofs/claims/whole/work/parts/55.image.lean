/-! ===== PURE: image, restore ===== -/
def cpm (m : Mem) (k0 k1 n : Nat) : Mem := st1 m k1 (va_cpy (m k0) (m k1) 0 0 n)
theorem cpm_k {m : Mem} {k0 k1 n q : Nat} (h : q ≠ k1) : cpm m k0 k1 n q = m q := st1_k h
theorem cpm_s {m : Mem} {k0 k1 n x : Nat} (h : x < n) : cpm m k0 k1 n k1 x = m k0 x := by
  unfold cpm
  rw [st1_s]
  unfold va_cpy
  rw [if_pos (show 0 ≤ x ∧ x < 0 + n by omega), show 0 + (x - 0) = x by omega]
theorem acp_z {α : Type} {mem : Mem} {k0 k1 n : Nat} {f : Mem → Option α} (hs : n ≤ ln k0) (hd : n ≤ ln k1) (h0 : ln k0 < 2 ^ 31) (h1 : ln k1 < 2 ^ 31) : acp mem k0 (nI 0) k1 (nI 0) (nI n) f = f (cpm mem k0 k1 n) := by
  rw [acp_n (by omega) (by omega) h0 h1]
  rfl
def OFC (o : Nat) : Prop := (rf o 4 = o + 1 ∧ rf o 5 = o + 2 ∧ rf o 6 = o + 3 ∧ rf o 8 = o + 4 ∧ rf o 9 = o + 5 ∧ rf o 10 = o + 6 ∧ rf o 11 = o + 7 ∧ rf o 12 = o + 8) ∧ ln (o + 1) = 6 ∧ ln (o + 2) = 6 ∧ ln (o + 3) = 6 ∧ ln (o + 4) = 4 ∧ ln (o + 5) = 4 ∧ ln (o + 6) = 4 ∧ ln (o + 7) = 4 ∧ ln (o + 8) = 24
theorem ofc7 : OFC 7 := ⟨⟨rfl, rfl, rfl, rfl, rfl, rfl, rfl, rfl⟩, rfl, rfl, rfl, rfl, rfl, rfl, rfl, rfl⟩
theorem ofc16 : OFC 16 := ⟨⟨rfl, rfl, rfl, rfl, rfl, rfl, rfl, rfl⟩, rfl, rfl, rfl, rfl, rfl, rfl, rfl, rfl⟩
theorem ofc25 : OFC 25 := ⟨⟨rfl, rfl, rfl, rfl, rfl, rfl, rfl, rfl⟩, rfl, rfl, rfl, rfl, rfl, rfl, rfl, rfl⟩
theorem ofc34 : OFC 34 := ⟨⟨rfl, rfl, rfl, rfl, rfl, rfl, rfl, rfl⟩, rfl, rfl, rfl, rfl, rfl, rfl, rfl, rfl⟩
theorem c_becomes {mem : Mem} {g : Nat → Nat} {o p : Nat} (ho : OFC o) (hp : OFC p) (hop : p + 8 < o ∨ o + 8 < p) (hC : CO mem p g) (hO : g 0 ≤ 1 ∧ g 2 ≤ 6 ∧ g 3 ≤ 4) : ∃ m', X3_becomes o p mem = some ((), m') ∧ CO m' o g ∧ ∀ q, ¬ (o ≤ q ∧ q ≤ o + 8) → m' q = mem q := by
  obtain ⟨⟨o1, o2, o3, o4, o5, o6, o7, o8⟩, w1, w2, w3, w4, w5, w6, w7, w8⟩ := ho
  obtain ⟨⟨p1, p2, p3, p4, p5, p6, p7, p8⟩, v1, v2, v3, v4, v5, v6, v7, v8⟩ := hp
  have hc : mem p 0 &&& nI 1 = mem p 0 := by
    rw [hC.1.1]
    rcases (show g 0 = 0 ∨ g 0 = 1 by omega) with h | h <;> rw [h] <;> decide
  obtain ⟨ma, hma⟩ : ∃ ma, ma = st2 (st2 (st2 (st2 mem o 0 (mem p 0)) o 1 (mem p 1)) o 2 (mem p 2)) o 3 (mem p 3) := ⟨_, rfl⟩
  obtain ⟨mb, hmb⟩ : ∃ mb, mb = cpm (cpm (cpm ma (p + 1) (o + 1) 6) (p + 2) (o + 2) 6) (p + 3) (o + 3) 6 := ⟨_, rfl⟩
  obtain ⟨mc, hmc⟩ : ∃ mc, mc = cpm (cpm (cpm (cpm (cpm (st2 mb o 7 (mem p 7)) (p + 4) (o + 4) 4) (p + 5) (o + 5) 4) (p + 6) (o + 6) 4) (p + 7) (o + 7) 4) (p + 8) (o + 8) 24 := ⟨_, rfl⟩
  have hmbp : mb p 7 = mem p 7 := by rw [hmb, cpm_k (by omega), cpm_k (by omega), cpm_k (by omega), hma, st2_k (by omega), st2_k (by omega), st2_k (by omega), st2_k (by omega)]
  have fa : ∀ q, q ≠ o → ma q = mem q := fun q hq => by rw [hma, st2_k hq, st2_k hq, st2_k hq, st2_k hq]
  refine ⟨mc, ?_, ⟨?_, fun x hx => ?_, fun r hr => ?_, fun r x hr hx => ?_⟩, fun q hq => ?_⟩
  · unfold X3_becomes
    simp (disch := omega) only [o1, o2, o3, o4, o5, o6, o7, o8, p1, p2, p3, p4, p5, p6, p7, p8, L32, st2_k]
    rw [chk_t hc, ← hma]
    rw [acp_z (by omega) (by omega) (by omega) (by omega), acp_z (by omega) (by omega) (by omega) (by omega), acp_z (by omega) (by omega) (by omega) (by omega), ← hmb, hmbp, acp_z (by omega) (by omega) (by omega) (by omega), acp_z (by omega) (by omega) (by omega) (by omega), acp_z (by omega) (by omega) (by omega) (by omega), acp_z (by omega) (by omega) (by omega) (by omega), acp_z (by omega) (by omega) (by omega) (by omega), ← hmc]
  · have e : ∀ j, mc o j = st2 ma o 7 (mem p 7) o j := fun j => by
      rw [hmc, cpm_k (by omega), cpm_k (by omega), cpm_k (by omega), cpm_k (by omega), cpm_k (by omega), st2_at, st2_at, hmb, cpm_k (by omega), cpm_k (by omega), cpm_k (by omega)]
    rw [e, e, e, e, e, st2_i (by omega), st2_i (by omega), st2_i (by omega), st2_i (by omega), st2_s, hma, st2_i (by omega), st2_i (by omega), st2_i (by omega), st2_s, st2_i (by omega), st2_i (by omega), st2_s, st2_i (by omega), st2_s, st2_s]
    exact hC.1
  · have q1 := hC.2.1 x hx
    refine ⟨?_, ?_, ?_⟩
    · rw [hmc, cpm_k (by omega), cpm_k (by omega), cpm_k (by omega), cpm_k (by omega), cpm_k (by omega), st2_k (by omega), hmb, cpm_k (by omega), cpm_k (by omega), cpm_s (by omega), fa _ (by omega)]
      exact q1.1
    · rw [hmc, cpm_k (by omega), cpm_k (by omega), cpm_k (by omega), cpm_k (by omega), cpm_k (by omega), st2_k (by omega), hmb, cpm_k (by omega), cpm_s (by omega), cpm_k (by omega), fa _ (by omega)]
      exact q1.2.1
    · rw [hmc, cpm_k (by omega), cpm_k (by omega), cpm_k (by omega), cpm_k (by omega), cpm_k (by omega), st2_k (by omega), hmb, cpm_s (by omega), cpm_k (by omega), cpm_k (by omega), fa _ (by omega)]
      exact q1.2.2
  · have q1 := hC.2.2.1 r hr
    have eb : ∀ q, ¬ (o ≤ q ∧ q ≤ o + 3) → st2 mb o 7 (mem p 7) q = mem q := fun q hq => by
      rw [st2_k (by omega), hmb, cpm_k (by omega), cpm_k (by omega), cpm_k (by omega), fa _ (by omega)]
    refine ⟨?_, ?_, ?_, ?_⟩
    · rw [hmc, cpm_k (by omega), cpm_k (by omega), cpm_k (by omega), cpm_k (by omega), cpm_s (by omega), eb _ (by omega)]
      exact q1.1
    · rw [hmc, cpm_k (by omega), cpm_k (by omega), cpm_k (by omega), cpm_s (by omega), cpm_k (by omega), eb _ (by omega)]
      exact q1.2.1
    · rw [hmc, cpm_k (by omega), cpm_k (by omega), cpm_s (by omega), cpm_k (by omega), cpm_k (by omega), eb _ (by omega)]
      exact q1.2.2.1
    · rw [hmc, cpm_k (by omega), cpm_s (by omega), cpm_k (by omega), cpm_k (by omega), cpm_k (by omega), eb _ (by omega)]
      exact q1.2.2.2
  · have eb : ∀ q, ¬ (o ≤ q ∧ q ≤ o + 3) → st2 mb o 7 (mem p 7) q = mem q := fun q hq => by
      rw [st2_k (by omega), hmb, cpm_k (by omega), cpm_k (by omega), cpm_k (by omega), fa _ (by omega)]
    rw [hmc, cpm_s (by omega), cpm_k (by omega), cpm_k (by omega), cpm_k (by omega), cpm_k (by omega), eb _ (by omega)]
    exact hC.2.2.2 r x hr hx
  · rw [hmc, cpm_k (by omega), cpm_k (by omega), cpm_k (by omega), cpm_k (by omega), cpm_k (by omega), st2_k (by omega), hmb, cpm_k (by omega), cpm_k (by omega), cpm_k (by omega), fa _ (by omega)]
