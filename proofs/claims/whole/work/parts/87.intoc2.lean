/-! ===== PURE: office, the class's reading from its start ===== -/
section OF6
variable {T : Nat → Nat} {n : Nat} {G : Nat → Nat}
theorem c_clear (mem : Mem) : ∃ m', X3_clear 16 mem = some ((), m') ∧ DR m' (fun _ => 0) ∧ ∀ q, ¬ (16 ≤ q ∧ q ≤ 24) → m' q = mem q := by
  obtain ⟨m0, hm0⟩ : ∃ m0, m0 = st2 (st2 (st2 (st2 (st2 mem 16 0 (nI 0)) 16 1 (nI 0)) 16 2 (nI 0)) 16 3 (nI 0)) 16 7 (nI 0) := ⟨_, rfl⟩
  obtain ⟨m1, p1, p2, p3⟩ := fill_r (k := 23) (N := 4) rfl (by omega) (nI 0) m0
  obtain ⟨m2, q1, q2, q3⟩ := fill_r (k := 24) (N := 24) rfl (by omega) (nI 0) m1
  have k2 : ∀ q, q ≠ 23 → q ≠ 24 → m2 q = m0 q := fun q z1 z2 => by rw [q2 q z2, p2 q z1]
  refine ⟨m2, ?_, ⟨⟨⟨?_, ?_, ?_, ?_, ?_⟩, fun l hl => absurd hl (Nat.not_lt_zero l), fun r hr => absurd hr (Nat.not_lt_zero r), fun r l hr => absurd hr (Nat.not_lt_zero r)⟩, fun r hr => by rw [q2 23 (by omega)]; exact p3 r hr, q3⟩, fun q hq => ?_⟩
  · unfold X3_clear
    rw [chk_t (show (0 : Int32) &&& 1 = 0 from by decide), show rf 16 11 = 23 from rfl, show rf 16 12 = 24 from rfl, show (0 : Int32) = nI 0 from rfl, ← hm0, p1, cll_s, q1, cll_s]
  · rw [k2 16 (by omega) (by omega), hm0, st2_i (by omega), st2_i (by omega), st2_i (by omega), st2_i (by omega), st2_s]
  · rw [k2 16 (by omega) (by omega), hm0, st2_i (by omega), st2_i (by omega), st2_i (by omega), st2_s]
  · rw [k2 16 (by omega) (by omega), hm0, st2_i (by omega), st2_i (by omega), st2_s]
  · rw [k2 16 (by omega) (by omega), hm0, st2_i (by omega), st2_s]
  · rw [k2 16 (by omega) (by omega), hm0, st2_s]
  · rw [k2 q (by omega) (by omega), hm0, st2_k (by omega), st2_k (by omega), st2_k (by omega), st2_k (by omega), st2_k (by omega)]
theorem b20_bad {c : Nat} (h1 : 1 ≤ c) (h2 : c ≤ 3) (mem : Mem) : X5_readLaw_b20 5 16 (nI c) mem = some (nI c, st2 mem 16 1 (mem 5 3)) := by
  unfold X5_readLaw_b20
  rw [if_neg (ne0 h1 h2)]
theorem DR.law {mem : Mem} {v : Nat} (h : DR mem (fun _ => 0)) : DR (st2 mem 16 1 (nI v)) (law0 v) := by
  obtain ⟨⟨c1, c2, c3, c4⟩, d1, d2⟩ := h
  refine ⟨⟨⟨?_, ?_, ?_, ?_, ?_⟩, fun l hl => absurd hl (Nat.not_lt_zero l), fun r hr => absurd hr (Nat.not_lt_zero r), fun r l hr => absurd hr (Nat.not_lt_zero r)⟩, fun r hr => by rw [st2_k (by omega)]; exact d1 r hr, fun z hz => by rw [st2_k (by omega)]; exact d2 z hz⟩
  · rw [st2_i (by omega)]; exact c1.1
  · rw [st2_s]; rfl
  · rw [st2_i (by omega)]; exact c1.2.2.1
  · rw [st2_i (by omega)]; exact c1.2.2.2.1
  · rw [st2_i (by omega)]; exact c1.2.2.2.2
theorem c_law {mem : Mem} (hT : CTp mem T n) (hD : DR mem (fun _ => 0)) (h2 : mem 5 2 = nI 0) : CR mem (lawP T n) (X5_readLaw 5 16 mem) := by
  have hn := hT.1
  unfold X5_readLaw lawP
  have f16 : ∀ (m : Mem) (v : Int32), FC m (st2 m 16 1 v) := fun m v => FC.off fun q hq => st2_k (by omega)
  cases e2 : sgP T n 0 111 with
  | error e =>
    obtain ⟨r1, r2, r3⟩ := c_sg_bad hT h2 (by omega) (by omega) e2
    rw [show X5_takeSign 5 111 mem = _ from r1, cll_s, if_neg (ne0 (by omega) (by omega)), b20_bad (by omega) (by omega)]
    exact ⟨_, rfl, f16 _ _, by rw [r2, st2_k (by omega)]; exact h2, by omega, by omega⟩
  | ok p2 =>
    have r1 := c_sg_ok hT h2 (by omega) (by omega) e2
    have f3 : F5 mem (st2 mem 5 2 (nI p2)) := F5.st (by omega)
    have hp2 := sgP_ok e2
    dsimp only
    rw [show X5_takeSign 5 111 mem = _ from r1, cll_s, if_pos (show nI 0 = (0 : Int32) from rfl)]
    cases e3 : numP T n p2 1 999 with
    | error e =>
      obtain ⟨m3, s1, s2, s3, s4, s5⟩ := c_num_bad (hT.fr f3) st2_s (by omega) (by omega) (by omega) e3
      rw [show X5_takeNumber 5 1 999 (st2 mem 5 2 (nI p2)) = _ from s1, cll_s, b20_bad s4 s5]
      exact ⟨_, rfl, (f3.trans s2).fc.trans (f16 _ _), by rw [st2_k (by omega)]; exact s3, s4, s5⟩
    | ok y =>
      obtain ⟨p3, s⟩ := y
      obtain ⟨y1, y2, y3, y4⟩ := numP_in e3 (by omega)
      obtain ⟨m3, s1, s2, s3, s4⟩ := c_num_ok (hT.fr f3) st2_s (by omega) (by omega) (by omega) e3
      have f4 := f3.trans s2
      have fm : FC mem (st2 m3 16 1 (nI s)) := f4.fc.trans (f16 _ _)
      have h3 : st2 m3 16 1 (nI s) 5 2 = nI p3 := by rw [st2_k (by omega)]; exact s3
      dsimp only
      rw [show X5_takeNumber 5 1 999 (st2 mem 5 2 (nI p2)) = _ from s1, cll_s]
      unfold X5_readLaw_b20
      rw [if_pos (show nI 0 = (0 : Int32) from rfl), s4]
      cases e4 : sgP T n p3 59 with
      | error e =>
        obtain ⟨u1, u2, u3⟩ := c_sg_bad (hT.fc fm) h3 (by omega) (by omega) e4
        rw [show X5_takeSign 5 59 (st2 m3 16 1 (nI s)) = _ from u1, cll_s]
        exact ⟨_, rfl, fm, by rw [u2]; exact h3, by omega, by omega⟩
      | ok p4 =>
        have u1 := c_sg_ok (hT.fc fm) h3 (by omega) (by omega) e4
        rw [show X5_takeSign 5 59 (st2 m3 16 1 (nI s)) = _ from u1, cll_s]
        exact ⟨_, rfl, fm.trans (F5.st (by omega)).fc, ((hD.fr f4).law (v := s)).fr (F5.st (by omega)), st2_s⟩
theorem c_into {mem : Mem} (hT : CTp mem T n) : CI mem (ofP T n) (X5_readInto 5 16 mem) := by
  have hn := hT.1
  obtain ⟨m1, p1, p2, p3⟩ := c_clear mem
  have f1 : FC mem (st2 m1 5 2 (nI 0)) := (FC.off p3).trans (F5.st (by omega)).fc
  have hT1 := hT.fc f1
  have hl := c_law hT1 (p2.fr (F5.st (v := nI 0) (by omega : (2 : Nat) = 2 ∨ (2 : Nat) = 3))) st2_s
  unfold X5_readInto ofP
  rw [p1, cll_s, show (0 : Int32) = nI 0 from rfl]
  cases e : lawP T n with
  | error e1 =>
    rw [e] at hl
    obtain ⟨m', q1, q2, q3, q4, q5⟩ := hl
    obtain ⟨m3, hm3, _⟩ := succ_of (show 0 + 1 ≤ fu from fu_ge (by omega))
    rw [q1, cll_s, hm3, lo_bad q4 q5]
    exact ⟨_, rfl, (f1.trans q2).trans (FC.off fun q hq => st2_k (by omega)), by rw [st2_k (by omega)]; exact q3, q4, q5⟩
  | ok x =>
    obtain ⟨w1, w2, w3⟩ := lawP_ok e
    rw [e] at hl
    obtain ⟨m', q1, q2, q3, q4⟩ := hl
    rw [q1, cll_s]
    exact (c_lo (n + 1) 0 fu x.1 x.2 m' (hT1.fc q2) q3 w3 q4 w2 (by omega) (by omega) (fu_ge (by omega))).from (f1.trans q2)
end OF6
