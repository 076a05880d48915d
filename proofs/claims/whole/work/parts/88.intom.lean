/-! ===== PURE: office, the reference's reading ===== -/
def MD (mem : Mem) (G : Nat → Nat) : Prop := ∀ j, j < 63 → mem 64 j = nI (G j)
def MR (mem : Mem) (res : Except (Nat × Nat) (Nat × (Nat → Nat))) (o : Option (Int32 × Mem)) : Prop := match res with
  | .ok x => ∃ m', o = some (nI 1, m') ∧ F7 mem m' ∧ MD m' x.2 ∧ m' 57 9 = nI x.1 ∧ m' 57 8 = mem 57 8
  | .error e => ∃ m', o = some (nI 0, m') ∧ F7 mem m' ∧ m' 57 8 = nI e.1 ∧ m' 57 10 = nI e.2
def MI (mem : Mem) (res : Except (Nat × Nat) (Nat → Nat)) (o : Option (Int32 × Mem)) : Prop := match res with
  | .ok G' => ∃ m', o = some (nI 1, m') ∧ F7 mem m' ∧ MD m' G' ∧ m' 57 8 = mem 57 8
  | .error e => ∃ m', o = some (nI 0, m') ∧ F7 mem m' ∧ m' 57 8 = nI e.1 ∧ m' 57 10 = nI e.2
section OF7
variable {T : Nat → Nat} {n : Nat} {G : Nat → Nat}
theorem MI.from {mem m1 : Mem} {res : Except (Nat × Nat) (Nat → Nat)} {o : Option (Int32 × Mem)} (h : MI m1 res o) (hf : F7 mem m1) (h8 : m1 57 8 = mem 57 8) : MI mem res o := by
  cases res with
  | ok G' =>
    obtain ⟨m', q1, q2, q3, q4⟩ := h
    exact ⟨m', q1, hf.trans q2, q3, by rw [q4, h8]⟩
  | error e =>
    obtain ⟨m', q1, q2, q3⟩ := h
    exact ⟨m', q1, hf.trans q2, q3⟩
theorem m_sortOf {b : Nat} (hb : b < 256) (mem : Mem) : X7_sortOf (nI b) mem = some (nI (kdN b), mem) := by
  have hz : ∀ c, c < 256 → ((nI b = nI c) ↔ b = c) := fun c hc => ⟨fun h => by
    apply Classical.byContradiction
    intro z
    exact nI_neN (by omega) (by omega) z h, fun h => by rw [h]⟩
  unfold X7_sortOf kdN
  by_cases e1 : b = 112
  · rw [if_pos (show nI b = (112 : Int32) from (hz 112 (by omega)).mpr e1), if_pos e1]; rfl
  rw [if_neg (show ¬ nI b = (112 : Int32) from fun z => e1 ((hz 112 (by omega)).mp z)), if_neg e1]
  by_cases e2 : b = 118
  · rw [if_pos (show nI b = (118 : Int32) from (hz 118 (by omega)).mpr e2), if_pos e2]; rfl
  rw [if_neg (show ¬ nI b = (118 : Int32) from fun z => e2 ((hz 118 (by omega)).mp z)), if_neg e2]
  by_cases e3 : b = 108
  · rw [if_pos (show nI b = (108 : Int32) from (hz 108 (by omega)).mpr e3), if_pos e3]; rfl
  rw [if_neg (show ¬ nI b = (108 : Int32) from fun z => e3 ((hz 108 (by omega)).mp z)), if_neg e3]
  by_cases e4 : b = 102
  · rw [if_pos (show nI b = (102 : Int32) from (hz 102 (by omega)).mpr e4), if_pos e4]; rfl
  rw [if_neg (show ¬ nI b = (102 : Int32) from fun z => e4 ((hz 102 (by omega)).mp z)), if_neg e4]
  by_cases e5 : b = 115
  · rw [if_pos (show nI b = (115 : Int32) from (hz 115 (by omega)).mpr e5), if_pos e5]; rfl
  rw [if_neg (show ¬ nI b = (115 : Int32) from fun z => e5 ((hz 115 (by omega)).mp z)), if_neg e5]
  rfl
theorem b94_ok {r : Nat} (hr : r < 4) (mem : Mem) : X7_takeReader_b94 57 (nI r) mem = some (nI 0, st2 mem 64 (31 + r) (mem 64 (23 + r))) := by
  unfold X7_takeReader_b94 X7_takeReader_b95
  rw [show rf 57 12 = 64 from rfl, show (23 : Int32) + nI r = nI (23 + r) from nI_add .., show (31 : Int32) + nI r = nI (31 + r) from nI_add .., ald_n (by simp only [lns]; omega) (by decide), ast_n (by simp only [lns]; omega) (by decide), if_pos (show (0 : Int32) = 0 from rfl), chk_t (show (0 : Int32) &&& 1 = 0 from by decide)]
  rfl
theorem m_rd {mem : Mem} {p : Nat} (hT : MTp mem T n) (hD : MD mem G) (hP : PG G) (h9 : mem 57 9 = nI p) (hp : p < n) : MR mem (rdP T n p G) (X7_takeReader 57 mem) := by
  have hn := hT.1
  have hP1 := hP.1
  unfold X7_takeReader rdP
  rw [show rf 57 12 = 64 from rfl, show (3 : Int32) = nI 3 from rfl, ald_n (by simp only [lns]; omega) (by decide), hD 3 (by omega)]
  by_cases h4 : G 3 = 4
  · rw [if_pos h4, if_pos (show nI (G 3) = (4 : Int32) by rw [h4]; rfl), m_fails, cll_s, chk_t (show nI 0 &&& 1 = nI 0 from by decide)]
    exact ⟨_, rfl, F7.fails, fails_8, by rw [st2_s]; exact h9⟩
  · rw [if_neg h4, if_neg (show ¬ nI (G 3) = (4 : Int32) from nI_neN (b := 4) (by omega) (by omega) h4), ald_n (by simp only [lns]; omega) (by decide), hD 3 (by omega), ast_n (by simp only [lns]; omega) (by decide), show nI (G 3) + (1 : Int32) = nI (G 3 + 1) from nI_add .., st2_k (show (57 : Nat) ≠ 64 by omega), h9, show nI p + (1 : Int32) = nI (p + 1) from nI_add .., show (23 : Int32) + nI (G 3) = nI (23 + G 3) from nI_add .., show (27 : Int32) + nI (G 3) = nI (27 + G 3) from nI_add ..]
    obtain ⟨m1, hm1⟩ : ∃ m1, m1 = st2 (st2 mem 64 3 (nI (G 3 + 1))) 57 9 (nI (p + 1)) := ⟨_, rfl⟩
    rw [← hm1]
    have f1 : F7 mem m1 := by rw [hm1]; exact F7.st64.trans (F7.st (by omega))
    have h91 : m1 57 9 = nI (p + 1) := by rw [hm1, st2_s]
    have h81 : m1 57 8 = mem 57 8 := by rw [hm1, st2_i (by omega), st2_k (by omega)]
    have a1 : ∀ j, j < 63 → m1 64 j = if j = 3 then nI (G 3 + 1) else nI (G j) := fun j hj => by
      rw [hm1, st2_k (by omega)]
      by_cases e : j = 3
      · rw [if_pos e, e, st2_s]
      · rw [if_neg e, st2_i e, hD j hj]
    have hbad : ∀ (m : Mem) (e : Nat × Nat), F7 mem m → m 57 8 = nI e.1 → m 57 10 = nI e.2 → MR mem (.error e) (X7_takeReader_b94 57 (nI (G 3)) m) := fun m e z1 z2 z3 => by
      rw [b94_ok (by omega)]
      exact ⟨_, rfl, z1.trans F7.st64, by rw [st2_k (by omega)]; exact z2, by rw [st2_k (by omega)]; exact z3⟩
    cases e1 : numP T n (p + 1) 0 99 with
    | error e =>
      obtain ⟨m2, q1, q2, q3, q4⟩ := m_into_bad (c := 23 + G 3) (by omega) (hT.fr f1) h91 (by omega) (by omega) (by omega) e1
      rw [show X7_into 57 (nI (23 + G 3)) 0 99 m1 = _ from q1, cll_s, if_pos (show nI 0 = (0 : Int32) from rfl)]
      exact hbad m2 e (f1.trans q2) q3 q4
    | ok x =>
      obtain ⟨p1, f⟩ := x
      obtain ⟨w1, w2, w3, w4⟩ := numP_in e1 (by omega)
      obtain ⟨m2, q1, q2, q3, q4, q5, q6⟩ := m_into_ok (c := 23 + G 3) (by omega) (hT.fr f1) h91 (by omega) (by omega) (by omega) e1
      have f2 := f1.trans q2
      dsimp only
      rw [show X7_into 57 (nI (23 + G 3)) 0 99 m1 = _ from q1, cll_s, if_neg (show ¬ nI 1 = (0 : Int32) from nI01)]
      cases e2 : sgP T n p1 44 with
      | error e =>
        have r1 := m_sg_bad (hT.fr f2) q3 (by omega) (by omega) e2
        rw [show X7_sign 57 44 m2 = _ from r1, cll_s, if_pos (show nI 0 = (0 : Int32) from rfl)]
        exact hbad _ e (f2.trans F7.fails) fails_8 st2_s
      | ok p2 =>
        have r1 := m_sg_ok (hT.fr f2) q3 (by omega) (by omega) e2
        have f3 : F7 mem (st2 m2 57 9 (nI p2)) := f2.trans (F7.st (by omega))
        have hp2 := sgP_ok e2
        dsimp only
        rw [show X7_sign 57 44 m2 = _ from r1, cll_s, if_neg (show ¬ nI 1 = (0 : Int32) from nI01), ald_n (by simp only [lns]; omega) (by decide), st2_k (show (64 : Nat) ≠ 57 by omega), q5, show nI f + (1 : Int32) = nI (f + 1) from nI_add ..]
        cases e3 : numP T n p2 (f + 1) 999 with
        | error e =>
          obtain ⟨m3, s1, s2, s3, s4⟩ := m_into_bad (c := 27 + G 3) (by omega) (hT.fr f3) st2_s (by omega) (by omega) (by omega) e3
          rw [show X7_into 57 (nI (27 + G 3)) (nI (f + 1)) 999 (st2 m2 57 9 (nI p2)) = _ from s1, cll_s, if_pos (show nI 0 = (0 : Int32) from rfl)]
          exact hbad m3 e (f3.trans s2) s3 s4
        | ok y =>
          obtain ⟨p3, s⟩ := y
          obtain ⟨y1, y2, y3, y4⟩ := numP_in e3 (by omega)
          obtain ⟨m3, s1, s2, s3, s4, s5, s6⟩ := m_into_ok (c := 27 + G 3) (by omega) (hT.fr f3) st2_s (by omega) (by omega) (by omega) e3
          have f4 := f3.trans s2
          have b23 : m3 64 (23 + G 3) = nI f := by rw [s6 _ (by omega), st2_k (by omega), q5]
          dsimp only
          rw [show X7_into 57 (nI (27 + G 3)) (nI (f + 1)) 999 (st2 m2 57 9 (nI p2)) = _ from s1, cll_s, if_neg (show ¬ nI 1 = (0 : Int32) from nI01)]
          unfold X7_takeReader_b95
          rw [show rf 57 12 = 64 from rfl, show (23 : Int32) + nI (G 3) = nI (23 + G 3) from nI_add .., show (31 : Int32) + nI (G 3) = nI (31 + G 3) from nI_add .., ald_n (by simp only [lns]; omega) (by decide), b23, ast_n (by simp only [lns]; omega) (by decide), if_neg (show ¬ (1 : Int32) = 0 from by decide)]
          have f5 : F7 mem (st2 m3 64 (31 + G 3) (nI f)) := f4.trans F7.st64
          have h95 : st2 m3 64 (31 + G 3) (nI f) 57 9 = nI p3 := by rw [st2_k (by omega)]; exact s3
          have h85 : st2 m3 64 (31 + G 3) (nI f) 57 8 = mem 57 8 := by rw [st2_k (by omega), s4, st2_i (by omega), q4, h81]
          cases e4 : sgP T n p3 59 with
          | error e =>
            have u1 := m_sg_bad (hT.fr f5) h95 (by omega) (by omega) e4
            rw [show X7_sign 57 59 (st2 m3 64 (31 + G 3) (nI f)) = _ from u1, cll_s, if_pos (show nI 0 = (0 : Int32) from rfl), chk_t (show (0 : Int32) &&& 1 = 0 from by decide)]
            exact ⟨_, rfl, f5.trans F7.fails, fails_8, st2_s⟩
          | ok p4 =>
            have u1 := m_sg_ok (hT.fr f5) h95 (by omega) (by omega) e4
            rw [show X7_sign 57 59 (st2 m3 64 (31 + G 3) (nI f)) = _ from u1, cll_s, if_neg (show ¬ nI 1 = (0 : Int32) from nI01), chk_t (show (1 : Int32) &&& 1 = 1 from by decide)]
            refine ⟨_, rfl, f5.trans (F7.st (by omega)), fun j hj => ?_, st2_s, by rw [st2_i (by omega)]; exact h85⟩
            show _ = nI (addR G f s j)
            rw [st2_k (by omega)]
            unfold addR
            by_cases j31 : j = 31 + G 3
            · rw [j31, st2_s, if_neg (by omega), if_neg (by omega), if_neg (by omega), if_pos rfl]
            · rw [st2_i j31]
              by_cases j27 : j = 27 + G 3
              · rw [j27, s5, if_neg (by omega), if_neg (by omega), if_pos rfl]
              · rw [s6 j j27, st2_k (by omega)]
                by_cases j23 : j = 23 + G 3
                · rw [j23, q5, if_neg (by omega), if_pos rfl]
                · rw [q6 j j23, a1 j hj]
                  by_cases j3 : j = 3
                  · rw [if_pos j3, if_pos j3]
                  · rw [if_neg j3, if_neg j3, if_neg j23, if_neg j27, if_neg j31]
theorem m_lt {mem : Mem} {p : Nat} (hT : MTp mem T n) (hD : MD mem G) (hP : PG G) (h9 : mem 57 9 = nI p) (hp : p < n) (h3 : G 3 = 0) : MR mem (ltP T n p G (kdN (T p))) (X7_takeLetter 57 mem) := by
  have hn := hT.1
  have hP1 := hP.1
  have hbp := hT.2.1 p hp
  unfold X7_takeLetter ltP
  rw [show rf 57 12 = 64 from rfl, show (2 : Int32) = nI 2 from rfl, ald_n (by simp only [lns]; omega) (by decide), hD 2 (by omega)]
  by_cases h4 : G 2 = 6
  · rw [if_pos h4, if_pos (show nI (G 2) = (6 : Int32) by rw [h4]; rfl), m_fails, cll_s, chk_t (show nI 0 &&& 1 = nI 0 from by decide)]
    exact ⟨_, rfl, F7.fails, fails_8, by rw [st2_s]; exact h9⟩
  · rw [if_neg h4, if_neg (show ¬ nI (G 2) = (6 : Int32) from nI_neN (b := 6) (by omega) (by omega) h4), m_here hT h9 (by omega), cll_s, show hrI T n p = nI (T p) from if_pos hp, m_sortOf hbp, cll_s, show (5 : Int32) + nI (G 2) = nI (5 + G 2) from nI_add .., show (11 : Int32) + nI (G 2) = nI (11 + G 2) from nI_add .., show (17 : Int32) + nI (G 2) = nI (17 + G 2) from nI_add .., ast_n (by simp only [lns]; omega) (by decide), ald_n (by simp only [lns]; omega) (by decide), st2_i (show 2 ≠ 5 + G 2 by omega), hD 2 (by omega), ast_n (by simp only [lns]; omega) (by decide), show nI (G 2) + (1 : Int32) = nI (G 2 + 1) from nI_add .., st2_k (show (57 : Nat) ≠ 64 by omega), st2_k (show (57 : Nat) ≠ 64 by omega), h9, show nI p + (1 : Int32) = nI (p + 1) from nI_add ..]
    obtain ⟨m1, hm1⟩ : ∃ m1, m1 = st2 (st2 (st2 mem 64 (5 + G 2) (nI (kdN (T p)))) 64 2 (nI (G 2 + 1))) 57 9 (nI (p + 1)) := ⟨_, rfl⟩
    rw [← hm1]
    have f1 : F7 mem m1 := by rw [hm1]; exact (F7.st64.trans F7.st64).trans (F7.st (by omega))
    have h91 : m1 57 9 = nI (p + 1) := by rw [hm1, st2_s]
    have h81 : m1 57 8 = mem 57 8 := by rw [hm1, st2_i (by omega), st2_k (by omega), st2_k (by omega)]
    have a1 : ∀ j, j < 63 → m1 64 j = if j = 2 then nI (G 2 + 1) else if j = 5 + G 2 then nI (kdN (T p)) else nI (G j) := fun j hj => by
      rw [hm1, st2_k (by omega)]
      by_cases e : j = 2
      · rw [if_pos e, e, st2_s]
      · rw [if_neg e, st2_i e]
        by_cases e2 : j = 5 + G 2
        · rw [if_pos e2, e2, st2_s]
        · rw [if_neg e2, st2_i e2, hD j hj]
    cases e1 : numP T n (p + 1) 1 40 with
    | error e =>
      obtain ⟨m2, q1, q2, q3, q4⟩ := m_into_bad (c := 11 + G 2) (by omega) (hT.fr f1) h91 (by omega) (by omega) (by omega) e1
      rw [show X7_into 57 (nI (11 + G 2)) 1 40 m1 = _ from q1, cll_s, if_pos (show nI 0 = (0 : Int32) from rfl), chk_t (show (0 : Int32) &&& 1 = 0 from by decide)]
      exact ⟨m2, rfl, f1.trans q2, q3, q4⟩
    | ok x =>
      obtain ⟨p1, f⟩ := x
      obtain ⟨w1, w2, w3, w4⟩ := numP_in e1 (by omega)
      obtain ⟨m2, q1, q2, q3, q4, q5, q6⟩ := m_into_ok (c := 11 + G 2) (by omega) (hT.fr f1) h91 (by omega) (by omega) (by omega) e1
      have f2 := f1.trans q2
      dsimp only
      rw [show X7_into 57 (nI (11 + G 2)) 1 40 m1 = _ from q1, cll_s, if_neg (show ¬ nI 1 = (0 : Int32) from nI01)]
      cases e2 : sgP T n p1 44 with
      | error e =>
        have r1 := m_sg_bad (hT.fr f2) q3 (by omega) (by omega) e2
        rw [show X7_sign 57 44 m2 = _ from r1, cll_s, if_pos (show nI 0 = (0 : Int32) from rfl), chk_t (show (0 : Int32) &&& 1 = 0 from by decide)]
        exact ⟨_, rfl, f2.trans F7.fails, fails_8, st2_s⟩
      | ok p2 =>
        have r1 := m_sg_ok (hT.fr f2) q3 (by omega) (by omega) e2
        have f3 : F7 mem (st2 m2 57 9 (nI p2)) := f2.trans (F7.st (by omega))
        have hp2 := sgP_ok e2
        dsimp only
        rw [show X7_sign 57 44 m2 = _ from r1, cll_s, if_neg (show ¬ nI 1 = (0 : Int32) from nI01)]
        cases e3 : numP T n p2 1 99 with
        | error e =>
          obtain ⟨m3, s1, s2, s3, s4⟩ := m_into_bad (c := 17 + G 2) (by omega) (hT.fr f3) st2_s (by omega) (by omega) (by omega) e3
          rw [show X7_into 57 (nI (17 + G 2)) 1 99 (st2 m2 57 9 (nI p2)) = _ from s1, cll_s, if_pos (show nI 0 = (0 : Int32) from rfl), chk_t (show (0 : Int32) &&& 1 = 0 from by decide)]
          exact ⟨m3, rfl, f3.trans s2, s3, s4⟩
        | ok y =>
          obtain ⟨p3, s⟩ := y
          obtain ⟨y1, y2, y3, y4⟩ := numP_in e3 (by omega)
          obtain ⟨m3, s1, s2, s3, s4, s5, s6⟩ := m_into_ok (c := 17 + G 2) (by omega) (hT.fr f3) st2_s (by omega) (by omega) (by omega) e3
          have f4 := f3.trans s2
          have h84 : m3 57 8 = mem 57 8 := by rw [s4, st2_i (by omega), q4, h81]
          dsimp only
          rw [show X7_into 57 (nI (17 + G 2)) 1 99 (st2 m2 57 9 (nI p2)) = _ from s1, cll_s, if_neg (show ¬ nI 1 = (0 : Int32) from nI01)]
          cases e4 : sgP T n p3 59 with
          | error e =>
            have u1 := m_sg_bad (hT.fr f4) s3 (by omega) (by omega) e4
            rw [show X7_sign 57 59 m3 = _ from u1, cll_s, if_pos (show nI 0 = (0 : Int32) from rfl), chk_t (show (0 : Int32) &&& 1 = 0 from by decide)]
            exact ⟨_, rfl, f4.trans F7.fails, fails_8, st2_s⟩
          | ok p4 =>
            have u1 := m_sg_ok (hT.fr f4) s3 (by omega) (by omega) e4
            rw [show X7_sign 57 59 m3 = _ from u1, cll_s, if_neg (show ¬ nI 1 = (0 : Int32) from nI01), chk_t (show (1 : Int32) &&& 1 = 1 from by decide)]
            refine ⟨_, rfl, f4.trans (F7.st (by omega)), fun j hj => ?_, st2_s, by rw [st2_i (by omega)]; exact h84⟩
            show _ = nI (addL G (kdN (T p)) f s j)
            rw [st2_k (by omega)]
            unfold addL
            by_cases j17 : j = 17 + G 2
            · rw [j17, s5, if_neg (by omega), if_neg (by omega), if_neg (by omega), if_pos rfl]
            · rw [s6 j j17, st2_k (by omega)]
              by_cases j11 : j = 11 + G 2
              · rw [j11, q5, if_neg (by omega), if_neg (by omega), if_pos rfl]
              · rw [q6 j j11, a1 j hj]
                by_cases j2 : j = 2
                · rw [if_pos j2, if_pos j2]
                · rw [if_neg j2, if_neg j2]
                  by_cases j5 : j = 5 + G 2
                  · rw [if_pos j5, if_pos j5]
                  · rw [if_neg j5, if_neg j5, if_neg j11, if_neg j17]
theorem MR.chk {mem : Mem} {res : Except (Nat × Nat) (Nat × (Nat → Nat))} {o : Option (Int32 × Mem)} (h : MR mem res o) : MR mem res (cll o fun r m => chk ((r : Int32) &&& 1 = r) (some (r, m))) := by
  cases res with
  | ok x =>
    obtain ⟨m', q1, q2⟩ := h
    rw [q1, cll_s, chk_t (show nI 1 &&& 1 = nI 1 from by decide)]
    exact ⟨m', rfl, q2⟩
  | error e =>
    obtain ⟨m', q1, q2⟩ := h
    rw [q1, cll_s, chk_t (show nI 0 &&& 1 = nI 0 from by decide)]
    exact ⟨m', rfl, q2⟩
theorem m_it {mem : Mem} {p : Nat} (hT : MTp mem T n) (hD : MD mem G) (hP : PG G) (h9 : mem 57 9 = nI p) (hp : p < n) : MR mem (itP T n p G) (X7_takeNext 57 mem) := by
  have hn := hT.1
  have hP1 := hP.1
  have hbp := hT.2.1 p hp
  have hk5 := kdN_le (T p)
  have h39 : MR mem (.error (1, p)) (X7_takeNext_b39 57 mem) := by
    unfold X7_takeNext_b39
    rw [m_fails, cll_s, chk_t (show nI 0 &&& 1 = nI 0 from by decide)]
    exact ⟨_, rfl, F7.fails, fails_8, by rw [st2_s]; exact h9⟩
  unfold X7_takeNext itP
  rw [m_here hT h9 (by omega), cll_s, show hrI T n p = nI (T p) from if_pos hp]
  by_cases h114 : T p = 114
  · rw [if_pos h114, if_pos (show nI (T p) = (114 : Int32) by rw [h114]; rfl)]
    exact (m_rd hT hD hP h9 hp).chk
  · rw [if_neg h114, if_neg (show ¬ nI (T p) = (114 : Int32) from nI_neN (b := 114) (by omega) (by omega) h114), m_sortOf hbp, cll_s]
    have hz : ((0 : Int32) < nI (kdN (T p))) = (0 < kdN (T p)) := by rw [show (0 : Int32) = nI 0 from rfl, nI_ltI (by omega) (by omega)]
    by_cases hk : kdN (T p) = 0
    · rw [if_pos hk, if_neg (fun z => absurd (hz.mp z) (by omega))]
      exact h39
    · rw [if_neg hk, if_pos (hz.mpr (by omega)), show rf 57 12 = 64 from rfl, show (3 : Int32) = nI 3 from rfl, ald_n (by simp only [lns]; omega) (by decide), hD 3 (by omega)]
      by_cases h3 : 0 < G 3
      · rw [if_pos h3, if_neg (show ¬ nI (G 3) = (0 : Int32) from nI_neN (b := 0) (by omega) (by omega) (by omega))]
        exact h39
      · rw [if_neg h3, if_pos (show nI (G 3) = (0 : Int32) by rw [show G 3 = 0 by omega]; rfl)]
        exact (m_lt hT hD hP h9 hp (by omega)).chk
theorem mlo_0 (mem : Mem) (m : Nat) : X7_takeOffice_b36 57 (m + 1) (nI 0) mem = some (nI 0, mem) := by
  rw [X7_takeOffice_b36]
  dsimp only
  rw [if_pos (show nI 0 = (0 : Int32) from rfl), chk_t (show nI 0 &&& 1 = nI 0 from by decide)]
theorem m_lo : ∀ (k m p : Nat) (G : Nat → Nat) (mem : Mem), MTp mem T n → MD mem G → PG G → mem 57 9 = nI p → p ≤ n → n - p < k → k ≤ m → MI mem (loP T n k p G) (X7_takeOffice_b36 57 m (nI 1) mem) := by
  intro k
  induction k with
  | zero => intro m p G mem _ _ _ _ _ h; omega
  | succ k ih =>
    intro m p G mem hT hD hP h9 hp hk hm
    obtain ⟨m, rfl, hm2⟩ := succ_of hm
    have hn := hT.1
    rw [X7_takeOffice_b36, loP]
    dsimp only
    have hz2 : (nI p < nI n) = (p < n) := by rw [nI_ltI (by omega) (by omega)]
    rw [if_neg (show ¬ nI 1 = (0 : Int32) from nI01), h9, hT.2.2.1]
    by_cases hlt : p < n
    · rw [if_pos (hz2.mpr hlt), if_pos hlt]
      have hI := m_it hT hD hP h9 hlt
      cases e : itP T n p G with
      | error e1 =>
        rw [e] at hI
        obtain ⟨m', q1, q2, q3, q4⟩ := hI
        obtain ⟨m3, rfl, _⟩ := succ_of (show 0 + 1 ≤ m by omega)
        rw [q1, cll_s, mlo_0]
        exact ⟨m', rfl, q2, q3, q4⟩
      | ok x =>
        obtain ⟨w1, w2, w3⟩ := itP_ok hP hlt e
        rw [e] at hI
        obtain ⟨m', q1, q2, q3, q4, q5⟩ := hI
        rw [q1, cll_s]
        exact (ih m x.1 x.2 m' (hT.fr q2) q3 w3 q4 w2 (by omega) hm2).from q2 q5
    · rw [if_neg (fun z => hlt (hz2.mp z)), if_neg hlt, chk_t (show nI 1 &&& 1 = nI 1 from by decide)]
      exact ⟨mem, rfl, F7.refl, hD, rfl⟩
theorem m_off {mem : Mem} (hT : MTp mem T n) (hD : MD mem (fun _ => 0)) (h9 : mem 57 9 = nI 0) : MI mem (ofP T n) (X7_takeOffice 57 mem) := by
  have hn := hT.1
  obtain ⟨m3, hm3, _⟩ := succ_of (show 0 + 1 ≤ fu from fu_ge (by omega))
  have hbad : ∀ (m : Mem) (e : Nat × Nat), F7 mem m → m 57 8 = nI e.1 → m 57 10 = nI e.2 → MI mem (.error e) (X7_takeOffice_b34 57 m) := fun m e z1 z2 z3 => by
    unfold X7_takeOffice_b34 X7_takeOffice_b35
    rw [show (0 : Int32) = nI 0 from rfl, hm3, mlo_0]
    exact ⟨m, rfl, z1, z2, z3⟩
  unfold X7_takeOffice ofP
  cases el : lawP T n with
  | error e1 =>
    unfold lawP at el
    cases e2 : sgP T n 0 111 with
    | error e =>
      rw [e2] at el
      injection el with el
      have r1 := m_sg_bad hT h9 (by omega) (by omega) e2
      rw [show X7_sign 57 111 mem = _ from r1, cll_s, if_pos (show nI 0 = (0 : Int32) from rfl), ← el]
      exact hbad _ e F7.fails fails_8 st2_s
    | ok p2 =>
      rw [e2] at el
      dsimp only at el
      have r1 := m_sg_ok hT h9 (by omega) (by omega) e2
      have f3 : F7 mem (st2 mem 57 9 (nI p2)) := F7.st (by omega)
      have hp2 := sgP_ok e2
      rw [show X7_sign 57 111 mem = _ from r1, cll_s, if_neg (show ¬ nI 1 = (0 : Int32) from nI01)]
      cases e3 : numP T n p2 1 999 with
      | error e =>
        rw [e3] at el
        injection el with el
        obtain ⟨m3, s1, s2, s3, s4⟩ := m_into_bad (c := 1) (by omega) (hT.fr f3) st2_s (by omega) (by omega) (by omega) e3
        rw [show X7_into 57 1 1 999 (st2 mem 57 9 (nI p2)) = _ from s1, cll_s, if_pos (show nI 0 = (0 : Int32) from rfl), ← el]
        exact hbad m3 e (f3.trans s2) s3 s4
      | ok y =>
        obtain ⟨p3, s⟩ := y
        obtain ⟨y1, y2, y3, y4⟩ := numP_in e3 (by omega)
        rw [e3] at el
        dsimp only at el
        obtain ⟨m3, s1, s2, s3, s4, s5, s6⟩ := m_into_ok (c := 1) (by omega) (hT.fr f3) st2_s (by omega) (by omega) (by omega) e3
        have f4 := f3.trans s2
        rw [show X7_into 57 1 1 999 (st2 mem 57 9 (nI p2)) = _ from s1, cll_s, if_neg (show ¬ nI 1 = (0 : Int32) from nI01)]
        cases e4 : sgP T n p3 59 with
        | error e =>
          rw [e4] at el
          injection el with el
          have u1 := m_sg_bad (hT.fr f4) s3 (by omega) (by omega) e4
          rw [show X7_sign 57 59 m3 = _ from u1, cll_s, if_pos (show nI 0 = (0 : Int32) from rfl), ← el]
          exact hbad _ e (f4.trans F7.fails) fails_8 st2_s
        | ok p4 =>
          rw [e4] at el
          cases el
  | ok x =>
    obtain ⟨v1, v2, v3⟩ := lawP_ok el
    unfold lawP at el
    cases e2 : sgP T n 0 111 with
    | error e => rw [e2] at el; cases el
    | ok p2 =>
      rw [e2] at el
      dsimp only at el
      have r1 := m_sg_ok hT h9 (by omega) (by omega) e2
      have f3 : F7 mem (st2 mem 57 9 (nI p2)) := F7.st (by omega)
      have hp2 := sgP_ok e2
      rw [show X7_sign 57 111 mem = _ from r1, cll_s, if_neg (show ¬ nI 1 = (0 : Int32) from nI01)]
      cases e3 : numP T n p2 1 999 with
      | error e => rw [e3] at el; cases el
      | ok y =>
        obtain ⟨p3, s⟩ := y
        obtain ⟨y1, y2, y3, y4⟩ := numP_in e3 (by omega)
        rw [e3] at el
        dsimp only at el
        obtain ⟨m3, s1, s2, s3, s4, s5, s6⟩ := m_into_ok (c := 1) (by omega) (hT.fr f3) st2_s (by omega) (by omega) (by omega) e3
        have f4 := f3.trans s2
        rw [show X7_into 57 1 1 999 (st2 mem 57 9 (nI p2)) = _ from s1, cll_s, if_neg (show ¬ nI 1 = (0 : Int32) from nI01)]
        cases e4 : sgP T n p3 59 with
        | error e => rw [e4] at el; cases el
        | ok p4 =>
          rw [e4] at el
          injection el with el
          have u1 := m_sg_ok (hT.fr f4) s3 (by omega) (by omega) e4
          have f5 : F7 mem (st2 m3 57 9 (nI p4)) := f4.trans (F7.st (by omega))
          rw [show X7_sign 57 59 m3 = _ from u1, cll_s, if_neg (show ¬ nI 1 = (0 : Int32) from nI01)]
          unfold X7_takeOffice_b35
          rw [← el] at v1 v2 v3 ⊢
          refine (m_lo (n + 1) fu p4 (law0 s) _ (hT.fr f5) (fun j hj => ?_) v3 st2_s v2 (by omega) (fu_ge (by omega))).from f5 (by rw [st2_i (by omega), s4, st2_i (by omega)])
          rw [st2_k (by omega)]
          unfold law0
          by_cases j1 : j = 1
          · rw [if_pos j1, j1]; exact s5
          · rw [if_neg j1, s6 j j1, st2_k (by omega)]
            exact hD j hj
end OF7
