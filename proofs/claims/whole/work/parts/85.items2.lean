/-! ===== PURE: office, the class reads a reader, a letter, the law ===== -/
theorem FC.refl {mem : Mem} : FC mem mem := ⟨fun _ _ _ => rfl, fun _ _ _ => rfl⟩
theorem ne0 {c : Nat} (h1 : 1 ≤ c) (h2 : c ≤ 3) : ¬ nI c = (0 : Int32) := nI_neN (b := 0) (by omega) (by omega) (by omega)
theorem FC.off {mem m' : Mem} (h : ∀ q, ¬ (16 ≤ q ∧ q ≤ 24) → m' q = mem q) : FC mem m' := ⟨fun q _ hq => h q hq, fun j _ _ => by rw [h 5 (by omega)]⟩
section OF4'
variable {T : Nat → Nat} {n : Nat} {G : Nat → Nat}
theorem b76_bad {c : Nat} (h1 : 1 ≤ c) (h2 : c ≤ 3) (x3 x4 : Int32) (mem : Mem) : X5_readReader_b76 5 16 (nI c) x3 x4 mem = some (nI c, mem) := by
  unfold X5_readReader_b76
  rw [if_neg (ne0 h1 h2)]
theorem b59_bad {c : Nat} (h1 : 1 ≤ c) (h2 : c ≤ 3) (x3 : Int32) (mem : Mem) : X5_readReader_b59 5 16 (nI c) x3 mem = some (nI c, mem) := by
  unfold X5_readReader_b59
  rw [if_neg (ne0 h1 h2), b76_bad h1 h2]
theorem b44_bad {c : Nat} (h1 : 1 ≤ c) (h2 : c ≤ 3) (x3 : Int32) (mem : Mem) : X5_readReader_b44 5 16 (nI c) x3 mem = some (nI c, mem) := by
  unfold X5_readReader_b44
  rw [if_neg (ne0 h1 h2), b59_bad h1 h2]
theorem c_rd {mem : Mem} {p : Nat} (hT : CTp mem T n) (hD : DR mem G) (hP : PG G) (h2 : mem 5 2 = nI p) (hp : p < n) : CR mem (rdP T n p G) (X5_readReader 5 16 mem) := by
  have hn := hT.1
  have hP1 := hP.1
  unfold X5_readReader rdP
  rw [hD.1.1.2.2.2.2]
  have hz : (nI (G 3) < (4 : Int32)) = (G 3 < 4) := by rw [show (4 : Int32) = nI 4 from rfl, nI_ltI (by omega) (by omega)]
  by_cases h4 : G 3 = 4
  · rw [if_pos h4, if_neg (fun z => absurd (hz.mp z) (by omega))]
    exact ⟨mem, rfl, FC.refl, h2, Nat.le_of_ble_eq_true rfl, Nat.le_of_ble_eq_true rfl⟩
  · rw [if_neg h4, if_pos (hz.mpr (by omega)), h2, show nI p + (1 : Int32) = nI (p + 1) from nI_add ..]
    have f1 : F5 mem (st2 mem 5 2 (nI (p + 1))) := F5.st (by omega)
    cases e1 : numP T n (p + 1) 0 99 with
    | error e =>
      obtain ⟨m2, q1, q2, q3, q4, q5⟩ := c_num_bad (hT.fr f1) st2_s (by omega) (by omega) (by omega) e1
      rw [show X5_takeNumber 5 0 99 (st2 mem 5 2 (nI (p + 1))) = _ from q1, cll_s, if_neg (ne0 q4 q5), b44_bad q4 q5]
      exact ⟨m2, rfl, (f1.trans q2).fc, q3, q4, q5⟩
    | ok x =>
      obtain ⟨p1, f⟩ := x
      obtain ⟨w1, w2, w3, w4⟩ := numP_in e1 (by omega)
      obtain ⟨m2, q1, q2, q3, q4⟩ := c_num_ok (hT.fr f1) st2_s (by omega) (by omega) (by omega) e1
      have f2 := f1.trans q2
      dsimp only
      rw [show X5_takeNumber 5 0 99 (st2 mem 5 2 (nI (p + 1))) = _ from q1, cll_s, if_pos (show nI 0 = (0 : Int32) from rfl)]
      cases e2 : sgP T n p1 44 with
      | error e =>
        obtain ⟨r1, r2, r3⟩ := c_sg_bad (hT.fr f2) q3 (by omega) (by omega) e2
        rw [show X5_takeSign 5 44 m2 = _ from r1, cll_s, b44_bad (by omega) (by omega)]
        exact ⟨m2, rfl, f2.fc, by rw [r2]; exact q3, by omega, by omega⟩
      | ok p2 =>
        have r1 := c_sg_ok (hT.fr f2) q3 (by omega) (by omega) e2
        have f3 : F5 mem (st2 m2 5 2 (nI p2)) := f2.trans (F5.st (by omega))
        have hp2 := sgP_ok e2
        dsimp only
        rw [show X5_takeSign 5 44 m2 = _ from r1, cll_s]
        unfold X5_readReader_b44
        rw [if_pos (show nI 0 = (0 : Int32) from rfl), q4, show nI f + (1 : Int32) = nI (f + 1) from nI_add ..]
        cases e3 : numP T n p2 (f + 1) 999 with
        | error e =>
          obtain ⟨m3, s1, s2, s3, s4, s5⟩ := c_num_bad (hT.fr f3) st2_s (by omega) (by omega) (by omega) e3
          rw [show X5_takeNumber 5 (nI (f + 1)) 999 (st2 m2 5 2 (nI p2)) = _ from s1, cll_s, b59_bad s4 s5]
          exact ⟨m3, rfl, (f3.trans s2).fc, s3, s4, s5⟩
        | ok y =>
          obtain ⟨p3, s⟩ := y
          obtain ⟨y1, y2, y3, y4⟩ := numP_in e3 (by omega)
          obtain ⟨m3, s1, s2, s3, s4⟩ := c_num_ok (hT.fr f3) st2_s (by omega) (by omega) (by omega) e3
          have f4 := f3.trans s2
          dsimp only
          rw [show X5_takeNumber 5 (nI (f + 1)) 999 (st2 m2 5 2 (nI p2)) = _ from s1, cll_s]
          unfold X5_readReader_b59
          rw [if_pos (show nI 0 = (0 : Int32) from rfl)]
          cases e4 : sgP T n p3 59 with
          | error e =>
            obtain ⟨u1, u2, u3⟩ := c_sg_bad (hT.fr f4) s3 (by omega) (by omega) e4
            rw [show X5_takeSign 5 59 m3 = _ from u1, cll_s, b76_bad (by omega) (by omega)]
            exact ⟨m3, rfl, f4.fc, by rw [u2]; exact s3, by omega, by omega⟩
          | ok p4 =>
            have u1 := c_sg_ok (hT.fr f4) s3 (by omega) (by omega) e4
            have f5 : F5 mem (st2 m3 5 2 (nI p4)) := f4.trans (F5.st (by omega))
            dsimp only
            rw [show X5_takeSign 5 59 m3 = _ from u1, cll_s]
            unfold X5_readReader_b76
            obtain ⟨m4, v1, v2, v3⟩ := c_addReader (f := f) (s := s) (hD.fr f5) hP (by omega)
            rw [if_pos (show nI 0 = (0 : Int32) from rfl), s4, v1, cll_s]
            exact ⟨m4, rfl, f5.fc.trans (FC.off v3), v2, by rw [v3 5 (by omega), st2_s]⟩
theorem c_kind {mem : Mem} {p : Nat} (hT : CTp mem T n) (h2 : mem 5 2 = nI p) (hp : p < n) : X5_kindAtPlace 5 mem = some (nI (kdN (T p)), mem) := by
  obtain ⟨hn, hb, h1, h6⟩ := hT
  have hbp := hb p hp
  have hz : ∀ c, c < 256 → ((nI (T p) = nI c) ↔ T p = c) := fun c hc => ⟨fun h => by
    apply Classical.byContradiction
    intro z
    exact nI_neN (by omega) (by omega) z h, fun h => by rw [h]⟩
  unfold X5_kindAtPlace kdN
  rw [h2, show rf 5 0 = 6 from rfl, ald_n (by simp only [lns]; omega) (by decide), h6 p hp]
  by_cases e1 : T p = 102
  · rw [if_pos (show nI (T p) = (102 : Int32) from (hz 102 (by omega)).mpr e1), if_neg (by omega), if_neg (by omega), if_neg (by omega), if_pos e1]; rfl
  rw [if_neg (show ¬ nI (T p) = (102 : Int32) from fun z => e1 ((hz 102 (by omega)).mp z))]
  by_cases e2 : T p = 108
  · rw [if_pos (show nI (T p) = (108 : Int32) from (hz 108 (by omega)).mpr e2), if_neg (by omega), if_neg (by omega), if_pos e2]; rfl
  rw [if_neg (show ¬ nI (T p) = (108 : Int32) from fun z => e2 ((hz 108 (by omega)).mp z))]
  by_cases e3 : T p = 112
  · rw [if_pos (show nI (T p) = (112 : Int32) from (hz 112 (by omega)).mpr e3), if_pos e3]; rfl
  rw [if_neg (show ¬ nI (T p) = (112 : Int32) from fun z => e3 ((hz 112 (by omega)).mp z))]
  by_cases e4 : T p = 115
  · rw [if_pos (show nI (T p) = (115 : Int32) from (hz 115 (by omega)).mpr e4), if_neg (by omega), if_neg (by omega), if_neg (by omega), if_neg (by omega), if_pos e4]; rfl
  rw [if_neg (show ¬ nI (T p) = (115 : Int32) from fun z => e4 ((hz 115 (by omega)).mp z))]
  by_cases e5 : T p = 118
  · rw [if_pos (show nI (T p) = (118 : Int32) from (hz 118 (by omega)).mpr e5), if_neg (by omega), if_pos e5]; rfl
  rw [if_neg (show ¬ nI (T p) = (118 : Int32) from fun z => e5 ((hz 118 (by omega)).mp z)), if_neg e3, if_neg e5, if_neg e2, if_neg e1, if_neg e4]
  rfl
theorem b93_bad {c : Nat} (h1 : 1 ≤ c) (h2 : c ≤ 3) (x2 x4 x5 : Int32) (mem : Mem) : X5_readLetter_b93 5 16 x2 (nI c) x4 x5 mem = some (nI c, mem) := by
  unfold X5_readLetter_b93
  rw [if_neg (ne0 h1 h2)]
theorem b76L_bad {c : Nat} (h1 : 1 ≤ c) (h2 : c ≤ 3) (x2 x4 : Int32) (mem : Mem) : X5_readLetter_b76 5 16 x2 (nI c) x4 mem = some (nI c, mem) := by
  unfold X5_readLetter_b76
  rw [if_neg (ne0 h1 h2), b93_bad h1 h2]
theorem b64_bad {c : Nat} (h1 : 1 ≤ c) (h2 : c ≤ 3) (x2 x4 : Int32) (mem : Mem) : X5_readLetter_b64 5 16 x2 (nI c) x4 mem = some (nI c, mem) := by
  unfold X5_readLetter_b64
  rw [if_neg (ne0 h1 h2), b76L_bad h1 h2]
theorem c_lt {mem : Mem} {p : Nat} (hT : CTp mem T n) (hD : DR mem G) (hP : PG G) (h2 : mem 5 2 = nI p) (hp : p < n) (h114 : ¬ T p = 114) : CR mem (itP T n p G) (X5_readLetter 5 16 mem) := by
  have hn := hT.1
  have hP1 := hP.1
  have hk5 := kdN_le (T p)
  unfold X5_readLetter itP
  rw [if_neg h114, c_kind hT h2 hp, cll_s]
  by_cases hk : kdN (T p) = 0
  · rw [if_pos hk, if_pos (show nI (kdN (T p)) = (0 : Int32) by rw [hk]; rfl)]
    exact ⟨mem, rfl, FC.refl, h2, Nat.le_of_ble_eq_true rfl, Nat.le_of_ble_eq_true rfl⟩
  · rw [if_neg hk, if_neg (show ¬ nI (kdN (T p)) = (0 : Int32) from nI_neN (b := 0) (by omega) (by omega) hk), hD.1.1.2.2.2.2]
    have hz3 : ((0 : Int32) < nI (G 3)) = (0 < G 3) := by rw [show (0 : Int32) = nI 0 from rfl, nI_ltI (by omega) (by omega)]
    by_cases h3 : 0 < G 3
    · rw [if_pos h3, if_pos (hz3.mpr h3)]
      exact ⟨mem, rfl, FC.refl, h2, Nat.le_of_ble_eq_true rfl, Nat.le_of_ble_eq_true rfl⟩
    · rw [if_neg h3, if_neg (fun z => h3 (hz3.mp z)), hD.1.1.2.2.2.1]
      have hz : (nI (G 2) < (6 : Int32)) = (G 2 < 6) := by rw [show (6 : Int32) = nI 6 from rfl, nI_ltI (by omega) (by omega)]
      unfold ltP
      by_cases h4 : G 2 = 6
      · rw [if_pos h4, if_neg (fun z => absurd (hz.mp z) (by omega))]
        exact ⟨mem, rfl, FC.refl, h2, Nat.le_of_ble_eq_true rfl, Nat.le_of_ble_eq_true rfl⟩
      · rw [if_neg h4, if_pos (hz.mpr (by omega)), h2, show nI p + (1 : Int32) = nI (p + 1) from nI_add ..]
        have f1 : F5 mem (st2 mem 5 2 (nI (p + 1))) := F5.st (by omega)
        cases e1 : numP T n (p + 1) 1 40 with
        | error e =>
          obtain ⟨m2, q1, q2, q3, q4, q5⟩ := c_num_bad (hT.fr f1) st2_s (by omega) (by omega) (by omega) e1
          rw [show X5_takeNumber 5 1 40 (st2 mem 5 2 (nI (p + 1))) = _ from q1, cll_s, if_neg (ne0 q4 q5), b64_bad q4 q5]
          exact ⟨m2, rfl, (f1.trans q2).fc, q3, q4, q5⟩
        | ok x =>
          obtain ⟨p1, f⟩ := x
          obtain ⟨w1, w2, w3, w4⟩ := numP_in e1 (by omega)
          obtain ⟨m2, q1, q2, q3, q4⟩ := c_num_ok (hT.fr f1) st2_s (by omega) (by omega) (by omega) e1
          have f2 := f1.trans q2
          dsimp only
          rw [show X5_takeNumber 5 1 40 (st2 mem 5 2 (nI (p + 1))) = _ from q1, cll_s, if_pos (show nI 0 = (0 : Int32) from rfl)]
          cases e2 : sgP T n p1 44 with
          | error e =>
            obtain ⟨r1, r2, r3⟩ := c_sg_bad (hT.fr f2) q3 (by omega) (by omega) e2
            rw [show X5_takeSign 5 44 m2 = _ from r1, cll_s, b64_bad (by omega) (by omega)]
            exact ⟨m2, rfl, f2.fc, by rw [r2]; exact q3, by omega, by omega⟩
          | ok p2 =>
            have r1 := c_sg_ok (hT.fr f2) q3 (by omega) (by omega) e2
            have f3 : F5 mem (st2 m2 5 2 (nI p2)) := f2.trans (F5.st (by omega))
            have hp2 := sgP_ok e2
            dsimp only
            rw [show X5_takeSign 5 44 m2 = _ from r1, cll_s]
            unfold X5_readLetter_b64
            rw [if_pos (show nI 0 = (0 : Int32) from rfl), q4]
            cases e3 : numP T n p2 1 99 with
            | error e =>
              obtain ⟨m3, s1, s2, s3, s4, s5⟩ := c_num_bad (hT.fr f3) st2_s (by omega) (by omega) (by omega) e3
              rw [show X5_takeNumber 5 1 99 (st2 m2 5 2 (nI p2)) = _ from s1, cll_s, b76L_bad s4 s5]
              exact ⟨m3, rfl, (f3.trans s2).fc, s3, s4, s5⟩
            | ok y =>
              obtain ⟨p3, s⟩ := y
              obtain ⟨y1, y2, y3, y4⟩ := numP_in e3 (by omega)
              obtain ⟨m3, s1, s2, s3, s4⟩ := c_num_ok (hT.fr f3) st2_s (by omega) (by omega) (by omega) e3
              have f4 := f3.trans s2
              dsimp only
              rw [show X5_takeNumber 5 1 99 (st2 m2 5 2 (nI p2)) = _ from s1, cll_s]
              unfold X5_readLetter_b76
              rw [if_pos (show nI 0 = (0 : Int32) from rfl)]
              cases e4 : sgP T n p3 59 with
              | error e =>
                obtain ⟨u1, u2, u3⟩ := c_sg_bad (hT.fr f4) s3 (by omega) (by omega) e4
                rw [show X5_takeSign 5 59 m3 = _ from u1, cll_s, b93_bad (by omega) (by omega)]
                exact ⟨m3, rfl, f4.fc, by rw [u2]; exact s3, by omega, by omega⟩
              | ok p4 =>
                have u1 := c_sg_ok (hT.fr f4) s3 (by omega) (by omega) e4
                have f5 : F5 mem (st2 m3 5 2 (nI p4)) := f4.trans (F5.st (by omega))
                dsimp only
                rw [show X5_takeSign 5 59 m3 = _ from u1, cll_s]
                unfold X5_readLetter_b93
                obtain ⟨m4, v1, v2, v3⟩ := c_addLetter (k := kdN (T p)) (a := f) (d := s) (hD.fr f5) hP (by omega) (by omega)
                rw [if_pos (show nI 0 = (0 : Int32) from rfl), s4, v1, cll_s]
                exact ⟨m4, rfl, f5.fc.trans (FC.off v3), v2, by rw [v3 5 (by omega), st2_s]⟩
end OF4'
