/-! ===== PURE: office, the class's whole reading ===== -/
def law0 (v : Nat) (j : Nat) : Nat := if j = 1 then v else 0
def lawP (T : Nat → Nat) (n : Nat) : Except (Nat × Nat) (Nat × (Nat → Nat)) :=
  match sgP T n 0 111 with
  | .error e => .error e
  | .ok p1 => match numP T n p1 1 999 with
    | .error e => .error e
    | .ok y => match sgP T n y.1 59 with
      | .error e => .error e
      | .ok p4 => .ok (p4, law0 y.2)
def loP (T : Nat → Nat) (n : Nat) : Nat → Nat → (Nat → Nat) → Except (Nat × Nat) (Nat → Nat)
  | 0 => fun _ G => .ok G
  | k + 1 => fun p G => if p < n then match itP T n p G with
      | .error e => .error e
      | .ok x => loP T n k x.1 x.2
    else .ok G
def ofP (T : Nat → Nat) (n : Nat) : Except (Nat × Nat) (Nat → Nat) := match lawP T n with
  | .error e => .error e
  | .ok x => loP T n (n + 1) x.1 x.2
def stG (G : Nat → Nat) (j : Nat) : Nat := if j = 0 then 1 else G j
section OF5
variable {T : Nat → Nat} {n : Nat} {G : Nat → Nat}
theorem PG_law {v : Nat} (h1 : 1 ≤ v) (h2 : v ≤ 999) : PG (law0 v) := by
  refine ⟨⟨rfl, h1, h2, Nat.zero_le _, Nat.zero_le _, rfl⟩, fun l hl => absurd hl (Nat.not_lt_zero l), fun r hr => absurd hr (Nat.not_lt_zero r), fun j h3 h4 => ?_⟩
  unfold law0
  rw [if_neg (by omega)]
theorem PG_addR {f s : Nat} (hP : PG G) (h3 : G 3 < 4) (h4 : f ≤ 99) (h5 : f + 1 ≤ s) (h6 : s ≤ 999) : PG (addR G f s) := by
  obtain ⟨⟨a0, a1, a2, a3, a4, a5⟩, b, c, d⟩ := hP
  have hg : ∀ j, j ≠ 3 → j < 23 → addR G f s j = G j := fun j _ _ => by unfold addR; rw [if_neg (by omega), if_neg (by omega), if_neg (by omega), if_neg (by omega)]
  refine ⟨⟨by rw [hg 0 (by omega) (by omega)]; exact a0, by rw [hg 1 (by omega) (by omega)]; exact a1, by rw [hg 1 (by omega) (by omega)]; exact a2, by rw [hg 2 (by omega) (by omega)]; exact a3, ?_, by rw [hg 4 (by omega) (by omega)]; exact a5⟩, fun l hl => ?_, fun r hr => ?_, fun j h7 h8 => ?_⟩
  · show G 3 + 1 ≤ 4
    omega
  · rw [hg 2 (by omega) (by omega)] at hl
    rw [hg _ (by omega) (by omega), hg _ (by omega) (by omega), hg _ (by omega) (by omega)]
    exact b l hl
  · have hr' : r < G 3 + 1 := hr
    by_cases e : r = G 3
    · rw [e]
      have e1 : addR G f s (23 + G 3) = f := by unfold addR; rw [if_neg (by omega), if_pos rfl]
      have e2 : addR G f s (27 + G 3) = s := by unfold addR; rw [if_neg (by omega), if_neg (by omega), if_pos rfl]
      have e3 : addR G f s (31 + G 3) = f := by unfold addR; rw [if_neg (by omega), if_neg (by omega), if_neg (by omega), if_pos rfl]
      rw [e1, e2, e3]
      omega
    · have e1 : addR G f s (23 + r) = G (23 + r) := by unfold addR; rw [if_neg (by omega), if_neg (by omega), if_neg (by omega), if_neg (by omega)]
      have e2 : addR G f s (27 + r) = G (27 + r) := by unfold addR; rw [if_neg (by omega), if_neg (by omega), if_neg (by omega), if_neg (by omega)]
      have e3 : addR G f s (31 + r) = G (31 + r) := by unfold addR; rw [if_neg (by omega), if_neg (by omega), if_neg (by omega), if_neg (by omega)]
      rw [e1, e2, e3]
      exact c r (by omega)
  · unfold addR
    rw [if_neg (by omega), if_neg (by omega), if_neg (by omega), if_neg (by omega)]
    exact d j h7 h8
theorem PG_addL {k a x : Nat} (hP : PG G) (h2 : G 2 < 6) (h3 : G 3 = 0) (hk : 1 ≤ k ∧ k ≤ 5) (ha : 1 ≤ a ∧ a ≤ 40) (hx : 1 ≤ x ∧ x ≤ 99) : PG (addL G k a x) := by
  obtain ⟨⟨a0, a1, a2, a3, a4, a5⟩, b, c, d⟩ := hP
  have hg : ∀ j, j ≠ 2 → j < 5 → addL G k a x j = G j := fun j _ _ => by unfold addL; rw [if_neg (by omega), if_neg (by omega), if_neg (by omega), if_neg (by omega)]
  refine ⟨⟨by rw [hg 0 (by omega) (by omega)]; exact a0, by rw [hg 1 (by omega) (by omega)]; exact a1, by rw [hg 1 (by omega) (by omega)]; exact a2, ?_, by rw [hg 3 (by omega) (by omega)]; exact a4, by rw [hg 4 (by omega) (by omega)]; exact a5⟩, fun l hl => ?_, fun r hr => ?_, fun j h7 h8 => ?_⟩
  · show G 2 + 1 ≤ 6
    omega
  · have hl' : l < G 2 + 1 := hl
    by_cases e : l = G 2
    · rw [e]
      have e1 : addL G k a x (5 + G 2) = k := by unfold addL; rw [if_neg (by omega), if_pos rfl]
      have e2 : addL G k a x (11 + G 2) = a := by unfold addL; rw [if_neg (by omega), if_neg (by omega), if_pos rfl]
      have e3 : addL G k a x (17 + G 2) = x := by unfold addL; rw [if_neg (by omega), if_neg (by omega), if_neg (by omega), if_pos rfl]
      rw [e1, e2, e3]
      exact ⟨hk.1, hk.2, ha.1, ha.2, hx.1, hx.2⟩
    · have e1 : addL G k a x (5 + l) = G (5 + l) := by unfold addL; rw [if_neg (by omega), if_neg (by omega), if_neg (by omega), if_neg (by omega)]
      have e2 : addL G k a x (11 + l) = G (11 + l) := by unfold addL; rw [if_neg (by omega), if_neg (by omega), if_neg (by omega), if_neg (by omega)]
      have e3 : addL G k a x (17 + l) = G (17 + l) := by unfold addL; rw [if_neg (by omega), if_neg (by omega), if_neg (by omega), if_neg (by omega)]
      rw [e1, e2, e3]
      exact b l (by omega)
  · rw [hg 3 (by omega) (by omega)] at hr
    omega
  · unfold addL
    rw [if_neg (by omega), if_neg (by omega), if_neg (by omega), if_neg (by omega)]
    exact d j h7 h8
theorem itP_ok {p : Nat} {x : Nat × (Nat → Nat)} (hP : PG G) (hp : p < n) (h : itP T n p G = .ok x) : p < x.1 ∧ x.1 ≤ n ∧ PG x.2 := by
  have hP1 := hP.1
  unfold itP at h
  by_cases h114 : T p = 114
  · rw [if_pos h114] at h
    unfold rdP at h
    by_cases h4 : G 3 = 4
    · rw [if_pos h4] at h; cases h
    · rw [if_neg h4] at h
      cases e1 : numP T n (p + 1) 0 99 with
      | error e => rw [e1] at h; cases h
      | ok y =>
        obtain ⟨p1, f⟩ := y
        obtain ⟨w1, w2, w3, w4⟩ := numP_in e1 (by omega)
        rw [e1] at h
        dsimp only at h
        cases e2 : sgP T n p1 44 with
        | error e => rw [e2] at h; cases h
        | ok p2 =>
          have hp2 := sgP_ok e2
          rw [e2] at h
          dsimp only at h
          cases e3 : numP T n p2 (f + 1) 999 with
          | error e => rw [e3] at h; cases h
          | ok z =>
            obtain ⟨p3, s⟩ := z
            obtain ⟨y1, y2, y3, y4⟩ := numP_in e3 (by omega)
            rw [e3] at h
            dsimp only at h
            cases e4 : sgP T n p3 59 with
            | error e => rw [e4] at h; cases h
            | ok p4 =>
              have hp4 := sgP_ok e4
              rw [e4] at h
              injection h with h
              rw [← h]
              exact ⟨by show p < p4; omega, by show p4 ≤ n; omega, PG_addR hP (by omega) w4 y3 y4⟩
  · rw [if_neg h114] at h
    by_cases hk : kdN (T p) = 0
    · rw [if_pos hk] at h; cases h
    · rw [if_neg hk] at h
      have hk5 := kdN_le (T p)
      by_cases h3 : 0 < G 3
      · rw [if_pos h3] at h; cases h
      · rw [if_neg h3] at h
        unfold ltP at h
        by_cases h4 : G 2 = 6
        · rw [if_pos h4] at h; cases h
        · rw [if_neg h4] at h
          cases e1 : numP T n (p + 1) 1 40 with
          | error e => rw [e1] at h; cases h
          | ok y =>
            obtain ⟨p1, f⟩ := y
            obtain ⟨w1, w2, w3, w4⟩ := numP_in e1 (by omega)
            rw [e1] at h
            dsimp only at h
            cases e2 : sgP T n p1 44 with
            | error e => rw [e2] at h; cases h
            | ok p2 =>
              have hp2 := sgP_ok e2
              rw [e2] at h
              dsimp only at h
              cases e3 : numP T n p2 1 99 with
              | error e => rw [e3] at h; cases h
              | ok z =>
                obtain ⟨p3, s⟩ := z
                obtain ⟨y1, y2, y3, y4⟩ := numP_in e3 (by omega)
                rw [e3] at h
                dsimp only at h
                cases e4 : sgP T n p3 59 with
                | error e => rw [e4] at h; cases h
                | ok p4 =>
                  have hp4 := sgP_ok e4
                  rw [e4] at h
                  injection h with h
                  rw [← h]
                  exact ⟨by show p < p4; omega, by show p4 ≤ n; omega, PG_addL hP (by omega) (by omega) ⟨by omega, hk5⟩ ⟨w3, w4⟩ ⟨y3, y4⟩⟩
theorem lawP_ok {x : Nat × (Nat → Nat)} (h : lawP T n = .ok x) : 0 < x.1 ∧ x.1 ≤ n ∧ PG x.2 := by
  unfold lawP at h
  cases e2 : sgP T n 0 111 with
  | error e => rw [e2] at h; cases h
  | ok p2 =>
    have hp2 := sgP_ok e2
    rw [e2] at h
    dsimp only at h
    cases e3 : numP T n p2 1 999 with
    | error e => rw [e3] at h; cases h
    | ok z =>
      obtain ⟨p3, s⟩ := z
      obtain ⟨y1, y2, y3, y4⟩ := numP_in e3 (by omega)
      rw [e3] at h
      dsimp only at h
      cases e4 : sgP T n p3 59 with
      | error e => rw [e4] at h; cases h
      | ok p4 =>
        have hp4 := sgP_ok e4
        rw [e4] at h
        injection h with h
        rw [← h]
        exact ⟨by show 0 < p4; omega, by show p4 ≤ n; omega, PG_law y3 y4⟩
theorem lo_bad {c : Nat} (h1 : 1 ≤ c) (h2 : c ≤ 3) (x3 : Int32) (mem : Mem) (m : Nat) : X5_readInto_b17 5 16 (m + 1) (nI c) x3 mem = some (nI c, st2 mem 16 0 (nI 0)) := by
  have hb : X5_readInto_b72 5 16 (nI c) mem = some (nI c, st2 mem 16 0 (nI 0)) := by
    unfold X5_readInto_b72
    rw [if_neg (ne0 h1 h2), chk_t (show (0 : Int32) &&& 1 = 0 from by decide)]
    rfl
  rw [X5_readInto_b17]
  dsimp only
  rw [if_neg (ne0 h1 h2), hb]
  by_cases h : x3 < (120 : Int32)
  · rw [if_pos h]
  · rw [if_neg h]
theorem CO.stand {mem : Mem} (h : CO mem 16 G) : CO (st2 mem 16 0 (nI 1)) 16 (stG G) := by
  obtain ⟨c1, c2, c3, c4⟩ := h
  have hg : ∀ j, 0 < j → stG G j = G j := fun j hj => by unfold stG; rw [if_neg (by omega)]
  refine ⟨⟨by rw [st2_s]; rfl, ?_, ?_, ?_, ?_⟩, fun l hl => ?_, fun r hr => ?_, fun r l hr hl => ?_⟩
  · rw [st2_i (by omega), hg 1 (by omega)]; exact c1.2.1
  · rw [st2_i (by omega), hg 4 (by omega)]; exact c1.2.2.1
  · rw [st2_i (by omega), hg 2 (by omega)]; exact c1.2.2.2.1
  · rw [st2_i (by omega), hg 3 (by omega)]; exact c1.2.2.2.2
  · rw [hg 2 (by omega)] at hl
    rw [st2_k (by omega), st2_k (by omega), st2_k (by omega), hg _ (by omega), hg _ (by omega), hg _ (by omega)]
    exact c2 l hl
  · rw [hg 3 (by omega)] at hr
    rw [st2_k (by omega), st2_k (by omega), st2_k (by omega), st2_k (by omega), hg _ (by omega), hg _ (by omega), hg _ (by omega), hg _ (by omega)]
    exact c3 r hr
  · rw [hg 3 (by omega)] at hr
    rw [hg 2 (by omega)] at hl
    rw [st2_k (by omega), hg _ (by omega)]
    exact c4 r l hr hl
def CI (mem : Mem) (res : Except (Nat × Nat) (Nat → Nat)) (o : Option (Int32 × Mem)) : Prop := match res with
  | .ok G' => ∃ m', o = some (nI 0, m') ∧ FC mem m' ∧ CO m' 16 (stG G')
  | .error e => ∃ m', o = some (nI e.1, m') ∧ FC mem m' ∧ m' 5 2 = nI e.2 ∧ 1 ≤ e.1 ∧ e.1 ≤ 3
theorem CI.from {mem m1 : Mem} {res : Except (Nat × Nat) (Nat → Nat)} {o : Option (Int32 × Mem)} (h : CI m1 res o) (hf : FC mem m1) : CI mem res o := by
  cases res with
  | ok G' =>
    obtain ⟨m', q1, q2, q3⟩ := h
    exact ⟨m', q1, hf.trans q2, q3⟩
  | error e =>
    obtain ⟨m', q1, q2, q3⟩ := h
    exact ⟨m', q1, hf.trans q2, q3⟩
theorem c_lo : ∀ (k x3 m p : Nat) (G : Nat → Nat) (mem : Mem), CTp mem T n → DR mem G → PG G → mem 5 2 = nI p → p ≤ n → x3 ≤ p → n - p < k → k ≤ m → CI mem (loP T n k p G) (X5_readInto_b17 5 16 m (nI 0) (nI x3) mem) := by
  intro k
  induction k with
  | zero => intro x3 m p G mem _ _ _ _ _ _ h; omega
  | succ k ih =>
    intro x3 m p G mem hT hD hP h2 hp hx hk hm
    obtain ⟨m, rfl, hm2⟩ := succ_of hm
    have hn := hT.1
    have hend : CI mem (.ok G) (X5_readInto_b72 5 16 (nI 0) mem) := by
      refine ⟨st2 mem 16 0 (nI 1), ?_, FC.off fun q hq => st2_k (by omega), hD.1.stand⟩
      unfold X5_readInto_b72
      rw [if_pos (show nI 0 = (0 : Int32) from rfl), chk_t (show (1 : Int32) &&& 1 = 1 from by decide)]
      rfl
    rw [X5_readInto_b17, loP]
    dsimp only
    have hz : (nI x3 < (120 : Int32)) = (x3 < 120) := by rw [show (120 : Int32) = nI 120 from rfl, nI_ltI (by omega) (by omega)]
    have hz2 : (nI p < nI n) = (p < n) := by rw [nI_ltI (by omega) (by omega)]
    rw [if_pos (show nI 0 = (0 : Int32) from rfl), h2, hT.2.2.1]
    by_cases hlt : p < n
    · rw [if_pos (hz.mpr (by omega)), if_pos (hz2.mpr hlt), if_pos hlt, show rf 5 0 = 6 from rfl, ald_n (by simp only [lns]; omega) (by decide), hT.2.2.2 p hlt]
      have hbp := hT.2.1 p hlt
      have hgo : ∀ o : Option (Int32 × Mem), CR mem (itP T n p G) o → CI mem (match itP T n p G with | .error e => .error e | .ok x => loP T n k x.1 x.2) (cll o fun r13 m14 => X5_readInto_b65 5 16 (X5_readInto_b17 5 16 m) (nI x3) r13 m14) := by
        intro o ho
        cases e : itP T n p G with
        | error e1 =>
          rw [e] at ho
          obtain ⟨m', q1, q2, q3, q4, q5⟩ := ho
          rw [q1, cll_s]
          unfold X5_readInto_b65
          obtain ⟨m3, rfl, _⟩ := succ_of (show 0 + 1 ≤ m by omega)
          rw [lo_bad q4 q5]
          exact ⟨_, rfl, q2.trans (FC.off fun q hq => st2_k (by omega)), by rw [st2_k (by omega)]; exact q3, q4, q5⟩
        | ok x =>
          obtain ⟨w1, w2, w3⟩ := itP_ok hP hlt e
          rw [e] at ho
          obtain ⟨m', q1, q2, q3, q4⟩ := ho
          rw [q1, cll_s]
          unfold X5_readInto_b65
          rw [show (1 : Int32) = nI 1 from rfl, nI_add]
          exact (ih (x3 + 1) m x.1 x.2 m' (hT.fc q2) q3 w3 q4 w2 (by omega) (by omega) hm2).from q2
      by_cases h114 : T p = 114
      · rw [if_pos (show nI (T p) = (114 : Int32) by rw [h114]; rfl)]
        refine hgo _ ?_
        unfold itP
        rw [if_pos h114]
        exact c_rd hT hD hP h2 hlt
      · rw [if_neg (show ¬ nI (T p) = (114 : Int32) from nI_neN (b := 114) (by omega) (by omega) h114)]
        exact hgo _ (c_lt hT hD hP h2 hlt h114)
    · rw [if_neg (fun z => hlt (hz2.mp z)), if_neg hlt]
      by_cases h : nI x3 < (120 : Int32)
      · rw [if_pos h]; exact hend
      · rw [if_neg h]; exact hend
end OF5
