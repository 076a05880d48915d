/-! ===== PURE: office, a letter and a reader, the class's reading ===== -/
def addL (G : Nat → Nat) (k a d : Nat) (j : Nat) : Nat := if j = 2 then G 2 + 1 else if j = 5 + G 2 then k else if j = 11 + G 2 then a else if j = 17 + G 2 then d else G j
def addR (G : Nat → Nat) (f s : Nat) (j : Nat) : Nat := if j = 3 then G 3 + 1 else if j = 23 + G 3 then f else if j = 27 + G 3 then s else if j = 31 + G 3 then f else G j
def kdN (b : Nat) : Nat := if b = 112 then 1 else if b = 118 then 2 else if b = 108 then 3 else if b = 102 then 4 else if b = 115 then 5 else 0
def PG (G : Nat → Nat) : Prop := (G 0 = 0 ∧ 1 ≤ G 1 ∧ G 1 ≤ 999 ∧ G 2 ≤ 6 ∧ G 3 ≤ 4 ∧ G 4 = 0) ∧ (∀ l, l < G 2 → 1 ≤ G (5 + l) ∧ G (5 + l) ≤ 5 ∧ 1 ≤ G (11 + l) ∧ G (11 + l) ≤ 40 ∧ 1 ≤ G (17 + l) ∧ G (17 + l) ≤ 99) ∧ (∀ r, r < G 3 → G (23 + r) ≤ 99 ∧ G (23 + r) < G (27 + r) ∧ G (27 + r) ≤ 999 ∧ G (31 + r) = G (23 + r)) ∧ ∀ j, 35 ≤ j → j < 63 → G j = 0
def rdP (T : Nat → Nat) (n p : Nat) (G : Nat → Nat) : Except (Nat × Nat) (Nat × (Nat → Nat)) :=
  if G 3 = 4 then .error (3, p) else
  match numP T n (p + 1) 0 99 with
  | .error e => .error e
  | .ok x => match sgP T n x.1 44 with
    | .error e => .error e
    | .ok p2 => match numP T n p2 (x.2 + 1) 999 with
      | .error e => .error e
      | .ok y => match sgP T n y.1 59 with
        | .error e => .error e
        | .ok p4 => .ok (p4, addR G x.2 y.2)
def ltP (T : Nat → Nat) (n p : Nat) (G : Nat → Nat) (k : Nat) : Except (Nat × Nat) (Nat × (Nat → Nat)) :=
  if G 2 = 6 then .error (3, p) else
  match numP T n (p + 1) 1 40 with
  | .error e => .error e
  | .ok x => match sgP T n x.1 44 with
    | .error e => .error e
    | .ok p2 => match numP T n p2 1 99 with
      | .error e => .error e
      | .ok y => match sgP T n y.1 59 with
        | .error e => .error e
        | .ok p4 => .ok (p4, addL G k x.2 y.2)
def itP (T : Nat → Nat) (n p : Nat) (G : Nat → Nat) : Except (Nat × Nat) (Nat × (Nat → Nat)) :=
  if T p = 114 then rdP T n p G else if kdN (T p) = 0 then .error (1, p) else if 0 < G 3 then .error (1, p) else ltP T n p G (kdN (T p))
theorem kdN_le (b : Nat) : kdN b ≤ 5 := by
  unfold kdN
  repeat' split
  all_goals omega
/-- the class's draft -/
def DR (mem : Mem) (G : Nat → Nat) : Prop := CO mem 16 G ∧ (∀ r, r < 4 → mem 23 r = nI 0) ∧ ∀ z, z < 24 → mem 24 z = nI 0
def FC (mem m' : Mem) : Prop := (∀ q, q ≠ 5 → ¬ (16 ≤ q ∧ q ≤ 24) → m' q = mem q) ∧ ∀ j, j ≠ 2 → j ≠ 3 → m' 5 j = mem 5 j
theorem F5.fc {mem m' : Mem} (h : F5 mem m') : FC mem m' := ⟨fun q hq _ => h.1 q hq, h.2⟩
theorem FC.trans {a b c : Mem} (h1 : FC a b) (h2 : FC b c) : FC a c := ⟨fun q z1 z2 => by rw [h2.1 q z1 z2, h1.1 q z1 z2], fun j z1 z2 => by rw [h2.2 j z1 z2, h1.2 j z1 z2]⟩
theorem DR.fr {mem m' : Mem} {G : Nat → Nat} (h : DR mem G) (hf : F5 mem m') : DR m' G := ⟨h.1.fr fun q _ _ => hf.1 q (by omega), fun r hr => by rw [hf.1 23 (by omega)]; exact h.2.1 r hr, fun z hz => by rw [hf.1 24 (by omega)]; exact h.2.2 z hz⟩
theorem CTp.fc {mem m' : Mem} {T : Nat → Nat} {n : Nat} (h : CTp mem T n) (hf : FC mem m') : CTp m' T n := ⟨h.1, h.2.1, by rw [hf.2 1 (by omega) (by omega)]; exact h.2.2.1, fun i hi => by rw [hf.1 6 (by omega) (by omega)]; exact h.2.2.2 i hi⟩
def CR (mem : Mem) (res : Except (Nat × Nat) (Nat × (Nat → Nat))) (o : Option (Int32 × Mem)) : Prop := match res with
  | .ok x => ∃ m', o = some (nI 0, m') ∧ FC mem m' ∧ DR m' x.2 ∧ m' 5 2 = nI x.1
  | .error e => ∃ m', o = some (nI e.1, m') ∧ FC mem m' ∧ m' 5 2 = nI e.2 ∧ 1 ≤ e.1 ∧ e.1 ≤ 3
section OF3
variable {T : Nat → Nat} {n : Nat} {G : Nat → Nat}
theorem c_addReader {mem : Mem} {f s : Nat} (hD : DR mem G) (hP : PG G) (h3 : G 3 < 4) : ∃ m', X3_addReader 16 (nI f) (nI s) mem = some ((), m') ∧ DR m' (addR G f s) ∧ ∀ q, ¬ (16 ≤ q ∧ q ≤ 24) → m' q = mem q := by
  obtain ⟨⟨c1, c2, c3, c4⟩, d1, d2⟩ := hD
  have hP1 := hP.1
  have e7 := c1.2.2.2.2
  refine ⟨st2 (st2 (st2 (st2 mem 20 (G 3) (nI f)) 21 (G 3) (nI f)) 22 (G 3) (nI s)) 16 7 (nI (G 3 + 1)), ?_, ⟨⟨⟨?_, ?_, ?_, ?_, ?_⟩, ?_, ?_, ?_⟩, ?_, ?_⟩, ?_⟩
  · unfold X3_addReader
    rw [show rf 16 8 = 20 from rfl, show rf 16 9 = 21 from rfl, show rf 16 10 = 22 from rfl, e7, ast_n (by simp only [lns]; omega) (by decide), st2_k (show (16 : Nat) ≠ 20 by omega), e7, ast_n (by simp only [lns]; omega) (by decide), st2_k (show (16 : Nat) ≠ 21 by omega), st2_k (show (16 : Nat) ≠ 20 by omega), e7, ast_n (by simp only [lns]; omega) (by decide), st2_k (show (16 : Nat) ≠ 22 by omega), st2_k (show (16 : Nat) ≠ 21 by omega), st2_k (show (16 : Nat) ≠ 20 by omega), e7, show (1 : Int32) = nI 1 from rfl, nI_add]
  · rw [st2_i (by omega), st2_k (by omega), st2_k (by omega), st2_k (by omega)]
    rw [show addR G f s 0 = G 0 from by unfold addR; rw [if_neg (by omega), if_neg (by omega), if_neg (by omega), if_neg (by omega)]]
    exact c1.1
  · rw [st2_i (by omega), st2_k (by omega), st2_k (by omega), st2_k (by omega)]
    rw [show addR G f s 1 = G 1 from by unfold addR; rw [if_neg (by omega), if_neg (by omega), if_neg (by omega), if_neg (by omega)]]
    exact c1.2.1
  · rw [st2_i (by omega), st2_k (by omega), st2_k (by omega), st2_k (by omega)]
    rw [show addR G f s 4 = G 4 from by unfold addR; rw [if_neg (by omega), if_neg (by omega), if_neg (by omega), if_neg (by omega)]]
    exact c1.2.2.1
  · rw [st2_i (by omega), st2_k (by omega), st2_k (by omega), st2_k (by omega)]
    rw [show addR G f s 2 = G 2 from by unfold addR; rw [if_neg (by omega), if_neg (by omega), if_neg (by omega), if_neg (by omega)]]
    exact c1.2.2.2.1
  · rw [st2_s]
    rfl
  · intro l hl
    have hl' : l < G 2 := by
      rw [show addR G f s 2 = G 2 from by unfold addR; rw [if_neg (by omega), if_neg (by omega), if_neg (by omega), if_neg (by omega)]] at hl
      exact hl
    have hg : ∀ j, 4 ≤ j → j < 23 → addR G f s j = G j := fun j _ _ => by unfold addR; rw [if_neg (by omega), if_neg (by omega), if_neg (by omega), if_neg (by omega)]
    rw [hg _ (by omega) (by omega), hg _ (by omega) (by omega), hg _ (by omega) (by omega), st2_k (by omega), st2_k (by omega), st2_k (by omega), st2_k (by omega), st2_k (by omega), st2_k (by omega), st2_k (by omega), st2_k (by omega), st2_k (by omega), st2_k (by omega), st2_k (by omega), st2_k (by omega)]
    exact c2 l hl'
  · intro r hr
    have hr' : r < G 3 + 1 := hr
    have hz35 : addR G f s (35 + r) = 0 := by
      unfold addR
      rw [if_neg (by omega), if_neg (by omega), if_neg (by omega), if_neg (by omega)]
      exact hP.2.2.2 _ (by omega) (by omega)
    rw [hz35]
    have e23 : st2 (st2 (st2 (st2 mem 20 (G 3) (nI f)) 21 (G 3) (nI f)) 22 (G 3) (nI s)) 16 7 (nI (G 3 + 1)) (16 + 7) r = nI 0 := by
      rw [st2_k (by omega), st2_k (by omega), st2_k (by omega), st2_k (by omega)]
      exact d1 r (by omega)
    by_cases e : r = G 3
    · subst e
      refine ⟨?_, ?_, ?_, e23⟩
      · rw [st2_k (by omega), st2_k (by omega), st2_k (by omega), st2_s]
        unfold addR
        rw [if_neg (by omega), if_pos rfl]
      · rw [st2_k (by omega), st2_k (by omega), st2_s]
        unfold addR
        rw [if_neg (by omega), if_neg (by omega), if_neg (by omega), if_pos rfl]
      · rw [st2_k (by omega), st2_s]
        unfold addR
        rw [if_neg (by omega), if_neg (by omega), if_pos rfl]
    · have hc := c3 r (by omega)
      have hg : ∀ j, j < G 3 → addR G f s (23 + j) = G (23 + j) ∧ addR G f s (27 + j) = G (27 + j) ∧ addR G f s (31 + j) = G (31 + j) := fun j hj => by
        unfold addR
        refine ⟨?_, ?_, ?_⟩ <;> rw [if_neg (by omega), if_neg (by omega), if_neg (by omega), if_neg (by omega)]
      obtain ⟨g1, g2, g3⟩ := hg r (by omega)
      refine ⟨?_, ?_, ?_, e23⟩
      · rw [g1, st2_k (by omega), st2_k (by omega), st2_k (by omega), st2_i e]
        exact hc.1
      · rw [g3, st2_k (by omega), st2_k (by omega), st2_i e, st2_k (by omega)]
        exact hc.2.1
      · rw [g2, st2_k (by omega), st2_i e, st2_k (by omega), st2_k (by omega)]
        exact hc.2.2.1
  · intro r l hr hl
    have hr' : r < G 3 + 1 := hr
    have hl' : l < G 2 := by
      rw [show addR G f s 2 = G 2 from by unfold addR; rw [if_neg (by omega), if_neg (by omega), if_neg (by omega), if_neg (by omega)]] at hl
      exact hl
    rw [st2_k (by omega), st2_k (by omega), st2_k (by omega), st2_k (by omega)]
    rw [show addR G f s (39 + 4 * l + r) = 0 from by
      unfold addR
      rw [if_neg (by omega), if_neg (by omega), if_neg (by omega), if_neg (by omega)]
      exact hP.2.2.2 _ (by omega) (by omega)]
    exact d2 _ (by omega)
  · intro r hr
    rw [st2_k (by omega), st2_k (by omega), st2_k (by omega), st2_k (by omega)]
    exact d1 r hr
  · intro z hz
    rw [st2_k (by omega), st2_k (by omega), st2_k (by omega), st2_k (by omega)]
    exact d2 z hz
  · intro q hq
    rw [st2_k (by omega), st2_k (by omega), st2_k (by omega), st2_k (by omega)]
theorem c_addLetter {mem : Mem} {k a d : Nat} (hD : DR mem G) (hP : PG G) (h2 : G 2 < 6) (h3 : G 3 = 0) : ∃ m', X3_addLetter 16 (nI k) (nI a) (nI d) mem = some ((), m') ∧ DR m' (addL G k a d) ∧ ∀ q, ¬ (16 ≤ q ∧ q ≤ 24) → m' q = mem q := by
  obtain ⟨⟨c1, c2, c3, c4⟩, d1, d2⟩ := hD
  have hP1 := hP.1
  have e3 := c1.2.2.2.1
  have hlow : ∀ j, j ≠ 2 → j < 5 → addL G k a d j = G j := fun j _ _ => by unfold addL; rw [if_neg (by omega), if_neg (by omega), if_neg (by omega), if_neg (by omega)]
  refine ⟨st2 (st2 (st2 (st2 mem 17 (G 2) (nI k)) 18 (G 2) (nI a)) 19 (G 2) (nI d)) 16 3 (nI (G 2 + 1)), ?_, ⟨⟨⟨?_, ?_, ?_, ?_, ?_⟩, ?_, ?_, ?_⟩, ?_, ?_⟩, ?_⟩
  · unfold X3_addLetter
    rw [show rf 16 4 = 17 from rfl, show rf 16 5 = 18 from rfl, show rf 16 6 = 19 from rfl, e3, ast_n (by simp only [lns]; omega) (by decide), st2_k (show (16 : Nat) ≠ 17 by omega), e3, ast_n (by simp only [lns]; omega) (by decide), st2_k (show (16 : Nat) ≠ 18 by omega), st2_k (show (16 : Nat) ≠ 17 by omega), e3, ast_n (by simp only [lns]; omega) (by decide), st2_k (show (16 : Nat) ≠ 19 by omega), st2_k (show (16 : Nat) ≠ 18 by omega), st2_k (show (16 : Nat) ≠ 17 by omega), e3, show (1 : Int32) = nI 1 from rfl, nI_add]
  · rw [hlow 0 (by omega) (by omega), st2_i (by omega), st2_k (by omega), st2_k (by omega), st2_k (by omega)]
    exact c1.1
  · rw [hlow 1 (by omega) (by omega), st2_i (by omega), st2_k (by omega), st2_k (by omega), st2_k (by omega)]
    exact c1.2.1
  · rw [hlow 4 (by omega) (by omega), st2_i (by omega), st2_k (by omega), st2_k (by omega), st2_k (by omega)]
    exact c1.2.2.1
  · rw [st2_s]
    rfl
  · rw [hlow 3 (by omega) (by omega), st2_i (by omega), st2_k (by omega), st2_k (by omega), st2_k (by omega)]
    exact c1.2.2.2.2
  · intro l hl
    have hl' : l < G 2 + 1 := hl
    by_cases e : l = G 2
    · subst e
      refine ⟨?_, ?_, ?_⟩
      · rw [st2_k (by omega), st2_k (by omega), st2_k (by omega), st2_s]
        unfold addL
        rw [if_neg (by omega), if_pos rfl]
      · rw [st2_k (by omega), st2_k (by omega), st2_s]
        unfold addL
        rw [if_neg (by omega), if_neg (by omega), if_pos rfl]
      · rw [st2_k (by omega), st2_s]
        unfold addL
        rw [if_neg (by omega), if_neg (by omega), if_neg (by omega), if_pos rfl]
    · have hc := c2 l (by omega)
      have hg : addL G k a d (5 + l) = G (5 + l) ∧ addL G k a d (11 + l) = G (11 + l) ∧ addL G k a d (17 + l) = G (17 + l) := by
        unfold addL
        refine ⟨?_, ?_, ?_⟩ <;> rw [if_neg (by omega), if_neg (by omega), if_neg (by omega), if_neg (by omega)]
      rw [hg.1, hg.2.1, hg.2.2]
      refine ⟨?_, ?_, ?_⟩
      · rw [st2_k (by omega), st2_k (by omega), st2_k (by omega), st2_i e]
        exact hc.1
      · rw [st2_k (by omega), st2_k (by omega), st2_i e, st2_k (by omega)]
        exact hc.2.1
      · rw [st2_k (by omega), st2_i e, st2_k (by omega), st2_k (by omega)]
        exact hc.2.2
  · intro r hr
    rw [hlow 3 (by omega) (by omega)] at hr
    omega
  · intro r l hr
    rw [hlow 3 (by omega) (by omega)] at hr
    omega
  · intro r hr
    rw [st2_k (by omega), st2_k (by omega), st2_k (by omega), st2_k (by omega)]
    exact d1 r hr
  · intro z hz
    rw [st2_k (by omega), st2_k (by omega), st2_k (by omega), st2_k (by omega)]
    exact d2 z hz
  · intro q hq
    rw [st2_k (by omega), st2_k (by omega), st2_k (by omega), st2_k (by omega)]
end OF3
