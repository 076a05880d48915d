/-! ===== PURE: allRead, the reference's reckoning of one code ===== -/
section AR3
variable {g : Nat → Nat} {t : Nat}
theorem fc_un {l r : Nat} (hu : unB g l = true) (hr : r < g 3) : costN g r l = fcL g l := by
  unfold unB readOfN at hu
  rw [decide_eq_true_iff, sumP_zero] at hu
  have := hu r hr
  unfold costN costP fcL
  rw [this, if_neg (by omega)]
theorem m_spent_g (hO : OkG t g) {c : Nat} (hc : c < 10000) (hR : ∀ l, l < g 2 → unB g l = true → 0 < g 3) : ∀ (j n : Nat) (mem : Mem), MO mem g → j ≤ g 2 → j + 1 ≤ n → ∃ m', X7_spentBy_b18 57 n (nI (unS g)) (nI (c / wC g j)) (nI 0) (cj j) mem = X7_spentBy_b79 57 fu (nI (unS g)) (nI 0) (nI 0) m' ∧ (∀ q, q ≠ 66 → m' q = mem q) ∧ (∀ l, l < j → m' 66 l = if unB g l = true then nI (dC g c l) else -nI 1000000) ∧ ∀ l, j ≤ l → m' 66 l = mem 66 l := by
  have h2 := hO.1
  have h9 := unS_lt hO
  intro j
  induction j with
  | zero =>
    intro n mem hM h1 h4
    obtain ⟨n, rfl, h5⟩ := succ_of (k := 0) h4
    refine ⟨mem, ?_, fun _ _ => rfl, fun l hl => by omega, fun _ _ => rfl⟩
    rw [X7_spentBy_b18]
    dsimp only
    rw [if_pos (show cj 0 < (0 : Int32) from m1_lt0)]
    rfl
  | succ j ih =>
    intro n mem hM h1 h4
    obtain ⟨n, rfl, h5⟩ := succ_of (k := j + 1) h4
    have hc' : cj (j + 1) = nI j := if_neg (by omega)
    have hm1 : nI j + -1 = cj j := cj_s j (by omega)
    have hdv : c / wC g (j + 1) ≤ c := Nat.div_le_self _ _
    have hbit : hasB (unS g) j = unB g j := sett_bit _ _ _ (by omega)
    rw [X7_spentBy_b18]
    dsimp only
    rw [hc', if_neg (show ¬ nI j < (0 : Int32) from nI_lt0 (by omega)), m_has (by omega) (by omega), cll_s, hbit]
    by_cases hu : unB g j = true
    · have hp := hR j (by omega) hu
      obtain ⟨m', e1, e2, e3, e4⟩ := ih n (st2 mem 66 j (nI (dC g c j))) (hM.fr (st2_k (by omega))) (by omega) h5
      refine ⟨m', ?_, fun q hq => by rw [e2 q hq, st2_k hq], fun l hl => ?_, fun l hl => by rw [e4 l (by omega), st2_i (by omega)]⟩
      · have h3 : ¬ nI (g 3) = (0 : Int32) := nI_neN (b := 0) (by omega) (by omega) (by omega)
        have hml : c / wC g (j + 1) / g 3 * g 3 ≤ c / wC g (j + 1) := Nat.div_mul_le_self _ _
        have hq : c / wC g (j + 1) / g 3 ≤ c / wC g (j + 1) := Nat.div_le_self _ _
        have hmod : nI (c / wC g (j + 1)) - nI (c / wC g (j + 1)) / nI (g 3) * nI (g 3) = nI (dC g c j) := by
          rw [nI_div (by omega) hp (by omega)]
          simp (disch := omega) only [pk_mul, pk_sub]
          congr 1
          unfold dC
          have := Nat.div_add_mod (c / wC g (j + 1)) (g 3)
          rw [Nat.mul_comm] at this
          omega
        have hnx : nI (c / wC g (j + 1)) / nI (g 3) = nI (c / wC g j) := by
          rw [nI_div (by omega) hp (by omega), wC_y (by omega) hu, Nat.div_div_eq_div_mul]
        rw [b2_t hu, if_neg (show ¬ nI 1 = (0 : Int32) from nI01), m_readers hM, cll_s, chk_t h3, hmod]
        unfold X7_spentBy_b49
        rw [show rf 57 15 = 66 from rfl, ast_n (by simp only [lns]; omega) (by decide), m_has (by omega) (by omega), cll_s, hbit, b2_t hu, if_neg (show ¬ nI 1 = (0 : Int32) from nI01), m_readers (hM.fr (st2_k (by omega))), cll_s, chk_t h3]
        unfold X7_spentBy_b69
        rw [hm1, hnx]
        exact e1
      · by_cases e : l = j
        · rw [e, e4 j (Nat.le_refl j), st2_s, if_pos hu]
        · exact e3 l (by omega)
    · obtain ⟨m', e1, e2, e3, e4⟩ := ih n (st2 mem 66 j (-nI 1000000)) (hM.fr (st2_k (by omega))) (by omega) h5
      refine ⟨m', ?_, fun q hq => by rw [e2 q hq, st2_k hq], fun l hl => ?_, fun l hl => by rw [e4 l (by omega), st2_i (by omega)]⟩
      · rw [b2_f hu, if_pos (show nI 0 = (0 : Int32) from rfl)]
        unfold X7_spentBy_b49 X7_spentBy_b69
        rw [show rf 57 15 = 66 from rfl, ast_n (by simp only [lns]; omega) (by decide), m_has (by omega) (by omega), cll_s, hbit, b2_f hu, if_pos (show nI 0 = (0 : Int32) from rfl), hm1, ← wC_n hu]
        exact e1
      · by_cases e : l = j
        · rw [e, e4 j (Nat.le_refl j), st2_s, if_neg hu]
        · exact e3 l (by omega)
theorem m_spent_left (hO : OkG t g) : ∀ (k i n : Nat) (mem : Mem), MO mem g → (∀ r, r < i → mem 67 r = nI (g (27 + r)) - nI (g (31 + r))) → i ≤ g 3 → g 3 - i < k → k ≤ n → ∃ m', X7_spentBy_b79 57 n (nI (unS g)) (nI 0) (nI i) mem = X7_spentBy_b120 57 fu (nI (unS g)) (nI 0) (nI 1) (nI 0) m' ∧ (∀ q, q ≠ 67 → m' q = mem q) ∧ ∀ r, r < g 3 → m' 67 r = nI (g (27 + r)) - nI (g (31 + r)) := by
  have h2 := hO.1
  intro k
  induction k with
  | zero => intro i n mem _ _ h1 h2; omega
  | succ k ih =>
    intro i n mem hM hA h1 h3 h4
    obtain ⟨n, rfl, h5⟩ := succ_of h4
    rw [X7_spentBy_b79]
    dsimp only
    have hz : (nI i < nI (g 3)) = (i < g 3) := by rw [nI_ltI (by omega) (by omega)]
    rw [m_readers hM, cll_s]
    by_cases hlt : i < g 3
    · obtain ⟨m', e1, e2, e3⟩ := ih (i + 1) n (st2 mem 67 i (nI (g (27 + i)) - nI (g (31 + i)))) (hM.fr (st2_k (by omega))) (fun z hz => by
        by_cases e : z = i
        · rw [e, st2_s]
        · rw [st2_i e]; exact hA z (by omega)) (by omega) (by omega) (by omega)
      refine ⟨m', ?_, fun q hq => by rw [e2 q hq, st2_k hq], e3⟩
      rw [if_pos (hz.mpr hlt), m_span hM (by omega), cll_s, m_age hM (by omega), cll_s, show rf 57 16 = 67 from rfl, ast_n (by simp only [lns]; omega) (by decide), show (1 : Int32) = nI 1 from rfl, nI_add]
      exact e1
    · have hE : i = g 3 := by omega
      refine ⟨mem, ?_, fun _ _ => rfl, fun z hz => hA z (by omega)⟩
      rw [if_neg (fun z => hlt (hz.mp z))]
      rfl
def leftI (g : Nat → Nat) (c r n : Nat) : Int32 := nI (g (27 + r)) - nI (g (31 + r)) - nI (ldC g c r n)
theorem left_s {c r n : Nat} (x : Nat) : nI (g (27 + r)) - nI (g (31 + r)) - nI (ldC g c r n) - nI x = nI (g (27 + r)) - nI (g (31 + r)) - nI (ldC g c r n + x) := by
  rw [← nI_add]
  simp only [Int32.sub_eq_add_neg, Int32.neg_add, Int32.add_assoc]
theorem ld_le (hO : OkG t g) (c r : Nat) : ∀ n, n ≤ g 2 → ldC g c r n ≤ 120 * n := by
  intro n
  induction n with
  | zero => intro _; exact Nat.le_refl _
  | succ n ih =>
    intro h
    have := ih (by omega)
    have hf : fcL g n ≤ 120 := fcN_le (hO.2.1 n (by omega)).2.2.2.1
    unfold ldC at this ⊢
    rw [sumP]
    split <;> omega
theorem left_pos (hO : OkG t g) {c r n : Nat} (hr : r < g 3) (hn : n ≤ g 2) : (nI 0 < leftI g c r n) = (g (31 + r) + ldC g c r n < g (27 + r)) := by
  have h2 := hO.1
  have h3 := hO.2.2.1 r hr
  have h4 := ld_le hO c r n hn
  unfold leftI
  rw [Int32.lt_iff_toInt_lt, nI_toInt (by omega), Int32.toInt_sub, Int32.toInt_sub, nI_toInt (by omega), nI_toInt (by omega), nI_toInt (by omega)]
  apply propext
  rw [Int.bmod_def, Int.bmod_def]
  omega
def bI (b : Bool) : Int32 := if b = true then nI 1 else nI 0
theorem m_spent_s (hO : OkG t g) (ht : t ≤ 600) {c : Nat} (hR : ∀ l, l < g 2 → unB g l = true → 0 < g 3) : ∀ (k l n : Nat) (mem : Mem), MO mem g → (∀ l', l' < g 2 → unB g l' = true → mem 66 l' = nI (dC g c l')) → (∀ r, r < g 3 → mem 67 r = leftI g c r l) → l ≤ g 2 → g 2 - l < k → k ≤ n → ∃ m', X7_spentBy_b120 57 n (nI (unS g)) (nI (sumP (unB g) (fcL g) l)) (bI (f1C g c l)) (nI l) mem = X7_spentBy_b208 57 fu (nI (totC g)) (bI (f1C g c (g 2))) (nI 0) m' ∧ (∀ q, q ≠ 67 → m' q = mem q) ∧ ∀ r, r < g 3 → m' 67 r = leftI g c r (g 2) := by
  have h2 := hO.1
  have h9 := unS_lt hO
  intro k
  induction k with
  | zero => intro l n mem _ _ _ h1 h2; omega
  | succ k ih =>
    intro l n mem hM hG hL h1 h3 h4
    obtain ⟨n, rfl, h5⟩ := succ_of h4
    rw [X7_spentBy_b120]
    dsimp only
    have hz : (nI l < nI (g 2)) = (l < g 2) := by rw [nI_ltI (by omega) (by omega)]
    rw [m_letters hM, cll_s]
    by_cases hlt : l < g 2
    · have hbit : hasB (unS g) l = unB g l := sett_bit _ _ _ hlt
      rw [if_pos (hz.mpr hlt), m_has (by omega) (by omega), cll_s, hbit]
      by_cases hu : unB g l = true
      · have hp := hR l hlt hu
        have hd : dC g c l < g 3 := Nat.mod_lt _ hp
        obtain ⟨m', e1, e2, e3⟩ := ih (l + 1) n (st2 mem 67 (dC g c l) (leftI g c (dC g c l) (l + 1))) (hM.fr (st2_k (by omega))) (fun l' h6 h7 => by rw [st2_k (by omega)]; exact hG l' h6 h7) (fun r hr => by
          by_cases e : r = dC g c l
          · rw [e, st2_s]
          · rw [st2_i e, hL r hr]
            unfold leftI ldC
            rw [sumP, if_neg (show ¬ (unB g l && decide (dC g c l = r)) = true by rw [decide_eq_false (fun z => e z.symm), Bool.and_false]; decide), Nat.add_zero (sumP _ _ l)]) (by omega) (by omega) (by omega)
        refine ⟨m', ?_, fun q hq => by rw [e2 q hq, st2_k hq], e3⟩
        have hM' : MO (st2 mem 67 (dC g c l) (leftI g c (dC g c l) (l + 1))) g := hM.fr (st2_k (by omega))
        have hsub : leftI g c (dC g c l) l - nI (fcL g l) = leftI g c (dC g c l) (l + 1) := by
          unfold leftI
          rw [left_s]
          congr 2
          unfold ldC
          rw [sumP, if_pos (show (unB g l && decide (dC g c l = dC g c l)) = true by rw [hu, decide_eq_true rfl]; rfl)]
        rw [b2_t hu, if_neg (show ¬ nI 1 = (0 : Int32) from nI01), show rf 57 15 = 66 from rfl, ald_n (by simp only [lns]; omega) (by decide), hG l hlt hu, show rf 57 16 = 67 from rfl, ald_n (by simp only [lns]; omega) (by decide), m_cost hM hO ht hd hlt, cll_s, fc_un hu hd, hL _ hd, hsub, ast_n (by simp only [lns]; omega) (by decide), m_cost hM' hO ht hd hlt, cll_s, fc_un hu hd, nI_add]
        have hs1 : sumP (unB g) (fcL g) (l + 1) = sumP (unB g) (fcL g) l + fcL g l := by rw [sumP, if_pos hu]
        have hf1 : f1C g c (l + 1) = (f1C g c l && fitB g (dC g c l)) := by
          unfold f1C
          rw [allB, hu]
          rfl
        rw [hs1, hf1] at e1
        unfold X7_spentBy_b196 X7_spentBy_b197 X7_spentBy_b199
        by_cases h1c : f1C g c l = true
        · rw [h1c, show bI true = nI 1 from rfl, if_neg (show ¬ nI 1 = (0 : Int32) from nI01), m_fitR hM' hO hd, cll_s]
          rw [h1c, Bool.true_and] at e1
          by_cases hf : fitB g (dC g c l) = true
          · rw [b2_t hf, if_neg (show ¬ nI 1 = (0 : Int32) from nI01), show (1 : Int32) = nI 1 from rfl, nI_add]
            rw [hf] at e1
            exact e1
          · rw [b2_f hf, if_pos (show nI 0 = (0 : Int32) from rfl), show (1 : Int32) = nI 1 from rfl, nI_add]
            rw [Bool.not_eq_true] at hf
            rw [hf] at e1
            exact e1
        · rw [Bool.not_eq_true] at h1c
          rw [h1c, show bI false = nI 0 from rfl, if_pos (show nI 0 = (0 : Int32) from rfl), show (1 : Int32) = nI 1 from rfl, nI_add]
          rw [h1c, Bool.false_and] at e1
          exact e1
      · obtain ⟨m', e1, e2, e3⟩ := ih (l + 1) n mem hM hG (fun r hr => by
          rw [hL r hr]
          unfold leftI ldC
          rw [sumP, if_neg (show ¬ (unB g l && decide (dC g c l = r)) = true by rw [Bool.not_eq_true] at hu; rw [hu, Bool.false_and]; decide), Nat.add_zero (sumP _ _ l)]) (by omega) (by omega) (by omega)
        refine ⟨m', ?_, e2, e3⟩
        have hs1 : sumP (unB g) (fcL g) (l + 1) = sumP (unB g) (fcL g) l := by rw [sumP, if_neg hu, Nat.add_zero (sumP _ _ l)]
        have hf1 : f1C g c (l + 1) = f1C g c l := by
          unfold f1C
          rw [allB]
          rw [Bool.not_eq_true] at hu
          rw [hu]
          exact Bool.and_true _
        rw [hs1, hf1] at e1
        rw [b2_f hu, if_pos (show nI 0 = (0 : Int32) from rfl)]
        unfold X7_spentBy_b199
        rw [show (1 : Int32) = nI 1 from rfl, nI_add]
        exact e1
    · have hE : l = g 2 := by omega
      refine ⟨mem, ?_, fun _ _ => rfl, by rw [← hE]; exact hL⟩
      rw [if_neg (fun z => hlt (hz.mp z)), hE]
      rfl
theorem m_spent_e {c : Nat} {mem : Mem} (hM : MO mem g) (hO : OkG t g) (hL : ∀ r, r < g 3 → mem 67 r = leftI g c r (g 2)) : ∀ (k r n : Nat), r ≤ g 3 → g 3 - r < k → k ≤ n → X7_spentBy_b208 57 n (nI (totC g)) (bI (f1C g c (g 2) && allB (f2C g c) r)) (nI r) mem = some (if okC g c = true then nI (totC g) else nI 1000000, mem) := by
  have h2 := hO.1
  intro k
  induction k with
  | zero => intro r n h1 h2; omega
  | succ k ih =>
    intro r n h1 h3 h4
    obtain ⟨n, rfl, h5⟩ := succ_of h4
    rw [X7_spentBy_b208]
    dsimp only
    have hz : (nI r < nI (g 3)) = (r < g 3) := by rw [nI_ltI (by omega) (by omega)]
    rw [m_readers hM, cll_s]
    by_cases hlt : r < g 3
    · have e := ih (r + 1) n (by omega) (by omega) (by omega)
      rw [allB, ← Bool.and_assoc] at e
      rw [if_pos (hz.mpr hlt)]
      unfold X7_spentBy_b245 X7_spentBy_b241 X7_spentBy_b246
      rw [show (1 : Int32) = nI 1 from rfl, nI_add]
      by_cases hb : (f1C g c (g 2) && allB (f2C g c) r) = true
      · rw [hb, Bool.true_and] at e
        rw [hb, show bI true = nI 1 from rfl, if_neg (show ¬ nI 1 = (0 : Int32) from nI01), show rf 57 16 = 67 from rfl, ald_n (by simp only [lns]; omega) (by decide), hL r hlt]
        by_cases hp : (0 : Int32) < leftI g c r (g 2)
        · have hp' := (left_pos (c := c) hO hlt (Nat.le_refl (g 2))).mp hp
          rw [if_pos hp]
          rw [show f2C g c r = true from by unfold f2C; rw [decide_eq_true hp', Bool.or_true]] at e
          exact e
        · have hp' : ¬ g (31 + r) + ldC g c r (g 2) < g (27 + r) := fun z => hp ((left_pos (c := c) hO hlt (Nat.le_refl (g 2))).mpr z)
          rw [if_neg hp, m_fitR hM hO hlt, cll_s]
          by_cases hf : fitB g r = true
          · rw [b2_t hf, if_neg (show ¬ nI 1 = (0 : Int32) from nI01)]
            rw [show f2C g c r = false from by unfold f2C; rw [decide_eq_false hp', hf]; rfl] at e
            exact e
          · rw [b2_f hf, if_pos (show nI 0 = (0 : Int32) from rfl)]
            rw [Bool.not_eq_true] at hf
            rw [show f2C g c r = true from by unfold f2C; rw [hf]; rfl] at e
            exact e
      · rw [Bool.not_eq_true] at hb
        rw [hb, Bool.false_and] at e
        rw [hb, show bI false = nI 0 from rfl, if_pos (show nI 0 = (0 : Int32) from rfl)]
        exact e
    · have hE : r = g 3 := by omega
      rw [if_neg (fun z => hlt (hz.mp z)), hE]
      unfold okC
      by_cases hb : (f1C g c (g 2) && allB (f2C g c) (g 3)) = true
      · rw [hb, if_neg (show ¬ bI true = (0 : Int32) from nI01), if_pos rfl]
      · rw [Bool.not_eq_true] at hb
        rw [hb, if_pos (show bI false = (0 : Int32) from rfl), if_neg (by decide)]
        rfl
theorem m_spentBy {mem : Mem} (hM : MO mem g) (hO : OkG t g) (ht : t ≤ 600) {c : Nat} (hc : c < 10000) (hR : ∀ l, l < g 2 → unB g l = true → 0 < g 3) : ∃ m', X7_spentBy 57 (nI c) mem = some (if okC g c = true then nI (totC g) else nI 1000000, m') ∧ (∀ q, q ≠ 66 → q ≠ 67 → m' q = mem q) ∧ ∀ l, l < g 2 → m' 66 l = if unB g l = true then nI (dC g c l) else -nI 1000000 := by
  have h2 := hO.1
  obtain ⟨m1, p1, p2, p3, _⟩ := m_spent_g hO hc hR (g 2) fu mem hM (Nat.le_refl _) (fu_ge (by omega))
  rw [wC_N, Nat.div_one] at p1
  have hM1 : MO m1 g := hM.fr (p2 62 (by omega))
  obtain ⟨m2, q1, q2, q3⟩ := m_spent_left hO (g 3 + 1) 0 fu m1 hM1 (fun r hr => by omega) (by omega) (by omega) (fu_ge (by omega))
  have hM2 : MO m2 g := hM1.fr (q2 62 (by omega))
  obtain ⟨m3, r1, r2, r3⟩ := m_spent_s (c := c) hO ht hR (g 2 + 1) 0 fu m2 hM2 (fun l h6 h7 => by rw [q2 66 (by omega), p3 l h6, if_pos h7]) (fun r hr => by
    rw [q3 r hr]
    unfold leftI
    rw [show ldC g c r 0 = 0 from rfl, show nI 0 = (0 : Int32) from rfl, Int32.sub_zero]) (by omega) (by omega) (fu_ge (by omega))
  have hM3 : MO m3 g := hM2.fr (r2 62 (by omega))
  have e := m_spent_e (c := c) hM3 hO r3 (g 3 + 1) 0 fu (by omega) (by omega) (fu_ge (by omega))
  rw [show allB (f2C g c) 0 = true from rfl, Bool.and_true] at e
  refine ⟨m3, ?_, fun q h6 h7 => by rw [r2 q h7, q2 q h7, p2 q h6], fun l hl => by rw [r2 66 (by omega), q2 66 (by omega), p3 l hl]⟩
  have hcj : nI (g 2) - 1 = cj (g 2) := by
    unfold cj
    by_cases h0 : g 2 = 0
    · rw [if_pos h0, h0]; decide
    · rw [if_neg h0, show (1 : Int32) = nI 1 from rfl, pk_sub (by omega)]
  unfold X7_spentBy
  rw [m_unread hM hO ht, cll_s, m_letters hM, cll_s, hcj, show (0 : Int32) = nI 0 from rfl, p1, q1]
  exact r1.trans e
end AR3
