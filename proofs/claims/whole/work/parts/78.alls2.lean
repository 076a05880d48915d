/-! ===== PURE: allRead, the class's search ===== -/
def PRE (g : Nat → Nat) (l k : Nat) (mem : Mem) : Prop :=
  f1C g (k * wC g l) l = true ∧ (∀ r, r < g 3 → fitB g r = true → g (31 + r) + ldC g (k * wC g l) r l < g (27 + r)) ∧ ∀ r, r < g 3 → mem 52 r = nI (ldC g (k * wC g l) r l)
def HO (g : Nat → Nat) (l k lo : Nat) (mem : Mem) (o : Option (Int32 × Mem)) : Prop :=
  (∃ m' c, o = some (nI 1, m') ∧ lo ≤ c ∧ c < k * wC g l + wC g l ∧ okC g c = true ∧ (∀ c', lo ≤ c' → c' < c → okC g c' = false) ∧ (∀ q, q ≠ 52 → q ≠ 53 → m' q = mem q) ∧ ∀ l', m' 53 l' = if l ≤ l' ∧ l' < g 2 ∧ unB g l' = true then nI (dC g c l') else mem 53 l') ∨
  (∃ m', o = some (nI 0, m') ∧ (∀ c', lo ≤ c' → c' < k * wC g l + wC g l → okC g c' = false) ∧ (∀ q, q ≠ 53 → m' q = mem q) ∧ ∀ l', ¬ (l ≤ l' ∧ l' < g 2 ∧ unB g l' = true) → m' 53 l' = mem 53 l')
section AR2
variable {g : Nat → Nat} {t : Nat}
theorem HO.from {l k lo : Nat} {mem m1 : Mem} {o : Option (Int32 × Mem)} (h : HO g l k lo m1 o) (h1 : ∀ q, q ≠ 53 → m1 q = mem q) (h2 : ∀ l', ¬ (l ≤ l' ∧ l' < g 2 ∧ unB g l' = true) → m1 53 l' = mem 53 l') : HO g l k lo mem o := by
  rcases h with ⟨m', c, e1, e2, e3, e4, e5, e6, e7⟩ | ⟨m', e1, e2, e3, e4⟩
  · refine Or.inl ⟨m', c, e1, e2, e3, e4, e5, fun q q1 q2 => by rw [e6 q q1 q2, h1 q q2], fun l' => ?_⟩
    rw [e7 l']
    by_cases e : l ≤ l' ∧ l' < g 2 ∧ unB g l' = true
    · rw [if_pos e, if_pos e]
    · rw [if_neg e, if_neg e, h2 l' e]
  · exact Or.inr ⟨m', e1, e2, fun q hq => by rw [e3 q hq, h1 q hq], fun l' hl' => by rw [e4 l' hl', h2 l' hl']⟩
theorem HO.low {l k lo lo' : Nat} {mem : Mem} {o : Option (Int32 × Mem)} (h : HO g l k lo mem o) (h1 : lo' ≤ lo) (h2 : ∀ c, lo' ≤ c → c < lo → okC g c = false) : HO g l k lo' mem o := by
  rcases h with ⟨m', c, e1, e2, e3, e4, e5, e6⟩ | ⟨m', e1, e2, e3⟩
  · refine Or.inl ⟨m', c, e1, Nat.le_trans h1 e2, e3, e4, fun c' q1 q2 => ?_, e6⟩
    by_cases e : c' < lo
    · exact h2 c' q1 e
    · exact e5 c' (by omega) q2
  · refine Or.inr ⟨m', e1, fun c' q1 q2 => ?_, e3⟩
    by_cases e : c' < lo
    · exact h2 c' q1 e
    · exact e2 c' (by omega) q2
theorem ok_noFit {c l : Nat} (hl : l < g 2) (hu : unB g l = true) (h : ¬ fitB g (dC g c l) = true) : okC g c = false := by
  unfold okC
  have : ¬ f1C g c (g 2) = true := by
    intro z
    unfold f1C at z
    have := allB_iff (g 2) |>.mp z l hl
    rw [hu] at this
    exact h this
  rw [Bool.not_eq_true] at this
  rw [this, Bool.false_and]
theorem ok_noLive {c r : Nat} (hr : r < g 3) (hf : fitB g r = true) (h : ¬ g (31 + r) + ldC g c r (g 2) < g (27 + r)) : okC g c = false := by
  unfold okC
  have : ¬ allB (f2C g c) (g 3) = true := by
    intro z
    have := allB_iff (g 3) |>.mp z r hr
    unfold f2C at this
    rw [hf, decide_eq_false h] at this
    cases this
  rw [Bool.not_eq_true] at this
  rw [this, Bool.and_false]
/-- a code in the block of the reader r for the letter l -/
theorem blk_at {l k r c : Nat} (hl : l < g 2) (hu : unB g l = true) (hr : r < g 3) (h1 : (k * g 3 + r) * wC g (l + 1) ≤ c) (h2 : c < (k * g 3 + r) * wC g (l + 1) + wC g (l + 1)) : dC g c l = r ∧ c / wC g l = k ∧ k * wC g l / wC g l = k ∧ k * wC g l ≤ c ∧ c < k * wC g l + wC g l := by
  have hw := wC_y hl hu
  have e1 := blk_div h1 h2
  have hp : 0 < wC g (l + 1) := by
    rcases Nat.eq_zero_or_pos (wC g (l + 1)) with e | e
    · rw [e] at h2 h1; omega
    · exact e
  have a1 : (k * g 3 + r) * wC g (l + 1) = k * wC g l + r * wC g (l + 1) := by
    rw [hw, Nat.add_mul, Nat.mul_assoc, Nat.mul_comm (g 3)]
  have a2 : r * wC g (l + 1) + wC g (l + 1) ≤ wC g l := by
    rw [hw, ← Nat.succ_mul, Nat.mul_comm (wC g (l + 1))]
    exact Nat.mul_le_mul_right _ hr
  have hp2 : 0 < wC g l := by
    have := Nat.zero_le (r * wC g (l + 1))
    omega
  refine ⟨?_, blk_div (by omega) (by omega), Nat.mul_div_cancel _ hp2, by omega, by omega⟩
  unfold dC
  rw [e1, Nat.add_comm, Nat.add_mul_mod_self_right, Nat.mod_eq_of_lt hr]
theorem ld_at {l k r c : Nat} (hl : l < g 2) (hu : unB g l = true) (hr : r < g 3) (h1 : (k * g 3 + r) * wC g (l + 1) ≤ c) (h2 : c < (k * g 3 + r) * wC g (l + 1) + wC g (l + 1)) (r' : Nat) : ldC g c r' (l + 1) = ldC g (k * wC g l) r' l + if r = r' then fcL g l else 0 := by
  obtain ⟨b1, b2', b3, _⟩ := blk_at hl hu hr h1 h2
  rw [← ldC_blk (c := c) (by omega) (b2'.trans b3.symm) r' l (Nat.le_refl _)]
  unfold ldC
  rw [sumP, b1, hu, Bool.true_and]
  congr 1
  by_cases e : r = r'
  · rw [decide_eq_true e, if_pos rfl, if_pos e]
  · rw [decide_eq_false e, if_neg (by decide), if_neg e]
theorem hand_in {l k n' : Nat} (hO : OkG t g) (hl : l < g 2) (hu : unB g l = true) (ih : ∀ (k : Nat) (mem : Mem), CO mem 7 g → PRE g (l + 1) k mem → HO g (l + 1) k (k * wC g (l + 1)) mem (X2_handsOut n' 7 (nI (l + 1)) 52 53 mem)) : ∀ (z r n : Nat) (mem : Mem), CO mem 7 g → PRE g l k mem → r ≤ g 3 → g 3 - r < z → z ≤ n → HO g l k ((k * g 3 + r) * wC g (l + 1)) mem (X2_handsOut_b38 7 52 53 (X2_handsOut n') n (nI l) (nI (fcL g l)) (nI r) mem) := by
  have h2 := hO.1
  have hw := wC_y hl hu
  have hfc : fcL g l ≤ 120 := fcN_le (hO.2.1 l hl).2.2.2.1
  intro z
  induction z with
  | zero => intro r n mem _ _ h1 h2; omega
  | succ z ihz =>
    intro r n mem hC hP h1 h3 h4
    obtain ⟨n, rfl, h5⟩ := succ_of h4
    rw [X2_handsOut_b38]
    dsimp only
    rw [hC.1.2.2.2.2]
    have hz : (nI r < nI (g 3)) = (r < g 3) := by rw [nI_ltI (by omega) (by omega)]
    have hnext : (k * g 3 + r) * wC g (l + 1) + wC g (l + 1) = (k * g 3 + (r + 1)) * wC g (l + 1) := by rw [← Nat.add_assoc, Nat.succ_mul]
    by_cases hlt : r < g 3
    · have hsp := hO.2.2.1 r hlt
      have hgo : ∀ m3 : Mem, (∀ q, q ≠ 53 → m3 q = mem q) → (∀ l', ¬ (l ≤ l' ∧ l' < g 2 ∧ unB g l' = true) → m3 53 l' = mem 53 l') → (∀ c, (k * g 3 + r) * wC g (l + 1) ≤ c → c < (k * g 3 + r) * wC g (l + 1) + wC g (l + 1) → okC g c = false) → HO g l k ((k * g 3 + r) * wC g (l + 1)) mem (X2_handsOut_b112 7 52 53 (X2_handsOut n') (X2_handsOut_b38 7 52 53 (X2_handsOut n') n) (nI l) (nI (fcL g l)) (nI r) m3) := by
        intro m3 q1 q2 q3
        unfold X2_handsOut_b112
        rw [show (1 : Int32) = nI 1 from rfl, nI_add]
        have e := ihz (r + 1) n m3 (hC.fr fun q _ _ => q1 q (by omega)) ⟨hP.1, hP.2.1, fun r' hr' => by rw [q1 52 (by omega)]; exact hP.2.2 r' hr'⟩ (by omega) (by omega) (by omega)
        exact (e.from q1 q2).low (by rw [← hnext]; omega) (fun c c1 c2 => q3 c c1 (by rw [hnext]; exact c2))
      rw [if_pos (hz.mpr hlt), c_fit hC hO hlt, cll_s]
      by_cases hf : fitB g r = true
      · have hld : ldC g (k * wC g l) r l < 999 := by
          have := hP.2.1 r hlt hf
          omega
        rw [b2_t hf, if_neg (show ¬ nI 1 = (0 : Int32) from nI01), ald_n (by simp only [lns]; omega) (by decide), hP.2.2 r hlt, nI_add, c_survives hC hO hlt (by omega), cll_s]
        by_cases hs : g (31 + r) + (ldC g (k * wC g l) r l + fcL g l) < g (27 + r)
        · rw [b2_t hs, if_neg (show ¬ nI 1 = (0 : Int32) from nI01), ald_n (by simp only [lns]; omega) (by decide), hP.2.2 r hlt, nI_add, ast_n (by simp only [lns]; omega) (by decide), ast_n (by simp only [lns]; omega) (by decide), show (1 : Int32) = nI 1 from rfl, nI_add]
          obtain ⟨m2, hm2⟩ : ∃ m2, m2 = st2 (st2 mem 52 r (nI (ldC g (k * wC g l) r l + fcL g l))) 53 l (nI r) := ⟨_, rfl⟩
          rw [← hm2]
          have k2 : ∀ q, q ≠ 52 → q ≠ 53 → m2 q = mem q := fun q q1 q2 => by rw [hm2, st2_k q2, st2_k q1]
          have hwp : 0 < wC g (l + 1) := by
            unfold wC
            exact Nat.pow_pos (by omega)
          have hc1 : (k * g 3 + r) * wC g (l + 1) < (k * g 3 + r) * wC g (l + 1) + wC g (l + 1) := by omega
          obtain ⟨b1, b2', b3, b4, b5⟩ := blk_at hl hu hlt (Nat.le_refl _) hc1
          have hla := ld_at hl hu hlt (Nat.le_refl _) hc1
          have hpre : PRE g (l + 1) (k * g 3 + r) m2 := by
            refine ⟨?_, fun r' hr' hf' => ?_, fun r' hr' => ?_⟩
            · have e0 := f1C_blk (c := k * wC g l) (c' := (k * g 3 + r) * wC g (l + 1)) (by omega) (b3.trans b2'.symm) hP.1
              unfold f1C at e0 ⊢
              rw [allB, e0, b1, hf, hu]
              rfl
            · rw [hla r']
              by_cases e : r = r'
              · rw [if_pos e, ← e]; exact hs
              · rw [if_neg e, Nat.add_zero (ldC g (k * wC g l) r' l)]
                exact hP.2.1 r' hr' hf'
            · rw [hla r', hm2, st2_k (by omega)]
              by_cases e : r = r'
              · rw [if_pos e, ← e, st2_s]
              · rw [if_neg e, Nat.add_zero (ldC g (k * wC g l) r' l), st2_i (fun z => e z.symm)]
                exact hP.2.2 r' hr'
          rcases ih (k * g 3 + r) m2 (hC.fr fun q _ _ => k2 q (by omega) (by omega)) hpre with ⟨m', c, e1, e2, e3, e4, e5, e6, e7⟩ | ⟨m', e1, e2, e3, e4⟩
          · rw [e1, cll_s, if_neg (show ¬ nI 1 = (0 : Int32) from nI01), chk_t (show nI 1 &&& nI 1 = nI 1 from by decide)]
            obtain ⟨c1, c2, c3, c4, c5⟩ := blk_at hl hu hlt e2 e3
            refine Or.inl ⟨m', c, rfl, e2, c5, e4, e5, fun q q1 q2 => by rw [e6 q q1 q2, k2 q q1 q2], fun l' => ?_⟩
            rw [e7 l']
            by_cases e : l' = l
            · rw [if_neg (show ¬ (l + 1 ≤ l' ∧ l' < g 2 ∧ unB g l' = true) by omega), if_pos ⟨by omega, by omega, by rw [e]; exact hu⟩, e, c1, hm2, st2_s]
            · by_cases e' : l ≤ l' ∧ l' < g 2 ∧ unB g l' = true
              · rw [if_pos e', if_pos ⟨by omega, e'.2⟩]
              · rw [if_neg e', if_neg (fun z => e' ⟨by omega, z.2⟩), hm2, st2_i e, st2_k (by omega)]
          · rw [e1, cll_s, if_pos (show nI 0 = (0 : Int32) from rfl), ald_n (by simp only [lns]; omega) (by decide), e3 52 (by omega), hm2, st2_k (show (52 : Nat) ≠ 53 by omega), st2_s, ast_n (by simp only [lns]; omega) (by decide)]
            have hb : nI (ldC g (k * wC g l) r l + fcL g l) - nI (fcL g l) = mem 52 r := by
              rw [pk_sub (by omega), hP.2.2 r hlt]
              congr 1
              omega
            rw [hb]
            refine hgo _ (fun q hq => ?_) (fun l' hl' => ?_) e2
            · by_cases e : q = 52
              · rw [e]
                funext j
                by_cases ej : j = r
                · rw [ej, st2_s]
                · rw [st2_i ej, e3 52 (by omega), hm2, st2_k (show (52 : Nat) ≠ 53 by omega), st2_i ej]
              · rw [st2_k e, e3 q hq, k2 q e hq]
            · rw [st2_k (show (53 : Nat) ≠ 52 by omega), e4 l' (fun z => hl' ⟨by omega, z.2⟩), hm2, st2_i (fun z => hl' ⟨by omega, by omega, by rw [z]; exact hu⟩), st2_k (by omega)]
        · rw [b2_f hs, if_pos (show nI 0 = (0 : Int32) from rfl)]
          refine hgo mem (fun _ _ => rfl) (fun _ _ => rfl) (fun c c1 c2 => ok_noLive hlt hf fun z => hs ?_)
          have e := ld_at hl hu hlt c1 c2 r
          rw [if_pos rfl] at e
          have := ld_mono (g := g) (c := c) (r := r) (g 2) (l + 1) (by omega)
          omega
      · rw [b2_f hf, if_pos (show nI 0 = (0 : Int32) from rfl)]
        refine hgo mem (fun _ _ => rfl) (fun _ _ => rfl) (fun c c1 c2 => ok_noFit hl hu ?_)
        rw [(blk_at hl hu hlt c1 c2).1]
        exact hf
    · have hE : r = g 3 := by omega
      rw [if_neg (fun z => hlt (hz.mp z)), chk_t (show (0 : Int32) &&& 1 = 0 from by decide)]
      refine Or.inr ⟨mem, rfl, fun c c1 c2 => ?_, fun _ _ => rfl, fun _ _ => rfl⟩
      have : (k * g 3 + r) * wC g (l + 1) = k * wC g l + wC g l := by
        rw [hw, hE, Nat.add_mul, Nat.mul_assoc, Nat.mul_comm (g 3)]
      omega
theorem hand_l (hO : OkG t g) (ht : t ≤ 600) : ∀ (d l n k : Nat) (mem : Mem), CO mem 7 g → PRE g l k mem → l ≤ g 2 → g 2 - l < d → d ≤ n → HO g l k (k * wC g l) mem (X2_handsOut n 7 (nI l) 52 53 mem) := by
  have h2 := hO.1
  intro d
  induction d with
  | zero => intro l n k mem _ _ h1 h2; omega
  | succ d ih =>
    intro l n k mem hC hP h1 h3 h4
    obtain ⟨n, rfl, h5⟩ := succ_of h4
    rw [X2_handsOut]
    unfold X2_handsOut_e
    dsimp only
    rw [hC.1.2.2.2.1]
    have hz : (nI l < nI (g 2)) = (l < g 2) := by rw [nI_ltI (by omega) (by omega)]
    by_cases hlt : l < g 2
    · rw [if_pos (hz.mpr hlt), c_readersOf hC hO ht hlt, cll_s]
      by_cases hu : unB g l = true
      · rw [if_pos (show nI (someB g l) = (0 : Int32) by rw [(un_some l).mpr hu]; rfl), c_firstCost hC hO hlt, cll_s, show (0 : Int32) = nI 0 from rfl]
        have e := hand_in (k := k) hO hlt hu (fun k' mem' hC' hP' => ih (l + 1) n k' mem' hC' hP' (by omega) (by omega) (by omega)) (g 3 + 1) 0 fu mem hC hP (by omega) (by omega) (fu_ge (by omega))
        rw [Nat.add_zero (k * g 3), Nat.mul_assoc, Nat.mul_comm (g 3), ← wC_y hlt hu] at e
        exact e
      · have hsm : someB g l < 16 := sett_small _ h2.2.2.2.2.1
        rw [if_neg (show ¬ nI (someB g l) = (0 : Int32) from nI_neN (b := 0) (by omega) (by omega) (fun z => hu ((un_some l).mp z))), show (1 : Int32) = nI 1 from rfl, nI_add]
        have hw := wC_n (g := g) hu
        have hpre : PRE g (l + 1) k mem := by
          have hl1 : ∀ r, ldC g (k * wC g (l + 1)) r (l + 1) = ldC g (k * wC g l) r l := by
            intro r
            rw [hw]
            unfold ldC
            rw [sumP, if_neg (by rw [Bool.not_eq_true] at hu; rw [hu, Bool.false_and]; decide), Nat.add_zero (sumP _ _ l)]
          refine ⟨?_, fun r hr hf => by rw [hl1]; exact hP.2.1 r hr hf, fun r hr => by rw [hl1]; exact hP.2.2 r hr⟩
          have := hP.1
          rw [hw] at this
          unfold f1C at this ⊢
          rw [allB, this]
          rw [Bool.not_eq_true] at hu
          rw [hu]
          rfl
        have hiff : ∀ l', (l ≤ l' ∧ l' < g 2 ∧ unB g l' = true) ↔ (l + 1 ≤ l' ∧ l' < g 2 ∧ unB g l' = true) := by
          intro l'
          constructor
          · intro z
            refine ⟨?_, z.2⟩
            rcases Nat.lt_or_ge l l' with e | e
            · omega
            · exact absurd z.2.2 (by rw [show l' = l by omega]; exact hu)
          · intro z
            exact ⟨by omega, z.2⟩
        rcases ih (l + 1) n k mem hC hpre (by omega) (by omega) (by omega) with ⟨m', c, e1, e2, e3, e4, e5, e6, e7⟩ | ⟨m', e1, e2, e3, e4⟩
        · rw [e1, cll_s, chk_t (show nI 1 &&& nI 1 = nI 1 from by decide)]
          rw [← hw] at e2 e3 e5
          refine Or.inl ⟨m', c, rfl, e2, e3, e4, e5, e6, fun l' => ?_⟩
          rw [e7 l']
          by_cases e : l ≤ l' ∧ l' < g 2 ∧ unB g l' = true
          · rw [if_pos e, if_pos ((hiff l').mp e)]
          · rw [if_neg e, if_neg (fun z => e ((hiff l').mpr z))]
        · rw [e1, cll_s, chk_t (show nI 0 &&& nI 1 = nI 0 from by decide)]
          rw [← hw] at e2
          exact Or.inr ⟨m', rfl, e2, e3, fun l' hl' => e4 l' (fun z => hl' ((hiff l').mpr z))⟩
    · have hE : l = g 2 := by omega
      rw [if_neg (fun z => hlt (hz.mp z)), chk_t (show (1 : Int32) &&& 1 = 1 from by decide)]
      have hw1 : wC g l = 1 := by rw [hE]; exact wC_N
      have hP1 := hP.1
      have hP2 := hP.2.1
      rw [hw1, Nat.mul_one] at hP1 hP2
      refine Or.inl ⟨mem, k, rfl, by rw [hw1]; omega, by rw [hw1]; omega, ?_, fun c' c1 c2 => by rw [hw1] at c1; omega, fun _ _ _ => rfl, fun l' => by rw [if_neg (by omega)]⟩
      unfold okC
      rw [← hE, hP1, Bool.true_and, allB_iff]
      intro r hr
      unfold f2C
      by_cases hf : fitB g r = true
      · rw [← hE, decide_eq_true (hP2 r hr hf), Bool.or_true]
      · rw [Bool.not_eq_true] at hf
        rw [hf]
        rfl
end AR2
