/-! ===== PURE: the call ask ===== -/
def pushC (m : Mem) (n : Nat) : List Nat → Mem
  | [] => m
  | b :: bs => pushC (lv m n b) (n + 1) bs
def pushR (m : Mem) (n : Nat) : List Nat → Mem
  | [] => m
  | b :: bs => pushR (lw m n b) (n + 1) bs
theorem pushC_k {q : Nat} (h5 : q ≠ 55) (h6 : q ≠ 56) : ∀ bs m n, pushC m n bs q = m q
  | [], m, n => rfl
  | b :: bs, m, n => by rw [pushC, pushC_k h5 h6 bs, lv_k h5 h6]
theorem pushR_k {q : Nat} (h5 : q ≠ 57) (h6 : q ≠ 72) : ∀ bs m n, pushR m n bs q = m q
  | [], m, n => rfl
  | b :: bs, m, n => by rw [pushR, pushR_k h5 h6 bs, lw_k h5 h6]
theorem pushC_1 : ∀ bs m n, m 55 1 = nI n → pushC m n bs 55 1 = nI (n + bs.length)
  | [], m, n, h => h
  | b :: bs, m, n, h => by
    rw [pushC, pushC_1 bs (lv m n b) (n + 1) st2_s, List.length_cons]
    congr 1
    omega
theorem pushR_1 : ∀ bs m n, m 57 22 = nI n → pushR m n bs 57 22 = nI (n + bs.length)
  | [], m, n, h => h
  | b :: bs, m, n, h => by
    rw [pushR, pushR_1 bs (lw m n b) (n + 1) st2_s, List.length_cons]
    congr 1
    omega
theorem pushR_57 {j : Nat} (hj : j ≠ 22) : ∀ bs m n, pushR m n bs 57 j = m 57 j
  | [], m, n => rfl
  | b :: bs, m, n => by
    rw [pushR, pushR_57 hj bs]
    unfold lw
    rw [st2_i hj, st2_k (by omega)]
theorem push_same : ∀ bs m m' n i, (i < n → m 56 i = m' 72 i) → i < n + bs.length → pushC m n bs 56 i = pushR m' n bs 72 i
  | [], m, m', n, i, h, hi => h hi
  | b :: bs, m, m', n, i, h, hi => by
    rw [pushC, pushR]
    refine push_same bs _ _ _ _ (fun h2 => ?_) (by rw [List.length_cons] at hi; omega)
    unfold lv lw
    rw [st2_k (show (56 : Nat) ≠ 55 by omega), st2_k (show (72 : Nat) ≠ 57 by omega)]
    by_cases e : i = n
    · rw [e, st2_s, st2_s]
    · rw [st2_i e, st2_i e]
      exact h (by omega)
section AK2
variable {mem : Mem} {g : Nat → Nat} {t : Nat}
theorem ask_fin (hI : Inv t mem) {bs : List Nat} (hb : bs.length ≤ 16) : Inv (t + 1) (pushR (st2 (pushC (st2 mem 55 1 (nI 0)) 0 bs) 57 22 (nI 0)) 0 bs) := by
  obtain ⟨g, hC, hM, hO, hG, hA, hR, hT, hF, _⟩ := Inv.mono hI
  have f : ∀ q, q ≠ 55 → q ≠ 56 → q ≠ 57 → q ≠ 72 → pushR (st2 (pushC (st2 mem 55 1 (nI 0)) 0 bs) 57 22 (nI 0)) 0 bs q = mem q := fun q z1 z2 z3 z4 => by rw [pushR_k z3 z4, st2_k z3, pushC_k z1 z2, st2_k z1]
  have f57 : ∀ j, j ≠ 22 → pushR (st2 (pushC (st2 mem 55 1 (nI 0)) 0 bs) 57 22 (nI 0)) 0 bs 57 j = mem 57 j := fun j hj => by rw [pushR_57 hj, st2_i hj, pushC_k (by omega) (by omega), st2_k (by omega)]
  refine ⟨g, hC.fr fun q z1 z2 => f q ?_ ?_ ?_ ?_, hM.fr (f _ ?_ ?_ ?_ ?_), hO, hG.fr (fun q z1 z2 => f q ?_ ?_ ?_ ?_) (f _ ?_ ?_ ?_ ?_) (f _ ?_ ?_ ?_ ?_), hA.fr (fun q z1 z2 => f q ?_ ?_ ?_ ?_) (f _ ?_ ?_ ?_ ?_) (f57 _ ?_), hR.fr (f _ ?_ ?_ ?_ ?_) (f _ ?_ ?_ ?_ ?_) (f _ ?_ ?_ ?_ ?_) (f _ ?_ ?_ ?_ ?_) (f _ ?_ ?_ ?_ ?_) (f _ ?_ ?_ ?_ ?_), hT.fr (by rw [f 5 (by omega) (by omega) (by omega) (by omega)]) (f _ ?_ ?_ ?_ ?_) (f57 _ ?_) (f _ ?_ ?_ ?_ ?_), hF.fr (by rw [f 0 (by omega) (by omega) (by omega) (by omega)]) (by rw [f 0 (by omega) (by omega) (by omega) (by omega)]) (f57 _ ?_) (f57 _ ?_), ⟨bs.length, hb, ?_, ?_, fun i hi => ?_⟩⟩
  all_goals try omega
  · rw [pushR_k (by omega) (by omega), st2_k (by omega), pushC_1 bs _ 0 st2_s, Nat.zero_add]
  · rw [pushR_1 bs _ 0 st2_s, Nat.zero_add]
  · rw [pushR_k (by omega) (by omega), st2_k (by omega)]
    exact push_same bs _ _ 0 i (fun h => absurd h (Nat.not_lt_zero i)) (by omega)
theorem st_ask : St_ask Inv := by
  intro t mem a1 a2 ht hI
  obtain ⟨g, hC, hM, hO, hG, hA, hR, hT, hF, hT2⟩ := id hI
  have h2 := hO.1
  unfold X6_ask X7_ask
  rcases rng a1 (g 2) (by omega) with ⟨l, hl, rfl⟩ | hl
  · rcases rng a2 2 (by omega) with ⟨w, hw, rfl⟩ | hw
    · have hk := hO.2.1 l hl
      have h0 : At g (st2 mem 55 1 (nI 0)) 0 := ⟨st2_s, hC.fr fun q _ _ => st2_k (by omega)⟩
      have r0 : ∀ bs, Rt g (st2 (pushC (st2 mem 55 1 (nI 0)) 0 bs) 57 22 (nI 0)) 0 := fun bs => ⟨st2_s, hM.fr (by rw [st2_k (by omega), pushC_k (by omega) (by omega), st2_k (by omega)])⟩
      have fin : ∀ (bs : List Nat) (v : Int32), bs.length ≤ 16 → (cll (X1_bodyFor 7 (nI l) (nI w) (st2 mem 55 1 (nI 0))) fun r2 m3 => X1_begin 12 55 r2 7 (nI l) (nI 0) m3) = some (v, pushC (st2 mem 55 1 (nI 0)) 0 bs) → (∀ m, Rt g m 0 → (if w = 0 then X7_sizeOf 57 (nI l) m else X7_markOf 57 (nI l) m) = some (v, pushR m 0 bs)) → ∃ (r : Int32) (m1 m2 : Mem), (cll (X1_answer 55 7 (nI l) (nI w) mem) fun r7 m8 => some (r7, m8)) = some (r, m1) ∧ (if nI w = nI 0 then (cll (X7_sizeOf 57 (nI l) (st2 m1 57 22 (nI 0))) fun r11 m12 => some (r11, m12)) else (cll (X7_markOf 57 (nI l) (st2 m1 57 22 (nI 0))) fun r9 m10 => some (r9, m10))) = some (r, m2) ∧ (MO m1 g ∧ Inv (t + 1) m2) := by
        intro bs v hb e1 e2
        refine ⟨v, pushC (st2 mem 55 1 (nI 0)) 0 bs, _, ?_, ?_, hM.fr (by rw [pushC_k (by omega) (by omega), st2_k (by omega)]), ask_fin hI hb⟩
        · unfold X1_answer
          rw [show (0 : Int32) = nI 0 from rfl]
          have : ∀ (o : Option (Int32 × Mem)) (F : Int32 → Mem → Option (Int32 × Mem)), (cll (cll o fun r2 m3 => cll (F r2 m3) fun r4 m5 => some (r4, m5)) fun r7 m8 => some (r7, m8)) = cll o F := by
            intro o F
            cases o with
            | none => rfl
            | some x =>
              show (cll (cll (F x.1 x.2) fun r4 m5 => some (r4, m5)) fun r7 m8 => some (r7, m8)) = F x.1 x.2
              cases F x.1 x.2 <;> rfl
          rw [this, e1]
        · have e3 := e2 _ (r0 bs)
          simp (disch := omega) only [nI_eq]
          by_cases h : w = 0
          · rw [if_pos h] at e3
            rw [if_pos h, e3, cll_s]
          · rw [if_neg h] at e3
            rw [if_neg h, e3, cll_s]
      have fin2 : ∃ (r : Int32) (m1 m2 : Mem), (cll (X1_answer 55 7 (nI l) (nI w) mem) fun r7 m8 => some (r7, m8)) = some (r, m1) ∧ (if nI w = nI 0 then (cll (X7_sizeOf 57 (nI l) (st2 m1 57 22 (nI 0))) fun r11 m12 => some (r11, m12)) else (cll (X7_markOf 57 (nI l) (st2 m1 57 22 (nI 0))) fun r9 m10 => some (r9, m10))) = some (r, m2) ∧ (MO m1 g ∧ Inv (t + 1) m2) := by
        rcases two hw with rfl | rfl
        · rcases (show g (5 + l) = 1 ∨ g (5 + l) = 2 ∨ g (5 + l) = 3 ∨ g (5 + l) = 4 ∨ g (5 + l) = 5 by omega) with k | k | k | k | k
          · refine fin [11, 10, 21, 20] _ (by decide) ?_ (fun m hr => (if_pos rfl).trans (RZ1 hr hO k (by omega) hl))
            rw [(show X1_bodyFor 7 (nI l) (nI 0) (st2 mem 55 1 (nI 0)) = _ from bodyS h0.2 hO hl k (by omega)), cll_s]
            exact C11_1 h0 hO k (by omega) (by omega) hl
          · refine fin [12, 11, 10, 24, 21, 20] _ (by decide) ?_ (fun m hr => (if_pos rfl).trans (RZ2 hr hO k (by omega) hl))
            rw [(show X1_bodyFor 7 (nI l) (nI 0) (st2 mem 55 1 (nI 0)) = _ from bodyS h0.2 hO hl k (by omega)), cll_s]
            exact C12 h0 hO k (by omega) (by omega) hl
          · refine fin [11, 10, 22, 21, 20] _ (by decide) ?_ (fun m hr => (if_pos rfl).trans (RZ3 hr hO k (by omega) hl))
            rw [(show X1_bodyFor 7 (nI l) (nI 0) (st2 mem 55 1 (nI 0)) = _ from bodyS h0.2 hO hl k (by omega)), cll_s]
            exact C11_3 h0 hO k (by omega) (by omega) hl
          · refine fin [13, 10] _ (by decide) ?_ (fun m hr => (if_pos rfl).trans (RZ4 hr hO k (by omega) hl))
            rw [(show X1_bodyFor 7 (nI l) (nI 0) (st2 mem 55 1 (nI 0)) = _ from bodyS h0.2 hO hl k (by omega)), cll_s]
            exact C13 h0 hO (by omega) (by omega) hl
          · refine fin [14, 13, 10] _ (by decide) ?_ (fun m hr => (if_pos rfl).trans (RZ5 hr hO k (by omega) hl))
            rw [(show X1_bodyFor 7 (nI l) (nI 0) (st2 mem 55 1 (nI 0)) = _ from bodyS h0.2 hO hl k (by omega)), cll_s]
            exact C14 h0 hO (by omega) (by omega) hl
        · rcases (show g (5 + l) = 1 ∨ g (5 + l) = 2 ∨ g (5 + l) = 3 ∨ g (5 + l) = 4 ∨ g (5 + l) = 5 by omega) with k | k | k | k | k
          · refine fin [21, 20] _ (by decide) ?_ (fun m hr => (if_neg (by decide)).trans (RM1 hr hO k (by omega) hl))
            rw [(show X1_bodyFor 7 (nI l) (nI 1) (st2 mem 55 1 (nI 0)) = _ from bodyM h0.2 hO hl k (by omega)), cll_s]
            exact C21 h0 hO (by omega) (by omega) hl
          · refine fin [24, 21, 20] _ (by decide) ?_ (fun m hr => (if_neg (by decide)).trans (RM2 hr hO k (by omega) hl))
            rw [(show X1_bodyFor 7 (nI l) (nI 1) (st2 mem 55 1 (nI 0)) = _ from bodyM h0.2 hO hl k (by omega)), cll_s]
            exact C24 h0 hO (by omega) (by omega) hl
          · refine fin [22, 21, 20] _ (by decide) ?_ (fun m hr => (if_neg (by decide)).trans (RM3 hr hO k (by omega) hl))
            rw [(show X1_bodyFor 7 (nI l) (nI 1) (st2 mem 55 1 (nI 0)) = _ from bodyM h0.2 hO hl k (by omega)), cll_s]
            exact C22 h0 hO (by omega) (by omega) hl
          · refine fin [23, 20, 13, 10] _ (by decide) ?_ (fun m hr => (if_neg (by decide)).trans (RM4 hr hO k (by omega) hl))
            rw [(show X1_bodyFor 7 (nI l) (nI 1) (st2 mem 55 1 (nI 0)) = _ from bodyM h0.2 hO hl k (by omega)), cll_s]
            exact C23_4 h0 hO k (by omega) (by omega) hl
          · refine fin [23, 20, 14, 13, 10] _ (by decide) ?_ (fun m hr => (if_neg (by decide)).trans (RM5 hr hO k (by omega) hl))
            rw [(show X1_bodyFor 7 (nI l) (nI 1) (st2 mem 55 1 (nI 0)) = _ from bodyM h0.2 hO hl k (by omega)), cll_s]
            exact C23_5 h0 hO k (by omega) (by omega) hl
      obtain ⟨r, m1, m2, e1, e2, hM1, e3⟩ := fin2
      refine ⟨r, m1, m2, ?_, ?_, e3⟩
      · simp only [rfs, c_hasLetter_y hC hO hl, c_isChoice_y hw, cll_s, L32, ite10, e1]
      · simp (disch := omega) only [m_isLetter_y hM1 hO hl, m_in_y, cll_s, L32, L64, ite10]
        exact e2
    · refine q_step hI (r := -nI 1000001) ?_ ?_
      · simp only [rfs, c_hasLetter_y hC hO hl, c_isChoice_n hw, cll_s, L32, ite10, if_true]
      · simp (disch := omega) only [m_isLetter_y hM hO hl, m_in_n, cll_s, L32, L64, ite10, if_true]
  · refine q_step hI (r := -nI 1000001) ?_ ?_
    · simp only [rfs, c_hasLetter_n hC hO hl, cll_s, L32, if_true]
    · simp only [m_isLetter_n hM hO hl, cll_s, L32, if_true]
end AK2
