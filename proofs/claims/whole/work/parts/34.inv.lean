/-! ===== PURE: the invariant between the class's numbers and the reference's ===== -/
/-- the act kept at place c of the ring leads from the row a to the row b: undoing it makes a out of b -/
def Dl (mem : Mem) (c : Nat) (a b : Nat → Nat) : Prop :=
  (mem 44 c = nI 2 ∧ (∀ r, r < b 3 → a (31 + r) + 1 = b (31 + r)) ∧ a 4 + 1 = b 4 ∧ ∀ j, j < 63 → j ≠ 4 → (∀ r, r < b 3 → j ≠ 31 + r) → a j = b j) ∨
  (∃ l n, mem 44 c = nI 1 ∧ mem 46 c = nI l ∧ mem 47 c = nI n ∧ l < b 2 ∧ a (11 + l) = b (11 + l) + n ∧ ∀ j, j < 63 → j ≠ 11 + l → a j = b j) ∨
  (∃ r l d tm L NL, mem 44 c = nI 0 ∧ mem 45 c = nI r ∧ mem 46 c = nI l ∧ mem 47 c = nI d ∧ mem 48 c = nI tm ∧ mem 49 c = nI L ∧ mem 50 c = nI NL ∧
    r < b 3 ∧ l < b 2 ∧ d ≤ 120 ∧ tm ≤ 1 ∧ L < 16 ∧ NL < 16 ∧ hasB L r = false ∧ a (31 + r) + d = b (31 + r) ∧ a (39 + 4 * l + r) + tm = b (39 + 4 * l + r) ∧
    (∀ q, q < b 3 → hasB L q = true → a (31 + q) + (d + 9) / 10 = b (31 + q)) ∧
    (∀ q, q < b 3 → q ≠ r → hasB L q = false → a (31 + q) = b (31 + q)) ∧
    (∀ q, q < b 3 → hasB NL q = true → hasB (b (35 + q)) l = true ∧ a (35 + q) + 2 ^ l = b (35 + q)) ∧
    (∀ q, q < b 3 → hasB NL q = false → a (35 + q) = b (35 + q)) ∧
    ∀ j, j < 63 → j ≠ 39 + 4 * l + r → (∀ q, q < b 3 → j ≠ 31 + q ∧ j ≠ 35 + q) → a j = b j)
def IMG1 (t : Nat) (mem : Mem) (o k off : Nat) : Prop :=
  (mem o 0 = nI 0 ∧ mem 71 k = nI 0) ∨ (mem o 0 = nI 1 ∧ mem 71 k = nI 1 ∧ ∃ g, CO mem o g ∧ OkG t g ∧ g 0 = 1 ∧ ∀ j, j < 63 → mem 70 (off + j) = nI (g j))
def IMG (t : Nat) (mem : Mem) : Prop := IMG1 t mem 25 0 0 ∧ IMG1 t mem 34 1 63
def ACT (t : Nat) (mem : Mem) (g : Nat → Nat) : Prop :=
  ∃ (K nx : Nat) (S : Nat → Nat → Nat), K ≤ 24 ∧ nx < 24 ∧ mem 43 8 = nI K ∧ mem 57 13 = nI K ∧ mem 43 7 = nI nx ∧ S K = g ∧
    ∀ i, i < K → (∀ j, j < 63 → mem 65 (63 * i + j) = nI (S i j)) ∧ OkG t (S i) ∧ Dl mem ((nx + 24 - (K - i)) % 24) (S i) (S (i + 1))
def ROW (mem : Mem) : Prop := ∀ r, r < 8 → (mem 2 r = -nI 1 ∧ mem 59 r = -nI 1) ∨
  (∃ la sz, la ≤ 2 ∧ sz ≤ 40 ∧ mem 2 r = nI la ∧ mem 58 r = nI la ∧ mem 3 r = nI sz ∧ mem 59 r = nI sz ∧ ∀ i, i < sz → mem 4 (r * 40 + i) = mem 60 (r * 40 + i))
def TAP (mem : Mem) : Prop := ∃ n, n ≤ 120 ∧ mem 5 1 = nI n ∧ mem 57 7 = nI n ∧ ∀ i, i < n → ∃ b, b < 256 ∧ mem 6 i = nI b ∧ mem 63 i = nI b
def FST (mem : Mem) : Prop := mem 0 9 = mem 57 8 ∧ mem 0 10 = mem 57 3
def TRC (mem : Mem) : Prop := ∃ n, n ≤ 16 ∧ mem 55 1 = nI n ∧ mem 57 22 = nI n ∧ ∀ i, i < n → mem 56 i = mem 72 i
def Inv (t : Nat) (mem : Mem) : Prop := ∃ g, CO mem 7 g ∧ MO mem g ∧ OkG t g ∧ IMG t mem ∧ ACT t mem g ∧ ROW mem ∧ TAP mem ∧ FST mem ∧ TRC mem
theorem OkG.mono {t : Nat} {g : Nat → Nat} (h : OkG t g) : OkG (t + 1) g := ⟨h.1, h.2.1, h.2.2.1, fun r l hr hl => Nat.le_succ_of_le (h.2.2.2 r l hr hl)⟩
theorem IMG1.mono {t : Nat} {mem : Mem} {o k off : Nat} (h : IMG1 t mem o k off) : IMG1 (t + 1) mem o k off := by
  rcases h with h | ⟨h1, h2, g, h3, h4, h5⟩
  · exact Or.inl h
  · exact Or.inr ⟨h1, h2, g, h3, h4.mono, h5⟩
theorem ACT.mono {t : Nat} {mem : Mem} {g : Nat → Nat} (h : ACT t mem g) : ACT (t + 1) mem g := by
  obtain ⟨K, nx, S, h1, h2, h3, h4, h5, h6, h7⟩ := h
  exact ⟨K, nx, S, h1, h2, h3, h4, h5, h6, fun i hi => ⟨(h7 i hi).1, (h7 i hi).2.1.mono, (h7 i hi).2.2⟩⟩
theorem Inv.mono {t : Nat} {mem : Mem} (h : Inv t mem) : Inv (t + 1) mem := by
  obtain ⟨g, h1, h2, h3, h4, h5, h6⟩ := h
  exact ⟨g, h1, h2, h3.mono, ⟨h4.1.mono, h4.2.mono⟩, h5.mono, h6⟩
theorem q_step {t : Nat} {mem : Mem} {A : Option (Int32 × Mem)} {B : Mem → Option (Int32 × Mem)} {r : Int32} (h : Inv t mem) (e1 : A = some (r, mem)) (e2 : B mem = some (r, mem)) : ∃ (r : Int32) (m1 m2 : Mem), A = some (r, m1) ∧ B m1 = some (r, m2) ∧ Inv (t + 1) m2 := ⟨r, mem, mem, e1, e2, h.mono⟩
theorem ite10 {α : Type} {A B : α} : (if nI 1 = nI 0 then A else B) = B := if_neg nI01
theorem ite00 {α : Type} {A B : α} : (if nI 0 = nI 0 then A else B) = A := if_pos rfl
theorem some_ite {ρ : Type} {c : Prop} [Decidable c] {a b : ρ} {m : Mem} : (if c then some (a, m) else some (b, m)) = some (if c then a else b, m) := by
  by_cases h : c
  · rw [if_pos h, if_pos h]
  · rw [if_neg h, if_neg h]
theorem b2_ite {p : Prop} [Decidable p] : (if p then nI 0 else nI 1) = b2 (¬ p) := by
  unfold b2
  by_cases h : p
  · rw [if_pos h, if_neg (fun z => z h)]
  · rw [if_neg h, if_pos h]
section OFF4
variable {mem : Mem} {g : Nat → Nat} {t : Nat}
theorem m_isLetter_y (hM : MO mem g) (hO : OkG t g) {l : Nat} (hl : l < g 2) : X7_isLetter 57 (nI l) mem = some (nI 1, mem) := by
  have h2 := hO.1
  rw [m_isLetter hM hO, b2_t (in_n hl (by omega))]
theorem m_isLetter_n (hM : MO mem g) (hO : OkG t g) {a : Int32} (ha : ¬ (0 ≤ a.toInt ∧ a.toInt < g 2)) : X7_isLetter 57 a mem = some (nI 0, mem) := by rw [m_isLetter hM hO, b2_f ha]
theorem m_isReader_y (hM : MO mem g) (hO : OkG t g) {l : Nat} (hl : l < g 3) : X7_isReader 57 (nI l) mem = some (nI 1, mem) := by
  have h2 := hO.1
  rw [m_isReader hM hO, b2_t (in_n hl (by omega))]
theorem m_isReader_n (hM : MO mem g) (hO : OkG t g) {a : Int32} (ha : ¬ (0 ≤ a.toInt ∧ a.toInt < g 3)) : X7_isReader 57 a mem = some (nI 0, mem) := by rw [m_isReader hM hO, b2_f ha]
end OFF4
