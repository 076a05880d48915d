/-! ===== THE WORLD AS NUMBERS (mem cell place), THE JUDGEMENT Ev, A RULE AN INSTRUCTION ===== -/
abbrev Mem : Type := Nat → Nat → Int32
abbrev Gt : Type := (Nat → Nat) × va_G × ClassId × ClassId × Nat × Nat × Launch
def gA (G : Gt) (k : Nat) : Nat := G.1 k
def gD (G : Gt) : va_G := G.2.1
def gI (G : Gt) : ClassId := G.2.2.1
def gZ (G : Gt) : ClassId := G.2.2.2.1
def gS (G : Gt) : Nat := G.2.2.2.2.1
def gM (G : Gt) : Nat := G.2.2.2.2.2.1
def gL (G : Gt) : Launch := G.2.2.2.2.2.2
def fV (G : Gt) (k : Nat) (row : Nat → Int32) (j : Nat) : Value := if ir (kd k) j = true then .ref (gA G (rf k j)) else .int (row j)
def cellE (G : Gt) (k : Nat) (row : Nat → Int32) : va_E := if kd k = 100 then .inl (gI G, ln k, .inl row) else if kd k = 101 then .inl (gZ G, ln k, .inl row) else .inr (kd k, (List.range (nf (kd k))).map (fV G k row))
def cells (G : Gt) (mem : Mem) : va_W := (List.range NC).map (fun k => (gA G k, cellE G k (mem k)))
def st1 (mem : Mem) (k : Nat) (row : Nat → Int32) : Mem := fun q => if q = k then row else mem q
def st2 (mem : Mem) (k i : Nat) (v : Int32) : Mem := st1 mem k (upd (mem k) i v)
theorem cells_at {G : Gt} {mem : Mem} {k : Nat} (h : k < NC) : (cells G mem)[k]? = some (gA G k, cellE G k (mem k)) := by
  unfold cells
  rw [List.getElem?_map, List.getElem?_range h]
  rfl
theorem cells_set {G : Gt} {mem : Mem} {k : Nat} {row : Nat → Int32} (h : k < NC) : (cells G mem).set k (gA G k, cellE G k row) = cells G (st1 mem k row) := by
  apply List.ext_getElem?
  intro i
  rw [List.getElem?_set]
  have hl : (cells G mem).length = NC := by simp [cells]
  by_cases hi : k = i
  · subst hi
    rw [if_pos rfl, if_pos (by rw [hl]; exact h), cells_at h]
    simp [st1]
  · rw [if_neg hi]
    by_cases h2 : i < NC
    · rw [cells_at h2, cells_at h2]
      simp [st1, Ne.symm hi]
    · rw [List.getElem?_eq_none (by rw [hl]; omega), List.getElem?_eq_none (by simp [cells]; omega)]
theorem cellE_i {G : Gt} {k : Nat} {row : Nat → Int32} (h : kd k = 100) : cellE G k row = .inl (gI G, ln k, .inl row) := by simp [cellE, h]
theorem cellE_z {G : Gt} {k : Nat} {row : Nat → Int32} (h : kd k = 101) : cellE G k row = .inl (gZ G, ln k, .inl row) := by simp [cellE, h]
theorem cellE_o {G : Gt} {k c : Nat} {row : Nat → Int32} (h : kd k = c) (hc : c < 100) : cellE G k row = .inr (c, (List.range (nf c)).map (fV G k row)) := by
  subst h
  unfold cellE
  rw [if_neg (by omega), if_neg (by omega)]
theorem fs_at {G : Gt} {k n j : Nat} {row : Nat → Int32} (h : j < n) : ((List.range n).map (fV G k row))[j]? = some (fV G k row j) := by
  rw [List.getElem?_map, List.getElem?_range h]
  rfl
theorem fs_set {G : Gt} {k n c j : Nat} {row : Nat → Int32} {v : Int32} (hk : kd k = c) (hj : ir c j = false) : ((List.range n).map (fV G k row)).set j (.int v) = (List.range n).map (fV G k (upd row j v)) := by
  apply List.ext_getElem?
  intro i
  rw [List.getElem?_set]
  by_cases h2 : i < n
  · rw [fs_at h2, fs_at h2]
    by_cases hi : j = i
    · subst hi
      rw [if_pos rfl, if_pos (by simp; exact h2)]
      simp [fV, hk, hj, upd]
    · rw [if_neg hi]
      simp [fV, upd, Ne.symm hi]
  · rw [List.getElem?_eq_none (l := (List.range n).map (fV G k (upd row j v))) (by simp; omega), List.getElem?_eq_none (l := (List.range n).map (fV G k row)) (by simp; omega)]
    by_cases hi : j = i
    · rw [if_pos hi, if_neg (by simp; omega)]
    · rw [if_neg hi]
theorem kd_lt {k c : Nat} (h : kd k = c) (hc : c < 200) : k < NC := by
  apply Nat.not_le.mp
  intro q
  have e : kd k = 200 := by
    unfold kd
    rw [List.getD_eq_getElem?_getD, List.getElem?_eq_none (by exact q)]
    rfl
  omega
/-- words that hold anywhere in the run: the tables' good ones -/
def AW : List Cond := lw_tbl.filter goodWord
def isNest : Cond → Bool
  | .fieldLinkNest .. => true
  | .methodLinkNest .. => true
  | _ => false
def NW : List Cond := tables_1.filter isNest
theorem AW_of {w : Cond} (h : w ∈ lw_tbl) (g : goodWord w = true) : w ∈ AW := List.mem_filter.mpr ⟨h, g⟩
theorem AW_s {w : Cond} (h : w ∈ k2_sels lw_privs) (g : goodWord w = true) : w ∈ AW := AW_of (List.mem_append_left _ h) g
theorem AW_t {w : Cond} (h : w ∈ tables_1) (g : goodWord w = true) : w ∈ AW := AW_of (List.mem_append_right _ h) g
theorem tb_1 {w : Cond} {i : Nat} (h : tables_1_1[i]? = some w) : w ∈ tables_1 := List.mem_append_left _ (List.mem_of_getElem? h)
theorem tb_2 {w : Cond} {i : Nat} (h : tables_1_2[i]? = some w) : w ∈ tables_1 := List.mem_append_right _ (List.mem_append_left _ (List.mem_of_getElem? h))
theorem tb_3 {w : Cond} {i : Nat} (h : tables_1_3[i]? = some w) : w ∈ tables_1 := List.mem_append_right _ (List.mem_append_right _ (List.mem_append_left _ (List.mem_of_getElem? h)))
theorem tb_4 {w : Cond} {i : Nat} (h : tables_1_4[i]? = some w) : w ∈ tables_1 := List.mem_append_right _ (List.mem_append_right _ (List.mem_append_right _ (List.mem_append_left _ (List.mem_of_getElem? h))))
theorem tb_5 {w : Cond} {i : Nat} (h : tables_1_5[i]? = some w) : w ∈ tables_1 := List.mem_append_right _ (List.mem_append_right _ (List.mem_append_right _ (List.mem_append_right _ (List.mem_of_getElem? h))))
theorem NW_t {w : Cond} (h : w ∈ tables_1) (g : isNest w = true) : w ∈ NW := List.mem_filter.mpr ⟨h, g⟩
theorem goodAW {ws : List Cond} (h : ∀ w ∈ ws, w ∈ AW) : GoodIn AW ws := fun w hw => ⟨h w hw, good_of_word (List.mem_filter.mp (h w hw)).2⟩
theorem nest_warm {w : Cond} {s U : State} (hn : isNest w = true) (hW : s.WarmedH U.vm) (h : va_Nw w s) : va_Nw w U := by
  cases w <;> first | (exact va_Nw.warmF hW h) | (exact va_Nw.warmM hW h) | (cases hn)
theorem nest_same {w : Cond} {s U : State} (hn : isNest w = true) (hW : s.vm = U.vm) (h : va_Nw w s) : va_Nw w U := by
  cases w <;> first | (exact va_Nw.same rfl hW h) | (cases hn)
def szB (j : Nat) : Int32 := [10, 11, 12, 11, 13, 14].getD j 0
def mkB (j : Nat) : Int32 := [20, 21, 24, 22, 23, 23].getD j 0
/-- the cells that may be written -/
def gF (G : Gt) : Nat → Prop := fun q => ∃ k, k < NC ∧ q = gA G k
def Ctx (G : Gt) (U : State) (H : Heap) : Prop := va_K (gD G) vwCl [(gI G, .int), (gZ G, .boolean)] U ∧ (∀ w ∈ NW, va_Nw w U) ∧ (∀ i j, i < NC → j < NC → gA G i = gA G j → i = j) ∧
  (va_Z "AgingLetters$Asks" "SIZE_BODIES" "[I" (.ref (gS G)) (gF G) U H ∧ va_T .int (gS G) 6 (fun j => .int (szB j)) (gF G) U H) ∧
  (va_Z "AgingLetters$Asks" "MARK_BODIES" "[I" (.ref (gM G)) (gF G) U H ∧ va_T .int (gM G) 6 (fun j => .int (mkB j)) (gF G) U H)
theorem Ctx.moved {G : Gt} {s U : State} {locs : List Loc} (h : Ctx G s s.heap) (hW : s.WarmedH U.vm) (hS : va_S (gF G) s.heap U.heap locs) : Ctx G U U.heap :=
  ⟨h.1.moved hW.alike, fun w hw => nest_warm (List.mem_filter.mp hw).2 hW (h.2.1 w hw), h.2.2.1, ⟨(h.2.2.2.1.1.kept hS.2.1).moved hW.alike, (h.2.2.2.1.2.kept hS.2.1).moved hW.alike⟩, ⟨(h.2.2.2.2.1.kept hS.2.1).moved hW.alike, (h.2.2.2.2.2.kept hS.2.1).moved hW.alike⟩⟩
theorem Ctx.same {G : Gt} {s U : State} (h : Ctx G s s.heap) (hW : s.vm = U.vm) (hH : s.heap = U.heap) : Ctx G U U.heap := by
  rw [← hH]
  have ha : s.vm.Alike U.vm := by rw [hW]; exact Vm.Alike.refl _
  exact ⟨h.1.moved ha, fun w hw => nest_same (List.mem_filter.mp hw).2 hW (h.2.1 w hw), h.2.2.1, ⟨h.2.2.2.1.1.moved ha, h.2.2.2.1.2.moved ha⟩, ⟨h.2.2.2.2.1.moved ha, h.2.2.2.2.2.moved ha⟩⟩
theorem Ctx.D {G : Gt} {U : State} {H : Heap} (h : Ctx G U H) (mem : Mem) : va_D (gF G) (cells G mem) := by
  have key : ∀ (k : Nat) (q : Nat × va_E), (cells G mem)[k]? = some q → k < NC ∧ q.1 = gA G k := by
    intro k q hq
    have hk : k < NC := by
      have := (List.getElem?_eq_some_iff.mp hq).1
      simpa [cells] using this
    rw [cells_at hk] at hq
    cases hq
    exact ⟨hk, rfl⟩
  refine ⟨fun i j p q hi hj e => ?_, fun k q hq => ?_⟩
  · obtain ⟨a1, a2⟩ := key i p hi
    obtain ⟨b1, b2⟩ := key j q hj
    exact h.2.2.1 i j a1 b1 (by rw [← a2, ← b2]; exact e)
  · obtain ⟨a1, a2⟩ := key k q hq
    exact ⟨k, a1, a2⟩
def World (G : Gt) (mem : Mem) (U : State) : Prop := va_P (gD G) vwCl (cells G mem) U.heap ∧ Ctx G U U.heap
def rmOf (d : Nat) : Room := { frames := d, cells := 0, slots := 0, locals := 64 * d }
def EQ (G : Gt) (v : Option Value) (m1 : Mem) : Array Value → State → Outcome → State → Prop := fun _ st oc t => (oc = .returned v ∧ World G m1 t) ∧ va_F (gF G) st t
/-- from here (place pc, locals lv, operands st, numbers mem) the method returns v and leaves the numbers m1 -/
def Ev (G : Gt) (cc : ByteArray) (nL : Nat) (ret : Option FieldType) (own : String) (d : Nat) (v : Option Value) (m1 : Mem) (pc : Nat) (lv : List (Nat × Value)) (st : List Value) (mem : Mem) : Prop :=
  ∀ (p : Program) (e : Env) (s : State) (m : MethodId) (args : Array Value) (below : List Frame) (meth : Method) (c : Code) (H : Heap) (locs : List Loc) (ls : Array Slot),
    p.tables.exec = Jvm.exec → c.code = cc → c.maxLocals = nL → meth.sig.returnType = ret → s.vm.findClass own = some m.cls → meth.locks = false → (∀ w ∈ AW, w.before args s = true) → Ctx G s s.heap →
    va_P (gD G) vwCl (cells G mem) H → va_S (gF G) s.heap H locs → lv_has ls nL lv →
    W p (gL G) e (rmOf d) s m args below meth c H locs 0 0 (MQ below (EQ G v m1) args s 0 0 (gF G)) (F0 m pc ls st)
/-- .. what the expression o says, if it says anything -/
def EvR {ρ : Type} (tv : ρ → Option Value) (G : Gt) (cc : ByteArray) (nL : Nat) (ret : Option FieldType) (own : String) (d : Nat) (pc : Nat) (lv : List (Nat × Value)) (st : List Value) (mem : Mem) (o : Option (ρ × Mem)) : Prop :=
  ∀ (r : ρ) (m1 : Mem), o = some (r, m1) → Ev G cc nL ret own d (tv r) m1 pc lv st mem
def tvI (r : Int32) : Option Value := some (.int r)
def tvU (_ : Unit) : Option Value := none
def tvR (G : Gt) (k : Nat) : Option Value := some (.ref (gA G k))
/-- a contract: from the world mem, with the arguments vs, the method does what o says -/
def Con {ρ : Type} (tv : ρ → Option Value) (G : Gt) (y : MethodName) (bytes : ByteArray) (nL : Nat) (ret : Option FieldType) (d : Nat) (vs : List Value) (mem : Mem) (o : Option (ρ × Mem)) : Prop :=
  ∀ (r : ρ) (m1 : Mem), o = some (r, m1) → Met (gL G) y (Cond.code y bytes nL ret :: AW) (rmOf d) (va_Pc vs (World G mem)) (EQ G (tv r) m1) 0 0 (gF G)
-- expressions
def inB (i : Int32) (n : Nat) : Bool := decide (0 ≤ i.toInt) && decide (i.toInt < n)
theorem inB_in {i : Int32} {n : Nat} (h : inB i n = true) : vp_in i n := by
  simp only [inB, Bool.and_eq_true, decide_eq_true_eq] at h
  exact vp_in_iff.mpr h
def ald {α : Type} (mem : Mem) (k : Nat) (i : Int32) (f : Int32 → Option α) : Option α := if inB i (ln k) = true then f (mem k i.toNatClampNeg) else none
def ast {α : Type} (mem : Mem) (k : Nat) (i : Int32) (v : Int32) (f : Mem → Option α) : Option α := if inB i (ln k) = true then f (st2 mem k i.toNatClampNeg v) else none
def sld {α : Type} (g : Nat → Int32) (n : Nat) (i : Int32) (f : Int32 → Option α) : Option α := if inB i n = true then f (g i.toNatClampNeg) else none
def cll {α ρ : Type} (o : Option (ρ × Mem)) (f : ρ → Mem → Option α) : Option α := match o with
  | some r => f r.1 r.2
  | none => none
def chk {α : Type} (c : Prop) [Decidable c] (o : Option α) : Option α := if c then o else none
theorem cll_some {α ρ : Type} {o : Option (ρ × Mem)} {f : ρ → Mem → Option α} {z : α} (h : cll o f = some z) : ∃ r m, o = some (r, m) ∧ f r m = some z := by
  cases o with
  | none => cases h
  | some r => exact ⟨r.1, r.2, rfl, h⟩
/-- a class's facts -/
def CF (ci : Nat) (C : String) (T : u_T) : Prop := vwCl[ci]? = some (C, T, nf ci) ∧ (∀ w ∈ u_ws C T (nf ci), w ∈ AW) ∧ (∃ ty : Nat → FieldType, ∀ k, k < nf ci → parseFieldDescriptor (T k).2.2.1 = some (ty k)) ∧ (∀ a, a < nf ci → ∀ b, b < nf ci → a ≠ b → (T a).2.1 ≠ (T b).2.1)
def FL (own : String) (index : Nat) (ref n d : String) : Prop := Cond.fieldLink own index ref n d ∈ AW ∨ ∃ host, Cond.fieldLinkNest own index ref n d host ∈ NW
def okD (d : Option Nat) (y : MethodName) : Prop := y.cls ≠ "java/lang/invoke/MethodHandle" ∧ y.cls ≠ "java/lang/invoke/VarHandle" ∧ (parseMethodDescriptor y.desc).map (fun d => d.parameters.length) = d
def MTV (y : MethodName) (bytes : ByteArray) (maxL : Nat) (ret : Option FieldType) (n : Nat) : Prop := Cond.code y bytes maxL ret ∈ AW ∧ Cond.instanceMethod y ∈ AW ∧ Cond.selects y.cls y y ∈ AW ∧ Cond.initialized y.cls ∈ AW ∧ okD (some n) y
def MTS (y : MethodName) (bytes : ByteArray) (maxL : Nat) (ret : Option FieldType) (n : Nat) : Prop := Cond.code y bytes maxL ret ∈ AW ∧ Cond.static y ∈ AW ∧ Cond.initialized y.cls ∈ AW ∧ okD (some n) y
section RULES
variable {ρ : Type} {tv : ρ → Option Value} {G : Gt} {cc : ByteArray} {nL : Nat} {ret : Option FieldType} {own : String} {d : Nat} {pc q : Nat} {lv lv2 : List (Nat × Value)} {st : List Value} {mem : Mem} {o o2 : Option (ρ × Mem)}
theorem ev_none : EvR tv G cc nL ret own d pc lv st mem none := fun r m1 h => by cases h
theorem ev_sub {lv' : List (Nat × Value)} (ks : List Nat) (hl : lv_pick lv ks = lv') (k : EvR tv G cc nL ret own d pc lv' st mem o) : EvR tv G cc nL ret own d pc lv st mem o :=
  fun r m1 hv p e s m args below meth c H locs ls hx hb hml hr hown hlk hts hC hP hS hl2 => k r m1 hv p e s m args below meth c H locs ls hx hb hml hr hown hlk hts hC hP hS (lv_sub hl2 ks hl)
theorem ev_chk {c : Prop} [Decidable c] (k : c → EvR tv G cc nL ret own d pc lv st mem o) : EvR tv G cc nL ret own d pc lv st mem (chk c o) := by
  unfold chk
  split
  · exact k (by assumption)
  · exact ev_none
theorem ev_ite {c : Prop} [Decidable c] (k1 : c → EvR tv G cc nL ret own d pc lv st mem o) (k2 : ¬ c → EvR tv G cc nL ret own d pc lv st mem o2) : EvR tv G cc nL ret own d pc lv st mem (if c then o else o2) := by
  split
  · exact k1 (by assumption)
  · exact k2 (by assumption)
theorem ev_iconst {n : Int} {v : Int32} (hd : decode cc pc = .ok (.iconst n, 1)) (hp : pc + 1 = q) (hv0 : Int32.ofInt n = v) (k : EvR tv G cc nL ret own d q lv (.int v :: st) mem o) : EvR tv G cc nL ret own d pc lv st mem o := by
  subst hp
  intro r m1 hv p e s m args below meth c H locs ls hx hb hml hr hown hlk hts hC hP hS hl
  exact lv_iconst hx hb hd hv0 (k r m1 hv p e s m args below meth c H locs ls hx hb hml hr hown hlk hts hC hP hS hl)
theorem ev_bipush {n : Int} {v : Int32} (hd : decode cc pc = .ok (.bipush n, 2)) (hp : pc + 2 = q) (hv0 : (Int8.ofInt n).toInt32 = v) (k : EvR tv G cc nL ret own d q lv (.int v :: st) mem o) : EvR tv G cc nL ret own d pc lv st mem o := by
  subst hp
  intro r m1 hv p e s m args below meth c H locs ls hx hb hml hr hown hlk hts hC hP hS hl
  exact lv_bipush hx hb hd hv0 (k r m1 hv p e s m args below meth c H locs ls hx hb hml hr hown hlk hts hC hP hS hl)
theorem ev_sipush {n : Int} {v : Int32} (hd : decode cc pc = .ok (.sipush n, 3)) (hp : pc + 3 = q) (hv0 : (Int16.ofInt n).toInt32 = v) (k : EvR tv G cc nL ret own d q lv (.int v :: st) mem o) : EvR tv G cc nL ret own d pc lv st mem o := by
  subst hp
  intro r m1 hv p e s m args below meth c H locs ls hx hb hml hr hown hlk hts hC hP hS hl
  exact lv_sipush hx hb hd hv0 (k r m1 hv p e s m args below meth c H locs ls hx hb hml hr hown hlk hts hC hP hS hl)
theorem ev_lconst {n : Fin 2} {v : Int64} (hd : decode cc pc = .ok (.lconst n, 1)) (hp : pc + 1 = q) (hv0 : Int64.ofNat (n : Nat) = v) (k : EvR tv G cc nL ret own d q lv (.long v :: st) mem o) : EvR tv G cc nL ret own d pc lv st mem o := by
  subst hp
  intro r m1 hv p e s m args below meth c H locs ls hx hb hml hr hown hlk hts hC hP hS hl
  exact lv_lconst hx hb hd hv0 (k r m1 hv p e s m args below meth c H locs ls hx hb hml hr hown hlk hts hC hP hS hl)
theorem ev_iadd {x y : Int32} (hd : decode cc pc = .ok (.iadd, 1)) (hp : pc + 1 = q)  (k : EvR tv G cc nL ret own d q lv (.int (x + y) :: st) mem o) : EvR tv G cc nL ret own d pc lv (.int y :: .int x :: st) mem o := by
  subst hp
  intro r m1 hv p e s m args below meth c H locs ls hx hb hml hr hown hlk hts hC hP hS hl
  exact lv_iadd hx hb hd  (k r m1 hv p e s m args below meth c H locs ls hx hb hml hr hown hlk hts hC hP hS hl)
theorem ev_isub {x y : Int32} (hd : decode cc pc = .ok (.isub, 1)) (hp : pc + 1 = q)  (k : EvR tv G cc nL ret own d q lv (.int (x - y) :: st) mem o) : EvR tv G cc nL ret own d pc lv (.int y :: .int x :: st) mem o := by
  subst hp
  intro r m1 hv p e s m args below meth c H locs ls hx hb hml hr hown hlk hts hC hP hS hl
  exact lv_isub hx hb hd  (k r m1 hv p e s m args below meth c H locs ls hx hb hml hr hown hlk hts hC hP hS hl)
theorem ev_imul {x y : Int32} (hd : decode cc pc = .ok (.imul, 1)) (hp : pc + 1 = q)  (k : EvR tv G cc nL ret own d q lv (.int (x * y) :: st) mem o) : EvR tv G cc nL ret own d pc lv (.int y :: .int x :: st) mem o := by
  subst hp
  intro r m1 hv p e s m args below meth c H locs ls hx hb hml hr hown hlk hts hC hP hS hl
  exact lv_imul hx hb hd  (k r m1 hv p e s m args below meth c H locs ls hx hb hml hr hown hlk hts hC hP hS hl)
theorem ev_iand {x y : Int32} (hd : decode cc pc = .ok (.iand, 1)) (hp : pc + 1 = q)  (k : EvR tv G cc nL ret own d q lv (.int (x &&& y) :: st) mem o) : EvR tv G cc nL ret own d pc lv (.int y :: .int x :: st) mem o := by
  subst hp
  intro r m1 hv p e s m args below meth c H locs ls hx hb hml hr hown hlk hts hC hP hS hl
  exact lv_iand hx hb hd  (k r m1 hv p e s m args below meth c H locs ls hx hb hml hr hown hlk hts hC hP hS hl)
theorem ev_ior {x y : Int32} (hd : decode cc pc = .ok (.ior, 1)) (hp : pc + 1 = q)  (k : EvR tv G cc nL ret own d q lv (.int (x ||| y) :: st) mem o) : EvR tv G cc nL ret own d pc lv (.int y :: .int x :: st) mem o := by
  subst hp
  intro r m1 hv p e s m args below meth c H locs ls hx hb hml hr hown hlk hts hC hP hS hl
  exact lv_ior hx hb hd  (k r m1 hv p e s m args below meth c H locs ls hx hb hml hr hown hlk hts hC hP hS hl)
theorem ev_ixor {x y : Int32} (hd : decode cc pc = .ok (.ixor, 1)) (hp : pc + 1 = q)  (k : EvR tv G cc nL ret own d q lv (.int (x ^^^ y) :: st) mem o) : EvR tv G cc nL ret own d pc lv (.int y :: .int x :: st) mem o := by
  subst hp
  intro r m1 hv p e s m args below meth c H locs ls hx hb hml hr hown hlk hts hC hP hS hl
  exact lv_ixor hx hb hd  (k r m1 hv p e s m args below meth c H locs ls hx hb hml hr hown hlk hts hC hP hS hl)
theorem ev_ishl {x y : Int32} (hd : decode cc pc = .ok (.ishl, 1)) (hp : pc + 1 = q)  (k : EvR tv G cc nL ret own d q lv (.int (x <<< (y &&& 31)) :: st) mem o) : EvR tv G cc nL ret own d pc lv (.int y :: .int x :: st) mem o := by
  subst hp
  intro r m1 hv p e s m args below meth c H locs ls hx hb hml hr hown hlk hts hC hP hS hl
  exact lv_ishl hx hb hd  (k r m1 hv p e s m args below meth c H locs ls hx hb hml hr hown hlk hts hC hP hS hl)
theorem ev_ishr {x y : Int32} (hd : decode cc pc = .ok (.ishr, 1)) (hp : pc + 1 = q)  (k : EvR tv G cc nL ret own d q lv (.int (x >>> (y &&& 31)) :: st) mem o) : EvR tv G cc nL ret own d pc lv (.int y :: .int x :: st) mem o := by
  subst hp
  intro r m1 hv p e s m args below meth c H locs ls hx hb hml hr hown hlk hts hC hP hS hl
  exact lv_ishr hx hb hd  (k r m1 hv p e s m args below meth c H locs ls hx hb hml hr hown hlk hts hC hP hS hl)
theorem ev_ineg {x : Int32} (hd : decode cc pc = .ok (.ineg, 1)) (hp : pc + 1 = q)  (k : EvR tv G cc nL ret own d q lv (.int (-x) :: st) mem o) : EvR tv G cc nL ret own d pc lv (.int x :: st) mem o := by
  subst hp
  intro r m1 hv p e s m args below meth c H locs ls hx hb hml hr hown hlk hts hC hP hS hl
  exact lv_ineg hx hb hd  (k r m1 hv p e s m args below meth c H locs ls hx hb hml hr hown hlk hts hC hP hS hl)
theorem ev_iushr {x y v : Int32} (hd : decode cc pc = .ok (.iushr, 1)) (hp : pc + 1 = q) (hv0 : (x.toUInt32 >>> (y.toUInt32 &&& Int32.toUInt32 31)).toInt32 = v) (k : EvR tv G cc nL ret own d q lv (.int v :: st) mem o) : EvR tv G cc nL ret own d pc lv (.int y :: .int x :: st) mem o := by
  subst hp
  intro r m1 hv p e s m args below meth c H locs ls hx hb hml hr hown hlk hts hC hP hS hl
  exact lv_iushr hx hb hd hv0 (k r m1 hv p e s m args below meth c H locs ls hx hb hml hr hown hlk hts hC hP hS hl)
theorem ev_ladd {x y : Int64} (hd : decode cc pc = .ok (.ladd, 1)) (hp : pc + 1 = q)  (k : EvR tv G cc nL ret own d q lv (.long (x + y) :: st) mem o) : EvR tv G cc nL ret own d pc lv (.long y :: .long x :: st) mem o := by
  subst hp
  intro r m1 hv p e s m args below meth c H locs ls hx hb hml hr hown hlk hts hC hP hS hl
  exact lv_ladd hx hb hd  (k r m1 hv p e s m args below meth c H locs ls hx hb hml hr hown hlk hts hC hP hS hl)
theorem ev_lsub {x y : Int64} (hd : decode cc pc = .ok (.lsub, 1)) (hp : pc + 1 = q)  (k : EvR tv G cc nL ret own d q lv (.long (x - y) :: st) mem o) : EvR tv G cc nL ret own d pc lv (.long y :: .long x :: st) mem o := by
  subst hp
  intro r m1 hv p e s m args below meth c H locs ls hx hb hml hr hown hlk hts hC hP hS hl
  exact lv_lsub hx hb hd  (k r m1 hv p e s m args below meth c H locs ls hx hb hml hr hown hlk hts hC hP hS hl)
theorem ev_lmul {x y : Int64} (hd : decode cc pc = .ok (.lmul, 1)) (hp : pc + 1 = q)  (k : EvR tv G cc nL ret own d q lv (.long (x * y) :: st) mem o) : EvR tv G cc nL ret own d pc lv (.long y :: .long x :: st) mem o := by
  subst hp
  intro r m1 hv p e s m args below meth c H locs ls hx hb hml hr hown hlk hts hC hP hS hl
  exact lv_lmul hx hb hd  (k r m1 hv p e s m args below meth c H locs ls hx hb hml hr hown hlk hts hC hP hS hl)
theorem ev_i2l {x : Int32} (hd : decode cc pc = .ok (.i2l, 1)) (hp : pc + 1 = q)  (k : EvR tv G cc nL ret own d q lv (.long x.toInt64 :: st) mem o) : EvR tv G cc nL ret own d pc lv (.int x :: st) mem o := by
  subst hp
  intro r m1 hv p e s m args below meth c H locs ls hx hb hml hr hown hlk hts hC hP hS hl
  exact lv_i2l hx hb hd rfl (k r m1 hv p e s m args below meth c H locs ls hx hb hml hr hown hlk hts hC hP hS hl)
theorem ev_l2i {x : Int64} (hd : decode cc pc = .ok (.l2i, 1)) (hp : pc + 1 = q)  (k : EvR tv G cc nL ret own d q lv (.int x.toInt32 :: st) mem o) : EvR tv G cc nL ret own d pc lv (.long x :: st) mem o := by
  subst hp
  intro r m1 hv p e s m args below meth c H locs ls hx hb hml hr hown hlk hts hC hP hS hl
  exact lv_l2i hx hb hd rfl (k r m1 hv p e s m args below meth c H locs ls hx hb hml hr hown hlk hts hC hP hS hl)
theorem ev_i2b {x : Int32} (hd : decode cc pc = .ok (.i2b, 1)) (hp : pc + 1 = q)  (k : EvR tv G cc nL ret own d q lv (.int x.toInt8.toInt32 :: st) mem o) : EvR tv G cc nL ret own d pc lv (.int x :: st) mem o := by
  subst hp
  intro r m1 hv p e s m args below meth c H locs ls hx hb hml hr hown hlk hts hC hP hS hl
  exact lv_i2b hx hb hd rfl (k r m1 hv p e s m args below meth c H locs ls hx hb hml hr hown hlk hts hC hP hS hl)
theorem ev_i2s {x : Int32} (hd : decode cc pc = .ok (.i2s, 1)) (hp : pc + 1 = q)  (k : EvR tv G cc nL ret own d q lv (.int x.toInt16.toInt32 :: st) mem o) : EvR tv G cc nL ret own d pc lv (.int x :: st) mem o := by
  subst hp
  intro r m1 hv p e s m args below meth c H locs ls hx hb hml hr hown hlk hts hC hP hS hl
  exact lv_i2s hx hb hd rfl (k r m1 hv p e s m args below meth c H locs ls hx hb hml hr hown hlk hts hC hP hS hl)
theorem ev_dup {va : Value} (hd : decode cc pc = .ok (.dup, 1)) (hp : pc + 1 = q) (hva : va.category = 1) (k : EvR tv G cc nL ret own d q lv (va :: va :: st) mem o) : EvR tv G cc nL ret own d pc lv (va :: st) mem o := by
  subst hp
  intro r m1 hv p e s m args below meth c H locs ls hx hb hml hr hown hlk hts hC hP hS hl
  exact lv_dup hx hb hd hva (k r m1 hv p e s m args below meth c H locs ls hx hb hml hr hown hlk hts hC hP hS hl)
theorem ev_dup2_11 {va vb : Value} (hd : decode cc pc = .ok (.dup2, 1)) (hp : pc + 1 = q) (hva : va.category = 1) (hvb : vb.category = 1) (k : EvR tv G cc nL ret own d q lv (va :: vb :: va :: vb :: st) mem o) : EvR tv G cc nL ret own d pc lv (va :: vb :: st) mem o := by
  subst hp
  intro r m1 hv p e s m args below meth c H locs ls hx hb hml hr hown hlk hts hC hP hS hl
  exact lv_dup2_11 hx hb hd hva hvb (k r m1 hv p e s m args below meth c H locs ls hx hb hml hr hown hlk hts hC hP hS hl)
theorem ev_lcmp {x y : Int64} (hd : decode cc pc = .ok (.lcmp, 1)) (hp : pc + 1 = q)  (k : EvR tv G cc nL ret own d q lv (.int (lg_cmp x y) :: st) mem o) : EvR tv G cc nL ret own d pc lv (.long y :: .long x :: st) mem o := by
  subst hp
  intro r m1 hv p e s m args below meth c H locs ls hx hb hml hr hown hlk hts hC hP hS hl
  exact W.lcmp hx hb hd (k r m1 hv p e s m args below meth c H locs ls hx hb hml hr hown hlk hts hC hP hS hl)
theorem ev_idiv {x y : Int32} (hd : decode cc pc = .ok (.idiv, 1)) (hp : pc + 1 = q) (k : EvR tv G cc nL ret own d q lv (.int (x / y) :: st) mem o) : EvR tv G cc nL ret own d pc lv (.int y :: .int x :: st) mem (chk (¬ y = 0) o) := by
  subst hp
  refine ev_chk fun hne => ?_
  intro r m1 hv p e s m args below meth c H locs ls hx hb hml hr hown hlk hts hC hP hS hl
  exact lv_idiv hx hb hd hne (k r m1 hv p e s m args below meth c H locs ls hx hb hml hr hown hlk hts hC hP hS hl)
theorem ev_irem {x y : Int32} (hd : decode cc pc = .ok (.irem, 1)) (hp : pc + 1 = q) (k : EvR tv G cc nL ret own d q lv (.int (x - x / y * y) :: st) mem o) : EvR tv G cc nL ret own d pc lv (.int y :: .int x :: st) mem (chk (¬ y = 0) o) := by
  subst hp
  refine ev_chk fun hne => ?_
  intro r m1 hv p e s m args below meth c H locs ls hx hb hml hr hown hlk hts hC hP hS hl
  exact lv_irem hx hb hd hne (k r m1 hv p e s m args below meth c H locs ls hx hb hml hr hown hlk hts hC hP hS hl)
theorem ev_ldiv {x y : Int64} (hd : decode cc pc = .ok (.ldiv, 1)) (hp : pc + 1 = q) (k : EvR tv G cc nL ret own d q lv (.long (x / y) :: st) mem o) : EvR tv G cc nL ret own d pc lv (.long y :: .long x :: st) mem (chk (¬ y = 0) o) := by
  subst hp
  refine ev_chk fun hne => ?_
  intro r m1 hv p e s m args below meth c H locs ls hx hb hml hr hown hlk hts hC hP hS hl
  exact lv_ldiv hx hb hd hne (k r m1 hv p e s m args below meth c H locs ls hx hb hml hr hown hlk hts hC hP hS hl)
theorem ev_lrem {x y : Int64} (hd : decode cc pc = .ok (.lrem, 1)) (hp : pc + 1 = q) (k : EvR tv G cc nL ret own d q lv (.long (x - x / y * y) :: st) mem o) : EvR tv G cc nL ret own d pc lv (.long y :: .long x :: st) mem (chk (¬ y = 0) o) := by
  subst hp
  refine ev_chk fun hne => ?_
  intro r m1 hv p e s m args below meth c H locs ls hx hb hml hr hown hlk hts hC hP hS hl
  exact lv_lrem hx hb hd hne (k r m1 hv p e s m args below meth c H locs ls hx hb hml hr hown hlk hts hC hP hS hl)
theorem ev_iload_n {n : Fin 4} {i : Nat} {x : Int32} (hd : decode cc pc = .ok (.iload_n n, 1)) (hi : (n : Nat) = i) (j : Nat) (hp : pc + 1 = q) (hj : lv[j]? = some (i, .int x)) (k : EvR tv G cc nL ret own d q lv (.int x :: st) mem o) : EvR tv G cc nL ret own d pc lv st mem o := by
  subst hp
  intro r m1 hv p e s m args below meth c H locs ls hx hb hml hr hown hlk hts hC hP hS hl
  exact lv_iload_n hx hb hd hi (lv_at hl j hj) (k r m1 hv p e s m args below meth c H locs ls hx hb hml hr hown hlk hts hC hP hS hl)
theorem ev_iload {i : Nat} {x : Int32} (hd : decode cc pc = .ok (.iload i, 2)) (j : Nat) (hp : pc + 2 = q) (hj : lv[j]? = some (i, .int x)) (k : EvR tv G cc nL ret own d q lv (.int x :: st) mem o) : EvR tv G cc nL ret own d pc lv st mem o := by
  subst hp
  intro r m1 hv p e s m args below meth c H locs ls hx hb hml hr hown hlk hts hC hP hS hl
  exact lv_iload hx hb hd (lv_at hl j hj) (k r m1 hv p e s m args below meth c H locs ls hx hb hml hr hown hlk hts hC hP hS hl)
theorem ev_lload_n {n : Fin 4} {i : Nat} {x : Int64} (hd : decode cc pc = .ok (.lload_n n, 1)) (hi : (n : Nat) = i) (j : Nat) (hp : pc + 1 = q) (hj : lv[j]? = some (i, .long x)) (k : EvR tv G cc nL ret own d q lv (.long x :: st) mem o) : EvR tv G cc nL ret own d pc lv st mem o := by
  subst hp
  intro r m1 hv p e s m args below meth c H locs ls hx hb hml hr hown hlk hts hC hP hS hl
  exact lv_lload_n hx hb hd hi (lv_at hl j hj) (k r m1 hv p e s m args below meth c H locs ls hx hb hml hr hown hlk hts hC hP hS hl)
theorem ev_lload {i : Nat} {x : Int64} (hd : decode cc pc = .ok (.lload i, 2)) (j : Nat) (hp : pc + 2 = q) (hj : lv[j]? = some (i, .long x)) (k : EvR tv G cc nL ret own d q lv (.long x :: st) mem o) : EvR tv G cc nL ret own d pc lv st mem o := by
  subst hp
  intro r m1 hv p e s m args below meth c H locs ls hx hb hml hr hown hlk hts hC hP hS hl
  exact lv_lload hx hb hd (lv_at hl j hj) (k r m1 hv p e s m args below meth c H locs ls hx hb hml hr hown hlk hts hC hP hS hl)
theorem ev_aload_n {n : Fin 4} {i : Nat} {x : Nat} (hd : decode cc pc = .ok (.aload_n n, 1)) (hi : (n : Nat) = i) (j : Nat) (hp : pc + 1 = q) (hj : lv[j]? = some (i, .ref x)) (k : EvR tv G cc nL ret own d q lv (.ref x :: st) mem o) : EvR tv G cc nL ret own d pc lv st mem o := by
  subst hp
  intro r m1 hv p e s m args below meth c H locs ls hx hb hml hr hown hlk hts hC hP hS hl
  exact lv_aload_n hx hb hd hi (lv_at hl j hj) (k r m1 hv p e s m args below meth c H locs ls hx hb hml hr hown hlk hts hC hP hS hl)
theorem ev_aload {i : Nat} {x : Nat} (hd : decode cc pc = .ok (.aload i, 2)) (j : Nat) (hp : pc + 2 = q) (hj : lv[j]? = some (i, .ref x)) (k : EvR tv G cc nL ret own d q lv (.ref x :: st) mem o) : EvR tv G cc nL ret own d pc lv st mem o := by
  subst hp
  intro r m1 hv p e s m args below meth c H locs ls hx hb hml hr hown hlk hts hC hP hS hl
  exact lv_aload hx hb hd (lv_at hl j hj) (k r m1 hv p e s m args below meth c H locs ls hx hb hml hr hown hlk hts hC hP hS hl)
theorem ev_istore_n {n : Fin 4} {i : Nat} {x : Int32} (hd : decode cc pc = .ok (.istore_n n, 1)) (hi : (n : Nat) = i) (hp : pc + 1 = q) (hn : i < nL) (hf : (i, Value.int x) :: lv.filter (fun q => !(q.1 == i) && !(q.1 + 1 == i && q.2.category == 2)) = lv2) (k : EvR tv G cc nL ret own d q lv2 st mem o) : EvR tv G cc nL ret own d pc lv (.int x :: st) mem o := by
  subst hp
  intro r m1 hv p e s m args below meth c H locs ls hx hb hml hr hown hlk hts hC hP hS hl
  exact lv_istore_n hx hb hd hi hl hn hf (fun ls hl => k r m1 hv p e s m args below meth c H locs ls hx hb hml hr hown hlk hts hC hP hS hl)
theorem ev_istore {i : Nat} {x : Int32} (hd : decode cc pc = .ok (.istore i, 2)) (hp : pc + 2 = q) (hn : i < nL) (hf : (i, Value.int x) :: lv.filter (fun q => !(q.1 == i) && !(q.1 + 1 == i && q.2.category == 2)) = lv2) (k : EvR tv G cc nL ret own d q lv2 st mem o) : EvR tv G cc nL ret own d pc lv (.int x :: st) mem o := by
  subst hp
  intro r m1 hv p e s m args below meth c H locs ls hx hb hml hr hown hlk hts hC hP hS hl
  exact lv_istore hx hb hd hl hn hf (fun ls hl => k r m1 hv p e s m args below meth c H locs ls hx hb hml hr hown hlk hts hC hP hS hl)
theorem ev_lstore_n {n : Fin 4} {i : Nat} {x : Int64} (hd : decode cc pc = .ok (.lstore_n n, 1)) (hi : (n : Nat) = i) (hp : pc + 1 = q) (hn : i + 1 < nL) (hf : (i, Value.long x) :: lv.filter (fun q => !(q.1 == i) && (!(q.1 == i + 1) && !(q.1 + 1 == i && q.2.category == 2))) = lv2) (k : EvR tv G cc nL ret own d q lv2 st mem o) : EvR tv G cc nL ret own d pc lv (.long x :: st) mem o := by
  subst hp
  intro r m1 hv p e s m args below meth c H locs ls hx hb hml hr hown hlk hts hC hP hS hl
  exact lv_lstore_n hx hb hd hi hl hn hf (fun ls hl => k r m1 hv p e s m args below meth c H locs ls hx hb hml hr hown hlk hts hC hP hS hl)
theorem ev_lstore {i : Nat} {x : Int64} (hd : decode cc pc = .ok (.lstore i, 2)) (hp : pc + 2 = q) (hn : i + 1 < nL) (hf : (i, Value.long x) :: lv.filter (fun q => !(q.1 == i) && (!(q.1 == i + 1) && !(q.1 + 1 == i && q.2.category == 2))) = lv2) (k : EvR tv G cc nL ret own d q lv2 st mem o) : EvR tv G cc nL ret own d pc lv (.long x :: st) mem o := by
  subst hp
  intro r m1 hv p e s m args below meth c H locs ls hx hb hml hr hown hlk hts hC hP hS hl
  exact lv_lstore hx hb hd hl hn hf (fun ls hl => k r m1 hv p e s m args below meth c H locs ls hx hb hml hr hown hlk hts hC hP hS hl)
theorem ev_iinc {i : Nat} {n : Int} {x v : Int32} (hd : decode cc pc = .ok (.iinc i n, 3)) (j : Nat) (hp : pc + 3 = q) (hj : lv[j]? = some (i, .int x)) (hv0 : x + Int32.ofInt n = v) (hn : i < nL) (hf : (i, Value.int v) :: lv.filter (fun q => !(q.1 == i) && !(q.1 + 1 == i && q.2.category == 2)) = lv2) (k : EvR tv G cc nL ret own d q lv2 st mem o) : EvR tv G cc nL ret own d pc lv st mem o := by
  subst hp
  intro r m1 hv p e s m args below meth c H locs ls hx hb hml hr hown hlk hts hC hP hS hl
  exact lv_iinc hx hb hd hl hj hv0 hn hf (fun ls hl => k r m1 hv p e s m args below meth c H locs ls hx hb hml hr hown hlk hts hC hP hS hl)
theorem ev_goto {off : Int} {t : Nat} (hd : decode cc pc = .ok (.goto off, 3)) (ht : (pc : Int) + off = (t : Int)) (k : EvR tv G cc nL ret own d t lv st mem o) : EvR tv G cc nL ret own d pc lv st mem o := by
  intro r m1 hv p e s m args below meth c H locs ls hx hb hml hr hown hlk hts hC hP hS hl
  exact lv_goto hx hb hd ht (k r m1 hv p e s m args below meth c H locs ls hx hb hml hr hown hlk hts hC hP hS hl)
theorem ev_if_eq {x : Int32} {off : Int} {t : Nat} (hd : decode cc pc = .ok (.ifCond .eq off, 3)) (ht : (pc : Int) + off = (t : Int)) (hp : pc + 3 = q) (k1 : x = 0 → EvR tv G cc nL ret own d t lv st mem o) (k2 : ¬ (x = 0) → EvR tv G cc nL ret own d q lv st mem o2) : EvR tv G cc nL ret own d pc lv (.int x :: st) mem (if x = 0 then o else o2) := by
  subst hp
  intro r m1 hv p e s m args below meth c H locs ls hx hb hml hr hown hlk hts hC hP hS hl
  exact lv_if_eq hx hb hd ht (fun hc => (k1 hc) r m1 (by rw [if_pos hc] at hv; exact hv) p e s m args below meth c H locs ls hx hb hml hr hown hlk hts hC hP hS hl) (fun hc => (k2 hc) r m1 (by rw [if_neg hc] at hv; exact hv) p e s m args below meth c H locs ls hx hb hml hr hown hlk hts hC hP hS hl)
theorem ev_icmp_eq {x y : Int32} {off : Int} {t : Nat} (hd : decode cc pc = .ok (.if_icmp .eq off, 3)) (ht : (pc : Int) + off = (t : Int)) (hp : pc + 3 = q) (k1 : x = y → EvR tv G cc nL ret own d t lv st mem o) (k2 : ¬ (x = y) → EvR tv G cc nL ret own d q lv st mem o2) : EvR tv G cc nL ret own d pc lv (.int y :: .int x :: st) mem (if x = y then o else o2) := by
  subst hp
  intro r m1 hv p e s m args below meth c H locs ls hx hb hml hr hown hlk hts hC hP hS hl
  exact lv_icmp_eq hx hb hd ht (fun hc => (k1 hc) r m1 (by rw [if_pos hc] at hv; exact hv) p e s m args below meth c H locs ls hx hb hml hr hown hlk hts hC hP hS hl) (fun hc => (k2 hc) r m1 (by rw [if_neg hc] at hv; exact hv) p e s m args below meth c H locs ls hx hb hml hr hown hlk hts hC hP hS hl)
theorem ev_if_ne {x : Int32} {off : Int} {t : Nat} (hd : decode cc pc = .ok (.ifCond .ne off, 3)) (ht : (pc : Int) + off = (t : Int)) (hp : pc + 3 = q) (k2 : x = 0 → EvR tv G cc nL ret own d q lv st mem o2) (k1 : ¬ (x = 0) → EvR tv G cc nL ret own d t lv st mem o) : EvR tv G cc nL ret own d pc lv (.int x :: st) mem (if x = 0 then o2 else o) := by
  subst hp
  intro r m1 hv p e s m args below meth c H locs ls hx hb hml hr hown hlk hts hC hP hS hl
  exact lv_if_ne hx hb hd ht (fun hc => (k1 hc) r m1 (by rw [if_neg hc] at hv; exact hv) p e s m args below meth c H locs ls hx hb hml hr hown hlk hts hC hP hS hl) (fun hc => (k2 hc) r m1 (by rw [if_pos hc] at hv; exact hv) p e s m args below meth c H locs ls hx hb hml hr hown hlk hts hC hP hS hl)
theorem ev_icmp_ne {x y : Int32} {off : Int} {t : Nat} (hd : decode cc pc = .ok (.if_icmp .ne off, 3)) (ht : (pc : Int) + off = (t : Int)) (hp : pc + 3 = q) (k2 : x = y → EvR tv G cc nL ret own d q lv st mem o2) (k1 : ¬ (x = y) → EvR tv G cc nL ret own d t lv st mem o) : EvR tv G cc nL ret own d pc lv (.int y :: .int x :: st) mem (if x = y then o2 else o) := by
  subst hp
  intro r m1 hv p e s m args below meth c H locs ls hx hb hml hr hown hlk hts hC hP hS hl
  exact lv_icmp_ne hx hb hd ht (fun hc => (k1 hc) r m1 (by rw [if_neg hc] at hv; exact hv) p e s m args below meth c H locs ls hx hb hml hr hown hlk hts hC hP hS hl) (fun hc => (k2 hc) r m1 (by rw [if_pos hc] at hv; exact hv) p e s m args below meth c H locs ls hx hb hml hr hown hlk hts hC hP hS hl)
theorem ev_if_lt {x : Int32} {off : Int} {t : Nat} (hd : decode cc pc = .ok (.ifCond .lt off, 3)) (ht : (pc : Int) + off = (t : Int)) (hp : pc + 3 = q) (k1 : x < 0 → EvR tv G cc nL ret own d t lv st mem o) (k2 : ¬ (x < 0) → EvR tv G cc nL ret own d q lv st mem o2) : EvR tv G cc nL ret own d pc lv (.int x :: st) mem (if x < 0 then o else o2) := by
  subst hp
  intro r m1 hv p e s m args below meth c H locs ls hx hb hml hr hown hlk hts hC hP hS hl
  exact lv_if_lt hx hb hd ht (fun hc => (k1 hc) r m1 (by rw [if_pos hc] at hv; exact hv) p e s m args below meth c H locs ls hx hb hml hr hown hlk hts hC hP hS hl) (fun hc => (k2 hc) r m1 (by rw [if_neg hc] at hv; exact hv) p e s m args below meth c H locs ls hx hb hml hr hown hlk hts hC hP hS hl)
theorem ev_icmp_lt {x y : Int32} {off : Int} {t : Nat} (hd : decode cc pc = .ok (.if_icmp .lt off, 3)) (ht : (pc : Int) + off = (t : Int)) (hp : pc + 3 = q) (k1 : x < y → EvR tv G cc nL ret own d t lv st mem o) (k2 : ¬ (x < y) → EvR tv G cc nL ret own d q lv st mem o2) : EvR tv G cc nL ret own d pc lv (.int y :: .int x :: st) mem (if x < y then o else o2) := by
  subst hp
  intro r m1 hv p e s m args below meth c H locs ls hx hb hml hr hown hlk hts hC hP hS hl
  exact lv_icmp_lt hx hb hd ht (fun hc => (k1 hc) r m1 (by rw [if_pos hc] at hv; exact hv) p e s m args below meth c H locs ls hx hb hml hr hown hlk hts hC hP hS hl) (fun hc => (k2 hc) r m1 (by rw [if_neg hc] at hv; exact hv) p e s m args below meth c H locs ls hx hb hml hr hown hlk hts hC hP hS hl)
theorem ev_if_ge {x : Int32} {off : Int} {t : Nat} (hd : decode cc pc = .ok (.ifCond .ge off, 3)) (ht : (pc : Int) + off = (t : Int)) (hp : pc + 3 = q) (k2 : x < 0 → EvR tv G cc nL ret own d q lv st mem o2) (k1 : ¬ (x < 0) → EvR tv G cc nL ret own d t lv st mem o) : EvR tv G cc nL ret own d pc lv (.int x :: st) mem (if x < 0 then o2 else o) := by
  subst hp
  intro r m1 hv p e s m args below meth c H locs ls hx hb hml hr hown hlk hts hC hP hS hl
  exact lv_if_ge hx hb hd ht (fun hc => (k1 (by first | exact Int32.not_lt.mpr hc)) r m1 (by rw [if_neg (by first | exact Int32.not_lt.mpr hc)] at hv; exact hv) p e s m args below meth c H locs ls hx hb hml hr hown hlk hts hC hP hS hl) (fun hc => (k2 (by first | exact Int32.not_le.mp hc)) r m1 (by rw [if_pos (by first | exact Int32.not_le.mp hc)] at hv; exact hv) p e s m args below meth c H locs ls hx hb hml hr hown hlk hts hC hP hS hl)
theorem ev_icmp_ge {x y : Int32} {off : Int} {t : Nat} (hd : decode cc pc = .ok (.if_icmp .ge off, 3)) (ht : (pc : Int) + off = (t : Int)) (hp : pc + 3 = q) (k2 : x < y → EvR tv G cc nL ret own d q lv st mem o2) (k1 : ¬ (x < y) → EvR tv G cc nL ret own d t lv st mem o) : EvR tv G cc nL ret own d pc lv (.int y :: .int x :: st) mem (if x < y then o2 else o) := by
  subst hp
  intro r m1 hv p e s m args below meth c H locs ls hx hb hml hr hown hlk hts hC hP hS hl
  exact lv_icmp_ge hx hb hd ht (fun hc => (k1 (by first | exact Int32.not_lt.mpr hc)) r m1 (by rw [if_neg (by first | exact Int32.not_lt.mpr hc)] at hv; exact hv) p e s m args below meth c H locs ls hx hb hml hr hown hlk hts hC hP hS hl) (fun hc => (k2 (by first | exact Int32.not_le.mp hc)) r m1 (by rw [if_pos (by first | exact Int32.not_le.mp hc)] at hv; exact hv) p e s m args below meth c H locs ls hx hb hml hr hown hlk hts hC hP hS hl)
theorem ev_if_gt {x : Int32} {off : Int} {t : Nat} (hd : decode cc pc = .ok (.ifCond .gt off, 3)) (ht : (pc : Int) + off = (t : Int)) (hp : pc + 3 = q) (k1 : 0 < x → EvR tv G cc nL ret own d t lv st mem o) (k2 : ¬ (0 < x) → EvR tv G cc nL ret own d q lv st mem o2) : EvR tv G cc nL ret own d pc lv (.int x :: st) mem (if 0 < x then o else o2) := by
  subst hp
  intro r m1 hv p e s m args below meth c H locs ls hx hb hml hr hown hlk hts hC hP hS hl
  exact lv_if_gt hx hb hd ht (fun hc => (k1 hc) r m1 (by rw [if_pos hc] at hv; exact hv) p e s m args below meth c H locs ls hx hb hml hr hown hlk hts hC hP hS hl) (fun hc => (k2 hc) r m1 (by rw [if_neg hc] at hv; exact hv) p e s m args below meth c H locs ls hx hb hml hr hown hlk hts hC hP hS hl)
theorem ev_icmp_gt {x y : Int32} {off : Int} {t : Nat} (hd : decode cc pc = .ok (.if_icmp .gt off, 3)) (ht : (pc : Int) + off = (t : Int)) (hp : pc + 3 = q) (k1 : y < x → EvR tv G cc nL ret own d t lv st mem o) (k2 : ¬ (y < x) → EvR tv G cc nL ret own d q lv st mem o2) : EvR tv G cc nL ret own d pc lv (.int y :: .int x :: st) mem (if y < x then o else o2) := by
  subst hp
  intro r m1 hv p e s m args below meth c H locs ls hx hb hml hr hown hlk hts hC hP hS hl
  exact lv_icmp_gt hx hb hd ht (fun hc => (k1 hc) r m1 (by rw [if_pos hc] at hv; exact hv) p e s m args below meth c H locs ls hx hb hml hr hown hlk hts hC hP hS hl) (fun hc => (k2 hc) r m1 (by rw [if_neg hc] at hv; exact hv) p e s m args below meth c H locs ls hx hb hml hr hown hlk hts hC hP hS hl)
theorem ev_if_le {x : Int32} {off : Int} {t : Nat} (hd : decode cc pc = .ok (.ifCond .le off, 3)) (ht : (pc : Int) + off = (t : Int)) (hp : pc + 3 = q) (k2 : 0 < x → EvR tv G cc nL ret own d q lv st mem o2) (k1 : ¬ (0 < x) → EvR tv G cc nL ret own d t lv st mem o) : EvR tv G cc nL ret own d pc lv (.int x :: st) mem (if 0 < x then o2 else o) := by
  subst hp
  intro r m1 hv p e s m args below meth c H locs ls hx hb hml hr hown hlk hts hC hP hS hl
  exact lv_if_le hx hb hd ht (fun hc => (k1 (Int32.not_lt.mpr hc)) r m1 (by rw [if_neg (Int32.not_lt.mpr hc)] at hv; exact hv) p e s m args below meth c H locs ls hx hb hml hr hown hlk hts hC hP hS hl) (fun hc => (k2 (Int32.not_le.mp hc)) r m1 (by rw [if_pos (Int32.not_le.mp hc)] at hv; exact hv) p e s m args below meth c H locs ls hx hb hml hr hown hlk hts hC hP hS hl)
theorem ev_icmp_le {x y : Int32} {off : Int} {t : Nat} (hd : decode cc pc = .ok (.if_icmp .le off, 3)) (ht : (pc : Int) + off = (t : Int)) (hp : pc + 3 = q) (k2 : y < x → EvR tv G cc nL ret own d q lv st mem o2) (k1 : ¬ (y < x) → EvR tv G cc nL ret own d t lv st mem o) : EvR tv G cc nL ret own d pc lv (.int y :: .int x :: st) mem (if y < x then o2 else o) := by
  subst hp
  intro r m1 hv p e s m args below meth c H locs ls hx hb hml hr hown hlk hts hC hP hS hl
  exact lv_icmp_le hx hb hd ht (fun hc => (k1 (Int32.not_lt.mpr hc)) r m1 (by rw [if_neg (Int32.not_lt.mpr hc)] at hv; exact hv) p e s m args below meth c H locs ls hx hb hml hr hown hlk hts hC hP hS hl) (fun hc => (k2 (Int32.not_le.mp hc)) r m1 (by rw [if_pos (Int32.not_le.mp hc)] at hv; exact hv) p e s m args below meth c H locs ls hx hb hml hr hown hlk hts hC hP hS hl)
theorem ev_ldc {index : Nat} {v : Int32} (hd : decode cc pc = .ok (.ldc index, 2)) (hp : pc + 2 = q) (hw : Cond.constant own index v ∈ AW) (k : EvR tv G cc nL ret own d q lv (.int v :: st) mem o) : EvR tv G cc nL ret own d pc lv st mem o := by
  subst hp
  intro r m1 hv p e s m args below meth c H locs ls hx hb hml hr hown hlk hts hC hP hS hl
  exact lv_ldc hx hb hown (hts _ hw) hd (k r m1 hv p e s m args below meth c H locs ls hx hb hml hr hown hlk hts hC hP hS hl)
theorem ev_ldcw {index : Nat} {v : Int32} (hd : decode cc pc = .ok (.ldc_w index, 3)) (hp : pc + 3 = q) (hw : Cond.constant own index v ∈ AW) (k : EvR tv G cc nL ret own d q lv (.int v :: st) mem o) : EvR tv G cc nL ret own d pc lv st mem o := by
  subst hp
  intro r m1 hv p e s m args below meth c H locs ls hx hb hml hr hown hlk hts hC hP hS hl
  exact lv_ldcw hx hb hown (hts _ hw) hd (k r m1 hv p e s m args below meth c H locs ls hx hb hml hr hown hlk hts hC hP hS hl)
theorem ev_ldc2 {index : Nat} {v : Int64} (hd : decode cc pc = .ok (.ldc2_w index, 3)) (hp : pc + 3 = q) (hw : Cond.constantLong own index v ∈ AW) (k : EvR tv G cc nL ret own d q lv (.long v :: st) mem o) : EvR tv G cc nL ret own d pc lv st mem o := by
  subst hp
  intro r m1 hv p e s m args below meth c H locs ls hx hb hml hr hown hlk hts hC hP hS hl
  exact lv_ldc2 hx hb hown (hts _ hw) hd (k r m1 hv p e s m args below meth c H locs ls hx hb hml hr hown hlk hts hC hP hS hl)
-- switches: one arm at a time
theorem ev_tsIn {dflt lo hi : Int} {offs : Array Int} {len : Nat} {x : Int32} {off : Int} {t : Nat} (hd : decode cc pc = .ok (.tableswitch dflt lo hi offs, len)) (h1 : ¬ x.toInt < lo) (h2 : ¬ hi < x.toInt) (ho : offs[(x.toInt - lo).toNat]? = some off) (ht : (pc : Int) + off = (t : Int)) (k : EvR tv G cc nL ret own d t lv st mem o) : EvR tv G cc nL ret own d pc lv (.int x :: st) mem o := by
  intro r m1 hv p e s m args below meth c H locs ls hx hb hml hr hown hlk hts hC hP hS hl
  exact lv_tableIn hx hb hd h1 h2 ho ht (k r m1 hv p e s m args below meth c H locs ls hx hb hml hr hown hlk hts hC hP hS hl)
theorem ev_tsOut {dflt lo hi : Int} {offs : Array Int} {len : Nat} {x : Int32} {t : Nat} (hd : decode cc pc = .ok (.tableswitch dflt lo hi offs, len)) (h : x.toInt < lo ∨ hi < x.toInt) (ht : (pc : Int) + dflt = (t : Int)) (k : EvR tv G cc nL ret own d t lv st mem o) : EvR tv G cc nL ret own d pc lv (.int x :: st) mem o := by
  intro r m1 hv p e s m args below meth c H locs ls hx hb hml hr hown hlk hts hC hP hS hl
  exact lv_tableOut hx hb hd h ht (k r m1 hv p e s m args below meth c H locs ls hx hb hml hr hown hlk hts hC hP hS hl)
theorem ev_look {dflt : Int} {ps : Array (Int × Int)} {len : Nat} {x : Int32} {off : Int} {t : Nat} (hd : decode cc pc = .ok (.lookupswitch dflt ps, len)) (hp : (ps.toList.zip (ps.toList.drop 1)).all (fun (a, next) => a.1 < next.1) = true) (ho : Op.lookupswitch.offset ps.toList dflt x.toInt = off) (ht : (pc : Int) + off = (t : Int)) (k : EvR tv G cc nL ret own d t lv st mem o) : EvR tv G cc nL ret own d pc lv (.int x :: st) mem o := by
  intro r m1 hv p e s m args below meth c H locs ls hx hb hml hr hown hlk hts hC hP hS hl
  exact lv_lookup hx hb hd hp ho ht (k r m1 hv p e s m args below meth c H locs ls hx hb hml hr hown hlk hts hC hP hS hl)
-- fields
theorem ev_getV {index : Nat} {C : String} {T : u_T} {ci k0 j : Nat} {v : Value} (hd : decode cc pc = .ok (.getfield index, 3)) (hp : pc + 3 = q) (F : CF ci C T) (hk : kd k0 = ci) (hj : j < nf ci) (hci : ci < 100) (hL : FL own index (T j).1 (T j).2.1 (T j).2.2.1) (hv0 : fV G k0 (mem k0) j = v) (k : EvR tv G cc nL ret own d q lv (v :: st) mem o) : EvR tv G cc nL ret own d pc lv (.ref (gA G k0) :: st) mem o := by
  subst hp
  intro r m1 hv p e s m args below meth c H locs ls hx hb hml hr hown hlk hts hC hP hS hl
  obtain ⟨hc, hin, -, -⟩ := F
  have he := cells_at (G := G) (mem := mem) (kd_lt hk (by omega))
  rw [cellE_o hk hci] at he
  have hfs := fs_at (G := G) (k := k0) (row := mem k0) hj
  rw [hv0] at hfs
  rcases hL with h | ⟨host, h⟩
  · exact va_get hx hb hts hin hown hC.1 hP k0 he hc j hj (hts _ h) (fun x h => h) hfs hd (k r m1 hv p e s m args below meth c H locs ls hx hb hml hr hown hlk hts hC hP hS hl)
  · exact va_getN hx hb hts hin hown hC.1 hP k0 he hc j hj (va_Nw.use (by first | rfl | decide) (hC.2.1 _ h)) (fun x h => h) hfs hd (k r m1 hv p e s m args below meth c H locs ls hx hb hml hr hown hlk hts hC hP hS hl)
theorem ev_getI {index : Nat} {C : String} {T : u_T} {ci k0 j : Nat} (hd : decode cc pc = .ok (.getfield index, 3)) (hp : pc + 3 = q) (F : CF ci C T) (hk : kd k0 = ci) (hj : j < nf ci) (hci : ci < 100) (hL : FL own index (T j).1 (T j).2.1 (T j).2.2.1) (hi : ir ci j = false) (k : EvR tv G cc nL ret own d q lv (.int (mem k0 j) :: st) mem o) : EvR tv G cc nL ret own d pc lv (.ref (gA G k0) :: st) mem o :=
  ev_getV hd hp F hk hj hci hL (by unfold fV; rw [hk, hi]; rfl) k
theorem ev_getR {index : Nat} {C : String} {T : u_T} {ci k0 j : Nat} (hd : decode cc pc = .ok (.getfield index, 3)) (hp : pc + 3 = q) (F : CF ci C T) (hk : kd k0 = ci) (hj : j < nf ci) (hci : ci < 100) (hL : FL own index (T j).1 (T j).2.1 (T j).2.2.1) (hi : ir ci j = true) (k : EvR tv G cc nL ret own d q lv (.ref (gA G (rf k0 j)) :: st) mem o) : EvR tv G cc nL ret own d pc lv (.ref (gA G k0) :: st) mem o :=
  ev_getV hd hp F hk hj hci hL (by unfold fV; rw [hk, hi]; rfl) k
theorem ev_putV {index : Nat} {C : String} {T : u_T} {ci k0 j : Nat} {x : Int32} {ty : FieldType} (hd : decode cc pc = .ok (.putfield index, 3)) (hp : pc + 3 = q) (F : CF ci C T) (hk : kd k0 = ci) (hj : j < nf ci) (hci : ci < 100) (hL : FL own index (T j).1 (T j).2.1 (T j).2.2.1) (hi : ir ci j = false) (hfin : (T j).2.2.2 = false) (hty : parseFieldDescriptor (T j).2.2.1 = some ty) (hn : narrow ty (.int x) = .int x) (hfit : fits ty (.int x) = true) (k : EvR tv G cc nL ret own d q lv st (st2 mem k0 j x) o) : EvR tv G cc nL ret own d pc lv (.int x :: .ref (gA G k0) :: st) mem o := by
  subst hp
  intro r m1 hv p e s m args below meth c H locs ls hx hb hml hr hown hlk hts hC hP hS hl
  obtain ⟨hc, hin, ⟨ty0, hty0⟩, hnm⟩ := F
  have hlt := kd_lt hk (by omega)
  have he := cells_at (G := G) (mem := mem) hlt
  rw [cellE_o hk hci] at he
  have fin : ∀ (H1 : Heap) (locs1 : List Loc), va_P (gD G) vwCl ((cells G mem).set k0 (gA G k0, .inr (ci, ((List.range (nf ci)).map (fV G k0 (mem k0))).set j (.int x)))) H1 → va_S (gF G) s.heap H1 locs1 → W p (gL G) e (rmOf d) s m args below meth c H1 locs1 0 0 (MQ below (EQ G (tv r) m1) args s 0 0 (gF G)) (F0 m (pc + 3) ls st) := by
    intro H1 locs1 hP1 hS1
    rw [fs_set hk hi, ← cellE_o (G := G) hk hci, cells_set hlt] at hP1
    exact k r m1 hv p e s m args below meth c H1 locs1 ls hx hb hml hr hown hlk hts hC hP1 hS1 hl
  rcases hL with h | ⟨host, h⟩
  · exact va_put hx hb hts hin ty0 hty0 hnm hown hC.1 hP (hC.D mem) hS k0 he hc j hj (hts _ h) (fun x h => h) hfin hty hn hfit (by simp; exact hj) hd (fun H1 locs1 hP1 _ hS1 => fin H1 locs1 hP1 hS1)
  · exact va_putN hx hb hts hin ty0 hty0 hnm hown hC.1 hP (hC.D mem) hS k0 he hc j hj (va_Nw.use (by first | rfl | decide) (hC.2.1 _ h)) (fun x h => h) hfin hty hn hfit (by simp; exact hj) hd (fun H1 locs1 hP1 _ hS1 => fin H1 locs1 hP1 hS1)
theorem ev_putI {index : Nat} {C : String} {T : u_T} {ci k0 j : Nat} {x : Int32} (hd : decode cc pc = .ok (.putfield index, 3)) (hp : pc + 3 = q) (F : CF ci C T) (hk : kd k0 = ci) (hj : j < nf ci) (hci : ci < 100) (hL : FL own index (T j).1 (T j).2.1 (T j).2.2.1) (hi : ir ci j = false) (hfin : (T j).2.2.2 = false) (hty : parseFieldDescriptor (T j).2.2.1 = some .int) (k : EvR tv G cc nL ret own d q lv st (st2 mem k0 j x) o) : EvR tv G cc nL ret own d pc lv (.int x :: .ref (gA G k0) :: st) mem o :=
  ev_putV hd hp F hk hj hci hL hi hfin hty rfl rfl k
theorem bool_fits {x : Int32} (h : x &&& 1 = x) : fits .boolean (.int x) = true := by
  have h2 : x.toBitVec &&& 1#32 = x.toBitVec := congrArg Int32.toBitVec h
  have h3 : x.toBitVec = 0#32 ∨ x.toBitVec = 1#32 := by
    have h4 := congrArg BitVec.toNat h2
    rw [BitVec.toNat_and, show (1#32).toNat = 1 from rfl, Nat.and_one_is_mod] at h4
    rcases (show x.toBitVec.toNat = 0 ∨ x.toBitVec.toNat = 1 by omega) with h5 | h5
    · exact Or.inl (BitVec.eq_of_toNat_eq h5)
    · exact Or.inr (BitVec.eq_of_toNat_eq h5)
  show (x == 0 || x == 1) = true
  rcases h3 with h3 | h3
  · rw [show x = 0 from Int32.toBitVec_inj.mp h3]; rfl
  · rw [show x = 1 from Int32.toBitVec_inj.mp h3]; rfl
theorem ev_putZ {index : Nat} {C : String} {T : u_T} {ci k0 j : Nat} {x : Int32} (hd : decode cc pc = .ok (.putfield index, 3)) (hp : pc + 3 = q) (F : CF ci C T) (hk : kd k0 = ci) (hj : j < nf ci) (hci : ci < 100) (hL : FL own index (T j).1 (T j).2.1 (T j).2.2.1) (hi : ir ci j = false) (hfin : (T j).2.2.2 = false) (hty : parseFieldDescriptor (T j).2.2.1 = some .boolean) (k : EvR tv G cc nL ret own d q lv st (st2 mem k0 j x) o) : EvR tv G cc nL ret own d pc lv (.int x :: .ref (gA G k0) :: st) mem (chk (x &&& 1 = x) o) :=
  ev_chk fun h => ev_putV hd hp F hk hj hci hL hi hfin hty (by show Value.int (x &&& 1) = .int x; rw [h]) (bool_fits h) k
-- rows
theorem ev_iald {k0 : Nat} {i : Int32} {f : Int32 → Option (ρ × Mem)} (hd : decode cc pc = .ok (.iaload, 1)) (hp : pc + 1 = q) (hk : kd k0 = 100) (k : ∀ z : Int32, EvR tv G cc nL ret own d q lv (.int z :: st) mem (f z)) : EvR tv G cc nL ret own d pc lv (.int i :: .ref (gA G k0) :: st) mem (ald mem k0 i f) := by
  subst hp
  intro r m1 hv p e s m args below meth c H locs ls hx hb hml hr hown hlk hts hC hP hS hl
  unfold ald at hv
  split at hv
  · rename_i hin
    have he := cells_at (G := G) (mem := mem) (kd_lt hk (by decide))
    rw [cellE_i hk] at he
    exact va_iald hx hb hC.1 hP k0 0 he rfl (inB_in hin) hd ((k _) r m1 hv p e s m args below meth c H locs ls hx hb hml hr hown hlk hts hC hP hS hl)
  · cases hv
theorem ev_zald {k0 : Nat} {i : Int32} {f : Int32 → Option (ρ × Mem)} (hd : decode cc pc = .ok (.baload, 1)) (hp : pc + 1 = q) (hk : kd k0 = 101) (k : ∀ z : Int32, EvR tv G cc nL ret own d q lv (.int z :: st) mem (f z)) : EvR tv G cc nL ret own d pc lv (.int i :: .ref (gA G k0) :: st) mem (ald mem k0 i f) := by
  subst hp
  intro r m1 hv p e s m args below meth c H locs ls hx hb hml hr hown hlk hts hC hP hS hl
  unfold ald at hv
  split at hv
  · rename_i hin
    have he := cells_at (G := G) (mem := mem) (kd_lt hk (by decide))
    rw [cellE_z hk] at he
    exact va_zald hx hb hC.1 hP k0 1 he rfl (inB_in hin) hd ((k _) r m1 hv p e s m args below meth c H locs ls hx hb hml hr hown hlk hts hC hP hS hl)
  · cases hv
theorem ev_iast {k0 : Nat} {i x : Int32} {f : Mem → Option (ρ × Mem)} (hd : decode cc pc = .ok (.iastore, 1)) (hp : pc + 1 = q) (hk : kd k0 = 100) (k : ∀ m' : Mem, EvR tv G cc nL ret own d q lv st m' (f m')) : EvR tv G cc nL ret own d pc lv (.int x :: .int i :: .ref (gA G k0) :: st) mem (ast mem k0 i x f) := by
  subst hp
  intro r m1 hv p e s m args below meth c H locs ls hx hb hml hr hown hlk hts hC hP hS hl
  unfold ast at hv
  split at hv
  · rename_i hin
    have hlt := kd_lt hk (by decide)
    have he := cells_at (G := G) (mem := mem) hlt
    rw [cellE_i hk] at he
    refine va_iast hx hb hC.1 hP (hC.D mem) hS k0 0 he rfl (inB_in hin) hd fun H1 locs1 hP1 _ hS1 => ?_
    rw [← cellE_i (G := G) hk, cells_set hlt] at hP1
    exact (k _) r m1 hv p e s m args below meth c H1 locs1 ls hx hb hml hr hown hlk hts hC hP1 hS1 hl
  · cases hv
theorem ev_zast {k0 : Nat} {i x : Int32} {f : Mem → Option (ρ × Mem)} (hd : decode cc pc = .ok (.bastore, 1)) (hp : pc + 1 = q) (hk : kd k0 = 101) (k : ∀ m' : Mem, EvR tv G cc nL ret own d q lv st m' (f m')) : EvR tv G cc nL ret own d pc lv (.int x :: .int i :: .ref (gA G k0) :: st) mem (ast mem k0 i (vp_nar .boolean x) f) := by
  subst hp
  intro r m1 hv p e s m args below meth c H locs ls hx hb hml hr hown hlk hts hC hP hS hl
  unfold ast at hv
  split at hv
  · rename_i hin
    have hlt := kd_lt hk (by decide)
    have he := cells_at (G := G) (mem := mem) hlt
    rw [cellE_z hk] at he
    refine va_zast hx hb hC.1 hP (hC.D mem) hS k0 1 he rfl (inB_in hin) hd fun H1 locs1 hP1 _ hS1 => ?_
    rw [← cellE_z (G := G) hk, cells_set hlt] at hP1
    exact (k _) r m1 hv p e s m args below meth c H1 locs1 ls hx hb hml hr hown hlk hts hC hP1 hS1 hl
  · cases hv
theorem ev_alen {k0 : Nat} (hd : decode cc pc = .ok (.arraylength, 1)) (hp : pc + 1 = q) (hk : kd k0 = 100) (k : EvR tv G cc nL ret own d q lv (.int (Int32.ofNat (ln k0)) :: st) mem o) : EvR tv G cc nL ret own d pc lv (.ref (gA G k0) :: st) mem o := by
  subst hp
  intro r m1 hv p e s m args below meth c H locs ls hx hb hml hr hown hlk hts hC hP hS hl
  have he := cells_at (G := G) (mem := mem) (kd_lt hk (by decide))
  rw [cellE_i hk] at he
  exact va_alen hx hb hC.1 hP k0 0 he rfl rfl hd (k r m1 hv p e s m args below meth c H locs ls hx hb hml hr hown hlk hts hC hP hS hl)
-- ends
theorem ev_iret {v : Int32} (hd : decode cc pc = .ok (.ireturn, 1)) (hr0 : ret = some .int) : EvR tvI G cc nL ret own d pc lv [.int v] mem (some (v, mem)) := by
  intro r m1 hv p e s m args below meth c H locs ls hx hb hml hr hown hlk hts hC hP hS hl
  cases hv
  exact W.iret hx hb (hr.trans hr0) (fun t ht hW => ⟨⟨rfl, ⟨by rw [ht]; exact hP, hC.moved hW (locs := locs) (by rw [ht]; exact hS)⟩⟩, hS.F ht⟩) hS.2.2 hd
theorem ev_zret {v : Int32} (hd : decode cc pc = .ok (.ireturn, 1)) (hr0 : ret = some .boolean) : EvR tvI G cc nL ret own d pc lv [.int v] mem (chk (v &&& 1 = v) (some (v, mem))) := by
  refine ev_chk fun hn => ?_
  intro r m1 hv p e s m args below meth c H locs ls hx hb hml hr hown hlk hts hC hP hS hl
  cases hv
  exact W.zret hx hb (hr.trans hr0) (by show Value.int (v &&& 1) = .int v; rw [hn]) (fun t ht hW => ⟨⟨rfl, ⟨by rw [ht]; exact hP, hC.moved hW (locs := locs) (by rw [ht]; exact hS)⟩⟩, hS.F ht⟩) hS.2.2 hd
theorem ev_vret (hd : decode cc pc = .ok (.return_, 1)) (hr0 : ret = none) : EvR tvU G cc nL ret own d pc lv [] mem (some ((), mem)) := by
  intro r m1 hv p e s m args below meth c H locs ls hx hb hml hr hown hlk hts hC hP hS hl
  cases hv
  exact W.vret hx hb (hr.trans hr0) (fun t ht hW => ⟨⟨rfl, ⟨by rw [ht]; exact hP, hC.moved hW (locs := locs) (by rw [ht]; exact hS)⟩⟩, hS.F ht⟩) hS.2.2 hd
theorem ev_aret {k0 : Nat} {C : String} (hd : decode cc pc = .ok (.areturn, 1)) (hr0 : ret = some (.object C)) : EvR (tvR G) G cc nL ret own d pc lv [.ref (gA G k0)] mem (some (k0, mem)) := by
  intro r m1 hv p e s m args below meth c H locs ls hx hb hml hr hown hlk hts hC hP hS hl
  cases hv
  exact W.aret hx hb (hr.trans hr0) (Or.inl ⟨_, rfl⟩) (Or.inr ⟨_, rfl⟩) (fun t ht hW => ⟨⟨rfl, ⟨by rw [ht]; exact hP, hC.moved hW (locs := locs) (by rw [ht]; exact hS)⟩⟩, hS.F ht⟩) hS.2.2 hd
-- static rows
theorem ev_gets {index t : Nat} {C n dsc : String} (hd : decode cc pc = .ok (.getstatic index, 3)) (hp : pc + 3 = q) (hL : Cond.fieldLink own index C n dsc ∈ AW) (hZ : ∀ U H, Ctx G U H → va_Z C n dsc (.ref t) (gF G) U H) (k : EvR tv G cc nL ret own d q lv (.ref t :: st) mem o) : EvR tv G cc nL ret own d pc lv st mem o := by
  subst hp
  intro r m1 hv p e s m args below meth c H locs ls hx hb hml hr hown hlk hts hC hP hS hl
  exact va_gets hx hb (hZ _ _ hC) hS hown (hts _ hL) (fun x h => h) hd (k r m1 hv p e s m args below meth c H locs ls hx hb hml hr hown hlk hts hC hP hS hl)
theorem ev_tld {t n : Nat} {g : Nat → Int32} {i : Int32} {f : Int32 → Option (ρ × Mem)} (hd : decode cc pc = .ok (.iaload, 1)) (hp : pc + 1 = q) (hT : ∀ U H, Ctx G U H → va_T .int t n (fun j => .int (g j)) (gF G) U H) (k : ∀ z : Int32, EvR tv G cc nL ret own d q lv (.int z :: st) mem (f z)) : EvR tv G cc nL ret own d pc lv (.int i :: .ref t :: st) mem (sld g n i f) := by
  subst hp
  intro r m1 hv p e s m args below meth c H locs ls hx hb hml hr hown hlk hts hC hP hS hl
  unfold sld at hv
  split at hv
  · rename_i hin
    obtain ⟨cell, h1, h2, h3, h4, h5, h6, h7⟩ := (hT _ _ hC).kept hS.2.1
    have hin2 := inB_in hin
    have hlt : i.toNatClampNeg < n := Nat.not_le.mp fun q => hin2 (Or.inr q)
    refine W.iald (v := .int (g i.toNatClampNeg)) hx hb h1 h2 h3 (fun z => ?_) (h6 _ hlt) rfl rfl hd ((k _) r m1 hv p e s m args below meth c H locs ls hx hb hml hr hown hlk hts hC hP hS hl)
    rcases z with z | z
    · exact hin2 (Or.inl z)
    · exact hin2 (Or.inr (Nat.le_trans h4 z))
  · cases hv
end RULES
section CALLS
variable {ρ : Type} {tv : ρ → Option Value} {G : Gt} {cc : ByteArray} {nL : Nat} {ret : Option FieldType} {own : String} {d : Nat} {pc q : Nat} {lv lv2 : List (Nat × Value)} {st stk : List Value} {mem : Mem} {o : Option (ρ × Mem)}
variable {ρ2 : Type} {tv2 : ρ2 → Option Value} {y : MethodName} {bytes : ByteArray} {maxL : Nat} {ret2 : Option FieldType} {d2 n index : Nat} {As vs : List Value} {o2 : Option (ρ2 × Mem)} {f : ρ2 → Mem → Option (ρ × Mem)}
theorem con_of (hy : plainName y.cls = true) (hn : (lg_sl vs).length ≤ nL) (h : EvR tv G cc nL ret y.cls d 0 (lv_args 0 vs) [] mem o) : Con tv G y cc nL ret d vs mem o := by
  intro r m1 hv
  refine Met.ofW (cc := cc) (maxL := nL) (ret := ret) hy rfl ?_
  intro p e s m args below meth c s₁ B hml hpc
  obtain ⟨rfl, hP, hC⟩ := hpc
  have hts0 := atoms_spec (ws := Cond.code y cc nL ret :: AW) B.pre
  have hl := lv_entry vs (n := nL) hn
  rw [lg_entry_eq]
  generalize (lg_sl vs ++ List.replicate (nL - (lg_sl vs).length) Slot.unset).toArray = ls at hl ⊢
  exact h r m1 hv p e s m _ below meth c s.heap [] ls B.exec B.bytes hml B.returns (findClass_of_methodNamed B.named) B.notSynchronized (fun w hw => hts0 w (List.mem_cons_of_mem _ hw)) hC hP va_S.rf hl
theorem pc_blind : FrameBlind (va_Pc vs (World G mem)) := fun a U g mk h => ⟨h.1, h.2.1, h.2.2.same rfl rfl⟩
theorem pc_pre {s : State} {H : Heap} {locs : List Loc} (hC : Ctx G s s.heap) (hP : va_P (gD G) vwCl (cells G mem) H) (hS : va_S (gF G) s.heap H locs) : ∀ U : State, U.heap = H → s.WarmedH U.vm → va_Pc vs (World G mem) vs.toArray U := fun U hU hW => ⟨rfl, by rw [hU]; exact hP, hC.moved hW (locs := locs) (by rw [hU]; exact hS)⟩
theorem ev_run (hp : pc + 3 = q) {As2 : Array Value}
    (hrun : ∀ (r2 : ρ2) (m2 : Mem), o2 = some (r2, m2) → ∀ (p : Program) (e : Env) (s : State) (m : MethodId) (args : Array Value) (below : List Frame) (meth : Method) (c : Code) (H : Heap) (locs : List Loc) (ls : Array Slot),
      p.tables.exec = Jvm.exec → c.code = cc → c.maxLocals = nL → s.vm.findClass own = some m.cls → (∀ w ∈ AW, w.before args s = true) → Ctx G s s.heap → va_P (gD G) vwCl (cells G mem) H → va_S (gF G) s.heap H locs → lv_has ls nL lv →
      va_Run p (gL G) e (rmOf d) s m args below meth c H locs 0 0 0 0 (F0 m pc ls stk) st (EQ G (tv2 r2) m2 As2) (gF G))
    (k : ∀ (r2 : ρ2) (m2 : Mem), EvR tv G cc nL ret own d q lv ((tv2 r2).toList ++ st) m2 (f r2 m2)) : EvR tv G cc nL ret own d pc lv stk mem (cll o2 f) := by
  subst hp
  intro r m1 hv p e s m args below meth c H locs ls hx hb hml hr hown hlk hts hC hP hS hl
  obtain ⟨r2, m2, e2, e3⟩ := cll_some hv
  have hR := hrun r2 m2 e2 p e s m args below meth c H locs ls hx hb hml hown hts hC hP hS hl
  intro T hT X
  obtain ⟨v, st₀, t, T', L, h0, X', hL, e1, e4, ⟨⟨hvv, hW⟩, hz, hk⟩, go⟩ := hR T hT X
  cases hvv
  rw [h0] at hz hk
  have hS1 : va_S (gF G) s.heap T'.heap (locs ++ L) := ⟨Nat.le_trans hS.1 (by rw [e1]; exact hz), fun q h1 h2 => by rw [e1, hk q (Nat.lt_of_lt_of_le h1 hS.1) h2]; exact hS.2.1 q h1 h2, fun q hq => by
      rcases List.mem_append.mp hq with h | h
      · exact hS.2.2 q h
      · exact hL q h⟩
  obtain ⟨t2, a1, b1⟩ := k r2 m2 r m1 e3 p e s m args below meth c T'.heap (locs ++ L) ls hx hb hml hr hown hlk hts hC (by rw [e1]; exact hW.1) hS1 hl T' rfl X'
  exact ⟨t2, go t2 a1, b1⟩
theorem ev_callV {C : String} {T : u_T} {ci b : Nat} (hd : decode cc pc = .ok (.invokevirtual index, 3)) (hp : pc + 3 = q) (hL : Cond.methodLink own index y ∈ AW) (hM : MTV y bytes maxL ret2 n) (F : CF ci C T) (hC0 : y.cls = C) (hk : kd b = ci) (hci : ci < 100) (hc : Con tv2 G y bytes maxL ret2 d2 (.ref (gA G b) :: As) mem o2) (hn : As.length = n) (hdd : d2 + 1 ≤ d) (hmx : maxL ≤ 40) (hst : stk = As.reverse ++ .ref (gA G b) :: st) (hcat : (st.map fun v => v.category).sum ≤ 8)
    (k : ∀ (r2 : ρ2) (m2 : Mem), EvR tv G cc nL ret own d q lv ((tv2 r2).toList ++ st) m2 (f r2 m2)) : EvR tv G cc nL ret own d pc lv stk mem (cll o2 f) := by
  refine ev_run hp (As2 := (Value.ref (gA G b) :: As).toArray) (fun r2 m2 e2 p e s m args below meth c H locs ls hx hb hml hown hts hC hP hS hl => ?_) k
  subst hC0
  obtain ⟨hc0, -⟩ := F
  obtain ⟨w1, w2, w3, w4, w5⟩ := hM
  have he := cells_at (G := G) (mem := mem) (kd_lt hk (by omega))
  rw [cellE_o hk hci] at he
  refine va_runV (As := As) (rest := st) (n := n) (C := y.cls) ⟨hx, hb, hml, hown, hts⟩ (hc r2 m2 e2) (cwV n hts (goodAW fun w hw => ?_) rfl rfl rfl ⟨rfl, w5⟩ ⟨hdd, ?_⟩) ⟨pc_blind, va_recv hC.1 hP hc0 he, pc_pre hC hP hS⟩ rfl hn hl.1 hst (lv_room hcat) hd ⟨Nat.zero_le _, Nat.zero_le _⟩
  · simp only [wsV, List.cons_append, List.nil_append, List.mem_cons] at hw
    rcases hw with rfl | rfl | rfl | rfl | rfl | hw
    · exact hL
    · exact w2
    · exact w3
    · exact w4
    · exact w1
    · exact hw
  · show 8 + (maxL + 11) + 64 * d2 ≤ 64 * d
    omega
theorem ev_callVN {C : String} {T : u_T} {ci b : Nat} {host : String} (hd : decode cc pc = .ok (.invokevirtual index, 3)) (hp : pc + 3 = q) (hL : Cond.methodLinkNest own index y host ∈ NW) (hM : MTV y bytes maxL ret2 n) (F : CF ci C T) (hC0 : y.cls = C) (hk : kd b = ci) (hci : ci < 100) (hc : Con tv2 G y bytes maxL ret2 d2 (.ref (gA G b) :: As) mem o2) (hn : As.length = n) (hdd : d2 + 1 ≤ d) (hmx : maxL ≤ 40) (hst : stk = As.reverse ++ .ref (gA G b) :: st) (hcat : (st.map fun v => v.category).sum ≤ 8)
    (k : ∀ (r2 : ρ2) (m2 : Mem), EvR tv G cc nL ret own d q lv ((tv2 r2).toList ++ st) m2 (f r2 m2)) : EvR tv G cc nL ret own d pc lv stk mem (cll o2 f) := by
  refine ev_run hp (As2 := (Value.ref (gA G b) :: As).toArray) (fun r2 m2 e2 p e s m args below meth c H locs ls hx hb hml hown hts hC hP hS hl => ?_) k
  subst hC0
  obtain ⟨hc0, -⟩ := F
  obtain ⟨w1, w2, w3, w4, w5⟩ := hM
  have he := cells_at (G := G) (mem := mem) (kd_lt hk (by omega))
  rw [cellE_o hk hci] at he
  refine va_runVN (As := As) (rest := st) (n := n) (C := y.cls) ⟨hx, hb, hml, hown, hts⟩ (hc r2 m2 e2) ⟨va_cnB n hts (goodAW fun w hw => ?_) rfl rfl rfl (hC.2.1 _ hL) (hts _ w4) w5 ⟨hdd, ?_⟩, hts _ w2, hts _ w3⟩ ⟨pc_blind, va_recv hC.1 hP hc0 he, pc_pre hC hP hS⟩ rfl hn hl.1 hst (lv_room hcat) hd ⟨Nat.zero_le _, Nat.zero_le _⟩
  · rcases List.mem_cons.mp hw with rfl | hw
    · exact w1
    · exact hw
  · show 8 + (maxL + 11) + 64 * d2 ≤ 64 * d
    omega
theorem ev_callS (hd : decode cc pc = .ok (.invokestatic index, 3)) (hp : pc + 3 = q) (hL : Cond.methodLink own index y ∈ AW) (hM : MTS y bytes maxL ret2 n) (hc : Con tv2 G y bytes maxL ret2 d2 As mem o2) (hn : As.length = n) (hdd : d2 + 1 ≤ d) (hmx : maxL ≤ 40) (hst : stk = As.reverse ++ st) (hcat : (st.map fun v => v.category).sum ≤ 8)
    (k : ∀ (r2 : ρ2) (m2 : Mem), EvR tv G cc nL ret own d q lv ((tv2 r2).toList ++ st) m2 (f r2 m2)) : EvR tv G cc nL ret own d pc lv stk mem (cll o2 f) := by
  refine ev_run hp (As2 := As.toArray) (fun r2 m2 e2 p e s m args below meth c H locs ls hx hb hml hown hts hC hP hS hl => ?_) k
  obtain ⟨w1, w2, w4, w5⟩ := hM
  refine va_runS (As := As) (rest := st) (n := n) ⟨hx, hb, hml, hown, hts⟩ (hc r2 m2 e2) (va_cwS n hts (goodAW fun w hw => ?_) rfl rfl rfl w5 ⟨hdd, ?_⟩) ⟨pc_blind, pc_pre hC hP hS⟩ rfl hn hl.1 hst (lv_room hcat) hd ⟨Nat.zero_le _, Nat.zero_le _⟩
  · simp only [va_wsS, List.cons_append, List.nil_append, List.mem_cons] at hw
    rcases hw with rfl | rfl | rfl | rfl | hw
    · exact hL
    · exact w2
    · exact w4
    · exact w1
    · exact hw
  · show 8 + (maxL + 11) + 64 * d2 ≤ 64 * d
    omega
theorem ev_callSN {host : String} (hd : decode cc pc = .ok (.invokestatic index, 3)) (hp : pc + 3 = q) (hL : Cond.methodLinkNest own index y host ∈ NW) (hM : MTS y bytes maxL ret2 n) (hc : Con tv2 G y bytes maxL ret2 d2 As mem o2) (hn : As.length = n) (hdd : d2 + 1 ≤ d) (hmx : maxL ≤ 40) (hst : stk = As.reverse ++ st) (hcat : (st.map fun v => v.category).sum ≤ 8)
    (k : ∀ (r2 : ρ2) (m2 : Mem), EvR tv G cc nL ret own d q lv ((tv2 r2).toList ++ st) m2 (f r2 m2)) : EvR tv G cc nL ret own d pc lv stk mem (cll o2 f) := by
  refine ev_run hp (As2 := As.toArray) (fun r2 m2 e2 p e s m args below meth c H locs ls hx hb hml hown hts hC hP hS hl => ?_) k
  obtain ⟨w1, w2, w4, w5⟩ := hM
  refine va_runSN (As := As) (rest := st) (n := n) ⟨hx, hb, hml, hown, hts⟩ (hc r2 m2 e2) ⟨va_cnB n hts (goodAW fun w hw => ?_) rfl rfl rfl (hC.2.1 _ hL) (hts _ w4) w5 ⟨hdd, ?_⟩, hts _ w2, trivial⟩ ⟨pc_blind, pc_pre hC hP hS⟩ rfl hn hl.1 hst (lv_room hcat) hd ⟨Nat.zero_le _, Nat.zero_le _⟩
  · rcases List.mem_cons.mp hw with rfl | hw
    · exact w1
    · exact hw
  · show 8 + (maxL + 11) + 64 * d2 ≤ 64 * d
    omega
theorem ev_callVI {o2 : Option (Int32 × Mem)} {f : Int32 → Mem → Option (ρ × Mem)} {C : String} {T : u_T} {ci b : Nat} (hd : decode cc pc = .ok (.invokevirtual index, 3)) (hp : pc + 3 = q) (hL : Cond.methodLink own index y ∈ AW) (hM : MTV y bytes maxL ret2 n) (F : CF ci C T) (hC0 : y.cls = C) (hk : kd b = ci) (hci : ci < 100) (hc : Con tvI G y bytes maxL ret2 d2 (.ref (gA G b) :: As) mem o2) (hn : As.length = n) (hdd : d2 + 1 ≤ d) (hmx : maxL ≤ 40) (hst : stk = As.reverse ++ .ref (gA G b) :: st) (hcat : (st.map fun v => v.category).sum ≤ 8)
    (k : ∀ (r2 : Int32) (m2 : Mem), EvR tv G cc nL ret own d q lv (.int r2 :: st) m2 (f r2 m2)) : EvR tv G cc nL ret own d pc lv stk mem (cll o2 f) := ev_callV hd hp hL hM F hC0 hk hci hc hn hdd hmx hst hcat k
theorem ev_callVU {o2 : Option (Unit × Mem)} {f : Unit → Mem → Option (ρ × Mem)} {C : String} {T : u_T} {ci b : Nat} (hd : decode cc pc = .ok (.invokevirtual index, 3)) (hp : pc + 3 = q) (hL : Cond.methodLink own index y ∈ AW) (hM : MTV y bytes maxL ret2 n) (F : CF ci C T) (hC0 : y.cls = C) (hk : kd b = ci) (hci : ci < 100) (hc : Con tvU G y bytes maxL ret2 d2 (.ref (gA G b) :: As) mem o2) (hn : As.length = n) (hdd : d2 + 1 ≤ d) (hmx : maxL ≤ 40) (hst : stk = As.reverse ++ .ref (gA G b) :: st) (hcat : (st.map fun v => v.category).sum ≤ 8)
    (k : ∀ (r2 : Unit) (m2 : Mem), EvR tv G cc nL ret own d q lv st m2 (f r2 m2)) : EvR tv G cc nL ret own d pc lv stk mem (cll o2 f) := ev_callV hd hp hL hM F hC0 hk hci hc hn hdd hmx hst hcat k
theorem ev_callVR {o2 : Option (Nat × Mem)} {f : Nat → Mem → Option (ρ × Mem)} {C : String} {T : u_T} {ci b : Nat} (hd : decode cc pc = .ok (.invokevirtual index, 3)) (hp : pc + 3 = q) (hL : Cond.methodLink own index y ∈ AW) (hM : MTV y bytes maxL ret2 n) (F : CF ci C T) (hC0 : y.cls = C) (hk : kd b = ci) (hci : ci < 100) (hc : Con (tvR G) G y bytes maxL ret2 d2 (.ref (gA G b) :: As) mem o2) (hn : As.length = n) (hdd : d2 + 1 ≤ d) (hmx : maxL ≤ 40) (hst : stk = As.reverse ++ .ref (gA G b) :: st) (hcat : (st.map fun v => v.category).sum ≤ 8)
    (k : ∀ (r2 : Nat) (m2 : Mem), EvR tv G cc nL ret own d q lv (.ref (gA G r2) :: st) m2 (f r2 m2)) : EvR tv G cc nL ret own d pc lv stk mem (cll o2 f) := ev_callV hd hp hL hM F hC0 hk hci hc hn hdd hmx hst hcat k
theorem ev_callVNI {o2 : Option (Int32 × Mem)} {f : Int32 → Mem → Option (ρ × Mem)} {C : String} {T : u_T} {ci b : Nat} {host : String} (hd : decode cc pc = .ok (.invokevirtual index, 3)) (hp : pc + 3 = q) (hL : Cond.methodLinkNest own index y host ∈ NW) (hM : MTV y bytes maxL ret2 n) (F : CF ci C T) (hC0 : y.cls = C) (hk : kd b = ci) (hci : ci < 100) (hc : Con tvI G y bytes maxL ret2 d2 (.ref (gA G b) :: As) mem o2) (hn : As.length = n) (hdd : d2 + 1 ≤ d) (hmx : maxL ≤ 40) (hst : stk = As.reverse ++ .ref (gA G b) :: st) (hcat : (st.map fun v => v.category).sum ≤ 8)
    (k : ∀ (r2 : Int32) (m2 : Mem), EvR tv G cc nL ret own d q lv (.int r2 :: st) m2 (f r2 m2)) : EvR tv G cc nL ret own d pc lv stk mem (cll o2 f) := ev_callVN hd hp hL hM F hC0 hk hci hc hn hdd hmx hst hcat k
theorem ev_callVNU {o2 : Option (Unit × Mem)} {f : Unit → Mem → Option (ρ × Mem)} {C : String} {T : u_T} {ci b : Nat} {host : String} (hd : decode cc pc = .ok (.invokevirtual index, 3)) (hp : pc + 3 = q) (hL : Cond.methodLinkNest own index y host ∈ NW) (hM : MTV y bytes maxL ret2 n) (F : CF ci C T) (hC0 : y.cls = C) (hk : kd b = ci) (hci : ci < 100) (hc : Con tvU G y bytes maxL ret2 d2 (.ref (gA G b) :: As) mem o2) (hn : As.length = n) (hdd : d2 + 1 ≤ d) (hmx : maxL ≤ 40) (hst : stk = As.reverse ++ .ref (gA G b) :: st) (hcat : (st.map fun v => v.category).sum ≤ 8)
    (k : ∀ (r2 : Unit) (m2 : Mem), EvR tv G cc nL ret own d q lv st m2 (f r2 m2)) : EvR tv G cc nL ret own d pc lv stk mem (cll o2 f) := ev_callVN hd hp hL hM F hC0 hk hci hc hn hdd hmx hst hcat k
theorem ev_callVNR {o2 : Option (Nat × Mem)} {f : Nat → Mem → Option (ρ × Mem)} {C : String} {T : u_T} {ci b : Nat} {host : String} (hd : decode cc pc = .ok (.invokevirtual index, 3)) (hp : pc + 3 = q) (hL : Cond.methodLinkNest own index y host ∈ NW) (hM : MTV y bytes maxL ret2 n) (F : CF ci C T) (hC0 : y.cls = C) (hk : kd b = ci) (hci : ci < 100) (hc : Con (tvR G) G y bytes maxL ret2 d2 (.ref (gA G b) :: As) mem o2) (hn : As.length = n) (hdd : d2 + 1 ≤ d) (hmx : maxL ≤ 40) (hst : stk = As.reverse ++ .ref (gA G b) :: st) (hcat : (st.map fun v => v.category).sum ≤ 8)
    (k : ∀ (r2 : Nat) (m2 : Mem), EvR tv G cc nL ret own d q lv (.ref (gA G r2) :: st) m2 (f r2 m2)) : EvR tv G cc nL ret own d pc lv stk mem (cll o2 f) := ev_callVN hd hp hL hM F hC0 hk hci hc hn hdd hmx hst hcat k
theorem ev_callSI {o2 : Option (Int32 × Mem)} {f : Int32 → Mem → Option (ρ × Mem)} (hd : decode cc pc = .ok (.invokestatic index, 3)) (hp : pc + 3 = q) (hL : Cond.methodLink own index y ∈ AW) (hM : MTS y bytes maxL ret2 n) (hc : Con tvI G y bytes maxL ret2 d2 As mem o2) (hn : As.length = n) (hdd : d2 + 1 ≤ d) (hmx : maxL ≤ 40) (hst : stk = As.reverse ++ st) (hcat : (st.map fun v => v.category).sum ≤ 8)
    (k : ∀ (r2 : Int32) (m2 : Mem), EvR tv G cc nL ret own d q lv (.int r2 :: st) m2 (f r2 m2)) : EvR tv G cc nL ret own d pc lv stk mem (cll o2 f) := ev_callS hd hp hL hM hc hn hdd hmx hst hcat k
theorem ev_callSU {o2 : Option (Unit × Mem)} {f : Unit → Mem → Option (ρ × Mem)} (hd : decode cc pc = .ok (.invokestatic index, 3)) (hp : pc + 3 = q) (hL : Cond.methodLink own index y ∈ AW) (hM : MTS y bytes maxL ret2 n) (hc : Con tvU G y bytes maxL ret2 d2 As mem o2) (hn : As.length = n) (hdd : d2 + 1 ≤ d) (hmx : maxL ≤ 40) (hst : stk = As.reverse ++ st) (hcat : (st.map fun v => v.category).sum ≤ 8)
    (k : ∀ (r2 : Unit) (m2 : Mem), EvR tv G cc nL ret own d q lv st m2 (f r2 m2)) : EvR tv G cc nL ret own d pc lv stk mem (cll o2 f) := ev_callS hd hp hL hM hc hn hdd hmx hst hcat k
theorem ev_callSR {o2 : Option (Nat × Mem)} {f : Nat → Mem → Option (ρ × Mem)} (hd : decode cc pc = .ok (.invokestatic index, 3)) (hp : pc + 3 = q) (hL : Cond.methodLink own index y ∈ AW) (hM : MTS y bytes maxL ret2 n) (hc : Con (tvR G) G y bytes maxL ret2 d2 As mem o2) (hn : As.length = n) (hdd : d2 + 1 ≤ d) (hmx : maxL ≤ 40) (hst : stk = As.reverse ++ st) (hcat : (st.map fun v => v.category).sum ≤ 8)
    (k : ∀ (r2 : Nat) (m2 : Mem), EvR tv G cc nL ret own d q lv (.ref (gA G r2) :: st) m2 (f r2 m2)) : EvR tv G cc nL ret own d pc lv stk mem (cll o2 f) := ev_callS hd hp hL hM hc hn hdd hmx hst hcat k
theorem ev_callSNI {o2 : Option (Int32 × Mem)} {f : Int32 → Mem → Option (ρ × Mem)} {host : String} (hd : decode cc pc = .ok (.invokestatic index, 3)) (hp : pc + 3 = q) (hL : Cond.methodLinkNest own index y host ∈ NW) (hM : MTS y bytes maxL ret2 n) (hc : Con tvI G y bytes maxL ret2 d2 As mem o2) (hn : As.length = n) (hdd : d2 + 1 ≤ d) (hmx : maxL ≤ 40) (hst : stk = As.reverse ++ st) (hcat : (st.map fun v => v.category).sum ≤ 8)
    (k : ∀ (r2 : Int32) (m2 : Mem), EvR tv G cc nL ret own d q lv (.int r2 :: st) m2 (f r2 m2)) : EvR tv G cc nL ret own d pc lv stk mem (cll o2 f) := ev_callSN hd hp hL hM hc hn hdd hmx hst hcat k
theorem ev_callSNU {o2 : Option (Unit × Mem)} {f : Unit → Mem → Option (ρ × Mem)} {host : String} (hd : decode cc pc = .ok (.invokestatic index, 3)) (hp : pc + 3 = q) (hL : Cond.methodLinkNest own index y host ∈ NW) (hM : MTS y bytes maxL ret2 n) (hc : Con tvU G y bytes maxL ret2 d2 As mem o2) (hn : As.length = n) (hdd : d2 + 1 ≤ d) (hmx : maxL ≤ 40) (hst : stk = As.reverse ++ st) (hcat : (st.map fun v => v.category).sum ≤ 8)
    (k : ∀ (r2 : Unit) (m2 : Mem), EvR tv G cc nL ret own d q lv st m2 (f r2 m2)) : EvR tv G cc nL ret own d pc lv stk mem (cll o2 f) := ev_callSN hd hp hL hM hc hn hdd hmx hst hcat k
theorem ev_callSNR {o2 : Option (Nat × Mem)} {f : Nat → Mem → Option (ρ × Mem)} {host : String} (hd : decode cc pc = .ok (.invokestatic index, 3)) (hp : pc + 3 = q) (hL : Cond.methodLinkNest own index y host ∈ NW) (hM : MTS y bytes maxL ret2 n) (hc : Con (tvR G) G y bytes maxL ret2 d2 As mem o2) (hn : As.length = n) (hdd : d2 + 1 ≤ d) (hmx : maxL ≤ 40) (hst : stk = As.reverse ++ st) (hcat : (st.map fun v => v.category).sum ≤ 8)
    (k : ∀ (r2 : Nat) (m2 : Mem), EvR tv G cc nL ret own d q lv (.ref (gA G r2) :: st) m2 (f r2 m2)) : EvR tv G cc nL ret own d pc lv stk mem (cll o2 f) := ev_callSN hd hp hL hM hc hn hdd hmx hst hcat k
/-- the JDK's copy of a row's part -/
def acp {α : Type} (mem : Mem) (k0 : Nat) (sp : Int32) (k1 : Nat) (dp n : Int32) (f : Mem → Option α) : Option α :=
  if (¬ sp < 0 ∧ ¬ dp < 0 ∧ ¬ n < 0) ∧ sp.toNatClampNeg + n.toNatClampNeg ≤ ln k0 ∧ dp.toNatClampNeg + n.toNatClampNeg ≤ ln k1 then f (st1 mem k1 (va_cpy (mem k0) (mem k1) sp.toNatClampNeg dp.toNatClampNeg n.toNatClampNeg)) else none
theorem ev_copy {k0 k1 : Nat} {sp dp n : Int32} {f : Mem → Option (ρ × Mem)} (hd : decode cc pc = .ok (.invokestatic index, 3)) (hp : pc + 3 = q) (hL : Cond.methodLink own index arraycopyName ∈ AW) (w1 : Cond.native arraycopyName ∈ AW) (w2 : Cond.static arraycopyName ∈ AW) (w3 : Cond.initialized "java/lang/System" ∈ AW) (h0 : kd k0 = 100) (h1 : kd k1 = 100) (hdd : 2 ≤ d) (hcat : (st.map fun v => v.category).sum ≤ 8) (k : ∀ m' : Mem, EvR tv G cc nL ret own d q lv st m' (f m')) : EvR tv G cc nL ret own d pc lv (.int n :: .int dp :: .ref (gA G k1) :: .int sp :: .ref (gA G k0) :: st) mem (acp mem k0 sp k1 dp n f) := by
  subst hp
  intro r m1 hv p e s m args below meth c H locs ls hx hb hml hr hown hlk hts hC hP hS hl
  unfold acp at hv
  split at hv
  · rename_i hin
    obtain ⟨⟨a1, a2, a3⟩, a4, a5⟩ := hin
    have hlt := kd_lt h1 (by decide)
    have he := cells_at (G := G) (mem := mem) (kd_lt h0 (by decide))
    rw [cellE_i h0] at he
    have he1 := cells_at (G := G) (mem := mem) hlt
    rw [cellE_i h1] at he1
    refine va_copyi hx hb (hml.trans hl.1.symm) hown (hts _ hL) (hts _ w1) (hts _ w2) (hts _ w3) hC.1 hP (hC.D mem) hS k0 k1 0 0 he he1 rfl rfl rfl a1 a2 a3 a4 a5 (fun _ _ => rfl) ?_ ?_ hd fun H1 locs1 hP1 _ hS1 => ?_
    · show 1 ≤ d
      omega
    · show _ ≤ 64 * d
      have : nativeFrameWords "java/lang/System" "arraycopy" 5 + 11 ≤ 100 := by decide
      omega
    rw [← cellE_i (G := G) h1, cells_set hlt] at hP1
    exact (k _) r m1 hv p e s m args below meth c H1 locs1 ls hx hb hml hr hown hlk hts hC hP1 hS1 hl
  · cases hv
end CALLS
