/-! ===== THE WORLD AS IT GROWS: the first n cells are there; fl says which references of an object are set ===== -/
def fVn (G : Gt) (k : Nat) (fk : Nat → Bool) (row : Nat → Int32) (j : Nat) : Value := if ir (kd k) j = true then (if fk j = true then .ref (gA G (rf k j)) else .null) else .int (row j)
def cellF (G : Gt) (k : Nat) (fk : Nat → Bool) (row : Nat → Int32) : va_E := if kd k = 100 then .inl (gI G, ln k, .inl row) else if kd k = 101 then .inl (gZ G, ln k, .inl row) else .inr (kd k, (List.range (nf (kd k))).map (fVn G k fk row))
def cellsN (G : Gt) (n : Nat) (fl : Nat → Nat → Bool) (mem : Mem) : va_W := (List.range n).map (fun k => (gA G k, cellF G k (fl k) (mem k)))
def flS (fl : Nat → Nat → Bool) (k j : Nat) : Nat → Nat → Bool := fun a => if a = k then (fun b => if b = j then true else fl k b) else fl a
def fl1 (fl : Nat → Nat → Bool) (k : Nat) (f : Nat → Bool) : Nat → Nat → Bool := fun a => if a = k then f else fl a
theorem cn_at {G : Gt} {n : Nat} {fl : Nat → Nat → Bool} {mem : Mem} {k : Nat} (h : k < n) : (cellsN G n fl mem)[k]? = some (gA G k, cellF G k (fl k) (mem k)) := by
  unfold cellsN
  rw [List.getElem?_map, List.getElem?_range h]
  rfl
theorem cn_len {G : Gt} {n : Nat} {fl : Nat → Nat → Bool} {mem : Mem} : (cellsN G n fl mem).length = n := by simp [cellsN]
theorem cn_set {G : Gt} {n : Nat} {fl : Nat → Nat → Bool} {mem : Mem} {k : Nat} {f : Nat → Bool} {row : Nat → Int32} (h : k < n) : (cellsN G n fl mem).set k (gA G k, cellF G k f row) = cellsN G n (fl1 fl k f) (st1 mem k row) := by
  apply List.ext_getElem?
  intro i
  rw [List.getElem?_set]
  by_cases hi : k = i
  · subst hi
    rw [if_pos rfl, if_pos (by rw [cn_len]; exact h), cn_at h]
    simp [st1, fl1]
  · rw [if_neg hi]
    by_cases h2 : i < n
    · rw [cn_at h2, cn_at h2]
      simp [st1, fl1, Ne.symm hi]
    · rw [List.getElem?_eq_none (by rw [cn_len]; omega), List.getElem?_eq_none (by rw [cn_len]; omega)]
theorem cn_succ {G : Gt} {n : Nat} {fl : Nat → Nat → Bool} {mem : Mem} : cellsN G (n + 1) fl mem = cellsN G n fl mem ++ [(gA G n, cellF G n (fl n) (mem n))] := by
  unfold cellsN
  rw [List.range_succ, List.map_append]
  rfl
theorem cellF_i {G : Gt} {k : Nat} {f : Nat → Bool} {row : Nat → Int32} (h : kd k = 100) : cellF G k f row = .inl (gI G, ln k, .inl row) := by simp [cellF, h]
theorem cellF_z {G : Gt} {k : Nat} {f : Nat → Bool} {row : Nat → Int32} (h : kd k = 101) : cellF G k f row = .inl (gZ G, ln k, .inl row) := by simp [cellF, h]
theorem cellF_o {G : Gt} {k c : Nat} {f : Nat → Bool} {row : Nat → Int32} (h : kd k = c) (hc : c < 100) : cellF G k f row = .inr (c, (List.range (nf c)).map (fVn G k f row)) := by
  subst h
  unfold cellF
  rw [if_neg (by omega), if_neg (by omega)]
theorem fn_at {G : Gt} {k n j : Nat} {f : Nat → Bool} {row : Nat → Int32} (h : j < n) : ((List.range n).map (fVn G k f row))[j]? = some (fVn G k f row j) := by
  rw [List.getElem?_map, List.getElem?_range h]
  rfl
theorem fn_set {G : Gt} {k n c j : Nat} {f : Nat → Bool} {row : Nat → Int32} (hk : kd k = c) (hj : ir c j = true) : ((List.range n).map (fVn G k f row)).set j (.ref (gA G (rf k j))) = (List.range n).map (fVn G k (fun b => if b = j then true else f b) row) := by
  apply List.ext_getElem?
  intro i
  rw [List.getElem?_set]
  by_cases h2 : i < n
  · rw [fn_at h2, fn_at h2]
    by_cases hi : j = i
    · subst hi
      rw [if_pos rfl, if_pos (by simp; exact h2)]
      simp [fVn, hk, hj]
    · rw [if_neg hi]
      simp [fVn, Ne.symm hi]
  · rw [List.getElem?_eq_none (l := (List.range n).map (fVn G k (fun b => if b = j then true else f b) row)) (by simp; omega), List.getElem?_eq_none (l := (List.range n).map (fVn G k f row)) (by simp; omega)]
    by_cases hi : j = i
    · rw [if_pos hi, if_neg (by simp; omega)]
    · rw [if_neg hi]
def PW (G : Gt) (base n : Nat) (fl : Nat → Nat → Bool) (mem : Mem) (H : Heap) : Prop := va_P (gD G) vwCl (cellsN G n fl mem) H ∧ H.size = base + n ∧ ∀ k, n ≤ k → mem k = fun _ => 0
def aB (base : Nat) : Nat → Prop := fun q => base ≤ q
def C0 (G : Gt) (U : State) : Prop := va_K (gD G) vwCl [(gI G, .int), (gZ G, .boolean)] U ∧ ∀ w ∈ NW, va_Nw w U
theorem C0.moved {G : Gt} {s U : State} (h : C0 G s) (hW : s.WarmedH U.vm) : C0 G U := ⟨h.1.moved hW.alike, fun w hw => nest_warm (List.mem_filter.mp hw).2 hW (h.2 w hw)⟩
theorem C0.same {G : Gt} {s U : State} (h : C0 G s) (hW : s.vm = U.vm) : C0 G U := ⟨h.1.moved (by rw [hW]; exact Vm.Alike.refl _), fun w hw => nest_same (List.mem_filter.mp hw).2 hW (h.2 w hw)⟩
theorem cn_D {G : Gt} {base n : Nat} {fl : Nat → Nat → Bool} {mem : Mem} (hB : ∀ k, gA G k = base + k) : va_D (aB base) (cellsN G n fl mem) := by
  have key : ∀ (k : Nat) (q : Nat × va_E), (cellsN G n fl mem)[k]? = some q → k < n ∧ q.1 = base + k := by
    intro k q hq
    have hk : k < n := by
      have := (List.getElem?_eq_some_iff.mp hq).1
      rwa [cn_len] at this
    rw [cn_at hk] at hq
    cases hq
    exact ⟨hk, hB k⟩
  refine ⟨fun i j p q hi hj e => ?_, fun k q hq => ?_⟩
  · obtain ⟨a1, a2⟩ := key i p hi
    obtain ⟨b1, b2⟩ := key j q hj
    omega
  · obtain ⟨a1, a2⟩ := key k q hq
    show base ≤ q.1
    omega
theorem PW.congr {G : Gt} {base n : Nat} {fl fl' : Nat → Nat → Bool} {mem : Mem} {H : Heap} (h : PW G base n fl mem H) (e : ∀ k, k < n → kd k < 100 → ∀ j, j < nf (kd k) → ir (kd k) j = true → fl k j = fl' k j) : PW G base n fl' mem H := by
  have e2 : cellsN G n fl mem = cellsN G n fl' mem := by
    unfold cellsN
    apply List.map_congr_left
    intro k hk
    have hk := List.mem_range.mp hk
    congr 1
    unfold cellF
    by_cases h1 : kd k = 100
    · rw [if_pos h1, if_pos h1]
    · rw [if_neg h1, if_neg h1]
      by_cases h2 : kd k = 101
      · rw [if_pos h2, if_pos h2]
      · rw [if_neg h2, if_neg h2]
        congr 2
        apply List.map_congr_left
        intro j hj
        have hj := List.mem_range.mp hj
        unfold fVn
        by_cases h3 : ir (kd k) j = true
        · rw [if_pos h3, if_pos h3]
          have hlt : kd k < 100 := by
            apply Nat.not_le.mp
            intro q
            have : nf (kd k) = 0 := by
              unfold nf
              rw [List.getD_eq_getElem?_getD, List.getElem?_eq_none (by exact Nat.le_trans (by decide) q)]
              rfl
            omega
          rw [e k hk hlt j hj h3]
        · rw [if_neg h3, if_neg h3]
  exact ⟨by rw [← e2]; exact h.1, h.2⟩
def EQC (G : Gt) (base : Nat) (Q : Nat → (Nat → Nat → Bool) → Mem → Prop) : Array Value → State → Outcome → State → Prop := fun _ st oc t => (oc = .returned none ∧ ∃ n fl mem, Q n fl mem ∧ PW G base n fl mem t.heap) ∧ va_F (aB base) st t
def EvC (G : Gt) (base : Nat) (cc : ByteArray) (nL : Nat) (own : String) (ini : Bool) (d mc ms : Nat) (Q : Nat → (Nat → Nat → Bool) → Mem → Prop) (pc : Nat) (lv : List (Nat × Value)) (st : List Value) (n : Nat) (fl : Nat → Nat → Bool) (mem : Mem) (kc ks : Nat) : Prop :=
  ∀ (p : Program) (e : Env) (s : State) (m : MethodId) (args : Array Value) (below : List Frame) (meth : Method) (c : Code) (H : Heap) (locs : List Loc) (ls : Array Slot),
    (∀ k, gA G k = base + k) → base ≤ s.heap.size → p.tables.exec = Jvm.exec → c.code = cc → c.maxLocals = nL → meth.sig.returnType = none → s.vm.findClass own = some m.cls → meth.locks = false → (ini = true → meth.name = "<init>") → (∀ w ∈ AW, w.before args s = true) → C0 G s →
    PW G base n fl mem H → va_S (aB base) s.heap H locs → lv_has ls nL lv →
    W p (gL G) e { frames := d, cells := mc, slots := ms, locals := 64 * d } s m args below meth c H locs kc ks (MQ below (EQC G base Q) args s mc ms (aB base)) (F0 m pc ls st)
def ConC (G : Gt) (base : Nat) (y : MethodName) (bytes : ByteArray) (nL : Nat) (d mc ms : Nat) (vs : List Value) (n : Nat) (fl : Nat → Nat → Bool) (mem : Mem) (Q : Nat → (Nat → Nat → Bool) → Mem → Prop) : Prop :=
  Met (gL G) y (Cond.code y bytes nL none :: AW) { frames := d, cells := mc, slots := ms, locals := 64 * d } (va_Pc vs (fun U => PW G base n fl mem U.heap ∧ C0 G U ∧ (∀ k, gA G k = base + k))) (EQC G base Q) mc ms (aB base)
section RULESC
variable {G : Gt} {base : Nat} {cc : ByteArray} {nL : Nat} {own : String} {ini : Bool} {d mc ms : Nat} {Q : Nat → (Nat → Nat → Bool) → Mem → Prop} {pc q : Nat} {lv lv2 : List (Nat × Value)} {st stk : List Value} {n nn : Nat} {fl : Nat → Nat → Bool} {mem : Mem} {kc ks : Nat}
theorem evc_aload_n {k : Fin 4} {i x : Nat} (hd : decode cc pc = .ok (.aload_n k, 1)) (hi : (k : Nat) = i) (j : Nat) (hp : pc + 1 = q) (hj : lv[j]? = some (i, .ref x)) (kk : EvC G base cc nL own ini d mc ms Q q lv (.ref x :: st) n fl mem kc ks) : EvC G base cc nL own ini d mc ms Q pc lv st n fl mem kc ks := by
  subst hp
  intro p e s m args below meth c H locs ls g1 g2 hx hb hml hr hown hlk hin hts hC hP hS hl
  exact lv_aload_n hx hb hd hi (lv_at hl j hj) (kk p e s m args below meth c H locs ls g1 g2 hx hb hml hr hown hlk hin hts hC hP hS hl)
theorem evc_iload_n {k : Fin 4} {i : Nat} {x : Int32} (hd : decode cc pc = .ok (.iload_n k, 1)) (hi : (k : Nat) = i) (j : Nat) (hp : pc + 1 = q) (hj : lv[j]? = some (i, .int x)) (kk : EvC G base cc nL own ini d mc ms Q q lv (.int x :: st) n fl mem kc ks) : EvC G base cc nL own ini d mc ms Q pc lv st n fl mem kc ks := by
  subst hp
  intro p e s m args below meth c H locs ls g1 g2 hx hb hml hr hown hlk hin hts hC hP hS hl
  exact lv_iload_n hx hb hd hi (lv_at hl j hj) (kk p e s m args below meth c H locs ls g1 g2 hx hb hml hr hown hlk hin hts hC hP hS hl)
theorem evc_istore_n {k : Fin 4} {i : Nat} {x : Int32} (hd : decode cc pc = .ok (.istore_n k, 1)) (hi : (k : Nat) = i) (hp : pc + 1 = q) (hn : i < nL) (hf : (i, Value.int x) :: lv.filter (fun q => !(q.1 == i) && !(q.1 + 1 == i && q.2.category == 2)) = lv2) (kk : EvC G base cc nL own ini d mc ms Q q lv2 st n fl mem kc ks) : EvC G base cc nL own ini d mc ms Q pc lv (.int x :: st) n fl mem kc ks := by
  subst hp
  intro p e s m args below meth c H locs ls g1 g2 hx hb hml hr hown hlk hin hts hC hP hS hl
  exact lv_istore_n hx hb hd hi hl hn hf (fun ls hl => kk p e s m args below meth c H locs ls g1 g2 hx hb hml hr hown hlk hin hts hC hP hS hl)
theorem evc_iinc {i : Nat} {k : Int} {x v : Int32} (hd : decode cc pc = .ok (.iinc i k, 3)) (j : Nat) (hp : pc + 3 = q) (hj : lv[j]? = some (i, .int x)) (hv0 : x + Int32.ofInt k = v) (hn : i < nL) (hf : (i, Value.int v) :: lv.filter (fun q => !(q.1 == i) && !(q.1 + 1 == i && q.2.category == 2)) = lv2) (kk : EvC G base cc nL own ini d mc ms Q q lv2 st n fl mem kc ks) : EvC G base cc nL own ini d mc ms Q pc lv st n fl mem kc ks := by
  subst hp
  intro p e s m args below meth c H locs ls g1 g2 hx hb hml hr hown hlk hin hts hC hP hS hl
  exact lv_iinc hx hb hd hl hj hv0 hn hf (fun ls hl => kk p e s m args below meth c H locs ls g1 g2 hx hb hml hr hown hlk hin hts hC hP hS hl)
theorem evc_iconst {k : Int} {v : Int32} (hd : decode cc pc = .ok (.iconst k, 1)) (hp : pc + 1 = q) (hv0 : Int32.ofInt k = v) (kk : EvC G base cc nL own ini d mc ms Q q lv (.int v :: st) n fl mem kc ks) : EvC G base cc nL own ini d mc ms Q pc lv st n fl mem kc ks := by
  subst hp
  intro p e s m args below meth c H locs ls g1 g2 hx hb hml hr hown hlk hin hts hC hP hS hl
  exact lv_iconst hx hb hd hv0 (kk p e s m args below meth c H locs ls g1 g2 hx hb hml hr hown hlk hin hts hC hP hS hl)
theorem evc_bipush {k : Int} {v : Int32} (hd : decode cc pc = .ok (.bipush k, 2)) (hp : pc + 2 = q) (hv0 : (Int8.ofInt k).toInt32 = v) (kk : EvC G base cc nL own ini d mc ms Q q lv (.int v :: st) n fl mem kc ks) : EvC G base cc nL own ini d mc ms Q pc lv st n fl mem kc ks := by
  subst hp
  intro p e s m args below meth c H locs ls g1 g2 hx hb hml hr hown hlk hin hts hC hP hS hl
  exact lv_bipush hx hb hd hv0 (kk p e s m args below meth c H locs ls g1 g2 hx hb hml hr hown hlk hin hts hC hP hS hl)
theorem evc_sipush {k : Int} {v : Int32} (hd : decode cc pc = .ok (.sipush k, 3)) (hp : pc + 3 = q) (hv0 : (Int16.ofInt k).toInt32 = v) (kk : EvC G base cc nL own ini d mc ms Q q lv (.int v :: st) n fl mem kc ks) : EvC G base cc nL own ini d mc ms Q pc lv st n fl mem kc ks := by
  subst hp
  intro p e s m args below meth c H locs ls g1 g2 hx hb hml hr hown hlk hin hts hC hP hS hl
  exact lv_sipush hx hb hd hv0 (kk p e s m args below meth c H locs ls g1 g2 hx hb hml hr hown hlk hin hts hC hP hS hl)
theorem evc_dup {va : Value} (hd : decode cc pc = .ok (.dup, 1)) (hp : pc + 1 = q) (hva : va.category = 1) (kk : EvC G base cc nL own ini d mc ms Q q lv (va :: va :: st) n fl mem kc ks) : EvC G base cc nL own ini d mc ms Q pc lv (va :: st) n fl mem kc ks := by
  subst hp
  intro p e s m args below meth c H locs ls g1 g2 hx hb hml hr hown hlk hin hts hC hP hS hl
  exact lv_dup hx hb hd hva (kk p e s m args below meth c H locs ls g1 g2 hx hb hml hr hown hlk hin hts hC hP hS hl)
theorem evc_goto {off : Int} {t : Nat} (hd : decode cc pc = .ok (.goto off, 3)) (ht : (pc : Int) + off = (t : Int)) (kk : EvC G base cc nL own ini d mc ms Q t lv st n fl mem kc ks) : EvC G base cc nL own ini d mc ms Q pc lv st n fl mem kc ks := by
  intro p e s m args below meth c H locs ls g1 g2 hx hb hml hr hown hlk hin hts hC hP hS hl
  exact lv_goto hx hb hd ht (kk p e s m args below meth c H locs ls g1 g2 hx hb hml hr hown hlk hin hts hC hP hS hl)
theorem evc_icmp_ge {x y : Int32} {off : Int} {t : Nat} (hd : decode cc pc = .ok (.if_icmp .ge off, 3)) (ht : (pc : Int) + off = (t : Int)) (hp : pc + 3 = q) (k1 : y ≤ x → EvC G base cc nL own ini d mc ms Q t lv st n fl mem kc ks) (k2 : ¬ y ≤ x → EvC G base cc nL own ini d mc ms Q q lv st n fl mem kc ks) : EvC G base cc nL own ini d mc ms Q pc lv (.int y :: .int x :: st) n fl mem kc ks := by
  subst hp
  intro p e s m args below meth c H locs ls g1 g2 hx hb hml hr hown hlk hin hts hC hP hS hl
  exact lv_icmp_ge hx hb hd ht (fun h => k1 h p e s m args below meth c H locs ls g1 g2 hx hb hml hr hown hlk hin hts hC hP hS hl) (fun h => k2 h p e s m args below meth c H locs ls g1 g2 hx hb hml hr hown hlk hin hts hC hP hS hl)
theorem evc_sub {lv' : List (Nat × Value)} (is : List Nat) (hl : lv_pick lv is = lv') (kk : EvC G base cc nL own ini d mc ms Q pc lv' st n fl mem kc ks) : EvC G base cc nL own ini d mc ms Q pc lv st n fl mem kc ks :=
  fun p e s m args below meth c H locs ls g1 g2 hx hb hml hr hown hlk hin hts hC hP hS hl2 => kk p e s m args below meth c H locs ls g1 g2 hx hb hml hr hown hlk hin hts hC hP hS (lv_sub hl2 is hl)
theorem evc_congr {fl' : Nat → Nat → Bool} (h : ∀ k, k < n → kd k < 100 → ∀ j, j < nf (kd k) → ir (kd k) j = true → fl k j = fl' k j) (kk : EvC G base cc nL own ini d mc ms Q pc lv st n fl' mem kc ks) : EvC G base cc nL own ini d mc ms Q pc lv st n fl mem kc ks :=
  fun p e s m args below meth c H locs ls g1 g2 hx hb hml hr hown hlk hin hts hC hP hS hl => kk p e s m args below meth c H locs ls g1 g2 hx hb hml hr hown hlk hin hts hC (hP.congr h) hS hl
theorem evc_objInit {idx a : Nat} (hd : decode cc pc = .ok (.invokespecial idx, 3)) (hp : pc + 3 = q) (hL : Cond.methodLink own idx Lib.objectInit ∈ AW) (w1 : Cond.instanceMethod Lib.objectInit ∈ AW) (w2 : Cond.code Lib.objectInit ⟨#[0xb1]⟩ 1 none ∈ AW) (hdd : 1 ≤ d) (hst : st = []) (kk : EvC G base cc nL own ini d mc ms Q q lv st n fl mem kc ks) : EvC G base cc nL own ini d mc ms Q pc lv (.ref a :: st) n fl mem kc ks := by
  subst hp
  subst hst
  intro p e s m args below meth c H locs ls g1 g2 hx hb hml hr hown hlk hin hts hC hP hS hl
  refine W.objInit hx hb hown (hts _ hL) (hts _ w1) (hts _ w2) rfl (by rw [hml]; exact hl.1) rfl hd hdd ?_ ?_
  · show 0 + 0 + 12 ≤ 64 * d
    omega
  · exact kk p e s m args below meth c H locs ls g1 g2 hx hb hml hr hown hlk hin hts hC hP hS hl
theorem evc_vret (hd : decode cc pc = .ok (.return_, 1)) (hkc : kc = mc) (hks : ks = ms) (hQ : Q n fl mem) : EvC G base cc nL own ini d mc ms Q pc lv [] n fl mem kc ks := by
  subst hkc
  subst hks
  intro p e s m args below meth c H locs ls g1 g2 hx hb hml hr hown hlk hin hts hC hP hS hl
  exact W.vret hx hb hr (fun t ht hW => ⟨⟨rfl, n, fl, mem, hQ, by rw [ht]; exact hP⟩, hS.F ht⟩) hS.2.2 hd
/-- a class that is made: its cell comes at the end -/
theorem evc_new {index : Nat} {C : String} {T : u_T} {ci : Nat} (hd : decode cc pc = .ok (.new index, 3)) (hp : pc + 3 = q) (hnn : n + 1 = nn) (F : CF ci C T) (hk : kd n = ci) (hci : ci < 100) (hdf : ∀ (ty : Nat → FieldType), (∀ k, k < nf ci → parseFieldDescriptor (T k).2.2.1 = some (ty k)) → ∀ j, j < nf ci → defaultValue (ty j) = if ir ci j = true then .null else .int 0) (w1 : Cond.classLink own index C ∈ AW) (w2 : Cond.instantiable C (nf ci) ∈ AW) (w3 : Cond.initialized C ∈ AW) (hfl : fl n = fun _ => false) (h1 : kc + 1 ≤ mc) (h2 : ks + nf ci ≤ ms)
    (kk : EvC G base cc nL own ini d mc ms Q q lv (.ref (gA G n) :: st) nn fl mem (kc + 1) (ks + nf ci)) : EvC G base cc nL own ini d mc ms Q pc lv st n fl mem kc ks := by
  subst hnn
  subst hp
  intro p e s m args below meth c H locs ls g1 g2 hx hb hml hr hown hlk hin hts hC hP hS hl
  obtain ⟨hc, hin1, ⟨ty0, hty0⟩, hnm⟩ := F
  have hKn := hC.1.1 ci _ hc
  refine W.newcK hx hb hown (hts _ w1) (hts _ w2) (hts _ w3) rfl hd h1 h2 hKn.2.1 hP.2.1 fun H1 kC hkC e1 z1 o1 => ?_
  have hsz := hP.2.1
  have hold : va_P (gD G) vwCl (cellsN G n fl mem) H1 := hP.1.kept (fun k x hx => o1 x.1 (by have := ((hP.1 k x hx).lt); omega))
  have hnew : va_P (gD G) vwCl (cellsN G (n + 1) fl mem) H1 := by
    rw [cn_succ]
    refine hold.app (fun k x hx => ?_)
    have hz : k < 1 := (List.getElem?_eq_some_iff.mp hx).1
    rw [show k = 0 by omega] at hx
    cases hx
    rw [cellF_o hk hci]
    refine ⟨_, hc, ?_⟩
    rw [g1 n]
    refine (u_born ty0 hts hin1 hKn hkC e1 hty0).to fun j hj => ?_
    rw [hdf ty0 hty0 j hj]
    show _ = ((List.range (nf ci)).map (fVn G n (fl n) (mem n))).getD j .null
    rw [List.getD_eq_getElem?_getD, fn_at hj]
    show _ = fVn G n (fl n) (mem n) j
    unfold fVn
    rw [hk, hfl, hP.2.2 n (Nat.le_refl n)]
    rfl
  have hbn : base + n = gA G n := (g1 n).symm
  have hfin : PW G base (n + 1) fl mem H1 := ⟨hnew, by rw [z1]; omega, fun k hk => hP.2.2 k (by omega)⟩
  have hS1 : va_S (aB base) s.heap H1 locs := ⟨by have := hS.1; omega, fun x h1 h2 => (o1 x (by have := hS.1; omega)).trans (hS.2.1 x h1 h2), hS.2.2⟩
  have := kk p e s m args below meth c H1 locs ls g1 g2 hx hb hml hr hown hlk hin hts hC hfin hS1 hl
  rw [← hbn] at this
  exact this
theorem evc_newa {atype : ArrayType} {ty : FieldType} {kdn N : Nat} {v : Int32} (hd : decode cc pc = .ok (.newarray atype, 2)) (hp : pc + 2 = q) (hnn : n + 1 = nn) (hty : newarray.typeOf atype = ty) (w1 : Cond.arrayClass (newarray.typeOf atype) ∈ AW) (hcase : (ty = .int ∧ kdn = 100) ∨ (ty = .boolean ∧ kdn = 101)) (hk : kd n = kdn) (hN : ln n = N) (hv0 : ¬ v < 0) (hvN : v.toNatClampNeg = N) (hb0 : N * componentBytes (newarray.typeOf atype) ≤ 536870912) (h1 : kc + 1 ≤ mc) (h2 : ks + N ≤ ms)
    (kk : EvC G base cc nL own ini d mc ms Q q lv (.ref (gA G n) :: st) nn fl mem (kc + 1) (ks + N)) : EvC G base cc nL own ini d mc ms Q pc lv (.int v :: st) n fl mem kc ks := by
  subst hnn
  subst hp
  intro p e s m args below meth c H locs ls g1 g2 hx hb hml hr hown hlk hin hts hC hP hS hl
  refine va_newaK hx hb (hts _ w1) rfl hd rfl hv0 hvN hb0 h1 h2 hP.2.1 fun H1 cA e1 z1 o1 hAr hNm => ?_
  have hsz := hP.2.1
  have hold : va_P (gD G) vwCl (cellsN G n fl mem) H1 := hP.1.kept (fun k x hx => o1 x.1 (by have := ((hP.1 k x hx).lt); omega))
  have hnew : va_P (gD G) vwCl (cellsN G (n + 1) fl mem) H1 := by
    rw [cn_succ]
    refine hold.app (fun k x hx => ?_)
    have hz : k < 1 := (List.getElem?_eq_some_iff.mp hx).1
    rw [show k = 0 by omega] at hx
    cases hx
    rw [hty] at e1 hNm
    rcases hcase with ⟨rfl, rfl⟩ | ⟨rfl, rfl⟩
    · have hcA : cA = gI G := Option.some.inj (hNm.symm.trans (hC.1.2 0 _ rfl).2)
      rw [cellF_i hk, hN]
      show H1[gA G n]? = some (vp_cell (gI G) (N, .inl (mem n)))
      rw [g1 n, e1, hcA, vp_cell_i, hP.2.2 n (Nat.le_refl n)]
      rfl
    · have hcA : cA = gZ G := Option.some.inj (hNm.symm.trans (hC.1.2 1 _ rfl).2)
      rw [cellF_z hk, hN]
      show H1[gA G n]? = some (vp_cell (gZ G) (N, .inl (mem n)))
      rw [g1 n, e1, hcA, vp_cell_i, hP.2.2 n (Nat.le_refl n)]
      rfl
  have hbn : base + n = gA G n := (g1 n).symm
  have hfin : PW G base (n + 1) fl mem H1 := ⟨hnew, by rw [z1]; omega, fun k hk => hP.2.2 k (by omega)⟩
  have hS1 : va_S (aB base) s.heap H1 locs := ⟨by have := hS.1; omega, fun x h1 h2 => (o1 x (by have := hS.1; omega)).trans (hS.2.1 x h1 h2), hS.2.2⟩
  have := kk p e s m args below meth c H1 locs ls g1 g2 hx hb hml hr hown hlk hin hts hC hfin hS1 hl
  rw [← hbn] at this
  exact this
/-- a final reference field is set in a constructor -/
theorem evc_putR {index : Nat} {T : u_T} {ci k0 j v : Nat} {ty : FieldType} (hd : decode cc pc = .ok (.putfield index, 3)) (hp : pc + 3 = q) (hini : ini = true) (F : CF ci own T) (hk : kd k0 = ci) (hj : j < nf ci) (hci : ci < 100) (hlt : k0 < n) (hv : rf k0 j = v) (hL : Cond.fieldLink own index (T j).1 (T j).2.1 (T j).2.2.1 ∈ AW) (hi : ir ci j = true) (hfin : (T j).2.2.2 = true) (hdecl : (T j).1 = own) (hty : parseFieldDescriptor (T j).2.2.1 = some ty) (hn : ∀ a, narrow ty (.ref a) = .ref a) (hfit : ∀ a, fits ty (.ref a) = true)
    (kk : EvC G base cc nL own ini d mc ms Q q lv st n (fl1 fl k0 (fun b => if b = j then true else fl k0 b)) mem kc ks) : EvC G base cc nL own ini d mc ms Q pc lv (.ref (gA G v) :: .ref (gA G k0) :: st) n fl mem kc ks := by
  subst hp
  subst hv
  intro p e s m args below meth c H locs ls g1 g2 hx hb hml hr hown hlk hin2 hts hC hP hS hl
  obtain ⟨hc, hin, ⟨ty0, hty0⟩, hnm⟩ := F
  have hap := va_apart (own := own) hts hin ty0 hty0 hnm hC.1 hc
  have he := cn_at (G := G) (fl := fl) (mem := mem) hlt
  rw [cellF_o hk hci] at he
  obtain ⟨r, h1, cell, q1, q2, q3, q4⟩ := hP.1 k0 _ he
  have hr1 : r = (own, T, nf ci) := Option.some.inj (h1.symm.trans hc)
  subst hr1
  obtain ⟨hSl, hfc, kC, hkC, hkind⟩ := hC.1.1 ci _ hc
  obtain ⟨cf, kf, fi, f, hif, hsl⟩ := hSl j hj
  have hlay := hts _ (hin _ (u_in_lay hj))
  unfold u_lay at hlay
  rw [if_pos hfin] at hlay
  have hst := (u_facts hfc hkC (u_lays hts hin hj) hif).1
  have hcf : m.cls = cf := by
    obtain ⟨_, _, c', _, _, _, -, -, hf', -, -, -, hown2, -⟩ := Cond.laysFinal_spec hlay
    have e1 : c' = cf := by have := hif.symm.trans hf'; simp at this; exact this.1.symm
    rw [hdecl] at hown2
    rw [← e1]; exact Option.some.inj (hown.symm.trans hown2)
  have h6 := u_fits hfc hkC hkind (Or.inr hlay) hif hty (hn (gA G (rf k0 j))) (hfit _)
  refine W.putFinK hx hb hown (hts _ hL) hif hst hcf (hin2 hini) (by rw [q2]; exact h6) q1 q3 (by rw [hsl]; exact k2_hasslot (q4 j hj)) rfl rfl hd fun H' e1 e2 e3 => ?_
  rw [hsl] at e1 ⊢
  have hset := hP.1.set (cn_D g1) he (e := .inr (ci, ((List.range (nf ci)).map (fVn G k0 (fl k0) (mem k0))).set j (.ref (gA G (rf k0 j))))) (H1 := H') ⟨_, hc, t_OB.to (V := updV (vp_V ((List.range (nf ci)).map (fVn G k0 (fl k0) (mem k0)))) j (.ref (gA G (rf k0 j)))) ⟨_, e1, q2, q3, t_set q4 hap hj _⟩ (fun i _ => vp_updV_set (by simp; exact hj) _ i)⟩ e3
  rw [fn_set hk hi, ← cellF_o (G := G) hk hci, cn_set hlt] at hset
  have hst1 : st1 mem k0 (mem k0) = mem := by
    funext a
    unfold st1
    by_cases ha : a = k0
    · rw [if_pos ha, ha]
    · rw [if_neg ha]
  rw [hst1] at hset
  exact kk p e s m args below meth c H' _ ls g1 g2 hx hb hml hr hown hlk hin2 hts hC ⟨hset, by rw [e2]; exact hP.2.1, hP.2.2⟩ (hS.put e2 e3 (by show base ≤ _; rw [g1]; omega)) hl
theorem evc_getR {index : Nat} {T : u_T} {ci k0 j v : Nat} (hd : decode cc pc = .ok (.getfield index, 3)) (hp : pc + 3 = q) (F : CF ci own T) (hk : kd k0 = ci) (hj : j < nf ci) (hci : ci < 100) (hlt : k0 < n) (hv : rf k0 j = v) (hL : Cond.fieldLink own index (T j).1 (T j).2.1 (T j).2.2.1 ∈ AW) (hi : ir ci j = true) (hf : fl k0 j = true) (kk : EvC G base cc nL own ini d mc ms Q q lv (.ref (gA G v) :: st) n fl mem kc ks) : EvC G base cc nL own ini d mc ms Q pc lv (.ref (gA G k0) :: st) n fl mem kc ks := by
  subst hp
  subst hv
  intro p e s m args below meth c H locs ls g1 g2 hx hb hml hr hown hlk hin2 hts hC hP hS hl
  obtain ⟨hc, hin, -, -⟩ := F
  have he := cn_at (G := G) (fl := fl) (mem := mem) hlt
  rw [cellF_o hk hci] at he
  have hfs := fn_at (G := G) (k := k0) (f := fl k0) (row := mem k0) hj
  rw [show fVn G k0 (fl k0) (mem k0) j = .ref (gA G (rf k0 j)) by unfold fVn; rw [hk, if_pos hi, if_pos hf]] at hfs
  exact va_get hx hb hts hin hown hC.1 hP.1 k0 he hc j hj (hts _ hL) (fun x h => h) hfs hd (kk p e s m args below meth c H locs ls g1 g2 hx hb hml hr hown hlk hin2 hts hC hP hS hl)
theorem evc_alen {k0 : Nat} (hd : decode cc pc = .ok (.arraylength, 1)) (hp : pc + 1 = q) (hk : kd k0 = 100) (hlt : k0 < n) (kk : EvC G base cc nL own ini d mc ms Q q lv (.int (Int32.ofNat (ln k0)) :: st) n fl mem kc ks) : EvC G base cc nL own ini d mc ms Q pc lv (.ref (gA G k0) :: st) n fl mem kc ks := by
  subst hp
  intro p e s m args below meth c H locs ls g1 g2 hx hb hml hr hown hlk hin2 hts hC hP hS hl
  have he := cn_at (G := G) (fl := fl) (mem := mem) hlt
  rw [cellF_i hk] at he
  exact va_alen hx hb hC.1 hP.1 k0 0 he rfl rfl hd (kk p e s m args below meth c H locs ls g1 g2 hx hb hml hr hown hlk hin2 hts hC hP hS hl)
theorem evc_iast {k0 : Nat} {i x : Int32} (hd : decode cc pc = .ok (.iastore, 1)) (hp : pc + 1 = q) (hk : kd k0 = 100) (hlt : k0 < n) (hin : vp_in i (ln k0)) (kk : EvC G base cc nL own ini d mc ms Q q lv st n fl (st2 mem k0 i.toNatClampNeg x) kc ks) : EvC G base cc nL own ini d mc ms Q pc lv (.int x :: .int i :: .ref (gA G k0) :: st) n fl mem kc ks := by
  subst hp
  intro p e s m args below meth c H locs ls g1 g2 hx hb hml hr hown hlk hin2 hts hC hP hS hl
  have he := cn_at (G := G) (fl := fl) (mem := mem) hlt
  rw [cellF_i hk] at he
  refine W.iast hx hb (hP.1 k0 _ he) ((hC.1.2 0 _ rfl).1 (ln k0) (fun j => .int (mem k0 j))) (fun q => by cases q) (by show ¬ (i < 0 ∨ (arrV _ _ _).slots.size ≤ _); rw [arrV_size]; exact hin) rfl rfl hd fun H1 e1 z oq => ?_
  have hset := hP.1.set (cn_D g1) he (e := .inl (gI G, ln k0, .inl (upd (mem k0) i.toNatClampNeg x))) (H1 := H1) (by
    show H1[gA G k0]? = some (vp_cell _ _)
    rw [e1]
    rw [vp_cell_i, vp_cell_i, arrV_store]
    congr 2
    funext q
    by_cases hq : q = i.toNatClampNeg
    · subst hq
      simp [updV, upd]
    · simp [updV, upd, hq]) oq
  rw [← cellF_i (G := G) (f := fl k0) hk, cn_set hlt] at hset
  have hfl : fl1 fl k0 (fl k0) = fl := by
    funext a
    unfold fl1
    by_cases ha : a = k0
    · rw [if_pos ha, ha]
    · rw [if_neg ha]
  rw [hfl] at hset
  exact kk p e s m args below meth c H1 _ ls g1 g2 hx hb hml hr hown hlk hin2 hts hC ⟨hset, by rw [z]; exact hP.2.1, fun a ha => by show st1 _ _ _ a = _; unfold st1; rw [if_neg (by omega)]; exact hP.2.2 a ha⟩ (hS.put z oq (by show base ≤ _; rw [g1]; omega)) hl
-- calls
variable {y : MethodName} {bytes : ByteArray} {maxL : Nat} {d2 mc2 ms2 np index : Nat} {As vs : List Value} {Q2 : Nat → (Nat → Nat → Bool) → Mem → Prop}
theorem conC_of (hy : plainName y.cls = true) (hini : ini = true → y.name = "<init>") (hn : (lg_sl vs).length ≤ nL) (h : EvC G base cc nL y.cls ini d mc ms Q 0 (lv_args 0 vs) [] n fl mem 0 0) : ConC G base y cc nL d mc ms vs n fl mem Q := by
  refine Met.ofW (cc := cc) (maxL := nL) (ret := none) hy rfl ?_
  intro p e s m args below meth c s₁ B hml hpc
  obtain ⟨rfl, hP, hC, hB⟩ := hpc
  have hts0 := atoms_spec (ws := Cond.code y cc nL none :: AW) B.pre
  have hl := lv_entry vs (n := nL) hn
  rw [lg_entry_eq]
  generalize (lg_sl vs ++ List.replicate (nL - (lg_sl vs).length) Slot.unset).toArray = ls at hl ⊢
  exact h p e s m _ below meth c s.heap [] ls hB (by have := hP.2.1; omega) B.exec B.bytes hml B.returns (findClass_of_methodNamed B.named) B.notSynchronized (fun hi => (name_of_methodNamed B.named B.method).1.trans (hini hi)) (fun w hw => hts0 w (List.mem_cons_of_mem _ hw)) hC hP va_S.rf hl
theorem evc_run (hp : pc + 3 = q) {As2 : Array Value}
    (hrun : ∀ (p : Program) (e : Env) (s : State) (m : MethodId) (args : Array Value) (below : List Frame) (meth : Method) (c : Code) (H : Heap) (locs : List Loc) (ls : Array Slot),
      (∀ k, gA G k = base + k) → p.tables.exec = Jvm.exec → c.code = cc → c.maxLocals = nL → s.vm.findClass own = some m.cls → (∀ w ∈ AW, w.before args s = true) → C0 G s → PW G base n fl mem H → lv_has ls nL lv →
      va_Run p (gL G) e { frames := d, cells := mc, slots := ms, locals := 64 * d } s m args below meth c H locs kc ks mc2 ms2 (F0 m pc ls stk) st (EQC G base Q2 As2) (aB base))
    (kk : ∀ n2 fl2 mem2, Q2 n2 fl2 mem2 → EvC G base cc nL own ini d mc ms Q q lv st n2 fl2 mem2 (kc + mc2) (ks + ms2)) : EvC G base cc nL own ini d mc ms Q pc lv stk n fl mem kc ks := by
  subst hp
  intro p e s m args below meth c H locs ls g1 g2 hx hb hml hr hown hlk hin2 hts hC hP hS hl
  have hR := hrun p e s m args below meth c H locs ls g1 hx hb hml hown hts hC hP hl
  intro T hT X
  obtain ⟨v, st₀, t, T', L, h0, X', hL, e1, e4, ⟨⟨hvv, n2, fl2, mem2, hQ2, hW⟩, hz, hk⟩, go⟩ := hR T hT X
  cases hvv
  rw [h0] at hz hk
  have hS1 : va_S (aB base) s.heap T'.heap (locs ++ L) := ⟨Nat.le_trans hS.1 (by rw [e1]; exact hz), fun q h1 h2 => by rw [e1, hk q (Nat.lt_of_lt_of_le h1 hS.1) h2]; exact hS.2.1 q h1 h2, fun q hq => by
      rcases List.mem_append.mp hq with h | h
      · exact hS.2.2 q h
      · exact hL q h⟩
  obtain ⟨t2, a1, b1⟩ := kk n2 fl2 mem2 hQ2 p e s m args below meth c T'.heap (locs ++ L) ls g1 g2 hx hb hml hr hown hlk hin2 hts hC (by rw [e1]; exact hW) hS1 hl T' rfl X'
  exact ⟨t2, go t2 a1, b1⟩
theorem pcC_blind : FrameBlind (va_Pc vs (fun U => PW G base n fl mem U.heap ∧ C0 G U ∧ (∀ k, gA G k = base + k))) := fun a U g mk h => ⟨h.1, h.2.1, h.2.2.1.same rfl, h.2.2.2⟩
theorem evc_callI {b : Nat} (hd : decode cc pc = .ok (.invokespecial index, 3)) (hp : pc + 3 = q) (hL : Cond.methodLink own index y ∈ AW) (w1 : Cond.code y bytes maxL none ∈ AW) (w2 : Cond.instanceMethod y ∈ AW) (w3 : Cond.initialized y.cls ∈ AW) (hy : y.name = "<init>") (w5 : okD (some np) y) (hc : ConC G base y bytes maxL d2 mc2 ms2 (.ref (gA G b) :: As) n fl mem Q2) (hn : As.length = np) (hdd : d2 + 1 ≤ d) (hmx : maxL ≤ 40) (hst : stk = As.reverse ++ .ref (gA G b) :: st) (hcat : (st.map fun v => v.category).sum ≤ 8) (h1 : kc + mc2 ≤ mc) (h2 : ks + ms2 ≤ ms)
    (kk : ∀ n2 fl2 mem2, Q2 n2 fl2 mem2 → EvC G base cc nL own ini d mc ms Q q lv st n2 fl2 mem2 (kc + mc2) (ks + ms2)) : EvC G base cc nL own ini d mc ms Q pc lv stk n fl mem kc ks := by
  refine evc_run hp (As2 := (Value.ref (gA G b) :: As).toArray) (fun p e s m args below meth c H locs ls g1 hx hb hml hown hts hC hP hl => ?_) kk
  refine va_runI (As := As) (rest := st) (n := np) ⟨hx, hb, hml, hown, hts⟩ hc (cwI np hts (goodAW fun w hw => ?_) rfl rfl rfl (hts _ w3) (hts _ hL) (hts _ w2) hy w5 ⟨hdd, ?_⟩) ⟨pcC_blind, fun U hU hW => ⟨rfl, by rw [hU]; exact hP, hC.moved hW, g1⟩⟩ rfl hn hl.1 hst (lv_room hcat) hd ⟨h1, h2⟩
  · rcases List.mem_cons.mp hw with rfl | hw
    · exact w1
    · exact hw
  · show 8 + (maxL + 11) + 64 * d2 ≤ 64 * d
    omega
theorem evc_callIN {b : Nat} {host : String} (hd : decode cc pc = .ok (.invokespecial index, 3)) (hp : pc + 3 = q) (hL : Cond.methodLinkNest own index y host ∈ NW) (w1 : Cond.code y bytes maxL none ∈ AW) (w2 : Cond.instanceMethod y ∈ AW) (w3 : Cond.initialized y.cls ∈ AW) (hy : y.name = "<init>") (w5 : okD (some np) y) (hc : ConC G base y bytes maxL d2 mc2 ms2 (.ref (gA G b) :: As) n fl mem Q2) (hn : As.length = np) (hdd : d2 + 1 ≤ d) (hmx : maxL ≤ 40) (hst : stk = As.reverse ++ .ref (gA G b) :: st) (hcat : (st.map fun v => v.category).sum ≤ 8) (h1 : kc + mc2 ≤ mc) (h2 : ks + ms2 ≤ ms)
    (kk : ∀ n2 fl2 mem2, Q2 n2 fl2 mem2 → EvC G base cc nL own ini d mc ms Q q lv st n2 fl2 mem2 (kc + mc2) (ks + ms2)) : EvC G base cc nL own ini d mc ms Q pc lv stk n fl mem kc ks := by
  refine evc_run hp (As2 := (Value.ref (gA G b) :: As).toArray) (fun p e s m args below meth c H locs ls g1 hx hb hml hown hts hC hP hl => ?_) kk
  refine va_runIN (As := As) (rest := st) (n := np) ⟨hx, hb, hml, hown, hts⟩ hc ⟨va_cnB np hts (goodAW fun w hw => ?_) rfl rfl rfl (hC.2 _ hL) (hts _ w3) w5 ⟨hdd, ?_⟩, hy, hts _ w2⟩ ⟨pcC_blind, fun U hU hW => ⟨rfl, by rw [hU]; exact hP, hC.moved hW, g1⟩⟩ rfl hn hl.1 hst (lv_room hcat) hd ⟨h1, h2⟩
  · rcases List.mem_cons.mp hw with rfl | hw
    · exact w1
    · exact hw
  · show 8 + (maxL + 11) + 64 * d2 ≤ 64 * d
    omega
theorem evc_callS (hd : decode cc pc = .ok (.invokestatic index, 3)) (hp : pc + 3 = q) (hL : Cond.methodLink own index y ∈ AW) (hM : MTS y bytes maxL none np) (hc : ConC G base y bytes maxL d2 mc2 ms2 As n fl mem Q2) (hn : As.length = np) (hdd : d2 + 1 ≤ d) (hmx : maxL ≤ 40) (hst : stk = As.reverse ++ st) (hcat : (st.map fun v => v.category).sum ≤ 8) (h1 : kc + mc2 ≤ mc) (h2 : ks + ms2 ≤ ms)
    (kk : ∀ n2 fl2 mem2, Q2 n2 fl2 mem2 → EvC G base cc nL own ini d mc ms Q q lv st n2 fl2 mem2 (kc + mc2) (ks + ms2)) : EvC G base cc nL own ini d mc ms Q pc lv stk n fl mem kc ks := by
  refine evc_run hp (As2 := As.toArray) (fun p e s m args below meth c H locs ls g1 hx hb hml hown hts hC hP hl => ?_) kk
  obtain ⟨w1, w2, w4, w5⟩ := hM
  refine va_runS (As := As) (rest := st) (n := np) ⟨hx, hb, hml, hown, hts⟩ hc (va_cwS np hts (goodAW fun w hw => ?_) rfl rfl rfl w5 ⟨hdd, ?_⟩) ⟨pcC_blind, fun U hU hW => ⟨rfl, by rw [hU]; exact hP, hC.moved hW, g1⟩⟩ rfl hn hl.1 hst (lv_room hcat) hd ⟨h1, h2⟩
  · simp only [va_wsS, List.cons_append, List.nil_append, List.mem_cons] at hw
    rcases hw with rfl | rfl | rfl | rfl | hw
    · exact hL
    · exact w2
    · exact w4
    · exact w1
    · exact hw
  · show 8 + (maxL + 11) + 64 * d2 ≤ 64 * d
    omega
end RULESC
