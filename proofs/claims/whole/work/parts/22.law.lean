/-! ===== THE LAW'S BODY: its own judgement EvL (script b, the whole world behind the two constructors) ===== -/
def R_law : String := "AgingLettersLaw"
def lw_P (b : Addr) (xs : List Int32) (args : Array Value) (s : State) : Prop := args = #[.ref b] ∧ s.IntsAt b xs ∧ xs.length ≤ 3072 ∧ (Jvm.Cond.and given_1 narrow_1).before args s = true
def lw_Q (_ : Array Value) (s : State) (o : Outcome) (t : State) : Prop := o = .returned (some (.int 1)) ∧ Framed s o t [] 600000 7302250
def lw_Z (below : List Frame) (a : Array Value) (s : State) : State → Prop := fun t => ∃ o, t.status = .running ∧ Ended t below o ∧ lw_Q a s o t
theorem lw_ret {p : Program} {l : Launch} {e : Env} {s : State} {m : MethodId} {below : List Frame} {meth : Method} {c : Code} {b : Nat} (hx : p.tables.exec = Jvm.exec) (hb : c.code = code) (hr : meth.sig.returnType = ret) (hlocks : meth.locks = false) {pc : Nat} {H : Heap} {ls : Array Slot} (hdg : decode code pc = .ok (.ireturn, 1)) : W p l e room_1 s m #[Value.ref b] below meth c H [] 600000 7302250 (lw_Z below #[Value.ref b] s) (F0 m pc ls [.int 1]) := by
  intro T hT X
  obtain ⟨fs, hret, hrun, hended, hW, hframe⟩ := X.leave (v := some (.int 1)) (hlocks := hlocks) (fun h => by rw [hr] at h; cases h)
  have hmeth' : T.vm.method? m = some meth := X.method'
  refine ⟨T.setFrames fs, ?_, .returned (some (.int 1)), hrun, hended, rfl, ⟨_, rfl⟩, hW, hframe⟩
  jvm_step X.here [X.here.top, hx, hb, hdg, hmeth', hr, ret, narrow_b1]
  (try refine ⟨rfl, ?_⟩); (try refine ⟨rfl, ?_⟩)
  first | (intro acts; rw [hret _ acts rfl rfl rfl]) | rw [hret _ _ rfl rfl rfl]
  exact Steps.refl _
def lw_At (p : Program) (s : State) (m : MethodId) (meth : Method) (c : Code) (b L : Nat) (xs : Nat → Int32) : Prop :=
  p.tables.exec = Jvm.exec ∧ c.code = code ∧ meth.sig.returnType = ret ∧ c.maxLocals = 4 ∧ s.vm.findClass R_law = some m.cls ∧ (∀ w ∈ lw_tbl, w.before #[Value.ref b] s = true) ∧ va_X b L xs s s.heap ∧ b < s.heap.size ∧ meth.locks = false ∧ (Jvm.Cond.and given_1 narrow_1).before #[Value.ref b] s = true
/-- what stays so through the law's body -/
def LC (G : Gt) (p : Program) (s : State) (m : MethodId) (meth : Method) (c : Code) (b L : Nat) (xs : Nat → Int32) : Prop :=
  p.tables.exec = Jvm.exec ∧ c.code = code ∧ meth.sig.returnType = ret ∧ c.maxLocals = 4 ∧ s.vm.findClass RL = some m.cls ∧ (∀ w ∈ AW, w.before #[Value.ref b] s = true) ∧ va_X b L xs s s.heap ∧ b < s.heap.size ∧ meth.locks = false ∧ Ctx G s s.heap ∧ L ≤ 3072 ∧ (∀ k, k < NC → s.heap.size ≤ gA G k)
def EvL (G : Gt) (p : Program) (e : Env) (s : State) (m : MethodId) (below : List Frame) (meth : Method) (c : Code) (b kc ks : Nat) (pc : Nat) (lv : List (Nat × Value)) (st : List Value) (mem : Mem) : Prop :=
  ∀ (H : Heap) (locs : List Loc) (ls : Array Slot), va_P (gD G) vwCl (cells G mem) H → va_S (aB s.heap.size) s.heap H locs → lv_has ls 4 lv →
    W p (gL G) e room_1 s m #[Value.ref b] below meth c H locs kc ks (lw_Z below #[Value.ref b] s) (F0 m pc ls st)
section LAWR
variable {G : Gt} {p : Program} {e : Env} {s : State} {m : MethodId} {below : List Frame} {meth : Method} {c : Code} {b L kc ks : Nat} {xs : Nat → Int32} {pc q : Nat} {lv lv2 : List (Nat × Value)} {st stk : List Value} {mem : Mem}
theorem l_aload_n (C : LC G p s m meth c b L xs) {k : Fin 4} {i x : Nat} (hd : decode code pc = .ok (.aload_n k, 1)) (hi : (k : Nat) = i) (j : Nat) (hp : pc + 1 = q) (hj : lv[j]? = some (i, .ref x)) (kk : EvL G p e s m below meth c b kc ks q lv (.ref x :: st) mem) : EvL G p e s m below meth c b kc ks pc lv st mem := by
  subst hp
  exact fun H locs ls hP hS hl => lv_aload_n C.1 C.2.1 hd hi (lv_at hl j hj) (kk H locs ls hP hS hl)
theorem l_iload_n (C : LC G p s m meth c b L xs) {k : Fin 4} {i : Nat} {x : Int32} (hd : decode code pc = .ok (.iload_n k, 1)) (hi : (k : Nat) = i) (j : Nat) (hp : pc + 1 = q) (hj : lv[j]? = some (i, .int x)) (kk : EvL G p e s m below meth c b kc ks q lv (.int x :: st) mem) : EvL G p e s m below meth c b kc ks pc lv st mem := by
  subst hp
  exact fun H locs ls hP hS hl => lv_iload_n C.1 C.2.1 hd hi (lv_at hl j hj) (kk H locs ls hP hS hl)
theorem l_iconst (C : LC G p s m meth c b L xs) {k : Int} {v : Int32} (hd : decode code pc = .ok (.iconst k, 1)) (hp : pc + 1 = q) (hv0 : Int32.ofInt k = v) (kk : EvL G p e s m below meth c b kc ks q lv (.int v :: st) mem) : EvL G p e s m below meth c b kc ks pc lv st mem := by
  subst hp
  exact fun H locs ls hP hS hl => lv_iconst C.1 C.2.1 hd hv0 (kk H locs ls hP hS hl)
theorem l_bipush (C : LC G p s m meth c b L xs) {k : Int} {v : Int32} (hd : decode code pc = .ok (.bipush k, 2)) (hp : pc + 2 = q) (hv0 : (Int8.ofInt k).toInt32 = v) (kk : EvL G p e s m below meth c b kc ks q lv (.int v :: st) mem) : EvL G p e s m below meth c b kc ks pc lv st mem := by
  subst hp
  exact fun H locs ls hP hS hl => lv_bipush C.1 C.2.1 hd hv0 (kk H locs ls hP hS hl)
theorem l_iadd (C : LC G p s m meth c b L xs) {x y v : Int32} (hd : decode code pc = .ok (.iadd, 1)) (hp : pc + 1 = q) (hv : x + y = v) (kk : EvL G p e s m below meth c b kc ks q lv (.int v :: st) mem) : EvL G p e s m below meth c b kc ks pc lv (.int y :: .int x :: st) mem := by
  subst hp
  subst hv
  exact fun H locs ls hP hS hl => lv_iadd C.1 C.2.1 hd (kk H locs ls hP hS hl)
theorem l_isub (C : LC G p s m meth c b L xs) {x y : Int32} (hd : decode code pc = .ok (.isub, 1)) (hp : pc + 1 = q) (kk : EvL G p e s m below meth c b kc ks q lv (.int (x - y) :: st) mem) : EvL G p e s m below meth c b kc ks pc lv (.int y :: .int x :: st) mem := by
  subst hp
  exact fun H locs ls hP hS hl => lv_isub C.1 C.2.1 hd (kk H locs ls hP hS hl)
theorem l_iand (C : LC G p s m meth c b L xs) {x y v : Int32} (hd : decode code pc = .ok (.iand, 1)) (hp : pc + 1 = q) (hv : x &&& y = v) (kk : EvL G p e s m below meth c b kc ks q lv (.int v :: st) mem) : EvL G p e s m below meth c b kc ks pc lv (.int y :: .int x :: st) mem := by
  subst hp
  subst hv
  exact fun H locs ls hP hS hl => lv_iand C.1 C.2.1 hd (kk H locs ls hP hS hl)
theorem l_goto (C : LC G p s m meth c b L xs) {off : Int} {t : Nat} (hd : decode code pc = .ok (.goto off, 3)) (ht : (pc : Int) + off = (t : Int)) (kk : EvL G p e s m below meth c b kc ks t lv st mem) : EvL G p e s m below meth c b kc ks pc lv st mem :=
  fun H locs ls hP hS hl => lv_goto C.1 C.2.1 hd ht (kk H locs ls hP hS hl)
theorem l_iinc (C : LC G p s m meth c b L xs) {i : Nat} {k : Int} {x v : Int32} (hd : decode code pc = .ok (.iinc i k, 3)) (j : Nat) (hp : pc + 3 = q) (hj : lv[j]? = some (i, .int x)) (hv0 : x + Int32.ofInt k = v) (hn : i < 4) (hf : (i, Value.int v) :: lv.filter (fun q => !(q.1 == i) && !(q.1 + 1 == i && q.2.category == 2)) = lv2) (kk : EvL G p e s m below meth c b kc ks q lv2 st mem) : EvL G p e s m below meth c b kc ks pc lv st mem := by
  subst hp
  exact fun H locs ls hP hS hl => lv_iinc C.1 C.2.1 hd hl hj hv0 hn hf (fun ls hl => kk H locs ls hP hS hl)
theorem l_sub {lv' : List (Nat × Value)} (is : List Nat) (hl : lv_pick lv is = lv') (kk : EvL G p e s m below meth c b kc ks pc lv' st mem) : EvL G p e s m below meth c b kc ks pc lv st mem :=
  fun H locs ls hP hS hl2 => kk H locs ls hP hS (lv_sub hl2 is hl)
theorem l_icmp_gt (C : LC G p s m meth c b L xs) {x y : Int32} {off : Int} {t : Nat} (hd : decode code pc = .ok (.if_icmp .gt off, 3)) (ht : (pc : Int) + off = (t : Int)) (hp : pc + 3 = q) (k1 : y < x → EvL G p e s m below meth c b kc ks t lv st mem) (k2 : ¬ y < x → EvL G p e s m below meth c b kc ks q lv st mem) : EvL G p e s m below meth c b kc ks pc lv (.int y :: .int x :: st) mem := by
  subst hp
  exact fun H locs ls hP hS hl => lv_icmp_gt C.1 C.2.1 hd ht (fun h => k1 h H locs ls hP hS hl) (fun h => k2 h H locs ls hP hS hl)
theorem l_icmp_eq (C : LC G p s m meth c b L xs) {x : Int32} {off : Int} {t : Nat} (hd : decode code pc = .ok (.if_icmp .eq off, 3)) (ht : (pc : Int) + off = (t : Int)) (k1 : EvL G p e s m below meth c b kc ks t lv st mem) : EvL G p e s m below meth c b kc ks pc lv (.int x :: .int x :: st) mem :=
  fun H locs ls hP hS hl => lv_icmp_eq C.1 C.2.1 hd ht (fun _ => k1 H locs ls hP hS hl) (fun h => absurd rfl h)
theorem b_notA (C : LC G p s m meth c b L xs) : ¬ aB s.heap.size b := Nat.not_le.mpr C.2.2.2.2.2.2.2.1
theorem l_slen (C : LC G p s m meth c b L xs) (hd : decode code pc = .ok (.arraylength, 1)) (hp : pc + 1 = q) (kk : EvL G p e s m below meth c b kc ks q lv (.int (nI L) :: st) mem) : EvL G p e s m below meth c b kc ks pc lv (.ref b :: st) mem := by
  subst hp
  exact fun H locs ls hP hS hl => va_slen C.1 C.2.1 C.2.2.2.2.2.2.1 C.2.2.2.2.2.2.2.1 (b_notA C) hS hd (kk H locs ls hP hS hl)
theorem l_sld (C : LC G p s m meth c b L xs) {i : Nat} (hd : decode code pc = .ok (.iaload, 1)) (hp : pc + 1 = q) (hi : i < L) (kk : EvL G p e s m below meth c b kc ks q lv (.int (xs i) :: st) mem) : EvL G p e s m below meth c b kc ks pc lv (.int (nI i) :: .ref b :: st) mem := by
  subst hp
  intro H locs ls hP hS hl
  have hL := C.2.2.2.2.2.2.2.2.2.2.1
  have k := kk H locs ls hP hS hl
  refine va_sld C.1 C.2.1 C.2.2.2.2.2.2.1 C.2.2.2.2.2.2.2.1 (b_notA C) hS (vp_in_nI hi (by omega)) hd ?_
  rw [nI_clamp (by omega)]
  exact k
theorem l_tsIn (C : LC G p s m meth c b L xs) {dflt lo hi : Int} {offs : Array Int} {len : Nat} {x : Int32} {off : Int} {t : Nat} (hd : decode code pc = .ok (.tableswitch dflt lo hi offs, len)) (h1 : ¬ x.toInt < lo) (h2 : ¬ hi < x.toInt) (ho : offs[(x.toInt - lo).toNat]? = some off) (ht : (pc : Int) + off = (t : Int)) (kk : EvL G p e s m below meth c b kc ks t lv st mem) : EvL G p e s m below meth c b kc ks pc lv (.int x :: st) mem :=
  fun H locs ls hP hS hl => lv_tableIn C.1 C.2.1 hd h1 h2 ho ht (kk H locs ls hP hS hl)
theorem l_tsOut (C : LC G p s m meth c b L xs) {dflt lo hi : Int} {offs : Array Int} {len : Nat} {x : Int32} {t : Nat} (hd : decode code pc = .ok (.tableswitch dflt lo hi offs, len)) (h : x.toInt < lo ∨ hi < x.toInt) (ht : (pc : Int) + dflt = (t : Int)) (kk : EvL G p e s m below meth c b kc ks t lv st mem) : EvL G p e s m below meth c b kc ks pc lv (.int x :: st) mem :=
  fun H locs ls hP hS hl => lv_tableOut C.1 C.2.1 hd h ht (kk H locs ls hP hS hl)
theorem l_ret (C : LC G p s m meth c b L xs) (hkc : kc ≤ 600000) (hks : ks ≤ 7302250) (hd : decode code pc = .ok (.ireturn, 1)) : EvL G p e s m below meth c b kc ks pc lv [.int 1] mem := by
  intro H locs ls hP hS hl
  refine va_forget (fun q hq => hS.2.2 q hq) ?_
  refine W.widen (k := 600000) (n := 7302250) hkc hks ?_
  exact lw_ret C.1 C.2.1 C.2.2.1 C.2.2.2.2.2.2.2.2.1 hd
theorem l_callV (C : LC G p s m meth c b L xs) {y : MethodName} {bytes : ByteArray} {maxL : Nat} {d2 n index : Nat} {As : List Value} {o2 : Option (Int32 × Mem)} {r2 : Int32} {m2 : Mem} {K : String} {T : u_T} {ci b0 : Nat} {ret2 : Option FieldType} (hd : decode code pc = .ok (.invokevirtual index, 3)) (hp : pc + 3 = q) (hL : Cond.methodLink RL index y ∈ AW) (hM : MTV y bytes maxL ret2 n) (F : CF ci K T) (hC0 : y.cls = K) (hk : kd b0 = ci) (hci : ci < 100) (hc : Con tvI G y bytes maxL ret2 d2 (.ref (gA G b0) :: As) mem o2) (ho : o2 = some (r2, m2)) (hn : As.length = n) (hdd : d2 ≤ 100) (hkc : kc ≤ 600000) (hks : ks ≤ 7302250) (hmx : maxL ≤ 40) (hst : stk = As.reverse ++ .ref (gA G b0) :: st) (hcat : (st.map fun v => v.category).sum ≤ 8)
    (kk : EvL G p e s m below meth c b kc ks q lv (.int r2 :: st) m2) : EvL G p e s m below meth c b kc ks pc lv stk mem := by
  subst hp
  subst hC0
  intro H locs ls hP hS hl
  obtain ⟨hx, hb, hr, hml, hown, hts, hX, hbl, hlk, hC, hLL, hBig⟩ := C
  obtain ⟨hc0, -⟩ := F
  obtain ⟨w1, w2, w3, w4, w5⟩ := hM
  have he := cells_at (G := G) (mem := mem) (kd_lt hk (by omega))
  rw [cellE_o hk hci] at he
  have hS0 : va_S (gF G) s.heap H [] := ⟨hS.1, fun q h1 _ => hS.2.1 q h1 (Nat.not_le.mpr h1), fun _ h => by cases h⟩
  have hR : va_Run p (gL G) e room_1 s m #[Value.ref b] below meth c H locs kc ks 0 0 (F0 m pc ls stk) st (EQ G (tvI r2) m2 (Value.ref (gA G b0) :: As).toArray) (gF G) := by
    refine va_runV (As := As) (rest := st) (n := n) (C := y.cls) (cc := code) (nL := 4) ⟨hx, hb, hml, hown, hts⟩ (hc r2 m2 ho) (cwV n hts (goodAW fun w hw => ?_) rfl rfl rfl ⟨rfl, w5⟩ ⟨?_, ?_⟩) ⟨pc_blind, va_recv hC.1 hP hc0 he, pc_pre hC hP hS0⟩ rfl hn hl.1 hst (lv_room hcat) hd ⟨?_, ?_⟩
    · simp only [wsV, List.cons_append, List.nil_append, List.mem_cons] at hw
      rcases hw with rfl | rfl | rfl | rfl | rfl | hw
      · exact hL
      · exact w2
      · exact w3
      · exact w4
      · exact w1
      · exact hw
    · show d2 + 1 ≤ 2048
      omega
    · show 8 + (maxL + 11) + 64 * d2 ≤ 84000
      omega
    · show kc + 0 ≤ 600000
      omega
    · show ks + 0 ≤ 7302250
      omega
  intro T hT X
  obtain ⟨v, st₀, t, T', L1, h0, X', hL1, e1, e4, ⟨⟨hvv, hW⟩, hz, hk2⟩, go⟩ := hR T hT X
  cases hvv
  rw [h0] at hz hk2
  have hgf : ∀ q, gF G q → s.heap.size ≤ q := fun q ⟨k, h1, h2⟩ => by rw [h2]; exact hBig k h1
  have hS1 : va_S (aB s.heap.size) s.heap T'.heap (locs ++ L1) := ⟨Nat.le_trans hS.1 (by rw [e1]; exact hz), fun q h1 h2 => by rw [e1, hk2 q (Nat.lt_of_lt_of_le h1 hS.1) (fun z => h2 (hgf q z))]; exact hS.2.1 q h1 h2, fun q hq => by
      rcases List.mem_append.mp hq with h | h
      · exact hS.2.2 q h
      · exact hgf _ (hL1 q h)⟩
  obtain ⟨t2, a1, b1⟩ := kk T'.heap (locs ++ L1) ls (by rw [e1]; exact hW.1) hS1 hl T' rfl X'
  exact ⟨t2, go t2 a1, b1⟩
-- the two objects are made: rows at the machine's own level
theorem w_new {R : Room} {Q : State → Prop} {cc : ByteArray} {ls : Array Slot} {H : Heap} {locs : List Loc} {base n nn : Nat} {fl : Nat → Nat → Bool} {own : String} {args : Array Value} (g1 : ∀ k, gA G k = base + k) (g2 : base ≤ s.heap.size) (hx : p.tables.exec = Jvm.exec) (hb : c.code = cc) (hown : s.vm.findClass own = some m.cls) (hts : ∀ w ∈ AW, w.before args s = true) (hC : C0 G s) {index : Nat} {K : String} {T : u_T} {ci : Nat} (hd : decode cc pc = .ok (.new index, 3)) (hnn : n + 1 = nn) (F : CF ci K T) (hk : kd n = ci) (hci : ci < 100) (hdf : ∀ (ty : Nat → FieldType), (∀ k, k < nf ci → parseFieldDescriptor (T k).2.2.1 = some (ty k)) → ∀ j, j < nf ci → defaultValue (ty j) = if ir ci j = true then .null else .int 0) (w1 : Cond.classLink own index K ∈ AW) (w2 : Cond.instantiable K (nf ci) ∈ AW) (w3 : Cond.initialized K ∈ AW) (hfl : fl n = fun _ => false) (h1 : kc + 1 ≤ R.cells) (h2 : ks + nf ci ≤ R.slots) (hP : PW G base n fl mem H) (hS : va_S (aB base) s.heap H locs)
    (kk : ∀ H1, PW G base nn fl mem H1 → va_S (aB base) s.heap H1 locs → W p (gL G) e R s m args below meth c H1 locs (kc + 1) (ks + nf ci) Q (F0 m (pc + 3) ls (.ref (gA G n) :: st))) : W p (gL G) e R s m args below meth c H locs kc ks Q (F0 m pc ls st) := by
  subst hnn
  obtain ⟨hc, hin1, ⟨ty0, hty0⟩, hnm⟩ := F
  have hKn := hC.1.1 ci _ hc
  refine W.newcK hx hb hown (hts _ w1) (hts _ w2) (hts _ w3) rfl hd h1 h2 hKn.2.1 hP.2.1 fun H1 kC hkC e1 z1 o1 => ?_
  have hsz := hP.2.1
  have hold : va_P (gD G) vwCl (cellsN G n fl mem) H1 := hP.1.kept (fun k x hx => o1 x.1 (by have := ((hP.1 k x hx).lt); omega))
  have hnew : va_P (gD G) vwCl (cellsN G (n + 1) fl mem) H1 := by
    rw [cn_succ]
    refine hold.app (fun k x hx => ?_)
    have hz : k < 1 := (List.getElem?_eq_some_iff.mp hx).1
    rw [show k = 0 by omega] at hx
    cases hx
    rw [cellF_o hk hci]
    refine ⟨_, hc, ?_⟩
    rw [g1 n]
    refine (u_born ty0 hts hin1 hKn hkC e1 hty0).to fun j hj => ?_
    rw [hdf ty0 hty0 j hj]
    show _ = ((List.range (nf ci)).map (fVn G n (fl n) (mem n))).getD j .null
    rw [List.getD_eq_getElem?_getD, fn_at hj]
    show _ = fVn G n (fl n) (mem n) j
    unfold fVn
    rw [hk, hfl, hP.2.2 n (Nat.le_refl n)]
    rfl
  have hbn : base + n = gA G n := (g1 n).symm
  have hfin : PW G base (n + 1) fl mem H1 := ⟨hnew, by rw [z1]; omega, fun k hk => hP.2.2 k (by omega)⟩
  have hS1 : va_S (aB base) s.heap H1 locs := ⟨by have := hS.1; omega, fun x h1 h2 => (o1 x (by have := hS.1; omega)).trans (hS.2.1 x h1 h2), hS.2.2⟩
  have := kk H1 hfin hS1
  rw [← hbn] at this
  exact this
theorem w_callI {R : Room} {Q : State → Prop} {cc : ByteArray} {nL : Nat} {ls : Array Slot} {H : Heap} {locs : List Loc} {base n : Nat} {fl : Nat → Nat → Bool} {own : String} {args : Array Value} (g1 : ∀ k, gA G k = base + k) (hx : p.tables.exec = Jvm.exec) (hb : c.code = cc) (hml : c.maxLocals = nL) (hown : s.vm.findClass own = some m.cls) (hts : ∀ w ∈ AW, w.before args s = true) (hC : C0 G s) {y : MethodName} {bytes : ByteArray} {maxL d2 mc2 ms2 np index b0 : Nat} {Q2 : Nat → (Nat → Nat → Bool) → Mem → Prop} {As : List Value} (hd : decode cc pc = .ok (.invokespecial index, 3)) (hL : Cond.methodLink own index y ∈ AW) (w1 : Cond.code y bytes maxL none ∈ AW) (w2 : Cond.instanceMethod y ∈ AW) (w3 : Cond.initialized y.cls ∈ AW) (hy : y.name = "<init>") (w5 : okD (some np) y) (hc : ConC G base y bytes maxL d2 mc2 ms2 (.ref (gA G b0) :: As) n fl mem Q2) (hn : As.length = np) (hdd : d2 + 1 ≤ R.frames) (hmx : 8 + (maxL + 11) + 64 * d2 ≤ R.locals) (hst : stk = As.reverse ++ .ref (gA G b0) :: st) (hcat : (st.map fun v => v.category).sum ≤ 8) (h1 : kc + mc2 ≤ R.cells) (h2 : ks + ms2 ≤ R.slots) (hP : PW G base n fl mem H) (hS : va_S (aB base) s.heap H locs) (hl : lv_has ls nL lv)
    (kk : ∀ n2 fl2 mem2 H1 locs1, Q2 n2 fl2 mem2 → PW G base n2 fl2 mem2 H1 → va_S (aB base) s.heap H1 locs1 → W p (gL G) e R s m args below meth c H1 locs1 (kc + mc2) (ks + ms2) Q (F0 m (pc + 3) ls st)) : W p (gL G) e R s m args below meth c H locs kc ks Q (F0 m pc ls stk) := by
  have hR : va_Run p (gL G) e R s m args below meth c H locs kc ks mc2 ms2 (F0 m pc ls stk) st (EQC G base Q2 (Value.ref (gA G b0) :: As).toArray) (aB base) := by
    refine va_runI (As := As) (rest := st) (n := np) ⟨hx, hb, hml, hown, hts⟩ hc (cwI np hts (goodAW fun w hw => ?_) rfl rfl rfl (hts _ w3) (hts _ hL) (hts _ w2) hy w5 ⟨hdd, hmx⟩) ⟨pcC_blind, fun U hU hW => ⟨rfl, by rw [hU]; exact hP, hC.moved hW, g1⟩⟩ rfl hn hl.1 hst (lv_room hcat) hd ⟨h1, h2⟩
    rcases List.mem_cons.mp hw with rfl | hw
    · exact w1
    · exact hw
  intro T hT X
  obtain ⟨v, st₀, t, T', L1, h0, X', hL1, e1, e4, ⟨⟨hvv, n2, fl2, mem2, hQ2, hW⟩, hz, hk2⟩, go⟩ := hR T hT X
  cases hvv
  rw [h0] at hz hk2
  have hS1 : va_S (aB base) s.heap T'.heap (locs ++ L1) := ⟨Nat.le_trans hS.1 (by rw [e1]; exact hz), fun q h1 h2 => by rw [e1, hk2 q (Nat.lt_of_lt_of_le h1 hS.1) h2]; exact hS.2.1 q h1 h2, fun q hq => by
      rcases List.mem_append.mp hq with h | h
      · exact hS.2.2 q h
      · exact hL1 q h⟩
  obtain ⟨t2, a1, b1⟩ := kk n2 fl2 mem2 T'.heap (locs ++ L1) hQ2 (by rw [e1]; exact hW) hS1 T' rfl X'
  exact ⟨t2, go t2 a1, b1⟩
end LAWR
theorem ni_p (i k : Nat) {c : Int32} (h : c = nI k) : nI i + c = nI (i + k) := by rw [h]; exact nI_add i k

def KCL : Nat := 73
def KSL : Nat := 3469
theorem dL_law_0 : decode code 0 = .ok (.new 7, 3) := by decide +kernel
theorem dL_law_3 : decode code 3 = .ok (.dup, 1) := by decide +kernel
theorem dL_law_4 : decode code 4 = .ok (.invokespecial 9, 3) := by decide +kernel
theorem dL_law_7 : decode code 7 = .ok (.astore_n 1, 1) := by decide +kernel
theorem dL_law_8 : decode code 8 = .ok (.new 10, 3) := by decide +kernel
theorem dL_law_11 : decode code 11 = .ok (.dup, 1) := by decide +kernel
theorem dL_law_12 : decode code 12 = .ok (.invokespecial 12, 3) := by decide +kernel
theorem dL_law_15 : decode code 15 = .ok (.astore_n 2, 1) := by decide +kernel
theorem dL_law_16 : decode code 16 = .ok (.iconst 0, 1) := by decide +kernel
theorem dL_law_17 : decode code 17 = .ok (.istore_n 3, 1) := by decide +kernel
theorem dL_law_18 : decode code 18 = .ok (.iload_n 3, 1) := by decide +kernel
theorem dL_law_19 : decode code 19 = .ok (.aload_n 0, 1) := by decide +kernel
theorem dL_law_20 : decode code 20 = .ok (.arraylength, 1) := by decide +kernel
theorem dL_law_21 : decode code 21 = .ok (.bipush 6, 2) := by decide +kernel
theorem dL_law_23 : decode code 23 = .ok (.isub, 1) := by decide +kernel
theorem dL_law_24 : decode code 24 = .ok (.if_icmp .gt 1168, 3) := by decide +kernel
theorem dL_law_27 : decode code 27 = .ok (.aload_n 0, 1) := by decide +kernel
theorem dL_law_28 : decode code 28 = .ok (.iload_n 3, 1) := by decide +kernel
theorem dL_law_29 : decode code 29 = .ok (.iaload, 1) := by decide +kernel
theorem dL_law_30 : decode code 30 = .ok (.bipush 63, 2) := by decide +kernel
theorem dL_law_32 : decode code 32 = .ok (.iand, 1) := by decide +kernel
theorem dL_law_33 : decode code 33 = .ok (.tableswitch 1153 0 33 #[151, 194, 237, 300, 323, 346, 359, 372, 405, 448, 481, 494, 507, 540, 573, 606, 629, 652, 685, 708, 741, 774, 797, 820, 863, 916, 959, 982, 1005, 1028, 1061, 1094, 1117, 1140], 151) := by decide +kernel
theorem dL_law_184 : decode code 184 = .ok (.aload_n 1, 1) := by decide +kernel
theorem dL_law_185 : decode code 185 = .ok (.aload_n 0, 1) := by decide +kernel
theorem dL_law_186 : decode code 186 = .ok (.iload_n 3, 1) := by decide +kernel
theorem dL_law_187 : decode code 187 = .ok (.iconst 1, 1) := by decide +kernel
theorem dL_law_188 : decode code 188 = .ok (.iadd, 1) := by decide +kernel
theorem dL_law_189 : decode code 189 = .ok (.iaload, 1) := by decide +kernel
theorem dL_law_190 : decode code 190 = .ok (.aload_n 0, 1) := by decide +kernel
theorem dL_law_191 : decode code 191 = .ok (.iload_n 3, 1) := by decide +kernel
theorem dL_law_192 : decode code 192 = .ok (.iconst 2, 1) := by decide +kernel
theorem dL_law_193 : decode code 193 = .ok (.iadd, 1) := by decide +kernel
theorem dL_law_194 : decode code 194 = .ok (.iaload, 1) := by decide +kernel
theorem dL_law_195 : decode code 195 = .ok (.aload_n 0, 1) := by decide +kernel
theorem dL_law_196 : decode code 196 = .ok (.iload_n 3, 1) := by decide +kernel
theorem dL_law_197 : decode code 197 = .ok (.iconst 3, 1) := by decide +kernel
theorem dL_law_198 : decode code 198 = .ok (.iadd, 1) := by decide +kernel
theorem dL_law_199 : decode code 199 = .ok (.iaload, 1) := by decide +kernel
theorem dL_law_200 : decode code 200 = .ok (.invokevirtual 13, 3) := by decide +kernel
theorem dL_law_203 : decode code 203 = .ok (.aload_n 2, 1) := by decide +kernel
theorem dL_law_204 : decode code 204 = .ok (.aload_n 0, 1) := by decide +kernel
theorem dL_law_205 : decode code 205 = .ok (.iload_n 3, 1) := by decide +kernel
theorem dL_law_206 : decode code 206 = .ok (.iconst 1, 1) := by decide +kernel
theorem dL_law_207 : decode code 207 = .ok (.iadd, 1) := by decide +kernel
theorem dL_law_208 : decode code 208 = .ok (.iaload, 1) := by decide +kernel
theorem dL_law_209 : decode code 209 = .ok (.aload_n 0, 1) := by decide +kernel
theorem dL_law_210 : decode code 210 = .ok (.iload_n 3, 1) := by decide +kernel
theorem dL_law_211 : decode code 211 = .ok (.iconst 2, 1) := by decide +kernel
theorem dL_law_212 : decode code 212 = .ok (.iadd, 1) := by decide +kernel
theorem dL_law_213 : decode code 213 = .ok (.iaload, 1) := by decide +kernel
theorem dL_law_214 : decode code 214 = .ok (.aload_n 0, 1) := by decide +kernel
theorem dL_law_215 : decode code 215 = .ok (.iload_n 3, 1) := by decide +kernel
theorem dL_law_216 : decode code 216 = .ok (.iconst 3, 1) := by decide +kernel
theorem dL_law_217 : decode code 217 = .ok (.iadd, 1) := by decide +kernel
theorem dL_law_218 : decode code 218 = .ok (.iaload, 1) := by decide +kernel
theorem dL_law_219 : decode code 219 = .ok (.invokevirtual 17, 3) := by decide +kernel
theorem dL_law_222 : decode code 222 = .ok (.if_icmp .eq 964, 3) := by decide +kernel
theorem dL_law_225 : decode code 225 = .ok (.iconst 0, 1) := by decide +kernel
theorem dL_law_226 : decode code 226 = .ok (.ireturn, 1) := by decide +kernel
theorem dL_law_227 : decode code 227 = .ok (.aload_n 1, 1) := by decide +kernel
theorem dL_law_228 : decode code 228 = .ok (.aload_n 0, 1) := by decide +kernel
theorem dL_law_229 : decode code 229 = .ok (.iload_n 3, 1) := by decide +kernel
theorem dL_law_230 : decode code 230 = .ok (.iconst 1, 1) := by decide +kernel
theorem dL_law_231 : decode code 231 = .ok (.iadd, 1) := by decide +kernel
theorem dL_law_232 : decode code 232 = .ok (.iaload, 1) := by decide +kernel
theorem dL_law_233 : decode code 233 = .ok (.aload_n 0, 1) := by decide +kernel
theorem dL_law_234 : decode code 234 = .ok (.iload_n 3, 1) := by decide +kernel
theorem dL_law_235 : decode code 235 = .ok (.iconst 2, 1) := by decide +kernel
theorem dL_law_236 : decode code 236 = .ok (.iadd, 1) := by decide +kernel
theorem dL_law_237 : decode code 237 = .ok (.iaload, 1) := by decide +kernel
theorem dL_law_238 : decode code 238 = .ok (.aload_n 0, 1) := by decide +kernel
theorem dL_law_239 : decode code 239 = .ok (.iload_n 3, 1) := by decide +kernel
theorem dL_law_240 : decode code 240 = .ok (.iconst 3, 1) := by decide +kernel
theorem dL_law_241 : decode code 241 = .ok (.iadd, 1) := by decide +kernel
theorem dL_law_242 : decode code 242 = .ok (.iaload, 1) := by decide +kernel
theorem dL_law_243 : decode code 243 = .ok (.invokevirtual 18, 3) := by decide +kernel
theorem dL_law_246 : decode code 246 = .ok (.aload_n 2, 1) := by decide +kernel
theorem dL_law_247 : decode code 247 = .ok (.aload_n 0, 1) := by decide +kernel
theorem dL_law_248 : decode code 248 = .ok (.iload_n 3, 1) := by decide +kernel
theorem dL_law_249 : decode code 249 = .ok (.iconst 1, 1) := by decide +kernel
theorem dL_law_250 : decode code 250 = .ok (.iadd, 1) := by decide +kernel
theorem dL_law_251 : decode code 251 = .ok (.iaload, 1) := by decide +kernel
theorem dL_law_252 : decode code 252 = .ok (.aload_n 0, 1) := by decide +kernel
theorem dL_law_253 : decode code 253 = .ok (.iload_n 3, 1) := by decide +kernel
theorem dL_law_254 : decode code 254 = .ok (.iconst 2, 1) := by decide +kernel
theorem dL_law_255 : decode code 255 = .ok (.iadd, 1) := by decide +kernel
theorem dL_law_256 : decode code 256 = .ok (.iaload, 1) := by decide +kernel
theorem dL_law_257 : decode code 257 = .ok (.aload_n 0, 1) := by decide +kernel
theorem dL_law_258 : decode code 258 = .ok (.iload_n 3, 1) := by decide +kernel
theorem dL_law_259 : decode code 259 = .ok (.iconst 3, 1) := by decide +kernel
theorem dL_law_260 : decode code 260 = .ok (.iadd, 1) := by decide +kernel
theorem dL_law_261 : decode code 261 = .ok (.iaload, 1) := by decide +kernel
theorem dL_law_262 : decode code 262 = .ok (.invokevirtual 21, 3) := by decide +kernel
theorem dL_law_265 : decode code 265 = .ok (.if_icmp .eq 921, 3) := by decide +kernel
theorem dL_law_268 : decode code 268 = .ok (.iconst 0, 1) := by decide +kernel
theorem dL_law_269 : decode code 269 = .ok (.ireturn, 1) := by decide +kernel
theorem dL_law_270 : decode code 270 = .ok (.aload_n 1, 1) := by decide +kernel
theorem dL_law_271 : decode code 271 = .ok (.aload_n 0, 1) := by decide +kernel
theorem dL_law_272 : decode code 272 = .ok (.iload_n 3, 1) := by decide +kernel
theorem dL_law_273 : decode code 273 = .ok (.iconst 1, 1) := by decide +kernel
theorem dL_law_274 : decode code 274 = .ok (.iadd, 1) := by decide +kernel
theorem dL_law_275 : decode code 275 = .ok (.iaload, 1) := by decide +kernel
theorem dL_law_276 : decode code 276 = .ok (.aload_n 0, 1) := by decide +kernel
theorem dL_law_277 : decode code 277 = .ok (.iload_n 3, 1) := by decide +kernel
theorem dL_law_278 : decode code 278 = .ok (.iconst 2, 1) := by decide +kernel
theorem dL_law_279 : decode code 279 = .ok (.iadd, 1) := by decide +kernel
theorem dL_law_280 : decode code 280 = .ok (.iaload, 1) := by decide +kernel
theorem dL_law_281 : decode code 281 = .ok (.aload_n 0, 1) := by decide +kernel
theorem dL_law_282 : decode code 282 = .ok (.iload_n 3, 1) := by decide +kernel
theorem dL_law_283 : decode code 283 = .ok (.iconst 3, 1) := by decide +kernel
theorem dL_law_284 : decode code 284 = .ok (.iadd, 1) := by decide +kernel
theorem dL_law_285 : decode code 285 = .ok (.iaload, 1) := by decide +kernel
theorem dL_law_286 : decode code 286 = .ok (.aload_n 0, 1) := by decide +kernel
theorem dL_law_287 : decode code 287 = .ok (.iload_n 3, 1) := by decide +kernel
theorem dL_law_288 : decode code 288 = .ok (.iconst 4, 1) := by decide +kernel
theorem dL_law_289 : decode code 289 = .ok (.iadd, 1) := by decide +kernel
theorem dL_law_290 : decode code 290 = .ok (.iaload, 1) := by decide +kernel
theorem dL_law_291 : decode code 291 = .ok (.aload_n 0, 1) := by decide +kernel
theorem dL_law_292 : decode code 292 = .ok (.iload_n 3, 1) := by decide +kernel
theorem dL_law_293 : decode code 293 = .ok (.iconst 5, 1) := by decide +kernel
theorem dL_law_294 : decode code 294 = .ok (.iadd, 1) := by decide +kernel
theorem dL_law_295 : decode code 295 = .ok (.iaload, 1) := by decide +kernel
theorem dL_law_296 : decode code 296 = .ok (.invokevirtual 22, 3) := by decide +kernel
theorem dL_law_299 : decode code 299 = .ok (.aload_n 2, 1) := by decide +kernel
theorem dL_law_300 : decode code 300 = .ok (.aload_n 0, 1) := by decide +kernel
theorem dL_law_301 : decode code 301 = .ok (.iload_n 3, 1) := by decide +kernel
theorem dL_law_302 : decode code 302 = .ok (.iconst 1, 1) := by decide +kernel
theorem dL_law_303 : decode code 303 = .ok (.iadd, 1) := by decide +kernel
theorem dL_law_304 : decode code 304 = .ok (.iaload, 1) := by decide +kernel
theorem dL_law_305 : decode code 305 = .ok (.aload_n 0, 1) := by decide +kernel
theorem dL_law_306 : decode code 306 = .ok (.iload_n 3, 1) := by decide +kernel
theorem dL_law_307 : decode code 307 = .ok (.iconst 2, 1) := by decide +kernel
theorem dL_law_308 : decode code 308 = .ok (.iadd, 1) := by decide +kernel
theorem dL_law_309 : decode code 309 = .ok (.iaload, 1) := by decide +kernel
theorem dL_law_310 : decode code 310 = .ok (.aload_n 0, 1) := by decide +kernel
theorem dL_law_311 : decode code 311 = .ok (.iload_n 3, 1) := by decide +kernel
theorem dL_law_312 : decode code 312 = .ok (.iconst 3, 1) := by decide +kernel
theorem dL_law_313 : decode code 313 = .ok (.iadd, 1) := by decide +kernel
theorem dL_law_314 : decode code 314 = .ok (.iaload, 1) := by decide +kernel
theorem dL_law_315 : decode code 315 = .ok (.aload_n 0, 1) := by decide +kernel
theorem dL_law_316 : decode code 316 = .ok (.iload_n 3, 1) := by decide +kernel
theorem dL_law_317 : decode code 317 = .ok (.iconst 4, 1) := by decide +kernel
theorem dL_law_318 : decode code 318 = .ok (.iadd, 1) := by decide +kernel
theorem dL_law_319 : decode code 319 = .ok (.iaload, 1) := by decide +kernel
theorem dL_law_320 : decode code 320 = .ok (.aload_n 0, 1) := by decide +kernel
theorem dL_law_321 : decode code 321 = .ok (.iload_n 3, 1) := by decide +kernel
theorem dL_law_322 : decode code 322 = .ok (.iconst 5, 1) := by decide +kernel
theorem dL_law_323 : decode code 323 = .ok (.iadd, 1) := by decide +kernel
theorem dL_law_324 : decode code 324 = .ok (.iaload, 1) := by decide +kernel
theorem dL_law_325 : decode code 325 = .ok (.invokevirtual 26, 3) := by decide +kernel
theorem dL_law_328 : decode code 328 = .ok (.if_icmp .eq 858, 3) := by decide +kernel
theorem dL_law_331 : decode code 331 = .ok (.iconst 0, 1) := by decide +kernel
theorem dL_law_332 : decode code 332 = .ok (.ireturn, 1) := by decide +kernel
theorem dL_law_333 : decode code 333 = .ok (.aload_n 1, 1) := by decide +kernel
theorem dL_law_334 : decode code 334 = .ok (.aload_n 0, 1) := by decide +kernel
theorem dL_law_335 : decode code 335 = .ok (.iload_n 3, 1) := by decide +kernel
theorem dL_law_336 : decode code 336 = .ok (.iconst 1, 1) := by decide +kernel
theorem dL_law_337 : decode code 337 = .ok (.iadd, 1) := by decide +kernel
theorem dL_law_338 : decode code 338 = .ok (.iaload, 1) := by decide +kernel
theorem dL_law_339 : decode code 339 = .ok (.invokevirtual 27, 3) := by decide +kernel
theorem dL_law_342 : decode code 342 = .ok (.aload_n 2, 1) := by decide +kernel
theorem dL_law_343 : decode code 343 = .ok (.aload_n 0, 1) := by decide +kernel
theorem dL_law_344 : decode code 344 = .ok (.iload_n 3, 1) := by decide +kernel
theorem dL_law_345 : decode code 345 = .ok (.iconst 1, 1) := by decide +kernel
theorem dL_law_346 : decode code 346 = .ok (.iadd, 1) := by decide +kernel
theorem dL_law_347 : decode code 347 = .ok (.iaload, 1) := by decide +kernel
theorem dL_law_348 : decode code 348 = .ok (.invokevirtual 31, 3) := by decide +kernel
theorem dL_law_351 : decode code 351 = .ok (.if_icmp .eq 835, 3) := by decide +kernel
theorem dL_law_354 : decode code 354 = .ok (.iconst 0, 1) := by decide +kernel
theorem dL_law_355 : decode code 355 = .ok (.ireturn, 1) := by decide +kernel
theorem dL_law_356 : decode code 356 = .ok (.aload_n 1, 1) := by decide +kernel
theorem dL_law_357 : decode code 357 = .ok (.aload_n 0, 1) := by decide +kernel
theorem dL_law_358 : decode code 358 = .ok (.iload_n 3, 1) := by decide +kernel
theorem dL_law_359 : decode code 359 = .ok (.iconst 1, 1) := by decide +kernel
theorem dL_law_360 : decode code 360 = .ok (.iadd, 1) := by decide +kernel
theorem dL_law_361 : decode code 361 = .ok (.iaload, 1) := by decide +kernel
theorem dL_law_362 : decode code 362 = .ok (.invokevirtual 32, 3) := by decide +kernel
theorem dL_law_365 : decode code 365 = .ok (.aload_n 2, 1) := by decide +kernel
theorem dL_law_366 : decode code 366 = .ok (.aload_n 0, 1) := by decide +kernel
theorem dL_law_367 : decode code 367 = .ok (.iload_n 3, 1) := by decide +kernel
theorem dL_law_368 : decode code 368 = .ok (.iconst 1, 1) := by decide +kernel
theorem dL_law_369 : decode code 369 = .ok (.iadd, 1) := by decide +kernel
theorem dL_law_370 : decode code 370 = .ok (.iaload, 1) := by decide +kernel
theorem dL_law_371 : decode code 371 = .ok (.invokevirtual 35, 3) := by decide +kernel
theorem dL_law_374 : decode code 374 = .ok (.if_icmp .eq 812, 3) := by decide +kernel
theorem dL_law_377 : decode code 377 = .ok (.iconst 0, 1) := by decide +kernel
theorem dL_law_378 : decode code 378 = .ok (.ireturn, 1) := by decide +kernel
theorem dL_law_379 : decode code 379 = .ok (.aload_n 1, 1) := by decide +kernel
theorem dL_law_380 : decode code 380 = .ok (.invokevirtual 36, 3) := by decide +kernel
theorem dL_law_383 : decode code 383 = .ok (.aload_n 2, 1) := by decide +kernel
theorem dL_law_384 : decode code 384 = .ok (.invokevirtual 40, 3) := by decide +kernel
theorem dL_law_387 : decode code 387 = .ok (.if_icmp .eq 799, 3) := by decide +kernel
theorem dL_law_390 : decode code 390 = .ok (.iconst 0, 1) := by decide +kernel
theorem dL_law_391 : decode code 391 = .ok (.ireturn, 1) := by decide +kernel
theorem dL_law_392 : decode code 392 = .ok (.aload_n 1, 1) := by decide +kernel
theorem dL_law_393 : decode code 393 = .ok (.invokevirtual 41, 3) := by decide +kernel
theorem dL_law_396 : decode code 396 = .ok (.aload_n 2, 1) := by decide +kernel
theorem dL_law_397 : decode code 397 = .ok (.invokevirtual 44, 3) := by decide +kernel
theorem dL_law_400 : decode code 400 = .ok (.if_icmp .eq 786, 3) := by decide +kernel
theorem dL_law_403 : decode code 403 = .ok (.iconst 0, 1) := by decide +kernel
theorem dL_law_404 : decode code 404 = .ok (.ireturn, 1) := by decide +kernel
theorem dL_law_405 : decode code 405 = .ok (.aload_n 1, 1) := by decide +kernel
theorem dL_law_406 : decode code 406 = .ok (.aload_n 0, 1) := by decide +kernel
theorem dL_law_407 : decode code 407 = .ok (.iload_n 3, 1) := by decide +kernel
theorem dL_law_408 : decode code 408 = .ok (.iconst 1, 1) := by decide +kernel
theorem dL_law_409 : decode code 409 = .ok (.iadd, 1) := by decide +kernel
theorem dL_law_410 : decode code 410 = .ok (.iaload, 1) := by decide +kernel
theorem dL_law_411 : decode code 411 = .ok (.aload_n 0, 1) := by decide +kernel
theorem dL_law_412 : decode code 412 = .ok (.iload_n 3, 1) := by decide +kernel
theorem dL_law_413 : decode code 413 = .ok (.iconst 2, 1) := by decide +kernel
theorem dL_law_414 : decode code 414 = .ok (.iadd, 1) := by decide +kernel
theorem dL_law_415 : decode code 415 = .ok (.iaload, 1) := by decide +kernel
theorem dL_law_416 : decode code 416 = .ok (.invokevirtual 45, 3) := by decide +kernel
theorem dL_law_419 : decode code 419 = .ok (.aload_n 2, 1) := by decide +kernel
theorem dL_law_420 : decode code 420 = .ok (.aload_n 0, 1) := by decide +kernel
theorem dL_law_421 : decode code 421 = .ok (.iload_n 3, 1) := by decide +kernel
theorem dL_law_422 : decode code 422 = .ok (.iconst 1, 1) := by decide +kernel
theorem dL_law_423 : decode code 423 = .ok (.iadd, 1) := by decide +kernel
theorem dL_law_424 : decode code 424 = .ok (.iaload, 1) := by decide +kernel
theorem dL_law_425 : decode code 425 = .ok (.aload_n 0, 1) := by decide +kernel
theorem dL_law_426 : decode code 426 = .ok (.iload_n 3, 1) := by decide +kernel
theorem dL_law_427 : decode code 427 = .ok (.iconst 2, 1) := by decide +kernel
theorem dL_law_428 : decode code 428 = .ok (.iadd, 1) := by decide +kernel
theorem dL_law_429 : decode code 429 = .ok (.iaload, 1) := by decide +kernel
theorem dL_law_430 : decode code 430 = .ok (.invokevirtual 49, 3) := by decide +kernel
theorem dL_law_433 : decode code 433 = .ok (.if_icmp .eq 753, 3) := by decide +kernel
theorem dL_law_436 : decode code 436 = .ok (.iconst 0, 1) := by decide +kernel
theorem dL_law_437 : decode code 437 = .ok (.ireturn, 1) := by decide +kernel
theorem dL_law_438 : decode code 438 = .ok (.aload_n 1, 1) := by decide +kernel
theorem dL_law_439 : decode code 439 = .ok (.aload_n 0, 1) := by decide +kernel
theorem dL_law_440 : decode code 440 = .ok (.iload_n 3, 1) := by decide +kernel
theorem dL_law_441 : decode code 441 = .ok (.iconst 1, 1) := by decide +kernel
theorem dL_law_442 : decode code 442 = .ok (.iadd, 1) := by decide +kernel
theorem dL_law_443 : decode code 443 = .ok (.iaload, 1) := by decide +kernel
theorem dL_law_444 : decode code 444 = .ok (.aload_n 0, 1) := by decide +kernel
theorem dL_law_445 : decode code 445 = .ok (.iload_n 3, 1) := by decide +kernel
theorem dL_law_446 : decode code 446 = .ok (.iconst 2, 1) := by decide +kernel
theorem dL_law_447 : decode code 447 = .ok (.iadd, 1) := by decide +kernel
theorem dL_law_448 : decode code 448 = .ok (.iaload, 1) := by decide +kernel
theorem dL_law_449 : decode code 449 = .ok (.aload_n 0, 1) := by decide +kernel
theorem dL_law_450 : decode code 450 = .ok (.iload_n 3, 1) := by decide +kernel
theorem dL_law_451 : decode code 451 = .ok (.iconst 3, 1) := by decide +kernel
theorem dL_law_452 : decode code 452 = .ok (.iadd, 1) := by decide +kernel
theorem dL_law_453 : decode code 453 = .ok (.iaload, 1) := by decide +kernel
theorem dL_law_454 : decode code 454 = .ok (.invokevirtual 50, 3) := by decide +kernel
theorem dL_law_457 : decode code 457 = .ok (.aload_n 2, 1) := by decide +kernel
theorem dL_law_458 : decode code 458 = .ok (.aload_n 0, 1) := by decide +kernel
theorem dL_law_459 : decode code 459 = .ok (.iload_n 3, 1) := by decide +kernel
theorem dL_law_460 : decode code 460 = .ok (.iconst 1, 1) := by decide +kernel
theorem dL_law_461 : decode code 461 = .ok (.iadd, 1) := by decide +kernel
theorem dL_law_462 : decode code 462 = .ok (.iaload, 1) := by decide +kernel
theorem dL_law_463 : decode code 463 = .ok (.aload_n 0, 1) := by decide +kernel
theorem dL_law_464 : decode code 464 = .ok (.iload_n 3, 1) := by decide +kernel
theorem dL_law_465 : decode code 465 = .ok (.iconst 2, 1) := by decide +kernel
theorem dL_law_466 : decode code 466 = .ok (.iadd, 1) := by decide +kernel
theorem dL_law_467 : decode code 467 = .ok (.iaload, 1) := by decide +kernel
theorem dL_law_468 : decode code 468 = .ok (.aload_n 0, 1) := by decide +kernel
theorem dL_law_469 : decode code 469 = .ok (.iload_n 3, 1) := by decide +kernel
theorem dL_law_470 : decode code 470 = .ok (.iconst 3, 1) := by decide +kernel
theorem dL_law_471 : decode code 471 = .ok (.iadd, 1) := by decide +kernel
theorem dL_law_472 : decode code 472 = .ok (.iaload, 1) := by decide +kernel
theorem dL_law_473 : decode code 473 = .ok (.invokevirtual 53, 3) := by decide +kernel
theorem dL_law_476 : decode code 476 = .ok (.if_icmp .eq 710, 3) := by decide +kernel
theorem dL_law_479 : decode code 479 = .ok (.iconst 0, 1) := by decide +kernel
theorem dL_law_480 : decode code 480 = .ok (.ireturn, 1) := by decide +kernel
theorem dL_law_481 : decode code 481 = .ok (.aload_n 1, 1) := by decide +kernel
theorem dL_law_482 : decode code 482 = .ok (.aload_n 0, 1) := by decide +kernel
theorem dL_law_483 : decode code 483 = .ok (.iload_n 3, 1) := by decide +kernel
theorem dL_law_484 : decode code 484 = .ok (.iconst 1, 1) := by decide +kernel
theorem dL_law_485 : decode code 485 = .ok (.iadd, 1) := by decide +kernel
theorem dL_law_486 : decode code 486 = .ok (.iaload, 1) := by decide +kernel
theorem dL_law_487 : decode code 487 = .ok (.aload_n 0, 1) := by decide +kernel
theorem dL_law_488 : decode code 488 = .ok (.iload_n 3, 1) := by decide +kernel
theorem dL_law_489 : decode code 489 = .ok (.iconst 2, 1) := by decide +kernel
theorem dL_law_490 : decode code 490 = .ok (.iadd, 1) := by decide +kernel
theorem dL_law_491 : decode code 491 = .ok (.iaload, 1) := by decide +kernel
theorem dL_law_492 : decode code 492 = .ok (.invokevirtual 54, 3) := by decide +kernel
theorem dL_law_495 : decode code 495 = .ok (.aload_n 2, 1) := by decide +kernel
theorem dL_law_496 : decode code 496 = .ok (.aload_n 0, 1) := by decide +kernel
theorem dL_law_497 : decode code 497 = .ok (.iload_n 3, 1) := by decide +kernel
theorem dL_law_498 : decode code 498 = .ok (.iconst 1, 1) := by decide +kernel
theorem dL_law_499 : decode code 499 = .ok (.iadd, 1) := by decide +kernel
theorem dL_law_500 : decode code 500 = .ok (.iaload, 1) := by decide +kernel
theorem dL_law_501 : decode code 501 = .ok (.aload_n 0, 1) := by decide +kernel
theorem dL_law_502 : decode code 502 = .ok (.iload_n 3, 1) := by decide +kernel
theorem dL_law_503 : decode code 503 = .ok (.iconst 2, 1) := by decide +kernel
theorem dL_law_504 : decode code 504 = .ok (.iadd, 1) := by decide +kernel
theorem dL_law_505 : decode code 505 = .ok (.iaload, 1) := by decide +kernel
theorem dL_law_506 : decode code 506 = .ok (.invokevirtual 57, 3) := by decide +kernel
theorem dL_law_509 : decode code 509 = .ok (.if_icmp .eq 677, 3) := by decide +kernel
theorem dL_law_512 : decode code 512 = .ok (.iconst 0, 1) := by decide +kernel
theorem dL_law_513 : decode code 513 = .ok (.ireturn, 1) := by decide +kernel
theorem dL_law_514 : decode code 514 = .ok (.aload_n 1, 1) := by decide +kernel
theorem dL_law_515 : decode code 515 = .ok (.invokevirtual 58, 3) := by decide +kernel
theorem dL_law_518 : decode code 518 = .ok (.aload_n 2, 1) := by decide +kernel
theorem dL_law_519 : decode code 519 = .ok (.invokevirtual 61, 3) := by decide +kernel
theorem dL_law_522 : decode code 522 = .ok (.if_icmp .eq 664, 3) := by decide +kernel
theorem dL_law_525 : decode code 525 = .ok (.iconst 0, 1) := by decide +kernel
theorem dL_law_526 : decode code 526 = .ok (.ireturn, 1) := by decide +kernel
theorem dL_law_527 : decode code 527 = .ok (.aload_n 1, 1) := by decide +kernel
theorem dL_law_528 : decode code 528 = .ok (.invokevirtual 62, 3) := by decide +kernel
theorem dL_law_531 : decode code 531 = .ok (.aload_n 2, 1) := by decide +kernel
theorem dL_law_532 : decode code 532 = .ok (.invokevirtual 65, 3) := by decide +kernel
theorem dL_law_535 : decode code 535 = .ok (.if_icmp .eq 651, 3) := by decide +kernel
theorem dL_law_538 : decode code 538 = .ok (.iconst 0, 1) := by decide +kernel
theorem dL_law_539 : decode code 539 = .ok (.ireturn, 1) := by decide +kernel
theorem dL_law_540 : decode code 540 = .ok (.aload_n 1, 1) := by decide +kernel
theorem dL_law_541 : decode code 541 = .ok (.aload_n 0, 1) := by decide +kernel
theorem dL_law_542 : decode code 542 = .ok (.iload_n 3, 1) := by decide +kernel
theorem dL_law_543 : decode code 543 = .ok (.iconst 1, 1) := by decide +kernel
theorem dL_law_544 : decode code 544 = .ok (.iadd, 1) := by decide +kernel
theorem dL_law_545 : decode code 545 = .ok (.iaload, 1) := by decide +kernel
theorem dL_law_546 : decode code 546 = .ok (.aload_n 0, 1) := by decide +kernel
theorem dL_law_547 : decode code 547 = .ok (.iload_n 3, 1) := by decide +kernel
theorem dL_law_548 : decode code 548 = .ok (.iconst 2, 1) := by decide +kernel
theorem dL_law_549 : decode code 549 = .ok (.iadd, 1) := by decide +kernel
theorem dL_law_550 : decode code 550 = .ok (.iaload, 1) := by decide +kernel
theorem dL_law_551 : decode code 551 = .ok (.invokevirtual 66, 3) := by decide +kernel
theorem dL_law_554 : decode code 554 = .ok (.aload_n 2, 1) := by decide +kernel
theorem dL_law_555 : decode code 555 = .ok (.aload_n 0, 1) := by decide +kernel
theorem dL_law_556 : decode code 556 = .ok (.iload_n 3, 1) := by decide +kernel
theorem dL_law_557 : decode code 557 = .ok (.iconst 1, 1) := by decide +kernel
theorem dL_law_558 : decode code 558 = .ok (.iadd, 1) := by decide +kernel
theorem dL_law_559 : decode code 559 = .ok (.iaload, 1) := by decide +kernel
theorem dL_law_560 : decode code 560 = .ok (.aload_n 0, 1) := by decide +kernel
theorem dL_law_561 : decode code 561 = .ok (.iload_n 3, 1) := by decide +kernel
theorem dL_law_562 : decode code 562 = .ok (.iconst 2, 1) := by decide +kernel
theorem dL_law_563 : decode code 563 = .ok (.iadd, 1) := by decide +kernel
theorem dL_law_564 : decode code 564 = .ok (.iaload, 1) := by decide +kernel
theorem dL_law_565 : decode code 565 = .ok (.invokevirtual 69, 3) := by decide +kernel
theorem dL_law_568 : decode code 568 = .ok (.if_icmp .eq 618, 3) := by decide +kernel
theorem dL_law_571 : decode code 571 = .ok (.iconst 0, 1) := by decide +kernel
theorem dL_law_572 : decode code 572 = .ok (.ireturn, 1) := by decide +kernel
theorem dL_law_573 : decode code 573 = .ok (.aload_n 1, 1) := by decide +kernel
theorem dL_law_574 : decode code 574 = .ok (.aload_n 0, 1) := by decide +kernel
theorem dL_law_575 : decode code 575 = .ok (.iload_n 3, 1) := by decide +kernel
theorem dL_law_576 : decode code 576 = .ok (.iconst 1, 1) := by decide +kernel
theorem dL_law_577 : decode code 577 = .ok (.iadd, 1) := by decide +kernel
theorem dL_law_578 : decode code 578 = .ok (.iaload, 1) := by decide +kernel
theorem dL_law_579 : decode code 579 = .ok (.aload_n 0, 1) := by decide +kernel
theorem dL_law_580 : decode code 580 = .ok (.iload_n 3, 1) := by decide +kernel
theorem dL_law_581 : decode code 581 = .ok (.iconst 2, 1) := by decide +kernel
theorem dL_law_582 : decode code 582 = .ok (.iadd, 1) := by decide +kernel
theorem dL_law_583 : decode code 583 = .ok (.iaload, 1) := by decide +kernel
theorem dL_law_584 : decode code 584 = .ok (.invokevirtual 70, 3) := by decide +kernel
theorem dL_law_587 : decode code 587 = .ok (.aload_n 2, 1) := by decide +kernel
theorem dL_law_588 : decode code 588 = .ok (.aload_n 0, 1) := by decide +kernel
theorem dL_law_589 : decode code 589 = .ok (.iload_n 3, 1) := by decide +kernel
theorem dL_law_590 : decode code 590 = .ok (.iconst 1, 1) := by decide +kernel
theorem dL_law_591 : decode code 591 = .ok (.iadd, 1) := by decide +kernel
theorem dL_law_592 : decode code 592 = .ok (.iaload, 1) := by decide +kernel
theorem dL_law_593 : decode code 593 = .ok (.aload_n 0, 1) := by decide +kernel
theorem dL_law_594 : decode code 594 = .ok (.iload_n 3, 1) := by decide +kernel
theorem dL_law_595 : decode code 595 = .ok (.iconst 2, 1) := by decide +kernel
theorem dL_law_596 : decode code 596 = .ok (.iadd, 1) := by decide +kernel
theorem dL_law_597 : decode code 597 = .ok (.iaload, 1) := by decide +kernel
theorem dL_law_598 : decode code 598 = .ok (.invokevirtual 73, 3) := by decide +kernel
theorem dL_law_601 : decode code 601 = .ok (.if_icmp .eq 585, 3) := by decide +kernel
theorem dL_law_604 : decode code 604 = .ok (.iconst 0, 1) := by decide +kernel
theorem dL_law_605 : decode code 605 = .ok (.ireturn, 1) := by decide +kernel
theorem dL_law_606 : decode code 606 = .ok (.aload_n 1, 1) := by decide +kernel
theorem dL_law_607 : decode code 607 = .ok (.aload_n 0, 1) := by decide +kernel
theorem dL_law_608 : decode code 608 = .ok (.iload_n 3, 1) := by decide +kernel
theorem dL_law_609 : decode code 609 = .ok (.iconst 1, 1) := by decide +kernel
theorem dL_law_610 : decode code 610 = .ok (.iadd, 1) := by decide +kernel
theorem dL_law_611 : decode code 611 = .ok (.iaload, 1) := by decide +kernel
theorem dL_law_612 : decode code 612 = .ok (.aload_n 0, 1) := by decide +kernel
theorem dL_law_613 : decode code 613 = .ok (.iload_n 3, 1) := by decide +kernel
theorem dL_law_614 : decode code 614 = .ok (.iconst 2, 1) := by decide +kernel
theorem dL_law_615 : decode code 615 = .ok (.iadd, 1) := by decide +kernel
theorem dL_law_616 : decode code 616 = .ok (.iaload, 1) := by decide +kernel
theorem dL_law_617 : decode code 617 = .ok (.invokevirtual 74, 3) := by decide +kernel
theorem dL_law_620 : decode code 620 = .ok (.aload_n 2, 1) := by decide +kernel
theorem dL_law_621 : decode code 621 = .ok (.aload_n 0, 1) := by decide +kernel
theorem dL_law_622 : decode code 622 = .ok (.iload_n 3, 1) := by decide +kernel
theorem dL_law_623 : decode code 623 = .ok (.iconst 1, 1) := by decide +kernel
theorem dL_law_624 : decode code 624 = .ok (.iadd, 1) := by decide +kernel
theorem dL_law_625 : decode code 625 = .ok (.iaload, 1) := by decide +kernel
theorem dL_law_626 : decode code 626 = .ok (.aload_n 0, 1) := by decide +kernel
theorem dL_law_627 : decode code 627 = .ok (.iload_n 3, 1) := by decide +kernel
theorem dL_law_628 : decode code 628 = .ok (.iconst 2, 1) := by decide +kernel
theorem dL_law_629 : decode code 629 = .ok (.iadd, 1) := by decide +kernel
theorem dL_law_630 : decode code 630 = .ok (.iaload, 1) := by decide +kernel
theorem dL_law_631 : decode code 631 = .ok (.invokevirtual 77, 3) := by decide +kernel
theorem dL_law_634 : decode code 634 = .ok (.if_icmp .eq 552, 3) := by decide +kernel
theorem dL_law_637 : decode code 637 = .ok (.iconst 0, 1) := by decide +kernel
theorem dL_law_638 : decode code 638 = .ok (.ireturn, 1) := by decide +kernel
theorem dL_law_639 : decode code 639 = .ok (.aload_n 1, 1) := by decide +kernel
theorem dL_law_640 : decode code 640 = .ok (.aload_n 0, 1) := by decide +kernel
theorem dL_law_641 : decode code 641 = .ok (.iload_n 3, 1) := by decide +kernel
theorem dL_law_642 : decode code 642 = .ok (.iconst 1, 1) := by decide +kernel
theorem dL_law_643 : decode code 643 = .ok (.iadd, 1) := by decide +kernel
theorem dL_law_644 : decode code 644 = .ok (.iaload, 1) := by decide +kernel
theorem dL_law_645 : decode code 645 = .ok (.invokevirtual 78, 3) := by decide +kernel
theorem dL_law_648 : decode code 648 = .ok (.aload_n 2, 1) := by decide +kernel
theorem dL_law_649 : decode code 649 = .ok (.aload_n 0, 1) := by decide +kernel
theorem dL_law_650 : decode code 650 = .ok (.iload_n 3, 1) := by decide +kernel
theorem dL_law_651 : decode code 651 = .ok (.iconst 1, 1) := by decide +kernel
theorem dL_law_652 : decode code 652 = .ok (.iadd, 1) := by decide +kernel
theorem dL_law_653 : decode code 653 = .ok (.iaload, 1) := by decide +kernel
theorem dL_law_654 : decode code 654 = .ok (.invokevirtual 81, 3) := by decide +kernel
theorem dL_law_657 : decode code 657 = .ok (.if_icmp .eq 529, 3) := by decide +kernel
theorem dL_law_660 : decode code 660 = .ok (.iconst 0, 1) := by decide +kernel
theorem dL_law_661 : decode code 661 = .ok (.ireturn, 1) := by decide +kernel
theorem dL_law_662 : decode code 662 = .ok (.aload_n 1, 1) := by decide +kernel
theorem dL_law_663 : decode code 663 = .ok (.aload_n 0, 1) := by decide +kernel
theorem dL_law_664 : decode code 664 = .ok (.iload_n 3, 1) := by decide +kernel
theorem dL_law_665 : decode code 665 = .ok (.iconst 1, 1) := by decide +kernel
theorem dL_law_666 : decode code 666 = .ok (.iadd, 1) := by decide +kernel
theorem dL_law_667 : decode code 667 = .ok (.iaload, 1) := by decide +kernel
theorem dL_law_668 : decode code 668 = .ok (.invokevirtual 82, 3) := by decide +kernel
theorem dL_law_671 : decode code 671 = .ok (.aload_n 2, 1) := by decide +kernel
theorem dL_law_672 : decode code 672 = .ok (.aload_n 0, 1) := by decide +kernel
theorem dL_law_673 : decode code 673 = .ok (.iload_n 3, 1) := by decide +kernel
theorem dL_law_674 : decode code 674 = .ok (.iconst 1, 1) := by decide +kernel
theorem dL_law_675 : decode code 675 = .ok (.iadd, 1) := by decide +kernel
theorem dL_law_676 : decode code 676 = .ok (.iaload, 1) := by decide +kernel
theorem dL_law_677 : decode code 677 = .ok (.invokevirtual 85, 3) := by decide +kernel
theorem dL_law_680 : decode code 680 = .ok (.if_icmp .eq 506, 3) := by decide +kernel
theorem dL_law_683 : decode code 683 = .ok (.iconst 0, 1) := by decide +kernel
theorem dL_law_684 : decode code 684 = .ok (.ireturn, 1) := by decide +kernel
theorem dL_law_685 : decode code 685 = .ok (.aload_n 1, 1) := by decide +kernel
theorem dL_law_686 : decode code 686 = .ok (.aload_n 0, 1) := by decide +kernel
theorem dL_law_687 : decode code 687 = .ok (.iload_n 3, 1) := by decide +kernel
theorem dL_law_688 : decode code 688 = .ok (.iconst 1, 1) := by decide +kernel
theorem dL_law_689 : decode code 689 = .ok (.iadd, 1) := by decide +kernel
theorem dL_law_690 : decode code 690 = .ok (.iaload, 1) := by decide +kernel
theorem dL_law_691 : decode code 691 = .ok (.aload_n 0, 1) := by decide +kernel
theorem dL_law_692 : decode code 692 = .ok (.iload_n 3, 1) := by decide +kernel
theorem dL_law_693 : decode code 693 = .ok (.iconst 2, 1) := by decide +kernel
theorem dL_law_694 : decode code 694 = .ok (.iadd, 1) := by decide +kernel
theorem dL_law_695 : decode code 695 = .ok (.iaload, 1) := by decide +kernel
theorem dL_law_696 : decode code 696 = .ok (.invokevirtual 86, 3) := by decide +kernel
theorem dL_law_699 : decode code 699 = .ok (.aload_n 2, 1) := by decide +kernel
theorem dL_law_700 : decode code 700 = .ok (.aload_n 0, 1) := by decide +kernel
theorem dL_law_701 : decode code 701 = .ok (.iload_n 3, 1) := by decide +kernel
theorem dL_law_702 : decode code 702 = .ok (.iconst 1, 1) := by decide +kernel
theorem dL_law_703 : decode code 703 = .ok (.iadd, 1) := by decide +kernel
theorem dL_law_704 : decode code 704 = .ok (.iaload, 1) := by decide +kernel
theorem dL_law_705 : decode code 705 = .ok (.aload_n 0, 1) := by decide +kernel
theorem dL_law_706 : decode code 706 = .ok (.iload_n 3, 1) := by decide +kernel
theorem dL_law_707 : decode code 707 = .ok (.iconst 2, 1) := by decide +kernel
theorem dL_law_708 : decode code 708 = .ok (.iadd, 1) := by decide +kernel
theorem dL_law_709 : decode code 709 = .ok (.iaload, 1) := by decide +kernel
theorem dL_law_710 : decode code 710 = .ok (.invokevirtual 89, 3) := by decide +kernel
theorem dL_law_713 : decode code 713 = .ok (.if_icmp .eq 473, 3) := by decide +kernel
theorem dL_law_716 : decode code 716 = .ok (.iconst 0, 1) := by decide +kernel
theorem dL_law_717 : decode code 717 = .ok (.ireturn, 1) := by decide +kernel
theorem dL_law_718 : decode code 718 = .ok (.aload_n 1, 1) := by decide +kernel
theorem dL_law_719 : decode code 719 = .ok (.aload_n 0, 1) := by decide +kernel
theorem dL_law_720 : decode code 720 = .ok (.iload_n 3, 1) := by decide +kernel
theorem dL_law_721 : decode code 721 = .ok (.iconst 1, 1) := by decide +kernel
theorem dL_law_722 : decode code 722 = .ok (.iadd, 1) := by decide +kernel
theorem dL_law_723 : decode code 723 = .ok (.iaload, 1) := by decide +kernel
theorem dL_law_724 : decode code 724 = .ok (.invokevirtual 90, 3) := by decide +kernel
theorem dL_law_727 : decode code 727 = .ok (.aload_n 2, 1) := by decide +kernel
theorem dL_law_728 : decode code 728 = .ok (.aload_n 0, 1) := by decide +kernel
theorem dL_law_729 : decode code 729 = .ok (.iload_n 3, 1) := by decide +kernel
theorem dL_law_730 : decode code 730 = .ok (.iconst 1, 1) := by decide +kernel
theorem dL_law_731 : decode code 731 = .ok (.iadd, 1) := by decide +kernel
theorem dL_law_732 : decode code 732 = .ok (.iaload, 1) := by decide +kernel
theorem dL_law_733 : decode code 733 = .ok (.invokevirtual 93, 3) := by decide +kernel
theorem dL_law_736 : decode code 736 = .ok (.if_icmp .eq 450, 3) := by decide +kernel
theorem dL_law_739 : decode code 739 = .ok (.iconst 0, 1) := by decide +kernel
theorem dL_law_740 : decode code 740 = .ok (.ireturn, 1) := by decide +kernel
theorem dL_law_741 : decode code 741 = .ok (.aload_n 1, 1) := by decide +kernel
theorem dL_law_742 : decode code 742 = .ok (.aload_n 0, 1) := by decide +kernel
theorem dL_law_743 : decode code 743 = .ok (.iload_n 3, 1) := by decide +kernel
theorem dL_law_744 : decode code 744 = .ok (.iconst 1, 1) := by decide +kernel
theorem dL_law_745 : decode code 745 = .ok (.iadd, 1) := by decide +kernel
theorem dL_law_746 : decode code 746 = .ok (.iaload, 1) := by decide +kernel
theorem dL_law_747 : decode code 747 = .ok (.aload_n 0, 1) := by decide +kernel
theorem dL_law_748 : decode code 748 = .ok (.iload_n 3, 1) := by decide +kernel
theorem dL_law_749 : decode code 749 = .ok (.iconst 2, 1) := by decide +kernel
theorem dL_law_750 : decode code 750 = .ok (.iadd, 1) := by decide +kernel
theorem dL_law_751 : decode code 751 = .ok (.iaload, 1) := by decide +kernel
theorem dL_law_752 : decode code 752 = .ok (.invokevirtual 94, 3) := by decide +kernel
theorem dL_law_755 : decode code 755 = .ok (.aload_n 2, 1) := by decide +kernel
theorem dL_law_756 : decode code 756 = .ok (.aload_n 0, 1) := by decide +kernel
theorem dL_law_757 : decode code 757 = .ok (.iload_n 3, 1) := by decide +kernel
theorem dL_law_758 : decode code 758 = .ok (.iconst 1, 1) := by decide +kernel
theorem dL_law_759 : decode code 759 = .ok (.iadd, 1) := by decide +kernel
theorem dL_law_760 : decode code 760 = .ok (.iaload, 1) := by decide +kernel
theorem dL_law_761 : decode code 761 = .ok (.aload_n 0, 1) := by decide +kernel
theorem dL_law_762 : decode code 762 = .ok (.iload_n 3, 1) := by decide +kernel
theorem dL_law_763 : decode code 763 = .ok (.iconst 2, 1) := by decide +kernel
theorem dL_law_764 : decode code 764 = .ok (.iadd, 1) := by decide +kernel
theorem dL_law_765 : decode code 765 = .ok (.iaload, 1) := by decide +kernel
theorem dL_law_766 : decode code 766 = .ok (.invokevirtual 97, 3) := by decide +kernel
theorem dL_law_769 : decode code 769 = .ok (.if_icmp .eq 417, 3) := by decide +kernel
theorem dL_law_772 : decode code 772 = .ok (.iconst 0, 1) := by decide +kernel
theorem dL_law_773 : decode code 773 = .ok (.ireturn, 1) := by decide +kernel
theorem dL_law_774 : decode code 774 = .ok (.aload_n 1, 1) := by decide +kernel
theorem dL_law_775 : decode code 775 = .ok (.aload_n 0, 1) := by decide +kernel
theorem dL_law_776 : decode code 776 = .ok (.iload_n 3, 1) := by decide +kernel
theorem dL_law_777 : decode code 777 = .ok (.iconst 1, 1) := by decide +kernel
theorem dL_law_778 : decode code 778 = .ok (.iadd, 1) := by decide +kernel
theorem dL_law_779 : decode code 779 = .ok (.iaload, 1) := by decide +kernel
theorem dL_law_780 : decode code 780 = .ok (.aload_n 0, 1) := by decide +kernel
theorem dL_law_781 : decode code 781 = .ok (.iload_n 3, 1) := by decide +kernel
theorem dL_law_782 : decode code 782 = .ok (.iconst 2, 1) := by decide +kernel
theorem dL_law_783 : decode code 783 = .ok (.iadd, 1) := by decide +kernel
theorem dL_law_784 : decode code 784 = .ok (.iaload, 1) := by decide +kernel
theorem dL_law_785 : decode code 785 = .ok (.invokevirtual 98, 3) := by decide +kernel
theorem dL_law_788 : decode code 788 = .ok (.aload_n 2, 1) := by decide +kernel
theorem dL_law_789 : decode code 789 = .ok (.aload_n 0, 1) := by decide +kernel
theorem dL_law_790 : decode code 790 = .ok (.iload_n 3, 1) := by decide +kernel
theorem dL_law_791 : decode code 791 = .ok (.iconst 1, 1) := by decide +kernel
theorem dL_law_792 : decode code 792 = .ok (.iadd, 1) := by decide +kernel
theorem dL_law_793 : decode code 793 = .ok (.iaload, 1) := by decide +kernel
theorem dL_law_794 : decode code 794 = .ok (.aload_n 0, 1) := by decide +kernel
theorem dL_law_795 : decode code 795 = .ok (.iload_n 3, 1) := by decide +kernel
theorem dL_law_796 : decode code 796 = .ok (.iconst 2, 1) := by decide +kernel
theorem dL_law_797 : decode code 797 = .ok (.iadd, 1) := by decide +kernel
theorem dL_law_798 : decode code 798 = .ok (.iaload, 1) := by decide +kernel
theorem dL_law_799 : decode code 799 = .ok (.invokevirtual 101, 3) := by decide +kernel
theorem dL_law_802 : decode code 802 = .ok (.if_icmp .eq 384, 3) := by decide +kernel
theorem dL_law_805 : decode code 805 = .ok (.iconst 0, 1) := by decide +kernel
theorem dL_law_806 : decode code 806 = .ok (.ireturn, 1) := by decide +kernel
theorem dL_law_807 : decode code 807 = .ok (.aload_n 1, 1) := by decide +kernel
theorem dL_law_808 : decode code 808 = .ok (.aload_n 0, 1) := by decide +kernel
theorem dL_law_809 : decode code 809 = .ok (.iload_n 3, 1) := by decide +kernel
theorem dL_law_810 : decode code 810 = .ok (.iconst 1, 1) := by decide +kernel
theorem dL_law_811 : decode code 811 = .ok (.iadd, 1) := by decide +kernel
theorem dL_law_812 : decode code 812 = .ok (.iaload, 1) := by decide +kernel
theorem dL_law_813 : decode code 813 = .ok (.invokevirtual 102, 3) := by decide +kernel
theorem dL_law_816 : decode code 816 = .ok (.aload_n 2, 1) := by decide +kernel
theorem dL_law_817 : decode code 817 = .ok (.aload_n 0, 1) := by decide +kernel
theorem dL_law_818 : decode code 818 = .ok (.iload_n 3, 1) := by decide +kernel
theorem dL_law_819 : decode code 819 = .ok (.iconst 1, 1) := by decide +kernel
theorem dL_law_820 : decode code 820 = .ok (.iadd, 1) := by decide +kernel
theorem dL_law_821 : decode code 821 = .ok (.iaload, 1) := by decide +kernel
theorem dL_law_822 : decode code 822 = .ok (.invokevirtual 105, 3) := by decide +kernel
theorem dL_law_825 : decode code 825 = .ok (.if_icmp .eq 361, 3) := by decide +kernel
theorem dL_law_828 : decode code 828 = .ok (.iconst 0, 1) := by decide +kernel
theorem dL_law_829 : decode code 829 = .ok (.ireturn, 1) := by decide +kernel
theorem dL_law_830 : decode code 830 = .ok (.aload_n 1, 1) := by decide +kernel
theorem dL_law_831 : decode code 831 = .ok (.aload_n 0, 1) := by decide +kernel
theorem dL_law_832 : decode code 832 = .ok (.iload_n 3, 1) := by decide +kernel
theorem dL_law_833 : decode code 833 = .ok (.iconst 1, 1) := by decide +kernel
theorem dL_law_834 : decode code 834 = .ok (.iadd, 1) := by decide +kernel
theorem dL_law_835 : decode code 835 = .ok (.iaload, 1) := by decide +kernel
theorem dL_law_836 : decode code 836 = .ok (.invokevirtual 106, 3) := by decide +kernel
theorem dL_law_839 : decode code 839 = .ok (.aload_n 2, 1) := by decide +kernel
theorem dL_law_840 : decode code 840 = .ok (.aload_n 0, 1) := by decide +kernel
theorem dL_law_841 : decode code 841 = .ok (.iload_n 3, 1) := by decide +kernel
theorem dL_law_842 : decode code 842 = .ok (.iconst 1, 1) := by decide +kernel
theorem dL_law_843 : decode code 843 = .ok (.iadd, 1) := by decide +kernel
theorem dL_law_844 : decode code 844 = .ok (.iaload, 1) := by decide +kernel
theorem dL_law_845 : decode code 845 = .ok (.invokevirtual 109, 3) := by decide +kernel
theorem dL_law_848 : decode code 848 = .ok (.if_icmp .eq 338, 3) := by decide +kernel
theorem dL_law_851 : decode code 851 = .ok (.iconst 0, 1) := by decide +kernel
theorem dL_law_852 : decode code 852 = .ok (.ireturn, 1) := by decide +kernel
theorem dL_law_853 : decode code 853 = .ok (.aload_n 1, 1) := by decide +kernel
theorem dL_law_854 : decode code 854 = .ok (.aload_n 0, 1) := by decide +kernel
theorem dL_law_855 : decode code 855 = .ok (.iload_n 3, 1) := by decide +kernel
theorem dL_law_856 : decode code 856 = .ok (.iconst 1, 1) := by decide +kernel
theorem dL_law_857 : decode code 857 = .ok (.iadd, 1) := by decide +kernel
theorem dL_law_858 : decode code 858 = .ok (.iaload, 1) := by decide +kernel
theorem dL_law_859 : decode code 859 = .ok (.aload_n 0, 1) := by decide +kernel
theorem dL_law_860 : decode code 860 = .ok (.iload_n 3, 1) := by decide +kernel
theorem dL_law_861 : decode code 861 = .ok (.iconst 2, 1) := by decide +kernel
theorem dL_law_862 : decode code 862 = .ok (.iadd, 1) := by decide +kernel
theorem dL_law_863 : decode code 863 = .ok (.iaload, 1) := by decide +kernel
theorem dL_law_864 : decode code 864 = .ok (.aload_n 0, 1) := by decide +kernel
theorem dL_law_865 : decode code 865 = .ok (.iload_n 3, 1) := by decide +kernel
theorem dL_law_866 : decode code 866 = .ok (.iconst 3, 1) := by decide +kernel
theorem dL_law_867 : decode code 867 = .ok (.iadd, 1) := by decide +kernel
theorem dL_law_868 : decode code 868 = .ok (.iaload, 1) := by decide +kernel
theorem dL_law_869 : decode code 869 = .ok (.invokevirtual 110, 3) := by decide +kernel
theorem dL_law_872 : decode code 872 = .ok (.aload_n 2, 1) := by decide +kernel
theorem dL_law_873 : decode code 873 = .ok (.aload_n 0, 1) := by decide +kernel
theorem dL_law_874 : decode code 874 = .ok (.iload_n 3, 1) := by decide +kernel
theorem dL_law_875 : decode code 875 = .ok (.iconst 1, 1) := by decide +kernel
theorem dL_law_876 : decode code 876 = .ok (.iadd, 1) := by decide +kernel
theorem dL_law_877 : decode code 877 = .ok (.iaload, 1) := by decide +kernel
theorem dL_law_878 : decode code 878 = .ok (.aload_n 0, 1) := by decide +kernel
theorem dL_law_879 : decode code 879 = .ok (.iload_n 3, 1) := by decide +kernel
theorem dL_law_880 : decode code 880 = .ok (.iconst 2, 1) := by decide +kernel
theorem dL_law_881 : decode code 881 = .ok (.iadd, 1) := by decide +kernel
theorem dL_law_882 : decode code 882 = .ok (.iaload, 1) := by decide +kernel
theorem dL_law_883 : decode code 883 = .ok (.aload_n 0, 1) := by decide +kernel
theorem dL_law_884 : decode code 884 = .ok (.iload_n 3, 1) := by decide +kernel
theorem dL_law_885 : decode code 885 = .ok (.iconst 3, 1) := by decide +kernel
theorem dL_law_886 : decode code 886 = .ok (.iadd, 1) := by decide +kernel
theorem dL_law_887 : decode code 887 = .ok (.iaload, 1) := by decide +kernel
theorem dL_law_888 : decode code 888 = .ok (.invokevirtual 113, 3) := by decide +kernel
theorem dL_law_891 : decode code 891 = .ok (.if_icmp .eq 295, 3) := by decide +kernel
theorem dL_law_894 : decode code 894 = .ok (.iconst 0, 1) := by decide +kernel
theorem dL_law_895 : decode code 895 = .ok (.ireturn, 1) := by decide +kernel
theorem dL_law_896 : decode code 896 = .ok (.aload_n 1, 1) := by decide +kernel
theorem dL_law_897 : decode code 897 = .ok (.aload_n 0, 1) := by decide +kernel
theorem dL_law_898 : decode code 898 = .ok (.iload_n 3, 1) := by decide +kernel
theorem dL_law_899 : decode code 899 = .ok (.iconst 1, 1) := by decide +kernel
theorem dL_law_900 : decode code 900 = .ok (.iadd, 1) := by decide +kernel
theorem dL_law_901 : decode code 901 = .ok (.iaload, 1) := by decide +kernel
theorem dL_law_902 : decode code 902 = .ok (.aload_n 0, 1) := by decide +kernel
theorem dL_law_903 : decode code 903 = .ok (.iload_n 3, 1) := by decide +kernel
theorem dL_law_904 : decode code 904 = .ok (.iconst 2, 1) := by decide +kernel
theorem dL_law_905 : decode code 905 = .ok (.iadd, 1) := by decide +kernel
theorem dL_law_906 : decode code 906 = .ok (.iaload, 1) := by decide +kernel
theorem dL_law_907 : decode code 907 = .ok (.aload_n 0, 1) := by decide +kernel
theorem dL_law_908 : decode code 908 = .ok (.iload_n 3, 1) := by decide +kernel
theorem dL_law_909 : decode code 909 = .ok (.iconst 3, 1) := by decide +kernel
theorem dL_law_910 : decode code 910 = .ok (.iadd, 1) := by decide +kernel
theorem dL_law_911 : decode code 911 = .ok (.iaload, 1) := by decide +kernel
theorem dL_law_912 : decode code 912 = .ok (.aload_n 0, 1) := by decide +kernel
theorem dL_law_913 : decode code 913 = .ok (.iload_n 3, 1) := by decide +kernel
theorem dL_law_914 : decode code 914 = .ok (.iconst 4, 1) := by decide +kernel
theorem dL_law_915 : decode code 915 = .ok (.iadd, 1) := by decide +kernel
theorem dL_law_916 : decode code 916 = .ok (.iaload, 1) := by decide +kernel
theorem dL_law_917 : decode code 917 = .ok (.invokevirtual 114, 3) := by decide +kernel
theorem dL_law_920 : decode code 920 = .ok (.aload_n 2, 1) := by decide +kernel
theorem dL_law_921 : decode code 921 = .ok (.aload_n 0, 1) := by decide +kernel
theorem dL_law_922 : decode code 922 = .ok (.iload_n 3, 1) := by decide +kernel
theorem dL_law_923 : decode code 923 = .ok (.iconst 1, 1) := by decide +kernel
theorem dL_law_924 : decode code 924 = .ok (.iadd, 1) := by decide +kernel
theorem dL_law_925 : decode code 925 = .ok (.iaload, 1) := by decide +kernel
theorem dL_law_926 : decode code 926 = .ok (.aload_n 0, 1) := by decide +kernel
theorem dL_law_927 : decode code 927 = .ok (.iload_n 3, 1) := by decide +kernel
theorem dL_law_928 : decode code 928 = .ok (.iconst 2, 1) := by decide +kernel
theorem dL_law_929 : decode code 929 = .ok (.iadd, 1) := by decide +kernel
theorem dL_law_930 : decode code 930 = .ok (.iaload, 1) := by decide +kernel
theorem dL_law_931 : decode code 931 = .ok (.aload_n 0, 1) := by decide +kernel
theorem dL_law_932 : decode code 932 = .ok (.iload_n 3, 1) := by decide +kernel
theorem dL_law_933 : decode code 933 = .ok (.iconst 3, 1) := by decide +kernel
theorem dL_law_934 : decode code 934 = .ok (.iadd, 1) := by decide +kernel
theorem dL_law_935 : decode code 935 = .ok (.iaload, 1) := by decide +kernel
theorem dL_law_936 : decode code 936 = .ok (.aload_n 0, 1) := by decide +kernel
theorem dL_law_937 : decode code 937 = .ok (.iload_n 3, 1) := by decide +kernel
theorem dL_law_938 : decode code 938 = .ok (.iconst 4, 1) := by decide +kernel
theorem dL_law_939 : decode code 939 = .ok (.iadd, 1) := by decide +kernel
theorem dL_law_940 : decode code 940 = .ok (.iaload, 1) := by decide +kernel
theorem dL_law_941 : decode code 941 = .ok (.invokevirtual 118, 3) := by decide +kernel
theorem dL_law_944 : decode code 944 = .ok (.if_icmp .eq 242, 3) := by decide +kernel
theorem dL_law_947 : decode code 947 = .ok (.iconst 0, 1) := by decide +kernel
theorem dL_law_948 : decode code 948 = .ok (.ireturn, 1) := by decide +kernel
theorem dL_law_949 : decode code 949 = .ok (.aload_n 1, 1) := by decide +kernel
theorem dL_law_950 : decode code 950 = .ok (.aload_n 0, 1) := by decide +kernel
theorem dL_law_951 : decode code 951 = .ok (.iload_n 3, 1) := by decide +kernel
theorem dL_law_952 : decode code 952 = .ok (.iconst 1, 1) := by decide +kernel
theorem dL_law_953 : decode code 953 = .ok (.iadd, 1) := by decide +kernel
theorem dL_law_954 : decode code 954 = .ok (.iaload, 1) := by decide +kernel
theorem dL_law_955 : decode code 955 = .ok (.aload_n 0, 1) := by decide +kernel
theorem dL_law_956 : decode code 956 = .ok (.iload_n 3, 1) := by decide +kernel
theorem dL_law_957 : decode code 957 = .ok (.iconst 2, 1) := by decide +kernel
theorem dL_law_958 : decode code 958 = .ok (.iadd, 1) := by decide +kernel
theorem dL_law_959 : decode code 959 = .ok (.iaload, 1) := by decide +kernel
theorem dL_law_960 : decode code 960 = .ok (.aload_n 0, 1) := by decide +kernel
theorem dL_law_961 : decode code 961 = .ok (.iload_n 3, 1) := by decide +kernel
theorem dL_law_962 : decode code 962 = .ok (.iconst 3, 1) := by decide +kernel
theorem dL_law_963 : decode code 963 = .ok (.iadd, 1) := by decide +kernel
theorem dL_law_964 : decode code 964 = .ok (.iaload, 1) := by decide +kernel
theorem dL_law_965 : decode code 965 = .ok (.invokevirtual 119, 3) := by decide +kernel
theorem dL_law_968 : decode code 968 = .ok (.aload_n 2, 1) := by decide +kernel
theorem dL_law_969 : decode code 969 = .ok (.aload_n 0, 1) := by decide +kernel
theorem dL_law_970 : decode code 970 = .ok (.iload_n 3, 1) := by decide +kernel
theorem dL_law_971 : decode code 971 = .ok (.iconst 1, 1) := by decide +kernel
theorem dL_law_972 : decode code 972 = .ok (.iadd, 1) := by decide +kernel
theorem dL_law_973 : decode code 973 = .ok (.iaload, 1) := by decide +kernel
theorem dL_law_974 : decode code 974 = .ok (.aload_n 0, 1) := by decide +kernel
theorem dL_law_975 : decode code 975 = .ok (.iload_n 3, 1) := by decide +kernel
theorem dL_law_976 : decode code 976 = .ok (.iconst 2, 1) := by decide +kernel
theorem dL_law_977 : decode code 977 = .ok (.iadd, 1) := by decide +kernel
theorem dL_law_978 : decode code 978 = .ok (.iaload, 1) := by decide +kernel
theorem dL_law_979 : decode code 979 = .ok (.aload_n 0, 1) := by decide +kernel
theorem dL_law_980 : decode code 980 = .ok (.iload_n 3, 1) := by decide +kernel
theorem dL_law_981 : decode code 981 = .ok (.iconst 3, 1) := by decide +kernel
theorem dL_law_982 : decode code 982 = .ok (.iadd, 1) := by decide +kernel
theorem dL_law_983 : decode code 983 = .ok (.iaload, 1) := by decide +kernel
theorem dL_law_984 : decode code 984 = .ok (.invokevirtual 122, 3) := by decide +kernel
theorem dL_law_987 : decode code 987 = .ok (.if_icmp .eq 199, 3) := by decide +kernel
theorem dL_law_990 : decode code 990 = .ok (.iconst 0, 1) := by decide +kernel
theorem dL_law_991 : decode code 991 = .ok (.ireturn, 1) := by decide +kernel
theorem dL_law_992 : decode code 992 = .ok (.aload_n 1, 1) := by decide +kernel
theorem dL_law_993 : decode code 993 = .ok (.aload_n 0, 1) := by decide +kernel
theorem dL_law_994 : decode code 994 = .ok (.iload_n 3, 1) := by decide +kernel
theorem dL_law_995 : decode code 995 = .ok (.iconst 1, 1) := by decide +kernel
theorem dL_law_996 : decode code 996 = .ok (.iadd, 1) := by decide +kernel
theorem dL_law_997 : decode code 997 = .ok (.iaload, 1) := by decide +kernel
theorem dL_law_998 : decode code 998 = .ok (.invokevirtual 123, 3) := by decide +kernel
theorem dL_law_1001 : decode code 1001 = .ok (.aload_n 2, 1) := by decide +kernel
theorem dL_law_1002 : decode code 1002 = .ok (.aload_n 0, 1) := by decide +kernel
theorem dL_law_1003 : decode code 1003 = .ok (.iload_n 3, 1) := by decide +kernel
theorem dL_law_1004 : decode code 1004 = .ok (.iconst 1, 1) := by decide +kernel
theorem dL_law_1005 : decode code 1005 = .ok (.iadd, 1) := by decide +kernel
theorem dL_law_1006 : decode code 1006 = .ok (.iaload, 1) := by decide +kernel
theorem dL_law_1007 : decode code 1007 = .ok (.invokevirtual 126, 3) := by decide +kernel
theorem dL_law_1010 : decode code 1010 = .ok (.if_icmp .eq 176, 3) := by decide +kernel
theorem dL_law_1013 : decode code 1013 = .ok (.iconst 0, 1) := by decide +kernel
theorem dL_law_1014 : decode code 1014 = .ok (.ireturn, 1) := by decide +kernel
theorem dL_law_1015 : decode code 1015 = .ok (.aload_n 1, 1) := by decide +kernel
theorem dL_law_1016 : decode code 1016 = .ok (.aload_n 0, 1) := by decide +kernel
theorem dL_law_1017 : decode code 1017 = .ok (.iload_n 3, 1) := by decide +kernel
theorem dL_law_1018 : decode code 1018 = .ok (.iconst 1, 1) := by decide +kernel
theorem dL_law_1019 : decode code 1019 = .ok (.iadd, 1) := by decide +kernel
theorem dL_law_1020 : decode code 1020 = .ok (.iaload, 1) := by decide +kernel
theorem dL_law_1021 : decode code 1021 = .ok (.invokevirtual 127, 3) := by decide +kernel
theorem dL_law_1024 : decode code 1024 = .ok (.aload_n 2, 1) := by decide +kernel
theorem dL_law_1025 : decode code 1025 = .ok (.aload_n 0, 1) := by decide +kernel
theorem dL_law_1026 : decode code 1026 = .ok (.iload_n 3, 1) := by decide +kernel
theorem dL_law_1027 : decode code 1027 = .ok (.iconst 1, 1) := by decide +kernel
theorem dL_law_1028 : decode code 1028 = .ok (.iadd, 1) := by decide +kernel
theorem dL_law_1029 : decode code 1029 = .ok (.iaload, 1) := by decide +kernel
theorem dL_law_1030 : decode code 1030 = .ok (.invokevirtual 130, 3) := by decide +kernel
theorem dL_law_1033 : decode code 1033 = .ok (.if_icmp .eq 153, 3) := by decide +kernel
theorem dL_law_1036 : decode code 1036 = .ok (.iconst 0, 1) := by decide +kernel
theorem dL_law_1037 : decode code 1037 = .ok (.ireturn, 1) := by decide +kernel
theorem dL_law_1038 : decode code 1038 = .ok (.aload_n 1, 1) := by decide +kernel
theorem dL_law_1039 : decode code 1039 = .ok (.aload_n 0, 1) := by decide +kernel
theorem dL_law_1040 : decode code 1040 = .ok (.iload_n 3, 1) := by decide +kernel
theorem dL_law_1041 : decode code 1041 = .ok (.iconst 1, 1) := by decide +kernel
theorem dL_law_1042 : decode code 1042 = .ok (.iadd, 1) := by decide +kernel
theorem dL_law_1043 : decode code 1043 = .ok (.iaload, 1) := by decide +kernel
theorem dL_law_1044 : decode code 1044 = .ok (.invokevirtual 131, 3) := by decide +kernel
theorem dL_law_1047 : decode code 1047 = .ok (.aload_n 2, 1) := by decide +kernel
theorem dL_law_1048 : decode code 1048 = .ok (.aload_n 0, 1) := by decide +kernel
theorem dL_law_1049 : decode code 1049 = .ok (.iload_n 3, 1) := by decide +kernel
theorem dL_law_1050 : decode code 1050 = .ok (.iconst 1, 1) := by decide +kernel
theorem dL_law_1051 : decode code 1051 = .ok (.iadd, 1) := by decide +kernel
theorem dL_law_1052 : decode code 1052 = .ok (.iaload, 1) := by decide +kernel
theorem dL_law_1053 : decode code 1053 = .ok (.invokevirtual 134, 3) := by decide +kernel
theorem dL_law_1056 : decode code 1056 = .ok (.if_icmp .eq 130, 3) := by decide +kernel
theorem dL_law_1059 : decode code 1059 = .ok (.iconst 0, 1) := by decide +kernel
theorem dL_law_1060 : decode code 1060 = .ok (.ireturn, 1) := by decide +kernel
theorem dL_law_1061 : decode code 1061 = .ok (.aload_n 1, 1) := by decide +kernel
theorem dL_law_1062 : decode code 1062 = .ok (.aload_n 0, 1) := by decide +kernel
theorem dL_law_1063 : decode code 1063 = .ok (.iload_n 3, 1) := by decide +kernel
theorem dL_law_1064 : decode code 1064 = .ok (.iconst 1, 1) := by decide +kernel
theorem dL_law_1065 : decode code 1065 = .ok (.iadd, 1) := by decide +kernel
theorem dL_law_1066 : decode code 1066 = .ok (.iaload, 1) := by decide +kernel
theorem dL_law_1067 : decode code 1067 = .ok (.aload_n 0, 1) := by decide +kernel
theorem dL_law_1068 : decode code 1068 = .ok (.iload_n 3, 1) := by decide +kernel
theorem dL_law_1069 : decode code 1069 = .ok (.iconst 2, 1) := by decide +kernel
theorem dL_law_1070 : decode code 1070 = .ok (.iadd, 1) := by decide +kernel
theorem dL_law_1071 : decode code 1071 = .ok (.iaload, 1) := by decide +kernel
theorem dL_law_1072 : decode code 1072 = .ok (.invokevirtual 135, 3) := by decide +kernel
theorem dL_law_1075 : decode code 1075 = .ok (.aload_n 2, 1) := by decide +kernel
theorem dL_law_1076 : decode code 1076 = .ok (.aload_n 0, 1) := by decide +kernel
theorem dL_law_1077 : decode code 1077 = .ok (.iload_n 3, 1) := by decide +kernel
theorem dL_law_1078 : decode code 1078 = .ok (.iconst 1, 1) := by decide +kernel
theorem dL_law_1079 : decode code 1079 = .ok (.iadd, 1) := by decide +kernel
theorem dL_law_1080 : decode code 1080 = .ok (.iaload, 1) := by decide +kernel
theorem dL_law_1081 : decode code 1081 = .ok (.aload_n 0, 1) := by decide +kernel
theorem dL_law_1082 : decode code 1082 = .ok (.iload_n 3, 1) := by decide +kernel
theorem dL_law_1083 : decode code 1083 = .ok (.iconst 2, 1) := by decide +kernel
theorem dL_law_1084 : decode code 1084 = .ok (.iadd, 1) := by decide +kernel
theorem dL_law_1085 : decode code 1085 = .ok (.iaload, 1) := by decide +kernel
theorem dL_law_1086 : decode code 1086 = .ok (.invokevirtual 138, 3) := by decide +kernel
theorem dL_law_1089 : decode code 1089 = .ok (.if_icmp .eq 97, 3) := by decide +kernel
theorem dL_law_1092 : decode code 1092 = .ok (.iconst 0, 1) := by decide +kernel
theorem dL_law_1093 : decode code 1093 = .ok (.ireturn, 1) := by decide +kernel
theorem dL_law_1094 : decode code 1094 = .ok (.aload_n 1, 1) := by decide +kernel
theorem dL_law_1095 : decode code 1095 = .ok (.aload_n 0, 1) := by decide +kernel
theorem dL_law_1096 : decode code 1096 = .ok (.iload_n 3, 1) := by decide +kernel
theorem dL_law_1097 : decode code 1097 = .ok (.iconst 1, 1) := by decide +kernel
theorem dL_law_1098 : decode code 1098 = .ok (.iadd, 1) := by decide +kernel
theorem dL_law_1099 : decode code 1099 = .ok (.iaload, 1) := by decide +kernel
theorem dL_law_1100 : decode code 1100 = .ok (.aload_n 0, 1) := by decide +kernel
theorem dL_law_1101 : decode code 1101 = .ok (.iload_n 3, 1) := by decide +kernel
theorem dL_law_1102 : decode code 1102 = .ok (.iconst 2, 1) := by decide +kernel
theorem dL_law_1103 : decode code 1103 = .ok (.iadd, 1) := by decide +kernel
theorem dL_law_1104 : decode code 1104 = .ok (.iaload, 1) := by decide +kernel
theorem dL_law_1105 : decode code 1105 = .ok (.invokevirtual 139, 3) := by decide +kernel
theorem dL_law_1108 : decode code 1108 = .ok (.aload_n 2, 1) := by decide +kernel
theorem dL_law_1109 : decode code 1109 = .ok (.aload_n 0, 1) := by decide +kernel
theorem dL_law_1110 : decode code 1110 = .ok (.iload_n 3, 1) := by decide +kernel
theorem dL_law_1111 : decode code 1111 = .ok (.iconst 1, 1) := by decide +kernel
theorem dL_law_1112 : decode code 1112 = .ok (.iadd, 1) := by decide +kernel
theorem dL_law_1113 : decode code 1113 = .ok (.iaload, 1) := by decide +kernel
theorem dL_law_1114 : decode code 1114 = .ok (.aload_n 0, 1) := by decide +kernel
theorem dL_law_1115 : decode code 1115 = .ok (.iload_n 3, 1) := by decide +kernel
theorem dL_law_1116 : decode code 1116 = .ok (.iconst 2, 1) := by decide +kernel
theorem dL_law_1117 : decode code 1117 = .ok (.iadd, 1) := by decide +kernel
theorem dL_law_1118 : decode code 1118 = .ok (.iaload, 1) := by decide +kernel
theorem dL_law_1119 : decode code 1119 = .ok (.invokevirtual 142, 3) := by decide +kernel
theorem dL_law_1122 : decode code 1122 = .ok (.if_icmp .eq 64, 3) := by decide +kernel
theorem dL_law_1125 : decode code 1125 = .ok (.iconst 0, 1) := by decide +kernel
theorem dL_law_1126 : decode code 1126 = .ok (.ireturn, 1) := by decide +kernel
theorem dL_law_1127 : decode code 1127 = .ok (.aload_n 1, 1) := by decide +kernel
theorem dL_law_1128 : decode code 1128 = .ok (.aload_n 0, 1) := by decide +kernel
theorem dL_law_1129 : decode code 1129 = .ok (.iload_n 3, 1) := by decide +kernel
theorem dL_law_1130 : decode code 1130 = .ok (.iconst 1, 1) := by decide +kernel
theorem dL_law_1131 : decode code 1131 = .ok (.iadd, 1) := by decide +kernel
theorem dL_law_1132 : decode code 1132 = .ok (.iaload, 1) := by decide +kernel
theorem dL_law_1133 : decode code 1133 = .ok (.invokevirtual 143, 3) := by decide +kernel
theorem dL_law_1136 : decode code 1136 = .ok (.aload_n 2, 1) := by decide +kernel
theorem dL_law_1137 : decode code 1137 = .ok (.aload_n 0, 1) := by decide +kernel
theorem dL_law_1138 : decode code 1138 = .ok (.iload_n 3, 1) := by decide +kernel
theorem dL_law_1139 : decode code 1139 = .ok (.iconst 1, 1) := by decide +kernel
theorem dL_law_1140 : decode code 1140 = .ok (.iadd, 1) := by decide +kernel
theorem dL_law_1141 : decode code 1141 = .ok (.iaload, 1) := by decide +kernel
theorem dL_law_1142 : decode code 1142 = .ok (.invokevirtual 146, 3) := by decide +kernel
theorem dL_law_1145 : decode code 1145 = .ok (.if_icmp .eq 41, 3) := by decide +kernel
theorem dL_law_1148 : decode code 1148 = .ok (.iconst 0, 1) := by decide +kernel
theorem dL_law_1149 : decode code 1149 = .ok (.ireturn, 1) := by decide +kernel
theorem dL_law_1150 : decode code 1150 = .ok (.aload_n 1, 1) := by decide +kernel
theorem dL_law_1151 : decode code 1151 = .ok (.aload_n 0, 1) := by decide +kernel
theorem dL_law_1152 : decode code 1152 = .ok (.iload_n 3, 1) := by decide +kernel
theorem dL_law_1153 : decode code 1153 = .ok (.iconst 1, 1) := by decide +kernel
theorem dL_law_1154 : decode code 1154 = .ok (.iadd, 1) := by decide +kernel
theorem dL_law_1155 : decode code 1155 = .ok (.iaload, 1) := by decide +kernel
theorem dL_law_1156 : decode code 1156 = .ok (.invokevirtual 147, 3) := by decide +kernel
theorem dL_law_1159 : decode code 1159 = .ok (.aload_n 2, 1) := by decide +kernel
theorem dL_law_1160 : decode code 1160 = .ok (.aload_n 0, 1) := by decide +kernel
theorem dL_law_1161 : decode code 1161 = .ok (.iload_n 3, 1) := by decide +kernel
theorem dL_law_1162 : decode code 1162 = .ok (.iconst 1, 1) := by decide +kernel
theorem dL_law_1163 : decode code 1163 = .ok (.iadd, 1) := by decide +kernel
theorem dL_law_1164 : decode code 1164 = .ok (.iaload, 1) := by decide +kernel
theorem dL_law_1165 : decode code 1165 = .ok (.invokevirtual 150, 3) := by decide +kernel
theorem dL_law_1168 : decode code 1168 = .ok (.if_icmp .eq 18, 3) := by decide +kernel
theorem dL_law_1171 : decode code 1171 = .ok (.iconst 0, 1) := by decide +kernel
theorem dL_law_1172 : decode code 1172 = .ok (.ireturn, 1) := by decide +kernel
theorem dL_law_1173 : decode code 1173 = .ok (.aload_n 1, 1) := by decide +kernel
theorem dL_law_1174 : decode code 1174 = .ok (.invokevirtual 151, 3) := by decide +kernel
theorem dL_law_1177 : decode code 1177 = .ok (.aload_n 2, 1) := by decide +kernel
theorem dL_law_1178 : decode code 1178 = .ok (.invokevirtual 154, 3) := by decide +kernel
theorem dL_law_1181 : decode code 1181 = .ok (.if_icmp .eq 5, 3) := by decide +kernel
theorem dL_law_1184 : decode code 1184 = .ok (.iconst 0, 1) := by decide +kernel
theorem dL_law_1185 : decode code 1185 = .ok (.ireturn, 1) := by decide +kernel
theorem dL_law_1186 : decode code 1186 = .ok (.iinc 3 6, 3) := by decide +kernel
theorem dL_law_1189 : decode code 1189 = .ok (.goto (-1171), 3) := by decide +kernel
theorem dL_law_1192 : decode code 1192 = .ok (.iconst 1, 1) := by decide +kernel
theorem dL_law_1193 : decode code 1193 = .ok (.ireturn, 1) := by decide +kernel
theorem ml_L_13 : Cond.methodLink RL 13 yX6_row ∈ AW := AW_t (tb_1 (i := 235) rfl) rfl
theorem ml_L_17 : Cond.methodLink RL 17 yX7_row ∈ AW := AW_t (tb_4 (i := 104) rfl) rfl
theorem ml_L_18 : Cond.methodLink RL 18 yX6_set ∈ AW := AW_t (tb_2 (i := 21) rfl) rfl
theorem ml_L_21 : Cond.methodLink RL 21 yX7_set ∈ AW := AW_t (tb_4 (i := 126) rfl) rfl
theorem ml_L_22 : Cond.methodLink RL 22 yX6_copy ∈ AW := AW_t (tb_2 (i := 37) rfl) rfl
theorem ml_L_26 : Cond.methodLink RL 26 yX7_copy ∈ AW := AW_t (tb_4 (i := 133) rfl) rfl
theorem ml_L_27 : Cond.methodLink RL 27 yX6_drop ∈ AW := AW_t (tb_2 (i := 52) rfl) rfl
theorem ml_L_31 : Cond.methodLink RL 31 yX7_drop ∈ AW := AW_t (tb_4 (i := 137) rfl) rfl
theorem ml_L_32 : Cond.methodLink RL 32 yX6_feed ∈ AW := AW_t (tb_2 (i := 60) rfl) rfl
theorem ml_L_35 : Cond.methodLink RL 35 yX7_feed ∈ AW := AW_t (tb_4 (i := 145) rfl) rfl
theorem ml_L_36 : Cond.methodLink RL 36 yX6_office ∈ AW := AW_t (tb_2 (i := 73) rfl) rfl
theorem ml_L_40 : Cond.methodLink RL 40 yX7_office ∈ AW := AW_t (tb_4 (i := 151) rfl) rfl
theorem ml_L_41 : Cond.methodLink RL 41 yX6_fault ∈ AW := AW_t (tb_2 (i := 135) rfl) rfl
theorem ml_L_44 : Cond.methodLink RL 44 yX7_fault ∈ AW := AW_t (tb_4 (i := 201) rfl) rfl
theorem ml_L_45 : Cond.methodLink RL 45 yX6_read ∈ AW := AW_t (tb_2 (i := 139) rfl) rfl
theorem ml_L_49 : Cond.methodLink RL 49 yX7_read ∈ AW := AW_t (tb_4 (i := 205) rfl) rfl
theorem ml_L_50 : Cond.methodLink RL 50 yX6_aloud ∈ AW := AW_t (tb_2 (i := 204) rfl) rfl
theorem ml_L_53 : Cond.methodLink RL 53 yX7_aloud ∈ AW := AW_t (tb_5 (i := 32) rfl) rfl
theorem ml_L_54 : Cond.methodLink RL 54 yX6_cross ∈ AW := AW_t (tb_2 (i := 218) rfl) rfl
theorem ml_L_57 : Cond.methodLink RL 57 yX7_cross ∈ AW := AW_t (tb_5 (i := 43) rfl) rfl
theorem ml_L_58 : Cond.methodLink RL 58 yX6_day ∈ AW := AW_t (tb_2 (i := 226) rfl) rfl
theorem ml_L_61 : Cond.methodLink RL 61 yX7_day ∈ AW := AW_t (tb_5 (i := 48) rfl) rfl
theorem ml_L_62 : Cond.methodLink RL 62 yX6_undo ∈ AW := AW_t (tb_2 (i := 237) rfl) rfl
theorem ml_L_65 : Cond.methodLink RL 65 yX7_undo ∈ AW := AW_t (tb_5 (i := 52) rfl) rfl
theorem ml_L_66 : Cond.methodLink RL 66 yX6_reader ∈ AW := AW_t (tb_3 (i := 9) rfl) rfl
theorem ml_L_69 : Cond.methodLink RL 69 yX7_reader ∈ AW := AW_t (tb_5 (i := 60) rfl) rfl
theorem ml_L_70 : Cond.methodLink RL 70 yX6_letter ∈ AW := AW_t (tb_3 (i := 18) rfl) rfl
theorem ml_L_73 : Cond.methodLink RL 73 yX7_letter ∈ AW := AW_t (tb_5 (i := 68) rfl) rfl
theorem ml_L_74 : Cond.methodLink RL 74 yX6_costs ∈ AW := AW_t (tb_3 (i := 30) rfl) rfl
theorem ml_L_77 : Cond.methodLink RL 77 yX7_costs ∈ AW := AW_t (tb_5 (i := 81) rfl) rfl
theorem ml_L_78 : Cond.methodLink RL 78 yX6_best ∈ AW := AW_t (tb_3 (i := 35) rfl) rfl
theorem ml_L_81 : Cond.methodLink RL 81 yX7_best ∈ AW := AW_t (tb_5 (i := 85) rfl) rfl
theorem ml_L_82 : Cond.methodLink RL 82 yX6_allRead ∈ AW := AW_t (tb_3 (i := 46) rfl) rfl
theorem ml_L_85 : Cond.methodLink RL 85 yX7_allRead ∈ AW := AW_t (tb_5 (i := 90) rfl) rfl
theorem ml_L_86 : Cond.methodLink RL 86 yX6_bestAloud ∈ AW := AW_t (tb_3 (i := 79) rfl) rfl
theorem ml_L_89 : Cond.methodLink RL 89 yX7_bestAloud ∈ AW := AW_t (tb_5 (i := 106) rfl) rfl
theorem ml_L_90 : Cond.methodLink RL 90 yX6_kills ∈ AW := AW_t (tb_3 (i := 100) rfl) rfl
theorem ml_L_93 : Cond.methodLink RL 93 yX7_kills ∈ AW := AW_t (tb_5 (i := 114) rfl) rfl
theorem ml_L_94 : Cond.methodLink RL 94 yX6_post ∈ AW := AW_t (tb_3 (i := 108) rfl) rfl
theorem ml_L_97 : Cond.methodLink RL 97 yX7_post ∈ AW := AW_t (tb_5 (i := 118) rfl) rfl
theorem ml_L_98 : Cond.methodLink RL 98 yX6_crossOut ∈ AW := AW_t (tb_3 (i := 128) rfl) rfl
theorem ml_L_101 : Cond.methodLink RL 101 yX7_crossOut ∈ AW := AW_t (tb_5 (i := 126) rfl) rfl
theorem ml_L_102 : Cond.methodLink RL 102 yX6_dies ∈ AW := AW_t (tb_3 (i := 137) rfl) rfl
theorem ml_L_105 : Cond.methodLink RL 105 yX7_dies ∈ AW := AW_t (tb_5 (i := 130) rfl) rfl
theorem ml_L_106 : Cond.methodLink RL 106 yX6_late ∈ AW := AW_t (tb_3 (i := 141) rfl) rfl
theorem ml_L_109 : Cond.methodLink RL 109 yX7_late ∈ AW := AW_t (tb_5 (i := 134) rfl) rfl
theorem ml_L_110 : Cond.methodLink RL 110 yX6_soOld ∈ AW := AW_t (tb_3 (i := 146) rfl) rfl
theorem ml_L_113 : Cond.methodLink RL 113 yX7_soOld ∈ AW := AW_t (tb_5 (i := 139) rfl) rfl
theorem ml_L_114 : Cond.methodLink RL 114 yX6_ages ∈ AW := AW_t (tb_3 (i := 159) rfl) rfl
theorem ml_L_118 : Cond.methodLink RL 118 yX7_ages ∈ AW := AW_t (tb_5 (i := 148) rfl) rfl
theorem ml_L_119 : Cond.methodLink RL 119 yX6_burnt ∈ AW := AW_t (tb_3 (i := 180) rfl) rfl
theorem ml_L_122 : Cond.methodLink RL 122 yX7_burnt ∈ AW := AW_t (tb_5 (i := 157) rfl) rfl
theorem ml_L_123 : Cond.methodLink RL 123 yX6_image ∈ AW := AW_t (tb_3 (i := 198) rfl) rfl
theorem ml_L_126 : Cond.methodLink RL 126 yX7_image ∈ AW := AW_t (tb_5 (i := 162) rfl) rfl
theorem ml_L_127 : Cond.methodLink RL 127 yX6_restore ∈ AW := AW_t (tb_3 (i := 206) rfl) rfl
theorem ml_L_130 : Cond.methodLink RL 130 yX7_restore ∈ AW := AW_t (tb_5 (i := 166) rfl) rfl
theorem ml_L_131 : Cond.methodLink RL 131 yX6_kind ∈ AW := AW_t (tb_3 (i := 210) rfl) rfl
theorem ml_L_134 : Cond.methodLink RL 134 yX7_kind ∈ AW := AW_t (tb_5 (i := 170) rfl) rfl
theorem ml_L_135 : Cond.methodLink RL 135 yX6_as ∈ AW := AW_t (tb_3 (i := 214) rfl) rfl
theorem ml_L_138 : Cond.methodLink RL 138 yX7_as ∈ AW := AW_t (tb_5 (i := 174) rfl) rfl
theorem ml_L_139 : Cond.methodLink RL 139 yX6_ask ∈ AW := AW_t (tb_3 (i := 221) rfl) rfl
theorem ml_L_142 : Cond.methodLink RL 142 yX7_ask ∈ AW := AW_t (tb_5 (i := 183) rfl) rfl
theorem ml_L_143 : Cond.methodLink RL 143 yX6_trace ∈ AW := AW_t (tb_4 (i := 4) rfl) rfl
theorem ml_L_146 : Cond.methodLink RL 146 yX7_trace ∈ AW := AW_t (tb_5 (i := 223) rfl) rfl
theorem ml_L_147 : Cond.methodLink RL 147 yX6_count ∈ AW := AW_t (tb_4 (i := 8) rfl) rfl
theorem ml_L_150 : Cond.methodLink RL 150 yX7_count ∈ AW := AW_t (tb_5 (i := 227) rfl) rfl
theorem ml_L_151 : Cond.methodLink RL 151 yX6_status ∈ AW := AW_t (tb_4 (i := 23) rfl) rfl
theorem ml_L_154 : Cond.methodLink RL 154 yX7_status ∈ AW := AW_t (tb_4 (i := 141) rfl) rfl
def St_row (Inv : Nat → Mem → Prop) : Prop := ∀ (t : Nat) (mem : Mem) (a1 a2 a3 : Int32), t < 512 → Inv t mem → ∃ (r : Int32) (m1 m2 : Mem), X6_row 0 a1 a2 a3 mem = some (r, m1) ∧ X7_row 57 a1 a2 a3 m1 = some (r, m2) ∧ Inv (t + 1) m2
def St_set (Inv : Nat → Mem → Prop) : Prop := ∀ (t : Nat) (mem : Mem) (a1 a2 a3 : Int32), t < 512 → Inv t mem → ∃ (r : Int32) (m1 m2 : Mem), X6_set 0 a1 a2 a3 mem = some (r, m1) ∧ X7_set 57 a1 a2 a3 m1 = some (r, m2) ∧ Inv (t + 1) m2
def St_copy (Inv : Nat → Mem → Prop) : Prop := ∀ (t : Nat) (mem : Mem) (a1 a2 a3 a4 a5 : Int32), t < 512 → Inv t mem → ∃ (r : Int32) (m1 m2 : Mem), X6_copy 0 a1 a2 a3 a4 a5 mem = some (r, m1) ∧ X7_copy 57 a1 a2 a3 a4 a5 m1 = some (r, m2) ∧ Inv (t + 1) m2
def St_drop (Inv : Nat → Mem → Prop) : Prop := ∀ (t : Nat) (mem : Mem) (a1 : Int32), t < 512 → Inv t mem → ∃ (r : Int32) (m1 m2 : Mem), X6_drop 0 a1 mem = some (r, m1) ∧ X7_drop 57 a1 m1 = some (r, m2) ∧ Inv (t + 1) m2
def St_feed (Inv : Nat → Mem → Prop) : Prop := ∀ (t : Nat) (mem : Mem) (a1 : Int32), t < 512 → Inv t mem → ∃ (r : Int32) (m1 m2 : Mem), X6_feed 0 a1 mem = some (r, m1) ∧ X7_feed 57 a1 m1 = some (r, m2) ∧ Inv (t + 1) m2
def St_office (Inv : Nat → Mem → Prop) : Prop := ∀ (t : Nat) (mem : Mem) , t < 512 → Inv t mem → ∃ (r : Int32) (m1 m2 : Mem), X6_office 0  mem = some (r, m1) ∧ X7_office 57  m1 = some (r, m2) ∧ Inv (t + 1) m2
def St_fault (Inv : Nat → Mem → Prop) : Prop := ∀ (t : Nat) (mem : Mem) , t < 512 → Inv t mem → ∃ (r : Int32) (m1 m2 : Mem), X6_fault 0  mem = some (r, m1) ∧ X7_fault 57  m1 = some (r, m2) ∧ Inv (t + 1) m2
def St_read (Inv : Nat → Mem → Prop) : Prop := ∀ (t : Nat) (mem : Mem) (a1 a2 : Int32), t < 512 → Inv t mem → ∃ (r : Int32) (m1 m2 : Mem), X6_read 0 a1 a2 mem = some (r, m1) ∧ X7_read 57 a1 a2 m1 = some (r, m2) ∧ Inv (t + 1) m2
def St_aloud (Inv : Nat → Mem → Prop) : Prop := ∀ (t : Nat) (mem : Mem) (a1 a2 a3 : Int32), t < 512 → Inv t mem → ∃ (r : Int32) (m1 m2 : Mem), X6_aloud 0 a1 a2 a3 mem = some (r, m1) ∧ X7_aloud 57 a1 a2 a3 m1 = some (r, m2) ∧ Inv (t + 1) m2
def St_cross (Inv : Nat → Mem → Prop) : Prop := ∀ (t : Nat) (mem : Mem) (a1 a2 : Int32), t < 512 → Inv t mem → ∃ (r : Int32) (m1 m2 : Mem), X6_cross 0 a1 a2 mem = some (r, m1) ∧ X7_cross 57 a1 a2 m1 = some (r, m2) ∧ Inv (t + 1) m2
def St_day (Inv : Nat → Mem → Prop) : Prop := ∀ (t : Nat) (mem : Mem) , t < 512 → Inv t mem → ∃ (r : Int32) (m1 m2 : Mem), X6_day 0  mem = some (r, m1) ∧ X7_day 57  m1 = some (r, m2) ∧ Inv (t + 1) m2
def St_undo (Inv : Nat → Mem → Prop) : Prop := ∀ (t : Nat) (mem : Mem) , t < 512 → Inv t mem → ∃ (r : Int32) (m1 m2 : Mem), X6_undo 0  mem = some (r, m1) ∧ X7_undo 57  m1 = some (r, m2) ∧ Inv (t + 1) m2
def St_reader (Inv : Nat → Mem → Prop) : Prop := ∀ (t : Nat) (mem : Mem) (a1 a2 : Int32), t < 512 → Inv t mem → ∃ (r : Int32) (m1 m2 : Mem), X6_reader 0 a1 a2 mem = some (r, m1) ∧ X7_reader 57 a1 a2 m1 = some (r, m2) ∧ Inv (t + 1) m2
def St_letter (Inv : Nat → Mem → Prop) : Prop := ∀ (t : Nat) (mem : Mem) (a1 a2 : Int32), t < 512 → Inv t mem → ∃ (r : Int32) (m1 m2 : Mem), X6_letter 0 a1 a2 mem = some (r, m1) ∧ X7_letter 57 a1 a2 m1 = some (r, m2) ∧ Inv (t + 1) m2
def St_costs (Inv : Nat → Mem → Prop) : Prop := ∀ (t : Nat) (mem : Mem) (a1 a2 : Int32), t < 512 → Inv t mem → ∃ (r : Int32) (m1 m2 : Mem), X6_costs 0 a1 a2 mem = some (r, m1) ∧ X7_costs 57 a1 a2 m1 = some (r, m2) ∧ Inv (t + 1) m2
def St_best (Inv : Nat → Mem → Prop) : Prop := ∀ (t : Nat) (mem : Mem) (a1 : Int32), t < 512 → Inv t mem → ∃ (r : Int32) (m1 m2 : Mem), X6_best 0 a1 mem = some (r, m1) ∧ X7_best 57 a1 m1 = some (r, m2) ∧ Inv (t + 1) m2
def St_allRead (Inv : Nat → Mem → Prop) : Prop := ∀ (t : Nat) (mem : Mem) (a1 : Int32), t < 512 → Inv t mem → ∃ (r : Int32) (m1 m2 : Mem), X6_allRead 0 a1 mem = some (r, m1) ∧ X7_allRead 57 a1 m1 = some (r, m2) ∧ Inv (t + 1) m2
def St_bestAloud (Inv : Nat → Mem → Prop) : Prop := ∀ (t : Nat) (mem : Mem) (a1 a2 : Int32), t < 512 → Inv t mem → ∃ (r : Int32) (m1 m2 : Mem), X6_bestAloud 0 a1 a2 mem = some (r, m1) ∧ X7_bestAloud 57 a1 a2 m1 = some (r, m2) ∧ Inv (t + 1) m2
def St_kills (Inv : Nat → Mem → Prop) : Prop := ∀ (t : Nat) (mem : Mem) (a1 : Int32), t < 512 → Inv t mem → ∃ (r : Int32) (m1 m2 : Mem), X6_kills 0 a1 mem = some (r, m1) ∧ X7_kills 57 a1 m1 = some (r, m2) ∧ Inv (t + 1) m2
def St_post (Inv : Nat → Mem → Prop) : Prop := ∀ (t : Nat) (mem : Mem) (a1 a2 : Int32), t < 512 → Inv t mem → ∃ (r : Int32) (m1 m2 : Mem), X6_post 0 a1 a2 mem = some (r, m1) ∧ X7_post 57 a1 a2 m1 = some (r, m2) ∧ Inv (t + 1) m2
def St_crossOut (Inv : Nat → Mem → Prop) : Prop := ∀ (t : Nat) (mem : Mem) (a1 a2 : Int32), t < 512 → Inv t mem → ∃ (r : Int32) (m1 m2 : Mem), X6_crossOut 0 a1 a2 mem = some (r, m1) ∧ X7_crossOut 57 a1 a2 m1 = some (r, m2) ∧ Inv (t + 1) m2
def St_dies (Inv : Nat → Mem → Prop) : Prop := ∀ (t : Nat) (mem : Mem) (a1 : Int32), t < 512 → Inv t mem → ∃ (r : Int32) (m1 m2 : Mem), X6_dies 0 a1 mem = some (r, m1) ∧ X7_dies 57 a1 m1 = some (r, m2) ∧ Inv (t + 1) m2
def St_late (Inv : Nat → Mem → Prop) : Prop := ∀ (t : Nat) (mem : Mem) (a1 : Int32), t < 512 → Inv t mem → ∃ (r : Int32) (m1 m2 : Mem), X6_late 0 a1 mem = some (r, m1) ∧ X7_late 57 a1 m1 = some (r, m2) ∧ Inv (t + 1) m2
def St_soOld (Inv : Nat → Mem → Prop) : Prop := ∀ (t : Nat) (mem : Mem) (a1 a2 a3 : Int32), t < 512 → Inv t mem → ∃ (r : Int32) (m1 m2 : Mem), X6_soOld 0 a1 a2 a3 mem = some (r, m1) ∧ X7_soOld 57 a1 a2 a3 m1 = some (r, m2) ∧ Inv (t + 1) m2
def St_ages (Inv : Nat → Mem → Prop) : Prop := ∀ (t : Nat) (mem : Mem) (a1 a2 a3 a4 : Int32), t < 512 → Inv t mem → ∃ (r : Int32) (m1 m2 : Mem), X6_ages 0 a1 a2 a3 a4 mem = some (r, m1) ∧ X7_ages 57 a1 a2 a3 a4 m1 = some (r, m2) ∧ Inv (t + 1) m2
def St_burnt (Inv : Nat → Mem → Prop) : Prop := ∀ (t : Nat) (mem : Mem) (a1 a2 a3 : Int32), t < 512 → Inv t mem → ∃ (r : Int32) (m1 m2 : Mem), X6_burnt 0 a1 a2 a3 mem = some (r, m1) ∧ X7_burnt 57 a1 a2 a3 m1 = some (r, m2) ∧ Inv (t + 1) m2
def St_image (Inv : Nat → Mem → Prop) : Prop := ∀ (t : Nat) (mem : Mem) (a1 : Int32), t < 512 → Inv t mem → ∃ (r : Int32) (m1 m2 : Mem), X6_image 0 a1 mem = some (r, m1) ∧ X7_image 57 a1 m1 = some (r, m2) ∧ Inv (t + 1) m2
def St_restore (Inv : Nat → Mem → Prop) : Prop := ∀ (t : Nat) (mem : Mem) (a1 : Int32), t < 512 → Inv t mem → ∃ (r : Int32) (m1 m2 : Mem), X6_restore 0 a1 mem = some (r, m1) ∧ X7_restore 57 a1 m1 = some (r, m2) ∧ Inv (t + 1) m2
def St_kind (Inv : Nat → Mem → Prop) : Prop := ∀ (t : Nat) (mem : Mem) (a1 : Int32), t < 512 → Inv t mem → ∃ (r : Int32) (m1 m2 : Mem), X6_kind 0 a1 mem = some (r, m1) ∧ X7_kind 57 a1 m1 = some (r, m2) ∧ Inv (t + 1) m2
def St_as (Inv : Nat → Mem → Prop) : Prop := ∀ (t : Nat) (mem : Mem) (a1 a2 : Int32), t < 512 → Inv t mem → ∃ (r : Int32) (m1 m2 : Mem), X6_as 0 a1 a2 mem = some (r, m1) ∧ X7_as 57 a1 a2 m1 = some (r, m2) ∧ Inv (t + 1) m2
def St_ask (Inv : Nat → Mem → Prop) : Prop := ∀ (t : Nat) (mem : Mem) (a1 a2 : Int32), t < 512 → Inv t mem → ∃ (r : Int32) (m1 m2 : Mem), X6_ask 0 a1 a2 mem = some (r, m1) ∧ X7_ask 57 a1 a2 m1 = some (r, m2) ∧ Inv (t + 1) m2
def St_trace (Inv : Nat → Mem → Prop) : Prop := ∀ (t : Nat) (mem : Mem) (a1 : Int32), t < 512 → Inv t mem → ∃ (r : Int32) (m1 m2 : Mem), X6_trace 0 a1 mem = some (r, m1) ∧ X7_trace 57 a1 m1 = some (r, m2) ∧ Inv (t + 1) m2
def St_count (Inv : Nat → Mem → Prop) : Prop := ∀ (t : Nat) (mem : Mem) (a1 : Int32), t < 512 → Inv t mem → ∃ (r : Int32) (m1 m2 : Mem), X6_count 0 a1 mem = some (r, m1) ∧ X7_count 57 a1 m1 = some (r, m2) ∧ Inv (t + 1) m2
def St_status (Inv : Nat → Mem → Prop) : Prop := ∀ (t : Nat) (mem : Mem) , t < 512 → Inv t mem → ∃ (r : Int32) (m1 m2 : Mem), X6_status 0  mem = some (r, m1) ∧ X7_status 57  m1 = some (r, m2) ∧ Inv (t + 1) m2
set_option maxRecDepth 100000 in
set_option maxHeartbeats 4000000 in
theorem law_row {G : Gt} {p : Program} {e : Env} {s : State} {m : MethodId} {below : List Frame} {meth : Method} {c : Code} {b L : Nat} {xs : Nat → Int32} (C : LC G p s m meth c b L xs) {i : Nat} (hi : i + 6 ≤ L) {mem m1 m2 : Mem} {r : Int32} (e1 : X6_row 0 (xs (i + 1)) (xs (i + 2)) (xs (i + 3)) mem = some (r, m1)) (e2 : X7_row 57 (xs (i + 1)) (xs (i + 2)) (xs (i + 3)) m1 = some (r, m2)) (kk : EvL G p e s m below meth c b KCL KSL 1186 [(0, .ref b), (1, .ref (gA G 0)), (2, .ref (gA G 57)), (3, .int (nI i))] [] m2) : EvL G p e s m below meth c b KCL KSL 184 [(0, .ref b), (1, .ref (gA G 0)), (2, .ref (gA G 57)), (3, .int (nI i))] [] mem := by
  refine l_aload_n C (q := 185) dL_law_184 rfl 1 rfl rfl ?_
  refine l_aload_n C (q := 186) dL_law_185 rfl 0 rfl rfl ?_
  refine l_iload_n C (q := 187) dL_law_186 rfl 3 rfl rfl ?_
  refine l_iconst C (q := 188) (v := 1) dL_law_187 rfl (by decide) ?_
  refine l_iadd C (q := 189) (v := nI (i + 1)) dL_law_188 rfl (ni_p i 1 (by decide)) ?_
  refine l_sld C (q := 190) dL_law_189 rfl (by omega) ?_
  refine l_aload_n C (q := 191) dL_law_190 rfl 0 rfl rfl ?_
  refine l_iload_n C (q := 192) dL_law_191 rfl 3 rfl rfl ?_
  refine l_iconst C (q := 193) (v := 2) dL_law_192 rfl (by decide) ?_
  refine l_iadd C (q := 194) (v := nI (i + 2)) dL_law_193 rfl (ni_p i 2 (by decide)) ?_
  refine l_sld C (q := 195) dL_law_194 rfl (by omega) ?_
  refine l_aload_n C (q := 196) dL_law_195 rfl 0 rfl rfl ?_
  refine l_iload_n C (q := 197) dL_law_196 rfl 3 rfl rfl ?_
  refine l_iconst C (q := 198) (v := 3) dL_law_197 rfl (by decide) ?_
  refine l_iadd C (q := 199) (v := nI (i + 3)) dL_law_198 rfl (ni_p i 3 (by decide)) ?_
  refine l_sld C (q := 200) dL_law_199 rfl (by omega) ?_
  refine l_callV C (q := 203) (b0 := 0) dL_law_200 rfl ml_L_13 mt_X6_row cf_6 rfl (by decide) hc_6 (con_X6_row G _ _ _ _ rfl _) e1 rfl (Nat.le_of_ble_eq_true rfl) (Nat.le_of_ble_eq_true rfl) (Nat.le_of_ble_eq_true rfl) (Nat.le_of_ble_eq_true rfl) rfl (Nat.le_of_ble_eq_true rfl) ?_
  refine l_aload_n C (q := 204) dL_law_203 rfl 2 rfl rfl ?_
  refine l_aload_n C (q := 205) dL_law_204 rfl 0 rfl rfl ?_
  refine l_iload_n C (q := 206) dL_law_205 rfl 3 rfl rfl ?_
  refine l_iconst C (q := 207) (v := 1) dL_law_206 rfl (by decide) ?_
  refine l_iadd C (q := 208) (v := nI (i + 1)) dL_law_207 rfl (ni_p i 1 (by decide)) ?_
  refine l_sld C (q := 209) dL_law_208 rfl (by omega) ?_
  refine l_aload_n C (q := 210) dL_law_209 rfl 0 rfl rfl ?_
  refine l_iload_n C (q := 211) dL_law_210 rfl 3 rfl rfl ?_
  refine l_iconst C (q := 212) (v := 2) dL_law_211 rfl (by decide) ?_
  refine l_iadd C (q := 213) (v := nI (i + 2)) dL_law_212 rfl (ni_p i 2 (by decide)) ?_
  refine l_sld C (q := 214) dL_law_213 rfl (by omega) ?_
  refine l_aload_n C (q := 215) dL_law_214 rfl 0 rfl rfl ?_
  refine l_iload_n C (q := 216) dL_law_215 rfl 3 rfl rfl ?_
  refine l_iconst C (q := 217) (v := 3) dL_law_216 rfl (by decide) ?_
  refine l_iadd C (q := 218) (v := nI (i + 3)) dL_law_217 rfl (ni_p i 3 (by decide)) ?_
  refine l_sld C (q := 219) dL_law_218 rfl (by omega) ?_
  refine l_callV C (q := 222) (b0 := 57) dL_law_219 rfl ml_L_17 mt_X7_row cf_7 rfl (by decide) hc_7 (con_X7_row G _ _ _ _ rfl _) e2 rfl (Nat.le_of_ble_eq_true rfl) (Nat.le_of_ble_eq_true rfl) (Nat.le_of_ble_eq_true rfl) (Nat.le_of_ble_eq_true rfl) rfl (Nat.le_of_ble_eq_true rfl) ?_
  exact l_icmp_eq C (t := 1186) dL_law_222 rfl kk
set_option maxRecDepth 100000 in
set_option maxHeartbeats 4000000 in
theorem law_set {G : Gt} {p : Program} {e : Env} {s : State} {m : MethodId} {below : List Frame} {meth : Method} {c : Code} {b L : Nat} {xs : Nat → Int32} (C : LC G p s m meth c b L xs) {i : Nat} (hi : i + 6 ≤ L) {mem m1 m2 : Mem} {r : Int32} (e1 : X6_set 0 (xs (i + 1)) (xs (i + 2)) (xs (i + 3)) mem = some (r, m1)) (e2 : X7_set 57 (xs (i + 1)) (xs (i + 2)) (xs (i + 3)) m1 = some (r, m2)) (kk : EvL G p e s m below meth c b KCL KSL 1186 [(0, .ref b), (1, .ref (gA G 0)), (2, .ref (gA G 57)), (3, .int (nI i))] [] m2) : EvL G p e s m below meth c b KCL KSL 227 [(0, .ref b), (1, .ref (gA G 0)), (2, .ref (gA G 57)), (3, .int (nI i))] [] mem := by
  refine l_aload_n C (q := 228) dL_law_227 rfl 1 rfl rfl ?_
  refine l_aload_n C (q := 229) dL_law_228 rfl 0 rfl rfl ?_
  refine l_iload_n C (q := 230) dL_law_229 rfl 3 rfl rfl ?_
  refine l_iconst C (q := 231) (v := 1) dL_law_230 rfl (by decide) ?_
  refine l_iadd C (q := 232) (v := nI (i + 1)) dL_law_231 rfl (ni_p i 1 (by decide)) ?_
  refine l_sld C (q := 233) dL_law_232 rfl (by omega) ?_
  refine l_aload_n C (q := 234) dL_law_233 rfl 0 rfl rfl ?_
  refine l_iload_n C (q := 235) dL_law_234 rfl 3 rfl rfl ?_
  refine l_iconst C (q := 236) (v := 2) dL_law_235 rfl (by decide) ?_
  refine l_iadd C (q := 237) (v := nI (i + 2)) dL_law_236 rfl (ni_p i 2 (by decide)) ?_
  refine l_sld C (q := 238) dL_law_237 rfl (by omega) ?_
  refine l_aload_n C (q := 239) dL_law_238 rfl 0 rfl rfl ?_
  refine l_iload_n C (q := 240) dL_law_239 rfl 3 rfl rfl ?_
  refine l_iconst C (q := 241) (v := 3) dL_law_240 rfl (by decide) ?_
  refine l_iadd C (q := 242) (v := nI (i + 3)) dL_law_241 rfl (ni_p i 3 (by decide)) ?_
  refine l_sld C (q := 243) dL_law_242 rfl (by omega) ?_
  refine l_callV C (q := 246) (b0 := 0) dL_law_243 rfl ml_L_18 mt_X6_set cf_6 rfl (by decide) hc_6 (con_X6_set G _ _ _ _ rfl _) e1 rfl (Nat.le_of_ble_eq_true rfl) (Nat.le_of_ble_eq_true rfl) (Nat.le_of_ble_eq_true rfl) (Nat.le_of_ble_eq_true rfl) rfl (Nat.le_of_ble_eq_true rfl) ?_
  refine l_aload_n C (q := 247) dL_law_246 rfl 2 rfl rfl ?_
  refine l_aload_n C (q := 248) dL_law_247 rfl 0 rfl rfl ?_
  refine l_iload_n C (q := 249) dL_law_248 rfl 3 rfl rfl ?_
  refine l_iconst C (q := 250) (v := 1) dL_law_249 rfl (by decide) ?_
  refine l_iadd C (q := 251) (v := nI (i + 1)) dL_law_250 rfl (ni_p i 1 (by decide)) ?_
  refine l_sld C (q := 252) dL_law_251 rfl (by omega) ?_
  refine l_aload_n C (q := 253) dL_law_252 rfl 0 rfl rfl ?_
  refine l_iload_n C (q := 254) dL_law_253 rfl 3 rfl rfl ?_
  refine l_iconst C (q := 255) (v := 2) dL_law_254 rfl (by decide) ?_
  refine l_iadd C (q := 256) (v := nI (i + 2)) dL_law_255 rfl (ni_p i 2 (by decide)) ?_
  refine l_sld C (q := 257) dL_law_256 rfl (by omega) ?_
  refine l_aload_n C (q := 258) dL_law_257 rfl 0 rfl rfl ?_
  refine l_iload_n C (q := 259) dL_law_258 rfl 3 rfl rfl ?_
  refine l_iconst C (q := 260) (v := 3) dL_law_259 rfl (by decide) ?_
  refine l_iadd C (q := 261) (v := nI (i + 3)) dL_law_260 rfl (ni_p i 3 (by decide)) ?_
  refine l_sld C (q := 262) dL_law_261 rfl (by omega) ?_
  refine l_callV C (q := 265) (b0 := 57) dL_law_262 rfl ml_L_21 mt_X7_set cf_7 rfl (by decide) hc_7 (con_X7_set G _ _ _ _ rfl _) e2 rfl (Nat.le_of_ble_eq_true rfl) (Nat.le_of_ble_eq_true rfl) (Nat.le_of_ble_eq_true rfl) (Nat.le_of_ble_eq_true rfl) rfl (Nat.le_of_ble_eq_true rfl) ?_
  exact l_icmp_eq C (t := 1186) dL_law_265 rfl kk
set_option maxRecDepth 100000 in
set_option maxHeartbeats 4000000 in
theorem law_copy {G : Gt} {p : Program} {e : Env} {s : State} {m : MethodId} {below : List Frame} {meth : Method} {c : Code} {b L : Nat} {xs : Nat → Int32} (C : LC G p s m meth c b L xs) {i : Nat} (hi : i + 6 ≤ L) {mem m1 m2 : Mem} {r : Int32} (e1 : X6_copy 0 (xs (i + 1)) (xs (i + 2)) (xs (i + 3)) (xs (i + 4)) (xs (i + 5)) mem = some (r, m1)) (e2 : X7_copy 57 (xs (i + 1)) (xs (i + 2)) (xs (i + 3)) (xs (i + 4)) (xs (i + 5)) m1 = some (r, m2)) (kk : EvL G p e s m below meth c b KCL KSL 1186 [(0, .ref b), (1, .ref (gA G 0)), (2, .ref (gA G 57)), (3, .int (nI i))] [] m2) : EvL G p e s m below meth c b KCL KSL 270 [(0, .ref b), (1, .ref (gA G 0)), (2, .ref (gA G 57)), (3, .int (nI i))] [] mem := by
  refine l_aload_n C (q := 271) dL_law_270 rfl 1 rfl rfl ?_
  refine l_aload_n C (q := 272) dL_law_271 rfl 0 rfl rfl ?_
  refine l_iload_n C (q := 273) dL_law_272 rfl 3 rfl rfl ?_
  refine l_iconst C (q := 274) (v := 1) dL_law_273 rfl (by decide) ?_
  refine l_iadd C (q := 275) (v := nI (i + 1)) dL_law_274 rfl (ni_p i 1 (by decide)) ?_
  refine l_sld C (q := 276) dL_law_275 rfl (by omega) ?_
  refine l_aload_n C (q := 277) dL_law_276 rfl 0 rfl rfl ?_
  refine l_iload_n C (q := 278) dL_law_277 rfl 3 rfl rfl ?_
  refine l_iconst C (q := 279) (v := 2) dL_law_278 rfl (by decide) ?_
  refine l_iadd C (q := 280) (v := nI (i + 2)) dL_law_279 rfl (ni_p i 2 (by decide)) ?_
  refine l_sld C (q := 281) dL_law_280 rfl (by omega) ?_
  refine l_aload_n C (q := 282) dL_law_281 rfl 0 rfl rfl ?_
  refine l_iload_n C (q := 283) dL_law_282 rfl 3 rfl rfl ?_
  refine l_iconst C (q := 284) (v := 3) dL_law_283 rfl (by decide) ?_
  refine l_iadd C (q := 285) (v := nI (i + 3)) dL_law_284 rfl (ni_p i 3 (by decide)) ?_
  refine l_sld C (q := 286) dL_law_285 rfl (by omega) ?_
  refine l_aload_n C (q := 287) dL_law_286 rfl 0 rfl rfl ?_
  refine l_iload_n C (q := 288) dL_law_287 rfl 3 rfl rfl ?_
  refine l_iconst C (q := 289) (v := 4) dL_law_288 rfl (by decide) ?_
  refine l_iadd C (q := 290) (v := nI (i + 4)) dL_law_289 rfl (ni_p i 4 (by decide)) ?_
  refine l_sld C (q := 291) dL_law_290 rfl (by omega) ?_
  refine l_aload_n C (q := 292) dL_law_291 rfl 0 rfl rfl ?_
  refine l_iload_n C (q := 293) dL_law_292 rfl 3 rfl rfl ?_
  refine l_iconst C (q := 294) (v := 5) dL_law_293 rfl (by decide) ?_
  refine l_iadd C (q := 295) (v := nI (i + 5)) dL_law_294 rfl (ni_p i 5 (by decide)) ?_
  refine l_sld C (q := 296) dL_law_295 rfl (by omega) ?_
  refine l_callV C (q := 299) (b0 := 0) dL_law_296 rfl ml_L_22 mt_X6_copy cf_6 rfl (by decide) hc_6 (con_X6_copy G _ _ _ _ _ _ rfl _) e1 rfl (Nat.le_of_ble_eq_true rfl) (Nat.le_of_ble_eq_true rfl) (Nat.le_of_ble_eq_true rfl) (Nat.le_of_ble_eq_true rfl) rfl (Nat.le_of_ble_eq_true rfl) ?_
  refine l_aload_n C (q := 300) dL_law_299 rfl 2 rfl rfl ?_
  refine l_aload_n C (q := 301) dL_law_300 rfl 0 rfl rfl ?_
  refine l_iload_n C (q := 302) dL_law_301 rfl 3 rfl rfl ?_
  refine l_iconst C (q := 303) (v := 1) dL_law_302 rfl (by decide) ?_
  refine l_iadd C (q := 304) (v := nI (i + 1)) dL_law_303 rfl (ni_p i 1 (by decide)) ?_
  refine l_sld C (q := 305) dL_law_304 rfl (by omega) ?_
  refine l_aload_n C (q := 306) dL_law_305 rfl 0 rfl rfl ?_
  refine l_iload_n C (q := 307) dL_law_306 rfl 3 rfl rfl ?_
  refine l_iconst C (q := 308) (v := 2) dL_law_307 rfl (by decide) ?_
  refine l_iadd C (q := 309) (v := nI (i + 2)) dL_law_308 rfl (ni_p i 2 (by decide)) ?_
  refine l_sld C (q := 310) dL_law_309 rfl (by omega) ?_
  refine l_aload_n C (q := 311) dL_law_310 rfl 0 rfl rfl ?_
  refine l_iload_n C (q := 312) dL_law_311 rfl 3 rfl rfl ?_
  refine l_iconst C (q := 313) (v := 3) dL_law_312 rfl (by decide) ?_
  refine l_iadd C (q := 314) (v := nI (i + 3)) dL_law_313 rfl (ni_p i 3 (by decide)) ?_
  refine l_sld C (q := 315) dL_law_314 rfl (by omega) ?_
  refine l_aload_n C (q := 316) dL_law_315 rfl 0 rfl rfl ?_
  refine l_iload_n C (q := 317) dL_law_316 rfl 3 rfl rfl ?_
  refine l_iconst C (q := 318) (v := 4) dL_law_317 rfl (by decide) ?_
  refine l_iadd C (q := 319) (v := nI (i + 4)) dL_law_318 rfl (ni_p i 4 (by decide)) ?_
  refine l_sld C (q := 320) dL_law_319 rfl (by omega) ?_
  refine l_aload_n C (q := 321) dL_law_320 rfl 0 rfl rfl ?_
  refine l_iload_n C (q := 322) dL_law_321 rfl 3 rfl rfl ?_
  refine l_iconst C (q := 323) (v := 5) dL_law_322 rfl (by decide) ?_
  refine l_iadd C (q := 324) (v := nI (i + 5)) dL_law_323 rfl (ni_p i 5 (by decide)) ?_
  refine l_sld C (q := 325) dL_law_324 rfl (by omega) ?_
  refine l_callV C (q := 328) (b0 := 57) dL_law_325 rfl ml_L_26 mt_X7_copy cf_7 rfl (by decide) hc_7 (con_X7_copy G _ _ _ _ _ _ rfl _) e2 rfl (Nat.le_of_ble_eq_true rfl) (Nat.le_of_ble_eq_true rfl) (Nat.le_of_ble_eq_true rfl) (Nat.le_of_ble_eq_true rfl) rfl (Nat.le_of_ble_eq_true rfl) ?_
  exact l_icmp_eq C (t := 1186) dL_law_328 rfl kk
set_option maxRecDepth 100000 in
set_option maxHeartbeats 4000000 in
theorem law_drop {G : Gt} {p : Program} {e : Env} {s : State} {m : MethodId} {below : List Frame} {meth : Method} {c : Code} {b L : Nat} {xs : Nat → Int32} (C : LC G p s m meth c b L xs) {i : Nat} (hi : i + 6 ≤ L) {mem m1 m2 : Mem} {r : Int32} (e1 : X6_drop 0 (xs (i + 1)) mem = some (r, m1)) (e2 : X7_drop 57 (xs (i + 1)) m1 = some (r, m2)) (kk : EvL G p e s m below meth c b KCL KSL 1186 [(0, .ref b), (1, .ref (gA G 0)), (2, .ref (gA G 57)), (3, .int (nI i))] [] m2) : EvL G p e s m below meth c b KCL KSL 333 [(0, .ref b), (1, .ref (gA G 0)), (2, .ref (gA G 57)), (3, .int (nI i))] [] mem := by
  refine l_aload_n C (q := 334) dL_law_333 rfl 1 rfl rfl ?_
  refine l_aload_n C (q := 335) dL_law_334 rfl 0 rfl rfl ?_
  refine l_iload_n C (q := 336) dL_law_335 rfl 3 rfl rfl ?_
  refine l_iconst C (q := 337) (v := 1) dL_law_336 rfl (by decide) ?_
  refine l_iadd C (q := 338) (v := nI (i + 1)) dL_law_337 rfl (ni_p i 1 (by decide)) ?_
  refine l_sld C (q := 339) dL_law_338 rfl (by omega) ?_
  refine l_callV C (q := 342) (b0 := 0) dL_law_339 rfl ml_L_27 mt_X6_drop cf_6 rfl (by decide) hc_6 (con_X6_drop G _ _ rfl _) e1 rfl (Nat.le_of_ble_eq_true rfl) (Nat.le_of_ble_eq_true rfl) (Nat.le_of_ble_eq_true rfl) (Nat.le_of_ble_eq_true rfl) rfl (Nat.le_of_ble_eq_true rfl) ?_
  refine l_aload_n C (q := 343) dL_law_342 rfl 2 rfl rfl ?_
  refine l_aload_n C (q := 344) dL_law_343 rfl 0 rfl rfl ?_
  refine l_iload_n C (q := 345) dL_law_344 rfl 3 rfl rfl ?_
  refine l_iconst C (q := 346) (v := 1) dL_law_345 rfl (by decide) ?_
  refine l_iadd C (q := 347) (v := nI (i + 1)) dL_law_346 rfl (ni_p i 1 (by decide)) ?_
  refine l_sld C (q := 348) dL_law_347 rfl (by omega) ?_
  refine l_callV C (q := 351) (b0 := 57) dL_law_348 rfl ml_L_31 mt_X7_drop cf_7 rfl (by decide) hc_7 (con_X7_drop G _ _ rfl _) e2 rfl (Nat.le_of_ble_eq_true rfl) (Nat.le_of_ble_eq_true rfl) (Nat.le_of_ble_eq_true rfl) (Nat.le_of_ble_eq_true rfl) rfl (Nat.le_of_ble_eq_true rfl) ?_
  exact l_icmp_eq C (t := 1186) dL_law_351 rfl kk
set_option maxRecDepth 100000 in
set_option maxHeartbeats 4000000 in
theorem law_feed {G : Gt} {p : Program} {e : Env} {s : State} {m : MethodId} {below : List Frame} {meth : Method} {c : Code} {b L : Nat} {xs : Nat → Int32} (C : LC G p s m meth c b L xs) {i : Nat} (hi : i + 6 ≤ L) {mem m1 m2 : Mem} {r : Int32} (e1 : X6_feed 0 (xs (i + 1)) mem = some (r, m1)) (e2 : X7_feed 57 (xs (i + 1)) m1 = some (r, m2)) (kk : EvL G p e s m below meth c b KCL KSL 1186 [(0, .ref b), (1, .ref (gA G 0)), (2, .ref (gA G 57)), (3, .int (nI i))] [] m2) : EvL G p e s m below meth c b KCL KSL 356 [(0, .ref b), (1, .ref (gA G 0)), (2, .ref (gA G 57)), (3, .int (nI i))] [] mem := by
  refine l_aload_n C (q := 357) dL_law_356 rfl 1 rfl rfl ?_
  refine l_aload_n C (q := 358) dL_law_357 rfl 0 rfl rfl ?_
  refine l_iload_n C (q := 359) dL_law_358 rfl 3 rfl rfl ?_
  refine l_iconst C (q := 360) (v := 1) dL_law_359 rfl (by decide) ?_
  refine l_iadd C (q := 361) (v := nI (i + 1)) dL_law_360 rfl (ni_p i 1 (by decide)) ?_
  refine l_sld C (q := 362) dL_law_361 rfl (by omega) ?_
  refine l_callV C (q := 365) (b0 := 0) dL_law_362 rfl ml_L_32 mt_X6_feed cf_6 rfl (by decide) hc_6 (con_X6_feed G _ _ rfl _) e1 rfl (Nat.le_of_ble_eq_true rfl) (Nat.le_of_ble_eq_true rfl) (Nat.le_of_ble_eq_true rfl) (Nat.le_of_ble_eq_true rfl) rfl (Nat.le_of_ble_eq_true rfl) ?_
  refine l_aload_n C (q := 366) dL_law_365 rfl 2 rfl rfl ?_
  refine l_aload_n C (q := 367) dL_law_366 rfl 0 rfl rfl ?_
  refine l_iload_n C (q := 368) dL_law_367 rfl 3 rfl rfl ?_
  refine l_iconst C (q := 369) (v := 1) dL_law_368 rfl (by decide) ?_
  refine l_iadd C (q := 370) (v := nI (i + 1)) dL_law_369 rfl (ni_p i 1 (by decide)) ?_
  refine l_sld C (q := 371) dL_law_370 rfl (by omega) ?_
  refine l_callV C (q := 374) (b0 := 57) dL_law_371 rfl ml_L_35 mt_X7_feed cf_7 rfl (by decide) hc_7 (con_X7_feed G _ _ rfl _) e2 rfl (Nat.le_of_ble_eq_true rfl) (Nat.le_of_ble_eq_true rfl) (Nat.le_of_ble_eq_true rfl) (Nat.le_of_ble_eq_true rfl) rfl (Nat.le_of_ble_eq_true rfl) ?_
  exact l_icmp_eq C (t := 1186) dL_law_374 rfl kk
set_option maxRecDepth 100000 in
set_option maxHeartbeats 4000000 in
theorem law_office {G : Gt} {p : Program} {e : Env} {s : State} {m : MethodId} {below : List Frame} {meth : Method} {c : Code} {b L : Nat} {xs : Nat → Int32} (C : LC G p s m meth c b L xs) {i : Nat} (hi : i + 6 ≤ L) {mem m1 m2 : Mem} {r : Int32} (e1 : X6_office 0  mem = some (r, m1)) (e2 : X7_office 57  m1 = some (r, m2)) (kk : EvL G p e s m below meth c b KCL KSL 1186 [(0, .ref b), (1, .ref (gA G 0)), (2, .ref (gA G 57)), (3, .int (nI i))] [] m2) : EvL G p e s m below meth c b KCL KSL 379 [(0, .ref b), (1, .ref (gA G 0)), (2, .ref (gA G 57)), (3, .int (nI i))] [] mem := by
  refine l_aload_n C (q := 380) dL_law_379 rfl 1 rfl rfl ?_
  refine l_callV C (q := 383) (b0 := 0) dL_law_380 rfl ml_L_36 mt_X6_office cf_6 rfl (by decide) hc_6 (con_X6_office G _  rfl _) e1 rfl (Nat.le_of_ble_eq_true rfl) (Nat.le_of_ble_eq_true rfl) (Nat.le_of_ble_eq_true rfl) (Nat.le_of_ble_eq_true rfl) rfl (Nat.le_of_ble_eq_true rfl) ?_
  refine l_aload_n C (q := 384) dL_law_383 rfl 2 rfl rfl ?_
  refine l_callV C (q := 387) (b0 := 57) dL_law_384 rfl ml_L_40 mt_X7_office cf_7 rfl (by decide) hc_7 (con_X7_office G _  rfl _) e2 rfl (Nat.le_of_ble_eq_true rfl) (Nat.le_of_ble_eq_true rfl) (Nat.le_of_ble_eq_true rfl) (Nat.le_of_ble_eq_true rfl) rfl (Nat.le_of_ble_eq_true rfl) ?_
  exact l_icmp_eq C (t := 1186) dL_law_387 rfl kk
set_option maxRecDepth 100000 in
set_option maxHeartbeats 4000000 in
theorem law_fault {G : Gt} {p : Program} {e : Env} {s : State} {m : MethodId} {below : List Frame} {meth : Method} {c : Code} {b L : Nat} {xs : Nat → Int32} (C : LC G p s m meth c b L xs) {i : Nat} (hi : i + 6 ≤ L) {mem m1 m2 : Mem} {r : Int32} (e1 : X6_fault 0  mem = some (r, m1)) (e2 : X7_fault 57  m1 = some (r, m2)) (kk : EvL G p e s m below meth c b KCL KSL 1186 [(0, .ref b), (1, .ref (gA G 0)), (2, .ref (gA G 57)), (3, .int (nI i))] [] m2) : EvL G p e s m below meth c b KCL KSL 392 [(0, .ref b), (1, .ref (gA G 0)), (2, .ref (gA G 57)), (3, .int (nI i))] [] mem := by
  refine l_aload_n C (q := 393) dL_law_392 rfl 1 rfl rfl ?_
  refine l_callV C (q := 396) (b0 := 0) dL_law_393 rfl ml_L_41 mt_X6_fault cf_6 rfl (by decide) hc_6 (con_X6_fault G _  rfl _) e1 rfl (Nat.le_of_ble_eq_true rfl) (Nat.le_of_ble_eq_true rfl) (Nat.le_of_ble_eq_true rfl) (Nat.le_of_ble_eq_true rfl) rfl (Nat.le_of_ble_eq_true rfl) ?_
  refine l_aload_n C (q := 397) dL_law_396 rfl 2 rfl rfl ?_
  refine l_callV C (q := 400) (b0 := 57) dL_law_397 rfl ml_L_44 mt_X7_fault cf_7 rfl (by decide) hc_7 (con_X7_fault G _  rfl _) e2 rfl (Nat.le_of_ble_eq_true rfl) (Nat.le_of_ble_eq_true rfl) (Nat.le_of_ble_eq_true rfl) (Nat.le_of_ble_eq_true rfl) rfl (Nat.le_of_ble_eq_true rfl) ?_
  exact l_icmp_eq C (t := 1186) dL_law_400 rfl kk
set_option maxRecDepth 100000 in
set_option maxHeartbeats 4000000 in
theorem law_read {G : Gt} {p : Program} {e : Env} {s : State} {m : MethodId} {below : List Frame} {meth : Method} {c : Code} {b L : Nat} {xs : Nat → Int32} (C : LC G p s m meth c b L xs) {i : Nat} (hi : i + 6 ≤ L) {mem m1 m2 : Mem} {r : Int32} (e1 : X6_read 0 (xs (i + 1)) (xs (i + 2)) mem = some (r, m1)) (e2 : X7_read 57 (xs (i + 1)) (xs (i + 2)) m1 = some (r, m2)) (kk : EvL G p e s m below meth c b KCL KSL 1186 [(0, .ref b), (1, .ref (gA G 0)), (2, .ref (gA G 57)), (3, .int (nI i))] [] m2) : EvL G p e s m below meth c b KCL KSL 405 [(0, .ref b), (1, .ref (gA G 0)), (2, .ref (gA G 57)), (3, .int (nI i))] [] mem := by
  refine l_aload_n C (q := 406) dL_law_405 rfl 1 rfl rfl ?_
  refine l_aload_n C (q := 407) dL_law_406 rfl 0 rfl rfl ?_
  refine l_iload_n C (q := 408) dL_law_407 rfl 3 rfl rfl ?_
  refine l_iconst C (q := 409) (v := 1) dL_law_408 rfl (by decide) ?_
  refine l_iadd C (q := 410) (v := nI (i + 1)) dL_law_409 rfl (ni_p i 1 (by decide)) ?_
  refine l_sld C (q := 411) dL_law_410 rfl (by omega) ?_
  refine l_aload_n C (q := 412) dL_law_411 rfl 0 rfl rfl ?_
  refine l_iload_n C (q := 413) dL_law_412 rfl 3 rfl rfl ?_
  refine l_iconst C (q := 414) (v := 2) dL_law_413 rfl (by decide) ?_
  refine l_iadd C (q := 415) (v := nI (i + 2)) dL_law_414 rfl (ni_p i 2 (by decide)) ?_
  refine l_sld C (q := 416) dL_law_415 rfl (by omega) ?_
  refine l_callV C (q := 419) (b0 := 0) dL_law_416 rfl ml_L_45 mt_X6_read cf_6 rfl (by decide) hc_6 (con_X6_read G _ _ _ rfl _) e1 rfl (Nat.le_of_ble_eq_true rfl) (Nat.le_of_ble_eq_true rfl) (Nat.le_of_ble_eq_true rfl) (Nat.le_of_ble_eq_true rfl) rfl (Nat.le_of_ble_eq_true rfl) ?_
  refine l_aload_n C (q := 420) dL_law_419 rfl 2 rfl rfl ?_
  refine l_aload_n C (q := 421) dL_law_420 rfl 0 rfl rfl ?_
  refine l_iload_n C (q := 422) dL_law_421 rfl 3 rfl rfl ?_
  refine l_iconst C (q := 423) (v := 1) dL_law_422 rfl (by decide) ?_
  refine l_iadd C (q := 424) (v := nI (i + 1)) dL_law_423 rfl (ni_p i 1 (by decide)) ?_
  refine l_sld C (q := 425) dL_law_424 rfl (by omega) ?_
  refine l_aload_n C (q := 426) dL_law_425 rfl 0 rfl rfl ?_
  refine l_iload_n C (q := 427) dL_law_426 rfl 3 rfl rfl ?_
  refine l_iconst C (q := 428) (v := 2) dL_law_427 rfl (by decide) ?_
  refine l_iadd C (q := 429) (v := nI (i + 2)) dL_law_428 rfl (ni_p i 2 (by decide)) ?_
  refine l_sld C (q := 430) dL_law_429 rfl (by omega) ?_
  refine l_callV C (q := 433) (b0 := 57) dL_law_430 rfl ml_L_49 mt_X7_read cf_7 rfl (by decide) hc_7 (con_X7_read G _ _ _ rfl _) e2 rfl (Nat.le_of_ble_eq_true rfl) (Nat.le_of_ble_eq_true rfl) (Nat.le_of_ble_eq_true rfl) (Nat.le_of_ble_eq_true rfl) rfl (Nat.le_of_ble_eq_true rfl) ?_
  exact l_icmp_eq C (t := 1186) dL_law_433 rfl kk
set_option maxRecDepth 100000 in
set_option maxHeartbeats 4000000 in
theorem law_aloud {G : Gt} {p : Program} {e : Env} {s : State} {m : MethodId} {below : List Frame} {meth : Method} {c : Code} {b L : Nat} {xs : Nat → Int32} (C : LC G p s m meth c b L xs) {i : Nat} (hi : i + 6 ≤ L) {mem m1 m2 : Mem} {r : Int32} (e1 : X6_aloud 0 (xs (i + 1)) (xs (i + 2)) (xs (i + 3)) mem = some (r, m1)) (e2 : X7_aloud 57 (xs (i + 1)) (xs (i + 2)) (xs (i + 3)) m1 = some (r, m2)) (kk : EvL G p e s m below meth c b KCL KSL 1186 [(0, .ref b), (1, .ref (gA G 0)), (2, .ref (gA G 57)), (3, .int (nI i))] [] m2) : EvL G p e s m below meth c b KCL KSL 438 [(0, .ref b), (1, .ref (gA G 0)), (2, .ref (gA G 57)), (3, .int (nI i))] [] mem := by
  refine l_aload_n C (q := 439) dL_law_438 rfl 1 rfl rfl ?_
  refine l_aload_n C (q := 440) dL_law_439 rfl 0 rfl rfl ?_
  refine l_iload_n C (q := 441) dL_law_440 rfl 3 rfl rfl ?_
  refine l_iconst C (q := 442) (v := 1) dL_law_441 rfl (by decide) ?_
  refine l_iadd C (q := 443) (v := nI (i + 1)) dL_law_442 rfl (ni_p i 1 (by decide)) ?_
  refine l_sld C (q := 444) dL_law_443 rfl (by omega) ?_
  refine l_aload_n C (q := 445) dL_law_444 rfl 0 rfl rfl ?_
  refine l_iload_n C (q := 446) dL_law_445 rfl 3 rfl rfl ?_
  refine l_iconst C (q := 447) (v := 2) dL_law_446 rfl (by decide) ?_
  refine l_iadd C (q := 448) (v := nI (i + 2)) dL_law_447 rfl (ni_p i 2 (by decide)) ?_
  refine l_sld C (q := 449) dL_law_448 rfl (by omega) ?_
  refine l_aload_n C (q := 450) dL_law_449 rfl 0 rfl rfl ?_
  refine l_iload_n C (q := 451) dL_law_450 rfl 3 rfl rfl ?_
  refine l_iconst C (q := 452) (v := 3) dL_law_451 rfl (by decide) ?_
  refine l_iadd C (q := 453) (v := nI (i + 3)) dL_law_452 rfl (ni_p i 3 (by decide)) ?_
  refine l_sld C (q := 454) dL_law_453 rfl (by omega) ?_
  refine l_callV C (q := 457) (b0 := 0) dL_law_454 rfl ml_L_50 mt_X6_aloud cf_6 rfl (by decide) hc_6 (con_X6_aloud G _ _ _ _ rfl _) e1 rfl (Nat.le_of_ble_eq_true rfl) (Nat.le_of_ble_eq_true rfl) (Nat.le_of_ble_eq_true rfl) (Nat.le_of_ble_eq_true rfl) rfl (Nat.le_of_ble_eq_true rfl) ?_
  refine l_aload_n C (q := 458) dL_law_457 rfl 2 rfl rfl ?_
  refine l_aload_n C (q := 459) dL_law_458 rfl 0 rfl rfl ?_
  refine l_iload_n C (q := 460) dL_law_459 rfl 3 rfl rfl ?_
  refine l_iconst C (q := 461) (v := 1) dL_law_460 rfl (by decide) ?_
  refine l_iadd C (q := 462) (v := nI (i + 1)) dL_law_461 rfl (ni_p i 1 (by decide)) ?_
  refine l_sld C (q := 463) dL_law_462 rfl (by omega) ?_
  refine l_aload_n C (q := 464) dL_law_463 rfl 0 rfl rfl ?_
  refine l_iload_n C (q := 465) dL_law_464 rfl 3 rfl rfl ?_
  refine l_iconst C (q := 466) (v := 2) dL_law_465 rfl (by decide) ?_
  refine l_iadd C (q := 467) (v := nI (i + 2)) dL_law_466 rfl (ni_p i 2 (by decide)) ?_
  refine l_sld C (q := 468) dL_law_467 rfl (by omega) ?_
  refine l_aload_n C (q := 469) dL_law_468 rfl 0 rfl rfl ?_
  refine l_iload_n C (q := 470) dL_law_469 rfl 3 rfl rfl ?_
  refine l_iconst C (q := 471) (v := 3) dL_law_470 rfl (by decide) ?_
  refine l_iadd C (q := 472) (v := nI (i + 3)) dL_law_471 rfl (ni_p i 3 (by decide)) ?_
  refine l_sld C (q := 473) dL_law_472 rfl (by omega) ?_
  refine l_callV C (q := 476) (b0 := 57) dL_law_473 rfl ml_L_53 mt_X7_aloud cf_7 rfl (by decide) hc_7 (con_X7_aloud G _ _ _ _ rfl _) e2 rfl (Nat.le_of_ble_eq_true rfl) (Nat.le_of_ble_eq_true rfl) (Nat.le_of_ble_eq_true rfl) (Nat.le_of_ble_eq_true rfl) rfl (Nat.le_of_ble_eq_true rfl) ?_
  exact l_icmp_eq C (t := 1186) dL_law_476 rfl kk
set_option maxRecDepth 100000 in
set_option maxHeartbeats 4000000 in
theorem law_cross {G : Gt} {p : Program} {e : Env} {s : State} {m : MethodId} {below : List Frame} {meth : Method} {c : Code} {b L : Nat} {xs : Nat → Int32} (C : LC G p s m meth c b L xs) {i : Nat} (hi : i + 6 ≤ L) {mem m1 m2 : Mem} {r : Int32} (e1 : X6_cross 0 (xs (i + 1)) (xs (i + 2)) mem = some (r, m1)) (e2 : X7_cross 57 (xs (i + 1)) (xs (i + 2)) m1 = some (r, m2)) (kk : EvL G p e s m below meth c b KCL KSL 1186 [(0, .ref b), (1, .ref (gA G 0)), (2, .ref (gA G 57)), (3, .int (nI i))] [] m2) : EvL G p e s m below meth c b KCL KSL 481 [(0, .ref b), (1, .ref (gA G 0)), (2, .ref (gA G 57)), (3, .int (nI i))] [] mem := by
  refine l_aload_n C (q := 482) dL_law_481 rfl 1 rfl rfl ?_
  refine l_aload_n C (q := 483) dL_law_482 rfl 0 rfl rfl ?_
  refine l_iload_n C (q := 484) dL_law_483 rfl 3 rfl rfl ?_
  refine l_iconst C (q := 485) (v := 1) dL_law_484 rfl (by decide) ?_
  refine l_iadd C (q := 486) (v := nI (i + 1)) dL_law_485 rfl (ni_p i 1 (by decide)) ?_
  refine l_sld C (q := 487) dL_law_486 rfl (by omega) ?_
  refine l_aload_n C (q := 488) dL_law_487 rfl 0 rfl rfl ?_
  refine l_iload_n C (q := 489) dL_law_488 rfl 3 rfl rfl ?_
  refine l_iconst C (q := 490) (v := 2) dL_law_489 rfl (by decide) ?_
  refine l_iadd C (q := 491) (v := nI (i + 2)) dL_law_490 rfl (ni_p i 2 (by decide)) ?_
  refine l_sld C (q := 492) dL_law_491 rfl (by omega) ?_
  refine l_callV C (q := 495) (b0 := 0) dL_law_492 rfl ml_L_54 mt_X6_cross cf_6 rfl (by decide) hc_6 (con_X6_cross G _ _ _ rfl _) e1 rfl (Nat.le_of_ble_eq_true rfl) (Nat.le_of_ble_eq_true rfl) (Nat.le_of_ble_eq_true rfl) (Nat.le_of_ble_eq_true rfl) rfl (Nat.le_of_ble_eq_true rfl) ?_
  refine l_aload_n C (q := 496) dL_law_495 rfl 2 rfl rfl ?_
  refine l_aload_n C (q := 497) dL_law_496 rfl 0 rfl rfl ?_
  refine l_iload_n C (q := 498) dL_law_497 rfl 3 rfl rfl ?_
  refine l_iconst C (q := 499) (v := 1) dL_law_498 rfl (by decide) ?_
  refine l_iadd C (q := 500) (v := nI (i + 1)) dL_law_499 rfl (ni_p i 1 (by decide)) ?_
  refine l_sld C (q := 501) dL_law_500 rfl (by omega) ?_
  refine l_aload_n C (q := 502) dL_law_501 rfl 0 rfl rfl ?_
  refine l_iload_n C (q := 503) dL_law_502 rfl 3 rfl rfl ?_
  refine l_iconst C (q := 504) (v := 2) dL_law_503 rfl (by decide) ?_
  refine l_iadd C (q := 505) (v := nI (i + 2)) dL_law_504 rfl (ni_p i 2 (by decide)) ?_
  refine l_sld C (q := 506) dL_law_505 rfl (by omega) ?_
  refine l_callV C (q := 509) (b0 := 57) dL_law_506 rfl ml_L_57 mt_X7_cross cf_7 rfl (by decide) hc_7 (con_X7_cross G _ _ _ rfl _) e2 rfl (Nat.le_of_ble_eq_true rfl) (Nat.le_of_ble_eq_true rfl) (Nat.le_of_ble_eq_true rfl) (Nat.le_of_ble_eq_true rfl) rfl (Nat.le_of_ble_eq_true rfl) ?_
  exact l_icmp_eq C (t := 1186) dL_law_509 rfl kk
set_option maxRecDepth 100000 in
set_option maxHeartbeats 4000000 in
theorem law_day {G : Gt} {p : Program} {e : Env} {s : State} {m : MethodId} {below : List Frame} {meth : Method} {c : Code} {b L : Nat} {xs : Nat → Int32} (C : LC G p s m meth c b L xs) {i : Nat} (hi : i + 6 ≤ L) {mem m1 m2 : Mem} {r : Int32} (e1 : X6_day 0  mem = some (r, m1)) (e2 : X7_day 57  m1 = some (r, m2)) (kk : EvL G p e s m below meth c b KCL KSL 1186 [(0, .ref b), (1, .ref (gA G 0)), (2, .ref (gA G 57)), (3, .int (nI i))] [] m2) : EvL G p e s m below meth c b KCL KSL 514 [(0, .ref b), (1, .ref (gA G 0)), (2, .ref (gA G 57)), (3, .int (nI i))] [] mem := by
  refine l_aload_n C (q := 515) dL_law_514 rfl 1 rfl rfl ?_
  refine l_callV C (q := 518) (b0 := 0) dL_law_515 rfl ml_L_58 mt_X6_day cf_6 rfl (by decide) hc_6 (con_X6_day G _  rfl _) e1 rfl (Nat.le_of_ble_eq_true rfl) (Nat.le_of_ble_eq_true rfl) (Nat.le_of_ble_eq_true rfl) (Nat.le_of_ble_eq_true rfl) rfl (Nat.le_of_ble_eq_true rfl) ?_
  refine l_aload_n C (q := 519) dL_law_518 rfl 2 rfl rfl ?_
  refine l_callV C (q := 522) (b0 := 57) dL_law_519 rfl ml_L_61 mt_X7_day cf_7 rfl (by decide) hc_7 (con_X7_day G _  rfl _) e2 rfl (Nat.le_of_ble_eq_true rfl) (Nat.le_of_ble_eq_true rfl) (Nat.le_of_ble_eq_true rfl) (Nat.le_of_ble_eq_true rfl) rfl (Nat.le_of_ble_eq_true rfl) ?_
  exact l_icmp_eq C (t := 1186) dL_law_522 rfl kk
set_option maxRecDepth 100000 in
set_option maxHeartbeats 4000000 in
theorem law_undo {G : Gt} {p : Program} {e : Env} {s : State} {m : MethodId} {below : List Frame} {meth : Method} {c : Code} {b L : Nat} {xs : Nat → Int32} (C : LC G p s m meth c b L xs) {i : Nat} (hi : i + 6 ≤ L) {mem m1 m2 : Mem} {r : Int32} (e1 : X6_undo 0  mem = some (r, m1)) (e2 : X7_undo 57  m1 = some (r, m2)) (kk : EvL G p e s m below meth c b KCL KSL 1186 [(0, .ref b), (1, .ref (gA G 0)), (2, .ref (gA G 57)), (3, .int (nI i))] [] m2) : EvL G p e s m below meth c b KCL KSL 527 [(0, .ref b), (1, .ref (gA G 0)), (2, .ref (gA G 57)), (3, .int (nI i))] [] mem := by
  refine l_aload_n C (q := 528) dL_law_527 rfl 1 rfl rfl ?_
  refine l_callV C (q := 531) (b0 := 0) dL_law_528 rfl ml_L_62 mt_X6_undo cf_6 rfl (by decide) hc_6 (con_X6_undo G _  rfl _) e1 rfl (Nat.le_of_ble_eq_true rfl) (Nat.le_of_ble_eq_true rfl) (Nat.le_of_ble_eq_true rfl) (Nat.le_of_ble_eq_true rfl) rfl (Nat.le_of_ble_eq_true rfl) ?_
  refine l_aload_n C (q := 532) dL_law_531 rfl 2 rfl rfl ?_
  refine l_callV C (q := 535) (b0 := 57) dL_law_532 rfl ml_L_65 mt_X7_undo cf_7 rfl (by decide) hc_7 (con_X7_undo G _  rfl _) e2 rfl (Nat.le_of_ble_eq_true rfl) (Nat.le_of_ble_eq_true rfl) (Nat.le_of_ble_eq_true rfl) (Nat.le_of_ble_eq_true rfl) rfl (Nat.le_of_ble_eq_true rfl) ?_
  exact l_icmp_eq C (t := 1186) dL_law_535 rfl kk
set_option maxRecDepth 100000 in
set_option maxHeartbeats 4000000 in
theorem law_reader {G : Gt} {p : Program} {e : Env} {s : State} {m : MethodId} {below : List Frame} {meth : Method} {c : Code} {b L : Nat} {xs : Nat → Int32} (C : LC G p s m meth c b L xs) {i : Nat} (hi : i + 6 ≤ L) {mem m1 m2 : Mem} {r : Int32} (e1 : X6_reader 0 (xs (i + 1)) (xs (i + 2)) mem = some (r, m1)) (e2 : X7_reader 57 (xs (i + 1)) (xs (i + 2)) m1 = some (r, m2)) (kk : EvL G p e s m below meth c b KCL KSL 1186 [(0, .ref b), (1, .ref (gA G 0)), (2, .ref (gA G 57)), (3, .int (nI i))] [] m2) : EvL G p e s m below meth c b KCL KSL 540 [(0, .ref b), (1, .ref (gA G 0)), (2, .ref (gA G 57)), (3, .int (nI i))] [] mem := by
  refine l_aload_n C (q := 541) dL_law_540 rfl 1 rfl rfl ?_
  refine l_aload_n C (q := 542) dL_law_541 rfl 0 rfl rfl ?_
  refine l_iload_n C (q := 543) dL_law_542 rfl 3 rfl rfl ?_
  refine l_iconst C (q := 544) (v := 1) dL_law_543 rfl (by decide) ?_
  refine l_iadd C (q := 545) (v := nI (i + 1)) dL_law_544 rfl (ni_p i 1 (by decide)) ?_
  refine l_sld C (q := 546) dL_law_545 rfl (by omega) ?_
  refine l_aload_n C (q := 547) dL_law_546 rfl 0 rfl rfl ?_
  refine l_iload_n C (q := 548) dL_law_547 rfl 3 rfl rfl ?_
  refine l_iconst C (q := 549) (v := 2) dL_law_548 rfl (by decide) ?_
  refine l_iadd C (q := 550) (v := nI (i + 2)) dL_law_549 rfl (ni_p i 2 (by decide)) ?_
  refine l_sld C (q := 551) dL_law_550 rfl (by omega) ?_
  refine l_callV C (q := 554) (b0 := 0) dL_law_551 rfl ml_L_66 mt_X6_reader cf_6 rfl (by decide) hc_6 (con_X6_reader G _ _ _ rfl _) e1 rfl (Nat.le_of_ble_eq_true rfl) (Nat.le_of_ble_eq_true rfl) (Nat.le_of_ble_eq_true rfl) (Nat.le_of_ble_eq_true rfl) rfl (Nat.le_of_ble_eq_true rfl) ?_
  refine l_aload_n C (q := 555) dL_law_554 rfl 2 rfl rfl ?_
  refine l_aload_n C (q := 556) dL_law_555 rfl 0 rfl rfl ?_
  refine l_iload_n C (q := 557) dL_law_556 rfl 3 rfl rfl ?_
  refine l_iconst C (q := 558) (v := 1) dL_law_557 rfl (by decide) ?_
  refine l_iadd C (q := 559) (v := nI (i + 1)) dL_law_558 rfl (ni_p i 1 (by decide)) ?_
  refine l_sld C (q := 560) dL_law_559 rfl (by omega) ?_
  refine l_aload_n C (q := 561) dL_law_560 rfl 0 rfl rfl ?_
  refine l_iload_n C (q := 562) dL_law_561 rfl 3 rfl rfl ?_
  refine l_iconst C (q := 563) (v := 2) dL_law_562 rfl (by decide) ?_
  refine l_iadd C (q := 564) (v := nI (i + 2)) dL_law_563 rfl (ni_p i 2 (by decide)) ?_
  refine l_sld C (q := 565) dL_law_564 rfl (by omega) ?_
  refine l_callV C (q := 568) (b0 := 57) dL_law_565 rfl ml_L_69 mt_X7_reader cf_7 rfl (by decide) hc_7 (con_X7_reader G _ _ _ rfl _) e2 rfl (Nat.le_of_ble_eq_true rfl) (Nat.le_of_ble_eq_true rfl) (Nat.le_of_ble_eq_true rfl) (Nat.le_of_ble_eq_true rfl) rfl (Nat.le_of_ble_eq_true rfl) ?_
  exact l_icmp_eq C (t := 1186) dL_law_568 rfl kk
set_option maxRecDepth 100000 in
set_option maxHeartbeats 4000000 in
theorem law_letter {G : Gt} {p : Program} {e : Env} {s : State} {m : MethodId} {below : List Frame} {meth : Method} {c : Code} {b L : Nat} {xs : Nat → Int32} (C : LC G p s m meth c b L xs) {i : Nat} (hi : i + 6 ≤ L) {mem m1 m2 : Mem} {r : Int32} (e1 : X6_letter 0 (xs (i + 1)) (xs (i + 2)) mem = some (r, m1)) (e2 : X7_letter 57 (xs (i + 1)) (xs (i + 2)) m1 = some (r, m2)) (kk : EvL G p e s m below meth c b KCL KSL 1186 [(0, .ref b), (1, .ref (gA G 0)), (2, .ref (gA G 57)), (3, .int (nI i))] [] m2) : EvL G p e s m below meth c b KCL KSL 573 [(0, .ref b), (1, .ref (gA G 0)), (2, .ref (gA G 57)), (3, .int (nI i))] [] mem := by
  refine l_aload_n C (q := 574) dL_law_573 rfl 1 rfl rfl ?_
  refine l_aload_n C (q := 575) dL_law_574 rfl 0 rfl rfl ?_
  refine l_iload_n C (q := 576) dL_law_575 rfl 3 rfl rfl ?_
  refine l_iconst C (q := 577) (v := 1) dL_law_576 rfl (by decide) ?_
  refine l_iadd C (q := 578) (v := nI (i + 1)) dL_law_577 rfl (ni_p i 1 (by decide)) ?_
  refine l_sld C (q := 579) dL_law_578 rfl (by omega) ?_
  refine l_aload_n C (q := 580) dL_law_579 rfl 0 rfl rfl ?_
  refine l_iload_n C (q := 581) dL_law_580 rfl 3 rfl rfl ?_
  refine l_iconst C (q := 582) (v := 2) dL_law_581 rfl (by decide) ?_
  refine l_iadd C (q := 583) (v := nI (i + 2)) dL_law_582 rfl (ni_p i 2 (by decide)) ?_
  refine l_sld C (q := 584) dL_law_583 rfl (by omega) ?_
  refine l_callV C (q := 587) (b0 := 0) dL_law_584 rfl ml_L_70 mt_X6_letter cf_6 rfl (by decide) hc_6 (con_X6_letter G _ _ _ rfl _) e1 rfl (Nat.le_of_ble_eq_true rfl) (Nat.le_of_ble_eq_true rfl) (Nat.le_of_ble_eq_true rfl) (Nat.le_of_ble_eq_true rfl) rfl (Nat.le_of_ble_eq_true rfl) ?_
  refine l_aload_n C (q := 588) dL_law_587 rfl 2 rfl rfl ?_
  refine l_aload_n C (q := 589) dL_law_588 rfl 0 rfl rfl ?_
  refine l_iload_n C (q := 590) dL_law_589 rfl 3 rfl rfl ?_
  refine l_iconst C (q := 591) (v := 1) dL_law_590 rfl (by decide) ?_
  refine l_iadd C (q := 592) (v := nI (i + 1)) dL_law_591 rfl (ni_p i 1 (by decide)) ?_
  refine l_sld C (q := 593) dL_law_592 rfl (by omega) ?_
  refine l_aload_n C (q := 594) dL_law_593 rfl 0 rfl rfl ?_
  refine l_iload_n C (q := 595) dL_law_594 rfl 3 rfl rfl ?_
  refine l_iconst C (q := 596) (v := 2) dL_law_595 rfl (by decide) ?_
  refine l_iadd C (q := 597) (v := nI (i + 2)) dL_law_596 rfl (ni_p i 2 (by decide)) ?_
  refine l_sld C (q := 598) dL_law_597 rfl (by omega) ?_
  refine l_callV C (q := 601) (b0 := 57) dL_law_598 rfl ml_L_73 mt_X7_letter cf_7 rfl (by decide) hc_7 (con_X7_letter G _ _ _ rfl _) e2 rfl (Nat.le_of_ble_eq_true rfl) (Nat.le_of_ble_eq_true rfl) (Nat.le_of_ble_eq_true rfl) (Nat.le_of_ble_eq_true rfl) rfl (Nat.le_of_ble_eq_true rfl) ?_
  exact l_icmp_eq C (t := 1186) dL_law_601 rfl kk
set_option maxRecDepth 100000 in
set_option maxHeartbeats 4000000 in
theorem law_costs {G : Gt} {p : Program} {e : Env} {s : State} {m : MethodId} {below : List Frame} {meth : Method} {c : Code} {b L : Nat} {xs : Nat → Int32} (C : LC G p s m meth c b L xs) {i : Nat} (hi : i + 6 ≤ L) {mem m1 m2 : Mem} {r : Int32} (e1 : X6_costs 0 (xs (i + 1)) (xs (i + 2)) mem = some (r, m1)) (e2 : X7_costs 57 (xs (i + 1)) (xs (i + 2)) m1 = some (r, m2)) (kk : EvL G p e s m below meth c b KCL KSL 1186 [(0, .ref b), (1, .ref (gA G 0)), (2, .ref (gA G 57)), (3, .int (nI i))] [] m2) : EvL G p e s m below meth c b KCL KSL 606 [(0, .ref b), (1, .ref (gA G 0)), (2, .ref (gA G 57)), (3, .int (nI i))] [] mem := by
  refine l_aload_n C (q := 607) dL_law_606 rfl 1 rfl rfl ?_
  refine l_aload_n C (q := 608) dL_law_607 rfl 0 rfl rfl ?_
  refine l_iload_n C (q := 609) dL_law_608 rfl 3 rfl rfl ?_
  refine l_iconst C (q := 610) (v := 1) dL_law_609 rfl (by decide) ?_
  refine l_iadd C (q := 611) (v := nI (i + 1)) dL_law_610 rfl (ni_p i 1 (by decide)) ?_
  refine l_sld C (q := 612) dL_law_611 rfl (by omega) ?_
  refine l_aload_n C (q := 613) dL_law_612 rfl 0 rfl rfl ?_
  refine l_iload_n C (q := 614) dL_law_613 rfl 3 rfl rfl ?_
  refine l_iconst C (q := 615) (v := 2) dL_law_614 rfl (by decide) ?_
  refine l_iadd C (q := 616) (v := nI (i + 2)) dL_law_615 rfl (ni_p i 2 (by decide)) ?_
  refine l_sld C (q := 617) dL_law_616 rfl (by omega) ?_
  refine l_callV C (q := 620) (b0 := 0) dL_law_617 rfl ml_L_74 mt_X6_costs cf_6 rfl (by decide) hc_6 (con_X6_costs G _ _ _ rfl _) e1 rfl (Nat.le_of_ble_eq_true rfl) (Nat.le_of_ble_eq_true rfl) (Nat.le_of_ble_eq_true rfl) (Nat.le_of_ble_eq_true rfl) rfl (Nat.le_of_ble_eq_true rfl) ?_
  refine l_aload_n C (q := 621) dL_law_620 rfl 2 rfl rfl ?_
  refine l_aload_n C (q := 622) dL_law_621 rfl 0 rfl rfl ?_
  refine l_iload_n C (q := 623) dL_law_622 rfl 3 rfl rfl ?_
  refine l_iconst C (q := 624) (v := 1) dL_law_623 rfl (by decide) ?_
  refine l_iadd C (q := 625) (v := nI (i + 1)) dL_law_624 rfl (ni_p i 1 (by decide)) ?_
  refine l_sld C (q := 626) dL_law_625 rfl (by omega) ?_
  refine l_aload_n C (q := 627) dL_law_626 rfl 0 rfl rfl ?_
  refine l_iload_n C (q := 628) dL_law_627 rfl 3 rfl rfl ?_
  refine l_iconst C (q := 629) (v := 2) dL_law_628 rfl (by decide) ?_
  refine l_iadd C (q := 630) (v := nI (i + 2)) dL_law_629 rfl (ni_p i 2 (by decide)) ?_
  refine l_sld C (q := 631) dL_law_630 rfl (by omega) ?_
  refine l_callV C (q := 634) (b0 := 57) dL_law_631 rfl ml_L_77 mt_X7_costs cf_7 rfl (by decide) hc_7 (con_X7_costs G _ _ _ rfl _) e2 rfl (Nat.le_of_ble_eq_true rfl) (Nat.le_of_ble_eq_true rfl) (Nat.le_of_ble_eq_true rfl) (Nat.le_of_ble_eq_true rfl) rfl (Nat.le_of_ble_eq_true rfl) ?_
  exact l_icmp_eq C (t := 1186) dL_law_634 rfl kk
set_option maxRecDepth 100000 in
set_option maxHeartbeats 4000000 in
theorem law_best {G : Gt} {p : Program} {e : Env} {s : State} {m : MethodId} {below : List Frame} {meth : Method} {c : Code} {b L : Nat} {xs : Nat → Int32} (C : LC G p s m meth c b L xs) {i : Nat} (hi : i + 6 ≤ L) {mem m1 m2 : Mem} {r : Int32} (e1 : X6_best 0 (xs (i + 1)) mem = some (r, m1)) (e2 : X7_best 57 (xs (i + 1)) m1 = some (r, m2)) (kk : EvL G p e s m below meth c b KCL KSL 1186 [(0, .ref b), (1, .ref (gA G 0)), (2, .ref (gA G 57)), (3, .int (nI i))] [] m2) : EvL G p e s m below meth c b KCL KSL 639 [(0, .ref b), (1, .ref (gA G 0)), (2, .ref (gA G 57)), (3, .int (nI i))] [] mem := by
  refine l_aload_n C (q := 640) dL_law_639 rfl 1 rfl rfl ?_
  refine l_aload_n C (q := 641) dL_law_640 rfl 0 rfl rfl ?_
  refine l_iload_n C (q := 642) dL_law_641 rfl 3 rfl rfl ?_
  refine l_iconst C (q := 643) (v := 1) dL_law_642 rfl (by decide) ?_
  refine l_iadd C (q := 644) (v := nI (i + 1)) dL_law_643 rfl (ni_p i 1 (by decide)) ?_
  refine l_sld C (q := 645) dL_law_644 rfl (by omega) ?_
  refine l_callV C (q := 648) (b0 := 0) dL_law_645 rfl ml_L_78 mt_X6_best cf_6 rfl (by decide) hc_6 (con_X6_best G _ _ rfl _) e1 rfl (Nat.le_of_ble_eq_true rfl) (Nat.le_of_ble_eq_true rfl) (Nat.le_of_ble_eq_true rfl) (Nat.le_of_ble_eq_true rfl) rfl (Nat.le_of_ble_eq_true rfl) ?_
  refine l_aload_n C (q := 649) dL_law_648 rfl 2 rfl rfl ?_
  refine l_aload_n C (q := 650) dL_law_649 rfl 0 rfl rfl ?_
  refine l_iload_n C (q := 651) dL_law_650 rfl 3 rfl rfl ?_
  refine l_iconst C (q := 652) (v := 1) dL_law_651 rfl (by decide) ?_
  refine l_iadd C (q := 653) (v := nI (i + 1)) dL_law_652 rfl (ni_p i 1 (by decide)) ?_
  refine l_sld C (q := 654) dL_law_653 rfl (by omega) ?_
  refine l_callV C (q := 657) (b0 := 57) dL_law_654 rfl ml_L_81 mt_X7_best cf_7 rfl (by decide) hc_7 (con_X7_best G _ _ rfl _) e2 rfl (Nat.le_of_ble_eq_true rfl) (Nat.le_of_ble_eq_true rfl) (Nat.le_of_ble_eq_true rfl) (Nat.le_of_ble_eq_true rfl) rfl (Nat.le_of_ble_eq_true rfl) ?_
  exact l_icmp_eq C (t := 1186) dL_law_657 rfl kk
set_option maxRecDepth 100000 in
set_option maxHeartbeats 4000000 in
theorem law_allRead {G : Gt} {p : Program} {e : Env} {s : State} {m : MethodId} {below : List Frame} {meth : Method} {c : Code} {b L : Nat} {xs : Nat → Int32} (C : LC G p s m meth c b L xs) {i : Nat} (hi : i + 6 ≤ L) {mem m1 m2 : Mem} {r : Int32} (e1 : X6_allRead 0 (xs (i + 1)) mem = some (r, m1)) (e2 : X7_allRead 57 (xs (i + 1)) m1 = some (r, m2)) (kk : EvL G p e s m below meth c b KCL KSL 1186 [(0, .ref b), (1, .ref (gA G 0)), (2, .ref (gA G 57)), (3, .int (nI i))] [] m2) : EvL G p e s m below meth c b KCL KSL 662 [(0, .ref b), (1, .ref (gA G 0)), (2, .ref (gA G 57)), (3, .int (nI i))] [] mem := by
  refine l_aload_n C (q := 663) dL_law_662 rfl 1 rfl rfl ?_
  refine l_aload_n C (q := 664) dL_law_663 rfl 0 rfl rfl ?_
  refine l_iload_n C (q := 665) dL_law_664 rfl 3 rfl rfl ?_
  refine l_iconst C (q := 666) (v := 1) dL_law_665 rfl (by decide) ?_
  refine l_iadd C (q := 667) (v := nI (i + 1)) dL_law_666 rfl (ni_p i 1 (by decide)) ?_
  refine l_sld C (q := 668) dL_law_667 rfl (by omega) ?_
  refine l_callV C (q := 671) (b0 := 0) dL_law_668 rfl ml_L_82 mt_X6_allRead cf_6 rfl (by decide) hc_6 (con_X6_allRead G _ _ rfl _) e1 rfl (Nat.le_of_ble_eq_true rfl) (Nat.le_of_ble_eq_true rfl) (Nat.le_of_ble_eq_true rfl) (Nat.le_of_ble_eq_true rfl) rfl (Nat.le_of_ble_eq_true rfl) ?_
  refine l_aload_n C (q := 672) dL_law_671 rfl 2 rfl rfl ?_
  refine l_aload_n C (q := 673) dL_law_672 rfl 0 rfl rfl ?_
  refine l_iload_n C (q := 674) dL_law_673 rfl 3 rfl rfl ?_
  refine l_iconst C (q := 675) (v := 1) dL_law_674 rfl (by decide) ?_
  refine l_iadd C (q := 676) (v := nI (i + 1)) dL_law_675 rfl (ni_p i 1 (by decide)) ?_
  refine l_sld C (q := 677) dL_law_676 rfl (by omega) ?_
  refine l_callV C (q := 680) (b0 := 57) dL_law_677 rfl ml_L_85 mt_X7_allRead cf_7 rfl (by decide) hc_7 (con_X7_allRead G _ _ rfl _) e2 rfl (Nat.le_of_ble_eq_true rfl) (Nat.le_of_ble_eq_true rfl) (Nat.le_of_ble_eq_true rfl) (Nat.le_of_ble_eq_true rfl) rfl (Nat.le_of_ble_eq_true rfl) ?_
  exact l_icmp_eq C (t := 1186) dL_law_680 rfl kk
set_option maxRecDepth 100000 in
set_option maxHeartbeats 4000000 in
theorem law_bestAloud {G : Gt} {p : Program} {e : Env} {s : State} {m : MethodId} {below : List Frame} {meth : Method} {c : Code} {b L : Nat} {xs : Nat → Int32} (C : LC G p s m meth c b L xs) {i : Nat} (hi : i + 6 ≤ L) {mem m1 m2 : Mem} {r : Int32} (e1 : X6_bestAloud 0 (xs (i + 1)) (xs (i + 2)) mem = some (r, m1)) (e2 : X7_bestAloud 57 (xs (i + 1)) (xs (i + 2)) m1 = some (r, m2)) (kk : EvL G p e s m below meth c b KCL KSL 1186 [(0, .ref b), (1, .ref (gA G 0)), (2, .ref (gA G 57)), (3, .int (nI i))] [] m2) : EvL G p e s m below meth c b KCL KSL 685 [(0, .ref b), (1, .ref (gA G 0)), (2, .ref (gA G 57)), (3, .int (nI i))] [] mem := by
  refine l_aload_n C (q := 686) dL_law_685 rfl 1 rfl rfl ?_
  refine l_aload_n C (q := 687) dL_law_686 rfl 0 rfl rfl ?_
  refine l_iload_n C (q := 688) dL_law_687 rfl 3 rfl rfl ?_
  refine l_iconst C (q := 689) (v := 1) dL_law_688 rfl (by decide) ?_
  refine l_iadd C (q := 690) (v := nI (i + 1)) dL_law_689 rfl (ni_p i 1 (by decide)) ?_
  refine l_sld C (q := 691) dL_law_690 rfl (by omega) ?_
  refine l_aload_n C (q := 692) dL_law_691 rfl 0 rfl rfl ?_
  refine l_iload_n C (q := 693) dL_law_692 rfl 3 rfl rfl ?_
  refine l_iconst C (q := 694) (v := 2) dL_law_693 rfl (by decide) ?_
  refine l_iadd C (q := 695) (v := nI (i + 2)) dL_law_694 rfl (ni_p i 2 (by decide)) ?_
  refine l_sld C (q := 696) dL_law_695 rfl (by omega) ?_
  refine l_callV C (q := 699) (b0 := 0) dL_law_696 rfl ml_L_86 mt_X6_bestAloud cf_6 rfl (by decide) hc_6 (con_X6_bestAloud G _ _ _ rfl _) e1 rfl (Nat.le_of_ble_eq_true rfl) (Nat.le_of_ble_eq_true rfl) (Nat.le_of_ble_eq_true rfl) (Nat.le_of_ble_eq_true rfl) rfl (Nat.le_of_ble_eq_true rfl) ?_
  refine l_aload_n C (q := 700) dL_law_699 rfl 2 rfl rfl ?_
  refine l_aload_n C (q := 701) dL_law_700 rfl 0 rfl rfl ?_
  refine l_iload_n C (q := 702) dL_law_701 rfl 3 rfl rfl ?_
  refine l_iconst C (q := 703) (v := 1) dL_law_702 rfl (by decide) ?_
  refine l_iadd C (q := 704) (v := nI (i + 1)) dL_law_703 rfl (ni_p i 1 (by decide)) ?_
  refine l_sld C (q := 705) dL_law_704 rfl (by omega) ?_
  refine l_aload_n C (q := 706) dL_law_705 rfl 0 rfl rfl ?_
  refine l_iload_n C (q := 707) dL_law_706 rfl 3 rfl rfl ?_
  refine l_iconst C (q := 708) (v := 2) dL_law_707 rfl (by decide) ?_
  refine l_iadd C (q := 709) (v := nI (i + 2)) dL_law_708 rfl (ni_p i 2 (by decide)) ?_
  refine l_sld C (q := 710) dL_law_709 rfl (by omega) ?_
  refine l_callV C (q := 713) (b0 := 57) dL_law_710 rfl ml_L_89 mt_X7_bestAloud cf_7 rfl (by decide) hc_7 (con_X7_bestAloud G _ _ _ rfl _) e2 rfl (Nat.le_of_ble_eq_true rfl) (Nat.le_of_ble_eq_true rfl) (Nat.le_of_ble_eq_true rfl) (Nat.le_of_ble_eq_true rfl) rfl (Nat.le_of_ble_eq_true rfl) ?_
  exact l_icmp_eq C (t := 1186) dL_law_713 rfl kk
set_option maxRecDepth 100000 in
set_option maxHeartbeats 4000000 in
theorem law_kills {G : Gt} {p : Program} {e : Env} {s : State} {m : MethodId} {below : List Frame} {meth : Method} {c : Code} {b L : Nat} {xs : Nat → Int32} (C : LC G p s m meth c b L xs) {i : Nat} (hi : i + 6 ≤ L) {mem m1 m2 : Mem} {r : Int32} (e1 : X6_kills 0 (xs (i + 1)) mem = some (r, m1)) (e2 : X7_kills 57 (xs (i + 1)) m1 = some (r, m2)) (kk : EvL G p e s m below meth c b KCL KSL 1186 [(0, .ref b), (1, .ref (gA G 0)), (2, .ref (gA G 57)), (3, .int (nI i))] [] m2) : EvL G p e s m below meth c b KCL KSL 718 [(0, .ref b), (1, .ref (gA G 0)), (2, .ref (gA G 57)), (3, .int (nI i))] [] mem := by
  refine l_aload_n C (q := 719) dL_law_718 rfl 1 rfl rfl ?_
  refine l_aload_n C (q := 720) dL_law_719 rfl 0 rfl rfl ?_
  refine l_iload_n C (q := 721) dL_law_720 rfl 3 rfl rfl ?_
  refine l_iconst C (q := 722) (v := 1) dL_law_721 rfl (by decide) ?_
  refine l_iadd C (q := 723) (v := nI (i + 1)) dL_law_722 rfl (ni_p i 1 (by decide)) ?_
  refine l_sld C (q := 724) dL_law_723 rfl (by omega) ?_
  refine l_callV C (q := 727) (b0 := 0) dL_law_724 rfl ml_L_90 mt_X6_kills cf_6 rfl (by decide) hc_6 (con_X6_kills G _ _ rfl _) e1 rfl (Nat.le_of_ble_eq_true rfl) (Nat.le_of_ble_eq_true rfl) (Nat.le_of_ble_eq_true rfl) (Nat.le_of_ble_eq_true rfl) rfl (Nat.le_of_ble_eq_true rfl) ?_
  refine l_aload_n C (q := 728) dL_law_727 rfl 2 rfl rfl ?_
  refine l_aload_n C (q := 729) dL_law_728 rfl 0 rfl rfl ?_
  refine l_iload_n C (q := 730) dL_law_729 rfl 3 rfl rfl ?_
  refine l_iconst C (q := 731) (v := 1) dL_law_730 rfl (by decide) ?_
  refine l_iadd C (q := 732) (v := nI (i + 1)) dL_law_731 rfl (ni_p i 1 (by decide)) ?_
  refine l_sld C (q := 733) dL_law_732 rfl (by omega) ?_
  refine l_callV C (q := 736) (b0 := 57) dL_law_733 rfl ml_L_93 mt_X7_kills cf_7 rfl (by decide) hc_7 (con_X7_kills G _ _ rfl _) e2 rfl (Nat.le_of_ble_eq_true rfl) (Nat.le_of_ble_eq_true rfl) (Nat.le_of_ble_eq_true rfl) (Nat.le_of_ble_eq_true rfl) rfl (Nat.le_of_ble_eq_true rfl) ?_
  exact l_icmp_eq C (t := 1186) dL_law_736 rfl kk
set_option maxRecDepth 100000 in
set_option maxHeartbeats 4000000 in
theorem law_post {G : Gt} {p : Program} {e : Env} {s : State} {m : MethodId} {below : List Frame} {meth : Method} {c : Code} {b L : Nat} {xs : Nat → Int32} (C : LC G p s m meth c b L xs) {i : Nat} (hi : i + 6 ≤ L) {mem m1 m2 : Mem} {r : Int32} (e1 : X6_post 0 (xs (i + 1)) (xs (i + 2)) mem = some (r, m1)) (e2 : X7_post 57 (xs (i + 1)) (xs (i + 2)) m1 = some (r, m2)) (kk : EvL G p e s m below meth c b KCL KSL 1186 [(0, .ref b), (1, .ref (gA G 0)), (2, .ref (gA G 57)), (3, .int (nI i))] [] m2) : EvL G p e s m below meth c b KCL KSL 741 [(0, .ref b), (1, .ref (gA G 0)), (2, .ref (gA G 57)), (3, .int (nI i))] [] mem := by
  refine l_aload_n C (q := 742) dL_law_741 rfl 1 rfl rfl ?_
  refine l_aload_n C (q := 743) dL_law_742 rfl 0 rfl rfl ?_
  refine l_iload_n C (q := 744) dL_law_743 rfl 3 rfl rfl ?_
  refine l_iconst C (q := 745) (v := 1) dL_law_744 rfl (by decide) ?_
  refine l_iadd C (q := 746) (v := nI (i + 1)) dL_law_745 rfl (ni_p i 1 (by decide)) ?_
  refine l_sld C (q := 747) dL_law_746 rfl (by omega) ?_
  refine l_aload_n C (q := 748) dL_law_747 rfl 0 rfl rfl ?_
  refine l_iload_n C (q := 749) dL_law_748 rfl 3 rfl rfl ?_
  refine l_iconst C (q := 750) (v := 2) dL_law_749 rfl (by decide) ?_
  refine l_iadd C (q := 751) (v := nI (i + 2)) dL_law_750 rfl (ni_p i 2 (by decide)) ?_
  refine l_sld C (q := 752) dL_law_751 rfl (by omega) ?_
  refine l_callV C (q := 755) (b0 := 0) dL_law_752 rfl ml_L_94 mt_X6_post cf_6 rfl (by decide) hc_6 (con_X6_post G _ _ _ rfl _) e1 rfl (Nat.le_of_ble_eq_true rfl) (Nat.le_of_ble_eq_true rfl) (Nat.le_of_ble_eq_true rfl) (Nat.le_of_ble_eq_true rfl) rfl (Nat.le_of_ble_eq_true rfl) ?_
  refine l_aload_n C (q := 756) dL_law_755 rfl 2 rfl rfl ?_
  refine l_aload_n C (q := 757) dL_law_756 rfl 0 rfl rfl ?_
  refine l_iload_n C (q := 758) dL_law_757 rfl 3 rfl rfl ?_
  refine l_iconst C (q := 759) (v := 1) dL_law_758 rfl (by decide) ?_
  refine l_iadd C (q := 760) (v := nI (i + 1)) dL_law_759 rfl (ni_p i 1 (by decide)) ?_
  refine l_sld C (q := 761) dL_law_760 rfl (by omega) ?_
  refine l_aload_n C (q := 762) dL_law_761 rfl 0 rfl rfl ?_
  refine l_iload_n C (q := 763) dL_law_762 rfl 3 rfl rfl ?_
  refine l_iconst C (q := 764) (v := 2) dL_law_763 rfl (by decide) ?_
  refine l_iadd C (q := 765) (v := nI (i + 2)) dL_law_764 rfl (ni_p i 2 (by decide)) ?_
  refine l_sld C (q := 766) dL_law_765 rfl (by omega) ?_
  refine l_callV C (q := 769) (b0 := 57) dL_law_766 rfl ml_L_97 mt_X7_post cf_7 rfl (by decide) hc_7 (con_X7_post G _ _ _ rfl _) e2 rfl (Nat.le_of_ble_eq_true rfl) (Nat.le_of_ble_eq_true rfl) (Nat.le_of_ble_eq_true rfl) (Nat.le_of_ble_eq_true rfl) rfl (Nat.le_of_ble_eq_true rfl) ?_
  exact l_icmp_eq C (t := 1186) dL_law_769 rfl kk
set_option maxRecDepth 100000 in
set_option maxHeartbeats 4000000 in
theorem law_crossOut {G : Gt} {p : Program} {e : Env} {s : State} {m : MethodId} {below : List Frame} {meth : Method} {c : Code} {b L : Nat} {xs : Nat → Int32} (C : LC G p s m meth c b L xs) {i : Nat} (hi : i + 6 ≤ L) {mem m1 m2 : Mem} {r : Int32} (e1 : X6_crossOut 0 (xs (i + 1)) (xs (i + 2)) mem = some (r, m1)) (e2 : X7_crossOut 57 (xs (i + 1)) (xs (i + 2)) m1 = some (r, m2)) (kk : EvL G p e s m below meth c b KCL KSL 1186 [(0, .ref b), (1, .ref (gA G 0)), (2, .ref (gA G 57)), (3, .int (nI i))] [] m2) : EvL G p e s m below meth c b KCL KSL 774 [(0, .ref b), (1, .ref (gA G 0)), (2, .ref (gA G 57)), (3, .int (nI i))] [] mem := by
  refine l_aload_n C (q := 775) dL_law_774 rfl 1 rfl rfl ?_
  refine l_aload_n C (q := 776) dL_law_775 rfl 0 rfl rfl ?_
  refine l_iload_n C (q := 777) dL_law_776 rfl 3 rfl rfl ?_
  refine l_iconst C (q := 778) (v := 1) dL_law_777 rfl (by decide) ?_
  refine l_iadd C (q := 779) (v := nI (i + 1)) dL_law_778 rfl (ni_p i 1 (by decide)) ?_
  refine l_sld C (q := 780) dL_law_779 rfl (by omega) ?_
  refine l_aload_n C (q := 781) dL_law_780 rfl 0 rfl rfl ?_
  refine l_iload_n C (q := 782) dL_law_781 rfl 3 rfl rfl ?_
  refine l_iconst C (q := 783) (v := 2) dL_law_782 rfl (by decide) ?_
  refine l_iadd C (q := 784) (v := nI (i + 2)) dL_law_783 rfl (ni_p i 2 (by decide)) ?_
  refine l_sld C (q := 785) dL_law_784 rfl (by omega) ?_
  refine l_callV C (q := 788) (b0 := 0) dL_law_785 rfl ml_L_98 mt_X6_crossOut cf_6 rfl (by decide) hc_6 (con_X6_crossOut G _ _ _ rfl _) e1 rfl (Nat.le_of_ble_eq_true rfl) (Nat.le_of_ble_eq_true rfl) (Nat.le_of_ble_eq_true rfl) (Nat.le_of_ble_eq_true rfl) rfl (Nat.le_of_ble_eq_true rfl) ?_
  refine l_aload_n C (q := 789) dL_law_788 rfl 2 rfl rfl ?_
  refine l_aload_n C (q := 790) dL_law_789 rfl 0 rfl rfl ?_
  refine l_iload_n C (q := 791) dL_law_790 rfl 3 rfl rfl ?_
  refine l_iconst C (q := 792) (v := 1) dL_law_791 rfl (by decide) ?_
  refine l_iadd C (q := 793) (v := nI (i + 1)) dL_law_792 rfl (ni_p i 1 (by decide)) ?_
  refine l_sld C (q := 794) dL_law_793 rfl (by omega) ?_
  refine l_aload_n C (q := 795) dL_law_794 rfl 0 rfl rfl ?_
  refine l_iload_n C (q := 796) dL_law_795 rfl 3 rfl rfl ?_
  refine l_iconst C (q := 797) (v := 2) dL_law_796 rfl (by decide) ?_
  refine l_iadd C (q := 798) (v := nI (i + 2)) dL_law_797 rfl (ni_p i 2 (by decide)) ?_
  refine l_sld C (q := 799) dL_law_798 rfl (by omega) ?_
  refine l_callV C (q := 802) (b0 := 57) dL_law_799 rfl ml_L_101 mt_X7_crossOut cf_7 rfl (by decide) hc_7 (con_X7_crossOut G _ _ _ rfl _) e2 rfl (Nat.le_of_ble_eq_true rfl) (Nat.le_of_ble_eq_true rfl) (Nat.le_of_ble_eq_true rfl) (Nat.le_of_ble_eq_true rfl) rfl (Nat.le_of_ble_eq_true rfl) ?_
  exact l_icmp_eq C (t := 1186) dL_law_802 rfl kk
set_option maxRecDepth 100000 in
set_option maxHeartbeats 4000000 in
theorem law_dies {G : Gt} {p : Program} {e : Env} {s : State} {m : MethodId} {below : List Frame} {meth : Method} {c : Code} {b L : Nat} {xs : Nat → Int32} (C : LC G p s m meth c b L xs) {i : Nat} (hi : i + 6 ≤ L) {mem m1 m2 : Mem} {r : Int32} (e1 : X6_dies 0 (xs (i + 1)) mem = some (r, m1)) (e2 : X7_dies 57 (xs (i + 1)) m1 = some (r, m2)) (kk : EvL G p e s m below meth c b KCL KSL 1186 [(0, .ref b), (1, .ref (gA G 0)), (2, .ref (gA G 57)), (3, .int (nI i))] [] m2) : EvL G p e s m below meth c b KCL KSL 807 [(0, .ref b), (1, .ref (gA G 0)), (2, .ref (gA G 57)), (3, .int (nI i))] [] mem := by
  refine l_aload_n C (q := 808) dL_law_807 rfl 1 rfl rfl ?_
  refine l_aload_n C (q := 809) dL_law_808 rfl 0 rfl rfl ?_
  refine l_iload_n C (q := 810) dL_law_809 rfl 3 rfl rfl ?_
  refine l_iconst C (q := 811) (v := 1) dL_law_810 rfl (by decide) ?_
  refine l_iadd C (q := 812) (v := nI (i + 1)) dL_law_811 rfl (ni_p i 1 (by decide)) ?_
  refine l_sld C (q := 813) dL_law_812 rfl (by omega) ?_
  refine l_callV C (q := 816) (b0 := 0) dL_law_813 rfl ml_L_102 mt_X6_dies cf_6 rfl (by decide) hc_6 (con_X6_dies G _ _ rfl _) e1 rfl (Nat.le_of_ble_eq_true rfl) (Nat.le_of_ble_eq_true rfl) (Nat.le_of_ble_eq_true rfl) (Nat.le_of_ble_eq_true rfl) rfl (Nat.le_of_ble_eq_true rfl) ?_
  refine l_aload_n C (q := 817) dL_law_816 rfl 2 rfl rfl ?_
  refine l_aload_n C (q := 818) dL_law_817 rfl 0 rfl rfl ?_
  refine l_iload_n C (q := 819) dL_law_818 rfl 3 rfl rfl ?_
  refine l_iconst C (q := 820) (v := 1) dL_law_819 rfl (by decide) ?_
  refine l_iadd C (q := 821) (v := nI (i + 1)) dL_law_820 rfl (ni_p i 1 (by decide)) ?_
  refine l_sld C (q := 822) dL_law_821 rfl (by omega) ?_
  refine l_callV C (q := 825) (b0 := 57) dL_law_822 rfl ml_L_105 mt_X7_dies cf_7 rfl (by decide) hc_7 (con_X7_dies G _ _ rfl _) e2 rfl (Nat.le_of_ble_eq_true rfl) (Nat.le_of_ble_eq_true rfl) (Nat.le_of_ble_eq_true rfl) (Nat.le_of_ble_eq_true rfl) rfl (Nat.le_of_ble_eq_true rfl) ?_
  exact l_icmp_eq C (t := 1186) dL_law_825 rfl kk
set_option maxRecDepth 100000 in
set_option maxHeartbeats 4000000 in
theorem law_late {G : Gt} {p : Program} {e : Env} {s : State} {m : MethodId} {below : List Frame} {meth : Method} {c : Code} {b L : Nat} {xs : Nat → Int32} (C : LC G p s m meth c b L xs) {i : Nat} (hi : i + 6 ≤ L) {mem m1 m2 : Mem} {r : Int32} (e1 : X6_late 0 (xs (i + 1)) mem = some (r, m1)) (e2 : X7_late 57 (xs (i + 1)) m1 = some (r, m2)) (kk : EvL G p e s m below meth c b KCL KSL 1186 [(0, .ref b), (1, .ref (gA G 0)), (2, .ref (gA G 57)), (3, .int (nI i))] [] m2) : EvL G p e s m below meth c b KCL KSL 830 [(0, .ref b), (1, .ref (gA G 0)), (2, .ref (gA G 57)), (3, .int (nI i))] [] mem := by
  refine l_aload_n C (q := 831) dL_law_830 rfl 1 rfl rfl ?_
  refine l_aload_n C (q := 832) dL_law_831 rfl 0 rfl rfl ?_
  refine l_iload_n C (q := 833) dL_law_832 rfl 3 rfl rfl ?_
  refine l_iconst C (q := 834) (v := 1) dL_law_833 rfl (by decide) ?_
  refine l_iadd C (q := 835) (v := nI (i + 1)) dL_law_834 rfl (ni_p i 1 (by decide)) ?_
  refine l_sld C (q := 836) dL_law_835 rfl (by omega) ?_
  refine l_callV C (q := 839) (b0 := 0) dL_law_836 rfl ml_L_106 mt_X6_late cf_6 rfl (by decide) hc_6 (con_X6_late G _ _ rfl _) e1 rfl (Nat.le_of_ble_eq_true rfl) (Nat.le_of_ble_eq_true rfl) (Nat.le_of_ble_eq_true rfl) (Nat.le_of_ble_eq_true rfl) rfl (Nat.le_of_ble_eq_true rfl) ?_
  refine l_aload_n C (q := 840) dL_law_839 rfl 2 rfl rfl ?_
  refine l_aload_n C (q := 841) dL_law_840 rfl 0 rfl rfl ?_
  refine l_iload_n C (q := 842) dL_law_841 rfl 3 rfl rfl ?_
  refine l_iconst C (q := 843) (v := 1) dL_law_842 rfl (by decide) ?_
  refine l_iadd C (q := 844) (v := nI (i + 1)) dL_law_843 rfl (ni_p i 1 (by decide)) ?_
  refine l_sld C (q := 845) dL_law_844 rfl (by omega) ?_
  refine l_callV C (q := 848) (b0 := 57) dL_law_845 rfl ml_L_109 mt_X7_late cf_7 rfl (by decide) hc_7 (con_X7_late G _ _ rfl _) e2 rfl (Nat.le_of_ble_eq_true rfl) (Nat.le_of_ble_eq_true rfl) (Nat.le_of_ble_eq_true rfl) (Nat.le_of_ble_eq_true rfl) rfl (Nat.le_of_ble_eq_true rfl) ?_
  exact l_icmp_eq C (t := 1186) dL_law_848 rfl kk
set_option maxRecDepth 100000 in
set_option maxHeartbeats 4000000 in
theorem law_soOld {G : Gt} {p : Program} {e : Env} {s : State} {m : MethodId} {below : List Frame} {meth : Method} {c : Code} {b L : Nat} {xs : Nat → Int32} (C : LC G p s m meth c b L xs) {i : Nat} (hi : i + 6 ≤ L) {mem m1 m2 : Mem} {r : Int32} (e1 : X6_soOld 0 (xs (i + 1)) (xs (i + 2)) (xs (i + 3)) mem = some (r, m1)) (e2 : X7_soOld 57 (xs (i + 1)) (xs (i + 2)) (xs (i + 3)) m1 = some (r, m2)) (kk : EvL G p e s m below meth c b KCL KSL 1186 [(0, .ref b), (1, .ref (gA G 0)), (2, .ref (gA G 57)), (3, .int (nI i))] [] m2) : EvL G p e s m below meth c b KCL KSL 853 [(0, .ref b), (1, .ref (gA G 0)), (2, .ref (gA G 57)), (3, .int (nI i))] [] mem := by
  refine l_aload_n C (q := 854) dL_law_853 rfl 1 rfl rfl ?_
  refine l_aload_n C (q := 855) dL_law_854 rfl 0 rfl rfl ?_
  refine l_iload_n C (q := 856) dL_law_855 rfl 3 rfl rfl ?_
  refine l_iconst C (q := 857) (v := 1) dL_law_856 rfl (by decide) ?_
  refine l_iadd C (q := 858) (v := nI (i + 1)) dL_law_857 rfl (ni_p i 1 (by decide)) ?_
  refine l_sld C (q := 859) dL_law_858 rfl (by omega) ?_
  refine l_aload_n C (q := 860) dL_law_859 rfl 0 rfl rfl ?_
  refine l_iload_n C (q := 861) dL_law_860 rfl 3 rfl rfl ?_
  refine l_iconst C (q := 862) (v := 2) dL_law_861 rfl (by decide) ?_
  refine l_iadd C (q := 863) (v := nI (i + 2)) dL_law_862 rfl (ni_p i 2 (by decide)) ?_
  refine l_sld C (q := 864) dL_law_863 rfl (by omega) ?_
  refine l_aload_n C (q := 865) dL_law_864 rfl 0 rfl rfl ?_
  refine l_iload_n C (q := 866) dL_law_865 rfl 3 rfl rfl ?_
  refine l_iconst C (q := 867) (v := 3) dL_law_866 rfl (by decide) ?_
  refine l_iadd C (q := 868) (v := nI (i + 3)) dL_law_867 rfl (ni_p i 3 (by decide)) ?_
  refine l_sld C (q := 869) dL_law_868 rfl (by omega) ?_
  refine l_callV C (q := 872) (b0 := 0) dL_law_869 rfl ml_L_110 mt_X6_soOld cf_6 rfl (by decide) hc_6 (con_X6_soOld G _ _ _ _ rfl _) e1 rfl (Nat.le_of_ble_eq_true rfl) (Nat.le_of_ble_eq_true rfl) (Nat.le_of_ble_eq_true rfl) (Nat.le_of_ble_eq_true rfl) rfl (Nat.le_of_ble_eq_true rfl) ?_
  refine l_aload_n C (q := 873) dL_law_872 rfl 2 rfl rfl ?_
  refine l_aload_n C (q := 874) dL_law_873 rfl 0 rfl rfl ?_
  refine l_iload_n C (q := 875) dL_law_874 rfl 3 rfl rfl ?_
  refine l_iconst C (q := 876) (v := 1) dL_law_875 rfl (by decide) ?_
  refine l_iadd C (q := 877) (v := nI (i + 1)) dL_law_876 rfl (ni_p i 1 (by decide)) ?_
  refine l_sld C (q := 878) dL_law_877 rfl (by omega) ?_
  refine l_aload_n C (q := 879) dL_law_878 rfl 0 rfl rfl ?_
  refine l_iload_n C (q := 880) dL_law_879 rfl 3 rfl rfl ?_
  refine l_iconst C (q := 881) (v := 2) dL_law_880 rfl (by decide) ?_
  refine l_iadd C (q := 882) (v := nI (i + 2)) dL_law_881 rfl (ni_p i 2 (by decide)) ?_
  refine l_sld C (q := 883) dL_law_882 rfl (by omega) ?_
  refine l_aload_n C (q := 884) dL_law_883 rfl 0 rfl rfl ?_
  refine l_iload_n C (q := 885) dL_law_884 rfl 3 rfl rfl ?_
  refine l_iconst C (q := 886) (v := 3) dL_law_885 rfl (by decide) ?_
  refine l_iadd C (q := 887) (v := nI (i + 3)) dL_law_886 rfl (ni_p i 3 (by decide)) ?_
  refine l_sld C (q := 888) dL_law_887 rfl (by omega) ?_
  refine l_callV C (q := 891) (b0 := 57) dL_law_888 rfl ml_L_113 mt_X7_soOld cf_7 rfl (by decide) hc_7 (con_X7_soOld G _ _ _ _ rfl _) e2 rfl (Nat.le_of_ble_eq_true rfl) (Nat.le_of_ble_eq_true rfl) (Nat.le_of_ble_eq_true rfl) (Nat.le_of_ble_eq_true rfl) rfl (Nat.le_of_ble_eq_true rfl) ?_
  exact l_icmp_eq C (t := 1186) dL_law_891 rfl kk
set_option maxRecDepth 100000 in
set_option maxHeartbeats 4000000 in
theorem law_ages {G : Gt} {p : Program} {e : Env} {s : State} {m : MethodId} {below : List Frame} {meth : Method} {c : Code} {b L : Nat} {xs : Nat → Int32} (C : LC G p s m meth c b L xs) {i : Nat} (hi : i + 6 ≤ L) {mem m1 m2 : Mem} {r : Int32} (e1 : X6_ages 0 (xs (i + 1)) (xs (i + 2)) (xs (i + 3)) (xs (i + 4)) mem = some (r, m1)) (e2 : X7_ages 57 (xs (i + 1)) (xs (i + 2)) (xs (i + 3)) (xs (i + 4)) m1 = some (r, m2)) (kk : EvL G p e s m below meth c b KCL KSL 1186 [(0, .ref b), (1, .ref (gA G 0)), (2, .ref (gA G 57)), (3, .int (nI i))] [] m2) : EvL G p e s m below meth c b KCL KSL 896 [(0, .ref b), (1, .ref (gA G 0)), (2, .ref (gA G 57)), (3, .int (nI i))] [] mem := by
  refine l_aload_n C (q := 897) dL_law_896 rfl 1 rfl rfl ?_
  refine l_aload_n C (q := 898) dL_law_897 rfl 0 rfl rfl ?_
  refine l_iload_n C (q := 899) dL_law_898 rfl 3 rfl rfl ?_
  refine l_iconst C (q := 900) (v := 1) dL_law_899 rfl (by decide) ?_
  refine l_iadd C (q := 901) (v := nI (i + 1)) dL_law_900 rfl (ni_p i 1 (by decide)) ?_
  refine l_sld C (q := 902) dL_law_901 rfl (by omega) ?_
  refine l_aload_n C (q := 903) dL_law_902 rfl 0 rfl rfl ?_
  refine l_iload_n C (q := 904) dL_law_903 rfl 3 rfl rfl ?_
  refine l_iconst C (q := 905) (v := 2) dL_law_904 rfl (by decide) ?_
  refine l_iadd C (q := 906) (v := nI (i + 2)) dL_law_905 rfl (ni_p i 2 (by decide)) ?_
  refine l_sld C (q := 907) dL_law_906 rfl (by omega) ?_
  refine l_aload_n C (q := 908) dL_law_907 rfl 0 rfl rfl ?_
  refine l_iload_n C (q := 909) dL_law_908 rfl 3 rfl rfl ?_
  refine l_iconst C (q := 910) (v := 3) dL_law_909 rfl (by decide) ?_
  refine l_iadd C (q := 911) (v := nI (i + 3)) dL_law_910 rfl (ni_p i 3 (by decide)) ?_
  refine l_sld C (q := 912) dL_law_911 rfl (by omega) ?_
  refine l_aload_n C (q := 913) dL_law_912 rfl 0 rfl rfl ?_
  refine l_iload_n C (q := 914) dL_law_913 rfl 3 rfl rfl ?_
  refine l_iconst C (q := 915) (v := 4) dL_law_914 rfl (by decide) ?_
  refine l_iadd C (q := 916) (v := nI (i + 4)) dL_law_915 rfl (ni_p i 4 (by decide)) ?_
  refine l_sld C (q := 917) dL_law_916 rfl (by omega) ?_
  refine l_callV C (q := 920) (b0 := 0) dL_law_917 rfl ml_L_114 mt_X6_ages cf_6 rfl (by decide) hc_6 (con_X6_ages G _ _ _ _ _ rfl _) e1 rfl (Nat.le_of_ble_eq_true rfl) (Nat.le_of_ble_eq_true rfl) (Nat.le_of_ble_eq_true rfl) (Nat.le_of_ble_eq_true rfl) rfl (Nat.le_of_ble_eq_true rfl) ?_
  refine l_aload_n C (q := 921) dL_law_920 rfl 2 rfl rfl ?_
  refine l_aload_n C (q := 922) dL_law_921 rfl 0 rfl rfl ?_
  refine l_iload_n C (q := 923) dL_law_922 rfl 3 rfl rfl ?_
  refine l_iconst C (q := 924) (v := 1) dL_law_923 rfl (by decide) ?_
  refine l_iadd C (q := 925) (v := nI (i + 1)) dL_law_924 rfl (ni_p i 1 (by decide)) ?_
  refine l_sld C (q := 926) dL_law_925 rfl (by omega) ?_
  refine l_aload_n C (q := 927) dL_law_926 rfl 0 rfl rfl ?_
  refine l_iload_n C (q := 928) dL_law_927 rfl 3 rfl rfl ?_
  refine l_iconst C (q := 929) (v := 2) dL_law_928 rfl (by decide) ?_
  refine l_iadd C (q := 930) (v := nI (i + 2)) dL_law_929 rfl (ni_p i 2 (by decide)) ?_
  refine l_sld C (q := 931) dL_law_930 rfl (by omega) ?_
  refine l_aload_n C (q := 932) dL_law_931 rfl 0 rfl rfl ?_
  refine l_iload_n C (q := 933) dL_law_932 rfl 3 rfl rfl ?_
  refine l_iconst C (q := 934) (v := 3) dL_law_933 rfl (by decide) ?_
  refine l_iadd C (q := 935) (v := nI (i + 3)) dL_law_934 rfl (ni_p i 3 (by decide)) ?_
  refine l_sld C (q := 936) dL_law_935 rfl (by omega) ?_
  refine l_aload_n C (q := 937) dL_law_936 rfl 0 rfl rfl ?_
  refine l_iload_n C (q := 938) dL_law_937 rfl 3 rfl rfl ?_
  refine l_iconst C (q := 939) (v := 4) dL_law_938 rfl (by decide) ?_
  refine l_iadd C (q := 940) (v := nI (i + 4)) dL_law_939 rfl (ni_p i 4 (by decide)) ?_
  refine l_sld C (q := 941) dL_law_940 rfl (by omega) ?_
  refine l_callV C (q := 944) (b0 := 57) dL_law_941 rfl ml_L_118 mt_X7_ages cf_7 rfl (by decide) hc_7 (con_X7_ages G _ _ _ _ _ rfl _) e2 rfl (Nat.le_of_ble_eq_true rfl) (Nat.le_of_ble_eq_true rfl) (Nat.le_of_ble_eq_true rfl) (Nat.le_of_ble_eq_true rfl) rfl (Nat.le_of_ble_eq_true rfl) ?_
  exact l_icmp_eq C (t := 1186) dL_law_944 rfl kk
set_option maxRecDepth 100000 in
set_option maxHeartbeats 4000000 in
theorem law_burnt {G : Gt} {p : Program} {e : Env} {s : State} {m : MethodId} {below : List Frame} {meth : Method} {c : Code} {b L : Nat} {xs : Nat → Int32} (C : LC G p s m meth c b L xs) {i : Nat} (hi : i + 6 ≤ L) {mem m1 m2 : Mem} {r : Int32} (e1 : X6_burnt 0 (xs (i + 1)) (xs (i + 2)) (xs (i + 3)) mem = some (r, m1)) (e2 : X7_burnt 57 (xs (i + 1)) (xs (i + 2)) (xs (i + 3)) m1 = some (r, m2)) (kk : EvL G p e s m below meth c b KCL KSL 1186 [(0, .ref b), (1, .ref (gA G 0)), (2, .ref (gA G 57)), (3, .int (nI i))] [] m2) : EvL G p e s m below meth c b KCL KSL 949 [(0, .ref b), (1, .ref (gA G 0)), (2, .ref (gA G 57)), (3, .int (nI i))] [] mem := by
  refine l_aload_n C (q := 950) dL_law_949 rfl 1 rfl rfl ?_
  refine l_aload_n C (q := 951) dL_law_950 rfl 0 rfl rfl ?_
  refine l_iload_n C (q := 952) dL_law_951 rfl 3 rfl rfl ?_
  refine l_iconst C (q := 953) (v := 1) dL_law_952 rfl (by decide) ?_
  refine l_iadd C (q := 954) (v := nI (i + 1)) dL_law_953 rfl (ni_p i 1 (by decide)) ?_
  refine l_sld C (q := 955) dL_law_954 rfl (by omega) ?_
  refine l_aload_n C (q := 956) dL_law_955 rfl 0 rfl rfl ?_
  refine l_iload_n C (q := 957) dL_law_956 rfl 3 rfl rfl ?_
  refine l_iconst C (q := 958) (v := 2) dL_law_957 rfl (by decide) ?_
  refine l_iadd C (q := 959) (v := nI (i + 2)) dL_law_958 rfl (ni_p i 2 (by decide)) ?_
  refine l_sld C (q := 960) dL_law_959 rfl (by omega) ?_
  refine l_aload_n C (q := 961) dL_law_960 rfl 0 rfl rfl ?_
  refine l_iload_n C (q := 962) dL_law_961 rfl 3 rfl rfl ?_
  refine l_iconst C (q := 963) (v := 3) dL_law_962 rfl (by decide) ?_
  refine l_iadd C (q := 964) (v := nI (i + 3)) dL_law_963 rfl (ni_p i 3 (by decide)) ?_
  refine l_sld C (q := 965) dL_law_964 rfl (by omega) ?_
  refine l_callV C (q := 968) (b0 := 0) dL_law_965 rfl ml_L_119 mt_X6_burnt cf_6 rfl (by decide) hc_6 (con_X6_burnt G _ _ _ _ rfl _) e1 rfl (Nat.le_of_ble_eq_true rfl) (Nat.le_of_ble_eq_true rfl) (Nat.le_of_ble_eq_true rfl) (Nat.le_of_ble_eq_true rfl) rfl (Nat.le_of_ble_eq_true rfl) ?_
  refine l_aload_n C (q := 969) dL_law_968 rfl 2 rfl rfl ?_
  refine l_aload_n C (q := 970) dL_law_969 rfl 0 rfl rfl ?_
  refine l_iload_n C (q := 971) dL_law_970 rfl 3 rfl rfl ?_
  refine l_iconst C (q := 972) (v := 1) dL_law_971 rfl (by decide) ?_
  refine l_iadd C (q := 973) (v := nI (i + 1)) dL_law_972 rfl (ni_p i 1 (by decide)) ?_
  refine l_sld C (q := 974) dL_law_973 rfl (by omega) ?_
  refine l_aload_n C (q := 975) dL_law_974 rfl 0 rfl rfl ?_
  refine l_iload_n C (q := 976) dL_law_975 rfl 3 rfl rfl ?_
  refine l_iconst C (q := 977) (v := 2) dL_law_976 rfl (by decide) ?_
  refine l_iadd C (q := 978) (v := nI (i + 2)) dL_law_977 rfl (ni_p i 2 (by decide)) ?_
  refine l_sld C (q := 979) dL_law_978 rfl (by omega) ?_
  refine l_aload_n C (q := 980) dL_law_979 rfl 0 rfl rfl ?_
  refine l_iload_n C (q := 981) dL_law_980 rfl 3 rfl rfl ?_
  refine l_iconst C (q := 982) (v := 3) dL_law_981 rfl (by decide) ?_
  refine l_iadd C (q := 983) (v := nI (i + 3)) dL_law_982 rfl (ni_p i 3 (by decide)) ?_
  refine l_sld C (q := 984) dL_law_983 rfl (by omega) ?_
  refine l_callV C (q := 987) (b0 := 57) dL_law_984 rfl ml_L_122 mt_X7_burnt cf_7 rfl (by decide) hc_7 (con_X7_burnt G _ _ _ _ rfl _) e2 rfl (Nat.le_of_ble_eq_true rfl) (Nat.le_of_ble_eq_true rfl) (Nat.le_of_ble_eq_true rfl) (Nat.le_of_ble_eq_true rfl) rfl (Nat.le_of_ble_eq_true rfl) ?_
  exact l_icmp_eq C (t := 1186) dL_law_987 rfl kk
set_option maxRecDepth 100000 in
set_option maxHeartbeats 4000000 in
theorem law_image {G : Gt} {p : Program} {e : Env} {s : State} {m : MethodId} {below : List Frame} {meth : Method} {c : Code} {b L : Nat} {xs : Nat → Int32} (C : LC G p s m meth c b L xs) {i : Nat} (hi : i + 6 ≤ L) {mem m1 m2 : Mem} {r : Int32} (e1 : X6_image 0 (xs (i + 1)) mem = some (r, m1)) (e2 : X7_image 57 (xs (i + 1)) m1 = some (r, m2)) (kk : EvL G p e s m below meth c b KCL KSL 1186 [(0, .ref b), (1, .ref (gA G 0)), (2, .ref (gA G 57)), (3, .int (nI i))] [] m2) : EvL G p e s m below meth c b KCL KSL 992 [(0, .ref b), (1, .ref (gA G 0)), (2, .ref (gA G 57)), (3, .int (nI i))] [] mem := by
  refine l_aload_n C (q := 993) dL_law_992 rfl 1 rfl rfl ?_
  refine l_aload_n C (q := 994) dL_law_993 rfl 0 rfl rfl ?_
  refine l_iload_n C (q := 995) dL_law_994 rfl 3 rfl rfl ?_
  refine l_iconst C (q := 996) (v := 1) dL_law_995 rfl (by decide) ?_
  refine l_iadd C (q := 997) (v := nI (i + 1)) dL_law_996 rfl (ni_p i 1 (by decide)) ?_
  refine l_sld C (q := 998) dL_law_997 rfl (by omega) ?_
  refine l_callV C (q := 1001) (b0 := 0) dL_law_998 rfl ml_L_123 mt_X6_image cf_6 rfl (by decide) hc_6 (con_X6_image G _ _ rfl _) e1 rfl (Nat.le_of_ble_eq_true rfl) (Nat.le_of_ble_eq_true rfl) (Nat.le_of_ble_eq_true rfl) (Nat.le_of_ble_eq_true rfl) rfl (Nat.le_of_ble_eq_true rfl) ?_
  refine l_aload_n C (q := 1002) dL_law_1001 rfl 2 rfl rfl ?_
  refine l_aload_n C (q := 1003) dL_law_1002 rfl 0 rfl rfl ?_
  refine l_iload_n C (q := 1004) dL_law_1003 rfl 3 rfl rfl ?_
  refine l_iconst C (q := 1005) (v := 1) dL_law_1004 rfl (by decide) ?_
  refine l_iadd C (q := 1006) (v := nI (i + 1)) dL_law_1005 rfl (ni_p i 1 (by decide)) ?_
  refine l_sld C (q := 1007) dL_law_1006 rfl (by omega) ?_
  refine l_callV C (q := 1010) (b0 := 57) dL_law_1007 rfl ml_L_126 mt_X7_image cf_7 rfl (by decide) hc_7 (con_X7_image G _ _ rfl _) e2 rfl (Nat.le_of_ble_eq_true rfl) (Nat.le_of_ble_eq_true rfl) (Nat.le_of_ble_eq_true rfl) (Nat.le_of_ble_eq_true rfl) rfl (Nat.le_of_ble_eq_true rfl) ?_
  exact l_icmp_eq C (t := 1186) dL_law_1010 rfl kk
set_option maxRecDepth 100000 in
set_option maxHeartbeats 4000000 in
theorem law_restore {G : Gt} {p : Program} {e : Env} {s : State} {m : MethodId} {below : List Frame} {meth : Method} {c : Code} {b L : Nat} {xs : Nat → Int32} (C : LC G p s m meth c b L xs) {i : Nat} (hi : i + 6 ≤ L) {mem m1 m2 : Mem} {r : Int32} (e1 : X6_restore 0 (xs (i + 1)) mem = some (r, m1)) (e2 : X7_restore 57 (xs (i + 1)) m1 = some (r, m2)) (kk : EvL G p e s m below meth c b KCL KSL 1186 [(0, .ref b), (1, .ref (gA G 0)), (2, .ref (gA G 57)), (3, .int (nI i))] [] m2) : EvL G p e s m below meth c b KCL KSL 1015 [(0, .ref b), (1, .ref (gA G 0)), (2, .ref (gA G 57)), (3, .int (nI i))] [] mem := by
  refine l_aload_n C (q := 1016) dL_law_1015 rfl 1 rfl rfl ?_
  refine l_aload_n C (q := 1017) dL_law_1016 rfl 0 rfl rfl ?_
  refine l_iload_n C (q := 1018) dL_law_1017 rfl 3 rfl rfl ?_
  refine l_iconst C (q := 1019) (v := 1) dL_law_1018 rfl (by decide) ?_
  refine l_iadd C (q := 1020) (v := nI (i + 1)) dL_law_1019 rfl (ni_p i 1 (by decide)) ?_
  refine l_sld C (q := 1021) dL_law_1020 rfl (by omega) ?_
  refine l_callV C (q := 1024) (b0 := 0) dL_law_1021 rfl ml_L_127 mt_X6_restore cf_6 rfl (by decide) hc_6 (con_X6_restore G _ _ rfl _) e1 rfl (Nat.le_of_ble_eq_true rfl) (Nat.le_of_ble_eq_true rfl) (Nat.le_of_ble_eq_true rfl) (Nat.le_of_ble_eq_true rfl) rfl (Nat.le_of_ble_eq_true rfl) ?_
  refine l_aload_n C (q := 1025) dL_law_1024 rfl 2 rfl rfl ?_
  refine l_aload_n C (q := 1026) dL_law_1025 rfl 0 rfl rfl ?_
  refine l_iload_n C (q := 1027) dL_law_1026 rfl 3 rfl rfl ?_
  refine l_iconst C (q := 1028) (v := 1) dL_law_1027 rfl (by decide) ?_
  refine l_iadd C (q := 1029) (v := nI (i + 1)) dL_law_1028 rfl (ni_p i 1 (by decide)) ?_
  refine l_sld C (q := 1030) dL_law_1029 rfl (by omega) ?_
  refine l_callV C (q := 1033) (b0 := 57) dL_law_1030 rfl ml_L_130 mt_X7_restore cf_7 rfl (by decide) hc_7 (con_X7_restore G _ _ rfl _) e2 rfl (Nat.le_of_ble_eq_true rfl) (Nat.le_of_ble_eq_true rfl) (Nat.le_of_ble_eq_true rfl) (Nat.le_of_ble_eq_true rfl) rfl (Nat.le_of_ble_eq_true rfl) ?_
  exact l_icmp_eq C (t := 1186) dL_law_1033 rfl kk
set_option maxRecDepth 100000 in
set_option maxHeartbeats 4000000 in
theorem law_kind {G : Gt} {p : Program} {e : Env} {s : State} {m : MethodId} {below : List Frame} {meth : Method} {c : Code} {b L : Nat} {xs : Nat → Int32} (C : LC G p s m meth c b L xs) {i : Nat} (hi : i + 6 ≤ L) {mem m1 m2 : Mem} {r : Int32} (e1 : X6_kind 0 (xs (i + 1)) mem = some (r, m1)) (e2 : X7_kind 57 (xs (i + 1)) m1 = some (r, m2)) (kk : EvL G p e s m below meth c b KCL KSL 1186 [(0, .ref b), (1, .ref (gA G 0)), (2, .ref (gA G 57)), (3, .int (nI i))] [] m2) : EvL G p e s m below meth c b KCL KSL 1038 [(0, .ref b), (1, .ref (gA G 0)), (2, .ref (gA G 57)), (3, .int (nI i))] [] mem := by
  refine l_aload_n C (q := 1039) dL_law_1038 rfl 1 rfl rfl ?_
  refine l_aload_n C (q := 1040) dL_law_1039 rfl 0 rfl rfl ?_
  refine l_iload_n C (q := 1041) dL_law_1040 rfl 3 rfl rfl ?_
  refine l_iconst C (q := 1042) (v := 1) dL_law_1041 rfl (by decide) ?_
  refine l_iadd C (q := 1043) (v := nI (i + 1)) dL_law_1042 rfl (ni_p i 1 (by decide)) ?_
  refine l_sld C (q := 1044) dL_law_1043 rfl (by omega) ?_
  refine l_callV C (q := 1047) (b0 := 0) dL_law_1044 rfl ml_L_131 mt_X6_kind cf_6 rfl (by decide) hc_6 (con_X6_kind G _ _ rfl _) e1 rfl (Nat.le_of_ble_eq_true rfl) (Nat.le_of_ble_eq_true rfl) (Nat.le_of_ble_eq_true rfl) (Nat.le_of_ble_eq_true rfl) rfl (Nat.le_of_ble_eq_true rfl) ?_
  refine l_aload_n C (q := 1048) dL_law_1047 rfl 2 rfl rfl ?_
  refine l_aload_n C (q := 1049) dL_law_1048 rfl 0 rfl rfl ?_
  refine l_iload_n C (q := 1050) dL_law_1049 rfl 3 rfl rfl ?_
  refine l_iconst C (q := 1051) (v := 1) dL_law_1050 rfl (by decide) ?_
  refine l_iadd C (q := 1052) (v := nI (i + 1)) dL_law_1051 rfl (ni_p i 1 (by decide)) ?_
  refine l_sld C (q := 1053) dL_law_1052 rfl (by omega) ?_
  refine l_callV C (q := 1056) (b0 := 57) dL_law_1053 rfl ml_L_134 mt_X7_kind cf_7 rfl (by decide) hc_7 (con_X7_kind G _ _ rfl _) e2 rfl (Nat.le_of_ble_eq_true rfl) (Nat.le_of_ble_eq_true rfl) (Nat.le_of_ble_eq_true rfl) (Nat.le_of_ble_eq_true rfl) rfl (Nat.le_of_ble_eq_true rfl) ?_
  exact l_icmp_eq C (t := 1186) dL_law_1056 rfl kk
set_option maxRecDepth 100000 in
set_option maxHeartbeats 4000000 in
theorem law_as {G : Gt} {p : Program} {e : Env} {s : State} {m : MethodId} {below : List Frame} {meth : Method} {c : Code} {b L : Nat} {xs : Nat → Int32} (C : LC G p s m meth c b L xs) {i : Nat} (hi : i + 6 ≤ L) {mem m1 m2 : Mem} {r : Int32} (e1 : X6_as 0 (xs (i + 1)) (xs (i + 2)) mem = some (r, m1)) (e2 : X7_as 57 (xs (i + 1)) (xs (i + 2)) m1 = some (r, m2)) (kk : EvL G p e s m below meth c b KCL KSL 1186 [(0, .ref b), (1, .ref (gA G 0)), (2, .ref (gA G 57)), (3, .int (nI i))] [] m2) : EvL G p e s m below meth c b KCL KSL 1061 [(0, .ref b), (1, .ref (gA G 0)), (2, .ref (gA G 57)), (3, .int (nI i))] [] mem := by
  refine l_aload_n C (q := 1062) dL_law_1061 rfl 1 rfl rfl ?_
  refine l_aload_n C (q := 1063) dL_law_1062 rfl 0 rfl rfl ?_
  refine l_iload_n C (q := 1064) dL_law_1063 rfl 3 rfl rfl ?_
  refine l_iconst C (q := 1065) (v := 1) dL_law_1064 rfl (by decide) ?_
  refine l_iadd C (q := 1066) (v := nI (i + 1)) dL_law_1065 rfl (ni_p i 1 (by decide)) ?_
  refine l_sld C (q := 1067) dL_law_1066 rfl (by omega) ?_
  refine l_aload_n C (q := 1068) dL_law_1067 rfl 0 rfl rfl ?_
  refine l_iload_n C (q := 1069) dL_law_1068 rfl 3 rfl rfl ?_
  refine l_iconst C (q := 1070) (v := 2) dL_law_1069 rfl (by decide) ?_
  refine l_iadd C (q := 1071) (v := nI (i + 2)) dL_law_1070 rfl (ni_p i 2 (by decide)) ?_
  refine l_sld C (q := 1072) dL_law_1071 rfl (by omega) ?_
  refine l_callV C (q := 1075) (b0 := 0) dL_law_1072 rfl ml_L_135 mt_X6_as cf_6 rfl (by decide) hc_6 (con_X6_as G _ _ _ rfl _) e1 rfl (Nat.le_of_ble_eq_true rfl) (Nat.le_of_ble_eq_true rfl) (Nat.le_of_ble_eq_true rfl) (Nat.le_of_ble_eq_true rfl) rfl (Nat.le_of_ble_eq_true rfl) ?_
  refine l_aload_n C (q := 1076) dL_law_1075 rfl 2 rfl rfl ?_
  refine l_aload_n C (q := 1077) dL_law_1076 rfl 0 rfl rfl ?_
  refine l_iload_n C (q := 1078) dL_law_1077 rfl 3 rfl rfl ?_
  refine l_iconst C (q := 1079) (v := 1) dL_law_1078 rfl (by decide) ?_
  refine l_iadd C (q := 1080) (v := nI (i + 1)) dL_law_1079 rfl (ni_p i 1 (by decide)) ?_
  refine l_sld C (q := 1081) dL_law_1080 rfl (by omega) ?_
  refine l_aload_n C (q := 1082) dL_law_1081 rfl 0 rfl rfl ?_
  refine l_iload_n C (q := 1083) dL_law_1082 rfl 3 rfl rfl ?_
  refine l_iconst C (q := 1084) (v := 2) dL_law_1083 rfl (by decide) ?_
  refine l_iadd C (q := 1085) (v := nI (i + 2)) dL_law_1084 rfl (ni_p i 2 (by decide)) ?_
  refine l_sld C (q := 1086) dL_law_1085 rfl (by omega) ?_
  refine l_callV C (q := 1089) (b0 := 57) dL_law_1086 rfl ml_L_138 mt_X7_as cf_7 rfl (by decide) hc_7 (con_X7_as G _ _ _ rfl _) e2 rfl (Nat.le_of_ble_eq_true rfl) (Nat.le_of_ble_eq_true rfl) (Nat.le_of_ble_eq_true rfl) (Nat.le_of_ble_eq_true rfl) rfl (Nat.le_of_ble_eq_true rfl) ?_
  exact l_icmp_eq C (t := 1186) dL_law_1089 rfl kk
set_option maxRecDepth 100000 in
set_option maxHeartbeats 4000000 in
theorem law_ask {G : Gt} {p : Program} {e : Env} {s : State} {m : MethodId} {below : List Frame} {meth : Method} {c : Code} {b L : Nat} {xs : Nat → Int32} (C : LC G p s m meth c b L xs) {i : Nat} (hi : i + 6 ≤ L) {mem m1 m2 : Mem} {r : Int32} (e1 : X6_ask 0 (xs (i + 1)) (xs (i + 2)) mem = some (r, m1)) (e2 : X7_ask 57 (xs (i + 1)) (xs (i + 2)) m1 = some (r, m2)) (kk : EvL G p e s m below meth c b KCL KSL 1186 [(0, .ref b), (1, .ref (gA G 0)), (2, .ref (gA G 57)), (3, .int (nI i))] [] m2) : EvL G p e s m below meth c b KCL KSL 1094 [(0, .ref b), (1, .ref (gA G 0)), (2, .ref (gA G 57)), (3, .int (nI i))] [] mem := by
  refine l_aload_n C (q := 1095) dL_law_1094 rfl 1 rfl rfl ?_
  refine l_aload_n C (q := 1096) dL_law_1095 rfl 0 rfl rfl ?_
  refine l_iload_n C (q := 1097) dL_law_1096 rfl 3 rfl rfl ?_
  refine l_iconst C (q := 1098) (v := 1) dL_law_1097 rfl (by decide) ?_
  refine l_iadd C (q := 1099) (v := nI (i + 1)) dL_law_1098 rfl (ni_p i 1 (by decide)) ?_
  refine l_sld C (q := 1100) dL_law_1099 rfl (by omega) ?_
  refine l_aload_n C (q := 1101) dL_law_1100 rfl 0 rfl rfl ?_
  refine l_iload_n C (q := 1102) dL_law_1101 rfl 3 rfl rfl ?_
  refine l_iconst C (q := 1103) (v := 2) dL_law_1102 rfl (by decide) ?_
  refine l_iadd C (q := 1104) (v := nI (i + 2)) dL_law_1103 rfl (ni_p i 2 (by decide)) ?_
  refine l_sld C (q := 1105) dL_law_1104 rfl (by omega) ?_
  refine l_callV C (q := 1108) (b0 := 0) dL_law_1105 rfl ml_L_139 mt_X6_ask cf_6 rfl (by decide) hc_6 (con_X6_ask G _ _ _ rfl _) e1 rfl (Nat.le_of_ble_eq_true rfl) (Nat.le_of_ble_eq_true rfl) (Nat.le_of_ble_eq_true rfl) (Nat.le_of_ble_eq_true rfl) rfl (Nat.le_of_ble_eq_true rfl) ?_
  refine l_aload_n C (q := 1109) dL_law_1108 rfl 2 rfl rfl ?_
  refine l_aload_n C (q := 1110) dL_law_1109 rfl 0 rfl rfl ?_
  refine l_iload_n C (q := 1111) dL_law_1110 rfl 3 rfl rfl ?_
  refine l_iconst C (q := 1112) (v := 1) dL_law_1111 rfl (by decide) ?_
  refine l_iadd C (q := 1113) (v := nI (i + 1)) dL_law_1112 rfl (ni_p i 1 (by decide)) ?_
  refine l_sld C (q := 1114) dL_law_1113 rfl (by omega) ?_
  refine l_aload_n C (q := 1115) dL_law_1114 rfl 0 rfl rfl ?_
  refine l_iload_n C (q := 1116) dL_law_1115 rfl 3 rfl rfl ?_
  refine l_iconst C (q := 1117) (v := 2) dL_law_1116 rfl (by decide) ?_
  refine l_iadd C (q := 1118) (v := nI (i + 2)) dL_law_1117 rfl (ni_p i 2 (by decide)) ?_
  refine l_sld C (q := 1119) dL_law_1118 rfl (by omega) ?_
  refine l_callV C (q := 1122) (b0 := 57) dL_law_1119 rfl ml_L_142 mt_X7_ask cf_7 rfl (by decide) hc_7 (con_X7_ask G _ _ _ rfl _) e2 rfl (Nat.le_of_ble_eq_true rfl) (Nat.le_of_ble_eq_true rfl) (Nat.le_of_ble_eq_true rfl) (Nat.le_of_ble_eq_true rfl) rfl (Nat.le_of_ble_eq_true rfl) ?_
  exact l_icmp_eq C (t := 1186) dL_law_1122 rfl kk
set_option maxRecDepth 100000 in
set_option maxHeartbeats 4000000 in
theorem law_trace {G : Gt} {p : Program} {e : Env} {s : State} {m : MethodId} {below : List Frame} {meth : Method} {c : Code} {b L : Nat} {xs : Nat → Int32} (C : LC G p s m meth c b L xs) {i : Nat} (hi : i + 6 ≤ L) {mem m1 m2 : Mem} {r : Int32} (e1 : X6_trace 0 (xs (i + 1)) mem = some (r, m1)) (e2 : X7_trace 57 (xs (i + 1)) m1 = some (r, m2)) (kk : EvL G p e s m below meth c b KCL KSL 1186 [(0, .ref b), (1, .ref (gA G 0)), (2, .ref (gA G 57)), (3, .int (nI i))] [] m2) : EvL G p e s m below meth c b KCL KSL 1127 [(0, .ref b), (1, .ref (gA G 0)), (2, .ref (gA G 57)), (3, .int (nI i))] [] mem := by
  refine l_aload_n C (q := 1128) dL_law_1127 rfl 1 rfl rfl ?_
  refine l_aload_n C (q := 1129) dL_law_1128 rfl 0 rfl rfl ?_
  refine l_iload_n C (q := 1130) dL_law_1129 rfl 3 rfl rfl ?_
  refine l_iconst C (q := 1131) (v := 1) dL_law_1130 rfl (by decide) ?_
  refine l_iadd C (q := 1132) (v := nI (i + 1)) dL_law_1131 rfl (ni_p i 1 (by decide)) ?_
  refine l_sld C (q := 1133) dL_law_1132 rfl (by omega) ?_
  refine l_callV C (q := 1136) (b0 := 0) dL_law_1133 rfl ml_L_143 mt_X6_trace cf_6 rfl (by decide) hc_6 (con_X6_trace G _ _ rfl _) e1 rfl (Nat.le_of_ble_eq_true rfl) (Nat.le_of_ble_eq_true rfl) (Nat.le_of_ble_eq_true rfl) (Nat.le_of_ble_eq_true rfl) rfl (Nat.le_of_ble_eq_true rfl) ?_
  refine l_aload_n C (q := 1137) dL_law_1136 rfl 2 rfl rfl ?_
  refine l_aload_n C (q := 1138) dL_law_1137 rfl 0 rfl rfl ?_
  refine l_iload_n C (q := 1139) dL_law_1138 rfl 3 rfl rfl ?_
  refine l_iconst C (q := 1140) (v := 1) dL_law_1139 rfl (by decide) ?_
  refine l_iadd C (q := 1141) (v := nI (i + 1)) dL_law_1140 rfl (ni_p i 1 (by decide)) ?_
  refine l_sld C (q := 1142) dL_law_1141 rfl (by omega) ?_
  refine l_callV C (q := 1145) (b0 := 57) dL_law_1142 rfl ml_L_146 mt_X7_trace cf_7 rfl (by decide) hc_7 (con_X7_trace G _ _ rfl _) e2 rfl (Nat.le_of_ble_eq_true rfl) (Nat.le_of_ble_eq_true rfl) (Nat.le_of_ble_eq_true rfl) (Nat.le_of_ble_eq_true rfl) rfl (Nat.le_of_ble_eq_true rfl) ?_
  exact l_icmp_eq C (t := 1186) dL_law_1145 rfl kk
set_option maxRecDepth 100000 in
set_option maxHeartbeats 4000000 in
theorem law_count {G : Gt} {p : Program} {e : Env} {s : State} {m : MethodId} {below : List Frame} {meth : Method} {c : Code} {b L : Nat} {xs : Nat → Int32} (C : LC G p s m meth c b L xs) {i : Nat} (hi : i + 6 ≤ L) {mem m1 m2 : Mem} {r : Int32} (e1 : X6_count 0 (xs (i + 1)) mem = some (r, m1)) (e2 : X7_count 57 (xs (i + 1)) m1 = some (r, m2)) (kk : EvL G p e s m below meth c b KCL KSL 1186 [(0, .ref b), (1, .ref (gA G 0)), (2, .ref (gA G 57)), (3, .int (nI i))] [] m2) : EvL G p e s m below meth c b KCL KSL 1150 [(0, .ref b), (1, .ref (gA G 0)), (2, .ref (gA G 57)), (3, .int (nI i))] [] mem := by
  refine l_aload_n C (q := 1151) dL_law_1150 rfl 1 rfl rfl ?_
  refine l_aload_n C (q := 1152) dL_law_1151 rfl 0 rfl rfl ?_
  refine l_iload_n C (q := 1153) dL_law_1152 rfl 3 rfl rfl ?_
  refine l_iconst C (q := 1154) (v := 1) dL_law_1153 rfl (by decide) ?_
  refine l_iadd C (q := 1155) (v := nI (i + 1)) dL_law_1154 rfl (ni_p i 1 (by decide)) ?_
  refine l_sld C (q := 1156) dL_law_1155 rfl (by omega) ?_
  refine l_callV C (q := 1159) (b0 := 0) dL_law_1156 rfl ml_L_147 mt_X6_count cf_6 rfl (by decide) hc_6 (con_X6_count G _ _ rfl _) e1 rfl (Nat.le_of_ble_eq_true rfl) (Nat.le_of_ble_eq_true rfl) (Nat.le_of_ble_eq_true rfl) (Nat.le_of_ble_eq_true rfl) rfl (Nat.le_of_ble_eq_true rfl) ?_
  refine l_aload_n C (q := 1160) dL_law_1159 rfl 2 rfl rfl ?_
  refine l_aload_n C (q := 1161) dL_law_1160 rfl 0 rfl rfl ?_
  refine l_iload_n C (q := 1162) dL_law_1161 rfl 3 rfl rfl ?_
  refine l_iconst C (q := 1163) (v := 1) dL_law_1162 rfl (by decide) ?_
  refine l_iadd C (q := 1164) (v := nI (i + 1)) dL_law_1163 rfl (ni_p i 1 (by decide)) ?_
  refine l_sld C (q := 1165) dL_law_1164 rfl (by omega) ?_
  refine l_callV C (q := 1168) (b0 := 57) dL_law_1165 rfl ml_L_150 mt_X7_count cf_7 rfl (by decide) hc_7 (con_X7_count G _ _ rfl _) e2 rfl (Nat.le_of_ble_eq_true rfl) (Nat.le_of_ble_eq_true rfl) (Nat.le_of_ble_eq_true rfl) (Nat.le_of_ble_eq_true rfl) rfl (Nat.le_of_ble_eq_true rfl) ?_
  exact l_icmp_eq C (t := 1186) dL_law_1168 rfl kk
set_option maxRecDepth 100000 in
set_option maxHeartbeats 4000000 in
theorem law_status {G : Gt} {p : Program} {e : Env} {s : State} {m : MethodId} {below : List Frame} {meth : Method} {c : Code} {b L : Nat} {xs : Nat → Int32} (C : LC G p s m meth c b L xs) {i : Nat} (hi : i + 6 ≤ L) {mem m1 m2 : Mem} {r : Int32} (e1 : X6_status 0  mem = some (r, m1)) (e2 : X7_status 57  m1 = some (r, m2)) (kk : EvL G p e s m below meth c b KCL KSL 1186 [(0, .ref b), (1, .ref (gA G 0)), (2, .ref (gA G 57)), (3, .int (nI i))] [] m2) : EvL G p e s m below meth c b KCL KSL 1173 [(0, .ref b), (1, .ref (gA G 0)), (2, .ref (gA G 57)), (3, .int (nI i))] [] mem := by
  refine l_aload_n C (q := 1174) dL_law_1173 rfl 1 rfl rfl ?_
  refine l_callV C (q := 1177) (b0 := 0) dL_law_1174 rfl ml_L_151 mt_X6_status cf_6 rfl (by decide) hc_6 (con_X6_status G _  rfl _) e1 rfl (Nat.le_of_ble_eq_true rfl) (Nat.le_of_ble_eq_true rfl) (Nat.le_of_ble_eq_true rfl) (Nat.le_of_ble_eq_true rfl) rfl (Nat.le_of_ble_eq_true rfl) ?_
  refine l_aload_n C (q := 1178) dL_law_1177 rfl 2 rfl rfl ?_
  refine l_callV C (q := 1181) (b0 := 57) dL_law_1178 rfl ml_L_154 mt_X7_status cf_7 rfl (by decide) hc_7 (con_X7_status G _  rfl _) e2 rfl (Nat.le_of_ble_eq_true rfl) (Nat.le_of_ble_eq_true rfl) (Nat.le_of_ble_eq_true rfl) (Nat.le_of_ble_eq_true rfl) rfl (Nat.le_of_ble_eq_true rfl) ?_
  exact l_icmp_eq C (t := 1186) dL_law_1181 rfl kk
