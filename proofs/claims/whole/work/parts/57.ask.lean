/-! ===== PURE: ask ===== -/
def lv (m : Mem) (n b : Nat) : Mem := st2 (st2 m 56 n (nI b)) 55 1 (nI (n + 1))
def lw (m : Mem) (n b : Nat) : Mem := st2 (st2 m 72 n (nI b)) 57 22 (nI (n + 1))
def At (g : Nat → Nat) (m : Mem) (n : Nat) : Prop := m 55 1 = nI n ∧ CO m 7 g
def Rt (g : Nat → Nat) (m : Mem) (n : Nat) : Prop := m 57 22 = nI n ∧ MO m g
section AK1
variable {g : Nat → Nat} {t : Nat}
theorem lv_k {m : Mem} {n b q : Nat} (h5 : q ≠ 55) (h6 : q ≠ 56) : lv m n b q = m q := by unfold lv; rw [st2_k h5, st2_k h6]
theorem lw_k {m : Mem} {n b q : Nat} (h5 : q ≠ 57) (h6 : q ≠ 72) : lw m n b q = m q := by unfold lw; rw [st2_k h5, st2_k h6]
theorem At.lv {m : Mem} {n : Nat} (h : At g m n) (b : Nat) : At g (lv m n b) (n + 1) := ⟨st2_s, h.2.fr fun q _ _ => lv_k (by omega) (by omega)⟩
theorem Rt.lw {m : Mem} {n : Nat} (h : Rt g m n) (b : Nat) : Rt g (lw m n b) (n + 1) := ⟨st2_s, h.2.fr (lw_k (by omega) (by omega))⟩
theorem c_leave {m : Mem} {n : Nat} (h : At g m n) (hn : n < 16) (b : Nat) : X1_leaveNumber 55 (nI b) m = some ((), lv m n b) := by
  unfold X1_leaveNumber lv
  have h1 := h.1
  simp (disch := omega) only [L32, h1, nI_ltI, hn, if_true, rfs, as_, st2_k, nI_add]
theorem m_leave {m : Mem} {n : Nat} (h : Rt g m n) (hn : n < 16) (b : Nat) : X7_leave 57 (nI b) m = some ((), lw m n b) := by
  unfold X7_leave lw
  have h1 := h.1
  simp (disch := omega) only [L32, h1, nI_ltI, hn, if_true, rfs, as_, st2_k, nI_add]
variable {m : Mem} {n l d f : Nat}
theorem cb_step {x : Int32} : X1_begin (f + 1) 55 x 7 (nI l) (nI d) m = X1_begin_e 55 7 (X1_begin f) x (nI l) (nI d) m := rfl
theorem h8 (hd : d ≤ 8) : ¬ (8 : Int32) < nI d := by
  rw [show (8 : Int32) = nI 8 from rfl, nI_ltI (by omega) (by omega)]
  omega
theorem d1 (hd : d ≤ 8) : nI d + 1 = nI (d + 1) := by rw [L32, nI_add]
theorem bodyS (hC : CO m 7 g) (hO : OkG t g) (hl : l < g 2) {k : Nat} (hk : g (5 + l) = k) (hk5 : k < 6) : X1_bodyFor 7 (nI l) 0 m = some (szB k, m) := by
  have h2 := hO.1
  have h3 := (hC.2.1 l hl).1
  rw [hk] at h3
  unfold X1_bodyFor
  simp (disch := omega) only [rfs, al, h3, if_true]
  rcases six hk5 with rfl | rfl | rfl | rfl | rfl | rfl <;> rfl
theorem bodyM (hC : CO m 7 g) (hO : OkG t g) (hl : l < g 2) {k : Nat} (hk : g (5 + l) = k) (hk5 : k < 6) : X1_bodyFor 7 (nI l) 1 m = some (mkB k, m) := by
  have h2 := hO.1
  have h3 := (hC.2.1 l hl).1
  rw [hk] at h3
  unfold X1_bodyFor
  simp (disch := omega) only [rfs, al, h3]
  rw [if_neg (by decide)]
  rcases six hk5 with rfl | rfl | rfl | rfl | rfl | rfl <;> rfl
theorem C10 (h : At g m n) (hO : OkG t g) (hn : n + 1 ≤ 16) (hd : d ≤ 8) (hl : l < g 2) : X1_begin (f + 1) 55 (nI 10) 7 (nI l) (nI d) m = some (nI (g (11 + l)), lv m n 10) := by
  have h2 := hO.1
  rw [cb_step]
  unfold X1_begin_e
  rw [if_neg (h8 hd), c_leave h (by omega), cll_s, if_pos (show nI 10 = (10 : Int32) by decide)]
  simp (disch := omega) only [rfs, al, lv_k, (h.2.2.1 l hl).2.1]
theorem C20 (h : At g m n) (hn : n + 1 ≤ 16) (hd : d ≤ 8) : X1_begin (f + 1) 55 (nI 20) 7 (nI l) (nI d) m = some (nI l, lv m n 20) := by
  rw [cb_step]
  unfold X1_begin_e
  rw [if_neg (h8 hd), c_leave h (by omega), cll_s, if_neg (show ¬ nI 20 = (10 : Int32) by decide), if_neg (show ¬ nI 20 = (11 : Int32) by decide), if_neg (show ¬ nI 20 = (12 : Int32) by decide), if_neg (show ¬ nI 20 = (13 : Int32) by decide), if_neg (show ¬ nI 20 = (14 : Int32) by decide), if_neg (show ¬ nI 20 = (15 : Int32) by decide), if_neg (show ¬ nI 20 = (16 : Int32) by decide), if_neg (show ¬ nI 20 = (17 : Int32) by decide), if_neg (show ¬ nI 20 = (18 : Int32) by decide), if_neg (show ¬ nI 20 = (19 : Int32) by decide), if_pos (show nI 20 = (20 : Int32) by decide)]
theorem C21 (h : At g m n) (hO : OkG t g) (hn : n + 2 ≤ 16) (hd : d + 1 ≤ 8) (hl : l < g 2) : X1_begin (f + 2) 55 (nI 21) 7 (nI l) (nI d) m = some (nI l + nI (readOfN g l), lv (lv m n 21) (n + 1) 20) := by
  have hd : d ≤ 8 := by omega
  rw [cb_step]
  unfold X1_begin_e
  rw [if_neg (h8 hd), c_leave h (by omega), cll_s, if_neg (show ¬ nI 21 = (10 : Int32) by decide), if_neg (show ¬ nI 21 = (11 : Int32) by decide), if_neg (show ¬ nI 21 = (12 : Int32) by decide), if_neg (show ¬ nI 21 = (13 : Int32) by decide), if_neg (show ¬ nI 21 = (14 : Int32) by decide), if_neg (show ¬ nI 21 = (15 : Int32) by decide), if_neg (show ¬ nI 21 = (16 : Int32) by decide), if_neg (show ¬ nI 21 = (17 : Int32) by decide), if_neg (show ¬ nI 21 = (18 : Int32) by decide), if_neg (show ¬ nI 21 = (19 : Int32) by decide), if_neg (show ¬ nI 21 = (20 : Int32) by decide), if_pos (show nI 21 = (21 : Int32) by decide)]
  rw [d1 (by omega), show (20 : Int32) = nI 20 from rfl, C20 (h.lv 21) (by omega) (by omega), cll_s, c_timesRead ((h.lv 21).lv 20).2 hO hl, cll_s]
theorem C22 (h : At g m n) (hO : OkG t g) (hn : n + 3 ≤ 16) (hd : d + 2 ≤ 8) (hl : l < g 2) : X1_begin (f + 3) 55 (nI 22) 7 (nI l) (nI d) m = some (nI l + nI (readOfN g l) - 1000, lv (lv (lv m n 22) (n + 1) 21) (n + 2) 20) := by
  have hd : d ≤ 8 := by omega
  rw [cb_step]
  unfold X1_begin_e
  rw [if_neg (h8 hd), c_leave h (by omega), cll_s, if_neg (show ¬ nI 22 = (10 : Int32) by decide), if_neg (show ¬ nI 22 = (11 : Int32) by decide), if_neg (show ¬ nI 22 = (12 : Int32) by decide), if_neg (show ¬ nI 22 = (13 : Int32) by decide), if_neg (show ¬ nI 22 = (14 : Int32) by decide), if_neg (show ¬ nI 22 = (15 : Int32) by decide), if_neg (show ¬ nI 22 = (16 : Int32) by decide), if_neg (show ¬ nI 22 = (17 : Int32) by decide), if_neg (show ¬ nI 22 = (18 : Int32) by decide), if_neg (show ¬ nI 22 = (19 : Int32) by decide), if_neg (show ¬ nI 22 = (20 : Int32) by decide), if_neg (show ¬ nI 22 = (21 : Int32) by decide), if_pos (show nI 22 = (22 : Int32) by decide)]
  rw [d1 (by omega), show (21 : Int32) = nI 21 from rfl, C21 (h.lv 22) hO (by omega) (by omega) hl, cll_s]
theorem C24 (h : At g m n) (hO : OkG t g) (hn : n + 3 ≤ 16) (hd : d + 2 ≤ 8) (hl : l < g 2) : X1_begin (f + 3) 55 (nI 24) 7 (nI l) (nI d) m = some (2 * (nI l + nI (readOfN g l)), lv (lv (lv m n 24) (n + 1) 21) (n + 2) 20) := by
  have hd : d ≤ 8 := by omega
  rw [cb_step]
  unfold X1_begin_e
  rw [if_neg (h8 hd), c_leave h (by omega), cll_s, if_neg (show ¬ nI 24 = (10 : Int32) by decide), if_neg (show ¬ nI 24 = (11 : Int32) by decide), if_neg (show ¬ nI 24 = (12 : Int32) by decide), if_neg (show ¬ nI 24 = (13 : Int32) by decide), if_neg (show ¬ nI 24 = (14 : Int32) by decide), if_neg (show ¬ nI 24 = (15 : Int32) by decide), if_neg (show ¬ nI 24 = (16 : Int32) by decide), if_neg (show ¬ nI 24 = (17 : Int32) by decide), if_neg (show ¬ nI 24 = (18 : Int32) by decide), if_neg (show ¬ nI 24 = (19 : Int32) by decide), if_neg (show ¬ nI 24 = (20 : Int32) by decide), if_neg (show ¬ nI 24 = (21 : Int32) by decide), if_neg (show ¬ nI 24 = (22 : Int32) by decide), if_neg (show ¬ nI 24 = (23 : Int32) by decide), if_pos (show nI 24 = (24 : Int32) by decide)]
  rw [d1 (by omega), show (21 : Int32) = nI 21 from rfl, C21 (h.lv 24) hO (by omega) (by omega) hl, cll_s]
theorem C13 (h : At g m n) (hO : OkG t g) (hn : n + 2 ≤ 16) (hd : d + 1 ≤ 8) (hl : l < g 2) : X1_begin (f + 2) 55 (nI 13) 7 (nI l) (nI d) m = some (nI (g (11 + l)) - 100, lv (lv m n 13) (n + 1) 10) := by
  have hd : d ≤ 8 := by omega
  rw [cb_step]
  unfold X1_begin_e
  rw [if_neg (h8 hd), c_leave h (by omega), cll_s, if_neg (show ¬ nI 13 = (10 : Int32) by decide), if_neg (show ¬ nI 13 = (11 : Int32) by decide), if_neg (show ¬ nI 13 = (12 : Int32) by decide), if_pos (show nI 13 = (13 : Int32) by decide)]
  rw [d1 (by omega), show (10 : Int32) = nI 10 from rfl, C10 (h.lv 13) hO (by omega) (by omega) hl, cll_s]
theorem C14 (h : At g m n) (hO : OkG t g) (hn : n + 3 ≤ 16) (hd : d + 2 ≤ 8) (hl : l < g 2) : X1_begin (f + 3) 55 (nI 14) 7 (nI l) (nI d) m = some (2 * (nI (g (11 + l)) - 100), lv (lv (lv m n 14) (n + 1) 13) (n + 2) 10) := by
  have hd : d ≤ 8 := by omega
  rw [cb_step]
  unfold X1_begin_e
  rw [if_neg (h8 hd), c_leave h (by omega), cll_s, if_neg (show ¬ nI 14 = (10 : Int32) by decide), if_neg (show ¬ nI 14 = (11 : Int32) by decide), if_neg (show ¬ nI 14 = (12 : Int32) by decide), if_neg (show ¬ nI 14 = (13 : Int32) by decide), if_pos (show nI 14 = (14 : Int32) by decide)]
  rw [d1 (by omega), show (13 : Int32) = nI 13 from rfl, C13 (h.lv 14) hO (by omega) (by omega) hl, cll_s]
theorem C11_1 (h : At g m n) (hO : OkG t g) (hk : g (5 + l) = 1) (hn : n + 4 ≤ 16) (hd : d + 3 ≤ 8) (hl : l < g 2) : X1_begin (f + 4) 55 (nI 11) 7 (nI l) (nI d) m = some (nI (g (11 + l)) + (nI l + nI (readOfN g l)), lv (lv (lv (lv m n 11) (n + 1) 10) (n + 2) 21) (n + 3) 20) := by
  have hd : d ≤ 8 := by omega
  rw [cb_step]
  unfold X1_begin_e
  rw [if_neg (h8 hd), c_leave h (by omega), cll_s, if_neg (show ¬ nI 11 = (10 : Int32) by decide), if_pos (show nI 11 = (11 : Int32) by decide)]
  rw [d1 (by omega), show (10 : Int32) = nI 10 from rfl, C10 (h.lv 11) hO (by omega) (by omega) hl, cll_s, bodyM ((h.lv 11).lv 10).2 hO hl hk (by omega), cll_s, show mkB 1 = nI 21 from rfl, C21 ((h.lv 11).lv 10) hO (by omega) (by omega) hl, cll_s]
theorem C11_2 (h : At g m n) (hO : OkG t g) (hk : g (5 + l) = 2) (hn : n + 5 ≤ 16) (hd : d + 3 ≤ 8) (hl : l < g 2) : X1_begin (f + 4) 55 (nI 11) 7 (nI l) (nI d) m = some (nI (g (11 + l)) + 2 * (nI l + nI (readOfN g l)), lv (lv (lv (lv (lv m n 11) (n + 1) 10) (n + 2) 24) (n + 3) 21) (n + 4) 20) := by
  have hd : d ≤ 8 := by omega
  rw [cb_step]
  unfold X1_begin_e
  rw [if_neg (h8 hd), c_leave h (by omega), cll_s, if_neg (show ¬ nI 11 = (10 : Int32) by decide), if_pos (show nI 11 = (11 : Int32) by decide)]
  rw [d1 (by omega), show (10 : Int32) = nI 10 from rfl, C10 (h.lv 11) hO (by omega) (by omega) hl, cll_s, bodyM ((h.lv 11).lv 10).2 hO hl hk (by omega), cll_s, show mkB 2 = nI 24 from rfl, C24 ((h.lv 11).lv 10) hO (by omega) (by omega) hl, cll_s]
theorem C11_3 (h : At g m n) (hO : OkG t g) (hk : g (5 + l) = 3) (hn : n + 5 ≤ 16) (hd : d + 3 ≤ 8) (hl : l < g 2) : X1_begin (f + 4) 55 (nI 11) 7 (nI l) (nI d) m = some (nI (g (11 + l)) + (nI l + nI (readOfN g l) - 1000), lv (lv (lv (lv (lv m n 11) (n + 1) 10) (n + 2) 22) (n + 3) 21) (n + 4) 20) := by
  have hd : d ≤ 8 := by omega
  rw [cb_step]
  unfold X1_begin_e
  rw [if_neg (h8 hd), c_leave h (by omega), cll_s, if_neg (show ¬ nI 11 = (10 : Int32) by decide), if_pos (show nI 11 = (11 : Int32) by decide)]
  rw [d1 (by omega), show (10 : Int32) = nI 10 from rfl, C10 (h.lv 11) hO (by omega) (by omega) hl, cll_s, bodyM ((h.lv 11).lv 10).2 hO hl hk (by omega), cll_s, show mkB 3 = nI 22 from rfl, C22 ((h.lv 11).lv 10) hO (by omega) (by omega) hl, cll_s]
theorem C12 (h : At g m n) (hO : OkG t g) (hk : g (5 + l) = 2) (hn : n + 6 ≤ 16) (hd : d + 4 ≤ 8) (hl : l < g 2) : X1_begin (f + 5) 55 (nI 12) 7 (nI l) (nI d) m = some (-(nI (g (11 + l)) + 2 * (nI l + nI (readOfN g l))), lv (lv (lv (lv (lv (lv m n 12) (n + 1) 11) (n + 2) 10) (n + 3) 24) (n + 4) 21) (n + 5) 20) := by
  have hd : d ≤ 8 := by omega
  rw [cb_step]
  unfold X1_begin_e
  rw [if_neg (h8 hd), c_leave h (by omega), cll_s, if_neg (show ¬ nI 12 = (10 : Int32) by decide), if_neg (show ¬ nI 12 = (11 : Int32) by decide), if_pos (show nI 12 = (12 : Int32) by decide)]
  rw [d1 (by omega), show (11 : Int32) = nI 11 from rfl, C11_2 (h.lv 12) hO hk (by omega) (by omega) hl, cll_s]
theorem C23_4 (h : At g m n) (hO : OkG t g) (hk : g (5 + l) = 4) (hn : n + 4 ≤ 16) (hd : d + 4 ≤ 8) (hl : l < g 2) : X1_begin (f + 4) 55 (nI 23) 7 (nI l) (nI d) m = some (nI l - (nI (g (11 + l)) - 100), lv (lv (lv (lv m n 23) (n + 1) 20) (n + 2) 13) (n + 3) 10) := by
  have hd : d ≤ 8 := by omega
  rw [cb_step]
  unfold X1_begin_e
  rw [if_neg (h8 hd), c_leave h (by omega), cll_s, if_neg (show ¬ nI 23 = (10 : Int32) by decide), if_neg (show ¬ nI 23 = (11 : Int32) by decide), if_neg (show ¬ nI 23 = (12 : Int32) by decide), if_neg (show ¬ nI 23 = (13 : Int32) by decide), if_neg (show ¬ nI 23 = (14 : Int32) by decide), if_neg (show ¬ nI 23 = (15 : Int32) by decide), if_neg (show ¬ nI 23 = (16 : Int32) by decide), if_neg (show ¬ nI 23 = (17 : Int32) by decide), if_neg (show ¬ nI 23 = (18 : Int32) by decide), if_neg (show ¬ nI 23 = (19 : Int32) by decide), if_neg (show ¬ nI 23 = (20 : Int32) by decide), if_neg (show ¬ nI 23 = (21 : Int32) by decide), if_neg (show ¬ nI 23 = (22 : Int32) by decide), if_pos (show nI 23 = (23 : Int32) by decide)]
  rw [d1 (by omega), show (20 : Int32) = nI 20 from rfl, C20 (h.lv 23) (by omega) (by omega), cll_s, bodyS ((h.lv 23).lv 20).2 hO hl hk (by omega), cll_s, show szB 4 = nI 13 from rfl, C13 ((h.lv 23).lv 20) hO (by omega) (by omega) hl, cll_s]
theorem C23_5 (h : At g m n) (hO : OkG t g) (hk : g (5 + l) = 5) (hn : n + 5 ≤ 16) (hd : d + 4 ≤ 8) (hl : l < g 2) : X1_begin (f + 4) 55 (nI 23) 7 (nI l) (nI d) m = some (nI l - (2 * (nI (g (11 + l)) - 100)), lv (lv (lv (lv (lv m n 23) (n + 1) 20) (n + 2) 14) (n + 3) 13) (n + 4) 10) := by
  have hd : d ≤ 8 := by omega
  rw [cb_step]
  unfold X1_begin_e
  rw [if_neg (h8 hd), c_leave h (by omega), cll_s, if_neg (show ¬ nI 23 = (10 : Int32) by decide), if_neg (show ¬ nI 23 = (11 : Int32) by decide), if_neg (show ¬ nI 23 = (12 : Int32) by decide), if_neg (show ¬ nI 23 = (13 : Int32) by decide), if_neg (show ¬ nI 23 = (14 : Int32) by decide), if_neg (show ¬ nI 23 = (15 : Int32) by decide), if_neg (show ¬ nI 23 = (16 : Int32) by decide), if_neg (show ¬ nI 23 = (17 : Int32) by decide), if_neg (show ¬ nI 23 = (18 : Int32) by decide), if_neg (show ¬ nI 23 = (19 : Int32) by decide), if_neg (show ¬ nI 23 = (20 : Int32) by decide), if_neg (show ¬ nI 23 = (21 : Int32) by decide), if_neg (show ¬ nI 23 = (22 : Int32) by decide), if_pos (show nI 23 = (23 : Int32) by decide)]
  rw [d1 (by omega), show (20 : Int32) = nI 20 from rfl, C20 (h.lv 23) (by omega) (by omega), cll_s, bodyS ((h.lv 23).lv 20).2 hO hl hk (by omega), cll_s, show szB 5 = nI 14 from rfl, C14 ((h.lv 23).lv 20) hO (by omega) (by omega) hl, cll_s]
theorem R10 (h : Rt g m n) (hn : n + 1 ≤ 16) (hl : l < 6) : X7_sizeLent 57 (nI l) m = some (nI (g (11 + l)), lw m n 10) := by
  unfold X7_sizeLent
  rw [show (10 : Int32) = nI 10 from rfl, m_leave h (by omega), cll_s]
  simp (disch := omega) only [rfs, L32, nI_add, al, (h.lw 10).2 (11 + l)]
theorem R20 (h : Rt g m n) (hn : n + 1 ≤ 16) : X7_markLent 57 (nI l) m = some (nI l, lw m n 20) := by
  unfold X7_markLent
  rw [show (20 : Int32) = nI 20 from rfl, m_leave h (by omega), cll_s]
theorem R21 (h : Rt g m n) (hO : OkG t g) (hn : n + 2 ≤ 16) (hl : l < g 2) : X7_markOfProse 57 (nI l) m = some (nI l + nI (readOfN g l), lw (lw m n 21) (n + 1) 20) := by
  unfold X7_markOfProse
  rw [show (21 : Int32) = nI 21 from rfl, m_leave h (by omega), cll_s, R20 (h.lw 21) (by omega), cll_s, m_readOf ((h.lw 21).lw 20).2 hO hl, cll_s]
theorem R13 (h : Rt g m n) (hn : n + 2 ≤ 16) (hl : l < 6) : X7_sizeOfFigures 57 (nI l) m = some (nI (g (11 + l)) - 100, lw (lw m n 13) (n + 1) 10) := by
  unfold X7_sizeOfFigures
  rw [show (13 : Int32) = nI 13 from rfl, m_leave h (by omega), cll_s, R10 (h.lw 13) (by omega) hl, cll_s]
theorem RS4 (h : Rt g m n) (hk : g (5 + l) = 4) (hn : n + 2 ≤ 16) (hl : l < 6) : X7_sizeOfSums 57 (nI l) m = some (nI (g (11 + l)) - 100, lw (lw m n 13) (n + 1) 10) := by
  unfold X7_sizeOfSums
  rw [m_sort h.2 hl, cll_s, hk, if_neg (by decide), R13 h hn hl, cll_s]
theorem RS5 (h : Rt g m n) (hk : g (5 + l) = 5) (hn : n + 3 ≤ 16) (hl : l < 6) : X7_sizeOfSums 57 (nI l) m = some (2 * (nI (g (11 + l)) - 100), lw (lw (lw m n 14) (n + 1) 13) (n + 2) 10) := by
  unfold X7_sizeOfSums
  rw [m_sort h.2 hl, cll_s, hk, if_pos (by decide), show (14 : Int32) = nI 14 from rfl, m_leave h (by omega), cll_s, R13 (h.lw 14) (by omega) hl, cll_s]
theorem RM1 (h : Rt g m n) (hO : OkG t g) (hk : g (5 + l) = 1) (hn : n + 3 ≤ 16) (hl : l < g 2) : X7_markOf 57 (nI l) m = some (nI l + nI (readOfN g l), lw (lw m n 21) (n + 1) 20) := by
  have h2 := hO.1
  unfold X7_markOf
  rw [m_sort h.2 (by omega), cll_s, hk, if_pos (by decide), m_sort h.2 (by omega), cll_s, hk, if_neg (by decide), m_sort h.2 (by omega), cll_s, hk, if_neg (by decide), R21 h hO (by omega) hl, cll_s]
theorem RM2 (h : Rt g m n) (hO : OkG t g) (hk : g (5 + l) = 2) (hn : n + 3 ≤ 16) (hl : l < g 2) : X7_markOf 57 (nI l) m = some (2 * (nI l + nI (readOfN g l)), lw (lw (lw m n 24) (n + 1) 21) (n + 2) 20) := by
  have h2 := hO.1
  unfold X7_markOf
  rw [m_sort h.2 (by omega), cll_s, hk, if_pos (by decide), m_sort h.2 (by omega), cll_s, hk, if_neg (by decide), m_sort h.2 (by omega), cll_s, hk, if_pos (by decide), show (24 : Int32) = nI 24 from rfl, m_leave h (by omega), cll_s, R21 (h.lw 24) hO (by omega) hl, cll_s]
theorem RM3 (h : Rt g m n) (hO : OkG t g) (hk : g (5 + l) = 3) (hn : n + 3 ≤ 16) (hl : l < g 2) : X7_markOf 57 (nI l) m = some (nI l + nI (readOfN g l) - 1000, lw (lw (lw m n 22) (n + 1) 21) (n + 2) 20) := by
  have h2 := hO.1
  unfold X7_markOf
  rw [m_sort h.2 (by omega), cll_s, hk, if_pos (by decide), m_sort h.2 (by omega), cll_s, hk, if_pos (by decide), show (22 : Int32) = nI 22 from rfl, m_leave h (by omega), cll_s, R21 (h.lw 22) hO (by omega) hl, cll_s]
theorem RM4 (h : Rt g m n) (hO : OkG t g) (hk : g (5 + l) = 4) (hn : n + 5 ≤ 16) (hl : l < g 2) : X7_markOf 57 (nI l) m = some (nI l - (nI (g (11 + l)) - 100), lw (lw (lw (lw m n 23) (n + 1) 20) (n + 2) 13) (n + 3) 10) := by
  have h2 := hO.1
  unfold X7_markOf
  rw [m_sort h.2 (by omega), cll_s, hk, if_neg (by decide), show (23 : Int32) = nI 23 from rfl, m_leave h (by omega), cll_s, R20 (h.lw 23) (by omega), cll_s, RS4 ((h.lw 23).lw 20) hk (by omega) (by omega), cll_s]
theorem RM5 (h : Rt g m n) (hO : OkG t g) (hk : g (5 + l) = 5) (hn : n + 5 ≤ 16) (hl : l < g 2) : X7_markOf 57 (nI l) m = some (nI l - 2 * (nI (g (11 + l)) - 100), lw (lw (lw (lw (lw m n 23) (n + 1) 20) (n + 2) 14) (n + 3) 13) (n + 4) 10) := by
  have h2 := hO.1
  unfold X7_markOf
  rw [m_sort h.2 (by omega), cll_s, hk, if_neg (by decide), show (23 : Int32) = nI 23 from rfl, m_leave h (by omega), cll_s, R20 (h.lw 23) (by omega), cll_s, RS5 ((h.lw 23).lw 20) hk (by omega) (by omega), cll_s]
theorem RP1 (h : Rt g m n) (hO : OkG t g) (hk : g (5 + l) = 1) (hn : n + 5 ≤ 16) (hl : l < g 2) : X7_sizeOfProse 57 (nI l) m = some (nI (g (11 + l)) + (nI l + nI (readOfN g l)), lw (lw (lw (lw m n 11) (n + 1) 10) (n + 2) 21) (n + 3) 20) := by
  have h2 := hO.1
  unfold X7_sizeOfProse
  rw [show (11 : Int32) = nI 11 from rfl, m_leave h (by omega), cll_s, R10 (h.lw 11) (by omega) (by omega), cll_s, RM1 ((h.lw 11).lw 10) hO hk (by omega) hl, cll_s]
theorem RP2 (h : Rt g m n) (hO : OkG t g) (hk : g (5 + l) = 2) (hn : n + 5 ≤ 16) (hl : l < g 2) : X7_sizeOfProse 57 (nI l) m = some (nI (g (11 + l)) + 2 * (nI l + nI (readOfN g l)), lw (lw (lw (lw (lw m n 11) (n + 1) 10) (n + 2) 24) (n + 3) 21) (n + 4) 20) := by
  have h2 := hO.1
  unfold X7_sizeOfProse
  rw [show (11 : Int32) = nI 11 from rfl, m_leave h (by omega), cll_s, R10 (h.lw 11) (by omega) (by omega), cll_s, RM2 ((h.lw 11).lw 10) hO hk (by omega) hl, cll_s]
theorem RP3 (h : Rt g m n) (hO : OkG t g) (hk : g (5 + l) = 3) (hn : n + 5 ≤ 16) (hl : l < g 2) : X7_sizeOfProse 57 (nI l) m = some (nI (g (11 + l)) + (nI l + nI (readOfN g l) - 1000), lw (lw (lw (lw (lw m n 11) (n + 1) 10) (n + 2) 22) (n + 3) 21) (n + 4) 20) := by
  have h2 := hO.1
  unfold X7_sizeOfProse
  rw [show (11 : Int32) = nI 11 from rfl, m_leave h (by omega), cll_s, R10 (h.lw 11) (by omega) (by omega), cll_s, RM3 ((h.lw 11).lw 10) hO hk (by omega) hl, cll_s]
theorem RZ1 (h : Rt g m n) (hO : OkG t g) (hk : g (5 + l) = 1) (hn : n + 6 ≤ 16) (hl : l < g 2) : X7_sizeOf 57 (nI l) m = some (nI (g (11 + l)) + (nI l + nI (readOfN g l)), lw (lw (lw (lw m n 11) (n + 1) 10) (n + 2) 21) (n + 3) 20) := by
  have h2 := hO.1
  unfold X7_sizeOf
  rw [m_sort h.2 (by omega), cll_s, hk, if_pos (by decide), m_sort h.2 (by omega), cll_s, hk, if_neg (by decide), RP1 h hO hk (by omega) hl, cll_s]
theorem RZ3 (h : Rt g m n) (hO : OkG t g) (hk : g (5 + l) = 3) (hn : n + 6 ≤ 16) (hl : l < g 2) : X7_sizeOf 57 (nI l) m = some (nI (g (11 + l)) + (nI l + nI (readOfN g l) - 1000), lw (lw (lw (lw (lw m n 11) (n + 1) 10) (n + 2) 22) (n + 3) 21) (n + 4) 20) := by
  have h2 := hO.1
  unfold X7_sizeOf
  rw [m_sort h.2 (by omega), cll_s, hk, if_pos (by decide), m_sort h.2 (by omega), cll_s, hk, if_neg (by decide), RP3 h hO hk (by omega) hl, cll_s]
theorem RZ2 (h : Rt g m n) (hO : OkG t g) (hk : g (5 + l) = 2) (hn : n + 6 ≤ 16) (hl : l < g 2) : X7_sizeOf 57 (nI l) m = some (-(nI (g (11 + l)) + 2 * (nI l + nI (readOfN g l))), lw (lw (lw (lw (lw (lw m n 12) (n + 1) 11) (n + 2) 10) (n + 3) 24) (n + 4) 21) (n + 5) 20) := by
  have h2 := hO.1
  unfold X7_sizeOf
  rw [m_sort h.2 (by omega), cll_s, hk, if_pos (by decide), m_sort h.2 (by omega), cll_s, hk, if_pos (by decide), show (12 : Int32) = nI 12 from rfl, m_leave h (by omega), cll_s, RP2 (h.lw 12) hO hk (by omega) hl, cll_s]
theorem RZ4 (h : Rt g m n) (hO : OkG t g) (hk : g (5 + l) = 4) (hn : n + 6 ≤ 16) (hl : l < g 2) : X7_sizeOf 57 (nI l) m = some (nI (g (11 + l)) - 100, lw (lw m n 13) (n + 1) 10) := by
  have h2 := hO.1
  unfold X7_sizeOf
  rw [m_sort h.2 (by omega), cll_s, hk, if_neg (by decide), RS4 h hk (by omega) (by omega), cll_s]
theorem RZ5 (h : Rt g m n) (hO : OkG t g) (hk : g (5 + l) = 5) (hn : n + 6 ≤ 16) (hl : l < g 2) : X7_sizeOf 57 (nI l) m = some (2 * (nI (g (11 + l)) - 100), lw (lw (lw m n 14) (n + 1) 13) (n + 2) 10) := by
  have h2 := hO.1
  unfold X7_sizeOf
  rw [m_sort h.2 (by omega), cll_s, hk, if_neg (by decide), RS5 h hk (by omega) (by omega), cll_s]
end AK1
