def flA (fl : Nat → Nat → Bool) (lo hi : Nat) : Nat → Nat → Bool := fun a => if lo ≤ a ∧ a < hi then (fun _ => true) else fl a
theorem gap_n {a k g h : Nat} (hak : ¬ a = k) (hin : k ≤ a ∧ a < h) (e : h = k + (g + 1)) : a - (k + 1) < g ∧ k + 1 + (a - (k + 1)) = a := by omega
theorem oi_i : Cond.instanceMethod Lib.objectInit ∈ AW := AW_t (tb_1 (i := 18) rfl) rfl
theorem oi_c : Cond.code Lib.objectInit ⟨#[0xb1]⟩ 1 none ∈ AW := AW_t (tb_1 (i := 19) rfl) rfl
theorem arr_i : Cond.arrayClass (newarray.typeOf .int) ∈ AW := AW_t (tb_1 (i := 39) rfl) rfl
theorem arr_z : Cond.arrayClass (newarray.typeOf .boolean) ∈ AW := AW_t (tb_4 (i := 103) rfl) rfl
theorem df_0 : ∀ (ty : Nat → FieldType), (∀ k, k < nf 0 → parseFieldDescriptor (TX0 k).2.2.1 = some (ty k)) → ∀ j, j < nf 0 → defaultValue (ty j) = if ir 0 j = true then .null else .int 0 := by
  intro ty h j hj
  have e := h j hj
  rw [tyX0_ok j hj] at e
  rw [← Option.some.inj e]
  exact (show ∀ j, j < nf 0 → defaultValue (tyX0 j) = if ir 0 j = true then .null else .int 0 by decide) j hj
theorem df_1 : ∀ (ty : Nat → FieldType), (∀ k, k < nf 1 → parseFieldDescriptor (TX1 k).2.2.1 = some (ty k)) → ∀ j, j < nf 1 → defaultValue (ty j) = if ir 1 j = true then .null else .int 0 := by
  intro ty h j hj
  have e := h j hj
  rw [tyX1_ok j hj] at e
  rw [← Option.some.inj e]
  exact (show ∀ j, j < nf 1 → defaultValue (tyX1 j) = if ir 1 j = true then .null else .int 0 by decide) j hj
theorem df_2 : ∀ (ty : Nat → FieldType), (∀ k, k < nf 2 → parseFieldDescriptor (TX2 k).2.2.1 = some (ty k)) → ∀ j, j < nf 2 → defaultValue (ty j) = if ir 2 j = true then .null else .int 0 := by
  intro ty h j hj
  have e := h j hj
  rw [tyX2_ok j hj] at e
  rw [← Option.some.inj e]
  exact (show ∀ j, j < nf 2 → defaultValue (tyX2 j) = if ir 2 j = true then .null else .int 0 by decide) j hj
theorem df_3 : ∀ (ty : Nat → FieldType), (∀ k, k < nf 3 → parseFieldDescriptor (TX3 k).2.2.1 = some (ty k)) → ∀ j, j < nf 3 → defaultValue (ty j) = if ir 3 j = true then .null else .int 0 := by
  intro ty h j hj
  have e := h j hj
  rw [tyX3_ok j hj] at e
  rw [← Option.some.inj e]
  exact (show ∀ j, j < nf 3 → defaultValue (tyX3 j) = if ir 3 j = true then .null else .int 0 by decide) j hj
theorem df_4 : ∀ (ty : Nat → FieldType), (∀ k, k < nf 4 → parseFieldDescriptor (TX4 k).2.2.1 = some (ty k)) → ∀ j, j < nf 4 → defaultValue (ty j) = if ir 4 j = true then .null else .int 0 := by
  intro ty h j hj
  have e := h j hj
  rw [tyX4_ok j hj] at e
  rw [← Option.some.inj e]
  exact (show ∀ j, j < nf 4 → defaultValue (tyX4 j) = if ir 4 j = true then .null else .int 0 by decide) j hj
theorem df_5 : ∀ (ty : Nat → FieldType), (∀ k, k < nf 5 → parseFieldDescriptor (TX5 k).2.2.1 = some (ty k)) → ∀ j, j < nf 5 → defaultValue (ty j) = if ir 5 j = true then .null else .int 0 := by
  intro ty h j hj
  have e := h j hj
  rw [tyX5_ok j hj] at e
  rw [← Option.some.inj e]
  exact (show ∀ j, j < nf 5 → defaultValue (tyX5 j) = if ir 5 j = true then .null else .int 0 by decide) j hj
theorem df_6 : ∀ (ty : Nat → FieldType), (∀ k, k < nf 6 → parseFieldDescriptor (TX6 k).2.2.1 = some (ty k)) → ∀ j, j < nf 6 → defaultValue (ty j) = if ir 6 j = true then .null else .int 0 := by
  intro ty h j hj
  have e := h j hj
  rw [tyX6_ok j hj] at e
  rw [← Option.some.inj e]
  exact (show ∀ j, j < nf 6 → defaultValue (tyX6 j) = if ir 6 j = true then .null else .int 0 by decide) j hj
theorem df_7 : ∀ (ty : Nat → FieldType), (∀ k, k < nf 7 → parseFieldDescriptor (TX7 k).2.2.1 = some (ty k)) → ∀ j, j < nf 7 → defaultValue (ty j) = if ir 7 j = true then .null else .int 0 := by
  intro ty h j hj
  have e := h j hj
  rw [tyX7_ok j hj] at e
  rw [← Option.some.inj e]
  exact (show ∀ j, j < nf 7 → defaultValue (tyX7 j) = if ir 7 j = true then .null else .int 0 by decide) j hj
theorem sf_4_hk1 {k : Nat} (h : kd k = 4) : kd (k + 1) = 100 := (show ∀ k, k < NC → kd k = 4 → kd (k + 1) = 100 by decide +kernel) k (kd_lt h (by decide)) h
theorem sf_4_hn1 {k : Nat} (h : kd k = 4) : ln (k + 1) = 8 := (show ∀ k, k < NC → kd k = 4 → ln (k + 1) = 8 by decide +kernel) k (kd_lt h (by decide)) h
theorem sf_4_hk2 {k : Nat} (h : kd k = 4) : kd (k + 2) = 100 := (show ∀ k, k < NC → kd k = 4 → kd (k + 2) = 100 by decide +kernel) k (kd_lt h (by decide)) h
theorem sf_4_hn2 {k : Nat} (h : kd k = 4) : ln (k + 2) = 8 := (show ∀ k, k < NC → kd k = 4 → ln (k + 2) = 8 by decide +kernel) k (kd_lt h (by decide)) h
theorem sf_4_hk3 {k : Nat} (h : kd k = 4) : kd (k + 3) = 100 := (show ∀ k, k < NC → kd k = 4 → kd (k + 3) = 100 by decide +kernel) k (kd_lt h (by decide)) h
theorem sf_4_hn3 {k : Nat} (h : kd k = 4) : ln (k + 3) = 320 := (show ∀ k, k < NC → kd k = 4 → ln (k + 3) = 320 by decide +kernel) k (kd_lt h (by decide)) h
theorem sf_4_hr0 {k : Nat} (h : kd k = 4) : rf k 0 = k + 1 := (show ∀ k, k < NC → kd k = 4 → rf k 0 = k + 1 by decide +kernel) k (kd_lt h (by decide)) h
theorem sf_4_hr1 {k : Nat} (h : kd k = 4) : rf k 1 = k + 2 := (show ∀ k, k < NC → kd k = 4 → rf k 1 = k + 2 by decide +kernel) k (kd_lt h (by decide)) h
theorem sf_4_hr2 {k : Nat} (h : kd k = 4) : rf k 2 = k + 3 := (show ∀ k, k < NC → kd k = 4 → rf k 2 = k + 3 by decide +kernel) k (kd_lt h (by decide)) h
theorem sf_4_A {k : Nat} (h : kd k = 4) : ∀ i, i < 3 → 100 ≤ kd (k + 1 + i) := (show ∀ k, k < NC → kd k = 4 → ∀ i, i < 3 → 100 ≤ kd (k + 1 + i) by decide +kernel) k (kd_lt h (by decide)) h
theorem sf_5_hk1 {k : Nat} (h : kd k = 5) : kd (k + 1) = 100 := (show ∀ k, k < NC → kd k = 5 → kd (k + 1) = 100 by decide +kernel) k (kd_lt h (by decide)) h
theorem sf_5_hn1 {k : Nat} (h : kd k = 5) : ln (k + 1) = 120 := (show ∀ k, k < NC → kd k = 5 → ln (k + 1) = 120 by decide +kernel) k (kd_lt h (by decide)) h
theorem sf_5_hr0 {k : Nat} (h : kd k = 5) : rf k 0 = k + 1 := (show ∀ k, k < NC → kd k = 5 → rf k 0 = k + 1 by decide +kernel) k (kd_lt h (by decide)) h
theorem sf_5_A {k : Nat} (h : kd k = 5) : ∀ i, i < 1 → 100 ≤ kd (k + 1 + i) := (show ∀ k, k < NC → kd k = 5 → ∀ i, i < 1 → 100 ≤ kd (k + 1 + i) by decide +kernel) k (kd_lt h (by decide)) h
theorem sf_3_hk1 {k : Nat} (h : kd k = 3) : kd (k + 1) = 100 := (show ∀ k, k < NC → kd k = 3 → kd (k + 1) = 100 by decide +kernel) k (kd_lt h (by decide)) h
theorem sf_3_hn1 {k : Nat} (h : kd k = 3) : ln (k + 1) = 6 := (show ∀ k, k < NC → kd k = 3 → ln (k + 1) = 6 by decide +kernel) k (kd_lt h (by decide)) h
theorem sf_3_hk2 {k : Nat} (h : kd k = 3) : kd (k + 2) = 100 := (show ∀ k, k < NC → kd k = 3 → kd (k + 2) = 100 by decide +kernel) k (kd_lt h (by decide)) h
theorem sf_3_hn2 {k : Nat} (h : kd k = 3) : ln (k + 2) = 6 := (show ∀ k, k < NC → kd k = 3 → ln (k + 2) = 6 by decide +kernel) k (kd_lt h (by decide)) h
theorem sf_3_hk3 {k : Nat} (h : kd k = 3) : kd (k + 3) = 100 := (show ∀ k, k < NC → kd k = 3 → kd (k + 3) = 100 by decide +kernel) k (kd_lt h (by decide)) h
theorem sf_3_hn3 {k : Nat} (h : kd k = 3) : ln (k + 3) = 6 := (show ∀ k, k < NC → kd k = 3 → ln (k + 3) = 6 by decide +kernel) k (kd_lt h (by decide)) h
theorem sf_3_hk4 {k : Nat} (h : kd k = 3) : kd (k + 4) = 100 := (show ∀ k, k < NC → kd k = 3 → kd (k + 4) = 100 by decide +kernel) k (kd_lt h (by decide)) h
theorem sf_3_hn4 {k : Nat} (h : kd k = 3) : ln (k + 4) = 4 := (show ∀ k, k < NC → kd k = 3 → ln (k + 4) = 4 by decide +kernel) k (kd_lt h (by decide)) h
theorem sf_3_hk5 {k : Nat} (h : kd k = 3) : kd (k + 5) = 100 := (show ∀ k, k < NC → kd k = 3 → kd (k + 5) = 100 by decide +kernel) k (kd_lt h (by decide)) h
theorem sf_3_hn5 {k : Nat} (h : kd k = 3) : ln (k + 5) = 4 := (show ∀ k, k < NC → kd k = 3 → ln (k + 5) = 4 by decide +kernel) k (kd_lt h (by decide)) h
theorem sf_3_hk6 {k : Nat} (h : kd k = 3) : kd (k + 6) = 100 := (show ∀ k, k < NC → kd k = 3 → kd (k + 6) = 100 by decide +kernel) k (kd_lt h (by decide)) h
theorem sf_3_hn6 {k : Nat} (h : kd k = 3) : ln (k + 6) = 4 := (show ∀ k, k < NC → kd k = 3 → ln (k + 6) = 4 by decide +kernel) k (kd_lt h (by decide)) h
theorem sf_3_hk7 {k : Nat} (h : kd k = 3) : kd (k + 7) = 100 := (show ∀ k, k < NC → kd k = 3 → kd (k + 7) = 100 by decide +kernel) k (kd_lt h (by decide)) h
theorem sf_3_hn7 {k : Nat} (h : kd k = 3) : ln (k + 7) = 4 := (show ∀ k, k < NC → kd k = 3 → ln (k + 7) = 4 by decide +kernel) k (kd_lt h (by decide)) h
theorem sf_3_hk8 {k : Nat} (h : kd k = 3) : kd (k + 8) = 100 := (show ∀ k, k < NC → kd k = 3 → kd (k + 8) = 100 by decide +kernel) k (kd_lt h (by decide)) h
theorem sf_3_hn8 {k : Nat} (h : kd k = 3) : ln (k + 8) = 24 := (show ∀ k, k < NC → kd k = 3 → ln (k + 8) = 24 by decide +kernel) k (kd_lt h (by decide)) h
theorem sf_3_hr4 {k : Nat} (h : kd k = 3) : rf k 4 = k + 1 := (show ∀ k, k < NC → kd k = 3 → rf k 4 = k + 1 by decide +kernel) k (kd_lt h (by decide)) h
theorem sf_3_hr5 {k : Nat} (h : kd k = 3) : rf k 5 = k + 2 := (show ∀ k, k < NC → kd k = 3 → rf k 5 = k + 2 by decide +kernel) k (kd_lt h (by decide)) h
theorem sf_3_hr6 {k : Nat} (h : kd k = 3) : rf k 6 = k + 3 := (show ∀ k, k < NC → kd k = 3 → rf k 6 = k + 3 by decide +kernel) k (kd_lt h (by decide)) h
theorem sf_3_hr8 {k : Nat} (h : kd k = 3) : rf k 8 = k + 4 := (show ∀ k, k < NC → kd k = 3 → rf k 8 = k + 4 by decide +kernel) k (kd_lt h (by decide)) h
theorem sf_3_hr9 {k : Nat} (h : kd k = 3) : rf k 9 = k + 5 := (show ∀ k, k < NC → kd k = 3 → rf k 9 = k + 5 by decide +kernel) k (kd_lt h (by decide)) h
theorem sf_3_hr10 {k : Nat} (h : kd k = 3) : rf k 10 = k + 6 := (show ∀ k, k < NC → kd k = 3 → rf k 10 = k + 6 by decide +kernel) k (kd_lt h (by decide)) h
theorem sf_3_hr11 {k : Nat} (h : kd k = 3) : rf k 11 = k + 7 := (show ∀ k, k < NC → kd k = 3 → rf k 11 = k + 7 by decide +kernel) k (kd_lt h (by decide)) h
theorem sf_3_hr12 {k : Nat} (h : kd k = 3) : rf k 12 = k + 8 := (show ∀ k, k < NC → kd k = 3 → rf k 12 = k + 8 by decide +kernel) k (kd_lt h (by decide)) h
theorem sf_3_A {k : Nat} (h : kd k = 3) : ∀ i, i < 8 → 100 ≤ kd (k + 1 + i) := (show ∀ k, k < NC → kd k = 3 → ∀ i, i < 8 → 100 ≤ kd (k + 1 + i) by decide +kernel) k (kd_lt h (by decide)) h
theorem sf_0_hk1 {k : Nat} (h : kd k = 0) : kd (k + 1) = 100 := (show ∀ k, k < NC → kd k = 0 → kd (k + 1) = 100 by decide +kernel) k (kd_lt h (by decide)) h
theorem sf_0_hn1 {k : Nat} (h : kd k = 0) : ln (k + 1) = 24 := (show ∀ k, k < NC → kd k = 0 → ln (k + 1) = 24 by decide +kernel) k (kd_lt h (by decide)) h
theorem sf_0_hk2 {k : Nat} (h : kd k = 0) : kd (k + 2) = 100 := (show ∀ k, k < NC → kd k = 0 → kd (k + 2) = 100 by decide +kernel) k (kd_lt h (by decide)) h
theorem sf_0_hn2 {k : Nat} (h : kd k = 0) : ln (k + 2) = 24 := (show ∀ k, k < NC → kd k = 0 → ln (k + 2) = 24 by decide +kernel) k (kd_lt h (by decide)) h
theorem sf_0_hk3 {k : Nat} (h : kd k = 0) : kd (k + 3) = 100 := (show ∀ k, k < NC → kd k = 0 → kd (k + 3) = 100 by decide +kernel) k (kd_lt h (by decide)) h
theorem sf_0_hn3 {k : Nat} (h : kd k = 0) : ln (k + 3) = 24 := (show ∀ k, k < NC → kd k = 0 → ln (k + 3) = 24 by decide +kernel) k (kd_lt h (by decide)) h
theorem sf_0_hk4 {k : Nat} (h : kd k = 0) : kd (k + 4) = 100 := (show ∀ k, k < NC → kd k = 0 → kd (k + 4) = 100 by decide +kernel) k (kd_lt h (by decide)) h
theorem sf_0_hn4 {k : Nat} (h : kd k = 0) : ln (k + 4) = 24 := (show ∀ k, k < NC → kd k = 0 → ln (k + 4) = 24 by decide +kernel) k (kd_lt h (by decide)) h
theorem sf_0_hk5 {k : Nat} (h : kd k = 0) : kd (k + 5) = 100 := (show ∀ k, k < NC → kd k = 0 → kd (k + 5) = 100 by decide +kernel) k (kd_lt h (by decide)) h
theorem sf_0_hn5 {k : Nat} (h : kd k = 0) : ln (k + 5) = 24 := (show ∀ k, k < NC → kd k = 0 → ln (k + 5) = 24 by decide +kernel) k (kd_lt h (by decide)) h
theorem sf_0_hk6 {k : Nat} (h : kd k = 0) : kd (k + 6) = 100 := (show ∀ k, k < NC → kd k = 0 → kd (k + 6) = 100 by decide +kernel) k (kd_lt h (by decide)) h
theorem sf_0_hn6 {k : Nat} (h : kd k = 0) : ln (k + 6) = 24 := (show ∀ k, k < NC → kd k = 0 → ln (k + 6) = 24 by decide +kernel) k (kd_lt h (by decide)) h
theorem sf_0_hk7 {k : Nat} (h : kd k = 0) : kd (k + 7) = 100 := (show ∀ k, k < NC → kd k = 0 → kd (k + 7) = 100 by decide +kernel) k (kd_lt h (by decide)) h
theorem sf_0_hn7 {k : Nat} (h : kd k = 0) : ln (k + 7) = 24 := (show ∀ k, k < NC → kd k = 0 → ln (k + 7) = 24 by decide +kernel) k (kd_lt h (by decide)) h
theorem sf_0_hr0 {k : Nat} (h : kd k = 0) : rf k 0 = k + 1 := (show ∀ k, k < NC → kd k = 0 → rf k 0 = k + 1 by decide +kernel) k (kd_lt h (by decide)) h
theorem sf_0_hr1 {k : Nat} (h : kd k = 0) : rf k 1 = k + 2 := (show ∀ k, k < NC → kd k = 0 → rf k 1 = k + 2 by decide +kernel) k (kd_lt h (by decide)) h
theorem sf_0_hr2 {k : Nat} (h : kd k = 0) : rf k 2 = k + 3 := (show ∀ k, k < NC → kd k = 0 → rf k 2 = k + 3 by decide +kernel) k (kd_lt h (by decide)) h
theorem sf_0_hr3 {k : Nat} (h : kd k = 0) : rf k 3 = k + 4 := (show ∀ k, k < NC → kd k = 0 → rf k 3 = k + 4 by decide +kernel) k (kd_lt h (by decide)) h
theorem sf_0_hr4 {k : Nat} (h : kd k = 0) : rf k 4 = k + 5 := (show ∀ k, k < NC → kd k = 0 → rf k 4 = k + 5 by decide +kernel) k (kd_lt h (by decide)) h
theorem sf_0_hr5 {k : Nat} (h : kd k = 0) : rf k 5 = k + 6 := (show ∀ k, k < NC → kd k = 0 → rf k 5 = k + 6 by decide +kernel) k (kd_lt h (by decide)) h
theorem sf_0_hr6 {k : Nat} (h : kd k = 0) : rf k 6 = k + 7 := (show ∀ k, k < NC → kd k = 0 → rf k 6 = k + 7 by decide +kernel) k (kd_lt h (by decide)) h
theorem sf_0_A {k : Nat} (h : kd k = 0) : ∀ i, i < 7 → 100 ≤ kd (k + 1 + i) := (show ∀ k, k < NC → kd k = 0 → ∀ i, i < 7 → 100 ≤ kd (k + 1 + i) by decide +kernel) k (kd_lt h (by decide)) h
theorem sf_2_hk1 {k : Nat} (h : kd k = 2) : kd (k + 1) = 100 := (show ∀ k, k < NC → kd k = 2 → kd (k + 1) = 100 by decide +kernel) k (kd_lt h (by decide)) h
theorem sf_2_hn1 {k : Nat} (h : kd k = 2) : ln (k + 1) = 4 := (show ∀ k, k < NC → kd k = 2 → ln (k + 1) = 4 by decide +kernel) k (kd_lt h (by decide)) h
theorem sf_2_hk2 {k : Nat} (h : kd k = 2) : kd (k + 2) = 100 := (show ∀ k, k < NC → kd k = 2 → kd (k + 2) = 100 by decide +kernel) k (kd_lt h (by decide)) h
theorem sf_2_hn2 {k : Nat} (h : kd k = 2) : ln (k + 2) = 6 := (show ∀ k, k < NC → kd k = 2 → ln (k + 2) = 6 by decide +kernel) k (kd_lt h (by decide)) h
theorem sf_2_hk3 {k : Nat} (h : kd k = 2) : kd (k + 3) = 100 := (show ∀ k, k < NC → kd k = 2 → kd (k + 3) = 100 by decide +kernel) k (kd_lt h (by decide)) h
theorem sf_2_hn3 {k : Nat} (h : kd k = 2) : ln (k + 3) = 64 := (show ∀ k, k < NC → kd k = 2 → ln (k + 3) = 64 by decide +kernel) k (kd_lt h (by decide)) h
theorem sf_2_hr0 {k : Nat} (h : kd k = 2) : rf k 0 = k + 1 := (show ∀ k, k < NC → kd k = 2 → rf k 0 = k + 1 by decide +kernel) k (kd_lt h (by decide)) h
theorem sf_2_hr1 {k : Nat} (h : kd k = 2) : rf k 1 = k + 2 := (show ∀ k, k < NC → kd k = 2 → rf k 1 = k + 2 by decide +kernel) k (kd_lt h (by decide)) h
theorem sf_2_hr2 {k : Nat} (h : kd k = 2) : rf k 2 = k + 3 := (show ∀ k, k < NC → kd k = 2 → rf k 2 = k + 3 by decide +kernel) k (kd_lt h (by decide)) h
theorem sf_2_A {k : Nat} (h : kd k = 2) : ∀ i, i < 3 → 100 ≤ kd (k + 1 + i) := (show ∀ k, k < NC → kd k = 2 → ∀ i, i < 3 → 100 ≤ kd (k + 1 + i) by decide +kernel) k (kd_lt h (by decide)) h
theorem sf_1_hk1 {k : Nat} (h : kd k = 1) : kd (k + 1) = 100 := (show ∀ k, k < NC → kd k = 1 → kd (k + 1) = 100 by decide +kernel) k (kd_lt h (by decide)) h
theorem sf_1_hn1 {k : Nat} (h : kd k = 1) : ln (k + 1) = 16 := (show ∀ k, k < NC → kd k = 1 → ln (k + 1) = 16 by decide +kernel) k (kd_lt h (by decide)) h
theorem sf_1_hr0 {k : Nat} (h : kd k = 1) : rf k 0 = k + 1 := (show ∀ k, k < NC → kd k = 1 → rf k 0 = k + 1 by decide +kernel) k (kd_lt h (by decide)) h
theorem sf_1_A {k : Nat} (h : kd k = 1) : ∀ i, i < 1 → 100 ≤ kd (k + 1 + i) := (show ∀ k, k < NC → kd k = 1 → ∀ i, i < 1 → 100 ≤ kd (k + 1 + i) by decide +kernel) k (kd_lt h (by decide)) h
theorem sf_7_hk1 {k : Nat} (h : kd k = 7) : kd (k + 1) = 100 := (show ∀ k, k < NC → kd k = 7 → kd (k + 1) = 100 by decide +kernel) k (kd_lt h (by decide)) h
theorem sf_7_hn1 {k : Nat} (h : kd k = 7) : ln (k + 1) = 8 := (show ∀ k, k < NC → kd k = 7 → ln (k + 1) = 8 by decide +kernel) k (kd_lt h (by decide)) h
theorem sf_7_hk2 {k : Nat} (h : kd k = 7) : kd (k + 2) = 100 := (show ∀ k, k < NC → kd k = 7 → kd (k + 2) = 100 by decide +kernel) k (kd_lt h (by decide)) h
theorem sf_7_hn2 {k : Nat} (h : kd k = 7) : ln (k + 2) = 8 := (show ∀ k, k < NC → kd k = 7 → ln (k + 2) = 8 by decide +kernel) k (kd_lt h (by decide)) h
theorem sf_7_hk3 {k : Nat} (h : kd k = 7) : kd (k + 3) = 100 := (show ∀ k, k < NC → kd k = 7 → kd (k + 3) = 100 by decide +kernel) k (kd_lt h (by decide)) h
theorem sf_7_hn3 {k : Nat} (h : kd k = 7) : ln (k + 3) = 320 := (show ∀ k, k < NC → kd k = 7 → ln (k + 3) = 320 by decide +kernel) k (kd_lt h (by decide)) h
theorem sf_7_hk4 {k : Nat} (h : kd k = 7) : kd (k + 4) = 100 := (show ∀ k, k < NC → kd k = 7 → kd (k + 4) = 100 by decide +kernel) k (kd_lt h (by decide)) h
theorem sf_7_hn4 {k : Nat} (h : kd k = 7) : ln (k + 4) = 40 := (show ∀ k, k < NC → kd k = 7 → ln (k + 4) = 40 by decide +kernel) k (kd_lt h (by decide)) h
theorem sf_7_hk5 {k : Nat} (h : kd k = 7) : kd (k + 5) = 100 := (show ∀ k, k < NC → kd k = 7 → kd (k + 5) = 100 by decide +kernel) k (kd_lt h (by decide)) h
theorem sf_7_hn5 {k : Nat} (h : kd k = 7) : ln (k + 5) = 63 := (show ∀ k, k < NC → kd k = 7 → ln (k + 5) = 63 by decide +kernel) k (kd_lt h (by decide)) h
theorem sf_7_hk6 {k : Nat} (h : kd k = 7) : kd (k + 6) = 100 := (show ∀ k, k < NC → kd k = 7 → kd (k + 6) = 100 by decide +kernel) k (kd_lt h (by decide)) h
theorem sf_7_hn6 {k : Nat} (h : kd k = 7) : ln (k + 6) = 120 := (show ∀ k, k < NC → kd k = 7 → ln (k + 6) = 120 by decide +kernel) k (kd_lt h (by decide)) h
theorem sf_7_hk7 {k : Nat} (h : kd k = 7) : kd (k + 7) = 100 := (show ∀ k, k < NC → kd k = 7 → kd (k + 7) = 100 by decide +kernel) k (kd_lt h (by decide)) h
theorem sf_7_hn7 {k : Nat} (h : kd k = 7) : ln (k + 7) = 63 := (show ∀ k, k < NC → kd k = 7 → ln (k + 7) = 63 by decide +kernel) k (kd_lt h (by decide)) h
theorem sf_7_hk8 {k : Nat} (h : kd k = 7) : kd (k + 8) = 100 := (show ∀ k, k < NC → kd k = 7 → kd (k + 8) = 100 by decide +kernel) k (kd_lt h (by decide)) h
theorem sf_7_hn8 {k : Nat} (h : kd k = 7) : ln (k + 8) = 1512 := (show ∀ k, k < NC → kd k = 7 → ln (k + 8) = 1512 by decide +kernel) k (kd_lt h (by decide)) h
theorem sf_7_hk9 {k : Nat} (h : kd k = 7) : kd (k + 9) = 100 := (show ∀ k, k < NC → kd k = 7 → kd (k + 9) = 100 by decide +kernel) k (kd_lt h (by decide)) h
theorem sf_7_hn9 {k : Nat} (h : kd k = 7) : ln (k + 9) = 6 := (show ∀ k, k < NC → kd k = 7 → ln (k + 9) = 6 by decide +kernel) k (kd_lt h (by decide)) h
theorem sf_7_hk10 {k : Nat} (h : kd k = 7) : kd (k + 10) = 100 := (show ∀ k, k < NC → kd k = 7 → kd (k + 10) = 100 by decide +kernel) k (kd_lt h (by decide)) h
theorem sf_7_hn10 {k : Nat} (h : kd k = 7) : ln (k + 10) = 4 := (show ∀ k, k < NC → kd k = 7 → ln (k + 10) = 4 by decide +kernel) k (kd_lt h (by decide)) h
theorem sf_7_hk11 {k : Nat} (h : kd k = 7) : kd (k + 11) = 100 := (show ∀ k, k < NC → kd k = 7 → kd (k + 11) = 100 by decide +kernel) k (kd_lt h (by decide)) h
theorem sf_7_hn11 {k : Nat} (h : kd k = 7) : ln (k + 11) = 64 := (show ∀ k, k < NC → kd k = 7 → ln (k + 11) = 64 by decide +kernel) k (kd_lt h (by decide)) h
theorem sf_7_hk12 {k : Nat} (h : kd k = 7) : kd (k + 12) = 100 := (show ∀ k, k < NC → kd k = 7 → kd (k + 12) = 100 by decide +kernel) k (kd_lt h (by decide)) h
theorem sf_7_hn12 {k : Nat} (h : kd k = 7) : ln (k + 12) = 64 := (show ∀ k, k < NC → kd k = 7 → ln (k + 12) = 64 by decide +kernel) k (kd_lt h (by decide)) h
theorem sf_7_hk13 {k : Nat} (h : kd k = 7) : kd (k + 13) = 100 := (show ∀ k, k < NC → kd k = 7 → kd (k + 13) = 100 by decide +kernel) k (kd_lt h (by decide)) h
theorem sf_7_hn13 {k : Nat} (h : kd k = 7) : ln (k + 13) = 126 := (show ∀ k, k < NC → kd k = 7 → ln (k + 13) = 126 by decide +kernel) k (kd_lt h (by decide)) h
theorem sf_7_hk14 {k : Nat} (h : kd k = 7) : kd (k + 14) = 101 := (show ∀ k, k < NC → kd k = 7 → kd (k + 14) = 101 by decide +kernel) k (kd_lt h (by decide)) h
theorem sf_7_hn14 {k : Nat} (h : kd k = 7) : ln (k + 14) = 2 := (show ∀ k, k < NC → kd k = 7 → ln (k + 14) = 2 by decide +kernel) k (kd_lt h (by decide)) h
theorem sf_7_hk15 {k : Nat} (h : kd k = 7) : kd (k + 15) = 100 := (show ∀ k, k < NC → kd k = 7 → kd (k + 15) = 100 by decide +kernel) k (kd_lt h (by decide)) h
theorem sf_7_hn15 {k : Nat} (h : kd k = 7) : ln (k + 15) = 16 := (show ∀ k, k < NC → kd k = 7 → ln (k + 15) = 16 by decide +kernel) k (kd_lt h (by decide)) h
theorem sf_7_hr0 {k : Nat} (h : kd k = 7) : rf k 0 = k + 1 := (show ∀ k, k < NC → kd k = 7 → rf k 0 = k + 1 by decide +kernel) k (kd_lt h (by decide)) h
theorem sf_7_hr1 {k : Nat} (h : kd k = 7) : rf k 1 = k + 2 := (show ∀ k, k < NC → kd k = 7 → rf k 1 = k + 2 by decide +kernel) k (kd_lt h (by decide)) h
theorem sf_7_hr2 {k : Nat} (h : kd k = 7) : rf k 2 = k + 3 := (show ∀ k, k < NC → kd k = 7 → rf k 2 = k + 3 by decide +kernel) k (kd_lt h (by decide)) h
theorem sf_7_hr4 {k : Nat} (h : kd k = 7) : rf k 4 = k + 4 := (show ∀ k, k < NC → kd k = 7 → rf k 4 = k + 4 by decide +kernel) k (kd_lt h (by decide)) h
theorem sf_7_hr5 {k : Nat} (h : kd k = 7) : rf k 5 = k + 5 := (show ∀ k, k < NC → kd k = 7 → rf k 5 = k + 5 by decide +kernel) k (kd_lt h (by decide)) h
theorem sf_7_hr6 {k : Nat} (h : kd k = 7) : rf k 6 = k + 6 := (show ∀ k, k < NC → kd k = 7 → rf k 6 = k + 6 by decide +kernel) k (kd_lt h (by decide)) h
theorem sf_7_hr12 {k : Nat} (h : kd k = 7) : rf k 12 = k + 7 := (show ∀ k, k < NC → kd k = 7 → rf k 12 = k + 7 by decide +kernel) k (kd_lt h (by decide)) h
theorem sf_7_hr14 {k : Nat} (h : kd k = 7) : rf k 14 = k + 8 := (show ∀ k, k < NC → kd k = 7 → rf k 14 = k + 8 by decide +kernel) k (kd_lt h (by decide)) h
theorem sf_7_hr15 {k : Nat} (h : kd k = 7) : rf k 15 = k + 9 := (show ∀ k, k < NC → kd k = 7 → rf k 15 = k + 9 by decide +kernel) k (kd_lt h (by decide)) h
theorem sf_7_hr16 {k : Nat} (h : kd k = 7) : rf k 16 = k + 10 := (show ∀ k, k < NC → kd k = 7 → rf k 16 = k + 10 by decide +kernel) k (kd_lt h (by decide)) h
theorem sf_7_hr17 {k : Nat} (h : kd k = 7) : rf k 17 = k + 11 := (show ∀ k, k < NC → kd k = 7 → rf k 17 = k + 11 by decide +kernel) k (kd_lt h (by decide)) h
theorem sf_7_hr18 {k : Nat} (h : kd k = 7) : rf k 18 = k + 12 := (show ∀ k, k < NC → kd k = 7 → rf k 18 = k + 12 by decide +kernel) k (kd_lt h (by decide)) h
theorem sf_7_hr19 {k : Nat} (h : kd k = 7) : rf k 19 = k + 13 := (show ∀ k, k < NC → kd k = 7 → rf k 19 = k + 13 by decide +kernel) k (kd_lt h (by decide)) h
theorem sf_7_hr20 {k : Nat} (h : kd k = 7) : rf k 20 = k + 14 := (show ∀ k, k < NC → kd k = 7 → rf k 20 = k + 14 by decide +kernel) k (kd_lt h (by decide)) h
theorem sf_7_hr21 {k : Nat} (h : kd k = 7) : rf k 21 = k + 15 := (show ∀ k, k < NC → kd k = 7 → rf k 21 = k + 15 by decide +kernel) k (kd_lt h (by decide)) h
theorem sf_7_A {k : Nat} (h : kd k = 7) : ∀ i, i < 15 → 100 ≤ kd (k + 1 + i) := (show ∀ k, k < NC → kd k = 7 → ∀ i, i < 15 → 100 ≤ kd (k + 1 + i) by decide +kernel) k (kd_lt h (by decide)) h
theorem ml_X4_19 : Cond.methodLink RX4 19 yJ7_fill_53178 ∈ AW := AW_t (tb_1 (i := 26) rfl) rfl
theorem ml_X6_18 : Cond.methodLinkNest RX6 18 yX5_init "AgingLetters" ∈ NW := NW_t (tb_1 (i := 42) rfl) rfl
theorem ml_X6_25 : Cond.methodLinkNest RX6 25 yX3_init "AgingLetters" ∈ NW := NW_t (tb_1 (i := 63) rfl) rfl
theorem ml_X6_41 : Cond.methodLinkNest RX6 41 yX0_init "AgingLetters" ∈ NW := NW_t (tb_1 (i := 136) rfl) rfl
theorem ml_X6_48 : Cond.methodLinkNest RX6 48 yX2_init "AgingLetters" ∈ NW := NW_t (tb_1 (i := 171) rfl) rfl
theorem ml_X6_55 : Cond.methodLinkNest RX6 55 yX1_init "AgingLetters" ∈ NW := NW_t (tb_1 (i := 188) rfl) rfl
theorem ml_X6_9 : Cond.methodLink RX6 9 yX4_init ∈ AW := AW_t (tb_1 (i := 22) rfl) rfl
-- Arrays.fill over a part of the world
theorem ef_0 : decode cJ7_fill_53178 0 = .ok (.iconst 0, 1) := by decide +kernel
theorem ef_1 : decode cJ7_fill_53178 1 = .ok (.istore_n 2, 1) := by decide +kernel
theorem ef_2 : decode cJ7_fill_53178 2 = .ok (.aload_n 0, 1) := by decide +kernel
theorem ef_3 : decode cJ7_fill_53178 3 = .ok (.arraylength, 1) := by decide +kernel
theorem ef_4 : decode cJ7_fill_53178 4 = .ok (.istore_n 3, 1) := by decide +kernel
theorem ef_5 : decode cJ7_fill_53178 5 = .ok (.iload_n 2, 1) := by decide +kernel
theorem ef_6 : decode cJ7_fill_53178 6 = .ok (.iload_n 3, 1) := by decide +kernel
theorem ef_7 : decode cJ7_fill_53178 7 = .ok (.if_icmp .ge 13, 3) := by decide +kernel
theorem ef_10 : decode cJ7_fill_53178 10 = .ok (.aload_n 0, 1) := by decide +kernel
theorem ef_11 : decode cJ7_fill_53178 11 = .ok (.iload_n 2, 1) := by decide +kernel
theorem ef_12 : decode cJ7_fill_53178 12 = .ok (.iload_n 1, 1) := by decide +kernel
theorem ef_13 : decode cJ7_fill_53178 13 = .ok (.iastore, 1) := by decide +kernel
theorem ef_14 : decode cJ7_fill_53178 14 = .ok (.iinc 2 1, 3) := by decide +kernel
theorem ef_17 : decode cJ7_fill_53178 17 = .ok (.goto (-12), 3) := by decide +kernel
theorem ef_20 : decode cJ7_fill_53178 20 = .ok (.return_, 1) := by decide +kernel
def fillM (mem : Mem) (a : Nat) (v : Int32) (i : Nat) : Mem := st1 mem a (fun j => if j < i then v else mem a j)
theorem fillM_0 (mem : Mem) (a : Nat) (v : Int32) : fillM mem a v 0 = mem := by
  funext k j
  unfold fillM st1
  by_cases h : k = a
  · rw [if_pos h, h, if_neg (Nat.not_lt_zero j)]
  · rw [if_neg h]
theorem fillM_s (mem : Mem) (a : Nat) (v : Int32) (i : Nat) : st2 (fillM mem a v i) a i v = fillM mem a v (i + 1) := by
  funext k j
  simp only [st2, st1, fillM, upd]
  by_cases h : k = a
  · subst h
    simp only [if_true]
    show (if j = i then v else if j < i then v else mem k j) = _
    by_cases hj : j = i
    · rw [if_pos hj, if_pos (by omega)]
    · rw [if_neg hj]
      by_cases hl : j < i
      · rw [if_pos hl, if_pos (by omega)]
      · rw [if_neg hl, if_neg (by omega)]
  · rw [if_neg h, if_neg h, if_neg h]
set_option maxRecDepth 100000 in
theorem fill_loop (G : Gt) (base n : Nat) (fl : Nat → Nat → Bool) (mem : Mem) (a : Nat) (ha : kd a = 100) (hlt : a < n) (hln : ln a < 2 ^ 31) (v : Int32) : ∀ (k i : Nat), i ≤ ln a → ln a - i < k → EvC G base cJ7_fill_53178 4 RJ7 false 1 0 0 (fun n2 fl2 m2 => n2 = n ∧ fl2 = fl ∧ m2 = st1 mem a (fun j => if j < ln a then v else mem a j)) 5 [(0, .ref (gA G a)), (1, .int v), (2, .int (nI i)), (3, .int (nI (ln a)))] [] n fl (fillM mem a v i) 0 0 := by
  intro k
  induction k with
  | zero => intro i _ h; omega
  | succ k ih =>
    intro i hi hk
    refine evc_iload_n (q := 6) ef_5 rfl 2 rfl rfl ?_
    refine evc_iload_n (q := 7) ef_6 rfl 3 rfl rfl ?_
    refine evc_icmp_ge (t := 20) (q := 10) ef_7 rfl rfl (fun hc => ?_) (fun hc => ?_)
    · have he : i = ln a := by
        have := (nI_leI hln (by omega)).mp hc
        omega
      subst he
      exact evc_vret ef_20 rfl rfl ⟨rfl, rfl, rfl⟩
    · have hl : i < ln a := by
        apply Nat.not_le.mp
        intro q
        exact hc ((nI_leI hln (by omega)).mpr q)
      refine evc_aload_n (q := 11) ef_10 rfl 0 rfl rfl ?_
      refine evc_iload_n (q := 12) ef_11 rfl 2 rfl rfl ?_
      refine evc_iload_n (q := 13) ef_12 rfl 1 rfl rfl ?_
      refine evc_iast (q := 14) ef_13 rfl ha hlt (vp_in_nI hl hln) ?_
      rw [nI_clamp (by omega), fillM_s]
      refine evc_iinc (q := 17) (lv2 := [(2, .int _), (0, .ref _), (1, .int _), (3, .int _)]) (v := nI (i + 1)) ef_14 2 rfl rfl (by rw [li_1]; exact nI_1 i) (Nat.le_of_ble_eq_true rfl) rfl ?_
      refine evc_goto (t := 5) ef_17 rfl ?_
      refine evc_sub (lv' := [(0, .ref _), (1, .int _), (2, .int _), (3, .int _)]) [1, 2, 0, 3] rfl ?_
      exact ih (i + 1) (by omega) (by omega)
set_option maxRecDepth 100000 in
theorem conC_fill (G : Gt) (base n : Nat) (fl : Nat → Nat → Bool) (mem : Mem) (a : Nat) (ha : kd a = 100) (hlt : a < n) (hln : ln a < 2 ^ 31) (v : Int32) : ConC G base yJ7_fill_53178 cJ7_fill_53178 4 1 0 0 [.ref (gA G a), .int v] n fl mem (fun n2 fl2 m2 => n2 = n ∧ fl2 = fl ∧ m2 = st1 mem a (fun j => if j < ln a then v else mem a j)) := by
  refine conC_of (ini := false) (by decide) (fun h => by cases h) (Nat.le_of_ble_eq_true rfl) ?_
  show EvC G base cJ7_fill_53178 4 RJ7 false 1 0 0 _ 0 [(0, .ref (gA G a)), (1, .int v)] [] n fl mem 0 0
  refine evc_iconst (q := 1) (v := 0) ef_0 rfl (by decide) ?_
  refine evc_istore_n (q := 2) (lv2 := [(2, .int 0), (0, .ref _), (1, .int _)]) ef_1 rfl rfl (Nat.le_of_ble_eq_true rfl) rfl ?_
  refine evc_aload_n (q := 3) ef_2 rfl 1 rfl rfl ?_
  refine evc_alen (q := 4) ef_3 rfl ha hlt ?_
  refine evc_istore_n (q := 5) (lv2 := [(3, .int _), (2, .int 0), (0, .ref _), (1, .int _)]) ef_4 rfl rfl (Nat.le_of_ble_eq_true rfl) rfl ?_
  refine evc_sub (lv' := [(0, .ref _), (1, .int _), (2, .int 0), (3, .int _)]) [2, 3, 1, 0] rfl ?_
  have h := fill_loop G base n fl mem a ha hlt hln v (ln a + 1) 0 (Nat.zero_le _) (by omega)
  rw [fillM_0, nI_0] at h
  exact h

theorem dX4_init_0 : decode cX4_init 0 = .ok (.aload_n 0, 1) := by decide +kernel
theorem dX4_init_1 : decode cX4_init 1 = .ok (.invokespecial 1, 3) := by decide +kernel
theorem dX4_init_4 : decode cX4_init 4 = .ok (.aload_n 0, 1) := by decide +kernel
theorem dX4_init_5 : decode cX4_init 5 = .ok (.bipush 8, 2) := by decide +kernel
theorem dX4_init_7 : decode cX4_init 7 = .ok (.newarray .int, 2) := by decide +kernel
theorem dX4_init_9 : decode cX4_init 9 = .ok (.putfield 9, 3) := by decide +kernel
theorem dX4_init_12 : decode cX4_init 12 = .ok (.aload_n 0, 1) := by decide +kernel
theorem dX4_init_13 : decode cX4_init 13 = .ok (.bipush 8, 2) := by decide +kernel
theorem dX4_init_15 : decode cX4_init 15 = .ok (.newarray .int, 2) := by decide +kernel
theorem dX4_init_17 : decode cX4_init 17 = .ok (.putfield 13, 3) := by decide +kernel
theorem dX4_init_20 : decode cX4_init 20 = .ok (.aload_n 0, 1) := by decide +kernel
theorem dX4_init_21 : decode cX4_init 21 = .ok (.sipush 320, 3) := by decide +kernel
theorem dX4_init_24 : decode cX4_init 24 = .ok (.newarray .int, 2) := by decide +kernel
theorem dX4_init_26 : decode cX4_init 26 = .ok (.putfield 16, 3) := by decide +kernel
theorem dX4_init_29 : decode cX4_init 29 = .ok (.aload_n 0, 1) := by decide +kernel
theorem dX4_init_30 : decode cX4_init 30 = .ok (.getfield 9, 3) := by decide +kernel
theorem dX4_init_33 : decode cX4_init 33 = .ok (.iconst (-1), 1) := by decide +kernel
theorem dX4_init_34 : decode cX4_init 34 = .ok (.invokestatic 19, 3) := by decide +kernel
theorem dX4_init_37 : decode cX4_init 37 = .ok (.return_, 1) := by decide +kernel
theorem dX5_init_0 : decode cX5_init 0 = .ok (.aload_n 0, 1) := by decide +kernel
theorem dX5_init_1 : decode cX5_init 1 = .ok (.invokespecial 3, 3) := by decide +kernel
theorem dX5_init_4 : decode cX5_init 4 = .ok (.aload_n 0, 1) := by decide +kernel
theorem dX5_init_5 : decode cX5_init 5 = .ok (.bipush 120, 2) := by decide +kernel
theorem dX5_init_7 : decode cX5_init 7 = .ok (.newarray .int, 2) := by decide +kernel
theorem dX5_init_9 : decode cX5_init 9 = .ok (.putfield 11, 3) := by decide +kernel
theorem dX5_init_12 : decode cX5_init 12 = .ok (.return_, 1) := by decide +kernel
theorem dX3_init_0 : decode cX3_init 0 = .ok (.aload_n 0, 1) := by decide +kernel
theorem dX3_init_1 : decode cX3_init 1 = .ok (.invokespecial 3, 3) := by decide +kernel
theorem dX3_init_4 : decode cX3_init 4 = .ok (.aload_n 0, 1) := by decide +kernel
theorem dX3_init_5 : decode cX3_init 5 = .ok (.bipush 6, 2) := by decide +kernel
theorem dX3_init_7 : decode cX3_init 7 = .ok (.newarray .int, 2) := by decide +kernel
theorem dX3_init_9 : decode cX3_init 9 = .ok (.putfield 9, 3) := by decide +kernel
theorem dX3_init_12 : decode cX3_init 12 = .ok (.aload_n 0, 1) := by decide +kernel
theorem dX3_init_13 : decode cX3_init 13 = .ok (.bipush 6, 2) := by decide +kernel
theorem dX3_init_15 : decode cX3_init 15 = .ok (.newarray .int, 2) := by decide +kernel
theorem dX3_init_17 : decode cX3_init 17 = .ok (.putfield 15, 3) := by decide +kernel
theorem dX3_init_20 : decode cX3_init 20 = .ok (.aload_n 0, 1) := by decide +kernel
theorem dX3_init_21 : decode cX3_init 21 = .ok (.bipush 6, 2) := by decide +kernel
theorem dX3_init_23 : decode cX3_init 23 = .ok (.newarray .int, 2) := by decide +kernel
theorem dX3_init_25 : decode cX3_init 25 = .ok (.putfield 18, 3) := by decide +kernel
theorem dX3_init_28 : decode cX3_init 28 = .ok (.aload_n 0, 1) := by decide +kernel
theorem dX3_init_29 : decode cX3_init 29 = .ok (.iconst 4, 1) := by decide +kernel
theorem dX3_init_30 : decode cX3_init 30 = .ok (.newarray .int, 2) := by decide +kernel
theorem dX3_init_32 : decode cX3_init 32 = .ok (.putfield 21, 3) := by decide +kernel
theorem dX3_init_35 : decode cX3_init 35 = .ok (.aload_n 0, 1) := by decide +kernel
theorem dX3_init_36 : decode cX3_init 36 = .ok (.iconst 4, 1) := by decide +kernel
theorem dX3_init_37 : decode cX3_init 37 = .ok (.newarray .int, 2) := by decide +kernel
theorem dX3_init_39 : decode cX3_init 39 = .ok (.putfield 24, 3) := by decide +kernel
theorem dX3_init_42 : decode cX3_init 42 = .ok (.aload_n 0, 1) := by decide +kernel
theorem dX3_init_43 : decode cX3_init 43 = .ok (.iconst 4, 1) := by decide +kernel
theorem dX3_init_44 : decode cX3_init 44 = .ok (.newarray .int, 2) := by decide +kernel
theorem dX3_init_46 : decode cX3_init 46 = .ok (.putfield 27, 3) := by decide +kernel
theorem dX3_init_49 : decode cX3_init 49 = .ok (.aload_n 0, 1) := by decide +kernel
theorem dX3_init_50 : decode cX3_init 50 = .ok (.iconst 4, 1) := by decide +kernel
theorem dX3_init_51 : decode cX3_init 51 = .ok (.newarray .int, 2) := by decide +kernel
theorem dX3_init_53 : decode cX3_init 53 = .ok (.putfield 30, 3) := by decide +kernel
theorem dX3_init_56 : decode cX3_init 56 = .ok (.aload_n 0, 1) := by decide +kernel
theorem dX3_init_57 : decode cX3_init 57 = .ok (.bipush 24, 2) := by decide +kernel
theorem dX3_init_59 : decode cX3_init 59 = .ok (.newarray .int, 2) := by decide +kernel
theorem dX3_init_61 : decode cX3_init 61 = .ok (.putfield 33, 3) := by decide +kernel
theorem dX3_init_64 : decode cX3_init 64 = .ok (.return_, 1) := by decide +kernel
theorem dX0_init_0 : decode cX0_init 0 = .ok (.aload_n 0, 1) := by decide +kernel
theorem dX0_init_1 : decode cX0_init 1 = .ok (.invokespecial 1, 3) := by decide +kernel
theorem dX0_init_4 : decode cX0_init 4 = .ok (.aload_n 0, 1) := by decide +kernel
theorem dX0_init_5 : decode cX0_init 5 = .ok (.bipush 24, 2) := by decide +kernel
theorem dX0_init_7 : decode cX0_init 7 = .ok (.newarray .int, 2) := by decide +kernel
theorem dX0_init_9 : decode cX0_init 9 = .ok (.putfield 9, 3) := by decide +kernel
theorem dX0_init_12 : decode cX0_init 12 = .ok (.aload_n 0, 1) := by decide +kernel
theorem dX0_init_13 : decode cX0_init 13 = .ok (.bipush 24, 2) := by decide +kernel
theorem dX0_init_15 : decode cX0_init 15 = .ok (.newarray .int, 2) := by decide +kernel
theorem dX0_init_17 : decode cX0_init 17 = .ok (.putfield 13, 3) := by decide +kernel
theorem dX0_init_20 : decode cX0_init 20 = .ok (.aload_n 0, 1) := by decide +kernel
theorem dX0_init_21 : decode cX0_init 21 = .ok (.bipush 24, 2) := by decide +kernel
theorem dX0_init_23 : decode cX0_init 23 = .ok (.newarray .int, 2) := by decide +kernel
theorem dX0_init_25 : decode cX0_init 25 = .ok (.putfield 16, 3) := by decide +kernel
theorem dX0_init_28 : decode cX0_init 28 = .ok (.aload_n 0, 1) := by decide +kernel
theorem dX0_init_29 : decode cX0_init 29 = .ok (.bipush 24, 2) := by decide +kernel
theorem dX0_init_31 : decode cX0_init 31 = .ok (.newarray .int, 2) := by decide +kernel
theorem dX0_init_33 : decode cX0_init 33 = .ok (.putfield 19, 3) := by decide +kernel
theorem dX0_init_36 : decode cX0_init 36 = .ok (.aload_n 0, 1) := by decide +kernel
theorem dX0_init_37 : decode cX0_init 37 = .ok (.bipush 24, 2) := by decide +kernel
theorem dX0_init_39 : decode cX0_init 39 = .ok (.newarray .int, 2) := by decide +kernel
theorem dX0_init_41 : decode cX0_init 41 = .ok (.putfield 22, 3) := by decide +kernel
theorem dX0_init_44 : decode cX0_init 44 = .ok (.aload_n 0, 1) := by decide +kernel
theorem dX0_init_45 : decode cX0_init 45 = .ok (.bipush 24, 2) := by decide +kernel
theorem dX0_init_47 : decode cX0_init 47 = .ok (.newarray .int, 2) := by decide +kernel
theorem dX0_init_49 : decode cX0_init 49 = .ok (.putfield 25, 3) := by decide +kernel
theorem dX0_init_52 : decode cX0_init 52 = .ok (.aload_n 0, 1) := by decide +kernel
theorem dX0_init_53 : decode cX0_init 53 = .ok (.bipush 24, 2) := by decide +kernel
theorem dX0_init_55 : decode cX0_init 55 = .ok (.newarray .int, 2) := by decide +kernel
theorem dX0_init_57 : decode cX0_init 57 = .ok (.putfield 28, 3) := by decide +kernel
theorem dX0_init_60 : decode cX0_init 60 = .ok (.return_, 1) := by decide +kernel
theorem dX2_init_0 : decode cX2_init 0 = .ok (.aload_n 0, 1) := by decide +kernel
theorem dX2_init_1 : decode cX2_init 1 = .ok (.invokespecial 3, 3) := by decide +kernel
theorem dX2_init_4 : decode cX2_init 4 = .ok (.aload_n 0, 1) := by decide +kernel
theorem dX2_init_5 : decode cX2_init 5 = .ok (.iconst 4, 1) := by decide +kernel
theorem dX2_init_6 : decode cX2_init 6 = .ok (.newarray .int, 2) := by decide +kernel
theorem dX2_init_8 : decode cX2_init 8 = .ok (.putfield 9, 3) := by decide +kernel
theorem dX2_init_11 : decode cX2_init 11 = .ok (.aload_n 0, 1) := by decide +kernel
theorem dX2_init_12 : decode cX2_init 12 = .ok (.bipush 6, 2) := by decide +kernel
theorem dX2_init_14 : decode cX2_init 14 = .ok (.newarray .int, 2) := by decide +kernel
theorem dX2_init_16 : decode cX2_init 16 = .ok (.putfield 15, 3) := by decide +kernel
theorem dX2_init_19 : decode cX2_init 19 = .ok (.aload_n 0, 1) := by decide +kernel
theorem dX2_init_20 : decode cX2_init 20 = .ok (.bipush 64, 2) := by decide +kernel
theorem dX2_init_22 : decode cX2_init 22 = .ok (.newarray .int, 2) := by decide +kernel
theorem dX2_init_24 : decode cX2_init 24 = .ok (.putfield 18, 3) := by decide +kernel
theorem dX2_init_27 : decode cX2_init 27 = .ok (.return_, 1) := by decide +kernel
theorem dX1_init_0 : decode cX1_init 0 = .ok (.aload_n 0, 1) := by decide +kernel
theorem dX1_init_1 : decode cX1_init 1 = .ok (.invokespecial 1, 3) := by decide +kernel
theorem dX1_init_4 : decode cX1_init 4 = .ok (.aload_n 0, 1) := by decide +kernel
theorem dX1_init_5 : decode cX1_init 5 = .ok (.bipush 16, 2) := by decide +kernel
theorem dX1_init_7 : decode cX1_init 7 = .ok (.newarray .int, 2) := by decide +kernel
theorem dX1_init_9 : decode cX1_init 9 = .ok (.putfield 9, 3) := by decide +kernel
theorem dX1_init_12 : decode cX1_init 12 = .ok (.return_, 1) := by decide +kernel
theorem dX7_init_0 : decode cX7_init 0 = .ok (.aload_n 0, 1) := by decide +kernel
theorem dX7_init_1 : decode cX7_init 1 = .ok (.invokespecial 1, 3) := by decide +kernel
theorem dX7_init_4 : decode cX7_init 4 = .ok (.aload_n 0, 1) := by decide +kernel
theorem dX7_init_5 : decode cX7_init 5 = .ok (.bipush 8, 2) := by decide +kernel
theorem dX7_init_7 : decode cX7_init 7 = .ok (.newarray .int, 2) := by decide +kernel
theorem dX7_init_9 : decode cX7_init 9 = .ok (.putfield 7, 3) := by decide +kernel
theorem dX7_init_12 : decode cX7_init 12 = .ok (.aload_n 0, 1) := by decide +kernel
theorem dX7_init_13 : decode cX7_init 13 = .ok (.bipush 8, 2) := by decide +kernel
theorem dX7_init_15 : decode cX7_init 15 = .ok (.newarray .int, 2) := by decide +kernel
theorem dX7_init_17 : decode cX7_init 17 = .ok (.putfield 13, 3) := by decide +kernel
theorem dX7_init_20 : decode cX7_init 20 = .ok (.aload_n 0, 1) := by decide +kernel
theorem dX7_init_21 : decode cX7_init 21 = .ok (.sipush 320, 3) := by decide +kernel
theorem dX7_init_24 : decode cX7_init 24 = .ok (.newarray .int, 2) := by decide +kernel
theorem dX7_init_26 : decode cX7_init 26 = .ok (.putfield 16, 3) := by decide +kernel
theorem dX7_init_29 : decode cX7_init 29 = .ok (.aload_n 0, 1) := by decide +kernel
theorem dX7_init_30 : decode cX7_init 30 = .ok (.bipush 40, 2) := by decide +kernel
theorem dX7_init_32 : decode cX7_init 32 = .ok (.newarray .int, 2) := by decide +kernel
theorem dX7_init_34 : decode cX7_init 34 = .ok (.putfield 19, 3) := by decide +kernel
theorem dX7_init_37 : decode cX7_init 37 = .ok (.aload_n 0, 1) := by decide +kernel
theorem dX7_init_38 : decode cX7_init 38 = .ok (.bipush 63, 2) := by decide +kernel
theorem dX7_init_40 : decode cX7_init 40 = .ok (.newarray .int, 2) := by decide +kernel
theorem dX7_init_42 : decode cX7_init 42 = .ok (.putfield 22, 3) := by decide +kernel
theorem dX7_init_45 : decode cX7_init 45 = .ok (.aload_n 0, 1) := by decide +kernel
theorem dX7_init_46 : decode cX7_init 46 = .ok (.bipush 120, 2) := by decide +kernel
theorem dX7_init_48 : decode cX7_init 48 = .ok (.newarray .int, 2) := by decide +kernel
theorem dX7_init_50 : decode cX7_init 50 = .ok (.putfield 25, 3) := by decide +kernel
theorem dX7_init_53 : decode cX7_init 53 = .ok (.aload_n 0, 1) := by decide +kernel
theorem dX7_init_54 : decode cX7_init 54 = .ok (.bipush 63, 2) := by decide +kernel
theorem dX7_init_56 : decode cX7_init 56 = .ok (.newarray .int, 2) := by decide +kernel
theorem dX7_init_58 : decode cX7_init 58 = .ok (.putfield 28, 3) := by decide +kernel
theorem dX7_init_61 : decode cX7_init 61 = .ok (.aload_n 0, 1) := by decide +kernel
theorem dX7_init_62 : decode cX7_init 62 = .ok (.sipush 1512, 3) := by decide +kernel
theorem dX7_init_65 : decode cX7_init 65 = .ok (.newarray .int, 2) := by decide +kernel
theorem dX7_init_67 : decode cX7_init 67 = .ok (.putfield 31, 3) := by decide +kernel
theorem dX7_init_70 : decode cX7_init 70 = .ok (.aload_n 0, 1) := by decide +kernel
theorem dX7_init_71 : decode cX7_init 71 = .ok (.bipush 6, 2) := by decide +kernel
theorem dX7_init_73 : decode cX7_init 73 = .ok (.newarray .int, 2) := by decide +kernel
theorem dX7_init_75 : decode cX7_init 75 = .ok (.putfield 34, 3) := by decide +kernel
theorem dX7_init_78 : decode cX7_init 78 = .ok (.aload_n 0, 1) := by decide +kernel
theorem dX7_init_79 : decode cX7_init 79 = .ok (.iconst 4, 1) := by decide +kernel
theorem dX7_init_80 : decode cX7_init 80 = .ok (.newarray .int, 2) := by decide +kernel
theorem dX7_init_82 : decode cX7_init 82 = .ok (.putfield 37, 3) := by decide +kernel
theorem dX7_init_85 : decode cX7_init 85 = .ok (.aload_n 0, 1) := by decide +kernel
theorem dX7_init_86 : decode cX7_init 86 = .ok (.bipush 64, 2) := by decide +kernel
theorem dX7_init_88 : decode cX7_init 88 = .ok (.newarray .int, 2) := by decide +kernel
theorem dX7_init_90 : decode cX7_init 90 = .ok (.putfield 40, 3) := by decide +kernel
theorem dX7_init_93 : decode cX7_init 93 = .ok (.aload_n 0, 1) := by decide +kernel
theorem dX7_init_94 : decode cX7_init 94 = .ok (.bipush 64, 2) := by decide +kernel
theorem dX7_init_96 : decode cX7_init 96 = .ok (.newarray .int, 2) := by decide +kernel
theorem dX7_init_98 : decode cX7_init 98 = .ok (.putfield 43, 3) := by decide +kernel
theorem dX7_init_101 : decode cX7_init 101 = .ok (.aload_n 0, 1) := by decide +kernel
theorem dX7_init_102 : decode cX7_init 102 = .ok (.bipush 126, 2) := by decide +kernel
theorem dX7_init_104 : decode cX7_init 104 = .ok (.newarray .int, 2) := by decide +kernel
theorem dX7_init_106 : decode cX7_init 106 = .ok (.putfield 46, 3) := by decide +kernel
theorem dX7_init_109 : decode cX7_init 109 = .ok (.aload_n 0, 1) := by decide +kernel
theorem dX7_init_110 : decode cX7_init 110 = .ok (.iconst 2, 1) := by decide +kernel
theorem dX7_init_111 : decode cX7_init 111 = .ok (.newarray .boolean, 2) := by decide +kernel
theorem dX7_init_113 : decode cX7_init 113 = .ok (.putfield 49, 3) := by decide +kernel
theorem dX7_init_116 : decode cX7_init 116 = .ok (.aload_n 0, 1) := by decide +kernel
theorem dX7_init_117 : decode cX7_init 117 = .ok (.bipush 16, 2) := by decide +kernel
theorem dX7_init_119 : decode cX7_init 119 = .ok (.newarray .int, 2) := by decide +kernel
theorem dX7_init_121 : decode cX7_init 121 = .ok (.putfield 53, 3) := by decide +kernel
theorem dX7_init_124 : decode cX7_init 124 = .ok (.iconst 0, 1) := by decide +kernel
theorem dX7_init_125 : decode cX7_init 125 = .ok (.istore_n 1, 1) := by decide +kernel
theorem dX7_init_126 : decode cX7_init 126 = .ok (.iload_n 1, 1) := by decide +kernel
theorem dX7_init_127 : decode cX7_init 127 = .ok (.bipush 8, 2) := by decide +kernel
theorem dX7_init_129 : decode cX7_init 129 = .ok (.if_icmp .ge 16, 3) := by decide +kernel
theorem dX7_init_132 : decode cX7_init 132 = .ok (.aload_n 0, 1) := by decide +kernel
theorem dX7_init_133 : decode cX7_init 133 = .ok (.getfield 13, 3) := by decide +kernel
theorem dX7_init_136 : decode cX7_init 136 = .ok (.iload_n 1, 1) := by decide +kernel
theorem dX7_init_137 : decode cX7_init 137 = .ok (.iconst (-1), 1) := by decide +kernel
theorem dX7_init_138 : decode cX7_init 138 = .ok (.iastore, 1) := by decide +kernel
theorem dX7_init_139 : decode cX7_init 139 = .ok (.iinc 1 1, 3) := by decide +kernel
theorem dX7_init_142 : decode cX7_init 142 = .ok (.goto (-16), 3) := by decide +kernel
theorem dX7_init_145 : decode cX7_init 145 = .ok (.return_, 1) := by decide +kernel
theorem dX6_init_0 : decode cX6_init 0 = .ok (.aload_n 0, 1) := by decide +kernel
theorem dX6_init_1 : decode cX6_init 1 = .ok (.invokespecial 1, 3) := by decide +kernel
theorem dX6_init_4 : decode cX6_init 4 = .ok (.aload_n 0, 1) := by decide +kernel
theorem dX6_init_5 : decode cX6_init 5 = .ok (.new 7, 3) := by decide +kernel
theorem dX6_init_8 : decode cX6_init 8 = .ok (.dup, 1) := by decide +kernel
theorem dX6_init_9 : decode cX6_init 9 = .ok (.invokespecial 9, 3) := by decide +kernel
theorem dX6_init_12 : decode cX6_init 12 = .ok (.putfield 10, 3) := by decide +kernel
theorem dX6_init_15 : decode cX6_init 15 = .ok (.aload_n 0, 1) := by decide +kernel
theorem dX6_init_16 : decode cX6_init 16 = .ok (.new 16, 3) := by decide +kernel
theorem dX6_init_19 : decode cX6_init 19 = .ok (.dup, 1) := by decide +kernel
theorem dX6_init_20 : decode cX6_init 20 = .ok (.invokespecial 18, 3) := by decide +kernel
theorem dX6_init_23 : decode cX6_init 23 = .ok (.putfield 19, 3) := by decide +kernel
theorem dX6_init_26 : decode cX6_init 26 = .ok (.aload_n 0, 1) := by decide +kernel
theorem dX6_init_27 : decode cX6_init 27 = .ok (.new 23, 3) := by decide +kernel
theorem dX6_init_30 : decode cX6_init 30 = .ok (.dup, 1) := by decide +kernel
theorem dX6_init_31 : decode cX6_init 31 = .ok (.invokespecial 25, 3) := by decide +kernel
theorem dX6_init_34 : decode cX6_init 34 = .ok (.putfield 26, 3) := by decide +kernel
theorem dX6_init_37 : decode cX6_init 37 = .ok (.aload_n 0, 1) := by decide +kernel
theorem dX6_init_38 : decode cX6_init 38 = .ok (.new 23, 3) := by decide +kernel
theorem dX6_init_41 : decode cX6_init 41 = .ok (.dup, 1) := by decide +kernel
theorem dX6_init_42 : decode cX6_init 42 = .ok (.invokespecial 25, 3) := by decide +kernel
theorem dX6_init_45 : decode cX6_init 45 = .ok (.putfield 30, 3) := by decide +kernel
theorem dX6_init_48 : decode cX6_init 48 = .ok (.aload_n 0, 1) := by decide +kernel
theorem dX6_init_49 : decode cX6_init 49 = .ok (.new 23, 3) := by decide +kernel
theorem dX6_init_52 : decode cX6_init 52 = .ok (.dup, 1) := by decide +kernel
theorem dX6_init_53 : decode cX6_init 53 = .ok (.invokespecial 25, 3) := by decide +kernel
theorem dX6_init_56 : decode cX6_init 56 = .ok (.putfield 33, 3) := by decide +kernel
theorem dX6_init_59 : decode cX6_init 59 = .ok (.aload_n 0, 1) := by decide +kernel
theorem dX6_init_60 : decode cX6_init 60 = .ok (.new 23, 3) := by decide +kernel
theorem dX6_init_63 : decode cX6_init 63 = .ok (.dup, 1) := by decide +kernel
theorem dX6_init_64 : decode cX6_init 64 = .ok (.invokespecial 25, 3) := by decide +kernel
theorem dX6_init_67 : decode cX6_init 67 = .ok (.putfield 36, 3) := by decide +kernel
theorem dX6_init_70 : decode cX6_init 70 = .ok (.aload_n 0, 1) := by decide +kernel
theorem dX6_init_71 : decode cX6_init 71 = .ok (.new 39, 3) := by decide +kernel
theorem dX6_init_74 : decode cX6_init 74 = .ok (.dup, 1) := by decide +kernel
theorem dX6_init_75 : decode cX6_init 75 = .ok (.invokespecial 41, 3) := by decide +kernel
theorem dX6_init_78 : decode cX6_init 78 = .ok (.putfield 42, 3) := by decide +kernel
theorem dX6_init_81 : decode cX6_init 81 = .ok (.aload_n 0, 1) := by decide +kernel
theorem dX6_init_82 : decode cX6_init 82 = .ok (.new 46, 3) := by decide +kernel
theorem dX6_init_85 : decode cX6_init 85 = .ok (.dup, 1) := by decide +kernel
theorem dX6_init_86 : decode cX6_init 86 = .ok (.invokespecial 48, 3) := by decide +kernel
theorem dX6_init_89 : decode cX6_init 89 = .ok (.putfield 49, 3) := by decide +kernel
theorem dX6_init_92 : decode cX6_init 92 = .ok (.aload_n 0, 1) := by decide +kernel
theorem dX6_init_93 : decode cX6_init 93 = .ok (.new 53, 3) := by decide +kernel
theorem dX6_init_96 : decode cX6_init 96 = .ok (.dup, 1) := by decide +kernel
theorem dX6_init_97 : decode cX6_init 97 = .ok (.invokespecial 55, 3) := by decide +kernel
theorem dX6_init_100 : decode cX6_init 100 = .ok (.putfield 56, 3) := by decide +kernel
theorem dX6_init_103 : decode cX6_init 103 = .ok (.return_, 1) := by decide +kernel
set_option maxRecDepth 100000 in
set_option maxHeartbeats 4000000 in
theorem conC_X4 (G : Gt) (base k : Nat) (hk : kd k = 4) (fl : Nat → Nat → Bool) (mem : Mem) : ConC G base yX4_init cX4_init 1 2 3 336 [.ref (gA G k)] (k + 1) fl mem (fun n2 fl2 mem2 => n2 = k + 4 ∧ fl2 = flA fl k (k + 4) ∧ mem2 = st1 mem (k + 1) (fun j => if j < 8 then (-1) else mem (k + 1) j)) := by
  have hk1 := sf_4_hk1 hk
  have hn1 := sf_4_hn1 hk
  have hk2 := sf_4_hk2 hk
  have hn2 := sf_4_hn2 hk
  have hk3 := sf_4_hk3 hk
  have hn3 := sf_4_hn3 hk
  have hr0 := sf_4_hr0 hk
  have hr1 := sf_4_hr1 hk
  have hr2 := sf_4_hr2 hk
  refine conC_of (ini := true) (by decide) (fun _ => rfl) (Nat.le_of_ble_eq_true rfl) ?_
  show EvC G base cX4_init 1 RX4 true 2 3 336 _ 0 [(0, .ref (gA G k))] [] (k + 1) fl mem 0 0
  refine evc_aload_n (q := 1) dX4_init_0 rfl 0 rfl rfl ?_
  refine evc_objInit (q := 4) dX4_init_1 rfl (AW_t (tb_1 (i := 25) rfl) rfl) oi_i oi_c (Nat.le_of_ble_eq_true rfl) rfl ?_
  refine evc_aload_n (q := 5) dX4_init_4 rfl 0 rfl rfl ?_
  refine evc_bipush (q := 7) (v := 8) dX4_init_5 rfl (by decide) ?_
  refine evc_newa (q := 9) (nn := k + 2) (ty := .int) (kdn := 100) (N := 8) dX4_init_7 rfl rfl rfl arr_i (Or.inl ⟨rfl, rfl⟩) hk1 hn1 (by decide) (by decide) (Nat.le_of_ble_eq_true rfl) (Nat.le_of_ble_eq_true rfl) (Nat.le_of_ble_eq_true rfl) ?_
  refine evc_putR (q := 12) (ci := 4) (j := 0) (T := TX4) (ty := .array .int) dX4_init_9 rfl rfl cf_4 hk (by decide) (by decide) (by omega) hr0 (AW_t (tb_1 (i := 29) rfl) rfl) rfl rfl rfl (by decide +kernel) (fun _ => rfl) (fun _ => rfl) ?_
  refine evc_aload_n (q := 13) dX4_init_12 rfl 0 rfl rfl ?_
  refine evc_bipush (q := 15) (v := 8) dX4_init_13 rfl (by decide) ?_
  refine evc_newa (q := 17) (nn := k + 3) (ty := .int) (kdn := 100) (N := 8) dX4_init_15 rfl rfl rfl arr_i (Or.inl ⟨rfl, rfl⟩) hk2 hn2 (by decide) (by decide) (Nat.le_of_ble_eq_true rfl) (Nat.le_of_ble_eq_true rfl) (Nat.le_of_ble_eq_true rfl) ?_
  refine evc_putR (q := 20) (ci := 4) (j := 1) (T := TX4) (ty := .array .int) dX4_init_17 rfl rfl cf_4 hk (by decide) (by decide) (by omega) hr1 (AW_t (tb_1 (i := 30) rfl) rfl) rfl rfl rfl (by decide +kernel) (fun _ => rfl) (fun _ => rfl) ?_
  refine evc_aload_n (q := 21) dX4_init_20 rfl 0 rfl rfl ?_
  refine evc_sipush (q := 24) (v := 320) dX4_init_21 rfl (by decide) ?_
  refine evc_newa (q := 26) (nn := k + 4) (ty := .int) (kdn := 100) (N := 320) dX4_init_24 rfl rfl rfl arr_i (Or.inl ⟨rfl, rfl⟩) hk3 hn3 (by decide) (by decide) (Nat.le_of_ble_eq_true rfl) (Nat.le_of_ble_eq_true rfl) (Nat.le_of_ble_eq_true rfl) ?_
  refine evc_putR (q := 29) (ci := 4) (j := 2) (T := TX4) (ty := .array .int) dX4_init_26 rfl rfl cf_4 hk (by decide) (by decide) (by omega) hr2 (AW_t (tb_1 (i := 31) rfl) rfl) rfl rfl rfl (by decide +kernel) (fun _ => rfl) (fun _ => rfl) ?_
  refine evc_aload_n (q := 30) dX4_init_29 rfl 0 rfl rfl ?_
  refine evc_getR (q := 33) (ci := 4) (j := 0) (T := TX4) dX4_init_30 rfl cf_4 hk (by decide) (by decide) (by omega) hr0 (AW_t (tb_1 (i := 29) rfl) rfl) rfl (by simp [fl1, flA]) ?_
  refine evc_iconst (q := 34) (v := (-1)) dX4_init_33 rfl (by decide) ?_
  refine evc_callS (q := 37) dX4_init_34 rfl ml_X4_19 mt_J7_fill_53178 (conC_fill G base _ _ _ (k + 1) hk1 (by omega) (by rw [hn1]; decide) _) rfl (Nat.le_of_ble_eq_true rfl) (Nat.le_of_ble_eq_true rfl) rfl (Nat.le_of_ble_eq_true rfl) (Nat.le_of_ble_eq_true rfl) (Nat.le_of_ble_eq_true rfl) (fun n2 fl2 mem2 hQ => ?_)
  obtain ⟨rfl, rfl, rfl⟩ := hQ
  rw [hn1]
  refine evc_congr (fl' := flA fl k (k + 4)) (fun a ha h100 j hj hir => ?_) ?_
  · by_cases hak : a = k
    · subst hak
      rw [hk] at hj hir
      have hj2 := (show ∀ j, j < nf 4 → ir 4 j = true → (j = 0 ∨ j = 1 ∨ j = 2) by decide) j hj hir
      rcases hj2 with rfl | rfl | rfl <;> simp [fl1, flA, ha]
    · by_cases hin : k ≤ a ∧ a < k + 4
      · exfalso
        obtain ⟨g1, g2⟩ := gap_n hak hin (g := 3) rfl
        have h9 := sf_4_A hk (a - (k + 1)) g1
        rw [g2] at h9
        exact absurd h100 (Nat.not_lt.mpr h9)
      · simp only [fl1, if_neg hak, flA, if_neg hin]
  exact evc_vret dX4_init_37 rfl rfl ⟨rfl, rfl, rfl⟩
set_option maxRecDepth 100000 in
set_option maxHeartbeats 4000000 in
theorem conC_X5 (G : Gt) (base k : Nat) (hk : kd k = 5) (fl : Nat → Nat → Bool) (mem : Mem) : ConC G base yX5_init cX5_init 1 1 1 120 [.ref (gA G k)] (k + 1) fl mem (fun n2 fl2 mem2 => n2 = k + 2 ∧ fl2 = flA fl k (k + 2) ∧ mem2 = mem) := by
  have hk1 := sf_5_hk1 hk
  have hn1 := sf_5_hn1 hk
  have hr0 := sf_5_hr0 hk
  refine conC_of (ini := true) (by decide) (fun _ => rfl) (Nat.le_of_ble_eq_true rfl) ?_
  show EvC G base cX5_init 1 RX5 true 1 1 120 _ 0 [(0, .ref (gA G k))] [] (k + 1) fl mem 0 0
  refine evc_aload_n (q := 1) dX5_init_0 rfl 0 rfl rfl ?_
  refine evc_objInit (q := 4) dX5_init_1 rfl (AW_t (tb_1 (i := 45) rfl) rfl) oi_i oi_c (Nat.le_of_ble_eq_true rfl) rfl ?_
  refine evc_aload_n (q := 5) dX5_init_4 rfl 0 rfl rfl ?_
  refine evc_bipush (q := 7) (v := 120) dX5_init_5 rfl (by decide) ?_
  refine evc_newa (q := 9) (nn := k + 2) (ty := .int) (kdn := 100) (N := 120) dX5_init_7 rfl rfl rfl arr_i (Or.inl ⟨rfl, rfl⟩) hk1 hn1 (by decide) (by decide) (Nat.le_of_ble_eq_true rfl) (Nat.le_of_ble_eq_true rfl) (Nat.le_of_ble_eq_true rfl) ?_
  refine evc_putR (q := 12) (ci := 5) (j := 0) (T := TX5) (ty := .array .int) dX5_init_9 rfl rfl cf_5 hk (by decide) (by decide) (by omega) hr0 (AW_t (tb_1 (i := 46) rfl) rfl) rfl rfl rfl (by decide +kernel) (fun _ => rfl) (fun _ => rfl) ?_
  refine evc_congr (fl' := flA fl k (k + 2)) (fun a ha h100 j hj hir => ?_) ?_
  · by_cases hak : a = k
    · subst hak
      rw [hk] at hj hir
      have hj2 := (show ∀ j, j < nf 5 → ir 5 j = true → (j = 0) by decide) j hj hir
      rcases hj2 with rfl <;> simp [fl1, flA, ha]
    · by_cases hin : k ≤ a ∧ a < k + 2
      · exfalso
        obtain ⟨g1, g2⟩ := gap_n hak hin (g := 1) rfl
        have h9 := sf_5_A hk (a - (k + 1)) g1
        rw [g2] at h9
        exact absurd h100 (Nat.not_lt.mpr h9)
      · simp only [fl1, if_neg hak, flA, if_neg hin]
  exact evc_vret dX5_init_12 rfl rfl ⟨rfl, rfl, rfl⟩
set_option maxRecDepth 100000 in
set_option maxHeartbeats 4000000 in
theorem conC_X3 (G : Gt) (base k : Nat) (hk : kd k = 3) (fl : Nat → Nat → Bool) (mem : Mem) : ConC G base yX3_init cX3_init 1 1 8 58 [.ref (gA G k)] (k + 1) fl mem (fun n2 fl2 mem2 => n2 = k + 9 ∧ fl2 = flA fl k (k + 9) ∧ mem2 = mem) := by
  have hk1 := sf_3_hk1 hk
  have hn1 := sf_3_hn1 hk
  have hk2 := sf_3_hk2 hk
  have hn2 := sf_3_hn2 hk
  have hk3 := sf_3_hk3 hk
  have hn3 := sf_3_hn3 hk
  have hk4 := sf_3_hk4 hk
  have hn4 := sf_3_hn4 hk
  have hk5 := sf_3_hk5 hk
  have hn5 := sf_3_hn5 hk
  have hk6 := sf_3_hk6 hk
  have hn6 := sf_3_hn6 hk
  have hk7 := sf_3_hk7 hk
  have hn7 := sf_3_hn7 hk
  have hk8 := sf_3_hk8 hk
  have hn8 := sf_3_hn8 hk
  have hr4 := sf_3_hr4 hk
  have hr5 := sf_3_hr5 hk
  have hr6 := sf_3_hr6 hk
  have hr8 := sf_3_hr8 hk
  have hr9 := sf_3_hr9 hk
  have hr10 := sf_3_hr10 hk
  have hr11 := sf_3_hr11 hk
  have hr12 := sf_3_hr12 hk
  refine conC_of (ini := true) (by decide) (fun _ => rfl) (Nat.le_of_ble_eq_true rfl) ?_
  show EvC G base cX3_init 1 RX3 true 1 8 58 _ 0 [(0, .ref (gA G k))] [] (k + 1) fl mem 0 0
  refine evc_aload_n (q := 1) dX3_init_0 rfl 0 rfl rfl ?_
  refine evc_objInit (q := 4) dX3_init_1 rfl (AW_t (tb_1 (i := 66) rfl) rfl) oi_i oi_c (Nat.le_of_ble_eq_true rfl) rfl ?_
  refine evc_aload_n (q := 5) dX3_init_4 rfl 0 rfl rfl ?_
  refine evc_bipush (q := 7) (v := 6) dX3_init_5 rfl (by decide) ?_
  refine evc_newa (q := 9) (nn := k + 2) (ty := .int) (kdn := 100) (N := 6) dX3_init_7 rfl rfl rfl arr_i (Or.inl ⟨rfl, rfl⟩) hk1 hn1 (by decide) (by decide) (Nat.le_of_ble_eq_true rfl) (Nat.le_of_ble_eq_true rfl) (Nat.le_of_ble_eq_true rfl) ?_
  refine evc_putR (q := 12) (ci := 3) (j := 4) (T := TX3) (ty := .array .int) dX3_init_9 rfl rfl cf_3 hk (by decide) (by decide) (by omega) hr4 (AW_t (tb_1 (i := 79) rfl) rfl) rfl rfl rfl (by decide +kernel) (fun _ => rfl) (fun _ => rfl) ?_
  refine evc_aload_n (q := 13) dX3_init_12 rfl 0 rfl rfl ?_
  refine evc_bipush (q := 15) (v := 6) dX3_init_13 rfl (by decide) ?_
  refine evc_newa (q := 17) (nn := k + 3) (ty := .int) (kdn := 100) (N := 6) dX3_init_15 rfl rfl rfl arr_i (Or.inl ⟨rfl, rfl⟩) hk2 hn2 (by decide) (by decide) (Nat.le_of_ble_eq_true rfl) (Nat.le_of_ble_eq_true rfl) (Nat.le_of_ble_eq_true rfl) ?_
  refine evc_putR (q := 20) (ci := 3) (j := 5) (T := TX3) (ty := .array .int) dX3_init_17 rfl rfl cf_3 hk (by decide) (by decide) (by omega) hr5 (AW_t (tb_1 (i := 82) rfl) rfl) rfl rfl rfl (by decide +kernel) (fun _ => rfl) (fun _ => rfl) ?_
  refine evc_aload_n (q := 21) dX3_init_20 rfl 0 rfl rfl ?_
  refine evc_bipush (q := 23) (v := 6) dX3_init_21 rfl (by decide) ?_
  refine evc_newa (q := 25) (nn := k + 4) (ty := .int) (kdn := 100) (N := 6) dX3_init_23 rfl rfl rfl arr_i (Or.inl ⟨rfl, rfl⟩) hk3 hn3 (by decide) (by decide) (Nat.le_of_ble_eq_true rfl) (Nat.le_of_ble_eq_true rfl) (Nat.le_of_ble_eq_true rfl) ?_
  refine evc_putR (q := 28) (ci := 3) (j := 6) (T := TX3) (ty := .array .int) dX3_init_25 rfl rfl cf_3 hk (by decide) (by decide) (by omega) hr6 (AW_t (tb_1 (i := 87) rfl) rfl) rfl rfl rfl (by decide +kernel) (fun _ => rfl) (fun _ => rfl) ?_
  refine evc_aload_n (q := 29) dX3_init_28 rfl 0 rfl rfl ?_
  refine evc_iconst (q := 30) (v := 4) dX3_init_29 rfl (by decide) ?_
  refine evc_newa (q := 32) (nn := k + 5) (ty := .int) (kdn := 100) (N := 4) dX3_init_30 rfl rfl rfl arr_i (Or.inl ⟨rfl, rfl⟩) hk4 hn4 (by decide) (by decide) (Nat.le_of_ble_eq_true rfl) (Nat.le_of_ble_eq_true rfl) (Nat.le_of_ble_eq_true rfl) ?_
  refine evc_putR (q := 35) (ci := 3) (j := 8) (T := TX3) (ty := .array .int) dX3_init_32 rfl rfl cf_3 hk (by decide) (by decide) (by omega) hr8 (AW_t (tb_1 (i := 94) rfl) rfl) rfl rfl rfl (by decide +kernel) (fun _ => rfl) (fun _ => rfl) ?_
  refine evc_aload_n (q := 36) dX3_init_35 rfl 0 rfl rfl ?_
  refine evc_iconst (q := 37) (v := 4) dX3_init_36 rfl (by decide) ?_
  refine evc_newa (q := 39) (nn := k + 6) (ty := .int) (kdn := 100) (N := 4) dX3_init_37 rfl rfl rfl arr_i (Or.inl ⟨rfl, rfl⟩) hk5 hn5 (by decide) (by decide) (Nat.le_of_ble_eq_true rfl) (Nat.le_of_ble_eq_true rfl) (Nat.le_of_ble_eq_true rfl) ?_
  refine evc_putR (q := 42) (ci := 3) (j := 9) (T := TX3) (ty := .array .int) dX3_init_39 rfl rfl cf_3 hk (by decide) (by decide) (by omega) hr9 (AW_t (tb_1 (i := 96) rfl) rfl) rfl rfl rfl (by decide +kernel) (fun _ => rfl) (fun _ => rfl) ?_
  refine evc_aload_n (q := 43) dX3_init_42 rfl 0 rfl rfl ?_
  refine evc_iconst (q := 44) (v := 4) dX3_init_43 rfl (by decide) ?_
  refine evc_newa (q := 46) (nn := k + 7) (ty := .int) (kdn := 100) (N := 4) dX3_init_44 rfl rfl rfl arr_i (Or.inl ⟨rfl, rfl⟩) hk6 hn6 (by decide) (by decide) (Nat.le_of_ble_eq_true rfl) (Nat.le_of_ble_eq_true rfl) (Nat.le_of_ble_eq_true rfl) ?_
  refine evc_putR (q := 49) (ci := 3) (j := 10) (T := TX3) (ty := .array .int) dX3_init_46 rfl rfl cf_3 hk (by decide) (by decide) (by omega) hr10 (AW_t (tb_1 (i := 100) rfl) rfl) rfl rfl rfl (by decide +kernel) (fun _ => rfl) (fun _ => rfl) ?_
  refine evc_aload_n (q := 50) dX3_init_49 rfl 0 rfl rfl ?_
  refine evc_iconst (q := 51) (v := 4) dX3_init_50 rfl (by decide) ?_
  refine evc_newa (q := 53) (nn := k + 8) (ty := .int) (kdn := 100) (N := 4) dX3_init_51 rfl rfl rfl arr_i (Or.inl ⟨rfl, rfl⟩) hk7 hn7 (by decide) (by decide) (Nat.le_of_ble_eq_true rfl) (Nat.le_of_ble_eq_true rfl) (Nat.le_of_ble_eq_true rfl) ?_
  refine evc_putR (q := 56) (ci := 3) (j := 11) (T := TX3) (ty := .array .int) dX3_init_53 rfl rfl cf_3 hk (by decide) (by decide) (by omega) hr11 (AW_t (tb_1 (i := 103) rfl) rfl) rfl rfl rfl (by decide +kernel) (fun _ => rfl) (fun _ => rfl) ?_
  refine evc_aload_n (q := 57) dX3_init_56 rfl 0 rfl rfl ?_
  refine evc_bipush (q := 59) (v := 24) dX3_init_57 rfl (by decide) ?_
  refine evc_newa (q := 61) (nn := k + 9) (ty := .int) (kdn := 100) (N := 24) dX3_init_59 rfl rfl rfl arr_i (Or.inl ⟨rfl, rfl⟩) hk8 hn8 (by decide) (by decide) (Nat.le_of_ble_eq_true rfl) (Nat.le_of_ble_eq_true rfl) (Nat.le_of_ble_eq_true rfl) ?_
  refine evc_putR (q := 64) (ci := 3) (j := 12) (T := TX3) (ty := .array .int) dX3_init_61 rfl rfl cf_3 hk (by decide) (by decide) (by omega) hr12 (AW_t (tb_1 (i := 106) rfl) rfl) rfl rfl rfl (by decide +kernel) (fun _ => rfl) (fun _ => rfl) ?_
  refine evc_congr (fl' := flA fl k (k + 9)) (fun a ha h100 j hj hir => ?_) ?_
  · by_cases hak : a = k
    · subst hak
      rw [hk] at hj hir
      have hj2 := (show ∀ j, j < nf 3 → ir 3 j = true → (j = 4 ∨ j = 5 ∨ j = 6 ∨ j = 8 ∨ j = 9 ∨ j = 10 ∨ j = 11 ∨ j = 12) by decide) j hj hir
      rcases hj2 with rfl | rfl | rfl | rfl | rfl | rfl | rfl | rfl <;> simp [fl1, flA, ha]
    · by_cases hin : k ≤ a ∧ a < k + 9
      · exfalso
        obtain ⟨g1, g2⟩ := gap_n hak hin (g := 8) rfl
        have h9 := sf_3_A hk (a - (k + 1)) g1
        rw [g2] at h9
        exact absurd h100 (Nat.not_lt.mpr h9)
      · simp only [fl1, if_neg hak, flA, if_neg hin]
  exact evc_vret dX3_init_64 rfl rfl ⟨rfl, rfl, rfl⟩
set_option maxRecDepth 100000 in
set_option maxHeartbeats 4000000 in
theorem conC_X0 (G : Gt) (base k : Nat) (hk : kd k = 0) (fl : Nat → Nat → Bool) (mem : Mem) : ConC G base yX0_init cX0_init 1 1 7 168 [.ref (gA G k)] (k + 1) fl mem (fun n2 fl2 mem2 => n2 = k + 8 ∧ fl2 = flA fl k (k + 8) ∧ mem2 = mem) := by
  have hk1 := sf_0_hk1 hk
  have hn1 := sf_0_hn1 hk
  have hk2 := sf_0_hk2 hk
  have hn2 := sf_0_hn2 hk
  have hk3 := sf_0_hk3 hk
  have hn3 := sf_0_hn3 hk
  have hk4 := sf_0_hk4 hk
  have hn4 := sf_0_hn4 hk
  have hk5 := sf_0_hk5 hk
  have hn5 := sf_0_hn5 hk
  have hk6 := sf_0_hk6 hk
  have hn6 := sf_0_hn6 hk
  have hk7 := sf_0_hk7 hk
  have hn7 := sf_0_hn7 hk
  have hr0 := sf_0_hr0 hk
  have hr1 := sf_0_hr1 hk
  have hr2 := sf_0_hr2 hk
  have hr3 := sf_0_hr3 hk
  have hr4 := sf_0_hr4 hk
  have hr5 := sf_0_hr5 hk
  have hr6 := sf_0_hr6 hk
  refine conC_of (ini := true) (by decide) (fun _ => rfl) (Nat.le_of_ble_eq_true rfl) ?_
  show EvC G base cX0_init 1 RX0 true 1 7 168 _ 0 [(0, .ref (gA G k))] [] (k + 1) fl mem 0 0
  refine evc_aload_n (q := 1) dX0_init_0 rfl 0 rfl rfl ?_
  refine evc_objInit (q := 4) dX0_init_1 rfl (AW_t (tb_1 (i := 139) rfl) rfl) oi_i oi_c (Nat.le_of_ble_eq_true rfl) rfl ?_
  refine evc_aload_n (q := 5) dX0_init_4 rfl 0 rfl rfl ?_
  refine evc_bipush (q := 7) (v := 24) dX0_init_5 rfl (by decide) ?_
  refine evc_newa (q := 9) (nn := k + 2) (ty := .int) (kdn := 100) (N := 24) dX0_init_7 rfl rfl rfl arr_i (Or.inl ⟨rfl, rfl⟩) hk1 hn1 (by decide) (by decide) (Nat.le_of_ble_eq_true rfl) (Nat.le_of_ble_eq_true rfl) (Nat.le_of_ble_eq_true rfl) ?_
  refine evc_putR (q := 12) (ci := 0) (j := 0) (T := TX0) (ty := .array .int) dX0_init_9 rfl rfl cf_0 hk (by decide) (by decide) (by omega) hr0 (AW_t (tb_1 (i := 140) rfl) rfl) rfl rfl rfl (by decide +kernel) (fun _ => rfl) (fun _ => rfl) ?_
  refine evc_aload_n (q := 13) dX0_init_12 rfl 0 rfl rfl ?_
  refine evc_bipush (q := 15) (v := 24) dX0_init_13 rfl (by decide) ?_
  refine evc_newa (q := 17) (nn := k + 3) (ty := .int) (kdn := 100) (N := 24) dX0_init_15 rfl rfl rfl arr_i (Or.inl ⟨rfl, rfl⟩) hk2 hn2 (by decide) (by decide) (Nat.le_of_ble_eq_true rfl) (Nat.le_of_ble_eq_true rfl) (Nat.le_of_ble_eq_true rfl) ?_
  refine evc_putR (q := 20) (ci := 0) (j := 1) (T := TX0) (ty := .array .int) dX0_init_17 rfl rfl cf_0 hk (by decide) (by decide) (by omega) hr1 (AW_t (tb_1 (i := 141) rfl) rfl) rfl rfl rfl (by decide +kernel) (fun _ => rfl) (fun _ => rfl) ?_
  refine evc_aload_n (q := 21) dX0_init_20 rfl 0 rfl rfl ?_
  refine evc_bipush (q := 23) (v := 24) dX0_init_21 rfl (by decide) ?_
  refine evc_newa (q := 25) (nn := k + 4) (ty := .int) (kdn := 100) (N := 24) dX0_init_23 rfl rfl rfl arr_i (Or.inl ⟨rfl, rfl⟩) hk3 hn3 (by decide) (by decide) (Nat.le_of_ble_eq_true rfl) (Nat.le_of_ble_eq_true rfl) (Nat.le_of_ble_eq_true rfl) ?_
  refine evc_putR (q := 28) (ci := 0) (j := 2) (T := TX0) (ty := .array .int) dX0_init_25 rfl rfl cf_0 hk (by decide) (by decide) (by omega) hr2 (AW_t (tb_1 (i := 142) rfl) rfl) rfl rfl rfl (by decide +kernel) (fun _ => rfl) (fun _ => rfl) ?_
  refine evc_aload_n (q := 29) dX0_init_28 rfl 0 rfl rfl ?_
  refine evc_bipush (q := 31) (v := 24) dX0_init_29 rfl (by decide) ?_
  refine evc_newa (q := 33) (nn := k + 5) (ty := .int) (kdn := 100) (N := 24) dX0_init_31 rfl rfl rfl arr_i (Or.inl ⟨rfl, rfl⟩) hk4 hn4 (by decide) (by decide) (Nat.le_of_ble_eq_true rfl) (Nat.le_of_ble_eq_true rfl) (Nat.le_of_ble_eq_true rfl) ?_
  refine evc_putR (q := 36) (ci := 0) (j := 3) (T := TX0) (ty := .array .int) dX0_init_33 rfl rfl cf_0 hk (by decide) (by decide) (by omega) hr3 (AW_t (tb_1 (i := 143) rfl) rfl) rfl rfl rfl (by decide +kernel) (fun _ => rfl) (fun _ => rfl) ?_
  refine evc_aload_n (q := 37) dX0_init_36 rfl 0 rfl rfl ?_
  refine evc_bipush (q := 39) (v := 24) dX0_init_37 rfl (by decide) ?_
  refine evc_newa (q := 41) (nn := k + 6) (ty := .int) (kdn := 100) (N := 24) dX0_init_39 rfl rfl rfl arr_i (Or.inl ⟨rfl, rfl⟩) hk5 hn5 (by decide) (by decide) (Nat.le_of_ble_eq_true rfl) (Nat.le_of_ble_eq_true rfl) (Nat.le_of_ble_eq_true rfl) ?_
  refine evc_putR (q := 44) (ci := 0) (j := 4) (T := TX0) (ty := .array .int) dX0_init_41 rfl rfl cf_0 hk (by decide) (by decide) (by omega) hr4 (AW_t (tb_1 (i := 144) rfl) rfl) rfl rfl rfl (by decide +kernel) (fun _ => rfl) (fun _ => rfl) ?_
  refine evc_aload_n (q := 45) dX0_init_44 rfl 0 rfl rfl ?_
  refine evc_bipush (q := 47) (v := 24) dX0_init_45 rfl (by decide) ?_
  refine evc_newa (q := 49) (nn := k + 7) (ty := .int) (kdn := 100) (N := 24) dX0_init_47 rfl rfl rfl arr_i (Or.inl ⟨rfl, rfl⟩) hk6 hn6 (by decide) (by decide) (Nat.le_of_ble_eq_true rfl) (Nat.le_of_ble_eq_true rfl) (Nat.le_of_ble_eq_true rfl) ?_
  refine evc_putR (q := 52) (ci := 0) (j := 5) (T := TX0) (ty := .array .int) dX0_init_49 rfl rfl cf_0 hk (by decide) (by decide) (by omega) hr5 (AW_t (tb_1 (i := 145) rfl) rfl) rfl rfl rfl (by decide +kernel) (fun _ => rfl) (fun _ => rfl) ?_
  refine evc_aload_n (q := 53) dX0_init_52 rfl 0 rfl rfl ?_
  refine evc_bipush (q := 55) (v := 24) dX0_init_53 rfl (by decide) ?_
  refine evc_newa (q := 57) (nn := k + 8) (ty := .int) (kdn := 100) (N := 24) dX0_init_55 rfl rfl rfl arr_i (Or.inl ⟨rfl, rfl⟩) hk7 hn7 (by decide) (by decide) (Nat.le_of_ble_eq_true rfl) (Nat.le_of_ble_eq_true rfl) (Nat.le_of_ble_eq_true rfl) ?_
  refine evc_putR (q := 60) (ci := 0) (j := 6) (T := TX0) (ty := .array .int) dX0_init_57 rfl rfl cf_0 hk (by decide) (by decide) (by omega) hr6 (AW_t (tb_1 (i := 146) rfl) rfl) rfl rfl rfl (by decide +kernel) (fun _ => rfl) (fun _ => rfl) ?_
  refine evc_congr (fl' := flA fl k (k + 8)) (fun a ha h100 j hj hir => ?_) ?_
  · by_cases hak : a = k
    · subst hak
      rw [hk] at hj hir
      have hj2 := (show ∀ j, j < nf 0 → ir 0 j = true → (j = 0 ∨ j = 1 ∨ j = 2 ∨ j = 3 ∨ j = 4 ∨ j = 5 ∨ j = 6) by decide) j hj hir
      rcases hj2 with rfl | rfl | rfl | rfl | rfl | rfl | rfl <;> simp [fl1, flA, ha]
    · by_cases hin : k ≤ a ∧ a < k + 8
      · exfalso
        obtain ⟨g1, g2⟩ := gap_n hak hin (g := 7) rfl
        have h9 := sf_0_A hk (a - (k + 1)) g1
        rw [g2] at h9
        exact absurd h100 (Nat.not_lt.mpr h9)
      · simp only [fl1, if_neg hak, flA, if_neg hin]
  exact evc_vret dX0_init_60 rfl rfl ⟨rfl, rfl, rfl⟩
set_option maxRecDepth 100000 in
set_option maxHeartbeats 4000000 in
theorem conC_X2 (G : Gt) (base k : Nat) (hk : kd k = 2) (fl : Nat → Nat → Bool) (mem : Mem) : ConC G base yX2_init cX2_init 1 1 3 74 [.ref (gA G k)] (k + 1) fl mem (fun n2 fl2 mem2 => n2 = k + 4 ∧ fl2 = flA fl k (k + 4) ∧ mem2 = mem) := by
  have hk1 := sf_2_hk1 hk
  have hn1 := sf_2_hn1 hk
  have hk2 := sf_2_hk2 hk
  have hn2 := sf_2_hn2 hk
  have hk3 := sf_2_hk3 hk
  have hn3 := sf_2_hn3 hk
  have hr0 := sf_2_hr0 hk
  have hr1 := sf_2_hr1 hk
  have hr2 := sf_2_hr2 hk
  refine conC_of (ini := true) (by decide) (fun _ => rfl) (Nat.le_of_ble_eq_true rfl) ?_
  show EvC G base cX2_init 1 RX2 true 1 3 74 _ 0 [(0, .ref (gA G k))] [] (k + 1) fl mem 0 0
  refine evc_aload_n (q := 1) dX2_init_0 rfl 0 rfl rfl ?_
  refine evc_objInit (q := 4) dX2_init_1 rfl (AW_t (tb_1 (i := 174) rfl) rfl) oi_i oi_c (Nat.le_of_ble_eq_true rfl) rfl ?_
  refine evc_aload_n (q := 5) dX2_init_4 rfl 0 rfl rfl ?_
  refine evc_iconst (q := 6) (v := 4) dX2_init_5 rfl (by decide) ?_
  refine evc_newa (q := 8) (nn := k + 2) (ty := .int) (kdn := 100) (N := 4) dX2_init_6 rfl rfl rfl arr_i (Or.inl ⟨rfl, rfl⟩) hk1 hn1 (by decide) (by decide) (Nat.le_of_ble_eq_true rfl) (Nat.le_of_ble_eq_true rfl) (Nat.le_of_ble_eq_true rfl) ?_
  refine evc_putR (q := 11) (ci := 2) (j := 0) (T := TX2) (ty := .array .int) dX2_init_8 rfl rfl cf_2 hk (by decide) (by decide) (by omega) hr0 (AW_t (tb_1 (i := 175) rfl) rfl) rfl rfl rfl (by decide +kernel) (fun _ => rfl) (fun _ => rfl) ?_
  refine evc_aload_n (q := 12) dX2_init_11 rfl 0 rfl rfl ?_
  refine evc_bipush (q := 14) (v := 6) dX2_init_12 rfl (by decide) ?_
  refine evc_newa (q := 16) (nn := k + 3) (ty := .int) (kdn := 100) (N := 6) dX2_init_14 rfl rfl rfl arr_i (Or.inl ⟨rfl, rfl⟩) hk2 hn2 (by decide) (by decide) (Nat.le_of_ble_eq_true rfl) (Nat.le_of_ble_eq_true rfl) (Nat.le_of_ble_eq_true rfl) ?_
  refine evc_putR (q := 19) (ci := 2) (j := 1) (T := TX2) (ty := .array .int) dX2_init_16 rfl rfl cf_2 hk (by decide) (by decide) (by omega) hr1 (AW_t (tb_1 (i := 176) rfl) rfl) rfl rfl rfl (by decide +kernel) (fun _ => rfl) (fun _ => rfl) ?_
  refine evc_aload_n (q := 20) dX2_init_19 rfl 0 rfl rfl ?_
  refine evc_bipush (q := 22) (v := 64) dX2_init_20 rfl (by decide) ?_
  refine evc_newa (q := 24) (nn := k + 4) (ty := .int) (kdn := 100) (N := 64) dX2_init_22 rfl rfl rfl arr_i (Or.inl ⟨rfl, rfl⟩) hk3 hn3 (by decide) (by decide) (Nat.le_of_ble_eq_true rfl) (Nat.le_of_ble_eq_true rfl) (Nat.le_of_ble_eq_true rfl) ?_
  refine evc_putR (q := 27) (ci := 2) (j := 2) (T := TX2) (ty := .array .int) dX2_init_24 rfl rfl cf_2 hk (by decide) (by decide) (by omega) hr2 (AW_t (tb_1 (i := 178) rfl) rfl) rfl rfl rfl (by decide +kernel) (fun _ => rfl) (fun _ => rfl) ?_
  refine evc_congr (fl' := flA fl k (k + 4)) (fun a ha h100 j hj hir => ?_) ?_
  · by_cases hak : a = k
    · subst hak
      rw [hk] at hj hir
      have hj2 := (show ∀ j, j < nf 2 → ir 2 j = true → (j = 0 ∨ j = 1 ∨ j = 2) by decide) j hj hir
      rcases hj2 with rfl | rfl | rfl <;> simp [fl1, flA, ha]
    · by_cases hin : k ≤ a ∧ a < k + 4
      · exfalso
        obtain ⟨g1, g2⟩ := gap_n hak hin (g := 3) rfl
        have h9 := sf_2_A hk (a - (k + 1)) g1
        rw [g2] at h9
        exact absurd h100 (Nat.not_lt.mpr h9)
      · simp only [fl1, if_neg hak, flA, if_neg hin]
  exact evc_vret dX2_init_27 rfl rfl ⟨rfl, rfl, rfl⟩
set_option maxRecDepth 100000 in
set_option maxHeartbeats 4000000 in
theorem conC_X1 (G : Gt) (base k : Nat) (hk : kd k = 1) (fl : Nat → Nat → Bool) (mem : Mem) : ConC G base yX1_init cX1_init 1 1 1 16 [.ref (gA G k)] (k + 1) fl mem (fun n2 fl2 mem2 => n2 = k + 2 ∧ fl2 = flA fl k (k + 2) ∧ mem2 = mem) := by
  have hk1 := sf_1_hk1 hk
  have hn1 := sf_1_hn1 hk
  have hr0 := sf_1_hr0 hk
  refine conC_of (ini := true) (by decide) (fun _ => rfl) (Nat.le_of_ble_eq_true rfl) ?_
  show EvC G base cX1_init 1 RX1 true 1 1 16 _ 0 [(0, .ref (gA G k))] [] (k + 1) fl mem 0 0
  refine evc_aload_n (q := 1) dX1_init_0 rfl 0 rfl rfl ?_
  refine evc_objInit (q := 4) dX1_init_1 rfl (AW_t (tb_1 (i := 191) rfl) rfl) oi_i oi_c (Nat.le_of_ble_eq_true rfl) rfl ?_
  refine evc_aload_n (q := 5) dX1_init_4 rfl 0 rfl rfl ?_
  refine evc_bipush (q := 7) (v := 16) dX1_init_5 rfl (by decide) ?_
  refine evc_newa (q := 9) (nn := k + 2) (ty := .int) (kdn := 100) (N := 16) dX1_init_7 rfl rfl rfl arr_i (Or.inl ⟨rfl, rfl⟩) hk1 hn1 (by decide) (by decide) (Nat.le_of_ble_eq_true rfl) (Nat.le_of_ble_eq_true rfl) (Nat.le_of_ble_eq_true rfl) ?_
  refine evc_putR (q := 12) (ci := 1) (j := 0) (T := TX1) (ty := .array .int) dX1_init_9 rfl rfl cf_1 hk (by decide) (by decide) (by omega) hr0 (AW_t (tb_1 (i := 192) rfl) rfl) rfl rfl rfl (by decide +kernel) (fun _ => rfl) (fun _ => rfl) ?_
  refine evc_congr (fl' := flA fl k (k + 2)) (fun a ha h100 j hj hir => ?_) ?_
  · by_cases hak : a = k
    · subst hak
      rw [hk] at hj hir
      have hj2 := (show ∀ j, j < nf 1 → ir 1 j = true → (j = 0) by decide) j hj hir
      rcases hj2 with rfl <;> simp [fl1, flA, ha]
    · by_cases hin : k ≤ a ∧ a < k + 2
      · exfalso
        obtain ⟨g1, g2⟩ := gap_n hak hin (g := 1) rfl
        have h9 := sf_1_A hk (a - (k + 1)) g1
        rw [g2] at h9
        exact absurd h100 (Nat.not_lt.mpr h9)
      · simp only [fl1, if_neg hak, flA, if_neg hin]
  exact evc_vret dX1_init_12 rfl rfl ⟨rfl, rfl, rfl⟩
-- the loop of the reference's constructor stands ahead
set_option maxRecDepth 100000 in
theorem model_loop (G : Gt) (base k : Nat) (hk : kd k = 7) (fl : Nat → Nat → Bool) (mem : Mem) (mc ms : Nat) : ∀ (z i : Nat), i ≤ 8 → 8 - i ≤ z → ∀ (n : Nat), n = k + 16 → EvC G base cX7_init 2 RX7 true 1 mc ms (fun n2 fl2 m2 => n2 = n ∧ fl2 = flA fl k n ∧ m2 = st1 mem (k + 2) (fun j => if j < 8 then (-1) else mem (k + 2) j)) 126 [(0, .ref (gA G k)), (1, .int (nI i))] [] n (flA fl k n) (fillM mem (k + 2) (-1) i) mc ms := by
  intro z
  induction z with
  | zero =>
    intro i hi hz n hn
    have he : i = 8 := by omega
    subst he
    refine evc_iload_n (q := 127) dX7_init_126 rfl 1 rfl rfl ?_
    refine evc_bipush (q := 129) (v := 8) dX7_init_127 rfl (by decide) ?_
    refine evc_icmp_ge (t := 145) (q := 132) dX7_init_129 rfl rfl (fun hc => ?_) (fun hc => ?_)
    · exact evc_vret dX7_init_145 rfl rfl ⟨rfl, rfl, rfl⟩
    · exact absurd (by decide) hc
  | succ z ih =>
    intro i hi hz n hn
    refine evc_iload_n (q := 127) dX7_init_126 rfl 1 rfl rfl ?_
    refine evc_bipush (q := 129) (v := 8) dX7_init_127 rfl (by decide) ?_
    refine evc_icmp_ge (t := 145) (q := 132) dX7_init_129 rfl rfl (fun hc => ?_) (fun hc => ?_)
    · have he : i = 8 := by
        have := (nI_leI (a := 8) (b := i) (by decide) (by omega)).mp hc
        omega
      subst he
      exact evc_vret dX7_init_145 rfl rfl ⟨rfl, rfl, rfl⟩
    · have hl : i < 8 := by
        apply Nat.not_le.mp
        intro q
        exact hc ((nI_leI (a := 8) (b := i) (by decide) (by omega)).mpr q)
      have hk2 := sf_7_hk2 hk
      have hn2 := sf_7_hn2 hk
      have hr1 := sf_7_hr1 hk
      refine evc_aload_n (q := 133) dX7_init_132 rfl 0 rfl rfl ?_
      refine evc_getR (q := 136) (ci := 7) (j := 1) (T := TX7) dX7_init_133 rfl cf_7 hk (by decide) (by decide) (by omega) hr1 (AW_t (tb_4 (i := 34) rfl) rfl) rfl (by unfold flA; rw [if_pos (by omega)]) ?_
      refine evc_iload_n (q := 137) dX7_init_136 rfl 1 rfl rfl ?_
      refine evc_iconst (q := 138) (v := (-1)) dX7_init_137 rfl (by decide) ?_
      refine evc_iast (q := 139) dX7_init_138 rfl hk2 (by omega) (by rw [hn2]; exact vp_in_nI hl (by decide)) ?_
      rw [nI_clamp (by omega), fillM_s]
      refine evc_iinc (q := 142) (lv2 := [(1, .int _), (0, .ref _)]) (v := nI (i + 1)) dX7_init_139 1 rfl rfl (by rw [li_1]; exact nI_1 i) (Nat.le_of_ble_eq_true rfl) rfl ?_
      refine evc_goto (t := 126) dX7_init_142 rfl ?_
      refine evc_sub (lv' := [(0, .ref _), (1, .int _)]) [1, 0] rfl ?_
      exact ih (i + 1) (by omega) (by omega) n hn

set_option maxRecDepth 100000 in
set_option maxHeartbeats 4000000 in
theorem conC_X7 (G : Gt) (base k : Nat) (hk : kd k = 7) (fl : Nat → Nat → Bool) (mem : Mem) : ConC G base yX7_init cX7_init 2 1 15 2416 [.ref (gA G k)] (k + 1) fl mem (fun n2 fl2 mem2 => n2 = k + 16 ∧ fl2 = flA fl k (k + 16) ∧ mem2 = st1 mem (k + 2) (fun j => if j < 8 then (-1) else mem (k + 2) j)) := by
  have hk1 := sf_7_hk1 hk
  have hn1 := sf_7_hn1 hk
  have hk2 := sf_7_hk2 hk
  have hn2 := sf_7_hn2 hk
  have hk3 := sf_7_hk3 hk
  have hn3 := sf_7_hn3 hk
  have hk4 := sf_7_hk4 hk
  have hn4 := sf_7_hn4 hk
  have hk5 := sf_7_hk5 hk
  have hn5 := sf_7_hn5 hk
  have hk6 := sf_7_hk6 hk
  have hn6 := sf_7_hn6 hk
  have hk7 := sf_7_hk7 hk
  have hn7 := sf_7_hn7 hk
  have hk8 := sf_7_hk8 hk
  have hn8 := sf_7_hn8 hk
  have hk9 := sf_7_hk9 hk
  have hn9 := sf_7_hn9 hk
  have hk10 := sf_7_hk10 hk
  have hn10 := sf_7_hn10 hk
  have hk11 := sf_7_hk11 hk
  have hn11 := sf_7_hn11 hk
  have hk12 := sf_7_hk12 hk
  have hn12 := sf_7_hn12 hk
  have hk13 := sf_7_hk13 hk
  have hn13 := sf_7_hn13 hk
  have hk14 := sf_7_hk14 hk
  have hn14 := sf_7_hn14 hk
  have hk15 := sf_7_hk15 hk
  have hn15 := sf_7_hn15 hk
  have hr0 := sf_7_hr0 hk
  have hr1 := sf_7_hr1 hk
  have hr2 := sf_7_hr2 hk
  have hr4 := sf_7_hr4 hk
  have hr5 := sf_7_hr5 hk
  have hr6 := sf_7_hr6 hk
  have hr12 := sf_7_hr12 hk
  have hr14 := sf_7_hr14 hk
  have hr15 := sf_7_hr15 hk
  have hr16 := sf_7_hr16 hk
  have hr17 := sf_7_hr17 hk
  have hr18 := sf_7_hr18 hk
  have hr19 := sf_7_hr19 hk
  have hr20 := sf_7_hr20 hk
  have hr21 := sf_7_hr21 hk
  refine conC_of (ini := true) (by decide) (fun _ => rfl) (Nat.le_of_ble_eq_true rfl) ?_
  show EvC G base cX7_init 2 RX7 true 1 15 2416 _ 0 [(0, .ref (gA G k))] [] (k + 1) fl mem 0 0
  refine evc_aload_n (q := 1) dX7_init_0 rfl 0 rfl rfl ?_
  refine evc_objInit (q := 4) dX7_init_1 rfl (AW_t (tb_4 (i := 32) rfl) rfl) oi_i oi_c (Nat.le_of_ble_eq_true rfl) rfl ?_
  refine evc_aload_n (q := 5) dX7_init_4 rfl 0 rfl rfl ?_
  refine evc_bipush (q := 7) (v := 8) dX7_init_5 rfl (by decide) ?_
  refine evc_newa (q := 9) (nn := k + 2) (ty := .int) (kdn := 100) (N := 8) dX7_init_7 rfl rfl rfl arr_i (Or.inl ⟨rfl, rfl⟩) hk1 hn1 (by decide) (by decide) (Nat.le_of_ble_eq_true rfl) (Nat.le_of_ble_eq_true rfl) (Nat.le_of_ble_eq_true rfl) ?_
  refine evc_putR (q := 12) (ci := 7) (j := 0) (T := TX7) (ty := .array .int) dX7_init_9 rfl rfl cf_7 hk (by decide) (by decide) (by omega) hr0 (AW_t (tb_4 (i := 33) rfl) rfl) rfl rfl rfl (by decide +kernel) (fun _ => rfl) (fun _ => rfl) ?_
  refine evc_aload_n (q := 13) dX7_init_12 rfl 0 rfl rfl ?_
  refine evc_bipush (q := 15) (v := 8) dX7_init_13 rfl (by decide) ?_
  refine evc_newa (q := 17) (nn := k + 3) (ty := .int) (kdn := 100) (N := 8) dX7_init_15 rfl rfl rfl arr_i (Or.inl ⟨rfl, rfl⟩) hk2 hn2 (by decide) (by decide) (Nat.le_of_ble_eq_true rfl) (Nat.le_of_ble_eq_true rfl) (Nat.le_of_ble_eq_true rfl) ?_
  refine evc_putR (q := 20) (ci := 7) (j := 1) (T := TX7) (ty := .array .int) dX7_init_17 rfl rfl cf_7 hk (by decide) (by decide) (by omega) hr1 (AW_t (tb_4 (i := 34) rfl) rfl) rfl rfl rfl (by decide +kernel) (fun _ => rfl) (fun _ => rfl) ?_
  refine evc_aload_n (q := 21) dX7_init_20 rfl 0 rfl rfl ?_
  refine evc_sipush (q := 24) (v := 320) dX7_init_21 rfl (by decide) ?_
  refine evc_newa (q := 26) (nn := k + 4) (ty := .int) (kdn := 100) (N := 320) dX7_init_24 rfl rfl rfl arr_i (Or.inl ⟨rfl, rfl⟩) hk3 hn3 (by decide) (by decide) (Nat.le_of_ble_eq_true rfl) (Nat.le_of_ble_eq_true rfl) (Nat.le_of_ble_eq_true rfl) ?_
  refine evc_putR (q := 29) (ci := 7) (j := 2) (T := TX7) (ty := .array .int) dX7_init_26 rfl rfl cf_7 hk (by decide) (by decide) (by omega) hr2 (AW_t (tb_4 (i := 35) rfl) rfl) rfl rfl rfl (by decide +kernel) (fun _ => rfl) (fun _ => rfl) ?_
  refine evc_aload_n (q := 30) dX7_init_29 rfl 0 rfl rfl ?_
  refine evc_bipush (q := 32) (v := 40) dX7_init_30 rfl (by decide) ?_
  refine evc_newa (q := 34) (nn := k + 5) (ty := .int) (kdn := 100) (N := 40) dX7_init_32 rfl rfl rfl arr_i (Or.inl ⟨rfl, rfl⟩) hk4 hn4 (by decide) (by decide) (Nat.le_of_ble_eq_true rfl) (Nat.le_of_ble_eq_true rfl) (Nat.le_of_ble_eq_true rfl) ?_
  refine evc_putR (q := 37) (ci := 7) (j := 4) (T := TX7) (ty := .array .int) dX7_init_34 rfl rfl cf_7 hk (by decide) (by decide) (by omega) hr4 (AW_t (tb_4 (i := 37) rfl) rfl) rfl rfl rfl (by decide +kernel) (fun _ => rfl) (fun _ => rfl) ?_
  refine evc_aload_n (q := 38) dX7_init_37 rfl 0 rfl rfl ?_
  refine evc_bipush (q := 40) (v := 63) dX7_init_38 rfl (by decide) ?_
  refine evc_newa (q := 42) (nn := k + 6) (ty := .int) (kdn := 100) (N := 63) dX7_init_40 rfl rfl rfl arr_i (Or.inl ⟨rfl, rfl⟩) hk5 hn5 (by decide) (by decide) (Nat.le_of_ble_eq_true rfl) (Nat.le_of_ble_eq_true rfl) (Nat.le_of_ble_eq_true rfl) ?_
  refine evc_putR (q := 45) (ci := 7) (j := 5) (T := TX7) (ty := .array .int) dX7_init_42 rfl rfl cf_7 hk (by decide) (by decide) (by omega) hr5 (AW_t (tb_4 (i := 38) rfl) rfl) rfl rfl rfl (by decide +kernel) (fun _ => rfl) (fun _ => rfl) ?_
  refine evc_aload_n (q := 46) dX7_init_45 rfl 0 rfl rfl ?_
  refine evc_bipush (q := 48) (v := 120) dX7_init_46 rfl (by decide) ?_
  refine evc_newa (q := 50) (nn := k + 7) (ty := .int) (kdn := 100) (N := 120) dX7_init_48 rfl rfl rfl arr_i (Or.inl ⟨rfl, rfl⟩) hk6 hn6 (by decide) (by decide) (Nat.le_of_ble_eq_true rfl) (Nat.le_of_ble_eq_true rfl) (Nat.le_of_ble_eq_true rfl) ?_
  refine evc_putR (q := 53) (ci := 7) (j := 6) (T := TX7) (ty := .array .int) dX7_init_50 rfl rfl cf_7 hk (by decide) (by decide) (by omega) hr6 (AW_t (tb_4 (i := 39) rfl) rfl) rfl rfl rfl (by decide +kernel) (fun _ => rfl) (fun _ => rfl) ?_
  refine evc_aload_n (q := 54) dX7_init_53 rfl 0 rfl rfl ?_
  refine evc_bipush (q := 56) (v := 63) dX7_init_54 rfl (by decide) ?_
  refine evc_newa (q := 58) (nn := k + 8) (ty := .int) (kdn := 100) (N := 63) dX7_init_56 rfl rfl rfl arr_i (Or.inl ⟨rfl, rfl⟩) hk7 hn7 (by decide) (by decide) (Nat.le_of_ble_eq_true rfl) (Nat.le_of_ble_eq_true rfl) (Nat.le_of_ble_eq_true rfl) ?_
  refine evc_putR (q := 61) (ci := 7) (j := 12) (T := TX7) (ty := .array .int) dX7_init_58 rfl rfl cf_7 hk (by decide) (by decide) (by omega) hr12 (AW_t (tb_4 (i := 45) rfl) rfl) rfl rfl rfl (by decide +kernel) (fun _ => rfl) (fun _ => rfl) ?_
  refine evc_aload_n (q := 62) dX7_init_61 rfl 0 rfl rfl ?_
  refine evc_sipush (q := 65) (v := 1512) dX7_init_62 rfl (by decide) ?_
  refine evc_newa (q := 67) (nn := k + 9) (ty := .int) (kdn := 100) (N := 1512) dX7_init_65 rfl rfl rfl arr_i (Or.inl ⟨rfl, rfl⟩) hk8 hn8 (by decide) (by decide) (Nat.le_of_ble_eq_true rfl) (Nat.le_of_ble_eq_true rfl) (Nat.le_of_ble_eq_true rfl) ?_
  refine evc_putR (q := 70) (ci := 7) (j := 14) (T := TX7) (ty := .array .int) dX7_init_67 rfl rfl cf_7 hk (by decide) (by decide) (by omega) hr14 (AW_t (tb_4 (i := 47) rfl) rfl) rfl rfl rfl (by decide +kernel) (fun _ => rfl) (fun _ => rfl) ?_
  refine evc_aload_n (q := 71) dX7_init_70 rfl 0 rfl rfl ?_
  refine evc_bipush (q := 73) (v := 6) dX7_init_71 rfl (by decide) ?_
  refine evc_newa (q := 75) (nn := k + 10) (ty := .int) (kdn := 100) (N := 6) dX7_init_73 rfl rfl rfl arr_i (Or.inl ⟨rfl, rfl⟩) hk9 hn9 (by decide) (by decide) (Nat.le_of_ble_eq_true rfl) (Nat.le_of_ble_eq_true rfl) (Nat.le_of_ble_eq_true rfl) ?_
  refine evc_putR (q := 78) (ci := 7) (j := 15) (T := TX7) (ty := .array .int) dX7_init_75 rfl rfl cf_7 hk (by decide) (by decide) (by omega) hr15 (AW_t (tb_4 (i := 48) rfl) rfl) rfl rfl rfl (by decide +kernel) (fun _ => rfl) (fun _ => rfl) ?_
  refine evc_aload_n (q := 79) dX7_init_78 rfl 0 rfl rfl ?_
  refine evc_iconst (q := 80) (v := 4) dX7_init_79 rfl (by decide) ?_
  refine evc_newa (q := 82) (nn := k + 11) (ty := .int) (kdn := 100) (N := 4) dX7_init_80 rfl rfl rfl arr_i (Or.inl ⟨rfl, rfl⟩) hk10 hn10 (by decide) (by decide) (Nat.le_of_ble_eq_true rfl) (Nat.le_of_ble_eq_true rfl) (Nat.le_of_ble_eq_true rfl) ?_
  refine evc_putR (q := 85) (ci := 7) (j := 16) (T := TX7) (ty := .array .int) dX7_init_82 rfl rfl cf_7 hk (by decide) (by decide) (by omega) hr16 (AW_t (tb_4 (i := 49) rfl) rfl) rfl rfl rfl (by decide +kernel) (fun _ => rfl) (fun _ => rfl) ?_
  refine evc_aload_n (q := 86) dX7_init_85 rfl 0 rfl rfl ?_
  refine evc_bipush (q := 88) (v := 64) dX7_init_86 rfl (by decide) ?_
  refine evc_newa (q := 90) (nn := k + 12) (ty := .int) (kdn := 100) (N := 64) dX7_init_88 rfl rfl rfl arr_i (Or.inl ⟨rfl, rfl⟩) hk11 hn11 (by decide) (by decide) (Nat.le_of_ble_eq_true rfl) (Nat.le_of_ble_eq_true rfl) (Nat.le_of_ble_eq_true rfl) ?_
  refine evc_putR (q := 93) (ci := 7) (j := 17) (T := TX7) (ty := .array .int) dX7_init_90 rfl rfl cf_7 hk (by decide) (by decide) (by omega) hr17 (AW_t (tb_4 (i := 50) rfl) rfl) rfl rfl rfl (by decide +kernel) (fun _ => rfl) (fun _ => rfl) ?_
  refine evc_aload_n (q := 94) dX7_init_93 rfl 0 rfl rfl ?_
  refine evc_bipush (q := 96) (v := 64) dX7_init_94 rfl (by decide) ?_
  refine evc_newa (q := 98) (nn := k + 13) (ty := .int) (kdn := 100) (N := 64) dX7_init_96 rfl rfl rfl arr_i (Or.inl ⟨rfl, rfl⟩) hk12 hn12 (by decide) (by decide) (Nat.le_of_ble_eq_true rfl) (Nat.le_of_ble_eq_true rfl) (Nat.le_of_ble_eq_true rfl) ?_
  refine evc_putR (q := 101) (ci := 7) (j := 18) (T := TX7) (ty := .array .int) dX7_init_98 rfl rfl cf_7 hk (by decide) (by decide) (by omega) hr18 (AW_t (tb_4 (i := 51) rfl) rfl) rfl rfl rfl (by decide +kernel) (fun _ => rfl) (fun _ => rfl) ?_
  refine evc_aload_n (q := 102) dX7_init_101 rfl 0 rfl rfl ?_
  refine evc_bipush (q := 104) (v := 126) dX7_init_102 rfl (by decide) ?_
  refine evc_newa (q := 106) (nn := k + 14) (ty := .int) (kdn := 100) (N := 126) dX7_init_104 rfl rfl rfl arr_i (Or.inl ⟨rfl, rfl⟩) hk13 hn13 (by decide) (by decide) (Nat.le_of_ble_eq_true rfl) (Nat.le_of_ble_eq_true rfl) (Nat.le_of_ble_eq_true rfl) ?_
  refine evc_putR (q := 109) (ci := 7) (j := 19) (T := TX7) (ty := .array .int) dX7_init_106 rfl rfl cf_7 hk (by decide) (by decide) (by omega) hr19 (AW_t (tb_4 (i := 52) rfl) rfl) rfl rfl rfl (by decide +kernel) (fun _ => rfl) (fun _ => rfl) ?_
  refine evc_aload_n (q := 110) dX7_init_109 rfl 0 rfl rfl ?_
  refine evc_iconst (q := 111) (v := 2) dX7_init_110 rfl (by decide) ?_
  refine evc_newa (q := 113) (nn := k + 15) (ty := .boolean) (kdn := 101) (N := 2) dX7_init_111 rfl rfl rfl arr_z (Or.inr ⟨rfl, rfl⟩) hk14 hn14 (by decide) (by decide) (Nat.le_of_ble_eq_true rfl) (Nat.le_of_ble_eq_true rfl) (Nat.le_of_ble_eq_true rfl) ?_
  refine evc_putR (q := 116) (ci := 7) (j := 20) (T := TX7) (ty := .array .boolean) dX7_init_113 rfl rfl cf_7 hk (by decide) (by decide) (by omega) hr20 (AW_t (tb_4 (i := 53) rfl) rfl) rfl rfl rfl (by decide +kernel) (fun _ => rfl) (fun _ => rfl) ?_
  refine evc_aload_n (q := 117) dX7_init_116 rfl 0 rfl rfl ?_
  refine evc_bipush (q := 119) (v := 16) dX7_init_117 rfl (by decide) ?_
  refine evc_newa (q := 121) (nn := k + 16) (ty := .int) (kdn := 100) (N := 16) dX7_init_119 rfl rfl rfl arr_i (Or.inl ⟨rfl, rfl⟩) hk15 hn15 (by decide) (by decide) (Nat.le_of_ble_eq_true rfl) (Nat.le_of_ble_eq_true rfl) (Nat.le_of_ble_eq_true rfl) ?_
  refine evc_putR (q := 124) (ci := 7) (j := 21) (T := TX7) (ty := .array .int) dX7_init_121 rfl rfl cf_7 hk (by decide) (by decide) (by omega) hr21 (AW_t (tb_4 (i := 54) rfl) rfl) rfl rfl rfl (by decide +kernel) (fun _ => rfl) (fun _ => rfl) ?_
  refine evc_iconst (q := 125) (v := 0) dX7_init_124 rfl (by decide) ?_
  refine evc_congr (fl' := flA fl k (k + 16)) (fun a ha h100 j hj hir => ?_) ?_
  · by_cases hak : a = k
    · subst hak
      rw [hk] at hj hir
      have hj2 := (show ∀ j, j < nf 7 → ir 7 j = true → (j = 0 ∨ j = 1 ∨ j = 2 ∨ j = 4 ∨ j = 5 ∨ j = 6 ∨ j = 12 ∨ j = 14 ∨ j = 15 ∨ j = 16 ∨ j = 17 ∨ j = 18 ∨ j = 19 ∨ j = 20 ∨ j = 21) by decide) j hj hir
      rcases hj2 with rfl | rfl | rfl | rfl | rfl | rfl | rfl | rfl | rfl | rfl | rfl | rfl | rfl | rfl | rfl <;> simp [fl1, flA, ha]
    · by_cases hin : k ≤ a ∧ a < k + 16
      · exfalso
        obtain ⟨g1, g2⟩ := gap_n hak hin (g := 15) rfl
        have h9 := sf_7_A hk (a - (k + 1)) g1
        rw [g2] at h9
        exact absurd h100 (Nat.not_lt.mpr h9)
      · simp only [fl1, if_neg hak, flA, if_neg hin]
  refine evc_istore_n (q := 126) (lv2 := [(1, .int 0), (0, .ref _)]) dX7_init_125 rfl rfl (Nat.le_of_ble_eq_true rfl) rfl ?_
  refine evc_sub (lv' := [(0, .ref _), (1, .int 0)]) [1, 0] rfl ?_
  have h := model_loop G base k hk fl mem 15 2416 8 0 (by omega) (by omega) (k + 16) rfl
  rw [fillM_0, nI_0] at h
  exact h
set_option maxRecDepth 100000 in
set_option maxHeartbeats 4000000 in
theorem conC_X6 (G : Gt) (base : Nat) (fl : Nat → Nat → Bool) (hfl : ∀ k, 1 ≤ k → fl k = fun _ => false) (mem : Mem) : ConC G base yX6_init cX6_init 1 3 56 1019 [.ref (gA G 0)] 1 fl mem (fun n2 fl2 mem2 => n2 = 57 ∧ fl2 = flA fl 0 57 ∧ mem2 = st1 mem 2 (fun j => if j < 8 then (-1) else mem 2 j)) := by
  refine conC_of (ini := true) (by decide) (fun _ => rfl) (Nat.le_of_ble_eq_true rfl) ?_
  show EvC G base cX6_init 1 RX6 true 3 56 1019 _ 0 [(0, .ref (gA G 0))] [] 1 fl mem 0 0
  refine evc_aload_n (q := 1) dX6_init_0 rfl 0 rfl rfl ?_
  refine evc_objInit (q := 4) dX6_init_1 rfl (AW_t (tb_1 (i := 17) rfl) rfl) oi_i oi_c (Nat.le_of_ble_eq_true rfl) rfl ?_
  refine evc_aload_n (q := 5) dX6_init_4 rfl 0 rfl rfl ?_
  refine evc_new (q := 8) (nn := 2) (ci := 4) (C := RX4) (T := TX4) dX6_init_5 rfl rfl cf_4 (by decide) (by decide) df_4 (AW_t (tb_1 (i := 20) rfl) rfl) (AW_t (tb_1 (i := 21) rfl) rfl) (AW_t (tb_1 (i := 2) rfl) rfl) (by simp [fl1, flA, hfl]) (Nat.le_of_ble_eq_true rfl) (Nat.le_of_ble_eq_true rfl) ?_
  refine evc_dup (q := 9) dX6_init_8 rfl rfl ?_
  refine evc_callI (q := 12) dX6_init_9 rfl ml_X6_9 (AW_t (tb_1 (i := 24) rfl) rfl) (AW_t (tb_1 (i := 23) rfl) rfl) (AW_t (tb_1 (i := 2) rfl) rfl) rfl ⟨by decide, by decide, by decide +kernel⟩ (conC_X4 G base 1 (by decide) _ _) rfl (Nat.le_of_ble_eq_true rfl) (Nat.le_of_ble_eq_true rfl) rfl (Nat.le_of_ble_eq_true rfl) (Nat.le_of_ble_eq_true rfl) (Nat.le_of_ble_eq_true rfl) (fun n2 fl2 mem2 hQ => ?_)
  obtain ⟨rfl, rfl, rfl⟩ := hQ
  refine evc_putR (q := 15) (ci := 6) (j := 0) (T := TX6) (ty := .object "AgingLetters$Rows") dX6_init_12 rfl rfl cf_6 (by decide) (by decide) (by decide) (by decide) (by decide) (AW_t (tb_1 (i := 201) rfl) rfl) rfl rfl rfl (by decide +kernel) (fun _ => rfl) (fun _ => rfl) ?_
  refine evc_aload_n (q := 16) dX6_init_15 rfl 0 rfl rfl ?_
  refine evc_new (q := 19) (nn := 6) (ci := 5) (C := RX5) (T := TX5) dX6_init_16 rfl rfl cf_5 (by decide) (by decide) df_5 (AW_t (tb_1 (i := 40) rfl) rfl) (AW_t (tb_1 (i := 41) rfl) rfl) (AW_t (tb_1 (i := 4) rfl) rfl) (by simp [fl1, flA, hfl]) (Nat.le_of_ble_eq_true rfl) (Nat.le_of_ble_eq_true rfl) ?_
  refine evc_dup (q := 20) dX6_init_19 rfl rfl ?_
  refine evc_callIN (q := 23) dX6_init_20 rfl ml_X6_18 (AW_t (tb_1 (i := 44) rfl) rfl) (AW_t (tb_1 (i := 43) rfl) rfl) (AW_t (tb_1 (i := 4) rfl) rfl) rfl ⟨by decide, by decide, by decide +kernel⟩ (conC_X5 G base 5 (by decide) _ _) rfl (Nat.le_of_ble_eq_true rfl) (Nat.le_of_ble_eq_true rfl) rfl (Nat.le_of_ble_eq_true rfl) (Nat.le_of_ble_eq_true rfl) (Nat.le_of_ble_eq_true rfl) (fun n2 fl2 mem2 hQ => ?_)
  obtain ⟨rfl, rfl, rfl⟩ := hQ
  refine evc_putR (q := 26) (ci := 6) (j := 1) (T := TX6) (ty := .object "AgingLetters$Tape") dX6_init_23 rfl rfl cf_6 (by decide) (by decide) (by decide) (by decide) (by decide) (AW_t (tb_1 (i := 202) rfl) rfl) rfl rfl rfl (by decide +kernel) (fun _ => rfl) (fun _ => rfl) ?_
  refine evc_aload_n (q := 27) dX6_init_26 rfl 0 rfl rfl ?_
  refine evc_new (q := 30) (nn := 8) (ci := 3) (C := RX3) (T := TX3) dX6_init_27 rfl rfl cf_3 (by decide) (by decide) df_3 (AW_t (tb_1 (i := 61) rfl) rfl) (AW_t (tb_1 (i := 62) rfl) rfl) (AW_t (tb_1 (i := 5) rfl) rfl) (by simp [fl1, flA, hfl]) (Nat.le_of_ble_eq_true rfl) (Nat.le_of_ble_eq_true rfl) ?_
  refine evc_dup (q := 31) dX6_init_30 rfl rfl ?_
  refine evc_callIN (q := 34) dX6_init_31 rfl ml_X6_25 (AW_t (tb_1 (i := 65) rfl) rfl) (AW_t (tb_1 (i := 64) rfl) rfl) (AW_t (tb_1 (i := 5) rfl) rfl) rfl ⟨by decide, by decide, by decide +kernel⟩ (conC_X3 G base 7 (by decide) _ _) rfl (Nat.le_of_ble_eq_true rfl) (Nat.le_of_ble_eq_true rfl) rfl (Nat.le_of_ble_eq_true rfl) (Nat.le_of_ble_eq_true rfl) (Nat.le_of_ble_eq_true rfl) (fun n2 fl2 mem2 hQ => ?_)
  obtain ⟨rfl, rfl, rfl⟩ := hQ
  refine evc_putR (q := 37) (ci := 6) (j := 2) (T := TX6) (ty := .object "AgingLetters$Office") dX6_init_34 rfl rfl cf_6 (by decide) (by decide) (by decide) (by decide) (by decide) (AW_t (tb_1 (i := 203) rfl) rfl) rfl rfl rfl (by decide +kernel) (fun _ => rfl) (fun _ => rfl) ?_
  refine evc_aload_n (q := 38) dX6_init_37 rfl 0 rfl rfl ?_
  refine evc_new (q := 41) (nn := 17) (ci := 3) (C := RX3) (T := TX3) dX6_init_38 rfl rfl cf_3 (by decide) (by decide) df_3 (AW_t (tb_1 (i := 61) rfl) rfl) (AW_t (tb_1 (i := 62) rfl) rfl) (AW_t (tb_1 (i := 5) rfl) rfl) (by simp [fl1, flA, hfl]) (Nat.le_of_ble_eq_true rfl) (Nat.le_of_ble_eq_true rfl) ?_
  refine evc_dup (q := 42) dX6_init_41 rfl rfl ?_
  refine evc_callIN (q := 45) dX6_init_42 rfl ml_X6_25 (AW_t (tb_1 (i := 65) rfl) rfl) (AW_t (tb_1 (i := 64) rfl) rfl) (AW_t (tb_1 (i := 5) rfl) rfl) rfl ⟨by decide, by decide, by decide +kernel⟩ (conC_X3 G base 16 (by decide) _ _) rfl (Nat.le_of_ble_eq_true rfl) (Nat.le_of_ble_eq_true rfl) rfl (Nat.le_of_ble_eq_true rfl) (Nat.le_of_ble_eq_true rfl) (Nat.le_of_ble_eq_true rfl) (fun n2 fl2 mem2 hQ => ?_)
  obtain ⟨rfl, rfl, rfl⟩ := hQ
  refine evc_putR (q := 48) (ci := 6) (j := 3) (T := TX6) (ty := .object "AgingLetters$Office") dX6_init_45 rfl rfl cf_6 (by decide) (by decide) (by decide) (by decide) (by decide) (AW_t (tb_1 (i := 204) rfl) rfl) rfl rfl rfl (by decide +kernel) (fun _ => rfl) (fun _ => rfl) ?_
  refine evc_aload_n (q := 49) dX6_init_48 rfl 0 rfl rfl ?_
  refine evc_new (q := 52) (nn := 26) (ci := 3) (C := RX3) (T := TX3) dX6_init_49 rfl rfl cf_3 (by decide) (by decide) df_3 (AW_t (tb_1 (i := 61) rfl) rfl) (AW_t (tb_1 (i := 62) rfl) rfl) (AW_t (tb_1 (i := 5) rfl) rfl) (by simp [fl1, flA, hfl]) (Nat.le_of_ble_eq_true rfl) (Nat.le_of_ble_eq_true rfl) ?_
  refine evc_dup (q := 53) dX6_init_52 rfl rfl ?_
  refine evc_callIN (q := 56) dX6_init_53 rfl ml_X6_25 (AW_t (tb_1 (i := 65) rfl) rfl) (AW_t (tb_1 (i := 64) rfl) rfl) (AW_t (tb_1 (i := 5) rfl) rfl) rfl ⟨by decide, by decide, by decide +kernel⟩ (conC_X3 G base 25 (by decide) _ _) rfl (Nat.le_of_ble_eq_true rfl) (Nat.le_of_ble_eq_true rfl) rfl (Nat.le_of_ble_eq_true rfl) (Nat.le_of_ble_eq_true rfl) (Nat.le_of_ble_eq_true rfl) (fun n2 fl2 mem2 hQ => ?_)
  obtain ⟨rfl, rfl, rfl⟩ := hQ
  refine evc_putR (q := 59) (ci := 6) (j := 4) (T := TX6) (ty := .object "AgingLetters$Office") dX6_init_56 rfl rfl cf_6 (by decide) (by decide) (by decide) (by decide) (by decide) (AW_t (tb_1 (i := 205) rfl) rfl) rfl rfl rfl (by decide +kernel) (fun _ => rfl) (fun _ => rfl) ?_
  refine evc_aload_n (q := 60) dX6_init_59 rfl 0 rfl rfl ?_
  refine evc_new (q := 63) (nn := 35) (ci := 3) (C := RX3) (T := TX3) dX6_init_60 rfl rfl cf_3 (by decide) (by decide) df_3 (AW_t (tb_1 (i := 61) rfl) rfl) (AW_t (tb_1 (i := 62) rfl) rfl) (AW_t (tb_1 (i := 5) rfl) rfl) (by simp [fl1, flA, hfl]) (Nat.le_of_ble_eq_true rfl) (Nat.le_of_ble_eq_true rfl) ?_
  refine evc_dup (q := 64) dX6_init_63 rfl rfl ?_
  refine evc_callIN (q := 67) dX6_init_64 rfl ml_X6_25 (AW_t (tb_1 (i := 65) rfl) rfl) (AW_t (tb_1 (i := 64) rfl) rfl) (AW_t (tb_1 (i := 5) rfl) rfl) rfl ⟨by decide, by decide, by decide +kernel⟩ (conC_X3 G base 34 (by decide) _ _) rfl (Nat.le_of_ble_eq_true rfl) (Nat.le_of_ble_eq_true rfl) rfl (Nat.le_of_ble_eq_true rfl) (Nat.le_of_ble_eq_true rfl) (Nat.le_of_ble_eq_true rfl) (fun n2 fl2 mem2 hQ => ?_)
  obtain ⟨rfl, rfl, rfl⟩ := hQ
  refine evc_putR (q := 70) (ci := 6) (j := 5) (T := TX6) (ty := .object "AgingLetters$Office") dX6_init_67 rfl rfl cf_6 (by decide) (by decide) (by decide) (by decide) (by decide) (AW_t (tb_1 (i := 206) rfl) rfl) rfl rfl rfl (by decide +kernel) (fun _ => rfl) (fun _ => rfl) ?_
  refine evc_aload_n (q := 71) dX6_init_70 rfl 0 rfl rfl ?_
  refine evc_new (q := 74) (nn := 44) (ci := 0) (C := RX0) (T := TX0) dX6_init_71 rfl rfl cf_0 (by decide) (by decide) df_0 (AW_t (tb_1 (i := 134) rfl) rfl) (AW_t (tb_1 (i := 135) rfl) rfl) (AW_t (tb_1 (i := 6) rfl) rfl) (by simp [fl1, flA, hfl]) (Nat.le_of_ble_eq_true rfl) (Nat.le_of_ble_eq_true rfl) ?_
  refine evc_dup (q := 75) dX6_init_74 rfl rfl ?_
  refine evc_callIN (q := 78) dX6_init_75 rfl ml_X6_41 (AW_t (tb_1 (i := 138) rfl) rfl) (AW_t (tb_1 (i := 137) rfl) rfl) (AW_t (tb_1 (i := 6) rfl) rfl) rfl ⟨by decide, by decide, by decide +kernel⟩ (conC_X0 G base 43 (by decide) _ _) rfl (Nat.le_of_ble_eq_true rfl) (Nat.le_of_ble_eq_true rfl) rfl (Nat.le_of_ble_eq_true rfl) (Nat.le_of_ble_eq_true rfl) (Nat.le_of_ble_eq_true rfl) (fun n2 fl2 mem2 hQ => ?_)
  obtain ⟨rfl, rfl, rfl⟩ := hQ
  refine evc_putR (q := 81) (ci := 6) (j := 6) (T := TX6) (ty := .object "AgingLetters$Acts") dX6_init_78 rfl rfl cf_6 (by decide) (by decide) (by decide) (by decide) (by decide) (AW_t (tb_1 (i := 207) rfl) rfl) rfl rfl rfl (by decide +kernel) (fun _ => rfl) (fun _ => rfl) ?_
  refine evc_aload_n (q := 82) dX6_init_81 rfl 0 rfl rfl ?_
  refine evc_new (q := 85) (nn := 52) (ci := 2) (C := RX2) (T := TX2) dX6_init_82 rfl rfl cf_2 (by decide) (by decide) df_2 (AW_t (tb_1 (i := 169) rfl) rfl) (AW_t (tb_1 (i := 170) rfl) rfl) (AW_t (tb_1 (i := 7) rfl) rfl) (by simp [fl1, flA, hfl]) (Nat.le_of_ble_eq_true rfl) (Nat.le_of_ble_eq_true rfl) ?_
  refine evc_dup (q := 86) dX6_init_85 rfl rfl ?_
  refine evc_callIN (q := 89) dX6_init_86 rfl ml_X6_48 (AW_t (tb_1 (i := 173) rfl) rfl) (AW_t (tb_1 (i := 172) rfl) rfl) (AW_t (tb_1 (i := 7) rfl) rfl) rfl ⟨by decide, by decide, by decide +kernel⟩ (conC_X2 G base 51 (by decide) _ _) rfl (Nat.le_of_ble_eq_true rfl) (Nat.le_of_ble_eq_true rfl) rfl (Nat.le_of_ble_eq_true rfl) (Nat.le_of_ble_eq_true rfl) (Nat.le_of_ble_eq_true rfl) (fun n2 fl2 mem2 hQ => ?_)
  obtain ⟨rfl, rfl, rfl⟩ := hQ
  refine evc_putR (q := 92) (ci := 6) (j := 7) (T := TX6) (ty := .object "AgingLetters$Foretold") dX6_init_89 rfl rfl cf_6 (by decide) (by decide) (by decide) (by decide) (by decide) (AW_t (tb_1 (i := 208) rfl) rfl) rfl rfl rfl (by decide +kernel) (fun _ => rfl) (fun _ => rfl) ?_
  refine evc_aload_n (q := 93) dX6_init_92 rfl 0 rfl rfl ?_
  refine evc_new (q := 96) (nn := 56) (ci := 1) (C := RX1) (T := TX1) dX6_init_93 rfl rfl cf_1 (by decide) (by decide) df_1 (AW_t (tb_1 (i := 186) rfl) rfl) (AW_t (tb_1 (i := 187) rfl) rfl) (AW_t (tb_1 (i := 8) rfl) rfl) (by simp [fl1, flA, hfl]) (Nat.le_of_ble_eq_true rfl) (Nat.le_of_ble_eq_true rfl) ?_
  refine evc_dup (q := 97) dX6_init_96 rfl rfl ?_
  refine evc_callIN (q := 100) dX6_init_97 rfl ml_X6_55 (AW_t (tb_1 (i := 190) rfl) rfl) (AW_t (tb_1 (i := 189) rfl) rfl) (AW_t (tb_1 (i := 8) rfl) rfl) rfl ⟨by decide, by decide, by decide +kernel⟩ (conC_X1 G base 55 (by decide) _ _) rfl (Nat.le_of_ble_eq_true rfl) (Nat.le_of_ble_eq_true rfl) rfl (Nat.le_of_ble_eq_true rfl) (Nat.le_of_ble_eq_true rfl) (Nat.le_of_ble_eq_true rfl) (fun n2 fl2 mem2 hQ => ?_)
  obtain ⟨rfl, rfl, rfl⟩ := hQ
  refine evc_putR (q := 103) (ci := 6) (j := 8) (T := TX6) (ty := .object "AgingLetters$Asks") dX6_init_100 rfl rfl cf_6 (by decide) (by decide) (by decide) (by decide) (by decide) (AW_t (tb_1 (i := 209) rfl) rfl) rfl rfl rfl (by decide +kernel) (fun _ => rfl) (fun _ => rfl) ?_
  refine evc_congr (fl' := flA fl 0 57) (fun a ha h100 j hj hir => ?_) ?_
  · have h0 : ∀ a, a < 57 → kd a < 100 → (a = 0 ∨ a = 1 ∨ a = 5 ∨ a = 7 ∨ a = 16 ∨ a = 25 ∨ a = 34 ∨ a = 43 ∨ a = 51 ∨ a = 55) := by decide
    rcases h0 a ha h100 with rfl | rfl | rfl | rfl | rfl | rfl | rfl | rfl | rfl | rfl
    · have hj2 := (show ∀ j, j < nf 6 → ir 6 j = true → (j = 0 ∨ j = 1 ∨ j = 2 ∨ j = 3 ∨ j = 4 ∨ j = 5 ∨ j = 6 ∨ j = 7 ∨ j = 8) by decide) j hj hir
      rcases hj2 with rfl | rfl | rfl | rfl | rfl | rfl | rfl | rfl | rfl <;> simp [fl1, flA]
    · simp [fl1, flA]
    · simp [fl1, flA]
    · simp [fl1, flA]
    · simp [fl1, flA]
    · simp [fl1, flA]
    · simp [fl1, flA]
    · simp [fl1, flA]
    · simp [fl1, flA]
    · simp [fl1, flA]
  · exact evc_vret dX6_init_103 rfl rfl ⟨rfl, rfl, rfl⟩
