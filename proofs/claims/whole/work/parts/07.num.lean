/-! rows and columns as ints -/
theorem zn_8 : (8 : Int32) = nI 8 := by decide
theorem zn_8z : (8 : Int32) = zi_z 8 := by decide
theorem zn_row {s i t : Nat} (hs : s < 64) : nI s / 8 + nI (i + 1) * zi_z (gm_dr t) = zi_z (gm_r0 s t + (i : Int) * gm_dr t) := by
  rw [zn_8, pk_div (by omega) (by decide) (by decide), ← zi_n, ← zi_n, zi_mul, zi_add, gm_st]
  rfl
theorem zn_col {s i t : Nat} (hs : s < 64) : (nI s - nI s / 8 * 8) + nI (i + 1) * zi_z (gm_dc t) = zi_z (gm_c0 s t + (i : Int) * gm_dc t) := by
  rw [zn_8, pk_rem (by omega) (by decide) (by decide), ← zi_n, ← zi_n, zi_mul, zi_add, gm_st]
  rfl
theorem zn_row0 {s t : Nat} (hs : s < 64) : nI s / 8 + zi_z (gm_dr t) = zi_z (gm_r0 s t) := by
  rw [zn_8, pk_div (by omega) (by decide) (by decide), ← zi_n, zi_add]
  rfl
theorem zn_col0 {s t : Nat} (hs : s < 64) : (nI s - nI s / 8 * 8) + zi_z (gm_dc t) = zi_z (gm_c0 s t) := by
  rw [zn_8, pk_rem (by omega) (by decide) (by decide), ← zi_n, zi_add]
  rfl
theorem zn_b1 {x a : Int} {i : Nat} (h : a = -1 ∨ a = 0 ∨ a = 1) (hx : 0 ≤ x ∧ x < 8) (hi : i ≤ 8) : -100 ≤ x + a + (i : Int) * a ∧ x + a + (i : Int) * a ≤ 100 := by
  rcases h with rfl | rfl | rfl <;> omega
theorem zn_rb {s i t : Nat} (ht : t < 9) (hs : s < 64) (hi : i ≤ 8) : -100 ≤ gm_r0 s t + (i : Int) * gm_dr t ∧ gm_r0 s t + (i : Int) * gm_dr t ≤ 100 := zn_b1 (gm_dr3 ht) (by omega) hi
theorem zn_cb {s i t : Nat} (hi : i ≤ 8) : -100 ≤ gm_c0 s t + (i : Int) * gm_dc t ∧ gm_c0 s t + (i : Int) * gm_dc t ≤ 100 := zn_b1 (gm_dc3 t) (by omega) hi
theorem zn_ix {r c : Int} (h : gm_on r c) : 8 * zi_z r + zi_z c = nI (gm_ix r c) := by
  rw [zn_8z, zi_mul, zi_add, ← gm_ixI h, zi_n]
theorem zn_dr : ∀ i : Nat, i < 3 → ∀ j : Nat, j < 3 → gm_dr (3 * i + j) = (i : Int) - 1 ∧ gm_dc (3 * i + j) = (j : Int) - 1 := by
  intro i hi j hj
  unfold gm_dr gm_dc
  omega
theorem zn_lt0 {x : Int} (h : -1000 ≤ x) (h' : x ≤ 1000) : zi_z x < 0 ↔ x < 0 := by
  rw [zi_0, zi_lt (by omega) (by omega) (by decide) (by decide)]
theorem zn_le0 {x : Int} (h : -1000 ≤ x) (h' : x ≤ 1000) : (0 : Int32) ≤ zi_z x ↔ 0 ≤ x := by
  rw [zi_0, zi_le (by decide) (by decide) (by omega) (by omega)]
theorem zn_lt8 {x : Int} (h : -1000 ≤ x) (h' : x ≤ 1000) : zi_z x < 8 ↔ x < 8 := by
  rw [zn_8z, zi_lt (by omega) (by omega) (by decide) (by decide)]
theorem zn_le7 {x : Int} (h : -1000 ≤ x) (h' : x ≤ 1000) : zi_z x ≤ 7 ↔ x ≤ 7 := by
  have e : (7 : Int32) = zi_z 7 := by decide
  rw [e, zi_le (by omega) (by omega) (by decide) (by decide)]
