/-! the two boards -/
def rb_R (b w : Int64) (a : Nat → Int32) : Prop := xb_t b = yb_o a 0 1 ∧ xb_t w = yb_o a 0 2 ∧ ∀ j, j < 64 → a j = 0 ∨ a j = 1 ∨ a j = 2
theorem rb_upd {a : Nat → Int32} {s : Nat} {v m : Int32} (hs : s < 64) (j : Nat) : yb_o (upd a s v) 0 m j = if j = s then decide (v = m) else yb_o a 0 m j := by
  unfold yb_o upd
  rw [Nat.zero_add]
  by_cases h : j = s
  · subst h; simp [hs]
  · rw [if_neg h, if_neg h]
theorem rb_tri {a : Nat → Int32} {s : Nat} {v : Int32} (h : ∀ j, j < 64 → a j = 0 ∨ a j = 1 ∨ a j = 2) (hv : v = 0 ∨ v = 1 ∨ v = 2) : ∀ j, j < 64 → upd a s v j = 0 ∨ upd a s v j = 1 ∨ upd a s v j = 2 := by
  intro j hj
  unfold upd
  by_cases e : j = s
  · rw [if_pos e]; exact hv
  · rw [if_neg e]; exact h j hj
theorem rb_in {x y : Int64} {a : Nat → Int32} {s : Nat} {v m : Int32} (hs : s < 64) (hx : xb_t x = yb_o a 0 m) (hy : ∀ j, xb_t y j = decide (j = s)) (hv : v = m) : xb_t (x ||| y) = yb_o (upd a s v) 0 m := by
  funext j
  rw [xb_or, hx, hy, rb_upd hs]
  by_cases h : j = s
  · rw [if_pos h, decide_eq_true h, decide_eq_true hv, Bool.or_true]
  · rw [if_neg h, decide_eq_false h, Bool.or_false]
theorem rb_out {x y : Int64} {a : Nat → Int32} {s : Nat} {v m : Int32} (hs : s < 64) (hx : xb_t x = yb_o a 0 m) (hy : ∀ j, xb_t y j = decide (j = s)) (hv : ¬ v = m) : xb_t (x &&& (y ^^^ (-1))) = yb_o (upd a s v) 0 m := by
  funext j
  rw [xb_andn, hx, hy, rb_upd hs]
  by_cases h : j = s
  · rw [if_pos h, decide_eq_true h, decide_eq_false hv, Bool.not_true, Bool.and_false]
  · rw [if_neg h, decide_eq_false h, Bool.not_false, Bool.and_true]
/-! a row of the board -/
def rb_v (b w c : Nat) : Int32 := if b.testBit c = true then 1 else if w.testBit c = true then 2 else 0
def rb_r (a : Nat → Int32) (r b w n : Nat) : Nat → Int32 := fun x => if 8 * r ≤ x ∧ x < 8 * r + n then rb_v b w (x - 8 * r) else a x
theorem rb_r0 (a : Nat → Int32) (r b w : Nat) : rb_r a r b w 0 = a := by
  funext x
  exact if_neg (fun z => by omega)
theorem rb_ru (a : Nat → Int32) (r b w n : Nat) : upd (rb_r a r b w n) (8 * r + n) (rb_v b w n) = rb_r a r b w (n + 1) := by
  funext x
  unfold upd rb_r
  by_cases h : x = 8 * r + n
  · rw [if_pos h, if_pos (by omega)]
    have e : x - 8 * r = n := by omega
    rw [e]
  · rw [if_neg h]
    by_cases h2 : 8 * r ≤ x ∧ x < 8 * r + n
    · rw [if_pos h2, if_pos (by omega)]
    · rw [if_neg h2, if_neg (by omega)]
theorem rb_v3 (b w c : Nat) : rb_v b w c = 0 ∨ rb_v b w c = 1 ∨ rb_v b w c = 2 := by
  unfold rb_v
  by_cases h : b.testBit c = true
  · rw [if_pos h]; exact Or.inr (Or.inl rfl)
  · rw [if_neg h]
    by_cases h2 : w.testBit c = true
    · rw [if_pos h2]; exact Or.inr (Or.inr rfl)
    · rw [if_neg h2]; exact Or.inl rfl
theorem rb_v1 {b w c : Nat} : rb_v b w c = 1 ↔ b.testBit c = true := by
  unfold rb_v
  by_cases h : b.testBit c = true
  · rw [if_pos h]; exact ⟨fun _ => h, fun _ => rfl⟩
  · rw [if_neg h]
    by_cases h2 : w.testBit c = true
    · rw [if_pos h2]; exact ⟨fun z => absurd z (by decide), fun z => absurd z h⟩
    · rw [if_neg h2]; exact ⟨fun z => absurd z (by decide), fun z => absurd z h⟩
theorem rb_v2 {b w c : Nat} (hd : b.testBit c = true → w.testBit c = true → False) : rb_v b w c = 2 ↔ w.testBit c = true := by
  unfold rb_v
  by_cases h : b.testBit c = true
  · rw [if_pos h]; exact ⟨fun z => absurd z (by decide), fun z => (hd h z).elim⟩
  · rw [if_neg h]
    by_cases h2 : w.testBit c = true
    · rw [if_pos h2]; exact ⟨fun _ => h2, fun _ => rfl⟩
    · rw [if_neg h2]; exact ⟨fun z => absurd z (by decide), fun z => absurd z h2⟩
theorem rb_sh {n k : Nat} (hn : n < 2 ^ 31) (hk : k < 64) (j : Nat) : xb_t ((nI n).toInt64 <<< ((nI k).toInt64 &&& 63)) j = (decide (j < 64) && (decide (k ≤ j) && n.testBit (j - k))) := by
  rw [nI_l hn, wb_shl n hk, xb_lN, Nat.mul_comm, Nat.testBit_two_pow_mul]
theorem rb_255 (c : Nat) : Nat.testBit 255 c = decide (c < 8) := Nat.testBit_two_pow_sub_one 8 c
theorem rb_lt {n c : Nat} (hn : n < 256) (hc : 8 ≤ c) : n.testBit c = false := by
  apply Nat.testBit_lt_two_pow
  have : 2 ^ 8 ≤ 2 ^ c := Nat.pow_le_pow_right (by decide) hc
  omega
theorem rb_row {x : Int64} {a : Nat → Int32} {r n b w : Nat} {m : Int32} {M : Int64} (hr : r < 8) (hn : n < 256) (hx : xb_t x = yb_o a 0 m) (hM : ∀ j, xb_t M j = (decide (j < 64) && (decide (8 * r ≤ j) && Nat.testBit 255 (j - 8 * r)))) (hv : ∀ c, rb_v b w c = m ↔ n.testBit c = true) : xb_t ((x &&& (M ^^^ (-1))) ||| ((nI n).toInt64 <<< ((nI (8 * r)).toInt64 &&& 63))) = yb_o (rb_r a r b w 8) 0 m := by
  apply xb_fun (fun j hj => yb_ob hj)
  intro j hj
  rw [xb_or, xb_andn, hx, hM, rb_sh (by omega) (by omega), rb_255]
  unfold yb_o rb_r
  rw [Nat.zero_add]
  by_cases h : 8 * r ≤ j ∧ j < 8 * r + 8
  · rw [if_pos h, decide_eq_true hj, decide_eq_true h.1, decide_eq_true (show j - 8 * r < 8 by omega)]
    simp only [Bool.true_and, Bool.not_true, Bool.and_false, Bool.false_or]
    rw [Bool.eq_iff_iff, decide_eq_true_eq, ← hv]
    exact ⟨fun z => ⟨hj, z⟩, fun z => z.2⟩
  · rw [if_neg h]
    have e : (decide (8 * r ≤ j) && n.testBit (j - 8 * r)) = false := by
      by_cases h2 : 8 * r ≤ j
      · rw [rb_lt hn (by omega), Bool.and_false]
      · rw [decide_eq_false h2]; rfl
    have e2 : (decide (8 * r ≤ j) && decide (j - 8 * r < 8)) = false := by
      by_cases h2 : 8 * r ≤ j
      · rw [decide_eq_false (show ¬ j - 8 * r < 8 by omega), Bool.and_false]
      · rw [decide_eq_false h2]; rfl
    rw [e, e2, Bool.and_false, Bool.not_false, Bool.and_true, Bool.or_false]
theorem rb_rowt {a : Nat → Int32} {r b w : Nat} (h : ∀ j, j < 64 → a j = 0 ∨ a j = 1 ∨ a j = 2) : ∀ j, j < 64 → rb_r a r b w 8 j = 0 ∨ rb_r a r b w 8 j = 1 ∨ rb_r a r b w 8 j = 2 := by
  intro j hj
  unfold rb_r
  by_cases e : 8 * r ≤ j ∧ j < 8 * r + 8
  · rw [if_pos e]; exact rb_v3 _ _ _
  · rw [if_neg e]; exact h j hj
theorem rb_sl : ∀ n, n < 32 → ((nI n &&& 31).toBitVec.smod 32).toNat = n := by decide +kernel
theorem rb_bit {n c : Nat} (hn : n < 256) (hc : c < 8) : ((nI n >>> (nI c &&& 31)) &&& 1) = 1 ↔ n.testBit c = true := by
  rw [pk_shrN (by omega) _ c (rb_sl c (by omega)), pk_andN (Nat.lt_of_le_of_lt (Nat.div_le_self _ _) (by omega)) 1 (by decide), Nat.testBit_eq_decide_div_mod_eq, decide_eq_true_eq]
  have h := Nat.mod_lt (n / 2 ^ c) (show 0 < 2 ^ 1 by decide)
  have e : (1 : Int32) = nI 1 := by decide
  rw [e, nI_eq (by omega) (by omega)]
theorem rb_nand (a b : Nat) : nI a &&& nI b = nI (a &&& b) := by
  apply Int32.toBitVec_inj.1
  show BitVec.ofNat 32 a &&& BitVec.ofNat 32 b = BitVec.ofNat 32 (a &&& b)
  apply BitVec.eq_of_getLsbD_eq
  intro i hi
  simp [hi]
theorem rb_dis {b w : Nat} (hb : b < 256) (h : nI b &&& nI w = 0) (c : Nat) (h1 : b.testBit c = true) (h2 : w.testBit c = true) : False := by
  have h3 : b &&& w ≤ b := Nat.and_le_left
  rw [rb_nand, ← nI_0, nI_eq (by omega) (by omega)] at h
  have h4 : (b &&& w).testBit c = true := by rw [Nat.testBit_and, h1, h2]; rfl
  rw [h, Nat.zero_testBit] at h4
  cases h4
/-! empty squares -/
theorem rb_em {b w : Int64} {a : Nat → Int32} (h : rb_R b w a) {j : Nat} (hj : j < 64) : gm_em (xb_t b) (xb_t w) j = decide (a j = 0) := by
  obtain ⟨h1, h2, h3⟩ := h
  unfold gm_em
  rw [h1, h2, decide_eq_true hj]
  unfold yb_o
  rw [Nat.zero_add]
  rcases h3 j hj with e | e | e
  · rw [e, decide_eq_false (fun z => absurd z.2 (by decide)), decide_eq_false (fun z => absurd z.2 (by decide)), decide_eq_true rfl]; rfl
  · rw [e, decide_eq_true ⟨hj, rfl⟩, decide_eq_false (show ¬ (1 : Int32) = 0 by decide)]; rfl
  · rw [e, decide_eq_true (show j < 64 ∧ (2 : Int32) = 2 from ⟨hj, rfl⟩), decide_eq_false (show ¬ (2 : Int32) = 0 by decide), Bool.not_true, Bool.and_false]; rfl
theorem rb_get {b w : Int64} {a : Nat → Int32} (h : rb_R b w a) {j : Nat} (hj : j < 64) : (xb_t b j = true → a j = 1) ∧ (xb_t b j = false → xb_t w j = true → a j = 2) ∧ (xb_t b j = false → xb_t w j = false → a j = 0) := by
  obtain ⟨h1, h2, h3⟩ := h
  rw [h1, h2, yb_oi hj, yb_oi hj, yb_of hj, yb_of hj, Nat.zero_add]
  refine ⟨fun z => z, fun _ z => z, fun z1 z2 => ?_⟩
  rcases h3 j hj with e | e | e
  · exact e
  · exact absurd e z1
  · exact absurd e z2
