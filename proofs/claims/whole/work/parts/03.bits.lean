/-! bits of a long; the rows ts_ and wb_ are pasted from the rows to paste -/
theorem ts_nf {x : Bool} (h : ¬ x = false) : x = true := by cases x <;> first | rfl | exact absurd rfl h
theorem ts_nt {x : Bool} (h : ¬ x = true) : x = false := by cases x <;> first | rfl | exact absurd rfl h
theorem ts_bit {w : Int64} {s : UInt64} {j : Nat} (hj : j < 64) (hs : s.toNat = j) : ((w.toUInt64 >>> s).toInt64 &&& 1) = 0 ↔ w.toBitVec.getLsbD j = false := by
  have e : (w.toUInt64 >>> s).toInt64.toBitVec = w.toBitVec >>> j := by
    apply BitVec.eq_of_toNat_eq
    show (w.toUInt64 >>> s).toNat = _
    rw [UInt64.toNat_shiftRight, hs, Nat.mod_eq_of_lt hj, BitVec.toNat_ushiftRight]
    rfl
  rw [← Int64.toBitVec_inj, Int64.toBitVec_and, e]
  show w.toBitVec >>> j &&& 1#64 = 0#64 ↔ _
  constructor
  · intro h
    have t := congrArg (fun x => x.getLsbD 0) h
    simpa using t
  · intro h
    apply BitVec.eq_of_getLsbD_eq
    intro i hi
    cases i with
    | zero => simp [h]
    | succ i => simp
theorem ts_or {w m : Int64} {j : Nat} (hj : j < 64) (hm : m.toBitVec = BitVec.twoPow 64 j) : (w ||| m) = w ↔ w.toBitVec.getLsbD j = true := by
  rw [← Int64.toBitVec_inj, Int64.toBitVec_or, hm]
  constructor
  · intro h
    have t := congrArg (fun x => x.getLsbD j) h
    simp only [BitVec.getLsbD_or, BitVec.getLsbD_twoPow] at t
    simpa [hj] using t.symm
  · intro h
    apply BitVec.eq_of_getLsbD_eq
    intro i hi
    rw [BitVec.getLsbD_or, BitVec.getLsbD_twoPow]
    by_cases e : j = i
    · subst e; rw [h, Bool.true_or]
    · simp [e]
theorem ts_and {w m : Int64} {j : Nat} (hj : j < 64) (hm : m.toBitVec = BitVec.twoPow 64 j) : (w &&& (m ^^^ (-1))) = w ↔ w.toBitVec.getLsbD j = false := by
  have ha : (-1 : Int64).toBitVec = BitVec.allOnes 64 := by decide
  rw [← Int64.toBitVec_inj, Int64.toBitVec_and, Int64.toBitVec_xor, hm, ha]
  constructor
  · intro h
    have t := congrArg (fun x => x.getLsbD j) h
    simp only [BitVec.getLsbD_and, BitVec.getLsbD_xor, BitVec.getLsbD_twoPow, BitVec.getLsbD_allOnes] at t
    simpa [hj] using t.symm
  · intro h
    apply BitVec.eq_of_getLsbD_eq
    intro i hi
    rw [BitVec.getLsbD_and, BitVec.getLsbD_xor, BitVec.getLsbD_twoPow, BitVec.getLsbD_allOnes]
    by_cases e : j = i
    · subst e; rw [h, Bool.false_and]
    · simp [e, hi]
/-! ===== lN n to 2^64: shifts, and, or, masks, one bit ===== -/
theorem wb_tb (n : Nat) : (lN n).toBitVec = BitVec.ofNat 64 n := rfl
theorem wb_inj {a b : Int64} (h : a.toBitVec = b.toBitVec) : a = b := Int64.toBitVec_inj.mp h
theorem wb_tn {n : Nat} (h : n < 2 ^ 64) : (lN n).toBitVec.toNat = n := by rw [wb_tb, BitVec.toNat_ofNat, Nat.mod_eq_of_lt h]
theorem wb_of (x : Int64) : ∃ n, n < 2 ^ 64 ∧ x = lN n := ⟨x.toBitVec.toNat, x.toBitVec.isLt, wb_inj (by rw [wb_tb]; simp)⟩
theorem wb_of32 (x : Int32) : ∃ n, n < 2 ^ 32 ∧ x = nI n := ⟨x.toBitVec.toNat, x.toBitVec.isLt, Int32.toBitVec_inj.mp (by show _ = BitVec.ofNat 32 _; simp)⟩
theorem wb_c : ∀ k, k < 64 → ((nI k).toInt64 &&& 63) = lN k := by decide +kernel
theorem wb_cu : ∀ k, k < 64 → ((nI k).toInt64.toUInt64 &&& Int64.toUInt64 63) = UInt64.ofNat k := by decide +kernel
theorem wb_sm : ∀ k, k < 64 → (BitVec.ofNat 64 k).smod 64 = BitVec.ofNat 64 k := by decide +kernel
theorem wb_pw {a b : Nat} (h : a ≤ b) : 2 ^ b = 2 ^ a * 2 ^ (b - a) := by rw [← Nat.pow_add]; congr 1; omega
theorem wb_lt2 {a b : Nat} (h : a < b) : 2 ^ a < 2 ^ b := Nat.pow_lt_pow_right (by decide) h
theorem wb_mod (n : Nat) : lN n = lN (n % 2 ^ 64) := wb_inj (by rw [wb_tb, wb_tb]; apply BitVec.eq_of_toNat_eq; rw [BitVec.toNat_ofNat, BitVec.toNat_ofNat, Nat.mod_mod])
theorem wb_shr {n k : Nat} (hn : n < 2 ^ 64) (hk : k < 64) : ((lN n).toUInt64 >>> ((nI k).toInt64.toUInt64 &&& Int64.toUInt64 63)).toInt64 = lN (n / 2 ^ k) := by
  rw [wb_cu k hk]
  apply wb_inj
  apply BitVec.eq_of_toNat_eq
  show ((lN n).toUInt64 >>> UInt64.ofNat k).toNat = (BitVec.ofNat 64 _).toNat
  have h1 : (UInt64.ofNat k).toNat = k := by
    show (BitVec.ofNat 64 k).toNat = k
    rw [BitVec.toNat_ofNat, Nat.mod_eq_of_lt (by omega)]
  have h2 : (lN n).toUInt64.toNat = n := wb_tn hn
  rw [UInt64.toNat_shiftRight, h1, h2, Nat.mod_eq_of_lt hk, Nat.shiftRight_eq_div_pow, BitVec.toNat_ofNat, Nat.mod_eq_of_lt (Nat.lt_of_le_of_lt (Nat.div_le_self _ _) hn)]
theorem wb_shl (n : Nat) {k : Nat} (hk : k < 64) : lN n <<< ((nI k).toInt64 &&& 63) = lN (n * 2 ^ k) := by
  rw [wb_c k hk]
  apply wb_inj
  rw [Int64.toBitVec_shiftLeft, wb_tb, wb_tb, wb_tb, wb_sm k hk]
  apply BitVec.eq_of_toNat_eq
  rw [BitVec.shiftLeft_eq', BitVec.toNat_shiftLeft, BitVec.toNat_ofNat, BitVec.toNat_ofNat, BitVec.toNat_ofNat, Nat.mod_eq_of_lt (show k < 2 ^ 64 by omega), Nat.shiftLeft_eq, Nat.mul_mod, Nat.mod_mod, ← Nat.mul_mod]
def xb_t (w : Int64) (j : Nat) : Bool := w.toBitVec.getLsbD j
theorem xb_big (w : Int64) {j : Nat} (h : 64 ≤ j) : xb_t w j = false := BitVec.getLsbD_of_ge _ _ h
theorem xb_lt {w : Int64} {j : Nat} (h : xb_t w j = true) : j < 64 := by
  rcases Nat.lt_or_ge j 64 with z | z
  · exact z
  · rw [xb_big w z] at h; cases h
theorem xb_ext {a b : Int64} (h : ∀ j, j < 64 → xb_t a j = xb_t b j) : a = b := wb_inj (BitVec.eq_of_getLsbD_eq (fun i hi => h i hi))
theorem xb_fun {w : Int64} {S : Nat → Bool} (hS : ∀ j, 64 ≤ j → S j = false) (h : ∀ j, j < 64 → xb_t w j = S j) : xb_t w = S := by
  funext j
  rcases Nat.lt_or_ge j 64 with z | z
  · exact h j z
  · rw [xb_big w z, hS j z]
theorem xb_or (a b : Int64) (j : Nat) : xb_t (a ||| b) j = (xb_t a j || xb_t b j) := by unfold xb_t; rw [Int64.toBitVec_or, BitVec.getLsbD_or]
theorem xb_and (a b : Int64) (j : Nat) : xb_t (a &&& b) j = (xb_t a j && xb_t b j) := by unfold xb_t; rw [Int64.toBitVec_and, BitVec.getLsbD_and]
theorem xb_0 (j : Nat) : xb_t 0 j = false := BitVec.getLsbD_zero
theorem xb_m1 {j : Nat} (h : j < 64) : xb_t (-1) j = true := by
  have e : (-1 : Int64).toBitVec = BitVec.allOnes 64 := by decide
  unfold xb_t
  rw [e, BitVec.getLsbD_allOnes, decide_eq_true h]
theorem xb_not (a : Int64) {j : Nat} (h : j < 64) : xb_t (a ^^^ (-1)) j = !xb_t a j := by
  have h2 : xb_t (a ^^^ (-1)) j = (xb_t a j ^^ xb_t (-1) j) := by unfold xb_t; rw [Int64.toBitVec_xor, BitVec.getLsbD_xor]
  rw [h2, xb_m1 h, Bool.xor_true]
theorem xb_andn (a b : Int64) (j : Nat) : xb_t (a &&& (b ^^^ (-1))) j = (xb_t a j && !xb_t b j) := by
  rw [xb_and]
  rcases Nat.lt_or_ge j 64 with z | z
  · rw [xb_not b z]
  · rw [xb_big a z]; rfl
theorem xb_z {w : Int64} : w = 0 ↔ ∀ j, xb_t w j = false := by
  constructor
  · intro h j; rw [h]; exact xb_0 j
  · intro h; exact xb_ext (fun j _ => by rw [h j, xb_0])
theorem xb_nz {w : Int64} : ¬ w = 0 ↔ ∃ j, xb_t w j = true := by
  rw [xb_z]
  constructor
  · intro h
    by_cases hx : ∃ j, xb_t w j = true
    · exact hx
    · exact absurd (fun j => ts_nt (fun z => hx ⟨j, z⟩)) h
  · rintro ⟨j, hj⟩ h
    rw [h j] at hj; cases hj
theorem xb_lN (n j : Nat) : xb_t (lN n) j = (decide (j < 64) && n.testBit j) := by
  unfold xb_t
  rw [wb_tb, BitVec.getLsbD_ofNat]
theorem xb_1 {k : Nat} (hk : k < 64) (j : Nat) : xb_t ((1 : Int64) <<< ((nI k).toInt64 &&& 63)) j = decide (j = k) := by
  have e : (1 : Int64) = lN 1 := by decide
  rw [e, wb_shl 1 hk, xb_lN, Nat.one_mul, Nat.testBit_two_pow]
  by_cases h : j = k
  · rw [decide_eq_true h, decide_eq_true h.symm, decide_eq_true (by omega)]; rfl
  · rw [decide_eq_false h, decide_eq_false (show ¬ k = j from fun z => h z.symm), Bool.and_false]
theorem xb_has (w : Int64) {k : Nat} (hk : k < 64) : ((w.toUInt64 >>> ((nI k).toInt64.toUInt64 &&& Int64.toUInt64 63)).toInt64 &&& 1) = 0 ↔ xb_t w k = false := by
  apply ts_bit hk
  rw [wb_cu k hk]
  exact UInt64.toNat_ofNat_of_lt' (by show k < 2 ^ 64; omega)
theorem xb_at {w b : Int64} {k : Nat} (hb : ∀ j, xb_t b j = decide (j = k)) : (w &&& b) = 0 ↔ xb_t w k = false := by
  rw [xb_z]
  constructor
  · intro h
    have := h k
    rw [xb_and, hb, decide_eq_true rfl, Bool.and_true] at this
    exact this
  · intro h j
    rw [xb_and, hb]
    by_cases hj : j = k
    · rw [hj, h]; rfl
    · rw [decide_eq_false hj, Bool.and_false]
theorem xb_car (w : BitVec 64) : ∀ i : Nat, i ≤ 64 → (BitVec.carry i w (BitVec.allOnes 64) false = true ↔ ∃ j, j < i ∧ w.getLsbD j = true) := by
  intro i
  induction i with
  | zero => intro _; rw [BitVec.carry_zero]; exact ⟨fun h => (by cases h), fun ⟨j, hj, _⟩ => by omega⟩
  | succ i ih =>
    intro hi
    rw [BitVec.carry_succ, BitVec.getLsbD_allOnes, decide_eq_true (show i < 64 by omega)]
    have e : Bool.atLeastTwo (w.getLsbD i) true (BitVec.carry i w (BitVec.allOnes 64) false) = (w.getLsbD i || BitVec.carry i w (BitVec.allOnes 64) false) := by
      cases w.getLsbD i <;> cases BitVec.carry i w (BitVec.allOnes 64) false <;> rfl
    rw [e, Bool.or_eq_true, ih (by omega)]
    constructor
    · rintro (h | ⟨j, hj, h⟩)
      · exact ⟨i, by omega, h⟩
      · exact ⟨j, by omega, h⟩
    · rintro ⟨j, hj, h⟩
      by_cases hji : j = i
      · exact Or.inl (hji ▸ h)
      · exact Or.inr ⟨j, by omega, h⟩
theorem xb_low {w : Int64} {x : Nat} (hx : xb_t w x = true) (hl : ∀ j, j < x → xb_t w j = false) (j : Nat) : xb_t (w &&& (w - 1)) j = (xb_t w j && !decide (j = x)) := by
  rw [xb_and]
  rcases Nat.lt_or_ge j 64 with z | z
  · have e1 : xb_t (w - 1) j = (w.toBitVec.getLsbD j ^^ (true ^^ BitVec.carry j w.toBitVec (BitVec.allOnes 64) false)) := by
      unfold xb_t
      have e : (w - 1).toBitVec = w.toBitVec + BitVec.allOnes 64 := by
        rw [Int64.toBitVec_sub, BitVec.sub_eq_add_neg]
        rfl
      rw [e, BitVec.getLsbD_add z, BitVec.getLsbD_allOnes, decide_eq_true z]
    rw [e1]
    have hc := xb_car w.toBitVec j (by omega)
    rcases Nat.lt_trichotomy j x with h | h | h
    · rw [hl j h, Bool.false_and, Bool.false_and]
    · have hcf : BitVec.carry j w.toBitVec (BitVec.allOnes 64) false = false := ts_nt (fun hh => by
        obtain ⟨i, hi, h2⟩ := hc.mp hh
        have h3 : xb_t w i = false := hl i (by omega)
        unfold xb_t at h3
        rw [h3] at h2; cases h2)
      rw [hcf, h]
      have hx2 : w.toBitVec.getLsbD x = true := hx
      rw [hx, hx2, decide_eq_true rfl]
      rfl
    · have hct : BitVec.carry j w.toBitVec (BitVec.allOnes 64) false = true := hc.mpr ⟨x, h, hx⟩
      rw [hct, decide_eq_false (by omega)]
      show (xb_t w j && (xb_t w j ^^ (true ^^ true))) = (xb_t w j && !false)
      cases xb_t w j <;> rfl
  · rw [xb_big w z]; rfl
/-! an int from an integer -/
def zi_z (x : Int) : Int32 := Int32.ofInt x
theorem zi_n (n : Nat) : zi_z (n : Int) = nI n := Int32.ofInt_eq_ofNat
theorem zi_t {x : Int} (h : -1000000 ≤ x) (h' : x ≤ 1000000) : (zi_z x).toInt = x := Int32.toInt_ofInt_of_le (by omega) (by omega)
theorem zi_add (x y : Int) : zi_z x + zi_z y = zi_z (x + y) := (Int32.ofInt_add x y).symm
theorem zi_mul (x y : Int) : zi_z x * zi_z y = zi_z (x * y) := (Int32.ofInt_mul x y).symm
theorem zi_sub (x y : Int) : zi_z x - zi_z y = zi_z (x - y) := (Int32.ofInt_sub x y).symm
theorem zi_neg (x : Int) : -zi_z x = zi_z (-x) := (Int32.ofInt_neg x).symm
theorem zi_lt {x y : Int} (h1 : -1000000 ≤ x) (h2 : x ≤ 1000000) (h3 : -1000000 ≤ y) (h4 : y ≤ 1000000) : zi_z x < zi_z y ↔ x < y := by
  rw [Int32.lt_iff_toInt_lt, zi_t h1 h2, zi_t h3 h4]
theorem zi_le {x y : Int} (h1 : -1000000 ≤ x) (h2 : x ≤ 1000000) (h3 : -1000000 ≤ y) (h4 : y ≤ 1000000) : zi_z x ≤ zi_z y ↔ x ≤ y := by
  rw [Int32.le_iff_toInt_le, zi_t h1 h2, zi_t h3 h4]
theorem zi_eq {x y : Int} (h1 : -1000000 ≤ x) (h2 : x ≤ 1000000) (h3 : -1000000 ≤ y) (h4 : y ≤ 1000000) : zi_z x = zi_z y ↔ x = y := by
  rw [← Int32.toInt_inj, zi_t h1 h2, zi_t h3 h4]
theorem zi_m1 : (-1 : Int32) = zi_z (-1) := by decide
theorem zi_0 : (0 : Int32) = zi_z 0 := by decide
theorem pk_us {f : Nat → Int32} {k : Nat} {x : Int32} : upd f k x k = x := if_pos rfl
theorem pk_un {f : Nat → Int32} {k j : Nat} {x : Int32} (h : j ≠ k) : upd f k x j = f j := if_neg h
theorem pk_uLs {f : Nat → Int64} {k : Nat} {x : Int64} : vp_updL f k x k = x := if_pos rfl
theorem pk_uLn {f : Nat → Int64} {k j : Nat} {x : Int64} (h : j ≠ k) : vp_updL f k x j = f j := if_neg h
theorem pk_sub {a b : Nat} (h : b ≤ a) : nI a - nI b = nI (a - b) := by
  obtain ⟨c, rfl⟩ : ∃ c, a = c + b := ⟨a - b, by omega⟩
  rw [← nI_add, Int32.add_sub_cancel, Nat.add_sub_cancel]
theorem pk_m1 (n : Nat) : nI (n + 1) + (-1) = nI n := by
  rw [← nI_1, Int32.add_assoc, show (1 : Int32) + (-1) = 0 from rfl, Int32.add_zero]
theorem pk_mul (a b : Nat) : nI a * nI b = nI (a * b) := (Int32.ofNat_mul a b).symm
theorem pk_div {a d : Nat} (ha : a < 2 ^ 31) (h0 : 0 < d) (hd : d < 2 ^ 31) : nI a / nI d = nI (a / d) := by
  apply Int32.toInt_inj.mp
  rw [lg_idiv_nonneg (by rw [nI_toInt ha]; omega) (by rw [nI_toInt hd]; omega), nI_toInt ha, nI_toInt hd, nI_toInt (Nat.lt_of_le_of_lt (Nat.div_le_self a d) ha)]
  first | rfl | exact (Int.natCast_ediv _ _).symm
theorem pk_rem {a d : Nat} (ha : a < 2 ^ 31) (h0 : 0 < d) (hd : d < 2 ^ 31) : nI a - nI a / nI d * nI d = nI (a % d) := by
  rw [pk_div ha h0 hd, pk_mul, pk_sub (Nat.div_mul_le_self a d)]
  exact congrArg nI (by have := Nat.div_add_mod' a d; omega)
theorem pk_sub_toInt {a b : Nat} (ha : a < 2 ^ 30) (hb : b < 2 ^ 30) : (nI a - nI b).toInt = (a : Int) - b := by
  rw [Int32.toInt_sub, nI_toInt (by omega), nI_toInt (by omega)]
  exact Int.bmod_eq_of_le (by omega) (by omega)
theorem pk_sneg {a b : Nat} (hb : b < 2 ^ 30) (h : a < b) : nI a - nI b < 0 := by
  rw [Int32.lt_iff_toInt_lt, pk_sub_toInt (by omega) hb, show (0 : Int32).toInt = 0 from by decide]
  omega
theorem pk_ix (x : Int32) {n : Nat} (hn : n < 2 ^ 31) : x < 0 ∨ nI n ≤ x ∨ ∃ j : Nat, j < n ∧ x = nI j := by
  by_cases h : x < 0
  · exact Or.inl h
  · obtain ⟨j, hj, rfl⟩ := nI_of h
    by_cases h2 : j < n
    · exact Or.inr (Or.inr ⟨j, h2, rfl⟩)
    · exact Or.inr (Or.inl (nI_le (by omega) hj))
theorem pk_le {x y : Int32} {A B : Prop} (a b : Nat) (f : a ≤ b → A) (g : b < a → B) (hx : x = nI a := by rfl) (hy : y = nI b := by rfl) (ha : a < 2 ^ 31 := by omega) (hb : b < 2 ^ 31 := by omega) : (x ≤ y → A) ∧ (¬ x ≤ y → B) := by
  subst hx hy
  rw [nI_leI ha hb]
  exact ⟨f, fun z => g (by omega)⟩
theorem pk_lt {x y : Int32} {A B : Prop} (a b : Nat) (f : a < b → A) (g : b ≤ a → B) (hx : x = nI a := by rfl) (hy : y = nI b := by rfl) (ha : a < 2 ^ 31 := by omega) (hb : b < 2 ^ 31 := by omega) : (x < y → A) ∧ (¬ x < y → B) := by
  subst hx hy
  rw [nI_ltI ha hb]
  exact ⟨f, fun z => g (by omega)⟩
theorem pk_eq {x y : Int32} {A B : Prop} (a b : Nat) (f : a = b → A) (g : a ≠ b → B) (hx : x = nI a := by rfl) (hy : y = nI b := by rfl) (ha : a < 2 ^ 31 := by omega) (hb : b < 2 ^ 31 := by omega) : (x = y → A) ∧ (¬ x = y → B) := by
  subst hx hy
  rw [nI_eq ha hb]
  exact ⟨f, g⟩
theorem pk_in {x : Int32} (n N : Nat) (h : n < N) (hx : x = nI n := by rfl) (hN : N < 2 ^ 31 := by omega) : vp_in x N := by
  subst hx
  exact vp_in_nI h hN
theorem pk_cl {x : Int32} (n : Nat) (hx : x = nI n := by rfl) (h : n < 2 ^ 31 := by omega) : x.toNatClampNeg = n := by
  subst hx
  exact nI_clamp h
theorem pk_tn {n : Nat} (h : n < 2 ^ 32) : (nI n).toBitVec.toNat = n := Nat.mod_eq_of_lt h
theorem pk_and (x : Int32) {m : Int32} (k : Nat) (hm : m.toBitVec.toNat = 2 ^ k - 1) : x &&& m = nI (x.toBitVec.toNat % 2 ^ k) := by
  apply Int32.toBitVec_inj.mp
  apply BitVec.eq_of_toNat_eq
  rw [Int32.toBitVec_and, BitVec.toNat_and, hm, Nat.and_two_pow_sub_one_eq_mod]
  show _ = (BitVec.ofNat 32 _).toNat
  rw [BitVec.toNat_ofNat]
  exact (Nat.mod_eq_of_lt (Nat.lt_of_le_of_lt (Nat.mod_le _ _) x.toBitVec.isLt)).symm
theorem pk_andN {n : Nat} (h : n < 2 ^ 32) {m : Int32} (k : Nat) (hm : m.toBitVec.toNat = 2 ^ k - 1) : nI n &&& m = nI (n % 2 ^ k) := by
  rw [pk_and _ k hm, pk_tn h]
theorem pk_andE (x : Int32) {m : Int32} (k : Nat) (hm : m.toBitVec.toNat = 2 ^ k - 1) : ∃ j : Nat, j < 2 ^ k ∧ x &&& m = nI j := ⟨_, Nat.mod_lt _ (Nat.two_pow_pos k), pk_and x k hm⟩
theorem pk_andIn (x : Int32) {m : Int32} (k : Nat) (hm : m.toBitVec.toNat = 2 ^ k - 1) (hk : k ≤ 30) : vp_in (x &&& m) (2 ^ k) := by
  obtain ⟨j, hj, e⟩ := pk_andE x k hm
  rw [e]
  exact vp_in_nI hj (Nat.lt_of_le_of_lt (Nat.pow_le_pow_right (by decide) hk) (by decide))
theorem pk_shl (a s : Int32) (k : Nat) (hs : (s.toBitVec.smod 32).toNat = k) : (a <<< s).toBitVec.toNat = a.toBitVec.toNat * 2 ^ k % 2 ^ 32 := by
  show (a.toBitVec <<< (s.toBitVec.smod 32).toNat).toNat = _
  rw [hs, BitVec.toNat_shiftLeft, Nat.shiftLeft_eq]
theorem pk_shlN {n : Nat} (s : Int32) (k : Nat) (hs : (s.toBitVec.smod 32).toNat = k) (h : n * 2 ^ k < 2 ^ 32) : nI n <<< s = nI (n * 2 ^ k) := by
  apply Int32.toBitVec_inj.mp
  apply BitVec.eq_of_toNat_eq
  have hn : n < 2 ^ 32 := Nat.lt_of_le_of_lt (Nat.le_mul_of_pos_right n (Nat.two_pow_pos k)) h
  rw [pk_shl _ _ k hs, pk_tn hn, pk_tn h, Nat.mod_eq_of_lt h]
theorem pk_shr (a s : Int32) (k : Nat) (hs : (s.toBitVec.smod 32).toNat = k) : (a >>> s).toInt = a.toInt >>> k := by
  show (a.toBitVec.sshiftRight (s.toBitVec.smod 32).toNat).toInt = _
  rw [hs, BitVec.toInt_sshiftRight]
  rfl
theorem pk_shrN {n : Nat} (h : n < 2 ^ 31) (s : Int32) (k : Nat) (hs : (s.toBitVec.smod 32).toNat = k) : nI n >>> s = nI (n / 2 ^ k) := by
  apply Int32.toInt_inj.mp
  have h2 : n / 2 ^ k ≤ n := Nat.div_le_self _ _
  rw [pk_shr _ _ k hs, nI_toInt h, nI_toInt (by omega), Int.shiftRight_eq_div_pow]
  rfl
theorem pk_ushr (x s : Int32) (k : Nat) (hs : ((s.toUInt32 &&& Int32.toUInt32 31).toBitVec % 32).toNat = k) : (x.toUInt32 >>> (s.toUInt32 &&& Int32.toUInt32 31)).toInt32.toBitVec.toNat = x.toBitVec.toNat / 2 ^ k := by
  have e : (x.toUInt32 >>> (s.toUInt32 &&& Int32.toUInt32 31)).toInt32.toBitVec = x.toBitVec >>> k := by
    rw [← hs]
    exact UInt32.toBitVec_shiftRight _ _
  rw [e, BitVec.toNat_ushiftRight, Nat.shiftRight_eq_div_pow]
theorem pk_ushrN {n : Nat} (hn : n < 2 ^ 32) (s : Int32) (k : Nat) (hs : ((s.toUInt32 &&& Int32.toUInt32 31).toBitVec % 32).toNat = k) : ((nI n).toUInt32 >>> (s.toUInt32 &&& Int32.toUInt32 31)).toInt32 = nI (n / 2 ^ k) := by
  apply Int32.toBitVec_inj.mp
  apply BitVec.eq_of_toNat_eq
  rw [pk_ushr _ s k hs, pk_tn hn, pk_tn (Nat.lt_of_le_of_lt (Nat.div_le_self _ _) hn)]
