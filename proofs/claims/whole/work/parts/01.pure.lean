/-! the game without bytecode: discs of the mover p, of the other side q -/
abbrev gm_on (r c : Int) : Prop := (0 ≤ r ∧ r < 8) ∧ (0 ≤ c ∧ c < 8)
def gm_ix (r c : Int) : Nat := (8 * r + c).toNat
def gm_len (p q : Nat → Bool) (dr dc : Int) : Nat → Int → Int → Option Nat
  | 0, _, _ => none
  | n + 1, r, c => if gm_on r c then (if p (gm_ix r c) = true then some 0 else if q (gm_ix r c) = true then (gm_len p q dr dc n (r + dr) (c + dc)).map (fun k => k + 1) else none) else none
def gm_cov (dr dc : Int) : Nat → Int → Int → Nat → Bool
  | 0, _, _, _ => false
  | k + 1, r, c, j => decide (j = gm_ix r c) || gm_cov dr dc k (r + dr) (c + dc) j
def gm_dr (t : Nat) : Int := ((t / 3 : Nat) : Int) - 1
def gm_dc (t : Nat) : Int := ((t % 3 : Nat) : Int) - 1
def gm_r0 (s t : Nat) : Int := ((s / 8 : Nat) : Int) + gm_dr t
def gm_c0 (s t : Nat) : Int := ((s % 8 : Nat) : Int) + gm_dc t
def gm_k (p q : Nat → Bool) (s t : Nat) : Nat := if t = 4 then 0 else (gm_len p q (gm_dr t) (gm_dc t) 7 (gm_r0 s t) (gm_c0 s t)).getD 0
def gm_ray (p q : Nat → Bool) (s t : Nat) : Nat → Bool := gm_cov (gm_dr t) (gm_dc t) (gm_k p q s t) (gm_r0 s t) (gm_c0 s t)
def gm_acc (p q : Nat → Bool) (s : Nat) : Nat → Nat → Bool
  | 0, _ => false
  | t + 1, j => gm_acc p q s t j || gm_ray p q s t j
def gm_sum (p q : Nat → Bool) (s : Nat) : Nat → Nat
  | 0 => 0
  | t + 1 => gm_sum p q s t + gm_k p q s t
def gm_cnt (S : Nat → Bool) : Nat → Nat
  | 0 => 0
  | n + 1 => gm_cnt S n + (if S n = true then 1 else 0)
def gm_lg (p q : Nat → Bool) (s : Nat) : Bool := decide (s < 64) && (!p s && !q s) && decide (0 < gm_sum p q s 9)
def gm_fl (p q : Nat → Bool) (s : Nat) (j : Nat) : Bool := (!p s && !q s) && gm_acc p q s 9 j
def gm_g (p q : Nat → Bool) (s : Nat) (j : Nat) : Bool := gm_acc p q s 9 j || decide (j = s)
def gm_np (p q : Nat → Bool) (s : Nat) (j : Nat) : Bool := q j && !gm_g p q s j
def gm_nq (p q : Nat → Bool) (s : Nat) (j : Nat) : Bool := p j || gm_g p q s j
def gm_em (p q : Nat → Bool) (j : Nat) : Bool := decide (j < 64) && (!p j && !q j)
def gm_e (p q : Nat → Bool) : Nat := gm_cnt (gm_em p q) 64
def gm_hm (p q : Nat → Bool) : Bool := decide (0 < gm_cnt (gm_lg p q) 64)
def gm_fd (f : Nat → Int) (L : Nat → Bool) : Nat → Int × Int
  | 0 => (-65, -1)
  | s + 1 => if L s = true ∧ (gm_fd f L s).1 < f s then (f s, (s : Int)) else gm_fd f L s
def gm_df (p q : Nat → Bool) : Int := (gm_cnt p 64 : Int) - (gm_cnt q 64 : Int)
def gm_V : Nat → (Nat → Bool) → (Nat → Bool) → Int
  | 0, _, _ => 0
  | n + 1, p, q => if gm_hm p q = true then (gm_fd (fun s => -gm_V n (gm_np p q s) (gm_nq p q s)) (gm_lg p q) 64).1 else if gm_hm q p = true then -gm_V n q p else gm_df p q
def gm_W (p q : Nat → Bool) : Int := gm_V (2 * gm_e p q + 1) p q
def gm_f (p q : Nat → Bool) (s : Nat) : Int := -gm_W (gm_np p q s) (gm_nq p q s)
def gm_F (p q : Nat → Bool) : Int := if gm_hm p q = true then (gm_fd (gm_f p q) (gm_lg p q) 64).2 else if gm_hm q p = true then 64 else -1
theorem gm_nf {x : Bool} (h : ¬ x = false) : x = true := by cases x; exact absurd rfl h; rfl
theorem gm_nt {x : Bool} (h : ¬ x = true) : x = false := by cases x; rfl; exact absurd rfl h
theorem gm_st (r d : Int) (i : Nat) : r + ((i + 1 : Nat) : Int) * d = r + d + (i : Int) * d := by
  have e : ((i + 1 : Nat) : Int) = (i : Int) + 1 := by omega
  rw [e, Int.add_mul]; omega
theorem gm_s0 (r d : Int) : r + ((0 : Nat) : Int) * d = r := by
  have e : ((0 : Nat) : Int) = 0 := rfl
  rw [e, Int.zero_mul]; omega
theorem gm_dr3 {t : Nat} (h : t < 9) : gm_dr t = -1 ∨ gm_dr t = 0 ∨ gm_dr t = 1 := by unfold gm_dr; omega
theorem gm_dc3 (t : Nat) : gm_dc t = -1 ∨ gm_dc t = 0 ∨ gm_dc t = 1 := by unfold gm_dc; omega
theorem gm_dne {t : Nat} (h : t ≠ 4) : ¬ (gm_dr t = 0 ∧ gm_dc t = 0) := by unfold gm_dr gm_dc; omega
theorem gm_tinj {t t' : Nat} (h : gm_dr t = gm_dr t') (h' : gm_dc t = gm_dc t') : t = t' := by unfold gm_dr at h; unfold gm_dc at h'; omega
theorem gm_ixlt {r c : Int} (h : gm_on r c) : gm_ix r c < 64 := by unfold gm_ix; omega
theorem gm_ixinj {r c r' c' : Int} (h : gm_on r c) (h' : gm_on r' c') (e : gm_ix r c = gm_ix r' c') : r = r' ∧ c = c' := by unfold gm_ix at e; omega
theorem gm_ixI {r c : Int} (h : gm_on r c) : ((gm_ix r c : Nat) : Int) = 8 * r + c := by unfold gm_ix; omega
theorem gm_len_c {p q : Nat → Bool} {dr dc : Int} : ∀ (n : Nat) (r c : Int) (k : Nat), gm_len p q dr dc n r c = some k → ∀ i : Nat, i < k → gm_on (r + (i : Int) * dr) (c + (i : Int) * dc) ∧ p (gm_ix (r + (i : Int) * dr) (c + (i : Int) * dc)) = false ∧ q (gm_ix (r + (i : Int) * dr) (c + (i : Int) * dc)) = true := by
  intro n
  induction n with
  | zero => intro r c k h; simp [gm_len] at h
  | succ n ih =>
    intro r c k h i hi
    rw [gm_len] at h
    by_cases ho : gm_on r c
    · rw [if_pos ho] at h
      by_cases hp : p (gm_ix r c) = true
      · rw [if_pos hp] at h
        have e : 0 = k := by simpa using h
        omega
      · rw [if_neg hp] at h
        by_cases hq : q (gm_ix r c) = true
        · rw [if_pos hq] at h
          cases hl : gm_len p q dr dc n (r + dr) (c + dc) with
          | none => rw [hl] at h; simp at h
          | some k' =>
            rw [hl] at h
            have e : k' + 1 = k := by simpa using h
            cases i with
            | zero => rw [gm_s0, gm_s0]; exact ⟨ho, gm_nt hp, hq⟩
            | succ i => rw [gm_st, gm_st]; exact ih _ _ _ hl i (by omega)
        · rw [if_neg hq] at h; simp at h
    · rw [if_neg ho] at h; simp at h
theorem gm_len_lt {p q : Nat → Bool} {dr dc : Int} : ∀ (n : Nat) (r c : Int) (k : Nat), gm_len p q dr dc n r c = some k → k < n := by
  intro n
  induction n with
  | zero => intro r c k h; simp [gm_len] at h
  | succ n ih =>
    intro r c k h
    rw [gm_len] at h
    by_cases ho : gm_on r c
    · rw [if_pos ho] at h
      by_cases hp : p (gm_ix r c) = true
      · rw [if_pos hp] at h
        have e : 0 = k := by simpa using h
        omega
      · rw [if_neg hp] at h
        by_cases hq : q (gm_ix r c) = true
        · rw [if_pos hq] at h
          cases hl : gm_len p q dr dc n (r + dr) (c + dc) with
          | none => rw [hl] at h; simp at h
          | some k' =>
            rw [hl] at h
            have e : k' + 1 = k := by simpa using h
            have := ih _ _ _ hl
            omega
        · rw [if_neg hq] at h; simp at h
    · rw [if_neg ho] at h; simp at h
theorem gm_len_1 {p q : Nat → Bool} {dr dc : Int} : ∀ (n : Nat) (r c : Int), ¬ gm_on (r + (n : Int) * dr) (c + (n : Int) * dc) → gm_len p q dr dc (n + 1) r c = gm_len p q dr dc n r c := by
  intro n
  induction n with
  | zero =>
    intro r c h
    rw [gm_s0, gm_s0] at h
    show (if gm_on r c then _ else none) = none
    exact if_neg h
  | succ n ih =>
    intro r c h
    rw [gm_st, gm_st] at h
    rw [gm_len, ih _ _ h]
    rfl
theorem gm_len_q {p q p' q' : Nat → Bool} {dr dc : Int} : ∀ (n : Nat) (r c : Int), (∀ i : Nat, i < n → gm_on (r + (i : Int) * dr) (c + (i : Int) * dc) → p' (gm_ix (r + (i : Int) * dr) (c + (i : Int) * dc)) = p (gm_ix (r + (i : Int) * dr) (c + (i : Int) * dc)) ∧ q' (gm_ix (r + (i : Int) * dr) (c + (i : Int) * dc)) = q (gm_ix (r + (i : Int) * dr) (c + (i : Int) * dc))) → gm_len p' q' dr dc n r c = gm_len p q dr dc n r c := by
  intro n
  induction n with
  | zero => intro r c _; rfl
  | succ n ih =>
    intro r c h
    rw [gm_len, gm_len]
    by_cases ho : gm_on r c
    · have h0 := h 0 (by omega)
      rw [gm_s0, gm_s0] at h0
      obtain ⟨h1, h2⟩ := h0 ho
      rw [if_pos ho, if_pos ho, h1, h2, ih (r + dr) (c + dc)]
      intro i hi
      have := h (i + 1) (by omega)
      rw [gm_st, gm_st] at this
      exact this
    · rw [if_neg ho, if_neg ho]
theorem gm_cov_i {dr dc : Int} : ∀ (k : Nat) (r c : Int) (j : Nat), gm_cov dr dc k r c j = true ↔ ∃ i : Nat, i < k ∧ j = gm_ix (r + (i : Int) * dr) (c + (i : Int) * dc) := by
  intro k
  induction k with
  | zero => intro r c j; simp [gm_cov]
  | succ k ih =>
    intro r c j
    rw [gm_cov, Bool.or_eq_true, decide_eq_true_eq, ih]
    constructor
    · rintro (h | ⟨i, hi, e⟩)
      · exact ⟨0, by omega, by rw [gm_s0, gm_s0]; exact h⟩
      · exact ⟨i + 1, by omega, by rw [gm_st, gm_st]; exact e⟩
    · rintro ⟨i, hi, e⟩
      cases i with
      | zero => rw [gm_s0, gm_s0] at e; exact Or.inl e
      | succ i => rw [gm_st, gm_st] at e; exact Or.inr ⟨i, by omega, e⟩
theorem gm_k_c {p q : Nat → Bool} {s t i : Nat} (hi : i < gm_k p q s t) : t ≠ 4 ∧ gm_on (gm_r0 s t + (i : Int) * gm_dr t) (gm_c0 s t + (i : Int) * gm_dc t) ∧ p (gm_ix (gm_r0 s t + (i : Int) * gm_dr t) (gm_c0 s t + (i : Int) * gm_dc t)) = false ∧ q (gm_ix (gm_r0 s t + (i : Int) * gm_dr t) (gm_c0 s t + (i : Int) * gm_dc t)) = true := by
  unfold gm_k at hi
  by_cases h4 : t = 4
  · rw [if_pos h4] at hi; omega
  · rw [if_neg h4] at hi
    cases hl : gm_len p q (gm_dr t) (gm_dc t) 7 (gm_r0 s t) (gm_c0 s t) with
    | none => rw [hl] at hi; simp at hi
    | some k => rw [hl] at hi; exact ⟨h4, gm_len_c _ _ _ _ hl i (by simpa using hi)⟩
theorem gm_k7 (p q : Nat → Bool) (s t : Nat) : gm_k p q s t < 7 := by
  unfold gm_k
  by_cases h4 : t = 4
  · rw [if_pos h4]; omega
  · rw [if_neg h4]
    cases hl : gm_len p q (gm_dr t) (gm_dc t) 7 (gm_r0 s t) (gm_c0 s t) with
    | none => simp
    | some k => have := gm_len_lt _ _ _ _ hl; simpa using this
theorem gm_ray_i {p q : Nat → Bool} {s t j : Nat} (h : gm_ray p q s t j = true) : ∃ i : Nat, i < gm_k p q s t ∧ j = gm_ix (gm_r0 s t + (i : Int) * gm_dr t) (gm_c0 s t + (i : Int) * gm_dc t) := (gm_cov_i _ _ _ _).mp h
theorem gm_ray_b {p q : Nat → Bool} {s t j : Nat} (h : gm_ray p q s t j = true) : j < 64 ∧ p j = false ∧ q j = true := by
  obtain ⟨i, hi, e⟩ := gm_ray_i h
  obtain ⟨_, h1, h2, h3⟩ := gm_k_c hi
  rw [e]
  exact ⟨gm_ixlt h1, h2, h3⟩
theorem gm_sep1 {x : Int} {i i' : Nat} {a a' : Int} (ha : a = -1 ∨ a = 0 ∨ a = 1) (ha' : a' = -1 ∨ a' = 0 ∨ a' = 1) (h : x + a + (i : Int) * a = x + a' + (i' : Int) * a') : a = a' := by
  rcases ha with rfl | rfl | rfl <;> rcases ha' with rfl | rfl | rfl <;> omega
theorem gm_sep {s t t' i i' : Nat} (ht : t < 9) (ht' : t' < 9) (h : gm_on (gm_r0 s t + (i : Int) * gm_dr t) (gm_c0 s t + (i : Int) * gm_dc t)) (h' : gm_on (gm_r0 s t' + (i' : Int) * gm_dr t') (gm_c0 s t' + (i' : Int) * gm_dc t')) (e : gm_ix (gm_r0 s t + (i : Int) * gm_dr t) (gm_c0 s t + (i : Int) * gm_dc t) = gm_ix (gm_r0 s t' + (i' : Int) * gm_dr t') (gm_c0 s t' + (i' : Int) * gm_dc t')) : t = t' := by
  obtain ⟨e1, e2⟩ := gm_ixinj h h' e
  exact gm_tinj (gm_sep1 (gm_dr3 ht) (gm_dr3 ht') e1) (gm_sep1 (gm_dc3 t) (gm_dc3 t') e2)
theorem gm_acc_i {p q : Nat → Bool} {s j : Nat} : ∀ T : Nat, gm_acc p q s T j = true ↔ ∃ t : Nat, t < T ∧ gm_ray p q s t j = true := by
  intro T
  induction T with
  | zero => simp [gm_acc]
  | succ T ih =>
    rw [gm_acc, Bool.or_eq_true, ih]
    constructor
    · rintro (⟨t, ht, h⟩ | h)
      · exact ⟨t, by omega, h⟩
      · exact ⟨T, by omega, h⟩
    · rintro ⟨t, ht, h⟩
      by_cases hT : t = T
      · exact Or.inr (hT ▸ h)
      · exact Or.inl ⟨t, by omega, h⟩
theorem gm_acc_b {p q : Nat → Bool} {s j T : Nat} (h : gm_acc p q s T j = true) : j < 64 ∧ p j = false ∧ q j = true := by
  obtain ⟨t, _, h⟩ := (gm_acc_i T).mp h
  exact gm_ray_b h
/-- a cell of the ray t lies in no other ray -/
theorem gm_acc_o {p q : Nat → Bool} {s T t i : Nat} (hT : T ≤ 9) (htT : T ≤ t) (ht : t < 9) (ho : gm_on (gm_r0 s t + (i : Int) * gm_dr t) (gm_c0 s t + (i : Int) * gm_dc t)) : gm_acc p q s T (gm_ix (gm_r0 s t + (i : Int) * gm_dr t) (gm_c0 s t + (i : Int) * gm_dc t)) = false := by
  apply gm_nt
  intro h
  obtain ⟨t', ht', h⟩ := (gm_acc_i T).mp h
  obtain ⟨i', hi', e⟩ := gm_ray_i h
  have := gm_sep ht (by omega) ho (gm_k_c hi').2.1 e
  omega
