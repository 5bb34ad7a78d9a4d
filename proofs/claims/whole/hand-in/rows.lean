section
/-! the game without bytecode: discs of the mover p, of the other side q -/
abbrev gm_on (r c : Int) : Prop := (0 ≤ r ∧ r < 8) ∧ (0 ≤ c ∧ c < 8)
def gm_ix (r c : Int) : Nat := (8 * r + c).toNat
def gm_len (p q : Nat → Bool) (dr dc : Int) : Nat → Int → Int → Option Nat
  | 0, _, _ => none
  | n + 1, r, c => if gm_on r c then (if p (gm_ix r c) = true then some 0 else if q (gm_ix r c) = true then (gm_len p q dr dc n (r + dr) (c + dc)).map (fun k => k + 1) else none) else none
def gm_cov (dr dc : Int) : Nat → Int → Int → Nat → Bool
  | 0, _, _, _ => false
  | k + 1, r, c, j => decide (j = gm_ix r c) || gm_cov dr dc k (r + dr) (c + dc) j
def gm_dr (t : Nat) : Int := ((t / 3 : Nat) : Int) - 1
def gm_dc (t : Nat) : Int := ((t % 3 : Nat) : Int) - 1
def gm_r0 (s t : Nat) : Int := ((s / 8 : Nat) : Int) + gm_dr t
def gm_c0 (s t : Nat) : Int := ((s % 8 : Nat) : Int) + gm_dc t
def gm_k (p q : Nat → Bool) (s t : Nat) : Nat := if t = 4 then 0 else (gm_len p q (gm_dr t) (gm_dc t) 7 (gm_r0 s t) (gm_c0 s t)).getD 0
def gm_ray (p q : Nat → Bool) (s t : Nat) : Nat → Bool := gm_cov (gm_dr t) (gm_dc t) (gm_k p q s t) (gm_r0 s t) (gm_c0 s t)
def gm_acc (p q : Nat → Bool) (s : Nat) : Nat → Nat → Bool
  | 0, _ => false
  | t + 1, j => gm_acc p q s t j || gm_ray p q s t j
def gm_sum (p q : Nat → Bool) (s : Nat) : Nat → Nat
  | 0 => 0
  | t + 1 => gm_sum p q s t + gm_k p q s t
def gm_cnt (S : Nat → Bool) : Nat → Nat
  | 0 => 0
  | n + 1 => gm_cnt S n + (if S n = true then 1 else 0)
def gm_lg (p q : Nat → Bool) (s : Nat) : Bool := decide (s < 64) && (!p s && !q s) && decide (0 < gm_sum p q s 9)
def gm_fl (p q : Nat → Bool) (s : Nat) (j : Nat) : Bool := (!p s && !q s) && gm_acc p q s 9 j
def gm_g (p q : Nat → Bool) (s : Nat) (j : Nat) : Bool := gm_acc p q s 9 j || decide (j = s)
def gm_np (p q : Nat → Bool) (s : Nat) (j : Nat) : Bool := q j && !gm_g p q s j
def gm_nq (p q : Nat → Bool) (s : Nat) (j : Nat) : Bool := p j || gm_g p q s j
def gm_em (p q : Nat → Bool) (j : Nat) : Bool := decide (j < 64) && (!p j && !q j)
def gm_e (p q : Nat → Bool) : Nat := gm_cnt (gm_em p q) 64
def gm_hm (p q : Nat → Bool) : Bool := decide (0 < gm_cnt (gm_lg p q) 64)
def gm_fd (f : Nat → Int) (L : Nat → Bool) : Nat → Int × Int
  | 0 => (-65, -1)
  | s + 1 => if L s = true ∧ (gm_fd f L s).1 < f s then (f s, (s : Int)) else gm_fd f L s
def gm_df (p q : Nat → Bool) : Int := (gm_cnt p 64 : Int) - (gm_cnt q 64 : Int)
def gm_V : Nat → (Nat → Bool) → (Nat → Bool) → Int
  | 0, _, _ => 0
  | n + 1, p, q => if gm_hm p q = true then (gm_fd (fun s => -gm_V n (gm_np p q s) (gm_nq p q s)) (gm_lg p q) 64).1 else if gm_hm q p = true then -gm_V n q p else gm_df p q
def gm_W (p q : Nat → Bool) : Int := gm_V (2 * gm_e p q + 1) p q
def gm_f (p q : Nat → Bool) (s : Nat) : Int := -gm_W (gm_np p q s) (gm_nq p q s)
def gm_F (p q : Nat → Bool) : Int := if gm_hm p q = true then (gm_fd (gm_f p q) (gm_lg p q) 64).2 else if gm_hm q p = true then 64 else -1
theorem gm_nf {x : Bool} (h : ¬ x = false) : x = true := by cases x; exact absurd rfl h; rfl
theorem gm_nt {x : Bool} (h : ¬ x = true) : x = false := by cases x; rfl; exact absurd rfl h
theorem gm_st (r d : Int) (i : Nat) : r + ((i + 1 : Nat) : Int) * d = r + d + (i : Int) * d := by
  have e : ((i + 1 : Nat) : Int) = (i : Int) + 1 := by omega
  rw [e, Int.add_mul]; omega
theorem gm_s0 (r d : Int) : r + ((0 : Nat) : Int) * d = r := by
  have e : ((0 : Nat) : Int) = 0 := rfl
  rw [e, Int.zero_mul]; omega
theorem gm_dr3 {t : Nat} (h : t < 9) : gm_dr t = -1 ∨ gm_dr t = 0 ∨ gm_dr t = 1 := by unfold gm_dr; omega
theorem gm_dc3 (t : Nat) : gm_dc t = -1 ∨ gm_dc t = 0 ∨ gm_dc t = 1 := by unfold gm_dc; omega
theorem gm_dne {t : Nat} (h : t ≠ 4) : ¬ (gm_dr t = 0 ∧ gm_dc t = 0) := by unfold gm_dr gm_dc; omega
theorem gm_tinj {t t' : Nat} (h : gm_dr t = gm_dr t') (h' : gm_dc t = gm_dc t') : t = t' := by unfold gm_dr at h; unfold gm_dc at h'; omega
theorem gm_ixlt {r c : Int} (h : gm_on r c) : gm_ix r c < 64 := by unfold gm_ix; omega
theorem gm_ixinj {r c r' c' : Int} (h : gm_on r c) (h' : gm_on r' c') (e : gm_ix r c = gm_ix r' c') : r = r' ∧ c = c' := by unfold gm_ix at e; omega
theorem gm_ixI {r c : Int} (h : gm_on r c) : ((gm_ix r c : Nat) : Int) = 8 * r + c := by unfold gm_ix; omega
theorem gm_len_c {p q : Nat → Bool} {dr dc : Int} : ∀ (n : Nat) (r c : Int) (k : Nat), gm_len p q dr dc n r c = some k → ∀ i : Nat, i < k → gm_on (r + (i : Int) * dr) (c + (i : Int) * dc) ∧ p (gm_ix (r + (i : Int) * dr) (c + (i : Int) * dc)) = false ∧ q (gm_ix (r + (i : Int) * dr) (c + (i : Int) * dc)) = true := by
  intro n
  induction n with
  | zero => intro r c k h; simp [gm_len] at h
  | succ n ih =>
    intro r c k h i hi
    rw [gm_len] at h
    by_cases ho : gm_on r c
    · rw [if_pos ho] at h
      by_cases hp : p (gm_ix r c) = true
      · rw [if_pos hp] at h
        have e : 0 = k := by simpa using h
        omega
      · rw [if_neg hp] at h
        by_cases hq : q (gm_ix r c) = true
        · rw [if_pos hq] at h
          cases hl : gm_len p q dr dc n (r + dr) (c + dc) with
          | none => rw [hl] at h; simp at h
          | some k' =>
            rw [hl] at h
            have e : k' + 1 = k := by simpa using h
            cases i with
            | zero => rw [gm_s0, gm_s0]; exact ⟨ho, gm_nt hp, hq⟩
            | succ i => rw [gm_st, gm_st]; exact ih _ _ _ hl i (by omega)
        · rw [if_neg hq] at h; simp at h
    · rw [if_neg ho] at h; simp at h
theorem gm_len_lt {p q : Nat → Bool} {dr dc : Int} : ∀ (n : Nat) (r c : Int) (k : Nat), gm_len p q dr dc n r c = some k → k < n := by
  intro n
  induction n with
  | zero => intro r c k h; simp [gm_len] at h
  | succ n ih =>
    intro r c k h
    rw [gm_len] at h
    by_cases ho : gm_on r c
    · rw [if_pos ho] at h
      by_cases hp : p (gm_ix r c) = true
      · rw [if_pos hp] at h
        have e : 0 = k := by simpa using h
        omega
      · rw [if_neg hp] at h
        by_cases hq : q (gm_ix r c) = true
        · rw [if_pos hq] at h
          cases hl : gm_len p q dr dc n (r + dr) (c + dc) with
          | none => rw [hl] at h; simp at h
          | some k' =>
            rw [hl] at h
            have e : k' + 1 = k := by simpa using h
            have := ih _ _ _ hl
            omega
        · rw [if_neg hq] at h; simp at h
    · rw [if_neg ho] at h; simp at h
theorem gm_len_1 {p q : Nat → Bool} {dr dc : Int} : ∀ (n : Nat) (r c : Int), ¬ gm_on (r + (n : Int) * dr) (c + (n : Int) * dc) → gm_len p q dr dc (n + 1) r c = gm_len p q dr dc n r c := by
  intro n
  induction n with
  | zero =>
    intro r c h
    rw [gm_s0, gm_s0] at h
    show (if gm_on r c then _ else none) = none
    exact if_neg h
  | succ n ih =>
    intro r c h
    rw [gm_st, gm_st] at h
    rw [gm_len, ih _ _ h]
    rfl
theorem gm_len_q {p q p' q' : Nat → Bool} {dr dc : Int} : ∀ (n : Nat) (r c : Int), (∀ i : Nat, i < n → gm_on (r + (i : Int) * dr) (c + (i : Int) * dc) → p' (gm_ix (r + (i : Int) * dr) (c + (i : Int) * dc)) = p (gm_ix (r + (i : Int) * dr) (c + (i : Int) * dc)) ∧ q' (gm_ix (r + (i : Int) * dr) (c + (i : Int) * dc)) = q (gm_ix (r + (i : Int) * dr) (c + (i : Int) * dc))) → gm_len p' q' dr dc n r c = gm_len p q dr dc n r c := by
  intro n
  induction n with
  | zero => intro r c _; rfl
  | succ n ih =>
    intro r c h
    rw [gm_len, gm_len]
    by_cases ho : gm_on r c
    · have h0 := h 0 (by omega)
      rw [gm_s0, gm_s0] at h0
      obtain ⟨h1, h2⟩ := h0 ho
      rw [if_pos ho, if_pos ho, h1, h2, ih (r + dr) (c + dc)]
      intro i hi
      have := h (i + 1) (by omega)
      rw [gm_st, gm_st] at this
      exact this
    · rw [if_neg ho, if_neg ho]
theorem gm_cov_i {dr dc : Int} : ∀ (k : Nat) (r c : Int) (j : Nat), gm_cov dr dc k r c j = true ↔ ∃ i : Nat, i < k ∧ j = gm_ix (r + (i : Int) * dr) (c + (i : Int) * dc) := by
  intro k
  induction k with
  | zero => intro r c j; simp [gm_cov]
  | succ k ih =>
    intro r c j
    rw [gm_cov, Bool.or_eq_true, decide_eq_true_eq, ih]
    constructor
    · rintro (h | ⟨i, hi, e⟩)
      · exact ⟨0, by omega, by rw [gm_s0, gm_s0]; exact h⟩
      · exact ⟨i + 1, by omega, by rw [gm_st, gm_st]; exact e⟩
    · rintro ⟨i, hi, e⟩
      cases i with
      | zero => rw [gm_s0, gm_s0] at e; exact Or.inl e
      | succ i => rw [gm_st, gm_st] at e; exact Or.inr ⟨i, by omega, e⟩
theorem gm_k_c {p q : Nat → Bool} {s t i : Nat} (hi : i < gm_k p q s t) : t ≠ 4 ∧ gm_on (gm_r0 s t + (i : Int) * gm_dr t) (gm_c0 s t + (i : Int) * gm_dc t) ∧ p (gm_ix (gm_r0 s t + (i : Int) * gm_dr t) (gm_c0 s t + (i : Int) * gm_dc t)) = false ∧ q (gm_ix (gm_r0 s t + (i : Int) * gm_dr t) (gm_c0 s t + (i : Int) * gm_dc t)) = true := by
  unfold gm_k at hi
  by_cases h4 : t = 4
  · rw [if_pos h4] at hi; omega
  · rw [if_neg h4] at hi
    cases hl : gm_len p q (gm_dr t) (gm_dc t) 7 (gm_r0 s t) (gm_c0 s t) with
    | none => rw [hl] at hi; simp at hi
    | some k => rw [hl] at hi; exact ⟨h4, gm_len_c _ _ _ _ hl i (by simpa using hi)⟩
theorem gm_k7 (p q : Nat → Bool) (s t : Nat) : gm_k p q s t < 7 := by
  unfold gm_k
  by_cases h4 : t = 4
  · rw [if_pos h4]; omega
  · rw [if_neg h4]
    cases hl : gm_len p q (gm_dr t) (gm_dc t) 7 (gm_r0 s t) (gm_c0 s t) with
    | none => simp
    | some k => have := gm_len_lt _ _ _ _ hl; simpa using this
theorem gm_ray_i {p q : Nat → Bool} {s t j : Nat} (h : gm_ray p q s t j = true) : ∃ i : Nat, i < gm_k p q s t ∧ j = gm_ix (gm_r0 s t + (i : Int) * gm_dr t) (gm_c0 s t + (i : Int) * gm_dc t) := (gm_cov_i _ _ _ _).mp h
theorem gm_ray_b {p q : Nat → Bool} {s t j : Nat} (h : gm_ray p q s t j = true) : j < 64 ∧ p j = false ∧ q j = true := by
  obtain ⟨i, hi, e⟩ := gm_ray_i h
  obtain ⟨_, h1, h2, h3⟩ := gm_k_c hi
  rw [e]
  exact ⟨gm_ixlt h1, h2, h3⟩
theorem gm_sep1 {x : Int} {i i' : Nat} {a a' : Int} (ha : a = -1 ∨ a = 0 ∨ a = 1) (ha' : a' = -1 ∨ a' = 0 ∨ a' = 1) (h : x + a + (i : Int) * a = x + a' + (i' : Int) * a') : a = a' := by
  rcases ha with rfl | rfl | rfl <;> rcases ha' with rfl | rfl | rfl <;> omega
theorem gm_sep {s t t' i i' : Nat} (ht : t < 9) (ht' : t' < 9) (h : gm_on (gm_r0 s t + (i : Int) * gm_dr t) (gm_c0 s t + (i : Int) * gm_dc t)) (h' : gm_on (gm_r0 s t' + (i' : Int) * gm_dr t') (gm_c0 s t' + (i' : Int) * gm_dc t')) (e : gm_ix (gm_r0 s t + (i : Int) * gm_dr t) (gm_c0 s t + (i : Int) * gm_dc t) = gm_ix (gm_r0 s t' + (i' : Int) * gm_dr t') (gm_c0 s t' + (i' : Int) * gm_dc t')) : t = t' := by
  obtain ⟨e1, e2⟩ := gm_ixinj h h' e
  exact gm_tinj (gm_sep1 (gm_dr3 ht) (gm_dr3 ht') e1) (gm_sep1 (gm_dc3 t) (gm_dc3 t') e2)
theorem gm_acc_i {p q : Nat → Bool} {s j : Nat} : ∀ T : Nat, gm_acc p q s T j = true ↔ ∃ t : Nat, t < T ∧ gm_ray p q s t j = true := by
  intro T
  induction T with
  | zero => simp [gm_acc]
  | succ T ih =>
    rw [gm_acc, Bool.or_eq_true, ih]
    constructor
    · rintro (⟨t, ht, h⟩ | h)
      · exact ⟨t, by omega, h⟩
      · exact ⟨T, by omega, h⟩
    · rintro ⟨t, ht, h⟩
      by_cases hT : t = T
      · exact Or.inr (hT ▸ h)
      · exact Or.inl ⟨t, by omega, h⟩
theorem gm_acc_b {p q : Nat → Bool} {s j T : Nat} (h : gm_acc p q s T j = true) : j < 64 ∧ p j = false ∧ q j = true := by
  obtain ⟨t, _, h⟩ := (gm_acc_i T).mp h
  exact gm_ray_b h
/-- a cell of the ray t lies in no other ray -/
theorem gm_acc_o {p q : Nat → Bool} {s T t i : Nat} (hT : T ≤ 9) (htT : T ≤ t) (ht : t < 9) (ho : gm_on (gm_r0 s t + (i : Int) * gm_dr t) (gm_c0 s t + (i : Int) * gm_dc t)) : gm_acc p q s T (gm_ix (gm_r0 s t + (i : Int) * gm_dr t) (gm_c0 s t + (i : Int) * gm_dc t)) = false := by
  apply gm_nt
  intro h
  obtain ⟨t', ht', h⟩ := (gm_acc_i T).mp h
  obtain ⟨i', hi', e⟩ := gm_ray_i h
  have := gm_sep ht (by omega) ho (gm_k_c hi').2.1 e
  omega
end
section
/-! counts, moves, the value -/
theorem gm_cnt_e {S T : Nat → Bool} : ∀ n : Nat, (∀ j, j < n → S j = T j) → gm_cnt S n = gm_cnt T n := by
  intro n
  induction n with
  | zero => intro _; rfl
  | succ n ih => intro h; rw [gm_cnt, gm_cnt, ih (fun j hj => h j (by omega)), h n (by omega)]
theorem gm_cnt_0 {S : Nat → Bool} : ∀ n : Nat, gm_cnt S n = 0 ↔ ∀ j, j < n → S j = false := by
  intro n
  induction n with
  | zero => exact ⟨fun _ j hj => by omega, fun _ => rfl⟩
  | succ n ih =>
    rw [gm_cnt]
    constructor
    · intro h j hj
      by_cases hn : S n = true
      · rw [if_pos hn] at h; omega
      · rw [if_neg hn] at h
        by_cases hjn : j = n
        · rw [hjn]; exact gm_nt hn
        · exact ih.mp (by omega) j (by omega)
    · intro h
      have e1 := ih.mpr (fun j hj => h j (by omega))
      have e2 := h n (by omega)
      simp [e1, e2]
theorem gm_cnt_p {S : Nat → Bool} {n : Nat} : 0 < gm_cnt S n ↔ ∃ j, j < n ∧ S j = true := by
  constructor
  · intro h
    by_cases hx : ∃ j, j < n ∧ S j = true
    · exact hx
    · have : gm_cnt S n = 0 := (gm_cnt_0 n).mpr (fun j hj => gm_nt (fun hs => hx ⟨j, hj, hs⟩))
      omega
  · rintro ⟨j, hj, hs⟩
    apply Nat.pos_of_ne_zero
    intro h0
    rw [(gm_cnt_0 n).mp h0 j hj] at hs
    cases hs
theorem gm_cnt_m {S T : Nat → Bool} : ∀ n : Nat, (∀ j, j < n → S j = true → T j = true) → gm_cnt S n ≤ gm_cnt T n := by
  intro n
  induction n with
  | zero => intro _; exact Nat.le_refl _
  | succ n ih =>
    intro h
    have h1 := ih (fun j hj => h j (by omega))
    rw [gm_cnt, gm_cnt]
    by_cases hs : S n = true
    · rw [if_pos hs, if_pos (h n (by omega) hs)]; omega
    · rw [if_neg hs]; omega
theorem gm_cnt_le (S : Nat → Bool) : ∀ n : Nat, gm_cnt S n ≤ n := by
  intro n
  induction n with
  | zero => exact Nat.le_refl _
  | succ n ih => rw [gm_cnt]; by_cases hs : S n = true <;> simp [hs] <;> omega
theorem gm_cnt_or {S T : Nat → Bool} : ∀ n : Nat, (∀ j, j < n → S j = true → T j = true → False) → gm_cnt (fun j => S j || T j) n = gm_cnt S n + gm_cnt T n := by
  intro n
  induction n with
  | zero => intro _; rfl
  | succ n ih =>
    intro h
    rw [gm_cnt, gm_cnt, gm_cnt, ih (fun j hj => h j (by omega))]
    by_cases hs : S n = true
    · have ht : ¬ T n = true := fun ht => h n (by omega) hs ht
      rw [if_pos hs, if_neg ht, if_pos (by simp [hs])]; omega
    · by_cases ht : T n = true
      · rw [if_neg hs, if_pos ht, if_pos (by simp [ht])]; omega
      · rw [if_neg hs, if_neg ht, if_neg (by simp [hs, ht])]; omega
theorem gm_cnt_1 (x : Nat) : ∀ n : Nat, gm_cnt (fun j => decide (j = x)) n = if x < n then 1 else 0 := by
  intro n
  induction n with
  | zero => rfl
  | succ n ih =>
    rw [gm_cnt, ih]
    by_cases h : x < n
    · rw [if_pos h, if_neg (by rw [decide_eq_true_eq]; omega), if_pos (by omega)]
    · rw [if_neg h]
      by_cases h2 : n = x
      · rw [if_pos (by rw [decide_eq_true_eq]; exact h2), if_pos (by omega)]
      · rw [if_neg (by rw [decide_eq_true_eq]; exact h2), if_neg (by omega)]
theorem gm_cnt_rm {S T : Nat → Bool} {x n : Nat} (hx : x < n) (hs : S x = true) (hT : ∀ j, j < n → T j = (S j && !decide (j = x))) : gm_cnt S n = gm_cnt T n + 1 := by
  have e : gm_cnt S n = gm_cnt (fun j => T j || decide (j = x)) n := by
    apply gm_cnt_e
    intro j hj
    show S j = (T j || decide (j = x))
    rw [hT j hj]
    by_cases h : j = x
    · simp [h, hs]
    · simp [h]
  rw [e, gm_cnt_or, gm_cnt_1, if_pos hx]
  intro j hj h1 h2
  rw [hT j hj, h2] at h1
  simp at h1
theorem gm_cov_n {dr dc : Int} (hd : ¬ (dr = 0 ∧ dc = 0)) (h1 : dr = -1 ∨ dr = 0 ∨ dr = 1) (h2 : dc = -1 ∨ dc = 0 ∨ dc = 1) : ∀ (k : Nat) (r c : Int), (∀ i : Nat, i < k → gm_on (r + (i : Int) * dr) (c + (i : Int) * dc)) → gm_cnt (gm_cov dr dc k r c) 64 = k := by
  intro k
  induction k with
  | zero => intro r c _; exact (gm_cnt_0 64).mpr (fun j _ => rfl)
  | succ k ih =>
    intro r c h
    have h0 := h 0 (by omega)
    rw [gm_s0, gm_s0] at h0
    have hs : ∀ i : Nat, i < k → gm_on (r + dr + (i : Int) * dr) (c + dc + (i : Int) * dc) := by
      intro i hi
      have := h (i + 1) (by omega)
      rw [gm_st, gm_st] at this
      exact this
    have e : gm_cnt (gm_cov dr dc (k + 1) r c) 64 = gm_cnt (fun j => decide (j = gm_ix r c) || gm_cov dr dc k (r + dr) (c + dc) j) 64 := gm_cnt_e 64 (fun j _ => by rw [gm_cov])
    rw [e, gm_cnt_or, gm_cnt_1, if_pos (gm_ixlt h0), ih _ _ hs]
    · omega
    · intro j _ ha hb
      obtain ⟨i, hi, e2⟩ := (gm_cov_i _ _ _ _).mp hb
      have e1 : j = gm_ix r c := of_decide_eq_true ha
      obtain ⟨e3, e4⟩ := gm_ixinj h0 (hs i hi) (e1.symm.trans e2)
      rcases h1 with rfl | rfl | rfl <;> rcases h2 with rfl | rfl | rfl <;> omega
theorem gm_ray_n (p q : Nat → Bool) (s : Nat) {t : Nat} (ht : t < 9) : gm_cnt (gm_ray p q s t) 64 = gm_k p q s t := by
  by_cases h4 : t = 4
  · have e : gm_k p q s t = 0 := by unfold gm_k; rw [if_pos h4]
    rw [e]
    apply (gm_cnt_0 64).mpr
    intro j _
    unfold gm_ray
    rw [e]
    rfl
  · exact gm_cov_n (gm_dne h4) (gm_dr3 ht) (gm_dc3 t) _ _ _ (fun i hi => (gm_k_c hi).2.1)
theorem gm_acc_n (p q : Nat → Bool) (s : Nat) : ∀ T : Nat, T ≤ 9 → gm_cnt (gm_acc p q s T) 64 = gm_sum p q s T := by
  intro T
  induction T with
  | zero => intro _; exact (gm_cnt_0 64).mpr (fun j _ => rfl)
  | succ T ih =>
    intro hT
    have e : gm_cnt (gm_acc p q s (T + 1)) 64 = gm_cnt (fun j => gm_acc p q s T j || gm_ray p q s T j) 64 := gm_cnt_e 64 (fun j _ => by rw [gm_acc])
    rw [e, gm_cnt_or, ih (by omega), gm_ray_n p q s (by omega), gm_sum]
    intro j _ ha hb
    obtain ⟨i, hi, e⟩ := gm_ray_i hb
    rw [e, gm_acc_o (by omega) (Nat.le_refl T) (by omega) (gm_k_c hi).2.1] at ha
    cases ha
theorem gm_sum_p {p q : Nat → Bool} {s : Nat} : 0 < gm_sum p q s 9 ↔ ∃ j, gm_acc p q s 9 j = true := by
  rw [← gm_acc_n p q s 9 (by omega), gm_cnt_p]
  exact ⟨fun ⟨j, _, h⟩ => ⟨j, h⟩, fun ⟨j, h⟩ => ⟨j, (gm_acc_b h).1, h⟩⟩
theorem gm_lg_i {p q : Nat → Bool} {s : Nat} : gm_lg p q s = true ↔ s < 64 ∧ (p s = false ∧ q s = false) ∧ 0 < gm_sum p q s 9 := by
  unfold gm_lg
  rw [Bool.and_eq_true, Bool.and_eq_true, Bool.and_eq_true, decide_eq_true_eq, decide_eq_true_eq, Bool.not_eq_true', Bool.not_eq_true', and_assoc]
theorem gm_fl_i {p q : Nat → Bool} {s : Nat} (hs : s < 64) : gm_lg p q s = true ↔ ∃ j, gm_fl p q s j = true := by
  rw [gm_lg_i, gm_sum_p]
  unfold gm_fl
  constructor
  · rintro ⟨_, ⟨h1, h2⟩, j, hj⟩
    exact ⟨j, by simp [h1, h2, hj]⟩
  · rintro ⟨j, hj⟩
    rw [Bool.and_eq_true, Bool.and_eq_true, Bool.not_eq_true', Bool.not_eq_true'] at hj
    exact ⟨hs, hj.1, j, hj.2⟩
theorem gm_fl_n {p q : Nat → Bool} {s : Nat} (h : gm_lg p q s = true) : gm_cnt (gm_fl p q s) 64 = gm_sum p q s 9 := by
  obtain ⟨_, ⟨h1, h2⟩, _⟩ := gm_lg_i.mp h
  rw [← gm_acc_n p q s 9 (by omega)]
  apply gm_cnt_e
  intro j _
  unfold gm_fl
  simp [h1, h2]
theorem gm_e_s (p q : Nat → Bool) : gm_e q p = gm_e p q := by
  unfold gm_e
  apply gm_cnt_e
  intro j _
  unfold gm_em
  rw [Bool.and_comm (!q j)]
theorem gm_e_n {p q : Nat → Bool} {s : Nat} (h : gm_lg p q s = true) : gm_e p q = gm_e (gm_np p q s) (gm_nq p q s) + 1 := by
  obtain ⟨hs, ⟨h1, h2⟩, _⟩ := gm_lg_i.mp h
  unfold gm_e
  apply gm_cnt_rm hs
  · unfold gm_em; simp [h1, h2, hs]
  · intro j hj
    unfold gm_em gm_np gm_nq gm_g
    by_cases hjs : j = s
    · subst hjs; simp [h1, h2]
    · rw [decide_eq_false hjs]
      cases ha : gm_acc p q s 9 j with
      | false => cases p j <;> cases q j <;> simp
      | true =>
        obtain ⟨_, b1, b2⟩ := gm_acc_b ha
        rw [b1, b2]; simp
theorem gm_lg_e (p q : Nat → Bool) : gm_cnt (gm_lg p q) 64 ≤ gm_e p q := by
  apply gm_cnt_m
  intro j _ h
  obtain ⟨hs, ⟨h1, h2⟩, _⟩ := gm_lg_i.mp h
  unfold gm_em; simp [h1, h2, hs]
theorem gm_hm_i {p q : Nat → Bool} : gm_hm p q = true ↔ ∃ s, s < 64 ∧ gm_lg p q s = true := by
  unfold gm_hm
  rw [decide_eq_true_eq, gm_cnt_p]
theorem gm_hm_f {p q : Nat → Bool} (h : gm_hm p q = false) (s : Nat) : gm_lg p q s = false := by
  apply gm_nt
  intro hl
  have := gm_hm_i.mpr ⟨s, (gm_lg_i.mp hl).1, hl⟩
  rw [h] at this
  cases this
theorem gm_hm_e {p q : Nat → Bool} (h : gm_hm p q = true) : 0 < gm_e p q := by
  have h1 : 0 < gm_cnt (gm_lg p q) 64 := of_decide_eq_true h
  have := gm_lg_e p q
  omega
theorem gm_fd_e {f f' : Nat → Int} {L : Nat → Bool} : ∀ n : Nat, (∀ s, s < n → L s = true → f s = f' s) → gm_fd f L n = gm_fd f' L n := by
  intro n
  induction n with
  | zero => intro _; rfl
  | succ n ih =>
    intro h
    rw [gm_fd, gm_fd, ih (fun s hs => h s (by omega))]
    by_cases hL : L n = true
    · rw [h n (by omega) hL]
    · rw [if_neg (fun z => hL z.1), if_neg (fun z => hL z.1)]
theorem gm_fd_ge {f : Nat → Int} {L : Nat → Bool} {s : Nat} (hL : L s = true) : ∀ n : Nat, s < n → f s ≤ (gm_fd f L n).1 := by
  intro n
  induction n with
  | zero => intro h; omega
  | succ n ih =>
    intro h
    rw [gm_fd]
    by_cases hn : L n = true ∧ (gm_fd f L n).1 < f n
    · rw [if_pos hn]
      by_cases hs : s = n
      · subst hs; exact Int.le_refl _
      · have := ih (by omega)
        show f s ≤ f n
        omega
    · rw [if_neg hn]
      by_cases hs : s = n
      · rw [hs] at hL ⊢
        exact Int.not_lt.mp (fun z => hn ⟨hL, z⟩)
      · exact ih (by omega)
theorem gm_fd_i (f : Nat → Int) (L : Nat → Bool) : ∀ n : Nat, (gm_fd f L n = (-65, -1) ∧ ∀ s, s < n → L s = true → f s ≤ -65) ∨ ∃ x, x < n ∧ gm_fd f L n = (f x, (x : Int)) ∧ L x = true ∧ -65 < f x ∧ ∀ s, s < x → L s = true → f s < f x := by
  intro n
  induction n with
  | zero => exact Or.inl ⟨rfl, fun s hs => by omega⟩
  | succ n ih =>
    rw [gm_fd]
    by_cases hn : L n = true ∧ (gm_fd f L n).1 < f n
    · rw [if_pos hn]
      refine Or.inr ⟨n, by omega, rfl, hn.1, ?_, ?_⟩
      · rcases ih with ⟨e, _⟩ | ⟨x, _, e, _, h, _⟩
        · have := hn.2; rw [e] at this; exact this
        · have := hn.2; rw [e] at this; dsimp only at this; omega
      · intro s hs hLs
        have := gm_fd_ge (f := f) hLs n hs
        have := hn.2
        omega
    · rw [if_neg hn]
      rcases ih with ⟨e, h⟩ | ⟨x, hx, e, h⟩
      · refine Or.inl ⟨e, fun s hs hL => ?_⟩
        by_cases hsn : s = n
        · rw [e] at hn
          rw [hsn] at hL ⊢
          exact Int.not_lt.mp (fun z => hn ⟨hL, z⟩)
        · exact h s (by omega) hL
      · exact Or.inr ⟨x, by omega, e, h⟩
theorem gm_V_b : ∀ (n : Nat) (p q : Nat → Bool), -64 ≤ gm_V n p q ∧ gm_V n p q ≤ 64 := by
  intro n
  induction n with
  | zero => intro p q; rw [gm_V]; omega
  | succ n ih =>
    intro p q
    rw [gm_V]
    by_cases h1 : gm_hm p q = true
    · rw [if_pos h1]
      obtain ⟨s, hs, hL⟩ := gm_hm_i.mp h1
      rcases gm_fd_i (fun s => -gm_V n (gm_np p q s) (gm_nq p q s)) (gm_lg p q) 64 with ⟨_, h⟩ | ⟨x, _, e, _⟩
      · have h2 := h s hs hL
        have := ih (gm_np p q s) (gm_nq p q s)
        omega
      · rw [e]
        have := ih (gm_np p q x) (gm_nq p q x)
        dsimp only
        omega
    · rw [if_neg h1]
      by_cases h2 : gm_hm q p = true
      · rw [if_pos h2]; have := ih q p; omega
      · rw [if_neg h2]
        unfold gm_df
        have := gm_cnt_le p 64
        have := gm_cnt_le q 64
        omega
theorem gm_W_b (p q : Nat → Bool) : -64 ≤ gm_W p q ∧ gm_W p q ≤ 64 := gm_V_b _ p q
theorem gm_f_b (p q : Nat → Bool) (s : Nat) : -64 ≤ gm_f p q s ∧ gm_f p q s ≤ 64 := by
  unfold gm_f
  have := gm_W_b (gm_np p q s) (gm_nq p q s)
  omega
/-- more fuel than the game needs changes nothing -/
theorem gm_V_n : ∀ (n m : Nat) (p q : Nat → Bool), (2 * gm_e p q < n ∨ (gm_hm p q = true ∧ 2 * gm_e p q ≤ n)) → (2 * gm_e p q < m ∨ (gm_hm p q = true ∧ 2 * gm_e p q ≤ m)) → gm_V n p q = gm_V m p q := by
  intro n
  induction n with
  | zero =>
    intro m p q h _
    rcases h with h | ⟨h1, h2⟩
    · omega
    · have := gm_hm_e h1; omega
  | succ n ih =>
    intro m p q h h'
    cases m with
    | zero =>
      rcases h' with h | ⟨h1, h2⟩
      · omega
      · have := gm_hm_e h1; omega
    | succ m =>
      rw [gm_V, gm_V]
      by_cases h1 : gm_hm p q = true
      · rw [if_pos h1, if_pos h1]
        have e := gm_fd_e (f := fun s => -gm_V n (gm_np p q s) (gm_nq p q s)) (f' := fun s => -gm_V m (gm_np p q s) (gm_nq p q s)) (L := gm_lg p q) 64 (fun s _ hL => by
          have he := gm_e_n hL
          show -gm_V n (gm_np p q s) (gm_nq p q s) = -gm_V m (gm_np p q s) (gm_nq p q s)
          rw [ih m (gm_np p q s) (gm_nq p q s) (Or.inl (by omega)) (Or.inl (by omega))])
        rw [e]
      · rw [if_neg h1, if_neg h1]
        by_cases h2 : gm_hm q p = true
        · rw [if_pos h2, if_pos h2]
          have he := gm_e_s p q
          have a1 : 2 * gm_e p q < n + 1 := h.elim id (fun z => absurd z.1 h1)
          have a2 : 2 * gm_e p q < m + 1 := h'.elim id (fun z => absurd z.1 h1)
          rw [ih m q p (Or.inr ⟨h2, by omega⟩) (Or.inr ⟨h2, by omega⟩)]
        · rw [if_neg h2, if_neg h2]
theorem gm_W_m {p q : Nat → Bool} (h : gm_hm p q = true) : gm_W p q = (gm_fd (gm_f p q) (gm_lg p q) 64).1 := by
  unfold gm_W
  rw [gm_V, if_pos h]
  have e := gm_fd_e (f := fun s => -gm_V (2 * gm_e p q) (gm_np p q s) (gm_nq p q s)) (f' := gm_f p q) (L := gm_lg p q) 64 (fun s _ hL => by
    have he := gm_e_n hL
    show -gm_V (2 * gm_e p q) (gm_np p q s) (gm_nq p q s) = -gm_V (2 * gm_e (gm_np p q s) (gm_nq p q s) + 1) (gm_np p q s) (gm_nq p q s)
    rw [gm_V_n (2 * gm_e p q) (2 * gm_e (gm_np p q s) (gm_nq p q s) + 1) (gm_np p q s) (gm_nq p q s) (Or.inl (by omega)) (Or.inl (by omega))])
  rw [e]
theorem gm_W_p {p q : Nat → Bool} (h : gm_hm p q = false) (h2 : gm_hm q p = true) : gm_W p q = -gm_W q p := by
  unfold gm_W
  rw [gm_V, if_neg (by rw [h]; decide), if_pos h2]
  have he := gm_e_s p q
  rw [gm_V_n (2 * gm_e p q) (2 * gm_e q p + 1) q p (Or.inr ⟨h2, by omega⟩) (Or.inl (by omega))]
theorem gm_W_o {p q : Nat → Bool} (h : gm_hm p q = false) (h2 : gm_hm q p = false) : gm_W p q = gm_df p q := by
  unfold gm_W
  rw [gm_V, if_neg (by rw [h]; decide), if_neg (by rw [h2]; decide)]
theorem gm_fd_m {p q : Nat → Bool} (h : gm_hm p q = true) : ∃ x, x < 64 ∧ gm_fd (gm_f p q) (gm_lg p q) 64 = (gm_f p q x, (x : Int)) ∧ gm_lg p q x = true ∧ ∀ s, s < x → gm_lg p q s = true → gm_f p q s < gm_f p q x := by
  obtain ⟨s, hs, hL⟩ := gm_hm_i.mp h
  rcases gm_fd_i (gm_f p q) (gm_lg p q) 64 with ⟨_, h⟩ | ⟨x, hx, e, h1, _, h3⟩
  · have := h s hs hL
    have := gm_f_b p q s
    omega
  · exact ⟨x, hx, e, h1, h3⟩
end
section
/-! bits of a long; the rows ts_ and wb_ are pasted from the rows to paste -/
theorem ts_nf {x : Bool} (h : ¬ x = false) : x = true := by cases x <;> first | rfl | exact absurd rfl h
theorem ts_nt {x : Bool} (h : ¬ x = true) : x = false := by cases x <;> first | rfl | exact absurd rfl h
theorem ts_bit {w : Int64} {s : UInt64} {j : Nat} (hj : j < 64) (hs : s.toNat = j) : ((w.toUInt64 >>> s).toInt64 &&& 1) = 0 ↔ w.toBitVec.getLsbD j = false := by
  have e : (w.toUInt64 >>> s).toInt64.toBitVec = w.toBitVec >>> j := by
    apply BitVec.eq_of_toNat_eq
    show (w.toUInt64 >>> s).toNat = _
    rw [UInt64.toNat_shiftRight, hs, Nat.mod_eq_of_lt hj, BitVec.toNat_ushiftRight]
    rfl
  rw [← Int64.toBitVec_inj, Int64.toBitVec_and, e]
  show w.toBitVec >>> j &&& 1#64 = 0#64 ↔ _
  constructor
  · intro h
    have t := congrArg (fun x => x.getLsbD 0) h
    simpa using t
  · intro h
    apply BitVec.eq_of_getLsbD_eq
    intro i hi
    cases i with
    | zero => simp [h]
    | succ i => simp
theorem ts_or {w m : Int64} {j : Nat} (hj : j < 64) (hm : m.toBitVec = BitVec.twoPow 64 j) : (w ||| m) = w ↔ w.toBitVec.getLsbD j = true := by
  rw [← Int64.toBitVec_inj, Int64.toBitVec_or, hm]
  constructor
  · intro h
    have t := congrArg (fun x => x.getLsbD j) h
    simp only [BitVec.getLsbD_or, BitVec.getLsbD_twoPow] at t
    simpa [hj] using t.symm
  · intro h
    apply BitVec.eq_of_getLsbD_eq
    intro i hi
    rw [BitVec.getLsbD_or, BitVec.getLsbD_twoPow]
    by_cases e : j = i
    · subst e; rw [h, Bool.true_or]
    · simp [e]
theorem ts_and {w m : Int64} {j : Nat} (hj : j < 64) (hm : m.toBitVec = BitVec.twoPow 64 j) : (w &&& (m ^^^ (-1))) = w ↔ w.toBitVec.getLsbD j = false := by
  have ha : (-1 : Int64).toBitVec = BitVec.allOnes 64 := by decide
  rw [← Int64.toBitVec_inj, Int64.toBitVec_and, Int64.toBitVec_xor, hm, ha]
  constructor
  · intro h
    have t := congrArg (fun x => x.getLsbD j) h
    simp only [BitVec.getLsbD_and, BitVec.getLsbD_xor, BitVec.getLsbD_twoPow, BitVec.getLsbD_allOnes] at t
    simpa [hj] using t.symm
  · intro h
    apply BitVec.eq_of_getLsbD_eq
    intro i hi
    rw [BitVec.getLsbD_and, BitVec.getLsbD_xor, BitVec.getLsbD_twoPow, BitVec.getLsbD_allOnes]
    by_cases e : j = i
    · subst e; rw [h, Bool.false_and]
    · simp [e, hi]
/-! ===== lN n to 2^64: shifts, and, or, masks, one bit ===== -/
theorem wb_tb (n : Nat) : (lN n).toBitVec = BitVec.ofNat 64 n := rfl
theorem wb_inj {a b : Int64} (h : a.toBitVec = b.toBitVec) : a = b := Int64.toBitVec_inj.mp h
theorem wb_tn {n : Nat} (h : n < 2 ^ 64) : (lN n).toBitVec.toNat = n := by rw [wb_tb, BitVec.toNat_ofNat, Nat.mod_eq_of_lt h]
theorem wb_of (x : Int64) : ∃ n, n < 2 ^ 64 ∧ x = lN n := ⟨x.toBitVec.toNat, x.toBitVec.isLt, wb_inj (by rw [wb_tb]; simp)⟩
theorem wb_of32 (x : Int32) : ∃ n, n < 2 ^ 32 ∧ x = nI n := ⟨x.toBitVec.toNat, x.toBitVec.isLt, Int32.toBitVec_inj.mp (by show _ = BitVec.ofNat 32 _; simp)⟩
theorem wb_c : ∀ k, k < 64 → ((nI k).toInt64 &&& 63) = lN k := by decide +kernel
theorem wb_cu : ∀ k, k < 64 → ((nI k).toInt64.toUInt64 &&& Int64.toUInt64 63) = UInt64.ofNat k := by decide +kernel
theorem wb_sm : ∀ k, k < 64 → (BitVec.ofNat 64 k).smod 64 = BitVec.ofNat 64 k := by decide +kernel
theorem wb_pw {a b : Nat} (h : a ≤ b) : 2 ^ b = 2 ^ a * 2 ^ (b - a) := by rw [← Nat.pow_add]; congr 1; omega
theorem wb_lt2 {a b : Nat} (h : a < b) : 2 ^ a < 2 ^ b := Nat.pow_lt_pow_right (by decide) h
theorem wb_mod (n : Nat) : lN n = lN (n % 2 ^ 64) := wb_inj (by rw [wb_tb, wb_tb]; apply BitVec.eq_of_toNat_eq; rw [BitVec.toNat_ofNat, BitVec.toNat_ofNat, Nat.mod_mod])
theorem wb_shr {n k : Nat} (hn : n < 2 ^ 64) (hk : k < 64) : ((lN n).toUInt64 >>> ((nI k).toInt64.toUInt64 &&& Int64.toUInt64 63)).toInt64 = lN (n / 2 ^ k) := by
  rw [wb_cu k hk]
  apply wb_inj
  apply BitVec.eq_of_toNat_eq
  show ((lN n).toUInt64 >>> UInt64.ofNat k).toNat = (BitVec.ofNat 64 _).toNat
  have h1 : (UInt64.ofNat k).toNat = k := by
    show (BitVec.ofNat 64 k).toNat = k
    rw [BitVec.toNat_ofNat, Nat.mod_eq_of_lt (by omega)]
  have h2 : (lN n).toUInt64.toNat = n := wb_tn hn
  rw [UInt64.toNat_shiftRight, h1, h2, Nat.mod_eq_of_lt hk, Nat.shiftRight_eq_div_pow, BitVec.toNat_ofNat, Nat.mod_eq_of_lt (Nat.lt_of_le_of_lt (Nat.div_le_self _ _) hn)]
theorem wb_shl (n : Nat) {k : Nat} (hk : k < 64) : lN n <<< ((nI k).toInt64 &&& 63) = lN (n * 2 ^ k) := by
  rw [wb_c k hk]
  apply wb_inj
  rw [Int64.toBitVec_shiftLeft, wb_tb, wb_tb, wb_tb, wb_sm k hk]
  apply BitVec.eq_of_toNat_eq
  rw [BitVec.shiftLeft_eq', BitVec.toNat_shiftLeft, BitVec.toNat_ofNat, BitVec.toNat_ofNat, BitVec.toNat_ofNat, Nat.mod_eq_of_lt (show k < 2 ^ 64 by omega), Nat.shiftLeft_eq, Nat.mul_mod, Nat.mod_mod, ← Nat.mul_mod]
def xb_t (w : Int64) (j : Nat) : Bool := w.toBitVec.getLsbD j
theorem xb_big (w : Int64) {j : Nat} (h : 64 ≤ j) : xb_t w j = false := BitVec.getLsbD_of_ge _ _ h
theorem xb_lt {w : Int64} {j : Nat} (h : xb_t w j = true) : j < 64 := by
  rcases Nat.lt_or_ge j 64 with z | z
  · exact z
  · rw [xb_big w z] at h; cases h
theorem xb_ext {a b : Int64} (h : ∀ j, j < 64 → xb_t a j = xb_t b j) : a = b := wb_inj (BitVec.eq_of_getLsbD_eq (fun i hi => h i hi))
theorem xb_fun {w : Int64} {S : Nat → Bool} (hS : ∀ j, 64 ≤ j → S j = false) (h : ∀ j, j < 64 → xb_t w j = S j) : xb_t w = S := by
  funext j
  rcases Nat.lt_or_ge j 64 with z | z
  · exact h j z
  · rw [xb_big w z, hS j z]
theorem xb_or (a b : Int64) (j : Nat) : xb_t (a ||| b) j = (xb_t a j || xb_t b j) := by unfold xb_t; rw [Int64.toBitVec_or, BitVec.getLsbD_or]
theorem xb_and (a b : Int64) (j : Nat) : xb_t (a &&& b) j = (xb_t a j && xb_t b j) := by unfold xb_t; rw [Int64.toBitVec_and, BitVec.getLsbD_and]
theorem xb_0 (j : Nat) : xb_t 0 j = false := BitVec.getLsbD_zero
theorem xb_m1 {j : Nat} (h : j < 64) : xb_t (-1) j = true := by
  have e : (-1 : Int64).toBitVec = BitVec.allOnes 64 := by decide
  unfold xb_t
  rw [e, BitVec.getLsbD_allOnes, decide_eq_true h]
theorem xb_not (a : Int64) {j : Nat} (h : j < 64) : xb_t (a ^^^ (-1)) j = !xb_t a j := by
  have h2 : xb_t (a ^^^ (-1)) j = (xb_t a j ^^ xb_t (-1) j) := by unfold xb_t; rw [Int64.toBitVec_xor, BitVec.getLsbD_xor]
  rw [h2, xb_m1 h, Bool.xor_true]
theorem xb_andn (a b : Int64) (j : Nat) : xb_t (a &&& (b ^^^ (-1))) j = (xb_t a j && !xb_t b j) := by
  rw [xb_and]
  rcases Nat.lt_or_ge j 64 with z | z
  · rw [xb_not b z]
  · rw [xb_big a z]; rfl
theorem xb_z {w : Int64} : w = 0 ↔ ∀ j, xb_t w j = false := by
  constructor
  · intro h j; rw [h]; exact xb_0 j
  · intro h; exact xb_ext (fun j _ => by rw [h j, xb_0])
theorem xb_nz {w : Int64} : ¬ w = 0 ↔ ∃ j, xb_t w j = true := by
  rw [xb_z]
  constructor
  · intro h
    by_cases hx : ∃ j, xb_t w j = true
    · exact hx
    · exact absurd (fun j => ts_nt (fun z => hx ⟨j, z⟩)) h
  · rintro ⟨j, hj⟩ h
    rw [h j] at hj; cases hj
theorem xb_lN (n j : Nat) : xb_t (lN n) j = (decide (j < 64) && n.testBit j) := by
  unfold xb_t
  rw [wb_tb, BitVec.getLsbD_ofNat]
theorem xb_1 {k : Nat} (hk : k < 64) (j : Nat) : xb_t ((1 : Int64) <<< ((nI k).toInt64 &&& 63)) j = decide (j = k) := by
  have e : (1 : Int64) = lN 1 := by decide
  rw [e, wb_shl 1 hk, xb_lN, Nat.one_mul, Nat.testBit_two_pow]
  by_cases h : j = k
  · rw [decide_eq_true h, decide_eq_true h.symm, decide_eq_true (by omega)]; rfl
  · rw [decide_eq_false h, decide_eq_false (show ¬ k = j from fun z => h z.symm), Bool.and_false]
theorem xb_has (w : Int64) {k : Nat} (hk : k < 64) : ((w.toUInt64 >>> ((nI k).toInt64.toUInt64 &&& Int64.toUInt64 63)).toInt64 &&& 1) = 0 ↔ xb_t w k = false := by
  apply ts_bit hk
  rw [wb_cu k hk]
  exact UInt64.toNat_ofNat_of_lt' (by show k < 2 ^ 64; omega)
theorem xb_at {w b : Int64} {k : Nat} (hb : ∀ j, xb_t b j = decide (j = k)) : (w &&& b) = 0 ↔ xb_t w k = false := by
  rw [xb_z]
  constructor
  · intro h
    have := h k
    rw [xb_and, hb, decide_eq_true rfl, Bool.and_true] at this
    exact this
  · intro h j
    rw [xb_and, hb]
    by_cases hj : j = k
    · rw [hj, h]; rfl
    · rw [decide_eq_false hj, Bool.and_false]
theorem xb_car (w : BitVec 64) : ∀ i : Nat, i ≤ 64 → (BitVec.carry i w (BitVec.allOnes 64) false = true ↔ ∃ j, j < i ∧ w.getLsbD j = true) := by
  intro i
  induction i with
  | zero => intro _; rw [BitVec.carry_zero]; exact ⟨fun h => (by cases h), fun ⟨j, hj, _⟩ => by omega⟩
  | succ i ih =>
    intro hi
    rw [BitVec.carry_succ, BitVec.getLsbD_allOnes, decide_eq_true (show i < 64 by omega)]
    have e : Bool.atLeastTwo (w.getLsbD i) true (BitVec.carry i w (BitVec.allOnes 64) false) = (w.getLsbD i || BitVec.carry i w (BitVec.allOnes 64) false) := by
      cases w.getLsbD i <;> cases BitVec.carry i w (BitVec.allOnes 64) false <;> rfl
    rw [e, Bool.or_eq_true, ih (by omega)]
    constructor
    · rintro (h | ⟨j, hj, h⟩)
      · exact ⟨i, by omega, h⟩
      · exact ⟨j, by omega, h⟩
    · rintro ⟨j, hj, h⟩
      by_cases hji : j = i
      · exact Or.inl (hji ▸ h)
      · exact Or.inr ⟨j, by omega, h⟩
theorem xb_low {w : Int64} {x : Nat} (hx : xb_t w x = true) (hl : ∀ j, j < x → xb_t w j = false) (j : Nat) : xb_t (w &&& (w - 1)) j = (xb_t w j && !decide (j = x)) := by
  rw [xb_and]
  rcases Nat.lt_or_ge j 64 with z | z
  · have e1 : xb_t (w - 1) j = (w.toBitVec.getLsbD j ^^ (true ^^ BitVec.carry j w.toBitVec (BitVec.allOnes 64) false)) := by
      unfold xb_t
      have e : (w - 1).toBitVec = w.toBitVec + BitVec.allOnes 64 := by
        rw [Int64.toBitVec_sub, BitVec.sub_eq_add_neg]
        rfl
      rw [e, BitVec.getLsbD_add z, BitVec.getLsbD_allOnes, decide_eq_true z]
    rw [e1]
    have hc := xb_car w.toBitVec j (by omega)
    rcases Nat.lt_trichotomy j x with h | h | h
    · rw [hl j h, Bool.false_and, Bool.false_and]
    · have hcf : BitVec.carry j w.toBitVec (BitVec.allOnes 64) false = false := ts_nt (fun hh => by
        obtain ⟨i, hi, h2⟩ := hc.mp hh
        have h3 : xb_t w i = false := hl i (by omega)
        unfold xb_t at h3
        rw [h3] at h2; cases h2)
      rw [hcf, h]
      have hx2 : w.toBitVec.getLsbD x = true := hx
      rw [hx, hx2, decide_eq_true rfl]
      rfl
    · have hct : BitVec.carry j w.toBitVec (BitVec.allOnes 64) false = true := hc.mpr ⟨x, h, hx⟩
      rw [hct, decide_eq_false (by omega)]
      show (xb_t w j && (xb_t w j ^^ (true ^^ true))) = (xb_t w j && !false)
      cases xb_t w j <;> rfl
  · rw [xb_big w z]; rfl
/-! an int from an integer -/
def zi_z (x : Int) : Int32 := Int32.ofInt x
theorem zi_n (n : Nat) : zi_z (n : Int) = nI n := Int32.ofInt_eq_ofNat
theorem zi_t {x : Int} (h : -1000000 ≤ x) (h' : x ≤ 1000000) : (zi_z x).toInt = x := Int32.toInt_ofInt_of_le (by omega) (by omega)
theorem zi_add (x y : Int) : zi_z x + zi_z y = zi_z (x + y) := (Int32.ofInt_add x y).symm
theorem zi_mul (x y : Int) : zi_z x * zi_z y = zi_z (x * y) := (Int32.ofInt_mul x y).symm
theorem zi_sub (x y : Int) : zi_z x - zi_z y = zi_z (x - y) := (Int32.ofInt_sub x y).symm
theorem zi_neg (x : Int) : -zi_z x = zi_z (-x) := (Int32.ofInt_neg x).symm
theorem zi_lt {x y : Int} (h1 : -1000000 ≤ x) (h2 : x ≤ 1000000) (h3 : -1000000 ≤ y) (h4 : y ≤ 1000000) : zi_z x < zi_z y ↔ x < y := by
  rw [Int32.lt_iff_toInt_lt, zi_t h1 h2, zi_t h3 h4]
theorem zi_le {x y : Int} (h1 : -1000000 ≤ x) (h2 : x ≤ 1000000) (h3 : -1000000 ≤ y) (h4 : y ≤ 1000000) : zi_z x ≤ zi_z y ↔ x ≤ y := by
  rw [Int32.le_iff_toInt_le, zi_t h1 h2, zi_t h3 h4]
theorem zi_eq {x y : Int} (h1 : -1000000 ≤ x) (h2 : x ≤ 1000000) (h3 : -1000000 ≤ y) (h4 : y ≤ 1000000) : zi_z x = zi_z y ↔ x = y := by
  rw [← Int32.toInt_inj, zi_t h1 h2, zi_t h3 h4]
theorem zi_m1 : (-1 : Int32) = zi_z (-1) := by decide
theorem zi_0 : (0 : Int32) = zi_z 0 := by decide
theorem pk_us {f : Nat → Int32} {k : Nat} {x : Int32} : upd f k x k = x := if_pos rfl
theorem pk_un {f : Nat → Int32} {k j : Nat} {x : Int32} (h : j ≠ k) : upd f k x j = f j := if_neg h
theorem pk_uLs {f : Nat → Int64} {k : Nat} {x : Int64} : vp_updL f k x k = x := if_pos rfl
theorem pk_uLn {f : Nat → Int64} {k j : Nat} {x : Int64} (h : j ≠ k) : vp_updL f k x j = f j := if_neg h
theorem pk_sub {a b : Nat} (h : b ≤ a) : nI a - nI b = nI (a - b) := by
  obtain ⟨c, rfl⟩ : ∃ c, a = c + b := ⟨a - b, by omega⟩
  rw [← nI_add, Int32.add_sub_cancel, Nat.add_sub_cancel]
theorem pk_m1 (n : Nat) : nI (n + 1) + (-1) = nI n := by
  rw [← nI_1, Int32.add_assoc, show (1 : Int32) + (-1) = 0 from rfl, Int32.add_zero]
theorem pk_mul (a b : Nat) : nI a * nI b = nI (a * b) := (Int32.ofNat_mul a b).symm
theorem pk_div {a d : Nat} (ha : a < 2 ^ 31) (h0 : 0 < d) (hd : d < 2 ^ 31) : nI a / nI d = nI (a / d) := by
  apply Int32.toInt_inj.mp
  rw [lg_idiv_nonneg (by rw [nI_toInt ha]; omega) (by rw [nI_toInt hd]; omega), nI_toInt ha, nI_toInt hd, nI_toInt (Nat.lt_of_le_of_lt (Nat.div_le_self a d) ha)]
  first | rfl | exact (Int.natCast_ediv _ _).symm
theorem pk_rem {a d : Nat} (ha : a < 2 ^ 31) (h0 : 0 < d) (hd : d < 2 ^ 31) : nI a - nI a / nI d * nI d = nI (a % d) := by
  rw [pk_div ha h0 hd, pk_mul, pk_sub (Nat.div_mul_le_self a d)]
  exact congrArg nI (by have := Nat.div_add_mod' a d; omega)
theorem pk_sub_toInt {a b : Nat} (ha : a < 2 ^ 30) (hb : b < 2 ^ 30) : (nI a - nI b).toInt = (a : Int) - b := by
  rw [Int32.toInt_sub, nI_toInt (by omega), nI_toInt (by omega)]
  exact Int.bmod_eq_of_le (by omega) (by omega)
theorem pk_sneg {a b : Nat} (hb : b < 2 ^ 30) (h : a < b) : nI a - nI b < 0 := by
  rw [Int32.lt_iff_toInt_lt, pk_sub_toInt (by omega) hb, show (0 : Int32).toInt = 0 from by decide]
  omega
theorem pk_ix (x : Int32) {n : Nat} (hn : n < 2 ^ 31) : x < 0 ∨ nI n ≤ x ∨ ∃ j : Nat, j < n ∧ x = nI j := by
  by_cases h : x < 0
  · exact Or.inl h
  · obtain ⟨j, hj, rfl⟩ := nI_of h
    by_cases h2 : j < n
    · exact Or.inr (Or.inr ⟨j, h2, rfl⟩)
    · exact Or.inr (Or.inl (nI_le (by omega) hj))
theorem pk_le {x y : Int32} {A B : Prop} (a b : Nat) (f : a ≤ b → A) (g : b < a → B) (hx : x = nI a := by rfl) (hy : y = nI b := by rfl) (ha : a < 2 ^ 31 := by omega) (hb : b < 2 ^ 31 := by omega) : (x ≤ y → A) ∧ (¬ x ≤ y → B) := by
  subst hx hy
  rw [nI_leI ha hb]
  exact ⟨f, fun z => g (by omega)⟩
theorem pk_lt {x y : Int32} {A B : Prop} (a b : Nat) (f : a < b → A) (g : b ≤ a → B) (hx : x = nI a := by rfl) (hy : y = nI b := by rfl) (ha : a < 2 ^ 31 := by omega) (hb : b < 2 ^ 31 := by omega) : (x < y → A) ∧ (¬ x < y → B) := by
  subst hx hy
  rw [nI_ltI ha hb]
  exact ⟨f, fun z => g (by omega)⟩
theorem pk_eq {x y : Int32} {A B : Prop} (a b : Nat) (f : a = b → A) (g : a ≠ b → B) (hx : x = nI a := by rfl) (hy : y = nI b := by rfl) (ha : a < 2 ^ 31 := by omega) (hb : b < 2 ^ 31 := by omega) : (x = y → A) ∧ (¬ x = y → B) := by
  subst hx hy
  rw [nI_eq ha hb]
  exact ⟨f, g⟩
theorem pk_in {x : Int32} (n N : Nat) (h : n < N) (hx : x = nI n := by rfl) (hN : N < 2 ^ 31 := by omega) : vp_in x N := by
  subst hx
  exact vp_in_nI h hN
theorem pk_cl {x : Int32} (n : Nat) (hx : x = nI n := by rfl) (h : n < 2 ^ 31 := by omega) : x.toNatClampNeg = n := by
  subst hx
  exact nI_clamp h
theorem pk_tn {n : Nat} (h : n < 2 ^ 32) : (nI n).toBitVec.toNat = n := Nat.mod_eq_of_lt h
theorem pk_and (x : Int32) {m : Int32} (k : Nat) (hm : m.toBitVec.toNat = 2 ^ k - 1) : x &&& m = nI (x.toBitVec.toNat % 2 ^ k) := by
  apply Int32.toBitVec_inj.mp
  apply BitVec.eq_of_toNat_eq
  rw [Int32.toBitVec_and, BitVec.toNat_and, hm, Nat.and_two_pow_sub_one_eq_mod]
  show _ = (BitVec.ofNat 32 _).toNat
  rw [BitVec.toNat_ofNat]
  exact (Nat.mod_eq_of_lt (Nat.lt_of_le_of_lt (Nat.mod_le _ _) x.toBitVec.isLt)).symm
theorem pk_andN {n : Nat} (h : n < 2 ^ 32) {m : Int32} (k : Nat) (hm : m.toBitVec.toNat = 2 ^ k - 1) : nI n &&& m = nI (n % 2 ^ k) := by
  rw [pk_and _ k hm, pk_tn h]
theorem pk_andE (x : Int32) {m : Int32} (k : Nat) (hm : m.toBitVec.toNat = 2 ^ k - 1) : ∃ j : Nat, j < 2 ^ k ∧ x &&& m = nI j := ⟨_, Nat.mod_lt _ (Nat.two_pow_pos k), pk_and x k hm⟩
theorem pk_andIn (x : Int32) {m : Int32} (k : Nat) (hm : m.toBitVec.toNat = 2 ^ k - 1) (hk : k ≤ 30) : vp_in (x &&& m) (2 ^ k) := by
  obtain ⟨j, hj, e⟩ := pk_andE x k hm
  rw [e]
  exact vp_in_nI hj (Nat.lt_of_le_of_lt (Nat.pow_le_pow_right (by decide) hk) (by decide))
theorem pk_shl (a s : Int32) (k : Nat) (hs : (s.toBitVec.smod 32).toNat = k) : (a <<< s).toBitVec.toNat = a.toBitVec.toNat * 2 ^ k % 2 ^ 32 := by
  show (a.toBitVec <<< (s.toBitVec.smod 32).toNat).toNat = _
  rw [hs, BitVec.toNat_shiftLeft, Nat.shiftLeft_eq]
theorem pk_shlN {n : Nat} (s : Int32) (k : Nat) (hs : (s.toBitVec.smod 32).toNat = k) (h : n * 2 ^ k < 2 ^ 32) : nI n <<< s = nI (n * 2 ^ k) := by
  apply Int32.toBitVec_inj.mp
  apply BitVec.eq_of_toNat_eq
  have hn : n < 2 ^ 32 := Nat.lt_of_le_of_lt (Nat.le_mul_of_pos_right n (Nat.two_pow_pos k)) h
  rw [pk_shl _ _ k hs, pk_tn hn, pk_tn h, Nat.mod_eq_of_lt h]
theorem pk_shr (a s : Int32) (k : Nat) (hs : (s.toBitVec.smod 32).toNat = k) : (a >>> s).toInt = a.toInt >>> k := by
  show (a.toBitVec.sshiftRight (s.toBitVec.smod 32).toNat).toInt = _
  rw [hs, BitVec.toInt_sshiftRight]
  rfl
theorem pk_shrN {n : Nat} (h : n < 2 ^ 31) (s : Int32) (k : Nat) (hs : (s.toBitVec.smod 32).toNat = k) : nI n >>> s = nI (n / 2 ^ k) := by
  apply Int32.toInt_inj.mp
  have h2 : n / 2 ^ k ≤ n := Nat.div_le_self _ _
  rw [pk_shr _ _ k hs, nI_toInt h, nI_toInt (by omega), Int.shiftRight_eq_div_pow]
  rfl
theorem pk_ushr (x s : Int32) (k : Nat) (hs : ((s.toUInt32 &&& Int32.toUInt32 31).toBitVec % 32).toNat = k) : (x.toUInt32 >>> (s.toUInt32 &&& Int32.toUInt32 31)).toInt32.toBitVec.toNat = x.toBitVec.toNat / 2 ^ k := by
  have e : (x.toUInt32 >>> (s.toUInt32 &&& Int32.toUInt32 31)).toInt32.toBitVec = x.toBitVec >>> k := by
    rw [← hs]
    exact UInt32.toBitVec_shiftRight _ _
  rw [e, BitVec.toNat_ushiftRight, Nat.shiftRight_eq_div_pow]
theorem pk_ushrN {n : Nat} (hn : n < 2 ^ 32) (s : Int32) (k : Nat) (hs : ((s.toUInt32 &&& Int32.toUInt32 31).toBitVec % 32).toNat = k) : ((nI n).toUInt32 >>> (s.toUInt32 &&& Int32.toUInt32 31)).toInt32 = nI (n / 2 ^ k) := by
  apply Int32.toBitVec_inj.mp
  apply BitVec.eq_of_toNat_eq
  rw [pk_ushr _ s k hs, pk_tn hn, pk_tn (Nat.lt_of_le_of_lt (Nat.div_le_self _ _) hn)]
end
section
/-! a search by a stack, in general: what its steps must do, and that it then finds the value -/
theorem gs_first (L : Nat → Bool) (u : Nat) : ∀ n : Nat, (∀ j, u ≤ j → j < n → L j = false) ∨ ∃ x, u ≤ x ∧ x < n ∧ L x = true ∧ ∀ j, u ≤ j → j < x → L j = false := by
  intro n
  induction n with
  | zero => exact Or.inl (fun j _ h => by omega)
  | succ n ih =>
    rcases ih with h | ⟨x, h1, h2, h3⟩
    · by_cases hn : u ≤ n ∧ L n = true
      · exact Or.inr ⟨n, hn.1, by omega, hn.2, h⟩
      · refine Or.inl (fun j h1 h2 => ?_)
        by_cases hj : j = n
        · exact gm_nt (fun z => hn ⟨by omega, hj ▸ z⟩)
        · exact h j h1 (by omega)
    · exact Or.inr ⟨x, h1, by omega, h3⟩
theorem gs_fd_g {f : Nat → Int} {L : Nat → Bool} {u : Nat} : ∀ n : Nat, u ≤ n → (∀ j, u ≤ j → j < n → L j = false) → gm_fd f L n = gm_fd f L u := by
  intro n
  induction n with
  | zero => intro h _; have e : u = 0 := (by omega); rw [e]
  | succ n ih =>
    intro h hj
    by_cases e : u = n + 1
    · rw [e]
    · rw [gm_fd, if_neg, ih (by omega) (fun j a b => hj j a (by omega))]
      intro z
      have := hj n (by omega) (by omega)
      rw [z.1] at this
      cases this
theorem gs_cnt_g {L : Nat → Bool} {u : Nat} : ∀ n : Nat, u ≤ n → (∀ j, u ≤ j → j < n → L j = false) → gm_cnt L n = gm_cnt L u := by
  intro n
  induction n with
  | zero => intro h _; have e : u = 0 := (by omega); rw [e]
  | succ n ih =>
    intro h hj
    by_cases e : u = n + 1
    · rw [e]
    · rw [gm_cnt, ih (by omega) (fun j a b => hj j a (by omega)), if_neg (by rw [hj n (by omega) (by omega)]; decide), Nat.add_zero]
theorem gs_cnt_u {L : Nat → Bool} {u : Nat} : ∀ n : Nat, u ≤ n → gm_cnt L u ≤ gm_cnt L n := by
  intro n
  induction n with
  | zero => intro h; have e : u = 0 := (by omega); subst e; exact Nat.le_refl _
  | succ n ih =>
    intro h
    by_cases e : u = n + 1
    · subst e; exact Nat.le_refl _
    · have := ih (by omega)
      rw [gm_cnt]; omega
def gs_A : Nat → Nat
  | 0 => 4
  | e + 1 => 4 + (e + 1) * (gs_A e + 2)
theorem gs_A_m {e : Nat} (h : e ≤ 6) : gs_A e ≤ 20000 := by
  have : ∀ e, e < 7 → gs_A e ≤ 20000 := by decide +kernel
  exact this e (by omega)
def gs_R {C : Type} (K D : Nat) (L : C → Prop) (Fre Don : C → Nat → Nat → (Nat → Bool) → (Nat → Bool) → Prop) (Mid : C → Nat → Nat → (Nat → Bool) → (Nat → Bool) → Nat → Prop) (Wai : C → Nat → (Nat → Bool) → (Nat → Bool) → Nat → Prop) (WaP : C → Nat → (Nat → Bool) → (Nat → Bool) → Prop) (Ag : Nat → C → C → Prop) : Prop :=
  (∀ d a b c, Ag d a b → Ag d b c → Ag d a c) ∧
  (∀ d a b, Ag (d + 1) a b → Ag d a b) ∧
  (∀ d a b P Q x, Ag (d + 1) a b → Wai a d P Q x → Wai b d P Q x) ∧
  (∀ d a b P Q, Ag (d + 1) a b → WaP a d P Q → WaP b d P Q) ∧
  (∀ d c s P Q, d ≤ D → s < K → Fre c s d P Q → gm_hm P Q = false → gm_hm Q P = false → (∀ c' s', s' ≤ s + 1 → Ag d c c' → Don c' s' d P Q → L c') → L c) ∧
  (∀ d c s P Q, d ≤ D → s < K → Fre c s d P Q → gm_hm P Q = true → (∀ c' s', s' ≤ s + 1 → Ag d c c' → Mid c' s' d P Q 0 → L c') → L c) ∧
  (∀ d c s P Q u x, d + 1 ≤ D → s < K → Mid c s d P Q u → u ≤ x → x < 64 → gm_lg P Q x = true → (∀ j, u ≤ j → j < x → gm_lg P Q j = false) → (∀ c' s', s' ≤ s + 1 → Ag d c c' → Wai c' d P Q x → Fre c' s' (d + 1) (gm_np P Q x) (gm_nq P Q x) → L c') → L c) ∧
  (∀ d c s P Q x, d + 1 ≤ D → s < K → x < 64 → gm_lg P Q x = true → Wai c d P Q x → Don c s (d + 1) (gm_np P Q x) (gm_nq P Q x) → (∀ c' s', s' ≤ s + 1 → Ag d c c' → Mid c' s' d P Q (x + 1) → L c') → L c) ∧
  (∀ d c s P Q u, d ≤ D → s < K → Mid c s d P Q u → gm_hm P Q = true → u ≤ 64 → (∀ j, u ≤ j → j < 64 → gm_lg P Q j = false) → (∀ c' s', s' ≤ s + 1 → Ag d c c' → Don c' s' d P Q → L c') → L c) ∧
  (∀ d c s P Q, d + 1 ≤ D → s < K → Fre c s d P Q → gm_hm P Q = false → gm_hm Q P = true → (∀ c' s', s' ≤ s + 1 → Ag d c c' → WaP c' d P Q → Fre c' s' (d + 1) Q P → L c') → L c) ∧
  (∀ d c s P Q, d + 1 ≤ D → s < K → gm_hm P Q = false → gm_hm Q P = true → WaP c d P Q → Don c s (d + 1) Q P → (∀ c' s', s' ≤ s + 1 → Ag d c c' → Don c' s' d P Q → L c') → L c)
section
variable {C : Type} {K D : Nat} {L : C → Prop} {Fre Don : C → Nat → Nat → (Nat → Bool) → (Nat → Bool) → Prop} {Mid : C → Nat → Nat → (Nat → Bool) → (Nat → Bool) → Nat → Prop} {Wai : C → Nat → (Nat → Bool) → (Nat → Bool) → Nat → Prop} {WaP : C → Nat → (Nat → Bool) → (Nat → Bool) → Prop} {Ag : Nat → C → C → Prop}
theorem gs_mid (R : gs_R K D L Fre Don Mid Wai WaP Ag) {d B : Nat} {P Q : Nat → Bool} (hd : d + 1 ≤ D) (hm : gm_hm P Q = true)
    (hch : ∀ c s x, gm_lg P Q x = true → Fre c s (d + 1) (gm_np P Q x) (gm_nq P Q x) → s + B ≤ K → (∀ c' s', s' ≤ s + B → Ag (d + 1) c c' → Don c' s' (d + 1) (gm_np P Q x) (gm_nq P Q x) → L c') → L c) :
    ∀ (k u : Nat) (c : C) (s N : Nat), 64 - u ≤ k → u ≤ 64 → Mid c s d P Q u → N + gm_cnt (gm_lg P Q) u = gm_cnt (gm_lg P Q) 64 → s + N * (B + 2) + 1 ≤ K → (∀ c' s', s' ≤ s + N * (B + 2) + 1 → Ag d c c' → Don c' s' d P Q → L c') → L c := by
  obtain ⟨tr, mo, wk, wpk, ro, rs, rm, rr, re, rp, rq⟩ := R
  intro k
  induction k with
  | zero =>
    intro u c s N hk hu hM hN hs hL
    exact re d c s P Q u (by omega) (by omega) hM hm hu (fun j a b => by omega) (fun c' s' a b e => hL c' s' (by omega) b e)
  | succ k ih =>
    intro u c s N hk hu hM hN hs hL
    rcases gs_first (gm_lg P Q) u 64 with hn | ⟨x, h1, h2, h3, h4⟩
    · exact re d c s P Q u (by omega) (by omega) hM hm hu hn (fun c' s' a b e => hL c' s' (by omega) b e)
    · have g1 := gs_cnt_g (L := gm_lg P Q) x h1 h4
      have g2 : gm_cnt (gm_lg P Q) (x + 1) = gm_cnt (gm_lg P Q) x + 1 := by rw [gm_cnt, if_pos h3]
      have g3 := gs_cnt_u (L := gm_lg P Q) (u := x + 1) 64 (by omega)
      cases N with
      | zero => omega
      | succ N =>
        rw [Nat.succ_mul] at hs hL
        refine rm d c s P Q u x hd (by omega) hM h1 h2 h3 h4 (fun c1 s1 b1 a1 w1 f1 => ?_)
        refine hch c1 s1 x h3 f1 (by omega) (fun c2 s2 b2 a2 d2 => ?_)
        refine rr d c2 s2 P Q x hd (by omega) h2 h3 (wk d c1 c2 P Q x a2 w1) d2 (fun c3 s3 b3 a3 m3 => ?_)
        refine ih (x + 1) c3 s3 N (by omega) (by omega) m3 (by omega) (by omega) (fun c4 s4 b4 a4 d4 => ?_)
        exact hL c4 s4 (by omega) (tr d _ _ _ a1 (tr d _ _ _ (mo d _ _ a2) (tr d _ _ _ a3 a4))) d4
theorem gs_mov (R : gs_R K D L Fre Don Mid Wai WaP Ag) {d B : Nat} {P Q : Nat → Bool} (hd : d + 1 ≤ D) (hm : gm_hm P Q = true)
    (hch : ∀ c s x, gm_lg P Q x = true → Fre c s (d + 1) (gm_np P Q x) (gm_nq P Q x) → s + B ≤ K → (∀ c' s', s' ≤ s + B → Ag (d + 1) c c' → Don c' s' (d + 1) (gm_np P Q x) (gm_nq P Q x) → L c') → L c)
    {c : C} {s : Nat} (hF : Fre c s d P Q) (hs : s + gm_e P Q * (B + 2) + 2 ≤ K) (hL : ∀ c' s', s' ≤ s + gm_e P Q * (B + 2) + 2 → Ag d c c' → Don c' s' d P Q → L c') : L c := by
  have R' := R
  obtain ⟨tr, mo, wk, wpk, ro, rs, rm, rr, re, rp, rq⟩ := R'
  have g := Nat.mul_le_mul_right (B + 2) (gm_lg_e P Q)
  refine rs d c s P Q (by omega) (by omega) hF hm (fun c1 s1 b1 a1 m1 => ?_)
  refine gs_mid R hd hm hch 64 0 c1 s1 (gm_cnt (gm_lg P Q) 64) (by omega) (by omega) m1 rfl (by omega) (fun c2 s2 b2 a2 d2 => ?_)
  exact hL c2 s2 (by omega) (tr d _ _ _ a1 a2) d2
theorem gs_run (R : gs_R K D L Fre Don Mid Wai WaP Ag) : ∀ (e : Nat) (c : C) (s d : Nat) (P Q : Nat → Bool), gm_e P Q = e → Fre c s d P Q → d + 2 * e ≤ D → s + gs_A e ≤ K → (∀ c' s', s' ≤ s + gs_A e → Ag d c c' → Don c' s' d P Q → L c') → L c := by
  have R' := R
  obtain ⟨tr, mo, wk, wpk, ro, rs, rm, rr, re, rp, rq⟩ := R'
  intro e
  induction e with
  | zero =>
    intro c s d P Q he hF hd hs hL
    have h1 : gm_hm P Q = false := gm_nt (fun z => by have := gm_hm_e z; omega)
    have h2 : gm_hm Q P = false := gm_nt (fun z => by have := gm_hm_e z; have := gm_e_s P Q; omega)
    have ha : gs_A 0 = 4 := rfl
    exact ro d c s P Q (by omega) (by omega) hF h1 h2 (fun c' s' a b z => hL c' s' (by omega) b z)
  | succ e ih =>
    intro c s d P Q he hF hd hs hL
    have ha : gs_A (e + 1) = 4 + (e + 1) * (gs_A e + 2) := rfl
    have mv : ∀ (d' : Nat) (P' Q' : Nat → Bool), gm_hm P' Q' = true → gm_e P' Q' = e + 1 → d' + 1 + 2 * e ≤ D → ∀ (c : C) (s : Nat), Fre c s d' P' Q' → s + (e + 1) * (gs_A e + 2) + 2 ≤ K → (∀ c' s', s' ≤ s + (e + 1) * (gs_A e + 2) + 2 → Ag d' c c' → Don c' s' d' P' Q' → L c') → L c := by
      intro d' P' Q' hm he' hd' c s hF hs hL
      refine gs_mov (B := gs_A e) R (by omega) hm ?_ hF (by rw [he']; exact hs) (by rw [he']; exact hL)
      intro c s x hx hf hsx hk
      have hen := gm_e_n hx
      exact ih c s (d' + 1) _ _ (by omega) hf (by omega) hsx hk
    cases h1 : gm_hm P Q with
    | true => exact mv d P Q h1 he (by omega) c s hF (by omega) (fun c' s' a b z => hL c' s' (by omega) b z)
    | false =>
      cases h2 : gm_hm Q P with
      | false => exact ro d c s P Q (by omega) (by omega) hF h1 h2 (fun c' s' a b z => hL c' s' (by omega) b z)
      | true =>
        refine rp d c s P Q (by omega) (by omega) hF h1 h2 (fun c1 s1 b1 a1 w1 f1 => ?_)
        refine mv (d + 1) Q P h2 ((gm_e_s P Q).trans he) (by omega) c1 s1 f1 (by omega) (fun c2 s2 b2 a2 d2 => ?_)
        refine rq d c2 s2 P Q (by omega) (by omega) h1 h2 (wpk d c1 c2 P Q a2 w1) d2 (fun c3 s3 b3 a3 d3 => ?_)
        exact hL c3 s3 (by omega) (tr d _ _ _ a1 (tr d _ _ _ (mo d _ _ a2) a3)) d3
end
end
section
/-! an array board: slot o, side m -/
def yb_o (a : Nat → Int32) (o : Nat) (m : Int32) (j : Nat) : Bool := decide (j < 64 ∧ a (o + j) = m)
def yb_w (a : Nat → Int32) (o : Nat) (m : Int32) (S : Nat → Bool) : Nat → Int32 := fun x => if o ≤ x ∧ S (x - o) = true then m else a x
theorem yb_ob {a : Nat → Int32} {o : Nat} {m : Int32} {j : Nat} (h : 64 ≤ j) : yb_o a o m j = false := decide_eq_false (fun z => by omega)
theorem yb_oi {a : Nat → Int32} {o : Nat} {m : Int32} {j : Nat} (h : j < 64) : yb_o a o m j = true ↔ a (o + j) = m := by
  unfold yb_o
  rw [decide_eq_true_eq]
  exact ⟨fun z => z.2, fun z => ⟨h, z⟩⟩
theorem yb_of {a : Nat → Int32} {o : Nat} {m : Int32} {j : Nat} (h : j < 64) : yb_o a o m j = false ↔ ¬ a (o + j) = m := by
  rw [← yb_oi h]
  cases yb_o a o m j
  · exact ⟨fun _ z => (by cases z), fun _ => rfl⟩
  · exact ⟨fun z => (by cases z), fun z => absurd rfl z⟩
theorem yb_oe {a b : Nat → Int32} {o o' : Nat} {m : Int32} (h : ∀ j, j < 64 → b (o' + j) = a (o + j)) : yb_o b o' m = yb_o a o m := by
  funext j
  rcases Nat.lt_or_ge j 64 with z | z
  · unfold yb_o; rw [h j z]
  · rw [yb_ob z, yb_ob z]
theorem yb_w0 (a : Nat → Int32) (o : Nat) (m : Int32) : yb_w a o m (fun _ => false) = a := by
  funext x
  exact if_neg (fun z => by cases z.2)
theorem yb_we {a : Nat → Int32} {o : Nat} {m : Int32} {S T : Nat → Bool} (h : ∀ j, S j = T j) : yb_w a o m S = yb_w a o m T := by
  have : S = T := funext h
  rw [this]
theorem yb_wu (a : Nat → Int32) (o : Nat) (m : Int32) (S : Nat → Bool) (t : Nat) : upd (yb_w a o m S) (o + t) m = yb_w a o m (fun j => S j || decide (j = t)) := by
  funext x
  unfold upd yb_w
  by_cases h : x = o + t
  · rw [if_pos h, if_pos]
    refine ⟨by omega, ?_⟩
    show (S (x - o) || decide (x - o = t)) = true
    rw [decide_eq_true (show x - o = t by omega), Bool.or_true]
  · rw [if_neg h]
    by_cases h2 : o ≤ x ∧ S (x - o) = true
    · rw [if_pos h2, if_pos ⟨h2.1, by show (S (x - o) || decide (x - o = t)) = true; rw [h2.2, Bool.true_or]⟩]
    · rw [if_neg h2, if_neg]
      rintro ⟨z1, z2⟩
      replace z2 : (S (x - o) || decide (x - o = t)) = true := z2
      rw [Bool.or_eq_true, decide_eq_true_eq] at z2
      rcases z2 with z2 | z2
      · exact h2 ⟨z1, z2⟩
      · omega
theorem yb_wl {a : Nat → Int32} {o : Nat} {m : Int32} {S : Nat → Bool} (hS : ∀ j, S j = true → j < 64) {x : Nat} (h : x < o ∨ o + 64 ≤ x) : yb_w a o m S x = a x := by
  unfold yb_w
  rw [if_neg]
  rintro ⟨z1, z2⟩
  have := hS _ z2
  omega
theorem yb_wo {a : Nat → Int32} {o : Nat} {m : Int32} {S : Nat → Bool} (hS : ∀ j, S j = true → j < 64) (j : Nat) : yb_o (yb_w a o m S) o m j = (yb_o a o m j || S j) := by
  rcases Nat.lt_or_ge j 64 with z | z
  · have e : yb_w a o m S (o + j) = if S j = true then m else a (o + j) := by
      unfold yb_w
      rw [Nat.add_sub_cancel_left]
      by_cases h : S j = true
      · rw [if_pos h, if_pos ⟨by omega, h⟩]
      · rw [if_neg h, if_neg (fun z => h z.2)]
    unfold yb_o
    rw [e]
    by_cases h : S j = true
    · rw [if_pos h, h, decide_eq_true ⟨z, rfl⟩, Bool.or_true]
    · rw [if_neg h, gm_nt h, Bool.or_false]
  · have e : S j = false := gm_nt (fun h => by have := hS j h; omega)
    rw [yb_ob z, yb_ob z, e, Bool.or_false]
theorem yb_wp {a : Nat → Int32} {o : Nat} {m m' : Int32} {S : Nat → Bool} (hm : m ≠ m') (j : Nat) : yb_o (yb_w a o m S) o m' j = (yb_o a o m' j && !S j) := by
  rcases Nat.lt_or_ge j 64 with z | z
  · have e : yb_w a o m S (o + j) = if S j = true then m else a (o + j) := by
      unfold yb_w
      rw [Nat.add_sub_cancel_left]
      by_cases h : S j = true
      · rw [if_pos h, if_pos ⟨by omega, h⟩]
      · rw [if_neg h, if_neg (fun z => h z.2)]
    unfold yb_o
    rw [e]
    by_cases h : S j = true
    · rw [if_pos h, h, decide_eq_false (fun z => hm z.2), Bool.not_true, Bool.and_false]
    · rw [if_neg h, gm_nt h, Bool.not_false, Bool.and_true]
  · rw [yb_ob z, yb_ob z]
    rfl
def yb_s (m : Int32) : Prop := m = 1 ∨ m = 2
theorem yb_3 {m : Int32} (h : yb_s m) : yb_s (3 - m) ∧ 3 - (3 - m) = m ∧ m ≠ 3 - m := by
  rcases h with rfl | rfl
  · exact ⟨Or.inr (by decide), by decide, by decide⟩
  · exact ⟨Or.inl (by decide), by decide, by decide⟩
theorem gm_cov_r (dr dc : Int) (k : Nat) (r c : Int) (j : Nat) : gm_cov dr dc (k + 1) r c j = (gm_cov dr dc k r c j || decide (j = gm_ix (r + (k : Int) * dr) (c + (k : Int) * dc))) := by
  rw [Bool.eq_iff_iff, Bool.or_eq_true, gm_cov_i, gm_cov_i, decide_eq_true_eq]
  constructor
  · rintro ⟨i, hi, e⟩
    by_cases h : i = k
    · exact Or.inr (h ▸ e)
    · exact Or.inl ⟨i, by omega, e⟩
  · rintro (⟨i, hi, e⟩ | e)
    · exact ⟨i, by omega, e⟩
    · exact ⟨k, by omega, e⟩
theorem gm_g_b {p q : Nat → Bool} {s : Nat} (hs : s < 64) (j : Nat) (h : gm_g p q s j = true) : j < 64 := by
  unfold gm_g at h
  rw [Bool.or_eq_true, decide_eq_true_eq] at h
  rcases h with h | h
  · exact (gm_acc_b h).1
  · omega
/-- the ray t, walked over a board that holds the rays below t already as the mover's -/
theorem gm_k_q {p q : Nat → Bool} {s t : Nat} (ht : t < 9) : gm_k (fun j => p j || gm_acc p q s t j) (fun j => q j && !gm_acc p q s t j) s t = gm_k p q s t := by
  unfold gm_k
  by_cases h4 : t = 4
  · rw [if_pos h4, if_pos h4]
  · rw [if_neg h4, if_neg h4, gm_len_q (p := p) (q := q)]
    intro i _ ho
    rw [gm_acc_o (by omega) (Nat.le_refl t) ht ho, Bool.or_false, Bool.not_false, Bool.and_true]
    exact ⟨rfl, rfl⟩
theorem gm_off8 {a b : Int} {r c : Nat} (h1 : a = -1 ∨ a = 0 ∨ a = 1) (h2 : b = -1 ∨ b = 0 ∨ b = 1) (h3 : ¬ (a = 0 ∧ b = 0)) (hr : r < 8) (hc : c < 8) (ho : gm_on ((r : Int) + a + ((7 : Nat) : Int) * a) ((c : Int) + b + ((7 : Nat) : Int) * b)) : False := by
  obtain ⟨⟨o1, o2⟩, o3, o4⟩ := ho
  rcases h1 with h | h | h
  · rw [h] at o1; omega
  · rcases h2 with h' | h' | h'
    · rw [h'] at o3; omega
    · exact h3 ⟨h, h'⟩
    · rw [h'] at o4; omega
  · rw [h] at o2; omega
theorem gm_k8 {p q : Nat → Bool} {s t : Nat} (hs : s < 64) (h4 : t ≠ 4) (ht : t < 9) : gm_k p q s t = (gm_len p q (gm_dr t) (gm_dc t) 8 (gm_r0 s t) (gm_c0 s t)).getD 0 := by
  unfold gm_k
  rw [if_neg h4, gm_len_1 7]
  intro ho
  have h1 := gm_dr3 ht
  have h2 := gm_dc3 t
  have h3 := gm_dne h4
  unfold gm_r0 gm_c0 at ho
  exact gm_off8 h1 h2 h3 (show s / 8 < 8 by omega) (show s % 8 < 8 by omega) ho
/-! the line: positions after i entries, its length -/
def gm_pos (p q : Nat → Bool) : Nat → (Nat → Bool) × (Nat → Bool)
  | 0 => (p, q)
  | i + 1 => if gm_hm (gm_pos p q i).1 (gm_pos p q i).2 = true then (gm_np (gm_pos p q i).1 (gm_pos p q i).2 (gm_F (gm_pos p q i).1 (gm_pos p q i).2).toNat, gm_nq (gm_pos p q i).1 (gm_pos p q i).2 (gm_F (gm_pos p q i).1 (gm_pos p q i).2).toNat) else ((gm_pos p q i).2, (gm_pos p q i).1)
def gm_Fi (p q : Nat → Bool) (i : Nat) : Int := gm_F (gm_pos p q i).1 (gm_pos p q i).2
def gm_PL (p q : Nat → Bool) (l : Nat) : Prop := l ≤ 12 ∧ (∀ i, i < l → gm_Fi p q i ≠ -1) ∧ (l < 12 → gm_Fi p q l = -1)
theorem gm_PL_u {p q : Nat → Bool} {l l' : Nat} (h : gm_PL p q l) (h' : gm_PL p q l') : l = l' := by
  obtain ⟨a1, a2, a3⟩ := h
  obtain ⟨b1, b2, b3⟩ := h'
  rcases Nat.lt_trichotomy l l' with z | z | z
  · exact absurd (a3 (by omega)) (b2 l z)
  · exact z
  · exact absurd (b3 (by omega)) (a2 l' z)
theorem gm_F_m {p q : Nat → Bool} (h : gm_hm p q = true) : ∃ x : Nat, x < 64 ∧ gm_F p q = (x : Int) ∧ gm_lg p q x = true ∧ gm_f p q x = gm_W p q ∧ ∀ s, s < x → gm_lg p q s = true → gm_f p q s < gm_W p q := by
  obtain ⟨x, hx, e, h1, h2⟩ := gm_fd_m h
  have eW : gm_W p q = gm_f p q x := by rw [gm_W_m h, e]
  refine ⟨x, hx, ?_, h1, eW.symm, ?_⟩
  · unfold gm_F; rw [if_pos h, e]
  · rw [eW]; exact h2
theorem gm_F_p {p q : Nat → Bool} (h : gm_hm p q = false) (h2 : gm_hm q p = true) : gm_F p q = 64 := by
  unfold gm_F; rw [if_neg (by rw [h]; decide), if_pos h2]
theorem gm_F_o {p q : Nat → Bool} (h : gm_hm p q = false) (h2 : gm_hm q p = false) : gm_F p q = -1 := by
  unfold gm_F; rw [if_neg (by rw [h]; decide), if_neg (by rw [h2]; decide)]
theorem gm_F_b (p q : Nat → Bool) : -1 ≤ gm_F p q ∧ gm_F p q ≤ 64 := by
  cases h : gm_hm p q with
  | true => obtain ⟨x, hx, e, _⟩ := gm_F_m h; omega
  | false =>
    cases h2 : gm_hm q p with
    | true => rw [gm_F_p h h2]; omega
    | false => rw [gm_F_o h h2]; omega
theorem gm_pos_e (p q : Nat → Bool) : ∀ i : Nat, gm_e (gm_pos p q i).1 (gm_pos p q i).2 ≤ gm_e p q := by
  intro i
  induction i with
  | zero => exact Nat.le_refl _
  | succ i ih =>
    rw [gm_pos]
    by_cases h : gm_hm (gm_pos p q i).1 (gm_pos p q i).2 = true
    · rw [if_pos h]
      obtain ⟨x, hx, e, h1, _⟩ := gm_F_m h
      have := gm_e_n h1
      rw [e]
      show gm_e (gm_np _ _ x) (gm_nq _ _ x) ≤ _
      omega
    · rw [if_neg h]
      have := gm_e_s (gm_pos p q i).1 (gm_pos p q i).2
      show gm_e (gm_pos p q i).2 (gm_pos p q i).1 ≤ _
      omega
end
section
/-! the two boards -/
def rb_R (b w : Int64) (a : Nat → Int32) : Prop := xb_t b = yb_o a 0 1 ∧ xb_t w = yb_o a 0 2 ∧ ∀ j, j < 64 → a j = 0 ∨ a j = 1 ∨ a j = 2
theorem rb_upd {a : Nat → Int32} {s : Nat} {v m : Int32} (hs : s < 64) (j : Nat) : yb_o (upd a s v) 0 m j = if j = s then decide (v = m) else yb_o a 0 m j := by
  unfold yb_o upd
  rw [Nat.zero_add]
  by_cases h : j = s
  · subst h; simp [hs]
  · rw [if_neg h, if_neg h]
theorem rb_tri {a : Nat → Int32} {s : Nat} {v : Int32} (h : ∀ j, j < 64 → a j = 0 ∨ a j = 1 ∨ a j = 2) (hv : v = 0 ∨ v = 1 ∨ v = 2) : ∀ j, j < 64 → upd a s v j = 0 ∨ upd a s v j = 1 ∨ upd a s v j = 2 := by
  intro j hj
  unfold upd
  by_cases e : j = s
  · rw [if_pos e]; exact hv
  · rw [if_neg e]; exact h j hj
theorem rb_in {x y : Int64} {a : Nat → Int32} {s : Nat} {v m : Int32} (hs : s < 64) (hx : xb_t x = yb_o a 0 m) (hy : ∀ j, xb_t y j = decide (j = s)) (hv : v = m) : xb_t (x ||| y) = yb_o (upd a s v) 0 m := by
  funext j
  rw [xb_or, hx, hy, rb_upd hs]
  by_cases h : j = s
  · rw [if_pos h, decide_eq_true h, decide_eq_true hv, Bool.or_true]
  · rw [if_neg h, decide_eq_false h, Bool.or_false]
theorem rb_out {x y : Int64} {a : Nat → Int32} {s : Nat} {v m : Int32} (hs : s < 64) (hx : xb_t x = yb_o a 0 m) (hy : ∀ j, xb_t y j = decide (j = s)) (hv : ¬ v = m) : xb_t (x &&& (y ^^^ (-1))) = yb_o (upd a s v) 0 m := by
  funext j
  rw [xb_andn, hx, hy, rb_upd hs]
  by_cases h : j = s
  · rw [if_pos h, decide_eq_true h, decide_eq_false hv, Bool.not_true, Bool.and_false]
  · rw [if_neg h, decide_eq_false h, Bool.not_false, Bool.and_true]
/-! a row of the board -/
def rb_v (b w c : Nat) : Int32 := if b.testBit c = true then 1 else if w.testBit c = true then 2 else 0
def rb_r (a : Nat → Int32) (r b w n : Nat) : Nat → Int32 := fun x => if 8 * r ≤ x ∧ x < 8 * r + n then rb_v b w (x - 8 * r) else a x
theorem rb_r0 (a : Nat → Int32) (r b w : Nat) : rb_r a r b w 0 = a := by
  funext x
  exact if_neg (fun z => by omega)
theorem rb_ru (a : Nat → Int32) (r b w n : Nat) : upd (rb_r a r b w n) (8 * r + n) (rb_v b w n) = rb_r a r b w (n + 1) := by
  funext x
  unfold upd rb_r
  by_cases h : x = 8 * r + n
  · rw [if_pos h, if_pos (by omega)]
    have e : x - 8 * r = n := by omega
    rw [e]
  · rw [if_neg h]
    by_cases h2 : 8 * r ≤ x ∧ x < 8 * r + n
    · rw [if_pos h2, if_pos (by omega)]
    · rw [if_neg h2, if_neg (by omega)]
theorem rb_v3 (b w c : Nat) : rb_v b w c = 0 ∨ rb_v b w c = 1 ∨ rb_v b w c = 2 := by
  unfold rb_v
  by_cases h : b.testBit c = true
  · rw [if_pos h]; exact Or.inr (Or.inl rfl)
  · rw [if_neg h]
    by_cases h2 : w.testBit c = true
    · rw [if_pos h2]; exact Or.inr (Or.inr rfl)
    · rw [if_neg h2]; exact Or.inl rfl
theorem rb_v1 {b w c : Nat} : rb_v b w c = 1 ↔ b.testBit c = true := by
  unfold rb_v
  by_cases h : b.testBit c = true
  · rw [if_pos h]; exact ⟨fun _ => h, fun _ => rfl⟩
  · rw [if_neg h]
    by_cases h2 : w.testBit c = true
    · rw [if_pos h2]; exact ⟨fun z => absurd z (by decide), fun z => absurd z h⟩
    · rw [if_neg h2]; exact ⟨fun z => absurd z (by decide), fun z => absurd z h⟩
theorem rb_v2 {b w c : Nat} (hd : b.testBit c = true → w.testBit c = true → False) : rb_v b w c = 2 ↔ w.testBit c = true := by
  unfold rb_v
  by_cases h : b.testBit c = true
  · rw [if_pos h]; exact ⟨fun z => absurd z (by decide), fun z => (hd h z).elim⟩
  · rw [if_neg h]
    by_cases h2 : w.testBit c = true
    · rw [if_pos h2]; exact ⟨fun _ => h2, fun _ => rfl⟩
    · rw [if_neg h2]; exact ⟨fun z => absurd z (by decide), fun z => absurd z h2⟩
theorem rb_sh {n k : Nat} (hn : n < 2 ^ 31) (hk : k < 64) (j : Nat) : xb_t ((nI n).toInt64 <<< ((nI k).toInt64 &&& 63)) j = (decide (j < 64) && (decide (k ≤ j) && n.testBit (j - k))) := by
  rw [nI_l hn, wb_shl n hk, xb_lN, Nat.mul_comm, Nat.testBit_two_pow_mul]
theorem rb_255 (c : Nat) : Nat.testBit 255 c = decide (c < 8) := Nat.testBit_two_pow_sub_one 8 c
theorem rb_lt {n c : Nat} (hn : n < 256) (hc : 8 ≤ c) : n.testBit c = false := by
  apply Nat.testBit_lt_two_pow
  have : 2 ^ 8 ≤ 2 ^ c := Nat.pow_le_pow_right (by decide) hc
  omega
theorem rb_row {x : Int64} {a : Nat → Int32} {r n b w : Nat} {m : Int32} {M : Int64} (hr : r < 8) (hn : n < 256) (hx : xb_t x = yb_o a 0 m) (hM : ∀ j, xb_t M j = (decide (j < 64) && (decide (8 * r ≤ j) && Nat.testBit 255 (j - 8 * r)))) (hv : ∀ c, rb_v b w c = m ↔ n.testBit c = true) : xb_t ((x &&& (M ^^^ (-1))) ||| ((nI n).toInt64 <<< ((nI (8 * r)).toInt64 &&& 63))) = yb_o (rb_r a r b w 8) 0 m := by
  apply xb_fun (fun j hj => yb_ob hj)
  intro j hj
  rw [xb_or, xb_andn, hx, hM, rb_sh (by omega) (by omega), rb_255]
  unfold yb_o rb_r
  rw [Nat.zero_add]
  by_cases h : 8 * r ≤ j ∧ j < 8 * r + 8
  · rw [if_pos h, decide_eq_true hj, decide_eq_true h.1, decide_eq_true (show j - 8 * r < 8 by omega)]
    simp only [Bool.true_and, Bool.not_true, Bool.and_false, Bool.false_or]
    rw [Bool.eq_iff_iff, decide_eq_true_eq, ← hv]
    exact ⟨fun z => ⟨hj, z⟩, fun z => z.2⟩
  · rw [if_neg h]
    have e : (decide (8 * r ≤ j) && n.testBit (j - 8 * r)) = false := by
      by_cases h2 : 8 * r ≤ j
      · rw [rb_lt hn (by omega), Bool.and_false]
      · rw [decide_eq_false h2]; rfl
    have e2 : (decide (8 * r ≤ j) && decide (j - 8 * r < 8)) = false := by
      by_cases h2 : 8 * r ≤ j
      · rw [decide_eq_false (show ¬ j - 8 * r < 8 by omega), Bool.and_false]
      · rw [decide_eq_false h2]; rfl
    rw [e, e2, Bool.and_false, Bool.not_false, Bool.and_true, Bool.or_false]
theorem rb_rowt {a : Nat → Int32} {r b w : Nat} (h : ∀ j, j < 64 → a j = 0 ∨ a j = 1 ∨ a j = 2) : ∀ j, j < 64 → rb_r a r b w 8 j = 0 ∨ rb_r a r b w 8 j = 1 ∨ rb_r a r b w 8 j = 2 := by
  intro j hj
  unfold rb_r
  by_cases e : 8 * r ≤ j ∧ j < 8 * r + 8
  · rw [if_pos e]; exact rb_v3 _ _ _
  · rw [if_neg e]; exact h j hj
theorem rb_sl : ∀ n, n < 32 → ((nI n &&& 31).toBitVec.smod 32).toNat = n := by decide +kernel
theorem rb_bit {n c : Nat} (hn : n < 256) (hc : c < 8) : ((nI n >>> (nI c &&& 31)) &&& 1) = 1 ↔ n.testBit c = true := by
  rw [pk_shrN (by omega) _ c (rb_sl c (by omega)), pk_andN (Nat.lt_of_le_of_lt (Nat.div_le_self _ _) (by omega)) 1 (by decide), Nat.testBit_eq_decide_div_mod_eq, decide_eq_true_eq]
  have h := Nat.mod_lt (n / 2 ^ c) (show 0 < 2 ^ 1 by decide)
  have e : (1 : Int32) = nI 1 := by decide
  rw [e, nI_eq (by omega) (by omega)]
theorem rb_nand (a b : Nat) : nI a &&& nI b = nI (a &&& b) := by
  apply Int32.toBitVec_inj.1
  show BitVec.ofNat 32 a &&& BitVec.ofNat 32 b = BitVec.ofNat 32 (a &&& b)
  apply BitVec.eq_of_getLsbD_eq
  intro i hi
  simp [hi]
theorem rb_dis {b w : Nat} (hb : b < 256) (h : nI b &&& nI w = 0) (c : Nat) (h1 : b.testBit c = true) (h2 : w.testBit c = true) : False := by
  have h3 : b &&& w ≤ b := Nat.and_le_left
  rw [rb_nand, ← nI_0, nI_eq (by omega) (by omega)] at h
  have h4 : (b &&& w).testBit c = true := by rw [Nat.testBit_and, h1, h2]; rfl
  rw [h, Nat.zero_testBit] at h4
  cases h4
/-! empty squares -/
theorem rb_em {b w : Int64} {a : Nat → Int32} (h : rb_R b w a) {j : Nat} (hj : j < 64) : gm_em (xb_t b) (xb_t w) j = decide (a j = 0) := by
  obtain ⟨h1, h2, h3⟩ := h
  unfold gm_em
  rw [h1, h2, decide_eq_true hj]
  unfold yb_o
  rw [Nat.zero_add]
  rcases h3 j hj with e | e | e
  · rw [e, decide_eq_false (fun z => absurd z.2 (by decide)), decide_eq_false (fun z => absurd z.2 (by decide)), decide_eq_true rfl]; rfl
  · rw [e, decide_eq_true ⟨hj, rfl⟩, decide_eq_false (show ¬ (1 : Int32) = 0 by decide)]; rfl
  · rw [e, decide_eq_true (show j < 64 ∧ (2 : Int32) = 2 from ⟨hj, rfl⟩), decide_eq_false (show ¬ (2 : Int32) = 0 by decide), Bool.not_true, Bool.and_false]; rfl
theorem rb_get {b w : Int64} {a : Nat → Int32} (h : rb_R b w a) {j : Nat} (hj : j < 64) : (xb_t b j = true → a j = 1) ∧ (xb_t b j = false → xb_t w j = true → a j = 2) ∧ (xb_t b j = false → xb_t w j = false → a j = 0) := by
  obtain ⟨h1, h2, h3⟩ := h
  rw [h1, h2, yb_oi hj, yb_oi hj, yb_of hj, yb_of hj, Nat.zero_add]
  refine ⟨fun z => z, fun _ z => z, fun z1 z2 => ?_⟩
  rcases h3 j hj with e | e | e
  · exact e
  · exact absurd e z1
  · exact absurd e z2
end
section
/-! rows and columns as ints -/
theorem zn_8 : (8 : Int32) = nI 8 := by decide
theorem zn_8z : (8 : Int32) = zi_z 8 := by decide
theorem zn_row {s i t : Nat} (hs : s < 64) : nI s / 8 + nI (i + 1) * zi_z (gm_dr t) = zi_z (gm_r0 s t + (i : Int) * gm_dr t) := by
  rw [zn_8, pk_div (by omega) (by decide) (by decide), ← zi_n, ← zi_n, zi_mul, zi_add, gm_st]
  rfl
theorem zn_col {s i t : Nat} (hs : s < 64) : (nI s - nI s / 8 * 8) + nI (i + 1) * zi_z (gm_dc t) = zi_z (gm_c0 s t + (i : Int) * gm_dc t) := by
  rw [zn_8, pk_rem (by omega) (by decide) (by decide), ← zi_n, ← zi_n, zi_mul, zi_add, gm_st]
  rfl
theorem zn_row0 {s t : Nat} (hs : s < 64) : nI s / 8 + zi_z (gm_dr t) = zi_z (gm_r0 s t) := by
  rw [zn_8, pk_div (by omega) (by decide) (by decide), ← zi_n, zi_add]
  rfl
theorem zn_col0 {s t : Nat} (hs : s < 64) : (nI s - nI s / 8 * 8) + zi_z (gm_dc t) = zi_z (gm_c0 s t) := by
  rw [zn_8, pk_rem (by omega) (by decide) (by decide), ← zi_n, zi_add]
  rfl
theorem zn_b1 {x a : Int} {i : Nat} (h : a = -1 ∨ a = 0 ∨ a = 1) (hx : 0 ≤ x ∧ x < 8) (hi : i ≤ 8) : -100 ≤ x + a + (i : Int) * a ∧ x + a + (i : Int) * a ≤ 100 := by
  rcases h with rfl | rfl | rfl <;> omega
theorem zn_rb {s i t : Nat} (ht : t < 9) (hs : s < 64) (hi : i ≤ 8) : -100 ≤ gm_r0 s t + (i : Int) * gm_dr t ∧ gm_r0 s t + (i : Int) * gm_dr t ≤ 100 := zn_b1 (gm_dr3 ht) (by omega) hi
theorem zn_cb {s i t : Nat} (hi : i ≤ 8) : -100 ≤ gm_c0 s t + (i : Int) * gm_dc t ∧ gm_c0 s t + (i : Int) * gm_dc t ≤ 100 := zn_b1 (gm_dc3 t) (by omega) hi
theorem zn_ix {r c : Int} (h : gm_on r c) : 8 * zi_z r + zi_z c = nI (gm_ix r c) := by
  rw [zn_8z, zi_mul, zi_add, ← gm_ixI h, zi_n]
theorem zn_dr : ∀ i : Nat, i < 3 → ∀ j : Nat, j < 3 → gm_dr (3 * i + j) = (i : Int) - 1 ∧ gm_dc (3 * i + j) = (j : Int) - 1 := by
  intro i hi j hj
  unfold gm_dr gm_dc
  omega
theorem zn_lt0 {x : Int} (h : -1000 ≤ x) (h' : x ≤ 1000) : zi_z x < 0 ↔ x < 0 := by
  rw [zi_0, zi_lt (by omega) (by omega) (by decide) (by decide)]
theorem zn_le0 {x : Int} (h : -1000 ≤ x) (h' : x ≤ 1000) : (0 : Int32) ≤ zi_z x ↔ 0 ≤ x := by
  rw [zi_0, zi_le (by decide) (by decide) (by omega) (by omega)]
theorem zn_lt8 {x : Int} (h : -1000 ≤ x) (h' : x ≤ 1000) : zi_z x < 8 ↔ x < 8 := by
  rw [zn_8z, zi_lt (by omega) (by omega) (by decide) (by decide)]
theorem zn_le7 {x : Int} (h : -1000 ≤ x) (h' : x ≤ 1000) : zi_z x ≤ 7 ↔ x ≤ 7 := by
  have e : (7 : Int32) = zi_z 7 := by decide
  rw [e, zi_le (by omega) (by omega) (by decide) (by decide)]
end
section
/-! the component's stack of frames, over any loop predicate L -/
abbrev gx_A : Type := (Nat → Int64) × (Nat → Int64) × (Nat → Int64) × (Nat → Int32) × (Nat → Int32) × (Nat → Int32) × (Nat → Int32)
def gx_fr (F : gx_A) (d : Nat) (P Q U : Nat → Bool) (w : Int32) (bm be : Int) : Prop := xb_t (F.1 d) = P ∧ xb_t (F.2.1 d) = Q ∧ xb_t (F.2.2.1 d) = U ∧ F.2.2.2.1 d = w ∧ F.2.2.2.2.2.1 d = zi_z bm ∧ F.2.2.2.2.2.2 d = zi_z be
def gx_ty (F : gx_A) (d : Nat) : Int32 := F.2.2.2.2.1 d
def gx_ag (d : Nat) (F G : gx_A) : Prop := ∀ i, i < d → F.1 i = G.1 i ∧ F.2.1 i = G.2.1 i ∧ F.2.2.1 i = G.2.2.1 i ∧ F.2.2.2.1 i = G.2.2.2.1 i ∧ F.2.2.2.2.1 i = G.2.2.2.2.1 i ∧ F.2.2.2.2.2.1 i = G.2.2.2.2.2.1 i ∧ F.2.2.2.2.2.2 i = G.2.2.2.2.2.2 i
def gx_Fr0 (F : gx_A) (d : Nat) (P Q : Nat → Bool) : Prop := gx_fr F d P Q (gm_lg P Q) (if gm_hm P Q = false ∧ gm_hm Q P = true then 1 else 0) (-1) (if gm_hm P Q = false ∧ gm_hm Q P = false then gm_df P Q else -65)
abbrev gx_C : Type := Nat × Nat × gx_A
def gx_Fre (c : gx_C) (s d : Nat) (P Q : Nat → Bool) : Prop := c.1 = s ∧ c.2.1 = d ∧ gx_Fr0 c.2.2 d P Q
def gx_Mid (c : gx_C) (s d : Nat) (P Q : Nat → Bool) (u : Nat) : Prop := c.1 = s ∧ c.2.1 = d ∧ gx_fr c.2.2 d P Q (fun j => decide (u ≤ j) && gm_lg P Q j) 0 (gm_fd (gm_f P Q) (gm_lg P Q) u).2 (gm_fd (gm_f P Q) (gm_lg P Q) u).1
def gx_Don (c : gx_C) (s d : Nat) (P Q : Nat → Bool) : Prop := c.1 = s ∧ c.2.1 = d ∧ gx_fr c.2.2 d P Q (fun _ => false) 0 (gm_F P Q) (gm_W P Q)
def gx_Wai (c : gx_C) (d : Nat) (P Q : Nat → Bool) (x : Nat) : Prop := gx_fr c.2.2 d P Q (fun j => decide (x + 1 ≤ j) && gm_lg P Q j) 0 (gm_fd (gm_f P Q) (gm_lg P Q) x).2 (gm_fd (gm_f P Q) (gm_lg P Q) x).1 ∧ gx_ty c.2.2 d = nI x
def gx_WaP (c : gx_C) (d : Nat) (P Q : Nat → Bool) : Prop := gx_fr c.2.2 d P Q (fun _ => false) 0 (-1) (-65) ∧ gx_ty c.2.2 d = nI 64
def gx_Ag (d : Nat) (c c' : gx_C) : Prop := gx_ag d c.2.2 c'.2.2
/-- what a step of the loop does: a move, a pass, a report -/
def gx_LM (L : gx_C → Prop) : Prop := ∀ (s d x : Nat) (F : gx_A) (P Q U : Nat → Bool) (bm be : Int), s < 1000000 → d ≤ 12 → gx_fr F d P Q U 0 bm be → x < 64 → U x = true → (∀ j, j < x → U j = false) → gm_lg P Q x = true → (∀ F', gx_ag d F F' → gx_fr F' d P Q (fun j => U j && !decide (j = x)) 0 bm be → gx_ty F' d = nI x → gx_Fr0 F' (d + 1) (gm_np P Q x) (gm_nq P Q x) → L (s + 1, d + 1, F')) → L (s, d, F)
def gx_LP (L : gx_C → Prop) : Prop := ∀ (s d : Nat) (F : gx_A) (P Q U : Nat → Bool) (bm be : Int), s < 1000000 → d ≤ 12 → gx_fr F d P Q U 1 bm be → (∀ F', gx_ag d F F' → gx_fr F' d P Q U 0 bm be → gx_ty F' d = nI 64 → gx_Fr0 F' (d + 1) Q P → L (s + 1, d + 1, F')) → L (s, d, F)
def gx_LR (L : gx_C → Prop) : Prop := ∀ (s d : Nat) (F : gx_A) (P Q U P' Q' : Nat → Bool) (w : Int32) (bm be b' v' ty : Int), s < 1000000 → d + 1 ≤ 12 → gx_fr F (d + 1) P' Q' (fun _ => false) 0 b' v' → gx_fr F d P Q U w bm be → gx_ty F d = zi_z ty → (∀ F', gx_ag d F F' → gx_fr F' d P Q U w (if zi_z be < -zi_z v' then ty else bm) (if zi_z be < -zi_z v' then -v' else be) → L (s + 1, d, F')) → L (s, d + 1, F)
theorem gx_fr_a {F G : gx_A} {d : Nat} {P Q U : Nat → Bool} {w : Int32} {bm be : Int} (h : gx_ag (d + 1) F G) (hf : gx_fr F d P Q U w bm be) : gx_fr G d P Q U w bm be := by
  obtain ⟨e1, e2, e3, e4, e5, e6, e7⟩ := h d (by omega)
  obtain ⟨f1, f2, f3, f4, f5, f6⟩ := hf
  exact ⟨e1 ▸ f1, e2 ▸ f2, e3 ▸ f3, e4 ▸ f4, e6 ▸ f5, e7 ▸ f6⟩
theorem gx_ag_t {d : Nat} {F G H : gx_A} (h : gx_ag d F G) (h' : gx_ag d G H) : gx_ag d F H := by
  intro i hi
  obtain ⟨e1, e2, e3, e4, e5, e6, e7⟩ := h i hi
  obtain ⟨f1, f2, f3, f4, f5, f6, f7⟩ := h' i hi
  exact ⟨e1.trans f1, e2.trans f2, e3.trans f3, e4.trans f4, e5.trans f5, e6.trans f6, e7.trans f7⟩
theorem gx_ag_r (d : Nat) (F : gx_A) : gx_ag d F F := fun _ _ => ⟨rfl, rfl, rfl, rfl, rfl, rfl, rfl⟩
theorem gx_fr_u {F : gx_A} {d : Nat} {P Q U U' : Nat → Bool} {w w' : Int32} {bm be bm' be' : Int} (hf : gx_fr F d P Q U w bm be) (h1 : ∀ j, U j = U' j) (h2 : w = w') (h3 : bm = bm') (h4 : be = be') : gx_fr F d P Q U' w' bm' be' := by
  have e : U = U' := funext h1
  rw [← e, ← h2, ← h3, ← h4]
  exact hf
theorem gm_fd_b {p q : Nat → Bool} (n : Nat) : -65 ≤ (gm_fd (gm_f p q) (gm_lg p q) n).1 ∧ (gm_fd (gm_f p q) (gm_lg p q) n).1 ≤ 64 := by
  rcases gm_fd_i (gm_f p q) (gm_lg p q) n with ⟨e, _⟩ | ⟨x, _, e, _⟩
  · rw [e]; exact ⟨by decide, by decide⟩
  · rw [e]
    have := gm_f_b p q x
    show -65 ≤ gm_f p q x ∧ gm_f p q x ≤ 64
    omega
theorem gm_lg_64 {p q : Nat → Bool} {j : Nat} (h : 64 ≤ j) : gm_lg p q j = false := gm_nt (fun z => by have := (gm_lg_i.mp z).1; omega)
theorem gx_R {L : gx_C → Prop} (hM : gx_LM L) (hP : gx_LP L) (hR : gx_LR L) : gs_R 1000000 12 L gx_Fre gx_Don gx_Mid gx_Wai gx_WaP gx_Ag := by
  refine ⟨fun d a b c h h' => gx_ag_t h h', fun d a b h i hi => h i (by omega), ?_, ?_, ?_, ?_, ?_, ?_, ?_, ?_, ?_⟩
  · intro d a b P Q x h hw
    exact ⟨gx_fr_a h hw.1, (h d (by omega)).2.2.2.2.1.symm.trans hw.2⟩
  · intro d a b P Q h hw
    exact ⟨gx_fr_a h hw.1, (h d (by omega)).2.2.2.2.1.symm.trans hw.2⟩
  · intro d c s P Q hd hs hF h1 h2 hL
    refine hL c s (by omega) (gx_ag_r d _) ⟨hF.1, hF.2.1, gx_fr_u hF.2.2 (gm_hm_f h1) (if_neg (by rw [h2]; simp)) (gm_F_o h1 h2).symm ?_⟩
    rw [if_pos ⟨h1, h2⟩, gm_W_o h1 h2]
  · intro d c s P Q hd hs hF h1 hL
    refine hL c s (by omega) (gx_ag_r d _) ⟨hF.1, hF.2.1, gx_fr_u hF.2.2 (fun j => by simp) (if_neg (by rw [h1]; simp)) rfl ?_⟩
    rw [if_neg (by rw [h1]; simp)]
    rfl
  · rintro d ⟨cs, cd, F⟩ s P Q u x hd hs ⟨e1, e2, hF⟩ hu hx hlx hg hL
    dsimp only at e1 e2 hF
    subst e1 e2
    refine hM cs cd x F P Q _ _ _ hs (by omega) hF hx (by simp [hu, hlx]) ?_ hlx ?_
    · intro j hj
      by_cases h : u ≤ j
      · simp [hg j h hj]
      · simp [h]
    · intro F' ha hf ht hn
      refine hL (cs + 1, cd + 1, F') (cs + 1) (Nat.le_refl _) ha ⟨gx_fr_u hf ?_ rfl ?_ ?_, ht⟩ ⟨rfl, rfl, hn⟩
      · intro j
        by_cases h : x + 1 ≤ j
        · have h2 : u ≤ j := by omega
          have h3 : ¬ j = x := by omega
          simp [h, h2, h3]
        · by_cases h2 : j = x
          · have h3 : ¬ x + 1 ≤ x := by omega
            simp [h2, h3]
          · by_cases h3 : u ≤ j
            · simp [hg j h3 (by omega)]
            · simp [h, h3]
      · rw [gs_fd_g x hu hg]
      · rw [gs_fd_g x hu hg]
  · rintro d ⟨cs, cd, F⟩ s P Q x hd hs hx hlx ⟨hw, ht⟩ ⟨e1, e2, hF⟩ hL
    dsimp only at e1 e2 hF hw ht
    subst e1 e2
    rw [← zi_n] at ht
    refine hR cs d F P Q _ _ _ _ _ _ _ _ _ hs hd hF hw ht ?_
    intro F' ha hf
    refine hL (cs + 1, d, F') (cs + 1) (Nat.le_refl _) ha ⟨rfl, rfl, ?_⟩
    have b1 := gm_fd_b (p := P) (q := Q) x
    have b2 := gm_W_b (gm_np P Q x) (gm_nq P Q x)
    have ef : -gm_W (gm_np P Q x) (gm_nq P Q x) = gm_f P Q x := rfl
    have hq : zi_z (gm_fd (gm_f P Q) (gm_lg P Q) x).1 < -zi_z (gm_W (gm_np P Q x) (gm_nq P Q x)) ↔ (gm_fd (gm_f P Q) (gm_lg P Q) x).1 < gm_f P Q x := by
      rw [zi_neg, zi_lt (by omega) (by omega) (by omega) (by omega), ef]
    show gx_fr F' d P Q _ 0 (gm_fd (gm_f P Q) (gm_lg P Q) (x + 1)).2 (gm_fd (gm_f P Q) (gm_lg P Q) (x + 1)).1
    rw [gm_fd]
    by_cases h : (gm_fd (gm_f P Q) (gm_lg P Q) x).1 < gm_f P Q x
    · rw [if_pos (hq.mpr h), if_pos (hq.mpr h)] at hf
      rw [if_pos ⟨hlx, h⟩]
      exact hf
    · rw [if_neg (fun z => h (hq.mp z)), if_neg (fun z => h (hq.mp z))] at hf
      rw [if_neg (fun z => h z.2)]
      exact hf
  · intro d c s P Q u hd hs hM h1 hu hn hL
    refine hL c s (by omega) (gx_ag_r d _) ⟨hM.1, hM.2.1, gx_fr_u hM.2.2 ?_ rfl ?_ ?_⟩
    · intro j
      by_cases h : u ≤ j
      · by_cases h64 : j < 64
        · simp [hn j h h64]
        · simp [gm_lg_64 (p := P) (q := Q) (show 64 ≤ j by omega)]
      · simp [h]
    · unfold gm_F
      rw [if_pos h1, gs_fd_g 64 hu hn]
    · rw [gm_W_m h1, gs_fd_g 64 hu hn]
  · rintro d ⟨cs, cd, F⟩ s P Q hd hs ⟨e1, e2, hF⟩ h1 h2 hL
    dsimp only at e1 e2 hF
    subst e1 e2
    have hF2 : gx_fr F cd P Q (fun _ => false) 1 (-1) (-65) := gx_fr_u hF (gm_hm_f h1) (if_pos ⟨h1, h2⟩) rfl (if_neg (by rw [h2]; simp))
    refine hP cs cd F P Q _ _ _ hs (by omega) hF2 ?_
    intro F' ha hf ht hn
    exact hL (cs + 1, cd + 1, F') (cs + 1) (Nat.le_refl _) ha ⟨hf, ht⟩ ⟨rfl, rfl, hn⟩
  · rintro d ⟨cs, cd, F⟩ s P Q hd hs h1 h2 ⟨hw, ht⟩ ⟨e1, e2, hF⟩ hL
    dsimp only at e1 e2 hF hw ht
    subst e1 e2
    rw [← zi_n] at ht
    refine hR cs d F P Q _ _ _ _ _ _ _ _ _ hs hd hF hw ht ?_
    intro F' ha hf
    refine hL (cs + 1, d, F') (cs + 1) (Nat.le_refl _) ha ⟨rfl, rfl, ?_⟩
    have b2 := gm_W_b Q P
    have hq : zi_z (-65) < -zi_z (gm_W Q P) := by
      rw [zi_neg, zi_lt (by omega) (by omega) (by omega) (by omega)]; omega
    rw [if_pos hq, if_pos hq] at hf
    rw [gm_F_p h1 h2, gm_W_p h1 h2]
    exact hf
end
section
/-! the reference's stack of slots, over any loop predicate L -/
abbrev gy_A : Type := (Nat → Int32) × (Nat → Int32) × (Nat → Int32) × (Nat → Int32) × (Nat → Int32)
abbrev gy_C : Type := Nat × Nat × Int32 × Int32 × gy_A
def gy_T (a : Nat → Int32) (o : Nat) : Prop := ∀ j, j < 64 → a (o + j) = 0 ∨ a (o + j) = 1 ∨ a (o + j) = 2
def gy_bd (A : gy_A) (d : Nat) (P Q : Nat → Bool) : Prop := yb_s (A.2.1 d) ∧ P = yb_o A.1 (64 * d) (A.2.1 d) ∧ Q = yb_o A.1 (64 * d) (3 - A.2.1 d) ∧ gy_T A.1 (64 * d)
def gy_ag (d : Nat) (A B : gy_A) : Prop := (∀ x, x < 64 * (d + 1) → B.1 x = A.1 x) ∧ (∀ i, i < d + 1 → B.2.1 i = A.2.1 i) ∧ ∀ i, i < d → B.2.2.1 i = A.2.2.1 i ∧ B.2.2.2.1 i = A.2.2.2.1 i ∧ B.2.2.2.2 i = A.2.2.2.2 i
def gy_y (b : Int) : Int := if b = -65 then -1000 else b
def gy_Fre (b0 : Nat) (c : gy_C) (s d : Nat) (P Q : Nat → Bool) : Prop := c.1 = s ∧ c.2.1 = d ∧ b0 ≤ d ∧ c.2.2.1 = 0 ∧ gy_bd c.2.2.2.2 d P Q ∧ c.2.2.2.2.2.2.1 d = 0
def gy_Mid (b0 : Nat) (c : gy_C) (s d : Nat) (P Q : Nat → Bool) (u : Nat) : Prop := c.1 = s ∧ c.2.1 = d ∧ b0 ≤ d ∧ c.2.2.1 = 0 ∧ gy_bd c.2.2.2.2 d P Q ∧ c.2.2.2.2.2.2.1 d = 1 ∧ c.2.2.2.2.2.2.2.1 d = nI u ∧ c.2.2.2.2.2.2.2.2 d = zi_z (gy_y (gm_fd (gm_f P Q) (gm_lg P Q) u).1)
def gy_Don (c : gy_C) (s d : Nat) (P Q : Nat → Bool) : Prop := c.1 = s ∧ c.2.1 = d ∧ c.2.2.1 = 1 ∧ c.2.2.2.1 = zi_z (gm_W P Q)
def gy_Wai (b0 : Nat) (c : gy_C) (d : Nat) (P Q : Nat → Bool) (x : Nat) : Prop := b0 ≤ d ∧ gy_bd c.2.2.2.2 d P Q ∧ c.2.2.2.2.2.2.1 d = 1 ∧ c.2.2.2.2.2.2.2.1 d = nI (x + 1) ∧ c.2.2.2.2.2.2.2.2 d = zi_z (gy_y (gm_fd (gm_f P Q) (gm_lg P Q) x).1)
def gy_WaP (b0 : Nat) (c : gy_C) (d : Nat) (_ _ : Nat → Bool) : Prop := b0 ≤ d ∧ c.2.2.2.2.2.2.1 d = 2
def gy_Ag (d : Nat) (c c' : gy_C) : Prop := gy_ag d c.2.2.2.2 c'.2.2.2.2
def gy_LO (L : gy_C → Prop) : Prop := ∀ (s d : Nat) (r : Int32) (A : gy_A) (P Q : Nat → Bool), s < 2000000 → d ≤ 14 → gy_bd A d P Q → A.2.2.1 d = 0 → gm_hm P Q = false → gm_hm Q P = false → L (s + 1, d, 1, zi_z (gm_df P Q), A) → L (s, d, 0, r, A)
def gy_LS (L : gy_C → Prop) : Prop := ∀ (s d : Nat) (r : Int32) (A : gy_A) (P Q : Nat → Bool), s < 2000000 → d ≤ 14 → gy_bd A d P Q → A.2.2.1 d = 0 → gm_hm P Q = true → (∀ A' r', gy_ag d A A' → A'.2.2.1 d = 1 → A'.2.2.2.1 d = nI 0 → A'.2.2.2.2 d = zi_z (-1000) → L (s + 1, d, 0, r', A')) → L (s, d, 0, r, A)
def gy_LM (L : gy_C → Prop) : Prop := ∀ (s d u x : Nat) (r : Int32) (A : gy_A) (P Q : Nat → Bool), s < 2000000 → d + 1 ≤ 14 → gy_bd A d P Q → A.2.2.1 d = 1 → A.2.2.2.1 d = nI u → u ≤ x → x < 64 → gm_lg P Q x = true → (∀ j, u ≤ j → j < x → gm_lg P Q j = false) → (∀ A' r', gy_ag d A A' → A'.2.2.1 d = 1 → A'.2.2.2.1 d = nI (x + 1) → A'.2.2.2.2 d = A.2.2.2.2 d → gy_bd A' (d + 1) (gm_np P Q x) (gm_nq P Q x) → A'.2.2.1 (d + 1) = 0 → L (s + 1, d + 1, 0, r', A')) → L (s, d, 0, r, A)
def gy_LE (L : gy_C → Prop) : Prop := ∀ (s d u : Nat) (r : Int32) (A : gy_A) (P Q : Nat → Bool), s < 2000000 → d ≤ 14 → gy_bd A d P Q → A.2.2.1 d = 1 → A.2.2.2.1 d = nI u → u ≤ 64 → (∀ j, u ≤ j → j < 64 → gm_lg P Q j = false) → L (s + 1, d, 1, A.2.2.2.2 d, A) → L (s, d, 0, r, A)
def gy_LP (L : gy_C → Prop) : Prop := ∀ (s d : Nat) (r : Int32) (A : gy_A) (P Q : Nat → Bool), s < 2000000 → d + 1 ≤ 14 → gy_bd A d P Q → A.2.2.1 d = 0 → gm_hm P Q = false → gm_hm Q P = true → (∀ A' r', gy_ag d A A' → A'.2.2.1 d = 2 → gy_bd A' (d + 1) Q P → A'.2.2.1 (d + 1) = 0 → L (s + 1, d + 1, 0, r', A')) → L (s, d, 0, r, A)
def gy_LR (b0 : Nat) (L : gy_C → Prop) : Prop := ∀ (s d : Nat) (r : Int32) (A : gy_A), s < 2000000 → d + 1 ≤ 14 → b0 ≤ d → A.2.2.1 d = 1 → (∀ A', gy_ag d A A' → A'.2.2.1 d = 1 → A'.2.2.2.1 d = A.2.2.2.1 d → A'.2.2.2.2 d = (if A.2.2.2.2 d < -r then -r else A.2.2.2.2 d) → ∀ r', L (s + 1, d, 0, r', A')) → L (s, d + 1, 1, r, A)
def gy_LQ (b0 : Nat) (L : gy_C → Prop) : Prop := ∀ (s d : Nat) (r : Int32) (A : gy_A), s < 2000000 → d + 1 ≤ 14 → b0 ≤ d → A.2.2.1 d = 2 → L (s + 1, d, 1, -r, A) → L (s, d + 1, 1, r, A)
theorem gy_bd_a {A B : gy_A} {d : Nat} {P Q : Nat → Bool} (h : gy_ag d A B) (hb : gy_bd A d P Q) : gy_bd B d P Q := by
  obtain ⟨h1, h2, _⟩ := h
  obtain ⟨b1, b2, b3, b4⟩ := hb
  have e := h2 d (by omega)
  have ec : ∀ j, j < 64 → B.1 (64 * d + j) = A.1 (64 * d + j) := fun j hj => h1 _ (by omega)
  refine ⟨by rw [e]; exact b1, ?_, ?_, ?_⟩
  · rw [e, b2, yb_oe ec]
  · rw [e, b3, yb_oe ec]
  · intro j hj
    rw [ec j hj]
    exact b4 j hj
theorem gy_ag_r (d : Nat) (A : gy_A) : gy_ag d A A := ⟨fun _ _ => rfl, fun _ _ => rfl, fun _ _ => ⟨rfl, rfl, rfl⟩⟩
theorem gy_ag_t {d : Nat} {A B E : gy_A} (h : gy_ag d A B) (h' : gy_ag d B E) : gy_ag d A E := by
  obtain ⟨a1, a2, a3⟩ := h
  obtain ⟨b1, b2, b3⟩ := h'
  refine ⟨fun x hx => (b1 x hx).trans (a1 x hx), fun i hi => (b2 i hi).trans (a2 i hi), fun i hi => ?_⟩
  obtain ⟨c1, c2, c3⟩ := a3 i hi
  obtain ⟨e1, e2, e3⟩ := b3 i hi
  exact ⟨e1.trans c1, e2.trans c2, e3.trans c3⟩
theorem gy_ag_m {d : Nat} {A B : gy_A} (h : gy_ag (d + 1) A B) : gy_ag d A B := ⟨fun x hx => h.1 x (by omega), fun i hi => h.2.1 i (by omega), fun i hi => h.2.2 i (by omega)⟩
theorem gy_yb {b : Int} (h : -65 ≤ b ∧ b ≤ 64) : -1000 ≤ gy_y b ∧ gy_y b ≤ 64 := by
  unfold gy_y
  by_cases e : b = -65
  · rw [if_pos e]; omega
  · rw [if_neg e]; omega
theorem gy_yl {b x : Int} (h : -65 ≤ b ∧ b ≤ 64) (hx : -64 ≤ x ∧ x ≤ 64) : gy_y b < x ↔ b < x := by
  unfold gy_y
  by_cases e : b = -65
  · rw [if_pos e]; omega
  · rw [if_neg e]
theorem gy_ye {b : Int} (h : b ≠ -65) : gy_y b = b := if_neg h
theorem gy_R {b0 : Nat} {L : gy_C → Prop} (hO : gy_LO L) (hS : gy_LS L) (hM : gy_LM L) (hE : gy_LE L) (hP : gy_LP L) (hR : gy_LR b0 L) (hQ : gy_LQ b0 L) : gs_R 2000000 14 L (gy_Fre b0) gy_Don (gy_Mid b0) (gy_Wai b0) (gy_WaP b0) gy_Ag := by
  refine ⟨fun d a b c h h' => gy_ag_t h h', fun d a b h => gy_ag_m h, ?_, ?_, ?_, ?_, ?_, ?_, ?_, ?_, ?_⟩
  · rintro d a b P Q x h ⟨w0, w1, w2, w3, w4⟩
    obtain ⟨g1, g2, g3⟩ := h.2.2 d (by omega)
    exact ⟨w0, gy_bd_a (gy_ag_m h) w1, g1.trans w2, g2.trans w3, g3.trans w4⟩
  · rintro d a b P Q h ⟨w0, w1⟩
    exact ⟨w0, (h.2.2 d (by omega)).1.trans w1⟩
  · rintro d ⟨cs, cd, h, r, A⟩ s P Q hd hs ⟨e1, e2, e3, e4, e5, e6⟩ h1 h2 hL
    dsimp only at e1 e2 e4 e5 e6
    subst e1 e2 e4
    refine hO cs cd r A P Q hs hd e5 e6 h1 h2 ?_
    exact hL _ (cs + 1) (Nat.le_refl _) (gy_ag_r _ _) ⟨rfl, rfl, rfl, by rw [gm_W_o h1 h2]⟩
  · rintro d ⟨cs, cd, h, r, A⟩ s P Q hd hs ⟨e1, e2, e3, e4, e5, e6⟩ h1 hL
    dsimp only at e1 e2 e4 e5 e6
    subst e1 e2 e4
    refine hS cs cd r A P Q hs hd e5 e6 h1 ?_
    intro A' r' ha a1 a2 a3
    exact hL _ (cs + 1) (Nat.le_refl _) ha ⟨rfl, rfl, e3, rfl, gy_bd_a ha e5, a1, a2, a3⟩
  · rintro d ⟨cs, cd, h, r, A⟩ s P Q u x hd hs ⟨e1, e2, e3, e4, e5, e6, e7, e8⟩ hu hx hlx hg hL
    dsimp only at e1 e2 e4 e5 e6 e7 e8
    subst e1 e2 e4
    refine hM cs cd u x r A P Q hs hd e5 e6 e7 hu hx hlx hg ?_
    intro A' r' ha a1 a2 a3 a4 a5
    refine hL (cs + 1, cd + 1, 0, r', A') (cs + 1) (Nat.le_refl _) ha ⟨e3, gy_bd_a ha e5, a1, a2, ?_⟩ ⟨rfl, rfl, by omega, rfl, a4, a5⟩
    show A'.2.2.2.2 cd = _
    rw [a3, e8, gs_fd_g x hu hg]
  · rintro d ⟨cs, cd, h, r, A⟩ s P Q x hd hs hx hlx ⟨w0, w1, w2, w3, w4⟩ ⟨e1, e2, e3, e4⟩ hL
    dsimp only at e1 e2 e3 e4 w1 w2 w3 w4
    subst e1 e2 e3 e4
    refine hR cs d _ A hs hd w0 w2 ?_
    intro A' ha a1 a2 a3 r'
    refine hL (cs + 1, d, 0, r', A') (cs + 1) (Nat.le_refl _) ha ⟨rfl, rfl, w0, rfl, gy_bd_a ha w1, a1, a2.trans w3, ?_⟩
    have b1 := gm_fd_b (p := P) (q := Q) x
    have b2 := gm_W_b (gm_np P Q x) (gm_nq P Q x)
    have b3 := gy_yb b1
    have b4 := gm_f_b P Q x
    have ef : -gm_W (gm_np P Q x) (gm_nq P Q x) = gm_f P Q x := rfl
    rw [w4] at a3
    have hq : zi_z (gy_y (gm_fd (gm_f P Q) (gm_lg P Q) x).1) < -zi_z (gm_W (gm_np P Q x) (gm_nq P Q x)) ↔ (gm_fd (gm_f P Q) (gm_lg P Q) x).1 < gm_f P Q x := by
      rw [zi_neg, zi_lt (by omega) (by omega) (by omega) (by omega), ef, gy_yl b1 b4]
    show A'.2.2.2.2 d = zi_z (gy_y (gm_fd (gm_f P Q) (gm_lg P Q) (x + 1)).1)
    rw [a3, gm_fd]
    by_cases h : (gm_fd (gm_f P Q) (gm_lg P Q) x).1 < gm_f P Q x
    · rw [if_pos (hq.mpr h), if_pos ⟨hlx, h⟩, gy_ye (by show gm_f P Q x ≠ -65; omega), zi_neg]
      rfl
    · rw [if_neg (fun z => h (hq.mp z)), if_neg (fun z => h z.2)]
  · rintro d ⟨cs, cd, h, r, A⟩ s P Q u hd hs ⟨e1, e2, e3, e4, e5, e6, e7, e8⟩ h1 hu hn hL
    dsimp only at e1 e2 e4 e5 e6 e7 e8
    subst e1 e2 e4
    refine hE cs cd u r A P Q hs hd e5 e6 e7 hu hn ?_
    refine hL _ (cs + 1) (Nat.le_refl _) (gy_ag_r _ _) ⟨rfl, rfl, rfl, ?_⟩
    show A.2.2.2.2 cd = zi_z (gm_W P Q)
    have b2 := gm_W_b P Q
    rw [e8, ← gs_fd_g 64 hu hn, ← gm_W_m h1, gy_ye (by omega)]
  · rintro d ⟨cs, cd, h, r, A⟩ s P Q hd hs ⟨e1, e2, e3, e4, e5, e6⟩ h1 h2 hL
    dsimp only at e1 e2 e4 e5 e6
    subst e1 e2 e4
    refine hP cs cd r A P Q hs hd e5 e6 h1 h2 ?_
    intro A' r' ha a1 a2 a3
    exact hL (cs + 1, cd + 1, 0, r', A') (cs + 1) (Nat.le_refl _) ha ⟨e3, a1⟩ ⟨rfl, rfl, by omega, rfl, a2, a3⟩
  · rintro d ⟨cs, cd, h, r, A⟩ s P Q hd hs h1 h2 ⟨w0, w1⟩ ⟨e1, e2, e3, e4⟩ hL
    dsimp only at e1 e2 e3 e4 w1
    subst e1 e2 e3 e4
    refine hQ cs d _ A hs hd w0 w1 ?_
    refine hL _ (cs + 1) (Nat.le_refl _) (gy_ag_r _ _) ⟨rfl, rfl, rfl, ?_⟩
    show -zi_z (gm_W Q P) = zi_z (gm_W P Q)
    rw [zi_neg, gm_W_p h1 h2]
end
section
/-! the component's small methods, each with a general post -/
theorem wx_has {post : Int32 → Prop} (w : Int64) {k : Nat} (hk : k < 64) (h0 : xb_t w k = false → post 0) (h1 : xb_t w k = true → post 1) : wpX_hasSquare post w (nI k) := by
  unfold wpX_hasSquare
  exact br_c (fun z => h0 ((xb_has w hk).mp z)) (fun z => h1 (ts_nf (fun y => z ((xb_has w hk).mpr y))))
theorem wx_size_l {post : Int32 → Prop} (w : Int64) (h : post (nI (gm_cnt (xb_t w) 64))) : ∀ n i : Nat, i ≤ 64 → 64 < n + i → wX_sizeOf_4 post w n (nI (gm_cnt (xb_t w) i)) (nI i) := by
  intro n
  induction n with
  | zero => intro i hi hn; omega
  | succ n ih =>
    intro i hi hn
    refine pk_le 64 i (fun z => ?_) (fun z => ?_)
    · have e : i = 64 := by omega
      subst e
      exact h
    · have hh := ih (i + 1) (by omega) (by omega)
      refine wx_has w z (fun hb => br_t rfl (nm_r (nI_1 i) ?_)) (fun hb => br_f (by decide) (nm_r (nI_1 _) (nm_r (nI_1 i) ?_)))
      · rw [gm_cnt, if_neg (by rw [hb]; decide)] at hh
        exact hh
      · rw [gm_cnt, if_pos hb] at hh
        exact hh
theorem wx_size {post : Int32 → Prop} (w : Int64) (h : post (nI (gm_cnt (xb_t w) 64))) : wpX_sizeOf post w := ⟨65, wx_size_l w h 65 0 (by omega) (by omega)⟩
theorem wx_low_l {post : Int32 → Prop} (w : Int64) (h1 : ∀ x, x < 64 → xb_t w x = true → (∀ j, j < x → xb_t w j = false) → post (nI x)) (h2 : (∀ j, xb_t w j = false) → post (-1)) : ∀ n i : Nat, i ≤ 64 → 64 < n + i → (∀ j, j < i → xb_t w j = false) → wX_lowestOf_2 post w n (nI i) := by
  intro n
  induction n with
  | zero => intro i hi hn _; omega
  | succ n ih =>
    intro i hi hn hj
    refine pk_le 64 i (fun z => h2 (fun j => ?_)) (fun z => ?_)
    · rcases Nat.lt_or_ge j 64 with y | y
      · exact hj j (by omega)
      · exact xb_big w y
    · refine wx_has w z (fun hb => br_t rfl (nm_r (nI_1 i) ?_)) (fun hb => br_f (by decide) (h1 i z hb hj))
      refine ih (i + 1) (by omega) (by omega) (fun j y => ?_)
      by_cases e : j = i
      · rw [e]; exact hb
      · exact hj j (by omega)
theorem wx_low {post : Int32 → Prop} (w : Int64) (h1 : ∀ x, x < 64 → xb_t w x = true → (∀ j, j < x → xb_t w j = false) → post (nI x)) (h2 : (∀ j, xb_t w j = false) → post (-1)) : wpX_lowestOf post w := ⟨65, wx_low_l w h1 h2 65 0 (by omega) (by omega) (fun j hj => by omega)⟩
def gm_rs (o : Option Nat) (R : Nat → Bool) (dr dc r c : Int) (j : Nat) : Bool := match o with
  | none => false
  | some k => R j || gm_cov dr dc k r c j
theorem wx_run_l {post : Int64 → Prop} {own opp : Int64} {s t : Nat} (hs : s < 64) (ht : t < 9) : ∀ (m n i : Nat) (R : Int64) (r c : Int), i + m = 7 → m < n → r = gm_r0 s t + (i : Int) * gm_dr t → c = gm_c0 s t + (i : Int) * gm_dc t → (∀ w, (∀ j, xb_t w j = gm_rs (gm_len (xb_t own) (xb_t opp) (gm_dr t) (gm_dc t) m r c) (xb_t R) (gm_dr t) (gm_dc t) r c j) → post w) → wX_runOf_6 post own opp (nI s) (zi_z (gm_dr t)) (zi_z (gm_dc t)) n R (nI (i + 1)) := by
  intro m
  induction m with
  | zero =>
    intro n i R r c hi hn hr hc h
    cases n with
    | zero => omega
    | succ n => exact pk_le 8 (i + 1) (fun _ => h 0 (fun j => xb_0 j)) (fun z => by omega)
  | succ m ih =>
    intro n i R r c hi hn hr hc h
    cases n with
    | zero => omega
    | succ n =>
      have b1 := zn_rb (s := s) (i := i) ht hs (by omega)
      have b2 := zn_cb (s := s) (i := i) (t := t) (by omega)
      rw [← hr] at b1
      rw [← hc] at b2
      have er : nI s / 8 + nI (i + 1) * zi_z (gm_dr t) = zi_z r := (zn_row hs).trans (by rw [hr])
      have ec : (nI s - nI s / 8 * 8) + nI (i + 1) * zi_z (gm_dc t) = zi_z c := (zn_col hs).trans (by rw [hc])
      refine pk_le 8 (i + 1) (fun z => by omega) (fun _ => ⟨by decide, nm_r er ⟨by decide, nm_r ec ?_⟩⟩)
      rw [gm_len] at h
      by_cases ho : gm_on r c
      · rw [if_pos ho] at h
        have hk := gm_ixlt ho
        refine br_f (fun z => by rw [zn_lt0 (by omega) (by omega)] at z; omega) (br_f (fun z => by rw [zn_8z, zi_le (by omega) (by omega) (by omega) (by omega)] at z; omega) (br_f (fun z => by rw [zn_lt0 (by omega) (by omega)] at z; omega) (br_t ((zn_lt8 (by omega) (by omega)).mpr ho.2.2) (nm_r (by rw [zn_ix ho]) ?_))))
        have hB := xb_1 hk
        generalize (1 : Int64) <<< ((nI (gm_ix r c)).toInt64 &&& 63) = B at hB ⊢
        by_cases hp : xb_t own (gm_ix r c) = true
        · rw [if_pos hp] at h
          refine br_f (fun z => by rw [(xb_at hB).mp z] at hp; cases hp) (h R (fun j => ?_))
          show xb_t R j = (xb_t R j || false)
          rw [Bool.or_false]
        · rw [if_neg hp] at h
          refine br_t ((xb_at hB).mpr (ts_nt hp)) ?_
          by_cases hq : xb_t opp (gm_ix r c) = true
          · rw [if_pos hq] at h
            refine br_f (fun z => by rw [(xb_at hB).mp z] at hq; cases hq) (nm_e (nm_r (nI_1 (i + 1)) ?_))
            refine ih n (i + 1) (R ||| B) (r + gm_dr t) (c + gm_dc t) (by omega) (by omega) (by rw [gm_st, hr]; omega) (by rw [gm_st, hc]; omega) (fun w hw => h w (fun j => ?_))
            rw [hw j]
            cases gm_len (xb_t own) (xb_t opp) (gm_dr t) (gm_dc t) m (r + gm_dr t) (c + gm_dc t) with
            | none => rfl
            | some k =>
              show (xb_t (R ||| B) j || gm_cov (gm_dr t) (gm_dc t) k (r + gm_dr t) (c + gm_dc t) j) = (xb_t R j || gm_cov (gm_dr t) (gm_dc t) (k + 1) r c j)
              rw [xb_or, hB, gm_cov, Bool.or_assoc]
          · rw [if_neg hq] at h
            exact br_t ((xb_at hB).mpr (ts_nt hq)) (h 0 (fun j => xb_0 j))
      · rw [if_neg ho] at h
        have h0 := h 0 (fun j => xb_0 j)
        refine br_c (fun _ => h0) (fun z1 => br_c (fun _ => h0) (fun z2 => br_c (fun _ => h0) (fun z3 => br_f (fun z4 => ho ?_) h0)))
        rw [zn_lt0 (by omega) (by omega)] at z1 z3
        rw [zn_8z, zi_le (by omega) (by omega) (by omega) (by omega)] at z2
        rw [zn_lt8 (by omega) (by omega)] at z4
        omega
theorem wx_run {post : Int64 → Prop} {own opp : Int64} {s t : Nat} (hs : s < 64) (ht : t < 9) (h4 : t ≠ 4) (h : ∀ w, (∀ j, xb_t w j = gm_ray (xb_t own) (xb_t opp) s t j) → post w) : wpX_runOf post own opp (nI s) (zi_z (gm_dr t)) (zi_z (gm_dc t)) := by
  refine ⟨8, wx_run_l hs ht 7 8 0 0 (gm_r0 s t) (gm_c0 s t) (by omega) (by omega) (gm_s0 _ _).symm (gm_s0 _ _).symm (fun w hw => h w (fun j => ?_))⟩
  rw [hw j]
  unfold gm_ray gm_k
  rw [if_neg h4]
  cases gm_len (xb_t own) (xb_t opp) (gm_dr t) (gm_dc t) 7 (gm_r0 s t) (gm_c0 s t) with
  | none => rfl
  | some k =>
    show (xb_t 0 j || gm_cov (gm_dr t) (gm_dc t) k (gm_r0 s t) (gm_c0 s t) j) = gm_cov (gm_dr t) (gm_dc t) k (gm_r0 s t) (gm_c0 s t) j
    rw [xb_0, Bool.false_or]
theorem zn_1 (x : Int) : zi_z x + 1 = zi_z (x + 1) := by
  have e : (1 : Int32) = zi_z 1 := by decide
  rw [e, zi_add]
theorem zn_gt1 {x : Int} (h : -1000 ≤ x) (h' : x ≤ 1000) : (1 : Int32) < zi_z x ↔ 1 < x := by
  have e : (1 : Int32) = zi_z 1 := by decide
  rw [e, zi_lt (by decide) (by decide) (by omega) (by omega)]
theorem zn_eq0 {x : Int} (h : -1000 ≤ x) (h' : x ≤ 1000) : zi_z x = 0 ↔ x = 0 := by
  rw [zi_0, zi_eq (by omega) (by omega) (by decide) (by decide)]
theorem gm_acc_4 (p q : Nat → Bool) (s j : Nat) : gm_acc p q s 5 j = gm_acc p q s 4 j := by
  rw [gm_acc]
  have e : gm_ray p q s 4 j = false := rfl
  rw [e, Bool.or_false]
theorem wx_fl_i {post : Int64 → Prop} {J : Int64 → Int32 → Prop} {own opp : Int64} {s i : Nat} (hs : s < 64) (hi : i < 3) (hJ : ∀ w, (∀ k, xb_t w k = gm_acc (xb_t own) (xb_t opp) s (3 * i + 3) k) → J w (zi_z (i : Int))) : ∀ (m n j : Nat) (R : Int64), j + m = 3 → m < n → (∀ k, xb_t R k = gm_acc (xb_t own) (xb_t opp) s (3 * i + j) k) → wX_flipsOf_28 post J own opp (nI s) (zi_z ((i : Int) - 1)) n R (zi_z ((j : Int) - 1)) := by
  intro m
  induction m with
  | zero =>
    intro n j R hj hn hR
    cases n with
    | zero => omega
    | succ n =>
      have e : j = 3 := by omega
      subst e
      refine br_t ((zn_gt1 (by omega) (by omega)).mpr (by omega)) (nm_r ((zn_1 _).trans (by rw [show (i : Int) - 1 + 1 = (i : Int) by omega])) (hJ R hR))
  | succ m ih =>
    intro n j R hj hn hR
    cases n with
    | zero => omega
    | succ n =>
      obtain ⟨d1, d2⟩ := zn_dr i hi j (by omega)
      have ej : (j : Int) - 1 + 1 = ((j + 1 : Nat) : Int) - 1 := by omega
      refine br_f (fun z => by rw [zn_gt1 (by omega) (by omega)] at z; omega) ?_
      have step : 3 * i + j ≠ 4 → wX_flipsOf_44 post J (wX_flipsOf_28 post J own opp (nI s) (zi_z ((i : Int) - 1)) n) own opp (nI s) R (zi_z ((i : Int) - 1)) (zi_z ((j : Int) - 1)) := by
        intro h4
        unfold wX_flipsOf_44
        rw [← d1, ← d2]
        refine wx_run hs (by omega) h4 (fun w hw => nm_e (nm_r ((zn_1 _).trans (by rw [d2, ej])) ?_))
        rw [d1]
        exact ih n (j + 1) (R ||| w) (by omega) (by omega) (fun k => by rw [xb_or, hR k, hw k]; rfl)
      refine br_c (fun z1 => br_c (fun z2 => ?_) (fun z2 => step (fun h4 => z2 ?_))) (fun z1 => step (fun h4 => z1 ?_))
      · rw [zn_eq0 (by omega) (by omega)] at z1 z2
        have e1 : i = 1 := by omega
        have e2 : j = 1 := by omega
        subst e1 e2
        exact nm_r ((zn_1 _).trans (by rw [ej])) (ih n 2 R (by omega) (by omega) (fun k => by rw [hR k]; exact (gm_acc_4 _ _ _ _).symm))
      · rw [zn_eq0 (by omega) (by omega)]; omega
      · rw [zn_eq0 (by omega) (by omega)]; omega
theorem wx_fl_o {post : Int64 → Prop} {own opp : Int64} {s : Nat} (hs : s < 64) (h : ∀ w, (∀ k, xb_t w k = gm_acc (xb_t own) (xb_t opp) s 9 k) → post w) : ∀ (m n i : Nat) (R : Int64), i + m = 3 → m < n → (∀ k, xb_t R k = gm_acc (xb_t own) (xb_t opp) s (3 * i) k) → wX_flipsOf_19 post own opp (nI s) n R (zi_z ((i : Int) - 1)) := by
  intro m
  induction m with
  | zero =>
    intro n i R hi hn hR
    cases n with
    | zero => omega
    | succ n =>
      have e : i = 3 := by omega
      subst e
      exact br_t ((zn_gt1 (by omega) (by omega)).mpr (by omega)) (h R hR)
  | succ m ih =>
    intro n i R hi hn hR
    cases n with
    | zero => omega
    | succ n =>
      refine br_f (fun z => by rw [zn_gt1 (by omega) (by omega)] at z; omega) ⟨4, ?_⟩
      have hh := wx_fl_i (post := post) (J := wX_flipsOf_19 post own opp (nI s) n) (own := own) (opp := opp) hs (show i < 3 by omega) (fun w hw => by
        have := ih n (i + 1) w (by omega) (by omega) (fun k => by rw [hw k]; rfl)
        rw [show ((i + 1 : Nat) : Int) - 1 = (i : Int) by omega] at this
        exact this) 3 4 0 R (by omega) (by omega) hR
      exact hh
theorem wx_flips {post : Int64 → Prop} {own opp : Int64} {s : Nat} (hs : s < 64) (h : ∀ w, (∀ j, xb_t w j = gm_fl (xb_t own) (xb_t opp) s j) → post w) : wpX_flipsOf post own opp (nI s) := by
  unfold wpX_flipsOf
  refine wx_has _ hs (fun hb => br_t rfl ⟨4, ?_⟩) (fun hb => br_f (by decide) (h 0 (fun j => ?_)))
  · rw [xb_or, Bool.or_eq_false_iff] at hb
    exact wx_fl_o hs (fun w hw => h w (fun j => by rw [hw j]; unfold gm_fl; rw [hb.1, hb.2]; rfl)) 3 4 0 0 (by omega) (by omega) (fun k => xb_0 k)
  · rw [xb_or, Bool.or_eq_true] at hb
    rw [xb_0]
    unfold gm_fl
    rcases hb with hb | hb <;> simp [hb]
theorem wx_mv_l {post : Int64 → Prop} {own opp : Int64} (h : ∀ w, (∀ j, xb_t w j = gm_lg (xb_t own) (xb_t opp) j) → post w) : ∀ (n i : Nat) (M : Int64), i ≤ 64 → 64 < n + i → (∀ j, xb_t M j = (decide (j < i) && gm_lg (xb_t own) (xb_t opp) j)) → wX_movesOf_6 post own opp n M (nI i) := by
  intro n
  induction n with
  | zero => intro i M hi hn _; omega
  | succ n ih =>
    intro i M hi hn hM
    refine pk_le 64 i (fun z => h M (fun j => ?_)) (fun z => ?_)
    · rw [hM j]
      by_cases hj : j < i
      · rw [decide_eq_true hj, Bool.true_and]
      · rw [gm_lg_64 (show 64 ≤ j by omega), Bool.and_false]
    · refine wx_flips z (fun w hw => br_c (fun z0 => nm_r (nI_1 i) ?_) (fun z0 => nm_e (nm_r (nI_1 i) ?_)))
      · have hl : gm_lg (xb_t own) (xb_t opp) i = false := gm_nt (fun hl => by
          obtain ⟨j, hj⟩ := (gm_fl_i z).mp hl
          rw [← hw j, z0, xb_0] at hj
          cases hj)
        refine ih (i + 1) M (by omega) (by omega) (fun j => ?_)
        rw [hM j]
        by_cases e : j = i
        · rw [e, hl, Bool.and_false, Bool.and_false]
        · rw [decide_eq_decide.mpr (show j < i ↔ j < i + 1 by omega)]
      · have hl : gm_lg (xb_t own) (xb_t opp) i = true := by
          obtain ⟨j, hj⟩ := xb_nz.mp z0
          exact (gm_fl_i z).mpr ⟨j, by rw [← hw j]; exact hj⟩
        refine ih (i + 1) _ (by omega) (by omega) (fun j => ?_)
        rw [xb_or, hM j, xb_1 z]
        by_cases e : j = i
        · simp [e, hl]
        · rw [decide_eq_decide.mpr (show j < i ↔ j < i + 1 by omega), decide_eq_false e, Bool.or_false]
theorem wx_moves {post : Int64 → Prop} {own opp : Int64} (h : ∀ w, (∀ j, xb_t w j = gm_lg (xb_t own) (xb_t opp) j) → post w) : wpX_movesOf post own opp := ⟨65, wx_mv_l h 65 0 0 (by omega) (by omega) (fun j => by rw [xb_0]; simp)⟩
theorem xb_hm {w : Int64} {p q : Nat → Bool} (h : ∀ j, xb_t w j = gm_lg p q j) : w = 0 ↔ gm_hm p q = false := by
  rw [xb_z]
  constructor
  · intro hz
    apply gm_nt
    intro hm
    obtain ⟨s, _, hl⟩ := gm_hm_i.mp hm
    rw [← h s, hz s] at hl
    cases hl
  · intro hm j
    rw [h j]
    exact gm_hm_f hm j
end
section
/-! the component's frames and its search -/
theorem wx_nb0 : vp_nar .boolean 0 = 0 := by rfl
theorem wx_nb1 : vp_nar .boolean 1 = 1 := by rfl
theorem wx_take_m {post : Int32 → SX → Prop} {b w : Int64} {sd he hv hl : Int32} {ln : Nat → Int32} {ow op un : Nat → Int64} {pa ty bm be : Nat → Int32} {d x : Nat} (hd : d < 14) (hp : pa d = 0) (hx : xb_t (un d) x = true) (hlo : ∀ j, j < x → xb_t (un d) j = false) (h : ∀ W : Int64, (∀ j, xb_t W j = (xb_t (un d) j && !decide (j = x))) → post (nI x) (b, w, sd, he, hv, hl, ln, ow, op, vp_updL un d W, pa, upd ty d (nI x), bm, be)) : wpX_takeMove post (b, w, sd, he, hv, hl, ln, ow, op, un, pa, ty, bm, be) (nI d) := by
  have hc : (nI d).toNatClampNeg = d := nI_clamp (by omega)
  have hi : vp_in (nI d) 14 := vp_in_nI hd (by decide)
  unfold wpX_takeMove
  dsimp only
  rw [hc]
  refine ⟨hi, br_t hp ⟨hi, nm_e ?_⟩⟩
  refine wx_low _ (fun y _ hy hyl => ?_) (fun hz => ?_)
  · have e : y = x := by
      rcases Nat.lt_trichotomy y x with z | z | z
      · rw [hlo y z] at hy; cases hy
      · exact z
      · rw [hyl x z] at hx; cases hx
    subst e
    exact ⟨hi, nm_e ⟨hi, nm_e (h _ (fun j => xb_low hx hlo j))⟩⟩
  · rw [hz x] at hx; cases hx
theorem wx_take_n {post : Int32 → SX → Prop} {b w : Int64} {sd he hv hl : Int32} {ln : Nat → Int32} {ow op un : Nat → Int64} {pa ty bm be : Nat → Int32} {d : Nat} (hd : d < 14) (hp : pa d = 0) (hz : ∀ j, xb_t (un d) j = false) (h : ∀ W : Int64, (∀ j, xb_t W j = false) → post (-1) (b, w, sd, he, hv, hl, ln, ow, op, vp_updL un d W, pa, upd ty d (-1), bm, be)) : wpX_takeMove post (b, w, sd, he, hv, hl, ln, ow, op, un, pa, ty, bm, be) (nI d) := by
  have hc : (nI d).toNatClampNeg = d := nI_clamp (by omega)
  have hi : vp_in (nI d) 14 := vp_in_nI hd (by decide)
  unfold wpX_takeMove
  dsimp only
  rw [hc]
  refine ⟨hi, br_t hp ⟨hi, nm_e ?_⟩⟩
  refine wx_low _ (fun y _ hy hyl => ?_) (fun _ => ?_)
  · rw [hz y] at hy; cases hy
  · exact ⟨hi, nm_e ⟨hi, nm_e (h _ (fun j => by rw [xb_and, hz j]; rfl))⟩⟩
theorem wx_take_p {post : Int32 → SX → Prop} {b w : Int64} {sd he hv hl : Int32} {ln : Nat → Int32} {ow op un : Nat → Int64} {pa ty bm be : Nat → Int32} {d : Nat} (hd : d < 14) (hp : pa d = 1) (h : post 64 (b, w, sd, he, hv, hl, ln, ow, op, un, upd pa d 0, upd ty d 64, bm, be)) : wpX_takeMove post (b, w, sd, he, hv, hl, ln, ow, op, un, pa, ty, bm, be) (nI d) := by
  have hc : (nI d).toNatClampNeg = d := nI_clamp (by omega)
  have hi : vp_in (nI d) 14 := vp_in_nI hd (by decide)
  unfold wpX_takeMove
  dsimp only
  rw [hc]
  exact ⟨hi, br_f (by rw [hp]; decide) ⟨hi, nm_e ⟨hi, nm_e h⟩⟩⟩
theorem wx_gain_m {post : Int64 → Prop} {own opp : Int64} {x : Nat} (hlg : gm_lg (xb_t own) (xb_t opp) x = true) (h : ∀ W : Int64, (∀ j, xb_t W j = gm_g (xb_t own) (xb_t opp) x j) → post W) : wpX_gainOf post own opp (nI x) := by
  obtain ⟨hx, ⟨h1, h2⟩, _⟩ := gm_lg_i.mp hlg
  unfold wpX_gainOf
  refine pk_eq x 64 (fun z => by omega) (fun _ => wx_flips hx (fun w hw => h _ (fun j => ?_)))
  rw [xb_or, hw j, xb_1 hx]
  unfold gm_fl gm_g
  rw [h1, h2]
  rfl
theorem wx_gain_p {post : Int64 → Prop} {own opp : Int64} (h : post 0) : wpX_gainOf post own opp 64 := br_t rfl h

theorem gx_op {F : gx_A} {d : Nat} {P Q : Nat → Bool} {w1 w2 wm : Int64} {v1 v2 : Int32} (h1 : xb_t w1 = P) (h2 : xb_t w2 = Q) (h3 : ∀ j, xb_t wm j = gm_lg P Q j) (h4 : v1 = if gm_hm P Q = false ∧ gm_hm Q P = true then 1 else 0) (h5 : v2 = zi_z (if gm_hm P Q = false ∧ gm_hm Q P = false then gm_df P Q else -65)) : gx_ag d F (vp_updL F.1 d w1, vp_updL F.2.1 d w2, vp_updL F.2.2.1 d wm, upd F.2.2.2.1 d v1, F.2.2.2.2.1, upd F.2.2.2.2.2.1 d (-1), upd F.2.2.2.2.2.2 d v2) ∧ gx_Fr0 (vp_updL F.1 d w1, vp_updL F.2.1 d w2, vp_updL F.2.2.1 d wm, upd F.2.2.2.1 d v1, F.2.2.2.2.1, upd F.2.2.2.2.2.1 d (-1), upd F.2.2.2.2.2.2 d v2) d P Q := by
  constructor
  · intro i hi
    have hn : i ≠ d := by omega
    exact ⟨(pk_uLn hn).symm, (pk_uLn hn).symm, (pk_uLn hn).symm, (pk_un hn).symm, rfl, (pk_un hn).symm, (pk_un hn).symm⟩
  · refine ⟨?_, ?_, ?_, ?_, ?_, ?_⟩
    · show xb_t (vp_updL F.1 d w1 d) = P
      rw [pk_uLs]; exact h1
    · show xb_t (vp_updL F.2.1 d w2 d) = Q
      rw [pk_uLs]; exact h2
    · show xb_t (vp_updL F.2.2.1 d wm d) = gm_lg P Q
      rw [pk_uLs]; exact funext h3
    · show upd F.2.2.2.1 d v1 d = _
      rw [pk_us]; exact h4
    · show upd F.2.2.2.2.2.1 d (-1) d = _
      rw [pk_us]; exact zi_m1
    · show upd F.2.2.2.2.2.2 d v2 d = _
      rw [pk_us]; exact h5
theorem wx_df (own opp : Int64) : nI (gm_cnt (xb_t own) 64) - nI (gm_cnt (xb_t opp) 64) = zi_z (gm_df (xb_t own) (xb_t opp)) := by
  rw [← zi_n, ← zi_n, zi_sub]
  rfl
theorem wx_open {post : SX → Prop} {b w : Int64} {sd he hv hl : Int32} {ln : Nat → Int32} {ow op un : Nat → Int64} {pa ty bm be : Nat → Int32} {d : Nat} {own opp : Int64} (hd : d < 14) (h : ∀ F' : gx_A, gx_ag d (ow, op, un, pa, ty, bm, be) F' → F'.2.2.2.2.1 = ty → gx_Fr0 F' d (xb_t own) (xb_t opp) → post (b, w, sd, he, hv, hl, ln, F'.1, F'.2.1, F'.2.2.1, F'.2.2.2.1, F'.2.2.2.2.1, F'.2.2.2.2.2.1, F'.2.2.2.2.2.2)) : wpX_openFrame post (b, w, sd, he, hv, hl, ln, ow, op, un, pa, ty, bm, be) (nI d) own opp := by
  have hc : (nI d).toNatClampNeg = d := nI_clamp (by omega)
  have hi : vp_in (nI d) 14 := vp_in_nI hd (by decide)
  unfold wpX_openFrame
  dsimp only
  refine wx_moves (fun wm hm => br_c (fun z => ?_) (fun z => ?_))
  · have z1 : gm_hm (xb_t own) (xb_t opp) = false := (xb_hm hm).mp z
    unfold wX_openFrame_20
    refine br_f (by decide) (wx_moves (fun wo ho => br_c (fun y => ?_) (fun y => ?_)))
    · have y1 : gm_hm (xb_t opp) (xb_t own) = false := (xb_hm ho).mp y
      unfold wX_openFrame_43 wX_openFrame_87 wX_openFrame_88
      rw [hc]
      refine ⟨hi, nm_e ⟨hi, nm_e ⟨hi, nm_e (br_f (by decide) (br_f (by decide) ⟨hi, nm_e ⟨hi, nm_e (br_f (by decide) (wx_size _ (wx_size _ ⟨hi, nm_e ?_⟩)))⟩⟩))⟩⟩⟩
      obtain ⟨g1, g2⟩ := gx_op (F := (ow, op, un, pa, ty, bm, be)) (d := d) (P := xb_t own) (Q := xb_t opp) (w1 := own) (w2 := opp) (wm := wm) (v1 := vp_nar .boolean 0) (v2 := nI (gm_cnt (xb_t own) 64) - nI (gm_cnt (xb_t opp) 64)) rfl rfl hm (by rw [if_neg (by rw [y1]; simp)]; rfl) (by rw [if_pos ⟨z1, y1⟩]; exact wx_df own opp)
      exact h _ g1 rfl g2
    · have y1 : gm_hm (xb_t opp) (xb_t own) = true := gm_nf (fun q => y ((xb_hm ho).mpr q))
      unfold wX_openFrame_42 wX_openFrame_43 wX_openFrame_88
      rw [hc]
      refine ⟨hi, nm_e ⟨hi, nm_e ⟨hi, nm_e (br_f (by decide) (br_t rfl ⟨hi, nm_e ⟨hi, nm_e (br_t rfl ⟨hi, nm_e ?_⟩)⟩⟩))⟩⟩⟩
      obtain ⟨g1, g2⟩ := gx_op (F := (ow, op, un, pa, ty, bm, be)) (d := d) (P := xb_t own) (Q := xb_t opp) (w1 := own) (w2 := opp) (wm := wm) (v1 := vp_nar .boolean 1) (v2 := -65) rfl rfl hm (by rw [if_pos ⟨z1, y1⟩]; rfl) (by rw [if_neg (by rw [y1]; simp)]; decide)
      exact h _ g1 rfl g2
  · have z1 : gm_hm (xb_t own) (xb_t opp) = true := gm_nf (fun q => z ((xb_hm hm).mpr q))
    unfold wX_openFrame_20
    refine br_t rfl ?_
    unfold wX_openFrame_42 wX_openFrame_43 wX_openFrame_87 wX_openFrame_88
    rw [hc]
    refine ⟨hi, nm_e ⟨hi, nm_e ⟨hi, nm_e (br_t rfl ⟨hi, nm_e ⟨hi, nm_e (br_t rfl ⟨hi, nm_e ?_⟩)⟩⟩)⟩⟩⟩
    obtain ⟨g1, g2⟩ := gx_op (F := (ow, op, un, pa, ty, bm, be)) (d := d) (P := xb_t own) (Q := xb_t opp) (w1 := own) (w2 := opp) (wm := wm) (v1 := vp_nar .boolean 0) (v2 := -65) rfl rfl hm (by rw [if_neg (by rw [z1]; simp)]; rfl) (by rw [if_neg (by rw [z1]; simp)]; decide)
    exact h _ g1 rfl g2
theorem wx_rep {post : SX → Prop} {b w : Int64} {sd he hv hl : Int32} {ln : Nat → Int32} {ow op un : Nat → Int64} {pa ty bm be : Nat → Int32} {d : Nat} (hd : d + 1 < 14) (h1 : ¬ be d < -(be (d + 1)) → post (b, w, sd, he, hv, hl, ln, ow, op, un, pa, ty, bm, be)) (h2 : be d < -(be (d + 1)) → post (b, w, sd, he, hv, hl, ln, ow, op, un, pa, ty, upd bm d (ty d), upd be d (-(be (d + 1))))) : wpX_reportToParent post (b, w, sd, he, hv, hl, ln, ow, op, un, pa, ty, bm, be) (nI (d + 1)) := by
  have hc : (nI d).toNatClampNeg = d := nI_clamp (by omega)
  have hc1 : (nI (d + 1)).toNatClampNeg = d + 1 := nI_clamp (by omega)
  have hi : vp_in (nI d) 14 := vp_in_nI (by omega) (by decide)
  have hi1 : vp_in (nI (d + 1)) 14 := vp_in_nI hd (by decide)
  unfold wpX_reportToParent
  dsimp only
  refine nm_r (nI_pred d) ⟨hi1, ?_⟩
  rw [hc, hc1]
  refine nm_e ⟨hi, br_c (fun z => h1 (Int32.not_lt.mpr z)) (fun z => ⟨hi, nm_e ⟨hi, hi, nm_e (h2 (Int32.not_le.mp z))⟩⟩)⟩
def wx_L (post : SX → Prop) (b w : Int64) (sd he hv hl : Int32) (ln : Nat → Int32) (c : gx_C) : Prop := ∀ n : Nat, 1000000 < n + c.1 → wX_search_13 post n (nI c.2.1) (nI c.1) b w sd he hv hl ln c.2.2.1 c.2.2.2.1 c.2.2.2.2.1 c.2.2.2.2.2.1 c.2.2.2.2.2.2.1 c.2.2.2.2.2.2.2.1 c.2.2.2.2.2.2.2.2
theorem wx_LM (post : SX → Prop) (b w : Int64) (sd he hv hl : Int32) (ln : Nat → Int32) : gx_LM (wx_L post b w sd he hv hl ln) := by
  rintro s d x ⟨ow, op, un, pa, ty, bm, be⟩ P Q U vm ve hs hd ⟨f1, f2, f3, f4, f5, f6⟩ hx hU hlo hlg hL n hn
  dsimp only at f1 f2 f3 f4 f5 f6 hn
  subst f1 f2 f3
  cases n with
  | zero => omega
  | succ n =>
    have hc : (nI d).toNatClampNeg = d := nI_clamp (by omega)
    have hi : vp_in (nI d) 14 := vp_in_nI (by omega) (by decide)
    show wX_search_13 post (n + 1) (nI d) (nI s) b w sd he hv hl ln ow op un pa ty bm be
    refine pk_le 1000000 s (fun z => by omega) (fun _ => br_f (nI_pos (by omega)) (br_f (by rw [nI_1]; exact nI_ge (b := 14) (by omega) (by decide)) ?_))
    refine wx_take_m (by omega) f4 hU hlo (fun W hW => br_f (fun z => ?_) ⟨hi, hi, ?_⟩)
    · have e : (nI x).toInt = (-1 : Int32).toInt := by rw [z]
      rw [nI_toInt (by omega), show (-1 : Int32).toInt = -1 by decide] at e
      omega
    rw [hc]
    refine wx_gain_m hlg (fun G hG => ⟨hi, hi, ?_⟩)
    rw [nI_1]
    refine wx_open (by omega) (fun F' ha ht hF => nm_e (nm_r (nI_1 s) ?_))
    refine hL F' ?_ ?_ ?_ ?_ n (by show 1000000 < n + (s + 1); omega)
    · intro i hi'
      obtain ⟨e1, e2, e3, e4, e5, e6, e7⟩ := ha i (by omega)
      exact ⟨e1, e2, (pk_uLn (by omega)).symm.trans e3, e4, (pk_un (by omega)).symm.trans e5, e6, e7⟩
    · obtain ⟨e1, e2, e3, e4, e5, e6, e7⟩ := ha d (by omega)
      dsimp only at e1 e2 e3 e4 e5 e6 e7
      rw [pk_uLs] at e3
      exact ⟨by rw [← e1], by rw [← e2], by rw [← e3]; exact funext hW, by rw [← e4]; exact f4, by rw [← e6]; exact f5, by rw [← e7]; exact f6⟩
    · show F'.2.2.2.2.1 d = nI x
      rw [ht, pk_us]
    · have en : xb_t (op d &&& (G ^^^ (-1))) = gm_np (xb_t (ow d)) (xb_t (op d)) x := funext (fun j => by rw [xb_andn, hG j]; rfl)
      have eq : xb_t (ow d ||| G) = gm_nq (xb_t (ow d)) (xb_t (op d)) x := funext (fun j => by rw [xb_or, hG j]; rfl)
      rw [en, eq] at hF
      exact hF
theorem wx_LP (post : SX → Prop) (b w : Int64) (sd he hv hl : Int32) (ln : Nat → Int32) : gx_LP (wx_L post b w sd he hv hl ln) := by
  rintro s d ⟨ow, op, un, pa, ty, bm, be⟩ P Q U vm ve hs hd ⟨f1, f2, f3, f4, f5, f6⟩ hL n hn
  dsimp only at f1 f2 f3 f4 f5 f6 hn
  subst f1 f2 f3
  cases n with
  | zero => omega
  | succ n =>
    have hc : (nI d).toNatClampNeg = d := nI_clamp (by omega)
    have hi : vp_in (nI d) 14 := vp_in_nI (by omega) (by decide)
    show wX_search_13 post (n + 1) (nI d) (nI s) b w sd he hv hl ln ow op un pa ty bm be
    refine pk_le 1000000 s (fun z => by omega) (fun _ => br_f (nI_pos (by omega)) (br_f (by rw [nI_1]; exact nI_ge (b := 14) (by omega) (by decide)) ?_))
    refine wx_take_p (by omega) f4 (br_f (by decide) ⟨hi, hi, ?_⟩)
    rw [hc]
    refine wx_gain_p ⟨hi, hi, ?_⟩
    rw [nI_1]
    refine wx_open (by omega) (fun F' ha ht hF => nm_e (nm_r (nI_1 s) ?_))
    refine hL F' ?_ ?_ ?_ ?_ n (by show 1000000 < n + (s + 1); omega)
    · intro i hi'
      obtain ⟨e1, e2, e3, e4, e5, e6, e7⟩ := ha i (by omega)
      exact ⟨e1, e2, e3, (pk_un (by omega)).symm.trans e4, (pk_un (by omega)).symm.trans e5, e6, e7⟩
    · obtain ⟨e1, e2, e3, e4, e5, e6, e7⟩ := ha d (by omega)
      dsimp only at e1 e2 e3 e4 e5 e6 e7
      rw [pk_us] at e4
      exact ⟨by rw [← e1], by rw [← e2], by rw [← e3], by rw [← e4], by rw [← e6]; exact f5, by rw [← e7]; exact f6⟩
    · show F'.2.2.2.2.1 d = nI 64
      rw [ht, pk_us]
      rfl
    · have en : xb_t (op d &&& ((0 : Int64) ^^^ (-1))) = xb_t (op d) := funext (fun j => by rw [xb_andn, xb_0]; simp)
      have eq : xb_t (ow d ||| (0 : Int64)) = xb_t (ow d) := funext (fun j => by rw [xb_or, xb_0]; simp)
      rw [en, eq] at hF
      exact hF
theorem wx_LR (post : SX → Prop) (b w : Int64) (sd he hv hl : Int32) (ln : Nat → Int32) : gx_LR (wx_L post b w sd he hv hl ln) := by
  rintro s d ⟨ow, op, un, pa, ty, bm, be⟩ P Q U P' Q' vw vm ve b' v' vt hs hd ⟨g1, g2, g3, g4, g5, g6⟩ ⟨f1, f2, f3, f4, f5, f6⟩ ht hL n hn
  dsimp only at f1 f2 f3 f4 f5 f6 g1 g2 g3 g4 g5 g6 hn
  replace ht : ty d = zi_z vt := ht
  cases n with
  | zero => omega
  | succ n =>
    show wX_search_13 post (n + 1) (nI (d + 1)) (nI s) b w sd he hv hl ln ow op un pa ty bm be
    refine pk_le 1000000 s (fun z => by omega) (fun _ => br_f (nI_pos (by omega)) (br_f (by rw [nI_1]; exact nI_ge (b := 14) (by omega) (by decide)) ?_))
    refine wx_take_n (by omega) g4 (fun j => by rw [g3]) (fun W hW => br_t rfl (br_f (nI_nle (by omega) (by omega)) ?_))
    refine wx_rep (by omega) (fun z => nm_r (pk_m1 d) (nm_r (nI_1 s) ?_)) (fun z => nm_r (pk_m1 d) (nm_r (nI_1 s) ?_))
    · rw [f6, g6] at z
      refine hL (ow, op, vp_updL un (d + 1) W, pa, upd ty (d + 1) (-1), bm, be) ?_ ?_ n (by show 1000000 < n + (s + 1); omega)
      · intro i hi'
        exact ⟨rfl, rfl, (pk_uLn (by omega)).symm, rfl, (pk_un (by omega)).symm, rfl, rfl⟩
      · rw [if_neg z, if_neg z]
        refine ⟨f1, f2, ?_, f4, f5, f6⟩
        show xb_t (vp_updL un (d + 1) W d) = U
        rw [pk_uLn (by omega)]
        exact f3
    · refine hL (ow, op, vp_updL un (d + 1) W, pa, upd ty (d + 1) (-1), upd bm d (upd ty (d + 1) (-1) d), upd be d (-(be (d + 1)))) ?_ ?_ n (by show 1000000 < n + (s + 1); omega)
      · intro i hi'
        exact ⟨rfl, rfl, (pk_uLn (by omega)).symm, rfl, (pk_un (by omega)).symm, (pk_un (by omega)).symm, (pk_un (by omega)).symm⟩
      · rw [f6, g6] at z
        rw [if_pos z, if_pos z]
        refine ⟨f1, f2, ?_, f4, ?_, ?_⟩
        · show xb_t (vp_updL un (d + 1) W d) = U
          rw [pk_uLn (by omega)]
          exact f3
        · show upd bm d (upd ty (d + 1) (-1) d) d = zi_z vt
          rw [pk_us, pk_un (by omega)]
          exact ht
        · show upd be d (-(be (d + 1))) d = zi_z (-v')
          rw [pk_us, g6, zi_neg]
theorem wx_search {post : SX → Prop} {b w : Int64} {sd he hv hl : Int32} {ln : Nat → Int32} {ow op un : Nat → Int64} {pa ty bm be : Nat → Int32} {own opp : Int64} (he6 : gm_e (xb_t own) (xb_t opp) ≤ 6) (h : ∀ F' : gx_A, F'.2.2.2.2.2.1 0 = zi_z (gm_F (xb_t own) (xb_t opp)) → F'.2.2.2.2.2.2 0 = zi_z (gm_W (xb_t own) (xb_t opp)) → post (b, w, sd, he, hv, hl, ln, F'.1, F'.2.1, F'.2.2.1, F'.2.2.2.1, F'.2.2.2.2.1, F'.2.2.2.2.2.1, F'.2.2.2.2.2.2)) : wpX_search post (b, w, sd, he, hv, hl, ln, ow, op, un, pa, ty, bm, be) own opp := by
  unfold wpX_search
  dsimp only
  refine wx_open (d := 0) (by omega) (fun F ha ht hF => ⟨1000001, ?_⟩)
  have hA := gs_A_m he6
  have hr := gs_run (gx_R (wx_LM post b w sd he hv hl ln) (wx_LP post b w sd he hv hl ln) (wx_LR post b w sd he hv hl ln)) (gm_e (xb_t own) (xb_t opp)) (0, 0, F) 0 0 (xb_t own) (xb_t opp) rfl ⟨rfl, rfl, hF⟩ (by omega) (by omega) ?_
  · exact hr 1000001 (by show 1000000 < 1000001 + 0; omega)
  · rintro ⟨cs, cd, ow', op', un', pa', ty', bm', be'⟩ s hs _ ⟨e1, e2, f1, f2, f3, f4, f5, f6⟩ n hn
    dsimp only at e1 e2 f1 f2 f3 f4 f5 f6 hn
    subst e1 e2
    cases n with
    | zero => omega
    | succ n =>
      show wX_search_13 post (n + 1) (nI 0) (nI cs) b w sd he hv hl ln ow' op' un' pa' ty' bm' be'
      refine pk_le 1000000 cs (fun z => by omega) (fun _ => br_f (nI_pos (by omega)) (br_f (by rw [nI_1]; exact nI_ge (b := 14) (by omega) (by decide)) ?_))
      refine wx_take_n (by omega) f4 (fun j => by rw [f3]) (fun W hW => br_t rfl (br_t (by decide) (nm_e (nm_r (nI_1 cs) ?_))))
      cases n with
      | zero => omega
      | succ n =>
        refine pk_le 1000000 (cs + 1) (fun z => by omega) (fun _ => br_t (by decide) ?_)
        exact h (ow', op', vp_updL un' 0 W, pa', upd ty' 0 (-1), bm', be') f5 f6
end
section
/-! the reference's small methods, each with a general post -/
theorem zn_64 (f i : Nat) : 64 * nI f + nI i = nI (64 * f + i) := by
  rw [show (64 : Int32) = nI 64 from rfl, pk_mul, nI_add]
theorem zn_oix {o : Nat} {r c : Int} (h : gm_on r c) : (nI o + 8 * zi_z r) + zi_z c = nI (o + gm_ix r c) := by
  rw [Int32.add_assoc, zn_ix h, nI_add]
theorem zn_gt7 {x : Int} (h : -1000 ≤ x) (h' : x ≤ 1000) : (7 : Int32) < zi_z x ↔ 7 < x := by
  have e : (7 : Int32) = zi_z 7 := by decide
  rw [e, zi_lt (by decide) (by decide) (by omega) (by omega)]
theorem gy_emp {a : Nat → Int32} {o s : Nat} {m : Int32} (hm : yb_s m) (hT : gy_T a o) (hs : s < 64) : a (o + s) = 0 ↔ yb_o a o m s = false ∧ yb_o a o (3 - m) s = false := by
  rw [yb_of hs, yb_of hs]
  rcases hm with rfl | rfl
  · rw [show (3 : Int32) - 1 = 2 by decide]
    rcases hT s hs with e | e | e <;> rw [e] <;> decide
  · rw [show (3 : Int32) - 2 = 1 by decide]
    rcases hT s hs with e | e | e <;> rw [e] <;> decide
def gm_kk (o : Option Nat) (k : Nat) : Nat := match o with
  | none => 0
  | some j => k + j
theorem wy_run_l {post : Int32 → Prop} {sd hb sv pl : Int32} {a ds ph nx be pv : Nat → Int32} {m : Int32} {o s t : Nat} (hm : yb_s m) (ho : o + 64 ≤ 1024) (hs : s < 64) (ht : t < 9) : ∀ (f n i k : Nat) (r c : Int), i + f = 8 → f < n → r = gm_r0 s t + (i : Int) * gm_dr t → c = gm_c0 s t + (i : Int) * gm_dc t → post (nI (gm_kk (gm_len (yb_o a o m) (yb_o a o (3 - m)) (gm_dr t) (gm_dc t) f r c) k)) → wY_runLen_23 post (nI o) (zi_z (gm_dr t)) (zi_z (gm_dc t)) m sd hb sv pl a ds ph nx be pv n (zi_z r) (zi_z c) (nI k) (nI i) := by
  intro f
  induction f with
  | zero =>
    intro n i k r c hi hn hr hc h
    cases n with
    | zero => omega
    | succ n => exact pk_le 8 i (fun _ => h) (fun z => by omega)
  | succ f ih =>
    intro n i k r c hi hn hr hc h
    cases n with
    | zero => omega
    | succ n =>
      have b1 := zn_rb (s := s) (i := i) ht hs (by omega)
      have b2 := zn_cb (s := s) (i := i) (t := t) (by omega)
      rw [← hr] at b1
      rw [← hc] at b2
      refine pk_le 8 i (fun z => by omega) (fun _ => ?_)
      rw [gm_len] at h
      by_cases hon : gm_on r c
      · rw [if_pos hon] at h
        have hk := gm_ixlt hon
        refine br_f (fun z => by rw [zn_lt0 (by omega) (by omega)] at z; omega) (br_f (fun z => by rw [zn_gt7 (by omega) (by omega)] at z; omega) (br_f (fun z => by rw [zn_lt0 (by omega) (by omega)] at z; omega) (br_t ((zn_le7 (by omega) (by omega)).mpr (by omega)) ?_)))
        rw [zn_oix hon]
        refine ⟨vp_in_nI (by omega) (by decide), ?_⟩
        rw [nI_clamp (by omega)]
        refine nm_e (br_c (fun z1 => ?_) (fun z1 => br_c (fun z2 => ?_) (fun z2 => ?_)))
        · have hp : ¬ yb_o a o m (gm_ix r c) = true := by
            rw [yb_oi hk, z1]; exact fun z => (yb_3 hm).2.2 z.symm
          rw [if_neg hp, if_pos ((yb_oi hk).mpr z1)] at h
          refine nm_r (nI_1 k) (nm_r (zi_add _ _) (nm_r (zi_add _ _) (nm_r (nI_1 i) ?_)))
          refine ih n (i + 1) (k + 1) (r + gm_dr t) (c + gm_dc t) (by omega) (by omega) (by rw [gm_st, hr]; omega) (by rw [gm_st, hc]; omega) ?_
          cases hl : gm_len (yb_o a o m) (yb_o a o (3 - m)) (gm_dr t) (gm_dc t) f (r + gm_dr t) (c + gm_dc t) with
          | none => rw [hl] at h; exact h
          | some j =>
            rw [hl] at h
            have e : k + 1 + j = k + (j + 1) := by omega
            show post (nI (k + 1 + j))
            rw [e]
            exact h
        · rw [if_pos ((yb_oi hk).mpr z2)] at h
          exact h
        · have hp : ¬ yb_o a o m (gm_ix r c) = true := by rw [yb_oi hk]; exact z2
          have hq : ¬ yb_o a o (3 - m) (gm_ix r c) = true := by rw [yb_oi hk]; exact z1
          rw [if_neg hp, if_neg hq] at h
          exact h
      · rw [if_neg hon] at h
        refine br_c (fun _ => h) (fun z1 => br_c (fun _ => h) (fun z2 => br_c (fun _ => h) (fun z3 => br_f (fun z4 => hon ?_) h)))
        rw [zn_lt0 (by omega) (by omega)] at z1 z3
        rw [zn_gt7 (by omega) (by omega)] at z2
        rw [zn_le7 (by omega) (by omega)] at z4
        omega
theorem wy_run {post : Int32 → Prop} {sd hb sv pl : Int32} {a ds ph nx be pv : Nat → Int32} {m : Int32} {o s t : Nat} (hm : yb_s m) (ho : o + 64 ≤ 1024) (hs : s < 64) (ht : t < 9) (h4 : t ≠ 4) (h : post (nI (gm_k (yb_o a o m) (yb_o a o (3 - m)) s t))) : wpY_runLen post (sd, hb, sv, pl, a, ds, ph, nx, be, pv) (nI o) (nI s) (zi_z (gm_dr t)) (zi_z (gm_dc t)) m := by
  unfold wpY_runLen
  dsimp only
  refine ⟨by decide, nm_r (zn_row0 hs) ⟨by decide, nm_r (zn_col0 hs) ⟨9, ?_⟩⟩⟩
  refine wy_run_l hm ho hs ht 8 9 0 0 (gm_r0 s t) (gm_c0 s t) (by omega) (by omega) (gm_s0 _ _).symm (gm_s0 _ _).symm ?_
  rw [gm_k8 hs h4 ht] at h
  cases hl : gm_len (yb_o a o m) (yb_o a o (3 - m)) (gm_dr t) (gm_dc t) 8 (gm_r0 s t) (gm_c0 s t) with
  | none => rw [hl] at h; exact h
  | some j =>
    rw [hl] at h
    show post (nI (0 + j))
    rw [Nat.zero_add]
    exact h
theorem gm_sum_m {p q : Nat → Bool} {s t : Nat} : ∀ T : Nat, t ≤ T → gm_sum p q s t ≤ gm_sum p q s T := by
  intro T
  induction T with
  | zero => intro h; have e : t = 0 := (by omega); subst e; exact Nat.le_refl _
  | succ T ih =>
    intro h
    by_cases e : t = T + 1
    · subst e; exact Nat.le_refl _
    · have := ih (by omega)
      rw [gm_sum]; omega
theorem wy_lg_i {post : Int32 → Prop} {J : Int32 → Prop} {sd hb sv pl : Int32} {a ds ph nx be pv : Nat → Int32} {m : Int32} {o s i : Nat} (hm : yb_s m) (ho : o + 64 ≤ 1024) (hs : s < 64) (hi : i < 3) (h1 : 0 < gm_sum (yb_o a o m) (yb_o a o (3 - m)) s 9 → post 1) (hJ : gm_sum (yb_o a o m) (yb_o a o (3 - m)) s (3 * i + 3) = 0 → J (zi_z (i : Int))) : ∀ (f n j : Nat), j + f = 3 → f < n → gm_sum (yb_o a o m) (yb_o a o (3 - m)) s (3 * i + j) = 0 → wY_legalAt_37 post J (nI o) (nI s) m (zi_z ((i : Int) - 1)) sd hb sv pl a ds ph nx be pv n (zi_z ((j : Int) - 1)) := by
  intro f
  induction f with
  | zero =>
    intro n j hj hn hR
    cases n with
    | zero => omega
    | succ n =>
      have e : j = 3 := by omega
      subst e
      exact br_t ((zn_gt1 (by omega) (by omega)).mpr (by omega)) (nm_r ((zn_1 _).trans (by rw [show (i : Int) - 1 + 1 = (i : Int) by omega])) (hJ hR))
  | succ f ih =>
    intro n j hj hn hR
    cases n with
    | zero => omega
    | succ n =>
      obtain ⟨d1, d2⟩ := zn_dr i hi j (by omega)
      have ej : (j : Int) - 1 + 1 = ((j + 1 : Nat) : Int) - 1 := by omega
      have es : gm_sum (yb_o a o m) (yb_o a o (3 - m)) s (3 * i + j + 1) = gm_sum (yb_o a o m) (yb_o a o (3 - m)) s (3 * i + j) + gm_k (yb_o a o m) (yb_o a o (3 - m)) s (3 * i + j) := rfl
      refine br_f (fun z => by rw [zn_gt1 (by omega) (by omega)] at z; omega) ?_
      have step : 3 * i + j ≠ 4 → wY_legalAt_56 post J (wY_legalAt_37 post J (nI o) (nI s) m (zi_z ((i : Int) - 1)) sd hb sv pl a ds ph nx be pv n) (nI o) (nI s) m (zi_z ((i : Int) - 1)) (zi_z ((j : Int) - 1)) sd hb sv pl a ds ph nx be pv := by
        intro h4
        unfold wY_legalAt_56
        rw [← d1, ← d2]
        have k7 := gm_k7 (yb_o a o m) (yb_o a o (3 - m)) s (3 * i + j)
        refine wy_run hm ho hs (by omega) h4 (pk_le _ 0 (fun z => nm_r ((zn_1 _).trans (by rw [d2, ej])) ?_) (fun z => h1 ?_) rfl rfl (by omega))
        · rw [d1]
          exact ih n (j + 1) (by omega) (by omega) (by show gm_sum _ _ s (3 * i + j + 1) = 0; omega)
        · have := gm_sum_m (p := yb_o a o m) (q := yb_o a o (3 - m)) (s := s) (t := 3 * i + j + 1) 9 (by omega)
          omega
      refine br_c (fun z1 => br_c (fun z2 => ?_) (fun z2 => step (fun h4 => z2 ?_))) (fun z1 => step (fun h4 => z1 ?_))
      · rw [zn_eq0 (by omega) (by omega)] at z1 z2
        have e1 : i = 1 := by omega
        have e2 : j = 1 := by omega
        subst e1 e2
        exact nm_r ((zn_1 _).trans (by rw [ej])) (ih n 2 (by omega) (by omega) hR)
      · rw [zn_eq0 (by omega) (by omega)]; omega
      · rw [zn_eq0 (by omega) (by omega)]; omega
theorem wy_lg_o {post : Int32 → Prop} {sd hb sv pl : Int32} {a ds ph nx be pv : Nat → Int32} {m : Int32} {o s : Nat} (hm : yb_s m) (ho : o + 64 ≤ 1024) (hs : s < 64) (h1 : 0 < gm_sum (yb_o a o m) (yb_o a o (3 - m)) s 9 → post 1) (h0 : gm_sum (yb_o a o m) (yb_o a o (3 - m)) s 9 = 0 → post 0) : ∀ (f n i : Nat), i + f = 3 → f < n → gm_sum (yb_o a o m) (yb_o a o (3 - m)) s (3 * i) = 0 → wY_legalAt_28 post (nI o) (nI s) m sd hb sv pl a ds ph nx be pv n (zi_z ((i : Int) - 1)) := by
  intro f
  induction f with
  | zero =>
    intro n i hi hn hR
    cases n with
    | zero => omega
    | succ n =>
      have e : i = 3 := by omega
      subst e
      exact br_t ((zn_gt1 (by omega) (by omega)).mpr (by omega)) (h0 hR)
  | succ f ih =>
    intro n i hi hn hR
    cases n with
    | zero => omega
    | succ n =>
      refine br_f (fun z => by rw [zn_gt1 (by omega) (by omega)] at z; omega) ⟨4, ?_⟩
      have hh := wy_lg_i (post := post) (J := wY_legalAt_28 post (nI o) (nI s) m sd hb sv pl a ds ph nx be pv n) (sd := sd) (hb := hb) (sv := sv) (pl := pl) (a := a) (ds := ds) (ph := ph) (nx := nx) (be := be) (pv := pv) hm ho hs (show i < 3 by omega) h1 (fun hw => by
        have := ih n (i + 1) (by omega) (by omega) hw
        rw [show ((i + 1 : Nat) : Int) - 1 = (i : Int) by omega] at this
        exact this) 3 4 0 (by omega) (by omega) hR
      exact hh
theorem wy_lg {post : Int32 → Prop} {sd hb sv pl : Int32} {a ds ph nx be pv : Nat → Int32} {m : Int32} {o s : Nat} (hm : yb_s m) (ho : o + 64 ≤ 1024) (hT : gy_T a o) (hs : s < 64) (h1 : gm_lg (yb_o a o m) (yb_o a o (3 - m)) s = true → post 1) (h0 : gm_lg (yb_o a o m) (yb_o a o (3 - m)) s = false → post 0) : wpY_legalAt post (sd, hb, sv, pl, a, ds, ph, nx, be, pv) (nI o) (nI s) m := by
  unfold wpY_legalAt
  dsimp only
  have hc : (nI (o + s)).toNatClampNeg = o + s := nI_clamp (by omega)
  rw [nI_add, hc]
  refine br_f (nI_pos (by omega)) (pk_le s 63 (fun _ => ⟨vp_in_nI (by omega) (by decide), br_c (fun z => ⟨4, ?_⟩) (fun z => h0 (gm_nt (fun y => z ((gy_emp hm hT hs).mpr (gm_lg_i.mp y).2.1))))⟩) (fun z => by omega))
  have he := (gy_emp hm hT hs).mp z
  refine wy_lg_o hm ho hs (fun y => h1 (gm_lg_i.mpr ⟨hs, he, y⟩)) (fun y => h0 (gm_nt (fun q => ?_))) 3 4 0 (by omega) (by omega) rfl
  have := (gm_lg_i.mp q).2.2
  omega
theorem wy_hm_l {post : Int32 → Prop} {sd hb sv pl : Int32} {a ds ph nx be pv : Nat → Int32} {m : Int32} {o : Nat} (hm : yb_s m) (ho : o + 64 ≤ 1024) (hT : gy_T a o) (h1 : gm_hm (yb_o a o m) (yb_o a o (3 - m)) = true → post 1) (h0 : gm_hm (yb_o a o m) (yb_o a o (3 - m)) = false → post 0) : ∀ (n i : Nat), i ≤ 64 → 64 < n + i → (∀ j, j < i → gm_lg (yb_o a o m) (yb_o a o (3 - m)) j = false) → wY_hasMove_2 post (nI o) m sd hb sv pl a ds ph nx be pv n (nI i) := by
  intro n
  induction n with
  | zero => intro i hi hn _; omega
  | succ n ih =>
    intro i hi hn hj
    refine pk_le 64 i (fun z => h0 (gm_nt (fun y => ?_))) (fun z => ?_)
    · obtain ⟨s, hs, hl⟩ := gm_hm_i.mp y
      rw [hj s (by omega)] at hl
      cases hl
    · refine wy_lg hm ho hT z (fun y => br_f (by decide) (h1 (gm_hm_i.mpr ⟨i, z, y⟩))) (fun y => br_t rfl (nm_r (nI_1 i) ?_))
      refine ih (i + 1) (by omega) (by omega) (fun j q => ?_)
      by_cases e : j = i
      · rw [e]; exact y
      · exact hj j (by omega)
theorem wy_hm {post : Int32 → Prop} {sd hb sv pl : Int32} {a ds ph nx be pv : Nat → Int32} {m : Int32} {o : Nat} (hm : yb_s m) (ho : o + 64 ≤ 1024) (hT : gy_T a o) (h1 : gm_hm (yb_o a o m) (yb_o a o (3 - m)) = true → post 1) (h0 : gm_hm (yb_o a o m) (yb_o a o (3 - m)) = false → post 0) : wpY_hasMove post (sd, hb, sv, pl, a, ds, ph, nx, be, pv) (nI o) m := by
  unfold wpY_hasMove
  exact ⟨65, wy_hm_l hm ho hT h1 h0 65 0 (by omega) (by omega) (fun j hj => by omega)⟩
theorem wy_over12 {post : Int32 → Prop} {sd hb sv pl : Int32} {a ds ph nx be pv : Nat → Int32} {o : Nat} (ho : o + 64 ≤ 1024) (hT : gy_T a o) (h1 : gm_hm (yb_o a o 1) (yb_o a o 2) = false → gm_hm (yb_o a o 2) (yb_o a o 1) = false → post 1) (h0 : gm_hm (yb_o a o 1) (yb_o a o 2) = true ∨ gm_hm (yb_o a o 2) (yb_o a o 1) = true → post 0) : wpY_overAt post (sd, hb, sv, pl, a, ds, ph, nx, be, pv) (nI o) := by
  have e1 : (3 : Int32) - 1 = 2 := by decide
  have e2 : (3 : Int32) - 2 = 1 := by decide
  unfold wpY_overAt
  dsimp only
  refine wy_hm (Or.inl rfl) ho hT (fun z => ?_) (fun z => ?_)
  · rw [e1] at z
    exact br_f (by decide) (h0 (Or.inl z))
  · rw [e1] at z
    refine br_t rfl (wy_hm (Or.inr rfl) ho hT (fun y => ?_) (fun y => ?_))
    · rw [e2] at y
      exact br_f (by decide) (h0 (Or.inr y))
    · rw [e2] at y
      exact br_t rfl (h1 z y)
theorem wy_over {post : Int32 → Prop} {sd hb sv pl : Int32} {a ds ph nx be pv : Nat → Int32} {m : Int32} {o : Nat} (hm : yb_s m) (ho : o + 64 ≤ 1024) (hT : gy_T a o) (h1 : gm_hm (yb_o a o m) (yb_o a o (3 - m)) = false → gm_hm (yb_o a o (3 - m)) (yb_o a o m) = false → post 1) (h0 : gm_hm (yb_o a o m) (yb_o a o (3 - m)) = true ∨ gm_hm (yb_o a o (3 - m)) (yb_o a o m) = true → post 0) : wpY_overAt post (sd, hb, sv, pl, a, ds, ph, nx, be, pv) (nI o) := by
  rcases hm with rfl | rfl
  · rw [show (3 : Int32) - 1 = 2 by decide] at h1 h0
    exact wy_over12 ho hT h1 h0
  · rw [show (3 : Int32) - 2 = 1 by decide] at h1 h0
    exact wy_over12 ho hT (fun x y => h1 y x) (fun x => h0 x.symm)
theorem wy_df_l {post : Int32 → Prop} {sd hb sv pl : Int32} {a ds ph nx be pv : Nat → Int32} {m : Int32} {o : Nat} (hm : yb_s m) (ho : o + 64 ≤ 1024) (h : post (zi_z (gm_df (yb_o a o m) (yb_o a o (3 - m))))) : ∀ (n i : Nat), i ≤ 64 → 64 < n + i → wY_diffAt_5 post (nI o) m sd hb sv pl a ds ph nx be pv n (zi_z ((gm_cnt (yb_o a o m) i : Int) - (gm_cnt (yb_o a o (3 - m)) i : Int))) (nI i) := by
  intro n
  induction n with
  | zero => intro i hi hn; omega
  | succ n ih =>
    intro i hi hn
    refine pk_le 64 i (fun z => ?_) (fun z => ?_)
    · have e : i = 64 := by omega
      subst e
      exact h
    · have hc : (nI (o + i)).toNatClampNeg = o + i := nI_clamp (by omega)
      have hin : vp_in (nI (o + i)) 1024 := vp_in_nI (by omega) (by decide)
      have hh := ih (i + 1) (by omega) (by omega)
      rw [nI_add, hc]
      refine ⟨hin, br_c (fun y => nm_r ((zn_1 _).trans ?_) (nm_r (nI_1 i) hh)) (fun y => ⟨hin, br_c (fun q => nm_r (?_ : _ = zi_z ((gm_cnt (yb_o a o m) (i + 1) : Int) - (gm_cnt (yb_o a o (3 - m)) (i + 1) : Int))) (nm_r (nI_1 i) hh)) (fun q => nm_r (nI_1 i) ?_)⟩)⟩
      · have y1 : yb_o a o m i = true := (yb_oi z).mpr y
        have y2 : ¬ yb_o a o (3 - m) i = true := by rw [yb_oi z, y]; exact (yb_3 hm).2.2
        rw [gm_cnt, gm_cnt, if_pos y1, if_neg y2]
        congr 1
        omega
      · have y1 : ¬ yb_o a o m i = true := by rw [yb_oi z]; exact y
        have y2 : yb_o a o (3 - m) i = true := (yb_oi z).mpr q
        rw [gm_cnt, gm_cnt, if_neg y1, if_pos y2, zi_m1, zi_add]
        congr 1
        omega
      · have y1 : ¬ yb_o a o m i = true := by rw [yb_oi z]; exact y
        have y2 : ¬ yb_o a o (3 - m) i = true := by rw [yb_oi z]; exact q
        rw [gm_cnt, gm_cnt, if_neg y1, if_neg y2, Nat.add_zero, Nat.add_zero] at hh
        exact hh
theorem wy_df {post : Int32 → Prop} {sd hb sv pl : Int32} {a ds ph nx be pv : Nat → Int32} {m : Int32} {o : Nat} (hm : yb_s m) (ho : o + 64 ≤ 1024) (h : post (zi_z (gm_df (yb_o a o m) (yb_o a o (3 - m))))) : wpY_diffAt post (sd, hb, sv, pl, a, ds, ph, nx, be, pv) (nI o) m := by
  unfold wpY_diffAt
  exact ⟨65, wy_df_l hm ho h 65 0 (by omega) (by omega)⟩
def yb_cp (a : Nat → Int32) (f g n : Nat) : Nat → Int32 := fun x => if 64 * g ≤ x ∧ x < 64 * g + n then a (64 * f + (x - 64 * g)) else a x
theorem wy_cp_l {post : SY → Prop} {sd hb sv pl : Int32} {a ds ph nx be pv : Nat → Int32} {f g : Nat} (hf : f ≤ 15) (hg : g ≤ 15) (hfg : f ≠ g) (h : post (sd, hb, sv, pl, yb_cp a f g 64, ds, ph, nx, be, pv)) : ∀ (n i : Nat), i ≤ 64 → 64 < n + i → wY_copySlot_23 post (nI f) (nI g) sd hb sv pl n (nI i) (yb_cp a f g i) ds ph nx be pv := by
  intro n
  induction n with
  | zero => intro i hi hn; omega
  | succ n ih =>
    intro i hi hn
    refine pk_le 64 i (fun z => ?_) (fun z => ?_)
    · have e : i = 64 := by omega
      subst e
      exact h
    · have hc1 : (nI (64 * f + i)).toNatClampNeg = 64 * f + i := nI_clamp (by omega)
      have hc2 : (nI (64 * g + i)).toNatClampNeg = 64 * g + i := nI_clamp (by omega)
      have hi1 : vp_in (nI (64 * f + i)) 1024 := vp_in_nI (by omega) (by decide)
      have hi2 : vp_in (nI (64 * g + i)) 1024 := vp_in_nI (by omega) (by decide)
      rw [zn_64, zn_64, hc1, hc2]
      refine ⟨hi1, hi2, nm_r (?_ : _ = yb_cp a f g (i + 1)) (nm_r (nI_1 i) (ih (i + 1) (by omega) (by omega)))⟩
      funext x
      unfold upd yb_cp
      by_cases e : x = 64 * g + i
      · rw [if_pos e, if_pos (show 64 * g ≤ x ∧ x < 64 * g + (i + 1) by omega), if_neg (show ¬ (64 * g ≤ 64 * f + i ∧ 64 * f + i < 64 * g + i) by omega)]
        congr 1
        omega
      · rw [if_neg e]
        by_cases e2 : 64 * g ≤ x ∧ x < 64 * g + i
        · rw [if_pos e2, if_pos (by omega)]
        · rw [if_neg e2, if_neg (by omega)]
theorem wy_cp {post : SY → Prop} {sd hb sv pl : Int32} {a ds ph nx be pv : Nat → Int32} {f g : Nat} (hf : f ≤ 15) (hg : g ≤ 15) (hfg : f ≠ g) (h : ∀ a' : Nat → Int32, (∀ j, j < 64 → a' (64 * g + j) = a (64 * f + j)) → (∀ x, x < 64 * g ∨ 64 * g + 64 ≤ x → a' x = a x) → post (sd, hb, sv, pl, a', ds, ph, nx, be, pv)) : wpY_copySlot post (sd, hb, sv, pl, a, ds, ph, nx, be, pv) (nI f) (nI g) := by
  unfold wpY_copySlot
  dsimp only
  refine br_f (nI_pos (by omega)) (pk_lt 15 f (fun z => by omega) (fun _ => br_f (nI_pos (by omega)) (pk_le g 15 (fun _ => ⟨65, ?_⟩) (fun z => by omega))))
  have e0 : yb_cp a f g 0 = a := by
    funext x
    exact if_neg (by omega)
  have hh := wy_cp_l (post := post) (sd := sd) (hb := hb) (sv := sv) (pl := pl) (a := a) (ds := ds) (ph := ph) (nx := nx) (be := be) (pv := pv) hf hg hfg (h (yb_cp a f g 64) (fun j hj => ?_) (fun x hx => ?_)) 65 0 (by omega) (by omega)
  · rw [e0] at hh
    exact hh
  · unfold yb_cp
    rw [if_pos (by omega)]
    congr 1
    omega
  · exact if_neg (by omega)
end
section
/-! the reference's flips: the board with the gained squares written -/
theorem wy_fl_c {post : Int32 → SY → Prop} {J6 J15 : Int32 → Int32 → (Nat → Int32) → (Nat → Int32) → (Nat → Int32) → (Nat → Int32) → (Nat → Int32) → (Nat → Int32) → Prop} {sd hb sv pl : Int32} {a ds ph nx be pv : Nat → Int32} {m x2 : Int32} {o s t T : Nat} {S : Nat → Bool} {p q : Nat → Bool} {z5 z6 : Int} (ho : o + 64 ≤ 1024) (hs : s < 64) (ht : t < 9) (e5 : z5 = gm_dr t) (e6 : z6 = gm_dc t) (hJ : J15 (nI (T + gm_k p q s t)) (zi_z (z6 + 1)) (yb_w a o m (fun j => S j || gm_ray p q s t j)) ds ph nx be pv) : ∀ (f n i : Nat) (tt : Int), i + f = gm_k p q s t → f < n → tt = 8 * (gm_r0 s t + (i : Int) * gm_dr t) + (gm_c0 s t + (i : Int) * gm_dc t) - (8 * gm_dr t + gm_dc t) → wY_flipAt_53 post J6 J15 (nI o) x2 m (nI T) (zi_z z5) (zi_z z6) (nI (gm_k p q s t)) sd hb sv pl n (zi_z tt) (nI i) (yb_w a o m (fun j => S j || gm_cov (gm_dr t) (gm_dc t) i (gm_r0 s t) (gm_c0 s t) j)) ds ph nx be pv := by
  intro f
  induction f with
  | zero =>
    intro n i tt hi hn htt
    have k7 := gm_k7 p q s t
    cases n with
    | zero => omega
    | succ n =>
      have e : i = gm_k p q s t := by omega
      subst e
      exact pk_le _ _ (fun _ => nm_r (nI_add _ _) (nm_r (zn_1 _) hJ)) (fun z => by omega) rfl rfl (by omega) (by omega)
  | succ f ih =>
    intro n i tt hi hn htt
    have k7 := gm_k7 p q s t
    cases n with
    | zero => omega
    | succ n =>
      obtain ⟨_, hon, _⟩ := gm_k_c (p := p) (q := q) (s := s) (t := t) (i := i) (by omega)
      have hix := gm_ixlt hon
      have hI := gm_ixI hon
      have e8 : (zi_z tt + 8 * zi_z z5) + zi_z z6 = zi_z (8 * (gm_r0 s t + (i : Int) * gm_dr t) + (gm_c0 s t + (i : Int) * gm_dc t)) := by
        rw [zn_8z, zi_mul, zi_add, zi_add]
        congr 1
        omega
      have e1 : nI o + zi_z (8 * (gm_r0 s t + (i : Int) * gm_dr t) + (gm_c0 s t + (i : Int) * gm_dc t)) = nI (o + gm_ix (gm_r0 s t + (i : Int) * gm_dr t) (gm_c0 s t + (i : Int) * gm_dc t)) := by
        rw [← hI, zi_n, nI_add]
      refine pk_le _ _ (fun z => by omega) (fun _ => nm_r e8 ?_) rfl rfl (by omega) (by omega)
      rw [e1, nI_clamp (by omega)]
      refine ⟨vp_in_nI (by omega) (by decide), nm_r (yb_wu _ _ _ _ _) (nm_r (nI_1 i) ?_)⟩
      have hh := ih n (i + 1) (8 * (gm_r0 s t + (i : Int) * gm_dr t) + (gm_c0 s t + (i : Int) * gm_dc t)) (by omega) (by omega) (by rw [gm_st, gm_st]; omega)
      rw [yb_we (T := fun j => (S j || gm_cov (gm_dr t) (gm_dc t) i (gm_r0 s t) (gm_c0 s t) j) || decide (j = gm_ix (gm_r0 s t + (i : Int) * gm_dr t) (gm_c0 s t + (i : Int) * gm_dc t))) (fun j => by show (S j || gm_cov (gm_dr t) (gm_dc t) (i + 1) (gm_r0 s t) (gm_c0 s t) j) = _; rw [gm_cov_r, Bool.or_assoc])] at hh
      exact hh
theorem wy_tt0 {s t : Nat} : (s : Int) = 8 * (gm_r0 s t + ((0 : Nat) : Int) * gm_dr t) + (gm_c0 s t + ((0 : Nat) : Int) * gm_dc t) - (8 * gm_dr t + gm_dc t) := by
  rw [gm_s0, gm_s0]
  unfold gm_r0 gm_c0
  omega
theorem wy_fl_k {a : Nat → Int32} {m : Int32} {o s t : Nat} (hm : yb_s m) (ht : t < 9) : gm_k (yb_o (yb_w a o m (gm_acc (yb_o a o m) (yb_o a o (3 - m)) s t)) o m) (yb_o (yb_w a o m (gm_acc (yb_o a o m) (yb_o a o (3 - m)) s t)) o (3 - m)) s t = gm_k (yb_o a o m) (yb_o a o (3 - m)) s t := by
  have h1 : yb_o (yb_w a o m (gm_acc (yb_o a o m) (yb_o a o (3 - m)) s t)) o m = fun j => yb_o a o m j || gm_acc (yb_o a o m) (yb_o a o (3 - m)) s t j := funext (fun j => yb_wo (fun j h => (gm_acc_b h).1) j)
  have h2 : yb_o (yb_w a o m (gm_acc (yb_o a o m) (yb_o a o (3 - m)) s t)) o (3 - m) = fun j => yb_o a o (3 - m) j && !gm_acc (yb_o a o m) (yb_o a o (3 - m)) s t j := funext (fun j => yb_wp (yb_3 hm).2.2 j)
  rw [h1, h2]
  exact gm_k_q ht
theorem wy_fl_i {post : Int32 → SY → Prop} {J6 : Int32 → Int32 → (Nat → Int32) → (Nat → Int32) → (Nat → Int32) → (Nat → Int32) → (Nat → Int32) → (Nat → Int32) → Prop} {sd hb sv pl : Int32} {a ds ph nx be pv : Nat → Int32} {m : Int32} {o s i : Nat} (hm : yb_s m) (ho : o + 64 ≤ 1024) (hs : s < 64) (hi : i < 3) (hJ : J6 (nI (gm_sum (yb_o a o m) (yb_o a o (3 - m)) s (3 * i + 3))) (zi_z (i : Int)) (yb_w a o m (gm_acc (yb_o a o m) (yb_o a o (3 - m)) s (3 * i + 3))) ds ph nx be pv) : ∀ (f n j : Nat), j + f = 3 → f < n → wY_flipAt_15 post J6 (nI o) (nI s) m (zi_z ((i : Int) - 1)) sd hb sv pl n (nI (gm_sum (yb_o a o m) (yb_o a o (3 - m)) s (3 * i + j))) (zi_z ((j : Int) - 1)) (yb_w a o m (gm_acc (yb_o a o m) (yb_o a o (3 - m)) s (3 * i + j))) ds ph nx be pv := by
  intro f
  induction f with
  | zero =>
    intro n j hj hn
    cases n with
    | zero => omega
    | succ n =>
      have e : j = 3 := by omega
      subst e
      exact br_t ((zn_gt1 (by omega) (by omega)).mpr (by omega)) (nm_r ((zn_1 _).trans (by rw [show (i : Int) - 1 + 1 = (i : Int) by omega])) hJ)
  | succ f ih =>
    intro n j hj hn
    cases n with
    | zero => omega
    | succ n =>
      obtain ⟨d1, d2⟩ := zn_dr i hi j (by omega)
      have ej : (j : Int) - 1 + 1 = ((j + 1 : Nat) : Int) - 1 := by omega
      refine br_f (fun z => by rw [zn_gt1 (by omega) (by omega)] at z; omega) ?_
      have step : 3 * i + j ≠ 4 → wY_flipAt_34 post J6 (wY_flipAt_15 post J6 (nI o) (nI s) m (zi_z ((i : Int) - 1)) sd hb sv pl n) (nI o) (nI s) m (nI (gm_sum (yb_o a o m) (yb_o a o (3 - m)) s (3 * i + j))) (zi_z ((i : Int) - 1)) (zi_z ((j : Int) - 1)) sd hb sv pl (yb_w a o m (gm_acc (yb_o a o m) (yb_o a o (3 - m)) s (3 * i + j))) ds ph nx be pv := by
        intro h4
        unfold wY_flipAt_34
        have k7 := gm_k7 (yb_o a o m) (yb_o a o (3 - m)) s (3 * i + j)
        have hr : ∀ post' : Int32 → Prop, post' (nI (gm_k (yb_o a o m) (yb_o a o (3 - m)) s (3 * i + j))) → wpY_runLen post' (sd, hb, sv, pl, yb_w a o m (gm_acc (yb_o a o m) (yb_o a o (3 - m)) s (3 * i + j)), ds, ph, nx, be, pv) (nI o) (nI s) (zi_z ((i : Int) - 1)) (zi_z ((j : Int) - 1)) m := by
          intro post' hp
          rw [← d1, ← d2]
          refine wy_run hm ho hs (by omega) h4 ?_
          rw [wy_fl_k hm (by omega)]
          exact hp
        refine hr _ ⟨8, ?_⟩
        have hh := wy_fl_c (post := post) (J6 := J6) (J15 := wY_flipAt_15 post J6 (nI o) (nI s) m (zi_z ((i : Int) - 1)) sd hb sv pl n) (sd := sd) (hb := hb) (sv := sv) (pl := pl) (a := a) (ds := ds) (ph := ph) (nx := nx) (be := be) (pv := pv) (m := m) (x2 := nI s) (o := o) (s := s) (t := 3 * i + j) (T := gm_sum (yb_o a o m) (yb_o a o (3 - m)) s (3 * i + j)) (S := gm_acc (yb_o a o m) (yb_o a o (3 - m)) s (3 * i + j)) (p := yb_o a o m) (q := yb_o a o (3 - m)) (z5 := (i : Int) - 1) (z6 := (j : Int) - 1) ho hs (by omega) d1.symm d2.symm (by
          have := ih n (j + 1) (by omega) (by omega)
          rw [← ej] at this
          exact this) (gm_k (yb_o a o m) (yb_o a o (3 - m)) s (3 * i + j)) 8 0 (s : Int) (by omega) (by omega) wy_tt0
        rw [zi_n, yb_we (T := gm_acc (yb_o a o m) (yb_o a o (3 - m)) s (3 * i + j)) (fun k => by show (gm_acc (yb_o a o m) (yb_o a o (3 - m)) s (3 * i + j) k || false) = _; rw [Bool.or_false])] at hh
        exact hh
      refine br_c (fun z1 => br_c (fun z2 => ?_) (fun z2 => step (fun h4 => z2 ?_))) (fun z1 => step (fun h4 => z1 ?_))
      · rw [zn_eq0 (by omega) (by omega)] at z1 z2
        have e1 : i = 1 := by omega
        have e2 : j = 1 := by omega
        subst e1 e2
        refine nm_r ((zn_1 _).trans (by rw [ej])) ?_
        have hh := ih n 2 (by omega) (by omega)
        rw [yb_we (T := gm_acc (yb_o a o m) (yb_o a o (3 - m)) s (3 * 1 + 1)) (fun k => gm_acc_4 _ _ _ _)] at hh
        exact hh
      · rw [zn_eq0 (by omega) (by omega)]; omega
      · rw [zn_eq0 (by omega) (by omega)]; omega
theorem wy_fl_o {post : Int32 → SY → Prop} {sd hb sv pl : Int32} {a ds ph nx be pv : Nat → Int32} {m : Int32} {o s : Nat} (hm : yb_s m) (ho : o + 64 ≤ 1024) (hs : s < 64) (h : post (nI (gm_sum (yb_o a o m) (yb_o a o (3 - m)) s 9)) (sd, hb, sv, pl, yb_w a o m (gm_g (yb_o a o m) (yb_o a o (3 - m)) s), ds, ph, nx, be, pv)) : ∀ (f n i : Nat), i + f = 3 → f < n → wY_flipAt_6 post (nI o) (nI s) m sd hb sv pl n (nI (gm_sum (yb_o a o m) (yb_o a o (3 - m)) s (3 * i))) (zi_z ((i : Int) - 1)) (yb_w a o m (gm_acc (yb_o a o m) (yb_o a o (3 - m)) s (3 * i))) ds ph nx be pv := by
  intro f
  induction f with
  | zero =>
    intro n i hi hn
    cases n with
    | zero => omega
    | succ n =>
      have e : i = 3 := by omega
      subst e
      refine br_t ((zn_gt1 (by omega) (by omega)).mpr (by omega)) ?_
      rw [nI_add, nI_clamp (by omega)]
      exact ⟨vp_in_nI (by omega) (by decide), nm_r (yb_wu _ _ _ _ _) h⟩
  | succ f ih =>
    intro n i hi hn
    cases n with
    | zero => omega
    | succ n =>
      refine br_f (fun z => by rw [zn_gt1 (by omega) (by omega)] at z; omega) ⟨4, ?_⟩
      refine wy_fl_i hm ho hs (show i < 3 by omega) ?_ 3 4 0 (by omega) (by omega)
      have := ih n (i + 1) (by omega) (by omega)
      rw [show ((i + 1 : Nat) : Int) - 1 = (i : Int) by omega] at this
      exact this
theorem wy_flip {post : Int32 → SY → Prop} {sd hb sv pl : Int32} {a ds ph nx be pv : Nat → Int32} {m : Int32} {o s : Nat} (hm : yb_s m) (ho : o + 64 ≤ 1024) (hs : s < 64) (h : post (nI (gm_sum (yb_o a o m) (yb_o a o (3 - m)) s 9)) (sd, hb, sv, pl, yb_w a o m (gm_g (yb_o a o m) (yb_o a o (3 - m)) s), ds, ph, nx, be, pv)) : wpY_flipAt post (sd, hb, sv, pl, a, ds, ph, nx, be, pv) (nI o) (nI s) m := by
  unfold wpY_flipAt
  dsimp only
  refine ⟨4, ?_⟩
  have hh := wy_fl_o hm ho hs h 3 4 0 (by omega) (by omega)
  rw [yb_we (T := fun _ => false) (fun k => by rfl), yb_w0] at hh
  exact hh
theorem gy_mv {a : Nat → Int32} {m : Int32} {o s : Nat} (hm : yb_s m) (hs : s < 64) (hT : gy_T a o) : gm_np (yb_o a o m) (yb_o a o (3 - m)) s = yb_o (yb_w a o m (gm_g (yb_o a o m) (yb_o a o (3 - m)) s)) o (3 - m) ∧ gm_nq (yb_o a o m) (yb_o a o (3 - m)) s = yb_o (yb_w a o m (gm_g (yb_o a o m) (yb_o a o (3 - m)) s)) o (3 - (3 - m)) ∧ gy_T (yb_w a o m (gm_g (yb_o a o m) (yb_o a o (3 - m)) s)) o := by
  refine ⟨funext (fun j => (yb_wp (yb_3 hm).2.2 j).symm), ?_, ?_⟩
  · rw [(yb_3 hm).2.1]
    exact funext (fun j => (yb_wo (gm_g_b hs) j).symm)
  · intro j hj
    unfold yb_w
    by_cases e : o ≤ o + j ∧ gm_g (yb_o a o m) (yb_o a o (3 - m)) s (o + j - o) = true
    · rw [if_pos e]
      rcases hm with rfl | rfl
      · exact Or.inr (Or.inl rfl)
      · exact Or.inr (Or.inr rfl)
    · rw [if_neg e]
      exact hT j hj
end
section
/-! the reference's search -/
def wy_L (post : Int32 → SY → Prop) (b0 : Nat) (sd hb sv pl : Int32) (pv : Nat → Int32) (c : gy_C) : Prop := ∀ n : Nat, 2000000 < n + c.1 → wY_negamax_17 post (nI b0) n (nI c.2.1) c.2.2.1 c.2.2.2.1 (nI c.1) sd hb sv pl c.2.2.2.2.1 c.2.2.2.2.2.1 c.2.2.2.2.2.2.1 c.2.2.2.2.2.2.2.1 c.2.2.2.2.2.2.2.2 pv
theorem zn_64m (d : Nat) : 64 * nI d = nI (64 * d) := by rw [show (64 : Int32) = nI 64 from rfl, pk_mul]
theorem wy_LO (post : Int32 → SY → Prop) (b0 : Nat) (sd hb sv pl : Int32) (pv : Nat → Int32) : gy_LO (wy_L post b0 sd hb sv pl pv) := by
  rintro s d r ⟨a, ds, ph, nx, be⟩ P Q hs hd ⟨hm, rfl, rfl, hT⟩ hp h1 h2 hL n hn
  dsimp only at hm hT hp h1 h2 hn
  cases n with
  | zero => omega
  | succ n =>
    have hc : (nI d).toNatClampNeg = d := nI_clamp (by omega)
    have hi : vp_in (nI d) 16 := vp_in_nI (by omega) (by decide)
    show wY_negamax_17 post (nI b0) (n + 1) (nI d) 0 r (nI s) sd hb sv pl a ds ph nx be pv
    refine pk_le 2000000 s (fun z => by omega) (fun _ => br_t rfl (nm_r (zn_64m d) ⟨hi, ?_⟩))
    rw [hc]
    refine nm_e ⟨hi, br_t hp (wy_over hm (by omega) hT (fun _ _ => br_f (by decide) (wy_df hm (by omega) (nm_r (nI_1 s) ?_))) (fun z => ?_))⟩
    · exact hL n (by show 2000000 < n + (s + 1); omega)
    · rcases z with z | z
      · rw [h1] at z; cases z
      · rw [h2] at z; cases z
theorem wy_LS (post : Int32 → SY → Prop) (b0 : Nat) (sd hb sv pl : Int32) (pv : Nat → Int32) : gy_LS (wy_L post b0 sd hb sv pl pv) := by
  rintro s d r ⟨a, ds, ph, nx, be⟩ P Q hs hd ⟨hm, rfl, rfl, hT⟩ hp h1 hL n hn
  dsimp only at hm hT hp h1 hn
  cases n with
  | zero => omega
  | succ n =>
    have hc : (nI d).toNatClampNeg = d := nI_clamp (by omega)
    have hi : vp_in (nI d) 16 := vp_in_nI (by omega) (by decide)
    show wY_negamax_17 post (nI b0) (n + 1) (nI d) 0 r (nI s) sd hb sv pl a ds ph nx be pv
    refine pk_le 2000000 s (fun z => by omega) (fun _ => br_t rfl (nm_r (zn_64m d) ⟨hi, ?_⟩))
    rw [hc]
    refine nm_e ⟨hi, br_t hp (wy_over hm (by omega) hT (fun z _ => ?_) (fun _ => br_t rfl (br_t (by rw [nI_1]; exact nI_lt (b := 16) (by omega) (by decide)) (wy_hm hm (by omega) hT (fun _ => br_f (by decide) ⟨hi, nm_e ⟨hi, nm_e ⟨hi, nm_e (nm_r (nI_1 s) ?_)⟩⟩⟩) (fun z => ?_)))))⟩
    · rw [h1] at z; cases z
    · refine hL (a, ds, upd ph d 1, upd nx d 0, upd be d (-1000)) r ⟨fun _ _ => rfl, fun _ _ => rfl, fun i hi' => ⟨pk_un (by omega), pk_un (by omega), pk_un (by omega)⟩⟩ pk_us pk_us ?_ n (by show 2000000 < n + (s + 1); omega)
      show upd be d (-1000) d = zi_z (-1000)
      rw [pk_us]
      decide
    · rw [h1] at z; cases z
theorem gy_cpb {a a' : Nat → Int32} {d : Nat} {m : Int32} (h : ∀ j, j < 64 → a' (64 * (d + 1) + j) = a (64 * d + j)) : yb_o a' (64 * (d + 1)) m = yb_o a (64 * d) m := yb_oe h
theorem wy_LP (post : Int32 → SY → Prop) (b0 : Nat) (sd hb sv pl : Int32) (pv : Nat → Int32) : gy_LP (wy_L post b0 sd hb sv pl pv) := by
  rintro s d r ⟨a, ds, ph, nx, be⟩ P Q hs hd ⟨hm, rfl, rfl, hT⟩ hp h1 h2 hL n hn
  dsimp only at hm hT hp h1 h2 hn
  cases n with
  | zero => omega
  | succ n =>
    have hc : (nI d).toNatClampNeg = d := nI_clamp (by omega)
    have hc1 : (nI (d + 1)).toNatClampNeg = d + 1 := nI_clamp (by omega)
    have hi : vp_in (nI d) 16 := vp_in_nI (by omega) (by decide)
    have hi1 : vp_in (nI (d + 1)) 16 := vp_in_nI (by omega) (by decide)
    show wY_negamax_17 post (nI b0) (n + 1) (nI d) 0 r (nI s) sd hb sv pl a ds ph nx be pv
    refine pk_le 2000000 s (fun z => by omega) (fun _ => br_t rfl (nm_r (zn_64m d) ⟨hi, ?_⟩))
    rw [hc, nI_1 d, hc1]
    refine nm_e ⟨hi, br_t hp (wy_over hm (by omega) hT (fun _ z => ?_) (fun _ => br_t rfl (br_t (nI_lt (b := 16) (by omega) (by decide)) (wy_hm hm (by omega) hT (fun z => ?_) (fun _ => br_t rfl (wy_cp (by omega) (by omega) (by omega) (fun a' g1 g2 => ⟨hi1, nm_e ⟨hi, nm_e (nm_e ⟨hi1, ?_⟩)⟩⟩)))))))⟩
    · rw [h2] at z; cases z
    · rw [h1] at z; cases z
    · rw [hc1]
      refine nm_e (nm_r (nI_1 s) ?_)
      refine hL (a', upd ds (d + 1) (3 - ds d), upd (upd ph d 2) (d + 1) 0, nx, be) r ⟨fun x hx => g2 x (Or.inl hx), fun i hi' => pk_un (by omega), fun i hi' => ⟨?_, rfl, rfl⟩⟩ ?_ ⟨?_, ?_, ?_, ?_⟩ pk_us n (by show 2000000 < n + (s + 1); omega)
      · show upd (upd ph d 2) (d + 1) 0 i = ph i
        rw [pk_un (by omega), pk_un (by omega)]
      · show upd (upd ph d 2) (d + 1) 0 d = 2
        rw [pk_un (by omega), pk_us]
      · show yb_s (upd ds (d + 1) (3 - ds d) (d + 1))
        rw [pk_us]
        exact (yb_3 hm).1
      · show yb_o a (64 * d) (3 - ds d) = yb_o a' (64 * (d + 1)) (upd ds (d + 1) (3 - ds d) (d + 1))
        rw [pk_us, gy_cpb g1]
      · show yb_o a (64 * d) (ds d) = yb_o a' (64 * (d + 1)) (3 - upd ds (d + 1) (3 - ds d) (d + 1))
        rw [pk_us, (yb_3 hm).2.1, gy_cpb g1]
      · intro j hj
        show a' (64 * (d + 1) + j) = 0 ∨ a' (64 * (d + 1) + j) = 1 ∨ a' (64 * (d + 1) + j) = 2
        rw [g1 j hj]
        exact hT j hj
theorem wy_sc {post : Int32 → SY → Prop} {J17 : Int32 → Int32 → Int32 → Int32 → Int32 → Int32 → Int32 → Int32 → (Nat → Int32) → (Nat → Int32) → (Nat → Int32) → (Nat → Int32) → (Nat → Int32) → (Nat → Int32) → Prop} {sd hb sv pl : Int32} {a ds ph nx be pv : Nat → Int32} {x1 x2 x3 x4 x5 m : Int32} {o y : Nat} (hm : yb_s m) (ho : o + 64 ≤ 1024) (hT : gy_T a o) (hy : y ≤ 64) (hly : y < 64 → gm_lg (yb_o a o m) (yb_o a o (3 - m)) y = true) (h : wY_negamax_277 post J17 x1 x2 x3 x4 x5 (nI o) m (nI y) sd hb sv pl a ds ph nx be pv) : ∀ (f n u k : Nat), u + f = y → k + f ≤ 64 → f < n → (∀ j, u ≤ j → j < y → gm_lg (yb_o a o m) (yb_o a o (3 - m)) j = false) → wY_negamax_241 post J17 x1 x2 x3 x4 x5 (nI o) m sd hb sv pl a ds ph nx be pv n (nI u) (nI k) := by
  intro f
  induction f with
  | zero =>
    intro n u k hu hk hn hg
    cases n with
    | zero => omega
    | succ n =>
      have e : u = y := by omega
      subst e
      refine br_c (fun _ => h) (fun _ => pk_le 64 u (fun _ => h) (fun z => wy_lg hm ho hT z (fun _ => br_f (by decide) h) (fun q => ?_)))
      rw [hly z] at q
      cases q
  | succ f ih =>
    intro n u k hu hk hn hg
    cases n with
    | zero => omega
    | succ n =>
      refine pk_le 64 k (fun z => by omega) (fun _ => pk_le 64 u (fun z => by omega) (fun z => wy_lg hm ho hT z (fun q => ?_) (fun _ => br_t rfl (nm_r (nI_1 u) (nm_r (nI_1 k) ?_)))))
      · rw [hg u (by omega) (by omega)] at q
        cases q
      · exact ih n (u + 1) (k + 1) (by omega) (by omega) (by omega) (fun j a b => hg j (by omega) b)
theorem wy_LM (post : Int32 → SY → Prop) (b0 : Nat) (sd hb sv pl : Int32) (pv : Nat → Int32) : gy_LM (wy_L post b0 sd hb sv pl pv) := by
  rintro s d u x r ⟨a, ds, ph, nx, be⟩ P Q hs hd ⟨hm, rfl, rfl, hT⟩ hp hx8 hu hx hlx hg hL n hn
  dsimp only at hm hT hp hx8 hlx hg hn
  cases n with
  | zero => omega
  | succ n =>
    have hc : (nI d).toNatClampNeg = d := nI_clamp (by omega)
    have hc1 : (nI (d + 1)).toNatClampNeg = d + 1 := nI_clamp (by omega)
    have hi : vp_in (nI d) 16 := vp_in_nI (by omega) (by decide)
    have hi1 : vp_in (nI (d + 1)) 16 := vp_in_nI (by omega) (by decide)
    have e64 : nI (64 * d) + 64 = nI (64 * (d + 1)) := by
      rw [show (64 : Int32) = nI 64 from rfl, nI_add]
      congr 1
    show wY_negamax_17 post (nI b0) (n + 1) (nI d) 0 r (nI s) sd hb sv pl a ds ph nx be pv
    refine pk_le 2000000 s (fun z => by omega) (fun _ => br_t rfl (nm_r (zn_64m d) ⟨hi, ?_⟩))
    rw [hc]
    refine nm_e ⟨hi, br_f (by rw [hp]; decide) ⟨hi, nm_r hx8 ⟨65, ?_⟩⟩⟩
    refine wy_sc hm (by omega) hT (y := x) (by omega) (fun _ => hlx) ?_ (x - u) 65 u 0 (by omega) (by omega) (by omega) hg
    unfold wY_negamax_277
    refine pk_lt x 64 (fun _ => ⟨hi, ?_⟩) (fun z => by omega)
    rw [hc, nI_1 d, hc1, nI_1 x, e64]
    refine nm_e (wy_cp (by omega) (by omega) (by omega) (fun a' g1 g2 => ?_))
    have hT' : gy_T a' (64 * (d + 1)) := fun j hj => by rw [g1 j hj]; exact hT j hj
    refine wy_flip hm (by omega) hx ⟨hi1, nm_e (nm_e ⟨hi1, ?_⟩)⟩
    rw [hc1]
    refine nm_e (nm_r (nI_1 s) ?_)
    obtain ⟨v1, v2, v3⟩ := gy_mv (a := a') (m := ds d) (o := 64 * (d + 1)) (s := x) hm hx hT'
    rw [gy_cpb g1, gy_cpb g1] at v1 v2 v3 ⊢
    refine hL (yb_w a' (64 * (d + 1)) (ds d) (gm_g (yb_o a (64 * d) (ds d)) (yb_o a (64 * d) (3 - ds d)) x), upd ds (d + 1) (3 - ds d), upd ph (d + 1) 0, upd nx d (nI (x + 1)), be) r ⟨fun y hy => ?_, fun i hi' => pk_un (by omega), fun i hi' => ⟨pk_un (by omega), pk_un (by omega), rfl⟩⟩ ?_ pk_us rfl ⟨?_, ?_, ?_, v3⟩ pk_us n (by show 2000000 < n + (s + 1); omega)
    · show yb_w a' (64 * (d + 1)) (ds d) _ y = a y
      rw [yb_wl (gm_g_b hx) (Or.inl hy)]
      exact g2 y (Or.inl hy)
    · show upd ph (d + 1) 0 d = 1
      rw [pk_un (by omega)]
      exact hp
    · show yb_s (upd ds (d + 1) (3 - ds d) (d + 1))
      rw [pk_us]
      exact (yb_3 hm).1
    · show gm_np _ _ x = yb_o _ (64 * (d + 1)) (upd ds (d + 1) (3 - ds d) (d + 1))
      rw [pk_us]
      exact v1
    · show gm_nq _ _ x = yb_o _ (64 * (d + 1)) (3 - upd ds (d + 1) (3 - ds d) (d + 1))
      rw [pk_us]
      exact v2
theorem wy_LE (post : Int32 → SY → Prop) (b0 : Nat) (sd hb sv pl : Int32) (pv : Nat → Int32) : gy_LE (wy_L post b0 sd hb sv pl pv) := by
  rintro s d u r ⟨a, ds, ph, nx, be⟩ P Q hs hd ⟨hm, rfl, rfl, hT⟩ hp hx8 hu hg hL n hn
  dsimp only at hm hT hp hx8 hg hn
  cases n with
  | zero => omega
  | succ n =>
    have hc : (nI d).toNatClampNeg = d := nI_clamp (by omega)
    have hi : vp_in (nI d) 16 := vp_in_nI (by omega) (by decide)
    show wY_negamax_17 post (nI b0) (n + 1) (nI d) 0 r (nI s) sd hb sv pl a ds ph nx be pv
    refine pk_le 2000000 s (fun z => by omega) (fun _ => br_t rfl (nm_r (zn_64m d) ⟨hi, ?_⟩))
    rw [hc]
    refine nm_e ⟨hi, br_f (by rw [hp]; decide) ⟨hi, nm_r hx8 ⟨65, ?_⟩⟩⟩
    refine wy_sc hm (by omega) hT (y := 64) (by omega) (fun z => by omega) ?_ (64 - u) 65 u 0 (by omega) (by omega) (by omega) hg
    unfold wY_negamax_277
    refine pk_lt 64 64 (fun z => by omega) (fun _ => ⟨hi, ?_⟩)
    rw [hc]
    exact nm_e (nm_r (nI_1 s) (hL n (by show 2000000 < n + (s + 1); omega)))
theorem wy_LR (post : Int32 → SY → Prop) (b0 : Nat) (sd hb sv pl : Int32) (pv : Nat → Int32) : gy_LR b0 (wy_L post b0 sd hb sv pl pv) := by
  rintro s d r ⟨a, ds, ph, nx, be⟩ hs hd hb0 hp hL n hn
  dsimp only at hp hn
  cases n with
  | zero => omega
  | succ n =>
    have hc : (nI d).toNatClampNeg = d := nI_clamp (by omega)
    have hi : vp_in (nI d) 16 := vp_in_nI (by omega) (by decide)
    show wY_negamax_17 post (nI b0) (n + 1) (nI (d + 1)) 1 r (nI s) sd hb sv pl a ds ph nx be pv
    refine pk_le 2000000 s (fun z => by omega) (fun _ => br_f (by decide) (br_f (by rw [nI_eq (by omega) (by omega)]; omega) (nm_r (pk_m1 d) ⟨hi, ?_⟩)))
    rw [hc]
    refine br_f (by rw [hp]; decide) ⟨hi, br_c (fun z => nm_r (nI_1 s) ?_) (fun z => ⟨hi, nm_e (nm_r (nI_1 s) ?_)⟩)⟩
    · exact hL (a, ds, ph, nx, be) (gy_ag_r _ _) hp rfl (if_neg (Int32.not_lt.mpr z)).symm r n (by show 2000000 < n + (s + 1); omega)
    · refine hL (a, ds, ph, nx, upd be d (-r)) ⟨fun _ _ => rfl, fun _ _ => rfl, fun i hi' => ⟨rfl, rfl, pk_un (by omega)⟩⟩ hp rfl ?_ r n (by show 2000000 < n + (s + 1); omega)
      show upd be d (-r) d = if be d < -r then -r else be d
      rw [pk_us, if_pos (Int32.not_le.mp z)]
theorem wy_LQ (post : Int32 → SY → Prop) (b0 : Nat) (sd hb sv pl : Int32) (pv : Nat → Int32) : gy_LQ b0 (wy_L post b0 sd hb sv pl pv) := by
  rintro s d r ⟨a, ds, ph, nx, be⟩ hs hd hb0 hp hL n hn
  dsimp only at hp hn
  cases n with
  | zero => omega
  | succ n =>
    have hc : (nI d).toNatClampNeg = d := nI_clamp (by omega)
    have hi : vp_in (nI d) 16 := vp_in_nI (by omega) (by decide)
    show wY_negamax_17 post (nI b0) (n + 1) (nI (d + 1)) 1 r (nI s) sd hb sv pl a ds ph nx be pv
    refine pk_le 2000000 s (fun z => by omega) (fun _ => br_f (by decide) (br_f (by rw [nI_eq (by omega) (by omega)]; omega) (nm_r (pk_m1 d) ⟨hi, ?_⟩)))
    rw [hc]
    exact br_t hp (nm_e (nm_r (nI_1 s) (hL n (by show 2000000 < n + (s + 1); omega))))
theorem wy_neg {post : Int32 → SY → Prop} {sd hb sv pl : Int32} {a ds ph nx be pv : Nat → Int32} {b0 : Nat} {P Q : Nat → Bool} (hb2 : b0 ≤ 2) (hbd : gy_bd (a, ds, ph, nx, be) b0 P Q) (he6 : gm_e P Q ≤ 6) (h : ∀ A' : gy_A, gy_ag b0 (a, ds, ph, nx, be) A' → post (zi_z (gm_W P Q)) (sd, hb, sv, pl, A'.1, A'.2.1, A'.2.2.1, A'.2.2.2.1, A'.2.2.2.2, pv)) : wpY_negamax post (sd, hb, sv, pl, a, ds, ph, nx, be, pv) (nI b0) := by
  have hc : (nI b0).toNatClampNeg = b0 := nI_clamp (by omega)
  have hi : vp_in (nI b0) 16 := vp_in_nI (by omega) (by decide)
  have hA := gs_A_m he6
  unfold wpY_negamax
  dsimp only
  rw [hc]
  refine ⟨hi, nm_e ⟨2000001, ?_⟩⟩
  have hr := gs_run (gy_R (wy_LO post b0 sd hb sv pl pv) (wy_LS post b0 sd hb sv pl pv) (wy_LM post b0 sd hb sv pl pv) (wy_LE post b0 sd hb sv pl pv) (wy_LP post b0 sd hb sv pl pv) (wy_LR post b0 sd hb sv pl pv) (wy_LQ post b0 sd hb sv pl pv)) (gm_e P Q) (0, b0, 0, 0, a, ds, upd ph b0 0, nx, be) 0 b0 P Q rfl ⟨rfl, rfl, Nat.le_refl _, rfl, hbd, pk_us⟩ (by omega) (by omega) ?_
  · exact hr 2000001 (by show 2000000 < 2000001 + 0; omega)
  · rintro ⟨cs, cd, x3, x4, a', ds', ph', nx', be'⟩ s hs ha ⟨e1, e2, e3, e4⟩ n hn
    dsimp only at e1 e2 e3 e4 hn
    subst e1 e2 e3 e4
    cases n with
    | zero => omega
    | succ n =>
      show wY_negamax_17 post (nI cd) (n + 1) (nI cd) 1 (zi_z (gm_W P Q)) (nI cs) sd hb sv pl a' ds' ph' nx' be' pv
      refine pk_le 2000000 cs (fun z => by omega) (fun _ => br_f (by decide) (br_t rfl ?_))
      refine h (a', ds', ph', nx', be') ⟨ha.1, ha.2.1, fun i hi' => ?_⟩
      obtain ⟨k1, k2, k3⟩ := ha.2.2 i hi'
      exact ⟨k1.trans (pk_un (by omega)), k2, k3⟩
end
section
/-! the relation and the methods that need no search -/
def rl_R (b w : Int64) (sd he hv hl : Int32) (ln : Nat → Int32) (sd' hb sv pl : Int32) (a pv : Nat → Int32) : Prop := rb_R b w a ∧ sd' = sd ∧ yb_s sd ∧ hb = he ∧ (he = 0 ∨ (he = 1 ∧ sv = hv ∧ ∃ l : Nat, l ≤ 12 ∧ hl = nI l ∧ pl = nI l ∧ ∀ k, k < l → pv k = ln k))
def i_Rel (_ : Nat) (u : SX) (v : SY) : Prop := rl_R u.1 u.2.1 u.2.2.1 u.2.2.2.1 u.2.2.2.2.1 u.2.2.2.2.2.1 u.2.2.2.2.2.2.1 v.1 v.2.1 v.2.2.1 v.2.2.2.1 v.2.2.2.2.1 v.2.2.2.2.2.2.2.2.2
theorem i_up {k : Nat} {u : SX} {v : SY} (h : i_Rel k u v) : i_Rel (k + 4) u v := h
theorem wy_rs_l {post : SY → Prop} {sd hb sv pl : Int32} {a ds ph nx be pv : Nat → Int32} {x1 : Int32} (h0 : x1 = 0 → ∀ z : Nat → Int32, (∀ x, x < 64 → z x = 0) → post (1, 0, sv, pl, upd (upd (upd (upd z 27 2) 36 2) 28 1) 35 1, ds, ph, nx, be, pv)) (h1 : ¬ x1 = 0 → ∀ z : Nat → Int32, (∀ x, x < 64 → z x = 0) → post (1, 0, sv, pl, z, ds, ph, nx, be, pv)) : ∀ (n i : Nat) (z : Nat → Int32), i ≤ 64 → 64 < n + i → (∀ x, x < i → z x = 0) → wY_reset_2 post x1 sd hb sv pl n (nI i) z ds ph nx be pv := by
  intro n
  induction n with
  | zero => intro i z hi hn _; omega
  | succ n ih =>
    intro i z hi hn hz
    refine pk_le 64 i (fun y => ?_) (fun y => ?_)
    · have hz' : ∀ x, x < 64 → z x = 0 := fun x hx => hz x (by omega)
      exact br_c (fun q => nm_e (nm_e (nm_e (nm_e (h0 q z hz'))))) (fun q => h1 q z hz')
    · rw [nI_clamp (by omega)]
      refine ⟨vp_in_nI (by omega) (by decide), nm_e (nm_r (nI_1 i) ?_)⟩
      refine ih (i + 1) _ (by omega) (by omega) (fun x hx => ?_)
      by_cases e : x = i
      · rw [e, pk_us]
      · rw [pk_un e]
        exact hz x (by omega)
theorem wy_rs {post : SY → Prop} {sd hb sv pl : Int32} {a ds ph nx be pv : Nat → Int32} {x1 : Int32} (h0 : x1 = 0 → ∀ z : Nat → Int32, (∀ x, x < 64 → z x = 0) → post (1, 0, sv, pl, upd (upd (upd (upd z 27 2) 36 2) 28 1) 35 1, ds, ph, nx, be, pv)) (h1 : ¬ x1 = 0 → ∀ z : Nat → Int32, (∀ x, x < 64 → z x = 0) → post (1, 0, sv, pl, z, ds, ph, nx, be, pv)) : wpY_reset post (sd, hb, sv, pl, a, ds, ph, nx, be, pv) x1 := by
  unfold wpY_reset
  exact ⟨65, wy_rs_l (a := a) h0 h1 65 0 a (by omega) (by omega) (fun x hx => by omega)⟩
theorem rb_z {z : Nat → Int32} (h : ∀ x, x < 64 → z x = 0) {m : Int32} (hm : ¬ (0 : Int32) = m) (j : Nat) : yb_o z 0 m j = false := by
  unfold yb_o
  apply decide_eq_false
  rintro ⟨h1, h2⟩
  rw [Nat.zero_add, h j h1] at h2
  exact hm h2
theorem rb_c1 : ∀ j, j < 64 → xb_t 34628173824 j = (decide (j = 28) || decide (j = 35)) := by decide +kernel
theorem rb_c2 : ∀ j, j < 64 → xb_t 68853694464 j = (decide (j = 27) || decide (j = 36)) := by decide +kernel
theorem rb_0 {z : Nat → Int32} (h : ∀ x, x < 64 → z x = 0) : rb_R 0 0 z := by
  refine ⟨?_, ?_, fun j hj => Or.inl (h j hj)⟩
  · funext j
    rw [xb_0, rb_z h (by decide)]
  · funext j
    rw [xb_0, rb_z h (by decide)]
theorem rb_st {z : Nat → Int32} (h : ∀ x, x < 64 → z x = 0) : rb_R 34628173824 68853694464 (upd (upd (upd (upd z 27 2) 36 2) 28 1) 35 1) := by
  refine ⟨?_, ?_, ?_⟩
  · apply xb_fun (fun j hj => yb_ob hj)
    intro j hj
    rw [rb_c1 j hj, rb_upd (by omega), rb_upd (by omega), rb_upd (by omega), rb_upd (by omega), rb_z h (by decide)]
    by_cases e1 : j = 35
    · simp [e1]
    · by_cases e2 : j = 28
      · simp [e2]
      · by_cases e3 : j = 36
        · simp [e3]
        · by_cases e4 : j = 27
          · simp [e4]
          · simp [e1, e2, e3, e4]
  · apply xb_fun (fun j hj => yb_ob hj)
    intro j hj
    rw [rb_c2 j hj, rb_upd (by omega), rb_upd (by omega), rb_upd (by omega), rb_upd (by omega), rb_z h (by decide)]
    by_cases e1 : j = 35
    · simp [e1]
    · by_cases e2 : j = 28
      · simp [e2]
      · by_cases e3 : j = 36
        · simp [e3]
        · by_cases e4 : j = 27
          · simp [e4]
          · simp [e1, e2, e3, e4]
  · exact rb_tri (rb_tri (rb_tri (rb_tri (fun j hj => Or.inl (h j hj)) (Or.inr (Or.inr rfl))) (Or.inr (Or.inr rfl))) (Or.inr (Or.inl rfl))) (Or.inr (Or.inl rfl))
theorem i_vc0 : wpX_init (fun u => wpY_init (fun v => i_Rel 0 u v)) := by
  unfold wpX_init wpX_startWith
  dsimp only
  unfold wpY_init
  refine wy_rs (fun _ z hz => ?_) (fun h => absurd rfl h)
  exact ⟨rb_st hz, rfl, Or.inl rfl, rfl, Or.inl rfl⟩
theorem i_vc_reset {k : Nat} {u : SX} {v : SY} (I : i_Rel k u v) (hk : k + 4 ≤ 2048) (v1 : Int32) : wpX_reset (fun u' => wpY_reset (fun v' => i_Rel (k + 4) u' v') v v1) u v1 := by
  obtain ⟨b, w, sd, he, hv, hl, ln, ow, op, un, pa, ty, bm, be⟩ := u
  obtain ⟨sd2, hb, sv, pl, a, ds, ph, nx, be2, pv⟩ := v
  unfold wpX_reset wpX_startWith
  dsimp only
  refine br_c (fun z => wy_rs (fun _ y hy => ?_) (fun h => absurd z h)) (fun z => wy_rs (fun h => absurd h z) (fun _ y hy => ?_))
  · exact ⟨rb_st hy, rfl, Or.inl rfl, rfl, Or.inl rfl⟩
  · exact ⟨rb_0 hy, rfl, Or.inl rfl, rfl, Or.inl rfl⟩
theorem zn_big {x : Int32} (h : nI 64 ≤ x) : ¬ x < 0 ∧ ¬ x ≤ 63 := ⟨fun z => absurd (Int32.lt_of_le_of_lt h z) (by decide), fun z => absurd (Int32.le_trans h z) (by decide)⟩
theorem wx_onb {post : Int32 → Prop} {s : Nat} (hs : s < 64) (h : post 1) : wpX_isOnBoard post (nI s) := br_f (nI_pos (by omega)) (pk_le 64 s (fun z => by omega) (fun _ => h))
theorem wx_offb {post : Int32 → Prop} {x : Int32} (hx : x < 0 ∨ nI 64 ≤ x) (h : post 0) : wpX_isOnBoard post x := br_c (fun _ => h) (fun z => br_t (hx.elim (fun q => absurd q z) id) h)
theorem wy_off {A B : Prop} {x : Int32} (hx : x < 0 ∨ nI 64 ≤ x) (h : A) : (x < 0 → A) ∧ (¬ x < 0 → ((x ≤ 63 → B) ∧ (¬ x ≤ 63 → A))) := br_c (fun _ => h) (fun z => br_f (fun y => (hx.elim (fun q => z q) (fun q => (zn_big q).2 y))) h)
theorem wy_on {A B C : Prop} {s : Nat} (hs : s < 64) (h : B) : (nI s < 0 → A) ∧ (¬ nI s < 0 → ((nI s ≤ 63 → B) ∧ (¬ nI s ≤ 63 → C))) := br_f (nI_pos (by omega)) (pk_le s 63 (fun _ => h) (fun z => by omega))
theorem i_vc_setSquare {k : Nat} {u : SX} {v : SY} (I : i_Rel k u v) (hk : k + 4 ≤ 2048) (v1 : Int32) (v2 : Int32) : wpX_setSquare (fun r u' => wpY_setSquare (fun r' v' => r' = r ∧ i_Rel (k + 4) u' v') v v1 v2) u v1 v2 := by
  obtain ⟨b, w, sd, he, hv, hl, ln, ow, op, un, pa, ty, bm, be⟩ := u
  obtain ⟨sd2, hb, sv, pl, a, ds, ph, nx, be2, pv⟩ := v
  have I0 := I
  obtain ⟨hR, rfl, hs, rfl, hh⟩ := I
  unfold wpX_setSquare wpY_setSquare
  dsimp only
  have hoff : v1 < 0 ∨ nI 64 ≤ v1 ∨ ∃ j : Nat, j < 64 ∧ v1 = nI j := pk_ix v1 (by decide)
  rcases hoff with h | h | ⟨s, hsq, rfl⟩
  · exact wx_offb (Or.inl h) (br_t rfl (wy_off (Or.inl h) ⟨rfl, I0⟩))
  · exact wx_offb (Or.inr h) (br_t rfl (wy_off (Or.inr h) ⟨rfl, I0⟩))
  · refine wx_onb hsq (br_f (by decide) ?_)
    have hc : (nI s).toNatClampNeg = s := nI_clamp (by omega)
    have hin : vp_in (nI s) 1024 := vp_in_nI (by omega) (by decide)
    have hb := xb_1 hsq
    obtain ⟨r1, r2, r3⟩ := hR
    unfold wX_setSquare_25 wX_setSquare_54 wY_setSquare_28
    rw [hc]
    refine br_c (fun z => ?_) (fun z => br_c (fun y => ?_) (fun y => br_c (fun q => ?_) (fun q => wy_on hsq (br_f z (br_f y (br_f q ⟨rfl, I0⟩))))))
    · subst z
      refine nm_e (br_f (by decide) (br_f (by decide) (nm_e (wy_on hsq (br_t rfl ⟨hin, nm_e ⟨rfl, ⟨?_, ?_, ?_⟩, rfl, hs, rfl, Or.inl rfl⟩⟩)))))
      · exact rb_out hsq r1 hb (by decide)
      · exact rb_out hsq r2 hb (by decide)
      · exact rb_tri r3 (Or.inl rfl)
    · subst y
      refine nm_e (br_t rfl (br_f (by decide) (nm_e (wy_on hsq (br_f (by decide) (br_t rfl ⟨hin, nm_e ⟨rfl, ⟨?_, ?_, ?_⟩, rfl, hs, rfl, Or.inl rfl⟩⟩))))))
      · exact rb_in hsq r1 hb rfl
      · exact rb_out hsq r2 hb (by decide)
      · exact rb_tri r3 (Or.inr (Or.inl rfl))
    · subst q
      refine nm_e (br_f (by decide) (br_t rfl (nm_e (wy_on hsq (br_f (by decide) (br_f (by decide) (br_t rfl ⟨hin, nm_e ⟨rfl, ⟨?_, ?_, ?_⟩, rfl, hs, rfl, Or.inl rfl⟩⟩)))))))
      · exact rb_out hsq r1 hb (by decide)
      · exact rb_in hsq r2 hb rfl
      · exact rb_tri r3 (Or.inr (Or.inr rfl))
theorem i_vc_setSideToMove {k : Nat} {u : SX} {v : SY} (I : i_Rel k u v) (hk : k + 4 ≤ 2048) (v1 : Int32) : wpX_setSideToMove (fun r u' => wpY_setSideToMove (fun r' v' => r' = r ∧ i_Rel (k + 4) u' v') v v1) u v1 := by
  obtain ⟨b, w, sd, he, hv, hl, ln, ow, op, un, pa, ty, bm, be⟩ := u
  obtain ⟨sd2, hb, sv, pl, a, ds, ph, nx, be2, pv⟩ := v
  have I0 := I
  obtain ⟨hR, rfl, hs, rfl, hh⟩ := I
  unfold wpX_setSideToMove wX_setSideToMove_12 wpY_setSideToMove wY_setSideToMove_12
  dsimp only
  refine br_c (fun z => br_t z ⟨rfl, hR, rfl, Or.inl z, rfl, Or.inl rfl⟩) (fun z => br_c (fun y => br_f z (br_t y ⟨rfl, hR, rfl, Or.inr y, rfl, Or.inl rfl⟩)) (fun y => br_f z (br_f y ⟨rfl, I0⟩)))
theorem i_vc_getSquare {k : Nat} {u : SX} {v : SY} (I : i_Rel k u v) (hk : k + 4 ≤ 2048) (v1 : Int32) : wpX_getSquare (fun r => wpY_getSquare (fun r' => r' = r ∧ i_Rel (k + 4) u v) v v1) u v1 := by
  obtain ⟨b, w, sd, he, hv, hl, ln, ow, op, un, pa, ty, bm, be⟩ := u
  obtain ⟨sd2, hb, sv, pl, a, ds, ph, nx, be2, pv⟩ := v
  have I0 := I
  obtain ⟨hR, rfl, hs, rfl, hh⟩ := I
  unfold wpX_getSquare wpY_getSquare
  dsimp only
  have hoff : v1 < 0 ∨ nI 64 ≤ v1 ∨ ∃ j : Nat, j < 64 ∧ v1 = nI j := pk_ix v1 (by decide)
  rcases hoff with h | h | ⟨s, hsq, rfl⟩
  · exact wx_offb (Or.inl h) (br_t rfl (wy_off (Or.inl h) ⟨rfl, I0⟩))
  · exact wx_offb (Or.inr h) (br_t rfl (wy_off (Or.inr h) ⟨rfl, I0⟩))
  · have hc : (nI s).toNatClampNeg = s := nI_clamp (by omega)
    have hin : vp_in (nI s) 1024 := vp_in_nI (by omega) (by decide)
    obtain ⟨g1, g2, g3⟩ := rb_get hR hsq
    rw [hc]
    refine wx_onb hsq (br_f (by decide) (wx_has _ hsq (fun z => br_t rfl (wx_has _ hsq (fun y => br_t rfl (wy_on hsq ⟨hin, g3 z y, I0⟩)) (fun y => br_f (by decide) (wy_on hsq ⟨hin, g2 z y, I0⟩)))) (fun z => br_f (by decide) (wy_on hsq ⟨hin, g1 z, I0⟩))))
theorem i_vc_sideToMove {k : Nat} {u : SX} {v : SY} (I : i_Rel k u v) (hk : k + 4 ≤ 2048) : wpX_sideToMove (fun r => wpY_sideToMove (fun r' => r' = r ∧ i_Rel (k + 4) u v) v) u := ⟨I.2.1, I⟩
theorem wy_ct_l {post : Int32 → Prop} {sd hb sv pl : Int32} {a ds ph nx be pv : Nat → Int32} {m : Int32} (h : post (nI (gm_cnt (yb_o a 0 m) 64))) : ∀ (n i : Nat), i ≤ 64 → 64 < n + i → wY_countDiscs_16 post m sd hb sv pl a ds ph nx be pv n (nI (gm_cnt (yb_o a 0 m) i)) (nI i) := by
  intro n
  induction n with
  | zero => intro i hi hn; omega
  | succ n ih =>
    intro i hi hn
    refine pk_le 64 i (fun z => ?_) (fun z => ?_)
    · have e : i = 64 := by omega
      subst e
      exact h
    · have hh := ih (i + 1) (by omega) (by omega)
      rw [nI_clamp (by omega)]
      refine ⟨vp_in_nI (by omega) (by decide), br_c (fun y => nm_r (nI_1 _) (nm_r (nI_1 i) ?_)) (fun y => nm_r (nI_1 i) ?_)⟩
      · rw [gm_cnt, if_pos ((yb_oi z).mpr (by rw [Nat.zero_add]; exact y))] at hh
        exact hh
      · rw [gm_cnt, if_neg (by rw [yb_oi z, Nat.zero_add]; exact y)] at hh
        exact hh
theorem wy_ct {post : Int32 → Prop} {sd hb sv pl : Int32} {a ds ph nx be pv : Nat → Int32} {m : Int32} (h : post (nI (gm_cnt (yb_o a 0 m) 64))) : ∃ n, wY_countDiscs_16 post m sd hb sv pl a ds ph nx be pv n 0 0 := ⟨65, wy_ct_l h 65 0 (by omega) (by omega)⟩
theorem i_vc_countDiscs {k : Nat} {u : SX} {v : SY} (I : i_Rel k u v) (hk : k + 4 ≤ 2048) (v1 : Int32) : wpX_countDiscs (fun r => wpY_countDiscs (fun r' => r' = r ∧ i_Rel (k + 4) u v) v v1) u v1 := by
  obtain ⟨b, w, sd, he, hv, hl, ln, ow, op, un, pa, ty, bm, be⟩ := u
  obtain ⟨sd2, hb, sv, pl, a, ds, ph, nx, be2, pv⟩ := v
  have I0 := I
  obtain ⟨⟨r1, r2, r3⟩, rfl, hs, rfl, hh⟩ := I
  replace r1 : xb_t b = yb_o a 0 1 := r1
  replace r2 : xb_t w = yb_o a 0 2 := r2
  unfold wpX_countDiscs wpY_countDiscs
  dsimp only
  refine br_c (fun z => wx_size _ (br_t z (wy_ct ⟨?_, I0⟩))) (fun z => br_c (fun y => wx_size _ (br_f z (br_t y (wy_ct ⟨?_, I0⟩)))) (fun y => br_f z (br_f y ⟨rfl, I0⟩)))
  · rw [r1, z]
  · rw [r2, y]
theorem i_vc_solvedValue {k : Nat} {u : SX} {v : SY} (I : i_Rel k u v) (hk : k + 4 ≤ 2048) : wpX_solvedValue (fun r => wpY_solvedValue (fun r' => r' = r ∧ i_Rel (k + 4) u v) v) u := by
  obtain ⟨b, w, sd, he, hv, hl, ln, ow, op, un, pa, ty, bm, be⟩ := u
  obtain ⟨sd2, hb, sv, pl, a, ds, ph, nx, be2, pv⟩ := v
  have I0 := I
  obtain ⟨hR, rfl, hs, rfl, hh⟩ := I
  unfold wpX_solvedValue wpY_solvedValue
  dsimp only at hh ⊢
  refine br_c (fun z => br_t z ⟨rfl, I0⟩) (fun z => br_f z ⟨?_, I0⟩)
  rcases hh with hh | ⟨_, h2, _⟩
  · exact absurd hh z
  · exact h2
theorem i_vc_pvLength {k : Nat} {u : SX} {v : SY} (I : i_Rel k u v) (hk : k + 4 ≤ 2048) : wpX_pvLength (fun r => wpY_pvLength (fun r' => r' = r ∧ i_Rel (k + 4) u v) v) u := by
  obtain ⟨b, w, sd, he, hv, hl, ln, ow, op, un, pa, ty, bm, be⟩ := u
  obtain ⟨sd2, hb, sv, pl, a, ds, ph, nx, be2, pv⟩ := v
  have I0 := I
  obtain ⟨hR, rfl, hs, rfl, hh⟩ := I
  unfold wpX_pvLength wpY_pvLength
  dsimp only at hh ⊢
  refine br_c (fun z => br_t z ⟨rfl, I0⟩) (fun z => br_f z ⟨?_, I0⟩)
  rcases hh with hh | ⟨_, _, l, _, h3, h4, _⟩
  · exact absurd hh z
  · rw [h3, h4]
theorem i_vc_pvMove {k : Nat} {u : SX} {v : SY} (I : i_Rel k u v) (hk : k + 4 ≤ 2048) (v1 : Int32) : wpX_pvMove (fun r => wpY_pvMove (fun r' => r' = r ∧ i_Rel (k + 4) u v) v v1) u v1 := by
  obtain ⟨b, w, sd, he, hv, hl, ln, ow, op, un, pa, ty, bm, be⟩ := u
  obtain ⟨sd2, hb, sv, pl, a, ds, ph, nx, be2, pv⟩ := v
  have I0 := I
  obtain ⟨hR, rfl, hs, rfl, hh⟩ := I
  unfold wpX_pvMove wpY_pvMove
  dsimp only at hh ⊢
  refine br_c (fun z => br_t z ⟨rfl, I0⟩) (fun z => ?_)
  rcases hh with hh | ⟨_, _, l, h2, h3, h4, h5⟩
  · exact absurd hh z
  · subst h3 h4
    refine br_c (fun y => br_f z (br_t y ⟨rfl, I0⟩)) (fun y => ?_)
    obtain ⟨j, hj, rfl⟩ := nI_of y
    refine pk_lt j l (fun q => ?_) (fun q => br_f z (br_f y (br_t (nI_le q (by omega)) ⟨rfl, I0⟩)))
    rw [nI_clamp (by omega)]
    exact ⟨vp_in_nI (by omega) (by decide), br_f z (br_f y (br_f (nI_ge q (by omega)) (pk_lt j 12 (fun _ => ⟨vp_in_nI (by omega) (by decide), h5 j q, I0⟩) (fun _ => by omega))))⟩
end
section
/-! the methods that need the rules of the game -/
theorem rl_T {b w : Int64} {a : Nat → Int32} (h : rb_R b w a) : gy_T a 0 := fun j hj => by rw [Nat.zero_add]; exact h.2.2 j hj
theorem wx_over {post : Int32 → Prop} {b w : Int64} {sd he hv hl : Int32} {ln : Nat → Int32} {ow op un : Nat → Int64} {pa ty bm be : Nat → Int32} {P Q : Nat → Bool} (h1 : xb_t b = P) (h2 : xb_t w = Q) (hy : gm_hm P Q = false → gm_hm Q P = false → post 1) (hn : gm_hm P Q = true ∨ gm_hm Q P = true → post 0) : wpX_isGameOver post (b, w, sd, he, hv, hl, ln, ow, op, un, pa, ty, bm, be) := by
  subst h1 h2
  unfold wpX_isGameOver
  dsimp only
  refine wx_moves (fun w1 g1 => br_c (fun z => wx_moves (fun w2 g2 => br_c (fun y => hy ((xb_hm g1).mp z) ((xb_hm g2).mp y)) (fun y => hn (Or.inr (gm_nf (fun q => y ((xb_hm g2).mpr q))))))) (fun z => hn (Or.inl (gm_nf (fun q => z ((xb_hm g1).mpr q))))))
theorem i_vc_isGameOver {k : Nat} {u : SX} {v : SY} (I : i_Rel k u v) (hk : k + 4 ≤ 2048) : wpX_isGameOver (fun r => wpY_isGameOver (fun r' => r' = r ∧ i_Rel (k + 4) u v) v) u := by
  obtain ⟨b, w, sd, he, hv, hl, ln, ow, op, un, pa, ty, bm, be⟩ := u
  obtain ⟨sd2, hb, sv, pl, a, ds, ph, nx, be2, pv⟩ := v
  have I0 := I
  obtain ⟨hR, rfl, hs, rfl, hh⟩ := I
  have hT := rl_T hR
  obtain ⟨r1, r2, r3⟩ := hR
  refine wx_over r1 r2 (fun z y => ?_) (fun z => ?_)
  · unfold wpY_isGameOver
    refine wy_over12 (o := 0) (by omega) hT (fun _ _ => ⟨rfl, rfl, I0⟩) (fun q => ?_)
    rcases q with q | q
    · rw [q] at z; cases z
    · rw [q] at y; cases y
  · unfold wpY_isGameOver
    refine wy_over12 (o := 0) (by omega) hT (fun q1 q2 => ?_) (fun q => ⟨rfl, rfl, I0⟩)
    rcases z with z | z
    · rw [q1] at z; cases z
    · rw [q2] at z; cases z
theorem rx_md {b w : Int64} {sd he hv hl : Int32} {ln : Nat → Int32} {ow op un : Nat → Int64} {pa ty bm be : Nat → Int32} {a : Nat → Int32} (hR : rb_R b w a) (hs : yb_s sd) : ∃ own opp : Int64, xb_t own = yb_o a 0 sd ∧ xb_t opp = yb_o a 0 (3 - sd) ∧ (∀ post : Int64 → Prop, post own → wpX_moverDiscs post (b, w, sd, he, hv, hl, ln, ow, op, un, pa, ty, bm, be)) ∧ (∀ post : Int64 → Prop, post opp → wpX_otherDiscs post (b, w, sd, he, hv, hl, ln, ow, op, un, pa, ty, bm, be)) ∧ ((sd = 1 ∧ own = b ∧ opp = w) ∨ (sd = 2 ∧ own = w ∧ opp = b)) := by
  obtain ⟨r1, r2, _⟩ := hR
  rcases hs with rfl | rfl
  · exact ⟨b, w, r1, r2, fun post h => br_t rfl h, fun post h => br_t rfl h, Or.inl ⟨rfl, rfl, rfl⟩⟩
  · exact ⟨w, b, r2, r1, fun post h => br_f (by decide) h, fun post h => br_f (by decide) h, Or.inr ⟨rfl, rfl, rfl⟩⟩
theorem i_vc_isLegal {k : Nat} {u : SX} {v : SY} (I : i_Rel k u v) (hk : k + 4 ≤ 2048) (v1 : Int32) : wpX_isLegal (fun r => wpY_isLegal (fun r' => r' = r ∧ i_Rel (k + 4) u v) v v1) u v1 := by
  obtain ⟨b, w, sd, he, hv, hl, ln, ow, op, un, pa, ty, bm, be⟩ := u
  obtain ⟨sd2, hb, sv, pl, a, ds, ph, nx, be2, pv⟩ := v
  have I0 := I
  obtain ⟨hR, rfl, hs, rfl, hh⟩ := I
  have hT := rl_T hR
  obtain ⟨own, opp, e1, e2, m1, m2, _⟩ := rx_md (sd := sd2) (he := hb) (hv := hv) (hl := hl) (ln := ln) (ow := ow) (op := op) (un := un) (pa := pa) (ty := ty) (bm := bm) (be := be) hR hs
  unfold wpX_isLegal wpY_isLegal
  dsimp only
  have hoff : v1 < 0 ∨ nI 64 ≤ v1 ∨ ∃ j : Nat, j < 64 ∧ v1 = nI j := pk_ix v1 (by decide)
  rcases hoff with h | h | ⟨s, hsq, rfl⟩
  · refine wx_offb (Or.inl h) (br_t rfl ?_)
    unfold wpY_legalAt
    exact wy_off (Or.inl h) ⟨rfl, rfl, I0⟩
  · refine wx_offb (Or.inr h) (br_t rfl ?_)
    unfold wpY_legalAt
    exact wy_off (Or.inr h) ⟨rfl, rfl, I0⟩
  · refine wx_onb hsq (br_f (by decide) (m1 _ (m2 _ (wx_flips hsq (fun x hx => br_c (fun z => ?_) (fun z => ?_))))))
    · refine wy_lg (o := 0) hs (by omega) hT hsq (fun q => ?_) (fun q => ⟨rfl, rfl, I0⟩)
      rw [← e1, ← e2] at q
      obtain ⟨j, hj⟩ := (gm_fl_i hsq).mp q
      rw [← hx j, z, xb_0] at hj
      cases hj
    · refine wy_lg (o := 0) hs (by omega) hT hsq (fun q => ⟨rfl, rfl, I0⟩) (fun q => ?_)
      obtain ⟨j, hj⟩ := xb_nz.mp z
      rw [hx j] at hj
      have := (gm_fl_i hsq).mpr ⟨j, hj⟩
      rw [e1, e2, q] at this
      cases this
theorem wy_lm_l {post : Int64 → Prop} {sd hb sv pl : Int32} {a ds ph nx be pv : Nat → Int32} (hm : yb_s sd) (hT : gy_T a 0) (h : ∀ w, (∀ j, xb_t w j = gm_lg (yb_o a 0 sd) (yb_o a 0 (3 - sd)) j) → post w) : ∀ (n i : Nat) (M : Int64), i ≤ 64 → 64 < n + i → (∀ j, xb_t M j = (decide (j < i) && gm_lg (yb_o a 0 sd) (yb_o a 0 (3 - sd)) j)) → wY_legalMask_4 post sd hb sv pl a ds ph nx be pv n M (nI i) := by
  intro n
  induction n with
  | zero => intro i M hi hn _; omega
  | succ n ih =>
    intro i M hi hn hM
    refine pk_le 64 i (fun z => h M (fun j => ?_)) (fun z => ?_)
    · rw [hM j]
      by_cases hj : j < i
      · rw [decide_eq_true hj, Bool.true_and]
      · rw [gm_lg_64 (show 64 ≤ j by omega), Bool.and_false]
    · refine wy_lg (o := 0) hm (by omega) hT z (fun hl => br_f (by decide) (nm_e (nm_r (nI_1 i) ?_))) (fun hl => br_t rfl (nm_r (nI_1 i) ?_))
      · refine ih (i + 1) _ (by omega) (by omega) (fun j => ?_)
        rw [xb_or, hM j, xb_1 z]
        by_cases e : j = i
        · simp [e, hl]
        · rw [decide_eq_decide.mpr (show j < i ↔ j < i + 1 by omega), decide_eq_false e, Bool.or_false]
      · refine ih (i + 1) M (by omega) (by omega) (fun j => ?_)
        rw [hM j]
        by_cases e : j = i
        · rw [e, hl, Bool.and_false, Bool.and_false]
        · rw [decide_eq_decide.mpr (show j < i ↔ j < i + 1 by omega)]
theorem wy_lm {post : Int64 → Prop} {sd hb sv pl : Int32} {a ds ph nx be pv : Nat → Int32} (hm : yb_s sd) (hT : gy_T a 0) (h : ∀ w, (∀ j, xb_t w j = gm_lg (yb_o a 0 sd) (yb_o a 0 (3 - sd)) j) → post w) : wpY_legalMask post (sd, hb, sv, pl, a, ds, ph, nx, be, pv) := by
  unfold wpY_legalMask
  exact ⟨65, wy_lm_l hm hT h 65 0 0 (by omega) (by omega) (fun j => by rw [xb_0]; simp)⟩
theorem i_vc_legalMask {k : Nat} {u : SX} {v : SY} (I : i_Rel k u v) (hk : k + 4 ≤ 2048) : wpX_legalMask (fun r => wpY_legalMask (fun r' => r' = r ∧ i_Rel (k + 4) u v) v) u := by
  obtain ⟨b, w, sd, he, hv, hl, ln, ow, op, un, pa, ty, bm, be⟩ := u
  obtain ⟨sd2, hb, sv, pl, a, ds, ph, nx, be2, pv⟩ := v
  have I0 := I
  obtain ⟨hR, rfl, hs, rfl, hh⟩ := I
  have hT := rl_T hR
  obtain ⟨own, opp, e1, e2, m1, m2, _⟩ := rx_md (sd := sd2) (he := hb) (hv := hv) (hl := hl) (ln := ln) (ow := ow) (op := op) (un := un) (pa := pa) (ty := ty) (bm := bm) (be := be) hR hs
  unfold wpX_legalMask
  dsimp only
  refine m1 _ (m2 _ (wx_moves (fun x hx => wy_lm hs hT (fun y hy => ⟨xb_ext (fun j _ => ?_), I0⟩))))
  rw [hx j, hy j, e1, e2]
theorem i_vc_pass {k : Nat} {u : SX} {v : SY} (I : i_Rel k u v) (hk : k + 4 ≤ 2048) : wpX_pass (fun r u' => wpY_pass (fun r' v' => r' = r ∧ i_Rel (k + 4) u' v') v) u := by
  obtain ⟨b, w, sd, he, hv, hl, ln, ow, op, un, pa, ty, bm, be⟩ := u
  obtain ⟨sd2, hb, sv, pl, a, ds, ph, nx, be2, pv⟩ := v
  have I0 := I
  obtain ⟨hR, rfl, hs, rfl, hh⟩ := I
  have hT := rl_T hR
  have hR0 := hR
  obtain ⟨own, opp, e1, e2, m1, m2, _⟩ := rx_md (sd := sd2) (he := hb) (hv := hv) (hl := hl) (ln := ln) (ow := ow) (op := op) (un := un) (pa := pa) (ty := ty) (bm := bm) (be := be) hR hs
  obtain ⟨r1, r2, r3⟩ := hR
  replace hs : yb_s sd2 := hs
  unfold wpX_pass wpY_pass
  dsimp only
  refine wx_over r1 r2 (fun z y => ?_) (fun z => ?_)
  · refine br_f (by decide) (wy_over12 (o := 0) (by omega) hT (fun _ _ => br_f (by decide) ⟨rfl, I0⟩) (fun q => ?_))
    rcases q with q | q
    · rw [q] at z; cases z
    · rw [q] at y; cases y
  · refine br_t rfl ?_
    unfold wpX_legalMask
    dsimp only
    refine m1 _ (m2 _ (wx_moves (fun x hx => ?_)))
    rw [e1, e2] at hx
    refine br_c (fun q => ?_) (fun q => ?_)
    · have hq := (xb_hm hx).mp q
      unfold wpX_endTurn
      dsimp only
      have hy : ∀ sd3 : Int32, sd3 = 3 - sd2 → wpY_overAt (fun r_1 => (r_1 = 0 → wpY_hasMove (fun r_13 => (r_13 = 0 → ∀ f_side_25 : Int32, f_side_25 = 3 - sd2 → ((0 : Int32) = 0 ∧ i_Rel (k + 4) (b, w, sd3, 0, hv, hl, ln, ow, op, un, pa, ty, bm, be) (f_side_25, 0, sv, pl, a, ds, ph, nx, be2, pv))) ∧ (¬ r_13 = 0 → ((-3 : Int32) = 0 ∧ i_Rel (k + 4) (b, w, sd3, 0, hv, hl, ln, ow, op, un, pa, ty, bm, be) (sd2, hb, sv, pl, a, ds, ph, nx, be2, pv)))) (sd2, hb, sv, pl, a, ds, ph, nx, be2, pv) 0 sd2) ∧ (¬ r_1 = 0 → ((-2 : Int32) = 0 ∧ i_Rel (k + 4) (b, w, sd3, 0, hv, hl, ln, ow, op, un, pa, ty, bm, be) (sd2, hb, sv, pl, a, ds, ph, nx, be2, pv)))) (sd2, hb, sv, pl, a, ds, ph, nx, be2, pv) 0 := by
        intro sd3 h3
        refine wy_over12 (o := 0) (by omega) hT (fun g1 g2 => ?_) (fun _ => br_t rfl (wy_hm (o := 0) hs (by omega) hT (fun g => ?_) (fun _ => br_t rfl (nm_e ⟨rfl, hR0, h3.symm, by rw [h3]; exact (yb_3 hs).1, rfl, Or.inl rfl⟩))))
        · rcases z with z | z
          · rw [z] at g1; cases g1
          · rw [z] at g2; cases g2
        · rw [hq] at g; cases g
      rcases hs with h | h
      · exact br_t h (hy 2 (by rw [h]; decide))
      · exact br_f (by rw [h]; decide) (hy 1 (by rw [h]; decide))
    · have hq : gm_hm (yb_o a 0 sd2) (yb_o a 0 (3 - sd2)) = true := gm_nf (fun g => q ((xb_hm hx).mpr g))
      refine wy_over12 (o := 0) (by omega) hT (fun g1 g2 => ?_) (fun _ => br_t rfl (wy_hm (o := 0) hs (by omega) hT (fun g => br_f (by decide) ⟨rfl, I0⟩) (fun g => ?_)))
      · rcases z with z | z
        · rw [z] at g1; cases g1
        · rw [z] at g2; cases g2
      · rw [hq] at g; cases g
theorem i_vc_play {k : Nat} {u : SX} {v : SY} (I : i_Rel k u v) (hk : k + 4 ≤ 2048) (v1 : Int32) : wpX_play (fun r u' => wpY_play (fun r' v' => r' = r ∧ i_Rel (k + 4) u' v') v v1) u v1 := by
  obtain ⟨b, w, sd, he, hv, hl, ln, ow, op, un, pa, ty, bm, be⟩ := u
  obtain ⟨sd2, hb, sv, pl, a, ds, ph, nx, be2, pv⟩ := v
  have I0 := I
  obtain ⟨hR, rfl, hs, rfl, hh⟩ := I
  have hT := rl_T hR
  obtain ⟨own, opp, e1, e2, m1, m2, hc⟩ := rx_md (sd := sd2) (he := hb) (hv := hv) (hl := hl) (ln := ln) (ow := ow) (op := op) (un := un) (pa := pa) (ty := ty) (bm := bm) (be := be) hR hs
  replace hs : yb_s sd2 := hs
  unfold wpX_play wpY_play
  dsimp only
  have hoff : v1 < 0 ∨ nI 64 ≤ v1 ∨ ∃ j : Nat, j < 64 ∧ v1 = nI j := pk_ix v1 (by decide)
  rcases hoff with h | h | ⟨s, hsq, rfl⟩
  · exact wx_offb (Or.inl h) (br_t rfl (wy_off (Or.inl h) ⟨rfl, I0⟩))
  · exact wx_offb (Or.inr h) (br_t rfl (wy_off (Or.inr h) ⟨rfl, I0⟩))
  · refine wx_onb hsq (br_f (by decide) (m1 _ (m2 _ (wx_flips hsq (fun x hx => br_c (fun z => ?_) (fun z => nm_e ?_))))))
    · refine wy_on hsq (wy_lg (o := 0) hs (by omega) hT hsq (fun q => ?_) (fun q => br_t rfl ⟨rfl, I0⟩))
      rw [← e1, ← e2] at q
      obtain ⟨j, hj⟩ := (gm_fl_i hsq).mp q
      rw [← hx j, z, xb_0] at hj
      cases hj
    · obtain ⟨j, hj⟩ := xb_nz.mp z
      rw [hx j] at hj
      have hlg := (gm_fl_i hsq).mpr ⟨j, hj⟩
      have hcn := gm_fl_n hlg
      have hsz : gm_cnt (xb_t x) 64 = gm_sum (yb_o a 0 sd2) (yb_o a 0 (3 - sd2)) s 9 := by
        rw [← e1, ← e2, ← hcn]
        exact gm_cnt_e 64 (fun j _ => hx j)
      obtain ⟨_, ⟨n1, n2⟩, _⟩ := gm_lg_i.mp hlg
      have hG : ∀ j, xb_t (x ||| ((1 : Int64) <<< ((nI s).toInt64 &&& 63))) j = gm_g (yb_o a 0 sd2) (yb_o a 0 (3 - sd2)) s j := by
        intro j
        rw [xb_or, hx j, xb_1 hsq, ← e1, ← e2]
        unfold gm_fl gm_g
        rw [n1, n2]
        rfl
      rw [e1, e2] at hlg
      generalize x ||| ((1 : Int64) <<< ((nI s).toInt64 &&& 63)) = G at hG
      obtain ⟨v1, v2, v3⟩ := gy_mv (a := a) (m := sd2) (o := 0) (s := s) hs hsq hT
      have ev2 : gm_nq (yb_o a 0 sd2) (yb_o a 0 (3 - sd2)) s = yb_o (yb_w a 0 sd2 (gm_g (yb_o a 0 sd2) (yb_o a 0 (3 - sd2)) s)) 0 sd2 := by
        rw [v2, (yb_3 hs).2.1]
      have hw1 : xb_t (own ||| G) = yb_o (yb_w a 0 sd2 (gm_g (yb_o a 0 sd2) (yb_o a 0 (3 - sd2)) s)) 0 sd2 := by
        rw [← ev2]
        funext j
        rw [xb_or, hG j, e1]
        rfl
      have hw2 : xb_t (opp &&& (G ^^^ (-1))) = yb_o (yb_w a 0 sd2 (gm_g (yb_o a 0 sd2) (yb_o a 0 (3 - sd2)) s)) 0 (3 - sd2) := by
        rw [← v1]
        funext j
        rw [xb_andn, hG j, e2]
        rfl
      have v3' : ∀ j, j < 64 → yb_w a 0 sd2 (gm_g (yb_o a 0 sd2) (yb_o a 0 (3 - sd2)) s) j = 0 ∨ yb_w a 0 sd2 (gm_g (yb_o a 0 sd2) (yb_o a 0 (3 - sd2)) s) j = 1 ∨ yb_w a 0 sd2 (gm_g (yb_o a 0 sd2) (yb_o a 0 (3 - sd2)) s) j = 2 := by
        intro j hj
        have := v3 j hj
        rw [Nat.zero_add] at this
        exact this
      unfold wX_play_77 wX_play_110 wpX_endTurn
      dsimp only
      rcases hc with ⟨h1, rfl, rfl⟩ | ⟨h1, rfl, rfl⟩
      · have h2 : (3 : Int32) - sd2 = 2 := by rw [h1]; decide
        refine br_t h1 (br_f (by rw [h1]; decide) (br_t h1 (wx_size _ (wy_on hsq (wy_lg (o := 0) hs (by omega) hT hsq (fun _ => br_f (by decide) (wy_flip (o := 0) hs (by omega) hsq (nm_e ⟨?_, ⟨?_, ?_, ?_⟩, h2, Or.inr rfl, rfl, Or.inl rfl⟩))) (fun q => ?_))))))
        · rw [hsz]
        · rw [h1] at hw1 ⊢; exact hw1
        · exact hw2.trans (congrArg (yb_o (yb_w a 0 sd2 (gm_g (yb_o a 0 sd2) (yb_o a 0 (3 - sd2)) s)) 0) h2)
        · exact v3'
        · rw [hlg] at q; cases q
      · have h2 : (3 : Int32) - sd2 = 1 := by rw [h1]; decide
        refine br_f (by rw [h1]; decide) (br_t h1 (br_f (by rw [h1]; decide) (wx_size _ (wy_on hsq (wy_lg (o := 0) hs (by omega) hT hsq (fun _ => br_f (by decide) (wy_flip (o := 0) hs (by omega) hsq (nm_e ⟨?_, ⟨?_, ?_, ?_⟩, h2, Or.inl rfl, rfl, Or.inl rfl⟩))) (fun q => ?_))))))
        · rw [hsz]
        · exact hw2.trans (congrArg (yb_o (yb_w a 0 sd2 (gm_g (yb_o a 0 sd2) (yb_o a 0 (3 - sd2)) s)) 0) h2)
        · rw [h1] at hw1 ⊢; exact hw1
        · exact v3'
        · rw [hlg] at q; cases q
end
section
/-! setRow -/
theorem wy_row_l {post : Int32 → SY → Prop} {sd hb sv pl : Int32} {a ds ph nx be pv : Nat → Int32} {r n1 n2 : Nat} (hr : r < 8) (h1 : n1 < 256) (h2 : n2 < 256) (h : post 0 (sd, 0, sv, pl, rb_r a r n1 n2 8, ds, ph, nx, be, pv)) : ∀ (n c : Nat), c ≤ 8 → 8 < n + c → wY_setRow_47 post (nI r) (nI n1) (nI n2) sd hb sv pl n (nI c) (rb_r a r n1 n2 c) ds ph nx be pv := by
  intro n
  induction n with
  | zero => intro c hc hn; omega
  | succ n ih =>
    intro c hc hn
    refine pk_le 8 c (fun z => ?_) (fun z => ?_)
    · have e : c = 8 := by omega
      subst e
      exact h
    · have hix : 8 * nI r + nI c = nI (8 * r + c) := by rw [zn_8, pk_mul, nI_add]
      have st : ∀ v : Int32, v = rb_v n1 n2 c → wY_setRow_86 post (wY_setRow_47 post (nI r) (nI n1) (nI n2) sd hb sv pl n) (nI r) (nI n1) (nI n2) (nI c) v sd hb sv pl (rb_r a r n1 n2 c) ds ph nx be pv := by
        intro v hv
        subst hv
        unfold wY_setRow_86
        rw [hix, nI_clamp (by omega)]
        exact ⟨vp_in_nI (by omega) (by decide), nm_r (rb_ru a r n1 n2 c) (nm_r (nI_1 c) (ih (c + 1) (by omega) (by omega)))⟩
      refine br_c (fun y => st 1 ?_) (fun y => br_c (fun q => st 2 ?_) (fun q => st 0 ?_))
      · unfold rb_v
        rw [if_pos ((rb_bit h1 z).mp y)]
      · unfold rb_v
        rw [if_neg (fun g => y ((rb_bit h1 z).mpr g)), if_pos ((rb_bit h2 z).mp q)]
      · unfold rb_v
        rw [if_neg (fun g => y ((rb_bit h1 z).mpr g)), if_neg (fun g => q ((rb_bit h2 z).mpr g))]
theorem i_vc_setRow {k : Nat} {u : SX} {v : SY} (I : i_Rel k u v) (hk : k + 4 ≤ 2048) (v1 : Int32) (v2 : Int32) (v3 : Int32) : wpX_setRow (fun r u' => wpY_setRow (fun r' v' => r' = r ∧ i_Rel (k + 4) u' v') v v1 v2 v3) u v1 v2 v3 := by
  obtain ⟨b, w, sd, he, hv, hl, ln, ow, op, un, pa, ty, bm, be⟩ := u
  obtain ⟨sd2, hb, sv, pl, a, ds, ph, nx, be2, pv⟩ := v
  have I0 := I
  obtain ⟨⟨r1, r2, r3⟩, rfl, hs, rfl, hh⟩ := I
  unfold wpX_setRow wpY_setRow
  dsimp only
  refine br_c (fun z => br_t z ⟨rfl, I0⟩) (fun z => ?_)
  obtain ⟨r, hr, rfl⟩ := nI_of z
  refine pk_lt r 8 (fun hr8 => ?_) (fun hr8 => br_f z (pk_le r 7 (fun _ => by omega) (fun _ => ⟨rfl, I0⟩)))
  have hle : nI r ≤ 7 := nI_le (b := 7) (by omega) (by decide)
  refine br_c (fun y => br_f z (br_t hle (br_t y ⟨rfl, I0⟩))) (fun y => ?_)
  refine br_c (fun y2 => br_f z (br_t hle (br_f y (br_t y2 ⟨rfl, I0⟩)))) (fun y2 => ?_)
  refine br_c (fun x => br_f z (br_t hle (br_f y (br_f y2 (br_t x ⟨rfl, I0⟩))))) (fun x => ?_)
  refine br_c (fun x2 => ?_) (fun x2 => br_f z (br_t hle (br_f y (br_f y2 (br_f x (br_f x2 ⟨rfl, I0⟩))))))
  refine br_c (fun q => ?_) (fun q => br_f z (br_t hle (br_f y (br_f y2 (br_f x (br_t x2 (br_f q ⟨rfl, I0⟩)))))))
  obtain ⟨n1, g1, rfl⟩ := nI_of y
  obtain ⟨n2, g2, rfl⟩ := nI_of x
  have h1 : n1 < 256 := by
    rcases Nat.lt_or_ge n1 256 with t | t
    · exact t
    · exact absurd (nI_lt (a := 255) (by omega) g1) y2
  have h2 : n2 < 256 := by
    have := (nI_leI (b := 255) g2 (by decide)).mp x2
    omega
  have e8 : 8 * nI r = nI (8 * r) := by rw [zn_8, pk_mul]
  have hM : ∀ j, xb_t ((255 : Int64) <<< ((nI (8 * r)).toInt64 &&& 63)) j = (decide (j < 64) && (decide (8 * r ≤ j) && Nat.testBit 255 (j - 8 * r))) := by
    intro j
    rw [show (255 : Int64) = (nI 255).toInt64 by decide]
    exact rb_sh (by decide) (by omega) j
  have hdis := fun c => rb_dis h1 q c
  refine nm_r e8 (nm_e (nm_e (nm_e (br_f z (br_t hle (br_f y (br_f y2 (br_f x (br_t x2 (br_t q ⟨9, ?_⟩))))))))))
  have hh := wy_row_l (post := fun r' v' => r' = 0 ∧ i_Rel (k + 4) ((b &&& (((255 : Int64) <<< ((nI (8 * r)).toInt64 &&& 63)) ^^^ (-1))) ||| ((nI n1).toInt64 <<< ((nI (8 * r)).toInt64 &&& 63)), (w &&& (((255 : Int64) <<< ((nI (8 * r)).toInt64 &&& 63)) ^^^ (-1))) ||| ((nI n2).toInt64 <<< ((nI (8 * r)).toInt64 &&& 63)), sd2, 0, hv, hl, ln, ow, op, un, pa, ty, bm, be) v') (sd := sd2) (hb := hb) (sv := sv) (pl := pl) (a := a) (ds := ds) (ph := ph) (nx := nx) (be := be2) (pv := pv) hr8 h1 h2 ⟨rfl, ⟨?_, ?_, ?_⟩, rfl, hs, rfl, Or.inl rfl⟩ 9 0 (by omega) (by omega)
  · rw [rb_r0] at hh
    exact hh
  · exact rb_row hr8 h1 r1 hM (fun c => rb_v1)
  · exact rb_row hr8 h2 r2 hM (fun c => rb_v2 (hdis c))
  · exact rb_rowt r3
end
section
/-! the component's solve -/
theorem gm_pos_m {p q : Nat → Bool} {i x : Nat} (h : gm_hm (gm_pos p q i).1 (gm_pos p q i).2 = true) (hx : gm_Fi p q i = (x : Int)) : gm_pos p q (i + 1) = (gm_np (gm_pos p q i).1 (gm_pos p q i).2 x, gm_nq (gm_pos p q i).1 (gm_pos p q i).2 x) := by
  rw [gm_pos, if_pos h]
  unfold gm_Fi at hx
  rw [hx]
  rfl
theorem gm_pos_p {p q : Nat → Bool} {i : Nat} (h : gm_hm (gm_pos p q i).1 (gm_pos p q i).2 = false) : gm_pos p q (i + 1) = ((gm_pos p q i).2, (gm_pos p q i).1) := by
  rw [gm_pos, if_neg (by rw [h]; decide)]
theorem wx_sv_l {post : Int32 → SX → Prop} {b w : Int64} {sd he hv : Int32} {p q : Nat → Bool} (he6 : gm_e p q ≤ 6) (h : ∀ (l : Nat) (ln' : Nat → Int32) (F' : gx_A), gm_PL p q l → (∀ k, k < l → ln' k = zi_z (gm_Fi p q k)) → post 0 (b, w, sd, 1, hv, nI l, ln', F'.1, F'.2.1, F'.2.2.1, F'.2.2.2.1, F'.2.2.2.2.1, F'.2.2.2.2.2.1, F'.2.2.2.2.2.2)) : ∀ (f n i : Nat) (own opp : Int64) (ln : Nat → Int32) (F : gx_A), i + f = 12 → f < n → xb_t own = (gm_pos p q i).1 → xb_t opp = (gm_pos p q i).2 → F.2.2.2.2.2.1 0 = zi_z (gm_Fi p q i) → (∀ k, k < i → gm_Fi p q k ≠ -1 ∧ ln k = zi_z (gm_Fi p q k)) → wX_solve_52 post n own opp (nI i) b w sd he hv (nI i) ln F.1 F.2.1 F.2.2.1 F.2.2.2.1 F.2.2.2.2.1 F.2.2.2.2.2.1 F.2.2.2.2.2.2 := by
  intro f
  induction f with
  | zero =>
    intro n i own opp ln F hi hn e1 e2 eF hk
    cases n with
    | zero => omega
    | succ n => exact pk_le 12 i (fun _ => h i ln F ⟨by omega, fun k hh => (hk k hh).1, fun z => by omega⟩ (fun k hh => (hk k hh).2)) (fun z => by omega)
  | succ f ih =>
    intro n i own opp ln F hi hn e1 e2 eF hk
    cases n with
    | zero => omega
    | succ n =>
      have bF := gm_F_b (gm_pos p q i).1 (gm_pos p q i).2
      have hFi : gm_Fi p q i = gm_F (gm_pos p q i).1 (gm_pos p q i).2 := rfl
      have hpe := gm_pos_e p q (i + 1)
      refine pk_le 12 i (fun z => by omega) (fun _ => br_c (fun z => h i ln F ⟨by omega, fun k hh => (hk k hh).1, fun _ => ?_⟩ (fun k hh => (hk k hh).2)) (fun z => ?_))
      · rw [eF, zi_m1, zi_eq (by omega) (by omega) (by omega) (by omega)] at z
        exact z
      · have hne : gm_Fi p q i ≠ -1 := fun y => z (by rw [eF, y]; rfl)
        refine nm_r eF ⟨vp_in_nI (by omega) (by decide), ?_⟩
        rw [nI_clamp (by omega)]
        refine nm_e (nm_r (nI_1 i) ?_)
        have hkk : ∀ k, k < i + 1 → gm_Fi p q k ≠ -1 ∧ upd ln i (zi_z (gm_Fi p q i)) k = zi_z (gm_Fi p q k) := by
          intro k hk'
          by_cases e : k = i
          · rw [e, pk_us]; exact ⟨hne, rfl⟩
          · rw [pk_un e]; exact hk k (by omega)
        cases hm : gm_hm (gm_pos p q i).1 (gm_pos p q i).2 with
        | true =>
          obtain ⟨x, hx, ex, hlg, _⟩ := gm_F_m hm
          have ep := gm_pos_m hm (hFi.trans ex)
          rw [← e1, ← e2] at hlg
          have goal : ∀ x6 : Int32, x6 = nI x → wpX_gainOf (fun r_55 => ∀ x9_56 : Int64, x9_56 = opp &&& (r_55 ^^^ (-1)) → ∀ x3_57 : Int64, x3_57 = own ||| r_55 → wpX_search (fun u => match u with | (c1, c2, c3, c4, c5, c6, c7, c8, c9, c10, c11, c12, c13, c14) => ∀ x5_73 : Int32, x5_73 = nI i + 1 → wX_solve_52 post n x9_56 x3_57 x5_73 c1 c2 c3 c4 c5 c6 c7 c8 c9 c10 c11 c12 c13 c14) (b, w, sd, he, hv, nI (i + 1), upd ln i (zi_z (gm_Fi p q i)), F.1, F.2.1, F.2.2.1, F.2.2.2.1, F.2.2.2.2.1, F.2.2.2.2.2.1, F.2.2.2.2.2.2) x9_56 x3_57) own opp x6 := by
            intro x6 h6
            subst h6
            refine wx_gain_m hlg (fun G hG => nm_e (nm_e ?_))
            have en : xb_t (opp &&& (G ^^^ (-1))) = (gm_pos p q (i + 1)).1 := by
              rw [ep]
              funext j
              rw [xb_andn, hG j, e1, e2]
              rfl
            have eq : xb_t (own ||| G) = (gm_pos p q (i + 1)).2 := by
              rw [ep]
              funext j
              rw [xb_or, hG j, e1, e2]
              rfl
            refine wx_search (by rw [en, eq]; omega) (fun F' f1 f2 => nm_r (nI_1 i) ?_)
            rw [en, eq] at f1
            exact ih n (i + 1) _ _ _ F' (by omega) (by omega) en eq f1 hkk
          exact goal _ (by rw [hFi, ex, zi_n])
        | false =>
          have h2 : gm_hm (gm_pos p q i).2 (gm_pos p q i).1 = true := gm_nf (fun y => hne (hFi.trans (gm_F_o hm y)))
          have ep := gm_pos_p hm
          have e64 : zi_z (gm_Fi p q i) = 64 := by rw [hFi, gm_F_p hm h2]; decide
          rw [e64] at hkk ⊢
          refine wx_gain_p (nm_e (nm_e ?_))
          have en : xb_t (opp &&& ((0 : Int64) ^^^ (-1))) = (gm_pos p q (i + 1)).1 := by
            rw [ep]
            funext j
            rw [xb_andn, xb_0, e2]
            simp
          have eq : xb_t (own ||| (0 : Int64)) = (gm_pos p q (i + 1)).2 := by
            rw [ep]
            funext j
            rw [xb_or, xb_0, e1]
            simp
          refine wx_search (by rw [en, eq]; omega) (fun F' f1 f2 => nm_r (nI_1 i) ?_)
          rw [en, eq] at f1
          exact ih n (i + 1) _ _ _ F' (by omega) (by omega) en eq f1 hkk
theorem wx_solve {post : Int32 → SX → Prop} {b w : Int64} {sd he hv hl : Int32} {ln : Nat → Int32} {ow op un : Nat → Int64} {pa ty bm be : Nat → Int32} {own opp : Int64} (m1 : ∀ post : Int64 → Prop, post own → wpX_moverDiscs post (b, w, sd, he, hv, hl, ln, ow, op, un, pa, ty, bm, be)) (m2 : ∀ post : Int64 → Prop, post opp → wpX_otherDiscs post (b, w, sd, he, hv, hl, ln, ow, op, un, pa, ty, bm, be)) (hn : ¬ gm_e (xb_t own) (xb_t opp) ≤ 6 → post (-4) (b, w, sd, he, hv, hl, ln, ow, op, un, pa, ty, bm, be)) (h : gm_e (xb_t own) (xb_t opp) ≤ 6 → ∀ (l : Nat) (ln' : Nat → Int32) (F' : gx_A), gm_PL (xb_t own) (xb_t opp) l → (∀ k, k < l → ln' k = zi_z (gm_Fi (xb_t own) (xb_t opp) k)) → post 0 (b, w, sd, 1, zi_z (gm_W (xb_t own) (xb_t opp)), nI l, ln', F'.1, F'.2.1, F'.2.2.1, F'.2.2.2.1, F'.2.2.2.2.1, F'.2.2.2.2.2.1, F'.2.2.2.2.2.2)) : wpX_solve post (b, w, sd, he, hv, hl, ln, ow, op, un, pa, ty, bm, be) := by
  unfold wpX_solve
  dsimp only
  refine m1 _ (m2 _ (wx_size _ ?_))
  have ee : gm_cnt (xb_t ((own ||| opp) ^^^ (-1))) 64 = gm_e (xb_t own) (xb_t opp) := by
    unfold gm_e
    apply gm_cnt_e
    intro j hj
    rw [xb_not _ hj, xb_or]
    unfold gm_em
    rw [decide_eq_true hj, Bool.not_or, Bool.true_and]
  rw [ee]
  have hle := gm_cnt_le (gm_em (xb_t own) (xb_t opp)) 64
  have hle2 : gm_e (xb_t own) (xb_t opp) ≤ 64 := hle
  refine pk_le _ 6 (fun z => ?_) (fun z => hn (by omega)) rfl rfl (by omega)
  refine wx_search z (fun F f1 f2 => nm_r f2 ⟨13, ?_⟩)
  exact wx_sv_l z (h z) 12 13 0 own opp ln F (by omega) (by omega) rfl rfl f1 (fun k hk => by omega)
end
section
/-! the reference's solve -/
def gy_k1 (A B : gy_A) : Prop := (∀ x, x < 128 → B.1 x = A.1 x) ∧ B.2.1 1 = A.2.1 1
theorem gy_bd1 {A B : gy_A} {P Q : Nat → Bool} (h : gy_k1 A B) (hb : gy_bd A 1 P Q) : gy_bd B 1 P Q := by
  obtain ⟨b1, b2, b3, b4⟩ := hb
  have ec : ∀ j, j < 64 → B.1 (64 * 1 + j) = A.1 (64 * 1 + j) := fun j hj => h.1 _ (by omega)
  refine ⟨by rw [h.2]; exact b1, ?_, ?_, ?_⟩
  · rw [h.2, b2, yb_oe ec]
  · rw [h.2, b3, yb_oe ec]
  · intro j hj
    rw [ec j hj]
    exact b4 j hj
theorem wy_ch {post : Int32 → SY → Prop} {J64 : Int32 → Int32 → Int32 → Int32 → Int32 → Int32 → (Nat → Int32) → (Nat → Int32) → (Nat → Int32) → (Nat → Int32) → (Nat → Int32) → (Nat → Int32) → Prop} {sd hb sv pl x2 x3 x4 : Int32} {pv : Nat → Int32} {A0 : gy_A} {P Q : Nat → Bool} {x : Nat} (hbd : gy_bd A0 1 P Q) (he6 : gm_e P Q ≤ 6) (hx : x < 64) (hlx : gm_lg P Q x = true) (hfx : gm_f P Q x = gm_W P Q) (hlt : ∀ s, s < x → gm_lg P Q s = true → gm_f P Q s < gm_W P Q) (h : ∀ A' : gy_A, gy_k1 A0 A' → wY_solve_229 post J64 x2 x3 x4 (A0.2.1 1) (nI x) sd hb sv pl A'.1 A'.2.1 A'.2.2.1 A'.2.2.2.1 A'.2.2.2.2 pv) : ∀ (f n s : Nat) (A : gy_A), s + f = x → f + 1 < n → gy_k1 A0 A → wY_solve_148 post J64 x2 x3 x4 (A0.2.1 1) (zi_z (gm_W P Q)) n (-1) (nI s) sd hb sv pl A.1 A.2.1 A.2.2.1 A.2.2.2.1 A.2.2.2.2 pv := by
  intro f
  induction f with
  | zero =>
    intro n s A hs hn hk
    have e : s = x := by omega
    subst e
    obtain ⟨bm, bP, bQ, bT⟩ := gy_bd1 hk hbd
    rw [hk.2] at bm bP bQ
    cases n with
    | zero => omega
    | succ n =>
      refine pk_le 64 s (fun z => by omega) (fun _ => br_f (by decide) (wy_lg (o := 64 * 1) bm (by omega) bT hx (fun _ => br_f (by decide) ?_) (fun z => ?_)))
      · refine wy_cp (f := 1) (g := 2) (by omega) (by omega) (by omega) (fun a' g1 g2 => ?_)
        have hT' : gy_T a' (64 * 2) := fun j hj => by rw [g1 j hj]; exact bT j hj
        have eo : ∀ m, yb_o a' (64 * 2) m = yb_o A.1 (64 * 1) m := fun m => yb_oe g1
        obtain ⟨v1, v2, v3⟩ := gy_mv (a := a') (m := A0.2.1 1) (o := 64 * 2) (s := s) bm hx hT'
        refine wy_flip (o := 64 * 2) bm (by omega) hx (nm_e ?_)
        rw [eo, eo] at v1 v2 v3 ⊢
        rw [← bP, ← bQ] at v1 v2 v3 ⊢
        have hen := gm_e_n hlx
        refine wy_neg (b0 := 2) (P := gm_np P Q s) (Q := gm_nq P Q s) (by omega) ⟨?_, ?_, ?_, v3⟩ (by omega) (fun A' ag => ?_)
        · show yb_s (upd A.2.1 2 (3 - A0.2.1 1) 2)
          rw [pk_us]; exact (yb_3 bm).1
        · show gm_np P Q s = yb_o _ (64 * 2) (upd A.2.1 2 (3 - A0.2.1 1) 2)
          rw [pk_us]; exact v1
        · show gm_nq P Q s = yb_o _ (64 * 2) (3 - upd A.2.1 2 (3 - A0.2.1 1) 2)
          rw [pk_us]; exact v2
        · have hk' : gy_k1 A0 A' := by
            constructor
            · intro y hy
              rw [ag.1 y (by omega)]
              show yb_w a' (64 * 2) (A0.2.1 1) _ y = _
              rw [yb_wl (gm_g_b hx) (Or.inl (by omega)), g2 y (Or.inl (by omega)), hk.1 y hy]
            · rw [ag.2.1 1 (by omega)]
              show upd A.2.1 2 (3 - A0.2.1 1) 1 = _
              rw [pk_un (by omega), hk.2]
          refine br_t ?_ (nm_r (nI_1 s) ?_)
          · rw [zi_neg]
            exact congrArg zi_z hfx
          · cases n with
            | zero => omega
            | succ n => exact br_c (fun _ => h A' hk') (fun _ => br_t (nI_pos' (by omega)) (h A' hk'))
      · rw [← bP, ← bQ, hlx] at z
        cases z
  | succ f ih =>
    intro n s A hs hn hk
    obtain ⟨bm, bP, bQ, bT⟩ := gy_bd1 hk hbd
    rw [hk.2] at bm bP bQ
    have hsx : s < 64 := by omega
    cases n with
    | zero => omega
    | succ n =>
      refine pk_le 64 s (fun z => by omega) (fun _ => br_f (by decide) (wy_lg (o := 64 * 1) bm (by omega) bT hsx (fun hl => br_f (by decide) ?_) (fun z => br_t rfl (nm_r (nI_1 s) (ih n (s + 1) A (by omega) (by omega) hk)))))
      rw [← bP, ← bQ] at hl
      refine wy_cp (f := 1) (g := 2) (by omega) (by omega) (by omega) (fun a' g1 g2 => ?_)
      have hT' : gy_T a' (64 * 2) := fun j hj => by rw [g1 j hj]; exact bT j hj
      have eo : ∀ m, yb_o a' (64 * 2) m = yb_o A.1 (64 * 1) m := fun m => yb_oe g1
      obtain ⟨v1, v2, v3⟩ := gy_mv (a := a') (m := A0.2.1 1) (o := 64 * 2) (s := s) bm hsx hT'
      refine wy_flip (o := 64 * 2) bm (by omega) hsx (nm_e ?_)
      rw [eo, eo] at v1 v2 v3 ⊢
      rw [← bP, ← bQ] at v1 v2 v3 ⊢
      have hen := gm_e_n hl
      refine wy_neg (b0 := 2) (P := gm_np P Q s) (Q := gm_nq P Q s) (by omega) ⟨?_, ?_, ?_, v3⟩ (by omega) (fun A' ag => ?_)
      · show yb_s (upd A.2.1 2 (3 - A0.2.1 1) 2)
        rw [pk_us]; exact (yb_3 bm).1
      · show gm_np P Q s = yb_o _ (64 * 2) (upd A.2.1 2 (3 - A0.2.1 1) 2)
        rw [pk_us]; exact v1
      · show gm_nq P Q s = yb_o _ (64 * 2) (3 - upd A.2.1 2 (3 - A0.2.1 1) 2)
        rw [pk_us]; exact v2
      · have hk' : gy_k1 A0 A' := by
          constructor
          · intro y hy
            rw [ag.1 y (by omega)]
            show yb_w a' (64 * 2) (A0.2.1 1) _ y = _
            rw [yb_wl (gm_g_b hsx) (Or.inl (by omega)), g2 y (Or.inl (by omega)), hk.1 y hy]
          · rw [ag.2.1 1 (by omega)]
            show upd A.2.1 2 (3 - A0.2.1 1) 1 = _
            rw [pk_un (by omega), hk.2]
        have b1 := gm_W_b P Q
        have b2 := gm_f_b P Q s
        have hls := hlt s (by omega) hl
        refine br_f (fun z => ?_) (nm_r (nI_1 s) (ih n (s + 1) A' (by omega) (by omega) hk'))
        rw [zi_neg] at z
        have z2 : zi_z (gm_f P Q s) = zi_z (gm_W P Q) := z
        rw [zi_eq (by omega) (by omega) (by omega) (by omega)] at z2
        omega
theorem wy_sv_l {post : Int32 → SY → Prop} {sd hb sv pl V : Int32} {p q : Nat → Bool} {a0 : Nat → Int32} (he6 : gm_e p q ≤ 6) (h : ∀ (l : Nat) (A' : gy_A) (pv' : Nat → Int32), gm_PL p q l → (∀ x, x < 64 → A'.1 x = a0 x) → (∀ k, k < l → pv' k = zi_z (gm_Fi p q k)) → post 0 (sd, 1, V, nI l, A'.1, A'.2.1, A'.2.2.1, A'.2.2.2.1, A'.2.2.2.2, pv')) : ∀ (f n i : Nat) (A : gy_A) (pv : Nat → Int32), i + f = 12 → f < n → gy_bd A 1 (gm_pos p q i).1 (gm_pos p q i).2 → (∀ x, x < 64 → A.1 x = a0 x) → (∀ k, k < i → gm_Fi p q k ≠ -1 ∧ pv k = zi_z (gm_Fi p q k)) → wY_solve_64 post V n (nI i) (nI i) sd hb sv pl A.1 A.2.1 A.2.2.1 A.2.2.2.1 A.2.2.2.2 pv := by
  intro f
  induction f with
  | zero =>
    intro n i A pv hi hn hbd ha hk
    obtain ⟨bm, bP, bQ, bT⟩ := hbd
    cases n with
    | zero => omega
    | succ n =>
      have hend : wY_solve_275 post V (nI i) sd hb sv pl A.1 A.2.1 A.2.2.1 A.2.2.2.1 A.2.2.2.2 pv := h i A pv ⟨by omega, fun k hh => (hk k hh).1, fun z => by omega⟩ ha (fun k hh => (hk k hh).2)
      exact pk_le 13 i (fun z => by omega) (fun _ => wy_over (o := 64 * 1) bm (by omega) bT (fun _ _ => br_f (by decide) hend) (fun _ => br_t rfl (pk_lt i 12 (fun z => by omega) (fun _ => hend))))
  | succ f ih =>
    intro n i A pv hi hn hbd ha hk
    have hbd0 := hbd
    obtain ⟨bm, bP, bQ, bT⟩ := hbd
    have hpe := gm_pos_e p q i
    have hFi : gm_Fi p q i = gm_F (gm_pos p q i).1 (gm_pos p q i).2 := rfl
    cases n with
    | zero => omega
    | succ n =>
      refine pk_le 13 i (fun z => by omega) (fun _ => wy_over (o := 64 * 1) bm (by omega) bT (fun g1 g2 => br_f (by decide) ?_) (fun g => br_t rfl (pk_lt i 12 (fun _ => nm_e ?_) (fun z => by omega))))
      · rw [← bP, ← bQ] at g1 g2
        exact h i A pv ⟨by omega, fun k hh => (hk k hh).1, fun _ => hFi.trans (gm_F_o g1 g2)⟩ ha (fun k hh => (hk k hh).2)
      · rw [← bP, ← bQ] at g
        refine wy_hm (o := 64 * 1) bm (by omega) bT (fun hm => br_f (by decide) ?_) (fun hm => br_t rfl ⟨vp_in_nI (by omega) (by decide), ?_⟩)
        · rw [← bP, ← bQ] at hm
          obtain ⟨x, hx, ex, hlx, hfx, hlt⟩ := gm_F_m hm
          have ep := gm_pos_m hm (hFi.trans ex)
          refine wy_neg (b0 := 1) (P := (gm_pos p q i).1) (Q := (gm_pos p q i).2) (by omega) hbd0 (by omega) (fun A1 ag => ⟨x + 2, ?_⟩)
          have hbd1 := gy_bd_a ag hbd0
          have em : A1.2.1 1 = A.2.1 1 := ag.2.1 1 (by omega)
          have hch := wy_ch (post := post) (J64 := wY_solve_64 post V n) (sd := sd) (hb := hb) (sv := sv) (pl := pl) (x2 := V) (x3 := nI i) (x4 := nI i) (pv := pv) (A0 := A1) hbd1 (by omega) hx hlx hfx hlt (fun A2 k2 => ?_) x (x + 2) 0 A1 (by omega) (by omega) ⟨fun _ _ => rfl, rfl⟩
          · rw [em] at hch
            exact hch
          · obtain ⟨cm, cP, cQ, cT⟩ := gy_bd1 k2 hbd1
            rw [k2.2] at cm cP cQ
            obtain ⟨v1, v2, v3⟩ := gy_mv (a := A2.1) (m := A1.2.1 1) (o := 64 * 1) (s := x) cm hx cT
            unfold wY_solve_229
            refine br_t (nI_pos' (by omega)) (wy_flip (o := 64 * 1) cm (by omega) hx (nm_e ⟨vp_in_nI (by omega) (by decide), ?_⟩))
            rw [nI_clamp (by omega)]
            refine nm_e (nm_r (nI_1 i) (nm_r (nI_1 i) ?_))
            rw [← cP, ← cQ] at v1 v2 v3 ⊢
            refine ih n (i + 1) (yb_w A2.1 (64 * 1) (A1.2.1 1) (gm_g (gm_pos p q i).1 (gm_pos p q i).2 x), upd A2.2.1 1 (3 - A1.2.1 1), A2.2.2.1, A2.2.2.2.1, A2.2.2.2.2) (upd pv i (nI x)) (by omega) (by omega) ?_ ?_ ?_
            · rw [ep]
              refine ⟨?_, ?_, ?_, v3⟩
              · show yb_s (upd A2.2.1 1 (3 - A1.2.1 1) 1)
                rw [pk_us]; exact (yb_3 cm).1
              · show gm_np _ _ x = yb_o _ (64 * 1) (upd A2.2.1 1 (3 - A1.2.1 1) 1)
                rw [pk_us]; exact v1
              · show gm_nq _ _ x = yb_o _ (64 * 1) (3 - upd A2.2.1 1 (3 - A1.2.1 1) 1)
                rw [pk_us]; exact v2
            · intro y hy
              show yb_w A2.1 (64 * 1) (A1.2.1 1) _ y = a0 y
              rw [yb_wl (gm_g_b hx) (Or.inl (by omega)), k2.1 y (by omega), ag.1 y (by omega)]
              exact ha y hy
            · intro k hk'
              by_cases e : k = i
              · rw [e, pk_us, hFi, ex, zi_n]
                exact ⟨by omega, rfl⟩
              · rw [pk_un e]; exact hk k (by omega)
        · rw [← bP, ← bQ] at hm
          have h2 : gm_hm (gm_pos p q i).2 (gm_pos p q i).1 = true := by
            rcases g with g | g
            · rw [hm] at g; cases g
            · exact g
          have ep := gm_pos_p hm
          rw [nI_clamp (by omega)]
          refine nm_e (nm_r (nI_1 i) (nm_e (nm_r (nI_1 i) ?_)))
          refine ih n (i + 1) (A.1, upd A.2.1 1 (3 - A.2.1 1), A.2.2.1, A.2.2.2.1, A.2.2.2.2) (upd pv i 64) (by omega) (by omega) ?_ ha ?_
          · rw [ep]
            refine ⟨?_, ?_, ?_, bT⟩
            · show yb_s (upd A.2.1 1 (3 - A.2.1 1) 1)
              rw [pk_us]; exact (yb_3 bm).1
            · show (gm_pos p q i).2 = yb_o A.1 (64 * 1) (upd A.2.1 1 (3 - A.2.1 1) 1)
              rw [pk_us]; exact bQ
            · show (gm_pos p q i).1 = yb_o A.1 (64 * 1) (3 - upd A.2.1 1 (3 - A.2.1 1) 1)
              rw [pk_us, (yb_3 bm).2.1]; exact bP
          · intro k hk'
            by_cases e : k = i
            · rw [e, pk_us, hFi, gm_F_p hm h2]
              exact ⟨by omega, by decide⟩
            · rw [pk_un e]; exact hk k (by omega)
theorem wy_em_l {post : Int32 → SY → Prop} {sd hb sv pl : Int32} {a ds ph nx be pv : Nat → Int32} (h : wY_solve_4 post sd hb sv pl a ds ph nx be pv 1 (nI (gm_cnt (fun j => decide (a j = 0)) 64)) 64) : ∀ (n i : Nat), i ≤ 64 → 64 < n + i → wY_solve_4 post sd hb sv pl a ds ph nx be pv n (nI (gm_cnt (fun j => decide (a j = 0)) i)) (nI i) := by
  intro n
  induction n with
  | zero => intro i hi hn; omega
  | succ n ih =>
    intro i hi hn
    rcases Nat.lt_or_ge i 64 with z | z
    · have hh := ih (i + 1) (by omega) (by omega)
      refine br_f (nI_ge (b := 64) z (by decide)) ?_
      rw [nI_clamp (by omega)]
      refine ⟨vp_in_nI (by omega) (by decide), br_c (fun y => nm_r (nI_1 _) (nm_r (nI_1 i) ?_)) (fun y => nm_r (nI_1 i) ?_)⟩
      · rw [gm_cnt, if_pos (decide_eq_true y)] at hh
        exact hh
      · rw [gm_cnt, if_neg (by rw [decide_eq_true_eq]; exact y)] at hh
        exact hh
    · have e : i = 64 := by omega
      subst e
      exact br_t (by decide) (h.1 (by decide))
theorem wy_solve {post : Int32 → SY → Prop} {sd hb sv pl : Int32} {a ds ph nx be pv : Nat → Int32} (hs : yb_s sd) (hT : gy_T a 0) (hn : ¬ gm_e (yb_o a 0 sd) (yb_o a 0 (3 - sd)) ≤ 6 → post (-4) (sd, hb, sv, pl, a, ds, ph, nx, be, pv)) (h : gm_e (yb_o a 0 sd) (yb_o a 0 (3 - sd)) ≤ 6 → ∀ (l : Nat) (A' : gy_A) (pv' : Nat → Int32), gm_PL (yb_o a 0 sd) (yb_o a 0 (3 - sd)) l → (∀ x, x < 64 → A'.1 x = a x) → (∀ k, k < l → pv' k = zi_z (gm_Fi (yb_o a 0 sd) (yb_o a 0 (3 - sd)) k)) → post 0 (sd, 1, zi_z (gm_W (yb_o a 0 sd) (yb_o a 0 (3 - sd))), nI l, A'.1, A'.2.1, A'.2.2.1, A'.2.2.2.1, A'.2.2.2.2, pv')) : wpY_solve post (sd, hb, sv, pl, a, ds, ph, nx, be, pv) := by
  have ee : gm_cnt (fun j => decide (a j = 0)) 64 = gm_e (yb_o a 0 sd) (yb_o a 0 (3 - sd)) := by
    unfold gm_e
    apply gm_cnt_e
    intro j hj
    have := gy_emp hs hT hj
    rw [Nat.zero_add] at this
    rw [Bool.eq_iff_iff, decide_eq_true_eq, this]
    unfold gm_em
    rw [decide_eq_true hj, Bool.true_and, Bool.and_eq_true, Bool.not_eq_true', Bool.not_eq_true']
  have hle2 : gm_e (yb_o a 0 sd) (yb_o a 0 (3 - sd)) ≤ 64 := gm_cnt_le _ 64
  unfold wpY_solve
  dsimp only
  refine ⟨65, wy_em_l ?_ 65 0 (by omega) (by omega)⟩
  rw [ee]
  refine br_t (by decide) (pk_le _ 6 (fun z => ?_) (fun z => hn (by omega)) rfl rfl (by omega))
  refine wy_cp (f := 0) (g := 1) (by omega) (by omega) (by omega) (fun a' g1 g2 => nm_e ?_)
  have eo : ∀ m, yb_o a' (64 * 1) m = yb_o a 0 m := fun m => yb_oe (fun j hj => g1 j hj)
  have hbd : gy_bd (a', upd ds 1 sd, ph, nx, be) 1 (yb_o a 0 sd) (yb_o a 0 (3 - sd)) := by
    refine ⟨?_, ?_, ?_, ?_⟩
    · show yb_s (upd ds 1 sd 1)
      rw [pk_us]; exact hs
    · show _ = yb_o a' (64 * 1) (upd ds 1 sd 1)
      rw [pk_us, eo]
    · show _ = yb_o a' (64 * 1) (3 - upd ds 1 sd 1)
      rw [pk_us, eo]
    · intro j hj
      show a' (64 * 1 + j) = 0 ∨ a' (64 * 1 + j) = 1 ∨ a' (64 * 1 + j) = 2
      rw [g1 j hj]
      exact hT j hj
  refine wy_neg (b0 := 1) (by omega) hbd z (fun A1 ag => ⟨13, ?_⟩)
  refine wy_sv_l (a0 := a) z (h z) 12 13 0 A1 pv (by omega) (by omega) (gy_bd_a ag hbd) (fun x hx => ?_) (fun k hk => by omega)
  rw [ag.1 x (by omega)]
  exact g2 x (Or.inl (by omega))
theorem rb_same {b w : Int64} {a a' : Nat → Int32} (h : rb_R b w a) (he : ∀ x, x < 64 → a' x = a x) : rb_R b w a' := by
  obtain ⟨r1, r2, r3⟩ := h
  have eo : ∀ m, yb_o a' 0 m = yb_o a 0 m := fun m => yb_oe (fun j hj => by rw [Nat.zero_add]; exact he j hj)
  refine ⟨by rw [eo]; exact r1, by rw [eo]; exact r2, fun j hj => ?_⟩
  rw [he j hj]
  exact r3 j hj
end
section
theorem i_vc_solve {k : Nat} {u : SX} {v : SY} (I : i_Rel k u v) (hk : k + 4 ≤ 2048) : wpX_solve (fun r u' => wpY_solve (fun r' v' => r' = r ∧ i_Rel (k + 4) u' v') v) u := by
  obtain ⟨b, w, sd, he, hv, hl, ln, ow, op, un, pa, ty, bm, be⟩ := u
  obtain ⟨sd2, hb, sv, pl, a, ds, ph, nx, be2, pv⟩ := v
  have I0 := I
  obtain ⟨hR, rfl, hs, rfl, hh⟩ := I
  have hT := rl_T hR
  replace hs : yb_s sd2 := hs
  obtain ⟨own, opp, e1, e2, m1, m2, _⟩ := rx_md (sd := sd2) (he := hb) (hv := hv) (hl := hl) (ln := ln) (ow := ow) (op := op) (un := un) (pa := pa) (ty := ty) (bm := bm) (be := be) hR hs
  refine wx_solve m1 m2 (fun z => ?_) (fun z l ln' F' hPL hln => ?_)
  · rw [e1, e2] at z
    exact wy_solve hs hT (fun _ => ⟨rfl, I0⟩) (fun y => absurd y z)
  · rw [e1, e2] at z hPL hln ⊢
    refine wy_solve hs hT (fun y => absurd z y) (fun _ l' A' pv' hPL' ha hpv => ?_)
    have el := gm_PL_u hPL' hPL
    subst el
    exact ⟨rfl, rb_same hR ha, rfl, hs, rfl, Or.inr ⟨rfl, rfl, l', hPL.1, rfl, rfl, fun j hj => (hpv j hj).trans (hln j hj).symm⟩⟩
end
