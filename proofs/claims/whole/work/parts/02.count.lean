/-! counts, moves, the value -/
theorem gm_cnt_e {S T : Nat → Bool} : ∀ n : Nat, (∀ j, j < n → S j = T j) → gm_cnt S n = gm_cnt T n := by
  intro n
  induction n with
  | zero => intro _; rfl
  | succ n ih => intro h; rw [gm_cnt, gm_cnt, ih (fun j hj => h j (by omega)), h n (by omega)]
theorem gm_cnt_0 {S : Nat → Bool} : ∀ n : Nat, gm_cnt S n = 0 ↔ ∀ j, j < n → S j = false := by
  intro n
  induction n with
  | zero => exact ⟨fun _ j hj => by omega, fun _ => rfl⟩
  | succ n ih =>
    rw [gm_cnt]
    constructor
    · intro h j hj
      by_cases hn : S n = true
      · rw [if_pos hn] at h; omega
      · rw [if_neg hn] at h
        by_cases hjn : j = n
        · rw [hjn]; exact gm_nt hn
        · exact ih.mp (by omega) j (by omega)
    · intro h
      have e1 := ih.mpr (fun j hj => h j (by omega))
      have e2 := h n (by omega)
      simp [e1, e2]
theorem gm_cnt_p {S : Nat → Bool} {n : Nat} : 0 < gm_cnt S n ↔ ∃ j, j < n ∧ S j = true := by
  constructor
  · intro h
    by_cases hx : ∃ j, j < n ∧ S j = true
    · exact hx
    · have : gm_cnt S n = 0 := (gm_cnt_0 n).mpr (fun j hj => gm_nt (fun hs => hx ⟨j, hj, hs⟩))
      omega
  · rintro ⟨j, hj, hs⟩
    apply Nat.pos_of_ne_zero
    intro h0
    rw [(gm_cnt_0 n).mp h0 j hj] at hs
    cases hs
theorem gm_cnt_m {S T : Nat → Bool} : ∀ n : Nat, (∀ j, j < n → S j = true → T j = true) → gm_cnt S n ≤ gm_cnt T n := by
  intro n
  induction n with
  | zero => intro _; exact Nat.le_refl _
  | succ n ih =>
    intro h
    have h1 := ih (fun j hj => h j (by omega))
    rw [gm_cnt, gm_cnt]
    by_cases hs : S n = true
    · rw [if_pos hs, if_pos (h n (by omega) hs)]; omega
    · rw [if_neg hs]; omega
theorem gm_cnt_le (S : Nat → Bool) : ∀ n : Nat, gm_cnt S n ≤ n := by
  intro n
  induction n with
  | zero => exact Nat.le_refl _
  | succ n ih => rw [gm_cnt]; by_cases hs : S n = true <;> simp [hs] <;> omega
theorem gm_cnt_or {S T : Nat → Bool} : ∀ n : Nat, (∀ j, j < n → S j = true → T j = true → False) → gm_cnt (fun j => S j || T j) n = gm_cnt S n + gm_cnt T n := by
  intro n
  induction n with
  | zero => intro _; rfl
  | succ n ih =>
    intro h
    rw [gm_cnt, gm_cnt, gm_cnt, ih (fun j hj => h j (by omega))]
    by_cases hs : S n = true
    · have ht : ¬ T n = true := fun ht => h n (by omega) hs ht
      rw [if_pos hs, if_neg ht, if_pos (by simp [hs])]; omega
    · by_cases ht : T n = true
      · rw [if_neg hs, if_pos ht, if_pos (by simp [ht])]; omega
      · rw [if_neg hs, if_neg ht, if_neg (by simp [hs, ht])]; omega
theorem gm_cnt_1 (x : Nat) : ∀ n : Nat, gm_cnt (fun j => decide (j = x)) n = if x < n then 1 else 0 := by
  intro n
  induction n with
  | zero => rfl
  | succ n ih =>
    rw [gm_cnt, ih]
    by_cases h : x < n
    · rw [if_pos h, if_neg (by rw [decide_eq_true_eq]; omega), if_pos (by omega)]
    · rw [if_neg h]
      by_cases h2 : n = x
      · rw [if_pos (by rw [decide_eq_true_eq]; exact h2), if_pos (by omega)]
      · rw [if_neg (by rw [decide_eq_true_eq]; exact h2), if_neg (by omega)]
theorem gm_cnt_rm {S T : Nat → Bool} {x n : Nat} (hx : x < n) (hs : S x = true) (hT : ∀ j, j < n → T j = (S j && !decide (j = x))) : gm_cnt S n = gm_cnt T n + 1 := by
  have e : gm_cnt S n = gm_cnt (fun j => T j || decide (j = x)) n := by
    apply gm_cnt_e
    intro j hj
    show S j = (T j || decide (j = x))
    rw [hT j hj]
    by_cases h : j = x
    · simp [h, hs]
    · simp [h]
  rw [e, gm_cnt_or, gm_cnt_1, if_pos hx]
  intro j hj h1 h2
  rw [hT j hj, h2] at h1
  simp at h1
theorem gm_cov_n {dr dc : Int} (hd : ¬ (dr = 0 ∧ dc = 0)) (h1 : dr = -1 ∨ dr = 0 ∨ dr = 1) (h2 : dc = -1 ∨ dc = 0 ∨ dc = 1) : ∀ (k : Nat) (r c : Int), (∀ i : Nat, i < k → gm_on (r + (i : Int) * dr) (c + (i : Int) * dc)) → gm_cnt (gm_cov dr dc k r c) 64 = k := by
  intro k
  induction k with
  | zero => intro r c _; exact (gm_cnt_0 64).mpr (fun j _ => rfl)
  | succ k ih =>
    intro r c h
    have h0 := h 0 (by omega)
    rw [gm_s0, gm_s0] at h0
    have hs : ∀ i : Nat, i < k → gm_on (r + dr + (i : Int) * dr) (c + dc + (i : Int) * dc) := by
      intro i hi
      have := h (i + 1) (by omega)
      rw [gm_st, gm_st] at this
      exact this
    have e : gm_cnt (gm_cov dr dc (k + 1) r c) 64 = gm_cnt (fun j => decide (j = gm_ix r c) || gm_cov dr dc k (r + dr) (c + dc) j) 64 := gm_cnt_e 64 (fun j _ => by rw [gm_cov])
    rw [e, gm_cnt_or, gm_cnt_1, if_pos (gm_ixlt h0), ih _ _ hs]
    · omega
    · intro j _ ha hb
      obtain ⟨i, hi, e2⟩ := (gm_cov_i _ _ _ _).mp hb
      have e1 : j = gm_ix r c := of_decide_eq_true ha
      obtain ⟨e3, e4⟩ := gm_ixinj h0 (hs i hi) (e1.symm.trans e2)
      rcases h1 with rfl | rfl | rfl <;> rcases h2 with rfl | rfl | rfl <;> omega
theorem gm_ray_n (p q : Nat → Bool) (s : Nat) {t : Nat} (ht : t < 9) : gm_cnt (gm_ray p q s t) 64 = gm_k p q s t := by
  by_cases h4 : t = 4
  · have e : gm_k p q s t = 0 := by unfold gm_k; rw [if_pos h4]
    rw [e]
    apply (gm_cnt_0 64).mpr
    intro j _
    unfold gm_ray
    rw [e]
    rfl
  · exact gm_cov_n (gm_dne h4) (gm_dr3 ht) (gm_dc3 t) _ _ _ (fun i hi => (gm_k_c hi).2.1)
theorem gm_acc_n (p q : Nat → Bool) (s : Nat) : ∀ T : Nat, T ≤ 9 → gm_cnt (gm_acc p q s T) 64 = gm_sum p q s T := by
  intro T
  induction T with
  | zero => intro _; exact (gm_cnt_0 64).mpr (fun j _ => rfl)
  | succ T ih =>
    intro hT
    have e : gm_cnt (gm_acc p q s (T + 1)) 64 = gm_cnt (fun j => gm_acc p q s T j || gm_ray p q s T j) 64 := gm_cnt_e 64 (fun j _ => by rw [gm_acc])
    rw [e, gm_cnt_or, ih (by omega), gm_ray_n p q s (by omega), gm_sum]
    intro j _ ha hb
    obtain ⟨i, hi, e⟩ := gm_ray_i hb
    rw [e, gm_acc_o (by omega) (Nat.le_refl T) (by omega) (gm_k_c hi).2.1] at ha
    cases ha
theorem gm_sum_p {p q : Nat → Bool} {s : Nat} : 0 < gm_sum p q s 9 ↔ ∃ j, gm_acc p q s 9 j = true := by
  rw [← gm_acc_n p q s 9 (by omega), gm_cnt_p]
  exact ⟨fun ⟨j, _, h⟩ => ⟨j, h⟩, fun ⟨j, h⟩ => ⟨j, (gm_acc_b h).1, h⟩⟩
theorem gm_lg_i {p q : Nat → Bool} {s : Nat} : gm_lg p q s = true ↔ s < 64 ∧ (p s = false ∧ q s = false) ∧ 0 < gm_sum p q s 9 := by
  unfold gm_lg
  rw [Bool.and_eq_true, Bool.and_eq_true, Bool.and_eq_true, decide_eq_true_eq, decide_eq_true_eq, Bool.not_eq_true', Bool.not_eq_true', and_assoc]
theorem gm_fl_i {p q : Nat → Bool} {s : Nat} (hs : s < 64) : gm_lg p q s = true ↔ ∃ j, gm_fl p q s j = true := by
  rw [gm_lg_i, gm_sum_p]
  unfold gm_fl
  constructor
  · rintro ⟨_, ⟨h1, h2⟩, j, hj⟩
    exact ⟨j, by simp [h1, h2, hj]⟩
  · rintro ⟨j, hj⟩
    rw [Bool.and_eq_true, Bool.and_eq_true, Bool.not_eq_true', Bool.not_eq_true'] at hj
    exact ⟨hs, hj.1, j, hj.2⟩
theorem gm_fl_n {p q : Nat → Bool} {s : Nat} (h : gm_lg p q s = true) : gm_cnt (gm_fl p q s) 64 = gm_sum p q s 9 := by
  obtain ⟨_, ⟨h1, h2⟩, _⟩ := gm_lg_i.mp h
  rw [← gm_acc_n p q s 9 (by omega)]
  apply gm_cnt_e
  intro j _
  unfold gm_fl
  simp [h1, h2]
theorem gm_e_s (p q : Nat → Bool) : gm_e q p = gm_e p q := by
  unfold gm_e
  apply gm_cnt_e
  intro j _
  unfold gm_em
  rw [Bool.and_comm (!q j)]
theorem gm_e_n {p q : Nat → Bool} {s : Nat} (h : gm_lg p q s = true) : gm_e p q = gm_e (gm_np p q s) (gm_nq p q s) + 1 := by
  obtain ⟨hs, ⟨h1, h2⟩, _⟩ := gm_lg_i.mp h
  unfold gm_e
  apply gm_cnt_rm hs
  · unfold gm_em; simp [h1, h2, hs]
  · intro j hj
    unfold gm_em gm_np gm_nq gm_g
    by_cases hjs : j = s
    · subst hjs; simp [h1, h2]
    · rw [decide_eq_false hjs]
      cases ha : gm_acc p q s 9 j with
      | false => cases p j <;> cases q j <;> simp
      | true =>
        obtain ⟨_, b1, b2⟩ := gm_acc_b ha
        rw [b1, b2]; simp
theorem gm_lg_e (p q : Nat → Bool) : gm_cnt (gm_lg p q) 64 ≤ gm_e p q := by
  apply gm_cnt_m
  intro j _ h
  obtain ⟨hs, ⟨h1, h2⟩, _⟩ := gm_lg_i.mp h
  unfold gm_em; simp [h1, h2, hs]
theorem gm_hm_i {p q : Nat → Bool} : gm_hm p q = true ↔ ∃ s, s < 64 ∧ gm_lg p q s = true := by
  unfold gm_hm
  rw [decide_eq_true_eq, gm_cnt_p]
theorem gm_hm_f {p q : Nat → Bool} (h : gm_hm p q = false) (s : Nat) : gm_lg p q s = false := by
  apply gm_nt
  intro hl
  have := gm_hm_i.mpr ⟨s, (gm_lg_i.mp hl).1, hl⟩
  rw [h] at this
  cases this
theorem gm_hm_e {p q : Nat → Bool} (h : gm_hm p q = true) : 0 < gm_e p q := by
  have h1 : 0 < gm_cnt (gm_lg p q) 64 := of_decide_eq_true h
  have := gm_lg_e p q
  omega
theorem gm_fd_e {f f' : Nat → Int} {L : Nat → Bool} : ∀ n : Nat, (∀ s, s < n → L s = true → f s = f' s) → gm_fd f L n = gm_fd f' L n := by
  intro n
  induction n with
  | zero => intro _; rfl
  | succ n ih =>
    intro h
    rw [gm_fd, gm_fd, ih (fun s hs => h s (by omega))]
    by_cases hL : L n = true
    · rw [h n (by omega) hL]
    · rw [if_neg (fun z => hL z.1), if_neg (fun z => hL z.1)]
theorem gm_fd_ge {f : Nat → Int} {L : Nat → Bool} {s : Nat} (hL : L s = true) : ∀ n : Nat, s < n → f s ≤ (gm_fd f L n).1 := by
  intro n
  induction n with
  | zero => intro h; omega
  | succ n ih =>
    intro h
    rw [gm_fd]
    by_cases hn : L n = true ∧ (gm_fd f L n).1 < f n
    · rw [if_pos hn]
      by_cases hs : s = n
      · subst hs; exact Int.le_refl _
      · have := ih (by omega)
        show f s ≤ f n
        omega
    · rw [if_neg hn]
      by_cases hs : s = n
      · rw [hs] at hL ⊢
        exact Int.not_lt.mp (fun z => hn ⟨hL, z⟩)
      · exact ih (by omega)
theorem gm_fd_i (f : Nat → Int) (L : Nat → Bool) : ∀ n : Nat, (gm_fd f L n = (-65, -1) ∧ ∀ s, s < n → L s = true → f s ≤ -65) ∨ ∃ x, x < n ∧ gm_fd f L n = (f x, (x : Int)) ∧ L x = true ∧ -65 < f x ∧ ∀ s, s < x → L s = true → f s < f x := by
  intro n
  induction n with
  | zero => exact Or.inl ⟨rfl, fun s hs => by omega⟩
  | succ n ih =>
    rw [gm_fd]
    by_cases hn : L n = true ∧ (gm_fd f L n).1 < f n
    · rw [if_pos hn]
      refine Or.inr ⟨n, by omega, rfl, hn.1, ?_, ?_⟩
      · rcases ih with ⟨e, _⟩ | ⟨x, _, e, _, h, _⟩
        · have := hn.2; rw [e] at this; exact this
        · have := hn.2; rw [e] at this; dsimp only at this; omega
      · intro s hs hLs
        have := gm_fd_ge (f := f) hLs n hs
        have := hn.2
        omega
    · rw [if_neg hn]
      rcases ih with ⟨e, h⟩ | ⟨x, hx, e, h⟩
      · refine Or.inl ⟨e, fun s hs hL => ?_⟩
        by_cases hsn : s = n
        · rw [e] at hn
          rw [hsn] at hL ⊢
          exact Int.not_lt.mp (fun z => hn ⟨hL, z⟩)
        · exact h s (by omega) hL
      · exact Or.inr ⟨x, by omega, e, h⟩
theorem gm_V_b : ∀ (n : Nat) (p q : Nat → Bool), -64 ≤ gm_V n p q ∧ gm_V n p q ≤ 64 := by
  intro n
  induction n with
  | zero => intro p q; rw [gm_V]; omega
  | succ n ih =>
    intro p q
    rw [gm_V]
    by_cases h1 : gm_hm p q = true
    · rw [if_pos h1]
      obtain ⟨s, hs, hL⟩ := gm_hm_i.mp h1
      rcases gm_fd_i (fun s => -gm_V n (gm_np p q s) (gm_nq p q s)) (gm_lg p q) 64 with ⟨_, h⟩ | ⟨x, _, e, _⟩
      · have h2 := h s hs hL
        have := ih (gm_np p q s) (gm_nq p q s)
        omega
      · rw [e]
        have := ih (gm_np p q x) (gm_nq p q x)
        dsimp only
        omega
    · rw [if_neg h1]
      by_cases h2 : gm_hm q p = true
      · rw [if_pos h2]; have := ih q p; omega
      · rw [if_neg h2]
        unfold gm_df
        have := gm_cnt_le p 64
        have := gm_cnt_le q 64
        omega
theorem gm_W_b (p q : Nat → Bool) : -64 ≤ gm_W p q ∧ gm_W p q ≤ 64 := gm_V_b _ p q
theorem gm_f_b (p q : Nat → Bool) (s : Nat) : -64 ≤ gm_f p q s ∧ gm_f p q s ≤ 64 := by
  unfold gm_f
  have := gm_W_b (gm_np p q s) (gm_nq p q s)
  omega
/-- more fuel than the game needs changes nothing -/
theorem gm_V_n : ∀ (n m : Nat) (p q : Nat → Bool), (2 * gm_e p q < n ∨ (gm_hm p q = true ∧ 2 * gm_e p q ≤ n)) → (2 * gm_e p q < m ∨ (gm_hm p q = true ∧ 2 * gm_e p q ≤ m)) → gm_V n p q = gm_V m p q := by
  intro n
  induction n with
  | zero =>
    intro m p q h _
    rcases h with h | ⟨h1, h2⟩
    · omega
    · have := gm_hm_e h1; omega
  | succ n ih =>
    intro m p q h h'
    cases m with
    | zero =>
      rcases h' with h | ⟨h1, h2⟩
      · omega
      · have := gm_hm_e h1; omega
    | succ m =>
      rw [gm_V, gm_V]
      by_cases h1 : gm_hm p q = true
      · rw [if_pos h1, if_pos h1]
        have e := gm_fd_e (f := fun s => -gm_V n (gm_np p q s) (gm_nq p q s)) (f' := fun s => -gm_V m (gm_np p q s) (gm_nq p q s)) (L := gm_lg p q) 64 (fun s _ hL => by
          have he := gm_e_n hL
          show -gm_V n (gm_np p q s) (gm_nq p q s) = -gm_V m (gm_np p q s) (gm_nq p q s)
          rw [ih m (gm_np p q s) (gm_nq p q s) (Or.inl (by omega)) (Or.inl (by omega))])
        rw [e]
      · rw [if_neg h1, if_neg h1]
        by_cases h2 : gm_hm q p = true
        · rw [if_pos h2, if_pos h2]
          have he := gm_e_s p q
          have a1 : 2 * gm_e p q < n + 1 := h.elim id (fun z => absurd z.1 h1)
          have a2 : 2 * gm_e p q < m + 1 := h'.elim id (fun z => absurd z.1 h1)
          rw [ih m q p (Or.inr ⟨h2, by omega⟩) (Or.inr ⟨h2, by omega⟩)]
        · rw [if_neg h2, if_neg h2]
theorem gm_W_m {p q : Nat → Bool} (h : gm_hm p q = true) : gm_W p q = (gm_fd (gm_f p q) (gm_lg p q) 64).1 := by
  unfold gm_W
  rw [gm_V, if_pos h]
  have e := gm_fd_e (f := fun s => -gm_V (2 * gm_e p q) (gm_np p q s) (gm_nq p q s)) (f' := gm_f p q) (L := gm_lg p q) 64 (fun s _ hL => by
    have he := gm_e_n hL
    show -gm_V (2 * gm_e p q) (gm_np p q s) (gm_nq p q s) = -gm_V (2 * gm_e (gm_np p q s) (gm_nq p q s) + 1) (gm_np p q s) (gm_nq p q s)
    rw [gm_V_n (2 * gm_e p q) (2 * gm_e (gm_np p q s) (gm_nq p q s) + 1) (gm_np p q s) (gm_nq p q s) (Or.inl (by omega)) (Or.inl (by omega))])
  rw [e]
theorem gm_W_p {p q : Nat → Bool} (h : gm_hm p q = false) (h2 : gm_hm q p = true) : gm_W p q = -gm_W q p := by
  unfold gm_W
  rw [gm_V, if_neg (by rw [h]; decide), if_pos h2]
  have he := gm_e_s p q
  rw [gm_V_n (2 * gm_e p q) (2 * gm_e q p + 1) q p (Or.inr ⟨h2, by omega⟩) (Or.inl (by omega))]
theorem gm_W_o {p q : Nat → Bool} (h : gm_hm p q = false) (h2 : gm_hm q p = false) : gm_W p q = gm_df p q := by
  unfold gm_W
  rw [gm_V, if_neg (by rw [h]; decide), if_neg (by rw [h2]; decide)]
theorem gm_fd_m {p q : Nat → Bool} (h : gm_hm p q = true) : ∃ x, x < 64 ∧ gm_fd (gm_f p q) (gm_lg p q) 64 = (gm_f p q x, (x : Int)) ∧ gm_lg p q x = true ∧ ∀ s, s < x → gm_lg p q s = true → gm_f p q s < gm_f p q x := by
  obtain ⟨s, hs, hL⟩ := gm_hm_i.mp h
  rcases gm_fd_i (gm_f p q) (gm_lg p q) 64 with ⟨_, h⟩ | ⟨x, hx, e, h1, _, h3⟩
  · have := h s hs hL
    have := gm_f_b p q s
    omega
  · exact ⟨x, hx, e, h1, h3⟩
