/-! an array board: slot o, side m -/
def yb_o (a : Nat → Int32) (o : Nat) (m : Int32) (j : Nat) : Bool := decide (j < 64 ∧ a (o + j) = m)
def yb_w (a : Nat → Int32) (o : Nat) (m : Int32) (S : Nat → Bool) : Nat → Int32 := fun x => if o ≤ x ∧ S (x - o) = true then m else a x
theorem yb_ob {a : Nat → Int32} {o : Nat} {m : Int32} {j : Nat} (h : 64 ≤ j) : yb_o a o m j = false := decide_eq_false (fun z => by omega)
theorem yb_oi {a : Nat → Int32} {o : Nat} {m : Int32} {j : Nat} (h : j < 64) : yb_o a o m j = true ↔ a (o + j) = m := by
  unfold yb_o
  rw [decide_eq_true_eq]
  exact ⟨fun z => z.2, fun z => ⟨h, z⟩⟩
theorem yb_of {a : Nat → Int32} {o : Nat} {m : Int32} {j : Nat} (h : j < 64) : yb_o a o m j = false ↔ ¬ a (o + j) = m := by
  rw [← yb_oi h]
  cases yb_o a o m j
  · exact ⟨fun _ z => (by cases z), fun _ => rfl⟩
  · exact ⟨fun z => (by cases z), fun z => absurd rfl z⟩
theorem yb_oe {a b : Nat → Int32} {o o' : Nat} {m : Int32} (h : ∀ j, j < 64 → b (o' + j) = a (o + j)) : yb_o b o' m = yb_o a o m := by
  funext j
  rcases Nat.lt_or_ge j 64 with z | z
  · unfold yb_o; rw [h j z]
  · rw [yb_ob z, yb_ob z]
theorem yb_w0 (a : Nat → Int32) (o : Nat) (m : Int32) : yb_w a o m (fun _ => false) = a := by
  funext x
  exact if_neg (fun z => by cases z.2)
theorem yb_we {a : Nat → Int32} {o : Nat} {m : Int32} {S T : Nat → Bool} (h : ∀ j, S j = T j) : yb_w a o m S = yb_w a o m T := by
  have : S = T := funext h
  rw [this]
theorem yb_wu (a : Nat → Int32) (o : Nat) (m : Int32) (S : Nat → Bool) (t : Nat) : upd (yb_w a o m S) (o + t) m = yb_w a o m (fun j => S j || decide (j = t)) := by
  funext x
  unfold upd yb_w
  by_cases h : x = o + t
  · rw [if_pos h, if_pos]
    refine ⟨by omega, ?_⟩
    show (S (x - o) || decide (x - o = t)) = true
    rw [decide_eq_true (show x - o = t by omega), Bool.or_true]
  · rw [if_neg h]
    by_cases h2 : o ≤ x ∧ S (x - o) = true
    · rw [if_pos h2, if_pos ⟨h2.1, by show (S (x - o) || decide (x - o = t)) = true; rw [h2.2, Bool.true_or]⟩]
    · rw [if_neg h2, if_neg]
      rintro ⟨z1, z2⟩
      replace z2 : (S (x - o) || decide (x - o = t)) = true := z2
      rw [Bool.or_eq_true, decide_eq_true_eq] at z2
      rcases z2 with z2 | z2
      · exact h2 ⟨z1, z2⟩
      · omega
theorem yb_wl {a : Nat → Int32} {o : Nat} {m : Int32} {S : Nat → Bool} (hS : ∀ j, S j = true → j < 64) {x : Nat} (h : x < o ∨ o + 64 ≤ x) : yb_w a o m S x = a x := by
  unfold yb_w
  rw [if_neg]
  rintro ⟨z1, z2⟩
  have := hS _ z2
  omega
theorem yb_wo {a : Nat → Int32} {o : Nat} {m : Int32} {S : Nat → Bool} (hS : ∀ j, S j = true → j < 64) (j : Nat) : yb_o (yb_w a o m S) o m j = (yb_o a o m j || S j) := by
  rcases Nat.lt_or_ge j 64 with z | z
  · have e : yb_w a o m S (o + j) = if S j = true then m else a (o + j) := by
      unfold yb_w
      rw [Nat.add_sub_cancel_left]
      by_cases h : S j = true
      · rw [if_pos h, if_pos ⟨by omega, h⟩]
      · rw [if_neg h, if_neg (fun z => h z.2)]
    unfold yb_o
    rw [e]
    by_cases h : S j = true
    · rw [if_pos h, h, decide_eq_true ⟨z, rfl⟩, Bool.or_true]
    · rw [if_neg h, gm_nt h, Bool.or_false]
  · have e : S j = false := gm_nt (fun h => by have := hS j h; omega)
    rw [yb_ob z, yb_ob z, e, Bool.or_false]
theorem yb_wp {a : Nat → Int32} {o : Nat} {m m' : Int32} {S : Nat → Bool} (hm : m ≠ m') (j : Nat) : yb_o (yb_w a o m S) o m' j = (yb_o a o m' j && !S j) := by
  rcases Nat.lt_or_ge j 64 with z | z
  · have e : yb_w a o m S (o + j) = if S j = true then m else a (o + j) := by
      unfold yb_w
      rw [Nat.add_sub_cancel_left]
      by_cases h : S j = true
      · rw [if_pos h, if_pos ⟨by omega, h⟩]
      · rw [if_neg h, if_neg (fun z => h z.2)]
    unfold yb_o
    rw [e]
    by_cases h : S j = true
    · rw [if_pos h, h, decide_eq_false (fun z => hm z.2), Bool.not_true, Bool.and_false]
    · rw [if_neg h, gm_nt h, Bool.not_false, Bool.and_true]
  · rw [yb_ob z, yb_ob z]
    rfl
def yb_s (m : Int32) : Prop := m = 1 ∨ m = 2
theorem yb_3 {m : Int32} (h : yb_s m) : yb_s (3 - m) ∧ 3 - (3 - m) = m ∧ m ≠ 3 - m := by
  rcases h with rfl | rfl
  · exact ⟨Or.inr (by decide), by decide, by decide⟩
  · exact ⟨Or.inl (by decide), by decide, by decide⟩
theorem gm_cov_r (dr dc : Int) (k : Nat) (r c : Int) (j : Nat) : gm_cov dr dc (k + 1) r c j = (gm_cov dr dc k r c j || decide (j = gm_ix (r + (k : Int) * dr) (c + (k : Int) * dc))) := by
  rw [Bool.eq_iff_iff, Bool.or_eq_true, gm_cov_i, gm_cov_i, decide_eq_true_eq]
  constructor
  · rintro ⟨i, hi, e⟩
    by_cases h : i = k
    · exact Or.inr (h ▸ e)
    · exact Or.inl ⟨i, by omega, e⟩
  · rintro (⟨i, hi, e⟩ | e)
    · exact ⟨i, by omega, e⟩
    · exact ⟨k, by omega, e⟩
theorem gm_g_b {p q : Nat → Bool} {s : Nat} (hs : s < 64) (j : Nat) (h : gm_g p q s j = true) : j < 64 := by
  unfold gm_g at h
  rw [Bool.or_eq_true, decide_eq_true_eq] at h
  rcases h with h | h
  · exact (gm_acc_b h).1
  · omega
/-- the ray t, walked over a board that holds the rays below t already as the mover's -/
theorem gm_k_q {p q : Nat → Bool} {s t : Nat} (ht : t < 9) : gm_k (fun j => p j || gm_acc p q s t j) (fun j => q j && !gm_acc p q s t j) s t = gm_k p q s t := by
  unfold gm_k
  by_cases h4 : t = 4
  · rw [if_pos h4, if_pos h4]
  · rw [if_neg h4, if_neg h4, gm_len_q (p := p) (q := q)]
    intro i _ ho
    rw [gm_acc_o (by omega) (Nat.le_refl t) ht ho, Bool.or_false, Bool.not_false, Bool.and_true]
    exact ⟨rfl, rfl⟩
theorem gm_off8 {a b : Int} {r c : Nat} (h1 : a = -1 ∨ a = 0 ∨ a = 1) (h2 : b = -1 ∨ b = 0 ∨ b = 1) (h3 : ¬ (a = 0 ∧ b = 0)) (hr : r < 8) (hc : c < 8) (ho : gm_on ((r : Int) + a + ((7 : Nat) : Int) * a) ((c : Int) + b + ((7 : Nat) : Int) * b)) : False := by
  obtain ⟨⟨o1, o2⟩, o3, o4⟩ := ho
  rcases h1 with h | h | h
  · rw [h] at o1; omega
  · rcases h2 with h' | h' | h'
    · rw [h'] at o3; omega
    · exact h3 ⟨h, h'⟩
    · rw [h'] at o4; omega
  · rw [h] at o2; omega
theorem gm_k8 {p q : Nat → Bool} {s t : Nat} (hs : s < 64) (h4 : t ≠ 4) (ht : t < 9) : gm_k p q s t = (gm_len p q (gm_dr t) (gm_dc t) 8 (gm_r0 s t) (gm_c0 s t)).getD 0 := by
  unfold gm_k
  rw [if_neg h4, gm_len_1 7]
  intro ho
  have h1 := gm_dr3 ht
  have h2 := gm_dc3 t
  have h3 := gm_dne h4
  unfold gm_r0 gm_c0 at ho
  exact gm_off8 h1 h2 h3 (show s / 8 < 8 by omega) (show s % 8 < 8 by omega) ho
/-! the line: positions after i entries, its length -/
def gm_pos (p q : Nat → Bool) : Nat → (Nat → Bool) × (Nat → Bool)
  | 0 => (p, q)
  | i + 1 => if gm_hm (gm_pos p q i).1 (gm_pos p q i).2 = true then (gm_np (gm_pos p q i).1 (gm_pos p q i).2 (gm_F (gm_pos p q i).1 (gm_pos p q i).2).toNat, gm_nq (gm_pos p q i).1 (gm_pos p q i).2 (gm_F (gm_pos p q i).1 (gm_pos p q i).2).toNat) else ((gm_pos p q i).2, (gm_pos p q i).1)
def gm_Fi (p q : Nat → Bool) (i : Nat) : Int := gm_F (gm_pos p q i).1 (gm_pos p q i).2
def gm_PL (p q : Nat → Bool) (l : Nat) : Prop := l ≤ 12 ∧ (∀ i, i < l → gm_Fi p q i ≠ -1) ∧ (l < 12 → gm_Fi p q l = -1)
theorem gm_PL_u {p q : Nat → Bool} {l l' : Nat} (h : gm_PL p q l) (h' : gm_PL p q l') : l = l' := by
  obtain ⟨a1, a2, a3⟩ := h
  obtain ⟨b1, b2, b3⟩ := h'
  rcases Nat.lt_trichotomy l l' with z | z | z
  · exact absurd (a3 (by omega)) (b2 l z)
  · exact z
  · exact absurd (b3 (by omega)) (a2 l' z)
theorem gm_F_m {p q : Nat → Bool} (h : gm_hm p q = true) : ∃ x : Nat, x < 64 ∧ gm_F p q = (x : Int) ∧ gm_lg p q x = true ∧ gm_f p q x = gm_W p q ∧ ∀ s, s < x → gm_lg p q s = true → gm_f p q s < gm_W p q := by
  obtain ⟨x, hx, e, h1, h2⟩ := gm_fd_m h
  have eW : gm_W p q = gm_f p q x := by rw [gm_W_m h, e]
  refine ⟨x, hx, ?_, h1, eW.symm, ?_⟩
  · unfold gm_F; rw [if_pos h, e]
  · rw [eW]; exact h2
theorem gm_F_p {p q : Nat → Bool} (h : gm_hm p q = false) (h2 : gm_hm q p = true) : gm_F p q = 64 := by
  unfold gm_F; rw [if_neg (by rw [h]; decide), if_pos h2]
theorem gm_F_o {p q : Nat → Bool} (h : gm_hm p q = false) (h2 : gm_hm q p = false) : gm_F p q = -1 := by
  unfold gm_F; rw [if_neg (by rw [h]; decide), if_neg (by rw [h2]; decide)]
theorem gm_F_b (p q : Nat → Bool) : -1 ≤ gm_F p q ∧ gm_F p q ≤ 64 := by
  cases h : gm_hm p q with
  | true => obtain ⟨x, hx, e, _⟩ := gm_F_m h; omega
  | false =>
    cases h2 : gm_hm q p with
    | true => rw [gm_F_p h h2]; omega
    | false => rw [gm_F_o h h2]; omega
theorem gm_pos_e (p q : Nat → Bool) : ∀ i : Nat, gm_e (gm_pos p q i).1 (gm_pos p q i).2 ≤ gm_e p q := by
  intro i
  induction i with
  | zero => exact Nat.le_refl _
  | succ i ih =>
    rw [gm_pos]
    by_cases h : gm_hm (gm_pos p q i).1 (gm_pos p q i).2 = true
    · rw [if_pos h]
      obtain ⟨x, hx, e, h1, _⟩ := gm_F_m h
      have := gm_e_n h1
      rw [e]
      show gm_e (gm_np _ _ x) (gm_nq _ _ x) ≤ _
      omega
    · rw [if_neg h]
      have := gm_e_s (gm_pos p q i).1 (gm_pos p q i).2
      show gm_e (gm_pos p q i).2 (gm_pos p q i).1 ≤ _
      omega
