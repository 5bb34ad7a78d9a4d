/-! the reference's stack of slots, over any loop predicate L -/
abbrev gy_A : Type := (Nat → Int32) × (Nat → Int32) × (Nat → Int32) × (Nat → Int32) × (Nat → Int32)
abbrev gy_C : Type := Nat × Nat × Int32 × Int32 × gy_A
def gy_T (a : Nat → Int32) (o : Nat) : Prop := ∀ j, j < 64 → a (o + j) = 0 ∨ a (o + j) = 1 ∨ a (o + j) = 2
def gy_bd (A : gy_A) (d : Nat) (P Q : Nat → Bool) : Prop := yb_s (A.2.1 d) ∧ P = yb_o A.1 (64 * d) (A.2.1 d) ∧ Q = yb_o A.1 (64 * d) (3 - A.2.1 d) ∧ gy_T A.1 (64 * d)
def gy_ag (d : Nat) (A B : gy_A) : Prop := (∀ x, x < 64 * (d + 1) → B.1 x = A.1 x) ∧ (∀ i, i < d + 1 → B.2.1 i = A.2.1 i) ∧ ∀ i, i < d → B.2.2.1 i = A.2.2.1 i ∧ B.2.2.2.1 i = A.2.2.2.1 i ∧ B.2.2.2.2 i = A.2.2.2.2 i
def gy_y (b : Int) : Int := if b = -65 then -1000 else b
def gy_Fre (b0 : Nat) (c : gy_C) (s d : Nat) (P Q : Nat → Bool) : Prop := c.1 = s ∧ c.2.1 = d ∧ b0 ≤ d ∧ c.2.2.1 = 0 ∧ gy_bd c.2.2.2.2 d P Q ∧ c.2.2.2.2.2.2.1 d = 0
def gy_Mid (b0 : Nat) (c : gy_C) (s d : Nat) (P Q : Nat → Bool) (u : Nat) : Prop := c.1 = s ∧ c.2.1 = d ∧ b0 ≤ d ∧ c.2.2.1 = 0 ∧ gy_bd c.2.2.2.2 d P Q ∧ c.2.2.2.2.2.2.1 d = 1 ∧ c.2.2.2.2.2.2.2.1 d = nI u ∧ c.2.2.2.2.2.2.2.2 d = zi_z (gy_y (gm_fd (gm_f P Q) (gm_lg P Q) u).1)
def gy_Don (c : gy_C) (s d : Nat) (P Q : Nat → Bool) : Prop := c.1 = s ∧ c.2.1 = d ∧ c.2.2.1 = 1 ∧ c.2.2.2.1 = zi_z (gm_W P Q)
def gy_Wai (b0 : Nat) (c : gy_C) (d : Nat) (P Q : Nat → Bool) (x : Nat) : Prop := b0 ≤ d ∧ gy_bd c.2.2.2.2 d P Q ∧ c.2.2.2.2.2.2.1 d = 1 ∧ c.2.2.2.2.2.2.2.1 d = nI (x + 1) ∧ c.2.2.2.2.2.2.2.2 d = zi_z (gy_y (gm_fd (gm_f P Q) (gm_lg P Q) x).1)
def gy_WaP (b0 : Nat) (c : gy_C) (d : Nat) (_ _ : Nat → Bool) : Prop := b0 ≤ d ∧ c.2.2.2.2.2.2.1 d = 2
def gy_Ag (d : Nat) (c c' : gy_C) : Prop := gy_ag d c.2.2.2.2 c'.2.2.2.2
def gy_LO (L : gy_C → Prop) : Prop := ∀ (s d : Nat) (r : Int32) (A : gy_A) (P Q : Nat → Bool), s < 2000000 → d ≤ 14 → gy_bd A d P Q → A.2.2.1 d = 0 → gm_hm P Q = false → gm_hm Q P = false → L (s + 1, d, 1, zi_z (gm_df P Q), A) → L (s, d, 0, r, A)
def gy_LS (L : gy_C → Prop) : Prop := ∀ (s d : Nat) (r : Int32) (A : gy_A) (P Q : Nat → Bool), s < 2000000 → d ≤ 14 → gy_bd A d P Q → A.2.2.1 d = 0 → gm_hm P Q = true → (∀ A' r', gy_ag d A A' → A'.2.2.1 d = 1 → A'.2.2.2.1 d = nI 0 → A'.2.2.2.2 d = zi_z (-1000) → L (s + 1, d, 0, r', A')) → L (s, d, 0, r, A)
def gy_LM (L : gy_C → Prop) : Prop := ∀ (s d u x : Nat) (r : Int32) (A : gy_A) (P Q : Nat → Bool), s < 2000000 → d + 1 ≤ 14 → gy_bd A d P Q → A.2.2.1 d = 1 → A.2.2.2.1 d = nI u → u ≤ x → x < 64 → gm_lg P Q x = true → (∀ j, u ≤ j → j < x → gm_lg P Q j = false) → (∀ A' r', gy_ag d A A' → A'.2.2.1 d = 1 → A'.2.2.2.1 d = nI (x + 1) → A'.2.2.2.2 d = A.2.2.2.2 d → gy_bd A' (d + 1) (gm_np P Q x) (gm_nq P Q x) → A'.2.2.1 (d + 1) = 0 → L (s + 1, d + 1, 0, r', A')) → L (s, d, 0, r, A)
def gy_LE (L : gy_C → Prop) : Prop := ∀ (s d u : Nat) (r : Int32) (A : gy_A) (P Q : Nat → Bool), s < 2000000 → d ≤ 14 → gy_bd A d P Q → A.2.2.1 d = 1 → A.2.2.2.1 d = nI u → u ≤ 64 → (∀ j, u ≤ j → j < 64 → gm_lg P Q j = false) → L (s + 1, d, 1, A.2.2.2.2 d, A) → L (s, d, 0, r, A)
def gy_LP (L : gy_C → Prop) : Prop := ∀ (s d : Nat) (r : Int32) (A : gy_A) (P Q : Nat → Bool), s < 2000000 → d + 1 ≤ 14 → gy_bd A d P Q → A.2.2.1 d = 0 → gm_hm P Q = false → gm_hm Q P = true → (∀ A' r', gy_ag d A A' → A'.2.2.1 d = 2 → gy_bd A' (d + 1) Q P → A'.2.2.1 (d + 1) = 0 → L (s + 1, d + 1, 0, r', A')) → L (s, d, 0, r, A)
def gy_LR (b0 : Nat) (L : gy_C → Prop) : Prop := ∀ (s d : Nat) (r : Int32) (A : gy_A), s < 2000000 → d + 1 ≤ 14 → b0 ≤ d → A.2.2.1 d = 1 → (∀ A', gy_ag d A A' → A'.2.2.1 d = 1 → A'.2.2.2.1 d = A.2.2.2.1 d → A'.2.2.2.2 d = (if A.2.2.2.2 d < -r then -r else A.2.2.2.2 d) → ∀ r', L (s + 1, d, 0, r', A')) → L (s, d + 1, 1, r, A)
def gy_LQ (b0 : Nat) (L : gy_C → Prop) : Prop := ∀ (s d : Nat) (r : Int32) (A : gy_A), s < 2000000 → d + 1 ≤ 14 → b0 ≤ d → A.2.2.1 d = 2 → L (s + 1, d, 1, -r, A) → L (s, d + 1, 1, r, A)
theorem gy_bd_a {A B : gy_A} {d : Nat} {P Q : Nat → Bool} (h : gy_ag d A B) (hb : gy_bd A d P Q) : gy_bd B d P Q := by
  obtain ⟨h1, h2, _⟩ := h
  obtain ⟨b1, b2, b3, b4⟩ := hb
  have e := h2 d (by omega)
  have ec : ∀ j, j < 64 → B.1 (64 * d + j) = A.1 (64 * d + j) := fun j hj => h1 _ (by omega)
  refine ⟨by rw [e]; exact b1, ?_, ?_, ?_⟩
  · rw [e, b2, yb_oe ec]
  · rw [e, b3, yb_oe ec]
  · intro j hj
    rw [ec j hj]
    exact b4 j hj
theorem gy_ag_r (d : Nat) (A : gy_A) : gy_ag d A A := ⟨fun _ _ => rfl, fun _ _ => rfl, fun _ _ => ⟨rfl, rfl, rfl⟩⟩
theorem gy_ag_t {d : Nat} {A B E : gy_A} (h : gy_ag d A B) (h' : gy_ag d B E) : gy_ag d A E := by
  obtain ⟨a1, a2, a3⟩ := h
  obtain ⟨b1, b2, b3⟩ := h'
  refine ⟨fun x hx => (b1 x hx).trans (a1 x hx), fun i hi => (b2 i hi).trans (a2 i hi), fun i hi => ?_⟩
  obtain ⟨c1, c2, c3⟩ := a3 i hi
  obtain ⟨e1, e2, e3⟩ := b3 i hi
  exact ⟨e1.trans c1, e2.trans c2, e3.trans c3⟩
theorem gy_ag_m {d : Nat} {A B : gy_A} (h : gy_ag (d + 1) A B) : gy_ag d A B := ⟨fun x hx => h.1 x (by omega), fun i hi => h.2.1 i (by omega), fun i hi => h.2.2 i (by omega)⟩
theorem gy_yb {b : Int} (h : -65 ≤ b ∧ b ≤ 64) : -1000 ≤ gy_y b ∧ gy_y b ≤ 64 := by
  unfold gy_y
  by_cases e : b = -65
  · rw [if_pos e]; omega
  · rw [if_neg e]; omega
theorem gy_yl {b x : Int} (h : -65 ≤ b ∧ b ≤ 64) (hx : -64 ≤ x ∧ x ≤ 64) : gy_y b < x ↔ b < x := by
  unfold gy_y
  by_cases e : b = -65
  · rw [if_pos e]; omega
  · rw [if_neg e]
theorem gy_ye {b : Int} (h : b ≠ -65) : gy_y b = b := if_neg h
theorem gy_R {b0 : Nat} {L : gy_C → Prop} (hO : gy_LO L) (hS : gy_LS L) (hM : gy_LM L) (hE : gy_LE L) (hP : gy_LP L) (hR : gy_LR b0 L) (hQ : gy_LQ b0 L) : gs_R 2000000 14 L (gy_Fre b0) gy_Don (gy_Mid b0) (gy_Wai b0) (gy_WaP b0) gy_Ag := by
  refine ⟨fun d a b c h h' => gy_ag_t h h', fun d a b h => gy_ag_m h, ?_, ?_, ?_, ?_, ?_, ?_, ?_, ?_, ?_⟩
  · rintro d a b P Q x h ⟨w0, w1, w2, w3, w4⟩
    obtain ⟨g1, g2, g3⟩ := h.2.2 d (by omega)
    exact ⟨w0, gy_bd_a (gy_ag_m h) w1, g1.trans w2, g2.trans w3, g3.trans w4⟩
  · rintro d a b P Q h ⟨w0, w1⟩
    exact ⟨w0, (h.2.2 d (by omega)).1.trans w1⟩
  · rintro d ⟨cs, cd, h, r, A⟩ s P Q hd hs ⟨e1, e2, e3, e4, e5, e6⟩ h1 h2 hL
    dsimp only at e1 e2 e4 e5 e6
    subst e1 e2 e4
    refine hO cs cd r A P Q hs hd e5 e6 h1 h2 ?_
    exact hL _ (cs + 1) (Nat.le_refl _) (gy_ag_r _ _) ⟨rfl, rfl, rfl, by rw [gm_W_o h1 h2]⟩
  · rintro d ⟨cs, cd, h, r, A⟩ s P Q hd hs ⟨e1, e2, e3, e4, e5, e6⟩ h1 hL
    dsimp only at e1 e2 e4 e5 e6
    subst e1 e2 e4
    refine hS cs cd r A P Q hs hd e5 e6 h1 ?_
    intro A' r' ha a1 a2 a3
    exact hL _ (cs + 1) (Nat.le_refl _) ha ⟨rfl, rfl, e3, rfl, gy_bd_a ha e5, a1, a2, a3⟩
  · rintro d ⟨cs, cd, h, r, A⟩ s P Q u x hd hs ⟨e1, e2, e3, e4, e5, e6, e7, e8⟩ hu hx hlx hg hL
    dsimp only at e1 e2 e4 e5 e6 e7 e8
    subst e1 e2 e4
    refine hM cs cd u x r A P Q hs hd e5 e6 e7 hu hx hlx hg ?_
    intro A' r' ha a1 a2 a3 a4 a5
    refine hL (cs + 1, cd + 1, 0, r', A') (cs + 1) (Nat.le_refl _) ha ⟨e3, gy_bd_a ha e5, a1, a2, ?_⟩ ⟨rfl, rfl, by omega, rfl, a4, a5⟩
    show A'.2.2.2.2 cd = _
    rw [a3, e8, gs_fd_g x hu hg]
  · rintro d ⟨cs, cd, h, r, A⟩ s P Q x hd hs hx hlx ⟨w0, w1, w2, w3, w4⟩ ⟨e1, e2, e3, e4⟩ hL
    dsimp only at e1 e2 e3 e4 w1 w2 w3 w4
    subst e1 e2 e3 e4
    refine hR cs d _ A hs hd w0 w2 ?_
    intro A' ha a1 a2 a3 r'
    refine hL (cs + 1, d, 0, r', A') (cs + 1) (Nat.le_refl _) ha ⟨rfl, rfl, w0, rfl, gy_bd_a ha w1, a1, a2.trans w3, ?_⟩
    have b1 := gm_fd_b (p := P) (q := Q) x
    have b2 := gm_W_b (gm_np P Q x) (gm_nq P Q x)
    have b3 := gy_yb b1
    have b4 := gm_f_b P Q x
    have ef : -gm_W (gm_np P Q x) (gm_nq P Q x) = gm_f P Q x := rfl
    rw [w4] at a3
    have hq : zi_z (gy_y (gm_fd (gm_f P Q) (gm_lg P Q) x).1) < -zi_z (gm_W (gm_np P Q x) (gm_nq P Q x)) ↔ (gm_fd (gm_f P Q) (gm_lg P Q) x).1 < gm_f P Q x := by
      rw [zi_neg, zi_lt (by omega) (by omega) (by omega) (by omega), ef, gy_yl b1 b4]
    show A'.2.2.2.2 d = zi_z (gy_y (gm_fd (gm_f P Q) (gm_lg P Q) (x + 1)).1)
    rw [a3, gm_fd]
    by_cases h : (gm_fd (gm_f P Q) (gm_lg P Q) x).1 < gm_f P Q x
    · rw [if_pos (hq.mpr h), if_pos ⟨hlx, h⟩, gy_ye (by show gm_f P Q x ≠ -65; omega), zi_neg]
      rfl
    · rw [if_neg (fun z => h (hq.mp z)), if_neg (fun z => h z.2)]
  · rintro d ⟨cs, cd, h, r, A⟩ s P Q u hd hs ⟨e1, e2, e3, e4, e5, e6, e7, e8⟩ h1 hu hn hL
    dsimp only at e1 e2 e4 e5 e6 e7 e8
    subst e1 e2 e4
    refine hE cs cd u r A P Q hs hd e5 e6 e7 hu hn ?_
    refine hL _ (cs + 1) (Nat.le_refl _) (gy_ag_r _ _) ⟨rfl, rfl, rfl, ?_⟩
    show A.2.2.2.2 cd = zi_z (gm_W P Q)
    have b2 := gm_W_b P Q
    rw [e8, ← gs_fd_g 64 hu hn, ← gm_W_m h1, gy_ye (by omega)]
  · rintro d ⟨cs, cd, h, r, A⟩ s P Q hd hs ⟨e1, e2, e3, e4, e5, e6⟩ h1 h2 hL
    dsimp only at e1 e2 e4 e5 e6
    subst e1 e2 e4
    refine hP cs cd r A P Q hs hd e5 e6 h1 h2 ?_
    intro A' r' ha a1 a2 a3
    exact hL (cs + 1, cd + 1, 0, r', A') (cs + 1) (Nat.le_refl _) ha ⟨e3, a1⟩ ⟨rfl, rfl, by omega, rfl, a2, a3⟩
  · rintro d ⟨cs, cd, h, r, A⟩ s P Q hd hs h1 h2 ⟨w0, w1⟩ ⟨e1, e2, e3, e4⟩ hL
    dsimp only at e1 e2 e3 e4 w1
    subst e1 e2 e3 e4
    refine hQ cs d _ A hs hd w0 w1 ?_
    refine hL _ (cs + 1) (Nat.le_refl _) (gy_ag_r _ _) ⟨rfl, rfl, rfl, ?_⟩
    show -zi_z (gm_W Q P) = zi_z (gm_W P Q)
    rw [zi_neg, gm_W_p h1 h2]
