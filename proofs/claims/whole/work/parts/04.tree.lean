/-! a search by a stack, in general: what its steps must do, and that it then finds the value -/
theorem gs_first (L : Nat → Bool) (u : Nat) : ∀ n : Nat, (∀ j, u ≤ j → j < n → L j = false) ∨ ∃ x, u ≤ x ∧ x < n ∧ L x = true ∧ ∀ j, u ≤ j → j < x → L j = false := by
  intro n
  induction n with
  | zero => exact Or.inl (fun j _ h => by omega)
  | succ n ih =>
    rcases ih with h | ⟨x, h1, h2, h3⟩
    · by_cases hn : u ≤ n ∧ L n = true
      · exact Or.inr ⟨n, hn.1, by omega, hn.2, h⟩
      · refine Or.inl (fun j h1 h2 => ?_)
        by_cases hj : j = n
        · exact gm_nt (fun z => hn ⟨by omega, hj ▸ z⟩)
        · exact h j h1 (by omega)
    · exact Or.inr ⟨x, h1, by omega, h3⟩
theorem gs_fd_g {f : Nat → Int} {L : Nat → Bool} {u : Nat} : ∀ n : Nat, u ≤ n → (∀ j, u ≤ j → j < n → L j = false) → gm_fd f L n = gm_fd f L u := by
  intro n
  induction n with
  | zero => intro h _; have e : u = 0 := (by omega); rw [e]
  | succ n ih =>
    intro h hj
    by_cases e : u = n + 1
    · rw [e]
    · rw [gm_fd, if_neg, ih (by omega) (fun j a b => hj j a (by omega))]
      intro z
      have := hj n (by omega) (by omega)
      rw [z.1] at this
      cases this
theorem gs_cnt_g {L : Nat → Bool} {u : Nat} : ∀ n : Nat, u ≤ n → (∀ j, u ≤ j → j < n → L j = false) → gm_cnt L n = gm_cnt L u := by
  intro n
  induction n with
  | zero => intro h _; have e : u = 0 := (by omega); rw [e]
  | succ n ih =>
    intro h hj
    by_cases e : u = n + 1
    · rw [e]
    · rw [gm_cnt, ih (by omega) (fun j a b => hj j a (by omega)), if_neg (by rw [hj n (by omega) (by omega)]; decide), Nat.add_zero]
theorem gs_cnt_u {L : Nat → Bool} {u : Nat} : ∀ n : Nat, u ≤ n → gm_cnt L u ≤ gm_cnt L n := by
  intro n
  induction n with
  | zero => intro h; have e : u = 0 := (by omega); subst e; exact Nat.le_refl _
  | succ n ih =>
    intro h
    by_cases e : u = n + 1
    · subst e; exact Nat.le_refl _
    · have := ih (by omega)
      rw [gm_cnt]; omega
def gs_A : Nat → Nat
  | 0 => 4
  | e + 1 => 4 + (e + 1) * (gs_A e + 2)
theorem gs_A_m {e : Nat} (h : e ≤ 6) : gs_A e ≤ 20000 := by
  have : ∀ e, e < 7 → gs_A e ≤ 20000 := by decide +kernel
  exact this e (by omega)
def gs_R {C : Type} (K D : Nat) (L : C → Prop) (Fre Don : C → Nat → Nat → (Nat → Bool) → (Nat → Bool) → Prop) (Mid : C → Nat → Nat → (Nat → Bool) → (Nat → Bool) → Nat → Prop) (Wai : C → Nat → (Nat → Bool) → (Nat → Bool) → Nat → Prop) (WaP : C → Nat → (Nat → Bool) → (Nat → Bool) → Prop) (Ag : Nat → C → C → Prop) : Prop :=
  (∀ d a b c, Ag d a b → Ag d b c → Ag d a c) ∧
  (∀ d a b, Ag (d + 1) a b → Ag d a b) ∧
  (∀ d a b P Q x, Ag (d + 1) a b → Wai a d P Q x → Wai b d P Q x) ∧
  (∀ d a b P Q, Ag (d + 1) a b → WaP a d P Q → WaP b d P Q) ∧
  (∀ d c s P Q, d ≤ D → s < K → Fre c s d P Q → gm_hm P Q = false → gm_hm Q P = false → (∀ c' s', s' ≤ s + 1 → Ag d c c' → Don c' s' d P Q → L c') → L c) ∧
  (∀ d c s P Q, d ≤ D → s < K → Fre c s d P Q → gm_hm P Q = true → (∀ c' s', s' ≤ s + 1 → Ag d c c' → Mid c' s' d P Q 0 → L c') → L c) ∧
  (∀ d c s P Q u x, d + 1 ≤ D → s < K → Mid c s d P Q u → u ≤ x → x < 64 → gm_lg P Q x = true → (∀ j, u ≤ j → j < x → gm_lg P Q j = false) → (∀ c' s', s' ≤ s + 1 → Ag d c c' → Wai c' d P Q x → Fre c' s' (d + 1) (gm_np P Q x) (gm_nq P Q x) → L c') → L c) ∧
  (∀ d c s P Q x, d + 1 ≤ D → s < K → x < 64 → gm_lg P Q x = true → Wai c d P Q x → Don c s (d + 1) (gm_np P Q x) (gm_nq P Q x) → (∀ c' s', s' ≤ s + 1 → Ag d c c' → Mid c' s' d P Q (x + 1) → L c') → L c) ∧
  (∀ d c s P Q u, d ≤ D → s < K → Mid c s d P Q u → gm_hm P Q = true → u ≤ 64 → (∀ j, u ≤ j → j < 64 → gm_lg P Q j = false) → (∀ c' s', s' ≤ s + 1 → Ag d c c' → Don c' s' d P Q → L c') → L c) ∧
  (∀ d c s P Q, d + 1 ≤ D → s < K → Fre c s d P Q → gm_hm P Q = false → gm_hm Q P = true → (∀ c' s', s' ≤ s + 1 → Ag d c c' → WaP c' d P Q → Fre c' s' (d + 1) Q P → L c') → L c) ∧
  (∀ d c s P Q, d + 1 ≤ D → s < K → gm_hm P Q = false → gm_hm Q P = true → WaP c d P Q → Don c s (d + 1) Q P → (∀ c' s', s' ≤ s + 1 → Ag d c c' → Don c' s' d P Q → L c') → L c)
section
variable {C : Type} {K D : Nat} {L : C → Prop} {Fre Don : C → Nat → Nat → (Nat → Bool) → (Nat → Bool) → Prop} {Mid : C → Nat → Nat → (Nat → Bool) → (Nat → Bool) → Nat → Prop} {Wai : C → Nat → (Nat → Bool) → (Nat → Bool) → Nat → Prop} {WaP : C → Nat → (Nat → Bool) → (Nat → Bool) → Prop} {Ag : Nat → C → C → Prop}
theorem gs_mid (R : gs_R K D L Fre Don Mid Wai WaP Ag) {d B : Nat} {P Q : Nat → Bool} (hd : d + 1 ≤ D) (hm : gm_hm P Q = true)
    (hch : ∀ c s x, gm_lg P Q x = true → Fre c s (d + 1) (gm_np P Q x) (gm_nq P Q x) → s + B ≤ K → (∀ c' s', s' ≤ s + B → Ag (d + 1) c c' → Don c' s' (d + 1) (gm_np P Q x) (gm_nq P Q x) → L c') → L c) :
    ∀ (k u : Nat) (c : C) (s N : Nat), 64 - u ≤ k → u ≤ 64 → Mid c s d P Q u → N + gm_cnt (gm_lg P Q) u = gm_cnt (gm_lg P Q) 64 → s + N * (B + 2) + 1 ≤ K → (∀ c' s', s' ≤ s + N * (B + 2) + 1 → Ag d c c' → Don c' s' d P Q → L c') → L c := by
  obtain ⟨tr, mo, wk, wpk, ro, rs, rm, rr, re, rp, rq⟩ := R
  intro k
  induction k with
  | zero =>
    intro u c s N hk hu hM hN hs hL
    exact re d c s P Q u (by omega) (by omega) hM hm hu (fun j a b => by omega) (fun c' s' a b e => hL c' s' (by omega) b e)
  | succ k ih =>
    intro u c s N hk hu hM hN hs hL
    rcases gs_first (gm_lg P Q) u 64 with hn | ⟨x, h1, h2, h3, h4⟩
    · exact re d c s P Q u (by omega) (by omega) hM hm hu hn (fun c' s' a b e => hL c' s' (by omega) b e)
    · have g1 := gs_cnt_g (L := gm_lg P Q) x h1 h4
      have g2 : gm_cnt (gm_lg P Q) (x + 1) = gm_cnt (gm_lg P Q) x + 1 := by rw [gm_cnt, if_pos h3]
      have g3 := gs_cnt_u (L := gm_lg P Q) (u := x + 1) 64 (by omega)
      cases N with
      | zero => omega
      | succ N =>
        rw [Nat.succ_mul] at hs hL
        refine rm d c s P Q u x hd (by omega) hM h1 h2 h3 h4 (fun c1 s1 b1 a1 w1 f1 => ?_)
        refine hch c1 s1 x h3 f1 (by omega) (fun c2 s2 b2 a2 d2 => ?_)
        refine rr d c2 s2 P Q x hd (by omega) h2 h3 (wk d c1 c2 P Q x a2 w1) d2 (fun c3 s3 b3 a3 m3 => ?_)
        refine ih (x + 1) c3 s3 N (by omega) (by omega) m3 (by omega) (by omega) (fun c4 s4 b4 a4 d4 => ?_)
        exact hL c4 s4 (by omega) (tr d _ _ _ a1 (tr d _ _ _ (mo d _ _ a2) (tr d _ _ _ a3 a4))) d4
theorem gs_mov (R : gs_R K D L Fre Don Mid Wai WaP Ag) {d B : Nat} {P Q : Nat → Bool} (hd : d + 1 ≤ D) (hm : gm_hm P Q = true)
    (hch : ∀ c s x, gm_lg P Q x = true → Fre c s (d + 1) (gm_np P Q x) (gm_nq P Q x) → s + B ≤ K → (∀ c' s', s' ≤ s + B → Ag (d + 1) c c' → Don c' s' (d + 1) (gm_np P Q x) (gm_nq P Q x) → L c') → L c)
    {c : C} {s : Nat} (hF : Fre c s d P Q) (hs : s + gm_e P Q * (B + 2) + 2 ≤ K) (hL : ∀ c' s', s' ≤ s + gm_e P Q * (B + 2) + 2 → Ag d c c' → Don c' s' d P Q → L c') : L c := by
  have R' := R
  obtain ⟨tr, mo, wk, wpk, ro, rs, rm, rr, re, rp, rq⟩ := R'
  have g := Nat.mul_le_mul_right (B + 2) (gm_lg_e P Q)
  refine rs d c s P Q (by omega) (by omega) hF hm (fun c1 s1 b1 a1 m1 => ?_)
  refine gs_mid R hd hm hch 64 0 c1 s1 (gm_cnt (gm_lg P Q) 64) (by omega) (by omega) m1 rfl (by omega) (fun c2 s2 b2 a2 d2 => ?_)
  exact hL c2 s2 (by omega) (tr d _ _ _ a1 a2) d2
theorem gs_run (R : gs_R K D L Fre Don Mid Wai WaP Ag) : ∀ (e : Nat) (c : C) (s d : Nat) (P Q : Nat → Bool), gm_e P Q = e → Fre c s d P Q → d + 2 * e ≤ D → s + gs_A e ≤ K → (∀ c' s', s' ≤ s + gs_A e → Ag d c c' → Don c' s' d P Q → L c') → L c := by
  have R' := R
  obtain ⟨tr, mo, wk, wpk, ro, rs, rm, rr, re, rp, rq⟩ := R'
  intro e
  induction e with
  | zero =>
    intro c s d P Q he hF hd hs hL
    have h1 : gm_hm P Q = false := gm_nt (fun z => by have := gm_hm_e z; omega)
    have h2 : gm_hm Q P = false := gm_nt (fun z => by have := gm_hm_e z; have := gm_e_s P Q; omega)
    have ha : gs_A 0 = 4 := rfl
    exact ro d c s P Q (by omega) (by omega) hF h1 h2 (fun c' s' a b z => hL c' s' (by omega) b z)
  | succ e ih =>
    intro c s d P Q he hF hd hs hL
    have ha : gs_A (e + 1) = 4 + (e + 1) * (gs_A e + 2) := rfl
    have mv : ∀ (d' : Nat) (P' Q' : Nat → Bool), gm_hm P' Q' = true → gm_e P' Q' = e + 1 → d' + 1 + 2 * e ≤ D → ∀ (c : C) (s : Nat), Fre c s d' P' Q' → s + (e + 1) * (gs_A e + 2) + 2 ≤ K → (∀ c' s', s' ≤ s + (e + 1) * (gs_A e + 2) + 2 → Ag d' c c' → Don c' s' d' P' Q' → L c') → L c := by
      intro d' P' Q' hm he' hd' c s hF hs hL
      refine gs_mov (B := gs_A e) R (by omega) hm ?_ hF (by rw [he']; exact hs) (by rw [he']; exact hL)
      intro c s x hx hf hsx hk
      have hen := gm_e_n hx
      exact ih c s (d' + 1) _ _ (by omega) hf (by omega) hsx hk
    cases h1 : gm_hm P Q with
    | true => exact mv d P Q h1 he (by omega) c s hF (by omega) (fun c' s' a b z => hL c' s' (by omega) b z)
    | false =>
      cases h2 : gm_hm Q P with
      | false => exact ro d c s P Q (by omega) (by omega) hF h1 h2 (fun c' s' a b z => hL c' s' (by omega) b z)
      | true =>
        refine rp d c s P Q (by omega) (by omega) hF h1 h2 (fun c1 s1 b1 a1 w1 f1 => ?_)
        refine mv (d + 1) Q P h2 ((gm_e_s P Q).trans he) (by omega) c1 s1 f1 (by omega) (fun c2 s2 b2 a2 d2 => ?_)
        refine rq d c2 s2 P Q (by omega) (by omega) h1 h2 (wpk d c1 c2 P Q a2 w1) d2 (fun c3 s3 b3 a3 d3 => ?_)
        exact hL c3 s3 (by omega) (tr d _ _ _ a1 (tr d _ _ _ (mo d _ _ a2) a3)) d3
end
