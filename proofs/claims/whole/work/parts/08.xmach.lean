/-! the component's stack of frames, over any loop predicate L -/
abbrev gx_A : Type := (Nat → Int64) × (Nat → Int64) × (Nat → Int64) × (Nat → Int32) × (Nat → Int32) × (Nat → Int32) × (Nat → Int32)
def gx_fr (F : gx_A) (d : Nat) (P Q U : Nat → Bool) (w : Int32) (bm be : Int) : Prop := xb_t (F.1 d) = P ∧ xb_t (F.2.1 d) = Q ∧ xb_t (F.2.2.1 d) = U ∧ F.2.2.2.1 d = w ∧ F.2.2.2.2.2.1 d = zi_z bm ∧ F.2.2.2.2.2.2 d = zi_z be
def gx_ty (F : gx_A) (d : Nat) : Int32 := F.2.2.2.2.1 d
def gx_ag (d : Nat) (F G : gx_A) : Prop := ∀ i, i < d → F.1 i = G.1 i ∧ F.2.1 i = G.2.1 i ∧ F.2.2.1 i = G.2.2.1 i ∧ F.2.2.2.1 i = G.2.2.2.1 i ∧ F.2.2.2.2.1 i = G.2.2.2.2.1 i ∧ F.2.2.2.2.2.1 i = G.2.2.2.2.2.1 i ∧ F.2.2.2.2.2.2 i = G.2.2.2.2.2.2 i
def gx_Fr0 (F : gx_A) (d : Nat) (P Q : Nat → Bool) : Prop := gx_fr F d P Q (gm_lg P Q) (if gm_hm P Q = false ∧ gm_hm Q P = true then 1 else 0) (-1) (if gm_hm P Q = false ∧ gm_hm Q P = false then gm_df P Q else -65)
abbrev gx_C : Type := Nat × Nat × gx_A
def gx_Fre (c : gx_C) (s d : Nat) (P Q : Nat → Bool) : Prop := c.1 = s ∧ c.2.1 = d ∧ gx_Fr0 c.2.2 d P Q
def gx_Mid (c : gx_C) (s d : Nat) (P Q : Nat → Bool) (u : Nat) : Prop := c.1 = s ∧ c.2.1 = d ∧ gx_fr c.2.2 d P Q (fun j => decide (u ≤ j) && gm_lg P Q j) 0 (gm_fd (gm_f P Q) (gm_lg P Q) u).2 (gm_fd (gm_f P Q) (gm_lg P Q) u).1
def gx_Don (c : gx_C) (s d : Nat) (P Q : Nat → Bool) : Prop := c.1 = s ∧ c.2.1 = d ∧ gx_fr c.2.2 d P Q (fun _ => false) 0 (gm_F P Q) (gm_W P Q)
def gx_Wai (c : gx_C) (d : Nat) (P Q : Nat → Bool) (x : Nat) : Prop := gx_fr c.2.2 d P Q (fun j => decide (x + 1 ≤ j) && gm_lg P Q j) 0 (gm_fd (gm_f P Q) (gm_lg P Q) x).2 (gm_fd (gm_f P Q) (gm_lg P Q) x).1 ∧ gx_ty c.2.2 d = nI x
def gx_WaP (c : gx_C) (d : Nat) (P Q : Nat → Bool) : Prop := gx_fr c.2.2 d P Q (fun _ => false) 0 (-1) (-65) ∧ gx_ty c.2.2 d = nI 64
def gx_Ag (d : Nat) (c c' : gx_C) : Prop := gx_ag d c.2.2 c'.2.2
/-- what a step of the loop does: a move, a pass, a report -/
def gx_LM (L : gx_C → Prop) : Prop := ∀ (s d x : Nat) (F : gx_A) (P Q U : Nat → Bool) (bm be : Int), s < 1000000 → d ≤ 12 → gx_fr F d P Q U 0 bm be → x < 64 → U x = true → (∀ j, j < x → U j = false) → gm_lg P Q x = true → (∀ F', gx_ag d F F' → gx_fr F' d P Q (fun j => U j && !decide (j = x)) 0 bm be → gx_ty F' d = nI x → gx_Fr0 F' (d + 1) (gm_np P Q x) (gm_nq P Q x) → L (s + 1, d + 1, F')) → L (s, d, F)
def gx_LP (L : gx_C → Prop) : Prop := ∀ (s d : Nat) (F : gx_A) (P Q U : Nat → Bool) (bm be : Int), s < 1000000 → d ≤ 12 → gx_fr F d P Q U 1 bm be → (∀ F', gx_ag d F F' → gx_fr F' d P Q U 0 bm be → gx_ty F' d = nI 64 → gx_Fr0 F' (d + 1) Q P → L (s + 1, d + 1, F')) → L (s, d, F)
def gx_LR (L : gx_C → Prop) : Prop := ∀ (s d : Nat) (F : gx_A) (P Q U P' Q' : Nat → Bool) (w : Int32) (bm be b' v' ty : Int), s < 1000000 → d + 1 ≤ 12 → gx_fr F (d + 1) P' Q' (fun _ => false) 0 b' v' → gx_fr F d P Q U w bm be → gx_ty F d = zi_z ty → (∀ F', gx_ag d F F' → gx_fr F' d P Q U w (if zi_z be < -zi_z v' then ty else bm) (if zi_z be < -zi_z v' then -v' else be) → L (s + 1, d, F')) → L (s, d + 1, F)
theorem gx_fr_a {F G : gx_A} {d : Nat} {P Q U : Nat → Bool} {w : Int32} {bm be : Int} (h : gx_ag (d + 1) F G) (hf : gx_fr F d P Q U w bm be) : gx_fr G d P Q U w bm be := by
  obtain ⟨e1, e2, e3, e4, e5, e6, e7⟩ := h d (by omega)
  obtain ⟨f1, f2, f3, f4, f5, f6⟩ := hf
  exact ⟨e1 ▸ f1, e2 ▸ f2, e3 ▸ f3, e4 ▸ f4, e6 ▸ f5, e7 ▸ f6⟩
theorem gx_ag_t {d : Nat} {F G H : gx_A} (h : gx_ag d F G) (h' : gx_ag d G H) : gx_ag d F H := by
  intro i hi
  obtain ⟨e1, e2, e3, e4, e5, e6, e7⟩ := h i hi
  obtain ⟨f1, f2, f3, f4, f5, f6, f7⟩ := h' i hi
  exact ⟨e1.trans f1, e2.trans f2, e3.trans f3, e4.trans f4, e5.trans f5, e6.trans f6, e7.trans f7⟩
theorem gx_ag_r (d : Nat) (F : gx_A) : gx_ag d F F := fun _ _ => ⟨rfl, rfl, rfl, rfl, rfl, rfl, rfl⟩
theorem gx_fr_u {F : gx_A} {d : Nat} {P Q U U' : Nat → Bool} {w w' : Int32} {bm be bm' be' : Int} (hf : gx_fr F d P Q U w bm be) (h1 : ∀ j, U j = U' j) (h2 : w = w') (h3 : bm = bm') (h4 : be = be') : gx_fr F d P Q U' w' bm' be' := by
  have e : U = U' := funext h1
  rw [← e, ← h2, ← h3, ← h4]
  exact hf
theorem gm_fd_b {p q : Nat → Bool} (n : Nat) : -65 ≤ (gm_fd (gm_f p q) (gm_lg p q) n).1 ∧ (gm_fd (gm_f p q) (gm_lg p q) n).1 ≤ 64 := by
  rcases gm_fd_i (gm_f p q) (gm_lg p q) n with ⟨e, _⟩ | ⟨x, _, e, _⟩
  · rw [e]; exact ⟨by decide, by decide⟩
  · rw [e]
    have := gm_f_b p q x
    show -65 ≤ gm_f p q x ∧ gm_f p q x ≤ 64
    omega
theorem gm_lg_64 {p q : Nat → Bool} {j : Nat} (h : 64 ≤ j) : gm_lg p q j = false := gm_nt (fun z => by have := (gm_lg_i.mp z).1; omega)
theorem gx_R {L : gx_C → Prop} (hM : gx_LM L) (hP : gx_LP L) (hR : gx_LR L) : gs_R 1000000 12 L gx_Fre gx_Don gx_Mid gx_Wai gx_WaP gx_Ag := by
  refine ⟨fun d a b c h h' => gx_ag_t h h', fun d a b h i hi => h i (by omega), ?_, ?_, ?_, ?_, ?_, ?_, ?_, ?_, ?_⟩
  · intro d a b P Q x h hw
    exact ⟨gx_fr_a h hw.1, (h d (by omega)).2.2.2.2.1.symm.trans hw.2⟩
  · intro d a b P Q h hw
    exact ⟨gx_fr_a h hw.1, (h d (by omega)).2.2.2.2.1.symm.trans hw.2⟩
  · intro d c s P Q hd hs hF h1 h2 hL
    refine hL c s (by omega) (gx_ag_r d _) ⟨hF.1, hF.2.1, gx_fr_u hF.2.2 (gm_hm_f h1) (if_neg (by rw [h2]; simp)) (gm_F_o h1 h2).symm ?_⟩
    rw [if_pos ⟨h1, h2⟩, gm_W_o h1 h2]
  · intro d c s P Q hd hs hF h1 hL
    refine hL c s (by omega) (gx_ag_r d _) ⟨hF.1, hF.2.1, gx_fr_u hF.2.2 (fun j => by simp) (if_neg (by rw [h1]; simp)) rfl ?_⟩
    rw [if_neg (by rw [h1]; simp)]
    rfl
  · rintro d ⟨cs, cd, F⟩ s P Q u x hd hs ⟨e1, e2, hF⟩ hu hx hlx hg hL
    dsimp only at e1 e2 hF
    subst e1 e2
    refine hM cs cd x F P Q _ _ _ hs (by omega) hF hx (by simp [hu, hlx]) ?_ hlx ?_
    · intro j hj
      by_cases h : u ≤ j
      · simp [hg j h hj]
      · simp [h]
    · intro F' ha hf ht hn
      refine hL (cs + 1, cd + 1, F') (cs + 1) (Nat.le_refl _) ha ⟨gx_fr_u hf ?_ rfl ?_ ?_, ht⟩ ⟨rfl, rfl, hn⟩
      · intro j
        by_cases h : x + 1 ≤ j
        · have h2 : u ≤ j := by omega
          have h3 : ¬ j = x := by omega
          simp [h, h2, h3]
        · by_cases h2 : j = x
          · have h3 : ¬ x + 1 ≤ x := by omega
            simp [h2, h3]
          · by_cases h3 : u ≤ j
            · simp [hg j h3 (by omega)]
            · simp [h, h3]
      · rw [gs_fd_g x hu hg]
      · rw [gs_fd_g x hu hg]
  · rintro d ⟨cs, cd, F⟩ s P Q x hd hs hx hlx ⟨hw, ht⟩ ⟨e1, e2, hF⟩ hL
    dsimp only at e1 e2 hF hw ht
    subst e1 e2
    rw [← zi_n] at ht
    refine hR cs d F P Q _ _ _ _ _ _ _ _ _ hs hd hF hw ht ?_
    intro F' ha hf
    refine hL (cs + 1, d, F') (cs + 1) (Nat.le_refl _) ha ⟨rfl, rfl, ?_⟩
    have b1 := gm_fd_b (p := P) (q := Q) x
    have b2 := gm_W_b (gm_np P Q x) (gm_nq P Q x)
    have ef : -gm_W (gm_np P Q x) (gm_nq P Q x) = gm_f P Q x := rfl
    have hq : zi_z (gm_fd (gm_f P Q) (gm_lg P Q) x).1 < -zi_z (gm_W (gm_np P Q x) (gm_nq P Q x)) ↔ (gm_fd (gm_f P Q) (gm_lg P Q) x).1 < gm_f P Q x := by
      rw [zi_neg, zi_lt (by omega) (by omega) (by omega) (by omega), ef]
    show gx_fr F' d P Q _ 0 (gm_fd (gm_f P Q) (gm_lg P Q) (x + 1)).2 (gm_fd (gm_f P Q) (gm_lg P Q) (x + 1)).1
    rw [gm_fd]
    by_cases h : (gm_fd (gm_f P Q) (gm_lg P Q) x).1 < gm_f P Q x
    · rw [if_pos (hq.mpr h), if_pos (hq.mpr h)] at hf
      rw [if_pos ⟨hlx, h⟩]
      exact hf
    · rw [if_neg (fun z => h (hq.mp z)), if_neg (fun z => h (hq.mp z))] at hf
      rw [if_neg (fun z => h z.2)]
      exact hf
  · intro d c s P Q u hd hs hM h1 hu hn hL
    refine hL c s (by omega) (gx_ag_r d _) ⟨hM.1, hM.2.1, gx_fr_u hM.2.2 ?_ rfl ?_ ?_⟩
    · intro j
      by_cases h : u ≤ j
      · by_cases h64 : j < 64
        · simp [hn j h h64]
        · simp [gm_lg_64 (p := P) (q := Q) (show 64 ≤ j by omega)]
      · simp [h]
    · unfold gm_F
      rw [if_pos h1, gs_fd_g 64 hu hn]
    · rw [gm_W_m h1, gs_fd_g 64 hu hn]
  · rintro d ⟨cs, cd, F⟩ s P Q hd hs ⟨e1, e2, hF⟩ h1 h2 hL
    dsimp only at e1 e2 hF
    subst e1 e2
    have hF2 : gx_fr F cd P Q (fun _ => false) 1 (-1) (-65) := gx_fr_u hF (gm_hm_f h1) (if_pos ⟨h1, h2⟩) rfl (if_neg (by rw [h2]; simp))
    refine hP cs cd F P Q _ _ _ hs (by omega) hF2 ?_
    intro F' ha hf ht hn
    exact hL (cs + 1, cd + 1, F') (cs + 1) (Nat.le_refl _) ha ⟨hf, ht⟩ ⟨rfl, rfl, hn⟩
  · rintro d ⟨cs, cd, F⟩ s P Q hd hs h1 h2 ⟨hw, ht⟩ ⟨e1, e2, hF⟩ hL
    dsimp only at e1 e2 hF hw ht
    subst e1 e2
    rw [← zi_n] at ht
    refine hR cs d F P Q _ _ _ _ _ _ _ _ _ hs hd hF hw ht ?_
    intro F' ha hf
    refine hL (cs + 1, d, F') (cs + 1) (Nat.le_refl _) ha ⟨rfl, rfl, ?_⟩
    have b2 := gm_W_b Q P
    have hq : zi_z (-65) < -zi_z (gm_W Q P) := by
      rw [zi_neg, zi_lt (by omega) (by omega) (by omega) (by omega)]; omega
    rw [if_pos hq, if_pos hq] at hf
    rw [gm_F_p h1 h2, gm_W_p h1 h2]
    exact hf
