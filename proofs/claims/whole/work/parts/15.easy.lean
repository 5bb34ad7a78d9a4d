/-! the relation and the methods that need no search -/
def rl_R (b w : Int64) (sd he hv hl : Int32) (ln : Nat → Int32) (sd' hb sv pl : Int32) (a pv : Nat → Int32) : Prop := rb_R b w a ∧ sd' = sd ∧ yb_s sd ∧ hb = he ∧ (he = 0 ∨ (he = 1 ∧ sv = hv ∧ ∃ l : Nat, l ≤ 12 ∧ hl = nI l ∧ pl = nI l ∧ ∀ k, k < l → pv k = ln k))
def i_Rel (_ : Nat) (u : SX) (v : SY) : Prop := rl_R u.1 u.2.1 u.2.2.1 u.2.2.2.1 u.2.2.2.2.1 u.2.2.2.2.2.1 u.2.2.2.2.2.2.1 v.1 v.2.1 v.2.2.1 v.2.2.2.1 v.2.2.2.2.1 v.2.2.2.2.2.2.2.2.2
theorem i_up {k : Nat} {u : SX} {v : SY} (h : i_Rel k u v) : i_Rel (k + 4) u v := h
theorem wy_rs_l {post : SY → Prop} {sd hb sv pl : Int32} {a ds ph nx be pv : Nat → Int32} {x1 : Int32} (h0 : x1 = 0 → ∀ z : Nat → Int32, (∀ x, x < 64 → z x = 0) → post (1, 0, sv, pl, upd (upd (upd (upd z 27 2) 36 2) 28 1) 35 1, ds, ph, nx, be, pv)) (h1 : ¬ x1 = 0 → ∀ z : Nat → Int32, (∀ x, x < 64 → z x = 0) → post (1, 0, sv, pl, z, ds, ph, nx, be, pv)) : ∀ (n i : Nat) (z : Nat → Int32), i ≤ 64 → 64 < n + i → (∀ x, x < i → z x = 0) → wY_reset_2 post x1 sd hb sv pl n (nI i) z ds ph nx be pv := by
  intro n
  induction n with
  | zero => intro i z hi hn _; omega
  | succ n ih =>
    intro i z hi hn hz
    refine pk_le 64 i (fun y => ?_) (fun y => ?_)
    · have hz' : ∀ x, x < 64 → z x = 0 := fun x hx => hz x (by omega)
      exact br_c (fun q => nm_e (nm_e (nm_e (nm_e (h0 q z hz'))))) (fun q => h1 q z hz')
    · rw [nI_clamp (by omega)]
      refine ⟨vp_in_nI (by omega) (by decide), nm_e (nm_r (nI_1 i) ?_)⟩
      refine ih (i + 1) _ (by omega) (by omega) (fun x hx => ?_)
      by_cases e : x = i
      · rw [e, pk_us]
      · rw [pk_un e]
        exact hz x (by omega)
theorem wy_rs {post : SY → Prop} {sd hb sv pl : Int32} {a ds ph nx be pv : Nat → Int32} {x1 : Int32} (h0 : x1 = 0 → ∀ z : Nat → Int32, (∀ x, x < 64 → z x = 0) → post (1, 0, sv, pl, upd (upd (upd (upd z 27 2) 36 2) 28 1) 35 1, ds, ph, nx, be, pv)) (h1 : ¬ x1 = 0 → ∀ z : Nat → Int32, (∀ x, x < 64 → z x = 0) → post (1, 0, sv, pl, z, ds, ph, nx, be, pv)) : wpY_reset post (sd, hb, sv, pl, a, ds, ph, nx, be, pv) x1 := by
  unfold wpY_reset
  exact ⟨65, wy_rs_l (a := a) h0 h1 65 0 a (by omega) (by omega) (fun x hx => by omega)⟩
theorem rb_z {z : Nat → Int32} (h : ∀ x, x < 64 → z x = 0) {m : Int32} (hm : ¬ (0 : Int32) = m) (j : Nat) : yb_o z 0 m j = false := by
  unfold yb_o
  apply decide_eq_false
  rintro ⟨h1, h2⟩
  rw [Nat.zero_add, h j h1] at h2
  exact hm h2
theorem rb_c1 : ∀ j, j < 64 → xb_t 34628173824 j = (decide (j = 28) || decide (j = 35)) := by decide +kernel
theorem rb_c2 : ∀ j, j < 64 → xb_t 68853694464 j = (decide (j = 27) || decide (j = 36)) := by decide +kernel
theorem rb_0 {z : Nat → Int32} (h : ∀ x, x < 64 → z x = 0) : rb_R 0 0 z := by
  refine ⟨?_, ?_, fun j hj => Or.inl (h j hj)⟩
  · funext j
    rw [xb_0, rb_z h (by decide)]
  · funext j
    rw [xb_0, rb_z h (by decide)]
theorem rb_st {z : Nat → Int32} (h : ∀ x, x < 64 → z x = 0) : rb_R 34628173824 68853694464 (upd (upd (upd (upd z 27 2) 36 2) 28 1) 35 1) := by
  refine ⟨?_, ?_, ?_⟩
  · apply xb_fun (fun j hj => yb_ob hj)
    intro j hj
    rw [rb_c1 j hj, rb_upd (by omega), rb_upd (by omega), rb_upd (by omega), rb_upd (by omega), rb_z h (by decide)]
    by_cases e1 : j = 35
    · simp [e1]
    · by_cases e2 : j = 28
      · simp [e2]
      · by_cases e3 : j = 36
        · simp [e3]
        · by_cases e4 : j = 27
          · simp [e4]
          · simp [e1, e2, e3, e4]
  · apply xb_fun (fun j hj => yb_ob hj)
    intro j hj
    rw [rb_c2 j hj, rb_upd (by omega), rb_upd (by omega), rb_upd (by omega), rb_upd (by omega), rb_z h (by decide)]
    by_cases e1 : j = 35
    · simp [e1]
    · by_cases e2 : j = 28
      · simp [e2]
      · by_cases e3 : j = 36
        · simp [e3]
        · by_cases e4 : j = 27
          · simp [e4]
          · simp [e1, e2, e3, e4]
  · exact rb_tri (rb_tri (rb_tri (rb_tri (fun j hj => Or.inl (h j hj)) (Or.inr (Or.inr rfl))) (Or.inr (Or.inr rfl))) (Or.inr (Or.inl rfl))) (Or.inr (Or.inl rfl))
theorem i_vc0 : wpX_init (fun u => wpY_init (fun v => i_Rel 0 u v)) := by
  unfold wpX_init wpX_startWith
  dsimp only
  unfold wpY_init
  refine wy_rs (fun _ z hz => ?_) (fun h => absurd rfl h)
  exact ⟨rb_st hz, rfl, Or.inl rfl, rfl, Or.inl rfl⟩
theorem i_vc_reset {k : Nat} {u : SX} {v : SY} (I : i_Rel k u v) (hk : k + 4 ≤ 2048) (v1 : Int32) : wpX_reset (fun u' => wpY_reset (fun v' => i_Rel (k + 4) u' v') v v1) u v1 := by
  obtain ⟨b, w, sd, he, hv, hl, ln, ow, op, un, pa, ty, bm, be⟩ := u
  obtain ⟨sd2, hb, sv, pl, a, ds, ph, nx, be2, pv⟩ := v
  unfold wpX_reset wpX_startWith
  dsimp only
  refine br_c (fun z => wy_rs (fun _ y hy => ?_) (fun h => absurd z h)) (fun z => wy_rs (fun h => absurd h z) (fun _ y hy => ?_))
  · exact ⟨rb_st hy, rfl, Or.inl rfl, rfl, Or.inl rfl⟩
  · exact ⟨rb_0 hy, rfl, Or.inl rfl, rfl, Or.inl rfl⟩
theorem zn_big {x : Int32} (h : nI 64 ≤ x) : ¬ x < 0 ∧ ¬ x ≤ 63 := ⟨fun z => absurd (Int32.lt_of_le_of_lt h z) (by decide), fun z => absurd (Int32.le_trans h z) (by decide)⟩
theorem wx_onb {post : Int32 → Prop} {s : Nat} (hs : s < 64) (h : post 1) : wpX_isOnBoard post (nI s) := br_f (nI_pos (by omega)) (pk_le 64 s (fun z => by omega) (fun _ => h))
theorem wx_offb {post : Int32 → Prop} {x : Int32} (hx : x < 0 ∨ nI 64 ≤ x) (h : post 0) : wpX_isOnBoard post x := br_c (fun _ => h) (fun z => br_t (hx.elim (fun q => absurd q z) id) h)
theorem wy_off {A B : Prop} {x : Int32} (hx : x < 0 ∨ nI 64 ≤ x) (h : A) : (x < 0 → A) ∧ (¬ x < 0 → ((x ≤ 63 → B) ∧ (¬ x ≤ 63 → A))) := br_c (fun _ => h) (fun z => br_f (fun y => (hx.elim (fun q => z q) (fun q => (zn_big q).2 y))) h)
theorem wy_on {A B C : Prop} {s : Nat} (hs : s < 64) (h : B) : (nI s < 0 → A) ∧ (¬ nI s < 0 → ((nI s ≤ 63 → B) ∧ (¬ nI s ≤ 63 → C))) := br_f (nI_pos (by omega)) (pk_le s 63 (fun _ => h) (fun z => by omega))
theorem i_vc_setSquare {k : Nat} {u : SX} {v : SY} (I : i_Rel k u v) (hk : k + 4 ≤ 2048) (v1 : Int32) (v2 : Int32) : wpX_setSquare (fun r u' => wpY_setSquare (fun r' v' => r' = r ∧ i_Rel (k + 4) u' v') v v1 v2) u v1 v2 := by
  obtain ⟨b, w, sd, he, hv, hl, ln, ow, op, un, pa, ty, bm, be⟩ := u
  obtain ⟨sd2, hb, sv, pl, a, ds, ph, nx, be2, pv⟩ := v
  have I0 := I
  obtain ⟨hR, rfl, hs, rfl, hh⟩ := I
  unfold wpX_setSquare wpY_setSquare
  dsimp only
  have hoff : v1 < 0 ∨ nI 64 ≤ v1 ∨ ∃ j : Nat, j < 64 ∧ v1 = nI j := pk_ix v1 (by decide)
  rcases hoff with h | h | ⟨s, hsq, rfl⟩
  · exact wx_offb (Or.inl h) (br_t rfl (wy_off (Or.inl h) ⟨rfl, I0⟩))
  · exact wx_offb (Or.inr h) (br_t rfl (wy_off (Or.inr h) ⟨rfl, I0⟩))
  · refine wx_onb hsq (br_f (by decide) ?_)
    have hc : (nI s).toNatClampNeg = s := nI_clamp (by omega)
    have hin : vp_in (nI s) 1024 := vp_in_nI (by omega) (by decide)
    have hb := xb_1 hsq
    obtain ⟨r1, r2, r3⟩ := hR
    unfold wX_setSquare_25 wX_setSquare_54 wY_setSquare_28
    rw [hc]
    refine br_c (fun z => ?_) (fun z => br_c (fun y => ?_) (fun y => br_c (fun q => ?_) (fun q => wy_on hsq (br_f z (br_f y (br_f q ⟨rfl, I0⟩))))))
    · subst z
      refine nm_e (br_f (by decide) (br_f (by decide) (nm_e (wy_on hsq (br_t rfl ⟨hin, nm_e ⟨rfl, ⟨?_, ?_, ?_⟩, rfl, hs, rfl, Or.inl rfl⟩⟩)))))
      · exact rb_out hsq r1 hb (by decide)
      · exact rb_out hsq r2 hb (by decide)
      · exact rb_tri r3 (Or.inl rfl)
    · subst y
      refine nm_e (br_t rfl (br_f (by decide) (nm_e (wy_on hsq (br_f (by decide) (br_t rfl ⟨hin, nm_e ⟨rfl, ⟨?_, ?_, ?_⟩, rfl, hs, rfl, Or.inl rfl⟩⟩))))))
      · exact rb_in hsq r1 hb rfl
      · exact rb_out hsq r2 hb (by decide)
      · exact rb_tri r3 (Or.inr (Or.inl rfl))
    · subst q
      refine nm_e (br_f (by decide) (br_t rfl (nm_e (wy_on hsq (br_f (by decide) (br_f (by decide) (br_t rfl ⟨hin, nm_e ⟨rfl, ⟨?_, ?_, ?_⟩, rfl, hs, rfl, Or.inl rfl⟩⟩)))))))
      · exact rb_out hsq r1 hb (by decide)
      · exact rb_in hsq r2 hb rfl
      · exact rb_tri r3 (Or.inr (Or.inr rfl))
theorem i_vc_setSideToMove {k : Nat} {u : SX} {v : SY} (I : i_Rel k u v) (hk : k + 4 ≤ 2048) (v1 : Int32) : wpX_setSideToMove (fun r u' => wpY_setSideToMove (fun r' v' => r' = r ∧ i_Rel (k + 4) u' v') v v1) u v1 := by
  obtain ⟨b, w, sd, he, hv, hl, ln, ow, op, un, pa, ty, bm, be⟩ := u
  obtain ⟨sd2, hb, sv, pl, a, ds, ph, nx, be2, pv⟩ := v
  have I0 := I
  obtain ⟨hR, rfl, hs, rfl, hh⟩ := I
  unfold wpX_setSideToMove wX_setSideToMove_12 wpY_setSideToMove wY_setSideToMove_12
  dsimp only
  refine br_c (fun z => br_t z ⟨rfl, hR, rfl, Or.inl z, rfl, Or.inl rfl⟩) (fun z => br_c (fun y => br_f z (br_t y ⟨rfl, hR, rfl, Or.inr y, rfl, Or.inl rfl⟩)) (fun y => br_f z (br_f y ⟨rfl, I0⟩)))
theorem i_vc_getSquare {k : Nat} {u : SX} {v : SY} (I : i_Rel k u v) (hk : k + 4 ≤ 2048) (v1 : Int32) : wpX_getSquare (fun r => wpY_getSquare (fun r' => r' = r ∧ i_Rel (k + 4) u v) v v1) u v1 := by
  obtain ⟨b, w, sd, he, hv, hl, ln, ow, op, un, pa, ty, bm, be⟩ := u
  obtain ⟨sd2, hb, sv, pl, a, ds, ph, nx, be2, pv⟩ := v
  have I0 := I
  obtain ⟨hR, rfl, hs, rfl, hh⟩ := I
  unfold wpX_getSquare wpY_getSquare
  dsimp only
  have hoff : v1 < 0 ∨ nI 64 ≤ v1 ∨ ∃ j : Nat, j < 64 ∧ v1 = nI j := pk_ix v1 (by decide)
  rcases hoff with h | h | ⟨s, hsq, rfl⟩
  · exact wx_offb (Or.inl h) (br_t rfl (wy_off (Or.inl h) ⟨rfl, I0⟩))
  · exact wx_offb (Or.inr h) (br_t rfl (wy_off (Or.inr h) ⟨rfl, I0⟩))
  · have hc : (nI s).toNatClampNeg = s := nI_clamp (by omega)
    have hin : vp_in (nI s) 1024 := vp_in_nI (by omega) (by decide)
    obtain ⟨g1, g2, g3⟩ := rb_get hR hsq
    rw [hc]
    refine wx_onb hsq (br_f (by decide) (wx_has _ hsq (fun z => br_t rfl (wx_has _ hsq (fun y => br_t rfl (wy_on hsq ⟨hin, g3 z y, I0⟩)) (fun y => br_f (by decide) (wy_on hsq ⟨hin, g2 z y, I0⟩)))) (fun z => br_f (by decide) (wy_on hsq ⟨hin, g1 z, I0⟩))))
theorem i_vc_sideToMove {k : Nat} {u : SX} {v : SY} (I : i_Rel k u v) (hk : k + 4 ≤ 2048) : wpX_sideToMove (fun r => wpY_sideToMove (fun r' => r' = r ∧ i_Rel (k + 4) u v) v) u := ⟨I.2.1, I⟩
theorem wy_ct_l {post : Int32 → Prop} {sd hb sv pl : Int32} {a ds ph nx be pv : Nat → Int32} {m : Int32} (h : post (nI (gm_cnt (yb_o a 0 m) 64))) : ∀ (n i : Nat), i ≤ 64 → 64 < n + i → wY_countDiscs_16 post m sd hb sv pl a ds ph nx be pv n (nI (gm_cnt (yb_o a 0 m) i)) (nI i) := by
  intro n
  induction n with
  | zero => intro i hi hn; omega
  | succ n ih =>
    intro i hi hn
    refine pk_le 64 i (fun z => ?_) (fun z => ?_)
    · have e : i = 64 := by omega
      subst e
      exact h
    · have hh := ih (i + 1) (by omega) (by omega)
      rw [nI_clamp (by omega)]
      refine ⟨vp_in_nI (by omega) (by decide), br_c (fun y => nm_r (nI_1 _) (nm_r (nI_1 i) ?_)) (fun y => nm_r (nI_1 i) ?_)⟩
      · rw [gm_cnt, if_pos ((yb_oi z).mpr (by rw [Nat.zero_add]; exact y))] at hh
        exact hh
      · rw [gm_cnt, if_neg (by rw [yb_oi z, Nat.zero_add]; exact y)] at hh
        exact hh
theorem wy_ct {post : Int32 → Prop} {sd hb sv pl : Int32} {a ds ph nx be pv : Nat → Int32} {m : Int32} (h : post (nI (gm_cnt (yb_o a 0 m) 64))) : ∃ n, wY_countDiscs_16 post m sd hb sv pl a ds ph nx be pv n 0 0 := ⟨65, wy_ct_l h 65 0 (by omega) (by omega)⟩
theorem i_vc_countDiscs {k : Nat} {u : SX} {v : SY} (I : i_Rel k u v) (hk : k + 4 ≤ 2048) (v1 : Int32) : wpX_countDiscs (fun r => wpY_countDiscs (fun r' => r' = r ∧ i_Rel (k + 4) u v) v v1) u v1 := by
  obtain ⟨b, w, sd, he, hv, hl, ln, ow, op, un, pa, ty, bm, be⟩ := u
  obtain ⟨sd2, hb, sv, pl, a, ds, ph, nx, be2, pv⟩ := v
  have I0 := I
  obtain ⟨⟨r1, r2, r3⟩, rfl, hs, rfl, hh⟩ := I
  replace r1 : xb_t b = yb_o a 0 1 := r1
  replace r2 : xb_t w = yb_o a 0 2 := r2
  unfold wpX_countDiscs wpY_countDiscs
  dsimp only
  refine br_c (fun z => wx_size _ (br_t z (wy_ct ⟨?_, I0⟩))) (fun z => br_c (fun y => wx_size _ (br_f z (br_t y (wy_ct ⟨?_, I0⟩)))) (fun y => br_f z (br_f y ⟨rfl, I0⟩)))
  · rw [r1, z]
  · rw [r2, y]
theorem i_vc_solvedValue {k : Nat} {u : SX} {v : SY} (I : i_Rel k u v) (hk : k + 4 ≤ 2048) : wpX_solvedValue (fun r => wpY_solvedValue (fun r' => r' = r ∧ i_Rel (k + 4) u v) v) u := by
  obtain ⟨b, w, sd, he, hv, hl, ln, ow, op, un, pa, ty, bm, be⟩ := u
  obtain ⟨sd2, hb, sv, pl, a, ds, ph, nx, be2, pv⟩ := v
  have I0 := I
  obtain ⟨hR, rfl, hs, rfl, hh⟩ := I
  unfold wpX_solvedValue wpY_solvedValue
  dsimp only at hh ⊢
  refine br_c (fun z => br_t z ⟨rfl, I0⟩) (fun z => br_f z ⟨?_, I0⟩)
  rcases hh with hh | ⟨_, h2, _⟩
  · exact absurd hh z
  · exact h2
theorem i_vc_pvLength {k : Nat} {u : SX} {v : SY} (I : i_Rel k u v) (hk : k + 4 ≤ 2048) : wpX_pvLength (fun r => wpY_pvLength (fun r' => r' = r ∧ i_Rel (k + 4) u v) v) u := by
  obtain ⟨b, w, sd, he, hv, hl, ln, ow, op, un, pa, ty, bm, be⟩ := u
  obtain ⟨sd2, hb, sv, pl, a, ds, ph, nx, be2, pv⟩ := v
  have I0 := I
  obtain ⟨hR, rfl, hs, rfl, hh⟩ := I
  unfold wpX_pvLength wpY_pvLength
  dsimp only at hh ⊢
  refine br_c (fun z => br_t z ⟨rfl, I0⟩) (fun z => br_f z ⟨?_, I0⟩)
  rcases hh with hh | ⟨_, _, l, _, h3, h4, _⟩
  · exact absurd hh z
  · rw [h3, h4]
theorem i_vc_pvMove {k : Nat} {u : SX} {v : SY} (I : i_Rel k u v) (hk : k + 4 ≤ 2048) (v1 : Int32) : wpX_pvMove (fun r => wpY_pvMove (fun r' => r' = r ∧ i_Rel (k + 4) u v) v v1) u v1 := by
  obtain ⟨b, w, sd, he, hv, hl, ln, ow, op, un, pa, ty, bm, be⟩ := u
  obtain ⟨sd2, hb, sv, pl, a, ds, ph, nx, be2, pv⟩ := v
  have I0 := I
  obtain ⟨hR, rfl, hs, rfl, hh⟩ := I
  unfold wpX_pvMove wpY_pvMove
  dsimp only at hh ⊢
  refine br_c (fun z => br_t z ⟨rfl, I0⟩) (fun z => ?_)
  rcases hh with hh | ⟨_, _, l, h2, h3, h4, h5⟩
  · exact absurd hh z
  · subst h3 h4
    refine br_c (fun y => br_f z (br_t y ⟨rfl, I0⟩)) (fun y => ?_)
    obtain ⟨j, hj, rfl⟩ := nI_of y
    refine pk_lt j l (fun q => ?_) (fun q => br_f z (br_f y (br_t (nI_le q (by omega)) ⟨rfl, I0⟩)))
    rw [nI_clamp (by omega)]
    exact ⟨vp_in_nI (by omega) (by decide), br_f z (br_f y (br_f (nI_ge q (by omega)) (pk_lt j 12 (fun _ => ⟨vp_in_nI (by omega) (by decide), h5 j q, I0⟩) (fun _ => by omega))))⟩
