/-! the reference's flips: the board with the gained squares written -/
theorem wy_fl_c {post : Int32 → SY → Prop} {J6 J15 : Int32 → Int32 → (Nat → Int32) → (Nat → Int32) → (Nat → Int32) → (Nat → Int32) → (Nat → Int32) → (Nat → Int32) → Prop} {sd hb sv pl : Int32} {a ds ph nx be pv : Nat → Int32} {m x2 : Int32} {o s t T : Nat} {S : Nat → Bool} {p q : Nat → Bool} {z5 z6 : Int} (ho : o + 64 ≤ 1024) (hs : s < 64) (ht : t < 9) (e5 : z5 = gm_dr t) (e6 : z6 = gm_dc t) (hJ : J15 (nI (T + gm_k p q s t)) (zi_z (z6 + 1)) (yb_w a o m (fun j => S j || gm_ray p q s t j)) ds ph nx be pv) : ∀ (f n i : Nat) (tt : Int), i + f = gm_k p q s t → f < n → tt = 8 * (gm_r0 s t + (i : Int) * gm_dr t) + (gm_c0 s t + (i : Int) * gm_dc t) - (8 * gm_dr t + gm_dc t) → wY_flipAt_53 post J6 J15 (nI o) x2 m (nI T) (zi_z z5) (zi_z z6) (nI (gm_k p q s t)) sd hb sv pl n (zi_z tt) (nI i) (yb_w a o m (fun j => S j || gm_cov (gm_dr t) (gm_dc t) i (gm_r0 s t) (gm_c0 s t) j)) ds ph nx be pv := by
  intro f
  induction f with
  | zero =>
    intro n i tt hi hn htt
    have k7 := gm_k7 p q s t
    cases n with
    | zero => omega
    | succ n =>
      have e : i = gm_k p q s t := by omega
      subst e
      exact pk_le _ _ (fun _ => nm_r (nI_add _ _) (nm_r (zn_1 _) hJ)) (fun z => by omega) rfl rfl (by omega) (by omega)
  | succ f ih =>
    intro n i tt hi hn htt
    have k7 := gm_k7 p q s t
    cases n with
    | zero => omega
    | succ n =>
      obtain ⟨_, hon, _⟩ := gm_k_c (p := p) (q := q) (s := s) (t := t) (i := i) (by omega)
      have hix := gm_ixlt hon
      have hI := gm_ixI hon
      have e8 : (zi_z tt + 8 * zi_z z5) + zi_z z6 = zi_z (8 * (gm_r0 s t + (i : Int) * gm_dr t) + (gm_c0 s t + (i : Int) * gm_dc t)) := by
        rw [zn_8z, zi_mul, zi_add, zi_add]
        congr 1
        omega
      have e1 : nI o + zi_z (8 * (gm_r0 s t + (i : Int) * gm_dr t) + (gm_c0 s t + (i : Int) * gm_dc t)) = nI (o + gm_ix (gm_r0 s t + (i : Int) * gm_dr t) (gm_c0 s t + (i : Int) * gm_dc t)) := by
        rw [← hI, zi_n, nI_add]
      refine pk_le _ _ (fun z => by omega) (fun _ => nm_r e8 ?_) rfl rfl (by omega) (by omega)
      rw [e1, nI_clamp (by omega)]
      refine ⟨vp_in_nI (by omega) (by decide), nm_r (yb_wu _ _ _ _ _) (nm_r (nI_1 i) ?_)⟩
      have hh := ih n (i + 1) (8 * (gm_r0 s t + (i : Int) * gm_dr t) + (gm_c0 s t + (i : Int) * gm_dc t)) (by omega) (by omega) (by rw [gm_st, gm_st]; omega)
      rw [yb_we (T := fun j => (S j || gm_cov (gm_dr t) (gm_dc t) i (gm_r0 s t) (gm_c0 s t) j) || decide (j = gm_ix (gm_r0 s t + (i : Int) * gm_dr t) (gm_c0 s t + (i : Int) * gm_dc t))) (fun j => by show (S j || gm_cov (gm_dr t) (gm_dc t) (i + 1) (gm_r0 s t) (gm_c0 s t) j) = _; rw [gm_cov_r, Bool.or_assoc])] at hh
      exact hh
theorem wy_tt0 {s t : Nat} : (s : Int) = 8 * (gm_r0 s t + ((0 : Nat) : Int) * gm_dr t) + (gm_c0 s t + ((0 : Nat) : Int) * gm_dc t) - (8 * gm_dr t + gm_dc t) := by
  rw [gm_s0, gm_s0]
  unfold gm_r0 gm_c0
  omega
theorem wy_fl_k {a : Nat → Int32} {m : Int32} {o s t : Nat} (hm : yb_s m) (ht : t < 9) : gm_k (yb_o (yb_w a o m (gm_acc (yb_o a o m) (yb_o a o (3 - m)) s t)) o m) (yb_o (yb_w a o m (gm_acc (yb_o a o m) (yb_o a o (3 - m)) s t)) o (3 - m)) s t = gm_k (yb_o a o m) (yb_o a o (3 - m)) s t := by
  have h1 : yb_o (yb_w a o m (gm_acc (yb_o a o m) (yb_o a o (3 - m)) s t)) o m = fun j => yb_o a o m j || gm_acc (yb_o a o m) (yb_o a o (3 - m)) s t j := funext (fun j => yb_wo (fun j h => (gm_acc_b h).1) j)
  have h2 : yb_o (yb_w a o m (gm_acc (yb_o a o m) (yb_o a o (3 - m)) s t)) o (3 - m) = fun j => yb_o a o (3 - m) j && !gm_acc (yb_o a o m) (yb_o a o (3 - m)) s t j := funext (fun j => yb_wp (yb_3 hm).2.2 j)
  rw [h1, h2]
  exact gm_k_q ht
theorem wy_fl_i {post : Int32 → SY → Prop} {J6 : Int32 → Int32 → (Nat → Int32) → (Nat → Int32) → (Nat → Int32) → (Nat → Int32) → (Nat → Int32) → (Nat → Int32) → Prop} {sd hb sv pl : Int32} {a ds ph nx be pv : Nat → Int32} {m : Int32} {o s i : Nat} (hm : yb_s m) (ho : o + 64 ≤ 1024) (hs : s < 64) (hi : i < 3) (hJ : J6 (nI (gm_sum (yb_o a o m) (yb_o a o (3 - m)) s (3 * i + 3))) (zi_z (i : Int)) (yb_w a o m (gm_acc (yb_o a o m) (yb_o a o (3 - m)) s (3 * i + 3))) ds ph nx be pv) : ∀ (f n j : Nat), j + f = 3 → f < n → wY_flipAt_15 post J6 (nI o) (nI s) m (zi_z ((i : Int) - 1)) sd hb sv pl n (nI (gm_sum (yb_o a o m) (yb_o a o (3 - m)) s (3 * i + j))) (zi_z ((j : Int) - 1)) (yb_w a o m (gm_acc (yb_o a o m) (yb_o a o (3 - m)) s (3 * i + j))) ds ph nx be pv := by
  intro f
  induction f with
  | zero =>
    intro n j hj hn
    cases n with
    | zero => omega
    | succ n =>
      have e : j = 3 := by omega
      subst e
      exact br_t ((zn_gt1 (by omega) (by omega)).mpr (by omega)) (nm_r ((zn_1 _).trans (by rw [show (i : Int) - 1 + 1 = (i : Int) by omega])) hJ)
  | succ f ih =>
    intro n j hj hn
    cases n with
    | zero => omega
    | succ n =>
      obtain ⟨d1, d2⟩ := zn_dr i hi j (by omega)
      have ej : (j : Int) - 1 + 1 = ((j + 1 : Nat) : Int) - 1 := by omega
      refine br_f (fun z => by rw [zn_gt1 (by omega) (by omega)] at z; omega) ?_
      have step : 3 * i + j ≠ 4 → wY_flipAt_34 post J6 (wY_flipAt_15 post J6 (nI o) (nI s) m (zi_z ((i : Int) - 1)) sd hb sv pl n) (nI o) (nI s) m (nI (gm_sum (yb_o a o m) (yb_o a o (3 - m)) s (3 * i + j))) (zi_z ((i : Int) - 1)) (zi_z ((j : Int) - 1)) sd hb sv pl (yb_w a o m (gm_acc (yb_o a o m) (yb_o a o (3 - m)) s (3 * i + j))) ds ph nx be pv := by
        intro h4
        unfold wY_flipAt_34
        have k7 := gm_k7 (yb_o a o m) (yb_o a o (3 - m)) s (3 * i + j)
        have hr : ∀ post' : Int32 → Prop, post' (nI (gm_k (yb_o a o m) (yb_o a o (3 - m)) s (3 * i + j))) → wpY_runLen post' (sd, hb, sv, pl, yb_w a o m (gm_acc (yb_o a o m) (yb_o a o (3 - m)) s (3 * i + j)), ds, ph, nx, be, pv) (nI o) (nI s) (zi_z ((i : Int) - 1)) (zi_z ((j : Int) - 1)) m := by
          intro post' hp
          rw [← d1, ← d2]
          refine wy_run hm ho hs (by omega) h4 ?_
          rw [wy_fl_k hm (by omega)]
          exact hp
        refine hr _ ⟨8, ?_⟩
        have hh := wy_fl_c (post := post) (J6 := J6) (J15 := wY_flipAt_15 post J6 (nI o) (nI s) m (zi_z ((i : Int) - 1)) sd hb sv pl n) (sd := sd) (hb := hb) (sv := sv) (pl := pl) (a := a) (ds := ds) (ph := ph) (nx := nx) (be := be) (pv := pv) (m := m) (x2 := nI s) (o := o) (s := s) (t := 3 * i + j) (T := gm_sum (yb_o a o m) (yb_o a o (3 - m)) s (3 * i + j)) (S := gm_acc (yb_o a o m) (yb_o a o (3 - m)) s (3 * i + j)) (p := yb_o a o m) (q := yb_o a o (3 - m)) (z5 := (i : Int) - 1) (z6 := (j : Int) - 1) ho hs (by omega) d1.symm d2.symm (by
          have := ih n (j + 1) (by omega) (by omega)
          rw [← ej] at this
          exact this) (gm_k (yb_o a o m) (yb_o a o (3 - m)) s (3 * i + j)) 8 0 (s : Int) (by omega) (by omega) wy_tt0
        rw [zi_n, yb_we (T := gm_acc (yb_o a o m) (yb_o a o (3 - m)) s (3 * i + j)) (fun k => by show (gm_acc (yb_o a o m) (yb_o a o (3 - m)) s (3 * i + j) k || false) = _; rw [Bool.or_false])] at hh
        exact hh
      refine br_c (fun z1 => br_c (fun z2 => ?_) (fun z2 => step (fun h4 => z2 ?_))) (fun z1 => step (fun h4 => z1 ?_))
      · rw [zn_eq0 (by omega) (by omega)] at z1 z2
        have e1 : i = 1 := by omega
        have e2 : j = 1 := by omega
        subst e1 e2
        refine nm_r ((zn_1 _).trans (by rw [ej])) ?_
        have hh := ih n 2 (by omega) (by omega)
        rw [yb_we (T := gm_acc (yb_o a o m) (yb_o a o (3 - m)) s (3 * 1 + 1)) (fun k => gm_acc_4 _ _ _ _)] at hh
        exact hh
      · rw [zn_eq0 (by omega) (by omega)]; omega
      · rw [zn_eq0 (by omega) (by omega)]; omega
theorem wy_fl_o {post : Int32 → SY → Prop} {sd hb sv pl : Int32} {a ds ph nx be pv : Nat → Int32} {m : Int32} {o s : Nat} (hm : yb_s m) (ho : o + 64 ≤ 1024) (hs : s < 64) (h : post (nI (gm_sum (yb_o a o m) (yb_o a o (3 - m)) s 9)) (sd, hb, sv, pl, yb_w a o m (gm_g (yb_o a o m) (yb_o a o (3 - m)) s), ds, ph, nx, be, pv)) : ∀ (f n i : Nat), i + f = 3 → f < n → wY_flipAt_6 post (nI o) (nI s) m sd hb sv pl n (nI (gm_sum (yb_o a o m) (yb_o a o (3 - m)) s (3 * i))) (zi_z ((i : Int) - 1)) (yb_w a o m (gm_acc (yb_o a o m) (yb_o a o (3 - m)) s (3 * i))) ds ph nx be pv := by
  intro f
  induction f with
  | zero =>
    intro n i hi hn
    cases n with
    | zero => omega
    | succ n =>
      have e : i = 3 := by omega
      subst e
      refine br_t ((zn_gt1 (by omega) (by omega)).mpr (by omega)) ?_
      rw [nI_add, nI_clamp (by omega)]
      exact ⟨vp_in_nI (by omega) (by decide), nm_r (yb_wu _ _ _ _ _) h⟩
  | succ f ih =>
    intro n i hi hn
    cases n with
    | zero => omega
    | succ n =>
      refine br_f (fun z => by rw [zn_gt1 (by omega) (by omega)] at z; omega) ⟨4, ?_⟩
      refine wy_fl_i hm ho hs (show i < 3 by omega) ?_ 3 4 0 (by omega) (by omega)
      have := ih n (i + 1) (by omega) (by omega)
      rw [show ((i + 1 : Nat) : Int) - 1 = (i : Int) by omega] at this
      exact this
theorem wy_flip {post : Int32 → SY → Prop} {sd hb sv pl : Int32} {a ds ph nx be pv : Nat → Int32} {m : Int32} {o s : Nat} (hm : yb_s m) (ho : o + 64 ≤ 1024) (hs : s < 64) (h : post (nI (gm_sum (yb_o a o m) (yb_o a o (3 - m)) s 9)) (sd, hb, sv, pl, yb_w a o m (gm_g (yb_o a o m) (yb_o a o (3 - m)) s), ds, ph, nx, be, pv)) : wpY_flipAt post (sd, hb, sv, pl, a, ds, ph, nx, be, pv) (nI o) (nI s) m := by
  unfold wpY_flipAt
  dsimp only
  refine ⟨4, ?_⟩
  have hh := wy_fl_o hm ho hs h 3 4 0 (by omega) (by omega)
  rw [yb_we (T := fun _ => false) (fun k => by rfl), yb_w0] at hh
  exact hh
theorem gy_mv {a : Nat → Int32} {m : Int32} {o s : Nat} (hm : yb_s m) (hs : s < 64) (hT : gy_T a o) : gm_np (yb_o a o m) (yb_o a o (3 - m)) s = yb_o (yb_w a o m (gm_g (yb_o a o m) (yb_o a o (3 - m)) s)) o (3 - m) ∧ gm_nq (yb_o a o m) (yb_o a o (3 - m)) s = yb_o (yb_w a o m (gm_g (yb_o a o m) (yb_o a o (3 - m)) s)) o (3 - (3 - m)) ∧ gy_T (yb_w a o m (gm_g (yb_o a o m) (yb_o a o (3 - m)) s)) o := by
  refine ⟨funext (fun j => (yb_wp (yb_3 hm).2.2 j).symm), ?_, ?_⟩
  · rw [(yb_3 hm).2.1]
    exact funext (fun j => (yb_wo (gm_g_b hs) j).symm)
  · intro j hj
    unfold yb_w
    by_cases e : o ≤ o + j ∧ gm_g (yb_o a o m) (yb_o a o (3 - m)) s (o + j - o) = true
    · rw [if_pos e]
      rcases hm with rfl | rfl
      · exact Or.inr (Or.inl rfl)
      · exact Or.inr (Or.inr rfl)
    · rw [if_neg e]
      exact hT j hj
