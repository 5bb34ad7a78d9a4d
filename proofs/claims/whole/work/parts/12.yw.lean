/-! the reference's small methods, each with a general post -/
theorem zn_64 (f i : Nat) : 64 * nI f + nI i = nI (64 * f + i) := by
  rw [show (64 : Int32) = nI 64 from rfl, pk_mul, nI_add]
theorem zn_oix {o : Nat} {r c : Int} (h : gm_on r c) : (nI o + 8 * zi_z r) + zi_z c = nI (o + gm_ix r c) := by
  rw [Int32.add_assoc, zn_ix h, nI_add]
theorem zn_gt7 {x : Int} (h : -1000 ≤ x) (h' : x ≤ 1000) : (7 : Int32) < zi_z x ↔ 7 < x := by
  have e : (7 : Int32) = zi_z 7 := by decide
  rw [e, zi_lt (by decide) (by decide) (by omega) (by omega)]
theorem gy_emp {a : Nat → Int32} {o s : Nat} {m : Int32} (hm : yb_s m) (hT : gy_T a o) (hs : s < 64) : a (o + s) = 0 ↔ yb_o a o m s = false ∧ yb_o a o (3 - m) s = false := by
  rw [yb_of hs, yb_of hs]
  rcases hm with rfl | rfl
  · rw [show (3 : Int32) - 1 = 2 by decide]
    rcases hT s hs with e | e | e <;> rw [e] <;> decide
  · rw [show (3 : Int32) - 2 = 1 by decide]
    rcases hT s hs with e | e | e <;> rw [e] <;> decide
def gm_kk (o : Option Nat) (k : Nat) : Nat := match o with
  | none => 0
  | some j => k + j
theorem wy_run_l {post : Int32 → Prop} {sd hb sv pl : Int32} {a ds ph nx be pv : Nat → Int32} {m : Int32} {o s t : Nat} (hm : yb_s m) (ho : o + 64 ≤ 1024) (hs : s < 64) (ht : t < 9) : ∀ (f n i k : Nat) (r c : Int), i + f = 8 → f < n → r = gm_r0 s t + (i : Int) * gm_dr t → c = gm_c0 s t + (i : Int) * gm_dc t → post (nI (gm_kk (gm_len (yb_o a o m) (yb_o a o (3 - m)) (gm_dr t) (gm_dc t) f r c) k)) → wY_runLen_23 post (nI o) (zi_z (gm_dr t)) (zi_z (gm_dc t)) m sd hb sv pl a ds ph nx be pv n (zi_z r) (zi_z c) (nI k) (nI i) := by
  intro f
  induction f with
  | zero =>
    intro n i k r c hi hn hr hc h
    cases n with
    | zero => omega
    | succ n => exact pk_le 8 i (fun _ => h) (fun z => by omega)
  | succ f ih =>
    intro n i k r c hi hn hr hc h
    cases n with
    | zero => omega
    | succ n =>
      have b1 := zn_rb (s := s) (i := i) ht hs (by omega)
      have b2 := zn_cb (s := s) (i := i) (t := t) (by omega)
      rw [← hr] at b1
      rw [← hc] at b2
      refine pk_le 8 i (fun z => by omega) (fun _ => ?_)
      rw [gm_len] at h
      by_cases hon : gm_on r c
      · rw [if_pos hon] at h
        have hk := gm_ixlt hon
        refine br_f (fun z => by rw [zn_lt0 (by omega) (by omega)] at z; omega) (br_f (fun z => by rw [zn_gt7 (by omega) (by omega)] at z; omega) (br_f (fun z => by rw [zn_lt0 (by omega) (by omega)] at z; omega) (br_t ((zn_le7 (by omega) (by omega)).mpr (by omega)) ?_)))
        rw [zn_oix hon]
        refine ⟨vp_in_nI (by omega) (by decide), ?_⟩
        rw [nI_clamp (by omega)]
        refine nm_e (br_c (fun z1 => ?_) (fun z1 => br_c (fun z2 => ?_) (fun z2 => ?_)))
        · have hp : ¬ yb_o a o m (gm_ix r c) = true := by
            rw [yb_oi hk, z1]; exact fun z => (yb_3 hm).2.2 z.symm
          rw [if_neg hp, if_pos ((yb_oi hk).mpr z1)] at h
          refine nm_r (nI_1 k) (nm_r (zi_add _ _) (nm_r (zi_add _ _) (nm_r (nI_1 i) ?_)))
          refine ih n (i + 1) (k + 1) (r + gm_dr t) (c + gm_dc t) (by omega) (by omega) (by rw [gm_st, hr]; omega) (by rw [gm_st, hc]; omega) ?_
          cases hl : gm_len (yb_o a o m) (yb_o a o (3 - m)) (gm_dr t) (gm_dc t) f (r + gm_dr t) (c + gm_dc t) with
          | none => rw [hl] at h; exact h
          | some j =>
            rw [hl] at h
            have e : k + 1 + j = k + (j + 1) := by omega
            show post (nI (k + 1 + j))
            rw [e]
            exact h
        · rw [if_pos ((yb_oi hk).mpr z2)] at h
          exact h
        · have hp : ¬ yb_o a o m (gm_ix r c) = true := by rw [yb_oi hk]; exact z2
          have hq : ¬ yb_o a o (3 - m) (gm_ix r c) = true := by rw [yb_oi hk]; exact z1
          rw [if_neg hp, if_neg hq] at h
          exact h
      · rw [if_neg hon] at h
        refine br_c (fun _ => h) (fun z1 => br_c (fun _ => h) (fun z2 => br_c (fun _ => h) (fun z3 => br_f (fun z4 => hon ?_) h)))
        rw [zn_lt0 (by omega) (by omega)] at z1 z3
        rw [zn_gt7 (by omega) (by omega)] at z2
        rw [zn_le7 (by omega) (by omega)] at z4
        omega
theorem wy_run {post : Int32 → Prop} {sd hb sv pl : Int32} {a ds ph nx be pv : Nat → Int32} {m : Int32} {o s t : Nat} (hm : yb_s m) (ho : o + 64 ≤ 1024) (hs : s < 64) (ht : t < 9) (h4 : t ≠ 4) (h : post (nI (gm_k (yb_o a o m) (yb_o a o (3 - m)) s t))) : wpY_runLen post (sd, hb, sv, pl, a, ds, ph, nx, be, pv) (nI o) (nI s) (zi_z (gm_dr t)) (zi_z (gm_dc t)) m := by
  unfold wpY_runLen
  dsimp only
  refine ⟨by decide, nm_r (zn_row0 hs) ⟨by decide, nm_r (zn_col0 hs) ⟨9, ?_⟩⟩⟩
  refine wy_run_l hm ho hs ht 8 9 0 0 (gm_r0 s t) (gm_c0 s t) (by omega) (by omega) (gm_s0 _ _).symm (gm_s0 _ _).symm ?_
  rw [gm_k8 hs h4 ht] at h
  cases hl : gm_len (yb_o a o m) (yb_o a o (3 - m)) (gm_dr t) (gm_dc t) 8 (gm_r0 s t) (gm_c0 s t) with
  | none => rw [hl] at h; exact h
  | some j =>
    rw [hl] at h
    show post (nI (0 + j))
    rw [Nat.zero_add]
    exact h
theorem gm_sum_m {p q : Nat → Bool} {s t : Nat} : ∀ T : Nat, t ≤ T → gm_sum p q s t ≤ gm_sum p q s T := by
  intro T
  induction T with
  | zero => intro h; have e : t = 0 := (by omega); subst e; exact Nat.le_refl _
  | succ T ih =>
    intro h
    by_cases e : t = T + 1
    · subst e; exact Nat.le_refl _
    · have := ih (by omega)
      rw [gm_sum]; omega
theorem wy_lg_i {post : Int32 → Prop} {J : Int32 → Prop} {sd hb sv pl : Int32} {a ds ph nx be pv : Nat → Int32} {m : Int32} {o s i : Nat} (hm : yb_s m) (ho : o + 64 ≤ 1024) (hs : s < 64) (hi : i < 3) (h1 : 0 < gm_sum (yb_o a o m) (yb_o a o (3 - m)) s 9 → post 1) (hJ : gm_sum (yb_o a o m) (yb_o a o (3 - m)) s (3 * i + 3) = 0 → J (zi_z (i : Int))) : ∀ (f n j : Nat), j + f = 3 → f < n → gm_sum (yb_o a o m) (yb_o a o (3 - m)) s (3 * i + j) = 0 → wY_legalAt_37 post J (nI o) (nI s) m (zi_z ((i : Int) - 1)) sd hb sv pl a ds ph nx be pv n (zi_z ((j : Int) - 1)) := by
  intro f
  induction f with
  | zero =>
    intro n j hj hn hR
    cases n with
    | zero => omega
    | succ n =>
      have e : j = 3 := by omega
      subst e
      exact br_t ((zn_gt1 (by omega) (by omega)).mpr (by omega)) (nm_r ((zn_1 _).trans (by rw [show (i : Int) - 1 + 1 = (i : Int) by omega])) (hJ hR))
  | succ f ih =>
    intro n j hj hn hR
    cases n with
    | zero => omega
    | succ n =>
      obtain ⟨d1, d2⟩ := zn_dr i hi j (by omega)
      have ej : (j : Int) - 1 + 1 = ((j + 1 : Nat) : Int) - 1 := by omega
      have es : gm_sum (yb_o a o m) (yb_o a o (3 - m)) s (3 * i + j + 1) = gm_sum (yb_o a o m) (yb_o a o (3 - m)) s (3 * i + j) + gm_k (yb_o a o m) (yb_o a o (3 - m)) s (3 * i + j) := rfl
      refine br_f (fun z => by rw [zn_gt1 (by omega) (by omega)] at z; omega) ?_
      have step : 3 * i + j ≠ 4 → wY_legalAt_56 post J (wY_legalAt_37 post J (nI o) (nI s) m (zi_z ((i : Int) - 1)) sd hb sv pl a ds ph nx be pv n) (nI o) (nI s) m (zi_z ((i : Int) - 1)) (zi_z ((j : Int) - 1)) sd hb sv pl a ds ph nx be pv := by
        intro h4
        unfold wY_legalAt_56
        rw [← d1, ← d2]
        have k7 := gm_k7 (yb_o a o m) (yb_o a o (3 - m)) s (3 * i + j)
        refine wy_run hm ho hs (by omega) h4 (pk_le _ 0 (fun z => nm_r ((zn_1 _).trans (by rw [d2, ej])) ?_) (fun z => h1 ?_) rfl rfl (by omega))
        · rw [d1]
          exact ih n (j + 1) (by omega) (by omega) (by show gm_sum _ _ s (3 * i + j + 1) = 0; omega)
        · have := gm_sum_m (p := yb_o a o m) (q := yb_o a o (3 - m)) (s := s) (t := 3 * i + j + 1) 9 (by omega)
          omega
      refine br_c (fun z1 => br_c (fun z2 => ?_) (fun z2 => step (fun h4 => z2 ?_))) (fun z1 => step (fun h4 => z1 ?_))
      · rw [zn_eq0 (by omega) (by omega)] at z1 z2
        have e1 : i = 1 := by omega
        have e2 : j = 1 := by omega
        subst e1 e2
        exact nm_r ((zn_1 _).trans (by rw [ej])) (ih n 2 (by omega) (by omega) hR)
      · rw [zn_eq0 (by omega) (by omega)]; omega
      · rw [zn_eq0 (by omega) (by omega)]; omega
theorem wy_lg_o {post : Int32 → Prop} {sd hb sv pl : Int32} {a ds ph nx be pv : Nat → Int32} {m : Int32} {o s : Nat} (hm : yb_s m) (ho : o + 64 ≤ 1024) (hs : s < 64) (h1 : 0 < gm_sum (yb_o a o m) (yb_o a o (3 - m)) s 9 → post 1) (h0 : gm_sum (yb_o a o m) (yb_o a o (3 - m)) s 9 = 0 → post 0) : ∀ (f n i : Nat), i + f = 3 → f < n → gm_sum (yb_o a o m) (yb_o a o (3 - m)) s (3 * i) = 0 → wY_legalAt_28 post (nI o) (nI s) m sd hb sv pl a ds ph nx be pv n (zi_z ((i : Int) - 1)) := by
  intro f
  induction f with
  | zero =>
    intro n i hi hn hR
    cases n with
    | zero => omega
    | succ n =>
      have e : i = 3 := by omega
      subst e
      exact br_t ((zn_gt1 (by omega) (by omega)).mpr (by omega)) (h0 hR)
  | succ f ih =>
    intro n i hi hn hR
    cases n with
    | zero => omega
    | succ n =>
      refine br_f (fun z => by rw [zn_gt1 (by omega) (by omega)] at z; omega) ⟨4, ?_⟩
      have hh := wy_lg_i (post := post) (J := wY_legalAt_28 post (nI o) (nI s) m sd hb sv pl a ds ph nx be pv n) (sd := sd) (hb := hb) (sv := sv) (pl := pl) (a := a) (ds := ds) (ph := ph) (nx := nx) (be := be) (pv := pv) hm ho hs (show i < 3 by omega) h1 (fun hw => by
        have := ih n (i + 1) (by omega) (by omega) hw
        rw [show ((i + 1 : Nat) : Int) - 1 = (i : Int) by omega] at this
        exact this) 3 4 0 (by omega) (by omega) hR
      exact hh
theorem wy_lg {post : Int32 → Prop} {sd hb sv pl : Int32} {a ds ph nx be pv : Nat → Int32} {m : Int32} {o s : Nat} (hm : yb_s m) (ho : o + 64 ≤ 1024) (hT : gy_T a o) (hs : s < 64) (h1 : gm_lg (yb_o a o m) (yb_o a o (3 - m)) s = true → post 1) (h0 : gm_lg (yb_o a o m) (yb_o a o (3 - m)) s = false → post 0) : wpY_legalAt post (sd, hb, sv, pl, a, ds, ph, nx, be, pv) (nI o) (nI s) m := by
  unfold wpY_legalAt
  dsimp only
  have hc : (nI (o + s)).toNatClampNeg = o + s := nI_clamp (by omega)
  rw [nI_add, hc]
  refine br_f (nI_pos (by omega)) (pk_le s 63 (fun _ => ⟨vp_in_nI (by omega) (by decide), br_c (fun z => ⟨4, ?_⟩) (fun z => h0 (gm_nt (fun y => z ((gy_emp hm hT hs).mpr (gm_lg_i.mp y).2.1))))⟩) (fun z => by omega))
  have he := (gy_emp hm hT hs).mp z
  refine wy_lg_o hm ho hs (fun y => h1 (gm_lg_i.mpr ⟨hs, he, y⟩)) (fun y => h0 (gm_nt (fun q => ?_))) 3 4 0 (by omega) (by omega) rfl
  have := (gm_lg_i.mp q).2.2
  omega
theorem wy_hm_l {post : Int32 → Prop} {sd hb sv pl : Int32} {a ds ph nx be pv : Nat → Int32} {m : Int32} {o : Nat} (hm : yb_s m) (ho : o + 64 ≤ 1024) (hT : gy_T a o) (h1 : gm_hm (yb_o a o m) (yb_o a o (3 - m)) = true → post 1) (h0 : gm_hm (yb_o a o m) (yb_o a o (3 - m)) = false → post 0) : ∀ (n i : Nat), i ≤ 64 → 64 < n + i → (∀ j, j < i → gm_lg (yb_o a o m) (yb_o a o (3 - m)) j = false) → wY_hasMove_2 post (nI o) m sd hb sv pl a ds ph nx be pv n (nI i) := by
  intro n
  induction n with
  | zero => intro i hi hn _; omega
  | succ n ih =>
    intro i hi hn hj
    refine pk_le 64 i (fun z => h0 (gm_nt (fun y => ?_))) (fun z => ?_)
    · obtain ⟨s, hs, hl⟩ := gm_hm_i.mp y
      rw [hj s (by omega)] at hl
      cases hl
    · refine wy_lg hm ho hT z (fun y => br_f (by decide) (h1 (gm_hm_i.mpr ⟨i, z, y⟩))) (fun y => br_t rfl (nm_r (nI_1 i) ?_))
      refine ih (i + 1) (by omega) (by omega) (fun j q => ?_)
      by_cases e : j = i
      · rw [e]; exact y
      · exact hj j (by omega)
theorem wy_hm {post : Int32 → Prop} {sd hb sv pl : Int32} {a ds ph nx be pv : Nat → Int32} {m : Int32} {o : Nat} (hm : yb_s m) (ho : o + 64 ≤ 1024) (hT : gy_T a o) (h1 : gm_hm (yb_o a o m) (yb_o a o (3 - m)) = true → post 1) (h0 : gm_hm (yb_o a o m) (yb_o a o (3 - m)) = false → post 0) : wpY_hasMove post (sd, hb, sv, pl, a, ds, ph, nx, be, pv) (nI o) m := by
  unfold wpY_hasMove
  exact ⟨65, wy_hm_l hm ho hT h1 h0 65 0 (by omega) (by omega) (fun j hj => by omega)⟩
theorem wy_over12 {post : Int32 → Prop} {sd hb sv pl : Int32} {a ds ph nx be pv : Nat → Int32} {o : Nat} (ho : o + 64 ≤ 1024) (hT : gy_T a o) (h1 : gm_hm (yb_o a o 1) (yb_o a o 2) = false → gm_hm (yb_o a o 2) (yb_o a o 1) = false → post 1) (h0 : gm_hm (yb_o a o 1) (yb_o a o 2) = true ∨ gm_hm (yb_o a o 2) (yb_o a o 1) = true → post 0) : wpY_overAt post (sd, hb, sv, pl, a, ds, ph, nx, be, pv) (nI o) := by
  have e1 : (3 : Int32) - 1 = 2 := by decide
  have e2 : (3 : Int32) - 2 = 1 := by decide
  unfold wpY_overAt
  dsimp only
  refine wy_hm (Or.inl rfl) ho hT (fun z => ?_) (fun z => ?_)
  · rw [e1] at z
    exact br_f (by decide) (h0 (Or.inl z))
  · rw [e1] at z
    refine br_t rfl (wy_hm (Or.inr rfl) ho hT (fun y => ?_) (fun y => ?_))
    · rw [e2] at y
      exact br_f (by decide) (h0 (Or.inr y))
    · rw [e2] at y
      exact br_t rfl (h1 z y)
theorem wy_over {post : Int32 → Prop} {sd hb sv pl : Int32} {a ds ph nx be pv : Nat → Int32} {m : Int32} {o : Nat} (hm : yb_s m) (ho : o + 64 ≤ 1024) (hT : gy_T a o) (h1 : gm_hm (yb_o a o m) (yb_o a o (3 - m)) = false → gm_hm (yb_o a o (3 - m)) (yb_o a o m) = false → post 1) (h0 : gm_hm (yb_o a o m) (yb_o a o (3 - m)) = true ∨ gm_hm (yb_o a o (3 - m)) (yb_o a o m) = true → post 0) : wpY_overAt post (sd, hb, sv, pl, a, ds, ph, nx, be, pv) (nI o) := by
  rcases hm with rfl | rfl
  · rw [show (3 : Int32) - 1 = 2 by decide] at h1 h0
    exact wy_over12 ho hT h1 h0
  · rw [show (3 : Int32) - 2 = 1 by decide] at h1 h0
    exact wy_over12 ho hT (fun x y => h1 y x) (fun x => h0 x.symm)
theorem wy_df_l {post : Int32 → Prop} {sd hb sv pl : Int32} {a ds ph nx be pv : Nat → Int32} {m : Int32} {o : Nat} (hm : yb_s m) (ho : o + 64 ≤ 1024) (h : post (zi_z (gm_df (yb_o a o m) (yb_o a o (3 - m))))) : ∀ (n i : Nat), i ≤ 64 → 64 < n + i → wY_diffAt_5 post (nI o) m sd hb sv pl a ds ph nx be pv n (zi_z ((gm_cnt (yb_o a o m) i : Int) - (gm_cnt (yb_o a o (3 - m)) i : Int))) (nI i) := by
  intro n
  induction n with
  | zero => intro i hi hn; omega
  | succ n ih =>
    intro i hi hn
    refine pk_le 64 i (fun z => ?_) (fun z => ?_)
    · have e : i = 64 := by omega
      subst e
      exact h
    · have hc : (nI (o + i)).toNatClampNeg = o + i := nI_clamp (by omega)
      have hin : vp_in (nI (o + i)) 1024 := vp_in_nI (by omega) (by decide)
      have hh := ih (i + 1) (by omega) (by omega)
      rw [nI_add, hc]
      refine ⟨hin, br_c (fun y => nm_r ((zn_1 _).trans ?_) (nm_r (nI_1 i) hh)) (fun y => ⟨hin, br_c (fun q => nm_r (?_ : _ = zi_z ((gm_cnt (yb_o a o m) (i + 1) : Int) - (gm_cnt (yb_o a o (3 - m)) (i + 1) : Int))) (nm_r (nI_1 i) hh)) (fun q => nm_r (nI_1 i) ?_)⟩)⟩
      · have y1 : yb_o a o m i = true := (yb_oi z).mpr y
        have y2 : ¬ yb_o a o (3 - m) i = true := by rw [yb_oi z, y]; exact (yb_3 hm).2.2
        rw [gm_cnt, gm_cnt, if_pos y1, if_neg y2]
        congr 1
        omega
      · have y1 : ¬ yb_o a o m i = true := by rw [yb_oi z]; exact y
        have y2 : yb_o a o (3 - m) i = true := (yb_oi z).mpr q
        rw [gm_cnt, gm_cnt, if_neg y1, if_pos y2, zi_m1, zi_add]
        congr 1
        omega
      · have y1 : ¬ yb_o a o m i = true := by rw [yb_oi z]; exact y
        have y2 : ¬ yb_o a o (3 - m) i = true := by rw [yb_oi z]; exact q
        rw [gm_cnt, gm_cnt, if_neg y1, if_neg y2, Nat.add_zero, Nat.add_zero] at hh
        exact hh
theorem wy_df {post : Int32 → Prop} {sd hb sv pl : Int32} {a ds ph nx be pv : Nat → Int32} {m : Int32} {o : Nat} (hm : yb_s m) (ho : o + 64 ≤ 1024) (h : post (zi_z (gm_df (yb_o a o m) (yb_o a o (3 - m))))) : wpY_diffAt post (sd, hb, sv, pl, a, ds, ph, nx, be, pv) (nI o) m := by
  unfold wpY_diffAt
  exact ⟨65, wy_df_l hm ho h 65 0 (by omega) (by omega)⟩
def yb_cp (a : Nat → Int32) (f g n : Nat) : Nat → Int32 := fun x => if 64 * g ≤ x ∧ x < 64 * g + n then a (64 * f + (x - 64 * g)) else a x
theorem wy_cp_l {post : SY → Prop} {sd hb sv pl : Int32} {a ds ph nx be pv : Nat → Int32} {f g : Nat} (hf : f ≤ 15) (hg : g ≤ 15) (hfg : f ≠ g) (h : post (sd, hb, sv, pl, yb_cp a f g 64, ds, ph, nx, be, pv)) : ∀ (n i : Nat), i ≤ 64 → 64 < n + i → wY_copySlot_23 post (nI f) (nI g) sd hb sv pl n (nI i) (yb_cp a f g i) ds ph nx be pv := by
  intro n
  induction n with
  | zero => intro i hi hn; omega
  | succ n ih =>
    intro i hi hn
    refine pk_le 64 i (fun z => ?_) (fun z => ?_)
    · have e : i = 64 := by omega
      subst e
      exact h
    · have hc1 : (nI (64 * f + i)).toNatClampNeg = 64 * f + i := nI_clamp (by omega)
      have hc2 : (nI (64 * g + i)).toNatClampNeg = 64 * g + i := nI_clamp (by omega)
      have hi1 : vp_in (nI (64 * f + i)) 1024 := vp_in_nI (by omega) (by decide)
      have hi2 : vp_in (nI (64 * g + i)) 1024 := vp_in_nI (by omega) (by decide)
      rw [zn_64, zn_64, hc1, hc2]
      refine ⟨hi1, hi2, nm_r (?_ : _ = yb_cp a f g (i + 1)) (nm_r (nI_1 i) (ih (i + 1) (by omega) (by omega)))⟩
      funext x
      unfold upd yb_cp
      by_cases e : x = 64 * g + i
      · rw [if_pos e, if_pos (show 64 * g ≤ x ∧ x < 64 * g + (i + 1) by omega), if_neg (show ¬ (64 * g ≤ 64 * f + i ∧ 64 * f + i < 64 * g + i) by omega)]
        congr 1
        omega
      · rw [if_neg e]
        by_cases e2 : 64 * g ≤ x ∧ x < 64 * g + i
        · rw [if_pos e2, if_pos (by omega)]
        · rw [if_neg e2, if_neg (by omega)]
theorem wy_cp {post : SY → Prop} {sd hb sv pl : Int32} {a ds ph nx be pv : Nat → Int32} {f g : Nat} (hf : f ≤ 15) (hg : g ≤ 15) (hfg : f ≠ g) (h : ∀ a' : Nat → Int32, (∀ j, j < 64 → a' (64 * g + j) = a (64 * f + j)) → (∀ x, x < 64 * g ∨ 64 * g + 64 ≤ x → a' x = a x) → post (sd, hb, sv, pl, a', ds, ph, nx, be, pv)) : wpY_copySlot post (sd, hb, sv, pl, a, ds, ph, nx, be, pv) (nI f) (nI g) := by
  unfold wpY_copySlot
  dsimp only
  refine br_f (nI_pos (by omega)) (pk_lt 15 f (fun z => by omega) (fun _ => br_f (nI_pos (by omega)) (pk_le g 15 (fun _ => ⟨65, ?_⟩) (fun z => by omega))))
  have e0 : yb_cp a f g 0 = a := by
    funext x
    exact if_neg (by omega)
  have hh := wy_cp_l (post := post) (sd := sd) (hb := hb) (sv := sv) (pl := pl) (a := a) (ds := ds) (ph := ph) (nx := nx) (be := be) (pv := pv) hf hg hfg (h (yb_cp a f g 64) (fun j hj => ?_) (fun x hx => ?_)) 65 0 (by omega) (by omega)
  · rw [e0] at hh
    exact hh
  · unfold yb_cp
    rw [if_pos (by omega)]
    congr 1
    omega
  · exact if_neg (by omega)
