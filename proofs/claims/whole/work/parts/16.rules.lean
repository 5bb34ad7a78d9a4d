/-! the methods that need the rules of the game -/
theorem rl_T {b w : Int64} {a : Nat → Int32} (h : rb_R b w a) : gy_T a 0 := fun j hj => by rw [Nat.zero_add]; exact h.2.2 j hj
theorem wx_over {post : Int32 → Prop} {b w : Int64} {sd he hv hl : Int32} {ln : Nat → Int32} {ow op un : Nat → Int64} {pa ty bm be : Nat → Int32} {P Q : Nat → Bool} (h1 : xb_t b = P) (h2 : xb_t w = Q) (hy : gm_hm P Q = false → gm_hm Q P = false → post 1) (hn : gm_hm P Q = true ∨ gm_hm Q P = true → post 0) : wpX_isGameOver post (b, w, sd, he, hv, hl, ln, ow, op, un, pa, ty, bm, be) := by
  subst h1 h2
  unfold wpX_isGameOver
  dsimp only
  refine wx_moves (fun w1 g1 => br_c (fun z => wx_moves (fun w2 g2 => br_c (fun y => hy ((xb_hm g1).mp z) ((xb_hm g2).mp y)) (fun y => hn (Or.inr (gm_nf (fun q => y ((xb_hm g2).mpr q))))))) (fun z => hn (Or.inl (gm_nf (fun q => z ((xb_hm g1).mpr q))))))
theorem i_vc_isGameOver {k : Nat} {u : SX} {v : SY} (I : i_Rel k u v) (hk : k + 4 ≤ 2048) : wpX_isGameOver (fun r => wpY_isGameOver (fun r' => r' = r ∧ i_Rel (k + 4) u v) v) u := by
  obtain ⟨b, w, sd, he, hv, hl, ln, ow, op, un, pa, ty, bm, be⟩ := u
  obtain ⟨sd2, hb, sv, pl, a, ds, ph, nx, be2, pv⟩ := v
  have I0 := I
  obtain ⟨hR, rfl, hs, rfl, hh⟩ := I
  have hT := rl_T hR
  obtain ⟨r1, r2, r3⟩ := hR
  refine wx_over r1 r2 (fun z y => ?_) (fun z => ?_)
  · unfold wpY_isGameOver
    refine wy_over12 (o := 0) (by omega) hT (fun _ _ => ⟨rfl, rfl, I0⟩) (fun q => ?_)
    rcases q with q | q
    · rw [q] at z; cases z
    · rw [q] at y; cases y
  · unfold wpY_isGameOver
    refine wy_over12 (o := 0) (by omega) hT (fun q1 q2 => ?_) (fun q => ⟨rfl, rfl, I0⟩)
    rcases z with z | z
    · rw [q1] at z; cases z
    · rw [q2] at z; cases z
theorem rx_md {b w : Int64} {sd he hv hl : Int32} {ln : Nat → Int32} {ow op un : Nat → Int64} {pa ty bm be : Nat → Int32} {a : Nat → Int32} (hR : rb_R b w a) (hs : yb_s sd) : ∃ own opp : Int64, xb_t own = yb_o a 0 sd ∧ xb_t opp = yb_o a 0 (3 - sd) ∧ (∀ post : Int64 → Prop, post own → wpX_moverDiscs post (b, w, sd, he, hv, hl, ln, ow, op, un, pa, ty, bm, be)) ∧ (∀ post : Int64 → Prop, post opp → wpX_otherDiscs post (b, w, sd, he, hv, hl, ln, ow, op, un, pa, ty, bm, be)) ∧ ((sd = 1 ∧ own = b ∧ opp = w) ∨ (sd = 2 ∧ own = w ∧ opp = b)) := by
  obtain ⟨r1, r2, _⟩ := hR
  rcases hs with rfl | rfl
  · exact ⟨b, w, r1, r2, fun post h => br_t rfl h, fun post h => br_t rfl h, Or.inl ⟨rfl, rfl, rfl⟩⟩
  · exact ⟨w, b, r2, r1, fun post h => br_f (by decide) h, fun post h => br_f (by decide) h, Or.inr ⟨rfl, rfl, rfl⟩⟩
theorem i_vc_isLegal {k : Nat} {u : SX} {v : SY} (I : i_Rel k u v) (hk : k + 4 ≤ 2048) (v1 : Int32) : wpX_isLegal (fun r => wpY_isLegal (fun r' => r' = r ∧ i_Rel (k + 4) u v) v v1) u v1 := by
  obtain ⟨b, w, sd, he, hv, hl, ln, ow, op, un, pa, ty, bm, be⟩ := u
  obtain ⟨sd2, hb, sv, pl, a, ds, ph, nx, be2, pv⟩ := v
  have I0 := I
  obtain ⟨hR, rfl, hs, rfl, hh⟩ := I
  have hT := rl_T hR
  obtain ⟨own, opp, e1, e2, m1, m2, _⟩ := rx_md (sd := sd2) (he := hb) (hv := hv) (hl := hl) (ln := ln) (ow := ow) (op := op) (un := un) (pa := pa) (ty := ty) (bm := bm) (be := be) hR hs
  unfold wpX_isLegal wpY_isLegal
  dsimp only
  have hoff : v1 < 0 ∨ nI 64 ≤ v1 ∨ ∃ j : Nat, j < 64 ∧ v1 = nI j := pk_ix v1 (by decide)
  rcases hoff with h | h | ⟨s, hsq, rfl⟩
  · refine wx_offb (Or.inl h) (br_t rfl ?_)
    unfold wpY_legalAt
    exact wy_off (Or.inl h) ⟨rfl, rfl, I0⟩
  · refine wx_offb (Or.inr h) (br_t rfl ?_)
    unfold wpY_legalAt
    exact wy_off (Or.inr h) ⟨rfl, rfl, I0⟩
  · refine wx_onb hsq (br_f (by decide) (m1 _ (m2 _ (wx_flips hsq (fun x hx => br_c (fun z => ?_) (fun z => ?_))))))
    · refine wy_lg (o := 0) hs (by omega) hT hsq (fun q => ?_) (fun q => ⟨rfl, rfl, I0⟩)
      rw [← e1, ← e2] at q
      obtain ⟨j, hj⟩ := (gm_fl_i hsq).mp q
      rw [← hx j, z, xb_0] at hj
      cases hj
    · refine wy_lg (o := 0) hs (by omega) hT hsq (fun q => ⟨rfl, rfl, I0⟩) (fun q => ?_)
      obtain ⟨j, hj⟩ := xb_nz.mp z
      rw [hx j] at hj
      have := (gm_fl_i hsq).mpr ⟨j, hj⟩
      rw [e1, e2, q] at this
      cases this
theorem wy_lm_l {post : Int64 → Prop} {sd hb sv pl : Int32} {a ds ph nx be pv : Nat → Int32} (hm : yb_s sd) (hT : gy_T a 0) (h : ∀ w, (∀ j, xb_t w j = gm_lg (yb_o a 0 sd) (yb_o a 0 (3 - sd)) j) → post w) : ∀ (n i : Nat) (M : Int64), i ≤ 64 → 64 < n + i → (∀ j, xb_t M j = (decide (j < i) && gm_lg (yb_o a 0 sd) (yb_o a 0 (3 - sd)) j)) → wY_legalMask_4 post sd hb sv pl a ds ph nx be pv n M (nI i) := by
  intro n
  induction n with
  | zero => intro i M hi hn _; omega
  | succ n ih =>
    intro i M hi hn hM
    refine pk_le 64 i (fun z => h M (fun j => ?_)) (fun z => ?_)
    · rw [hM j]
      by_cases hj : j < i
      · rw [decide_eq_true hj, Bool.true_and]
      · rw [gm_lg_64 (show 64 ≤ j by omega), Bool.and_false]
    · refine wy_lg (o := 0) hm (by omega) hT z (fun hl => br_f (by decide) (nm_e (nm_r (nI_1 i) ?_))) (fun hl => br_t rfl (nm_r (nI_1 i) ?_))
      · refine ih (i + 1) _ (by omega) (by omega) (fun j => ?_)
        rw [xb_or, hM j, xb_1 z]
        by_cases e : j = i
        · simp [e, hl]
        · rw [decide_eq_decide.mpr (show j < i ↔ j < i + 1 by omega), decide_eq_false e, Bool.or_false]
      · refine ih (i + 1) M (by omega) (by omega) (fun j => ?_)
        rw [hM j]
        by_cases e : j = i
        · rw [e, hl, Bool.and_false, Bool.and_false]
        · rw [decide_eq_decide.mpr (show j < i ↔ j < i + 1 by omega)]
theorem wy_lm {post : Int64 → Prop} {sd hb sv pl : Int32} {a ds ph nx be pv : Nat → Int32} (hm : yb_s sd) (hT : gy_T a 0) (h : ∀ w, (∀ j, xb_t w j = gm_lg (yb_o a 0 sd) (yb_o a 0 (3 - sd)) j) → post w) : wpY_legalMask post (sd, hb, sv, pl, a, ds, ph, nx, be, pv) := by
  unfold wpY_legalMask
  exact ⟨65, wy_lm_l hm hT h 65 0 0 (by omega) (by omega) (fun j => by rw [xb_0]; simp)⟩
theorem i_vc_legalMask {k : Nat} {u : SX} {v : SY} (I : i_Rel k u v) (hk : k + 4 ≤ 2048) : wpX_legalMask (fun r => wpY_legalMask (fun r' => r' = r ∧ i_Rel (k + 4) u v) v) u := by
  obtain ⟨b, w, sd, he, hv, hl, ln, ow, op, un, pa, ty, bm, be⟩ := u
  obtain ⟨sd2, hb, sv, pl, a, ds, ph, nx, be2, pv⟩ := v
  have I0 := I
  obtain ⟨hR, rfl, hs, rfl, hh⟩ := I
  have hT := rl_T hR
  obtain ⟨own, opp, e1, e2, m1, m2, _⟩ := rx_md (sd := sd2) (he := hb) (hv := hv) (hl := hl) (ln := ln) (ow := ow) (op := op) (un := un) (pa := pa) (ty := ty) (bm := bm) (be := be) hR hs
  unfold wpX_legalMask
  dsimp only
  refine m1 _ (m2 _ (wx_moves (fun x hx => wy_lm hs hT (fun y hy => ⟨xb_ext (fun j _ => ?_), I0⟩))))
  rw [hx j, hy j, e1, e2]
theorem i_vc_pass {k : Nat} {u : SX} {v : SY} (I : i_Rel k u v) (hk : k + 4 ≤ 2048) : wpX_pass (fun r u' => wpY_pass (fun r' v' => r' = r ∧ i_Rel (k + 4) u' v') v) u := by
  obtain ⟨b, w, sd, he, hv, hl, ln, ow, op, un, pa, ty, bm, be⟩ := u
  obtain ⟨sd2, hb, sv, pl, a, ds, ph, nx, be2, pv⟩ := v
  have I0 := I
  obtain ⟨hR, rfl, hs, rfl, hh⟩ := I
  have hT := rl_T hR
  have hR0 := hR
  obtain ⟨own, opp, e1, e2, m1, m2, _⟩ := rx_md (sd := sd2) (he := hb) (hv := hv) (hl := hl) (ln := ln) (ow := ow) (op := op) (un := un) (pa := pa) (ty := ty) (bm := bm) (be := be) hR hs
  obtain ⟨r1, r2, r3⟩ := hR
  replace hs : yb_s sd2 := hs
  unfold wpX_pass wpY_pass
  dsimp only
  refine wx_over r1 r2 (fun z y => ?_) (fun z => ?_)
  · refine br_f (by decide) (wy_over12 (o := 0) (by omega) hT (fun _ _ => br_f (by decide) ⟨rfl, I0⟩) (fun q => ?_))
    rcases q with q | q
    · rw [q] at z; cases z
    · rw [q] at y; cases y
  · refine br_t rfl ?_
    unfold wpX_legalMask
    dsimp only
    refine m1 _ (m2 _ (wx_moves (fun x hx => ?_)))
    rw [e1, e2] at hx
    refine br_c (fun q => ?_) (fun q => ?_)
    · have hq := (xb_hm hx).mp q
      unfold wpX_endTurn
      dsimp only
      have hy : ∀ sd3 : Int32, sd3 = 3 - sd2 → wpY_overAt (fun r_1 => (r_1 = 0 → wpY_hasMove (fun r_13 => (r_13 = 0 → ∀ f_side_25 : Int32, f_side_25 = 3 - sd2 → ((0 : Int32) = 0 ∧ i_Rel (k + 4) (b, w, sd3, 0, hv, hl, ln, ow, op, un, pa, ty, bm, be) (f_side_25, 0, sv, pl, a, ds, ph, nx, be2, pv))) ∧ (¬ r_13 = 0 → ((-3 : Int32) = 0 ∧ i_Rel (k + 4) (b, w, sd3, 0, hv, hl, ln, ow, op, un, pa, ty, bm, be) (sd2, hb, sv, pl, a, ds, ph, nx, be2, pv)))) (sd2, hb, sv, pl, a, ds, ph, nx, be2, pv) 0 sd2) ∧ (¬ r_1 = 0 → ((-2 : Int32) = 0 ∧ i_Rel (k + 4) (b, w, sd3, 0, hv, hl, ln, ow, op, un, pa, ty, bm, be) (sd2, hb, sv, pl, a, ds, ph, nx, be2, pv)))) (sd2, hb, sv, pl, a, ds, ph, nx, be2, pv) 0 := by
        intro sd3 h3
        refine wy_over12 (o := 0) (by omega) hT (fun g1 g2 => ?_) (fun _ => br_t rfl (wy_hm (o := 0) hs (by omega) hT (fun g => ?_) (fun _ => br_t rfl (nm_e ⟨rfl, hR0, h3.symm, by rw [h3]; exact (yb_3 hs).1, rfl, Or.inl rfl⟩))))
        · rcases z with z | z
          · rw [z] at g1; cases g1
          · rw [z] at g2; cases g2
        · rw [hq] at g; cases g
      rcases hs with h | h
      · exact br_t h (hy 2 (by rw [h]; decide))
      · exact br_f (by rw [h]; decide) (hy 1 (by rw [h]; decide))
    · have hq : gm_hm (yb_o a 0 sd2) (yb_o a 0 (3 - sd2)) = true := gm_nf (fun g => q ((xb_hm hx).mpr g))
      refine wy_over12 (o := 0) (by omega) hT (fun g1 g2 => ?_) (fun _ => br_t rfl (wy_hm (o := 0) hs (by omega) hT (fun g => br_f (by decide) ⟨rfl, I0⟩) (fun g => ?_)))
      · rcases z with z | z
        · rw [z] at g1; cases g1
        · rw [z] at g2; cases g2
      · rw [hq] at g; cases g
theorem i_vc_play {k : Nat} {u : SX} {v : SY} (I : i_Rel k u v) (hk : k + 4 ≤ 2048) (v1 : Int32) : wpX_play (fun r u' => wpY_play (fun r' v' => r' = r ∧ i_Rel (k + 4) u' v') v v1) u v1 := by
  obtain ⟨b, w, sd, he, hv, hl, ln, ow, op, un, pa, ty, bm, be⟩ := u
  obtain ⟨sd2, hb, sv, pl, a, ds, ph, nx, be2, pv⟩ := v
  have I0 := I
  obtain ⟨hR, rfl, hs, rfl, hh⟩ := I
  have hT := rl_T hR
  obtain ⟨own, opp, e1, e2, m1, m2, hc⟩ := rx_md (sd := sd2) (he := hb) (hv := hv) (hl := hl) (ln := ln) (ow := ow) (op := op) (un := un) (pa := pa) (ty := ty) (bm := bm) (be := be) hR hs
  replace hs : yb_s sd2 := hs
  unfold wpX_play wpY_play
  dsimp only
  have hoff : v1 < 0 ∨ nI 64 ≤ v1 ∨ ∃ j : Nat, j < 64 ∧ v1 = nI j := pk_ix v1 (by decide)
  rcases hoff with h | h | ⟨s, hsq, rfl⟩
  · exact wx_offb (Or.inl h) (br_t rfl (wy_off (Or.inl h) ⟨rfl, I0⟩))
  · exact wx_offb (Or.inr h) (br_t rfl (wy_off (Or.inr h) ⟨rfl, I0⟩))
  · refine wx_onb hsq (br_f (by decide) (m1 _ (m2 _ (wx_flips hsq (fun x hx => br_c (fun z => ?_) (fun z => nm_e ?_))))))
    · refine wy_on hsq (wy_lg (o := 0) hs (by omega) hT hsq (fun q => ?_) (fun q => br_t rfl ⟨rfl, I0⟩))
      rw [← e1, ← e2] at q
      obtain ⟨j, hj⟩ := (gm_fl_i hsq).mp q
      rw [← hx j, z, xb_0] at hj
      cases hj
    · obtain ⟨j, hj⟩ := xb_nz.mp z
      rw [hx j] at hj
      have hlg := (gm_fl_i hsq).mpr ⟨j, hj⟩
      have hcn := gm_fl_n hlg
      have hsz : gm_cnt (xb_t x) 64 = gm_sum (yb_o a 0 sd2) (yb_o a 0 (3 - sd2)) s 9 := by
        rw [← e1, ← e2, ← hcn]
        exact gm_cnt_e 64 (fun j _ => hx j)
      obtain ⟨_, ⟨n1, n2⟩, _⟩ := gm_lg_i.mp hlg
      have hG : ∀ j, xb_t (x ||| ((1 : Int64) <<< ((nI s).toInt64 &&& 63))) j = gm_g (yb_o a 0 sd2) (yb_o a 0 (3 - sd2)) s j := by
        intro j
        rw [xb_or, hx j, xb_1 hsq, ← e1, ← e2]
        unfold gm_fl gm_g
        rw [n1, n2]
        rfl
      rw [e1, e2] at hlg
      generalize x ||| ((1 : Int64) <<< ((nI s).toInt64 &&& 63)) = G at hG
      obtain ⟨v1, v2, v3⟩ := gy_mv (a := a) (m := sd2) (o := 0) (s := s) hs hsq hT
      have ev2 : gm_nq (yb_o a 0 sd2) (yb_o a 0 (3 - sd2)) s = yb_o (yb_w a 0 sd2 (gm_g (yb_o a 0 sd2) (yb_o a 0 (3 - sd2)) s)) 0 sd2 := by
        rw [v2, (yb_3 hs).2.1]
      have hw1 : xb_t (own ||| G) = yb_o (yb_w a 0 sd2 (gm_g (yb_o a 0 sd2) (yb_o a 0 (3 - sd2)) s)) 0 sd2 := by
        rw [← ev2]
        funext j
        rw [xb_or, hG j, e1]
        rfl
      have hw2 : xb_t (opp &&& (G ^^^ (-1))) = yb_o (yb_w a 0 sd2 (gm_g (yb_o a 0 sd2) (yb_o a 0 (3 - sd2)) s)) 0 (3 - sd2) := by
        rw [← v1]
        funext j
        rw [xb_andn, hG j, e2]
        rfl
      have v3' : ∀ j, j < 64 → yb_w a 0 sd2 (gm_g (yb_o a 0 sd2) (yb_o a 0 (3 - sd2)) s) j = 0 ∨ yb_w a 0 sd2 (gm_g (yb_o a 0 sd2) (yb_o a 0 (3 - sd2)) s) j = 1 ∨ yb_w a 0 sd2 (gm_g (yb_o a 0 sd2) (yb_o a 0 (3 - sd2)) s) j = 2 := by
        intro j hj
        have := v3 j hj
        rw [Nat.zero_add] at this
        exact this
      unfold wX_play_77 wX_play_110 wpX_endTurn
      dsimp only
      rcases hc with ⟨h1, rfl, rfl⟩ | ⟨h1, rfl, rfl⟩
      · have h2 : (3 : Int32) - sd2 = 2 := by rw [h1]; decide
        refine br_t h1 (br_f (by rw [h1]; decide) (br_t h1 (wx_size _ (wy_on hsq (wy_lg (o := 0) hs (by omega) hT hsq (fun _ => br_f (by decide) (wy_flip (o := 0) hs (by omega) hsq (nm_e ⟨?_, ⟨?_, ?_, ?_⟩, h2, Or.inr rfl, rfl, Or.inl rfl⟩))) (fun q => ?_))))))
        · rw [hsz]
        · rw [h1] at hw1 ⊢; exact hw1
        · exact hw2.trans (congrArg (yb_o (yb_w a 0 sd2 (gm_g (yb_o a 0 sd2) (yb_o a 0 (3 - sd2)) s)) 0) h2)
        · exact v3'
        · rw [hlg] at q; cases q
      · have h2 : (3 : Int32) - sd2 = 1 := by rw [h1]; decide
        refine br_f (by rw [h1]; decide) (br_t h1 (br_f (by rw [h1]; decide) (wx_size _ (wy_on hsq (wy_lg (o := 0) hs (by omega) hT hsq (fun _ => br_f (by decide) (wy_flip (o := 0) hs (by omega) hsq (nm_e ⟨?_, ⟨?_, ?_, ?_⟩, h2, Or.inl rfl, rfl, Or.inl rfl⟩))) (fun q => ?_))))))
        · rw [hsz]
        · exact hw2.trans (congrArg (yb_o (yb_w a 0 sd2 (gm_g (yb_o a 0 sd2) (yb_o a 0 (3 - sd2)) s)) 0) h2)
        · rw [h1] at hw1 ⊢; exact hw1
        · exact v3'
        · rw [hlg] at q; cases q
