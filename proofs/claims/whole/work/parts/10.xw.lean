/-! the component's small methods, each with a general post -/
theorem wx_has {post : Int32 → Prop} (w : Int64) {k : Nat} (hk : k < 64) (h0 : xb_t w k = false → post 0) (h1 : xb_t w k = true → post 1) : wpX_hasSquare post w (nI k) := by
  unfold wpX_hasSquare
  exact br_c (fun z => h0 ((xb_has w hk).mp z)) (fun z => h1 (ts_nf (fun y => z ((xb_has w hk).mpr y))))
theorem wx_size_l {post : Int32 → Prop} (w : Int64) (h : post (nI (gm_cnt (xb_t w) 64))) : ∀ n i : Nat, i ≤ 64 → 64 < n + i → wX_sizeOf_4 post w n (nI (gm_cnt (xb_t w) i)) (nI i) := by
  intro n
  induction n with
  | zero => intro i hi hn; omega
  | succ n ih =>
    intro i hi hn
    refine pk_le 64 i (fun z => ?_) (fun z => ?_)
    · have e : i = 64 := by omega
      subst e
      exact h
    · have hh := ih (i + 1) (by omega) (by omega)
      refine wx_has w z (fun hb => br_t rfl (nm_r (nI_1 i) ?_)) (fun hb => br_f (by decide) (nm_r (nI_1 _) (nm_r (nI_1 i) ?_)))
      · rw [gm_cnt, if_neg (by rw [hb]; decide)] at hh
        exact hh
      · rw [gm_cnt, if_pos hb] at hh
        exact hh
theorem wx_size {post : Int32 → Prop} (w : Int64) (h : post (nI (gm_cnt (xb_t w) 64))) : wpX_sizeOf post w := ⟨65, wx_size_l w h 65 0 (by omega) (by omega)⟩
theorem wx_low_l {post : Int32 → Prop} (w : Int64) (h1 : ∀ x, x < 64 → xb_t w x = true → (∀ j, j < x → xb_t w j = false) → post (nI x)) (h2 : (∀ j, xb_t w j = false) → post (-1)) : ∀ n i : Nat, i ≤ 64 → 64 < n + i → (∀ j, j < i → xb_t w j = false) → wX_lowestOf_2 post w n (nI i) := by
  intro n
  induction n with
  | zero => intro i hi hn _; omega
  | succ n ih =>
    intro i hi hn hj
    refine pk_le 64 i (fun z => h2 (fun j => ?_)) (fun z => ?_)
    · rcases Nat.lt_or_ge j 64 with y | y
      · exact hj j (by omega)
      · exact xb_big w y
    · refine wx_has w z (fun hb => br_t rfl (nm_r (nI_1 i) ?_)) (fun hb => br_f (by decide) (h1 i z hb hj))
      refine ih (i + 1) (by omega) (by omega) (fun j y => ?_)
      by_cases e : j = i
      · rw [e]; exact hb
      · exact hj j (by omega)
theorem wx_low {post : Int32 → Prop} (w : Int64) (h1 : ∀ x, x < 64 → xb_t w x = true → (∀ j, j < x → xb_t w j = false) → post (nI x)) (h2 : (∀ j, xb_t w j = false) → post (-1)) : wpX_lowestOf post w := ⟨65, wx_low_l w h1 h2 65 0 (by omega) (by omega) (fun j hj => by omega)⟩
def gm_rs (o : Option Nat) (R : Nat → Bool) (dr dc r c : Int) (j : Nat) : Bool := match o with
  | none => false
  | some k => R j || gm_cov dr dc k r c j
theorem wx_run_l {post : Int64 → Prop} {own opp : Int64} {s t : Nat} (hs : s < 64) (ht : t < 9) : ∀ (m n i : Nat) (R : Int64) (r c : Int), i + m = 7 → m < n → r = gm_r0 s t + (i : Int) * gm_dr t → c = gm_c0 s t + (i : Int) * gm_dc t → (∀ w, (∀ j, xb_t w j = gm_rs (gm_len (xb_t own) (xb_t opp) (gm_dr t) (gm_dc t) m r c) (xb_t R) (gm_dr t) (gm_dc t) r c j) → post w) → wX_runOf_6 post own opp (nI s) (zi_z (gm_dr t)) (zi_z (gm_dc t)) n R (nI (i + 1)) := by
  intro m
  induction m with
  | zero =>
    intro n i R r c hi hn hr hc h
    cases n with
    | zero => omega
    | succ n => exact pk_le 8 (i + 1) (fun _ => h 0 (fun j => xb_0 j)) (fun z => by omega)
  | succ m ih =>
    intro n i R r c hi hn hr hc h
    cases n with
    | zero => omega
    | succ n =>
      have b1 := zn_rb (s := s) (i := i) ht hs (by omega)
      have b2 := zn_cb (s := s) (i := i) (t := t) (by omega)
      rw [← hr] at b1
      rw [← hc] at b2
      have er : nI s / 8 + nI (i + 1) * zi_z (gm_dr t) = zi_z r := (zn_row hs).trans (by rw [hr])
      have ec : (nI s - nI s / 8 * 8) + nI (i + 1) * zi_z (gm_dc t) = zi_z c := (zn_col hs).trans (by rw [hc])
      refine pk_le 8 (i + 1) (fun z => by omega) (fun _ => ⟨by decide, nm_r er ⟨by decide, nm_r ec ?_⟩⟩)
      rw [gm_len] at h
      by_cases ho : gm_on r c
      · rw [if_pos ho] at h
        have hk := gm_ixlt ho
        refine br_f (fun z => by rw [zn_lt0 (by omega) (by omega)] at z; omega) (br_f (fun z => by rw [zn_8z, zi_le (by omega) (by omega) (by omega) (by omega)] at z; omega) (br_f (fun z => by rw [zn_lt0 (by omega) (by omega)] at z; omega) (br_t ((zn_lt8 (by omega) (by omega)).mpr ho.2.2) (nm_r (by rw [zn_ix ho]) ?_))))
        have hB := xb_1 hk
        generalize (1 : Int64) <<< ((nI (gm_ix r c)).toInt64 &&& 63) = B at hB ⊢
        by_cases hp : xb_t own (gm_ix r c) = true
        · rw [if_pos hp] at h
          refine br_f (fun z => by rw [(xb_at hB).mp z] at hp; cases hp) (h R (fun j => ?_))
          show xb_t R j = (xb_t R j || false)
          rw [Bool.or_false]
        · rw [if_neg hp] at h
          refine br_t ((xb_at hB).mpr (ts_nt hp)) ?_
          by_cases hq : xb_t opp (gm_ix r c) = true
          · rw [if_pos hq] at h
            refine br_f (fun z => by rw [(xb_at hB).mp z] at hq; cases hq) (nm_e (nm_r (nI_1 (i + 1)) ?_))
            refine ih n (i + 1) (R ||| B) (r + gm_dr t) (c + gm_dc t) (by omega) (by omega) (by rw [gm_st, hr]; omega) (by rw [gm_st, hc]; omega) (fun w hw => h w (fun j => ?_))
            rw [hw j]
            cases gm_len (xb_t own) (xb_t opp) (gm_dr t) (gm_dc t) m (r + gm_dr t) (c + gm_dc t) with
            | none => rfl
            | some k =>
              show (xb_t (R ||| B) j || gm_cov (gm_dr t) (gm_dc t) k (r + gm_dr t) (c + gm_dc t) j) = (xb_t R j || gm_cov (gm_dr t) (gm_dc t) (k + 1) r c j)
              rw [xb_or, hB, gm_cov, Bool.or_assoc]
          · rw [if_neg hq] at h
            exact br_t ((xb_at hB).mpr (ts_nt hq)) (h 0 (fun j => xb_0 j))
      · rw [if_neg ho] at h
        have h0 := h 0 (fun j => xb_0 j)
        refine br_c (fun _ => h0) (fun z1 => br_c (fun _ => h0) (fun z2 => br_c (fun _ => h0) (fun z3 => br_f (fun z4 => ho ?_) h0)))
        rw [zn_lt0 (by omega) (by omega)] at z1 z3
        rw [zn_8z, zi_le (by omega) (by omega) (by omega) (by omega)] at z2
        rw [zn_lt8 (by omega) (by omega)] at z4
        omega
theorem wx_run {post : Int64 → Prop} {own opp : Int64} {s t : Nat} (hs : s < 64) (ht : t < 9) (h4 : t ≠ 4) (h : ∀ w, (∀ j, xb_t w j = gm_ray (xb_t own) (xb_t opp) s t j) → post w) : wpX_runOf post own opp (nI s) (zi_z (gm_dr t)) (zi_z (gm_dc t)) := by
  refine ⟨8, wx_run_l hs ht 7 8 0 0 (gm_r0 s t) (gm_c0 s t) (by omega) (by omega) (gm_s0 _ _).symm (gm_s0 _ _).symm (fun w hw => h w (fun j => ?_))⟩
  rw [hw j]
  unfold gm_ray gm_k
  rw [if_neg h4]
  cases gm_len (xb_t own) (xb_t opp) (gm_dr t) (gm_dc t) 7 (gm_r0 s t) (gm_c0 s t) with
  | none => rfl
  | some k =>
    show (xb_t 0 j || gm_cov (gm_dr t) (gm_dc t) k (gm_r0 s t) (gm_c0 s t) j) = gm_cov (gm_dr t) (gm_dc t) k (gm_r0 s t) (gm_c0 s t) j
    rw [xb_0, Bool.false_or]
theorem zn_1 (x : Int) : zi_z x + 1 = zi_z (x + 1) := by
  have e : (1 : Int32) = zi_z 1 := by decide
  rw [e, zi_add]
theorem zn_gt1 {x : Int} (h : -1000 ≤ x) (h' : x ≤ 1000) : (1 : Int32) < zi_z x ↔ 1 < x := by
  have e : (1 : Int32) = zi_z 1 := by decide
  rw [e, zi_lt (by decide) (by decide) (by omega) (by omega)]
theorem zn_eq0 {x : Int} (h : -1000 ≤ x) (h' : x ≤ 1000) : zi_z x = 0 ↔ x = 0 := by
  rw [zi_0, zi_eq (by omega) (by omega) (by decide) (by decide)]
theorem gm_acc_4 (p q : Nat → Bool) (s j : Nat) : gm_acc p q s 5 j = gm_acc p q s 4 j := by
  rw [gm_acc]
  have e : gm_ray p q s 4 j = false := rfl
  rw [e, Bool.or_false]
theorem wx_fl_i {post : Int64 → Prop} {J : Int64 → Int32 → Prop} {own opp : Int64} {s i : Nat} (hs : s < 64) (hi : i < 3) (hJ : ∀ w, (∀ k, xb_t w k = gm_acc (xb_t own) (xb_t opp) s (3 * i + 3) k) → J w (zi_z (i : Int))) : ∀ (m n j : Nat) (R : Int64), j + m = 3 → m < n → (∀ k, xb_t R k = gm_acc (xb_t own) (xb_t opp) s (3 * i + j) k) → wX_flipsOf_28 post J own opp (nI s) (zi_z ((i : Int) - 1)) n R (zi_z ((j : Int) - 1)) := by
  intro m
  induction m with
  | zero =>
    intro n j R hj hn hR
    cases n with
    | zero => omega
    | succ n =>
      have e : j = 3 := by omega
      subst e
      refine br_t ((zn_gt1 (by omega) (by omega)).mpr (by omega)) (nm_r ((zn_1 _).trans (by rw [show (i : Int) - 1 + 1 = (i : Int) by omega])) (hJ R hR))
  | succ m ih =>
    intro n j R hj hn hR
    cases n with
    | zero => omega
    | succ n =>
      obtain ⟨d1, d2⟩ := zn_dr i hi j (by omega)
      have ej : (j : Int) - 1 + 1 = ((j + 1 : Nat) : Int) - 1 := by omega
      refine br_f (fun z => by rw [zn_gt1 (by omega) (by omega)] at z; omega) ?_
      have step : 3 * i + j ≠ 4 → wX_flipsOf_44 post J (wX_flipsOf_28 post J own opp (nI s) (zi_z ((i : Int) - 1)) n) own opp (nI s) R (zi_z ((i : Int) - 1)) (zi_z ((j : Int) - 1)) := by
        intro h4
        unfold wX_flipsOf_44
        rw [← d1, ← d2]
        refine wx_run hs (by omega) h4 (fun w hw => nm_e (nm_r ((zn_1 _).trans (by rw [d2, ej])) ?_))
        rw [d1]
        exact ih n (j + 1) (R ||| w) (by omega) (by omega) (fun k => by rw [xb_or, hR k, hw k]; rfl)
      refine br_c (fun z1 => br_c (fun z2 => ?_) (fun z2 => step (fun h4 => z2 ?_))) (fun z1 => step (fun h4 => z1 ?_))
      · rw [zn_eq0 (by omega) (by omega)] at z1 z2
        have e1 : i = 1 := by omega
        have e2 : j = 1 := by omega
        subst e1 e2
        exact nm_r ((zn_1 _).trans (by rw [ej])) (ih n 2 R (by omega) (by omega) (fun k => by rw [hR k]; exact (gm_acc_4 _ _ _ _).symm))
      · rw [zn_eq0 (by omega) (by omega)]; omega
      · rw [zn_eq0 (by omega) (by omega)]; omega
theorem wx_fl_o {post : Int64 → Prop} {own opp : Int64} {s : Nat} (hs : s < 64) (h : ∀ w, (∀ k, xb_t w k = gm_acc (xb_t own) (xb_t opp) s 9 k) → post w) : ∀ (m n i : Nat) (R : Int64), i + m = 3 → m < n → (∀ k, xb_t R k = gm_acc (xb_t own) (xb_t opp) s (3 * i) k) → wX_flipsOf_19 post own opp (nI s) n R (zi_z ((i : Int) - 1)) := by
  intro m
  induction m with
  | zero =>
    intro n i R hi hn hR
    cases n with
    | zero => omega
    | succ n =>
      have e : i = 3 := by omega
      subst e
      exact br_t ((zn_gt1 (by omega) (by omega)).mpr (by omega)) (h R hR)
  | succ m ih =>
    intro n i R hi hn hR
    cases n with
    | zero => omega
    | succ n =>
      refine br_f (fun z => by rw [zn_gt1 (by omega) (by omega)] at z; omega) ⟨4, ?_⟩
      have hh := wx_fl_i (post := post) (J := wX_flipsOf_19 post own opp (nI s) n) (own := own) (opp := opp) hs (show i < 3 by omega) (fun w hw => by
        have := ih n (i + 1) w (by omega) (by omega) (fun k => by rw [hw k]; rfl)
        rw [show ((i + 1 : Nat) : Int) - 1 = (i : Int) by omega] at this
        exact this) 3 4 0 R (by omega) (by omega) hR
      exact hh
theorem wx_flips {post : Int64 → Prop} {own opp : Int64} {s : Nat} (hs : s < 64) (h : ∀ w, (∀ j, xb_t w j = gm_fl (xb_t own) (xb_t opp) s j) → post w) : wpX_flipsOf post own opp (nI s) := by
  unfold wpX_flipsOf
  refine wx_has _ hs (fun hb => br_t rfl ⟨4, ?_⟩) (fun hb => br_f (by decide) (h 0 (fun j => ?_)))
  · rw [xb_or, Bool.or_eq_false_iff] at hb
    exact wx_fl_o hs (fun w hw => h w (fun j => by rw [hw j]; unfold gm_fl; rw [hb.1, hb.2]; rfl)) 3 4 0 0 (by omega) (by omega) (fun k => xb_0 k)
  · rw [xb_or, Bool.or_eq_true] at hb
    rw [xb_0]
    unfold gm_fl
    rcases hb with hb | hb <;> simp [hb]
theorem wx_mv_l {post : Int64 → Prop} {own opp : Int64} (h : ∀ w, (∀ j, xb_t w j = gm_lg (xb_t own) (xb_t opp) j) → post w) : ∀ (n i : Nat) (M : Int64), i ≤ 64 → 64 < n + i → (∀ j, xb_t M j = (decide (j < i) && gm_lg (xb_t own) (xb_t opp) j)) → wX_movesOf_6 post own opp n M (nI i) := by
  intro n
  induction n with
  | zero => intro i M hi hn _; omega
  | succ n ih =>
    intro i M hi hn hM
    refine pk_le 64 i (fun z => h M (fun j => ?_)) (fun z => ?_)
    · rw [hM j]
      by_cases hj : j < i
      · rw [decide_eq_true hj, Bool.true_and]
      · rw [gm_lg_64 (show 64 ≤ j by omega), Bool.and_false]
    · refine wx_flips z (fun w hw => br_c (fun z0 => nm_r (nI_1 i) ?_) (fun z0 => nm_e (nm_r (nI_1 i) ?_)))
      · have hl : gm_lg (xb_t own) (xb_t opp) i = false := gm_nt (fun hl => by
          obtain ⟨j, hj⟩ := (gm_fl_i z).mp hl
          rw [← hw j, z0, xb_0] at hj
          cases hj)
        refine ih (i + 1) M (by omega) (by omega) (fun j => ?_)
        rw [hM j]
        by_cases e : j = i
        · rw [e, hl, Bool.and_false, Bool.and_false]
        · rw [decide_eq_decide.mpr (show j < i ↔ j < i + 1 by omega)]
      · have hl : gm_lg (xb_t own) (xb_t opp) i = true := by
          obtain ⟨j, hj⟩ := xb_nz.mp z0
          exact (gm_fl_i z).mpr ⟨j, by rw [← hw j]; exact hj⟩
        refine ih (i + 1) _ (by omega) (by omega) (fun j => ?_)
        rw [xb_or, hM j, xb_1 z]
        by_cases e : j = i
        · simp [e, hl]
        · rw [decide_eq_decide.mpr (show j < i ↔ j < i + 1 by omega), decide_eq_false e, Bool.or_false]
theorem wx_moves {post : Int64 → Prop} {own opp : Int64} (h : ∀ w, (∀ j, xb_t w j = gm_lg (xb_t own) (xb_t opp) j) → post w) : wpX_movesOf post own opp := ⟨65, wx_mv_l h 65 0 0 (by omega) (by omega) (fun j => by rw [xb_0]; simp)⟩
theorem xb_hm {w : Int64} {p q : Nat → Bool} (h : ∀ j, xb_t w j = gm_lg p q j) : w = 0 ↔ gm_hm p q = false := by
  rw [xb_z]
  constructor
  · intro hz
    apply gm_nt
    intro hm
    obtain ⟨s, _, hl⟩ := gm_hm_i.mp hm
    rw [← h s, hz s] at hl
    cases hl
  · intro hm j
    rw [h j]
    exact gm_hm_f hm j
