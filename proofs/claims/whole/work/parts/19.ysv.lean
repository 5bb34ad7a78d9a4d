/-! the reference's solve -/
def gy_k1 (A B : gy_A) : Prop := (∀ x, x < 128 → B.1 x = A.1 x) ∧ B.2.1 1 = A.2.1 1
theorem gy_bd1 {A B : gy_A} {P Q : Nat → Bool} (h : gy_k1 A B) (hb : gy_bd A 1 P Q) : gy_bd B 1 P Q := by
  obtain ⟨b1, b2, b3, b4⟩ := hb
  have ec : ∀ j, j < 64 → B.1 (64 * 1 + j) = A.1 (64 * 1 + j) := fun j hj => h.1 _ (by omega)
  refine ⟨by rw [h.2]; exact b1, ?_, ?_, ?_⟩
  · rw [h.2, b2, yb_oe ec]
  · rw [h.2, b3, yb_oe ec]
  · intro j hj
    rw [ec j hj]
    exact b4 j hj
theorem wy_ch {post : Int32 → SY → Prop} {J64 : Int32 → Int32 → Int32 → Int32 → Int32 → Int32 → (Nat → Int32) → (Nat → Int32) → (Nat → Int32) → (Nat → Int32) → (Nat → Int32) → (Nat → Int32) → Prop} {sd hb sv pl x2 x3 x4 : Int32} {pv : Nat → Int32} {A0 : gy_A} {P Q : Nat → Bool} {x : Nat} (hbd : gy_bd A0 1 P Q) (he6 : gm_e P Q ≤ 6) (hx : x < 64) (hlx : gm_lg P Q x = true) (hfx : gm_f P Q x = gm_W P Q) (hlt : ∀ s, s < x → gm_lg P Q s = true → gm_f P Q s < gm_W P Q) (h : ∀ A' : gy_A, gy_k1 A0 A' → wY_solve_229 post J64 x2 x3 x4 (A0.2.1 1) (nI x) sd hb sv pl A'.1 A'.2.1 A'.2.2.1 A'.2.2.2.1 A'.2.2.2.2 pv) : ∀ (f n s : Nat) (A : gy_A), s + f = x → f + 1 < n → gy_k1 A0 A → wY_solve_148 post J64 x2 x3 x4 (A0.2.1 1) (zi_z (gm_W P Q)) n (-1) (nI s) sd hb sv pl A.1 A.2.1 A.2.2.1 A.2.2.2.1 A.2.2.2.2 pv := by
  intro f
  induction f with
  | zero =>
    intro n s A hs hn hk
    have e : s = x := by omega
    subst e
    obtain ⟨bm, bP, bQ, bT⟩ := gy_bd1 hk hbd
    rw [hk.2] at bm bP bQ
    cases n with
    | zero => omega
    | succ n =>
      refine pk_le 64 s (fun z => by omega) (fun _ => br_f (by decide) (wy_lg (o := 64 * 1) bm (by omega) bT hx (fun _ => br_f (by decide) ?_) (fun z => ?_)))
      · refine wy_cp (f := 1) (g := 2) (by omega) (by omega) (by omega) (fun a' g1 g2 => ?_)
        have hT' : gy_T a' (64 * 2) := fun j hj => by rw [g1 j hj]; exact bT j hj
        have eo : ∀ m, yb_o a' (64 * 2) m = yb_o A.1 (64 * 1) m := fun m => yb_oe g1
        obtain ⟨v1, v2, v3⟩ := gy_mv (a := a') (m := A0.2.1 1) (o := 64 * 2) (s := s) bm hx hT'
        refine wy_flip (o := 64 * 2) bm (by omega) hx (nm_e ?_)
        rw [eo, eo] at v1 v2 v3 ⊢
        rw [← bP, ← bQ] at v1 v2 v3 ⊢
        have hen := gm_e_n hlx
        refine wy_neg (b0 := 2) (P := gm_np P Q s) (Q := gm_nq P Q s) (by omega) ⟨?_, ?_, ?_, v3⟩ (by omega) (fun A' ag => ?_)
        · show yb_s (upd A.2.1 2 (3 - A0.2.1 1) 2)
          rw [pk_us]; exact (yb_3 bm).1
        · show gm_np P Q s = yb_o _ (64 * 2) (upd A.2.1 2 (3 - A0.2.1 1) 2)
          rw [pk_us]; exact v1
        · show gm_nq P Q s = yb_o _ (64 * 2) (3 - upd A.2.1 2 (3 - A0.2.1 1) 2)
          rw [pk_us]; exact v2
        · have hk' : gy_k1 A0 A' := by
            constructor
            · intro y hy
              rw [ag.1 y (by omega)]
              show yb_w a' (64 * 2) (A0.2.1 1) _ y = _
              rw [yb_wl (gm_g_b hx) (Or.inl (by omega)), g2 y (Or.inl (by omega)), hk.1 y hy]
            · rw [ag.2.1 1 (by omega)]
              show upd A.2.1 2 (3 - A0.2.1 1) 1 = _
              rw [pk_un (by omega), hk.2]
          refine br_t ?_ (nm_r (nI_1 s) ?_)
          · rw [zi_neg]
            exact congrArg zi_z hfx
          · cases n with
            | zero => omega
            | succ n => exact br_c (fun _ => h A' hk') (fun _ => br_t (nI_pos' (by omega)) (h A' hk'))
      · rw [← bP, ← bQ, hlx] at z
        cases z
  | succ f ih =>
    intro n s A hs hn hk
    obtain ⟨bm, bP, bQ, bT⟩ := gy_bd1 hk hbd
    rw [hk.2] at bm bP bQ
    have hsx : s < 64 := by omega
    cases n with
    | zero => omega
    | succ n =>
      refine pk_le 64 s (fun z => by omega) (fun _ => br_f (by decide) (wy_lg (o := 64 * 1) bm (by omega) bT hsx (fun hl => br_f (by decide) ?_) (fun z => br_t rfl (nm_r (nI_1 s) (ih n (s + 1) A (by omega) (by omega) hk)))))
      rw [← bP, ← bQ] at hl
      refine wy_cp (f := 1) (g := 2) (by omega) (by omega) (by omega) (fun a' g1 g2 => ?_)
      have hT' : gy_T a' (64 * 2) := fun j hj => by rw [g1 j hj]; exact bT j hj
      have eo : ∀ m, yb_o a' (64 * 2) m = yb_o A.1 (64 * 1) m := fun m => yb_oe g1
      obtain ⟨v1, v2, v3⟩ := gy_mv (a := a') (m := A0.2.1 1) (o := 64 * 2) (s := s) bm hsx hT'
      refine wy_flip (o := 64 * 2) bm (by omega) hsx (nm_e ?_)
      rw [eo, eo] at v1 v2 v3 ⊢
      rw [← bP, ← bQ] at v1 v2 v3 ⊢
      have hen := gm_e_n hl
      refine wy_neg (b0 := 2) (P := gm_np P Q s) (Q := gm_nq P Q s) (by omega) ⟨?_, ?_, ?_, v3⟩ (by omega) (fun A' ag => ?_)
      · show yb_s (upd A.2.1 2 (3 - A0.2.1 1) 2)
        rw [pk_us]; exact (yb_3 bm).1
      · show gm_np P Q s = yb_o _ (64 * 2) (upd A.2.1 2 (3 - A0.2.1 1) 2)
        rw [pk_us]; exact v1
      · show gm_nq P Q s = yb_o _ (64 * 2) (3 - upd A.2.1 2 (3 - A0.2.1 1) 2)
        rw [pk_us]; exact v2
      · have hk' : gy_k1 A0 A' := by
          constructor
          · intro y hy
            rw [ag.1 y (by omega)]
            show yb_w a' (64 * 2) (A0.2.1 1) _ y = _
            rw [yb_wl (gm_g_b hsx) (Or.inl (by omega)), g2 y (Or.inl (by omega)), hk.1 y hy]
          · rw [ag.2.1 1 (by omega)]
            show upd A.2.1 2 (3 - A0.2.1 1) 1 = _
            rw [pk_un (by omega), hk.2]
        have b1 := gm_W_b P Q
        have b2 := gm_f_b P Q s
        have hls := hlt s (by omega) hl
        refine br_f (fun z => ?_) (nm_r (nI_1 s) (ih n (s + 1) A' (by omega) (by omega) hk'))
        rw [zi_neg] at z
        have z2 : zi_z (gm_f P Q s) = zi_z (gm_W P Q) := z
        rw [zi_eq (by omega) (by omega) (by omega) (by omega)] at z2
        omega
theorem wy_sv_l {post : Int32 → SY → Prop} {sd hb sv pl V : Int32} {p q : Nat → Bool} {a0 : Nat → Int32} (he6 : gm_e p q ≤ 6) (h : ∀ (l : Nat) (A' : gy_A) (pv' : Nat → Int32), gm_PL p q l → (∀ x, x < 64 → A'.1 x = a0 x) → (∀ k, k < l → pv' k = zi_z (gm_Fi p q k)) → post 0 (sd, 1, V, nI l, A'.1, A'.2.1, A'.2.2.1, A'.2.2.2.1, A'.2.2.2.2, pv')) : ∀ (f n i : Nat) (A : gy_A) (pv : Nat → Int32), i + f = 12 → f < n → gy_bd A 1 (gm_pos p q i).1 (gm_pos p q i).2 → (∀ x, x < 64 → A.1 x = a0 x) → (∀ k, k < i → gm_Fi p q k ≠ -1 ∧ pv k = zi_z (gm_Fi p q k)) → wY_solve_64 post V n (nI i) (nI i) sd hb sv pl A.1 A.2.1 A.2.2.1 A.2.2.2.1 A.2.2.2.2 pv := by
  intro f
  induction f with
  | zero =>
    intro n i A pv hi hn hbd ha hk
    obtain ⟨bm, bP, bQ, bT⟩ := hbd
    cases n with
    | zero => omega
    | succ n =>
      have hend : wY_solve_275 post V (nI i) sd hb sv pl A.1 A.2.1 A.2.2.1 A.2.2.2.1 A.2.2.2.2 pv := h i A pv ⟨by omega, fun k hh => (hk k hh).1, fun z => by omega⟩ ha (fun k hh => (hk k hh).2)
      exact pk_le 13 i (fun z => by omega) (fun _ => wy_over (o := 64 * 1) bm (by omega) bT (fun _ _ => br_f (by decide) hend) (fun _ => br_t rfl (pk_lt i 12 (fun z => by omega) (fun _ => hend))))
  | succ f ih =>
    intro n i A pv hi hn hbd ha hk
    have hbd0 := hbd
    obtain ⟨bm, bP, bQ, bT⟩ := hbd
    have hpe := gm_pos_e p q i
    have hFi : gm_Fi p q i = gm_F (gm_pos p q i).1 (gm_pos p q i).2 := rfl
    cases n with
    | zero => omega
    | succ n =>
      refine pk_le 13 i (fun z => by omega) (fun _ => wy_over (o := 64 * 1) bm (by omega) bT (fun g1 g2 => br_f (by decide) ?_) (fun g => br_t rfl (pk_lt i 12 (fun _ => nm_e ?_) (fun z => by omega))))
      · rw [← bP, ← bQ] at g1 g2
        exact h i A pv ⟨by omega, fun k hh => (hk k hh).1, fun _ => hFi.trans (gm_F_o g1 g2)⟩ ha (fun k hh => (hk k hh).2)
      · rw [← bP, ← bQ] at g
        refine wy_hm (o := 64 * 1) bm (by omega) bT (fun hm => br_f (by decide) ?_) (fun hm => br_t rfl ⟨vp_in_nI (by omega) (by decide), ?_⟩)
        · rw [← bP, ← bQ] at hm
          obtain ⟨x, hx, ex, hlx, hfx, hlt⟩ := gm_F_m hm
          have ep := gm_pos_m hm (hFi.trans ex)
          refine wy_neg (b0 := 1) (P := (gm_pos p q i).1) (Q := (gm_pos p q i).2) (by omega) hbd0 (by omega) (fun A1 ag => ⟨x + 2, ?_⟩)
          have hbd1 := gy_bd_a ag hbd0
          have em : A1.2.1 1 = A.2.1 1 := ag.2.1 1 (by omega)
          have hch := wy_ch (post := post) (J64 := wY_solve_64 post V n) (sd := sd) (hb := hb) (sv := sv) (pl := pl) (x2 := V) (x3 := nI i) (x4 := nI i) (pv := pv) (A0 := A1) hbd1 (by omega) hx hlx hfx hlt (fun A2 k2 => ?_) x (x + 2) 0 A1 (by omega) (by omega) ⟨fun _ _ => rfl, rfl⟩
          · rw [em] at hch
            exact hch
          · obtain ⟨cm, cP, cQ, cT⟩ := gy_bd1 k2 hbd1
            rw [k2.2] at cm cP cQ
            obtain ⟨v1, v2, v3⟩ := gy_mv (a := A2.1) (m := A1.2.1 1) (o := 64 * 1) (s := x) cm hx cT
            unfold wY_solve_229
            refine br_t (nI_pos' (by omega)) (wy_flip (o := 64 * 1) cm (by omega) hx (nm_e ⟨vp_in_nI (by omega) (by decide), ?_⟩))
            rw [nI_clamp (by omega)]
            refine nm_e (nm_r (nI_1 i) (nm_r (nI_1 i) ?_))
            rw [← cP, ← cQ] at v1 v2 v3 ⊢
            refine ih n (i + 1) (yb_w A2.1 (64 * 1) (A1.2.1 1) (gm_g (gm_pos p q i).1 (gm_pos p q i).2 x), upd A2.2.1 1 (3 - A1.2.1 1), A2.2.2.1, A2.2.2.2.1, A2.2.2.2.2) (upd pv i (nI x)) (by omega) (by omega) ?_ ?_ ?_
            · rw [ep]
              refine ⟨?_, ?_, ?_, v3⟩
              · show yb_s (upd A2.2.1 1 (3 - A1.2.1 1) 1)
                rw [pk_us]; exact (yb_3 cm).1
              · show gm_np _ _ x = yb_o _ (64 * 1) (upd A2.2.1 1 (3 - A1.2.1 1) 1)
                rw [pk_us]; exact v1
              · show gm_nq _ _ x = yb_o _ (64 * 1) (3 - upd A2.2.1 1 (3 - A1.2.1 1) 1)
                rw [pk_us]; exact v2
            · intro y hy
              show yb_w A2.1 (64 * 1) (A1.2.1 1) _ y = a0 y
              rw [yb_wl (gm_g_b hx) (Or.inl (by omega)), k2.1 y (by omega), ag.1 y (by omega)]
              exact ha y hy
            · intro k hk'
              by_cases e : k = i
              · rw [e, pk_us, hFi, ex, zi_n]
                exact ⟨by omega, rfl⟩
              · rw [pk_un e]; exact hk k (by omega)
        · rw [← bP, ← bQ] at hm
          have h2 : gm_hm (gm_pos p q i).2 (gm_pos p q i).1 = true := by
            rcases g with g | g
            · rw [hm] at g; cases g
            · exact g
          have ep := gm_pos_p hm
          rw [nI_clamp (by omega)]
          refine nm_e (nm_r (nI_1 i) (nm_e (nm_r (nI_1 i) ?_)))
          refine ih n (i + 1) (A.1, upd A.2.1 1 (3 - A.2.1 1), A.2.2.1, A.2.2.2.1, A.2.2.2.2) (upd pv i 64) (by omega) (by omega) ?_ ha ?_
          · rw [ep]
            refine ⟨?_, ?_, ?_, bT⟩
            · show yb_s (upd A.2.1 1 (3 - A.2.1 1) 1)
              rw [pk_us]; exact (yb_3 bm).1
            · show (gm_pos p q i).2 = yb_o A.1 (64 * 1) (upd A.2.1 1 (3 - A.2.1 1) 1)
              rw [pk_us]; exact bQ
            · show (gm_pos p q i).1 = yb_o A.1 (64 * 1) (3 - upd A.2.1 1 (3 - A.2.1 1) 1)
              rw [pk_us, (yb_3 bm).2.1]; exact bP
          · intro k hk'
            by_cases e : k = i
            · rw [e, pk_us, hFi, gm_F_p hm h2]
              exact ⟨by omega, by decide⟩
            · rw [pk_un e]; exact hk k (by omega)
theorem wy_em_l {post : Int32 → SY → Prop} {sd hb sv pl : Int32} {a ds ph nx be pv : Nat → Int32} (h : wY_solve_4 post sd hb sv pl a ds ph nx be pv 1 (nI (gm_cnt (fun j => decide (a j = 0)) 64)) 64) : ∀ (n i : Nat), i ≤ 64 → 64 < n + i → wY_solve_4 post sd hb sv pl a ds ph nx be pv n (nI (gm_cnt (fun j => decide (a j = 0)) i)) (nI i) := by
  intro n
  induction n with
  | zero => intro i hi hn; omega
  | succ n ih =>
    intro i hi hn
    rcases Nat.lt_or_ge i 64 with z | z
    · have hh := ih (i + 1) (by omega) (by omega)
      refine br_f (nI_ge (b := 64) z (by decide)) ?_
      rw [nI_clamp (by omega)]
      refine ⟨vp_in_nI (by omega) (by decide), br_c (fun y => nm_r (nI_1 _) (nm_r (nI_1 i) ?_)) (fun y => nm_r (nI_1 i) ?_)⟩
      · rw [gm_cnt, if_pos (decide_eq_true y)] at hh
        exact hh
      · rw [gm_cnt, if_neg (by rw [decide_eq_true_eq]; exact y)] at hh
        exact hh
    · have e : i = 64 := by omega
      subst e
      exact br_t (by decide) (h.1 (by decide))
theorem wy_solve {post : Int32 → SY → Prop} {sd hb sv pl : Int32} {a ds ph nx be pv : Nat → Int32} (hs : yb_s sd) (hT : gy_T a 0) (hn : ¬ gm_e (yb_o a 0 sd) (yb_o a 0 (3 - sd)) ≤ 6 → post (-4) (sd, hb, sv, pl, a, ds, ph, nx, be, pv)) (h : gm_e (yb_o a 0 sd) (yb_o a 0 (3 - sd)) ≤ 6 → ∀ (l : Nat) (A' : gy_A) (pv' : Nat → Int32), gm_PL (yb_o a 0 sd) (yb_o a 0 (3 - sd)) l → (∀ x, x < 64 → A'.1 x = a x) → (∀ k, k < l → pv' k = zi_z (gm_Fi (yb_o a 0 sd) (yb_o a 0 (3 - sd)) k)) → post 0 (sd, 1, zi_z (gm_W (yb_o a 0 sd) (yb_o a 0 (3 - sd))), nI l, A'.1, A'.2.1, A'.2.2.1, A'.2.2.2.1, A'.2.2.2.2, pv')) : wpY_solve post (sd, hb, sv, pl, a, ds, ph, nx, be, pv) := by
  have ee : gm_cnt (fun j => decide (a j = 0)) 64 = gm_e (yb_o a 0 sd) (yb_o a 0 (3 - sd)) := by
    unfold gm_e
    apply gm_cnt_e
    intro j hj
    have := gy_emp hs hT hj
    rw [Nat.zero_add] at this
    rw [Bool.eq_iff_iff, decide_eq_true_eq, this]
    unfold gm_em
    rw [decide_eq_true hj, Bool.true_and, Bool.and_eq_true, Bool.not_eq_true', Bool.not_eq_true']
  have hle2 : gm_e (yb_o a 0 sd) (yb_o a 0 (3 - sd)) ≤ 64 := gm_cnt_le _ 64
  unfold wpY_solve
  dsimp only
  refine ⟨65, wy_em_l ?_ 65 0 (by omega) (by omega)⟩
  rw [ee]
  refine br_t (by decide) (pk_le _ 6 (fun z => ?_) (fun z => hn (by omega)) rfl rfl (by omega))
  refine wy_cp (f := 0) (g := 1) (by omega) (by omega) (by omega) (fun a' g1 g2 => nm_e ?_)
  have eo : ∀ m, yb_o a' (64 * 1) m = yb_o a 0 m := fun m => yb_oe (fun j hj => g1 j hj)
  have hbd : gy_bd (a', upd ds 1 sd, ph, nx, be) 1 (yb_o a 0 sd) (yb_o a 0 (3 - sd)) := by
    refine ⟨?_, ?_, ?_, ?_⟩
    · show yb_s (upd ds 1 sd 1)
      rw [pk_us]; exact hs
    · show _ = yb_o a' (64 * 1) (upd ds 1 sd 1)
      rw [pk_us, eo]
    · show _ = yb_o a' (64 * 1) (3 - upd ds 1 sd 1)
      rw [pk_us, eo]
    · intro j hj
      show a' (64 * 1 + j) = 0 ∨ a' (64 * 1 + j) = 1 ∨ a' (64 * 1 + j) = 2
      rw [g1 j hj]
      exact hT j hj
  refine wy_neg (b0 := 1) (by omega) hbd z (fun A1 ag => ⟨13, ?_⟩)
  refine wy_sv_l (a0 := a) z (h z) 12 13 0 A1 pv (by omega) (by omega) (gy_bd_a ag hbd) (fun x hx => ?_) (fun k hk => by omega)
  rw [ag.1 x (by omega)]
  exact g2 x (Or.inl (by omega))
theorem rb_same {b w : Int64} {a a' : Nat → Int32} (h : rb_R b w a) (he : ∀ x, x < 64 → a' x = a x) : rb_R b w a' := by
  obtain ⟨r1, r2, r3⟩ := h
  have eo : ∀ m, yb_o a' 0 m = yb_o a 0 m := fun m => yb_oe (fun j hj => by rw [Nat.zero_add]; exact he j hj)
  refine ⟨by rw [eo]; exact r1, by rw [eo]; exact r2, fun j hj => ?_⟩
  rw [he j hj]
  exact r3 j hj
