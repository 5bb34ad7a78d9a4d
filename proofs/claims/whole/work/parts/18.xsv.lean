/-! the component's solve -/
theorem gm_pos_m {p q : Nat → Bool} {i x : Nat} (h : gm_hm (gm_pos p q i).1 (gm_pos p q i).2 = true) (hx : gm_Fi p q i = (x : Int)) : gm_pos p q (i + 1) = (gm_np (gm_pos p q i).1 (gm_pos p q i).2 x, gm_nq (gm_pos p q i).1 (gm_pos p q i).2 x) := by
  rw [gm_pos, if_pos h]
  unfold gm_Fi at hx
  rw [hx]
  rfl
theorem gm_pos_p {p q : Nat → Bool} {i : Nat} (h : gm_hm (gm_pos p q i).1 (gm_pos p q i).2 = false) : gm_pos p q (i + 1) = ((gm_pos p q i).2, (gm_pos p q i).1) := by
  rw [gm_pos, if_neg (by rw [h]; decide)]
theorem wx_sv_l {post : Int32 → SX → Prop} {b w : Int64} {sd he hv : Int32} {p q : Nat → Bool} (he6 : gm_e p q ≤ 6) (h : ∀ (l : Nat) (ln' : Nat → Int32) (F' : gx_A), gm_PL p q l → (∀ k, k < l → ln' k = zi_z (gm_Fi p q k)) → post 0 (b, w, sd, 1, hv, nI l, ln', F'.1, F'.2.1, F'.2.2.1, F'.2.2.2.1, F'.2.2.2.2.1, F'.2.2.2.2.2.1, F'.2.2.2.2.2.2)) : ∀ (f n i : Nat) (own opp : Int64) (ln : Nat → Int32) (F : gx_A), i + f = 12 → f < n → xb_t own = (gm_pos p q i).1 → xb_t opp = (gm_pos p q i).2 → F.2.2.2.2.2.1 0 = zi_z (gm_Fi p q i) → (∀ k, k < i → gm_Fi p q k ≠ -1 ∧ ln k = zi_z (gm_Fi p q k)) → wX_solve_52 post n own opp (nI i) b w sd he hv (nI i) ln F.1 F.2.1 F.2.2.1 F.2.2.2.1 F.2.2.2.2.1 F.2.2.2.2.2.1 F.2.2.2.2.2.2 := by
  intro f
  induction f with
  | zero =>
    intro n i own opp ln F hi hn e1 e2 eF hk
    cases n with
    | zero => omega
    | succ n => exact pk_le 12 i (fun _ => h i ln F ⟨by omega, fun k hh => (hk k hh).1, fun z => by omega⟩ (fun k hh => (hk k hh).2)) (fun z => by omega)
  | succ f ih =>
    intro n i own opp ln F hi hn e1 e2 eF hk
    cases n with
    | zero => omega
    | succ n =>
      have bF := gm_F_b (gm_pos p q i).1 (gm_pos p q i).2
      have hFi : gm_Fi p q i = gm_F (gm_pos p q i).1 (gm_pos p q i).2 := rfl
      have hpe := gm_pos_e p q (i + 1)
      refine pk_le 12 i (fun z => by omega) (fun _ => br_c (fun z => h i ln F ⟨by omega, fun k hh => (hk k hh).1, fun _ => ?_⟩ (fun k hh => (hk k hh).2)) (fun z => ?_))
      · rw [eF, zi_m1, zi_eq (by omega) (by omega) (by omega) (by omega)] at z
        exact z
      · have hne : gm_Fi p q i ≠ -1 := fun y => z (by rw [eF, y]; rfl)
        refine nm_r eF ⟨vp_in_nI (by omega) (by decide), ?_⟩
        rw [nI_clamp (by omega)]
        refine nm_e (nm_r (nI_1 i) ?_)
        have hkk : ∀ k, k < i + 1 → gm_Fi p q k ≠ -1 ∧ upd ln i (zi_z (gm_Fi p q i)) k = zi_z (gm_Fi p q k) := by
          intro k hk'
          by_cases e : k = i
          · rw [e, pk_us]; exact ⟨hne, rfl⟩
          · rw [pk_un e]; exact hk k (by omega)
        cases hm : gm_hm (gm_pos p q i).1 (gm_pos p q i).2 with
        | true =>
          obtain ⟨x, hx, ex, hlg, _⟩ := gm_F_m hm
          have ep := gm_pos_m hm (hFi.trans ex)
          rw [← e1, ← e2] at hlg
          have goal : ∀ x6 : Int32, x6 = nI x → wpX_gainOf (fun r_55 => ∀ x9_56 : Int64, x9_56 = opp &&& (r_55 ^^^ (-1)) → ∀ x3_57 : Int64, x3_57 = own ||| r_55 → wpX_search (fun u => match u with | (c1, c2, c3, c4, c5, c6, c7, c8, c9, c10, c11, c12, c13, c14) => ∀ x5_73 : Int32, x5_73 = nI i + 1 → wX_solve_52 post n x9_56 x3_57 x5_73 c1 c2 c3 c4 c5 c6 c7 c8 c9 c10 c11 c12 c13 c14) (b, w, sd, he, hv, nI (i + 1), upd ln i (zi_z (gm_Fi p q i)), F.1, F.2.1, F.2.2.1, F.2.2.2.1, F.2.2.2.2.1, F.2.2.2.2.2.1, F.2.2.2.2.2.2) x9_56 x3_57) own opp x6 := by
            intro x6 h6
            subst h6
            refine wx_gain_m hlg (fun G hG => nm_e (nm_e ?_))
            have en : xb_t (opp &&& (G ^^^ (-1))) = (gm_pos p q (i + 1)).1 := by
              rw [ep]
              funext j
              rw [xb_andn, hG j, e1, e2]
              rfl
            have eq : xb_t (own ||| G) = (gm_pos p q (i + 1)).2 := by
              rw [ep]
              funext j
              rw [xb_or, hG j, e1, e2]
              rfl
            refine wx_search (by rw [en, eq]; omega) (fun F' f1 f2 => nm_r (nI_1 i) ?_)
            rw [en, eq] at f1
            exact ih n (i + 1) _ _ _ F' (by omega) (by omega) en eq f1 hkk
          exact goal _ (by rw [hFi, ex, zi_n])
        | false =>
          have h2 : gm_hm (gm_pos p q i).2 (gm_pos p q i).1 = true := gm_nf (fun y => hne (hFi.trans (gm_F_o hm y)))
          have ep := gm_pos_p hm
          have e64 : zi_z (gm_Fi p q i) = 64 := by rw [hFi, gm_F_p hm h2]; decide
          rw [e64] at hkk ⊢
          refine wx_gain_p (nm_e (nm_e ?_))
          have en : xb_t (opp &&& ((0 : Int64) ^^^ (-1))) = (gm_pos p q (i + 1)).1 := by
            rw [ep]
            funext j
            rw [xb_andn, xb_0, e2]
            simp
          have eq : xb_t (own ||| (0 : Int64)) = (gm_pos p q (i + 1)).2 := by
            rw [ep]
            funext j
            rw [xb_or, xb_0, e1]
            simp
          refine wx_search (by rw [en, eq]; omega) (fun F' f1 f2 => nm_r (nI_1 i) ?_)
          rw [en, eq] at f1
          exact ih n (i + 1) _ _ _ F' (by omega) (by omega) en eq f1 hkk
theorem wx_solve {post : Int32 → SX → Prop} {b w : Int64} {sd he hv hl : Int32} {ln : Nat → Int32} {ow op un : Nat → Int64} {pa ty bm be : Nat → Int32} {own opp : Int64} (m1 : ∀ post : Int64 → Prop, post own → wpX_moverDiscs post (b, w, sd, he, hv, hl, ln, ow, op, un, pa, ty, bm, be)) (m2 : ∀ post : Int64 → Prop, post opp → wpX_otherDiscs post (b, w, sd, he, hv, hl, ln, ow, op, un, pa, ty, bm, be)) (hn : ¬ gm_e (xb_t own) (xb_t opp) ≤ 6 → post (-4) (b, w, sd, he, hv, hl, ln, ow, op, un, pa, ty, bm, be)) (h : gm_e (xb_t own) (xb_t opp) ≤ 6 → ∀ (l : Nat) (ln' : Nat → Int32) (F' : gx_A), gm_PL (xb_t own) (xb_t opp) l → (∀ k, k < l → ln' k = zi_z (gm_Fi (xb_t own) (xb_t opp) k)) → post 0 (b, w, sd, 1, zi_z (gm_W (xb_t own) (xb_t opp)), nI l, ln', F'.1, F'.2.1, F'.2.2.1, F'.2.2.2.1, F'.2.2.2.2.1, F'.2.2.2.2.2.1, F'.2.2.2.2.2.2)) : wpX_solve post (b, w, sd, he, hv, hl, ln, ow, op, un, pa, ty, bm, be) := by
  unfold wpX_solve
  dsimp only
  refine m1 _ (m2 _ (wx_size _ ?_))
  have ee : gm_cnt (xb_t ((own ||| opp) ^^^ (-1))) 64 = gm_e (xb_t own) (xb_t opp) := by
    unfold gm_e
    apply gm_cnt_e
    intro j hj
    rw [xb_not _ hj, xb_or]
    unfold gm_em
    rw [decide_eq_true hj, Bool.not_or, Bool.true_and]
  rw [ee]
  have hle := gm_cnt_le (gm_em (xb_t own) (xb_t opp)) 64
  have hle2 : gm_e (xb_t own) (xb_t opp) ≤ 64 := hle
  refine pk_le _ 6 (fun z => ?_) (fun z => hn (by omega)) rfl rfl (by omega)
  refine wx_search z (fun F f1 f2 => nm_r f2 ⟨13, ?_⟩)
  exact wx_sv_l z (h z) 12 13 0 own opp ln F (by omega) (by omega) rfl rfl f1 (fun k hk => by omega)
