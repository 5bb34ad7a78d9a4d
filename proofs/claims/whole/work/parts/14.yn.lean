/-! the reference's search -/
def wy_L (post : Int32 → SY → Prop) (b0 : Nat) (sd hb sv pl : Int32) (pv : Nat → Int32) (c : gy_C) : Prop := ∀ n : Nat, 2000000 < n + c.1 → wY_negamax_17 post (nI b0) n (nI c.2.1) c.2.2.1 c.2.2.2.1 (nI c.1) sd hb sv pl c.2.2.2.2.1 c.2.2.2.2.2.1 c.2.2.2.2.2.2.1 c.2.2.2.2.2.2.2.1 c.2.2.2.2.2.2.2.2 pv
theorem zn_64m (d : Nat) : 64 * nI d = nI (64 * d) := by rw [show (64 : Int32) = nI 64 from rfl, pk_mul]
theorem wy_LO (post : Int32 → SY → Prop) (b0 : Nat) (sd hb sv pl : Int32) (pv : Nat → Int32) : gy_LO (wy_L post b0 sd hb sv pl pv) := by
  rintro s d r ⟨a, ds, ph, nx, be⟩ P Q hs hd ⟨hm, rfl, rfl, hT⟩ hp h1 h2 hL n hn
  dsimp only at hm hT hp h1 h2 hn
  cases n with
  | zero => omega
  | succ n =>
    have hc : (nI d).toNatClampNeg = d := nI_clamp (by omega)
    have hi : vp_in (nI d) 16 := vp_in_nI (by omega) (by decide)
    show wY_negamax_17 post (nI b0) (n + 1) (nI d) 0 r (nI s) sd hb sv pl a ds ph nx be pv
    refine pk_le 2000000 s (fun z => by omega) (fun _ => br_t rfl (nm_r (zn_64m d) ⟨hi, ?_⟩))
    rw [hc]
    refine nm_e ⟨hi, br_t hp (wy_over hm (by omega) hT (fun _ _ => br_f (by decide) (wy_df hm (by omega) (nm_r (nI_1 s) ?_))) (fun z => ?_))⟩
    · exact hL n (by show 2000000 < n + (s + 1); omega)
    · rcases z with z | z
      · rw [h1] at z; cases z
      · rw [h2] at z; cases z
theorem wy_LS (post : Int32 → SY → Prop) (b0 : Nat) (sd hb sv pl : Int32) (pv : Nat → Int32) : gy_LS (wy_L post b0 sd hb sv pl pv) := by
  rintro s d r ⟨a, ds, ph, nx, be⟩ P Q hs hd ⟨hm, rfl, rfl, hT⟩ hp h1 hL n hn
  dsimp only at hm hT hp h1 hn
  cases n with
  | zero => omega
  | succ n =>
    have hc : (nI d).toNatClampNeg = d := nI_clamp (by omega)
    have hi : vp_in (nI d) 16 := vp_in_nI (by omega) (by decide)
    show wY_negamax_17 post (nI b0) (n + 1) (nI d) 0 r (nI s) sd hb sv pl a ds ph nx be pv
    refine pk_le 2000000 s (fun z => by omega) (fun _ => br_t rfl (nm_r (zn_64m d) ⟨hi, ?_⟩))
    rw [hc]
    refine nm_e ⟨hi, br_t hp (wy_over hm (by omega) hT (fun z _ => ?_) (fun _ => br_t rfl (br_t (by rw [nI_1]; exact nI_lt (b := 16) (by omega) (by decide)) (wy_hm hm (by omega) hT (fun _ => br_f (by decide) ⟨hi, nm_e ⟨hi, nm_e ⟨hi, nm_e (nm_r (nI_1 s) ?_)⟩⟩⟩) (fun z => ?_)))))⟩
    · rw [h1] at z; cases z
    · refine hL (a, ds, upd ph d 1, upd nx d 0, upd be d (-1000)) r ⟨fun _ _ => rfl, fun _ _ => rfl, fun i hi' => ⟨pk_un (by omega), pk_un (by omega), pk_un (by omega)⟩⟩ pk_us pk_us ?_ n (by show 2000000 < n + (s + 1); omega)
      show upd be d (-1000) d = zi_z (-1000)
      rw [pk_us]
      decide
    · rw [h1] at z; cases z
theorem gy_cpb {a a' : Nat → Int32} {d : Nat} {m : Int32} (h : ∀ j, j < 64 → a' (64 * (d + 1) + j) = a (64 * d + j)) : yb_o a' (64 * (d + 1)) m = yb_o a (64 * d) m := yb_oe h
theorem wy_LP (post : Int32 → SY → Prop) (b0 : Nat) (sd hb sv pl : Int32) (pv : Nat → Int32) : gy_LP (wy_L post b0 sd hb sv pl pv) := by
  rintro s d r ⟨a, ds, ph, nx, be⟩ P Q hs hd ⟨hm, rfl, rfl, hT⟩ hp h1 h2 hL n hn
  dsimp only at hm hT hp h1 h2 hn
  cases n with
  | zero => omega
  | succ n =>
    have hc : (nI d).toNatClampNeg = d := nI_clamp (by omega)
    have hc1 : (nI (d + 1)).toNatClampNeg = d + 1 := nI_clamp (by omega)
    have hi : vp_in (nI d) 16 := vp_in_nI (by omega) (by decide)
    have hi1 : vp_in (nI (d + 1)) 16 := vp_in_nI (by omega) (by decide)
    show wY_negamax_17 post (nI b0) (n + 1) (nI d) 0 r (nI s) sd hb sv pl a ds ph nx be pv
    refine pk_le 2000000 s (fun z => by omega) (fun _ => br_t rfl (nm_r (zn_64m d) ⟨hi, ?_⟩))
    rw [hc, nI_1 d, hc1]
    refine nm_e ⟨hi, br_t hp (wy_over hm (by omega) hT (fun _ z => ?_) (fun _ => br_t rfl (br_t (nI_lt (b := 16) (by omega) (by decide)) (wy_hm hm (by omega) hT (fun z => ?_) (fun _ => br_t rfl (wy_cp (by omega) (by omega) (by omega) (fun a' g1 g2 => ⟨hi1, nm_e ⟨hi, nm_e (nm_e ⟨hi1, ?_⟩)⟩⟩)))))))⟩
    · rw [h2] at z; cases z
    · rw [h1] at z; cases z
    · rw [hc1]
      refine nm_e (nm_r (nI_1 s) ?_)
      refine hL (a', upd ds (d + 1) (3 - ds d), upd (upd ph d 2) (d + 1) 0, nx, be) r ⟨fun x hx => g2 x (Or.inl hx), fun i hi' => pk_un (by omega), fun i hi' => ⟨?_, rfl, rfl⟩⟩ ?_ ⟨?_, ?_, ?_, ?_⟩ pk_us n (by show 2000000 < n + (s + 1); omega)
      · show upd (upd ph d 2) (d + 1) 0 i = ph i
        rw [pk_un (by omega), pk_un (by omega)]
      · show upd (upd ph d 2) (d + 1) 0 d = 2
        rw [pk_un (by omega), pk_us]
      · show yb_s (upd ds (d + 1) (3 - ds d) (d + 1))
        rw [pk_us]
        exact (yb_3 hm).1
      · show yb_o a (64 * d) (3 - ds d) = yb_o a' (64 * (d + 1)) (upd ds (d + 1) (3 - ds d) (d + 1))
        rw [pk_us, gy_cpb g1]
      · show yb_o a (64 * d) (ds d) = yb_o a' (64 * (d + 1)) (3 - upd ds (d + 1) (3 - ds d) (d + 1))
        rw [pk_us, (yb_3 hm).2.1, gy_cpb g1]
      · intro j hj
        show a' (64 * (d + 1) + j) = 0 ∨ a' (64 * (d + 1) + j) = 1 ∨ a' (64 * (d + 1) + j) = 2
        rw [g1 j hj]
        exact hT j hj
theorem wy_sc {post : Int32 → SY → Prop} {J17 : Int32 → Int32 → Int32 → Int32 → Int32 → Int32 → Int32 → Int32 → (Nat → Int32) → (Nat → Int32) → (Nat → Int32) → (Nat → Int32) → (Nat → Int32) → (Nat → Int32) → Prop} {sd hb sv pl : Int32} {a ds ph nx be pv : Nat → Int32} {x1 x2 x3 x4 x5 m : Int32} {o y : Nat} (hm : yb_s m) (ho : o + 64 ≤ 1024) (hT : gy_T a o) (hy : y ≤ 64) (hly : y < 64 → gm_lg (yb_o a o m) (yb_o a o (3 - m)) y = true) (h : wY_negamax_277 post J17 x1 x2 x3 x4 x5 (nI o) m (nI y) sd hb sv pl a ds ph nx be pv) : ∀ (f n u k : Nat), u + f = y → k + f ≤ 64 → f < n → (∀ j, u ≤ j → j < y → gm_lg (yb_o a o m) (yb_o a o (3 - m)) j = false) → wY_negamax_241 post J17 x1 x2 x3 x4 x5 (nI o) m sd hb sv pl a ds ph nx be pv n (nI u) (nI k) := by
  intro f
  induction f with
  | zero =>
    intro n u k hu hk hn hg
    cases n with
    | zero => omega
    | succ n =>
      have e : u = y := by omega
      subst e
      refine br_c (fun _ => h) (fun _ => pk_le 64 u (fun _ => h) (fun z => wy_lg hm ho hT z (fun _ => br_f (by decide) h) (fun q => ?_)))
      rw [hly z] at q
      cases q
  | succ f ih =>
    intro n u k hu hk hn hg
    cases n with
    | zero => omega
    | succ n =>
      refine pk_le 64 k (fun z => by omega) (fun _ => pk_le 64 u (fun z => by omega) (fun z => wy_lg hm ho hT z (fun q => ?_) (fun _ => br_t rfl (nm_r (nI_1 u) (nm_r (nI_1 k) ?_)))))
      · rw [hg u (by omega) (by omega)] at q
        cases q
      · exact ih n (u + 1) (k + 1) (by omega) (by omega) (by omega) (fun j a b => hg j (by omega) b)
theorem wy_LM (post : Int32 → SY → Prop) (b0 : Nat) (sd hb sv pl : Int32) (pv : Nat → Int32) : gy_LM (wy_L post b0 sd hb sv pl pv) := by
  rintro s d u x r ⟨a, ds, ph, nx, be⟩ P Q hs hd ⟨hm, rfl, rfl, hT⟩ hp hx8 hu hx hlx hg hL n hn
  dsimp only at hm hT hp hx8 hlx hg hn
  cases n with
  | zero => omega
  | succ n =>
    have hc : (nI d).toNatClampNeg = d := nI_clamp (by omega)
    have hc1 : (nI (d + 1)).toNatClampNeg = d + 1 := nI_clamp (by omega)
    have hi : vp_in (nI d) 16 := vp_in_nI (by omega) (by decide)
    have hi1 : vp_in (nI (d + 1)) 16 := vp_in_nI (by omega) (by decide)
    have e64 : nI (64 * d) + 64 = nI (64 * (d + 1)) := by
      rw [show (64 : Int32) = nI 64 from rfl, nI_add]
      congr 1
    show wY_negamax_17 post (nI b0) (n + 1) (nI d) 0 r (nI s) sd hb sv pl a ds ph nx be pv
    refine pk_le 2000000 s (fun z => by omega) (fun _ => br_t rfl (nm_r (zn_64m d) ⟨hi, ?_⟩))
    rw [hc]
    refine nm_e ⟨hi, br_f (by rw [hp]; decide) ⟨hi, nm_r hx8 ⟨65, ?_⟩⟩⟩
    refine wy_sc hm (by omega) hT (y := x) (by omega) (fun _ => hlx) ?_ (x - u) 65 u 0 (by omega) (by omega) (by omega) hg
    unfold wY_negamax_277
    refine pk_lt x 64 (fun _ => ⟨hi, ?_⟩) (fun z => by omega)
    rw [hc, nI_1 d, hc1, nI_1 x, e64]
    refine nm_e (wy_cp (by omega) (by omega) (by omega) (fun a' g1 g2 => ?_))
    have hT' : gy_T a' (64 * (d + 1)) := fun j hj => by rw [g1 j hj]; exact hT j hj
    refine wy_flip hm (by omega) hx ⟨hi1, nm_e (nm_e ⟨hi1, ?_⟩)⟩
    rw [hc1]
    refine nm_e (nm_r (nI_1 s) ?_)
    obtain ⟨v1, v2, v3⟩ := gy_mv (a := a') (m := ds d) (o := 64 * (d + 1)) (s := x) hm hx hT'
    rw [gy_cpb g1, gy_cpb g1] at v1 v2 v3 ⊢
    refine hL (yb_w a' (64 * (d + 1)) (ds d) (gm_g (yb_o a (64 * d) (ds d)) (yb_o a (64 * d) (3 - ds d)) x), upd ds (d + 1) (3 - ds d), upd ph (d + 1) 0, upd nx d (nI (x + 1)), be) r ⟨fun y hy => ?_, fun i hi' => pk_un (by omega), fun i hi' => ⟨pk_un (by omega), pk_un (by omega), rfl⟩⟩ ?_ pk_us rfl ⟨?_, ?_, ?_, v3⟩ pk_us n (by show 2000000 < n + (s + 1); omega)
    · show yb_w a' (64 * (d + 1)) (ds d) _ y = a y
      rw [yb_wl (gm_g_b hx) (Or.inl hy)]
      exact g2 y (Or.inl hy)
    · show upd ph (d + 1) 0 d = 1
      rw [pk_un (by omega)]
      exact hp
    · show yb_s (upd ds (d + 1) (3 - ds d) (d + 1))
      rw [pk_us]
      exact (yb_3 hm).1
    · show gm_np _ _ x = yb_o _ (64 * (d + 1)) (upd ds (d + 1) (3 - ds d) (d + 1))
      rw [pk_us]
      exact v1
    · show gm_nq _ _ x = yb_o _ (64 * (d + 1)) (3 - upd ds (d + 1) (3 - ds d) (d + 1))
      rw [pk_us]
      exact v2
theorem wy_LE (post : Int32 → SY → Prop) (b0 : Nat) (sd hb sv pl : Int32) (pv : Nat → Int32) : gy_LE (wy_L post b0 sd hb sv pl pv) := by
  rintro s d u r ⟨a, ds, ph, nx, be⟩ P Q hs hd ⟨hm, rfl, rfl, hT⟩ hp hx8 hu hg hL n hn
  dsimp only at hm hT hp hx8 hg hn
  cases n with
  | zero => omega
  | succ n =>
    have hc : (nI d).toNatClampNeg = d := nI_clamp (by omega)
    have hi : vp_in (nI d) 16 := vp_in_nI (by omega) (by decide)
    show wY_negamax_17 post (nI b0) (n + 1) (nI d) 0 r (nI s) sd hb sv pl a ds ph nx be pv
    refine pk_le 2000000 s (fun z => by omega) (fun _ => br_t rfl (nm_r (zn_64m d) ⟨hi, ?_⟩))
    rw [hc]
    refine nm_e ⟨hi, br_f (by rw [hp]; decide) ⟨hi, nm_r hx8 ⟨65, ?_⟩⟩⟩
    refine wy_sc hm (by omega) hT (y := 64) (by omega) (fun z => by omega) ?_ (64 - u) 65 u 0 (by omega) (by omega) (by omega) hg
    unfold wY_negamax_277
    refine pk_lt 64 64 (fun z => by omega) (fun _ => ⟨hi, ?_⟩)
    rw [hc]
    exact nm_e (nm_r (nI_1 s) (hL n (by show 2000000 < n + (s + 1); omega)))
theorem wy_LR (post : Int32 → SY → Prop) (b0 : Nat) (sd hb sv pl : Int32) (pv : Nat → Int32) : gy_LR b0 (wy_L post b0 sd hb sv pl pv) := by
  rintro s d r ⟨a, ds, ph, nx, be⟩ hs hd hb0 hp hL n hn
  dsimp only at hp hn
  cases n with
  | zero => omega
  | succ n =>
    have hc : (nI d).toNatClampNeg = d := nI_clamp (by omega)
    have hi : vp_in (nI d) 16 := vp_in_nI (by omega) (by decide)
    show wY_negamax_17 post (nI b0) (n + 1) (nI (d + 1)) 1 r (nI s) sd hb sv pl a ds ph nx be pv
    refine pk_le 2000000 s (fun z => by omega) (fun _ => br_f (by decide) (br_f (by rw [nI_eq (by omega) (by omega)]; omega) (nm_r (pk_m1 d) ⟨hi, ?_⟩)))
    rw [hc]
    refine br_f (by rw [hp]; decide) ⟨hi, br_c (fun z => nm_r (nI_1 s) ?_) (fun z => ⟨hi, nm_e (nm_r (nI_1 s) ?_)⟩)⟩
    · exact hL (a, ds, ph, nx, be) (gy_ag_r _ _) hp rfl (if_neg (Int32.not_lt.mpr z)).symm r n (by show 2000000 < n + (s + 1); omega)
    · refine hL (a, ds, ph, nx, upd be d (-r)) ⟨fun _ _ => rfl, fun _ _ => rfl, fun i hi' => ⟨rfl, rfl, pk_un (by omega)⟩⟩ hp rfl ?_ r n (by show 2000000 < n + (s + 1); omega)
      show upd be d (-r) d = if be d < -r then -r else be d
      rw [pk_us, if_pos (Int32.not_le.mp z)]
theorem wy_LQ (post : Int32 → SY → Prop) (b0 : Nat) (sd hb sv pl : Int32) (pv : Nat → Int32) : gy_LQ b0 (wy_L post b0 sd hb sv pl pv) := by
  rintro s d r ⟨a, ds, ph, nx, be⟩ hs hd hb0 hp hL n hn
  dsimp only at hp hn
  cases n with
  | zero => omega
  | succ n =>
    have hc : (nI d).toNatClampNeg = d := nI_clamp (by omega)
    have hi : vp_in (nI d) 16 := vp_in_nI (by omega) (by decide)
    show wY_negamax_17 post (nI b0) (n + 1) (nI (d + 1)) 1 r (nI s) sd hb sv pl a ds ph nx be pv
    refine pk_le 2000000 s (fun z => by omega) (fun _ => br_f (by decide) (br_f (by rw [nI_eq (by omega) (by omega)]; omega) (nm_r (pk_m1 d) ⟨hi, ?_⟩)))
    rw [hc]
    exact br_t hp (nm_e (nm_r (nI_1 s) (hL n (by show 2000000 < n + (s + 1); omega))))
theorem wy_neg {post : Int32 → SY → Prop} {sd hb sv pl : Int32} {a ds ph nx be pv : Nat → Int32} {b0 : Nat} {P Q : Nat → Bool} (hb2 : b0 ≤ 2) (hbd : gy_bd (a, ds, ph, nx, be) b0 P Q) (he6 : gm_e P Q ≤ 6) (h : ∀ A' : gy_A, gy_ag b0 (a, ds, ph, nx, be) A' → post (zi_z (gm_W P Q)) (sd, hb, sv, pl, A'.1, A'.2.1, A'.2.2.1, A'.2.2.2.1, A'.2.2.2.2, pv)) : wpY_negamax post (sd, hb, sv, pl, a, ds, ph, nx, be, pv) (nI b0) := by
  have hc : (nI b0).toNatClampNeg = b0 := nI_clamp (by omega)
  have hi : vp_in (nI b0) 16 := vp_in_nI (by omega) (by decide)
  have hA := gs_A_m he6
  unfold wpY_negamax
  dsimp only
  rw [hc]
  refine ⟨hi, nm_e ⟨2000001, ?_⟩⟩
  have hr := gs_run (gy_R (wy_LO post b0 sd hb sv pl pv) (wy_LS post b0 sd hb sv pl pv) (wy_LM post b0 sd hb sv pl pv) (wy_LE post b0 sd hb sv pl pv) (wy_LP post b0 sd hb sv pl pv) (wy_LR post b0 sd hb sv pl pv) (wy_LQ post b0 sd hb sv pl pv)) (gm_e P Q) (0, b0, 0, 0, a, ds, upd ph b0 0, nx, be) 0 b0 P Q rfl ⟨rfl, rfl, Nat.le_refl _, rfl, hbd, pk_us⟩ (by omega) (by omega) ?_
  · exact hr 2000001 (by show 2000000 < 2000001 + 0; omega)
  · rintro ⟨cs, cd, x3, x4, a', ds', ph', nx', be'⟩ s hs ha ⟨e1, e2, e3, e4⟩ n hn
    dsimp only at e1 e2 e3 e4 hn
    subst e1 e2 e3 e4
    cases n with
    | zero => omega
    | succ n =>
      show wY_negamax_17 post (nI cd) (n + 1) (nI cd) 1 (zi_z (gm_W P Q)) (nI cs) sd hb sv pl a' ds' ph' nx' be' pv
      refine pk_le 2000000 cs (fun z => by omega) (fun _ => br_f (by decide) (br_t rfl ?_))
      refine h (a', ds', ph', nx', be') ⟨ha.1, ha.2.1, fun i hi' => ?_⟩
      obtain ⟨k1, k2, k3⟩ := ha.2.2 i hi'
      exact ⟨k1.trans (pk_un (by omega)), k2, k3⟩
