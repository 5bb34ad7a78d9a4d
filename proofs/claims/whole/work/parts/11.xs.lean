/-! the component's frames and its search -/
theorem wx_nb0 : vp_nar .boolean 0 = 0 := by rfl
theorem wx_nb1 : vp_nar .boolean 1 = 1 := by rfl
theorem wx_take_m {post : Int32 → SX → Prop} {b w : Int64} {sd he hv hl : Int32} {ln : Nat → Int32} {ow op un : Nat → Int64} {pa ty bm be : Nat → Int32} {d x : Nat} (hd : d < 14) (hp : pa d = 0) (hx : xb_t (un d) x = true) (hlo : ∀ j, j < x → xb_t (un d) j = false) (h : ∀ W : Int64, (∀ j, xb_t W j = (xb_t (un d) j && !decide (j = x))) → post (nI x) (b, w, sd, he, hv, hl, ln, ow, op, vp_updL un d W, pa, upd ty d (nI x), bm, be)) : wpX_takeMove post (b, w, sd, he, hv, hl, ln, ow, op, un, pa, ty, bm, be) (nI d) := by
  have hc : (nI d).toNatClampNeg = d := nI_clamp (by omega)
  have hi : vp_in (nI d) 14 := vp_in_nI hd (by decide)
  unfold wpX_takeMove
  dsimp only
  rw [hc]
  refine ⟨hi, br_t hp ⟨hi, nm_e ?_⟩⟩
  refine wx_low _ (fun y _ hy hyl => ?_) (fun hz => ?_)
  · have e : y = x := by
      rcases Nat.lt_trichotomy y x with z | z | z
      · rw [hlo y z] at hy; cases hy
      · exact z
      · rw [hyl x z] at hx; cases hx
    subst e
    exact ⟨hi, nm_e ⟨hi, nm_e (h _ (fun j => xb_low hx hlo j))⟩⟩
  · rw [hz x] at hx; cases hx
theorem wx_take_n {post : Int32 → SX → Prop} {b w : Int64} {sd he hv hl : Int32} {ln : Nat → Int32} {ow op un : Nat → Int64} {pa ty bm be : Nat → Int32} {d : Nat} (hd : d < 14) (hp : pa d = 0) (hz : ∀ j, xb_t (un d) j = false) (h : ∀ W : Int64, (∀ j, xb_t W j = false) → post (-1) (b, w, sd, he, hv, hl, ln, ow, op, vp_updL un d W, pa, upd ty d (-1), bm, be)) : wpX_takeMove post (b, w, sd, he, hv, hl, ln, ow, op, un, pa, ty, bm, be) (nI d) := by
  have hc : (nI d).toNatClampNeg = d := nI_clamp (by omega)
  have hi : vp_in (nI d) 14 := vp_in_nI hd (by decide)
  unfold wpX_takeMove
  dsimp only
  rw [hc]
  refine ⟨hi, br_t hp ⟨hi, nm_e ?_⟩⟩
  refine wx_low _ (fun y _ hy hyl => ?_) (fun _ => ?_)
  · rw [hz y] at hy; cases hy
  · exact ⟨hi, nm_e ⟨hi, nm_e (h _ (fun j => by rw [xb_and, hz j]; rfl))⟩⟩
theorem wx_take_p {post : Int32 → SX → Prop} {b w : Int64} {sd he hv hl : Int32} {ln : Nat → Int32} {ow op un : Nat → Int64} {pa ty bm be : Nat → Int32} {d : Nat} (hd : d < 14) (hp : pa d = 1) (h : post 64 (b, w, sd, he, hv, hl, ln, ow, op, un, upd pa d 0, upd ty d 64, bm, be)) : wpX_takeMove post (b, w, sd, he, hv, hl, ln, ow, op, un, pa, ty, bm, be) (nI d) := by
  have hc : (nI d).toNatClampNeg = d := nI_clamp (by omega)
  have hi : vp_in (nI d) 14 := vp_in_nI hd (by decide)
  unfold wpX_takeMove
  dsimp only
  rw [hc]
  exact ⟨hi, br_f (by rw [hp]; decide) ⟨hi, nm_e ⟨hi, nm_e h⟩⟩⟩
theorem wx_gain_m {post : Int64 → Prop} {own opp : Int64} {x : Nat} (hlg : gm_lg (xb_t own) (xb_t opp) x = true) (h : ∀ W : Int64, (∀ j, xb_t W j = gm_g (xb_t own) (xb_t opp) x j) → post W) : wpX_gainOf post own opp (nI x) := by
  obtain ⟨hx, ⟨h1, h2⟩, _⟩ := gm_lg_i.mp hlg
  unfold wpX_gainOf
  refine pk_eq x 64 (fun z => by omega) (fun _ => wx_flips hx (fun w hw => h _ (fun j => ?_)))
  rw [xb_or, hw j, xb_1 hx]
  unfold gm_fl gm_g
  rw [h1, h2]
  rfl
theorem wx_gain_p {post : Int64 → Prop} {own opp : Int64} (h : post 0) : wpX_gainOf post own opp 64 := br_t rfl h

theorem gx_op {F : gx_A} {d : Nat} {P Q : Nat → Bool} {w1 w2 wm : Int64} {v1 v2 : Int32} (h1 : xb_t w1 = P) (h2 : xb_t w2 = Q) (h3 : ∀ j, xb_t wm j = gm_lg P Q j) (h4 : v1 = if gm_hm P Q = false ∧ gm_hm Q P = true then 1 else 0) (h5 : v2 = zi_z (if gm_hm P Q = false ∧ gm_hm Q P = false then gm_df P Q else -65)) : gx_ag d F (vp_updL F.1 d w1, vp_updL F.2.1 d w2, vp_updL F.2.2.1 d wm, upd F.2.2.2.1 d v1, F.2.2.2.2.1, upd F.2.2.2.2.2.1 d (-1), upd F.2.2.2.2.2.2 d v2) ∧ gx_Fr0 (vp_updL F.1 d w1, vp_updL F.2.1 d w2, vp_updL F.2.2.1 d wm, upd F.2.2.2.1 d v1, F.2.2.2.2.1, upd F.2.2.2.2.2.1 d (-1), upd F.2.2.2.2.2.2 d v2) d P Q := by
  constructor
  · intro i hi
    have hn : i ≠ d := by omega
    exact ⟨(pk_uLn hn).symm, (pk_uLn hn).symm, (pk_uLn hn).symm, (pk_un hn).symm, rfl, (pk_un hn).symm, (pk_un hn).symm⟩
  · refine ⟨?_, ?_, ?_, ?_, ?_, ?_⟩
    · show xb_t (vp_updL F.1 d w1 d) = P
      rw [pk_uLs]; exact h1
    · show xb_t (vp_updL F.2.1 d w2 d) = Q
      rw [pk_uLs]; exact h2
    · show xb_t (vp_updL F.2.2.1 d wm d) = gm_lg P Q
      rw [pk_uLs]; exact funext h3
    · show upd F.2.2.2.1 d v1 d = _
      rw [pk_us]; exact h4
    · show upd F.2.2.2.2.2.1 d (-1) d = _
      rw [pk_us]; exact zi_m1
    · show upd F.2.2.2.2.2.2 d v2 d = _
      rw [pk_us]; exact h5
theorem wx_df (own opp : Int64) : nI (gm_cnt (xb_t own) 64) - nI (gm_cnt (xb_t opp) 64) = zi_z (gm_df (xb_t own) (xb_t opp)) := by
  rw [← zi_n, ← zi_n, zi_sub]
  rfl
theorem wx_open {post : SX → Prop} {b w : Int64} {sd he hv hl : Int32} {ln : Nat → Int32} {ow op un : Nat → Int64} {pa ty bm be : Nat → Int32} {d : Nat} {own opp : Int64} (hd : d < 14) (h : ∀ F' : gx_A, gx_ag d (ow, op, un, pa, ty, bm, be) F' → F'.2.2.2.2.1 = ty → gx_Fr0 F' d (xb_t own) (xb_t opp) → post (b, w, sd, he, hv, hl, ln, F'.1, F'.2.1, F'.2.2.1, F'.2.2.2.1, F'.2.2.2.2.1, F'.2.2.2.2.2.1, F'.2.2.2.2.2.2)) : wpX_openFrame post (b, w, sd, he, hv, hl, ln, ow, op, un, pa, ty, bm, be) (nI d) own opp := by
  have hc : (nI d).toNatClampNeg = d := nI_clamp (by omega)
  have hi : vp_in (nI d) 14 := vp_in_nI hd (by decide)
  unfold wpX_openFrame
  dsimp only
  refine wx_moves (fun wm hm => br_c (fun z => ?_) (fun z => ?_))
  · have z1 : gm_hm (xb_t own) (xb_t opp) = false := (xb_hm hm).mp z
    unfold wX_openFrame_20
    refine br_f (by decide) (wx_moves (fun wo ho => br_c (fun y => ?_) (fun y => ?_)))
    · have y1 : gm_hm (xb_t opp) (xb_t own) = false := (xb_hm ho).mp y
      unfold wX_openFrame_43 wX_openFrame_87 wX_openFrame_88
      rw [hc]
      refine ⟨hi, nm_e ⟨hi, nm_e ⟨hi, nm_e (br_f (by decide) (br_f (by decide) ⟨hi, nm_e ⟨hi, nm_e (br_f (by decide) (wx_size _ (wx_size _ ⟨hi, nm_e ?_⟩)))⟩⟩))⟩⟩⟩
      obtain ⟨g1, g2⟩ := gx_op (F := (ow, op, un, pa, ty, bm, be)) (d := d) (P := xb_t own) (Q := xb_t opp) (w1 := own) (w2 := opp) (wm := wm) (v1 := vp_nar .boolean 0) (v2 := nI (gm_cnt (xb_t own) 64) - nI (gm_cnt (xb_t opp) 64)) rfl rfl hm (by rw [if_neg (by rw [y1]; simp)]; rfl) (by rw [if_pos ⟨z1, y1⟩]; exact wx_df own opp)
      exact h _ g1 rfl g2
    · have y1 : gm_hm (xb_t opp) (xb_t own) = true := gm_nf (fun q => y ((xb_hm ho).mpr q))
      unfold wX_openFrame_42 wX_openFrame_43 wX_openFrame_88
      rw [hc]
      refine ⟨hi, nm_e ⟨hi, nm_e ⟨hi, nm_e (br_f (by decide) (br_t rfl ⟨hi, nm_e ⟨hi, nm_e (br_t rfl ⟨hi, nm_e ?_⟩)⟩⟩))⟩⟩⟩
      obtain ⟨g1, g2⟩ := gx_op (F := (ow, op, un, pa, ty, bm, be)) (d := d) (P := xb_t own) (Q := xb_t opp) (w1 := own) (w2 := opp) (wm := wm) (v1 := vp_nar .boolean 1) (v2 := -65) rfl rfl hm (by rw [if_pos ⟨z1, y1⟩]; rfl) (by rw [if_neg (by rw [y1]; simp)]; decide)
      exact h _ g1 rfl g2
  · have z1 : gm_hm (xb_t own) (xb_t opp) = true := gm_nf (fun q => z ((xb_hm hm).mpr q))
    unfold wX_openFrame_20
    refine br_t rfl ?_
    unfold wX_openFrame_42 wX_openFrame_43 wX_openFrame_87 wX_openFrame_88
    rw [hc]
    refine ⟨hi, nm_e ⟨hi, nm_e ⟨hi, nm_e (br_t rfl ⟨hi, nm_e ⟨hi, nm_e (br_t rfl ⟨hi, nm_e ?_⟩)⟩⟩)⟩⟩⟩
    obtain ⟨g1, g2⟩ := gx_op (F := (ow, op, un, pa, ty, bm, be)) (d := d) (P := xb_t own) (Q := xb_t opp) (w1 := own) (w2 := opp) (wm := wm) (v1 := vp_nar .boolean 0) (v2 := -65) rfl rfl hm (by rw [if_neg (by rw [z1]; simp)]; rfl) (by rw [if_neg (by rw [z1]; simp)]; decide)
    exact h _ g1 rfl g2
theorem wx_rep {post : SX → Prop} {b w : Int64} {sd he hv hl : Int32} {ln : Nat → Int32} {ow op un : Nat → Int64} {pa ty bm be : Nat → Int32} {d : Nat} (hd : d + 1 < 14) (h1 : ¬ be d < -(be (d + 1)) → post (b, w, sd, he, hv, hl, ln, ow, op, un, pa, ty, bm, be)) (h2 : be d < -(be (d + 1)) → post (b, w, sd, he, hv, hl, ln, ow, op, un, pa, ty, upd bm d (ty d), upd be d (-(be (d + 1))))) : wpX_reportToParent post (b, w, sd, he, hv, hl, ln, ow, op, un, pa, ty, bm, be) (nI (d + 1)) := by
  have hc : (nI d).toNatClampNeg = d := nI_clamp (by omega)
  have hc1 : (nI (d + 1)).toNatClampNeg = d + 1 := nI_clamp (by omega)
  have hi : vp_in (nI d) 14 := vp_in_nI (by omega) (by decide)
  have hi1 : vp_in (nI (d + 1)) 14 := vp_in_nI hd (by decide)
  unfold wpX_reportToParent
  dsimp only
  refine nm_r (nI_pred d) ⟨hi1, ?_⟩
  rw [hc, hc1]
  refine nm_e ⟨hi, br_c (fun z => h1 (Int32.not_lt.mpr z)) (fun z => ⟨hi, nm_e ⟨hi, hi, nm_e (h2 (Int32.not_le.mp z))⟩⟩)⟩
def wx_L (post : SX → Prop) (b w : Int64) (sd he hv hl : Int32) (ln : Nat → Int32) (c : gx_C) : Prop := ∀ n : Nat, 1000000 < n + c.1 → wX_search_13 post n (nI c.2.1) (nI c.1) b w sd he hv hl ln c.2.2.1 c.2.2.2.1 c.2.2.2.2.1 c.2.2.2.2.2.1 c.2.2.2.2.2.2.1 c.2.2.2.2.2.2.2.1 c.2.2.2.2.2.2.2.2
theorem wx_LM (post : SX → Prop) (b w : Int64) (sd he hv hl : Int32) (ln : Nat → Int32) : gx_LM (wx_L post b w sd he hv hl ln) := by
  rintro s d x ⟨ow, op, un, pa, ty, bm, be⟩ P Q U vm ve hs hd ⟨f1, f2, f3, f4, f5, f6⟩ hx hU hlo hlg hL n hn
  dsimp only at f1 f2 f3 f4 f5 f6 hn
  subst f1 f2 f3
  cases n with
  | zero => omega
  | succ n =>
    have hc : (nI d).toNatClampNeg = d := nI_clamp (by omega)
    have hi : vp_in (nI d) 14 := vp_in_nI (by omega) (by decide)
    show wX_search_13 post (n + 1) (nI d) (nI s) b w sd he hv hl ln ow op un pa ty bm be
    refine pk_le 1000000 s (fun z => by omega) (fun _ => br_f (nI_pos (by omega)) (br_f (by rw [nI_1]; exact nI_ge (b := 14) (by omega) (by decide)) ?_))
    refine wx_take_m (by omega) f4 hU hlo (fun W hW => br_f (fun z => ?_) ⟨hi, hi, ?_⟩)
    · have e : (nI x).toInt = (-1 : Int32).toInt := by rw [z]
      rw [nI_toInt (by omega), show (-1 : Int32).toInt = -1 by decide] at e
      omega
    rw [hc]
    refine wx_gain_m hlg (fun G hG => ⟨hi, hi, ?_⟩)
    rw [nI_1]
    refine wx_open (by omega) (fun F' ha ht hF => nm_e (nm_r (nI_1 s) ?_))
    refine hL F' ?_ ?_ ?_ ?_ n (by show 1000000 < n + (s + 1); omega)
    · intro i hi'
      obtain ⟨e1, e2, e3, e4, e5, e6, e7⟩ := ha i (by omega)
      exact ⟨e1, e2, (pk_uLn (by omega)).symm.trans e3, e4, (pk_un (by omega)).symm.trans e5, e6, e7⟩
    · obtain ⟨e1, e2, e3, e4, e5, e6, e7⟩ := ha d (by omega)
      dsimp only at e1 e2 e3 e4 e5 e6 e7
      rw [pk_uLs] at e3
      exact ⟨by rw [← e1], by rw [← e2], by rw [← e3]; exact funext hW, by rw [← e4]; exact f4, by rw [← e6]; exact f5, by rw [← e7]; exact f6⟩
    · show F'.2.2.2.2.1 d = nI x
      rw [ht, pk_us]
    · have en : xb_t (op d &&& (G ^^^ (-1))) = gm_np (xb_t (ow d)) (xb_t (op d)) x := funext (fun j => by rw [xb_andn, hG j]; rfl)
      have eq : xb_t (ow d ||| G) = gm_nq (xb_t (ow d)) (xb_t (op d)) x := funext (fun j => by rw [xb_or, hG j]; rfl)
      rw [en, eq] at hF
      exact hF
theorem wx_LP (post : SX → Prop) (b w : Int64) (sd he hv hl : Int32) (ln : Nat → Int32) : gx_LP (wx_L post b w sd he hv hl ln) := by
  rintro s d ⟨ow, op, un, pa, ty, bm, be⟩ P Q U vm ve hs hd ⟨f1, f2, f3, f4, f5, f6⟩ hL n hn
  dsimp only at f1 f2 f3 f4 f5 f6 hn
  subst f1 f2 f3
  cases n with
  | zero => omega
  | succ n =>
    have hc : (nI d).toNatClampNeg = d := nI_clamp (by omega)
    have hi : vp_in (nI d) 14 := vp_in_nI (by omega) (by decide)
    show wX_search_13 post (n + 1) (nI d) (nI s) b w sd he hv hl ln ow op un pa ty bm be
    refine pk_le 1000000 s (fun z => by omega) (fun _ => br_f (nI_pos (by omega)) (br_f (by rw [nI_1]; exact nI_ge (b := 14) (by omega) (by decide)) ?_))
    refine wx_take_p (by omega) f4 (br_f (by decide) ⟨hi, hi, ?_⟩)
    rw [hc]
    refine wx_gain_p ⟨hi, hi, ?_⟩
    rw [nI_1]
    refine wx_open (by omega) (fun F' ha ht hF => nm_e (nm_r (nI_1 s) ?_))
    refine hL F' ?_ ?_ ?_ ?_ n (by show 1000000 < n + (s + 1); omega)
    · intro i hi'
      obtain ⟨e1, e2, e3, e4, e5, e6, e7⟩ := ha i (by omega)
      exact ⟨e1, e2, e3, (pk_un (by omega)).symm.trans e4, (pk_un (by omega)).symm.trans e5, e6, e7⟩
    · obtain ⟨e1, e2, e3, e4, e5, e6, e7⟩ := ha d (by omega)
      dsimp only at e1 e2 e3 e4 e5 e6 e7
      rw [pk_us] at e4
      exact ⟨by rw [← e1], by rw [← e2], by rw [← e3], by rw [← e4], by rw [← e6]; exact f5, by rw [← e7]; exact f6⟩
    · show F'.2.2.2.2.1 d = nI 64
      rw [ht, pk_us]
      rfl
    · have en : xb_t (op d &&& ((0 : Int64) ^^^ (-1))) = xb_t (op d) := funext (fun j => by rw [xb_andn, xb_0]; simp)
      have eq : xb_t (ow d ||| (0 : Int64)) = xb_t (ow d) := funext (fun j => by rw [xb_or, xb_0]; simp)
      rw [en, eq] at hF
      exact hF
theorem wx_LR (post : SX → Prop) (b w : Int64) (sd he hv hl : Int32) (ln : Nat → Int32) : gx_LR (wx_L post b w sd he hv hl ln) := by
  rintro s d ⟨ow, op, un, pa, ty, bm, be⟩ P Q U P' Q' vw vm ve b' v' vt hs hd ⟨g1, g2, g3, g4, g5, g6⟩ ⟨f1, f2, f3, f4, f5, f6⟩ ht hL n hn
  dsimp only at f1 f2 f3 f4 f5 f6 g1 g2 g3 g4 g5 g6 hn
  replace ht : ty d = zi_z vt := ht
  cases n with
  | zero => omega
  | succ n =>
    show wX_search_13 post (n + 1) (nI (d + 1)) (nI s) b w sd he hv hl ln ow op un pa ty bm be
    refine pk_le 1000000 s (fun z => by omega) (fun _ => br_f (nI_pos (by omega)) (br_f (by rw [nI_1]; exact nI_ge (b := 14) (by omega) (by decide)) ?_))
    refine wx_take_n (by omega) g4 (fun j => by rw [g3]) (fun W hW => br_t rfl (br_f (nI_nle (by omega) (by omega)) ?_))
    refine wx_rep (by omega) (fun z => nm_r (pk_m1 d) (nm_r (nI_1 s) ?_)) (fun z => nm_r (pk_m1 d) (nm_r (nI_1 s) ?_))
    · rw [f6, g6] at z
      refine hL (ow, op, vp_updL un (d + 1) W, pa, upd ty (d + 1) (-1), bm, be) ?_ ?_ n (by show 1000000 < n + (s + 1); omega)
      · intro i hi'
        exact ⟨rfl, rfl, (pk_uLn (by omega)).symm, rfl, (pk_un (by omega)).symm, rfl, rfl⟩
      · rw [if_neg z, if_neg z]
        refine ⟨f1, f2, ?_, f4, f5, f6⟩
        show xb_t (vp_updL un (d + 1) W d) = U
        rw [pk_uLn (by omega)]
        exact f3
    · refine hL (ow, op, vp_updL un (d + 1) W, pa, upd ty (d + 1) (-1), upd bm d (upd ty (d + 1) (-1) d), upd be d (-(be (d + 1)))) ?_ ?_ n (by show 1000000 < n + (s + 1); omega)
      · intro i hi'
        exact ⟨rfl, rfl, (pk_uLn (by omega)).symm, rfl, (pk_un (by omega)).symm, (pk_un (by omega)).symm, (pk_un (by omega)).symm⟩
      · rw [f6, g6] at z
        rw [if_pos z, if_pos z]
        refine ⟨f1, f2, ?_, f4, ?_, ?_⟩
        · show xb_t (vp_updL un (d + 1) W d) = U
          rw [pk_uLn (by omega)]
          exact f3
        · show upd bm d (upd ty (d + 1) (-1) d) d = zi_z vt
          rw [pk_us, pk_un (by omega)]
          exact ht
        · show upd be d (-(be (d + 1))) d = zi_z (-v')
          rw [pk_us, g6, zi_neg]
theorem wx_search {post : SX → Prop} {b w : Int64} {sd he hv hl : Int32} {ln : Nat → Int32} {ow op un : Nat → Int64} {pa ty bm be : Nat → Int32} {own opp : Int64} (he6 : gm_e (xb_t own) (xb_t opp) ≤ 6) (h : ∀ F' : gx_A, F'.2.2.2.2.2.1 0 = zi_z (gm_F (xb_t own) (xb_t opp)) → F'.2.2.2.2.2.2 0 = zi_z (gm_W (xb_t own) (xb_t opp)) → post (b, w, sd, he, hv, hl, ln, F'.1, F'.2.1, F'.2.2.1, F'.2.2.2.1, F'.2.2.2.2.1, F'.2.2.2.2.2.1, F'.2.2.2.2.2.2)) : wpX_search post (b, w, sd, he, hv, hl, ln, ow, op, un, pa, ty, bm, be) own opp := by
  unfold wpX_search
  dsimp only
  refine wx_open (d := 0) (by omega) (fun F ha ht hF => ⟨1000001, ?_⟩)
  have hA := gs_A_m he6
  have hr := gs_run (gx_R (wx_LM post b w sd he hv hl ln) (wx_LP post b w sd he hv hl ln) (wx_LR post b w sd he hv hl ln)) (gm_e (xb_t own) (xb_t opp)) (0, 0, F) 0 0 (xb_t own) (xb_t opp) rfl ⟨rfl, rfl, hF⟩ (by omega) (by omega) ?_
  · exact hr 1000001 (by show 1000000 < 1000001 + 0; omega)
  · rintro ⟨cs, cd, ow', op', un', pa', ty', bm', be'⟩ s hs _ ⟨e1, e2, f1, f2, f3, f4, f5, f6⟩ n hn
    dsimp only at e1 e2 f1 f2 f3 f4 f5 f6 hn
    subst e1 e2
    cases n with
    | zero => omega
    | succ n =>
      show wX_search_13 post (n + 1) (nI 0) (nI cs) b w sd he hv hl ln ow' op' un' pa' ty' bm' be'
      refine pk_le 1000000 cs (fun z => by omega) (fun _ => br_f (nI_pos (by omega)) (br_f (by rw [nI_1]; exact nI_ge (b := 14) (by omega) (by decide)) ?_))
      refine wx_take_n (by omega) f4 (fun j => by rw [f3]) (fun W hW => br_t rfl (br_t (by decide) (nm_e (nm_r (nI_1 cs) ?_))))
      cases n with
      | zero => omega
      | succ n =>
        refine pk_le 1000000 (cs + 1) (fun z => by omega) (fun _ => br_t (by decide) ?_)
        exact h (ow', op', vp_updL un' 0 W, pa', upd ty' 0 (-1), bm', be') f5 f6
