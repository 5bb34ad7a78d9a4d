theorem i_vc_solve {k : Nat} {u : SX} {v : SY} (I : i_Rel k u v) (hk : k + 4 ≤ 2048) : wpX_solve (fun r u' => wpY_solve (fun r' v' => r' = r ∧ i_Rel (k + 4) u' v') v) u := by
  obtain ⟨b, w, sd, he, hv, hl, ln, ow, op, un, pa, ty, bm, be⟩ := u
  obtain ⟨sd2, hb, sv, pl, a, ds, ph, nx, be2, pv⟩ := v
  have I0 := I
  obtain ⟨hR, rfl, hs, rfl, hh⟩ := I
  have hT := rl_T hR
  replace hs : yb_s sd2 := hs
  obtain ⟨own, opp, e1, e2, m1, m2, _⟩ := rx_md (sd := sd2) (he := hb) (hv := hv) (hl := hl) (ln := ln) (ow := ow) (op := op) (un := un) (pa := pa) (ty := ty) (bm := bm) (be := be) hR hs
  refine wx_solve m1 m2 (fun z => ?_) (fun z l ln' F' hPL hln => ?_)
  · rw [e1, e2] at z
    exact wy_solve hs hT (fun _ => ⟨rfl, I0⟩) (fun y => absurd y z)
  · rw [e1, e2] at z hPL hln ⊢
    refine wy_solve hs hT (fun y => absurd z y) (fun _ l' A' pv' hPL' ha hpv => ?_)
    have el := gm_PL_u hPL' hPL
    subst el
    exact ⟨rfl, rb_same hR ha, rfl, hs, rfl, Or.inr ⟨rfl, rfl, l', hPL.1, rfl, rfl, fun j hj => (hpv j hj).trans (hln j hj).symm⟩⟩
