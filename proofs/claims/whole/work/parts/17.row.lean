/-! setRow -/
theorem wy_row_l {post : Int32 → SY → Prop} {sd hb sv pl : Int32} {a ds ph nx be pv : Nat → Int32} {r n1 n2 : Nat} (hr : r < 8) (h1 : n1 < 256) (h2 : n2 < 256) (h : post 0 (sd, 0, sv, pl, rb_r a r n1 n2 8, ds, ph, nx, be, pv)) : ∀ (n c : Nat), c ≤ 8 → 8 < n + c → wY_setRow_47 post (nI r) (nI n1) (nI n2) sd hb sv pl n (nI c) (rb_r a r n1 n2 c) ds ph nx be pv := by
  intro n
  induction n with
  | zero => intro c hc hn; omega
  | succ n ih =>
    intro c hc hn
    refine pk_le 8 c (fun z => ?_) (fun z => ?_)
    · have e : c = 8 := by omega
      subst e
      exact h
    · have hix : 8 * nI r + nI c = nI (8 * r + c) := by rw [zn_8, pk_mul, nI_add]
      have st : ∀ v : Int32, v = rb_v n1 n2 c → wY_setRow_86 post (wY_setRow_47 post (nI r) (nI n1) (nI n2) sd hb sv pl n) (nI r) (nI n1) (nI n2) (nI c) v sd hb sv pl (rb_r a r n1 n2 c) ds ph nx be pv := by
        intro v hv
        subst hv
        unfold wY_setRow_86
        rw [hix, nI_clamp (by omega)]
        exact ⟨vp_in_nI (by omega) (by decide), nm_r (rb_ru a r n1 n2 c) (nm_r (nI_1 c) (ih (c + 1) (by omega) (by omega)))⟩
      refine br_c (fun y => st 1 ?_) (fun y => br_c (fun q => st 2 ?_) (fun q => st 0 ?_))
      · unfold rb_v
        rw [if_pos ((rb_bit h1 z).mp y)]
      · unfold rb_v
        rw [if_neg (fun g => y ((rb_bit h1 z).mpr g)), if_pos ((rb_bit h2 z).mp q)]
      · unfold rb_v
        rw [if_neg (fun g => y ((rb_bit h1 z).mpr g)), if_neg (fun g => q ((rb_bit h2 z).mpr g))]
theorem i_vc_setRow {k : Nat} {u : SX} {v : SY} (I : i_Rel k u v) (hk : k + 4 ≤ 2048) (v1 : Int32) (v2 : Int32) (v3 : Int32) : wpX_setRow (fun r u' => wpY_setRow (fun r' v' => r' = r ∧ i_Rel (k + 4) u' v') v v1 v2 v3) u v1 v2 v3 := by
  obtain ⟨b, w, sd, he, hv, hl, ln, ow, op, un, pa, ty, bm, be⟩ := u
  obtain ⟨sd2, hb, sv, pl, a, ds, ph, nx, be2, pv⟩ := v
  have I0 := I
  obtain ⟨⟨r1, r2, r3⟩, rfl, hs, rfl, hh⟩ := I
  unfold wpX_setRow wpY_setRow
  dsimp only
  refine br_c (fun z => br_t z ⟨rfl, I0⟩) (fun z => ?_)
  obtain ⟨r, hr, rfl⟩ := nI_of z
  refine pk_lt r 8 (fun hr8 => ?_) (fun hr8 => br_f z (pk_le r 7 (fun _ => by omega) (fun _ => ⟨rfl, I0⟩)))
  have hle : nI r ≤ 7 := nI_le (b := 7) (by omega) (by decide)
  refine br_c (fun y => br_f z (br_t hle (br_t y ⟨rfl, I0⟩))) (fun y => ?_)
  refine br_c (fun y2 => br_f z (br_t hle (br_f y (br_t y2 ⟨rfl, I0⟩)))) (fun y2 => ?_)
  refine br_c (fun x => br_f z (br_t hle (br_f y (br_f y2 (br_t x ⟨rfl, I0⟩))))) (fun x => ?_)
  refine br_c (fun x2 => ?_) (fun x2 => br_f z (br_t hle (br_f y (br_f y2 (br_f x (br_f x2 ⟨rfl, I0⟩))))))
  refine br_c (fun q => ?_) (fun q => br_f z (br_t hle (br_f y (br_f y2 (br_f x (br_t x2 (br_f q ⟨rfl, I0⟩)))))))
  obtain ⟨n1, g1, rfl⟩ := nI_of y
  obtain ⟨n2, g2, rfl⟩ := nI_of x
  have h1 : n1 < 256 := by
    rcases Nat.lt_or_ge n1 256 with t | t
    · exact t
    · exact absurd (nI_lt (a := 255) (by omega) g1) y2
  have h2 : n2 < 256 := by
    have := (nI_leI (b := 255) g2 (by decide)).mp x2
    omega
  have e8 : 8 * nI r = nI (8 * r) := by rw [zn_8, pk_mul]
  have hM : ∀ j, xb_t ((255 : Int64) <<< ((nI (8 * r)).toInt64 &&& 63)) j = (decide (j < 64) && (decide (8 * r ≤ j) && Nat.testBit 255 (j - 8 * r))) := by
    intro j
    rw [show (255 : Int64) = (nI 255).toInt64 by decide]
    exact rb_sh (by decide) (by omega) j
  have hdis := fun c => rb_dis h1 q c
  refine nm_r e8 (nm_e (nm_e (nm_e (br_f z (br_t hle (br_f y (br_f y2 (br_f x (br_t x2 (br_t q ⟨9, ?_⟩))))))))))
  have hh := wy_row_l (post := fun r' v' => r' = 0 ∧ i_Rel (k + 4) ((b &&& (((255 : Int64) <<< ((nI (8 * r)).toInt64 &&& 63)) ^^^ (-1))) ||| ((nI n1).toInt64 <<< ((nI (8 * r)).toInt64 &&& 63)), (w &&& (((255 : Int64) <<< ((nI (8 * r)).toInt64 &&& 63)) ^^^ (-1))) ||| ((nI n2).toInt64 <<< ((nI (8 * r)).toInt64 &&& 63)), sd2, 0, hv, hl, ln, ow, op, un, pa, ty, bm, be) v') (sd := sd2) (hb := hb) (sv := sv) (pl := pl) (a := a) (ds := ds) (ph := ph) (nx := nx) (be := be2) (pv := pv) hr8 h1 h2 ⟨rfl, ⟨?_, ?_, ?_⟩, rfl, hs, rfl, Or.inl rfl⟩ 9 0 (by omega) (by omega)
  · rw [rb_r0] at hh
    exact hh
  · exact rb_row hr8 h1 r1 hM (fun c => rb_v1)
  · exact rb_row hr8 h2 r2 hM (fun c => rb_v2 (hdis c))
  · exact rb_rowt r3
