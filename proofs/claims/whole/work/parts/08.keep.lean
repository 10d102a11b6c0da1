/-! the calls that keep a moment -/
theorem rd_ne2 {m : Nat} (hm : m < 12) : ¬ nI m = -2 := by
  intro h
  have g : ¬ nI m < 0 := nI_pos (by omega)
  rw [h] at g
  exact g (by decide)
theorem i_vc_start {k : Nat} {u : SX} {v : SY} (I : i_Rel k u v) (hk : k + 4 ≤ 2048) : wpX_start (fun r u' => wpY_start (fun r' v' => r' = r ∧ i_Rel (k + 4) u' v') v) u := by
  obtain ⟨xl, xi, ox, fx, gx, xk, xp, vv, sc, hh⟩ := u
  obtain ⟨yl, yp, yc, o, fa, fb, th, yk, yq, yn, ce, sa, ro, ta⟩ := v
  have J := i_up I
  obtain ⟨L, rfl, rfl, rfl, rfl, rfl, hL, hP, hM, hG, hK⟩ := I
  rcases rd_free (xl := nI L) (xi := xi) (o := o) (fa := fa) (fb := fb) (xk := xk) (xp := xp) (vv := vv) (sc := sc) (hh := hh) (yl := nI L) (yp := yp) (yc := yc) (th := th) (yk := yk) (yq := yq) (yn := yn) (ce := ce) (sa := sa) (ro := ro) (ta := ta) hM with ⟨m, hm, ht, fX, fY⟩ | ⟨fX, fY⟩
  · unfold wpX_start
    refine fX _ (br_f (rd_ne2 hm) ?_)
    obtain ⟨vv1, bX, b1, b2⟩ := rd_xblank (xl := nI L) (xi := xi) (o := o) (fa := fa) (fb := fb) (xk := xk) (xp := xp) (vv := vv) (sc := sc) (hh := hh) hm
    obtain ⟨ro1, ta1, aY, c1⟩ := rd_ystart0 (yl := nI L) (o := o) (fa := fa) (fb := fb) (th := th) (yk := yk) (yq := yq) (yn := yn) (ce := ce) (sa := sa) (ro := ro) (ta := ta) (m := m)
    have hR : rd_Run (15 * k) m vv sc hh vv1 (upd sc m 0) hh 0 ro1 ta1 := ⟨b2, rd_fr_u (rd_fr_r 1 m sc) (by omega) (by omega), rd_fr_r 8 m hh, fun i _ _ => b1 i (by omega), fun i hi => (b1 (rd_cx i) (rd_cx_lt hi)).trans (c1 i hi).symm, 0, Nat.zero_le _, pk_us, rfl, rd_tail_0 hh ta1 m⟩
    obtain ⟨xi', xk', xp', vv', sc', hh', yp', yc', th', yk', yq', yn', ce', sa', ro', ta', sX, sY, hRel⟩ := rd_stretch (xi := xi) (o := o) (fa := fa) (fb := fb) (xk := xk) (xp := xp) (th := th) (yk := yk) (yq := yq) (yn := yn) (ce := ce) (sa := sa) (v0 := vv) (s0 := sc) (h0 := hh) (vv := vv1) (sc := upd sc m 0) (hh := hh) (yc := 0) (ro := ro1) (ta := ta1) (L := L) (k := k) (m := m) hm hL hP hk hM hG hK 0 hR
    refine bX _ (sX _ ?_)
    unfold wpY_start
    exact fY _ (br_t (nI_pos' (by omega)) ⟨21, aY _ (sY _ ⟨rfl, hRel⟩)⟩)
  · unfold wpX_start
    refine fX _ (br_t rfl ?_)
    unfold wpY_start
    exact fY _ (br_f (by decide) ⟨rfl, J⟩)
theorem i_vc_answer {k : Nat} {u : SX} {v : SY} (I : i_Rel k u v) (hk : k + 4 ≤ 2048) (v1 : Int32) (v2 : Int32) : wpX_answer (fun r u' => wpY_answer (fun r' v' => r' = r ∧ i_Rel (k + 4) u' v') v v1 v2) u v1 v2 := by
  obtain ⟨xl, xi, ox, fx, gx, xk, xp, vv, sc, hh⟩ := u
  obtain ⟨yl, yp, yc, o, fa, fb, th, yk, yq, yn, ce, sa, ro, ta⟩ := v
  have J := i_up I
  obtain ⟨L, rfl, rfl, rfl, rfl, rfl, hL, hP, hM, hG, hK⟩ := I
  by_cases hk1 : rd_K th v1
  · obtain ⟨f, hf, rfl, hft⟩ := hk1
    obtain ⟨h1, h2, h3, h4, c, hc, h5, h6, h7⟩ := hK f hf hft
    have zf : (nI f).toNatClampNeg = f := nI_clamp (by omega)
    have w : vp_in (nI f) 12 := vp_in_nI hf (by decide)
    unfold wpX_answer
    refine rd_xk1 hM hf hft (br_f (by decide) ⟨w, ?_⟩)
    by_cases q : xk f = 2
    · refine br_t (by rw [zf]; exact q) ?_
      rcases rd_free (xl := nI L) (xi := xi) (o := o) (fa := fa) (fb := fb) (xk := xk) (xp := xp) (vv := vv) (sc := sc) (hh := hh) (yl := nI L) (yp := yp) (yc := yc) (th := th) (yk := yk) (yq := yq) (yn := yn) (ce := ce) (sa := sa) (ro := ro) (ta := ta) hM with ⟨m, hm, ht, fX, fY⟩ | ⟨fX, fY⟩
      · have hn : f ≠ m := fun e => hft (by rw [e]; exact ht)
        obtain ⟨vv1, hh1, cX, c1, c2, f1, f2⟩ := rd_xcopy (xl := nI L) (xi := xi) (o := o) (fa := fa) (fb := fb) (xk := xk) (xp := xp) (vv := vv) (sc := sc) (hh := hh) hm hf hn
        obtain ⟨ro1, ta1, tY, t1, t2⟩ := rd_ytake (yl := nI L) (yp := yp) (yc := yc) (o := o) (fa := fa) (fb := fb) (th := th) (yk := yk) (yq := yq) (yn := yn) (ce := ce) (sa := sa) (ro := ro) (ta := ta) hf
        have hR : rd_Run (15 * k) m vv sc hh vv1 (upd sc m (sc f)) hh1 (yn f) ro1 ta1 := ⟨f1, rd_fr_u (rd_fr_r 1 m sc) (by omega) (by omega), f2, fun i a b => (c1 i (by omega)).trans (hG f hf i a b), fun i hi => (c1 (rd_cx i) (rd_cx_lt hi)).trans ((h4 i hi).trans (t1 i hi).symm), c, hc, pk_us.trans h5, h6, fun j h8 hj => (c2 _ (Nat.mod_lt _ (by decide))).trans ((h7 j h8 hj).trans (t2 j h8).symm)⟩
        obtain ⟨p, hp, hpe⟩ := h3 q
        obtain ⟨_, r, _, hr, _, hfr, _⟩ := hP p hp
        have zp : (nI p).toNatClampNeg = p := nI_clamp (by omega)
        have hyq : yq f = nI p := h2.symm.trans hpe
        have e15 : yq f &&& 15 = nI p := by
          rw [hyq]
          exact rd_and15 (by omega)
        have er : fa (yq f &&& 15).toNatClampNeg &&& 3 = nI r := by
          rw [e15, zp, hfr]
          exact rd_and3 hr
        have ex : nI m * 32 + fa (nI p).toNatClampNeg = nI (32 * m + r) := by rw [zp, hfr, rd_x32]
        obtain ⟨xi', xk', xp', vv', sc', hh', yp', yc', th', yk', yq', yn', ce', sa', ro', ta', sX, sY, hRel⟩ := rd_stretch (xi := xi) (o := o) (fa := fa) (fb := fb) (xk := xk) (xp := xp) (th := th) (yk := yk) (yq := yq) (yn := yn) (ce := ce) (sa := sa) (v0 := vv) (s0 := sc) (h0 := hh) (vv := upd vv1 (32 * m + rd_cx r) v2) (sc := upd sc m (sc f)) (hh := hh1) (yc := yn f) (ro := upd ro1 r v2) (ta := ta1) (L := L) (k := k) (m := m) hm hL hP hk hM hG hK (nI (p + 1)) (rd_run_u hR (j := r) (by omega) v2)
        refine fX _ (br_f (rd_ne2 hm) (cX _ ⟨w, nm_r (e' := nI p) (by rw [zf]; exact hpe) ⟨vp_in_nI (by omega) (by decide), ?_, nm_r (e' := upd vv1 (32 * m + rd_cx r) v2) ?_ ?_⟩⟩))
        · rw [ex]
          exact vp_in_nI (by omega) (by decide)
        · rw [ex, nI_clamp (by omega), rd_cx_lo hr]
        · rw [nI_1 p]
          refine sX _ ?_
          unfold wpY_answer
          refine rd_yi1 hf hft (h1.symm.trans q) (br_f (by decide) (fY _ (br_t (nI_pos' (by omega)) (tY _ ⟨?_, ?_, nm_r (e' := upd ro1 r v2) ?_ (nm_r (e' := nI (p + 1)) ?_ (sY _ ⟨rfl, hRel⟩))⟩))))
          · rw [e15]
            exact vp_in_nI (by omega) (by decide)
          · rw [er]
            exact vp_in_nI (by omega) (by decide)
          · rw [er, nI_clamp (by omega)]
          · rw [hyq, nI_1]
      · refine fX _ (br_t rfl ?_)
        unfold wpY_answer
        exact rd_yi1 hf hft (h1.symm.trans q) (br_f (by decide) (fY _ (br_f (by decide) ⟨rfl, J⟩)))
    · refine br_f (by rw [zf]; exact q) ?_
      unfold wpY_answer
      exact rd_yi2 hf hft (fun e => q (h1.trans e)) (br_t rfl ⟨rfl, J⟩)
  · unfold wpX_answer
    refine rd_xk0 hM hk1 (br_t rfl ?_)
    unfold wpY_answer
    exact rd_yi0 hk1 (br_t rfl ⟨rfl, J⟩)
theorem i_vc_goOn {k : Nat} {u : SX} {v : SY} (I : i_Rel k u v) (hk : k + 4 ≤ 2048) (v1 : Int32) : wpX_goOn (fun r u' => wpY_goOn (fun r' v' => r' = r ∧ i_Rel (k + 4) u' v') v v1) u v1 := by
  obtain ⟨xl, xi, ox, fx, gx, xk, xp, vv, sc, hh⟩ := u
  obtain ⟨yl, yp, yc, o, fa, fb, th, yk, yq, yn, ce, sa, ro, ta⟩ := v
  have J := i_up I
  obtain ⟨L, rfl, rfl, rfl, rfl, rfl, hL, hP, hM, hG, hK⟩ := I
  by_cases hk1 : rd_K th v1
  · obtain ⟨f, hf, rfl, hft⟩ := hk1
    obtain ⟨h1, h2, h3, h4, c, hc, h5, h6, h7⟩ := hK f hf hft
    have zf : (nI f).toNatClampNeg = f := nI_clamp (by omega)
    have w : vp_in (nI f) 12 := vp_in_nI hf (by decide)
    unfold wpX_goOn
    refine rd_xk1 hM hf hft (br_f (by decide) ⟨w, ?_⟩)
    by_cases q : xk f = 3
    · refine br_t (by rw [zf]; exact q) ?_
      rcases rd_free (xl := nI L) (xi := xi) (o := o) (fa := fa) (fb := fb) (xk := xk) (xp := xp) (vv := vv) (sc := sc) (hh := hh) (yl := nI L) (yp := yp) (yc := yc) (th := th) (yk := yk) (yq := yq) (yn := yn) (ce := ce) (sa := sa) (ro := ro) (ta := ta) hM with ⟨m, hm, ht, fX, fY⟩ | ⟨fX, fY⟩
      · have hn : f ≠ m := fun e => hft (by rw [e]; exact ht)
        obtain ⟨vv1, hh1, cX, c1, c2, f1, f2⟩ := rd_xcopy (xl := nI L) (xi := xi) (o := o) (fa := fa) (fb := fb) (xk := xk) (xp := xp) (vv := vv) (sc := sc) (hh := hh) hm hf hn
        obtain ⟨ro1, ta1, tY, t1, t2⟩ := rd_ytake (yl := nI L) (yp := yp) (yc := yc) (o := o) (fa := fa) (fb := fb) (th := th) (yk := yk) (yq := yq) (yn := yn) (ce := ce) (sa := sa) (ro := ro) (ta := ta) hf
        have hR : rd_Run (15 * k) m vv sc hh vv1 (upd sc m (sc f)) hh1 (yn f) ro1 ta1 := ⟨f1, rd_fr_u (rd_fr_r 1 m sc) (by omega) (by omega), f2, fun i a b => (c1 i (by omega)).trans (hG f hf i a b), fun i hi => (c1 (rd_cx i) (rd_cx_lt hi)).trans ((h4 i hi).trans (t1 i hi).symm), c, hc, pk_us.trans h5, h6, fun j h8 hj => (c2 _ (Nat.mod_lt _ (by decide))).trans ((h7 j h8 hj).trans (t2 j h8).symm)⟩
        obtain ⟨xi', xk', xp', vv', sc', hh', yp', yc', th', yk', yq', yn', ce', sa', ro', ta', sX, sY, hRel⟩ := rd_stretch (xi := xi) (o := o) (fa := fa) (fb := fb) (xk := xk) (xp := xp) (th := th) (yk := yk) (yq := yq) (yn := yn) (ce := ce) (sa := sa) (v0 := vv) (s0 := sc) (h0 := hh) (vv := vv1) (sc := upd sc m (sc f)) (hh := hh1) (yc := yn f) (ro := ro1) (ta := ta1) (L := L) (k := k) (m := m) hm hL hP hk hM hG hK (yq f) hR
        refine fX _ (br_f (rd_ne2 hm) (cX _ ⟨w, ?_⟩))
        rw [zf, h2]
        refine sX _ ?_
        unfold wpY_goOn
        exact rd_yi1 hf hft (h1.symm.trans q) (br_f (by decide) (fY _ (br_t (nI_pos' (by omega)) (tY _ (sY _ ⟨rfl, hRel⟩)))))
      · refine fX _ (br_t rfl ?_)
        unfold wpY_goOn
        exact rd_yi1 hf hft (h1.symm.trans q) (br_f (by decide) (fY _ (br_f (by decide) ⟨rfl, J⟩)))
    · refine br_f (by rw [zf]; exact q) ?_
      unfold wpY_goOn
      exact rd_yi2 hf hft (fun e => q (h1.trans e)) (br_t rfl ⟨rfl, J⟩)
  · unfold wpX_goOn
    refine rd_xk0 hM hk1 (br_t rfl ?_)
    unfold wpY_goOn
    exact rd_yi0 hk1 (br_t rfl ⟨rfl, J⟩)
