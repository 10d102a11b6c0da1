/-! the calls that change the program or forget -/
theorem i_vc_emit {k : Nat} {u : SX} {v : SY} (I : i_Rel k u v) (hk : k + 4 ≤ 2048) (v1 : Int32) (v2 : Int32) (v3 : Int32) : wpX_emit (fun r u' => wpY_emit (fun r' v' => r' = r ∧ i_Rel (k + 4) u' v') v v1 v2 v3) u v1 v2 v3 := by
  obtain ⟨xl, xi, ox, fx, gx, xk, xp, vv, sc, hh⟩ := u
  obtain ⟨yl, yp, yc, o, fa, fb, th, yk, yq, yn, ce, sa, ro, ta⟩ := v
  have J := i_up I
  obtain ⟨L, rfl, rfl, rfl, rfl, rfl, hL, hP, hM, hG, hK⟩ := I
  have z : (nI L).toNatClampNeg = L := nI_clamp (by omega)
  unfold wpX_emit
  refine rd_xins (fun hi => br_f (by decide) ?_) (fun hi => br_t rfl (rd_yins (fun h => absurd h hi) (fun _ => ⟨rfl, J⟩)))
  by_cases l : L < 16
  · have q : nI L < 16 := nI_lt (b := 16) l (by decide)
    have w : vp_in (nI L) 16 := vp_in_nI l (by decide)
    refine br_t q ?_
    by_cases x0 : xi = 0
    · refine br_t x0 ⟨w, nm_r (e' := upd o L v1) (by rw [z]) ⟨w, nm_r (e' := upd fa L v2) (by rw [z]) ⟨w, nm_r (e' := upd fb L v3) (by rw [z]) (nm_r (nI_1 L) ?_)⟩⟩⟩
      refine rd_yins (fun _ => br_t q ?_) (fun h => absurd hi h)
      refine rd_ymom hM (br_t x0 ⟨w, nm_r (e' := upd o L v1) (by rw [z]) ⟨w, nm_r (e' := upd fa L v2) (by rw [z]) ⟨w, nm_r (e' := upd fb L v3) (by rw [z]) (nm_r (nI_1 L) ?_)⟩⟩⟩)
      exact ⟨nI_pred L, L + 1, rfl, rfl, rfl, rfl, rfl, by omega, rd_prog_u hP hi, hM, hG, fun m hm ht => absurd ((rd_m0 hM).mp x0 m hm) ht⟩
    · exact br_f x0 (rd_yins (fun _ => br_t q (rd_ymom hM (br_f x0 ⟨rfl, J⟩))) (fun h => absurd hi h))
  · have q : ¬ nI L < 16 := nI_nlt (b := 16) (by omega) (by omega)
    exact br_f q (rd_yins (fun _ => br_f q ⟨rfl, J⟩) (fun h => absurd hi h))
theorem i_vc_forgetAll {k : Nat} {u : SX} {v : SY} (I : i_Rel k u v) (hk : k + 4 ≤ 2048) : wpX_forgetAll (fun u' => wpY_forgetAll (fun v' => i_Rel (k + 4) u' v') v) u := by
  obtain ⟨xl, xi, ox, fx, gx, xk, xp, vv, sc, hh⟩ := u
  obtain ⟨yl, yp, yc, o, fa, fb, th, yk, yq, yn, ce, sa, ro, ta⟩ := v
  have J := i_up I
  obtain ⟨L, rfl, rfl, rfl, rfl, rfl, hL, hP, hM, hG, hK⟩ := I
  obtain ⟨th', a, b⟩ := rd_yforget (yl := nI L) (yp := yp) (yc := yc) (o := o) (fa := fa) (fb := fb) (th := th) (yk := yk) (yq := yq) (yn := yn) (ce := ce) (sa := sa) (ro := ro) (ta := ta)
  exact a _ ⟨L, rfl, rfl, rfl, rfl, rfl, hL, hP, rd_mz b, hG, fun m hm ht => absurd (b m hm) ht⟩
theorem i_vc_clear {k : Nat} {u : SX} {v : SY} (I : i_Rel k u v) (hk : k + 4 ≤ 2048) : wpX_clear (fun u' => wpY_clear (fun v' => i_Rel (k + 4) u' v') v) u := by
  obtain ⟨xl, xi, ox, fx, gx, xk, xp, vv, sc, hh⟩ := u
  obtain ⟨yl, yp, yc, o, fa, fb, th, yk, yq, yn, ce, sa, ro, ta⟩ := v
  have J := i_up I
  obtain ⟨L, rfl, rfl, rfl, rfl, rfl, hL, hP, hM, hG, hK⟩ := I
  obtain ⟨th', a, b⟩ := rd_yforget (yl := nI L) (yp := yp) (yc := yc) (o := o) (fa := fa) (fb := fb) (th := th) (yk := yk) (yq := yq) (yn := yn) (ce := ce) (sa := sa) (ro := ro) (ta := ta)
  exact a _ ⟨0, rfl, rfl, rfl, rfl, rfl, Nat.zero_le _, fun j hj => absurd hj (Nat.not_lt_zero j), rd_mz b, hG, fun m hm ht => absurd (b m hm) ht⟩
theorem rd_yf0 {yl yp yc : Int32} {o fa fb th yk yq yn ce sa ro ta : Nat → Int32} {post : Int32 → SY → Prop} {x : Int32} (hn : ¬ rd_K th x) (h : post 0 (yl, yp, yc, o, fa, fb, th, yk, yq, yn, ce, sa, ro, ta)) : wpY_forget post (yl, yp, yc, o, fa, fb, th, yk, yq, yn, ce, sa, ro, ta) x := by
  by_cases a : x < 0
  · exact br_t a h
  · obtain ⟨m, hm, rfl⟩ := nI_of a
    refine br_f a ?_
    by_cases b : m < 12
    · refine br_f (nI_ge (b := 12) b (by decide)) ⟨vp_in_nI b (by decide), br_t ?_ h⟩
      rw [nI_clamp hm]
      exact Decidable.not_not.mp (fun z => hn ⟨m, b, rfl, z⟩)
    · exact br_t (nI_le (a := 12) (by omega) hm) h
theorem i_vc_forget {k : Nat} {u : SX} {v : SY} (I : i_Rel k u v) (hk : k + 4 ≤ 2048) (v1 : Int32) : wpX_forget (fun r u' => wpY_forget (fun r' v' => r' = r ∧ i_Rel (k + 4) u' v') v v1) u v1 := by
  obtain ⟨xl, xi, ox, fx, gx, xk, xp, vv, sc, hh⟩ := u
  obtain ⟨yl, yp, yc, o, fa, fb, th, yk, yq, yn, ce, sa, ro, ta⟩ := v
  have J := i_up I
  obtain ⟨L, rfl, rfl, rfl, rfl, rfl, hL, hP, hM, hG, hK⟩ := I
  by_cases hk1 : rd_K th v1
  · obtain ⟨f, hf, rfl, hft⟩ := hk1
    have zf : (nI f).toNatClampNeg = f := nI_clamp (by omega)
    have w : vp_in (nI f) 12 := vp_in_nI hf (by decide)
    unfold wpX_forget
    refine rd_xk1 hM hf hft (br_f (by decide) (nm_e ?_))
    refine br_f (nI_pos (by omega)) (br_f (nI_ge (b := 12) hf (by decide)) ⟨w, br_f (by rw [zf]; exact hft) ⟨w, nm_r (e' := upd th f 0) (by rw [zf, rd_nar0]) ⟨rfl, ?_⟩⟩⟩)
    refine ⟨L, rfl, rfl, rfl, rfl, rfl, hL, hP, rd_mclr hM hf, hG, fun m hm ht => rd_mom_up (hK m hm (fun z => ht ?_)) (by omega)⟩
    by_cases e : m = f
    · subst e
      exact pk_us
    · rw [pk_un e]
      exact z
  · unfold wpX_forget
    refine rd_xk0 hM hk1 (br_t rfl ?_)
    exact rd_yf0 hk1 ⟨rfl, J⟩
