/-! the calls that only read -/
theorem i_up {k : Nat} {u : SX} {v : SY} (h : i_Rel k u v) : i_Rel (k + 4) u v := by
  obtain ⟨xl, xi, ox, fx, gx, xk, xp, vv, sc, hh⟩ := u
  obtain ⟨yl, yp, yc, o, fa, fb, th, yk, yq, yn, ce, sa, ro, ta⟩ := v
  obtain ⟨L, h1, h2, h3, h4, h5, hL, hP, hM, hG, hK⟩ := h
  exact ⟨L, h1, h2, h3, h4, h5, hL, hP, hM, hG, fun m hm ht => rd_mom_up (hK m hm ht) (by omega)⟩
theorem i_vc0 : wpX_init (fun u => wpY_init (fun v => i_Rel 0 u v)) := 
  ⟨0, rfl, rfl, rfl, rfl, rfl, Nat.zero_le _, fun j hj => absurd hj (Nat.not_lt_zero j), rd_mz (fun _ _ => rfl), fun _ _ _ _ _ => rfl, fun _ _ ht => absurd rfl ht⟩
theorem i_vc_moments {k : Nat} {u : SX} {v : SY} (I : i_Rel k u v) (hk : k + 4 ≤ 2048) : wpX_moments (fun r => wpY_moments (fun r' => r' = r ∧ i_Rel (k + 4) u v) v) u := by
  obtain ⟨xl, xi, ox, fx, gx, xk, xp, vv, sc, hh⟩ := u
  obtain ⟨yl, yp, yc, o, fa, fb, th, yk, yq, yn, ce, sa, ro, ta⟩ := v
  have J := i_up I
  obtain ⟨L, rfl, rfl, rfl, rfl, rfl, hL, hP, hM, hG, hK⟩ := I
  exact rd_ymom hM ⟨rfl, J⟩
theorem i_vc_kind {k : Nat} {u : SX} {v : SY} (I : i_Rel k u v) (hk : k + 4 ≤ 2048) (v1 : Int32) : wpX_kind (fun r => wpY_kind (fun r' => r' = r ∧ i_Rel (k + 4) u v) v v1) u v1 := by
  obtain ⟨xl, xi, ox, fx, gx, xk, xp, vv, sc, hh⟩ := u
  obtain ⟨yl, yp, yc, o, fa, fb, th, yk, yq, yn, ce, sa, ro, ta⟩ := v
  have J := i_up I
  obtain ⟨L, rfl, rfl, rfl, rfl, rfl, hL, hP, hM, hG, hK⟩ := I
  by_cases hk1 : rd_K th v1
  · obtain ⟨f, hf, rfl, hft⟩ := hk1
    obtain ⟨h1, h2, h3, h4, c, hc, h5, h6, h7⟩ := hK f hf hft
    have zf : (nI f).toNatClampNeg = f := nI_clamp (by omega)
    have w : vp_in (nI f) 12 := vp_in_nI hf (by decide)
    unfold wpX_kind
    refine rd_xk1 hM hf hft (br_f (by decide) ⟨w, ?_⟩)
    unfold wpY_kind
    refine rd_yk1 hf hft (br_f (by decide) ⟨w, ?_, J⟩)
    rw [zf]
    exact h1.symm
  · unfold wpX_kind
    refine rd_xk0 hM hk1 (br_t rfl ?_)
    unfold wpY_kind
    exact rd_yk0 hk1 (br_t rfl ⟨rfl, J⟩)
theorem i_vc_position {k : Nat} {u : SX} {v : SY} (I : i_Rel k u v) (hk : k + 4 ≤ 2048) (v1 : Int32) : wpX_position (fun r => wpY_position (fun r' => r' = r ∧ i_Rel (k + 4) u v) v v1) u v1 := by
  obtain ⟨xl, xi, ox, fx, gx, xk, xp, vv, sc, hh⟩ := u
  obtain ⟨yl, yp, yc, o, fa, fb, th, yk, yq, yn, ce, sa, ro, ta⟩ := v
  have J := i_up I
  obtain ⟨L, rfl, rfl, rfl, rfl, rfl, hL, hP, hM, hG, hK⟩ := I
  by_cases hk1 : rd_K th v1
  · obtain ⟨f, hf, rfl, hft⟩ := hk1
    obtain ⟨h1, h2, h3, h4, c, hc, h5, h6, h7⟩ := hK f hf hft
    have zf : (nI f).toNatClampNeg = f := nI_clamp (by omega)
    have w : vp_in (nI f) 12 := vp_in_nI hf (by decide)
    unfold wpX_position
    refine rd_xk1 hM hf hft (br_f (by decide) ⟨w, ?_⟩)
    unfold wpY_position
    refine rd_yk1 hf hft (br_f (by decide) ⟨w, ?_, J⟩)
    rw [zf]
    exact h2.symm
  · unfold wpX_position
    refine rd_xk0 hM hk1 (br_t rfl ?_)
    unfold wpY_position
    exact rd_yk0 hk1 (br_t rfl ⟨rfl, J⟩)
theorem i_vc_said {k : Nat} {u : SX} {v : SY} (I : i_Rel k u v) (hk : k + 4 ≤ 2048) (v1 : Int32) : wpX_said (fun r => wpY_said (fun r' => r' = r ∧ i_Rel (k + 4) u v) v v1) u v1 := by
  obtain ⟨xl, xi, ox, fx, gx, xk, xp, vv, sc, hh⟩ := u
  obtain ⟨yl, yp, yc, o, fa, fb, th, yk, yq, yn, ce, sa, ro, ta⟩ := v
  have J := i_up I
  obtain ⟨L, rfl, rfl, rfl, rfl, rfl, hL, hP, hM, hG, hK⟩ := I
  by_cases hk1 : rd_K th v1
  · obtain ⟨f, hf, rfl, hft⟩ := hk1
    obtain ⟨h1, h2, h3, h4, c, hc, h5, h6, h7⟩ := hK f hf hft
    have zf : (nI f).toNatClampNeg = f := nI_clamp (by omega)
    have w : vp_in (nI f) 12 := vp_in_nI hf (by decide)
    unfold wpX_said
    refine rd_xk1 hM hf hft (br_f (by decide) ⟨w, ?_⟩)
    unfold wpY_said
    refine rd_yk1 hf hft (br_f (by decide) ⟨w, ?_, J⟩)
    rw [zf]
    exact h6.trans h5.symm
  · unfold wpX_said
    refine rd_xk0 hM hk1 (br_t rfl ?_)
    unfold wpY_said
    exact rd_yk0 hk1 (br_t rfl ⟨rfl, J⟩)
theorem i_vc_peek {k : Nat} {u : SX} {v : SY} (I : i_Rel k u v) (hk : k + 4 ≤ 2048) (v1 : Int32) (v2 : Int32) : wpX_peek (fun r => wpY_peek (fun r' => r' = r ∧ i_Rel (k + 4) u v) v v1 v2) u v1 v2 := by
  obtain ⟨xl, xi, ox, fx, gx, xk, xp, vv, sc, hh⟩ := u
  obtain ⟨yl, yp, yc, o, fa, fb, th, yk, yq, yn, ce, sa, ro, ta⟩ := v
  have J := i_up I
  obtain ⟨L, rfl, rfl, rfl, rfl, rfl, hL, hP, hM, hG, hK⟩ := I
  by_cases hk1 : rd_K th v1
  · obtain ⟨f, hf, rfl, hft⟩ := hk1
    obtain ⟨h1, h2, h3, h4, c, hc, h5, h6, h7⟩ := hK f hf hft
    have zf : (nI f).toNatClampNeg = f := nI_clamp (by omega)
    have w : vp_in (nI f) 12 := vp_in_nI hf (by decide)
    unfold wpX_peek
    refine rd_xk1 hM hf hft (br_f (by decide) ?_)
    by_cases a : v2 < 0
    · refine br_t a ?_
      unfold wpY_peek
      exact rd_yk1 hf hft (br_f (by decide) (br_t a ⟨rfl, J⟩))
    · obtain ⟨i, hi, rfl⟩ := nI_of a
      refine br_f a ?_
      by_cases b : i < 32
      · have zx : (nI f * 32 + nI i).toNatClampNeg = 32 * f + i := by rw [rd_x32, nI_clamp (by omega)]
        refine br_t (nI_lt (b := 32) b (by decide)) ⟨pk_in (32 * f + i) 384 (by omega) (rd_x32 f i), ?_⟩
        unfold wpY_peek
        refine rd_yk1 hf hft (br_f (by decide) (br_f a (br_f (nI_nlt (a := 31) (b := i) (by omega) (by decide)) ?_)))
        rw [zx]
        by_cases e : i ≤ 3
        · refine br_t (nI_le (b := 3) e (by decide)) (br_f (nI_ge (b := 4) (by omega) (by decide)) ⟨pk_in (20 * f + i) 240 (by omega) (rd_y20 f i), ?_, J⟩)
          rw [rd_y20, nI_clamp (by omega)]
          have g := h4 i (by omega)
          rw [rd_cx_lo (by omega)] at g
          exact g.symm
        · refine br_f (nI_ge (a := 3) (b := i) (by omega) hi) ?_
          by_cases e2 : 16 ≤ i
          · have ee : 20 * nI f + (nI i - 12) = nI (20 * f + (4 + (i - 16))) := by
              have e3 : nI i - 12 = nI (4 + (i - 16)) := (pk_sub (b := 12) (by omega)).trans (congrArg nI (by omega))
              rw [e3, rd_y20]
            refine br_t (nI_le (a := 16) e2 hi) (br_t (nI_le (a := 4) (by omega) hi) ⟨?_, ?_, J⟩)
            · rw [ee]
              exact vp_in_nI (by omega) (by decide)
            · rw [ee, nI_clamp (by omega)]
              have g := h4 (4 + (i - 16)) (by omega)
              rw [rd_cx_hi, show 16 + (i - 16) = i by omega] at g
              exact g.symm
          · exact br_f (nI_ge (b := 16) (by omega) (by decide)) ⟨(hG f hf i (by omega) (by omega)).symm, J⟩
      · refine br_f (nI_nlt (b := 32) (by omega) hi) ?_
        unfold wpY_peek
        exact rd_yk1 hf hft (br_f (by decide) (br_f a (br_t (nI_lt (a := 31) (by omega) hi) ⟨rfl, J⟩)))
  · unfold wpX_peek
    refine rd_xk0 hM hk1 (br_t rfl ?_)
    unfold wpY_peek
    exact rd_yk0 hk1 (br_t rfl ⟨rfl, J⟩)
theorem i_vc_lastSaid {k : Nat} {u : SX} {v : SY} (I : i_Rel k u v) (hk : k + 4 ≤ 2048) (v1 : Int32) (v2 : Int32) : wpX_lastSaid (fun r => wpY_lastSaid (fun r' => r' = r ∧ i_Rel (k + 4) u v) v v1 v2) u v1 v2 := by
  obtain ⟨xl, xi, ox, fx, gx, xk, xp, vv, sc, hh⟩ := u
  obtain ⟨yl, yp, yc, o, fa, fb, th, yk, yq, yn, ce, sa, ro, ta⟩ := v
  have J := i_up I
  obtain ⟨L, rfl, rfl, rfl, rfl, rfl, hL, hP, hM, hG, hK⟩ := I
  by_cases hk1 : rd_K th v1
  · obtain ⟨f, hf, rfl, hft⟩ := hk1
    obtain ⟨h1, h2, h3, h4, c, hc, h5, h6, h7⟩ := hK f hf hft
    have zf : (nI f).toNatClampNeg = f := nI_clamp (by omega)
    have w : vp_in (nI f) 12 := vp_in_nI hf (by decide)
    unfold wpX_lastSaid
    refine rd_xk1 hM hf hft (br_f (by decide) ?_)
    by_cases a : v2 < 0
    · refine br_t a ?_
      unfold wpY_lastSaid
      exact rd_yk1 hf hft (br_f (by decide) (br_t a ⟨rfl, J⟩))
    · obtain ⟨j, hj, rfl⟩ := nI_of a
      refine br_f a ?_
      by_cases b : j < 8
      · refine br_f (nI_ge (b := 8) b (by decide)) ⟨w, ?_⟩
        rw [zf, h5]
        by_cases e : j < c
        · have ee : nI f * 8 + ((nI c - 1 - nI j) &&& 7) = nI (8 * f + (c - 1 - j) % 8) := by
            have e3 : nI c - 1 = nI (c - 1) := pk_sub (b := 1) (by omega)
            rw [e3, pk_sub (by omega), rd_and7 (by omega), rd_x8]
          have hlt := Nat.mod_lt (c - 1 - j) (by decide : 8 > 0)
          refine br_t (nI_lt e (by omega)) ⟨w, ?_, ?_⟩
          · rw [ee]
            exact vp_in_nI (by omega) (by decide)
          · rw [ee, nI_clamp (by omega)]
            unfold wpY_lastSaid
            refine rd_yk1 hf hft (br_f (by decide) (br_f a (br_f (nI_ge (b := 8) b (by decide)) ⟨w, br_f ?_ ⟨pk_in (8 * f + j) 96 (by omega) (rd_y8 f j), ?_, J⟩⟩)))
            · rw [zf, h6]
              exact nI_ge e (by omega)
            · rw [rd_y8, nI_clamp (by omega)]
              exact (h7 j b e).symm
        · refine br_f (nI_nlt (by omega) hj) ?_
          unfold wpY_lastSaid
          refine rd_yk1 hf hft (br_f (by decide) (br_f a (br_f (nI_ge (b := 8) b (by decide)) ⟨w, br_t ?_ ⟨rfl, J⟩⟩)))
          rw [zf, h6]
          exact nI_le (by omega) hj
      · have q : (8 : Int32) ≤ nI j := nI_le (a := 8) (by omega) hj
        refine br_t q ?_
        unfold wpY_lastSaid
        exact rd_yk1 hf hft (br_f (by decide) (br_f a (br_t q ⟨rfl, J⟩)))
  · unfold wpX_lastSaid
    refine rd_xk0 hM hk1 (br_t rfl ?_)
    unfold wpY_lastSaid
    exact rd_yk0 hk1 (br_t rfl ⟨rfl, J⟩)
section
variable {xl xi : Int32} {o fa fb xk xp vv sc hh : Nat → Int32} {yl yp yc : Int32} {th yk yq yn ce sa ro ta : Nat → Int32}
theorem rd_setn {j : Nat} {x : Int32} {g : Nat → Bool} (h : rd_Set (rd_cx j + 1) x g) (hg : ∀ i, 4 ≤ i → i < 16 → g i = false) : rd_Set (rd_cx (j + 1)) x g := by
  by_cases e : j = 3
  · subst e
    exact rd_setj h hg
  · have e2 : rd_cx (j + 1) = rd_cx j + 1 := by
      unfold rd_cx
      split <;> split <;> omega
    rw [e2]
    exact h
theorem rd_xdiff {a b : Nat} (ha : a < 12) (hb : b < 12) : ∃ y, rd_Set 32 y (fun i => decide (vv (32 * a + i) ≠ vv (32 * b + i))) ∧ ∀ post : Int32 → Prop, post y → wX_difference_23 post (nI a) (nI b) xl xi o fa fb xk xp vv sc hh 33 0 0 := by
  have key : ∀ (d j : Nat) (x : Int32), j + d = 32 → rd_Set j x (fun i => decide (vv (32 * a + i) ≠ vv (32 * b + i))) → ∃ y, rd_Set 32 y (fun i => decide (vv (32 * a + i) ≠ vv (32 * b + i))) ∧ ∀ post : Int32 → Prop, post y → wX_difference_23 post (nI a) (nI b) xl xi o fa fb xk xp vv sc hh (d + 1) x (nI j) := by
    intro d
    induction d with
    | zero =>
      intro j x hj hS
      have e : j = 32 := by omega
      subst e
      exact ⟨x, hS, fun post h => br_t (nI_le (a := 32) (b := 32) (Nat.le_refl _) (by decide)) h⟩
    | succ d ih =>
      intro j x hj hS
      have q : ¬ (32 : Int32) ≤ nI j := nI_ge (b := 32) (by omega) (by decide)
      have v1 : vp_in (nI a * 32 + nI j) 384 := pk_in (32 * a + j) 384 (by omega) (rd_x32 a j)
      have v2 : vp_in (nI b * 32 + nI j) 384 := pk_in (32 * b + j) 384 (by omega) (rd_x32 b j)
      have z1 : (nI a * 32 + nI j).toNatClampNeg = 32 * a + j := by rw [rd_x32, nI_clamp (by omega)]
      have z2 : (nI b * 32 + nI j).toNatClampNeg = 32 * b + j := by rw [rd_x32, nI_clamp (by omega)]
      by_cases t : vv (32 * a + j) = vv (32 * b + j)
      · have hg : (fun i => decide (vv (32 * a + i) ≠ vv (32 * b + i))) j = false := decide_eq_false (fun y => y t)
        obtain ⟨y, hy, hp⟩ := ih (j + 1) x (by omega) (rd_set0 hS hg)
        exact ⟨y, hy, fun post h => br_f q ⟨v1, v2, br_t (by rw [z1, z2]; exact t) (nm_r (nI_1 j) (hp post h))⟩⟩
      · have hg : (fun i => decide (vv (32 * a + i) ≠ vv (32 * b + i))) j = true := decide_eq_true t
        obtain ⟨y, hy, hp⟩ := ih (j + 1) _ (by omega) (rd_set1 hS (by omega) hg)
        exact ⟨y, hy, fun post h => br_f q ⟨v1, v2, br_f (by rw [z1, z2]; exact t) (nm_e (nm_r (nI_1 j) (hp post h)))⟩⟩
  exact key 32 0 0 rfl (rd_set00 _)
theorem rd_ydiff {a b : Nat} {g : Nat → Bool} (ha : a < 12) (hb : b < 12) (ta' : th a ≠ 0) (tb' : th b ≠ 0) (hg : ∀ i, 4 ≤ i → i < 16 → g i = false) (hg1 : ∀ i, i < 20 → ce (20 * a + i) = ce (20 * b + i) → g (rd_cx i) = false) (hg2 : ∀ i, i < 20 → ¬ ce (20 * a + i) = ce (20 * b + i) → g (rd_cx i) = true) : ∃ y, rd_Set 32 y g ∧ ∀ post : Int32 → Prop, post y → wY_difference_5 post (nI a) (nI b) yl yp yc o fa fb th yk yq yn ce sa ro ta 21 0 0 := by
  have key : ∀ (d j : Nat) (x : Int32), j + d = 20 → rd_Set (rd_cx j) x g → ∃ y, rd_Set 32 y g ∧ ∀ post : Int32 → Prop, post y → wY_difference_5 post (nI a) (nI b) yl yp yc o fa fb th yk yq yn ce sa ro ta (d + 1) x (nI j) := by
    intro d
    induction d with
    | zero =>
      intro j x hj hS
      have e : j = 20 := by omega
      subst e
      exact ⟨x, hS, fun post h => br_t (nI_le (a := 20) (b := 20) (Nat.le_refl _) (by decide)) h⟩
    | succ d ih =>
      intro j x hj hS
      have q : ¬ (20 : Int32) ≤ nI j := nI_ge (b := 20) (by omega) (by decide)
      have v1 : vp_in (20 * nI a + nI j) 240 := pk_in (20 * a + j) 240 (by omega) (rd_y20 a j)
      have v2 : vp_in (20 * nI b + nI j) 240 := pk_in (20 * b + j) 240 (by omega) (rd_y20 b j)
      have z1 : (20 * nI a + nI j).toNatClampNeg = 20 * a + j := by rw [rd_y20, nI_clamp (by omega)]
      have z2 : (20 * nI b + nI j).toNatClampNeg = 20 * b + j := by rw [rd_y20, nI_clamp (by omega)]
      have hcx : rd_cx j < 32 := rd_cx_lt (by omega)
      by_cases t : ce (20 * a + j) = ce (20 * b + j)
      · have t' : ce (20 * nI a + nI j).toNatClampNeg = ce (20 * nI b + nI j).toNatClampNeg := by rw [z1, z2]; exact t
        obtain ⟨y, hy, hp⟩ := ih (j + 1) x (by omega) (rd_setn (rd_set0 hS (hg1 j (by omega) t)) hg)
        refine ⟨y, hy, fun post h => br_f q (rd_yk1 ha ta' (br_f (by decide) (rd_yk1 hb tb' (br_f (by decide) ?_))))⟩
        exact br_c (fun _ => ⟨v1, v2, br_t t' (nm_r (rd_or0 x) (nm_r (nI_1 j) (hp post h)))⟩) (fun _ => ⟨v1, v2, br_t t' (nm_r (rd_or0 x) (nm_r (nI_1 j) (hp post h)))⟩)
      · have t' : ¬ ce (20 * nI a + nI j).toNatClampNeg = ce (20 * nI b + nI j).toNatClampNeg := by rw [z1, z2]; exact t
        obtain ⟨y, hy, hp⟩ := ih (j + 1) _ (by omega) (rd_setn (rd_set1 hS hcx (hg2 j (by omega) t)) hg)
        refine ⟨y, hy, fun post h => br_f q (rd_yk1 ha ta' (br_f (by decide) (rd_yk1 hb tb' (br_f (by decide) ?_))))⟩
        by_cases e : j < 4
        · refine br_f (nI_ge (b := 4) e (by decide)) ⟨v1, v2, br_f t' (nm_r ?_ (nm_r (nI_1 j) (hp post h)))⟩
          rw [rd_cx_lo e]
        · refine br_t (nI_le (a := 4) (by omega) (by omega)) ⟨v1, v2, br_f t' (nm_r ?_ (nm_r (nI_1 j) (hp post h)))⟩
          have e3 : nI j + 12 = nI (rd_cx j) := (nI_add j 12).trans (congrArg nI (if_neg e).symm)
          rw [e3]
  exact key 20 0 0 rfl (rd_set00 _)
end
theorem i_vc_difference {k : Nat} {u : SX} {v : SY} (I : i_Rel k u v) (hk : k + 4 ≤ 2048) (v1 : Int32) (v2 : Int32) : wpX_difference (fun r => wpY_difference (fun r' => r' = r ∧ i_Rel (k + 4) u v) v v1 v2) u v1 v2 := by
  obtain ⟨xl, xi, ox, fx, gx, xk, xp, vv, sc, hh⟩ := u
  obtain ⟨yl, yp, yc, o, fa, fb, th, yk, yq, yn, ce, sa, ro, ta⟩ := v
  have J := i_up I
  obtain ⟨L, rfl, rfl, rfl, rfl, rfl, hL, hP, hM, hG, hK⟩ := I
  by_cases hk1 : rd_K th v1
  · obtain ⟨f, hf, rfl, hft⟩ := hk1
    obtain ⟨_, _, _, h4, _⟩ := hK f hf hft
    unfold wpX_difference
    refine rd_xk1 hM hf hft (br_f (by decide) ?_)
    by_cases hk2 : rd_K th v2
    · obtain ⟨e, he, rfl, het⟩ := hk2
      obtain ⟨_, _, _, i4, _⟩ := hK e he het
      obtain ⟨y, hy, hX⟩ := rd_xdiff (xl := nI L) (xi := xi) (o := o) (fa := fa) (fb := fb) (xk := xk) (xp := xp) (vv := vv) (sc := sc) (hh := hh) hf he
      obtain ⟨y', hy', hY⟩ := rd_ydiff (yl := nI L) (yp := yp) (yc := yc) (o := o) (fa := fa) (fb := fb) (th := th) (yk := yk) (yq := yq) (yn := yn) (ce := ce) (sa := sa) (ro := ro) (ta := ta) hf he hft het (g := fun i => decide (vv (32 * f + i) ≠ vv (32 * e + i))) (fun i a b => decide_eq_false (fun z => z ((hG f hf i a b).trans (hG e he i a b).symm))) (fun i hi z => decide_eq_false (fun z2 => z2 ((h4 i hi).trans (z.trans (i4 i hi).symm)))) (fun i hi z => decide_eq_true (fun z2 => z ((h4 i hi).symm.trans (z2.trans (i4 i hi)))))
      have ey : y' = y := rd_setU hy' hy
      refine rd_xk1 hM he het (br_f (by decide) ⟨33, hX _ ?_⟩)
      exact ⟨21, hY _ ⟨ey, J⟩⟩
    · refine rd_xk0 hM hk2 (br_t rfl ?_)
      exact ⟨1, br_f (by decide) (rd_yk1 hf hft (br_f (by decide) (rd_yk0 hk2 (br_t rfl ⟨rfl, J⟩))))⟩
  · unfold wpX_difference
    refine rd_xk0 hM hk1 (br_t rfl ?_)
    exact ⟨1, br_f (by decide) (rd_yk0 hk1 (br_t rfl ⟨rfl, J⟩))⟩
