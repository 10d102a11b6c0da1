/-! small walks of both sides -/
theorem rd_x32 (m j : Nat) : nI m * 32 + nI j = nI (32 * m + j) := by
  have e : nI m * 32 = nI (m * 32) := pk_mul m 32
  rw [e, nI_add, Nat.mul_comm]
theorem rd_x8 (m j : Nat) : nI m * 8 + nI j = nI (8 * m + j) := by
  have e : nI m * 8 = nI (m * 8) := pk_mul m 8
  rw [e, nI_add, Nat.mul_comm]
theorem rd_y20 (m j : Nat) : 20 * nI m + nI j = nI (20 * m + j) := by
  have e : 20 * nI m = nI (20 * m) := pk_mul 20 m
  rw [e, nI_add]
theorem rd_y8 (m j : Nat) : 8 * nI m + nI j = nI (8 * m + j) := by
  have e : 8 * nI m = nI (8 * m) := pk_mul 8 m
  rw [e, nI_add]
theorem rd_and7 {c : Nat} (h : c < 2 ^ 31) : nI c &&& 7 = nI (c % 8) := pk_andN (by omega) 3 (by decide)
theorem rd_and3 {c : Nat} (h : c < 4) : nI c &&& 3 = nI c := (pk_andN (by omega) 2 (by decide)).trans (congrArg nI (Nat.mod_eq_of_lt h))
theorem rd_and15 {c : Nat} (h : c < 16) : nI c &&& 15 = nI c := (pk_andN (by omega) 4 (by decide)).trans (congrArg nI (Nat.mod_eq_of_lt h))
theorem rd_andE (x : Int32) : ∃ e : Nat, e < 16 ∧ x &&& 15 = nI e := pk_andE x 4 (by decide)
theorem rd_nar1 : ¬ vp_nar .boolean 1 = 0 := by decide
theorem rd_nar0 : vp_nar .boolean 0 = 0 := by decide
theorem rd_fill {P : Type} (w : P → Nat → Nat → (Nat → Int32) → Prop) (K : P → (Nat → Int32) → Prop) (N : Nat) (pl : Nat → Nat) (g : Nat → Int32) (A0 : Nat → Int32) (hi : ∀ i j, i < N → j < N → pl i = pl j → i = j) (hx : ∀ p n A, K p A → w p (n + 1) N A) (hs : ∀ p n j A, j < N → (∀ i, (∀ j', j' < N → i ≠ pl j') → A i = A0 i) → w p n (j + 1) (upd A (pl j) (g j)) → w p (n + 1) j A) : ∃ A', (∀ p, K p A' → w p (N + 1) 0 A0) ∧ (∀ j, j < N → A' (pl j) = g j) ∧ (∀ i, (∀ j, j < N → i ≠ pl j) → A' i = A0 i) := by
  have key : ∀ d j A, j + d = N → (∀ i, i < j → A (pl i) = g i) → (∀ i, (∀ j', j' < N → i ≠ pl j') → A i = A0 i) → ∃ A', (∀ p, K p A' → w p (d + 1) j A) ∧ (∀ j, j < N → A' (pl j) = g j) ∧ (∀ i, (∀ j, j < N → i ≠ pl j) → A' i = A0 i) := by
    intro d
    induction d with
    | zero =>
      intro j A hj h1 h2
      have e : j = N := by omega
      rw [e] at h1 ⊢
      exact ⟨A, fun p h => hx p 0 A h, h1, h2⟩
    | succ d ih =>
      intro j A hj h1 h2
      have hjN : j < N := by omega
      have h1' : ∀ i, i < j + 1 → upd A (pl j) (g j) (pl i) = g i := by
        intro i hi1
        by_cases e : i = j
        · subst e
          exact pk_us
        · rw [pk_un (fun z => e (hi i j (by omega) hjN z))]
          exact h1 i (by omega)
      have h2' : ∀ i, (∀ j', j' < N → i ≠ pl j') → upd A (pl j) (g j) i = A0 i := by
        intro i hi2
        rw [pk_un (hi2 j hjN)]
        exact h2 i hi2
      obtain ⟨A', a, b, c⟩ := ih (j + 1) _ (by omega) h1' h2'
      exact ⟨A', fun p h => hs p (d + 1) j A hjN h2 (a p h), b, c⟩
  exact key N 0 A0 (by omega) (fun i h => absurd h (Nat.not_lt_zero i)) (fun _ _ => rfl)
section
variable {xl xi : Int32} {o fa fb xk xp vv sc hh : Nat → Int32} {yl yp yc : Int32} {th yk yq yn ce sa ro ta : Nat → Int32}
theorem rd_xreg {post : Int32 → Prop} {x : Int32} (h0 : (¬ ∃ r : Nat, r < 4 ∧ x = nI r) → post 0) (h1 : ∀ r : Nat, r < 4 → x = nI r → post 1) : wpX_isRegister post x := by
  by_cases a : x < 0
  · refine br_t a (h0 ?_)
    rintro ⟨r, hr, rfl⟩
    exact nI_pos (by omega) a
  · obtain ⟨r, hr, rfl⟩ := nI_of a
    refine br_f a ?_
    by_cases b : r < 4
    · exact br_f (nI_ge (b := 4) b (by decide)) (h1 r b rfl)
    · refine br_t (nI_le (a := 4) (by omega) hr) (h0 ?_)
      rintro ⟨s, hs, e⟩
      rw [nI_eq hr (by omega)] at e
      omega
theorem rd_xins {post : Int32 → Prop} {a b c : Int32} (hy : rd_Ins a b c → post 1) (hn : ¬ rd_Ins a b c → post 0) : wpX_isInstruction post a b c := by
  by_cases a0 : a < 0
  · refine br_t a0 (hn ?_)
    rintro ⟨q, r, hq, hr, rfl, _, _⟩
    exact nI_pos (by omega) a0
  · obtain ⟨q, hq, rfl⟩ := nI_of a0
    refine br_f a0 ?_
    by_cases a9 : 9 < q
    · refine br_t (nI_lt (a := 9) a9 hq) (hn ?_)
      rintro ⟨q', r, hq', hr, ea, _, _⟩
      rw [nI_eq hq (by omega)] at ea
      omega
    · refine br_f (nI_nlt (a := 9) (b := q) (by omega) (by decide)) ?_
      refine rd_xreg (fun hb => br_t rfl (hn ?_)) (fun r hr eb => br_f (by decide) ?_)
      · rintro ⟨q', r, hq', hr, ea, eb, _⟩
        exact hb ⟨r, hr, eb⟩
      · subst eb
        by_cases q1 : q < 1
        · refine br_t (nI_lt (b := 1) q1 (by decide)) ?_
          show wX_isInstruction_34 post c 0
          exact br_t rfl (hy ⟨q, r, by omega, hr, rfl, rfl, fun z _ => absurd z (by omega)⟩)
        · refine br_f (nI_nlt (b := 1) (by omega) hq) ?_
          by_cases q4 : 4 < q
          · refine br_t (nI_lt (a := 4) q4 hq) ?_
            show wX_isInstruction_34 post c 0
            exact br_t rfl (hy ⟨q, r, by omega, hr, rfl, rfl, fun _ z => absurd z (by omega)⟩)
          · refine br_f (nI_nlt (a := 4) (b := q) (by omega) (by decide)) (br_f (by decide) ?_)
            refine rd_xreg (fun hc => br_t rfl (hn ?_)) (fun s hs ec => br_f (by decide) (hy ⟨q, r, by omega, hr, rfl, rfl, fun _ _ => ⟨s, hs, ec⟩⟩))
            rintro ⟨q', r', hq', hr', ea, eb, h⟩
            rw [nI_eq hq (by omega)] at ea
            exact hc (h (by omega) (by omega))
theorem rd_yins {post : Int32 → SY → Prop} {a b c : Int32} (hy : rd_Ins a b c → wY_emit_40 post a b c yl yp yc o fa fb th yk yq yn ce sa ro ta) (hn : ¬ rd_Ins a b c → post (-1) (yl, yp, yc, o, fa, fb, th, yk, yq, yn, ce, sa, ro, ta)) : wpY_emit post (yl, yp, yc, o, fa, fb, th, yk, yq, yn, ce, sa, ro, ta) a b c := by
  by_cases a0 : a < 0
  · refine br_t a0 (hn ?_)
    rintro ⟨q, r, hq, hr, rfl, _, _⟩
    exact nI_pos (by omega) a0
  · obtain ⟨q, hq, rfl⟩ := nI_of a0
    refine br_f a0 ?_
    by_cases a9 : 9 < q
    · refine br_t (nI_lt (a := 9) a9 hq) (hn ?_)
      rintro ⟨q', r, hq', hr, ea, _, _⟩
      rw [nI_eq hq (by omega)] at ea
      omega
    · refine br_f (nI_nlt (a := 9) (b := q) (by omega) (by decide)) ?_
      by_cases b0 : b < 0
      · refine br_t b0 (hn ?_)
        rintro ⟨q', r, hq', hr, _, rfl, _⟩
        exact nI_pos (by omega) b0
      · obtain ⟨r, hr, rfl⟩ := nI_of b0
        refine br_f b0 ?_
        by_cases b3 : 3 < r
        · refine br_t (nI_lt (a := 3) b3 hr) (hn ?_)
          rintro ⟨q', r', hq', hr', _, eb, _⟩
          rw [nI_eq hr (by omega)] at eb
          omega
        · refine br_f (nI_nlt (a := 3) (b := r) (by omega) (by decide)) ?_
          by_cases q1 : q < 1
          · exact br_t (nI_lt (b := 1) q1 (by decide)) (hy ⟨q, r, by omega, by omega, rfl, rfl, fun z _ => absurd z (by omega)⟩)
          · refine br_f (nI_nlt (b := 1) (by omega) hq) ?_
            by_cases q4 : 4 < q
            · exact br_t (nI_lt (a := 4) q4 hq) (hy ⟨q, r, by omega, by omega, rfl, rfl, fun _ z => absurd z (by omega)⟩)
            · refine br_f (nI_nlt (a := 4) (b := q) (by omega) (by decide)) ?_
              by_cases c0 : c < 0
              · refine br_t c0 (hn ?_)
                rintro ⟨q', r', hq', hr', ea, _, h⟩
                rw [nI_eq hq (by omega)] at ea
                obtain ⟨s, hs, rfl⟩ := h (by omega) (by omega)
                exact nI_pos (by omega) c0
              · obtain ⟨s, hs, rfl⟩ := nI_of c0
                refine br_f c0 ?_
                by_cases c3 : s ≤ 3
                · exact br_t (nI_le (b := 3) c3 (by decide)) (hy ⟨q, r, by omega, by omega, rfl, rfl, fun _ _ => ⟨s, by omega, rfl⟩⟩)
                · refine br_f (nI_ge (a := 3) (b := s) (by omega) hs) (hn ?_)
                  rintro ⟨q', r', hq', hr', ea, _, h⟩
                  rw [nI_eq hq (by omega)] at ea
                  obtain ⟨s', hs', es⟩ := h (by omega) (by omega)
                  rw [nI_eq hs (by omega)] at es
                  omega
theorem rd_ymom {post : Int32 → Prop} (hM : rd_Mask xi th) (h : post xi) : wpY_moments post (yl, yp, yc, o, fa, fb, th, yk, yq, yn, ce, sa, ro, ta) := by
  have key : ∀ d j x, j + d = 12 → rd_Set j x (fun i => decide (th i ≠ 0)) → wY_moments_4 post yl yp yc o fa fb th yk yq yn ce sa ro ta (d + 1) x (nI j) := by
    intro d
    induction d with
    | zero =>
      intro j x hj hS
      have e : j = 12 := by omega
      subst e
      have ex : x = xi := rd_setU hS hM
      rw [ex]
      exact br_t (nI_le (a := 12) (b := 12) (Nat.le_refl _) (by decide)) h
    | succ d ih =>
      intro j x hj hS
      refine br_f (nI_ge (b := 12) (by omega) (by decide)) ⟨vp_in_nI (by omega) (by decide), ?_⟩
      rw [nI_clamp (by omega)]
      by_cases z : th j = 0
      · refine br_t z (nm_r (rd_or0 x) (nm_r (nI_1 j) (ih (j + 1) x (by omega) (rd_set0 hS ?_))))
        show decide (th j ≠ 0) = false
        exact decide_eq_false (fun y => y z)
      · refine br_f z (nm_e (nm_r (nI_1 j) (ih (j + 1) _ (by omega) (rd_set1 hS (by omega) ?_))))
        show decide (th j ≠ 0) = true
        exact decide_eq_true z
  exact ⟨13, key 12 0 0 rfl (rd_set00 _)⟩
theorem rd_yforget : ∃ th', (∀ post : SY → Prop, post (yl, yp, yc, o, fa, fb, th', yk, yq, yn, ce, sa, ro, ta) → wpY_forgetAll post (yl, yp, yc, o, fa, fb, th, yk, yq, yn, ce, sa, ro, ta)) ∧ (∀ m, m < 12 → th' m = 0) := by
  obtain ⟨A', a, b, c⟩ := rd_fill (fun (post : SY → Prop) n j A => wY_forgetAll_2 post yl yp yc n (nI j) o fa fb A yk yq yn ce sa ro ta) (fun post A => post (yl, yp, yc, o, fa, fb, A, yk, yq, yn, ce, sa, ro, ta)) 12 (fun j => j) (fun _ => 0) th (fun i j _ _ h => h) (fun post n A h => br_t (nI_le (a := 12) (b := 12) (Nat.le_refl _) (by decide)) h) (fun post n j A hj _ h => br_f (nI_ge (b := 12) hj (by decide)) ⟨vp_in_nI hj (by decide), nm_r (by rw [nI_clamp (by omega), rd_nar0]) (nm_r (nI_1 j) h)⟩)
  exact ⟨A', fun post h => ⟨13, a post h⟩, b⟩
theorem rd_xblank {m : Nat} (hm : m < 12) : ∃ vv', (∀ post : SX → Prop, post (xl, xi, o, fa, fb, xk, xp, vv', upd sc m 0, hh) → wpX_blankMoment post (xl, xi, o, fa, fb, xk, xp, vv, sc, hh) (nI m)) ∧ (∀ i, i < 32 → vv' (32 * m + i) = 0) ∧ rd_Fr 32 m vv' vv := by
  obtain ⟨A', a, b, c⟩ := rd_fill (fun (post : SX → Prop) n j A => wX_blankMoment_2 post (nI m) xl xi n (nI j) o fa fb xk xp A sc hh) (fun post A => post (xl, xi, o, fa, fb, xk, xp, A, upd sc m 0, hh)) 32 (fun j => 32 * m + j) (fun _ => 0) vv (fun i j _ _ h => by omega) (fun post n A h => br_t (nI_le (a := 32) (b := 32) (Nat.le_refl _) (by decide)) ⟨vp_in_nI hm (by decide), nm_r (by rw [nI_clamp (by omega)]) h⟩) (fun post n j A hj _ h => br_f (nI_ge (b := 32) hj (by decide)) ⟨pk_in (32 * m + j) 384 (by omega) (rd_x32 m j), nm_r (by rw [rd_x32, nI_clamp (by omega)]) (nm_r (nI_1 j) h)⟩)
  exact ⟨A', fun post h => ⟨33, a post h⟩, b, fun j hj => c j (fun i hi z => by omega)⟩
theorem rd_xcopy {m f : Nat} (hm : m < 12) (hf : f < 12) (hn : f ≠ m) : ∃ vv' hh', (∀ post : SX → Prop, post (xl, xi, o, fa, fb, xk, xp, vv', upd sc m (sc f), hh') → wpX_copyMoment post (xl, xi, o, fa, fb, xk, xp, vv, sc, hh) (nI f) (nI m)) ∧ (∀ i, i < 32 → vv' (32 * m + i) = vv (32 * f + i)) ∧ (∀ i, i < 8 → hh' (8 * m + i) = hh (8 * f + i)) ∧ rd_Fr 32 m vv' vv ∧ rd_Fr 8 m hh' hh := by
  obtain ⟨A', a, b, c⟩ := rd_fill (fun (post : SX → Prop) n j A => wX_copyMoment_2 post (nI f) (nI m) xl xi n (nI j) o fa fb xk xp A sc hh) (fun post A => ∃ n38 : Nat, wX_copyMoment_38 post (nI f) (nI m) xl xi n38 0 o fa fb xk xp A sc hh) 32 (fun j => 32 * m + j) (fun j => vv (32 * f + j)) vv (fun i j _ _ h => by omega) (fun post n A h => br_t (nI_le (a := 32) (b := 32) (Nat.le_refl _) (by decide)) h) (fun post n j A hj hA h => br_f (nI_ge (b := 32) hj (by decide)) ⟨pk_in (32 * f + j) 384 (by omega) (rd_x32 f j), pk_in (32 * m + j) 384 (by omega) (rd_x32 m j), nm_r (by rw [rd_x32, rd_x32, nI_clamp (by omega), nI_clamp (by omega), hA (32 * f + j) (fun i hi z => by omega)]) (nm_r (nI_1 j) h)⟩)
  obtain ⟨B', a2, b2, c2⟩ := rd_fill (fun (post : SX → Prop) n j B => wX_copyMoment_38 post (nI f) (nI m) xl xi n (nI j) o fa fb xk xp A' sc B) (fun post B => post (xl, xi, o, fa, fb, xk, xp, A', upd sc m (sc f), B)) 8 (fun j => 8 * m + j) (fun j => hh (8 * f + j)) hh (fun i j _ _ h => by omega) (fun post n B h => br_t (nI_le (a := 8) (b := 8) (Nat.le_refl _) (by decide)) ⟨vp_in_nI hf (by decide), vp_in_nI hm (by decide), nm_r (by rw [nI_clamp (by omega), nI_clamp (by omega)]) h⟩) (fun post n j B hj hB h => br_f (nI_ge (b := 8) hj (by decide)) ⟨pk_in (8 * f + j) 96 (by omega) (rd_x8 f j), pk_in (8 * m + j) 96 (by omega) (rd_x8 m j), nm_r (by rw [rd_x8, rd_x8, nI_clamp (by omega), nI_clamp (by omega), hB (8 * f + j) (fun i hi z => by omega)]) (nm_r (nI_1 j) h)⟩)
  exact ⟨A', B', fun post h => ⟨33, a post ⟨9, a2 post h⟩⟩, b, b2, fun j hj => c j (fun i hi z => by omega), fun j hj => c2 j (fun i hi z => by omega)⟩
theorem rd_ytake {f : Nat} (hf : f < 12) : ∃ ro' ta', (∀ post : SY → Prop, post (yl, yq f, yn f, o, fa, fb, th, yk, yq, yn, ce, sa, ro', ta') → wpY_take post (yl, yp, yc, o, fa, fb, th, yk, yq, yn, ce, sa, ro, ta) (nI f)) ∧ (∀ i, i < 20 → ro' i = ce (20 * f + i)) ∧ (∀ i, i < 8 → ta' i = sa (8 * f + i)) := by
  obtain ⟨A', a, b, c⟩ := rd_fill (fun (post : SY → Prop) n j A => wY_take_22 post (nI f) yl (yq f) (yn f) n (nI j) o fa fb th yk yq yn ce sa A ta) (fun post A => ∃ n53 : Nat, wY_take_53 post (nI f) yl (yq f) (yn f) n53 0 o fa fb th yk yq yn ce sa A ta) 20 (fun j => j) (fun j => ce (20 * f + j)) ro (fun i j _ _ h => h) (fun post n A h => br_t (nI_le (a := 20) (b := 20) (Nat.le_refl _) (by decide)) h) (fun post n j A hj hA h => br_f (nI_ge (b := 20) hj (by decide)) ⟨pk_in (20 * f + j) 240 (by omega) (rd_y20 f j), vp_in_nI hj (by decide), nm_r (by rw [rd_y20, nI_clamp (by omega), nI_clamp (by omega)]) (nm_r (nI_1 j) h)⟩)
  obtain ⟨B', a2, b2, c2⟩ := rd_fill (fun (post : SY → Prop) n j B => wY_take_53 post (nI f) yl (yq f) (yn f) n (nI j) o fa fb th yk yq yn ce sa A' B) (fun post B => post (yl, yq f, yn f, o, fa, fb, th, yk, yq, yn, ce, sa, A', B)) 8 (fun j => j) (fun j => sa (8 * f + j)) ta (fun i j _ _ h => h) (fun post n B h => br_t (nI_le (a := 8) (b := 8) (Nat.le_refl _) (by decide)) h) (fun post n j B hj hB h => br_f (nI_ge (b := 8) hj (by decide)) ⟨pk_in (8 * f + j) 96 (by omega) (rd_y8 f j), vp_in_nI hj (by decide), nm_r (by rw [rd_y8, nI_clamp (by omega), nI_clamp (by omega)]) (nm_r (nI_1 j) h)⟩)
  have z : (nI f).toNatClampNeg = f := nI_clamp (by omega)
  exact ⟨A', B', fun post h => ⟨vp_in_nI hf (by decide), nm_r (by rw [z]) ⟨vp_in_nI hf (by decide), nm_r (by rw [z]) ⟨21, a post ⟨9, a2 post h⟩⟩⟩⟩, b, b2⟩
theorem rd_ylay {m : Nat} (hm : m < 12) : ∃ ce' sa', (∀ (post : SY → Prop) (kd : Int32), post (yl, yp, yc, o, fa, fb, upd th m (vp_nar .boolean 1), upd yk m kd, upd yq m yp, upd yn m yc, ce', sa', ro, ta) → wY_stretch_142 post (nI m) kd yl yp yc o fa fb th yk yq yn ce sa ro ta) ∧ (∀ i, i < 20 → ce' (20 * m + i) = ro i) ∧ (∀ i, i < 8 → sa' (8 * m + i) = ta i) ∧ rd_Fr 20 m ce' ce ∧ rd_Fr 8 m sa' sa := by
  obtain ⟨A', a, b, c⟩ := rd_fill (fun (p : (SY → Prop) × Int32) n j A => wY_stretch_179 p.1 (nI m) yl yp yc n (nI j) o fa fb (upd th m (vp_nar .boolean 1)) (upd yk m p.2) (upd yq m yp) (upd yn m yc) A sa ro ta) (fun p A => ∃ n214 : Nat, wY_stretch_214 p.1 (nI m) yl yp yc n214 0 o fa fb (upd th m (vp_nar .boolean 1)) (upd yk m p.2) (upd yq m yp) (upd yn m yc) A sa ro ta) 20 (fun j => 20 * m + j) (fun j => ro j) ce (fun i j _ _ h => by omega) (fun p n A h => br_t (nI_le (a := 20) (b := 20) (Nat.le_refl _) (by decide)) h) (fun p n j A hj hA h => br_f (nI_ge (b := 20) hj (by decide)) ⟨vp_in_nI hj (by decide), pk_in (20 * m + j) 240 (by omega) (rd_y20 m j), nm_r (by rw [rd_y20, nI_clamp (by omega), nI_clamp (by omega)]) (nm_r (nI_1 j) h)⟩)
  obtain ⟨B', a2, b2, c2⟩ := rd_fill (fun (p : (SY → Prop) × Int32) n j B => wY_stretch_214 p.1 (nI m) yl yp yc n (nI j) o fa fb (upd th m (vp_nar .boolean 1)) (upd yk m p.2) (upd yq m yp) (upd yn m yc) A' B ro ta) (fun p B => p.1 (yl, yp, yc, o, fa, fb, upd th m (vp_nar .boolean 1), upd yk m p.2, upd yq m yp, upd yn m yc, A', B, ro, ta)) 8 (fun j => 8 * m + j) (fun j => ta j) sa (fun i j _ _ h => by omega) (fun p n B h => br_t (nI_le (a := 8) (b := 8) (Nat.le_refl _) (by decide)) h) (fun p n j B hj hB h => br_f (nI_ge (b := 8) hj (by decide)) ⟨vp_in_nI hj (by decide), pk_in (8 * m + j) 96 (by omega) (rd_y8 m j), nm_r (by rw [rd_y8, nI_clamp (by omega), nI_clamp (by omega)]) (nm_r (nI_1 j) h)⟩)
  have z : (nI m).toNatClampNeg = m := nI_clamp (by omega)
  have v : vp_in (nI m) 12 := vp_in_nI hm (by decide)
  exact ⟨A', B', fun post kd h => ⟨v, nm_r (by rw [z]) ⟨v, nm_r (by rw [z]) ⟨v, nm_r (by rw [z]) ⟨v, nm_r (by rw [z]) ⟨21, a (post, kd) ⟨9, a2 (post, kd) h⟩⟩⟩⟩⟩⟩, b, b2, fun j hj => c j (fun i hi z => by omega), fun j hj => c2 j (fun i hi z => by omega)⟩
theorem rd_ysay {r : Nat} (hr : r < 20) {x4 : Int32} : ∃ ta', (∀ post : SY → Prop, post (yl, x4, yc + 1, o, fa, fb, th, yk, yq, yn, ce, sa, ro, ta') → wY_carryOut_191 post (nI r) x4 yl yp yc 8 7 o fa fb th yk yq yn ce sa ro ta) ∧ ta' 0 = ro r ∧ (∀ j, j < 7 → ta' (j + 1) = ta j) := by
  have key : ∀ d, d ≤ 7 → ∀ B : Nat → Int32, ∃ ta', (∀ post : SY → Prop, post (yl, x4, yc + 1, o, fa, fb, th, yk, yq, yn, ce, sa, ro, ta') → wY_carryOut_191 post (nI r) x4 yl yp yc (d + 1) (nI d) o fa fb th yk yq yn ce sa ro B) ∧ ta' 0 = ro r ∧ (∀ j, j < d → ta' (j + 1) = B j) ∧ (∀ j, d < j → ta' j = B j) := by
    intro d
    induction d with
    | zero =>
      intro _ B
      refine ⟨upd B 0 (ro r), fun post h => br_t (nI_le (a := 0) (b := 0) (Nat.le_refl _) (by decide)) ⟨vp_in_nI hr (by decide), nm_r (by rw [nI_clamp (by omega)]) (nm_e h)⟩, pk_us, fun j hj => absurd hj (Nat.not_lt_zero j), fun j hj => pk_un (by omega)⟩
    | succ d ih =>
      intro hd B
      obtain ⟨ta', a, b, c, e⟩ := ih (by omega) (upd B (d + 1) (B d))
      refine ⟨ta', fun post h => br_f (nI_nle (by omega) (by omega)) ⟨?_, vp_in_nI (by omega) (by decide), nm_r ?_ (nm_r (pk_m1 d) (a post h))⟩, b, ?_, ?_⟩
      · rw [nI_pred]
        exact vp_in_nI (by omega) (by decide)
      · rw [nI_pred, nI_clamp (by omega), nI_clamp (by omega)]
      · intro j hj
        by_cases z : j = d
        · subst z
          rw [e (j + 1) (by omega), pk_us]
        · rw [c j (by omega), pk_un (by omega)]
      · intro j hj
        rw [e j (by omega), pk_un (by omega)]
  obtain ⟨ta', a, b, c, _⟩ := key 7 (Nat.le_refl _) ta
  exact ⟨ta', a, b, c⟩
theorem rd_ystart0 {m : Nat} : ∃ ro' ta' : Nat → Int32, (∀ post : Int32 → SY → Prop, wpY_stretch (fun u => match u with | (yl, yp, yc, o, fa, fb, th, yk, yq, yn, ce, sa, ro, ta) => post (nI m) (yl, yp, yc, o, fa, fb, th, yk, yq, yn, ce, sa, ro, ta)) (yl, 0, 0, o, fa, fb, th, yk, yq, yn, ce, sa, ro', ta') (nI m) → wY_start_24 post (nI m) yl 0 0 21 0 o fa fb th yk yq yn ce sa ro ta) ∧ (∀ i, i < 20 → ro' i = 0) := by
  have key : ∀ (d j : Nat) (A B : Nat → Int32), j + d = 20 → (∀ i, i < j → A i = 0) → ∃ ro' ta' : Nat → Int32, (∀ post : Int32 → SY → Prop, wpY_stretch (fun u => match u with | (yl, yp, yc, o, fa, fb, th, yk, yq, yn, ce, sa, ro, ta) => post (nI m) (yl, yp, yc, o, fa, fb, th, yk, yq, yn, ce, sa, ro, ta)) (yl, 0, 0, o, fa, fb, th, yk, yq, yn, ce, sa, ro', ta') (nI m) → wY_start_24 post (nI m) yl 0 0 (d + 1) (nI j) o fa fb th yk yq yn ce sa A B) ∧ (∀ i, i < 20 → ro' i = 0) := by
    intro d
    induction d with
    | zero =>
      intro j A B hj hA
      have e : j = 20 := by omega
      subst e
      exact ⟨A, B, fun post h => br_t (nI_le (a := 20) (b := 20) (Nat.le_refl _) (by decide)) h, hA⟩
    | succ d ih =>
      intro j A B hj hA
      have hA' : ∀ i, i < j + 1 → upd A j 0 i = 0 := by
        intro i hi
        by_cases z : i = j
        · subst z
          exact pk_us
        · rw [pk_un z]
          exact hA i (by omega)
      obtain ⟨ro', ta', a, b⟩ := ih (j + 1) (upd A j 0) (upd B (nI j &&& 7).toNatClampNeg 0) (by omega) hA'
      refine ⟨ro', ta', fun post h => br_f (nI_ge (b := 20) (by omega) (by decide)) ⟨vp_in_nI (by omega) (by decide), nm_r (by rw [nI_clamp (by omega)]) ⟨?_, nm_e (nm_r (nI_1 j) (a post h))⟩⟩, b⟩
      rw [rd_and7 (by omega)]
      exact vp_in_nI (Nat.mod_lt _ (by decide)) (by decide)
  exact key 20 0 ro ta rfl (fun i hi => absurd hi (Nat.not_lt_zero i))
theorem rd_free (hM : rd_Mask xi th) : (∃ m, m < 12 ∧ th m = 0 ∧ (∀ post : Int32 → Prop, post (nI m) → wpX_leastFree post (xl, xi, o, fa, fb, xk, xp, vv, sc, hh)) ∧ (∀ post : Int32 → Prop, post (nI m) → wpY_room post (yl, yp, yc, o, fa, fb, th, yk, yq, yn, ce, sa, ro, ta))) ∨ ((∀ post : Int32 → Prop, post (-2) → wpX_leastFree post (xl, xi, o, fa, fb, xk, xp, vv, sc, hh)) ∧ (∀ post : Int32 → Prop, post (-2) → wpY_room post (yl, yp, yc, o, fa, fb, th, yk, yq, yn, ce, sa, ro, ta))) := by
  have key : ∀ d j, j + d = 12 → (∃ m, m < 12 ∧ th m = 0 ∧ (∀ post : Int32 → Prop, post (nI m) → wX_leastFree_2 post xl xi o fa fb xk xp vv sc hh (d + 1) (nI j)) ∧ (∀ post : Int32 → Prop, post (nI m) → wY_room_2 post yl yp yc o fa fb th yk yq yn ce sa ro ta (d + 1) (nI j))) ∨ ((∀ post : Int32 → Prop, post (-2) → wX_leastFree_2 post xl xi o fa fb xk xp vv sc hh (d + 1) (nI j)) ∧ (∀ post : Int32 → Prop, post (-2) → wY_room_2 post yl yp yc o fa fb th yk yq yn ce sa ro ta (d + 1) (nI j))) := by
    intro d
    induction d with
    | zero =>
      intro j hj
      have e : j = 12 := by omega
      subst e
      have q : (12 : Int32) ≤ nI 12 := nI_le (a := 12) (b := 12) (Nat.le_refl _) (by decide)
      exact Or.inr ⟨fun post h => br_t q h, fun post h => br_t q h⟩
    | succ d ih =>
      intro j hj
      have q : ¬ (12 : Int32) ≤ nI j := nI_ge (b := 12) (by omega) (by decide)
      have w : vp_in (nI j) 12 := vp_in_nI (by omega) (by decide)
      have z : (nI j).toNatClampNeg = j := nI_clamp (by omega)
      by_cases t : th j = 0
      · refine Or.inl ⟨j, by omega, t, fun post h => br_f q (br_t ((rd_mk hM (by omega)).mpr t) h), fun post h => br_f q ⟨w, br_t (by rw [z]; exact t) h⟩⟩
      · have t1 : ¬ (xi &&& ((1 : Int32) <<< (nI j &&& 31))) = 0 := fun y => t ((rd_mk hM (by omega)).mp y)
        have t2 : ¬ th (nI j).toNatClampNeg = 0 := by rw [z]; exact t
        rcases ih (j + 1) (by omega) with ⟨m, hm, hm0, a, b⟩ | ⟨a, b⟩
        · exact Or.inl ⟨m, hm, hm0, fun post h => br_f q (br_f t1 (nm_r (nI_1 j) (a post h))), fun post h => br_f q ⟨w, br_f t2 (nm_r (nI_1 j) (b post h))⟩⟩
        · exact Or.inr ⟨fun post h => br_f q (br_f t1 (nm_r (nI_1 j) (a post h))), fun post h => br_f q ⟨w, br_f t2 (nm_r (nI_1 j) (b post h))⟩⟩
  rcases key 12 0 rfl with ⟨m, hm, hm0, a, b⟩ | ⟨a, b⟩
  · exact Or.inl ⟨m, hm, hm0, fun post h => ⟨13, a post h⟩, fun post h => ⟨13, b post h⟩⟩
  · exact Or.inr ⟨fun post h => ⟨13, a post h⟩, fun post h => ⟨13, b post h⟩⟩
/-- x names a moment -/
def rd_K (th : Nat → Int32) (x : Int32) : Prop := ∃ m : Nat, m < 12 ∧ x = nI m ∧ th m ≠ 0
theorem rd_xk1 {post : Int32 → Prop} {m : Nat} (hM : rd_Mask xi th) (hm : m < 12) (ht : th m ≠ 0) (h : post 1) : wpX_isKept post (xl, xi, o, fa, fb, xk, xp, vv, sc, hh) (nI m) :=
  br_f (nI_pos (by omega)) (br_f (nI_ge (b := 12) hm (by decide)) (br_f (fun y => ht ((rd_mk hM hm).mp y)) h))
theorem rd_xk0 {post : Int32 → Prop} {x : Int32} (hM : rd_Mask xi th) (hn : ¬ rd_K th x) (h : post 0) : wpX_isKept post (xl, xi, o, fa, fb, xk, xp, vv, sc, hh) x := by
  by_cases a : x < 0
  · exact br_t a h
  · obtain ⟨m, hm, rfl⟩ := nI_of a
    refine br_f a ?_
    by_cases b : m < 12
    · refine br_f (nI_ge (b := 12) b (by decide)) (br_t ((rd_mk hM b).mpr ?_) h)
      exact Decidable.not_not.mp (fun z => hn ⟨m, b, rfl, z⟩)
    · exact br_t (nI_le (a := 12) (by omega) hm) h
theorem rd_yk1 {post : Int32 → Prop} {m : Nat} (hm : m < 12) (ht : th m ≠ 0) (h : post 1) : wpY_kept post (yl, yp, yc, o, fa, fb, th, yk, yq, yn, ce, sa, ro, ta) (nI m) :=
  br_f (nI_pos (by omega)) (br_f (nI_ge (b := 12) hm (by decide)) ⟨vp_in_nI hm (by decide), br_f (by rw [nI_clamp (by omega)]; exact ht) h⟩)
theorem rd_yk0 {post : Int32 → Prop} {x : Int32} (hn : ¬ rd_K th x) (h : post 0) : wpY_kept post (yl, yp, yc, o, fa, fb, th, yk, yq, yn, ce, sa, ro, ta) x := by
  by_cases a : x < 0
  · exact br_t a h
  · obtain ⟨m, hm, rfl⟩ := nI_of a
    refine br_f a ?_
    by_cases b : m < 12
    · refine br_f (nI_ge (b := 12) b (by decide)) ⟨vp_in_nI b (by decide), br_t ?_ h⟩
      rw [nI_clamp hm]
      exact Decidable.not_not.mp (fun z => hn ⟨m, b, rfl, z⟩)
    · exact br_t (nI_le (a := 12) (by omega) hm) h
theorem rd_yi1 {post : Int32 → Prop} {m : Nat} {q : Int32} (hm : m < 12) (ht : th m ≠ 0) (hq : yk m = q) (h : post 1) : wpY_is post (yl, yp, yc, o, fa, fb, th, yk, yq, yn, ce, sa, ro, ta) (nI m) q :=
  br_f (nI_pos (by omega)) (br_f (nI_ge (b := 12) hm (by decide)) ⟨vp_in_nI hm (by decide), br_f (by rw [nI_clamp (by omega)]; exact ht) ⟨vp_in_nI hm (by decide), br_t (by rw [nI_clamp (by omega)]; exact hq) h⟩⟩)
theorem rd_yi2 {post : Int32 → Prop} {m : Nat} {q : Int32} (hm : m < 12) (ht : th m ≠ 0) (hq : ¬ yk m = q) (h : post 0) : wpY_is post (yl, yp, yc, o, fa, fb, th, yk, yq, yn, ce, sa, ro, ta) (nI m) q :=
  br_f (nI_pos (by omega)) (br_f (nI_ge (b := 12) hm (by decide)) ⟨vp_in_nI hm (by decide), br_f (by rw [nI_clamp (by omega)]; exact ht) ⟨vp_in_nI hm (by decide), br_f (by rw [nI_clamp (by omega)]; exact hq) h⟩⟩)
theorem rd_yi0 {post : Int32 → Prop} {x q : Int32} (hn : ¬ rd_K th x) (h : post 0) : wpY_is post (yl, yp, yc, o, fa, fb, th, yk, yq, yn, ce, sa, ro, ta) x q := by
  by_cases a : x < 0
  · exact br_t a h
  · obtain ⟨m, hm, rfl⟩ := nI_of a
    refine br_f a ?_
    by_cases b : m < 12
    · refine br_f (nI_ge (b := 12) b (by decide)) ⟨vp_in_nI b (by decide), br_t ?_ h⟩
      rw [nI_clamp hm]
      exact Decidable.not_not.mp (fun z => hn ⟨m, b, rfl, z⟩)
    · exact br_t (nI_le (a := 12) (by omega) hm) h
end
