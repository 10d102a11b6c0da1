/-! the stretch, both sides in step -/
def rd_Mom (k L : Nat) (xk xp vv sc hh yk yq yn ce sa : Nat → Int32) (m : Nat) : Prop :=
  xk m = yk m ∧ xp m = yq m ∧ (xk m = 2 → ∃ p : Nat, p < L ∧ xp m = nI p) ∧ rd_Cell vv m (fun i => ce (20 * m + i)) ∧ ∃ c, c ≤ 15 * k ∧ sc m = nI c ∧ yn m = nI c ∧ rd_Tail hh m c (fun j => sa (8 * m + j))
/-- one program; the mask and the flags name the same moments; each has on both sides one kind, place, row, count, and the last eight said; the row's gap holds 0 -/
def i_Rel (k : Nat) (u : SX) (v : SY) : Prop := match u, v with
  | (xl, xi, o, fa, fb, xk, xp, vv, sc, hh), (yl, _, _, o', fa', fb', th, yk, yq, yn, ce, sa, _, _) => ∃ L : Nat, xl = nI L ∧ yl = nI L ∧ o' = o ∧ fa' = fa ∧ fb' = fb ∧ L ≤ 16 ∧ rd_Prog L o fa fb ∧ rd_Mask xi th ∧ (∀ m, m < 12 → rd_Gap vv m) ∧ (∀ m, m < 12 → th m ≠ 0 → rd_Mom k L xk xp vv sc hh yk yq yn ce sa m)
section
variable {xl xi : Int32} {o fa fb xk xp vv sc hh : Nat → Int32} {yl yp yc : Int32} {th yk yq yn ce sa ro ta : Nat → Int32} {v0 s0 h0 : Nat → Int32} {n m L k : Nat}
theorem rd_mom_up {k' : Nat} (h : rd_Mom k L xk xp vv sc hh yk yq yn ce sa m) (hk : k ≤ k') : rd_Mom k' L xk xp vv sc hh yk yq yn ce sa m := by
  obtain ⟨a, b, c, d, q, hq, e⟩ := h
  exact ⟨a, b, c, d, q, by omega, e⟩
theorem rd_mom_fr {j : Nat} {a b c : Int32} {ce' sa' : Nat → Int32} (h : rd_Mom k L xk xp v0 s0 h0 yk yq yn ce sa j) (hj : j ≠ m) (f1 : rd_Fr 32 m vv v0) (f2 : rd_Fr 1 m sc s0) (f3 : rd_Fr 8 m hh h0) (f4 : rd_Fr 20 m ce' ce) (f5 : rd_Fr 8 m sa' sa) : rd_Mom k L (upd xk m a) (upd xp m b) vv sc hh (upd yk m a) (upd yq m b) (upd yn m c) ce' sa' j := by
  obtain ⟨h1, h2, h3, h4, q, hq, h5, h6, h7⟩ := h
  unfold rd_Mom
  rw [pk_un hj, pk_un hj, pk_un hj, pk_un hj, pk_un hj]
  refine ⟨h1, h2, h3, ?_, q, hq, ?_, h6, ?_⟩
  · intro i hi
    show vv (32 * j + rd_cx i) = ce' (20 * j + i)
    rw [rd_fr_cell f1 hj h4 i hi, f4 (20 * j + i) (by omega)]
  · rw [f2 j (by omega), h5]
  · intro i h8 hc
    show hh (8 * j + (q - 1 - i) % 8) = sa' (8 * j + i)
    rw [rd_fr_tail f3 hj h7 i h8 hc, f5 (8 * j + i) (by omega)]
theorem rd_eb0 {post : Int32 → Prop} {p c : Int32} (hp : p < 0 ∨ (¬ p < 0 ∧ ¬ p < xl)) (h : post 0) : wpX_endBefore post (xl, xi, o, fa, fb, xk, xp, vv, sc, hh) p c := by
  rcases hp with a | ⟨a, b⟩
  · exact br_t a h
  · exact br_f a (br_f b h)
theorem rd_eb1 {post : Int32 → Prop} {j : Nat} {c : Int32} (hj : j < 16) (hl : nI j < xl) (ho : o j = 9) (h : post 1) : wpX_endBefore post (xl, xi, o, fa, fb, xk, xp, vv, sc, hh) (nI j) c :=
  br_f (nI_pos (by omega)) (br_t hl ⟨vp_in_nI hj (by decide), br_t (by rw [nI_clamp (by omega)]; exact ho) h⟩)
theorem rd_eb2 {post : Int32 → Prop} {j : Nat} {c : Int32} (hj : j < 16) (hl : nI j < xl) (h9 : ¬ o j = 9) (ho : o j = 8) (h : post 2) : wpX_endBefore post (xl, xi, o, fa, fb, xk, xp, vv, sc, hh) (nI j) c :=
  br_f (nI_pos (by omega)) (br_t hl ⟨vp_in_nI hj (by decide), br_f (by rw [nI_clamp (by omega)]; exact h9) ⟨vp_in_nI hj (by decide), br_t (by rw [nI_clamp (by omega)]; exact ho) h⟩⟩)
theorem rd_eb3 {post : Int32 → Prop} {j t : Nat} (hj : j < 16) (hl : nI j < xl) (h9 : ¬ o j = 9) (h8 : ¬ o j = 8) (ht : 60 ≤ t) (ht2 : t < 2 ^ 31) (h : post 3) : wpX_endBefore post (xl, xi, o, fa, fb, xk, xp, vv, sc, hh) (nI j) (nI t) :=
  br_f (nI_pos (by omega)) (br_t hl ⟨vp_in_nI hj (by decide), br_f (by rw [nI_clamp (by omega)]; exact h9) ⟨vp_in_nI hj (by decide), br_f (by rw [nI_clamp (by omega)]; exact h8) (br_f (nI_nlt (b := 60) ht ht2) h)⟩⟩)
theorem rd_ebm {post : Int32 → Prop} {j t : Nat} (hj : j < 16) (hl : nI j < xl) (h9 : ¬ o j = 9) (h8 : ¬ o j = 8) (ht : t < 60) (h : post (-1)) : wpX_endBefore post (xl, xi, o, fa, fb, xk, xp, vv, sc, hh) (nI j) (nI t) :=
  br_f (nI_pos (by omega)) (br_t hl ⟨vp_in_nI hj (by decide), br_f (by rw [nI_clamp (by omega)]; exact h9) ⟨vp_in_nI hj (by decide), br_f (by rw [nI_clamp (by omega)]; exact h8) (br_t (nI_lt (b := 60) ht (by decide)) h)⟩⟩)
theorem rd_yend {post : SY → Prop} {x1 kd x4 : Int32} {f : Nat} (h : wY_stretch_142 post x1 kd yl yp yc o fa fb th yk yq yn ce sa ro ta) : wY_stretch_7 post x1 (f + 1) kd 0 x4 yl yp yc o fa fb th yk yq yn ce sa ro ta := by
  by_cases a : 60 < x4
  · exact br_t a h
  · exact br_f a (br_t rfl h)
theorem rd_pos (hL : L ≤ 16) (p : Int32) : (∃ kd : Int32, kd ≠ -1 ∧ (kd = 2 → ∃ q : Nat, q < L ∧ p = nI q) ∧ (∀ (vv sc hh : Nat → Int32) (Q : Int32 → Prop) (c : Int32), Q kd → wpX_endBefore Q (nI L, xi, o, fa, fb, xk, xp, vv, sc, hh) p c) ∧ (∀ (yc : Int32) (ro ta : Nat → Int32) (post : SY → Prop) (t f : Nat), t ≤ 60 → wY_stretch_142 post (nI m) kd (nI L) p yc o fa fb th yk yq yn ce sa ro ta → wY_stretch_7 post (nI m) (f + 2) 3 1 (nI t) (nI L) p yc o fa fb th yk yq yn ce sa ro ta)) ∨ (∃ j : Nat, j < L ∧ p = nI j ∧ ¬ o j = 9 ∧ ¬ o j = 8) := by
  have h60 : ∀ t : Nat, t ≤ 60 → ¬ (60 : Int32) < nI t := fun t ht => nI_nlt (a := 60) (b := t) ht (by decide)
  have n10 : ¬ (1 : Int32) = 0 := by decide
  by_cases a : p < 0
  · exact Or.inl ⟨0, by decide, fun y => absurd y (by decide), fun vv sc hh Q c hQ => rd_eb0 (Or.inl a) hQ, fun yc ro ta post t f ht h => br_f (h60 t ht) (br_f n10 (br_t a (nm_e (rd_yend h))))⟩
  · obtain ⟨j, hj, rfl⟩ := nI_of a
    by_cases b : j < L
    · have hl : nI j < nI L := nI_lt b (by omega)
      have z : (nI j).toNatClampNeg = j := nI_clamp hj
      have w : vp_in (nI j) 16 := vp_in_nI (by omega) (by decide)
      by_cases h9 : o j = 9
      · have h9' : o (nI j).toNatClampNeg = 9 := by rw [z]; exact h9
        exact Or.inl ⟨1, by decide, fun y => absurd y (by decide), fun vv sc hh Q c hQ => rd_eb1 (by omega) hl h9 hQ, fun yc ro ta post t f ht h => br_f (h60 t ht) (br_f n10 (br_f a (br_t hl ⟨w, br_t h9' ⟨w, br_t h9' (nm_e (rd_yend h))⟩⟩)))⟩
      · have h9' : ¬ o (nI j).toNatClampNeg = 9 := by rw [z]; exact h9
        by_cases h8 : o j = 8
        · have h8' : o (nI j).toNatClampNeg = 8 := by rw [z]; exact h8
          exact Or.inl ⟨2, by decide, fun _ => ⟨j, b, rfl⟩, fun vv sc hh Q c hQ => rd_eb2 (by omega) hl h9 h8 hQ, fun yc ro ta post t f ht h => br_f (h60 t ht) (br_f n10 (br_f a (br_t hl ⟨w, br_f h9' ⟨w, br_t h8' ⟨w, br_f h9' (nm_e (rd_yend h))⟩⟩⟩)))⟩
        · exact Or.inr ⟨j, b, rfl, h9, h8⟩
    · have hl : ¬ nI j < nI L := nI_nlt (by omega) hj
      exact Or.inl ⟨0, by decide, fun y => absurd y (by decide), fun vv sc hh Q c hQ => rd_eb0 (Or.inr ⟨a, hl⟩) hQ, fun yc ro ta post t f ht h => br_f (h60 t ht) (br_f n10 (br_f a (br_f hl (nm_e (rd_yend h)))))⟩
theorem rd_lock (hm : m < 12) (hL : L ≤ 16) (hP : rd_Prog L o fa fb) (hn : n + 60 < 2 ^ 30) : ∀ d t : Nat, t + d = 60 → ∀ (p : Int32) (vv sc hh : Nat → Int32) (yc : Int32) (ro ta : Nat → Int32), rd_Run (n + t) m v0 s0 h0 vv sc hh yc ro ta → ∃ (kd pf : Int32) (vv' sc' hh' : Nat → Int32) (yc' : Int32) (ro' ta' : Nat → Int32), (∀ (post : SX → Prop) (Q : Int32 → Prop), (∀ r, wX_runStretch_13 post (nI m) (d + 1) p r (nI (t + 1)) (nI L) xi o fa fb xk xp vv sc hh → Q r) → wX_runStretch_48 post (nI m) pf kd (nI L) xi o fa fb xk xp vv' sc' hh' → wpX_endBefore Q (nI L, xi, o, fa, fb, xk, xp, vv, sc, hh) p (nI t)) ∧ (∀ post : SY → Prop, wY_stretch_142 post (nI m) kd (nI L) pf yc' o fa fb th yk yq yn ce sa ro' ta' → wY_stretch_7 post (nI m) (d + 2) 3 1 (nI t) (nI L) p yc o fa fb th yk yq yn ce sa ro ta) ∧ rd_Run (n + 60) m v0 s0 h0 vv' sc' hh' yc' ro' ta' ∧ (kd = 2 → ∃ q : Nat, q < L ∧ pf = nI q) := by
  intro d
  induction d with
  | zero =>
    intro t ht p vv sc hh yc ro ta hR
    rcases rd_pos (xi := xi) (o := o) (fa := fa) (fb := fb) (xk := xk) (xp := xp) (th := th) (yk := yk) (yq := yq) (yn := yn) (ce := ce) (sa := sa) (m := m) hL p with ⟨kd, hk1, hk2, hX, hY⟩ | ⟨j, hj, rfl, h9, h8⟩
    · exact ⟨kd, p, vv, sc, hh, yc, ro, ta, fun post Q hQ h => hX vv sc hh Q _ (hQ kd (br_f hk1 h)), fun post h => hY yc ro ta post t 0 (by omega) h, rd_run_mono hR (by omega), hk2⟩
    · have z : (nI j).toNatClampNeg = j := nI_clamp (by omega)
      have w : vp_in (nI j) 16 := vp_in_nI (by omega) (by decide)
      have hl : nI j < nI L := nI_lt hj (by omega)
      have h9' : ¬ o (nI j).toNatClampNeg = 9 := by rw [z]; exact h9
      have h8' : ¬ o (nI j).toNatClampNeg = 8 := by rw [z]; exact h8
      refine ⟨3, nI j, vv, sc, hh, yc, ro, ta, fun post Q hQ h => rd_eb3 (by omega) hl h9 h8 (by omega) (by omega) (hQ 3 (br_f (by decide) h)), fun post h => ?_, rd_run_mono hR (by omega), fun y => absurd y (by decide)⟩
      exact br_f (nI_nlt (a := 60) (b := t) (by omega) (by decide)) (br_f (by decide) (br_f (nI_pos (by omega)) (br_t hl ⟨w, br_f h9' ⟨w, br_f h8' (br_t (nI_le (a := 60) (by omega) (by omega)) (nm_r (nI_1 t) (br_t (nI_lt (a := 60) (by omega) (by omega)) h)))⟩⟩)))
  | succ d ih =>
    intro t ht p vv sc hh yc ro ta hR
    rcases rd_pos (xi := xi) (o := o) (fa := fa) (fb := fb) (xk := xk) (xp := xp) (th := th) (yk := yk) (yq := yq) (yn := yn) (ce := ce) (sa := sa) (m := m) hL p with ⟨kd, hk1, hk2, hX, hY⟩ | ⟨j, hj, rfl, h9, h8⟩
    · exact ⟨kd, p, vv, sc, hh, yc, ro, ta, fun post Q hQ h => hX vv sc hh Q _ (hQ kd (br_f hk1 h)), fun post h => hY yc ro ta post t (d + 1) (by omega) h, rd_run_mono hR (by omega), hk2⟩
    · have z : (nI j).toNatClampNeg = j := nI_clamp (by omega)
      have w : vp_in (nI j) 16 := vp_in_nI (by omega) (by decide)
      have hl : nI j < nI L := nI_lt hj (by omega)
      have h9' : ¬ o (nI j).toNatClampNeg = 9 := by rw [z]; exact h9
      have h8' : ¬ o (nI j).toNatClampNeg = 8 := by rw [z]; exact h8
      obtain ⟨y, vv1, sc1, hh1, yc1, ro1, ta1, cX, cY, hR1⟩ := rd_carry (xl := nI L) (xi := xi) (o := o) (fa := fa) (fb := fb) (xk := xk) (xp := xp) (yl := nI L) (th := th) (yk := yk) (yq := yq) (yn := yn) (ce := ce) (sa := sa) hm (by omega : j < 16) (hP j hj) h9 h8 (by omega) hR
      obtain ⟨kd, pf, vv2, sc2, hh2, yc2, ro2, ta2, lX, lY, hR2, hk2⟩ := ih (t + 1) (by omega) y vv1 sc1 hh1 yc1 ro1 ta1 hR1
      refine ⟨kd, pf, vv2, sc2, hh2, yc2, ro2, ta2, fun post Q hQ h => rd_ebm (by omega) hl h9 h8 (by omega) (hQ (-1) ?_), fun post h => ?_, hR2, hk2⟩
      · refine br_t rfl (br_f (nI_nlt (a := 60) (b := t + 1) (by omega) (by decide)) (cX _ ?_))
        exact lX post _ (fun r hr => nm_r (nI_1 (t + 1)) hr) h
      · refine br_f (nI_nlt (a := 60) (b := t) (by omega) (by decide)) (br_f (by decide) (br_f (nI_pos (by omega)) (br_t hl ⟨w, br_f h9' ⟨w, br_f h8' (br_f (nI_ge (a := t) (b := 60) (by omega) (by decide)) ⟨w, w, w, ?_⟩)⟩⟩)))
        rw [z]
        exact cY _ (nm_r (nI_1 t) (lY post h))
theorem rd_stretch (hm : m < 12) (hL : L ≤ 16) (hP : rd_Prog L o fa fb) (hk : k + 4 ≤ 2048) (hM : rd_Mask xi th) (hG : ∀ j, j < 12 → rd_Gap v0 j) (hK : ∀ j, j < 12 → th j ≠ 0 → rd_Mom k L xk xp v0 s0 h0 yk yq yn ce sa j) (p : Int32) (hR : rd_Run (15 * k) m v0 s0 h0 vv sc hh yc ro ta) : ∃ (xi' : Int32) (xk' xp' vv' sc' hh' : Nat → Int32) (yp' yc' : Int32) (th' yk' yq' yn' ce' sa' ro' ta' : Nat → Int32), (∀ post : SX → Prop, post (nI L, xi', o, fa, fb, xk', xp', vv', sc', hh') → wpX_runStretch post (nI L, xi, o, fa, fb, xk, xp, vv, sc, hh) (nI m) p) ∧ (∀ post : SY → Prop, post (nI L, yp', yc', o, fa, fb, th', yk', yq', yn', ce', sa', ro', ta') → wpY_stretch post (nI L, p, yc, o, fa, fb, th, yk, yq, yn, ce, sa, ro, ta) (nI m)) ∧ i_Rel (k + 4) (nI L, xi', o, fa, fb, xk', xp', vv', sc', hh') (nI L, yp', yc', o, fa, fb, th', yk', yq', yn', ce', sa', ro', ta') := by
  obtain ⟨kd, pf, vv2, sc2, hh2, yc2, ro2, ta2, lX, lY, hR2, hk2⟩ := rd_lock (xi := xi) (xk := xk) (xp := xp) (th := th) (yk := yk) (yq := yq) (yn := yn) (ce := ce) (sa := sa) (v0 := v0) (s0 := s0) (h0 := h0) (n := 15 * k) hm hL hP (by omega) 60 0 rfl p vv sc hh yc ro ta hR
  obtain ⟨ce2, sa2, aY, b1, b2, f4, f5⟩ := rd_ylay (yl := nI L) (yp := pf) (yc := yc2) (o := o) (fa := fa) (fb := fb) (th := th) (yk := yk) (yq := yq) (yn := yn) (ce := ce) (sa := sa) (ro := ro2) (ta := ta2) hm
  have z : (nI m).toNatClampNeg = m := nI_clamp (by omega)
  have w : vp_in (nI m) 12 := vp_in_nI hm (by decide)
  refine ⟨xi ||| ((1 : Int32) <<< (nI m &&& 31)), upd xk m kd, upd xp m pf, vv2, sc2, hh2, pf, yc2, upd th m (vp_nar .boolean 1), upd yk m kd, upd yq m pf, upd yn m yc2, ce2, sa2, ro2, ta2, fun post h => ?_, fun post h => ?_, ?_⟩
  · refine lX post (fun r => ∃ n13 : Nat, wX_runStretch_13 post (nI m) n13 p r 1 (nI L) xi o fa fb xk xp vv sc hh) (fun r hr => ⟨61, hr⟩) ?_
    exact ⟨w, nm_r (by rw [z]) ⟨w, nm_r (by rw [z]) (nm_e h)⟩⟩
  · exact ⟨62, lY post (aY post kd h)⟩
  · obtain ⟨f1, f2, f3, g1, g2, c, hc, e1, e2, e3⟩ := hR2
    refine ⟨L, rfl, rfl, rfl, rfl, rfl, hL, hP, rd_mset hM hm rd_nar1, fun j hj => ?_, fun j hj ht => ?_⟩
    · by_cases e : j = m
      · rw [e]
        exact g1
      · exact rd_fr_gap f1 e (hG j hj)
    · by_cases e : j = m
      · subst e
        unfold rd_Mom
        rw [pk_us, pk_us, pk_us, pk_us, pk_us]
        exact ⟨rfl, rfl, hk2, fun i hi => (g2 i hi).trans (b1 i hi).symm, c, by omega, e1, e2, fun i h8 hi => (e3 i h8 hi).trans (b2 i h8).symm⟩
      · rw [pk_un e] at ht
        exact rd_mom_up (rd_mom_fr (hK j hj ht) e f1 f2 f3 f4 f5) (by omega)
end
