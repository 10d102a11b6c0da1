/-! one instruction, on both sides -/
/-- a run in the row of m, on both sides -/
def rd_Run (n m : Nat) (v0 s0 h0 vv sc hh : Nat → Int32) (yc : Int32) (ro ta : Nat → Int32) : Prop :=
  rd_Fr 32 m vv v0 ∧ rd_Fr 1 m sc s0 ∧ rd_Fr 8 m hh h0 ∧ rd_Gap vv m ∧ rd_Cell vv m ro ∧ ∃ c, c ≤ n ∧ sc m = nI c ∧ yc = nI c ∧ rd_Tail hh m c ta
section
variable {xl xi : Int32} {o fa fb xk xp vv sc hh : Nat → Int32} {yl yp yc : Int32} {th yk yq yn ce sa ro ta : Nat → Int32} {v0 s0 h0 : Nat → Int32} {n m : Nat}
theorem rd_run_mono {n' : Nat} (h : rd_Run n m v0 s0 h0 vv sc hh yc ro ta) (hn : n ≤ n') : rd_Run n' m v0 s0 h0 vv sc hh yc ro ta := by
  obtain ⟨a, b, c, d, e, q, hq, f⟩ := h
  exact ⟨a, b, c, d, e, q, by omega, f⟩
theorem rd_run_u {j : Nat} (h : rd_Run n m v0 s0 h0 vv sc hh yc ro ta) (hj : j < 20) (x : Int32) : rd_Run n m v0 s0 h0 (upd vv (32 * m + rd_cx j) x) sc hh yc (upd ro j x) ta := by
  obtain ⟨a, b, c, d, e, f⟩ := h
  have hc := rd_cx_lt hj
  exact ⟨rd_fr_u a (by omega) (by omega), b, c, rd_gap_u d, rd_cell_u e, f⟩
theorem rd_run_s {c : Nat} {x : Int32} {ta' : Nat → Int32} (h : rd_Run n m v0 s0 h0 vv sc hh yc ro ta) (hn : n < 2 ^ 30) (hc : sc m = nI c) (hcn : c ≤ n) (h0' : ta' 0 = x) (hs : ∀ j, j < 7 → ta' (j + 1) = ta j) : rd_Run (n + 1) m v0 s0 h0 vv (upd sc m (nI (c + 1))) (upd hh (8 * m + c % 8) x) (yc + 1) ro ta' := by
  obtain ⟨a, b, e, d, f, q, hq, g1, g2, g3⟩ := h
  rw [hc, nI_eq (by omega) (by omega)] at g1
  subst g1
  refine ⟨a, rd_fr_u b (by omega) (by omega), rd_fr_u e (by omega) (by omega), d, f, c + 1, by omega, pk_us, ?_, rd_tail_s g3 h0' hs⟩
  rw [g2, nI_1]
theorem rd_xsay {c : Nat} {x : Int32} {post : SX → Prop} (hm : m < 12) (hc : sc m = nI c) (hcn : c < 2 ^ 30) (h : post (xl, xi, o, fa, fb, xk, xp, vv, upd sc m (nI (c + 1)), upd hh (8 * m + c % 8) x)) : wpX_say post (xl, xi, o, fa, fb, xk, xp, vv, sc, hh) (nI m) x := by
  have z : (nI m).toNatClampNeg = m := nI_clamp (by omega)
  have w : vp_in (nI m) 12 := vp_in_nI hm (by decide)
  have e : nI m * 8 + (sc (nI m).toNatClampNeg &&& 7) = nI (8 * m + c % 8) := by rw [z, hc, rd_and7 (by omega), rd_x8]
  refine ⟨w, ?_, nm_r ?_ ⟨w, w, nm_r ?_ h⟩⟩
  · rw [e]
    exact vp_in_nI (by omega) (by decide)
  · rw [e, nI_clamp (by omega)]
  · rw [z, hc, nI_1]
theorem rd_xw0 {p r : Nat} {post : Int32 → SX → Prop} (hm : m < 12) (hp : p < 16) (hr : r < 4) (ho : o p = 0) (hf : fa p = nI r)  (h : post (nI (p + 1)) (xl, xi, o, fa, fb, xk, xp, upd vv (32 * m + rd_cx r) (fb p), sc, hh)) : wpX_carryOut post (xl, xi, o, fa, fb, xk, xp, vv, sc, hh) (nI m) (nI p) := by
  have z : (nI p).toNatClampNeg = p := nI_clamp (by omega)
  have wp : vp_in (nI p) 16 := vp_in_nI hp (by decide)
  have v4 : vp_in (nI (32 * m + r)) 384 := vp_in_nI (by omega) (by decide)
  have z4 : (nI (32 * m + r)).toNatClampNeg = 32 * m + rd_cx r := by rw [nI_clamp (by omega), rd_cx_lo hr]
  have e3 : nI m * 32 = nI (32 * m) := by rw [Nat.mul_comm 32 m]; exact pk_mul m 32
  have e4 : nI (32 * m) + fa (nI p).toNatClampNeg = nI (32 * m + r) := by rw [z, hf, nI_add]
  exact nm_r e3 ⟨wp, nm_r e4 ⟨wp, nm_r (e' := fb p) (by rw [z]) (nm_r (nI_1 p) ⟨wp, nm_r (e' := 0) (by rw [z, ho]) (br_f (by decide) (br_f (by decide) (br_t rfl ⟨v4, nm_r (by rw [z4]) h⟩)))⟩)⟩⟩
theorem rd_xw1 {p r : Nat} {post : Int32 → SX → Prop} (hm : m < 12) (hp : p < 16) (hr : r < 4) (ho : o p = 1) (hf : fa p = nI r) {s : Nat} (hs : s < 4) (hb : fb p = nI s) (hC : rd_Cell vv m ro) (h : post (nI (p + 1)) (xl, xi, o, fa, fb, xk, xp, upd vv (32 * m + rd_cx r) (ro r + ro s), sc, hh)) : wpX_carryOut post (xl, xi, o, fa, fb, xk, xp, vv, sc, hh) (nI m) (nI p) := by
  have z : (nI p).toNatClampNeg = p := nI_clamp (by omega)
  have wp : vp_in (nI p) 16 := vp_in_nI hp (by decide)
  have v4 : vp_in (nI (32 * m + r)) 384 := vp_in_nI (by omega) (by decide)
  have z4 : (nI (32 * m + r)).toNatClampNeg = 32 * m + rd_cx r := by rw [nI_clamp (by omega), rd_cx_lo hr]
  have e3 : nI m * 32 = nI (32 * m) := by rw [Nat.mul_comm 32 m]; exact pk_mul m 32
  have e4 : nI (32 * m) + fa (nI p).toNatClampNeg = nI (32 * m + r) := by rw [z, hf, nI_add]
  have vb : vp_in (nI (32 * m) + nI s) 384 := pk_in (32 * m + s) 384 (by omega) (nI_add _ _)
  have zb : vv (nI (32 * m) + nI s).toNatClampNeg = ro s := by rw [nI_add, nI_clamp (by omega), ← hC s (by omega), rd_cx_lo hs]
  have zr : vv (nI (32 * m + r)).toNatClampNeg = ro r := by rw [z4, hC r (by omega)]
  exact nm_r e3 ⟨wp, nm_r e4 ⟨wp, nm_r (e' := nI s) (by rw [z, hb]) (nm_r (nI_1 p) ⟨wp, nm_r (e' := 1) (by rw [z, ho]) (br_f (by decide) (br_f (by decide) (br_f (by decide) (br_t rfl ⟨v4, vb, v4, nm_r (by rw [zr, zb, z4]) h⟩))))⟩)⟩⟩
theorem rd_xw2 {p r : Nat} {post : Int32 → SX → Prop} (hm : m < 12) (hp : p < 16) (hr : r < 4) (ho : o p = 2) (hf : fa p = nI r) {s : Nat} (hs : s < 4) (hb : fb p = nI s) (hC : rd_Cell vv m ro) (h : post (nI (p + 1)) (xl, xi, o, fa, fb, xk, xp, upd vv (32 * m + rd_cx r) (ro r - ro s), sc, hh)) : wpX_carryOut post (xl, xi, o, fa, fb, xk, xp, vv, sc, hh) (nI m) (nI p) := by
  have z : (nI p).toNatClampNeg = p := nI_clamp (by omega)
  have wp : vp_in (nI p) 16 := vp_in_nI hp (by decide)
  have v4 : vp_in (nI (32 * m + r)) 384 := vp_in_nI (by omega) (by decide)
  have z4 : (nI (32 * m + r)).toNatClampNeg = 32 * m + rd_cx r := by rw [nI_clamp (by omega), rd_cx_lo hr]
  have e3 : nI m * 32 = nI (32 * m) := by rw [Nat.mul_comm 32 m]; exact pk_mul m 32
  have e4 : nI (32 * m) + fa (nI p).toNatClampNeg = nI (32 * m + r) := by rw [z, hf, nI_add]
  have vb : vp_in (nI (32 * m) + nI s) 384 := pk_in (32 * m + s) 384 (by omega) (nI_add _ _)
  have zb : vv (nI (32 * m) + nI s).toNatClampNeg = ro s := by rw [nI_add, nI_clamp (by omega), ← hC s (by omega), rd_cx_lo hs]
  have zr : vv (nI (32 * m + r)).toNatClampNeg = ro r := by rw [z4, hC r (by omega)]
  exact nm_r e3 ⟨wp, nm_r e4 ⟨wp, nm_r (e' := nI s) (by rw [z, hb]) (nm_r (nI_1 p) ⟨wp, nm_r (e' := 2) (by rw [z, ho]) (br_f (by decide) (br_f (by decide) (br_f (by decide) (br_f (by decide) (br_t rfl ⟨v4, vb, v4, nm_r (by rw [zr, zb, z4]) h⟩)))))⟩)⟩⟩
theorem rd_xw3 {p r : Nat} {post : Int32 → SX → Prop} (hm : m < 12) (hp : p < 16) (hr : r < 4) (ho : o p = 3) (hf : fa p = nI r) {s : Nat} (hs : s < 4) (hb : fb p = nI s) (hC : rd_Cell vv m ro) {e : Nat} (he : e < 16) (hee : ro s &&& 15 = nI e) (h : post (nI (p + 1)) (xl, xi, o, fa, fb, xk, xp, upd vv (32 * m + rd_cx r) (ro (4 + e)), sc, hh)) : wpX_carryOut post (xl, xi, o, fa, fb, xk, xp, vv, sc, hh) (nI m) (nI p) := by
  have z : (nI p).toNatClampNeg = p := nI_clamp (by omega)
  have wp : vp_in (nI p) 16 := vp_in_nI hp (by decide)
  have v4 : vp_in (nI (32 * m + r)) 384 := vp_in_nI (by omega) (by decide)
  have z4 : (nI (32 * m + r)).toNatClampNeg = 32 * m + rd_cx r := by rw [nI_clamp (by omega), rd_cx_lo hr]
  have e3 : nI m * 32 = nI (32 * m) := by rw [Nat.mul_comm 32 m]; exact pk_mul m 32
  have e4 : nI (32 * m) + fa (nI p).toNatClampNeg = nI (32 * m + r) := by rw [z, hf, nI_add]
  have vb : vp_in (nI (32 * m) + nI s) 384 := pk_in (32 * m + s) 384 (by omega) (nI_add _ _)
  have zb : vv (nI (32 * m) + nI s).toNatClampNeg = ro s := by rw [nI_add, nI_clamp (by omega), ← hC s (by omega), rd_cx_lo hs]
  have ee : (nI (32 * m) + 16) + (vv (nI (32 * m) + nI s).toNatClampNeg &&& 15) = nI (32 * m + (16 + e)) := by
    rw [zb, hee]
    show nI (32 * m) + nI 16 + nI e = _
    rw [nI_add, nI_add, Nat.add_assoc]
  have ze : (nI (32 * m + (16 + e))).toNatClampNeg = 32 * m + rd_cx (4 + e) := by rw [nI_clamp (by omega), rd_cx_hi]
  have vc : vp_in ((nI (32 * m) + 16) + (vv (nI (32 * m) + nI s).toNatClampNeg &&& 15)) 384 := by
    rw [ee]
    exact vp_in_nI (by omega) (by decide)
  exact nm_r e3 ⟨wp, nm_r e4 ⟨wp, nm_r (e' := nI s) (by rw [z, hb]) (nm_r (nI_1 p) ⟨wp, nm_r (e' := 3) (by rw [z, ho]) (br_f (by decide) (br_f (by decide) (br_f (by decide) (br_f (by decide) (br_f (by decide) (br_t rfl ⟨vb, vc, v4, nm_r (by rw [ee, ze, z4, hC (4 + e) (by omega)]) h⟩))))))⟩)⟩⟩
theorem rd_xw4 {p r : Nat} {post : Int32 → SX → Prop} (hm : m < 12) (hp : p < 16) (hr : r < 4) (ho : o p = 4) (hf : fa p = nI r) {s : Nat} (hs : s < 4) (hb : fb p = nI s) (hC : rd_Cell vv m ro) {e : Nat} (he : e < 16) (hee : ro s &&& 15 = nI e) (h : post (nI (p + 1)) (xl, xi, o, fa, fb, xk, xp, upd vv (32 * m + rd_cx (4 + e)) (ro r), sc, hh)) : wpX_carryOut post (xl, xi, o, fa, fb, xk, xp, vv, sc, hh) (nI m) (nI p) := by
  have z : (nI p).toNatClampNeg = p := nI_clamp (by omega)
  have wp : vp_in (nI p) 16 := vp_in_nI hp (by decide)
  have v4 : vp_in (nI (32 * m + r)) 384 := vp_in_nI (by omega) (by decide)
  have z4 : (nI (32 * m + r)).toNatClampNeg = 32 * m + rd_cx r := by rw [nI_clamp (by omega), rd_cx_lo hr]
  have e3 : nI m * 32 = nI (32 * m) := by rw [Nat.mul_comm 32 m]; exact pk_mul m 32
  have e4 : nI (32 * m) + fa (nI p).toNatClampNeg = nI (32 * m + r) := by rw [z, hf, nI_add]
  have vb : vp_in (nI (32 * m) + nI s) 384 := pk_in (32 * m + s) 384 (by omega) (nI_add _ _)
  have zb : vv (nI (32 * m) + nI s).toNatClampNeg = ro s := by rw [nI_add, nI_clamp (by omega), ← hC s (by omega), rd_cx_lo hs]
  have zr : vv (nI (32 * m + r)).toNatClampNeg = ro r := by rw [z4, hC r (by omega)]
  have ee : (nI (32 * m) + 16) + (vv (nI (32 * m) + nI s).toNatClampNeg &&& 15) = nI (32 * m + (16 + e)) := by
    rw [zb, hee]
    show nI (32 * m) + nI 16 + nI e = _
    rw [nI_add, nI_add, Nat.add_assoc]
  have ze : (nI (32 * m + (16 + e))).toNatClampNeg = 32 * m + rd_cx (4 + e) := by rw [nI_clamp (by omega), rd_cx_hi]
  have vc : vp_in ((nI (32 * m) + 16) + (vv (nI (32 * m) + nI s).toNatClampNeg &&& 15)) 384 := by
    rw [ee]
    exact vp_in_nI (by omega) (by decide)
  exact nm_r e3 ⟨wp, nm_r e4 ⟨wp, nm_r (e' := nI s) (by rw [z, hb]) (nm_r (nI_1 p) ⟨wp, nm_r (e' := 4) (by rw [z, ho]) (br_f (by decide) (br_f (by decide) (br_f (by decide) (br_f (by decide) (br_f (by decide) (br_f (by decide) (br_t rfl ⟨vb, v4, vc, nm_r (by rw [ee, ze, zr]) h⟩)))))))⟩)⟩⟩
theorem rd_xw5 {p r : Nat} {post : Int32 → SX → Prop} (hm : m < 12) (hp : p < 16) (hr : r < 4) (ho : o p = 5) (hf : fa p = nI r) (hC : rd_Cell vv m ro) (h1 : ro r = 0 → post (fb p) (xl, xi, o, fa, fb, xk, xp, vv, sc, hh)) (h2 : ¬ ro r = 0 → post (nI (p + 1)) (xl, xi, o, fa, fb, xk, xp, vv, sc, hh)) : wpX_carryOut post (xl, xi, o, fa, fb, xk, xp, vv, sc, hh) (nI m) (nI p) := by
  have z : (nI p).toNatClampNeg = p := nI_clamp (by omega)
  have wp : vp_in (nI p) 16 := vp_in_nI hp (by decide)
  have v4 : vp_in (nI (32 * m + r)) 384 := vp_in_nI (by omega) (by decide)
  have z4 : (nI (32 * m + r)).toNatClampNeg = 32 * m + rd_cx r := by rw [nI_clamp (by omega), rd_cx_lo hr]
  have e3 : nI m * 32 = nI (32 * m) := by rw [Nat.mul_comm 32 m]; exact pk_mul m 32
  have e4 : nI (32 * m) + fa (nI p).toNatClampNeg = nI (32 * m + r) := by rw [z, hf, nI_add]
  have zr : vv (nI (32 * m + r)).toNatClampNeg = ro r := by rw [z4, hC r (by omega)]
  exact nm_r e3 ⟨wp, nm_r e4 ⟨wp, nm_r (e' := fb p) (by rw [z]) (nm_r (nI_1 p) ⟨wp, nm_r (e' := 5) (by rw [z, ho]) (br_f (by decide) (br_f (by decide) (br_f (by decide) (br_f (by decide) (br_f (by decide) (br_f (by decide) (br_f (by decide) (br_t rfl ⟨v4, br_c (fun y => h1 (zr.symm.trans y)) (fun y => h2 (fun y2 => y (zr.trans y2)))⟩))))))))⟩)⟩⟩
theorem rd_xw6 {p r : Nat} {post : Int32 → SX → Prop} (hm : m < 12) (hp : p < 16) (hr : r < 4) (ho : o p = 6) (hf : fa p = nI r)  (h : post (fb p) (xl, xi, o, fa, fb, xk, xp, vv, sc, hh)) : wpX_carryOut post (xl, xi, o, fa, fb, xk, xp, vv, sc, hh) (nI m) (nI p) := by
  have z : (nI p).toNatClampNeg = p := nI_clamp (by omega)
  have wp : vp_in (nI p) 16 := vp_in_nI hp (by decide)
  have v4 : vp_in (nI (32 * m + r)) 384 := vp_in_nI (by omega) (by decide)
  have z4 : (nI (32 * m + r)).toNatClampNeg = 32 * m + rd_cx r := by rw [nI_clamp (by omega), rd_cx_lo hr]
  have e3 : nI m * 32 = nI (32 * m) := by rw [Nat.mul_comm 32 m]; exact pk_mul m 32
  have e4 : nI (32 * m) + fa (nI p).toNatClampNeg = nI (32 * m + r) := by rw [z, hf, nI_add]
  exact nm_r e3 ⟨wp, nm_r e4 ⟨wp, nm_r (e' := fb p) (by rw [z]) (nm_r (nI_1 p) ⟨wp, nm_r (e' := 6) (by rw [z, ho]) (br_f (by decide) (br_f (by decide) (br_f (by decide) (br_f (by decide) (br_f (by decide) (br_f (by decide) (br_f (by decide) (br_f (by decide) (br_t rfl h)))))))))⟩)⟩⟩
theorem rd_xw7 {p r : Nat} {post : Int32 → SX → Prop} (hm : m < 12) (hp : p < 16) (hr : r < 4) (ho : o p = 7) (hf : fa p = nI r) (hC : rd_Cell vv m ro) {c : Nat} (hc : sc m = nI c) (hcn : c < 2 ^ 30) (h : post (nI (p + 1)) (xl, xi, o, fa, fb, xk, xp, vv, upd sc m (nI (c + 1)), upd hh (8 * m + c % 8) (ro r))) : wpX_carryOut post (xl, xi, o, fa, fb, xk, xp, vv, sc, hh) (nI m) (nI p) := by
  have z : (nI p).toNatClampNeg = p := nI_clamp (by omega)
  have wp : vp_in (nI p) 16 := vp_in_nI hp (by decide)
  have v4 : vp_in (nI (32 * m + r)) 384 := vp_in_nI (by omega) (by decide)
  have z4 : (nI (32 * m + r)).toNatClampNeg = 32 * m + rd_cx r := by rw [nI_clamp (by omega), rd_cx_lo hr]
  have e3 : nI m * 32 = nI (32 * m) := by rw [Nat.mul_comm 32 m]; exact pk_mul m 32
  have e4 : nI (32 * m) + fa (nI p).toNatClampNeg = nI (32 * m + r) := by rw [z, hf, nI_add]
  have zr : vv (nI (32 * m + r)).toNatClampNeg = ro r := by rw [z4, hC r (by omega)]
  exact nm_r e3 ⟨wp, nm_r e4 ⟨wp, nm_r (e' := fb p) (by rw [z]) (nm_r (nI_1 p) ⟨wp, nm_r (e' := 7) (by rw [z, ho]) (br_f (by decide) (br_f (by decide) (br_f (by decide) (br_f (by decide) (br_f (by decide) (br_f (by decide) (br_f (by decide) (br_f (by decide) (br_f (by decide) (br_t rfl ⟨v4, rd_xsay hm hc hcn (by rw [zr]; exact h)⟩))))))))))⟩)⟩⟩
theorem rd_yw0 {p r : Nat} {post : SY → Prop} (hr : r < 4) {b : Int32} (h : post (yl, nI (p + 1), yc, o, fa, fb, th, yk, yq, yn, ce, sa, upd ro r b, ta)) : wpY_carryOut post (yl, nI p, yc, o, fa, fb, th, yk, yq, yn, ce, sa, ro, ta) 0 (nI r) b := by
  have z4 : (nI r).toNatClampNeg = r := nI_clamp (by omega)
  have v4 : vp_in (nI r) 20 := vp_in_nI (by omega) (by decide)
  exact nm_r (nI_1 p) (br_t rfl ⟨v4, nm_r (by rw [z4]) h⟩)
theorem rd_yw1 {p r : Nat} {post : SY → Prop} (hr : r < 4) {s : Nat} (hs : s < 4) (h : post (yl, nI (p + 1), yc, o, fa, fb, th, yk, yq, yn, ce, sa, upd ro r (ro r + ro s), ta)) : wpY_carryOut post (yl, nI p, yc, o, fa, fb, th, yk, yq, yn, ce, sa, ro, ta) 1 (nI r) (nI s) := by
  have z4 : (nI r).toNatClampNeg = r := nI_clamp (by omega)
  have v4 : vp_in (nI r) 20 := vp_in_nI (by omega) (by decide)
  have zb : (nI s &&& 3).toNatClampNeg = s := by rw [rd_and3 hs, nI_clamp (by omega)]
  have vb : vp_in (nI s &&& 3) 20 := by
    rw [rd_and3 hs]
    exact vp_in_nI (by omega) (by decide)
  exact nm_r (nI_1 p) (br_f (by decide) (br_t rfl ⟨v4, vb, v4, nm_r (by rw [z4, zb]) h⟩))
theorem rd_yw2 {p r : Nat} {post : SY → Prop} (hr : r < 4) {s : Nat} (hs : s < 4) (h : post (yl, nI (p + 1), yc, o, fa, fb, th, yk, yq, yn, ce, sa, upd ro r (ro r - ro s), ta)) : wpY_carryOut post (yl, nI p, yc, o, fa, fb, th, yk, yq, yn, ce, sa, ro, ta) 2 (nI r) (nI s) := by
  have z4 : (nI r).toNatClampNeg = r := nI_clamp (by omega)
  have v4 : vp_in (nI r) 20 := vp_in_nI (by omega) (by decide)
  have zb : (nI s &&& 3).toNatClampNeg = s := by rw [rd_and3 hs, nI_clamp (by omega)]
  have vb : vp_in (nI s &&& 3) 20 := by
    rw [rd_and3 hs]
    exact vp_in_nI (by omega) (by decide)
  exact nm_r (nI_1 p) (br_f (by decide) (br_f (by decide) (br_t rfl ⟨v4, vb, v4, nm_r (by rw [z4, zb]) h⟩)))
theorem rd_yw3 {p r : Nat} {post : SY → Prop} (hr : r < 4) {s : Nat} (hs : s < 4) {e : Nat} (he : e < 16) (hee : ro s &&& 15 = nI e) (h : post (yl, nI (p + 1), yc, o, fa, fb, th, yk, yq, yn, ce, sa, upd ro r (ro (4 + e)), ta)) : wpY_carryOut post (yl, nI p, yc, o, fa, fb, th, yk, yq, yn, ce, sa, ro, ta) 3 (nI r) (nI s) := by
  have z4 : (nI r).toNatClampNeg = r := nI_clamp (by omega)
  have v4 : vp_in (nI r) 20 := vp_in_nI (by omega) (by decide)
  have zb : (nI s &&& 3).toNatClampNeg = s := by rw [rd_and3 hs, nI_clamp (by omega)]
  have vb : vp_in (nI s &&& 3) 20 := by
    rw [rd_and3 hs]
    exact vp_in_nI (by omega) (by decide)
  have ee : 4 + (ro (nI s &&& 3).toNatClampNeg &&& 15) = nI (4 + e) := by
    rw [zb, hee]
    exact nI_add 4 e
  have ze : (nI (4 + e)).toNatClampNeg = 4 + e := nI_clamp (by omega)
  have vc : vp_in (4 + (ro (nI s &&& 3).toNatClampNeg &&& 15)) 20 := by
    rw [ee]
    exact vp_in_nI (by omega) (by decide)
  exact nm_r (nI_1 p) (br_f (by decide) (br_f (by decide) (br_f (by decide) (br_t rfl ⟨vb, vc, v4, nm_r (by rw [ee, ze, z4]) h⟩))))
theorem rd_yw4 {p r : Nat} {post : SY → Prop} (hr : r < 4) {s : Nat} (hs : s < 4) {e : Nat} (he : e < 16) (hee : ro s &&& 15 = nI e) (h : post (yl, nI (p + 1), yc, o, fa, fb, th, yk, yq, yn, ce, sa, upd ro (4 + e) (ro r), ta)) : wpY_carryOut post (yl, nI p, yc, o, fa, fb, th, yk, yq, yn, ce, sa, ro, ta) 4 (nI r) (nI s) := by
  have z4 : (nI r).toNatClampNeg = r := nI_clamp (by omega)
  have v4 : vp_in (nI r) 20 := vp_in_nI (by omega) (by decide)
  have zb : (nI s &&& 3).toNatClampNeg = s := by rw [rd_and3 hs, nI_clamp (by omega)]
  have vb : vp_in (nI s &&& 3) 20 := by
    rw [rd_and3 hs]
    exact vp_in_nI (by omega) (by decide)
  have ee : 4 + (ro (nI s &&& 3).toNatClampNeg &&& 15) = nI (4 + e) := by
    rw [zb, hee]
    exact nI_add 4 e
  have ze : (nI (4 + e)).toNatClampNeg = 4 + e := nI_clamp (by omega)
  have vc : vp_in (4 + (ro (nI s &&& 3).toNatClampNeg &&& 15)) 20 := by
    rw [ee]
    exact vp_in_nI (by omega) (by decide)
  exact nm_r (nI_1 p) (br_f (by decide) (br_f (by decide) (br_f (by decide) (br_f (by decide) (br_t rfl ⟨vb, v4, vc, nm_r (by rw [ee, ze, z4]) h⟩)))))
theorem rd_yw5 {p r : Nat} {post : SY → Prop} (hr : r < 4) {b : Int32} (h1 : ro r = 0 → post (yl, b, yc, o, fa, fb, th, yk, yq, yn, ce, sa, ro, ta)) (h2 : ¬ ro r = 0 → post (yl, nI (p + 1), yc, o, fa, fb, th, yk, yq, yn, ce, sa, ro, ta)) : wpY_carryOut post (yl, nI p, yc, o, fa, fb, th, yk, yq, yn, ce, sa, ro, ta) 5 (nI r) b := by
  have z4 : (nI r).toNatClampNeg = r := nI_clamp (by omega)
  have v4 : vp_in (nI r) 20 := vp_in_nI (by omega) (by decide)
  have zr : ro (nI r).toNatClampNeg = ro r := by rw [z4]
  exact nm_r (nI_1 p) (br_f (by decide) (br_f (by decide) (br_f (by decide) (br_f (by decide) (br_f (by decide) (br_t rfl ⟨v4, br_c (fun y => h1 (zr.symm.trans y)) (fun y => h2 (fun y2 => y (zr.trans y2)))⟩))))))
theorem rd_yw6 {p r : Nat} {post : SY → Prop} (hr : r < 4) {b : Int32} (h : post (yl, b, yc, o, fa, fb, th, yk, yq, yn, ce, sa, ro, ta)) : wpY_carryOut post (yl, nI p, yc, o, fa, fb, th, yk, yq, yn, ce, sa, ro, ta) 6 (nI r) b := by
  have z4 : (nI r).toNatClampNeg = r := nI_clamp (by omega)
  have v4 : vp_in (nI r) 20 := vp_in_nI (by omega) (by decide)
  exact nm_r (nI_1 p) (br_f (by decide) (br_f (by decide) (br_f (by decide) (br_f (by decide) (br_f (by decide) (br_f (by decide) (br_t rfl h)))))))
theorem rd_yw7 {p r : Nat} {post : SY → Prop} (hr : r < 4) {b : Int32} (h : wY_carryOut_191 post (nI r) (nI (p + 1)) yl (nI p) yc 8 7 o fa fb th yk yq yn ce sa ro ta) : wpY_carryOut post (yl, nI p, yc, o, fa, fb, th, yk, yq, yn, ce, sa, ro, ta) 7 (nI r) b := by
  have z4 : (nI r).toNatClampNeg = r := nI_clamp (by omega)
  have v4 : vp_in (nI r) 20 := vp_in_nI (by omega) (by decide)
  exact nm_r (nI_1 p) (br_f (by decide) (br_f (by decide) (br_f (by decide) (br_f (by decide) (br_f (by decide) (br_f (by decide) (br_f (by decide) (br_t rfl ⟨8, h⟩))))))))
theorem rd_carry {p : Nat} (hm : m < 12) (hp : p < 16) (hI : rd_Ins (o p) (fa p) (fb p)) (h9 : ¬ o p = 9) (h8 : ¬ o p = 8) (hn : n < 2 ^ 30) (hR : rd_Run n m v0 s0 h0 vv sc hh yc ro ta) : ∃ (y : Int32) (vv' sc' hh' : Nat → Int32) (yc' : Int32) (ro' ta' : Nat → Int32), (∀ post : Int32 → SX → Prop, post y (xl, xi, o, fa, fb, xk, xp, vv', sc', hh') → wpX_carryOut post (xl, xi, o, fa, fb, xk, xp, vv, sc, hh) (nI m) (nI p)) ∧ (∀ post : SY → Prop, post (yl, y, yc', o, fa, fb, th, yk, yq, yn, ce, sa, ro', ta') → wpY_carryOut post (yl, nI p, yc, o, fa, fb, th, yk, yq, yn, ce, sa, ro, ta) (o p) (fa p &&& 3) (fb p)) ∧ rd_Run (n + 1) m v0 s0 h0 vv' sc' hh' yc' ro' ta' := by
  obtain ⟨q, r, hq, hr, ho, hf, hb⟩ := hI
  have hA : fa p &&& 3 = nI r := by
    rw [hf]
    exact rd_and3 hr
  have hC : rd_Cell vv m ro := hR.2.2.2.2.1
  have hR1 := rd_run_mono hR (Nat.le_succ n)
  have q8 : q ≠ 8 := fun z => h8 (by rw [ho, z]; rfl)
  have q9 : q ≠ 9 := fun z => h9 (by rw [ho, z]; rfl)
  have q7 : q = 0 ∨ q = 1 ∨ q = 2 ∨ q = 3 ∨ q = 4 ∨ q = 5 ∨ q = 6 ∨ q = 7 := by omega
  rcases q7 with rfl | rfl | rfl | rfl | rfl | rfl | rfl | rfl
  · refine ⟨nI (p + 1), _, sc, hh, yc, _, ta, fun post h => rd_xw0 hm hp hr ho hf h, fun post h => ?_, rd_run_u hR1 (j := r) (by omega) (fb p)⟩
    rw [hA, ho]
    exact rd_yw0 hr h
  · obtain ⟨s, hs, hbs⟩ := hb (by omega) (by omega)
    refine ⟨nI (p + 1), _, sc, hh, yc, _, ta, fun post h => rd_xw1 hm hp hr ho hf hs hbs hC h, fun post h => ?_, rd_run_u hR1 (j := r) (by omega) (ro r + ro s)⟩
    rw [hA, ho, hbs]
    exact rd_yw1 hr hs h
  · obtain ⟨s, hs, hbs⟩ := hb (by omega) (by omega)
    refine ⟨nI (p + 1), _, sc, hh, yc, _, ta, fun post h => rd_xw2 hm hp hr ho hf hs hbs hC h, fun post h => ?_, rd_run_u hR1 (j := r) (by omega) (ro r - ro s)⟩
    rw [hA, ho, hbs]
    exact rd_yw2 hr hs h
  · obtain ⟨s, hs, hbs⟩ := hb (by omega) (by omega)
    obtain ⟨e, he, hee⟩ := rd_andE (ro s)
    refine ⟨nI (p + 1), _, sc, hh, yc, _, ta, fun post h => rd_xw3 hm hp hr ho hf hs hbs hC he hee h, fun post h => ?_, rd_run_u hR1 (j := r) (by omega) (ro (4 + e))⟩
    rw [hA, ho, hbs]
    exact rd_yw3 hr hs he hee h
  · obtain ⟨s, hs, hbs⟩ := hb (by omega) (by omega)
    obtain ⟨e, he, hee⟩ := rd_andE (ro s)
    refine ⟨nI (p + 1), _, sc, hh, yc, _, ta, fun post h => rd_xw4 hm hp hr ho hf hs hbs hC he hee h, fun post h => ?_, rd_run_u hR1 (j := 4 + e) (by omega) (ro r)⟩
    rw [hA, ho, hbs]
    exact rd_yw4 hr hs he hee h
  · by_cases z : ro r = 0
    · refine ⟨fb p, vv, sc, hh, yc, ro, ta, fun post h => rd_xw5 hm hp hr ho hf hC (fun _ => h) (fun y => absurd z y), fun post h => ?_, hR1⟩
      rw [hA, ho]
      exact rd_yw5 hr (fun _ => h) (fun y => absurd z y)
    · refine ⟨nI (p + 1), vv, sc, hh, yc, ro, ta, fun post h => rd_xw5 hm hp hr ho hf hC (fun y => absurd y z) (fun _ => h), fun post h => ?_, hR1⟩
      rw [hA, ho]
      exact rd_yw5 hr (fun y => absurd y z) (fun _ => h)
  · refine ⟨fb p, vv, sc, hh, yc, ro, ta, fun post h => rd_xw6 hm hp hr ho hf h, fun post h => ?_, hR1⟩
    rw [hA, ho]
    exact rd_yw6 hr h
  · obtain ⟨c, hcn, hc, _, _⟩ := hR.2.2.2.2.2
    obtain ⟨ta', a, b, d⟩ := rd_ysay (yl := yl) (yp := nI p) (yc := yc) (o := o) (fa := fa) (fb := fb) (th := th) (yk := yk) (yq := yq) (yn := yn) (ce := ce) (sa := sa) (ro := ro) (ta := ta) (r := r) (by omega) (x4 := nI (p + 1))
    refine ⟨nI (p + 1), vv, _, _, yc + 1, ro, ta', fun post h => rd_xw7 hm hp hr ho hf hC hc (by omega) h, fun post h => ?_, rd_run_s hR hn hc hcn b d⟩
    rw [hA, ho]
    exact rd_yw7 hr (a post h)
end
