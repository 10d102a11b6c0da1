section
/-! rows of kit/rows, pasted -/
theorem pk_us {f : Nat → Int32} {k : Nat} {x : Int32} : upd f k x k = x := if_pos rfl
theorem pk_un {f : Nat → Int32} {k j : Nat} {x : Int32} (h : j ≠ k) : upd f k x j = f j := if_neg h
theorem pk_sub {a b : Nat} (h : b ≤ a) : nI a - nI b = nI (a - b) := by
  obtain ⟨c, rfl⟩ : ∃ c, a = c + b := ⟨a - b, by omega⟩
  rw [← nI_add, Int32.add_sub_cancel, Nat.add_sub_cancel]
theorem pk_m1 (n : Nat) : nI (n + 1) + (-1) = nI n := by
  rw [← nI_1, Int32.add_assoc, show (1 : Int32) + (-1) = 0 from rfl, Int32.add_zero]
theorem pk_mul (a b : Nat) : nI a * nI b = nI (a * b) := (Int32.ofNat_mul a b).symm
theorem pk_ix (x : Int32) {n : Nat} (hn : n < 2 ^ 31) : x < 0 ∨ nI n ≤ x ∨ ∃ j : Nat, j < n ∧ x = nI j := by
  by_cases h : x < 0
  · exact Or.inl h
  · obtain ⟨j, hj, rfl⟩ := nI_of h
    by_cases h2 : j < n
    · exact Or.inr (Or.inr ⟨j, h2, rfl⟩)
    · exact Or.inr (Or.inl (nI_le (by omega) hj))
theorem pk_le {x y : Int32} {A B : Prop} (a b : Nat) (f : a ≤ b → A) (g : b < a → B) (hx : x = nI a := by rfl) (hy : y = nI b := by rfl) (ha : a < 2 ^ 31 := by omega) (hb : b < 2 ^ 31 := by omega) : (x ≤ y → A) ∧ (¬ x ≤ y → B) := by
  subst hx hy
  rw [nI_leI ha hb]
  exact ⟨f, fun z => g (by omega)⟩
theorem pk_lt {x y : Int32} {A B : Prop} (a b : Nat) (f : a < b → A) (g : b ≤ a → B) (hx : x = nI a := by rfl) (hy : y = nI b := by rfl) (ha : a < 2 ^ 31 := by omega) (hb : b < 2 ^ 31 := by omega) : (x < y → A) ∧ (¬ x < y → B) := by
  subst hx hy
  rw [nI_ltI ha hb]
  exact ⟨f, fun z => g (by omega)⟩
theorem pk_eq {x y : Int32} {A B : Prop} (a b : Nat) (f : a = b → A) (g : a ≠ b → B) (hx : x = nI a := by rfl) (hy : y = nI b := by rfl) (ha : a < 2 ^ 31 := by omega) (hb : b < 2 ^ 31 := by omega) : (x = y → A) ∧ (¬ x = y → B) := by
  subst hx hy
  rw [nI_eq ha hb]
  exact ⟨f, g⟩
theorem pk_in {x : Int32} (n N : Nat) (h : n < N) (hx : x = nI n := by rfl) (hN : N < 2 ^ 31 := by omega) : vp_in x N := by
  subst hx
  exact vp_in_nI h hN
theorem pk_cl {x : Int32} (n : Nat) (hx : x = nI n := by rfl) (h : n < 2 ^ 31 := by omega) : x.toNatClampNeg = n := by
  subst hx
  exact nI_clamp h
theorem pk_tn {n : Nat} (h : n < 2 ^ 32) : (nI n).toBitVec.toNat = n := Nat.mod_eq_of_lt h
theorem pk_and (x : Int32) {m : Int32} (k : Nat) (hm : m.toBitVec.toNat = 2 ^ k - 1) : x &&& m = nI (x.toBitVec.toNat % 2 ^ k) := by
  apply Int32.toBitVec_inj.mp
  apply BitVec.eq_of_toNat_eq
  rw [Int32.toBitVec_and, BitVec.toNat_and, hm, Nat.and_two_pow_sub_one_eq_mod]
  show _ = (BitVec.ofNat 32 _).toNat
  rw [BitVec.toNat_ofNat]
  exact (Nat.mod_eq_of_lt (Nat.lt_of_le_of_lt (Nat.mod_le _ _) x.toBitVec.isLt)).symm
theorem pk_andN {n : Nat} (h : n < 2 ^ 32) {m : Int32} (k : Nat) (hm : m.toBitVec.toNat = 2 ^ k - 1) : nI n &&& m = nI (n % 2 ^ k) := by
  rw [pk_and _ k hm, pk_tn h]
theorem pk_andE (x : Int32) {m : Int32} (k : Nat) (hm : m.toBitVec.toNat = 2 ^ k - 1) : ∃ j : Nat, j < 2 ^ k ∧ x &&& m = nI j := ⟨_, Nat.mod_lt _ (Nat.two_pow_pos k), pk_and x k hm⟩
theorem pk_andIn (x : Int32) {m : Int32} (k : Nat) (hm : m.toBitVec.toNat = 2 ^ k - 1) (hk : k ≤ 30) : vp_in (x &&& m) (2 ^ k) := by
  obtain ⟨j, hj, e⟩ := pk_andE x k hm
  rw [e]
  exact vp_in_nI hj (Nat.lt_of_le_of_lt (Nat.pow_le_pow_right (by decide) hk) (by decide))
def bt (x : Int32) (i : Nat) : Bool := x.toBitVec.getLsbD i
theorem b_ext {x y : Int32} (h : ∀ i, i < 32 → bt x i = bt y i) : x = y := Int32.toBitVec_inj.mp (BitVec.eq_of_getLsbD_eq (fun i hi => h i hi))
theorem b_or (x y : Int32) (i : Nat) : bt (x ||| y) i = (bt x i || bt y i) := by unfold bt; rw [Int32.toBitVec_or, BitVec.getLsbD_or]
theorem b_and (x y : Int32) (i : Nat) : bt (x &&& y) i = (bt x i && bt y i) := by unfold bt; rw [Int32.toBitVec_and, BitVec.getLsbD_and]
theorem b_xor (x y : Int32) (i : Nat) : bt (x ^^^ y) i = (bt x i ^^ bt y i) := by unfold bt; rw [Int32.toBitVec_xor, BitVec.getLsbD_xor]
theorem b_big {x : Int32} {i : Nat} (h : 32 ≤ i) : bt x i = false := BitVec.getLsbD_of_ge _ _ h
theorem b_m1 : ∀ i, i < 32 → bt (-1) i = true := by decide +kernel
theorem b_0 (i : Nat) : bt 0 i = false := BitVec.getLsbD_zero
theorem s_l : ∀ n, n < 32 → ((nI n &&& 31).toBitVec.smod 32).toNat = n := by decide +kernel
theorem b_shl (n : Nat) (hn : n < 32) (x : Int32) {i : Nat} (hi : i < 32) : bt (x <<< (nI n &&& 31)) i = (decide (n ≤ i) && bt x (i - n)) := by
  unfold bt
  rw [Int32.toBitVec_shiftLeft]
  show (x.toBitVec <<< ((nI n &&& 31).toBitVec.smod 32).toNat).getLsbD i = _
  rw [s_l n hn, BitVec.getLsbD_shiftLeft]
  rcases Nat.lt_or_ge i n with h | h
  · simp [h, Nat.not_le.mpr h]
  · simp [hi, h, Nat.not_lt.mpr h]
end
section
/-! bits of one place, masks -/
theorem rd_b1 : ∀ j, j < 32 → bt 1 j = decide (j = 0) := by decide +kernel
theorem rd_bit {m i : Nat} (hm : m < 32) (hi : i < 32) : bt ((1 : Int32) <<< (nI m &&& 31)) i = decide (i = m) := by
  rw [b_shl m hm 1 hi, rd_b1 (i - m) (by omega)]
  by_cases h : i = m
  · subst h
    simp
  · by_cases h2 : m ≤ i
    · have h3 : ¬ i - m = 0 := by omega
      rw [decide_eq_false h3, decide_eq_false h, Bool.and_false]
    · rw [decide_eq_false h2, decide_eq_false h, Bool.false_and]
theorem rd_kept (x : Int32) {m : Nat} (hm : m < 32) : (x &&& ((1 : Int32) <<< (nI m &&& 31))) = 0 ↔ bt x m = false := by
  constructor
  · intro h
    have e : bt (x &&& ((1 : Int32) <<< (nI m &&& 31))) m = false := by rw [h]; exact b_0 m
    rw [b_and, rd_bit hm hm, decide_eq_true rfl, Bool.and_true] at e
    exact e
  · intro h
    apply b_ext
    intro i hi
    rw [b_and, rd_bit hm hi, b_0]
    by_cases e : i = m
    · subst e
      rw [h, Bool.false_and]
    · rw [decide_eq_false e, Bool.and_false]
def rd_Set (n : Nat) (x : Int32) (g : Nat → Bool) : Prop := ∀ i, i < 32 → bt x i = (decide (i < n) && g i)
theorem rd_set00 (g : Nat → Bool) : rd_Set 0 0 g := by
  intro i _
  rw [b_0, decide_eq_false (by omega), Bool.false_and]
theorem rd_set0 {n : Nat} {x : Int32} {g : Nat → Bool} (h : rd_Set n x g) (hg : g n = false) : rd_Set (n + 1) x g := by
  intro i hi
  rw [h i hi]
  by_cases e : i = n
  · subst e
    rw [hg, Bool.and_false, Bool.and_false]
  · by_cases e2 : i < n
    · rw [decide_eq_true e2, decide_eq_true (by omega : i < n + 1)]
    · rw [decide_eq_false e2, decide_eq_false (by omega : ¬ i < n + 1)]
theorem rd_set1 {n : Nat} {x : Int32} {g : Nat → Bool} (h : rd_Set n x g) (hn : n < 32) (hg : g n = true) : rd_Set (n + 1) (x ||| ((1 : Int32) <<< (nI n &&& 31))) g := by
  intro i hi
  rw [b_or, rd_bit hn hi, h i hi]
  by_cases e : i = n
  · subst e
    rw [hg, decide_eq_true rfl, Bool.or_true, decide_eq_true (by omega : i < i + 1)]
    rfl
  · rw [decide_eq_false e, Bool.or_false]
    by_cases e2 : i < n
    · rw [decide_eq_true e2, decide_eq_true (by omega : i < n + 1)]
    · rw [decide_eq_false e2, decide_eq_false (by omega : ¬ i < n + 1)]
theorem rd_setj {x : Int32} {g : Nat → Bool} (h : rd_Set 4 x g) (hg : ∀ i, 4 ≤ i → i < 16 → g i = false) : rd_Set 16 x g := by
  intro i hi
  rw [h i hi]
  by_cases a : i < 4
  · rw [decide_eq_true a, decide_eq_true (by omega : i < 16)]
  · by_cases b : i < 16
    · rw [hg i (by omega) b, Bool.and_false, Bool.and_false]
    · rw [decide_eq_false a, decide_eq_false b]
theorem rd_setU {n : Nat} {x y : Int32} {g : Nat → Bool} (h : rd_Set n x g) (h' : rd_Set n y g) : x = y :=
  b_ext (fun i hi => (h i hi).trans (h' i hi).symm)
theorem rd_or0 (x : Int32) : x ||| 0 = x := by
  apply b_ext
  intro i _
  rw [b_or, b_0, Bool.or_false]
/-- the mask x names the places below 12 at which t holds no 0 -/
def rd_Mask (x : Int32) (t : Nat → Int32) : Prop := rd_Set 12 x (fun i => decide (t i ≠ 0))
theorem rd_mk {x : Int32} {t : Nat → Int32} {m : Nat} (h : rd_Mask x t) (hm : m < 12) : (x &&& ((1 : Int32) <<< (nI m &&& 31))) = 0 ↔ t m = 0 := by
  rw [rd_kept x (by omega), h m (by omega), decide_eq_true hm, Bool.true_and, decide_eq_false_iff_not, Decidable.not_not]
theorem rd_m0 {x : Int32} {t : Nat → Int32} (h : rd_Mask x t) : x = 0 ↔ ∀ m, m < 12 → t m = 0 := by
  constructor
  · intro e m hm
    have a := h m (by omega)
    rw [e, b_0, decide_eq_true hm, Bool.true_and] at a
    have b := decide_eq_false_iff_not.mp a.symm
    exact Decidable.not_not.mp b
  · intro e
    apply b_ext
    intro i hi
    rw [h i hi, b_0]
    show (decide (i < 12) && decide (t i ≠ 0)) = false
    by_cases c : i < 12
    · have z : ¬ (t i ≠ 0) := fun z => z (e i c)
      rw [decide_eq_false z, Bool.and_false]
    · rw [decide_eq_false c, Bool.false_and]
theorem rd_mz {t : Nat → Int32} (e : ∀ m, m < 12 → t m = 0) : rd_Mask 0 t := by
  intro i hi
  rw [b_0]
  by_cases c : i < 12
  · have z : ¬ (t i ≠ 0) := fun z => z (e i c)
    show false = (decide (i < 12) && decide (t i ≠ 0))
    rw [decide_eq_false z, Bool.and_false]
  · show false = (decide (i < 12) && decide (t i ≠ 0))
    rw [decide_eq_false c, Bool.false_and]
theorem rd_mset {x y : Int32} {t : Nat → Int32} {m : Nat} (h : rd_Mask x t) (hm : m < 12) (hy : y ≠ 0) : rd_Mask (x ||| ((1 : Int32) <<< (nI m &&& 31))) (upd t m y) := by
  intro i hi
  rw [b_or, rd_bit (by omega) hi, h i hi]
  show ((decide (i < 12) && decide (t i ≠ 0)) || decide (i = m)) = (decide (i < 12) && decide (upd t m y i ≠ 0))
  by_cases e : i = m
  · subst e
    rw [pk_us, decide_eq_true hy, decide_eq_true hm, decide_eq_true rfl, Bool.or_true]
    rfl
  · rw [pk_un e, decide_eq_false e, Bool.or_false]
theorem rd_mclr {x : Int32} {t : Nat → Int32} {m : Nat} (h : rd_Mask x t) (hm : m < 12) : rd_Mask (x &&& (((1 : Int32) <<< (nI m &&& 31)) ^^^ (-1))) (upd t m 0) := by
  intro i hi
  rw [b_and, b_xor, rd_bit (by omega) hi, b_m1 i hi, h i hi]
  show ((decide (i < 12) && decide (t i ≠ 0)) && (decide (i = m) ^^ true)) = (decide (i < 12) && decide (upd t m 0 i ≠ 0))
  by_cases e : i = m
  · subst e
    rw [pk_us, decide_eq_true rfl, decide_eq_false (fun z => z rfl : ¬ ((0 : Int32) ≠ 0))]
    simp
  · rw [pk_un e, decide_eq_false e]
    simp
/-! rows of a moment: the component's 32 places against the reference's 20, rings of eight, frames -/
def rd_cx (i : Nat) : Nat := if i < 4 then i else i + 12
theorem rd_cx_lo {i : Nat} (h : i < 4) : rd_cx i = i := if_pos h
theorem rd_cx_hi (i : Nat) : rd_cx (4 + i) = 16 + i := by
  unfold rd_cx
  rw [if_neg (by omega)]
  omega
theorem rd_cx_lt {i : Nat} (h : i < 20) : rd_cx i < 32 := by
  unfold rd_cx
  split <;> omega
theorem rd_cx_inj {i j : Nat} (h : rd_cx i = rd_cx j) : i = j := by
  unfold rd_cx at h
  split at h <;> split at h <;> omega
theorem rd_cx_gap {i : Nat} : rd_cx i < 4 ∨ 16 ≤ rd_cx i := by
  unfold rd_cx
  split <;> omega
theorem rd_cx_of {j : Nat} (h : j < 32) (hg : j < 4 ∨ 16 ≤ j) : ∃ i, i < 20 ∧ rd_cx i = j := by
  rcases hg with a | a
  · exact ⟨j, by omega, rd_cx_lo a⟩
  · refine ⟨4 + (j - 16), by omega, ?_⟩
    rw [rd_cx_hi]
    omega
def rd_Cell (V : Nat → Int32) (m : Nat) (R : Nat → Int32) : Prop := ∀ i, i < 20 → V (32 * m + rd_cx i) = R i
def rd_Gap (V : Nat → Int32) (m : Nat) : Prop := ∀ i, 4 ≤ i → i < 16 → V (32 * m + i) = 0
def rd_Tail (H : Nat → Int32) (m c : Nat) (T : Nat → Int32) : Prop := ∀ j, j < 8 → j < c → H (8 * m + (c - 1 - j) % 8) = T j
def rd_Fr (w m : Nat) (A B : Nat → Int32) : Prop := ∀ j, (j < w * m ∨ w * m + w ≤ j) → A j = B j
theorem rd_cell_u {V R : Nat → Int32} {m j : Nat} {x : Int32} (h : rd_Cell V m R) : rd_Cell (upd V (32 * m + rd_cx j) x) m (upd R j x) := by
  intro i hi
  by_cases e : i = j
  · subst e
    rw [pk_us, pk_us]
  · have e2 : ¬ rd_cx i = rd_cx j := fun z => e (rd_cx_inj z)
    rw [pk_un (by omega), pk_un e]
    exact h i hi
theorem rd_gap_u {V : Nat → Int32} {m j : Nat} {x : Int32} (h : rd_Gap V m) : rd_Gap (upd V (32 * m + rd_cx j) x) m := by
  intro i h4 h16
  have e : rd_cx j < 4 ∨ 16 ≤ rd_cx j := rd_cx_gap
  rw [pk_un (by omega)]
  exact h i h4 h16
theorem rd_fr_r (w m : Nat) (A : Nat → Int32) : rd_Fr w m A A := fun _ _ => rfl
theorem rd_fr_u {w m j : Nat} {A B : Nat → Int32} {x : Int32} (h : rd_Fr w m A B) (h1 : w * m ≤ j) (h2 : j < w * m + w) : rd_Fr w m (upd A j x) B := by
  intro i hi
  rw [pk_un (by intro z; subst z; rcases hi with a | a <;> omega)]
  exact h i hi
theorem rd_fr_t {w m : Nat} {A B C : Nat → Int32} (h : rd_Fr w m A B) (h' : rd_Fr w m B C) : rd_Fr w m A C :=
  fun j hj => (h j hj).trans (h' j hj)
theorem rd_fr_cell {m : Nat} {V V0 : Nat → Int32} (h : rd_Fr 32 m V V0) {j : Nat} (hj : j ≠ m) {R : Nat → Int32} (c : rd_Cell V0 j R) : rd_Cell V j R := by
  intro i hi
  have := rd_cx_lt hi
  rw [h _ (by omega)]
  exact c i hi
theorem rd_fr_gap {m : Nat} {V V0 : Nat → Int32} (h : rd_Fr 32 m V V0) {j : Nat} (hj : j ≠ m) (c : rd_Gap V0 j) : rd_Gap V j := by
  intro i h4 h16
  rw [h _ (by omega)]
  exact c i h4 h16
theorem rd_fr_tail {m : Nat} {H H0 : Nat → Int32} (h : rd_Fr 8 m H H0) {j : Nat} (hj : j ≠ m) {c : Nat} {T : Nat → Int32} (t : rd_Tail H0 j c T) : rd_Tail H j c T := by
  intro i h8 hc
  have := Nat.mod_lt (c - 1 - i) (by omega : 8 > 0)
  rw [h _ (by omega)]
  exact t i h8 hc
theorem rd_tail_s {H T T' : Nat → Int32} {m c : Nat} {x : Int32} (h : rd_Tail H m c T) (h0 : T' 0 = x) (hs : ∀ j, j < 7 → T' (j + 1) = T j) : rd_Tail (upd H (8 * m + c % 8) x) m (c + 1) T' := by
  intro j h8 hc
  rcases j with _ | j
  · rw [show (c + 1 - 1 - 0) % 8 = c % 8 by omega, pk_us, h0]
  · rw [pk_un (by omega), hs j (by omega), show c + 1 - 1 - (j + 1) = c - 1 - j by omega]
    exact h j (by omega) (by omega)
theorem rd_tail_0 (H T : Nat → Int32) (m : Nat) : rd_Tail H m 0 T := fun j _ h => absurd h (Nat.not_lt_zero j)
/-! the program -/
def rd_Ins (o a b : Int32) : Prop := ∃ q r : Nat, q ≤ 9 ∧ r < 4 ∧ o = nI q ∧ a = nI r ∧ (1 ≤ q → q ≤ 4 → ∃ s : Nat, s < 4 ∧ b = nI s)
def rd_Prog (L : Nat) (o a b : Nat → Int32) : Prop := ∀ j, j < L → rd_Ins (o j) (a j) (b j)
theorem rd_prog_u {L : Nat} {o a b : Nat → Int32} {x y z : Int32} (h : rd_Prog L o a b) (hi : rd_Ins x y z) : rd_Prog (L + 1) (upd o L x) (upd a L y) (upd b L z) := by
  intro j hj
  by_cases e : j = L
  · subst e
    rw [pk_us, pk_us, pk_us]
    exact hi
  · rw [pk_un e, pk_un e, pk_un e]
    exact h j (by omega)
end
section
/-! small walks of both sides -/
theorem rd_x32 (m j : Nat) : nI m * 32 + nI j = nI (32 * m + j) := by
  have e : nI m * 32 = nI (m * 32) := pk_mul m 32
  rw [e, nI_add, Nat.mul_comm]
theorem rd_x8 (m j : Nat) : nI m * 8 + nI j = nI (8 * m + j) := by
  have e : nI m * 8 = nI (m * 8) := pk_mul m 8
  rw [e, nI_add, Nat.mul_comm]
theorem rd_y20 (m j : Nat) : 20 * nI m + nI j = nI (20 * m + j) := by
  have e : 20 * nI m = nI (20 * m) := pk_mul 20 m
  rw [e, nI_add]
theorem rd_y8 (m j : Nat) : 8 * nI m + nI j = nI (8 * m + j) := by
  have e : 8 * nI m = nI (8 * m) := pk_mul 8 m
  rw [e, nI_add]
theorem rd_and7 {c : Nat} (h : c < 2 ^ 31) : nI c &&& 7 = nI (c % 8) := pk_andN (by omega) 3 (by decide)
theorem rd_and3 {c : Nat} (h : c < 4) : nI c &&& 3 = nI c := (pk_andN (by omega) 2 (by decide)).trans (congrArg nI (Nat.mod_eq_of_lt h))
theorem rd_and15 {c : Nat} (h : c < 16) : nI c &&& 15 = nI c := (pk_andN (by omega) 4 (by decide)).trans (congrArg nI (Nat.mod_eq_of_lt h))
theorem rd_andE (x : Int32) : ∃ e : Nat, e < 16 ∧ x &&& 15 = nI e := pk_andE x 4 (by decide)
theorem rd_nar1 : ¬ vp_nar .boolean 1 = 0 := by decide
theorem rd_nar0 : vp_nar .boolean 0 = 0 := by decide
theorem rd_fill {P : Type} (w : P → Nat → Nat → (Nat → Int32) → Prop) (K : P → (Nat → Int32) → Prop) (N : Nat) (pl : Nat → Nat) (g : Nat → Int32) (A0 : Nat → Int32) (hi : ∀ i j, i < N → j < N → pl i = pl j → i = j) (hx : ∀ p n A, K p A → w p (n + 1) N A) (hs : ∀ p n j A, j < N → (∀ i, (∀ j', j' < N → i ≠ pl j') → A i = A0 i) → w p n (j + 1) (upd A (pl j) (g j)) → w p (n + 1) j A) : ∃ A', (∀ p, K p A' → w p (N + 1) 0 A0) ∧ (∀ j, j < N → A' (pl j) = g j) ∧ (∀ i, (∀ j, j < N → i ≠ pl j) → A' i = A0 i) := by
  have key : ∀ d j A, j + d = N → (∀ i, i < j → A (pl i) = g i) → (∀ i, (∀ j', j' < N → i ≠ pl j') → A i = A0 i) → ∃ A', (∀ p, K p A' → w p (d + 1) j A) ∧ (∀ j, j < N → A' (pl j) = g j) ∧ (∀ i, (∀ j, j < N → i ≠ pl j) → A' i = A0 i) := by
    intro d
    induction d with
    | zero =>
      intro j A hj h1 h2
      have e : j = N := by omega
      rw [e] at h1 ⊢
      exact ⟨A, fun p h => hx p 0 A h, h1, h2⟩
    | succ d ih =>
      intro j A hj h1 h2
      have hjN : j < N := by omega
      have h1' : ∀ i, i < j + 1 → upd A (pl j) (g j) (pl i) = g i := by
        intro i hi1
        by_cases e : i = j
        · subst e
          exact pk_us
        · rw [pk_un (fun z => e (hi i j (by omega) hjN z))]
          exact h1 i (by omega)
      have h2' : ∀ i, (∀ j', j' < N → i ≠ pl j') → upd A (pl j) (g j) i = A0 i := by
        intro i hi2
        rw [pk_un (hi2 j hjN)]
        exact h2 i hi2
      obtain ⟨A', a, b, c⟩ := ih (j + 1) _ (by omega) h1' h2'
      exact ⟨A', fun p h => hs p (d + 1) j A hjN h2 (a p h), b, c⟩
  exact key N 0 A0 (by omega) (fun i h => absurd h (Nat.not_lt_zero i)) (fun _ _ => rfl)
section
variable {xl xi : Int32} {o fa fb xk xp vv sc hh : Nat → Int32} {yl yp yc : Int32} {th yk yq yn ce sa ro ta : Nat → Int32}
theorem rd_xreg {post : Int32 → Prop} {x : Int32} (h0 : (¬ ∃ r : Nat, r < 4 ∧ x = nI r) → post 0) (h1 : ∀ r : Nat, r < 4 → x = nI r → post 1) : wpX_isRegister post x := by
  by_cases a : x < 0
  · refine br_t a (h0 ?_)
    rintro ⟨r, hr, rfl⟩
    exact nI_pos (by omega) a
  · obtain ⟨r, hr, rfl⟩ := nI_of a
    refine br_f a ?_
    by_cases b : r < 4
    · exact br_f (nI_ge (b := 4) b (by decide)) (h1 r b rfl)
    · refine br_t (nI_le (a := 4) (by omega) hr) (h0 ?_)
      rintro ⟨s, hs, e⟩
      rw [nI_eq hr (by omega)] at e
      omega
theorem rd_xins {post : Int32 → Prop} {a b c : Int32} (hy : rd_Ins a b c → post 1) (hn : ¬ rd_Ins a b c → post 0) : wpX_isInstruction post a b c := by
  by_cases a0 : a < 0
  · refine br_t a0 (hn ?_)
    rintro ⟨q, r, hq, hr, rfl, _, _⟩
    exact nI_pos (by omega) a0
  · obtain ⟨q, hq, rfl⟩ := nI_of a0
    refine br_f a0 ?_
    by_cases a9 : 9 < q
    · refine br_t (nI_lt (a := 9) a9 hq) (hn ?_)
      rintro ⟨q', r, hq', hr, ea, _, _⟩
      rw [nI_eq hq (by omega)] at ea
      omega
    · refine br_f (nI_nlt (a := 9) (b := q) (by omega) (by decide)) ?_
      refine rd_xreg (fun hb => br_t rfl (hn ?_)) (fun r hr eb => br_f (by decide) ?_)
      · rintro ⟨q', r, hq', hr, ea, eb, _⟩
        exact hb ⟨r, hr, eb⟩
      · subst eb
        by_cases q1 : q < 1
        · refine br_t (nI_lt (b := 1) q1 (by decide)) ?_
          show wX_isInstruction_34 post c 0
          exact br_t rfl (hy ⟨q, r, by omega, hr, rfl, rfl, fun z _ => absurd z (by omega)⟩)
        · refine br_f (nI_nlt (b := 1) (by omega) hq) ?_
          by_cases q4 : 4 < q
          · refine br_t (nI_lt (a := 4) q4 hq) ?_
            show wX_isInstruction_34 post c 0
            exact br_t rfl (hy ⟨q, r, by omega, hr, rfl, rfl, fun _ z => absurd z (by omega)⟩)
          · refine br_f (nI_nlt (a := 4) (b := q) (by omega) (by decide)) (br_f (by decide) ?_)
            refine rd_xreg (fun hc => br_t rfl (hn ?_)) (fun s hs ec => br_f (by decide) (hy ⟨q, r, by omega, hr, rfl, rfl, fun _ _ => ⟨s, hs, ec⟩⟩))
            rintro ⟨q', r', hq', hr', ea, eb, h⟩
            rw [nI_eq hq (by omega)] at ea
            exact hc (h (by omega) (by omega))
theorem rd_yins {post : Int32 → SY → Prop} {a b c : Int32} (hy : rd_Ins a b c → wY_emit_40 post a b c yl yp yc o fa fb th yk yq yn ce sa ro ta) (hn : ¬ rd_Ins a b c → post (-1) (yl, yp, yc, o, fa, fb, th, yk, yq, yn, ce, sa, ro, ta)) : wpY_emit post (yl, yp, yc, o, fa, fb, th, yk, yq, yn, ce, sa, ro, ta) a b c := by
  by_cases a0 : a < 0
  · refine br_t a0 (hn ?_)
    rintro ⟨q, r, hq, hr, rfl, _, _⟩
    exact nI_pos (by omega) a0
  · obtain ⟨q, hq, rfl⟩ := nI_of a0
    refine br_f a0 ?_
    by_cases a9 : 9 < q
    · refine br_t (nI_lt (a := 9) a9 hq) (hn ?_)
      rintro ⟨q', r, hq', hr, ea, _, _⟩
      rw [nI_eq hq (by omega)] at ea
      omega
    · refine br_f (nI_nlt (a := 9) (b := q) (by omega) (by decide)) ?_
      by_cases b0 : b < 0
      · refine br_t b0 (hn ?_)
        rintro ⟨q', r, hq', hr, _, rfl, _⟩
        exact nI_pos (by omega) b0
      · obtain ⟨r, hr, rfl⟩ := nI_of b0
        refine br_f b0 ?_
        by_cases b3 : 3 < r
        · refine br_t (nI_lt (a := 3) b3 hr) (hn ?_)
          rintro ⟨q', r', hq', hr', _, eb, _⟩
          rw [nI_eq hr (by omega)] at eb
          omega
        · refine br_f (nI_nlt (a := 3) (b := r) (by omega) (by decide)) ?_
          by_cases q1 : q < 1
          · exact br_t (nI_lt (b := 1) q1 (by decide)) (hy ⟨q, r, by omega, by omega, rfl, rfl, fun z _ => absurd z (by omega)⟩)
          · refine br_f (nI_nlt (b := 1) (by omega) hq) ?_
            by_cases q4 : 4 < q
            · exact br_t (nI_lt (a := 4) q4 hq) (hy ⟨q, r, by omega, by omega, rfl, rfl, fun _ z => absurd z (by omega)⟩)
            · refine br_f (nI_nlt (a := 4) (b := q) (by omega) (by decide)) ?_
              by_cases c0 : c < 0
              · refine br_t c0 (hn ?_)
                rintro ⟨q', r', hq', hr', ea, _, h⟩
                rw [nI_eq hq (by omega)] at ea
                obtain ⟨s, hs, rfl⟩ := h (by omega) (by omega)
                exact nI_pos (by omega) c0
              · obtain ⟨s, hs, rfl⟩ := nI_of c0
                refine br_f c0 ?_
                by_cases c3 : s ≤ 3
                · exact br_t (nI_le (b := 3) c3 (by decide)) (hy ⟨q, r, by omega, by omega, rfl, rfl, fun _ _ => ⟨s, by omega, rfl⟩⟩)
                · refine br_f (nI_ge (a := 3) (b := s) (by omega) hs) (hn ?_)
                  rintro ⟨q', r', hq', hr', ea, _, h⟩
                  rw [nI_eq hq (by omega)] at ea
                  obtain ⟨s', hs', es⟩ := h (by omega) (by omega)
                  rw [nI_eq hs (by omega)] at es
                  omega
theorem rd_ymom {post : Int32 → Prop} (hM : rd_Mask xi th) (h : post xi) : wpY_moments post (yl, yp, yc, o, fa, fb, th, yk, yq, yn, ce, sa, ro, ta) := by
  have key : ∀ d j x, j + d = 12 → rd_Set j x (fun i => decide (th i ≠ 0)) → wY_moments_4 post yl yp yc o fa fb th yk yq yn ce sa ro ta (d + 1) x (nI j) := by
    intro d
    induction d with
    | zero =>
      intro j x hj hS
      have e : j = 12 := by omega
      subst e
      have ex : x = xi := rd_setU hS hM
      rw [ex]
      exact br_t (nI_le (a := 12) (b := 12) (Nat.le_refl _) (by decide)) h
    | succ d ih =>
      intro j x hj hS
      refine br_f (nI_ge (b := 12) (by omega) (by decide)) ⟨vp_in_nI (by omega) (by decide), ?_⟩
      rw [nI_clamp (by omega)]
      by_cases z : th j = 0
      · refine br_t z (nm_r (rd_or0 x) (nm_r (nI_1 j) (ih (j + 1) x (by omega) (rd_set0 hS ?_))))
        show decide (th j ≠ 0) = false
        exact decide_eq_false (fun y => y z)
      · refine br_f z (nm_e (nm_r (nI_1 j) (ih (j + 1) _ (by omega) (rd_set1 hS (by omega) ?_))))
        show decide (th j ≠ 0) = true
        exact decide_eq_true z
  exact ⟨13, key 12 0 0 rfl (rd_set00 _)⟩
theorem rd_yforget : ∃ th', (∀ post : SY → Prop, post (yl, yp, yc, o, fa, fb, th', yk, yq, yn, ce, sa, ro, ta) → wpY_forgetAll post (yl, yp, yc, o, fa, fb, th, yk, yq, yn, ce, sa, ro, ta)) ∧ (∀ m, m < 12 → th' m = 0) := by
  obtain ⟨A', a, b, c⟩ := rd_fill (fun (post : SY → Prop) n j A => wY_forgetAll_2 post yl yp yc n (nI j) o fa fb A yk yq yn ce sa ro ta) (fun post A => post (yl, yp, yc, o, fa, fb, A, yk, yq, yn, ce, sa, ro, ta)) 12 (fun j => j) (fun _ => 0) th (fun i j _ _ h => h) (fun post n A h => br_t (nI_le (a := 12) (b := 12) (Nat.le_refl _) (by decide)) h) (fun post n j A hj _ h => br_f (nI_ge (b := 12) hj (by decide)) ⟨vp_in_nI hj (by decide), nm_r (by rw [nI_clamp (by omega), rd_nar0]) (nm_r (nI_1 j) h)⟩)
  exact ⟨A', fun post h => ⟨13, a post h⟩, b⟩
theorem rd_xblank {m : Nat} (hm : m < 12) : ∃ vv', (∀ post : SX → Prop, post (xl, xi, o, fa, fb, xk, xp, vv', upd sc m 0, hh) → wpX_blankMoment post (xl, xi, o, fa, fb, xk, xp, vv, sc, hh) (nI m)) ∧ (∀ i, i < 32 → vv' (32 * m + i) = 0) ∧ rd_Fr 32 m vv' vv := by
  obtain ⟨A', a, b, c⟩ := rd_fill (fun (post : SX → Prop) n j A => wX_blankMoment_2 post (nI m) xl xi n (nI j) o fa fb xk xp A sc hh) (fun post A => post (xl, xi, o, fa, fb, xk, xp, A, upd sc m 0, hh)) 32 (fun j => 32 * m + j) (fun _ => 0) vv (fun i j _ _ h => by omega) (fun post n A h => br_t (nI_le (a := 32) (b := 32) (Nat.le_refl _) (by decide)) ⟨vp_in_nI hm (by decide), nm_r (by rw [nI_clamp (by omega)]) h⟩) (fun post n j A hj _ h => br_f (nI_ge (b := 32) hj (by decide)) ⟨pk_in (32 * m + j) 384 (by omega) (rd_x32 m j), nm_r (by rw [rd_x32, nI_clamp (by omega)]) (nm_r (nI_1 j) h)⟩)
  exact ⟨A', fun post h => ⟨33, a post h⟩, b, fun j hj => c j (fun i hi z => by omega)⟩
theorem rd_xcopy {m f : Nat} (hm : m < 12) (hf : f < 12) (hn : f ≠ m) : ∃ vv' hh', (∀ post : SX → Prop, post (xl, xi, o, fa, fb, xk, xp, vv', upd sc m (sc f), hh') → wpX_copyMoment post (xl, xi, o, fa, fb, xk, xp, vv, sc, hh) (nI f) (nI m)) ∧ (∀ i, i < 32 → vv' (32 * m + i) = vv (32 * f + i)) ∧ (∀ i, i < 8 → hh' (8 * m + i) = hh (8 * f + i)) ∧ rd_Fr 32 m vv' vv ∧ rd_Fr 8 m hh' hh := by
  obtain ⟨A', a, b, c⟩ := rd_fill (fun (post : SX → Prop) n j A => wX_copyMoment_2 post (nI f) (nI m) xl xi n (nI j) o fa fb xk xp A sc hh) (fun post A => ∃ n38 : Nat, wX_copyMoment_38 post (nI f) (nI m) xl xi n38 0 o fa fb xk xp A sc hh) 32 (fun j => 32 * m + j) (fun j => vv (32 * f + j)) vv (fun i j _ _ h => by omega) (fun post n A h => br_t (nI_le (a := 32) (b := 32) (Nat.le_refl _) (by decide)) h) (fun post n j A hj hA h => br_f (nI_ge (b := 32) hj (by decide)) ⟨pk_in (32 * f + j) 384 (by omega) (rd_x32 f j), pk_in (32 * m + j) 384 (by omega) (rd_x32 m j), nm_r (by rw [rd_x32, rd_x32, nI_clamp (by omega), nI_clamp (by omega), hA (32 * f + j) (fun i hi z => by omega)]) (nm_r (nI_1 j) h)⟩)
  obtain ⟨B', a2, b2, c2⟩ := rd_fill (fun (post : SX → Prop) n j B => wX_copyMoment_38 post (nI f) (nI m) xl xi n (nI j) o fa fb xk xp A' sc B) (fun post B => post (xl, xi, o, fa, fb, xk, xp, A', upd sc m (sc f), B)) 8 (fun j => 8 * m + j) (fun j => hh (8 * f + j)) hh (fun i j _ _ h => by omega) (fun post n B h => br_t (nI_le (a := 8) (b := 8) (Nat.le_refl _) (by decide)) ⟨vp_in_nI hf (by decide), vp_in_nI hm (by decide), nm_r (by rw [nI_clamp (by omega), nI_clamp (by omega)]) h⟩) (fun post n j B hj hB h => br_f (nI_ge (b := 8) hj (by decide)) ⟨pk_in (8 * f + j) 96 (by omega) (rd_x8 f j), pk_in (8 * m + j) 96 (by omega) (rd_x8 m j), nm_r (by rw [rd_x8, rd_x8, nI_clamp (by omega), nI_clamp (by omega), hB (8 * f + j) (fun i hi z => by omega)]) (nm_r (nI_1 j) h)⟩)
  exact ⟨A', B', fun post h => ⟨33, a post ⟨9, a2 post h⟩⟩, b, b2, fun j hj => c j (fun i hi z => by omega), fun j hj => c2 j (fun i hi z => by omega)⟩
theorem rd_ytake {f : Nat} (hf : f < 12) : ∃ ro' ta', (∀ post : SY → Prop, post (yl, yq f, yn f, o, fa, fb, th, yk, yq, yn, ce, sa, ro', ta') → wpY_take post (yl, yp, yc, o, fa, fb, th, yk, yq, yn, ce, sa, ro, ta) (nI f)) ∧ (∀ i, i < 20 → ro' i = ce (20 * f + i)) ∧ (∀ i, i < 8 → ta' i = sa (8 * f + i)) := by
  obtain ⟨A', a, b, c⟩ := rd_fill (fun (post : SY → Prop) n j A => wY_take_22 post (nI f) yl (yq f) (yn f) n (nI j) o fa fb th yk yq yn ce sa A ta) (fun post A => ∃ n53 : Nat, wY_take_53 post (nI f) yl (yq f) (yn f) n53 0 o fa fb th yk yq yn ce sa A ta) 20 (fun j => j) (fun j => ce (20 * f + j)) ro (fun i j _ _ h => h) (fun post n A h => br_t (nI_le (a := 20) (b := 20) (Nat.le_refl _) (by decide)) h) (fun post n j A hj hA h => br_f (nI_ge (b := 20) hj (by decide)) ⟨pk_in (20 * f + j) 240 (by omega) (rd_y20 f j), vp_in_nI hj (by decide), nm_r (by rw [rd_y20, nI_clamp (by omega), nI_clamp (by omega)]) (nm_r (nI_1 j) h)⟩)
  obtain ⟨B', a2, b2, c2⟩ := rd_fill (fun (post : SY → Prop) n j B => wY_take_53 post (nI f) yl (yq f) (yn f) n (nI j) o fa fb th yk yq yn ce sa A' B) (fun post B => post (yl, yq f, yn f, o, fa, fb, th, yk, yq, yn, ce, sa, A', B)) 8 (fun j => j) (fun j => sa (8 * f + j)) ta (fun i j _ _ h => h) (fun post n B h => br_t (nI_le (a := 8) (b := 8) (Nat.le_refl _) (by decide)) h) (fun post n j B hj hB h => br_f (nI_ge (b := 8) hj (by decide)) ⟨pk_in (8 * f + j) 96 (by omega) (rd_y8 f j), vp_in_nI hj (by decide), nm_r (by rw [rd_y8, nI_clamp (by omega), nI_clamp (by omega)]) (nm_r (nI_1 j) h)⟩)
  have z : (nI f).toNatClampNeg = f := nI_clamp (by omega)
  exact ⟨A', B', fun post h => ⟨vp_in_nI hf (by decide), nm_r (by rw [z]) ⟨vp_in_nI hf (by decide), nm_r (by rw [z]) ⟨21, a post ⟨9, a2 post h⟩⟩⟩⟩, b, b2⟩
theorem rd_ylay {m : Nat} (hm : m < 12) : ∃ ce' sa', (∀ (post : SY → Prop) (kd : Int32), post (yl, yp, yc, o, fa, fb, upd th m (vp_nar .boolean 1), upd yk m kd, upd yq m yp, upd yn m yc, ce', sa', ro, ta) → wY_stretch_142 post (nI m) kd yl yp yc o fa fb th yk yq yn ce sa ro ta) ∧ (∀ i, i < 20 → ce' (20 * m + i) = ro i) ∧ (∀ i, i < 8 → sa' (8 * m + i) = ta i) ∧ rd_Fr 20 m ce' ce ∧ rd_Fr 8 m sa' sa := by
  obtain ⟨A', a, b, c⟩ := rd_fill (fun (p : (SY → Prop) × Int32) n j A => wY_stretch_179 p.1 (nI m) yl yp yc n (nI j) o fa fb (upd th m (vp_nar .boolean 1)) (upd yk m p.2) (upd yq m yp) (upd yn m yc) A sa ro ta) (fun p A => ∃ n214 : Nat, wY_stretch_214 p.1 (nI m) yl yp yc n214 0 o fa fb (upd th m (vp_nar .boolean 1)) (upd yk m p.2) (upd yq m yp) (upd yn m yc) A sa ro ta) 20 (fun j => 20 * m + j) (fun j => ro j) ce (fun i j _ _ h => by omega) (fun p n A h => br_t (nI_le (a := 20) (b := 20) (Nat.le_refl _) (by decide)) h) (fun p n j A hj hA h => br_f (nI_ge (b := 20) hj (by decide)) ⟨vp_in_nI hj (by decide), pk_in (20 * m + j) 240 (by omega) (rd_y20 m j), nm_r (by rw [rd_y20, nI_clamp (by omega), nI_clamp (by omega)]) (nm_r (nI_1 j) h)⟩)
  obtain ⟨B', a2, b2, c2⟩ := rd_fill (fun (p : (SY → Prop) × Int32) n j B => wY_stretch_214 p.1 (nI m) yl yp yc n (nI j) o fa fb (upd th m (vp_nar .boolean 1)) (upd yk m p.2) (upd yq m yp) (upd yn m yc) A' B ro ta) (fun p B => p.1 (yl, yp, yc, o, fa, fb, upd th m (vp_nar .boolean 1), upd yk m p.2, upd yq m yp, upd yn m yc, A', B, ro, ta)) 8 (fun j => 8 * m + j) (fun j => ta j) sa (fun i j _ _ h => by omega) (fun p n B h => br_t (nI_le (a := 8) (b := 8) (Nat.le_refl _) (by decide)) h) (fun p n j B hj hB h => br_f (nI_ge (b := 8) hj (by decide)) ⟨vp_in_nI hj (by decide), pk_in (8 * m + j) 96 (by omega) (rd_y8 m j), nm_r (by rw [rd_y8, nI_clamp (by omega), nI_clamp (by omega)]) (nm_r (nI_1 j) h)⟩)
  have z : (nI m).toNatClampNeg = m := nI_clamp (by omega)
  have v : vp_in (nI m) 12 := vp_in_nI hm (by decide)
  exact ⟨A', B', fun post kd h => ⟨v, nm_r (by rw [z]) ⟨v, nm_r (by rw [z]) ⟨v, nm_r (by rw [z]) ⟨v, nm_r (by rw [z]) ⟨21, a (post, kd) ⟨9, a2 (post, kd) h⟩⟩⟩⟩⟩⟩, b, b2, fun j hj => c j (fun i hi z => by omega), fun j hj => c2 j (fun i hi z => by omega)⟩
theorem rd_ysay {r : Nat} (hr : r < 20) {x4 : Int32} : ∃ ta', (∀ post : SY → Prop, post (yl, x4, yc + 1, o, fa, fb, th, yk, yq, yn, ce, sa, ro, ta') → wY_carryOut_191 post (nI r) x4 yl yp yc 8 7 o fa fb th yk yq yn ce sa ro ta) ∧ ta' 0 = ro r ∧ (∀ j, j < 7 → ta' (j + 1) = ta j) := by
  have key : ∀ d, d ≤ 7 → ∀ B : Nat → Int32, ∃ ta', (∀ post : SY → Prop, post (yl, x4, yc + 1, o, fa, fb, th, yk, yq, yn, ce, sa, ro, ta') → wY_carryOut_191 post (nI r) x4 yl yp yc (d + 1) (nI d) o fa fb th yk yq yn ce sa ro B) ∧ ta' 0 = ro r ∧ (∀ j, j < d → ta' (j + 1) = B j) ∧ (∀ j, d < j → ta' j = B j) := by
    intro d
    induction d with
    | zero =>
      intro _ B
      refine ⟨upd B 0 (ro r), fun post h => br_t (nI_le (a := 0) (b := 0) (Nat.le_refl _) (by decide)) ⟨vp_in_nI hr (by decide), nm_r (by rw [nI_clamp (by omega)]) (nm_e h)⟩, pk_us, fun j hj => absurd hj (Nat.not_lt_zero j), fun j hj => pk_un (by omega)⟩
    | succ d ih =>
      intro hd B
      obtain ⟨ta', a, b, c, e⟩ := ih (by omega) (upd B (d + 1) (B d))
      refine ⟨ta', fun post h => br_f (nI_nle (by omega) (by omega)) ⟨?_, vp_in_nI (by omega) (by decide), nm_r ?_ (nm_r (pk_m1 d) (a post h))⟩, b, ?_, ?_⟩
      · rw [nI_pred]
        exact vp_in_nI (by omega) (by decide)
      · rw [nI_pred, nI_clamp (by omega), nI_clamp (by omega)]
      · intro j hj
        by_cases z : j = d
        · subst z
          rw [e (j + 1) (by omega), pk_us]
        · rw [c j (by omega), pk_un (by omega)]
      · intro j hj
        rw [e j (by omega), pk_un (by omega)]
  obtain ⟨ta', a, b, c, _⟩ := key 7 (Nat.le_refl _) ta
  exact ⟨ta', a, b, c⟩
theorem rd_ystart0 {m : Nat} : ∃ ro' ta' : Nat → Int32, (∀ post : Int32 → SY → Prop, wpY_stretch (fun u => match u with | (yl, yp, yc, o, fa, fb, th, yk, yq, yn, ce, sa, ro, ta) => post (nI m) (yl, yp, yc, o, fa, fb, th, yk, yq, yn, ce, sa, ro, ta)) (yl, 0, 0, o, fa, fb, th, yk, yq, yn, ce, sa, ro', ta') (nI m) → wY_start_24 post (nI m) yl 0 0 21 0 o fa fb th yk yq yn ce sa ro ta) ∧ (∀ i, i < 20 → ro' i = 0) := by
  have key : ∀ (d j : Nat) (A B : Nat → Int32), j + d = 20 → (∀ i, i < j → A i = 0) → ∃ ro' ta' : Nat → Int32, (∀ post : Int32 → SY → Prop, wpY_stretch (fun u => match u with | (yl, yp, yc, o, fa, fb, th, yk, yq, yn, ce, sa, ro, ta) => post (nI m) (yl, yp, yc, o, fa, fb, th, yk, yq, yn, ce, sa, ro, ta)) (yl, 0, 0, o, fa, fb, th, yk, yq, yn, ce, sa, ro', ta') (nI m) → wY_start_24 post (nI m) yl 0 0 (d + 1) (nI j) o fa fb th yk yq yn ce sa A B) ∧ (∀ i, i < 20 → ro' i = 0) := by
    intro d
    induction d with
    | zero =>
      intro j A B hj hA
      have e : j = 20 := by omega
      subst e
      exact ⟨A, B, fun post h => br_t (nI_le (a := 20) (b := 20) (Nat.le_refl _) (by decide)) h, hA⟩
    | succ d ih =>
      intro j A B hj hA
      have hA' : ∀ i, i < j + 1 → upd A j 0 i = 0 := by
        intro i hi
        by_cases z : i = j
        · subst z
          exact pk_us
        · rw [pk_un z]
          exact hA i (by omega)
      obtain ⟨ro', ta', a, b⟩ := ih (j + 1) (upd A j 0) (upd B (nI j &&& 7).toNatClampNeg 0) (by omega) hA'
      refine ⟨ro', ta', fun post h => br_f (nI_ge (b := 20) (by omega) (by decide)) ⟨vp_in_nI (by omega) (by decide), nm_r (by rw [nI_clamp (by omega)]) ⟨?_, nm_e (nm_r (nI_1 j) (a post h))⟩⟩, b⟩
      rw [rd_and7 (by omega)]
      exact vp_in_nI (Nat.mod_lt _ (by decide)) (by decide)
  exact key 20 0 ro ta rfl (fun i hi => absurd hi (Nat.not_lt_zero i))
theorem rd_free (hM : rd_Mask xi th) : (∃ m, m < 12 ∧ th m = 0 ∧ (∀ post : Int32 → Prop, post (nI m) → wpX_leastFree post (xl, xi, o, fa, fb, xk, xp, vv, sc, hh)) ∧ (∀ post : Int32 → Prop, post (nI m) → wpY_room post (yl, yp, yc, o, fa, fb, th, yk, yq, yn, ce, sa, ro, ta))) ∨ ((∀ post : Int32 → Prop, post (-2) → wpX_leastFree post (xl, xi, o, fa, fb, xk, xp, vv, sc, hh)) ∧ (∀ post : Int32 → Prop, post (-2) → wpY_room post (yl, yp, yc, o, fa, fb, th, yk, yq, yn, ce, sa, ro, ta))) := by
  have key : ∀ d j, j + d = 12 → (∃ m, m < 12 ∧ th m = 0 ∧ (∀ post : Int32 → Prop, post (nI m) → wX_leastFree_2 post xl xi o fa fb xk xp vv sc hh (d + 1) (nI j)) ∧ (∀ post : Int32 → Prop, post (nI m) → wY_room_2 post yl yp yc o fa fb th yk yq yn ce sa ro ta (d + 1) (nI j))) ∨ ((∀ post : Int32 → Prop, post (-2) → wX_leastFree_2 post xl xi o fa fb xk xp vv sc hh (d + 1) (nI j)) ∧ (∀ post : Int32 → Prop, post (-2) → wY_room_2 post yl yp yc o fa fb th yk yq yn ce sa ro ta (d + 1) (nI j))) := by
    intro d
    induction d with
    | zero =>
      intro j hj
      have e : j = 12 := by omega
      subst e
      have q : (12 : Int32) ≤ nI 12 := nI_le (a := 12) (b := 12) (Nat.le_refl _) (by decide)
      exact Or.inr ⟨fun post h => br_t q h, fun post h => br_t q h⟩
    | succ d ih =>
      intro j hj
      have q : ¬ (12 : Int32) ≤ nI j := nI_ge (b := 12) (by omega) (by decide)
      have w : vp_in (nI j) 12 := vp_in_nI (by omega) (by decide)
      have z : (nI j).toNatClampNeg = j := nI_clamp (by omega)
      by_cases t : th j = 0
      · refine Or.inl ⟨j, by omega, t, fun post h => br_f q (br_t ((rd_mk hM (by omega)).mpr t) h), fun post h => br_f q ⟨w, br_t (by rw [z]; exact t) h⟩⟩
      · have t1 : ¬ (xi &&& ((1 : Int32) <<< (nI j &&& 31))) = 0 := fun y => t ((rd_mk hM (by omega)).mp y)
        have t2 : ¬ th (nI j).toNatClampNeg = 0 := by rw [z]; exact t
        rcases ih (j + 1) (by omega) with ⟨m, hm, hm0, a, b⟩ | ⟨a, b⟩
        · exact Or.inl ⟨m, hm, hm0, fun post h => br_f q (br_f t1 (nm_r (nI_1 j) (a post h))), fun post h => br_f q ⟨w, br_f t2 (nm_r (nI_1 j) (b post h))⟩⟩
        · exact Or.inr ⟨fun post h => br_f q (br_f t1 (nm_r (nI_1 j) (a post h))), fun post h => br_f q ⟨w, br_f t2 (nm_r (nI_1 j) (b post h))⟩⟩
  rcases key 12 0 rfl with ⟨m, hm, hm0, a, b⟩ | ⟨a, b⟩
  · exact Or.inl ⟨m, hm, hm0, fun post h => ⟨13, a post h⟩, fun post h => ⟨13, b post h⟩⟩
  · exact Or.inr ⟨fun post h => ⟨13, a post h⟩, fun post h => ⟨13, b post h⟩⟩
/-- x names a moment -/
def rd_K (th : Nat → Int32) (x : Int32) : Prop := ∃ m : Nat, m < 12 ∧ x = nI m ∧ th m ≠ 0
theorem rd_xk1 {post : Int32 → Prop} {m : Nat} (hM : rd_Mask xi th) (hm : m < 12) (ht : th m ≠ 0) (h : post 1) : wpX_isKept post (xl, xi, o, fa, fb, xk, xp, vv, sc, hh) (nI m) :=
  br_f (nI_pos (by omega)) (br_f (nI_ge (b := 12) hm (by decide)) (br_f (fun y => ht ((rd_mk hM hm).mp y)) h))
theorem rd_xk0 {post : Int32 → Prop} {x : Int32} (hM : rd_Mask xi th) (hn : ¬ rd_K th x) (h : post 0) : wpX_isKept post (xl, xi, o, fa, fb, xk, xp, vv, sc, hh) x := by
  by_cases a : x < 0
  · exact br_t a h
  · obtain ⟨m, hm, rfl⟩ := nI_of a
    refine br_f a ?_
    by_cases b : m < 12
    · refine br_f (nI_ge (b := 12) b (by decide)) (br_t ((rd_mk hM b).mpr ?_) h)
      exact Decidable.not_not.mp (fun z => hn ⟨m, b, rfl, z⟩)
    · exact br_t (nI_le (a := 12) (by omega) hm) h
theorem rd_yk1 {post : Int32 → Prop} {m : Nat} (hm : m < 12) (ht : th m ≠ 0) (h : post 1) : wpY_kept post (yl, yp, yc, o, fa, fb, th, yk, yq, yn, ce, sa, ro, ta) (nI m) :=
  br_f (nI_pos (by omega)) (br_f (nI_ge (b := 12) hm (by decide)) ⟨vp_in_nI hm (by decide), br_f (by rw [nI_clamp (by omega)]; exact ht) h⟩)
theorem rd_yk0 {post : Int32 → Prop} {x : Int32} (hn : ¬ rd_K th x) (h : post 0) : wpY_kept post (yl, yp, yc, o, fa, fb, th, yk, yq, yn, ce, sa, ro, ta) x := by
  by_cases a : x < 0
  · exact br_t a h
  · obtain ⟨m, hm, rfl⟩ := nI_of a
    refine br_f a ?_
    by_cases b : m < 12
    · refine br_f (nI_ge (b := 12) b (by decide)) ⟨vp_in_nI b (by decide), br_t ?_ h⟩
      rw [nI_clamp hm]
      exact Decidable.not_not.mp (fun z => hn ⟨m, b, rfl, z⟩)
    · exact br_t (nI_le (a := 12) (by omega) hm) h
theorem rd_yi1 {post : Int32 → Prop} {m : Nat} {q : Int32} (hm : m < 12) (ht : th m ≠ 0) (hq : yk m = q) (h : post 1) : wpY_is post (yl, yp, yc, o, fa, fb, th, yk, yq, yn, ce, sa, ro, ta) (nI m) q :=
  br_f (nI_pos (by omega)) (br_f (nI_ge (b := 12) hm (by decide)) ⟨vp_in_nI hm (by decide), br_f (by rw [nI_clamp (by omega)]; exact ht) ⟨vp_in_nI hm (by decide), br_t (by rw [nI_clamp (by omega)]; exact hq) h⟩⟩)
theorem rd_yi2 {post : Int32 → Prop} {m : Nat} {q : Int32} (hm : m < 12) (ht : th m ≠ 0) (hq : ¬ yk m = q) (h : post 0) : wpY_is post (yl, yp, yc, o, fa, fb, th, yk, yq, yn, ce, sa, ro, ta) (nI m) q :=
  br_f (nI_pos (by omega)) (br_f (nI_ge (b := 12) hm (by decide)) ⟨vp_in_nI hm (by decide), br_f (by rw [nI_clamp (by omega)]; exact ht) ⟨vp_in_nI hm (by decide), br_f (by rw [nI_clamp (by omega)]; exact hq) h⟩⟩)
theorem rd_yi0 {post : Int32 → Prop} {x q : Int32} (hn : ¬ rd_K th x) (h : post 0) : wpY_is post (yl, yp, yc, o, fa, fb, th, yk, yq, yn, ce, sa, ro, ta) x q := by
  by_cases a : x < 0
  · exact br_t a h
  · obtain ⟨m, hm, rfl⟩ := nI_of a
    refine br_f a ?_
    by_cases b : m < 12
    · refine br_f (nI_ge (b := 12) b (by decide)) ⟨vp_in_nI b (by decide), br_t ?_ h⟩
      rw [nI_clamp hm]
      exact Decidable.not_not.mp (fun z => hn ⟨m, b, rfl, z⟩)
    · exact br_t (nI_le (a := 12) (by omega) hm) h
end
end
section
/-! one instruction, on both sides -/
/-- a run in the row of m, on both sides -/
def rd_Run (n m : Nat) (v0 s0 h0 vv sc hh : Nat → Int32) (yc : Int32) (ro ta : Nat → Int32) : Prop :=
  rd_Fr 32 m vv v0 ∧ rd_Fr 1 m sc s0 ∧ rd_Fr 8 m hh h0 ∧ rd_Gap vv m ∧ rd_Cell vv m ro ∧ ∃ c, c ≤ n ∧ sc m = nI c ∧ yc = nI c ∧ rd_Tail hh m c ta
section
variable {xl xi : Int32} {o fa fb xk xp vv sc hh : Nat → Int32} {yl yp yc : Int32} {th yk yq yn ce sa ro ta : Nat → Int32} {v0 s0 h0 : Nat → Int32} {n m : Nat}
theorem rd_run_mono {n' : Nat} (h : rd_Run n m v0 s0 h0 vv sc hh yc ro ta) (hn : n ≤ n') : rd_Run n' m v0 s0 h0 vv sc hh yc ro ta := by
  obtain ⟨a, b, c, d, e, q, hq, f⟩ := h
  exact ⟨a, b, c, d, e, q, by omega, f⟩
theorem rd_run_u {j : Nat} (h : rd_Run n m v0 s0 h0 vv sc hh yc ro ta) (hj : j < 20) (x : Int32) : rd_Run n m v0 s0 h0 (upd vv (32 * m + rd_cx j) x) sc hh yc (upd ro j x) ta := by
  obtain ⟨a, b, c, d, e, f⟩ := h
  have hc := rd_cx_lt hj
  exact ⟨rd_fr_u a (by omega) (by omega), b, c, rd_gap_u d, rd_cell_u e, f⟩
theorem rd_run_s {c : Nat} {x : Int32} {ta' : Nat → Int32} (h : rd_Run n m v0 s0 h0 vv sc hh yc ro ta) (hn : n < 2 ^ 30) (hc : sc m = nI c) (hcn : c ≤ n) (h0' : ta' 0 = x) (hs : ∀ j, j < 7 → ta' (j + 1) = ta j) : rd_Run (n + 1) m v0 s0 h0 vv (upd sc m (nI (c + 1))) (upd hh (8 * m + c % 8) x) (yc + 1) ro ta' := by
  obtain ⟨a, b, e, d, f, q, hq, g1, g2, g3⟩ := h
  rw [hc, nI_eq (by omega) (by omega)] at g1
  subst g1
  refine ⟨a, rd_fr_u b (by omega) (by omega), rd_fr_u e (by omega) (by omega), d, f, c + 1, by omega, pk_us, ?_, rd_tail_s g3 h0' hs⟩
  rw [g2, nI_1]
theorem rd_xsay {c : Nat} {x : Int32} {post : SX → Prop} (hm : m < 12) (hc : sc m = nI c) (hcn : c < 2 ^ 30) (h : post (xl, xi, o, fa, fb, xk, xp, vv, upd sc m (nI (c + 1)), upd hh (8 * m + c % 8) x)) : wpX_say post (xl, xi, o, fa, fb, xk, xp, vv, sc, hh) (nI m) x := by
  have z : (nI m).toNatClampNeg = m := nI_clamp (by omega)
  have w : vp_in (nI m) 12 := vp_in_nI hm (by decide)
  have e : nI m * 8 + (sc (nI m).toNatClampNeg &&& 7) = nI (8 * m + c % 8) := by rw [z, hc, rd_and7 (by omega), rd_x8]
  refine ⟨w, ?_, nm_r ?_ ⟨w, w, nm_r ?_ h⟩⟩
  · rw [e]
    exact vp_in_nI (by omega) (by decide)
  · rw [e, nI_clamp (by omega)]
  · rw [z, hc, nI_1]
theorem rd_xw0 {p r : Nat} {post : Int32 → SX → Prop} (hm : m < 12) (hp : p < 16) (hr : r < 4) (ho : o p = 0) (hf : fa p = nI r)  (h : post (nI (p + 1)) (xl, xi, o, fa, fb, xk, xp, upd vv (32 * m + rd_cx r) (fb p), sc, hh)) : wpX_carryOut post (xl, xi, o, fa, fb, xk, xp, vv, sc, hh) (nI m) (nI p) := by
  have z : (nI p).toNatClampNeg = p := nI_clamp (by omega)
  have wp : vp_in (nI p) 16 := vp_in_nI hp (by decide)
  have v4 : vp_in (nI (32 * m + r)) 384 := vp_in_nI (by omega) (by decide)
  have z4 : (nI (32 * m + r)).toNatClampNeg = 32 * m + rd_cx r := by rw [nI_clamp (by omega), rd_cx_lo hr]
  have e3 : nI m * 32 = nI (32 * m) := by rw [Nat.mul_comm 32 m]; exact pk_mul m 32
  have e4 : nI (32 * m) + fa (nI p).toNatClampNeg = nI (32 * m + r) := by rw [z, hf, nI_add]
  exact nm_r e3 ⟨wp, nm_r e4 ⟨wp, nm_r (e' := fb p) (by rw [z]) (nm_r (nI_1 p) ⟨wp, nm_r (e' := 0) (by rw [z, ho]) (br_f (by decide) (br_f (by decide) (br_t rfl ⟨v4, nm_r (by rw [z4]) h⟩)))⟩)⟩⟩
theorem rd_xw1 {p r : Nat} {post : Int32 → SX → Prop} (hm : m < 12) (hp : p < 16) (hr : r < 4) (ho : o p = 1) (hf : fa p = nI r) {s : Nat} (hs : s < 4) (hb : fb p = nI s) (hC : rd_Cell vv m ro) (h : post (nI (p + 1)) (xl, xi, o, fa, fb, xk, xp, upd vv (32 * m + rd_cx r) (ro r + ro s), sc, hh)) : wpX_carryOut post (xl, xi, o, fa, fb, xk, xp, vv, sc, hh) (nI m) (nI p) := by
  have z : (nI p).toNatClampNeg = p := nI_clamp (by omega)
  have wp : vp_in (nI p) 16 := vp_in_nI hp (by decide)
  have v4 : vp_in (nI (32 * m + r)) 384 := vp_in_nI (by omega) (by decide)
  have z4 : (nI (32 * m + r)).toNatClampNeg = 32 * m + rd_cx r := by rw [nI_clamp (by omega), rd_cx_lo hr]
  have e3 : nI m * 32 = nI (32 * m) := by rw [Nat.mul_comm 32 m]; exact pk_mul m 32
  have e4 : nI (32 * m) + fa (nI p).toNatClampNeg = nI (32 * m + r) := by rw [z, hf, nI_add]
  have vb : vp_in (nI (32 * m) + nI s) 384 := pk_in (32 * m + s) 384 (by omega) (nI_add _ _)
  have zb : vv (nI (32 * m) + nI s).toNatClampNeg = ro s := by rw [nI_add, nI_clamp (by omega), ← hC s (by omega), rd_cx_lo hs]
  have zr : vv (nI (32 * m + r)).toNatClampNeg = ro r := by rw [z4, hC r (by omega)]
  exact nm_r e3 ⟨wp, nm_r e4 ⟨wp, nm_r (e' := nI s) (by rw [z, hb]) (nm_r (nI_1 p) ⟨wp, nm_r (e' := 1) (by rw [z, ho]) (br_f (by decide) (br_f (by decide) (br_f (by decide) (br_t rfl ⟨v4, vb, v4, nm_r (by rw [zr, zb, z4]) h⟩))))⟩)⟩⟩
theorem rd_xw2 {p r : Nat} {post : Int32 → SX → Prop} (hm : m < 12) (hp : p < 16) (hr : r < 4) (ho : o p = 2) (hf : fa p = nI r) {s : Nat} (hs : s < 4) (hb : fb p = nI s) (hC : rd_Cell vv m ro) (h : post (nI (p + 1)) (xl, xi, o, fa, fb, xk, xp, upd vv (32 * m + rd_cx r) (ro r - ro s), sc, hh)) : wpX_carryOut post (xl, xi, o, fa, fb, xk, xp, vv, sc, hh) (nI m) (nI p) := by
  have z : (nI p).toNatClampNeg = p := nI_clamp (by omega)
  have wp : vp_in (nI p) 16 := vp_in_nI hp (by decide)
  have v4 : vp_in (nI (32 * m + r)) 384 := vp_in_nI (by omega) (by decide)
  have z4 : (nI (32 * m + r)).toNatClampNeg = 32 * m + rd_cx r := by rw [nI_clamp (by omega), rd_cx_lo hr]
  have e3 : nI m * 32 = nI (32 * m) := by rw [Nat.mul_comm 32 m]; exact pk_mul m 32
  have e4 : nI (32 * m) + fa (nI p).toNatClampNeg = nI (32 * m + r) := by rw [z, hf, nI_add]
  have vb : vp_in (nI (32 * m) + nI s) 384 := pk_in (32 * m + s) 384 (by omega) (nI_add _ _)
  have zb : vv (nI (32 * m) + nI s).toNatClampNeg = ro s := by rw [nI_add, nI_clamp (by omega), ← hC s (by omega), rd_cx_lo hs]
  have zr : vv (nI (32 * m + r)).toNatClampNeg = ro r := by rw [z4, hC r (by omega)]
  exact nm_r e3 ⟨wp, nm_r e4 ⟨wp, nm_r (e' := nI s) (by rw [z, hb]) (nm_r (nI_1 p) ⟨wp, nm_r (e' := 2) (by rw [z, ho]) (br_f (by decide) (br_f (by decide) (br_f (by decide) (br_f (by decide) (br_t rfl ⟨v4, vb, v4, nm_r (by rw [zr, zb, z4]) h⟩)))))⟩)⟩⟩
theorem rd_xw3 {p r : Nat} {post : Int32 → SX → Prop} (hm : m < 12) (hp : p < 16) (hr : r < 4) (ho : o p = 3) (hf : fa p = nI r) {s : Nat} (hs : s < 4) (hb : fb p = nI s) (hC : rd_Cell vv m ro) {e : Nat} (he : e < 16) (hee : ro s &&& 15 = nI e) (h : post (nI (p + 1)) (xl, xi, o, fa, fb, xk, xp, upd vv (32 * m + rd_cx r) (ro (4 + e)), sc, hh)) : wpX_carryOut post (xl, xi, o, fa, fb, xk, xp, vv, sc, hh) (nI m) (nI p) := by
  have z : (nI p).toNatClampNeg = p := nI_clamp (by omega)
  have wp : vp_in (nI p) 16 := vp_in_nI hp (by decide)
  have v4 : vp_in (nI (32 * m + r)) 384 := vp_in_nI (by omega) (by decide)
  have z4 : (nI (32 * m + r)).toNatClampNeg = 32 * m + rd_cx r := by rw [nI_clamp (by omega), rd_cx_lo hr]
  have e3 : nI m * 32 = nI (32 * m) := by rw [Nat.mul_comm 32 m]; exact pk_mul m 32
  have e4 : nI (32 * m) + fa (nI p).toNatClampNeg = nI (32 * m + r) := by rw [z, hf, nI_add]
  have vb : vp_in (nI (32 * m) + nI s) 384 := pk_in (32 * m + s) 384 (by omega) (nI_add _ _)
  have zb : vv (nI (32 * m) + nI s).toNatClampNeg = ro s := by rw [nI_add, nI_clamp (by omega), ← hC s (by omega), rd_cx_lo hs]
  have ee : (nI (32 * m) + 16) + (vv (nI (32 * m) + nI s).toNatClampNeg &&& 15) = nI (32 * m + (16 + e)) := by
    rw [zb, hee]
    show nI (32 * m) + nI 16 + nI e = _
    rw [nI_add, nI_add, Nat.add_assoc]
  have ze : (nI (32 * m + (16 + e))).toNatClampNeg = 32 * m + rd_cx (4 + e) := by rw [nI_clamp (by omega), rd_cx_hi]
  have vc : vp_in ((nI (32 * m) + 16) + (vv (nI (32 * m) + nI s).toNatClampNeg &&& 15)) 384 := by
    rw [ee]
    exact vp_in_nI (by omega) (by decide)
  exact nm_r e3 ⟨wp, nm_r e4 ⟨wp, nm_r (e' := nI s) (by rw [z, hb]) (nm_r (nI_1 p) ⟨wp, nm_r (e' := 3) (by rw [z, ho]) (br_f (by decide) (br_f (by decide) (br_f (by decide) (br_f (by decide) (br_f (by decide) (br_t rfl ⟨vb, vc, v4, nm_r (by rw [ee, ze, z4, hC (4 + e) (by omega)]) h⟩))))))⟩)⟩⟩
theorem rd_xw4 {p r : Nat} {post : Int32 → SX → Prop} (hm : m < 12) (hp : p < 16) (hr : r < 4) (ho : o p = 4) (hf : fa p = nI r) {s : Nat} (hs : s < 4) (hb : fb p = nI s) (hC : rd_Cell vv m ro) {e : Nat} (he : e < 16) (hee : ro s &&& 15 = nI e) (h : post (nI (p + 1)) (xl, xi, o, fa, fb, xk, xp, upd vv (32 * m + rd_cx (4 + e)) (ro r), sc, hh)) : wpX_carryOut post (xl, xi, o, fa, fb, xk, xp, vv, sc, hh) (nI m) (nI p) := by
  have z : (nI p).toNatClampNeg = p := nI_clamp (by omega)
  have wp : vp_in (nI p) 16 := vp_in_nI hp (by decide)
  have v4 : vp_in (nI (32 * m + r)) 384 := vp_in_nI (by omega) (by decide)
  have z4 : (nI (32 * m + r)).toNatClampNeg = 32 * m + rd_cx r := by rw [nI_clamp (by omega), rd_cx_lo hr]
  have e3 : nI m * 32 = nI (32 * m) := by rw [Nat.mul_comm 32 m]; exact pk_mul m 32
  have e4 : nI (32 * m) + fa (nI p).toNatClampNeg = nI (32 * m + r) := by rw [z, hf, nI_add]
  have vb : vp_in (nI (32 * m) + nI s) 384 := pk_in (32 * m + s) 384 (by omega) (nI_add _ _)
  have zb : vv (nI (32 * m) + nI s).toNatClampNeg = ro s := by rw [nI_add, nI_clamp (by omega), ← hC s (by omega), rd_cx_lo hs]
  have zr : vv (nI (32 * m + r)).toNatClampNeg = ro r := by rw [z4, hC r (by omega)]
  have ee : (nI (32 * m) + 16) + (vv (nI (32 * m) + nI s).toNatClampNeg &&& 15) = nI (32 * m + (16 + e)) := by
    rw [zb, hee]
    show nI (32 * m) + nI 16 + nI e = _
    rw [nI_add, nI_add, Nat.add_assoc]
  have ze : (nI (32 * m + (16 + e))).toNatClampNeg = 32 * m + rd_cx (4 + e) := by rw [nI_clamp (by omega), rd_cx_hi]
  have vc : vp_in ((nI (32 * m) + 16) + (vv (nI (32 * m) + nI s).toNatClampNeg &&& 15)) 384 := by
    rw [ee]
    exact vp_in_nI (by omega) (by decide)
  exact nm_r e3 ⟨wp, nm_r e4 ⟨wp, nm_r (e' := nI s) (by rw [z, hb]) (nm_r (nI_1 p) ⟨wp, nm_r (e' := 4) (by rw [z, ho]) (br_f (by decide) (br_f (by decide) (br_f (by decide) (br_f (by decide) (br_f (by decide) (br_f (by decide) (br_t rfl ⟨vb, v4, vc, nm_r (by rw [ee, ze, zr]) h⟩)))))))⟩)⟩⟩
theorem rd_xw5 {p r : Nat} {post : Int32 → SX → Prop} (hm : m < 12) (hp : p < 16) (hr : r < 4) (ho : o p = 5) (hf : fa p = nI r) (hC : rd_Cell vv m ro) (h1 : ro r = 0 → post (fb p) (xl, xi, o, fa, fb, xk, xp, vv, sc, hh)) (h2 : ¬ ro r = 0 → post (nI (p + 1)) (xl, xi, o, fa, fb, xk, xp, vv, sc, hh)) : wpX_carryOut post (xl, xi, o, fa, fb, xk, xp, vv, sc, hh) (nI m) (nI p) := by
  have z : (nI p).toNatClampNeg = p := nI_clamp (by omega)
  have wp : vp_in (nI p) 16 := vp_in_nI hp (by decide)
  have v4 : vp_in (nI (32 * m + r)) 384 := vp_in_nI (by omega) (by decide)
  have z4 : (nI (32 * m + r)).toNatClampNeg = 32 * m + rd_cx r := by rw [nI_clamp (by omega), rd_cx_lo hr]
  have e3 : nI m * 32 = nI (32 * m) := by rw [Nat.mul_comm 32 m]; exact pk_mul m 32
  have e4 : nI (32 * m) + fa (nI p).toNatClampNeg = nI (32 * m + r) := by rw [z, hf, nI_add]
  have zr : vv (nI (32 * m + r)).toNatClampNeg = ro r := by rw [z4, hC r (by omega)]
  exact nm_r e3 ⟨wp, nm_r e4 ⟨wp, nm_r (e' := fb p) (by rw [z]) (nm_r (nI_1 p) ⟨wp, nm_r (e' := 5) (by rw [z, ho]) (br_f (by decide) (br_f (by decide) (br_f (by decide) (br_f (by decide) (br_f (by decide) (br_f (by decide) (br_f (by decide) (br_t rfl ⟨v4, br_c (fun y => h1 (zr.symm.trans y)) (fun y => h2 (fun y2 => y (zr.trans y2)))⟩))))))))⟩)⟩⟩
theorem rd_xw6 {p r : Nat} {post : Int32 → SX → Prop} (hm : m < 12) (hp : p < 16) (hr : r < 4) (ho : o p = 6) (hf : fa p = nI r)  (h : post (fb p) (xl, xi, o, fa, fb, xk, xp, vv, sc, hh)) : wpX_carryOut post (xl, xi, o, fa, fb, xk, xp, vv, sc, hh) (nI m) (nI p) := by
  have z : (nI p).toNatClampNeg = p := nI_clamp (by omega)
  have wp : vp_in (nI p) 16 := vp_in_nI hp (by decide)
  have v4 : vp_in (nI (32 * m + r)) 384 := vp_in_nI (by omega) (by decide)
  have z4 : (nI (32 * m + r)).toNatClampNeg = 32 * m + rd_cx r := by rw [nI_clamp (by omega), rd_cx_lo hr]
  have e3 : nI m * 32 = nI (32 * m) := by rw [Nat.mul_comm 32 m]; exact pk_mul m 32
  have e4 : nI (32 * m) + fa (nI p).toNatClampNeg = nI (32 * m + r) := by rw [z, hf, nI_add]
  exact nm_r e3 ⟨wp, nm_r e4 ⟨wp, nm_r (e' := fb p) (by rw [z]) (nm_r (nI_1 p) ⟨wp, nm_r (e' := 6) (by rw [z, ho]) (br_f (by decide) (br_f (by decide) (br_f (by decide) (br_f (by decide) (br_f (by decide) (br_f (by decide) (br_f (by decide) (br_f (by decide) (br_t rfl h)))))))))⟩)⟩⟩
theorem rd_xw7 {p r : Nat} {post : Int32 → SX → Prop} (hm : m < 12) (hp : p < 16) (hr : r < 4) (ho : o p = 7) (hf : fa p = nI r) (hC : rd_Cell vv m ro) {c : Nat} (hc : sc m = nI c) (hcn : c < 2 ^ 30) (h : post (nI (p + 1)) (xl, xi, o, fa, fb, xk, xp, vv, upd sc m (nI (c + 1)), upd hh (8 * m + c % 8) (ro r))) : wpX_carryOut post (xl, xi, o, fa, fb, xk, xp, vv, sc, hh) (nI m) (nI p) := by
  have z : (nI p).toNatClampNeg = p := nI_clamp (by omega)
  have wp : vp_in (nI p) 16 := vp_in_nI hp (by decide)
  have v4 : vp_in (nI (32 * m + r)) 384 := vp_in_nI (by omega) (by decide)
  have z4 : (nI (32 * m + r)).toNatClampNeg = 32 * m + rd_cx r := by rw [nI_clamp (by omega), rd_cx_lo hr]
  have e3 : nI m * 32 = nI (32 * m) := by rw [Nat.mul_comm 32 m]; exact pk_mul m 32
  have e4 : nI (32 * m) + fa (nI p).toNatClampNeg = nI (32 * m + r) := by rw [z, hf, nI_add]
  have zr : vv (nI (32 * m + r)).toNatClampNeg = ro r := by rw [z4, hC r (by omega)]
  exact nm_r e3 ⟨wp, nm_r e4 ⟨wp, nm_r (e' := fb p) (by rw [z]) (nm_r (nI_1 p) ⟨wp, nm_r (e' := 7) (by rw [z, ho]) (br_f (by decide) (br_f (by decide) (br_f (by decide) (br_f (by decide) (br_f (by decide) (br_f (by decide) (br_f (by decide) (br_f (by decide) (br_f (by decide) (br_t rfl ⟨v4, rd_xsay hm hc hcn (by rw [zr]; exact h)⟩))))))))))⟩)⟩⟩
theorem rd_yw0 {p r : Nat} {post : SY → Prop} (hr : r < 4) {b : Int32} (h : post (yl, nI (p + 1), yc, o, fa, fb, th, yk, yq, yn, ce, sa, upd ro r b, ta)) : wpY_carryOut post (yl, nI p, yc, o, fa, fb, th, yk, yq, yn, ce, sa, ro, ta) 0 (nI r) b := by
  have z4 : (nI r).toNatClampNeg = r := nI_clamp (by omega)
  have v4 : vp_in (nI r) 20 := vp_in_nI (by omega) (by decide)
  exact nm_r (nI_1 p) (br_t rfl ⟨v4, nm_r (by rw [z4]) h⟩)
theorem rd_yw1 {p r : Nat} {post : SY → Prop} (hr : r < 4) {s : Nat} (hs : s < 4) (h : post (yl, nI (p + 1), yc, o, fa, fb, th, yk, yq, yn, ce, sa, upd ro r (ro r + ro s), ta)) : wpY_carryOut post (yl, nI p, yc, o, fa, fb, th, yk, yq, yn, ce, sa, ro, ta) 1 (nI r) (nI s) := by
  have z4 : (nI r).toNatClampNeg = r := nI_clamp (by omega)
  have v4 : vp_in (nI r) 20 := vp_in_nI (by omega) (by decide)
  have zb : (nI s &&& 3).toNatClampNeg = s := by rw [rd_and3 hs, nI_clamp (by omega)]
  have vb : vp_in (nI s &&& 3) 20 := by
    rw [rd_and3 hs]
    exact vp_in_nI (by omega) (by decide)
  exact nm_r (nI_1 p) (br_f (by decide) (br_t rfl ⟨v4, vb, v4, nm_r (by rw [z4, zb]) h⟩))
theorem rd_yw2 {p r : Nat} {post : SY → Prop} (hr : r < 4) {s : Nat} (hs : s < 4) (h : post (yl, nI (p + 1), yc, o, fa, fb, th, yk, yq, yn, ce, sa, upd ro r (ro r - ro s), ta)) : wpY_carryOut post (yl, nI p, yc, o, fa, fb, th, yk, yq, yn, ce, sa, ro, ta) 2 (nI r) (nI s) := by
  have z4 : (nI r).toNatClampNeg = r := nI_clamp (by omega)
  have v4 : vp_in (nI r) 20 := vp_in_nI (by omega) (by decide)
  have zb : (nI s &&& 3).toNatClampNeg = s := by rw [rd_and3 hs, nI_clamp (by omega)]
  have vb : vp_in (nI s &&& 3) 20 := by
    rw [rd_and3 hs]
    exact vp_in_nI (by omega) (by decide)
  exact nm_r (nI_1 p) (br_f (by decide) (br_f (by decide) (br_t rfl ⟨v4, vb, v4, nm_r (by rw [z4, zb]) h⟩)))
theorem rd_yw3 {p r : Nat} {post : SY → Prop} (hr : r < 4) {s : Nat} (hs : s < 4) {e : Nat} (he : e < 16) (hee : ro s &&& 15 = nI e) (h : post (yl, nI (p + 1), yc, o, fa, fb, th, yk, yq, yn, ce, sa, upd ro r (ro (4 + e)), ta)) : wpY_carryOut post (yl, nI p, yc, o, fa, fb, th, yk, yq, yn, ce, sa, ro, ta) 3 (nI r) (nI s) := by
  have z4 : (nI r).toNatClampNeg = r := nI_clamp (by omega)
  have v4 : vp_in (nI r) 20 := vp_in_nI (by omega) (by decide)
  have zb : (nI s &&& 3).toNatClampNeg = s := by rw [rd_and3 hs, nI_clamp (by omega)]
  have vb : vp_in (nI s &&& 3) 20 := by
    rw [rd_and3 hs]
    exact vp_in_nI (by omega) (by decide)
  have ee : 4 + (ro (nI s &&& 3).toNatClampNeg &&& 15) = nI (4 + e) := by
    rw [zb, hee]
    exact nI_add 4 e
  have ze : (nI (4 + e)).toNatClampNeg = 4 + e := nI_clamp (by omega)
  have vc : vp_in (4 + (ro (nI s &&& 3).toNatClampNeg &&& 15)) 20 := by
    rw [ee]
    exact vp_in_nI (by omega) (by decide)
  exact nm_r (nI_1 p) (br_f (by decide) (br_f (by decide) (br_f (by decide) (br_t rfl ⟨vb, vc, v4, nm_r (by rw [ee, ze, z4]) h⟩))))
theorem rd_yw4 {p r : Nat} {post : SY → Prop} (hr : r < 4) {s : Nat} (hs : s < 4) {e : Nat} (he : e < 16) (hee : ro s &&& 15 = nI e) (h : post (yl, nI (p + 1), yc, o, fa, fb, th, yk, yq, yn, ce, sa, upd ro (4 + e) (ro r), ta)) : wpY_carryOut post (yl, nI p, yc, o, fa, fb, th, yk, yq, yn, ce, sa, ro, ta) 4 (nI r) (nI s) := by
  have z4 : (nI r).toNatClampNeg = r := nI_clamp (by omega)
  have v4 : vp_in (nI r) 20 := vp_in_nI (by omega) (by decide)
  have zb : (nI s &&& 3).toNatClampNeg = s := by rw [rd_and3 hs, nI_clamp (by omega)]
  have vb : vp_in (nI s &&& 3) 20 := by
    rw [rd_and3 hs]
    exact vp_in_nI (by omega) (by decide)
  have ee : 4 + (ro (nI s &&& 3).toNatClampNeg &&& 15) = nI (4 + e) := by
    rw [zb, hee]
    exact nI_add 4 e
  have ze : (nI (4 + e)).toNatClampNeg = 4 + e := nI_clamp (by omega)
  have vc : vp_in (4 + (ro (nI s &&& 3).toNatClampNeg &&& 15)) 20 := by
    rw [ee]
    exact vp_in_nI (by omega) (by decide)
  exact nm_r (nI_1 p) (br_f (by decide) (br_f (by decide) (br_f (by decide) (br_f (by decide) (br_t rfl ⟨vb, v4, vc, nm_r (by rw [ee, ze, z4]) h⟩)))))
theorem rd_yw5 {p r : Nat} {post : SY → Prop} (hr : r < 4) {b : Int32} (h1 : ro r = 0 → post (yl, b, yc, o, fa, fb, th, yk, yq, yn, ce, sa, ro, ta)) (h2 : ¬ ro r = 0 → post (yl, nI (p + 1), yc, o, fa, fb, th, yk, yq, yn, ce, sa, ro, ta)) : wpY_carryOut post (yl, nI p, yc, o, fa, fb, th, yk, yq, yn, ce, sa, ro, ta) 5 (nI r) b := by
  have z4 : (nI r).toNatClampNeg = r := nI_clamp (by omega)
  have v4 : vp_in (nI r) 20 := vp_in_nI (by omega) (by decide)
  have zr : ro (nI r).toNatClampNeg = ro r := by rw [z4]
  exact nm_r (nI_1 p) (br_f (by decide) (br_f (by decide) (br_f (by decide) (br_f (by decide) (br_f (by decide) (br_t rfl ⟨v4, br_c (fun y => h1 (zr.symm.trans y)) (fun y => h2 (fun y2 => y (zr.trans y2)))⟩))))))
theorem rd_yw6 {p r : Nat} {post : SY → Prop} (hr : r < 4) {b : Int32} (h : post (yl, b, yc, o, fa, fb, th, yk, yq, yn, ce, sa, ro, ta)) : wpY_carryOut post (yl, nI p, yc, o, fa, fb, th, yk, yq, yn, ce, sa, ro, ta) 6 (nI r) b := by
  have z4 : (nI r).toNatClampNeg = r := nI_clamp (by omega)
  have v4 : vp_in (nI r) 20 := vp_in_nI (by omega) (by decide)
  exact nm_r (nI_1 p) (br_f (by decide) (br_f (by decide) (br_f (by decide) (br_f (by decide) (br_f (by decide) (br_f (by decide) (br_t rfl h)))))))
theorem rd_yw7 {p r : Nat} {post : SY → Prop} (hr : r < 4) {b : Int32} (h : wY_carryOut_191 post (nI r) (nI (p + 1)) yl (nI p) yc 8 7 o fa fb th yk yq yn ce sa ro ta) : wpY_carryOut post (yl, nI p, yc, o, fa, fb, th, yk, yq, yn, ce, sa, ro, ta) 7 (nI r) b := by
  have z4 : (nI r).toNatClampNeg = r := nI_clamp (by omega)
  have v4 : vp_in (nI r) 20 := vp_in_nI (by omega) (by decide)
  exact nm_r (nI_1 p) (br_f (by decide) (br_f (by decide) (br_f (by decide) (br_f (by decide) (br_f (by decide) (br_f (by decide) (br_f (by decide) (br_t rfl ⟨8, h⟩))))))))
theorem rd_carry {p : Nat} (hm : m < 12) (hp : p < 16) (hI : rd_Ins (o p) (fa p) (fb p)) (h9 : ¬ o p = 9) (h8 : ¬ o p = 8) (hn : n < 2 ^ 30) (hR : rd_Run n m v0 s0 h0 vv sc hh yc ro ta) : ∃ (y : Int32) (vv' sc' hh' : Nat → Int32) (yc' : Int32) (ro' ta' : Nat → Int32), (∀ post : Int32 → SX → Prop, post y (xl, xi, o, fa, fb, xk, xp, vv', sc', hh') → wpX_carryOut post (xl, xi, o, fa, fb, xk, xp, vv, sc, hh) (nI m) (nI p)) ∧ (∀ post : SY → Prop, post (yl, y, yc', o, fa, fb, th, yk, yq, yn, ce, sa, ro', ta') → wpY_carryOut post (yl, nI p, yc, o, fa, fb, th, yk, yq, yn, ce, sa, ro, ta) (o p) (fa p &&& 3) (fb p)) ∧ rd_Run (n + 1) m v0 s0 h0 vv' sc' hh' yc' ro' ta' := by
  obtain ⟨q, r, hq, hr, ho, hf, hb⟩ := hI
  have hA : fa p &&& 3 = nI r := by
    rw [hf]
    exact rd_and3 hr
  have hC : rd_Cell vv m ro := hR.2.2.2.2.1
  have hR1 := rd_run_mono hR (Nat.le_succ n)
  have q8 : q ≠ 8 := fun z => h8 (by rw [ho, z]; rfl)
  have q9 : q ≠ 9 := fun z => h9 (by rw [ho, z]; rfl)
  have q7 : q = 0 ∨ q = 1 ∨ q = 2 ∨ q = 3 ∨ q = 4 ∨ q = 5 ∨ q = 6 ∨ q = 7 := by omega
  rcases q7 with rfl | rfl | rfl | rfl | rfl | rfl | rfl | rfl
  · refine ⟨nI (p + 1), _, sc, hh, yc, _, ta, fun post h => rd_xw0 hm hp hr ho hf h, fun post h => ?_, rd_run_u hR1 (j := r) (by omega) (fb p)⟩
    rw [hA, ho]
    exact rd_yw0 hr h
  · obtain ⟨s, hs, hbs⟩ := hb (by omega) (by omega)
    refine ⟨nI (p + 1), _, sc, hh, yc, _, ta, fun post h => rd_xw1 hm hp hr ho hf hs hbs hC h, fun post h => ?_, rd_run_u hR1 (j := r) (by omega) (ro r + ro s)⟩
    rw [hA, ho, hbs]
    exact rd_yw1 hr hs h
  · obtain ⟨s, hs, hbs⟩ := hb (by omega) (by omega)
    refine ⟨nI (p + 1), _, sc, hh, yc, _, ta, fun post h => rd_xw2 hm hp hr ho hf hs hbs hC h, fun post h => ?_, rd_run_u hR1 (j := r) (by omega) (ro r - ro s)⟩
    rw [hA, ho, hbs]
    exact rd_yw2 hr hs h
  · obtain ⟨s, hs, hbs⟩ := hb (by omega) (by omega)
    obtain ⟨e, he, hee⟩ := rd_andE (ro s)
    refine ⟨nI (p + 1), _, sc, hh, yc, _, ta, fun post h => rd_xw3 hm hp hr ho hf hs hbs hC he hee h, fun post h => ?_, rd_run_u hR1 (j := r) (by omega) (ro (4 + e))⟩
    rw [hA, ho, hbs]
    exact rd_yw3 hr hs he hee h
  · obtain ⟨s, hs, hbs⟩ := hb (by omega) (by omega)
    obtain ⟨e, he, hee⟩ := rd_andE (ro s)
    refine ⟨nI (p + 1), _, sc, hh, yc, _, ta, fun post h => rd_xw4 hm hp hr ho hf hs hbs hC he hee h, fun post h => ?_, rd_run_u hR1 (j := 4 + e) (by omega) (ro r)⟩
    rw [hA, ho, hbs]
    exact rd_yw4 hr hs he hee h
  · by_cases z : ro r = 0
    · refine ⟨fb p, vv, sc, hh, yc, ro, ta, fun post h => rd_xw5 hm hp hr ho hf hC (fun _ => h) (fun y => absurd z y), fun post h => ?_, hR1⟩
      rw [hA, ho]
      exact rd_yw5 hr (fun _ => h) (fun y => absurd z y)
    · refine ⟨nI (p + 1), vv, sc, hh, yc, ro, ta, fun post h => rd_xw5 hm hp hr ho hf hC (fun y => absurd y z) (fun _ => h), fun post h => ?_, hR1⟩
      rw [hA, ho]
      exact rd_yw5 hr (fun y => absurd y z) (fun _ => h)
  · refine ⟨fb p, vv, sc, hh, yc, ro, ta, fun post h => rd_xw6 hm hp hr ho hf h, fun post h => ?_, hR1⟩
    rw [hA, ho]
    exact rd_yw6 hr h
  · obtain ⟨c, hcn, hc, _, _⟩ := hR.2.2.2.2.2
    obtain ⟨ta', a, b, d⟩ := rd_ysay (yl := yl) (yp := nI p) (yc := yc) (o := o) (fa := fa) (fb := fb) (th := th) (yk := yk) (yq := yq) (yn := yn) (ce := ce) (sa := sa) (ro := ro) (ta := ta) (r := r) (by omega) (x4 := nI (p + 1))
    refine ⟨nI (p + 1), vv, _, _, yc + 1, ro, ta', fun post h => rd_xw7 hm hp hr ho hf hC hc (by omega) h, fun post h => ?_, rd_run_s hR hn hc hcn b d⟩
    rw [hA, ho]
    exact rd_yw7 hr (a post h)
end
end
section
/-! the stretch, both sides in step -/
def rd_Mom (k L : Nat) (xk xp vv sc hh yk yq yn ce sa : Nat → Int32) (m : Nat) : Prop :=
  xk m = yk m ∧ xp m = yq m ∧ (xk m = 2 → ∃ p : Nat, p < L ∧ xp m = nI p) ∧ rd_Cell vv m (fun i => ce (20 * m + i)) ∧ ∃ c, c ≤ 15 * k ∧ sc m = nI c ∧ yn m = nI c ∧ rd_Tail hh m c (fun j => sa (8 * m + j))
/-- one program; the mask and the flags name the same moments; each has on both sides one kind, place, row, count, and the last eight said; the row's gap holds 0 -/
def i_Rel (k : Nat) (u : SX) (v : SY) : Prop := match u, v with
  | (xl, xi, o, fa, fb, xk, xp, vv, sc, hh), (yl, _, _, o', fa', fb', th, yk, yq, yn, ce, sa, _, _) => ∃ L : Nat, xl = nI L ∧ yl = nI L ∧ o' = o ∧ fa' = fa ∧ fb' = fb ∧ L ≤ 16 ∧ rd_Prog L o fa fb ∧ rd_Mask xi th ∧ (∀ m, m < 12 → rd_Gap vv m) ∧ (∀ m, m < 12 → th m ≠ 0 → rd_Mom k L xk xp vv sc hh yk yq yn ce sa m)
section
variable {xl xi : Int32} {o fa fb xk xp vv sc hh : Nat → Int32} {yl yp yc : Int32} {th yk yq yn ce sa ro ta : Nat → Int32} {v0 s0 h0 : Nat → Int32} {n m L k : Nat}
theorem rd_mom_up {k' : Nat} (h : rd_Mom k L xk xp vv sc hh yk yq yn ce sa m) (hk : k ≤ k') : rd_Mom k' L xk xp vv sc hh yk yq yn ce sa m := by
  obtain ⟨a, b, c, d, q, hq, e⟩ := h
  exact ⟨a, b, c, d, q, by omega, e⟩
theorem rd_mom_fr {j : Nat} {a b c : Int32} {ce' sa' : Nat → Int32} (h : rd_Mom k L xk xp v0 s0 h0 yk yq yn ce sa j) (hj : j ≠ m) (f1 : rd_Fr 32 m vv v0) (f2 : rd_Fr 1 m sc s0) (f3 : rd_Fr 8 m hh h0) (f4 : rd_Fr 20 m ce' ce) (f5 : rd_Fr 8 m sa' sa) : rd_Mom k L (upd xk m a) (upd xp m b) vv sc hh (upd yk m a) (upd yq m b) (upd yn m c) ce' sa' j := by
  obtain ⟨h1, h2, h3, h4, q, hq, h5, h6, h7⟩ := h
  unfold rd_Mom
  rw [pk_un hj, pk_un hj, pk_un hj, pk_un hj, pk_un hj]
  refine ⟨h1, h2, h3, ?_, q, hq, ?_, h6, ?_⟩
  · intro i hi
    show vv (32 * j + rd_cx i) = ce' (20 * j + i)
    rw [rd_fr_cell f1 hj h4 i hi, f4 (20 * j + i) (by omega)]
  · rw [f2 j (by omega), h5]
  · intro i h8 hc
    show hh (8 * j + (q - 1 - i) % 8) = sa' (8 * j + i)
    rw [rd_fr_tail f3 hj h7 i h8 hc, f5 (8 * j + i) (by omega)]
theorem rd_eb0 {post : Int32 → Prop} {p c : Int32} (hp : p < 0 ∨ (¬ p < 0 ∧ ¬ p < xl)) (h : post 0) : wpX_endBefore post (xl, xi, o, fa, fb, xk, xp, vv, sc, hh) p c := by
  rcases hp with a | ⟨a, b⟩
  · exact br_t a h
  · exact br_f a (br_f b h)
theorem rd_eb1 {post : Int32 → Prop} {j : Nat} {c : Int32} (hj : j < 16) (hl : nI j < xl) (ho : o j = 9) (h : post 1) : wpX_endBefore post (xl, xi, o, fa, fb, xk, xp, vv, sc, hh) (nI j) c :=
  br_f (nI_pos (by omega)) (br_t hl ⟨vp_in_nI hj (by decide), br_t (by rw [nI_clamp (by omega)]; exact ho) h⟩)
theorem rd_eb2 {post : Int32 → Prop} {j : Nat} {c : Int32} (hj : j < 16) (hl : nI j < xl) (h9 : ¬ o j = 9) (ho : o j = 8) (h : post 2) : wpX_endBefore post (xl, xi, o, fa, fb, xk, xp, vv, sc, hh) (nI j) c :=
  br_f (nI_pos (by omega)) (br_t hl ⟨vp_in_nI hj (by decide), br_f (by rw [nI_clamp (by omega)]; exact h9) ⟨vp_in_nI hj (by decide), br_t (by rw [nI_clamp (by omega)]; exact ho) h⟩⟩)
theorem rd_eb3 {post : Int32 → Prop} {j t : Nat} (hj : j < 16) (hl : nI j < xl) (h9 : ¬ o j = 9) (h8 : ¬ o j = 8) (ht : 60 ≤ t) (ht2 : t < 2 ^ 31) (h : post 3) : wpX_endBefore post (xl, xi, o, fa, fb, xk, xp, vv, sc, hh) (nI j) (nI t) :=
  br_f (nI_pos (by omega)) (br_t hl ⟨vp_in_nI hj (by decide), br_f (by rw [nI_clamp (by omega)]; exact h9) ⟨vp_in_nI hj (by decide), br_f (by rw [nI_clamp (by omega)]; exact h8) (br_f (nI_nlt (b := 60) ht ht2) h)⟩⟩)
theorem rd_ebm {post : Int32 → Prop} {j t : Nat} (hj : j < 16) (hl : nI j < xl) (h9 : ¬ o j = 9) (h8 : ¬ o j = 8) (ht : t < 60) (h : post (-1)) : wpX_endBefore post (xl, xi, o, fa, fb, xk, xp, vv, sc, hh) (nI j) (nI t) :=
  br_f (nI_pos (by omega)) (br_t hl ⟨vp_in_nI hj (by decide), br_f (by rw [nI_clamp (by omega)]; exact h9) ⟨vp_in_nI hj (by decide), br_f (by rw [nI_clamp (by omega)]; exact h8) (br_t (nI_lt (b := 60) ht (by decide)) h)⟩⟩)
theorem rd_yend {post : SY → Prop} {x1 kd x4 : Int32} {f : Nat} (h : wY_stretch_142 post x1 kd yl yp yc o fa fb th yk yq yn ce sa ro ta) : wY_stretch_7 post x1 (f + 1) kd 0 x4 yl yp yc o fa fb th yk yq yn ce sa ro ta := by
  by_cases a : 60 < x4
  · exact br_t a h
  · exact br_f a (br_t rfl h)
theorem rd_pos (hL : L ≤ 16) (p : Int32) : (∃ kd : Int32, kd ≠ -1 ∧ (kd = 2 → ∃ q : Nat, q < L ∧ p = nI q) ∧ (∀ (vv sc hh : Nat → Int32) (Q : Int32 → Prop) (c : Int32), Q kd → wpX_endBefore Q (nI L, xi, o, fa, fb, xk, xp, vv, sc, hh) p c) ∧ (∀ (yc : Int32) (ro ta : Nat → Int32) (post : SY → Prop) (t f : Nat), t ≤ 60 → wY_stretch_142 post (nI m) kd (nI L) p yc o fa fb th yk yq yn ce sa ro ta → wY_stretch_7 post (nI m) (f + 2) 3 1 (nI t) (nI L) p yc o fa fb th yk yq yn ce sa ro ta)) ∨ (∃ j : Nat, j < L ∧ p = nI j ∧ ¬ o j = 9 ∧ ¬ o j = 8) := by
  have h60 : ∀ t : Nat, t ≤ 60 → ¬ (60 : Int32) < nI t := fun t ht => nI_nlt (a := 60) (b := t) ht (by decide)
  have n10 : ¬ (1 : Int32) = 0 := by decide
  by_cases a : p < 0
  · exact Or.inl ⟨0, by decide, fun y => absurd y (by decide), fun vv sc hh Q c hQ => rd_eb0 (Or.inl a) hQ, fun yc ro ta post t f ht h => br_f (h60 t ht) (br_f n10 (br_t a (nm_e (rd_yend h))))⟩
  · obtain ⟨j, hj, rfl⟩ := nI_of a
    by_cases b : j < L
    · have hl : nI j < nI L := nI_lt b (by omega)
      have z : (nI j).toNatClampNeg = j := nI_clamp hj
      have w : vp_in (nI j) 16 := vp_in_nI (by omega) (by decide)
      by_cases h9 : o j = 9
      · have h9' : o (nI j).toNatClampNeg = 9 := by rw [z]; exact h9
        exact Or.inl ⟨1, by decide, fun y => absurd y (by decide), fun vv sc hh Q c hQ => rd_eb1 (by omega) hl h9 hQ, fun yc ro ta post t f ht h => br_f (h60 t ht) (br_f n10 (br_f a (br_t hl ⟨w, br_t h9' ⟨w, br_t h9' (nm_e (rd_yend h))⟩⟩)))⟩
      · have h9' : ¬ o (nI j).toNatClampNeg = 9 := by rw [z]; exact h9
        by_cases h8 : o j = 8
        · have h8' : o (nI j).toNatClampNeg = 8 := by rw [z]; exact h8
          exact Or.inl ⟨2, by decide, fun _ => ⟨j, b, rfl⟩, fun vv sc hh Q c hQ => rd_eb2 (by omega) hl h9 h8 hQ, fun yc ro ta post t f ht h => br_f (h60 t ht) (br_f n10 (br_f a (br_t hl ⟨w, br_f h9' ⟨w, br_t h8' ⟨w, br_f h9' (nm_e (rd_yend h))⟩⟩⟩)))⟩
        · exact Or.inr ⟨j, b, rfl, h9, h8⟩
    · have hl : ¬ nI j < nI L := nI_nlt (by omega) hj
      exact Or.inl ⟨0, by decide, fun y => absurd y (by decide), fun vv sc hh Q c hQ => rd_eb0 (Or.inr ⟨a, hl⟩) hQ, fun yc ro ta post t f ht h => br_f (h60 t ht) (br_f n10 (br_f a (br_f hl (nm_e (rd_yend h)))))⟩
theorem rd_lock (hm : m < 12) (hL : L ≤ 16) (hP : rd_Prog L o fa fb) (hn : n + 60 < 2 ^ 30) : ∀ d t : Nat, t + d = 60 → ∀ (p : Int32) (vv sc hh : Nat → Int32) (yc : Int32) (ro ta : Nat → Int32), rd_Run (n + t) m v0 s0 h0 vv sc hh yc ro ta → ∃ (kd pf : Int32) (vv' sc' hh' : Nat → Int32) (yc' : Int32) (ro' ta' : Nat → Int32), (∀ (post : SX → Prop) (Q : Int32 → Prop), (∀ r, wX_runStretch_13 post (nI m) (d + 1) p r (nI (t + 1)) (nI L) xi o fa fb xk xp vv sc hh → Q r) → wX_runStretch_48 post (nI m) pf kd (nI L) xi o fa fb xk xp vv' sc' hh' → wpX_endBefore Q (nI L, xi, o, fa, fb, xk, xp, vv, sc, hh) p (nI t)) ∧ (∀ post : SY → Prop, wY_stretch_142 post (nI m) kd (nI L) pf yc' o fa fb th yk yq yn ce sa ro' ta' → wY_stretch_7 post (nI m) (d + 2) 3 1 (nI t) (nI L) p yc o fa fb th yk yq yn ce sa ro ta) ∧ rd_Run (n + 60) m v0 s0 h0 vv' sc' hh' yc' ro' ta' ∧ (kd = 2 → ∃ q : Nat, q < L ∧ pf = nI q) := by
  intro d
  induction d with
  | zero =>
    intro t ht p vv sc hh yc ro ta hR
    rcases rd_pos (xi := xi) (o := o) (fa := fa) (fb := fb) (xk := xk) (xp := xp) (th := th) (yk := yk) (yq := yq) (yn := yn) (ce := ce) (sa := sa) (m := m) hL p with ⟨kd, hk1, hk2, hX, hY⟩ | ⟨j, hj, rfl, h9, h8⟩
    · exact ⟨kd, p, vv, sc, hh, yc, ro, ta, fun post Q hQ h => hX vv sc hh Q _ (hQ kd (br_f hk1 h)), fun post h => hY yc ro ta post t 0 (by omega) h, rd_run_mono hR (by omega), hk2⟩
    · have z : (nI j).toNatClampNeg = j := nI_clamp (by omega)
      have w : vp_in (nI j) 16 := vp_in_nI (by omega) (by decide)
      have hl : nI j < nI L := nI_lt hj (by omega)
      have h9' : ¬ o (nI j).toNatClampNeg = 9 := by rw [z]; exact h9
      have h8' : ¬ o (nI j).toNatClampNeg = 8 := by rw [z]; exact h8
      refine ⟨3, nI j, vv, sc, hh, yc, ro, ta, fun post Q hQ h => rd_eb3 (by omega) hl h9 h8 (by omega) (by omega) (hQ 3 (br_f (by decide) h)), fun post h => ?_, rd_run_mono hR (by omega), fun y => absurd y (by decide)⟩
      exact br_f (nI_nlt (a := 60) (b := t) (by omega) (by decide)) (br_f (by decide) (br_f (nI_pos (by omega)) (br_t hl ⟨w, br_f h9' ⟨w, br_f h8' (br_t (nI_le (a := 60) (by omega) (by omega)) (nm_r (nI_1 t) (br_t (nI_lt (a := 60) (by omega) (by omega)) h)))⟩⟩)))
  | succ d ih =>
    intro t ht p vv sc hh yc ro ta hR
    rcases rd_pos (xi := xi) (o := o) (fa := fa) (fb := fb) (xk := xk) (xp := xp) (th := th) (yk := yk) (yq := yq) (yn := yn) (ce := ce) (sa := sa) (m := m) hL p with ⟨kd, hk1, hk2, hX, hY⟩ | ⟨j, hj, rfl, h9, h8⟩
    · exact ⟨kd, p, vv, sc, hh, yc, ro, ta, fun post Q hQ h => hX vv sc hh Q _ (hQ kd (br_f hk1 h)), fun post h => hY yc ro ta post t (d + 1) (by omega) h, rd_run_mono hR (by omega), hk2⟩
    · have z : (nI j).toNatClampNeg = j := nI_clamp (by omega)
      have w : vp_in (nI j) 16 := vp_in_nI (by omega) (by decide)
      have hl : nI j < nI L := nI_lt hj (by omega)
      have h9' : ¬ o (nI j).toNatClampNeg = 9 := by rw [z]; exact h9
      have h8' : ¬ o (nI j).toNatClampNeg = 8 := by rw [z]; exact h8
      obtain ⟨y, vv1, sc1, hh1, yc1, ro1, ta1, cX, cY, hR1⟩ := rd_carry (xl := nI L) (xi := xi) (o := o) (fa := fa) (fb := fb) (xk := xk) (xp := xp) (yl := nI L) (th := th) (yk := yk) (yq := yq) (yn := yn) (ce := ce) (sa := sa) hm (by omega : j < 16) (hP j hj) h9 h8 (by omega) hR
      obtain ⟨kd, pf, vv2, sc2, hh2, yc2, ro2, ta2, lX, lY, hR2, hk2⟩ := ih (t + 1) (by omega) y vv1 sc1 hh1 yc1 ro1 ta1 hR1
      refine ⟨kd, pf, vv2, sc2, hh2, yc2, ro2, ta2, fun post Q hQ h => rd_ebm (by omega) hl h9 h8 (by omega) (hQ (-1) ?_), fun post h => ?_, hR2, hk2⟩
      · refine br_t rfl (br_f (nI_nlt (a := 60) (b := t + 1) (by omega) (by decide)) (cX _ ?_))
        exact lX post _ (fun r hr => nm_r (nI_1 (t + 1)) hr) h
      · refine br_f (nI_nlt (a := 60) (b := t) (by omega) (by decide)) (br_f (by decide) (br_f (nI_pos (by omega)) (br_t hl ⟨w, br_f h9' ⟨w, br_f h8' (br_f (nI_ge (a := t) (b := 60) (by omega) (by decide)) ⟨w, w, w, ?_⟩)⟩⟩)))
        rw [z]
        exact cY _ (nm_r (nI_1 t) (lY post h))
theorem rd_stretch (hm : m < 12) (hL : L ≤ 16) (hP : rd_Prog L o fa fb) (hk : k + 4 ≤ 2048) (hM : rd_Mask xi th) (hG : ∀ j, j < 12 → rd_Gap v0 j) (hK : ∀ j, j < 12 → th j ≠ 0 → rd_Mom k L xk xp v0 s0 h0 yk yq yn ce sa j) (p : Int32) (hR : rd_Run (15 * k) m v0 s0 h0 vv sc hh yc ro ta) : ∃ (xi' : Int32) (xk' xp' vv' sc' hh' : Nat → Int32) (yp' yc' : Int32) (th' yk' yq' yn' ce' sa' ro' ta' : Nat → Int32), (∀ post : SX → Prop, post (nI L, xi', o, fa, fb, xk', xp', vv', sc', hh') → wpX_runStretch post (nI L, xi, o, fa, fb, xk, xp, vv, sc, hh) (nI m) p) ∧ (∀ post : SY → Prop, post (nI L, yp', yc', o, fa, fb, th', yk', yq', yn', ce', sa', ro', ta') → wpY_stretch post (nI L, p, yc, o, fa, fb, th, yk, yq, yn, ce, sa, ro, ta) (nI m)) ∧ i_Rel (k + 4) (nI L, xi', o, fa, fb, xk', xp', vv', sc', hh') (nI L, yp', yc', o, fa, fb, th', yk', yq', yn', ce', sa', ro', ta') := by
  obtain ⟨kd, pf, vv2, sc2, hh2, yc2, ro2, ta2, lX, lY, hR2, hk2⟩ := rd_lock (xi := xi) (xk := xk) (xp := xp) (th := th) (yk := yk) (yq := yq) (yn := yn) (ce := ce) (sa := sa) (v0 := v0) (s0 := s0) (h0 := h0) (n := 15 * k) hm hL hP (by omega) 60 0 rfl p vv sc hh yc ro ta hR
  obtain ⟨ce2, sa2, aY, b1, b2, f4, f5⟩ := rd_ylay (yl := nI L) (yp := pf) (yc := yc2) (o := o) (fa := fa) (fb := fb) (th := th) (yk := yk) (yq := yq) (yn := yn) (ce := ce) (sa := sa) (ro := ro2) (ta := ta2) hm
  have z : (nI m).toNatClampNeg = m := nI_clamp (by omega)
  have w : vp_in (nI m) 12 := vp_in_nI hm (by decide)
  refine ⟨xi ||| ((1 : Int32) <<< (nI m &&& 31)), upd xk m kd, upd xp m pf, vv2, sc2, hh2, pf, yc2, upd th m (vp_nar .boolean 1), upd yk m kd, upd yq m pf, upd yn m yc2, ce2, sa2, ro2, ta2, fun post h => ?_, fun post h => ?_, ?_⟩
  · refine lX post (fun r => ∃ n13 : Nat, wX_runStretch_13 post (nI m) n13 p r 1 (nI L) xi o fa fb xk xp vv sc hh) (fun r hr => ⟨61, hr⟩) ?_
    exact ⟨w, nm_r (by rw [z]) ⟨w, nm_r (by rw [z]) (nm_e h)⟩⟩
  · exact ⟨62, lY post (aY post kd h)⟩
  · obtain ⟨f1, f2, f3, g1, g2, c, hc, e1, e2, e3⟩ := hR2
    refine ⟨L, rfl, rfl, rfl, rfl, rfl, hL, hP, rd_mset hM hm rd_nar1, fun j hj => ?_, fun j hj ht => ?_⟩
    · by_cases e : j = m
      · rw [e]
        exact g1
      · exact rd_fr_gap f1 e (hG j hj)
    · by_cases e : j = m
      · subst e
        unfold rd_Mom
        rw [pk_us, pk_us, pk_us, pk_us, pk_us]
        exact ⟨rfl, rfl, hk2, fun i hi => (g2 i hi).trans (b1 i hi).symm, c, by omega, e1, e2, fun i h8 hi => (e3 i h8 hi).trans (b2 i h8).symm⟩
      · rw [pk_un e] at ht
        exact rd_mom_up (rd_mom_fr (hK j hj ht) e f1 f2 f3 f4 f5) (by omega)
end
end
section
/-! the calls that only read -/
theorem i_up {k : Nat} {u : SX} {v : SY} (h : i_Rel k u v) : i_Rel (k + 4) u v := by
  obtain ⟨xl, xi, ox, fx, gx, xk, xp, vv, sc, hh⟩ := u
  obtain ⟨yl, yp, yc, o, fa, fb, th, yk, yq, yn, ce, sa, ro, ta⟩ := v
  obtain ⟨L, h1, h2, h3, h4, h5, hL, hP, hM, hG, hK⟩ := h
  exact ⟨L, h1, h2, h3, h4, h5, hL, hP, hM, hG, fun m hm ht => rd_mom_up (hK m hm ht) (by omega)⟩
theorem i_vc0 : wpX_init (fun u => wpY_init (fun v => i_Rel 0 u v)) := 
  ⟨0, rfl, rfl, rfl, rfl, rfl, Nat.zero_le _, fun j hj => absurd hj (Nat.not_lt_zero j), rd_mz (fun _ _ => rfl), fun _ _ _ _ _ => rfl, fun _ _ ht => absurd rfl ht⟩
theorem i_vc_moments {k : Nat} {u : SX} {v : SY} (I : i_Rel k u v) (hk : k + 4 ≤ 2048) : wpX_moments (fun r => wpY_moments (fun r' => r' = r ∧ i_Rel (k + 4) u v) v) u := by
  obtain ⟨xl, xi, ox, fx, gx, xk, xp, vv, sc, hh⟩ := u
  obtain ⟨yl, yp, yc, o, fa, fb, th, yk, yq, yn, ce, sa, ro, ta⟩ := v
  have J := i_up I
  obtain ⟨L, rfl, rfl, rfl, rfl, rfl, hL, hP, hM, hG, hK⟩ := I
  exact rd_ymom hM ⟨rfl, J⟩
theorem i_vc_kind {k : Nat} {u : SX} {v : SY} (I : i_Rel k u v) (hk : k + 4 ≤ 2048) (v1 : Int32) : wpX_kind (fun r => wpY_kind (fun r' => r' = r ∧ i_Rel (k + 4) u v) v v1) u v1 := by
  obtain ⟨xl, xi, ox, fx, gx, xk, xp, vv, sc, hh⟩ := u
  obtain ⟨yl, yp, yc, o, fa, fb, th, yk, yq, yn, ce, sa, ro, ta⟩ := v
  have J := i_up I
  obtain ⟨L, rfl, rfl, rfl, rfl, rfl, hL, hP, hM, hG, hK⟩ := I
  by_cases hk1 : rd_K th v1
  · obtain ⟨f, hf, rfl, hft⟩ := hk1
    obtain ⟨h1, h2, h3, h4, c, hc, h5, h6, h7⟩ := hK f hf hft
    have zf : (nI f).toNatClampNeg = f := nI_clamp (by omega)
    have w : vp_in (nI f) 12 := vp_in_nI hf (by decide)
    unfold wpX_kind
    refine rd_xk1 hM hf hft (br_f (by decide) ⟨w, ?_⟩)
    unfold wpY_kind
    refine rd_yk1 hf hft (br_f (by decide) ⟨w, ?_, J⟩)
    rw [zf]
    exact h1.symm
  · unfold wpX_kind
    refine rd_xk0 hM hk1 (br_t rfl ?_)
    unfold wpY_kind
    exact rd_yk0 hk1 (br_t rfl ⟨rfl, J⟩)
theorem i_vc_position {k : Nat} {u : SX} {v : SY} (I : i_Rel k u v) (hk : k + 4 ≤ 2048) (v1 : Int32) : wpX_position (fun r => wpY_position (fun r' => r' = r ∧ i_Rel (k + 4) u v) v v1) u v1 := by
  obtain ⟨xl, xi, ox, fx, gx, xk, xp, vv, sc, hh⟩ := u
  obtain ⟨yl, yp, yc, o, fa, fb, th, yk, yq, yn, ce, sa, ro, ta⟩ := v
  have J := i_up I
  obtain ⟨L, rfl, rfl, rfl, rfl, rfl, hL, hP, hM, hG, hK⟩ := I
  by_cases hk1 : rd_K th v1
  · obtain ⟨f, hf, rfl, hft⟩ := hk1
    obtain ⟨h1, h2, h3, h4, c, hc, h5, h6, h7⟩ := hK f hf hft
    have zf : (nI f).toNatClampNeg = f := nI_clamp (by omega)
    have w : vp_in (nI f) 12 := vp_in_nI hf (by decide)
    unfold wpX_position
    refine rd_xk1 hM hf hft (br_f (by decide) ⟨w, ?_⟩)
    unfold wpY_position
    refine rd_yk1 hf hft (br_f (by decide) ⟨w, ?_, J⟩)
    rw [zf]
    exact h2.symm
  · unfold wpX_position
    refine rd_xk0 hM hk1 (br_t rfl ?_)
    unfold wpY_position
    exact rd_yk0 hk1 (br_t rfl ⟨rfl, J⟩)
theorem i_vc_said {k : Nat} {u : SX} {v : SY} (I : i_Rel k u v) (hk : k + 4 ≤ 2048) (v1 : Int32) : wpX_said (fun r => wpY_said (fun r' => r' = r ∧ i_Rel (k + 4) u v) v v1) u v1 := by
  obtain ⟨xl, xi, ox, fx, gx, xk, xp, vv, sc, hh⟩ := u
  obtain ⟨yl, yp, yc, o, fa, fb, th, yk, yq, yn, ce, sa, ro, ta⟩ := v
  have J := i_up I
  obtain ⟨L, rfl, rfl, rfl, rfl, rfl, hL, hP, hM, hG, hK⟩ := I
  by_cases hk1 : rd_K th v1
  · obtain ⟨f, hf, rfl, hft⟩ := hk1
    obtain ⟨h1, h2, h3, h4, c, hc, h5, h6, h7⟩ := hK f hf hft
    have zf : (nI f).toNatClampNeg = f := nI_clamp (by omega)
    have w : vp_in (nI f) 12 := vp_in_nI hf (by decide)
    unfold wpX_said
    refine rd_xk1 hM hf hft (br_f (by decide) ⟨w, ?_⟩)
    unfold wpY_said
    refine rd_yk1 hf hft (br_f (by decide) ⟨w, ?_, J⟩)
    rw [zf]
    exact h6.trans h5.symm
  · unfold wpX_said
    refine rd_xk0 hM hk1 (br_t rfl ?_)
    unfold wpY_said
    exact rd_yk0 hk1 (br_t rfl ⟨rfl, J⟩)
theorem i_vc_peek {k : Nat} {u : SX} {v : SY} (I : i_Rel k u v) (hk : k + 4 ≤ 2048) (v1 : Int32) (v2 : Int32) : wpX_peek (fun r => wpY_peek (fun r' => r' = r ∧ i_Rel (k + 4) u v) v v1 v2) u v1 v2 := by
  obtain ⟨xl, xi, ox, fx, gx, xk, xp, vv, sc, hh⟩ := u
  obtain ⟨yl, yp, yc, o, fa, fb, th, yk, yq, yn, ce, sa, ro, ta⟩ := v
  have J := i_up I
  obtain ⟨L, rfl, rfl, rfl, rfl, rfl, hL, hP, hM, hG, hK⟩ := I
  by_cases hk1 : rd_K th v1
  · obtain ⟨f, hf, rfl, hft⟩ := hk1
    obtain ⟨h1, h2, h3, h4, c, hc, h5, h6, h7⟩ := hK f hf hft
    have zf : (nI f).toNatClampNeg = f := nI_clamp (by omega)
    have w : vp_in (nI f) 12 := vp_in_nI hf (by decide)
    unfold wpX_peek
    refine rd_xk1 hM hf hft (br_f (by decide) ?_)
    by_cases a : v2 < 0
    · refine br_t a ?_
      unfold wpY_peek
      exact rd_yk1 hf hft (br_f (by decide) (br_t a ⟨rfl, J⟩))
    · obtain ⟨i, hi, rfl⟩ := nI_of a
      refine br_f a ?_
      by_cases b : i < 32
      · have zx : (nI f * 32 + nI i).toNatClampNeg = 32 * f + i := by rw [rd_x32, nI_clamp (by omega)]
        refine br_t (nI_lt (b := 32) b (by decide)) ⟨pk_in (32 * f + i) 384 (by omega) (rd_x32 f i), ?_⟩
        unfold wpY_peek
        refine rd_yk1 hf hft (br_f (by decide) (br_f a (br_f (nI_nlt (a := 31) (b := i) (by omega) (by decide)) ?_)))
        rw [zx]
        by_cases e : i ≤ 3
        · refine br_t (nI_le (b := 3) e (by decide)) (br_f (nI_ge (b := 4) (by omega) (by decide)) ⟨pk_in (20 * f + i) 240 (by omega) (rd_y20 f i), ?_, J⟩)
          rw [rd_y20, nI_clamp (by omega)]
          have g := h4 i (by omega)
          rw [rd_cx_lo (by omega)] at g
          exact g.symm
        · refine br_f (nI_ge (a := 3) (b := i) (by omega) hi) ?_
          by_cases e2 : 16 ≤ i
          · have ee : 20 * nI f + (nI i - 12) = nI (20 * f + (4 + (i - 16))) := by
              have e3 : nI i - 12 = nI (4 + (i - 16)) := (pk_sub (b := 12) (by omega)).trans (congrArg nI (by omega))
              rw [e3, rd_y20]
            refine br_t (nI_le (a := 16) e2 hi) (br_t (nI_le (a := 4) (by omega) hi) ⟨?_, ?_, J⟩)
            · rw [ee]
              exact vp_in_nI (by omega) (by decide)
            · rw [ee, nI_clamp (by omega)]
              have g := h4 (4 + (i - 16)) (by omega)
              rw [rd_cx_hi, show 16 + (i - 16) = i by omega] at g
              exact g.symm
          · exact br_f (nI_ge (b := 16) (by omega) (by decide)) ⟨(hG f hf i (by omega) (by omega)).symm, J⟩
      · refine br_f (nI_nlt (b := 32) (by omega) hi) ?_
        unfold wpY_peek
        exact rd_yk1 hf hft (br_f (by decide) (br_f a (br_t (nI_lt (a := 31) (by omega) hi) ⟨rfl, J⟩)))
  · unfold wpX_peek
    refine rd_xk0 hM hk1 (br_t rfl ?_)
    unfold wpY_peek
    exact rd_yk0 hk1 (br_t rfl ⟨rfl, J⟩)
theorem i_vc_lastSaid {k : Nat} {u : SX} {v : SY} (I : i_Rel k u v) (hk : k + 4 ≤ 2048) (v1 : Int32) (v2 : Int32) : wpX_lastSaid (fun r => wpY_lastSaid (fun r' => r' = r ∧ i_Rel (k + 4) u v) v v1 v2) u v1 v2 := by
  obtain ⟨xl, xi, ox, fx, gx, xk, xp, vv, sc, hh⟩ := u
  obtain ⟨yl, yp, yc, o, fa, fb, th, yk, yq, yn, ce, sa, ro, ta⟩ := v
  have J := i_up I
  obtain ⟨L, rfl, rfl, rfl, rfl, rfl, hL, hP, hM, hG, hK⟩ := I
  by_cases hk1 : rd_K th v1
  · obtain ⟨f, hf, rfl, hft⟩ := hk1
    obtain ⟨h1, h2, h3, h4, c, hc, h5, h6, h7⟩ := hK f hf hft
    have zf : (nI f).toNatClampNeg = f := nI_clamp (by omega)
    have w : vp_in (nI f) 12 := vp_in_nI hf (by decide)
    unfold wpX_lastSaid
    refine rd_xk1 hM hf hft (br_f (by decide) ?_)
    by_cases a : v2 < 0
    · refine br_t a ?_
      unfold wpY_lastSaid
      exact rd_yk1 hf hft (br_f (by decide) (br_t a ⟨rfl, J⟩))
    · obtain ⟨j, hj, rfl⟩ := nI_of a
      refine br_f a ?_
      by_cases b : j < 8
      · refine br_f (nI_ge (b := 8) b (by decide)) ⟨w, ?_⟩
        rw [zf, h5]
        by_cases e : j < c
        · have ee : nI f * 8 + ((nI c - 1 - nI j) &&& 7) = nI (8 * f + (c - 1 - j) % 8) := by
            have e3 : nI c - 1 = nI (c - 1) := pk_sub (b := 1) (by omega)
            rw [e3, pk_sub (by omega), rd_and7 (by omega), rd_x8]
          have hlt := Nat.mod_lt (c - 1 - j) (by decide : 8 > 0)
          refine br_t (nI_lt e (by omega)) ⟨w, ?_, ?_⟩
          · rw [ee]
            exact vp_in_nI (by omega) (by decide)
          · rw [ee, nI_clamp (by omega)]
            unfold wpY_lastSaid
            refine rd_yk1 hf hft (br_f (by decide) (br_f a (br_f (nI_ge (b := 8) b (by decide)) ⟨w, br_f ?_ ⟨pk_in (8 * f + j) 96 (by omega) (rd_y8 f j), ?_, J⟩⟩)))
            · rw [zf, h6]
              exact nI_ge e (by omega)
            · rw [rd_y8, nI_clamp (by omega)]
              exact (h7 j b e).symm
        · refine br_f (nI_nlt (by omega) hj) ?_
          unfold wpY_lastSaid
          refine rd_yk1 hf hft (br_f (by decide) (br_f a (br_f (nI_ge (b := 8) b (by decide)) ⟨w, br_t ?_ ⟨rfl, J⟩⟩)))
          rw [zf, h6]
          exact nI_le (by omega) hj
      · have q : (8 : Int32) ≤ nI j := nI_le (a := 8) (by omega) hj
        refine br_t q ?_
        unfold wpY_lastSaid
        exact rd_yk1 hf hft (br_f (by decide) (br_f a (br_t q ⟨rfl, J⟩)))
  · unfold wpX_lastSaid
    refine rd_xk0 hM hk1 (br_t rfl ?_)
    unfold wpY_lastSaid
    exact rd_yk0 hk1 (br_t rfl ⟨rfl, J⟩)
section
variable {xl xi : Int32} {o fa fb xk xp vv sc hh : Nat → Int32} {yl yp yc : Int32} {th yk yq yn ce sa ro ta : Nat → Int32}
theorem rd_setn {j : Nat} {x : Int32} {g : Nat → Bool} (h : rd_Set (rd_cx j + 1) x g) (hg : ∀ i, 4 ≤ i → i < 16 → g i = false) : rd_Set (rd_cx (j + 1)) x g := by
  by_cases e : j = 3
  · subst e
    exact rd_setj h hg
  · have e2 : rd_cx (j + 1) = rd_cx j + 1 := by
      unfold rd_cx
      split <;> split <;> omega
    rw [e2]
    exact h
theorem rd_xdiff {a b : Nat} (ha : a < 12) (hb : b < 12) : ∃ y, rd_Set 32 y (fun i => decide (vv (32 * a + i) ≠ vv (32 * b + i))) ∧ ∀ post : Int32 → Prop, post y → wX_difference_23 post (nI a) (nI b) xl xi o fa fb xk xp vv sc hh 33 0 0 := by
  have key : ∀ (d j : Nat) (x : Int32), j + d = 32 → rd_Set j x (fun i => decide (vv (32 * a + i) ≠ vv (32 * b + i))) → ∃ y, rd_Set 32 y (fun i => decide (vv (32 * a + i) ≠ vv (32 * b + i))) ∧ ∀ post : Int32 → Prop, post y → wX_difference_23 post (nI a) (nI b) xl xi o fa fb xk xp vv sc hh (d + 1) x (nI j) := by
    intro d
    induction d with
    | zero =>
      intro j x hj hS
      have e : j = 32 := by omega
      subst e
      exact ⟨x, hS, fun post h => br_t (nI_le (a := 32) (b := 32) (Nat.le_refl _) (by decide)) h⟩
    | succ d ih =>
      intro j x hj hS
      have q : ¬ (32 : Int32) ≤ nI j := nI_ge (b := 32) (by omega) (by decide)
      have v1 : vp_in (nI a * 32 + nI j) 384 := pk_in (32 * a + j) 384 (by omega) (rd_x32 a j)
      have v2 : vp_in (nI b * 32 + nI j) 384 := pk_in (32 * b + j) 384 (by omega) (rd_x32 b j)
      have z1 : (nI a * 32 + nI j).toNatClampNeg = 32 * a + j := by rw [rd_x32, nI_clamp (by omega)]
      have z2 : (nI b * 32 + nI j).toNatClampNeg = 32 * b + j := by rw [rd_x32, nI_clamp (by omega)]
      by_cases t : vv (32 * a + j) = vv (32 * b + j)
      · have hg : (fun i => decide (vv (32 * a + i) ≠ vv (32 * b + i))) j = false := decide_eq_false (fun y => y t)
        obtain ⟨y, hy, hp⟩ := ih (j + 1) x (by omega) (rd_set0 hS hg)
        exact ⟨y, hy, fun post h => br_f q ⟨v1, v2, br_t (by rw [z1, z2]; exact t) (nm_r (nI_1 j) (hp post h))⟩⟩
      · have hg : (fun i => decide (vv (32 * a + i) ≠ vv (32 * b + i))) j = true := decide_eq_true t
        obtain ⟨y, hy, hp⟩ := ih (j + 1) _ (by omega) (rd_set1 hS (by omega) hg)
        exact ⟨y, hy, fun post h => br_f q ⟨v1, v2, br_f (by rw [z1, z2]; exact t) (nm_e (nm_r (nI_1 j) (hp post h)))⟩⟩
  exact key 32 0 0 rfl (rd_set00 _)
theorem rd_ydiff {a b : Nat} {g : Nat → Bool} (ha : a < 12) (hb : b < 12) (ta' : th a ≠ 0) (tb' : th b ≠ 0) (hg : ∀ i, 4 ≤ i → i < 16 → g i = false) (hg1 : ∀ i, i < 20 → ce (20 * a + i) = ce (20 * b + i) → g (rd_cx i) = false) (hg2 : ∀ i, i < 20 → ¬ ce (20 * a + i) = ce (20 * b + i) → g (rd_cx i) = true) : ∃ y, rd_Set 32 y g ∧ ∀ post : Int32 → Prop, post y → wY_difference_5 post (nI a) (nI b) yl yp yc o fa fb th yk yq yn ce sa ro ta 21 0 0 := by
  have key : ∀ (d j : Nat) (x : Int32), j + d = 20 → rd_Set (rd_cx j) x g → ∃ y, rd_Set 32 y g ∧ ∀ post : Int32 → Prop, post y → wY_difference_5 post (nI a) (nI b) yl yp yc o fa fb th yk yq yn ce sa ro ta (d + 1) x (nI j) := by
    intro d
    induction d with
    | zero =>
      intro j x hj hS
      have e : j = 20 := by omega
      subst e
      exact ⟨x, hS, fun post h => br_t (nI_le (a := 20) (b := 20) (Nat.le_refl _) (by decide)) h⟩
    | succ d ih =>
      intro j x hj hS
      have q : ¬ (20 : Int32) ≤ nI j := nI_ge (b := 20) (by omega) (by decide)
      have v1 : vp_in (20 * nI a + nI j) 240 := pk_in (20 * a + j) 240 (by omega) (rd_y20 a j)
      have v2 : vp_in (20 * nI b + nI j) 240 := pk_in (20 * b + j) 240 (by omega) (rd_y20 b j)
      have z1 : (20 * nI a + nI j).toNatClampNeg = 20 * a + j := by rw [rd_y20, nI_clamp (by omega)]
      have z2 : (20 * nI b + nI j).toNatClampNeg = 20 * b + j := by rw [rd_y20, nI_clamp (by omega)]
      have hcx : rd_cx j < 32 := rd_cx_lt (by omega)
      by_cases t : ce (20 * a + j) = ce (20 * b + j)
      · have t' : ce (20 * nI a + nI j).toNatClampNeg = ce (20 * nI b + nI j).toNatClampNeg := by rw [z1, z2]; exact t
        obtain ⟨y, hy, hp⟩ := ih (j + 1) x (by omega) (rd_setn (rd_set0 hS (hg1 j (by omega) t)) hg)
        refine ⟨y, hy, fun post h => br_f q (rd_yk1 ha ta' (br_f (by decide) (rd_yk1 hb tb' (br_f (by decide) ?_))))⟩
        exact br_c (fun _ => ⟨v1, v2, br_t t' (nm_r (rd_or0 x) (nm_r (nI_1 j) (hp post h)))⟩) (fun _ => ⟨v1, v2, br_t t' (nm_r (rd_or0 x) (nm_r (nI_1 j) (hp post h)))⟩)
      · have t' : ¬ ce (20 * nI a + nI j).toNatClampNeg = ce (20 * nI b + nI j).toNatClampNeg := by rw [z1, z2]; exact t
        obtain ⟨y, hy, hp⟩ := ih (j + 1) _ (by omega) (rd_setn (rd_set1 hS hcx (hg2 j (by omega) t)) hg)
        refine ⟨y, hy, fun post h => br_f q (rd_yk1 ha ta' (br_f (by decide) (rd_yk1 hb tb' (br_f (by decide) ?_))))⟩
        by_cases e : j < 4
        · refine br_f (nI_ge (b := 4) e (by decide)) ⟨v1, v2, br_f t' (nm_r ?_ (nm_r (nI_1 j) (hp post h)))⟩
          rw [rd_cx_lo e]
        · refine br_t (nI_le (a := 4) (by omega) (by omega)) ⟨v1, v2, br_f t' (nm_r ?_ (nm_r (nI_1 j) (hp post h)))⟩
          have e3 : nI j + 12 = nI (rd_cx j) := (nI_add j 12).trans (congrArg nI (if_neg e).symm)
          rw [e3]
  exact key 20 0 0 rfl (rd_set00 _)
end
theorem i_vc_difference {k : Nat} {u : SX} {v : SY} (I : i_Rel k u v) (hk : k + 4 ≤ 2048) (v1 : Int32) (v2 : Int32) : wpX_difference (fun r => wpY_difference (fun r' => r' = r ∧ i_Rel (k + 4) u v) v v1 v2) u v1 v2 := by
  obtain ⟨xl, xi, ox, fx, gx, xk, xp, vv, sc, hh⟩ := u
  obtain ⟨yl, yp, yc, o, fa, fb, th, yk, yq, yn, ce, sa, ro, ta⟩ := v
  have J := i_up I
  obtain ⟨L, rfl, rfl, rfl, rfl, rfl, hL, hP, hM, hG, hK⟩ := I
  by_cases hk1 : rd_K th v1
  · obtain ⟨f, hf, rfl, hft⟩ := hk1
    obtain ⟨_, _, _, h4, _⟩ := hK f hf hft
    unfold wpX_difference
    refine rd_xk1 hM hf hft (br_f (by decide) ?_)
    by_cases hk2 : rd_K th v2
    · obtain ⟨e, he, rfl, het⟩ := hk2
      obtain ⟨_, _, _, i4, _⟩ := hK e he het
      obtain ⟨y, hy, hX⟩ := rd_xdiff (xl := nI L) (xi := xi) (o := o) (fa := fa) (fb := fb) (xk := xk) (xp := xp) (vv := vv) (sc := sc) (hh := hh) hf he
      obtain ⟨y', hy', hY⟩ := rd_ydiff (yl := nI L) (yp := yp) (yc := yc) (o := o) (fa := fa) (fb := fb) (th := th) (yk := yk) (yq := yq) (yn := yn) (ce := ce) (sa := sa) (ro := ro) (ta := ta) hf he hft het (g := fun i => decide (vv (32 * f + i) ≠ vv (32 * e + i))) (fun i a b => decide_eq_false (fun z => z ((hG f hf i a b).trans (hG e he i a b).symm))) (fun i hi z => decide_eq_false (fun z2 => z2 ((h4 i hi).trans (z.trans (i4 i hi).symm)))) (fun i hi z => decide_eq_true (fun z2 => z ((h4 i hi).symm.trans (z2.trans (i4 i hi)))))
      have ey : y' = y := rd_setU hy' hy
      refine rd_xk1 hM he het (br_f (by decide) ⟨33, hX _ ?_⟩)
      exact ⟨21, hY _ ⟨ey, J⟩⟩
    · refine rd_xk0 hM hk2 (br_t rfl ?_)
      exact ⟨1, br_f (by decide) (rd_yk1 hf hft (br_f (by decide) (rd_yk0 hk2 (br_t rfl ⟨rfl, J⟩))))⟩
  · unfold wpX_difference
    refine rd_xk0 hM hk1 (br_t rfl ?_)
    exact ⟨1, br_f (by decide) (rd_yk0 hk1 (br_t rfl ⟨rfl, J⟩))⟩
end
section
/-! the calls that change the program or forget -/
theorem i_vc_emit {k : Nat} {u : SX} {v : SY} (I : i_Rel k u v) (hk : k + 4 ≤ 2048) (v1 : Int32) (v2 : Int32) (v3 : Int32) : wpX_emit (fun r u' => wpY_emit (fun r' v' => r' = r ∧ i_Rel (k + 4) u' v') v v1 v2 v3) u v1 v2 v3 := by
  obtain ⟨xl, xi, ox, fx, gx, xk, xp, vv, sc, hh⟩ := u
  obtain ⟨yl, yp, yc, o, fa, fb, th, yk, yq, yn, ce, sa, ro, ta⟩ := v
  have J := i_up I
  obtain ⟨L, rfl, rfl, rfl, rfl, rfl, hL, hP, hM, hG, hK⟩ := I
  have z : (nI L).toNatClampNeg = L := nI_clamp (by omega)
  unfold wpX_emit
  refine rd_xins (fun hi => br_f (by decide) ?_) (fun hi => br_t rfl (rd_yins (fun h => absurd h hi) (fun _ => ⟨rfl, J⟩)))
  by_cases l : L < 16
  · have q : nI L < 16 := nI_lt (b := 16) l (by decide)
    have w : vp_in (nI L) 16 := vp_in_nI l (by decide)
    refine br_t q ?_
    by_cases x0 : xi = 0
    · refine br_t x0 ⟨w, nm_r (e' := upd o L v1) (by rw [z]) ⟨w, nm_r (e' := upd fa L v2) (by rw [z]) ⟨w, nm_r (e' := upd fb L v3) (by rw [z]) (nm_r (nI_1 L) ?_)⟩⟩⟩
      refine rd_yins (fun _ => br_t q ?_) (fun h => absurd hi h)
      refine rd_ymom hM (br_t x0 ⟨w, nm_r (e' := upd o L v1) (by rw [z]) ⟨w, nm_r (e' := upd fa L v2) (by rw [z]) ⟨w, nm_r (e' := upd fb L v3) (by rw [z]) (nm_r (nI_1 L) ?_)⟩⟩⟩)
      exact ⟨nI_pred L, L + 1, rfl, rfl, rfl, rfl, rfl, by omega, rd_prog_u hP hi, hM, hG, fun m hm ht => absurd ((rd_m0 hM).mp x0 m hm) ht⟩
    · exact br_f x0 (rd_yins (fun _ => br_t q (rd_ymom hM (br_f x0 ⟨rfl, J⟩))) (fun h => absurd hi h))
  · have q : ¬ nI L < 16 := nI_nlt (b := 16) (by omega) (by omega)
    exact br_f q (rd_yins (fun _ => br_f q ⟨rfl, J⟩) (fun h => absurd hi h))
theorem i_vc_forgetAll {k : Nat} {u : SX} {v : SY} (I : i_Rel k u v) (hk : k + 4 ≤ 2048) : wpX_forgetAll (fun u' => wpY_forgetAll (fun v' => i_Rel (k + 4) u' v') v) u := by
  obtain ⟨xl, xi, ox, fx, gx, xk, xp, vv, sc, hh⟩ := u
  obtain ⟨yl, yp, yc, o, fa, fb, th, yk, yq, yn, ce, sa, ro, ta⟩ := v
  have J := i_up I
  obtain ⟨L, rfl, rfl, rfl, rfl, rfl, hL, hP, hM, hG, hK⟩ := I
  obtain ⟨th', a, b⟩ := rd_yforget (yl := nI L) (yp := yp) (yc := yc) (o := o) (fa := fa) (fb := fb) (th := th) (yk := yk) (yq := yq) (yn := yn) (ce := ce) (sa := sa) (ro := ro) (ta := ta)
  exact a _ ⟨L, rfl, rfl, rfl, rfl, rfl, hL, hP, rd_mz b, hG, fun m hm ht => absurd (b m hm) ht⟩
theorem i_vc_clear {k : Nat} {u : SX} {v : SY} (I : i_Rel k u v) (hk : k + 4 ≤ 2048) : wpX_clear (fun u' => wpY_clear (fun v' => i_Rel (k + 4) u' v') v) u := by
  obtain ⟨xl, xi, ox, fx, gx, xk, xp, vv, sc, hh⟩ := u
  obtain ⟨yl, yp, yc, o, fa, fb, th, yk, yq, yn, ce, sa, ro, ta⟩ := v
  have J := i_up I
  obtain ⟨L, rfl, rfl, rfl, rfl, rfl, hL, hP, hM, hG, hK⟩ := I
  obtain ⟨th', a, b⟩ := rd_yforget (yl := nI L) (yp := yp) (yc := yc) (o := o) (fa := fa) (fb := fb) (th := th) (yk := yk) (yq := yq) (yn := yn) (ce := ce) (sa := sa) (ro := ro) (ta := ta)
  exact a _ ⟨0, rfl, rfl, rfl, rfl, rfl, Nat.zero_le _, fun j hj => absurd hj (Nat.not_lt_zero j), rd_mz b, hG, fun m hm ht => absurd (b m hm) ht⟩
theorem rd_yf0 {yl yp yc : Int32} {o fa fb th yk yq yn ce sa ro ta : Nat → Int32} {post : Int32 → SY → Prop} {x : Int32} (hn : ¬ rd_K th x) (h : post 0 (yl, yp, yc, o, fa, fb, th, yk, yq, yn, ce, sa, ro, ta)) : wpY_forget post (yl, yp, yc, o, fa, fb, th, yk, yq, yn, ce, sa, ro, ta) x := by
  by_cases a : x < 0
  · exact br_t a h
  · obtain ⟨m, hm, rfl⟩ := nI_of a
    refine br_f a ?_
    by_cases b : m < 12
    · refine br_f (nI_ge (b := 12) b (by decide)) ⟨vp_in_nI b (by decide), br_t ?_ h⟩
      rw [nI_clamp hm]
      exact Decidable.not_not.mp (fun z => hn ⟨m, b, rfl, z⟩)
    · exact br_t (nI_le (a := 12) (by omega) hm) h
theorem i_vc_forget {k : Nat} {u : SX} {v : SY} (I : i_Rel k u v) (hk : k + 4 ≤ 2048) (v1 : Int32) : wpX_forget (fun r u' => wpY_forget (fun r' v' => r' = r ∧ i_Rel (k + 4) u' v') v v1) u v1 := by
  obtain ⟨xl, xi, ox, fx, gx, xk, xp, vv, sc, hh⟩ := u
  obtain ⟨yl, yp, yc, o, fa, fb, th, yk, yq, yn, ce, sa, ro, ta⟩ := v
  have J := i_up I
  obtain ⟨L, rfl, rfl, rfl, rfl, rfl, hL, hP, hM, hG, hK⟩ := I
  by_cases hk1 : rd_K th v1
  · obtain ⟨f, hf, rfl, hft⟩ := hk1
    have zf : (nI f).toNatClampNeg = f := nI_clamp (by omega)
    have w : vp_in (nI f) 12 := vp_in_nI hf (by decide)
    unfold wpX_forget
    refine rd_xk1 hM hf hft (br_f (by decide) (nm_e ?_))
    refine br_f (nI_pos (by omega)) (br_f (nI_ge (b := 12) hf (by decide)) ⟨w, br_f (by rw [zf]; exact hft) ⟨w, nm_r (e' := upd th f 0) (by rw [zf, rd_nar0]) ⟨rfl, ?_⟩⟩⟩)
    refine ⟨L, rfl, rfl, rfl, rfl, rfl, hL, hP, rd_mclr hM hf, hG, fun m hm ht => rd_mom_up (hK m hm (fun z => ht ?_)) (by omega)⟩
    by_cases e : m = f
    · subst e
      exact pk_us
    · rw [pk_un e]
      exact z
  · unfold wpX_forget
    refine rd_xk0 hM hk1 (br_t rfl ?_)
    exact rd_yf0 hk1 ⟨rfl, J⟩
end
section
/-! the calls that keep a moment -/
theorem rd_ne2 {m : Nat} (hm : m < 12) : ¬ nI m = -2 := by
  intro h
  have g : ¬ nI m < 0 := nI_pos (by omega)
  rw [h] at g
  exact g (by decide)
theorem i_vc_start {k : Nat} {u : SX} {v : SY} (I : i_Rel k u v) (hk : k + 4 ≤ 2048) : wpX_start (fun r u' => wpY_start (fun r' v' => r' = r ∧ i_Rel (k + 4) u' v') v) u := by
  obtain ⟨xl, xi, ox, fx, gx, xk, xp, vv, sc, hh⟩ := u
  obtain ⟨yl, yp, yc, o, fa, fb, th, yk, yq, yn, ce, sa, ro, ta⟩ := v
  have J := i_up I
  obtain ⟨L, rfl, rfl, rfl, rfl, rfl, hL, hP, hM, hG, hK⟩ := I
  rcases rd_free (xl := nI L) (xi := xi) (o := o) (fa := fa) (fb := fb) (xk := xk) (xp := xp) (vv := vv) (sc := sc) (hh := hh) (yl := nI L) (yp := yp) (yc := yc) (th := th) (yk := yk) (yq := yq) (yn := yn) (ce := ce) (sa := sa) (ro := ro) (ta := ta) hM with ⟨m, hm, ht, fX, fY⟩ | ⟨fX, fY⟩
  · unfold wpX_start
    refine fX _ (br_f (rd_ne2 hm) ?_)
    obtain ⟨vv1, bX, b1, b2⟩ := rd_xblank (xl := nI L) (xi := xi) (o := o) (fa := fa) (fb := fb) (xk := xk) (xp := xp) (vv := vv) (sc := sc) (hh := hh) hm
    obtain ⟨ro1, ta1, aY, c1⟩ := rd_ystart0 (yl := nI L) (o := o) (fa := fa) (fb := fb) (th := th) (yk := yk) (yq := yq) (yn := yn) (ce := ce) (sa := sa) (ro := ro) (ta := ta) (m := m)
    have hR : rd_Run (15 * k) m vv sc hh vv1 (upd sc m 0) hh 0 ro1 ta1 := ⟨b2, rd_fr_u (rd_fr_r 1 m sc) (by omega) (by omega), rd_fr_r 8 m hh, fun i _ _ => b1 i (by omega), fun i hi => (b1 (rd_cx i) (rd_cx_lt hi)).trans (c1 i hi).symm, 0, Nat.zero_le _, pk_us, rfl, rd_tail_0 hh ta1 m⟩
    obtain ⟨xi', xk', xp', vv', sc', hh', yp', yc', th', yk', yq', yn', ce', sa', ro', ta', sX, sY, hRel⟩ := rd_stretch (xi := xi) (o := o) (fa := fa) (fb := fb) (xk := xk) (xp := xp) (th := th) (yk := yk) (yq := yq) (yn := yn) (ce := ce) (sa := sa) (v0 := vv) (s0 := sc) (h0 := hh) (vv := vv1) (sc := upd sc m 0) (hh := hh) (yc := 0) (ro := ro1) (ta := ta1) (L := L) (k := k) (m := m) hm hL hP hk hM hG hK 0 hR
    refine bX _ (sX _ ?_)
    unfold wpY_start
    exact fY _ (br_t (nI_pos' (by omega)) ⟨21, aY _ (sY _ ⟨rfl, hRel⟩)⟩)
  · unfold wpX_start
    refine fX _ (br_t rfl ?_)
    unfold wpY_start
    exact fY _ (br_f (by decide) ⟨rfl, J⟩)
theorem i_vc_answer {k : Nat} {u : SX} {v : SY} (I : i_Rel k u v) (hk : k + 4 ≤ 2048) (v1 : Int32) (v2 : Int32) : wpX_answer (fun r u' => wpY_answer (fun r' v' => r' = r ∧ i_Rel (k + 4) u' v') v v1 v2) u v1 v2 := by
  obtain ⟨xl, xi, ox, fx, gx, xk, xp, vv, sc, hh⟩ := u
  obtain ⟨yl, yp, yc, o, fa, fb, th, yk, yq, yn, ce, sa, ro, ta⟩ := v
  have J := i_up I
  obtain ⟨L, rfl, rfl, rfl, rfl, rfl, hL, hP, hM, hG, hK⟩ := I
  by_cases hk1 : rd_K th v1
  · obtain ⟨f, hf, rfl, hft⟩ := hk1
    obtain ⟨h1, h2, h3, h4, c, hc, h5, h6, h7⟩ := hK f hf hft
    have zf : (nI f).toNatClampNeg = f := nI_clamp (by omega)
    have w : vp_in (nI f) 12 := vp_in_nI hf (by decide)
    unfold wpX_answer
    refine rd_xk1 hM hf hft (br_f (by decide) ⟨w, ?_⟩)
    by_cases q : xk f = 2
    · refine br_t (by rw [zf]; exact q) ?_
      rcases rd_free (xl := nI L) (xi := xi) (o := o) (fa := fa) (fb := fb) (xk := xk) (xp := xp) (vv := vv) (sc := sc) (hh := hh) (yl := nI L) (yp := yp) (yc := yc) (th := th) (yk := yk) (yq := yq) (yn := yn) (ce := ce) (sa := sa) (ro := ro) (ta := ta) hM with ⟨m, hm, ht, fX, fY⟩ | ⟨fX, fY⟩
      · have hn : f ≠ m := fun e => hft (by rw [e]; exact ht)
        obtain ⟨vv1, hh1, cX, c1, c2, f1, f2⟩ := rd_xcopy (xl := nI L) (xi := xi) (o := o) (fa := fa) (fb := fb) (xk := xk) (xp := xp) (vv := vv) (sc := sc) (hh := hh) hm hf hn
        obtain ⟨ro1, ta1, tY, t1, t2⟩ := rd_ytake (yl := nI L) (yp := yp) (yc := yc) (o := o) (fa := fa) (fb := fb) (th := th) (yk := yk) (yq := yq) (yn := yn) (ce := ce) (sa := sa) (ro := ro) (ta := ta) hf
        have hR : rd_Run (15 * k) m vv sc hh vv1 (upd sc m (sc f)) hh1 (yn f) ro1 ta1 := ⟨f1, rd_fr_u (rd_fr_r 1 m sc) (by omega) (by omega), f2, fun i a b => (c1 i (by omega)).trans (hG f hf i a b), fun i hi => (c1 (rd_cx i) (rd_cx_lt hi)).trans ((h4 i hi).trans (t1 i hi).symm), c, hc, pk_us.trans h5, h6, fun j h8 hj => (c2 _ (Nat.mod_lt _ (by decide))).trans ((h7 j h8 hj).trans (t2 j h8).symm)⟩
        obtain ⟨p, hp, hpe⟩ := h3 q
        obtain ⟨_, r, _, hr, _, hfr, _⟩ := hP p hp
        have zp : (nI p).toNatClampNeg = p := nI_clamp (by omega)
        have hyq : yq f = nI p := h2.symm.trans hpe
        have e15 : yq f &&& 15 = nI p := by
          rw [hyq]
          exact rd_and15 (by omega)
        have er : fa (yq f &&& 15).toNatClampNeg &&& 3 = nI r := by
          rw [e15, zp, hfr]
          exact rd_and3 hr
        have ex : nI m * 32 + fa (nI p).toNatClampNeg = nI (32 * m + r) := by rw [zp, hfr, rd_x32]
        obtain ⟨xi', xk', xp', vv', sc', hh', yp', yc', th', yk', yq', yn', ce', sa', ro', ta', sX, sY, hRel⟩ := rd_stretch (xi := xi) (o := o) (fa := fa) (fb := fb) (xk := xk) (xp := xp) (th := th) (yk := yk) (yq := yq) (yn := yn) (ce := ce) (sa := sa) (v0 := vv) (s0 := sc) (h0 := hh) (vv := upd vv1 (32 * m + rd_cx r) v2) (sc := upd sc m (sc f)) (hh := hh1) (yc := yn f) (ro := upd ro1 r v2) (ta := ta1) (L := L) (k := k) (m := m) hm hL hP hk hM hG hK (nI (p + 1)) (rd_run_u hR (j := r) (by omega) v2)
        refine fX _ (br_f (rd_ne2 hm) (cX _ ⟨w, nm_r (e' := nI p) (by rw [zf]; exact hpe) ⟨vp_in_nI (by omega) (by decide), ?_, nm_r (e' := upd vv1 (32 * m + rd_cx r) v2) ?_ ?_⟩⟩))
        · rw [ex]
          exact vp_in_nI (by omega) (by decide)
        · rw [ex, nI_clamp (by omega), rd_cx_lo hr]
        · rw [nI_1 p]
          refine sX _ ?_
          unfold wpY_answer
          refine rd_yi1 hf hft (h1.symm.trans q) (br_f (by decide) (fY _ (br_t (nI_pos' (by omega)) (tY _ ⟨?_, ?_, nm_r (e' := upd ro1 r v2) ?_ (nm_r (e' := nI (p + 1)) ?_ (sY _ ⟨rfl, hRel⟩))⟩))))
          · rw [e15]
            exact vp_in_nI (by omega) (by decide)
          · rw [er]
            exact vp_in_nI (by omega) (by decide)
          · rw [er, nI_clamp (by omega)]
          · rw [hyq, nI_1]
      · refine fX _ (br_t rfl ?_)
        unfold wpY_answer
        exact rd_yi1 hf hft (h1.symm.trans q) (br_f (by decide) (fY _ (br_f (by decide) ⟨rfl, J⟩)))
    · refine br_f (by rw [zf]; exact q) ?_
      unfold wpY_answer
      exact rd_yi2 hf hft (fun e => q (h1.trans e)) (br_t rfl ⟨rfl, J⟩)
  · unfold wpX_answer
    refine rd_xk0 hM hk1 (br_t rfl ?_)
    unfold wpY_answer
    exact rd_yi0 hk1 (br_t rfl ⟨rfl, J⟩)
theorem i_vc_goOn {k : Nat} {u : SX} {v : SY} (I : i_Rel k u v) (hk : k + 4 ≤ 2048) (v1 : Int32) : wpX_goOn (fun r u' => wpY_goOn (fun r' v' => r' = r ∧ i_Rel (k + 4) u' v') v v1) u v1 := by
  obtain ⟨xl, xi, ox, fx, gx, xk, xp, vv, sc, hh⟩ := u
  obtain ⟨yl, yp, yc, o, fa, fb, th, yk, yq, yn, ce, sa, ro, ta⟩ := v
  have J := i_up I
  obtain ⟨L, rfl, rfl, rfl, rfl, rfl, hL, hP, hM, hG, hK⟩ := I
  by_cases hk1 : rd_K th v1
  · obtain ⟨f, hf, rfl, hft⟩ := hk1
    obtain ⟨h1, h2, h3, h4, c, hc, h5, h6, h7⟩ := hK f hf hft
    have zf : (nI f).toNatClampNeg = f := nI_clamp (by omega)
    have w : vp_in (nI f) 12 := vp_in_nI hf (by decide)
    unfold wpX_goOn
    refine rd_xk1 hM hf hft (br_f (by decide) ⟨w, ?_⟩)
    by_cases q : xk f = 3
    · refine br_t (by rw [zf]; exact q) ?_
      rcases rd_free (xl := nI L) (xi := xi) (o := o) (fa := fa) (fb := fb) (xk := xk) (xp := xp) (vv := vv) (sc := sc) (hh := hh) (yl := nI L) (yp := yp) (yc := yc) (th := th) (yk := yk) (yq := yq) (yn := yn) (ce := ce) (sa := sa) (ro := ro) (ta := ta) hM with ⟨m, hm, ht, fX, fY⟩ | ⟨fX, fY⟩
      · have hn : f ≠ m := fun e => hft (by rw [e]; exact ht)
        obtain ⟨vv1, hh1, cX, c1, c2, f1, f2⟩ := rd_xcopy (xl := nI L) (xi := xi) (o := o) (fa := fa) (fb := fb) (xk := xk) (xp := xp) (vv := vv) (sc := sc) (hh := hh) hm hf hn
        obtain ⟨ro1, ta1, tY, t1, t2⟩ := rd_ytake (yl := nI L) (yp := yp) (yc := yc) (o := o) (fa := fa) (fb := fb) (th := th) (yk := yk) (yq := yq) (yn := yn) (ce := ce) (sa := sa) (ro := ro) (ta := ta) hf
        have hR : rd_Run (15 * k) m vv sc hh vv1 (upd sc m (sc f)) hh1 (yn f) ro1 ta1 := ⟨f1, rd_fr_u (rd_fr_r 1 m sc) (by omega) (by omega), f2, fun i a b => (c1 i (by omega)).trans (hG f hf i a b), fun i hi => (c1 (rd_cx i) (rd_cx_lt hi)).trans ((h4 i hi).trans (t1 i hi).symm), c, hc, pk_us.trans h5, h6, fun j h8 hj => (c2 _ (Nat.mod_lt _ (by decide))).trans ((h7 j h8 hj).trans (t2 j h8).symm)⟩
        obtain ⟨xi', xk', xp', vv', sc', hh', yp', yc', th', yk', yq', yn', ce', sa', ro', ta', sX, sY, hRel⟩ := rd_stretch (xi := xi) (o := o) (fa := fa) (fb := fb) (xk := xk) (xp := xp) (th := th) (yk := yk) (yq := yq) (yn := yn) (ce := ce) (sa := sa) (v0 := vv) (s0 := sc) (h0 := hh) (vv := vv1) (sc := upd sc m (sc f)) (hh := hh1) (yc := yn f) (ro := ro1) (ta := ta1) (L := L) (k := k) (m := m) hm hL hP hk hM hG hK (yq f) hR
        refine fX _ (br_f (rd_ne2 hm) (cX _ ⟨w, ?_⟩))
        rw [zf, h2]
        refine sX _ ?_
        unfold wpY_goOn
        exact rd_yi1 hf hft (h1.symm.trans q) (br_f (by decide) (fY _ (br_t (nI_pos' (by omega)) (tY _ (sY _ ⟨rfl, hRel⟩)))))
      · refine fX _ (br_t rfl ?_)
        unfold wpY_goOn
        exact rd_yi1 hf hft (h1.symm.trans q) (br_f (by decide) (fY _ (br_f (by decide) ⟨rfl, J⟩)))
    · refine br_f (by rw [zf]; exact q) ?_
      unfold wpY_goOn
      exact rd_yi2 hf hft (fun e => q (h1.trans e)) (br_t rfl ⟨rfl, J⟩)
  · unfold wpX_goOn
    refine rd_xk0 hM hk1 (br_t rfl ?_)
    unfold wpY_goOn
    exact rd_yi0 hk1 (br_t rfl ⟨rfl, J⟩)
end
