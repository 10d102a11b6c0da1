/-! bits of one place, masks -/
theorem rd_b1 : ∀ j, j < 32 → bt 1 j = decide (j = 0) := by decide +kernel
theorem rd_bit {m i : Nat} (hm : m < 32) (hi : i < 32) : bt ((1 : Int32) <<< (nI m &&& 31)) i = decide (i = m) := by
  rw [b_shl m hm 1 hi, rd_b1 (i - m) (by omega)]
  by_cases h : i = m
  · subst h
    simp
  · by_cases h2 : m ≤ i
    · have h3 : ¬ i - m = 0 := by omega
      rw [decide_eq_false h3, decide_eq_false h, Bool.and_false]
    · rw [decide_eq_false h2, decide_eq_false h, Bool.false_and]
theorem rd_kept (x : Int32) {m : Nat} (hm : m < 32) : (x &&& ((1 : Int32) <<< (nI m &&& 31))) = 0 ↔ bt x m = false := by
  constructor
  · intro h
    have e : bt (x &&& ((1 : Int32) <<< (nI m &&& 31))) m = false := by rw [h]; exact b_0 m
    rw [b_and, rd_bit hm hm, decide_eq_true rfl, Bool.and_true] at e
    exact e
  · intro h
    apply b_ext
    intro i hi
    rw [b_and, rd_bit hm hi, b_0]
    by_cases e : i = m
    · subst e
      rw [h, Bool.false_and]
    · rw [decide_eq_false e, Bool.and_false]
def rd_Set (n : Nat) (x : Int32) (g : Nat → Bool) : Prop := ∀ i, i < 32 → bt x i = (decide (i < n) && g i)
theorem rd_set00 (g : Nat → Bool) : rd_Set 0 0 g := by
  intro i _
  rw [b_0, decide_eq_false (by omega), Bool.false_and]
theorem rd_set0 {n : Nat} {x : Int32} {g : Nat → Bool} (h : rd_Set n x g) (hg : g n = false) : rd_Set (n + 1) x g := by
  intro i hi
  rw [h i hi]
  by_cases e : i = n
  · subst e
    rw [hg, Bool.and_false, Bool.and_false]
  · by_cases e2 : i < n
    · rw [decide_eq_true e2, decide_eq_true (by omega : i < n + 1)]
    · rw [decide_eq_false e2, decide_eq_false (by omega : ¬ i < n + 1)]
theorem rd_set1 {n : Nat} {x : Int32} {g : Nat → Bool} (h : rd_Set n x g) (hn : n < 32) (hg : g n = true) : rd_Set (n + 1) (x ||| ((1 : Int32) <<< (nI n &&& 31))) g := by
  intro i hi
  rw [b_or, rd_bit hn hi, h i hi]
  by_cases e : i = n
  · subst e
    rw [hg, decide_eq_true rfl, Bool.or_true, decide_eq_true (by omega : i < i + 1)]
    rfl
  · rw [decide_eq_false e, Bool.or_false]
    by_cases e2 : i < n
    · rw [decide_eq_true e2, decide_eq_true (by omega : i < n + 1)]
    · rw [decide_eq_false e2, decide_eq_false (by omega : ¬ i < n + 1)]
theorem rd_setj {x : Int32} {g : Nat → Bool} (h : rd_Set 4 x g) (hg : ∀ i, 4 ≤ i → i < 16 → g i = false) : rd_Set 16 x g := by
  intro i hi
  rw [h i hi]
  by_cases a : i < 4
  · rw [decide_eq_true a, decide_eq_true (by omega : i < 16)]
  · by_cases b : i < 16
    · rw [hg i (by omega) b, Bool.and_false, Bool.and_false]
    · rw [decide_eq_false a, decide_eq_false b]
theorem rd_setU {n : Nat} {x y : Int32} {g : Nat → Bool} (h : rd_Set n x g) (h' : rd_Set n y g) : x = y :=
  b_ext (fun i hi => (h i hi).trans (h' i hi).symm)
theorem rd_or0 (x : Int32) : x ||| 0 = x := by
  apply b_ext
  intro i _
  rw [b_or, b_0, Bool.or_false]
/-- the mask x names the places below 12 at which t holds no 0 -/
def rd_Mask (x : Int32) (t : Nat → Int32) : Prop := rd_Set 12 x (fun i => decide (t i ≠ 0))
theorem rd_mk {x : Int32} {t : Nat → Int32} {m : Nat} (h : rd_Mask x t) (hm : m < 12) : (x &&& ((1 : Int32) <<< (nI m &&& 31))) = 0 ↔ t m = 0 := by
  rw [rd_kept x (by omega), h m (by omega), decide_eq_true hm, Bool.true_and, decide_eq_false_iff_not, Decidable.not_not]
theorem rd_m0 {x : Int32} {t : Nat → Int32} (h : rd_Mask x t) : x = 0 ↔ ∀ m, m < 12 → t m = 0 := by
  constructor
  · intro e m hm
    have a := h m (by omega)
    rw [e, b_0, decide_eq_true hm, Bool.true_and] at a
    have b := decide_eq_false_iff_not.mp a.symm
    exact Decidable.not_not.mp b
  · intro e
    apply b_ext
    intro i hi
    rw [h i hi, b_0]
    show (decide (i < 12) && decide (t i ≠ 0)) = false
    by_cases c : i < 12
    · have z : ¬ (t i ≠ 0) := fun z => z (e i c)
      rw [decide_eq_false z, Bool.and_false]
    · rw [decide_eq_false c, Bool.false_and]
theorem rd_mz {t : Nat → Int32} (e : ∀ m, m < 12 → t m = 0) : rd_Mask 0 t := by
  intro i hi
  rw [b_0]
  by_cases c : i < 12
  · have z : ¬ (t i ≠ 0) := fun z => z (e i c)
    show false = (decide (i < 12) && decide (t i ≠ 0))
    rw [decide_eq_false z, Bool.and_false]
  · show false = (decide (i < 12) && decide (t i ≠ 0))
    rw [decide_eq_false c, Bool.false_and]
theorem rd_mset {x y : Int32} {t : Nat → Int32} {m : Nat} (h : rd_Mask x t) (hm : m < 12) (hy : y ≠ 0) : rd_Mask (x ||| ((1 : Int32) <<< (nI m &&& 31))) (upd t m y) := by
  intro i hi
  rw [b_or, rd_bit (by omega) hi, h i hi]
  show ((decide (i < 12) && decide (t i ≠ 0)) || decide (i = m)) = (decide (i < 12) && decide (upd t m y i ≠ 0))
  by_cases e : i = m
  · subst e
    rw [pk_us, decide_eq_true hy, decide_eq_true hm, decide_eq_true rfl, Bool.or_true]
    rfl
  · rw [pk_un e, decide_eq_false e, Bool.or_false]
theorem rd_mclr {x : Int32} {t : Nat → Int32} {m : Nat} (h : rd_Mask x t) (hm : m < 12) : rd_Mask (x &&& (((1 : Int32) <<< (nI m &&& 31)) ^^^ (-1))) (upd t m 0) := by
  intro i hi
  rw [b_and, b_xor, rd_bit (by omega) hi, b_m1 i hi, h i hi]
  show ((decide (i < 12) && decide (t i ≠ 0)) && (decide (i = m) ^^ true)) = (decide (i < 12) && decide (upd t m 0 i ≠ 0))
  by_cases e : i = m
  · subst e
    rw [pk_us, decide_eq_true rfl, decide_eq_false (fun z => z rfl : ¬ ((0 : Int32) ≠ 0))]
    simp
  · rw [pk_un e, decide_eq_false e]
    simp
/-! rows of a moment: the component's 32 places against the reference's 20, rings of eight, frames -/
def rd_cx (i : Nat) : Nat := if i < 4 then i else i + 12
theorem rd_cx_lo {i : Nat} (h : i < 4) : rd_cx i = i := if_pos h
theorem rd_cx_hi (i : Nat) : rd_cx (4 + i) = 16 + i := by
  unfold rd_cx
  rw [if_neg (by omega)]
  omega
theorem rd_cx_lt {i : Nat} (h : i < 20) : rd_cx i < 32 := by
  unfold rd_cx
  split <;> omega
theorem rd_cx_inj {i j : Nat} (h : rd_cx i = rd_cx j) : i = j := by
  unfold rd_cx at h
  split at h <;> split at h <;> omega
theorem rd_cx_gap {i : Nat} : rd_cx i < 4 ∨ 16 ≤ rd_cx i := by
  unfold rd_cx
  split <;> omega
theorem rd_cx_of {j : Nat} (h : j < 32) (hg : j < 4 ∨ 16 ≤ j) : ∃ i, i < 20 ∧ rd_cx i = j := by
  rcases hg with a | a
  · exact ⟨j, by omega, rd_cx_lo a⟩
  · refine ⟨4 + (j - 16), by omega, ?_⟩
    rw [rd_cx_hi]
    omega
def rd_Cell (V : Nat → Int32) (m : Nat) (R : Nat → Int32) : Prop := ∀ i, i < 20 → V (32 * m + rd_cx i) = R i
def rd_Gap (V : Nat → Int32) (m : Nat) : Prop := ∀ i, 4 ≤ i → i < 16 → V (32 * m + i) = 0
def rd_Tail (H : Nat → Int32) (m c : Nat) (T : Nat → Int32) : Prop := ∀ j, j < 8 → j < c → H (8 * m + (c - 1 - j) % 8) = T j
def rd_Fr (w m : Nat) (A B : Nat → Int32) : Prop := ∀ j, (j < w * m ∨ w * m + w ≤ j) → A j = B j
theorem rd_cell_u {V R : Nat → Int32} {m j : Nat} {x : Int32} (h : rd_Cell V m R) : rd_Cell (upd V (32 * m + rd_cx j) x) m (upd R j x) := by
  intro i hi
  by_cases e : i = j
  · subst e
    rw [pk_us, pk_us]
  · have e2 : ¬ rd_cx i = rd_cx j := fun z => e (rd_cx_inj z)
    rw [pk_un (by omega), pk_un e]
    exact h i hi
theorem rd_gap_u {V : Nat → Int32} {m j : Nat} {x : Int32} (h : rd_Gap V m) : rd_Gap (upd V (32 * m + rd_cx j) x) m := by
  intro i h4 h16
  have e : rd_cx j < 4 ∨ 16 ≤ rd_cx j := rd_cx_gap
  rw [pk_un (by omega)]
  exact h i h4 h16
theorem rd_fr_r (w m : Nat) (A : Nat → Int32) : rd_Fr w m A A := fun _ _ => rfl
theorem rd_fr_u {w m j : Nat} {A B : Nat → Int32} {x : Int32} (h : rd_Fr w m A B) (h1 : w * m ≤ j) (h2 : j < w * m + w) : rd_Fr w m (upd A j x) B := by
  intro i hi
  rw [pk_un (by intro z; subst z; rcases hi with a | a <;> omega)]
  exact h i hi
theorem rd_fr_t {w m : Nat} {A B C : Nat → Int32} (h : rd_Fr w m A B) (h' : rd_Fr w m B C) : rd_Fr w m A C :=
  fun j hj => (h j hj).trans (h' j hj)
theorem rd_fr_cell {m : Nat} {V V0 : Nat → Int32} (h : rd_Fr 32 m V V0) {j : Nat} (hj : j ≠ m) {R : Nat → Int32} (c : rd_Cell V0 j R) : rd_Cell V j R := by
  intro i hi
  have := rd_cx_lt hi
  rw [h _ (by omega)]
  exact c i hi
theorem rd_fr_gap {m : Nat} {V V0 : Nat → Int32} (h : rd_Fr 32 m V V0) {j : Nat} (hj : j ≠ m) (c : rd_Gap V0 j) : rd_Gap V j := by
  intro i h4 h16
  rw [h _ (by omega)]
  exact c i h4 h16
theorem rd_fr_tail {m : Nat} {H H0 : Nat → Int32} (h : rd_Fr 8 m H H0) {j : Nat} (hj : j ≠ m) {c : Nat} {T : Nat → Int32} (t : rd_Tail H0 j c T) : rd_Tail H j c T := by
  intro i h8 hc
  have := Nat.mod_lt (c - 1 - i) (by omega : 8 > 0)
  rw [h _ (by omega)]
  exact t i h8 hc
theorem rd_tail_s {H T T' : Nat → Int32} {m c : Nat} {x : Int32} (h : rd_Tail H m c T) (h0 : T' 0 = x) (hs : ∀ j, j < 7 → T' (j + 1) = T j) : rd_Tail (upd H (8 * m + c % 8) x) m (c + 1) T' := by
  intro j h8 hc
  rcases j with _ | j
  · rw [show (c + 1 - 1 - 0) % 8 = c % 8 by omega, pk_us, h0]
  · rw [pk_un (by omega), hs j (by omega), show c + 1 - 1 - (j + 1) = c - 1 - j by omega]
    exact h j (by omega) (by omega)
theorem rd_tail_0 (H T : Nat → Int32) (m : Nat) : rd_Tail H m 0 T := fun j _ h => absurd h (Nat.not_lt_zero j)
/-! the program -/
def rd_Ins (o a b : Int32) : Prop := ∃ q r : Nat, q ≤ 9 ∧ r < 4 ∧ o = nI q ∧ a = nI r ∧ (1 ≤ q → q ≤ 4 → ∃ s : Nat, s < 4 ∧ b = nI s)
def rd_Prog (L : Nat) (o a b : Nat → Int32) : Prop := ∀ j, j < L → rd_Ins (o j) (a j) (b j)
theorem rd_prog_u {L : Nat} {o a b : Nat → Int32} {x y z : Int32} (h : rd_Prog L o a b) (hi : rd_Ins x y z) : rd_Prog (L + 1) (upd o L x) (upd a L y) (upd b L z) := by
  intro j hj
  by_cases e : j = L
  · subst e
    rw [pk_us, pk_us, pk_us]
    exact hi
  · rw [pk_un e, pk_un e, pk_un e]
    exact h j (by omega)
