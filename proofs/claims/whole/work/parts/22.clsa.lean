-- bits counted
def bc (m : Nat) : Nat := smN 9 (fun i => if m.testBit i = true then 1 else 0)
def tz (m : Nat) : Nat := if m.testBit 0 then 0 else if m.testBit 1 then 1 else if m.testBit 2 then 2 else if m.testBit 3 then 3 else if m.testBit 4 then 4 else if m.testBit 5 then 5 else if m.testBit 6 then 6 else if m.testBit 7 then 7 else if m.testBit 8 then 8 else 32
def sur (m : Nat) : Bool := m != 0 && one m
def oo (m : Nat) : Int32 := if sur m = true then nI (tz m) else -nI 1
set_option maxRecDepth 100000 in
theorem k_bc' : ∀ m, m < 512 → f_J6_bitCount_0f7a4 (nI m) = some (nI (bc m)) := by decide +kernel
set_option maxRecDepth 100000 in
theorem k_tz' : ∀ m, m < 512 → f_J6_numberOfTrailingZeros_0f7a4 (nI m) = some (nI (tz m)) := by decide +kernel
set_option maxRecDepth 100000 in
theorem bc_sur : ∀ m, m < 512 → decide (bc m = 1) = sur m := by decide +kernel
set_option maxRecDepth 100000 in
theorem tz_sur : ∀ m, m < 512 → sur m = true → tz m < 9 ∧ m = 2 ^ tz m := by decide +kernel
theorem k_bc {m : Nat} (h : m < 512) : f_J6_bitCount_0f7a4 (nI m) = some (nI (bc m)) := k_bc' m h
theorem k_tz {m : Nat} (h : m < 512) : f_J6_numberOfTrailingZeros_0f7a4 (nI m) = some (nI (tz m)) := k_tz' m h
theorem bc_le (m : Nat) : bc m ≤ 9 := by
  have := smN_le (n := 9) (b := 1) (f := fun i => if m.testBit i = true then 1 else 0) (fun k _ => by split <;> omega)
  exact this
theorem k_onlyOne {m : Nat} (h : m < 512) : f_X4_onlyOne (nI m) = some (oo m) := by
  have h1 := bc_sur m h
  have h2 := bc_le m
  unfold oo
  by_cases c : bc m = 1
  · rw [decide_eq_true c] at h1
    simp (disch := omega) only [Option.bind_some, Option.map_some, Option.bind_none, q_lit, nI_add, pk_mul, q_sub, q_addn, q_cl, q_le, q_lt, q_eq, q_ck, q_cd, q_cb0, q_cb1, q_div, q_rem, q_shl1, q_shr, q_and, q_or, q_tb, if_pos, if_neg, if_true, if_false, not_true, not_false_iff, eq_self, Bool.true_eq_false, Bool.false_eq_true, q_bI0, q_bI1, q_cbI, Nat.or_zero, mst_row, mrow_neA, mrow_neB, mrow_self, q_upd, f_X4_onlyOne, k_bc h, k_tz h, c, ← h1]
  · rw [decide_eq_false c] at h1
    simp (disch := omega) only [Option.bind_some, Option.map_some, Option.bind_none, q_lit, nI_add, pk_mul, q_sub, q_addn, q_cl, q_le, q_lt, q_eq, q_ck, q_cd, q_cb0, q_cb1, q_div, q_rem, q_shl1, q_shr, q_and, q_or, q_tb, if_pos, if_neg, if_true, if_false, not_true, not_false_iff, eq_self, Bool.true_eq_false, Bool.false_eq_true, q_bI0, q_bI1, q_cbI, Nat.or_zero, mst_row, mrow_neA, mrow_neB, mrow_self, q_upd, f_X4_onlyOne, k_bc h, ← h1, if_neg c]
theorem oo_m1 {m : Nat} (h : m < 512) : (oo m = -nI 1) = (sur m = false) := by
  unfold oo
  by_cases c : sur m = true
  · have h2 := tz_sur m h c
    rw [if_pos c, c]
    refine propext ⟨fun e => ?_, fun e => by cases e⟩
    have h3 : ∀ k, k < 9 → ¬ nI k = -nI 1 := by decide +kernel
    exact absurd e (h3 _ h2.1)
  · rw [if_neg c]
    simp [c]
theorem poss_16 {V n q N k : Nat} {lf : Nat → Bool} {lb : Nat → Nat} (hV : 2 ≤ V ∧ V ≤ 4) : poss lf lb (fig V n q) N k < 16 := by
  have h1 : poss lf lb (fig V n q) N k < 2 ^ V := poss_lt (fun u _ => fig_lt hV.1 n q u)
  have h2 : 2 ^ V ≤ 2 ^ 4 := Nat.pow_le_pow_right (by decide) hV.2
  omega
-- the class's rows
theorem k_at {sh : Sh} {ln : Nat → Nat} {c : Nat} {μ : Mm} {i : Nat} (hi : i < ln c) (hc : ln c < 2147483648) : f_X1_at sh ln c μ (nI i) = some (μ (12, c) i) := by
  simp (disch := omega) only [Option.bind_some, Option.map_some, Option.bind_none, q_lit, nI_add, pk_mul, q_sub, q_addn, q_cl, q_le, q_lt, q_eq, q_ck, q_cd, q_cb0, q_cb1, q_div, q_rem, q_shl1, q_shr, q_and, q_or, q_tb, if_pos, if_neg, if_true, if_false, not_true, not_false_iff, eq_self, Bool.true_eq_false, Bool.false_eq_true, q_bI0, q_bI1, q_cbI, Nat.or_zero, mst_row, mrow_neA, mrow_neB, mrow_self, q_upd, f_X1_at, hi]
theorem k_put {sh : Sh} {ln : Nat → Nat} {c : Nat} {μ : Mm} {i : Nat} {v : Int32} (hi : i < ln c) (hc : ln c < 2147483648) : f_X1_put sh ln c μ (nI i) v = some (mrow μ (12, c) (upd (μ (12, c)) i v)) := by
  simp (disch := omega) only [Option.bind_some, Option.map_some, Option.bind_none, q_lit, nI_add, pk_mul, q_sub, q_addn, q_cl, q_le, q_lt, q_eq, q_ck, q_cd, q_cb0, q_cb1, q_div, q_rem, q_shl1, q_shr, q_and, q_or, q_tb, if_pos, if_neg, if_true, if_false, not_true, not_false_iff, eq_self, Bool.true_eq_false, Bool.false_eq_true, q_bI0, q_bI1, q_cbI, Nat.or_zero, mst_row, mrow_neA, mrow_neB, mrow_self, q_upd, f_X1_put, hi]
theorem k_addBits {sh : Sh} {ln : Nat → Nat} {c : Nat} {μ : Mm} {i : Nat} {v : Int32} (hi : i < ln c) (hc : ln c < 2147483648) : f_X1_addBits sh ln c μ (nI i) v = some (mrow μ (12, c) (upd (μ (12, c)) i (μ (12, c) i ||| v))) := by
  simp (disch := omega) only [Option.bind_some, Option.map_some, Option.bind_none, q_lit, nI_add, pk_mul, q_sub, q_addn, q_cl, q_le, q_lt, q_eq, q_ck, q_cd, q_cb0, q_cb1, q_div, q_rem, q_shl1, q_shr, q_and, q_or, q_tb, if_pos, if_neg, if_true, if_false, not_true, not_false_iff, eq_self, Bool.true_eq_false, Bool.false_eq_true, q_bI0, q_bI1, q_cbI, Nat.or_zero, mst_row, mrow_neA, mrow_neB, mrow_self, q_upd, f_X1_addBits, k_at hi hc, k_put hi hc]
theorem k_fillJ {n0 : Nat} {k0 : Ky} {μ : Mm} {m : Nat} {v : Int32} (hm : m ≤ n0) (hn : n0 < 2147483648) : f_J7_fill_fda19 n0 k0 μ (nI 0) (nI m) v = some (mrow μ k0 (fun i => if i < m then v else μ k0 i)) := by
  have e0 : f_J7_rangeCheck_23922 (nI n0) (nI 0) (nI m) = some () := by simp (disch := omega) only [Option.bind_some, Option.map_some, Option.bind_none, q_lit, nI_add, pk_mul, q_sub, q_addn, q_cl, q_le, q_lt, q_eq, q_ck, q_cd, q_cb0, q_cb1, q_div, q_rem, q_shl1, q_shr, q_and, q_or, q_tb, if_pos, if_neg, if_true, if_false, not_true, not_false_iff, eq_self, Bool.true_eq_false, Bool.false_eq_true, q_bI0, q_bI1, q_cbI, Nat.or_zero, mst_row, mrow_neA, mrow_neB, mrow_self, q_upd, f_J7_rangeCheck_23922, Nat.zero_le, hm]
  rw [f_J7_fill_fda19, e0]
  refine Wh_it m (fun k => (mrow μ k0 (fun i => if i < k then v else μ k0 i), nI k)) ?_ (fun k hk => ?_) ?_
  · have : (fun i => if i < 0 then v else μ k0 i) = μ k0 := by funext i; simp
    rw [this, mrow_id]
  · show f_J7_fill_fda19_L10 n0 k0 (nI m) v (mrow μ k0 (fun i => if i < k then v else μ k0 i)) (nI k) = some (.inl (mrow μ k0 (fun i => if i < k + 1 then v else μ k0 i), nI (k + 1)))
    have e : upd (fun i => if i < k then v else μ k0 i) k v = (fun i => if i < k + 1 then v else μ k0 i) := by
      funext i
      rw [q_upd]
      by_cases h : i = k
      · subst h; simp
      · by_cases h2 : i < k
        · rw [if_neg h, if_pos h2, if_pos (by omega)]
        · rw [if_neg h, if_neg h2, if_neg (by omega)]
    simp (disch := omega) only [Option.bind_some, Option.map_some, Option.bind_none, q_lit, nI_add, pk_mul, q_sub, q_addn, q_cl, q_le, q_lt, q_eq, q_ck, q_cd, q_cb0, q_cb1, q_div, q_rem, q_shl1, q_shr, q_and, q_or, q_tb, if_pos, if_neg, if_true, if_false, not_true, not_false_iff, eq_self, Bool.true_eq_false, Bool.false_eq_true, q_bI0, q_bI1, q_cbI, Nat.or_zero, mst_row, mrow_neA, mrow_neB, mrow_self, q_upd, f_J7_fill_fda19_L10, mrow_mrow, e]
  · show f_J7_fill_fda19_L10 n0 k0 (nI m) v (mrow μ k0 (fun i => if i < m then v else μ k0 i)) (nI m) = _
    simp (disch := omega) only [Option.bind_some, Option.map_some, Option.bind_none, q_lit, nI_add, pk_mul, q_sub, q_addn, q_cl, q_le, q_lt, q_eq, q_ck, q_cd, q_cb0, q_cb1, q_div, q_rem, q_shl1, q_shr, q_and, q_or, q_tb, if_pos, if_neg, if_true, if_false, not_true, not_false_iff, eq_self, Bool.true_eq_false, Bool.false_eq_true, q_bI0, q_bI1, q_cbI, Nat.or_zero, mst_row, mrow_neA, mrow_neB, mrow_self, q_upd, f_J7_fill_fda19_L10, Nat.le_refl]
theorem k_fill {sh : Sh} {ln : Nat → Nat} {c : Nat} {μ : Mm} {m : Nat} {v : Int32} (hm : m ≤ ln c) (hc : ln c < 2147483648) : f_X1_fill sh ln c μ v (nI m) = some (mrow μ (12, c) (fun i => if i < m then v else μ (12, c) i)) := by
  have e1 : (if nI (ln c) < nI m then nI (ln c) else nI m) = nI m := if_neg (nI_nlt hm (by omega))
  have e2 : (if (0 : Int32) < nI m then nI m else (0 : Int32)) = nI m := by
    by_cases h : 0 < m
    · exact if_pos (nI_lt h (by omega))
    · have e : m = 0 := by omega
      subst e
      rfl
  unfold f_X1_fill
  rw [e1, e2, show (0 : Int32) = nI 0 from rfl, k_fillJ hm hc]
  rfl
-- a State
def CS (ln : Nat → Nat) (μ : Mm) (j V n N w0 : Nat) (r : Nat → Int32) : Prop :=
  WF V n N w0 r ∧ (μ (13, j) 0 = nI V ∧ μ (13, j) 1 = nI n ∧ μ (13, j) 2 = nI N ∧ μ (13, j) 3 = nI w0) ∧
  ((n ≤ ln (15 + 5 * j + 0) ∧ n ≤ ln (15 + 5 * j + 1) ∧ N ≤ ln (15 + 5 * j + 2) ∧ n * N ≤ ln (15 + 5 * j + 3)) ∧ (∀ i, i < 5 → ln (15 + 5 * j + i) < 2147483648)) ∧
  (∀ p, p < n → μ (12, 15 + 5 * j + 0) p = nI (V ^ (n - 1 - p)) ∧ μ (12, 15 + 5 * j + 1) p = r (11 + p)) ∧
  (∀ w, w < N → μ (12, 15 + 5 * j + 2) w = r (20 + w)) ∧ (∀ p w, p < n → w < N → μ (12, 15 + 5 * j + 3) (p * N + w) = r (532 + 512 * p + w))
/-- lengths of the rows that never grow -/
def LN (ln : Nat → Nat) : Prop := ln 0 = 400 ∧ ln 1 = 4096 ∧ ln 2 = 512 ∧ ln 3 = 512 ∧ ln 4 = 512 ∧ ln 5 = 512 ∧ ln 6 = 8 ∧ ln 7 = 8 ∧ ln 8 = 6 ∧ ln 9 = 64 ∧ ln 10 = 512 ∧ ln 11 = 512 ∧ ln 12 = 512 ∧ ln 13 = 9 ∧ ln 14 = 512
theorem idx_lt {p n w N : Nat} (hp : p < n) (hw : w < N) : p * N + w < n * N := by
  have h : (p + 1) * N ≤ n * N := Nat.mul_le_mul_right N hp
  rw [Nat.succ_mul] at h
  omega
theorem idx_le {n N : Nat} (hn : n ≤ 9) (hN : N ≤ 512) : n * N ≤ 4608 := Nat.mul_le_mul hn hN
theorem CS.rowS {ln : Nat → Nat} {μ : Mm} {j V n N w0 : Nat} {r : Nat → Int32} (h : CS ln μ j V n N w0 r) {a b : Nat} (f : Nat → Int32) (ha : a ≠ 13) (hb : a ≠ 12 ∨ b < 15) : CS ln (mrow μ (a, b) f) j V n N w0 r := by
  have e : ∀ i, mrow μ (a, b) f (12, 15 + 5 * j + i) = μ (12, 15 + 5 * j + i) := fun i => by
    rcases hb with hb | hb
    · exact mrow_neA hb
    · exact mrow_neB (by omega)
  unfold CS at *
  rw [mrow_neA ha, e, e, e, e]
  exact h
section CLSA
variable {sh : Sh} {ln : Nat → Nat} {μ : Mm} {j V n N w0 : Nat} {r : Nat → Int32}
theorem CS.c0 (h : CS ln μ j V n N w0 r) : μ (13, j) 0 = nI V := h.2.1.1
theorem CS.c1 (h : CS ln μ j V n N w0 r) : μ (13, j) 1 = nI n := h.2.1.2.1
theorem CS.c2 (h : CS ln μ j V n N w0 r) : μ (13, j) 2 = nI N := h.2.1.2.2.1
theorem CS.c3 (h : CS ln μ j V n N w0 r) : μ (13, j) 3 = nI w0 := h.2.1.2.2.2
theorem k_hasPerson (h : CS ln μ j V n N w0 r) {p : Nat} (hp : p < n) : f_X6_hasPerson sh ln j μ (nI p) = some (nI 1) := by
  have hb := h.1.b
  simp (disch := omega) only [Option.bind_some, Option.map_some, Option.bind_none, q_lit, nI_add, pk_mul, q_sub, q_addn, q_cl, q_le, q_lt, q_eq, q_ck, q_cd, q_cb0, q_cb1, q_div, q_rem, q_shl1, q_shr, q_and, q_or, q_tb, if_pos, if_neg, if_true, if_false, not_true, not_false_iff, eq_self, Bool.true_eq_false, Bool.false_eq_true, q_bI0, q_bI1, q_cbI, Nat.or_zero, mst_row, mrow_neA, mrow_neB, mrow_self, q_upd, f_X6_hasPerson, h.c1, hp]
theorem k_units (h : CS ln μ j V n N w0 r) {p : Nat} (hp : p < n) : f_X1_at sh ln (15 + 5 * j + 0) μ (nI p) = some (nI (V ^ (n - 1 - p))) := by
  have hl := h.2.2.1
  rw [k_at (by omega) (hl.2 0 (by omega)), (h.2.2.2.1 p hp).1]
theorem k_sights (h : CS ln μ j V n N w0 r) {p : Nat} (hp : p < n) : f_X1_at sh ln (15 + 5 * j + 1) μ (nI p) = some (nI (se r p)) := by
  have hl := h.2.2.1
  rw [k_at (by omega) (hl.2 1 (by omega)), (h.2.2.2.1 p hp).2, (h.1.hs hp).1]
theorem k_stays (h : CS ln μ j V n N w0 r) {w : Nat} (hw : w < N) : f_X1_at sh ln (15 + 5 * j + 2) μ (nI w) = some (bI (lf r w)) := by
  have hl := h.2.2.1
  rw [k_at (by omega) (hl.2 2 (by omega)), h.2.2.2.2.1 w hw, h.1.hl hw]
theorem se_lt (h : WF V n N w0 r) {p : Nat} (hp : p < n) : se r p < 512 := by
  have hb := h.b
  have hs := h.hs hp
  have h2 : 2 ^ n ≤ 2 ^ 9 := Nat.pow_le_pow_right (by decide) hb.2.2.2.2.1
  omega
theorem k_hasSight (h : CS ln μ j V n N w0 r) {p q : Nat} (hp : p < n) (hq : q < n) : f_X6_hasSight sh ln j μ (nI p) (nI q) = some (bI ((se r p).testBit q)) := by
  have hb := h.1.b
  have hs := se_lt h.1 hp
  simp (disch := omega) only [Option.bind_some, Option.map_some, Option.bind_none, q_lit, nI_add, pk_mul, q_sub, q_addn, q_cl, q_le, q_lt, q_eq, q_ck, q_cd, q_cb0, q_cb1, q_div, q_rem, q_shl1, q_shr, q_and, q_or, q_tb, if_pos, if_neg, if_true, if_false, not_true, not_false_iff, eq_self, Bool.true_eq_false, Bool.false_eq_true, q_bI0, q_bI1, q_cbI, Nat.or_zero, mst_row, mrow_neA, mrow_neB, mrow_self, q_upd, f_X6_hasSight, k_hasPerson h hq, k_sights h hp, bI_ifs, Bool.decide_eq_true]
theorem k_stands (h : CS ln μ j V n N w0 r) {w : Nat} (hw : w < N) : f_X6_stands sh ln j μ (nI w) = some (bI (lf r w)) := by
  simp (disch := omega) only [Option.bind_some, Option.map_some, Option.bind_none, q_lit, nI_add, pk_mul, q_sub, q_addn, q_cl, q_le, q_lt, q_eq, q_ck, q_cd, q_cb0, q_cb1, q_div, q_rem, q_shl1, q_shr, q_and, q_or, q_tb, if_pos, if_neg, if_true, if_false, not_true, not_false_iff, eq_self, Bool.true_eq_false, Bool.false_eq_true, q_bI0, q_bI1, q_cbI, Nat.or_zero, mst_row, mrow_neA, mrow_neB, mrow_self, q_upd, f_X6_stands, k_stays h hw, bI_ifs, Bool.decide_eq_true]
theorem k_figure (h : CS ln μ j V n N w0 r) {p w : Nat} (hp : p < n) (hw : w < N) : f_X6_figure sh ln j μ (nI w) (nI p) = some (nI (fig V n p w)) := by
  have hb := h.1.b
  have h1 : 0 < V ^ (n - 1 - p) := Nat.pow_pos (by omega)
  have h2 : V ^ (n - 1 - p) ≤ V ^ n := Nat.pow_le_pow_right (by omega) (by omega)
  have h3 := Nat.div_le_self w (V ^ (n - 1 - p))
  simp (disch := omega) only [Option.bind_some, Option.map_some, Option.bind_none, q_lit, nI_add, pk_mul, q_sub, q_addn, q_cl, q_le, q_lt, q_eq, q_ck, q_cd, q_cb0, q_cb1, q_div, q_rem, q_shl1, q_shr, q_and, q_or, q_tb, if_pos, if_neg, if_true, if_false, not_true, not_false_iff, eq_self, Bool.true_eq_false, Bool.false_eq_true, q_bI0, q_bI1, q_cbI, Nat.or_zero, mst_row, mrow_neA, mrow_neB, mrow_self, q_upd, f_X6_figure, k_units h hp, h.c0]
  rfl
theorem k_group (h : CS ln μ j V n N w0 r) {p w : Nat} (hp : p < n) (hw : w < N) : f_X6_group sh ln j μ (nI p) (nI w) = some (nI (lab r p w)) := by
  have hl := h.2.2.1
  have hi := idx_lt hp hw
  have e : f_X1_at sh ln (15 + 5 * j + 3) μ (nI (p * N + w)) = some (nI (lab r p w)) := by
    rw [k_at (by omega) (hl.2 3 (by omega)), h.2.2.2.2.2 p w hp hw, (h.1.hb hp hw).1]
  simp (disch := omega) only [Option.bind_some, Option.map_some, Option.bind_none, q_lit, nI_add, pk_mul, q_sub, q_addn, q_cl, q_le, q_lt, q_eq, q_ck, q_cd, q_cb0, q_cb1, q_div, q_rem, q_shl1, q_shr, q_and, q_or, q_tb, if_pos, if_neg, if_true, if_false, not_true, not_false_iff, eq_self, Bool.true_eq_false, Bool.false_eq_true, q_bI0, q_bI1, q_cbI, Nat.or_zero, mst_row, mrow_neA, mrow_neB, mrow_self, q_upd, f_X6_group, h.c2, e]
theorem k_seers (h : CS ln μ j V n N w0 r) {q : Nat} (hq : q < n) : f_X6_seers sh ln j μ (nI q) = some (nI (orN n (fun p => if (se r p).testBit q = true then 2 ^ p else 0))) := by
  have hb := h.1.b
  unfold f_X6_seers
  refine Wh_it n (fun k => (nI (orN k (fun p => if (se r p).testBit q = true then 2 ^ p else 0)), nI k)) rfl (fun k hk => ?_) ?_
  · show f_X6_seers_L4 sh ln j (nI q) μ (nI (orN k (fun p => if (se r p).testBit q = true then 2 ^ p else 0))) (nI k) = some (.inl (nI (orN (k + 1) (fun p => if (se r p).testBit q = true then 2 ^ p else 0)), nI (k + 1)))
    rw [orN_s]
    by_cases c : (se r k).testBit q = true
    · simp (disch := omega) only [Option.bind_some, Option.map_some, Option.bind_none, q_lit, nI_add, pk_mul, q_sub, q_addn, q_cl, q_le, q_lt, q_eq, q_ck, q_cd, q_cb0, q_cb1, q_div, q_rem, q_shl1, q_shr, q_and, q_or, q_tb, if_pos, if_neg, if_true, if_false, not_true, not_false_iff, eq_self, Bool.true_eq_false, Bool.false_eq_true, q_bI0, q_bI1, q_cbI, Nat.or_zero, mst_row, mrow_neA, mrow_neB, mrow_self, q_upd, f_X6_seers_L4, h.c1, k_hasSight h hk hq, c]
    · have c := Bool.not_eq_true _ ▸ c
      simp (disch := omega) only [Option.bind_some, Option.map_some, Option.bind_none, q_lit, nI_add, pk_mul, q_sub, q_addn, q_cl, q_le, q_lt, q_eq, q_ck, q_cd, q_cb0, q_cb1, q_div, q_rem, q_shl1, q_shr, q_and, q_or, q_tb, if_pos, if_neg, if_true, if_false, not_true, not_false_iff, eq_self, Bool.true_eq_false, Bool.false_eq_true, q_bI0, q_bI1, q_cbI, Nat.or_zero, mst_row, mrow_neA, mrow_neB, mrow_self, q_upd, f_X6_seers_L4, h.c1, k_hasSight h hk hq, c, Nat.or_zero]
  · show f_X6_seers_L4 sh ln j (nI q) μ (nI (orN n (fun p => if (se r p).testBit q = true then 2 ^ p else 0))) (nI n) = _
    simp (disch := omega) only [Option.bind_some, Option.map_some, Option.bind_none, q_lit, nI_add, pk_mul, q_sub, q_addn, q_cl, q_le, q_lt, q_eq, q_ck, q_cd, q_cb0, q_cb1, q_div, q_rem, q_shl1, q_shr, q_and, q_or, q_tb, if_pos, if_neg, if_true, if_false, not_true, not_false_iff, eq_self, Bool.true_eq_false, Bool.false_eq_true, q_bI0, q_bI1, q_cbI, Nat.or_zero, mst_row, mrow_neA, mrow_neB, mrow_self, q_upd, f_X6_seers_L4, h.c1, Nat.le_refl]
theorem k_possible (h : CS ln μ j V n N w0 r) {c : Nat} {S : Nat → Bool} (hc : N ≤ ln c ∧ ln c < 2147483648) (hS : ∀ w, w < N → μ (12, c) w = bI (S w)) {p q w : Nat} (hp : p < n) (hq : q < n) (hw : w < N) :
    f_X4_possibleBits sh ln j c μ (nI p) (nI q) (nI w) = some (nI (poss S (lab r p) (fig V n q) N (lab r p w))) := by
  have hb := h.1.b
  have hl := (h.1.hb hp hw).2
  rw [f_X4_possibleBits, k_group h hp hw, Option.bind_some]
  refine Wh_it N (fun k => (nI (poss S (lab r p) (fig V n q) k (lab r p w)), nI k)) rfl (fun k hk => ?_) ?_
  · show f_X4_possibleBits_L15 sh ln j c (nI p) (nI q) (nI (lab r p w)) μ (nI (poss S (lab r p) (fig V n q) k (lab r p w))) (nI k) = some (.inl (nI (poss S (lab r p) (fig V n q) (k + 1) (lab r p w)), nI (k + 1)))
    rw [poss_s]
    have e1 : f_X1_at sh ln c μ (nI k) = some (bI (S k)) := by rw [k_at (by omega) hc.2, hS k hk]
    have hf := fig_lt hb.1 n q k
    have hl2 := (h.1.hb hp hk).2
    by_cases c1 : S k = true
    · by_cases c2 : lab r p k = lab r p w
      · simp (disch := omega) only [Option.bind_some, Option.map_some, Option.bind_none, q_lit, nI_add, pk_mul, q_sub, q_addn, q_cl, q_le, q_lt, q_eq, q_ck, q_cd, q_cb0, q_cb1, q_div, q_rem, q_shl1, q_shr, q_and, q_or, q_tb, if_pos, if_neg, if_true, if_false, not_true, not_false_iff, eq_self, Bool.true_eq_false, Bool.false_eq_true, q_bI0, q_bI1, q_cbI, Nat.or_zero, mst_row, mrow_neA, mrow_neB, mrow_self, q_upd, f_X4_possibleBits_L15, h.c2, e1, k_group h hp hk, k_figure h hq hk, c1, c2, and_self]
      · simp (disch := omega) only [Option.bind_some, Option.map_some, Option.bind_none, q_lit, nI_add, pk_mul, q_sub, q_addn, q_cl, q_le, q_lt, q_eq, q_ck, q_cd, q_cb0, q_cb1, q_div, q_rem, q_shl1, q_shr, q_and, q_or, q_tb, if_pos, if_neg, if_true, if_false, not_true, not_false_iff, eq_self, Bool.true_eq_false, Bool.false_eq_true, q_bI0, q_bI1, q_cbI, Nat.or_zero, mst_row, mrow_neA, mrow_neB, mrow_self, q_upd, f_X4_possibleBits_L15, h.c2, e1, k_group h hp hk, k_figure h hq hk, c1, c2, and_false, Nat.or_zero]
    · have c1 := Bool.not_eq_true _ ▸ c1
      simp (disch := omega) only [Option.bind_some, Option.map_some, Option.bind_none, q_lit, nI_add, pk_mul, q_sub, q_addn, q_cl, q_le, q_lt, q_eq, q_ck, q_cd, q_cb0, q_cb1, q_div, q_rem, q_shl1, q_shr, q_and, q_or, q_tb, if_pos, if_neg, if_true, if_false, not_true, not_false_iff, eq_self, Bool.true_eq_false, Bool.false_eq_true, q_bI0, q_bI1, q_cbI, Nat.or_zero, mst_row, mrow_neA, mrow_neB, mrow_self, q_upd, f_X4_possibleBits_L15, h.c2, e1, c1, false_and, Nat.or_zero]
  · show f_X4_possibleBits_L15 sh ln j c (nI p) (nI q) (nI (lab r p w)) μ (nI (poss S (lab r p) (fig V n q) N (lab r p w))) (nI N) = _
    simp (disch := omega) only [Option.bind_some, Option.map_some, Option.bind_none, q_lit, nI_add, pk_mul, q_sub, q_addn, q_cl, q_le, q_lt, q_eq, q_ck, q_cd, q_cb0, q_cb1, q_div, q_rem, q_shl1, q_shr, q_and, q_or, q_tb, if_pos, if_neg, if_true, if_false, not_true, not_false_iff, eq_self, Bool.true_eq_false, Bool.false_eq_true, q_bI0, q_bI1, q_cbI, Nat.or_zero, mst_row, mrow_neA, mrow_neB, mrow_self, q_upd, f_X4_possibleBits_L15, h.c2, Nat.le_refl]
theorem k_isSure (h : CS ln μ j V n N w0 r) {c : Nat} {S : Nat → Bool} (hc : N ≤ ln c ∧ ln c < 2147483648) (hS : ∀ w, w < N → μ (12, c) w = bI (S w)) {p w : Nat} (hp : p < n) (hw : w < N) :
    f_X4_isSure sh ln j c μ (nI p) (nI w) = some (bI (sur (poss S (lab r p) (fig V n p) N (lab r p w)))) := by
  have hb := h.1.b
  have h1 : poss S (lab r p) (fig V n p) N (lab r p w) < 16 := poss_16 ⟨hb.1, hb.2.1⟩
  simp (disch := omega) only [Option.bind_some, Option.map_some, Option.bind_none, q_lit, nI_add, pk_mul, q_sub, q_addn, q_cl, q_le, q_lt, q_eq, q_ck, q_cd, q_cb0, q_cb1, q_div, q_rem, q_shl1, q_shr, q_and, q_or, q_tb, if_pos, if_neg, if_true, if_false, not_true, not_false_iff, eq_self, Bool.true_eq_false, Bool.false_eq_true, q_bI0, q_bI1, q_cbI, Nat.or_zero, mst_row, mrow_neA, mrow_neB, mrow_self, q_upd, f_X4_isSure, k_possible h hc hS hp hp hw, k_onlyOne (show poss S (lab r p) (fig V n p) N (lab r p w) < 512 by omega), oo_m1 (show poss S (lab r p) (fig V n p) N (lab r p w) < 512 by omega), bI_ifn, Bool.not_eq_false, Bool.decide_eq_true]
end CLSA
