-- the reference's row: what it says, and the first functions over it
def fig (V n p w : Nat) : Nat := w / V ^ (n - 1 - p) % V
def lf (r : Nat → Int32) (w : Nat) : Bool := decide (r (20 + w) = nI 1)
def lab (r : Nat → Int32) (p w : Nat) : Nat := (r (532 + 512 * p + w)).toNatClampNeg
def se (r : Nat → Int32) (p : Nat) : Nat := (r (11 + p)).toNatClampNeg
def WF (V n N w0 : Nat) (r : Nat → Int32) : Prop :=
  (2 ≤ V ∧ V ≤ 4 ∧ N = V ^ n ∧ N ≤ 512 ∧ n ≤ 9 ∧ w0 < N) ∧ (r 0 = nI V ∧ r 1 = nI n ∧ r 10 = nI N ∧ r 6 = nI w0) ∧
  (∀ w, w < N → r (20 + w) = bI (lf r w)) ∧ lf r w0 = true ∧ (∀ p w, p < n → w < N → r (532 + 512 * p + w) = nI (lab r p w) ∧ lab r p w < N) ∧
  (∀ p, p < n → r (11 + p) = nI (se r p) ∧ se r p < 2 ^ n) ∧ (∃ g, g ≤ 60 ∧ r 9 = nI g) ∧ (r 3 = nI 0 ∨ r 3 = nI 1) ∧ (r 7 = nI 0 ∨ r 7 = nI 1) ∧ (r 8 = nI 0 ∨ r 8 = nI 1)
section WFS
variable {V n N w0 : Nat} {r : Nat → Int32}
theorem WF.b (h : WF V n N w0 r) : 2 ≤ V ∧ V ≤ 4 ∧ N = V ^ n ∧ N ≤ 512 ∧ n ≤ 9 ∧ w0 < N := h.1
theorem WF.v0 (h : WF V n N w0 r) : r 0 = nI V := h.2.1.1
theorem WF.v1 (h : WF V n N w0 r) : r 1 = nI n := h.2.1.2.1
theorem WF.v10 (h : WF V n N w0 r) : r 10 = nI N := h.2.1.2.2.1
theorem WF.v6 (h : WF V n N w0 r) : r 6 = nI w0 := h.2.1.2.2.2
theorem WF.hl (h : WF V n N w0 r) {w : Nat} (hw : w < N) : r (20 + w) = bI (lf r w) := h.2.2.1 w hw
theorem WF.h0 (h : WF V n N w0 r) : lf r w0 = true := h.2.2.2.1
theorem WF.hb (h : WF V n N w0 r) {p w : Nat} (hp : p < n) (hw : w < N) : r (532 + 512 * p + w) = nI (lab r p w) ∧ lab r p w < N := h.2.2.2.2.1 p w hp hw
theorem WF.hs (h : WF V n N w0 r) {p : Nat} (hp : p < n) : r (11 + p) = nI (se r p) ∧ se r p < 2 ^ n := h.2.2.2.2.2.1 p hp
theorem WF.hg (h : WF V n N w0 r) : ∃ g, g ≤ 60 ∧ r 9 = nI g := h.2.2.2.2.2.2.1
end WFS
theorem fig_lt {V : Nat} (hV : 2 ≤ V) (n p w : Nat) : fig V n p w < V := Nat.mod_lt _ (by omega)
def RS (μ : Mm) (V n N w0 : Nat) (r : Nat → Int32) : Prop := μ (1, 0) = r ∧ WF V n N w0 r
theorem RS.row {μ : Mm} {V n N w0 : Nat} {r : Nat → Int32} (h : RS μ V n N w0 r) {a b : Nat} (f : Nat → Int32) (ha : a ≠ 1) : RS (mrow μ (a, b) f) V n N w0 r := ⟨by rw [mrow_neA ha]; exact h.1, h.2⟩
section REFA
variable {μ : Mm} {V n N w0 : Nat} {r : Nat → Int32} (h : RS μ V n N w0 r)
theorem q_values (h : RS μ V n N w0 r) : f_X11_values μ = some (nI V) := by simp (disch := omega) only [Option.bind_some, Option.map_some, Option.bind_none, q_lit, nI_add, pk_mul, q_sub, q_addn, q_cl, q_le, q_lt, q_eq, q_ck, q_cd, q_cb0, q_cb1, q_div, q_rem, q_shl1, q_shr, q_and, q_or, q_tb, if_pos, if_neg, if_true, if_false, not_true, not_false_iff, eq_self, Bool.true_eq_false, Bool.false_eq_true, q_bI0, q_bI1, q_cbI, Nat.or_zero, mst_row, mrow_neA, mrow_neB, mrow_self, q_upd, f_X11_values, h.1, h.2.v0]
theorem q_people (h : RS μ V n N w0 r) : f_X11_people μ = some (nI n) := by simp (disch := omega) only [Option.bind_some, Option.map_some, Option.bind_none, q_lit, nI_add, pk_mul, q_sub, q_addn, q_cl, q_le, q_lt, q_eq, q_ck, q_cd, q_cb0, q_cb1, q_div, q_rem, q_shl1, q_shr, q_and, q_or, q_tb, if_pos, if_neg, if_true, if_false, not_true, not_false_iff, eq_self, Bool.true_eq_false, Bool.false_eq_true, q_bI0, q_bI1, q_cbI, Nat.or_zero, mst_row, mrow_neA, mrow_neB, mrow_self, q_upd, f_X11_people, h.1, h.2.v1]
theorem q_worlds (h : RS μ V n N w0 r) : f_X11_worlds μ = some (nI N) := by simp (disch := omega) only [Option.bind_some, Option.map_some, Option.bind_none, q_lit, nI_add, pk_mul, q_sub, q_addn, q_cl, q_le, q_lt, q_eq, q_ck, q_cd, q_cb0, q_cb1, q_div, q_rem, q_shl1, q_shr, q_and, q_or, q_tb, if_pos, if_neg, if_true, if_false, not_true, not_false_iff, eq_self, Bool.true_eq_false, Bool.false_eq_true, q_bI0, q_bI1, q_cbI, Nat.or_zero, mst_row, mrow_neA, mrow_neB, mrow_self, q_upd, f_X11_worlds, h.1, h.2.v10]
theorem q_here (h : RS μ V n N w0 r) : f_X11_here μ = some (nI w0) := by simp (disch := omega) only [Option.bind_some, Option.map_some, Option.bind_none, q_lit, nI_add, pk_mul, q_sub, q_addn, q_cl, q_le, q_lt, q_eq, q_ck, q_cd, q_cb0, q_cb1, q_div, q_rem, q_shl1, q_shr, q_and, q_or, q_tb, if_pos, if_neg, if_true, if_false, not_true, not_false_iff, eq_self, Bool.true_eq_false, Bool.false_eq_true, q_bI0, q_bI1, q_cbI, Nat.or_zero, mst_row, mrow_neA, mrow_neB, mrow_self, q_upd, f_X11_here, h.1, h.2.v6]
theorem q_isLeft (h : RS μ V n N w0 r) {w : Nat} (hw : w < N) : f_X11_isLeft μ (nI w) = some (bI (lf r w)) := by
  have hb := h.2.b
  simp (disch := omega) only [Option.bind_some, Option.map_some, Option.bind_none, q_lit, nI_add, pk_mul, q_sub, q_addn, q_cl, q_le, q_lt, q_eq, q_ck, q_cd, q_cb0, q_cb1, q_div, q_rem, q_shl1, q_shr, q_and, q_or, q_tb, if_pos, if_neg, if_true, if_false, not_true, not_false_iff, eq_self, Bool.true_eq_false, Bool.false_eq_true, q_bI0, q_bI1, q_cbI, Nat.or_zero, mst_row, mrow_neA, mrow_neB, mrow_self, q_upd, f_X11_isLeft, h.1, h.2.hl hw, bI_ifs, Bool.decide_eq_true]
theorem q_label (h : RS μ V n N w0 r) {p w : Nat} (hp : p < n) (hw : w < N) : f_X11_label μ (nI p) (nI w) = some (nI (lab r p w)) := by
  have hb := h.2.b
  simp (disch := omega) only [Option.bind_some, Option.map_some, Option.bind_none, q_lit, nI_add, pk_mul, q_sub, q_addn, q_cl, q_le, q_lt, q_eq, q_ck, q_cd, q_cb0, q_cb1, q_div, q_rem, q_shl1, q_shr, q_and, q_or, q_tb, if_pos, if_neg, if_true, if_false, not_true, not_false_iff, eq_self, Bool.true_eq_false, Bool.false_eq_true, q_bI0, q_bI1, q_cbI, Nat.or_zero, mst_row, mrow_neA, mrow_neB, mrow_self, q_upd, f_X11_label, h.1, (h.2.hb hp hw).1]
theorem q_has {m p : Nat} (hm : m < 2147483648) (hp : p < 32) : f_X11_has (nI m) (nI p) = some (bI (m.testBit p)) := by
  simp (disch := omega) only [Option.bind_some, Option.map_some, Option.bind_none, q_lit, nI_add, pk_mul, q_sub, q_addn, q_cl, q_le, q_lt, q_eq, q_ck, q_cd, q_cb0, q_cb1, q_div, q_rem, q_shl1, q_shr, q_and, q_or, q_tb, if_pos, if_neg, if_true, if_false, not_true, not_false_iff, eq_self, Bool.true_eq_false, Bool.false_eq_true, q_bI0, q_bI1, q_cbI, Nat.or_zero, mst_row, mrow_neA, mrow_neB, mrow_self, q_upd, f_X11_has, bI_ifs, Bool.decide_eq_true]
theorem q_isSeeing (h : RS μ V n N w0 r) {p q : Nat} (hp : p < n) (hq : q < n) : f_X11_isSeeing μ (nI p) (nI q) = some (bI ((se r p).testBit q)) := by
  have hb := h.2.b
  have hs := h.2.hs hp
  have h2 : 2 ^ n ≤ 2 ^ 9 := Nat.pow_le_pow_right (by decide) hb.2.2.2.2.1
  have h3 : se r p < 2147483648 := by omega
  simp (disch := omega) only [Option.bind_some, Option.map_some, Option.bind_none, q_lit, nI_add, pk_mul, q_sub, q_addn, q_cl, q_le, q_lt, q_eq, q_ck, q_cd, q_cb0, q_cb1, q_div, q_rem, q_shl1, q_shr, q_and, q_or, q_tb, if_pos, if_neg, if_true, if_false, not_true, not_false_iff, eq_self, Bool.true_eq_false, Bool.false_eq_true, q_bI0, q_bI1, q_cbI, Nat.or_zero, mst_row, mrow_neA, mrow_neB, mrow_self, q_upd, f_X11_isSeeing, h.1, hs.1, q_has h3 (show q < 32 by omega)]
theorem q_in {a b c : Nat} (ha : a < 2147483648) (hb : b < 2147483648) (hc : c < 2147483648) : f_X11_in (nI a) (nI b) (nI c) = some (bI (decide (b ≤ a ∧ a ≤ c))) := by
  by_cases h1 : a < b
  · simp (disch := omega) only [Option.bind_some, Option.map_some, Option.bind_none, q_lit, nI_add, pk_mul, q_sub, q_addn, q_cl, q_le, q_lt, q_eq, q_ck, q_cd, q_cb0, q_cb1, q_div, q_rem, q_shl1, q_shr, q_and, q_or, q_tb, if_pos, if_neg, if_true, if_false, not_true, not_false_iff, eq_self, Bool.true_eq_false, Bool.false_eq_true, q_bI0, q_bI1, q_cbI, Nat.or_zero, mst_row, mrow_neA, mrow_neB, mrow_self, q_upd, f_X11_in, if_pos h1]
    rw [decide_eq_false (by omega)]; rfl
  · by_cases h2 : c < a
    · simp (disch := omega) only [Option.bind_some, Option.map_some, Option.bind_none, q_lit, nI_add, pk_mul, q_sub, q_addn, q_cl, q_le, q_lt, q_eq, q_ck, q_cd, q_cb0, q_cb1, q_div, q_rem, q_shl1, q_shr, q_and, q_or, q_tb, if_pos, if_neg, if_true, if_false, not_true, not_false_iff, eq_self, Bool.true_eq_false, Bool.false_eq_true, q_bI0, q_bI1, q_cbI, Nat.or_zero, mst_row, mrow_neA, mrow_neB, mrow_self, q_upd, f_X11_in, if_neg h1, if_pos h2]
      rw [decide_eq_false (by omega)]; rfl
    · simp (disch := omega) only [Option.bind_some, Option.map_some, Option.bind_none, q_lit, nI_add, pk_mul, q_sub, q_addn, q_cl, q_le, q_lt, q_eq, q_ck, q_cd, q_cb0, q_cb1, q_div, q_rem, q_shl1, q_shr, q_and, q_or, q_tb, if_pos, if_neg, if_true, if_false, not_true, not_false_iff, eq_self, Bool.true_eq_false, Bool.false_eq_true, q_bI0, q_bI1, q_cbI, Nat.or_zero, mst_row, mrow_neA, mrow_neB, mrow_self, q_upd, f_X11_in, if_neg h1, if_neg h2]
      rw [decide_eq_true (by omega)]; rfl
theorem q_noticeIn (h : RS μ V n N w0 r) {p w : Nat} (hp : p < n) (hw : w < N) : f_X11_noticeIn μ (nI p) (nI w) = some (nI (fig V n p w)) := by
  have hb := h.2.b
  have e0 : f_X11_noticeIn μ (nI p) (nI w) = Wh (fun z : Int32 × Int32 => f_X11_noticeIn_L10 (nI p) μ z.1 z.2) (nI w, nI (n - 1)) := by
    simp (disch := omega) only [Option.bind_some, Option.map_some, Option.bind_none, q_lit, nI_add, pk_mul, q_sub, q_addn, q_cl, q_le, q_lt, q_eq, q_ck, q_cd, q_cb0, q_cb1, q_div, q_rem, q_shl1, q_shr, q_and, q_or, q_tb, if_pos, if_neg, if_true, if_false, not_true, not_false_iff, eq_self, Bool.true_eq_false, Bool.false_eq_true, q_bI0, q_bI1, q_cbI, Nat.or_zero, mst_row, mrow_neA, mrow_neB, mrow_self, q_upd, f_X11_noticeIn, q_people h]
  rw [e0]
  refine Wh_it (n - 1 - p) (fun k => (nI (w / V ^ k), nI (n - 1 - k))) (by simp only [Nat.pow_zero, Nat.div_one, Nat.sub_zero]) (fun k hk => ?_) ?_
  · have h1 := Nat.div_le_self w (V ^ k)
    show f_X11_noticeIn_L10 (nI p) μ (nI (w / V ^ k)) (nI (n - 1 - k)) = some (.inl (nI (w / V ^ (k + 1)), nI (n - 1 - (k + 1))))
    rw [Nat.pow_succ, ← Nat.div_div_eq_div_mul]
    simp (disch := omega) only [Option.bind_some, Option.map_some, Option.bind_none, q_lit, nI_add, pk_mul, q_sub, q_addn, q_cl, q_le, q_lt, q_eq, q_ck, q_cd, q_cb0, q_cb1, q_div, q_rem, q_shl1, q_shr, q_and, q_or, q_tb, if_pos, if_neg, if_true, if_false, not_true, not_false_iff, eq_self, Bool.true_eq_false, Bool.false_eq_true, q_bI0, q_bI1, q_cbI, Nat.or_zero, mst_row, mrow_neA, mrow_neB, mrow_self, q_upd, f_X11_noticeIn_L10, q_values h]
    rfl
  · have h1 := Nat.div_le_self w (V ^ (n - 1 - p))
    show f_X11_noticeIn_L10 (nI p) μ (nI (w / V ^ (n - 1 - p))) (nI (n - 1 - (n - 1 - p))) = some (.inr (nI (fig V n p w)))
    rw [show n - 1 - (n - 1 - p) = p by omega]
    simp (disch := omega) only [Option.bind_some, Option.map_some, Option.bind_none, q_lit, nI_add, pk_mul, q_sub, q_addn, q_cl, q_le, q_lt, q_eq, q_ck, q_cd, q_cb0, q_cb1, q_div, q_rem, q_shl1, q_shr, q_and, q_or, q_tb, if_pos, if_neg, if_true, if_false, not_true, not_false_iff, eq_self, Bool.true_eq_false, Bool.false_eq_true, q_bI0, q_bI1, q_cbI, Nat.or_zero, mst_row, mrow_neA, mrow_neB, mrow_self, q_upd, f_X11_noticeIn_L10, q_values h]
    rfl
theorem q_isOne {m : Nat} (hm : m < 2147483648) : f_X11_isOne (nI m) = some (bI (one m)) := by
  by_cases h0 : m = 0
  · subst h0; decide
  · have : m &&& (m - 1) ≤ m := Nat.and_le_left
    simp (disch := omega) only [Option.bind_some, Option.map_some, Option.bind_none, q_lit, nI_add, pk_mul, q_sub, q_addn, q_cl, q_le, q_lt, q_eq, q_ck, q_cd, q_cb0, q_cb1, q_div, q_rem, q_shl1, q_shr, q_and, q_or, q_tb, if_pos, if_neg, if_true, if_false, not_true, not_false_iff, eq_self, Bool.true_eq_false, Bool.false_eq_true, q_bI0, q_bI1, q_cbI, Nat.or_zero, mst_row, mrow_neA, mrow_neB, mrow_self, q_upd, f_X11_isOne, bI_ifs]
    rfl
theorem q_lays (h : RS μ V n N w0 r) {p q : Nat} (hp : p < n) (hq : q < n) : ∃ μ', f_X11_lays μ (nI p) (nI q) = some μ' ∧ ∃ R, μ' = mrow μ (8, 0) R ∧ ∀ k, k < 512 → R k = nI (poss (lf r) (lab r p) (fig V n q) N k) := by
  have hb := h.2.b
  unfold f_X11_lays
  refine Wh_inv1 512 (fun k s => ∃ R, s = (mrow μ (8, 0) R, nI k) ∧ ∀ i, i < k → R i = nI 0) _ ⟨μ (8, 0), by rw [mrow_id]; rfl, fun i hi => by omega⟩ ?_ ?_
  · rintro k _ hk ⟨R, rfl, hR⟩
    refine ⟨(mrow μ (8, 0) (upd R k (nI 0)), nI (k + 1)), ?_, _, rfl, ?_⟩
    · show f_X11_lays_L2 (nI p) (nI q) (mrow μ (8, 0) R) (nI k) = _
      simp (disch := omega) only [Option.bind_some, Option.map_some, Option.bind_none, q_lit, nI_add, pk_mul, q_sub, q_addn, q_cl, q_le, q_lt, q_eq, q_ck, q_cd, q_cb0, q_cb1, q_div, q_rem, q_shl1, q_shr, q_and, q_or, q_tb, if_pos, if_neg, if_true, if_false, not_true, not_false_iff, eq_self, Bool.true_eq_false, Bool.false_eq_true, q_bI0, q_bI1, q_cbI, Nat.or_zero, mst_row, mrow_neA, mrow_neB, mrow_self, q_upd, f_X11_lays_L2, mrow_mrow]
    · intro i hi
      rw [q_upd]
      split
      · rfl
      · exact hR i (by omega)
  · rintro _ ⟨R, rfl, hR⟩
    have e : f_X11_lays_L2 (nI p) (nI q) (mrow μ (8, 0) R) (nI 512) = (Wh (fun z : Mm × Int32 => f_X11_lays_L24 (nI p) (nI q) z.1 z.2) (mrow μ (8, 0) R, nI 0)).map Sum.inr := by
      simp (disch := omega) only [Option.bind_some, Option.map_some, Option.bind_none, q_lit, nI_add, pk_mul, q_sub, q_addn, q_cl, q_le, q_lt, q_eq, q_ck, q_cd, q_cb0, q_cb1, q_div, q_rem, q_shl1, q_shr, q_and, q_or, q_tb, if_pos, if_neg, if_true, if_false, not_true, not_false_iff, eq_self, Bool.true_eq_false, Bool.false_eq_true, q_bI0, q_bI1, q_cbI, Nat.or_zero, mst_row, mrow_neA, mrow_neB, mrow_self, q_upd, f_X11_lays_L2]
    have hh : ∃ μ', Wh (fun z : Mm × Int32 => f_X11_lays_L24 (nI p) (nI q) z.1 z.2) (mrow μ (8, 0) R, nI 0) = some μ' ∧ ∃ R, μ' = mrow μ (8, 0) R ∧ ∀ k, k < 512 → R k = nI (poss (lf r) (lab r p) (fig V n q) N k) := by
      refine Wh_inv1 N (fun k s => ∃ R, s = (mrow μ (8, 0) R, nI k) ∧ ∀ i, i < 512 → R i = nI (poss (lf r) (lab r p) (fig V n q) k i)) _ ⟨R, rfl, hR⟩ ?_ ?_
      · rintro k _ hk ⟨R, rfl, hR⟩
        have h' := h.row (a := 8) (b := 0) R (by omega)
        have hl := h.2.hb hp hk
        have hf := fig_lt hb.1 n q k
        have hRl := hR (lab r p k) (by omega)
        by_cases hL : lf r k = true
        · refine ⟨(mrow μ (8, 0) (upd R (lab r p k) (nI (poss (lf r) (lab r p) (fig V n q) k (lab r p k) ||| 2 ^ fig V n q k))), nI (k + 1)), ?_, _, rfl, ?_⟩
          · show f_X11_lays_L24 (nI p) (nI q) (mrow μ (8, 0) R) (nI k) = _
            simp (disch := omega) only [Option.bind_some, Option.map_some, Option.bind_none, q_lit, nI_add, pk_mul, q_sub, q_addn, q_cl, q_le, q_lt, q_eq, q_ck, q_cd, q_cb0, q_cb1, q_div, q_rem, q_shl1, q_shr, q_and, q_or, q_tb, if_pos, if_neg, if_true, if_false, not_true, not_false_iff, eq_self, Bool.true_eq_false, Bool.false_eq_true, q_bI0, q_bI1, q_cbI, Nat.or_zero, mst_row, mrow_neA, mrow_neB, mrow_self, q_upd, f_X11_lays_L24, q_worlds h', q_isLeft h' hk, hL, q_label h' hp hk, q_noticeIn h' hq hk, mrow_mrow, hRl]
          · intro i hi
            rw [q_upd, poss_s]
            by_cases e : i = lab r p k
            · subst e; simp [hL]
            · simp [e, Ne.symm e, hR i hi]
        · refine ⟨(mrow μ (8, 0) R, nI (k + 1)), ?_, _, rfl, ?_⟩
          · show f_X11_lays_L24 (nI p) (nI q) (mrow μ (8, 0) R) (nI k) = _
            have hL := Bool.not_eq_true _ ▸ hL
            simp (disch := omega) only [Option.bind_some, Option.map_some, Option.bind_none, q_lit, nI_add, pk_mul, q_sub, q_addn, q_cl, q_le, q_lt, q_eq, q_ck, q_cd, q_cb0, q_cb1, q_div, q_rem, q_shl1, q_shr, q_and, q_or, q_tb, if_pos, if_neg, if_true, if_false, not_true, not_false_iff, eq_self, Bool.true_eq_false, Bool.false_eq_true, q_bI0, q_bI1, q_cbI, Nat.or_zero, mst_row, mrow_neA, mrow_neB, mrow_self, q_upd, f_X11_lays_L24, q_worlds h', q_isLeft h' hk, hL]
          · intro i hi
            rw [poss_s, hR i hi]
            simp [hL]
      · rintro _ ⟨R, rfl, hR⟩
        have h' := h.row (a := 8) (b := 0) R (by omega)
        refine ⟨_, ?_, R, rfl, hR⟩
        show f_X11_lays_L24 (nI p) (nI q) (mrow μ (8, 0) R) (nI N) = _
        simp (disch := omega) only [Option.bind_some, Option.map_some, Option.bind_none, q_lit, nI_add, pk_mul, q_sub, q_addn, q_cl, q_le, q_lt, q_eq, q_ck, q_cd, q_cb0, q_cb1, q_div, q_rem, q_shl1, q_shr, q_and, q_or, q_tb, if_pos, if_neg, if_true, if_false, not_true, not_false_iff, eq_self, Bool.true_eq_false, Bool.false_eq_true, q_bI0, q_bI1, q_cbI, Nat.or_zero, mst_row, mrow_neA, mrow_neB, mrow_self, q_upd, f_X11_lays_L24, q_worlds h', Nat.le_refl]
    obtain ⟨μ', h1, h2⟩ := hh
    exact ⟨μ', by show f_X11_lays_L2 (nI p) (nI q) (mrow μ (8, 0) R) (nI 512) = _; rw [e, h1]; rfl, h2⟩
end REFA
