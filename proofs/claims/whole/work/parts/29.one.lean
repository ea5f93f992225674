-- what one holds, knows; how many are left
def hld (r : Nat → Int32) (p w u : Nat) : Bool := lf r u && decide (lab r p u = lab r p w)
def cnt (m : Nat) (h : Nat → Bool) : Nat := smN m (fun u => if h u = true then 1 else 0)
theorem cnt_s (m : Nat) (h : Nat → Bool) : cnt (m + 1) h = cnt m h + (if h m = true then 1 else 0) := rfl
theorem cnt_le (m : Nat) (h : Nat → Bool) : cnt m h ≤ m := by
  have := smN_le (n := m) (b := 1) (f := fun u => if h u = true then 1 else 0) (fun k _ => by split <;> omega)
  rw [Nat.mul_one] at this
  exact this
theorem cnt_congr {m : Nat} {h h' : Nat → Bool} (e : ∀ u, u < m → h u = h' u) : cnt m h = cnt m h' := smN_congr (fun k hk => by rw [e k hk])
theorem cnt_pos {m : Nat} {h : Nat → Bool} {w : Nat} (hw : w < m) (hh : h w = true) : 0 < cnt m h := by
  induction m with
  | zero => omega
  | succ m ih =>
    rw [cnt_s]
    by_cases e : w = m
    · subst e; rw [if_pos hh]; omega
    · have := ih (by omega); omega
/-- a set of people by a test, as bits -/
def set (m : Nat) (f : Nat → Bool) : Nat := orN m (fun p => if f p = true then 2 ^ p else 0)
theorem set_s (m : Nat) (f : Nat → Bool) : set (m + 1) f = set m f ||| (if f m = true then 2 ^ m else 0) := rfl
theorem set_lt {m b : Nat} (f : Nat → Bool) (hb : m ≤ b) : set m f < 2 ^ b := by
  refine orN_lt (fun p hp => ?_)
  split
  · exact Nat.pow_lt_pow_right (by decide) (by omega)
  · exact Nat.two_pow_pos _
theorem set_512 {m : Nat} (f : Nat → Bool) (hb : m ≤ 9) : set m f < 512 := set_lt (b := 9) f hb
theorem set_congr {m : Nat} {f g : Nat → Bool} (h : ∀ p, p < m → f p = g p) : set m f = set m g := orN_congr (fun p hp => by rw [h p hp])
theorem set_tb {m : Nat} {f : Nat → Bool} (i : Nat) : (set m f).testBit i = true ↔ i < m ∧ f i = true := by
  unfold set
  rw [orN_tb]
  constructor
  · rintro ⟨k, h1, h2⟩
    by_cases c : f k = true
    · rw [if_pos c, tb_pow] at h2
      subst h2
      exact ⟨h1, c⟩
    · rw [if_neg c] at h2; simp at h2
  · rintro ⟨h1, h2⟩
    exact ⟨i, h1, by rw [if_pos h2, tb_pow]⟩
def knw (r : Nat → Int32) (V n N p q w : Nat) : Bool := sur (poss (lf r) (lab r p) (fig V n q) N (lab r p w))
def poA (r : Nat → Int32) (V n N p w m : Nat) : Nat := smN m (fun q => bc (poss (lf r) (lab r p) (fig V n q) N (lab r p w)))
theorem poA_le (r : Nat → Int32) (V n N p w m : Nat) : poA r V n N p w m ≤ m * 9 := smN_le (fun k _ => bc_le _)
theorem oo_n {m : Nat} (h0 : m ≠ 0) : oo m = if one m = true then nI (tz m) else -nI 1 := by
  unfold oo
  rw [one_sur h0]
theorem q_onlyOne {m : Nat} (h : m < 512) (h0 : m ≠ 0) : f_X11_onlyOne (nI m) = some (oo m) := by
  rw [oo_n h0]
  by_cases c : one m = true
  · simp (disch := omega) only [Option.bind_some, Option.map_some, Option.bind_none, q_lit, nI_add, pk_mul, q_sub, q_addn, q_cl, q_le, q_lt, q_eq, q_ck, q_cd, q_cb0, q_cb1, q_div, q_rem, q_shl1, q_shr, q_and, q_or, q_tb, if_pos, if_neg, if_true, if_false, not_true, not_false_iff, eq_self, Bool.true_eq_false, Bool.false_eq_true, q_bI0, q_bI1, q_cbI, Nat.or_zero, mst_row, mrow_neA, mrow_neB, mrow_self, q_upd, f_X11_onlyOne, q_isOne (show m < 2147483648 by omega), c, k_tz h]
  · have c := Bool.not_eq_true _ ▸ c
    simp (disch := omega) only [Option.bind_some, Option.map_some, Option.bind_none, q_lit, nI_add, pk_mul, q_sub, q_addn, q_cl, q_le, q_lt, q_eq, q_ck, q_cd, q_cb0, q_cb1, q_div, q_rem, q_shl1, q_shr, q_and, q_or, q_tb, if_pos, if_neg, if_true, if_false, not_true, not_false_iff, eq_self, Bool.true_eq_false, Bool.false_eq_true, q_bI0, q_bI1, q_cbI, Nat.or_zero, mst_row, mrow_neA, mrow_neB, mrow_self, q_upd, f_X11_onlyOne, q_isOne (show m < 2147483648 by omega), c]
section ONEQ
variable {μ : Mm} {V n N w0 : Nat} {r : Nat → Int32}
theorem q_seenBy (h : RS μ V n N w0 r) {q : Nat} (hq : q < n) : f_X11_seenBy μ (nI q) = some (nI (set n (fun p => (se r p).testBit q))) := by
  have hb := h.2.b
  unfold f_X11_seenBy
  refine Wh_it n (fun k => (nI (set k (fun p => (se r p).testBit q)), nI k)) rfl (fun k hk => ?_) ?_
  · show f_X11_seenBy_L4 (nI q) μ (nI (set k (fun p => (se r p).testBit q))) (nI k) = some (.inl (nI (set (k + 1) (fun p => (se r p).testBit q)), nI (k + 1)))
    rw [set_s]
    by_cases c : (se r k).testBit q = true
    · simp (disch := omega) only [Option.bind_some, Option.map_some, Option.bind_none, q_lit, nI_add, pk_mul, q_sub, q_addn, q_cl, q_le, q_lt, q_eq, q_ck, q_cd, q_cb0, q_cb1, q_div, q_rem, q_shl1, q_shr, q_and, q_or, q_tb, if_pos, if_neg, if_true, if_false, not_true, not_false_iff, eq_self, Bool.true_eq_false, Bool.false_eq_true, q_bI0, q_bI1, q_cbI, Nat.or_zero, mst_row, mrow_neA, mrow_neB, mrow_self, q_upd, f_X11_seenBy_L4, q_people h, q_isSeeing h hk hq, c]
    · have c := Bool.not_eq_true _ ▸ c
      simp (disch := omega) only [Option.bind_some, Option.map_some, Option.bind_none, q_lit, nI_add, pk_mul, q_sub, q_addn, q_cl, q_le, q_lt, q_eq, q_ck, q_cd, q_cb0, q_cb1, q_div, q_rem, q_shl1, q_shr, q_and, q_or, q_tb, if_pos, if_neg, if_true, if_false, not_true, not_false_iff, eq_self, Bool.true_eq_false, Bool.false_eq_true, q_bI0, q_bI1, q_cbI, Nat.or_zero, mst_row, mrow_neA, mrow_neB, mrow_self, q_upd, f_X11_seenBy_L4, q_people h, q_isSeeing h hk hq, c]
  · show f_X11_seenBy_L4 (nI q) μ (nI (set n (fun p => (se r p).testBit q))) (nI n) = _
    simp (disch := omega) only [Option.bind_some, Option.map_some, Option.bind_none, q_lit, nI_add, pk_mul, q_sub, q_addn, q_cl, q_le, q_lt, q_eq, q_ck, q_cd, q_cb0, q_cb1, q_div, q_rem, q_shl1, q_shr, q_and, q_or, q_tb, if_pos, if_neg, if_true, if_false, not_true, not_false_iff, eq_self, Bool.true_eq_false, Bool.false_eq_true, q_bI0, q_bI1, q_cbI, Nat.or_zero, mst_row, mrow_neA, mrow_neB, mrow_self, q_upd, f_X11_seenBy_L4, q_people h, Nat.le_refl]
theorem q_holds (h : RS μ V n N w0 r) {p w : Nat} (hp : p < n) (hw : w < N) : f_X11_holds μ (nI p) (nI w) = some (nI (cnt N (hld r p w))) := by
  have hb := h.2.b
  unfold f_X11_holds
  refine Wh_it N (fun k => (nI (cnt k (hld r p w)), nI k)) rfl (fun k hk => ?_) ?_
  · show f_X11_holds_L5 (nI p) (nI w) μ (nI (cnt k (hld r p w))) (nI k) = some (.inl (nI (cnt (k + 1) (hld r p w)), nI (k + 1)))
    rw [cnt_s]
    have l1 := (h.2.hb hp hk).2
    have l2 := (h.2.hb hp hw).2
    have hh : hld r p w k = (lf r k && decide (lab r p k = lab r p w)) := rfl
    by_cases c : lf r k = true
    · by_cases c2 : lab r p k = lab r p w
      · simp (disch := omega) only [Option.bind_some, Option.map_some, Option.bind_none, q_lit, nI_add, pk_mul, q_sub, q_addn, q_cl, q_le, q_lt, q_eq, q_ck, q_cd, q_cb0, q_cb1, q_div, q_rem, q_shl1, q_shr, q_and, q_or, q_tb, if_pos, if_neg, if_true, if_false, not_true, not_false_iff, eq_self, Bool.true_eq_false, Bool.false_eq_true, q_bI0, q_bI1, q_cbI, Nat.or_zero, mst_row, mrow_neA, mrow_neB, mrow_self, q_upd, f_X11_holds_L5, q_worlds h, q_isLeft h hk, c, q_label h hp hk, q_label h hp hw, c2, hh, decide_true, Bool.and_self]
      · simp (disch := omega) only [Option.bind_some, Option.map_some, Option.bind_none, q_lit, nI_add, pk_mul, q_sub, q_addn, q_cl, q_le, q_lt, q_eq, q_ck, q_cd, q_cb0, q_cb1, q_div, q_rem, q_shl1, q_shr, q_and, q_or, q_tb, if_pos, if_neg, if_true, if_false, not_true, not_false_iff, eq_self, Bool.true_eq_false, Bool.false_eq_true, q_bI0, q_bI1, q_cbI, Nat.or_zero, mst_row, mrow_neA, mrow_neB, mrow_self, q_upd, f_X11_holds_L5, q_worlds h, q_isLeft h hk, c, q_label h hp hk, q_label h hp hw, c2, hh, decide_false, Bool.and_false]
    · have c := Bool.not_eq_true _ ▸ c
      simp (disch := omega) only [Option.bind_some, Option.map_some, Option.bind_none, q_lit, nI_add, pk_mul, q_sub, q_addn, q_cl, q_le, q_lt, q_eq, q_ck, q_cd, q_cb0, q_cb1, q_div, q_rem, q_shl1, q_shr, q_and, q_or, q_tb, if_pos, if_neg, if_true, if_false, not_true, not_false_iff, eq_self, Bool.true_eq_false, Bool.false_eq_true, q_bI0, q_bI1, q_cbI, Nat.or_zero, mst_row, mrow_neA, mrow_neB, mrow_self, q_upd, f_X11_holds_L5, q_worlds h, q_isLeft h hk, c, hh, Bool.false_and]
  · show f_X11_holds_L5 (nI p) (nI w) μ (nI (cnt N (hld r p w))) (nI N) = _
    simp (disch := omega) only [Option.bind_some, Option.map_some, Option.bind_none, q_lit, nI_add, pk_mul, q_sub, q_addn, q_cl, q_le, q_lt, q_eq, q_ck, q_cd, q_cb0, q_cb1, q_div, q_rem, q_shl1, q_shr, q_and, q_or, q_tb, if_pos, if_neg, if_true, if_false, not_true, not_false_iff, eq_self, Bool.true_eq_false, Bool.false_eq_true, q_bI0, q_bI1, q_cbI, Nat.or_zero, mst_row, mrow_neA, mrow_neB, mrow_self, q_upd, f_X11_holds_L5, q_worlds h, Nat.le_refl]
theorem q_allKnown (h : RS μ V n N w0 r) {p : Nat} (hp : p < n) : ∃ R, f_X11_allKnown μ (nI p) = some (nI (set n (fun q => knw r V n N p q w0)), mrow μ (8, 0) R) := by
  have hb := h.2.b
  have hw0 := hb.2.2.2.2.2
  have hh : ∃ x, f_X11_allKnown μ (nI p) = some x ∧ ∃ R, x = (nI (set n (fun q => knw r V n N p q w0)), mrow μ (8, 0) R) := by
    unfold f_X11_allKnown
    refine Wh_inv1 n (fun k s => ∃ R, s = (mrow μ (8, 0) R, nI (set k (fun q => knw r V n N p q w0)), nI k)) _ ⟨μ (8, 0), by rw [mrow_id]; rfl⟩ ?_ ?_
    · rintro k _ hk ⟨R, rfl⟩
      have h' := h.row (a := 8) (b := 0) R (by omega)
      obtain ⟨R2, e⟩ := q_possibleOf h' hp hk hw0
      refine ⟨(mrow μ (8, 0) R2, nI (set (k + 1) (fun q => knw r V n N p q w0)), nI (k + 1)), ?_, R2, rfl⟩
      show f_X11_allKnown_L4 (nI p) (mrow μ (8, 0) R) (nI (set k (fun q => knw r V n N p q w0))) (nI k) = _
      rw [set_s]
      have h16 : poss (lf r) (lab r p) (fig V n k) N (lab r p w0) < 16 := poss_16 ⟨hb.1, hb.2.1⟩
      have hs1 : one (poss (lf r) (lab r p) (fig V n k) N (lab r p w0)) = knw r V n N p k w0 := one_sur (poss_ne0 hw0 h.2.h0)
      by_cases c : knw r V n N p k w0 = true
      · simp (disch := omega) only [Option.bind_some, Option.map_some, Option.bind_none, q_lit, nI_add, pk_mul, q_sub, q_addn, q_cl, q_le, q_lt, q_eq, q_ck, q_cd, q_cb0, q_cb1, q_div, q_rem, q_shl1, q_shr, q_and, q_or, q_tb, if_pos, if_neg, if_true, if_false, not_true, not_false_iff, eq_self, Bool.true_eq_false, Bool.false_eq_true, q_bI0, q_bI1, q_cbI, Nat.or_zero, mst_row, mrow_neA, mrow_neB, mrow_self, q_upd, f_X11_allKnown_L4, q_people h', q_here h', e, q_isOne (show poss (lf r) (lab r p) (fig V n k) N (lab r p w0) < 2147483648 by omega), hs1, c, mrow_mrow]
      · have c := Bool.not_eq_true _ ▸ c
        simp (disch := omega) only [Option.bind_some, Option.map_some, Option.bind_none, q_lit, nI_add, pk_mul, q_sub, q_addn, q_cl, q_le, q_lt, q_eq, q_ck, q_cd, q_cb0, q_cb1, q_div, q_rem, q_shl1, q_shr, q_and, q_or, q_tb, if_pos, if_neg, if_true, if_false, not_true, not_false_iff, eq_self, Bool.true_eq_false, Bool.false_eq_true, q_bI0, q_bI1, q_cbI, Nat.or_zero, mst_row, mrow_neA, mrow_neB, mrow_self, q_upd, f_X11_allKnown_L4, q_people h', q_here h', e, q_isOne (show poss (lf r) (lab r p) (fig V n k) N (lab r p w0) < 2147483648 by omega), hs1, c, mrow_mrow]
    · rintro _ ⟨R, rfl⟩
      have h' := h.row (a := 8) (b := 0) R (by omega)
      refine ⟨_, ?_, R, rfl⟩
      show f_X11_allKnown_L4 (nI p) (mrow μ (8, 0) R) (nI (set n (fun q => knw r V n N p q w0))) (nI n) = _
      simp (disch := omega) only [Option.bind_some, Option.map_some, Option.bind_none, q_lit, nI_add, pk_mul, q_sub, q_addn, q_cl, q_le, q_lt, q_eq, q_ck, q_cd, q_cb0, q_cb1, q_div, q_rem, q_shl1, q_shr, q_and, q_or, q_tb, if_pos, if_neg, if_true, if_false, not_true, not_false_iff, eq_self, Bool.true_eq_false, Bool.false_eq_true, q_bI0, q_bI1, q_cbI, Nat.or_zero, mst_row, mrow_neA, mrow_neB, mrow_self, q_upd, f_X11_allKnown_L4, q_people h', Nat.le_refl]
  obtain ⟨_, e, R, rfl⟩ := hh
  exact ⟨R, e⟩
theorem q_possibleAll (h : RS μ V n N w0 r) {p : Nat} (hp : p < n) : ∃ R, f_X11_possibleAll μ (nI p) = some (nI (poA r V n N p w0 n), mrow μ (8, 0) R) := by
  have hb := h.2.b
  have hw0 := hb.2.2.2.2.2
  have hh : ∃ x, f_X11_possibleAll μ (nI p) = some x ∧ ∃ R, x = (nI (poA r V n N p w0 n), mrow μ (8, 0) R) := by
    unfold f_X11_possibleAll
    refine Wh_inv1 n (fun k s => ∃ R, s = (mrow μ (8, 0) R, nI (poA r V n N p w0 k), nI k)) _ ⟨μ (8, 0), by rw [mrow_id]; rfl⟩ ?_ ?_
    · rintro k _ hk ⟨R, rfl⟩
      have h' := h.row (a := 8) (b := 0) R (by omega)
      obtain ⟨R2, e⟩ := q_possibleOf h' hp hk hw0
      refine ⟨(mrow μ (8, 0) R2, nI (poA r V n N p w0 k + bc (poss (lf r) (lab r p) (fig V n k) N (lab r p w0))), nI (k + 1)), ?_, R2, rfl⟩
      show f_X11_possibleAll_L4 (nI p) (mrow μ (8, 0) R) (nI (poA r V n N p w0 k)) (nI k) = _
      have h16 : poss (lf r) (lab r p) (fig V n k) N (lab r p w0) < 16 := poss_16 ⟨hb.1, hb.2.1⟩
      simp (disch := omega) only [Option.bind_some, Option.map_some, Option.bind_none, q_lit, nI_add, pk_mul, q_sub, q_addn, q_cl, q_le, q_lt, q_eq, q_ck, q_cd, q_cb0, q_cb1, q_div, q_rem, q_shl1, q_shr, q_and, q_or, q_tb, if_pos, if_neg, if_true, if_false, not_true, not_false_iff, eq_self, Bool.true_eq_false, Bool.false_eq_true, q_bI0, q_bI1, q_cbI, Nat.or_zero, mst_row, mrow_neA, mrow_neB, mrow_self, q_upd, f_X11_possibleAll_L4, q_people h', q_here h', e, k_bc (show poss (lf r) (lab r p) (fig V n k) N (lab r p w0) < 512 by omega), mrow_mrow]
    · rintro _ ⟨R, rfl⟩
      have h' := h.row (a := 8) (b := 0) R (by omega)
      refine ⟨_, ?_, R, rfl⟩
      show f_X11_possibleAll_L4 (nI p) (mrow μ (8, 0) R) (nI (poA r V n N p w0 n)) (nI n) = _
      simp (disch := omega) only [Option.bind_some, Option.map_some, Option.bind_none, q_lit, nI_add, pk_mul, q_sub, q_addn, q_cl, q_le, q_lt, q_eq, q_ck, q_cd, q_cb0, q_cb1, q_div, q_rem, q_shl1, q_shr, q_and, q_or, q_tb, if_pos, if_neg, if_true, if_false, not_true, not_false_iff, eq_self, Bool.true_eq_false, Bool.false_eq_true, q_bI0, q_bI1, q_cbI, Nat.or_zero, mst_row, mrow_neA, mrow_neB, mrow_self, q_upd, f_X11_possibleAll_L4, q_people h', Nat.le_refl]
  obtain ⟨_, e, R, rfl⟩ := hh
  exact ⟨R, e⟩
theorem q_manyLeft (h : RS μ V n N w0 r) : Wh (fun z : Int32 × Int32 => f_X11_count_L122 μ z.1 z.2) (nI 0, nI 0) = some (nI (cnt N (lf r)), μ) := by
  have hb := h.2.b
  refine Wh_it N (fun k => (nI (cnt k (lf r)), nI k)) rfl (fun k hk => ?_) ?_
  · show f_X11_count_L122 μ (nI (cnt k (lf r))) (nI k) = some (.inl (nI (cnt (k + 1) (lf r)), nI (k + 1)))
    rw [cnt_s]
    by_cases c : lf r k = true
    · simp (disch := omega) only [Option.bind_some, Option.map_some, Option.bind_none, q_lit, nI_add, pk_mul, q_sub, q_addn, q_cl, q_le, q_lt, q_eq, q_ck, q_cd, q_cb0, q_cb1, q_div, q_rem, q_shl1, q_shr, q_and, q_or, q_tb, if_pos, if_neg, if_true, if_false, not_true, not_false_iff, eq_self, Bool.true_eq_false, Bool.false_eq_true, q_bI0, q_bI1, q_cbI, Nat.or_zero, mst_row, mrow_neA, mrow_neB, mrow_self, q_upd, f_X11_count_L122, q_worlds h, q_isLeft h hk, c]
    · have c := Bool.not_eq_true _ ▸ c
      simp (disch := omega) only [Option.bind_some, Option.map_some, Option.bind_none, q_lit, nI_add, pk_mul, q_sub, q_addn, q_cl, q_le, q_lt, q_eq, q_ck, q_cd, q_cb0, q_cb1, q_div, q_rem, q_shl1, q_shr, q_and, q_or, q_tb, if_pos, if_neg, if_true, if_false, not_true, not_false_iff, eq_self, Bool.true_eq_false, Bool.false_eq_true, q_bI0, q_bI1, q_cbI, Nat.or_zero, mst_row, mrow_neA, mrow_neB, mrow_self, q_upd, f_X11_count_L122, q_worlds h, q_isLeft h hk, c]
  · show f_X11_count_L122 μ (nI (cnt N (lf r))) (nI N) = _
    simp (disch := omega) only [Option.bind_some, Option.map_some, Option.bind_none, q_lit, nI_add, pk_mul, q_sub, q_addn, q_cl, q_le, q_lt, q_eq, q_ck, q_cd, q_cb0, q_cb1, q_div, q_rem, q_shl1, q_shr, q_and, q_or, q_tb, if_pos, if_neg, if_true, if_false, not_true, not_false_iff, eq_self, Bool.true_eq_false, Bool.false_eq_true, q_bI0, q_bI1, q_cbI, Nat.or_zero, mst_row, mrow_neA, mrow_neB, mrow_self, q_upd, f_X11_count_L122, q_worlds h, Nat.le_refl]
theorem q_thinks (h : RS μ V n N w0 r) {p o q : Nat} (hp : p < n) (ho : o < n) (hq : q < n) :
    ∃ R, (f_X11_lays μ (nI o) (nI q)).bind (fun x47 => Wh (fun z : Int32 × Int32 => f_X11_thinks_L56 (nI p) (nI o) x47 z.1 z.2) (nI 1, nI 0)) = some (bI (!anyN N (fun w => hld r p w0 w && !knw r V n N o q w)), mrow μ (8, 0) R) := by
  have hb := h.2.b
  have hw0 := hb.2.2.2.2.2
  obtain ⟨_, e, R, rfl, hR⟩ := q_lays h ho hq
  have h' := h.row (a := 8) (b := 0) R (by omega)
  refine ⟨R, ?_⟩
  rw [e, Option.bind_some]
  refine Wh_it N (fun k => (bI (!anyN k (fun w => hld r p w0 w && !knw r V n N o q w)), nI k)) rfl (fun k hk => ?_) ?_
  · show f_X11_thinks_L56 (nI p) (nI o) (mrow μ (8, 0) R) (bI (!anyN k (fun w => hld r p w0 w && !knw r V n N o q w))) (nI k) = some (.inl (bI (!anyN (k + 1) (fun w => hld r p w0 w && !knw r V n N o q w)), nI (k + 1)))
    have l1 := (h.2.hb hp hk).2
    have l2 := (h.2.hb hp hw0).2
    have l3 := (h.2.hb ho hk).2
    have h16 : poss (lf r) (lab r o) (fig V n q) N (lab r o k) < 16 := poss_16 ⟨hb.1, hb.2.1⟩
    have hRk := hR (lab r o k) (by omega)
    have ea : anyN (k + 1) (fun w => hld r p w0 w && !knw r V n N o q w) = (anyN k (fun w => hld r p w0 w && !knw r V n N o q w) || (hld r p w0 k && !knw r V n N o q k)) := rfl
    rw [ea]
    obtain ⟨A, hA⟩ : ∃ A, A = anyN k (fun w => hld r p w0 w && !knw r V n N o q w) := ⟨_, rfl⟩
    rw [← hA]
    have hh : hld r p w0 k = (lf r k && decide (lab r p k = lab r p w0)) := rfl
    cases A
    · by_cases c : lf r k = true
      · by_cases c2 : lab r p k = lab r p w0
        · have hs1 : one (poss (lf r) (lab r o) (fig V n q) N (lab r o k)) = knw r V n N o q k := one_sur (poss_ne0 hk c)
          cases c3 : knw r V n N o q k
          · rw [c3] at hs1
            simp (disch := omega) only [Option.bind_some, Option.map_some, Option.bind_none, q_lit, nI_add, pk_mul, q_sub, q_addn, q_cl, q_le, q_lt, q_eq, q_ck, q_cd, q_cb0, q_cb1, q_div, q_rem, q_shl1, q_shr, q_and, q_or, q_tb, if_pos, if_neg, if_true, if_false, not_true, not_false_iff, eq_self, Bool.true_eq_false, Bool.false_eq_true, q_bI0, q_bI1, q_cbI, Nat.or_zero, mst_row, mrow_neA, mrow_neB, mrow_self, q_upd, f_X11_thinks_L56, q_worlds h', q_here h', q_isLeft h' hk, c, q_label h' hp hk, q_label h' hp hw0, q_label h' ho hk, c2, hRk, q_isOne (show poss (lf r) (lab r o) (fig V n q) N (lab r o k) < 2147483648 by omega), hs1, hh, decide_true, Bool.and_self, Bool.not_false, Bool.or_true, Bool.not_true, bI_f]
          · rw [c3] at hs1
            simp (disch := omega) only [Option.bind_some, Option.map_some, Option.bind_none, q_lit, nI_add, pk_mul, q_sub, q_addn, q_cl, q_le, q_lt, q_eq, q_ck, q_cd, q_cb0, q_cb1, q_div, q_rem, q_shl1, q_shr, q_and, q_or, q_tb, if_pos, if_neg, if_true, if_false, not_true, not_false_iff, eq_self, Bool.true_eq_false, Bool.false_eq_true, q_bI0, q_bI1, q_cbI, Nat.or_zero, mst_row, mrow_neA, mrow_neB, mrow_self, q_upd, f_X11_thinks_L56, q_worlds h', q_here h', q_isLeft h' hk, c, q_label h' hp hk, q_label h' hp hw0, q_label h' ho hk, c2, hRk, q_isOne (show poss (lf r) (lab r o) (fig V n q) N (lab r o k) < 2147483648 by omega), hs1, hh, decide_true, Bool.and_self, Bool.not_false, Bool.and_false, Bool.or_self, Bool.not_true, bI_t]
        · simp (disch := omega) only [Option.bind_some, Option.map_some, Option.bind_none, q_lit, nI_add, pk_mul, q_sub, q_addn, q_cl, q_le, q_lt, q_eq, q_ck, q_cd, q_cb0, q_cb1, q_div, q_rem, q_shl1, q_shr, q_and, q_or, q_tb, if_pos, if_neg, if_true, if_false, not_true, not_false_iff, eq_self, Bool.true_eq_false, Bool.false_eq_true, q_bI0, q_bI1, q_cbI, Nat.or_zero, mst_row, mrow_neA, mrow_neB, mrow_self, q_upd, f_X11_thinks_L56, q_worlds h', q_here h', q_isLeft h' hk, c, q_label h' hp hk, q_label h' hp hw0, c2, hh, decide_false, Bool.and_false, Bool.false_and, Bool.or_self, Bool.not_false, bI_t]
      · have c := Bool.not_eq_true _ ▸ c
        simp (disch := omega) only [Option.bind_some, Option.map_some, Option.bind_none, q_lit, nI_add, pk_mul, q_sub, q_addn, q_cl, q_le, q_lt, q_eq, q_ck, q_cd, q_cb0, q_cb1, q_div, q_rem, q_shl1, q_shr, q_and, q_or, q_tb, if_pos, if_neg, if_true, if_false, not_true, not_false_iff, eq_self, Bool.true_eq_false, Bool.false_eq_true, q_bI0, q_bI1, q_cbI, Nat.or_zero, mst_row, mrow_neA, mrow_neB, mrow_self, q_upd, f_X11_thinks_L56, q_worlds h', q_isLeft h' hk, c, hh, Bool.false_and, Bool.or_self, Bool.not_false, bI_t]
    · simp (disch := omega) only [Option.bind_some, Option.map_some, Option.bind_none, q_lit, nI_add, pk_mul, q_sub, q_addn, q_cl, q_le, q_lt, q_eq, q_ck, q_cd, q_cb0, q_cb1, q_div, q_rem, q_shl1, q_shr, q_and, q_or, q_tb, if_pos, if_neg, if_true, if_false, not_true, not_false_iff, eq_self, Bool.true_eq_false, Bool.false_eq_true, q_bI0, q_bI1, q_cbI, Nat.or_zero, mst_row, mrow_neA, mrow_neB, mrow_self, q_upd, f_X11_thinks_L56, q_worlds h', Bool.not_true, Bool.true_or, bI_f]
  · show f_X11_thinks_L56 (nI p) (nI o) (mrow μ (8, 0) R) (bI (!anyN N (fun w => hld r p w0 w && !knw r V n N o q w))) (nI N) = _
    simp (disch := omega) only [Option.bind_some, Option.map_some, Option.bind_none, q_lit, nI_add, pk_mul, q_sub, q_addn, q_cl, q_le, q_lt, q_eq, q_ck, q_cd, q_cb0, q_cb1, q_div, q_rem, q_shl1, q_shr, q_and, q_or, q_tb, if_pos, if_neg, if_true, if_false, not_true, not_false_iff, eq_self, Bool.true_eq_false, Bool.false_eq_true, q_bI0, q_bI1, q_cbI, Nat.or_zero, mst_row, mrow_neA, mrow_neB, mrow_self, q_upd, f_X11_thinks_L56, q_worlds h', Nat.le_refl]
end ONEQ
section ONEK
variable {sh : Sh} {ln : Nat → Nat} {μ : Mm} {j V n N w0 : Nat} {r : Nat → Int32}
theorem k_holdsWorld (h : CS ln μ j V n N w0 r) {p w : Nat} (hp : p < n) (hw : w < N) : f_X4_holdsWorld sh ln j μ (nI p) (nI w) = some (bI (hld r p w0 w)) := by
  have hb := h.1.b
  have l1 := (h.1.hb hp hw).2
  have l2 := (h.1.hb hp hb.2.2.2.2.2).2
  have hh : hld r p w0 w = (lf r w && decide (lab r p w = lab r p w0)) := rfl
  by_cases c : lf r w = true
  · by_cases c2 : lab r p w = lab r p w0
    · simp (disch := omega) only [Option.bind_some, Option.map_some, Option.bind_none, q_lit, nI_add, pk_mul, q_sub, q_addn, q_cl, q_le, q_lt, q_eq, q_ck, q_cd, q_cb0, q_cb1, q_div, q_rem, q_shl1, q_shr, q_and, q_or, q_tb, if_pos, if_neg, if_true, if_false, not_true, not_false_iff, eq_self, Bool.true_eq_false, Bool.false_eq_true, q_bI0, q_bI1, q_cbI, Nat.or_zero, mst_row, mrow_neA, mrow_neB, mrow_self, q_upd, f_X4_holdsWorld, k_stands h hw, c, h.c3, k_group h hp hw, k_group h hp hb.2.2.2.2.2, c2, hh, decide_true, Bool.and_self, bI_t]
    · simp (disch := omega) only [Option.bind_some, Option.map_some, Option.bind_none, q_lit, nI_add, pk_mul, q_sub, q_addn, q_cl, q_le, q_lt, q_eq, q_ck, q_cd, q_cb0, q_cb1, q_div, q_rem, q_shl1, q_shr, q_and, q_or, q_tb, if_pos, if_neg, if_true, if_false, not_true, not_false_iff, eq_self, Bool.true_eq_false, Bool.false_eq_true, q_bI0, q_bI1, q_cbI, Nat.or_zero, mst_row, mrow_neA, mrow_neB, mrow_self, q_upd, f_X4_holdsWorld, k_stands h hw, c, h.c3, k_group h hp hw, k_group h hp hb.2.2.2.2.2, c2, hh, decide_false, Bool.and_false, bI_f]
  · have c := Bool.not_eq_true _ ▸ c
    simp (disch := omega) only [Option.bind_some, Option.map_some, Option.bind_none, q_lit, nI_add, pk_mul, q_sub, q_addn, q_cl, q_le, q_lt, q_eq, q_ck, q_cd, q_cb0, q_cb1, q_div, q_rem, q_shl1, q_shr, q_and, q_or, q_tb, if_pos, if_neg, if_true, if_false, not_true, not_false_iff, eq_self, Bool.true_eq_false, Bool.false_eq_true, q_bI0, q_bI1, q_cbI, Nat.or_zero, mst_row, mrow_neA, mrow_neB, mrow_self, q_upd, f_X4_holdsWorld, k_stands h hw, c, hh, Bool.false_and, bI_f]
theorem k_holds (h : CS ln μ j V n N w0 r) {p : Nat} (hp : p < n) : f_X4_holds sh ln j μ (nI p) = some (nI (cnt N (hld r p w0))) := by
  have hb := h.1.b
  unfold f_X4_holds
  refine Wh_it N (fun k => (nI (cnt k (hld r p w0)), nI k)) rfl (fun k hk => ?_) ?_
  · show f_X4_holds_L5 sh ln j (nI p) μ (nI (cnt k (hld r p w0))) (nI k) = some (.inl (nI (cnt (k + 1) (hld r p w0)), nI (k + 1)))
    rw [cnt_s]
    by_cases c : hld r p w0 k = true
    · simp (disch := omega) only [Option.bind_some, Option.map_some, Option.bind_none, q_lit, nI_add, pk_mul, q_sub, q_addn, q_cl, q_le, q_lt, q_eq, q_ck, q_cd, q_cb0, q_cb1, q_div, q_rem, q_shl1, q_shr, q_and, q_or, q_tb, if_pos, if_neg, if_true, if_false, not_true, not_false_iff, eq_self, Bool.true_eq_false, Bool.false_eq_true, q_bI0, q_bI1, q_cbI, Nat.or_zero, mst_row, mrow_neA, mrow_neB, mrow_self, q_upd, f_X4_holds_L5, h.c2, k_holdsWorld h hp hk, c]
    · have c := Bool.not_eq_true _ ▸ c
      simp (disch := omega) only [Option.bind_some, Option.map_some, Option.bind_none, q_lit, nI_add, pk_mul, q_sub, q_addn, q_cl, q_le, q_lt, q_eq, q_ck, q_cd, q_cb0, q_cb1, q_div, q_rem, q_shl1, q_shr, q_and, q_or, q_tb, if_pos, if_neg, if_true, if_false, not_true, not_false_iff, eq_self, Bool.true_eq_false, Bool.false_eq_true, q_bI0, q_bI1, q_cbI, Nat.or_zero, mst_row, mrow_neA, mrow_neB, mrow_self, q_upd, f_X4_holds_L5, h.c2, k_holdsWorld h hp hk, c]
  · show f_X4_holds_L5 sh ln j (nI p) μ (nI (cnt N (hld r p w0))) (nI N) = _
    simp (disch := omega) only [Option.bind_some, Option.map_some, Option.bind_none, q_lit, nI_add, pk_mul, q_sub, q_addn, q_cl, q_le, q_lt, q_eq, q_ck, q_cd, q_cb0, q_cb1, q_div, q_rem, q_shl1, q_shr, q_and, q_or, q_tb, if_pos, if_neg, if_true, if_false, not_true, not_false_iff, eq_self, Bool.true_eq_false, Bool.false_eq_true, q_bI0, q_bI1, q_cbI, Nat.or_zero, mst_row, mrow_neA, mrow_neB, mrow_self, q_upd, f_X4_holds_L5, h.c2, Nat.le_refl]
theorem k_manyLeft (h : CS ln μ j V n N w0 r) : f_X4_manyLeft sh ln j μ = some (nI (cnt N (lf r))) := by
  have hb := h.1.b
  unfold f_X4_manyLeft
  refine Wh_it N (fun k => (nI (cnt k (lf r)), nI k)) rfl (fun k hk => ?_) ?_
  · show f_X4_manyLeft_L4 sh ln j μ (nI (cnt k (lf r))) (nI k) = some (.inl (nI (cnt (k + 1) (lf r)), nI (k + 1)))
    rw [cnt_s]
    by_cases c : lf r k = true
    · simp (disch := omega) only [Option.bind_some, Option.map_some, Option.bind_none, q_lit, nI_add, pk_mul, q_sub, q_addn, q_cl, q_le, q_lt, q_eq, q_ck, q_cd, q_cb0, q_cb1, q_div, q_rem, q_shl1, q_shr, q_and, q_or, q_tb, if_pos, if_neg, if_true, if_false, not_true, not_false_iff, eq_self, Bool.true_eq_false, Bool.false_eq_true, q_bI0, q_bI1, q_cbI, Nat.or_zero, mst_row, mrow_neA, mrow_neB, mrow_self, q_upd, f_X4_manyLeft_L4, h.c2, k_stands h hk, c]
    · have c := Bool.not_eq_true _ ▸ c
      simp (disch := omega) only [Option.bind_some, Option.map_some, Option.bind_none, q_lit, nI_add, pk_mul, q_sub, q_addn, q_cl, q_le, q_lt, q_eq, q_ck, q_cd, q_cb0, q_cb1, q_div, q_rem, q_shl1, q_shr, q_and, q_or, q_tb, if_pos, if_neg, if_true, if_false, not_true, not_false_iff, eq_self, Bool.true_eq_false, Bool.false_eq_true, q_bI0, q_bI1, q_cbI, Nat.or_zero, mst_row, mrow_neA, mrow_neB, mrow_self, q_upd, f_X4_manyLeft_L4, h.c2, k_stands h hk, c]
  · show f_X4_manyLeft_L4 sh ln j μ (nI (cnt N (lf r))) (nI N) = _
    simp (disch := omega) only [Option.bind_some, Option.map_some, Option.bind_none, q_lit, nI_add, pk_mul, q_sub, q_addn, q_cl, q_le, q_lt, q_eq, q_ck, q_cd, q_cb0, q_cb1, q_div, q_rem, q_shl1, q_shr, q_and, q_or, q_tb, if_pos, if_neg, if_true, if_false, not_true, not_false_iff, eq_self, Bool.true_eq_false, Bool.false_eq_true, q_bI0, q_bI1, q_cbI, Nat.or_zero, mst_row, mrow_neA, mrow_neB, mrow_self, q_upd, f_X4_manyLeft_L4, h.c2, Nat.le_refl]
theorem k_knownBits (h : CS ln μ j V n N w0 r) {p : Nat} (hp : p < n) : f_X4_knownBits sh ln j μ (nI p) = some (nI (set n (fun q => knw r V n N p q w0))) := by
  have hb := h.1.b
  have hw0 := hb.2.2.2.2.2
  unfold f_X4_knownBits
  refine Wh_it n (fun k => (nI (set k (fun q => knw r V n N p q w0)), nI k)) rfl (fun k hk => ?_) ?_
  · show f_X4_knownBits_L5 sh ln j (nI p) μ (nI (set k (fun q => knw r V n N p q w0))) (nI k) = some (.inl (nI (set (k + 1) (fun q => knw r V n N p q w0)), nI (k + 1)))
    rw [set_s]
    have h16 : poss (lf r) (lab r p) (fig V n k) N (lab r p w0) < 16 := poss_16 ⟨hb.1, hb.2.1⟩
    have hm1 := oo_m1 (show poss (lf r) (lab r p) (fig V n k) N (lab r p w0) < 512 by omega)
    have hh : knw r V n N p k w0 = sur (poss (lf r) (lab r p) (fig V n k) N (lab r p w0)) := rfl
    by_cases c : knw r V n N p k w0 = true
    · simp (disch := omega) only [Option.bind_some, Option.map_some, Option.bind_none, q_lit, nI_add, pk_mul, q_sub, q_addn, q_cl, q_le, q_lt, q_eq, q_ck, q_cd, q_cb0, q_cb1, q_div, q_rem, q_shl1, q_shr, q_and, q_or, q_tb, if_pos, if_neg, if_true, if_false, not_true, not_false_iff, eq_self, Bool.true_eq_false, Bool.false_eq_true, q_bI0, q_bI1, q_cbI, Nat.or_zero, mst_row, mrow_neA, mrow_neB, mrow_self, q_upd, f_X4_knownBits_L5, h.c1, h.c3, k_possible h h.stl h.stay hp hk hw0, k_onlyOne (show poss (lf r) (lab r p) (fig V n k) N (lab r p w0) < 512 by omega), hm1, ← hh, c]
    · have c := Bool.not_eq_true _ ▸ c
      simp (disch := omega) only [Option.bind_some, Option.map_some, Option.bind_none, q_lit, nI_add, pk_mul, q_sub, q_addn, q_cl, q_le, q_lt, q_eq, q_ck, q_cd, q_cb0, q_cb1, q_div, q_rem, q_shl1, q_shr, q_and, q_or, q_tb, if_pos, if_neg, if_true, if_false, not_true, not_false_iff, eq_self, Bool.true_eq_false, Bool.false_eq_true, q_bI0, q_bI1, q_cbI, Nat.or_zero, mst_row, mrow_neA, mrow_neB, mrow_self, q_upd, f_X4_knownBits_L5, h.c1, h.c3, k_possible h h.stl h.stay hp hk hw0, k_onlyOne (show poss (lf r) (lab r p) (fig V n k) N (lab r p w0) < 512 by omega), hm1, ← hh, c]
  · show f_X4_knownBits_L5 sh ln j (nI p) μ (nI (set n (fun q => knw r V n N p q w0))) (nI n) = _
    simp (disch := omega) only [Option.bind_some, Option.map_some, Option.bind_none, q_lit, nI_add, pk_mul, q_sub, q_addn, q_cl, q_le, q_lt, q_eq, q_ck, q_cd, q_cb0, q_cb1, q_div, q_rem, q_shl1, q_shr, q_and, q_or, q_tb, if_pos, if_neg, if_true, if_false, not_true, not_false_iff, eq_self, Bool.true_eq_false, Bool.false_eq_true, q_bI0, q_bI1, q_cbI, Nat.or_zero, mst_row, mrow_neA, mrow_neB, mrow_self, q_upd, f_X4_knownBits_L5, h.c1, Nat.le_refl]
theorem k_manyPossible (h : CS ln μ j V n N w0 r) {p : Nat} (hp : p < n) : f_X4_manyPossible sh ln j μ (nI p) = some (nI (poA r V n N p w0 n)) := by
  have hb := h.1.b
  have hw0 := hb.2.2.2.2.2
  unfold f_X4_manyPossible
  refine Wh_it n (fun k => (nI (poA r V n N p w0 k), nI k)) rfl (fun k hk => ?_) ?_
  · show f_X4_manyPossible_L5 sh ln j (nI p) μ (nI (poA r V n N p w0 k)) (nI k) = some (.inl (nI (poA r V n N p w0 k + bc (poss (lf r) (lab r p) (fig V n k) N (lab r p w0))), nI (k + 1)))
    have h16 : poss (lf r) (lab r p) (fig V n k) N (lab r p w0) < 16 := poss_16 ⟨hb.1, hb.2.1⟩
    simp (disch := omega) only [Option.bind_some, Option.map_some, Option.bind_none, q_lit, nI_add, pk_mul, q_sub, q_addn, q_cl, q_le, q_lt, q_eq, q_ck, q_cd, q_cb0, q_cb1, q_div, q_rem, q_shl1, q_shr, q_and, q_or, q_tb, if_pos, if_neg, if_true, if_false, not_true, not_false_iff, eq_self, Bool.true_eq_false, Bool.false_eq_true, q_bI0, q_bI1, q_cbI, Nat.or_zero, mst_row, mrow_neA, mrow_neB, mrow_self, q_upd, f_X4_manyPossible_L5, h.c1, h.c3, k_possible h h.stl h.stay hp hk hw0, k_bc (show poss (lf r) (lab r p) (fig V n k) N (lab r p w0) < 512 by omega)]
  · show f_X4_manyPossible_L5 sh ln j (nI p) μ (nI (poA r V n N p w0 n)) (nI n) = _
    simp (disch := omega) only [Option.bind_some, Option.map_some, Option.bind_none, q_lit, nI_add, pk_mul, q_sub, q_addn, q_cl, q_le, q_lt, q_eq, q_ck, q_cd, q_cb0, q_cb1, q_div, q_rem, q_shl1, q_shr, q_and, q_or, q_tb, if_pos, if_neg, if_true, if_false, not_true, not_false_iff, eq_self, Bool.true_eq_false, Bool.false_eq_true, q_bI0, q_bI1, q_cbI, Nat.or_zero, mst_row, mrow_neA, mrow_neB, mrow_self, q_upd, f_X4_manyPossible_L5, h.c1, Nat.le_refl]
theorem k_thinks (h : CS ln μ j V n N w0 r) (hL : LN ln) {p o q : Nat} (hp : p < n) (ho : o < n) (hq : q < n) :
    ∃ R, f_X4_knowsThat sh ln j μ (nI p) (nI o) (nI q) = some (bI (!anyN N (fun w => hld r p w0 w && !knw r V n N o q w)), mrow μ (12, 2) R) := by
  have hb := h.1.b
  obtain ⟨R, e, hR⟩ := k_spot (sh := sh) h hL h.stl (by omega) h.stay ho hq
  have h' := h.rowS (a := 12) (b := 2) R (by omega) (by omega)
  refine ⟨R, ?_⟩
  have hh : ∃ x, f_X4_knowsThat sh ln j μ (nI p) (nI o) (nI q) = some x ∧ x = (bI (!anyN N (fun w => hld r p w0 w && !knw r V n N o q w)), mrow μ (12, 2) R) := by
    rw [f_X4_knowsThat, e, Option.bind_some]
    refine Wh_inv N (fun k s => s = nI k ∧ anyN k (fun w => hld r p w0 w && !knw r V n N o q w) = false) _ ⟨rfl, rfl⟩ ?_ ?_
    · rintro k _ hk ⟨rfl, hA⟩
      have l3 := (h.1.hb ho hk).2
      have h16 : poss (lf r) (lab r o) (fig V n q) N (lab r o k) < 16 := poss_16 ⟨hb.1, hb.2.1⟩
      have hm1 := oo_m1 (show poss (lf r) (lab r o) (fig V n q) N (lab r o k) < 512 by omega)
      have hh : knw r V n N o q k = sur (poss (lf r) (lab r o) (fig V n q) N (lab r o k)) := rfl
      have e2 : f_X4_spotted sh ln j (mrow μ (12, 2) R) (nI o) (nI k) = some (nI (poss (lf r) (lab r o) (fig V n q) N (lab r o k))) := by
        rw [k_spotted h' hL ho hk, mrow_self, hR _ l3]
      by_cases c : hld r p w0 k = true
      · by_cases c3 : knw r V n N o q k = true
        · refine Or.inl ⟨nI (k + 1), ?_, rfl, by rw [anyN, hA]; simp [c3]⟩
          show f_X4_knowsThat_L15 sh ln j (nI p) (nI o) (mrow μ (12, 2) R) (nI k) = _
          simp (disch := omega) only [Option.bind_some, Option.map_some, Option.bind_none, q_lit, nI_add, pk_mul, q_sub, q_addn, q_cl, q_le, q_lt, q_eq, q_ck, q_cd, q_cb0, q_cb1, q_div, q_rem, q_shl1, q_shr, q_and, q_or, q_tb, if_pos, if_neg, if_true, if_false, not_true, not_false_iff, eq_self, Bool.true_eq_false, Bool.false_eq_true, q_bI0, q_bI1, q_cbI, Nat.or_zero, mst_row, mrow_neA, mrow_neB, mrow_self, q_upd, f_X4_knowsThat_L15, h'.c2, k_holdsWorld h' hp hk, c, e2, k_onlyOne (show poss (lf r) (lab r o) (fig V n q) N (lab r o k) < 512 by omega), hm1, ← hh, c3]
        · have c3 := Bool.not_eq_true _ ▸ c3
          refine Or.inr ⟨(nI 0, mrow μ (12, 2) R), ?_, ?_⟩
          · show f_X4_knowsThat_L15 sh ln j (nI p) (nI o) (mrow μ (12, 2) R) (nI k) = _
            simp (disch := omega) only [Option.bind_some, Option.map_some, Option.bind_none, q_lit, nI_add, pk_mul, q_sub, q_addn, q_cl, q_le, q_lt, q_eq, q_ck, q_cd, q_cb0, q_cb1, q_div, q_rem, q_shl1, q_shr, q_and, q_or, q_tb, if_pos, if_neg, if_true, if_false, not_true, not_false_iff, eq_self, Bool.true_eq_false, Bool.false_eq_true, q_bI0, q_bI1, q_cbI, Nat.or_zero, mst_row, mrow_neA, mrow_neB, mrow_self, q_upd, f_X4_knowsThat_L15, h'.c2, k_holdsWorld h' hp hk, c, e2, k_onlyOne (show poss (lf r) (lab r o) (fig V n q) N (lab r o k) < 512 by omega), hm1, ← hh, c3]
          · have : anyN N (fun w => hld r p w0 w && !knw r V n N o q w) = true := anyN_iff.mpr ⟨k, hk, by simp [c, c3]⟩
            rw [this]
            rfl
      · have c := Bool.not_eq_true _ ▸ c
        refine Or.inl ⟨nI (k + 1), ?_, rfl, by rw [anyN, hA]; simp [c]⟩
        show f_X4_knowsThat_L15 sh ln j (nI p) (nI o) (mrow μ (12, 2) R) (nI k) = _
        simp (disch := omega) only [Option.bind_some, Option.map_some, Option.bind_none, q_lit, nI_add, pk_mul, q_sub, q_addn, q_cl, q_le, q_lt, q_eq, q_ck, q_cd, q_cb0, q_cb1, q_div, q_rem, q_shl1, q_shr, q_and, q_or, q_tb, if_pos, if_neg, if_true, if_false, not_true, not_false_iff, eq_self, Bool.true_eq_false, Bool.false_eq_true, q_bI0, q_bI1, q_cbI, Nat.or_zero, mst_row, mrow_neA, mrow_neB, mrow_self, q_upd, f_X4_knowsThat_L15, h'.c2, k_holdsWorld h' hp hk, c]
    · rintro _ ⟨rfl, hA⟩
      refine ⟨(nI 1, mrow μ (12, 2) R), ?_, by rw [hA]; rfl⟩
      show f_X4_knowsThat_L15 sh ln j (nI p) (nI o) (mrow μ (12, 2) R) (nI N) = _
      simp (disch := omega) only [Option.bind_some, Option.map_some, Option.bind_none, q_lit, nI_add, pk_mul, q_sub, q_addn, q_cl, q_le, q_lt, q_eq, q_ck, q_cd, q_cb0, q_cb1, q_div, q_rem, q_shl1, q_shr, q_and, q_or, q_tb, if_pos, if_neg, if_true, if_false, not_true, not_false_iff, eq_self, Bool.true_eq_false, Bool.false_eq_true, q_bI0, q_bI1, q_cbI, Nat.or_zero, mst_row, mrow_neA, mrow_neB, mrow_self, q_upd, f_X4_knowsThat_L15, h'.c2, Nat.le_refl]
  obtain ⟨_, e, rfl⟩ := hh
  exact e
end ONEK
